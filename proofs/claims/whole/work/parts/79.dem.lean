/-! ===== what a set of orders needs, against what is free: the rows' side ===== -/
def ndk (a : am_S) (j : Nat) : Nat := (a.1 52 j).toNatClampNeg
def ndd (a : am_S) (j : Nat) : Nat := if a.1 53 j = -1 then 0 else (a.1 53 j).toNatClampNeg + 1
def ndm (a : am_S) (j : Nat) : Nat := (a.1 51 j).toNatClampNeg
def ndn (a : am_S) (o : Nat) : Nat := (a.1 50 o).toNatClampNeg
def nd_t (a : am_S) (O : Nat) : Prop := ∀ o, o < O → ndn a o ≤ 4 ∧ a.1 50 o = nI (ndn a o) ∧ ∀ i, i < ndn a o → a.1 51 (o * 4 + i) = nI (ndm a (o * 4 + i)) ∧ 1 ≤ ndm a (o * 4 + i) ∧ ndm a (o * 4 + i) ≤ 20 ∧ a.1 52 (o * 4 + i) = nI (ndk a (o * 4 + i)) ∧ ndk a (o * 4 + i) < 8 ∧ a.1 53 (o * 4 + i) = cI (ndd a (o * 4 + i)) ∧ ndd a (o * 4 + i) < 6
theorem nd_of {a : am_S} (ho : ri_ords a) (hk : ri_kinds a) {O : Nat} (eO : a.1 46 0 = nI O) (hO : O ≤ 8) : nd_t a O := by
  intro o h
  obtain ⟨-, -, n, n1, n2, n3⟩ := ho.2 o (by rw [eO, nI_clamp (by omega)]; exact h)
  have en : ndn a o = n := by unfold ndn; rw [n2, nI_clamp (by omega)]
  rw [en]
  refine ⟨n1, n2, fun i hi => ?_⟩
  obtain ⟨⟨w, w1, w2, w3⟩, ⟨k, k1, k2⟩, c⟩ := n3 i hi
  obtain ⟨K, K1, K2⟩ := hk.1
  rw [K2, nI_clamp (by omega)] at k1
  have em : ndm a (o * 4 + i) = w := by unfold ndm; rw [w3, nI_clamp (by omega)]
  have ek : ndk a (o * 4 + i) = k := by unfold ndk; rw [k2, nI_clamp (by omega)]
  rw [em, ek]
  refine ⟨w3, w1, w2, k2, by omega, ?_, ?_⟩
  · rcases c with c | ⟨c, c1, c2⟩
    · unfold ndd; rw [if_pos c, c]; rfl
    · have e : ndd a (o * 4 + i) = c + 1 := by unfold ndd; rw [if_neg (by rw [c2]; exact nI_nm1 (by omega)), c2, nI_clamp (by omega)]
      rw [e, c2]; rfl
  · rcases c with c | ⟨c, c1, c2⟩
    · unfold ndd; rw [if_pos c]; decide
    · have e : ndd a (o * 4 + i) = c + 1 := by unfold ndd; rw [if_neg (by rw [c2]; exact nI_nm1 (by omega)), c2, nI_clamp (by omega)]
      omega
def dmI (a : am_S) (o k d : Nat) : Nat → Nat
  | 0 => 0
  | i + 1 => dmI a o k d i + (if ndk a (o * 4 + i) = k ∧ ndd a (o * 4 + i) = d then ndm a (o * 4 + i) else 0)
def dmO (a : am_S) (S k d : Nat) : Nat → Nat
  | 0 => 0
  | o + 1 => dmO a S k d o + (if S.testBit o then dmI a o k d (ndn a o) else 0)
theorem dmI_mono (a : am_S) (o k d : Nat) {i j : Nat} (h : i ≤ j) : dmI a o k d i ≤ dmI a o k d j := by
  induction j with
  | zero => have : i = 0 := by omega
            subst this; exact Nat.le_refl _
  | succ j ih =>
    by_cases e : i = j + 1
    · subst e; exact Nat.le_refl _
    · have := ih (by omega)
      rw [dmI]; omega
theorem dmO_mono (a : am_S) (S k d : Nat) {i j : Nat} (h : i ≤ j) : dmO a S k d i ≤ dmO a S k d j := by
  induction j with
  | zero => have : i = 0 := by omega
            subst this; exact Nat.le_refl _
  | succ j ih =>
    by_cases e : i = j + 1
    · subst e; exact Nat.le_refl _
    · have := ih (by omega)
      rw [dmO]; omega
theorem dmI_le {a : am_S} {O o : Nat} (ht : nd_t a O) (ho : o < O) (k d : Nat) : ∀ i, i ≤ ndn a o → dmI a o k d i ≤ 20 * i := by
  intro i
  induction i with
  | zero => intro _; exact Nat.le_refl _
  | succ i ih =>
    intro hi
    have := ih (by omega)
    have := ((ht o ho).2.2 i (by omega)).2.2.1
    rw [dmI]
    split <;> omega
theorem dmO_le {a : am_S} {O : Nat} (ht : nd_t a O) (S k d : Nat) : ∀ o, o ≤ O → dmO a S k d o ≤ 80 * o := by
  intro o
  induction o with
  | zero => intro _; exact Nat.le_refl _
  | succ o ih =>
    intro ho
    have := ih (by omega)
    have := dmI_le ht (show o < O by omega) k d (ndn a o) (Nat.le_refl _)
    have := (ht o (by omega)).1
    rw [dmO]
    split <;> omega
theorem row_eq : ∀ k, k < 8 → ∀ d, d < 6 → nI k * 6 + cI d + 1 = nI (k * 6 + d) := by decide +kernel
theorem zr_row (c : Nat) : ∀ (n i : Nat) (a : am_S), i ≤ 48 → 48 < i + n → ∃ a', f_X0_clear_L2 c n (nI i) a = some (.inr ((), a')) ∧ rw_on [c] a' a ∧ (∀ j, j < i → a'.1 c j = a.1 c j) ∧ ∀ j, i ≤ j → j < 48 → a'.1 c j = 0 := by
  intro n
  induction n with
  | zero => intro i a h1 h2; omega
  | succ n ih =>
    intro i a h1 h2
    have d4 : nI i + 1 = nI (i + 1) := nI_1 i
    by_cases hi : i < 48
    · have d1 : nI i < 48 := nI_lt (b := 48) (by omega) (by decide)
      have d2 : am_in (nI i) 48 = true := rl_nin (by decide) (by omega)
      have d3 : (nI i).toNatClampNeg = i := nI_clamp (by omega)
      obtain ⟨a', g1, g2, g3, g4⟩ := ih (i + 1) (am_wI a c i 0) (by omega) (by omega)
      refine ⟨a', by simp [f_X0_clear_L2, d1, am_gu, d2, d3, d4, g1], g2.trans ((rw_on.refl _ _).w (by simp) _ _), fun j q => ?_, fun j q1 q2 => ?_⟩
      · rw [g3 j (by omega), rl_ws]
        simp [show j ≠ i by omega]
      · by_cases e : j = i
        · subst e
          rw [g3 j (by omega), rl_ws]
          simp
        · exact g4 j (by omega) q2
    · have d1 : ¬ nI i < 48 := nI_nlt (b := 48) (by omega) (by omega)
      exact ⟨a, by simp [f_X0_clear_L2, d1], rw_on.refl _ _, fun _ _ => rfl, fun j q1 q2 => by omega⟩
theorem zr_all (c : Nat) (a : am_S) : ∃ a', f_X0_clear c a = some ((), a') ∧ rw_on [c] a' a ∧ ∀ j, j < 48 → a'.1 c j = 0 := by
  obtain ⟨a', g1, g2, -, g4⟩ := zr_row c am_FU 0 a (by omega) (by unfold am_FU; omega)
  have g1 : f_X0_clear_L2 c am_FU 0 a = _ := g1
  exact ⟨a', by simp only [f_X0_clear, g1, am_lp], g2, fun j hj => g4 j (by omega) hj⟩
theorem ix6' {k k' u u' : Nat} (h : u < 6) (h' : u' < 6) (q : k * 6 + u = k' * 6 + u') : k = k' ∧ u = u' := by omega
theorem sp_loop {a0 : am_S} {N : Nat} (ht : fg_t a0 N) (hN : N ≤ 400) (eN : a0.1 39 1 = nI N) : ∀ (n i : Nat) (a : am_S), rw_on [55] a a0 → i ≤ N → N < i + n → (∀ k d, k < 8 → d < 6 → a.1 55 (k * 6 + d) = nI (fr a0 k d i)) → ∃ a', f_X0_countSupply_L9 n (nI i) a = some (.inr ((), a')) ∧ rw_on [55] a' a0 ∧ ∀ k d, k < 8 → d < 6 → a'.1 55 (k * 6 + d) = nI (fr a0 k d N) := by
  intro n
  induction n with
  | zero => intro i a h h1 h2; omega
  | succ n ih =>
    intro i a h h1 h2 hc
    have d4 : nI i + 1 = nI (i + 1) := nI_1 i
    have en : a.1 39 1 = nI N := by rw [(h 39 (by simp)).1]; exact eN
    by_cases hi : i < N
    · have d1 : nI i < nI N := nI_lt (by omega) (by omega)
      have d2 : am_in (nI i) 400 = true := rl_nin (by decide) (by omega)
      have d3 : (nI i).toNatClampNeg = i := nI_clamp (by omega)
      have k1 : f_X3_kindOf a (nI i) = some (nI (fk a0 i), a) := by
        have q := fx_kind ht hi hN
        simp only [f_X3_kindOf] at q ⊢
        rw [(h 40 (by simp)).1, (h 36 (by simp)).1]
        have q' := congrArg (Option.map (fun p : Int32 × am_S => (p.1, a))) q
        simp only [am_gu] at q' ⊢
        revert q'
        cases am_in (nI i) 400 <;> cases am_in (a0.1 40 (nI i).toNatClampNeg) 200 <;> simp
      have k2 : f_X3_colourOf a (nI i) = some (cI (fc a0 i), a) := by
        obtain ⟨-, -, -, q⟩ := ht i hi
        rcases q with ⟨q1, q2⟩ | ⟨q1, l, l1, l2, l3, l4⟩
        · simp [f_X3_colourOf, am_gu, d2, d3, (h 42 (by simp)).1, q1, q2, cI]
        · have c3 : am_in (nI l) 20 = true := rl_nin (by decide) (by omega)
          have c4 : (nI l).toNatClampNeg = l := nI_clamp (by omega)
          rw [l2] at q1
          simp [f_X3_colourOf, am_gu, d2, d3, (h 42 (by simp)).1, (h 45 (by simp)).1, q1, l2, c3, c4, l3]
      have e43 : a.1 43 i = a0.1 43 i := congrFun (h 43 (by simp)).1 i
      obtain ⟨t1, t2, -, -⟩ := ht i hi
      by_cases c : a0.1 43 i = -1
      · have c5 := row_eq (fk a0 i) t1 (fc a0 i) t2
        have c6 : am_in (nI (fk a0 i * 6 + fc a0 i)) 48 = true := rl_nin (by decide) (by omega)
        have c7 : (nI (fk a0 i * 6 + fc a0 i)).toNatClampNeg = fk a0 i * 6 + fc a0 i := nI_clamp (by omega)
        have c8 : a.1 55 (fk a0 i * 6 + fc a0 i) + 1 = nI (fr a0 (fk a0 i) (fc a0 i) i + 1) := by rw [hc _ _ t1 t2]; exact nI_1 _
        obtain ⟨a', g1, g2, g3⟩ := ih (i + 1) (am_wI a 55 (fk a0 i * 6 + fc a0 i) (nI (fr a0 (fk a0 i) (fc a0 i) i + 1))) (h.w (by simp) _ _) (by omega) (by omega) (fun k d hk hd => by
          rw [rl_ws, fr]
          by_cases q : k = fk a0 i ∧ d = fc a0 i
          · rw [q.1, q.2]
            simp [c]
          · have q2 : ¬ k * 6 + d = fk a0 i * 6 + fc a0 i := fun y => q (ix6' hd t2 y)
            have q3 : ¬ (a0.1 43 i = -1 ∧ fk a0 i = k ∧ fc a0 i = d) := fun y => q ⟨y.2.1.symm, y.2.2.symm⟩
            simp only [q2, q3, if_false]
            exact hc k d hk hd)
        refine ⟨a', ?_, g2, g3⟩
        simp only [f_X0_countSupply_L9, en, if_pos d1, rl_gu d2, d3, e43, if_pos c, am_jn, bd_some k1, bd_some k2, f_X0_row, rl_bd, c5, rl_gu c6, c7, c8, d4]
        exact g1
      · obtain ⟨a', g1, g2, g3⟩ := ih (i + 1) a h (by omega) (by omega) (fun k d hk hd => by
          rw [fr, if_neg (fun q => c q.1)]
          exact hc k d hk hd)
        exact ⟨a', by simp only [f_X0_countSupply_L9, en, if_pos d1, rl_gu d2, d3, e43, if_neg c, am_jn, d4]; exact g1, g2, g3⟩
    · have d1 : ¬ nI i < nI N := nI_nlt (by omega) (by omega)
      have e : i = N := by omega
      subst e
      exact ⟨a, by simp only [f_X0_countSupply_L9, en, if_neg d1], h, hc⟩
theorem sp_all {a0 : am_S} {N : Nat} (ht : fg_t a0 N) (hN : N ≤ 400) (eN : a0.1 39 1 = nI N) : ∃ a', f_X0_countSupply a0 = some ((), a') ∧ rw_on [55] a' a0 ∧ ∀ k d, k < 8 → d < 6 → a'.1 55 (k * 6 + d) = nI (fr a0 k d N) := by
  obtain ⟨a1, g1, g2, g3⟩ := zr_all 55 a0
  obtain ⟨a2, k1, k2, k3⟩ := sp_loop ht hN eN am_FU 0 a1 g2 (by omega) (by unfold am_FU; omega) (fun k d hk hd => g3 _ (by omega))
  have k1 : f_X0_countSupply_L9 am_FU 0 a1 = _ := k1
  exact ⟨a2, by simp only [f_X0_countSupply, bd_some g1, k1, am_lp], k2, k3⟩
theorem dm_in {a0 : am_S} {O o S : Nat} {D : Nat → Nat → Nat} (hO : O ≤ 8) (ht : nd_t a0 O) (ho : o < O) : ∀ (n i : Nat) (a : am_S), rw_on [56] a a0 → i ≤ ndn a0 o → ndn a0 o < i + n → (∀ k d, k < 8 → d < 6 → a.1 56 (k * 6 + d) = nI (D k d + dmI a0 o k d i)) → ∃ a', f_X0_countDemand_L30 n (nI S) (nI o) (nI i) a = some (.inr ((), a')) ∧ rw_on [56] a' a0 ∧ ∀ k d, k < 8 → d < 6 → a'.1 56 (k * 6 + d) = nI (D k d + dmI a0 o k d (ndn a0 o)) := by
  obtain ⟨t1, t2, t3⟩ := ht o ho
  intro n
  induction n with
  | zero => intro i a h h1 h2; omega
  | succ n ih =>
    intro i a h h1 h2 hc
    have o2 : am_in (nI o) 8 = true := rl_nin (by decide) (by omega)
    have o3 : (nI o).toNatClampNeg = o := nI_clamp (by omega)
    have e50 : a.1 50 o = nI (ndn a0 o) := by rw [(h 50 (by simp)).1]; exact t2
    have d4 : nI i + 1 = nI (i + 1) := nI_1 i
    by_cases hi : i < ndn a0 o
    · have d1 : nI i < nI (ndn a0 o) := nI_lt hi (by omega)
      have j1 : nI o * 4 + nI i = nI (o * 4 + i) := rl_ix2 (w := 4)
      have j2 : am_in (nI (o * 4 + i)) 32 = true := rl_nin (by decide) (by omega)
      have j3 : (nI (o * 4 + i)).toNatClampNeg = o * 4 + i := nI_clamp (by omega)
      obtain ⟨u1, u2, u3, u4, u5, u6, u7⟩ := t3 i hi
      have e51 : a.1 51 (o * 4 + i) = nI (ndm a0 (o * 4 + i)) := by rw [(h 51 (by simp)).1]; exact u1
      have e52 : a.1 52 (o * 4 + i) = nI (ndk a0 (o * 4 + i)) := by rw [(h 52 (by simp)).1]; exact u4
      have e53 : a.1 53 (o * 4 + i) = cI (ndd a0 (o * 4 + i)) := by rw [(h 53 (by simp)).1]; exact u6
      have c5 := row_eq (ndk a0 (o * 4 + i)) u5 (ndd a0 (o * 4 + i)) u7
      have c6 : am_in (nI (ndk a0 (o * 4 + i) * 6 + ndd a0 (o * 4 + i))) 48 = true := rl_nin (by decide) (by omega)
      have c7 : (nI (ndk a0 (o * 4 + i) * 6 + ndd a0 (o * 4 + i))).toNatClampNeg = ndk a0 (o * 4 + i) * 6 + ndd a0 (o * 4 + i) := nI_clamp (by omega)
      have c8 : a.1 56 (ndk a0 (o * 4 + i) * 6 + ndd a0 (o * 4 + i)) + nI (ndm a0 (o * 4 + i)) = nI (D (ndk a0 (o * 4 + i)) (ndd a0 (o * 4 + i)) + dmI a0 o (ndk a0 (o * 4 + i)) (ndd a0 (o * 4 + i)) i + ndm a0 (o * 4 + i)) := by rw [hc _ _ u5 u7, nI_add]
      obtain ⟨a', g1, g2, g3⟩ := ih (i + 1) (am_wI a 56 (ndk a0 (o * 4 + i) * 6 + ndd a0 (o * 4 + i)) (nI (D (ndk a0 (o * 4 + i)) (ndd a0 (o * 4 + i)) + dmI a0 o (ndk a0 (o * 4 + i)) (ndd a0 (o * 4 + i)) i + ndm a0 (o * 4 + i)))) (h.w (by simp) _ _) (by omega) (by omega) (fun k d hk hd => by
        rw [rl_ws, dmI]
        by_cases q : k = ndk a0 (o * 4 + i) ∧ d = ndd a0 (o * 4 + i)
        · rw [q.1, q.2]
          simp [Nat.add_assoc]
        · have q2 : ¬ k * 6 + d = ndk a0 (o * 4 + i) * 6 + ndd a0 (o * 4 + i) := fun y => q (ix6' hd u7 y)
          have q3 : ¬ (ndk a0 (o * 4 + i) = k ∧ ndd a0 (o * 4 + i) = d) := fun y => q ⟨y.1.symm, y.2.symm⟩
          simp only [q2, q3, if_false]
          exact hc k d hk hd)
      refine ⟨a', ?_, g2, g3⟩
      simp only [f_X0_countDemand_L30, rl_gu o2, o3, e50, if_pos d1, j1, rl_gu j2, j3, e52, e53, f_X0_row, rl_bd, c5, rl_gu c6, c7, e51, c8, d4]
      exact g1
    · have d1 : ¬ nI i < nI (ndn a0 o) := nI_nlt (by omega) (by omega)
      have e : i = ndn a0 o := by omega
      refine ⟨a, by simp only [f_X0_countDemand_L30, rl_gu o2, o3, e50, if_neg d1], h, ?_⟩
      rw [← e]
      exact hc
theorem dm_out {a0 : am_S} {O S : Nat} (hO : O ≤ 8) (hS : S < 256) (eO : a0.1 46 0 = nI O) (ht : nd_t a0 O) : ∀ (n o : Nat) (a : am_S), rw_on [56] a a0 → o ≤ O → O < o + n → (∀ k d, k < 8 → d < 6 → a.1 56 (k * 6 + d) = nI (dmO a0 S k d o)) → ∃ a', f_X0_countDemand_L9 n (nI S) (nI o) a = some (.inr ((), a')) ∧ rw_on [56] a' a0 ∧ ∀ k d, k < 8 → d < 6 → a'.1 56 (k * 6 + d) = nI (dmO a0 S k d O) := by
  intro n
  induction n with
  | zero => intro o a h h1 h2; omega
  | succ n ih =>
    intro o a h h1 h2 hc
    have en : a.1 46 0 = nI O := by rw [(h 46 (by simp)).1]; exact eO
    have d4 : nI o + 1 = nI (o + 1) := nI_1 o
    by_cases ho : o < O
    · have d1 : nI o < nI O := nI_lt ho (by omega)
      have i1 := bs_in a hS (show o < 8 by omega)
      cases hb : S.testBit o with
      | false =>
        rw [hb] at i1
        have i1 : f_X5_isIn a (nI S) (nI o) = some (0, a) := i1
        obtain ⟨a', g1, g2, g3⟩ := ih (o + 1) a h (by omega) (by omega) (fun k d hk hd => by rw [dmO, hb]; exact hc k d hk hd)
        exact ⟨a', by simp only [f_X0_countDemand_L9, en, if_pos d1, bd_some i1, am_jn, if_true, d4]; exact g1, g2, g3⟩
      | true =>
        rw [hb] at i1
        have i1 : f_X5_isIn a (nI S) (nI o) = some (1, a) := i1
        have z : ¬ (1 : Int32) = 0 := by decide
        obtain ⟨a1, k1, k2, k3⟩ := dm_in (S := S) (D := fun k d => dmO a0 S k d o) hO ht ho am_FU 0 a h (by omega) (by have := (ht o ho).1; unfold am_FU; omega) (fun k d hk hd => hc k d hk hd)
        have k1 : f_X0_countDemand_L30 am_FU (nI S) (nI o) 0 a = _ := k1
        obtain ⟨a', g1, g2, g3⟩ := ih (o + 1) a1 k2 (by omega) (by omega) (fun k d hk hd => by rw [dmO, hb]; exact k3 k d hk hd)
        exact ⟨a', by simp only [f_X0_countDemand_L9, en, if_pos d1, bd_some i1, am_jn, if_neg z, k1, am_lp, d4]; exact g1, g2, g3⟩
    · have d1 : ¬ nI o < nI O := nI_nlt (by omega) (by omega)
      have e : o = O := by omega
      subst e
      exact ⟨a, by simp only [f_X0_countDemand_L9, en, if_neg d1], h, hc⟩
theorem dm_all {a0 : am_S} {O S : Nat} (hO : O ≤ 8) (hS : S < 256) (eO : a0.1 46 0 = nI O) (ht : nd_t a0 O) : ∃ a', f_X0_countDemand a0 (nI S) = some ((), a') ∧ rw_on [56] a' a0 ∧ ∀ k d, k < 8 → d < 6 → a'.1 56 (k * 6 + d) = nI (dmO a0 S k d O) := by
  obtain ⟨a1, g1, g2, g3⟩ := zr_all 56 a0
  obtain ⟨a2, k1, k2, k3⟩ := dm_out hO hS eO ht am_FU 0 a1 g2 (by omega) (by unfold am_FU; omega) (fun k d hk hd => g3 _ (by omega))
  have k1 : f_X0_countDemand_L9 am_FU (nI S) 0 a1 = _ := k1
  exact ⟨a2, by simp only [f_X0_countDemand, bd_some g1, k1, am_lp], k2, k3⟩
def iI (z : Int) : Int32 := Int32.ofInt z
theorem iI_n (n : Nat) : nI n = iI n := rfl
theorem iI_sub (x y : Nat) : nI x - nI y = iI ((x : Int) - y) := by rw [iI_n, iI_n]; exact (Int32.ofInt_sub _ _).symm
theorem iI_add (x y : Int) : iI x + iI y = iI (x + y) := (Int32.ofInt_add _ _).symm
theorem iI_neg {z : Int} (h1 : -(2 ^ 31) ≤ z) (h2 : z < 2 ^ 31) : iI z < 0 ↔ z < 0 := by
  rw [Int32.lt_iff_toInt_lt]
  have e : (iI z).toInt = z := Int32.toInt_ofInt_of_le h1 h2
  rw [e]
  rfl
/-- enough for kind k -/
def CF (s d : Nat → Nat) : Prop := (∀ c, 1 ≤ c → c < 6 → d c ≤ s c) ∧ d 0 + d 1 + d 2 + d 3 + d 4 + d 5 ≤ s 0 + s 1 + s 2 + s 3 + s 4 + s 5
def sd (s d : Nat → Nat) : Nat → Int
  | 0 => (s 0 : Int) - d 0
  | c + 1 => sd s d c + ((s (c + 1) : Int) - d (c + 1))
theorem sd_5 (s d : Nat → Nat) : sd s d 5 = ((s 0 + s 1 + s 2 + s 3 + s 4 + s 5 : Nat) : Int) - ((d 0 + d 1 + d 2 + d 3 + d 4 + d 5 : Nat) : Int) := by
  simp only [sd, Nat.zero_add, show 1 + 1 = 2 from rfl, show 2 + 1 = 3 from rfl, show 3 + 1 = 4 from rfl, show 4 + 1 = 5 from rfl]
  omega
theorem cf_in {a : am_S} {k : Nat} {s d : Nat → Nat} (hk : k < 8) (hs : ∀ c, c < 6 → s c ≤ 1000) (hd : ∀ c, c < 6 → d c ≤ 1000) (es : ∀ c, c < 6 → a.1 55 (k * 6 + c) = nI (s c)) (ed : ∀ c, c < 6 → a.1 56 (k * 6 + c) = nI (d c)) : ∀ (n c : Nat), c ≤ 5 → 5 < c + n → (f_X0_canFill_L38 n (nI k) (iI (sd s d c)) (nI c) a = some (.inl (0, a)) ∧ ∃ j, 1 ≤ j ∧ j < 6 ∧ s j < d j) ∨ (f_X0_canFill_L38 n (nI k) (iI (sd s d c)) (nI c) a = some (.inr (iI (sd s d 5), a)) ∧ ∀ j, c < j → j < 6 → d j ≤ s j) := by
  intro n
  induction n with
  | zero => intro c h1 h2; omega
  | succ n ih =>
    intro c h1 h2
    by_cases hc : c < 5
    · have d1 : nI c < 5 := nI_lt (b := 5) hc (by decide)
      have d4 : nI c + 1 = nI (c + 1) := nI_1 c
      have c5 : nI k * 6 + nI c + 1 = nI (k * 6 + (c + 1)) := row_eq k hk (c + 1) (by omega)
      have c6 : am_in (nI (k * 6 + (c + 1))) 48 = true := rl_nin (by decide) (by omega)
      have c7 : (nI (k * 6 + (c + 1))).toNatClampNeg = k * 6 + (c + 1) := nI_clamp (by omega)
      have b1 := hs (c + 1) (by omega)
      have b2 := hd (c + 1) (by omega)
      have e1 : nI (s (c + 1)) - nI (d (c + 1)) = iI ((s (c + 1) : Int) - d (c + 1)) := iI_sub _ _
      by_cases q : s (c + 1) < d (c + 1)
      · have q1 : iI ((s (c + 1) : Int) - d (c + 1)) < 0 := (iI_neg (by omega) (by omega)).mpr (by omega)
        refine Or.inl ⟨?_, c + 1, by omega, by omega, q⟩
        simp only [f_X0_canFill_L38, if_pos d1, f_X0_row, rl_bd, c5, rl_gu c6, c7, es (c + 1) (by omega), ed (c + 1) (by omega), e1, if_pos q1]
      · have q1 : ¬ iI ((s (c + 1) : Int) - d (c + 1)) < 0 := fun z => absurd ((iI_neg (by omega) (by omega)).mp z) (by omega)
        have e2 : iI (sd s d c) + iI ((s (c + 1) : Int) - d (c + 1)) = iI (sd s d (c + 1)) := iI_add _ _
        have st1 : f_X0_canFill_L38 (n + 1) (nI k) (iI (sd s d c)) (nI c) a = f_X0_canFill_L38 n (nI k) (iI (sd s d (c + 1))) (nI (c + 1)) a := by
          simp only [f_X0_canFill_L38, if_pos d1, f_X0_row, rl_bd, c5, rl_gu c6, c7, es (c + 1) (by omega), ed (c + 1) (by omega), e1, if_neg q1, e2, d4]
        rw [st1]
        rcases ih (c + 1) (by omega) (by omega) with g | ⟨g1, g2⟩
        · exact Or.inl g
        · refine Or.inr ⟨g1, fun j q1 q2 => ?_⟩
          by_cases e : j = c + 1
          · subst e; omega
          · exact g2 j (by omega) q2
    · have d1 : ¬ nI c < 5 := nI_nlt (b := 5) (by omega) (by omega)
      have e : c = 5 := by omega
      subst e
      exact Or.inr ⟨by simp only [f_X0_canFill_L38, if_neg d1], fun j q1 q2 => by omega⟩
theorem cf_out {a : am_S} {s d : Nat → Nat → Nat} (hs : ∀ k c, k < 8 → c < 6 → s k c ≤ 1000) (hd : ∀ k c, k < 8 → c < 6 → d k c ≤ 1000) (es : ∀ k c, k < 8 → c < 6 → a.1 55 (k * 6 + c) = nI (s k c)) (ed : ∀ k c, k < 8 → c < 6 → a.1 56 (k * 6 + c) = nI (d k c)) : ∀ (n k : Nat), k ≤ 8 → 8 < k + n → (f_X0_canFill_L7 n (nI k) a = some (.inl (0, a)) ∧ ∃ j, j < 8 ∧ ¬ CF (s j) (d j)) ∨ (f_X0_canFill_L7 n (nI k) a = some (.inr ((), a)) ∧ ∀ j, k ≤ j → j < 8 → CF (s j) (d j)) := by
  intro n
  induction n with
  | zero => intro k h1 h2; omega
  | succ n ih =>
    intro k h1 h2
    by_cases hk : k < 8
    · have d1 : nI k < 8 := nI_lt (b := 8) hk (by decide)
      have d4 : nI k + 1 = nI (k + 1) := nI_1 k
      have c5 : nI k * 6 + -1 + 1 = nI (k * 6 + 0) := row_eq k hk 0 (by omega)
      have c6 : am_in (nI (k * 6 + 0)) 48 = true := rl_nin (by decide) (by omega)
      have c7 : (nI (k * 6 + 0)).toNatClampNeg = k * 6 + 0 := nI_clamp (by omega)
      have e1 : nI (s k 0) - nI (d k 0) = iI (sd (s k) (d k) 0) := iI_sub _ _
      have z0 : nI 0 = 0 := rfl
      rcases cf_in hk (fun c hc => hs k c hk hc) (fun c hc => hd k c hk hc) (fun c hc => es k c hk hc) (fun c hc => ed k c hk hc) am_FU 0 (by omega) (by unfold am_FU; omega) with ⟨g1, j, j1, j2, j3⟩ | ⟨g1, g2⟩
      · rw [z0] at g1
        refine Or.inl ⟨?_, k, hk, fun q => absurd (q.1 j j1 j2) (by omega)⟩
        simp only [f_X0_canFill_L7, if_pos d1, f_X0_row, rl_bd, c5, rl_gu c6, c7, es k 0 hk (by omega), ed k 0 hk (by omega), e1, g1, am_lp]
      · rw [z0] at g1
        have e5 := sd_5 (s k) (d k)
        have bs : ∀ c, c < 6 → s k c ≤ 1000 := fun c hc => hs k c hk hc
        have bd : ∀ c, c < 6 → d k c ≤ 1000 := fun c hc => hd k c hk hc
        have := bs 0 (by omega); have := bs 1 (by omega); have := bs 2 (by omega); have := bs 3 (by omega); have := bs 4 (by omega); have := bs 5 (by omega)
        have := bd 0 (by omega); have := bd 1 (by omega); have := bd 2 (by omega); have := bd 3 (by omega); have := bd 4 (by omega); have := bd 5 (by omega)
        by_cases q : sd (s k) (d k) 5 < 0
        · have q1 : iI (sd (s k) (d k) 5) < 0 := (iI_neg (by omega) (by omega)).mpr q
          refine Or.inl ⟨?_, k, hk, fun z => absurd z.2 (by omega)⟩
          simp only [f_X0_canFill_L7, if_pos d1, f_X0_row, rl_bd, c5, rl_gu c6, c7, es k 0 hk (by omega), ed k 0 hk (by omega), e1, g1, am_lp, if_pos q1]
        · have q1 : ¬ iI (sd (s k) (d k) 5) < 0 := fun z => q ((iI_neg (by omega) (by omega)).mp z)
          have st1 : f_X0_canFill_L7 (n + 1) (nI k) a = f_X0_canFill_L7 n (nI (k + 1)) a := by
            simp only [f_X0_canFill_L7, if_pos d1, f_X0_row, rl_bd, c5, rl_gu c6, c7, es k 0 hk (by omega), ed k 0 hk (by omega), e1, g1, am_lp, if_neg q1, d4]
          rw [st1]
          rcases ih (k + 1) (by omega) (by omega) with g | ⟨g3, g4⟩
          · exact Or.inl g
          · refine Or.inr ⟨g3, fun j q2 q3 => ?_⟩
            by_cases e : j = k
            · subst e
              exact ⟨fun c q4 q5 => g2 c (by omega) q5, by omega⟩
            · exact g4 j (by omega) q3
    · have d1 : ¬ nI k < 8 := nI_nlt (b := 8) (by omega) (by omega)
      exact Or.inr ⟨by simp only [f_X0_canFill_L7, if_neg d1], fun j q1 q2 => by omega⟩
theorem cf_all {a0 : am_S} {O S N : Nat} (hO : O ≤ 8) (hS : S < 256) (hN : N ≤ 400) (eO : a0.1 46 0 = nI O) (ht : nd_t a0 O) {af : am_S} (es : ∀ k c, k < 8 → c < 6 → a0.1 55 (k * 6 + c) = nI (fr af k c N)) : ∃ (z : Bool) (a' : am_S), f_X0_canFill a0 (nI S) = some (mc_i z, a') ∧ rw_on [56] a' a0 ∧ (z = true ↔ ∀ k, k < 8 → CF (fun c => fr af k c N) (fun c => dmO a0 S k c O)) := by
  obtain ⟨a1, g1, g2, g3⟩ := dm_all hO hS eO ht
  have b1 : ∀ k c, k < 8 → c < 6 → fr af k c N ≤ 1000 := fun k c _ _ => by have := fr_le af k c N; omega
  have b2 : ∀ k c, k < 8 → c < 6 → dmO a0 S k c O ≤ 1000 := fun k c _ _ => by have := dmO_le ht S k c O (Nat.le_refl _); omega
  have z0 : nI 0 = 0 := rfl
  rcases cf_out (a := a1) (s := fun k c => fr af k c N) (d := fun k c => dmO a0 S k c O) b1 b2 (fun k c hk hc => by rw [(g2 55 (by simp)).1]; exact es k c hk hc) g3 am_FU 0 (by omega) (by unfold am_FU; omega) with ⟨k1, j, j1, j2⟩ | ⟨k1, k2⟩
  · rw [z0] at k1
    exact ⟨false, a1, by simp only [f_X0_canFill, bd_some g1, k1, am_lp]; rfl, g2, ⟨fun q => (by cases q), fun q => absurd (q j j1) j2⟩⟩
  · rw [z0] at k1
    exact ⟨true, a1, by simp only [f_X0_canFill, bd_some g1, k1, am_lp]; rfl, g2, ⟨fun _ k hk => k2 k (by omega) hk, fun _ => rfl⟩⟩
