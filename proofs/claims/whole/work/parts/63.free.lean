/-! ===== the free figures, by kind and colour; rest on both sides ===== -/
def fk (a : am_S) (j : Nat) : Nat := (a.1 36 (a.1 40 j).toNatClampNeg).toNatClampNeg
/-- 0: not painted; c + 1: colour c -/
def fc (a : am_S) (j : Nat) : Nat := if a.1 42 j = -1 then 0 else (a.1 45 (a.1 42 j).toNatClampNeg).toNatClampNeg + 1
def cI (d : Nat) : Int32 := if d = 0 then -1 else nI (d - 1)
theorem cI_inj {d e : Nat} (hd : d < 7) (he : e < 7) : cI d = cI e ↔ d = e := by
  constructor
  · have key : ∀ d, d < 7 → ∀ e, e < 7 → cI d = cI e → d = e := by decide +kernel
    exact key d hd e he
  · intro h; rw [h]
theorem cI_n1 {d : Nat} (hd : d < 7) : cI d = -1 ↔ d = 0 := cI_inj (e := 0) hd (by decide)
/-- what the invariant says of a figure -/
def fg_t (a : am_S) (N : Nat) : Prop := ∀ j, j < N → fk a j < 8 ∧ fc a j < 6 ∧ (∃ r : Nat, r < 200 ∧ a.1 40 j = nI r ∧ a.1 36 r = nI (fk a j)) ∧ (a.1 42 j = -1 ∧ fc a j = 0 ∨ ¬ a.1 42 j = -1 ∧ ∃ l : Nat, l < 20 ∧ a.1 42 j = nI l ∧ a.1 45 l = cI (fc a j) ∧ 0 < fc a j)
theorem fg_tof {a : am_S} (hf : ri_figs a) (hr : ri_rings a) (hk : ri_kinds a) {N : Nat} (hN : a.1 39 1 = nI N) (h4 : N ≤ 400) : fg_t a N := by
  intro j hj
  obtain ⟨⟨r, f, q1, q2, q3, q4⟩, q5, -⟩ := hf.2.2.2 j (by rw [hN, nI_clamp (by omega)]; exact hj)
  obtain ⟨n1, k1, k2⟩ := hr.2.2.1
  obtain ⟨⟨k, k3, k4⟩, -⟩ := hr.2.2.2 r q1
  rw [k2, nI_clamp (by omega)] at q1
  obtain ⟨nk, k5, k6⟩ := hk.1
  rw [k6, nI_clamp (by omega)] at k3
  have ek : fk a j = k := by unfold fk; rw [q3, nI_clamp (by omega), k4, nI_clamp (by omega)]
  obtain ⟨nl, l5, l6⟩ := hf.2.1
  refine ⟨by omega, ?_, ⟨r, by omega, q3, by rw [ek]; exact k4⟩, ?_⟩
  · rcases q5 with q | ⟨l, l1, l2⟩
    · unfold fc; rw [if_pos q]; decide
    · obtain ⟨c, c1, c2⟩ := hf.2.2.1 l l1
      rw [l6, nI_clamp (by omega)] at l1
      unfold fc
      by_cases z : a.1 42 j = -1
      · rw [if_pos z]; decide
      · rw [if_neg z, l2, nI_clamp (by omega), c2, nI_clamp (by omega)]
        omega
  · rcases q5 with q | ⟨l, l1, l2⟩
    · exact Or.inl ⟨q, by unfold fc; rw [if_pos q]⟩
    · obtain ⟨c, c1, c2⟩ := hf.2.2.1 l l1
      rw [l6, nI_clamp (by omega)] at l1
      have z : ¬ a.1 42 j = -1 := by
        rw [l2]
        intro y
        have y := congrArg Int32.toInt y
        rw [nI_toInt (by omega)] at y
        have z1 : (-1 : Int32).toInt = -1 := rfl
        rw [z1] at y
        omega
      have e : fc a j = c + 1 := by
        unfold fc
        rw [if_neg z, l2, nI_clamp (by omega), c2, nI_clamp (by omega)]
      refine Or.inr ⟨z, l, by omega, l2, ?_, by omega⟩
      rw [c2, e]
      unfold cI
      rw [if_neg (by omega), Nat.add_sub_cancel]
theorem fx_kind {a : am_S} {N j : Nat} (ht : fg_t a N) (hj : j < N) (hN : N ≤ 400) : f_X3_kindOf a (nI j) = some (nI (fk a j), a) := by
  obtain ⟨-, -, ⟨r, r1, r2, r3⟩, -⟩ := ht j hj
  have c1 : am_in (nI j) 400 = true := rl_nin (by decide) (by omega)
  have c2 : (nI j).toNatClampNeg = j := nI_clamp (by omega)
  have c3 : am_in (nI r) 200 = true := rl_nin (by decide) (by omega)
  have c4 : (nI r).toNatClampNeg = r := nI_clamp (by omega)
  simp [f_X3_kindOf, am_gu, c1, c2, r2, c3, c4, r3]
theorem fx_col {a : am_S} {N j : Nat} (ht : fg_t a N) (hj : j < N) (hN : N ≤ 400) : f_X3_colourOf a (nI j) = some (cI (fc a j), a) := by
  obtain ⟨-, -, -, q⟩ := ht j hj
  have c1 : am_in (nI j) 400 = true := rl_nin (by decide) (by omega)
  have c2 : (nI j).toNatClampNeg = j := nI_clamp (by omega)
  rcases q with ⟨q1, q2⟩ | ⟨q1, l, l1, l2, l3, l4⟩
  · simp [f_X3_colourOf, am_gu, c1, c2, q1, q2, cI]
  · have c3 : am_in (nI l) 20 = true := rl_nin (by decide) (by omega)
    have c4 : (nI l).toNatClampNeg = l := nI_clamp (by omega)
    rw [l2] at q1
    simp [f_X3_colourOf, am_gu, c1, c2, q1, l2, c3, c4, l3]
theorem fy_kind {a b : am_S} {X : List Nat} {N j : Nat} (h : rl_x X a b) (h40 : 40 ∉ X) (h36 : 36 ∉ X) (ht : fg_t a N) (hj : j < N) (hN : N ≤ 400) : f_X12_kindOf b (nI j) = some (nI (fk a j), b) := by
  have e1 : b.1 104 = a.1 40 := h.r (by decide) h40
  have e2 : b.1 96 = a.1 36 := h.r (by decide) h36
  obtain ⟨-, -, ⟨r, r1, r2, r3⟩, -⟩ := ht j hj
  have c1 : am_in (nI j) 400 = true := rl_nin (by decide) (by omega)
  have c2 : (nI j).toNatClampNeg = j := nI_clamp (by omega)
  have c3 : am_in (nI r) 200 = true := rl_nin (by decide) (by omega)
  have c4 : (nI r).toNatClampNeg = r := nI_clamp (by omega)
  simp [f_X12_kindOf, am_gu, c1, c2, e1, e2, r2, c3, c4, r3]
theorem fy_col {a b : am_S} {X : List Nat} {N j : Nat} (h : rl_x X a b) (h42 : 42 ∉ X) (h45 : 45 ∉ X) (ht : fg_t a N) (hj : j < N) (hN : N ≤ 400) : f_X12_colourOf b (nI j) = some (cI (fc a j), b) := by
  have e1 : b.1 105 = a.1 42 := h.r (by decide) h42
  have e2 : b.1 109 = a.1 45 := h.r (by decide) h45
  obtain ⟨-, -, -, q⟩ := ht j hj
  have c1 : am_in (nI j) 400 = true := rl_nin (by decide) (by omega)
  have c2 : (nI j).toNatClampNeg = j := nI_clamp (by omega)
  rcases q with ⟨q1, q2⟩ | ⟨q1, l, l1, l2, l3, l4⟩
  · simp [f_X12_colourOf, am_gu, c1, c2, e1, e2, q1, q2, cI]
  · have c3 : am_in (nI l) 20 = true := rl_nin (by decide) (by omega)
    have c4 : (nI l).toNatClampNeg = l := nI_clamp (by omega)
    rw [l2] at q1
    simp [f_X12_colourOf, am_gu, c1, c2, e1, e2, q1, l2, c3, c4, l3]
/-- free figures of kind k and colour d among the first -/
def fr (a : am_S) (k d : Nat) : Nat → Nat
  | 0 => 0
  | i + 1 => fr a k d i + (if a.1 43 i = -1 ∧ fk a i = k ∧ fc a i = d then 1 else 0)
theorem fr_le (a : am_S) (k d i : Nat) : fr a k d i ≤ i := by
  induction i with
  | zero => exact Nat.le_refl 0
  | succ i ih =>
    rw [fr]
    split <;> omega
theorem fr_on {a a' : am_S} (h36 : a'.1 36 = a.1 36) (h40 : a'.1 40 = a.1 40) (h42 : a'.1 42 = a.1 42) (h43 : a'.1 43 = a.1 43) (h45 : a'.1 45 = a.1 45) (k d i : Nat) : fr a' k d i = fr a k d i := by
  induction i with
  | zero => rfl
  | succ i ih =>
    have q1 : fk a' i = fk a i := by simp only [fk, h36, h40]
    have q2 : fc a' i = fc a i := by unfold fc; rw [h42, h45]
    rw [fr, fr, ih, h43, q1, q2]
def sh (d : Nat) : Nat := if d = 0 then 5 else d - 1
theorem sh_lt {d : Nat} (h : d < 6) : sh d < 6 := by unfold sh; split <;> omega
theorem sh_inj {d e : Nat} (h : d < 6) (h' : e < 6) (q : sh d = sh e) : d = e := by
  have key : ∀ d, d < 6 → ∀ e, e < 6 → sh d = sh e → d = e := by decide +kernel
  exact key d h e h' q
theorem rl_no117 : ∀ p ∈ rl_rows, p.2 ≠ 117 := by decide
theorem ix6 {k k' u u' : Nat} (h : u < 6) (h' : u' < 6) (q : 6 * k + u = 6 * k' + u') : k = k' ∧ u = u' := by omega
theorem cs_zero (N : Nat) (hN : N ≤ 48) : ∀ (n i : Nat) (b : am_S), i ≤ 48 → 48 < i + n → ∃ b', f_X12_counts_L2 n (nI i) b = some (.inr ((), b')) ∧ rw_on [117] b' b ∧ (∀ j, j < i → b'.1 117 j = b.1 117 j) ∧ ∀ j, i ≤ j → j < 48 → b'.1 117 j = 0 := by
  intro n
  induction n with
  | zero => intro i b h1 h2; omega
  | succ n ih =>
    intro i b h1 h2
    have d4 : nI i + 1 = nI (i + 1) := nI_1 i
    by_cases hi : i < 48
    · have d1 : nI i < 48 := nI_lt (b := 48) (by omega) (by decide)
      have d2 : am_in (nI i) 48 = true := rl_nin (by decide) (by omega)
      have d3 : (nI i).toNatClampNeg = i := nI_clamp (by omega)
      obtain ⟨b', g1, g2, g3, g4⟩ := ih (i + 1) (am_wI b 117 i 0) (by omega) (by omega)
      refine ⟨b', by simp [f_X12_counts_L2, d1, am_gu, d2, d3, d4, g1], g2.trans ((rw_on.refl _ _).w (by decide) _ _), fun j q => ?_, fun j q1 q2 => ?_⟩
      · rw [g3 j (by omega), rl_ws]
        simp [show j ≠ i by omega]
      · by_cases e : j = i
        · subst e
          rw [g3 j (by omega), rl_ws]
          simp
        · exact g4 j (by omega) q2
    · have d1 : ¬ nI i < 48 := nI_nlt (b := 48) (by omega) (by omega)
      exact ⟨b, by simp [f_X12_counts_L2, d1], rw_on.refl _ _, fun _ _ => rfl, fun j q1 q2 => by omega⟩
theorem cs_loop {X : List Nat} {a : am_S} {N : Nat} (h43 : 43 ∉ X) (h40 : 40 ∉ X) (h36 : 36 ∉ X) (h42 : 42 ∉ X) (h45 : 45 ∉ X) (ht : fg_t a N) (hN : N ≤ 400) (eN : a.1 39 1 = nI N) : ∀ (n i : Nat) (b : am_S), rl_x X a b → i ≤ N → N < i + n → (∀ k d, k < 8 → d < 6 → b.1 117 (6 * k + sh d) = nI (fr a k d i)) → ∃ b', f_X12_counts_L23 n (nI i) b = some (.inr ((), b')) ∧ rw_on [117] b' b ∧ ∀ k d, k < 8 → d < 6 → b'.1 117 (6 * k + sh d) = nI (fr a k d N) := by
  intro n
  induction n with
  | zero => intro i b h h1 h2; omega
  | succ n ih =>
    intro i b h h1 h2 hc
    have d4 : nI i + 1 = nI (i + 1) := nI_1 i
    have en : b.1 58 66 = nI N := (h.f (c := 39) (k := 1) (by decide)).trans eN
    have e43 : b.1 106 = a.1 43 := h.r (by decide) h43
    by_cases hi : i < N
    · have d1 : nI i < nI N := nI_lt (by omega) (by omega)
      have d2 : am_in (nI i) 400 = true := rl_nin (by decide) (by omega)
      have d3 : (nI i).toNatClampNeg = i := nI_clamp (by omega)
      have k1 := fy_kind h h40 h36 ht hi hN
      have k2 := fy_col h h42 h45 ht hi hN
      obtain ⟨t1, t2, -, -⟩ := ht i hi
      by_cases c : a.1 43 i = -1
      · have c5 : 6 * nI (fk a i) + nI (sh (fc a i)) = nI (6 * fk a i + sh (fc a i)) := by
          rw [show (6 : Int32) = nI 6 from rfl, pk_mul, nI_add]
        have s1 := sh_lt t2
        have c6 : am_in (nI (6 * fk a i + sh (fc a i))) 48 = true := rl_nin (by decide) (by omega)
        have c7 : (nI (6 * fk a i + sh (fc a i))).toNatClampNeg = 6 * fk a i + sh (fc a i) := nI_clamp (by omega)
        have c8 : b.1 117 (6 * fk a i + sh (fc a i)) + 1 = nI (fr a (fk a i) (fc a i) i + 1) := by rw [hc _ _ t1 t2]; exact nI_1 _
        have hx : rl_x X a (am_wI b 117 (6 * fk a i + sh (fc a i)) (nI (fr a (fk a i) (fc a i) i + 1))) := h.wb (fun p hp q => absurd q (rl_no117 p hp)) (by decide) _ _
        obtain ⟨b', g1, g2, g3⟩ := ih (i + 1) _ hx (by omega) (by omega) (fun k d hk hd => by
          rw [rl_ws, fr]
          by_cases q : k = fk a i ∧ d = fc a i
          · rw [q.1, q.2]
            simp [c]
          · have q2 : ¬ 6 * k + sh d = 6 * fk a i + sh (fc a i) := fun y => q ⟨(ix6 (sh_lt hd) s1 y).1, sh_inj hd t2 (ix6 (sh_lt hd) s1 y).2⟩
            have q3 : ¬ (a.1 43 i = -1 ∧ fk a i = k ∧ fc a i = d) := fun y => q ⟨y.2.1.symm, y.2.2.symm⟩
            simp only [q2, q3, if_false]
            exact hc k d hk hd)
        refine ⟨b', ?_, g2.trans ((rw_on.refl _ _).w (by decide) _ _), g3⟩
        by_cases z : fc a i = 0
        · have z1 : cI (fc a i) = -1 := by rw [z]; rfl
          have z2 : nI (sh (fc a i)) = 5 := by rw [z]; rfl
          rw [z2] at c5
          simp [f_X12_counts_L23, en, d1, am_gu, am_jn, am_bd, d2, d3, d4, e43, c, k1, k2, z1, c5, c6, c7, c8, g1]
        · have z1 : ¬ cI (fc a i) = -1 := fun y => z ((cI_n1 (by omega)).mp y)
          have z2 : cI (fc a i) = nI (sh (fc a i)) := by unfold cI sh; rw [if_neg z, if_neg z]
          simp [f_X12_counts_L23, en, d1, am_gu, am_jn, am_bd, d2, d3, d4, e43, c, k1, k2, z1]
          rw [z2, c5]
          simp [c6, c7, c8, g1]
      · obtain ⟨b', g1, g2, g3⟩ := ih (i + 1) b h (by omega) (by omega) (fun k d hk hd => by
          rw [fr, if_neg (fun q => c q.1)]
          exact hc k d hk hd)
        exact ⟨b', by simp [f_X12_counts_L23, en, d1, am_gu, am_jn, d2, d3, d4, e43, c, g1], g2, g3⟩
    · have d1 : ¬ nI i < nI N := nI_nlt (by omega) (by omega)
      have e : i = N := by omega
      subst e
      exact ⟨b, by simp [f_X12_counts_L23, en, d1], rw_on.refl _ _, hc⟩
theorem cs_all {X : List Nat} {a b : am_S} {N : Nat} (h43 : 43 ∉ X) (h40 : 40 ∉ X) (h36 : 36 ∉ X) (h42 : 42 ∉ X) (h45 : 45 ∉ X) (ht : fg_t a N) (hN : N ≤ 400) (eN : a.1 39 1 = nI N) (h : rl_x X a b) : ∃ b', f_X12_counts b = some ((), b') ∧ rw_on [117] b' b ∧ ∀ k d, k < 8 → d < 6 → b'.1 117 (6 * k + sh d) = nI (fr a k d N) := by
  obtain ⟨b1, g1, g2, -, g4⟩ := cs_zero 48 (by omega) am_FU 0 b (by omega) (by unfold am_FU; omega)
  have h1 : rl_x X a b1 := h.on (rw_on.refl [] _) g2 (fun p hp q => by
    rcases q with q | q
    · simp at q
    · exact absurd (by simpa using q) (rl_no117 p hp)) (by simp) (by decide)
  obtain ⟨b2, k1, k2, k3⟩ := cs_loop h43 h40 h36 h42 h45 ht hN eN am_FU 0 b1 h1 (by omega) (by unfold am_FU; omega) (fun k d hk hd => by
    have := sh_lt hd
    exact g4 _ (by omega) (by omega))
  have g1 : f_X12_counts_L2 am_FU 0 b = some (.inr ((), b1)) := g1
  have k1 : f_X12_counts_L23 am_FU 0 b1 = some (.inr ((), b2)) := k1
  exact ⟨b2, by simp [f_X12_counts, am_lp, g1, k1], k2.trans g2, k3⟩
theorem rt_loop {a : am_S} {N : Nat} (ht : fg_t a N) (hN : N ≤ 400) (eN : a.1 39 1 = nI N) (k d : Nat) (hk : k < 8) (hd : d < 6) : ∀ (n i : Nat), i ≤ N → N < i + n → f_X11_rest_L25 n (nI k) (cI d) (nI (fr a k d i)) (nI i) a = some (.inr (nI (fr a k d N), a)) := by
  intro n
  induction n with
  | zero => intro i h1 h2; omega
  | succ n ih =>
    intro i h1 h2
    have d4 : nI i + 1 = nI (i + 1) := nI_1 i
    by_cases hi : i < N
    · have d1 : nI i < nI N := nI_lt (by omega) (by omega)
      have d2 : am_in (nI i) 400 = true := rl_nin (by decide) (by omega)
      have d3 : (nI i).toNatClampNeg = i := nI_clamp (by omega)
      have k1 := fx_kind ht hi hN
      have k2 := fx_col ht hi hN
      obtain ⟨t1, t2, -, -⟩ := ht i hi
      have go := ih (i + 1) (by omega) (by omega)
      rw [fr] at go
      have c8 : nI (fr a k d i) + 1 = nI (fr a k d i + 1) := nI_1 _
      by_cases c : a.1 43 i = -1
      · by_cases q : fk a i = k
        · by_cases q2 : fc a i = d
          · rw [if_pos ⟨c, q, q2⟩] at go
            rw [q] at k1
            rw [q2] at k2
            simp [f_X11_rest_L25, f_X3_isFree, eN, d1, am_gu, am_jn, am_bd, d2, d3, d4, c, k1, k2, c8, go]
          · rw [if_neg (fun y => q2 y.2.2)] at go
            rw [q] at k1
            have q3 : ¬ cI (fc a i) = cI d := fun y => q2 ((cI_inj (by omega) (by omega)).mp y)
            simp [f_X11_rest_L25, f_X3_isFree, eN, d1, am_gu, am_jn, am_bd, d2, d3, d4, c, k1, k2, q3, go]
            exact go
        · rw [if_neg (fun y => q y.2.1)] at go
          have q3 : ¬ nI (fk a i) = nI k := nI_ne (by omega) (by omega) q
          simp [f_X11_rest_L25, f_X3_isFree, eN, d1, am_gu, am_jn, am_bd, d2, d3, d4, c, k1, q3, go]
          exact go
      · rw [if_neg (fun y => c y.1)] at go
        simp [f_X11_rest_L25, f_X3_isFree, eN, d1, am_gu, am_jn, am_bd, d2, d3, d4, c, go]
        exact go
    · have d1 : ¬ nI i < nI N := nI_nlt (by omega) (by omega)
      have e : i = N := by omega
      subst e
      simp [f_X11_rest_L25, eN, d1]
