/-! ===== log: the best way, on both sides ===== -/
def cuE (a b : am_S) (len nk j : Nat) : Prop := b.1 99 j = a.1 29 j ∧ b.1 100 j = a.1 30 j ∧ ∃ r : Nat, r + j ≤ len ∧ a.1 30 j = nI r ∧ (j < len → b.1 101 j = a.1 31 j ∧ (a.1 31 j = -1 ∧ a.1 30 (j + 1) = nI r ∨ ∃ k w r' : Nat, k < nk ∧ a.1 31 j = nI k ∧ a.1 18 k = nI w ∧ 1 ≤ w ∧ w ≤ 9 ∧ j + w ≤ len ∧ r = r' + 1 ∧ a.1 30 (j + w) = nI r'))
def cu (a b : am_S) (len nk u : Nat) : Prop := ∀ j, u ≤ j → j ≤ len → cuE a b len nk j
theorem cuE_fr {a b a' b' : am_S} {len nk u j : Nat} (h : cuE a b len nk j) (hj : u < j) (h18 : a'.1 18 = a.1 18) (ha : ∀ c i, c = 29 ∨ c = 30 ∨ c = 31 → i ≠ u → a'.1 c i = a.1 c i) (hb : ∀ c i, c = 99 ∨ c = 100 ∨ c = 101 → i ≠ u → b'.1 c i = b.1 c i) : cuE a' b' len nk j := by
  obtain ⟨h1, h2, r, h3, h4, h5⟩ := h
  refine ⟨?_, ?_, r, h3, ?_, fun hl => ?_⟩
  · rw [hb 99 j (by simp) (by omega), ha 29 j (by simp) (by omega)]; exact h1
  · rw [hb 100 j (by simp) (by omega), ha 30 j (by simp) (by omega)]; exact h2
  · rw [ha 30 j (by simp) (by omega)]; exact h4
  · obtain ⟨h6, h7⟩ := h5 hl
    refine ⟨by rw [hb 101 j (by simp) (by omega), ha 31 j (by simp) (by omega)]; exact h6, ?_⟩
    rcases h7 with ⟨q1, q2⟩ | ⟨k, w, r', q1, q2, q3, q4, q5, q6, q7, q8⟩
    · exact Or.inl ⟨by rw [ha 31 j (by simp) (by omega)]; exact q1, by rw [ha 30 (j + 1) (by simp) (by omega)]; exact q2⟩
    · exact Or.inr ⟨k, w, r', q1, by rw [ha 31 j (by simp) (by omega)]; exact q2, by rw [h18]; exact q3, q4, q5, q6, q7, by rw [ha 30 (j + w) (by simp) (by omega)]; exact q8⟩
theorem cu_put {a b a' b' : am_S} {len nk u : Nat} (h : cu a b len nk (u + 1)) (h18 : a'.1 18 = a.1 18) (ha : ∀ c i, c = 29 ∨ c = 30 ∨ c = 31 → i ≠ u → a'.1 c i = a.1 c i) (hb : ∀ c i, c = 99 ∨ c = 100 ∨ c = 101 → i ≠ u → b'.1 c i = b.1 c i) (hu : cuE a' b' len nk u) : cu a' b' len nk u := by
  intro j h1 h2
  by_cases e : j = u
  · rw [e]; exact hu
  · exact cuE_fr (h j (by omega) h2) (u := u) (by omega) h18 ha hb
def w3 (s : am_S) (c0 c1 c2 u : Nat) (x y z : Int32) : am_S := am_wI (am_wI (am_wI s c0 u x) c1 u y) c2 u z
theorem w3_a {s : am_S} {u : Nat} {x y z : Int32} : ∀ c i, c = 29 ∨ c = 30 ∨ c = 31 → i ≠ u → (w3 s 29 30 31 u x y z).1 c i = s.1 c i := by
  intro c i h hi
  simp [w3, rl_wI, hi]
theorem w3_b {s : am_S} {u : Nat} {x y z : Int32} : ∀ c i, c = 99 ∨ c = 100 ∨ c = 101 → i ≠ u → (w3 s 99 100 101 u x y z).1 c i = s.1 c i := by
  intro c i h hi
  simp [w3, rl_wI, hi]
theorem w3_oa {s : am_S} {u : Nat} {x y z : Int32} : rw_on [29, 30, 31] (w3 s 29 30 31 u x y z) s := (((rw_on.refl _ _).w (by decide) _ _).w (by decide) _ _).w (by decide) _ _
theorem w3_ob {s : am_S} {u : Nat} {x y z : Int32} : rw_on [99, 100, 101] (w3 s 99 100 101 u x y z) s := (((rw_on.refl _ _).w (by decide) _ _).w (by decide) _ _).w (by decide) _ _
theorem i_m1 (k : Nat) : nI k + -1 = nI k - 1 := (Int32.sub_eq_add_neg _ _).symm
def kd (a : am_S) (nk : Nat) : Prop := a.1 17 0 = nI nk ∧ ∀ j, j < nk → ∃ w : Nat, 1 ≤ w ∧ w ≤ 9 ∧ a.1 18 j = nI w
theorem kd.on {a a' : am_S} {nk : Nat} {L : List Nat} (h : kd a nk) (ho : rw_on L a' a) (h1 : 17 ∉ L) (h2 : 18 ∉ L) : kd a' nk := by
  unfold kd
  rw [(ho 17 h1).1, (ho 18 h2).1]
  exact h
theorem cut_in {len nk u : Nat} {fl : Int64} {v v' : Int32} (hl : len ≤ 60) (hn : nk ≤ 8) (hu : u < len) (hv : ∀ j, j < nk → (v.toBitVec.getLsbD j = true ↔ v'.toBitVec.getLsbD j = true)) : ∀ (n k : Nat) (a b : am_S), rl_x [] a b → kd a nk → cu a b len nk u → k ≤ nk → k < n → ∃ a' b', f_X1_cut_L41 n (nI len) fl v (nI u) (nI k - 1) a = some (.inr ((), a')) ∧ f_X12_log_L171 n (nI len) fl v' (nI u) (nI k - 1) b = some (.inr ((), b')) ∧ rl_x [] a' b' ∧ cu a' b' len nk u ∧ rw_on [29, 30, 31] a' a ∧ rw_on [99, 100, 101] b' b := by
  intro n
  induction n with
  | zero => intro k a b h hk hc h1 h2; omega
  | succ n ih =>
    intro k a b h hk hc h1 h2
    cases k with
    | zero =>
      have d : nI 0 - 1 < 0 := by decide
      exact ⟨a, b, by simp [f_X1_cut_L41, d], by simp [f_X12_log_L171, d], h, hc, rw_on.refl _ _, rw_on.refl _ _⟩
    | succ k =>
      have x6 : nI (k + 1) - 1 = nI k := nI_pred k
      rw [x6]
      have d0 : ¬ nI k < 0 := nI_pos (by omega)
      have d1 : nI k + -1 = nI k - 1 := i_m1 k
      have d2 : am_in (nI k) 8 = true := rl_nin (by decide) (by omega)
      have d3 : (nI k).toNatClampNeg = k := nI_clamp (by omega)
      have u2 : am_in (nI u) 61 = true := rl_nin (by decide) (by omega)
      have u3 : (nI u).toNatClampNeg = u := nI_clamp (by omega)
      obtain ⟨w, w1, w2, w4⟩ := hk.2 k (by omega)
      have r1 : b.1 81 = a.1 18 := h.r (by decide) (by simp)
      have r2 : b.1 82 = a.1 19 := h.r (by decide) (by simp)
      have r3 : b.1 83 = a.1 20 := h.r (by decide) (by simp)
      have uw : nI u + nI w = nI (u + w) := nI_add u w
      obtain ⟨A, B, g1, g2, g3, g4, g5, g6⟩ := ih k a b h hk hc (by omega) (by omega)
      by_cases c1 : v.toBitVec.getLsbD k = false
      · have c2 : v'.toBitVec.getLsbD k = false := by
          cases q : v'.toBitVec.getLsbD k with
          | false => rfl
          | true => rw [(hv k (by omega)).mpr q] at c1; cases c1
        have c3 := (bt_r v (k := k) (by omega)).mpr c1
        have c4 := (bt_r v' (k := k) (by omega)).mpr c2
        exact ⟨A, B, by simp [f_X1_cut_L41, d0, d1, am_jn, c3, g1], by simp [f_X12_log_L171, d0, d1, am_jn, am_gu, d2, c4, g2], g3, g4, g5, g6⟩
      · have c2 : ¬ v'.toBitVec.getLsbD k = false := by
          have c1 : v.toBitVec.getLsbD k = true := by simpa using c1
          rw [(hv k (by omega)).mp c1]
          simp
        have c3 := mt (bt_r v (k := k) (by omega)).mp c1
        have c4 := mt (bt_r v' (k := k) (by omega)).mp c2
        by_cases e1 : len < u + w
        · have e2 : nI len < nI (u + w) := nI_lt e1 (by omega)
          exact ⟨A, B, by simp [f_X1_cut_L41, f_X1_fits, d0, d1, am_jn, am_bd, am_gu, c3, d2, d3, w4, uw, e2, g1], by simp [f_X12_log_L171, d0, d1, am_jn, am_gu, d2, d3, r1, w4, uw, e2, c4, g2], g3, g4, g5, g6⟩
        · have e2 : ¬ nI len < nI (u + w) := nI_nlt (by omega) (by omega)
          have f1 := fl_eq fl (u := u) (w := w) (by omega) (by omega)
          by_cases f2 : lg_cmp (fl &&& ((((lN 1) <<< (Int32.toInt64 (nI w) &&& 63)) - lN 1) <<< (Int32.toInt64 (nI u) &&& 63))) (lN 0) = 0
          · have f3 := f1.mp f2
            have p2 : am_in (nI (u + w)) 61 = true := rl_nin (by decide) (by omega)
            have p3 : (nI (u + w)).toNatClampNeg = u + w := nI_clamp (by omega)
            obtain ⟨t1, t2, r', t3, t4, -⟩ := hc (u + w) (by omega) (by omega)
            obtain ⟨s1, s2, r, s3, s4, -⟩ := hc u (by omega) (by omega)
            have eW : a.1 20 k * a.1 19 k + b.1 99 (u + w) = a.1 29 (u + w) + a.1 19 k * a.1 20 k := by rw [t1, Int32.mul_comm, Int32.add_comm]
            have eR : 1 + b.1 100 (u + w) = a.1 30 (u + w) + 1 := by rw [t2, Int32.add_comm]
            generalize hW : a.1 29 (u + w) + a.1 19 k * a.1 20 k = W at eW
            generalize hR : a.1 30 (u + w) + 1 = R at eR
            have take : ∃ a' b', f_X1_cut_L41 n (nI len) fl v (nI u) (nI k - 1) (w3 a 29 30 31 u W R (nI k)) = some (.inr ((), a')) ∧ f_X12_log_L171 n (nI len) fl v' (nI u) (nI k - 1) (w3 b 99 100 101 u W R (nI k)) = some (.inr ((), b')) ∧ rl_x [] a' b' ∧ cu a' b' len nk u ∧ rw_on [29, 30, 31] a' a ∧ rw_on [99, 100, 101] b' b := by
              have h' : rl_x [] (w3 a 29 30 31 u W R (nI k)) (w3 b 99 100 101 u W R (nI k)) := h.on w3_oa w3_ob (by intro p hp; revert p; decide) (by decide) (by decide)
              have hk' : kd (w3 a 29 30 31 u W R (nI k)) nk := hk.on w3_oa (by decide) (by decide)
              have hc' : cu (w3 a 29 30 31 u W R (nI k)) (w3 b 99 100 101 u W R (nI k)) len nk u := by
                refine cu_put (fun j q1 q2 => hc j (by omega) q2) (w3_oa 18 (by decide)).1 w3_a w3_b ?_
                refine ⟨by simp [w3, rl_wI], by simp [w3, rl_wI], r' + 1, by omega, ?_, fun _ => ⟨by simp [w3, rl_wI], Or.inr ⟨k, w, r', by omega, by simp [w3, rl_wI], ?_, w1, w2, by omega, rfl, ?_⟩⟩⟩
                · have : (w3 a 29 30 31 u W R (nI k)).1 30 u = R := by simp [w3, rl_wI]
                  rw [this, ← hR, t4, nI_1]
                · rw [(w3_oa 18 (by decide)).1]; exact w4
                · rw [w3_a 30 (u + w) (by simp) (by omega)]; exact t4
              obtain ⟨A', B', y1, y2, y3, y4, y5, y6⟩ := ih k _ _ h' hk' hc' (by omega) (by omega)
              exact ⟨A', B', y1, y2, y3, y4, y5.trans w3_oa, y6.trans w3_ob⟩
            obtain ⟨A', B', y1, y2, y3, y4, y5, y6⟩ := take
            unfold w3 at y1 y2
            by_cases z1 : a.1 29 u < W
            · have z2 : ¬ W < a.1 29 u := fun q => Int32.lt_irrefl (Int32.lt_trans z1 q)
              have z3 : ¬ W = a.1 29 u := fun q => by rw [q] at z1; exact Int32.lt_irrefl z1
              exact ⟨A', B', by simp [f_X1_cut_L41, f_X1_fits, f_X1_tryRing, d0, d1, am_jn, am_bd, am_gu, c3, d2, d3, w4, uw, e2, f2, p2, p3, u2, u3, hW, hR, z1, y1], by simp [f_X12_log_L171, d0, d1, am_jn, am_gu, d2, d3, r1, r2, r3, w4, uw, e2, c4, f3, p2, p3, u2, u3, eW, eR, s1, z2, z3, y2], y3, y4, y5, y6⟩
            · by_cases z2 : W = a.1 29 u
              · have z3 : ¬ W < a.1 29 u := fun q => by rw [z2] at q; exact Int32.lt_irrefl q
                by_cases z4 : a.1 30 u < R
                · exact ⟨A, B, by simp [f_X1_cut_L41, f_X1_fits, f_X1_tryRing, d0, d1, am_jn, am_bd, am_gu, c3, d2, d3, w4, uw, e2, f2, p2, p3, u2, u3, hW, hR, z2, z4, Int32.lt_irrefl, g1], by simp [f_X12_log_L171, d0, d1, am_jn, am_gu, d2, d3, r1, r2, r3, w4, uw, e2, c4, f3, p2, p3, u2, u3, eW, eR, s1, s2, z2, z4, Int32.lt_irrefl, g2], g3, g4, g5, g6⟩
                · rw [z2] at y1 y2
                  exact ⟨A', B', by simp [f_X1_cut_L41, f_X1_fits, f_X1_tryRing, d0, d1, am_jn, am_bd, am_gu, c3, d2, d3, w4, uw, e2, f2, p2, p3, u2, u3, hW, hR, z2, z4, Int32.lt_irrefl, y1], by simp [f_X12_log_L171, d0, d1, am_jn, am_gu, d2, d3, r1, r2, r3, w4, uw, e2, c4, f3, p2, p3, u2, u3, eW, eR, s1, s2, z2, z4, Int32.lt_irrefl, y2], y3, y4, y5, y6⟩
              · have z3 : W < a.1 29 u := Int32.lt_of_le_of_ne (Int32.not_lt.mp z1) z2
                exact ⟨A, B, by simp [f_X1_cut_L41, f_X1_fits, f_X1_tryRing, d0, d1, am_jn, am_bd, am_gu, c3, d2, d3, w4, uw, e2, f2, p2, p3, u2, u3, hW, hR, z1, z2, g1], by simp [f_X12_log_L171, d0, d1, am_jn, am_gu, d2, d3, r1, r2, r3, w4, uw, e2, c4, f3, p2, p3, u2, u3, eW, eR, s1, z3, g2], g3, g4, g5, g6⟩
          · have f3 := mt f1.mpr f2
            exact ⟨A, B, by simp [f_X1_cut_L41, f_X1_fits, d0, d1, am_jn, am_bd, am_gu, c3, d2, d3, w4, uw, e2, f2, g1], by simp [f_X12_log_L171, d0, d1, am_jn, am_gu, d2, d3, r1, w4, uw, e2, c4, f3, g2], g3, g4, g5, g6⟩
theorem cut_out {len nk : Nat} {fl : Int64} {v v' : Int32} (hl : len ≤ 60) (hn : nk ≤ 8) (hv : ∀ j, j < nk → (v.toBitVec.getLsbD j = true ↔ v'.toBitVec.getLsbD j = true)) : ∀ (n u : Nat) (a b : am_S), rl_x [] a b → kd a nk → cu a b len nk u → u ≤ len → u < n → ∃ a' b', f_X1_cut_L19 n (nI len) fl v (nI u - 1) a = some (.inr ((), a')) ∧ f_X12_log_L118 n (nI len) fl v' (nI u - 1) b = some (.inr ((), b')) ∧ rl_x [] a' b' ∧ cu a' b' len nk 0 ∧ rw_on [29, 30, 31] a' a ∧ rw_on [99, 100, 101] b' b := by
  intro n
  induction n with
  | zero => intro u a b h hk hc h1 h2; omega
  | succ n ih =>
    intro u a b h hk hc h1 h2
    cases u with
    | zero =>
      have d : nI 0 - 1 < 0 := by decide
      exact ⟨a, b, by simp [f_X1_cut_L19, d], by simp [f_X12_log_L118, d], h, hc, rw_on.refl _ _, rw_on.refl _ _⟩
    | succ u =>
      have x6 : nI (u + 1) - 1 = nI u := nI_pred u
      rw [x6]
      have d0 : ¬ nI u < 0 := nI_pos (by omega)
      have d1 : nI u + -1 = nI u - 1 := i_m1 u
      have d4 : nI u + 1 = nI (u + 1) := nI_1 u
      have u2 : am_in (nI u) 61 = true := rl_nin (by decide) (by omega)
      have u3 : (nI u).toNatClampNeg = u := nI_clamp (by omega)
      have u4 : am_in (nI (u + 1)) 61 = true := rl_nin (by decide) (by omega)
      have u5 : (nI (u + 1)).toNatClampNeg = u + 1 := nI_clamp (by omega)
      obtain ⟨t1, t2, r, t3, t4, -⟩ := hc (u + 1) (by omega) (by omega)
      have h' : rl_x [] (w3 a 29 30 31 u (a.1 29 (u + 1)) (a.1 30 (u + 1)) (-1)) (w3 b 99 100 101 u (a.1 29 (u + 1)) (a.1 30 (u + 1)) (-1)) := h.on w3_oa w3_ob (by intro p hp; revert p; decide) (by decide) (by decide)
      have hk' : kd (w3 a 29 30 31 u (a.1 29 (u + 1)) (a.1 30 (u + 1)) (-1)) nk := hk.on w3_oa (by decide) (by decide)
      have hc' : cu (w3 a 29 30 31 u (a.1 29 (u + 1)) (a.1 30 (u + 1)) (-1)) (w3 b 99 100 101 u (a.1 29 (u + 1)) (a.1 30 (u + 1)) (-1)) len nk u := by
        refine cu_put (fun j q1 q2 => hc j (by omega) q2) (w3_oa 18 (by decide)).1 w3_a w3_b ?_
        refine ⟨by simp [w3, rl_wI], by simp [w3, rl_wI], r, by omega, ?_, fun _ => ⟨by simp [w3, rl_wI], Or.inl ⟨by simp [w3, rl_wI], ?_⟩⟩⟩
        · have : (w3 a 29 30 31 u (a.1 29 (u + 1)) (a.1 30 (u + 1)) (-1)).1 30 u = a.1 30 (u + 1) := by simp [w3, rl_wI]
          rw [this]; exact t4
        · rw [w3_a 30 (u + 1) (by simp) (by omega)]; exact t4
      obtain ⟨A, B, g1, g2, g3, g4, g5, g6⟩ := cut_in (fl := fl) hl hn (by omega) hv am_FU nk _ _ h' hk' hc' (by omega) (by unfold am_FU; omega)
      have hk2 := hk'.on g5 (by decide) (by decide)
      obtain ⟨A', B', y1, y2, y3, y4, y5, y6⟩ := ih u A B g3 hk2 g4 (by omega) (by omega)
      have e17 : (w3 a 29 30 31 u (a.1 29 (u + 1)) (a.1 30 (u + 1)) (-1)).1 17 0 = nI nk := hk'.1
      have e37 : b.1 58 37 = nI nk := (h.f (c := 17) (k := 0) (by decide)).trans hk.1
      unfold w3 at g1 g2 e17
      refine ⟨A', B', ?_, ?_, y3, y4, y5.trans (g5.trans w3_oa), y6.trans (g6.trans w3_ob)⟩
      · simp only [f_X1_cut_L19, f_X1_leaveOut, if_neg d0, d4, rl_gu u2, rl_gu u4, u3, u5, rl_bd, e17, g1, am_lp, d1]
        exact y1
      · simp only [f_X12_log_L118, if_neg d0, d4, rl_gu u2, rl_gu u4, u3, u5, e37, t1, t2, g2, am_lp, d1]
        exact y2
