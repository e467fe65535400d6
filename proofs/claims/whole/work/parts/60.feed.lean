/-! ===== feed, paint, refuse on both sides ===== -/
theorem ap_step {n j : Nat} {x sh : Int32} {a b : am_S} (h : rl_x [] a b) (hj : j < 2000) (ea : a.1 1 1 = nI j) (hs : ¬ sh < 0) : ∃ a' b', f_X10_append_L3 (n + 1) x sh a = f_X10_append_L3 n x (sh + -8) a' ∧ f_X12_put_L3 (n + 1) x sh b = f_X12_put_L3 n x (sh + -8) b' ∧ rl_x [] a' b' ∧ a'.1 1 1 = nI (j + 1) ∧ rw_on [1, 2] a' a ∧ rw_on [58, 59] b' b ∧ ∀ i, i ≠ 2 → b'.1 58 i = b.1 58 i := by
  have eb : b.1 58 2 = nI j := (h.f (c := 1) (k := 1) (by decide)).trans ea
  have c1 : am_in (nI j) 2000 = true := rl_nin (by decide) hj
  have c2 : (nI j).toNatClampNeg = j := nI_clamp (by omega)
  have c3 : nI j + 1 = nI (j + 1) := nI_1 j
  have c4 : nI j < 2000 := nI_lt (a := j) (b := 2000) hj (by decide)
  refine ⟨am_wI (am_wI a 2 j (am_nar 1 ((Int32.toInt8 (x >>> (sh &&& 31))).toInt32))) 1 1 (nI (j + 1)), am_wI (am_wI b 59 j (am_nar 1 ((Int32.toInt8 (x >>> (sh &&& 31))).toInt32))) 58 2 (nI (j + 1)), ?_, ?_, ?_, rfl, ?_, ?_, ?_⟩
  · simp [f_X10_append_L3, hs, ea, c4, am_gu, c1, c2, c3]
  · simp [f_X12_put_L3, hs, eb, am_gu, c1, c2, c3]
  · exact (h.w2 (c := 2) (m := 59) (by decide) _ _).f2 (c := 1) (k := 1) (m := 2) (by decide) _
  · exact ((rw_on.refl _ _).w (by decide) _ _).w (by decide) _ _
  · exact ((rw_on.refl _ _).w (by decide) _ _).w (by decide) _ _
  · intro i hi
    simp [rl_wI, hi]
theorem ap_fu : am_FU = 4995 + 1 + 1 + 1 + 1 + 1 := rfl
theorem ap_all {j : Nat} (x : Int32) {a b : am_S} (h : rl_x [] a b) (hj : j + 4 ≤ 2000) (ea : a.1 1 1 = nI j) : ∃ a' b', f_X10_append a x = some ((), a') ∧ f_X12_put b x = some ((), b') ∧ rl_x [] a' b' ∧ a'.1 1 1 = nI (j + 4) ∧ rw_on [1, 2] a' a ∧ rw_on [58, 59] b' b ∧ ∀ i, i ≠ 2 → b'.1 58 i = b.1 58 i := by
  unfold f_X10_append f_X12_put
  rw [ap_fu]
  generalize 4995 = n
  obtain ⟨a1, b1, p1, q1, h1, e1, u1, w1, z1⟩ := ap_step (n := n + 1 + 1 + 1 + 1) (x := x) (sh := 24) h (by omega) ea (by decide)
  obtain ⟨a2, b2, p2, q2, h2, e2, u2, w2, z2⟩ := ap_step (n := n + 1 + 1 + 1) (x := x) (sh := 24 + -8) h1 (by omega) e1 (by decide)
  obtain ⟨a3, b3, p3, q3, h3, e3, u3, w3, z3⟩ := ap_step (n := n + 1 + 1) (x := x) (sh := 24 + -8 + -8) h2 (by omega) e2 (by decide)
  obtain ⟨a4, b4, p4, q4, h4, e4, u4, w4, z4⟩ := ap_step (n := n + 1) (x := x) (sh := 24 + -8 + -8 + -8) h3 (by omega) e3 (by decide)
  refine ⟨a4, b4, ?_, ?_, h4, e4, u4.trans (u3.trans (u2.trans u1)), w4.trans (w3.trans (w2.trans w1)), fun i hi => (z4 i hi).trans ((z3 i hi).trans ((z2 i hi).trans (z1 i hi)))⟩
  · rw [p1, p2, p3, p4, f_X10_append_L3]
    rfl
  · rw [q1, q2, q3, q4, f_X12_put_L3]
    rfl
theorem m_feed (a b : am_S) (x1 x2 x3 x4 x5 : Int32) (h : rl_x [] a b) (ht : ri_tape a) : ∃ v a' b', f_X11_feed a x1 x2 x3 x4 x5 = some (v, a') ∧ f_X12_feed b x1 x2 x3 x4 x5 = some (v, b') ∧ rl_x [] a' b' ∧ ri_tape a' ∧ rw_on [1, 2] a' a ∧ rw_on [58, 59] b' b ∧ ∀ i, i ≠ 2 → b'.1 58 i = b.1 58 i := by
  obtain ⟨j, hj, ea⟩ := ht
  have eb : b.1 58 2 = nI j := (h.f (c := 1) (k := 1) (by decide)).trans ea
  by_cases hl : j ≤ 1980
  · have c1 : ¬ (1980 : Int32) < nI j := nI_nlt (a := 1980) (b := j) hl (by decide)
    have c2 : ¬ (2000 : Int32) < nI j + 20 := by
      rw [show nI j + 20 = nI (j + 20) from nI_add j 20]
      exact nI_nlt (a := 2000) (b := j + 20) (by omega) (by decide)
    obtain ⟨a1, b1, p1, q1, h1, e1, u1, w1, z1⟩ := ap_all x1 h (by omega) ea
    obtain ⟨a2, b2, p2, q2, h2, e2, u2, w2, z2⟩ := ap_all x2 h1 (by omega) e1
    obtain ⟨a3, b3, p3, q3, h3, e3, u3, w3, z3⟩ := ap_all x3 h2 (by omega) e2
    obtain ⟨a4, b4, p4, q4, h4, e4, u4, w4, z4⟩ := ap_all x4 h3 (by omega) e3
    obtain ⟨a5, b5, p5, q5, h5, e5, u5, w5, z5⟩ := ap_all x5 h4 (by omega) e4
    have eb5 : b5.1 58 2 = nI (j + 4 + 4 + 4 + 4 + 4) := (h5.f (c := 1) (k := 1) (by decide)).trans e5
    refine ⟨nI (j + 4 + 4 + 4 + 4 + 4), a5, b5, ?_, ?_, h5, ⟨_, by omega, e5⟩, u5.trans (u4.trans (u3.trans (u2.trans u1))), w5.trans (w4.trans (w3.trans (w2.trans w1))), fun i hi => (z5 i hi).trans ((z4 i hi).trans ((z3 i hi).trans ((z2 i hi).trans (z1 i hi))))⟩
    · simp [f_X11_feed, ea, c1, am_bd, p1, p2, p3, p4, p5, e5]
    · simp [f_X12_feed, eb, c2, am_bd, q1, q2, q3, q4, q5, eb5]
  · have c1 : (1980 : Int32) < nI j := nI_lt (a := 1980) (b := j) (by omega) (by omega)
    have c2 : (2000 : Int32) < nI j + 20 := by
      rw [show nI j + 20 = nI (j + 20) from nI_add j 20]
      exact nI_lt (a := 2000) (b := j + 20) (by omega) (by omega)
    exact ⟨-1, a, b, by simp [f_X11_feed, ea, c1], by simp [f_X12_feed, eb, c2], h, ⟨j, hj, ea⟩, rw_on.refl _ _, rw_on.refl _ _, fun _ _ => rfl⟩
/-- paint's loop -/
theorem pt_loop (l B : Nat) (hB : B < 400) : ∀ (n i : Nat) (acc : Int32) (a b : am_S), rl_x [] a b → i ≤ B + 1 → B + 1 < i + n → ∃ v a' b', f_X11_paint_L46 n (nI l) (nI B) acc (nI i) a = some (.inr (v, a')) ∧ f_X12_paint_L41 n (nI l) (nI B) acc (nI i) b = some (.inr (v, b')) ∧ rl_x [] a' b' ∧ rw_on [42] a' a ∧ rw_on [105] b' b ∧ ∀ j, a'.1 42 j = a.1 42 j ∨ a'.1 42 j = nI l := by
  intro n
  induction n with
  | zero => intro i acc a b h h1 h2; omega
  | succ n ih =>
    intro i acc a b h h1 h2
    have r0 : b.1 105 = a.1 42 := h.r (by decide) (by decide)
    have r1 : b.1 106 = a.1 43 := h.r (by decide) (by decide)
    by_cases hi : i < B + 1
    · have d1 : ¬ nI B < nI i := nI_nlt (by omega) (by omega)
      have d2 : am_in (nI i) 400 = true := rl_nin (by decide) (by omega)
      have d3 : (nI i).toNatClampNeg = i := nI_clamp (by omega)
      have d4 : nI i + 1 = nI (i + 1) := nI_1 i
      by_cases c1 : a.1 42 i = -1
      · by_cases c2 : a.1 43 i = -1
        · have h' : rl_x [] (am_wI a 42 i (nI l)) (am_wI b 105 i (nI l)) := h.w2 (by decide) _ _
          obtain ⟨v, a', b', g1, g2, g3, g4, g5, g6⟩ := ih (i + 1) (acc + 1) _ _ h' (by omega) (by omega)
          refine ⟨v, a', b', by simp [f_X11_paint_L46, d1, am_gu, am_jn, d2, d3, d4, c1, c2, g1], by simp [f_X12_paint_L41, d1, am_gu, am_jn, d2, d3, d4, r0, r1, c1, c2, g2], g3, g4.trans ((rw_on.refl _ _).w (by decide) _ _), g5.trans ((rw_on.refl _ _).w (by decide) _ _), fun j => ?_⟩
          rcases g6 j with q | q
          · rw [rl_ws] at q
            by_cases e : j = i
            · simp only [e, if_true] at q
              exact Or.inr (by rw [e]; exact q)
            · simp only [e, if_false] at q
              exact Or.inl q
          · exact Or.inr q
        · obtain ⟨v, a', b', g1, g2, g3, g4, g5, g6⟩ := ih (i + 1) acc _ _ h (by omega) (by omega)
          exact ⟨v, a', b', by simp [f_X11_paint_L46, d1, am_gu, am_jn, d2, d3, d4, c1, c2, g1], by simp [f_X12_paint_L41, d1, am_gu, am_jn, d2, d3, d4, r0, r1, c1, c2, g2], g3, g4, g5, g6⟩
      · obtain ⟨v, a', b', g1, g2, g3, g4, g5, g6⟩ := ih (i + 1) acc _ _ h (by omega) (by omega)
        exact ⟨v, a', b', by simp [f_X11_paint_L46, d1, am_gu, am_jn, d2, d3, d4, c1, g1], by simp [f_X12_paint_L41, d1, am_gu, am_jn, d2, d3, d4, r0, r1, c1, g2], g3, g4, g5, g6⟩
    · have d1 : nI B < nI i := nI_lt (by omega) (by omega)
      exact ⟨acc, a, b, by simp [f_X11_paint_L46, d1], by simp [f_X12_paint_L41, d1], h, rw_on.refl _ _, rw_on.refl _ _, fun _ => Or.inl rfl⟩
theorem m_paint (a b : am_S) (x1 x2 x3 : Int32) (h : rl_x [] a b) (hf : ri_figs a) : ∃ v a' b', f_X11_paint a x1 x2 x3 = some (v, a') ∧ f_X12_paint b x1 x2 x3 = some (v, b') ∧ rl_x [] a' b' ∧ rw_on [42] a' a ∧ rw_on [105] b' b ∧ ∀ j, a'.1 42 j = a.1 42 j ∨ ∃ l, l < (a.1 39 7).toNatClampNeg ∧ a'.1 42 j = nI l := by
  have em : b.1 58 72 = a.1 39 7 := h.f (by decide)
  have en : b.1 58 66 = a.1 39 1 := h.f (by decide)
  have tr : rl_x [] a b ∧ rw_on [42] a a ∧ rw_on [105] b b ∧ ∀ j, a.1 42 j = a.1 42 j ∨ ∃ l, l < (a.1 39 7).toNatClampNeg ∧ a.1 42 j = nI l := ⟨h, rw_on.refl _ _, rw_on.refl _ _, fun _ => Or.inl rfl⟩
  by_cases a0 : x1 < 0
  · exact ⟨-1, a, b, by simp [f_X11_paint, f_X3_hasLot, am_bd, a0], by simp [f_X12_paint, am_bd, a0], tr⟩
  by_cases a1 : ¬ x1 < a.1 39 7
  · exact ⟨-1, a, b, by simp [f_X11_paint, f_X3_hasLot, am_bd, a0, a1], by simp [f_X12_paint, am_bd, a0, em, a1], tr⟩
  have a1 := Decidable.not_not.mp a1
  by_cases b0 : x2 < 0
  · exact ⟨-1, a, b, by simp [f_X11_paint, f_X3_hasLot, f_X3_has, am_bd, a0, a1, b0], by simp [f_X12_paint, f_X12_isFigure, am_bd, a0, em, a1, b0], tr⟩
  by_cases b1 : ¬ x2 < a.1 39 1
  · exact ⟨-1, a, b, by simp [f_X11_paint, f_X3_hasLot, f_X3_has, am_bd, a0, a1, b0, b1], by simp [f_X12_paint, f_X12_isFigure, am_bd, a0, em, en, a1, b0, b1], tr⟩
  have b1 := Decidable.not_not.mp b1
  by_cases c0 : x3 < 0
  · exact ⟨-1, a, b, by simp [f_X11_paint, f_X3_hasLot, f_X3_has, am_bd, a0, a1, b0, b1, c0], by simp [f_X12_paint, f_X12_isFigure, am_bd, a0, em, en, a1, b0, b1, c0], tr⟩
  by_cases c1 : ¬ x3 < a.1 39 1
  · exact ⟨-1, a, b, by simp [f_X11_paint, f_X3_hasLot, f_X3_has, am_bd, a0, a1, b0, b1, c0, c1], by simp [f_X12_paint, f_X12_isFigure, am_bd, a0, em, en, a1, b0, b1, c0, c1], tr⟩
  have c1 := Decidable.not_not.mp c1
  by_cases d0 : x3 < x2
  · exact ⟨-1, a, b, by simp [f_X11_paint, f_X3_hasLot, f_X3_has, am_bd, a0, a1, b0, b1, c0, c1, d0], by simp [f_X12_paint, f_X12_isFigure, am_bd, a0, em, en, a1, b0, b1, c0, c1, d0], tr⟩
  obtain ⟨l, n, e1, e2, e3, e4⟩ := rl_ix hf.2.1 (by decide) a0 a1
  obtain ⟨A, nA, -, f2, f3, f4⟩ := rl_ix hf.1 (by decide) b0 b1
  obtain ⟨B, nB, -, g2, g3, g4⟩ := rl_ix hf.1 (by decide) c0 c1
  have hAB : A ≤ B := by
    apply Decidable.byContradiction
    intro q
    apply d0
    rw [f4, g4]
    exact nI_lt (by omega) (by omega)
  obtain ⟨v, a', b', k1, k2, k3, k4, k5, k6⟩ := pt_loop l B (by omega) am_FU A 0 a b h (by omega) (by unfold am_FU; omega)
  rw [← e4, ← f4, ← g4] at k1 k2
  refine ⟨v, a', b', by simp [f_X11_paint, f_X3_hasLot, f_X3_has, am_bd, am_lp, a0, a1, b0, b1, c0, c1, d0, k1], by simp [f_X12_paint, f_X12_isFigure, am_bd, am_lp, a0, em, en, a1, b0, b1, c0, c1, d0, k2], k3, k4, k5, fun j => ?_⟩
  rcases k6 j with q | q
  · exact Or.inl q
  · exact Or.inr ⟨l, by rw [e1, nI_clamp (by omega)]; exact e3, q⟩
