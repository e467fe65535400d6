/-! ===== getters on both sides (printed by wip/gen/easy2.py) ===== -/
theorem rl_ix {x c : Int32} {m : Nat} (hc : rl_n c m) (hm : m < 2 ^ 30) (h0 : ¬ x < 0) (h1 : x < c) : ∃ j n : Nat, c = nI n ∧ n ≤ m ∧ j < n ∧ x = nI j := by
  obtain ⟨n, hn, rfl⟩ := hc
  obtain ⟨j, hj, rfl⟩ := nI_of h0
  exact ⟨j, n, rfl, hn, (nI_ltI hj (by omega)).mp h1, rfl⟩
theorem rl_ixin {x c : Int32} {m N : Nat} (hc : rl_n c m) (hm : m < 2 ^ 30) (hN : m ≤ N) (hN2 : N < 2 ^ 30) (h0 : ¬ x < 0) (h1 : x < c) : am_in x N = true := by
  obtain ⟨j, n, -, h3, h4, rfl⟩ := rl_ix hc hm h0 h1
  exact rl_nin (by omega) (by omega)
theorem g_ring (s : am_S) (x1 : Int32) (x2 : Int32) (h : rl_q s) (hc : rl_n (s.1 32 2) 200) : ∃ (v : Int32) (s1 s2 : am_S), f_X11_ring s x1 x2 = some (v, s1) ∧ f_X12_ring s1 x1 x2 = some (v, s2) ∧ s2 = s := by
  have em : s.1 58 55 = s.1 32 2 := rq_f h (by decide)
  have r0 : s.1 94 = s.1 34 := rq_r h (by decide)
  have r1 : s.1 95 = s.1 35 := rq_r h (by decide)
  have r2 : s.1 96 = s.1 36 := rq_r h (by decide)
  have r3 : s.1 97 = s.1 37 := rq_r h (by decide)
  have r4 : s.1 98 = s.1 38 := rq_r h (by decide)
  by_cases a0 : x1 < 0
  · exact ⟨-1, s, s, by simp [f_X11_ring, f_X7_has, am_bd, a0], by simp [f_X12_ring, am_bd, a0], rfl⟩
  by_cases a1 : ¬ x1 < s.1 32 2
  · exact ⟨-1, s, s, by simp [f_X11_ring, f_X7_has, am_bd, a0, a1], by simp [f_X12_ring, am_bd, a0, em, a1], rfl⟩
  have a1 := Decidable.not_not.mp a1
  have hin : am_in x1 200 = true := rl_ixin hc (by decide) (by decide) (by decide) a0 a1
  by_cases w0 : x2 = 0
  · exact ⟨s.1 34 x1.toNatClampNeg, s, s, by simp [f_X11_ring, f_X7_has, am_bd, am_gu, a0, a1, hin, w0], by simp [f_X12_ring, am_bd, am_gu, a0, a1, hin, w0, em, r0, r1, r2, r3, r4], rfl⟩
  by_cases w1 : x2 = 1
  · exact ⟨s.1 35 x1.toNatClampNeg, s, s, by simp [f_X11_ring, f_X7_has, am_bd, am_gu, a0, a1, hin, w1], by simp [f_X12_ring, am_bd, am_gu, a0, a1, hin, w1, em, r0, r1, r2, r3, r4], rfl⟩
  by_cases w2 : x2 = 2
  · exact ⟨s.1 36 x1.toNatClampNeg, s, s, by simp [f_X11_ring, f_X7_has, am_bd, am_gu, a0, a1, hin, w2], by simp [f_X12_ring, am_bd, am_gu, a0, a1, hin, w2, em, r0, r1, r2, r3, r4], rfl⟩
  by_cases w3 : x2 = 3
  · exact ⟨s.1 37 x1.toNatClampNeg, s, s, by simp [f_X11_ring, f_X7_has, am_bd, am_gu, a0, a1, hin, w3], by simp [f_X12_ring, am_bd, am_gu, a0, a1, hin, w3, em, r0, r1, r2, r3, r4], rfl⟩
  by_cases w4 : x2 = 4
  · exact ⟨s.1 38 x1.toNatClampNeg, s, s, by simp [f_X11_ring, f_X7_has, am_bd, am_gu, a0, a1, hin, w4], by simp [f_X12_ring, am_bd, am_gu, a0, a1, hin, w4, em, r0, r1, r2, r3, r4], rfl⟩
  exact ⟨-1, s, s, by simp [f_X11_ring, f_X7_has, am_bd, am_gu, a0, a1, hin, w0, w1, w2, w3, w4], by simp [f_X12_ring, am_bd, am_gu, a0, a1, hin, w0, w1, w2, w3, w4, em, r0, r1, r2, r3, r4], rfl⟩
theorem g_waste (s : am_S) (x1 : Int32) (h : rl_q s) (hc : rl_n (s.1 32 0) 30) : ∃ (v : Int32) (s1 s2 : am_S), f_X11_waste s x1 = some (v, s1) ∧ f_X12_waste s1 x1 = some (v, s2) ∧ s2 = s := by
  have em : s.1 58 53 = s.1 32 0 := rq_f h (by decide)
  have r0 : s.1 93 = s.1 33 := rq_r h (by decide)
  by_cases a0 : x1 < 0
  · exact ⟨-1, s, s, by simp [f_X11_waste, am_bd, a0], by simp [f_X12_waste, am_bd, a0], rfl⟩
  by_cases a1 : ¬ x1 < s.1 32 0
  · exact ⟨-1, s, s, by simp [f_X11_waste, am_bd, a0, a1], by simp [f_X12_waste, am_bd, a0, em, a1], rfl⟩
  have a1 := Decidable.not_not.mp a1
  have hin : am_in x1 30 = true := rl_ixin hc (by decide) (by decide) (by decide) a0 a1
  exact ⟨s.1 33 x1.toNatClampNeg, s, s, by simp [f_X11_waste, am_bd, am_gu, a0, a1, hin], by simp [f_X12_waste, am_bd, am_gu, a0, a1, hin, em, r0], rfl⟩
theorem g_money (s : am_S) (x1 : Int32) (h : rl_q s) (hc : rl_n (s.1 21 0) 8) : ∃ (v : Int32) (s1 s2 : am_S), f_X11_money s x1 = some (v, s1) ∧ f_X12_money s1 x1 = some (v, s2) ∧ s2 = s := by
  have em : s.1 58 41 = s.1 21 0 := rq_f h (by decide)
  have r0 : s.1 86 = s.1 24 := rq_r h (by decide)
  by_cases a0 : x1 < 0
  · exact ⟨0, s, s, by simp [f_X11_money, f_X2_has, am_bd, a0], by simp [f_X12_money, f_X12_isFamily, am_bd, a0], rfl⟩
  by_cases a1 : ¬ x1 < s.1 21 0
  · exact ⟨0, s, s, by simp [f_X11_money, f_X2_has, am_bd, a0, a1], by simp [f_X12_money, f_X12_isFamily, am_bd, a0, em, a1], rfl⟩
  have a1 := Decidable.not_not.mp a1
  have hin : am_in x1 8 = true := rl_ixin hc (by decide) (by decide) (by decide) a0 a1
  exact ⟨s.1 24 x1.toNatClampNeg, s, s, by simp [f_X11_money, f_X2_has, am_bd, am_gu, a0, a1, hin], by simp [f_X12_money, f_X12_isFamily, am_bd, am_gu, a0, a1, hin, em, r0], rfl⟩
theorem g_figure (s : am_S) (x1 : Int32) (x2 : Int32) (h : rl_q s) (hc : rl_n (s.1 39 1) 400) (hi : ri_figs s) (hr : rl_n (s.1 32 2) 200) : ∃ (v : Int32) (s1 s2 : am_S), f_X11_figure s x1 x2 = some (v, s1) ∧ f_X12_figure s1 x1 x2 = some (v, s2) ∧ s2 = s := by
  have em : s.1 58 66 = s.1 39 1 := rq_f h (by decide)
  have r0 : s.1 104 = s.1 40 := rq_r h (by decide)
  have r1 : s.1 94 = s.1 34 := rq_r h (by decide)
  have r2 : s.1 96 = s.1 36 := rq_r h (by decide)
  have r3 : s.1 97 = s.1 37 := rq_r h (by decide)
  have r4 : s.1 105 = s.1 42 := rq_r h (by decide)
  have r5 : s.1 106 = s.1 43 := rq_r h (by decide)
  have r6 : s.1 107 = s.1 44 := rq_r h (by decide)
  have r7 : s.1 108 = s.1 41 := rq_r h (by decide)
  by_cases a0 : x1 < 0
  · exact ⟨-1, s, s, by simp [f_X11_figure, f_X3_has, am_bd, a0], by simp [f_X12_figure, f_X12_isFigure, f_X12_kindOf, am_bd, a0], rfl⟩
  by_cases a1 : ¬ x1 < s.1 39 1
  · exact ⟨-1, s, s, by simp [f_X11_figure, f_X3_has, am_bd, a0, a1], by simp [f_X12_figure, f_X12_isFigure, f_X12_kindOf, am_bd, a0, em, a1], rfl⟩
  have a1 := Decidable.not_not.mp a1
  have hin : am_in x1 400 = true := rl_ixin hc (by decide) (by decide) (by decide) a0 a1
  have hx : am_in (s.1 40 x1.toNatClampNeg) 200 = true := by
    obtain ⟨j, n, e1, e2, e3, e4⟩ := rl_ix hc (by decide) a0 a1
    obtain ⟨r, f, q1, q2, q3, -⟩ := (hi.2.2.2 j (by rw [e1, nI_clamp (by omega)]; exact e3)).1
    rw [e4, nI_clamp (by omega), q3]
    obtain ⟨n2, g1, g2⟩ := hr
    rw [g2, nI_clamp (by omega)] at q1
    exact rl_nin (by decide) (by omega)
  by_cases w0 : x2 = 0
  · exact ⟨s.1 40 x1.toNatClampNeg, s, s, by simp [f_X11_figure, f_X3_has, am_bd, am_gu, a0, a1, hin, hx, w0], by simp [f_X12_figure, f_X12_isFigure, f_X12_kindOf, am_bd, am_gu, a0, a1, hin, hx, w0, em, r0, r1, r2, r3, r4, r5, r6, r7], rfl⟩
  by_cases w1 : x2 = 1
  · exact ⟨s.1 34 (s.1 40 x1.toNatClampNeg).toNatClampNeg, s, s, by simp [f_X11_figure, f_X3_has, am_bd, am_gu, a0, a1, hin, hx, w1], by simp [f_X12_figure, f_X12_isFigure, f_X12_kindOf, am_bd, am_gu, a0, a1, hin, hx, w1, em, r0, r1, r2, r3, r4, r5, r6, r7], rfl⟩
  by_cases w2 : x2 = 2
  · exact ⟨s.1 36 (s.1 40 x1.toNatClampNeg).toNatClampNeg, s, s, by simp [f_X11_figure, f_X3_has, am_bd, am_gu, a0, a1, hin, hx, w2], by simp [f_X12_figure, f_X12_isFigure, f_X12_kindOf, am_bd, am_gu, a0, a1, hin, hx, w2, em, r0, r1, r2, r3, r4, r5, r6, r7], rfl⟩
  by_cases w3 : x2 = 3
  · exact ⟨s.1 37 (s.1 40 x1.toNatClampNeg).toNatClampNeg, s, s, by simp [f_X11_figure, f_X3_has, am_bd, am_gu, a0, a1, hin, hx, w3], by simp [f_X12_figure, f_X12_isFigure, f_X12_kindOf, am_bd, am_gu, a0, a1, hin, hx, w3, em, r0, r1, r2, r3, r4, r5, r6, r7], rfl⟩
  by_cases w4 : x2 = 4
  · exact ⟨s.1 42 x1.toNatClampNeg, s, s, by simp [f_X11_figure, f_X3_has, am_bd, am_gu, a0, a1, hin, hx, w4], by simp [f_X12_figure, f_X12_isFigure, f_X12_kindOf, am_bd, am_gu, a0, a1, hin, hx, w4, em, r0, r1, r2, r3, r4, r5, r6, r7], rfl⟩
  by_cases w5 : x2 = 5
  · exact ⟨s.1 43 x1.toNatClampNeg, s, s, by simp [f_X11_figure, f_X3_has, am_bd, am_gu, a0, a1, hin, hx, w5], by simp [f_X12_figure, f_X12_isFigure, f_X12_kindOf, am_bd, am_gu, a0, a1, hin, hx, w5, em, r0, r1, r2, r3, r4, r5, r6, r7], rfl⟩
  by_cases w6 : x2 = 6
  · exact ⟨s.1 44 x1.toNatClampNeg, s, s, by simp [f_X11_figure, f_X3_has, am_bd, am_gu, a0, a1, hin, hx, w6], by simp [f_X12_figure, f_X12_isFigure, f_X12_kindOf, am_bd, am_gu, a0, a1, hin, hx, w6, em, r0, r1, r2, r3, r4, r5, r6, r7], rfl⟩
  by_cases w7 : x2 = 7
  · exact ⟨s.1 41 x1.toNatClampNeg, s, s, by simp [f_X11_figure, f_X3_has, am_bd, am_gu, a0, a1, hin, hx, w7], by simp [f_X12_figure, f_X12_isFigure, f_X12_kindOf, am_bd, am_gu, a0, a1, hin, hx, w7, em, r0, r1, r2, r3, r4, r5, r6, r7], rfl⟩
  exact ⟨-1, s, s, by simp [f_X11_figure, f_X3_has, am_bd, am_gu, a0, a1, hin, hx, w0, w1, w2, w3, w4, w5, w6, w7], by simp [f_X12_figure, f_X12_isFigure, f_X12_kindOf, am_bd, am_gu, a0, a1, hin, hx, w0, w1, w2, w3, w4, w5, w6, w7, em, r0, r1, r2, r3, r4, r5, r6, r7], rfl⟩
