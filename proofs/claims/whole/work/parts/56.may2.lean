/-! ===== may and back on both sides ===== -/
theorem g_may (s : am_S) (x1 x2 x3 : Int32) (h : rl_q s) (hf : ri_fams s) (hk : ri_kinds s) (hl : ri_lent s) : ∃ (v : Int32) (s1 s2 : am_S), f_X11_may s x1 x2 x3 = some (v, s1) ∧ f_X12_may s1 x1 x2 x3 = some (v, s2) ∧ s2 = s := by
  have em : s.1 58 41 = s.1 21 0 := rq_f h (by decide)
  have ek : s.1 58 37 = s.1 17 0 := rq_f h (by decide)
  by_cases a0 : x1 < 0
  · exact ⟨-1, s, s, by simp [f_X11_may, f_X2_has, am_bd, a0], by simp [f_X12_may, f_X12_isFamily, am_bd, a0], rfl⟩
  by_cases a1 : ¬ x1 < s.1 21 0
  · exact ⟨-1, s, s, by simp [f_X11_may, f_X2_has, am_bd, a0, a1], by simp [f_X12_may, f_X12_isFamily, am_bd, a0, em, a1], rfl⟩
  have a1 := Decidable.not_not.mp a1
  by_cases b0 : x2 < 0
  · exact ⟨-1, s, s, by simp [f_X11_may, f_X2_has, f_X4_has, am_bd, a0, a1, b0], by simp [f_X12_may, f_X12_isFamily, f_X12_isKind, am_bd, a0, em, a1, b0], rfl⟩
  by_cases b1 : ¬ x2 < s.1 17 0
  · exact ⟨-1, s, s, by simp [f_X11_may, f_X2_has, f_X4_has, am_bd, a0, a1, b0, b1], by simp [f_X12_may, f_X12_isFamily, f_X12_isKind, am_bd, a0, em, ek, a1, b0, b1], rfl⟩
  have b1 := Decidable.not_not.mp b1
  by_cases d0 : x3 < 0
  · exact ⟨-1, s, s, by simp [f_X11_may, f_X2_has, f_X4_has, f_X11_isSeason, f_X11_isWithin, am_bd, am_gu, a0, a1, b0, b1, d0], by simp [f_X12_may, f_X12_isFamily, f_X12_isKind, am_bd, a0, em, ek, a1, b0, b1, d0], rfl⟩
  by_cases d1 : 39 < x3
  · exact ⟨-1, s, s, by simp [f_X11_may, f_X2_has, f_X4_has, f_X11_isSeason, f_X11_isWithin, am_bd, am_gu, a0, a1, b0, b1, d0, d1], by simp [f_X12_may, f_X12_isFamily, f_X12_isKind, am_bd, a0, em, ek, a1, b0, b1, d0, d1], rfl⟩
  obtain ⟨f, n, e1, e2, e3, e4⟩ := rl_ix hf.1 (by decide) a0 a1
  obtain ⟨k, m, g1, g2, g3, g4⟩ := rl_ix hk.1 (by decide) b0 b1
  obtain ⟨e, he, e5⟩ := nI_of d0
  have he40 : e < 40 := by
    apply Decidable.byContradiction
    intro q
    apply d1
    rw [e5]
    exact nI_lt (a := 39) (b := e) (by omega) (by omega)
  have mX := mc_X s f k e (by omega) (by omega) he40
  have mM := mc_M s f k e (by omega) (by omega) he40 h hl
  rw [← e4, ← g4, ← e5] at mX mM
  have o : mc_i (mc_b s f k e) = 0 ∨ mc_i (mc_b s f k e) = 1 := by cases mc_b s f k e <;> simp [mc_i]
  rcases o with o | o
  · rw [o] at mX mM
    exact ⟨0, s, s, by simp [f_X11_may, f_X2_has, f_X4_has, f_X11_isSeason, f_X11_isWithin, am_bd, am_gu, a0, a1, b0, b1, d0, d1, mX], by simp [f_X12_may, f_X12_isFamily, f_X12_isKind, am_bd, a0, em, ek, a1, b0, b1, d0, d1, mM], rfl⟩
  · rw [o] at mX mM
    exact ⟨1, s, s, by simp [f_X11_may, f_X2_has, f_X4_has, f_X11_isSeason, f_X11_isWithin, am_bd, am_gu, a0, a1, b0, b1, d0, d1, mX], by simp [f_X12_may, f_X12_isFamily, f_X12_isKind, am_bd, a0, em, ek, a1, b0, b1, d0, d1, mM], rfl⟩
theorem e_back (s : am_S) (x1 : Int32) (h : rl_q s) (hc : rl_n (s.1 1 1) 2000) : ∃ (v : Int32) (s1 s2 : am_S), f_X11_back s x1 = some (v, s1) ∧ f_X12_back s1 x1 = some (v, s2) ∧ (s2 = s ∨ ∃ n : Nat, n ≤ 2000 ∧ s2 = am_wI (am_wI s 1 1 (nI n)) 58 2 (nI n)) := by
  have em : s.1 58 2 = s.1 1 1 := rq_f h (by decide)
  by_cases a0 : x1 < 0
  · exact ⟨-1, s, s, by simp [f_X11_back, a0], by simp [f_X12_back, a0], Or.inl rfl⟩
  by_cases a1 : s.1 1 1 < x1
  · exact ⟨-1, s, s, by simp [f_X11_back, a0, a1], by simp [f_X12_back, a0, em, a1], Or.inl rfl⟩
  obtain ⟨n, hn, en⟩ := hc
  obtain ⟨j, hj, ej⟩ := nI_of a0
  have hjn : j ≤ n := by
    apply Decidable.byContradiction
    intro q
    apply a1
    rw [en, ej]
    exact nI_lt (by omega) (by omega)
  have c1 : s.1 1 1 - x1 = nI (n - j) := by rw [en, ej]; exact pk_sub hjn
  refine ⟨nI (n - j), am_wI s 1 1 (nI (n - j)), am_wI (am_wI s 1 1 (nI (n - j))) 58 2 (nI (n - j)), ?_, ?_, Or.inr ⟨n - j, by omega, rfl⟩⟩
  · simp [f_X11_back, a0, a1, c1]
  · have em' : (am_wI s 1 1 (nI (n - j))).1 58 2 = s.1 1 1 := em
    simp [f_X12_back, a0, em', a1, c1]
