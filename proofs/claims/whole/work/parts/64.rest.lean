/-! ===== rest on both sides ===== -/
theorem m_rest (a b : am_S) (x1 x2 : Int32) (h : rl_x [] a b) (hk : ri_kinds a) (hr : ri_rings a) (hf : ri_figs a) : ∃ v b', f_X11_rest a x1 x2 = some (v, a) ∧ f_X12_rest b x1 x2 = some (v, b') ∧ rw_on [117] b' b := by
  have ek : b.1 58 37 = a.1 17 0 := h.f (by decide)
  by_cases d0 : x1 < 0
  · exact ⟨-1, b, by simp [f_X11_rest, f_X4_has, am_bd, d0], by simp [f_X12_rest, f_X12_isKind, am_bd, d0], rw_on.refl _ _⟩
  by_cases d1 : ¬ x1 < a.1 17 0
  · exact ⟨-1, b, by simp [f_X11_rest, f_X4_has, am_bd, d0, d1], by simp [f_X12_rest, f_X12_isKind, am_bd, d0, ek, d1], rw_on.refl _ _⟩
  have d1 := Decidable.not_not.mp d1
  obtain ⟨k, m, g1, g2, g3, g4⟩ := rl_ix hk.1 (by decide) d0 d1
  rcases i_cn a x2 with ⟨q, ec⟩ | ⟨⟨q1, q2⟩, ec⟩
  · refine ⟨-1, b, by simp [f_X11_rest, f_X4_has, am_bd, d0, d1, ec], ?_, rw_on.refl _ _⟩
    by_cases q1 : x2 < -1
    · simp [f_X12_rest, f_X12_isKind, am_bd, d0, ek, d1, q1]
    · have q2 : 4 < x2 := q.resolve_left q1
      simp [f_X12_rest, f_X12_isKind, am_bd, d0, ek, d1, q1, q2]
  obtain ⟨N, N1, N2⟩ := hf.1
  have ht := fg_tof hf hr hk N2 N1
  obtain ⟨b', k1, k2, k3⟩ := cs_all (X := []) (by simp) (by simp) (by simp) (by simp) (by simp) ht N1 N2 h
  have main : ∀ d, d < 6 → x2 = cI d → ∃ v b', f_X11_rest a x1 x2 = some (v, a) ∧ f_X12_rest b x1 x2 = some (v, b') ∧ rw_on [117] b' b := by
    intro d hd e
    have c1 := rt_loop ht N1 N2 k d (by omega) hd am_FU 0 (by omega) (by unfold am_FU; omega)
    have c1 : f_X11_rest_L25 am_FU x1 x2 0 0 a = some (.inr (nI (fr a k d N), a)) := by rw [g4, e]; exact c1
    refine ⟨nI (fr a k d N), b', by simp [f_X11_rest, f_X4_has, am_bd, am_lp, d0, d1, ec, c1], ?_, k2⟩
    have s1 := sh_lt hd
    have c6 : am_in (nI (6 * k + sh d)) 48 = true := rl_nin (by decide) (by omega)
    have c7 : (nI (6 * k + sh d)).toNatClampNeg = 6 * k + sh d := nI_clamp (by omega)
    have c5 : 6 * x1 + nI (sh d) = nI (6 * k + sh d) := by
      rw [g4, show (6 : Int32) = nI 6 from rfl, pk_mul, nI_add]
    have c8 := k3 k d (by omega) hd
    by_cases z : d = 0
    · subst z
      have z2 : nI (sh 0) = 5 := rfl
      have z3 : x2 = -1 := e
      rw [z2] at c5
      simp [f_X12_rest, f_X12_isKind, am_bd, am_gu, am_jn, d0, ek, d1, q1, q2, k1, z3, c5, c6, c7, c8]
    · have z3 : ¬ x2 = -1 := by rw [e]; exact fun y => z ((cI_n1 (by omega)).mp y)
      have z2 : x2 = nI (sh d) := by rw [e]; unfold cI sh; rw [if_neg z, if_neg z]
      rw [← z2] at c5
      simp [f_X12_rest, f_X12_isKind, am_bd, am_gu, am_jn, d0, ek, d1, q1, q2, k1, z3, c5, c6, c7, c8]
  rcases i_col q1 q2 with e | ⟨c, c1, c2⟩
  · exact main 0 (by decide) e
  · exact main (c + 1) (by omega) (by rw [c2]; rfl)
