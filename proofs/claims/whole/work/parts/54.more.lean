/-! ===== load, family, own, back on both sides ===== -/
theorem rl_ix2 {a b w : Nat} : nI a * nI w + nI b = nI (a * w + b) := by rw [pk_mul, nI_add]
theorem rl_ix3 {a b w : Nat} : nI w * nI a + nI b = nI (a * w + b) := by rw [pk_mul, nI_add, Nat.mul_comm]
theorem rl_lin {f e w W : Nat} (hf : f < W) (he : e < w) : f * w + e < W * w := by
  have h1 : (f + 1) * w ≤ W * w := Nat.mul_le_mul_right w hf
  rw [Nat.add_mul, Nat.one_mul] at h1
  omega
theorem g_load (s : am_S) (x1 x2 : Int32) (h : rl_q s) (hc : rl_n (s.1 21 0) 8) : ∃ (v : Int32) (s1 s2 : am_S), f_X11_load s x1 x2 = some (v, s1) ∧ f_X12_load s1 x1 x2 = some (v, s2) ∧ s2 = s := by
  have em : s.1 58 41 = s.1 21 0 := rq_f h (by decide)
  have r0 : s.1 92 = s.1 27 := rq_r h (by decide)
  by_cases a0 : x1 < 0
  · exact ⟨-1, s, s, by simp [f_X11_load, f_X2_has, am_bd, a0], by simp [f_X12_load, f_X12_isFamily, am_bd, a0], rfl⟩
  by_cases a1 : ¬ x1 < s.1 21 0
  · exact ⟨-1, s, s, by simp [f_X11_load, f_X2_has, am_bd, a0, a1], by simp [f_X12_load, f_X12_isFamily, am_bd, a0, em, a1], rfl⟩
  have a1 := Decidable.not_not.mp a1
  by_cases b0 : x2 < 0
  · exact ⟨-1, s, s, by simp [f_X11_load, f_X2_has, f_X11_isSeason, f_X11_isWithin, am_bd, am_gu, a0, a1, b0], by simp [f_X12_load, f_X12_isFamily, am_bd, a0, em, a1, b0], rfl⟩
  obtain ⟨f, n, e1, e2, e3, e4⟩ := rl_ix hc (by decide) a0 a1
  obtain ⟨e, he, e5⟩ := nI_of b0
  by_cases b1 : e < 40
  · have c1 : ¬ (39 : Int32) < x2 := by rw [e5]; exact nI_nlt (a := 39) (b := e) (by omega) (by omega)
    have c2 : x2 < 40 := by rw [e5]; exact nI_lt (a := e) (b := 40) b1 (by decide)
    have c3 : x1 * 40 + x2 = nI (f * 40 + e) := by rw [e4, e5]; exact rl_ix2 (w := 40)
    have c4 : 40 * x1 + x2 = nI (f * 40 + e) := by rw [e4, e5]; exact rl_ix3 (w := 40)
    have c5 : f * 40 + e < 320 := rl_lin (W := 8) (by omega) b1
    have c6 : am_in (nI (f * 40 + e)) 320 = true := rl_nin (by decide) c5
    have c7 : (1 : Int32) &&& 1 = 1 := by decide
    exact ⟨s.1 27 (nI (f * 40 + e)).toNatClampNeg, s, s, by simp [f_X11_load, f_X2_has, f_X11_isSeason, f_X11_isWithin, f_X2_carvedIn, am_bd, am_gu, a0, a1, b0, c1, c3, c6], by simp [f_X12_load, f_X12_isFamily, am_bd, am_gu, a0, em, a1, b0, c2, c4, c6, r0], rfl⟩
  · have c1 : (39 : Int32) < x2 := by rw [e5]; exact nI_lt (a := 39) (b := e) (by omega) (by omega)
    have c2 : ¬ x2 < 40 := by rw [e5]; exact nI_nlt (a := e) (b := 40) (by omega) (by omega)
    exact ⟨-1, s, s, by simp [f_X11_load, f_X2_has, f_X11_isSeason, f_X11_isWithin, am_bd, am_gu, a0, a1, b0, c1], by simp [f_X12_load, f_X12_isFamily, am_bd, a0, em, a1, b0, c2], rfl⟩
theorem e_own (s : am_S) (x1 x2 : Int32) (h : rl_q s) (hf : ri_fams s) (hk : ri_kinds s) : ∃ (v : Int32) (s1 s2 : am_S), f_X11_own s x1 x2 = some (v, s1) ∧ f_X12_own s1 x1 x2 = some (v, s2) ∧ (s2 = s ∨ ∃ j : Nat, s2 = am_wI (am_wI s 25 j 1) 87 j 1) := by
  have em : s.1 58 41 = s.1 21 0 := rq_f h (by decide)
  have ek : s.1 58 37 = s.1 17 0 := rq_f h (by decide)
  have r0 : s.1 87 = s.1 25 := rq_r h (by decide)
  by_cases a0 : x1 < 0
  · exact ⟨0, s, s, by simp [f_X11_own, f_X2_has, am_bd, a0], by simp [f_X12_own, f_X12_isFamily, am_bd, a0], Or.inl rfl⟩
  by_cases a1 : ¬ x1 < s.1 21 0
  · exact ⟨0, s, s, by simp [f_X11_own, f_X2_has, am_bd, a0, a1], by simp [f_X12_own, f_X12_isFamily, am_bd, a0, em, a1], Or.inl rfl⟩
  have a1 := Decidable.not_not.mp a1
  by_cases b0 : x2 < 0
  · exact ⟨0, s, s, by simp [f_X11_own, f_X2_has, f_X4_has, am_bd, a0, a1, b0], by simp [f_X12_own, f_X12_isFamily, f_X12_isKind, am_bd, a0, em, a1, b0], Or.inl rfl⟩
  by_cases b1 : ¬ x2 < s.1 17 0
  · exact ⟨0, s, s, by simp [f_X11_own, f_X2_has, f_X4_has, am_bd, a0, a1, b0, b1], by simp [f_X12_own, f_X12_isFamily, f_X12_isKind, am_bd, a0, em, ek, a1, b0, b1], Or.inl rfl⟩
  have b1 := Decidable.not_not.mp b1
  obtain ⟨f, n, e1, e2, e3, e4⟩ := rl_ix hf.1 (by decide) a0 a1
  obtain ⟨k, m, g1, g2, g3, g4⟩ := rl_ix hk.1 (by decide) b0 b1
  have c3 : x1 * 8 + x2 = nI (f * 8 + k) := by rw [e4, g4]; exact rl_ix2 (w := 8)
  have c4 : 8 * x1 + x2 = nI (f * 8 + k) := by rw [e4, g4]; exact rl_ix3 (w := 8)
  have c5 : f * 8 + k < 64 := rl_lin (W := 8) (by omega) (by omega)
  have c6 : am_in (nI (f * 8 + k)) 64 = true := rl_nin (by decide) c5
  have c7 : (nI (f * 8 + k)).toNatClampNeg = f * 8 + k := nI_clamp (by omega)
  rcases hf.2.1 (f * 8 + k) with o | o
  · refine ⟨1, am_wI s 25 (f * 8 + k) 1, am_wI (am_wI s 25 (f * 8 + k) 1) 87 (f * 8 + k) 1, ?_, ?_, Or.inr ⟨_, rfl⟩⟩
    · simp [f_X11_own, f_X2_has, f_X4_has, f_X2_owns, f_X2_makeOwner, am_bd, am_gu, a0, a1, b0, b1, c3, c6, c7, o, am_nar]
    · have r1 : (am_wI s 25 (f * 8 + k) 1).1 87 = s.1 25 := (rl_wr _ _ (by decide)).trans r0
      have em' : (am_wI s 25 (f * 8 + k) 1).1 58 41 = s.1 21 0 := em
      have ek' : (am_wI s 25 (f * 8 + k) 1).1 58 37 = s.1 17 0 := ek
      simp [f_X12_own, f_X12_isFamily, f_X12_isKind, am_bd, am_gu, a0, em', ek', a1, b0, b1, c4, c6, c7, r1, o, am_nar]
  · have o1 : (1 : Int32) &&& 1 = 1 := by decide
    exact ⟨0, s, s, by simp [f_X11_own, f_X2_has, f_X4_has, f_X2_owns, am_bd, am_gu, a0, a1, b0, b1, c3, c6, c7, o], by simp [f_X12_own, f_X12_isFamily, f_X12_isKind, am_bd, am_gu, a0, em, ek, a1, b0, b1, c4, c6, c7, r0, o], Or.inl rfl⟩
theorem e_family (s : am_S) (x1 x2 : Int32) (h : rl_q s) (hc : rl_n (s.1 21 0) 8) : ∃ (v : Int32) (s1 s2 : am_S), f_X11_family s x1 x2 = some (v, s1) ∧ f_X12_family s1 x1 x2 = some (v, s2) ∧ (s2 = s ∨ ∃ n : Nat, n < 8 ∧ s.1 21 0 = nI n ∧ s2 = am_wI (am_wI (am_wI (am_wI (am_wI (am_wI s 22 n x1) 23 n (x2 &&& 1)) 21 0 (nI (n + 1))) 84 n x1) 85 n (x2 &&& 1)) 58 41 (nI (n + 1))) := by
  obtain ⟨n, hn, en⟩ := hc
  have em : s.1 58 41 = nI n := by rw [rq_f h (c := 21) (k := 0) (by decide)]; exact en
  by_cases a0 : x1 < 1
  · exact ⟨-1, s, s, by simp [f_X11_family, f_X11_isWithin, am_bd, a0], by simp [f_X12_family, a0], Or.inl rfl⟩
  by_cases a1 : 9 < x1
  · exact ⟨-1, s, s, by simp [f_X11_family, f_X11_isWithin, am_bd, a0, a1], by simp [f_X12_family, a0, a1], Or.inl rfl⟩
  by_cases hlt : n < 8
  · have b1 : nI n < 8 := nI_lt (a := n) (b := 8) hlt (by decide)
    have b2 : ¬ nI n = 8 := nI_ne (m := 8) (by omega) (by decide) (by omega)
    have b3 : am_in (nI n) 8 = true := rl_nin (by decide) hlt
    have b4 : (nI n).toNatClampNeg = n := nI_clamp (by omega)
    have b5 : nI n + 1 = nI (n + 1) := nI_1 n
    have b6 : nI (n + 1) - 1 = nI n := nI_pred n
    refine ⟨nI n, am_wI (am_wI (am_wI s 22 n x1) 23 n (x2 &&& 1)) 21 0 (nI (n + 1)), am_wI (am_wI (am_wI (am_wI (am_wI (am_wI s 22 n x1) 23 n (x2 &&& 1)) 21 0 (nI (n + 1))) 84 n x1) 85 n (x2 &&& 1)) 58 41 (nI (n + 1)), ?_, ?_, Or.inr ⟨n, hlt, en, rfl⟩⟩
    · simp [f_X11_family, f_X11_isWithin, f_X2_add, am_bd, a0, a1, en, b1, am_gu, b3, b4, b5, b6, am_nar]
    · simp [f_X12_family, a0, a1, rl_wI, em, b2, am_gu, b3, b4, b5, b6, am_nar]
  · have hn9 : n = 8 := by omega
    subst hn9
    have b1 : ¬ nI 8 < 8 := by decide
    have b2 : nI 8 = 8 := by decide
    exact ⟨-1, s, s, by simp [f_X11_family, f_X11_isWithin, f_X2_add, am_bd, a0, a1, en, b1], by simp [f_X12_family, em, b2], Or.inl rfl⟩
