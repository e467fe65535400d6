/-! ===== lend on both sides ===== -/
theorem ld_shl : ∀ u, u < 41 → lN 1 <<< ((nI u).toInt64 &&& 63) = lN (2 ^ u) := by decide +kernel
theorem ld_bit {a u e : Nat} (hau : a < u) (hu : u ≤ 40) (he : e < 40) : ((lN 1 <<< ((nI u).toInt64 &&& 63)) - (lN 1 <<< ((nI a).toInt64 &&& 63))).toBitVec.getLsbD e = (decide (a ≤ e) && decide (e < u)) := by
  have hp : 2 ^ a ≤ 2 ^ u := Nat.pow_le_pow_right (by decide) (by omega)
  rw [ld_shl u (by omega), ld_shl a (by omega), lN_sub hp]
  have e1 : (lN (2 ^ u - 2 ^ a)).toBitVec = BitVec.ofNat 64 (2 ^ u - 2 ^ a) := rfl
  rw [e1, BitVec.getLsbD_ofNat]
  have e2 : 2 ^ u - 2 ^ a = 2 ^ a * (2 ^ (u - a) - 1) := by
    rw [Nat.mul_sub, Nat.mul_one, ← Nat.pow_add]
    congr 2
    omega
  rw [e2, Nat.testBit_two_pow_mul, Nat.testBit_two_pow_sub_one]
  have e3 : decide (e < 64) = true := decide_eq_true (by omega)
  rw [e3]
  by_cases h1 : a ≤ e
  · simp only [ge_iff_le, h1, decide_true, Bool.true_and]
    by_cases h2 : e < u
    · rw [decide_eq_true h2, decide_eq_true (by omega)]
    · rw [decide_eq_false h2, decide_eq_false (by omega)]
  · simp [h1]
theorem e_lend (s : am_S) (x1 x2 x3 x4 : Int32) (h : rl_q s) (hf : ri_fams s) (hk : ri_kinds s) (hl : rl_n (s.1 21 6) 100) (ht : rl_n (s.1 0 5) 39) : ∃ (v : Int32) (s1 s2 : am_S), f_X11_lend s x1 x2 x3 x4 = some (v, s1) ∧ f_X12_lend s1 x1 x2 x3 x4 = some (v, s2) ∧ (s2 = s ∨ ∃ f k a u l : Nat, f < 8 ∧ k < 8 ∧ a < u ∧ u ≤ 40 ∧ l < 100 ∧ s.1 21 6 = nI l ∧ s.1 0 5 = nI a ∧ s2 = am_wI (am_wI (am_wI (am_wI (am_wI (am_wL (am_wI s 21 6 (nI (l + 1))) 26 (f * 8 + k) (s.2 26 (f * 8 + k) ||| ((lN 1 <<< ((nI u).toInt64 &&& 63)) - (lN 1 <<< ((nI a).toInt64 &&& 63))))) 88 l (nI f)) 89 l (nI k)) 90 l (nI a)) 91 l (nI u)) 58 46 (nI (l + 1))) := by
  have em : s.1 58 41 = s.1 21 0 := rq_f h (by decide)
  have ek : s.1 58 37 = s.1 17 0 := rq_f h (by decide)
  have et : s.1 58 51 = s.1 0 5 := rq_f h (by decide)
  have el : s.1 58 46 = s.1 21 6 := rq_f h (by decide)
  have r0 : s.1 87 = s.1 25 := rq_r h (by decide)
  by_cases a0 : x1 < 0
  · exact ⟨0, s, s, by simp [f_X11_lend, f_X2_has, am_bd, a0], by simp [f_X12_lend, f_X12_isFamily, am_bd, a0], Or.inl rfl⟩
  by_cases a1 : ¬ x1 < s.1 21 0
  · exact ⟨0, s, s, by simp [f_X11_lend, f_X2_has, am_bd, a0, a1], by simp [f_X12_lend, f_X12_isFamily, am_bd, a0, em, a1], Or.inl rfl⟩
  have a1 := Decidable.not_not.mp a1
  by_cases b0 : x2 < 0
  · exact ⟨0, s, s, by simp [f_X11_lend, f_X2_has, am_bd, a0, a1, b0], by simp [f_X12_lend, f_X12_isFamily, am_bd, a0, em, a1, b0], Or.inl rfl⟩
  by_cases b1 : ¬ x2 < s.1 21 0
  · exact ⟨0, s, s, by simp [f_X11_lend, f_X2_has, am_bd, a0, a1, b0, b1], by simp [f_X12_lend, f_X12_isFamily, am_bd, a0, em, a1, b0, b1], Or.inl rfl⟩
  have b1 := Decidable.not_not.mp b1
  by_cases c0 : x1 = x2
  · exact ⟨0, s, s, by simp [f_X11_lend, f_X2_has, am_bd, b0, b1, c0], by simp [f_X12_lend, f_X12_isFamily, am_bd, em, b0, b1, c0], Or.inl rfl⟩
  by_cases d0 : x3 < 0
  · exact ⟨0, s, s, by simp [f_X11_lend, f_X2_has, f_X4_has, am_bd, a0, a1, b0, b1, c0, d0], by simp [f_X12_lend, f_X12_isFamily, f_X12_isKind, am_bd, a0, em, a1, b0, b1, c0, d0], Or.inl rfl⟩
  by_cases d1 : ¬ x3 < s.1 17 0
  · exact ⟨0, s, s, by simp [f_X11_lend, f_X2_has, f_X4_has, am_bd, a0, a1, b0, b1, c0, d0, d1], by simp [f_X12_lend, f_X12_isFamily, f_X12_isKind, am_bd, a0, em, ek, a1, b0, b1, c0, d0, d1], Or.inl rfl⟩
  have d1 := Decidable.not_not.mp d1
  obtain ⟨f1, n1, -, p2, p3, p4⟩ := rl_ix hf.1 (by decide) a0 a1
  obtain ⟨f, n, -, e2, e3, e4⟩ := rl_ix hf.1 (by decide) b0 b1
  obtain ⟨k, m, -, g2, g3, g4⟩ := rl_ix hk.1 (by decide) d0 d1
  have i1 : x1 * 8 + x3 = nI (f1 * 8 + k) := by rw [p4, g4]; exact rl_ix2 (w := 8)
  have i2 : 8 * x1 + x3 = nI (f1 * 8 + k) := by rw [p4, g4]; exact rl_ix3 (w := 8)
  have i3 : am_in (nI (f1 * 8 + k)) 64 = true := rl_nin (by decide) (by omega)
  have i4 : (nI (f1 * 8 + k)).toNatClampNeg = f1 * 8 + k := nI_clamp (by omega)
  have i5 : x2 * 8 + x3 = nI (f * 8 + k) := by rw [e4, g4]; exact rl_ix2 (w := 8)
  have i6 : am_in (nI (f * 8 + k)) 64 = true := rl_nin (by decide) (by omega)
  have i7 : (nI (f * 8 + k)).toNatClampNeg = f * 8 + k := nI_clamp (by omega)
  rcases hf.2.1 (f1 * 8 + k) with o | o
  · exact ⟨0, s, s, by simp [f_X11_lend, f_X2_has, f_X4_has, f_X2_owns, am_bd, am_gu, a0, a1, b0, b1, c0, d0, d1, i1, i3, i4, o], by simp [f_X12_lend, f_X12_isFamily, f_X12_isKind, am_bd, am_gu, a0, em, ek, a1, b0, b1, c0, d0, d1, i2, i3, i4, r0, o], Or.inl rfl⟩
  obtain ⟨a, ha, ea⟩ := ht
  obtain ⟨l, hl1, hl2⟩ := hl
  have t1 : nI a + 1 = nI (a + 1) := nI_1 a
  by_cases w0 : ¬ nI a < x4
  · have w1 : x4 < nI (a + 1) := by
      rw [Int32.lt_iff_toInt_lt, nI_toInt (by omega)] at w0
      rw [Int32.lt_iff_toInt_lt, nI_toInt (by omega)]
      omega
    exact ⟨0, s, s, by simp [f_X11_lend, f_X2_has, f_X4_has, f_X2_owns, f_X11_isWithin, f_X2_addLending, am_bd, am_gu, a0, a1, b0, b1, c0, d0, d1, i1, i3, i4, i5, i6, i7, o, ea, t1, w1], by simp [f_X12_lend, f_X12_isFamily, f_X12_isKind, am_bd, am_gu, a0, em, ek, et, el, a1, b0, b1, c0, d0, d1, i2, i3, i4, r0, o, ea, w0], Or.inl rfl⟩
  have w0 := Decidable.not_not.mp w0
  have w2 : ¬ x4 < nI (a + 1) := by
    rw [Int32.lt_iff_toInt_lt, nI_toInt (by omega)] at w0
    rw [Int32.lt_iff_toInt_lt, nI_toInt (by omega)]
    omega
  by_cases w1 : 40 < x4
  · exact ⟨0, s, s, by simp [f_X11_lend, f_X2_has, f_X4_has, f_X2_owns, f_X11_isWithin, f_X2_addLending, am_bd, am_gu, a0, a1, b0, b1, c0, d0, d1, i1, i3, i4, i5, i6, i7, o, ea, t1, w1, w2], by simp [f_X12_lend, f_X12_isFamily, f_X12_isKind, am_bd, am_gu, a0, em, ek, et, el, a1, b0, b1, c0, d0, d1, i2, i3, i4, r0, o, ea, w0, w1], Or.inl rfl⟩
  obtain ⟨u, hu, eu⟩ : ∃ u : Nat, u < 2 ^ 31 ∧ x4 = nI u := nI_of (fun q => by
    rw [Int32.lt_iff_toInt_lt] at q w0
    rw [nI_toInt (by omega)] at w0
    have z : (0 : Int32).toInt = 0 := rfl
    rw [z] at q
    omega)
  have hau : a < u := by rw [eu] at w0; exact (nI_ltI (by omega) hu).mp w0
  have hu40 : u ≤ 40 := by
    apply Decidable.byContradiction
    intro q
    apply w1
    rw [eu]
    exact nI_lt (a := 40) (b := u) (by omega) hu
  by_cases hlt : l < 100
  · have y1 : nI l < 100 := nI_lt (a := l) (b := 100) hlt (by decide)
    have y2 : ¬ nI l = 100 := nI_ne (m := 100) (by omega) (by decide) (by omega)
    have y3 : am_in (nI l) 100 = true := rl_nin (by decide) hlt
    have y4 : (nI l).toNatClampNeg = l := nI_clamp (by omega)
    have y5 : nI l + 1 = nI (l + 1) := nI_1 l
    refine ⟨1, am_wL (am_wI s 21 6 (nI (l + 1))) 26 (f * 8 + k) (s.2 26 (f * 8 + k) ||| ((lN 1 <<< ((nI u).toInt64 &&& 63)) - (lN 1 <<< ((nI a).toInt64 &&& 63)))), _, ?_, ?_, Or.inr ⟨f, k, a, u, l, by omega, by omega, hau, hu40, hlt, hl2, ea, rfl⟩⟩
    · simp [f_X11_lend, f_X2_has, f_X4_has, f_X2_owns, f_X11_isWithin, f_X2_addLending, am_bd, am_gu, a0, a1, b0, b1, c0, d0, d1, i1, i3, i4, i5, i6, i7, o, ea, t1, w1, w2, hl2, y1, y5, eu]
      rw [eu] at w1 w2
      simp [w1, w2, hl2, y1, ea, y5]
    · have q1 : (am_wL (am_wI s 21 6 (nI (l + 1))) 26 (f * 8 + k) (s.2 26 (f * 8 + k) ||| ((lN 1 <<< ((nI u).toInt64 &&& 63)) - (lN 1 <<< ((nI a).toInt64 &&& 63))))).1 87 = s.1 25 := (rl_wr (s := s) (c := 21) 6 (nI (l + 1)) (by decide)).trans r0
      generalize hT : am_wL (am_wI s 21 6 (nI (l + 1))) 26 (f * 8 + k) (s.2 26 (f * 8 + k) ||| ((lN 1 <<< ((nI u).toInt64 &&& 63)) - (lN 1 <<< ((nI a).toInt64 &&& 63)))) = T at q1 ⊢
      have q2 : T.1 58 41 = s.1 21 0 := by rw [← hT]; exact em
      have q3 : T.1 58 37 = s.1 17 0 := by rw [← hT]; exact ek
      have q4 : T.1 58 51 = nI a := by rw [← hT]; exact et.trans ea
      have q5 : T.1 58 46 = nI l := by rw [← hT]; exact el.trans hl2
      simp [f_X12_lend, f_X12_isFamily, f_X12_isKind, am_bd, am_gu, a0, a1, b0, b1, c0, d0, d1, i2, i3, i4, o, q1, q2, q3, q4, q5, w0, w1, y2, y3, y4, y5]
      rw [e4, g4, eu]
  · have hl9 : l = 100 := by omega
    subst hl9
    have y1 : ¬ nI 100 < 100 := by decide
    have y2 : nI 100 = 100 := by decide
    exact ⟨0, s, s, by simp [f_X11_lend, f_X2_has, f_X4_has, f_X2_owns, f_X11_isWithin, f_X2_addLending, am_bd, am_gu, a0, a1, b0, b1, c0, d0, d1, i1, i3, i4, i5, i6, i7, o, ea, t1, w1, w2, hl2, y1], by simp [f_X12_lend, f_X12_isFamily, f_X12_isKind, am_bd, am_gu, a0, em, ek, et, el, a1, b0, b1, c0, d0, d1, i2, i3, i4, r0, o, ea, w0, w1, hl2, y2], Or.inl rfl⟩
