/-! ===== methods without loops, on both sides (printed by wip/gen/easy.py) ===== -/
theorem rq_f {s : am_S} (h : rl_q s) {c k m : Nat} (hp : (c, k, m) ∈ rl_flds) : s.1 58 m = s.1 c k := (h.2 _ hp).symm
theorem rq_r {s : am_S} (h : rl_q s) {c m : Nat} (hp : (c, m) ∈ rl_rows) : s.1 m = s.1 c := (h.1 _ hp).symm
theorem e_place (s : am_S) (h : rl_q s) : ∃ (v : Int32) (s1 s2 : am_S), f_X11_place s = some (v, s1) ∧ f_X12_place s1 = some (v, s2) ∧ s2 = s := ⟨_, _, _, rfl, by unfold f_X12_place; rw [rq_f h (c := 0) (k := 4) (by decide)], rfl⟩
theorem nI_ne {n m : Nat} (hn : n < 2 ^ 31) (hm : m < 2 ^ 31) (h : n ≠ m) : ¬ nI n = nI m := fun q => h ((nI_eq hn hm).mp q)
theorem e_kind (s : am_S) (x1 : Int32) (x2 : Int32) (x3 : Int32) (h : rl_q s) (hc : rl_n (s.1 17 0) 8) : ∃ (v : Int32) (s1 s2 : am_S), f_X11_kind s x1 x2 x3 = some (v, s1) ∧ f_X12_kind s1 x1 x2 x3 = some (v, s2) ∧ (s2 = s ∨ ∃ n : Nat, n < 8 ∧ s.1 17 0 = nI n ∧ (¬ x1 < 1 ∧ ¬ 9 < x1 ∧ ¬ x2 < 1 ∧ ¬ 12 < x2 ∧ ¬ x3 < 0 ∧ ¬ 100 < x3) ∧ s2 = (am_wI (am_wI (am_wI (am_wI (am_wI (am_wI (am_wI (am_wI s 18 n x1) 19 n x2) 20 n x3) 17 0 (nI (n + 1))) 81 n x1) 82 n x2) 83 n x3) 58 37 (nI (n + 1)))) := by
  obtain ⟨n, hn, en⟩ := hc
  have em : s.1 58 37 = nI n := by rw [rq_f h (c := 17) (k := 0) (by decide)]; exact en
  by_cases a0 : x1 < 1
  · exact ⟨-1, s, s, by simp [f_X11_kind, f_X11_isWithin, f_X4_add, am_bd, am_jn, a0], by simp [f_X12_kind, a0], Or.inl rfl⟩
  by_cases a1 : 9 < x1
  · exact ⟨-1, s, s, by simp [f_X11_kind, f_X11_isWithin, f_X4_add, am_bd, am_jn, a0, a1], by simp [f_X12_kind, a0, a1], Or.inl rfl⟩
  by_cases a2 : x2 < 1
  · exact ⟨-1, s, s, by simp [f_X11_kind, f_X11_isWithin, f_X4_add, am_bd, am_jn, a0, a1, a2], by simp [f_X12_kind, a0, a1, a2], Or.inl rfl⟩
  by_cases a3 : 12 < x2
  · exact ⟨-1, s, s, by simp [f_X11_kind, f_X11_isWithin, f_X4_add, am_bd, am_jn, a0, a1, a2, a3], by simp [f_X12_kind, a0, a1, a2, a3], Or.inl rfl⟩
  by_cases a4 : x3 < 0
  · exact ⟨-1, s, s, by simp [f_X11_kind, f_X11_isWithin, f_X4_add, am_bd, am_jn, a0, a1, a2, a3, a4], by simp [f_X12_kind, a0, a1, a2, a3, a4], Or.inl rfl⟩
  by_cases a5 : 100 < x3
  · exact ⟨-1, s, s, by simp [f_X11_kind, f_X11_isWithin, f_X4_add, am_bd, am_jn, a0, a1, a2, a3, a4, a5], by simp [f_X12_kind, a0, a1, a2, a3, a4, a5], Or.inl rfl⟩
  by_cases hlt : n < 8
  · have b1 : nI n < 8 := nI_lt (a := n) (b := 8) hlt (by decide)
    have b2 : ¬ nI n = 8 := nI_ne (m := 8) (by omega) (by decide) (by omega)
    have b3 : am_in (nI n) 8 = true := rl_nin (by decide) hlt
    have b4 : (nI n).toNatClampNeg = n := nI_clamp (by omega)
    have b5 : nI n + 1 = nI (n + 1) := nI_1 n
    have b6 : nI (n + 1) - 1 = nI n := nI_pred n
    refine ⟨nI n, (am_wI (am_wI (am_wI (am_wI s 18 n x1) 19 n x2) 20 n x3) 17 0 (nI (n + 1))), (am_wI (am_wI (am_wI (am_wI (am_wI (am_wI (am_wI (am_wI s 18 n x1) 19 n x2) 20 n x3) 17 0 (nI (n + 1))) 81 n x1) 82 n x2) 83 n x3) 58 37 (nI (n + 1))), ?_, ?_, Or.inr ⟨n, hlt, en, ⟨a0, a1, a2, a3, a4, a5⟩, rfl⟩⟩
    · simp [f_X11_kind, f_X11_isWithin, f_X4_add, am_bd, am_jn, a0, a1, a2, a3, a4, a5, en, b1, am_gu, b3, b4, b5, b6]
    · simp [f_X12_kind, a0, a1, a2, a3, a4, a5, rl_wI, em, b2, am_gu, b3, b4, b5, b6]
  · have hn9 : n = 8 := by omega
    subst hn9
    have b1 : ¬ nI 8 < 8 := by decide
    have b2 : nI 8 = 8 := by decide
    exact ⟨-1, s, s, by simp [f_X11_kind, f_X11_isWithin, f_X4_add, am_bd, am_jn, a0, a1, a2, a3, a4, a5, en, b1], by simp [f_X12_kind, em, b2], Or.inl rfl⟩

theorem e_lot (s : am_S) (x1 : Int32) (h : rl_q s) (hc : rl_n (s.1 39 7) 20) : ∃ (v : Int32) (s1 s2 : am_S), f_X11_lot s x1 = some (v, s1) ∧ f_X12_lot s1 x1 = some (v, s2) ∧ (s2 = s ∨ ∃ n : Nat, n < 20 ∧ s.1 39 7 = nI n ∧ (¬ x1 < 0 ∧ ¬ 4 < x1) ∧ s2 = (am_wI (am_wI (am_wI (am_wI s 45 n x1) 39 7 (nI (n + 1))) 109 n x1) 58 72 (nI (n + 1)))) := by
  obtain ⟨n, hn, en⟩ := hc
  have em : s.1 58 72 = nI n := by rw [rq_f h (c := 39) (k := 7) (by decide)]; exact en
  by_cases a0 : x1 < 0
  · exact ⟨-1, s, s, by simp [f_X11_lot, f_X11_isWithin, f_X3_addLot, am_bd, am_jn, a0], by simp [f_X12_lot, a0], Or.inl rfl⟩
  by_cases a1 : 4 < x1
  · exact ⟨-1, s, s, by simp [f_X11_lot, f_X11_isWithin, f_X3_addLot, am_bd, am_jn, a0, a1], by simp [f_X12_lot, a0, a1], Or.inl rfl⟩
  by_cases hlt : n < 20
  · have b1 : nI n < 20 := nI_lt (a := n) (b := 20) hlt (by decide)
    have b2 : ¬ nI n = 20 := nI_ne (m := 20) (by omega) (by decide) (by omega)
    have b3 : am_in (nI n) 20 = true := rl_nin (by decide) hlt
    have b4 : (nI n).toNatClampNeg = n := nI_clamp (by omega)
    have b5 : nI n + 1 = nI (n + 1) := nI_1 n
    have b6 : nI (n + 1) - 1 = nI n := nI_pred n
    refine ⟨nI n, (am_wI (am_wI s 45 n x1) 39 7 (nI (n + 1))), (am_wI (am_wI (am_wI (am_wI s 45 n x1) 39 7 (nI (n + 1))) 109 n x1) 58 72 (nI (n + 1))), ?_, ?_, Or.inr ⟨n, hlt, en, ⟨a0, a1⟩, rfl⟩⟩
    · simp [f_X11_lot, f_X11_isWithin, f_X3_addLot, am_bd, am_jn, a0, a1, en, b1, am_gu, b3, b4, b5, b6]
    · simp [f_X12_lot, a0, a1, rl_wI, em, b2, am_gu, b3, b4, b5, b6]
  · have hn9 : n = 20 := by omega
    subst hn9
    have b1 : ¬ nI 20 < 20 := by decide
    have b2 : nI 20 = 20 := by decide
    exact ⟨-1, s, s, by simp [f_X11_lot, f_X11_isWithin, f_X3_addLot, am_bd, am_jn, a0, a1, en, b1], by simp [f_X12_lot, em, b2], Or.inl rfl⟩

theorem e_order (s : am_S) (x1 : Int32) (h : rl_q s) (hc : rl_n (s.1 46 0) 8) : ∃ (v : Int32) (s1 s2 : am_S), f_X11_order s x1 = some (v, s1) ∧ f_X12_order s1 x1 = some (v, s2) ∧ (s2 = s ∨ ∃ n : Nat, n < 8 ∧ s.1 46 0 = nI n ∧ (¬ x1 < 0 ∧ ¬ 1000 < x1) ∧ s2 = (am_wI (am_wI (am_wI (am_wI (am_wI (am_wI (am_wI (am_wI (am_wI (am_wI s 47 n x1) 48 n 0) 49 n (-1)) 50 n 0) 46 0 (nI (n + 1))) 110 n x1) 111 n 0) 112 n (-1)) 113 n 0) 58 74 (nI (n + 1)))) := by
  obtain ⟨n, hn, en⟩ := hc
  have em : s.1 58 74 = nI n := by rw [rq_f h (c := 46) (k := 0) (by decide)]; exact en
  by_cases a0 : x1 < 0
  · exact ⟨-1, s, s, by simp [f_X11_order, f_X11_isWithin, f_X5_add, am_bd, am_jn, a0], by simp [f_X12_order, a0], Or.inl rfl⟩
  by_cases a1 : 1000 < x1
  · exact ⟨-1, s, s, by simp [f_X11_order, f_X11_isWithin, f_X5_add, am_bd, am_jn, a0, a1], by simp [f_X12_order, a0, a1], Or.inl rfl⟩
  by_cases hlt : n < 8
  · have b1 : nI n < 8 := nI_lt (a := n) (b := 8) hlt (by decide)
    have b2 : ¬ nI n = 8 := nI_ne (m := 8) (by omega) (by decide) (by omega)
    have b3 : am_in (nI n) 8 = true := rl_nin (by decide) hlt
    have b4 : (nI n).toNatClampNeg = n := nI_clamp (by omega)
    have b5 : nI n + 1 = nI (n + 1) := nI_1 n
    have b6 : nI (n + 1) - 1 = nI n := nI_pred n
    refine ⟨nI n, (am_wI (am_wI (am_wI (am_wI (am_wI s 47 n x1) 48 n 0) 49 n (-1)) 50 n 0) 46 0 (nI (n + 1))), (am_wI (am_wI (am_wI (am_wI (am_wI (am_wI (am_wI (am_wI (am_wI (am_wI s 47 n x1) 48 n 0) 49 n (-1)) 50 n 0) 46 0 (nI (n + 1))) 110 n x1) 111 n 0) 112 n (-1)) 113 n 0) 58 74 (nI (n + 1))), ?_, ?_, Or.inr ⟨n, hlt, en, ⟨a0, a1⟩, rfl⟩⟩
    · simp [f_X11_order, f_X11_isWithin, f_X5_add, am_bd, am_jn, a0, a1, en, b1, am_gu, b3, b4, b5, b6]
    · simp [f_X12_order, a0, a1, rl_wI, em, b2, am_gu, b3, b4, b5, b6]
  · have hn9 : n = 8 := by omega
    subst hn9
    have b1 : ¬ nI 8 < 8 := by decide
    have b2 : nI 8 = 8 := by decide
    exact ⟨-1, s, s, by simp [f_X11_order, f_X11_isWithin, f_X5_add, am_bd, am_jn, a0, a1, en, b1], by simp [f_X12_order, em, b2], Or.inl rfl⟩

