/-! ===== need, told, packed, count on both sides ===== -/
theorem i_lt_of {x : Int32} {n : Nat} (hn : n < 2 ^ 31) (h : x < nI n) : x.toInt < n := by
  rw [Int32.lt_iff_toInt_lt, nI_toInt hn] at h
  exact h
theorem i_col {x : Int32} (h0 : ¬ x < -1) (h1 : ¬ 4 < x) : x = -1 ∨ ∃ c : Nat, c ≤ 4 ∧ x = nI c := by
  by_cases h : x < 0
  · left
    rw [Int32.lt_iff_toInt_lt] at h h0
    have z : (0 : Int32).toInt = 0 := rfl
    have z1 : (-1 : Int32).toInt = -1 := rfl
    rw [z] at h
    rw [z1] at h0
    apply Int32.toInt_inj.mp
    rw [z1]
    omega
  · right
    obtain ⟨j, hj, e⟩ := nI_of h
    refine ⟨j, ?_, e⟩
    apply Decidable.byContradiction
    intro q
    apply h1
    rw [e]
    exact nI_lt (a := 4) (by omega) hj
theorem i_rng {x : Int32} {a b : Nat} (hb : b < 2 ^ 31) (ha : a < 2 ^ 31) (h0 : ¬ x < nI a) (h1 : ¬ nI b < x) : ∃ w : Nat, a ≤ w ∧ w ≤ b ∧ x = nI w := by
  have g : ¬ x < 0 := by
    intro q
    apply h0
    rw [Int32.lt_iff_toInt_lt] at q ⊢
    rw [nI_toInt ha]
    have z : (0 : Int32).toInt = 0 := rfl
    rw [z] at q
    omega
  obtain ⟨j, hj, e⟩ := nI_of g
  refine ⟨j, ?_, ?_, e⟩
  · apply Decidable.byContradiction
    intro q
    apply h0
    rw [e]
    exact nI_lt (by omega) ha
  · apply Decidable.byContradiction
    intro q
    apply h1
    rw [e]
    exact nI_lt (by omega) hj
theorem i_cn (s : am_S) (x : Int32) : (x < -1 ∨ 4 < x) ∧ f_X11_isColourOrNone s x = some (0, s) ∨ (¬ x < -1 ∧ ¬ 4 < x) ∧ f_X11_isColourOrNone s x = some (1, s) := by
  by_cases h0 : x < -1
  · refine Or.inl ⟨Or.inl h0, ?_⟩
    have e1 : ¬ x = -1 := fun q => by rw [q] at h0; exact absurd h0 (by decide)
    have e2 : x < 0 := Int32.lt_trans h0 (by decide)
    simp [f_X11_isColourOrNone, f_X11_isWithin, am_bd, e1, e2]
  · by_cases h1 : 4 < x
    · refine Or.inl ⟨Or.inr h1, ?_⟩
      have e1 : ¬ x = -1 := fun q => by rw [q] at h1; exact absurd h1 (by decide)
      have e2 : ¬ x < 0 := fun q => absurd (Int32.lt_trans h1 q) (by decide)
      simp [f_X11_isColourOrNone, f_X11_isWithin, am_bd, e1, e2, h1]
    · refine Or.inr ⟨⟨h0, h1⟩, ?_⟩
      rcases i_col h0 h1 with e | ⟨c, hc, e⟩
      · simp [f_X11_isColourOrNone, e]
      · have e1 : ¬ x = -1 := fun q => h0 (by rw [e] at q; exact absurd (congrArg Int32.toInt q) (by rw [nI_toInt (by omega)]; intro z; have z1 : (-1 : Int32).toInt = -1 := rfl; rw [z1] at z; omega))
        have e2 : ¬ x < 0 := by rw [e]; exact nI_pos (by omega)
        simp [f_X11_isColourOrNone, f_X11_isWithin, am_bd, e1, e2, h1]
theorem e_need (s : am_S) (x1 x2 x3 x4 : Int32) (h : rl_q s) (hk : ri_kinds s) (ho : ri_ords s) : ∃ (v : Int32) (s1 s2 : am_S), f_X11_need s x1 x2 x3 x4 = some (v, s1) ∧ f_X12_need s1 x1 x2 x3 x4 = some (v, s2) ∧ (s2 = s ∨ ∃ o i w k : Nat, o < (s.1 46 0).toNatClampNeg ∧ s.1 48 o = 0 ∧ i < 4 ∧ s.1 50 o = nI i ∧ 1 ≤ w ∧ w ≤ 20 ∧ k < (s.1 17 0).toNatClampNeg ∧ (x4 = -1 ∨ ∃ c : Nat, c ≤ 4 ∧ x4 = nI c) ∧ s2 = am_wI (am_wI (am_wI (am_wI (am_wI (am_wI (am_wI (am_wI s 51 (o * 4 + i) (nI w)) 52 (o * 4 + i) (nI k)) 53 (o * 4 + i) x4) 50 o (nI (i + 1))) 114 (o * 4 + i) (nI w)) 115 (o * 4 + i) (nI k)) 116 (o * 4 + i) x4) 113 o (nI (i + 1))) := by
  have em : s.1 58 74 = s.1 46 0 := rq_f h (by decide)
  have ek : s.1 58 37 = s.1 17 0 := rq_f h (by decide)
  have r0 : s.1 111 = s.1 48 := rq_r h (by decide)
  have r1 : s.1 113 = s.1 50 := rq_r h (by decide)
  by_cases a0 : x1 < 0
  · exact ⟨-1, s, s, by simp [f_X11_need, f_X5_has, am_bd, a0], by simp [f_X12_need, f_X12_isOrder, am_bd, a0], Or.inl rfl⟩
  by_cases a1 : ¬ x1 < s.1 46 0
  · exact ⟨-1, s, s, by simp [f_X11_need, f_X5_has, am_bd, a0, a1], by simp [f_X12_need, f_X12_isOrder, am_bd, a0, em, a1], Or.inl rfl⟩
  have a1 := Decidable.not_not.mp a1
  obtain ⟨o, n, e1, e2, e3, e4⟩ := rl_ix ho.1 (by decide) a0 a1
  have c1 : am_in x1 8 = true := by rw [e4]; exact rl_nin (by decide) (by omega)
  have c2 : x1.toNatClampNeg = o := by rw [e4]; exact nI_clamp (by omega)
  have hon : o < (s.1 46 0).toNatClampNeg := by rw [e1, nI_clamp (by omega)]; exact e3
  obtain ⟨-, -, i, hi4, ei, -⟩ := ho.2 o hon
  by_cases a2 : ¬ s.1 48 o = 0
  · exact ⟨-1, s, s, by simp [f_X11_need, f_X5_has, am_bd, am_gu, a0, a1, c1, c2, a2], by simp [f_X12_need, f_X12_isOrder, am_bd, am_gu, a0, em, a1, c1, c2, r0, a2], Or.inl rfl⟩
  have a2 := Decidable.not_not.mp a2
  by_cases b0 : x2 < 1
  · exact ⟨-1, s, s, by simp [f_X11_need, f_X5_has, f_X11_isWithin, am_bd, am_gu, a0, a1, c1, c2, a2, b0], by simp [f_X12_need, f_X12_isOrder, am_bd, am_gu, a0, em, a1, c1, c2, r0, a2, b0], Or.inl rfl⟩
  by_cases b1 : 20 < x2
  · exact ⟨-1, s, s, by simp [f_X11_need, f_X5_has, f_X11_isWithin, am_bd, am_gu, a0, a1, c1, c2, a2, b0, b1], by simp [f_X12_need, f_X12_isOrder, am_bd, am_gu, a0, em, a1, c1, c2, r0, a2, b0, b1], Or.inl rfl⟩
  by_cases d0 : x3 < 0
  · exact ⟨-1, s, s, by simp [f_X11_need, f_X5_has, f_X4_has, f_X11_isWithin, am_bd, am_gu, a0, a1, c1, c2, a2, b0, b1, d0], by simp [f_X12_need, f_X12_isOrder, f_X12_isKind, am_bd, am_gu, a0, em, a1, c1, c2, r0, a2, b0, b1, d0], Or.inl rfl⟩
  by_cases d1 : ¬ x3 < s.1 17 0
  · exact ⟨-1, s, s, by simp [f_X11_need, f_X5_has, f_X4_has, f_X11_isWithin, am_bd, am_gu, a0, a1, c1, c2, a2, b0, b1, d0, d1], by simp [f_X12_need, f_X12_isOrder, f_X12_isKind, am_bd, am_gu, a0, em, ek, a1, c1, c2, r0, a2, b0, b1, d0, d1], Or.inl rfl⟩
  have d1 := Decidable.not_not.mp d1
  obtain ⟨k, m, g1, g2, g3, g4⟩ := rl_ix hk.1 (by decide) d0 d1
  obtain ⟨w, w1, w2, w3⟩ := i_rng (x := x2) (a := 1) (b := 20) (by decide) (by decide) b0 b1
  rcases i_cn s x4 with ⟨q, ec⟩ | ⟨⟨q1, q2⟩, ec⟩
  · refine ⟨-1, s, s, by simp [f_X11_need, f_X5_has, f_X4_has, f_X11_isWithin, am_bd, am_gu, a0, a1, c1, c2, a2, b0, b1, d0, d1, ec], ?_, Or.inl rfl⟩
    by_cases q1 : x4 < -1
    · simp [f_X12_need, f_X12_isOrder, f_X12_isKind, am_bd, am_gu, a0, em, ek, a1, c1, c2, r0, a2, b0, b1, d0, d1, q1]
    · have q2 : 4 < x4 := q.resolve_left q1
      simp [f_X12_need, f_X12_isOrder, f_X12_isKind, am_bd, am_gu, a0, em, ek, a1, c1, c2, r0, a2, b0, b1, d0, d1, q1, q2]
  by_cases hlt : i < 4
  · have y1 : nI i < 4 := nI_lt (a := i) (b := 4) hlt (by decide)
    have y2 : ¬ nI i = 4 := nI_ne (m := 4) (by omega) (by decide) (by omega)
    have y3 : nI i + 1 = nI (i + 1) := nI_1 i
    have y4 : nI (i + 1) - 1 = nI i := nI_pred i
    have c3 : x1 * 4 + nI i = nI (o * 4 + i) := by rw [e4]; exact rl_ix2 (w := 4)
    have c4 : 4 * x1 + nI i = nI (o * 4 + i) := by rw [e4]; exact rl_ix3 (w := 4)
    have c5 : am_in (nI (o * 4 + i)) 32 = true := rl_nin (by decide) (by omega)
    have c6 : (nI (o * 4 + i)).toNatClampNeg = o * 4 + i := nI_clamp (by omega)
    refine ⟨nI i, am_wI (am_wI (am_wI (am_wI s 51 (o * 4 + i) (nI w)) 52 (o * 4 + i) (nI k)) 53 (o * 4 + i) x4) 50 o (nI (i + 1)), _, ?_, ?_, Or.inr ⟨o, i, w, k, hon, a2, hlt, ei, w1, w2, by rw [g1, nI_clamp (by omega)]; exact g3, i_col q1 q2, rfl⟩⟩
    · simp [f_X11_need, f_X5_has, f_X4_has, f_X5_addNeed, f_X11_isWithin, am_bd, am_gu, a0, a1, c1, c2, a2, b0, b1, d0, d1, ec, ei, y1, c3, c5, c6, y3, rl_wI, y4]
      rw [w3, g4]
    · generalize hT : am_wI (am_wI (am_wI (am_wI s 51 (o * 4 + i) (nI w)) 52 (o * 4 + i) (nI k)) 53 (o * 4 + i) x4) 50 o (nI (i + 1)) = T
      have q3 : T.1 58 = s.1 58 := by rw [← hT]; rfl
      have q4 : T.1 111 = s.1 48 := by rw [← hT]; exact r0
      have q5 : T.1 113 o = nI i := by rw [← hT]; exact (congrFun r1 o).trans ei
      have b0' : ¬ nI w < 1 := by rw [← w3]; exact b0
      have b1' : ¬ 20 < nI w := by rw [← w3]; exact b1
      simp [f_X12_need, f_X12_isOrder, f_X12_isKind, am_bd, am_gu, a0, q3, em, ek, a1, c1, c2, q4, q5, a2, b0', b1', d0, d1, q1, q2, y2, c4, c5, c6, y3, rl_wI, y4, w3]
      rw [g4]
  · have hi9 : i = 4 := by omega
    subst hi9
    have y1 : ¬ nI 4 < 4 := by decide
    have y2 : nI 4 = 4 := by decide
    exact ⟨-1, s, s, by simp [f_X11_need, f_X5_has, f_X4_has, f_X5_addNeed, f_X11_isWithin, am_bd, am_gu, a0, a1, c1, c2, a2, b0, b1, d0, d1, ec, ei, y1], by simp [f_X12_need, f_X12_isOrder, f_X12_isKind, am_bd, am_gu, a0, em, ek, a1, c1, c2, r0, r1, a2, b0, b1, d0, d1, q1, q2, ei, y2], Or.inl rfl⟩
theorem tl_loop (s : am_S) (o k : Nat) (ho : o < 8) (hk : k ≤ 4) (e50 : s.1 50 o = nI k) (r : s.1 113 = s.1 50) (r1 : s.1 114 = s.1 51) : ∀ (n i : Nat) (acc : Int32), i ≤ k → k < i + n → ∃ v, f_X5_figuresNeeded_L4 n (nI o) acc (nI i) s = some (.inr (v, s)) ∧ f_X12_told_L65 n (nI o) acc (nI (o * 4 + i)) s = some (.inr (v, s)) := by
  intro n
  induction n with
  | zero => intro i acc h1 h2; omega
  | succ n ih =>
    intro i acc h1 h2
    have c1 : am_in (nI o) 8 = true := rl_nin (by decide) ho
    have c2 : (nI o).toNatClampNeg = o := nI_clamp (by omega)
    have c3 : nI o * 4 + nI i = nI (o * 4 + i) := rl_ix2 (w := 4)
    have c4 : 4 * nI o + nI k = nI (o * 4 + k) := rl_ix3 (w := 4)
    have c5 : nI i + 1 = nI (i + 1) := nI_1 i
    have c6 : nI (o * 4 + i) + 1 = nI (o * 4 + (i + 1)) := nI_1 _
    by_cases hi : i < k
    · have d1 : nI i < nI k := nI_lt hi (by omega)
      have d2 : nI (o * 4 + i) < nI (o * 4 + k) := nI_lt (by omega) (by omega)
      have d3 : am_in (nI (o * 4 + i)) 32 = true := rl_nin (by decide) (by omega)
      have d4 : (nI (o * 4 + i)).toNatClampNeg = o * 4 + i := nI_clamp (by omega)
      obtain ⟨v, g1, g2⟩ := ih (i + 1) (acc + s.1 51 (o * 4 + i)) (by omega) (by omega)
      exact ⟨v, by simp [f_X5_figuresNeeded_L4, am_gu, c1, c2, e50, d1, c3, d3, d4, c5, g1], by simp [f_X12_told_L65, am_gu, c1, c2, r, r1, e50, c4, d2, d3, d4, c6, g2]⟩
    · have d1 : ¬ nI i < nI k := nI_nlt (by omega) (by omega)
      have d2 : ¬ nI (o * 4 + i) < nI (o * 4 + k) := nI_nlt (by omega) (by omega)
      exact ⟨acc, by simp [f_X5_figuresNeeded_L4, am_gu, c1, c2, e50, d1], by simp [f_X12_told_L65, am_gu, c1, c2, r, e50, c4, d2]⟩
theorem g_told (s : am_S) (x1 x2 : Int32) (h : rl_q s) (ho : ri_ords s) : ∃ (v : Int32) (s1 s2 : am_S), f_X11_told s x1 x2 = some (v, s1) ∧ f_X12_told s1 x1 x2 = some (v, s2) ∧ s2 = s := by
  have em : s.1 58 74 = s.1 46 0 := rq_f h (by decide)
  have r0 : s.1 111 = s.1 48 := rq_r h (by decide)
  have r1 : s.1 113 = s.1 50 := rq_r h (by decide)
  have r2 : s.1 110 = s.1 47 := rq_r h (by decide)
  have r3 : s.1 112 = s.1 49 := rq_r h (by decide)
  have r4 : s.1 114 = s.1 51 := rq_r h (by decide)
  by_cases a0 : x1 < 0
  · exact ⟨-1, s, s, by simp [f_X11_told, f_X5_has, am_bd, a0], by simp [f_X12_told, f_X12_isOrder, am_bd, a0], rfl⟩
  by_cases a1 : ¬ x1 < s.1 46 0
  · exact ⟨-1, s, s, by simp [f_X11_told, f_X5_has, am_bd, a0, a1], by simp [f_X12_told, f_X12_isOrder, am_bd, a0, em, a1], rfl⟩
  have a1 := Decidable.not_not.mp a1
  obtain ⟨o, n, e1, e2, e3, e4⟩ := rl_ix ho.1 (by decide) a0 a1
  have c1 : am_in x1 8 = true := by rw [e4]; exact rl_nin (by decide) (by omega)
  have hon : o < (s.1 46 0).toNatClampNeg := by rw [e1, nI_clamp (by omega)]; exact e3
  obtain ⟨-, -, i, hi4, ei, -⟩ := ho.2 o hon
  by_cases w0 : x2 = 0
  · exact ⟨s.1 48 x1.toNatClampNeg, s, s, by simp [f_X11_told, f_X5_has, am_bd, am_gu, a0, a1, c1, w0], by simp [f_X12_told, f_X12_isOrder, am_bd, am_gu, a0, em, a1, c1, w0, r0], rfl⟩
  by_cases w1 : x2 = 1
  · exact ⟨s.1 47 x1.toNatClampNeg, s, s, by simp [f_X11_told, f_X5_has, am_bd, am_gu, a0, a1, c1, w1], by simp [f_X12_told, f_X12_isOrder, am_bd, am_gu, a0, em, a1, c1, w1, r2], rfl⟩
  by_cases w2 : x2 = 2
  · obtain ⟨v, g1, g2⟩ := tl_loop s o i (by omega) hi4 ei r1 r4 am_FU 0 0 (by omega) (by unfold am_FU; omega)
    have g3 : f_X5_figuresNeeded_L4 am_FU x1 0 0 s = some (.inr (v, s)) := by rw [e4]; exact g1
    have g4 : f_X12_told_L65 am_FU x1 0 (4 * x1) s = some (.inr (v, s)) := by
      rw [e4, show (4 : Int32) * nI o = nI (o * 4 + 0) from (pk_mul 4 o).trans (by rw [Nat.mul_comm]; rfl)]
      exact g2
    exact ⟨v, s, s, by simp [f_X11_told, f_X5_has, f_X5_figuresNeeded, am_bd, am_lp, a0, a1, w2, g3], by simp [f_X12_told, f_X12_isOrder, am_bd, am_lp, a0, em, a1, w2, g4], rfl⟩
  by_cases w3 : x2 = 3
  · exact ⟨s.1 50 x1.toNatClampNeg, s, s, by simp [f_X11_told, f_X5_has, am_bd, am_gu, a0, a1, c1, w3], by simp [f_X12_told, f_X12_isOrder, am_bd, am_gu, a0, em, a1, c1, w3, r1], rfl⟩
  by_cases w4 : x2 = 4
  · exact ⟨s.1 49 x1.toNatClampNeg, s, s, by simp [f_X11_told, f_X5_has, am_bd, am_gu, a0, a1, c1, w4], by simp [f_X12_told, f_X12_isOrder, am_bd, am_gu, a0, em, a1, c1, w4, r3], rfl⟩
  exact ⟨-1, s, s, by simp [f_X11_told, f_X5_has, am_bd, am_gu, a0, a1, w0, w1, w2, w3, w4], by simp [f_X12_told, f_X12_isOrder, am_bd, am_gu, a0, em, a1, w0, w1, w2, w3, w4], rfl⟩
