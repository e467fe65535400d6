/-! ===== log on both sides ===== -/
theorem ri_figs_grow {a a' : am_S} {m m' : Nat} (h : ri_figs a) (hm : a.1 32 2 = nI m) (hm2 : m ≤ m') (hm3 : m' ≤ 200) (e32 : a'.1 32 2 = nI m') (e37 : ∀ j, j < m → a'.1 37 j = a.1 37 j) (e39 : a'.1 39 = a.1 39) (e45 : a'.1 45 = a.1 45) (e21 : a'.1 21 0 = a.1 21 0) (e40 : a'.1 40 = a.1 40) (e42 : a'.1 42 = a.1 42) (e43 : a'.1 43 = a.1 43) (e46 : a'.1 46 0 = a.1 46 0) (e48 : a'.1 48 = a.1 48) : ri_figs a' := by
  unfold ri_figs at h ⊢
  rw [e39, e45, e21, e40, e42, e43, e46, e48]
  refine ⟨h.1, h.2.1, h.2.2.1, fun j hj => ?_⟩
  obtain ⟨⟨r, f, q1, q2, q3, q4⟩, q5⟩ := h.2.2.2 j hj
  rw [hm, nI_clamp (by omega)] at q1
  exact ⟨⟨r, f, by rw [e32, nI_clamp (by omega)]; omega, q2, q3, (e37 r q1).trans q4⟩, q5⟩
theorem m_log (a b : am_S) (x1 : Int32) (x2 : Int64) (h : rl_x [] a b) (hn : ri_now a) (hk : ri_kinds a) (hfm : ri_fams a) (hl : ri_lent (mg a b)) (hr : ri_rings a) (hf : ri_figs a) : ∃ v a' b', f_X11_log a x1 x2 = some (v, a') ∧ f_X12_log b x1 x2 = some (v, b') ∧ rl_x [] a' b' ∧ ri_rings a' ∧ ri_figs a' ∧ rw_on [29, 30, 31, 32, 33, 34, 35, 36, 37, 38] a' a ∧ rw_on [58, 93, 94, 95, 96, 97, 98, 99, 100, 101] b' b ∧ ∀ i, i ≠ 53 → i ≠ 55 → b'.1 58 i = b.1 58 i := by
  have e53 : b.1 58 53 = a.1 32 0 := h.f (by decide)
  have e55 : b.1 58 55 = a.1 32 2 := h.f (by decide)
  have tr : rl_x [] a b ∧ ri_rings a ∧ ri_figs a ∧ rw_on [29, 30, 31, 32, 33, 34, 35, 36, 37, 38] a a ∧ rw_on [58, 93, 94, 95, 96, 97, 98, 99, 100, 101] b b ∧ ∀ i, i ≠ 53 → i ≠ 55 → b.1 58 i = b.1 58 i := ⟨h, hr, hf, rw_on.refl _ _, rw_on.refl _ _, fun _ _ _ => rfl⟩
  by_cases a0 : x1 < 1
  · exact ⟨-1, a, b, by simp [f_X11_log, f_X11_isWithin, am_bd, a0], by simp [f_X12_log, a0], tr⟩
  by_cases a1 : 60 < x1
  · exact ⟨-1, a, b, by simp [f_X11_log, f_X11_isWithin, am_bd, a0, a1], by simp [f_X12_log, a0, a1], tr⟩
  by_cases a2 : lg_cmp x2 (lN 0) < 0
  · exact ⟨-1, a, b, by simp [f_X11_log, f_X11_isWithin, am_bd, a0, a1, a2], by simp [f_X12_log, a0, a1, a2], tr⟩
  obtain ⟨len, l1, l2, l3⟩ := i_rng (x := x1) (a := 1) (b := 60) (by decide) (by decide) a0 a1
  subst l3
  have sh := lg_sh a2 (len := len) (by omega)
  by_cases a3 : ¬ lg_cmp (x2 >>> (Int32.toInt64 (nI len) &&& 63)) (lN 0) = 0
  · exact ⟨-1, a, b, by simp [f_X11_log, f_X11_isWithin, am_bd, a0, a1, a2, sh, a3], by simp [f_X12_log, a0, a1, a2, a3], tr⟩
  have a3 := Decidable.not_not.mp a3
  obtain ⟨e, e1, e2⟩ := hn
  obtain ⟨F, F1, F2⟩ := hfm.1
  obtain ⟨K, K1, K2⟩ := hk.1
  obtain ⟨g, G1, G2⟩ := hr.1
  obtain ⟨m, M1, M2⟩ := hr.2.2.1
  obtain ⟨v, v1, v2⟩ := cv_out F1 (e := e) (by omega) F2 am_FU 0 0 (by omega) (by unfold am_FU; omega)
  obtain ⟨v', v3, v4⟩ := cm_out (x1 := nI len) (x2 := x2) K1 F1 (e := e) (by omega) F2 K2 e2 h hl am_FU 0 0 (by omega) (by unfold am_FU; omega)
  have v1 : f_X2_carvable_L4 am_FU (nI e) 0 0 a = some (.inr (v, a)) := v1
  have v3 : f_X12_log_L42 am_FU (nI len) x2 0 0 b = some (.inr (v', b)) := v3
  have hv : ∀ j, j < K → (v.toBitVec.getLsbD j = true ↔ v'.toBitVec.getLsbD j = true) := by
    intro j hj
    rw [v2 j (by omega), v4 j (by omega)]
    constructor
    · rintro (q | ⟨f', -, q2, q3⟩)
      · exact Or.inl q
      · exact Or.inr ⟨by omega, hj, f', q2, q3⟩
    · rintro (q | ⟨-, -, f', q2, q3⟩)
      · exact Or.inl q
      · exact Or.inr ⟨f', by omega, q2, q3⟩
  have i2 : am_in (nI len) 61 = true := rl_nin (by decide) (by omega)
  have i3 : (nI len).toNatClampNeg = len := nI_clamp (by omega)
  have oa : rw_on [29, 30, 31] (am_wI (am_wI a 29 len 0) 30 len 0) a := ((rw_on.refl _ _).w (by decide) _ _).w (by decide) _ _
  have ob : rw_on [99, 100, 101] (am_wI (am_wI b 99 len 0) 100 len 0) b := ((rw_on.refl _ _).w (by decide) _ _).w (by decide) _ _
  have h0 : rl_x [] (am_wI (am_wI a 29 len 0) 30 len 0) (am_wI (am_wI b 99 len 0) 100 len 0) := h.on oa ob (by intro p hp; revert p; decide) (by decide) (by decide)
  have kd0 : kd a K := ⟨K2, fun j hj => (hk.2 j (by rw [K2, nI_clamp (by omega)]; exact hj)).1⟩
  have cu0 : cu (am_wI (am_wI a 29 len 0) 30 len 0) (am_wI (am_wI b 99 len 0) 100 len 0) len K len := by
    intro j q1 q2
    have ej : j = len := by omega
    subst ej
    exact ⟨by simp [rl_wI], by simp [rl_wI], 0, by omega, by simp [rl_wI]; rfl, fun z => absurd z (by omega)⟩
  obtain ⟨A, B, g1, g2, g3, g4, g5, g6⟩ := cut_out (fl := x2) l2 K1 hv am_FU len _ _ h0 (kd0.on oa (by decide) (by decide)) cu0 (by omega) (by unfold am_FU; omega)
  have fa : f_X1_cut a (nI len) x2 v = some ((), A) := by
    simp only [f_X1_cut, rl_gu i2, i3, g1, am_lp]
  have oA := g5.trans oa
  have oB := g6.trans ob
  have A32 : A.1 32 = a.1 32 := (oA 32 (by decide)).1
  have A05 : a.1 0 5 = nI e := e2
  by_cases b0 : ¬ g < 30
  · have eg : g = 30 := by omega
    have c1 : ¬ A.1 32 0 < 30 := by rw [A32, G2]; exact nI_nlt (b := 30) (by omega) (by omega)
    have c2 : b.1 58 53 = 30 := by rw [e53, G2, eg]; rfl
    have hx : rl_x [] A b := h.on oA (rw_on.refl [] b) (by intro p hp; revert p; decide) (by decide) (by simp)
    refine ⟨-1, A, b, by simp [f_X11_log, f_X11_isWithin, f_X2_carvable, am_bd, am_lp, a0, a1, a2, sh, a3, A05, v1, fa, c1], by simp [f_X12_log, c2], hx, ?_, ?_, oA.mono (by decide), rw_on.refl _ _, fun _ _ _ => rfl⟩
    · exact hr.fr (congrFun A32 0) (oA 33 (by decide)).1 (congrFun A32 2) (congrFun (oA 17 (by decide)).1 0) (oA 36 (by decide)).1 (oA 37 (by decide)).1 (congrFun (oA 21 (by decide)).1 0)
    · exact hf.fr (congrFun (oA 39 (by decide)).1 1) (congrFun (oA 39 (by decide)).1 7) (oA 45 (by decide)).1 (congrFun A32 2) (congrFun (oA 21 (by decide)).1 0) (oA 40 (by decide)).1 (oA 37 (by decide)).1 (oA 42 (by decide)).1 (congrFun (oA 46 (by decide)).1 0) (oA 43 (by decide)).1 (oA 48 (by decide)).1
  have b0 := Decidable.not_not.mp b0
  have c1 : A.1 32 0 < 30 := by rw [A32, G2]; exact nI_lt (b := 30) (by omega) (by decide)
  have c2 : ¬ b.1 58 53 = 30 := by rw [e53, G2]; exact nI_ne (m := 30) (by omega) (by decide) (by omega)
  obtain ⟨t1, t2, r, t3, t4, -⟩ := g4 0 (by omega) (by omega)
  have z0 : am_in 0 61 = true := by decide
  have z1 : (0 : Int32).toNatClampNeg = 0 := by decide
  have s1 : 200 - A.1 32 2 = nI (200 - m) := by rw [A32, M2]; exact pk_sub (a := 200) M1
  have B55 : B.1 58 55 = nI m := by rw [(oB 58 (by decide)).1, e55, M2]
  have s2 : B.1 58 55 + B.1 100 0 = nI (m + r) := by rw [B55, t2, t4, nI_add]
  by_cases b1 : 200 < m + r
  · have c3 : nI (200 - m) < A.1 30 0 := by rw [t4]; exact nI_lt (by omega) (by omega)
    have c4 : (200 : Int32) < nI (m + r) := nI_lt (a := 200) b1 (by omega)
    refine ⟨-1, A, B, by simp [f_X11_log, f_X11_isWithin, f_X2_carvable, f_X1_ringsOfBest, am_bd, am_lp, am_gu, z0, z1, a0, a1, a2, sh, a3, A05, v1, fa, c1, s1, c3], by simp [f_X12_log, c2, a0, a1, a2, a3, am_lp, v3, am_gu, i2, i3, g2, z0, z1, s2, c4], g3, ?_, ?_, oA.mono (by decide), oB.mono (by decide), fun i _ _ => congrFun (oB 58 (by decide)).1 i⟩
    · exact hr.fr (congrFun A32 0) (oA 33 (by decide)).1 (congrFun A32 2) (congrFun (oA 17 (by decide)).1 0) (oA 36 (by decide)).1 (oA 37 (by decide)).1 (congrFun (oA 21 (by decide)).1 0)
    · exact hf.fr (congrFun (oA 39 (by decide)).1 1) (congrFun (oA 39 (by decide)).1 7) (oA 45 (by decide)).1 (congrFun A32 2) (congrFun (oA 21 (by decide)).1 0) (oA 40 (by decide)).1 (oA 37 (by decide)).1 (oA 42 (by decide)).1 (congrFun (oA 46 (by decide)).1 0) (oA 43 (by decide)).1 (oA 48 (by decide)).1
  have c3 : ¬ nI (200 - m) < A.1 30 0 := by rw [t4]; exact nI_nlt (by omega) (by omega)
  have c4 : ¬ (200 : Int32) < nI (m + r) := nI_nlt (a := 200) (by omega) (by decide)
  have Ag : A.1 32 0 = nI g := by rw [A32]; exact G2
  have hs : rl_x [33] (am_wI (am_wI A 32 0 (nI (g + 1))) 32 0 (nI g)) B := by
    rw [wI_two, wI_same _ Ag]
    exact g3.mono (by simp)
  have A33 : A.1 33 = a.1 33 := (oA 33 (by decide)).1
  obtain ⟨left', a', b', m', y1, y2, y3, y4, y5, y6, y7, y8, y9, y10, y11, y12, y13, y14⟩ := st_loop l2 K1 b0 g4 am_FU 0 0 m r 0 (am_wI A 32 0 (nI (g + 1))) B (by omega) hs rfl rfl rfl (by omega) t4 (by rw [show (am_wI A 32 0 (nI (g + 1))).1 32 2 = A.1 32 2 from rfl, A32]; exact M2) (by omega) (by rw [show (am_wI A 32 0 (nI (g + 1))).1 33 g = A.1 33 g from rfl, A33]; exact hr.2.1 g (by rw [G2, nI_clamp (by omega)]; omega)) (by unfold am_FU; omega)
  have y1 : f_X11_storeCutLog_L13 am_FU (nI len) (nI g) 0 0 (am_wI A 32 0 (nI (g + 1))) = some (.inr ((), a')) := y1
  have y2 : f_X12_log_L367 am_FU (nI len) 0 0 B = some (.inr (left', b')) := y2
  have w1 : nI g + 1 = nI (g + 1) := nI_1 g
  have w2 : nI (g + 1) - 1 = nI g := nI_pred g
  have y6 : a'.1 32 0 = nI (g + 1) := y6
  have oA2 : rw_on [29, 30, 31, 32, 33, 34, 35, 36, 37, 38] a' a := ((y12.mono (by decide)).trans ((rw_on.refl _ _).w (by decide) _ _)).trans (oA.mono (by decide))
  have oB1 : rw_on [58, 93, 94, 95, 96, 97, 98, 99, 100, 101] b' b := (y13.mono (by decide)).trans (oB.mono (by decide))
  have oB2 : rw_on [58, 93, 94, 95, 96, 97, 98, 99, 100, 101] (am_wI (am_wI b' 93 g left') 58 53 (nI (g + 1))) b := (oB1.w (by decide) _ _).w (by decide) _ _
  have b53 : b'.1 58 53 = nI g := by rw [y14 53 (by decide), (oB 58 (by decide)).1, e53, G2]
  have gi : am_in (nI g) 30 = true := rl_nin (by decide) (by omega)
  have gc : (nI g).toNatClampNeg = g := nI_clamp (by omega)
  have fs : f_X11_storeCutLog A (nI len) = some (nI g, a') := by
    have c1' : nI g < 30 := by rw [← Ag]; exact c1
    simp only [f_X11_storeCutLog, f_X7_addLog, Ag, if_pos c1', rl_bd, w1, w2, y1, am_lp]
  refine ⟨nI g, a', am_wI (am_wI b' 93 g left') 58 53 (nI (g + 1)), ?_, ?_, ?_, ?_, ?_, oA2, oB2, ?_⟩
  · simp [f_X11_log, f_X11_isWithin, f_X2_carvable, f_X1_ringsOfBest, am_bd, am_lp, am_gu, z0, z1, a0, a1, a2, sh, a3, A05, v1, fa, c1, s1, c3, fs]
  · simp [f_X12_log, c2, a0, a1, a2, a3, am_lp, v3, am_gu, i2, i3, g2, z0, z1, s2, c4, y2, b53, gi, gc, w1, w2]
  · have p1 : rl_x [33] (am_wI a' 32 0 (nI g)) (am_wI b' 93 g left') := y3.wb (by decide) (by decide) _ _
    have p2 := p1.f2 (c := 32) (k := 0) (m := 53) (by decide) (nI (g + 1))
    rw [wI_two, wI_same _ y6] at p2
    refine p2.add (c := 33) (m := 93) (by decide) ?_
    funext j
    have q1 : (am_wI (am_wI b' 93 g left') 58 53 (nI (g + 1))).1 93 j = if j = g then left' else b'.1 93 j := by simp [rl_wI]
    rw [q1]
    by_cases ej : j = g
    · rw [if_pos ej, ej]; exact y4
    · rw [if_neg ej, y5 j ej, (y13 93 (by decide)).1, (oB 93 (by decide)).1]
      show A.1 33 j = b.1 93 j
      rw [A33]
      exact congrFun (h.r (c := 33) (m := 93) (by decide) (by simp)).symm j
  · refine ⟨⟨g + 1, by omega, y6⟩, fun j hj => ?_, ⟨m', y9, y7⟩, fun j hj => ?_⟩
    · rw [y6, nI_clamp (by omega)] at hj
      rw [y5 j (by omega)]
      show A.1 33 j = 0
      rw [A33]
      exact hr.2.1 j (by rw [G2, nI_clamp (by omega)]; omega)
    · rw [y7, nI_clamp (by omega)] at hj
      rw [congrFun (oA2 17 (by decide)).1 0, congrFun (oA2 21 (by decide)).1 0]
      by_cases q : j < m
      · have q1 := y10 j q
        rw [q1.1, q1.2]
        show (∃ k : Nat, k < (a.1 17 0).toNatClampNeg ∧ A.1 36 j = nI k) ∧ (A.1 37 j = -1 ∨ ∃ f : Nat, f < (a.1 21 0).toNatClampNeg ∧ A.1 37 j = nI f)
        rw [(oA 36 (by decide)).1, (oA 37 (by decide)).1]
        exact hr.2.2.2 j (by rw [M2, nI_clamp (by omega)]; exact q)
      · obtain ⟨⟨k, q1, q2⟩, q3⟩ := y11 j (by omega) hj
        exact ⟨⟨k, by rw [K2, nI_clamp (by omega)]; exact q1, q2⟩, Or.inl q3⟩
  · refine ri_figs_grow hf M2 y8 y9 y7 (fun j hj => ?_) (oA2 39 (by decide)).1 (oA2 45 (by decide)).1 (congrFun (oA2 21 (by decide)).1 0) (oA2 40 (by decide)).1 (oA2 42 (by decide)).1 (oA2 43 (by decide)).1 (congrFun (oA2 46 (by decide)).1 0) (oA2 48 (by decide)).1
    rw [(y10 j hj).2]
    show A.1 37 j = a.1 37 j
    rw [(oA 37 (by decide)).1]
  · intro i hi hi2
    have q1 : (am_wI (am_wI b' 93 g left') 58 53 (nI (g + 1))).1 58 i = b'.1 58 i := by simp [rl_wI, hi]
    rw [q1, y14 i hi2, (oB 58 (by decide)).1]
