/-! ===== the relation is kept: things that are added ===== -/
theorem nI_cl {n : Nat} (h : n < 2 ^ 31) : (nI n).toNatClampNeg = n := nI_clamp h
theorem R_kind : lb_kind Rel := by
  intro sw s x1 x2 x3 hs
  obtain ⟨v, s1, s2, k1, k2, k3⟩ := e_kind s x1 x2 x3 hs.q hs.2.2.2.1.1
  refine ⟨v, s1, s2, k1, k2, ?_⟩
  rcases k3 with rfl | ⟨n, hn, en, hx, rfl⟩
  · exact hs
  obtain ⟨h1, h2, h3, h4, h5, h6, h7, h8, h9, h10, h11, h12, h13, h14⟩ := hs
  have k5 : rw_on [17, 18, 19, 20] (am_wI (am_wI (am_wI (am_wI s 18 n x1) 19 n x2) 20 n x3) 17 0 (nI (n + 1))) s := ((((rw_on.refl _ _).w (by decide) _ _).w (by decide) _ _).w (by decide) _ _).w (by decide) _ _
  have k6 : rw_on [58, 81, 82, 83] (am_wI (am_wI (am_wI (am_wI s 81 n x1) 82 n x2) 83 n x3) 58 37 (nI (n + 1))) s := ((((rw_on.refl _ _).w (by decide) _ _).w (by decide) _ _).w (by decide) _ _).w (by decide) _ _
  have hX : rl_x [] (am_wI (am_wI (am_wI (am_wI s 18 n x1) 19 n x2) 20 n x3) 17 0 (nI (n + 1))) (am_wI (am_wI (am_wI (am_wI s 81 n x1) 82 n x2) 83 n x3) 58 37 (nI (n + 1))) := (((h1.w2 (c := 18) (m := 81) (by decide) _ _).w2 (c := 19) (m := 82) (by decide) _ _).w2 (c := 20) (m := 83) (by decide) _ _).f2 (c := 17) (k := 0) (m := 37) (by decide) _
  have e17 : (am_wI (am_wI (am_wI (am_wI s 18 n x1) 19 n x2) 20 n x3) 17 0 (nI (n + 1))).1 17 0 = nI (n + 1) := rfl
  have e18 : ∀ j, (am_wI (am_wI (am_wI (am_wI s 18 n x1) 19 n x2) 20 n x3) 17 0 (nI (n + 1))).1 18 j = if j = n then x1 else s.1 18 j := fun j => rfl
  have e19 : ∀ j, (am_wI (am_wI (am_wI (am_wI s 18 n x1) 19 n x2) 20 n x3) 17 0 (nI (n + 1))).1 19 j = if j = n then x2 else s.1 19 j := fun j => rfl
  have e20 : ∀ j, (am_wI (am_wI (am_wI (am_wI s 18 n x1) 19 n x2) 20 n x3) 17 0 (nI (n + 1))).1 20 j = if j = n then x3 else s.1 20 j := fun j => rfl
  refine Rel.two (A := am_wI (am_wI (am_wI (am_wI s 18 n x1) 19 n x2) 20 n x3) 17 0 (nI (n + 1))) (B := am_wI (am_wI (am_wI (am_wI s 81 n x1) 82 n x2) 83 n x3) 58 37 (nI (n + 1))) (L := [58, 81, 82, 83]) ?_ (((((rw_on.refl _ _).w (by decide) _ _).w (by decide) _ _).w (by decide) _ _).w (by decide) _ _) (by decide) (((((AG.on k5 (by decide)).w _ _ _).w _ _ _).w _ _ _).w _ _ _)
  generalize (am_wI (am_wI (am_wI (am_wI s 18 n x1) 19 n x2) 20 n x3) 17 0 (nI (n + 1))) = A at *
  have hk : ri_kinds A := by
    obtain ⟨g1, g2⟩ := h4
    rw [en, nI_cl (by omega)] at g2
    unfold ri_kinds
    rw [e17, nI_cl (by omega)]
    refine ⟨⟨n + 1, by omega, rfl⟩, fun j hj => ?_⟩
    rw [e18 j, e19 j, e20 j]
    by_cases z : j = n
    · simp only [if_pos z]
      obtain ⟨y1, y2, y3, y4, y5, y6⟩ := hx
      obtain ⟨w3, z1, z2, z3⟩ := i_rng (a := 0) (b := 100) (by decide) (by decide) y5 y6
      exact ⟨i_rng (a := 1) (b := 9) (by decide) (by decide) y1 y2, i_rng (a := 1) (b := 12) (by decide) (by decide) y3 y4, w3, z2, z3⟩
    · simp only [if_neg z]
      exact g2 j (by omega)
  have hr : ri_rings A := by
    obtain ⟨g1, g2, g3, g4⟩ := h7
    rw [en, nI_cl (by omega)] at g4
    unfold ri_rings
    rw [e17, nI_cl (by omega), (k5 32 (by decide)).1, (k5 33 (by decide)).1, (k5 36 (by decide)).1, (k5 37 (by decide)).1, (k5 21 (by decide)).1]
    refine ⟨g1, g2, g3, fun j hj => ?_⟩
    obtain ⟨⟨k, y1, y2⟩, y3⟩ := g4 j hj
    exact ⟨⟨k, by omega, y2⟩, y3⟩
  have ho : ri_ords A := by
    obtain ⟨g1, g2⟩ := h9
    rw [en, nI_cl (by omega)] at g2
    unfold ri_ords
    rw [e17, nI_cl (by omega), (k5 46 (by decide)).1, (k5 47 (by decide)).1, (k5 48 (by decide)).1, (k5 50 (by decide)).1, (k5 51 (by decide)).1, (k5 52 (by decide)).1, (k5 53 (by decide)).1]
    refine ⟨g1, fun o ho => ?_⟩
    obtain ⟨y1, y2, m, y3, y4, y5⟩ := g2 o ho
    refine ⟨y1, y2, m, y3, y4, fun i hi => ?_⟩
    obtain ⟨z1, ⟨k, z2, z3⟩, z4⟩ := y5 i hi
    exact ⟨z1, ⟨k, by omega, z3⟩, z4⟩
  exact ⟨hX, tape_on h2 k5 (by decide), now_on h3 k5 (by decide), hk, fams_on h5 k5 (by decide) (by decide) (by decide), lent_on h6 k5 k6 (by decide) (by decide) (by decide) (by decide) (by decide) (by decide), hr, figs_on h8 k5 (by decide) (by decide) (by decide) (by decide) (by decide) (by decide) (by decide) (by decide) (by decide) (by decide), ho, RR_on h10 k5 k6 (fun c q1 q2 => by simp; omega) (fun c q1 q2 => by simp; omega) rfl, za_on h11 k5 (by decide), zb_on h12 k6 (by decide), sd_on h13 k5 (by decide), ky_on h14 k6 (by decide)⟩
theorem R_family : lb_family Rel := by
  intro sw s x1 x2 hx hs
  obtain ⟨v, s1, s2, k1, k2, k3⟩ := e_family s x1 x2 hs.q hs.2.2.2.2.1.1
  refine ⟨v, s1, s2, k1, k2, ?_⟩
  rcases k3 with rfl | ⟨n, hn, en, rfl⟩
  · exact hs
  have hx1 : (x2 &&& 1) = 0 ∨ (x2 &&& 1) = 1 := by
    rcases hx with rfl | rfl
    · exact Or.inl (by decide)
    · exact Or.inr (by decide)
  generalize x2 &&& 1 = y at hx1 ⊢
  obtain ⟨h1, h2, h3, h4, h5, h6, h7, h8, h9, h10, h11, h12, h13, h14⟩ := hs
  have k5 : rw_on [21, 22, 23] (am_wI (am_wI (am_wI s 22 n x1) 23 n y) 21 0 (nI (n + 1))) s := (((rw_on.refl _ _).w (by decide) _ _).w (by decide) _ _).w (by decide) _ _
  have k6 : rw_on [58, 84, 85] (am_wI (am_wI (am_wI s 84 n x1) 85 n y) 58 41 (nI (n + 1))) s := (((rw_on.refl _ _).w (by decide) _ _).w (by decide) _ _).w (by decide) _ _
  have hX : rl_x [] (am_wI (am_wI (am_wI s 22 n x1) 23 n y) 21 0 (nI (n + 1))) (am_wI (am_wI (am_wI s 84 n x1) 85 n y) 58 41 (nI (n + 1))) := ((h1.w2 (c := 22) (m := 84) (by decide) _ _).w2 (c := 23) (m := 85) (by decide) _ _).f2 (c := 21) (k := 0) (m := 41) (by decide) _
  have e21 : (am_wI (am_wI (am_wI s 22 n x1) 23 n y) 21 0 (nI (n + 1))).1 21 0 = nI (n + 1) := rfl
  have e26 : (am_wI (am_wI (am_wI s 22 n x1) 23 n y) 21 0 (nI (n + 1))).1 21 6 = s.1 21 6 := rfl
  have e23 : ∀ j, (am_wI (am_wI (am_wI s 22 n x1) 23 n y) 21 0 (nI (n + 1))).1 23 j = if j = n then y else s.1 23 j := fun j => rfl
  refine Rel.two (A := am_wI (am_wI (am_wI s 22 n x1) 23 n y) 21 0 (nI (n + 1))) (B := am_wI (am_wI (am_wI s 84 n x1) 85 n y) 58 41 (nI (n + 1))) (L := [58, 84, 85]) ?_ ((((rw_on.refl _ _).w (by decide) _ _).w (by decide) _ _).w (by decide) _ _) (by decide) ((((AG.on k5 (by decide)).w _ _ _).w _ _ _).w _ _ _)
  generalize (am_wI (am_wI (am_wI s 22 n x1) 23 n y) 21 0 (nI (n + 1))) = A at *
  have hfm : ri_fams A := by
    obtain ⟨g1, g2, g3⟩ := h5
    unfold ri_fams
    rw [e21, (k5 25 (by decide)).1]
    refine ⟨⟨n + 1, by omega, rfl⟩, g2, fun j => ?_⟩
    rw [e23 j]
    by_cases z : j = n
    · simp only [if_pos z]; exact hx1
    · simp only [if_neg z]; exact g3 j
  have hr : ri_rings A := by
    obtain ⟨g1, g2, g3, g4⟩ := h7
    rw [en, nI_cl (by omega)] at g4
    unfold ri_rings
    rw [e21, nI_cl (by omega), (k5 32 (by decide)).1, (k5 33 (by decide)).1, (k5 36 (by decide)).1, (k5 37 (by decide)).1, (k5 17 (by decide)).1]
    refine ⟨g1, g2, g3, fun j hj => ?_⟩
    obtain ⟨y1, y2⟩ := g4 j hj
    refine ⟨y1, ?_⟩
    rcases y2 with y2 | ⟨f, y2, y3⟩
    · exact Or.inl y2
    · exact Or.inr ⟨f, by omega, y3⟩
  have hf : ri_figs A := by
    obtain ⟨g1, g2, g3, g4⟩ := h8
    rw [en, nI_cl (by omega)] at g4
    unfold ri_figs
    rw [e21, nI_cl (by omega), (k5 39 (by decide)).1, (k5 45 (by decide)).1, (k5 32 (by decide)).1, (k5 40 (by decide)).1, (k5 37 (by decide)).1, (k5 46 (by decide)).1, (k5 42 (by decide)).1, (k5 43 (by decide)).1, (k5 48 (by decide)).1]
    refine ⟨g1, g2, g3, fun j hj => ?_⟩
    obtain ⟨⟨r, f, y1, y2, y3⟩, y4⟩ := g4 j hj
    exact ⟨⟨r, f, y1, by omega, y3⟩, y4⟩
  have hl : ri_lent (mg A (am_wI (am_wI (am_wI s 84 n x1) 85 n y) 58 41 (nI (n + 1)))) := ri_lent.fr (s := mg s s) h6 (show A.1 21 6 = s.1 21 6 from e26) (show (am_wI (am_wI (am_wI s 84 n x1) 85 n y) 58 41 (nI (n + 1))).1 88 = s.1 88 from (k6 88 (by decide)).1) (show (am_wI (am_wI (am_wI s 84 n x1) 85 n y) 58 41 (nI (n + 1))).1 89 = s.1 89 from (k6 89 (by decide)).1) (show (am_wI (am_wI (am_wI s 84 n x1) 85 n y) 58 41 (nI (n + 1))).1 90 = s.1 90 from (k6 90 (by decide)).1) (show (am_wI (am_wI (am_wI s 84 n x1) 85 n y) 58 41 (nI (n + 1))).1 91 = s.1 91 from (k6 91 (by decide)).1) (show A.2 26 = s.2 26 from (k5 26 (by decide)).2)
  exact ⟨hX, tape_on h2 k5 (by decide), now_on h3 k5 (by decide), kinds_on h4 k5 (by decide) (by decide) (by decide) (by decide), hfm, hl, hr, hf, ords_on h9 k5 (by decide) (by decide) (by decide) (by decide) (by decide) (by decide) (by decide) (by decide), RR_on h10 k5 k6 (fun c q1 q2 => by simp; omega) (fun c q1 q2 => by simp; omega) rfl, za_on h11 k5 (by decide), zb_on h12 k6 (by decide), sd_on h13 k5 (by decide), ky_on h14 k6 (by decide)⟩
theorem R_lot : lb_lot Rel := by
  intro sw s x1 hs
  obtain ⟨v, s1, s2, k1, k2, k3⟩ := e_lot s x1 hs.q hs.2.2.2.2.2.2.2.1.2.1
  refine ⟨v, s1, s2, k1, k2, ?_⟩
  rcases k3 with rfl | ⟨n, hn, en, hx, rfl⟩
  · exact hs
  obtain ⟨h1, h2, h3, h4, h5, h6, h7, h8, h9, h10, h11, h12, h13, h14⟩ := hs
  have k5 : rw_on [39, 45] (am_wI (am_wI s 45 n x1) 39 7 (nI (n + 1))) s := ((rw_on.refl _ _).w (by decide) _ _).w (by decide) _ _
  have k6 : rw_on [58, 109] (am_wI (am_wI s 109 n x1) 58 72 (nI (n + 1))) s := ((rw_on.refl _ _).w (by decide) _ _).w (by decide) _ _
  have hX : rl_x [] (am_wI (am_wI s 45 n x1) 39 7 (nI (n + 1))) (am_wI (am_wI s 109 n x1) 58 72 (nI (n + 1))) := (h1.w2 (c := 45) (m := 109) (by decide) _ _).f2 (c := 39) (k := 7) (m := 72) (by decide) _
  have e7 : (am_wI (am_wI s 45 n x1) 39 7 (nI (n + 1))).1 39 7 = nI (n + 1) := rfl
  have e1 : (am_wI (am_wI s 45 n x1) 39 7 (nI (n + 1))).1 39 1 = s.1 39 1 := rfl
  have e45 : ∀ j, (am_wI (am_wI s 45 n x1) 39 7 (nI (n + 1))).1 45 j = if j = n then x1 else s.1 45 j := fun j => rfl
  refine Rel.two (A := am_wI (am_wI s 45 n x1) 39 7 (nI (n + 1))) (B := am_wI (am_wI s 109 n x1) 58 72 (nI (n + 1))) (L := [58, 109]) ?_ (((rw_on.refl _ _).w (by decide) _ _).w (by decide) _ _) (by decide) (((AG.on k5 (by decide)).w _ _ _).w _ _ _)
  generalize (am_wI (am_wI s 45 n x1) 39 7 (nI (n + 1))) = A at *
  have hf : ri_figs A := by
    obtain ⟨g1, g2, g3, g4⟩ := h8
    rw [en, nI_cl (by omega)] at g3 g4
    unfold ri_figs
    rw [e7, e1, nI_cl (by omega), (k5 21 (by decide)).1, (k5 32 (by decide)).1, (k5 40 (by decide)).1, (k5 37 (by decide)).1, (k5 46 (by decide)).1, (k5 42 (by decide)).1, (k5 43 (by decide)).1, (k5 48 (by decide)).1]
    refine ⟨g1, ⟨n + 1, by omega, rfl⟩, fun j hj => ?_, fun j hj => ?_⟩
    · rw [e45 j]
      by_cases z : j = n
      · simp only [if_pos z]
        obtain ⟨w, z1, z2, z3⟩ := i_rng (a := 0) (b := 4) (by decide) (by decide) hx.1 hx.2
        exact ⟨w, z2, z3⟩
      · simp only [if_neg z]; exact g3 j (by omega)
    · obtain ⟨y1, y2, y3⟩ := g4 j hj
      refine ⟨y1, ?_, y3⟩
      rcases y2 with y2 | ⟨l, y2, y4⟩
      · exact Or.inl y2
      · exact Or.inr ⟨l, by omega, y4⟩
  exact ⟨hX, tape_on h2 k5 (by decide), now_on h3 k5 (by decide), kinds_on h4 k5 (by decide) (by decide) (by decide) (by decide), fams_on h5 k5 (by decide) (by decide) (by decide), lent_on h6 k5 k6 (by decide) (by decide) (by decide) (by decide) (by decide) (by decide), rings_on h7 k5 (by decide) (by decide) (by decide) (by decide) (by decide) (by decide), hf, ords_on h9 k5 (by decide) (by decide) (by decide) (by decide) (by decide) (by decide) (by decide) (by decide), RR_on h10 k5 k6 (fun c q1 q2 => by simp; omega) (fun c q1 q2 => by simp; omega) rfl, za_on h11 k5 (by decide), zb_on h12 k6 (by decide), sd_on h13 k5 (by decide), ky_on h14 k6 (by decide)⟩
