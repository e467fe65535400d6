/-! ===== the relation is kept: orders, needs, lendings ===== -/
theorem R_order : lb_order Rel := by
  intro sw s x1 hs
  obtain ⟨v, s1, s2, k1, k2, k3⟩ := e_order s x1 hs.q hs.2.2.2.2.2.2.2.2.1.1
  refine ⟨v, s1, s2, k1, k2, ?_⟩
  rcases k3 with rfl | ⟨n, hn, en, hx, rfl⟩
  · exact hs
  obtain ⟨h1, h2, h3, h4, h5, h6, h7, h8, h9, h10, h11, h12, h13, h14⟩ := hs
  have k5 : rw_on [46, 47, 48, 49, 50] (am_wI (am_wI (am_wI (am_wI (am_wI s 47 n x1) 48 n 0) 49 n (-1)) 50 n 0) 46 0 (nI (n + 1))) s := (((((rw_on.refl _ _).w (by decide) _ _).w (by decide) _ _).w (by decide) _ _).w (by decide) _ _).w (by decide) _ _
  have k6 : rw_on [58, 110, 111, 112, 113] (am_wI (am_wI (am_wI (am_wI (am_wI s 110 n x1) 111 n 0) 112 n (-1)) 113 n 0) 58 74 (nI (n + 1))) s := (((((rw_on.refl _ _).w (by decide) _ _).w (by decide) _ _).w (by decide) _ _).w (by decide) _ _).w (by decide) _ _
  have hX : rl_x [] (am_wI (am_wI (am_wI (am_wI (am_wI s 47 n x1) 48 n 0) 49 n (-1)) 50 n 0) 46 0 (nI (n + 1))) (am_wI (am_wI (am_wI (am_wI (am_wI s 110 n x1) 111 n 0) 112 n (-1)) 113 n 0) 58 74 (nI (n + 1))) := ((((h1.w2 (c := 47) (m := 110) (by decide) _ _).w2 (c := 48) (m := 111) (by decide) _ _).w2 (c := 49) (m := 112) (by decide) _ _).w2 (c := 50) (m := 113) (by decide) _ _).f2 (c := 46) (k := 0) (m := 74) (by decide) _
  have e46 : (am_wI (am_wI (am_wI (am_wI (am_wI s 47 n x1) 48 n 0) 49 n (-1)) 50 n 0) 46 0 (nI (n + 1))).1 46 0 = nI (n + 1) := rfl
  have e47 : ∀ j, (am_wI (am_wI (am_wI (am_wI (am_wI s 47 n x1) 48 n 0) 49 n (-1)) 50 n 0) 46 0 (nI (n + 1))).1 47 j = if j = n then x1 else s.1 47 j := fun j => rfl
  have e48 : ∀ j, (am_wI (am_wI (am_wI (am_wI (am_wI s 47 n x1) 48 n 0) 49 n (-1)) 50 n 0) 46 0 (nI (n + 1))).1 48 j = if j = n then 0 else s.1 48 j := fun j => rfl
  have e50 : ∀ j, (am_wI (am_wI (am_wI (am_wI (am_wI s 47 n x1) 48 n 0) 49 n (-1)) 50 n 0) 46 0 (nI (n + 1))).1 50 j = if j = n then 0 else s.1 50 j := fun j => rfl
  refine Rel.two (A := am_wI (am_wI (am_wI (am_wI (am_wI s 47 n x1) 48 n 0) 49 n (-1)) 50 n 0) 46 0 (nI (n + 1))) (B := am_wI (am_wI (am_wI (am_wI (am_wI s 110 n x1) 111 n 0) 112 n (-1)) 113 n 0) 58 74 (nI (n + 1))) (L := [58, 110, 111, 112, 113]) ?_ ((((((rw_on.refl _ _).w (by decide) _ _).w (by decide) _ _).w (by decide) _ _).w (by decide) _ _).w (by decide) _ _) (by decide) ((((((AG.on k5 (by decide)).w _ _ _).w _ _ _).w _ _ _).w _ _ _).w _ _ _)
  generalize (am_wI (am_wI (am_wI (am_wI (am_wI s 47 n x1) 48 n 0) 49 n (-1)) 50 n 0) 46 0 (nI (n + 1))) = A at *
  have hf : ri_figs A := by
    obtain ⟨g1, g2, g3, g4⟩ := h8
    rw [en, nI_cl (by omega)] at g4
    unfold ri_figs
    rw [e46, nI_cl (by omega), (k5 21 (by decide)).1, (k5 39 (by decide)).1, (k5 45 (by decide)).1, (k5 32 (by decide)).1, (k5 40 (by decide)).1, (k5 37 (by decide)).1, (k5 42 (by decide)).1, (k5 43 (by decide)).1]
    refine ⟨g1, g2, g3, fun j hj => ?_⟩
    obtain ⟨y1, y2, y3⟩ := g4 j hj
    refine ⟨y1, y2, ?_⟩
    rcases y3 with y3 | ⟨o, y4, y5, y6⟩
    · exact Or.inl y3
    · refine Or.inr ⟨o, by omega, y5, ?_⟩
      rw [e48 o, if_neg (by omega)]
      exact y6
  have ho : ri_ords A := by
    obtain ⟨g1, g2⟩ := h9
    rw [en, nI_cl (by omega)] at g2
    unfold ri_ords
    rw [e46, nI_cl (by omega), (k5 17 (by decide)).1, (k5 51 (by decide)).1, (k5 52 (by decide)).1, (k5 53 (by decide)).1]
    refine ⟨⟨n + 1, by omega, rfl⟩, fun o ho => ?_⟩
    rw [e47 o, e48 o, e50 o]
    by_cases z : o = n
    · simp only [if_pos z]
      obtain ⟨w, z1, z2, z3⟩ := i_rng (a := 0) (b := 1000) (by decide) (by decide) hx.1 hx.2
      exact ⟨⟨w, z2, z3⟩, Or.inl trivial, 0, by omega, rfl, fun i hi => absurd hi (Nat.not_lt_zero i)⟩
    · simp only [if_neg z]
      exact g2 o (by omega)
  exact ⟨hX, tape_on h2 k5 (by decide), now_on h3 k5 (by decide), kinds_on h4 k5 (by decide) (by decide) (by decide) (by decide), fams_on h5 k5 (by decide) (by decide) (by decide), lent_on h6 k5 k6 (by decide) (by decide) (by decide) (by decide) (by decide) (by decide), rings_on h7 k5 (by decide) (by decide) (by decide) (by decide) (by decide) (by decide), hf, ho, RR_on h10 k5 k6 (fun c q1 q2 => by simp; omega) (fun c q1 q2 => by simp; omega) rfl, za_on h11 k5 (by decide), zb_on h12 k6 (by decide), sd_on h13 k5 (by decide), ky_on h14 k6 (by decide)⟩
theorem R_need : lb_need Rel := by
  intro sw s x1 x2 x3 x4 hs
  obtain ⟨v, s1, s2, k1, k2, k3⟩ := e_need s x1 x2 x3 x4 hs.q hs.2.2.2.1 hs.2.2.2.2.2.2.2.2.1
  refine ⟨v, s1, s2, k1, k2, ?_⟩
  rcases k3 with rfl | ⟨o, i, w, k, ho1, ho2, hi, ei, hw1, hw2, hk, hx, rfl⟩
  · exact hs
  obtain ⟨h1, h2, h3, h4, h5, h6, h7, h8, h9, h10, h11, h12, h13, h14⟩ := hs
  have k5 : rw_on [50, 51, 52, 53] (am_wI (am_wI (am_wI (am_wI s 51 (o * 4 + i) (nI w)) 52 (o * 4 + i) (nI k)) 53 (o * 4 + i) x4) 50 o (nI (i + 1))) s := ((((rw_on.refl _ _).w (by decide) _ _).w (by decide) _ _).w (by decide) _ _).w (by decide) _ _
  have k6 : rw_on [113, 114, 115, 116] (am_wI (am_wI (am_wI (am_wI s 114 (o * 4 + i) (nI w)) 115 (o * 4 + i) (nI k)) 116 (o * 4 + i) x4) 113 o (nI (i + 1))) s := ((((rw_on.refl _ _).w (by decide) _ _).w (by decide) _ _).w (by decide) _ _).w (by decide) _ _
  have hX : rl_x [] (am_wI (am_wI (am_wI (am_wI s 51 (o * 4 + i) (nI w)) 52 (o * 4 + i) (nI k)) 53 (o * 4 + i) x4) 50 o (nI (i + 1))) (am_wI (am_wI (am_wI (am_wI s 114 (o * 4 + i) (nI w)) 115 (o * 4 + i) (nI k)) 116 (o * 4 + i) x4) 113 o (nI (i + 1))) := (((h1.w2 (c := 51) (m := 114) (by decide) _ _).w2 (c := 52) (m := 115) (by decide) _ _).w2 (c := 53) (m := 116) (by decide) _ _).w2 (c := 50) (m := 113) (by decide) _ _
  have e50 : ∀ j, (am_wI (am_wI (am_wI (am_wI s 51 (o * 4 + i) (nI w)) 52 (o * 4 + i) (nI k)) 53 (o * 4 + i) x4) 50 o (nI (i + 1))).1 50 j = if j = o then nI (i + 1) else s.1 50 j := fun j => rfl
  have e51 : ∀ j, (am_wI (am_wI (am_wI (am_wI s 51 (o * 4 + i) (nI w)) 52 (o * 4 + i) (nI k)) 53 (o * 4 + i) x4) 50 o (nI (i + 1))).1 51 j = if j = o * 4 + i then nI w else s.1 51 j := fun j => rfl
  have e52 : ∀ j, (am_wI (am_wI (am_wI (am_wI s 51 (o * 4 + i) (nI w)) 52 (o * 4 + i) (nI k)) 53 (o * 4 + i) x4) 50 o (nI (i + 1))).1 52 j = if j = o * 4 + i then nI k else s.1 52 j := fun j => rfl
  have e53 : ∀ j, (am_wI (am_wI (am_wI (am_wI s 51 (o * 4 + i) (nI w)) 52 (o * 4 + i) (nI k)) 53 (o * 4 + i) x4) 50 o (nI (i + 1))).1 53 j = if j = o * 4 + i then x4 else s.1 53 j := fun j => rfl
  refine Rel.two (A := am_wI (am_wI (am_wI (am_wI s 51 (o * 4 + i) (nI w)) 52 (o * 4 + i) (nI k)) 53 (o * 4 + i) x4) 50 o (nI (i + 1))) (B := am_wI (am_wI (am_wI (am_wI s 114 (o * 4 + i) (nI w)) 115 (o * 4 + i) (nI k)) 116 (o * 4 + i) x4) 113 o (nI (i + 1))) (L := [113, 114, 115, 116]) ?_ (((((rw_on.refl _ _).w (by decide) _ _).w (by decide) _ _).w (by decide) _ _).w (by decide) _ _) (by decide) (((((AG.on k5 (by decide)).w _ _ _).w _ _ _).w _ _ _).w _ _ _)
  generalize (am_wI (am_wI (am_wI (am_wI s 51 (o * 4 + i) (nI w)) 52 (o * 4 + i) (nI k)) 53 (o * 4 + i) x4) 50 o (nI (i + 1))) = A at *
  have ho : ri_ords A := by
    obtain ⟨g1, g2⟩ := h9
    unfold ri_ords
    rw [(k5 46 (by decide)).1, (k5 47 (by decide)).1, (k5 48 (by decide)).1, (k5 17 (by decide)).1]
    refine ⟨g1, fun o' ho' => ?_⟩
    obtain ⟨y1, y2, m, y3, y4, y5⟩ := g2 o' ho'
    refine ⟨y1, y2, ?_⟩
    rw [e50 o']
    by_cases z : o' = o
    · subst z
      rw [if_pos rfl]
      have em : i = m := (nI_eq (by omega) (by omega)).mp (ei.symm.trans y4)
      subst em
      refine ⟨i + 1, by omega, rfl, fun i' hi' => ?_⟩
      rw [e51, e52, e53]
      by_cases z2 : i' = i
      · subst z2
        simp only [if_true]
        exact ⟨⟨w, hw1, hw2, rfl⟩, ⟨k, hk, rfl⟩, hx⟩
      · have z3 : ¬ o' * 4 + i' = o' * 4 + i := by omega
        simp only [if_neg z3]
        exact y5 i' (by omega)
    · rw [if_neg z]
      refine ⟨m, y3, y4, fun i' hi' => ?_⟩
      have z3 : ¬ o' * 4 + i' = o * 4 + i := by omega
      rw [e51, e52, e53]
      simp only [if_neg z3]
      exact y5 i' hi'
  exact ⟨hX, tape_on h2 k5 (by decide), now_on h3 k5 (by decide), kinds_on h4 k5 (by decide) (by decide) (by decide) (by decide), fams_on h5 k5 (by decide) (by decide) (by decide), lent_on h6 k5 k6 (by decide) (by decide) (by decide) (by decide) (by decide) (by decide), rings_on h7 k5 (by decide) (by decide) (by decide) (by decide) (by decide) (by decide), figs_on h8 k5 (by decide) (by decide) (by decide) (by decide) (by decide) (by decide) (by decide) (by decide) (by decide) (by decide), ho, RR_on h10 k5 k6 (fun c q1 q2 => by simp; omega) (fun c q1 q2 => by simp; omega) rfl, za_on h11 k5 (by decide), zb_on h12 k6 (by decide), sd_on h13 k5 (by decide), ky_on h14 k6 (by decide)⟩
theorem ld_or {x y : Int64} {e : Nat} : (x ||| y).toBitVec.getLsbD e = (x.toBitVec.getLsbD e || y.toBitVec.getLsbD e) := by
  rw [Int64.toBitVec_or, BitVec.getLsbD_or]
theorem R_lend : lb_lend Rel := by
  intro sw s x1 x2 x3 x4 hs
  obtain ⟨v, s1, s2, k1, k2, k3⟩ := e_lend s x1 x2 x3 x4 hs.q hs.2.2.2.2.1 hs.2.2.2.1 hs.lent.1 hs.2.2.1
  refine ⟨v, s1, s2, k1, k2, ?_⟩
  rcases k3 with rfl | ⟨f, k, a, u, l, hf, hk, hau, hu, hl, el, ea, rfl⟩
  · exact hs
  have hbit : ∀ e, e < 40 → ((lN 1 <<< ((nI u).toInt64 &&& 63)) - (lN 1 <<< ((nI a).toInt64 &&& 63))).toBitVec.getLsbD e = (decide (a ≤ e) && decide (e < u)) := fun e he => ld_bit hau hu he
  generalize ((lN 1 <<< ((nI u).toInt64 &&& 63)) - (lN 1 <<< ((nI a).toInt64 &&& 63))) = M at hbit ⊢
  have hle := hs.lent
  obtain ⟨h1, h2, h3, h4, h5, h6, h7, h8, h9, h10, h11, h12, h13, h14⟩ := hs
  have k5 : rw_on [21, 26] (am_wL (am_wI s 21 6 (nI (l + 1))) 26 (f * 8 + k) (s.2 26 (f * 8 + k) ||| M)) s := ((rw_on.refl _ _).w (by decide) _ _).wl (by decide) _ _
  have k6 : rw_on [58, 88, 89, 90, 91] (am_wI (am_wI (am_wI (am_wI (am_wI s 88 l (nI f)) 89 l (nI k)) 90 l (nI a)) 91 l (nI u)) 58 46 (nI (l + 1))) s := (((((rw_on.refl _ _).w (by decide) _ _).w (by decide) _ _).w (by decide) _ _).w (by decide) _ _).w (by decide) _ _
  have hX0 : rl_x [] s (am_wI (am_wI (am_wI (am_wI s 88 l (nI f)) 89 l (nI k)) 90 l (nI a)) 91 l (nI u)) := (((h1.wb (m := 88) (by decide) (by decide) _ _).wb (m := 89) (by decide) (by decide) _ _).wb (m := 90) (by decide) (by decide) _ _).wb (m := 91) (by decide) (by decide) _ _
  have hX1 := hX0.f2 (c := 21) (k := 6) (m := 46) (by decide) (nI (l + 1))
  have hX : rl_x [] (am_wL (am_wI s 21 6 (nI (l + 1))) 26 (f * 8 + k) (s.2 26 (f * 8 + k) ||| M)) (am_wI (am_wI (am_wI (am_wI (am_wI s 88 l (nI f)) 89 l (nI k)) 90 l (nI a)) 91 l (nI u)) 58 46 (nI (l + 1))) := hX1
  have e0 : (am_wL (am_wI s 21 6 (nI (l + 1))) 26 (f * 8 + k) (s.2 26 (f * 8 + k) ||| M)).1 21 0 = s.1 21 0 := rfl
  have e6 : (am_wL (am_wI s 21 6 (nI (l + 1))) 26 (f * 8 + k) (s.2 26 (f * 8 + k) ||| M)).1 21 6 = nI (l + 1) := rfl
  have e26 : ∀ j, (am_wL (am_wI s 21 6 (nI (l + 1))) 26 (f * 8 + k) (s.2 26 (f * 8 + k) ||| M)).2 26 j = if j = f * 8 + k then (s.2 26 (f * 8 + k) ||| M) else s.2 26 j := fun j => rfl
  have e88 : ∀ j, (am_wI (am_wI (am_wI (am_wI (am_wI s 88 l (nI f)) 89 l (nI k)) 90 l (nI a)) 91 l (nI u)) 58 46 (nI (l + 1))).1 88 j = if j = l then nI f else s.1 88 j := fun j => rfl
  have e89 : ∀ j, (am_wI (am_wI (am_wI (am_wI (am_wI s 88 l (nI f)) 89 l (nI k)) 90 l (nI a)) 91 l (nI u)) 58 46 (nI (l + 1))).1 89 j = if j = l then nI k else s.1 89 j := fun j => rfl
  have e90 : ∀ j, (am_wI (am_wI (am_wI (am_wI (am_wI s 88 l (nI f)) 89 l (nI k)) 90 l (nI a)) 91 l (nI u)) 58 46 (nI (l + 1))).1 90 j = if j = l then nI a else s.1 90 j := fun j => rfl
  have e91 : ∀ j, (am_wI (am_wI (am_wI (am_wI (am_wI s 88 l (nI f)) 89 l (nI k)) 90 l (nI a)) 91 l (nI u)) 58 46 (nI (l + 1))).1 91 j = if j = l then nI u else s.1 91 j := fun j => rfl
  refine Rel.two (A := am_wL (am_wI s 21 6 (nI (l + 1))) 26 (f * 8 + k) (s.2 26 (f * 8 + k) ||| M)) (B := am_wI (am_wI (am_wI (am_wI (am_wI s 88 l (nI f)) 89 l (nI k)) 90 l (nI a)) 91 l (nI u)) 58 46 (nI (l + 1))) (L := [58, 88, 89, 90, 91]) ?_ ((((((rw_on.refl _ _).w (by decide) _ _).w (by decide) _ _).w (by decide) _ _).w (by decide) _ _).w (by decide) _ _) (by decide) ((((((AG.on k5 (by decide)).w _ _ _).w _ _ _).w _ _ _).w _ _ _).w _ _ _)
  have e18 : (am_wI (am_wI (am_wI (am_wI (am_wI s 88 l (nI f)) 89 l (nI k)) 90 l (nI a)) 91 l (nI u)) 58 46 (nI (l + 1))).1 58 18 = s.1 58 18 := rfl
  generalize (am_wL (am_wI s 21 6 (nI (l + 1))) 26 (f * 8 + k) (s.2 26 (f * 8 + k) ||| M)) = A at *
  generalize (am_wI (am_wI (am_wI (am_wI (am_wI s 88 l (nI f)) 89 l (nI k)) 90 l (nI a)) 91 l (nI u)) 58 46 (nI (l + 1))) = B at *
  have hlt : ri_lent (mg A B) := by
    obtain ⟨g1, g2, g3⟩ := hle
    rw [el, nI_cl (by omega)] at g2 g3
    have m6 : (mg A B).1 21 6 = nI (l + 1) := e6
    have m88 : (mg A B).1 88 = B.1 88 := rfl
    have m89 : (mg A B).1 89 = B.1 89 := rfl
    have m90 : (mg A B).1 90 = B.1 90 := rfl
    have m91 : (mg A B).1 91 = B.1 91 := rfl
    have m26 : (mg A B).2 26 = A.2 26 := rfl
    unfold ri_lent
    rw [m6, m88, m89, m90, m91, m26, nI_cl (by omega)]
    refine ⟨⟨l + 1, by omega, rfl⟩, fun i hi => ?_, fun f' k' e hf' hk' he => ?_⟩
    · rw [e88 i, e89 i, e90 i, e91 i]
      by_cases z : i = l
      · simp only [if_pos z]
        exact ⟨f, k, a, u, hf, hk, hau, hu, rfl, rfl, rfl, rfl⟩
      · simp only [if_neg z]
        exact g2 i (by omega)
    · have gg := g3 f' k' e hf' hk' he
      have old : (∃ i, i < l ∧ s.1 88 i = nI f' ∧ s.1 89 i = nI k' ∧ s.1 90 i ≤ nI e ∧ nI e < s.1 91 i) → ∃ i, i < l + 1 ∧ B.1 88 i = nI f' ∧ B.1 89 i = nI k' ∧ B.1 90 i ≤ nI e ∧ nI e < B.1 91 i := by
        rintro ⟨i, hi, y⟩
        refine ⟨i, by omega, ?_⟩
        have z : ¬ i = l := by omega
        rw [e88 i, e89 i, e90 i, e91 i]
        simp only [if_neg z]
        exact y
      rw [e26]
      constructor
      · intro hb
        by_cases z : f' * 8 + k' = f * 8 + k
        · have zf : f' = f := by omega
          have zk : k' = k := by omega
          subst zf; subst zk
          rw [if_pos rfl, ld_or, Bool.or_eq_true] at hb
          rcases hb with hb | hb
          · exact old (gg.mp hb)
          · rw [hbit e he, Bool.and_eq_true, decide_eq_true_eq, decide_eq_true_eq] at hb
            refine ⟨l, by omega, ?_⟩
            rw [e88 l, e89 l, e90 l, e91 l]
            simp only [if_true]
            exact ⟨trivial, trivial, nI_le hb.1 (by omega), nI_lt hb.2 (by omega)⟩
        · rw [if_neg z] at hb
          exact old (gg.mp hb)
      · rintro ⟨i, hi, y⟩
        rw [e88 i, e89 i, e90 i, e91 i] at y
        by_cases z : i = l
        · simp only [if_pos z] at y
          obtain ⟨y1, y2, y3, y4⟩ := y
          have zf : f = f' := (nI_eq (by omega) (by omega)).mp y1
          have zk : k = k' := (nI_eq (by omega) (by omega)).mp y2
          have y3 := (nI_leI (by omega) (by omega)).mp y3
          have y4 := (nI_ltI (by omega) (by omega)).mp y4
          subst zf; subst zk
          rw [if_pos rfl, ld_or, hbit e he, Bool.or_eq_true]
          refine Or.inr ?_
          rw [Bool.and_eq_true, decide_eq_true_eq, decide_eq_true_eq]
          exact ⟨y3, y4⟩
        · simp only [if_neg z] at y
          have hb := gg.mpr ⟨i, by omega, y⟩
          by_cases z2 : f' * 8 + k' = f * 8 + k
          · rw [if_pos z2, ld_or, ← z2, hb, Bool.true_or]
          · rw [if_neg z2]; exact hb
  have hr : ri_rings A := h7.fr (by rw [(k5 32 (by decide)).1]) (k5 33 (by decide)).1 (by rw [(k5 32 (by decide)).1]) (by rw [(k5 17 (by decide)).1]) (k5 36 (by decide)).1 (k5 37 (by decide)).1 e0
  have hg : ri_figs A := h8.fr (by rw [(k5 39 (by decide)).1]) (by rw [(k5 39 (by decide)).1]) (k5 45 (by decide)).1 (by rw [(k5 32 (by decide)).1]) e0 (k5 40 (by decide)).1 (k5 37 (by decide)).1 (k5 42 (by decide)).1 (by rw [(k5 46 (by decide)).1]) (k5 43 (by decide)).1 (k5 48 (by decide)).1
  exact ⟨hX, tape_on h2 k5 (by decide), now_on h3 k5 (by decide), kinds_on h4 k5 (by decide) (by decide) (by decide) (by decide), h5.fr e0 (k5 25 (by decide)).1 (k5 23 (by decide)).1, hlt, hr, hg, ords_on h9 k5 (by decide) (by decide) (by decide) (by decide) (by decide) (by decide) (by decide) (by decide), RR_on h10 k5 k6 (fun c q1 q2 => by simp; omega) (fun c q1 q2 => by simp; omega) e18, za_on h11 k5 (by decide), zb_on h12 k6 (by decide), sd_on h13 k5 (by decide), ky_on h14 k6 (by decide)⟩
theorem R_all : lb_All Rel := ⟨R_feed, R_back, R_read, R_place, R_kind, R_family, R_own, R_lend, R_may, R_season, R_log, R_give, R_lot, R_paint, R_order, R_need, R_box, R_refuse, R_ring, R_figure, R_packed, R_told, R_found, R_rest, R_money, R_load, R_waste, R_count⟩
