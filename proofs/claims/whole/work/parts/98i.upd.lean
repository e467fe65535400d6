/-! ===== the relation is kept: read, and calls of a few writes ===== -/
theorem dr_orr (sw : Bool) : (am_dr sw = 5 ∧ am_ru sw = 11) ∨ (am_dr sw = 11 ∧ am_ru sw = 5) := by cases sw <;> decide
theorem R_read : lb_read Rel := by
  intro sw s hs
  have hD := dr_orr sw
  have key : ∀ a b, RelM sw a b → ∃ v sw' a' b', f_X11_read sw a = some ((v, sw'), a') ∧ f_X12_read b = some (v, b') ∧ RelM sw' a' b' ∧ rw_on [0, 1, 3, 4, am_dr sw, am_dr sw + 1, am_dr sw + 2, am_dr sw + 3] a' a ∧ rw_on [58, 60, 61, 62, 63, 64, 66, 67, 68, 69, 70, 71, 72, 73, 74, 75, 76, 77, 78, 79, 80] b' b := by
    intro a b h
    obtain ⟨h1, h2, h3, h4, h5, h6, h7, h8, h9, h10, h11, h12, h13, h14⟩ := h
    obtain ⟨v, sw', a', b', k1, k2, q1, q2, q3, q4, ⟨k5, k7⟩, ⟨k6, k8⟩⟩ := m_read sw a b h1 h2 h10 h13 h14
    exact ⟨v, sw', a', b', k1, k2, ⟨q1, q2, h3.fr (k7 5 (by decide)), kinds_on h4 k5 (by simp; omega) (by simp; omega) (by simp; omega) (by simp; omega), fams_on h5 k5 (by simp; omega) (by simp; omega) (by simp; omega), lent_on h6 k5 k6 (by simp; omega) (by simp; omega) (by decide) (by decide) (by decide) (by decide), rings_on h7 k5 (by simp; omega) (by simp; omega) (by simp; omega) (by simp; omega) (by simp; omega) (by simp; omega), figs_on h8 k5 (by simp; omega) (by simp; omega) (by simp; omega) (by simp; omega) (by simp; omega) (by simp; omega) (by simp; omega) (by simp; omega) (by simp; omega) (by simp; omega), ords_on h9 k5 (by simp; omega) (by simp; omega) (by simp; omega) (by simp; omega) (by simp; omega) (by simp; omega) (by simp; omega) (by simp; omega), q3, za_on h11 k5 (by simp; omega), zb_on h12 k6 (by decide), q4, ky_on h14 k6 (by decide)⟩, k5, k6⟩
  obtain ⟨v, sw', a', b', h1, h2, h3, h4, h5⟩ := key s s hs
  have hs' : RelM sw s a' := RelM.cg hs (fun _ _ => ⟨rfl, rfl⟩) (fun c hc' => h4 c (by simp; omega))
  obtain ⟨v', sw'', a'', b'', k1, k2, k3, k4, k5⟩ := key s a' hs'
  rw [h1] at k1
  have k1 := Option.some.inj k1
  have e2 : v = v' := congrArg (fun x => x.1.1) k1
  have e4 : sw' = sw'' := congrArg (fun x => x.1.2) k1
  have e3 : a' = a'' := congrArg Prod.snd k1
  rw [← e2] at k2
  rw [← e3, ← e4] at k3
  exact ⟨v, sw', a', b'', h1, k2, RelM.cg k3 (fun c hc' => k5 c (by simp; omega)) (fun _ _ => ⟨rfl, rfl⟩)⟩
theorem R_back : lb_back Rel := by
  intro sw s x1 hs
  obtain ⟨v, s1, s2, k1, k2, k3⟩ := e_back s x1 hs.q hs.2.1
  refine ⟨v, s1, s2, k1, k2, ?_⟩
  rcases k3 with rfl | ⟨n, hn, rfl⟩
  · exact hs
  obtain ⟨h1, h2, h3, h4, h5, h6, h7, h8, h9, h10, h11, h12, h13, h14⟩ := hs
  have k5 : rw_on [1] (am_wI s 1 1 (nI n)) s := (rw_on.refl _ _).w (by decide) _ _
  have k6 : rw_on [58] (am_wI s 58 2 (nI n)) s := (rw_on.refl _ _).w (by decide) _ _
  refine Rel.two (A := am_wI s 1 1 (nI n)) (B := am_wI s 58 2 (nI n)) (L := [58]) ?_ ((rw_on.refl _ _).w (by decide) _ _) (by decide) ((AG.on k5 (by decide)).w _ _ _)
  exact ⟨h1.f2 (c := 1) (k := 1) (m := 2) (by decide) _, ⟨n, hn, rfl⟩, now_on h3 k5 (by decide), kinds_on h4 k5 (by decide) (by decide) (by decide) (by decide), fams_on h5 k5 (by decide) (by decide) (by decide), lent_on h6 k5 k6 (by decide) (by decide) (by decide) (by decide) (by decide) (by decide), rings_on h7 k5 (by decide) (by decide) (by decide) (by decide) (by decide) (by decide), figs_on h8 k5 (by decide) (by decide) (by decide) (by decide) (by decide) (by decide) (by decide) (by decide) (by decide) (by decide), ords_on h9 k5 (by decide) (by decide) (by decide) (by decide) (by decide) (by decide) (by decide) (by decide), RR_on h10 k5 k6 (fun c q1 q2 => by simp; omega) (fun c q1 q2 => by simp; omega) rfl, za_on h11 k5 (by decide), zb_on h12 k6 (by decide), sd_on h13 k5 (by decide), ky_on h14 k6 (by decide)⟩
theorem R_season : lb_season Rel := by
  intro sw s hs
  obtain ⟨v, s1, s2, k1, k2, k3⟩ := rl_season s hs.q hs.2.2.1
  refine ⟨v, s1, s2, k1, k2, ?_⟩
  rcases k3 with rfl | ⟨hn, rfl⟩
  · exact hs
  obtain ⟨h1, h2, h3, h4, h5, h6, h7, h8, h9, h10, h11, h12, h13, h14⟩ := hs
  have hnow : rl_n (s.1 0 5 + 1) 39 := by
    obtain ⟨n, q1, q2⟩ := h3
    rw [q2] at hn ⊢
    refine ⟨n + 1, ?_, (nI_add n 1)⟩
    by_cases z : n < 39
    · omega
    · exact absurd hn (nI_nlt (a := n) (b := 39) (by omega) (by omega))
  generalize s.1 0 5 + 1 = x at hnow ⊢
  have k5 : rw_on [0] (am_wI s 0 5 x) s := (rw_on.refl _ _).w (by decide) _ _
  have k6 : rw_on [58] (am_wI s 58 51 x) s := (rw_on.refl _ _).w (by decide) _ _
  refine Rel.two (A := am_wI s 0 5 x) (B := am_wI s 58 51 x) (L := [58]) ?_ ((rw_on.refl _ _).w (by decide) _ _) (by decide) ((AG.on k5 (by decide)).w _ _ _)
  exact ⟨h1.f2 (c := 0) (k := 5) (m := 51) (by decide) _, tape_on h2 k5 (by decide), hnow, kinds_on h4 k5 (by decide) (by decide) (by decide) (by decide), fams_on h5 k5 (by decide) (by decide) (by decide), lent_on h6 k5 k6 (by decide) (by decide) (by decide) (by decide) (by decide) (by decide), rings_on h7 k5 (by decide) (by decide) (by decide) (by decide) (by decide) (by decide), figs_on h8 k5 (by decide) (by decide) (by decide) (by decide) (by decide) (by decide) (by decide) (by decide) (by decide) (by decide), ords_on h9 k5 (by decide) (by decide) (by decide) (by decide) (by decide) (by decide) (by decide) (by decide), RR_on h10 k5 k6 (fun c q1 q2 => by simp; omega) (fun c q1 q2 => by simp; omega) rfl, za_on h11 k5 (by decide), zb_on h12 k6 (by decide), sd_on h13 k5 (by decide), ky_on h14 k6 (by decide)⟩
theorem R_own : lb_own Rel := by
  intro sw s x1 x2 hs
  obtain ⟨v, s1, s2, k1, k2, k3⟩ := e_own s x1 x2 hs.q hs.2.2.2.2.1 hs.2.2.2.1
  refine ⟨v, s1, s2, k1, k2, ?_⟩
  rcases k3 with rfl | ⟨j, rfl⟩
  · exact hs
  obtain ⟨h1, h2, h3, h4, h5, h6, h7, h8, h9, h10, h11, h12, h13, h14⟩ := hs
  have k5 : rw_on [25] (am_wI s 25 j 1) s := (rw_on.refl _ _).w (by decide) _ _
  have k6 : rw_on [87] (am_wI s 87 j 1) s := (rw_on.refl _ _).w (by decide) _ _
  have hfm : ri_fams (am_wI s 25 j 1) := by
    obtain ⟨g1, g2, g3⟩ := h5
    refine ⟨g1, fun i => ?_, g3⟩
    rw [rl_ws]
    by_cases z : i = j
    · exact Or.inr (if_pos z)
    · simp only [if_neg z]; exact g2 i
  refine Rel.two (A := am_wI s 25 j 1) (B := am_wI s 87 j 1) (L := [87]) ?_ ((rw_on.refl _ _).w (by decide) _ _) (by decide) ((AG.on k5 (by decide)).w _ _ _)
  exact ⟨h1.w2 (c := 25) (m := 87) (by decide) _ _, tape_on h2 k5 (by decide), now_on h3 k5 (by decide), kinds_on h4 k5 (by decide) (by decide) (by decide) (by decide), hfm, lent_on h6 k5 k6 (by decide) (by decide) (by decide) (by decide) (by decide) (by decide), rings_on h7 k5 (by decide) (by decide) (by decide) (by decide) (by decide) (by decide), figs_on h8 k5 (by decide) (by decide) (by decide) (by decide) (by decide) (by decide) (by decide) (by decide) (by decide) (by decide), ords_on h9 k5 (by decide) (by decide) (by decide) (by decide) (by decide) (by decide) (by decide) (by decide), RR_on h10 k5 k6 (fun c q1 q2 => by simp; omega) (fun c q1 q2 => by simp; omega) rfl, za_on h11 k5 (by decide), zb_on h12 k6 (by decide), sd_on h13 k5 (by decide), ky_on h14 k6 (by decide)⟩
/-- the relation at the start -/
theorem R_0 : Rel false am_s0 := by
  refine ⟨⟨fun p hp q => ?_, fun p hp => ?_⟩, ⟨0, by decide, rfl⟩, ⟨0, by decide, rfl⟩, ⟨⟨0, by decide, rfl⟩, fun j hj => absurd hj (Nat.not_lt_zero j)⟩, ⟨⟨0, by decide, rfl⟩, fun j => Or.inl rfl, fun j => Or.inl rfl⟩, ?_, ⟨⟨0, by decide, rfl⟩, fun j hj => rfl, ⟨0, by decide, rfl⟩, fun j hj => absurd hj (Nat.not_lt_zero j)⟩, ⟨⟨0, by decide, rfl⟩, ⟨0, by decide, rfl⟩, fun j hj => absurd hj (Nat.not_lt_zero j), fun j hj => absurd hj (Nat.not_lt_zero j)⟩, ⟨⟨0, by decide, rfl⟩, fun j hj => absurd hj (Nat.not_lt_zero j)⟩, ?_, fun j hj => rfl, fun j hj => rfl, ⟨0, by decide, rfl⟩, fun k hk => rfl⟩
  · have d : ∀ p ∈ rl_rows, p.1 ≠ 0 ∧ p.2 ≠ 0 ∧ p.1 ≠ 58 ∧ p.2 ≠ 58 := by decide
    obtain ⟨d1, d2, d3, d4⟩ := d p hp
    funext k
    simp only [am_s0, if_neg d1, if_neg d2, if_neg d3, if_neg d4]
  · have d : ∀ p ∈ rl_flds, am_s0.1 p.1 p.2.1 = am_s0.1 58 p.2.2 := by decide
    exact d p hp
  · rw [mg_self]
    refine ⟨⟨0, by decide, rfl⟩, fun i hi => absurd hi (Nat.not_lt_zero i), fun f k e _ _ _ => ⟨fun h => ?_, fun ⟨i, hi, _⟩ => absurd hi (Nat.not_lt_zero i)⟩⟩
    have e0 : am_s0.2 26 (f * 8 + k) = 0 := rfl
    rw [e0] at h
    simp at h
  · exact ⟨0, 0, 0, fun _ => 0, fun _ _ => false, fun _ _ => 0, ⟨by decide, by decide, by decide, fun r hr => absurd hr (Nat.not_lt_zero r)⟩, rfl, rfl, rfl, rfl⟩
