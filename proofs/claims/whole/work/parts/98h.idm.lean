/-! ===== the relation is kept: calls that change nothing ===== -/
theorem Rel.q {sw : Bool} {s : am_S} (h : Rel sw s) : rl_q s := ⟨fun p hp => h.1.1 p hp (by simp), h.1.2⟩
theorem Rel.lent {sw : Bool} {s : am_S} (h : Rel sw s) : ri_lent s := by
  have := h.2.2.2.2.2.1
  rw [mg_self] at this
  exact this
theorem R_id {α : Type} {sw : Bool} {F G : am_S → Option (α × am_S)} {s : am_S} (h : Rel sw s) (k : ∃ (v : α) (s1 s2 : am_S), F s = some (v, s1) ∧ G s1 = some (v, s2) ∧ s2 = s) : ∃ (v : α) (s1 s2 : am_S), F s = some (v, s1) ∧ G s1 = some (v, s2) ∧ Rel sw s2 := by
  obtain ⟨v, s1, s2, k1, k2, k3⟩ := k
  exact ⟨v, s1, s2, k1, k2, by rw [k3]; exact h⟩
theorem R_place : lb_place Rel := fun sw s h => R_id (F := fun s => f_X11_place s) (G := fun s => f_X12_place s) h (e_place s h.q)
theorem R_may : lb_may Rel := fun sw s x1 x2 x3 h => R_id (F := fun s => f_X11_may s x1 x2 x3) (G := fun s => f_X12_may s x1 x2 x3) h (g_may s x1 x2 x3 h.q h.2.2.2.2.1 h.2.2.2.1 h.lent)
theorem R_ring : lb_ring Rel := fun sw s x1 x2 h => R_id (F := fun s => f_X11_ring s x1 x2) (G := fun s => f_X12_ring s x1 x2) h (g_ring s x1 x2 h.q h.2.2.2.2.2.2.1.2.2.1)
theorem R_figure : lb_figure Rel := fun sw s x1 x2 h => R_id (F := fun s => f_X11_figure s x1 x2) (G := fun s => f_X12_figure s x1 x2) h (g_figure s x1 x2 h.q h.2.2.2.2.2.2.2.1.1 h.2.2.2.2.2.2.2.1 h.2.2.2.2.2.2.1.2.2.1)
theorem R_packed : lb_packed Rel := fun sw s x1 x2 h => R_id (F := fun s => f_X11_packed s x1 x2) (G := fun s => f_X12_packed s x1 x2) h (g_packed s x1 x2 h.q h.2.2.2.2.2.2.2.2.1.1 h.2.2.2.2.2.2.2.1.1)
theorem R_told : lb_told Rel := fun sw s x1 x2 h => R_id (F := fun s => f_X11_told s x1 x2) (G := fun s => f_X12_told s x1 x2) h (g_told s x1 x2 h.q h.2.2.2.2.2.2.2.2.1)
theorem R_found : lb_found Rel := fun sw s x1 x2 h => R_id (F := fun s => f_X11_found s x1 x2) (G := fun s => f_X12_found s x1 x2) h (g_found s x1 x2 h.q h.2.2.2.2.2.2.2.2.1.1 h.2.2.2.2.2.2.2.1.1)
theorem R_money : lb_money Rel := fun sw s x1 h => R_id (F := fun s => f_X11_money s x1) (G := fun s => f_X12_money s x1) h (g_money s x1 h.q h.2.2.2.2.1.1)
theorem R_load : lb_load Rel := fun sw s x1 x2 h => R_id (F := fun s => f_X11_load s x1 x2) (G := fun s => f_X12_load s x1 x2) h (g_load s x1 x2 h.q h.2.2.2.2.1.1)
theorem R_waste : lb_waste Rel := fun sw s x1 h => R_id (F := fun s => f_X11_waste s x1) (G := fun s => f_X12_waste s x1) h (g_waste s x1 h.q h.2.2.2.2.2.2.1.1)
theorem R_count : lb_count Rel := fun sw s x1 h => R_id (F := fun s => f_X11_count sw s x1) (G := fun s => f_X12_count s x1) h (g_count sw s x1 h.q h.2.2.2.2.2.2.1.2.2.1 h.2.2.2.2.2.2.2.1.1 (by
  obtain ⟨l, T, N, sg, hd, vv, k1, k2, k3, k4, k5⟩ := h.2.2.2.2.2.2.2.2.2.1
  exact ⟨l, k1.2.2.1, k4, by rw [k5, k3]⟩))
/-! ===== the relation is kept: calls of two states ===== -/
theorem R_feed : lb_feed Rel := by
  intro sw s x1 x2 x3 x4 x5 hs
  refine tw3 (F := fun s => f_X11_feed s x1 x2 x3 x4 x5) (G := fun s => f_X12_feed s x1 x2 x3 x4 x5) (La := [1, 2]) (Lb := [58, 59]) (by decide) (by decide) ?_ s hs
  intro a b h
  obtain ⟨h1, h2, h3, h4, h5, h6, h7, h8, h9, h10, h11, h12, h13, h14⟩ := h
  obtain ⟨v, a', b', k1, k2, k3, k4, k5, k6, k7⟩ := m_feed a b x1 x2 x3 x4 x5 h1 h2
  exact ⟨v, a', b', k1, k2, ⟨k3, k4, now_on h3 k5 (by decide), kinds_on h4 k5 (by decide) (by decide) (by decide) (by decide), fams_on h5 k5 (by decide) (by decide) (by decide), lent_on h6 k5 k6 (by decide) (by decide) (by decide) (by decide) (by decide) (by decide), rings_on h7 k5 (by decide) (by decide) (by decide) (by decide) (by decide) (by decide), figs_on h8 k5 (by decide) (by decide) (by decide) (by decide) (by decide) (by decide) (by decide) (by decide) (by decide) (by decide), ords_on h9 k5 (by decide) (by decide) (by decide) (by decide) (by decide) (by decide) (by decide) (by decide), RR_on h10 k5 k6 (fun c q1 q2 => by simp; omega) (fun c q1 q2 => by simp; omega) (k7 18 (by decide)), za_on h11 k5 (by decide), zb_on h12 k6 (by decide), sd_on h13 k5 (by decide), ky_on h14 k6 (by decide)⟩, k5, k6⟩
theorem R_rest : lb_rest Rel := by
  intro sw s x1 x2 hs
  refine tw3 (F := fun s => f_X11_rest s x1 x2) (G := fun s => f_X12_rest s x1 x2) (La := []) (Lb := [117]) (by decide) (by decide) ?_ s hs
  intro a b h
  obtain ⟨h1, h2, h3, h4, h5, h6, h7, h8, h9, h10, h11, h12, h13, h14⟩ := h
  obtain ⟨v, b', k1, k2, k6⟩ := m_rest a b x1 x2 h1 h4 h7 h8
  have k5 : rw_on [] a a := rw_on.refl _ _
  exact ⟨v, a, b', k1, k2, ⟨h1.on k5 k6 (by decide) (by decide) (by decide), h2, h3, h4, h5, lent_on h6 k5 k6 (by decide) (by decide) (by decide) (by decide) (by decide) (by decide), h7, h8, h9, RR_on h10 k5 k6 (fun c q1 q2 => by simp) (fun c q1 q2 => by simp; omega) (congrFun (k6 58 (by decide)).1 18), h11, zb_on h12 k6 (by decide), h13, ky_on h14 k6 (by decide)⟩, k5, k6⟩
theorem R_log : lb_log Rel := by
  intro sw s x1 x2 hs
  refine tw3 (F := fun s => f_X11_log s x1 x2) (G := fun s => f_X12_log s x1 x2) (La := [29, 30, 31, 32, 33, 34, 35, 36, 37, 38]) (Lb := [58, 93, 94, 95, 96, 97, 98, 99, 100, 101]) (by decide) (by decide) ?_ s hs
  intro a b h
  obtain ⟨h1, h2, h3, h4, h5, h6, h7, h8, h9, h10, h11, h12, h13, h14⟩ := h
  obtain ⟨v, a', b', k1, k2, k3, kr, kf, k5, k6, k7⟩ := m_log a b x1 x2 h1 h3 h4 h5 h6 h7 h8
  exact ⟨v, a', b', k1, k2, ⟨k3, tape_on h2 k5 (by decide), now_on h3 k5 (by decide), kinds_on h4 k5 (by decide) (by decide) (by decide) (by decide), fams_on h5 k5 (by decide) (by decide) (by decide), lent_on h6 k5 k6 (by decide) (by decide) (by decide) (by decide) (by decide) (by decide), kr, kf, ords_on h9 k5 (by decide) (by decide) (by decide) (by decide) (by decide) (by decide) (by decide) (by decide), RR_on h10 k5 k6 (fun c q1 q2 => by simp; omega) (fun c q1 q2 => by simp; omega) (k7 18 (by decide) (by decide)), za_on h11 k5 (by decide), zb_on h12 k6 (by decide), sd_on h13 k5 (by decide), ky_on h14 k6 (by decide)⟩, k5, k6⟩
theorem R_paint : lb_paint Rel := by
  intro sw s x1 x2 x3 hs
  refine tw3 (F := fun s => f_X11_paint s x1 x2 x3) (G := fun s => f_X12_paint s x1 x2 x3) (La := [42]) (Lb := [105]) (by decide) (by decide) ?_ s hs
  intro a b h
  obtain ⟨h1, h2, h3, h4, h5, h6, h7, h8, h9, h10, h11, h12, h13, h14⟩ := h
  obtain ⟨v, a', b', k1, k2, k3, k5, k6, k7⟩ := m_paint a b x1 x2 x3 h1 h8
  have hf : ri_figs a' := by
    obtain ⟨g1, g2, g3, g4⟩ := h8
    unfold ri_figs
    rw [(k5 39 (by decide)).1, (k5 45 (by decide)).1, (k5 32 (by decide)).1, (k5 21 (by decide)).1, (k5 40 (by decide)).1, (k5 37 (by decide)).1, (k5 46 (by decide)).1, (k5 43 (by decide)).1, (k5 48 (by decide)).1]
    refine ⟨g1, g2, g3, fun j hj => ?_⟩
    obtain ⟨e1, e2, e3⟩ := g4 j hj
    refine ⟨e1, ?_, e3⟩
    rcases k7 j with q | ⟨l, q1, q2⟩
    · rw [q]; exact e2
    · exact Or.inr ⟨l, q1, q2⟩
  exact ⟨v, a', b', k1, k2, ⟨k3, tape_on h2 k5 (by decide), now_on h3 k5 (by decide), kinds_on h4 k5 (by decide) (by decide) (by decide) (by decide), fams_on h5 k5 (by decide) (by decide) (by decide), lent_on h6 k5 k6 (by decide) (by decide) (by decide) (by decide) (by decide) (by decide), rings_on h7 k5 (by decide) (by decide) (by decide) (by decide) (by decide) (by decide), hf, ords_on h9 k5 (by decide) (by decide) (by decide) (by decide) (by decide) (by decide) (by decide) (by decide), RR_on h10 k5 k6 (fun c q1 q2 => by simp; omega) (fun c q1 q2 => by simp; omega) (congrFun (k6 58 (by decide)).1 18), za_on h11 k5 (by decide), zb_on h12 k6 (by decide), sd_on h13 k5 (by decide), ky_on h14 k6 (by decide)⟩, k5, k6⟩
theorem R_refuse : lb_refuse Rel := by
  intro sw s x1 hs
  refine tw3 (F := fun s => f_X11_refuse s x1) (G := fun s => f_X12_refuse s x1) (La := [43, 44, 24, 48]) (Lb := [106, 107, 86, 111]) (by decide) (by decide) ?_ s hs
  intro a b h
  obtain ⟨h1, h2, h3, h4, h5, h6, h7, h8, h9, h10, h11, h12, h13, h14⟩ := h
  obtain ⟨v, a', b', k1, k2, k3, k5, k6, k7⟩ := m_refuse a b x1 h1 h8 h7.2.2.1 h5.1 h9.1
  have hf : ri_figs a' := by
    obtain ⟨g1, g2, g3, g4⟩ := h8
    unfold ri_figs
    rw [(k5 39 (by decide)).1, (k5 45 (by decide)).1, (k5 32 (by decide)).1, (k5 21 (by decide)).1, (k5 40 (by decide)).1, (k5 37 (by decide)).1, (k5 46 (by decide)).1, (k5 42 (by decide)).1]
    refine ⟨g1, g2, g3, fun j hj => ?_⟩
    obtain ⟨e1, e2, e3⟩ := g4 j hj
    refine ⟨e1, e2, ?_⟩
    rcases k7 with ⟨q1, q2⟩ | ⟨o, q1, q2, q3⟩
    · rw [q1, q2]; exact e3
    · rw [q3 j]
      by_cases z : a.1 43 j = nI o
      · rw [if_pos ⟨hj, z⟩]; exact Or.inl rfl
      · rw [if_neg (fun y => z y.2)]
        rcases e3 with y | ⟨o', y1, y2, y3⟩
        · exact Or.inl y
        · refine Or.inr ⟨o', y1, y2, ?_⟩
          rw [q2 o', if_neg (fun y => z (by rw [y2, y]))]
          exact y3
  have ho : ri_ords a' := by
    obtain ⟨g1, g2⟩ := h9
    unfold ri_ords
    rw [(k5 46 (by decide)).1, (k5 47 (by decide)).1, (k5 50 (by decide)).1, (k5 51 (by decide)).1, (k5 17 (by decide)).1, (k5 52 (by decide)).1, (k5 53 (by decide)).1]
    refine ⟨g1, fun o' ho' => ?_⟩
    obtain ⟨e1, e2, e3⟩ := g2 o' ho'
    refine ⟨e1, ?_, e3⟩
    rcases k7 with ⟨q1, q2⟩ | ⟨o, q1, q2, q3⟩
    · rw [q2]; exact e2
    · rw [q2 o']
      by_cases z : o' = o
      · rw [if_pos z]; exact Or.inr (Or.inr rfl)
      · rw [if_neg z]; exact e2
  exact ⟨v, a', b', k1, k2, ⟨k3, tape_on h2 k5 (by decide), now_on h3 k5 (by decide), kinds_on h4 k5 (by decide) (by decide) (by decide) (by decide), fams_on h5 k5 (by decide) (by decide) (by decide), lent_on h6 k5 k6 (by decide) (by decide) (by decide) (by decide) (by decide) (by decide), rings_on h7 k5 (by decide) (by decide) (by decide) (by decide) (by decide) (by decide), hf, ho, RR_on h10 k5 k6 (fun c q1 q2 => by simp; omega) (fun c q1 q2 => by simp; omega) (congrFun (k6 58 (by decide)).1 18), za_on h11 k5 (by decide), zb_on h12 k6 (by decide), sd_on h13 k5 (by decide), ky_on h14 k6 (by decide)⟩, k5, k6⟩
theorem GI_of {sw : Bool} {a b : am_S} (h : RelM sw a b) : ∃ F e, GI (am_ru sw) a b F e := by
  obtain ⟨h1, h2, h3, h4, h5, h6, h7, h8, h9, h10, h11, h12, h13, h14⟩ := h
  obtain ⟨F, f1, f2⟩ := h5.1
  obtain ⟨e, e1, e2⟩ := h3
  exact ⟨F, e, h1, h10, h11, h12, h6, f2, f1, e2, by omega⟩
theorem R_give : lb_give Rel := by
  intro sw s hs
  have hR := ru_or sw
  refine tw3 (F := fun s => f_X11_give sw s) (G := fun s => f_X12_give s) (La := [57, am_ru sw, am_ru sw + 4, am_ru sw + 5, 27, 37, 38, 39, 40, 41, 42, 43, 44]) (Lb := [58, 92, 97, 98, 102, 103, 104, 105, 106, 107, 108]) (by simp; omega) (by decide) ?_ s hs
  intro a b h
  obtain ⟨F, e, hG⟩ := GI_of h
  obtain ⟨h1, h2, h3, h4, h5, h6, h7, h8, h9, h10, h11, h12, h13, h14⟩ := h
  obtain ⟨v, a', b', k1, k2, k3, kr, kf, ⟨k5, k8, k9⟩, ⟨k6, k7⟩⟩ := m_give sw a b hG h4 h7 h8
  obtain ⟨q1, q2, q3, q4, q5, q6, q7, q8, q9⟩ := k3
  exact ⟨v, a', b', k1, k2, ⟨q1, tape_on h2 k5 (by simp; omega), now_on h3 k5 (by simp; omega), kinds_on h4 k5 (by simp; omega) (by simp; omega) (by simp; omega) (by simp; omega), fams_on h5 k5 (by simp; omega) (by simp; omega) (by simp; omega), q5, kr, kf, ords_on h9 k5 (by simp; omega) (by simp; omega) (by simp; omega) (by simp; omega) (by simp; omega) (by simp; omega) (by simp; omega) (by simp; omega), q2, q3, q4, sd_on h13 k5 (by simp; omega), ky_on h14 k6 (by decide)⟩, k5, k6⟩
theorem R_box : lb_box Rel := by
  intro sw s hs
  have hR := ru_or sw
  refine tw3 (F := fun s => f_X11_box sw s) (G := fun s => f_X12_box s) (La := [24, 43, 44, 48, 49, 55, 56, 57, am_ru sw, am_ru sw + 4, am_ru sw + 5]) (Lb := [86, 102, 103, 106, 107, 111, 112, 117, 118, 119]) (by simp; omega) (by decide) ?_ s hs
  intro a b h
  obtain ⟨F, e, hG⟩ := GI_of h
  obtain ⟨h1, h2, h3, h4, h5, h6, h7, h8, h9, h10, h11, h12, h13, h14⟩ := h
  obtain ⟨v, a', b', k1, k2, k3, kf, ko, ⟨k5, k8⟩, k6⟩ := m_box sw a b hG h4 h7 h8 h9
  obtain ⟨q1, q2, q3, q4, q5, q6, q7, q8, q9⟩ := k3
  exact ⟨v, a', b', k1, k2, ⟨q1, tape_on h2 k5 (by simp; omega), now_on h3 k5 (by simp; omega), kinds_on h4 k5 (by simp; omega) (by simp; omega) (by simp; omega) (by simp; omega), fams_on h5 k5 (by simp; omega) (by simp; omega) (by simp; omega), q5, rings_on h7 k5 (by simp; omega) (by simp; omega) (by simp; omega) (by simp; omega) (by simp; omega) (by simp; omega), kf, ko, q2, q3, q4, sd_on h13 k5 (by simp; omega), ky_on h14 k6 (by decide)⟩, k5, k6⟩
