/-! ===== give: the rings that wait, on both sides ===== -/
theorem GI.gr {R F e : Nat} {a b a' b' : am_S} (hR : R ≤ 11) (h : GI R a b F e) (hr : rl_x [] a' b') (ha : rw_on [27, 37, 38, 39, 40, 41, 42, 43, 44] a' a) (hb : rw_on [58, 92, 97, 98, 104, 105, 106, 107, 108] b' b) (h58 : ∀ i, i ≠ 66 → b'.1 58 i = b.1 58 i) : GI R a' b' F e := by
  obtain ⟨-, h2, za, zb, h3, h4, h5, h6, h7⟩ := h
  refine ⟨hr, h2.fr (fun i q1 q2 => (ha (R + i) (by simp; omega)).1) (congrFun (ha R (by simp; omega)).1 2) (congrFun (ha R (by simp; omega)).1 0) (h58 18 (by decide)) (fun c q1 q2 => (hb c (by simp; omega)).1), ?_, ?_, lent_on h3 ha hb (by decide) (by decide) (by decide) (by decide) (by decide) (by decide), ?_, h5, ?_, h7⟩
  · rw [(ha 57 (by decide)).1]; exact za
  · rw [(hb 102 (by decide)).1]; exact zb
  · rw [(ha 21 (by decide)).1]; exact h4
  · rw [(ha 0 (by decide)).1]; exact h6
theorem nI_nm1 {k : Nat} (h : k < 2 ^ 31) : ¬ nI k = -1 := by
  intro z
  have z := congrArg Int32.toInt z
  rw [nI_toInt h] at z
  have z1 : (-1 : Int32).toInt = -1 := rfl
  rw [z1] at z
  omega
def gA (R : Nat) (a' a : am_S) : Prop := rw_on [57, R, R + 4, R + 5, 27, 37, 38, 39, 40, 41, 42, 43, 44] a' a ∧ (∀ k, k ≠ 5 → a'.1 R k = a.1 R k) ∧ a'.1 39 7 = a.1 39 7
def gB (b' b : am_S) : Prop := rw_on [58, 92, 97, 98, 102, 103, 104, 105, 106, 107, 108] b' b ∧ ∀ i, i ≠ 66 → b'.1 58 i = b.1 58 i
theorem gA.refl (R : Nat) (a : am_S) : gA R a a := ⟨rw_on.refl _ _, fun _ _ => rfl, rfl⟩
theorem gA.trans {R : Nat} {x y z : am_S} (h : gA R x y) (h' : gA R y z) : gA R x z := ⟨h.1.trans h'.1, fun k hk => (h.2.1 k hk).trans (h'.2.1 k hk), h.2.2.trans h'.2.2⟩
theorem gB.refl (b : am_S) : gB b b := ⟨rw_on.refl _ _, fun _ _ => rfl⟩
theorem gB.trans {x y z : am_S} (h : gB x y) (h' : gB y z) : gB x z := ⟨h.1.trans h'.1, fun k hk => (h.2 k hk).trans (h'.2 k hk)⟩
theorem gA.sc {R : Nat} {x y : am_S} (hR : R ≤ 11) (h : sc R x y) : gA R x y := ⟨h.1.mono (by simp), h.2, by rw [(h.1 39 (by simp; omega)).1]⟩
theorem gB.sc {x y : am_S} (h : rw_on [102, 103] x y) : gB x y := ⟨h.mono (by decide), fun i _ => by rw [(h 58 (by simp)).1]⟩
theorem gv_loop {sw : Bool} {F e Q : Nat} (hQ : Q ≤ 200) : ∀ (n r : Nat) (acc : Int32) (a b : am_S), GI (am_ru sw) a b F e → ri_kinds a → ri_rings a → ri_figs a → a.1 32 2 = nI Q → r ≤ Q → Q < r + n → ∃ v a' b', f_X11_give_L4 sw n acc (nI r) a = some (.inr (v, a')) ∧ f_X12_give_L4 n acc (nI r) b = some (.inr (v, b')) ∧ GI (am_ru sw) a' b' F e ∧ ri_rings a' ∧ ri_figs a' ∧ gA (am_ru sw) a' a ∧ gB b' b := by
  have hR := ru_or sw
  have hR' : am_ru sw ≤ 11 := by omega
  intro n
  induction n with
  | zero => intro r acc a b h hk hg hf e1 h1 h2; omega
  | succ n ih =>
    intro r acc a b h hk hg hf e1 h1 h2
    obtain ⟨hr, hRR, za, zb, hl, eF, hF, e5, he⟩ := id h
    have em : b.1 58 55 = nI Q := (hr.f (c := 32) (k := 2) (by decide)).trans e1
    by_cases hlt : r < Q
    · have d1 : nI r < nI Q := nI_lt hlt (by omega)
      have d2 : am_in (nI r) 200 = true := rl_nin (by decide) (by omega)
      have d3 : (nI r).toNatClampNeg = r := nI_clamp (by omega)
      have d4 : nI r + 1 = nI (r + 1) := nI_1 r
      have r37 : b.1 97 = a.1 37 := hr.r (by decide) (by simp)
      have r36 : b.1 96 = a.1 36 := hr.r (by decide) (by simp)
      have r19 : b.1 82 = a.1 19 := hr.r (by decide) (by simp)
      obtain ⟨⟨k, q1, q2⟩, q3⟩ := hg.2.2.2 r (by rw [e1, nI_clamp (by omega)]; exact hlt)
      by_cases c1 : a.1 37 r = -1
      · obtain ⟨K, K1, K2⟩ := hk.1
        have hkK : k < K := by rw [K2, nI_clamp (by omega)] at q1; exact q1
        have k2 : am_in (nI k) 8 = true := rl_nin (by decide) (by omega)
        have k3 : (nI k).toNatClampNeg = k := nI_clamp (by omega)
        obtain ⟨-, ⟨w, w1, w2, w3⟩, -⟩ := hk.2 k q1
        obtain ⟨N, N1, N2⟩ := hf.1
        have em66 : b.1 58 66 = nI N := (hr.f (c := 39) (k := 1) (by decide)).trans N2
        have t1 : 400 - nI N = nI (400 - N) := pk_sub (a := 400) N1
        have t2 : nI N + nI w = nI (N + w) := nI_add N w
        by_cases c2 : 400 < N + w
        · have t3 : nI (400 - N) < nI w := nI_lt (by omega) (by omega)
          have t4 : (400 : Int32) < nI (N + w) := nI_lt (a := 400) c2 (by omega)
          obtain ⟨v, a', b', g1, g2, g3⟩ := ih (r + 1) acc a b h hk hg hf e1 (by omega) (by omega)
          exact ⟨v, a', b', by simp [f_X11_give_L4, e1, d1, am_gu, am_jn, d2, d3, c1, q2, k2, k3, N2, w3, t1, t3, d4, g1], by simp [f_X12_give_L4, em, d1, am_gu, am_jn, d2, d3, r37, c1, r36, q2, k2, k3, em66, r19, w3, t2, t4, d4, g2], g3⟩
        · have t3 : ¬ nI (400 - N) < nI w := nI_nlt (by omega) (by omega)
          have t4 : ¬ (400 : Int32) < nI (N + w) := nI_nlt (a := 400) (by omega) (by decide)
          obtain ⟨y, a1, b1, s1, s2, s3, s4, s5, s6⟩ := tf_loop (z1 := acc) (z2 := nI r) (show k < 8 by omega) am_FU 0 (-1) 0 a b h (by omega) (by unfold am_FU; omega) (Or.inl rfl)
          have s1 : f_X11_takerOf_L7 sw am_FU (nI k) (-1) 0 0 a = some (.inr (y, a1)) := s1
          have s2 : f_X12_give_L58 am_FU acc (nI r) (nI k) (-1) 0 0 b = some (.inr (y, b1)) := s2
          have ft : f_X11_takerOf sw a (nI k) = some (y, a1) := by simp only [f_X11_takerOf, s1, am_lp]
          have nn : ∀ c : Nat, 12 ≤ c ∧ c ≤ 56 ∧ c ≠ 15 ∧ c ≠ 16 → a1.1 c = a.1 c := fun c q => (s3.1 c (by simp; omega)).1
          have hg1 : ri_rings a1 := hg.fr (congrFun (s3.1 32 (by simp; omega)).1 0) (s3.1 33 (by simp; omega)).1 (congrFun (s3.1 32 (by simp; omega)).1 2) (congrFun (s3.1 17 (by simp; omega)).1 0) (s3.1 36 (by simp; omega)).1 (s3.1 37 (by simp; omega)).1 (congrFun (s3.1 21 (by simp; omega)).1 0)
          have hk1 : ri_kinds a1 := hk.fr (congrFun (s3.1 17 (by simp; omega)).1 0) (s3.1 18 (by simp; omega)).1 (s3.1 19 (by simp; omega)).1 (s3.1 20 (by simp; omega)).1
          have hf1 : ri_figs a1 := hf.fr (congrFun (s3.1 39 (by simp; omega)).1 1) (congrFun (s3.1 39 (by simp; omega)).1 7) (s3.1 45 (by simp; omega)).1 (congrFun (s3.1 32 (by simp; omega)).1 2) (congrFun (s3.1 21 (by simp; omega)).1 0) (s3.1 40 (by simp; omega)).1 (s3.1 37 (by simp; omega)).1 (s3.1 42 (by simp; omega)).1 (congrFun (s3.1 46 (by simp; omega)).1 0) (s3.1 43 (by simp; omega)).1 (s3.1 48 (by simp; omega)).1
          have e1' : a1.1 32 2 = nI Q := by rw [(s3.1 32 (by simp; omega)).1]; exact e1
          by_cases c3 : y = -1
          · obtain ⟨v, a', b', g1, g2, g3, g4, g5, g6, g7⟩ := ih (r + 1) acc a1 b1 s5 hk1 hg1 hf1 e1' (by omega) (by omega)
            rw [c3] at ft s2
            exact ⟨v, a', b', by simp [f_X11_give_L4, e1, d1, am_gu, am_jn, am_bd, d2, d3, c1, q2, k2, k3, N2, w3, t1, t3, ft, d4, g1], by simp [f_X12_give_L4, em, d1, am_gu, am_jn, am_lp, d2, d3, r37, c1, r36, q2, k2, k3, em66, r19, w3, t2, t4, s2, d4, g2], g3, g4, g5, g6.trans (gA.sc hR' s3), g7.trans (gB.sc s4)⟩
          · obtain ⟨g, hgF, ey⟩ := s6.resolve_left c3
            subst ey
            have i1 : nI g * 40 + nI e = nI (g * 40 + e) := rl_ix2 (w := 40)
            have i1' : 40 * nI g + nI e = nI (g * 40 + e) := rl_ix3 (w := 40)
            have i2 : am_in (nI (g * 40 + e)) 320 = true := rl_nin (by decide) (by omega)
            have i3 : (nI (g * 40 + e)).toNatClampNeg = g * 40 + e := nI_clamp (by omega)
            obtain ⟨hr1, -, -, -, -, -, -, e51, -⟩ := id s5
            have A39 : a1.1 39 1 = nI N := by rw [(s3.1 39 (by simp; omega)).1]; exact N2
            have B66 : b1.1 58 66 = nI N := by rw [(s4 58 (by simp)).1]; exact em66
            have A36 : a1.1 36 r = nI k := by rw [(s3.1 36 (by simp; omega)).1]; exact q2
            have A19 : a1.1 19 k = nI w := by rw [(s3.1 19 (by simp; omega)).1]; exact w3
            have hr2 : rl_x [] (am_wI (am_wI a1 37 r (nI g)) 38 r (nI N)) (am_wI (am_wI b1 97 r (nI g)) 98 r (nI N)) := (hr1.w2 (c := 37) (m := 97) (by decide) _ _).w2 (c := 38) (m := 98) (by decide) _ _
            obtain ⟨a3, b3, y1, y2, y3, y4, y5, y6, y7, y8, y9, y10⟩ := cv_loop (y := nI g) (z1 := acc) (e := e) (show r < 200 by omega) (show k < 8 by omega) w2 am_FU 0 N _ _ hr2 A39 e51 A19 (by omega) (by omega) (by unfold am_FU; omega)
            have y1 : f_X11_carve_L47 am_FU (nI r) (nI g) (nI w) 0 (am_wI (am_wI a1 37 r (nI g)) 38 r (nI N)) = some (.inr ((), a3)) := y1
            have y2 : f_X12_give_L164 am_FU acc (nI r) (nI k) (nI g) 0 (am_wI (am_wI b1 97 r (nI g)) 98 r (nI N)) = some (.inr ((), b3)) := y2
            rw [show N + (w - 0) = N + w by omega] at y4 y7
            have E05 : a3.1 0 5 = nI e := by rw [(y8 0 (by decide)).1]; exact e51
            have E51 : b3.1 58 51 = nI e := (y3.f (c := 0) (k := 5) (by decide)).trans E05
            have R27 : b3.1 92 = a3.1 27 := y3.r (by decide) (by simp)
            have R82 : b3.1 82 k = nI w := by rw [y3.r (c := 19) (m := 82) (by decide) (by simp), (y8 19 (by decide)).1]; exact A19
            generalize hx4 : a3.1 27 (g * 40 + e) + nI w = x4
            have hr4 : rl_x [] (am_wI a3 27 (g * 40 + e) x4) (am_wI b3 92 (g * 40 + e) x4) := y3.w2 (c := 27) (m := 92) (by decide) _ _
            have fc : f_X11_carve a1 (nI r) (nI g) = some ((), am_wI a3 27 (g * 40 + e) x4) := by
              simp only [f_X11_carve, rl_gu d2, d3, A36, rl_gu k2, k3, A19, A39, y1, am_lp, f_X2_addCarved, E05, i1, rl_gu i2, i3, rl_bd, hx4]
            have oA : rw_on [27, 37, 38, 39, 40, 41, 42, 43, 44] (am_wI a3 27 (g * 40 + e) x4) a1 := ((y8.mono (by decide)).w (by decide) _ _).trans (((rw_on.refl _ _).w (by decide) _ _).w (by decide) _ _)
            have oB : rw_on [58, 92, 97, 98, 104, 105, 106, 107, 108] (am_wI b3 92 (g * 40 + e) x4) b1 := ((y9.mono (by decide)).w (by decide) _ _).trans (((rw_on.refl _ _).w (by decide) _ _).w (by decide) _ _)
            have o58 : ∀ i, i ≠ 66 → (am_wI b3 92 (g * 40 + e) x4).1 58 i = b1.1 58 i := fun i hi => y10 i hi
            have hG := s5.gr hR' hr4 oA oB o58
            have z37 : ∀ j, (am_wI a3 27 (g * 40 + e) x4).1 37 j = if j = r then nI g else a1.1 37 j := by
              intro j
              show a3.1 37 j = _
              rw [(y8 37 (by decide)).1]
              simp [rl_wI]
            have hg4 : ri_rings (am_wI a3 27 (g * 40 + e) x4) := by
              refine ⟨?_, ?_, ?_, fun j hj => ?_⟩
              · rw [(oA 32 (by decide)).1]; exact hg1.1
              · rw [(oA 32 (by decide)).1, (oA 33 (by decide)).1]; exact hg1.2.1
              · rw [(oA 32 (by decide)).1]; exact hg1.2.2.1
              · rw [(oA 32 (by decide)).1] at hj
                rw [(oA 17 (by decide)).1, (oA 36 (by decide)).1, (oA 21 (by decide)).1, z37]
                obtain ⟨p1, p2⟩ := hg1.2.2.2 j hj
                refine ⟨p1, ?_⟩
                by_cases ej : j = r
                · rw [if_pos ej]
                  have eF1 : a1.1 21 0 = nI F := by rw [(s3.1 21 (by simp; omega)).1]; exact eF
                  exact Or.inr ⟨g, by rw [eF1, nI_clamp (by omega)]; exact hgF, rfl⟩
                · rw [if_neg ej]; exact p2
            have hf4 : ri_figs (am_wI a3 27 (g * 40 + e) x4) := by
              have Z40 : ∀ j, (am_wI a3 27 (g * 40 + e) x4).1 40 j = a3.1 40 j := fun _ => rfl
              have Z42 : ∀ j, (am_wI a3 27 (g * 40 + e) x4).1 42 j = a3.1 42 j := fun _ => rfl
              have Z43 : ∀ j, (am_wI a3 27 (g * 40 + e) x4).1 43 j = a3.1 43 j := fun _ => rfl
              have Z391 : (am_wI a3 27 (g * 40 + e) x4).1 39 1 = nI (N + w) := y4
              have Z397 : (am_wI a3 27 (g * 40 + e) x4).1 39 7 = a1.1 39 7 := y5
              have eF1 : a1.1 21 0 = nI F := by rw [(s3.1 21 (by simp; omega)).1]; exact eF
              have C37 : a1.1 37 r = -1 := by rw [(s3.1 37 (by simp; omega)).1]; exact c1
              refine ⟨⟨N + w, by omega, Z391⟩, ?_, ?_, fun j hj => ?_⟩
              · rw [Z397]; exact hf1.2.1
              · rw [Z397, (oA 45 (by decide)).1]; exact hf1.2.2.1
              · rw [Z391, nI_clamp (by omega)] at hj
                rw [Z397, (oA 32 (by decide)).1, (oA 21 (by decide)).1, (oA 46 (by decide)).1, (oA 48 (by decide)).1, Z40, Z42, Z43]
                by_cases q : j < N
                · obtain ⟨p1, p2, p3⟩ := y6 j q
                  have p1 : a3.1 40 j = a1.1 40 j := p1
                  have p2 : a3.1 42 j = a1.1 42 j := p2
                  have p3 : a3.1 43 j = a1.1 43 j := p3
                  rw [p1, p2, p3]
                  obtain ⟨⟨rr, ff, u1, u2, u3, u4⟩, u5⟩ := hf1.2.2.2 j (by rw [A39, nI_clamp (by omega)]; exact q)
                  refine ⟨⟨rr, ff, u1, u2, u3, ?_⟩, u5⟩
                  rw [z37, if_neg]
                  · exact u4
                  · intro er
                    rw [er, C37] at u4
                    rw [eF1, nI_clamp (by omega)] at u2
                    exact nI_nm1 (by omega) u4.symm
                · obtain ⟨p1, p2, p3⟩ := y7 j (by omega) hj
                  rw [p1, p2, p3]
                  refine ⟨⟨r, g, by rw [e1', nI_clamp (by omega)]; exact hlt, by rw [eF1, nI_clamp (by omega)]; exact hgF, rfl, by rw [z37, if_pos rfl]⟩, Or.inl rfl, Or.inl rfl⟩
            have hk4 : ri_kinds (am_wI a3 27 (g * 40 + e) x4) := hk1.fr (congrFun (oA 17 (by decide)).1 0) (oA 18 (by decide)).1 (oA 19 (by decide)).1 (oA 20 (by decide)).1
            have e4 : (am_wI a3 27 (g * 40 + e) x4).1 32 2 = nI Q := by rw [(oA 32 (by decide)).1]; exact e1'
            obtain ⟨v, a', b', g1, g2, g3, g4, g5, g6, g7⟩ := ih (r + 1) (acc + 1) _ _ hG hk4 hg4 hf4 e4 (by omega) (by omega)
            have nR : am_ru sw ∉ [27, 37, 38, 39, 40, 41, 42, 43, 44] := by simp; omega
            have gA4 : gA (am_ru sw) (am_wI a3 27 (g * 40 + e) x4) a1 := ⟨oA.mono (by simp), fun k _ => by rw [(oA (am_ru sw) nR).1], y5⟩
            have gB4 : gB (am_wI b3 92 (g * 40 + e) x4) b1 := ⟨oB.mono (by decide), o58⟩
            refine ⟨v, a', b', ?_, ?_, g3, g4, g5, g6.trans (gA4.trans (gA.sc hR' s3)), g7.trans (gB4.trans (gB.sc s4))⟩
            · simp [f_X11_give_L4, e1, d1, am_gu, am_jn, am_bd, d2, d3, c1, q2, k2, k3, N2, w3, t1, t3, ft, c3, fc, d4, g1]
            · simp [f_X12_give_L4, em, d1, am_gu, am_jn, am_lp, d2, d3, r37, c1, r36, q2, k2, k3, em66, r19, w3, t2, t4, s2, c3, B66, y2, E51, i1', i2, i3, R27, R82, hx4, d4, g2]
      · obtain ⟨v, a', b', g1, g2, g3⟩ := ih (r + 1) acc a b h hk hg hf e1 (by omega) (by omega)
        exact ⟨v, a', b', by simp [f_X11_give_L4, e1, d1, am_gu, am_jn, d2, d3, c1, d4, g1], by simp [f_X12_give_L4, em, d1, am_gu, am_jn, d2, d3, r37, c1, d4, g2], g3⟩
    · have d1 : ¬ nI r < nI Q := nI_nlt (by omega) (by omega)
      exact ⟨acc, a, b, by simp [f_X11_give_L4, e1, d1], by simp [f_X12_give_L4, em, d1], h, hg, hf, gA.refl _ _, gB.refl _⟩
theorem m_give (sw : Bool) {F e : Nat} (a b : am_S) (h : GI (am_ru sw) a b F e) (hk : ri_kinds a) (hg : ri_rings a) (hf : ri_figs a) : ∃ v a' b', f_X11_give sw a = some (v, a') ∧ f_X12_give b = some (v, b') ∧ GI (am_ru sw) a' b' F e ∧ ri_rings a' ∧ ri_figs a' ∧ gA (am_ru sw) a' a ∧ gB b' b := by
  obtain ⟨Q, Q1, Q2⟩ := hg.2.2.1
  obtain ⟨v, a', b', g1, g2, g3⟩ := gv_loop Q1 am_FU 0 0 a b h hk hg hf Q2 (by omega) (by unfold am_FU; omega)
  have g1 : f_X11_give_L4 sw am_FU 0 0 a = some (.inr (v, a')) := g1
  have g2 : f_X12_give_L4 am_FU 0 0 b = some (.inr (v, b')) := g2
  exact ⟨v, a', b', by simp only [f_X11_give, g1, am_lp], by simp only [f_X12_give, g2, am_lp], g3⟩
