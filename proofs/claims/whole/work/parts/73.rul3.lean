/-! ===== the rules on the codes' side ===== -/
def md (b : am_S) (M : Nat → Nat → Int32) (v : Nat → Int32) : Prop := b.1 58 = M 58 ∧ (∀ c, 66 ≤ c → c ≤ 79 → b.1 c = M c) ∧ b.1 102 = v
theorem md.on {b b' : am_S} {M : Nat → Nat → Int32} {v : Nat → Int32} (h : md b M v) (ho : rw_on [103] b' b) : md b' M v :=
  ⟨(ho 58 (by simp)).1.trans h.1, fun c h1 h2 => (ho c (by simp; omega)).1.trans (h.2.1 c h1 h2), (ho 102 (by simp)).1.trans h.2.2⟩
section COD
variable {T N l : Nat} {st tk vl v : Nat → Int32} {M : Nat → Nat → Int32}
theorem md_ex {b : am_S} {i n k m : Nat} {X : (Nat → Int32) → Int32} (hm : md b M v) (hx : EX tk vl (M 78) (M 79) i n k m X) (hk : k + m ≤ 1000) : ∃ b', f_X12_value b (nI k) (nI (k + m)) = some (X v, b') ∧ rw_on [103] b' b := by
  obtain ⟨-, -, -, x1, x2, x3⟩ := hx
  exact va_all hk x2 x1 (hm.2.1 78 (by decide) (by decide)) (hm.2.1 79 (by decide) (by decide)) (by rw [hm.2.2]; exact (x3 v).2)
theorem i_200 (l f : Nat) : 200 * nI l + nI f = nI (200 * l + f) := by rw [show (200 : Int32) = nI 200 from rfl, pk_mul, nI_add]
theorem i_20 (l f : Nat) : 20 * nI l + nI f = nI (20 * l + f) := by rw [show (20 : Int32) = nI 20 from rfl, pk_mul, nI_add]
theorem md_hold {ρ f w : Nat} {pp ee : Nat → Nat} {tt : Nat → (Nat → Int32) → Bool} {oo : Nat → Bool} (hl : l < 2) (hρ : ρ < 40) (hw : f + w ≤ 200) (eL : M 58 18 = nI l) (e71 : M 71 ρ = nI (f + w)) (H : ∀ κ, κ < w → RE tk vl M (500 * l) (200 * l + f + κ) (pp κ) (ee κ) (tt κ) ∧ M 77 (200 * l + f + κ) = mc_i (oo κ)) : ∀ (d κ F : Nat) (z : Bool) (b : am_S), d + κ = w → d < F → md b M v → ∃ b', rw_on [103] b' b ∧ (f_X12_holds_L26 F (nI ρ) (mc_i z) (nI (f + κ)) b = some (.inl (1, b')) ∧ k_M oo (fun κ => tt κ v) d κ z = true ∨ f_X12_holds_L26 F (nI ρ) (mc_i z) (nI (f + κ)) b = some (.inr (mc_i (k_M oo (fun κ => tt κ v) d κ z), b'))) := by
  intro d
  induction d with
  | zero =>
    intro κ F z b hd hF hm
    obtain ⟨F', rfl⟩ : ∃ F', F = F' + 1 := ⟨F - 1, by omega⟩
    have ρ2 : am_in (nI ρ) 40 = true := rl_nin (by decide) hρ
    have ρ3 : (nI ρ).toNatClampNeg = ρ := nI_clamp (by omega)
    have d1 : ¬ nI (f + κ) < nI (f + w) := nI_nlt (by omega) (by omega)
    have m71 : b.1 71 ρ = nI (f + w) := by rw [hm.2.1 71 (by decide) (by decide)]; exact e71
    exact ⟨b, rw_on.refl _ _, Or.inr (by simp [f_X12_holds_L26, am_gu, ρ2, ρ3, m71, d1, k_M])⟩
  | succ d ih =>
    intro κ F z b hd hF hm
    obtain ⟨F', rfl⟩ : ∃ F', F = F' + 1 := ⟨F - 1, by omega⟩
    have ρ2 : am_in (nI ρ) 40 = true := rl_nin (by decide) hρ
    have ρ3 : (nI ρ).toNatClampNeg = ρ := nI_clamp (by omega)
    have d1 : nI (f + κ) < nI (f + w) := nI_lt (by omega) (by omega)
    have d4 : nI (f + κ) + 1 = nI (f + (κ + 1)) := nI_1 _
    have m71 : b.1 71 ρ = nI (f + w) := by rw [hm.2.1 71 (by decide) (by decide)]; exact e71
    have mL : b.1 58 18 = nI l := by rw [hm.1]; exact eL
    have ix : 200 * nI l + nI (f + κ) = nI (200 * l + f + κ) := by rw [i_200, Nat.add_assoc]
    have i2 : am_in (nI (200 * l + f + κ)) 400 = true := rl_nin (by decide) (by omega)
    have i3 : (nI (200 * l + f + κ)).toNatClampNeg = 200 * l + f + κ := nI_clamp (by omega)
    obtain ⟨h1, h2⟩ := H κ (by omega)
    have m77 : b.1 77 (200 * l + f + κ) = mc_i (oo κ) := by rw [hm.2.1 77 (by decide) (by decide)]; exact h2
    rw [k_M]
    cases hx : (oo κ && z) with
    | true =>
      rw [Bool.and_eq_true] at hx
      obtain ⟨q1, q2⟩ := hx
      rw [q1] at m77
      have m77 : b.1 77 (200 * l + f + κ) = 1 := m77
      refine ⟨b, rw_on.refl _ _, Or.inl ⟨?_, by rw [if_pos rfl]⟩⟩
      simp [f_X12_holds_L26, am_gu, am_jn, ρ2, ρ3, m71, d1, mL, ix, i2, i3, m77, q2, mc_i]
    | false =>
      rw [if_neg (by decide)]
      cases hy : (oo κ || z) with
      | false =>
        rw [Bool.or_eq_false_iff] at hy
        obtain ⟨q1, q2⟩ := hy
        rw [q1] at m77
        have m77 : b.1 77 (200 * l + f + κ) = 0 := m77
        obtain ⟨b', k1, k2⟩ := ih (κ + 1) F' false b (by omega) (by omega) hm
        rw [Bool.false_and]
        refine ⟨b', k1, ?_⟩
        have st1 : f_X12_holds_L26 (F' + 1) (nI ρ) (mc_i z) (nI (f + κ)) b = f_X12_holds_L26 F' (nI ρ) (mc_i false) (nI (f + (κ + 1))) b := by
          simp [f_X12_holds_L26, am_gu, am_jn, ρ2, ρ3, m71, d1, mL, ix, i2, i3, m77, q2, mc_i, d4]
        rw [st1]
        exact k2
      | true =>
        obtain ⟨n, n', c, m, m', σ, X, Y, r1, r2, r3, r4, r5, r6, r7, r8, r9, r10, r11, r12⟩ := h1
        obtain ⟨b1, g1, g2⟩ := md_ex hm r10 (by omega)
        have hm1 := hm.on g2
        obtain ⟨b2, g3, g4⟩ := md_ex hm1 r11 (by omega)
        have hm2 := hm1.on g4
        have m74 : b.1 74 (200 * l + f + κ) = nI c := by rw [hm.2.1 74 (by decide) (by decide)]; exact r7
        have m75 : b.1 75 (200 * l + f + κ) = nI (c + m) := by rw [hm.2.1 75 (by decide) (by decide)]; exact r8
        have m75' : b1.1 75 (200 * l + f + κ) = nI (c + m) := by rw [hm1.2.1 75 (by decide) (by decide)]; exact r8
        have m76 : b1.1 76 (200 * l + f + κ) = nI (c + m + m') := by rw [hm1.2.1 76 (by decide) (by decide)]; exact r9
        have m73 : b2.1 73 (200 * l + f + κ) = nI σ := by rw [hm2.2.1 73 (by decide) (by decide)]; exact r6
        obtain ⟨b', k1, k2⟩ := ih (κ + 1) F' (tt κ v) b2 (by omega) (by omega) hm2
        rw [Bool.true_and]
        refine ⟨b', k1.trans (g4.trans g2), ?_⟩
        have st1 : f_X12_holds_L26 (F' + 1) (nI ρ) (mc_i z) (nI (f + κ)) b = f_X12_holds_L26 F' (nI ρ) (mc_i (tt κ v)) (nI (f + (κ + 1))) b2 := by
          rw [r12 v]
          have n0 : nI 0 = 0 := rfl
          have n1 : nI 1 = 1 := rfl
          have n2 : nI 2 = 2 := rfl
          have n3 : nI 3 = 3 := rfl
          have m77z : (b.1 77 (200 * l + f + κ) = 1 ∧ mc_i z = 0) ∨ (b.1 77 (200 * l + f + κ) = 0 ∧ mc_i z = 1) := by
            cases ho : oo κ with
            | true =>
              rw [ho] at m77 hx
              have q2 : z = false := by simpa using hx
              exact Or.inl ⟨m77, by rw [q2]; rfl⟩
            | false =>
              rw [ho] at m77 hy
              have q2 : z = true := by simpa using hy
              exact Or.inr ⟨m77, by rw [q2]; rfl⟩
          have hσ : σ = 0 ∨ σ = 1 ∨ σ = 2 ∨ σ = 3 := by omega
          rcases m77z with ⟨q1, q3⟩ | ⟨q1, q3⟩
          · rw [q3]
            rcases hσ with e | e | e | e
            · subst e
              by_cases q : X v = Y v <;> simp [f_X12_holds_L26, am_gu, am_jn, am_bd, ρ2, ρ3, m71, d1, mL, ix, i2, i3, q1, m74, m75, g1, m75', m76, g3, m73, n0, d4, k_S, q, mc_i]
            · subst e
              by_cases q : X v = Y v <;> simp [f_X12_holds_L26, am_gu, am_jn, am_bd, ρ2, ρ3, m71, d1, mL, ix, i2, i3, q1, m74, m75, g1, m75', m76, g3, m73, n1, d4, k_S, q, mc_i]
            · subst e
              by_cases q : X v < Y v <;> simp [f_X12_holds_L26, am_gu, am_jn, am_bd, ρ2, ρ3, m71, d1, mL, ix, i2, i3, q1, m74, m75, g1, m75', m76, g3, m73, n2, d4, k_S, q, mc_i]
            · subst e
              by_cases q : Y v < X v <;> simp [f_X12_holds_L26, am_gu, am_jn, am_bd, ρ2, ρ3, m71, d1, mL, ix, i2, i3, q1, m74, m75, g1, m75', m76, g3, m73, n3, d4, k_S, q, mc_i]
          · rw [q3]
            rcases hσ with e | e | e | e
            · subst e
              by_cases q : X v = Y v <;> simp [f_X12_holds_L26, am_gu, am_jn, am_bd, ρ2, ρ3, m71, d1, mL, ix, i2, i3, q1, m74, m75, g1, m75', m76, g3, m73, n0, d4, k_S, q, mc_i]
            · subst e
              by_cases q : X v = Y v <;> simp [f_X12_holds_L26, am_gu, am_jn, am_bd, ρ2, ρ3, m71, d1, mL, ix, i2, i3, q1, m74, m75, g1, m75', m76, g3, m73, n1, d4, k_S, q, mc_i]
            · subst e
              by_cases q : X v < Y v <;> simp [f_X12_holds_L26, am_gu, am_jn, am_bd, ρ2, ρ3, m71, d1, mL, ix, i2, i3, q1, m74, m75, g1, m75', m76, g3, m73, n2, d4, k_S, q, mc_i]
            · subst e
              by_cases q : Y v < X v <;> simp [f_X12_holds_L26, am_gu, am_jn, am_bd, ρ2, ρ3, m71, d1, mL, ix, i2, i3, q1, m74, m75, g1, m75', m76, g3, m73, n3, d4, k_S, q, mc_i]
        rw [st1]
        exact k2
theorem md_holds {r σ : Nat} {h : (Nat → Int32) → Bool} {val : (Nat → Int32) → Int32} {b : am_S} (hl : l < 2) (hr : r < 20) (eL : M 58 18 = nI l) (hu : RU st tk vl M T l r σ h val) (hm : md b M v) : ∃ b', f_X12_holds b (nI (20 * l + r)) = some (mc_i (h v), b') ∧ rw_on [103] b' b := by
  obtain ⟨s, f, w, tt, pp, ee, oo, u1, u2, u3, u4, u5, u6, u7, u8, u9, u10, u11, u12, u13⟩ := hu
  have ρ2 : am_in (nI (20 * l + r)) 40 = true := rl_nin (by decide) (by omega)
  have ρ3 : (nI (20 * l + r)).toNatClampNeg = 20 * l + r := nI_clamp (by omega)
  have m70 : b.1 70 (20 * l + r) = nI f := by rw [hm.2.1 70 (by decide) (by decide)]; exact u7
  have m71 : b.1 71 (20 * l + r) = nI (f + w) := by rw [hm.2.1 71 (by decide) (by decide)]; exact u8
  rw [u13 v]
  by_cases hw : w = 0
  · have e : nI f = nI (f + w) := by rw [hw, Nat.add_zero]
    refine ⟨b, ?_, rw_on.refl _ _⟩
    rw [decide_eq_true hw, Bool.true_or]
    simp [f_X12_holds, am_gu, ρ2, ρ3, m70, m71, e, mc_i]
  · have e : ¬ nI f = nI (f + w) := nI_ne (by omega) (by omega) (by omega)
    rw [decide_eq_false hw, Bool.false_or]
    obtain ⟨b', g1, g2⟩ := md_hold hl (by omega) u6 eL u8 (fun κ hκ => ⟨(u9 κ hκ).1, (u9 κ hκ).2.2.1⟩) w 0 am_FU false b (by omega) (by unfold am_FU; omega) hm
    refine ⟨b', ?_, g1⟩
    rcases g2 with ⟨g2, g3⟩ | g2
    · have g2 : f_X12_holds_L26 am_FU (nI (20 * l + r)) 0 (nI f) b = some (.inl (1, b')) := g2
      rw [g3]
      simp [f_X12_holds, am_gu, ρ2, ρ3, m70, m71, e, am_lp, g2, mc_i]
    · have g2 : f_X12_holds_L26 am_FU (nI (20 * l + r)) 0 (nI f) b = some (.inr (mc_i (k_M oo (fun κ => tt κ v) w 0 false), b')) := g2
      have g3 : ∀ x : Bool, decide (mc_i x &&& 1 = mc_i x) = true := by decide
      simp [f_X12_holds, am_gu, ρ2, ρ3, m70, m71, e, am_lp, g2]
      generalize k_M oo (fun κ => tt κ v) w 0 false = x
      cases x <;> rfl
theorem md_fv {σ : Nat} {sg : Nat → Nat} {hd : Nat → (Nat → Int32) → Bool} {vv : Nat → (Nat → Int32) → Int32} (h : RS st tk vl M T l N sg hd vv) (eL : M 58 18 = nI l) (eN : M 66 l = nI N) (hσ : σ < 3) (hσ1 : ¬ σ = 1) : ∀ (d r F : Nat) (b : am_S), d + r = N → d < F → md b M v → ∃ b', rw_on [103] b' b ∧ (f_X12_says_L15 F (nI σ) (nI (20 * l + r)) b = some (.inl (fvl sg (fun r => hd r v) (fun r => vv r v) σ d r, b')) ∨ f_X12_says_L15 F (nI σ) (nI (20 * l + r)) b = some (.inr ((), b')) ∧ fvl sg (fun r => hd r v) (fun r => vv r v) σ d r = 0) := by
  obtain ⟨hN, hT, hl, H⟩ := h
  have l2 : am_in (nI l) 2 = true := rl_nin (by decide) hl
  have l3 : (nI l).toNatClampNeg = l := nI_clamp (by omega)
  intro d
  induction d with
  | zero =>
    intro r F b hd hF hm
    obtain ⟨F', rfl⟩ : ∃ F', F = F' + 1 := ⟨F - 1, by omega⟩
    have mL : b.1 58 18 = nI l := by rw [hm.1]; exact eL
    have m66 : b.1 66 l = nI N := by rw [hm.2.1 66 (by decide) (by decide)]; exact eN
    have d1 : ¬ nI (20 * l + r) < nI (20 * l + N) := nI_nlt (by omega) (by omega)
    exact ⟨b, rw_on.refl _ _, Or.inr ⟨by simp [f_X12_says_L15, am_gu, mL, l2, l3, m66, i_20, d1], rfl⟩⟩
  | succ d ih =>
    intro r F b hdd hF hm
    obtain ⟨F', rfl⟩ : ∃ F', F = F' + 1 := ⟨F - 1, by omega⟩
    have mL : b.1 58 18 = nI l := by rw [hm.1]; exact eL
    have m66 : b.1 66 l = nI N := by rw [hm.2.1 66 (by decide) (by decide)]; exact eN
    have d1 : nI (20 * l + r) < nI (20 * l + N) := nI_lt (by omega) (by omega)
    have d2 : am_in (nI (20 * l + r)) 40 = true := rl_nin (by decide) (by omega)
    have d3 : (nI (20 * l + r)).toNatClampNeg = 20 * l + r := nI_clamp (by omega)
    have d4 : nI (20 * l + r) + 1 = nI (20 * l + (r + 1)) := nI_1 _
    have hu := H r (by omega)
    obtain ⟨b1, g1, g2⟩ := md_holds hl (by omega) eL hu hm
    have hm1 := hm.on g2
    obtain ⟨s, f, w, tt, pp, ee, oo, u1, u2, u3, u4, u5, u6, u7, u8, u9, u10, u11, u12, u13⟩ := hu
    have m67 : b.1 67 (20 * l + r) = nI (sg r) := by rw [hm.2.1 67 (by decide) (by decide)]; exact u5
    have skip : fvl sg (fun r => hd r v) (fun r => vv r v) σ (d + 1) r = fvl sg (fun r => hd r v) (fun r => vv r v) σ d (r + 1) → ∀ b1, rw_on [103] b1 b → f_X12_says_L15 (F' + 1) (nI σ) (nI (20 * l + r)) b = f_X12_says_L15 F' (nI σ) (nI (20 * l + (r + 1))) b1 → ∃ b', rw_on [103] b' b ∧ (f_X12_says_L15 (F' + 1) (nI σ) (nI (20 * l + r)) b = some (.inl (fvl sg (fun r => hd r v) (fun r => vv r v) σ (d + 1) r, b')) ∨ f_X12_says_L15 (F' + 1) (nI σ) (nI (20 * l + r)) b = some (.inr ((), b')) ∧ fvl sg (fun r => hd r v) (fun r => vv r v) σ (d + 1) r = 0) := by
      intro q b1 hb1 hq
      obtain ⟨b', k1, k2⟩ := ih (r + 1) F' b1 (by omega) (by omega) (hm.on hb1)
      rw [q, hq]
      exact ⟨b', k1.trans hb1, k2⟩
    by_cases e : sg r = σ
    · rw [e] at m67 u12
      obtain ⟨n, c, m, x1, x2, x3, x4, x5, x6, x7⟩ := u12 hσ1
      cases hb : hd r v with
      | false =>
        rw [hb] at g1
        refine skip (by rw [fvl, if_neg (fun q => by rw [hb] at q; exact absurd q.2 (by decide))]) b1 g2 ?_
        simp [f_X12_says_L15, am_gu, am_jn, am_bd, mL, l2, l3, m66, i_20, d1, d2, d3, m67, g1, mc_i, d4]
      | true =>
        rw [hb] at g1
        have m68 : b1.1 68 (20 * l + r) = nI c := by rw [hm1.2.1 68 (by decide) (by decide)]; exact x5
        have m69 : b1.1 69 (20 * l + r) = nI (c + m) := by rw [hm1.2.1 69 (by decide) (by decide)]; exact x6
        obtain ⟨b2, k1, k2⟩ := md_ex hm1 x1 (by omega)
        refine ⟨b2, k2.trans g2, Or.inl ?_⟩
        rw [fvl, if_pos ⟨e, hb⟩]
        simp [f_X12_says_L15, am_gu, am_jn, am_bd, mL, l2, l3, m66, i_20, d1, d2, d3, m67, g1, mc_i, m68, m69, k1]
    · have e1 : ¬ nI (sg r) = nI σ := nI_ne (by omega) (by omega) e
      refine skip (by rw [fvl, if_neg (fun q => e q.1)]) b (rw_on.refl _ _) ?_
      simp [f_X12_says_L15, am_gu, am_jn, am_bd, mL, l2, l3, m66, i_20, d1, d2, d3, m67, e1, d4]
theorem md_br {sg : Nat → Nat} {hd : Nat → (Nat → Int32) → Bool} {vv : Nat → (Nat → Int32) → Int32} (h : RS st tk vl M T l N sg hd vv) (eL : M 58 18 = nI l) (eN : M 66 l = nI N) : ∀ (d r F : Nat) (b : am_S), d + r = N → d < F → md b M v → ∃ b', rw_on [103] b' b ∧ (f_X12_isBarred_L14 F (nI (20 * l + r)) b = some (.inl (1, b')) ∧ brl sg (fun r => hd r v) d r = true ∨ f_X12_isBarred_L14 F (nI (20 * l + r)) b = some (.inr ((), b')) ∧ brl sg (fun r => hd r v) d r = false) := by
  obtain ⟨hN, hT, hl, H⟩ := h
  have l2 : am_in (nI l) 2 = true := rl_nin (by decide) hl
  have l3 : (nI l).toNatClampNeg = l := nI_clamp (by omega)
  intro d
  induction d with
  | zero =>
    intro r F b hd hF hm
    obtain ⟨F', rfl⟩ : ∃ F', F = F' + 1 := ⟨F - 1, by omega⟩
    have mL : b.1 58 18 = nI l := by rw [hm.1]; exact eL
    have m66 : b.1 66 l = nI N := by rw [hm.2.1 66 (by decide) (by decide)]; exact eN
    have d1 : ¬ nI (20 * l + r) < nI (20 * l + N) := nI_nlt (by omega) (by omega)
    exact ⟨b, rw_on.refl _ _, Or.inr ⟨by simp [f_X12_isBarred_L14, am_gu, mL, l2, l3, m66, i_20, d1], rfl⟩⟩
  | succ d ih =>
    intro r F b hdd hF hm
    obtain ⟨F', rfl⟩ : ∃ F', F = F' + 1 := ⟨F - 1, by omega⟩
    have mL : b.1 58 18 = nI l := by rw [hm.1]; exact eL
    have m66 : b.1 66 l = nI N := by rw [hm.2.1 66 (by decide) (by decide)]; exact eN
    have d1 : nI (20 * l + r) < nI (20 * l + N) := nI_lt (by omega) (by omega)
    have d2 : am_in (nI (20 * l + r)) 40 = true := rl_nin (by decide) (by omega)
    have d3 : (nI (20 * l + r)).toNatClampNeg = 20 * l + r := nI_clamp (by omega)
    have d4 : nI (20 * l + r) + 1 = nI (20 * l + (r + 1)) := nI_1 _
    have hu := H r (by omega)
    obtain ⟨b1, g1, g2⟩ := md_holds hl (by omega) eL hu hm
    obtain ⟨s, f, w, tt, pp, ee, oo, u1, u2, u3, u4, u5, u6⟩ := hu
    have m67 : b.1 67 (20 * l + r) = nI (sg r) := by rw [hm.2.1 67 (by decide) (by decide)]; exact u5
    have skip : brl sg (fun r => hd r v) (d + 1) r = brl sg (fun r => hd r v) d (r + 1) → ∀ b1, rw_on [103] b1 b → f_X12_isBarred_L14 (F' + 1) (nI (20 * l + r)) b = f_X12_isBarred_L14 F' (nI (20 * l + (r + 1))) b1 → ∃ b', rw_on [103] b' b ∧ (f_X12_isBarred_L14 (F' + 1) (nI (20 * l + r)) b = some (.inl (1, b')) ∧ brl sg (fun r => hd r v) (d + 1) r = true ∨ f_X12_isBarred_L14 (F' + 1) (nI (20 * l + r)) b = some (.inr ((), b')) ∧ brl sg (fun r => hd r v) (d + 1) r = false) := by
      intro q b1 hb1 hq
      obtain ⟨b', k1, k2⟩ := ih (r + 1) F' b1 (by omega) (by omega) (hm.on hb1)
      rw [q, hq]
      exact ⟨b', k1.trans hb1, k2⟩
    by_cases e : sg r = 1
    · rw [e] at m67
      have m67 : b.1 67 (20 * l + r) = 1 := m67
      cases hb : hd r v with
      | false =>
        rw [hb] at g1
        refine skip (by rw [brl, if_neg (fun q => by rw [hb] at q; exact absurd q.2 (by decide))]) b1 g2 ?_
        simp [f_X12_isBarred_L14, am_gu, am_jn, am_bd, mL, l2, l3, m66, i_20, d1, d2, d3, m67, g1, mc_i, d4]
      | true =>
        rw [hb] at g1
        refine ⟨b1, g2, Or.inl ⟨?_, by rw [brl, if_pos ⟨e, hb⟩]⟩⟩
        simp [f_X12_isBarred_L14, am_gu, am_jn, am_bd, mL, l2, l3, m66, i_20, d1, d2, d3, m67, g1, mc_i]
    · have e1 : ¬ nI (sg r) = 1 := nI_ne (m := 1) (by omega) (by decide) e
      refine skip (by rw [brl, if_neg (fun q => e q.1)]) b (rw_on.refl _ _) ?_
      simp [f_X12_isBarred_L14, am_gu, am_jn, am_bd, mL, l2, l3, m66, i_20, d1, d2, d3, m67, e1, d4]
end COD
