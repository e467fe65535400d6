/-! ===== the first rule that holds, on both sides ===== -/
def fvl (sg : Nat → Nat) (hd : Nat → Bool) (vv : Nat → Int32) (σ : Nat) : Nat → Nat → Int32
  | 0, _ => 0
  | n + 1, r => if sg r = σ ∧ hd r = true then vv r else fvl sg hd vv σ n (r + 1)
def brl (sg : Nat → Nat) (hd : Nat → Bool) : Nat → Nat → Bool
  | 0, _ => false
  | n + 1, r => if sg r = 1 ∧ hd r = true then true else brl sg hd n (r + 1)
def RS (st tk vl : Nat → Int32) (M : Nat → Nat → Int32) (T l N : Nat) (sg : Nat → Nat) (hd : Nat → (Nat → Int32) → Bool) (vv : Nat → (Nat → Int32) → Int32) : Prop := N ≤ 20 ∧ T ≤ 400 ∧ l < 2 ∧ ∀ r, r < N → RU st tk vl M T l r (sg r) (hd r) (vv r)
section TOK
variable {R T N l : Nat} {st tk vl v : Nat → Int32} {M : Nat → Nat → Int32}
theorem tk_cnd {C f w : Nat} {pp ee : Nat → Nat} {tt : Nat → (Nat → Int32) → Bool} {oo : Nat → Bool} {a : am_S} (hR : R ≤ 11) (hT : T ≤ 400) (hw : w ≤ 200) (hw0 : 0 < w) (ho : oo 0 = true) (H : ∀ κ, κ < w → RE tk vl M C (f + κ) (pp κ) (ee κ) (tt κ) ∧ ee κ < T ∧ (κ + 1 < w → pp (κ + 1) = ee κ + 1 ∧ tk (ee κ) = if oo (κ + 1) then 8 else 7) ∧ (κ + 1 = w → tk (ee κ) = 9)) (hc : cl R a st tk vl T N v) (e5 : a.1 R 5 = nI (pp 0)) : ∃ a', f_X8_condition R a = some (mc_i (k_M oo (fun κ => tt κ v) w 0 false), a') ∧ rs R a' a := by
  obtain ⟨d, rfl⟩ : ∃ d, w = d + 1 := ⟨w - 1, by omega⟩
  obtain ⟨x', y', a', g1, g2, g3⟩ := tk_cond hR hT hw H d 0 am_FU false true a (by omega) (by unfold am_FU; omega) hc e5
  have g1 : f_X8_condition_L7 R am_FU 0 1 0 a = some (.inr ((mc_i x', mc_i y'), a')) := g1
  have g4 := k_eq oo (fun κ => tt κ v) d 0 false
  rw [ho, Bool.and_false, Bool.true_or, ← g2] at g4
  refine ⟨a', ?_, g3⟩
  rw [← g4]
  cases x' <;> cases y' <;> simp [f_X8_condition, am_lp, g1, mc_i]
theorem tk_fv {σ : Nat} {sg : Nat → Nat} {hd : Nat → (Nat → Int32) → Bool} {vv : Nat → (Nat → Int32) → Int32} (hR : R ≤ 11) (h : RS st tk vl M T l N sg hd vv) (hσ : σ < 3) (hσ1 : ¬ σ = 1) : ∀ (d r F : Nat) (a : am_S), d + r = N → d < F → cl R a st tk vl T N v → ∃ a', rs R a' a ∧ (f_X8_firstValue_L2 R F (nI (3 + σ)) (nI r) a = some (.inl (fvl sg (fun r => hd r v) (fun r => vv r v) σ d r, a')) ∨ f_X8_firstValue_L2 R F (nI (3 + σ)) (nI r) a = some (.inr ((), a')) ∧ fvl sg (fun r => hd r v) (fun r => vv r v) σ d r = 0) := by
  obtain ⟨hN, hT, hl, H⟩ := h
  intro d
  induction d with
  | zero =>
    intro r F a hd hF hc
    obtain ⟨F', rfl⟩ : ∃ F', F = F' + 1 := ⟨F - 1, by omega⟩
    have d1 : ¬ nI r < nI N := nI_nlt (by omega) (by omega)
    exact ⟨a, rs.refl _ _, Or.inr ⟨by simp [f_X8_firstValue_L2, hc.2.2.2.2.1, d1], rfl⟩⟩
  | succ d ih =>
    intro r F a hdd hF hc
    obtain ⟨F', rfl⟩ : ∃ F', F = F' + 1 := ⟨F - 1, by omega⟩
    have d1 : nI r < nI N := nI_lt (by omega) (by omega)
    have d2 : am_in (nI r) 20 = true := rl_nin (by decide) (by omega)
    have d3 : (nI r).toNatClampNeg = r := nI_clamp (by omega)
    have d4 : nI r + 1 = nI (r + 1) := nI_1 r
    obtain ⟨s, f, w, tt, pp, ee, oo, u1, u2, u3, u4, u5, u6, u7, u8, u9, u10, u11, u12, u13⟩ := H r (by omega)
    have hc1 := hc.on hR (rs.w5 R a (nI s))
    have t1 := tk_take hT hc1 (p := s) u2 (by simp [rl_wI])
    rw [u4, wI_two] at t1
    have hc2 := hc.on hR (rs.w5 R a (nI (s + 1)))
    have skip : fvl sg (fun r => hd r v) (fun r => vv r v) σ (d + 1) r = fvl sg (fun r => hd r v) (fun r => vv r v) σ d (r + 1) → ∀ a1, rs R a1 a → f_X8_firstValue_L2 R (F' + 1) (nI (3 + σ)) (nI r) a = f_X8_firstValue_L2 R F' (nI (3 + σ)) (nI (r + 1)) a1 → ∃ a', rs R a' a ∧ (f_X8_firstValue_L2 R (F' + 1) (nI (3 + σ)) (nI r) a = some (.inl (fvl sg (fun r => hd r v) (fun r => vv r v) σ (d + 1) r, a')) ∨ f_X8_firstValue_L2 R (F' + 1) (nI (3 + σ)) (nI r) a = some (.inr ((), a')) ∧ fvl sg (fun r => hd r v) (fun r => vv r v) σ (d + 1) r = 0) := by
      intro q a1 ha1 hq
      obtain ⟨a', k1, k2⟩ := ih (r + 1) F' a1 (by omega) (by omega) (hc.on hR ha1)
      rw [q, hq]
      exact ⟨a', k1.trans ha1, k2⟩
    by_cases e : sg r = σ
    · rw [e] at u12 t1
      obtain ⟨n, c, m, x1, x2, x3, x4, x5, x6, x7⟩ := u12 hσ1
      obtain ⟨a2, g1, g2, g3⟩ := tk_ex hR hT hc2 x1 x4 (by simp [rl_wI])
      have hc3 := hc2.on hR g3
      have g4 := tk_take hT hc3 (p := s + 1 + n) x4 g2
      have o3 := (rs.w5 R a2 (nI (s + 1 + n + 1))).trans (g3.trans (rs.w5 R a (nI (s + 1))))
      rcases x7 with ⟨y1, y2⟩ | ⟨y1, y2, y3⟩
      · rw [y1] at g4
        have hh : hd r v = true := by rw [u13 v, y2]; rfl
        refine ⟨_, o3, Or.inl ?_⟩
        rw [fvl, if_pos ⟨e, hh⟩]
        simp [f_X8_firstValue_L2, hc.2.2.2.2.1, d1, am_gu, d2, d3, hc.1, u1, am_bd, am_jn, t1, g1, g4]
      · rw [y1] at g4
        have hc4 := hc3.on hR (rs.w5 R a2 (nI (s + 1 + n + 1)))
        obtain ⟨a3, k1, k2⟩ := tk_cnd hR hT (by omega) y2 u10 (f := 200 * l + f) (fun κ hκ => ⟨(u9 κ hκ).1, (u9 κ hκ).2.1, (u9 κ hκ).2.2.2.1, (u9 κ hκ).2.2.2.2⟩) hc4 (by rw [y3]; simp [rl_wI])
        have hh : hd r v = k_M oo (fun κ => tt κ v) w 0 false := by rw [u13 v, decide_eq_false (by omega), Bool.false_or]
        rw [← hh] at k1
        cases hb : hd r v with
        | true =>
          rw [hb] at k1
          refine ⟨a3, k2.trans o3, Or.inl ?_⟩
          rw [fvl, if_pos ⟨e, hb⟩]
          simp [f_X8_firstValue_L2, hc.2.2.2.2.1, d1, am_gu, d2, d3, hc.1, u1, am_bd, am_jn, t1, g1, g4, k1, mc_i]
        | false =>
          rw [hb] at k1
          refine skip (by rw [fvl, if_neg (fun q => by rw [hb] at q; exact absurd q.2 (by decide))]) a3 (k2.trans o3) ?_
          simp [f_X8_firstValue_L2, hc.2.2.2.2.1, d1, am_gu, d2, d3, hc.1, u1, am_bd, am_jn, t1, g1, g4, k1, mc_i, d4]
    · have e1 : ¬ nI (3 + sg r) = nI (3 + σ) := nI_ne (by omega) (by omega) (by omega)
      refine skip (by rw [fvl, if_neg (fun q => e q.1)]) _ (rs.w5 R a (nI (s + 1))) ?_
      simp [f_X8_firstValue_L2, hc.2.2.2.2.1, d1, am_gu, d2, d3, hc.1, u1, am_bd, am_jn, t1, e1, d4]
theorem tk_fva {σ : Nat} {sg : Nat → Nat} {hd : Nat → (Nat → Int32) → Bool} {vv : Nat → (Nat → Int32) → Int32} {a : am_S} (hR : R ≤ 11) (h : RS st tk vl M T l N sg hd vv) (hσ : σ < 3) (hσ1 : ¬ σ = 1) (hc : cl R a st tk vl T N v) : ∃ a', f_X8_firstValue R a (nI (3 + σ)) = some (fvl sg (fun r => hd r v) (fun r => vv r v) σ N 0, a') ∧ rs R a' a := by
  obtain ⟨a', g1, g2⟩ := tk_fv hR h hσ hσ1 N 0 am_FU a (by omega) (by have := h.1; unfold am_FU; omega) hc
  refine ⟨a', ?_, g1⟩
  rcases g2 with g2 | ⟨g2, g3⟩
  · have g2 : f_X8_firstValue_L2 R am_FU (nI (3 + σ)) 0 a = _ := g2
    simp only [f_X8_firstValue, g2, am_lp]
  · have g2 : f_X8_firstValue_L2 R am_FU (nI (3 + σ)) 0 a = _ := g2
    simp only [f_X8_firstValue, g2, am_lp, g3]
theorem tk_br {sg : Nat → Nat} {hd : Nat → (Nat → Int32) → Bool} {vv : Nat → (Nat → Int32) → Int32} (hR : R ≤ 11) (h : RS st tk vl M T l N sg hd vv) : ∀ (d r F : Nat) (a : am_S), d + r = N → d < F → cl R a st tk vl T N v → ∃ a', rs R a' a ∧ (f_X8_bars_L2 R F (nI r) a = some (.inl (1, a')) ∧ brl sg (fun r => hd r v) d r = true ∨ f_X8_bars_L2 R F (nI r) a = some (.inr ((), a')) ∧ brl sg (fun r => hd r v) d r = false) := by
  obtain ⟨hN, hT, hl, H⟩ := h
  intro d
  induction d with
  | zero =>
    intro r F a hd hF hc
    obtain ⟨F', rfl⟩ : ∃ F', F = F' + 1 := ⟨F - 1, by omega⟩
    have d1 : ¬ nI r < nI N := nI_nlt (by omega) (by omega)
    exact ⟨a, rs.refl _ _, Or.inr ⟨by simp [f_X8_bars_L2, hc.2.2.2.2.1, d1], rfl⟩⟩
  | succ d ih =>
    intro r F a hdd hF hc
    obtain ⟨F', rfl⟩ : ∃ F', F = F' + 1 := ⟨F - 1, by omega⟩
    have d1 : nI r < nI N := nI_lt (by omega) (by omega)
    have d2 : am_in (nI r) 20 = true := rl_nin (by decide) (by omega)
    have d3 : (nI r).toNatClampNeg = r := nI_clamp (by omega)
    have d4 : nI r + 1 = nI (r + 1) := nI_1 r
    obtain ⟨s, f, w, tt, pp, ee, oo, u1, u2, u3, u4, u5, u6, u7, u8, u9, u10, u11, u12, u13⟩ := H r (by omega)
    have hc1 := hc.on hR (rs.w5 R a (nI s))
    have t1 := tk_take hT hc1 (p := s) u2 (by simp [rl_wI])
    rw [u4, wI_two] at t1
    have hc2 := hc.on hR (rs.w5 R a (nI (s + 1)))
    have skip : brl sg (fun r => hd r v) (d + 1) r = brl sg (fun r => hd r v) d (r + 1) → ∀ a1, rs R a1 a → f_X8_bars_L2 R (F' + 1) (nI r) a = f_X8_bars_L2 R F' (nI (r + 1)) a1 → ∃ a', rs R a' a ∧ (f_X8_bars_L2 R (F' + 1) (nI r) a = some (.inl (1, a')) ∧ brl sg (fun r => hd r v) (d + 1) r = true ∨ f_X8_bars_L2 R (F' + 1) (nI r) a = some (.inr ((), a')) ∧ brl sg (fun r => hd r v) (d + 1) r = false) := by
      intro q a1 ha1 hq
      obtain ⟨a', k1, k2⟩ := ih (r + 1) F' a1 (by omega) (by omega) (hc.on hR ha1)
      rw [q, hq]
      exact ⟨a', k1.trans ha1, k2⟩
    by_cases e : sg r = 1
    · obtain ⟨y2, y3⟩ := u11 e
      rw [e] at t1
      have t1 : f_X8_takeToken R (am_wI a R 5 (nI s)) = some (4, am_wI a R 5 (nI (s + 1))) := t1
      obtain ⟨a3, k1, k2⟩ := tk_cnd hR hT (by omega) y2 u10 (f := 200 * l + f) (fun κ hκ => ⟨(u9 κ hκ).1, (u9 κ hκ).2.1, (u9 κ hκ).2.2.2.1, (u9 κ hκ).2.2.2.2⟩) hc2 (by rw [y3]; simp [rl_wI])
      have o3 := k2.trans (rs.w5 R a (nI (s + 1)))
      have hh : hd r v = k_M oo (fun κ => tt κ v) w 0 false := by rw [u13 v, decide_eq_false (by omega), Bool.false_or]
      rw [← hh] at k1
      cases hb : hd r v with
      | true =>
        rw [hb] at k1
        refine ⟨a3, o3, Or.inl ⟨?_, ?_⟩⟩
        · simp [f_X8_bars_L2, hc.2.2.2.2.1, d1, am_gu, d2, d3, hc.1, u1, am_bd, am_jn, t1, k1, mc_i]
        · rw [brl, if_pos ⟨e, hb⟩]
      | false =>
        rw [hb] at k1
        refine skip (by rw [brl, if_neg (fun q => by rw [hb] at q; exact absurd q.2 (by decide))]) a3 o3 ?_
        simp [f_X8_bars_L2, hc.2.2.2.2.1, d1, am_gu, d2, d3, hc.1, u1, am_bd, am_jn, t1, k1, mc_i, d4]
    · have e1 : ¬ nI (3 + sg r) = 4 := nI_ne (m := 4) (by omega) (by decide) (by omega)
      refine skip (by rw [brl, if_neg (fun q => e q.1)]) _ (rs.w5 R a (nI (s + 1))) ?_
      simp [f_X8_bars_L2, hc.2.2.2.2.1, d1, am_gu, d2, d3, hc.1, u1, am_bd, am_jn, t1, e1, d4]
theorem tk_bra {sg : Nat → Nat} {hd : Nat → (Nat → Int32) → Bool} {vv : Nat → (Nat → Int32) → Int32} {a : am_S} (hR : R ≤ 11) (h : RS st tk vl M T l N sg hd vv) (hc : cl R a st tk vl T N v) : ∃ a', f_X8_bars R a = some (mc_i (brl sg (fun r => hd r v) N 0), a') ∧ rs R a' a := by
  obtain ⟨a', g1, g2⟩ := tk_br hR h N 0 am_FU a (by omega) (by have := h.1; unfold am_FU; omega) hc
  refine ⟨a', ?_, g1⟩
  rcases g2 with ⟨g2, g3⟩ | ⟨g2, g3⟩
  · have g2 : f_X8_bars_L2 R am_FU 0 a = _ := g2
    simp only [f_X8_bars, g2, am_lp, g3]
    rfl
  · have g2 : f_X8_bars_L2 R am_FU 0 a = _ := g2
    simp only [f_X8_bars, g2, am_lp, g3]
    rfl
end TOK
