/-! ===== a rule is read on both sides: all of it ===== -/
section RUD
variable {C : Nat → Nat} {n : Nat} {K : Nat → Nat} {V : Nat → Int32} {P X : Nat → Nat} {D T l : Nat}
/-- the rule's meaning, from its pieces -/
theorem ru_mk (hK : TT C n T K V P X) {N i j0 c0 c κ ρ σ : Nat} {h : Bool} {p0 : Nat} {a1 b' : am_S} {st : Nat → Int32} (hσ : σ < 3) (hi : i < j0 + 1) (hst : st ρ = nI i) (htk : tkI K i = nI (3 + σ)) (e67 : b'.1 67 (20 * l + ρ) = nI σ) (e70 : b'.1 70 (20 * l + ρ) = nI κ) (hT : TO D C n K V P X T l κ ρ N h j0 c p0 a1 b') (hs1 : σ = 1 → h = true ∧ p0 = i + 1) (hs0 : ¬ σ = 1 → ∀ (c' w : Nat), c ≤ c' → ∃ (m k : Nat) (val : (Nat → Int32) → Int32), EX (tkI K) V (b'.1 78) (b'.1 79) (i + 1) m c0 k val ∧ 500 * l ≤ c0 ∧ c0 + k ≤ c ∧ i + 1 + m = j0 ∧ b'.1 68 (20 * l + ρ) = nI c0 ∧ b'.1 69 (20 * l + ρ) = nI (c0 + k) ∧ (h = false ∧ tkI K j0 = 9 ∨ h = true ∧ tkI K j0 = 6 ∧ p0 = j0 + 1)) : ∃ (a' : am_S) (j c' w sd : Nat) (hh : (Nat → Int32) → Bool) (val : (Nat → Int32) → Int32), PLc D j0 a1 = PLc D (j + 1) a' ∧ cA D a' a1 ∧ (∀ x, a'.1 (D + 1) x = a1.1 (D + 1) x) ∧ j0 ≤ j ∧ c ≤ c' ∧ sd < 3 ∧ PS D C n K V X a' (j + 1) 0 sd 0 N ∧ MS K V P T l b' (j + 1) 0 c' ∧ c' ≤ 500 * l + j ∧ j + 1 < T ∧ j + 1 ≤ 400 ∧ b'.1 72 l = nI (κ + w) ∧ b'.1 66 l = nI (ρ + 1) ∧ 3 * (κ + w) ≤ j ∧ RUb st (tkI K) V b'.1 (j + 1) l c' (κ + w) ρ σ hh val := by
  obtain ⟨a', j, c', w, sd, tt, pp, ee, oo, k1, k2, k3, k4, k5, k6, k7, k8, k9, k10, k11, k12, k13, k14, k15, k16, k17, k18, k19⟩ := hT
  have tk9 : tkI K j = 9 := by unfold tkI; rw [k12]; rfl
  have data : ∀ κ', κ' < w → REb (tkI K) V b'.1 (500 * l) c' (200 * l + κ + κ') (pp κ') (ee κ') (tt κ') ∧ ee κ' < j + 1 ∧ b'.1 77 (200 * l + κ + κ') = mc_i (oo κ') ∧ (κ' + 1 < w → pp (κ' + 1) = ee κ' + 1 ∧ tkI K (ee κ') = if oo (κ' + 1) then 8 else 7) ∧ (κ' + 1 = w → tkI K (ee κ') = 9) := by
    intro κ' hκ
    obtain ⟨d1, d2, d3⟩ := k17 κ' hκ
    have hh : h = true := by
      cases h with
      | true => rfl
      | false => have := (k18 rfl).1; omega
    obtain ⟨w1, w2, -⟩ := k19 hh
    have := k17.le (w - 1 - κ') κ' (by omega)
    refine ⟨d1, by omega, d2, d3, fun q => ?_⟩
    rw [show κ' = w - 1 by omega, w2]
    exact tk9
  have oo0 : ∀ o : Nat → Bool, (0 < w → o 0 = true) → ∃ o', o' 0 = true ∧ (0 < w → o' = o) := by
    intro o ho
    by_cases q : 0 < w
    · exact ⟨o, ho q, fun _ => rfl⟩
    · exact ⟨fun _ => true, rfl, fun y => absurd y q⟩
  have ho : 0 < w → oo 0 = true := by
    intro q
    cases h with
    | true => exact (k19 rfl).2.2.2
    | false => have := (k18 rfl).1; omega
  obtain ⟨o', o1, o2⟩ := oo0 oo ho
  have data' : ∀ κ', κ' < w → REb (tkI K) V b'.1 (500 * l) c' (200 * l + κ + κ') (pp κ') (ee κ') (tt κ') ∧ ee κ' < j + 1 ∧ b'.1 77 (200 * l + κ + κ') = mc_i (o' κ') ∧ (κ' + 1 < w → pp (κ' + 1) = ee κ' + 1 ∧ tkI K (ee κ') = if o' (κ' + 1) then 8 else 7) ∧ (κ' + 1 = w → tkI K (ee κ') = 9) := by
    intro κ' hκ
    rw [o2 (by omega)]
    exact data κ' hκ
  by_cases e : σ = 1
  · obtain ⟨q1, q2⟩ := hs1 e
    obtain ⟨w1, w2, w3, w4⟩ := k19 q1
    refine ⟨a', j, c', w, sd, _, fun _ => 0, k1, k2, k3, k4, k5, k6, k7, k8, k9, k10, k11, k13, k15, k16, i, κ, w, tt, pp, ee, o', hst, by omega, hσ, htk, e67, Nat.le_refl _, e70, k14, data', o1, fun _ => ⟨w1, by rw [w3]; exact q2⟩, fun q => absurd e q, fun v => rfl⟩
  · obtain ⟨m, k, val, x1, x2, x3, x4, x5, x6, x7⟩ := hs0 e c' w k5
    refine ⟨a', j, c', w, sd, _, val, k1, k2, k3, k4, k5, k6, k7, k8, k9, k10, k11, k13, k15, k16, i, κ, w, tt, pp, ee, o', hst, by omega, hσ, htk, e67, Nat.le_refl _, e70, k14, data', o1, fun q => absurd q e, fun _ => ⟨m, c0, k, x1, x2, by omega, by omega, x5, x6, ?_⟩, fun v => rfl⟩
    rw [x4]
    rcases x7 with ⟨y1, y2⟩ | ⟨y1, y2, y3⟩
    · exact Or.inl ⟨y2, (k18 y1).1⟩
    · obtain ⟨w1, w2, w3, w4⟩ := k19 y1
      exact Or.inr ⟨y2, w1, by rw [w3]; exact y3⟩
theorem tr_all (hD : D = 5 ∨ D = 11) (hT : TT C n T K V P X) (hnx : ∀ s, s < T → K s ≠ 0 → s < 400 → s + 1 < T) (hl : l < 2) {N i c κ sd : Nat} (hN : N ≤ 20) (hs : sd < 3) {a b : am_S} (h1 : PS D C n K V X a i 0 sd 0 N) (h2 : MS K V P T l b i 0 c) (hb : c ≤ 500 * l + i) (hc : 500 * l ≤ c) (hi : i < T) (hi4 : i ≤ 400) (hK0 : K i ≠ 0) (e72 : b.1 72 l = nI κ) (e66 : b.1 66 l = nI N) (hw : 3 * κ ≤ i) : ∃ b', f_X12_tellRule b = some ((), b') ∧ uG c κ N l b' b ∧ (FO D P i a b' ∨ UO D C n K V P X T l i c κ N a b') := by
  have hK := (hT i hi).2
  by_cases hk : K i = 20 ∨ K i = 22 ∨ K i = 23
  · have hgo : goes 0 sd 0 (cm (K i)) = true := by rcases hk with q | q | q <;> rw [q] <;> rfl
    have w5 : cm (K i) ≠ 17 := by rcases hk with q | q | q <;> rw [q] <;> decide
    have w6 : cm (K i) ≠ 18 := by rcases hk with q | q | q <;> rw [q] <;> decide
    by_cases h20 : N = 20
    · subst h20
      have fo : FO D P i a (am_wI (am_wI b 58 13 2) 58 14 (nI (P i))) := fo_room hD hT h1 hi hi4 (by decide) hs (by decide) hN hgo (Or.inr (Or.inl ⟨rfl, rfl⟩)) (by simp [rl_wI]) (by simp [rl_wI])
      exact ⟨_, tr_full hT hl h2 hi hi4 e66 hk, uG.of (rG.of ((cG.f (c := c) (l := l) (i := 14) (by simp) _).trans (cG.f (c := c) (l := l) (b := b) (i := 13) (by simp) 2) (Nat.le_refl _))), Or.inl fo⟩
    · have hN20 : N < 20 := by omega
      obtain ⟨σ, hσ⟩ : ∃ σ, K i = 20 ∧ σ = 0 ∨ K i = 22 ∧ σ = 1 ∨ K i = 23 ∧ σ = 2 := by
        rcases hk with q | q | q
        · exact ⟨0, Or.inl ⟨q, rfl⟩⟩
        · exact ⟨1, Or.inr (Or.inl ⟨q, rfl⟩)⟩
        · exact ⟨2, Or.inr (Or.inr ⟨q, rfl⟩)⟩
      have σ3 : σ < 3 := by omega
      have htk : tkI K i = nI (3 + σ) := by
        unfold tkI
        rcases hσ with ⟨q, q'⟩ | ⟨q, q'⟩ | ⟨q, q'⟩ <;> rw [q, q'] <;> rfl
      have w3 : mq 0 (cm (K i)) = 1 := by rcases hk with q | q | q <;> rw [q] <;> rfl
      have w4 : ms sd (cm (K i)) = if σ = 1 then 1 else 0 := by
        rcases hσ with ⟨q, q'⟩ | ⟨q, q'⟩ | ⟨q, q'⟩ <;> rw [q, q'] <;> rfl
      have bg := tr_begin hT hl hN20 h2 hi hi4 e66 hσ
      generalize hb1 : am_wI b 67 (20 * l + N) (nI σ) = b1 at bg
      have o1 : rw_on [67] b1 b := by rw [← hb1]; exact (rw_on.refl _ _).w (by simp) _ _
      have G1 : uG c κ N l b1 b := by rw [← hb1]; exact uG.w (by omega) hN20 _
      have hM1 : MS K V P T l b1 i 0 c := by
        obtain ⟨y1, y2, y3, y4, y5, y6⟩ := h2
        exact ⟨by rw [(o1 58 (by simp)).1]; exact y1, by rw [(o1 58 (by simp)).1]; exact y2, by rw [(o1 58 (by simp)).1]; exact y3, by rw [(o1 58 (by simp)).1]; exact y4, by rw [(o1 58 (by simp)).1]; exact y5, y6.on o1 (by simp) (by simp) (by simp)⟩
      have q67 : b1.1 67 (20 * l + N) = nI σ := by rw [← hb1]; simp [rl_wI]
      have x2 : am_in (nI (20 * l + N)) 40 = true := rl_nin (by decide) (by omega)
      have x3 : (nI (20 * l + N)).toNatClampNeg = 20 * l + N := nI_clamp (by omega)
      by_cases i400 : i = 400
      · have nx := next_E (by rw [i400] at hM1; exact hM1) (by omega)
        have fo : FO D P i a (am_wI (am_wI b1 58 13 2) 58 14 (nI (P 400))) := fo_room hD hT h1 hi hi4 (by decide) hs (by decide) hN hgo (Or.inl i400) (by simp [rl_wI]) (by rw [i400]; simp [rl_wI])
        obtain ⟨b', g1, g2, g3, g4⟩ := t2_F (c := c) (κ := κ) (b := am_wI (am_wI b1 58 13 2) 58 14 (nI (P 400))) hl hN20 (by simp [rl_wI]; exact hM1.2.2.2.2.1) fo.ne.2
        refine ⟨b', by rw [bg, bd_some nx]; exact g1, ?_, Or.inl (fo.on g3 g4)⟩
        exact (g2.trans (uG.of (rG.of ((cG.f (c := c) (l := l) (i := 14) (by simp) _).trans (cG.f (c := c) (l := l) (b := b1) (i := 13) (by simp) 2) (Nat.le_refl _)))) (Nat.le_refl _) (Nat.le_refl _) (Nat.le_refl _)).trans G1 (Nat.le_refl _) (Nat.le_refl _) (Nat.le_refl _)
      · have nx := next_M hM1 (by omega)
        obtain ⟨a1, p1, p2, p3, p4⟩ := pl_go hD hT h1 hi hi4 (by decide) hs (by decide) hN hgo (by
          rintro (y | ⟨-, y⟩ | ⟨y, -⟩)
          · exact i400 y
          · exact h20 y
          · exact w5 y) (fun y => absurd y w6)
        rw [w3, w4, ml_n w5 w6, if_pos rfl] at p2
        have p4 : ∀ x, a1.1 (D + 1) x = if x = N then nI i else a.1 (D + 1) x := fun x => by
          rw [p4 x]
          by_cases q : x = N
          · rw [if_pos ⟨rfl, q⟩, if_pos q]
          · rw [if_neg (fun y => q y.2), if_neg q]
        have hi1 := hnx i hi hK0 (by omega)
        generalize hb2 : am_wI b1 58 11 (nI (i + 1)) = b2 at nx
        have hM2 : MS K V P T l b2 (i + 1) 0 c := by rw [← hb2]; exact hM1.nx _
        have o2 : rw_on [58] b2 b1 := by rw [← hb2]; exact (rw_on.refl _ _).w (by simp) _ _
        have G2 : uG c κ N l b2 b1 := by rw [← hb2]; exact uG.of (rG.of (cG.f (by simp) _))
        generalize hb3 : am_wI b2 68 (20 * l + N) (nI c) = b3
        have o3 : rw_on [68] b3 b2 := by rw [← hb3]; exact (rw_on.refl _ _).w (by simp) _ _
        have G3 : uG c κ N l b3 b := by
          rw [← hb3]
          exact ((uG.w (by omega) hN20 _).trans G2 (Nat.le_refl _) (Nat.le_refl _) (Nat.le_refl _)).trans G1 (Nat.le_refl _) (Nat.le_refl _) (Nat.le_refl _)
        have hM3 : MS K V P T l b3 (i + 1) 0 c := by
          obtain ⟨y1, y2, y3, y4, y5, y6⟩ := hM2
          exact ⟨by rw [(o3 58 (by simp)).1]; exact y1, by rw [(o3 58 (by simp)).1]; exact y2, by rw [(o3 58 (by simp)).1]; exact y3, by rw [(o3 58 (by simp)).1]; exact y4, by rw [(o3 58 (by simp)).1]; exact y5, y6.on o3 (by simp) (by simp) (by simp)⟩
        have q67' : b2.1 67 (20 * l + N) = nI σ := by rw [(o2 67 (by simp)).1]; exact q67
        have r67 : b3.1 67 (20 * l + N) = nI σ := by rw [(o3 67 (by simp)).1]; exact q67'
        have r68 : b3.1 68 (20 * l + N) = nI c := by rw [← hb3]; simp [rl_wI]
        have r72 : b3.1 72 l = nI κ := by rw [(o3 72 (by simp)).1, (o2 72 (by simp)).1, (o1 72 (by simp)).1]; exact e72
        have r66 : b3.1 66 l = nI N := by rw [(o3 66 (by simp)).1, (o2 66 (by simp)).1, (o1 66 (by simp)).1]; exact e66
        have run : f_X12_tellRule b = (if nI σ = 1 then (t3 (nI (20 * l + N)) b3) else (am_bd (f_X12_expression b3) (fun (_ : Unit) s148 => t3 (nI (20 * l + N)) s148))) := by
          rw [bg, bd_some nx]
          unfold t2
          rw [rl_gu x2, rl_gu x2, x3, q67', hM2.2.2.2.1, hb3]
        -- what the pieces give
        have fin : ∀ (a2 : am_S) (j0 c1 : Nat) (h : Bool) (p0 : Nat) (b' : am_S), PLc D i a = PLc D j0 a2 → cA D a2 a → (∀ x, a2.1 (D + 1) x = a1.1 (D + 1) x) → i < j0 → c ≤ c1 → uG c κ N l b' b → b'.1 67 (20 * l + N) = nI σ → b'.1 70 (20 * l + N) = nI κ → TO D C n K V P X T l κ N (N + 1) h j0 c1 p0 a2 b' → (σ = 1 → h = true ∧ p0 = i + 1) → (¬ σ = 1 → ∀ (c' w : Nat), c1 ≤ c' → ∃ (m k : Nat) (val : (Nat → Int32) → Int32), EX (tkI K) V (b'.1 78) (b'.1 79) (i + 1) m c k val ∧ 500 * l ≤ c ∧ c + k ≤ c1 ∧ i + 1 + m = j0 ∧ b'.1 68 (20 * l + N) = nI c ∧ b'.1 69 (20 * l + N) = nI (c + k) ∧ (h = false ∧ tkI K j0 = 9 ∨ h = true ∧ tkI K j0 = 6 ∧ p0 = j0 + 1)) → UO D C n K V P X T l i c κ N a b' := by
          intro a2 j0 c1 h p0 b' y1 y2 y3 y4 y5 y6 y7 y8 y9 y10 y11
          obtain ⟨a', j, c', w, sd', hh, val, z1, z2, z3, z4, z5, z6, z7, z8, z9, z10, z11, z12, z13, z14, z15⟩ := ru_mk hT (st := a2.1 (D + 1)) σ3 (by omega) (by rw [y3 N, p4 N, if_pos rfl]) htk y7 y8 y9 y10 y11
          refine ⟨a', j + 1, c', κ + w, σ, sd', hh, val, y1.trans z1, z2.trans y2, fun x => ?_, by omega, by omega, by omega, z6, hN20, z7, z8, by omega, z10, z11, z12, by omega, z13, z15.fr (Nat.le_refl _) (Nat.le_refl _) (Nat.le_refl _) (z3 N) (fun _ _ _ => rfl) (fun _ _ _ _ _ => rfl) (fun _ _ => ⟨rfl, rfl⟩)⟩
          rw [z3 x, y3 x, p4 x]
        by_cases e : σ = 1
        · rw [if_pos e] at p2
          obtain ⟨b', g1, g2, g3⟩ := t3_go hD hT hnx hl (ρ := N) (by omega) hN20 (Or.inl ⟨e, p2⟩) σ3 hM3 (by omega) hc hi1 (by omega) r67 r72 r66 (by omega)
          have G4 : uG c κ N l b' b := g2.trans G3 (Nat.le_refl _) (Nat.le_refl _) (Nat.le_refl _)
          have nσ : nI σ = 1 := by rw [e]; rfl
          refine ⟨b', by rw [run, if_pos nσ]; exact g1, G4, ?_⟩
          rcases g3 with g3 | ⟨r1, r2, r3, r4, r5⟩
          · exact Or.inl (g3.tr p1 p3)
          · rcases r5 with ⟨-, y⟩ | ⟨y, -⟩ | ⟨y, -⟩
            · exact Or.inr (fin a1 (i + 1) c true (i + 1) b' p1 p3 (fun _ => rfl) (by omega) (Nat.le_refl _) G4 r1 r4 y (fun _ => ⟨rfl, rfl⟩) (fun q => absurd e q))
            · exact absurd e y
            · exact absurd e y
        · rw [if_neg e] at p2
          have nσ : ¬ nI σ = 1 := nI_ne (m := 1) (by omega) (by decide) e
          obtain ⟨b4, f1, f2, f3⟩ := ex_all hD hT hnx hl (sd := 0) (by decide) (show N + 1 ≤ 20 by omega) hc p2 hM3 (by omega) hi1 (by omega)
          have G4 : uG c κ N l b4 b3 := uG.of (rG.of f2)
          rcases f3 with f3 | ⟨a2, m, k, f, z, k1, k2, k3, k4, k5, k6, k7, k8, k9, k10, k11, k12, k13, k14⟩
          · obtain ⟨b', g1, g2, g3, g4⟩ := t3_F (c := c) (κ := κ) (ρ := N) (l := l) (b := b4) hl hN20 (by rw [f2.2.1 19 (by decide) (by decide) (by decide) (by decide) (by decide) (by decide)]; exact hM3.2.2.2.2.1) f3.ne.2
            refine ⟨b', by rw [run, if_neg nσ, bd_some f1]; exact g1, (g2.trans G4 (Nat.le_refl _) (Nat.le_refl _) (Nat.le_refl _)).trans G3 (Nat.le_refl _) (Nat.le_refl _) (Nat.le_refl _), Or.inl ((f3.on g3 g4).tr p1 p3)⟩
          · obtain ⟨b', g1, g2, g3⟩ := t3_go hD hT hnx hl (ρ := N) (by omega) hN20 (Or.inr ⟨e, k6, k12, k13, k14⟩) σ3 k7 k9 (by omega) k10 k11 (by rw [(f2.1 67 (by simp)).1]; exact r67) (by rw [(f2.1 72 (by simp)).1]; exact r72) (by rw [(f2.1 66 (by simp)).1]; exact r66) (by omega)
            have G5 : uG c κ N l b' b := (g2.trans G4 (by omega) (Nat.le_refl _) (Nat.le_refl _)).trans G3 (Nat.le_refl _) (Nat.le_refl _) (Nat.le_refl _)
            refine ⟨b', by rw [run, if_neg nσ, bd_some f1]; exact g1, G5, ?_⟩
            rcases g3 with g3 | ⟨r1, r2, r3, r4, r5⟩
            · exact Or.inl ((g3.tr (i := i + 1) k1 k2).tr p1 p3)
            · have e68 : b'.1 68 (20 * l + N) = nI c := by rw [r2, (f2.1 68 (by simp)).1]; exact r68
              have exx : ∀ (hTm : isT (tkI K (i + 1 + m))), EX (tkI K) V (b'.1 78) (b'.1 79) (i + 1) m c k (fw f z) := fun hTm => (k8.fin hTm (by omega)).fr2 (fun _ _ _ => ⟨rfl, fun _ => rfl⟩) (fun j q1 q2 => g2.2.2.1 j (Or.inl q2))
              rcases r5 with ⟨y, -⟩ | ⟨-, y1, y2⟩ | ⟨-, y1, y2⟩
              · exact absurd y e
              · have q4 : K (i + 1 + m) = 4 := by
                  obtain ⟨a', j, c', w, sd', tt, pp, ee, oo, z1, z2, z3, z4, z5, z6, z7, z8, z9, z10, z11, z12, z13, z14, z15, z16, z17, z18, z19⟩ := y2
                  rw [← (z18 rfl).2]; exact z12
                have t9 : tkI K (i + 1 + m) = 9 := by unfold tkI; rw [q4]; rfl
                exact Or.inr (fin a2 (i + 1 + m) (c + k) false (i + 1 + m) b' (p1.trans k1) (k2.trans p3) k3 (by omega) (by omega) G5 r1 r4 y2 (fun q => absurd q e) (fun _ c' w hcc => ⟨m, k, fw f z, exx (by rw [t9]; unfold isT; simp), hc, Nat.le_refl _, rfl, e68, r3, Or.inl ⟨rfl, t9⟩⟩))
              · have t6 : tkI K (i + 1 + m) = 6 := by unfold tkI; rw [y1]; rfl
                exact Or.inr (fin a2 (i + 1 + m) (c + k) true (i + 1 + m + 1) b' (p1.trans k1) (k2.trans p3) k3 (by omega) (by omega) G5 r1 r4 y2 (fun q => absurd q e) (fun _ c' w hcc => ⟨m, k, fw f z, exx (by rw [t6]; unfold isT; simp), hc, Nat.le_refl _, rfl, e68, r3, Or.inr ⟨rfl, t6, rfl⟩⟩))
  · have key : ∀ k, k < 34 → ¬ (k = 20 ∨ k = 22 ∨ k = 23) → goes 0 0 0 (cm k) = false := by decide
    have fo : FO D P i a (am_wI (am_wI b 58 13 1) 58 14 (nI (P i))) := fo_bad hD hT h1 hi hi4 (by decide) hs (by decide) (fun q => hK0 q.2) (key _ hK hk) (by simp [rl_wI]) (by simp [rl_wI])
    exact ⟨_, tr_bad hT h2 hi hi4 hk, uG.of (rG.of ((cG.f (c := c) (l := l) (i := 14) (by simp) _).trans (cG.f (c := c) (l := l) (b := b) (i := 13) (by simp) 1) (Nat.le_refl _))), Or.inl fo⟩
end RUD
