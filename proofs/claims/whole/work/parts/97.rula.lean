/-! ===== the relations of a rule, on both sides ===== -/
def DT (K : Nat → Nat) (V : Nat → Int32) (M : Nat → Nat → Int32) (l κ0 U w : Nat) (tt : Nat → (Nat → Int32) → Bool) (pp ee : Nat → Nat) (oo : Nat → Bool) : Prop := ∀ κ, κ < w → REb (tkI K) V M (500 * l) U (200 * l + κ0 + κ) (pp κ) (ee κ) (tt κ) ∧ M 77 (200 * l + κ0 + κ) = mc_i (oo κ) ∧ (κ + 1 < w → pp (κ + 1) = ee κ + 1 ∧ tkI K (ee κ) = if oo (κ + 1) then 8 else 7)
theorem DT.fr {K : Nat → Nat} {V : Nat → Int32} {b b' : am_S} {l κ0 U U' w : Nat} {tt : Nat → (Nat → Int32) → Bool} {pp ee : Nat → Nat} {oo : Nat → Bool} (h : DT K V b.1 l κ0 U w tt pp ee oo) (hU : U ≤ U') (h1 : ∀ x, 73 ≤ x → x ≤ 77 → ∀ j, j < 200 * l + (κ0 + w) → b'.1 x j = b.1 x j) (h2 : ∀ j, j < U → b'.1 78 j = b.1 78 j ∧ b'.1 79 j = b.1 79 j) : DT K V b'.1 l κ0 U' w tt pp ee oo := by
  intro κ hκ
  obtain ⟨q1, q2, q3⟩ := h κ hκ
  refine ⟨q1.fr hU (fun j _ _ => ⟨rfl, fun _ => rfl⟩) (fun c y1 y2 => h1 c y1 (by omega) _ (by omega)) (fun j _ y2 => h2 j y2), ?_, q3⟩
  rw [h1 77 (by decide) (by decide) _ (by omega)]
  exact q2
theorem DT.ext {K : Nat → Nat} {V : Nat → Int32} {M : Nat → Nat → Int32} {l κ0 U w i j : Nat} {tt : Nat → (Nat → Int32) → Bool} {pp ee : Nat → Nat} {oo : Nat → Bool} {t : (Nat → Int32) → Bool} {o : Bool} (h : DT K V M l κ0 U w tt pp ee oo) (hr : REb (tkI K) V M (500 * l) U (200 * l + (κ0 + w)) i j t) (h77 : M 77 (200 * l + (κ0 + w)) = mc_i o) (hl : 0 < w → ee (w - 1) + 1 = i ∧ tkI K (ee (w - 1)) = if o then 8 else 7) : DT K V M l κ0 U (w + 1) (fun κ => if κ = w then t else tt κ) (fun κ => if κ = w then i else pp κ) (fun κ => if κ = w then j else ee κ) (fun κ => if κ = w then o else oo κ) := by
  intro κ hκ
  by_cases e : κ = w
  · subst e
    simp only [if_true]
    rw [Nat.add_assoc]
    exact ⟨hr, h77, fun q => by omega⟩
  · obtain ⟨q1, q2, q3⟩ := h κ (by omega)
    simp only [if_neg e]
    refine ⟨q1, q2, fun _ => ?_⟩
    show (if κ + 1 = w then i else pp (κ + 1)) = ee κ + 1 ∧ tkI K (ee κ) = if (if κ + 1 = w then o else oo (κ + 1)) = true then 8 else 7
    by_cases e2 : κ + 1 = w
    · rw [if_pos e2, if_pos e2]
      have := hl (by omega)
      rw [show w - 1 = κ by omega] at this
      exact ⟨this.1.symm, this.2⟩
    · rw [if_neg e2, if_neg e2]
      exact q3 (by omega)
theorem L214_F {n : Nat} {x2 x3 x4 : Int32} {b : am_S} (h : ¬ b.1 58 13 = 0) : f_X12_tellRule_L214 (n + 1) x2 x3 x4 b = some (.inr ((), b)) := by
  rw [f_X12_tellRule_L214, if_neg h]
  split <;> rfl
theorem L214_0 {n : Nat} {x2 x4 : Int32} {b : am_S} : f_X12_tellRule_L214 (n + 1) x2 0 x4 b = some (.inr ((), b)) := by
  rw [f_X12_tellRule_L214, if_pos rfl]
/-- the relations have been read -/
def LO (D : Nat) (C : Nat → Nat) (n : Nat) (K : Nat → Nat) (V : Nat → Int32) (P X : Nat → Nat) (T l κ0 N p0 : Nat) (i c w : Nat) (a b' : am_S) : Prop := ∃ (a' : am_S) (j c' w' : Nat) (tt : Nat → (Nat → Int32) → Bool) (pp ee : Nat → Nat) (oo : Nat → Bool), PLc D i a = PLc D j a' ∧ cA D a' a ∧ (∀ j, a'.1 (D + 1) j = a.1 (D + 1) j) ∧ i < j ∧ c ≤ c' ∧ PS D C n K V X a' j 2 2 0 N ∧ MS K V P T l b' j 0 c' ∧ c' ≤ 500 * l + j ∧ j < T ∧ j ≤ 400 ∧ b'.1 72 l = nI (κ0 + w') ∧ 3 * (κ0 + w') ≤ j ∧ w < w' ∧ K j ≠ 24 ∧ K j ≠ 25 ∧ K j ≠ 8 ∧ K j ≠ 9 ∧ K j ≠ 10 ∧ (isT (tkI K j) → DT K V b'.1 l κ0 c' w' tt pp ee oo ∧ ee (w' - 1) = j ∧ pp 0 = p0 ∧ oo 0 = true)
section RUA
variable {C : Nat → Nat} {n : Nat} {K : Nat → Nat} {V : Nat → Int32} {P X : Nat → Nat} {D T l : Nat}
theorem rs_loop (hD : D = 5 ∨ D = 11) (hT : TT C n T K V P X) (hnx : ∀ s, s < T → K s ≠ 0 → s < 400 → s + 1 < T) (hl : l < 2) {N κ0 p0 : Nat} (hN : N ≤ 20) (x2 : Int32) : ∀ (F i c w : Nat) (o : Bool) (a b : am_S) (tt : Nat → (Nat → Int32) → Bool) (pp ee : Nat → Nat) (oo : Nat → Bool), PS D C n K V X a i 1 1 0 N → MS K V P T l b i 0 c → c ≤ 500 * l + i → 500 * l ≤ c → i < T → i ≤ 400 → b.1 72 l = nI (κ0 + w) → 3 * (κ0 + w) ≤ i → DT K V b.1 l κ0 c w tt pp ee oo → (w = 0 → o = true ∧ p0 = i) → (0 < w → ee (w - 1) + 1 = i ∧ tkI K (ee (w - 1)) = (if o then 8 else 7) ∧ pp 0 = p0 ∧ oo 0 = true) → 402 < i + F → ∃ b', f_X12_tellRule_L214 F x2 1 (mc_i o) b = some (.inr ((), b')) ∧ rG c (κ0 + w) l b' b ∧ (FO D P i a b' ∨ LO D C n K V P X T l κ0 N p0 i c w a b') := by
  intro F
  induction F with
  | zero => intro i c w o a b tt pp ee oo h1 h2 h3 h4 hi hi4; omega
  | succ F ih =>
    intro i c w o a b tt pp ee oo h1 h2 h3 h4 hi hi4 e72 hκ hD1 hw0 hw1 hF
    obtain ⟨b1, g1, g2, g3⟩ := re_all hD hT hnx hl (o := o) hN h4 h1 h2 h3 hi hi4 e72 hκ
    have pre : f_X12_tellRule_L214 (F + 1) x2 1 (mc_i o) b = am_bd (f_X12_is b1 24) (fun v234 s234 => (fun (j258 : Int32 × am_S → Option ((Unit × am_S) ⊕ (Unit × am_S))) => if v234 = 0 then (am_bd (f_X12_is s234 (25)) (fun v247 s247 => if v247 = 0 then (j258 (0, s247)) else (j258 (1, s247)))) else (j258 (1, s234))) (fun p258 => if p258.1 = 0 then (f_X12_tellRule_L214 F x2 p258.1 v234 p258.2) else (am_bd (f_X12_next p258.2) (fun (_ : Unit) s264 => f_X12_tellRule_L214 F x2 p258.1 v234 s264)))) := by
      rw [f_X12_tellRule_L214, if_neg (by decide), h2.2.2.1, if_pos rfl, bd_some g1]
      rfl
    obtain ⟨F', rfl⟩ : ∃ F', F = F' + 1 := ⟨F - 1, by omega⟩
    have z10 : ¬ (1 : Int32) = 0 := by decide
    rcases g3 with g3 | ⟨a1, j, c1, k1, k2, k3, k4, k5, k6, k7, k8, k9, k10, k11, k12, k13, k14, k15, k16⟩
    · refine ⟨b1, ?_, g2, Or.inl g3⟩
      rw [pre, bd_some (is_F g3.ne.1 24)]
      show (if (0 : Int32) = 0 then _ else _) = _
      rw [if_pos rfl, bd_some (is_F g3.ne.1 25), if_pos rfl]
      show (if (0 : Int32) = 0 then _ else _) = _
      rw [if_pos rfl]
      exact L214_0
    · have i24 := is_M (k := 24) hT k7 k9 k10 (by decide)
      have i25 := is_M (k := 25) hT k7 k9 k10 (by decide)
      -- the data with the new relation
      have more : isT (tkI K j) → ∃ t, DT K V b1.1 l κ0 c1 (w + 1) (fun κ => if κ = w then t else tt κ) (fun κ => if κ = w then i else pp κ) (fun κ => if κ = w then j else ee κ) (fun κ => if κ = w then o else oo κ) := by
        intro hTm
        obtain ⟨t, ht⟩ := k16 hTm
        have d1 := hD1.fr (b' := b1) (U' := c1) (by omega) (fun x y1 y2 jj y3 => g2.2.2.2.1 x y1 y2 jj (Or.inl y3)) (fun jj y => g2.2.2.1 jj (Or.inl y))
        exact ⟨t, d1.ext ht k15 (fun y => ⟨(hw1 y).1, (hw1 y).2.1⟩)⟩
      have fin0 : (if (0 : Nat) = w then i else pp 0) = p0 ∧ (if (0 : Nat) = w then o else oo 0) = true := by
        by_cases q : 0 = w
        · rw [if_pos q, if_pos q]
          exact ⟨(hw0 q.symm).2.symm, (hw0 q.symm).1⟩
        · rw [if_neg q, if_neg q]
          exact (hw1 (by omega)).2.2
      by_cases qj : K j = 24 ∨ K j = 25
      · have hgo : goes 2 2 0 (cm (K j)) = true := by rcases qj with q | q <;> rw [q] <;> rfl
        have w3 : mq 2 (cm (K j)) = 1 := by rcases qj with q | q <;> rw [q] <;> rfl
        have w4 : ms 2 (cm (K j)) = 1 := by rcases qj with q | q <;> rw [q] <;> rfl
        have w5 : cm (K j) ≠ 17 := by rcases qj with q | q <;> rw [q] <;> decide
        have w6 : cm (K j) ≠ 18 := by rcases qj with q | q <;> rw [q] <;> decide
        have hTm : isT (tkI K j) := by unfold isT tkI; rcases qj with q | q <;> rw [q] <;> decide
        have run : f_X12_tellRule_L214 (F' + 1 + 1) x2 1 (mc_i o) b = am_bd (f_X12_next b1) (fun (_ : Unit) s264 => f_X12_tellRule_L214 (F' + 1) x2 1 (mc_i (decide (K j = 24))) s264) := by
          rcases qj with q | q
          · rw [decide_eq_true q] at i24 ⊢
            rw [pre, show (24 : Int32) = nI 24 from rfl, bd_some i24]
            rfl
          · have q2 : ¬ K j = 24 := by omega
            rw [decide_eq_false q2] at i24 ⊢
            rw [decide_eq_true q] at i25
            rw [pre, show (24 : Int32) = nI 24 from rfl, bd_some i24]
            show (if mc_i false = 0 then _ else _) = _
            rw [if_pos (show mc_i false = 0 from rfl), show (25 : Int32) = nI 25 from rfl, bd_some i25]
            rfl
        by_cases i400 : j = 400
        · have nx := next_E (by rw [i400] at k7; exact k7) (by omega)
          have fo : FO D P j a1 (am_wI (am_wI b1 58 13 2) 58 14 (nI (P 400))) := fo_room hD hT k6 k9 k10 (by decide) (by decide) (by decide) hN hgo (Or.inl i400) (by simp [rl_wI]) (by rw [i400]; simp [rl_wI])
          refine ⟨_, by rw [run, bd_some nx]; exact L214_F fo.ne.1, ?_, Or.inl (fo.tr k1 k2)⟩
          exact (rG.of ((cG.f (c := c) (l := l) (i := 14) (by simp) _).trans (cG.f (c := c) (l := l) (b := b1) (i := 13) (by simp) 2) (Nat.le_refl _))).trans g2 (Nat.le_refl _) (Nat.le_refl _)
        · have nx := next_M k7 (by omega)
          obtain ⟨a2, p1, p2, p3, p4⟩ := pl_go hD hT k6 k9 k10 (by decide) (by decide) (by decide) hN hgo (by
            rintro (y | ⟨y, -⟩ | ⟨y, -⟩)
            · exact i400 y
            · cases y
            · exact w5 y) (fun y => absurd y w6)
          rw [w3, w4, ml_n w5 w6, if_neg (by decide)] at p2
          have p4 : ∀ x, a2.1 (D + 1) x = a1.1 (D + 1) x := fun x => by rw [p4 x, if_neg (fun y => by cases y.1)]
          have hi1 := hnx j k9 (by omega) (by omega)
          obtain ⟨t, hd2⟩ := more hTm
          have hto : tkI K j = if (decide (K j = 24) : Bool) then 8 else 7 := by
            unfold tkI
            rcases qj with q | q <;> rw [q] <;> rfl
          obtain ⟨b', y1, y2, y3⟩ := ih (j + 1) c1 (w + 1) (decide (K j = 24)) a2 (am_wI b1 58 11 (nI (j + 1))) _ _ _ _ p2 (k7.nx (j + 1)) (by omega) (by omega) hi1 (by omega) k14 (by omega) hd2 (fun q => by omega) (fun _ => by
            rw [show w + 1 - 1 = w by omega]
            simp only [if_true]
            exact ⟨trivial, hto, fin0⟩) (by omega)
          have R1 : rG c (κ0 + w) l (am_wI b1 58 11 (nI (j + 1))) b := (rG.of (cG.f (c := c) (l := l) (b := b1) (i := 11) (by simp) _)).trans g2 (Nat.le_refl _) (Nat.le_refl _)
          refine ⟨b', by rw [run, bd_some nx]; exact y1, y2.trans R1 (by omega) (by omega), ?_⟩
          rcases y3 with y3 | ⟨a', j', c', w', tt', pp', ee', oo', z1, z2, z3, z4, z5, z6, z7, z8, z9, z10', z11, z12, z13, z14⟩
          · exact Or.inl ((y3.tr p1 p3).tr k1 k2)
          · exact Or.inr ⟨a', j', c', w', tt', pp', ee', oo', (k1.trans p1).trans z1, (z2.trans p3).trans k2, fun x => ((z3 x).trans (p4 x)).trans (k3 x), by omega, by omega, z6, z7, z8, z9, z10', z11, z12, by omega, z14⟩
      · have q24 : ¬ K j = 24 := fun q => qj (Or.inl q)
        have q25 : ¬ K j = 25 := fun q => qj (Or.inr q)
        rw [decide_eq_false q24] at i24
        rw [decide_eq_false q25] at i25
        have run : f_X12_tellRule_L214 (F' + 1 + 1) x2 1 (mc_i o) b = some (.inr ((), b1)) := by
          rw [pre, show (24 : Int32) = nI 24 from rfl, bd_some i24]
          show (if mc_i false = 0 then _ else _) = _
          rw [if_pos (show mc_i false = 0 from rfl), show (25 : Int32) = nI 25 from rfl, bd_some i25, if_pos (show mc_i false = 0 from rfl)]
          show (if (0 : Int32) = 0 then _ else _) = _
          rw [if_pos rfl]
          exact L214_0
        by_cases hTm : isT (tkI K j)
        · obtain ⟨t, hd2⟩ := more hTm
          refine ⟨b1, run, g2, Or.inr ⟨a1, j, c1, w + 1, _, _, _, _, k1, k2, k3, by omega, by omega, k6, k7, k8, k9, k10, k14, by omega, by omega, q24, q25, k11, k12, k13, fun _ => ⟨hd2, ?_, fin0⟩⟩⟩
          rw [show w + 1 - 1 = w by omega]
          simp
        · exact ⟨b1, run, g2, Or.inr ⟨a1, j, c1, w + 1, tt, pp, ee, oo, k1, k2, k3, by omega, by omega, k6, k7, k8, k9, k10, k14, by omega, by omega, q24, q25, k11, k12, k13, fun q => absurd q hTm⟩⟩
end RUA
