/-! ===== a rule is read on both sides: its end ===== -/
def t5 (R h : Int32) (s : am_S) : Option (Unit × am_S) := am_lp (fun y => y) (f_X12_tellRule_L214 am_FU R h (1) s) (fun (_ : Unit) s214 => am_bd (f_X12_must s214 (4)) (fun (_ : Unit) s272 => if 0 < (s272.1 58 13) then (some ((), s272)) else (am_gu (am_in (s272.1 58 19) 2) (am_gu (am_in R 40) (am_gu (am_in (s272.1 58 19) 2) (am_gu (am_in (s272.1 58 19) 2) (some ((), (am_wI (am_wI s272 71 (Int32.toNatClampNeg R) (s272.1 72 (Int32.toNatClampNeg (s272.1 58 19)))) 66 (Int32.toNatClampNeg (s272.1 58 19)) ((s272.1 66 (Int32.toNatClampNeg (s272.1 58 19))) + 1))))))))))
def t4 (R h : Int32) (s : am_S) : Option (Unit × am_S) := am_bd (f_X12_is s (21)) (fun v195 s195 => if v195 = 0 then (t5 R h s195) else (if h = 0 then (am_bd (f_X12_next s195) (fun (_ : Unit) s206 => t5 R 1 s206)) else (t5 R h s195)))
def t3 (R : Int32) (s : am_S) : Option (Unit × am_S) := am_gu (am_in R 40) (am_gu (am_in (s.1 58 19) 2) (am_gu (am_in R 40) (am_gu (am_in R 40) (if (s.1 67 (Int32.toNatClampNeg R)) = 1 then (t4 R 1 (am_wI (am_wI s 69 (Int32.toNatClampNeg R) (s.1 58 32)) 70 (Int32.toNatClampNeg R) (s.1 72 (Int32.toNatClampNeg (s.1 58 19))))) else (t4 R 0 (am_wI (am_wI s 69 (Int32.toNatClampNeg R) (s.1 58 32)) 70 (Int32.toNatClampNeg R) (s.1 72 (Int32.toNatClampNeg (s.1 58 19)))))))))
def t2 (R : Int32) (s : am_S) : Option (Unit × am_S) := am_gu (am_in R 40) (am_gu (am_in R 40) (if (s.1 67 (Int32.toNatClampNeg R)) = 1 then (t3 R (am_wI s 68 (Int32.toNatClampNeg R) (s.1 58 32))) else (am_bd (f_X12_expression (am_wI s 68 (Int32.toNatClampNeg R) (s.1 58 32))) (fun (_ : Unit) s148 => t3 R s148))))
/-- frame of a rule -/
def uG (c κ ρ l : Nat) (b' b : am_S) : Prop := rw_on [58, 66, 67, 68, 69, 70, 71, 72, 73, 74, 75, 76, 77, 78, 79, 80] b' b ∧ (∀ i, i ≠ 11 → i ≠ 12 → i ≠ 13 → i ≠ 14 → i ≠ 32 → i ≠ 36 → b'.1 58 i = b.1 58 i) ∧ (∀ j, j < c ∨ 500 * l + 500 ≤ j → b'.1 78 j = b.1 78 j ∧ b'.1 79 j = b.1 79 j) ∧ (∀ x, 73 ≤ x → x ≤ 77 → ∀ j, j < 200 * l + κ ∨ 200 * l + 200 ≤ j → b'.1 x j = b.1 x j) ∧ (∀ j, j ≠ l → b'.1 72 j = b.1 72 j ∧ b'.1 66 j = b.1 66 j) ∧ ∀ x, 67 ≤ x → x ≤ 71 → ∀ j, j < 20 * l + ρ ∨ 20 * l + 20 ≤ j → b'.1 x j = b.1 x j
theorem uG.of {c κ ρ l : Nat} {b' b : am_S} (h : rG c κ l b' b) : uG c κ ρ l b' b := ⟨h.1.mono (by simp), h.2.1, h.2.2.1, h.2.2.2.1, fun j hj => ⟨h.2.2.2.2 j hj, by rw [(h.1 66 (by simp)).1]⟩, fun x q1 q2 j _ => by rw [(h.1 x (by simp; omega)).1]⟩
theorem uG.refl (c κ ρ l : Nat) (b : am_S) : uG c κ ρ l b b := uG.of (rG.of (cG.refl _ _ _))
theorem uG.trans {c c' κ κ' ρ ρ' l : Nat} {x y z : am_S} (h : uG c' κ' ρ' l x y) (h' : uG c κ ρ l y z) (hc : c ≤ c') (hk : κ ≤ κ') (hr : ρ ≤ ρ') : uG c κ ρ l x z :=
  ⟨h.1.trans h'.1, fun i a1 a2 a3 a4 a5 a6 => (h.2.1 i a1 a2 a3 a4 a5 a6).trans (h'.2.1 i a1 a2 a3 a4 a5 a6), fun j hj => by
    have e1 := h.2.2.1 j (by omega)
    have e2 := h'.2.2.1 j hj
    exact ⟨e1.1.trans e2.1, e1.2.trans e2.2⟩, fun x q1 q2 j hj => (h.2.2.2.1 x q1 q2 j (by omega)).trans (h'.2.2.2.1 x q1 q2 j hj), fun j hj => ⟨(h.2.2.2.2.1 j hj).1.trans (h'.2.2.2.2.1 j hj).1, (h.2.2.2.2.1 j hj).2.trans (h'.2.2.2.2.1 j hj).2⟩, fun x q1 q2 j hj => (h.2.2.2.2.2 x q1 q2 j (by omega)).trans (h'.2.2.2.2.2 x q1 q2 j hj)⟩
/-- one entry of rule ρ -/
theorem uG.w {c κ ρ l x : Nat} {b : am_S} (hx : 67 ≤ x ∧ x ≤ 71) (hρ : ρ < 20) (y : Int32) : uG c κ ρ l (am_wI b x (20 * l + ρ) y) b := by
  have n : ∀ z, z ≠ x → (am_wI b x (20 * l + ρ) y).1 z = b.1 z := fun z q => rl_wr _ _ q
  refine ⟨(rw_on.refl _ _).w (by simp; omega) _ _, fun i _ _ _ _ _ _ => by rw [n 58 (by omega)], fun j _ => ⟨by rw [n 78 (by omega)], by rw [n 79 (by omega)]⟩, fun z q1 q2 j _ => by rw [n z (by omega)], fun j _ => ⟨by rw [n 72 (by omega)], by rw [n 66 (by omega)]⟩, fun z q1 q2 j hj => ?_⟩
  have : j ≠ 20 * l + ρ := by omega
  rw [rl_wI]
  simp [this]
theorem t5_F {R h : Int32} {b : am_S} (hf : 0 < b.1 58 13) : t5 R h b = some ((), b) := by
  have h2 : ¬ b.1 58 13 = 0 := fun q => by rw [q] at hf; exact absurd hf (by decide)
  have e1 : f_X12_tellRule_L214 am_FU R h 1 b = some (.inr ((), b)) := L214_F (n := 4999) h2
  have e2 : f_X12_must b 4 = some ((), b) := by rw [f_X12_must, bd_some (is_F h2 4), if_pos rfl, bd_some (fail_F hf 1)]
  unfold t5
  rw [lp_r e1, bd_some e2, if_pos hf]
theorem t4_F {R h : Int32} {b : am_S} (hf : 0 < b.1 58 13) : t4 R h b = some ((), b) := by
  have h2 : ¬ b.1 58 13 = 0 := fun q => by rw [q] at hf; exact absurd hf (by decide)
  unfold t4
  rw [bd_some (is_F h2 21), if_pos rfl, t5_F hf]
theorem t3_F {c κ ρ l : Nat} {b : am_S} (hl : l < 2) (hρ : ρ < 20) (e19 : b.1 58 19 = nI l) (hf : 0 < b.1 58 13) : ∃ b', t3 (nI (20 * l + ρ)) b = some ((), b') ∧ uG c κ ρ l b' b ∧ b'.1 58 13 = b.1 58 13 ∧ b'.1 58 14 = b.1 58 14 := by
  have x2 : am_in (nI (20 * l + ρ)) 40 = true := rl_nin (by decide) (by omega)
  have x3 : (nI (20 * l + ρ)).toNatClampNeg = 20 * l + ρ := nI_clamp (by omega)
  have l2 : am_in (nI l) 2 = true := rl_nin (by decide) hl
  have l3 : (nI l).toNatClampNeg = l := nI_clamp (by omega)
  generalize hb1 : am_wI (am_wI b 69 (20 * l + ρ) (b.1 58 32)) 70 (20 * l + ρ) (b.1 72 l) = b1
  have e : b1.1 58 = b.1 58 := by rw [← hb1]; rfl
  have hf1 : 0 < b1.1 58 13 := by rw [e]; exact hf
  refine ⟨b1, ?_, ?_, by rw [e], by rw [e]⟩
  · unfold t3
    rw [rl_gu x2, e19, rl_gu l2, rl_gu x2, rl_gu x2, x3, l3, hb1, t4_F hf1, t4_F hf1]
    split <;> rfl
  · rw [← hb1]
    exact (uG.w (by omega) hρ _).trans (uG.w (b := b) (by omega) hρ _) (Nat.le_refl _) (Nat.le_refl _) (Nat.le_refl _)
theorem t2_F {c κ ρ l : Nat} {b : am_S} (hl : l < 2) (hρ : ρ < 20) (e19 : b.1 58 19 = nI l) (hf : 0 < b.1 58 13) : ∃ b', t2 (nI (20 * l + ρ)) b = some ((), b') ∧ uG c κ ρ l b' b ∧ b'.1 58 13 = b.1 58 13 ∧ b'.1 58 14 = b.1 58 14 := by
  have x2 : am_in (nI (20 * l + ρ)) 40 = true := rl_nin (by decide) (by omega)
  have x3 : (nI (20 * l + ρ)).toNatClampNeg = 20 * l + ρ := nI_clamp (by omega)
  generalize hb1 : am_wI b 68 (20 * l + ρ) (b.1 58 32) = b1
  have G1 : uG c κ ρ l b1 b := by rw [← hb1]; exact uG.w (by omega) hρ _
  have e : b1.1 58 = b.1 58 := by rw [← hb1]; rfl
  have hf1 : 0 < b1.1 58 13 := by rw [e]; exact hf
  have h2 : ¬ b1.1 58 13 = 0 := fun q => by rw [q] at hf1; exact absurd hf1 (by decide)
  unfold t2
  rw [rl_gu x2, rl_gu x2, x3, hb1]
  by_cases q : b.1 67 (20 * l + ρ) = 1
  · obtain ⟨b2, g1, g2, g3, g4⟩ := t3_F (c := c) (κ := κ) (b := b1) hl hρ (by rw [e]; exact e19) hf1
    rw [if_pos q]
    exact ⟨b2, g1, g2.trans G1 (Nat.le_refl _) (Nat.le_refl _) (Nat.le_refl _), by rw [g3, e], by rw [g4, e]⟩
  · have ex := ex_F h2
    have G2 : uG c κ ρ l (am_wI b1 58 36 0) b1 := uG.of (rG.of (cG.f (by simp) _))
    obtain ⟨b2, g1, g2, g3, g4⟩ := t3_F (c := c) (κ := κ) (b := am_wI b1 58 36 0) hl hρ (by simp [rl_wI]; rw [e]; exact e19) (by simp [rl_wI]; exact hf1)
    rw [if_neg q, bd_some ex]
    refine ⟨b2, g1, (g2.trans G2 (Nat.le_refl _) (Nat.le_refl _) (Nat.le_refl _)).trans G1 (Nat.le_refl _) (Nat.le_refl _) (Nat.le_refl _), ?_, ?_⟩
    · rw [g3]; simp [rl_wI, e]
    · rw [g4]; simp [rl_wI, e]
/-- a rule's end -/
def TO (D : Nat) (C : Nat → Nat) (n : Nat) (K : Nat → Nat) (V : Nat → Int32) (P X : Nat → Nat) (T l κ ρ N : Nat) (h : Bool) (i c p0 : Nat) (a b' : am_S) : Prop := ∃ (a' : am_S) (j c' w sd : Nat) (tt : Nat → (Nat → Int32) → Bool) (pp ee : Nat → Nat) (oo : Nat → Bool), PLc D i a = PLc D (j + 1) a' ∧ cA D a' a ∧ (∀ x, a'.1 (D + 1) x = a.1 (D + 1) x) ∧ i ≤ j ∧ c ≤ c' ∧ sd < 3 ∧ PS D C n K V X a' (j + 1) 0 sd 0 N ∧ MS K V P T l b' (j + 1) 0 c' ∧ c' ≤ 500 * l + j ∧ j + 1 < T ∧ j + 1 ≤ 400 ∧ K j = 4 ∧ b'.1 72 l = nI (κ + w) ∧ b'.1 71 (20 * l + ρ) = nI (κ + w) ∧ b'.1 66 l = nI (ρ + 1) ∧ 3 * (κ + w) ≤ j ∧ DT K V b'.1 l κ c' w tt pp ee oo ∧ (h = false → w = 0 ∧ j = i) ∧ (h = true → 0 < w ∧ ee (w - 1) = j ∧ pp 0 = p0 ∧ oo 0 = true)
section RUB
variable {C : Nat → Nat} {n : Nat} {K : Nat → Nat} {V : Nat → Int32} {P X : Nat → Nat} {D T l : Nat}
theorem mu_all (hD : D = 5 ∨ D = 11) (hT : TT C n T K V P X) (hnx : ∀ s, s < T → K s ≠ 0 → s < 400 → s + 1 < T) {N sd j c : Nat} (hN : N ≤ 20) (hsd : sd = 0 ∨ sd = 2) {a b : am_S} (h1 : PS D C n K V X a j 2 sd 0 N) (h2 : MS K V P T l b j 0 c) (hj : j < T) (hj4 : j ≤ 400) (n8 : K j ≠ 8) (n9 : K j ≠ 9) (n10 : K j ≠ 10) (hx : sd = 0 ∧ K j ≠ 21 ∨ sd = 2 ∧ K j ≠ 24 ∧ K j ≠ 25) : ∃ b', f_X12_must b 4 = some ((), b') ∧ (∀ c l, cG c l b' b) ∧ (FO D P j a b' ∨ (K j = 4 ∧ ∃ a', PLc D j a = PLc D (j + 1) a' ∧ cA D a' a ∧ (∀ x, a'.1 (D + 1) x = a.1 (D + 1) x) ∧ PS D C n K V X a' (j + 1) 0 sd 0 N ∧ MS K V P T l b' (j + 1) 0 c ∧ j + 1 < T ∧ j + 1 ≤ 400)) := by
  have hK := (hT j hj).2
  have hs : sd < 3 := by omega
  have i4 := is_M (k := 4) hT h2 hj hj4 (by decide)
  by_cases q : K j = 4
  · rw [decide_eq_true q] at i4
    have hgo : goes 2 sd 0 (cm (K j)) = true := by rcases hsd with e | e <;> rw [e, q] <;> rfl
    have w3 : mq 2 (cm (K j)) = 0 := by rw [q]; rfl
    have w4 : ms sd (cm (K j)) = sd := by rw [q]; rfl
    have w5 : cm (K j) ≠ 17 := by rw [q]; decide
    have w6 : cm (K j) ≠ 18 := by rw [q]; decide
    by_cases i400 : j = 400
    · have nx := next_E (by rw [i400] at h2; exact h2) (by omega)
      have fo : FO D P j a (am_wI (am_wI b 58 13 2) 58 14 (nI (P 400))) := fo_room hD hT h1 hj hj4 (by decide) hs (by decide) hN hgo (Or.inl i400) (by simp [rl_wI]) (by rw [i400]; simp [rl_wI])
      refine ⟨_, ?_, fun c l => (cG.f (i := 14) (by simp) _).trans (cG.f (b := b) (i := 13) (by simp) 2) (Nat.le_refl _), Or.inl fo⟩
      rw [f_X12_must, show (4 : Int32) = nI 4 from rfl, bd_some i4, show mc_i true = 1 from rfl, if_neg (by decide), bd_some nx]
    · have nx := next_M h2 (by omega)
      obtain ⟨a2, p1, p2, p3, p4⟩ := pl_go hD hT h1 hj hj4 (by decide) hs (by decide) hN hgo (by
        rintro (y | ⟨y, -⟩ | ⟨y, -⟩)
        · exact i400 y
        · cases y
        · exact w5 y) (fun y => absurd y w6)
      rw [w3, w4, ml_n w5 w6, if_neg (by decide)] at p2
      refine ⟨_, ?_, fun c l => cG.f (by simp) _, Or.inr ⟨q, a2, p1, p3, fun x => by rw [p4 x, if_neg (fun y => by cases y.1)], p2, h2.nx (j + 1), hnx j hj (by omega) (by omega), by omega⟩⟩
      rw [f_X12_must, show (4 : Int32) = nI 4 from rfl, bd_some i4, show mc_i true = 1 from rfl, if_neg (by decide), bd_some nx]
  · rw [decide_eq_false q] at i4
    have key0 : ∀ k, k < 34 → ¬ (k = 8 ∨ k = 9 ∨ k = 10 ∨ k = 21 ∨ k = 4) → goes 2 0 0 (cm k) = false := by decide
    have key2 : ∀ k, k < 34 → ¬ (k = 8 ∨ k = 9 ∨ k = 10 ∨ k = 24 ∨ k = 25 ∨ k = 4) → goes 2 2 0 (cm k) = false := by decide
    have hgo : goes 2 sd 0 (cm (K j)) = false := by
      rcases hx with ⟨e, y⟩ | ⟨e, y1, y2⟩
      · rw [e]; exact key0 _ hK (by omega)
      · rw [e]; exact key2 _ hK (by omega)
    have fl := fail_M h2 hj hj4 1
    have fo : FO D P j a (am_wI (am_wI b 58 13 1) 58 14 (nI (P j))) := fo_bad hD hT h1 hj hj4 (by decide) hs (by decide) (fun q => by cases q.1) hgo (by simp [rl_wI]) (by simp [rl_wI])
    refine ⟨_, ?_, fun c l => (cG.f (i := 14) (by simp) _).trans (cG.f (b := b) (i := 13) (by simp) 1) (Nat.le_refl _), Or.inl fo⟩
    rw [f_X12_must, show (4 : Int32) = nI 4 from rfl, bd_some i4, show mc_i false = 0 from rfl, if_pos rfl, bd_some fl]
/-- the semicolon, and what is noted down with it -/
theorem t5_end (hD : D = 5 ∨ D = 11) (hT : TT C n T K V P X) (hnx : ∀ s, s < T → K s ≠ 0 → s < 400 → s + 1 < T) (hl : l < 2) {N sd j c κ ρ w : Nat} (hN : N ≤ 20) (hρ : ρ < 20) (hsd : sd = 0 ∨ sd = 2) {a b : am_S} (h1 : PS D C n K V X a j 2 sd 0 N) (h2 : MS K V P T l b j 0 c) (hb : c ≤ 500 * l + j) (hj : j < T) (hj4 : j ≤ 400) (n8 : K j ≠ 8) (n9 : K j ≠ 9) (n10 : K j ≠ 10) (hx : sd = 0 ∧ K j ≠ 21 ∨ sd = 2 ∧ K j ≠ 24 ∧ K j ≠ 25) (e72 : b.1 72 l = nI (κ + w)) (e66 : b.1 66 l = nI ρ) (hw : 3 * (κ + w) ≤ j) (tt : Nat → (Nat → Int32) → Bool) (pp ee : Nat → Nat) (oo : Nat → Bool) (hd : isT (tkI K j) → DT K V b.1 l κ c w tt pp ee oo) : ∃ b', (am_bd (f_X12_must b (4)) (fun (_ : Unit) s272 => if 0 < (s272.1 58 13) then (some ((), s272)) else (am_gu (am_in (s272.1 58 19) 2) (am_gu (am_in (nI (20 * l + ρ)) 40) (am_gu (am_in (s272.1 58 19) 2) (am_gu (am_in (s272.1 58 19) 2) (some ((), (am_wI (am_wI s272 71 (Int32.toNatClampNeg (nI (20 * l + ρ))) (s272.1 72 (Int32.toNatClampNeg (s272.1 58 19)))) 66 (Int32.toNatClampNeg (s272.1 58 19)) ((s272.1 66 (Int32.toNatClampNeg (s272.1 58 19))) + 1)))))))))) = some ((), b') ∧ uG c (κ + w) ρ l b' b ∧ (∀ x, 67 ≤ x → x ≤ 70 → b'.1 x = b.1 x) ∧ (FO D P j a b' ∨ (K j = 4 ∧ ∃ a', PLc D j a = PLc D (j + 1) a' ∧ cA D a' a ∧ (∀ x, a'.1 (D + 1) x = a.1 (D + 1) x) ∧ PS D C n K V X a' (j + 1) 0 sd 0 N ∧ MS K V P T l b' (j + 1) 0 c ∧ j + 1 < T ∧ j + 1 ≤ 400 ∧ b'.1 72 l = nI (κ + w) ∧ b'.1 71 (20 * l + ρ) = nI (κ + w) ∧ b'.1 66 l = nI (ρ + 1) ∧ DT K V b'.1 l κ c w tt pp ee oo)) := by
  have x2 : am_in (nI (20 * l + ρ)) 40 = true := rl_nin (by decide) (by omega)
  have x3 : (nI (20 * l + ρ)).toNatClampNeg = 20 * l + ρ := nI_clamp (by omega)
  have l2 : am_in (nI l) 2 = true := rl_nin (by decide) hl
  have l3 : (nI l).toNatClampNeg = l := nI_clamp (by omega)
  have d4 : nI ρ + 1 = nI (ρ + 1) := nI_1 ρ
  obtain ⟨b1, g1, g2, g3⟩ := mu_all hD hT hnx hN hsd h1 h2 hj hj4 n8 n9 n10 hx
  have G1 : uG c (κ + w) ρ l b1 b := uG.of (rG.of (g2 c l))
  rw [bd_some g1]
  rcases g3 with g3 | ⟨q4, a', k1, k2, k3, k4, k5, k6, k7⟩
  · rw [if_pos g3.ne.2]
    exact ⟨b1, rfl, G1, fun x q1 q2 => ((g2 c l).1 x (by simp; omega)).1, Or.inl g3⟩
  · have z0 : ¬ (0 : Int32) < 0 := by decide
    have o1 := (g2 c l).1
    have e72' : b1.1 72 l = nI (κ + w) := by rw [(o1 72 (by simp)).1]; exact e72
    have e66' : b1.1 66 l = nI ρ := by rw [(o1 66 (by simp)).1]; exact e66
    rw [k5.2.2.1, if_neg z0, k5.2.2.2.2.1, rl_gu l2, rl_gu x2, rl_gu l2, rl_gu l2, x3, l3, e72', e66', d4]
    generalize hb2 : am_wI (am_wI b1 71 (20 * l + ρ) (nI (κ + w))) 66 l (nI (ρ + 1)) = b2
    have o2 : rw_on [66, 71] b2 b1 := by rw [← hb2]; exact ((rw_on.refl _ _).w (by simp) _ _).w (by simp) _ _
    have G2 : uG c (κ + w) ρ l b2 b1 := by
      have n : ∀ z, z ≠ 66 → z ≠ 71 → b2.1 z = b1.1 z := fun z q1 q2 => (o2 z (by simp; omega)).1
      refine ⟨o2.mono (by simp), fun i _ _ _ _ _ _ => by rw [n 58 (by decide) (by decide)], fun j _ => ⟨by rw [n 78 (by decide) (by decide)], by rw [n 79 (by decide) (by decide)]⟩, fun z q1 q2 j _ => by rw [n z (by omega) (by omega)], fun j hj => ⟨by rw [n 72 (by decide) (by decide)], by rw [← hb2]; simp [rl_wI, hj]⟩, fun z q1 q2 j hj => ?_⟩
      rw [← hb2]
      have y1 : z ≠ 66 := by omega
      have y2 : j ≠ 20 * l + ρ := by omega
      simp [rl_wI, y1, y2]
    refine ⟨b2, rfl, G2.trans G1 (Nat.le_refl _) (Nat.le_refl _) (Nat.le_refl _), fun x q1 q2 => ((o2 x (by simp; omega)).1).trans (o1 x (by simp; omega)).1, Or.inr ⟨q4, a', k1, k2, k3, k4, ?_, k6, k7, ?_, ?_, ?_, ?_⟩⟩
    · obtain ⟨y1, y2, y3, y4, y5, y6⟩ := k5
      exact ⟨by rw [(o2 58 (by simp)).1]; exact y1, by rw [(o2 58 (by simp)).1]; exact y2, by rw [(o2 58 (by simp)).1]; exact y3, by rw [(o2 58 (by simp)).1]; exact y4, by rw [(o2 58 (by simp)).1]; exact y5, y6.on o2 (by simp) (by simp) (by simp)⟩
    · rw [(o2 72 (by simp)).1]; exact e72'
    · rw [← hb2]; simp [rl_wI]
    · rw [← hb2]; simp [rl_wI]
    · refine (hd (by unfold isT tkI; rw [q4]; decide)).fr (Nat.le_refl _) (fun x y1 y2 jj _ => ?_) (fun jj _ => ?_)
      · rw [(o2 x (by simp; omega)).1, (o1 x (by simp; omega)).1]
      · have := (g2 c l).2.2
        rw [(o2 78 (by simp)).1, (o2 79 (by simp)).1]
        exact (g2 (500 * l + 500 + jj + 1) l).2.2 jj (Or.inl (by omega))
theorem t5_0 (hD : D = 5 ∨ D = 11) (hT : TT C n T K V P X) (hnx : ∀ s, s < T → K s ≠ 0 → s < 400 → s + 1 < T) (hl : l < 2) {N j c κ ρ p0 : Nat} (hN : N ≤ 20) (hρ : ρ < 20) {a b : am_S} (h1 : PS D C n K V X a j 2 0 0 N) (h2 : MS K V P T l b j 0 c) (hb : c ≤ 500 * l + j) (hj : j < T) (hj4 : j ≤ 400) (n8 : K j ≠ 8) (n9 : K j ≠ 9) (n10 : K j ≠ 10) (hx : K j ≠ 21) (e72 : b.1 72 l = nI κ) (e66 : b.1 66 l = nI ρ) (hw : 3 * κ ≤ j) : ∃ b', t5 (nI (20 * l + ρ)) 0 b = some ((), b') ∧ uG c κ ρ l b' b ∧ (∀ x, 67 ≤ x → x ≤ 70 → b'.1 x = b.1 x) ∧ (FO D P j a b' ∨ TO D C n K V P X T l κ ρ N false j c p0 a b') := by
  have e1 : f_X12_tellRule_L214 am_FU (nI (20 * l + ρ)) 0 1 b = some (.inr ((), b)) := L214_0 (n := 4999)
  obtain ⟨b', g1, g2, g0, g3⟩ := t5_end hD hT hnx hl (w := 0) hN hρ (Or.inl rfl) h1 h2 hb hj hj4 n8 n9 n10 (Or.inl ⟨rfl, hx⟩) e72 e66 hw (fun _ _ => false) (fun _ => 0) (fun _ => 0) (fun _ => true) (fun _ κ hκ => by omega)
  refine ⟨b', by unfold t5; rw [lp_r e1]; exact g1, g2, g0, ?_⟩
  rcases g3 with g3 | ⟨q, a', k1, k2, k3, k4, k5, k6, k7, k8, k9, k10, k11⟩
  · exact Or.inl g3
  · exact Or.inr ⟨a', j, c, 0, 0, _, _, _, _, k1, k2, k3, Nat.le_refl _, Nat.le_refl _, by decide, k4, k5, hb, k6, k7, q, k8, k9, k10, hw, k11, fun _ => ⟨rfl, rfl⟩, fun q => by cases q⟩
theorem t5_1 (hD : D = 5 ∨ D = 11) (hT : TT C n T K V P X) (hnx : ∀ s, s < T → K s ≠ 0 → s < 400 → s + 1 < T) (hl : l < 2) {N i c κ ρ : Nat} (hN : N ≤ 20) (hρ : ρ < 20) {a b : am_S} (h1 : PS D C n K V X a i 1 1 0 N) (h2 : MS K V P T l b i 0 c) (hb : c ≤ 500 * l + i) (hc : 500 * l ≤ c) (hi : i < T) (hi4 : i ≤ 400) (e72 : b.1 72 l = nI κ) (e66 : b.1 66 l = nI ρ) (hw : 3 * κ ≤ i) : ∃ b', t5 (nI (20 * l + ρ)) 1 b = some ((), b') ∧ uG c κ ρ l b' b ∧ (∀ x, 67 ≤ x → x ≤ 70 → b'.1 x = b.1 x) ∧ (FO D P i a b' ∨ TO D C n K V P X T l κ ρ N true i c i a b') := by
  obtain ⟨b1, g1, g2, g3⟩ := rs_loop hD hT hnx hl (κ0 := κ) (p0 := i) hN (nI (20 * l + ρ)) am_FU i c 0 true a b (fun _ _ => false) (fun _ => 0) (fun _ => 0) (fun _ => true) h1 h2 hb hc hi hi4 e72 hw (fun κ hκ => by omega) (fun _ => ⟨rfl, rfl⟩) (fun q => by omega) (by unfold am_FU; omega)
  have g1 : f_X12_tellRule_L214 am_FU (nI (20 * l + ρ)) 1 1 b = some (.inr ((), b1)) := g1
  unfold t5
  rw [lp_r g1]
  rcases g3 with g3 | ⟨a1, j, c1, w, tt, pp, ee, oo, k1, k2, k3, k4, k5, k6, k7, k8, k9, k10, k11, k12, k13, k14, k15, k16, k17, k18, k19⟩
  · have z := g3.ne
    have e2 : f_X12_must b1 4 = some ((), b1) := by rw [f_X12_must, bd_some (is_F z.1 4), if_pos rfl, bd_some (fail_F z.2 1)]
    rw [bd_some e2, if_pos z.2]
    exact ⟨b1, rfl, uG.of g2, fun x q1 q2 => (g2.1 x (by simp; omega)).1, Or.inl g3⟩
  · have e66' : b1.1 66 l = nI ρ := by rw [(g2.1 66 (by simp)).1]; exact e66
    obtain ⟨b', y1, y2, y0, y3⟩ := t5_end hD hT hnx hl hN hρ (Or.inr rfl) k6 k7 k8 k9 k10 k16 k17 k18 (Or.inr ⟨rfl, k14, k15⟩) k11 e66' k12 tt pp ee oo (fun q => (k19 q).1)
    refine ⟨b', y1, y2.trans (uG.of g2) k5 (by omega) (Nat.le_refl _), fun x q1 q2 => (y0 x q1 q2).trans (g2.1 x (by simp; omega)).1, ?_⟩
    rcases y3 with y3 | ⟨q, a', z1, z2, z3, z4, z5, z6, z7, z8, z9, z10, z11⟩
    · exact Or.inl (y3.tr k1 k2)
    · have hTm : isT (tkI K j) := by unfold isT tkI; rw [q]; decide
      exact Or.inr ⟨a', j, c1, w, 2, tt, pp, ee, oo, k1.trans z1, z2.trans k2, fun x => (z3 x).trans (k3 x), by omega, k5, by decide, z4, z5, k8, z6, z7, q, z8, z9, z10, k12, z11, fun q => (by cases q), fun _ => ⟨by omega, (k19 hTm).2⟩⟩
end RUB
