/-! ===== a relation is read on both sides ===== -/
theorem c_cg2 {tk tk' vl vl' v : Nat → Int32} {i n : Nat} (h : ∀ j, i ≤ j → j < i + n → tk' j = tk j ∧ (tk j = 2 → vl' j = vl j)) : ∀ m, m ≤ n → c_run tk' vl' v i m = c_run tk vl v i m := by
  intro m
  induction m with
  | zero => intro _; rfl
  | succ m ih =>
    intro hm
    obtain ⟨h1, h2⟩ := h (i + m) (by omega) (by omega)
    rw [c_run, c_run, ih (by omega), h1]
    unfold c_step c_fac
    by_cases q : tk (i + m) = 2
    · rw [h2 q]
    · simp only [if_neg q]
theorem EX.fr2 {tk vl cd ci tk' vl' cd' ci' : Nat → Int32} {i n k m : Nat} {X : (Nat → Int32) → Int32} (hx : EX tk vl cd ci i n k m X) (h : ∀ j, i ≤ j → j ≤ i + n → tk' j = tk j ∧ (tk j = 2 → vl' j = vl j)) (h2 : ∀ j, k ≤ j → j < k + m → cd' j = cd j ∧ ci' j = ci j) : EX tk' vl' cd' ci' i n k m X := by
  obtain ⟨x1, x2, x3, x4, x5, x6⟩ := hx
  have h3 : ∀ j, i ≤ j → j < i + n → tk' j = tk j := fun j q1 q2 => (h j q1 (by omega)).1
  refine ⟨xC_cg h3 x1, by rw [lev_cg h3 n (Nat.le_refl _)]; exact x2, by rw [(h (i + n) (by omega) (Nat.le_refl _)).1]; exact x3, xM_cg h2 x4, x5, fun v => ?_⟩
  rw [c_cg2 (fun j q1 q2 => h j q1 (by omega)) n (Nat.le_refl _), m_cg h2 m (Nat.le_refl _)]
  exact x6 v
/-- a relation, with the codes below U -/
def REb (tk vl : Nat → Int32) (M : Nat → Nat → Int32) (C U κ p e : Nat) (t : (Nat → Int32) → Bool) : Prop :=
  ∃ (n n' c m m' σ : Nat) (X Y : (Nat → Int32) → Int32), σ < 4 ∧ e = p + n + 1 + n' ∧ C ≤ c ∧ c + m + m' ≤ U ∧ tk (p + n) = nI (13 + σ) ∧ M 73 κ = nI σ ∧ M 74 κ = nI c ∧ M 75 κ = nI (c + m) ∧ M 76 κ = nI (c + m + m') ∧ EX tk vl (M 78) (M 79) p n c m X ∧ EX tk vl (M 78) (M 79) (p + n + 1) n' (c + m) m' Y ∧ ∀ v, t v = k_S σ (X v) (Y v)
theorem REb.fr {tk vl tk' vl' : Nat → Int32} {M M' : Nat → Nat → Int32} {C U U' κ p e : Nat} {t : (Nat → Int32) → Bool} (hx : REb tk vl M C U κ p e t) (hU : U ≤ U') (h : ∀ j, p ≤ j → j ≤ e → tk' j = tk j ∧ (tk j = 2 → vl' j = vl j)) (h1 : ∀ c, 73 ≤ c → c ≤ 76 → M' c κ = M c κ) (h2 : ∀ j, C ≤ j → j < U → M' 78 j = M 78 j ∧ M' 79 j = M 79 j) : REb tk' vl' M' C U' κ p e t := by
  obtain ⟨n, n', c, m, m', σ, X, Y, r1, r2, r3, r4, r5, r6, r7, r8, r9, r10, r11, r12⟩ := hx
  refine ⟨n, n', c, m, m', σ, X, Y, r1, r2, r3, by omega, ?_, ?_, ?_, ?_, ?_, r10.fr2 (fun j q1 q2 => h j q1 (by omega)) (fun j q1 q2 => h2 j (by omega) (by omega)), r11.fr2 (fun j q1 q2 => h j (by omega) (by omega)) (fun j q1 q2 => h2 j (by omega) (by omega)), r12⟩
  · rw [(h (p + n) (by omega) (by omega)).1]; exact r5
  · rw [h1 73 (by decide) (by decide)]; exact r6
  · rw [h1 74 (by decide) (by decide)]; exact r7
  · rw [h1 75 (by decide) (by decide)]; exact r8
  · rw [h1 76 (by decide) (by decide)]; exact r9
theorem REb.re {tk vl : Nat → Int32} {M : Nat → Nat → Int32} {C U κ p e : Nat} {t : (Nat → Int32) → Bool} (hx : REb tk vl M C U κ p e t) (hU : U ≤ C + 400) : RE tk vl M C κ p e t := by
  obtain ⟨n, n', c, m, m', σ, X, Y, r1, r2, r3, r4, r⟩ := hx
  exact ⟨n, n', c, m, m', σ, X, Y, r1, r2, r3, by omega, r⟩
/-- frame of a relation: codes from c on, relations from κ on, side l -/
def rG (c κ l : Nat) (b' b : am_S) : Prop := rw_on [58, 72, 73, 74, 75, 76, 77, 78, 79, 80] b' b ∧ (∀ i, i ≠ 11 → i ≠ 12 → i ≠ 13 → i ≠ 14 → i ≠ 32 → i ≠ 36 → b'.1 58 i = b.1 58 i) ∧ (∀ j, j < c ∨ 500 * l + 500 ≤ j → b'.1 78 j = b.1 78 j ∧ b'.1 79 j = b.1 79 j) ∧ (∀ x, 73 ≤ x → x ≤ 77 → ∀ j, j < 200 * l + κ ∨ 200 * l + 200 ≤ j → b'.1 x j = b.1 x j) ∧ ∀ j, j ≠ l → b'.1 72 j = b.1 72 j
theorem rG.of {c κ l : Nat} {b' b : am_S} (h : cG c l b' b) : rG c κ l b' b := ⟨h.1.mono (by simp), h.2.1, h.2.2, fun x q1 q2 j _ => by rw [(h.1 x (by simp; omega)).1], fun j _ => by rw [(h.1 72 (by simp)).1]⟩
theorem rG.trans {c c' κ κ' l : Nat} {x y z : am_S} (h : rG c' κ' l x y) (h' : rG c κ l y z) (hc : c ≤ c') (hk : κ ≤ κ') : rG c κ l x z :=
  ⟨h.1.trans h'.1, fun i a1 a2 a3 a4 a5 a6 => (h.2.1 i a1 a2 a3 a4 a5 a6).trans (h'.2.1 i a1 a2 a3 a4 a5 a6), fun j hj => by
    have e1 := h.2.2.1 j (by omega)
    have e2 := h'.2.2.1 j hj
    exact ⟨e1.1.trans e2.1, e1.2.trans e2.2⟩, fun x q1 q2 j hj => (h.2.2.2.1 x q1 q2 j (by omega)).trans (h'.2.2.2.1 x q1 q2 j hj), fun j hj => (h.2.2.2.2 j hj).trans (h'.2.2.2.2 j hj)⟩
theorem next_F {b : am_S} (h : 0 < b.1 58 13) : ∃ b', f_X12_next b = some ((), b') ∧ cG 0 0 b' b ∧ (∀ c l, cG c l b' b) ∧ b'.1 58 13 = b.1 58 13 ∧ b'.1 58 14 = b.1 58 14 := by
  by_cases q : b.1 58 11 = 400
  · exact ⟨b, by rw [f_X12_next, if_pos q, bd_some (fail_F h 2)], cG.refl _ _ _, fun _ _ => cG.refl _ _ _, rfl, rfl⟩
  · exact ⟨_, by rw [f_X12_next, if_neg q], cG.f (by simp) _, fun _ _ => cG.f (by simp) _, by simp [rl_wI], by simp [rl_wI]⟩
/-- a relation that has been read -/
def RO (D : Nat) (C : Nat → Nat) (n : Nat) (K : Nat → Nat) (V : Nat → Int32) (P X : Nat → Nat) (T l i c κ N : Nat) (o : Bool) (a b' : am_S) : Prop := ∃ (a' : am_S) (j c' : Nat), PLc D i a = PLc D j a' ∧ cA D a' a ∧ (∀ j, a'.1 (D + 1) j = a.1 (D + 1) j) ∧ i + 3 ≤ j ∧ c ≤ c' ∧ PS D C n K V X a' j 2 2 0 N ∧ MS K V P T l b' j 0 c' ∧ c' ≤ 500 * l + j ∧ j < T ∧ j ≤ 400 ∧ K j ≠ 8 ∧ K j ≠ 9 ∧ K j ≠ 10 ∧ b'.1 72 l = nI (κ + 1) ∧ b'.1 77 (200 * l + κ) = mc_i o ∧ (isT (tkI K j) → ∃ t, REb (tkI K) V b'.1 (500 * l) c' (200 * l + κ) i j t)
section REL
variable {C : Nat → Nat} {n : Nat} {K : Nat → Nat} {V : Nat → Int32} {P X : Nat → Nat} {D T l : Nat}
/-- behind a fault -/
theorem rl_tail {b : am_S} {x1 y1 y2 : Int32} (h : 0 < b.1 58 13) : ∃ b', (am_bd (f_X12_next b) (fun (_ : Unit) s55 => am_bd (f_X12_expression s55) (fun (_ : Unit) s65 => if 0 < (s65.1 58 13) then (some ((), s65)) else (am_gu (am_in (s65.1 58 19) 2) (am_gu (am_in ((200 * (s65.1 58 19)) + (s65.1 72 (Int32.toNatClampNeg (s65.1 58 19)))) 400) (am_gu (am_in ((200 * (s65.1 58 19)) + (s65.1 72 (Int32.toNatClampNeg (s65.1 58 19)))) 400) (am_gu (am_in ((200 * (s65.1 58 19)) + (s65.1 72 (Int32.toNatClampNeg (s65.1 58 19)))) 400) (am_gu (am_in ((200 * (s65.1 58 19)) + (s65.1 72 (Int32.toNatClampNeg (s65.1 58 19)))) 400) (am_gu (am_in ((200 * (s65.1 58 19)) + (s65.1 72 (Int32.toNatClampNeg (s65.1 58 19)))) 400) (am_gu (am_in (s65.1 58 19) 2) (am_gu (am_in (s65.1 58 19) 2) (some ((), (am_wI (am_wI (am_wI (am_wI (am_wI (am_wI s65 73 (Int32.toNatClampNeg ((200 * (s65.1 58 19)) + (s65.1 72 (Int32.toNatClampNeg (s65.1 58 19))))) y1) 74 (Int32.toNatClampNeg ((200 * (s65.1 58 19)) + (s65.1 72 (Int32.toNatClampNeg (s65.1 58 19))))) y2) 75 (Int32.toNatClampNeg ((200 * (s65.1 58 19)) + (s65.1 72 (Int32.toNatClampNeg (s65.1 58 19))))) (s55.1 58 32)) 76 (Int32.toNatClampNeg ((200 * (s65.1 58 19)) + (s65.1 72 (Int32.toNatClampNeg (s65.1 58 19))))) (s65.1 58 32)) 77 (Int32.toNatClampNeg ((200 * (s65.1 58 19)) + (s65.1 72 (Int32.toNatClampNeg (s65.1 58 19))))) (am_nar 3 x1)) 72 (Int32.toNatClampNeg (s65.1 58 19)) ((s65.1 72 (Int32.toNatClampNeg (s65.1 58 19))) + 1))))))))))))))) = some ((), b') ∧ (∀ c l, cG c l b' b) ∧ b'.1 58 13 = b.1 58 13 ∧ b'.1 58 14 = b.1 58 14 := by
  obtain ⟨b1, g1, -, g2, g3, g4⟩ := next_F h
  have h1 : 0 < b1.1 58 13 := by rw [g3]; exact h
  have h2 : ¬ b1.1 58 13 = 0 := fun q => by rw [q] at h1; exact absurd h1 (by decide)
  have ex := ex_F h2
  have h3 : 0 < (am_wI b1 58 36 0).1 58 13 := by rw [show (am_wI b1 58 36 0).1 58 13 = b1.1 58 13 by simp [rl_wI]]; exact h1
  refine ⟨am_wI b1 58 36 0, ?_, fun c l => (cG.f (by simp) _).trans (g2 c l) (Nat.le_refl _), ?_, ?_⟩
  · rw [bd_some g1, bd_some ex, if_pos h3]
  · rw [← g3]; simp [rl_wI]
  · rw [← g4]; simp [rl_wI]
theorem re_all (hD : D = 5 ∨ D = 11) (hT : TT C n T K V P X) (hnx : ∀ s, s < T → K s ≠ 0 → s < 400 → s + 1 < T) (hl : l < 2) {N i c κ : Nat} {o : Bool} (hN : N ≤ 20) (hc : 500 * l ≤ c) {a b : am_S} (h1 : PS D C n K V X a i 1 1 0 N) (h2 : MS K V P T l b i 0 c) (hb : c ≤ 500 * l + i) (hi : i < T) (hi4 : i ≤ 400) (e72 : b.1 72 l = nI κ) (hκ : 3 * κ ≤ i) : ∃ b', f_X12_relation b (mc_i o) = some ((), b') ∧ rG c κ l b' b ∧ (FO D P i a b' ∨ RO D C n K V P X T l i c κ N o a b') := by
  obtain ⟨b1, g1, g2, g3⟩ := ex_all hD hT hnx hl (sd := 1) (by decide) hN hc h1 h2 hb hi hi4
  unfold f_X12_relation
  rw [bd_some g1]
  simp only [am_jn]
  rcases g3 with g3 | ⟨a1, m, k, f, z, k1, k2, k3, k4, k5, k6, k7, k8, k9, k10, k11, k12, k13, k14⟩
  · have z := g3.ne
    obtain ⟨b2, t1, t2, t3, t4⟩ := rl_tail (x1 := mc_i o) (y1 := 0) (y2 := b.1 58 32) z.2
    rw [if_pos z.2, if_neg z.1]
    exact ⟨b2, t1, (rG.of (t2 c l)).trans (rG.of g2) (Nat.le_refl _) (Nat.le_refl _), Or.inl (g3.on t3 t4)⟩
  · have hK := (hT (i + m) k10).2
    have d2 : am_in (nI (i + m)) 403 = true := rl_nin (by decide) (by omega)
    have d3 : (nI (i + m)).toNatClampNeg = i + m := nI_clamp (by omega)
    have z0 : ¬ (0 : Int32) < 0 := by decide
    rw [k7.2.2.1, if_neg z0, k7.1, rl_gu d2, d3, (k7.2.2.2.2.2 _ k10).1, if_pos rfl]
    by_cases hsg : 11 ≤ K (i + m) ∧ K (i + m) ≤ 14
    · have e1 : nI (K (i + m)) - 11 = nI (K (i + m) - 11) := pk_sub (b := 11) hsg.1
      have c1 : ¬ nI (K (i + m) - 11) < 0 := nI_pos (by omega)
      have c2 : ¬ (3 : Int32) < nI (K (i + m) - 11) := nI_nlt (a := 3) (by omega) (by decide)
      rw [e1, if_neg c1, if_neg c2]
      have key : ∀ k, k < 34 → (11 ≤ k ∧ k ≤ 14) → cm k = 13 + (k - 11) ∧ goes 2 1 0 (cm k) = true ∧ mq 2 (cm k) = 1 ∧ ms 1 (cm k) = 2 ∧ cm k ≠ 17 ∧ cm k ≠ 18 := by decide
      obtain ⟨w1, w2, w3, w4, w5, w6⟩ := key _ hK hsg
      by_cases i400 : i + m = 400
      · have nx := next_E (by rw [i400] at k7; exact k7) (by omega)
        have fo : FO D P (i + m) a1 (am_wI (am_wI b1 58 13 2) 58 14 (nI (P 400))) := fo_room hD hT k6 k10 k11 (by decide) (by decide) (by decide) hN w2 (Or.inl i400) (by simp [rl_wI]) (by rw [i400]; simp [rl_wI])
        generalize hb2 : am_wI (am_wI b1 58 13 2) 58 14 (nI (P 400)) = b2 at nx fo
        have G2 : cG c l b2 b1 := by
          rw [← hb2]
          exact (cG.f (c := c) (l := l) (i := 14) (by simp) _).trans (cG.f (c := c) (l := l) (b := b1) (i := 13) (by simp) 2) (Nat.le_refl _)
        have z := fo.ne
        have ex := ex_F z.1
        have h3 : 0 < (am_wI b2 58 36 0).1 58 13 := by rw [show (am_wI b2 58 36 0).1 58 13 = b2.1 58 13 by simp [rl_wI]]; exact z.2
        refine ⟨am_wI b2 58 36 0, ?_, rG.of (((cG.f (c := c) (l := l) (i := 36) (by simp) _).trans G2 (Nat.le_refl _)).trans g2 (Nat.le_refl _)), Or.inl ((fo.on (by simp [rl_wI]) (by simp [rl_wI])).tr (i := i) k1 k2)⟩
        rw [bd_some nx, bd_some ex, if_pos h3]
      · have nx := next_M k7 (by omega)
        obtain ⟨a2, p1, p2, p3, p4⟩ := pl_go hD hT k6 k10 k11 (by decide) (by decide) (by decide) hN w2 (by
          rintro (y | ⟨y, -⟩ | ⟨y, -⟩)
          · exact i400 y
          · cases y
          · exact w5 y) (fun y => absurd y w6)
        rw [w3, w4, ml_n w5 w6, if_neg (by decide)] at p2
        have p4 : ∀ j, a2.1 (D + 1) j = a1.1 (D + 1) j := fun j => by rw [p4 j, if_neg (fun y => by cases y.1)]
        have hi1 := hnx (i + m) k10 (by omega) (by omega)
        have hM2 := k7.nx (i + m + 1)
        obtain ⟨b3, q1, q2, q3⟩ := ex_all hD hT hnx hl (sd := 2) (by decide) hN (show 500 * l ≤ c + k by omega) p2 hM2 (by omega) hi1 (by omega)
        have G3 : cG c l b3 b := (q2.trans (cG.f (c := c) (l := l) (b := b1) (i := 11) (by simp) _ |>.trans g2 (Nat.le_refl _) : cG c l (am_wI b1 58 11 (nI (i + m + 1))) b) (by omega))
        rw [bd_some nx, bd_some q1]
        rcases q3 with q3 | ⟨a3, m2, k', f2, z2, j1, j2, j3, j4, j5, j6, j7, j8, j9, j10, j11, j12, j13, j14⟩
        · rw [if_pos q3.ne.2]
          exact ⟨b3, rfl, rG.of G3, Or.inl (((q3.tr p1 p3).tr (i := i) k1 k2))⟩
        · have l2 : am_in (nI l) 2 = true := rl_nin (by decide) hl
          have l3 : (nI l).toNatClampNeg = l := nI_clamp (by omega)
          have e72' : b3.1 72 l = nI κ := by rw [(G3.1 72 (by simp)).1]; exact e72
          have κ200 : κ < 200 := by omega
          have x2 : am_in (nI (200 * l + κ)) 400 = true := rl_nin (by decide) (by omega)
          have x3 : (nI (200 * l + κ)).toNatClampNeg = 200 * l + κ := nI_clamp (by omega)
          have d4 : nI κ + 1 = nI (κ + 1) := nI_1 κ
          have e32 : (am_wI b1 58 11 (nI (i + m + 1))).1 58 32 = nI (c + k) := by simp [rl_wI]; exact k7.2.2.2.1
          have nar : ∀ o : Bool, am_nar 3 (mc_i o) = mc_i o := by decide
          rw [j7.2.2.1, if_neg z0, j7.2.2.2.2.1, rl_gu l2, l3, e72', i_200, rl_gu x2, rl_gu x2, rl_gu x2, rl_gu x2, rl_gu x2, rl_gu l2, rl_gu l2, x3, h2.2.2.2.1, e32, j7.2.2.2.1, nar, d4]
          generalize hb4 : am_wI (am_wI (am_wI (am_wI (am_wI (am_wI b3 73 (200 * l + κ) (nI (K (i + m) - 11))) 74 (200 * l + κ) (nI c)) 75 (200 * l + κ) (nI (c + k))) 76 (200 * l + κ) (nI (c + k + k'))) 77 (200 * l + κ) (mc_i o)) 72 l (nI (κ + 1)) = b4
          have o4 : rw_on [72, 73, 74, 75, 76, 77] b4 b3 := by
            rw [← hb4]
            exact ((((((rw_on.refl _ _).w (by simp) _ _).w (by simp) _ _).w (by simp) _ _).w (by simp) _ _).w (by simp) _ _).w (by simp) _ _
          have y : ∀ x, 73 ≤ x → x ≤ 77 → ∀ j, j ≠ 200 * l + κ → b4.1 x j = b3.1 x j := by
            intro x q1 q2 j hj
            rw [← hb4]
            have n72 : x ≠ 72 := by omega
            simp [rl_wI, n72, hj]
          have R4 : rG (c + k) κ l b4 b3 := ⟨o4.mono (by simp), fun i _ _ _ _ _ _ => by rw [(o4 58 (by simp)).1], fun j _ => ⟨by rw [(o4 78 (by simp)).1], by rw [(o4 79 (by simp)).1]⟩, fun x q1 q2 j hj => y x q1 q2 j (by omega), fun j hj => by rw [← hb4]; simp [rl_wI, hj]⟩
          refine ⟨b4, rfl, R4.trans (rG.of G3) (by omega) (Nat.le_refl _), Or.inr ⟨a3, i + m + 1 + m2, c + k + k', (k1.trans p1).trans j1, (j2.trans p3).trans k2, fun j => ((j3 j).trans (p4 j)).trans (k3 j), by omega, by omega, j6, ?_, by omega, j10, j11, j12, j13, j14, ?_, ?_, fun hTm => ?_⟩⟩
          · obtain ⟨y1, y2, y3, y4, y5, y6⟩ := j7
            refine ⟨?_, ?_, ?_, ?_, ?_, y6.on o4 (by simp) (by simp) (by simp)⟩
            · rw [(o4 58 (by simp)).1]; exact y1
            · rw [(o4 58 (by simp)).1]; exact y2
            · rw [(o4 58 (by simp)).1]; exact y3
            · rw [(o4 58 (by simp)).1]; exact y4
            · rw [(o4 58 (by simp)).1]; exact y5
          · rw [← hb4]; simp [rl_wI]
          · rw [← hb4]; simp [rl_wI]
          · have t1 : isT (tkI K (i + m)) := by
              have : ∀ k, k < 34 → (11 ≤ k ∧ k ≤ 14) → nI (cm k) = 13 ∨ nI (cm k) = 14 ∨ nI (cm k) = 15 ∨ nI (cm k) = 16 := by decide +kernel
              unfold isT tkI
              have := this _ hK hsg
              simp [this]
            have E1 := k8.fin t1 (by omega)
            have E2 := j8.fin hTm (by omega)
            have M78 : b4.1 78 = b3.1 78 := (o4 78 (by simp)).1
            have M79 : b4.1 79 = b3.1 79 := (o4 79 (by simp)).1
            refine ⟨fun v => k_S (K (i + m) - 11) (fw f z v) (fw f2 z2 v), m, m2, c, k, k', K (i + m) - 11, fw f z, fw f2 z2, by omega, by omega, hc, Nat.le_refl _, ?_, ?_, ?_, ?_, ?_, ?_, ?_, fun v => rfl⟩
            · unfold tkI; rw [w1]
            · rw [← hb4]; simp [rl_wI]
            · rw [← hb4]; simp [rl_wI]
            · rw [← hb4]; simp [rl_wI]
            · rw [← hb4]; simp [rl_wI]
            · rw [M78, M79]
              exact E1.fr (fun j _ _ => ⟨rfl, rfl⟩) (fun j y1 y2 => q2.2.2 j (Or.inl y2))
            · rw [M78, M79]; exact E2
    · have key : ∀ k, k < 34 → ¬ (11 ≤ k ∧ k ≤ 14) → k ≠ 8 ∧ k ≠ 9 ∧ k ≠ 10 → goes 2 1 0 (cm k) = false := by decide
      have hgo := key _ hK hsg ⟨k12, k13, k14⟩
      have fl := fail_M k7 k10 k11 1
      have fo : FO D P (i + m) a1 (am_wI (am_wI b1 58 13 1) 58 14 (nI (P (i + m)))) := fo_bad hD hT k6 k10 k11 (by decide) (by decide) (by decide) (fun q => by cases q.1) hgo (by simp [rl_wI]) (by simp [rl_wI])
      generalize hb2 : am_wI (am_wI b1 58 13 1) 58 14 (nI (P (i + m))) = b2 at fl fo
      have G2 : cG c l b2 b1 := by
        rw [← hb2]
        exact (cG.f (c := c) (l := l) (i := 14) (by simp) _).trans (cG.f (c := c) (l := l) (b := b1) (i := 13) (by simp) 1) (Nat.le_refl _)
      have z := fo.ne
      obtain ⟨b3, t1, t2, t3, t4⟩ := rl_tail (x1 := mc_i o) (y1 := nI (K (i + m)) - 11) (y2 := b.1 58 32) z.2
      refine ⟨b3, ?_, rG.of (((t2 c l).trans G2 (Nat.le_refl _)).trans g2 (Nat.le_refl _)), Or.inl ((fo.on t3 t4).tr (i := i) k1 k2)⟩
      by_cases q : nI (K (i + m)) - 11 < 0
      · rw [if_pos q, bd_some fl]; exact t1
      · have q2 : (3 : Int32) < nI (K (i + m)) - 11 := by
          have h11 : 11 ≤ K (i + m) := by
            apply Decidable.byContradiction
            intro y
            exact q (pk_sneg (b := 11) (by decide) (by omega))
          rw [show nI (K (i + m)) - 11 = nI (K (i + m) - 11) from pk_sub (b := 11) h11]
          exact nI_lt (a := 3) (by omega) (by omega)
        rw [if_neg q, if_pos q2, bd_some fl]; exact t1
end REL
