/-! ===== read on both sides: all of it ===== -/
def kys (b : am_S) : Prop := ∀ k, k < 14 → b.2 65 k = am_keys.getD k 0
theorem dr_or (sw : Bool) : am_dr sw = 5 ∨ am_dr sw = 11 := by cases sw <;> decide
theorem ru_dr (sw : Bool) : am_ru (!sw) = am_dr sw := by cases sw <;> rfl
theorem ru_ne (sw : Bool) : am_ru sw = 5 ∧ am_dr sw = 11 ∨ am_ru sw = 11 ∧ am_dr sw = 5 := by cases sw <;> decide
/-- the rules in force stay, where only the other side is written -/
theorem RR.oth {sw : Bool} {a b a' b' : am_S} {l l0 : Nat} (h : RR (am_ru sw) a b) (hl : l < 2) (h18 : b.1 58 18 = nI l0) (hl0 : l0 < 2) (hne : l0 ≠ l) (ha : ∀ i, i ≤ 3 → a'.1 (am_ru sw + i) = a.1 (am_ru sw + i)) (h18' : b'.1 58 18 = b.1 58 18) (h66 : b'.1 66 l0 = b.1 66 l0) (hc : ∀ j, j < 500 * l ∨ 500 * l + 500 ≤ j → b'.1 78 j = b.1 78 j ∧ b'.1 79 j = b.1 79 j) (hr : ∀ x, 73 ≤ x → x ≤ 77 → ∀ j, j < 200 * l ∨ 200 * l + 200 ≤ j → b'.1 x j = b.1 x j) (hu : ∀ x, 67 ≤ x → x ≤ 71 → ∀ j, j < 20 * l ∨ 20 * l + 20 ≤ j → b'.1 x j = b.1 x j) : RR (am_ru sw) a' b' := by
  obtain ⟨l1, T, N, sg, hd, vv, ⟨q1, q2, q3, q4⟩, k1, k2, k3, k4⟩ := h
  have e1 : l1 = l0 := (nI_eq (by omega) (by omega)).mp (k3.symm.trans h18)
  subst e1
  have a0 := ha 0 (by omega)
  rw [Nat.add_zero] at a0
  refine ⟨l1, T, N, sg, hd, vv, ⟨q1, q2, q3, fun r hr' => ?_⟩, by rw [a0]; exact k1, by rw [a0]; exact k2, by rw [h18']; exact k3, by rw [h66]; exact k4⟩
  refine (q4 r hr').fr (Nat.le_refl _) ?_ ?_ ?_ ?_ ?_
  · rw [ha 1 (by omega)]
  · intro j _
    rw [ha 2 (by omega), ha 3 (by omega)]
    exact ⟨rfl, rfl⟩
  · intro x y1 y2
    exact hu x y1 y2 _ (by omega)
  · intro x κ f y1 y2 _ y4 y5 y6
    exact hr x y1 y2 κ (by omega)
  · intro j y1 y2
    exact hc j (by omega)
def rdA (D : Nat) (a' a : am_S) : Prop := rw_on [0, 1, 3, 4, D, D + 1, D + 2, D + 3] a' a ∧ ∀ k, k ≠ 4 → a'.1 0 k = a.1 0 k
def rdB (b' b : am_S) : Prop := rw_on [58, 60, 61, 62, 63, 64, 66, 67, 68, 69, 70, 71, 72, 73, 74, 75, 76, 77, 78, 79, 80] b' b ∧ ∀ i, 37 ≤ i → b'.1 58 i = b.1 58 i
theorem m_read (sw : Bool) (a b : am_S) (h : rl_x [] a b) (ht : ri_tape a) (hR : RR (am_ru sw) a b) (hs : sd3 a) (hk : kys b) : ∃ v sw' a' b', f_X11_read sw a = some ((v, sw'), a') ∧ f_X12_read b = some (v, b') ∧ rl_x [] a' b' ∧ ri_tape a' ∧ RR (am_ru sw') a' b' ∧ sd3 a' ∧ rdA (am_dr sw) a' a ∧ rdB b' b := by
  have hD := dr_or sw
  obtain ⟨N, N1, N2⟩ := ht
  obtain ⟨sd, sd1, sd2⟩ := hs
  have e2 : b.1 58 2 = nI N := (h.f (c := 1) (k := 1) (by decide)).trans N2
  have r2 : b.1 59 = a.1 2 := h.r (by decide) (by simp)
  obtain ⟨l0, T0, N0, sg0, hd0, vv0, ⟨u1, u2, u3, u4⟩, u5, u6, u7, u8⟩ := id hR
  generalize hCdef : (fun i => (a.1 2 i).toBitVec.toNat % 2 ^ 8) = C
  have hC : ∀ i, (a.1 2 i) &&& 255 = nI (C i) ∧ C i < 256 := by
    intro i
    rw [← hCdef]
    exact ⟨pk_and (a.1 2 i) 8 (by decide), Nat.mod_lt _ (by decide)⟩
  -- the reference: copy, cut
  have m58 : (am_wI b 58 4 (b.1 58 2)).1 58 4 = nI N := by simp [rl_wI]; exact e2
  obtain ⟨b1, c1, c2, c3⟩ := cp_loop N1 am_FU 0 (am_wI b 58 4 (b.1 58 2)) m58 (by omega) (by unfold am_FU; omega) (fun j hj => by omega)
  have c1 : f_X12_read_L10 am_FU 0 (am_wI b 58 4 (b.1 58 2)) = _ := c1
  generalize hb2 : am_wI b1 58 2 0 = b2
  have o2 : rw_on [58, 60] b2 b := by
    rw [← hb2]
    exact ((c2.mono (by simp)).w (by simp) _ _).trans ((rw_on.refl _ _).w (by simp) _ _)
  have f2 : ∀ i, i ≠ 2 → i ≠ 4 → b2.1 58 i = b.1 58 i := by
    intro i y1 y2
    rw [← hb2, rl_wI]
    simp only [if_true, if_neg y1]
    rw [(c2 58 (by simp)).1]
    simp [rl_wI, y2]
  have htx : tx b2 C N := by
    refine ⟨?_, N1, fun i hi => ?_, ?_⟩
    · rw [← hb2, rl_wI]
      simp only [if_true]
      rw [if_neg (by decide), (c2 58 (by simp)).1]
      exact m58
    · have e : b2.1 60 i = am_nar 1 (a.1 2 i) := by
        rw [← hb2, rl_wr _ _ (by decide), c3 i hi, rl_wr _ _ (by decide), r2]
      rw [e, nar_255]
      exact hC i
    · intro k hk'
      rw [(o2 65 (by simp)).2]
      exact hk k hk'
  obtain ⟨b3, T, K, V, P, X, d1, d2, d3, d4⟩ := cut_all htx
  obtain ⟨T0', T401, ⟨X0, hSQ⟩, hK0, hTe⟩ := d2
  have hT : TT C N T K V P X := fun s hs' => ⟨(hSQ s hs').1, (hSQ s hs').2.2.2.2⟩
  have hnx : ∀ s, s < T → K s ≠ 0 → s < 400 → s + 1 < T := by
    intro s s1 s2 s3
    apply Decidable.byContradiction
    intro q
    have e : s = T - 1 := by omega
    rcases hTe with y | y
    · omega
    · rw [← e] at y; exact s2 y
  have o3 : rw_on [58, 60, 61, 62, 63, 64] b3 b := (d3.mono (by simp)).trans (o2.mono (by simp))
  have f3 : ∀ i, i ≠ 2 → i ≠ 4 → i ≠ 10 → b3.1 58 i = b.1 58 i := fun i y1 y2 y3 => (d4 i y3).trans (f2 i y1 y2)
  have e18 : b3.1 58 18 = nI l0 := by rw [f3 18 (by decide) (by decide) (by decide)]; exact u7
  -- the side
  obtain ⟨l, hl, hll⟩ : ∃ l, l < 2 ∧ l + l0 = 1 := ⟨1 - l0, by omega, by omega⟩
  have s1 : 1 - nI l0 = nI l := by rw [show (1 : Int32) = nI 1 from rfl, pk_sub (by omega)]; congr 1; omega
  have l2 : am_in (nI l) 2 = true := rl_nin (by decide) hl
  have l3 : (nI l).toNatClampNeg = l := nI_clamp (by omega)
  have s500 : 500 * nI l = nI (500 * l) := by rw [show (500 : Int32) = nI 500 from rfl, pk_mul]
  generalize hb4 : am_wI (am_wI (am_wI (am_wI (am_wI (am_wI (am_wI (am_wI b3 58 11 0) 58 12 0) 58 13 0) 58 15 0) 58 19 (nI l)) 66 l 0) 72 l 0) 58 32 (nI (500 * l)) = b4
  have o4 : rw_on [58, 66, 72] b4 b3 := by
    rw [← hb4]
    exact ((((((((rw_on.refl _ _).w (by simp) _ _).w (by simp) _ _).w (by simp) _ _).w (by simp) _ _).w (by simp) _ _).w (by simp) _ _).w (by simp) _ _).w (by simp) _ _
  have hM4 : MS K V P T l b4 0 0 (500 * l) := by
    refine ⟨by rw [← hb4]; simp [rl_wI]; rfl, by rw [← hb4]; simp [rl_wI]; rfl, by rw [← hb4]; simp [rl_wI], by rw [← hb4]; simp [rl_wI], by rw [← hb4]; simp [rl_wI], ?_⟩
    intro s s1
    rw [(o4 61 (by simp)).1, (o4 62 (by simp)).1, (o4 63 (by simp)).1]
    obtain ⟨-, y1, y2, y3, -⟩ := hSQ s s1
    exact ⟨y1, y2, y3⟩
  have q72 : b4.1 72 l = nI 0 := by rw [← hb4]; simp [rl_wI]; rfl
  have q66 : b4.1 66 l = nI 0 := by rw [← hb4]; simp [rl_wI]; rfl
  have f4 : ∀ i, i ≠ 11 → i ≠ 12 → i ≠ 13 → i ≠ 15 → i ≠ 19 → i ≠ 32 → b4.1 58 i = b3.1 58 i := by
    intro i y1 y2 y3 y4 y5 y6
    rw [← hb4]; simp [rl_wI, y1, y2, y3, y4, y5, y6]
  have g4 : ∀ j, j ≠ l → b4.1 66 j = b3.1 66 j ∧ b4.1 72 j = b3.1 72 j := by
    intro j hj
    rw [← hb4]; simp [rl_wI, hj]
  -- the tokens' side: start
  have nD : am_dr sw ≠ 3 ∧ am_dr sw ≠ 4 := by omega
  generalize ha0 : am_wI (am_wI (am_wI (am_wI (am_wI (am_wI a (am_dr sw) 0 0) (am_dr sw) 2 0) 4 1 0) 4 2 0) 3 1 0) 3 3 0 = a0
  have oa0 : rw_on [3, 4, am_dr sw] a0 a := by
    rw [← ha0]
    exact ((((((rw_on.refl _ _).w (by simp) _ _).w (by simp) _ _).w (by simp) _ _).w (by simp) _ _).w (by simp) _ _).w (by simp) _ _
  have pi : f_X6_parseInto (am_dr sw) a = am_lp (fun y => y) (PLc (am_dr sw) 0 a0) (fun (_ : Unit) s23 => some ((2), s23)) := by
    rw [← ha0]
    rfl
  have hP0 : PS (am_dr sw) C N K V X a0 0 0 sd 0 0 := by
    refine ⟨⟨?_, N1, fun i hi => ?_⟩, ?_, ?_, ?_, ?_, ?_, ?_, fun j hj => by omega⟩
    · rw [(oa0 1 (by simp; omega)).1]; exact N2
    · rw [(oa0 2 (by simp; omega)).1]; exact hC i
    · rw [X0, ← ha0]; simp [rl_wI]; rfl
    · rw [← ha0]; simp [rl_wI]; rfl
    · rw [← ha0]; simp [rl_wI, show (3 : Nat) ≠ am_dr sw from fun q => nD.1 q.symm]; exact sd2
    · rw [← ha0]; simp [rl_wI]; rfl
    · rw [← ha0]; simp [rl_wI, nD.1, nD.2]; rfl
    · rw [← ha0]; simp [rl_wI, nD.1, nD.2]; rfl
  obtain ⟨b5, k1, k2, k3⟩ := rd_loop hD hT hnx hl am_FU 0 (500 * l) 0 0 sd a0 b4 (fun _ => 0) (fun _ _ => false) (fun _ _ => 0) hP0 hM4 (by omega) (by omega) T0' (by omega) q72 (by omega) q66 (by omega) sd1 (fun r hr => by omega) (by unfold am_FU; omega)
  -- what the reference answers
  have rm : f_X12_read b = (if 0 < (b5.1 58 13) then (some ((b5.1 58 13), (am_wI b5 58 17 (b5.1 58 14)))) else (some ((0), (am_wI (am_wI b5 58 17 (-1)) 58 18 (b5.1 58 19))))) := by
    unfold f_X12_read
    rw [lp_r c1, hb2, bd_some d1, e18, s1, rl_gu l2, rl_gu l2, l3, s500, hb4, lp_r k1]
    simp only [am_jn]
    split <;> rfl
  have oB : rw_on [58, 60, 61, 62, 63, 64, 66, 67, 68, 69, 70, 71, 72, 73, 74, 75, 76, 77, 78, 79, 80] b5 b := (k2.1.mono (by simp)).trans ((o4.mono (by simp)).trans (o3.mono (by simp)))
  have f5 : ∀ i, i ≠ 2 → i ≠ 4 → i ≠ 10 → i ≠ 11 → i ≠ 12 → i ≠ 13 → i ≠ 14 → i ≠ 15 → i ≠ 19 → i ≠ 32 → i ≠ 36 → b5.1 58 i = b.1 58 i := fun i y1 y2 y3 y4 y5 y6 y7 y8 y9 y10 y11 => ((k2.2.1 i y4 y5 y6 y7 y10 y11).trans (f4 i y4 y5 y6 y8 y9 y10)).trans (f3 i y1 y2 y3)
  have t5' : b5.1 58 2 = 0 := by
    rw [k2.2.1 2 (by decide) (by decide) (by decide) (by decide) (by decide) (by decide), f4 2 (by decide) (by decide) (by decide) (by decide) (by decide) (by decide), d4 2 (by decide), ← hb2]
    simp [rl_wI]
  have hne : l0 ≠ l := by omega
  have lr := ru_ne sw
  -- the rest of the fields and rows
  have rel : ∀ (a' b' : am_S) (x : Int32), rw_on [0, 1, 3, 4, am_dr sw, am_dr sw + 1, am_dr sw + 2, am_dr sw + 3] a' a → rw_on [58, 60, 61, 62, 63, 64, 66, 67, 68, 69, 70, 71, 72, 73, 74, 75, 76, 77, 78, 79, 80] b' b → (∀ k, k ≠ 4 → a'.1 0 k = a.1 0 k) → (∀ i, 37 ≤ i → b'.1 58 i = b.1 58 i) → a'.1 1 1 = 0 → b'.1 58 2 = 0 → a'.1 0 4 = x → b'.1 58 17 = x → rl_x [] a' b' := by
    intro a' b' x y1 y2 y3 y4 y5 y6 y7 y8
    have dA : ∀ p ∈ rl_rows, p.1 ∉ [0, 1, 3, 4, 5, 5 + 1, 5 + 2, 5 + 3] ∧ p.1 ∉ [0, 1, 3, 4, 11, 11 + 1, 11 + 2, 11 + 3] ∧ p.2 ∉ [58, 60, 61, 62, 63, 64, 66, 67, 68, 69, 70, 71, 72, 73, 74, 75, 76, 77, 78, 79, 80] := by decide
    refine ⟨fun p hp _ => ?_, fun p hp => ?_⟩
    · obtain ⟨w1, w2, w3⟩ := dA p hp
      have w4 : p.1 ∉ [0, 1, 3, 4, am_dr sw, am_dr sw + 1, am_dr sw + 2, am_dr sw + 3] := by
        rcases hD with q | q <;> rw [q]
        · exact w1
        · exact w2
      rw [(y1 p.1 w4).1, (y2 p.2 w3).1]
      exact h.1 p hp (by simp)
    · have dF : ∀ p ∈ rl_flds, p = (1, 1, 2) ∨ p = (0, 4, 17) ∨ (p.1 = 0 ∧ p.2.1 ≠ 4 ∧ 37 ≤ p.2.2) ∨ (p.1 ∉ [0, 1, 3, 4, 5, 5 + 1, 5 + 2, 5 + 3] ∧ p.1 ∉ [0, 1, 3, 4, 11, 11 + 1, 11 + 2, 11 + 3] ∧ 37 ≤ p.2.2) := by decide
      rcases dF p hp with q | q | ⟨q1, q2, q3⟩ | ⟨q1, q2, q3⟩
      · rw [q]; exact y5.trans y6.symm
      · rw [q]; exact y7.trans y8.symm
      · have := h.2 p hp
        rw [q1] at this ⊢
        rw [y3 _ q2, y4 _ q3]
        exact this
      · have w4 : p.1 ∉ [0, 1, 3, 4, am_dr sw, am_dr sw + 1, am_dr sw + 2, am_dr sw + 3] := by
          rcases hD with q | q <;> rw [q]
          · exact q1
          · exact q2
        rw [(y1 p.1 w4).1, y4 _ q3]
        exact h.2 p hp
  rcases k3 with ⟨φ, a1, s, p1, p2, p3, ⟨p4, p5⟩, p6, p7⟩ | ⟨a1, j, c, κ, N', sd', sg, hd, vv, p1, p2, p3, p4, p5, p6, p7, p8, p9, p10, p11, p12, p13, p14⟩
  · -- a fault
    have fz : 0 < b5.1 58 13 ∧ ¬ nI φ = 0 := by
      rw [p6]
      rcases p1 with q | q <;> rw [q] <;> decide
    have pf : f_X6_parseInto (am_dr sw) a = some (nI φ, a1) := by rw [pi, lp_l p2]
    have oA : rw_on [0, 1, 3, 4, am_dr sw, am_dr sw + 1, am_dr sw + 2, am_dr sw + 3] a1 a := (p4.mono (by simp)).trans (oa0.mono (by simp))
    have n0 : (0 : Nat) ∉ [3, 4, am_dr sw, am_dr sw + 1, am_dr sw + 2, am_dr sw + 3] := by simp; omega
    have e0 : a1.1 0 = a.1 0 := by rw [(p4 0 n0).1, (oa0 0 (by simp; omega)).1]
    generalize ha2 : am_wI (am_wI a1 1 1 0) 0 4 (nI (P s)) = a2
    have oA2 : rw_on [0, 1, 3, 4, am_dr sw, am_dr sw + 1, am_dr sw + 2, am_dr sw + 3] a2 a := by
      rw [← ha2]; exact (oA.w (by simp) _ _).w (by simp) _ _
    have e02 : ∀ k, k ≠ 4 → a2.1 0 k = a.1 0 k := by
      intro k hk'
      rw [← ha2, rl_wI]
      simp only [if_true, if_neg hk']
      rw [rl_wr _ _ (by decide), e0]
    have r11 : f_X11_read sw a = some ((nI φ, sw), a2) := by
      have e41 : (am_wI a1 1 1 0).1 4 1 = nI (P s) := by rw [rl_wr _ _ (by decide)]; exact p3
      have rc : f_X6_reached (am_wI a1 1 1 0) = some (nI (P s), am_wI a1 1 1 0) := by rw [f_X6_reached, e41]
      rw [f_X11_read, bd_some pf, if_neg fz.2, bd_some rc, ha2]
    have oB2 : rw_on [58, 60, 61, 62, 63, 64, 66, 67, 68, 69, 70, 71, 72, 73, 74, 75, 76, 77, 78, 79, 80] (am_wI b5 58 17 (nI (P s))) b := oB.w (by simp) _ _
    have f6 : ∀ i, 37 ≤ i → (am_wI b5 58 17 (nI (P s))).1 58 i = b.1 58 i := fun i hi' => by
      have n17 : i ≠ 17 := by omega
      simp [rl_wI, n17]
      exact f5 i (by omega) (by omega) (by omega) (by omega) (by omega) (by omega) (by omega) (by omega) (by omega) (by omega) (by omega)
    refine ⟨nI φ, sw, a2, am_wI b5 58 17 (nI (P s)), r11, by rw [rm, if_pos fz.1, p6, p7], ?_, ⟨0, by omega, by rw [← ha2]; rfl⟩, ?_, ?_, ⟨oA2, e02⟩, ⟨oB2, f6⟩⟩
    · exact rel a2 _ (nI (P s)) oA2 oB2 e02 f6 (by rw [← ha2]; rfl) (by simp [rl_wI]; exact t5') (by rw [← ha2]; simp [rl_wI]) (by simp [rl_wI])
    · refine hR.oth hl u7 u3 hne (fun i hi' => (oA2 (am_ru sw + i) (by simp; omega)).1) ?_ ?_ ?_ ?_ ?_
      · simp [rl_wI]
        exact f5 18 (by decide) (by decide) (by decide) (by decide) (by decide) (by decide) (by decide) (by decide) (by decide) (by decide) (by decide)
      · rw [rl_wr _ _ (by decide), (k2.2.2.2.2.1 l0 hne).2, (g4 l0 hne).1, (o3 66 (by simp)).1]
      · intro jj hj
        rw [rl_wr _ _ (by decide), rl_wr _ _ (by decide)]
        have := k2.2.2.1 jj hj
        rw [this.1, this.2, (o4 78 (by simp)).1, (o4 79 (by simp)).1, (o3 78 (by simp)).1, (o3 79 (by simp)).1]
        exact ⟨rfl, rfl⟩
      · intro x y1 y2 jj hj
        rw [rl_wr _ _ (by omega), k2.2.2.2.1 x y1 y2 jj hj, (o4 x (by simp; omega)).1, (o3 x (by simp; omega)).1]
      · intro x y1 y2 jj hj
        rw [rl_wr _ _ (by omega), k2.2.2.2.2.2 x y1 y2 jj hj, (o4 x (by simp; omega)).1, (o3 x (by simp; omega)).1]
    · obtain ⟨sdx, z1, z2⟩ := p5
      refine ⟨sdx, z1, ?_⟩
      rw [← ha2, rl_wr _ _ (by decide), rl_wr _ _ (by decide)]
      exact z2
  · -- all is well
    obtain ⟨a2, y1, y2⟩ := cs_end hD hT p5 p8 p9 p3 (by decide) (5000 - (j + 1)) p10
    have y1 : PLc (am_dr sw) j a1 = some (.inl (0, a2)) := by unfold PLc; rw [pl_s p9]; exact y1
    have pf : f_X6_parseInto (am_dr sw) a = some (0, a2) := by rw [pi, lp_l (p1.trans y1)]
    have fz : ¬ 0 < b5.1 58 13 := by rw [p6.2.2.1]; decide
    have oA : rw_on [0, 1, 3, 4, am_dr sw, am_dr sw + 1, am_dr sw + 2, am_dr sw + 3] a2 a := (y2.mono (by simp)).trans ((p2.mono (by simp)).trans (oa0.mono (by simp)))
    have n0 : (0 : Nat) ∉ [3, 4, am_dr sw, am_dr sw + 1, am_dr sw + 2, am_dr sw + 3] := by simp; omega
    have e0 : a2.1 0 = a.1 0 := by rw [(y2 0 (by simp)).1, (p2 0 n0).1, (oa0 0 (by simp; omega)).1]
    generalize ha3 : am_wI (am_wI a2 1 1 0) 0 4 (-1) = a3
    have oA3 : rw_on [0, 1, 3, 4, am_dr sw, am_dr sw + 1, am_dr sw + 2, am_dr sw + 3] a3 a := by
      rw [← ha3]; exact (oA.w (by simp) _ _).w (by simp) _ _
    have e03 : ∀ k, k ≠ 4 → a3.1 0 k = a.1 0 k := by
      intro k hk'
      rw [← ha3, rl_wI]
      simp only [if_true, if_neg hk']
      rw [rl_wr _ _ (by decide), e0]
    have r11 : f_X11_read sw a = some ((0, !sw), a3) := by
      rw [f_X11_read, bd_some pf, if_pos rfl, ha3]
    have e19 : b5.1 58 19 = nI l := p6.2.2.2.2.1
    generalize hb6 : am_wI (am_wI b5 58 17 (-1)) 58 18 (nI l) = b6
    have oB6 : rw_on [58, 60, 61, 62, 63, 64, 66, 67, 68, 69, 70, 71, 72, 73, 74, 75, 76, 77, 78, 79, 80] b6 b := by rw [← hb6]; exact (oB.w (by simp) _ _).w (by simp) _ _
    have o65 : rw_on [58] b6 b5 := by rw [← hb6]; exact ((rw_on.refl _ _).w (by simp) _ _).w (by simp) _ _
    have f6 : ∀ i, 37 ≤ i → b6.1 58 i = b.1 58 i := fun i hi' => by
      have n17 : i ≠ 17 := by omega
      have n18 : i ≠ 18 := by omega
      rw [← hb6]
      simp [rl_wI, n17, n18]
      exact f5 i (by omega) (by omega) (by omega) (by omega) (by omega) (by omega) (by omega) (by omega) (by omega) (by omega) (by omega)
    have nnD : ∀ x, x ≤ 3 → am_dr sw + x ≠ 0 ∧ am_dr sw + x ≠ 1 ∧ am_dr sw + x ≠ 4 := by intro x _; omega
    have rowD : ∀ x, x ≤ 3 → a3.1 (am_dr sw + x) = a1.1 (am_dr sw + x) := by
      intro x hx
      obtain ⟨z1, z2, z3⟩ := nnD x hx
      rw [← ha3, rl_wr _ _ z1, rl_wr _ _ z2, (y2 _ (by simp; omega)).1]
    have rowD0 : a3.1 (am_dr sw) = a1.1 (am_dr sw) := rowD 0 (by omega)
    refine ⟨0, !sw, a3, b6, r11, by rw [rm, if_neg fz, e19, hb6], ?_, ⟨0, by omega, by rw [← ha3]; rfl⟩, ?_, ?_, ⟨oA3, e03⟩, ⟨oB6, f6⟩⟩
    · exact rel a3 b6 (-1) oA3 oB6 e03 f6 (by rw [← ha3]; rfl) (by rw [← hb6]; simp [rl_wI]; exact t5') (by rw [← ha3]; simp [rl_wI]) (by rw [← hb6]; simp [rl_wI])
    · rw [ru_dr]
      obtain ⟨z1, z2, z3, z4, z5, z6, z7, z8⟩ := p5
      refine ⟨l, j, N', sg, hd, vv, ⟨p4, p9, hl, fun r hr => ?_⟩, by rw [rowD0]; exact z7, by rw [rowD0]; exact z6, by rw [← hb6]; simp [rl_wI], by rw [(o65 66 (by simp)).1]; exact p13⟩
      have q := p14 r hr
      rw [rowD 1 (by omega), rowD 2 (by omega), rowD 3 (by omega)]
      have q2 : RU (a1.1 (am_dr sw + 1)) (a1.1 (am_dr sw + 2)) (a1.1 (am_dr sw + 3)) b5.1 j l r (sg r) (hd r) (vv r) := by
        refine q.ru (by omega) (by omega) (fun jj hj => ?_)
        obtain ⟨w1, w2⟩ := z8 jj hj
        refine ⟨w1, fun e => w2 ?_⟩
        have key : ∀ k, k < 34 → nI (cm k) = 2 → k = 2 := by decide +kernel
        exact key _ (hT jj (by omega)).2 e
      exact q2.fr (Nat.le_refl _) rfl (fun _ _ => ⟨rfl, rfl⟩) (fun x w1 w2 => by rw [(o65 x (by simp; omega)).1]) (fun x kk f w1 w2 _ _ _ _ => by rw [(o65 x (by simp; omega)).1]) (fun jj _ _ => ⟨by rw [(o65 78 (by simp)).1], by rw [(o65 79 (by simp)).1]⟩)
    · refine ⟨sd', p3, ?_⟩
      rw [← ha3, rl_wr _ _ (by decide), rl_wr _ _ (by decide), (y2 3 (by simp)).1]
      exact p5.2.2.2.1
