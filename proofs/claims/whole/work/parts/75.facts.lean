/-! ===== the facts of a family and a kind, and what the rules say of them, on both sides ===== -/
def fcs (a : am_S) (f k e : Nat) : Nat → Int32 := fun j => if j = 7 then nI e else if j = 6 then a.1 19 k else if j = 5 then a.1 20 k else if j = 4 then nI k else if j = 3 then a.1 24 f else if j = 2 then a.1 27 (f * 40 + e) else if j = 1 then (if a.1 23 f = 0 then 0 else 1) else if j = 0 then a.1 22 f else 0
theorem fcs_8 {a : am_S} {f k e j : Nat} (h : 8 ≤ j) : fcs a f k e j = 0 := by
  unfold fcs
  rw [if_neg (by omega), if_neg (by omega), if_neg (by omega), if_neg (by omega), if_neg (by omega), if_neg (by omega), if_neg (by omega), if_neg (by omega)]
def w8 (s : am_S) (c : Nat) (x0 x1 x2 x3 x4 x5 x6 x7 : Int32) : am_S := am_wI (am_wI (am_wI (am_wI (am_wI (am_wI (am_wI (am_wI s c 0 x0) c 1 x1) c 2 x2) c 3 x3) c 4 x4) c 5 x5) c 6 x6) c 7 x7
theorem w8_on (s : am_S) (c : Nat) (x0 x1 x2 x3 x4 x5 x6 x7 : Int32) : rw_on [c] (w8 s c x0 x1 x2 x3 x4 x5 x6 x7) s := by
  unfold w8
  exact (((((((((rw_on.refl _ _).w (by simp) _ _).w (by simp) _ _).w (by simp) _ _).w (by simp) _ _).w (by simp) _ _).w (by simp) _ _).w (by simp) _ _).w (by simp) _ _)
theorem w8_row {s : am_S} {c : Nat} {x0 x1 x2 x3 x4 x5 x6 x7 : Int32} (hv : ∀ j, 8 ≤ j → s.1 c j = 0) : (w8 s c x0 x1 x2 x3 x4 x5 x6 x7).1 c = fun j => if j = 7 then x7 else if j = 6 then x6 else if j = 5 then x5 else if j = 4 then x4 else if j = 3 then x3 else if j = 2 then x2 else if j = 1 then x1 else if j = 0 then x0 else 0 := by
  funext j
  unfold w8
  simp only [rl_wI, if_true]
  by_cases h : 8 ≤ j
  · rw [hv j h]
  · have : j = 0 ∨ j = 1 ∨ j = 2 ∨ j = 3 ∨ j = 4 ∨ j = 5 ∨ j = 6 ∨ j = 7 := by omega
    rcases this with e | e | e | e | e | e | e | e <;> subst e <;> rfl
theorem fa_C {a : am_S} {f k e : Nat} (hf : f < 8) (hk : k < 8) (he : e < 40) (e5 : a.1 0 5 = nI e) (hv : ∀ j, 8 ≤ j → a.1 57 j = 0) : ∃ a', f_X11_tellFacts a (nI f) (nI k) = some ((), a') ∧ a'.1 57 = fcs a f k e ∧ rw_on [57] a' a := by
  have f2 : am_in (nI f) 8 = true := rl_nin (by decide) hf
  have f3 : (nI f).toNatClampNeg = f := nI_clamp (by omega)
  have k2 : am_in (nI k) 8 = true := rl_nin (by decide) hk
  have k3 : (nI k).toNatClampNeg = k := nI_clamp (by omega)
  have ix : nI f * 40 + nI e = nI (f * 40 + e) := rl_ix2 (w := 40)
  have i2 : am_in (nI (f * 40 + e)) 320 = true := rl_nin (by decide) (by omega)
  have i3 : (nI (f * 40 + e)).toNatClampNeg = f * 40 + e := nI_clamp (by omega)
  have z : ∀ j, j < 8 → am_in (nI j) 8 = true ∧ (nI j).toNatClampNeg = j := by decide +kernel
  have z0 : am_in 0 8 = true ∧ (0 : Int32).toNatClampNeg = 0 := by decide
  have z1 : am_in 1 8 = true ∧ (1 : Int32).toNatClampNeg = 1 := by decide
  have z2 : am_in 2 8 = true ∧ (2 : Int32).toNatClampNeg = 2 := by decide
  have z3 : am_in 3 8 = true ∧ (3 : Int32).toNatClampNeg = 3 := by decide
  have z4 : am_in 4 8 = true ∧ (4 : Int32).toNatClampNeg = 4 := by decide
  have z5 : am_in 5 8 = true ∧ (5 : Int32).toNatClampNeg = 5 := by decide
  have z6 : am_in 6 8 = true ∧ (6 : Int32).toNatClampNeg = 6 := by decide
  have z7 : am_in 7 8 = true ∧ (7 : Int32).toNatClampNeg = 7 := by decide
  refine ⟨w8 a 57 (a.1 22 f) (if a.1 23 f = 0 then 0 else 1) (a.1 27 (f * 40 + e)) (a.1 24 f) (nI k) (a.1 20 k) (a.1 19 k) (nI e), ?_, w8_row hv, w8_on _ _ _ _ _ _ _ _ _ _⟩
  by_cases w : a.1 23 f = 0
  · simp [f_X11_tellFacts, f_X2_carvedIn, am_gu, am_jn, am_bd, f2, f3, k2, k3, z0, z1, z2, z3, z4, z5, z6, z7, w, rl_wI, e5, ix, i2, i3, w8]
  · simp [f_X11_tellFacts, f_X2_carvedIn, am_gu, am_jn, am_bd, f2, f3, k2, k3, z0, z1, z2, z3, z4, z5, z6, z7, w, rl_wI, e5, ix, i2, i3, w8]
theorem fa_M {a b : am_S} {f k e : Nat} (hf : f < 8) (hk : k < 8) (he : e < 40) (e5 : a.1 0 5 = nI e) (h : rl_x [] a b ∨ rl_x [43, 44] a b) (hv : ∀ j, 8 ≤ j → b.1 102 j = 0) : ∃ b', f_X12_asks b (nI f) (nI k) = some ((), b') ∧ b'.1 102 = fcs a f k e ∧ rw_on [102] b' b := by
  have h : rl_x [43, 44] a b := h.elim (fun q => q.mono (by simp)) id
  have f2 : am_in (nI f) 8 = true := rl_nin (by decide) hf
  have f3 : (nI f).toNatClampNeg = f := nI_clamp (by omega)
  have k2 : am_in (nI k) 8 = true := rl_nin (by decide) hk
  have k3 : (nI k).toNatClampNeg = k := nI_clamp (by omega)
  have ix : 40 * nI f + nI e = nI (f * 40 + e) := rl_ix3 (w := 40)
  have i2 : am_in (nI (f * 40 + e)) 320 = true := rl_nin (by decide) (by omega)
  have i3 : (nI (f * 40 + e)).toNatClampNeg = f * 40 + e := nI_clamp (by omega)
  have z0 : am_in 0 8 = true ∧ (0 : Int32).toNatClampNeg = 0 := by decide
  have z1 : am_in 1 8 = true ∧ (1 : Int32).toNatClampNeg = 1 := by decide
  have z2 : am_in 2 8 = true ∧ (2 : Int32).toNatClampNeg = 2 := by decide
  have z3 : am_in 3 8 = true ∧ (3 : Int32).toNatClampNeg = 3 := by decide
  have z4 : am_in 4 8 = true ∧ (4 : Int32).toNatClampNeg = 4 := by decide
  have z5 : am_in 5 8 = true ∧ (5 : Int32).toNatClampNeg = 5 := by decide
  have z6 : am_in 6 8 = true ∧ (6 : Int32).toNatClampNeg = 6 := by decide
  have z7 : am_in 7 8 = true ∧ (7 : Int32).toNatClampNeg = 7 := by decide
  have r22 : b.1 84 = a.1 22 := h.r (by decide) (by decide)
  have r23 : b.1 85 = a.1 23 := h.r (by decide) (by decide)
  have r24 : b.1 86 = a.1 24 := h.r (by decide) (by decide)
  have r27 : b.1 92 = a.1 27 := h.r (by decide) (by decide)
  have r19 : b.1 82 = a.1 19 := h.r (by decide) (by decide)
  have r20 : b.1 83 = a.1 20 := h.r (by decide) (by decide)
  have e51 : b.1 58 51 = nI e := (h.f (c := 0) (k := 5) (by decide)).trans e5
  refine ⟨w8 b 102 (a.1 22 f) (if a.1 23 f = 0 then 0 else 1) (a.1 27 (f * 40 + e)) (a.1 24 f) (nI k) (a.1 20 k) (a.1 19 k) (nI e), ?_, w8_row hv, w8_on _ _ _ _ _ _ _ _ _ _⟩
  by_cases w : a.1 23 f = 0
  · simp [f_X12_asks, am_gu, am_jn, am_bd, f2, f3, k2, k3, z0, z1, z2, z3, z4, z5, z6, z7, r22, r23, r24, r27, r19, r20, w, rl_wI, e51, ix, i2, i3, w8]
  · simp [f_X12_asks, am_gu, am_jn, am_bd, f2, f3, k2, k3, z0, z1, z2, z3, z4, z5, z6, z7, r22, r23, r24, r27, r19, r20, w, rl_wI, e51, ix, i2, i3, w8]
/-- only what is noted down for a question has changed -/
def sc (R : Nat) (a' a : am_S) : Prop := rw_on [57, R, R + 4, R + 5] a' a ∧ ∀ k, k ≠ 5 → a'.1 R k = a.1 R k
theorem sc.refl (R : Nat) (a : am_S) : sc R a a := ⟨rw_on.refl _ _, fun _ _ => rfl⟩
theorem sc.trans {R : Nat} {x y z : am_S} (h : sc R x y) (h' : sc R y z) : sc R x z := ⟨h.1.trans h'.1, fun k hk => (h.2 k hk).trans (h'.2 k hk)⟩
theorem sc.rs {R : Nat} {x y : am_S} (h : rs R x y) : sc R x y := ⟨h.1.mono (by simp), h.2⟩
theorem sc.f {R : Nat} {x y : am_S} (hR : R ≤ 11) (h : rw_on [57] x y) : sc R x y := ⟨h.mono (by simp), fun k _ => by rw [(h R (by simp; omega)).1]⟩
theorem RR.sc {R : Nat} {a b a' b' : am_S} (hR : R ≤ 11) (h : RR R a b) (ha : sc R a' a) (hb : rw_on [102, 103] b' b) : RR R a' b' :=
  h.fr (fun i q1 q2 => (ha.1 (R + i) (by simp; omega)).1) (ha.2 2 (by decide)) (ha.2 0 (by decide)) (by rw [(hb 58 (by simp)).1]) (fun c q1 q2 => (hb c (by simp; omega)).1)
/-- what the rules say -/
def AN (R : Nat) (a b : am_S) (f k e : Nat) (g p : Int32) (z : Bool) : Prop :=
  ∃ (l T N : Nat) (sg : Nat → Nat) (hd : Nat → (Nat → Int32) → Bool) (vv : Nat → (Nat → Int32) → Int32), RS (a.1 (R + 1)) (a.1 (R + 2)) (a.1 (R + 3)) b.1 T l N sg hd vv ∧ a.1 R 2 = nI T ∧ a.1 R 0 = nI N ∧ b.1 58 18 = nI l ∧ b.1 66 l = nI N ∧ g = fvl sg (fun r => hd r (fcs a f k e)) (fun r => vv r (fcs a f k e)) 0 N 0 ∧ p = fvl sg (fun r => hd r (fcs a f k e)) (fun r => vv r (fcs a f k e)) 2 N 0 ∧ z = brl sg (fun r => hd r (fcs a f k e)) N 0
theorem AN.of {R : Nat} {a b : am_S} (h : RR R a b) (f k e : Nat) : ∃ g p z, AN R a b f k e g p z := by
  obtain ⟨l, T, N, sg, hd, vv, q1, q2, q3, q4, q5⟩ := h
  exact ⟨_, _, _, l, T, N, sg, hd, vv, q1, q2, q3, q4, q5, rfl, rfl, rfl⟩
section ANS
variable {R f k e : Nat} {a b : am_S} {g p : Int32} {z : Bool}
theorem AN.C (hR : R ≤ 11) (h : AN R a b f k e g p z) {a' : am_S} (ha : sc R a' a) (hv : a'.1 57 = fcs a f k e) : (∃ a'', f_X8_firstValue R a' 3 = some (g, a'') ∧ rs R a'' a') ∧ (∃ a'', f_X8_firstValue R a' 5 = some (p, a'') ∧ rs R a'' a') ∧ (∃ a'', f_X8_bars R a' = some (mc_i z, a'') ∧ rs R a'' a') := by
  obtain ⟨l, T, N, sg, hd, vv, q1, q2, q3, q4, q5, rfl, rfl, rfl⟩ := h
  have hc : cl R a' (a.1 (R + 1)) (a.1 (R + 2)) (a.1 (R + 3)) T N (fcs a f k e) := ⟨(ha.1 (R + 1) (by simp; omega)).1, (ha.1 (R + 2) (by simp; omega)).1, (ha.1 (R + 3) (by simp; omega)).1, by rw [ha.2 2 (by decide)]; exact q2, by rw [ha.2 0 (by decide)]; exact q3, hv⟩
  exact ⟨tk_fva (σ := 0) hR q1 (by decide) (by decide) hc, tk_fva (σ := 2) hR q1 (by decide) (by decide) hc, tk_bra hR q1 hc⟩
theorem i_20l (l : Nat) : 20 * nI l = nI (20 * l + 0) := by rw [show (20 : Int32) = nI 20 from rfl, pk_mul]; rfl
theorem AN.M {a0 : am_S} (h : AN R a b f k e g p z) (hf : f < 8) (hk : k < 8) (he : e < 40) (e5 : a0.1 0 5 = nI e) (hfc : fcs a0 f k e = fcs a f k e) {b' : am_S} (hx : rl_x [] a0 b' ∨ rl_x [43, 44] a0 b') (hv : ∀ j, 8 ≤ j → b'.1 102 j = 0) (h58 : b'.1 58 = b.1 58) (hb : ∀ c, 66 ≤ c → c ≤ 79 → b'.1 c = b.1 c) : (∃ b'', f_X12_says b' 0 (nI f) (nI k) = some (g, b'') ∧ rw_on [102, 103] b'' b' ∧ ∀ j, 8 ≤ j → b''.1 102 j = 0) ∧ (∃ b'', f_X12_says b' 2 (nI f) (nI k) = some (p, b'') ∧ rw_on [102, 103] b'' b' ∧ ∀ j, 8 ≤ j → b''.1 102 j = 0) ∧ (∃ b'', f_X12_isBarred b' (nI f) (nI k) = some (mc_i z, b'') ∧ rw_on [102, 103] b'' b' ∧ ∀ j, 8 ≤ j → b''.1 102 j = 0) := by
  obtain ⟨l, T, N, sg, hd, vv, q1, q2, q3, q4, q5, rfl, rfl, rfl⟩ := h
  obtain ⟨b1, g1, g2, g3⟩ := fa_M hf hk he e5 hx hv
  rw [hfc] at g2
  have hm : md b1 b.1 (fcs a f k e) := ⟨(g3 58 (by simp)).1.trans h58, fun c q1 q2 => ((g3 c (by simp; omega)).1).trans (hb c q1 q2), g2⟩
  have hL : b1.1 58 18 = nI l := by rw [hm.1]; exact q4
  have hN : N < am_FU := by have := q1.1; unfold am_FU; omega
  have fin : ∀ b2, rw_on [103] b2 b1 → rw_on [102, 103] b2 b' ∧ ∀ j, 8 ≤ j → b2.1 102 j = 0 := fun b2 o => ⟨(o.mono (by simp)).trans (g3.mono (by simp)), fun j hj => by rw [(o 102 (by simp)).1, g2]; exact fcs_8 hj⟩
  refine ⟨?_, ?_, ?_⟩
  · obtain ⟨b2, k1, k2⟩ := md_fv (σ := 0) (v := fcs a f k e) q1 q4 q5 (by decide) (by decide) N 0 am_FU b1 (by omega) hN hm
    refine ⟨b2, ?_, fin b2 k1⟩
    rcases k2 with k2 | ⟨k2, k3⟩
    · have k2 : f_X12_says_L15 am_FU 0 (nI (20 * l + 0)) b1 = _ := k2
      simp only [f_X12_says, g1, rl_bd, hL, i_20l, k2, am_lp]
    · have k2 : f_X12_says_L15 am_FU 0 (nI (20 * l + 0)) b1 = _ := k2
      simp only [f_X12_says, g1, rl_bd, hL, i_20l, k2, am_lp, k3]
  · obtain ⟨b2, k1, k2⟩ := md_fv (σ := 2) (v := fcs a f k e) q1 q4 q5 (by decide) (by decide) N 0 am_FU b1 (by omega) hN hm
    refine ⟨b2, ?_, fin b2 k1⟩
    rcases k2 with k2 | ⟨k2, k3⟩
    · have k2 : f_X12_says_L15 am_FU 2 (nI (20 * l + 0)) b1 = _ := k2
      simp only [f_X12_says, g1, rl_bd, hL, i_20l, k2, am_lp]
    · have k2 : f_X12_says_L15 am_FU 2 (nI (20 * l + 0)) b1 = _ := k2
      simp only [f_X12_says, g1, rl_bd, hL, i_20l, k2, am_lp, k3]
  · obtain ⟨b2, k1, k2⟩ := md_br (v := fcs a f k e) q1 q4 q5 N 0 am_FU b1 (by omega) hN hm
    refine ⟨b2, ?_, fin b2 k1⟩
    rcases k2 with ⟨k2, k3⟩ | ⟨k2, k3⟩
    · simp only [f_X12_isBarred, g1, rl_bd, hL, i_20l, k2, am_lp, k3]
      rfl
    · simp only [f_X12_isBarred, g1, rl_bd, hL, i_20l, k2, am_lp, k3]
      rfl
end ANS
