/-! ===== log: the rings of the best way are laid down ===== -/
theorem rl_wIa (s : am_S) (c k : Nat) (x : Int32) (d i : Nat) : (am_wI s c k x).1 d i = if d = c ∧ i = k then x else s.1 d i := by
  rw [rl_wI]
  by_cases h1 : d = c <;> by_cases h2 : i = k <;> simp [h1, h2]
theorem wI_comm (s : am_S) {c k c' k' : Nat} (x y : Int32) (h : ¬ (c = c' ∧ k = k')) : am_wI (am_wI s c k x) c' k' y = am_wI (am_wI s c' k' y) c k x := by
  refine Prod.ext ?_ rfl
  funext d i
  rw [rl_wIa, rl_wIa, rl_wIa, rl_wIa]
  by_cases q : d = c ∧ i = k
  · have q2 : ¬ (d = c' ∧ i = k') := fun z => h ⟨q.1.symm.trans z.1, q.2.symm.trans z.2⟩
    rw [if_neg q2, if_pos q]
    rw [if_pos q]
  · rw [if_neg q]
    by_cases q2 : d = c' ∧ i = k'
    · rw [if_pos q2, if_neg q]
    · rw [if_neg q2, if_neg q]
theorem wI_two (s : am_S) (c k : Nat) (x y : Int32) : am_wI (am_wI s c k x) c k y = am_wI s c k y := by
  refine Prod.ext ?_ rfl
  funext d i
  rw [rl_wIa, rl_wIa, rl_wIa]
  by_cases q : d = c ∧ i = k
  · rw [if_pos q, if_pos q]
  · rw [if_neg q, if_neg q, if_neg q]
theorem wI_same (s : am_S) {c k : Nat} {x : Int32} (h : s.1 c k = x) : am_wI s c k x = s := by
  refine Prod.ext ?_ rfl
  funext d i
  rw [rl_wIa]
  by_cases q : d = c ∧ i = k
  · rw [if_pos q, q.1, q.2, h]
  · rw [if_neg q]
theorem st_loop {a0 b0 : am_S} {len nk g : Nat} (hl : len ≤ 60) (hn : nk ≤ 8) (hg : g < 30) (hc : cu a0 b0 len nk 0) : ∀ (n u t m r : Nat) (left : Int32) (a b : am_S), t ≤ u → rl_x [33] (am_wI a 32 0 (nI g)) b → a.1 18 = a0.1 18 → a.1 31 = a0.1 31 → b.1 101 = b0.1 101 → u ≤ len → a0.1 30 u = nI r → a.1 32 2 = nI m → m + r ≤ 200 → a.1 33 g = left → len < u + n → ∃ (left' : Int32) (a' b' : am_S) (m' : Nat), f_X11_storeCutLog_L13 n (nI len) (nI g) (nI u) (nI t) a = some (.inr ((), a')) ∧ f_X12_log_L367 n (nI len) left (nI u) b = some (.inr (left', b')) ∧ rl_x [33] (am_wI a' 32 0 (nI g)) b' ∧ a'.1 33 g = left' ∧ (∀ j, j ≠ g → a'.1 33 j = a.1 33 j) ∧ a'.1 32 0 = a.1 32 0 ∧ a'.1 32 2 = nI m' ∧ m ≤ m' ∧ m' ≤ 200 ∧ (∀ j, j < m → a'.1 36 j = a.1 36 j ∧ a'.1 37 j = a.1 37 j) ∧ (∀ j, m ≤ j → j < m' → (∃ k, k < nk ∧ a'.1 36 j = nI k) ∧ a'.1 37 j = -1) ∧ rw_on [32, 33, 34, 35, 36, 37, 38] a' a ∧ rw_on [58, 94, 95, 96, 97, 98] b' b ∧ ∀ i, i ≠ 55 → b'.1 58 i = b.1 58 i := by
  intro n
  induction n with
  | zero => intro u t m r left a b _ _ _ _ _ h1 _ _ _ _ h2; omega
  | succ n ih =>
    intro u t m r left a b ht h e18 e31 e101 h1 hr hm hmr hleft h2
    by_cases hu : u < len
    · have d1 : nI u < nI len := nI_lt hu (by omega)
      have d9 : nI t < nI len := nI_lt (by omega) (by omega)
      have d8 : nI t + 1 = nI (t + 1) := nI_1 t
      have u2 : am_in (nI u) 61 = true := rl_nin (by decide) (by omega)
      have u3 : (nI u).toNatClampNeg = u := nI_clamp (by omega)
      have g2 : am_in (nI g) 30 = true := rl_nin (by decide) (by omega)
      have g3 : (nI g).toNatClampNeg = g := nI_clamp (by omega)
      have d4 : nI u + 1 = nI (u + 1) := nI_1 u
      obtain ⟨-, -, r1, hr1, hr2, hr3⟩ := hc u (by omega) (by omega)
      obtain ⟨p1, p2⟩ := hr3 hu
      have hb31 : b.1 101 u = a.1 31 u := by rw [e101, e31]; exact p1
      have er : r1 = r := (nI_eq (by omega) (by omega)).mp (hr2.symm.trans hr)
      subst er
      rcases p2 with ⟨q1, q2⟩ | ⟨k, w, r', q1, q2, q3, q4, q5, q6, q7, q8⟩
      · have q0 : a.1 31 u = -1 := by rw [e31]; exact q1
        have q0b : b.1 101 u = -1 := hb31.trans q0
        have h' : rl_x [33] (am_wI (am_wI a 33 g (left + 1)) 32 0 (nI g)) b := by
          rw [wI_comm _ _ _ (by omega)]
          exact h.wa (by decide) (by decide) _ _
        obtain ⟨left', a', b', m', y1, y2, y3, y4, y5, y6, y7, y8, y9, y10, y11, y12, y13, y14⟩ := ih (u + 1) (t + 1) m r1 (left + 1) (am_wI a 33 g (left + 1)) b (by omega) h' e18 e31 e101 (by omega) q2 hm hmr (by simp [rl_wI]) (by omega)
        refine ⟨left', a', b', m', by simp [f_X11_storeCutLog_L13, f_X1_choiceAt, d1, d8, d9, am_bd, am_gu, am_jn, u2, u3, q0, g2, g3, hleft, d4, y1], by simp [f_X12_log_L367, d1, am_gu, u2, u3, q0b, d4, y2], y3, y4, fun j hj => ?_, y6, y7, y8, y9, fun j hj => ?_, y11, y12.trans ((rw_on.refl _ _).w (by decide) _ _), y13, y14⟩
        · rw [y5 j hj, rl_wI]; simp [hj]
        · exact y10 j hj
      · have q0 : a.1 31 u = nI k := by rw [e31]; exact q2
        have q0b : b.1 101 u = nI k := hb31.trans q0
        have k2 : am_in (nI k) 8 = true := rl_nin (by decide) (by omega)
        have k3 : (nI k).toNatClampNeg = k := nI_clamp (by omega)
        have kn : ¬ nI k = -1 := by
          intro z
          have z := congrArg Int32.toInt z
          rw [nI_toInt (by omega)] at z
          have z1 : (-1 : Int32).toInt = -1 := rfl
          rw [z1] at z
          omega
        have w1 : a.1 18 k = nI w := by rw [e18]; exact q3
        have r18 : b.1 81 = a.1 18 := h.r (c := 18) (by decide) (by decide)
        have em : b.1 58 55 = nI m := (h.f (c := 32) (k := 2) (by decide)).trans hm
        have eg : b.1 58 53 = nI g := h.f (c := 32) (k := 0) (by decide)
        have m1 : nI m < 200 := nI_lt (b := 200) (by omega) (by decide)
        have m2 : am_in (nI m) 200 = true := rl_nin (by decide) (by omega)
        have m3 : (nI m).toNatClampNeg = m := nI_clamp (by omega)
        have m4 : nI m + 1 = nI (m + 1) := nI_1 m
        have uw : nI u + nI w = nI (u + w) := nI_add u w
        generalize ha1 : am_wI (am_wI (am_wI (am_wI (am_wI (am_wI a 34 m (nI g)) 35 m (nI u)) 36 m (nI k)) 37 m (-1)) 38 m (-1)) 32 2 (nI (m + 1)) = a1
        generalize hb1 : am_wI (am_wI (am_wI (am_wI (am_wI (am_wI b 94 m (nI g)) 95 m (nI u)) 96 m (nI k)) 97 m (-1)) 98 m (-1)) 58 55 (nI (m + 1)) = b1
        have h' : rl_x [33] (am_wI a1 32 0 (nI g)) b1 := by
          rw [← ha1, ← hb1, wI_comm (c := 32) (k := 2) (c' := 32) (k' := 0) _ _ _ (by omega), wI_comm (c := 38) (c' := 32) (k' := 0) _ _ _ (by omega), wI_comm (c := 37) (c' := 32) (k' := 0) _ _ _ (by omega), wI_comm (c := 36) (c' := 32) (k' := 0) _ _ _ (by omega), wI_comm (c := 35) (c' := 32) (k' := 0) _ _ _ (by omega), wI_comm (c := 34) (c' := 32) (k' := 0) _ _ _ (by omega)]
          exact (((((h.w2 (c := 34) (m := 94) (by decide) _ _).w2 (c := 35) (m := 95) (by decide) _ _).w2 (c := 36) (m := 96) (by decide) _ _).w2 (c := 37) (m := 97) (by decide) _ _).w2 (c := 38) (m := 98) (by decide) _ _).f2 (c := 32) (k := 2) (m := 55) (by decide) _
        have oa : rw_on [32, 33, 34, 35, 36, 37, 38] a1 a := by
          rw [← ha1]
          exact (((((((rw_on.refl _ _).w (by decide) _ _).w (by decide) _ _).w (by decide) _ _).w (by decide) _ _).w (by decide) _ _).w (by decide) _ _)
        have ob : rw_on [58, 94, 95, 96, 97, 98] b1 b := by
          rw [← hb1]
          exact (((((((rw_on.refl _ _).w (by decide) _ _).w (by decide) _ _).w (by decide) _ _).w (by decide) _ _).w (by decide) _ _).w (by decide) _ _)
        have z33 : a1.1 33 = a.1 33 := by rw [← ha1]; rfl
        have z320 : a1.1 32 0 = a.1 32 0 := by rw [← ha1]; rfl
        have z322 : a1.1 32 2 = nI (m + 1) := by rw [← ha1]; rfl
        have z36 : ∀ j, a1.1 36 j = if j = m then nI k else a.1 36 j := by intro j; rw [← ha1]; simp [rl_wI]
        have z37 : ∀ j, a1.1 37 j = if j = m then -1 else a.1 37 j := by intro j; rw [← ha1]; simp [rl_wI]
        have z58 : ∀ i, i ≠ 55 → b1.1 58 i = b.1 58 i := by intro i hi; rw [← hb1]; simp [rl_wI, hi]
        obtain ⟨left', a', b', m', y1, y2, y3, y4, y5, y6, y7, y8, y9, y10, y11, y12, y13, y14⟩ := ih (u + w) (t + 1) (m + 1) r' left a1 b1 (by omega) h' ((oa 18 (by decide)).1.trans e18) ((oa 31 (by decide)).1.trans e31) ((ob 101 (by decide)).1.trans e101) (by omega) q8 z322 (by omega) (by rw [z33]; exact hleft) (by omega)
        refine ⟨left', a', b', m', ?_, ?_, y3, y4, fun j hj => (y5 j hj).trans (by rw [z33]), y6.trans z320, y7, by omega, y9, fun j hj => ?_, fun j hj hj2 => ?_, y12.trans oa, y13.trans ob, fun i hi => (y14 i hi).trans (z58 i hi)⟩
        · have w5 : a1.1 18 k = nI w := by rw [(oa 18 (by decide)).1]; exact w1
          have fa : f_X7_add a (nI g) (nI u) (nI k) = some ((), a1) := by
            simp only [f_X7_add, hm, if_pos m1, rl_gu m2, m3, m4]
            rw [ha1]
          simp only [f_X11_storeCutLog_L13, f_X1_choiceAt, if_pos d9, if_pos d1, d8, rl_gu u2, u3, rl_bd, q0, am_jn, if_neg kn, fa, rl_gu k2, k3, w5, uw]
          exact y1
        · simp only [f_X12_log_L367, if_pos d1, rl_gu u2, u3, q0b, if_neg kn, em, rl_gu m2, m3, rl_gu k2, k3, eg, r18, w1, uw, m4]
          rw [hb1]
          exact y2
        · have := y10 j (by omega)
          rw [this.1, this.2, z36, z37]
          simp [show j ≠ m by omega]
        · by_cases e : j = m
          · subst e
            have := y10 j (by omega)
            rw [this.1, this.2, z36, z37]
            simp only [if_true]
            exact ⟨⟨k, q1, rfl⟩, by first | rfl | trivial⟩
          · exact y11 j (by omega) hj2
    · have d1 : ¬ nI u < nI len := nI_nlt (by omega) (by omega)
      exact ⟨left, a, b, m, by simp [f_X11_storeCutLog_L13, d1], by simp [f_X12_log_L367, d1], h, hleft, fun _ _ => rfl, rfl, hm, Nat.le_refl _, by omega, fun _ _ => ⟨rfl, rfl⟩, fun j q1 q2 => by omega, rw_on.refl _ _, rw_on.refl _ _, fun _ _ => rfl⟩
theorem lg_nn {fl : Int64} (h : ¬ lg_cmp fl (lN 0) < 0) : fl.toBitVec.msb = false := by
  have h2 : ¬ fl < lN 0 := by
    intro q
    apply h
    unfold lg_cmp
    have q1 : ¬ fl > lN 0 := fun z => Int64.lt_irrefl (Int64.lt_trans q z)
    have q2 : ¬ fl = lN 0 := fun z => by rw [z] at q; exact Int64.lt_irrefl q
    rw [if_neg q1, if_neg q2]
    decide
  rw [Int64.lt_iff_toInt_lt] at h2
  have z : (lN 0).toInt = 0 := rfl
  rw [z] at h2
  rw [BitVec.msb_eq_toInt]
  exact decide_eq_false h2
theorem lg_sh {fl : Int64} (h : ¬ lg_cmp fl (lN 0) < 0) {len : Nat} (hl : len < 64) : (Int64.toUInt64 fl >>> ((Int32.toInt64 (nI len)).toUInt64 &&& Int64.toUInt64 63)).toInt64 = fl >>> (Int32.toInt64 (nI len) &&& 63) := by
  rw [mc_cu len hl]
  apply Int64.toBitVec_inj.mp
  have e : (fl.toUInt64 >>> UInt64.ofNat len).toInt64.toBitVec = fl.toBitVec >>> len := by
    apply BitVec.eq_of_toNat_eq
    show (fl.toUInt64 >>> UInt64.ofNat len).toNat = _
    rw [UInt64.toNat_shiftRight, BitVec.toNat_ushiftRight, UInt64.toNat_ofNat', Nat.mod_eq_of_lt (show len < 2 ^ 64 by omega), Nat.mod_eq_of_lt hl]
    rfl
  rw [e, Int64.toBitVec_shiftRight, fl_sm len hl, BitVec.sshiftRight_eq', BitVec.toNat_ofNat, Nat.mod_eq_of_lt (by omega), BitVec.sshiftRight_eq_of_msb_false (lg_nn h)]
