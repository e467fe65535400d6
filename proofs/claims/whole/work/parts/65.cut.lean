/-! ===== log: what may be cut, and the best way ===== -/
theorem bt_s : ∀ k, k < 32 → ((nI k &&& 31).toBitVec.smod 32) = BitVec.ofNat 32 k := by decide +kernel
theorem bt_r (v : Int32) {k : Nat} (hk : k < 31) : ((v >>> (nI k &&& 31)) &&& 1) = 0 ↔ v.toBitVec.getLsbD k = false := by
  have e : (v >>> (nI k &&& 31)).toBitVec.getLsbD 0 = v.toBitVec.getLsbD k := by
    rw [Int32.toBitVec_shiftRight, bt_s k (by omega), BitVec.sshiftRight_eq', BitVec.toNat_ofNat, Nat.mod_eq_of_lt (by omega), BitVec.getLsbD_sshiftRight, if_pos (by omega)]
    simp
  rw [← Int32.toBitVec_inj, Int32.toBitVec_and]
  show (v >>> (nI k &&& 31)).toBitVec &&& 1#32 = 0#32 ↔ _
  rw [← e]
  generalize (v >>> (nI k &&& 31)).toBitVec = Z
  constructor
  · intro h
    have t := congrArg (fun x => x.getLsbD 0) h
    simpa using t
  · intro h
    apply BitVec.eq_of_getLsbD_eq
    intro i hi
    cases i with
    | zero => rw [BitVec.getLsbD_and, h]; rfl
    | succ i => simp
theorem bt_o1 : ∀ k, k < 32 → ∀ j, j < 32 → ((1 : Int32) <<< (nI k &&& 31)).toBitVec.getLsbD j = decide (j = k) := by decide +kernel
theorem bt_o (v : Int32) {k j : Nat} (hk : k < 32) (hj : j < 32) : (v ||| (1 <<< (nI k &&& 31))).toBitVec.getLsbD j = (v.toBitVec.getLsbD j || decide (j = k)) := by
  rw [Int32.toBitVec_or, BitVec.getLsbD_or, bt_o1 k hk j hj]
theorem mc_M2 {X : List Nat} {a b : am_S} (f k e : Nat) (hf : f < 8) (hk : k < 8) (he : e < 40) (h : rl_x X a b) (h25 : 25 ∉ X) (hl : ri_lent (mg a b)) : f_X12_mayCarve b (nI f) (nI k) (nI e) = some (mc_i (mc_b a f k e), b) := by
  have c3 : 8 * nI f + nI k = nI (f * 8 + k) := rl_ix3 (w := 8)
  have c6 : am_in (nI (f * 8 + k)) 64 = true := rl_nin (by decide) (by omega)
  have c7 : (nI (f * 8 + k)).toNatClampNeg = f * 8 + k := nI_clamp (by omega)
  have r0 : b.1 87 = a.1 25 := h.r (by decide) h25
  obtain ⟨⟨l, l1, l2⟩, -, l3⟩ := hl
  have l2 : a.1 21 6 = nI l := l2
  have em : b.1 58 46 = nI l := by rw [h.f (c := 21) (k := 6) (by decide)]; exact l2
  have l4 := l3 f k e hf hk he
  have l4 : (a.2 26 (f * 8 + k)).toBitVec.getLsbD e = true ↔ ∃ i, i < (a.1 21 6).toNatClampNeg ∧ mc_m b f k e i := l4
  rw [l2, nI_clamp (by omega)] at l4
  unfold f_X12_mayCarve
  rw [c3, rl_gu c6, c7, r0]
  by_cases o : a.1 25 (f * 8 + k) = 0
  · rw [if_pos o]
    rcases mc_loop b f k e l em l1 am_FU 0 (by omega) (by unfold am_FU; omega) with ⟨g1, j, -, g3, g4⟩ | ⟨g1, g2⟩
    · have hb : (a.2 26 (f * 8 + k)).toBitVec.getLsbD e = true := l4.mpr ⟨j, g3, g4⟩
      rw [show (0 : Int32) = nI 0 from rfl, g1]
      simp [am_lp, mc_i, mc_b, hb]
    · have hb : (a.2 26 (f * 8 + k)).toBitVec.getLsbD e = false := by
        cases hc : (a.2 26 (f * 8 + k)).toBitVec.getLsbD e with
        | false => rfl
        | true =>
          obtain ⟨j, q1, q2⟩ := l4.mp hc
          exact absurd q2 (g2 j (by omega) q1)
      rw [show (0 : Int32) = nI 0 from rfl, g1]
      simp [am_lp, mc_i, mc_b, hb, o]
      rfl
  · rw [if_neg o]
    simp [mc_i, mc_b, o]
theorem cv_in {a : am_S} {e f : Nat} (hf : f < 8) (he : e < 40) : ∀ (n k : Nat) (v : Int32), k ≤ 8 → 8 < k + n → ∃ v', f_X2_carvable_L15 n (nI e) v (nI f) (nI k) a = some (.inr (v', a)) ∧ ∀ j, j < 8 → (v'.toBitVec.getLsbD j = true ↔ v.toBitVec.getLsbD j = true ∨ k ≤ j ∧ mc_b a f j e = true) := by
  intro n
  induction n with
  | zero => intro k v h1 h2; omega
  | succ n ih =>
    intro k v h1 h2
    by_cases hk : k < 8
    · have d1 : nI k < 8 := nI_lt (b := 8) hk (by decide)
      have d4 : nI k + 1 = nI (k + 1) := nI_1 k
      have m := mc_X a f k e hf hk he
      cases hb : mc_b a f k e with
      | false =>
        rw [hb] at m
        have m : f_X2_mayCarve a (nI f) (nI k) (nI e) = some (0, a) := m
        obtain ⟨v', g1, g2⟩ := ih (k + 1) v (by omega) (by omega)
        refine ⟨v', by simp [f_X2_carvable_L15, d1, am_bd, am_jn, m, d4, g1], fun j hj => ?_⟩
        rw [g2 j hj]
        constructor
        · rintro (q | ⟨q1, q2⟩)
          · exact Or.inl q
          · exact Or.inr ⟨by omega, q2⟩
        · rintro (q | ⟨q1, q2⟩)
          · exact Or.inl q
          · by_cases e : j = k
            · rw [e, hb] at q2; cases q2
            · exact Or.inr ⟨by omega, q2⟩
      | true =>
        rw [hb] at m
        have m : f_X2_mayCarve a (nI f) (nI k) (nI e) = some (1, a) := m
        obtain ⟨v', g1, g2⟩ := ih (k + 1) (v ||| (1 <<< (nI k &&& 31))) (by omega) (by omega)
        refine ⟨v', by simp [f_X2_carvable_L15, d1, am_bd, am_jn, m, d4, g1], fun j hj => ?_⟩
        rw [g2 j hj, bt_o v (by omega) (by omega), Bool.or_eq_true, decide_eq_true_eq]
        constructor
        · rintro ((q | q) | ⟨q1, q2⟩)
          · exact Or.inl q
          · exact Or.inr ⟨by omega, by rw [q]; exact hb⟩
          · exact Or.inr ⟨by omega, q2⟩
        · rintro (q | ⟨q1, q2⟩)
          · exact Or.inl (Or.inl q)
          · by_cases e : j = k
            · exact Or.inl (Or.inr e)
            · exact Or.inr ⟨by omega, q2⟩
    · have d1 : ¬ nI k < 8 := nI_nlt (b := 8) (by omega) (by omega)
      refine ⟨v, by simp [f_X2_carvable_L15, d1], fun j hj => ⟨Or.inl, ?_⟩⟩
      rintro (q | ⟨q1, q2⟩)
      · exact q
      · omega
theorem cv_out {a : am_S} {e F : Nat} (hF : F ≤ 8) (he : e < 40) (eF : a.1 21 0 = nI F) : ∀ (n f : Nat) (v : Int32), f ≤ F → F < f + n → ∃ v', f_X2_carvable_L4 n (nI e) v (nI f) a = some (.inr (v', a)) ∧ ∀ j, j < 8 → (v'.toBitVec.getLsbD j = true ↔ v.toBitVec.getLsbD j = true ∨ ∃ f', f ≤ f' ∧ f' < F ∧ mc_b a f' j e = true) := by
  intro n
  induction n with
  | zero => intro f v h1 h2; omega
  | succ n ih =>
    intro f v h1 h2
    by_cases hf : f < F
    · have d1 : nI f < nI F := nI_lt hf (by omega)
      have d4 : nI f + 1 = nI (f + 1) := nI_1 f
      obtain ⟨v1, g1, g2⟩ := cv_in (a := a) (e := e) (f := f) (by omega) he am_FU 0 v (by omega) (by unfold am_FU; omega)
      have g1 : f_X2_carvable_L15 am_FU (nI e) v (nI f) 0 a = some (.inr (v1, a)) := g1
      obtain ⟨v2, k1, k2⟩ := ih (f + 1) v1 (by omega) (by omega)
      refine ⟨v2, by simp [f_X2_carvable_L4, eF, d1, am_lp, g1, d4, k1], fun j hj => ?_⟩
      rw [k2 j hj, g2 j hj]
      constructor
      · rintro ((q | ⟨q1, q2⟩) | ⟨f', q1, q2, q3⟩)
        · exact Or.inl q
        · exact Or.inr ⟨f, by omega, hf, q2⟩
        · exact Or.inr ⟨f', by omega, q2, q3⟩
      · rintro (q | ⟨f', q1, q2, q3⟩)
        · exact Or.inl (Or.inl q)
        · by_cases e : f' = f
          · rw [e] at q3; exact Or.inl (Or.inr ⟨by omega, q3⟩)
          · exact Or.inr ⟨f', by omega, q2, q3⟩
    · have d1 : ¬ nI f < nI F := nI_nlt (by omega) (by omega)
      refine ⟨v, by simp [f_X2_carvable_L4, eF, d1], fun j hj => ⟨Or.inl, ?_⟩⟩
      rintro (q | ⟨f', q1, q2, q3⟩)
      · exact q
      · omega
theorem cm_in {a b : am_S} {x1 : Int32} {x2 : Int64} {e F k : Nat} (hk : k < 8) (hF : F ≤ 8) (he : e < 40) (eF : a.1 21 0 = nI F) (ee : a.1 0 5 = nI e) (h : rl_x [] a b) (hl : ri_lent (mg a b)) : ∀ (n f : Nat) (v : Int32), f ≤ F → F < f + n → ∃ v', f_X12_log_L54 n x1 x2 v (nI k) (nI f) b = some (.inr (v', b)) ∧ ∀ j, j < 8 → (v'.toBitVec.getLsbD j = true ↔ v.toBitVec.getLsbD j = true ∨ j = k ∧ ∃ f', f ≤ f' ∧ f' < F ∧ mc_b a f' k e = true) := by
  have em : b.1 58 41 = nI F := (h.f (c := 21) (k := 0) (by decide)).trans eF
  have et : b.1 58 51 = nI e := (h.f (c := 0) (k := 5) (by decide)).trans ee
  intro n
  induction n with
  | zero => intro f v h1 h2; omega
  | succ n ih =>
    intro f v h1 h2
    by_cases hf : f < F
    · have d1 : nI f < nI F := nI_lt hf (by omega)
      have d4 : nI f + 1 = nI (f + 1) := nI_1 f
      have m := mc_M2 (X := []) f k e (by omega) hk he h (by simp) hl
      cases hb : mc_b a f k e with
      | false =>
        rw [hb] at m
        have m : f_X12_mayCarve b (nI f) (nI k) (nI e) = some (0, b) := m
        obtain ⟨v', g1, g2⟩ := ih (f + 1) v (by omega) (by omega)
        refine ⟨v', by simp [f_X12_log_L54, em, et, d1, am_bd, am_jn, m, d4, g1], fun j hj => ?_⟩
        rw [g2 j hj]
        constructor
        · rintro (q | ⟨q1, f', q2, q3, q4⟩)
          · exact Or.inl q
          · exact Or.inr ⟨q1, f', by omega, q3, q4⟩
        · rintro (q | ⟨q1, f', q2, q3, q4⟩)
          · exact Or.inl q
          · by_cases e : f' = f
            · rw [e, hb] at q4; cases q4
            · exact Or.inr ⟨q1, f', by omega, q3, q4⟩
      | true =>
        rw [hb] at m
        have m : f_X12_mayCarve b (nI f) (nI k) (nI e) = some (1, b) := m
        obtain ⟨v', g1, g2⟩ := ih (f + 1) (v ||| (1 <<< (nI k &&& 31))) (by omega) (by omega)
        refine ⟨v', by simp [f_X12_log_L54, em, et, d1, am_bd, am_jn, m, d4, g1], fun j hj => ?_⟩
        rw [g2 j hj, bt_o v (by omega) (by omega), Bool.or_eq_true, decide_eq_true_eq]
        constructor
        · rintro ((q | q) | ⟨q1, f', q2, q3, q4⟩)
          · exact Or.inl q
          · exact Or.inr ⟨q, f, by omega, hf, hb⟩
          · exact Or.inr ⟨q1, f', by omega, q3, q4⟩
        · rintro (q | ⟨q1, f', q2, q3, q4⟩)
          · exact Or.inl (Or.inl q)
          · exact Or.inl (Or.inr q1)
    · have d1 : ¬ nI f < nI F := nI_nlt (by omega) (by omega)
      refine ⟨v, by simp [f_X12_log_L54, em, d1], fun j hj => ⟨Or.inl, ?_⟩⟩
      rintro (q | ⟨q1, f', q2, q3, q4⟩)
      · exact q
      · omega
theorem cm_out {a b : am_S} {x1 : Int32} {x2 : Int64} {e F K : Nat} (hK : K ≤ 8) (hF : F ≤ 8) (he : e < 40) (eF : a.1 21 0 = nI F) (eK : a.1 17 0 = nI K) (ee : a.1 0 5 = nI e) (h : rl_x [] a b) (hl : ri_lent (mg a b)) : ∀ (n k : Nat) (v : Int32), k ≤ K → K < k + n → ∃ v', f_X12_log_L42 n x1 x2 v (nI k) b = some (.inr (v', b)) ∧ ∀ j, j < 8 → (v'.toBitVec.getLsbD j = true ↔ v.toBitVec.getLsbD j = true ∨ k ≤ j ∧ j < K ∧ ∃ f', f' < F ∧ mc_b a f' j e = true) := by
  have em : b.1 58 37 = nI K := (h.f (c := 17) (k := 0) (by decide)).trans eK
  intro n
  induction n with
  | zero => intro k v h1 h2; omega
  | succ n ih =>
    intro k v h1 h2
    by_cases hk : k < K
    · have d1 : nI k < nI K := nI_lt hk (by omega)
      have d4 : nI k + 1 = nI (k + 1) := nI_1 k
      obtain ⟨v1, g1, g2⟩ := cm_in (x1 := x1) (x2 := x2) (k := k) (by omega) hF he eF ee h hl am_FU 0 v (by omega) (by unfold am_FU; omega)
      have g1 : f_X12_log_L54 am_FU x1 x2 v (nI k) 0 b = some (.inr (v1, b)) := g1
      obtain ⟨v2, k1, k2⟩ := ih (k + 1) v1 (by omega) (by omega)
      refine ⟨v2, by simp [f_X12_log_L42, em, d1, am_lp, g1, d4, k1], fun j hj => ?_⟩
      rw [k2 j hj, g2 j hj]
      constructor
      · rintro ((q | ⟨q1, f', -, q3, q4⟩) | ⟨q1, q2, q3⟩)
        · exact Or.inl q
        · exact Or.inr ⟨by omega, by omega, f', q3, by rw [q1]; exact q4⟩
        · exact Or.inr ⟨by omega, q2, q3⟩
      · rintro (q | ⟨q1, q2, f', q3, q4⟩)
        · exact Or.inl (Or.inl q)
        · by_cases e : j = k
          · rw [e] at q4; exact Or.inl (Or.inr ⟨e, f', by omega, q3, q4⟩)
          · exact Or.inr ⟨by omega, q2, f', q3, q4⟩
    · have d1 : ¬ nI k < nI K := nI_nlt (by omega) (by omega)
      refine ⟨v, by simp [f_X12_log_L42, em, d1], fun j hj => ⟨Or.inl, ?_⟩⟩
      rintro (q | ⟨q1, q2, q3⟩)
      · exact q
      · omega
theorem fl_sm : ∀ u, u < 64 → ((Int32.toInt64 (nI u) &&& 63).toBitVec.smod 64) = BitVec.ofNat 64 u := by decide +kernel
theorem fl_M : ∀ w, w < 10 → ∀ i, i < 64 → (((lN 1) <<< (Int32.toInt64 (nI w) &&& 63)) - lN 1).toBitVec.getLsbD i = decide (i < w) := by decide +kernel
theorem fl_A (F M : BitVec 64) {u w : Nat} (hu : u + w ≤ 60) (hM : ∀ i, i < 64 → M.getLsbD i = decide (i < w)) : F &&& (M <<< u) = 0#64 ↔ ∀ i, u ≤ i → i < u + w → F.getLsbD i = false := by
  constructor
  · intro h i h1 h2
    have t := congrArg (fun x => x.getLsbD i) h
    have m1 : M.getLsbD (i - u) = true := by rw [hM _ (by omega)]; simp; omega
    simp only [BitVec.getLsbD_and, BitVec.getLsbD_shiftLeft, m1] at t
    simpa [show i < 64 by omega, show ¬ i < u by omega] using t
  · intro h
    apply BitVec.eq_of_getLsbD_eq
    intro i hi
    rw [BitVec.getLsbD_and, BitVec.getLsbD_shiftLeft]
    by_cases c : u ≤ i ∧ i < u + w
    · rw [h i c.1 c.2]; simp
    · by_cases c1 : i < u
      · simp [c1]
      · have e : M.getLsbD (i - u) = false := by rw [hM (i - u) (by omega)]; simp; omega
        rw [e]; simp
theorem fl_B (F M : BitVec 64) {u w : Nat} (hu : u + w ≤ 60) (hM : ∀ i, i < 64 → M.getLsbD i = decide (i < w)) : F.sshiftRight u &&& M = 0#64 ↔ ∀ i, u ≤ i → i < u + w → F.getLsbD i = false := by
  constructor
  · intro h i h1 h2
    have t := congrArg (fun x => x.getLsbD (i - u)) h
    have m1 : M.getLsbD (i - u) = true := by rw [hM _ (by omega)]; simp; omega
    simp only [BitVec.getLsbD_and, BitVec.getLsbD_sshiftRight, m1] at t
    rw [if_pos (by omega), show u + (i - u) = i by omega] at t
    simpa [show ¬ 64 ≤ i - u by omega] using t
  · intro h
    apply BitVec.eq_of_getLsbD_eq
    intro i hi
    rw [BitVec.getLsbD_and, BitVec.getLsbD_sshiftRight]
    by_cases c : i < w
    · rw [if_pos (by omega), h (u + i) (by omega) (by omega)]; simp
    · have e : M.getLsbD i = false := by rw [hM i (by omega)]; simp; omega
      rw [e]; simp
theorem fl_eq (fl : Int64) {u w : Nat} (hw : w < 10) (hu : u + w ≤ 60) : (lg_cmp (fl &&& ((((lN 1) <<< (Int32.toInt64 (nI w) &&& 63)) - lN 1) <<< (Int32.toInt64 (nI u) &&& 63))) (lN 0) = 0) ↔ (lg_cmp ((fl >>> (Int32.toInt64 (nI u) &&& 63)) &&& (((lN 1) <<< (Int32.toInt64 (nI w) &&& 63)) - (lN 1))) (lN 0) = 0) := by
  rw [mc_cmp, mc_cmp]
  have hM := fl_M w hw
  revert hM
  generalize (((lN 1) <<< (Int32.toInt64 (nI w) &&& 63)) - lN 1) = M
  intro hM
  rw [← Int64.toBitVec_inj, ← Int64.toBitVec_inj, Int64.toBitVec_and, Int64.toBitVec_and, Int64.toBitVec_shiftLeft, Int64.toBitVec_shiftRight, fl_sm u (by omega), BitVec.shiftLeft_eq', BitVec.sshiftRight_eq', BitVec.toNat_ofNat, Nat.mod_eq_of_lt (by omega)]
  exact (fl_A fl.toBitVec M.toBitVec hu hM).trans (fl_B fl.toBitVec M.toBitVec hu hM).symm
