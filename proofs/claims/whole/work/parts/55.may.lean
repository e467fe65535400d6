/-! ===== who may carve: the bits of the class, the rows of the reference ===== -/
theorem ts_bit {w : Int64} {s : UInt64} {j : Nat} (hj : j < 64) (hs : s.toNat = j) : ((w.toUInt64 >>> s).toInt64 &&& 1) = 0 ↔ w.toBitVec.getLsbD j = false := by
  have e : (w.toUInt64 >>> s).toInt64.toBitVec = w.toBitVec >>> j := by
    apply BitVec.eq_of_toNat_eq
    show (w.toUInt64 >>> s).toNat = _
    rw [UInt64.toNat_shiftRight, hs, Nat.mod_eq_of_lt hj, BitVec.toNat_ushiftRight]
    rfl
  rw [← Int64.toBitVec_inj, Int64.toBitVec_and, e]
  show w.toBitVec >>> j &&& 1#64 = 0#64 ↔ _
  constructor
  · intro h
    have t := congrArg (fun x => x.getLsbD 0) h
    simpa using t
  · intro h
    apply BitVec.eq_of_getLsbD_eq
    intro i hi
    cases i with
    | zero => simp [h]
    | succ i => simp
theorem mc_cu : ∀ k, k < 64 → ((nI k).toInt64.toUInt64 &&& Int64.toUInt64 63) = UInt64.ofNat k := by decide +kernel
theorem mc_cmp {x y : Int64} : lg_cmp x y = 0 ↔ x = y := by
  unfold lg_cmp
  by_cases h1 : y < x
  · simp only [h1, if_true]
    exact ⟨fun q => absurd q (by decide), fun q => absurd h1 (by rw [q]; exact Int64.lt_irrefl)⟩
  · by_cases h2 : x = y
    · simp [h2]
    · simp only [h1, if_false, h2]
      exact ⟨fun q => absurd q (by decide), fun q => q.elim⟩
def mc_b (s : am_S) (f k e : Nat) : Bool := !decide (s.1 25 (f * 8 + k) = 0) || (s.2 26 (f * 8 + k)).toBitVec.getLsbD e
def mc_m (s : am_S) (f k e i : Nat) : Prop := s.1 88 i = nI f ∧ s.1 89 i = nI k ∧ s.1 90 i ≤ nI e ∧ nI e < s.1 91 i
theorem mc_loop (s : am_S) (f k e l : Nat) (hl : s.1 58 46 = nI l) (h100 : l ≤ 100) : ∀ n i : Nat, i ≤ l → l < i + n →
    (f_X12_mayCarve_L19 n (nI f) (nI k) (nI e) (nI i) s = some (.inl (1, s)) ∧ ∃ j, i ≤ j ∧ j < l ∧ mc_m s f k e j) ∨ (f_X12_mayCarve_L19 n (nI f) (nI k) (nI e) (nI i) s = some (.inr ((), s)) ∧ ∀ j, i ≤ j → j < l → ¬ mc_m s f k e j) := by
  intro n
  induction n with
  | zero => intro i h1 h2; exact absurd h2 (by omega)
  | succ n ih =>
    intro i h1 h2
    rw [f_X12_mayCarve_L19, hl]
    by_cases hi : i < l
    · have b1 : nI i < nI l := nI_lt hi (by omega)
      have b2 : am_in (nI i) 100 = true := rl_nin (by decide) (by omega)
      have b3 : (nI i).toNatClampNeg = i := nI_clamp (by omega)
      have b4 : nI i + 1 = nI (i + 1) := nI_1 i
      have go : ¬ mc_m s f k e i → (f_X12_mayCarve_L19 n (nI f) (nI k) (nI e) (nI (i + 1)) s = some (.inl (1, s)) ∧ ∃ j, i ≤ j ∧ j < l ∧ mc_m s f k e j) ∨ (f_X12_mayCarve_L19 n (nI f) (nI k) (nI e) (nI (i + 1)) s = some (.inr ((), s)) ∧ ∀ j, i ≤ j → j < l → ¬ mc_m s f k e j) := by
        intro hm
        rcases ih (i + 1) (by omega) (by omega) with ⟨g1, j, g2, g3, g4⟩ | ⟨g1, g2⟩
        · exact Or.inl ⟨g1, j, by omega, g3, g4⟩
        · refine Or.inr ⟨g1, fun j q1 q2 => ?_⟩
          by_cases e9 : j = i
          · rw [e9]; exact hm
          · exact g2 j (by omega) q2
      simp only [if_pos b1, rl_gu b2, am_jn, b3, b4]
      by_cases c1 : s.1 88 i = nI f
      · simp only [if_pos c1]
        by_cases c2 : s.1 89 i = nI k
        · simp only [if_pos c2]
          by_cases c3 : nI e < s.1 90 i
          · simp only [if_pos c3]
            exact go (fun q => absurd c3 (Int32.not_lt.mpr q.2.2.1))
          · simp only [if_neg c3]
            by_cases c4 : nI e < s.1 91 i
            · simp only [if_pos c4]
              exact Or.inl ⟨trivial, i, Nat.le_refl _, hi, c1, c2, Int32.not_lt.mp c3, c4⟩
            · simp only [if_neg c4]
              exact go (fun q => c4 q.2.2.2)
        · simp only [if_neg c2]
          exact go (fun q => c2 q.2.1)
      · simp only [if_neg c1]
        exact go (fun q => c1 q.1)
    · have b1 : ¬ nI i < nI l := nI_nlt (by omega) (by omega)
      simp only [if_neg b1]
      exact Or.inr ⟨trivial, fun j q1 q2 => absurd q2 (by omega)⟩
def mc_i (b : Bool) : Int32 := bif b then 1 else 0
theorem mc_X (s : am_S) (f k e : Nat) (hf : f < 8) (hk : k < 8) (he : e < 40) : f_X2_mayCarve s (nI f) (nI k) (nI e) = some (mc_i (mc_b s f k e), s) := by
  have c3 : nI f * 8 + nI k = nI (f * 8 + k) := rl_ix2 (w := 8)
  have c6 : am_in (nI (f * 8 + k)) 64 = true := rl_nin (by decide) (by omega)
  have c7 : (nI (f * 8 + k)).toNatClampNeg = f * 8 + k := nI_clamp (by omega)
  unfold f_X2_mayCarve
  rw [c3, rl_gu c6, rl_gu c6, c7, mc_cu e (by omega)]
  by_cases o : s.1 25 (f * 8 + k) = 0
  · rw [if_pos o]
    have key : lg_cmp ((Int64.toUInt64 (s.2 26 (f * 8 + k)) >>> UInt64.ofNat e).toInt64 &&& lN 1) (lN 0) = 0 ↔ (s.2 26 (f * 8 + k)).toBitVec.getLsbD e = false := by
      rw [mc_cmp]
      exact ts_bit (j := e) (by omega) (by simp; omega)
    cases hb : (s.2 26 (f * 8 + k)).toBitVec.getLsbD e with
    | false =>
      rw [if_pos (key.mpr hb)]
      simp [mc_i, mc_b, o, hb]
    | true =>
      rw [if_neg (fun q => by rw [key.mp q] at hb; cases hb)]
      simp [mc_i, mc_b, hb]
  · rw [if_neg o]
    simp [mc_i, mc_b, o]
theorem mc_M (s : am_S) (f k e : Nat) (hf : f < 8) (hk : k < 8) (he : e < 40) (h : rl_q s) (hl : ri_lent s) : f_X12_mayCarve s (nI f) (nI k) (nI e) = some (mc_i (mc_b s f k e), s) := by
  have c3 : 8 * nI f + nI k = nI (f * 8 + k) := rl_ix3 (w := 8)
  have c6 : am_in (nI (f * 8 + k)) 64 = true := rl_nin (by decide) (by omega)
  have c7 : (nI (f * 8 + k)).toNatClampNeg = f * 8 + k := nI_clamp (by omega)
  have r0 : s.1 87 = s.1 25 := rq_r h (by decide)
  obtain ⟨⟨l, l1, l2⟩, -, l3⟩ := hl
  have em : s.1 58 46 = nI l := by rw [rq_f h (c := 21) (k := 6) (by decide)]; exact l2
  have l4 := l3 f k e hf hk he
  rw [l2, nI_clamp (by omega)] at l4
  unfold f_X12_mayCarve
  rw [c3, rl_gu c6, c7, r0]
  by_cases o : s.1 25 (f * 8 + k) = 0
  · rw [if_pos o]
    rcases mc_loop s f k e l em l1 am_FU 0 (by omega) (by unfold am_FU; omega) with ⟨g1, j, -, g3, g4⟩ | ⟨g1, g2⟩
    · have hb : (s.2 26 (f * 8 + k)).toBitVec.getLsbD e = true := l4.mpr ⟨j, g3, g4⟩
      rw [show (0 : Int32) = nI 0 from rfl, g1]
      simp [am_lp, mc_i, mc_b, hb]
    · have hb : (s.2 26 (f * 8 + k)).toBitVec.getLsbD e = false := by
        cases hc : (s.2 26 (f * 8 + k)).toBitVec.getLsbD e with
        | false => rfl
        | true =>
          obtain ⟨j, q1, q2⟩ := l4.mp hc
          exact absurd q2 (g2 j (by omega) q1)
      rw [show (0 : Int32) = nI 0 from rfl, g1]
      simp [am_lp, mc_i, mc_b, hb, o]
      rfl
  · rw [if_neg o]
    simp [mc_i, mc_b, o]
