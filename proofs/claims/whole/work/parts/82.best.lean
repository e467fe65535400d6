/-! ===== the best set, on both sides ===== -/
def omk (a : am_S) : Nat → Nat
  | 0 => 0
  | o + 1 => omk a o + (if a.1 48 o = 0 then 2 ^ o else 0)
theorem omk_lt (a : am_S) (o : Nat) : omk a o < 2 ^ o := by
  induction o with
  | zero => exact Nat.zero_lt_one
  | succ o ih =>
    rw [omk, Nat.pow_succ]
    split <;> omega
theorem om_or : ∀ o, o < 8 → ∀ m, m < 2 ^ o → nI m ||| (1 <<< (nI o &&& 31)) = nI (m + 2 ^ o) := by decide +kernel
theorem om_tb : ∀ o, o < 8 → ∀ m, m < 2 ^ o → ∀ j, j < 8 → (m + 2 ^ o).testBit j = (m.testBit j || decide (j = o)) := by decide +kernel
theorem omk_b (a : am_S) : ∀ o, o ≤ 8 → ∀ j, j < 8 → ((omk a o).testBit j = true ↔ j < o ∧ a.1 48 j = 0) := by
  intro o
  induction o with
  | zero => intro _ j _; rw [omk]; simp
  | succ o ih =>
    intro ho j hj
    rw [omk]
    by_cases q : a.1 48 o = 0
    · rw [if_pos q, om_tb o (by omega) (omk a o) (omk_lt a o) j hj, Bool.or_eq_true, decide_eq_true_eq, ih (by omega) j hj]
      constructor
      · rintro (⟨h1, h2⟩ | h)
        · exact ⟨by omega, h2⟩
        · exact ⟨by omega, by rw [h]; exact q⟩
      · rintro ⟨h1, h2⟩
        by_cases e : j = o
        · exact Or.inr e
        · exact Or.inl ⟨by omega, h2⟩
    · rw [if_neg q, Nat.add_zero, ih (by omega) j hj]
      constructor
      · rintro ⟨h1, h2⟩; exact ⟨by omega, h2⟩
      · rintro ⟨h1, h2⟩
        refine ⟨?_, h2⟩
        by_cases e : j = o
        · rw [e] at h2; exact absurd h2 q
        · omega
theorem om_C {a : am_S} {O : Nat} (hO : O ≤ 8) (eO : a.1 46 0 = nI O) : ∀ (n o : Nat), o ≤ O → O < o + n → f_X5_openOnes_L4 n (nI (omk a o)) (nI o) a = some (.inr (nI (omk a O), a)) := by
  intro n
  induction n with
  | zero => intro o h1 h2; omega
  | succ n ih =>
    intro o h1 h2
    by_cases ho : o < O
    · have d1 : nI o < nI O := nI_lt ho (by omega)
      have d2 : am_in (nI o) 8 = true := rl_nin (by decide) (by omega)
      have d3 : (nI o).toNatClampNeg = o := nI_clamp (by omega)
      have d4 : nI o + 1 = nI (o + 1) := nI_1 o
      have g := ih (o + 1) (by omega) (by omega)
      rw [omk] at g
      by_cases q : a.1 48 o = 0
      · rw [if_pos q, ← om_or o (by omega) (omk a o) (omk_lt a o)] at g
        simp only [f_X5_openOnes_L4, eO, if_pos d1, rl_gu d2, d3, am_jn, if_pos q, d4]
        exact g
      · rw [if_neg q] at g
        simp only [f_X5_openOnes_L4, eO, if_pos d1, rl_gu d2, d3, am_jn, if_neg q, d4]
        exact g
    · have d1 : ¬ nI o < nI O := nI_nlt (by omega) (by omega)
      have e : o = O := by omega
      subst e
      simp only [f_X5_openOnes_L4, eO, if_neg d1]
theorem om_Ca {a : am_S} {O : Nat} (hO : O ≤ 8) (eO : a.1 46 0 = nI O) : f_X5_openOnes a = some (nI (omk a O), a) := by
  have g := om_C hO eO am_FU 0 (by omega) (by unfold am_FU; omega)
  have g : f_X5_openOnes_L4 am_FU 0 0 a = _ := g
  rw [f_X5_openOnes, lp_r g]
theorem nI_tb {S j : Nat} (hj : j < 32) : (nI S).toBitVec.getLsbD j = S.testBit j := by
  show (BitVec.ofNat 32 S).getLsbD j = _
  rw [BitVec.getLsbD_ofNat, decide_eq_true hj, Bool.true_and]
theorem sub_set {S M : Nat} (hS : S < 256) : (nI S &&& (nI M ^^^ (-1))) = 0 ↔ ∀ j, j < 8 → S.testBit j = true → M.testBit j = true := by
  have e1 : ∀ j, j < 32 → (nI S &&& (nI M ^^^ (-1))).toBitVec.getLsbD j = (S.testBit j && !(M.testBit j)) := by
    intro j hj
    rw [Int32.toBitVec_and, Int32.toBitVec_xor, BitVec.getLsbD_and, BitVec.getLsbD_xor, nI_tb hj, nI_tb hj]
    have e2 : ∀ j, j < 32 → (-1 : Int32).toBitVec.getLsbD j = true := by decide
    rw [e2 j hj, Bool.xor_true]
  constructor
  · intro h j hj hs
    have q := e1 j (by omega)
    rw [h, hs] at q
    have z : (0 : Int32).toBitVec.getLsbD j = false := by
      show (0#32).getLsbD j = false
      simp
    rw [z] at q
    simpa using q.symm
  · intro h
    apply Int32.toBitVec_inj.mp
    apply BitVec.eq_of_getLsbD_eq
    intro j hj
    rw [e1 j hj]
    have z : (0 : Int32).toBitVec.getLsbD j = false := by
      show (0#32).getLsbD j = false
      simp
    rw [z]
    by_cases h8 : j < 8
    · cases hs : S.testBit j with
      | false => rfl
      | true => rw [h j h8 hs]; rfl
    · have : S < 2 ^ j := Nat.lt_of_lt_of_le hS (by have := Nat.pow_le_pow_right (show 0 < 2 by decide) (show 8 ≤ j by omega); simpa using this)
      rw [Nat.testBit_lt_two_pow this]; rfl
theorem le_set {S M : Nat} (hS : S < 256) (h : ∀ j, j < 8 → S.testBit j = true → M.testBit j = true) : S ≤ M := by
  have e : S &&& M = S := by
    apply Nat.eq_of_testBit_eq
    intro j
    rw [Nat.testBit_and]
    by_cases h8 : j < 8
    · cases hs : S.testBit j with
      | false => rfl
      | true => rw [h j h8 hs]; rfl
    · have : S < 2 ^ j := Nat.lt_of_lt_of_le hS (by have := Nat.pow_le_pow_right (show 0 < 2 by decide) (show 8 ≤ j by omega); simpa using this)
      rw [Nat.testBit_lt_two_pow this]; rfl
  rw [← e]
  exact Nat.and_le_right
theorem op_iff {a : am_S} {S O : Nat} (hO : O ≤ 8) (hS : S < 2 ^ O) : OP a S O ↔ ∀ j, j < 8 → S.testBit j = true → (omk a O).testBit j = true := by
  constructor
  · intro h j hj hs
    have hjO : j < O := by
      apply Decidable.byContradiction
      intro q
      have : S < 2 ^ j := Nat.lt_of_lt_of_le hS (Nat.pow_le_pow_right (by decide) (by omega))
      rw [Nat.testBit_lt_two_pow this] at hs
      cases hs
    exact (omk_b a O hO j hj).mpr ⟨hjO, h j hjO hs⟩
  · intro h j hj hs
    exact ((omk_b a O hO j (by omega)).mp (h j (by omega) hs)).2
theorem nd_cg {a a' : am_S} {O : Nat} (h50 : a'.1 50 = a.1 50) (h51 : a'.1 51 = a.1 51) (h52 : a'.1 52 = a.1 52) (h53 : a'.1 53 = a.1 53) (h : nd_t a O) : nd_t a' O := by
  have e1 : ∀ o, ndn a' o = ndn a o := fun o => by unfold ndn; rw [h50]
  have e2 : ∀ o, ndm a' o = ndm a o := fun o => by unfold ndm; rw [h51]
  have e3 : ∀ o, ndk a' o = ndk a o := fun o => by unfold ndk; rw [h52]
  have e4 : ∀ o, ndd a' o = ndd a o := fun o => by unfold ndd; rw [h53]
  intro o ho
  rw [e1, h50, h51, h52, h53]
  refine ⟨(h o ho).1, (h o ho).2.1, fun i hi => ?_⟩
  rw [e2, e3, e4]
  exact (h o ho).2.2 i hi
theorem dmO_cg {a a' : am_S} (h50 : a'.1 50 = a.1 50) (h51 : a'.1 51 = a.1 51) (h52 : a'.1 52 = a.1 52) (h53 : a'.1 53 = a.1 53) (S k d : Nat) : ∀ o, dmO a' S k d o = dmO a S k d o := by
  have e1 : ∀ o, ndn a' o = ndn a o := fun o => by unfold ndn; rw [h50]
  have e2 : ∀ o, ndm a' o = ndm a o := fun o => by unfold ndm; rw [h51]
  have e3 : ∀ o, ndk a' o = ndk a o := fun o => by unfold ndk; rw [h52]
  have e4 : ∀ o, ndd a' o = ndd a o := fun o => by unfold ndd; rw [h53]
  have e5 : ∀ o i, dmI a' o k d i = dmI a o k d i := by
    intro o i
    induction i with
    | zero => rfl
    | succ i ih => rw [dmI, dmI, ih, e2, e3, e4]
  intro o
  induction o with
  | zero => rfl
  | succ o ih => rw [dmO, dmO, ih, e5, e1]
theorem sh_1 : ∀ O, O < 9 → (1 : Int32) <<< (nI O &&& 31) = nI (2 ^ O) := by decide +kernel
section BST
variable {a : am_S} {O N : Nat}
theorem bs_tail (hO : O ≤ 8) (eO : a.1 46 0 = nI O) (hw : ∀ o, o < O → ∃ w : Nat, w ≤ 1000 ∧ a.1 47 o = nI w) (ht : nd_t a O) : ∀ (n S P : Nat) (b : am_S), rl_x [] a b → (∀ k d, k < 8 → d < 6 → b.1 117 (6 * k + sh d) = nI (fr a k d N) ∧ fr a k d N ≤ 400) → omk a O < S → S ≤ 2 ^ O → 2 ^ O < S + n → P < 256 → ∃ b', f_X12_box_L8 n (nI P) (nI S) b = some (.inr (nI P, b')) ∧ rw_on [118] b' b := by
  have h2O : 2 ^ O ≤ 256 := by have := Nat.pow_le_pow_right (show 0 < 2 by decide) hO; simpa using this
  intro n
  induction n with
  | zero => intro S P b h hg h1 h2 h3; omega
  | succ n ih =>
    intro S P b h hg h1 h2 h3 hP
    have em : b.1 58 74 = nI O := (h.f (c := 46) (k := 0) (by decide)).trans eO
    have s1 := sh_1 O (by omega)
    have d4 : nI S + 1 = nI (S + 1) := nI_1 S
    by_cases hS : S < 2 ^ O
    · have d1 : nI S < nI (2 ^ O) := nI_lt hS (by omega)
      have ah := ah_M (S := S) (P := P) hO (by omega) hP h (by simp) eO hw
      cases hb : ahd a O S P with
      | false =>
        rw [hb] at ah
        obtain ⟨b', g1, g2⟩ := ih (S + 1) P b h hg (by omega) (by omega) (by omega) hP
        refine ⟨b', ?_, g2⟩
        rw [f_X12_box_L8, em, s1, if_pos d1, bd_some ah, d4]
        exact g1
      | true =>
        rw [hb] at ah
        have hm : mo b a O := ⟨em, h.r (by decide) (by simp), h.r (by decide) (by simp), h.r (by decide) (by simp), h.r (by decide) (by simp), h.r (by decide) (by simp)⟩
        obtain ⟨z, b1, k1, k2, k3⟩ := fl_all (S := S) (g := fun k d => fr a k d N) hO (by omega) ht hm hg
        have hz : z = false := by
          cases z with
          | false => rfl
          | true =>
            have q := (k3.mp rfl).1
            have := le_set (show S < 256 by omega) ((op_iff hO hS).mp q)
            omega
        subst hz
        obtain ⟨b', g1, g2⟩ := ih (S + 1) P b1 (h.on (rw_on.refl [] _) k2 (by intro p hp; revert p; decide) (by decide) (by decide)) (fun k d hk hd => by rw [(k2 117 (by simp)).1]; exact hg k d hk hd) (by omega) (by omega) (by omega) hP
        refine ⟨b', ?_, g2.trans k2⟩
        rw [f_X12_box_L8, em, s1, if_pos d1, bd_some ah, d4]
        simp only [am_jn]
        rw [show mc_i true = 1 from rfl, if_neg (by decide), bd_some k1, show mc_i false = 0 from rfl, if_pos rfl]
        exact g1
    · have d1 : ¬ nI S < nI (2 ^ O) := nI_nlt (by omega) (by omega)
      exact ⟨b, by rw [f_X12_box_L8, em, s1, if_neg d1], rw_on.refl _ _⟩
theorem bs_loop (hO : O ≤ 8) (hN : N ≤ 400) (eO : a.1 46 0 = nI O) (hw : ∀ o, o < O → ∃ w : Nat, w ≤ 1000 ∧ a.1 47 o = nI w) (ht : nd_t a O) : ∀ (n S P : Nat) (a1 b : am_S), rl_x [] a b → rw_on [55, 56] a1 a → (∀ k d, k < 8 → d < 6 → a1.1 55 (k * 6 + d) = nI (fr a k d N)) → (∀ k d, k < 8 → d < 6 → b.1 117 (6 * k + sh d) = nI (fr a k d N) ∧ fr a k d N ≤ 400) → S ≤ 2 ^ O → 2 ^ O < S + n → P < 256 → OP a P O → ∃ (Z : Nat) (a' b' : am_S), f_X0_bestSet_L16 n (nI (omk a O)) (nI P) (nI S) a1 = some (.inr (nI Z, a')) ∧ f_X12_box_L8 n (nI P) (nI S) b = some (.inr (nI Z, b')) ∧ rw_on [55, 56] a' a ∧ rw_on [118] b' b ∧ Z < 256 ∧ OP a Z O := by
  have h2O : 2 ^ O ≤ 256 := by have := Nat.pow_le_pow_right (show 0 < 2 by decide) hO; simpa using this
  have hMl := omk_lt a O
  intro n
  induction n with
  | zero => intro S P a1 b h ha hs hg h1 h2; omega
  | succ n ih =>
    intro S P a1 b h ha hs hg h1 h2 hP hOP
    have em : b.1 58 74 = nI O := (h.f (c := 46) (k := 0) (by decide)).trans eO
    have s1 := sh_1 O (by omega)
    have d4 : nI S + 1 = nI (S + 1) := nI_1 S
    by_cases hSM : omk a O < S
    · have d0 : nI (omk a O) < nI S := nI_lt hSM (by omega)
      obtain ⟨b', g1, g2⟩ := bs_tail hO eO hw ht (n + 1) S P b h hg hSM h1 h2 hP
      exact ⟨P, a1, b', by rw [f_X0_bestSet_L16, if_pos d0], g1, ha, g2, hP, hOP⟩
    · have d0 : ¬ nI (omk a O) < nI S := nI_nlt (by omega) (by omega)
      have hS : S < 2 ^ O := by omega
      have d1 : nI S < nI (2 ^ O) := nI_lt hS (by omega)
      have ah := ah_M (S := S) (P := P) hO (by omega) hP h (by simp) eO hw
      have z10 : ¬ (1 : Int32) = 0 := by decide
      have r46 : a1.1 46 0 = nI O := by rw [(ha 46 (by simp)).1]; exact eO
      have r47 : a1.1 47 = a.1 47 := (ha 47 (by simp)).1
      have ahc := ah_C (a := a1) (S := S) (P := P) hO (by omega) hP r46 (fun o ho => by rw [r47]; exact hw o ho)
      have eah : ahd a1 O S P = ahd a O S P := by unfold ahd; rw [wo_cg r47, wo_cg r47]
      rw [eah] at ahc
      have hm : mo b a O := ⟨em, h.r (by decide) (by simp), h.r (by decide) (by simp), h.r (by decide) (by simp), h.r (by decide) (by simp), h.r (by decide) (by simp)⟩
      obtain ⟨z, b1, k1, k2, k3⟩ := fl_all (S := S) (g := fun k d => fr a k d N) hO (by omega) ht hm hg
      have h' : rl_x [] a b1 := h.on (rw_on.refl [] _) k2 (by intro p hp; revert p; decide) (by decide) (by decide)
      have hg' : ∀ k d, k < 8 → d < 6 → b1.1 117 (6 * k + sh d) = nI (fr a k d N) ∧ fr a k d N ≤ 400 := fun k d hk hd => by rw [(k2 117 (by simp)).1]; exact hg k d hk hd
      by_cases hsub : (nI S &&& (nI (omk a O) ^^^ (-1))) = 0
      · have hopS : OP a S O := (op_iff hO hS).mpr ((sub_set (by omega)).mp hsub)
        cases hb : ahd a O S P with
        | false =>
          rw [hb] at ah ahc
          obtain ⟨Z, a', b', g1, g2, g3, g4, g5⟩ := ih (S + 1) P a1 b h ha hs hg (by omega) (by omega) hP hOP
          refine ⟨Z, a', b', ?_, ?_, g3, g4, g5⟩
          · rw [f_X0_bestSet_L16, if_neg d0]
            simp only [am_jn]
            rw [if_pos hsub, if_neg z10, bd_some ahc, d4]
            exact g1
          · rw [f_X12_box_L8, em, s1, if_pos d1, bd_some ah, d4]
            exact g2
        | true =>
          rw [hb] at ah ahc
          obtain ⟨z', a2, c1, c2, c3⟩ := cf_all (a0 := a1) (af := a) (S := S) (N := N) hO (by omega) hN r46 (nd_cg (ha 50 (by simp)).1 (ha 51 (by simp)).1 (ha 52 (by simp)).1 (ha 53 (by simp)).1 ht) hs
          have ez : z' = z := by
            have e1 : (z' = true) ↔ (z = true) := by
              rw [c3, k3]
              have e2 : ∀ k c, dmO a1 S k c O = dmO a S k c O := fun k c => dmO_cg (ha 50 (by simp)).1 (ha 51 (by simp)).1 (ha 52 (by simp)).1 (ha 53 (by simp)).1 S k c O
              constructor
              · intro q
                refine ⟨hopS, fun k hk => ?_⟩
                have q := q k hk
                simp only [e2] at q
                exact q
              · intro q k hk
                have q := q.2 k hk
                simp only [e2]
                exact q
            cases z <;> cases z' <;> simp at e1 ⊢
          subst ez
          have ha2 : rw_on [55, 56] a2 a := (c2.mono (by simp)).trans ha
          have hs2 : ∀ k d, k < 8 → d < 6 → a2.1 55 (k * 6 + d) = nI (fr a k d N) := fun k d hk hd => by rw [(c2 55 (by simp)).1]; exact hs k d hk hd
          cases z' with
          | false =>
            obtain ⟨Z, a', b', g1, g2, g3, g4, g5⟩ := ih (S + 1) P a2 b1 h' ha2 hs2 hg' (by omega) (by omega) hP hOP
            refine ⟨Z, a', b', ?_, ?_, g3, g4.trans k2, g5⟩
            · rw [f_X0_bestSet_L16, if_neg d0]
              simp only [am_jn]
              rw [if_pos hsub, if_neg z10, bd_some ahc, show mc_i true = 1 from rfl, if_neg z10, bd_some c1, show mc_i false = 0 from rfl, if_pos rfl, d4]
              exact g1
            · rw [f_X12_box_L8, em, s1, if_pos d1, bd_some ah, d4]
              simp only [am_jn]
              rw [show mc_i true = 1 from rfl, if_neg z10, bd_some k1, show mc_i false = 0 from rfl, if_pos rfl]
              exact g2
          | true =>
            obtain ⟨Z, a', b', g1, g2, g3, g4, g5⟩ := ih (S + 1) S a2 b1 h' ha2 hs2 hg' (by omega) (by omega) (by omega) hopS
            refine ⟨Z, a', b', ?_, ?_, g3, g4.trans k2, g5⟩
            · rw [f_X0_bestSet_L16, if_neg d0]
              simp only [am_jn]
              rw [if_pos hsub, if_neg z10, bd_some ahc, show mc_i true = 1 from rfl, if_neg z10, bd_some c1, show mc_i true = 1 from rfl, if_neg z10, d4]
              exact g1
            · rw [f_X12_box_L8, em, s1, if_pos d1, bd_some ah, d4]
              simp only [am_jn]
              rw [show mc_i true = 1 from rfl, if_neg z10, bd_some k1, show mc_i true = 1 from rfl, if_neg z10]
              exact g2
      · have hnop : ¬ OP a S O := fun q => hsub ((sub_set (by omega)).mpr ((op_iff hO hS).mp q))
        have hz : z = false := by
          cases z with
          | false => rfl
          | true => exact absurd (k3.mp rfl).1 hnop
        subst hz
        cases hb : ahd a O S P with
        | false =>
          rw [hb] at ah
          obtain ⟨Z, a', b', g1, g2, g3, g4, g5⟩ := ih (S + 1) P a1 b h ha hs hg (by omega) (by omega) hP hOP
          refine ⟨Z, a', b', ?_, ?_, g3, g4, g5⟩
          · rw [f_X0_bestSet_L16, if_neg d0]
            simp only [am_jn]
            rw [if_neg hsub, if_pos trivial, d4]
            exact g1
          · rw [f_X12_box_L8, em, s1, if_pos d1, bd_some ah, d4]
            exact g2
        | true =>
          rw [hb] at ah
          obtain ⟨Z, a', b', g1, g2, g3, g4, g5⟩ := ih (S + 1) P a1 b1 h' ha hs hg' (by omega) (by omega) hP hOP
          refine ⟨Z, a', b', ?_, ?_, g3, g4.trans k2, g5⟩
          · rw [f_X0_bestSet_L16, if_neg d0]
            simp only [am_jn]
            rw [if_neg hsub, if_pos trivial, d4]
            exact g1
          · rw [f_X12_box_L8, em, s1, if_pos d1, bd_some ah, d4]
            simp only [am_jn]
            rw [show mc_i true = 1 from rfl, if_neg z10, bd_some k1, show mc_i false = 0 from rfl, if_pos rfl]
            exact g2
theorem bs_all (hO : O ≤ 8) (hN : N ≤ 400) (eO : a.1 46 0 = nI O) (eN : a.1 39 1 = nI N) (hw : ∀ o, o < O → ∃ w : Nat, w ≤ 1000 ∧ a.1 47 o = nI w) (ht : nd_t a O) (hf : fg_t a N) {b : am_S} (h : rl_x [] a b) : ∃ (Z : Nat) (a' b1 b' : am_S), f_X0_bestSet a = some (nI Z, a') ∧ f_X12_counts b = some ((), b1) ∧ f_X12_box_L8 am_FU 0 1 b1 = some (.inr (nI Z, b')) ∧ rw_on [55, 56] a' a ∧ rw_on [117, 118] b' b ∧ Z < 256 ∧ OP a Z O := by
  have h2O : 2 ^ O ≤ 256 := by have := Nat.pow_le_pow_right (show 0 < 2 by decide) hO; simpa using this
  have h2O' : 1 ≤ 2 ^ O := Nat.one_le_two_pow
  obtain ⟨a1, s1, s2, s3⟩ := sp_all hf hN eN
  obtain ⟨b1, k1, k2, k3⟩ := cs_all (X := []) (by simp) (by simp) (by simp) (by simp) (by simp) hf hN eN h
  have hx : rl_x [] a b1 := h.on (rw_on.refl [] _) k2 (by intro p hp; revert p; decide) (by decide) (by decide)
  have o1 := om_Ca (a := a1) hO (by rw [(s2 46 (by simp)).1]; exact eO)
  have e48 : ∀ o, omk a1 o = omk a o := by
    intro o
    induction o with
    | zero => rfl
    | succ o ih => rw [omk, omk, ih, (s2 48 (by simp)).1]
  rw [e48] at o1
  obtain ⟨Z, a', b', g1, g2, g3, g4, g5⟩ := bs_loop hO hN eO hw ht am_FU 1 0 a1 b1 hx (s2.mono (by simp)) s3 (fun k d hk hd => ⟨k3 k d hk hd, by have := fr_le a k d N; omega⟩) h2O' (by unfold am_FU; omega) (by omega) (fun o _ q => by simp at q)
  have g1 : f_X0_bestSet_L16 am_FU (nI (omk a O)) 0 1 a1 = _ := g1
  have g2 : f_X12_box_L8 am_FU 0 1 b1 = _ := g2
  refine ⟨Z, a', b1, b', ?_, k1, g2, g3, (g4.mono (by simp)).trans (k2.mono (by simp)), g5⟩
  rw [f_X0_bestSet, bd_some s1, bd_some o1, lp_r g1]
end BST
