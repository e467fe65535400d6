/-! ===== sets of orders on both sides: worth, count, which is ahead ===== -/
theorem bs_bit : ∀ S, S < 256 → ∀ o, o < 8 → ((nI S >>> (nI o &&& 31)) &&& 1) = mc_i (S.testBit o) := by decide +kernel
def bcN (S : Nat) : Nat → Nat
  | 0 => 0
  | k + 1 => bcN S k + (if S.testBit k then 1 else 0)
theorem bcN_le (S k : Nat) : bcN S k ≤ k := by
  induction k with
  | zero => exact Nat.le_refl _
  | succ k ih => rw [bcN]; split <;> omega
theorem bs_J : ∀ S, S < 256 → ((f_J6_bitCount_0f7a4 am_s0 (nI S)).getD (0, am_s0)).1 = nI (bcN S 8) := by decide +kernel
theorem bs_cJ (s : am_S) {S : Nat} (hS : S < 256) : f_J6_bitCount_0f7a4 s (nI S) = some (nI (bcN S 8), s) := by
  have e : ∀ x, f_J6_bitCount_0f7a4 s x = some (((f_J6_bitCount_0f7a4 am_s0 x).getD (0, am_s0)).1, s) := fun _ => rfl
  rw [e, bs_J S hS]
theorem bs_cM (b : am_S) {S : Nat} (hS : S < 256) : ∀ (n k : Nat), k ≤ 8 → 8 < k + n → f_X12_bits_L4 n (nI S) (nI (bcN S k)) (nI k) b = some (.inr (nI (bcN S 8), b)) := by
  intro n
  induction n with
  | zero => intro k h1 h2; omega
  | succ n ih =>
    intro k h1 h2
    by_cases hk : k < 8
    · have d1 : nI k < 8 := nI_lt (b := 8) hk (by decide)
      have d4 : nI k + 1 = nI (k + 1) := nI_1 k
      have g := ih (k + 1) (by omega) (by omega)
      rw [bcN] at g
      rw [f_X12_bits_L4, if_pos d1, bs_bit S hS k hk, d4]
      have e : nI (bcN S k) + mc_i (S.testBit k) = nI (bcN S k + if S.testBit k then 1 else 0) := by
        cases S.testBit k
        · exact nI_add (bcN S k) 0
        · exact nI_add (bcN S k) 1
      rw [e]
      exact g
    · have d1 : ¬ nI k < 8 := nI_nlt (b := 8) (by omega) (by omega)
      have e : k = 8 := by omega
      subst e
      rw [f_X12_bits_L4, if_neg d1]
theorem bs_cMa (b : am_S) {S : Nat} (hS : S < 256) : f_X12_bits b (nI S) = some (nI (bcN S 8), b) := by
  have g := bs_cM b hS am_FU 0 (by omega) (by unfold am_FU; omega)
  have g : f_X12_bits_L4 am_FU (nI S) 0 0 b = some (.inr (nI (bcN S 8), b)) := g
  simp only [f_X12_bits, g, am_lp]
theorem bs_in (a : am_S) {S o : Nat} (hS : S < 256) (ho : o < 8) : f_X5_isIn a (nI S) (nI o) = some (mc_i (S.testBit o), a) := by
  have d0 : ¬ nI o < 0 := nI_pos (by omega)
  have d1 : nI o < 8 := nI_lt (b := 8) ho (by decide)
  rw [f_X5_isIn, if_neg d0, if_pos d1, bs_bit S hS o ho]
  cases S.testBit o
  · rfl
  · rfl
/-- the worth of the orders in a set -/
def wo (a : am_S) (S : Nat) : Nat → Nat
  | 0 => 0
  | o + 1 => wo a S o + (if S.testBit o then (a.1 47 o).toNatClampNeg else 0)
theorem wo_le {a : am_S} {O : Nat} (S : Nat) (hw : ∀ o, o < O → ∃ w : Nat, w ≤ 1000 ∧ a.1 47 o = nI w) : ∀ o, o ≤ O → wo a S o ≤ 1000 * o := by
  intro o
  induction o with
  | zero => intro _; exact Nat.le_refl _
  | succ o ih =>
    intro ho
    have := ih (by omega)
    obtain ⟨w, w1, w2⟩ := hw o (by omega)
    rw [wo, w2, nI_clamp (by omega)]
    split <;> omega
theorem wo_cg {a a' : am_S} (h : a'.1 47 = a.1 47) (S : Nat) : ∀ o, wo a' S o = wo a S o := by
  intro o
  induction o with
  | zero => rfl
  | succ o ih => rw [wo, wo, ih, h]
theorem wo_C {a : am_S} {O S : Nat} (hO : O ≤ 8) (hS : S < 256) (eO : a.1 46 0 = nI O) (hw : ∀ o, o < O → ∃ w : Nat, w ≤ 1000 ∧ a.1 47 o = nI w) : ∀ (n o : Nat), o ≤ O → O < o + n → f_X5_worthOf_L4 n (nI S) (nI (wo a S o)) (nI o) a = some (.inr (nI (wo a S O), a)) := by
  intro n
  induction n with
  | zero => intro o h1 h2; omega
  | succ n ih =>
    intro o h1 h2
    by_cases ho : o < O
    · have d1 : nI o < nI O := nI_lt ho (by omega)
      have d2 : am_in (nI o) 8 = true := rl_nin (by decide) (by omega)
      have d3 : (nI o).toNatClampNeg = o := nI_clamp (by omega)
      have d4 : nI o + 1 = nI (o + 1) := nI_1 o
      obtain ⟨w, w1, w2⟩ := hw o ho
      have i1 := bs_in a hS (show o < 8 by omega)
      have g := ih (o + 1) (by omega) (by omega)
      rw [wo, w2, nI_clamp (by omega)] at g
      cases hb : S.testBit o with
      | false =>
        rw [hb] at g i1
        have g : f_X5_worthOf_L4 n (nI S) (nI (wo a S o)) (nI (o + 1)) a = _ := g
        simp [f_X5_worthOf_L4, eO, d1, am_bd, am_jn, i1, mc_i, d4, g]
      | true =>
        rw [hb] at g i1
        have g : f_X5_worthOf_L4 n (nI S) (nI (wo a S o + w)) (nI (o + 1)) a = _ := g
        simp [f_X5_worthOf_L4, eO, d1, am_bd, am_jn, am_gu, i1, mc_i, d2, d3, w2, nI_add, d4, g]
    · have d1 : ¬ nI o < nI O := nI_nlt (by omega) (by omega)
      have e : o = O := by omega
      subst e
      simp [f_X5_worthOf_L4, eO, d1]
theorem wo_M {X : List Nat} {a b : am_S} {O S : Nat} (hO : O ≤ 8) (hS : S < 256) (h : rl_x X a b) (h47 : 47 ∉ X) (eO : a.1 46 0 = nI O) (hw : ∀ o, o < O → ∃ w : Nat, w ≤ 1000 ∧ a.1 47 o = nI w) : ∀ (n o : Nat), o ≤ O → O < o + n → f_X12_worthOf_L4 n (nI S) (nI (wo a S o)) (nI o) b = some (.inr (nI (wo a S O), b)) := by
  have em : b.1 58 74 = nI O := (h.f (c := 46) (k := 0) (by decide)).trans eO
  have r47 : b.1 110 = a.1 47 := h.r (by decide) h47
  intro n
  induction n with
  | zero => intro o h1 h2; omega
  | succ n ih =>
    intro o h1 h2
    by_cases ho : o < O
    · have d1 : nI o < nI O := nI_lt ho (by omega)
      have d2 : am_in (nI o) 8 = true := rl_nin (by decide) (by omega)
      have d3 : (nI o).toNatClampNeg = o := nI_clamp (by omega)
      have d4 : nI o + 1 = nI (o + 1) := nI_1 o
      obtain ⟨w, w1, w2⟩ := hw o ho
      have i1 := bs_bit S hS o (by omega)
      have g := ih (o + 1) (by omega) (by omega)
      rw [wo, w2, nI_clamp (by omega)] at g
      cases hb : S.testBit o with
      | false =>
        rw [hb] at g i1
        have g : f_X12_worthOf_L4 n (nI S) (nI (wo a S o)) (nI (o + 1)) b = _ := g
        have i2 : ¬ ((nI S >>> (nI o &&& 31)) &&& 1) = 1 := by rw [i1]; decide
        simp [f_X12_worthOf_L4, em, d1, am_jn, i2, d4, g]
      | true =>
        rw [hb] at g i1
        have g : f_X12_worthOf_L4 n (nI S) (nI (wo a S o + w)) (nI (o + 1)) b = _ := g
        have i2 : ((nI S >>> (nI o &&& 31)) &&& 1) = 1 := i1
        simp [f_X12_worthOf_L4, em, d1, am_jn, am_gu, i2, d2, d3, r47, w2, nI_add, d4, g]
    · have d1 : ¬ nI o < nI O := nI_nlt (by omega) (by omega)
      have e : o = O := by omega
      subst e
      simp [f_X12_worthOf_L4, em, d1]
theorem wo_Ca {a : am_S} {O S : Nat} (hO : O ≤ 8) (hS : S < 256) (eO : a.1 46 0 = nI O) (hw : ∀ o, o < O → ∃ w : Nat, w ≤ 1000 ∧ a.1 47 o = nI w) : f_X5_worthOf a (nI S) = some (nI (wo a S O), a) := by
  have g := wo_C hO hS eO hw am_FU 0 (by omega) (by unfold am_FU; omega)
  have g : f_X5_worthOf_L4 am_FU (nI S) 0 0 a = _ := g
  simp only [f_X5_worthOf, g, am_lp]
theorem wo_Ma {X : List Nat} {a b : am_S} {O S : Nat} (hO : O ≤ 8) (hS : S < 256) (h : rl_x X a b) (h47 : 47 ∉ X) (eO : a.1 46 0 = nI O) (hw : ∀ o, o < O → ∃ w : Nat, w ≤ 1000 ∧ a.1 47 o = nI w) : f_X12_worthOf b (nI S) = some (nI (wo a S O), b) := by
  have g := wo_M hO hS h h47 eO hw am_FU 0 (by omega) (by unfold am_FU; omega)
  have g : f_X12_worthOf_L4 am_FU (nI S) 0 0 b = _ := g
  simp only [f_X12_worthOf, g, am_lp]
theorem i_sub0 {x y : Nat} (hx : x < 2 ^ 30) (hy : y < 2 ^ 30) : nI x - nI y = 0 ↔ x = y := by
  rw [← Int32.toInt_inj, pk_sub_toInt hx hy]
  have z : (0 : Int32).toInt = 0 := rfl
  rw [z]
  omega
theorem i_subp {x y : Nat} (hx : x < 2 ^ 30) (hy : y < 2 ^ 30) : 0 < nI x - nI y ↔ y < x := by
  rw [Int32.lt_iff_toInt_lt, pk_sub_toInt hx hy]
  have z : (0 : Int32).toInt = 0 := rfl
  rw [z]
  omega
/-- the answer to: is S ahead of P -/
def ahd (a : am_S) (O S P : Nat) : Bool :=
  if wo a S O = wo a P O then (if bcN S 8 = bcN P 8 then !decide ((nI S &&& ((nI S ^^^ nI P) &&& (-(nI S ^^^ nI P)))) = 0) else decide (bcN P 8 < bcN S 8)) else decide (wo a P O < wo a S O)
theorem ah_C {a : am_S} {O S P : Nat} (hO : O ≤ 8) (hS : S < 256) (hP : P < 256) (eO : a.1 46 0 = nI O) (hw : ∀ o, o < O → ∃ w : Nat, w ≤ 1000 ∧ a.1 47 o = nI w) : f_X0_isAhead a (nI S) (nI P) = some (mc_i (ahd a O S P), a) := by
  have l1 := wo_le S hw O (Nat.le_refl _)
  have l2 := wo_le P hw O (Nat.le_refl _)
  have b1 := bcN_le S 8
  have b2 := bcN_le P 8
  unfold f_X0_isAhead ahd
  rw [wo_Ca hO hS eO hw, rl_bd, wo_Ca hO hP eO hw, rl_bd, bs_cJ a hS, rl_bd, bs_cJ a hP, rl_bd]
  simp only [i_sub0 (show wo a S O < 2 ^ 30 by omega) (show wo a P O < 2 ^ 30 by omega), i_subp (show wo a S O < 2 ^ 30 by omega) (show wo a P O < 2 ^ 30 by omega), i_sub0 (show bcN S 8 < 2 ^ 30 by omega) (show bcN P 8 < 2 ^ 30 by omega), i_subp (show bcN S 8 < 2 ^ 30 by omega) (show bcN P 8 < 2 ^ 30 by omega)]
  by_cases c1 : wo a S O = wo a P O
  · simp only [if_pos c1]
    by_cases c2 : bcN S 8 = bcN P 8
    · simp only [if_pos c2]
      by_cases c3 : (nI S &&& ((nI S ^^^ nI P) &&& (-(nI S ^^^ nI P)))) = 0
      · simp [c3, mc_i]
      · simp [c3, mc_i]
    · simp only [if_neg c2]
      by_cases c3 : bcN P 8 < bcN S 8
      · simp [c3, mc_i]
      · simp [c3, mc_i]
  · simp only [if_neg c1]
    by_cases c3 : wo a P O < wo a S O
    · simp [c3, mc_i]
    · simp [c3, mc_i]
theorem bd_some {α β : Type} {x : Option (α × am_S)} {v : α} {s : am_S} {k : α → am_S → Option β} (h : x = some (v, s)) : am_bd x k = k v s := by rw [h]; rfl
theorem ah_M {X : List Nat} {a b : am_S} {O S P : Nat} (hO : O ≤ 8) (hS : S < 256) (hP : P < 256) (h : rl_x X a b) (h47 : 47 ∉ X) (eO : a.1 46 0 = nI O) (hw : ∀ o, o < O → ∃ w : Nat, w ≤ 1000 ∧ a.1 47 o = nI w) : f_X12_isAhead b (nI S) (nI P) = some (mc_i (ahd a O S P), b) := by
  have l1 := wo_le S hw O (Nat.le_refl _)
  have l2 := wo_le P hw O (Nat.le_refl _)
  have b1 := bcN_le S 8
  have b2 := bcN_le P 8
  have w1 := wo_Ma hO hS h h47 eO hw
  have w2 := wo_Ma hO hP h h47 eO hw
  have c1 := bs_cMa b hS
  have c2 := bs_cMa b hP
  unfold ahd f_X12_isAhead
  rw [bd_some w1, bd_some w2]
  by_cases k1 : wo a S O = wo a P O
  · rw [if_pos k1, if_pos (by rw [k1]), bd_some c1, bd_some c2]
    by_cases k2 : bcN S 8 = bcN P 8
    · rw [if_pos k2, if_pos (by rw [k2]), Int32.and_assoc]
      by_cases c3 : (nI S &&& ((nI S ^^^ nI P) &&& (-(nI S ^^^ nI P)))) = 0
      · rw [if_pos c3, decide_eq_true c3]; rfl
      · rw [if_neg c3, decide_eq_false c3]; rfl
    · rw [if_neg k2, if_neg (nI_ne (by omega) (by omega) k2), bd_some c1, bd_some c2]
      by_cases c3 : bcN P 8 < bcN S 8
      · rw [if_pos (nI_lt c3 (by omega)), decide_eq_true c3]; rfl
      · rw [if_neg (nI_nlt (by omega) (by omega)), decide_eq_false c3]; rfl
  · rw [if_neg k1, if_neg (nI_ne (by omega) (by omega) k1), bd_some w1, bd_some w2]
    by_cases c3 : wo a P O < wo a S O
    · rw [if_pos (nI_lt c3 (by omega)), decide_eq_true c3]; rfl
    · rw [if_neg (nI_nlt (by omega) (by omega)), decide_eq_false c3]; rfl
