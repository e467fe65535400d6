/-! ===== the text is cut into tokens, on the reference's side ===== -/
def tx (b : am_S) (C : Nat → Nat) (n : Nat) : Prop := b.1 58 4 = nI n ∧ n ≤ 2000 ∧ (∀ i, i < n → (b.1 60 i) &&& 255 = nI (C i) ∧ C i < 256) ∧ ∀ k, k < 14 → b.2 65 k = am_keys.getD k 0
def cM (C : Nat → Nat) (n i : Nat) : Nat := if i < n then C i else 0
def nb (C : Nat → Nat) (st : Nat) : Nat → Nat
  | 0 => 0
  | i + 1 => 27 * nb C st i + (C (st + i) - 96)
theorem nb_lt {C : Nat → Nat} {st : Nat} : ∀ m, (∀ i, i < m → 97 ≤ C (st + i) ∧ C (st + i) ≤ 122) → nb C st m < 27 ^ m := by
  intro m
  induction m with
  | zero => intro _; exact Nat.zero_lt_one
  | succ m ih =>
    intro h
    have h1 := ih (fun i hi => h i (by omega))
    have h2 := h m (by omega)
    rw [nb, Nat.pow_succ]
    omega
theorem nb_inj {C C' : Nat → Nat} {st st' : Nat} : ∀ m m', (∀ i, i < m → 97 ≤ C (st + i) ∧ C (st + i) ≤ 122) → (∀ i, i < m' → 97 ≤ C' (st' + i) ∧ C' (st' + i) ≤ 122) → nb C st m = nb C' st' m' → m = m' ∧ ∀ i, i < m → C (st + i) = C' (st' + i) := by
  intro m
  induction m with
  | zero =>
    intro m' _ h' e
    cases m' with
    | zero => exact ⟨rfl, fun i hi => by omega⟩
    | succ m' =>
      have := h' m' (by omega)
      rw [nb, nb] at e
      omega
  | succ m ih =>
    intro m' h h' e
    cases m' with
    | zero =>
      have := h m (by omega)
      rw [nb, nb] at e
      omega
    | succ m' =>
      have q1 := h m (by omega)
      have q2 := h' m' (by omega)
      rw [nb, nb] at e
      obtain ⟨e1, e2⟩ := ih m' (fun i hi => h i (by omega)) (fun i hi => h' i (by omega)) (by omega)
      subst e1
      refine ⟨rfl, fun i hi => ?_⟩
      by_cases q : i = m
      · subst q; omega
      · exact e2 i (by omega)
def pm (k : Nat) : Nat := [8, 11, 9, 10, 13, 12, 0, 1, 2, 3, 4, 5, 6, 7].getD k 0
theorem pm_f : ∀ k, k < 14 → pm k < 14 ∧ kw (pm k) = 20 + k ∧ am_keys.getD k 0 = lN (nb (fun i => (wd (pm k)).getD i 0 + 96) 0 (wd (pm k)).length) := by decide +kernel
theorem pm_s : ∀ b, b < 14 → ∃ k, k < 14 ∧ pm k = b := by decide
section CUT
variable {C : Nat → Nat} {n : Nat}
theorem tx.on {b b' : am_S} {L : List Nat} (h : tx b C n) (ho : rw_on L b' b) (h60 : 60 ∉ L) (h65 : 65 ∉ L) (h4 : b'.1 58 4 = b.1 58 4) : tx b' C n := by
  unfold tx
  rw [h4, (ho 60 h60).1, (ho 65 h65).2]
  exact h
theorem at_M {b : am_S} (h : tx b C n) {i : Nat} (hi : i ≤ 4000) : f_X12_at b (nI i) = some (nI (cM C n i), b) := by
  unfold cM
  rw [f_X12_at, h.1]
  by_cases q : i < n
  · have d1 : nI i < nI n := nI_lt q (by have := h.2.1; omega)
    have d2 : am_in (nI i) 2000 = true := rl_nin (by decide) (by have := h.2.1; omega)
    have d3 : (nI i).toNatClampNeg = i := nI_clamp (by omega)
    rw [if_pos d1, rl_gu d2, d3, (h.2.2.1 i q).1, if_pos q]
  · have d1 : ¬ nI i < nI n := nI_nlt (by omega) (by omega)
    rw [if_neg d1, if_neg q]; rfl
theorem cM_lt {b : am_S} (h : tx b C n) (i : Nat) : cM C n i < 256 := by
  unfold cM
  by_cases q : i < n
  · rw [if_pos q]; exact (h.2.2.1 i q).2
  · rw [if_neg q]; decide
theorem lt_m (s : am_S) : ∀ c, c < 256 → f_X12_isLetter s (nI c) = some (mc_i (isL c), s) := by
  intro c hc
  have key : ∀ c, c < 256 → (if nI c < 97 then (0 : Int32) else if 122 < nI c then 0 else 1) = mc_i (isL c) := by decide +kernel
  rw [← key c hc, f_X12_isLetter]
  split
  · rfl
  · split <;> rfl
theorem dg_m (s : am_S) : ∀ c, c < 256 → f_X12_isDigit s (nI c) = some (mc_i (isD c), s) := by
  intro c hc
  have key : ∀ c, c < 256 → (if nI c < 48 then (0 : Int32) else if 57 < nI c then 0 else 1) = mc_i (isD c) := by decide +kernel
  rw [← key c hc, f_X12_isDigit]
  split
  · rfl
  · split <;> rfl
theorem isL_r {c : Nat} (h : isL c = true) : 97 ≤ c ∧ c ≤ 122 := by
  unfold isL at h
  rw [Bool.and_eq_true, decide_eq_true_eq, decide_eq_true_eq] at h
  exact h
theorem more_c : ∀ c, c < 123 → 97 ≤ c → nI c - 97 + 1 = nI (c - 96) ∧ ¬ nI c = 0 := by decide +kernel
theorem cl_letters {st p' : Nat} {b : am_S} (h : tx b C n) (hp' : p' ≤ n) (hE : p' < n → isL (C p') = false) : ∀ (F j : Nat), st + j ≤ p' → (∀ i, st ≤ i → i < p' → isL (C i) = true) → p' < st + j + F → f_X12_cut_L85 F (nI st) (nI j) (lN (nb C st (min j 8))) b = some (.inr ((nI (p' - st), lN (nb C st (min (p' - st) 8))), b)) := by
  intro F
  induction F with
  | zero => intro j h1 h2 h3; omega
  | succ F ih =>
    intro j h1 h2 h3
    have hn := h.2.1
    have e1 : nI st + nI j = nI (st + j) := nI_add st j
    have a1 := at_M h (show st + j ≤ 4000 by omega)
    have l1 := lt_m b (cM C n (st + j)) (cM_lt h _)
    have d4 : nI j + 1 = nI (j + 1) := nI_1 j
    by_cases q : st + j < p'
    · have ec : cM C n (st + j) = C (st + j) := by unfold cM; rw [if_pos (by omega)]
      rw [ec] at a1 l1
      have hl := h2 (st + j) (by omega) q
      rw [hl] at l1
      have g := ih (j + 1) (by omega) h2 (by omega)
      obtain ⟨r1, r2⟩ := isL_r hl
      obtain ⟨c1, c2⟩ := more_c (C (st + j)) (by omega) r1
      by_cases q8 : j < 8
      · have d8 : nI j < 8 := nI_lt (b := 8) q8 (by decide)
        have e2 : min j 8 = j := Nat.min_eq_left (by omega)
        have e3 : min (j + 1) 8 = j + 1 := Nat.min_eq_left (by omega)
        rw [e3, nb] at g
        have m1 : f_X12_more b (lN (nb C st j)) (nI (C (st + j))) = some (lN (27 * nb C st j + (C (st + j) - 96)), b) := by
          rw [f_X12_more, if_neg c2, c1, nI_l (by omega), lN_mul, lN_add]
        rw [e2, f_X12_cut_L85, e1, bd_some a1, bd_some l1, show mc_i true = 1 from rfl, if_neg (by decide)]
        simp only [am_jn]
        rw [if_pos d8, bd_some a1, bd_some m1, d4]
        exact g
      · have d8 : ¬ nI j < 8 := nI_nlt (b := 8) (by omega) (by omega)
        have e2 : min j 8 = min (j + 1) 8 := by omega
        rw [e2, f_X12_cut_L85, e1, bd_some a1, bd_some l1, show mc_i true = 1 from rfl, if_neg (by decide)]
        simp only [am_jn]
        rw [if_neg d8, d4]
        exact g
    · have ej : p' = st + j := by omega
      subst ej
      have hl : isL (cM C n (st + j)) = false := by
        unfold cM
        by_cases q2 : st + j < n
        · rw [if_pos q2]; exact hE q2
        · rw [if_neg q2]; decide
      rw [hl] at l1
      rw [f_X12_cut_L85, e1, bd_some a1, bd_some l1, show mc_i false = 0 from rfl, if_pos rfl, show st + j - st = j by omega]
theorem cl_digits {st p' : Nat} {b : am_S} (h : tx b C n) (hp' : p' ≤ n) (hE : p' < n → isD (C p') = false) : ∀ (F j : Nat), st + j ≤ p' → (∀ i, st ≤ i → i < p' → isD (C i) = true) → p' < st + j + F → f_X12_cut_L208 F (nI st) (nI j) (nvI C st (min j 4)) b = some (.inr ((nI (p' - st), nvI C st (min (p' - st) 4)), b)) := by
  intro F
  induction F with
  | zero => intro j h1 h2 h3; omega
  | succ F ih =>
    intro j h1 h2 h3
    have hn := h.2.1
    have e1 : nI st + nI j = nI (st + j) := nI_add st j
    have a1 := at_M h (show st + j ≤ 4000 by omega)
    have l1 := dg_m b (cM C n (st + j)) (cM_lt h _)
    have d4 : nI j + 1 = nI (j + 1) := nI_1 j
    by_cases q : st + j < p'
    · have ec : cM C n (st + j) = C (st + j) := by unfold cM; rw [if_pos (by omega)]
      rw [ec] at a1 l1
      rw [h2 (st + j) (by omega) q] at l1
      have g := ih (j + 1) (by omega) h2 (by omega)
      by_cases q8 : j < 4
      · have d8 : nI j < 4 := nI_lt (b := 4) q8 (by decide)
        have e2 : min j 4 = j := Nat.min_eq_left (by omega)
        have e3 : min (j + 1) 4 = j + 1 := Nat.min_eq_left (by omega)
        rw [e3, nvI, Int32.mul_comm] at g
        rw [e2, f_X12_cut_L208, e1, bd_some a1, bd_some l1, show mc_i true = 1 from rfl, if_neg (by decide)]
        simp only [am_jn]
        rw [if_pos d8, bd_some a1, d4]
        exact g
      · have d8 : ¬ nI j < 4 := nI_nlt (b := 4) (by omega) (by omega)
        have e2 : min j 4 = min (j + 1) 4 := by omega
        rw [e2, f_X12_cut_L208, e1, bd_some a1, bd_some l1, show mc_i true = 1 from rfl, if_neg (by decide)]
        simp only [am_jn]
        rw [if_neg d8, d4]
        exact g
    · have ej : p' = st + j := by omega
      subst ej
      have hl : isD (cM C n (st + j)) = false := by
        unfold cM
        by_cases q2 : st + j < n
        · rw [if_pos q2]; exact hE q2
        · rw [if_neg q2]; decide
      rw [hl] at l1
      rw [f_X12_cut_L208, e1, bd_some a1, bd_some l1, show mc_i false = 0 from rfl, if_pos rfl, show st + j - st = j by omega]
theorem ks_loop {st m : Nat} {b : am_S} (h : tx b C n) (hm : m ≤ 7) (hL : ∀ i, i < m → 97 ≤ C (st + i) ∧ C (st + i) ≤ 122) (x1 x3 : Int32) : ∀ (F k : Nat) (x6 : Int32), k ≤ 14 → 14 < k + F → ((∀ j, k ≤ j → j < 14 → ¬ wm C st m (pm j)) → f_X12_cut_L146 F x1 x3 (lN (nb C st m)) x6 (nI k) b = some (.inr (x6, b))) ∧ (∀ j, k ≤ j → j < 14 → wm C st m (pm j) → f_X12_cut_L146 F x1 x3 (lN (nb C st m)) x6 (nI k) b = some (.inr (nI (20 + j), b))) := by
  have hb := nb_lt m hL
  have hb2 : 27 ^ m ≤ 27 ^ 7 := Nat.pow_le_pow_right (by decide) hm
  have mt : ∀ k, k < 14 → (lg_cmp (b.2 65 k) (lN (nb C st m)) = 0 ↔ wm C st m (pm k)) := by
    intro k hk
    obtain ⟨p1, p2, p3⟩ := pm_f k hk
    obtain ⟨w1, w2, w3, w4⟩ := wd_txt (pm k) p1
    have hW : ∀ i, i < (wd (pm k)).length → 97 ≤ (fun i => (wd (pm k)).getD i 0 + 96) (0 + i) ∧ (fun i => (wd (pm k)).getD i 0 + 96) (0 + i) ≤ 122 := by
      intro i hi
      have := w4 i hi
      simp only [Nat.zero_add]
      omega
    have hb3 := nb_lt (C := fun i => (wd (pm k)).getD i 0 + 96) (st := 0) (wd (pm k)).length hW
    have hb4 : 27 ^ (wd (pm k)).length ≤ 27 ^ 7 := Nat.pow_le_pow_right (by decide) (by omega)
    rw [mc_cmp, h.2.2.2 k hk, p3, pk_lEQ (by omega) (by omega)]
    constructor
    · intro e
      obtain ⟨e1, e2⟩ := nb_inj (C := fun i => (wd (pm k)).getD i 0 + 96) (st := 0) _ _ hW hL e
      refine ⟨e1.symm, fun i hi => ?_⟩
      have := e2 i (by omega)
      simp only [Nat.zero_add] at this
      exact this.symm
    · intro e
      have key : ∀ j, j ≤ m → nb (fun i => (wd (pm k)).getD i 0 + 96) 0 j = nb C st j := by
        intro j
        induction j with
        | zero => intro _; rfl
        | succ j ih =>
          intro hj
          rw [nb, nb, ih (by omega), e.2 j (by omega), Nat.zero_add]
      rw [← e.1]
      exact key m (Nat.le_refl _)
  intro F
  induction F with
  | zero => intro k x6 h1 h2; omega
  | succ F ih =>
    intro k x6 h1 h2
    by_cases hk : k < 14
    · have d1 : nI k < 14 := nI_lt (b := 14) hk (by decide)
      have d2 : am_in (nI k) 14 = true := rl_nin (by decide) hk
      have d3 : (nI k).toNatClampNeg = k := nI_clamp (by omega)
      have d4 : nI k + 1 = nI (k + 1) := nI_1 k
      have d5 : 20 + nI k = nI (20 + k) := nI_add 20 k
      refine ⟨fun q => ?_, fun j q1 q2 q3 => ?_⟩
      · have e := fun z => q k (Nat.le_refl _) hk ((mt k hk).mp z)
        rw [f_X12_cut_L146, if_pos d1, rl_gu d2, d3]
        simp only [am_jn]
        rw [if_neg e, d4]
        exact (ih (k + 1) x6 (by omega) (by omega)).1 (fun j y1 y2 => q j (by omega) y2)
      · by_cases e : j = k
        · subst e
          have e1 := (mt j hk).mpr q3
          rw [f_X12_cut_L146, if_pos d1, rl_gu d2, d3]
          simp only [am_jn]
          rw [if_pos e1, d4, d5]
          refine (ih (j + 1) _ (by omega) (by omega)).1 (fun i y1 y2 y3 => ?_)
          have := wm_un (pm_f i y2).1 (pm_f j hk).1 y3 q3
          have z1 := (pm_f i y2).2.1
          have z2 := (pm_f j hk).2.1
          rw [this] at z1
          omega
        · have e1 : ¬ lg_cmp (b.2 65 k) (lN (nb C st m)) = 0 := by
            intro z
            have := wm_un (pm_f k hk).1 (pm_f j q2).1 ((mt k hk).mp z) q3
            have z1 := (pm_f k hk).2.1
            have z2 := (pm_f j q2).2.1
            rw [this] at z1
            omega
          rw [f_X12_cut_L146, if_pos d1, rl_gu d2, d3]
          simp only [am_jn]
          rw [if_neg e1, d4]
          exact (ih (k + 1) x6 (by omega) (by omega)).2 j (by omega) q2 q3
    · have d1 : ¬ nI k < 14 := nI_nlt (b := 14) (by omega) (by omega)
      refine ⟨fun _ => by rw [f_X12_cut_L146, if_neg d1], fun j q1 q2 => by omega⟩
end CUT
