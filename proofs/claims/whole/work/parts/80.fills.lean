/-! ===== what a set of orders needs, against what is free: the reference's side ===== -/
def s6 (f : Nat → Nat) : Nat := f 0 + f 1 + f 2 + f 3 + f 4 + f 5
def su (f : Nat → Nat) : Nat → Nat
  | 0 => 0
  | n + 1 => su f n + f n
theorem su_6 (f : Nat → Nat) : su f 6 = s6 f := by simp only [su, s6]; omega
/-- row 118 holds what is left -/
def lh (b : am_S) (lf : Nat → Nat → Nat) : Prop := ∀ k i, k < 8 → i < 6 → b.1 118 (6 * k + i) = nI (lf k i) ∧ lf k i ≤ 400
def up2 (lf : Nat → Nat → Nat) (k i x : Nat) : Nat → Nat → Nat := fun k' i' => if k' = k ∧ i' = i then x else lf k' i'
theorem lh_up {b : am_S} {lf : Nat → Nat → Nat} {k i x : Nat} (h : lh b lf) (hk : k < 8) (hi : i < 6) (hx : x ≤ 400) : lh (am_wI b 118 (6 * k + i) (nI x)) (up2 lf k i x) := by
  intro k' i' hk' hi'
  rw [rl_ws]
  unfold up2
  by_cases q : k' = k ∧ i' = i
  · rw [q.1, q.2]
    simp [hx]
  · have q2 : ¬ 6 * k' + i' = 6 * k + i := fun y => q (ix6 hi' hi y)
    simp only [q2, q, if_false]
    exact h k' i' hk' hi'
theorem ix_6 (k i : Nat) : 6 * nI k + nI i = nI (6 * k + i) := by rw [show (6 : Int32) = nI 6 from rfl, pk_mul, nI_add]
/-- a need of a colour -/
theorem to_c {k c : Nat} (hk : k < 8) (hc : c < 5) : ∀ (n i m : Nat) (b : am_S) (lf : Nat → Nat → Nat), lh b lf → i ≤ 6 → 6 < i + n → m ≤ 20 → (c < i → f_X12_takesOf_L6 n (nI k) (nI c) (nI m) (nI i) b = some (.inr (nI m, b))) ∧ (i ≤ c → ∃ b', f_X12_takesOf_L6 n (nI k) (nI c) (nI m) (nI i) b = some (.inr (nI (m - min (lf k c) m), b')) ∧ lh b' (up2 lf k c (lf k c - min (lf k c) m)) ∧ rw_on [118] b' b) := by
  intro n
  induction n with
  | zero => intro i m b lf h h1 h2; omega
  | succ n ih =>
    intro i m b lf h h1 h2 hm
    have cn : ¬ nI c = -1 := nI_nm1 (by omega)
    have d4 : nI i + 1 = nI (i + 1) := nI_1 i
    by_cases hi : i < 6
    · have d1 : nI i < 6 := nI_lt (b := 6) hi (by decide)
      obtain ⟨g1, g2⟩ := ih (i + 1) m b lf h (by omega) (by omega) hm
      refine ⟨fun q => ?_, fun q => ?_⟩
      · have e1 : ¬ nI i = nI c := nI_ne (by omega) (by omega) (by omega)
        simp only [f_X12_takesOf_L6, if_pos d1, am_jn, if_neg cn, if_neg e1, d4]
        exact g1 (by omega)
      · by_cases e : i = c
        · subst e
          have j1 := ix_6 k i
          have j2 : am_in (nI (6 * k + i)) 48 = true := rl_nin (by decide) (by omega)
          have j3 : (nI (6 * k + i)).toNatClampNeg = 6 * k + i := nI_clamp (by omega)
          obtain ⟨v1, v2⟩ := h k i hk hi
          by_cases q1 : lf k i < m
          · have q2 : nI (lf k i) < nI m := nI_lt q1 (by omega)
            have e3 : min (lf k i) m = lf k i := Nat.min_eq_left (by omega)
            have s1 : nI m - nI (lf k i) = nI (m - lf k i) := pk_sub (by omega)
            have s2 : nI (lf k i) - nI (lf k i) = nI (lf k i - lf k i) := pk_sub (by omega)
            obtain ⟨g3, -⟩ := ih (i + 1) (m - lf k i) (am_wI b 118 (6 * k + i) (nI (lf k i - lf k i))) _ (lh_up h hk hi (by omega)) (by omega) (by omega) (by omega)
            rw [e3]
            refine ⟨am_wI b 118 (6 * k + i) (nI (lf k i - lf k i)), ?_, lh_up h hk hi (by omega), (rw_on.refl _ _).w (by simp) _ _⟩
            simp only [f_X12_takesOf_L6, if_pos d1, am_jn, if_neg cn, if_true, j1, rl_gu j2, j3, v1, if_pos q2, s1, s2, d4]
            exact g3 (by omega)
          · have q2 : ¬ nI (lf k i) < nI m := nI_nlt (by omega) (by omega)
            have e3 : min (lf k i) m = m := Nat.min_eq_right (by omega)
            have s1 : nI m - nI m = nI (m - m) := pk_sub (by omega)
            have s2 : nI (lf k i) - nI m = nI (lf k i - m) := pk_sub (by omega)
            obtain ⟨g3, -⟩ := ih (i + 1) (m - m) (am_wI b 118 (6 * k + i) (nI (lf k i - m))) _ (lh_up h hk hi (by omega)) (by omega) (by omega) (by omega)
            rw [e3]
            refine ⟨am_wI b 118 (6 * k + i) (nI (lf k i - m)), ?_, lh_up h hk hi (by omega), (rw_on.refl _ _).w (by simp) _ _⟩
            simp only [f_X12_takesOf_L6, if_pos d1, am_jn, if_neg cn, if_true, j1, rl_gu j2, j3, v1, if_neg q2, s1, s2, d4]
            exact g3 (by omega)
        · have e1 : ¬ nI i = nI c := nI_ne (by omega) (by omega) (by omega)
          obtain ⟨b', g3, g4⟩ := g2 (by omega)
          refine ⟨b', ?_, g4⟩
          simp only [f_X12_takesOf_L6, if_pos d1, am_jn, if_neg cn, if_neg e1, d4]
          exact g3
    · have d1 : ¬ nI i < 6 := nI_nlt (b := 6) (by omega) (by omega)
      exact ⟨fun _ => by simp only [f_X12_takesOf_L6, if_neg d1], fun q => by omega⟩
theorem to_ca {k c m : Nat} {b : am_S} {lf : Nat → Nat → Nat} (hk : k < 8) (hc : c < 5) (hm : m ≤ 20) (h : lh b lf) : (m ≤ lf k c ∧ ∃ b', f_X12_takesOf b (nI k) (nI c) (nI m) = some (1, b') ∧ lh b' (up2 lf k c (lf k c - m)) ∧ rw_on [118] b' b) ∨ (lf k c < m ∧ ∃ b', f_X12_takesOf b (nI k) (nI c) (nI m) = some (0, b') ∧ rw_on [118] b' b) := by
  obtain ⟨-, g⟩ := to_c hk hc am_FU 0 m b lf h (by omega) (by unfold am_FU; omega) hm
  obtain ⟨b', g1, g2, g3⟩ := g (by omega)
  have g1 : f_X12_takesOf_L6 am_FU (nI k) (nI c) (nI m) 0 b = _ := g1
  by_cases q : m ≤ lf k c
  · have e : min (lf k c) m = m := Nat.min_eq_right q
    rw [e, Nat.sub_self] at g1
    rw [e] at g2
    have g1 : f_X12_takesOf_L6 am_FU (nI k) (nI c) (nI m) 0 b = some (.inr (0, b')) := g1
    exact Or.inl ⟨q, b', by simp only [f_X12_takesOf, g1, am_lp, if_true], g2, g3⟩
  · have e : min (lf k c) m = lf k c := Nat.min_eq_left (by omega)
    rw [e] at g1
    have n0 : ¬ nI (m - lf k c) = 0 := nI_ne0 (by omega) (by omega)
    exact Or.inr ⟨by omega, b', by simp only [f_X12_takesOf, g1, am_lp, if_neg n0], g3⟩
theorem up2_su {lf : Nat → Nat → Nat} {k i x : Nat} : ∀ n, n ≤ i → su (up2 lf k i x k) n = su (lf k) n := by
  intro n
  induction n with
  | zero => intro _; rfl
  | succ n ih =>
    intro hn
    rw [su, su, ih (by omega)]
    unfold up2
    rw [if_neg (by omega)]
theorem up2_su2 {lf : Nat → Nat → Nat} {k i x : Nat} : ∀ n, i < n → su (up2 lf k i x k) n + lf k i = su (lf k) n + x := by
  intro n
  induction n with
  | zero => intro h; omega
  | succ n ih =>
    intro hn
    rw [su, su]
    by_cases e : i = n
    · subst e
      rw [up2_su i (Nat.le_refl _)]
      have : up2 lf k i x k i = x := by unfold up2; rw [if_pos ⟨rfl, rfl⟩]
      omega
    · have := ih (by omega)
      have h2 : up2 lf k i x k n = lf k n := by unfold up2; rw [if_neg (by omega)]
      omega
/-- a need of any -/
theorem to_a {k : Nat} (hk : k < 8) : ∀ (n i m : Nat) (b : am_S) (lf : Nat → Nat → Nat), lh b lf → i ≤ 6 → 6 < i + n → m ≤ 20 → ∃ (m' : Nat) (b' : am_S) (lf' : Nat → Nat → Nat), f_X12_takesOf_L6 n (nI k) (-1) (nI m) (nI i) b = some (.inr (nI m', b')) ∧ lh b' lf' ∧ rw_on [118] b' b ∧ m' ≤ m ∧ su (lf' k) 6 + (m - m') = su (lf k) 6 ∧ (0 < m' → su (lf' k) 6 = su (lf' k) i) ∧ (∀ j, j < i → lf' k j = lf k j) ∧ ∀ k' j, k' ≠ k → lf' k' j = lf k' j := by
  intro n
  induction n with
  | zero => intro i m b lf h h1 h2; omega
  | succ n ih =>
    intro i m b lf h h1 h2 hm
    have d4 : nI i + 1 = nI (i + 1) := nI_1 i
    by_cases hi : i < 6
    · have d1 : nI i < 6 := nI_lt (b := 6) hi (by decide)
      have j1 := ix_6 k i
      have j2 : am_in (nI (6 * k + i)) 48 = true := rl_nin (by decide) (by omega)
      have j3 : (nI (6 * k + i)).toNatClampNeg = 6 * k + i := nI_clamp (by omega)
      obtain ⟨v1, v2⟩ := h k i hk hi
      have go : ∀ t : Nat, t ≤ m → t ≤ lf k i → (t < m → t = lf k i) → f_X12_takesOf_L6 (n + 1) (nI k) (-1) (nI m) (nI i) b = f_X12_takesOf_L6 n (nI k) (-1) (nI (m - t)) (nI (i + 1)) (am_wI b 118 (6 * k + i) (nI (lf k i - t))) → ∃ (m' : Nat) (b' : am_S) (lf' : Nat → Nat → Nat), f_X12_takesOf_L6 (n + 1) (nI k) (-1) (nI m) (nI i) b = some (.inr (nI m', b')) ∧ lh b' lf' ∧ rw_on [118] b' b ∧ m' ≤ m ∧ su (lf' k) 6 + (m - m') = su (lf k) 6 ∧ (0 < m' → su (lf' k) 6 = su (lf' k) i) ∧ (∀ j, j < i → lf' k j = lf k j) ∧ ∀ k' j, k' ≠ k → lf' k' j = lf k' j := by
        intro t ht1 ht2 ht3 hst
        obtain ⟨m', b', lf', g1, g2, g3, g4, g5, g6, g7, g8⟩ := ih (i + 1) (m - t) _ _ (lh_up (x := lf k i - t) h hk hi (by omega)) (by omega) (by omega) (by omega)
        have hu := up2_su2 (lf := lf) (k := k) (i := i) (x := lf k i - t) 6 (by omega)
        have hui : up2 lf k i (lf k i - t) k i = lf k i - t := by unfold up2; rw [if_pos ⟨rfl, rfl⟩]
        refine ⟨m', b', lf', by rw [hst]; exact g1, g2, g3.trans ((rw_on.refl _ _).w (by simp) _ _), by omega, by omega, fun q => ?_, fun j hj => ?_, fun k' j hk' => ?_⟩
        · rw [g6 q, su]
          have e1 := g7 i (by omega)
          rw [hui] at e1
          have := ht3 (by omega)
          omega
        · rw [g7 j (by omega)]
          unfold up2
          rw [if_neg (by omega)]
        · rw [g8 k' j hk']
          unfold up2
          rw [if_neg (fun q => hk' q.1)]
      by_cases q1 : lf k i < m
      · have q2 : nI (lf k i) < nI m := nI_lt q1 (by omega)
        have s1 : nI m - nI (lf k i) = nI (m - lf k i) := pk_sub (by omega)
        have s2 : nI (lf k i) - nI (lf k i) = nI (lf k i - lf k i) := pk_sub (by omega)
        refine go (lf k i) (by omega) (by omega) (fun _ => rfl) ?_
        simp only [f_X12_takesOf_L6, if_pos d1, am_jn, if_true, j1, rl_gu j2, j3, v1, if_pos q2, s1, s2, d4]
      · have q2 : ¬ nI (lf k i) < nI m := nI_nlt (by omega) (by omega)
        have s1 : nI m - nI m = nI (m - m) := pk_sub (by omega)
        have s2 : nI (lf k i) - nI m = nI (lf k i - m) := pk_sub (by omega)
        refine go m (by omega) (by omega) (fun q => by omega) ?_
        simp only [f_X12_takesOf_L6, if_pos d1, am_jn, if_true, j1, rl_gu j2, j3, v1, if_neg q2, s1, s2, d4]
    · have d1 : ¬ nI i < 6 := nI_nlt (b := 6) (by omega) (by omega)
      have e : i = 6 := by omega
      subst e
      exact ⟨m, b, lf, by simp only [f_X12_takesOf_L6, if_neg d1], h, rw_on.refl _ _, Nat.le_refl _, by omega, fun _ => rfl, fun _ _ => rfl, fun _ _ _ => rfl⟩
theorem to_aa {k m : Nat} {b : am_S} {lf : Nat → Nat → Nat} (hk : k < 8) (hm : m ≤ 20) (h : lh b lf) : (∃ b' lf', f_X12_takesOf b (nI k) (-1) (nI m) = some (1, b') ∧ lh b' lf' ∧ rw_on [118] b' b ∧ s6 (lf' k) + m = s6 (lf k) ∧ ∀ k' j, k' ≠ k → lf' k' j = lf k' j) ∨ (s6 (lf k) < m ∧ ∃ b', f_X12_takesOf b (nI k) (-1) (nI m) = some (0, b') ∧ rw_on [118] b' b) := by
  obtain ⟨m', b', lf', g1, g2, g3, g4, g5, g6, g7, g8⟩ := to_a hk am_FU 0 m b lf h (by omega) (by unfold am_FU; omega) hm
  have g1 : f_X12_takesOf_L6 am_FU (nI k) (-1) (nI m) 0 b = _ := g1
  rw [← su_6 (lf k)]
  by_cases q : m' = 0
  · subst q
    have g1 : f_X12_takesOf_L6 am_FU (nI k) (-1) (nI m) 0 b = some (.inr (0, b')) := g1
    exact Or.inl ⟨b', lf', by simp only [f_X12_takesOf, g1, am_lp, if_true], g2, g3, by rw [← su_6]; omega, g8⟩
  · have n0 : ¬ nI m' = 0 := nI_ne0 (by omega) (by omega)
    have e : su (lf' k) 6 = 0 := g6 (by omega)
    exact Or.inr ⟨by omega, b', by simp only [f_X12_takesOf, g1, am_lp, if_neg n0], g3⟩
