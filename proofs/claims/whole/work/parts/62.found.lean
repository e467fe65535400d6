/-! ===== packed, found, rest on both sides; what is free ===== -/
theorem pd_loop (s : am_S) (o N t : Nat) (ht : t < 2 ^ 31) (hN : N ≤ 400) (e1 : s.1 39 1 = nI N) (e2 : s.1 58 66 = nI N) (r : s.1 106 = s.1 43) : ∀ (n i j : Nat), i ≤ N → N < i + n → j ≤ i → j ≤ t → (∃ v, f_X11_packed_L18 n (nI o) (nI t) (nI j) (nI i) s = some (.inl (v, s)) ∧ f_X12_packed_L19 n (nI o) (nI (t - j)) (nI i) s = some (.inl (v, s))) ∨ (f_X11_packed_L18 n (nI o) (nI t) (nI j) (nI i) s = some (.inr ((), s)) ∧ f_X12_packed_L19 n (nI o) (nI (t - j)) (nI i) s = some (.inr ((), s))) := by
  intro n
  induction n with
  | zero => intro i j h1 h2; omega
  | succ n ih =>
    intro i j h1 h2 h3 h4
    have d4 : nI i + 1 = nI (i + 1) := nI_1 i
    by_cases hi : i < N
    · have d1 : nI i < nI N := nI_lt (by omega) (by omega)
      have d2 : am_in (nI i) 400 = true := rl_nin (by decide) (by omega)
      have d3 : (nI i).toNatClampNeg = i := nI_clamp (by omega)
      by_cases c : s.1 43 i = nI o
      · by_cases c2 : j = t
        · subst c2
          have c3 : nI (j - j) = 0 := by rw [Nat.sub_self]; rfl
          rw [c3]
          exact Or.inl ⟨nI i, by simp [f_X11_packed_L18, e1, d1, am_gu, am_jn, d2, d3, c], by simp [f_X12_packed_L19, e2, d1, am_gu, am_jn, d2, d3, r, c]⟩
        · have c3 : ¬ nI j = nI t := nI_ne (by omega) (by omega) c2
          have c4 : ¬ nI (t - j) = 0 := nI_ne (m := 0) (by omega) (by decide) (by omega)
          have c5 : nI j + 1 = nI (j + 1) := nI_1 j
          have c6 : nI (t - j) + -1 = nI (t - (j + 1)) := by rw [show t - j = t - (j + 1) + 1 by omega]; exact pk_m1 _
          have := ih (i + 1) (j + 1) (by omega) (by omega) (by omega) (by omega)
          simpa [f_X11_packed_L18, f_X12_packed_L19, e1, e2, d1, am_gu, am_jn, d2, d3, d4, r, c, c3, c4, c5, c6] using this
      · have := ih (i + 1) j (by omega) (by omega) (by omega) (by omega)
        simpa [f_X11_packed_L18, f_X12_packed_L19, e1, e2, d1, am_gu, am_jn, d2, d3, d4, r, c] using this
    · have d1 : ¬ nI i < nI N := nI_nlt (by omega) (by omega)
      exact Or.inr ⟨by simp [f_X11_packed_L18, e1, d1], by simp [f_X12_packed_L19, e2, d1]⟩
theorem pd_neg (s : am_S) (o N : Nat) (x : Int32) (hx : x < 0) (hN : N ≤ 400) (e1 : s.1 39 1 = nI N) : ∀ (n i j : Nat), i ≤ N → N < i + n → j ≤ i → f_X11_packed_L18 n (nI o) x (nI j) (nI i) s = some (.inr ((), s)) := by
  intro n
  induction n with
  | zero => intro i j h1 h2; omega
  | succ n ih =>
    intro i j h1 h2 h3
    have d4 : nI i + 1 = nI (i + 1) := nI_1 i
    have c5 : nI j + 1 = nI (j + 1) := nI_1 j
    by_cases hi : i < N
    · have d1 : nI i < nI N := nI_lt (by omega) (by omega)
      have d2 : am_in (nI i) 400 = true := rl_nin (by decide) (by omega)
      have d3 : (nI i).toNatClampNeg = i := nI_clamp (by omega)
      have c3 : ¬ nI j = x := fun q => absurd hx (by rw [← q]; exact nI_pos (by omega))
      by_cases c : s.1 43 i = nI o
      · simp [f_X11_packed_L18, e1, d1, am_gu, am_jn, d2, d3, d4, c, c3, c5, ih (i + 1) (j + 1) (by omega) (by omega) (by omega)]
      · simp [f_X11_packed_L18, e1, d1, am_gu, am_jn, d2, d3, d4, c, ih (i + 1) j (by omega) (by omega) (by omega)]
    · have d1 : ¬ nI i < nI N := nI_nlt (by omega) (by omega)
      simp [f_X11_packed_L18, e1, d1]
theorem g_packed (s : am_S) (x1 x2 : Int32) (h : rl_q s) (ho : rl_n (s.1 46 0) 8) (hf : rl_n (s.1 39 1) 400) : ∃ (v : Int32) (s1 s2 : am_S), f_X11_packed s x1 x2 = some (v, s1) ∧ f_X12_packed s1 x1 x2 = some (v, s2) ∧ s2 = s := by
  have em : s.1 58 74 = s.1 46 0 := rq_f h (by decide)
  have en : s.1 58 66 = s.1 39 1 := rq_f h (by decide)
  by_cases a0 : x1 < 0
  · exact ⟨-1, s, s, by simp [f_X11_packed, f_X5_has, am_bd, a0], by simp [f_X12_packed, f_X12_isOrder, am_bd, a0], rfl⟩
  by_cases a1 : ¬ x1 < s.1 46 0
  · exact ⟨-1, s, s, by simp [f_X11_packed, f_X5_has, am_bd, a0, a1], by simp [f_X12_packed, f_X12_isOrder, am_bd, a0, em, a1], rfl⟩
  have a1 := Decidable.not_not.mp a1
  obtain ⟨o, n, e1, e2, e3, e4⟩ := rl_ix ho (by decide) a0 a1
  obtain ⟨N, N1, N2⟩ := hf
  by_cases b0 : x2 < 0
  · have g : f_X11_packed_L18 am_FU x1 x2 0 0 s = some (.inr ((), s)) := by
      rw [e4]
      exact pd_neg s o N x2 b0 N1 N2 am_FU 0 0 (by omega) (by unfold am_FU; omega) (by omega)
    exact ⟨-1, s, s, by simp [f_X11_packed, f_X5_has, am_bd, am_lp, a0, a1, g], by simp [f_X12_packed, f_X12_isOrder, am_bd, a0, em, a1, b0], rfl⟩
  · obtain ⟨t, ht, et⟩ := nI_of b0
    rcases pd_loop s o N t ht N1 N2 (en.trans N2) (rq_r h (by decide)) am_FU 0 0 (by omega) (by unfold am_FU; omega) (by omega) (by omega) with ⟨v, g1, g2⟩ | ⟨g1, g2⟩
    · rw [← e4, ← et] at g1
      rw [← e4, Nat.sub_zero, ← et] at g2
      have g1 : f_X11_packed_L18 am_FU x1 x2 0 0 s = some (.inl (v, s)) := g1
      have g2 : f_X12_packed_L19 am_FU x1 x2 0 s = some (.inl (v, s)) := g2
      exact ⟨v, s, s, by simp [f_X11_packed, f_X5_has, am_bd, am_lp, a0, a1, g1], by simp [f_X12_packed, f_X12_isOrder, am_bd, am_lp, a0, em, a1, b0, g2], rfl⟩
    · rw [← e4, ← et] at g1
      rw [← e4, Nat.sub_zero, ← et] at g2
      have g1 : f_X11_packed_L18 am_FU x1 x2 0 0 s = some (.inr ((), s)) := g1
      have g2 : f_X12_packed_L19 am_FU x1 x2 0 s = some (.inr ((), s)) := g2
      exact ⟨-1, s, s, by simp [f_X11_packed, f_X5_has, am_bd, am_lp, a0, a1, g1], by simp [f_X12_packed, f_X12_isOrder, am_bd, am_lp, a0, em, a1, b0, g2], rfl⟩
/-- a lot in the box of an order -/
theorem fd_one (s : am_S) (x1 x3 x4 : Int32) (N : Nat) (hN : N ≤ 400) (e2 : s.1 58 66 = nI N) : ∀ (n i : Nat), i ≤ N → N < i + n → f_X12_found_L38 n x1 x3 x4 1 (nI i) s = some (.inr (1, s)) := by
  intro n
  induction n with
  | zero => intro i h1 h2; omega
  | succ n ih =>
    intro i h1 h2
    have d4 : nI i + 1 = nI (i + 1) := nI_1 i
    by_cases hi : i < N
    · have d1 : nI i < nI N := nI_lt (by omega) (by omega)
      simp [f_X12_found_L38, e2, d1, am_gu, am_jn, d4, ih (i + 1) (by omega) (by omega)]
    · have d1 : ¬ nI i < nI N := nI_nlt (by omega) (by omega)
      simp [f_X12_found_L38, e2, d1]
theorem fd_in (s : am_S) (x1 x3 x4 : Int32) (N : Nat) (hN : N ≤ 400) (e1 : s.1 39 1 = nI N) (e2 : s.1 58 66 = nI N) (r : s.1 106 = s.1 43) (r1 : s.1 105 = s.1 42) : ∀ (n i : Nat), i ≤ N → N < i + n → (f_X3_isLotInBoxOf_L2 n x1 x4 (nI i) s = some (.inl (1, s)) ∧ f_X12_found_L38 n x1 x3 x4 0 (nI i) s = some (.inr (1, s))) ∨ (f_X3_isLotInBoxOf_L2 n x1 x4 (nI i) s = some (.inr ((), s)) ∧ f_X12_found_L38 n x1 x3 x4 0 (nI i) s = some (.inr (0, s))) := by
  intro n
  induction n with
  | zero => intro i h1 h2; omega
  | succ n ih =>
    intro i h1 h2
    have d4 : nI i + 1 = nI (i + 1) := nI_1 i
    by_cases hi : i < N
    · have d1 : nI i < nI N := nI_lt (by omega) (by omega)
      have d2 : am_in (nI i) 400 = true := rl_nin (by decide) (by omega)
      have d3 : (nI i).toNatClampNeg = i := nI_clamp (by omega)
      have go := ih (i + 1) (by omega) (by omega)
      by_cases c : s.1 42 i = x1
      · by_cases c2 : s.1 43 i = x4
        · exact Or.inl ⟨by simp [f_X3_isLotInBoxOf_L2, e1, d1, am_gu, am_jn, d2, d3, c, c2], by simp [f_X12_found_L38, e2, d1, am_gu, am_jn, d2, d3, d4, r, r1, c, c2, fd_one s x1 x3 x4 N hN e2 n (i + 1) (by omega) (by omega)]⟩
        · simpa [f_X3_isLotInBoxOf_L2, f_X12_found_L38, e1, e2, d1, am_gu, am_jn, d2, d3, d4, r, r1, c, c2] using go
      · by_cases c2 : s.1 43 i = x4
        · simpa [f_X3_isLotInBoxOf_L2, f_X12_found_L38, e1, e2, d1, am_gu, am_jn, d2, d3, d4, r, r1, c, c2] using go
        · simpa [f_X3_isLotInBoxOf_L2, f_X12_found_L38, e1, e2, d1, am_gu, am_jn, d2, d3, d4, r, r1, c, c2] using go
    · have d1 : ¬ nI i < nI N := nI_nlt (by omega) (by omega)
      exact Or.inr ⟨by simp [f_X3_isLotInBoxOf_L2, e1, d1], by simp [f_X12_found_L38, e2, d1]⟩
theorem fd_b (s : am_S) (x1 x3 x4 : Int32) (N : Nat) (hN : N ≤ 400) (e1 : s.1 39 1 = nI N) (e2 : s.1 58 66 = nI N) (r : s.1 106 = s.1 43) (r1 : s.1 105 = s.1 42) : ∃ w : Int32, f_X3_isLotInBoxOf s x1 x4 = some (w, s) ∧ f_X12_found_L38 am_FU x1 x3 x4 0 0 s = some (.inr (w, s)) := by
  rcases fd_in s x1 x3 x4 N hN e1 e2 r r1 am_FU 0 (by omega) (by unfold am_FU; omega) with ⟨g1, g2⟩ | ⟨g1, g2⟩
  · have g1 : f_X3_isLotInBoxOf_L2 am_FU x1 x4 0 s = some (.inl (1, s)) := g1
    exact ⟨1, by simp [f_X3_isLotInBoxOf, am_lp, g1], g2⟩
  · have g1 : f_X3_isLotInBoxOf_L2 am_FU x1 x4 0 s = some (.inr ((), s)) := g1
    exact ⟨0, by simp [f_X3_isLotInBoxOf, am_lp, g1], g2⟩
theorem fd_loop (s : am_S) (x1 : Int32) (N O t : Nat) (ht : t < 2 ^ 31) (hN : N ≤ 400) (hO : O ≤ 8) (e1 : s.1 39 1 = nI N) (e2 : s.1 58 66 = nI N) (e3 : s.1 46 0 = nI O) (e4 : s.1 58 74 = nI O) (r : s.1 106 = s.1 43) (r1 : s.1 105 = s.1 42) : ∀ (n i j : Nat), i ≤ O → O < i + n → j ≤ i → j ≤ t → (∃ v, f_X11_found_L18 n x1 (nI t) (nI j) (nI i) s = some (.inl (v, s)) ∧ f_X12_found_L23 n x1 (nI (t - j)) (nI i) s = some (.inl (v, s))) ∨ (f_X11_found_L18 n x1 (nI t) (nI j) (nI i) s = some (.inr ((), s)) ∧ f_X12_found_L23 n x1 (nI (t - j)) (nI i) s = some (.inr ((), s))) := by
  intro n
  induction n with
  | zero => intro i j h1 h2; omega
  | succ n ih =>
    intro i j h1 h2 h3 h4
    have d4 : nI i + 1 = nI (i + 1) := nI_1 i
    by_cases hi : i < O
    · have d1 : nI i < nI O := nI_lt (by omega) (by omega)
      obtain ⟨w, g1, g2⟩ := fd_b s x1 (nI (t - j)) (nI i) N hN e1 e2 r r1
      by_cases c : w = 0
      · have := ih (i + 1) j (by omega) (by omega) (by omega) (by omega)
        simpa [f_X11_found_L18, f_X12_found_L23, e3, e4, d1, am_bd, am_lp, am_jn, d4, g1, g2, c] using this
      · by_cases c2 : j = t
        · subst c2
          have c3 : nI (j - j) = 0 := by rw [Nat.sub_self]; rfl
          rw [c3] at g2 ⊢
          exact Or.inl ⟨nI i, by simp [f_X11_found_L18, e3, d1, am_bd, am_jn, g1, c], by simp [f_X12_found_L23, e4, d1, am_lp, am_jn, g2, c]⟩
        · have c3 : ¬ nI j = nI t := nI_ne (by omega) (by omega) c2
          have c4 : ¬ nI (t - j) = 0 := nI_ne (m := 0) (by omega) (by decide) (by omega)
          have c5 : nI j + 1 = nI (j + 1) := nI_1 j
          have c6 : nI (t - j) + -1 = nI (t - (j + 1)) := by rw [show t - j = t - (j + 1) + 1 by omega]; exact pk_m1 _
          have := ih (i + 1) (j + 1) (by omega) (by omega) (by omega) (by omega)
          simpa [f_X11_found_L18, f_X12_found_L23, e3, e4, d1, am_bd, am_lp, am_jn, d4, g1, g2, c, c3, c4, c5, c6] using this
    · have d1 : ¬ nI i < nI O := nI_nlt (by omega) (by omega)
      exact Or.inr ⟨by simp [f_X11_found_L18, e3, d1], by simp [f_X12_found_L23, e4, d1]⟩
theorem fd_neg (s : am_S) (x1 x : Int32) (hx : x < 0) (N O : Nat) (hN : N ≤ 400) (hO : O ≤ 8) (e1 : s.1 39 1 = nI N) (e2 : s.1 58 66 = nI N) (e3 : s.1 46 0 = nI O) (r : s.1 106 = s.1 43) (r1 : s.1 105 = s.1 42) : ∀ (n i j : Nat), i ≤ O → O < i + n → j ≤ i → f_X11_found_L18 n x1 x (nI j) (nI i) s = some (.inr ((), s)) := by
  intro n
  induction n with
  | zero => intro i j h1 h2; omega
  | succ n ih =>
    intro i j h1 h2 h3
    have d4 : nI i + 1 = nI (i + 1) := nI_1 i
    have c5 : nI j + 1 = nI (j + 1) := nI_1 j
    by_cases hi : i < O
    · have d1 : nI i < nI O := nI_lt (by omega) (by omega)
      obtain ⟨w, g1, -⟩ := fd_b s x1 0 (nI i) N hN e1 e2 r r1
      have c3 : ¬ nI j = x := fun q => absurd hx (by rw [← q]; exact nI_pos (by omega))
      by_cases c : w = 0
      · simp [f_X11_found_L18, e3, d1, am_bd, am_jn, d4, g1, c, ih (i + 1) j (by omega) (by omega) (by omega)]
      · simp [f_X11_found_L18, e3, d1, am_bd, am_jn, d4, g1, c, c3, c5, ih (i + 1) (j + 1) (by omega) (by omega) (by omega)]
    · have d1 : ¬ nI i < nI O := nI_nlt (by omega) (by omega)
      simp [f_X11_found_L18, e3, d1]
theorem g_found (s : am_S) (x1 x2 : Int32) (h : rl_q s) (ho : rl_n (s.1 46 0) 8) (hf : rl_n (s.1 39 1) 400) : ∃ (v : Int32) (s1 s2 : am_S), f_X11_found s x1 x2 = some (v, s1) ∧ f_X12_found s1 x1 x2 = some (v, s2) ∧ s2 = s := by
  have em : s.1 58 74 = s.1 46 0 := rq_f h (by decide)
  have el : s.1 58 72 = s.1 39 7 := rq_f h (by decide)
  have en : s.1 58 66 = s.1 39 1 := rq_f h (by decide)
  have r : s.1 106 = s.1 43 := rq_r h (by decide)
  have r1 : s.1 105 = s.1 42 := rq_r h (by decide)
  by_cases a0 : x1 < 0
  · exact ⟨-1, s, s, by simp [f_X11_found, f_X3_hasLot, am_bd, a0], by simp [f_X12_found, am_bd, a0], rfl⟩
  by_cases a1 : ¬ x1 < s.1 39 7
  · exact ⟨-1, s, s, by simp [f_X11_found, f_X3_hasLot, am_bd, a0, a1], by simp [f_X12_found, am_bd, a0, el, a1], rfl⟩
  have a1 := Decidable.not_not.mp a1
  obtain ⟨N, N1, N2⟩ := hf
  obtain ⟨O, O1, O2⟩ := ho
  by_cases b0 : x2 < 0
  · have g : f_X11_found_L18 am_FU x1 x2 0 0 s = some (.inr ((), s)) := fd_neg s x1 x2 b0 N O N1 O1 N2 (en.trans N2) O2 r r1 am_FU 0 0 (by omega) (by unfold am_FU; omega) (by omega)
    exact ⟨-1, s, s, by simp [f_X11_found, f_X3_hasLot, am_bd, am_lp, a0, a1, g], by simp [f_X12_found, am_bd, a0, el, a1, b0], rfl⟩
  · obtain ⟨t, ht, et⟩ := nI_of b0
    rcases fd_loop s x1 N O t ht N1 O1 N2 (en.trans N2) O2 (em.trans O2) r r1 am_FU 0 0 (by omega) (by unfold am_FU; omega) (by omega) (by omega) with ⟨v, g1, g2⟩ | ⟨g1, g2⟩
    · rw [← et] at g1
      rw [Nat.sub_zero, ← et] at g2
      have g1 : f_X11_found_L18 am_FU x1 x2 0 0 s = some (.inl (v, s)) := g1
      have g2 : f_X12_found_L23 am_FU x1 x2 0 s = some (.inl (v, s)) := g2
      exact ⟨v, s, s, by simp [f_X11_found, f_X3_hasLot, am_bd, am_lp, a0, a1, g1], by simp [f_X12_found, am_bd, am_lp, a0, el, a1, b0, g2], rfl⟩
    · rw [← et] at g1
      rw [Nat.sub_zero, ← et] at g2
      have g1 : f_X11_found_L18 am_FU x1 x2 0 0 s = some (.inr ((), s)) := g1
      have g2 : f_X12_found_L23 am_FU x1 x2 0 s = some (.inr ((), s)) := g2
      exact ⟨-1, s, s, by simp [f_X11_found, f_X3_hasLot, am_bd, am_lp, a0, a1, g1], by simp [f_X12_found, am_bd, am_lp, a0, el, a1, b0, g2], rfl⟩
