/-! ===== refuse, count, packed, found on both sides ===== -/
/-- every figure has a ring, and that a family -/
def fg_ok (a : am_S) (N : Nat) : Prop := ∀ j, j < N → ∃ r f : Nat, r < 200 ∧ f < 8 ∧ a.1 40 j = nI r ∧ a.1 37 r = nI f
theorem rf_loop (o N : Nat) (hN : N ≤ 400) : ∀ (n i : Nat) (acc : Int32) (a b : am_S), rl_x [48] a b → a.1 39 1 = nI N → fg_ok a N → i ≤ N → N < i + n → ∃ v a' b', f_X11_refuse_L40 n (nI o) acc (nI i) a = some (.inr (v, a')) ∧ f_X12_refuse_L24 n (nI o) acc (nI i) b = some (.inr (v, b')) ∧ rl_x [48] a' b' ∧ rw_on [43, 44, 24] a' a ∧ rw_on [106, 107, 86] b' b ∧ ∀ j, a'.1 43 j = if i ≤ j ∧ j < N ∧ a.1 43 j = nI o then -1 else a.1 43 j := by
  intro n
  induction n with
  | zero => intro i acc a b h eN hf h1 h2; omega
  | succ n ih =>
    intro i acc a b h eN hf h1 h2
    have en : b.1 58 66 = nI N := (h.f (c := 39) (k := 1) (by decide)).trans eN
    have r0 : b.1 106 = a.1 43 := h.r (by decide) (by decide)
    have r1 : b.1 107 = a.1 44 := h.r (by decide) (by decide)
    have r2 : b.1 86 = a.1 24 := h.r (by decide) (by decide)
    have r3 : b.1 104 = a.1 40 := h.r (by decide) (by decide)
    have r4 : b.1 97 = a.1 37 := h.r (by decide) (by decide)
    by_cases hi : i < N
    · have d1 : nI i < nI N := nI_lt (by omega) (by omega)
      have d2 : am_in (nI i) 400 = true := rl_nin (by decide) (by omega)
      have d3 : (nI i).toNatClampNeg = i := nI_clamp (by omega)
      have d4 : nI i + 1 = nI (i + 1) := nI_1 i
      by_cases c1 : a.1 43 i = nI o
      · obtain ⟨r, f, y1, y2, y3, y4⟩ := hf i hi
        have t1 : am_in (nI r) 200 = true := rl_nin (by decide) y1
        have t2 : (nI r).toNatClampNeg = r := nI_clamp (by omega)
        have t3 : am_in (nI f) 8 = true := rl_nin (by decide) y2
        have t4 : (nI f).toNatClampNeg = f := nI_clamp (by omega)
        have h' : rl_x [48] (am_wI (am_wI (am_wI a 24 f (a.1 24 f - a.1 44 i)) 44 i 0) 43 i (-1)) (am_wI (am_wI (am_wI b 86 f (a.1 24 f - a.1 44 i)) 107 i 0) 106 i (-1)) := ((h.w2 (by decide) _ _).w2 (by decide) _ _).w2 (by decide) _ _
        have eb : am_wI (am_wI (am_wI b 86 f (a.1 24 f - a.1 44 i)) 107 i 0) 106 i (-1) = am_wI (am_wI (am_wI b 106 i (-1)) 86 f (a.1 24 f - a.1 44 i)) 107 i 0 := by
          refine Prod.ext ?_ rfl
          funext c k
          simp only [rl_wI]
          by_cases q1 : c = 106
          · subst q1; simp
          · simp [q1]
        rw [eb] at h'
        obtain ⟨v, a', b', g1, g2, g3, g4, g5, g6⟩ := ih (i + 1) (acc + 1) _ _ h' eN hf (by omega) (by omega)
        refine ⟨v, a', b', ?_, ?_, g3, g4.trans ((((rw_on.refl _ _).w (by decide) _ _).w (by decide) _ _).w (by decide) _ _), g5.trans ((((rw_on.refl _ _).w (by decide) _ _).w (by decide) _ _).w (by decide) _ _), fun j => ?_⟩
        · simp [f_X11_refuse_L40, f_X11_unbox, f_X3_familyOf, eN, d1, am_gu, am_jn, am_bd, d2, d3, d4, c1, y3, y4, t1, t2, t3, t4, g1]
        · simp [f_X12_refuse_L24, en, d1, am_gu, am_jn, d2, d3, d4, r0, r1, r2, r3, r4, c1, y3, y4, t1, t2, t3, t4, g2]
        · rw [g6 j, rl_ws]
          by_cases e : j = i
          · subst e
            simp [c1, hi]
          · have e2 : (i + 1 ≤ j) = (i ≤ j) := propext ⟨fun _ => by omega, fun _ => by omega⟩
            have e3 : (am_wI (am_wI a 24 f (a.1 24 f - a.1 44 i)) 44 i 0).1 43 j = a.1 43 j := rfl
            simp only [e, if_false, e2, e3]
      · obtain ⟨v, a', b', g1, g2, g3, g4, g5, g6⟩ := ih (i + 1) acc _ _ h eN hf (by omega) (by omega)
        refine ⟨v, a', b', ?_, ?_, g3, g4, g5, fun j => ?_⟩
        · simp [f_X11_refuse_L40, eN, d1, am_gu, am_jn, am_bd, d2, d3, d4, c1, g1]
        · simp [f_X12_refuse_L24, en, d1, am_gu, am_jn, d2, d3, d4, r0, c1, g2]
        · rw [g6 j]
          by_cases e : j = i
          · subst e
            simp [c1]
          · have e2 : (i + 1 ≤ j) = (i ≤ j) := propext ⟨fun _ => by omega, fun _ => by omega⟩
            simp only [e2]
    · have d1 : ¬ nI i < nI N := nI_nlt (by omega) (by omega)
      refine ⟨acc, a, b, by simp [f_X11_refuse_L40, eN, d1], by simp [f_X12_refuse_L24, en, d1], h, rw_on.refl _ _, rw_on.refl _ _, fun j => ?_⟩
      rw [if_neg (fun q => by omega)]
theorem fg_of {a : am_S} (hf : ri_figs a) (hr : rl_n (a.1 32 2) 200) (hm : rl_n (a.1 21 0) 8) {N : Nat} (hN : a.1 39 1 = nI N) (h4 : N ≤ 400) : fg_ok a N := by
  intro j hj
  obtain ⟨⟨r, f, q1, q2, q3, q4⟩, -⟩ := hf.2.2.2 j (by rw [hN, nI_clamp (by omega)]; exact hj)
  obtain ⟨n1, k1, k2⟩ := hr
  obtain ⟨n2, k3, k4⟩ := hm
  rw [k2, nI_clamp (by omega)] at q1
  rw [k4, nI_clamp (by omega)] at q2
  exact ⟨r, f, by omega, by omega, q3, q4⟩
theorem m_refuse (a b : am_S) (x1 : Int32) (h : rl_x [] a b) (hf : ri_figs a) (hr : rl_n (a.1 32 2) 200) (hm : rl_n (a.1 21 0) 8) (ho : rl_n (a.1 46 0) 8) : ∃ v a' b', f_X11_refuse a x1 = some (v, a') ∧ f_X12_refuse b x1 = some (v, b') ∧ rl_x [] a' b' ∧ rw_on [43, 44, 24, 48] a' a ∧ rw_on [106, 107, 86, 111] b' b ∧ ((a'.1 43 = a.1 43 ∧ a'.1 48 = a.1 48) ∨ ∃ o : Nat, o < (a.1 46 0).toNatClampNeg ∧ (∀ j, a'.1 48 j = if j = o then 2 else a.1 48 j) ∧ ∀ j, a'.1 43 j = if j < (a.1 39 1).toNatClampNeg ∧ a.1 43 j = nI o then -1 else a.1 43 j) := by
  have em : b.1 58 74 = a.1 46 0 := h.f (by decide)
  have r0 : b.1 111 = a.1 48 := h.r (by decide) (by decide)
  have tr : rl_x [] a b ∧ rw_on [43, 44, 24, 48] a a ∧ rw_on [106, 107, 86, 111] b b := ⟨h, rw_on.refl _ _, rw_on.refl _ _⟩
  by_cases a0 : x1 < 0
  · exact ⟨-1, a, b, by simp [f_X11_refuse, f_X5_has, am_bd, a0], by simp [f_X12_refuse, f_X12_isOrder, am_bd, a0], tr.1, tr.2.1, tr.2.2, Or.inl ⟨rfl, rfl⟩⟩
  by_cases a1 : ¬ x1 < a.1 46 0
  · exact ⟨-1, a, b, by simp [f_X11_refuse, f_X5_has, am_bd, a0, a1], by simp [f_X12_refuse, f_X12_isOrder, am_bd, a0, em, a1], tr.1, tr.2.1, tr.2.2, Or.inl ⟨rfl, rfl⟩⟩
  have a1 := Decidable.not_not.mp a1
  obtain ⟨o, n, e1, e2, e3, e4⟩ := rl_ix ho (by decide) a0 a1
  have c1 : am_in x1 8 = true := by rw [e4]; exact rl_nin (by decide) (by omega)
  have c2 : x1.toNatClampNeg = o := by rw [e4]; exact nI_clamp (by omega)
  by_cases a2 : ¬ a.1 48 o = 1
  · exact ⟨-1, a, b, by simp [f_X11_refuse, f_X5_has, am_bd, am_gu, a0, a1, c1, c2, a2], by simp [f_X12_refuse, f_X12_isOrder, am_bd, am_gu, a0, em, a1, c1, c2, r0, a2], tr.1, tr.2.1, tr.2.2, Or.inl ⟨rfl, rfl⟩⟩
  have a2 := Decidable.not_not.mp a2
  obtain ⟨N, N1, N2⟩ := hf.1
  have h' : rl_x [48] (am_wI a 48 o 2) b := (h.mono (by simp)).wa (by decide) (by decide) _ _
  obtain ⟨v, a', b', g1, g2, g3, g4, g5, g6⟩ := rf_loop o N N1 am_FU 0 0 _ _ h' N2 (fg_of hf hr hm N2 N1) (by omega) (by unfold am_FU; omega)
  rw [← e4] at g1 g2
  have s48 : ∀ j, a'.1 48 j = if j = o then 2 else a.1 48 j := fun j => by
    rw [(g4 48 (by decide)).1, rl_ws]
  have fin : rl_x [] a' (am_wI b' 111 o 2) := by
    refine rl_x.add (c := 48) (m := 111) (g3.wb (by decide) (by decide) _ _) (by decide) ?_
    funext j
    rw [s48 j, rl_ws, (g5 111 (by decide)).1, r0]
  refine ⟨v, a', am_wI b' 111 o 2, ?_, ?_, fin, ?_, ?_, Or.inr ⟨o, by rw [e1, nI_clamp (by omega)]; exact e3, s48, fun j => ?_⟩⟩
  · have g1' : f_X11_refuse_L40 am_FU x1 0 0 (am_wI a 48 o 2) = some (.inr (v, a')) := g1
    simp [f_X11_refuse, f_X5_has, am_bd, am_gu, am_lp, a0, a1, c1, c2, a2, g1']
  · have g2' : f_X12_refuse_L24 am_FU x1 0 0 b = some (.inr (v, b')) := g2
    simp [f_X12_refuse, f_X12_isOrder, am_bd, am_gu, am_lp, a0, em, a1, c1, c2, r0, a2, g2']
  · exact (g4.mono (by decide)).trans ((rw_on.refl _ _).w (by decide) _ _)
  · exact (g5.mono (by decide)).w (by decide) _ _
  · rw [g6 j, N2, nI_clamp (by omega)]
    have e5 : (am_wI a 48 o 2).1 43 j = a.1 43 j := rfl
    simp only [Nat.zero_le, true_and, e5]
theorem ct_w (s : am_S) (N : Nat) (hN : N ≤ 200) (e1 : s.1 32 2 = nI N) (e2 : s.1 58 55 = nI N) (r : s.1 97 = s.1 37) : ∀ (n i : Nat) (acc : Int32), i ≤ N → N < i + n → ∃ v, f_X7_waiting_L4 n acc (nI i) s = some (.inr (v, s)) ∧ f_X12_count_L86 n acc (nI i) s = some (.inr (v, s)) := by
  intro n
  induction n with
  | zero => intro i acc h1 h2; omega
  | succ n ih =>
    intro i acc h1 h2
    have d4 : nI i + 1 = nI (i + 1) := nI_1 i
    by_cases hi : i < N
    · have d1 : nI i < nI N := nI_lt (by omega) (by omega)
      have d2 : am_in (nI i) 200 = true := rl_nin (by decide) (by omega)
      have d3 : (nI i).toNatClampNeg = i := nI_clamp (by omega)
      by_cases c : s.1 37 i = -1
      · obtain ⟨v, g1, g2⟩ := ih (i + 1) (acc + 1) (by omega) (by omega)
        exact ⟨v, by simp [f_X7_waiting_L4, e1, d1, am_gu, am_jn, d2, d3, d4, c, g1], by simp [f_X12_count_L86, e2, d1, am_gu, am_jn, d2, d3, d4, r, c, g2]⟩
      · obtain ⟨v, g1, g2⟩ := ih (i + 1) acc (by omega) (by omega)
        exact ⟨v, by simp [f_X7_waiting_L4, e1, d1, am_gu, am_jn, d2, d3, d4, c, g1], by simp [f_X12_count_L86, e2, d1, am_gu, am_jn, d2, d3, d4, r, c, g2]⟩
    · have d1 : ¬ nI i < nI N := nI_nlt (by omega) (by omega)
      exact ⟨acc, by simp [f_X7_waiting_L4, e1, d1], by simp [f_X12_count_L86, e2, d1]⟩
theorem ct_b (s : am_S) (N : Nat) (hN : N ≤ 400) (e1 : s.1 39 1 = nI N) (e2 : s.1 58 66 = nI N) (r : s.1 106 = s.1 43) : ∀ (n i : Nat) (acc : Int32), i ≤ N → N < i + n → ∃ v, f_X3_boxed_L4 n acc (nI i) s = some (.inr (v, s)) ∧ f_X12_count_L127 n acc (nI i) s = some (.inr (v, s)) := by
  intro n
  induction n with
  | zero => intro i acc h1 h2; omega
  | succ n ih =>
    intro i acc h1 h2
    have d4 : nI i + 1 = nI (i + 1) := nI_1 i
    by_cases hi : i < N
    · have d1 : nI i < nI N := nI_lt (by omega) (by omega)
      have d2 : am_in (nI i) 400 = true := rl_nin (by decide) (by omega)
      have d3 : (nI i).toNatClampNeg = i := nI_clamp (by omega)
      by_cases c : s.1 43 i = -1
      · obtain ⟨v, g1, g2⟩ := ih (i + 1) acc (by omega) (by omega)
        exact ⟨v, by simp [f_X3_boxed_L4, e1, d1, am_gu, am_jn, d2, d3, d4, c, g1], by simp [f_X12_count_L127, e2, d1, am_gu, am_jn, d2, d3, d4, r, c, g2]⟩
      · obtain ⟨v, g1, g2⟩ := ih (i + 1) (acc + 1) (by omega) (by omega)
        exact ⟨v, by simp [f_X3_boxed_L4, e1, d1, am_gu, am_jn, d2, d3, d4, c, g1], by simp [f_X12_count_L127, e2, d1, am_gu, am_jn, d2, d3, d4, r, c, g2]⟩
    · have d1 : ¬ nI i < nI N := nI_nlt (by omega) (by omega)
      exact ⟨acc, by simp [f_X3_boxed_L4, e1, d1], by simp [f_X12_count_L127, e2, d1]⟩
theorem g_count (sw : Bool) (s : am_S) (x1 : Int32) (h : rl_q s) (hr : rl_n (s.1 32 2) 200) (hf : rl_n (s.1 39 1) 400) (hl : ∃ l : Nat, l < 2 ∧ s.1 58 18 = nI l ∧ s.1 66 l = s.1 (am_ru sw) 0) : ∃ (v : Int32) (s1 s2 : am_S), f_X11_count sw s x1 = some (v, s1) ∧ f_X12_count s1 x1 = some (v, s2) ∧ s2 = s := by
  have e0 : s.1 58 37 = s.1 17 0 := rq_f h (by decide)
  have e1 : s.1 58 41 = s.1 21 0 := rq_f h (by decide)
  have e2 : s.1 58 53 = s.1 32 0 := rq_f h (by decide)
  have e3 : s.1 58 55 = s.1 32 2 := rq_f h (by decide)
  have e5 : s.1 58 66 = s.1 39 1 := rq_f h (by decide)
  have e7 : s.1 58 72 = s.1 39 7 := rq_f h (by decide)
  have e8 : s.1 58 74 = s.1 46 0 := rq_f h (by decide)
  have e10 : s.1 58 51 = s.1 0 5 := rq_f h (by decide)
  have e11 : s.1 58 2 = s.1 1 1 := rq_f h (by decide)
  obtain ⟨N, N1, N2⟩ := hr
  obtain ⟨M, M1, M2⟩ := hf
  obtain ⟨l, l1, l2, l3⟩ := hl
  have l4 : am_in (nI l) 2 = true := rl_nin (by decide) l1
  have l5 : (nI l).toNatClampNeg = l := nI_clamp (by omega)
  obtain ⟨v4, g1, g2⟩ := ct_w s N N1 N2 (e3.trans N2) (rq_r h (by decide)) am_FU 0 0 (by omega) (by unfold am_FU; omega)
  obtain ⟨v6, g3, g4⟩ := ct_b s M M1 M2 (e5.trans M2) (rq_r h (by decide)) am_FU 0 0 (by omega) (by unfold am_FU; omega)
  have g1 : f_X7_waiting_L4 am_FU 0 0 s = some (.inr (v4, s)) := g1
  have g2 : f_X12_count_L86 am_FU 0 0 s = some (.inr (v4, s)) := g2
  have g3 : f_X3_boxed_L4 am_FU 0 0 s = some (.inr (v6, s)) := g3
  have g4 : f_X12_count_L127 am_FU 0 0 s = some (.inr (v6, s)) := g4
  by_cases w0 : x1 = 0
  · exact ⟨_, s, s, by simp [f_X11_count, w0]; rfl, by simp [f_X12_count, w0, e0], rfl⟩
  by_cases w1 : x1 = 1
  · exact ⟨_, s, s, by simp [f_X11_count, w1]; rfl, by simp [f_X12_count, w1, e1], rfl⟩
  by_cases w2 : x1 = 2
  · exact ⟨_, s, s, by simp [f_X11_count, w2]; rfl, by simp [f_X12_count, w2, e2], rfl⟩
  by_cases w3 : x1 = 3
  · exact ⟨_, s, s, by simp [f_X11_count, w3]; rfl, by simp [f_X12_count, w3, e3], rfl⟩
  by_cases w4 : x1 = 4
  · exact ⟨v4, s, s, by simp [f_X11_count, f_X7_waiting, am_bd, am_lp, w4, g1], by simp [f_X12_count, am_lp, w4, g2], rfl⟩
  by_cases w5 : x1 = 5
  · exact ⟨_, s, s, by simp [f_X11_count, w5]; rfl, by simp [f_X12_count, w5, e5], rfl⟩
  by_cases w6 : x1 = 6
  · exact ⟨v6, s, s, by simp [f_X11_count, f_X3_boxed, am_bd, am_lp, w6, g3], by simp [f_X12_count, am_lp, w6, g4], rfl⟩
  by_cases w7 : x1 = 7
  · exact ⟨_, s, s, by simp [f_X11_count, w7]; rfl, by simp [f_X12_count, w7, e7], rfl⟩
  by_cases w8 : x1 = 8
  · exact ⟨_, s, s, by simp [f_X11_count, w8]; rfl, by simp [f_X12_count, w8, e8], rfl⟩
  by_cases w9 : x1 = 9
  · exact ⟨s.1 (am_ru sw) 0, s, s, by simp [f_X11_count, w9], by simp [f_X12_count, w9, am_gu, l2, l4, l5, l3], rfl⟩
  by_cases w10 : x1 = 10
  · exact ⟨_, s, s, by simp [f_X11_count, w10]; rfl, by simp [f_X12_count, w10, e10], rfl⟩
  by_cases w11 : x1 = 11
  · exact ⟨_, s, s, by simp [f_X11_count, w11]; rfl, by simp [f_X12_count, w11, e11], rfl⟩
  exact ⟨-1, s, s, by simp [f_X11_count, w0, w1, w2, w3, w4, w5, w6, w7, w8, w9, w10, w11], by simp [f_X12_count, w0, w1, w2, w3, w4, w5, w6, w7, w8, w9, w10, w11], rfl⟩
