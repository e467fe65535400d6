/-! ===== the bytes of the tape, and what a token is ===== -/
def isB (c : Nat) : Bool := c == 9 || c == 10 || c == 13 || c == 32
def isL (c : Nat) : Bool := decide (97 ≤ c) && decide (c ≤ 122)
def isD (c : Nat) : Bool := decide (48 ≤ c) && decide (c ≤ 57)
/-- the words, by the letters' numbers -/
def wd : Nat → List Nat
  | 0 => [8, 1, 14, 4, 19] | 1 => [23, 9, 4, 15, 23] | 2 => [12, 15, 1, 4] | 3 => [13, 15, 14, 5, 25] | 4 => [11, 9, 14, 4] | 5 => [23, 15, 18, 20, 8] | 6 => [19, 12, 9, 3, 5, 19] | 7 => [19, 5, 1, 19, 15, 14] | 8 => [7, 9, 22, 5] | 9 => [2, 1, 18] | 10 => [16, 1, 25] | 11 => [9, 6] | 12 => [1, 14, 4] | 13 => [15, 18] | _ => []
theorem wd_txt : ∀ b, b < 14 → (am_txt b).length = (wd b).length ∧ 0 < (wd b).length ∧ (wd b).length < 7 ∧ ∀ i, i < (wd b).length → (am_txt b).getD i 0 = nI ((wd b).getD i 0 + 96) ∧ 1 ≤ (wd b).getD i 0 ∧ (wd b).getD i 0 ≤ 26 := by decide +kernel
def wm (C : Nat → Nat) (st m b : Nat) : Prop := m = (wd b).length ∧ ∀ i, i < m → C (st + i) = (wd b).getD i 0 + 96
theorem wd_ne : ∀ b, b < 14 → ∀ c, c < 14 → b ≠ c → (wd b).length = (wd c).length → ∃ i, i < (wd b).length ∧ (wd b).getD i 0 ≠ (wd c).getD i 0 := by decide +kernel
theorem wm_un {C : Nat → Nat} {st m b c : Nat} (hb : b < 14) (hc : c < 14) (h : wm C st m b) (h' : wm C st m c) : b = c := by
  apply Decidable.byContradiction
  intro q
  obtain ⟨i, i1, i2⟩ := wd_ne b hb c hc q (h.1.symm.trans h'.1)
  have e1 := h.2 i (by rw [h.1]; exact i1)
  have e2 := h'.2 i (by rw [h.1]; exact i1)
  omega
/-- the reference's kind of word b; the kinds in tokens -/
def kw (b : Nat) : Nat := [26, 27, 28, 29, 30, 31, 32, 33, 20, 22, 23, 21, 25, 24].getD b 1
def cm (k : Nat) : Nat := [0, 1, 2, 1, 9, 1, 17, 18, 10, 11, 12, 13, 14, 15, 16, 1, 1, 1, 1, 1, 3, 6, 4, 5, 8, 7, 19, 20, 21, 22, 23, 24, 25, 26].getD k 1
def WK (C : Nat → Nat) (st m k : Nat) : Prop := (8 < m ∧ k = 3) ∨ (m ≤ 8 ∧ ((∃ b, b < 14 ∧ wm C st m b ∧ k = kw b) ∨ ((∀ b, b < 14 → ¬ wm C st m b) ∧ k = 1)))
def nvI (C : Nat → Nat) (st : Nat) : Nat → Int32
  | 0 => 0
  | i + 1 => nvI C st i * 10 + nI (C (st + i)) - 48
def sgk (c d : Nat) : Nat := if d = 61 ∧ c = 61 then 11 else if d = 61 ∧ c = 33 then 12 else if d = 61 ∧ c = 60 then 14 else if c = 59 then 4 else if c = 40 then 6 else if c = 41 then 7 else if c = 43 then 8 else if c = 45 then 9 else if c = 42 then 10 else if c = 60 then 13 else 3
def sgl (c d : Nat) : Nat := if d = 61 ∧ (c = 61 ∨ c = 33 ∨ c = 60) then 2 else 1
/-- the token behind p: its kind, value, place, and where it ends -/
def TA (C : Nat → Nat) (n p k : Nat) (v : Int32) (st p' : Nat) : Prop :=
  p ≤ st ∧ st ≤ n ∧ (∀ j, p ≤ j → j < st → isB (C j) = true) ∧
  ((st = n ∧ k = 0 ∧ p' = n) ∨
   (st < n ∧ isB (C st) = false ∧ st < p' ∧ p' ≤ n ∧
    ((isL (C st) = true ∧ (∀ j, st ≤ j → j < p' → isL (C j) = true) ∧ (p' < n → isL (C p') = false) ∧ WK C st (p' - st) k) ∨
     (isL (C st) = false ∧ isD (C st) = true ∧ (∀ j, st ≤ j → j < p' → isD (C j) = true) ∧ (p' < n → isD (C p') = false) ∧ k = (if 4 < p' - st then 3 else 2) ∧ (p' - st ≤ 4 → v = nvI C st (p' - st))) ∨
     (isL (C st) = false ∧ isD (C st) = false ∧ p' = st + sgl (C st) (if st + 1 < n then C (st + 1) else 0) ∧ k = sgk (C st) (if st + 1 < n then C (st + 1) else 0)))))
/-- the tape's bytes are C, n of them -/
def tp (a : am_S) (C : Nat → Nat) (n : Nat) : Prop := a.1 1 1 = nI n ∧ n ≤ 2000 ∧ ∀ i, i < n → (a.1 2 i) &&& 255 = nI (C i) ∧ C i < 256
theorem tp.on {a a' : am_S} {C : Nat → Nat} {n : Nat} {L : List Nat} (h : tp a C n) (ho : rw_on L a' a) (h1 : 1 ∉ L) (h2 : 2 ∉ L) : tp a' C n := by
  unfold tp
  rw [(ho 1 h1).1, (ho 2 h2).1]
  exact h
section CHR
variable {C : Nat → Nat} {n : Nat}
theorem at_C {a : am_S} (h : tp a C n) {i : Nat} (hi : i ≤ 4000) : f_X10_at a (nI i) = some (if i < n then nI (C i) else -1, a) := by
  have d0 : ¬ nI i < 0 := nI_pos (by omega)
  rw [f_X10_at, if_neg d0, h.1]
  by_cases q : i < n
  · have d1 : nI i < nI n := nI_lt q (by have := h.2.1; omega)
    have d2 : am_in (nI i) 2000 = true := rl_nin (by decide) (by have := h.2.1; omega)
    have d3 : (nI i).toNatClampNeg = i := nI_clamp (by omega)
    rw [if_pos d1, rl_gu d2, d3, (h.2.2 i q).1, if_pos q]
  · have d1 : ¬ nI i < nI n := nI_nlt (by omega) (by omega)
    rw [if_neg d1, if_neg q]
theorem bl_i (s : am_S) : ∀ c, c < 256 → f_X9_isBlank s (nI c) = some (mc_i (isB c), s) := by
  intro c hc
  have key : ∀ c, c < 256 → (if nI c = 9 then (1 : Int32) else if nI c = 10 then 1 else if nI c = 13 then 1 else if nI c = 32 then 1 else 0) = mc_i (isB c) := by decide +kernel
  rw [← key c hc, f_X9_isBlank]
  split
  · rfl
  · split
    · rfl
    · split
      · rfl
      · split <;> rfl
theorem lt_i (s : am_S) : ∀ c, c < 256 → f_X9_isLetter s (nI c) = some (mc_i (isL c), s) := by
  intro c hc
  have key : ∀ c, c < 256 → (if nI c < 97 then (0 : Int32) else if 122 < nI c then 0 else 1) = mc_i (isL c) := by decide +kernel
  rw [← key c hc, f_X9_isLetter]
  split
  · rfl
  · split <;> rfl
theorem dg_i (s : am_S) : ∀ c, c < 256 → f_X9_isDigit s (nI c) = some (mc_i (isD c), s) := by
  intro c hc
  have key : ∀ c, c < 256 → (if nI c < 48 then (0 : Int32) else if 57 < nI c then 0 else 1) = mc_i (isD c) := by decide +kernel
  rw [← key c hc, f_X9_isDigit]
  split
  · rfl
  · split <;> rfl
theorem bl_C {st : Nat} (hst : st ≤ n) (hs : st < n → isB (C st) = false) : ∀ (F p : Nat) (a : am_S), tp a C n → a.1 4 2 = nI p → p ≤ st → (∀ j, p ≤ j → j < st → isB (C j) = true) → st < p + F → f_X9_step_L0 F a = some (.inr ((), am_wI a 4 2 (nI st))) := by
  intro F
  induction F with
  | zero => intro p a h e h1 h2 h3; omega
  | succ F ih =>
    intro p a h e h1 h2 h3
    have hn := h.2.1
    have a1 := at_C h (show p ≤ 4000 by omega)
    by_cases q : p < st
    · have d1 : nI p < nI n := nI_lt (by omega) (by omega)
      rw [if_pos (by omega)] at a1
      have b1 := bl_i a (C p) (h.2.2 p (by omega)).2
      rw [h2 p (Nat.le_refl _) q] at b1
      have d4 : nI p + 1 = nI (p + 1) := nI_1 p
      have g := ih (p + 1) (am_wI a 4 2 (nI (p + 1))) (h.on (L := [4]) ((rw_on.refl _ _).w (by simp) _ _) (by simp) (by simp)) (by simp [rl_wI]) (by omega) (fun j q1 q2 => h2 j (by omega) q2) (by omega)
      rw [wI_two] at g
      rw [f_X9_step_L0, e, h.1, if_pos d1, bd_some a1, bd_some b1, show mc_i true = 1 from rfl, if_neg (by decide), e, d4]
      exact g
    · have ep : p = st := by omega
      subst ep
      rw [wI_same a e]
      by_cases q2 : p < n
      · have d1 : nI p < nI n := nI_lt (by omega) (by omega)
        rw [if_pos q2] at a1
        have b1 := bl_i a (C p) (h.2.2 p q2).2
        rw [hs q2] at b1
        rw [f_X9_step_L0, e, h.1, if_pos d1, bd_some a1, bd_some b1, show mc_i false = 0 from rfl, if_pos rfl]
      · have d1 : ¬ nI p < nI n := nI_nlt (by omega) (by omega)
        rw [f_X9_step_L0, e, h.1, if_neg d1]
theorem wr_C {st : Nat} (hst : st ≤ n) (hs : st < n → isL (C st) = false) : ∀ (F p : Nat) (a : am_S), tp a C n → a.1 4 2 = nI p → p ≤ st → (∀ j, p ≤ j → j < st → isL (C j) = true) → st < p + F → f_X9_word_L0 F a = some (.inr ((), am_wI a 4 2 (nI st))) := by
  intro F
  induction F with
  | zero => intro p a h e h1 h2 h3; omega
  | succ F ih =>
    intro p a h e h1 h2 h3
    have hn := h.2.1
    have a1 := at_C h (show p ≤ 4000 by omega)
    by_cases q : p < st
    · have d1 : nI p < nI n := nI_lt (by omega) (by omega)
      rw [if_pos (by omega)] at a1
      have b1 := lt_i a (C p) (h.2.2 p (by omega)).2
      rw [h2 p (Nat.le_refl _) q] at b1
      have d4 : nI p + 1 = nI (p + 1) := nI_1 p
      have g := ih (p + 1) (am_wI a 4 2 (nI (p + 1))) (h.on (L := [4]) ((rw_on.refl _ _).w (by simp) _ _) (by simp) (by simp)) (by simp [rl_wI]) (by omega) (fun j q1 q2 => h2 j (by omega) q2) (by omega)
      rw [wI_two] at g
      rw [f_X9_word_L0, e, h.1, if_pos d1, bd_some a1, bd_some b1, show mc_i true = 1 from rfl, if_neg (by decide), e, d4]
      exact g
    · have ep : p = st := by omega
      subst ep
      rw [wI_same a e]
      by_cases q2 : p < n
      · have d1 : nI p < nI n := nI_lt (by omega) (by omega)
        rw [if_pos q2] at a1
        have b1 := lt_i a (C p) (h.2.2 p q2).2
        rw [hs q2] at b1
        rw [f_X9_word_L0, e, h.1, if_pos d1, bd_some a1, bd_some b1, show mc_i false = 0 from rfl, if_pos rfl]
      · have d1 : ¬ nI p < nI n := nI_nlt (by omega) (by omega)
        rw [f_X9_word_L0, e, h.1, if_neg d1]
theorem nu_C {s0 st : Nat} (hst : st ≤ n) (hs : st < n → isD (C st) = false) : ∀ (F p : Nat) (a : am_S), tp a C n → a.1 4 2 = nI p → s0 ≤ p → a.1 4 4 = nvI C s0 (p - s0) → p ≤ st → (∀ j, p ≤ j → j < st → isD (C j) = true) → st < p + F → f_X9_number_L0 F a = some (.inr ((), am_wI (am_wI a 4 4 (nvI C s0 (st - s0))) 4 2 (nI st))) := by
  intro F
  induction F with
  | zero => intro p a h e hp ev h1 h2 h3; omega
  | succ F ih =>
    intro p a h e hp ev h1 h2 h3
    have hn := h.2.1
    have a1 := at_C h (show p ≤ 4000 by omega)
    by_cases q : p < st
    · have d1 : nI p < nI n := nI_lt (by omega) (by omega)
      rw [if_pos (by omega)] at a1
      have b1 := dg_i a (C p) (h.2.2 p (by omega)).2
      rw [h2 p (Nat.le_refl _) q] at b1
      have d4 : nI p + 1 = nI (p + 1) := nI_1 p
      have ev' : nvI C s0 (p - s0) * 10 + nI (C p) - 48 = nvI C s0 (p + 1 - s0) := by
        rw [show p + 1 - s0 = (p - s0) + 1 by omega, nvI, show s0 + (p - s0) = p by omega]
      have g := ih (p + 1) (am_wI (am_wI a 4 4 (nvI C s0 (p + 1 - s0))) 4 2 (nI (p + 1))) (h.on (L := [4]) (((rw_on.refl _ _).w (by simp) _ _).w (by simp) _ _) (by simp) (by simp)) (by simp [rl_wI]) (by omega) (by simp [rl_wI]) (by omega) (fun j q1 q2 => h2 j (by omega) q2) (by omega)
      rw [wI_comm (c := 4) (k := 2) (c' := 4) (k' := 4) _ _ _ (by omega), wI_two, wI_two] at g
      rw [f_X9_number_L0, e, h.1, if_pos d1, bd_some a1, bd_some b1, show mc_i true = 1 from rfl, if_neg (by decide), e, bd_some a1, e, d4, ev, ev']
      exact g
    · have ep : p = st := by omega
      subst ep
      rw [wI_same a ev, wI_same a e]
      by_cases q2 : p < n
      · have d1 : nI p < nI n := nI_lt (by omega) (by omega)
        rw [if_pos q2] at a1
        have b1 := dg_i a (C p) (h.2.2 p q2).2
        rw [hs q2] at b1
        rw [f_X9_number_L0, e, h.1, if_pos d1, bd_some a1, bd_some b1, show mc_i false = 0 from rfl, if_pos rfl]
      · have d1 : ¬ nI p < nI n := nI_nlt (by omega) (by omega)
        rw [f_X9_number_L0, e, h.1, if_neg d1]
/-- spells -/
theorem sp_L {st m b : Nat} (hb : b < 14) (hsm : st + m ≤ n) (hm : m = (wd b).length) {a : am_S} (h : tp a C n) (e1 : a.1 4 1 = nI st) : ∀ (F i : Nat), i ≤ m → m < i + F → (f_X9_spells_L20 b F (nI i) a = some (.inl (0, a)) ∧ ∃ j, j < m ∧ C (st + j) ≠ (wd b).getD j 0 + 96) ∨ (f_X9_spells_L20 b F (nI i) a = some (.inr ((), a)) ∧ ∀ j, i ≤ j → j < m → C (st + j) = (wd b).getD j 0 + 96) := by
  obtain ⟨w1, w2, w3, w4⟩ := wd_txt b hb
  intro F
  induction F with
  | zero => intro i h1 h2; omega
  | succ F ih =>
    intro i h1 h2
    have hn := h.2.1
    have ln : f_J_length b a = some (nI m, a) := by rw [f_J_length, w1, hm]
    by_cases q : i < m
    · have d1 : nI i < nI m := nI_lt q (by omega)
      have d2 : am_in (nI i) (am_txt b).length = true := rl_nin (by omega) (by omega)
      have d3 : (nI i).toNatClampNeg = i := nI_clamp (by omega)
      have d4 : nI i + 1 = nI (i + 1) := nI_1 i
      have d5 : nI st + nI i = nI (st + i) := nI_add st i
      obtain ⟨w5, w6, w7⟩ := w4 i (by omega)
      have ca : f_J_charAt b a (nI i) = some (nI ((wd b).getD i 0 + 96), a) := by rw [f_J_charAt, rl_gu d2, d3, w5]
      have a1 := at_C h (show st + i ≤ 4000 by omega)
      rw [if_pos (by omega)] at a1
      have hc := (h.2.2 (st + i) (by omega)).2
      by_cases q2 : C (st + i) = (wd b).getD i 0 + 96
      · have st1 : f_X9_spells_L20 b (F + 1) (nI i) a = f_X9_spells_L20 b F (nI (i + 1)) a := by
          rw [f_X9_spells_L20, bd_some ln, if_pos d1, bd_some ca, e1, d5, bd_some a1, q2, if_pos rfl, d4]
        rw [st1]
        rcases ih (i + 1) (by omega) (by omega) with g | ⟨g1, g2⟩
        · exact Or.inl g
        · refine Or.inr ⟨g1, fun j q3 q4 => ?_⟩
          by_cases e : j = i
          · subst e; exact q2
          · exact g2 j (by omega) q4
      · have q3 : ¬ nI ((wd b).getD i 0 + 96) = nI (C (st + i)) := nI_ne (by omega) (by omega) (by omega)
        exact Or.inl ⟨by rw [f_X9_spells_L20, bd_some ln, if_pos d1, bd_some ca, e1, d5, bd_some a1, if_neg q3], i, q, q2⟩
    · have d1 : ¬ nI i < nI m := nI_nlt (by omega) (by omega)
      exact Or.inr ⟨by rw [f_X9_spells_L20, bd_some ln, if_neg d1], fun j q1 q2 => by omega⟩
theorem sp_C {st m b : Nat} (hb : b < 14) (hsm : st + m ≤ n) {a : am_S} (h : tp a C n) (e1 : a.1 4 1 = nI st) (e2 : a.1 4 2 = nI (st + m)) : (wm C st m b ∧ f_X9_spells b a = some (1, a)) ∨ (¬ wm C st m b ∧ f_X9_spells b a = some (0, a)) := by
  obtain ⟨w1, w2, w3, w4⟩ := wd_txt b hb
  have hn := h.2.1
  have ln : f_J_length b a = some (nI (wd b).length, a) := by rw [f_J_length, w1]
  have d5 : nI (st + m) - nI st = nI m := by rw [pk_sub (by omega)]; congr 1; omega
  by_cases q : m = (wd b).length
  · have q1 : nI (wd b).length = nI m := by rw [q]
    rcases sp_L hb hsm q h e1 am_FU 0 (by omega) (by unfold am_FU; omega) with ⟨g1, j, g2, g3⟩ | ⟨g1, g2⟩
    · have g1 : f_X9_spells_L20 b am_FU 0 a = _ := g1
      exact Or.inr ⟨fun z => g3 (z.2 j g2), by rw [f_X9_spells, bd_some ln, e1, e2, d5, if_pos q1, lp_l g1]⟩
    · have g1 : f_X9_spells_L20 b am_FU 0 a = _ := g1
      exact Or.inl ⟨⟨q, fun j hj => g2 j (by omega) hj⟩, by rw [f_X9_spells, bd_some ln, e1, e2, d5, if_pos q1, lp_r g1]⟩
  · have q1 : ¬ nI (wd b).length = nI m := nI_ne (by omega) (by omega) (by omega)
    exact Or.inr ⟨fun z => q z.1, by rw [f_X9_spells, bd_some ln, e1, e2, d5, if_neg q1]⟩
end CHR
