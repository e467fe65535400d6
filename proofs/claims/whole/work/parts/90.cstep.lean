/-! ===== one step of reading, on the side of the tokens ===== -/
def gb (sd t : Nat) : Bool := if sd = 0 then t == 6 || t == 9 else if sd = 1 then decide (13 ≤ t) && decide (t ≤ 16) else t == 7 || t == 8 || t == 9
def goes (q sd L t : Nat) : Bool := if q = 0 then t == 3 || t == 4 || t == 5 else if q = 1 then t == 2 || t == 17 || decide (19 ≤ t) else t == 10 || t == 11 || t == 12 || (if 0 < L then t == 18 else gb sd t)
theorem gb_C (a : am_S) {sd t : Nat} (hs : sd < 3) (ht : t < 27) (e2 : a.1 3 2 = nI sd) : f_X6_goesOnBehindSide a (nI t) = some (mc_i (gb sd t), a) := by
  have key : ∀ sd, sd < 3 → ∀ t, t < 27 → (if nI sd = 0 then (if nI t = 6 then (1 : Int32) else if nI t = 9 then 1 else 0) else if nI sd = 1 then (if nI t = 13 then 1 else if nI t = 14 then 1 else if nI t = 15 then 1 else if nI t = 16 then 1 else 0) else if nI t = 7 then 1 else if nI t = 8 then 1 else if nI t = 9 then 1 else 0) = mc_i (gb sd t) := by decide +kernel
  rw [← key sd hs t ht, f_X6_goesOnBehindSide, e2]
  split
  · split
    · rfl
    · split <;> rfl
  · split
    · split
      · rfl
      · split
        · rfl
        · split
          · rfl
          · split <;> rfl
    · split
      · rfl
      · split
        · rfl
        · split <;> rfl
theorem go_C (a : am_S) {q sd L t : Nat} (hq : q < 3) (hs : sd < 3) (hL : L ≤ 6) (ht : t < 27) (e1 : a.1 3 1 = nI q) (e2 : a.1 3 2 = nI sd) (e3 : a.1 3 3 = nI L) : f_X6_goesOnWith a (nI t) = some (mc_i (goes q sd L t), a) := by
  have g := gb_C a hs ht e2
  have hg : ∀ x : Bool, decide (mc_i x &&& 1 = mc_i x) = true := by decide
  have hq' : q = 0 ∨ q = 1 ∨ q = 2 := by omega
  rcases hq' with e | e | e
  · subst e
    have key : ∀ t, t < 27 → (if nI t = 3 then (1 : Int32) else if nI t = 4 then 1 else if nI t = 5 then 1 else 0) = mc_i (goes 0 0 0 t) := by decide +kernel
    have k2 : goes 0 sd L t = goes 0 0 0 t := rfl
    rw [k2, ← key t ht, f_X6_goesOnWith, e1, if_pos (show nI 0 = 0 from rfl)]
    split
    · rfl
    · split
      · rfl
      · split <;> rfl
  · subst e
    have key : ∀ t, t < 27 → (if nI t = 2 then (1 : Int32) else if nI t = 17 then 1 else if nI t < 19 then 0 else 1) = mc_i (goes 1 0 0 t) := by decide +kernel
    have k2 : goes 1 sd L t = goes 1 0 0 t := rfl
    rw [k2, ← key t ht, f_X6_goesOnWith, e1, if_neg (show ¬ nI 1 = 0 by decide), if_pos (show nI 1 = 1 from rfl)]
    split
    · rfl
    · split
      · rfl
      · split <;> rfl
  · subst e
    have key : ∀ t, t < 27 → ∀ x : Bool, (if nI t = 10 then (1 : Int32) else if nI t = 11 then 1 else if nI t = 12 then 1 else mc_i x) = mc_i (t == 10 || t == 11 || t == 12 || x) := by decide +kernel
    have k2 : goes 2 sd L t = (t == 10 || t == 11 || t == 12 || (if 0 < L then t == 18 else gb sd t)) := rfl
    rw [k2, ← key t ht, f_X6_goesOnWith, e1, if_neg (show ¬ nI 2 = 0 by decide), if_neg (show ¬ nI 2 = 1 by decide), e3]
    split
    · rfl
    · split
      · rfl
      · split
        · rfl
        · by_cases hl : 0 < L
          · have z : (0 : Int32) < nI L := nI_lt (a := 0) hl (by omega)
            have k3 : ∀ t, t < 27 → (if nI t = 18 then (1 : Int32) else 0) = mc_i (t == 18) := by decide +kernel
            rw [if_pos z, if_pos hl, ← k3 t ht]
            split <;> rfl
          · have z : ¬ (0 : Int32) < nI L := nI_nlt (a := 0) (by omega) (by decide)
            rw [if_neg z, if_neg hl, bd_some g, hg]
            rfl
def mq (q t : Nat) : Nat := if t = 9 then 0 else if t = 17 ∨ t = 18 then q else if 3 ≤ t ∧ t ≤ 16 then 1 else 2
def ms (sd t : Nat) : Nat := if t = 3 ∨ t = 5 then 0 else if t = 4 ∨ t = 6 ∨ t = 7 ∨ t = 8 then 1 else if 13 ≤ t ∧ t ≤ 16 then 2 else sd
def ml (L t : Nat) : Nat := if t = 17 then L + 1 else if t = 18 then L - 1 else L
theorem mv_C (a : am_S) {q sd L t : Nat} (ht : t < 27) (h18 : t = 18 → 0 < L) (hL : L ≤ 6) (e1 : a.1 3 1 = nI q) (e2 : a.1 3 2 = nI sd) (e3 : a.1 3 3 = nI L) : ∃ a', f_X6_moveBehind a (nI t) = some ((), a') ∧ a'.1 3 1 = nI (mq q t) ∧ a'.1 3 2 = nI (ms sd t) ∧ a'.1 3 3 = nI (ml L t) ∧ rw_on [3] a' a := by
  have two : ∀ (x y : Int32) (t : Nat), f_X6_moveBehind a (nI t) = some ((), am_wI (am_wI a 3 2 x) 3 1 y) → nI (ms sd t) = x → nI (mq q t) = y → ml L t = L → ∃ a', f_X6_moveBehind a (nI t) = some ((), a') ∧ a'.1 3 1 = nI (mq q t) ∧ a'.1 3 2 = nI (ms sd t) ∧ a'.1 3 3 = nI (ml L t) ∧ rw_on [3] a' a := by
    intro x y t p1 p2 p3 p4
    exact ⟨_, p1, by simp [rl_wI, p3], by simp [rl_wI, p2], by rw [p4]; simp [rl_wI]; exact e3, ((rw_on.refl _ _).w (by simp) _ _).w (by simp) _ _⟩
  have one : ∀ (y : Int32) (t : Nat), f_X6_moveBehind a (nI t) = some ((), am_wI a 3 1 y) → ms sd t = sd → nI (mq q t) = y → ml L t = L → ∃ a', f_X6_moveBehind a (nI t) = some ((), a') ∧ a'.1 3 1 = nI (mq q t) ∧ a'.1 3 2 = nI (ms sd t) ∧ a'.1 3 3 = nI (ml L t) ∧ rw_on [3] a' a := by
    intro y t p1 p2 p3 p4
    exact ⟨_, p1, by simp [rl_wI, p3], by rw [p2]; simp [rl_wI]; exact e2, by rw [p4]; simp [rl_wI]; exact e3, (rw_on.refl _ _).w (by simp) _ _⟩
  match t, ht with
  | 0, _ => exact one 2 0 rfl rfl rfl rfl
  | 1, _ => exact one 2 1 rfl rfl rfl rfl
  | 2, _ => exact one 2 2 rfl rfl rfl rfl
  | 3, _ => exact two 0 1 3 rfl rfl rfl rfl
  | 4, _ => exact two 1 1 4 rfl rfl rfl rfl
  | 5, _ => exact two 0 1 5 rfl rfl rfl rfl
  | 6, _ => exact two 1 1 6 rfl rfl rfl rfl
  | 7, _ => exact two 1 1 7 rfl rfl rfl rfl
  | 8, _ => exact two 1 1 8 rfl rfl rfl rfl
  | 9, _ => exact one 0 9 rfl rfl rfl rfl
  | 10, _ => exact one 1 10 rfl rfl rfl rfl
  | 11, _ => exact one 1 11 rfl rfl rfl rfl
  | 12, _ => exact one 1 12 rfl rfl rfl rfl
  | 13, _ => exact two 2 1 13 rfl rfl rfl rfl
  | 14, _ => exact two 2 1 14 rfl rfl rfl rfl
  | 15, _ => exact two 2 1 15 rfl rfl rfl rfl
  | 16, _ => exact two 2 1 16 rfl rfl rfl rfl
  | 17, _ =>
    have d : nI L + 1 = nI (L + 1) := nI_1 L
    have p1 : f_X6_moveBehind a (nI 17) = some ((), am_wI a 3 3 (a.1 3 3 + 1)) := rfl
    rw [e3, d] at p1
    exact ⟨_, p1, by simp [rl_wI]; exact e1, by simp [rl_wI]; exact e2, by simp [rl_wI]; rfl, (rw_on.refl _ _).w (by simp) _ _⟩
  | 18, _ =>
    have hl := h18 rfl
    obtain ⟨L', hL'⟩ : ∃ L', L = L' + 1 := ⟨L - 1, by omega⟩
    have d : nI L - 1 = nI (L - 1) := by rw [hL']; exact nI_pred L'
    have p1 : f_X6_moveBehind a (nI 18) = some ((), am_wI a 3 3 (a.1 3 3 - 1)) := rfl
    rw [e3, d] at p1
    exact ⟨_, p1, by simp [rl_wI]; exact e1, by simp [rl_wI]; exact e2, by simp [rl_wI]; rfl, (rw_on.refl _ _).w (by simp) _ _⟩
  | 19, _ => exact one 2 19 rfl rfl rfl rfl
  | 20, _ => exact one 2 20 rfl rfl rfl rfl
  | 21, _ => exact one 2 21 rfl rfl rfl rfl
  | 22, _ => exact one 2 22 rfl rfl rfl rfl
  | 23, _ => exact one 2 23 rfl rfl rfl rfl
  | 24, _ => exact one 2 24 rfl rfl rfl rfl
  | 25, _ => exact one 2 25 rfl rfl rfl rfl
  | 26, _ => exact one 2 26 rfl rfl rfl rfl
  | _ + 27, h => exact absurd h (by omega)
theorem cm_lt : ∀ k, k < 34 → cm k < 27 := by decide
theorem cm_0 : ∀ k, k < 34 → (cm k = 0 ↔ k = 0) := by decide
def cA (D : Nat) (a' a : am_S) : Prop := rw_on [3, 4, D, D + 1, D + 2, D + 3] a' a
section STEP
variable {C : Nat → Nat} {n : Nat} {K : Nat → Nat} {V : Nat → Int32} {P X : Nat → Nat} {D T : Nat}
def PS (D : Nat) (C : Nat → Nat) (n : Nat) (K : Nat → Nat) (V : Nat → Int32) (X : Nat → Nat) (a : am_S) (i q sd L N : Nat) : Prop := tp a C n ∧ a.1 4 2 = nI (X i) ∧ a.1 3 1 = nI q ∧ a.1 3 2 = nI sd ∧ a.1 3 3 = nI L ∧ a.1 D 0 = nI N ∧ a.1 D 2 = nI i ∧ ∀ j, j < i → a.1 (D + 2) j = nI (cm (K j)) ∧ (K j = 2 → a.1 (D + 3) j = V j)
def TT (C : Nat → Nat) (n T : Nat) (K : Nat → Nat) (V : Nat → Int32) (P X : Nat → Nat) : Prop := ∀ s, s < T → TA C n (X s) (K s) (V s) (P s) (X (s + 1)) ∧ K s < 34
theorem cs_head (hD : D = 5 ∨ D = 11) (hT : TT C n T K V P X) {a : am_S} {i q sd L N : Nat} (h : PS D C n K V X a i q sd L N) (hi : i < T) (hi4 : i ≤ 400) (hq : q < 3) (hs : sd < 3) (hL : L ≤ 6) (F : Nat) : ∃ a1, f_X9_step a = some ((), a1) ∧ rw_on [4] a1 a ∧ a1.1 4 1 = nI (P i) ∧ a1.1 4 2 = nI (X (i + 1)) ∧ a1.1 4 3 = nI (cm (K i)) ∧ (K i = 2 → a1.1 4 4 = V i) ∧ (q = 0 ∧ K i = 0 → f_X6_parseInto_L23 D (F + 1) (nI i) a = some (.inl (0, a1))) ∧ (¬ (q = 0 ∧ K i = 0) → f_X6_parseInto_L23 D (F + 1) (nI i) a = (if mc_i (goes q sd L (cm (K i))) = 0 then (some (.inl ((1), a1))) else (am_bd (f_X6_lacksRoomFor D a1 (nI (cm (K i)))) (fun v71 s71 => if v71 = 0 then (am_jn (fun (p90 : am_S) => am_bd (f_X8_addToken D p90 (nI (cm (K i))) (p90.1 4 4)) (fun (_ : Unit) s99 => am_bd (f_X6_moveBehind s99 (nI (cm (K i)))) (fun (_ : Unit) s104 => f_X6_parseInto_L23 D F (nI (i + 1)) s104))) (fun j90 => if (s71.1 3 1) = 0 then (am_bd (f_X8_beginRule D s71) (fun (_ : Unit) s87 => j90 s87)) else (j90 s71))) else (some (.inl ((2), s71))))))) := by
  obtain ⟨t1, t2⟩ := hT i hi
  obtain ⟨p1, p2, p3, p4, p5, p6, p7, p8⟩ := h
  obtain ⟨a1, s1, s2, s3, s4, s5, s6⟩ := sp_step p1 t1 p2
  have d0 : ¬ (400 : Int32) < nI i := nI_nlt (a := 400) (by omega) (by decide)
  have d4 : nI i + 1 = nI (i + 1) := nI_1 i
  have kt := cm_lt (K i) t2
  have z0 := cm_0 (K i) t2
  have f1 : a1.1 3 1 = nI q := by rw [(s6 3 (by simp)).1]; exact p3
  have f2 : a1.1 3 2 = nI sd := by rw [(s6 3 (by simp)).1]; exact p4
  have f3 : a1.1 3 3 = nI L := by rw [(s6 3 (by simp)).1]; exact p5
  have go := go_C a1 hq hs hL kt f1 f2 f3
  have ct : nI (cm (K i)) = 0 ↔ K i = 0 := by
    rw [show (0 : Int32) = nI 0 from rfl, nI_eq (by omega) (by omega)]
    exact z0
  have cq : nI q = 0 ↔ q = 0 := by
    rw [show (0 : Int32) = nI 0 from rfl, nI_eq (by omega) (by omega)]
  refine ⟨a1, s1, s6, s2, s3, s4, s5, fun hz => ?_, fun hz => ?_⟩
  · rw [f_X6_parseInto_L23, if_neg d0, bd_some s1]
    simp only [am_jn]
    rw [s4, if_pos (ct.mpr hz.2), f1, if_pos (cq.mpr hz.1)]
  · rw [f_X6_parseInto_L23, if_neg d0, bd_some s1]
    simp only [am_jn]
    rw [s4, f1, d4]
    by_cases q1 : K i = 0
    · rw [if_pos (ct.mpr q1), if_neg (fun z => hz ⟨cq.mp z, q1⟩), bd_some go]
    · rw [if_neg (fun z => q1 (ct.mp z)), bd_some go]
def lks (i q N t L : Nat) : Prop := i = 400 ∨ (q = 0 ∧ N = 20) ∨ (t = 17 ∧ L = 6)
theorem lk_C (a : am_S) {i q N t L : Nat} (hi : i ≤ 400) (hq : q < 3) (hN : N ≤ 20) (hL : L ≤ 6) (ht : t < 27) (e1 : a.1 3 1 = nI q) (e3 : a.1 3 3 = nI L) (e0 : a.1 D 0 = nI N) (e2 : a.1 D 2 = nI i) : (lks i q N t L ∧ f_X6_lacksRoomFor D a (nI t) = some (1, a)) ∨ (¬ lks i q N t L ∧ f_X6_lacksRoomFor D a (nI t) = some (0, a)) := by
  unfold f_X6_lacksRoomFor
  simp only [am_jn]
  rw [e2, e1, e0, e3]
  by_cases c1 : i = 400
  · have d : ¬ nI i < 400 := nI_nlt (b := 400) (by omega) (by omega)
    exact Or.inl ⟨Or.inl c1, by rw [if_neg d]⟩
  · have d : nI i < 400 := nI_lt (b := 400) (by omega) (by decide)
    rw [if_pos d]
    have cq : nI q = 0 ↔ q = 0 := by rw [show (0 : Int32) = nI 0 from rfl, nI_eq (by omega) (by omega)]
    have ct : nI t = 17 ↔ t = 17 := by rw [show (17 : Int32) = nI 17 from rfl, nI_eq (by omega) (by omega)]
    have tail : (lks i q N t L ∧ (if nI t = 17 then (if nI L < 6 then (some ((0 : Int32), a)) else (some ((1), a))) else (some ((0), a))) = some (1, a)) ∨ (¬ (t = 17 ∧ L = 6) ∧ (if nI t = 17 then (if nI L < 6 then (some ((0 : Int32), a)) else (some ((1), a))) else (some ((0), a))) = some (0, a)) := by
      by_cases c3 : t = 17
      · rw [if_pos (ct.mpr c3)]
        by_cases c4 : L = 6
        · have d6 : ¬ nI L < 6 := nI_nlt (b := 6) (by omega) (by omega)
          exact Or.inl ⟨Or.inr (Or.inr ⟨c3, c4⟩), by rw [if_neg d6]⟩
        · have d6 : nI L < 6 := nI_lt (b := 6) (by omega) (by decide)
          exact Or.inr ⟨fun z => c4 z.2, by rw [if_pos d6]⟩
      · exact Or.inr ⟨fun z => c3 z.1, by rw [if_neg (fun z => c3 (ct.mp z))]⟩
    by_cases c2 : q = 0
    · rw [if_pos (cq.mpr c2)]
      by_cases c5 : N = 20
      · have d20 : ¬ nI N < 20 := nI_nlt (b := 20) (by omega) (by omega)
        exact Or.inl ⟨Or.inr (Or.inl ⟨c2, c5⟩), by rw [if_neg d20]⟩
      · have d20 : nI N < 20 := nI_lt (b := 20) (by omega) (by decide)
        rw [if_pos d20]
        rcases tail with t | ⟨t1, t2⟩
        · exact Or.inl t
        · refine Or.inr ⟨fun z => ?_, t2⟩
          rcases z with z | z | z
          · exact c1 z
          · exact c5 z.2
          · exact t1 z
    · rw [if_neg (fun z => c2 (cq.mp z))]
      rcases tail with t | ⟨t1, t2⟩
      · exact Or.inl t
      · refine Or.inr ⟨fun z => ?_, t2⟩
        rcases z with z | z | z
        · exact c1 z
        · exact c2 z.1
        · exact t1 z
/-- the end, where a text may end -/
theorem cs_end (hD : D = 5 ∨ D = 11) (hT : TT C n T K V P X) {a : am_S} {i sd L N : Nat} (h : PS D C n K V X a i 0 sd L N) (hi : i < T) (hi4 : i ≤ 400) (hs : sd < 3) (hL : L ≤ 6) (F : Nat) (hK : K i = 0) : ∃ a', f_X6_parseInto_L23 D (F + 1) (nI i) a = some (.inl (0, a')) ∧ rw_on [4] a' a := by
  obtain ⟨a1, -, q2, -, -, -, -, q7, -⟩ := cs_head hD hT h hi hi4 (by decide) hs hL F
  exact ⟨a1, q7 ⟨rfl, hK⟩, q2⟩
/-- no text goes on so -/
theorem cs_bad (hD : D = 5 ∨ D = 11) (hT : TT C n T K V P X) {a : am_S} {i q sd L N : Nat} (h : PS D C n K V X a i q sd L N) (hi : i < T) (hi4 : i ≤ 400) (hq : q < 3) (hs : sd < 3) (hL : L ≤ 6) (F : Nat) (hK : ¬ (q = 0 ∧ K i = 0)) (hg : goes q sd L (cm (K i)) = false) : ∃ a', f_X6_parseInto_L23 D (F + 1) (nI i) a = some (.inl (1, a')) ∧ a'.1 4 1 = nI (P i) ∧ cA D a' a ∧ a'.1 3 2 = a.1 3 2 := by
  obtain ⟨a1, -, q2, q3, -, -, -, -, q8⟩ := cs_head hD hT h hi hi4 hq hs hL F
  refine ⟨a1, ?_, q3, q2.mono (by simp), by rw [(q2 3 (by simp)).1]⟩
  rw [q8 hK, hg, show mc_i false = 0 from rfl, if_pos rfl]
/-- no room -/
theorem cs_room (hD : D = 5 ∨ D = 11) (hT : TT C n T K V P X) {a : am_S} {i q sd L N : Nat} (h : PS D C n K V X a i q sd L N) (hi : i < T) (hi4 : i ≤ 400) (hq : q < 3) (hs : sd < 3) (hL : L ≤ 6) (hN : N ≤ 20) (F : Nat) (hg : goes q sd L (cm (K i)) = true) (hl : lks i q N (cm (K i)) L) : ∃ a', f_X6_parseInto_L23 D (F + 1) (nI i) a = some (.inl (2, a')) ∧ a'.1 4 1 = nI (P i) ∧ cA D a' a ∧ a'.1 3 2 = a.1 3 2 := by
  have hK : ¬ (q = 0 ∧ K i = 0) := by
    rintro ⟨z1, z2⟩
    rw [z1, z2] at hg
    cases hg
  obtain ⟨a1, -, q2, q3, -, -, -, -, q8⟩ := cs_head hD hT h hi hi4 hq hs hL F
  obtain ⟨p1, p2, p3, p4, p5, p6, p7, p8⟩ := h
  refine ⟨a1, ?_, q3, q2.mono (by simp), by rw [(q2 3 (by simp)).1]⟩
  have nD : D ∉ [4] := by simp; omega
  rcases lk_C (D := D) a1 hi4 hq hN hL (cm_lt _ (hT i hi).2) (by rw [(q2 3 (by simp)).1]; exact p3) (by rw [(q2 3 (by simp)).1]; exact p5) (by rw [(q2 D nD).1]; exact p6) (by rw [(q2 D nD).1]; exact p7) with ⟨-, z⟩ | ⟨z, -⟩
  · rw [q8 hK, hg, show mc_i true = 1 from rfl, if_neg (by decide), bd_some z, if_neg (by decide)]
  · exact absurd hl z
/-- the text goes on -/
theorem cs_go (hD : D = 5 ∨ D = 11) (hT : TT C n T K V P X) {a : am_S} {i q sd L N : Nat} (h : PS D C n K V X a i q sd L N) (hi : i < T) (hi4 : i ≤ 400) (hq : q < 3) (hs : sd < 3) (hL : L ≤ 6) (hN : N ≤ 20) (F : Nat) (hg : goes q sd L (cm (K i)) = true) (hl : ¬ lks i q N (cm (K i)) L) (h18 : cm (K i) = 18 → 0 < L) : ∃ a', f_X6_parseInto_L23 D (F + 1) (nI i) a = f_X6_parseInto_L23 D F (nI (i + 1)) a' ∧ PS D C n K V X a' (i + 1) (mq q (cm (K i))) (ms sd (cm (K i))) (ml L (cm (K i))) (if q = 0 then N + 1 else N) ∧ cA D a' a ∧ ∀ j, a'.1 (D + 1) j = if q = 0 ∧ j = N then nI i else a.1 (D + 1) j := by
  have hK : ¬ (q = 0 ∧ K i = 0) := by
    rintro ⟨z1, z2⟩
    rw [z1, z2] at hg
    cases hg
  obtain ⟨a1, -, q2, q3, q4, q5, q6, -, q8⟩ := cs_head hD hT h hi hi4 hq hs hL F
  obtain ⟨p1, p2, p3, p4, p5, p6, p7, p8⟩ := h
  have nD : ∀ x, x ≤ 3 → D + x ∉ [4] := by intro x _; simp; omega
  have f1 : a1.1 3 1 = nI q := by rw [(q2 3 (by simp)).1]; exact p3
  have f2 : a1.1 3 2 = nI sd := by rw [(q2 3 (by simp)).1]; exact p4
  have f3 : a1.1 3 3 = nI L := by rw [(q2 3 (by simp)).1]; exact p5
  have g0 : a1.1 D 0 = nI N := by rw [(q2 D (nD 0 (by omega))).1]; exact p6
  have g2 : a1.1 D 2 = nI i := by rw [(q2 D (nD 0 (by omega))).1]; exact p7
  have i400 : i < 400 := by
    apply Decidable.byContradiction
    intro z
    exact hl (Or.inl (by omega))
  have kt := cm_lt _ (hT i hi).2
  have cq : nI q = 0 ↔ q = 0 := by rw [show (0 : Int32) = nI 0 from rfl, nI_eq (by omega) (by omega)]
  rcases lk_C (D := D) a1 hi4 hq hN hL kt f1 f3 g0 g2 with ⟨z, -⟩ | ⟨-, z⟩
  · exact absurd z hl
  -- a rule begins
  obtain ⟨a2, b1, b2, b3, b4, b5, b6, b7⟩ : ∃ a2, (if (a1.1 3 1) = 0 then (am_bd (f_X8_beginRule D a1) (fun (_ : Unit) s87 => (fun (p90 : am_S) => am_bd (f_X8_addToken D p90 (nI (cm (K i))) (p90.1 4 4)) (fun (_ : Unit) s99 => am_bd (f_X6_moveBehind s99 (nI (cm (K i)))) (fun (_ : Unit) s104 => f_X6_parseInto_L23 D F (nI (i + 1)) s104))) s87)) else ((fun (p90 : am_S) => am_bd (f_X8_addToken D p90 (nI (cm (K i))) (p90.1 4 4)) (fun (_ : Unit) s99 => am_bd (f_X6_moveBehind s99 (nI (cm (K i)))) (fun (_ : Unit) s104 => f_X6_parseInto_L23 D F (nI (i + 1)) s104))) a1)) = (fun (p90 : am_S) => am_bd (f_X8_addToken D p90 (nI (cm (K i))) (p90.1 4 4)) (fun (_ : Unit) s99 => am_bd (f_X6_moveBehind s99 (nI (cm (K i)))) (fun (_ : Unit) s104 => f_X6_parseInto_L23 D F (nI (i + 1)) s104))) a2 ∧ a2.1 D 0 = nI (if q = 0 then N + 1 else N) ∧ a2.1 D 2 = nI i ∧ rw_on [D, D + 1] a2 a1 ∧ (∀ j, a2.1 (D + 1) j = if q = 0 ∧ j = N then nI i else a1.1 (D + 1) j) ∧ a2.1 4 = a1.1 4 ∧ a2.1 3 = a1.1 3 := by
    by_cases c : q = 0
    · have hN20 : N < 20 := by
        apply Decidable.byContradiction
        intro y
        exact hl (Or.inr (Or.inl ⟨c, by omega⟩))
      have d20 : nI N < 20 := nI_lt (b := 20) hN20 (by decide)
      have n2 : am_in (nI N) 20 = true := rl_nin (by decide) hN20
      have n3 : (nI N).toNatClampNeg = N := nI_clamp (by omega)
      have n4 : nI N + 1 = nI (N + 1) := nI_1 N
      have br : f_X8_beginRule D a1 = some ((), am_wI (am_wI a1 (D + 1) N (nI i)) D 0 (nI (N + 1))) := by
        rw [f_X8_beginRule, g0, if_pos d20, rl_gu n2, n3, g2, n4]
      have o : rw_on [D, D + 1] (am_wI (am_wI a1 (D + 1) N (nI i)) D 0 (nI (N + 1))) a1 := ((rw_on.refl _ _).w (by simp) _ _).w (by simp) _ _
      refine ⟨am_wI (am_wI a1 (D + 1) N (nI i)) D 0 (nI (N + 1)), ?_, ?_, ?_, o, fun j => ?_, (o 4 (by simp; omega)).1, (o 3 (by simp; omega)).1⟩
      · rw [f1, if_pos (cq.mpr c), bd_some br]
      · rw [if_pos c]; simp [rl_wI]
      · simp [rl_wI]; exact g2
      · simp [rl_wI, c]
    · refine ⟨a1, ?_, ?_, g2, rw_on.refl _ _, fun j => ?_, rfl, rfl⟩
      · rw [f1, if_neg (fun y => c (cq.mp y))]
      · rw [if_neg c]; exact g0
      · rw [if_neg (fun y => c y.1)]
  -- the token is added
  have t1 : nI i < 400 := nI_lt (b := 400) i400 (by decide)
  have t2 : am_in (nI i) 400 = true := rl_nin (by decide) i400
  have t3 : (nI i).toNatClampNeg = i := nI_clamp (by omega)
  have t4 : nI i + 1 = nI (i + 1) := nI_1 i
  generalize ha3 : am_wI (am_wI (am_wI a2 (D + 2) i (nI (cm (K i)))) (D + 3) i (a2.1 4 4)) D 2 (nI (i + 1)) = a3
  have ad : f_X8_addToken D a2 (nI (cm (K i))) (a2.1 4 4) = some ((), a3) := by
    rw [f_X8_addToken, b3, if_pos t1, rl_gu t2, rl_gu t2, t3, t4, ha3]
  have o3 : rw_on [D, D + 2, D + 3] a3 a2 := by rw [← ha3]; exact (((rw_on.refl _ _).w (by simp) _ _).w (by simp) _ _).w (by simp) _ _
  have z30 : a3.1 D 0 = a2.1 D 0 := by rw [← ha3]; simp [rl_wI]
  have z32 : a3.1 D 2 = nI (i + 1) := by rw [← ha3]; simp [rl_wI]
  have zt : ∀ j, a3.1 (D + 2) j = if j = i then nI (cm (K i)) else a2.1 (D + 2) j := by intro j; rw [← ha3]; simp [rl_wI]
  have zv : ∀ j, a3.1 (D + 3) j = if j = i then a2.1 4 4 else a2.1 (D + 3) j := by intro j; rw [← ha3]; simp [rl_wI]
  have e33 : a3.1 3 = a1.1 3 := by rw [(o3 3 (by simp; omega)).1]; exact b7
  obtain ⟨a4, m1, m2, m3, m4, m5⟩ := mv_C a3 (q := q) (sd := sd) (L := L) kt h18 hL (by rw [e33]; exact f1) (by rw [e33]; exact f2) (by rw [e33]; exact f3)
  have oo : rw_on [3, D, D + 1, D + 2, D + 3] a4 a1 := (m5.mono (by simp)).trans ((o3.mono (by simp)).trans (b4.mono (by simp)))
  have ooA : cA D a4 a := (oo.mono (by simp)).trans (q2.mono (by simp))
  refine ⟨a4, ?_, ⟨p1.on ooA (by simp; omega) (by simp; omega), ?_, m2, m3, m4, ?_, ?_, fun j hj => ?_⟩, ooA, fun j => ?_⟩
  · rw [q8 hK, hg, show mc_i true = 1 from rfl, if_neg (by decide), bd_some z, if_pos rfl]
    simp only [am_jn]
    refine b1.trans ?_
    show am_bd (f_X8_addToken D a2 (nI (cm (K i))) (a2.1 4 4)) _ = _
    rw [bd_some ad, bd_some m1]
  · rw [(oo 4 (by simp; omega)).1]; exact q4
  · rw [(m5 D (by simp; omega)).1, z30]; exact b2
  · rw [(m5 D (by simp; omega)).1]; exact z32
  · rw [(m5 (D + 2) (by simp; omega)).1, (m5 (D + 3) (by simp; omega)).1, zt, zv]
    by_cases e : j = i
    · rw [if_pos e, if_pos e, e]
      refine ⟨rfl, fun y => ?_⟩
      rw [b6]; exact q6 y
    · rw [if_neg e, if_neg e, (b4 (D + 2) (by simp)).1, (b4 (D + 3) (by simp)).1, (q2 (D + 2) (nD 2 (by omega))).1, (q2 (D + 3) (nD 3 (by omega))).1]
      exact p8 j (by omega)
  · rw [(m5 (D + 1) (by simp; omega)).1, (o3 (D + 1) (by simp)).1, b5, (q2 (D + 1) (nD 1 (by omega))).1]
end STEP
