/-! ===== what an expression says: tokens on one side, codes on the other ===== -/
def up1 (f : Nat → Int32) (k : Nat) (x : Int32) : Nat → Int32 := fun j => if j = k then x else f j
theorem up1_s {f : Nat → Int32} {k : Nat} {x : Int32} : up1 f k x k = x := by simp [up1]
theorem up1_n {f : Nat → Int32} {k j : Nat} {x : Int32} (h : j ≠ k) : up1 f k x j = f j := by simp [up1, h]
def isU (t : Int32) : Prop := t = 2 ∨ ∃ w : Nat, w < 8 ∧ t = nI (19 + w)
def isE (t : Int32) : Prop := t = 10 ∨ t = 11 ∨ t = 12 ∨ t = 17 ∨ t = 18 ∨ isU t
def isT (t : Int32) : Prop := t = 6 ∨ t = 7 ∨ t = 8 ∨ t = 9 ∨ t = 13 ∨ t = 14 ∨ t = 15 ∨ t = 16
theorem isU_n {t : Int32} (h : isU t) : ¬ t = 10 ∧ ¬ t = 11 ∧ ¬ t = 12 ∧ ¬ t = 13 ∧ ¬ t = 14 ∧ ¬ t = 15 ∧ ¬ t = 16 ∧ ¬ t = 17 ∧ ¬ t = 18 := by
  rcases h with h | ⟨w, h1, h2⟩
  · subst h; decide
  · subst h2
    revert h1
    revert w
    decide +kernel
def c_fac (t x : Int32) (v : Nat → Int32) : Int32 := if t = 2 then x else v (t - 19).toNatClampNeg
/-- level, sums, parts -/
def c_step (t x : Int32) (v : Nat → Int32) (q : Nat × (Nat → Int32) × (Nat → Int32)) : Nat × (Nat → Int32) × (Nat → Int32) :=
  if t = 10 then (q.1, up1 q.2.1 q.1 (q.2.1 q.1 + q.2.2 q.1), up1 q.2.2 q.1 1)
  else if t = 11 then (q.1, up1 q.2.1 q.1 (q.2.1 q.1 + q.2.2 q.1), up1 q.2.2 q.1 (-1))
  else if t = 12 then q
  else if t = 17 then (q.1 + 1, up1 q.2.1 (q.1 + 1) 0, up1 q.2.2 (q.1 + 1) 1)
  else if t = 18 then (q.1 - 1, q.2.1, up1 q.2.2 (q.1 - 1) (q.2.2 (q.1 - 1) * (q.2.1 q.1 + q.2.2 q.1)))
  else (q.1, q.2.1, up1 q.2.2 q.1 (q.2.2 q.1 * c_fac t x v))
def c_run (tk vl v : Nat → Int32) (i : Nat) : Nat → Nat × (Nat → Int32) × (Nat → Int32)
  | 0 => (0, up1 (fun _ => 0) 0 0, up1 (fun _ => 0) 0 1)
  | n + 1 => c_step (tk (i + n)) (vl (i + n)) v (c_run tk vl v i n)
def lev (tk : Nat → Int32) (i : Nat) : Nat → Nat
  | 0 => 0
  | n + 1 => if tk (i + n) = 17 then lev tk i n + 1 else if tk (i + n) = 18 then lev tk i n - 1 else lev tk i n
theorem c_lev (tk vl v : Nat → Int32) (i n : Nat) : (c_run tk vl v i n).1 = lev tk i n := by
  induction n with
  | zero => rfl
  | succ n ih =>
    rw [c_run, lev, c_step]
    by_cases h1 : tk (i + n) = 10
    · rw [if_pos h1, if_neg (by rw [h1]; decide), if_neg (by rw [h1]; decide)]; exact ih
    rw [if_neg h1]
    by_cases h2 : tk (i + n) = 11
    · rw [if_pos h2, if_neg (by rw [h2]; decide), if_neg (by rw [h2]; decide)]; exact ih
    rw [if_neg h2]
    by_cases h3 : tk (i + n) = 12
    · rw [if_pos h3, if_neg (by rw [h3]; decide), if_neg (by rw [h3]; decide)]; exact ih
    rw [if_neg h3]
    by_cases h4 : tk (i + n) = 17
    · rw [if_pos h4, if_pos h4, ih]
    rw [if_neg h4, if_neg h4]
    by_cases h5 : tk (i + n) = 18
    · rw [if_pos h5, if_pos h5, ih]
    rw [if_neg h5, if_neg h5]
    exact ih
/-- the tokens from i on, n of them, are within an expression -/
def xC (tk : Nat → Int32) (i n : Nat) : Prop := ∀ m, m < n → isE (tk (i + m)) ∧ (tk (i + m) = 17 → lev tk i m < 6) ∧ (tk (i + m) = 18 → 0 < lev tk i m)
theorem lev_le {tk : Nat → Int32} {i n : Nat} (h : xC tk i n) : ∀ m, m ≤ n → lev tk i m ≤ 6 := by
  intro m
  induction m with
  | zero => intro _; exact Nat.zero_le _
  | succ m ih =>
    intro hm
    have := ih (by omega)
    obtain ⟨-, h2, -⟩ := h m (by omega)
    rw [lev]
    split
    · rename_i q; have := h2 q; omega
    · split <;> omega
def ag (a : am_S) (R : Nat) (q : Nat × (Nat → Int32) × (Nat → Int32)) : Prop := ∀ l, l ≤ q.1 → a.1 (R + 4) l = q.2.1 l ∧ a.1 (R + 5) l = q.2.2 l
theorem i_m19 : ∀ w, w < 8 → nI (19 + w) - 19 = nI w := by decide +kernel
theorem ev_step {R p L T : Nat} {t x : Int32} {n : Nat} {a : am_S} {q : Nat × (Nat → Int32) × (Nat → Int32)} (hR : R ≤ 11) (hq : q.1 = L) (hL : L ≤ 6) (hp : p < T) (hT : T ≤ 400) (e5 : a.1 R 5 = nI p) (e2 : a.1 R 2 = nI T) (et : a.1 (R + 2) p = t) (ex : a.1 (R + 3) p = x) (hE : isE t) (h17 : t = 17 → L < 6) (h18 : t = 18 → 0 < L) (hag : ag a R q) : ∃ a', f_X8_expression_L9 R (n + 1) (nI L) 1 a = f_X8_expression_L9 R n (nI (c_step t x (a.1 57) q).1) 1 a' ∧ ag a' R (c_step t x (a.1 57) q) ∧ a'.1 R 5 = nI (p + 1) ∧ rw_on [R, R + 4, R + 5] a' a ∧ ∀ k, k ≠ 5 → a'.1 R k = a.1 R k := by
  subst hq
  have d1 : nI p < nI T := nI_lt hp (by omega)
  have d2 : am_in (nI p) 400 = true := rl_nin (by decide) (by omega)
  have d3 : (nI p).toNatClampNeg = p := nI_clamp (by omega)
  have d4 : nI p + 1 = nI (p + 1) := nI_1 p
  have l2 : am_in (nI q.1) 7 = true := rl_nin (by decide) (by omega)
  have l3 : (nI q.1).toNatClampNeg = q.1 := nI_clamp (by omega)
  have g := hag q.1 (Nat.le_refl _)
  have n1 : R + 4 ≠ R + 5 := by omega
  have n2 : R + 5 ≠ R + 4 := by omega
  have n3 : R ≠ R + 4 := by omega
  have n4 : R ≠ R + 5 := by omega
  have n5 : R + 4 ≠ R := by omega
  have n6 : R + 5 ≠ R := by omega
  have z10 : ¬ (1 : Int32) = 0 := by decide
  have part : ∀ (y : Int32) (hy : t = 10 ∧ y = 1 ∨ t = 11 ∧ y = -1), ∃ a', f_X8_expression_L9 R (n + 1) (nI q.1) 1 a = f_X8_expression_L9 R n (nI q.1) 1 a' ∧ ag a' R (q.1, up1 q.2.1 q.1 (q.2.1 q.1 + q.2.2 q.1), up1 q.2.2 q.1 y) ∧ a'.1 R 5 = nI (p + 1) ∧ rw_on [R, R + 4, R + 5] a' a ∧ ∀ k, k ≠ 5 → a'.1 R k = a.1 R k := by
    intro y hy
    refine ⟨am_wI (am_wI (am_wI a (R + 4) q.1 (q.2.1 q.1 + q.2.2 q.1)) (R + 5) q.1 y) R 5 (nI (p + 1)), ?_, fun l hl => ?_, ?_, ((((rw_on.refl _ _).w (by simp) _ _).w (by simp) _ _).w (by simp) _ _), fun k hk => ?_⟩
    · rcases hy with ⟨h1, h2⟩ | ⟨h1, h2⟩
      · simp [f_X8_expression_L9, f_X8_beginPart, e5, e2, d1, d2, d3, et, h1, h2, am_bd, am_gu, am_jn, l2, l3, g.1, g.2, rl_wI, n3, n4, d4]
      · simp [f_X8_expression_L9, f_X8_beginPart, e5, e2, d1, d2, d3, et, h1, h2, am_bd, am_gu, am_jn, l2, l3, g.1, g.2, rl_wI, n3, n4, d4]
    · have := hag l hl
      by_cases e : l = q.1
      · subst e
        simp [rl_wI, n1, n2, n5, n6, up1]
      · simp [rl_wI, n1, n2, n5, n6, up1, e, this.1, this.2]
    · simp [rl_wI]
    · simp [rl_wI, hk, n3, n4]
  rcases hE with h | h | h | h | h | h
  · obtain ⟨a', g1, g2⟩ := part 1 (Or.inl ⟨h, rfl⟩)
    refine ⟨a', ?_, ?_⟩
    · rw [g1, c_step, if_pos h]
    · rw [c_step, if_pos h]; exact g2
  · obtain ⟨a', g1, g2⟩ := part (-1) (Or.inr ⟨h, rfl⟩)
    have h0 : ¬ t = 10 := by rw [h]; decide
    refine ⟨a', ?_, ?_⟩
    · rw [g1, c_step, if_neg h0, if_pos h]
    · rw [c_step, if_neg h0, if_pos h]; exact g2
  · have h0 : ¬ t = 10 := by rw [h]; decide
    have h1 : ¬ t = 11 := by rw [h]; decide
    rw [c_step, if_neg h0, if_neg h1, if_pos h]
    refine ⟨am_wI a R 5 (nI (p + 1)), ?_, fun l hl => ?_, by simp [rl_wI], (rw_on.refl _ _).w (by simp) _ _, fun k hk => by simp [rl_wI, hk]⟩
    · simp [f_X8_expression_L9, e5, e2, d1, d2, d3, et, h, am_bd, am_gu, am_jn, d4]
    · have := hag l hl
      simp [rl_wI, n5, n6, this.1, this.2]
  · have h0 : ¬ t = 10 := by rw [h]; decide
    have h1 : ¬ t = 11 := by rw [h]; decide
    have h2 : ¬ t = 12 := by rw [h]; decide
    rw [c_step, if_neg h0, if_neg h1, if_neg h2, if_pos h]
    have hl6 := h17 h
    have m1 : nI q.1 + 1 = nI (q.1 + 1) := nI_1 _
    have m2 : ¬ (6 : Int32) < nI (q.1 + 1) := nI_nlt (a := 6) (by omega) (by decide)
    have m3 : am_in (nI (q.1 + 1)) 7 = true := rl_nin (by decide) (by omega)
    have m4 : (nI (q.1 + 1)).toNatClampNeg = q.1 + 1 := nI_clamp (by omega)
    refine ⟨am_wI (am_wI (am_wI a (R + 4) (q.1 + 1) 0) (R + 5) (q.1 + 1) 1) R 5 (nI (p + 1)), ?_, fun l hl => ?_, by simp [rl_wI], ((((rw_on.refl _ _).w (by simp) _ _).w (by simp) _ _).w (by simp) _ _), fun k hk => by simp [rl_wI, hk, n3, n4]⟩
    · simp [f_X8_expression_L9, f_J_min, f_X8_beginSum, e5, e2, d1, d2, d3, et, h, am_bd, am_gu, am_jn, m1, m2, m3, m4, rl_wI, n3, n4, d4]
    · simp only at hl
      by_cases e : l = q.1 + 1
      · subst e
        simp [rl_wI, n1, n2, n5, n6, up1]
      · have := hag l (by omega)
        simp [rl_wI, n1, n2, n5, n6, up1, e, this.1, this.2]
  · have h0 : ¬ t = 10 := by rw [h]; decide
    have h1 : ¬ t = 11 := by rw [h]; decide
    have h2 : ¬ t = 12 := by rw [h]; decide
    have h3 : ¬ t = 17 := by rw [h]; decide
    rw [c_step, if_neg h0, if_neg h1, if_neg h2, if_neg h3, if_pos h]
    have hl0 := h18 h
    obtain ⟨L', hL'⟩ : ∃ L', q.1 = L' + 1 := ⟨q.1 - 1, by omega⟩
    have m1 : nI q.1 - 1 = nI (q.1 - 1) := by rw [hL']; exact nI_pred L'
    have m2 : ¬ nI (q.1 - 1) < 0 := nI_pos (by omega)
    have m3 : am_in (nI (q.1 - 1)) 7 = true := rl_nin (by decide) (by omega)
    have m4 : (nI (q.1 - 1)).toNatClampNeg = q.1 - 1 := nI_clamp (by omega)
    have g' := hag (q.1 - 1) (by omega)
    refine ⟨am_wI (am_wI a (R + 5) (q.1 - 1) (q.2.2 (q.1 - 1) * (q.2.1 q.1 + q.2.2 q.1))) R 5 (nI (p + 1)), ?_, fun l hl => ?_, by simp [rl_wI], (((rw_on.refl _ _).w (by simp) _ _).w (by simp) _ _), fun k hk => by simp [rl_wI, hk, n4]⟩
    · simp [f_X8_expression_L9, f_J_max, e5, e2, d1, d2, d3, et, h, am_bd, am_gu, am_jn, l2, l3, m1, m2, m3, m4, g.1, g.2, g'.2, rl_wI, n4, d4]
    · simp only at hl
      have := hag l (by omega)
      by_cases e : l = q.1 - 1
      · subst e
        simp [rl_wI, n1, n5, n6, up1, this.1]
      · simp [rl_wI, n1, n5, n6, up1, e, this.1, this.2]
  · obtain ⟨u0, u1, u2, u3, u4, u5, u6, u7, u8⟩ := isU_n h
    rw [c_step, if_neg u0, if_neg u1, if_neg u2, if_neg u7, if_neg u8]
    refine ⟨am_wI (am_wI a (R + 5) q.1 (q.2.2 q.1 * c_fac t x (a.1 57))) R 5 (nI (p + 1)), ?_, fun l hl => ?_, by simp [rl_wI], (((rw_on.refl _ _).w (by simp) _ _).w (by simp) _ _), fun k hk => by simp [rl_wI, hk, n4]⟩
    · have f1 : f_X8_isFactor a t = some (1, a) := by
        rcases h with h | ⟨w, w1, w2⟩
        · simp [f_X8_isFactor, h]
        · have y1 : ¬ t < 19 := by rw [w2]; exact nI_nlt (b := 19) (by omega) (by omega)
          simp [f_X8_isFactor, y1]
      have f2 : f_X8_factor R a (nI p) = some (c_fac t x (a.1 57), a) := by
        rcases h with h | ⟨w, w1, w2⟩
        · have y1 : (2 : Int32) - 19 < 0 := by decide
          simp [f_X8_factor, d2, d3, am_gu, am_jn, et, ex, h, c_fac, y1]
        · have y1 : t - 19 = nI w := by rw [w2]; exact i_m19 w w1
          have y2 : ¬ nI w < 0 := nI_pos (by omega)
          have y3 : nI w < 8 := nI_lt (b := 8) w1 (by decide)
          have y4 : am_in (nI w) 8 = true := rl_nin (by decide) w1
          have y5 : ¬ t = 2 := by rw [w2]; exact nI_ne (m := 2) (by omega) (by decide) (by omega)
          simp [f_X8_factor, d2, d3, am_gu, am_jn, et, c_fac, y1, y2, y3, y4, y5]
      simp [f_X8_expression_L9, e5, e2, d1, d2, d3, et, u0, u1, u2, u3, u4, u5, u6, u7, u8, am_bd, am_gu, am_jn, f1, f2, l2, l3, g.2, rl_wI, n4, d4]
    · simp only at hl
      have := hag l hl
      by_cases e : l = q.1
      · subst e
        simp [rl_wI, n1, n5, n6, up1, this.1]
      · simp [rl_wI, n1, n5, n6, up1, e, this.1, this.2]
theorem ev_end {R p T n : Nat} {t : Int32} {a : am_S} (hR : R ≤ 11) (hp : p < T) (hT : T ≤ 400) (e5 : a.1 R 5 = nI p) (e2 : a.1 R 2 = nI T) (et : a.1 (R + 2) p = t) (ht : isT t) : f_X8_expression_L9 R (n + 2) (nI 0) 1 a = some (.inr ((), am_wI (am_wI a (R + 5) 0 (a.1 (R + 5) 0 * 1)) R 5 (nI p))) := by
  have d1 : nI p < nI T := nI_lt hp (by omega)
  have d2 : am_in (nI p) 400 = true := rl_nin (by decide) (by omega)
  have d3 : (nI p).toNatClampNeg = p := nI_clamp (by omega)
  have l2 : am_in (nI 0) 7 = true := rl_nin (by decide) (by omega)
  have l3 : (nI 0).toNatClampNeg = 0 := nI_clamp (by omega)
  have n4 : R ≠ R + 5 := by omega
  rw [show n + 2 = (n + 1) + 1 from rfl]
  rcases ht with h | h | h | h | h | h | h | h <;> simp [f_X8_expression_L9, f_X8_isFactor, e5, e2, d1, d2, d3, et, h, am_bd, am_gu, am_jn, l2, l3, rl_wI, n4]
