/-! ===== an expression is read on both sides ===== -/
/-- behind a unit and its brackets -/
def exM (n : Nat) (x1 : Int32) (s200 : am_S) : Option ((Unit × am_S) ⊕ (Unit × am_S)) := am_bd (f_X12_is s200 (8)) (fun v252 s252 => am_jn (fun (p281 : Int32 × am_S) => if p281.1 = 0 then (am_jn (fun (p299 : am_S) => am_bd (f_X12_comesOut p299 (0)) (fun (_ : Unit) s301 => some (.inl ((), s301)))) (fun j299 => if x1 < (p281.2.1 58 12) then (am_bd (f_X12_fail p281.2 (1)) (fun (_ : Unit) s296 => j299 s296)) else (j299 p281.2))) else (am_gu (am_in (p281.2.1 58 11) 403) (am_jn (fun (p329 : Int32 × am_S) => am_bd (f_X12_comesOut p329.2 p329.1) (fun (_ : Unit) s329 => am_gu (am_in (s329.1 58 36) 48) (am_bd (f_X12_next (am_wI (am_wI s329 80 (Int32.toNatClampNeg (s329.1 58 36)) (p281.2.1 61 (Int32.toNatClampNeg (p281.2.1 58 11)))) 58 36 ((s329.1 58 36) + 1))) (fun (_ : Unit) s354 => f_X12_expression_L12 n x1 p281.1 s354)))) (fun j329 => if (p281.2.1 61 (Int32.toNatClampNeg (p281.2.1 58 11))) = 10 then (j329 (1, p281.2)) else (j329 (0, p281.2)))))) (fun j281 => am_jn (fun (p276 : am_S) => j281 (1, p276)) (fun j276 => if v252 = 0 then (am_bd (f_X12_is s252 (9)) (fun v261 s261 => if v261 = 0 then (am_bd (f_X12_is s261 (10)) (fun v270 s270 => if v270 = 0 then (j281 (0, s270)) else (j276 s270))) else (j276 s261))) else (j276 s252))))
def exT (n : Nat) (x1 : Int32) (s197 : am_S) : Option ((Unit × am_S) ⊕ (Unit × am_S)) := am_lp Sum.inl (f_X12_expression_L200 am_FU x1 s197) (fun (_ : Unit) s200 => exM n x1 s200)
theorem exM_no {n : Nat} {b : am_S} (h8 : f_X12_is b 8 = some (0, b)) (h9 : f_X12_is b 9 = some (0, b)) (h10 : f_X12_is b 10 = some (0, b)) : exM n 0 b = (if (0 : Int32) < (b.1 58 12) then (am_bd (f_X12_fail b (1)) (fun (_ : Unit) s296 => am_bd (f_X12_comesOut s296 (0)) (fun (_ : Unit) s301 => some (.inl ((), s301))))) else (am_bd (f_X12_comesOut b (0)) (fun (_ : Unit) s301 => some (.inl ((), s301))))) := by
  unfold exM
  rw [bd_some h8]
  simp only [am_jn]
  rw [if_pos trivial, bd_some h9, if_pos rfl, bd_some h10, if_pos rfl]
  rfl
theorem exM_yes {n i k : Nat} {b : am_S} (hi : i ≤ 400) (e11 : b.1 58 11 = nI i) (e61 : b.1 61 i = nI k) (h : (k = 8 ∧ f_X12_is b 8 = some (1, b)) ∨ (k = 9 ∧ f_X12_is b 8 = some (0, b) ∧ f_X12_is b 9 = some (1, b)) ∨ (k = 10 ∧ f_X12_is b 8 = some (0, b) ∧ f_X12_is b 9 = some (0, b) ∧ f_X12_is b 10 = some (1, b))) : exM n 0 b = am_bd (f_X12_comesOut b (mc_i (decide (k = 10)))) (fun (_ : Unit) s329 => am_gu (am_in (s329.1 58 36) 48) (am_bd (f_X12_next (am_wI (am_wI s329 80 (Int32.toNatClampNeg (s329.1 58 36)) (nI k)) 58 36 ((s329.1 58 36) + 1))) (fun (_ : Unit) s354 => f_X12_expression_L12 n 0 1 s354))) := by
  have d2 : am_in (nI i) 403 = true := rl_nin (by decide) (by omega)
  have d3 : (nI i).toNatClampNeg = i := nI_clamp (by omega)
  have z : ¬ (1 : Int32) = 0 := by decide
  have tail : (if (1 : Int32) = 0 then (if (0 : Int32) < (b.1 58 12) then (am_bd (f_X12_fail b (1)) (fun (_ : Unit) s296 => am_bd (f_X12_comesOut s296 (0)) (fun (_ : Unit) s301 => some (.inl ((), s301))))) else (am_bd (f_X12_comesOut b (0)) (fun (_ : Unit) s301 => some (.inl ((), s301))))) else (am_gu (am_in (b.1 58 11) 403) (if (b.1 61 (Int32.toNatClampNeg (b.1 58 11))) = 10 then (am_bd (f_X12_comesOut b 1) (fun (_ : Unit) s329 => am_gu (am_in (s329.1 58 36) 48) (am_bd (f_X12_next (am_wI (am_wI s329 80 (Int32.toNatClampNeg (s329.1 58 36)) (b.1 61 (Int32.toNatClampNeg (b.1 58 11)))) 58 36 ((s329.1 58 36) + 1))) (fun (_ : Unit) s354 => f_X12_expression_L12 n 0 1 s354)))) else (am_bd (f_X12_comesOut b 0) (fun (_ : Unit) s329 => am_gu (am_in (s329.1 58 36) 48) (am_bd (f_X12_next (am_wI (am_wI s329 80 (Int32.toNatClampNeg (s329.1 58 36)) (b.1 61 (Int32.toNatClampNeg (b.1 58 11)))) 58 36 ((s329.1 58 36) + 1))) (fun (_ : Unit) s354 => f_X12_expression_L12 n 0 1 s354))))))) = (am_bd (f_X12_comesOut b (mc_i (decide (k = 10)))) (fun (_ : Unit) s329 => am_gu (am_in (s329.1 58 36) 48) (am_bd (f_X12_next (am_wI (am_wI s329 80 (Int32.toNatClampNeg (s329.1 58 36)) (nI k)) 58 36 ((s329.1 58 36) + 1))) (fun (_ : Unit) s354 => f_X12_expression_L12 n 0 1 s354))) : Option ((Unit × am_S) ⊕ (Unit × am_S))) := by
    rw [if_neg z, e11, rl_gu d2, d3, e61]
    rcases h with ⟨q, -⟩ | ⟨q, -⟩ | ⟨q, -⟩ <;> subst q
    · rw [if_neg (by decide)]; rfl
    · rw [if_neg (by decide)]; rfl
    · rw [if_pos (by decide)]; rfl
  unfold exM
  rcases h with ⟨-, q1⟩ | ⟨-, q1, q2⟩ | ⟨-, q1, q2, q3⟩
  · rw [bd_some q1]
    simp only [am_jn]
    rw [if_neg z]
    exact tail
  · rw [bd_some q1]
    simp only [am_jn]
    rw [if_pos trivial, bd_some q2, if_neg z]
    exact tail
  · rw [bd_some q1]
    simp only [am_jn]
    rw [if_pos trivial, bd_some q2, if_pos rfl, bd_some q3, if_neg z]
    exact tail
/-- a fault: nothing more is read -/
theorem exT_F {n : Nat} {K : Nat → Nat} {V : Nat → Int32} {i0 c0 l : Nat} {b : am_S} (hl : l < 2) (h : ¬ b.1 58 13 = 0 ∧ 0 < b.1 58 13) (hc : CD K V i0 c0 l b) : ∃ b', exM n 0 b = some (.inl ((), b')) ∧ exT n 0 b = some (.inl ((), b')) ∧ cG c0 l b' b ∧ b'.1 58 13 = b.1 58 13 ∧ b'.1 58 14 = b.1 58 14 := by
  obtain ⟨b', g1, g2, g3, g4⟩ := hc.co hl
  have e : exM n 0 b = some (.inl ((), b')) := by
    rw [exM_no (is_F h.1 8) (is_F h.1 9) (is_F h.1 10), bd_some (fail_F h.2 1), bd_some g1]
    split <;> rfl
  have lp : f_X12_expression_L200 am_FU 0 b = some (.inr ((), b)) := by
    rw [show am_FU = 4999 + 1 from rfl, f_X12_expression_L200, bd_some (is_F h.1 7), if_pos rfl]
  exact ⟨b', e, by unfold exT; rw [lp_r lp]; exact e, g2, g3, g4⟩
theorem L12_F {n : Nat} {b : am_S} (h : ¬ b.1 58 13 = 0) : f_X12_expression_L12 (n + 1) 0 1 b = some (.inr ((), b)) := by
  rw [f_X12_expression_L12, if_neg (by decide), if_neg h]
section EXC
variable {C : Nat → Nat} {n : Nat} {K : Nat → Nat} {V : Nat → Int32} {P X : Nat → Nat} {D T l i0 c0 sd N : Nat}
/-- a unit: how the loop goes on -/
theorem L12_unit {nF i L c : Nat} {b : am_S} (hT : TT C n T K V P X) (h : MS K V P T l b i L c) (hi : i < T) (hi4 : i ≤ 400) (hU : K i = 2 ∨ 26 ≤ K i) : f_X12_expression_L12 (nF + 1) 0 1 b = am_bd (f_X12_emit b (if K i = 2 then 0 else 1) (if K i = 2 then V i else nI (K i - 26))) (fun (_ : Unit) s => am_bd (f_X12_next s) (fun (_ : Unit) s197 => exT nF 0 s197)) := by
  have d2 : am_in (nI i) 403 = true := rl_nin (by decide) (by omega)
  have d3 : (nI i).toNatClampNeg = i := nI_clamp (by omega)
  have hK := (hT i hi).2
  obtain ⟨t1, t2, t3⟩ := h.2.2.2.2.2 i hi
  have i6 := is_M (k := 6) hT h hi hi4 (by decide)
  have i2 := is_M (k := 2) hT h hi hi4 (by decide)
  have n6 : ¬ K i = 6 := by omega
  rw [decide_eq_false n6] at i6
  have z : ¬ (0 : Int32) < 0 := by decide
  rcases hU with q | q
  · rw [decide_eq_true q] at i2
    have c1 : nI (K i) < 26 := nI_lt (b := 26) (by omega) (by decide)
    rw [if_pos q, if_pos q, f_X12_expression_L12, if_neg (by decide), h.2.2.1, if_pos rfl, show (6 : Int32) = nI 6 from rfl, bd_some i6, show mc_i false = 0 from rfl, if_pos rfl]
    simp only [am_jn]
    rw [h.2.2.1, if_pos rfl, h.1, rl_gu d2, d3, t1, if_pos c1, show (2 : Int32) = nI 2 from rfl, bd_some i2, show mc_i true = 1 from rfl, if_neg (by decide), h.2.2.1, if_neg z, if_pos trivial, h.1, rl_gu d2, d3, t3 q]
    rfl
  · have q2 : ¬ K i = 2 := by omega
    rw [decide_eq_false q2] at i2
    have c1 : ¬ nI (K i) < 26 := nI_nlt (b := 26) (by omega) (by omega)
    have c2 : ¬ (33 : Int32) < nI (K i) := nI_nlt (a := 33) (by omega) (by decide)
    have c3 : nI (K i) - 26 = nI (K i - 26) := pk_sub (b := 26) q
    rw [if_neg q2, if_neg q2, f_X12_expression_L12, if_neg (by decide), h.2.2.1, if_pos rfl, show (6 : Int32) = nI 6 from rfl, bd_some i6, show mc_i false = 0 from rfl, if_pos rfl]
    simp only [am_jn]
    rw [h.2.2.1, if_pos rfl, h.1, rl_gu d2, d3, t1, if_neg c1, rl_gu d2, if_neg c2, show (2 : Int32) = nI 2 from rfl, bd_some i2, show mc_i false = 0 from rfl, if_pos rfl, if_neg (by decide), h.2.2.1, if_neg z, if_neg (by decide), h.1, rl_gu d2, d3, t1, c3]
    rfl
/-- neither a unit nor a bracket -/
theorem L12_bad {nF i L c : Nat} {b : am_S} (hT : TT C n T K V P X) (h : MS K V P T l b i L c) (hi : i < T) (hi4 : i ≤ 400) (h2 : K i ≠ 2) (h6 : K i ≠ 6) (h26 : K i < 26) : f_X12_expression_L12 (nF + 1) 0 1 b = some (.inl ((), am_wI (am_wI b 58 13 1) 58 14 (nI (P i)))) := by
  have d2 : am_in (nI i) 403 = true := rl_nin (by decide) (by omega)
  have d3 : (nI i).toNatClampNeg = i := nI_clamp (by omega)
  obtain ⟨t1, t2, t3⟩ := h.2.2.2.2.2 i hi
  have i6 := is_M (k := 6) hT h hi hi4 (by decide)
  have i2 := is_M (k := 2) hT h hi hi4 (by decide)
  rw [decide_eq_false h6] at i6
  rw [decide_eq_false h2] at i2
  have c1 : nI (K i) < 26 := nI_lt (b := 26) h26 (by decide)
  have fl := fail_M h hi hi4 1
  rw [f_X12_expression_L12, if_neg (by decide), h.2.2.1, if_pos rfl, show (6 : Int32) = nI 6 from rfl, bd_some i6, show mc_i false = 0 from rfl, if_pos rfl]
  simp only [am_jn]
  rw [h.2.2.1, if_pos rfl, h.1, rl_gu d2, d3, t1, if_pos c1, show (2 : Int32) = nI 2 from rfl, bd_some i2, show mc_i false = 0 from rfl, if_pos rfl, if_pos trivial, bd_some fl]
  have z : (0 : Int32) < (am_wI (am_wI b 58 13 1) 58 14 (nI (P i))).1 58 13 := by simp [rl_wI]
  rw [if_pos z]
/-- a bracket -/
theorem L12_open {nF i L c : Nat} {b : am_S} (hT : TT C n T K V P X) (h : MS K V P T l b i L c) (hi : i < T) (hi4 : i ≤ 400) (h6 : K i = 6) (hL : L ≤ 6) : (L = 6 → f_X12_expression_L12 (nF + 1) 0 1 b = some (.inl ((), am_wI (am_wI b 58 13 2) 58 14 (nI (P i))))) ∧ (L < 6 → f_X12_expression_L12 (nF + 1) 0 1 b = am_bd (f_X12_next (am_wI b 58 12 (nI (L + 1)))) (fun (_ : Unit) s65 => am_gu (am_in (s65.1 58 36) 48) (f_X12_expression_L12 nF 0 1 (am_wI (am_wI s65 80 (Int32.toNatClampNeg (s65.1 58 36)) (6)) 58 36 ((s65.1 58 36) + 1))))) := by
  have i6 := is_M (k := 6) hT h hi hi4 (by decide)
  rw [decide_eq_true h6] at i6
  have fl := fail_M h hi hi4 2
  have z : ¬ (0 : Int32) < 0 := by decide
  refine ⟨fun q => ?_, fun q => ?_⟩
  · have c1 : nI L = 6 := by rw [q]; rfl
    rw [f_X12_expression_L12, if_neg (by decide), h.2.2.1, if_pos rfl, show (6 : Int32) = nI 6 from rfl, bd_some i6, show mc_i true = 1 from rfl, if_neg (by decide)]
    simp only [am_jn]
    rw [h.2.1, show nI 6 = 6 from rfl, if_pos c1, bd_some fl]
    have z : (0 : Int32) < (am_wI (am_wI b 58 13 2) 58 14 (nI (P i))).1 58 13 := by simp [rl_wI]
    rw [if_pos z]
  · have c1 : ¬ nI L = 6 := nI_ne (m := 6) (by omega) (by decide) (by omega)
    have d4 : nI L + 1 = nI (L + 1) := nI_1 L
    rw [f_X12_expression_L12, if_neg (by decide), h.2.2.1, if_pos rfl, show (6 : Int32) = nI 6 from rfl, bd_some i6, show mc_i true = 1 from rfl, if_neg (by decide)]
    simp only [am_jn]
    rw [h.2.1, show nI 6 = 6 from rfl, if_neg c1, h.2.2.1, if_neg z, d4]
end EXC
