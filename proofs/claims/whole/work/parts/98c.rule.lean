/-! ===== a rule is read on both sides ===== -/
def RUb (st tk vl : Nat → Int32) (M : Nat → Nat → Int32) (T l U W r σ : Nat) (h : (Nat → Int32) → Bool) (val : (Nat → Int32) → Int32) : Prop :=
  ∃ (s f w : Nat) (tt : Nat → (Nat → Int32) → Bool) (pp ee : Nat → Nat) (oo : Nat → Bool), st r = nI s ∧ s < T ∧ σ < 3 ∧ tk s = nI (3 + σ) ∧ M 67 (20 * l + r) = nI σ ∧ f + w ≤ W ∧ M 70 (20 * l + r) = nI f ∧ M 71 (20 * l + r) = nI (f + w) ∧
  (∀ κ, κ < w → REb tk vl M (500 * l) U (200 * l + f + κ) (pp κ) (ee κ) (tt κ) ∧ ee κ < T ∧ M 77 (200 * l + f + κ) = mc_i (oo κ) ∧ (κ + 1 < w → pp (κ + 1) = ee κ + 1 ∧ tk (ee κ) = if oo (κ + 1) then 8 else 7) ∧ (κ + 1 = w → tk (ee κ) = 9)) ∧ oo 0 = true ∧
  (σ = 1 → 0 < w ∧ pp 0 = s + 1) ∧
  (¬ σ = 1 → ∃ n c m : Nat, EX tk vl (M 78) (M 79) (s + 1) n c m val ∧ 500 * l ≤ c ∧ c + m ≤ U ∧ s + 1 + n < T ∧ M 68 (20 * l + r) = nI c ∧ M 69 (20 * l + r) = nI (c + m) ∧ (tk (s + 1 + n) = 9 ∧ w = 0 ∨ tk (s + 1 + n) = 6 ∧ 0 < w ∧ pp 0 = s + 1 + n + 1)) ∧
  ∀ v, h v = (decide (w = 0) || k_M oo (fun κ => tt κ v) w 0 false)
theorem RUb.fr {st st' tk vl : Nat → Int32} {M M' : Nat → Nat → Int32} {T T' l U U' W W' r σ : Nat} {hd : (Nat → Int32) → Bool} {val : (Nat → Int32) → Int32} (hx : RUb st tk vl M T l U W r σ hd val) (hT : T ≤ T') (hU : U ≤ U') (hW : W ≤ W') (hs : st' r = st r) (h0 : ∀ c, 67 ≤ c → c ≤ 71 → M' c (20 * l + r) = M c (20 * l + r)) (h1 : ∀ c κ, 73 ≤ c → c ≤ 77 → κ < 200 * l + W → M' c κ = M c κ) (h2 : ∀ j, j < U → M' 78 j = M 78 j ∧ M' 79 j = M 79 j) : RUb st' tk vl M' T' l U' W' r σ hd val := by
  obtain ⟨s, f, w, tt, pp, ee, oo, u1, u2, u3, u4, u5, u6, u7, u8, u9, u10, u11, u12, u13⟩ := hx
  refine ⟨s, f, w, tt, pp, ee, oo, by rw [hs]; exact u1, by omega, u3, u4, by rw [h0 67 (by decide) (by decide)]; exact u5, by omega, by rw [h0 70 (by decide) (by decide)]; exact u7, by rw [h0 71 (by decide) (by decide)]; exact u8, fun κ hκ => ?_, u10, u11, fun hσ => ?_, u13⟩
  · obtain ⟨y1, y2, y3, y4, y5⟩ := u9 κ hκ
    exact ⟨y1.fr hU (fun j _ _ => ⟨rfl, fun _ => rfl⟩) (fun c q1 q2 => h1 c _ q1 (by omega) (by omega)) (fun j _ q => h2 j q), by omega, by rw [h1 77 _ (by decide) (by decide) (by omega)]; exact y3, y4, y5⟩
  · obtain ⟨n, c, m, x1, x2, x3, x4, x5, x6, x7⟩ := u12 hσ
    exact ⟨n, c, m, x1.fr2 (fun j _ _ => ⟨rfl, fun _ => rfl⟩) (fun j q1 q2 => h2 j (by omega)), x2, by omega, by omega, by rw [h0 68 (by decide) (by decide)]; exact x5, by rw [h0 69 (by decide) (by decide)]; exact x6, x7⟩
theorem RUb.ru {st tk vl tk' vl' : Nat → Int32} {M : Nat → Nat → Int32} {T l U W r σ : Nat} {hd : (Nat → Int32) → Bool} {val : (Nat → Int32) → Int32} (hx : RUb st tk vl M T l U W r σ hd val) (hU : U ≤ 500 * l + 400) (hW : W ≤ 200) (h : ∀ j, j < T → tk' j = tk j ∧ (tk j = 2 → vl' j = vl j)) : RU st tk' vl' M T l r σ hd val := by
  obtain ⟨s, f, w, tt, pp, ee, oo, u1, u2, u3, u4, u5, u6, u7, u8, u9, u10, u11, u12, u13⟩ := hx
  refine ⟨s, f, w, tt, pp, ee, oo, u1, u2, u3, by rw [(h s u2).1]; exact u4, u5, by omega, u7, u8, fun κ hκ => ?_, u10, u11, fun hσ => ?_, u13⟩
  · obtain ⟨y1, y2, y3, y4, y5⟩ := u9 κ hκ
    refine ⟨(y1.fr (Nat.le_refl _) (fun j _ q2 => h j (by omega)) (fun _ _ _ => rfl) (fun _ _ _ => ⟨rfl, rfl⟩)).re hU, y2, y3, ?_, ?_⟩
    · rw [(h (ee κ) y2).1]; exact y4
    · rw [(h (ee κ) y2).1]; exact y5
  · obtain ⟨n, c, m, x1, x2, x3, x4, x5, x6, x7⟩ := u12 hσ
    refine ⟨n, c, m, x1.fr2 (fun j _ q2 => h j (by omega)) (fun _ _ _ => ⟨rfl, rfl⟩), x2, by omega, x4, x5, x6, ?_⟩
    rw [(h (s + 1 + n) x4).1]
    exact x7
theorem DT.le {K : Nat → Nat} {V : Nat → Int32} {M : Nat → Nat → Int32} {l κ0 U w : Nat} {tt : Nat → (Nat → Int32) → Bool} {pp ee : Nat → Nat} {oo : Nat → Bool} (h : DT K V M l κ0 U w tt pp ee oo) : ∀ d κ, κ + d + 1 = w → ee κ ≤ ee (w - 1) := by
  intro d
  induction d with
  | zero => intro κ hκ; rw [show w - 1 = κ by omega]; exact Nat.le_refl _
  | succ d ih =>
    intro κ hκ
    have h1 := ih (κ + 1) (by omega)
    obtain ⟨-, -, q⟩ := h κ (by omega)
    obtain ⟨⟨n, n', c, m, m', σ, X, Y, r1, r2, -⟩, -, -⟩ := h (κ + 1) (by omega)
    have := (q (by omega)).1
    omega
/-- a rule that has been read -/
def UO (D : Nat) (C : Nat → Nat) (n : Nat) (K : Nat → Nat) (V : Nat → Int32) (P X : Nat → Nat) (T l i c κ N : Nat) (a b' : am_S) : Prop := ∃ (a' : am_S) (j c' κ' σ sd : Nat) (h : (Nat → Int32) → Bool) (val : (Nat → Int32) → Int32), PLc D i a = PLc D j a' ∧ cA D a' a ∧ (∀ x, a'.1 (D + 1) x = if x = N then nI i else a.1 (D + 1) x) ∧ i < j ∧ c ≤ c' ∧ κ ≤ κ' ∧ sd < 3 ∧ N < 20 ∧ PS D C n K V X a' j 0 sd 0 (N + 1) ∧ MS K V P T l b' j 0 c' ∧ c' ≤ 500 * l + j ∧ j < T ∧ j ≤ 400 ∧ b'.1 72 l = nI κ' ∧ 3 * κ' ≤ j ∧ b'.1 66 l = nI (N + 1) ∧ RUb (a'.1 (D + 1)) (tkI K) V b'.1 j l c' κ' N σ h val
section RUC
variable {C : Nat → Nat} {n : Nat} {K : Nat → Nat} {V : Nat → Int32} {P X : Nat → Nat} {D T l : Nat}
theorem tr_begin (hT : TT C n T K V P X) (hl : l < 2) {N i c σ : Nat} (hN : N < 20) {b : am_S} (h2 : MS K V P T l b i 0 c) (hi : i < T) (hi4 : i ≤ 400) (e66 : b.1 66 l = nI N) (hk : K i = 20 ∧ σ = 0 ∨ K i = 22 ∧ σ = 1 ∨ K i = 23 ∧ σ = 2) : f_X12_tellRule b = am_bd (f_X12_next (am_wI b 67 (20 * l + N) (nI σ))) (fun (_ : Unit) s => t2 (nI (20 * l + N)) s) := by
  have x2 : am_in (nI (20 * l + N)) 40 = true := rl_nin (by decide) (by omega)
  have x3 : (nI (20 * l + N)).toNatClampNeg = 20 * l + N := nI_clamp (by omega)
  have l2 : am_in (nI l) 2 = true := rl_nin (by decide) hl
  have l3 : (nI l).toNatClampNeg = l := nI_clamp (by omega)
  have z0 : ¬ (0 : Int32) < 0 := by decide
  have z1 : ¬ (1 : Int32) = 0 := by decide
  have n20 : ¬ nI N = 20 := nI_ne (m := 20) (by omega) (by decide) (by omega)
  have i20 := is_M (k := 20) hT h2 hi hi4 (by decide)
  have i22 := is_M (k := 22) hT h2 hi hi4 (by decide)
  have i23 := is_M (k := 23) hT h2 hi hi4 (by decide)
  unfold f_X12_tellRule
  rcases hk with ⟨q, e⟩ | ⟨q, e⟩ | ⟨q, e⟩ <;> subst e
  · rw [decide_eq_true q] at i20
    have i20 : f_X12_is b 20 = some (1, b) := i20
    rw [bd_some i20]
    simp only [am_jn]
    rw [if_neg z1, if_neg z1, h2.2.2.2.2.1, rl_gu l2, l3, e66, if_neg n20, h2.2.2.1, if_neg z0, rl_gu l2, bd_some i20, if_neg z1, i_20, rl_gu x2]
    show am_bd (f_X12_next (am_wI b 67 (Int32.toNatClampNeg (nI (20 * l + N))) 0)) (fun (_ : Unit) s => t2 (nI (20 * l + N)) s) = _
    rw [x3]
    rfl
  · rw [decide_eq_false (by omega)] at i20
    rw [decide_eq_true q] at i22
    have i20 : f_X12_is b 20 = some (0, b) := i20
    have i22 : f_X12_is b 22 = some (1, b) := i22
    rw [bd_some i20]
    simp only [am_jn]
    rw [if_pos trivial, bd_some i22, if_neg z1, if_neg z1, h2.2.2.2.2.1, rl_gu l2, l3, e66, if_neg n20, h2.2.2.1, if_neg z0, rl_gu l2, bd_some i20, if_pos rfl, bd_some i22, if_neg z1, i_20, rl_gu x2]
    show am_bd (f_X12_next (am_wI b 67 (Int32.toNatClampNeg (nI (20 * l + N))) 1)) (fun (_ : Unit) s => t2 (nI (20 * l + N)) s) = _
    rw [x3]
    rfl
  · rw [decide_eq_false (by omega)] at i20 i22
    rw [decide_eq_true q] at i23
    have i20 : f_X12_is b 20 = some (0, b) := i20
    have i22 : f_X12_is b 22 = some (0, b) := i22
    have i23 : f_X12_is b 23 = some (1, b) := i23
    rw [bd_some i20]
    simp only [am_jn]
    rw [if_pos trivial, bd_some i22, if_pos rfl, bd_some i23, if_neg z1, if_neg z1, h2.2.2.2.2.1, rl_gu l2, l3, e66, if_neg n20, h2.2.2.1, if_neg z0, rl_gu l2, bd_some i20, if_pos rfl, bd_some i22, if_pos rfl, i_20, rl_gu x2]
    show am_bd (f_X12_next (am_wI b 67 (Int32.toNatClampNeg (nI (20 * l + N))) 2)) (fun (_ : Unit) s => t2 (nI (20 * l + N)) s) = _
    rw [x3]
    rfl
theorem tr_bad (hT : TT C n T K V P X) {i c : Nat} {b : am_S} (h2 : MS K V P T l b i 0 c) (hi : i < T) (hi4 : i ≤ 400) (hk : ¬ (K i = 20 ∨ K i = 22 ∨ K i = 23)) : f_X12_tellRule b = some ((), am_wI (am_wI b 58 13 1) 58 14 (nI (P i))) := by
  have i20 := is_M (k := 20) hT h2 hi hi4 (by decide)
  have i22 := is_M (k := 22) hT h2 hi hi4 (by decide)
  have i23 := is_M (k := 23) hT h2 hi hi4 (by decide)
  rw [decide_eq_false (by omega)] at i20 i22 i23
  have i20 : f_X12_is b 20 = some (0, b) := i20
  have i22 : f_X12_is b 22 = some (0, b) := i22
  have i23 : f_X12_is b 23 = some (0, b) := i23
  have fl := fail_M h2 hi hi4 1
  have z : (0 : Int32) < (am_wI (am_wI b 58 13 1) 58 14 (nI (P i))).1 58 13 := by simp [rl_wI]
  unfold f_X12_tellRule
  rw [bd_some i20]
  simp only [am_jn]
  rw [if_pos trivial, bd_some i22, if_pos rfl, bd_some i23, if_pos rfl, if_pos trivial, bd_some fl, if_pos z]
theorem tr_full (hT : TT C n T K V P X) (hl : l < 2) {i c : Nat} {b : am_S} (h2 : MS K V P T l b i 0 c) (hi : i < T) (hi4 : i ≤ 400) (e66 : b.1 66 l = nI 20) (hk : K i = 20 ∨ K i = 22 ∨ K i = 23) : f_X12_tellRule b = some ((), am_wI (am_wI b 58 13 2) 58 14 (nI (P i))) := by
  have l2 : am_in (nI l) 2 = true := rl_nin (by decide) hl
  have l3 : (nI l).toNatClampNeg = l := nI_clamp (by omega)
  have z1 : ¬ (1 : Int32) = 0 := by decide
  have i20 := is_M (k := 20) hT h2 hi hi4 (by decide)
  have i22 := is_M (k := 22) hT h2 hi hi4 (by decide)
  have i23 := is_M (k := 23) hT h2 hi hi4 (by decide)
  have fl := fail_M h2 hi hi4 2
  have z : (0 : Int32) < (am_wI (am_wI b 58 13 2) 58 14 (nI (P i))).1 58 13 := by simp [rl_wI]
  unfold f_X12_tellRule
  rcases hk with q | q | q
  · rw [decide_eq_true q] at i20
    have i20 : f_X12_is b 20 = some (1, b) := i20
    rw [bd_some i20]
    simp only [am_jn]
    rw [if_neg z1, if_neg z1, h2.2.2.2.2.1, rl_gu l2, l3, e66, if_pos (show nI 20 = 20 from rfl), bd_some fl, if_pos z]
  · rw [decide_eq_false (by omega)] at i20
    rw [decide_eq_true q] at i22
    have i20 : f_X12_is b 20 = some (0, b) := i20
    have i22 : f_X12_is b 22 = some (1, b) := i22
    rw [bd_some i20]
    simp only [am_jn]
    rw [if_pos trivial, bd_some i22, if_neg z1, if_neg z1, h2.2.2.2.2.1, rl_gu l2, l3, e66, if_pos (show nI 20 = 20 from rfl), bd_some fl, if_pos z]
  · rw [decide_eq_false (by omega)] at i20 i22
    rw [decide_eq_true q] at i23
    have i20 : f_X12_is b 20 = some (0, b) := i20
    have i22 : f_X12_is b 22 = some (0, b) := i22
    have i23 : f_X12_is b 23 = some (1, b) := i23
    rw [bd_some i20]
    simp only [am_jn]
    rw [if_pos trivial, bd_some i22, if_pos rfl, bd_some i23, if_neg z1, if_neg z1, h2.2.2.2.2.1, rl_gu l2, l3, e66, if_pos (show nI 20 = 20 from rfl), bd_some fl, if_pos z]
/-- behind the head: t3 and on, with or without an expression ahead -/
theorem t3_go (hD : D = 5 ∨ D = 11) (hT : TT C n T K V P X) (hnx : ∀ s, s < T → K s ≠ 0 → s < 400 → s + 1 < T) (hl : l < 2) {N j c κ ρ σ : Nat} (hN : N ≤ 20) (hρ : ρ < 20) {a b : am_S} (h1 : σ = 1 ∧ PS D C n K V X a j 1 1 0 N ∨ ¬ σ = 1 ∧ PS D C n K V X a j 2 0 0 N ∧ K j ≠ 8 ∧ K j ≠ 9 ∧ K j ≠ 10) (hσ : σ < 3) (h2 : MS K V P T l b j 0 c) (hb : c ≤ 500 * l + j) (hc : 500 * l ≤ c) (hj : j < T) (hj4 : j ≤ 400) (e67 : b.1 67 (20 * l + ρ) = nI σ) (e72 : b.1 72 l = nI κ) (e66 : b.1 66 l = nI ρ) (hw : 3 * κ ≤ j) : ∃ b', t3 (nI (20 * l + ρ)) b = some ((), b') ∧ uG c κ ρ l b' b ∧ (FO D P j a b' ∨ (b'.1 67 (20 * l + ρ) = nI σ ∧ b'.1 68 (20 * l + ρ) = b.1 68 (20 * l + ρ) ∧ b'.1 69 (20 * l + ρ) = nI c ∧ b'.1 70 (20 * l + ρ) = nI κ ∧ ((σ = 1 ∧ TO D C n K V P X T l κ ρ N true j c j a b') ∨ (¬ σ = 1 ∧ K j ≠ 21 ∧ TO D C n K V P X T l κ ρ N false j c j a b') ∨ (¬ σ = 1 ∧ K j = 21 ∧ TO D C n K V P X T l κ ρ N true j c (j + 1) a b')))) := by
  have x2 : am_in (nI (20 * l + ρ)) 40 = true := rl_nin (by decide) (by omega)
  have x3 : (nI (20 * l + ρ)).toNatClampNeg = 20 * l + ρ := nI_clamp (by omega)
  have l2 : am_in (nI l) 2 = true := rl_nin (by decide) hl
  have l3 : (nI l).toNatClampNeg = l := nI_clamp (by omega)
  generalize hb1 : am_wI (am_wI b 69 (20 * l + ρ) (nI c)) 70 (20 * l + ρ) (nI κ) = b1
  have o1 : rw_on [69, 70] b1 b := by rw [← hb1]; exact ((rw_on.refl _ _).w (by simp) _ _).w (by simp) _ _
  have G1 : uG c κ ρ l b1 b := by
    rw [← hb1]
    exact (uG.w (by omega) hρ _).trans (uG.w (b := b) (by omega) hρ _) (Nat.le_refl _) (Nat.le_refl _) (Nat.le_refl _)
  have hM1 : MS K V P T l b1 j 0 c := by
    obtain ⟨y1, y2, y3, y4, y5, y6⟩ := h2
    exact ⟨by rw [(o1 58 (by simp)).1]; exact y1, by rw [(o1 58 (by simp)).1]; exact y2, by rw [(o1 58 (by simp)).1]; exact y3, by rw [(o1 58 (by simp)).1]; exact y4, by rw [(o1 58 (by simp)).1]; exact y5, y6.on o1 (by simp) (by simp) (by simp)⟩
  have q72 : b1.1 72 l = nI κ := by rw [(o1 72 (by simp)).1]; exact e72
  have q66 : b1.1 66 l = nI ρ := by rw [(o1 66 (by simp)).1]; exact e66
  have q67 : b1.1 67 (20 * l + ρ) = nI σ := by rw [(o1 67 (by simp)).1]; exact e67
  have q68 : b1.1 68 (20 * l + ρ) = b.1 68 (20 * l + ρ) := by rw [(o1 68 (by simp)).1]
  have q69 : b1.1 69 (20 * l + ρ) = nI c := by rw [← hb1]; simp [rl_wI]
  have q70 : b1.1 70 (20 * l + ρ) = nI κ := by rw [← hb1]; simp [rl_wI]
  -- rows 67 to 70 stay behind t5
  have rows : ∀ (h : Int32) (b2 b' : am_S), (∀ x, 67 ≤ x → x ≤ 70 → b2.1 x (20 * l + ρ) = b1.1 x (20 * l + ρ)) → t5 (nI (20 * l + ρ)) h b2 = some ((), b') → (∀ x, 67 ≤ x → x ≤ 70 → b'.1 x (20 * l + ρ) = b2.1 x (20 * l + ρ)) → b'.1 67 (20 * l + ρ) = nI σ ∧ b'.1 68 (20 * l + ρ) = b.1 68 (20 * l + ρ) ∧ b'.1 69 (20 * l + ρ) = nI c ∧ b'.1 70 (20 * l + ρ) = nI κ := by
    intro h b2 b' y1 _ y3
    exact ⟨by rw [y3 67 (by decide) (by decide), y1 67 (by decide) (by decide)]; exact q67, by rw [y3 68 (by decide) (by decide), y1 68 (by decide) (by decide)]; exact q68, by rw [y3 69 (by decide) (by decide), y1 69 (by decide) (by decide)]; exact q69, by rw [y3 70 (by decide) (by decide), y1 70 (by decide) (by decide)]; exact q70⟩
  have run : t3 (nI (20 * l + ρ)) b = (if nI σ = 1 then t4 (nI (20 * l + ρ)) 1 b1 else t4 (nI (20 * l + ρ)) 0 b1) := by
    unfold t3
    rw [rl_gu x2, h2.2.2.2.2.1, rl_gu l2, rl_gu x2, rl_gu x2, x3, l3, e67, h2.2.2.2.1, e72, hb1]
  have i21 := is_M (k := 21) hT hM1 hj hj4 (by decide)
  rcases h1 with ⟨e, p1⟩ | ⟨e, p1, n8, n9, n10⟩
  · subst e
    rw [run, if_pos (show nI 1 = 1 from rfl)]
    obtain ⟨b', g1, g2, g0, g3⟩ := t5_1 hD hT hnx hl hN hρ p1 hM1 hb hc hj hj4 q72 q66 hw
    have run4 : t4 (nI (20 * l + ρ)) 1 b1 = t5 (nI (20 * l + ρ)) 1 b1 := by
      unfold t4
      rw [show (21 : Int32) = nI 21 from rfl, bd_some i21]
      split
      · rfl
      · rw [if_neg (by decide)]
    have R : ∀ x, 67 ≤ x → x ≤ 70 → b'.1 x (20 * l + ρ) = _ := fun x q1 q2 => congrFun (g0 x q1 q2) (20 * l + ρ)
    refine ⟨b', by rw [run4]; exact g1, g2.trans G1 (Nat.le_refl _) (Nat.le_refl _) (Nat.le_refl _), ?_⟩
    rcases g3 with g3 | g3
    · exact Or.inl g3
    · obtain ⟨r1, r2, r3, r4⟩ := rows 1 b1 b' (fun _ _ _ => rfl) g1 R
      exact Or.inr ⟨r1, r2, r3, r4, Or.inl ⟨rfl, g3⟩⟩
  · have nσ : ¬ nI σ = 1 := nI_ne (m := 1) (by omega) (by decide) e
    rw [run, if_neg nσ]
    by_cases q21 : K j = 21
    · rw [decide_eq_true q21] at i21
      have hgo : goes 2 0 0 (cm (K j)) = true := by rw [q21]; rfl
      have w3 : mq 2 (cm (K j)) = 1 := by rw [q21]; rfl
      have w4 : ms 0 (cm (K j)) = 1 := by rw [q21]; rfl
      have w5 : cm (K j) ≠ 17 := by rw [q21]; decide
      have w6 : cm (K j) ≠ 18 := by rw [q21]; decide
      have run4 : t4 (nI (20 * l + ρ)) 0 b1 = am_bd (f_X12_next b1) (fun (_ : Unit) s206 => t5 (nI (20 * l + ρ)) 1 s206) := by
        unfold t4
        rw [show (21 : Int32) = nI 21 from rfl, bd_some i21, show mc_i true = 1 from rfl, if_neg (by decide), if_pos rfl]
      by_cases i400 : j = 400
      · have nx := next_E (by rw [i400] at hM1; exact hM1) (by omega)
        have fo : FO D P j a (am_wI (am_wI b1 58 13 2) 58 14 (nI (P 400))) := fo_room hD hT p1 hj hj4 (by decide) (by decide) (by decide) hN hgo (Or.inl i400) (by simp [rl_wI]) (by rw [i400]; simp [rl_wI])
        refine ⟨_, by rw [run4, bd_some nx]; exact t5_F fo.ne.2, ?_, Or.inl fo⟩
        exact (uG.of (rG.of ((cG.f (c := c) (l := l) (i := 14) (by simp) _).trans (cG.f (c := c) (l := l) (b := b1) (i := 13) (by simp) 2) (Nat.le_refl _)))).trans G1 (Nat.le_refl _) (Nat.le_refl _) (Nat.le_refl _)
      · have nx := next_M hM1 (by omega)
        obtain ⟨a2, y1, y2, y3, y4⟩ := pl_go hD hT p1 hj hj4 (by decide) (by decide) (by decide) hN hgo (by
          rintro (y | ⟨y, -⟩ | ⟨y, -⟩)
          · exact i400 y
          · cases y
          · exact w5 y) (fun y => absurd y w6)
        rw [w3, w4, ml_n w5 w6, if_neg (by decide)] at y2
        have y4 : ∀ x, a2.1 (D + 1) x = a.1 (D + 1) x := fun x => by rw [y4 x, if_neg (fun y => by cases y.1)]
        have hi1 := hnx j hj (by omega) (by omega)
        obtain ⟨b', g1, g2, g0, g3⟩ := t5_1 hD hT hnx hl hN hρ y2 (hM1.nx (j + 1)) (by omega) hc hi1 (by omega) q72 q66 (by omega)
        have R : ∀ x, 67 ≤ x → x ≤ 70 → b'.1 x (20 * l + ρ) = _ := fun x q1 q2 => congrFun (g0 x q1 q2) (20 * l + ρ)
        refine ⟨b', by rw [run4, bd_some nx]; exact g1, (g2.trans (uG.of (rG.of (cG.f (c := c) (l := l) (b := b1) (i := 11) (by simp) _))) (Nat.le_refl _) (Nat.le_refl _) (Nat.le_refl _)).trans G1 (Nat.le_refl _) (Nat.le_refl _) (Nat.le_refl _), ?_⟩
        rcases g3 with g3 | ⟨a', j', c', w, sd, tt, pp, ee, oo, z1, z2, z3, z4, z5, z6⟩
        · exact Or.inl (g3.tr y1 y3)
        · obtain ⟨r1, r2, r3, r4⟩ := rows 1 (am_wI b1 58 11 (nI (j + 1))) b' (fun x q1 q2 => by rw [rl_wr _ _ (by omega)]) g1 R
          exact Or.inr ⟨r1, r2, r3, r4, Or.inr (Or.inr ⟨e, q21, a', j', c', w, sd, tt, pp, ee, oo, y1.trans z1, z2.trans y3, fun x => (z3 x).trans (y4 x), by omega, z5, z6.1, z6.2.1, z6.2.2.1, z6.2.2.2.1, z6.2.2.2.2.1, z6.2.2.2.2.2.1, z6.2.2.2.2.2.2.1, z6.2.2.2.2.2.2.2.1, z6.2.2.2.2.2.2.2.2.1, z6.2.2.2.2.2.2.2.2.2.1, z6.2.2.2.2.2.2.2.2.2.2.1, z6.2.2.2.2.2.2.2.2.2.2.2.1, fun q => (by cases q), z6.2.2.2.2.2.2.2.2.2.2.2.2.2⟩)⟩
    · rw [decide_eq_false q21] at i21
      have run4 : t4 (nI (20 * l + ρ)) 0 b1 = t5 (nI (20 * l + ρ)) 0 b1 := by
        unfold t4
        rw [show (21 : Int32) = nI 21 from rfl, bd_some i21, show mc_i false = 0 from rfl, if_pos rfl]
      obtain ⟨b', g1, g2, g0, g3⟩ := t5_0 (p0 := j) hD hT hnx hl hN hρ p1 hM1 hb hj hj4 n8 n9 n10 q21 q72 q66 hw
      have R : ∀ x, 67 ≤ x → x ≤ 70 → b'.1 x (20 * l + ρ) = _ := fun x q1 q2 => congrFun (g0 x q1 q2) (20 * l + ρ)
      refine ⟨b', by rw [run4]; exact g1, g2.trans G1 (Nat.le_refl _) (Nat.le_refl _) (Nat.le_refl _), ?_⟩
      rcases g3 with g3 | g3
      · exact Or.inl g3
      · obtain ⟨r1, r2, r3, r4⟩ := rows 0 b1 b' (fun _ _ _ => rfl) g1 R
        exact Or.inr ⟨r1, r2, r3, r4, Or.inr (Or.inl ⟨e, q21, g3⟩)⟩
end RUC
