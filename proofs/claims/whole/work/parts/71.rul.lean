/-! ===== what the rules say: definitions, and the tokens' side ===== -/
def EX (tk vl cd ci : Nat → Int32) (i n k m : Nat) (X : (Nat → Int32) → Int32) : Prop :=
  xC tk i n ∧ lev tk i n = 0 ∧ isT (tk (i + n)) ∧ xM cd ci k m ∧ m ≤ 400 ∧ ∀ v, (c_run tk vl v i n).2.1 0 + (c_run tk vl v i n).2.2 0 = X v ∧ m_run cd ci v k m = [X v]
def k_S (σ : Nat) (x y : Int32) : Bool := if σ = 0 then decide (x = y) else if σ = 1 then !decide (x = y) else if σ = 2 then decide (x < y) else !decide (y < x)
def RE (tk vl : Nat → Int32) (M : Nat → Nat → Int32) (C κ p e : Nat) (t : (Nat → Int32) → Bool) : Prop :=
  ∃ (n n' c m m' σ : Nat) (X Y : (Nat → Int32) → Int32), σ < 4 ∧ e = p + n + 1 + n' ∧ C ≤ c ∧ c + m + m' ≤ C + 400 ∧ tk (p + n) = nI (13 + σ) ∧ M 73 κ = nI σ ∧ M 74 κ = nI c ∧ M 75 κ = nI (c + m) ∧ M 76 κ = nI (c + m + m') ∧ EX tk vl (M 78) (M 79) p n c m X ∧ EX tk vl (M 78) (M 79) (p + n + 1) n' (c + m) m' Y ∧ ∀ v, t v = k_S σ (X v) (Y v)
def k_C (o t : Nat → Bool) : Nat → Nat → Bool → Bool → Bool
  | 0, _, x, y => x || y
  | n + 1, k, x, y => if n = 0 then x || (y && t k) else if o (k + 1) then k_C o t n (k + 1) (x || (y && t k)) true else k_C o t n (k + 1) x (y && t k)
def k_M (o t : Nat → Bool) : Nat → Nat → Bool → Bool
  | 0, _, z => z
  | n + 1, k, z => if o k && z then true else k_M o t n (k + 1) ((o k || z) && t k)
theorem k_Ct (o t : Nat → Bool) : ∀ n k y, k_C o t n k true y = true := by
  intro n
  induction n with
  | zero => intro k y; simp [k_C]
  | succ n ih =>
    intro k y
    rw [k_C]
    split
    · simp
    · split
      · rw [Bool.true_or]; exact ih _ _
      · exact ih _ _
theorem k_eq (o t : Nat → Bool) : ∀ n k z, k_C o t (n + 1) k (o k && z) (o k || z) = k_M o t (n + 1) k z := by
  intro n
  induction n with
  | zero =>
    intro k z
    rw [k_C, if_pos rfl, k_M]
    cases o k <;> cases z <;> simp [k_M]
  | succ n ih =>
    intro k z
    rw [k_C, if_neg (by omega), k_M]
    cases hx : (o k && z) with
    | true =>
      rw [if_pos rfl]
      split
      · rw [Bool.true_or]; exact k_Ct _ _ _ _ _
      · exact k_Ct _ _ _ _ _
    | false =>
      rw [if_neg (show ¬ (false = true) by decide), ← ih]
      cases ho : o (k + 1) <;> simp
/-- rule r -/
def RU (st tk vl : Nat → Int32) (M : Nat → Nat → Int32) (T l r σ : Nat) (h : (Nat → Int32) → Bool) (val : (Nat → Int32) → Int32) : Prop :=
  ∃ (s f w : Nat) (tt : Nat → (Nat → Int32) → Bool) (pp ee : Nat → Nat) (oo : Nat → Bool), st r = nI s ∧ s < T ∧ σ < 3 ∧ tk s = nI (3 + σ) ∧ M 67 (20 * l + r) = nI σ ∧ f + w ≤ 200 ∧ M 70 (20 * l + r) = nI f ∧ M 71 (20 * l + r) = nI (f + w) ∧
  (∀ κ, κ < w → RE tk vl M (500 * l) (200 * l + f + κ) (pp κ) (ee κ) (tt κ) ∧ ee κ < T ∧ M 77 (200 * l + f + κ) = mc_i (oo κ) ∧ (κ + 1 < w → pp (κ + 1) = ee κ + 1 ∧ tk (ee κ) = if oo (κ + 1) then 8 else 7) ∧ (κ + 1 = w → tk (ee κ) = 9)) ∧ oo 0 = true ∧
  (σ = 1 → 0 < w ∧ pp 0 = s + 1) ∧
  (¬ σ = 1 → ∃ n c m : Nat, EX tk vl (M 78) (M 79) (s + 1) n c m val ∧ 500 * l ≤ c ∧ c + m ≤ 500 * l + 400 ∧ s + 1 + n < T ∧ M 68 (20 * l + r) = nI c ∧ M 69 (20 * l + r) = nI (c + m) ∧ (tk (s + 1 + n) = 9 ∧ w = 0 ∨ tk (s + 1 + n) = 6 ∧ 0 < w ∧ pp 0 = s + 1 + n + 1)) ∧
  ∀ v, h v = (decide (w = 0) || k_M oo (fun κ => tt κ v) w 0 false)
def rs (R : Nat) (a' a : am_S) : Prop := rw_on [R, R + 4, R + 5] a' a ∧ ∀ k, k ≠ 5 → a'.1 R k = a.1 R k
theorem rs.refl (R : Nat) (a : am_S) : rs R a a := ⟨rw_on.refl _ _, fun _ _ => rfl⟩
theorem rs.trans {R : Nat} {x y z : am_S} (h : rs R x y) (h' : rs R y z) : rs R x z := ⟨h.1.trans h'.1, fun k hk => (h.2 k hk).trans (h'.2 k hk)⟩
theorem rs.w5 (R : Nat) (a : am_S) (x : Int32) : rs R (am_wI a R 5 x) a := ⟨(rw_on.refl _ _).w (by simp) _ _, fun k hk => by simp [rl_wI, hk]⟩
/-- the rules as the tokens' side holds them -/
def cl (R : Nat) (a : am_S) (st tk vl : Nat → Int32) (T N : Nat) (v : Nat → Int32) : Prop := a.1 (R + 1) = st ∧ a.1 (R + 2) = tk ∧ a.1 (R + 3) = vl ∧ a.1 R 2 = nI T ∧ a.1 R 0 = nI N ∧ a.1 57 = v
theorem cl.on {R : Nat} {a a' : am_S} {st tk vl : Nat → Int32} {T N : Nat} {v : Nat → Int32} (hR : R ≤ 11) (h : cl R a st tk vl T N v) (ho : rs R a' a) : cl R a' st tk vl T N v := by
  obtain ⟨h1, h2, h3, h4, h5, h6⟩ := h
  exact ⟨by rw [(ho.1 (R + 1) (by simp)).1]; exact h1, by rw [(ho.1 (R + 2) (by simp)).1]; exact h2, by rw [(ho.1 (R + 3) (by simp)).1]; exact h3, by rw [ho.2 2 (by decide)]; exact h4, by rw [ho.2 0 (by decide)]; exact h5, by rw [(ho.1 57 (by simp; omega)).1]; exact h6⟩
section TOK
variable {R T N : Nat} {st tk vl v : Nat → Int32}
theorem tk_take {a : am_S} {p : Nat} (hT : T ≤ 400) (hc : cl R a st tk vl T N v) (hp : p < T) (e5 : a.1 R 5 = nI p) : f_X8_takeToken R a = some (tk p, am_wI a R 5 (nI (p + 1))) := by
  have d0 : ¬ nI p < 0 := nI_pos (by omega)
  have d1 : nI p < nI T := nI_lt hp (by omega)
  have d2 : am_in (nI p) 400 = true := rl_nin (by decide) (by omega)
  have d3 : (nI p).toNatClampNeg = p := nI_clamp (by omega)
  have d4 : nI p + 1 = nI (p + 1) := nI_1 p
  have d5 : nI (p + 1) - 1 = nI p := nI_pred p
  simp only [f_X8_takeToken, e5, if_neg d0, hc.2.2.2.1, if_pos d1, d4, d5, rl_gu d2, d3, hc.2.1]
theorem tk_ex {a : am_S} {cd ci : Nat → Int32} {i n k m : Nat} {X : (Nat → Int32) → Int32} (hR : R ≤ 11) (hT : T ≤ 400) (hc : cl R a st tk vl T N v) (hx : EX tk vl cd ci i n k m X) (hin : i + n < T) (e5 : a.1 R 5 = nI i) : ∃ a', f_X8_expression R a = some (X v, a') ∧ a'.1 R 5 = nI (i + n) ∧ rs R a' a := by
  obtain ⟨x1, x2, x3, -, -, x4⟩ := hx
  obtain ⟨a', g1, g2, g3, g4⟩ := ev_all hR hT hin x1 x2 x3 hc.2.1 hc.2.2.1 e5 hc.2.2.2.1
  rw [hc.2.2.2.2.2, (x4 v).1] at g1
  exact ⟨a', g1, g2, g3, g4⟩
theorem tk_re {a : am_S} {M : Nat → Nat → Int32} {C κ p e : Nat} {t : (Nat → Int32) → Bool} (hR : R ≤ 11) (hT : T ≤ 400) (hc : cl R a st tk vl T N v) (hx : RE tk vl M C κ p e t) (he : e < T) (e5 : a.1 R 5 = nI p) : ∃ a', f_X8_relation R a = some (mc_i (t v), a') ∧ a'.1 R 5 = nI e ∧ rs R a' a := by
  obtain ⟨n, n', c, m, m', σ, X, Y, h1, h2, -, -, h3, -, -, -, -, h4, h5, h6⟩ := hx
  obtain ⟨a1, g1, g2, g3⟩ := tk_ex hR hT hc h4 (by omega) e5
  have hc1 := hc.on hR g3
  have g4 := tk_take hT hc1 (p := p + n) (by omega) g2
  have hc2 := hc1.on hR (rs.w5 R a1 (nI (p + n + 1)))
  obtain ⟨a2, k1, k2, k3⟩ := tk_ex hR hT hc2 h5 (by omega) (by simp [rl_wI])
  refine ⟨a2, ?_, by rw [k2, h2], k3.trans ((rs.w5 _ _ _).trans g3)⟩
  rw [h6 v]
  simp only [f_X8_relation, g1, rl_bd, g4, k1, h3]
  match σ, h1 with
  | 0, _ => by_cases q : X v = Y v <;> simp [k_S, q, mc_i, show nI (13 + 0) = 13 from rfl]
  | 1, _ => by_cases q : X v = Y v <;> simp [k_S, q, mc_i, show nI (13 + 1) = 14 from rfl]
  | 2, _ => by_cases q : X v < Y v <;> simp [k_S, q, mc_i, show nI (13 + 2) = 15 from rfl]
  | 3, _ => by_cases q : Y v < X v <;> simp [k_S, q, mc_i, show nI (13 + 3) = 16 from rfl]
theorem mc_01 (b : Bool) : (mc_i b = 0 ↔ b = false) := by cases b <;> decide
theorem tk_cond {M : Nat → Nat → Int32} {C f w : Nat} {pp ee : Nat → Nat} {tt : Nat → (Nat → Int32) → Bool} {oo : Nat → Bool} (hR : R ≤ 11) (hT : T ≤ 400) (hw : w ≤ 200) (H : ∀ κ, κ < w → RE tk vl M C (f + κ) (pp κ) (ee κ) (tt κ) ∧ ee κ < T ∧ (κ + 1 < w → pp (κ + 1) = ee κ + 1 ∧ tk (ee κ) = if oo (κ + 1) then 8 else 7) ∧ (κ + 1 = w → tk (ee κ) = 9)) : ∀ (d κ F : Nat) (x y : Bool) (a : am_S), d + 1 + κ = w → d + 1 < F → cl R a st tk vl T N v → a.1 R 5 = nI (pp κ) → ∃ (x' y' : Bool) (a' : am_S), f_X8_condition_L7 R F (mc_i x) (mc_i y) (nI κ) a = some (.inr ((mc_i x', mc_i y'), a')) ∧ (x' || y') = k_C oo (fun κ => tt κ v) (d + 1) κ x y ∧ rs R a' a := by
  intro d
  induction d with
  | zero =>
    intro κ F x y a hd hF hc e5
    obtain ⟨F', rfl⟩ : ∃ F', F = F' + 1 := ⟨F - 1, by omega⟩
    obtain ⟨h1, h2, -, h3⟩ := H κ (by omega)
    obtain ⟨a1, g1, g2, g3⟩ := tk_re hR hT hc h1 h2 e5
    have hc1 := hc.on hR g3
    have g4 := tk_take hT hc1 (p := ee κ) h2 g2
    rw [h3 (by omega)] at g4
    have d1 : nI κ < 400 := nI_lt (b := 400) (by omega) (by decide)
    refine ⟨x, y && tt κ v, _, ?_, by rw [k_C, if_pos rfl], (rs.w5 R a1 (nI (ee κ + 1))).trans g3⟩
    cases y <;> cases htt : tt κ v <;> rw [htt] at g1 <;> simp [f_X8_condition_L7, d1, am_bd, am_jn, g1, g4, mc_i]
  | succ d ih =>
    intro κ F x y a hd hF hc e5
    obtain ⟨F', rfl⟩ : ∃ F', F = F' + 1 := ⟨F - 1, by omega⟩
    obtain ⟨h1, h2, h3, -⟩ := H κ (by omega)
    obtain ⟨h4, h5⟩ := h3 (by omega)
    obtain ⟨a1, g1, g2, g3⟩ := tk_re hR hT hc h1 h2 e5
    have hc1 := hc.on hR g3
    have g4 := tk_take hT hc1 (p := ee κ) h2 g2
    have d1 : nI κ < 400 := nI_lt (b := 400) (by omega) (by decide)
    have d4 : nI κ + 1 = nI (κ + 1) := nI_1 κ
    have hc2 := hc1.on hR (rs.w5 R a1 (nI (ee κ + 1)))
    have e5' : (am_wI a1 R 5 (nI (ee κ + 1))).1 R 5 = nI (pp (κ + 1)) := by rw [h4]; simp [rl_wI]
    rw [k_C, if_neg (by omega)]
    cases ho : oo (κ + 1) with
    | true =>
      rw [ho] at h5
      rw [if_pos rfl] at h5
      rw [h5] at g4
      obtain ⟨x', y', a', k1, k2, k3⟩ := ih (κ + 1) F' (x || (y && tt κ v)) true _ (by omega) (by omega) hc2 e5'
      refine ⟨x', y', a', ?_, by rw [if_pos rfl]; exact k2, k3.trans ((rs.w5 _ _ _).trans g3)⟩
      rw [← k1]
      cases x <;> cases y <;> cases htt : tt κ v <;> rw [htt] at g1 <;> simp [f_X8_condition_L7, d1, am_bd, am_jn, g1, g4, mc_i, d4]
    | false =>
      rw [ho] at h5
      rw [if_neg (by decide)] at h5
      rw [h5] at g4
      obtain ⟨x', y', a', k1, k2, k3⟩ := ih (κ + 1) F' x (y && tt κ v) _ (by omega) (by omega) hc2 e5'
      refine ⟨x', y', a', ?_, by rw [if_neg (by decide)]; exact k2, k3.trans ((rs.w5 _ _ _).trans g3)⟩
      rw [← k1]
      cases y <;> cases htt : tt κ v <;> rw [htt] at g1 <;> simp [f_X8_condition_L7, d1, am_bd, am_jn, g1, g4, mc_i, d4]
end TOK
