/-! ===== the rules' meaning stays where their cells stay ===== -/
theorem lev_cg {tk tk' : Nat → Int32} {i n : Nat} (h : ∀ j, i ≤ j → j < i + n → tk' j = tk j) : ∀ m, m ≤ n → lev tk' i m = lev tk i m := by
  intro m
  induction m with
  | zero => intro _; rfl
  | succ m ih => intro hm; rw [lev, lev, ih (by omega), h (i + m) (by omega) (by omega)]
theorem xC_cg {tk tk' : Nat → Int32} {i n : Nat} (h : ∀ j, i ≤ j → j < i + n → tk' j = tk j) (hx : xC tk i n) : xC tk' i n := by
  intro m hm
  rw [h (i + m) (by omega) (by omega), lev_cg h m (by omega)]
  exact hx m hm
theorem c_cg {tk tk' vl vl' v : Nat → Int32} {i n : Nat} (h : ∀ j, i ≤ j → j < i + n → tk' j = tk j ∧ vl' j = vl j) : ∀ m, m ≤ n → c_run tk' vl' v i m = c_run tk vl v i m := by
  intro m
  induction m with
  | zero => intro _; rfl
  | succ m ih => intro hm; rw [c_run, c_run, ih (by omega), (h (i + m) (by omega) (by omega)).1, (h (i + m) (by omega) (by omega)).2]
theorem m_cg {cd cd' ci ci' v : Nat → Int32} {k n : Nat} (h : ∀ j, k ≤ j → j < k + n → cd' j = cd j ∧ ci' j = ci j) : ∀ m, m ≤ n → m_run cd' ci' v k m = m_run cd ci v k m := by
  intro m
  induction m with
  | zero => intro _; rfl
  | succ m ih => intro hm; rw [m_run, m_run, ih (by omega), (h (k + m) (by omega) (by omega)).1, (h (k + m) (by omega) (by omega)).2]
theorem xM_cg {cd cd' ci ci' : Nat → Int32} {k n : Nat} (h : ∀ j, k ≤ j → j < k + n → cd' j = cd j ∧ ci' j = ci j) (hx : xM cd ci k n) : xM cd' ci' k n := by
  intro v m hm
  rw [m_cg h m (by omega), (h (k + m) (by omega) (by omega)).1, (h (k + m) (by omega) (by omega)).2]
  exact hx v m hm
theorem EX.fr {tk vl cd ci tk' vl' cd' ci' : Nat → Int32} {i n k m : Nat} {X : (Nat → Int32) → Int32} (hx : EX tk vl cd ci i n k m X) (h : ∀ j, i ≤ j → j ≤ i + n → tk' j = tk j ∧ vl' j = vl j) (h2 : ∀ j, k ≤ j → j < k + m → cd' j = cd j ∧ ci' j = ci j) : EX tk' vl' cd' ci' i n k m X := by
  obtain ⟨x1, x2, x3, x4, x5, x6⟩ := hx
  have h3 : ∀ j, i ≤ j → j < i + n → tk' j = tk j := fun j q1 q2 => (h j q1 (by omega)).1
  refine ⟨xC_cg h3 x1, by rw [lev_cg h3 n (Nat.le_refl _)]; exact x2, by rw [(h (i + n) (by omega) (Nat.le_refl _)).1]; exact x3, xM_cg h2 x4, x5, fun v => ?_⟩
  rw [c_cg (fun j q1 q2 => h j q1 (by omega)) n (Nat.le_refl _), m_cg h2 m (Nat.le_refl _)]
  exact x6 v
theorem RE.fr {tk vl tk' vl' : Nat → Int32} {M M' : Nat → Nat → Int32} {C κ p e : Nat} {t : (Nat → Int32) → Bool} (hx : RE tk vl M C κ p e t) (h : ∀ j, p ≤ j → j ≤ e → tk' j = tk j ∧ vl' j = vl j) (h1 : ∀ c, 73 ≤ c → c ≤ 76 → M' c κ = M c κ) (h2 : ∀ j, C ≤ j → j < C + 400 → M' 78 j = M 78 j ∧ M' 79 j = M 79 j) : RE tk' vl' M' C κ p e t := by
  obtain ⟨n, n', c, m, m', σ, X, Y, r1, r2, r3, r4, r5, r6, r7, r8, r9, r10, r11, r12⟩ := hx
  refine ⟨n, n', c, m, m', σ, X, Y, r1, r2, r3, r4, ?_, ?_, ?_, ?_, ?_, r10.fr (fun j q1 q2 => h j q1 (by omega)) (fun j q1 q2 => h2 j (by omega) (by omega)), r11.fr (fun j q1 q2 => h j (by omega) (by omega)) (fun j q1 q2 => h2 j (by omega) (by omega)), r12⟩
  · rw [(h (p + n) (by omega) (by omega)).1]; exact r5
  · rw [h1 73 (by decide) (by decide)]; exact r6
  · rw [h1 74 (by decide) (by decide)]; exact r7
  · rw [h1 75 (by decide) (by decide)]; exact r8
  · rw [h1 76 (by decide) (by decide)]; exact r9
theorem RU.fr {st tk vl st' tk' vl' : Nat → Int32} {M M' : Nat → Nat → Int32} {T T' l r σ : Nat} {hd : (Nat → Int32) → Bool} {val : (Nat → Int32) → Int32} (hx : RU st tk vl M T l r σ hd val) (hT : T ≤ T') (hs : st' r = st r) (h : ∀ j, j < T → tk' j = tk j ∧ vl' j = vl j) (h0 : ∀ c, 67 ≤ c → c ≤ 71 → M' c (20 * l + r) = M c (20 * l + r)) (h1 : ∀ c κ f, 73 ≤ c → c ≤ 77 → M 71 (20 * l + r) = nI f → f ≤ 200 → κ < 200 * l + f → 200 * l ≤ κ → M' c κ = M c κ) (h2 : ∀ j, 500 * l ≤ j → j < 500 * l + 400 → M' 78 j = M 78 j ∧ M' 79 j = M 79 j) : RU st' tk' vl' M' T' l r σ hd val := by
  obtain ⟨s, f, w, tt, pp, ee, oo, u1, u2, u3, u4, u5, u6, u7, u8, u9, u10, u11, u12, u13⟩ := hx
  refine ⟨s, f, w, tt, pp, ee, oo, by rw [hs]; exact u1, by omega, u3, by rw [(h s u2).1]; exact u4, by rw [h0 67 (by decide) (by decide)]; exact u5, u6, by rw [h0 70 (by decide) (by decide)]; exact u7, by rw [h0 71 (by decide) (by decide)]; exact u8, fun κ hκ => ?_, u10, u11, fun hσ => ?_, u13⟩
  · obtain ⟨y1, y2, y3, y4, y5⟩ := u9 κ hκ
    refine ⟨y1.fr (fun j q1 q2 => h j (by omega)) (fun c q1 q2 => h1 c _ _ q1 (by omega) u8 u6 (by omega) (by omega)) h2, by omega, by rw [h1 77 _ _ (by decide) (by decide) u8 u6 (by omega) (by omega)]; exact y3, fun q => ?_, fun q => ?_⟩
    · rw [(h (ee κ) y2).1]; exact y4 q
    · rw [(h (ee κ) y2).1]; exact y5 q
  · obtain ⟨n, c, m, x1, x2, x3, x4, x5, x6, x7⟩ := u12 hσ
    refine ⟨n, c, m, x1.fr (fun j q1 q2 => h j (by omega)) (fun j q1 q2 => h2 j (by omega) (by omega)), x2, x3, by omega, by rw [h0 68 (by decide) (by decide)]; exact x5, by rw [h0 69 (by decide) (by decide)]; exact x6, ?_⟩
    rw [(h (s + 1 + n) x4).1]
    exact x7
/-- the rules in force: R the tokens' side, M the codes' side -/
def RR (R : Nat) (a b : am_S) : Prop := ∃ (l T N : Nat) (sg : Nat → Nat) (hd : Nat → (Nat → Int32) → Bool) (vv : Nat → (Nat → Int32) → Int32), RS (a.1 (R + 1)) (a.1 (R + 2)) (a.1 (R + 3)) b.1 T l N sg hd vv ∧ a.1 R 2 = nI T ∧ a.1 R 0 = nI N ∧ b.1 58 18 = nI l ∧ b.1 66 l = nI N
theorem RR.fr {R : Nat} {a b a' b' : am_S} (h : RR R a b) (h1 : ∀ i, 1 ≤ i → i ≤ 3 → a'.1 (R + i) = a.1 (R + i)) (h2 : a'.1 R 2 = a.1 R 2) (h0 : a'.1 R 0 = a.1 R 0) (hb : b'.1 58 18 = b.1 58 18) (hm : ∀ c, 66 ≤ c → c ≤ 79 → b'.1 c = b.1 c) : RR R a' b' := by
  obtain ⟨l, T, N, sg, hd, vv, ⟨q1, q2, q3, q4⟩, k1, k2, k3, k4⟩ := h
  refine ⟨l, T, N, sg, hd, vv, ⟨q1, q2, q3, fun r hr => ?_⟩, by rw [h2]; exact k1, by rw [h0]; exact k2, by rw [hb]; exact k3, by rw [hm 66 (by decide) (by decide)]; exact k4⟩
  refine (q4 r hr).fr (Nat.le_refl _) ?_ ?_ ?_ ?_ ?_
  · rw [h1 1 (by decide) (by decide)]
  · intro j _
    rw [h1 2 (by decide) (by decide), h1 3 (by decide) (by decide)]
    exact ⟨rfl, rfl⟩
  · intro c q1 q2
    rw [hm c (by omega) (by omega)]
  · intro c κ f q1 q2 _ _ _ _
    rw [hm c (by omega) (by omega)]
  · intro j _ _
    rw [hm 78 (by decide) (by decide), hm 79 (by decide) (by decide)]
    exact ⟨rfl, rfl⟩
