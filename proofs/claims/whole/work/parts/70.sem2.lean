/-! ===== an expression is worked out, on both sides ===== -/
theorem ev_loop {R T i n : Nat} {tk vl : Nat → Int32} (hR : R ≤ 11) (hT : T ≤ 400) (hin : i + n < T) (hx : xC tk i n) (hlv : lev tk i n = 0) (ht : isT (tk (i + n))) : ∀ (d m : Nat) (F : Nat) (a : am_S), d + m = n → d + 2 ≤ F → a.1 (R + 2) = tk → a.1 (R + 3) = vl → a.1 R 5 = nI (i + m) → a.1 R 2 = nI T → ag a R (c_run tk vl (a.1 57) i m) → ∃ a', f_X8_expression_L9 R F (nI (lev tk i m)) 1 a = some (.inr ((), a')) ∧ a'.1 (R + 4) 0 = (c_run tk vl (a.1 57) i n).2.1 0 ∧ a'.1 (R + 5) 0 = (c_run tk vl (a.1 57) i n).2.2 0 ∧ a'.1 R 5 = nI (i + n) ∧ rw_on [R, R + 4, R + 5] a' a ∧ ∀ k, k ≠ 5 → a'.1 R k = a.1 R k := by
  intro d
  induction d with
  | zero =>
    intro m F a hd hF e2 e3 e5 eT hag
    have em : m = n := by omega
    subst em
    obtain ⟨F', rfl⟩ : ∃ F', F = F' + 2 := ⟨F - 2, by omega⟩
    have g := hag 0 (Nat.zero_le _)
    refine ⟨_, by rw [hlv]; exact ev_end hR hin hT e5 eT rfl (by rw [e2]; exact ht), ?_, ?_, ?_, ((rw_on.refl _ _).w (by simp) _ _).w (by simp) _ _, fun k hk => ?_⟩
    · simp [rl_wI, show R + 4 ≠ R by omega, show R + 4 ≠ R + 5 by omega, g.1]
    · simp [rl_wI, show R + 5 ≠ R by omega, g.2]
    · simp [rl_wI]
    · simp [rl_wI, hk, show R ≠ R + 5 by omega]
  | succ d ih =>
    intro m F a hd hF e2 e3 e5 eT hag
    obtain ⟨F', rfl⟩ : ∃ F', F = F' + 1 := ⟨F - 1, by omega⟩
    obtain ⟨x1, x2, x3⟩ := hx m (by omega)
    obtain ⟨a1, g1, g2, g3, g4, g5⟩ := ev_step (n := F') (t := tk (i + m)) (x := vl (i + m)) (q := c_run tk vl (a.1 57) i m) hR (c_lev tk vl (a.1 57) i m) (lev_le hx m (by omega)) (show i + m < T by omega) hT e5 eT (by rw [e2]) (by rw [e3]) x1 x2 x3 hag
    have z57 : a1.1 57 = a.1 57 := (g4 57 (by simp; omega)).1
    have q : c_run tk vl (a1.1 57) i (m + 1) = c_step (tk (i + m)) (vl (i + m)) (a.1 57) (c_run tk vl (a.1 57) i m) := by rw [z57]; rfl
    obtain ⟨a2, k1, k2, k3, k4, k5, k6⟩ := ih (m + 1) F' a1 (by omega) (by omega) (by rw [(g4 (R + 2) (by simp)).1]; exact e2) (by rw [(g4 (R + 3) (by simp)).1]; exact e3) (by rw [g3]; rfl) (by rw [g5 2 (by decide)]; exact eT) (by rw [q]; exact g2)
    rw [z57] at k2 k3
    have lv : (c_step (tk (i + m)) (vl (i + m)) (a.1 57) (c_run tk vl (a.1 57) i m)).1 = lev tk i (m + 1) := by rw [← c_lev tk vl (a.1 57) i (m + 1)]; rfl
    refine ⟨a2, ?_, k2, k3, k4, k5.trans g4, fun k hk => (k6 k hk).trans (g5 k hk)⟩
    rw [g1, lv]
    exact k1
theorem ev_all {R T i n : Nat} {tk vl : Nat → Int32} {a : am_S} (hR : R ≤ 11) (hT : T ≤ 400) (hin : i + n < T) (hx : xC tk i n) (hlv : lev tk i n = 0) (ht : isT (tk (i + n))) (e2 : a.1 (R + 2) = tk) (e3 : a.1 (R + 3) = vl) (e5 : a.1 R 5 = nI i) (eT : a.1 R 2 = nI T) : ∃ a', f_X8_expression R a = some ((c_run tk vl (a.1 57) i n).2.1 0 + (c_run tk vl (a.1 57) i n).2.2 0, a') ∧ a'.1 R 5 = nI (i + n) ∧ rw_on [R, R + 4, R + 5] a' a ∧ ∀ k, k ≠ 5 → a'.1 R k = a.1 R k := by
  have z0 : am_in 0 7 = true := by decide
  have z1 : (0 : Int32).toNatClampNeg = 0 := by decide
  have o0 : rw_on [R, R + 4, R + 5] (am_wI (am_wI a (R + 4) 0 0) (R + 5) 0 1) a := ((rw_on.refl _ _).w (by simp) _ _).w (by simp) _ _
  have z57 : (am_wI (am_wI a (R + 4) 0 0) (R + 5) 0 1).1 57 = a.1 57 := (o0 57 (by simp; omega)).1
  have zR : (am_wI (am_wI a (R + 4) 0 0) (R + 5) 0 1).1 R = a.1 R := by rw [rl_wr _ _ (by omega), rl_wr _ _ (by omega)]
  obtain ⟨a', k1, k2, k3, k4, k5, k6⟩ := ev_loop (tk := tk) (vl := vl) hR hT hin hx hlv ht n 0 am_FU (am_wI (am_wI a (R + 4) 0 0) (R + 5) 0 1) (by omega) (by unfold am_FU; omega) (by rw [(o0 (R + 2) (by simp)).1]; exact e2) (by rw [(o0 (R + 3) (by simp)).1]; exact e3) (by rw [zR]; exact e5) (by rw [zR]; exact eT) (by
    intro l hl
    have hl0 : l = 0 := Nat.le_zero.mp hl
    subst hl0
    simp [rl_wI, c_run, up1])
  rw [z57] at k2 k3
  have k1 : f_X8_expression_L9 R am_FU 0 1 (am_wI (am_wI a (R + 4) 0 0) (R + 5) 0 1) = some (.inr ((), a')) := k1
  refine ⟨a', ?_, k4, k5.trans o0, fun k hk => (k6 k hk).trans (by rw [zR])⟩
  simp only [f_X8_expression, f_X8_beginSum, rl_gu z0, z1, rl_bd, k1, am_lp, k2, k3]
/-- the pile, its top first -/
def m_step (v : Nat → Int32) (k x : Int32) (st : List Int32) : List Int32 :=
  if k = 0 then x :: st else if k = 1 then v x.toNatClampNeg :: st else match st with
    | y :: z :: r => (if k = 2 then z + y else if k = 3 then z - y else z * y) :: r
    | _ => st
def m_run (cd ci v : Nat → Int32) (c : Nat) : Nat → List Int32
  | 0 => []
  | n + 1 => m_step v (cd (c + n)) (ci (c + n)) (m_run cd ci v c n)
def okM (k x : Int32) (st : List Int32) : Prop := k = 0 ∨ (k = 1 ∧ ∃ w : Nat, w < 8 ∧ x = nI w) ∨ ((k = 2 ∨ k = 3 ∨ k = 4) ∧ 2 ≤ st.length)
def xM (cd ci : Nat → Int32) (c n : Nat) : Prop := ∀ v, ∀ m, m < n → okM (cd (c + m)) (ci (c + m)) (m_run cd ci v c m)
def pl (P : Nat → Int32) : List Int32 → Prop
  | [] => True
  | x :: r => P r.length = x ∧ pl P r
theorem pl_up {P : Nat → Int32} {k : Nat} {x : Int32} : ∀ st : List Int32, st.length ≤ k → pl P st → pl (up1 P k x) st := by
  intro st
  induction st with
  | nil => intro _ _; trivial
  | cons y r ih =>
    intro h1 h2
    simp only [List.length_cons] at h1
    exact ⟨by rw [up1_n (by omega)]; exact h2.1, ih (by omega) h2.2⟩
theorem m_step0 (v : Nat → Int32) (x : Int32) (st : List Int32) : m_step v 0 x st = x :: st := by
  unfold m_step
  exact if_pos rfl
theorem m_step1 (v : Nat → Int32) (x : Int32) (st : List Int32) : m_step v 1 x st = v x.toNatClampNeg :: st := by
  unfold m_step
  rw [if_neg (by decide), if_pos rfl]
theorem m_len (v : Nat → Int32) (k x : Int32) (st : List Int32) : (m_step v k x st).length ≤ st.length + 1 := by
  unfold m_step
  split
  · simp
  · split
    · simp
    · split
      · simp
      · simp
theorem m_rlen (cd ci v : Nat → Int32) (c n : Nat) : (m_run cd ci v c n).length ≤ n := by
  induction n with
  | zero => simp [m_run]
  | succ n ih =>
    rw [m_run]
    have := m_len v (cd (c + n)) (ci (c + n)) (m_run cd ci v c n)
    omega
theorem va_step {b : am_S} {c N F : Nat} {v : Nat → Int32} {st : List Int32} (hc : c < N) (hN : N ≤ 1000) (hst : st.length < 499) (hv : b.1 102 = v) (hok : okM (b.1 78 c) (b.1 79 c) st) (hp : pl (b.1 103) st) : ∃ b', f_X12_value_L5 (F + 1) (nI N) (nI st.length) (nI c) b = f_X12_value_L5 F (nI N) (nI (m_step v (b.1 78 c) (b.1 79 c) st).length) (nI (c + 1)) b' ∧ pl (b'.1 103) (m_step v (b.1 78 c) (b.1 79 c) st) ∧ rw_on [103] b' b := by
  have d1 : nI c < nI N := nI_lt hc (by omega)
  have d2 : am_in (nI c) 1000 = true := rl_nin (by decide) (by omega)
  have d3 : (nI c).toNatClampNeg = c := nI_clamp (by omega)
  have d4 : nI c + 1 = nI (c + 1) := nI_1 c
  have s2 : am_in (nI st.length) 500 = true := rl_nin (by decide) (by omega)
  have s3 : (nI st.length).toNatClampNeg = st.length := nI_clamp (by omega)
  have s4 : nI st.length + 1 = nI (st.length + 1) := nI_1 _
  rcases hok with h | ⟨h, w, w1, w2⟩ | ⟨h, hl⟩
  · refine ⟨am_wI b 103 st.length (b.1 79 c), ?_, ?_, (rw_on.refl _ _).w (by simp) _ _⟩
    · have z : (0 : Int32) < 2 := by decide
      simp [f_X12_value_L5, d1, am_gu, am_jn, d2, d3, h, z, s2, s3, s4, d4, m_step]
    · rw [h, m_step0, rl_ws]
      exact ⟨by simp, pl_up st (Nat.le_refl _) hp⟩
  · have w3 : am_in (nI w) 8 = true := rl_nin (by decide) w1
    have w4 : (nI w).toNatClampNeg = w := nI_clamp (by omega)
    refine ⟨am_wI b 103 st.length (v w), ?_, ?_, (rw_on.refl _ _).w (by simp) _ _⟩
    · have z : (1 : Int32) < 2 := by decide
      simp [f_X12_value_L5, d1, am_gu, am_jn, d2, d3, h, z, s2, s3, s4, d4, m_step, w2, w3, w4, hv]
    · rw [h, m_step1, rl_ws, w2, w4]
      exact ⟨by simp, pl_up st (Nat.le_refl _) hp⟩
  · match st, hl with
    | y :: z :: r, _ =>
      simp only [List.length_cons] at hst s2 s3 s4 ⊢
      have e1 : nI (r.length + 1 + 1) + -1 = nI (r.length + 1) := pk_m1 _
      have e2 : nI (r.length + 1) - 1 = nI r.length := nI_pred _
      have e3 : am_in (nI (r.length + 1)) 500 = true := rl_nin (by decide) (by omega)
      have e4 : (nI (r.length + 1)).toNatClampNeg = r.length + 1 := nI_clamp (by omega)
      have e5 : am_in (nI r.length) 500 = true := rl_nin (by decide) (by omega)
      have e6 : (nI r.length).toNatClampNeg = r.length := nI_clamp (by omega)
      obtain ⟨p1, p2, p3⟩ := hp
      simp only [List.length_cons] at p1
      have fin : ∀ x, pl ((am_wI b 103 r.length x).1 103) (x :: r) := by
        intro x
        rw [rl_ws]
        exact ⟨by simp, pl_up r (Nat.le_refl _) p3⟩
      rcases h with h | h | h
      · refine ⟨am_wI b 103 r.length (z + y), ?_, ?_, (rw_on.refl _ _).w (by simp) _ _⟩
        · have q : ¬ (2 : Int32) < 2 := by decide
          simp [f_X12_value_L5, d1, am_gu, am_jn, d2, d3, h, q, e1, e2, e3, e4, e5, e6, p1, p2, d4, m_step]
        · have : m_step v (b.1 78 c) (b.1 79 c) (y :: z :: r) = (z + y) :: r := by rw [h]; rfl
          rw [this]; exact fin _
      · refine ⟨am_wI b 103 r.length (z - y), ?_, ?_, (rw_on.refl _ _).w (by simp) _ _⟩
        · have q : ¬ (3 : Int32) < 2 := by decide
          simp [f_X12_value_L5, d1, am_gu, am_jn, d2, d3, h, q, e1, e2, e3, e4, e5, e6, p1, p2, d4, m_step]
        · have : m_step v (b.1 78 c) (b.1 79 c) (y :: z :: r) = (z - y) :: r := by rw [h]; rfl
          rw [this]; exact fin _
      · refine ⟨am_wI b 103 r.length (z * y), ?_, ?_, (rw_on.refl _ _).w (by simp) _ _⟩
        · have q : ¬ (4 : Int32) < 2 := by decide
          simp [f_X12_value_L5, d1, am_gu, am_jn, d2, d3, h, q, e1, e2, e3, e4, e5, e6, p1, p2, d4, m_step]
        · have : m_step v (b.1 78 c) (b.1 79 c) (y :: z :: r) = (z * y) :: r := by rw [h]; rfl
          rw [this]; exact fin _
theorem va_loop {c n : Nat} {cd ci v : Nat → Int32} (hN : c + n ≤ 1000) (hn : n ≤ 400) (hx : xM cd ci c n) : ∀ (d m F : Nat) (b : am_S), d + m = n → d < F → b.1 78 = cd → b.1 79 = ci → b.1 102 = v → pl (b.1 103) (m_run cd ci v c m) → ∃ b', f_X12_value_L5 F (nI (c + n)) (nI (m_run cd ci v c m).length) (nI (c + m)) b = some (.inr ((), b')) ∧ pl (b'.1 103) (m_run cd ci v c n) ∧ rw_on [103] b' b := by
  intro d
  induction d with
  | zero =>
    intro m F b hd hF e1 e2 e3 hp
    have em : m = n := by omega
    subst em
    obtain ⟨F', rfl⟩ : ∃ F', F = F' + 1 := ⟨F - 1, by omega⟩
    have d1 : ¬ nI (c + m) < nI (c + m) := nI_nlt (Nat.le_refl _) (by omega)
    exact ⟨b, by simp [f_X12_value_L5, d1], hp, rw_on.refl _ _⟩
  | succ d ih =>
    intro m F b hd hF e1 e2 e3 hp
    obtain ⟨F', rfl⟩ : ∃ F', F = F' + 1 := ⟨F - 1, by omega⟩
    have hl := m_rlen cd ci v c m
    obtain ⟨b1, g1, g2, g3⟩ := va_step (F := F') (c := c + m) (N := c + n) (v := v) (by omega) hN (by omega) e3 (by rw [e1, e2]; exact hx v m (by omega)) hp
    rw [e1, e2] at g1 g2
    obtain ⟨b2, k1, k2, k3⟩ := ih (m + 1) F' b1 (by omega) (by omega) (by rw [(g3 78 (by simp)).1]; exact e1) (by rw [(g3 79 (by simp)).1]; exact e2) (by rw [(g3 102 (by simp)).1]; exact e3) g2
    exact ⟨b2, g1.trans k1, k2, k3.trans g3⟩
theorem va_all {c n : Nat} {cd ci : Nat → Int32} {b : am_S} {x : Int32} (hN : c + n ≤ 1000) (hn : n ≤ 400) (hx : xM cd ci c n) (e1 : b.1 78 = cd) (e2 : b.1 79 = ci) (hv : m_run cd ci (b.1 102) c n = [x]) : ∃ b', f_X12_value b (nI c) (nI (c + n)) = some (x, b') ∧ rw_on [103] b' b := by
  obtain ⟨b', g1, g2, g3⟩ := va_loop hN hn hx n 0 am_FU b (by omega) (by unfold am_FU; omega) e1 e2 rfl trivial
  rw [hv] at g2
  have g1 : f_X12_value_L5 am_FU (nI (c + n)) 0 (nI c) b = some (.inr ((), b')) := g1
  have g4 : b'.1 103 0 = x := g2.1
  have z0 : am_in 0 500 = true := by decide
  have z1 : (0 : Int32).toNatClampNeg = 0 := by decide
  exact ⟨b', by simp only [f_X12_value, g1, am_lp, rl_gu z0, z1, g4], g3⟩
