/-! ===== two states: the class's cells of one, the reference's of the other ===== -/
def mg (a b : am_S) : am_S := (fun c => if c < 58 then a.1 c else b.1 c, fun c => if c < 58 then a.2 c else b.2 c)
theorem mg_self (s : am_S) : mg s s = s := by
  unfold mg
  refine Prod.ext ?_ ?_
  · funext c; simp
  · funext c; simp
def rw_on (L : List Nat) (t s : am_S) : Prop := ∀ c, c ∉ L → t.1 c = s.1 c ∧ t.2 c = s.2 c
theorem rw_on.refl (L : List Nat) (s : am_S) : rw_on L s s := fun _ _ => ⟨rfl, rfl⟩
theorem rw_on.trans {L : List Nat} {r t s : am_S} (h : rw_on L r t) (h' : rw_on L t s) : rw_on L r s := fun c hc => ⟨(h c hc).1.trans (h' c hc).1, (h c hc).2.trans (h' c hc).2⟩
theorem rw_on.mono {L L' : List Nat} {t s : am_S} (h : rw_on L t s) (hL : ∀ c ∈ L, c ∈ L') : rw_on L' t s := fun c hc => h c (fun q => hc (hL c q))
theorem rw_on.w {L : List Nat} {t s : am_S} {c : Nat} (h : rw_on L t s) (hc : c ∈ L) (k : Nat) (x : Int32) : rw_on L (am_wI t c k x) s := by
  intro d hd
  have e : d ≠ c := fun q => hd (q ▸ hc)
  exact ⟨(rl_wr k x e).trans (h d hd).1, (h d hd).2⟩
theorem rw_on.wl {L : List Nat} {t s : am_S} {c : Nat} (h : rw_on L t s) (hc : c ∈ L) (k : Nat) (x : Int64) : rw_on L (am_wL t c k x) s := by
  intro d hd
  have e : d ≠ c := fun q => hd (q ▸ hc)
  refine ⟨(h d hd).1, Eq.trans ?_ (h d hd).2⟩
  funext j
  simp [am_wL, am_up, e]
theorem mg_on {a a' b b' : am_S} (ha : ∀ c, c < 58 → a'.1 c = a.1 c ∧ a'.2 c = a.2 c) (hb : ∀ c, 58 ≤ c → b'.1 c = b.1 c ∧ b'.2 c = b.2 c) : mg a' b' = mg a b := by
  unfold mg
  refine Prod.ext ?_ ?_
  · funext c
    by_cases h : c < 58
    · simp [h, ha c h]
    · simp [h, hb c (by omega)]
  · funext c
    by_cases h : c < 58
    · simp [h, ha c h]
    · simp [h, hb c (by omega)]
theorem tw {α : Type} {R : am_S → Prop} {F G : am_S → Option (α × am_S)} {La Lb : List Nat} (hLa : ∀ c ∈ La, c < 58) (hLb : ∀ c ∈ Lb, 58 ≤ c) (h : ∀ a b, R (mg a b) → ∃ v a' b', F a = some (v, a') ∧ G b = some (v, b') ∧ R (mg a' b') ∧ rw_on La a' a ∧ rw_on Lb b' b) (s : am_S) (hR : R s) : ∃ v s1 s2, F s = some (v, s1) ∧ G s1 = some (v, s2) ∧ R s2 := by
  rw [← mg_self s] at hR
  obtain ⟨v, a', b', h1, h2, h3, h4, h5⟩ := h s s hR
  have e1 : mg s a' = mg s s := mg_on (fun _ _ => ⟨rfl, rfl⟩) (fun c hc => h4 c (fun q => absurd (hLa c q) (by omega)))
  obtain ⟨v', a'', b'', k1, k2, k3, k4, k5⟩ := h s a' (by rw [e1]; exact hR)
  rw [h1] at k1
  have k1 := Option.some.inj k1
  have e2 : v = v' := congrArg Prod.fst k1
  have e3 : a' = a'' := congrArg Prod.snd k1
  rw [← e2] at k2
  rw [← e3] at k3
  refine ⟨v, a', b'', h1, k2, ?_⟩
  have e4 : mg b'' b'' = mg a' b'' := mg_on (fun c hc => k5 c (fun q => absurd (hLb c q) (by omega))) (fun _ _ => ⟨rfl, rfl⟩)
  rw [mg_self] at e4
  rw [e4]
  exact k3
/-- rows and fields that are the same on both sides, but for the rows X -/
def rl_x (X : List Nat) (a b : am_S) : Prop := (∀ p ∈ rl_rows, p.1 ∉ X → a.1 p.1 = b.1 p.2) ∧ ∀ p ∈ rl_flds, a.1 p.1 p.2.1 = b.1 58 p.2.2
theorem rl_x_q {a b : am_S} (h : rl_q (mg a b)) : rl_x [] a b := by
  have d1 : ∀ p ∈ rl_rows, p.1 < 58 ∧ ¬ p.2 < 58 := by decide
  have d2 : ∀ p ∈ rl_flds, p.1 < 58 := by decide
  refine ⟨fun p hp _ => ?_, fun p hp => ?_⟩
  · have := h.1 p hp
    simpa [mg, d1 p hp] using this
  · have := h.2 p hp
    simpa [mg, d2 p hp] using this
theorem rl_x_q' {a b : am_S} (h : rl_x [] a b) : rl_q (mg a b) := by
  have d1 : ∀ p ∈ rl_rows, p.1 < 58 ∧ ¬ p.2 < 58 := by decide
  have d2 : ∀ p ∈ rl_flds, p.1 < 58 := by decide
  refine ⟨fun p hp => ?_, fun p hp => ?_⟩
  · have := h.1 p hp (by simp)
    simpa [mg, d1 p hp] using this
  · have := h.2 p hp
    simpa [mg, d2 p hp] using this
theorem rl_x.r {X : List Nat} {a b : am_S} (h : rl_x X a b) {c m : Nat} (hp : (c, m) ∈ rl_rows) (hx : c ∉ X) : b.1 m = a.1 c := (h.1 _ hp hx).symm
theorem rl_x.f {X : List Nat} {a b : am_S} (h : rl_x X a b) {c k m : Nat} (hp : (c, k, m) ∈ rl_flds) : b.1 58 m = a.1 c k := (h.2 _ hp).symm
theorem rl_x.mono {X Y : List Nat} {a b : am_S} (h : rl_x X a b) (hX : ∀ c ∈ X, c ∈ Y) : rl_x Y a b := ⟨fun p hp hx => h.1 p hp (fun q => hx (hX _ q)), h.2⟩
theorem rl_x.add {X : List Nat} {a b : am_S} {c m : Nat} (h : rl_x (c :: X) a b) (hp : (c, m) ∈ rl_rows) (e : a.1 c = b.1 m) : rl_x X a b := by
  refine ⟨fun p hp' hx => ?_, h.2⟩
  by_cases q : p.1 = c
  · have d : ∀ p ∈ rl_rows, ∀ p' ∈ rl_rows, p.1 = p'.1 → p.2 = p'.2 := by decide
    have := d p hp' (c, m) hp q
    rw [q, this]
    exact e
  · exact h.1 p hp' (by simp [q, hx])
theorem rl_d1 : ∀ p ∈ rl_rows, ∀ p' ∈ rl_rows, (p.1 = p'.1 ↔ p.2 = p'.2) := by decide
theorem rl_d2 : ∀ p ∈ rl_rows, p.2 ≠ 58 ∧ ∀ q ∈ rl_flds, p.1 ≠ q.1 := by decide
theorem rl_d3 : ∀ p ∈ rl_flds, ∀ p' ∈ rl_flds, ((p.1 = p'.1 ∧ p.2.1 = p'.2.1) ↔ p.2.2 = p'.2.2) := by decide
/-- the same entry written on both sides -/
theorem rl_x.w2 {X : List Nat} {a b : am_S} (h : rl_x X a b) {c m : Nat} (hp : (c, m) ∈ rl_rows) (k : Nat) (x : Int32) : rl_x X (am_wI a c k x) (am_wI b m k x) := by
  refine ⟨fun p hp' hx => ?_, fun p hp' => ?_⟩
  · by_cases q : p.1 = c
    · have q2 : p.2 = m := (rl_d1 p hp' _ hp).mp q
      have e := h.1 p hp' hx
      rw [q, q2] at e ⊢
      rw [rl_ws, rl_ws, e]
    · have q2 : p.2 ≠ m := fun z => q ((rl_d1 p hp' _ hp).mpr z)
      rw [rl_wr k x q, rl_wr k x q2]
      exact h.1 p hp' hx
  · have z := rl_d2 _ hp
    rw [rl_wr k x (fun q => z.2 p hp' q.symm), rl_wr k x (fun q => z.1 q.symm)]
    exact h.2 p hp'
/-- the same field written on both sides -/
theorem rl_x.f2 {X : List Nat} {a b : am_S} (h : rl_x X a b) {c k m : Nat} (hp : (c, k, m) ∈ rl_flds) (x : Int32) : rl_x X (am_wI a c k x) (am_wI b 58 m x) := by
  refine ⟨fun p hp' hx => ?_, fun p hp' => ?_⟩
  · have z := rl_d2 p hp'
    rw [rl_wr k x (z.2 _ hp), rl_wr m x z.1]
    exact h.1 p hp' hx
  · have z := rl_d3 p hp' _ hp
    rw [rl_wI, rl_wI]
    by_cases q : p.2.2 = m
    · have q2 := z.mpr q
      simp only at q2
      simp [q, q2.1, q2.2]
    · have q2 := fun y => q (z.mp y)
      simp only at q2
      have e := h.2 p hp'
      by_cases q3 : p.1 = c
      · have q4 : p.2.1 ≠ k := fun y => q2 ⟨q3, y⟩
        simp [q, q3, q4, ← e]
      · simp [q, q3, e]
/-- a row of the class that stands for nothing, or is left out -/
theorem rl_x.wa {X : List Nat} {a b : am_S} (h : rl_x X a b) {c : Nat} (h1 : ∀ p ∈ rl_rows, p.1 = c → p.1 ∈ X) (h2 : ∀ p ∈ rl_flds, p.1 ≠ c) (k : Nat) (x : Int32) : rl_x X (am_wI a c k x) b := by
  refine ⟨fun p hp' hx => ?_, fun p hp' => ?_⟩
  · rw [rl_wr k x (fun q => hx (h1 p hp' q))]
    exact h.1 p hp' hx
  · rw [rl_wr k x (h2 p hp')]
    exact h.2 p hp'
theorem rl_x.wb {X : List Nat} {a b : am_S} (h : rl_x X a b) {m : Nat} (h1 : ∀ p ∈ rl_rows, p.2 = m → p.1 ∈ X) (h2 : m ≠ 58) (k : Nat) (x : Int32) : rl_x X a (am_wI b m k x) := by
  refine ⟨fun p hp' hx => ?_, fun p hp' => ?_⟩
  · rw [rl_wr k x (fun q => hx (h1 p hp' q))]
    exact h.1 p hp' hx
  · rw [rl_wr k x (fun q => h2 q.symm)]
    exact h.2 p hp'
/-- states that differ only in rows that stand for nothing, or are left out -/
theorem rl_x.on {X La Lb : List Nat} {a b a' b' : am_S} (h : rl_x X a b) (ha : rw_on La a' a) (hb : rw_on Lb b' b) (h1 : ∀ p ∈ rl_rows, p.1 ∈ La ∨ p.2 ∈ Lb → p.1 ∈ X) (h2 : ∀ p ∈ rl_flds, p.1 ∉ La) (h3 : 58 ∉ Lb) : rl_x X a' b' := by
  refine ⟨fun p hp' hx => ?_, fun p hp' => ?_⟩
  · rw [(ha p.1 (fun q => hx (h1 p hp' (Or.inl q)))).1, (hb p.2 (fun q => hx (h1 p hp' (Or.inr q)))).1]
    exact h.1 p hp' hx
  · rw [(ha p.1 (h2 p hp')).1, (hb 58 h3).1]
    exact h.2 p hp'
