/-! ===== an expression is read on both sides: the pieces ===== -/
def tkI (K : Nat → Nat) : Nat → Int32 := fun j => nI (cm (K j))
def wn : List FRm → Nat
  | [] => 0
  | f :: r => opn f + wn r
theorem opn_le (f : FRm) : opn f ≤ 2 := by
  have := fop1_len f
  have h2 : (fop2 f).length ≤ 1 := by unfold fop2; split <;> simp
  unfold opn
  omega
theorem wn_le : ∀ F : List FRm, wn F ≤ 2 * F.length := by
  intro F
  induction F with
  | nil => exact Nat.le_refl _
  | cons f r ih =>
    have := opn_le f
    simp only [wn, List.length_cons]
    omega
theorem wl_len : ∀ F : List FRm, (wl F).length ≤ 3 * F.length := by
  intro F
  induction F with
  | nil => exact Nat.le_refl _
  | cons f r ih =>
    have := opn_le f
    unfold opn at this
    simp only [wl, List.length_append, List.length_cons]
    split
    · simp; omega
    · simp; omega
def wr (r : List FRm) : List Int32 := if r.length = 0 then [] else 6 :: wl r
theorem wl_c (f : FRm) (r : List FRm) : wl (f :: r) = fop2 f ++ (fop1 f ++ wr r) := rfl
theorem wr_or (r : List FRm) : wr r = [] ∨ ∃ w, wr r = 6 :: w := by
  unfold wr
  split
  · exact Or.inl rfl
  · exact Or.inr ⟨_, rfl⟩
theorem wr_len (r : List FRm) (h : r.length ≤ 6) : (wr r).length < 30 := by
  have := wl_len r
  unfold wr
  split
  · simp
  · simp; omega
/-- frame: codes from c on, on side l -/
def cG (c l : Nat) (b' b : am_S) : Prop := rw_on [58, 78, 79, 80] b' b ∧ (∀ i, i ≠ 11 → i ≠ 12 → i ≠ 13 → i ≠ 14 → i ≠ 32 → i ≠ 36 → b'.1 58 i = b.1 58 i) ∧ ∀ j, j < c ∨ 500 * l + 500 ≤ j → b'.1 78 j = b.1 78 j ∧ b'.1 79 j = b.1 79 j
theorem cG.refl (c l : Nat) (b : am_S) : cG c l b b := ⟨rw_on.refl _ _, fun _ _ _ _ _ _ _ => rfl, fun _ _ => ⟨rfl, rfl⟩⟩
theorem cG.trans {c c' l : Nat} {x y z : am_S} (h : cG c' l x y) (h' : cG c l y z) (hc : c ≤ c') : cG c l x z :=
  ⟨h.1.trans h'.1, fun i a1 a2 a3 a4 a5 a6 => (h.2.1 i a1 a2 a3 a4 a5 a6).trans (h'.2.1 i a1 a2 a3 a4 a5 a6), fun j hj => by
    have e1 := h.2.2 j (by omega)
    have e2 := h'.2.2 j hj
    exact ⟨e1.1.trans e2.1, e1.2.trans e2.2⟩⟩
theorem cG.f {c l : Nat} {b : am_S} {i : Nat} (hi : i = 11 ∨ i = 12 ∨ i = 13 ∨ i = 14 ∨ i = 32 ∨ i = 36) (x : Int32) : cG c l (am_wI b 58 i x) b :=
  ⟨(rw_on.refl _ _).w (by simp) _ _, fun j a1 a2 a3 a4 a5 a6 => by
    have : j ≠ i := by omega
    simp [rl_wI, this], fun j _ => ⟨rfl, rfl⟩⟩
theorem cG.r {c l : Nat} {b : am_S} (i : Nat) (x : Int32) : cG c l (am_wI b 80 i x) b :=
  ⟨(rw_on.refl _ _).w (by simp) _ _, fun j _ _ _ _ _ _ => rfl, fun j _ => ⟨rfl, rfl⟩⟩
def TB (K : Nat → Nat) (V : Nat → Int32) (P : Nat → Nat) (T : Nat) (b : am_S) : Prop := ∀ s, s < T → b.1 61 s = nI (K s) ∧ b.1 62 s = nI (P s) ∧ (K s = 2 → b.1 63 s = V s)
theorem TB.on {K : Nat → Nat} {V : Nat → Int32} {P : Nat → Nat} {T : Nat} {b b' : am_S} {L : List Nat} (h : TB K V P T b) (ho : rw_on L b' b) (h1 : 61 ∉ L) (h2 : 62 ∉ L) (h3 : 63 ∉ L) : TB K V P T b' := by
  unfold TB
  rw [(ho 61 h1).1, (ho 62 h2).1, (ho 63 h3).1]
  exact h
def MS (K : Nat → Nat) (V : Nat → Int32) (P : Nat → Nat) (T l : Nat) (b : am_S) (i L c : Nat) : Prop := b.1 58 11 = nI i ∧ b.1 58 12 = nI L ∧ b.1 58 13 = 0 ∧ b.1 58 32 = nI c ∧ b.1 58 19 = nI l ∧ TB K V P T b
def PLc (D i : Nat) (a : am_S) : Option ((Int32 × am_S) ⊕ (Unit × am_S)) := f_X6_parseInto_L23 D (5000 - i) (nI i) a
def sd3 (a : am_S) : Prop := ∃ sd : Nat, sd < 3 ∧ a.1 3 2 = nI sd
def FO (D : Nat) (P : Nat → Nat) (i : Nat) (a b' : am_S) : Prop := ∃ (φ : Nat) (a' : am_S) (s : Nat), (φ = 1 ∨ φ = 2) ∧ PLc D i a = some (.inl (nI φ, a')) ∧ a'.1 4 1 = nI (P s) ∧ (cA D a' a ∧ sd3 a') ∧ b'.1 58 13 = nI φ ∧ b'.1 58 14 = nI (P s)
theorem FO.tr {D i j : Nat} {P : Nat → Nat} {a a1 b' : am_S} (h : FO D P j a1 b') (e : PLc D i a = PLc D j a1) (o : cA D a1 a) : FO D P i a b' := by
  obtain ⟨φ, a', s, h1, h2, h3, h4, h5⟩ := h
  exact ⟨φ, a', s, h1, e.trans h2, h3, ⟨h4.1.trans o, h4.2⟩, h5⟩
theorem FO.ne {D i : Nat} {P : Nat → Nat} {a b' : am_S} (h : FO D P i a b') : ¬ b'.1 58 13 = 0 ∧ 0 < b'.1 58 13 := by
  obtain ⟨φ, a', s, h1, h2, h3, h4, h5, h6⟩ := h
  rw [h5]
  rcases h1 with e | e <;> rw [e] <;> decide
theorem FO.on {D i : Nat} {P : Nat → Nat} {a b b' : am_S} (h : FO D P i a b) (h13 : b'.1 58 13 = b.1 58 13) (h14 : b'.1 58 14 = b.1 58 14) : FO D P i a b' := by
  obtain ⟨φ, a', s, h1, h2, h3, h4, h5, h6⟩ := h
  exact ⟨φ, a', s, h1, h2, h3, h4, h13.trans h5, h14.trans h6⟩
section EXA
variable {C : Nat → Nat} {n : Nat} {K : Nat → Nat} {V : Nat → Int32} {P X : Nat → Nat} {D T l : Nat}
theorem pl_s {i : Nat} (hi : i ≤ 400) : 5000 - i = (5000 - (i + 1)) + 1 := by omega
theorem is_M {b : am_S} {i L c k : Nat} (hT : TT C n T K V P X) (h : MS K V P T l b i L c) (hi : i < T) (hi4 : i ≤ 400) (hk : k < 100) : f_X12_is b (nI k) = some (mc_i (decide (K i = k)), b) := by
  have d2 : am_in (nI i) 403 = true := rl_nin (by decide) (by omega)
  have d3 : (nI i).toNatClampNeg = i := nI_clamp (by omega)
  have hK := (hT i hi).2
  rw [f_X12_is, h.2.2.1, if_pos rfl, h.1, rl_gu d2, d3, (h.2.2.2.2.2 i hi).1]
  by_cases q : K i = k
  · rw [q, if_pos rfl, decide_eq_true rfl]; rfl
  · rw [if_neg (nI_ne (by omega) (by omega) q), decide_eq_false q]; rfl
theorem is_F {b : am_S} (h : ¬ b.1 58 13 = 0) (x : Int32) : f_X12_is b x = some (0, b) := by rw [f_X12_is, if_neg h]
theorem fail_M {b : am_S} {i L c : Nat} (h : MS K V P T l b i L c) (hi : i < T) (hi4 : i ≤ 400) (x : Int32) : f_X12_fail b x = some ((), am_wI (am_wI b 58 13 x) 58 14 (nI (P i))) := by
  have d2 : am_in (nI i) 403 = true := rl_nin (by decide) (by omega)
  have d3 : (nI i).toNatClampNeg = i := nI_clamp (by omega)
  rw [f_X12_fail, h.2.2.1, if_neg (by decide), h.1, rl_gu d2, d3, (h.2.2.2.2.2 i hi).2.1]
theorem fail_F {b : am_S} (h : 0 < b.1 58 13) (x : Int32) : f_X12_fail b x = some ((), b) := by rw [f_X12_fail, if_pos h]
theorem next_M {b : am_S} {i L c : Nat} (h : MS K V P T l b i L c) (hi4 : i < 400) : f_X12_next b = some ((), am_wI b 58 11 (nI (i + 1))) := by
  have d4 : nI i + 1 = nI (i + 1) := nI_1 i
  have d5 : ¬ nI i = 400 := nI_ne (m := 400) (by omega) (by decide) (by omega)
  rw [f_X12_next, h.1, if_neg d5, d4]
theorem next_E {b : am_S} {L c : Nat} (h : MS K V P T l b 400 L c) (hi : 400 < T) : f_X12_next b = some ((), am_wI (am_wI b 58 13 2) 58 14 (nI (P 400))) := by
  rw [f_X12_next, h.1, if_pos (show nI 400 = 400 from rfl), bd_some (fail_M h hi (Nat.le_refl _) 2)]
theorem MS.nx {b : am_S} {i L c : Nat} (h : MS K V P T l b i L c) (x : Nat) : MS K V P T l (am_wI b 58 11 (nI x)) x L c := by
  obtain ⟨h1, h2, h3, h4, h5, h6⟩ := h
  exact ⟨by simp [rl_wI], by simp [rl_wI]; exact h2, by simp [rl_wI]; exact h3, by simp [rl_wI]; exact h4, by simp [rl_wI]; exact h5, h6⟩
/-- what the end of a reading may be, a fault -/
theorem fo_bad (hD : D = 5 ∨ D = 11) (hT : TT C n T K V P X) {a b : am_S} {i q sd L N : Nat} (h : PS D C n K V X a i q sd L N) (hi : i < T) (hi4 : i ≤ 400) (hq : q < 3) (hs : sd < 3) (hL : L ≤ 6) (hK : ¬ (q = 0 ∧ K i = 0)) (hg : goes q sd L (cm (K i)) = false) (e13 : b.1 58 13 = 1) (e14 : b.1 58 14 = nI (P i)) : FO D P i a b := by
  obtain ⟨a', g1, g2, g3, g4⟩ := cs_bad hD hT h hi hi4 hq hs hL (5000 - (i + 1)) hK hg
  exact ⟨1, a', i, Or.inl rfl, by unfold PLc; rw [pl_s hi4]; exact g1, g2, ⟨g3, ⟨sd, hs, g4.trans h.2.2.2.1⟩⟩, e13, e14⟩
theorem fo_room (hD : D = 5 ∨ D = 11) (hT : TT C n T K V P X) {a b : am_S} {i q sd L N : Nat} (h : PS D C n K V X a i q sd L N) (hi : i < T) (hi4 : i ≤ 400) (hq : q < 3) (hs : sd < 3) (hL : L ≤ 6) (hN : N ≤ 20) (hg : goes q sd L (cm (K i)) = true) (hl : lks i q N (cm (K i)) L) (e13 : b.1 58 13 = 2) (e14 : b.1 58 14 = nI (P i)) : FO D P i a b := by
  obtain ⟨a', g1, g2, g3, g4⟩ := cs_room hD hT h hi hi4 hq hs hL hN (5000 - (i + 1)) hg hl
  exact ⟨2, a', i, Or.inr rfl, by unfold PLc; rw [pl_s hi4]; exact g1, g2, ⟨g3, ⟨sd, hs, g4.trans h.2.2.2.1⟩⟩, e13, e14⟩
theorem pl_go (hD : D = 5 ∨ D = 11) (hT : TT C n T K V P X) {a : am_S} {i q sd L N : Nat} (h : PS D C n K V X a i q sd L N) (hi : i < T) (hi4 : i ≤ 400) (hq : q < 3) (hs : sd < 3) (hL : L ≤ 6) (hN : N ≤ 20) (hg : goes q sd L (cm (K i)) = true) (hl : ¬ lks i q N (cm (K i)) L) (h18 : cm (K i) = 18 → 0 < L) : ∃ a', PLc D i a = PLc D (i + 1) a' ∧ PS D C n K V X a' (i + 1) (mq q (cm (K i))) (ms sd (cm (K i))) (ml L (cm (K i))) (if q = 0 then N + 1 else N) ∧ cA D a' a ∧ ∀ j, a'.1 (D + 1) j = if q = 0 ∧ j = N then nI i else a.1 (D + 1) j := by
  obtain ⟨a', g1, g2⟩ := cs_go hD hT h hi hi4 hq hs hL hN (5000 - (i + 1)) hg hl h18
  exact ⟨a', by unfold PLc; rw [pl_s hi4]; exact g1, g2⟩
end EXA
/-- what may still come out of what waits -/
def CD (K : Nat → Nat) (V : Nat → Int32) (i0 c0 l : Nat) (b : am_S) : Prop := ∃ (m k : Nat) (f : FRm) (r : List FRm) (z : (Nat → Int32) → Int32), EB (tkI K) V (b.1 78) (b.1 79) i0 m c0 k f r z (fun v => z v :: stk (f :: r) v) ∧ b.1 58 36 = nI (wl (f :: r)).length ∧ b.1 58 32 = nI (c0 + k) ∧ pl (b.1 80) (wl (f :: r)) ∧ c0 + k + 4 ≤ 500 * l + 500 ∧ r.length ≤ 6
theorem CD.co {K : Nat → Nat} {V : Nat → Int32} {i0 c0 l : Nat} {b : am_S} (h : CD K V i0 c0 l b) (hl : l < 2) : ∃ b', f_X12_comesOut b 0 = some ((), b') ∧ cG c0 l b' b ∧ b'.1 58 13 = b.1 58 13 ∧ b'.1 58 14 = b.1 58 14 := by
  obtain ⟨m, k, f, r, z, h1, h2, h3, h4, h5, h6⟩ := h
  obtain ⟨b', g1, g2, g3, g4, g5, g6, g7, g8⟩ := co_all (rest := wr r) (wr_len r h6) (wr_or r) (by omega) h1 h2 h3 h4
  exact ⟨b', g1, ⟨g6.mono (by simp), fun i a1 a2 a3 a4 a5 a6 => g7 i a5 a6, fun j hj => g8 j (by omega)⟩, g7 13 (by decide) (by decide), g7 14 (by decide) (by decide)⟩
theorem EB.cd {tk vl cd ci cd' ci' : Nat → Int32} {i0 m c0 k : Nat} {f : FRm} {r : List FRm} {z : (Nat → Int32) → Int32} {st : (Nat → Int32) → List Int32} (h : EB tk vl cd ci i0 m c0 k f r z st) (h1 : cd' = cd) (h2 : ci' = ci) : EB tk vl cd' ci' i0 m c0 k f r z st := by rw [h1, h2]; exact h
