/-! ===== the invariant, in pieces (printed by wip/gen/rel.py) ===== -/
/-- bytes on the tape -/
def ri_tape (s : am_S) : Prop := rl_n (s.1 1 1) 2000
theorem ri_tape.fr {s t : am_S} (h : ri_tape s) (e0 : t.1 1 1 = s.1 1 1) : ri_tape t := by
  unfold ri_tape at h ⊢
  rw [e0]
  exact h
/-- the season -/
def ri_now (s : am_S) : Prop := rl_n (s.1 0 5) 39
theorem ri_now.fr {s t : am_S} (h : ri_now s) (e0 : t.1 0 5 = s.1 0 5) : ri_now t := by
  unfold ri_now at h ⊢
  rw [e0]
  exact h
/-- kinds -/
def ri_kinds (s : am_S) : Prop := rl_n (s.1 17 0) 8 ∧ ∀ j, j < (s.1 17 0).toNatClampNeg → (∃ w : Nat, 1 ≤ w ∧ w ≤ 9 ∧ s.1 18 j = nI w) ∧ (∃ w : Nat, 1 ≤ w ∧ w ≤ 12 ∧ s.1 19 j = nI w) ∧ ∃ w : Nat, w ≤ 100 ∧ s.1 20 j = nI w
theorem ri_kinds.fr {s t : am_S} (h : ri_kinds s) (e0 : t.1 17 0 = s.1 17 0) (e1 : t.1 18 = s.1 18) (e2 : t.1 19 = s.1 19) (e3 : t.1 20 = s.1 20) : ri_kinds t := by
  unfold ri_kinds at h ⊢
  rw [e0, e1, e2, e3]
  exact h
/-- families -/
def ri_fams (s : am_S) : Prop := rl_n (s.1 21 0) 8 ∧ (∀ j, s.1 25 j = 0 ∨ s.1 25 j = 1) ∧ ∀ j, s.1 23 j = 0 ∨ s.1 23 j = 1
theorem ri_fams.fr {s t : am_S} (h : ri_fams s) (e0 : t.1 21 0 = s.1 21 0) (e1 : t.1 25 = s.1 25) (e2 : t.1 23 = s.1 23) : ri_fams t := by
  unfold ri_fams at h ⊢
  rw [e0, e1, e2]
  exact h
/-- lendings: the bits of the class against the rows of the reference -/
def ri_lent (s : am_S) : Prop := rl_n (s.1 21 6) 100 ∧ (∀ i, i < (s.1 21 6).toNatClampNeg → (∃ f k a b : Nat, f < 8 ∧ k < 8 ∧ a < b ∧ b ≤ 40 ∧ s.1 88 i = nI f ∧ s.1 89 i = nI k ∧ s.1 90 i = nI a ∧ s.1 91 i = nI b)) ∧ ∀ f k e : Nat, f < 8 → k < 8 → e < 40 → ((s.2 26 (f * 8 + k)).toBitVec.getLsbD e = true ↔ ∃ i, i < (s.1 21 6).toNatClampNeg ∧ s.1 88 i = nI f ∧ s.1 89 i = nI k ∧ s.1 90 i ≤ nI e ∧ nI e < s.1 91 i)
theorem ri_lent.fr {s t : am_S} (h : ri_lent s) (e0 : t.1 21 6 = s.1 21 6) (e1 : t.1 88 = s.1 88) (e2 : t.1 89 = s.1 89) (e3 : t.1 90 = s.1 90) (e4 : t.1 91 = s.1 91) (e5 : t.2 26 = s.2 26) : ri_lent t := by
  unfold ri_lent at h ⊢
  rw [e0, e1, e2, e3, e4, e5]
  exact h
/-- logs and rings -/
def ri_rings (s : am_S) : Prop := rl_n (s.1 32 0) 30 ∧ (∀ j, (s.1 32 0).toNatClampNeg ≤ j → s.1 33 j = 0) ∧ rl_n (s.1 32 2) 200 ∧ ∀ j, j < (s.1 32 2).toNatClampNeg → (∃ k : Nat, k < (s.1 17 0).toNatClampNeg ∧ s.1 36 j = nI k) ∧ (s.1 37 j = -1 ∨ ∃ f : Nat, f < (s.1 21 0).toNatClampNeg ∧ s.1 37 j = nI f)
theorem ri_rings.fr {s t : am_S} (h : ri_rings s) (e0 : t.1 32 0 = s.1 32 0) (e1 : t.1 33 = s.1 33) (e2 : t.1 32 2 = s.1 32 2) (e3 : t.1 17 0 = s.1 17 0) (e4 : t.1 36 = s.1 36) (e5 : t.1 37 = s.1 37) (e6 : t.1 21 0 = s.1 21 0) : ri_rings t := by
  unfold ri_rings at h ⊢
  rw [e0, e1, e2, e3, e4, e5, e6]
  exact h
/-- figures and lots -/
def ri_figs (s : am_S) : Prop := rl_n (s.1 39 1) 400 ∧ rl_n (s.1 39 7) 20 ∧ (∀ j, j < (s.1 39 7).toNatClampNeg → ∃ c : Nat, c ≤ 4 ∧ s.1 45 j = nI c) ∧ ∀ j, j < (s.1 39 1).toNatClampNeg → (∃ r f : Nat, r < (s.1 32 2).toNatClampNeg ∧ f < (s.1 21 0).toNatClampNeg ∧ s.1 40 j = nI r ∧ s.1 37 r = nI f) ∧ (s.1 42 j = -1 ∨ ∃ l : Nat, l < (s.1 39 7).toNatClampNeg ∧ s.1 42 j = nI l) ∧ (s.1 43 j = -1 ∨ ∃ o : Nat, o < (s.1 46 0).toNatClampNeg ∧ s.1 43 j = nI o ∧ s.1 48 o = 1)
theorem ri_figs.fr {s t : am_S} (h : ri_figs s) (e0 : t.1 39 1 = s.1 39 1) (e1 : t.1 39 7 = s.1 39 7) (e2 : t.1 45 = s.1 45) (e3 : t.1 32 2 = s.1 32 2) (e4 : t.1 21 0 = s.1 21 0) (e5 : t.1 40 = s.1 40) (e6 : t.1 37 = s.1 37) (e7 : t.1 42 = s.1 42) (e8 : t.1 46 0 = s.1 46 0) (e9 : t.1 43 = s.1 43) (e10 : t.1 48 = s.1 48) : ri_figs t := by
  unfold ri_figs at h ⊢
  rw [e0, e1, e2, e3, e4, e5, e6, e7, e8, e9, e10]
  exact h
/-- orders and needs -/
def ri_ords (s : am_S) : Prop := rl_n (s.1 46 0) 8 ∧ ∀ o, o < (s.1 46 0).toNatClampNeg → (∃ w : Nat, w ≤ 1000 ∧ s.1 47 o = nI w) ∧ (s.1 48 o = 0 ∨ s.1 48 o = 1 ∨ s.1 48 o = 2) ∧ ∃ n : Nat, n ≤ 4 ∧ s.1 50 o = nI n ∧ ∀ i, i < n → (∃ w : Nat, 1 ≤ w ∧ w ≤ 20 ∧ s.1 51 (o * 4 + i) = nI w) ∧ (∃ k : Nat, k < (s.1 17 0).toNatClampNeg ∧ s.1 52 (o * 4 + i) = nI k) ∧ (s.1 53 (o * 4 + i) = -1 ∨ ∃ c : Nat, c ≤ 4 ∧ s.1 53 (o * 4 + i) = nI c)
theorem ri_ords.fr {s t : am_S} (h : ri_ords s) (e0 : t.1 46 0 = s.1 46 0) (e1 : t.1 47 = s.1 47) (e2 : t.1 48 = s.1 48) (e3 : t.1 50 = s.1 50) (e4 : t.1 51 = s.1 51) (e5 : t.1 17 0 = s.1 17 0) (e6 : t.1 52 = s.1 52) (e7 : t.1 53 = s.1 53) : ri_ords t := by
  unfold ri_ords at h ⊢
  rw [e0, e1, e2, e3, e4, e5, e6, e7]
  exact h
def ri (s : am_S) : Prop := ri_tape s ∧ ri_now s ∧ ri_kinds s ∧ ri_fams s ∧ ri_lent s ∧ ri_rings s ∧ ri_figs s ∧ ri_ords s
