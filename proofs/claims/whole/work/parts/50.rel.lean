/-! ===== the pure side: what holds between the class's cells and the reference's ===== -/
/-- rows that are the same on both sides -/
def rl_rows : List (Nat × Nat) := [(2, 59), (18, 81), (19, 82), (20, 83), (22, 84), (23, 85), (24, 86), (25, 87), (27, 92), (33, 93), (34, 94), (35, 95), (36, 96), (37, 97), (38, 98), (40, 104), (41, 108), (42, 105), (43, 106), (44, 107), (45, 109), (47, 110), (48, 111), (49, 112), (50, 113), (51, 114), (52, 115), (53, 116)]
/-- fields that are the same on both sides: the class's cell and place, the reference's place -/
def rl_flds : List (Nat × Nat × Nat) := [(1, 1, 2), (0, 4, 17), (0, 5, 51), (17, 0, 37), (21, 0, 41), (21, 6, 46), (32, 0, 53), (32, 2, 55), (39, 1, 66), (39, 7, 72), (46, 0, 74)]
def rl_q (s : am_S) : Prop := (∀ p ∈ rl_rows, s.1 p.1 = s.1 p.2) ∧ ∀ p ∈ rl_flds, s.1 p.1 p.2.1 = s.1 58 p.2.2
/-- a count: at most m -/
def rl_n (x : Int32) (m : Nat) : Prop := ∃ n : Nat, n ≤ m ∧ x = nI n
/-- a number of a thing, of n there are, or none -/
def rl_o (x : Int32) (n : Int32) : Prop := x = -1 ∨ (0 ≤ x ∧ x < n)
theorem rl_wI (s : am_S) (c k : Nat) (x : Int32) (c' k' : Nat) : (am_wI s c k x).1 c' k' = if c' = c then (if k' = k then x else s.1 c' k') else s.1 c' k' := rfl
theorem rl_wr {s : am_S} {c : Nat} (k : Nat) (x : Int32) {c' : Nat} (h : c' ≠ c) : (am_wI s c k x).1 c' = s.1 c' := am_up_ne _ _ _ h
theorem rl_ws (s : am_S) (c k : Nat) (x : Int32) : (am_wI s c k x).1 c = fun j => if j = k then x else s.1 c j := am_up_row _ _ _ _
theorem rl_w2 (s : am_S) (c k : Nat) (x : Int32) : (am_wI s c k x).2 = s.2 := rfl
/-- the same entry written on both sides -/
theorem rl_row2 {s : am_S} {c c' k : Nat} {x : Int32} (h : s.1 c = s.1 c') : (fun j => if j = k then x else s.1 c j) = fun j => if j = k then x else s.1 c' j := by rw [h]
theorem rl_nin {n N : Nat} (hN : N < 2 ^ 31) (h : n < N) : am_in (nI n) N = true := by
  unfold am_in
  rw [nI_clamp (by omega)]
  simp only [Bool.and_eq_true, decide_eq_true_eq]
  exact ⟨nI_pos' (by omega), h⟩
theorem rl_gu {α : Type} {b : Bool} {x : Option α} (h : b = true) : am_gu b x = x := by rw [h]; rfl
theorem rl_bd {α β : Type} {v : α} {s : am_S} {k : α → am_S → Option β} : am_bd (some (v, s)) k = k v s := rfl
/-- season(): on both sides -/
theorem rl_season (s : am_S) (h : rl_q s) (hn : rl_n (s.1 0 5) 39) : ∃ (v : Int32) (s1 s2 : am_S), f_X11_season s = some (v, s1) ∧ f_X12_season s1 = some (v, s2) ∧ ((s2 = s) ∨ ((s.1 0 5) < 39 ∧ s2 = am_wI (am_wI s 0 5 (s.1 0 5 + 1)) 58 51 (s.1 0 5 + 1))) := by
  obtain ⟨n, hn1, hn2⟩ := hn
  have e : s.1 58 51 = s.1 0 5 := (h.2 (0, 5, 51) (by decide)).symm
  unfold f_X11_season
  by_cases hlt : n < 39
  · have h1 : s.1 0 5 < 39 := by rw [hn2]; exact nI_lt (a := n) (b := 39) hlt (by decide)
    refine ⟨_, _, _, if_pos h1, ?_, Or.inr ⟨h1, rfl⟩⟩
    unfold f_X12_season
    have e2 : (am_wI s 0 5 (s.1 0 5 + 1)).1 58 51 = s.1 0 5 := e
    rw [e2]
    have h2 : ¬ s.1 0 5 = 39 := by rw [hn2]; exact fun q => by have := (nI_eq (a := n) (b := 39) (by omega) (by decide)).mp q; omega
    exact if_neg h2
  · have h1 : ¬ s.1 0 5 < 39 := by rw [hn2]; exact nI_nlt (a := n) (b := 39) (by omega) (by omega)
    refine ⟨_, _, _, if_neg h1, ?_, Or.inl rfl⟩
    unfold f_X12_season
    rw [e]
    exact if_pos (by rw [hn2, show n = 39 by omega]; rfl)
