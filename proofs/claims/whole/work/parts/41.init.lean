/-! ===== the heap behind the two constructors ===== -/
def am_keys : List Int64 := [144941, 249, 1503, 11716, 423, 1111, 4281544, 12403634, 247162, 7214344, 223456, 12532058, 279186013, 275320391]
def am_s0 : am_S := (fun c k => if c = 0 then (if k = 4 then -1 else 0) else if c = 58 then (if k = 17 then -1 else 0) else 0, fun c k => if c = 65 then am_keys.getD k 0 else 0)
def am_k0 : am_H := k_X12_init_58 (am_nO (k_X11_init_0 (am_nO (0, fun _ _ => 0, fun _ _ => 0, am_RT false))))
/-- nothing but 0 beyond 120 cells, and from place 90 on -/
def am_pz {α : Type} (z : α) (f : Nat → Nat → α) : Prop := ∀ c k, 120 ≤ c ∨ 90 ≤ k → f c k = z
theorem am_pz_up {α : Type} {z : α} {f : Nat → Nat → α} {c k : Nat} {x : α} (hc : c < 120) (hk : k < 90) (h : am_pz z f) : am_pz z (am_up f c k x) := by
  intro c' k' h1
  unfold am_up
  by_cases e1 : c' = c
  · by_cases e2 : k' = k
    · omega
    · rw [if_pos e1, if_neg e2]
      exact h c' k' h1
  · rw [if_neg e1]
    exact h c' k' h1
theorem am_pz_zr {α : Type} {z : α} {f : Nat → Nat → α} {c : Nat} (h : am_pz z f) : am_pz z (am_zr f c z) := by
  intro c' k' h1
  unfold am_zr
  by_cases e1 : c' = c
  · rw [if_pos e1]
  · rw [if_neg e1]
    exact h c' k' h1
theorem am_pz_eq {α : Type} {z : α} {f g : Nat → Nat → α} (hf : am_pz z f) (hg : am_pz z g) (h : ∀ c, c < 120 → ∀ k, k < 90 → f c k = g c k) : f = g := by
  funext c k
  by_cases h1 : c < 120
  · by_cases h2 : k < 90
    · exact h c h1 k h2
    · rw [hf c k (Or.inr (by omega)), hg c k (Or.inr (by omega))]
  · rw [hf c k (Or.inl (by omega)), hg c k (Or.inl (by omega))]
theorem am_RT_z : am_pz 0 (am_RT false) := by
  have hl : am_rt0.length = 120 := by decide +kernel
  have hk : ∀ c, c < 120 → (am_rt0.getD c []).length < 90 := by decide +kernel
  intro c k h
  have h0 : (Nat.beq c 0 && Nat.beq k 2) = false := by
    cases hb : Nat.beq c 0 && Nat.beq k 2 with
    | false => rfl
    | true =>
      simp only [Bool.and_eq_true] at hb
      have e1 := Nat.eq_of_beq_eq_true hb.1
      have e2 := Nat.eq_of_beq_eq_true hb.2
      omega
  have h1 : (Nat.beq c 0 && Nat.beq k 3) = false := by
    cases hb : Nat.beq c 0 && Nat.beq k 3 with
    | false => rfl
    | true =>
      simp only [Bool.and_eq_true] at hb
      have e1 := Nat.eq_of_beq_eq_true hb.1
      have e2 := Nat.eq_of_beq_eq_true hb.2
      omega
  unfold am_RT
  rw [h0, h1]
  show (am_rt0.getD c []).getD k 0 = 0
  by_cases hc : c < 120
  · rw [List.getD_eq_getElem?_getD, List.getElem?_eq_none (by have := hk c hc; omega)]
    rfl
  · have e : am_rt0.getD c [] = [] := by
      rw [List.getD_eq_getElem?_getD, List.getElem?_eq_none (by omega)]
      rfl
    rw [e]
    simp
set_option maxRecDepth 40000 in
theorem am_k0_R : am_k0.2.2.2 = am_RT false := by
  refine am_pz_eq (z := 0) ?_ am_RT_z (by decide +kernel)
  unfold am_k0 k_X12_init_58 k_X11_init_0 k_X0_init_54 k_X5_init_46 k_X3_init_39 k_X7_init_32 k_X1_init_28 k_X2_init_21 k_X4_init_17 k_X8_init_11 k_X8_init_5 k_X6_init_3 k_X9_init_4 k_X10_init_1 am_nO am_nA am_pI am_pR am_pL
  dsimp only
  repeat' (first | exact am_RT_z | (apply am_pz_up (by decide) (by decide)) | (apply am_pz_zr))
set_option maxRecDepth 40000 in
theorem am_k0_I : am_k0.2.1 = am_s0.1 := by
  refine am_pz_eq (z := 0) ?_ ?_ (by decide +kernel)
  · unfold am_k0 k_X12_init_58 k_X11_init_0 k_X0_init_54 k_X5_init_46 k_X3_init_39 k_X7_init_32 k_X1_init_28 k_X2_init_21 k_X4_init_17 k_X8_init_11 k_X8_init_5 k_X6_init_3 k_X9_init_4 k_X10_init_1 am_nO am_nA am_pI am_pR am_pL
    dsimp only
    repeat' (first | exact (fun _ _ _ => rfl) | (apply am_pz_up (by decide) (by decide)) | (apply am_pz_zr))
  · intro c k h
    show (if c = 0 then (if k = 4 then (-1 : Int32) else 0) else if c = 58 then (if k = 17 then -1 else 0) else 0) = 0
    split
    · split
      · omega
      · rfl
    · split
      · split
        · omega
        · rfl
      · rfl
set_option maxRecDepth 40000 in
theorem am_k0_L : am_k0.2.2.1 = am_s0.2 := by
  refine am_pz_eq (z := 0) ?_ ?_ (by decide +kernel)
  · unfold am_k0 k_X12_init_58 k_X11_init_0 k_X0_init_54 k_X5_init_46 k_X3_init_39 k_X7_init_32 k_X1_init_28 k_X2_init_21 k_X4_init_17 k_X8_init_11 k_X8_init_5 k_X6_init_3 k_X9_init_4 k_X10_init_1 am_nO am_nA am_pI am_pR am_pL
    dsimp only
    repeat' (first | exact (fun _ _ _ => rfl) | (apply am_pz_up (by decide) (by decide)) | (apply am_pz_zr))
  · intro c k h
    show (if c = 65 then am_keys.getD k 0 else 0) = 0
    split
    · rw [List.getD_eq_getElem?_getD, List.getElem?_eq_none (by simp [am_keys]; omega)]
      rfl
    · rfl
theorem am_k0_eq : am_k0 = am_hp false am_s0 := by
  have h1 : am_k0.1 = 120 := by decide +kernel
  have e : am_k0 = (am_k0.1, am_k0.2.1, am_k0.2.2.1, am_k0.2.2.2) := rfl
  rw [e, h1, am_k0_I, am_k0_L, am_k0_R]
  rfl
