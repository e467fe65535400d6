/-! ===== methods as functions, and their runs (printed by wip/gen/drive.py) ===== -/
theorem am_rtb {v : Int32} (h : decide (v &&& 1 = v) = true) : am_rt .ireturn (some .boolean) [.int v] = some (some (.int v)) := by
  simp only [am_rt]
  rw [h]
  rfl
def f_J_length (b : Nat) (s : am_S) : Option (Int32 × am_S) := some (nI (am_txt b).length, s)
def f_J_charAt (b : Nat) (s : am_S) (x1 : Int32) : Option (Int32 × am_S) := am_gu (am_in x1 (am_txt b).length) (some ((am_txt b).getD x1.toNatClampNeg 0, s))
def f_J_max (s : am_S) (x0 x1 : Int32) : Option (Int32 × am_S) := some (if x0 < x1 then x1 else x0, s)
def f_J_min (s : am_S) (x0 x1 : Int32) : Option (Int32 × am_S) := some (if x1 < x0 then x1 else x0, s)
theorem r_J_max (d : Nat) (sw : Bool) (s s' : am_S) (x0 x1 v : Int32) (e : f_J_max s x0 x1 = some (v, s')) : am_Run (d + 1) 199 [.int x0, .int x1] (am_hp sw s) (am_cI v) (am_hp sw s') := by
  cases e
  exact ⟨mt_J9_max_7cf53, rfl, Nat.le_refl _, Or.inr (Or.inl ⟨rfl, rfl, x0, x1, rfl, Or.inl ⟨rfl, rfl⟩⟩)⟩
theorem r_J_min (d : Nat) (sw : Bool) (s s' : am_S) (x0 x1 v : Int32) (e : f_J_min s x0 x1 = some (v, s')) : am_Run (d + 1) 200 [.int x0, .int x1] (am_hp sw s) (am_cI v) (am_hp sw s') := by
  cases e
  exact ⟨mt_J9_min_7cf53, rfl, Nat.le_refl _, Or.inr (Or.inl ⟨rfl, rfl, x0, x1, rfl, Or.inr ⟨rfl, rfl⟩⟩)⟩
theorem r_J_length_0 (d : Nat) (sw : Bool) (s s' : am_S) (v : Int32) (e : f_J_length 0 s = some (v, s')) : am_Run (d + 3) 900 [.ref 1000] (am_hp sw s) (am_cI v) (am_hp sw s') := by
  cases e
  exact ⟨mt_J0_length_8abf5, rfl, Nat.le_refl _, Or.inl ⟨rfl, by omega, rfl, 0, by decide, Or.inl ⟨rfl, rfl, rfl⟩⟩⟩
theorem r_J_charAt_0 (d : Nat) (sw : Bool) (s s' : am_S) (x1 v : Int32) (e : f_J_charAt 0 s x1 = some (v, s')) : am_Run (d + 3) 901 [.ref 1000, .int x1] (am_hp sw s) (am_cI v) (am_hp sw s') := by
  obtain ⟨e1, e2⟩ := am_gu_some e
  cases e2
  exact ⟨mt_J0_charAt_5068e, rfl, Nat.le_refl _, Or.inl ⟨rfl, by omega, rfl, 0, by decide, Or.inr ⟨rfl, x1, e1, rfl, rfl⟩⟩⟩
theorem r_J_length_1 (d : Nat) (sw : Bool) (s s' : am_S) (v : Int32) (e : f_J_length 1 s = some (v, s')) : am_Run (d + 3) 900 [.ref 1001] (am_hp sw s) (am_cI v) (am_hp sw s') := by
  cases e
  exact ⟨mt_J0_length_8abf5, rfl, Nat.le_refl _, Or.inl ⟨rfl, by omega, rfl, 1, by decide, Or.inl ⟨rfl, rfl, rfl⟩⟩⟩
theorem r_J_charAt_1 (d : Nat) (sw : Bool) (s s' : am_S) (x1 v : Int32) (e : f_J_charAt 1 s x1 = some (v, s')) : am_Run (d + 3) 901 [.ref 1001, .int x1] (am_hp sw s) (am_cI v) (am_hp sw s') := by
  obtain ⟨e1, e2⟩ := am_gu_some e
  cases e2
  exact ⟨mt_J0_charAt_5068e, rfl, Nat.le_refl _, Or.inl ⟨rfl, by omega, rfl, 1, by decide, Or.inr ⟨rfl, x1, e1, rfl, rfl⟩⟩⟩
theorem r_J_length_2 (d : Nat) (sw : Bool) (s s' : am_S) (v : Int32) (e : f_J_length 2 s = some (v, s')) : am_Run (d + 3) 900 [.ref 1002] (am_hp sw s) (am_cI v) (am_hp sw s') := by
  cases e
  exact ⟨mt_J0_length_8abf5, rfl, Nat.le_refl _, Or.inl ⟨rfl, by omega, rfl, 2, by decide, Or.inl ⟨rfl, rfl, rfl⟩⟩⟩
theorem r_J_charAt_2 (d : Nat) (sw : Bool) (s s' : am_S) (x1 v : Int32) (e : f_J_charAt 2 s x1 = some (v, s')) : am_Run (d + 3) 901 [.ref 1002, .int x1] (am_hp sw s) (am_cI v) (am_hp sw s') := by
  obtain ⟨e1, e2⟩ := am_gu_some e
  cases e2
  exact ⟨mt_J0_charAt_5068e, rfl, Nat.le_refl _, Or.inl ⟨rfl, by omega, rfl, 2, by decide, Or.inr ⟨rfl, x1, e1, rfl, rfl⟩⟩⟩
theorem r_J_length_3 (d : Nat) (sw : Bool) (s s' : am_S) (v : Int32) (e : f_J_length 3 s = some (v, s')) : am_Run (d + 3) 900 [.ref 1003] (am_hp sw s) (am_cI v) (am_hp sw s') := by
  cases e
  exact ⟨mt_J0_length_8abf5, rfl, Nat.le_refl _, Or.inl ⟨rfl, by omega, rfl, 3, by decide, Or.inl ⟨rfl, rfl, rfl⟩⟩⟩
theorem r_J_charAt_3 (d : Nat) (sw : Bool) (s s' : am_S) (x1 v : Int32) (e : f_J_charAt 3 s x1 = some (v, s')) : am_Run (d + 3) 901 [.ref 1003, .int x1] (am_hp sw s) (am_cI v) (am_hp sw s') := by
  obtain ⟨e1, e2⟩ := am_gu_some e
  cases e2
  exact ⟨mt_J0_charAt_5068e, rfl, Nat.le_refl _, Or.inl ⟨rfl, by omega, rfl, 3, by decide, Or.inr ⟨rfl, x1, e1, rfl, rfl⟩⟩⟩
theorem r_J_length_4 (d : Nat) (sw : Bool) (s s' : am_S) (v : Int32) (e : f_J_length 4 s = some (v, s')) : am_Run (d + 3) 900 [.ref 1004] (am_hp sw s) (am_cI v) (am_hp sw s') := by
  cases e
  exact ⟨mt_J0_length_8abf5, rfl, Nat.le_refl _, Or.inl ⟨rfl, by omega, rfl, 4, by decide, Or.inl ⟨rfl, rfl, rfl⟩⟩⟩
theorem r_J_charAt_4 (d : Nat) (sw : Bool) (s s' : am_S) (x1 v : Int32) (e : f_J_charAt 4 s x1 = some (v, s')) : am_Run (d + 3) 901 [.ref 1004, .int x1] (am_hp sw s) (am_cI v) (am_hp sw s') := by
  obtain ⟨e1, e2⟩ := am_gu_some e
  cases e2
  exact ⟨mt_J0_charAt_5068e, rfl, Nat.le_refl _, Or.inl ⟨rfl, by omega, rfl, 4, by decide, Or.inr ⟨rfl, x1, e1, rfl, rfl⟩⟩⟩
theorem r_J_length_5 (d : Nat) (sw : Bool) (s s' : am_S) (v : Int32) (e : f_J_length 5 s = some (v, s')) : am_Run (d + 3) 900 [.ref 1005] (am_hp sw s) (am_cI v) (am_hp sw s') := by
  cases e
  exact ⟨mt_J0_length_8abf5, rfl, Nat.le_refl _, Or.inl ⟨rfl, by omega, rfl, 5, by decide, Or.inl ⟨rfl, rfl, rfl⟩⟩⟩
theorem r_J_charAt_5 (d : Nat) (sw : Bool) (s s' : am_S) (x1 v : Int32) (e : f_J_charAt 5 s x1 = some (v, s')) : am_Run (d + 3) 901 [.ref 1005, .int x1] (am_hp sw s) (am_cI v) (am_hp sw s') := by
  obtain ⟨e1, e2⟩ := am_gu_some e
  cases e2
  exact ⟨mt_J0_charAt_5068e, rfl, Nat.le_refl _, Or.inl ⟨rfl, by omega, rfl, 5, by decide, Or.inr ⟨rfl, x1, e1, rfl, rfl⟩⟩⟩
theorem r_J_length_6 (d : Nat) (sw : Bool) (s s' : am_S) (v : Int32) (e : f_J_length 6 s = some (v, s')) : am_Run (d + 3) 900 [.ref 1006] (am_hp sw s) (am_cI v) (am_hp sw s') := by
  cases e
  exact ⟨mt_J0_length_8abf5, rfl, Nat.le_refl _, Or.inl ⟨rfl, by omega, rfl, 6, by decide, Or.inl ⟨rfl, rfl, rfl⟩⟩⟩
theorem r_J_charAt_6 (d : Nat) (sw : Bool) (s s' : am_S) (x1 v : Int32) (e : f_J_charAt 6 s x1 = some (v, s')) : am_Run (d + 3) 901 [.ref 1006, .int x1] (am_hp sw s) (am_cI v) (am_hp sw s') := by
  obtain ⟨e1, e2⟩ := am_gu_some e
  cases e2
  exact ⟨mt_J0_charAt_5068e, rfl, Nat.le_refl _, Or.inl ⟨rfl, by omega, rfl, 6, by decide, Or.inr ⟨rfl, x1, e1, rfl, rfl⟩⟩⟩
theorem r_J_length_7 (d : Nat) (sw : Bool) (s s' : am_S) (v : Int32) (e : f_J_length 7 s = some (v, s')) : am_Run (d + 3) 900 [.ref 1007] (am_hp sw s) (am_cI v) (am_hp sw s') := by
  cases e
  exact ⟨mt_J0_length_8abf5, rfl, Nat.le_refl _, Or.inl ⟨rfl, by omega, rfl, 7, by decide, Or.inl ⟨rfl, rfl, rfl⟩⟩⟩
theorem r_J_charAt_7 (d : Nat) (sw : Bool) (s s' : am_S) (x1 v : Int32) (e : f_J_charAt 7 s x1 = some (v, s')) : am_Run (d + 3) 901 [.ref 1007, .int x1] (am_hp sw s) (am_cI v) (am_hp sw s') := by
  obtain ⟨e1, e2⟩ := am_gu_some e
  cases e2
  exact ⟨mt_J0_charAt_5068e, rfl, Nat.le_refl _, Or.inl ⟨rfl, by omega, rfl, 7, by decide, Or.inr ⟨rfl, x1, e1, rfl, rfl⟩⟩⟩
theorem r_J_length_8 (d : Nat) (sw : Bool) (s s' : am_S) (v : Int32) (e : f_J_length 8 s = some (v, s')) : am_Run (d + 3) 900 [.ref 1008] (am_hp sw s) (am_cI v) (am_hp sw s') := by
  cases e
  exact ⟨mt_J0_length_8abf5, rfl, Nat.le_refl _, Or.inl ⟨rfl, by omega, rfl, 8, by decide, Or.inl ⟨rfl, rfl, rfl⟩⟩⟩
theorem r_J_charAt_8 (d : Nat) (sw : Bool) (s s' : am_S) (x1 v : Int32) (e : f_J_charAt 8 s x1 = some (v, s')) : am_Run (d + 3) 901 [.ref 1008, .int x1] (am_hp sw s) (am_cI v) (am_hp sw s') := by
  obtain ⟨e1, e2⟩ := am_gu_some e
  cases e2
  exact ⟨mt_J0_charAt_5068e, rfl, Nat.le_refl _, Or.inl ⟨rfl, by omega, rfl, 8, by decide, Or.inr ⟨rfl, x1, e1, rfl, rfl⟩⟩⟩
theorem r_J_length_9 (d : Nat) (sw : Bool) (s s' : am_S) (v : Int32) (e : f_J_length 9 s = some (v, s')) : am_Run (d + 3) 900 [.ref 1009] (am_hp sw s) (am_cI v) (am_hp sw s') := by
  cases e
  exact ⟨mt_J0_length_8abf5, rfl, Nat.le_refl _, Or.inl ⟨rfl, by omega, rfl, 9, by decide, Or.inl ⟨rfl, rfl, rfl⟩⟩⟩
theorem r_J_charAt_9 (d : Nat) (sw : Bool) (s s' : am_S) (x1 v : Int32) (e : f_J_charAt 9 s x1 = some (v, s')) : am_Run (d + 3) 901 [.ref 1009, .int x1] (am_hp sw s) (am_cI v) (am_hp sw s') := by
  obtain ⟨e1, e2⟩ := am_gu_some e
  cases e2
  exact ⟨mt_J0_charAt_5068e, rfl, Nat.le_refl _, Or.inl ⟨rfl, by omega, rfl, 9, by decide, Or.inr ⟨rfl, x1, e1, rfl, rfl⟩⟩⟩
theorem r_J_length_10 (d : Nat) (sw : Bool) (s s' : am_S) (v : Int32) (e : f_J_length 10 s = some (v, s')) : am_Run (d + 3) 900 [.ref 1010] (am_hp sw s) (am_cI v) (am_hp sw s') := by
  cases e
  exact ⟨mt_J0_length_8abf5, rfl, Nat.le_refl _, Or.inl ⟨rfl, by omega, rfl, 10, by decide, Or.inl ⟨rfl, rfl, rfl⟩⟩⟩
theorem r_J_charAt_10 (d : Nat) (sw : Bool) (s s' : am_S) (x1 v : Int32) (e : f_J_charAt 10 s x1 = some (v, s')) : am_Run (d + 3) 901 [.ref 1010, .int x1] (am_hp sw s) (am_cI v) (am_hp sw s') := by
  obtain ⟨e1, e2⟩ := am_gu_some e
  cases e2
  exact ⟨mt_J0_charAt_5068e, rfl, Nat.le_refl _, Or.inl ⟨rfl, by omega, rfl, 10, by decide, Or.inr ⟨rfl, x1, e1, rfl, rfl⟩⟩⟩
theorem r_J_length_11 (d : Nat) (sw : Bool) (s s' : am_S) (v : Int32) (e : f_J_length 11 s = some (v, s')) : am_Run (d + 3) 900 [.ref 1011] (am_hp sw s) (am_cI v) (am_hp sw s') := by
  cases e
  exact ⟨mt_J0_length_8abf5, rfl, Nat.le_refl _, Or.inl ⟨rfl, by omega, rfl, 11, by decide, Or.inl ⟨rfl, rfl, rfl⟩⟩⟩
theorem r_J_charAt_11 (d : Nat) (sw : Bool) (s s' : am_S) (x1 v : Int32) (e : f_J_charAt 11 s x1 = some (v, s')) : am_Run (d + 3) 901 [.ref 1011, .int x1] (am_hp sw s) (am_cI v) (am_hp sw s') := by
  obtain ⟨e1, e2⟩ := am_gu_some e
  cases e2
  exact ⟨mt_J0_charAt_5068e, rfl, Nat.le_refl _, Or.inl ⟨rfl, by omega, rfl, 11, by decide, Or.inr ⟨rfl, x1, e1, rfl, rfl⟩⟩⟩
theorem r_J_length_12 (d : Nat) (sw : Bool) (s s' : am_S) (v : Int32) (e : f_J_length 12 s = some (v, s')) : am_Run (d + 3) 900 [.ref 1012] (am_hp sw s) (am_cI v) (am_hp sw s') := by
  cases e
  exact ⟨mt_J0_length_8abf5, rfl, Nat.le_refl _, Or.inl ⟨rfl, by omega, rfl, 12, by decide, Or.inl ⟨rfl, rfl, rfl⟩⟩⟩
theorem r_J_charAt_12 (d : Nat) (sw : Bool) (s s' : am_S) (x1 v : Int32) (e : f_J_charAt 12 s x1 = some (v, s')) : am_Run (d + 3) 901 [.ref 1012, .int x1] (am_hp sw s) (am_cI v) (am_hp sw s') := by
  obtain ⟨e1, e2⟩ := am_gu_some e
  cases e2
  exact ⟨mt_J0_charAt_5068e, rfl, Nat.le_refl _, Or.inl ⟨rfl, by omega, rfl, 12, by decide, Or.inr ⟨rfl, x1, e1, rfl, rfl⟩⟩⟩
theorem r_J_length_13 (d : Nat) (sw : Bool) (s s' : am_S) (v : Int32) (e : f_J_length 13 s = some (v, s')) : am_Run (d + 3) 900 [.ref 1013] (am_hp sw s) (am_cI v) (am_hp sw s') := by
  cases e
  exact ⟨mt_J0_length_8abf5, rfl, Nat.le_refl _, Or.inl ⟨rfl, by omega, rfl, 13, by decide, Or.inl ⟨rfl, rfl, rfl⟩⟩⟩
theorem r_J_charAt_13 (d : Nat) (sw : Bool) (s s' : am_S) (x1 v : Int32) (e : f_J_charAt 13 s x1 = some (v, s')) : am_Run (d + 3) 901 [.ref 1013, .int x1] (am_hp sw s) (am_cI v) (am_hp sw s') := by
  obtain ⟨e1, e2⟩ := am_gu_some e
  cases e2
  exact ⟨mt_J0_charAt_5068e, rfl, Nat.le_refl _, Or.inl ⟨rfl, by omega, rfl, 13, by decide, Or.inr ⟨rfl, x1, e1, rfl, rfl⟩⟩⟩
def f_X0_row (s : am_S) (x0 : Int32) (x1 : Int32) : Option (Int32 × am_S) := some ((((x0 * 6) + x1) + 1), s)
set_option maxRecDepth 20000 in
theorem r_X0_row (d : Nat) (sw : Bool) (s s' : am_S) (x0 : Int32) (x1 : Int32) (v : Int32) (e : f_X0_row s x0 x1 = some (v, s')) : am_Run (d + 1) 9 [.int x0, .int x1] (am_hp sw s) (am_cI v) (am_hp sw s') := by
  refine am_Run.of (M := mt_X0_row) (cvf := am_cI) (X := f_X0_row s x0 x1) rfl rfl rfl (by simp) ?_ e
  unfold f_X0_row
  show am_Sm tb_X0_row 0 false none (some .int) (d + 0) (am_po am_cI sw) _ 0 [.int x0, .int x1] [] (am_hp sw s)
  exact sm_ret 7 8 [.int x0, .int x1] [.int (((x0 * 6) + x1) + 1)] (am_hp sw s) (some (.int (((x0 * 6) + x1) + 1))) (fun _ => rfl) rfl (fun _ _ h => h)

def f_X0_clear_L2 (b : Nat) : Nat → Int32 → am_S → Option ((Unit × am_S) ⊕ ((Unit) × am_S))
  | 0, _, _ => none
  | n + 1, x1, s => if x1 < 48 then (am_gu (am_in x1 48) (f_X0_clear_L2 b n (x1 + 1) (am_wI s b (Int32.toNatClampNeg x1) (0)))) else (some (.inr ((), s)))
def f_X0_clear (b : Nat) (s : am_S) : Option (Unit × am_S) := am_lp (fun y => y) (f_X0_clear_L2 b am_FU (0) s) (fun (_ : Unit) s2 => some ((), s2))
set_option maxRecDepth 20000 in
theorem l_X0_clear_2_55 (d : Nat) (sw : Bool) : ∀ (n : Nat) (x1 : Int32) (s : am_S), am_Sm tb_X0_clear 0 false none none (d + 0) (am_pl am_cU sw (fun (v9 : Unit) s9 r h9 => am_Ex tb_X0_clear 0 false none none (d + 0) r h9 18 [.null, .null] [] (am_hp sw s9))) (f_X0_clear_L2 55 n x1 s) 2 [.ref 55, .int x1] [] (am_hp sw s) := by
  intro n
  induction n with
  | zero => intro x1 s; exact sm_no
  | succ n ih =>
    intro x1 s
    rw [f_X0_clear_L2]
    refine sm_br 4 8 18 [.ref 55, .int x1] [] (am_hp sw s) (fun _ => rfl) (fun _ => ?_) (fun _ => ?_)
    · refine sm_iast 3 11 [.ref 55, .int x1] [] sw s (i := x1) (x := (0)) (c := 55) (fun _ => rfl) rfl rfl rfl ?_
      refine sm_go 2 2 [.ref 55, .int (x1 + 1)] [] (am_hp sw (am_wI s 55 (Int32.toNatClampNeg x1) (0))) (fun _ => rfl) ?_
      exact ih (x1 + 1) (am_wI s 55 (Int32.toNatClampNeg x1) (0))
    · refine sm_fg [.null, .null] ⟨Or.inl rfl, Or.inl rfl, trivial⟩ ?_
      exact sm_ex (fun _ _ h => h.2)

set_option maxRecDepth 20000 in
theorem r_X0_clear_55 (d : Nat) (sw : Bool) (s s' : am_S) (v : Unit) (e : f_X0_clear 55 s = some (v, s')) : am_Run (d + 1) 10 [.ref 55] (am_hp sw s) (am_cU v) (am_hp sw s') := by
  refine am_Run.of (M := mt_X0_clear) (cvf := am_cU) (X := f_X0_clear 55 s) rfl rfl rfl (by simp) ?_ e
  unfold f_X0_clear
  show am_Sm tb_X0_clear 0 false none none (d + 0) (am_po am_cU sw) _ 0 [.ref 55, .null] [] (am_hp sw s)
  refine sm_go 2 2 [.ref 55, .int (0)] [] (am_hp sw s) (fun _ => rfl) ?_
  refine sm_lp 18 (fun _y => [.null, .null]) (l_X0_clear_2_55 d sw am_FU (0) s) (fun _ _ _ h => h) am_po20 (fun _y s2 => ?_)
  exact sm_ret 0 18 [.null, .null] [] (am_hp sw s2) none (fun _ => rfl) rfl (fun _ _ h => h)

set_option maxRecDepth 20000 in
theorem l_X0_clear_2_56 (d : Nat) (sw : Bool) : ∀ (n : Nat) (x1 : Int32) (s : am_S), am_Sm tb_X0_clear 0 false none none (d + 0) (am_pl am_cU sw (fun (v9 : Unit) s9 r h9 => am_Ex tb_X0_clear 0 false none none (d + 0) r h9 18 [.null, .null] [] (am_hp sw s9))) (f_X0_clear_L2 56 n x1 s) 2 [.ref 56, .int x1] [] (am_hp sw s) := by
  intro n
  induction n with
  | zero => intro x1 s; exact sm_no
  | succ n ih =>
    intro x1 s
    rw [f_X0_clear_L2]
    refine sm_br 4 8 18 [.ref 56, .int x1] [] (am_hp sw s) (fun _ => rfl) (fun _ => ?_) (fun _ => ?_)
    · refine sm_iast 3 11 [.ref 56, .int x1] [] sw s (i := x1) (x := (0)) (c := 56) (fun _ => rfl) rfl rfl rfl ?_
      refine sm_go 2 2 [.ref 56, .int (x1 + 1)] [] (am_hp sw (am_wI s 56 (Int32.toNatClampNeg x1) (0))) (fun _ => rfl) ?_
      exact ih (x1 + 1) (am_wI s 56 (Int32.toNatClampNeg x1) (0))
    · refine sm_fg [.null, .null] ⟨Or.inl rfl, Or.inl rfl, trivial⟩ ?_
      exact sm_ex (fun _ _ h => h.2)

set_option maxRecDepth 20000 in
theorem r_X0_clear_56 (d : Nat) (sw : Bool) (s s' : am_S) (v : Unit) (e : f_X0_clear 56 s = some (v, s')) : am_Run (d + 1) 10 [.ref 56] (am_hp sw s) (am_cU v) (am_hp sw s') := by
  refine am_Run.of (M := mt_X0_clear) (cvf := am_cU) (X := f_X0_clear 56 s) rfl rfl rfl (by simp) ?_ e
  unfold f_X0_clear
  show am_Sm tb_X0_clear 0 false none none (d + 0) (am_po am_cU sw) _ 0 [.ref 56, .null] [] (am_hp sw s)
  refine sm_go 2 2 [.ref 56, .int (0)] [] (am_hp sw s) (fun _ => rfl) ?_
  refine sm_lp 18 (fun _y => [.null, .null]) (l_X0_clear_2_56 d sw am_FU (0) s) (fun _ _ _ h => h) am_po20 (fun _y s2 => ?_)
  exact sm_ret 0 18 [.null, .null] [] (am_hp sw s2) none (fun _ => rfl) rfl (fun _ _ h => h)

def f_X3_kindOf (s : am_S) (x1 : Int32) : Option (Int32 × am_S) := am_gu (am_in x1 400) (am_gu (am_in (s.1 40 (Int32.toNatClampNeg x1)) 200) (some ((s.1 36 (Int32.toNatClampNeg (s.1 40 (Int32.toNatClampNeg x1)))), s)))
set_option maxRecDepth 20000 in
theorem r_X3_kindOf (d : Nat) (sw : Bool) (s s' : am_S) (x1 : Int32) (v : Int32) (e : f_X3_kindOf s x1 = some (v, s')) : am_Run (d + 1) 31 [.ref 39, .int x1] (am_hp sw s) (am_cI v) (am_hp sw s') := by
  refine am_Run.of (M := mt_X3_kindOf) (cvf := am_cI) (X := f_X3_kindOf s x1) rfl rfl rfl (by simp) ?_ e
  unfold f_X3_kindOf
  show am_Sm tb_X3_kindOf 3 false none (some .int) (d + 0) (am_po am_cI sw) _ 0 [.ref 39, .int x1] [] (am_hp sw s)
  refine sm_iald 6 12 [.ref 39, .int x1] [.ref 36] (am_hp sw s) (i := x1) (c := 40) (fun _ => rfl) rfl rfl rfl rfl ?_
  refine sm_iald 0 13 [.ref 39, .int x1] [] (am_hp sw s) (i := (s.1 40 (Int32.toNatClampNeg x1))) (c := 36) (fun _ => rfl) rfl rfl rfl rfl ?_
  exact sm_ret 0 14 [.ref 39, .int x1] [.int (s.1 36 (Int32.toNatClampNeg (s.1 40 (Int32.toNatClampNeg x1))))] (am_hp sw s) (some (.int (s.1 36 (Int32.toNatClampNeg (s.1 40 (Int32.toNatClampNeg x1)))))) (fun _ => rfl) rfl (fun _ _ h => h)

def f_X3_colourOf (s : am_S) (x1 : Int32) : Option (Int32 × am_S) := am_gu (am_in x1 400) (if (s.1 42 (Int32.toNatClampNeg x1)) = (-1) then (some ((-1), s)) else (am_gu (am_in x1 400) (am_gu (am_in (s.1 42 (Int32.toNatClampNeg x1)) 20) (some ((s.1 45 (Int32.toNatClampNeg (s.1 42 (Int32.toNatClampNeg x1)))), s)))))
set_option maxRecDepth 20000 in
theorem r_X3_colourOf (d : Nat) (sw : Bool) (s s' : am_S) (x1 : Int32) (v : Int32) (e : f_X3_colourOf s x1 = some (v, s')) : am_Run (d + 1) 33 [.ref 39, .int x1] (am_hp sw s) (am_cI v) (am_hp sw s') := by
  refine am_Run.of (M := mt_X3_colourOf) (cvf := am_cI) (X := f_X3_colourOf s x1) rfl rfl rfl (by simp) ?_ e
  unfold f_X3_colourOf
  show am_Sm tb_X3_colourOf 3 false none (some .int) (d + 0) (am_po am_cI sw) _ 0 [.ref 39, .int x1] [] (am_hp sw s)
  refine sm_iald 3 5 [.ref 39, .int x1] [] (am_hp sw s) (i := x1) (c := 42) (fun _ => rfl) rfl rfl rfl rfl ?_
  refine sm_br 2 10 14 [.ref 39, .int x1] [] (am_hp sw s) (fun _ => rfl) (fun _ => ?_) (fun _ => ?_)
  · exact sm_ret 2 25 [.ref 39, .int x1] [.int (-1)] (am_hp sw s) (some (.int (-1))) (fun _ => rfl) rfl (fun _ _ h => h)
  · refine sm_iald 5 23 [.ref 39, .int x1] [.ref 45] (am_hp sw s) (i := x1) (c := 42) (fun _ => rfl) rfl rfl rfl rfl ?_
    refine sm_iald 0 24 [.ref 39, .int x1] [] (am_hp sw s) (i := (s.1 42 (Int32.toNatClampNeg x1))) (c := 45) (fun _ => rfl) rfl rfl rfl rfl ?_
    exact sm_ret 0 25 [.ref 39, .int x1] [.int (s.1 45 (Int32.toNatClampNeg (s.1 42 (Int32.toNatClampNeg x1))))] (am_hp sw s) (some (.int (s.1 45 (Int32.toNatClampNeg (s.1 42 (Int32.toNatClampNeg x1)))))) (fun _ => rfl) rfl (fun _ _ h => h)

def f_X0_countSupply_L9 : Nat → Int32 → am_S → Option ((Unit × am_S) ⊕ ((Unit) × am_S))
  | 0, _, _ => none
  | n + 1, x1, s => if x1 < (s.1 39 1) then (am_gu (am_in x1 400) (am_jn (fun (p61 : am_S) => f_X0_countSupply_L9 n (x1 + 1) p61) (fun j61 => if (s.1 43 (Int32.toNatClampNeg x1)) = (-1) then (am_bd (f_X3_kindOf s x1) (fun v42 s42 => am_bd (f_X3_colourOf s42 x1) (fun v50 s50 => am_bd (f_X0_row s50 v42 v50) (fun v53 s53 => am_gu (am_in v53 48) (am_gu (am_in v53 48) (j61 (am_wI s53 55 (Int32.toNatClampNeg v53) ((s53.1 55 (Int32.toNatClampNeg v53)) + 1)))))))) else (j61 s)))) else (some (.inr ((), s)))
def f_X0_countSupply (s : am_S) : Option (Unit × am_S) := am_bd (f_X0_clear 55 s) (fun (_ : Unit) s4 => am_lp (fun y => y) (f_X0_countSupply_L9 am_FU (0) s4) (fun (_ : Unit) s9 => some ((), s9)))
set_option maxRecDepth 20000 in
theorem l_X0_countSupply_9 (d : Nat) (sw : Bool) : ∀ (n : Nat) (x1 : Int32) (s : am_S), am_Sm tb_X0_countSupply 0 false none none (d + 1) (am_pl am_cU sw (fun (v9 : Unit) s9 r h9 => am_Ex tb_X0_countSupply 0 false none none (d + 1) r h9 67 [.null, .null] [] (am_hp sw s9))) (f_X0_countSupply_L9 n x1 s) 9 [.ref 54, .int x1] [] (am_hp sw s) := by
  intro n
  induction n with
  | zero => intro x1 s; exact sm_no
  | succ n ih =>
    intro x1 s
    rw [f_X0_countSupply_L9]
    refine sm_br 5 20 67 [.ref 54, .int x1] [] (am_hp sw s) (fun _ => rfl) (fun _ => ?_) (fun _ => ?_)
    · refine sm_iald 4 28 [.ref 54, .int x1] [] (am_hp sw s) (i := x1) (c := 43) (fun _ => rfl) rfl rfl rfl rfl ?_
      refine sm_go 1 30 [.ref 54, .int x1] [.int (-1), .int (s.1 43 (Int32.toNatClampNeg x1))] (am_hp sw s) (fun _ => rfl) ?_
      refine sm_jn 61 (fun p61 => [.ref 54, .int x1]) (fun p61 => []) (fun p61 => (am_hp sw p61)) (fun p61 => ?_) (fun j61 hj61 => ?_)
      · refine sm_go 2 9 [.ref 54, .int (x1 + 1)] [] (am_hp sw p61) (fun _ => rfl) ?_
        exact ih (x1 + 1) p61
      refine sm_br 1 33 61 [.ref 54, .int x1] [] (am_hp sw s) (fun _ => rfl) (fun _ => ?_) (fun _ => ?_)
      · refine sm_call (cvf := am_cI) 5 42 [.ref 54, .int x1] [.int x1, .ref 39, .ref 55] sw s 31 [.ref 39, .int x1] [.ref 55] (fun _ => rfl) rfl (fun _ _ e9 => r_X3_kindOf (d + 0) sw _ _ _ _ e9) am_pl20 (fun v42 s42 => ?_)
        refine sm_call (cvf := am_cI) 3 50 [.ref 54, .int x1] [.int x1, .ref 39, .int v42, .ref 55] sw s42 33 [.ref 39, .int x1] [.int v42, .ref 55] (fun _ => rfl) rfl (fun _ _ e9 => r_X3_colourOf (d + 0) sw _ _ _ _ e9) am_pl20 (fun v50 s50 => ?_)
        refine sm_call (cvf := am_cI) 0 53 [.ref 54, .int x1] [.int v50, .int v42, .ref 55] sw s50 9 [.int v42, .int v50] [.ref 55] (fun _ => rfl) rfl (fun _ _ e9 => r_X0_row (d + 0) sw _ _ _ _ _ e9) am_pl20 (fun v53 s53 => ?_)
        refine sm_iald 1 57 [.ref 54, .int x1] [.int v53, .ref 55] (am_hp sw s53) (i := v53) (c := 55) (fun _ => rfl) rfl rfl rfl rfl ?_
        refine sm_iast 2 60 [.ref 54, .int x1] [] sw s53 (i := v53) (x := ((s53.1 55 (Int32.toNatClampNeg v53)) + 1)) (c := 55) (fun _ => rfl) rfl rfl rfl ?_
        exact hj61 (am_wI s53 55 (Int32.toNatClampNeg v53) ((s53.1 55 (Int32.toNatClampNeg v53)) + 1))
      · exact hj61 s
    · refine sm_fg [.null, .null] ⟨Or.inl rfl, Or.inl rfl, trivial⟩ ?_
      exact sm_ex (fun _ _ h => h.2)

set_option maxRecDepth 20000 in
theorem r_X0_countSupply (d : Nat) (sw : Bool) (s s' : am_S) (v : Unit) (e : f_X0_countSupply s = some (v, s')) : am_Run (d + 2) 3 [.ref 54] (am_hp sw s) (am_cU v) (am_hp sw s') := by
  refine am_Run.of (M := mt_X0_countSupply) (cvf := am_cU) (X := f_X0_countSupply s) rfl rfl rfl (by simp) ?_ e
  unfold f_X0_countSupply
  show am_Sm tb_X0_countSupply 0 false none none (d + 1) (am_po am_cU sw) _ 0 [.ref 54, .null] [] (am_hp sw s)
  refine sm_call (cvf := am_cU) 2 4 [.ref 54, .null] [.ref 55] sw s 10 [.ref 55] [] (fun _ => rfl) rfl (fun _ _ e9 => r_X0_clear_55 (d + 0) sw _ _  _ e9) am_po20 (fun _v s4 => ?_)
  refine sm_go 2 9 [.ref 54, .int (0)] [] (am_hp sw s4) (fun _ => rfl) ?_
  refine sm_lp 67 (fun _y => [.null, .null]) (l_X0_countSupply_9 d sw am_FU (0) s4) (fun _ _ _ h => h) am_po20 (fun _y s9 => ?_)
  exact sm_ret 0 67 [.null, .null] [] (am_hp sw s9) none (fun _ => rfl) rfl (fun _ _ h => h)

def f_X5_isIn (s : am_S) (x0 : Int32) (x1 : Int32) : Option (Int32 × am_S) := if x1 < 0 then (some ((0), s)) else (if x1 < 8 then (if ((x0 >>> (x1 &&& 31)) &&& 1) = 0 then (some ((0), s)) else (some ((1), s))) else (some ((0), s)))
set_option maxRecDepth 20000 in
theorem r_X5_isIn (d : Nat) (sw : Bool) (s s' : am_S) (x0 : Int32) (x1 : Int32) (v : Int32) (e : f_X5_isIn s x0 x1 = some (v, s')) : am_Run (d + 1) 43 [.int x0, .int x1] (am_hp sw s) (am_cI v) (am_hp sw s') := by
  refine am_Run.of (M := mt_X5_isIn) (cvf := am_cI) (X := f_X5_isIn s x0 x1) rfl rfl rfl (by simp) ?_ e
  unfold f_X5_isIn
  show am_Sm tb_X5_isIn 5 false none (some .boolean) (d + 0) (am_po am_cI sw) _ 0 [.int x0, .int x1] [] (am_hp sw s)
  refine sm_br 2 22 4 [.int x0, .int x1] [] (am_hp sw s) (fun _ => rfl) (fun _ => ?_) (fun _ => ?_)
  · exact sm_ret 1 23 [.int x0, .int x1] [.int (0)] (am_hp sw s) (some (.int (0))) (fun _ => rfl) rfl (fun _ _ h => h)
  · refine sm_br 3 10 22 [.int x0, .int x1] [] (am_hp sw s) (fun _ => rfl) (fun _ => ?_) (fun _ => ?_)
    · refine sm_br 6 22 18 [.int x0, .int x1] [] (am_hp sw s) (fun _ => rfl) (fun _ => ?_) (fun _ => ?_)
      · exact sm_ret 1 23 [.int x0, .int x1] [.int (0)] (am_hp sw s) (some (.int (0))) (fun _ => rfl) rfl (fun _ _ h => h)
      · exact sm_ret 2 23 [.int x0, .int x1] [.int (1)] (am_hp sw s) (some (.int (1))) (fun _ => rfl) rfl (fun _ _ h => h)
    · exact sm_ret 1 23 [.int x0, .int x1] [.int (0)] (am_hp sw s) (some (.int (0))) (fun _ => rfl) rfl (fun _ _ h => h)

def f_X5_worthOf_L4 : Nat → Int32 → Int32 → Int32 → am_S → Option ((Int32 × am_S) ⊕ ((Int32) × am_S))
  | 0, _, _, _, _ => none
  | n + 1, x1, x2, x3, s => if x3 < (s.1 46 0) then (am_bd (f_X5_isIn s x1 x3) (fun v14 s14 => am_jn (fun (p29 : Int32 × am_S) => f_X5_worthOf_L4 n x1 p29.1 (x3 + 1) p29.2) (fun j29 => if v14 = 0 then (j29 (x2, s14)) else (am_gu (am_in x3 8) (j29 ((x2 + (s14.1 47 (Int32.toNatClampNeg x3))), s14)))))) else (some (.inr (x2, s)))
def f_X5_worthOf (s : am_S) (x1 : Int32) : Option (Int32 × am_S) := am_lp (fun y => y) (f_X5_worthOf_L4 am_FU x1 (0) (0) s) (fun y4 s4 => some (y4, s4))
set_option maxRecDepth 20000 in
theorem l_X5_worthOf_4 (d : Nat) (sw : Bool) : ∀ (n : Nat) (x1 : Int32) (x2 : Int32) (x3 : Int32) (s : am_S), am_Sm tb_X5_worthOf 5 false none (some .int) (d + 1) (am_pl am_cI sw (fun (v9 : Int32) s9 r h9 => am_Ex tb_X5_worthOf 5 false none (some .int) (d + 1) r h9 35 [.null, .null, .int v9, .null] [] (am_hp sw s9))) (f_X5_worthOf_L4 n x1 x2 x3 s) 4 [.ref 46, .int x1, .int x2, .int x3] [] (am_hp sw s) := by
  intro n
  induction n with
  | zero => intro x1 x2 x3 s; exact sm_no
  | succ n ih =>
    intro x1 x2 x3 s
    rw [f_X5_worthOf_L4]
    refine sm_br 4 12 35 [.ref 46, .int x1, .int x2, .int x3] [] (am_hp sw s) (fun _ => rfl) (fun _ => ?_) (fun _ => ?_)
    · refine sm_call (cvf := am_cI) 2 14 [.ref 46, .int x1, .int x2, .int x3] [.int x3, .int x1] sw s 43 [.int x1, .int x3] [] (fun _ => rfl) rfl (fun _ _ e9 => r_X5_isIn (d + 0) sw _ _ _ _ _ e9) am_pl20 (fun v14 s14 => ?_)
      refine sm_jn 29 (fun p29 => [.ref 46, .int x1, .int p29.1, .int x3]) (fun p29 => []) (fun p29 => (am_hp sw p29.2)) (fun p29 => ?_) (fun j29 hj29 => ?_)
      · refine sm_go 2 4 [.ref 46, .int x1, .int p29.1, .int (x3 + 1)] [] (am_hp sw p29.2) (fun _ => rfl) ?_
        exact ih x1 p29.1 (x3 + 1) p29.2
      refine sm_br 1 29 20 [.ref 46, .int x1, .int x2, .int x3] [] (am_hp sw s14) (fun _ => rfl) (fun _ => ?_) (fun _ => ?_)
      · exact hj29 (x2, s14)
      · refine sm_iald 4 26 [.ref 46, .int x1, .int x2, .int x3] [.int x2] (am_hp sw s14) (i := x3) (c := 47) (fun _ => rfl) rfl rfl rfl rfl ?_
        refine sm_go 2 29 [.ref 46, .int x1, .int (x2 + (s14.1 47 (Int32.toNatClampNeg x3))), .int x3] [] (am_hp sw s14) (fun _ => rfl) ?_
        exact hj29 ((x2 + (s14.1 47 (Int32.toNatClampNeg x3))), s14)
    · refine sm_fg [.null, .null, .int x2, .null] ⟨Or.inl rfl, Or.inl rfl, Or.inr rfl, Or.inl rfl, trivial⟩ ?_
      exact sm_ex (fun _ _ h => h.2)

set_option maxRecDepth 20000 in
theorem r_X5_worthOf (d : Nat) (sw : Bool) (s s' : am_S) (x1 : Int32) (v : Int32) (e : f_X5_worthOf s x1 = some (v, s')) : am_Run (d + 2) 49 [.ref 46, .int x1] (am_hp sw s) (am_cI v) (am_hp sw s') := by
  refine am_Run.of (M := mt_X5_worthOf) (cvf := am_cI) (X := f_X5_worthOf s x1) rfl rfl rfl (by simp) ?_ e
  unfold f_X5_worthOf
  show am_Sm tb_X5_worthOf 5 false none (some .int) (d + 1) (am_po am_cI sw) _ 0 [.ref 46, .int x1, .null, .null] [] (am_hp sw s)
  refine sm_go 4 4 [.ref 46, .int x1, .int (0), .int (0)] [] (am_hp sw s) (fun _ => rfl) ?_
  refine sm_lp 35 (fun y4 => [.null, .null, .int y4, .null]) (l_X5_worthOf_4 d sw am_FU x1 (0) (0) s) (fun _ _ _ h => h) am_po20 (fun y4 s4 => ?_)
  exact sm_ret 1 36 [.null, .null, .int y4, .null] [.int y4] (am_hp sw s4) (some (.int y4)) (fun _ => rfl) rfl (fun _ _ h => h)

def f_J6_bitCount_0f7a4 (s : am_S) (x0 : Int32) : Option (Int32 × am_S) := some (((((((((x0 - (((Int32.toUInt32 x0 >>> (Int32.toUInt32 1 &&& Int32.toUInt32 31)).toInt32) &&& 1431655765)) &&& 858993459) + (((Int32.toUInt32 (x0 - (((Int32.toUInt32 x0 >>> (Int32.toUInt32 1 &&& Int32.toUInt32 31)).toInt32) &&& 1431655765)) >>> (Int32.toUInt32 2 &&& Int32.toUInt32 31)).toInt32) &&& 858993459)) + ((Int32.toUInt32 (((x0 - (((Int32.toUInt32 x0 >>> (Int32.toUInt32 1 &&& Int32.toUInt32 31)).toInt32) &&& 1431655765)) &&& 858993459) + (((Int32.toUInt32 (x0 - (((Int32.toUInt32 x0 >>> (Int32.toUInt32 1 &&& Int32.toUInt32 31)).toInt32) &&& 1431655765)) >>> (Int32.toUInt32 2 &&& Int32.toUInt32 31)).toInt32) &&& 858993459)) >>> (Int32.toUInt32 4 &&& Int32.toUInt32 31)).toInt32)) &&& 252645135) + ((Int32.toUInt32 (((((x0 - (((Int32.toUInt32 x0 >>> (Int32.toUInt32 1 &&& Int32.toUInt32 31)).toInt32) &&& 1431655765)) &&& 858993459) + (((Int32.toUInt32 (x0 - (((Int32.toUInt32 x0 >>> (Int32.toUInt32 1 &&& Int32.toUInt32 31)).toInt32) &&& 1431655765)) >>> (Int32.toUInt32 2 &&& Int32.toUInt32 31)).toInt32) &&& 858993459)) + ((Int32.toUInt32 (((x0 - (((Int32.toUInt32 x0 >>> (Int32.toUInt32 1 &&& Int32.toUInt32 31)).toInt32) &&& 1431655765)) &&& 858993459) + (((Int32.toUInt32 (x0 - (((Int32.toUInt32 x0 >>> (Int32.toUInt32 1 &&& Int32.toUInt32 31)).toInt32) &&& 1431655765)) >>> (Int32.toUInt32 2 &&& Int32.toUInt32 31)).toInt32) &&& 858993459)) >>> (Int32.toUInt32 4 &&& Int32.toUInt32 31)).toInt32)) &&& 252645135) >>> (Int32.toUInt32 8 &&& Int32.toUInt32 31)).toInt32)) + ((Int32.toUInt32 ((((((x0 - (((Int32.toUInt32 x0 >>> (Int32.toUInt32 1 &&& Int32.toUInt32 31)).toInt32) &&& 1431655765)) &&& 858993459) + (((Int32.toUInt32 (x0 - (((Int32.toUInt32 x0 >>> (Int32.toUInt32 1 &&& Int32.toUInt32 31)).toInt32) &&& 1431655765)) >>> (Int32.toUInt32 2 &&& Int32.toUInt32 31)).toInt32) &&& 858993459)) + ((Int32.toUInt32 (((x0 - (((Int32.toUInt32 x0 >>> (Int32.toUInt32 1 &&& Int32.toUInt32 31)).toInt32) &&& 1431655765)) &&& 858993459) + (((Int32.toUInt32 (x0 - (((Int32.toUInt32 x0 >>> (Int32.toUInt32 1 &&& Int32.toUInt32 31)).toInt32) &&& 1431655765)) >>> (Int32.toUInt32 2 &&& Int32.toUInt32 31)).toInt32) &&& 858993459)) >>> (Int32.toUInt32 4 &&& Int32.toUInt32 31)).toInt32)) &&& 252645135) + ((Int32.toUInt32 (((((x0 - (((Int32.toUInt32 x0 >>> (Int32.toUInt32 1 &&& Int32.toUInt32 31)).toInt32) &&& 1431655765)) &&& 858993459) + (((Int32.toUInt32 (x0 - (((Int32.toUInt32 x0 >>> (Int32.toUInt32 1 &&& Int32.toUInt32 31)).toInt32) &&& 1431655765)) >>> (Int32.toUInt32 2 &&& Int32.toUInt32 31)).toInt32) &&& 858993459)) + ((Int32.toUInt32 (((x0 - (((Int32.toUInt32 x0 >>> (Int32.toUInt32 1 &&& Int32.toUInt32 31)).toInt32) &&& 1431655765)) &&& 858993459) + (((Int32.toUInt32 (x0 - (((Int32.toUInt32 x0 >>> (Int32.toUInt32 1 &&& Int32.toUInt32 31)).toInt32) &&& 1431655765)) >>> (Int32.toUInt32 2 &&& Int32.toUInt32 31)).toInt32) &&& 858993459)) >>> (Int32.toUInt32 4 &&& Int32.toUInt32 31)).toInt32)) &&& 252645135) >>> (Int32.toUInt32 8 &&& Int32.toUInt32 31)).toInt32)) >>> (Int32.toUInt32 16 &&& Int32.toUInt32 31)).toInt32)) &&& 63), s)
set_option maxRecDepth 20000 in
theorem r_J6_bitCount_0f7a4 (d : Nat) (sw : Bool) (s s' : am_S) (x0 : Int32) (v : Int32) (e : f_J6_bitCount_0f7a4 s x0 = some (v, s')) : am_Run (d + 1) 198 [.int x0] (am_hp sw s) (am_cI v) (am_hp sw s') := by
  refine am_Run.of (M := mt_J6_bitCount_0f7a4) (cvf := am_cI) (X := f_J6_bitCount_0f7a4 s x0) rfl rfl rfl (by simp) ?_ e
  unfold f_J6_bitCount_0f7a4
  show am_Sm tb_J6_bitCount_0f7a4 13 false none (some .int) (d + 0) (am_po am_cI sw) _ 0 [.int x0] [] (am_hp sw s)
  exact sm_ret 41 52 [.int (((((((x0 - (((Int32.toUInt32 x0 >>> (Int32.toUInt32 1 &&& Int32.toUInt32 31)).toInt32) &&& 1431655765)) &&& 858993459) + (((Int32.toUInt32 (x0 - (((Int32.toUInt32 x0 >>> (Int32.toUInt32 1 &&& Int32.toUInt32 31)).toInt32) &&& 1431655765)) >>> (Int32.toUInt32 2 &&& Int32.toUInt32 31)).toInt32) &&& 858993459)) + ((Int32.toUInt32 (((x0 - (((Int32.toUInt32 x0 >>> (Int32.toUInt32 1 &&& Int32.toUInt32 31)).toInt32) &&& 1431655765)) &&& 858993459) + (((Int32.toUInt32 (x0 - (((Int32.toUInt32 x0 >>> (Int32.toUInt32 1 &&& Int32.toUInt32 31)).toInt32) &&& 1431655765)) >>> (Int32.toUInt32 2 &&& Int32.toUInt32 31)).toInt32) &&& 858993459)) >>> (Int32.toUInt32 4 &&& Int32.toUInt32 31)).toInt32)) &&& 252645135) + ((Int32.toUInt32 (((((x0 - (((Int32.toUInt32 x0 >>> (Int32.toUInt32 1 &&& Int32.toUInt32 31)).toInt32) &&& 1431655765)) &&& 858993459) + (((Int32.toUInt32 (x0 - (((Int32.toUInt32 x0 >>> (Int32.toUInt32 1 &&& Int32.toUInt32 31)).toInt32) &&& 1431655765)) >>> (Int32.toUInt32 2 &&& Int32.toUInt32 31)).toInt32) &&& 858993459)) + ((Int32.toUInt32 (((x0 - (((Int32.toUInt32 x0 >>> (Int32.toUInt32 1 &&& Int32.toUInt32 31)).toInt32) &&& 1431655765)) &&& 858993459) + (((Int32.toUInt32 (x0 - (((Int32.toUInt32 x0 >>> (Int32.toUInt32 1 &&& Int32.toUInt32 31)).toInt32) &&& 1431655765)) >>> (Int32.toUInt32 2 &&& Int32.toUInt32 31)).toInt32) &&& 858993459)) >>> (Int32.toUInt32 4 &&& Int32.toUInt32 31)).toInt32)) &&& 252645135) >>> (Int32.toUInt32 8 &&& Int32.toUInt32 31)).toInt32)) + ((Int32.toUInt32 ((((((x0 - (((Int32.toUInt32 x0 >>> (Int32.toUInt32 1 &&& Int32.toUInt32 31)).toInt32) &&& 1431655765)) &&& 858993459) + (((Int32.toUInt32 (x0 - (((Int32.toUInt32 x0 >>> (Int32.toUInt32 1 &&& Int32.toUInt32 31)).toInt32) &&& 1431655765)) >>> (Int32.toUInt32 2 &&& Int32.toUInt32 31)).toInt32) &&& 858993459)) + ((Int32.toUInt32 (((x0 - (((Int32.toUInt32 x0 >>> (Int32.toUInt32 1 &&& Int32.toUInt32 31)).toInt32) &&& 1431655765)) &&& 858993459) + (((Int32.toUInt32 (x0 - (((Int32.toUInt32 x0 >>> (Int32.toUInt32 1 &&& Int32.toUInt32 31)).toInt32) &&& 1431655765)) >>> (Int32.toUInt32 2 &&& Int32.toUInt32 31)).toInt32) &&& 858993459)) >>> (Int32.toUInt32 4 &&& Int32.toUInt32 31)).toInt32)) &&& 252645135) + ((Int32.toUInt32 (((((x0 - (((Int32.toUInt32 x0 >>> (Int32.toUInt32 1 &&& Int32.toUInt32 31)).toInt32) &&& 1431655765)) &&& 858993459) + (((Int32.toUInt32 (x0 - (((Int32.toUInt32 x0 >>> (Int32.toUInt32 1 &&& Int32.toUInt32 31)).toInt32) &&& 1431655765)) >>> (Int32.toUInt32 2 &&& Int32.toUInt32 31)).toInt32) &&& 858993459)) + ((Int32.toUInt32 (((x0 - (((Int32.toUInt32 x0 >>> (Int32.toUInt32 1 &&& Int32.toUInt32 31)).toInt32) &&& 1431655765)) &&& 858993459) + (((Int32.toUInt32 (x0 - (((Int32.toUInt32 x0 >>> (Int32.toUInt32 1 &&& Int32.toUInt32 31)).toInt32) &&& 1431655765)) >>> (Int32.toUInt32 2 &&& Int32.toUInt32 31)).toInt32) &&& 858993459)) >>> (Int32.toUInt32 4 &&& Int32.toUInt32 31)).toInt32)) &&& 252645135) >>> (Int32.toUInt32 8 &&& Int32.toUInt32 31)).toInt32)) >>> (Int32.toUInt32 16 &&& Int32.toUInt32 31)).toInt32))] [.int ((((((((x0 - (((Int32.toUInt32 x0 >>> (Int32.toUInt32 1 &&& Int32.toUInt32 31)).toInt32) &&& 1431655765)) &&& 858993459) + (((Int32.toUInt32 (x0 - (((Int32.toUInt32 x0 >>> (Int32.toUInt32 1 &&& Int32.toUInt32 31)).toInt32) &&& 1431655765)) >>> (Int32.toUInt32 2 &&& Int32.toUInt32 31)).toInt32) &&& 858993459)) + ((Int32.toUInt32 (((x0 - (((Int32.toUInt32 x0 >>> (Int32.toUInt32 1 &&& Int32.toUInt32 31)).toInt32) &&& 1431655765)) &&& 858993459) + (((Int32.toUInt32 (x0 - (((Int32.toUInt32 x0 >>> (Int32.toUInt32 1 &&& Int32.toUInt32 31)).toInt32) &&& 1431655765)) >>> (Int32.toUInt32 2 &&& Int32.toUInt32 31)).toInt32) &&& 858993459)) >>> (Int32.toUInt32 4 &&& Int32.toUInt32 31)).toInt32)) &&& 252645135) + ((Int32.toUInt32 (((((x0 - (((Int32.toUInt32 x0 >>> (Int32.toUInt32 1 &&& Int32.toUInt32 31)).toInt32) &&& 1431655765)) &&& 858993459) + (((Int32.toUInt32 (x0 - (((Int32.toUInt32 x0 >>> (Int32.toUInt32 1 &&& Int32.toUInt32 31)).toInt32) &&& 1431655765)) >>> (Int32.toUInt32 2 &&& Int32.toUInt32 31)).toInt32) &&& 858993459)) + ((Int32.toUInt32 (((x0 - (((Int32.toUInt32 x0 >>> (Int32.toUInt32 1 &&& Int32.toUInt32 31)).toInt32) &&& 1431655765)) &&& 858993459) + (((Int32.toUInt32 (x0 - (((Int32.toUInt32 x0 >>> (Int32.toUInt32 1 &&& Int32.toUInt32 31)).toInt32) &&& 1431655765)) >>> (Int32.toUInt32 2 &&& Int32.toUInt32 31)).toInt32) &&& 858993459)) >>> (Int32.toUInt32 4 &&& Int32.toUInt32 31)).toInt32)) &&& 252645135) >>> (Int32.toUInt32 8 &&& Int32.toUInt32 31)).toInt32)) + ((Int32.toUInt32 ((((((x0 - (((Int32.toUInt32 x0 >>> (Int32.toUInt32 1 &&& Int32.toUInt32 31)).toInt32) &&& 1431655765)) &&& 858993459) + (((Int32.toUInt32 (x0 - (((Int32.toUInt32 x0 >>> (Int32.toUInt32 1 &&& Int32.toUInt32 31)).toInt32) &&& 1431655765)) >>> (Int32.toUInt32 2 &&& Int32.toUInt32 31)).toInt32) &&& 858993459)) + ((Int32.toUInt32 (((x0 - (((Int32.toUInt32 x0 >>> (Int32.toUInt32 1 &&& Int32.toUInt32 31)).toInt32) &&& 1431655765)) &&& 858993459) + (((Int32.toUInt32 (x0 - (((Int32.toUInt32 x0 >>> (Int32.toUInt32 1 &&& Int32.toUInt32 31)).toInt32) &&& 1431655765)) >>> (Int32.toUInt32 2 &&& Int32.toUInt32 31)).toInt32) &&& 858993459)) >>> (Int32.toUInt32 4 &&& Int32.toUInt32 31)).toInt32)) &&& 252645135) + ((Int32.toUInt32 (((((x0 - (((Int32.toUInt32 x0 >>> (Int32.toUInt32 1 &&& Int32.toUInt32 31)).toInt32) &&& 1431655765)) &&& 858993459) + (((Int32.toUInt32 (x0 - (((Int32.toUInt32 x0 >>> (Int32.toUInt32 1 &&& Int32.toUInt32 31)).toInt32) &&& 1431655765)) >>> (Int32.toUInt32 2 &&& Int32.toUInt32 31)).toInt32) &&& 858993459)) + ((Int32.toUInt32 (((x0 - (((Int32.toUInt32 x0 >>> (Int32.toUInt32 1 &&& Int32.toUInt32 31)).toInt32) &&& 1431655765)) &&& 858993459) + (((Int32.toUInt32 (x0 - (((Int32.toUInt32 x0 >>> (Int32.toUInt32 1 &&& Int32.toUInt32 31)).toInt32) &&& 1431655765)) >>> (Int32.toUInt32 2 &&& Int32.toUInt32 31)).toInt32) &&& 858993459)) >>> (Int32.toUInt32 4 &&& Int32.toUInt32 31)).toInt32)) &&& 252645135) >>> (Int32.toUInt32 8 &&& Int32.toUInt32 31)).toInt32)) >>> (Int32.toUInt32 16 &&& Int32.toUInt32 31)).toInt32)) &&& 63)] (am_hp sw s) (some (.int ((((((((x0 - (((Int32.toUInt32 x0 >>> (Int32.toUInt32 1 &&& Int32.toUInt32 31)).toInt32) &&& 1431655765)) &&& 858993459) + (((Int32.toUInt32 (x0 - (((Int32.toUInt32 x0 >>> (Int32.toUInt32 1 &&& Int32.toUInt32 31)).toInt32) &&& 1431655765)) >>> (Int32.toUInt32 2 &&& Int32.toUInt32 31)).toInt32) &&& 858993459)) + ((Int32.toUInt32 (((x0 - (((Int32.toUInt32 x0 >>> (Int32.toUInt32 1 &&& Int32.toUInt32 31)).toInt32) &&& 1431655765)) &&& 858993459) + (((Int32.toUInt32 (x0 - (((Int32.toUInt32 x0 >>> (Int32.toUInt32 1 &&& Int32.toUInt32 31)).toInt32) &&& 1431655765)) >>> (Int32.toUInt32 2 &&& Int32.toUInt32 31)).toInt32) &&& 858993459)) >>> (Int32.toUInt32 4 &&& Int32.toUInt32 31)).toInt32)) &&& 252645135) + ((Int32.toUInt32 (((((x0 - (((Int32.toUInt32 x0 >>> (Int32.toUInt32 1 &&& Int32.toUInt32 31)).toInt32) &&& 1431655765)) &&& 858993459) + (((Int32.toUInt32 (x0 - (((Int32.toUInt32 x0 >>> (Int32.toUInt32 1 &&& Int32.toUInt32 31)).toInt32) &&& 1431655765)) >>> (Int32.toUInt32 2 &&& Int32.toUInt32 31)).toInt32) &&& 858993459)) + ((Int32.toUInt32 (((x0 - (((Int32.toUInt32 x0 >>> (Int32.toUInt32 1 &&& Int32.toUInt32 31)).toInt32) &&& 1431655765)) &&& 858993459) + (((Int32.toUInt32 (x0 - (((Int32.toUInt32 x0 >>> (Int32.toUInt32 1 &&& Int32.toUInt32 31)).toInt32) &&& 1431655765)) >>> (Int32.toUInt32 2 &&& Int32.toUInt32 31)).toInt32) &&& 858993459)) >>> (Int32.toUInt32 4 &&& Int32.toUInt32 31)).toInt32)) &&& 252645135) >>> (Int32.toUInt32 8 &&& Int32.toUInt32 31)).toInt32)) + ((Int32.toUInt32 ((((((x0 - (((Int32.toUInt32 x0 >>> (Int32.toUInt32 1 &&& Int32.toUInt32 31)).toInt32) &&& 1431655765)) &&& 858993459) + (((Int32.toUInt32 (x0 - (((Int32.toUInt32 x0 >>> (Int32.toUInt32 1 &&& Int32.toUInt32 31)).toInt32) &&& 1431655765)) >>> (Int32.toUInt32 2 &&& Int32.toUInt32 31)).toInt32) &&& 858993459)) + ((Int32.toUInt32 (((x0 - (((Int32.toUInt32 x0 >>> (Int32.toUInt32 1 &&& Int32.toUInt32 31)).toInt32) &&& 1431655765)) &&& 858993459) + (((Int32.toUInt32 (x0 - (((Int32.toUInt32 x0 >>> (Int32.toUInt32 1 &&& Int32.toUInt32 31)).toInt32) &&& 1431655765)) >>> (Int32.toUInt32 2 &&& Int32.toUInt32 31)).toInt32) &&& 858993459)) >>> (Int32.toUInt32 4 &&& Int32.toUInt32 31)).toInt32)) &&& 252645135) + ((Int32.toUInt32 (((((x0 - (((Int32.toUInt32 x0 >>> (Int32.toUInt32 1 &&& Int32.toUInt32 31)).toInt32) &&& 1431655765)) &&& 858993459) + (((Int32.toUInt32 (x0 - (((Int32.toUInt32 x0 >>> (Int32.toUInt32 1 &&& Int32.toUInt32 31)).toInt32) &&& 1431655765)) >>> (Int32.toUInt32 2 &&& Int32.toUInt32 31)).toInt32) &&& 858993459)) + ((Int32.toUInt32 (((x0 - (((Int32.toUInt32 x0 >>> (Int32.toUInt32 1 &&& Int32.toUInt32 31)).toInt32) &&& 1431655765)) &&& 858993459) + (((Int32.toUInt32 (x0 - (((Int32.toUInt32 x0 >>> (Int32.toUInt32 1 &&& Int32.toUInt32 31)).toInt32) &&& 1431655765)) >>> (Int32.toUInt32 2 &&& Int32.toUInt32 31)).toInt32) &&& 858993459)) >>> (Int32.toUInt32 4 &&& Int32.toUInt32 31)).toInt32)) &&& 252645135) >>> (Int32.toUInt32 8 &&& Int32.toUInt32 31)).toInt32)) >>> (Int32.toUInt32 16 &&& Int32.toUInt32 31)).toInt32)) &&& 63))) (fun _ => rfl) rfl (fun _ _ h => h)

def f_X0_isAhead (s : am_S) (x1 : Int32) (x2 : Int32) : Option (Int32 × am_S) := am_bd (f_X5_worthOf s x1) (fun v5 s5 => am_bd (f_X5_worthOf s5 x2) (fun v13 s13 => if (v5 - v13) = 0 then (am_bd (f_J6_bitCount_0f7a4 s13 x1) (fun v33 s33 => am_bd (f_J6_bitCount_0f7a4 s33 x2) (fun v37 s37 => if (v33 - v37) = 0 then (if (x1 &&& ((x1 ^^^ x2) &&& (-(x1 ^^^ x2)))) = 0 then (some ((0), s37)) else (some ((1), s37))) else (if 0 < (v33 - v37) then (some ((1), s37)) else (some ((0), s37)))))) else (if 0 < (v5 - v13) then (some ((1), s13)) else (some ((0), s13)))))
set_option maxRecDepth 20000 in
theorem r_X0_isAhead (d : Nat) (sw : Bool) (s s' : am_S) (x1 : Int32) (x2 : Int32) (v : Int32) (e : f_X0_isAhead s x1 x2 = some (v, s')) : am_Run (d + 3) 4 [.ref 54, .int x1, .int x2] (am_hp sw s) (am_cI v) (am_hp sw s') := by
  refine am_Run.of (M := mt_X0_isAhead) (cvf := am_cI) (X := f_X0_isAhead s x1 x2) rfl rfl rfl (by simp) ?_ e
  unfold f_X0_isAhead
  show am_Sm tb_X0_isAhead 0 false none (some .boolean) (d + 2) (am_po am_cI sw) _ 0 [.ref 54, .int x1, .int x2, .null, .null, .null, .null] [] (am_hp sw s)
  refine sm_call (cvf := am_cI) 3 5 [.ref 54, .int x1, .int x2, .null, .null, .null, .null] [.int x1, .ref 46] sw s 49 [.ref 46, .int x1] [] (fun _ => rfl) rfl (fun _ _ e9 => r_X5_worthOf (d + 0) sw _ _ _ _ e9) am_po20 (fun v5 s5 => ?_)
  refine sm_call (cvf := am_cI) 3 13 [.ref 54, .int x1, .int x2, .null, .null, .null, .null] [.int x2, .ref 46, .int v5] sw s5 49 [.ref 46, .int x2] [.int v5] (fun _ => rfl) rfl (fun _ _ e9 => r_X5_worthOf (d + 0) sw _ _ _ _ e9) am_po20 (fun v13 s13 => ?_)
  refine sm_br 4 32 22 [.ref 54, .int x1, .int x2, .int (v5 - v13), .null, .null, .null] [] (am_hp sw s13) (fun _ => rfl) (fun _ => ?_) (fun _ => ?_)
  · refine sm_call (cvf := am_cI) 1 33 [.ref 54, .int x1, .int x2, .int (v5 - v13), .null, .null, .null] [.int x1] sw s13 198 [.int x1] [] (fun _ => rfl) rfl (fun _ _ e9 => r_J6_bitCount_0f7a4 (d + 1) sw _ _ _ _ e9) am_po20 (fun v33 s33 => ?_)
    refine sm_call (cvf := am_cI) 1 37 [.ref 54, .int x1, .int x2, .int (v5 - v13), .null, .null, .null] [.int x2, .int v33] sw s33 198 [.int x2] [.int v33] (fun _ => rfl) rfl (fun _ _ e9 => r_J6_bitCount_0f7a4 (d + 1) sw _ _ _ _ e9) am_po20 (fun v37 s37 => ?_)
    refine sm_br 4 59 48 [.ref 54, .int x1, .int x2, .int (v5 - v13), .int (v33 - v37), .null, .null] [] (am_hp sw s37) (fun _ => rfl) (fun _ => ?_) (fun _ => ?_)
    · refine sm_br 13 83 79 [.ref 54, .int x1, .int x2, .int (v5 - v13), .int (v33 - v37), .int (x1 ^^^ x2), .int ((x1 ^^^ x2) &&& (-(x1 ^^^ x2)))] [] (am_hp sw s37) (fun _ => rfl) (fun _ => ?_) (fun _ => ?_)
      · exact sm_ret 1 84 [.ref 54, .int x1, .int x2, .int (v5 - v13), .int (v33 - v37), .int (x1 ^^^ x2), .int ((x1 ^^^ x2) &&& (-(x1 ^^^ x2)))] [.int (0)] (am_hp sw s37) (some (.int (0))) (fun _ => rfl) rfl (fun _ _ h => h)
      · exact sm_ret 2 84 [.ref 54, .int x1, .int x2, .int (v5 - v13), .int (v33 - v37), .int (x1 ^^^ x2), .int ((x1 ^^^ x2) &&& (-(x1 ^^^ x2)))] [.int (1)] (am_hp sw s37) (some (.int (1))) (fun _ => rfl) rfl (fun _ _ h => h)
    · refine sm_br 2 53 57 [.ref 54, .int x1, .int x2, .int (v5 - v13), .int (v33 - v37), .null, .null] [] (am_hp sw s37) (fun _ => rfl) (fun _ => ?_) (fun _ => ?_)
      · exact sm_ret 2 58 [.ref 54, .int x1, .int x2, .int (v5 - v13), .int (v33 - v37), .null, .null] [.int (1)] (am_hp sw s37) (some (.int (1))) (fun _ => rfl) rfl (fun _ _ h => h)
      · exact sm_ret 1 58 [.ref 54, .int x1, .int x2, .int (v5 - v13), .int (v33 - v37), .null, .null] [.int (0)] (am_hp sw s37) (some (.int (0))) (fun _ => rfl) rfl (fun _ _ h => h)
  · refine sm_br 2 26 30 [.ref 54, .int x1, .int x2, .int (v5 - v13), .null, .null, .null] [] (am_hp sw s13) (fun _ => rfl) (fun _ => ?_) (fun _ => ?_)
    · exact sm_ret 2 31 [.ref 54, .int x1, .int x2, .int (v5 - v13), .null, .null, .null] [.int (1)] (am_hp sw s13) (some (.int (1))) (fun _ => rfl) rfl (fun _ _ h => h)
    · exact sm_ret 1 31 [.ref 54, .int x1, .int x2, .int (v5 - v13), .null, .null, .null] [.int (0)] (am_hp sw s13) (some (.int (0))) (fun _ => rfl) rfl (fun _ _ h => h)

def f_X0_countDemand_L30 : Nat → Int32 → Int32 → Int32 → am_S → Option ((Unit × am_S) ⊕ ((Unit) × am_S))
  | 0, _, _, _, _ => none
  | n + 1, x1, x2, x3, s => am_gu (am_in x2 8) (if x3 < (s.1 50 (Int32.toNatClampNeg x2)) then (am_gu (am_in ((x2 * 4) + x3) 32) (am_gu (am_in ((x2 * 4) + x3) 32) (am_bd (f_X0_row s (s.1 52 (Int32.toNatClampNeg ((x2 * 4) + x3))) (s.1 53 (Int32.toNatClampNeg ((x2 * 4) + x3)))) (fun v74 s74 => am_gu (am_in v74 48) (am_gu (am_in ((x2 * 4) + x3) 32) (am_gu (am_in v74 48) (f_X0_countDemand_L30 n x1 x2 (x3 + 1) (am_wI s74 56 (Int32.toNatClampNeg v74) ((s74.1 56 (Int32.toNatClampNeg v74)) + (s74.1 51 (Int32.toNatClampNeg ((x2 * 4) + x3)))))))))))) else (some (.inr ((), s))))
def f_X0_countDemand_L9 : Nat → Int32 → Int32 → am_S → Option ((Unit × am_S) ⊕ ((Unit) × am_S))
  | 0, _, _, _ => none
  | n + 1, x1, x2, s => if x2 < (s.1 46 0) then (am_bd (f_X5_isIn s x1 x2) (fun v22 s22 => am_jn (fun (p97 : am_S) => f_X0_countDemand_L9 n x1 (x2 + 1) p97) (fun j97 => if v22 = 0 then (j97 s22) else (am_lp Sum.inl (f_X0_countDemand_L30 am_FU x1 x2 (0) s22) (fun (_ : Unit) s30 => j97 s30))))) else (some (.inr ((), s)))
def f_X0_countDemand (s : am_S) (x1 : Int32) : Option (Unit × am_S) := am_bd (f_X0_clear 56 s) (fun (_ : Unit) s4 => am_lp (fun y => y) (f_X0_countDemand_L9 am_FU x1 (0) s4) (fun (_ : Unit) s9 => some ((), s9)))
set_option maxRecDepth 20000 in
theorem l_X0_countDemand_30 (d : Nat) (sw : Bool) : ∀ (n : Nat) (x1 : Int32) (x2 : Int32) (x3 : Int32) (s : am_S), am_Sm tb_X0_countDemand 0 false none none (d + 1) (am_pl am_cU sw (fun (v9 : Unit) s9 r h9 => am_Ex tb_X0_countDemand 0 false none none (d + 1) r h9 97 [.ref 54, .int x1, .int x2, .null, .null] [] (am_hp sw s9))) (f_X0_countDemand_L30 n x1 x2 x3 s) 30 [.ref 54, .int x1, .int x2, .int x3, .null] [] (am_hp sw s) := by
  intro n
  induction n with
  | zero => intro x1 x2 x3 s; exact sm_no
  | succ n ih =>
    intro x1 x2 x3 s
    rw [f_X0_countDemand_L30]
    refine sm_iald 5 39 [.ref 54, .int x1, .int x2, .int x3, .null] [.int x3] (am_hp sw s) (i := x2) (c := 50) (fun _ => rfl) rfl rfl rfl rfl ?_
    refine sm_br 1 43 97 [.ref 54, .int x1, .int x2, .int x3, .null] [] (am_hp sw s) (fun _ => rfl) (fun _ => ?_) (fun _ => ?_)
    · refine sm_iald 12 63 [.ref 54, .int x1, .int x2, .int x3, .int ((x2 * 4) + x3)] [.ref 56] (am_hp sw s) (i := ((x2 * 4) + x3)) (c := 52) (fun _ => rfl) rfl rfl rfl rfl ?_
      refine sm_iald 4 73 [.ref 54, .int x1, .int x2, .int x3, .int ((x2 * 4) + x3)] [.int (s.1 52 (Int32.toNatClampNeg ((x2 * 4) + x3))), .ref 56] (am_hp sw s) (i := ((x2 * 4) + x3)) (c := 53) (fun _ => rfl) rfl rfl rfl rfl ?_
      refine sm_call (cvf := am_cI) 0 74 [.ref 54, .int x1, .int x2, .int x3, .int ((x2 * 4) + x3)] [.int (s.1 53 (Int32.toNatClampNeg ((x2 * 4) + x3))), .int (s.1 52 (Int32.toNatClampNeg ((x2 * 4) + x3))), .ref 56] sw s 9 [.int (s.1 52 (Int32.toNatClampNeg ((x2 * 4) + x3))), .int (s.1 53 (Int32.toNatClampNeg ((x2 * 4) + x3)))] [.ref 56] (fun _ => rfl) rfl (fun _ _ e9 => r_X0_row (d + 0) sw _ _ _ _ _ e9) am_pl20 (fun v74 s74 => ?_)
      refine sm_iald 1 78 [.ref 54, .int x1, .int x2, .int x3, .int ((x2 * 4) + x3)] [.int v74, .ref 56] (am_hp sw s74) (i := v74) (c := 56) (fun _ => rfl) rfl rfl rfl rfl ?_
      refine sm_iald 4 88 [.ref 54, .int x1, .int x2, .int x3, .int ((x2 * 4) + x3)] [.int (s74.1 56 (Int32.toNatClampNeg v74)), .int v74, .ref 56] (am_hp sw s74) (i := ((x2 * 4) + x3)) (c := 51) (fun _ => rfl) rfl rfl rfl rfl ?_
      refine sm_iast 1 90 [.ref 54, .int x1, .int x2, .int x3, .int ((x2 * 4) + x3)] [] sw s74 (i := v74) (x := ((s74.1 56 (Int32.toNatClampNeg v74)) + (s74.1 51 (Int32.toNatClampNeg ((x2 * 4) + x3))))) (c := 56) (fun _ => rfl) rfl rfl rfl ?_
      refine sm_go 2 30 [.ref 54, .int x1, .int x2, .int (x3 + 1), .int ((x2 * 4) + x3)] [] (am_hp sw (am_wI s74 56 (Int32.toNatClampNeg v74) ((s74.1 56 (Int32.toNatClampNeg v74)) + (s74.1 51 (Int32.toNatClampNeg ((x2 * 4) + x3)))))) (fun _ => rfl) ?_
      refine sm_fg [.ref 54, .int x1, .int x2, .int (x3 + 1), .null] ⟨Or.inr rfl, Or.inr rfl, Or.inr rfl, Or.inr rfl, Or.inl rfl, trivial⟩ ?_
      exact ih x1 x2 (x3 + 1) (am_wI s74 56 (Int32.toNatClampNeg v74) ((s74.1 56 (Int32.toNatClampNeg v74)) + (s74.1 51 (Int32.toNatClampNeg ((x2 * 4) + x3)))))
    · refine sm_fg [.ref 54, .int x1, .int x2, .null, .null] ⟨Or.inr rfl, Or.inr rfl, Or.inr rfl, Or.inl rfl, Or.inl rfl, trivial⟩ ?_
      exact sm_ex (fun _ _ h => h.2)

set_option maxRecDepth 20000 in
theorem l_X0_countDemand_9 (d : Nat) (sw : Bool) : ∀ (n : Nat) (x1 : Int32) (x2 : Int32) (s : am_S), am_Sm tb_X0_countDemand 0 false none none (d + 1) (am_pl am_cU sw (fun (v9 : Unit) s9 r h9 => am_Ex tb_X0_countDemand 0 false none none (d + 1) r h9 103 [.null, .null, .null, .null, .null] [] (am_hp sw s9))) (f_X0_countDemand_L9 n x1 x2 s) 9 [.ref 54, .int x1, .int x2, .null, .null] [] (am_hp sw s) := by
  intro n
  induction n with
  | zero => intro x1 x2 s; exact sm_no
  | succ n ih =>
    intro x1 x2 s
    rw [f_X0_countDemand_L9]
    refine sm_br 5 20 103 [.ref 54, .int x1, .int x2, .null, .null] [] (am_hp sw s) (fun _ => rfl) (fun _ => ?_) (fun _ => ?_)
    · refine sm_call (cvf := am_cI) 2 22 [.ref 54, .int x1, .int x2, .null, .null] [.int x2, .int x1] sw s 43 [.int x1, .int x2] [] (fun _ => rfl) rfl (fun _ _ e9 => r_X5_isIn (d + 0) sw _ _ _ _ _ e9) am_pl20 (fun v22 s22 => ?_)
      refine sm_jn 97 (fun p97 => [.ref 54, .int x1, .int x2, .null, .null]) (fun p97 => []) (fun p97 => (am_hp sw p97)) (fun p97 => ?_) (fun j97 hj97 => ?_)
      · refine sm_go 2 9 [.ref 54, .int x1, .int (x2 + 1), .null, .null] [] (am_hp sw p97) (fun _ => rfl) ?_
        exact ih x1 (x2 + 1) p97
      refine sm_br 1 97 28 [.ref 54, .int x1, .int x2, .null, .null] [] (am_hp sw s22) (fun _ => rfl) (fun _ => ?_) (fun _ => ?_)
      · exact hj97 s22
      · refine sm_go 2 30 [.ref 54, .int x1, .int x2, .int (0), .null] [] (am_hp sw s22) (fun _ => rfl) ?_
        refine sm_lp 97 (fun _y => [.ref 54, .int x1, .int x2, .null, .null]) (l_X0_countDemand_30 d sw am_FU x1 x2 (0) s22) (fun _ _ _ h => h) am_pl20 (fun _y s30 => ?_)
        exact hj97 s30
    · refine sm_fg [.null, .null, .null, .null, .null] ⟨Or.inl rfl, Or.inl rfl, Or.inl rfl, Or.inl rfl, Or.inl rfl, trivial⟩ ?_
      exact sm_ex (fun _ _ h => h.2)

set_option maxRecDepth 20000 in
theorem r_X0_countDemand (d : Nat) (sw : Bool) (s s' : am_S) (x1 : Int32) (v : Unit) (e : f_X0_countDemand s x1 = some (v, s')) : am_Run (d + 2) 6 [.ref 54, .int x1] (am_hp sw s) (am_cU v) (am_hp sw s') := by
  refine am_Run.of (M := mt_X0_countDemand) (cvf := am_cU) (X := f_X0_countDemand s x1) rfl rfl rfl (by simp) ?_ e
  unfold f_X0_countDemand
  show am_Sm tb_X0_countDemand 0 false none none (d + 1) (am_po am_cU sw) _ 0 [.ref 54, .int x1, .null, .null, .null] [] (am_hp sw s)
  refine sm_call (cvf := am_cU) 2 4 [.ref 54, .int x1, .null, .null, .null] [.ref 56] sw s 10 [.ref 56] [] (fun _ => rfl) rfl (fun _ _ e9 => r_X0_clear_56 (d + 0) sw _ _  _ e9) am_po20 (fun _v s4 => ?_)
  refine sm_go 2 9 [.ref 54, .int x1, .int (0), .null, .null] [] (am_hp sw s4) (fun _ => rfl) ?_
  refine sm_lp 103 (fun _y => [.null, .null, .null, .null, .null]) (l_X0_countDemand_9 d sw am_FU x1 (0) s4) (fun _ _ _ h => h) am_po20 (fun _y s9 => ?_)
  exact sm_ret 0 103 [.null, .null, .null, .null, .null] [] (am_hp sw s9) none (fun _ => rfl) rfl (fun _ _ h => h)

def f_X0_canFill_L38 : Nat → Int32 → Int32 → Int32 → am_S → Option ((Int32 × am_S) ⊕ ((Int32) × am_S))
  | 0, _, _, _, _ => none
  | n + 1, x2, x3, x4, s => if x4 < 5 then (am_bd (f_X0_row s x2 x4) (fun v51 s51 => am_gu (am_in v51 48) (am_bd (f_X0_row s51 x2 x4) (fun v62 s62 => am_gu (am_in v62 48) (if ((s51.1 55 (Int32.toNatClampNeg v51)) - (s62.1 56 (Int32.toNatClampNeg v62))) < 0 then (some (.inl ((0), s62))) else (f_X0_canFill_L38 n x2 (x3 + ((s51.1 55 (Int32.toNatClampNeg v51)) - (s62.1 56 (Int32.toNatClampNeg v62)))) (x4 + 1) s62)))))) else (some (.inr (x3, s)))
def f_X0_canFill_L7 : Nat → Int32 → am_S → Option ((Int32 × am_S) ⊕ ((Unit) × am_S))
  | 0, _, _ => none
  | n + 1, x2, s => if x2 < 8 then (am_bd (f_X0_row s x2 (-1)) (fun v19 s19 => am_gu (am_in v19 48) (am_bd (f_X0_row s19 x2 (-1)) (fun v29 s29 => am_gu (am_in v29 48) (am_lp Sum.inl (f_X0_canFill_L38 am_FU x2 ((s19.1 55 (Int32.toNatClampNeg v19)) - (s29.1 56 (Int32.toNatClampNeg v29))) (0) s29) (fun y38 s38 => if y38 < 0 then (some (.inl ((0), s38))) else (f_X0_canFill_L7 n (x2 + 1) s38))))))) else (some (.inr ((), s)))
def f_X0_canFill (s : am_S) (x1 : Int32) : Option (Int32 × am_S) := am_bd (f_X0_countDemand s x1) (fun (_ : Unit) s2 => am_lp (fun y => y) (f_X0_canFill_L7 am_FU (0) s2) (fun (_ : Unit) s7 => some ((1), s7)))
set_option maxRecDepth 20000 in
theorem l_X0_canFill_38 (d : Nat) (sw : Bool) : ∀ (n : Nat) (x2 : Int32) (x3 : Int32) (x4 : Int32) (s : am_S), am_Sm tb_X0_canFill 0 false none (some .boolean) (d + 2) (am_pl am_cI sw (fun (v9 : Int32) s9 r h9 => am_Ex tb_X0_canFill 0 false none (some .boolean) (d + 2) r h9 87 [.ref 54, .null, .int x2, .int v9, .null, .null] [] (am_hp sw s9))) (f_X0_canFill_L38 n x2 x3 x4 s) 38 [.ref 54, .null, .int x2, .int x3, .int x4, .null] [] (am_hp sw s) := by
  intro n
  induction n with
  | zero => intro x2 x3 x4 s; exact sm_no
  | succ n ih =>
    intro x2 x3 x4 s
    rw [f_X0_canFill_L38]
    refine sm_br 3 44 87 [.ref 54, .null, .int x2, .int x3, .int x4, .null] [] (am_hp sw s) (fun _ => rfl) (fun _ => ?_) (fun _ => ?_)
    · refine sm_call (cvf := am_cI) 4 51 [.ref 54, .null, .int x2, .int x3, .int x4, .null] [.int x4, .int x2, .ref 55] sw s 9 [.int x2, .int x4] [.ref 55] (fun _ => rfl) rfl (fun _ _ e9 => r_X0_row (d + 1) sw _ _ _ _ _ e9) am_pl20 (fun v51 s51 => ?_)
      refine sm_iald 0 54 [.ref 54, .null, .int x2, .int x3, .int x4, .null] [] (am_hp sw s51) (i := v51) (c := 55) (fun _ => rfl) rfl rfl rfl rfl ?_
      refine sm_call (cvf := am_cI) 4 62 [.ref 54, .null, .int x2, .int x3, .int x4, .null] [.int x4, .int x2, .ref 56, .int (s51.1 55 (Int32.toNatClampNeg v51))] sw s51 9 [.int x2, .int x4] [.ref 56, .int (s51.1 55 (Int32.toNatClampNeg v51))] (fun _ => rfl) rfl (fun _ _ e9 => r_X0_row (d + 1) sw _ _ _ _ _ e9) am_pl20 (fun v62 s62 => ?_)
      refine sm_iald 0 65 [.ref 54, .null, .int x2, .int x3, .int x4, .null] [.int (s51.1 55 (Int32.toNatClampNeg v51))] (am_hp sw s62) (i := v62) (c := 56) (fun _ => rfl) rfl rfl rfl rfl ?_
      refine sm_br 4 74 76 [.ref 54, .null, .int x2, .int x3, .int x4, .int ((s51.1 55 (Int32.toNatClampNeg v51)) - (s62.1 56 (Int32.toNatClampNeg v62)))] [] (am_hp sw s62) (fun _ => rfl) (fun _ => ?_) (fun _ => ?_)
      · exact sm_ret 1 75 [.ref 54, .null, .int x2, .int x3, .int x4, .int ((s51.1 55 (Int32.toNatClampNeg v51)) - (s62.1 56 (Int32.toNatClampNeg v62)))] [.int (0)] (am_hp sw s62) (some (.int (0))) (fun _ => rfl) rfl (fun _ _ h => h)
      · refine sm_go 6 38 [.ref 54, .null, .int x2, .int (x3 + ((s51.1 55 (Int32.toNatClampNeg v51)) - (s62.1 56 (Int32.toNatClampNeg v62)))), .int (x4 + 1), .int ((s51.1 55 (Int32.toNatClampNeg v51)) - (s62.1 56 (Int32.toNatClampNeg v62)))] [] (am_hp sw s62) (fun _ => rfl) ?_
        refine sm_fg [.ref 54, .null, .int x2, .int (x3 + ((s51.1 55 (Int32.toNatClampNeg v51)) - (s62.1 56 (Int32.toNatClampNeg v62)))), .int (x4 + 1), .null] ⟨Or.inr rfl, Or.inl rfl, Or.inr rfl, Or.inr rfl, Or.inr rfl, Or.inl rfl, trivial⟩ ?_
        exact ih x2 (x3 + ((s51.1 55 (Int32.toNatClampNeg v51)) - (s62.1 56 (Int32.toNatClampNeg v62)))) (x4 + 1) s62
    · refine sm_fg [.ref 54, .null, .int x2, .int x3, .null, .null] ⟨Or.inr rfl, Or.inl rfl, Or.inr rfl, Or.inr rfl, Or.inl rfl, Or.inl rfl, trivial⟩ ?_
      exact sm_ex (fun _ _ h => h.2)

set_option maxRecDepth 20000 in
theorem l_X0_canFill_7 (d : Nat) (sw : Bool) : ∀ (n : Nat) (x2 : Int32) (s : am_S), am_Sm tb_X0_canFill 0 false none (some .boolean) (d + 2) (am_pl am_cI sw (fun (v9 : Unit) s9 r h9 => am_Ex tb_X0_canFill 0 false none (some .boolean) (d + 2) r h9 99 [.null, .null, .null, .null, .null, .null] [] (am_hp sw s9))) (f_X0_canFill_L7 n x2 s) 7 [.ref 54, .null, .int x2, .null, .null, .null] [] (am_hp sw s) := by
  intro n
  induction n with
  | zero => intro x2 s; exact sm_no
  | succ n ih =>
    intro x2 s
    rw [f_X0_canFill_L7]
    refine sm_br 3 13 99 [.ref 54, .null, .int x2, .null, .null, .null] [] (am_hp sw s) (fun _ => rfl) (fun _ => ?_) (fun _ => ?_)
    · refine sm_call (cvf := am_cI) 4 19 [.ref 54, .null, .int x2, .null, .null, .null] [.int (-1), .int x2, .ref 55] sw s 9 [.int x2, .int (-1)] [.ref 55] (fun _ => rfl) rfl (fun _ _ e9 => r_X0_row (d + 1) sw _ _ _ _ _ e9) am_pl20 (fun v19 s19 => ?_)
      refine sm_iald 0 22 [.ref 54, .null, .int x2, .null, .null, .null] [] (am_hp sw s19) (i := v19) (c := 55) (fun _ => rfl) rfl rfl rfl rfl ?_
      refine sm_call (cvf := am_cI) 4 29 [.ref 54, .null, .int x2, .null, .null, .null] [.int (-1), .int x2, .ref 56, .int (s19.1 55 (Int32.toNatClampNeg v19))] sw s19 9 [.int x2, .int (-1)] [.ref 56, .int (s19.1 55 (Int32.toNatClampNeg v19))] (fun _ => rfl) rfl (fun _ _ e9 => r_X0_row (d + 1) sw _ _ _ _ _ e9) am_pl20 (fun v29 s29 => ?_)
      refine sm_iald 0 32 [.ref 54, .null, .int x2, .null, .null, .null] [.int (s19.1 55 (Int32.toNatClampNeg v19))] (am_hp sw s29) (i := v29) (c := 56) (fun _ => rfl) rfl rfl rfl rfl ?_
      refine sm_go 4 38 [.ref 54, .null, .int x2, .int ((s19.1 55 (Int32.toNatClampNeg v19)) - (s29.1 56 (Int32.toNatClampNeg v29))), .int (0), .null] [] (am_hp sw s29) (fun _ => rfl) ?_
      refine sm_lp 87 (fun y38 => [.ref 54, .null, .int x2, .int y38, .null, .null]) (l_X0_canFill_38 d sw am_FU x2 ((s19.1 55 (Int32.toNatClampNeg v19)) - (s29.1 56 (Int32.toNatClampNeg v29))) (0) s29) (fun _ _ _ h => h) am_pl20 (fun y38 s38 => ?_)
      refine sm_br 2 91 93 [.ref 54, .null, .int x2, .int y38, .null, .null] [] (am_hp sw s38) (fun _ => rfl) (fun _ => ?_) (fun _ => ?_)
      · exact sm_ret 1 92 [.ref 54, .null, .int x2, .int y38, .null, .null] [.int (0)] (am_hp sw s38) (some (.int (0))) (fun _ => rfl) rfl (fun _ _ h => h)
      · refine sm_go 2 7 [.ref 54, .null, .int (x2 + 1), .int y38, .null, .null] [] (am_hp sw s38) (fun _ => rfl) ?_
        refine sm_fg [.ref 54, .null, .int (x2 + 1), .null, .null, .null] ⟨Or.inr rfl, Or.inl rfl, Or.inr rfl, Or.inl rfl, Or.inl rfl, Or.inl rfl, trivial⟩ ?_
        exact ih (x2 + 1) s38
    · refine sm_fg [.null, .null, .null, .null, .null, .null] ⟨Or.inl rfl, Or.inl rfl, Or.inl rfl, Or.inl rfl, Or.inl rfl, Or.inl rfl, trivial⟩ ?_
      exact sm_ex (fun _ _ h => h.2)

set_option maxRecDepth 20000 in
theorem r_X0_canFill (d : Nat) (sw : Bool) (s s' : am_S) (x1 : Int32) (v : Int32) (e : f_X0_canFill s x1 = some (v, s')) : am_Run (d + 3) 5 [.ref 54, .int x1] (am_hp sw s) (am_cI v) (am_hp sw s') := by
  refine am_Run.of (M := mt_X0_canFill) (cvf := am_cI) (X := f_X0_canFill s x1) rfl rfl rfl (by simp) ?_ e
  unfold f_X0_canFill
  show am_Sm tb_X0_canFill 0 false none (some .boolean) (d + 2) (am_po am_cI sw) _ 0 [.ref 54, .int x1, .null, .null, .null, .null] [] (am_hp sw s)
  refine sm_call (cvf := am_cU) 2 2 [.ref 54, .int x1, .null, .null, .null, .null] [.int x1, .ref 54] sw s 6 [.ref 54, .int x1] [] (fun _ => rfl) rfl (fun _ _ e9 => r_X0_countDemand (d + 0) sw _ _ _ _ e9) am_po20 (fun _v s2 => ?_)
  refine sm_go 2 7 [.ref 54, .int x1, .int (0), .null, .null, .null] [] (am_hp sw s2) (fun _ => rfl) ?_
  refine sm_fg [.ref 54, .null, .int (0), .null, .null, .null] ⟨Or.inr rfl, Or.inl rfl, Or.inr rfl, Or.inl rfl, Or.inl rfl, Or.inl rfl, trivial⟩ ?_
  refine sm_lp 99 (fun _y => [.null, .null, .null, .null, .null, .null]) (l_X0_canFill_7 d sw am_FU (0) s2) (fun _ _ _ h => h) am_po20 (fun _y s7 => ?_)
  exact sm_ret 1 100 [.null, .null, .null, .null, .null, .null] [.int (1)] (am_hp sw s7) (some (.int (1))) (fun _ => rfl) rfl (fun _ _ h => h)

def f_X5_openOnes_L4 : Nat → Int32 → Int32 → am_S → Option ((Int32 × am_S) ⊕ ((Int32) × am_S))
  | 0, _, _, _ => none
  | n + 1, x1, x2, s => if x2 < (s.1 46 0) then (am_gu (am_in x2 8) (am_jn (fun (p27 : Int32 × am_S) => f_X5_openOnes_L4 n p27.1 (x2 + 1) p27.2) (fun j27 => if (s.1 48 (Int32.toNatClampNeg x2)) = 0 then (j27 ((x1 ||| (1 <<< (x2 &&& 31))), s)) else (j27 (x1, s))))) else (some (.inr (x1, s)))
def f_X5_openOnes (s : am_S) : Option (Int32 × am_S) := am_lp (fun y => y) (f_X5_openOnes_L4 am_FU (0) (0) s) (fun y4 s4 => some (y4, s4))
set_option maxRecDepth 20000 in
theorem l_X5_openOnes_4 (d : Nat) (sw : Bool) : ∀ (n : Nat) (x1 : Int32) (x2 : Int32) (s : am_S), am_Sm tb_X5_openOnes 5 false none (some .int) (d + 0) (am_pl am_cI sw (fun (v9 : Int32) s9 r h9 => am_Ex tb_X5_openOnes 5 false none (some .int) (d + 0) r h9 33 [.null, .int v9, .null] [] (am_hp sw s9))) (f_X5_openOnes_L4 n x1 x2 s) 4 [.ref 46, .int x1, .int x2] [] (am_hp sw s) := by
  intro n
  induction n with
  | zero => intro x1 x2 s; exact sm_no
  | succ n ih =>
    intro x1 x2 s
    rw [f_X5_openOnes_L4]
    refine sm_br 4 12 33 [.ref 46, .int x1, .int x2] [] (am_hp sw s) (fun _ => rfl) (fun _ => ?_) (fun _ => ?_)
    · refine sm_iald 3 17 [.ref 46, .int x1, .int x2] [] (am_hp sw s) (i := x2) (c := 48) (fun _ => rfl) rfl rfl rfl rfl ?_
      refine sm_jn 27 (fun p27 => [.ref 46, .int p27.1, .int x2]) (fun p27 => []) (fun p27 => (am_hp sw p27.2)) (fun p27 => ?_) (fun j27 hj27 => ?_)
      · refine sm_go 2 4 [.ref 46, .int p27.1, .int (x2 + 1)] [] (am_hp sw p27.2) (fun _ => rfl) ?_
        exact ih p27.1 (x2 + 1) p27.2
      refine sm_br 1 21 27 [.ref 46, .int x1, .int x2] [] (am_hp sw s) (fun _ => rfl) (fun _ => ?_) (fun _ => ?_)
      · refine sm_go 6 27 [.ref 46, .int (x1 ||| (1 <<< (x2 &&& 31))), .int x2] [] (am_hp sw s) (fun _ => rfl) ?_
        exact hj27 ((x1 ||| (1 <<< (x2 &&& 31))), s)
      · exact hj27 (x1, s)
    · refine sm_fg [.null, .int x1, .null] ⟨Or.inl rfl, Or.inr rfl, Or.inl rfl, trivial⟩ ?_
      exact sm_ex (fun _ _ h => h.2)

set_option maxRecDepth 20000 in
theorem r_X5_openOnes (d : Nat) (sw : Bool) (s s' : am_S) (v : Int32) (e : f_X5_openOnes s = some (v, s')) : am_Run (d + 1) 48 [.ref 46] (am_hp sw s) (am_cI v) (am_hp sw s') := by
  refine am_Run.of (M := mt_X5_openOnes) (cvf := am_cI) (X := f_X5_openOnes s) rfl rfl rfl (by simp) ?_ e
  unfold f_X5_openOnes
  show am_Sm tb_X5_openOnes 5 false none (some .int) (d + 0) (am_po am_cI sw) _ 0 [.ref 46, .null, .null] [] (am_hp sw s)
  refine sm_go 4 4 [.ref 46, .int (0), .int (0)] [] (am_hp sw s) (fun _ => rfl) ?_
  refine sm_lp 33 (fun y4 => [.null, .int y4, .null]) (l_X5_openOnes_4 d sw am_FU (0) (0) s) (fun _ _ _ h => h) am_po20 (fun y4 s4 => ?_)
  exact sm_ret 1 34 [.null, .int y4, .null] [.int y4] (am_hp sw s4) (some (.int y4)) (fun _ => rfl) rfl (fun _ _ h => h)

def f_X0_bestSet_L16 : Nat → Int32 → Int32 → Int32 → am_S → Option ((Int32 × am_S) ⊕ ((Int32) × am_S))
  | 0, _, _, _, _ => none
  | n + 1, x1, x2, x3, s => if x1 < x3 then (some (.inr (x2, s))) else (am_jn (fun (p34 : Int32 × am_S) => am_jn (fun (p60 : Int32 × am_S) => f_X0_bestSet_L16 n x1 p60.1 (x3 + 1) p60.2) (fun j60 => if p34.1 = 0 then (j60 (x2, p34.2)) else (am_bd (f_X0_isAhead p34.2 x3 x2) (fun v44 s44 => if v44 = 0 then (j60 (x2, s44)) else (am_bd (f_X0_canFill s44 x3) (fun v52 s52 => if v52 = 0 then (j60 (x2, s52)) else (j60 (x3, s52)))))))) (fun j34 => if (x3 &&& (x1 ^^^ (-1))) = 0 then (j34 (1, s)) else (j34 (0, s))))
def f_X0_bestSet (s : am_S) : Option (Int32 × am_S) := am_bd (f_X0_countSupply s) (fun (_ : Unit) s1 => am_bd (f_X5_openOnes s1) (fun v8 s8 => am_lp (fun y => y) (f_X0_bestSet_L16 am_FU v8 (0) (1) s8) (fun y16 s16 => some (y16, s16))))
set_option maxRecDepth 20000 in
theorem l_X0_bestSet_16 (d : Nat) (sw : Bool) : ∀ (n : Nat) (x1 : Int32) (x2 : Int32) (x3 : Int32) (s : am_S), am_Sm tb_X0_bestSet 0 false none (some .int) (d + 3) (am_pl am_cI sw (fun (v9 : Int32) s9 r h9 => am_Ex tb_X0_bestSet 0 false none (some .int) (d + 3) r h9 66 [.null, .null, .int v9, .null, .null] [] (am_hp sw s9))) (f_X0_bestSet_L16 n x1 x2 x3 s) 16 [.ref 54, .int x1, .int x2, .int x3, .null] [] (am_hp sw s) := by
  intro n
  induction n with
  | zero => intro x1 x2 x3 s; exact sm_no
  | succ n ih =>
    intro x1 x2 x3 s
    rw [f_X0_bestSet_L16]
    refine sm_br 3 66 21 [.ref 54, .int x1, .int x2, .int x3, .null] [] (am_hp sw s) (fun _ => rfl) (fun _ => ?_) (fun _ => ?_)
    · refine sm_fg [.null, .null, .int x2, .null, .null] ⟨Or.inl rfl, Or.inl rfl, Or.inr rfl, Or.inl rfl, Or.inl rfl, trivial⟩ ?_
      exact sm_ex (fun _ _ h => h.2)
    · refine sm_go 5 26 [.ref 54, .int x1, .int x2, .int x3, .null] [.int (x3 &&& (x1 ^^^ (-1)))] (am_hp sw s) (fun _ => rfl) ?_
      refine sm_jn 34 (fun p34 => [.ref 54, .int x1, .int x2, .int x3, .null]) (fun p34 => [.int p34.1]) (fun p34 => (am_hp sw p34.2)) (fun p34 => ?_) (fun j34 hj34 => ?_)
      · refine sm_go 2 38 [.ref 54, .int x1, .int x2, .int x3, .int p34.1] [.int p34.1] (am_hp sw p34.2) (fun _ => rfl) ?_
        refine sm_jn 60 (fun p60 => [.ref 54, .int x1, .int p60.1, .int x3, .null]) (fun p60 => []) (fun p60 => (am_hp sw p60.2)) (fun p60 => ?_) (fun j60 hj60 => ?_)
        · refine sm_go 2 16 [.ref 54, .int x1, .int p60.1, .int (x3 + 1), .null] [] (am_hp sw p60.2) (fun _ => rfl) ?_
          exact ih x1 p60.1 (x3 + 1) p60.2
        refine sm_br 1 60 41 [.ref 54, .int x1, .int x2, .int x3, .int p34.1] [] (am_hp sw p34.2) (fun _ => rfl) (fun _ => ?_) (fun _ => ?_)
        · refine sm_fg [.ref 54, .int x1, .int x2, .int x3, .null] ⟨Or.inr rfl, Or.inr rfl, Or.inr rfl, Or.inr rfl, Or.inl rfl, trivial⟩ ?_
          exact hj60 (x2, p34.2)
        · refine sm_call (cvf := am_cI) 3 44 [.ref 54, .int x1, .int x2, .int x3, .int p34.1] [.int x2, .int x3, .ref 54] sw p34.2 4 [.ref 54, .int x3, .int x2] [] (fun _ => rfl) rfl (fun _ _ e9 => r_X0_isAhead (d + 0) sw _ _ _ _ _ e9) am_pl20 (fun v44 s44 => ?_)
          refine sm_br 1 60 50 [.ref 54, .int x1, .int x2, .int x3, .int p34.1] [] (am_hp sw s44) (fun _ => rfl) (fun _ => ?_) (fun _ => ?_)
          · refine sm_fg [.ref 54, .int x1, .int x2, .int x3, .null] ⟨Or.inr rfl, Or.inr rfl, Or.inr rfl, Or.inr rfl, Or.inl rfl, trivial⟩ ?_
            exact hj60 (x2, s44)
          · refine sm_call (cvf := am_cI) 2 52 [.ref 54, .int x1, .int x2, .int x3, .int p34.1] [.int x3, .ref 54] sw s44 5 [.ref 54, .int x3] [] (fun _ => rfl) rfl (fun _ _ e9 => r_X0_canFill (d + 0) sw _ _ _ _ e9) am_pl20 (fun v52 s52 => ?_)
            refine sm_br 1 60 58 [.ref 54, .int x1, .int x2, .int x3, .int p34.1] [] (am_hp sw s52) (fun _ => rfl) (fun _ => ?_) (fun _ => ?_)
            · refine sm_fg [.ref 54, .int x1, .int x2, .int x3, .null] ⟨Or.inr rfl, Or.inr rfl, Or.inr rfl, Or.inr rfl, Or.inl rfl, trivial⟩ ?_
              exact hj60 (x2, s52)
            · refine sm_go 2 60 [.ref 54, .int x1, .int x3, .int x3, .int p34.1] [] (am_hp sw s52) (fun _ => rfl) ?_
              refine sm_fg [.ref 54, .int x1, .int x3, .int x3, .null] ⟨Or.inr rfl, Or.inr rfl, Or.inr rfl, Or.inr rfl, Or.inl rfl, trivial⟩ ?_
              exact hj60 (x3, s52)
      refine sm_br 1 29 33 [.ref 54, .int x1, .int x2, .int x3, .null] [] (am_hp sw s) (fun _ => rfl) (fun _ => ?_) (fun _ => ?_)
      · refine sm_go 2 34 [.ref 54, .int x1, .int x2, .int x3, .null] [.int (1)] (am_hp sw s) (fun _ => rfl) ?_
        exact hj34 (1, s)
      · refine sm_go 1 34 [.ref 54, .int x1, .int x2, .int x3, .null] [.int (0)] (am_hp sw s) (fun _ => rfl) ?_
        exact hj34 (0, s)

set_option maxRecDepth 20000 in
theorem r_X0_bestSet (d : Nat) (sw : Bool) (s s' : am_S) (v : Int32) (e : f_X0_bestSet s = some (v, s')) : am_Run (d + 4) 1 [.ref 54] (am_hp sw s) (am_cI v) (am_hp sw s') := by
  refine am_Run.of (M := mt_X0_bestSet) (cvf := am_cI) (X := f_X0_bestSet s) rfl rfl rfl (by simp) ?_ e
  unfold f_X0_bestSet
  show am_Sm tb_X0_bestSet 0 false none (some .int) (d + 3) (am_po am_cI sw) _ 0 [.ref 54, .null, .null, .null, .null] [] (am_hp sw s)
  refine sm_call (cvf := am_cU) 1 1 [.ref 54, .null, .null, .null, .null] [.ref 54] sw s 3 [.ref 54] [] (fun _ => rfl) rfl (fun _ _ e9 => r_X0_countSupply (d + 1) sw _ _  _ e9) am_po20 (fun _v s1 => ?_)
  refine sm_call (cvf := am_cI) 2 8 [.ref 54, .null, .null, .null, .null] [.ref 46] sw s1 48 [.ref 46] [] (fun _ => rfl) rfl (fun _ _ e9 => r_X5_openOnes (d + 2) sw _ _  _ e9) am_po20 (fun v8 s8 => ?_)
  refine sm_go 5 16 [.ref 54, .int v8, .int (0), .int (1), .null] [] (am_hp sw s8) (fun _ => rfl) ?_
  refine sm_lp 66 (fun y16 => [.null, .null, .int y16, .null, .null]) (l_X0_bestSet_16 d sw am_FU v8 (0) (1) s8) (fun _ _ _ h => h) am_po20 (fun y16 s16 => ?_)
  exact sm_ret 1 67 [.null, .null, .int y16, .null, .null] [.int y16] (am_hp sw s16) (some (.int y16)) (fun _ => rfl) rfl (fun _ _ h => h)

def f_X3_isFree (s : am_S) (x1 : Int32) (x2 : Int32) : Option (Int32 × am_S) := am_gu (am_in x1 400) (if (s.1 43 (Int32.toNatClampNeg x1)) = (-1) then (am_bd (f_X3_kindOf s x1) (fun v12 s12 => if v12 = x2 then (some ((1), s12)) else (some ((0), s12)))) else (some ((0), s)))
set_option maxRecDepth 20000 in
theorem r_X3_isFree (d : Nat) (sw : Bool) (s s' : am_S) (x1 : Int32) (x2 : Int32) (v : Int32) (e : f_X3_isFree s x1 x2 = some (v, s')) : am_Run (d + 2) 34 [.ref 39, .int x1, .int x2] (am_hp sw s) (am_cI v) (am_hp sw s') := by
  refine am_Run.of (M := mt_X3_isFree) (cvf := am_cI) (X := f_X3_isFree s x1 x2) rfl rfl rfl (by simp) ?_ e
  unfold f_X3_isFree
  show am_Sm tb_X3_isFree 3 false none (some .boolean) (d + 1) (am_po am_cI sw) _ 0 [.ref 39, .int x1, .int x2] [] (am_hp sw s)
  refine sm_iald 3 5 [.ref 39, .int x1, .int x2] [] (am_hp sw s) (i := x1) (c := 43) (fun _ => rfl) rfl rfl rfl rfl ?_
  refine sm_br 2 10 23 [.ref 39, .int x1, .int x2] [] (am_hp sw s) (fun _ => rfl) (fun _ => ?_) (fun _ => ?_)
  · refine sm_call (cvf := am_cI) 2 12 [.ref 39, .int x1, .int x2] [.int x1, .ref 39] sw s 31 [.ref 39, .int x1] [] (fun _ => rfl) rfl (fun _ _ e9 => r_X3_kindOf (d + 0) sw _ _ _ _ e9) am_po20 (fun v12 s12 => ?_)
    refine sm_br 2 19 23 [.ref 39, .int x1, .int x2] [] (am_hp sw s12) (fun _ => rfl) (fun _ => ?_) (fun _ => ?_)
    · exact sm_ret 2 24 [.ref 39, .int x1, .int x2] [.int (1)] (am_hp sw s12) (some (.int (1))) (fun _ => rfl) rfl (fun _ _ h => h)
    · exact sm_ret 1 24 [.ref 39, .int x1, .int x2] [.int (0)] (am_hp sw s12) (some (.int (0))) (fun _ => rfl) rfl (fun _ _ h => h)
  · exact sm_ret 1 24 [.ref 39, .int x1, .int x2] [.int (0)] (am_hp sw s) (some (.int (0))) (fun _ => rfl) rfl (fun _ _ h => h)

def f_X0_fillNeed_L24 : Nat → Int32 → Int32 → Int32 → Int32 → Int32 → am_S → Option ((Unit × am_S) ⊕ ((Unit) × am_S))
  | 0, _, _, _, _, _, _ => none
  | n + 1, x1, x2, x3, x4, x5, s => if x5 < (s.1 39 1) then (if 0 < x4 then (am_jn (fun (p64 : Int32 × am_S) => am_jn (fun (p106 : Int32 × am_S) => f_X0_fillNeed_L24 n x1 x2 x3 p106.1 (x5 + 1) p106.2) (fun j106 => if p64.1 = 0 then (j106 (x4, p64.2)) else (am_gu (am_in x2 32) (am_bd (f_X3_isFree p64.2 x5 (p64.2.1 52 (Int32.toNatClampNeg x2))) (fun v86 s86 => if v86 = 0 then (j106 (x4, s86)) else (am_gu (am_in x5 400) (j106 ((x4 + (-1)), (am_wI s86 43 (Int32.toNatClampNeg x5) x1))))))))) (fun j64 => am_jn (fun (p59 : am_S) => j64 (1, p59)) (fun j59 => if x3 = (-1) then (j59 s) else (am_bd (f_X3_colourOf s x5) (fun v52 s52 => if v52 = x3 then (j59 s52) else (j64 (0, s52))))))) else (some (.inr ((), s)))) else (some (.inr ((), s)))
def f_X0_fillNeed (s : am_S) (x1 : Int32) (x2 : Int32) : Option (Unit × am_S) := am_gu (am_in x2 32) (am_gu (am_in x2 32) (am_lp (fun y => y) (f_X0_fillNeed_L24 am_FU x1 x2 (s.1 53 (Int32.toNatClampNeg x2)) (s.1 51 (Int32.toNatClampNeg x2)) (0) s) (fun (_ : Unit) s24 => some ((), s24))))
set_option maxRecDepth 20000 in
theorem l_X0_fillNeed_24 (d : Nat) (sw : Bool) : ∀ (n : Nat) (x1 : Int32) (x2 : Int32) (x3 : Int32) (x4 : Int32) (x5 : Int32) (s : am_S), am_Sm tb_X0_fillNeed 0 false none none (d + 2) (am_pl am_cU sw (fun (v9 : Unit) s9 r h9 => am_Ex tb_X0_fillNeed 0 false none none (d + 2) r h9 112 [.null, .null, .null, .null, .null, .null, .null] [] (am_hp sw s9))) (f_X0_fillNeed_L24 n x1 x2 x3 x4 x5 s) 24 [.ref 54, .int x1, .int x2, .int x3, .int x4, .int x5, .null] [] (am_hp sw s) := by
  intro n
  induction n with
  | zero => intro x1 x2 x3 x4 x5 s; exact sm_no
  | succ n ih =>
    intro x1 x2 x3 x4 x5 s
    rw [f_X0_fillNeed_L24]
    refine sm_br 5 36 112 [.ref 54, .int x1, .int x2, .int x3, .int x4, .int x5, .null] [] (am_hp sw s) (fun _ => rfl) (fun _ => ?_) (fun _ => ?_)
    · refine sm_br 2 41 112 [.ref 54, .int x1, .int x2, .int x3, .int x4, .int x5, .null] [] (am_hp sw s) (fun _ => rfl) (fun _ => ?_) (fun _ => ?_)
      · refine sm_go 2 43 [.ref 54, .int x1, .int x2, .int x3, .int x4, .int x5, .null] [.int (-1), .int x3] (am_hp sw s) (fun _ => rfl) ?_
        refine sm_jn 64 (fun p64 => [.ref 54, .int x1, .int x2, .int x3, .int x4, .int x5, .null]) (fun p64 => [.int p64.1]) (fun p64 => (am_hp sw p64.2)) (fun p64 => ?_) (fun j64 hj64 => ?_)
        · refine sm_go 2 68 [.ref 54, .int x1, .int x2, .int x3, .int x4, .int x5, .int p64.1] [.int p64.1] (am_hp sw p64.2) (fun _ => rfl) ?_
          refine sm_jn 106 (fun p106 => [.ref 54, .int x1, .int x2, .int x3, .int p106.1, .int x5, .null]) (fun p106 => []) (fun p106 => (am_hp sw p106.2)) (fun p106 => ?_) (fun j106 hj106 => ?_)
          · refine sm_go 2 24 [.ref 54, .int x1, .int x2, .int x3, .int p106.1, .int (x5 + 1), .null] [] (am_hp sw p106.2) (fun _ => rfl) ?_
            exact ih x1 x2 x3 p106.1 (x5 + 1) p106.2
          refine sm_br 1 106 71 [.ref 54, .int x1, .int x2, .int x3, .int x4, .int x5, .int p64.1] [] (am_hp sw p64.2) (fun _ => rfl) (fun _ => ?_) (fun _ => ?_)
          · refine sm_fg [.ref 54, .int x1, .int x2, .int x3, .int x4, .int x5, .null] ⟨Or.inr rfl, Or.inr rfl, Or.inr rfl, Or.inr rfl, Or.inr rfl, Or.inr rfl, Or.inl rfl, trivial⟩ ?_
            exact hj106 (x4, p64.2)
          · refine sm_iald 7 85 [.ref 54, .int x1, .int x2, .int x3, .int x4, .int x5, .int p64.1] [.int x5, .ref 39] (am_hp sw p64.2) (i := x2) (c := 52) (fun _ => rfl) rfl rfl rfl rfl ?_
            refine sm_call (cvf := am_cI) 0 86 [.ref 54, .int x1, .int x2, .int x3, .int x4, .int x5, .int p64.1] [.int (p64.2.1 52 (Int32.toNatClampNeg x2)), .int x5, .ref 39] sw p64.2 34 [.ref 39, .int x5, .int (p64.2.1 52 (Int32.toNatClampNeg x2))] [] (fun _ => rfl) rfl (fun _ _ e9 => r_X3_isFree (d + 0) sw _ _ _ _ _ e9) am_pl20 (fun v86 s86 => ?_)
            refine sm_br 1 106 92 [.ref 54, .int x1, .int x2, .int x3, .int x4, .int x5, .int p64.1] [] (am_hp sw s86) (fun _ => rfl) (fun _ => ?_) (fun _ => ?_)
            · refine sm_fg [.ref 54, .int x1, .int x2, .int x3, .int x4, .int x5, .null] ⟨Or.inr rfl, Or.inr rfl, Or.inr rfl, Or.inr rfl, Or.inr rfl, Or.inr rfl, Or.inl rfl, trivial⟩ ?_
              exact hj106 (x4, s86)
            · refine sm_iast 5 102 [.ref 54, .int x1, .int x2, .int x3, .int x4, .int x5, .int p64.1] [] sw s86 (i := x5) (x := x1) (c := 43) (fun _ => rfl) rfl rfl rfl ?_
              refine sm_go 1 106 [.ref 54, .int x1, .int x2, .int x3, .int (x4 + (-1)), .int x5, .int p64.1] [] (am_hp sw (am_wI s86 43 (Int32.toNatClampNeg x5) x1)) (fun _ => rfl) ?_
              refine sm_fg [.ref 54, .int x1, .int x2, .int x3, .int (x4 + (-1)), .int x5, .null] ⟨Or.inr rfl, Or.inr rfl, Or.inr rfl, Or.inr rfl, Or.inr rfl, Or.inr rfl, Or.inl rfl, trivial⟩ ?_
              exact hj106 ((x4 + (-1)), (am_wI s86 43 (Int32.toNatClampNeg x5) x1))
        refine sm_jn 59 (fun p59 => [.ref 54, .int x1, .int x2, .int x3, .int x4, .int x5, .null]) (fun p59 => []) (fun p59 => (am_hp sw p59)) (fun p59 => ?_) (fun j59 hj59 => ?_)
        · refine sm_go 2 64 [.ref 54, .int x1, .int x2, .int x3, .int x4, .int x5, .null] [.int (1)] (am_hp sw p59) (fun _ => rfl) ?_
          exact hj64 (1, p59)
        refine sm_br 1 59 46 [.ref 54, .int x1, .int x2, .int x3, .int x4, .int x5, .null] [] (am_hp sw s) (fun _ => rfl) (fun _ => ?_) (fun _ => ?_)
        · exact hj59 s
        · refine sm_call (cvf := am_cI) 3 52 [.ref 54, .int x1, .int x2, .int x3, .int x4, .int x5, .null] [.int x5, .ref 39] sw s 33 [.ref 39, .int x5] [] (fun _ => rfl) rfl (fun _ _ e9 => r_X3_colourOf (d + 1) sw _ _ _ _ e9) am_pl20 (fun v52 s52 => ?_)
          refine sm_br 2 59 63 [.ref 54, .int x1, .int x2, .int x3, .int x4, .int x5, .null] [] (am_hp sw s52) (fun _ => rfl) (fun _ => ?_) (fun _ => ?_)
          · exact hj59 s52
          · refine sm_go 1 64 [.ref 54, .int x1, .int x2, .int x3, .int x4, .int x5, .null] [.int (0)] (am_hp sw s52) (fun _ => rfl) ?_
            exact hj64 (0, s52)
      · refine sm_fg [.null, .null, .null, .null, .null, .null, .null] ⟨Or.inl rfl, Or.inl rfl, Or.inl rfl, Or.inl rfl, Or.inl rfl, Or.inl rfl, Or.inl rfl, trivial⟩ ?_
        exact sm_ex (fun _ _ h => h.2)
    · refine sm_fg [.null, .null, .null, .null, .null, .null, .null] ⟨Or.inl rfl, Or.inl rfl, Or.inl rfl, Or.inl rfl, Or.inl rfl, Or.inl rfl, Or.inl rfl, trivial⟩ ?_
      exact sm_ex (fun _ _ h => h.2)

set_option maxRecDepth 20000 in
theorem r_X0_fillNeed (d : Nat) (sw : Bool) (s s' : am_S) (x1 : Int32) (x2 : Int32) (v : Unit) (e : f_X0_fillNeed s x1 x2 = some (v, s')) : am_Run (d + 3) 8 [.ref 54, .int x1, .int x2] (am_hp sw s) (am_cU v) (am_hp sw s') := by
  refine am_Run.of (M := mt_X0_fillNeed) (cvf := am_cU) (X := f_X0_fillNeed s x1 x2) rfl rfl rfl (by simp) ?_ e
  unfold f_X0_fillNeed
  show am_Sm tb_X0_fillNeed 0 false none none (d + 2) (am_po am_cU sw) _ 0 [.ref 54, .int x1, .int x2, .null, .null, .null, .null] [] (am_hp sw s)
  refine sm_iald 4 8 [.ref 54, .int x1, .int x2, .null, .null, .null, .null] [] (am_hp sw s) (i := x2) (c := 53) (fun _ => rfl) rfl rfl rfl rfl ?_
  refine sm_iald 5 18 [.ref 54, .int x1, .int x2, .int (s.1 53 (Int32.toNatClampNeg x2)), .null, .null, .null] [] (am_hp sw s) (i := x2) (c := 51) (fun _ => rfl) rfl rfl rfl rfl ?_
  refine sm_go 3 24 [.ref 54, .int x1, .int x2, .int (s.1 53 (Int32.toNatClampNeg x2)), .int (s.1 51 (Int32.toNatClampNeg x2)), .int (0), .null] [] (am_hp sw s) (fun _ => rfl) ?_
  refine sm_lp 112 (fun _y => [.null, .null, .null, .null, .null, .null, .null]) (l_X0_fillNeed_24 d sw am_FU x1 x2 (s.1 53 (Int32.toNatClampNeg x2)) (s.1 51 (Int32.toNatClampNeg x2)) (0) s) (fun _ _ _ h => h) am_po20 (fun _y s24 => ?_)
  exact sm_ret 0 112 [.null, .null, .null, .null, .null, .null, .null] [] (am_hp sw s24) none (fun _ => rfl) rfl (fun _ _ h => h)

def f_X0_fillNeeds_L24 : Nat → Int32 → Int32 → Int32 → Int32 → am_S → Option ((Unit × am_S) ⊕ ((Unit) × am_S))
  | 0, _, _, _, _, _ => none
  | n + 1, x1, x2, x3, x4, s => am_gu (am_in x3 8) (if x4 < (s.1 50 (Int32.toNatClampNeg x3)) then (am_gu (am_in ((x3 * 4) + x4) 32) (am_jn (fun (p65 : Int32 × am_S) => am_jn (fun (p76 : am_S) => f_X0_fillNeeds_L24 n x1 x2 x3 (x4 + 1) p76) (fun j76 => if p65.1 = x2 then (am_bd (f_X0_fillNeed p65.2 x3 ((x3 * 4) + x4)) (fun (_ : Unit) s73 => j76 s73)) else (j76 p65.2))) (fun j65 => if (s.1 53 (Int32.toNatClampNeg ((x3 * 4) + x4))) = (-1) then (j65 (1, s)) else (j65 (0, s))))) else (some (.inr ((), s))))
def f_X0_fillNeeds_L2 : Nat → Int32 → Int32 → Int32 → am_S → Option ((Unit × am_S) ⊕ ((Unit) × am_S))
  | 0, _, _, _, _ => none
  | n + 1, x1, x2, x3, s => if x3 < (s.1 46 0) then (am_bd (f_X5_isIn s x1 x3) (fun v15 s15 => am_jn (fun (p82 : am_S) => f_X0_fillNeeds_L2 n x1 x2 (x3 + 1) p82) (fun j82 => if v15 = 0 then (j82 s15) else (am_lp Sum.inl (f_X0_fillNeeds_L24 am_FU x1 x2 x3 (0) s15) (fun (_ : Unit) s24 => j82 s24))))) else (some (.inr ((), s)))
def f_X0_fillNeeds (s : am_S) (x1 : Int32) (x2 : Int32) : Option (Unit × am_S) := am_lp (fun y => y) (f_X0_fillNeeds_L2 am_FU x1 x2 (0) s) (fun (_ : Unit) s2 => some ((), s2))
set_option maxRecDepth 20000 in
theorem l_X0_fillNeeds_24 (d : Nat) (sw : Bool) : ∀ (n : Nat) (x1 : Int32) (x2 : Int32) (x3 : Int32) (x4 : Int32) (s : am_S), am_Sm tb_X0_fillNeeds 0 false none none (d + 3) (am_pl am_cU sw (fun (v9 : Unit) s9 r h9 => am_Ex tb_X0_fillNeeds 0 false none none (d + 3) r h9 82 [.ref 54, .int x1, .int x2, .int x3, .null, .null] [] (am_hp sw s9))) (f_X0_fillNeeds_L24 n x1 x2 x3 x4 s) 24 [.ref 54, .int x1, .int x2, .int x3, .int x4, .null] [] (am_hp sw s) := by
  intro n
  induction n with
  | zero => intro x1 x2 x3 x4 s; exact sm_no
  | succ n ih =>
    intro x1 x2 x3 x4 s
    rw [f_X0_fillNeeds_L24]
    refine sm_iald 5 34 [.ref 54, .int x1, .int x2, .int x3, .int x4, .null] [.int x4] (am_hp sw s) (i := x3) (c := 50) (fun _ => rfl) rfl rfl rfl rfl ?_
    refine sm_br 1 38 82 [.ref 54, .int x1, .int x2, .int x3, .int x4, .null] [] (am_hp sw s) (fun _ => rfl) (fun _ => ?_) (fun _ => ?_)
    · refine sm_iald 10 55 [.ref 54, .int x1, .int x2, .int x3, .int x4, .int ((x3 * 4) + x4)] [] (am_hp sw s) (i := ((x3 * 4) + x4)) (c := 53) (fun _ => rfl) rfl rfl rfl rfl ?_
      refine sm_go 1 57 [.ref 54, .int x1, .int x2, .int x3, .int x4, .int ((x3 * 4) + x4)] [.int (-1), .int (s.1 53 (Int32.toNatClampNeg ((x3 * 4) + x4)))] (am_hp sw s) (fun _ => rfl) ?_
      refine sm_jn 65 (fun p65 => [.ref 54, .int x1, .int x2, .int x3, .int x4, .int ((x3 * 4) + x4)]) (fun p65 => [.int p65.1]) (fun p65 => (am_hp sw p65.2)) (fun p65 => ?_) (fun j65 hj65 => ?_)
      · refine sm_go 1 66 [.ref 54, .int x1, .int x2, .int x3, .int x4, .int ((x3 * 4) + x4)] [.int x2, .int p65.1] (am_hp sw p65.2) (fun _ => rfl) ?_
        refine sm_jn 76 (fun p76 => [.ref 54, .int x1, .int x2, .int x3, .int x4, .null]) (fun p76 => []) (fun p76 => (am_hp sw p76)) (fun p76 => ?_) (fun j76 hj76 => ?_)
        · refine sm_go 2 24 [.ref 54, .int x1, .int x2, .int x3, .int (x4 + 1), .null] [] (am_hp sw p76) (fun _ => rfl) ?_
          exact ih x1 x2 x3 (x4 + 1) p76
        refine sm_br 1 69 76 [.ref 54, .int x1, .int x2, .int x3, .int x4, .int ((x3 * 4) + x4)] [] (am_hp sw p65.2) (fun _ => rfl) (fun _ => ?_) (fun _ => ?_)
        · refine sm_call (cvf := am_cU) 3 73 [.ref 54, .int x1, .int x2, .int x3, .int x4, .int ((x3 * 4) + x4)] [.int ((x3 * 4) + x4), .int x3, .ref 54] sw p65.2 8 [.ref 54, .int x3, .int ((x3 * 4) + x4)] [] (fun _ => rfl) rfl (fun _ _ e9 => r_X0_fillNeed (d + 0) sw _ _ _ _ _ e9) am_pl20 (fun _v s73 => ?_)
          refine sm_fg [.ref 54, .int x1, .int x2, .int x3, .int x4, .null] ⟨Or.inr rfl, Or.inr rfl, Or.inr rfl, Or.inr rfl, Or.inr rfl, Or.inl rfl, trivial⟩ ?_
          exact hj76 s73
        · refine sm_fg [.ref 54, .int x1, .int x2, .int x3, .int x4, .null] ⟨Or.inr rfl, Or.inr rfl, Or.inr rfl, Or.inr rfl, Or.inr rfl, Or.inl rfl, trivial⟩ ?_
          exact hj76 p65.2
      refine sm_br 1 60 64 [.ref 54, .int x1, .int x2, .int x3, .int x4, .int ((x3 * 4) + x4)] [] (am_hp sw s) (fun _ => rfl) (fun _ => ?_) (fun _ => ?_)
      · refine sm_go 2 65 [.ref 54, .int x1, .int x2, .int x3, .int x4, .int ((x3 * 4) + x4)] [.int (1)] (am_hp sw s) (fun _ => rfl) ?_
        exact hj65 (1, s)
      · refine sm_go 1 65 [.ref 54, .int x1, .int x2, .int x3, .int x4, .int ((x3 * 4) + x4)] [.int (0)] (am_hp sw s) (fun _ => rfl) ?_
        exact hj65 (0, s)
    · refine sm_fg [.ref 54, .int x1, .int x2, .int x3, .null, .null] ⟨Or.inr rfl, Or.inr rfl, Or.inr rfl, Or.inr rfl, Or.inl rfl, Or.inl rfl, trivial⟩ ?_
      exact sm_ex (fun _ _ h => h.2)

set_option maxRecDepth 20000 in
theorem l_X0_fillNeeds_2 (d : Nat) (sw : Bool) : ∀ (n : Nat) (x1 : Int32) (x2 : Int32) (x3 : Int32) (s : am_S), am_Sm tb_X0_fillNeeds 0 false none none (d + 3) (am_pl am_cU sw (fun (v9 : Unit) s9 r h9 => am_Ex tb_X0_fillNeeds 0 false none none (d + 3) r h9 88 [.null, .null, .null, .null, .null, .null] [] (am_hp sw s9))) (f_X0_fillNeeds_L2 n x1 x2 x3 s) 2 [.ref 54, .int x1, .int x2, .int x3, .null, .null] [] (am_hp sw s) := by
  intro n
  induction n with
  | zero => intro x1 x2 x3 s; exact sm_no
  | succ n ih =>
    intro x1 x2 x3 s
    rw [f_X0_fillNeeds_L2]
    refine sm_br 5 13 88 [.ref 54, .int x1, .int x2, .int x3, .null, .null] [] (am_hp sw s) (fun _ => rfl) (fun _ => ?_) (fun _ => ?_)
    · refine sm_call (cvf := am_cI) 2 15 [.ref 54, .int x1, .int x2, .int x3, .null, .null] [.int x3, .int x1] sw s 43 [.int x1, .int x3] [] (fun _ => rfl) rfl (fun _ _ e9 => r_X5_isIn (d + 2) sw _ _ _ _ _ e9) am_pl20 (fun v15 s15 => ?_)
      refine sm_jn 82 (fun p82 => [.ref 54, .int x1, .int x2, .int x3, .null, .null]) (fun p82 => []) (fun p82 => (am_hp sw p82)) (fun p82 => ?_) (fun j82 hj82 => ?_)
      · refine sm_go 2 2 [.ref 54, .int x1, .int x2, .int (x3 + 1), .null, .null] [] (am_hp sw p82) (fun _ => rfl) ?_
        exact ih x1 x2 (x3 + 1) p82
      refine sm_br 1 82 21 [.ref 54, .int x1, .int x2, .int x3, .null, .null] [] (am_hp sw s15) (fun _ => rfl) (fun _ => ?_) (fun _ => ?_)
      · exact hj82 s15
      · refine sm_go 2 24 [.ref 54, .int x1, .int x2, .int x3, .int (0), .null] [] (am_hp sw s15) (fun _ => rfl) ?_
        refine sm_lp 82 (fun _y => [.ref 54, .int x1, .int x2, .int x3, .null, .null]) (l_X0_fillNeeds_24 d sw am_FU x1 x2 x3 (0) s15) (fun _ _ _ h => h) am_pl20 (fun _y s24 => ?_)
        exact hj82 s24
    · refine sm_fg [.null, .null, .null, .null, .null, .null] ⟨Or.inl rfl, Or.inl rfl, Or.inl rfl, Or.inl rfl, Or.inl rfl, Or.inl rfl, trivial⟩ ?_
      exact sm_ex (fun _ _ h => h.2)

set_option maxRecDepth 20000 in
theorem r_X0_fillNeeds (d : Nat) (sw : Bool) (s s' : am_S) (x1 : Int32) (x2 : Int32) (v : Unit) (e : f_X0_fillNeeds s x1 x2 = some (v, s')) : am_Run (d + 4) 7 [.ref 54, .int x1, .int x2] (am_hp sw s) (am_cU v) (am_hp sw s') := by
  refine am_Run.of (M := mt_X0_fillNeeds) (cvf := am_cU) (X := f_X0_fillNeeds s x1 x2) rfl rfl rfl (by simp) ?_ e
  unfold f_X0_fillNeeds
  show am_Sm tb_X0_fillNeeds 0 false none none (d + 3) (am_po am_cU sw) _ 0 [.ref 54, .int x1, .int x2, .null, .null, .null] [] (am_hp sw s)
  refine sm_go 2 2 [.ref 54, .int x1, .int x2, .int (0), .null, .null] [] (am_hp sw s) (fun _ => rfl) ?_
  refine sm_lp 88 (fun _y => [.null, .null, .null, .null, .null, .null]) (l_X0_fillNeeds_2 d sw am_FU x1 x2 (0) s) (fun _ _ _ h => h) am_po20 (fun _y s2 => ?_)
  exact sm_ret 0 88 [.null, .null, .null, .null, .null, .null] [] (am_hp sw s2) none (fun _ => rfl) rfl (fun _ _ h => h)

def f_X0_fill (s : am_S) (x1 : Int32) : Option (Unit × am_S) := am_bd (f_X0_fillNeeds s x1 (0)) (fun (_ : Unit) s3 => am_bd (f_X0_fillNeeds s3 x1 (1)) (fun (_ : Unit) s9 => some ((), s9)))
set_option maxRecDepth 20000 in
theorem r_X0_fill (d : Nat) (sw : Bool) (s s' : am_S) (x1 : Int32) (v : Unit) (e : f_X0_fill s x1 = some (v, s')) : am_Run (d + 5) 2 [.ref 54, .int x1] (am_hp sw s) (am_cU v) (am_hp sw s') := by
  refine am_Run.of (M := mt_X0_fill) (cvf := am_cU) (X := f_X0_fill s x1) rfl rfl rfl (by simp) ?_ e
  unfold f_X0_fill
  show am_Sm tb_X0_fill 0 false none none (d + 4) (am_po am_cU sw) _ 0 [.ref 54, .int x1] [] (am_hp sw s)
  refine sm_call (cvf := am_cU) 3 3 [.ref 54, .int x1] [.int (0), .int x1, .ref 54] sw s 7 [.ref 54, .int x1, .int (0)] [] (fun _ => rfl) rfl (fun _ _ e9 => r_X0_fillNeeds (d + 0) sw _ _ _ _ _ e9) am_po20 (fun _v s3 => ?_)
  refine sm_call (cvf := am_cU) 3 9 [.ref 54, .int x1] [.int (1), .int x1, .ref 54] sw s3 7 [.ref 54, .int x1, .int (1)] [] (fun _ => rfl) rfl (fun _ _ e9 => r_X0_fillNeeds (d + 0) sw _ _ _ _ _ e9) am_po20 (fun _v s9 => ?_)
  exact sm_ret 0 12 [.ref 54, .int x1] [] (am_hp sw s9) none (fun _ => rfl) rfl (fun _ _ h => h)

def f_X1_fits (s : am_S) (x1 : Int32) (x2 : Int32) (x3 : Int32) (x4 : Int64) : Option (Int32 × am_S) := am_gu (am_in x1 8) (if x3 < (x2 + (s.1 18 (Int32.toNatClampNeg x1))) then (some ((0), s)) else (if (lg_cmp (x4 &&& ((((lN 1) <<< (Int32.toInt64 (s.1 18 (Int32.toNatClampNeg x1)) &&& 63)) - (lN 1)) <<< (Int32.toInt64 x2 &&& 63))) (lN 0)) = 0 then (some ((1), s)) else (some ((0), s))))
set_option maxRecDepth 20000 in
theorem r_X1_fits (d : Nat) (sw : Bool) (s s' : am_S) (x1 : Int32) (x2 : Int32) (x3 : Int32) (x4 : Int64) (v : Int32) (e : f_X1_fits s x1 x2 x3 x4 = some (v, s')) : am_Run (d + 1) 15 [.ref 28, .int x1, .int x2, .int x3, .long x4] (am_hp sw s) (am_cI v) (am_hp sw s') := by
  refine am_Run.of (M := mt_X1_fits) (cvf := am_cI) (X := f_X1_fits s x1 x2 x3 x4) rfl rfl rfl (by simp) ?_ e
  unfold f_X1_fits
  show am_Sm tb_X1_fits 1 false none (some .boolean) (d + 0) (am_po am_cI sw) _ 0 [.ref 28, .int x1, .int x2, .int x3, .long x4, .null, .null, .null, .null] [] (am_hp sw s)
  refine sm_iald 4 8 [.ref 28, .int x1, .int x2, .int x3, .long x4, .null, .null, .null, .null] [] (am_hp sw s) (i := x1) (c := 18) (fun _ => rfl) rfl rfl rfl rfl ?_
  refine sm_br 14 43 29 [.ref 28, .int x1, .int x2, .int x3, .long x4, .null, .int (s.1 18 (Int32.toNatClampNeg x1)), .long ((((lN 1) <<< (Int32.toInt64 (s.1 18 (Int32.toNatClampNeg x1)) &&& 63)) - (lN 1)) <<< (Int32.toInt64 x2 &&& 63)), .null] [] (am_hp sw s) (fun _ => rfl) (fun _ => ?_) (fun _ => ?_)
  · exact sm_ret 1 44 [.ref 28, .int x1, .int x2, .int x3, .long x4, .null, .int (s.1 18 (Int32.toNatClampNeg x1)), .long ((((lN 1) <<< (Int32.toInt64 (s.1 18 (Int32.toNatClampNeg x1)) &&& 63)) - (lN 1)) <<< (Int32.toInt64 x2 &&& 63)), .null] [.int (0)] (am_hp sw s) (some (.int (0))) (fun _ => rfl) rfl (fun _ _ h => h)
  · refine sm_br 6 39 43 [.ref 28, .int x1, .int x2, .int x3, .long x4, .null, .int (s.1 18 (Int32.toNatClampNeg x1)), .long ((((lN 1) <<< (Int32.toInt64 (s.1 18 (Int32.toNatClampNeg x1)) &&& 63)) - (lN 1)) <<< (Int32.toInt64 x2 &&& 63)), .null] [] (am_hp sw s) (fun _ => rfl) (fun _ => ?_) (fun _ => ?_)
    · exact sm_ret 2 44 [.ref 28, .int x1, .int x2, .int x3, .long x4, .null, .int (s.1 18 (Int32.toNatClampNeg x1)), .long ((((lN 1) <<< (Int32.toInt64 (s.1 18 (Int32.toNatClampNeg x1)) &&& 63)) - (lN 1)) <<< (Int32.toInt64 x2 &&& 63)), .null] [.int (1)] (am_hp sw s) (some (.int (1))) (fun _ => rfl) rfl (fun _ _ h => h)
    · exact sm_ret 1 44 [.ref 28, .int x1, .int x2, .int x3, .long x4, .null, .int (s.1 18 (Int32.toNatClampNeg x1)), .long ((((lN 1) <<< (Int32.toInt64 (s.1 18 (Int32.toNatClampNeg x1)) &&& 63)) - (lN 1)) <<< (Int32.toInt64 x2 &&& 63)), .null] [.int (0)] (am_hp sw s) (some (.int (0))) (fun _ => rfl) rfl (fun _ _ h => h)

def f_X1_leaveOut (s : am_S) (x1 : Int32) : Option (Unit × am_S) := am_gu (am_in (x1 + 1) 61) (am_gu (am_in x1 61) (am_gu (am_in (x1 + 1) 61) (am_gu (am_in x1 61) (am_gu (am_in x1 61) (some ((), (am_wI (am_wI (am_wI s 29 (Int32.toNatClampNeg x1) (s.1 29 (Int32.toNatClampNeg (x1 + 1)))) 30 (Int32.toNatClampNeg x1) (s.1 30 (Int32.toNatClampNeg (x1 + 1)))) 31 (Int32.toNatClampNeg x1) (-1))))))))
set_option maxRecDepth 20000 in
theorem r_X1_leaveOut (d : Nat) (sw : Bool) (s s' : am_S) (x1 : Int32) (v : Unit) (e : f_X1_leaveOut s x1 = some (v, s')) : am_Run (d + 1) 16 [.ref 28, .int x1] (am_hp sw s) (am_cU v) (am_hp sw s') := by
  refine am_Run.of (M := mt_X1_leaveOut) (cvf := am_cU) (X := f_X1_leaveOut s x1) rfl rfl rfl (by simp) ?_ e
  unfold f_X1_leaveOut
  show am_Sm tb_X1_leaveOut 1 false none none (d + 0) (am_po am_cU sw) _ 0 [.ref 28, .int x1] [] (am_hp sw s)
  refine sm_iald 8 12 [.ref 28, .int x1] [.int x1, .ref 29] (am_hp sw s) (i := (x1 + 1)) (c := 29) (fun _ => rfl) rfl rfl rfl rfl ?_
  refine sm_iast 0 13 [.ref 28, .int x1] [] sw s (i := x1) (x := (s.1 29 (Int32.toNatClampNeg (x1 + 1)))) (c := 29) (fun _ => rfl) rfl rfl rfl ?_
  refine sm_iald 8 26 [.ref 28, .int x1] [.int x1, .ref 30] (am_hp sw (am_wI s 29 (Int32.toNatClampNeg x1) (s.1 29 (Int32.toNatClampNeg (x1 + 1))))) (i := (x1 + 1)) (c := 30) (fun _ => rfl) rfl rfl rfl rfl ?_
  refine sm_iast 0 27 [.ref 28, .int x1] [] sw (am_wI s 29 (Int32.toNatClampNeg x1) (s.1 29 (Int32.toNatClampNeg (x1 + 1)))) (i := x1) (x := (s.1 30 (Int32.toNatClampNeg (x1 + 1)))) (c := 30) (fun _ => rfl) rfl rfl rfl ?_
  refine sm_iast 4 34 [.ref 28, .int x1] [] sw (am_wI (am_wI s 29 (Int32.toNatClampNeg x1) (s.1 29 (Int32.toNatClampNeg (x1 + 1)))) 30 (Int32.toNatClampNeg x1) (s.1 30 (Int32.toNatClampNeg (x1 + 1)))) (i := x1) (x := (-1)) (c := 31) (fun _ => rfl) rfl rfl rfl ?_
  exact sm_ret 0 35 [.ref 28, .int x1] [] (am_hp sw (am_wI (am_wI (am_wI s 29 (Int32.toNatClampNeg x1) (s.1 29 (Int32.toNatClampNeg (x1 + 1)))) 30 (Int32.toNatClampNeg x1) (s.1 30 (Int32.toNatClampNeg (x1 + 1)))) 31 (Int32.toNatClampNeg x1) (-1))) none (fun _ => rfl) rfl (fun _ _ h => h)

def f_X1_tryRing (s : am_S) (x1 : Int32) (x2 : Int32) : Option (Unit × am_S) := am_gu (am_in x2 8) (am_gu (am_in (x1 + (s.1 18 (Int32.toNatClampNeg x2))) 61) (am_gu (am_in x2 8) (am_gu (am_in x2 8) (am_gu (am_in (x1 + (s.1 18 (Int32.toNatClampNeg x2))) 61) (am_gu (am_in x1 61) (am_jn (fun (p66 : Int32 × am_S) => am_jn (fun (p95 : am_S) => am_gu (am_in x1 61) (am_gu (am_in x1 61) (am_gu (am_in x1 61) (some ((), (am_wI (am_wI (am_wI p95 29 (Int32.toNatClampNeg x1) ((s.1 29 (Int32.toNatClampNeg (x1 + (s.1 18 (Int32.toNatClampNeg x2))))) + ((s.1 19 (Int32.toNatClampNeg x2)) * (s.1 20 (Int32.toNatClampNeg x2))))) 30 (Int32.toNatClampNeg x1) ((s.1 30 (Int32.toNatClampNeg (x1 + (s.1 18 (Int32.toNatClampNeg x2))))) + 1)) 31 (Int32.toNatClampNeg x1) x2)))))) (fun j95 => if p66.1 = 0 then (am_gu (am_in x1 61) (if ((s.1 29 (Int32.toNatClampNeg (x1 + (s.1 18 (Int32.toNatClampNeg x2))))) + ((s.1 19 (Int32.toNatClampNeg x2)) * (s.1 20 (Int32.toNatClampNeg x2)))) = (p66.2.1 29 (Int32.toNatClampNeg x1)) then (am_gu (am_in x1 61) (if (p66.2.1 30 (Int32.toNatClampNeg x1)) < ((s.1 30 (Int32.toNatClampNeg (x1 + (s.1 18 (Int32.toNatClampNeg x2))))) + 1) then (some ((), p66.2)) else (j95 p66.2))) else (some ((), p66.2)))) else (j95 p66.2))) (fun j66 => if (s.1 29 (Int32.toNatClampNeg x1)) < ((s.1 29 (Int32.toNatClampNeg (x1 + (s.1 18 (Int32.toNatClampNeg x2))))) + ((s.1 19 (Int32.toNatClampNeg x2)) * (s.1 20 (Int32.toNatClampNeg x2)))) then (j66 (1, s)) else (j66 (0, s)))))))))
set_option maxRecDepth 20000 in
theorem r_X1_tryRing (d : Nat) (sw : Bool) (s s' : am_S) (x1 : Int32) (x2 : Int32) (v : Unit) (e : f_X1_tryRing s x1 x2 = some (v, s')) : am_Run (d + 1) 17 [.ref 28, .int x1, .int x2] (am_hp sw s) (am_cU v) (am_hp sw s') := by
  refine am_Run.of (M := mt_X1_tryRing) (cvf := am_cU) (X := f_X1_tryRing s x1 x2) rfl rfl rfl (by simp) ?_ e
  unfold f_X1_tryRing
  show am_Sm tb_X1_tryRing 1 false none none (d + 0) (am_po am_cU sw) _ 0 [.ref 28, .int x1, .int x2, .null, .null, .null, .null] [] (am_hp sw s)
  refine sm_iald 5 9 [.ref 28, .int x1, .int x2, .null, .null, .null, .null] [.int x1] (am_hp sw s) (i := x2) (c := 18) (fun _ => rfl) rfl rfl rfl rfl ?_
  refine sm_iald 5 17 [.ref 28, .int x1, .int x2, .int (x1 + (s.1 18 (Int32.toNatClampNeg x2))), .null, .null, .null] [] (am_hp sw s) (i := (x1 + (s.1 18 (Int32.toNatClampNeg x2)))) (c := 29) (fun _ => rfl) rfl rfl rfl rfl ?_
  refine sm_iald 4 26 [.ref 28, .int x1, .int x2, .int (x1 + (s.1 18 (Int32.toNatClampNeg x2))), .null, .null, .null] [.int (s.1 29 (Int32.toNatClampNeg (x1 + (s.1 18 (Int32.toNatClampNeg x2)))))] (am_hp sw s) (i := x2) (c := 19) (fun _ => rfl) rfl rfl rfl rfl ?_
  refine sm_iald 4 35 [.ref 28, .int x1, .int x2, .int (x1 + (s.1 18 (Int32.toNatClampNeg x2))), .null, .null, .null] [.int (s.1 19 (Int32.toNatClampNeg x2)), .int (s.1 29 (Int32.toNatClampNeg (x1 + (s.1 18 (Int32.toNatClampNeg x2)))))] (am_hp sw s) (i := x2) (c := 20) (fun _ => rfl) rfl rfl rfl rfl ?_
  refine sm_iald 6 45 [.ref 28, .int x1, .int x2, .int (x1 + (s.1 18 (Int32.toNatClampNeg x2))), .int ((s.1 29 (Int32.toNatClampNeg (x1 + (s.1 18 (Int32.toNatClampNeg x2))))) + ((s.1 19 (Int32.toNatClampNeg x2)) * (s.1 20 (Int32.toNatClampNeg x2)))), .null, .null] [] (am_hp sw s) (i := (x1 + (s.1 18 (Int32.toNatClampNeg x2)))) (c := 30) (fun _ => rfl) rfl rfl rfl rfl ?_
  refine sm_iald 7 57 [.ref 28, .int x1, .int x2, .int (x1 + (s.1 18 (Int32.toNatClampNeg x2))), .int ((s.1 29 (Int32.toNatClampNeg (x1 + (s.1 18 (Int32.toNatClampNeg x2))))) + ((s.1 19 (Int32.toNatClampNeg x2)) * (s.1 20 (Int32.toNatClampNeg x2)))), .int ((s.1 30 (Int32.toNatClampNeg (x1 + (s.1 18 (Int32.toNatClampNeg x2))))) + 1), .null] [.int ((s.1 29 (Int32.toNatClampNeg (x1 + (s.1 18 (Int32.toNatClampNeg x2))))) + ((s.1 19 (Int32.toNatClampNeg x2)) * (s.1 20 (Int32.toNatClampNeg x2))))] (am_hp sw s) (i := x1) (c := 29) (fun _ => rfl) rfl rfl rfl rfl ?_
  refine sm_jn 66 (fun p66 => [.ref 28, .int x1, .int x2, .null, .int ((s.1 29 (Int32.toNatClampNeg (x1 + (s.1 18 (Int32.toNatClampNeg x2))))) + ((s.1 19 (Int32.toNatClampNeg x2)) * (s.1 20 (Int32.toNatClampNeg x2)))), .int ((s.1 30 (Int32.toNatClampNeg (x1 + (s.1 18 (Int32.toNatClampNeg x2))))) + 1), .null]) (fun p66 => [.int p66.1]) (fun p66 => (am_hp sw p66.2)) (fun p66 => ?_) (fun j66 hj66 => ?_)
  · refine sm_go 2 70 [.ref 28, .int x1, .int x2, .null, .int ((s.1 29 (Int32.toNatClampNeg (x1 + (s.1 18 (Int32.toNatClampNeg x2))))) + ((s.1 19 (Int32.toNatClampNeg x2)) * (s.1 20 (Int32.toNatClampNeg x2)))), .int ((s.1 30 (Int32.toNatClampNeg (x1 + (s.1 18 (Int32.toNatClampNeg x2))))) + 1), .int p66.1] [.int p66.1] (am_hp sw p66.2) (fun _ => rfl) ?_
    refine sm_jn 95 (fun p95 => [.ref 28, .int x1, .int x2, .null, .int ((s.1 29 (Int32.toNatClampNeg (x1 + (s.1 18 (Int32.toNatClampNeg x2))))) + ((s.1 19 (Int32.toNatClampNeg x2)) * (s.1 20 (Int32.toNatClampNeg x2)))), .int ((s.1 30 (Int32.toNatClampNeg (x1 + (s.1 18 (Int32.toNatClampNeg x2))))) + 1), .null]) (fun p95 => []) (fun p95 => (am_hp sw p95)) (fun p95 => ?_) (fun j95 hj95 => ?_)
    · refine sm_iast 4 102 [.ref 28, .int x1, .int x2, .null, .int ((s.1 29 (Int32.toNatClampNeg (x1 + (s.1 18 (Int32.toNatClampNeg x2))))) + ((s.1 19 (Int32.toNatClampNeg x2)) * (s.1 20 (Int32.toNatClampNeg x2)))), .int ((s.1 30 (Int32.toNatClampNeg (x1 + (s.1 18 (Int32.toNatClampNeg x2))))) + 1), .null] [] sw p95 (i := x1) (x := ((s.1 29 (Int32.toNatClampNeg (x1 + (s.1 18 (Int32.toNatClampNeg x2))))) + ((s.1 19 (Int32.toNatClampNeg x2)) * (s.1 20 (Int32.toNatClampNeg x2))))) (c := 29) (fun _ => rfl) rfl rfl rfl ?_
      refine sm_iast 4 110 [.ref 28, .int x1, .int x2, .null, .int ((s.1 29 (Int32.toNatClampNeg (x1 + (s.1 18 (Int32.toNatClampNeg x2))))) + ((s.1 19 (Int32.toNatClampNeg x2)) * (s.1 20 (Int32.toNatClampNeg x2)))), .int ((s.1 30 (Int32.toNatClampNeg (x1 + (s.1 18 (Int32.toNatClampNeg x2))))) + 1), .null] [] sw (am_wI p95 29 (Int32.toNatClampNeg x1) ((s.1 29 (Int32.toNatClampNeg (x1 + (s.1 18 (Int32.toNatClampNeg x2))))) + ((s.1 19 (Int32.toNatClampNeg x2)) * (s.1 20 (Int32.toNatClampNeg x2))))) (i := x1) (x := ((s.1 30 (Int32.toNatClampNeg (x1 + (s.1 18 (Int32.toNatClampNeg x2))))) + 1)) (c := 30) (fun _ => rfl) rfl rfl rfl ?_
      refine sm_iast 4 117 [.ref 28, .int x1, .int x2, .null, .int ((s.1 29 (Int32.toNatClampNeg (x1 + (s.1 18 (Int32.toNatClampNeg x2))))) + ((s.1 19 (Int32.toNatClampNeg x2)) * (s.1 20 (Int32.toNatClampNeg x2)))), .int ((s.1 30 (Int32.toNatClampNeg (x1 + (s.1 18 (Int32.toNatClampNeg x2))))) + 1), .null] [] sw (am_wI (am_wI p95 29 (Int32.toNatClampNeg x1) ((s.1 29 (Int32.toNatClampNeg (x1 + (s.1 18 (Int32.toNatClampNeg x2))))) + ((s.1 19 (Int32.toNatClampNeg x2)) * (s.1 20 (Int32.toNatClampNeg x2))))) 30 (Int32.toNatClampNeg x1) ((s.1 30 (Int32.toNatClampNeg (x1 + (s.1 18 (Int32.toNatClampNeg x2))))) + 1)) (i := x1) (x := x2) (c := 31) (fun _ => rfl) rfl rfl rfl ?_
      exact sm_ret 0 118 [.ref 28, .int x1, .int x2, .null, .int ((s.1 29 (Int32.toNatClampNeg (x1 + (s.1 18 (Int32.toNatClampNeg x2))))) + ((s.1 19 (Int32.toNatClampNeg x2)) * (s.1 20 (Int32.toNatClampNeg x2)))), .int ((s.1 30 (Int32.toNatClampNeg (x1 + (s.1 18 (Int32.toNatClampNeg x2))))) + 1), .null] [] (am_hp sw (am_wI (am_wI (am_wI p95 29 (Int32.toNatClampNeg x1) ((s.1 29 (Int32.toNatClampNeg (x1 + (s.1 18 (Int32.toNatClampNeg x2))))) + ((s.1 19 (Int32.toNatClampNeg x2)) * (s.1 20 (Int32.toNatClampNeg x2))))) 30 (Int32.toNatClampNeg x1) ((s.1 30 (Int32.toNatClampNeg (x1 + (s.1 18 (Int32.toNatClampNeg x2))))) + 1)) 31 (Int32.toNatClampNeg x1) x2)) none (fun _ => rfl) rfl (fun _ _ h => h)
    refine sm_br 1 73 95 [.ref 28, .int x1, .int x2, .null, .int ((s.1 29 (Int32.toNatClampNeg (x1 + (s.1 18 (Int32.toNatClampNeg x2))))) + ((s.1 19 (Int32.toNatClampNeg x2)) * (s.1 20 (Int32.toNatClampNeg x2)))), .int ((s.1 30 (Int32.toNatClampNeg (x1 + (s.1 18 (Int32.toNatClampNeg x2))))) + 1), .int p66.1] [] (am_hp sw p66.2) (fun _ => rfl) (fun _ => ?_) (fun _ => ?_)
    · refine sm_iald 4 80 [.ref 28, .int x1, .int x2, .null, .int ((s.1 29 (Int32.toNatClampNeg (x1 + (s.1 18 (Int32.toNatClampNeg x2))))) + ((s.1 19 (Int32.toNatClampNeg x2)) * (s.1 20 (Int32.toNatClampNeg x2)))), .int ((s.1 30 (Int32.toNatClampNeg (x1 + (s.1 18 (Int32.toNatClampNeg x2))))) + 1), .int p66.1] [.int ((s.1 29 (Int32.toNatClampNeg (x1 + (s.1 18 (Int32.toNatClampNeg x2))))) + ((s.1 19 (Int32.toNatClampNeg x2)) * (s.1 20 (Int32.toNatClampNeg x2))))] (am_hp sw p66.2) (i := x1) (c := 29) (fun _ => rfl) rfl rfl rfl rfl ?_
      refine sm_br 1 84 118 [.ref 28, .int x1, .int x2, .null, .int ((s.1 29 (Int32.toNatClampNeg (x1 + (s.1 18 (Int32.toNatClampNeg x2))))) + ((s.1 19 (Int32.toNatClampNeg x2)) * (s.1 20 (Int32.toNatClampNeg x2)))), .int ((s.1 30 (Int32.toNatClampNeg (x1 + (s.1 18 (Int32.toNatClampNeg x2))))) + 1), .int p66.1] [] (am_hp sw p66.2) (fun _ => rfl) (fun _ => ?_) (fun _ => ?_)
      · refine sm_iald 4 91 [.ref 28, .int x1, .int x2, .null, .int ((s.1 29 (Int32.toNatClampNeg (x1 + (s.1 18 (Int32.toNatClampNeg x2))))) + ((s.1 19 (Int32.toNatClampNeg x2)) * (s.1 20 (Int32.toNatClampNeg x2)))), .int ((s.1 30 (Int32.toNatClampNeg (x1 + (s.1 18 (Int32.toNatClampNeg x2))))) + 1), .int p66.1] [.int ((s.1 30 (Int32.toNatClampNeg (x1 + (s.1 18 (Int32.toNatClampNeg x2))))) + 1)] (am_hp sw p66.2) (i := x1) (c := 30) (fun _ => rfl) rfl rfl rfl rfl ?_
        refine sm_br 1 118 95 [.ref 28, .int x1, .int x2, .null, .int ((s.1 29 (Int32.toNatClampNeg (x1 + (s.1 18 (Int32.toNatClampNeg x2))))) + ((s.1 19 (Int32.toNatClampNeg x2)) * (s.1 20 (Int32.toNatClampNeg x2)))), .int ((s.1 30 (Int32.toNatClampNeg (x1 + (s.1 18 (Int32.toNatClampNeg x2))))) + 1), .int p66.1] [] (am_hp sw p66.2) (fun _ => rfl) (fun _ => ?_) (fun _ => ?_)
        · exact sm_ret 0 118 [.ref 28, .int x1, .int x2, .null, .int ((s.1 29 (Int32.toNatClampNeg (x1 + (s.1 18 (Int32.toNatClampNeg x2))))) + ((s.1 19 (Int32.toNatClampNeg x2)) * (s.1 20 (Int32.toNatClampNeg x2)))), .int ((s.1 30 (Int32.toNatClampNeg (x1 + (s.1 18 (Int32.toNatClampNeg x2))))) + 1), .int p66.1] [] (am_hp sw p66.2) none (fun _ => rfl) rfl (fun _ _ h => h)
        · refine sm_fg [.ref 28, .int x1, .int x2, .null, .int ((s.1 29 (Int32.toNatClampNeg (x1 + (s.1 18 (Int32.toNatClampNeg x2))))) + ((s.1 19 (Int32.toNatClampNeg x2)) * (s.1 20 (Int32.toNatClampNeg x2)))), .int ((s.1 30 (Int32.toNatClampNeg (x1 + (s.1 18 (Int32.toNatClampNeg x2))))) + 1), .null] ⟨Or.inr rfl, Or.inr rfl, Or.inr rfl, Or.inl rfl, Or.inr rfl, Or.inr rfl, Or.inl rfl, trivial⟩ ?_
          exact hj95 p66.2
      · exact sm_ret 0 118 [.ref 28, .int x1, .int x2, .null, .int ((s.1 29 (Int32.toNatClampNeg (x1 + (s.1 18 (Int32.toNatClampNeg x2))))) + ((s.1 19 (Int32.toNatClampNeg x2)) * (s.1 20 (Int32.toNatClampNeg x2)))), .int ((s.1 30 (Int32.toNatClampNeg (x1 + (s.1 18 (Int32.toNatClampNeg x2))))) + 1), .int p66.1] [] (am_hp sw p66.2) none (fun _ => rfl) rfl (fun _ _ h => h)
    · refine sm_fg [.ref 28, .int x1, .int x2, .null, .int ((s.1 29 (Int32.toNatClampNeg (x1 + (s.1 18 (Int32.toNatClampNeg x2))))) + ((s.1 19 (Int32.toNatClampNeg x2)) * (s.1 20 (Int32.toNatClampNeg x2)))), .int ((s.1 30 (Int32.toNatClampNeg (x1 + (s.1 18 (Int32.toNatClampNeg x2))))) + 1), .null] ⟨Or.inr rfl, Or.inr rfl, Or.inr rfl, Or.inl rfl, Or.inr rfl, Or.inr rfl, Or.inl rfl, trivial⟩ ?_
      exact hj95 p66.2
  refine sm_br 1 61 65 [.ref 28, .int x1, .int x2, .int (x1 + (s.1 18 (Int32.toNatClampNeg x2))), .int ((s.1 29 (Int32.toNatClampNeg (x1 + (s.1 18 (Int32.toNatClampNeg x2))))) + ((s.1 19 (Int32.toNatClampNeg x2)) * (s.1 20 (Int32.toNatClampNeg x2)))), .int ((s.1 30 (Int32.toNatClampNeg (x1 + (s.1 18 (Int32.toNatClampNeg x2))))) + 1), .null] [] (am_hp sw s) (fun _ => rfl) (fun _ => ?_) (fun _ => ?_)
  · refine sm_go 2 66 [.ref 28, .int x1, .int x2, .int (x1 + (s.1 18 (Int32.toNatClampNeg x2))), .int ((s.1 29 (Int32.toNatClampNeg (x1 + (s.1 18 (Int32.toNatClampNeg x2))))) + ((s.1 19 (Int32.toNatClampNeg x2)) * (s.1 20 (Int32.toNatClampNeg x2)))), .int ((s.1 30 (Int32.toNatClampNeg (x1 + (s.1 18 (Int32.toNatClampNeg x2))))) + 1), .null] [.int (1)] (am_hp sw s) (fun _ => rfl) ?_
    refine sm_fg [.ref 28, .int x1, .int x2, .null, .int ((s.1 29 (Int32.toNatClampNeg (x1 + (s.1 18 (Int32.toNatClampNeg x2))))) + ((s.1 19 (Int32.toNatClampNeg x2)) * (s.1 20 (Int32.toNatClampNeg x2)))), .int ((s.1 30 (Int32.toNatClampNeg (x1 + (s.1 18 (Int32.toNatClampNeg x2))))) + 1), .null] ⟨Or.inr rfl, Or.inr rfl, Or.inr rfl, Or.inl rfl, Or.inr rfl, Or.inr rfl, Or.inl rfl, trivial⟩ ?_
    exact hj66 (1, s)
  · refine sm_go 1 66 [.ref 28, .int x1, .int x2, .int (x1 + (s.1 18 (Int32.toNatClampNeg x2))), .int ((s.1 29 (Int32.toNatClampNeg (x1 + (s.1 18 (Int32.toNatClampNeg x2))))) + ((s.1 19 (Int32.toNatClampNeg x2)) * (s.1 20 (Int32.toNatClampNeg x2)))), .int ((s.1 30 (Int32.toNatClampNeg (x1 + (s.1 18 (Int32.toNatClampNeg x2))))) + 1), .null] [.int (0)] (am_hp sw s) (fun _ => rfl) ?_
    refine sm_fg [.ref 28, .int x1, .int x2, .null, .int ((s.1 29 (Int32.toNatClampNeg (x1 + (s.1 18 (Int32.toNatClampNeg x2))))) + ((s.1 19 (Int32.toNatClampNeg x2)) * (s.1 20 (Int32.toNatClampNeg x2)))), .int ((s.1 30 (Int32.toNatClampNeg (x1 + (s.1 18 (Int32.toNatClampNeg x2))))) + 1), .null] ⟨Or.inr rfl, Or.inr rfl, Or.inr rfl, Or.inl rfl, Or.inr rfl, Or.inr rfl, Or.inl rfl, trivial⟩ ?_
    exact hj66 (0, s)

def f_X1_cut_L41 : Nat → Int32 → Int64 → Int32 → Int32 → Int32 → am_S → Option ((Unit × am_S) ⊕ ((Unit) × am_S))
  | 0, _, _, _, _, _, _ => none
  | n + 1, x1, x2, x4, x5, x6, s => if x6 < 0 then (some (.inr ((), s))) else (am_jn (fun (p61 : Int32 × am_S) => am_jn (fun (p89 : am_S) => f_X1_cut_L41 n x1 x2 x4 x5 (x6 + (-1)) p89) (fun j89 => if p61.1 = 0 then (j89 p61.2) else (am_bd (f_X1_fits p61.2 x6 x5 x1 x2) (fun v75 s75 => if v75 = 0 then (j89 s75) else (am_bd (f_X1_tryRing s75 x5 x6) (fun (_ : Unit) s86 => j89 s86)))))) (fun j61 => if ((x4 >>> (x6 &&& 31)) &&& 1) = 0 then (j61 (0, s)) else (j61 (1, s))))
def f_X1_cut_L19 : Nat → Int32 → Int64 → Int32 → Int32 → am_S → Option ((Unit × am_S) ⊕ ((Unit) × am_S))
  | 0, _, _, _, _, _ => none
  | n + 1, x1, x2, x4, x5, s => if x5 < 0 then (some (.inr ((), s))) else (am_bd (f_X1_leaveOut s x5) (fun (_ : Unit) s27 => am_lp Sum.inl (f_X1_cut_L41 am_FU x1 x2 x4 x5 ((s27.1 17 0) - 1) s27) (fun (_ : Unit) s41 => f_X1_cut_L19 n x1 x2 x4 (x5 + (-1)) s41)))
def f_X1_cut (s : am_S) (x1 : Int32) (x2 : Int64) (x4 : Int32) : Option (Unit × am_S) := am_gu (am_in x1 61) (am_gu (am_in x1 61) (am_lp (fun y => y) (f_X1_cut_L19 am_FU x1 x2 x4 (x1 - 1) (am_wI (am_wI s 29 (Int32.toNatClampNeg x1) (0)) 30 (Int32.toNatClampNeg x1) (0))) (fun (_ : Unit) s19 => some ((), s19))))
set_option maxRecDepth 20000 in
theorem l_X1_cut_41 (d : Nat) (sw : Bool) : ∀ (n : Nat) (x1 : Int32) (x2 : Int64) (x4 : Int32) (x5 : Int32) (x6 : Int32) (s : am_S), am_Sm tb_X1_cut 1 false none none (d + 1) (am_pl am_cU sw (fun (v9 : Unit) s9 r h9 => am_Ex tb_X1_cut 1 false none none (d + 1) r h9 95 [.ref 28, .int x1, .long x2, .null, .int x4, .int x5, .null, .null] [] (am_hp sw s9))) (f_X1_cut_L41 n x1 x2 x4 x5 x6 s) 41 [.ref 28, .int x1, .long x2, .null, .int x4, .int x5, .int x6, .null] [] (am_hp sw s) := by
  intro n
  induction n with
  | zero => intro x1 x2 x4 x5 x6 s; exact sm_no
  | succ n ih =>
    intro x1 x2 x4 x5 x6 s
    rw [f_X1_cut_L41]
    refine sm_br 2 95 46 [.ref 28, .int x1, .long x2, .null, .int x4, .int x5, .int x6, .null] [] (am_hp sw s) (fun _ => rfl) (fun _ => ?_) (fun _ => ?_)
    · refine sm_fg [.ref 28, .int x1, .long x2, .null, .int x4, .int x5, .null, .null] ⟨Or.inr rfl, Or.inr rfl, Or.inr rfl, Or.inl rfl, Or.inr rfl, Or.inr rfl, Or.inl rfl, Or.inl rfl, trivial⟩ ?_
      exact sm_ex (fun _ _ h => h.2)
    · refine sm_go 5 53 [.ref 28, .int x1, .long x2, .null, .int x4, .int x5, .int x6, .null] [.int ((x4 >>> (x6 &&& 31)) &&& 1)] (am_hp sw s) (fun _ => rfl) ?_
      refine sm_jn 61 (fun p61 => [.ref 28, .int x1, .long x2, .null, .int x4, .int x5, .int x6, .null]) (fun p61 => [.int p61.1]) (fun p61 => (am_hp sw p61.2)) (fun p61 => ?_) (fun j61 hj61 => ?_)
      · refine sm_go 2 65 [.ref 28, .int x1, .long x2, .null, .int x4, .int x5, .int x6, .int p61.1] [.int p61.1] (am_hp sw p61.2) (fun _ => rfl) ?_
        refine sm_jn 89 (fun p89 => [.ref 28, .int x1, .long x2, .null, .int x4, .int x5, .int x6, .null]) (fun p89 => []) (fun p89 => (am_hp sw p89)) (fun p89 => ?_) (fun j89 hj89 => ?_)
        · refine sm_go 2 41 [.ref 28, .int x1, .long x2, .null, .int x4, .int x5, .int (x6 + (-1)), .null] [] (am_hp sw p89) (fun _ => rfl) ?_
          exact ih x1 x2 x4 x5 (x6 + (-1)) p89
        refine sm_br 1 89 68 [.ref 28, .int x1, .long x2, .null, .int x4, .int x5, .int x6, .int p61.1] [] (am_hp sw p61.2) (fun _ => rfl) (fun _ => ?_) (fun _ => ?_)
        · refine sm_fg [.ref 28, .int x1, .long x2, .null, .int x4, .int x5, .int x6, .null] ⟨Or.inr rfl, Or.inr rfl, Or.inr rfl, Or.inl rfl, Or.inr rfl, Or.inr rfl, Or.inr rfl, Or.inl rfl, trivial⟩ ?_
          exact hj89 p61.2
        · refine sm_call (cvf := am_cI) 5 75 [.ref 28, .int x1, .long x2, .null, .int x4, .int x5, .int x6, .int p61.1] [.long x2, .int x1, .int x5, .int x6, .ref 28] sw p61.2 15 [.ref 28, .int x6, .int x5, .int x1, .long x2] [] (fun _ => rfl) rfl (fun _ _ e9 => r_X1_fits (d + 0) sw _ _ _ _ _ _ _ e9) am_pl20 (fun v75 s75 => ?_)
          refine sm_br 1 89 81 [.ref 28, .int x1, .long x2, .null, .int x4, .int x5, .int x6, .int p61.1] [] (am_hp sw s75) (fun _ => rfl) (fun _ => ?_) (fun _ => ?_)
          · refine sm_fg [.ref 28, .int x1, .long x2, .null, .int x4, .int x5, .int x6, .null] ⟨Or.inr rfl, Or.inr rfl, Or.inr rfl, Or.inl rfl, Or.inr rfl, Or.inr rfl, Or.inr rfl, Or.inl rfl, trivial⟩ ?_
            exact hj89 s75
          · refine sm_call (cvf := am_cU) 3 86 [.ref 28, .int x1, .long x2, .null, .int x4, .int x5, .int x6, .int p61.1] [.int x6, .int x5, .ref 28] sw s75 17 [.ref 28, .int x5, .int x6] [] (fun _ => rfl) rfl (fun _ _ e9 => r_X1_tryRing (d + 0) sw _ _ _ _ _ e9) am_pl20 (fun _v s86 => ?_)
            refine sm_fg [.ref 28, .int x1, .long x2, .null, .int x4, .int x5, .int x6, .null] ⟨Or.inr rfl, Or.inr rfl, Or.inr rfl, Or.inl rfl, Or.inr rfl, Or.inr rfl, Or.inr rfl, Or.inl rfl, trivial⟩ ?_
            exact hj89 s86
      refine sm_br 1 60 56 [.ref 28, .int x1, .long x2, .null, .int x4, .int x5, .int x6, .null] [] (am_hp sw s) (fun _ => rfl) (fun _ => ?_) (fun _ => ?_)
      · refine sm_go 1 61 [.ref 28, .int x1, .long x2, .null, .int x4, .int x5, .int x6, .null] [.int (0)] (am_hp sw s) (fun _ => rfl) ?_
        exact hj61 (0, s)
      · refine sm_go 2 61 [.ref 28, .int x1, .long x2, .null, .int x4, .int x5, .int x6, .null] [.int (1)] (am_hp sw s) (fun _ => rfl) ?_
        exact hj61 (1, s)

set_option maxRecDepth 20000 in
theorem l_X1_cut_19 (d : Nat) (sw : Bool) : ∀ (n : Nat) (x1 : Int32) (x2 : Int64) (x4 : Int32) (x5 : Int32) (s : am_S), am_Sm tb_X1_cut 1 false none none (d + 1) (am_pl am_cU sw (fun (v9 : Unit) s9 r h9 => am_Ex tb_X1_cut 1 false none none (d + 1) r h9 101 [.null, .null, .null, .null, .null, .null, .null, .null] [] (am_hp sw s9))) (f_X1_cut_L19 n x1 x2 x4 x5 s) 19 [.ref 28, .int x1, .long x2, .null, .int x4, .int x5, .null, .null] [] (am_hp sw s) := by
  intro n
  induction n with
  | zero => intro x1 x2 x4 x5 s; exact sm_no
  | succ n ih =>
    intro x1 x2 x4 x5 s
    rw [f_X1_cut_L19]
    refine sm_br 2 101 24 [.ref 28, .int x1, .long x2, .null, .int x4, .int x5, .null, .null] [] (am_hp sw s) (fun _ => rfl) (fun _ => ?_) (fun _ => ?_)
    · refine sm_fg [.null, .null, .null, .null, .null, .null, .null, .null] ⟨Or.inl rfl, Or.inl rfl, Or.inl rfl, Or.inl rfl, Or.inl rfl, Or.inl rfl, Or.inl rfl, Or.inl rfl, trivial⟩ ?_
      exact sm_ex (fun _ _ h => h.2)
    · refine sm_call (cvf := am_cU) 2 27 [.ref 28, .int x1, .long x2, .null, .int x4, .int x5, .null, .null] [.int x5, .ref 28] sw s 16 [.ref 28, .int x5] [] (fun _ => rfl) rfl (fun _ _ e9 => r_X1_leaveOut (d + 0) sw _ _ _ _ e9) am_pl20 (fun _v s27 => ?_)
      refine sm_go 6 41 [.ref 28, .int x1, .long x2, .null, .int x4, .int x5, .int ((s27.1 17 0) - 1), .null] [] (am_hp sw s27) (fun _ => rfl) ?_
      refine sm_lp 95 (fun _y => [.ref 28, .int x1, .long x2, .null, .int x4, .int x5, .null, .null]) (l_X1_cut_41 d sw am_FU x1 x2 x4 x5 ((s27.1 17 0) - 1) s27) (fun _ _ _ h => h) am_pl20 (fun _y s41 => ?_)
      refine sm_go 2 19 [.ref 28, .int x1, .long x2, .null, .int x4, .int (x5 + (-1)), .null, .null] [] (am_hp sw s41) (fun _ => rfl) ?_
      exact ih x1 x2 x4 (x5 + (-1)) s41

set_option maxRecDepth 20000 in
theorem r_X1_cut (d : Nat) (sw : Bool) (s s' : am_S) (x1 : Int32) (x2 : Int64) (x4 : Int32) (v : Unit) (e : f_X1_cut s x1 x2 x4 = some (v, s')) : am_Run (d + 2) 12 [.ref 28, .int x1, .long x2, .int x4] (am_hp sw s) (am_cU v) (am_hp sw s') := by
  refine am_Run.of (M := mt_X1_cut) (cvf := am_cU) (X := f_X1_cut s x1 x2 x4) rfl rfl rfl (by simp) ?_ e
  unfold f_X1_cut
  show am_Sm tb_X1_cut 1 false none none (d + 1) (am_po am_cU sw) _ 0 [.ref 28, .int x1, .long x2, .null, .int x4, .null, .null, .null] [] (am_hp sw s)
  refine sm_iast 4 6 [.ref 28, .int x1, .long x2, .null, .int x4, .null, .null, .null] [] sw s (i := x1) (x := (0)) (c := 29) (fun _ => rfl) rfl rfl rfl ?_
  refine sm_iast 4 13 [.ref 28, .int x1, .long x2, .null, .int x4, .null, .null, .null] [] sw (am_wI s 29 (Int32.toNatClampNeg x1) (0)) (i := x1) (x := (0)) (c := 30) (fun _ => rfl) rfl rfl rfl ?_
  refine sm_go 4 19 [.ref 28, .int x1, .long x2, .null, .int x4, .int (x1 - 1), .null, .null] [] (am_hp sw (am_wI (am_wI s 29 (Int32.toNatClampNeg x1) (0)) 30 (Int32.toNatClampNeg x1) (0))) (fun _ => rfl) ?_
  refine sm_lp 101 (fun _y => [.null, .null, .null, .null, .null, .null, .null, .null]) (l_X1_cut_19 d sw am_FU x1 x2 x4 (x1 - 1) (am_wI (am_wI s 29 (Int32.toNatClampNeg x1) (0)) 30 (Int32.toNatClampNeg x1) (0))) (fun _ _ _ h => h) am_po20 (fun _y s19 => ?_)
  exact sm_ret 0 101 [.null, .null, .null, .null, .null, .null, .null, .null] [] (am_hp sw s19) none (fun _ => rfl) rfl (fun _ _ h => h)

def f_X1_ringsOfBest (s : am_S) : Option (Int32 × am_S) := am_gu (am_in (0) 61) (some ((s.1 30 (Int32.toNatClampNeg (0))), s))
set_option maxRecDepth 20000 in
theorem r_X1_ringsOfBest (d : Nat) (sw : Bool) (s s' : am_S) (v : Int32) (e : f_X1_ringsOfBest s = some (v, s')) : am_Run (d + 1) 13 [.ref 28] (am_hp sw s) (am_cI v) (am_hp sw s') := by
  refine am_Run.of (M := mt_X1_ringsOfBest) (cvf := am_cI) (X := f_X1_ringsOfBest s) rfl rfl rfl (by simp) ?_ e
  unfold f_X1_ringsOfBest
  show am_Sm tb_X1_ringsOfBest 1 false none (some .int) (d + 0) (am_po am_cI sw) _ 0 [.ref 28] [] (am_hp sw s)
  refine sm_iald 3 5 [.ref 28] [] (am_hp sw s) (i := (0)) (c := 30) (fun _ => rfl) rfl rfl rfl rfl ?_
  exact sm_ret 0 6 [.ref 28] [.int (s.1 30 (Int32.toNatClampNeg (0)))] (am_hp sw s) (some (.int (s.1 30 (Int32.toNatClampNeg (0))))) (fun _ => rfl) rfl (fun _ _ h => h)

def f_X1_choiceAt (s : am_S) (x1 : Int32) : Option (Int32 × am_S) := am_gu (am_in x1 61) (some ((s.1 31 (Int32.toNatClampNeg x1)), s))
set_option maxRecDepth 20000 in
theorem r_X1_choiceAt (d : Nat) (sw : Bool) (s s' : am_S) (x1 : Int32) (v : Int32) (e : f_X1_choiceAt s x1 = some (v, s')) : am_Run (d + 1) 14 [.ref 28, .int x1] (am_hp sw s) (am_cI v) (am_hp sw s') := by
  refine am_Run.of (M := mt_X1_choiceAt) (cvf := am_cI) (X := f_X1_choiceAt s x1) rfl rfl rfl (by simp) ?_ e
  unfold f_X1_choiceAt
  show am_Sm tb_X1_choiceAt 1 false none (some .int) (d + 0) (am_po am_cI sw) _ 0 [.ref 28, .int x1] [] (am_hp sw s)
  refine sm_iald 3 5 [.ref 28, .int x1] [] (am_hp sw s) (i := x1) (c := 31) (fun _ => rfl) rfl rfl rfl rfl ?_
  exact sm_ret 0 6 [.ref 28, .int x1] [.int (s.1 31 (Int32.toNatClampNeg x1))] (am_hp sw s) (some (.int (s.1 31 (Int32.toNatClampNeg x1)))) (fun _ => rfl) rfl (fun _ _ h => h)

def f_X2_has (s : am_S) (x1 : Int32) : Option (Int32 × am_S) := if x1 < 0 then (some ((0), s)) else (if x1 < (s.1 21 0) then (some ((1), s)) else (some ((0), s)))
set_option maxRecDepth 20000 in
theorem r_X2_has (d : Nat) (sw : Bool) (s s' : am_S) (x1 : Int32) (v : Int32) (e : f_X2_has s x1 = some (v, s')) : am_Run (d + 1) 19 [.ref 21, .int x1] (am_hp sw s) (am_cI v) (am_hp sw s') := by
  refine am_Run.of (M := mt_X2_has) (cvf := am_cI) (X := f_X2_has s x1) rfl rfl rfl (by simp) ?_ e
  unfold f_X2_has
  show am_Sm tb_X2_has 2 false none (some .boolean) (d + 0) (am_po am_cI sw) _ 0 [.ref 21, .int x1] [] (am_hp sw s)
  refine sm_br 2 16 4 [.ref 21, .int x1] [] (am_hp sw s) (fun _ => rfl) (fun _ => ?_) (fun _ => ?_)
  · exact sm_ret 1 17 [.ref 21, .int x1] [.int (0)] (am_hp sw s) (some (.int (0))) (fun _ => rfl) rfl (fun _ _ h => h)
  · refine sm_br 4 12 16 [.ref 21, .int x1] [] (am_hp sw s) (fun _ => rfl) (fun _ => ?_) (fun _ => ?_)
    · exact sm_ret 2 17 [.ref 21, .int x1] [.int (1)] (am_hp sw s) (some (.int (1))) (fun _ => rfl) rfl (fun _ _ h => h)
    · exact sm_ret 1 17 [.ref 21, .int x1] [.int (0)] (am_hp sw s) (some (.int (0))) (fun _ => rfl) rfl (fun _ _ h => h)

def f_X2_add (s : am_S) (x1 : Int32) (x2 : Int32) : Option (Int32 × am_S) := if (s.1 21 0) < 8 then (am_gu (am_in (s.1 21 0) 8) (am_gu (am_in (s.1 21 0) 8) (some ((((s.1 21 0) + 1) - 1), (am_wI (am_wI (am_wI s 22 (Int32.toNatClampNeg (s.1 21 0)) x1) 23 (Int32.toNatClampNeg (s.1 21 0)) (am_nar 3 x2)) 21 0 ((s.1 21 0) + 1)))))) else (some ((-1), s))
set_option maxRecDepth 20000 in
theorem r_X2_add (d : Nat) (sw : Bool) (s s' : am_S) (x1 : Int32) (x2 : Int32) (v : Int32) (e : f_X2_add s x1 x2 = some (v, s')) : am_Run (d + 1) 20 [.ref 21, .int x1, .int x2] (am_hp sw s) (am_cI v) (am_hp sw s') := by
  refine am_Run.of (M := mt_X2_add) (cvf := am_cI) (X := f_X2_add s x1 x2) rfl rfl rfl (by simp) ?_ e
  unfold f_X2_add
  show am_Sm tb_X2_add 2 false none (some .int) (d + 0) (am_po am_cI sw) _ 0 [.ref 21, .int x1, .int x2] [] (am_hp sw s)
  refine sm_br 4 11 9 [.ref 21, .int x1, .int x2] [] (am_hp sw s) (fun _ => rfl) (fun _ => ?_) (fun _ => ?_)
  · refine sm_iast 5 20 [.ref 21, .int x1, .int x2] [] sw s (i := (s.1 21 0)) (x := x1) (c := 22) (fun _ => rfl) rfl rfl rfl ?_
    refine sm_bast 5 30 [.ref 21, .int x1, .int x2] [] sw (am_wI s 22 (Int32.toNatClampNeg (s.1 21 0)) x1) (i := (s.1 21 0)) (x := x2) (c := 23) (fun _ => rfl) rfl rfl rfl rfl ?_
    exact sm_ret 10 47 [.ref 21, .int x1, .int x2] [.int (((s.1 21 0) + 1) - 1)] (am_hp sw (am_wI (am_wI (am_wI s 22 (Int32.toNatClampNeg (s.1 21 0)) x1) 23 (Int32.toNatClampNeg (s.1 21 0)) (am_nar 3 x2)) 21 0 ((s.1 21 0) + 1))) (some (.int (((s.1 21 0) + 1) - 1))) (fun _ => rfl) rfl (fun _ _ h => h)
  · exact sm_ret 1 10 [.ref 21, .int x1, .int x2] [.int (-1)] (am_hp sw s) (some (.int (-1))) (fun _ => rfl) rfl (fun _ _ h => h)

def f_X2_owns (s : am_S) (x1 : Int32) (x2 : Int32) : Option (Int32 × am_S) := am_gu (am_in ((x1 * 8) + x2) 64) (am_gu (decide ((s.1 25 (Int32.toNatClampNeg ((x1 * 8) + x2))) &&& 1 = (s.1 25 (Int32.toNatClampNeg ((x1 * 8) + x2))))) (some ((s.1 25 (Int32.toNatClampNeg ((x1 * 8) + x2))), s)))
set_option maxRecDepth 20000 in
theorem r_X2_owns (d : Nat) (sw : Bool) (s s' : am_S) (x1 : Int32) (x2 : Int32) (v : Int32) (e : f_X2_owns s x1 x2 = some (v, s')) : am_Run (d + 1) 21 [.ref 21, .int x1, .int x2] (am_hp sw s) (am_cI v) (am_hp sw s') := by
  refine am_Run.of (M := mt_X2_owns) (cvf := am_cI) (X := f_X2_owns s x1 x2) rfl rfl rfl (by simp) ?_ e
  unfold f_X2_owns
  show am_Sm tb_X2_owns 2 false none (some .boolean) (d + 0) (am_po am_cI sw) _ 0 [.ref 21, .int x1, .int x2] [] (am_hp sw s)
  refine sm_bald 7 10 [.ref 21, .int x1, .int x2] [] (am_hp sw s) (i := ((x1 * 8) + x2)) (c := 25) (fun _ => rfl) rfl rfl rfl rfl ?_
  refine sm_gu (fun h9 => ?_)
  exact sm_ret 0 11 [.ref 21, .int x1, .int x2] [.int (s.1 25 (Int32.toNatClampNeg ((x1 * 8) + x2)))] (am_hp sw s) (some (.int (s.1 25 (Int32.toNatClampNeg ((x1 * 8) + x2))))) (fun _ => rfl) (am_rtb h9) (fun _ _ h => h)

def f_X2_makeOwner (s : am_S) (x1 : Int32) (x2 : Int32) : Option (Unit × am_S) := am_gu (am_in ((x1 * 8) + x2) 64) (some ((), (am_wI s 25 (Int32.toNatClampNeg ((x1 * 8) + x2)) (am_nar 3 (1)))))
set_option maxRecDepth 20000 in
theorem r_X2_makeOwner (d : Nat) (sw : Bool) (s s' : am_S) (x1 : Int32) (x2 : Int32) (v : Unit) (e : f_X2_makeOwner s x1 x2 = some (v, s')) : am_Run (d + 1) 22 [.ref 21, .int x1, .int x2] (am_hp sw s) (am_cU v) (am_hp sw s') := by
  refine am_Run.of (M := mt_X2_makeOwner) (cvf := am_cU) (X := f_X2_makeOwner s x1 x2) rfl rfl rfl (by simp) ?_ e
  unfold f_X2_makeOwner
  show am_Sm tb_X2_makeOwner 2 false none none (d + 0) (am_po am_cU sw) _ 0 [.ref 21, .int x1, .int x2] [] (am_hp sw s)
  refine sm_bast 8 11 [.ref 21, .int x1, .int x2] [] sw s (i := ((x1 * 8) + x2)) (x := (1)) (c := 25) (fun _ => rfl) rfl rfl rfl rfl ?_
  exact sm_ret 0 12 [.ref 21, .int x1, .int x2] [] (am_hp sw (am_wI s 25 (Int32.toNatClampNeg ((x1 * 8) + x2)) (am_nar 3 (1)))) none (fun _ => rfl) rfl (fun _ _ h => h)

def f_X2_addLending (s : am_S) (x1 : Int32) (x2 : Int32) (x3 : Int32) (x4 : Int32) : Option (Int32 × am_S) := if (s.1 21 6) < 100 then (am_gu (am_in ((x1 * 8) + x2) 64) (am_gu (am_in ((x1 * 8) + x2) 64) (some ((1), (am_wL (am_wI s 21 6 ((s.1 21 6) + 1)) 26 (Int32.toNatClampNeg ((x1 * 8) + x2)) ((s.2 26 (Int32.toNatClampNeg ((x1 * 8) + x2))) ||| (((lN 1) <<< (Int32.toInt64 x4 &&& 63)) - ((lN 1) <<< (Int32.toInt64 x3 &&& 63))))))))) else (some ((0), s))
set_option maxRecDepth 20000 in
theorem r_X2_addLending (d : Nat) (sw : Bool) (s s' : am_S) (x1 : Int32) (x2 : Int32) (x3 : Int32) (x4 : Int32) (v : Int32) (e : f_X2_addLending s x1 x2 x3 x4 = some (v, s')) : am_Run (d + 1) 23 [.ref 21, .int x1, .int x2, .int x3, .int x4] (am_hp sw s) (am_cI v) (am_hp sw s') := by
  refine am_Run.of (M := mt_X2_addLending) (cvf := am_cI) (X := f_X2_addLending s x1 x2 x3 x4) rfl rfl rfl (by simp) ?_ e
  unfold f_X2_addLending
  show am_Sm tb_X2_addLending 2 false none (some .boolean) (d + 0) (am_po am_cI sw) _ 0 [.ref 21, .int x1, .int x2, .int x3, .int x4] [] (am_hp sw s)
  refine sm_br 4 11 9 [.ref 21, .int x1, .int x2, .int x3, .int x4] [] (am_hp sw s) (fun _ => rfl) (fun _ => ?_) (fun _ => ?_)
  · refine sm_lald 14 32 [.ref 21, .int x1, .int x2, .int x3, .int x4] [.int ((x1 * 8) + x2), .ref 26] (am_hp sw (am_wI s 21 6 ((s.1 21 6) + 1))) (i := ((x1 * 8) + x2)) (c := 26) (fun _ => rfl) rfl rfl rfl ?_
    refine sm_last 8 42 [.ref 21, .int x1, .int x2, .int x3, .int x4] [] sw (am_wI s 21 6 ((s.1 21 6) + 1)) (i := ((x1 * 8) + x2)) (x := ((s.2 26 (Int32.toNatClampNeg ((x1 * 8) + x2))) ||| (((lN 1) <<< (Int32.toInt64 x4 &&& 63)) - ((lN 1) <<< (Int32.toInt64 x3 &&& 63))))) (c := 26) (fun _ => rfl) rfl rfl rfl ?_
    exact sm_ret 1 44 [.ref 21, .int x1, .int x2, .int x3, .int x4] [.int (1)] (am_hp sw (am_wL (am_wI s 21 6 ((s.1 21 6) + 1)) 26 (Int32.toNatClampNeg ((x1 * 8) + x2)) ((s.2 26 (Int32.toNatClampNeg ((x1 * 8) + x2))) ||| (((lN 1) <<< (Int32.toInt64 x4 &&& 63)) - ((lN 1) <<< (Int32.toInt64 x3 &&& 63)))))) (some (.int (1))) (fun _ => rfl) rfl (fun _ _ h => h)
  · exact sm_ret 1 10 [.ref 21, .int x1, .int x2, .int x3, .int x4] [.int (0)] (am_hp sw s) (some (.int (0))) (fun _ => rfl) rfl (fun _ _ h => h)

def f_X2_mayCarve (s : am_S) (x1 : Int32) (x2 : Int32) (x3 : Int32) : Option (Int32 × am_S) := am_gu (am_in ((x1 * 8) + x2) 64) (if (s.1 25 (Int32.toNatClampNeg ((x1 * 8) + x2))) = 0 then (am_gu (am_in ((x1 * 8) + x2) 64) (if (lg_cmp (((Int64.toUInt64 (s.2 26 (Int32.toNatClampNeg ((x1 * 8) + x2))) >>> ((Int32.toInt64 x3).toUInt64 &&& Int64.toUInt64 63)).toInt64) &&& (lN 1)) (lN 0)) = 0 then (some ((0), s)) else (some ((1), s)))) else (some ((1), s)))
set_option maxRecDepth 20000 in
theorem r_X2_mayCarve (d : Nat) (sw : Bool) (s s' : am_S) (x1 : Int32) (x2 : Int32) (x3 : Int32) (v : Int32) (e : f_X2_mayCarve s x1 x2 x3 = some (v, s')) : am_Run (d + 1) 24 [.ref 21, .int x1, .int x2, .int x3] (am_hp sw s) (am_cI v) (am_hp sw s') := by
  refine am_Run.of (M := mt_X2_mayCarve) (cvf := am_cI) (X := f_X2_mayCarve s x1 x2 x3) rfl rfl rfl (by simp) ?_ e
  unfold f_X2_mayCarve
  show am_Sm tb_X2_mayCarve 2 false none (some .boolean) (d + 0) (am_po am_cI sw) _ 0 [.ref 21, .int x1, .int x2, .int x3, .null] [] (am_hp sw s)
  refine sm_bald 9 14 [.ref 21, .int x1, .int x2, .int x3, .int ((x1 * 8) + x2)] [] (am_hp sw s) (i := ((x1 * 8) + x2)) (c := 25) (fun _ => rfl) rfl rfl rfl rfl ?_
  refine sm_br 1 18 34 [.ref 21, .int x1, .int x2, .int x3, .int ((x1 * 8) + x2)] [] (am_hp sw s) (fun _ => rfl) (fun _ => ?_) (fun _ => ?_)
  · refine sm_lald 3 24 [.ref 21, .int x1, .int x2, .int x3, .int ((x1 * 8) + x2)] [] (am_hp sw s) (i := ((x1 * 8) + x2)) (c := 26) (fun _ => rfl) rfl rfl rfl ?_
    refine sm_br 7 38 34 [.ref 21, .int x1, .int x2, .int x3, .int ((x1 * 8) + x2)] [] (am_hp sw s) (fun _ => rfl) (fun _ => ?_) (fun _ => ?_)
    · exact sm_ret 1 39 [.ref 21, .int x1, .int x2, .int x3, .int ((x1 * 8) + x2)] [.int (0)] (am_hp sw s) (some (.int (0))) (fun _ => rfl) rfl (fun _ _ h => h)
    · exact sm_ret 2 39 [.ref 21, .int x1, .int x2, .int x3, .int ((x1 * 8) + x2)] [.int (1)] (am_hp sw s) (some (.int (1))) (fun _ => rfl) rfl (fun _ _ h => h)
  · exact sm_ret 2 39 [.ref 21, .int x1, .int x2, .int x3, .int ((x1 * 8) + x2)] [.int (1)] (am_hp sw s) (some (.int (1))) (fun _ => rfl) rfl (fun _ _ h => h)

def f_X2_carvable_L15 : Nat → Int32 → Int32 → Int32 → Int32 → am_S → Option ((Int32 × am_S) ⊕ ((Int32) × am_S))
  | 0, _, _, _, _, _ => none
  | n + 1, x1, x2, x3, x4, s => if x4 < 8 then (am_bd (f_X2_mayCarve s x3 x4 x1) (fun v27 s27 => am_jn (fun (p40 : Int32 × am_S) => f_X2_carvable_L15 n x1 p40.1 x3 (x4 + 1) p40.2) (fun j40 => if v27 = 0 then (j40 (x2, s27)) else (j40 ((x2 ||| (1 <<< (x4 &&& 31))), s27))))) else (some (.inr (x2, s)))
def f_X2_carvable_L4 : Nat → Int32 → Int32 → Int32 → am_S → Option ((Int32 × am_S) ⊕ ((Int32) × am_S))
  | 0, _, _, _, _ => none
  | n + 1, x1, x2, x3, s => if x3 < (s.1 21 0) then (am_lp Sum.inl (f_X2_carvable_L15 am_FU x1 x2 x3 (0) s) (fun y15 s15 => f_X2_carvable_L4 n x1 y15 (x3 + 1) s15)) else (some (.inr (x2, s)))
def f_X2_carvable (s : am_S) (x1 : Int32) : Option (Int32 × am_S) := am_lp (fun y => y) (f_X2_carvable_L4 am_FU x1 (0) (0) s) (fun y4 s4 => some (y4, s4))
set_option maxRecDepth 20000 in
theorem l_X2_carvable_15 (d : Nat) (sw : Bool) : ∀ (n : Nat) (x1 : Int32) (x2 : Int32) (x3 : Int32) (x4 : Int32) (s : am_S), am_Sm tb_X2_carvable 2 false none (some .int) (d + 1) (am_pl am_cI sw (fun (v9 : Int32) s9 r h9 => am_Ex tb_X2_carvable 2 false none (some .int) (d + 1) r h9 46 [.ref 21, .int x1, .int v9, .int x3, .null] [] (am_hp sw s9))) (f_X2_carvable_L15 n x1 x2 x3 x4 s) 15 [.ref 21, .int x1, .int x2, .int x3, .int x4] [] (am_hp sw s) := by
  intro n
  induction n with
  | zero => intro x1 x2 x3 x4 s; exact sm_no
  | succ n ih =>
    intro x1 x2 x3 x4 s
    rw [f_X2_carvable_L15]
    refine sm_br 3 22 46 [.ref 21, .int x1, .int x2, .int x3, .int x4] [] (am_hp sw s) (fun _ => rfl) (fun _ => ?_) (fun _ => ?_)
    · refine sm_call (cvf := am_cI) 4 27 [.ref 21, .int x1, .int x2, .int x3, .int x4] [.int x1, .int x4, .int x3, .ref 21] sw s 24 [.ref 21, .int x3, .int x4, .int x1] [] (fun _ => rfl) rfl (fun _ _ e9 => r_X2_mayCarve (d + 0) sw _ _ _ _ _ _ e9) am_pl20 (fun v27 s27 => ?_)
      refine sm_jn 40 (fun p40 => [.ref 21, .int x1, .int p40.1, .int x3, .int x4]) (fun p40 => []) (fun p40 => (am_hp sw p40.2)) (fun p40 => ?_) (fun j40 hj40 => ?_)
      · refine sm_go 2 15 [.ref 21, .int x1, .int p40.1, .int x3, .int (x4 + 1)] [] (am_hp sw p40.2) (fun _ => rfl) ?_
        exact ih x1 p40.1 x3 (x4 + 1) p40.2
      refine sm_br 1 40 33 [.ref 21, .int x1, .int x2, .int x3, .int x4] [] (am_hp sw s27) (fun _ => rfl) (fun _ => ?_) (fun _ => ?_)
      · exact hj40 (x2, s27)
      · refine sm_go 6 40 [.ref 21, .int x1, .int (x2 ||| (1 <<< (x4 &&& 31))), .int x3, .int x4] [] (am_hp sw s27) (fun _ => rfl) ?_
        exact hj40 ((x2 ||| (1 <<< (x4 &&& 31))), s27)
    · refine sm_fg [.ref 21, .int x1, .int x2, .int x3, .null] ⟨Or.inr rfl, Or.inr rfl, Or.inr rfl, Or.inr rfl, Or.inl rfl, trivial⟩ ?_
      exact sm_ex (fun _ _ h => h.2)

set_option maxRecDepth 20000 in
theorem l_X2_carvable_4 (d : Nat) (sw : Bool) : ∀ (n : Nat) (x1 : Int32) (x2 : Int32) (x3 : Int32) (s : am_S), am_Sm tb_X2_carvable 2 false none (some .int) (d + 1) (am_pl am_cI sw (fun (v9 : Int32) s9 r h9 => am_Ex tb_X2_carvable 2 false none (some .int) (d + 1) r h9 52 [.null, .null, .int v9, .null, .null] [] (am_hp sw s9))) (f_X2_carvable_L4 n x1 x2 x3 s) 4 [.ref 21, .int x1, .int x2, .int x3, .null] [] (am_hp sw s) := by
  intro n
  induction n with
  | zero => intro x1 x2 x3 s; exact sm_no
  | succ n ih =>
    intro x1 x2 x3 s
    rw [f_X2_carvable_L4]
    refine sm_br 4 12 52 [.ref 21, .int x1, .int x2, .int x3, .null] [] (am_hp sw s) (fun _ => rfl) (fun _ => ?_) (fun _ => ?_)
    · refine sm_go 2 15 [.ref 21, .int x1, .int x2, .int x3, .int (0)] [] (am_hp sw s) (fun _ => rfl) ?_
      refine sm_lp 46 (fun y15 => [.ref 21, .int x1, .int y15, .int x3, .null]) (l_X2_carvable_15 d sw am_FU x1 x2 x3 (0) s) (fun _ _ _ h => h) am_pl20 (fun y15 s15 => ?_)
      refine sm_go 2 4 [.ref 21, .int x1, .int y15, .int (x3 + 1), .null] [] (am_hp sw s15) (fun _ => rfl) ?_
      exact ih x1 y15 (x3 + 1) s15
    · refine sm_fg [.null, .null, .int x2, .null, .null] ⟨Or.inl rfl, Or.inl rfl, Or.inr rfl, Or.inl rfl, Or.inl rfl, trivial⟩ ?_
      exact sm_ex (fun _ _ h => h.2)

set_option maxRecDepth 20000 in
theorem r_X2_carvable (d : Nat) (sw : Bool) (s s' : am_S) (x1 : Int32) (v : Int32) (e : f_X2_carvable s x1 = some (v, s')) : am_Run (d + 2) 25 [.ref 21, .int x1] (am_hp sw s) (am_cI v) (am_hp sw s') := by
  refine am_Run.of (M := mt_X2_carvable) (cvf := am_cI) (X := f_X2_carvable s x1) rfl rfl rfl (by simp) ?_ e
  unfold f_X2_carvable
  show am_Sm tb_X2_carvable 2 false none (some .int) (d + 1) (am_po am_cI sw) _ 0 [.ref 21, .int x1, .null, .null, .null] [] (am_hp sw s)
  refine sm_go 4 4 [.ref 21, .int x1, .int (0), .int (0), .null] [] (am_hp sw s) (fun _ => rfl) ?_
  refine sm_lp 52 (fun y4 => [.null, .null, .int y4, .null, .null]) (l_X2_carvable_4 d sw am_FU x1 (0) (0) s) (fun _ _ _ h => h) am_po20 (fun y4 s4 => ?_)
  exact sm_ret 1 53 [.null, .null, .int y4, .null, .null] [.int y4] (am_hp sw s4) (some (.int y4)) (fun _ => rfl) rfl (fun _ _ h => h)

def f_X2_carvedIn (s : am_S) (x1 : Int32) (x2 : Int32) : Option (Int32 × am_S) := am_gu (am_in ((x1 * 40) + x2) 320) (some ((s.1 27 (Int32.toNatClampNeg ((x1 * 40) + x2))), s))
set_option maxRecDepth 20000 in
theorem r_X2_carvedIn (d : Nat) (sw : Bool) (s s' : am_S) (x1 : Int32) (x2 : Int32) (v : Int32) (e : f_X2_carvedIn s x1 x2 = some (v, s')) : am_Run (d + 1) 26 [.ref 21, .int x1, .int x2] (am_hp sw s) (am_cI v) (am_hp sw s') := by
  refine am_Run.of (M := mt_X2_carvedIn) (cvf := am_cI) (X := f_X2_carvedIn s x1 x2) rfl rfl rfl (by simp) ?_ e
  unfold f_X2_carvedIn
  show am_Sm tb_X2_carvedIn 2 false none (some .int) (d + 0) (am_po am_cI sw) _ 0 [.ref 21, .int x1, .int x2] [] (am_hp sw s)
  refine sm_iald 7 10 [.ref 21, .int x1, .int x2] [] (am_hp sw s) (i := ((x1 * 40) + x2)) (c := 27) (fun _ => rfl) rfl rfl rfl rfl ?_
  exact sm_ret 0 11 [.ref 21, .int x1, .int x2] [.int (s.1 27 (Int32.toNatClampNeg ((x1 * 40) + x2)))] (am_hp sw s) (some (.int (s.1 27 (Int32.toNatClampNeg ((x1 * 40) + x2))))) (fun _ => rfl) rfl (fun _ _ h => h)

def f_X2_addCarved (s : am_S) (x1 : Int32) (x2 : Int32) (x3 : Int32) : Option (Unit × am_S) := am_gu (am_in ((x1 * 40) + x2) 320) (am_gu (am_in ((x1 * 40) + x2) 320) (some ((), (am_wI s 27 (Int32.toNatClampNeg ((x1 * 40) + x2)) ((s.1 27 (Int32.toNatClampNeg ((x1 * 40) + x2))) + x3)))))
set_option maxRecDepth 20000 in
theorem r_X2_addCarved (d : Nat) (sw : Bool) (s s' : am_S) (x1 : Int32) (x2 : Int32) (x3 : Int32) (v : Unit) (e : f_X2_addCarved s x1 x2 x3 = some (v, s')) : am_Run (d + 1) 27 [.ref 21, .int x1, .int x2, .int x3] (am_hp sw s) (am_cU v) (am_hp sw s') := by
  refine am_Run.of (M := mt_X2_addCarved) (cvf := am_cU) (X := f_X2_addCarved s x1 x2 x3) rfl rfl rfl (by simp) ?_ e
  unfold f_X2_addCarved
  show am_Sm tb_X2_addCarved 2 false none none (d + 0) (am_po am_cU sw) _ 0 [.ref 21, .int x1, .int x2, .int x3] [] (am_hp sw s)
  refine sm_iald 8 11 [.ref 21, .int x1, .int x2, .int x3] [.int ((x1 * 40) + x2), .ref 27] (am_hp sw s) (i := ((x1 * 40) + x2)) (c := 27) (fun _ => rfl) rfl rfl rfl rfl ?_
  refine sm_iast 2 14 [.ref 21, .int x1, .int x2, .int x3] [] sw s (i := ((x1 * 40) + x2)) (x := ((s.1 27 (Int32.toNatClampNeg ((x1 * 40) + x2))) + x3)) (c := 27) (fun _ => rfl) rfl rfl rfl ?_
  exact sm_ret 0 15 [.ref 21, .int x1, .int x2, .int x3] [] (am_hp sw (am_wI s 27 (Int32.toNatClampNeg ((x1 * 40) + x2)) ((s.1 27 (Int32.toNatClampNeg ((x1 * 40) + x2))) + x3))) none (fun _ => rfl) rfl (fun _ _ h => h)

def f_X3_has (s : am_S) (x1 : Int32) : Option (Int32 × am_S) := if x1 < 0 then (some ((0), s)) else (if x1 < (s.1 39 1) then (some ((1), s)) else (some ((0), s)))
set_option maxRecDepth 20000 in
theorem r_X3_has (d : Nat) (sw : Bool) (s s' : am_S) (x1 : Int32) (v : Int32) (e : f_X3_has s x1 = some (v, s')) : am_Run (d + 1) 29 [.ref 39, .int x1] (am_hp sw s) (am_cI v) (am_hp sw s') := by
  refine am_Run.of (M := mt_X3_has) (cvf := am_cI) (X := f_X3_has s x1) rfl rfl rfl (by simp) ?_ e
  unfold f_X3_has
  show am_Sm tb_X3_has 3 false none (some .boolean) (d + 0) (am_po am_cI sw) _ 0 [.ref 39, .int x1] [] (am_hp sw s)
  refine sm_br 2 16 4 [.ref 39, .int x1] [] (am_hp sw s) (fun _ => rfl) (fun _ => ?_) (fun _ => ?_)
  · exact sm_ret 1 17 [.ref 39, .int x1] [.int (0)] (am_hp sw s) (some (.int (0))) (fun _ => rfl) rfl (fun _ _ h => h)
  · refine sm_br 4 12 16 [.ref 39, .int x1] [] (am_hp sw s) (fun _ => rfl) (fun _ => ?_) (fun _ => ?_)
    · exact sm_ret 2 17 [.ref 39, .int x1] [.int (1)] (am_hp sw s) (some (.int (1))) (fun _ => rfl) rfl (fun _ _ h => h)
    · exact sm_ret 1 17 [.ref 39, .int x1] [.int (0)] (am_hp sw s) (some (.int (0))) (fun _ => rfl) rfl (fun _ _ h => h)

def f_X3_add (s : am_S) (x1 : Int32) (x2 : Int32) : Option (Unit × am_S) := if (s.1 39 1) < 400 then (am_gu (am_in (s.1 39 1) 400) (am_gu (am_in (s.1 39 1) 400) (am_gu (am_in (s.1 39 1) 400) (am_gu (am_in (s.1 39 1) 400) (am_gu (am_in (s.1 39 1) 400) (some ((), (am_wI (am_wI (am_wI (am_wI (am_wI (am_wI s 40 (Int32.toNatClampNeg (s.1 39 1)) x1) 41 (Int32.toNatClampNeg (s.1 39 1)) x2) 42 (Int32.toNatClampNeg (s.1 39 1)) (-1)) 43 (Int32.toNatClampNeg (s.1 39 1)) (-1)) 44 (Int32.toNatClampNeg (s.1 39 1)) (0)) 39 1 ((s.1 39 1) + 1))))))))) else (some ((), s))
set_option maxRecDepth 20000 in
theorem r_X3_add (d : Nat) (sw : Bool) (s s' : am_S) (x1 : Int32) (x2 : Int32) (v : Unit) (e : f_X3_add s x1 x2 = some (v, s')) : am_Run (d + 1) 30 [.ref 39, .int x1, .int x2] (am_hp sw s) (am_cU v) (am_hp sw s') := by
  refine am_Run.of (M := mt_X3_add) (cvf := am_cU) (X := f_X3_add s x1 x2) rfl rfl rfl (by simp) ?_ e
  unfold f_X3_add
  show am_Sm tb_X3_add 3 false none none (d + 0) (am_po am_cU sw) _ 0 [.ref 39, .int x1, .int x2] [] (am_hp sw s)
  refine sm_br 4 10 70 [.ref 39, .int x1, .int x2] [] (am_hp sw s) (fun _ => rfl) (fun _ => ?_) (fun _ => ?_)
  · refine sm_iast 5 19 [.ref 39, .int x1, .int x2] [] sw s (i := (s.1 39 1)) (x := x1) (c := 40) (fun _ => rfl) rfl rfl rfl ?_
    refine sm_iast 5 29 [.ref 39, .int x1, .int x2] [] sw (am_wI s 40 (Int32.toNatClampNeg (s.1 39 1)) x1) (i := (s.1 39 1)) (x := x2) (c := 41) (fun _ => rfl) rfl rfl rfl ?_
    refine sm_iast 5 39 [.ref 39, .int x1, .int x2] [] sw (am_wI (am_wI s 40 (Int32.toNatClampNeg (s.1 39 1)) x1) 41 (Int32.toNatClampNeg (s.1 39 1)) x2) (i := (s.1 39 1)) (x := (-1)) (c := 42) (fun _ => rfl) rfl rfl rfl ?_
    refine sm_iast 5 49 [.ref 39, .int x1, .int x2] [] sw (am_wI (am_wI (am_wI s 40 (Int32.toNatClampNeg (s.1 39 1)) x1) 41 (Int32.toNatClampNeg (s.1 39 1)) x2) 42 (Int32.toNatClampNeg (s.1 39 1)) (-1)) (i := (s.1 39 1)) (x := (-1)) (c := 43) (fun _ => rfl) rfl rfl rfl ?_
    refine sm_iast 5 59 [.ref 39, .int x1, .int x2] [] sw (am_wI (am_wI (am_wI (am_wI s 40 (Int32.toNatClampNeg (s.1 39 1)) x1) 41 (Int32.toNatClampNeg (s.1 39 1)) x2) 42 (Int32.toNatClampNeg (s.1 39 1)) (-1)) 43 (Int32.toNatClampNeg (s.1 39 1)) (-1)) (i := (s.1 39 1)) (x := (0)) (c := 44) (fun _ => rfl) rfl rfl rfl ?_
    exact sm_ret 6 70 [.ref 39, .int x1, .int x2] [] (am_hp sw (am_wI (am_wI (am_wI (am_wI (am_wI (am_wI s 40 (Int32.toNatClampNeg (s.1 39 1)) x1) 41 (Int32.toNatClampNeg (s.1 39 1)) x2) 42 (Int32.toNatClampNeg (s.1 39 1)) (-1)) 43 (Int32.toNatClampNeg (s.1 39 1)) (-1)) 44 (Int32.toNatClampNeg (s.1 39 1)) (0)) 39 1 ((s.1 39 1) + 1))) none (fun _ => rfl) rfl (fun _ _ h => h)
  · exact sm_ret 0 70 [.ref 39, .int x1, .int x2] [] (am_hp sw s) none (fun _ => rfl) rfl (fun _ _ h => h)

def f_X3_familyOf (s : am_S) (x1 : Int32) : Option (Int32 × am_S) := am_gu (am_in x1 400) (am_gu (am_in (s.1 40 (Int32.toNatClampNeg x1)) 200) (some ((s.1 37 (Int32.toNatClampNeg (s.1 40 (Int32.toNatClampNeg x1)))), s)))
set_option maxRecDepth 20000 in
theorem r_X3_familyOf (d : Nat) (sw : Bool) (s s' : am_S) (x1 : Int32) (v : Int32) (e : f_X3_familyOf s x1 = some (v, s')) : am_Run (d + 1) 32 [.ref 39, .int x1] (am_hp sw s) (am_cI v) (am_hp sw s') := by
  refine am_Run.of (M := mt_X3_familyOf) (cvf := am_cI) (X := f_X3_familyOf s x1) rfl rfl rfl (by simp) ?_ e
  unfold f_X3_familyOf
  show am_Sm tb_X3_familyOf 3 false none (some .int) (d + 0) (am_po am_cI sw) _ 0 [.ref 39, .int x1] [] (am_hp sw s)
  refine sm_iald 6 12 [.ref 39, .int x1] [.ref 37] (am_hp sw s) (i := x1) (c := 40) (fun _ => rfl) rfl rfl rfl rfl ?_
  refine sm_iald 0 13 [.ref 39, .int x1] [] (am_hp sw s) (i := (s.1 40 (Int32.toNatClampNeg x1))) (c := 37) (fun _ => rfl) rfl rfl rfl rfl ?_
  exact sm_ret 0 14 [.ref 39, .int x1] [.int (s.1 37 (Int32.toNatClampNeg (s.1 40 (Int32.toNatClampNeg x1))))] (am_hp sw s) (some (.int (s.1 37 (Int32.toNatClampNeg (s.1 40 (Int32.toNatClampNeg x1)))))) (fun _ => rfl) rfl (fun _ _ h => h)

def f_X3_boxed_L4 : Nat → Int32 → Int32 → am_S → Option ((Int32 × am_S) ⊕ ((Int32) × am_S))
  | 0, _, _, _ => none
  | n + 1, x1, x2, s => if x2 < (s.1 39 1) then (am_gu (am_in x2 400) (am_jn (fun (p25 : Int32 × am_S) => f_X3_boxed_L4 n p25.1 (x2 + 1) p25.2) (fun j25 => if (s.1 43 (Int32.toNatClampNeg x2)) = (-1) then (j25 (x1, s)) else (j25 ((x1 + 1), s))))) else (some (.inr (x1, s)))
def f_X3_boxed (s : am_S) : Option (Int32 × am_S) := am_lp (fun y => y) (f_X3_boxed_L4 am_FU (0) (0) s) (fun y4 s4 => some (y4, s4))
set_option maxRecDepth 20000 in
theorem l_X3_boxed_4 (d : Nat) (sw : Bool) : ∀ (n : Nat) (x1 : Int32) (x2 : Int32) (s : am_S), am_Sm tb_X3_boxed 3 false none (some .int) (d + 0) (am_pl am_cI sw (fun (v9 : Int32) s9 r h9 => am_Ex tb_X3_boxed 3 false none (some .int) (d + 0) r h9 31 [.null, .int v9, .null] [] (am_hp sw s9))) (f_X3_boxed_L4 n x1 x2 s) 4 [.ref 39, .int x1, .int x2] [] (am_hp sw s) := by
  intro n
  induction n with
  | zero => intro x1 x2 s; exact sm_no
  | succ n ih =>
    intro x1 x2 s
    rw [f_X3_boxed_L4]
    refine sm_br 4 12 31 [.ref 39, .int x1, .int x2] [] (am_hp sw s) (fun _ => rfl) (fun _ => ?_) (fun _ => ?_)
    · refine sm_iald 3 17 [.ref 39, .int x1, .int x2] [] (am_hp sw s) (i := x2) (c := 43) (fun _ => rfl) rfl rfl rfl rfl ?_
      refine sm_go 1 19 [.ref 39, .int x1, .int x2] [.int (-1), .int (s.1 43 (Int32.toNatClampNeg x2))] (am_hp sw s) (fun _ => rfl) ?_
      refine sm_jn 25 (fun p25 => [.ref 39, .int p25.1, .int x2]) (fun p25 => []) (fun p25 => (am_hp sw p25.2)) (fun p25 => ?_) (fun j25 hj25 => ?_)
      · refine sm_go 2 4 [.ref 39, .int p25.1, .int (x2 + 1)] [] (am_hp sw p25.2) (fun _ => rfl) ?_
        exact ih p25.1 (x2 + 1) p25.2
      refine sm_br 1 25 22 [.ref 39, .int x1, .int x2] [] (am_hp sw s) (fun _ => rfl) (fun _ => ?_) (fun _ => ?_)
      · exact hj25 (x1, s)
      · refine sm_go 1 25 [.ref 39, .int (x1 + 1), .int x2] [] (am_hp sw s) (fun _ => rfl) ?_
        exact hj25 ((x1 + 1), s)
    · refine sm_fg [.null, .int x1, .null] ⟨Or.inl rfl, Or.inr rfl, Or.inl rfl, trivial⟩ ?_
      exact sm_ex (fun _ _ h => h.2)

set_option maxRecDepth 20000 in
theorem r_X3_boxed (d : Nat) (sw : Bool) (s s' : am_S) (v : Int32) (e : f_X3_boxed s = some (v, s')) : am_Run (d + 1) 35 [.ref 39] (am_hp sw s) (am_cI v) (am_hp sw s') := by
  refine am_Run.of (M := mt_X3_boxed) (cvf := am_cI) (X := f_X3_boxed s) rfl rfl rfl (by simp) ?_ e
  unfold f_X3_boxed
  show am_Sm tb_X3_boxed 3 false none (some .int) (d + 0) (am_po am_cI sw) _ 0 [.ref 39, .null, .null] [] (am_hp sw s)
  refine sm_go 4 4 [.ref 39, .int (0), .int (0)] [] (am_hp sw s) (fun _ => rfl) ?_
  refine sm_lp 31 (fun y4 => [.null, .int y4, .null]) (l_X3_boxed_4 d sw am_FU (0) (0) s) (fun _ _ _ h => h) am_po20 (fun y4 s4 => ?_)
  exact sm_ret 1 32 [.null, .int y4, .null] [.int y4] (am_hp sw s4) (some (.int y4)) (fun _ => rfl) rfl (fun _ _ h => h)

def f_X3_hasLot (s : am_S) (x1 : Int32) : Option (Int32 × am_S) := if x1 < 0 then (some ((0), s)) else (if x1 < (s.1 39 7) then (some ((1), s)) else (some ((0), s)))
set_option maxRecDepth 20000 in
theorem r_X3_hasLot (d : Nat) (sw : Bool) (s s' : am_S) (x1 : Int32) (v : Int32) (e : f_X3_hasLot s x1 = some (v, s')) : am_Run (d + 1) 36 [.ref 39, .int x1] (am_hp sw s) (am_cI v) (am_hp sw s') := by
  refine am_Run.of (M := mt_X3_hasLot) (cvf := am_cI) (X := f_X3_hasLot s x1) rfl rfl rfl (by simp) ?_ e
  unfold f_X3_hasLot
  show am_Sm tb_X3_hasLot 3 false none (some .boolean) (d + 0) (am_po am_cI sw) _ 0 [.ref 39, .int x1] [] (am_hp sw s)
  refine sm_br 2 16 4 [.ref 39, .int x1] [] (am_hp sw s) (fun _ => rfl) (fun _ => ?_) (fun _ => ?_)
  · exact sm_ret 1 17 [.ref 39, .int x1] [.int (0)] (am_hp sw s) (some (.int (0))) (fun _ => rfl) rfl (fun _ _ h => h)
  · refine sm_br 4 12 16 [.ref 39, .int x1] [] (am_hp sw s) (fun _ => rfl) (fun _ => ?_) (fun _ => ?_)
    · exact sm_ret 2 17 [.ref 39, .int x1] [.int (1)] (am_hp sw s) (some (.int (1))) (fun _ => rfl) rfl (fun _ _ h => h)
    · exact sm_ret 1 17 [.ref 39, .int x1] [.int (0)] (am_hp sw s) (some (.int (0))) (fun _ => rfl) rfl (fun _ _ h => h)

def f_X3_addLot (s : am_S) (x1 : Int32) : Option (Int32 × am_S) := if (s.1 39 7) < 20 then (am_gu (am_in (s.1 39 7) 20) (some ((((s.1 39 7) + 1) - 1), (am_wI (am_wI s 45 (Int32.toNatClampNeg (s.1 39 7)) x1) 39 7 ((s.1 39 7) + 1))))) else (some ((-1), s))
set_option maxRecDepth 20000 in
theorem r_X3_addLot (d : Nat) (sw : Bool) (s s' : am_S) (x1 : Int32) (v : Int32) (e : f_X3_addLot s x1 = some (v, s')) : am_Run (d + 1) 37 [.ref 39, .int x1] (am_hp sw s) (am_cI v) (am_hp sw s') := by
  refine am_Run.of (M := mt_X3_addLot) (cvf := am_cI) (X := f_X3_addLot s x1) rfl rfl rfl (by simp) ?_ e
  unfold f_X3_addLot
  show am_Sm tb_X3_addLot 3 false none (some .int) (d + 0) (am_po am_cI sw) _ 0 [.ref 39, .int x1] [] (am_hp sw s)
  refine sm_br 4 11 9 [.ref 39, .int x1] [] (am_hp sw s) (fun _ => rfl) (fun _ => ?_) (fun _ => ?_)
  · refine sm_iast 5 20 [.ref 39, .int x1] [] sw s (i := (s.1 39 7)) (x := x1) (c := 45) (fun _ => rfl) rfl rfl rfl ?_
    exact sm_ret 10 37 [.ref 39, .int x1] [.int (((s.1 39 7) + 1) - 1)] (am_hp sw (am_wI (am_wI s 45 (Int32.toNatClampNeg (s.1 39 7)) x1) 39 7 ((s.1 39 7) + 1))) (some (.int (((s.1 39 7) + 1) - 1))) (fun _ => rfl) rfl (fun _ _ h => h)
  · exact sm_ret 1 10 [.ref 39, .int x1] [.int (-1)] (am_hp sw s) (some (.int (-1))) (fun _ => rfl) rfl (fun _ _ h => h)

def f_X3_isLotInBoxOf_L2 : Nat → Int32 → Int32 → Int32 → am_S → Option ((Int32 × am_S) ⊕ ((Unit) × am_S))
  | 0, _, _, _, _ => none
  | n + 1, x1, x2, x3, s => if x3 < (s.1 39 1) then (am_gu (am_in x3 400) (am_jn (fun (p32 : am_S) => f_X3_isLotInBoxOf_L2 n x1 x2 (x3 + 1) p32) (fun j32 => if (s.1 42 (Int32.toNatClampNeg x3)) = x1 then (am_gu (am_in x3 400) (if (s.1 43 (Int32.toNatClampNeg x3)) = x2 then (some (.inl ((1), s))) else (j32 s))) else (j32 s)))) else (some (.inr ((), s)))
def f_X3_isLotInBoxOf (s : am_S) (x1 : Int32) (x2 : Int32) : Option (Int32 × am_S) := am_lp (fun y => y) (f_X3_isLotInBoxOf_L2 am_FU x1 x2 (0) s) (fun (_ : Unit) s2 => some ((0), s2))
set_option maxRecDepth 20000 in
theorem l_X3_isLotInBoxOf_2 (d : Nat) (sw : Bool) : ∀ (n : Nat) (x1 : Int32) (x2 : Int32) (x3 : Int32) (s : am_S), am_Sm tb_X3_isLotInBoxOf 3 false none (some .boolean) (d + 0) (am_pl am_cI sw (fun (v9 : Unit) s9 r h9 => am_Ex tb_X3_isLotInBoxOf 3 false none (some .boolean) (d + 0) r h9 38 [.null, .null, .null, .null] [] (am_hp sw s9))) (f_X3_isLotInBoxOf_L2 n x1 x2 x3 s) 2 [.ref 39, .int x1, .int x2, .int x3] [] (am_hp sw s) := by
  intro n
  induction n with
  | zero => intro x1 x2 x3 s; exact sm_no
  | succ n ih =>
    intro x1 x2 x3 s
    rw [f_X3_isLotInBoxOf_L2]
    refine sm_br 4 10 38 [.ref 39, .int x1, .int x2, .int x3] [] (am_hp sw s) (fun _ => rfl) (fun _ => ?_) (fun _ => ?_)
    · refine sm_iald 3 15 [.ref 39, .int x1, .int x2, .int x3] [] (am_hp sw s) (i := x3) (c := 42) (fun _ => rfl) rfl rfl rfl rfl ?_
      refine sm_go 1 17 [.ref 39, .int x1, .int x2, .int x3] [.int x1, .int (s.1 42 (Int32.toNatClampNeg x3))] (am_hp sw s) (fun _ => rfl) ?_
      refine sm_jn 32 (fun p32 => [.ref 39, .int x1, .int x2, .int x3]) (fun p32 => []) (fun p32 => (am_hp sw p32)) (fun p32 => ?_) (fun j32 hj32 => ?_)
      · refine sm_go 2 2 [.ref 39, .int x1, .int x2, .int (x3 + 1)] [] (am_hp sw p32) (fun _ => rfl) ?_
        exact ih x1 x2 (x3 + 1) p32
      refine sm_br 1 20 32 [.ref 39, .int x1, .int x2, .int x3] [] (am_hp sw s) (fun _ => rfl) (fun _ => ?_) (fun _ => ?_)
      · refine sm_iald 3 25 [.ref 39, .int x1, .int x2, .int x3] [] (am_hp sw s) (i := x3) (c := 43) (fun _ => rfl) rfl rfl rfl rfl ?_
        refine sm_br 2 30 32 [.ref 39, .int x1, .int x2, .int x3] [] (am_hp sw s) (fun _ => rfl) (fun _ => ?_) (fun _ => ?_)
        · exact sm_ret 1 31 [.ref 39, .int x1, .int x2, .int x3] [.int (1)] (am_hp sw s) (some (.int (1))) (fun _ => rfl) rfl (fun _ _ h => h)
        · exact hj32 s
      · exact hj32 s
    · refine sm_fg [.null, .null, .null, .null] ⟨Or.inl rfl, Or.inl rfl, Or.inl rfl, Or.inl rfl, trivial⟩ ?_
      exact sm_ex (fun _ _ h => h.2)

set_option maxRecDepth 20000 in
theorem r_X3_isLotInBoxOf (d : Nat) (sw : Bool) (s s' : am_S) (x1 : Int32) (x2 : Int32) (v : Int32) (e : f_X3_isLotInBoxOf s x1 x2 = some (v, s')) : am_Run (d + 1) 38 [.ref 39, .int x1, .int x2] (am_hp sw s) (am_cI v) (am_hp sw s') := by
  refine am_Run.of (M := mt_X3_isLotInBoxOf) (cvf := am_cI) (X := f_X3_isLotInBoxOf s x1 x2) rfl rfl rfl (by simp) ?_ e
  unfold f_X3_isLotInBoxOf
  show am_Sm tb_X3_isLotInBoxOf 3 false none (some .boolean) (d + 0) (am_po am_cI sw) _ 0 [.ref 39, .int x1, .int x2, .null] [] (am_hp sw s)
  refine sm_go 2 2 [.ref 39, .int x1, .int x2, .int (0)] [] (am_hp sw s) (fun _ => rfl) ?_
  refine sm_lp 38 (fun _y => [.null, .null, .null, .null]) (l_X3_isLotInBoxOf_2 d sw am_FU x1 x2 (0) s) (fun _ _ _ h => h) am_po20 (fun _y s2 => ?_)
  exact sm_ret 1 39 [.null, .null, .null, .null] [.int (0)] (am_hp sw s2) (some (.int (0))) (fun _ => rfl) rfl (fun _ _ h => h)

def f_X4_has (s : am_S) (x1 : Int32) : Option (Int32 × am_S) := if x1 < 0 then (some ((0), s)) else (if x1 < (s.1 17 0) then (some ((1), s)) else (some ((0), s)))
set_option maxRecDepth 20000 in
theorem r_X4_has (d : Nat) (sw : Bool) (s s' : am_S) (x1 : Int32) (v : Int32) (e : f_X4_has s x1 = some (v, s')) : am_Run (d + 1) 40 [.ref 17, .int x1] (am_hp sw s) (am_cI v) (am_hp sw s') := by
  refine am_Run.of (M := mt_X4_has) (cvf := am_cI) (X := f_X4_has s x1) rfl rfl rfl (by simp) ?_ e
  unfold f_X4_has
  show am_Sm tb_X4_has 4 false none (some .boolean) (d + 0) (am_po am_cI sw) _ 0 [.ref 17, .int x1] [] (am_hp sw s)
  refine sm_br 2 16 4 [.ref 17, .int x1] [] (am_hp sw s) (fun _ => rfl) (fun _ => ?_) (fun _ => ?_)
  · exact sm_ret 1 17 [.ref 17, .int x1] [.int (0)] (am_hp sw s) (some (.int (0))) (fun _ => rfl) rfl (fun _ _ h => h)
  · refine sm_br 4 12 16 [.ref 17, .int x1] [] (am_hp sw s) (fun _ => rfl) (fun _ => ?_) (fun _ => ?_)
    · exact sm_ret 2 17 [.ref 17, .int x1] [.int (1)] (am_hp sw s) (some (.int (1))) (fun _ => rfl) rfl (fun _ _ h => h)
    · exact sm_ret 1 17 [.ref 17, .int x1] [.int (0)] (am_hp sw s) (some (.int (0))) (fun _ => rfl) rfl (fun _ _ h => h)

def f_X4_add (s : am_S) (x1 : Int32) (x2 : Int32) (x3 : Int32) : Option (Int32 × am_S) := if (s.1 17 0) < 8 then (am_gu (am_in (s.1 17 0) 8) (am_gu (am_in (s.1 17 0) 8) (am_gu (am_in (s.1 17 0) 8) (some ((((s.1 17 0) + 1) - 1), (am_wI (am_wI (am_wI (am_wI s 18 (Int32.toNatClampNeg (s.1 17 0)) x1) 19 (Int32.toNatClampNeg (s.1 17 0)) x2) 20 (Int32.toNatClampNeg (s.1 17 0)) x3) 17 0 ((s.1 17 0) + 1))))))) else (some ((-1), s))
set_option maxRecDepth 20000 in
theorem r_X4_add (d : Nat) (sw : Bool) (s s' : am_S) (x1 : Int32) (x2 : Int32) (x3 : Int32) (v : Int32) (e : f_X4_add s x1 x2 x3 = some (v, s')) : am_Run (d + 1) 41 [.ref 17, .int x1, .int x2, .int x3] (am_hp sw s) (am_cI v) (am_hp sw s') := by
  refine am_Run.of (M := mt_X4_add) (cvf := am_cI) (X := f_X4_add s x1 x2 x3) rfl rfl rfl (by simp) ?_ e
  unfold f_X4_add
  show am_Sm tb_X4_add 4 false none (some .int) (d + 0) (am_po am_cI sw) _ 0 [.ref 17, .int x1, .int x2, .int x3] [] (am_hp sw s)
  refine sm_br 4 11 9 [.ref 17, .int x1, .int x2, .int x3] [] (am_hp sw s) (fun _ => rfl) (fun _ => ?_) (fun _ => ?_)
  · refine sm_iast 5 20 [.ref 17, .int x1, .int x2, .int x3] [] sw s (i := (s.1 17 0)) (x := x1) (c := 18) (fun _ => rfl) rfl rfl rfl ?_
    refine sm_iast 5 30 [.ref 17, .int x1, .int x2, .int x3] [] sw (am_wI s 18 (Int32.toNatClampNeg (s.1 17 0)) x1) (i := (s.1 17 0)) (x := x2) (c := 19) (fun _ => rfl) rfl rfl rfl ?_
    refine sm_iast 5 40 [.ref 17, .int x1, .int x2, .int x3] [] sw (am_wI (am_wI s 18 (Int32.toNatClampNeg (s.1 17 0)) x1) 19 (Int32.toNatClampNeg (s.1 17 0)) x2) (i := (s.1 17 0)) (x := x3) (c := 20) (fun _ => rfl) rfl rfl rfl ?_
    exact sm_ret 10 57 [.ref 17, .int x1, .int x2, .int x3] [.int (((s.1 17 0) + 1) - 1)] (am_hp sw (am_wI (am_wI (am_wI (am_wI s 18 (Int32.toNatClampNeg (s.1 17 0)) x1) 19 (Int32.toNatClampNeg (s.1 17 0)) x2) 20 (Int32.toNatClampNeg (s.1 17 0)) x3) 17 0 ((s.1 17 0) + 1))) (some (.int (((s.1 17 0) + 1) - 1))) (fun _ => rfl) rfl (fun _ _ h => h)
  · exact sm_ret 1 10 [.ref 17, .int x1, .int x2, .int x3] [.int (-1)] (am_hp sw s) (some (.int (-1))) (fun _ => rfl) rfl (fun _ _ h => h)

def f_X5_has (s : am_S) (x1 : Int32) : Option (Int32 × am_S) := if x1 < 0 then (some ((0), s)) else (if x1 < (s.1 46 0) then (some ((1), s)) else (some ((0), s)))
set_option maxRecDepth 20000 in
theorem r_X5_has (d : Nat) (sw : Bool) (s s' : am_S) (x1 : Int32) (v : Int32) (e : f_X5_has s x1 = some (v, s')) : am_Run (d + 1) 44 [.ref 46, .int x1] (am_hp sw s) (am_cI v) (am_hp sw s') := by
  refine am_Run.of (M := mt_X5_has) (cvf := am_cI) (X := f_X5_has s x1) rfl rfl rfl (by simp) ?_ e
  unfold f_X5_has
  show am_Sm tb_X5_has 5 false none (some .boolean) (d + 0) (am_po am_cI sw) _ 0 [.ref 46, .int x1] [] (am_hp sw s)
  refine sm_br 2 16 4 [.ref 46, .int x1] [] (am_hp sw s) (fun _ => rfl) (fun _ => ?_) (fun _ => ?_)
  · exact sm_ret 1 17 [.ref 46, .int x1] [.int (0)] (am_hp sw s) (some (.int (0))) (fun _ => rfl) rfl (fun _ _ h => h)
  · refine sm_br 4 12 16 [.ref 46, .int x1] [] (am_hp sw s) (fun _ => rfl) (fun _ => ?_) (fun _ => ?_)
    · exact sm_ret 2 17 [.ref 46, .int x1] [.int (1)] (am_hp sw s) (some (.int (1))) (fun _ => rfl) rfl (fun _ _ h => h)
    · exact sm_ret 1 17 [.ref 46, .int x1] [.int (0)] (am_hp sw s) (some (.int (0))) (fun _ => rfl) rfl (fun _ _ h => h)

def f_X5_add (s : am_S) (x1 : Int32) : Option (Int32 × am_S) := if (s.1 46 0) < 8 then (am_gu (am_in (s.1 46 0) 8) (am_gu (am_in (s.1 46 0) 8) (am_gu (am_in (s.1 46 0) 8) (am_gu (am_in (s.1 46 0) 8) (some ((((s.1 46 0) + 1) - 1), (am_wI (am_wI (am_wI (am_wI (am_wI s 47 (Int32.toNatClampNeg (s.1 46 0)) x1) 48 (Int32.toNatClampNeg (s.1 46 0)) (0)) 49 (Int32.toNatClampNeg (s.1 46 0)) (-1)) 50 (Int32.toNatClampNeg (s.1 46 0)) (0)) 46 0 ((s.1 46 0) + 1)))))))) else (some ((-1), s))
set_option maxRecDepth 20000 in
theorem r_X5_add (d : Nat) (sw : Bool) (s s' : am_S) (x1 : Int32) (v : Int32) (e : f_X5_add s x1 = some (v, s')) : am_Run (d + 1) 45 [.ref 46, .int x1] (am_hp sw s) (am_cI v) (am_hp sw s') := by
  refine am_Run.of (M := mt_X5_add) (cvf := am_cI) (X := f_X5_add s x1) rfl rfl rfl (by simp) ?_ e
  unfold f_X5_add
  show am_Sm tb_X5_add 5 false none (some .int) (d + 0) (am_po am_cI sw) _ 0 [.ref 46, .int x1] [] (am_hp sw s)
  refine sm_br 4 11 9 [.ref 46, .int x1] [] (am_hp sw s) (fun _ => rfl) (fun _ => ?_) (fun _ => ?_)
  · refine sm_iast 5 20 [.ref 46, .int x1] [] sw s (i := (s.1 46 0)) (x := x1) (c := 47) (fun _ => rfl) rfl rfl rfl ?_
    refine sm_iast 5 30 [.ref 46, .int x1] [] sw (am_wI s 47 (Int32.toNatClampNeg (s.1 46 0)) x1) (i := (s.1 46 0)) (x := (0)) (c := 48) (fun _ => rfl) rfl rfl rfl ?_
    refine sm_iast 5 40 [.ref 46, .int x1] [] sw (am_wI (am_wI s 47 (Int32.toNatClampNeg (s.1 46 0)) x1) 48 (Int32.toNatClampNeg (s.1 46 0)) (0)) (i := (s.1 46 0)) (x := (-1)) (c := 49) (fun _ => rfl) rfl rfl rfl ?_
    refine sm_iast 5 50 [.ref 46, .int x1] [] sw (am_wI (am_wI (am_wI s 47 (Int32.toNatClampNeg (s.1 46 0)) x1) 48 (Int32.toNatClampNeg (s.1 46 0)) (0)) 49 (Int32.toNatClampNeg (s.1 46 0)) (-1)) (i := (s.1 46 0)) (x := (0)) (c := 50) (fun _ => rfl) rfl rfl rfl ?_
    exact sm_ret 10 67 [.ref 46, .int x1] [.int (((s.1 46 0) + 1) - 1)] (am_hp sw (am_wI (am_wI (am_wI (am_wI (am_wI s 47 (Int32.toNatClampNeg (s.1 46 0)) x1) 48 (Int32.toNatClampNeg (s.1 46 0)) (0)) 49 (Int32.toNatClampNeg (s.1 46 0)) (-1)) 50 (Int32.toNatClampNeg (s.1 46 0)) (0)) 46 0 ((s.1 46 0) + 1))) (some (.int (((s.1 46 0) + 1) - 1))) (fun _ => rfl) rfl (fun _ _ h => h)
  · exact sm_ret 1 10 [.ref 46, .int x1] [.int (-1)] (am_hp sw s) (some (.int (-1))) (fun _ => rfl) rfl (fun _ _ h => h)

def f_X5_addNeed (s : am_S) (x1 : Int32) (x2 : Int32) (x3 : Int32) (x4 : Int32) : Option (Int32 × am_S) := am_gu (am_in x1 8) (if (s.1 50 (Int32.toNatClampNeg x1)) < 4 then (am_gu (am_in x1 8) (am_gu (am_in ((x1 * 4) + (s.1 50 (Int32.toNatClampNeg x1))) 32) (am_gu (am_in ((x1 * 4) + (s.1 50 (Int32.toNatClampNeg x1))) 32) (am_gu (am_in ((x1 * 4) + (s.1 50 (Int32.toNatClampNeg x1))) 32) (am_gu (am_in x1 8) (am_gu (am_in x1 8) (am_gu (am_in x1 8) (some ((((am_wI (am_wI (am_wI (am_wI s 51 (Int32.toNatClampNeg ((x1 * 4) + (s.1 50 (Int32.toNatClampNeg x1)))) x2) 52 (Int32.toNatClampNeg ((x1 * 4) + (s.1 50 (Int32.toNatClampNeg x1)))) x3) 53 (Int32.toNatClampNeg ((x1 * 4) + (s.1 50 (Int32.toNatClampNeg x1)))) x4) 50 (Int32.toNatClampNeg x1) ((s.1 50 (Int32.toNatClampNeg x1)) + 1)).1 50 (Int32.toNatClampNeg x1)) - 1), (am_wI (am_wI (am_wI (am_wI s 51 (Int32.toNatClampNeg ((x1 * 4) + (s.1 50 (Int32.toNatClampNeg x1)))) x2) 52 (Int32.toNatClampNeg ((x1 * 4) + (s.1 50 (Int32.toNatClampNeg x1)))) x3) 53 (Int32.toNatClampNeg ((x1 * 4) + (s.1 50 (Int32.toNatClampNeg x1)))) x4) 50 (Int32.toNatClampNeg x1) ((s.1 50 (Int32.toNatClampNeg x1)) + 1))))))))))) else (some ((-1), s)))
set_option maxRecDepth 20000 in
theorem r_X5_addNeed (d : Nat) (sw : Bool) (s s' : am_S) (x1 : Int32) (x2 : Int32) (x3 : Int32) (x4 : Int32) (v : Int32) (e : f_X5_addNeed s x1 x2 x3 x4 = some (v, s')) : am_Run (d + 1) 46 [.ref 46, .int x1, .int x2, .int x3, .int x4] (am_hp sw s) (am_cI v) (am_hp sw s') := by
  refine am_Run.of (M := mt_X5_addNeed) (cvf := am_cI) (X := f_X5_addNeed s x1 x2 x3 x4) rfl rfl rfl (by simp) ?_ e
  unfold f_X5_addNeed
  show am_Sm tb_X5_addNeed 5 false none (some .int) (d + 0) (am_po am_cI sw) _ 0 [.ref 46, .int x1, .int x2, .int x3, .int x4, .null] [] (am_hp sw s)
  refine sm_iald 3 5 [.ref 46, .int x1, .int x2, .int x3, .int x4, .null] [] (am_hp sw s) (i := x1) (c := 50) (fun _ => rfl) rfl rfl rfl rfl ?_
  refine sm_br 2 12 10 [.ref 46, .int x1, .int x2, .int x3, .int x4, .null] [] (am_hp sw s) (fun _ => rfl) (fun _ => ?_) (fun _ => ?_)
  · refine sm_iald 6 20 [.ref 46, .int x1, .int x2, .int x3, .int x4, .null] [.int (x1 * 4)] (am_hp sw s) (i := x1) (c := 50) (fun _ => rfl) rfl rfl rfl rfl ?_
    refine sm_iast 6 31 [.ref 46, .int x1, .int x2, .int x3, .int x4, .int ((x1 * 4) + (s.1 50 (Int32.toNatClampNeg x1)))] [] sw s (i := ((x1 * 4) + (s.1 50 (Int32.toNatClampNeg x1)))) (x := x2) (c := 51) (fun _ => rfl) rfl rfl rfl ?_
    refine sm_iast 4 39 [.ref 46, .int x1, .int x2, .int x3, .int x4, .int ((x1 * 4) + (s.1 50 (Int32.toNatClampNeg x1)))] [] sw (am_wI s 51 (Int32.toNatClampNeg ((x1 * 4) + (s.1 50 (Int32.toNatClampNeg x1)))) x2) (i := ((x1 * 4) + (s.1 50 (Int32.toNatClampNeg x1)))) (x := x3) (c := 52) (fun _ => rfl) rfl rfl rfl ?_
    refine sm_iast 4 48 [.ref 46, .int x1, .int x2, .int x3, .int x4, .int ((x1 * 4) + (s.1 50 (Int32.toNatClampNeg x1)))] [] sw (am_wI (am_wI s 51 (Int32.toNatClampNeg ((x1 * 4) + (s.1 50 (Int32.toNatClampNeg x1)))) x2) 52 (Int32.toNatClampNeg ((x1 * 4) + (s.1 50 (Int32.toNatClampNeg x1)))) x3) (i := ((x1 * 4) + (s.1 50 (Int32.toNatClampNeg x1)))) (x := x4) (c := 53) (fun _ => rfl) rfl rfl rfl ?_
    refine sm_iald 4 55 [.ref 46, .int x1, .int x2, .int x3, .int x4, .int ((x1 * 4) + (s.1 50 (Int32.toNatClampNeg x1)))] [.int x1, .ref 50] (am_hp sw (am_wI (am_wI (am_wI s 51 (Int32.toNatClampNeg ((x1 * 4) + (s.1 50 (Int32.toNatClampNeg x1)))) x2) 52 (Int32.toNatClampNeg ((x1 * 4) + (s.1 50 (Int32.toNatClampNeg x1)))) x3) 53 (Int32.toNatClampNeg ((x1 * 4) + (s.1 50 (Int32.toNatClampNeg x1)))) x4)) (i := x1) (c := 50) (fun _ => rfl) rfl rfl rfl rfl ?_
    refine sm_iast 2 58 [.ref 46, .int x1, .int x2, .int x3, .int x4, .int ((x1 * 4) + (s.1 50 (Int32.toNatClampNeg x1)))] [] sw (am_wI (am_wI (am_wI s 51 (Int32.toNatClampNeg ((x1 * 4) + (s.1 50 (Int32.toNatClampNeg x1)))) x2) 52 (Int32.toNatClampNeg ((x1 * 4) + (s.1 50 (Int32.toNatClampNeg x1)))) x3) 53 (Int32.toNatClampNeg ((x1 * 4) + (s.1 50 (Int32.toNatClampNeg x1)))) x4) (i := x1) (x := ((s.1 50 (Int32.toNatClampNeg x1)) + 1)) (c := 50) (fun _ => rfl) rfl rfl rfl ?_
    refine sm_iald 3 64 [.ref 46, .int x1, .int x2, .int x3, .int x4, .int ((x1 * 4) + (s.1 50 (Int32.toNatClampNeg x1)))] [] (am_hp sw (am_wI (am_wI (am_wI (am_wI s 51 (Int32.toNatClampNeg ((x1 * 4) + (s.1 50 (Int32.toNatClampNeg x1)))) x2) 52 (Int32.toNatClampNeg ((x1 * 4) + (s.1 50 (Int32.toNatClampNeg x1)))) x3) 53 (Int32.toNatClampNeg ((x1 * 4) + (s.1 50 (Int32.toNatClampNeg x1)))) x4) 50 (Int32.toNatClampNeg x1) ((s.1 50 (Int32.toNatClampNeg x1)) + 1))) (i := x1) (c := 50) (fun _ => rfl) rfl rfl rfl rfl ?_
    exact sm_ret 2 67 [.ref 46, .int x1, .int x2, .int x3, .int x4, .int ((x1 * 4) + (s.1 50 (Int32.toNatClampNeg x1)))] [.int (((am_wI (am_wI (am_wI (am_wI s 51 (Int32.toNatClampNeg ((x1 * 4) + (s.1 50 (Int32.toNatClampNeg x1)))) x2) 52 (Int32.toNatClampNeg ((x1 * 4) + (s.1 50 (Int32.toNatClampNeg x1)))) x3) 53 (Int32.toNatClampNeg ((x1 * 4) + (s.1 50 (Int32.toNatClampNeg x1)))) x4) 50 (Int32.toNatClampNeg x1) ((s.1 50 (Int32.toNatClampNeg x1)) + 1)).1 50 (Int32.toNatClampNeg x1)) - 1)] (am_hp sw (am_wI (am_wI (am_wI (am_wI s 51 (Int32.toNatClampNeg ((x1 * 4) + (s.1 50 (Int32.toNatClampNeg x1)))) x2) 52 (Int32.toNatClampNeg ((x1 * 4) + (s.1 50 (Int32.toNatClampNeg x1)))) x3) 53 (Int32.toNatClampNeg ((x1 * 4) + (s.1 50 (Int32.toNatClampNeg x1)))) x4) 50 (Int32.toNatClampNeg x1) ((s.1 50 (Int32.toNatClampNeg x1)) + 1))) (some (.int (((am_wI (am_wI (am_wI (am_wI s 51 (Int32.toNatClampNeg ((x1 * 4) + (s.1 50 (Int32.toNatClampNeg x1)))) x2) 52 (Int32.toNatClampNeg ((x1 * 4) + (s.1 50 (Int32.toNatClampNeg x1)))) x3) 53 (Int32.toNatClampNeg ((x1 * 4) + (s.1 50 (Int32.toNatClampNeg x1)))) x4) 50 (Int32.toNatClampNeg x1) ((s.1 50 (Int32.toNatClampNeg x1)) + 1)).1 50 (Int32.toNatClampNeg x1)) - 1))) (fun _ => rfl) rfl (fun _ _ h => h)
  · exact sm_ret 1 11 [.ref 46, .int x1, .int x2, .int x3, .int x4, .null] [.int (-1)] (am_hp sw s) (some (.int (-1))) (fun _ => rfl) rfl (fun _ _ h => h)

def f_X5_figuresNeeded_L4 : Nat → Int32 → Int32 → Int32 → am_S → Option ((Int32 × am_S) ⊕ ((Int32) × am_S))
  | 0, _, _, _, _ => none
  | n + 1, x1, x2, x3, s => am_gu (am_in x1 8) (if x3 < (s.1 50 (Int32.toNatClampNeg x1)) then (am_gu (am_in ((x1 * 4) + x3) 32) (f_X5_figuresNeeded_L4 n x1 (x2 + (s.1 51 (Int32.toNatClampNeg ((x1 * 4) + x3)))) (x3 + 1) s)) else (some (.inr (x2, s))))
def f_X5_figuresNeeded (s : am_S) (x1 : Int32) : Option (Int32 × am_S) := am_lp (fun y => y) (f_X5_figuresNeeded_L4 am_FU x1 (0) (0) s) (fun y4 s4 => some (y4, s4))
set_option maxRecDepth 20000 in
theorem l_X5_figuresNeeded_4 (d : Nat) (sw : Bool) : ∀ (n : Nat) (x1 : Int32) (x2 : Int32) (x3 : Int32) (s : am_S), am_Sm tb_X5_figuresNeeded 5 false none (some .int) (d + 0) (am_pl am_cI sw (fun (v9 : Int32) s9 r h9 => am_Ex tb_X5_figuresNeeded 5 false none (some .int) (d + 0) r h9 33 [.null, .null, .int v9, .null] [] (am_hp sw s9))) (f_X5_figuresNeeded_L4 n x1 x2 x3 s) 4 [.ref 46, .int x1, .int x2, .int x3] [] (am_hp sw s) := by
  intro n
  induction n with
  | zero => intro x1 x2 x3 s; exact sm_no
  | succ n ih =>
    intro x1 x2 x3 s
    rw [f_X5_figuresNeeded_L4]
    refine sm_iald 4 10 [.ref 46, .int x1, .int x2, .int x3] [.int x3] (am_hp sw s) (i := x1) (c := 50) (fun _ => rfl) rfl rfl rfl rfl ?_
    refine sm_br 1 14 33 [.ref 46, .int x1, .int x2, .int x3] [] (am_hp sw s) (fun _ => rfl) (fun _ => ?_) (fun _ => ?_)
    · refine sm_iald 8 24 [.ref 46, .int x1, .int x2, .int x3] [.int x2] (am_hp sw s) (i := ((x1 * 4) + x3)) (c := 51) (fun _ => rfl) rfl rfl rfl rfl ?_
      refine sm_go 4 4 [.ref 46, .int x1, .int (x2 + (s.1 51 (Int32.toNatClampNeg ((x1 * 4) + x3)))), .int (x3 + 1)] [] (am_hp sw s) (fun _ => rfl) ?_
      exact ih x1 (x2 + (s.1 51 (Int32.toNatClampNeg ((x1 * 4) + x3)))) (x3 + 1) s
    · refine sm_fg [.null, .null, .int x2, .null] ⟨Or.inl rfl, Or.inl rfl, Or.inr rfl, Or.inl rfl, trivial⟩ ?_
      exact sm_ex (fun _ _ h => h.2)

set_option maxRecDepth 20000 in
theorem r_X5_figuresNeeded (d : Nat) (sw : Bool) (s s' : am_S) (x1 : Int32) (v : Int32) (e : f_X5_figuresNeeded s x1 = some (v, s')) : am_Run (d + 1) 47 [.ref 46, .int x1] (am_hp sw s) (am_cI v) (am_hp sw s') := by
  refine am_Run.of (M := mt_X5_figuresNeeded) (cvf := am_cI) (X := f_X5_figuresNeeded s x1) rfl rfl rfl (by simp) ?_ e
  unfold f_X5_figuresNeeded
  show am_Sm tb_X5_figuresNeeded 5 false none (some .int) (d + 0) (am_po am_cI sw) _ 0 [.ref 46, .int x1, .null, .null] [] (am_hp sw s)
  refine sm_go 4 4 [.ref 46, .int x1, .int (0), .int (0)] [] (am_hp sw s) (fun _ => rfl) ?_
  refine sm_lp 33 (fun y4 => [.null, .null, .int y4, .null]) (l_X5_figuresNeeded_4 d sw am_FU x1 (0) (0) s) (fun _ _ _ h => h) am_po20 (fun y4 s4 => ?_)
  exact sm_ret 1 34 [.null, .null, .int y4, .null] [.int y4] (am_hp sw s4) (some (.int y4)) (fun _ => rfl) rfl (fun _ _ h => h)

