/-! ===== methods as functions, and their runs (printed by wip/gen/drive.py) ===== -/
theorem am_rtb {v : Int32} (h : decide (v &&& 1 = v) = true) : am_rt .ireturn (some .boolean) [.int v] = some (some (.int v)) := by
  simp only [am_rt]
  rw [h]
  rfl
def f_J_length (b : Nat) (s : am_S) : Option (Int32 × am_S) := some (nI (am_txt b).length, s)
def f_J_charAt (b : Nat) (s : am_S) (x1 : Int32) : Option (Int32 × am_S) := am_gu (am_in x1 (am_txt b).length) (some ((am_txt b).getD x1.toNatClampNeg 0, s))
def f_J_max (s : am_S) (x0 x1 : Int32) : Option (Int32 × am_S) := some (if x0 < x1 then x1 else x0, s)
def f_J_min (s : am_S) (x0 x1 : Int32) : Option (Int32 × am_S) := some (if x1 < x0 then x1 else x0, s)
theorem r_J_max (d : Nat) (sw : Bool) (s s' : am_S) (x0 x1 v : Int32) (e : f_J_max s x0 x1 = some (v, s')) : am_Run (d + 1) 199 [.int x0, .int x1] (am_hp sw s) (am_cI v) (am_hp sw s') := by
  cases e
  exact ⟨mt_J9_max_7cf53, rfl, Nat.le_refl _, Or.inr (Or.inl ⟨rfl, rfl, x0, x1, rfl, Or.inl ⟨rfl, rfl⟩⟩)⟩
theorem r_J_min (d : Nat) (sw : Bool) (s s' : am_S) (x0 x1 v : Int32) (e : f_J_min s x0 x1 = some (v, s')) : am_Run (d + 1) 200 [.int x0, .int x1] (am_hp sw s) (am_cI v) (am_hp sw s') := by
  cases e
  exact ⟨mt_J9_min_7cf53, rfl, Nat.le_refl _, Or.inr (Or.inl ⟨rfl, rfl, x0, x1, rfl, Or.inr ⟨rfl, rfl⟩⟩)⟩
theorem r_J_length_0 (d : Nat) (sw : Bool) (s s' : am_S) (v : Int32) (e : f_J_length 0 s = some (v, s')) : am_Run (d + 3) 900 [.ref 1000] (am_hp sw s) (am_cI v) (am_hp sw s') := by
  cases e
  exact ⟨mt_J0_length_8abf5, rfl, Nat.le_refl _, Or.inl ⟨rfl, by omega, rfl, 0, by decide, Or.inl ⟨rfl, rfl, rfl⟩⟩⟩
theorem r_J_charAt_0 (d : Nat) (sw : Bool) (s s' : am_S) (x1 v : Int32) (e : f_J_charAt 0 s x1 = some (v, s')) : am_Run (d + 3) 901 [.ref 1000, .int x1] (am_hp sw s) (am_cI v) (am_hp sw s') := by
  obtain ⟨e1, e2⟩ := am_gu_some e
  cases e2
  exact ⟨mt_J0_charAt_5068e, rfl, Nat.le_refl _, Or.inl ⟨rfl, by omega, rfl, 0, by decide, Or.inr ⟨rfl, x1, e1, rfl, rfl⟩⟩⟩
theorem r_J_length_1 (d : Nat) (sw : Bool) (s s' : am_S) (v : Int32) (e : f_J_length 1 s = some (v, s')) : am_Run (d + 3) 900 [.ref 1001] (am_hp sw s) (am_cI v) (am_hp sw s') := by
  cases e
  exact ⟨mt_J0_length_8abf5, rfl, Nat.le_refl _, Or.inl ⟨rfl, by omega, rfl, 1, by decide, Or.inl ⟨rfl, rfl, rfl⟩⟩⟩
theorem r_J_charAt_1 (d : Nat) (sw : Bool) (s s' : am_S) (x1 v : Int32) (e : f_J_charAt 1 s x1 = some (v, s')) : am_Run (d + 3) 901 [.ref 1001, .int x1] (am_hp sw s) (am_cI v) (am_hp sw s') := by
  obtain ⟨e1, e2⟩ := am_gu_some e
  cases e2
  exact ⟨mt_J0_charAt_5068e, rfl, Nat.le_refl _, Or.inl ⟨rfl, by omega, rfl, 1, by decide, Or.inr ⟨rfl, x1, e1, rfl, rfl⟩⟩⟩
theorem r_J_length_2 (d : Nat) (sw : Bool) (s s' : am_S) (v : Int32) (e : f_J_length 2 s = some (v, s')) : am_Run (d + 3) 900 [.ref 1002] (am_hp sw s) (am_cI v) (am_hp sw s') := by
  cases e
  exact ⟨mt_J0_length_8abf5, rfl, Nat.le_refl _, Or.inl ⟨rfl, by omega, rfl, 2, by decide, Or.inl ⟨rfl, rfl, rfl⟩⟩⟩
theorem r_J_charAt_2 (d : Nat) (sw : Bool) (s s' : am_S) (x1 v : Int32) (e : f_J_charAt 2 s x1 = some (v, s')) : am_Run (d + 3) 901 [.ref 1002, .int x1] (am_hp sw s) (am_cI v) (am_hp sw s') := by
  obtain ⟨e1, e2⟩ := am_gu_some e
  cases e2
  exact ⟨mt_J0_charAt_5068e, rfl, Nat.le_refl _, Or.inl ⟨rfl, by omega, rfl, 2, by decide, Or.inr ⟨rfl, x1, e1, rfl, rfl⟩⟩⟩
theorem r_J_length_3 (d : Nat) (sw : Bool) (s s' : am_S) (v : Int32) (e : f_J_length 3 s = some (v, s')) : am_Run (d + 3) 900 [.ref 1003] (am_hp sw s) (am_cI v) (am_hp sw s') := by
  cases e
  exact ⟨mt_J0_length_8abf5, rfl, Nat.le_refl _, Or.inl ⟨rfl, by omega, rfl, 3, by decide, Or.inl ⟨rfl, rfl, rfl⟩⟩⟩
theorem r_J_charAt_3 (d : Nat) (sw : Bool) (s s' : am_S) (x1 v : Int32) (e : f_J_charAt 3 s x1 = some (v, s')) : am_Run (d + 3) 901 [.ref 1003, .int x1] (am_hp sw s) (am_cI v) (am_hp sw s') := by
  obtain ⟨e1, e2⟩ := am_gu_some e
  cases e2
  exact ⟨mt_J0_charAt_5068e, rfl, Nat.le_refl _, Or.inl ⟨rfl, by omega, rfl, 3, by decide, Or.inr ⟨rfl, x1, e1, rfl, rfl⟩⟩⟩
theorem r_J_length_4 (d : Nat) (sw : Bool) (s s' : am_S) (v : Int32) (e : f_J_length 4 s = some (v, s')) : am_Run (d + 3) 900 [.ref 1004] (am_hp sw s) (am_cI v) (am_hp sw s') := by
  cases e
  exact ⟨mt_J0_length_8abf5, rfl, Nat.le_refl _, Or.inl ⟨rfl, by omega, rfl, 4, by decide, Or.inl ⟨rfl, rfl, rfl⟩⟩⟩
theorem r_J_charAt_4 (d : Nat) (sw : Bool) (s s' : am_S) (x1 v : Int32) (e : f_J_charAt 4 s x1 = some (v, s')) : am_Run (d + 3) 901 [.ref 1004, .int x1] (am_hp sw s) (am_cI v) (am_hp sw s') := by
  obtain ⟨e1, e2⟩ := am_gu_some e
  cases e2
  exact ⟨mt_J0_charAt_5068e, rfl, Nat.le_refl _, Or.inl ⟨rfl, by omega, rfl, 4, by decide, Or.inr ⟨rfl, x1, e1, rfl, rfl⟩⟩⟩
theorem r_J_length_5 (d : Nat) (sw : Bool) (s s' : am_S) (v : Int32) (e : f_J_length 5 s = some (v, s')) : am_Run (d + 3) 900 [.ref 1005] (am_hp sw s) (am_cI v) (am_hp sw s') := by
  cases e
  exact ⟨mt_J0_length_8abf5, rfl, Nat.le_refl _, Or.inl ⟨rfl, by omega, rfl, 5, by decide, Or.inl ⟨rfl, rfl, rfl⟩⟩⟩
theorem r_J_charAt_5 (d : Nat) (sw : Bool) (s s' : am_S) (x1 v : Int32) (e : f_J_charAt 5 s x1 = some (v, s')) : am_Run (d + 3) 901 [.ref 1005, .int x1] (am_hp sw s) (am_cI v) (am_hp sw s') := by
  obtain ⟨e1, e2⟩ := am_gu_some e
  cases e2
  exact ⟨mt_J0_charAt_5068e, rfl, Nat.le_refl _, Or.inl ⟨rfl, by omega, rfl, 5, by decide, Or.inr ⟨rfl, x1, e1, rfl, rfl⟩⟩⟩
theorem r_J_length_6 (d : Nat) (sw : Bool) (s s' : am_S) (v : Int32) (e : f_J_length 6 s = some (v, s')) : am_Run (d + 3) 900 [.ref 1006] (am_hp sw s) (am_cI v) (am_hp sw s') := by
  cases e
  exact ⟨mt_J0_length_8abf5, rfl, Nat.le_refl _, Or.inl ⟨rfl, by omega, rfl, 6, by decide, Or.inl ⟨rfl, rfl, rfl⟩⟩⟩
theorem r_J_charAt_6 (d : Nat) (sw : Bool) (s s' : am_S) (x1 v : Int32) (e : f_J_charAt 6 s x1 = some (v, s')) : am_Run (d + 3) 901 [.ref 1006, .int x1] (am_hp sw s) (am_cI v) (am_hp sw s') := by
  obtain ⟨e1, e2⟩ := am_gu_some e
  cases e2
  exact ⟨mt_J0_charAt_5068e, rfl, Nat.le_refl _, Or.inl ⟨rfl, by omega, rfl, 6, by decide, Or.inr ⟨rfl, x1, e1, rfl, rfl⟩⟩⟩
theorem r_J_length_7 (d : Nat) (sw : Bool) (s s' : am_S) (v : Int32) (e : f_J_length 7 s = some (v, s')) : am_Run (d + 3) 900 [.ref 1007] (am_hp sw s) (am_cI v) (am_hp sw s') := by
  cases e
  exact ⟨mt_J0_length_8abf5, rfl, Nat.le_refl _, Or.inl ⟨rfl, by omega, rfl, 7, by decide, Or.inl ⟨rfl, rfl, rfl⟩⟩⟩
theorem r_J_charAt_7 (d : Nat) (sw : Bool) (s s' : am_S) (x1 v : Int32) (e : f_J_charAt 7 s x1 = some (v, s')) : am_Run (d + 3) 901 [.ref 1007, .int x1] (am_hp sw s) (am_cI v) (am_hp sw s') := by
  obtain ⟨e1, e2⟩ := am_gu_some e
  cases e2
  exact ⟨mt_J0_charAt_5068e, rfl, Nat.le_refl _, Or.inl ⟨rfl, by omega, rfl, 7, by decide, Or.inr ⟨rfl, x1, e1, rfl, rfl⟩⟩⟩
theorem r_J_length_8 (d : Nat) (sw : Bool) (s s' : am_S) (v : Int32) (e : f_J_length 8 s = some (v, s')) : am_Run (d + 3) 900 [.ref 1008] (am_hp sw s) (am_cI v) (am_hp sw s') := by
  cases e
  exact ⟨mt_J0_length_8abf5, rfl, Nat.le_refl _, Or.inl ⟨rfl, by omega, rfl, 8, by decide, Or.inl ⟨rfl, rfl, rfl⟩⟩⟩
theorem r_J_charAt_8 (d : Nat) (sw : Bool) (s s' : am_S) (x1 v : Int32) (e : f_J_charAt 8 s x1 = some (v, s')) : am_Run (d + 3) 901 [.ref 1008, .int x1] (am_hp sw s) (am_cI v) (am_hp sw s') := by
  obtain ⟨e1, e2⟩ := am_gu_some e
  cases e2
  exact ⟨mt_J0_charAt_5068e, rfl, Nat.le_refl _, Or.inl ⟨rfl, by omega, rfl, 8, by decide, Or.inr ⟨rfl, x1, e1, rfl, rfl⟩⟩⟩
theorem r_J_length_9 (d : Nat) (sw : Bool) (s s' : am_S) (v : Int32) (e : f_J_length 9 s = some (v, s')) : am_Run (d + 3) 900 [.ref 1009] (am_hp sw s) (am_cI v) (am_hp sw s') := by
  cases e
  exact ⟨mt_J0_length_8abf5, rfl, Nat.le_refl _, Or.inl ⟨rfl, by omega, rfl, 9, by decide, Or.inl ⟨rfl, rfl, rfl⟩⟩⟩
theorem r_J_charAt_9 (d : Nat) (sw : Bool) (s s' : am_S) (x1 v : Int32) (e : f_J_charAt 9 s x1 = some (v, s')) : am_Run (d + 3) 901 [.ref 1009, .int x1] (am_hp sw s) (am_cI v) (am_hp sw s') := by
  obtain ⟨e1, e2⟩ := am_gu_some e
  cases e2
  exact ⟨mt_J0_charAt_5068e, rfl, Nat.le_refl _, Or.inl ⟨rfl, by omega, rfl, 9, by decide, Or.inr ⟨rfl, x1, e1, rfl, rfl⟩⟩⟩
theorem r_J_length_10 (d : Nat) (sw : Bool) (s s' : am_S) (v : Int32) (e : f_J_length 10 s = some (v, s')) : am_Run (d + 3) 900 [.ref 1010] (am_hp sw s) (am_cI v) (am_hp sw s') := by
  cases e
  exact ⟨mt_J0_length_8abf5, rfl, Nat.le_refl _, Or.inl ⟨rfl, by omega, rfl, 10, by decide, Or.inl ⟨rfl, rfl, rfl⟩⟩⟩
theorem r_J_charAt_10 (d : Nat) (sw : Bool) (s s' : am_S) (x1 v : Int32) (e : f_J_charAt 10 s x1 = some (v, s')) : am_Run (d + 3) 901 [.ref 1010, .int x1] (am_hp sw s) (am_cI v) (am_hp sw s') := by
  obtain ⟨e1, e2⟩ := am_gu_some e
  cases e2
  exact ⟨mt_J0_charAt_5068e, rfl, Nat.le_refl _, Or.inl ⟨rfl, by omega, rfl, 10, by decide, Or.inr ⟨rfl, x1, e1, rfl, rfl⟩⟩⟩
theorem r_J_length_11 (d : Nat) (sw : Bool) (s s' : am_S) (v : Int32) (e : f_J_length 11 s = some (v, s')) : am_Run (d + 3) 900 [.ref 1011] (am_hp sw s) (am_cI v) (am_hp sw s') := by
  cases e
  exact ⟨mt_J0_length_8abf5, rfl, Nat.le_refl _, Or.inl ⟨rfl, by omega, rfl, 11, by decide, Or.inl ⟨rfl, rfl, rfl⟩⟩⟩
theorem r_J_charAt_11 (d : Nat) (sw : Bool) (s s' : am_S) (x1 v : Int32) (e : f_J_charAt 11 s x1 = some (v, s')) : am_Run (d + 3) 901 [.ref 1011, .int x1] (am_hp sw s) (am_cI v) (am_hp sw s') := by
  obtain ⟨e1, e2⟩ := am_gu_some e
  cases e2
  exact ⟨mt_J0_charAt_5068e, rfl, Nat.le_refl _, Or.inl ⟨rfl, by omega, rfl, 11, by decide, Or.inr ⟨rfl, x1, e1, rfl, rfl⟩⟩⟩
theorem r_J_length_12 (d : Nat) (sw : Bool) (s s' : am_S) (v : Int32) (e : f_J_length 12 s = some (v, s')) : am_Run (d + 3) 900 [.ref 1012] (am_hp sw s) (am_cI v) (am_hp sw s') := by
  cases e
  exact ⟨mt_J0_length_8abf5, rfl, Nat.le_refl _, Or.inl ⟨rfl, by omega, rfl, 12, by decide, Or.inl ⟨rfl, rfl, rfl⟩⟩⟩
theorem r_J_charAt_12 (d : Nat) (sw : Bool) (s s' : am_S) (x1 v : Int32) (e : f_J_charAt 12 s x1 = some (v, s')) : am_Run (d + 3) 901 [.ref 1012, .int x1] (am_hp sw s) (am_cI v) (am_hp sw s') := by
  obtain ⟨e1, e2⟩ := am_gu_some e
  cases e2
  exact ⟨mt_J0_charAt_5068e, rfl, Nat.le_refl _, Or.inl ⟨rfl, by omega, rfl, 12, by decide, Or.inr ⟨rfl, x1, e1, rfl, rfl⟩⟩⟩
theorem r_J_length_13 (d : Nat) (sw : Bool) (s s' : am_S) (v : Int32) (e : f_J_length 13 s = some (v, s')) : am_Run (d + 3) 900 [.ref 1013] (am_hp sw s) (am_cI v) (am_hp sw s') := by
  cases e
  exact ⟨mt_J0_length_8abf5, rfl, Nat.le_refl _, Or.inl ⟨rfl, by omega, rfl, 13, by decide, Or.inl ⟨rfl, rfl, rfl⟩⟩⟩
theorem r_J_charAt_13 (d : Nat) (sw : Bool) (s s' : am_S) (x1 v : Int32) (e : f_J_charAt 13 s x1 = some (v, s')) : am_Run (d + 3) 901 [.ref 1013, .int x1] (am_hp sw s) (am_cI v) (am_hp sw s') := by
  obtain ⟨e1, e2⟩ := am_gu_some e
  cases e2
  exact ⟨mt_J0_charAt_5068e, rfl, Nat.le_refl _, Or.inl ⟨rfl, by omega, rfl, 13, by decide, Or.inr ⟨rfl, x1, e1, rfl, rfl⟩⟩⟩
def f_X2_has (s : am_S) (x1 : Int32) : Option (Int32 × am_S) := if x1 < 0 then (some ((0), s)) else (if x1 < (s.1 21 0) then (some ((1), s)) else (some ((0), s)))
set_option maxRecDepth 20000 in
theorem r_X2_has (d : Nat) (sw : Bool) (s s' : am_S) (x1 : Int32) (v : Int32) (e : f_X2_has s x1 = some (v, s')) : am_Run (d + 1) 19 [.ref 21, .int x1] (am_hp sw s) (am_cI v) (am_hp sw s') := by
  refine am_Run.of (M := mt_X2_has) (cvf := am_cI) (X := f_X2_has s x1) rfl rfl rfl (by simp) ?_ e
  unfold f_X2_has
  show am_Sm tb_X2_has 2 false none (some .boolean) (d + 0) (am_po am_cI sw) _ 0 [.ref 21, .int x1] [] (am_hp sw s)
  refine sm_br 2 16 4 [.ref 21, .int x1] [] (am_hp sw s) (fun _ => rfl) (fun _ => ?_) (fun _ => ?_)
  · exact sm_ret 1 17 [.ref 21, .int x1] [.int (0)] (am_hp sw s) (some (.int (0))) (fun _ => rfl) rfl (fun _ _ h => h)
  · refine sm_br 4 12 16 [.ref 21, .int x1] [] (am_hp sw s) (fun _ => rfl) (fun _ => ?_) (fun _ => ?_)
    · exact sm_ret 2 17 [.ref 21, .int x1] [.int (1)] (am_hp sw s) (some (.int (1))) (fun _ => rfl) rfl (fun _ _ h => h)
    · exact sm_ret 1 17 [.ref 21, .int x1] [.int (0)] (am_hp sw s) (some (.int (0))) (fun _ => rfl) rfl (fun _ _ h => h)

def f_X2_add (s : am_S) (x1 : Int32) (x2 : Int32) : Option (Int32 × am_S) := if (s.1 21 0) < 8 then (am_gu (am_in (s.1 21 0) 8) (am_gu (am_in (s.1 21 0) 8) (some ((((s.1 21 0) + 1) - 1), (am_wI (am_wI (am_wI s 22 (Int32.toNatClampNeg (s.1 21 0)) x1) 23 (Int32.toNatClampNeg (s.1 21 0)) (am_nar 3 x2)) 21 0 ((s.1 21 0) + 1)))))) else (some ((-1), s))
set_option maxRecDepth 20000 in
theorem r_X2_add (d : Nat) (sw : Bool) (s s' : am_S) (x1 : Int32) (x2 : Int32) (v : Int32) (e : f_X2_add s x1 x2 = some (v, s')) : am_Run (d + 1) 20 [.ref 21, .int x1, .int x2] (am_hp sw s) (am_cI v) (am_hp sw s') := by
  refine am_Run.of (M := mt_X2_add) (cvf := am_cI) (X := f_X2_add s x1 x2) rfl rfl rfl (by simp) ?_ e
  unfold f_X2_add
  show am_Sm tb_X2_add 2 false none (some .int) (d + 0) (am_po am_cI sw) _ 0 [.ref 21, .int x1, .int x2] [] (am_hp sw s)
  refine sm_br 4 11 9 [.ref 21, .int x1, .int x2] [] (am_hp sw s) (fun _ => rfl) (fun _ => ?_) (fun _ => ?_)
  · refine sm_iast 5 20 [.ref 21, .int x1, .int x2] [] sw s (i := (s.1 21 0)) (x := x1) (c := 22) (fun _ => rfl) rfl rfl rfl ?_
    refine sm_bast 5 30 [.ref 21, .int x1, .int x2] [] sw (am_wI s 22 (Int32.toNatClampNeg (s.1 21 0)) x1) (i := (s.1 21 0)) (x := x2) (c := 23) (fun _ => rfl) rfl rfl rfl rfl ?_
    exact sm_ret 10 47 [.ref 21, .int x1, .int x2] [.int (((s.1 21 0) + 1) - 1)] (am_hp sw (am_wI (am_wI (am_wI s 22 (Int32.toNatClampNeg (s.1 21 0)) x1) 23 (Int32.toNatClampNeg (s.1 21 0)) (am_nar 3 x2)) 21 0 ((s.1 21 0) + 1))) (some (.int (((s.1 21 0) + 1) - 1))) (fun _ => rfl) rfl (fun _ _ h => h)
  · exact sm_ret 1 10 [.ref 21, .int x1, .int x2] [.int (-1)] (am_hp sw s) (some (.int (-1))) (fun _ => rfl) rfl (fun _ _ h => h)

def f_X2_owns (s : am_S) (x1 : Int32) (x2 : Int32) : Option (Int32 × am_S) := am_gu (am_in ((x1 * 8) + x2) 64) (am_gu (decide ((s.1 25 (Int32.toNatClampNeg ((x1 * 8) + x2))) &&& 1 = (s.1 25 (Int32.toNatClampNeg ((x1 * 8) + x2))))) (some ((s.1 25 (Int32.toNatClampNeg ((x1 * 8) + x2))), s)))
set_option maxRecDepth 20000 in
theorem r_X2_owns (d : Nat) (sw : Bool) (s s' : am_S) (x1 : Int32) (x2 : Int32) (v : Int32) (e : f_X2_owns s x1 x2 = some (v, s')) : am_Run (d + 1) 21 [.ref 21, .int x1, .int x2] (am_hp sw s) (am_cI v) (am_hp sw s') := by
  refine am_Run.of (M := mt_X2_owns) (cvf := am_cI) (X := f_X2_owns s x1 x2) rfl rfl rfl (by simp) ?_ e
  unfold f_X2_owns
  show am_Sm tb_X2_owns 2 false none (some .boolean) (d + 0) (am_po am_cI sw) _ 0 [.ref 21, .int x1, .int x2] [] (am_hp sw s)
  refine sm_bald 7 10 [.ref 21, .int x1, .int x2] [] (am_hp sw s) (i := ((x1 * 8) + x2)) (c := 25) (fun _ => rfl) rfl rfl rfl rfl ?_
  refine sm_gu (fun h9 => ?_)
  exact sm_ret 0 11 [.ref 21, .int x1, .int x2] [.int (s.1 25 (Int32.toNatClampNeg ((x1 * 8) + x2)))] (am_hp sw s) (some (.int (s.1 25 (Int32.toNatClampNeg ((x1 * 8) + x2))))) (fun _ => rfl) (am_rtb h9) (fun _ _ h => h)

def f_X2_mayCarve (s : am_S) (x1 : Int32) (x2 : Int32) (x3 : Int32) : Option (Int32 × am_S) := am_gu (am_in ((x1 * 8) + x2) 64) (if (s.1 25 (Int32.toNatClampNeg ((x1 * 8) + x2))) = 0 then (am_gu (am_in ((x1 * 8) + x2) 64) (if (lg_cmp (((Int64.toUInt64 (s.2 26 (Int32.toNatClampNeg ((x1 * 8) + x2))) >>> ((Int32.toInt64 x3).toUInt64 &&& Int64.toUInt64 63)).toInt64) &&& (lN 1)) (lN 0)) = 0 then (some ((0), s)) else (some ((1), s)))) else (some ((1), s)))
set_option maxRecDepth 20000 in
theorem r_X2_mayCarve (d : Nat) (sw : Bool) (s s' : am_S) (x1 : Int32) (x2 : Int32) (x3 : Int32) (v : Int32) (e : f_X2_mayCarve s x1 x2 x3 = some (v, s')) : am_Run (d + 1) 24 [.ref 21, .int x1, .int x2, .int x3] (am_hp sw s) (am_cI v) (am_hp sw s') := by
  refine am_Run.of (M := mt_X2_mayCarve) (cvf := am_cI) (X := f_X2_mayCarve s x1 x2 x3) rfl rfl rfl (by simp) ?_ e
  unfold f_X2_mayCarve
  show am_Sm tb_X2_mayCarve 2 false none (some .boolean) (d + 0) (am_po am_cI sw) _ 0 [.ref 21, .int x1, .int x2, .int x3, .null] [] (am_hp sw s)
  refine sm_bald 9 14 [.ref 21, .int x1, .int x2, .int x3, .int ((x1 * 8) + x2)] [] (am_hp sw s) (i := ((x1 * 8) + x2)) (c := 25) (fun _ => rfl) rfl rfl rfl rfl ?_
  refine sm_br 1 18 34 [.ref 21, .int x1, .int x2, .int x3, .int ((x1 * 8) + x2)] [] (am_hp sw s) (fun _ => rfl) (fun _ => ?_) (fun _ => ?_)
  · refine sm_lald 3 24 [.ref 21, .int x1, .int x2, .int x3, .int ((x1 * 8) + x2)] [] (am_hp sw s) (i := ((x1 * 8) + x2)) (c := 26) (fun _ => rfl) rfl rfl rfl ?_
    refine sm_br 7 38 34 [.ref 21, .int x1, .int x2, .int x3, .int ((x1 * 8) + x2)] [] (am_hp sw s) (fun _ => rfl) (fun _ => ?_) (fun _ => ?_)
    · exact sm_ret 1 39 [.ref 21, .int x1, .int x2, .int x3, .int ((x1 * 8) + x2)] [.int (0)] (am_hp sw s) (some (.int (0))) (fun _ => rfl) rfl (fun _ _ h => h)
    · exact sm_ret 2 39 [.ref 21, .int x1, .int x2, .int x3, .int ((x1 * 8) + x2)] [.int (1)] (am_hp sw s) (some (.int (1))) (fun _ => rfl) rfl (fun _ _ h => h)
  · exact sm_ret 2 39 [.ref 21, .int x1, .int x2, .int x3, .int ((x1 * 8) + x2)] [.int (1)] (am_hp sw s) (some (.int (1))) (fun _ => rfl) rfl (fun _ _ h => h)

def f_X2_carvable_L15 : Nat → Int32 → Int32 → Int32 → Int32 → am_S → Option ((Int32 × am_S) ⊕ ((Int32) × am_S))
  | 0, _, _, _, _, _ => none
  | n + 1, x1, x2, x3, x4, s => if x4 < 8 then (am_bd (f_X2_mayCarve s x3 x4 x1) (fun v27 s27 => am_jn (fun (p40 : Int32 × am_S) => f_X2_carvable_L15 n x1 p40.1 x3 (x4 + 1) p40.2) (fun j40 => if v27 = 0 then (j40 (x2, s27)) else (j40 ((x2 ||| (1 <<< (x4 &&& 31))), s27))))) else (some (.inr (x2, s)))
def f_X2_carvable_L4 : Nat → Int32 → Int32 → Int32 → am_S → Option ((Int32 × am_S) ⊕ ((Int32) × am_S))
  | 0, _, _, _, _ => none
  | n + 1, x1, x2, x3, s => if x3 < (s.1 21 0) then (am_lp Sum.inl (f_X2_carvable_L15 am_FU x1 x2 x3 (0) s) (fun y15 s15 => f_X2_carvable_L4 n x1 y15 (x3 + 1) s15)) else (some (.inr (x2, s)))
def f_X2_carvable (s : am_S) (x1 : Int32) : Option (Int32 × am_S) := am_lp (fun y => y) (f_X2_carvable_L4 am_FU x1 (0) (0) s) (fun y4 s4 => some (y4, s4))
set_option maxRecDepth 20000 in
theorem l_X2_carvable_15 (d : Nat) (sw : Bool) : ∀ (n : Nat) (x1 : Int32) (x2 : Int32) (x3 : Int32) (x4 : Int32) (s : am_S), am_Sm tb_X2_carvable 2 false none (some .int) (d + 1) (am_pl am_cI sw (fun (v9 : Int32) s9 r h9 => am_Ex tb_X2_carvable 2 false none (some .int) (d + 1) r h9 46 [.ref 21, .int x1, .int v9, .int x3, .null] [] (am_hp sw s9))) (f_X2_carvable_L15 n x1 x2 x3 x4 s) 15 [.ref 21, .int x1, .int x2, .int x3, .int x4] [] (am_hp sw s) := by
  intro n
  induction n with
  | zero => intro x1 x2 x3 x4 s; exact sm_no
  | succ n ih =>
    intro x1 x2 x3 x4 s
    rw [f_X2_carvable_L15]
    refine sm_br 3 22 46 [.ref 21, .int x1, .int x2, .int x3, .int x4] [] (am_hp sw s) (fun _ => rfl) (fun _ => ?_) (fun _ => ?_)
    · refine sm_call (cvf := am_cI) 4 27 [.ref 21, .int x1, .int x2, .int x3, .int x4] [.int x1, .int x4, .int x3, .ref 21] sw s 24 [.ref 21, .int x3, .int x4, .int x1] [] (fun _ => rfl) rfl (fun _ _ e9 => r_X2_mayCarve (d + 0) sw _ _ _ _ _ _ e9) am_pl20 (fun v27 s27 => ?_)
      refine sm_jn 40 (fun p40 => [.ref 21, .int x1, .int p40.1, .int x3, .int x4]) (fun p40 => []) (fun p40 => (am_hp sw p40.2)) (fun p40 => ?_) (fun j40 hj40 => ?_)
      · refine sm_go 2 15 [.ref 21, .int x1, .int p40.1, .int x3, .int (x4 + 1)] [] (am_hp sw p40.2) (fun _ => rfl) ?_
        exact ih x1 p40.1 x3 (x4 + 1) p40.2
      refine sm_br 1 40 33 [.ref 21, .int x1, .int x2, .int x3, .int x4] [] (am_hp sw s27) (fun _ => rfl) (fun _ => ?_) (fun _ => ?_)
      · exact hj40 (x2, s27)
      · refine sm_go 6 40 [.ref 21, .int x1, .int (x2 ||| (1 <<< (x4 &&& 31))), .int x3, .int x4] [] (am_hp sw s27) (fun _ => rfl) ?_
        exact hj40 ((x2 ||| (1 <<< (x4 &&& 31))), s27)
    · refine sm_fg [.ref 21, .int x1, .int x2, .int x3, .null] ⟨Or.inr rfl, Or.inr rfl, Or.inr rfl, Or.inr rfl, Or.inl rfl, trivial⟩ ?_
      exact sm_ex (fun _ _ h => h.2)

set_option maxRecDepth 20000 in
theorem l_X2_carvable_4 (d : Nat) (sw : Bool) : ∀ (n : Nat) (x1 : Int32) (x2 : Int32) (x3 : Int32) (s : am_S), am_Sm tb_X2_carvable 2 false none (some .int) (d + 1) (am_pl am_cI sw (fun (v9 : Int32) s9 r h9 => am_Ex tb_X2_carvable 2 false none (some .int) (d + 1) r h9 52 [.null, .null, .int v9, .null, .null] [] (am_hp sw s9))) (f_X2_carvable_L4 n x1 x2 x3 s) 4 [.ref 21, .int x1, .int x2, .int x3, .null] [] (am_hp sw s) := by
  intro n
  induction n with
  | zero => intro x1 x2 x3 s; exact sm_no
  | succ n ih =>
    intro x1 x2 x3 s
    rw [f_X2_carvable_L4]
    refine sm_br 4 12 52 [.ref 21, .int x1, .int x2, .int x3, .null] [] (am_hp sw s) (fun _ => rfl) (fun _ => ?_) (fun _ => ?_)
    · refine sm_go 2 15 [.ref 21, .int x1, .int x2, .int x3, .int (0)] [] (am_hp sw s) (fun _ => rfl) ?_
      refine sm_lp 46 (fun y15 => [.ref 21, .int x1, .int y15, .int x3, .null]) (l_X2_carvable_15 d sw am_FU x1 x2 x3 (0) s) (fun _ _ _ h => h) am_pl20 (fun y15 s15 => ?_)
      refine sm_go 2 4 [.ref 21, .int x1, .int y15, .int (x3 + 1), .null] [] (am_hp sw s15) (fun _ => rfl) ?_
      exact ih x1 y15 (x3 + 1) s15
    · refine sm_fg [.null, .null, .int x2, .null, .null] ⟨Or.inl rfl, Or.inl rfl, Or.inr rfl, Or.inl rfl, Or.inl rfl, trivial⟩ ?_
      exact sm_ex (fun _ _ h => h.2)

set_option maxRecDepth 20000 in
theorem r_X2_carvable (d : Nat) (sw : Bool) (s s' : am_S) (x1 : Int32) (v : Int32) (e : f_X2_carvable s x1 = some (v, s')) : am_Run (d + 2) 25 [.ref 21, .int x1] (am_hp sw s) (am_cI v) (am_hp sw s') := by
  refine am_Run.of (M := mt_X2_carvable) (cvf := am_cI) (X := f_X2_carvable s x1) rfl rfl rfl (by simp) ?_ e
  unfold f_X2_carvable
  show am_Sm tb_X2_carvable 2 false none (some .int) (d + 1) (am_po am_cI sw) _ 0 [.ref 21, .int x1, .null, .null, .null] [] (am_hp sw s)
  refine sm_go 4 4 [.ref 21, .int x1, .int (0), .int (0), .null] [] (am_hp sw s) (fun _ => rfl) ?_
  refine sm_lp 52 (fun y4 => [.null, .null, .int y4, .null, .null]) (l_X2_carvable_4 d sw am_FU x1 (0) (0) s) (fun _ _ _ h => h) am_po20 (fun y4 s4 => ?_)
  exact sm_ret 1 53 [.null, .null, .int y4, .null, .null] [.int y4] (am_hp sw s4) (some (.int y4)) (fun _ => rfl) rfl (fun _ _ h => h)

