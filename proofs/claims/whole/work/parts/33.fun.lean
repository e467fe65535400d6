/-! ===== methods as functions, and their runs (printed by wip/gen/drive.py) ===== -/
def f_X11_packed_L18 : Nat → Int32 → Int32 → Int32 → Int32 → am_S → Option ((Int32 × am_S) ⊕ ((Unit) × am_S))
  | 0, _, _, _, _, _ => none
  | n + 1, x1, x2, x3, x4, s => if x4 < (s.1 39 1) then (am_gu (am_in x4 400) (am_jn (fun (p55 : Int32 × am_S) => f_X11_packed_L18 n x1 x2 p55.1 (x4 + 1) p55.2) (fun j55 => if (s.1 43 (Int32.toNatClampNeg x4)) = x1 then (if x3 = x2 then (some (.inl (x4, s))) else (j55 ((x3 + 1), s))) else (j55 (x3, s))))) else (some (.inr ((), s)))
def f_X11_packed (s : am_S) (x1 : Int32) (x2 : Int32) : Option (Int32 × am_S) := am_bd (f_X5_has s x1) (fun v5 s5 => if v5 = 0 then (some ((-1), s5)) else (am_lp (fun y => y) (f_X11_packed_L18 am_FU x1 x2 (0) (0) s5) (fun (_ : Unit) s18 => some ((-1), s18))))
set_option maxRecDepth 20000 in
theorem l_X11_packed_18 (d : Nat) (sw : Bool) : ∀ (n : Nat) (x1 : Int32) (x2 : Int32) (x3 : Int32) (x4 : Int32) (s : am_S), am_Sm tb_X11_packed 11 false none (some .int) (d + 1) (am_pl am_cI sw (fun (v9 : Unit) s9 r h9 => am_Ex tb_X11_packed 11 false none (some .int) (d + 1) r h9 61 [.null, .null, .null, .null, .null] [] (am_hp sw s9))) (f_X11_packed_L18 n x1 x2 x3 x4 s) 18 [.ref 0, .int x1, .int x2, .int x3, .int x4] [] (am_hp sw s) := by
  intro n
  induction n with
  | zero => intro x1 x2 x3 x4 s; exact sm_no
  | succ n ih =>
    intro x1 x2 x3 x4 s
    rw [f_X11_packed_L18]
    refine sm_br 5 30 61 [.ref 0, .int x1, .int x2, .int x3, .int x4] [] (am_hp sw s) (fun _ => rfl) (fun _ => ?_) (fun _ => ?_)
    · refine sm_iald 4 39 [.ref 0, .int x1, .int x2, .int x3, .int x4] [] (am_hp sw s) (i := x4) (c := 43) (fun _ => rfl) rfl rfl rfl rfl ?_
      refine sm_go 1 41 [.ref 0, .int x1, .int x2, .int x3, .int x4] [.int x1, .int (s.1 43 (Int32.toNatClampNeg x4))] (am_hp sw s) (fun _ => rfl) ?_
      refine sm_jn 55 (fun p55 => [.ref 0, .int x1, .int x2, .int p55.1, .int x4]) (fun p55 => []) (fun p55 => (am_hp sw p55.2)) (fun p55 => ?_) (fun j55 hj55 => ?_)
      · refine sm_go 2 18 [.ref 0, .int x1, .int x2, .int p55.1, .int (x4 + 1)] [] (am_hp sw p55.2) (fun _ => rfl) ?_
        exact ih x1 x2 p55.1 (x4 + 1) p55.2
      refine sm_br 1 44 55 [.ref 0, .int x1, .int x2, .int x3, .int x4] [] (am_hp sw s) (fun _ => rfl) (fun _ => ?_) (fun _ => ?_)
      · refine sm_br 3 49 52 [.ref 0, .int x1, .int x2, .int x3, .int x4] [] (am_hp sw s) (fun _ => rfl) (fun _ => ?_) (fun _ => ?_)
        · exact sm_ret 1 51 [.ref 0, .int x1, .int x2, .int x3, .int x4] [.int x4] (am_hp sw s) (some (.int x4)) (fun _ => rfl) rfl (fun _ _ h => h)
        · refine sm_go 1 55 [.ref 0, .int x1, .int x2, .int (x3 + 1), .int x4] [] (am_hp sw s) (fun _ => rfl) ?_
          exact hj55 ((x3 + 1), s)
      · exact hj55 (x3, s)
    · refine sm_fg [.null, .null, .null, .null, .null] ⟨Or.inl rfl, Or.inl rfl, Or.inl rfl, Or.inl rfl, Or.inl rfl, trivial⟩ ?_
      exact sm_ex (fun _ _ h => h.2)

set_option maxRecDepth 20000 in
theorem r_X11_packed (d : Nat) (sw : Bool) (s s' : am_S) (x1 : Int32) (x2 : Int32) (v : Int32) (e : f_X11_packed s x1 x2 = some (v, s')) : am_Run (d + 2) 114 [.ref 0, .int x1, .int x2] (am_hp sw s) (am_cI v) (am_hp sw s') := by
  refine am_Run.of (M := mt_X11_packed) (cvf := am_cI) (X := f_X11_packed s x1 x2) rfl rfl rfl (by simp) ?_ e
  unfold f_X11_packed
  show am_Sm tb_X11_packed 11 false none (some .int) (d + 1) (am_po am_cI sw) _ 0 [.ref 0, .int x1, .int x2, .null, .null] [] (am_hp sw s)
  refine sm_call (cvf := am_cI) 3 5 [.ref 0, .int x1, .int x2, .null, .null] [.int x1, .ref 46] sw s 44 [.ref 46, .int x1] [] (fun _ => rfl) rfl (fun _ _ e9 => r_X5_has (d + 0) sw _ _ _ _ e9) am_po20 (fun v5 s5 => ?_)
  refine sm_br 1 11 13 [.ref 0, .int x1, .int x2, .null, .null] [] (am_hp sw s5) (fun _ => rfl) (fun _ => ?_) (fun _ => ?_)
  · exact sm_ret 1 12 [.ref 0, .int x1, .int x2, .null, .null] [.int (-1)] (am_hp sw s5) (some (.int (-1))) (fun _ => rfl) rfl (fun _ _ h => h)
  · refine sm_go 4 18 [.ref 0, .int x1, .int x2, .int (0), .int (0)] [] (am_hp sw s5) (fun _ => rfl) ?_
    refine sm_lp 61 (fun _y => [.null, .null, .null, .null, .null]) (l_X11_packed_18 d sw am_FU x1 x2 (0) (0) s5) (fun _ _ _ h => h) am_po20 (fun _y s18 => ?_)
    exact sm_ret 1 62 [.null, .null, .null, .null, .null] [.int (-1)] (am_hp sw s18) (some (.int (-1))) (fun _ => rfl) rfl (fun _ _ h => h)

def f_X11_told (s : am_S) (x1 : Int32) (x2 : Int32) : Option (Int32 × am_S) := am_bd (f_X5_has s x1) (fun v5 s5 => if v5 = 0 then (some ((-1), s5)) else (if x2 = 0 then (am_gu (am_in x1 8) (some ((s5.1 48 (Int32.toNatClampNeg x1)), s5))) else if x2 = 1 then (am_gu (am_in x1 8) (some ((s5.1 47 (Int32.toNatClampNeg x1)), s5))) else if x2 = 2 then (am_bd (f_X5_figuresNeeded s5 x1) (fun v73 s73 => some (v73, s73))) else if x2 = 3 then (am_gu (am_in x1 8) (some ((s5.1 50 (Int32.toNatClampNeg x1)), s5))) else if x2 = 4 then (am_gu (am_in x1 8) (some ((s5.1 49 (Int32.toNatClampNeg x1)), s5))) else (some ((-1), s5))))
set_option maxRecDepth 20000 in
theorem r_X11_told (d : Nat) (sw : Bool) (s s' : am_S) (x1 : Int32) (x2 : Int32) (v : Int32) (e : f_X11_told s x1 x2 = some (v, s')) : am_Run (d + 2) 115 [.ref 0, .int x1, .int x2] (am_hp sw s) (am_cI v) (am_hp sw s') := by
  refine am_Run.of (M := mt_X11_told) (cvf := am_cI) (X := f_X11_told s x1 x2) rfl rfl rfl (by simp) ?_ e
  unfold f_X11_told
  show am_Sm tb_X11_told 11 false none (some .int) (d + 1) (am_po am_cI sw) _ 0 [.ref 0, .int x1, .int x2] [] (am_hp sw s)
  refine sm_call (cvf := am_cI) 3 5 [.ref 0, .int x1, .int x2] [.int x1, .ref 46] sw s 44 [.ref 46, .int x1] [] (fun _ => rfl) rfl (fun _ _ e9 => r_X5_has (d + 0) sw _ _ _ _ e9) am_po20 (fun v5 s5 => ?_)
  refine sm_br 1 11 13 [.ref 0, .int x1, .int x2] [] (am_hp sw s5) (fun _ => rfl) (fun _ => ?_) (fun _ => ?_)
  · exact sm_ret 1 12 [.ref 0, .int x1, .int x2] [.int (-1)] (am_hp sw s5) (some (.int (-1))) (fun _ => rfl) rfl (fun _ _ h => h)
  · refine sm_go 2 (am_sw x2 (0) 97 [48, 58, 68, 77, 87]) [.ref 0, .int x1, .int x2] [] (am_hp sw s5) (fun _ => rfl) ?_
    refine sm_sw1 1 (by decide) (fun _ => ?_) (fun _ => ?_)
    · refine sm_iald 4 56 [.ref 0, .int x1, .int x2] [] (am_hp sw s5) (i := x1) (c := 48) (fun _ => rfl) rfl rfl rfl rfl ?_
      exact sm_ret 0 57 [.ref 0, .int x1, .int x2] [.int (s5.1 48 (Int32.toNatClampNeg x1))] (am_hp sw s5) (some (.int (s5.1 48 (Int32.toNatClampNeg x1)))) (fun _ => rfl) rfl (fun _ _ h => h)
    refine sm_sw1 2 (by decide) (fun _ => ?_) (fun _ => ?_)
    · refine sm_iald 4 66 [.ref 0, .int x1, .int x2] [] (am_hp sw s5) (i := x1) (c := 47) (fun _ => rfl) rfl rfl rfl rfl ?_
      exact sm_ret 0 67 [.ref 0, .int x1, .int x2] [.int (s5.1 47 (Int32.toNatClampNeg x1))] (am_hp sw s5) (some (.int (s5.1 47 (Int32.toNatClampNeg x1)))) (fun _ => rfl) rfl (fun _ _ h => h)
    refine sm_sw1 3 (by decide) (fun _ => ?_) (fun _ => ?_)
    · refine sm_call (cvf := am_cI) 3 73 [.ref 0, .int x1, .int x2] [.int x1, .ref 46] sw s5 47 [.ref 46, .int x1] [] (fun _ => rfl) rfl (fun _ _ e9 => r_X5_figuresNeeded (d + 0) sw _ _ _ _ e9) am_po20 (fun v73 s73 => ?_)
      exact sm_ret 0 76 [.ref 0, .int x1, .int x2] [.int v73] (am_hp sw s73) (some (.int v73)) (fun _ => rfl) rfl (fun _ _ h => h)
    refine sm_sw1 4 (by decide) (fun _ => ?_) (fun _ => ?_)
    · refine sm_iald 4 85 [.ref 0, .int x1, .int x2] [] (am_hp sw s5) (i := x1) (c := 50) (fun _ => rfl) rfl rfl rfl rfl ?_
      exact sm_ret 0 86 [.ref 0, .int x1, .int x2] [.int (s5.1 50 (Int32.toNatClampNeg x1))] (am_hp sw s5) (some (.int (s5.1 50 (Int32.toNatClampNeg x1)))) (fun _ => rfl) rfl (fun _ _ h => h)
    refine sm_sw1 5 (by decide) (fun _ => ?_) (fun _ => ?_)
    · refine sm_iald 4 95 [.ref 0, .int x1, .int x2] [] (am_hp sw s5) (i := x1) (c := 49) (fun _ => rfl) rfl rfl rfl rfl ?_
      exact sm_ret 0 96 [.ref 0, .int x1, .int x2] [.int (s5.1 49 (Int32.toNatClampNeg x1))] (am_hp sw s5) (some (.int (s5.1 49 (Int32.toNatClampNeg x1)))) (fun _ => rfl) rfl (fun _ _ h => h)
    refine sm_sw0 ?_
    exact sm_ret 1 98 [.ref 0, .int x1, .int x2] [.int (-1)] (am_hp sw s5) (some (.int (-1))) (fun _ => rfl) rfl (fun _ _ h => h)

def f_X11_found_L18 : Nat → Int32 → Int32 → Int32 → Int32 → am_S → Option ((Int32 × am_S) ⊕ ((Unit) × am_S))
  | 0, _, _, _, _, _ => none
  | n + 1, x1, x2, x3, x4, s => if x4 < (s.1 46 0) then (am_bd (f_X3_isLotInBoxOf s x1 x4) (fun v37 s37 => am_jn (fun (p54 : Int32 × am_S) => f_X11_found_L18 n x1 x2 p54.1 (x4 + 1) p54.2) (fun j54 => if v37 = 0 then (j54 (x3, s37)) else (if x3 = x2 then (some (.inl (x4, s37))) else (j54 ((x3 + 1), s37)))))) else (some (.inr ((), s)))
def f_X11_found (s : am_S) (x1 : Int32) (x2 : Int32) : Option (Int32 × am_S) := am_bd (f_X3_hasLot s x1) (fun v5 s5 => if v5 = 0 then (some ((-1), s5)) else (am_lp (fun y => y) (f_X11_found_L18 am_FU x1 x2 (0) (0) s5) (fun (_ : Unit) s18 => some ((-1), s18))))
set_option maxRecDepth 20000 in
theorem l_X11_found_18 (d : Nat) (sw : Bool) : ∀ (n : Nat) (x1 : Int32) (x2 : Int32) (x3 : Int32) (x4 : Int32) (s : am_S), am_Sm tb_X11_found 11 false none (some .int) (d + 1) (am_pl am_cI sw (fun (v9 : Unit) s9 r h9 => am_Ex tb_X11_found 11 false none (some .int) (d + 1) r h9 60 [.null, .null, .null, .null, .null] [] (am_hp sw s9))) (f_X11_found_L18 n x1 x2 x3 x4 s) 18 [.ref 0, .int x1, .int x2, .int x3, .int x4] [] (am_hp sw s) := by
  intro n
  induction n with
  | zero => intro x1 x2 x3 x4 s; exact sm_no
  | succ n ih =>
    intro x1 x2 x3 x4 s
    rw [f_X11_found_L18]
    refine sm_br 5 30 60 [.ref 0, .int x1, .int x2, .int x3, .int x4] [] (am_hp sw s) (fun _ => rfl) (fun _ => ?_) (fun _ => ?_)
    · refine sm_call (cvf := am_cI) 4 37 [.ref 0, .int x1, .int x2, .int x3, .int x4] [.int x4, .int x1, .ref 39] sw s 38 [.ref 39, .int x1, .int x4] [] (fun _ => rfl) rfl (fun _ _ e9 => r_X3_isLotInBoxOf (d + 0) sw _ _ _ _ _ e9) am_pl20 (fun v37 s37 => ?_)
      refine sm_jn 54 (fun p54 => [.ref 0, .int x1, .int x2, .int p54.1, .int x4]) (fun p54 => []) (fun p54 => (am_hp sw p54.2)) (fun p54 => ?_) (fun j54 hj54 => ?_)
      · refine sm_go 2 18 [.ref 0, .int x1, .int x2, .int p54.1, .int (x4 + 1)] [] (am_hp sw p54.2) (fun _ => rfl) ?_
        exact ih x1 x2 p54.1 (x4 + 1) p54.2
      refine sm_br 1 54 43 [.ref 0, .int x1, .int x2, .int x3, .int x4] [] (am_hp sw s37) (fun _ => rfl) (fun _ => ?_) (fun _ => ?_)
      · exact hj54 (x3, s37)
      · refine sm_br 3 48 51 [.ref 0, .int x1, .int x2, .int x3, .int x4] [] (am_hp sw s37) (fun _ => rfl) (fun _ => ?_) (fun _ => ?_)
        · exact sm_ret 1 50 [.ref 0, .int x1, .int x2, .int x3, .int x4] [.int x4] (am_hp sw s37) (some (.int x4)) (fun _ => rfl) rfl (fun _ _ h => h)
        · refine sm_go 1 54 [.ref 0, .int x1, .int x2, .int (x3 + 1), .int x4] [] (am_hp sw s37) (fun _ => rfl) ?_
          exact hj54 ((x3 + 1), s37)
    · refine sm_fg [.null, .null, .null, .null, .null] ⟨Or.inl rfl, Or.inl rfl, Or.inl rfl, Or.inl rfl, Or.inl rfl, trivial⟩ ?_
      exact sm_ex (fun _ _ h => h.2)

set_option maxRecDepth 20000 in
theorem r_X11_found (d : Nat) (sw : Bool) (s s' : am_S) (x1 : Int32) (x2 : Int32) (v : Int32) (e : f_X11_found s x1 x2 = some (v, s')) : am_Run (d + 2) 116 [.ref 0, .int x1, .int x2] (am_hp sw s) (am_cI v) (am_hp sw s') := by
  refine am_Run.of (M := mt_X11_found) (cvf := am_cI) (X := f_X11_found s x1 x2) rfl rfl rfl (by simp) ?_ e
  unfold f_X11_found
  show am_Sm tb_X11_found 11 false none (some .int) (d + 1) (am_po am_cI sw) _ 0 [.ref 0, .int x1, .int x2, .null, .null] [] (am_hp sw s)
  refine sm_call (cvf := am_cI) 3 5 [.ref 0, .int x1, .int x2, .null, .null] [.int x1, .ref 39] sw s 36 [.ref 39, .int x1] [] (fun _ => rfl) rfl (fun _ _ e9 => r_X3_hasLot (d + 0) sw _ _ _ _ e9) am_po20 (fun v5 s5 => ?_)
  refine sm_br 1 11 13 [.ref 0, .int x1, .int x2, .null, .null] [] (am_hp sw s5) (fun _ => rfl) (fun _ => ?_) (fun _ => ?_)
  · exact sm_ret 1 12 [.ref 0, .int x1, .int x2, .null, .null] [.int (-1)] (am_hp sw s5) (some (.int (-1))) (fun _ => rfl) rfl (fun _ _ h => h)
  · refine sm_go 4 18 [.ref 0, .int x1, .int x2, .int (0), .int (0)] [] (am_hp sw s5) (fun _ => rfl) ?_
    refine sm_lp 60 (fun _y => [.null, .null, .null, .null, .null]) (l_X11_found_18 d sw am_FU x1 x2 (0) (0) s5) (fun _ _ _ h => h) am_po20 (fun _y s18 => ?_)
    exact sm_ret 1 61 [.null, .null, .null, .null, .null] [.int (-1)] (am_hp sw s18) (some (.int (-1))) (fun _ => rfl) rfl (fun _ _ h => h)

def f_X11_rest_L25 : Nat → Int32 → Int32 → Int32 → Int32 → am_S → Option ((Int32 × am_S) ⊕ ((Int32) × am_S))
  | 0, _, _, _, _, _ => none
  | n + 1, x1, x2, x3, x4, s => if x4 < (s.1 39 1) then (am_bd (f_X3_isFree s x4 x1) (fun v44 s44 => am_jn (fun (p66 : Int32 × am_S) => f_X11_rest_L25 n x1 x2 p66.1 (x4 + 1) p66.2) (fun j66 => if v44 = 0 then (j66 (x3, s44)) else (am_bd (f_X3_colourOf s44 x4) (fun v56 s56 => if v56 = x2 then (j66 ((x3 + 1), s56)) else (j66 (x3, s56))))))) else (some (.inr (x3, s)))
def f_X11_rest (s : am_S) (x1 : Int32) (x2 : Int32) : Option (Int32 × am_S) := am_bd (f_X4_has s x1) (fun v5 s5 => if v5 = 0 then (some ((-1), s5)) else (am_bd (f_X11_isColourOrNone s5 x2) (fun v12 s12 => if v12 = 0 then (some ((-1), s12)) else (am_lp (fun y => y) (f_X11_rest_L25 am_FU x1 x2 (0) (0) s12) (fun y25 s25 => some (y25, s25))))))
set_option maxRecDepth 20000 in
theorem l_X11_rest_25 (d : Nat) (sw : Bool) : ∀ (n : Nat) (x1 : Int32) (x2 : Int32) (x3 : Int32) (x4 : Int32) (s : am_S), am_Sm tb_X11_rest 11 false none (some .int) (d + 2) (am_pl am_cI sw (fun (v9 : Int32) s9 r h9 => am_Ex tb_X11_rest 11 false none (some .int) (d + 2) r h9 72 [.null, .null, .null, .int v9, .null] [] (am_hp sw s9))) (f_X11_rest_L25 n x1 x2 x3 x4 s) 25 [.ref 0, .int x1, .int x2, .int x3, .int x4] [] (am_hp sw s) := by
  intro n
  induction n with
  | zero => intro x1 x2 x3 x4 s; exact sm_no
  | succ n ih =>
    intro x1 x2 x3 x4 s
    rw [f_X11_rest_L25]
    refine sm_br 5 37 72 [.ref 0, .int x1, .int x2, .int x3, .int x4] [] (am_hp sw s) (fun _ => rfl) (fun _ => ?_) (fun _ => ?_)
    · refine sm_call (cvf := am_cI) 4 44 [.ref 0, .int x1, .int x2, .int x3, .int x4] [.int x1, .int x4, .ref 39] sw s 34 [.ref 39, .int x4, .int x1] [] (fun _ => rfl) rfl (fun _ _ e9 => r_X3_isFree (d + 0) sw _ _ _ _ _ e9) am_pl20 (fun v44 s44 => ?_)
      refine sm_jn 66 (fun p66 => [.ref 0, .int x1, .int x2, .int p66.1, .int x4]) (fun p66 => []) (fun p66 => (am_hp sw p66.2)) (fun p66 => ?_) (fun j66 hj66 => ?_)
      · refine sm_go 2 25 [.ref 0, .int x1, .int x2, .int p66.1, .int (x4 + 1)] [] (am_hp sw p66.2) (fun _ => rfl) ?_
        exact ih x1 x2 p66.1 (x4 + 1) p66.2
      refine sm_br 1 66 50 [.ref 0, .int x1, .int x2, .int x3, .int x4] [] (am_hp sw s44) (fun _ => rfl) (fun _ => ?_) (fun _ => ?_)
      · exact hj66 (x3, s44)
      · refine sm_call (cvf := am_cI) 3 56 [.ref 0, .int x1, .int x2, .int x3, .int x4] [.int x4, .ref 39] sw s44 33 [.ref 39, .int x4] [] (fun _ => rfl) rfl (fun _ _ e9 => r_X3_colourOf (d + 1) sw _ _ _ _ e9) am_pl20 (fun v56 s56 => ?_)
        refine sm_br 2 63 66 [.ref 0, .int x1, .int x2, .int x3, .int x4] [] (am_hp sw s56) (fun _ => rfl) (fun _ => ?_) (fun _ => ?_)
        · refine sm_go 1 66 [.ref 0, .int x1, .int x2, .int (x3 + 1), .int x4] [] (am_hp sw s56) (fun _ => rfl) ?_
          exact hj66 ((x3 + 1), s56)
        · exact hj66 (x3, s56)
    · refine sm_fg [.null, .null, .null, .int x3, .null] ⟨Or.inl rfl, Or.inl rfl, Or.inl rfl, Or.inr rfl, Or.inl rfl, trivial⟩ ?_
      exact sm_ex (fun _ _ h => h.2)

set_option maxRecDepth 20000 in
theorem r_X11_rest (d : Nat) (sw : Bool) (s s' : am_S) (x1 : Int32) (x2 : Int32) (v : Int32) (e : f_X11_rest s x1 x2 = some (v, s')) : am_Run (d + 3) 117 [.ref 0, .int x1, .int x2] (am_hp sw s) (am_cI v) (am_hp sw s') := by
  refine am_Run.of (M := mt_X11_rest) (cvf := am_cI) (X := f_X11_rest s x1 x2) rfl rfl rfl (by simp) ?_ e
  unfold f_X11_rest
  show am_Sm tb_X11_rest 11 false none (some .int) (d + 2) (am_po am_cI sw) _ 0 [.ref 0, .int x1, .int x2, .null, .null] [] (am_hp sw s)
  refine sm_call (cvf := am_cI) 3 5 [.ref 0, .int x1, .int x2, .null, .null] [.int x1, .ref 17] sw s 40 [.ref 17, .int x1] [] (fun _ => rfl) rfl (fun _ _ e9 => r_X4_has (d + 1) sw _ _ _ _ e9) am_po20 (fun v5 s5 => ?_)
  refine sm_br 1 18 11 [.ref 0, .int x1, .int x2, .null, .null] [] (am_hp sw s5) (fun _ => rfl) (fun _ => ?_) (fun _ => ?_)
  · exact sm_ret 1 19 [.ref 0, .int x1, .int x2, .null, .null] [.int (-1)] (am_hp sw s5) (some (.int (-1))) (fun _ => rfl) rfl (fun _ _ h => h)
  · refine sm_call (cvf := am_cI) 1 12 [.ref 0, .int x1, .int x2, .null, .null] [.int x2] sw s5 124 [.int x2] [] (fun _ => rfl) rfl (fun _ _ e9 => r_X11_isColourOrNone (d + 0) sw _ _ _ _ e9) am_po20 (fun v12 s12 => ?_)
    refine sm_br 1 18 20 [.ref 0, .int x1, .int x2, .null, .null] [] (am_hp sw s12) (fun _ => rfl) (fun _ => ?_) (fun _ => ?_)
    · exact sm_ret 1 19 [.ref 0, .int x1, .int x2, .null, .null] [.int (-1)] (am_hp sw s12) (some (.int (-1))) (fun _ => rfl) rfl (fun _ _ h => h)
    · refine sm_go 4 25 [.ref 0, .int x1, .int x2, .int (0), .int (0)] [] (am_hp sw s12) (fun _ => rfl) ?_
      refine sm_lp 72 (fun y25 => [.null, .null, .null, .int y25, .null]) (l_X11_rest_25 d sw am_FU x1 x2 (0) (0) s12) (fun _ _ _ h => h) am_po20 (fun y25 s25 => ?_)
      exact sm_ret 1 73 [.null, .null, .null, .int y25, .null] [.int y25] (am_hp sw s25) (some (.int y25)) (fun _ => rfl) rfl (fun _ _ h => h)

def f_X11_money (s : am_S) (x1 : Int32) : Option (Int32 × am_S) := am_bd (f_X2_has s x1) (fun v5 s5 => if v5 = 0 then (some ((0), s5)) else (am_gu (am_in x1 8) (some ((s5.1 24 (Int32.toNatClampNeg x1)), s5))))
set_option maxRecDepth 20000 in
theorem r_X11_money (d : Nat) (sw : Bool) (s s' : am_S) (x1 : Int32) (v : Int32) (e : f_X11_money s x1 = some (v, s')) : am_Run (d + 2) 118 [.ref 0, .int x1] (am_hp sw s) (am_cI v) (am_hp sw s') := by
  refine am_Run.of (M := mt_X11_money) (cvf := am_cI) (X := f_X11_money s x1) rfl rfl rfl (by simp) ?_ e
  unfold f_X11_money
  show am_Sm tb_X11_money 11 false none (some .int) (d + 1) (am_po am_cI sw) _ 0 [.ref 0, .int x1] [] (am_hp sw s)
  refine sm_call (cvf := am_cI) 3 5 [.ref 0, .int x1] [.int x1, .ref 21] sw s 19 [.ref 21, .int x1] [] (fun _ => rfl) rfl (fun _ _ e9 => r_X2_has (d + 0) sw _ _ _ _ e9) am_po20 (fun v5 s5 => ?_)
  refine sm_br 1 23 11 [.ref 0, .int x1] [] (am_hp sw s5) (fun _ => rfl) (fun _ => ?_) (fun _ => ?_)
  · exact sm_ret 1 24 [.ref 0, .int x1] [.int (0)] (am_hp sw s5) (some (.int (0))) (fun _ => rfl) rfl (fun _ _ h => h)
  · refine sm_iald 4 19 [.ref 0, .int x1] [] (am_hp sw s5) (i := x1) (c := 24) (fun _ => rfl) rfl rfl rfl rfl ?_
    exact sm_ret 1 24 [.ref 0, .int x1] [.int (s5.1 24 (Int32.toNatClampNeg x1))] (am_hp sw s5) (some (.int (s5.1 24 (Int32.toNatClampNeg x1)))) (fun _ => rfl) rfl (fun _ _ h => h)

def f_X11_load (s : am_S) (x1 : Int32) (x2 : Int32) : Option (Int32 × am_S) := am_bd (f_X2_has s x1) (fun v5 s5 => if v5 = 0 then (some ((-1), s5)) else (am_bd (f_X11_isSeason s5 x2) (fun v12 s12 => if v12 = 0 then (some ((-1), s12)) else (am_bd (f_X2_carvedIn s12 x1 x2) (fun v24 s24 => some (v24, s24))))))
set_option maxRecDepth 20000 in
theorem r_X11_load (d : Nat) (sw : Bool) (s s' : am_S) (x1 : Int32) (x2 : Int32) (v : Int32) (e : f_X11_load s x1 x2 = some (v, s')) : am_Run (d + 3) 119 [.ref 0, .int x1, .int x2] (am_hp sw s) (am_cI v) (am_hp sw s') := by
  refine am_Run.of (M := mt_X11_load) (cvf := am_cI) (X := f_X11_load s x1 x2) rfl rfl rfl (by simp) ?_ e
  unfold f_X11_load
  show am_Sm tb_X11_load 11 false none (some .int) (d + 2) (am_po am_cI sw) _ 0 [.ref 0, .int x1, .int x2] [] (am_hp sw s)
  refine sm_call (cvf := am_cI) 3 5 [.ref 0, .int x1, .int x2] [.int x1, .ref 21] sw s 19 [.ref 21, .int x1] [] (fun _ => rfl) rfl (fun _ _ e9 => r_X2_has (d + 1) sw _ _ _ _ e9) am_po20 (fun v5 s5 => ?_)
  refine sm_br 1 30 11 [.ref 0, .int x1, .int x2] [] (am_hp sw s5) (fun _ => rfl) (fun _ => ?_) (fun _ => ?_)
  · exact sm_ret 1 31 [.ref 0, .int x1, .int x2] [.int (-1)] (am_hp sw s5) (some (.int (-1))) (fun _ => rfl) rfl (fun _ _ h => h)
  · refine sm_call (cvf := am_cI) 1 12 [.ref 0, .int x1, .int x2] [.int x2] sw s5 123 [.int x2] [] (fun _ => rfl) rfl (fun _ _ e9 => r_X11_isSeason (d + 0) sw _ _ _ _ e9) am_po20 (fun v12 s12 => ?_)
    refine sm_br 1 30 18 [.ref 0, .int x1, .int x2] [] (am_hp sw s12) (fun _ => rfl) (fun _ => ?_) (fun _ => ?_)
    · exact sm_ret 1 31 [.ref 0, .int x1, .int x2] [.int (-1)] (am_hp sw s12) (some (.int (-1))) (fun _ => rfl) rfl (fun _ _ h => h)
    · refine sm_call (cvf := am_cI) 4 24 [.ref 0, .int x1, .int x2] [.int x2, .int x1, .ref 21] sw s12 26 [.ref 21, .int x1, .int x2] [] (fun _ => rfl) rfl (fun _ _ e9 => r_X2_carvedIn (d + 1) sw _ _ _ _ _ e9) am_po20 (fun v24 s24 => ?_)
      exact sm_ret 1 31 [.ref 0, .int x1, .int x2] [.int v24] (am_hp sw s24) (some (.int v24)) (fun _ => rfl) rfl (fun _ _ h => h)

def f_X11_waste (s : am_S) (x1 : Int32) : Option (Int32 × am_S) := if x1 < 0 then (some ((-1), s)) else (if x1 < (s.1 32 0) then (am_gu (am_in x1 30) (some ((s.1 33 (Int32.toNatClampNeg x1)), s))) else (some ((-1), s)))
set_option maxRecDepth 20000 in
theorem r_X11_waste (d : Nat) (sw : Bool) (s s' : am_S) (x1 : Int32) (v : Int32) (e : f_X11_waste s x1 = some (v, s')) : am_Run (d + 1) 120 [.ref 0, .int x1] (am_hp sw s) (am_cI v) (am_hp sw s') := by
  refine am_Run.of (M := mt_X11_waste) (cvf := am_cI) (X := f_X11_waste s x1) rfl rfl rfl (by simp) ?_ e
  unfold f_X11_waste
  show am_Sm tb_X11_waste 11 false none (some .int) (d + 0) (am_po am_cI sw) _ 0 [.ref 0, .int x1] [] (am_hp sw s)
  refine sm_br 2 27 4 [.ref 0, .int x1] [] (am_hp sw s) (fun _ => rfl) (fun _ => ?_) (fun _ => ?_)
  · exact sm_ret 1 28 [.ref 0, .int x1] [.int (-1)] (am_hp sw s) (some (.int (-1))) (fun _ => rfl) rfl (fun _ _ h => h)
  · refine sm_br 5 15 27 [.ref 0, .int x1] [] (am_hp sw s) (fun _ => rfl) (fun _ => ?_) (fun _ => ?_)
    · refine sm_iald 4 23 [.ref 0, .int x1] [] (am_hp sw s) (i := x1) (c := 33) (fun _ => rfl) rfl rfl rfl rfl ?_
      exact sm_ret 1 28 [.ref 0, .int x1] [.int (s.1 33 (Int32.toNatClampNeg x1))] (am_hp sw s) (some (.int (s.1 33 (Int32.toNatClampNeg x1)))) (fun _ => rfl) rfl (fun _ _ h => h)
    · exact sm_ret 1 28 [.ref 0, .int x1] [.int (-1)] (am_hp sw s) (some (.int (-1))) (fun _ => rfl) rfl (fun _ _ h => h)

def f_X11_count (sw : Bool) (s : am_S) (x1 : Int32) : Option (Int32 × am_S) := if x1 = 0 then (some ((s.1 17 0), s)) else if x1 = 1 then (some ((s.1 21 0), s)) else if x1 = 2 then (some ((s.1 32 0), s)) else if x1 = 3 then (some ((s.1 32 2), s)) else if x1 = 4 then (am_bd (f_X7_waiting s) (fun v100 s100 => some (v100, s100))) else if x1 = 5 then (some ((s.1 39 1), s)) else if x1 = 6 then (am_bd (f_X3_boxed s) (fun v116 s116 => some (v116, s116))) else if x1 = 7 then (some ((s.1 39 7), s)) else if x1 = 8 then (some ((s.1 46 0), s)) else if x1 = 9 then (some ((s.1 (am_ru sw) 0), s)) else if x1 = 10 then (some ((s.1 0 5), s)) else if x1 = 11 then (some ((s.1 1 1), s)) else (some ((-1), s))
set_option maxRecDepth 20000 in
theorem r_X11_count_f (d : Nat) (_w : Bool) (s s' : am_S) (x1 : Int32) (v : Int32) (e : f_X11_count false s x1 = some (v, s')) : am_Run (d + 2) 121 [.ref 0, .int x1] (am_hp false s) (am_cI v) (am_hp false s') := by
  refine am_Run.of (M := mt_X11_count) (cvf := am_cI) (X := f_X11_count false s x1) rfl rfl rfl (by simp) ?_ e
  unfold f_X11_count
  show am_Sm tb_X11_count 11 false none (some .int) (d + 1) (am_po am_cI false) _ 0 [.ref 0, .int x1] [] (am_hp false s)
  refine sm_go 2 (am_sw x1 (0) 157 [64, 72, 80, 88, 96, 104, 112, 120, 128, 136, 144, 149]) [.ref 0, .int x1] [] (am_hp false s) (fun _ => rfl) ?_
  refine sm_sw1 1 (by decide) (fun _ => ?_) (fun _ => ?_)
  · exact sm_ret 3 71 [.ref 0, .int x1] [.int (s.1 17 0)] (am_hp false s) (some (.int (s.1 17 0))) (fun _ => rfl) rfl (fun _ _ h => h)
  refine sm_sw1 2 (by decide) (fun _ => ?_) (fun _ => ?_)
  · exact sm_ret 3 79 [.ref 0, .int x1] [.int (s.1 21 0)] (am_hp false s) (some (.int (s.1 21 0))) (fun _ => rfl) rfl (fun _ _ h => h)
  refine sm_sw1 3 (by decide) (fun _ => ?_) (fun _ => ?_)
  · exact sm_ret 3 87 [.ref 0, .int x1] [.int (s.1 32 0)] (am_hp false s) (some (.int (s.1 32 0))) (fun _ => rfl) rfl (fun _ _ h => h)
  refine sm_sw1 4 (by decide) (fun _ => ?_) (fun _ => ?_)
  · exact sm_ret 3 95 [.ref 0, .int x1] [.int (s.1 32 2)] (am_hp false s) (some (.int (s.1 32 2))) (fun _ => rfl) rfl (fun _ _ h => h)
  refine sm_sw1 5 (by decide) (fun _ => ?_) (fun _ => ?_)
  · refine sm_call (cvf := am_cI) 2 100 [.ref 0, .int x1] [.ref 32] false s 62 [.ref 32] [] (fun _ => rfl) rfl (fun _ _ e9 => r_X7_waiting (d + 0) false _ _  _ e9) am_po20 (fun v100 s100 => ?_)
    exact sm_ret 0 103 [.ref 0, .int x1] [.int v100] (am_hp false s100) (some (.int v100)) (fun _ => rfl) rfl (fun _ _ h => h)
  refine sm_sw1 6 (by decide) (fun _ => ?_) (fun _ => ?_)
  · exact sm_ret 3 111 [.ref 0, .int x1] [.int (s.1 39 1)] (am_hp false s) (some (.int (s.1 39 1))) (fun _ => rfl) rfl (fun _ _ h => h)
  refine sm_sw1 7 (by decide) (fun _ => ?_) (fun _ => ?_)
  · refine sm_call (cvf := am_cI) 2 116 [.ref 0, .int x1] [.ref 39] false s 35 [.ref 39] [] (fun _ => rfl) rfl (fun _ _ e9 => r_X3_boxed (d + 0) false _ _  _ e9) am_po20 (fun v116 s116 => ?_)
    exact sm_ret 0 119 [.ref 0, .int x1] [.int v116] (am_hp false s116) (some (.int v116)) (fun _ => rfl) rfl (fun _ _ h => h)
  refine sm_sw1 8 (by decide) (fun _ => ?_) (fun _ => ?_)
  · exact sm_ret 3 127 [.ref 0, .int x1] [.int (s.1 39 7)] (am_hp false s) (some (.int (s.1 39 7))) (fun _ => rfl) rfl (fun _ _ h => h)
  refine sm_sw1 9 (by decide) (fun _ => ?_) (fun _ => ?_)
  · exact sm_ret 3 135 [.ref 0, .int x1] [.int (s.1 46 0)] (am_hp false s) (some (.int (s.1 46 0))) (fun _ => rfl) rfl (fun _ _ h => h)
  refine sm_sw1 10 (by decide) (fun _ => ?_) (fun _ => ?_)
  · exact sm_ret 3 143 [.ref 0, .int x1] [.int (s.1 5 0)] (am_hp false s) (some (.int (s.1 5 0))) (fun _ => rfl) rfl (fun _ _ h => h)
  refine sm_sw1 11 (by decide) (fun _ => ?_) (fun _ => ?_)
  · exact sm_ret 2 148 [.ref 0, .int x1] [.int (s.1 0 5)] (am_hp false s) (some (.int (s.1 0 5))) (fun _ => rfl) rfl (fun _ _ h => h)
  refine sm_sw1 12 (by decide) (fun _ => ?_) (fun _ => ?_)
  · exact sm_ret 3 156 [.ref 0, .int x1] [.int (s.1 1 1)] (am_hp false s) (some (.int (s.1 1 1))) (fun _ => rfl) rfl (fun _ _ h => h)
  refine sm_sw0 ?_
  exact sm_ret 1 158 [.ref 0, .int x1] [.int (-1)] (am_hp false s) (some (.int (-1))) (fun _ => rfl) rfl (fun _ _ h => h)

set_option maxRecDepth 20000 in
theorem r_X11_count_t (d : Nat) (_w : Bool) (s s' : am_S) (x1 : Int32) (v : Int32) (e : f_X11_count true s x1 = some (v, s')) : am_Run (d + 2) 121 [.ref 0, .int x1] (am_hp true s) (am_cI v) (am_hp true s') := by
  refine am_Run.of (M := mt_X11_count) (cvf := am_cI) (X := f_X11_count true s x1) rfl rfl rfl (by simp) ?_ e
  unfold f_X11_count
  show am_Sm tb_X11_count 11 false none (some .int) (d + 1) (am_po am_cI true) _ 0 [.ref 0, .int x1] [] (am_hp true s)
  refine sm_go 2 (am_sw x1 (0) 157 [64, 72, 80, 88, 96, 104, 112, 120, 128, 136, 144, 149]) [.ref 0, .int x1] [] (am_hp true s) (fun _ => rfl) ?_
  refine sm_sw1 1 (by decide) (fun _ => ?_) (fun _ => ?_)
  · exact sm_ret 3 71 [.ref 0, .int x1] [.int (s.1 17 0)] (am_hp true s) (some (.int (s.1 17 0))) (fun _ => rfl) rfl (fun _ _ h => h)
  refine sm_sw1 2 (by decide) (fun _ => ?_) (fun _ => ?_)
  · exact sm_ret 3 79 [.ref 0, .int x1] [.int (s.1 21 0)] (am_hp true s) (some (.int (s.1 21 0))) (fun _ => rfl) rfl (fun _ _ h => h)
  refine sm_sw1 3 (by decide) (fun _ => ?_) (fun _ => ?_)
  · exact sm_ret 3 87 [.ref 0, .int x1] [.int (s.1 32 0)] (am_hp true s) (some (.int (s.1 32 0))) (fun _ => rfl) rfl (fun _ _ h => h)
  refine sm_sw1 4 (by decide) (fun _ => ?_) (fun _ => ?_)
  · exact sm_ret 3 95 [.ref 0, .int x1] [.int (s.1 32 2)] (am_hp true s) (some (.int (s.1 32 2))) (fun _ => rfl) rfl (fun _ _ h => h)
  refine sm_sw1 5 (by decide) (fun _ => ?_) (fun _ => ?_)
  · refine sm_call (cvf := am_cI) 2 100 [.ref 0, .int x1] [.ref 32] true s 62 [.ref 32] [] (fun _ => rfl) rfl (fun _ _ e9 => r_X7_waiting (d + 0) true _ _  _ e9) am_po20 (fun v100 s100 => ?_)
    exact sm_ret 0 103 [.ref 0, .int x1] [.int v100] (am_hp true s100) (some (.int v100)) (fun _ => rfl) rfl (fun _ _ h => h)
  refine sm_sw1 6 (by decide) (fun _ => ?_) (fun _ => ?_)
  · exact sm_ret 3 111 [.ref 0, .int x1] [.int (s.1 39 1)] (am_hp true s) (some (.int (s.1 39 1))) (fun _ => rfl) rfl (fun _ _ h => h)
  refine sm_sw1 7 (by decide) (fun _ => ?_) (fun _ => ?_)
  · refine sm_call (cvf := am_cI) 2 116 [.ref 0, .int x1] [.ref 39] true s 35 [.ref 39] [] (fun _ => rfl) rfl (fun _ _ e9 => r_X3_boxed (d + 0) true _ _  _ e9) am_po20 (fun v116 s116 => ?_)
    exact sm_ret 0 119 [.ref 0, .int x1] [.int v116] (am_hp true s116) (some (.int v116)) (fun _ => rfl) rfl (fun _ _ h => h)
  refine sm_sw1 8 (by decide) (fun _ => ?_) (fun _ => ?_)
  · exact sm_ret 3 127 [.ref 0, .int x1] [.int (s.1 39 7)] (am_hp true s) (some (.int (s.1 39 7))) (fun _ => rfl) rfl (fun _ _ h => h)
  refine sm_sw1 9 (by decide) (fun _ => ?_) (fun _ => ?_)
  · exact sm_ret 3 135 [.ref 0, .int x1] [.int (s.1 46 0)] (am_hp true s) (some (.int (s.1 46 0))) (fun _ => rfl) rfl (fun _ _ h => h)
  refine sm_sw1 10 (by decide) (fun _ => ?_) (fun _ => ?_)
  · exact sm_ret 3 143 [.ref 0, .int x1] [.int (s.1 11 0)] (am_hp true s) (some (.int (s.1 11 0))) (fun _ => rfl) rfl (fun _ _ h => h)
  refine sm_sw1 11 (by decide) (fun _ => ?_) (fun _ => ?_)
  · exact sm_ret 2 148 [.ref 0, .int x1] [.int (s.1 0 5)] (am_hp true s) (some (.int (s.1 0 5))) (fun _ => rfl) rfl (fun _ _ h => h)
  refine sm_sw1 12 (by decide) (fun _ => ?_) (fun _ => ?_)
  · exact sm_ret 3 156 [.ref 0, .int x1] [.int (s.1 1 1)] (am_hp true s) (some (.int (s.1 1 1))) (fun _ => rfl) rfl (fun _ _ h => h)
  refine sm_sw0 ?_
  exact sm_ret 1 158 [.ref 0, .int x1] [.int (-1)] (am_hp true s) (some (.int (-1))) (fun _ => rfl) rfl (fun _ _ h => h)

theorem r_X11_count (d : Nat) (sw : Bool) (s s' : am_S) (x1 : Int32) (v : Int32) (e : f_X11_count sw s x1 = some (v, s')) : am_Run (d + 2) 121 [.ref 0, .int x1] (am_hp sw s) (am_cI v) (am_hp sw s') := by
  cases sw
  · exact r_X11_count_f d false s s' x1 v e
  · exact r_X11_count_t d true s s' x1 v e
def f_X12_put_L3 : Nat → Int32 → Int32 → am_S → Option ((Unit × am_S) ⊕ ((Unit) × am_S))
  | 0, _, _, _ => none
  | n + 1, x1, x2, s => if x2 < 0 then (some (.inr ((), s))) else (am_gu (am_in (s.1 58 2) 2000) (f_X12_put_L3 n x1 (x2 + (-8)) (am_wI (am_wI s 59 (Int32.toNatClampNeg (s.1 58 2)) (am_nar 1 ((Int32.toInt8 (x1 >>> (x2 &&& 31))).toInt32))) 58 2 ((s.1 58 2) + 1))))
def f_X12_put (s : am_S) (x1 : Int32) : Option (Unit × am_S) := am_lp (fun y => y) (f_X12_put_L3 am_FU x1 (24) s) (fun (_ : Unit) s3 => some ((), s3))
set_option maxRecDepth 20000 in
theorem l_X12_put_3 (d : Nat) (sw : Bool) : ∀ (n : Nat) (x1 : Int32) (x2 : Int32) (s : am_S), am_Sm tb_X12_put 12 false none none (d + 0) (am_pl am_cU sw (fun (v9 : Unit) s9 r h9 => am_Ex tb_X12_put 12 false none none (d + 0) r h9 36 [.null, .null, .null] [] (am_hp sw s9))) (f_X12_put_L3 n x1 x2 s) 3 [.ref 58, .int x1, .int x2] [] (am_hp sw s) := by
  intro n
  induction n with
  | zero => intro x1 x2 s; exact sm_no
  | succ n ih =>
    intro x1 x2 s
    rw [f_X12_put_L3]
    refine sm_br 2 36 7 [.ref 58, .int x1, .int x2] [] (am_hp sw s) (fun _ => rfl) (fun _ => ?_) (fun _ => ?_)
    · refine sm_fg [.null, .null, .null] ⟨Or.inl rfl, Or.inl rfl, Or.inl rfl, trivial⟩ ?_
      exact sm_ex (fun _ _ h => h.2)
    · refine sm_bast 8 19 [.ref 58, .int x1, .int x2] [] sw s (i := (s.1 58 2)) (x := ((Int32.toInt8 (x1 >>> (x2 &&& 31))).toInt32)) (c := 59) (fun _ => rfl) rfl rfl rfl rfl ?_
      refine sm_go 8 3 [.ref 58, .int x1, .int (x2 + (-8))] [] (am_hp sw (am_wI (am_wI s 59 (Int32.toNatClampNeg (s.1 58 2)) (am_nar 1 ((Int32.toInt8 (x1 >>> (x2 &&& 31))).toInt32))) 58 2 ((s.1 58 2) + 1))) (fun _ => rfl) ?_
      exact ih x1 (x2 + (-8)) (am_wI (am_wI s 59 (Int32.toNatClampNeg (s.1 58 2)) (am_nar 1 ((Int32.toInt8 (x1 >>> (x2 &&& 31))).toInt32))) 58 2 ((s.1 58 2) + 1))

set_option maxRecDepth 20000 in
theorem r_X12_put (d : Nat) (sw : Bool) (s s' : am_S) (x1 : Int32) (v : Unit) (e : f_X12_put s x1 = some (v, s')) : am_Run (d + 1) 134 [.ref 58, .int x1] (am_hp sw s) (am_cU v) (am_hp sw s') := by
  refine am_Run.of (M := mt_X12_put) (cvf := am_cU) (X := f_X12_put s x1) rfl rfl rfl (by simp) ?_ e
  unfold f_X12_put
  show am_Sm tb_X12_put 12 false none none (d + 0) (am_po am_cU sw) _ 0 [.ref 58, .int x1, .null] [] (am_hp sw s)
  refine sm_go 2 3 [.ref 58, .int x1, .int (24)] [] (am_hp sw s) (fun _ => rfl) ?_
  refine sm_lp 36 (fun _y => [.null, .null, .null]) (l_X12_put_3 d sw am_FU x1 (24) s) (fun _ _ _ h => h) am_po20 (fun _y s3 => ?_)
  exact sm_ret 0 36 [.null, .null, .null] [] (am_hp sw s3) none (fun _ => rfl) rfl (fun _ _ h => h)

def f_X12_feed (s : am_S) (x1 : Int32) (x2 : Int32) (x3 : Int32) (x4 : Int32) (x5 : Int32) : Option (Int32 × am_S) := if 2000 < ((s.1 58 2) + 20) then (some ((-1), s)) else (am_bd (f_X12_put s x1) (fun (_ : Unit) s17 => am_bd (f_X12_put s17 x2) (fun (_ : Unit) s22 => am_bd (f_X12_put s22 x3) (fun (_ : Unit) s27 => am_bd (f_X12_put s27 x4) (fun (_ : Unit) s33 => am_bd (f_X12_put s33 x5) (fun (_ : Unit) s39 => some ((s39.1 58 2), s39)))))))
set_option maxRecDepth 20000 in
theorem r_X12_feed (d : Nat) (sw : Bool) (s s' : am_S) (x1 : Int32) (x2 : Int32) (x3 : Int32) (x4 : Int32) (x5 : Int32) (v : Int32) (e : f_X12_feed s x1 x2 x3 x4 x5 = some (v, s')) : am_Run (d + 2) 133 [.ref 58, .int x1, .int x2, .int x3, .int x4, .int x5] (am_hp sw s) (am_cI v) (am_hp sw s') := by
  refine am_Run.of (M := mt_X12_feed) (cvf := am_cI) (X := f_X12_feed s x1 x2 x3 x4 x5) rfl rfl rfl (by simp) ?_ e
  unfold f_X12_feed
  show am_Sm tb_X12_feed 12 false none (some .int) (d + 1) (am_po am_cI sw) _ 0 [.ref 58, .int x1, .int x2, .int x3, .int x4, .int x5] [] (am_hp sw s)
  refine sm_br 6 13 15 [.ref 58, .int x1, .int x2, .int x3, .int x4, .int x5] [] (am_hp sw s) (fun _ => rfl) (fun _ => ?_) (fun _ => ?_)
  · exact sm_ret 1 14 [.ref 58, .int x1, .int x2, .int x3, .int x4, .int x5] [.int (-1)] (am_hp sw s) (some (.int (-1))) (fun _ => rfl) rfl (fun _ _ h => h)
  · refine sm_call (cvf := am_cU) 2 17 [.ref 58, .int x1, .int x2, .int x3, .int x4, .int x5] [.int x1, .ref 58] sw s 134 [.ref 58, .int x1] [] (fun _ => rfl) rfl (fun _ _ e9 => r_X12_put (d + 0) sw _ _ _ _ e9) am_po20 (fun _v s17 => ?_)
    refine sm_call (cvf := am_cU) 2 22 [.ref 58, .int x1, .int x2, .int x3, .int x4, .int x5] [.int x2, .ref 58] sw s17 134 [.ref 58, .int x2] [] (fun _ => rfl) rfl (fun _ _ e9 => r_X12_put (d + 0) sw _ _ _ _ e9) am_po20 (fun _v s22 => ?_)
    refine sm_call (cvf := am_cU) 2 27 [.ref 58, .int x1, .int x2, .int x3, .int x4, .int x5] [.int x3, .ref 58] sw s22 134 [.ref 58, .int x3] [] (fun _ => rfl) rfl (fun _ _ e9 => r_X12_put (d + 0) sw _ _ _ _ e9) am_po20 (fun _v s27 => ?_)
    refine sm_call (cvf := am_cU) 2 33 [.ref 58, .int x1, .int x2, .int x3, .int x4, .int x5] [.int x4, .ref 58] sw s27 134 [.ref 58, .int x4] [] (fun _ => rfl) rfl (fun _ _ e9 => r_X12_put (d + 0) sw _ _ _ _ e9) am_po20 (fun _v s33 => ?_)
    refine sm_call (cvf := am_cU) 2 39 [.ref 58, .int x1, .int x2, .int x3, .int x4, .int x5] [.int x5, .ref 58] sw s33 134 [.ref 58, .int x5] [] (fun _ => rfl) rfl (fun _ _ e9 => r_X12_put (d + 0) sw _ _ _ _ e9) am_po20 (fun _v s39 => ?_)
    exact sm_ret 2 46 [.ref 58, .int x1, .int x2, .int x3, .int x4, .int x5] [.int (s39.1 58 2)] (am_hp sw s39) (some (.int (s39.1 58 2))) (fun _ => rfl) rfl (fun _ _ h => h)

def f_X12_back (s : am_S) (x1 : Int32) : Option (Int32 × am_S) := if x1 < 0 then (some ((-1), s)) else (if (s.1 58 2) < x1 then (some ((-1), s)) else (some (((s.1 58 2) - x1), (am_wI s 58 2 ((s.1 58 2) - x1)))))
set_option maxRecDepth 20000 in
theorem r_X12_back (d : Nat) (sw : Bool) (s s' : am_S) (x1 : Int32) (v : Int32) (e : f_X12_back s x1 = some (v, s')) : am_Run (d + 1) 135 [.ref 58, .int x1] (am_hp sw s) (am_cI v) (am_hp sw s') := by
  refine am_Run.of (M := mt_X12_back) (cvf := am_cI) (X := f_X12_back s x1) rfl rfl rfl (by simp) ?_ e
  unfold f_X12_back
  show am_Sm tb_X12_back 12 false none (some .int) (d + 0) (am_po am_cI sw) _ 0 [.ref 58, .int x1] [] (am_hp sw s)
  refine sm_br 2 12 4 [.ref 58, .int x1] [] (am_hp sw s) (fun _ => rfl) (fun _ => ?_) (fun _ => ?_)
  · exact sm_ret 1 13 [.ref 58, .int x1] [.int (-1)] (am_hp sw s) (some (.int (-1))) (fun _ => rfl) rfl (fun _ _ h => h)
  · refine sm_br 4 12 14 [.ref 58, .int x1] [] (am_hp sw s) (fun _ => rfl) (fun _ => ?_) (fun _ => ?_)
    · exact sm_ret 1 13 [.ref 58, .int x1] [.int (-1)] (am_hp sw s) (some (.int (-1))) (fun _ => rfl) rfl (fun _ _ h => h)
    · exact sm_ret 8 28 [.ref 58, .int x1] [.int ((s.1 58 2) - x1)] (am_hp sw (am_wI s 58 2 ((s.1 58 2) - x1))) (some (.int ((s.1 58 2) - x1))) (fun _ => rfl) rfl (fun _ _ h => h)

def f_X12_at (s : am_S) (x1 : Int32) : Option (Int32 × am_S) := if x1 < (s.1 58 4) then (am_gu (am_in x1 2000) (some (((s.1 60 (Int32.toNatClampNeg x1)) &&& 255), s))) else (some ((0), s))
set_option maxRecDepth 20000 in
theorem r_X12_at (d : Nat) (sw : Bool) (s s' : am_S) (x1 : Int32) (v : Int32) (e : f_X12_at s x1 = some (v, s')) : am_Run (d + 1) 136 [.ref 58, .int x1] (am_hp sw s) (am_cI v) (am_hp sw s') := by
  refine am_Run.of (M := mt_X12_at) (cvf := am_cI) (X := f_X12_at s x1) rfl rfl rfl (by simp) ?_ e
  unfold f_X12_at
  show am_Sm tb_X12_at 12 false none (some .int) (d + 0) (am_po am_cI sw) _ 0 [.ref 58, .int x1] [] (am_hp sw s)
  refine sm_br 4 8 21 [.ref 58, .int x1] [] (am_hp sw s) (fun _ => rfl) (fun _ => ?_) (fun _ => ?_)
  · refine sm_bald 3 13 [.ref 58, .int x1] [] (am_hp sw s) (i := x1) (c := 60) (fun _ => rfl) rfl rfl rfl rfl ?_
    exact sm_ret 3 22 [.ref 58, .int x1] [.int ((s.1 60 (Int32.toNatClampNeg x1)) &&& 255)] (am_hp sw s) (some (.int ((s.1 60 (Int32.toNatClampNeg x1)) &&& 255))) (fun _ => rfl) rfl (fun _ _ h => h)
  · exact sm_ret 1 22 [.ref 58, .int x1] [.int (0)] (am_hp sw s) (some (.int (0))) (fun _ => rfl) rfl (fun _ _ h => h)

def f_X12_isDigit (s : am_S) (x0 : Int32) : Option (Int32 × am_S) := if x0 < 48 then (some ((0), s)) else (if 57 < x0 then (some ((0), s)) else (some ((1), s)))
set_option maxRecDepth 20000 in
theorem r_X12_isDigit (d : Nat) (sw : Bool) (s s' : am_S) (x0 : Int32) (v : Int32) (e : f_X12_isDigit s x0 = some (v, s')) : am_Run (d + 1) 137 [.int x0] (am_hp sw s) (am_cI v) (am_hp sw s') := by
  refine am_Run.of (M := mt_X12_isDigit) (cvf := am_cI) (X := f_X12_isDigit s x0) rfl rfl rfl (by simp) ?_ e
  unfold f_X12_isDigit
  show am_Sm tb_X12_isDigit 12 false none (some .boolean) (d + 0) (am_po am_cI sw) _ 0 [.int x0] [] (am_hp sw s)
  refine sm_br 3 16 6 [.int x0] [] (am_hp sw s) (fun _ => rfl) (fun _ => ?_) (fun _ => ?_)
  · exact sm_ret 1 17 [.int x0] [.int (0)] (am_hp sw s) (some (.int (0))) (fun _ => rfl) rfl (fun _ _ h => h)
  · refine sm_br 3 16 12 [.int x0] [] (am_hp sw s) (fun _ => rfl) (fun _ => ?_) (fun _ => ?_)
    · exact sm_ret 1 17 [.int x0] [.int (0)] (am_hp sw s) (some (.int (0))) (fun _ => rfl) rfl (fun _ _ h => h)
    · exact sm_ret 2 17 [.int x0] [.int (1)] (am_hp sw s) (some (.int (1))) (fun _ => rfl) rfl (fun _ _ h => h)

def f_X12_isLetter (s : am_S) (x0 : Int32) : Option (Int32 × am_S) := if x0 < 97 then (some ((0), s)) else (if 122 < x0 then (some ((0), s)) else (some ((1), s)))
set_option maxRecDepth 20000 in
theorem r_X12_isLetter (d : Nat) (sw : Bool) (s s' : am_S) (x0 : Int32) (v : Int32) (e : f_X12_isLetter s x0 = some (v, s')) : am_Run (d + 1) 138 [.int x0] (am_hp sw s) (am_cI v) (am_hp sw s') := by
  refine am_Run.of (M := mt_X12_isLetter) (cvf := am_cI) (X := f_X12_isLetter s x0) rfl rfl rfl (by simp) ?_ e
  unfold f_X12_isLetter
  show am_Sm tb_X12_isLetter 12 false none (some .boolean) (d + 0) (am_po am_cI sw) _ 0 [.int x0] [] (am_hp sw s)
  refine sm_br 3 16 6 [.int x0] [] (am_hp sw s) (fun _ => rfl) (fun _ => ?_) (fun _ => ?_)
  · exact sm_ret 1 17 [.int x0] [.int (0)] (am_hp sw s) (some (.int (0))) (fun _ => rfl) rfl (fun _ _ h => h)
  · refine sm_br 3 16 12 [.int x0] [] (am_hp sw s) (fun _ => rfl) (fun _ => ?_) (fun _ => ?_)
    · exact sm_ret 1 17 [.int x0] [.int (0)] (am_hp sw s) (some (.int (0))) (fun _ => rfl) rfl (fun _ _ h => h)
    · exact sm_ret 2 17 [.int x0] [.int (1)] (am_hp sw s) (some (.int (1))) (fun _ => rfl) rfl (fun _ _ h => h)

def f_X12_more (s : am_S) (x0 : Int64) (x2 : Int32) : Option (Int64 × am_S) := if x2 = 0 then (some (x0, s)) else (some ((((lN 27) * x0) + (Int32.toInt64 ((x2 - 97) + 1))), s))
set_option maxRecDepth 20000 in
theorem r_X12_more (d : Nat) (sw : Bool) (s s' : am_S) (x0 : Int64) (x2 : Int32) (v : Int64) (e : f_X12_more s x0 x2 = some (v, s')) : am_Run (d + 1) 139 [.long x0, .int x2] (am_hp sw s) (am_cL v) (am_hp sw s') := by
  refine am_Run.of (M := mt_X12_more) (cvf := am_cL) (X := f_X12_more s x0 x2) rfl rfl rfl (by simp) ?_ e
  unfold f_X12_more
  show am_Sm tb_X12_more 12 false none (some .long) (d + 0) (am_po am_cL sw) _ 0 [.long x0, .null, .int x2] [] (am_hp sw s)
  refine sm_br 2 4 8 [.long x0, .null, .int x2] [] (am_hp sw s) (fun _ => rfl) (fun _ => ?_) (fun _ => ?_)
  · exact sm_ret 2 21 [.long x0, .null, .int x2] [.long x0] (am_hp sw s) (some (.long x0)) (fun _ => rfl) rfl (fun _ _ h => h)
  · exact sm_ret 10 21 [.long x0, .null, .int x2] [.long (((lN 27) * x0) + (Int32.toInt64 ((x2 - 97) + 1)))] (am_hp sw s) (some (.long (((lN 27) * x0) + (Int32.toInt64 ((x2 - 97) + 1))))) (fun _ => rfl) rfl (fun _ _ h => h)

def f_X12_word (s : am_S) (x0 : Int32) (x1 : Int32) (x2 : Int32) (x3 : Int32) (x4 : Int32) (x5 : Int32) (x6 : Int32) : Option (Int64 × am_S) := am_bd (f_X12_more s (lN 0) x0) (fun v2 s2 => am_bd (f_X12_more s2 v2 x1) (fun v6 s6 => am_bd (f_X12_more s6 v6 x2) (fun v10 s10 => am_bd (f_X12_more s10 v10 x3) (fun v14 s14 => am_bd (f_X12_more s14 v14 x4) (fun v19 s19 => am_bd (f_X12_more s19 v19 x5) (fun v24 s24 => am_bd (f_X12_more s24 v24 x6) (fun v29 s29 => some (v29, s29))))))))
set_option maxRecDepth 20000 in
theorem r_X12_word (d : Nat) (sw : Bool) (s s' : am_S) (x0 : Int32) (x1 : Int32) (x2 : Int32) (x3 : Int32) (x4 : Int32) (x5 : Int32) (x6 : Int32) (v : Int64) (e : f_X12_word s x0 x1 x2 x3 x4 x5 x6 = some (v, s')) : am_Run (d + 2) 140 [.int x0, .int x1, .int x2, .int x3, .int x4, .int x5, .int x6] (am_hp sw s) (am_cL v) (am_hp sw s') := by
  refine am_Run.of (M := mt_X12_word) (cvf := am_cL) (X := f_X12_word s x0 x1 x2 x3 x4 x5 x6) rfl rfl rfl (by simp) ?_ e
  unfold f_X12_word
  show am_Sm tb_X12_word 12 false none (some .long) (d + 1) (am_po am_cL sw) _ 0 [.int x0, .int x1, .int x2, .int x3, .int x4, .int x5, .int x6] [] (am_hp sw s)
  refine sm_call (cvf := am_cL) 2 2 [.int x0, .int x1, .int x2, .int x3, .int x4, .int x5, .int x6] [.int x0, .long (lN 0)] sw s 139 [.long (lN 0), .int x0] [] (fun _ => rfl) rfl (fun _ _ e9 => r_X12_more (d + 0) sw _ _ _ _ _ e9) am_po20 (fun v2 s2 => ?_)
  refine sm_call (cvf := am_cL) 1 6 [.int x0, .int x1, .int x2, .int x3, .int x4, .int x5, .int x6] [.int x1, .long v2] sw s2 139 [.long v2, .int x1] [] (fun _ => rfl) rfl (fun _ _ e9 => r_X12_more (d + 0) sw _ _ _ _ _ e9) am_po20 (fun v6 s6 => ?_)
  refine sm_call (cvf := am_cL) 1 10 [.int x0, .int x1, .int x2, .int x3, .int x4, .int x5, .int x6] [.int x2, .long v6] sw s6 139 [.long v6, .int x2] [] (fun _ => rfl) rfl (fun _ _ e9 => r_X12_more (d + 0) sw _ _ _ _ _ e9) am_po20 (fun v10 s10 => ?_)
  refine sm_call (cvf := am_cL) 1 14 [.int x0, .int x1, .int x2, .int x3, .int x4, .int x5, .int x6] [.int x3, .long v10] sw s10 139 [.long v10, .int x3] [] (fun _ => rfl) rfl (fun _ _ e9 => r_X12_more (d + 0) sw _ _ _ _ _ e9) am_po20 (fun v14 s14 => ?_)
  refine sm_call (cvf := am_cL) 1 19 [.int x0, .int x1, .int x2, .int x3, .int x4, .int x5, .int x6] [.int x4, .long v14] sw s14 139 [.long v14, .int x4] [] (fun _ => rfl) rfl (fun _ _ e9 => r_X12_more (d + 0) sw _ _ _ _ _ e9) am_po20 (fun v19 s19 => ?_)
  refine sm_call (cvf := am_cL) 1 24 [.int x0, .int x1, .int x2, .int x3, .int x4, .int x5, .int x6] [.int x5, .long v19] sw s19 139 [.long v19, .int x5] [] (fun _ => rfl) rfl (fun _ _ e9 => r_X12_more (d + 0) sw _ _ _ _ _ e9) am_po20 (fun v24 s24 => ?_)
  refine sm_call (cvf := am_cL) 1 29 [.int x0, .int x1, .int x2, .int x3, .int x4, .int x5, .int x6] [.int x6, .long v24] sw s24 139 [.long v24, .int x6] [] (fun _ => rfl) rfl (fun _ _ e9 => r_X12_more (d + 0) sw _ _ _ _ _ e9) am_po20 (fun v29 s29 => ?_)
  exact sm_ret 0 32 [.int x0, .int x1, .int x2, .int x3, .int x4, .int x5, .int x6] [.long v29] (am_hp sw s29) (some (.long v29)) (fun _ => rfl) rfl (fun _ _ h => h)

def f_X12_token (s : am_S) (x1 : Int32) (x2 : Int32) (x3 : Int32) (x4 : Int64) : Option (Unit × am_S) := am_gu (am_in (s.1 58 10) 403) (am_gu (am_in (s.1 58 10) 403) (am_gu (am_in (s.1 58 10) 403) (am_gu (am_in (s.1 58 10) 403) (some ((), (am_wI (am_wL (am_wI (am_wI (am_wI s 61 (Int32.toNatClampNeg (s.1 58 10)) x1) 62 (Int32.toNatClampNeg (s.1 58 10)) x2) 63 (Int32.toNatClampNeg (s.1 58 10)) x3) 64 (Int32.toNatClampNeg (s.1 58 10)) x4) 58 10 ((s.1 58 10) + 1)))))))
set_option maxRecDepth 20000 in
theorem r_X12_token (d : Nat) (sw : Bool) (s s' : am_S) (x1 : Int32) (x2 : Int32) (x3 : Int32) (x4 : Int64) (v : Unit) (e : f_X12_token s x1 x2 x3 x4 = some (v, s')) : am_Run (d + 1) 141 [.ref 58, .int x1, .int x2, .int x3, .long x4] (am_hp sw s) (am_cU v) (am_hp sw s') := by
  refine am_Run.of (M := mt_X12_token) (cvf := am_cU) (X := f_X12_token s x1 x2 x3 x4) rfl rfl rfl (by simp) ?_ e
  unfold f_X12_token
  show am_Sm tb_X12_token 12 false none none (d + 0) (am_po am_cU sw) _ 0 [.ref 58, .int x1, .int x2, .int x3, .long x4, .null] [] (am_hp sw s)
  refine sm_iast 5 9 [.ref 58, .int x1, .int x2, .int x3, .long x4, .null] [] sw s (i := (s.1 58 10)) (x := x1) (c := 61) (fun _ => rfl) rfl rfl rfl ?_
  refine sm_iast 5 19 [.ref 58, .int x1, .int x2, .int x3, .long x4, .null] [] sw (am_wI s 61 (Int32.toNatClampNeg (s.1 58 10)) x1) (i := (s.1 58 10)) (x := x2) (c := 62) (fun _ => rfl) rfl rfl rfl ?_
  refine sm_iast 5 29 [.ref 58, .int x1, .int x2, .int x3, .long x4, .null] [] sw (am_wI (am_wI s 61 (Int32.toNatClampNeg (s.1 58 10)) x1) 62 (Int32.toNatClampNeg (s.1 58 10)) x2) (i := (s.1 58 10)) (x := x3) (c := 63) (fun _ => rfl) rfl rfl rfl ?_
  refine sm_last 5 40 [.ref 58, .int x1, .int x2, .int x3, .long x4, .null] [] sw (am_wI (am_wI (am_wI s 61 (Int32.toNatClampNeg (s.1 58 10)) x1) 62 (Int32.toNatClampNeg (s.1 58 10)) x2) 63 (Int32.toNatClampNeg (s.1 58 10)) x3) (i := (s.1 58 10)) (x := x4) (c := 64) (fun _ => rfl) rfl rfl rfl ?_
  exact sm_ret 6 51 [.ref 58, .int x1, .int x2, .int x3, .long x4, .null] [] (am_hp sw (am_wI (am_wL (am_wI (am_wI (am_wI s 61 (Int32.toNatClampNeg (s.1 58 10)) x1) 62 (Int32.toNatClampNeg (s.1 58 10)) x2) 63 (Int32.toNatClampNeg (s.1 58 10)) x3) 64 (Int32.toNatClampNeg (s.1 58 10)) x4) 58 10 ((s.1 58 10) + 1))) none (fun _ => rfl) rfl (fun _ _ h => h)

def f_X12_sign (s : am_S) (x1 : Int32) (x2 : Int32) (x3 : Int32) : Option (Int32 × am_S) := am_jn (fun (p44 : Int32 × am_S) => am_jn (fun (p148 : Int32 × am_S) => am_bd (f_X12_token p148.2 p148.1 x1 (0) (lN 0)) (fun (_ : Unit) s154 => if 0 < p44.1 then (some ((2), s154)) else (some ((1), s154)))) (fun j148 => if 0 < p44.1 then (j148 (p44.1, p44.2)) else (if x2 = 59 then (j148 (4, p44.2)) else (if x2 = 40 then (j148 (6, p44.2)) else (if x2 = 41 then (j148 (7, p44.2)) else (if x2 = 43 then (j148 (8, p44.2)) else (if x2 = 45 then (j148 (9, p44.2)) else (if x2 = 42 then (j148 (10, p44.2)) else (if x2 = 60 then (j148 (13, p44.2)) else (j148 (3, p44.2))))))))))) (fun j44 => if x3 = 61 then (if x2 = 61 then (j44 (11, s)) else (if x2 = 33 then (j44 (12, s)) else (if x2 = 60 then (j44 (14, s)) else (j44 (0, s))))) else (j44 (0, s)))
set_option maxRecDepth 20000 in
theorem r_X12_sign (d : Nat) (sw : Bool) (s s' : am_S) (x1 : Int32) (x2 : Int32) (x3 : Int32) (v : Int32) (e : f_X12_sign s x1 x2 x3 = some (v, s')) : am_Run (d + 2) 143 [.ref 58, .int x1, .int x2, .int x3] (am_hp sw s) (am_cI v) (am_hp sw s') := by
  refine am_Run.of (M := mt_X12_sign) (cvf := am_cI) (X := f_X12_sign s x1 x2 x3) rfl rfl rfl (by simp) ?_ e
  unfold f_X12_sign
  show am_Sm tb_X12_sign 12 false none (some .int) (d + 1) (am_po am_cI sw) _ 0 [.ref 58, .int x1, .int x2, .int x3, .null, .null] [] (am_hp sw s)
  refine sm_go 2 3 [.ref 58, .int x1, .int x2, .int x3, .null, .null] [.int (61), .int x3] (am_hp sw s) (fun _ => rfl) ?_
  refine sm_jn 44 (fun p44 => [.ref 58, .int x1, .int x2, .null, .null, .null]) (fun p44 => [.int p44.1]) (fun p44 => (am_hp sw p44.2)) (fun p44 => ?_) (fun j44 hj44 => ?_)
  · refine sm_go 4 51 [.ref 58, .int x1, .int x2, .null, .int p44.1, .int (3)] [.int p44.1] (am_hp sw p44.2) (fun _ => rfl) ?_
    refine sm_jn 148 (fun p148 => [.ref 58, .int x1, .null, .null, .int p44.1, .int p148.1]) (fun p148 => []) (fun p148 => (am_hp sw p148.2)) (fun p148 => ?_) (fun j148 hj148 => ?_)
    · refine sm_call (cvf := am_cU) 5 154 [.ref 58, .int x1, .null, .null, .int p44.1, .int p148.1] [.long (lN 0), .int (0), .int x1, .int p148.1, .ref 58] sw p148.2 141 [.ref 58, .int p148.1, .int x1, .int (0), .long (lN 0)] [] (fun _ => rfl) rfl (fun _ _ e9 => r_X12_token (d + 0) sw _ _ _ _ _ _ _ e9) am_po20 (fun _v s154 => ?_)
      refine sm_br 2 162 166 [.ref 58, .int x1, .null, .null, .int p44.1, .int p148.1] [] (am_hp sw s154) (fun _ => rfl) (fun _ => ?_) (fun _ => ?_)
      · exact sm_ret 2 167 [.ref 58, .int x1, .null, .null, .int p44.1, .int p148.1] [.int (2)] (am_hp sw s154) (some (.int (2))) (fun _ => rfl) rfl (fun _ _ h => h)
      · exact sm_ret 1 167 [.ref 58, .int x1, .null, .null, .int p44.1, .int p148.1] [.int (1)] (am_hp sw s154) (some (.int (1))) (fun _ => rfl) rfl (fun _ _ h => h)
    refine sm_br 1 54 61 [.ref 58, .int x1, .int x2, .null, .int p44.1, .int (3)] [] (am_hp sw p44.2) (fun _ => rfl) (fun _ => ?_) (fun _ => ?_)
    · refine sm_go 3 148 [.ref 58, .int x1, .int x2, .null, .int p44.1, .int p44.1] [] (am_hp sw p44.2) (fun _ => rfl) ?_
      refine sm_fg [.ref 58, .int x1, .null, .null, .int p44.1, .int p44.1] ⟨Or.inr rfl, Or.inr rfl, Or.inl rfl, Or.inl rfl, Or.inr rfl, Or.inr rfl, trivial⟩ ?_
      exact hj148 (p44.1, p44.2)
    · refine sm_br 3 67 73 [.ref 58, .int x1, .int x2, .null, .int p44.1, .int (3)] [] (am_hp sw p44.2) (fun _ => rfl) (fun _ => ?_) (fun _ => ?_)
      · refine sm_go 3 148 [.ref 58, .int x1, .int x2, .null, .int p44.1, .int (4)] [] (am_hp sw p44.2) (fun _ => rfl) ?_
        refine sm_fg [.ref 58, .int x1, .null, .null, .int p44.1, .int (4)] ⟨Or.inr rfl, Or.inr rfl, Or.inl rfl, Or.inl rfl, Or.inr rfl, Or.inr rfl, trivial⟩ ?_
        exact hj148 (4, p44.2)
      · refine sm_br 3 79 86 [.ref 58, .int x1, .int x2, .null, .int p44.1, .int (3)] [] (am_hp sw p44.2) (fun _ => rfl) (fun _ => ?_) (fun _ => ?_)
        · refine sm_go 3 148 [.ref 58, .int x1, .int x2, .null, .int p44.1, .int (6)] [] (am_hp sw p44.2) (fun _ => rfl) ?_
          refine sm_fg [.ref 58, .int x1, .null, .null, .int p44.1, .int (6)] ⟨Or.inr rfl, Or.inr rfl, Or.inl rfl, Or.inl rfl, Or.inr rfl, Or.inr rfl, trivial⟩ ?_
          exact hj148 (6, p44.2)
        · refine sm_br 3 92 99 [.ref 58, .int x1, .int x2, .null, .int p44.1, .int (3)] [] (am_hp sw p44.2) (fun _ => rfl) (fun _ => ?_) (fun _ => ?_)
          · refine sm_go 3 148 [.ref 58, .int x1, .int x2, .null, .int p44.1, .int (7)] [] (am_hp sw p44.2) (fun _ => rfl) ?_
            refine sm_fg [.ref 58, .int x1, .null, .null, .int p44.1, .int (7)] ⟨Or.inr rfl, Or.inr rfl, Or.inl rfl, Or.inl rfl, Or.inr rfl, Or.inr rfl, trivial⟩ ?_
            exact hj148 (7, p44.2)
          · refine sm_br 3 105 112 [.ref 58, .int x1, .int x2, .null, .int p44.1, .int (3)] [] (am_hp sw p44.2) (fun _ => rfl) (fun _ => ?_) (fun _ => ?_)
            · refine sm_go 3 148 [.ref 58, .int x1, .int x2, .null, .int p44.1, .int (8)] [] (am_hp sw p44.2) (fun _ => rfl) ?_
              refine sm_fg [.ref 58, .int x1, .null, .null, .int p44.1, .int (8)] ⟨Or.inr rfl, Or.inr rfl, Or.inl rfl, Or.inl rfl, Or.inr rfl, Or.inr rfl, trivial⟩ ?_
              exact hj148 (8, p44.2)
            · refine sm_br 3 118 125 [.ref 58, .int x1, .int x2, .null, .int p44.1, .int (3)] [] (am_hp sw p44.2) (fun _ => rfl) (fun _ => ?_) (fun _ => ?_)
              · refine sm_go 3 148 [.ref 58, .int x1, .int x2, .null, .int p44.1, .int (9)] [] (am_hp sw p44.2) (fun _ => rfl) ?_
                refine sm_fg [.ref 58, .int x1, .null, .null, .int p44.1, .int (9)] ⟨Or.inr rfl, Or.inr rfl, Or.inl rfl, Or.inl rfl, Or.inr rfl, Or.inr rfl, trivial⟩ ?_
                exact hj148 (9, p44.2)
              · refine sm_br 3 131 138 [.ref 58, .int x1, .int x2, .null, .int p44.1, .int (3)] [] (am_hp sw p44.2) (fun _ => rfl) (fun _ => ?_) (fun _ => ?_)
                · refine sm_go 3 148 [.ref 58, .int x1, .int x2, .null, .int p44.1, .int (10)] [] (am_hp sw p44.2) (fun _ => rfl) ?_
                  refine sm_fg [.ref 58, .int x1, .null, .null, .int p44.1, .int (10)] ⟨Or.inr rfl, Or.inr rfl, Or.inl rfl, Or.inl rfl, Or.inr rfl, Or.inr rfl, trivial⟩ ?_
                  exact hj148 (10, p44.2)
                · refine sm_br 3 144 148 [.ref 58, .int x1, .int x2, .null, .int p44.1, .int (3)] [] (am_hp sw p44.2) (fun _ => rfl) (fun _ => ?_) (fun _ => ?_)
                  · refine sm_go 2 148 [.ref 58, .int x1, .int x2, .null, .int p44.1, .int (13)] [] (am_hp sw p44.2) (fun _ => rfl) ?_
                    refine sm_fg [.ref 58, .int x1, .null, .null, .int p44.1, .int (13)] ⟨Or.inr rfl, Or.inr rfl, Or.inl rfl, Or.inl rfl, Or.inr rfl, Or.inr rfl, trivial⟩ ?_
                    exact hj148 (13, p44.2)
                  · refine sm_fg [.ref 58, .int x1, .null, .null, .int p44.1, .int (3)] ⟨Or.inr rfl, Or.inr rfl, Or.inl rfl, Or.inl rfl, Or.inr rfl, Or.inr rfl, trivial⟩ ?_
                    exact hj148 (3, p44.2)
  refine sm_br 1 10 6 [.ref 58, .int x1, .int x2, .int x3, .null, .null] [] (am_hp sw s) (fun _ => rfl) (fun _ => ?_) (fun _ => ?_)
  · refine sm_br 3 16 21 [.ref 58, .int x1, .int x2, .int x3, .null, .null] [] (am_hp sw s) (fun _ => rfl) (fun _ => ?_) (fun _ => ?_)
    · refine sm_go 2 44 [.ref 58, .int x1, .int x2, .int x3, .null, .null] [.int (11)] (am_hp sw s) (fun _ => rfl) ?_
      refine sm_fg [.ref 58, .int x1, .int x2, .null, .null, .null] ⟨Or.inr rfl, Or.inr rfl, Or.inr rfl, Or.inl rfl, Or.inl rfl, Or.inl rfl, trivial⟩ ?_
      exact hj44 (11, s)
    · refine sm_br 3 27 32 [.ref 58, .int x1, .int x2, .int x3, .null, .null] [] (am_hp sw s) (fun _ => rfl) (fun _ => ?_) (fun _ => ?_)
      · refine sm_go 2 44 [.ref 58, .int x1, .int x2, .int x3, .null, .null] [.int (12)] (am_hp sw s) (fun _ => rfl) ?_
        refine sm_fg [.ref 58, .int x1, .int x2, .null, .null, .null] ⟨Or.inr rfl, Or.inr rfl, Or.inr rfl, Or.inl rfl, Or.inl rfl, Or.inl rfl, trivial⟩ ?_
        exact hj44 (12, s)
      · refine sm_br 3 38 43 [.ref 58, .int x1, .int x2, .int x3, .null, .null] [] (am_hp sw s) (fun _ => rfl) (fun _ => ?_) (fun _ => ?_)
        · refine sm_go 2 44 [.ref 58, .int x1, .int x2, .int x3, .null, .null] [.int (14)] (am_hp sw s) (fun _ => rfl) ?_
          refine sm_fg [.ref 58, .int x1, .int x2, .null, .null, .null] ⟨Or.inr rfl, Or.inr rfl, Or.inr rfl, Or.inl rfl, Or.inl rfl, Or.inl rfl, trivial⟩ ?_
          exact hj44 (14, s)
        · refine sm_go 1 44 [.ref 58, .int x1, .int x2, .int x3, .null, .null] [.int (0)] (am_hp sw s) (fun _ => rfl) ?_
          refine sm_fg [.ref 58, .int x1, .int x2, .null, .null, .null] ⟨Or.inr rfl, Or.inr rfl, Or.inr rfl, Or.inl rfl, Or.inl rfl, Or.inl rfl, trivial⟩ ?_
          exact hj44 (0, s)
  · refine sm_go 2 44 [.ref 58, .int x1, .int x2, .int x3, .null, .null] [.int (0)] (am_hp sw s) (fun _ => rfl) ?_
    refine sm_fg [.ref 58, .int x1, .int x2, .null, .null, .null] ⟨Or.inr rfl, Or.inr rfl, Or.inr rfl, Or.inl rfl, Or.inl rfl, Or.inl rfl, trivial⟩ ?_
    exact hj44 (0, s)

def f_X12_cut_L208 : Nat → Int32 → Int32 → Int32 → am_S → Option ((Unit × am_S) ⊕ ((Int32 × Int32) × am_S))
  | 0, _, _, _, _ => none
  | n + 1, x1, x3, x4, s => am_bd (f_X12_at s (x1 + x3)) (fun v212 s212 => am_bd (f_X12_isDigit s212 v212) (fun v215 s215 => if v215 = 0 then (some (.inr ((x3, x4), s215))) else (am_jn (fun (p244 : Int32 × am_S) => f_X12_cut_L208 n x1 (x3 + 1) p244.1 p244.2) (fun j244 => if x3 < 4 then (am_bd (f_X12_at s215 (x1 + x3)) (fun v235 s235 => j244 ((((10 * x4) + v235) - 48), s235))) else (j244 (x4, s215))))))
def f_X12_cut_L85 : Nat → Int32 → Int32 → Int64 → am_S → Option ((Unit × am_S) ⊕ ((Int32 × Int64) × am_S))
  | 0, _, _, _, _ => none
  | n + 1, x1, x3, x4, s => am_bd (f_X12_at s (x1 + x3)) (fun v89 s89 => am_bd (f_X12_isLetter s89 v89) (fun v92 s92 => if v92 = 0 then (some (.inr ((x3, x4), s92))) else (am_jn (fun (p118 : Int64 × am_S) => f_X12_cut_L85 n x1 (x3 + 1) p118.1 p118.2) (fun j118 => if x3 < 8 then (am_bd (f_X12_at s92 (x1 + x3)) (fun v110 s110 => am_bd (f_X12_more s110 x4 v110) (fun v113 s113 => j118 (v113, s113)))) else (j118 (x4, s92))))))
def f_X12_cut_L146 : Nat → Int32 → Int32 → Int64 → Int32 → Int32 → am_S → Option ((Unit × am_S) ⊕ ((Int32) × am_S))
  | 0, _, _, _, _, _, _ => none
  | n + 1, x1, x3, x4, x6, x7, s => if x7 < 14 then (am_gu (am_in x7 14) (am_jn (fun (p173 : Int32 × am_S) => f_X12_cut_L146 n x1 x3 x4 p173.1 (x7 + 1) p173.2) (fun j173 => if (lg_cmp (s.2 65 (Int32.toNatClampNeg x7)) x4) = 0 then (j173 ((20 + x7), s)) else (j173 (x6, s))))) else (some (.inr (x6, s)))
def f_X12_cut_L7 : Nat → Int32 → am_S → Option ((Unit × am_S) ⊕ ((Unit) × am_S))
  | 0, _, _ => none
  | n + 1, x1, s => if 400 < (s.1 58 10) then (some (.inr ((), s))) else (am_bd (f_X12_at s x1) (fun v19 s19 => if x1 < (s19.1 58 4) then (am_jn (fun (p291 : Int32 × am_S) => f_X12_cut_L7 n p291.1 p291.2) (fun j291 => am_jn (fun (p67 : am_S) => j291 ((x1 + 1), p67)) (fun j67 => if v19 = 9 then (j67 s19) else (if v19 = 10 then (j67 s19) else (if v19 = 13 then (j67 s19) else (if v19 = 32 then (j67 s19) else (am_bd (f_X12_isLetter s19 v19) (fun v74 s74 => if v74 = 0 then (am_bd (f_X12_isDigit s74 v19) (fun v197 s197 => if v197 = 0 then (am_bd (f_X12_at s197 (x1 + 1)) (fun v283 s283 => am_bd (f_X12_sign s283 x1 v19 v283) (fun v286 s286 => j291 ((x1 + v286), s286)))) else (am_lp Sum.inl (f_X12_cut_L208 am_FU x1 (0) (0) s197) (fun y208 s208 => am_jn (fun (p261 : Int32 × am_S) => am_bd (f_X12_token p261.2 p261.1 x1 y208.2 (lN 0)) (fun (_ : Unit) s265 => j291 ((x1 + y208.1), s265))) (fun j261 => if 4 < y208.1 then (j261 (3, s208)) else (j261 (2, s208))))))) else (am_lp Sum.inl (f_X12_cut_L85 am_FU x1 (0) (lN 0) s74) (fun y85 s85 => am_jn (fun (p135 : Int32 × am_S) => am_jn (fun (p179 : Int32 × am_S) => am_bd (f_X12_token p179.2 p179.1 x1 (0) y85.2) (fun (_ : Unit) s186 => j291 ((x1 + y85.1), s186))) (fun j179 => if 7 < y85.1 then (j179 (p135.1, p135.2)) else (am_lp Sum.inl (f_X12_cut_L146 am_FU x1 y85.1 y85.2 p135.1 (0) p135.2) (fun y146 s146 => j179 (y146, s146))))) (fun j135 => if 8 < y85.1 then (j135 (3, s85)) else (j135 (1, s85))))))))))))) else (am_bd (f_X12_token s19 (0) (s19.1 58 4) (0) (lN 0)) (fun (_ : Unit) s39 => some (.inl ((), s39))))))
def f_X12_cut (s : am_S) : Option (Unit × am_S) := am_lp (fun y => y) (f_X12_cut_L7 am_FU (0) (am_wI s 58 10 (0))) (fun (_ : Unit) s7 => some ((), s7))
set_option maxRecDepth 20000 in
theorem l_X12_cut_208 (d : Nat) (sw : Bool) : ∀ (n : Nat) (x1 : Int32) (x3 : Int32) (x4 : Int32) (s : am_S), am_Sm tb_X12_cut 12 false none none (d + 2) (am_pl am_cU sw (fun (v9 : Int32 × Int32) s9 r h9 => am_Ex tb_X12_cut 12 false none none (d + 2) r h9 250 [.ref 58, .int x1, .null, .int v9.1, .int v9.2, .null, .null, .null] [] (am_hp sw s9))) (f_X12_cut_L208 n x1 x3 x4 s) 208 [.ref 58, .int x1, .null, .int x3, .int x4, .null, .null, .null] [] (am_hp sw s) := by
  intro n
  induction n with
  | zero => intro x1 x3 x4 s; exact sm_no
  | succ n ih =>
    intro x1 x3 x4 s
    rw [f_X12_cut_L208]
    refine sm_call (cvf := am_cI) 4 212 [.ref 58, .int x1, .null, .int x3, .int x4, .null, .null, .null] [.int (x1 + x3), .ref 58] sw s 136 [.ref 58, .int (x1 + x3)] [] (fun _ => rfl) rfl (fun _ _ e9 => r_X12_at (d + 1) sw _ _ _ _ e9) am_pl20 (fun v212 s212 => ?_)
    refine sm_call (cvf := am_cI) 0 215 [.ref 58, .int x1, .null, .int x3, .int x4, .null, .null, .null] [.int v212] sw s212 137 [.int v212] [] (fun _ => rfl) rfl (fun _ _ e9 => r_X12_isDigit (d + 1) sw _ _ _ _ e9) am_pl20 (fun v215 s215 => ?_)
    refine sm_br 1 250 221 [.ref 58, .int x1, .null, .int x3, .int x4, .null, .null, .null] [] (am_hp sw s215) (fun _ => rfl) (fun _ => ?_) (fun _ => ?_)
    · exact sm_ex (fun _ _ h => h.2)
    · refine sm_go 2 223 [.ref 58, .int x1, .null, .int x3, .int x4, .null, .null, .null] [.int (4), .int x3] (am_hp sw s215) (fun _ => rfl) ?_
      refine sm_jn 244 (fun p244 => [.ref 58, .int x1, .null, .int x3, .int p244.1, .null, .null, .null]) (fun p244 => []) (fun p244 => (am_hp sw p244.2)) (fun p244 => ?_) (fun j244 hj244 => ?_)
      · refine sm_go 2 208 [.ref 58, .int x1, .null, .int (x3 + 1), .int p244.1, .null, .null, .null] [] (am_hp sw p244.2) (fun _ => rfl) ?_
        exact ih x1 (x3 + 1) p244.1 p244.2
      refine sm_br 1 226 244 [.ref 58, .int x1, .null, .int x3, .int x4, .null, .null, .null] [] (am_hp sw s215) (fun _ => rfl) (fun _ => ?_) (fun _ => ?_)
      · refine sm_call (cvf := am_cI) 7 235 [.ref 58, .int x1, .null, .int x3, .int x4, .null, .null, .null] [.int (x1 + x3), .ref 58, .int (10 * x4)] sw s215 136 [.ref 58, .int (x1 + x3)] [.int (10 * x4)] (fun _ => rfl) rfl (fun _ _ e9 => r_X12_at (d + 1) sw _ _ _ _ e9) am_pl20 (fun v235 s235 => ?_)
        refine sm_go 4 244 [.ref 58, .int x1, .null, .int x3, .int (((10 * x4) + v235) - 48), .null, .null, .null] [] (am_hp sw s235) (fun _ => rfl) ?_
        exact hj244 ((((10 * x4) + v235) - 48), s235)
      · exact hj244 (x4, s215)

set_option maxRecDepth 20000 in
theorem l_X12_cut_85 (d : Nat) (sw : Bool) : ∀ (n : Nat) (x1 : Int32) (x3 : Int32) (x4 : Int64) (s : am_S), am_Sm tb_X12_cut 12 false none none (d + 2) (am_pl am_cU sw (fun (v9 : Int32 × Int64) s9 r h9 => am_Ex tb_X12_cut 12 false none none (d + 2) r h9 124 [.ref 58, .int x1, .null, .int v9.1, .long v9.2, .null, .null, .null] [] (am_hp sw s9))) (f_X12_cut_L85 n x1 x3 x4 s) 85 [.ref 58, .int x1, .null, .int x3, .long x4, .null, .null, .null] [] (am_hp sw s) := by
  intro n
  induction n with
  | zero => intro x1 x3 x4 s; exact sm_no
  | succ n ih =>
    intro x1 x3 x4 s
    rw [f_X12_cut_L85]
    refine sm_call (cvf := am_cI) 4 89 [.ref 58, .int x1, .null, .int x3, .long x4, .null, .null, .null] [.int (x1 + x3), .ref 58] sw s 136 [.ref 58, .int (x1 + x3)] [] (fun _ => rfl) rfl (fun _ _ e9 => r_X12_at (d + 1) sw _ _ _ _ e9) am_pl20 (fun v89 s89 => ?_)
    refine sm_call (cvf := am_cI) 0 92 [.ref 58, .int x1, .null, .int x3, .long x4, .null, .null, .null] [.int v89] sw s89 138 [.int v89] [] (fun _ => rfl) rfl (fun _ _ e9 => r_X12_isLetter (d + 1) sw _ _ _ _ e9) am_pl20 (fun v92 s92 => ?_)
    refine sm_br 1 124 98 [.ref 58, .int x1, .null, .int x3, .long x4, .null, .null, .null] [] (am_hp sw s92) (fun _ => rfl) (fun _ => ?_) (fun _ => ?_)
    · exact sm_ex (fun _ _ h => h.2)
    · refine sm_go 2 101 [.ref 58, .int x1, .null, .int x3, .long x4, .null, .null, .null] [.int (8), .int x3] (am_hp sw s92) (fun _ => rfl) ?_
      refine sm_jn 118 (fun p118 => [.ref 58, .int x1, .null, .int x3, .long p118.1, .null, .null, .null]) (fun p118 => []) (fun p118 => (am_hp sw p118.2)) (fun p118 => ?_) (fun j118 hj118 => ?_)
      · refine sm_go 2 85 [.ref 58, .int x1, .null, .int (x3 + 1), .long p118.1, .null, .null, .null] [] (am_hp sw p118.2) (fun _ => rfl) ?_
        exact ih x1 (x3 + 1) p118.1 p118.2
      refine sm_br 1 104 118 [.ref 58, .int x1, .null, .int x3, .long x4, .null, .null, .null] [] (am_hp sw s92) (fun _ => rfl) (fun _ => ?_) (fun _ => ?_)
      · refine sm_call (cvf := am_cI) 5 110 [.ref 58, .int x1, .null, .int x3, .long x4, .null, .null, .null] [.int (x1 + x3), .ref 58, .long x4] sw s92 136 [.ref 58, .int (x1 + x3)] [.long x4] (fun _ => rfl) rfl (fun _ _ e9 => r_X12_at (d + 1) sw _ _ _ _ e9) am_pl20 (fun v110 s110 => ?_)
        refine sm_call (cvf := am_cL) 0 113 [.ref 58, .int x1, .null, .int x3, .long x4, .null, .null, .null] [.int v110, .long x4] sw s110 139 [.long x4, .int v110] [] (fun _ => rfl) rfl (fun _ _ e9 => r_X12_more (d + 1) sw _ _ _ _ _ e9) am_pl20 (fun v113 s113 => ?_)
        refine sm_go 1 118 [.ref 58, .int x1, .null, .int x3, .long v113, .null, .null, .null] [] (am_hp sw s113) (fun _ => rfl) ?_
        exact hj118 (v113, s113)
      · exact hj118 (x4, s92)

set_option maxRecDepth 20000 in
theorem l_X12_cut_146 (d : Nat) (sw : Bool) : ∀ (n : Nat) (x1 : Int32) (x3 : Int32) (x4 : Int64) (x6 : Int32) (x7 : Int32) (s : am_S), am_Sm tb_X12_cut 12 false none none (d + 2) (am_pl am_cU sw (fun (v9 : Int32) s9 r h9 => am_Ex tb_X12_cut 12 false none none (d + 2) r h9 179 [.ref 58, .int x1, .null, .int x3, .long x4, .null, .int v9, .null] [] (am_hp sw s9))) (f_X12_cut_L146 n x1 x3 x4 x6 x7 s) 146 [.ref 58, .int x1, .null, .int x3, .long x4, .null, .int x6, .int x7] [] (am_hp sw s) := by
  intro n
  induction n with
  | zero => intro x1 x3 x4 x6 x7 s; exact sm_no
  | succ n ih =>
    intro x1 x3 x4 x6 x7 s
    rw [f_X12_cut_L146]
    refine sm_br 3 153 179 [.ref 58, .int x1, .null, .int x3, .long x4, .null, .int x6, .int x7] [] (am_hp sw s) (fun _ => rfl) (fun _ => ?_) (fun _ => ?_)
    · refine sm_lald 3 159 [.ref 58, .int x1, .null, .int x3, .long x4, .null, .int x6, .int x7] [] (am_hp sw s) (i := x7) (c := 65) (fun _ => rfl) rfl rfl rfl ?_
      refine sm_go 2 163 [.ref 58, .int x1, .null, .int x3, .long x4, .null, .int x6, .int x7] [.int (lg_cmp (s.2 65 (Int32.toNatClampNeg x7)) x4)] (am_hp sw s) (fun _ => rfl) ?_
      refine sm_jn 173 (fun p173 => [.ref 58, .int x1, .null, .int x3, .long x4, .null, .int p173.1, .int x7]) (fun p173 => []) (fun p173 => (am_hp sw p173.2)) (fun p173 => ?_) (fun j173 hj173 => ?_)
      · refine sm_go 2 146 [.ref 58, .int x1, .null, .int x3, .long x4, .null, .int p173.1, .int (x7 + 1)] [] (am_hp sw p173.2) (fun _ => rfl) ?_
        exact ih x1 x3 x4 p173.1 (x7 + 1) p173.2
      refine sm_br 1 166 173 [.ref 58, .int x1, .null, .int x3, .long x4, .null, .int x6, .int x7] [] (am_hp sw s) (fun _ => rfl) (fun _ => ?_) (fun _ => ?_)
      · refine sm_go 4 173 [.ref 58, .int x1, .null, .int x3, .long x4, .null, .int (20 + x7), .int x7] [] (am_hp sw s) (fun _ => rfl) ?_
        exact hj173 ((20 + x7), s)
      · exact hj173 (x6, s)
    · refine sm_fg [.ref 58, .int x1, .null, .int x3, .long x4, .null, .int x6, .null] ⟨Or.inr rfl, Or.inr rfl, Or.inl rfl, Or.inr rfl, Or.inr rfl, Or.inl rfl, Or.inr rfl, Or.inl rfl, trivial⟩ ?_
      exact sm_ex (fun _ _ h => h.2)

set_option maxRecDepth 20000 in
theorem l_X12_cut_7 (d : Nat) (sw : Bool) : ∀ (n : Nat) (x1 : Int32) (s : am_S), am_Sm tb_X12_cut 12 false none none (d + 2) (am_pl am_cU sw (fun (v9 : Unit) s9 r h9 => am_Ex tb_X12_cut 12 false none none (d + 2) r h9 294 [.null, .null, .null, .null, .null, .null, .null, .null] [] (am_hp sw s9))) (f_X12_cut_L7 n x1 s) 7 [.ref 58, .int x1, .null, .null, .null, .null, .null, .null] [] (am_hp sw s) := by
  intro n
  induction n with
  | zero => intro x1 s; exact sm_no
  | succ n ih =>
    intro x1 s
    rw [f_X12_cut_L7]
    refine sm_br 4 294 17 [.ref 58, .int x1, .null, .null, .null, .null, .null, .null] [] (am_hp sw s) (fun _ => rfl) (fun _ => ?_) (fun _ => ?_)
    · refine sm_fg [.null, .null, .null, .null, .null, .null, .null, .null] ⟨Or.inl rfl, Or.inl rfl, Or.inl rfl, Or.inl rfl, Or.inl rfl, Or.inl rfl, Or.inl rfl, Or.inl rfl, trivial⟩ ?_
      exact sm_ex (fun _ _ h => h.2)
    · refine sm_call (cvf := am_cI) 2 19 [.ref 58, .int x1, .null, .null, .null, .null, .null, .null] [.int x1, .ref 58] sw s 136 [.ref 58, .int x1] [] (fun _ => rfl) rfl (fun _ _ e9 => r_X12_at (d + 1) sw _ _ _ _ e9) am_pl20 (fun v19 s19 => ?_)
      refine sm_br 5 43 31 [.ref 58, .int x1, .int v19, .null, .null, .null, .null, .null] [] (am_hp sw s19) (fun _ => rfl) (fun _ => ?_) (fun _ => ?_)
      · refine sm_go 2 46 [.ref 58, .int x1, .int v19, .null, .null, .null, .null, .null] [.int (9), .int v19] (am_hp sw s19) (fun _ => rfl) ?_
        refine sm_jn 291 (fun p291 => [.ref 58, .int p291.1, .null, .null, .null, .null, .null, .null]) (fun p291 => []) (fun p291 => (am_hp sw p291.2)) (fun p291 => ?_) (fun j291 hj291 => ?_)
        · refine sm_go 1 7 [.ref 58, .int p291.1, .null, .null, .null, .null, .null, .null] [] (am_hp sw p291.2) (fun _ => rfl) ?_
          exact ih p291.1 p291.2
        refine sm_jn 67 (fun p67 => [.ref 58, .int x1, .null, .null, .null, .null, .null, .null]) (fun p67 => []) (fun p67 => (am_hp sw p67)) (fun p67 => ?_) (fun j67 hj67 => ?_)
        · refine sm_go 2 291 [.ref 58, .int (x1 + 1), .null, .null, .null, .null, .null, .null] [] (am_hp sw p67) (fun _ => rfl) ?_
          exact hj291 ((x1 + 1), p67)
        refine sm_br 1 67 49 [.ref 58, .int x1, .int v19, .null, .null, .null, .null, .null] [] (am_hp sw s19) (fun _ => rfl) (fun _ => ?_) (fun _ => ?_)
        · refine sm_fg [.ref 58, .int x1, .null, .null, .null, .null, .null, .null] ⟨Or.inr rfl, Or.inr rfl, Or.inl rfl, Or.inl rfl, Or.inl rfl, Or.inl rfl, Or.inl rfl, Or.inl rfl, trivial⟩ ?_
          exact hj67 s19
        · refine sm_br 3 67 55 [.ref 58, .int x1, .int v19, .null, .null, .null, .null, .null] [] (am_hp sw s19) (fun _ => rfl) (fun _ => ?_) (fun _ => ?_)
          · refine sm_fg [.ref 58, .int x1, .null, .null, .null, .null, .null, .null] ⟨Or.inr rfl, Or.inr rfl, Or.inl rfl, Or.inl rfl, Or.inl rfl, Or.inl rfl, Or.inl rfl, Or.inl rfl, trivial⟩ ?_
            exact hj67 s19
          · refine sm_br 3 67 61 [.ref 58, .int x1, .int v19, .null, .null, .null, .null, .null] [] (am_hp sw s19) (fun _ => rfl) (fun _ => ?_) (fun _ => ?_)
            · refine sm_fg [.ref 58, .int x1, .null, .null, .null, .null, .null, .null] ⟨Or.inr rfl, Or.inr rfl, Or.inl rfl, Or.inl rfl, Or.inl rfl, Or.inl rfl, Or.inl rfl, Or.inl rfl, trivial⟩ ?_
              exact hj67 s19
            · refine sm_br 3 67 73 [.ref 58, .int x1, .int v19, .null, .null, .null, .null, .null] [] (am_hp sw s19) (fun _ => rfl) (fun _ => ?_) (fun _ => ?_)
              · refine sm_fg [.ref 58, .int x1, .null, .null, .null, .null, .null, .null] ⟨Or.inr rfl, Or.inr rfl, Or.inl rfl, Or.inl rfl, Or.inl rfl, Or.inl rfl, Or.inl rfl, Or.inl rfl, trivial⟩ ?_
                exact hj67 s19
              · refine sm_call (cvf := am_cI) 1 74 [.ref 58, .int x1, .int v19, .null, .null, .null, .null, .null] [.int v19] sw s19 138 [.int v19] [] (fun _ => rfl) rfl (fun _ _ e9 => r_X12_isLetter (d + 1) sw _ _ _ _ e9) am_pl20 (fun v74 s74 => ?_)
                refine sm_br 1 196 80 [.ref 58, .int x1, .int v19, .null, .null, .null, .null, .null] [] (am_hp sw s74) (fun _ => rfl) (fun _ => ?_) (fun _ => ?_)
                · refine sm_call (cvf := am_cI) 1 197 [.ref 58, .int x1, .int v19, .null, .null, .null, .null, .null] [.int v19] sw s74 137 [.int v19] [] (fun _ => rfl) rfl (fun _ _ e9 => r_X12_isDigit (d + 1) sw _ _ _ _ e9) am_pl20 (fun v197 s197 => ?_)
                  refine sm_br 1 275 203 [.ref 58, .int x1, .int v19, .null, .null, .null, .null, .null] [] (am_hp sw s197) (fun _ => rfl) (fun _ => ?_) (fun _ => ?_)
                  · refine sm_call (cvf := am_cI) 8 283 [.ref 58, .int x1, .int v19, .null, .null, .null, .null, .null] [.int (x1 + 1), .ref 58, .int v19, .int x1, .ref 58, .int x1] sw s197 136 [.ref 58, .int (x1 + 1)] [.int v19, .int x1, .ref 58, .int x1] (fun _ => rfl) rfl (fun _ _ e9 => r_X12_at (d + 1) sw _ _ _ _ e9) am_pl20 (fun v283 s283 => ?_)
                    refine sm_call (cvf := am_cI) 0 286 [.ref 58, .int x1, .int v19, .null, .null, .null, .null, .null] [.int v283, .int v19, .int x1, .ref 58, .int x1] sw s283 143 [.ref 58, .int x1, .int v19, .int v283] [.int x1] (fun _ => rfl) rfl (fun _ _ e9 => r_X12_sign (d + 0) sw _ _ _ _ _ _ e9) am_pl20 (fun v286 s286 => ?_)
                    refine sm_go 2 291 [.ref 58, .int (x1 + v286), .int v19, .null, .null, .null, .null, .null] [] (am_hp sw s286) (fun _ => rfl) ?_
                    refine sm_fg [.ref 58, .int (x1 + v286), .null, .null, .null, .null, .null, .null] ⟨Or.inr rfl, Or.inr rfl, Or.inl rfl, Or.inl rfl, Or.inl rfl, Or.inl rfl, Or.inl rfl, Or.inl rfl, trivial⟩ ?_
                    exact hj291 ((x1 + v286), s286)
                  · refine sm_go 4 208 [.ref 58, .int x1, .int v19, .int (0), .int (0), .null, .null, .null] [] (am_hp sw s197) (fun _ => rfl) ?_
                    refine sm_fg [.ref 58, .int x1, .null, .int (0), .int (0), .null, .null, .null] ⟨Or.inr rfl, Or.inr rfl, Or.inl rfl, Or.inr rfl, Or.inr rfl, Or.inl rfl, Or.inl rfl, Or.inl rfl, trivial⟩ ?_
                    refine sm_lp 250 (fun y208 => [.ref 58, .int x1, .null, .int y208.1, .int y208.2, .null, .null, .null]) (l_X12_cut_208 d sw am_FU x1 (0) (0) s197) (fun _ _ _ h => h) am_pl20 (fun y208 s208 => ?_)
                    refine sm_go 3 253 [.ref 58, .int x1, .null, .int y208.1, .int y208.2, .null, .null, .null] [.int (4), .int y208.1, .ref 58] (am_hp sw s208) (fun _ => rfl) ?_
                    refine sm_jn 261 (fun p261 => [.ref 58, .int x1, .null, .int y208.1, .int y208.2, .null, .null, .null]) (fun p261 => [.int p261.1, .ref 58]) (fun p261 => (am_hp sw p261.2)) (fun p261 => ?_) (fun j261 hj261 => ?_)
                    · refine sm_call (cvf := am_cU) 3 265 [.ref 58, .int x1, .null, .int y208.1, .int y208.2, .null, .null, .null] [.long (lN 0), .int y208.2, .int x1, .int p261.1, .ref 58] sw p261.2 141 [.ref 58, .int p261.1, .int x1, .int y208.2, .long (lN 0)] [] (fun _ => rfl) rfl (fun _ _ e9 => r_X12_token (d + 1) sw _ _ _ _ _ _ _ e9) am_pl20 (fun _v s265 => ?_)
                      refine sm_go 5 291 [.ref 58, .int (x1 + y208.1), .null, .int y208.1, .int y208.2, .null, .null, .null] [] (am_hp sw s265) (fun _ => rfl) ?_
                      refine sm_fg [.ref 58, .int (x1 + y208.1), .null, .null, .null, .null, .null, .null] ⟨Or.inr rfl, Or.inr rfl, Or.inl rfl, Or.inl rfl, Or.inl rfl, Or.inl rfl, Or.inl rfl, Or.inl rfl, trivial⟩ ?_
                      exact hj291 ((x1 + y208.1), s265)
                    refine sm_br 1 256 260 [.ref 58, .int x1, .null, .int y208.1, .int y208.2, .null, .null, .null] [.ref 58] (am_hp sw s208) (fun _ => rfl) (fun _ => ?_) (fun _ => ?_)
                    · refine sm_go 2 261 [.ref 58, .int x1, .null, .int y208.1, .int y208.2, .null, .null, .null] [.int (3), .ref 58] (am_hp sw s208) (fun _ => rfl) ?_
                      exact hj261 (3, s208)
                    · refine sm_go 1 261 [.ref 58, .int x1, .null, .int y208.1, .int y208.2, .null, .null, .null] [.int (2), .ref 58] (am_hp sw s208) (fun _ => rfl) ?_
                      exact hj261 (2, s208)
                · refine sm_go 4 85 [.ref 58, .int x1, .int v19, .int (0), .long (lN 0), .null, .null, .null] [] (am_hp sw s74) (fun _ => rfl) ?_
                  refine sm_fg [.ref 58, .int x1, .null, .int (0), .long (lN 0), .null, .null, .null] ⟨Or.inr rfl, Or.inr rfl, Or.inl rfl, Or.inr rfl, Or.inr rfl, Or.inl rfl, Or.inl rfl, Or.inl rfl, trivial⟩ ?_
                  refine sm_lp 124 (fun y85 => [.ref 58, .int x1, .null, .int y85.1, .long y85.2, .null, .null, .null]) (l_X12_cut_85 d sw am_FU x1 (0) (lN 0) s74) (fun _ _ _ h => h) am_pl20 (fun y85 s85 => ?_)
                  refine sm_go 2 127 [.ref 58, .int x1, .null, .int y85.1, .long y85.2, .null, .null, .null] [.int (8), .int y85.1] (am_hp sw s85) (fun _ => rfl) ?_
                  refine sm_jn 135 (fun p135 => [.ref 58, .int x1, .null, .int y85.1, .long y85.2, .null, .null, .null]) (fun p135 => [.int p135.1]) (fun p135 => (am_hp sw p135.2)) (fun p135 => ?_) (fun j135 hj135 => ?_)
                  · refine sm_go 3 140 [.ref 58, .int x1, .null, .int y85.1, .long y85.2, .null, .int p135.1, .null] [.int (7), .int y85.1] (am_hp sw p135.2) (fun _ => rfl) ?_
                    refine sm_jn 179 (fun p179 => [.ref 58, .int x1, .null, .int y85.1, .long y85.2, .null, .int p179.1, .null]) (fun p179 => []) (fun p179 => (am_hp sw p179.2)) (fun p179 => ?_) (fun j179 hj179 => ?_)
                    · refine sm_call (cvf := am_cU) 5 186 [.ref 58, .int x1, .null, .int y85.1, .long y85.2, .null, .int p179.1, .null] [.long y85.2, .int (0), .int x1, .int p179.1, .ref 58] sw p179.2 141 [.ref 58, .int p179.1, .int x1, .int (0), .long y85.2] [] (fun _ => rfl) rfl (fun _ _ e9 => r_X12_token (d + 1) sw _ _ _ _ _ _ _ e9) am_pl20 (fun _v s186 => ?_)
                      refine sm_go 5 291 [.ref 58, .int (x1 + y85.1), .null, .int y85.1, .long y85.2, .null, .int p179.1, .null] [] (am_hp sw s186) (fun _ => rfl) ?_
                      refine sm_fg [.ref 58, .int (x1 + y85.1), .null, .null, .null, .null, .null, .null] ⟨Or.inr rfl, Or.inr rfl, Or.inl rfl, Or.inl rfl, Or.inl rfl, Or.inl rfl, Or.inl rfl, Or.inl rfl, trivial⟩ ?_
                      exact hj291 ((x1 + y85.1), s186)
                    refine sm_br 1 179 143 [.ref 58, .int x1, .null, .int y85.1, .long y85.2, .null, .int p135.1, .null] [] (am_hp sw p135.2) (fun _ => rfl) (fun _ => ?_) (fun _ => ?_)
                    · exact hj179 (p135.1, p135.2)
                    · refine sm_go 2 146 [.ref 58, .int x1, .null, .int y85.1, .long y85.2, .null, .int p135.1, .int (0)] [] (am_hp sw p135.2) (fun _ => rfl) ?_
                      refine sm_lp 179 (fun y146 => [.ref 58, .int x1, .null, .int y85.1, .long y85.2, .null, .int y146, .null]) (l_X12_cut_146 d sw am_FU x1 y85.1 y85.2 p135.1 (0) p135.2) (fun _ _ _ h => h) am_pl20 (fun y146 s146 => ?_)
                      exact hj179 (y146, s146)
                  refine sm_br 1 130 134 [.ref 58, .int x1, .null, .int y85.1, .long y85.2, .null, .null, .null] [] (am_hp sw s85) (fun _ => rfl) (fun _ => ?_) (fun _ => ?_)
                  · refine sm_go 2 135 [.ref 58, .int x1, .null, .int y85.1, .long y85.2, .null, .null, .null] [.int (3)] (am_hp sw s85) (fun _ => rfl) ?_
                    exact hj135 (3, s85)
                  · refine sm_go 1 135 [.ref 58, .int x1, .null, .int y85.1, .long y85.2, .null, .null, .null] [.int (1)] (am_hp sw s85) (fun _ => rfl) ?_
                    exact hj135 (1, s85)
      · refine sm_call (cvf := am_cU) 6 39 [.ref 58, .int x1, .int v19, .null, .null, .null, .null, .null] [.long (lN 0), .int (0), .int (s19.1 58 4), .int (0), .ref 58] sw s19 141 [.ref 58, .int (0), .int (s19.1 58 4), .int (0), .long (lN 0)] [] (fun _ => rfl) rfl (fun _ _ e9 => r_X12_token (d + 1) sw _ _ _ _ _ _ _ e9) am_pl20 (fun _v s39 => ?_)
        exact sm_ret 0 42 [.ref 58, .int x1, .int v19, .null, .null, .null, .null, .null] [] (am_hp sw s39) none (fun _ => rfl) rfl (fun _ _ h => h)

set_option maxRecDepth 20000 in
theorem r_X12_cut (d : Nat) (sw : Bool) (s s' : am_S) (v : Unit) (e : f_X12_cut s = some (v, s')) : am_Run (d + 3) 142 [.ref 58] (am_hp sw s) (am_cU v) (am_hp sw s') := by
  refine am_Run.of (M := mt_X12_cut) (cvf := am_cU) (X := f_X12_cut s) rfl rfl rfl (by simp) ?_ e
  unfold f_X12_cut
  show am_Sm tb_X12_cut 12 false none none (d + 2) (am_po am_cU sw) _ 0 [.ref 58, .null, .null, .null, .null, .null, .null, .null] [] (am_hp sw s)
  refine sm_go 5 7 [.ref 58, .int (0), .null, .null, .null, .null, .null, .null] [] (am_hp sw (am_wI s 58 10 (0))) (fun _ => rfl) ?_
  refine sm_lp 294 (fun _y => [.null, .null, .null, .null, .null, .null, .null, .null]) (l_X12_cut_7 d sw am_FU (0) (am_wI s 58 10 (0))) (fun _ _ _ h => h) am_po20 (fun _y s7 => ?_)
  exact sm_ret 0 294 [.null, .null, .null, .null, .null, .null, .null, .null] [] (am_hp sw s7) none (fun _ => rfl) rfl (fun _ _ h => h)

def f_X12_is (s : am_S) (x1 : Int32) : Option (Int32 × am_S) := if (s.1 58 13) = 0 then (am_gu (am_in (s.1 58 11) 403) (if (s.1 61 (Int32.toNatClampNeg (s.1 58 11))) = x1 then (some ((1), s)) else (some ((0), s)))) else (some ((0), s))
set_option maxRecDepth 20000 in
theorem r_X12_is (d : Nat) (sw : Bool) (s s' : am_S) (x1 : Int32) (v : Int32) (e : f_X12_is s x1 = some (v, s')) : am_Run (d + 1) 144 [.ref 58, .int x1] (am_hp sw s) (am_cI v) (am_hp sw s') := by
  refine am_Run.of (M := mt_X12_is) (cvf := am_cI) (X := f_X12_is s x1) rfl rfl rfl (by simp) ?_ e
  unfold f_X12_is
  show am_Sm tb_X12_is 12 false none (some .boolean) (d + 0) (am_po am_cI sw) _ 0 [.ref 58, .int x1] [] (am_hp sw s)
  refine sm_br 3 7 24 [.ref 58, .int x1] [] (am_hp sw s) (fun _ => rfl) (fun _ => ?_) (fun _ => ?_)
  · refine sm_iald 4 15 [.ref 58, .int x1] [] (am_hp sw s) (i := (s.1 58 11)) (c := 61) (fun _ => rfl) rfl rfl rfl rfl ?_
    refine sm_br 2 20 24 [.ref 58, .int x1] [] (am_hp sw s) (fun _ => rfl) (fun _ => ?_) (fun _ => ?_)
    · exact sm_ret 2 25 [.ref 58, .int x1] [.int (1)] (am_hp sw s) (some (.int (1))) (fun _ => rfl) rfl (fun _ _ h => h)
    · exact sm_ret 1 25 [.ref 58, .int x1] [.int (0)] (am_hp sw s) (some (.int (0))) (fun _ => rfl) rfl (fun _ _ h => h)
  · exact sm_ret 1 25 [.ref 58, .int x1] [.int (0)] (am_hp sw s) (some (.int (0))) (fun _ => rfl) rfl (fun _ _ h => h)

def f_X12_fail (s : am_S) (x1 : Int32) : Option (Unit × am_S) := if 0 < (s.1 58 13) then (some ((), s)) else (am_gu (am_in (s.1 58 11) 403) (some ((), (am_wI (am_wI s 58 13 x1) 58 14 (s.1 62 (Int32.toNatClampNeg (s.1 58 11)))))))
set_option maxRecDepth 20000 in
theorem r_X12_fail (d : Nat) (sw : Bool) (s s' : am_S) (x1 : Int32) (v : Unit) (e : f_X12_fail s x1 = some (v, s')) : am_Run (d + 1) 145 [.ref 58, .int x1] (am_hp sw s) (am_cU v) (am_hp sw s') := by
  refine am_Run.of (M := mt_X12_fail) (cvf := am_cU) (X := f_X12_fail s x1) rfl rfl rfl (by simp) ?_ e
  unfold f_X12_fail
  show am_Sm tb_X12_fail 12 false none none (d + 0) (am_po am_cU sw) _ 0 [.ref 58, .int x1] [] (am_hp sw s)
  refine sm_br 3 7 8 [.ref 58, .int x1] [] (am_hp sw s) (fun _ => rfl) (fun _ => ?_) (fun _ => ?_)
  · exact sm_ret 0 7 [.ref 58, .int x1] [] (am_hp sw s) none (fun _ => rfl) rfl (fun _ _ h => h)
  · refine sm_iald 8 22 [.ref 58, .int x1] [.ref 58] (am_hp sw (am_wI s 58 13 x1)) (i := (s.1 58 11)) (c := 62) (fun _ => rfl) rfl rfl rfl rfl ?_
    exact sm_ret 1 26 [.ref 58, .int x1] [] (am_hp sw (am_wI (am_wI s 58 13 x1) 58 14 (s.1 62 (Int32.toNatClampNeg (s.1 58 11))))) none (fun _ => rfl) rfl (fun _ _ h => h)

def f_X12_next (s : am_S) : Option (Unit × am_S) := if (s.1 58 11) = 400 then (am_bd (f_X12_fail s (2)) (fun (_ : Unit) s12 => some ((), s12))) else (some ((), (am_wI s 58 11 ((s.1 58 11) + 1))))
set_option maxRecDepth 20000 in
theorem r_X12_next (d : Nat) (sw : Bool) (s s' : am_S) (v : Unit) (e : f_X12_next s = some (v, s')) : am_Run (d + 2) 146 [.ref 58] (am_hp sw s) (am_cU v) (am_hp sw s') := by
  refine am_Run.of (M := mt_X12_next) (cvf := am_cU) (X := f_X12_next s) rfl rfl rfl (by simp) ?_ e
  unfold f_X12_next
  show am_Sm tb_X12_next 12 false none none (d + 1) (am_po am_cU sw) _ 0 [.ref 58] [] (am_hp sw s)
  refine sm_br 4 10 18 [.ref 58] [] (am_hp sw s) (fun _ => rfl) (fun _ => ?_) (fun _ => ?_)
  · refine sm_call (cvf := am_cU) 2 12 [.ref 58] [.int (2), .ref 58] sw s 145 [.ref 58, .int (2)] [] (fun _ => rfl) rfl (fun _ _ e9 => r_X12_fail (d + 0) sw _ _ _ _ e9) am_po20 (fun _v s12 => ?_)
    exact sm_ret 1 28 [.ref 58] [] (am_hp sw s12) none (fun _ => rfl) rfl (fun _ _ h => h)
  · exact sm_ret 6 28 [.ref 58] [] (am_hp sw (am_wI s 58 11 ((s.1 58 11) + 1))) none (fun _ => rfl) rfl (fun _ _ h => h)

def f_X12_must (s : am_S) (x1 : Int32) : Option (Unit × am_S) := am_bd (f_X12_is s x1) (fun v2 s2 => if v2 = 0 then (am_bd (f_X12_fail s2 (1)) (fun (_ : Unit) s17 => some ((), s17))) else (am_bd (f_X12_next s2) (fun (_ : Unit) s9 => some ((), s9))))
set_option maxRecDepth 20000 in
theorem r_X12_must (d : Nat) (sw : Bool) (s s' : am_S) (x1 : Int32) (v : Unit) (e : f_X12_must s x1 = some (v, s')) : am_Run (d + 3) 147 [.ref 58, .int x1] (am_hp sw s) (am_cU v) (am_hp sw s') := by
  refine am_Run.of (M := mt_X12_must) (cvf := am_cU) (X := f_X12_must s x1) rfl rfl rfl (by simp) ?_ e
  unfold f_X12_must
  show am_Sm tb_X12_must 12 false none none (d + 2) (am_po am_cU sw) _ 0 [.ref 58, .int x1] [] (am_hp sw s)
  refine sm_call (cvf := am_cI) 2 2 [.ref 58, .int x1] [.int x1, .ref 58] sw s 144 [.ref 58, .int x1] [] (fun _ => rfl) rfl (fun _ _ e9 => r_X12_is (d + 1) sw _ _ _ _ e9) am_po20 (fun v2 s2 => ?_)
  refine sm_br 1 15 8 [.ref 58, .int x1] [] (am_hp sw s2) (fun _ => rfl) (fun _ => ?_) (fun _ => ?_)
  · refine sm_call (cvf := am_cU) 2 17 [.ref 58, .int x1] [.int (1), .ref 58] sw s2 145 [.ref 58, .int (1)] [] (fun _ => rfl) rfl (fun _ _ e9 => r_X12_fail (d + 1) sw _ _ _ _ e9) am_po20 (fun _v s17 => ?_)
    exact sm_ret 0 20 [.ref 58, .int x1] [] (am_hp sw s17) none (fun _ => rfl) rfl (fun _ _ h => h)
  · refine sm_call (cvf := am_cU) 1 9 [.ref 58, .int x1] [.ref 58] sw s2 146 [.ref 58] [] (fun _ => rfl) rfl (fun _ _ e9 => r_X12_next (d + 0) sw _ _  _ e9) am_po20 (fun _v s9 => ?_)
    exact sm_ret 1 20 [.ref 58, .int x1] [] (am_hp sw s9) none (fun _ => rfl) rfl (fun _ _ h => h)

def f_X12_emit (s : am_S) (x1 : Int32) (x2 : Int32) : Option (Unit × am_S) := am_gu (am_in (s.1 58 32) 1000) (am_gu (am_in (s.1 58 32) 1000) (some ((), (am_wI (am_wI (am_wI s 78 (Int32.toNatClampNeg (s.1 58 32)) x1) 79 (Int32.toNatClampNeg (s.1 58 32)) x2) 58 32 ((s.1 58 32) + 1)))))
set_option maxRecDepth 20000 in
theorem r_X12_emit (d : Nat) (sw : Bool) (s s' : am_S) (x1 : Int32) (x2 : Int32) (v : Unit) (e : f_X12_emit s x1 x2 = some (v, s')) : am_Run (d + 1) 152 [.ref 58, .int x1, .int x2] (am_hp sw s) (am_cU v) (am_hp sw s') := by
  refine am_Run.of (M := mt_X12_emit) (cvf := am_cU) (X := f_X12_emit s x1 x2) rfl rfl rfl (by simp) ?_ e
  unfold f_X12_emit
  show am_Sm tb_X12_emit 12 false none none (d + 0) (am_po am_cU sw) _ 0 [.ref 58, .int x1, .int x2] [] (am_hp sw s)
  refine sm_iast 5 9 [.ref 58, .int x1, .int x2] [] sw s (i := (s.1 58 32)) (x := x1) (c := 78) (fun _ => rfl) rfl rfl rfl ?_
  refine sm_iast 5 19 [.ref 58, .int x1, .int x2] [] sw (am_wI s 78 (Int32.toNatClampNeg (s.1 58 32)) x1) (i := (s.1 58 32)) (x := x2) (c := 79) (fun _ => rfl) rfl rfl rfl ?_
  exact sm_ret 6 30 [.ref 58, .int x1, .int x2] [] (am_hp sw (am_wI (am_wI (am_wI s 78 (Int32.toNatClampNeg (s.1 58 32)) x1) 79 (Int32.toNatClampNeg (s.1 58 32)) x2) 58 32 ((s.1 58 32) + 1))) none (fun _ => rfl) rfl (fun _ _ h => h)

def f_X12_comesOut_L0 : Nat → Int32 → am_S → Option ((Unit × am_S) ⊕ ((Unit) × am_S))
  | 0, _, _ => none
  | n + 1, x1, s => if 0 < (s.1 58 36) then (am_gu (am_in ((s.1 58 36) - 1) 48) (if (s.1 80 (Int32.toNatClampNeg ((s.1 58 36) - 1))) = 6 then (some (.inr ((), s))) else (am_jn (fun (p43 : am_S) => am_gu (am_in ((p43.1 58 36) - 1) 48) (am_jn (fun (p85 : Int32 × am_S) => am_bd (f_X12_emit p85.2 p85.1 (0)) (fun (_ : Unit) s86 => f_X12_comesOut_L0 n x1 s86)) (fun j85 => if (p43.1 80 (Int32.toNatClampNeg ((p43.1 58 36) - 1))) = 8 then (j85 (2, (am_wI p43 58 36 ((p43.1 58 36) - 1)))) else (if (p43.1 80 (Int32.toNatClampNeg ((p43.1 58 36) - 1))) = 9 then (j85 (3, (am_wI p43 58 36 ((p43.1 58 36) - 1)))) else (j85 (4, (am_wI p43 58 36 ((p43.1 58 36) - 1)))))))) (fun j43 => if x1 = 0 then (j43 s) else (am_gu (am_in ((s.1 58 36) - 1) 48) (if (s.1 80 (Int32.toNatClampNeg ((s.1 58 36) - 1))) = 10 then (j43 s) else (some (.inr ((), s))))))))) else (some (.inr ((), s)))
def f_X12_comesOut (s : am_S) (x1 : Int32) : Option (Unit × am_S) := am_lp (fun y => y) (f_X12_comesOut_L0 am_FU x1 s) (fun (_ : Unit) s0 => some ((), s0))
set_option maxRecDepth 20000 in
theorem l_X12_comesOut_0 (d : Nat) (sw : Bool) : ∀ (n : Nat) (x1 : Int32) (s : am_S), am_Sm tb_X12_comesOut 12 false none none (d + 1) (am_pl am_cU sw (fun (v9 : Unit) s9 r h9 => am_Ex tb_X12_comesOut 12 false none none (d + 1) r h9 92 [.null, .null, .null] [] (am_hp sw s9))) (f_X12_comesOut_L0 n x1 s) 0 [.ref 58, .int x1, .null] [] (am_hp sw s) := by
  intro n
  induction n with
  | zero => intro x1 s; exact sm_no
  | succ n ih =>
    intro x1 s
    rw [f_X12_comesOut_L0]
    refine sm_br 3 7 92 [.ref 58, .int x1, .null] [] (am_hp sw s) (fun _ => rfl) (fun _ => ?_) (fun _ => ?_)
    · refine sm_iald 6 17 [.ref 58, .int x1, .null] [] (am_hp sw s) (i := ((s.1 58 36) - 1)) (c := 80) (fun _ => rfl) rfl rfl rfl rfl ?_
      refine sm_br 2 92 23 [.ref 58, .int x1, .null] [] (am_hp sw s) (fun _ => rfl) (fun _ => ?_) (fun _ => ?_)
      · refine sm_fg [.null, .null, .null] ⟨Or.inl rfl, Or.inl rfl, Or.inl rfl, trivial⟩ ?_
        exact sm_ex (fun _ _ h => h.2)
      · refine sm_go 1 24 [.ref 58, .int x1, .null] [.int x1] (am_hp sw s) (fun _ => rfl) ?_
        refine sm_jn 43 (fun p43 => [.ref 58, .int x1, .null]) (fun p43 => []) (fun p43 => (am_hp sw p43)) (fun p43 => ?_) (fun j43 hj43 => ?_)
        · refine sm_iald 10 61 [.ref 58, .int x1, .null] [] (am_hp sw (am_wI p43 58 36 ((p43.1 58 36) - 1))) (i := ((p43.1 58 36) - 1)) (c := 80) (fun _ => rfl) rfl rfl rfl rfl ?_
          refine sm_go 4 67 [.ref 58, .int x1, .int (p43.1 80 (Int32.toNatClampNeg ((p43.1 58 36) - 1)))] [.int (8), .int (p43.1 80 (Int32.toNatClampNeg ((p43.1 58 36) - 1))), .ref 58] (am_hp sw (am_wI p43 58 36 ((p43.1 58 36) - 1))) (fun _ => rfl) ?_
          refine sm_jn 85 (fun p85 => [.ref 58, .int x1, .null]) (fun p85 => [.int p85.1, .ref 58]) (fun p85 => (am_hp sw p85.2)) (fun p85 => ?_) (fun j85 hj85 => ?_)
          · refine sm_call (cvf := am_cU) 1 86 [.ref 58, .int x1, .null] [.int (0), .int p85.1, .ref 58] sw p85.2 152 [.ref 58, .int p85.1, .int (0)] [] (fun _ => rfl) rfl (fun _ _ e9 => r_X12_emit (d + 0) sw _ _ _ _ _ e9) am_pl20 (fun _v s86 => ?_)
            refine sm_go 1 0 [.ref 58, .int x1, .null] [] (am_hp sw s86) (fun _ => rfl) ?_
            exact ih x1 s86
          refine sm_br 1 70 74 [.ref 58, .int x1, .int (p43.1 80 (Int32.toNatClampNeg ((p43.1 58 36) - 1)))] [.ref 58] (am_hp sw (am_wI p43 58 36 ((p43.1 58 36) - 1))) (fun _ => rfl) (fun _ => ?_) (fun _ => ?_)
          · refine sm_go 2 85 [.ref 58, .int x1, .int (p43.1 80 (Int32.toNatClampNeg ((p43.1 58 36) - 1)))] [.int (2), .ref 58] (am_hp sw (am_wI p43 58 36 ((p43.1 58 36) - 1))) (fun _ => rfl) ?_
            refine sm_fg [.ref 58, .int x1, .null] ⟨Or.inr rfl, Or.inr rfl, Or.inl rfl, trivial⟩ ?_
            exact hj85 (2, (am_wI p43 58 36 ((p43.1 58 36) - 1)))
          · refine sm_br 3 80 84 [.ref 58, .int x1, .int (p43.1 80 (Int32.toNatClampNeg ((p43.1 58 36) - 1)))] [.ref 58] (am_hp sw (am_wI p43 58 36 ((p43.1 58 36) - 1))) (fun _ => rfl) (fun _ => ?_) (fun _ => ?_)
            · refine sm_go 2 85 [.ref 58, .int x1, .int (p43.1 80 (Int32.toNatClampNeg ((p43.1 58 36) - 1)))] [.int (3), .ref 58] (am_hp sw (am_wI p43 58 36 ((p43.1 58 36) - 1))) (fun _ => rfl) ?_
              refine sm_fg [.ref 58, .int x1, .null] ⟨Or.inr rfl, Or.inr rfl, Or.inl rfl, trivial⟩ ?_
              exact hj85 (3, (am_wI p43 58 36 ((p43.1 58 36) - 1)))
            · refine sm_go 1 85 [.ref 58, .int x1, .int (p43.1 80 (Int32.toNatClampNeg ((p43.1 58 36) - 1)))] [.int (4), .ref 58] (am_hp sw (am_wI p43 58 36 ((p43.1 58 36) - 1))) (fun _ => rfl) ?_
              refine sm_fg [.ref 58, .int x1, .null] ⟨Or.inr rfl, Or.inr rfl, Or.inl rfl, trivial⟩ ?_
              exact hj85 (4, (am_wI p43 58 36 ((p43.1 58 36) - 1)))
        refine sm_br 1 43 27 [.ref 58, .int x1, .null] [] (am_hp sw s) (fun _ => rfl) (fun _ => ?_) (fun _ => ?_)
        · exact hj43 s
        · refine sm_iald 6 37 [.ref 58, .int x1, .null] [] (am_hp sw s) (i := ((s.1 58 36) - 1)) (c := 80) (fun _ => rfl) rfl rfl rfl rfl ?_
          refine sm_br 2 43 92 [.ref 58, .int x1, .null] [] (am_hp sw s) (fun _ => rfl) (fun _ => ?_) (fun _ => ?_)
          · exact hj43 s
          · refine sm_fg [.null, .null, .null] ⟨Or.inl rfl, Or.inl rfl, Or.inl rfl, trivial⟩ ?_
            exact sm_ex (fun _ _ h => h.2)
    · refine sm_fg [.null, .null, .null] ⟨Or.inl rfl, Or.inl rfl, Or.inl rfl, trivial⟩ ?_
      exact sm_ex (fun _ _ h => h.2)

set_option maxRecDepth 20000 in
theorem r_X12_comesOut (d : Nat) (sw : Bool) (s s' : am_S) (x1 : Int32) (v : Unit) (e : f_X12_comesOut s x1 = some (v, s')) : am_Run (d + 2) 153 [.ref 58, .int x1] (am_hp sw s) (am_cU v) (am_hp sw s') := by
  refine am_Run.of (M := mt_X12_comesOut) (cvf := am_cU) (X := f_X12_comesOut s x1) rfl rfl rfl (by simp) ?_ e
  unfold f_X12_comesOut
  show am_Sm tb_X12_comesOut 12 false none none (d + 1) (am_po am_cU sw) _ 0 [.ref 58, .int x1, .null] [] (am_hp sw s)
  refine sm_lp 92 (fun _y => [.null, .null, .null]) (l_X12_comesOut_0 d sw am_FU x1 s) (fun _ _ _ h => h) am_po20 (fun _y s0 => ?_)
  exact sm_ret 0 92 [.null, .null, .null] [] (am_hp sw s0) none (fun _ => rfl) rfl (fun _ _ h => h)

def f_X12_expression_L200 : Nat → Int32 → am_S → Option ((Unit × am_S) ⊕ ((Unit) × am_S))
  | 0, _, _ => none
  | n + 1, x1, s => am_bd (f_X12_is s (7)) (fun v203 s203 => if v203 = 0 then (some (.inr ((), s203))) else (if x1 < (s203.1 58 12) then (am_bd (f_X12_comesOut s203 (0)) (fun (_ : Unit) s219 => am_bd (f_X12_next (am_wI (am_wI s219 58 36 ((s219.1 58 36) - 1)) 58 12 ((s219.1 58 12) - 1))) (fun (_ : Unit) s243 => f_X12_expression_L200 n x1 s243))) else (some (.inr ((), s203)))))
def f_X12_expression_L12 : Nat → Int32 → Int32 → am_S → Option ((Unit × am_S) ⊕ ((Unit) × am_S))
  | 0, _, _, _ => none
  | n + 1, x1, x2, s => if x2 = 0 then (some (.inr ((), s))) else (if (s.1 58 13) = 0 then (am_bd (f_X12_is s (6)) (fun v26 s26 => if v26 = 0 then (am_jn (fun (p132 : Int32 × am_S) => am_bd (f_X12_is p132.2 (2)) (fun v135 s135 => am_jn (fun (p150 : am_S) => if 0 < (p150.1 58 13) then (some (.inl ((), p150))) else (am_jn (fun (p196 : am_S) => am_bd (f_X12_next p196) (fun (_ : Unit) s197 => am_lp Sum.inl (f_X12_expression_L200 am_FU x1 s197) (fun (_ : Unit) s200 => am_bd (f_X12_is s200 (8)) (fun v252 s252 => am_jn (fun (p281 : Int32 × am_S) => if p281.1 = 0 then (am_jn (fun (p299 : am_S) => am_bd (f_X12_comesOut p299 (0)) (fun (_ : Unit) s301 => some (.inl ((), s301)))) (fun j299 => if x1 < (p281.2.1 58 12) then (am_bd (f_X12_fail p281.2 (1)) (fun (_ : Unit) s296 => j299 s296)) else (j299 p281.2))) else (am_gu (am_in (p281.2.1 58 11) 403) (am_jn (fun (p329 : Int32 × am_S) => am_bd (f_X12_comesOut p329.2 p329.1) (fun (_ : Unit) s329 => am_gu (am_in (s329.1 58 36) 48) (am_bd (f_X12_next (am_wI (am_wI s329 80 (Int32.toNatClampNeg (s329.1 58 36)) (p281.2.1 61 (Int32.toNatClampNeg (p281.2.1 58 11)))) 58 36 ((s329.1 58 36) + 1))) (fun (_ : Unit) s354 => f_X12_expression_L12 n x1 p281.1 s354)))) (fun j329 => if (p281.2.1 61 (Int32.toNatClampNeg (p281.2.1 58 11))) = 10 then (j329 (1, p281.2)) else (j329 (0, p281.2)))))) (fun j281 => am_jn (fun (p276 : am_S) => j281 (1, p276)) (fun j276 => if v252 = 0 then (am_bd (f_X12_is s252 (9)) (fun v261 s261 => if v261 = 0 then (am_bd (f_X12_is s261 (10)) (fun v270 s270 => if v270 = 0 then (j281 (0, s270)) else (j276 s270))) else (j276 s261))) else (j276 s252))))))) (fun j196 => if p132.1 = 0 then (am_gu (am_in (p150.1 58 11) 403) (am_bd (f_X12_emit p150 (0) (p150.1 63 (Int32.toNatClampNeg (p150.1 58 11)))) (fun (_ : Unit) s193 => j196 s193))) else (am_gu (am_in (p150.1 58 11) 403) (am_bd (f_X12_emit p150 (1) ((p150.1 61 (Int32.toNatClampNeg (p150.1 58 11))) - 26)) (fun (_ : Unit) s176 => j196 s176)))))) (fun j150 => if v135 = 0 then (if p132.1 = 0 then (am_bd (f_X12_fail s135 (1)) (fun (_ : Unit) s147 => j150 s147)) else (j150 s135)) else (j150 s135)))) (fun j132 => am_jn (fun (p131 : am_S) => j132 (0, p131)) (fun j131 => if (s26.1 58 13) = 0 then (am_gu (am_in (s26.1 58 11) 403) (if (s26.1 61 (Int32.toNatClampNeg (s26.1 58 11))) < 26 then (j131 s26) else (am_gu (am_in (s26.1 58 11) 403) (if 33 < (s26.1 61 (Int32.toNatClampNeg (s26.1 58 11))) then (j131 s26) else (j132 (1, s26)))))) else (j131 s26)))) else (am_jn (fun (p46 : am_S) => if 0 < (p46.1 58 13) then (some (.inl ((), p46))) else (am_bd (f_X12_next (am_wI p46 58 12 ((p46.1 58 12) + 1))) (fun (_ : Unit) s65 => am_gu (am_in (s65.1 58 36) 48) (f_X12_expression_L12 n x1 x2 (am_wI (am_wI s65 80 (Int32.toNatClampNeg (s65.1 58 36)) (6)) 58 36 ((s65.1 58 36) + 1)))))) (fun j46 => if (s26.1 58 12) = 6 then (am_bd (f_X12_fail s26 (2)) (fun (_ : Unit) s43 => j46 s43)) else (j46 s26))))) else (some (.inr ((), s))))
def f_X12_expression (s : am_S) : Option (Unit × am_S) := am_lp (fun y => y) (f_X12_expression_L12 am_FU (s.1 58 12) (1) (am_wI s 58 36 (0))) (fun (_ : Unit) s12 => some ((), s12))
set_option maxRecDepth 20000 in
theorem l_X12_expression_200 (d : Nat) (sw : Bool) : ∀ (n : Nat) (x1 : Int32) (s : am_S), am_Sm tb_X12_expression 12 false none none (d + 2) (am_pl am_cU sw (fun (v9 : Unit) s9 r h9 => am_Ex tb_X12_expression 12 false none none (d + 2) r h9 249 [.ref 58, .int x1, .null, .null, .null] [] (am_hp sw s9))) (f_X12_expression_L200 n x1 s) 200 [.ref 58, .int x1, .null, .null, .null] [] (am_hp sw s) := by
  intro n
  induction n with
  | zero => intro x1 s; exact sm_no
  | succ n ih =>
    intro x1 s
    rw [f_X12_expression_L200]
    refine sm_call (cvf := am_cI) 2 203 [.ref 58, .int x1, .null, .null, .null] [.int (7), .ref 58] sw s 144 [.ref 58, .int (7)] [] (fun _ => rfl) rfl (fun _ _ e9 => r_X12_is (d + 1) sw _ _ _ _ e9) am_pl20 (fun v203 s203 => ?_)
    refine sm_br 1 249 209 [.ref 58, .int x1, .null, .null, .null] [] (am_hp sw s203) (fun _ => rfl) (fun _ => ?_) (fun _ => ?_)
    · exact sm_ex (fun _ _ h => h.2)
    · refine sm_br 4 217 249 [.ref 58, .int x1, .null, .null, .null] [] (am_hp sw s203) (fun _ => rfl) (fun _ => ?_) (fun _ => ?_)
      · refine sm_call (cvf := am_cU) 2 219 [.ref 58, .int x1, .null, .null, .null] [.int (0), .ref 58] sw s203 153 [.ref 58, .int (0)] [] (fun _ => rfl) rfl (fun _ _ e9 => r_X12_comesOut (d + 0) sw _ _ _ _ e9) am_pl20 (fun _v s219 => ?_)
        refine sm_call (cvf := am_cU) 13 243 [.ref 58, .int x1, .null, .null, .null] [.ref 58] sw (am_wI (am_wI s219 58 36 ((s219.1 58 36) - 1)) 58 12 ((s219.1 58 12) - 1)) 146 [.ref 58] [] (fun _ => rfl) rfl (fun _ _ e9 => r_X12_next (d + 0) sw _ _  _ e9) am_pl20 (fun _v s243 => ?_)
        refine sm_go 1 200 [.ref 58, .int x1, .null, .null, .null] [] (am_hp sw s243) (fun _ => rfl) ?_
        exact ih x1 s243
      · exact sm_ex (fun _ _ h => h.2)

set_option maxRecDepth 20000 in
theorem l_X12_expression_12 (d : Nat) (sw : Bool) : ∀ (n : Nat) (x1 : Int32) (x2 : Int32) (s : am_S), am_Sm tb_X12_expression 12 false none none (d + 2) (am_pl am_cU sw (fun (v9 : Unit) s9 r h9 => am_Ex tb_X12_expression 12 false none none (d + 2) r h9 360 [.null, .null, .null, .null, .null] [] (am_hp sw s9))) (f_X12_expression_L12 n x1 x2 s) 12 [.ref 58, .int x1, .int x2, .null, .null] [] (am_hp sw s) := by
  intro n
  induction n with
  | zero => intro x1 x2 s; exact sm_no
  | succ n ih =>
    intro x1 x2 s
    rw [f_X12_expression_L12]
    refine sm_br 2 360 16 [.ref 58, .int x1, .int x2, .null, .null] [] (am_hp sw s) (fun _ => rfl) (fun _ => ?_) (fun _ => ?_)
    · refine sm_fg [.null, .null, .null, .null, .null] ⟨Or.inl rfl, Or.inl rfl, Or.inl rfl, Or.inl rfl, Or.inl rfl, trivial⟩ ?_
      exact sm_ex (fun _ _ h => h.2)
    · refine sm_br 3 23 360 [.ref 58, .int x1, .int x2, .null, .null] [] (am_hp sw s) (fun _ => rfl) (fun _ => ?_) (fun _ => ?_)
      · refine sm_call (cvf := am_cI) 2 26 [.ref 58, .int x1, .int x2, .null, .null] [.int (6), .ref 58] sw s 144 [.ref 58, .int (6)] [] (fun _ => rfl) rfl (fun _ _ e9 => r_X12_is (d + 1) sw _ _ _ _ e9) am_pl20 (fun v26 s26 => ?_)
        refine sm_br 1 92 32 [.ref 58, .int x1, .int x2, .null, .null] [] (am_hp sw s26) (fun _ => rfl) (fun _ => ?_) (fun _ => ?_)
        · refine sm_go 2 96 [.ref 58, .int x1, .int x2, .null, .null] [.int (s26.1 58 13)] (am_hp sw s26) (fun _ => rfl) ?_
          refine sm_jn 132 (fun p132 => [.ref 58, .int x1, .null, .null, .null]) (fun p132 => [.int p132.1]) (fun p132 => (am_hp sw p132.2)) (fun p132 => ?_) (fun j132 hj132 => ?_)
          · refine sm_call (cvf := am_cI) 3 135 [.ref 58, .int x1, .null, .int p132.1, .null] [.int (2), .ref 58] sw p132.2 144 [.ref 58, .int (2)] [] (fun _ => rfl) rfl (fun _ _ e9 => r_X12_is (d + 1) sw _ _ _ _ e9) am_pl20 (fun v135 s135 => ?_)
            refine sm_jn 150 (fun p150 => [.ref 58, .int x1, .null, .int p132.1, .null]) (fun p150 => []) (fun p150 => (am_hp sw p150)) (fun p150 => ?_) (fun j150 hj150 => ?_)
            · refine sm_br 3 157 158 [.ref 58, .int x1, .null, .int p132.1, .null] [] (am_hp sw p150) (fun _ => rfl) (fun _ => ?_) (fun _ => ?_)
              · exact sm_ret 0 157 [.ref 58, .int x1, .null, .int p132.1, .null] [] (am_hp sw p150) none (fun _ => rfl) rfl (fun _ _ h => h)
              · refine sm_go 1 159 [.ref 58, .int x1, .null, .int p132.1, .null] [.int p132.1] (am_hp sw p150) (fun _ => rfl) ?_
                refine sm_jn 196 (fun p196 => [.ref 58, .int x1, .null, .null, .null]) (fun p196 => []) (fun p196 => (am_hp sw p196)) (fun p196 => ?_) (fun j196 hj196 => ?_)
                · refine sm_call (cvf := am_cU) 1 197 [.ref 58, .int x1, .null, .null, .null] [.ref 58] sw p196 146 [.ref 58] [] (fun _ => rfl) rfl (fun _ _ e9 => r_X12_next (d + 0) sw _ _  _ e9) am_pl20 (fun _v s197 => ?_)
                  refine sm_lp 249 (fun _y => [.ref 58, .int x1, .null, .null, .null]) (l_X12_expression_200 d sw am_FU x1 s197) (fun _ _ _ h => h) am_pl20 (fun _y s200 => ?_)
                  refine sm_call (cvf := am_cI) 2 252 [.ref 58, .int x1, .null, .null, .null] [.int (8), .ref 58] sw s200 144 [.ref 58, .int (8)] [] (fun _ => rfl) rfl (fun _ _ e9 => r_X12_is (d + 1) sw _ _ _ _ e9) am_pl20 (fun v252 s252 => ?_)
                  refine sm_jn 281 (fun p281 => [.ref 58, .int x1, .null, .null, .null]) (fun p281 => [.int p281.1]) (fun p281 => (am_hp sw p281.2)) (fun p281 => ?_) (fun j281 hj281 => ?_)
                  · refine sm_br 3 286 305 [.ref 58, .int x1, .int p281.1, .null, .null] [] (am_hp sw p281.2) (fun _ => rfl) (fun _ => ?_) (fun _ => ?_)
                    · refine sm_go 3 291 [.ref 58, .int x1, .int p281.1, .null, .null] [.int x1, .int (p281.2.1 58 12)] (am_hp sw p281.2) (fun _ => rfl) ?_
                      refine sm_jn 299 (fun p299 => [.ref 58, .null, .null, .null, .null]) (fun p299 => []) (fun p299 => (am_hp sw p299)) (fun p299 => ?_) (fun j299 hj299 => ?_)
                      · refine sm_call (cvf := am_cU) 2 301 [.ref 58, .null, .null, .null, .null] [.int (0), .ref 58] sw p299 153 [.ref 58, .int (0)] [] (fun _ => rfl) rfl (fun _ _ e9 => r_X12_comesOut (d + 0) sw _ _ _ _ e9) am_pl20 (fun _v s301 => ?_)
                        exact sm_ret 0 304 [.ref 58, .null, .null, .null, .null] [] (am_hp sw s301) none (fun _ => rfl) rfl (fun _ _ h => h)
                      refine sm_br 1 294 299 [.ref 58, .int x1, .int p281.1, .null, .null] [] (am_hp sw p281.2) (fun _ => rfl) (fun _ => ?_) (fun _ => ?_)
                      · refine sm_call (cvf := am_cU) 2 296 [.ref 58, .int x1, .int p281.1, .null, .null] [.int (1), .ref 58] sw p281.2 145 [.ref 58, .int (1)] [] (fun _ => rfl) rfl (fun _ _ e9 => r_X12_fail (d + 1) sw _ _ _ _ e9) am_pl20 (fun _v s296 => ?_)
                        refine sm_fg [.ref 58, .null, .null, .null, .null] ⟨Or.inr rfl, Or.inl rfl, Or.inl rfl, Or.inl rfl, Or.inl rfl, trivial⟩ ?_
                        exact hj299 s296
                      · refine sm_fg [.ref 58, .null, .null, .null, .null] ⟨Or.inr rfl, Or.inl rfl, Or.inl rfl, Or.inl rfl, Or.inl rfl, trivial⟩ ?_
                        exact hj299 p281.2
                    · refine sm_iald 4 313 [.ref 58, .int x1, .int p281.1, .null, .null] [] (am_hp sw p281.2) (i := (p281.2.1 58 11)) (c := 61) (fun _ => rfl) rfl rfl rfl rfl ?_
                      refine sm_go 4 321 [.ref 58, .int x1, .int p281.1, .null, .int (p281.2.1 61 (Int32.toNatClampNeg (p281.2.1 58 11)))] [.int (10), .int (p281.2.1 61 (Int32.toNatClampNeg (p281.2.1 58 11))), .ref 58] (am_hp sw p281.2) (fun _ => rfl) ?_
                      refine sm_jn 329 (fun p329 => [.ref 58, .int x1, .int p281.1, .null, .int (p281.2.1 61 (Int32.toNatClampNeg (p281.2.1 58 11)))]) (fun p329 => [.int p329.1, .ref 58]) (fun p329 => (am_hp sw p329.2)) (fun p329 => ?_) (fun j329 hj329 => ?_)
                      · refine sm_call (cvf := am_cU) 0 329 [.ref 58, .int x1, .int p281.1, .null, .int (p281.2.1 61 (Int32.toNatClampNeg (p281.2.1 58 11)))] [.int p329.1, .ref 58] sw p329.2 153 [.ref 58, .int p329.1] [] (fun _ => rfl) rfl (fun _ _ e9 => r_X12_comesOut (d + 0) sw _ _ _ _ e9) am_pl20 (fun _v s329 => ?_)
                        refine sm_iast 5 342 [.ref 58, .int x1, .int p281.1, .null, .int (p281.2.1 61 (Int32.toNatClampNeg (p281.2.1 58 11)))] [] sw s329 (i := (s329.1 58 36)) (x := (p281.2.1 61 (Int32.toNatClampNeg (p281.2.1 58 11)))) (c := 80) (fun _ => rfl) rfl rfl rfl ?_
                        refine sm_call (cvf := am_cU) 7 354 [.ref 58, .int x1, .int p281.1, .null, .int (p281.2.1 61 (Int32.toNatClampNeg (p281.2.1 58 11)))] [.ref 58] sw (am_wI (am_wI s329 80 (Int32.toNatClampNeg (s329.1 58 36)) (p281.2.1 61 (Int32.toNatClampNeg (p281.2.1 58 11)))) 58 36 ((s329.1 58 36) + 1)) 146 [.ref 58] [] (fun _ => rfl) rfl (fun _ _ e9 => r_X12_next (d + 0) sw _ _  _ e9) am_pl20 (fun _v s354 => ?_)
                        refine sm_go 1 12 [.ref 58, .int x1, .int p281.1, .null, .int (p281.2.1 61 (Int32.toNatClampNeg (p281.2.1 58 11)))] [] (am_hp sw s354) (fun _ => rfl) ?_
                        refine sm_fg [.ref 58, .int x1, .int p281.1, .null, .null] ⟨Or.inr rfl, Or.inr rfl, Or.inr rfl, Or.inl rfl, Or.inl rfl, trivial⟩ ?_
                        exact ih x1 p281.1 s354
                      refine sm_br 1 324 328 [.ref 58, .int x1, .int p281.1, .null, .int (p281.2.1 61 (Int32.toNatClampNeg (p281.2.1 58 11)))] [.ref 58] (am_hp sw p281.2) (fun _ => rfl) (fun _ => ?_) (fun _ => ?_)
                      · refine sm_go 2 329 [.ref 58, .int x1, .int p281.1, .null, .int (p281.2.1 61 (Int32.toNatClampNeg (p281.2.1 58 11)))] [.int (1), .ref 58] (am_hp sw p281.2) (fun _ => rfl) ?_
                        exact hj329 (1, p281.2)
                      · refine sm_go 1 329 [.ref 58, .int x1, .int p281.1, .null, .int (p281.2.1 61 (Int32.toNatClampNeg (p281.2.1 58 11)))] [.int (0), .ref 58] (am_hp sw p281.2) (fun _ => rfl) ?_
                        exact hj329 (0, p281.2)
                  refine sm_jn 276 (fun p276 => [.ref 58, .int x1, .null, .null, .null]) (fun p276 => []) (fun p276 => (am_hp sw p276)) (fun p276 => ?_) (fun j276 hj276 => ?_)
                  · refine sm_go 2 281 [.ref 58, .int x1, .null, .null, .null] [.int (1)] (am_hp sw p276) (fun _ => rfl) ?_
                    exact hj281 (1, p276)
                  refine sm_br 1 258 276 [.ref 58, .int x1, .null, .null, .null] [] (am_hp sw s252) (fun _ => rfl) (fun _ => ?_) (fun _ => ?_)
                  · refine sm_call (cvf := am_cI) 2 261 [.ref 58, .int x1, .null, .null, .null] [.int (9), .ref 58] sw s252 144 [.ref 58, .int (9)] [] (fun _ => rfl) rfl (fun _ _ e9 => r_X12_is (d + 1) sw _ _ _ _ e9) am_pl20 (fun v261 s261 => ?_)
                    refine sm_br 1 267 276 [.ref 58, .int x1, .null, .null, .null] [] (am_hp sw s261) (fun _ => rfl) (fun _ => ?_) (fun _ => ?_)
                    · refine sm_call (cvf := am_cI) 2 270 [.ref 58, .int x1, .null, .null, .null] [.int (10), .ref 58] sw s261 144 [.ref 58, .int (10)] [] (fun _ => rfl) rfl (fun _ _ e9 => r_X12_is (d + 1) sw _ _ _ _ e9) am_pl20 (fun v270 s270 => ?_)
                      refine sm_br 1 280 276 [.ref 58, .int x1, .null, .null, .null] [] (am_hp sw s270) (fun _ => rfl) (fun _ => ?_) (fun _ => ?_)
                      · refine sm_go 1 281 [.ref 58, .int x1, .null, .null, .null] [.int (0)] (am_hp sw s270) (fun _ => rfl) ?_
                        exact hj281 (0, s270)
                      · exact hj276 s270
                    · exact hj276 s261
                  · exact hj276 s252
                refine sm_br 1 182 162 [.ref 58, .int x1, .null, .int p132.1, .null] [] (am_hp sw p150) (fun _ => rfl) (fun _ => ?_) (fun _ => ?_)
                · refine sm_iald 6 192 [.ref 58, .int x1, .null, .int p132.1, .null] [.int (0), .ref 58] (am_hp sw p150) (i := (p150.1 58 11)) (c := 63) (fun _ => rfl) rfl rfl rfl rfl ?_
                  refine sm_call (cvf := am_cU) 0 193 [.ref 58, .int x1, .null, .int p132.1, .null] [.int (p150.1 63 (Int32.toNatClampNeg (p150.1 58 11))), .int (0), .ref 58] sw p150 152 [.ref 58, .int (0), .int (p150.1 63 (Int32.toNatClampNeg (p150.1 58 11)))] [] (fun _ => rfl) rfl (fun _ _ e9 => r_X12_emit (d + 1) sw _ _ _ _ _ e9) am_pl20 (fun _v s193 => ?_)
                  refine sm_fg [.ref 58, .int x1, .null, .null, .null] ⟨Or.inr rfl, Or.inr rfl, Or.inl rfl, Or.inl rfl, Or.inl rfl, trivial⟩ ?_
                  exact hj196 s193
                · refine sm_iald 6 172 [.ref 58, .int x1, .null, .int p132.1, .null] [.int (1), .ref 58] (am_hp sw p150) (i := (p150.1 58 11)) (c := 61) (fun _ => rfl) rfl rfl rfl rfl ?_
                  refine sm_call (cvf := am_cU) 2 176 [.ref 58, .int x1, .null, .int p132.1, .null] [.int ((p150.1 61 (Int32.toNatClampNeg (p150.1 58 11))) - 26), .int (1), .ref 58] sw p150 152 [.ref 58, .int (1), .int ((p150.1 61 (Int32.toNatClampNeg (p150.1 58 11))) - 26)] [] (fun _ => rfl) rfl (fun _ _ e9 => r_X12_emit (d + 1) sw _ _ _ _ _ e9) am_pl20 (fun _v s176 => ?_)
                  refine sm_go 1 196 [.ref 58, .int x1, .null, .int p132.1, .null] [] (am_hp sw s176) (fun _ => rfl) ?_
                  refine sm_fg [.ref 58, .int x1, .null, .null, .null] ⟨Or.inr rfl, Or.inr rfl, Or.inl rfl, Or.inl rfl, Or.inl rfl, trivial⟩ ?_
                  exact hj196 s176
            refine sm_br 1 141 150 [.ref 58, .int x1, .null, .int p132.1, .null] [] (am_hp sw s135) (fun _ => rfl) (fun _ => ?_) (fun _ => ?_)
            · refine sm_br 2 145 150 [.ref 58, .int x1, .null, .int p132.1, .null] [] (am_hp sw s135) (fun _ => rfl) (fun _ => ?_) (fun _ => ?_)
              · refine sm_call (cvf := am_cU) 2 147 [.ref 58, .int x1, .null, .int p132.1, .null] [.int (1), .ref 58] sw s135 145 [.ref 58, .int (1)] [] (fun _ => rfl) rfl (fun _ _ e9 => r_X12_fail (d + 1) sw _ _ _ _ e9) am_pl20 (fun _v s147 => ?_)
                exact hj150 s147
              · exact hj150 s135
            · exact hj150 s135
          refine sm_jn 131 (fun p131 => [.ref 58, .int x1, .null, .null, .null]) (fun p131 => []) (fun p131 => (am_hp sw p131)) (fun p131 => ?_) (fun j131 hj131 => ?_)
          · refine sm_go 1 132 [.ref 58, .int x1, .null, .null, .null] [.int (0)] (am_hp sw p131) (fun _ => rfl) ?_
            exact hj132 (0, p131)
          refine sm_br 1 99 131 [.ref 58, .int x1, .int x2, .null, .null] [] (am_hp sw s26) (fun _ => rfl) (fun _ => ?_) (fun _ => ?_)
          · refine sm_iald 4 107 [.ref 58, .int x1, .int x2, .null, .null] [] (am_hp sw s26) (i := (s26.1 58 11)) (c := 61) (fun _ => rfl) rfl rfl rfl rfl ?_
            refine sm_br 2 131 113 [.ref 58, .int x1, .int x2, .null, .null] [] (am_hp sw s26) (fun _ => rfl) (fun _ => ?_) (fun _ => ?_)
            · refine sm_fg [.ref 58, .int x1, .null, .null, .null] ⟨Or.inr rfl, Or.inr rfl, Or.inl rfl, Or.inl rfl, Or.inl rfl, trivial⟩ ?_
              exact hj131 s26
            · refine sm_iald 4 121 [.ref 58, .int x1, .int x2, .null, .null] [] (am_hp sw s26) (i := (s26.1 58 11)) (c := 61) (fun _ => rfl) rfl rfl rfl rfl ?_
              refine sm_br 2 131 127 [.ref 58, .int x1, .int x2, .null, .null] [] (am_hp sw s26) (fun _ => rfl) (fun _ => ?_) (fun _ => ?_)
              · refine sm_fg [.ref 58, .int x1, .null, .null, .null] ⟨Or.inr rfl, Or.inr rfl, Or.inl rfl, Or.inl rfl, Or.inl rfl, trivial⟩ ?_
                exact hj131 s26
              · refine sm_go 2 132 [.ref 58, .int x1, .int x2, .null, .null] [.int (1)] (am_hp sw s26) (fun _ => rfl) ?_
                refine sm_fg [.ref 58, .int x1, .null, .null, .null] ⟨Or.inr rfl, Or.inr rfl, Or.inl rfl, Or.inl rfl, Or.inl rfl, trivial⟩ ?_
                exact hj132 (1, s26)
          · refine sm_fg [.ref 58, .int x1, .null, .null, .null] ⟨Or.inr rfl, Or.inr rfl, Or.inl rfl, Or.inl rfl, Or.inl rfl, trivial⟩ ?_
            exact hj131 s26
        · refine sm_go 3 38 [.ref 58, .int x1, .int x2, .null, .null] [.int (6), .int (s26.1 58 12)] (am_hp sw s26) (fun _ => rfl) ?_
          refine sm_jn 46 (fun p46 => [.ref 58, .int x1, .int x2, .null, .null]) (fun p46 => []) (fun p46 => (am_hp sw p46)) (fun p46 => ?_) (fun j46 hj46 => ?_)
          · refine sm_br 3 53 54 [.ref 58, .int x1, .int x2, .null, .null] [] (am_hp sw p46) (fun _ => rfl) (fun _ => ?_) (fun _ => ?_)
            · exact sm_ret 0 53 [.ref 58, .int x1, .int x2, .null, .null] [] (am_hp sw p46) none (fun _ => rfl) rfl (fun _ _ h => h)
            · refine sm_call (cvf := am_cU) 7 65 [.ref 58, .int x1, .int x2, .null, .null] [.ref 58] sw (am_wI p46 58 12 ((p46.1 58 12) + 1)) 146 [.ref 58] [] (fun _ => rfl) rfl (fun _ _ e9 => r_X12_next (d + 0) sw _ _  _ e9) am_pl20 (fun _v s65 => ?_)
              refine sm_iast 5 78 [.ref 58, .int x1, .int x2, .null, .null] [] sw s65 (i := (s65.1 58 36)) (x := (6)) (c := 80) (fun _ => rfl) rfl rfl rfl ?_
              refine sm_go 7 12 [.ref 58, .int x1, .int x2, .null, .null] [] (am_hp sw (am_wI (am_wI s65 80 (Int32.toNatClampNeg (s65.1 58 36)) (6)) 58 36 ((s65.1 58 36) + 1))) (fun _ => rfl) ?_
              exact ih x1 x2 (am_wI (am_wI s65 80 (Int32.toNatClampNeg (s65.1 58 36)) (6)) 58 36 ((s65.1 58 36) + 1))
          refine sm_br 1 41 46 [.ref 58, .int x1, .int x2, .null, .null] [] (am_hp sw s26) (fun _ => rfl) (fun _ => ?_) (fun _ => ?_)
          · refine sm_call (cvf := am_cU) 2 43 [.ref 58, .int x1, .int x2, .null, .null] [.int (2), .ref 58] sw s26 145 [.ref 58, .int (2)] [] (fun _ => rfl) rfl (fun _ _ e9 => r_X12_fail (d + 1) sw _ _ _ _ e9) am_pl20 (fun _v s43 => ?_)
            exact hj46 s43
          · exact hj46 s26
      · refine sm_fg [.null, .null, .null, .null, .null] ⟨Or.inl rfl, Or.inl rfl, Or.inl rfl, Or.inl rfl, Or.inl rfl, trivial⟩ ?_
        exact sm_ex (fun _ _ h => h.2)

set_option maxRecDepth 20000 in
theorem r_X12_expression (d : Nat) (sw : Bool) (s s' : am_S) (v : Unit) (e : f_X12_expression s = some (v, s')) : am_Run (d + 3) 154 [.ref 58] (am_hp sw s) (am_cU v) (am_hp sw s') := by
  refine am_Run.of (M := mt_X12_expression) (cvf := am_cU) (X := f_X12_expression s) rfl rfl rfl (by simp) ?_ e
  unfold f_X12_expression
  show am_Sm tb_X12_expression 12 false none none (d + 2) (am_po am_cU sw) _ 0 [.ref 58, .null, .null, .null, .null] [] (am_hp sw s)
  refine sm_go 8 12 [.ref 58, .int (s.1 58 12), .int (1), .null, .null] [] (am_hp sw (am_wI s 58 36 (0))) (fun _ => rfl) ?_
  refine sm_lp 360 (fun _y => [.null, .null, .null, .null, .null]) (l_X12_expression_12 d sw am_FU (s.1 58 12) (1) (am_wI s 58 36 (0))) (fun _ _ _ h => h) am_po20 (fun _y s12 => ?_)
  exact sm_ret 0 360 [.null, .null, .null, .null, .null] [] (am_hp sw s12) none (fun _ => rfl) rfl (fun _ _ h => h)

def f_X12_relation (s : am_S) (x1 : Int32) : Option (Unit × am_S) := am_bd (f_X12_expression s) (fun (_ : Unit) s6 => am_jn (fun (p32 : Int32 × am_S) => am_jn (fun (p54 : am_S) => am_bd (f_X12_next p54) (fun (_ : Unit) s55 => am_bd (f_X12_expression s55) (fun (_ : Unit) s65 => if 0 < (s65.1 58 13) then (some ((), s65)) else (am_gu (am_in (s65.1 58 19) 2) (am_gu (am_in ((200 * (s65.1 58 19)) + (s65.1 72 (Int32.toNatClampNeg (s65.1 58 19)))) 400) (am_gu (am_in ((200 * (s65.1 58 19)) + (s65.1 72 (Int32.toNatClampNeg (s65.1 58 19)))) 400) (am_gu (am_in ((200 * (s65.1 58 19)) + (s65.1 72 (Int32.toNatClampNeg (s65.1 58 19)))) 400) (am_gu (am_in ((200 * (s65.1 58 19)) + (s65.1 72 (Int32.toNatClampNeg (s65.1 58 19)))) 400) (am_gu (am_in ((200 * (s65.1 58 19)) + (s65.1 72 (Int32.toNatClampNeg (s65.1 58 19)))) 400) (am_gu (am_in (s65.1 58 19) 2) (am_gu (am_in (s65.1 58 19) 2) (some ((), (am_wI (am_wI (am_wI (am_wI (am_wI (am_wI s65 73 (Int32.toNatClampNeg ((200 * (s65.1 58 19)) + (s65.1 72 (Int32.toNatClampNeg (s65.1 58 19))))) p32.1) 74 (Int32.toNatClampNeg ((200 * (s65.1 58 19)) + (s65.1 72 (Int32.toNatClampNeg (s65.1 58 19))))) (s.1 58 32)) 75 (Int32.toNatClampNeg ((200 * (s65.1 58 19)) + (s65.1 72 (Int32.toNatClampNeg (s65.1 58 19))))) (s55.1 58 32)) 76 (Int32.toNatClampNeg ((200 * (s65.1 58 19)) + (s65.1 72 (Int32.toNatClampNeg (s65.1 58 19))))) (s65.1 58 32)) 77 (Int32.toNatClampNeg ((200 * (s65.1 58 19)) + (s65.1 72 (Int32.toNatClampNeg (s65.1 58 19))))) (am_nar 3 x1)) 72 (Int32.toNatClampNeg (s65.1 58 19)) ((s65.1 72 (Int32.toNatClampNeg (s65.1 58 19))) + 1))))))))))))))) (fun j54 => if (p32.2.1 58 13) = 0 then (am_jn (fun (p49 : am_S) => am_bd (f_X12_fail p49 (1)) (fun (_ : Unit) s51 => j54 s51)) (fun j49 => if p32.1 < 0 then (j49 p32.2) else (if 3 < p32.1 then (j49 p32.2) else (j54 p32.2)))) else (j54 p32.2))) (fun j32 => if 0 < (s6.1 58 13) then (j32 (0, s6)) else (am_gu (am_in (s6.1 58 11) 403) (j32 (((s6.1 61 (Int32.toNatClampNeg (s6.1 58 11))) - 11), s6)))))
set_option maxRecDepth 20000 in
theorem r_X12_relation (d : Nat) (sw : Bool) (s s' : am_S) (x1 : Int32) (v : Unit) (e : f_X12_relation s x1 = some (v, s')) : am_Run (d + 4) 151 [.ref 58, .int x1] (am_hp sw s) (am_cU v) (am_hp sw s') := by
  refine am_Run.of (M := mt_X12_relation) (cvf := am_cU) (X := f_X12_relation s x1) rfl rfl rfl (by simp) ?_ e
  unfold f_X12_relation
  show am_Sm tb_X12_relation 12 false none none (d + 3) (am_po am_cU sw) _ 0 [.ref 58, .int x1, .null, .null, .null, .null] [] (am_hp sw s)
  refine sm_call (cvf := am_cU) 4 6 [.ref 58, .int x1, .int (s.1 58 32), .null, .null, .null] [.ref 58] sw s 154 [.ref 58] [] (fun _ => rfl) rfl (fun _ _ e9 => r_X12_expression (d + 0) sw _ _  _ e9) am_po20 (fun _v s6 => ?_)
  refine sm_go 2 13 [.ref 58, .int x1, .int (s.1 58 32), .null, .null, .null] [.int (s6.1 58 13)] (am_hp sw s6) (fun _ => rfl) ?_
  refine sm_jn 32 (fun p32 => [.ref 58, .int x1, .int (s.1 58 32), .null, .null, .null]) (fun p32 => [.int p32.1]) (fun p32 => (am_hp sw p32.2)) (fun p32 => ?_) (fun j32 hj32 => ?_)
  · refine sm_go 3 37 [.ref 58, .int x1, .int (s.1 58 32), .int p32.1, .null, .null] [.int (p32.2.1 58 13)] (am_hp sw p32.2) (fun _ => rfl) ?_
    refine sm_jn 54 (fun p54 => [.ref 58, .int x1, .int (s.1 58 32), .int p32.1, .null, .null]) (fun p54 => []) (fun p54 => (am_hp sw p54)) (fun p54 => ?_) (fun j54 hj54 => ?_)
    · refine sm_call (cvf := am_cU) 1 55 [.ref 58, .int x1, .int (s.1 58 32), .int p32.1, .null, .null] [.ref 58] sw p54 146 [.ref 58] [] (fun _ => rfl) rfl (fun _ _ e9 => r_X12_next (d + 1) sw _ _  _ e9) am_po20 (fun _v s55 => ?_)
      refine sm_call (cvf := am_cU) 4 65 [.ref 58, .int x1, .int (s.1 58 32), .int p32.1, .int (s55.1 58 32), .null] [.ref 58] sw s55 154 [.ref 58] [] (fun _ => rfl) rfl (fun _ _ e9 => r_X12_expression (d + 0) sw _ _  _ e9) am_po20 (fun _v s65 => ?_)
      refine sm_br 3 75 76 [.ref 58, .int x1, .int (s.1 58 32), .int p32.1, .int (s55.1 58 32), .null] [] (am_hp sw s65) (fun _ => rfl) (fun _ => ?_) (fun _ => ?_)
      · exact sm_ret 0 75 [.ref 58, .int x1, .int (s.1 58 32), .int p32.1, .int (s55.1 58 32), .null] [] (am_hp sw s65) none (fun _ => rfl) rfl (fun _ _ h => h)
      · refine sm_iald 8 92 [.ref 58, .int x1, .int (s.1 58 32), .int p32.1, .int (s55.1 58 32), .null] [.int (200 * (s65.1 58 19))] (am_hp sw s65) (i := (s65.1 58 19)) (c := 72) (fun _ => rfl) rfl rfl rfl rfl ?_
        refine sm_iast 6 103 [.ref 58, .int x1, .int (s.1 58 32), .int p32.1, .int (s55.1 58 32), .int ((200 * (s65.1 58 19)) + (s65.1 72 (Int32.toNatClampNeg (s65.1 58 19))))] [] sw s65 (i := ((200 * (s65.1 58 19)) + (s65.1 72 (Int32.toNatClampNeg (s65.1 58 19))))) (x := p32.1) (c := 73) (fun _ => rfl) rfl rfl rfl ?_
        refine sm_iast 4 111 [.ref 58, .int x1, .int (s.1 58 32), .int p32.1, .int (s55.1 58 32), .int ((200 * (s65.1 58 19)) + (s65.1 72 (Int32.toNatClampNeg (s65.1 58 19))))] [] sw (am_wI s65 73 (Int32.toNatClampNeg ((200 * (s65.1 58 19)) + (s65.1 72 (Int32.toNatClampNeg (s65.1 58 19))))) p32.1) (i := ((200 * (s65.1 58 19)) + (s65.1 72 (Int32.toNatClampNeg (s65.1 58 19))))) (x := (s.1 58 32)) (c := 74) (fun _ => rfl) rfl rfl rfl ?_
        refine sm_iast 4 120 [.ref 58, .int x1, .int (s.1 58 32), .int p32.1, .int (s55.1 58 32), .int ((200 * (s65.1 58 19)) + (s65.1 72 (Int32.toNatClampNeg (s65.1 58 19))))] [] sw (am_wI (am_wI s65 73 (Int32.toNatClampNeg ((200 * (s65.1 58 19)) + (s65.1 72 (Int32.toNatClampNeg (s65.1 58 19))))) p32.1) 74 (Int32.toNatClampNeg ((200 * (s65.1 58 19)) + (s65.1 72 (Int32.toNatClampNeg (s65.1 58 19))))) (s.1 58 32)) (i := ((200 * (s65.1 58 19)) + (s65.1 72 (Int32.toNatClampNeg (s65.1 58 19))))) (x := (s55.1 58 32)) (c := 75) (fun _ => rfl) rfl rfl rfl ?_
        refine sm_iast 5 131 [.ref 58, .int x1, .int (s.1 58 32), .int p32.1, .int (s55.1 58 32), .int ((200 * (s65.1 58 19)) + (s65.1 72 (Int32.toNatClampNeg (s65.1 58 19))))] [] sw (am_wI (am_wI (am_wI s65 73 (Int32.toNatClampNeg ((200 * (s65.1 58 19)) + (s65.1 72 (Int32.toNatClampNeg (s65.1 58 19))))) p32.1) 74 (Int32.toNatClampNeg ((200 * (s65.1 58 19)) + (s65.1 72 (Int32.toNatClampNeg (s65.1 58 19))))) (s.1 58 32)) 75 (Int32.toNatClampNeg ((200 * (s65.1 58 19)) + (s65.1 72 (Int32.toNatClampNeg (s65.1 58 19))))) (s55.1 58 32)) (i := ((200 * (s65.1 58 19)) + (s65.1 72 (Int32.toNatClampNeg (s65.1 58 19))))) (x := (s65.1 58 32)) (c := 76) (fun _ => rfl) rfl rfl rfl ?_
        refine sm_bast 4 139 [.ref 58, .int x1, .int (s.1 58 32), .int p32.1, .int (s55.1 58 32), .int ((200 * (s65.1 58 19)) + (s65.1 72 (Int32.toNatClampNeg (s65.1 58 19))))] [] sw (am_wI (am_wI (am_wI (am_wI s65 73 (Int32.toNatClampNeg ((200 * (s65.1 58 19)) + (s65.1 72 (Int32.toNatClampNeg (s65.1 58 19))))) p32.1) 74 (Int32.toNatClampNeg ((200 * (s65.1 58 19)) + (s65.1 72 (Int32.toNatClampNeg (s65.1 58 19))))) (s.1 58 32)) 75 (Int32.toNatClampNeg ((200 * (s65.1 58 19)) + (s65.1 72 (Int32.toNatClampNeg (s65.1 58 19))))) (s55.1 58 32)) 76 (Int32.toNatClampNeg ((200 * (s65.1 58 19)) + (s65.1 72 (Int32.toNatClampNeg (s65.1 58 19))))) (s65.1 58 32)) (i := ((200 * (s65.1 58 19)) + (s65.1 72 (Int32.toNatClampNeg (s65.1 58 19))))) (x := x1) (c := 77) (fun _ => rfl) rfl rfl rfl rfl ?_
        refine sm_iald 5 149 [.ref 58, .int x1, .int (s.1 58 32), .int p32.1, .int (s55.1 58 32), .int ((200 * (s65.1 58 19)) + (s65.1 72 (Int32.toNatClampNeg (s65.1 58 19))))] [.int (s65.1 58 19), .ref 72] (am_hp sw (am_wI (am_wI (am_wI (am_wI (am_wI s65 73 (Int32.toNatClampNeg ((200 * (s65.1 58 19)) + (s65.1 72 (Int32.toNatClampNeg (s65.1 58 19))))) p32.1) 74 (Int32.toNatClampNeg ((200 * (s65.1 58 19)) + (s65.1 72 (Int32.toNatClampNeg (s65.1 58 19))))) (s.1 58 32)) 75 (Int32.toNatClampNeg ((200 * (s65.1 58 19)) + (s65.1 72 (Int32.toNatClampNeg (s65.1 58 19))))) (s55.1 58 32)) 76 (Int32.toNatClampNeg ((200 * (s65.1 58 19)) + (s65.1 72 (Int32.toNatClampNeg (s65.1 58 19))))) (s65.1 58 32)) 77 (Int32.toNatClampNeg ((200 * (s65.1 58 19)) + (s65.1 72 (Int32.toNatClampNeg (s65.1 58 19))))) (am_nar 3 x1))) (i := (s65.1 58 19)) (c := 72) (fun _ => rfl) rfl rfl rfl rfl ?_
        refine sm_iast 2 152 [.ref 58, .int x1, .int (s.1 58 32), .int p32.1, .int (s55.1 58 32), .int ((200 * (s65.1 58 19)) + (s65.1 72 (Int32.toNatClampNeg (s65.1 58 19))))] [] sw (am_wI (am_wI (am_wI (am_wI (am_wI s65 73 (Int32.toNatClampNeg ((200 * (s65.1 58 19)) + (s65.1 72 (Int32.toNatClampNeg (s65.1 58 19))))) p32.1) 74 (Int32.toNatClampNeg ((200 * (s65.1 58 19)) + (s65.1 72 (Int32.toNatClampNeg (s65.1 58 19))))) (s.1 58 32)) 75 (Int32.toNatClampNeg ((200 * (s65.1 58 19)) + (s65.1 72 (Int32.toNatClampNeg (s65.1 58 19))))) (s55.1 58 32)) 76 (Int32.toNatClampNeg ((200 * (s65.1 58 19)) + (s65.1 72 (Int32.toNatClampNeg (s65.1 58 19))))) (s65.1 58 32)) 77 (Int32.toNatClampNeg ((200 * (s65.1 58 19)) + (s65.1 72 (Int32.toNatClampNeg (s65.1 58 19))))) (am_nar 3 x1)) (i := (s65.1 58 19)) (x := ((s65.1 72 (Int32.toNatClampNeg (s65.1 58 19))) + 1)) (c := 72) (fun _ => rfl) rfl rfl rfl ?_
        exact sm_ret 0 153 [.ref 58, .int x1, .int (s.1 58 32), .int p32.1, .int (s55.1 58 32), .int ((200 * (s65.1 58 19)) + (s65.1 72 (Int32.toNatClampNeg (s65.1 58 19))))] [] (am_hp sw (am_wI (am_wI (am_wI (am_wI (am_wI (am_wI s65 73 (Int32.toNatClampNeg ((200 * (s65.1 58 19)) + (s65.1 72 (Int32.toNatClampNeg (s65.1 58 19))))) p32.1) 74 (Int32.toNatClampNeg ((200 * (s65.1 58 19)) + (s65.1 72 (Int32.toNatClampNeg (s65.1 58 19))))) (s.1 58 32)) 75 (Int32.toNatClampNeg ((200 * (s65.1 58 19)) + (s65.1 72 (Int32.toNatClampNeg (s65.1 58 19))))) (s55.1 58 32)) 76 (Int32.toNatClampNeg ((200 * (s65.1 58 19)) + (s65.1 72 (Int32.toNatClampNeg (s65.1 58 19))))) (s65.1 58 32)) 77 (Int32.toNatClampNeg ((200 * (s65.1 58 19)) + (s65.1 72 (Int32.toNatClampNeg (s65.1 58 19))))) (am_nar 3 x1)) 72 (Int32.toNatClampNeg (s65.1 58 19)) ((s65.1 72 (Int32.toNatClampNeg (s65.1 58 19))) + 1))) none (fun _ => rfl) rfl (fun _ _ h => h)
    refine sm_br 1 40 54 [.ref 58, .int x1, .int (s.1 58 32), .int p32.1, .null, .null] [] (am_hp sw p32.2) (fun _ => rfl) (fun _ => ?_) (fun _ => ?_)
    · refine sm_go 1 41 [.ref 58, .int x1, .int (s.1 58 32), .int p32.1, .null, .null] [.int p32.1] (am_hp sw p32.2) (fun _ => rfl) ?_
      refine sm_jn 49 (fun p49 => [.ref 58, .int x1, .int (s.1 58 32), .int p32.1, .null, .null]) (fun p49 => []) (fun p49 => (am_hp sw p49)) (fun p49 => ?_) (fun j49 hj49 => ?_)
      · refine sm_call (cvf := am_cU) 2 51 [.ref 58, .int x1, .int (s.1 58 32), .int p32.1, .null, .null] [.int (1), .ref 58] sw p49 145 [.ref 58, .int (1)] [] (fun _ => rfl) rfl (fun _ _ e9 => r_X12_fail (d + 2) sw _ _ _ _ e9) am_po20 (fun _v s51 => ?_)
        exact hj54 s51
      refine sm_br 1 49 44 [.ref 58, .int x1, .int (s.1 58 32), .int p32.1, .null, .null] [] (am_hp sw p32.2) (fun _ => rfl) (fun _ => ?_) (fun _ => ?_)
      · exact hj49 p32.2
      · refine sm_br 3 49 54 [.ref 58, .int x1, .int (s.1 58 32), .int p32.1, .null, .null] [] (am_hp sw p32.2) (fun _ => rfl) (fun _ => ?_) (fun _ => ?_)
        · exact hj49 p32.2
        · exact hj54 p32.2
    · exact hj54 p32.2
  refine sm_br 1 16 20 [.ref 58, .int x1, .int (s.1 58 32), .null, .null, .null] [] (am_hp sw s6) (fun _ => rfl) (fun _ => ?_) (fun _ => ?_)
  · refine sm_go 2 32 [.ref 58, .int x1, .int (s.1 58 32), .null, .null, .null] [.int (0)] (am_hp sw s6) (fun _ => rfl) ?_
    exact hj32 (0, s6)
  · refine sm_iald 4 28 [.ref 58, .int x1, .int (s.1 58 32), .null, .null, .null] [] (am_hp sw s6) (i := (s6.1 58 11)) (c := 61) (fun _ => rfl) rfl rfl rfl rfl ?_
    refine sm_go 2 32 [.ref 58, .int x1, .int (s.1 58 32), .null, .null, .null] [.int ((s6.1 61 (Int32.toNatClampNeg (s6.1 58 11))) - 11)] (am_hp sw s6) (fun _ => rfl) ?_
    exact hj32 (((s6.1 61 (Int32.toNatClampNeg (s6.1 58 11))) - 11), s6)

def f_X12_tellRule_L214 : Nat → Int32 → Int32 → Int32 → am_S → Option ((Unit × am_S) ⊕ ((Unit) × am_S))
  | 0, _, _, _, _ => none
  | n + 1, x2, x3, x4, s => if x3 = 0 then (some (.inr ((), s))) else (if (s.1 58 13) = 0 then (am_bd (f_X12_relation s x4) (fun (_ : Unit) s228 => am_bd (f_X12_is s228 (24)) (fun v234 s234 => am_jn (fun (p258 : Int32 × am_S) => if p258.1 = 0 then (f_X12_tellRule_L214 n x2 p258.1 v234 p258.2) else (am_bd (f_X12_next p258.2) (fun (_ : Unit) s264 => f_X12_tellRule_L214 n x2 p258.1 v234 s264))) (fun j258 => am_jn (fun (p253 : am_S) => j258 (1, p253)) (fun j253 => if v234 = 0 then (am_bd (f_X12_is s234 (25)) (fun v247 s247 => if v247 = 0 then (j258 (0, s247)) else (j253 s247))) else (j253 s234)))))) else (some (.inr ((), s))))
def f_X12_tellRule (s : am_S) : Option (Unit × am_S) := am_bd (f_X12_is s (20)) (fun v3 s3 => am_jn (fun (p32 : Int32 × am_S) => am_jn (fun (p64 : am_S) => if 0 < (p64.1 58 13) then (some ((), p64)) else (am_gu (am_in (p64.1 58 19) 2) (am_bd (f_X12_is p64 (20)) (fun v98 s98 => am_jn (fun (p122 : Int32 × am_S) => am_gu (am_in ((20 * (p64.1 58 19)) + (p64.1 66 (Int32.toNatClampNeg (p64.1 58 19)))) 40) (am_bd (f_X12_next (am_wI p122.2 67 (Int32.toNatClampNeg ((20 * (p64.1 58 19)) + (p64.1 66 (Int32.toNatClampNeg (p64.1 58 19))))) p122.1)) (fun (_ : Unit) s124 => am_gu (am_in ((20 * (p64.1 58 19)) + (p64.1 66 (Int32.toNatClampNeg (p64.1 58 19)))) 40) (am_gu (am_in ((20 * (p64.1 58 19)) + (p64.1 66 (Int32.toNatClampNeg (p64.1 58 19)))) 40) (am_jn (fun (p151 : am_S) => am_gu (am_in ((20 * (p64.1 58 19)) + (p64.1 66 (Int32.toNatClampNeg (p64.1 58 19)))) 40) (am_gu (am_in (p151.1 58 19) 2) (am_gu (am_in ((20 * (p64.1 58 19)) + (p64.1 66 (Int32.toNatClampNeg (p64.1 58 19)))) 40) (am_gu (am_in ((20 * (p64.1 58 19)) + (p64.1 66 (Int32.toNatClampNeg (p64.1 58 19)))) 40) (am_jn (fun (p191 : Int32 × am_S) => am_bd (f_X12_is p191.2 (21)) (fun v195 s195 => am_jn (fun (p211 : Int32 × am_S) => am_lp (fun y => y) (f_X12_tellRule_L214 am_FU ((20 * (p64.1 58 19)) + (p64.1 66 (Int32.toNatClampNeg (p64.1 58 19)))) p211.1 (1) p211.2) (fun (_ : Unit) s214 => am_bd (f_X12_must s214 (4)) (fun (_ : Unit) s272 => if 0 < (s272.1 58 13) then (some ((), s272)) else (am_gu (am_in (s272.1 58 19) 2) (am_gu (am_in ((20 * (p64.1 58 19)) + (p64.1 66 (Int32.toNatClampNeg (p64.1 58 19)))) 40) (am_gu (am_in (s272.1 58 19) 2) (am_gu (am_in (s272.1 58 19) 2) (some ((), (am_wI (am_wI s272 71 (Int32.toNatClampNeg ((20 * (p64.1 58 19)) + (p64.1 66 (Int32.toNatClampNeg (p64.1 58 19))))) (s272.1 72 (Int32.toNatClampNeg (s272.1 58 19)))) 66 (Int32.toNatClampNeg (s272.1 58 19)) ((s272.1 66 (Int32.toNatClampNeg (s272.1 58 19))) + 1))))))))))) (fun j211 => if v195 = 0 then (j211 (p191.1, s195)) else (if p191.1 = 0 then (am_bd (f_X12_next s195) (fun (_ : Unit) s206 => j211 (1, s206))) else (j211 (p191.1, s195)))))) (fun j191 => if (p151.1 67 (Int32.toNatClampNeg ((20 * (p64.1 58 19)) + (p64.1 66 (Int32.toNatClampNeg (p64.1 58 19)))))) = 1 then (j191 (1, (am_wI (am_wI p151 69 (Int32.toNatClampNeg ((20 * (p64.1 58 19)) + (p64.1 66 (Int32.toNatClampNeg (p64.1 58 19))))) (p151.1 58 32)) 70 (Int32.toNatClampNeg ((20 * (p64.1 58 19)) + (p64.1 66 (Int32.toNatClampNeg (p64.1 58 19))))) (p151.1 72 (Int32.toNatClampNeg (p151.1 58 19)))))) else (j191 (0, (am_wI (am_wI p151 69 (Int32.toNatClampNeg ((20 * (p64.1 58 19)) + (p64.1 66 (Int32.toNatClampNeg (p64.1 58 19))))) (p151.1 58 32)) 70 (Int32.toNatClampNeg ((20 * (p64.1 58 19)) + (p64.1 66 (Int32.toNatClampNeg (p64.1 58 19))))) (p151.1 72 (Int32.toNatClampNeg (p151.1 58 19)))))))))))) (fun j151 => if (s124.1 67 (Int32.toNatClampNeg ((20 * (p64.1 58 19)) + (p64.1 66 (Int32.toNatClampNeg (p64.1 58 19)))))) = 1 then (j151 (am_wI s124 68 (Int32.toNatClampNeg ((20 * (p64.1 58 19)) + (p64.1 66 (Int32.toNatClampNeg (p64.1 58 19))))) (s124.1 58 32))) else (am_bd (f_X12_expression (am_wI s124 68 (Int32.toNatClampNeg ((20 * (p64.1 58 19)) + (p64.1 66 (Int32.toNatClampNeg (p64.1 58 19))))) (s124.1 58 32))) (fun (_ : Unit) s148 => j151 s148)))))))) (fun j122 => if v98 = 0 then (am_bd (f_X12_is s98 (22)) (fun v111 s111 => if v111 = 0 then (j122 (2, s111)) else (j122 (1, s111)))) else (j122 (0, s98))))))) (fun j64 => if p32.1 = 0 then (am_bd (f_X12_fail p32.2 (1)) (fun (_ : Unit) s39 => j64 s39)) else (am_gu (am_in (p32.2.1 58 19) 2) (if (p32.2.1 66 (Int32.toNatClampNeg (p32.2.1 58 19))) = 20 then (am_bd (f_X12_fail p32.2 (2)) (fun (_ : Unit) s61 => j64 s61)) else (j64 p32.2))))) (fun j32 => am_jn (fun (p27 : am_S) => j32 (1, p27)) (fun j27 => if v3 = 0 then (am_bd (f_X12_is s3 (22)) (fun v12 s12 => if v12 = 0 then (am_bd (f_X12_is s12 (23)) (fun v21 s21 => if v21 = 0 then (j32 (0, s21)) else (j27 s21))) else (j27 s12))) else (j27 s3))))
set_option maxRecDepth 20000 in
theorem l_X12_tellRule_214 (d : Nat) (sw : Bool) : ∀ (n : Nat) (x2 : Int32) (x3 : Int32) (x4 : Int32) (s : am_S), am_Sm tb_X12_tellRule 12 false none none (d + 4) (am_pl am_cU sw (fun (v9 : Unit) s9 r h9 => am_Ex tb_X12_tellRule 12 false none none (d + 4) r h9 270 [.ref 58, .null, .int x2, .null, .null] [] (am_hp sw s9))) (f_X12_tellRule_L214 n x2 x3 x4 s) 214 [.ref 58, .null, .int x2, .int x3, .int x4] [] (am_hp sw s) := by
  intro n
  induction n with
  | zero => intro x2 x3 x4 s; exact sm_no
  | succ n ih =>
    intro x2 x3 x4 s
    rw [f_X12_tellRule_L214]
    refine sm_br 2 270 218 [.ref 58, .null, .int x2, .int x3, .int x4] [] (am_hp sw s) (fun _ => rfl) (fun _ => ?_) (fun _ => ?_)
    · refine sm_fg [.ref 58, .null, .int x2, .null, .null] ⟨Or.inr rfl, Or.inl rfl, Or.inr rfl, Or.inl rfl, Or.inl rfl, trivial⟩ ?_
      exact sm_ex (fun _ _ h => h.2)
    · refine sm_br 3 225 270 [.ref 58, .null, .int x2, .int x3, .int x4] [] (am_hp sw s) (fun _ => rfl) (fun _ => ?_) (fun _ => ?_)
      · refine sm_call (cvf := am_cU) 2 228 [.ref 58, .null, .int x2, .int x3, .int x4] [.int x4, .ref 58] sw s 151 [.ref 58, .int x4] [] (fun _ => rfl) rfl (fun _ _ e9 => r_X12_relation (d + 0) sw _ _ _ _ e9) am_pl20 (fun _v s228 => ?_)
        refine sm_call (cvf := am_cI) 2 234 [.ref 58, .null, .int x2, .int x3, .int x4] [.int (24), .ref 58] sw s228 144 [.ref 58, .int (24)] [] (fun _ => rfl) rfl (fun _ _ e9 => r_X12_is (d + 3) sw _ _ _ _ e9) am_pl20 (fun v234 s234 => ?_)
        refine sm_go 2 241 [.ref 58, .null, .int x2, .int x3, .int v234] [.int v234] (am_hp sw s234) (fun _ => rfl) ?_
        refine sm_jn 258 (fun p258 => [.ref 58, .null, .int x2, .null, .int v234]) (fun p258 => [.int p258.1]) (fun p258 => (am_hp sw p258.2)) (fun p258 => ?_) (fun j258 hj258 => ?_)
        · refine sm_br 3 214 263 [.ref 58, .null, .int x2, .int p258.1, .int v234] [] (am_hp sw p258.2) (fun _ => rfl) (fun _ => ?_) (fun _ => ?_)
          · exact ih x2 p258.1 v234 p258.2
          · refine sm_call (cvf := am_cU) 1 264 [.ref 58, .null, .int x2, .int p258.1, .int v234] [.ref 58] sw p258.2 146 [.ref 58] [] (fun _ => rfl) rfl (fun _ _ e9 => r_X12_next (d + 2) sw _ _  _ e9) am_pl20 (fun _v s264 => ?_)
            refine sm_go 1 214 [.ref 58, .null, .int x2, .int p258.1, .int v234] [] (am_hp sw s264) (fun _ => rfl) ?_
            exact ih x2 p258.1 v234 s264
        refine sm_jn 253 (fun p253 => [.ref 58, .null, .int x2, .null, .int v234]) (fun p253 => []) (fun p253 => (am_hp sw p253)) (fun p253 => ?_) (fun j253 hj253 => ?_)
        · refine sm_go 2 258 [.ref 58, .null, .int x2, .null, .int v234] [.int (1)] (am_hp sw p253) (fun _ => rfl) ?_
          exact hj258 (1, p253)
        refine sm_br 1 244 253 [.ref 58, .null, .int x2, .int x3, .int v234] [] (am_hp sw s234) (fun _ => rfl) (fun _ => ?_) (fun _ => ?_)
        · refine sm_call (cvf := am_cI) 2 247 [.ref 58, .null, .int x2, .int x3, .int v234] [.int (25), .ref 58] sw s234 144 [.ref 58, .int (25)] [] (fun _ => rfl) rfl (fun _ _ e9 => r_X12_is (d + 3) sw _ _ _ _ e9) am_pl20 (fun v247 s247 => ?_)
          refine sm_br 1 257 253 [.ref 58, .null, .int x2, .int x3, .int v234] [] (am_hp sw s247) (fun _ => rfl) (fun _ => ?_) (fun _ => ?_)
          · refine sm_go 1 258 [.ref 58, .null, .int x2, .int x3, .int v234] [.int (0)] (am_hp sw s247) (fun _ => rfl) ?_
            refine sm_fg [.ref 58, .null, .int x2, .null, .int v234] ⟨Or.inr rfl, Or.inl rfl, Or.inr rfl, Or.inl rfl, Or.inr rfl, trivial⟩ ?_
            exact hj258 (0, s247)
          · refine sm_fg [.ref 58, .null, .int x2, .null, .int v234] ⟨Or.inr rfl, Or.inl rfl, Or.inr rfl, Or.inl rfl, Or.inr rfl, trivial⟩ ?_
            exact hj253 s247
        · refine sm_fg [.ref 58, .null, .int x2, .null, .int v234] ⟨Or.inr rfl, Or.inl rfl, Or.inr rfl, Or.inl rfl, Or.inr rfl, trivial⟩ ?_
          exact hj253 s234
      · refine sm_fg [.ref 58, .null, .int x2, .null, .null] ⟨Or.inr rfl, Or.inl rfl, Or.inr rfl, Or.inl rfl, Or.inl rfl, trivial⟩ ?_
        exact sm_ex (fun _ _ h => h.2)

set_option maxRecDepth 20000 in
theorem r_X12_tellRule (d : Nat) (sw : Bool) (s s' : am_S) (v : Unit) (e : f_X12_tellRule s = some (v, s')) : am_Run (d + 5) 150 [.ref 58] (am_hp sw s) (am_cU v) (am_hp sw s') := by
  refine am_Run.of (M := mt_X12_tellRule) (cvf := am_cU) (X := f_X12_tellRule s) rfl rfl rfl (by simp) ?_ e
  unfold f_X12_tellRule
  show am_Sm tb_X12_tellRule 12 false none none (d + 4) (am_po am_cU sw) _ 0 [.ref 58, .null, .null, .null, .null] [] (am_hp sw s)
  refine sm_call (cvf := am_cI) 2 3 [.ref 58, .null, .null, .null, .null] [.int (20), .ref 58] sw s 144 [.ref 58, .int (20)] [] (fun _ => rfl) rfl (fun _ _ e9 => r_X12_is (d + 3) sw _ _ _ _ e9) am_po20 (fun v3 s3 => ?_)
  refine sm_jn 32 (fun p32 => [.ref 58, .null, .null, .null, .null]) (fun p32 => [.int p32.1]) (fun p32 => (am_hp sw p32.2)) (fun p32 => ?_) (fun j32 hj32 => ?_)
  · refine sm_go 2 34 [.ref 58, .int p32.1, .null, .null, .null] [.int p32.1] (am_hp sw p32.2) (fun _ => rfl) ?_
    refine sm_jn 64 (fun p64 => [.ref 58, .null, .null, .null, .null]) (fun p64 => []) (fun p64 => (am_hp sw p64)) (fun p64 => ?_) (fun j64 hj64 => ?_)
    · refine sm_br 3 71 72 [.ref 58, .null, .null, .null, .null] [] (am_hp sw p64) (fun _ => rfl) (fun _ => ?_) (fun _ => ?_)
      · exact sm_ret 0 71 [.ref 58, .null, .null, .null, .null] [] (am_hp sw p64) none (fun _ => rfl) rfl (fun _ _ h => h)
      · refine sm_iald 8 87 [.ref 58, .null, .null, .null, .null] [.int (20 * (p64.1 58 19))] (am_hp sw p64) (i := (p64.1 58 19)) (c := 66) (fun _ => rfl) rfl rfl rfl rfl ?_
        refine sm_call (cvf := am_cI) 7 98 [.ref 58, .null, .int ((20 * (p64.1 58 19)) + (p64.1 66 (Int32.toNatClampNeg (p64.1 58 19)))), .null, .null] [.int (20), .ref 58, .int ((20 * (p64.1 58 19)) + (p64.1 66 (Int32.toNatClampNeg (p64.1 58 19)))), .ref 67] sw p64 144 [.ref 58, .int (20)] [.int ((20 * (p64.1 58 19)) + (p64.1 66 (Int32.toNatClampNeg (p64.1 58 19)))), .ref 67] (fun _ => rfl) rfl (fun _ _ e9 => r_X12_is (d + 3) sw _ _ _ _ e9) am_po20 (fun v98 s98 => ?_)
        refine sm_jn 122 (fun p122 => [.ref 58, .null, .int ((20 * (p64.1 58 19)) + (p64.1 66 (Int32.toNatClampNeg (p64.1 58 19)))), .null, .null]) (fun p122 => [.int p122.1, .int ((20 * (p64.1 58 19)) + (p64.1 66 (Int32.toNatClampNeg (p64.1 58 19)))), .ref 67]) (fun p122 => (am_hp sw p122.2)) (fun p122 => ?_) (fun j122 hj122 => ?_)
        · refine sm_iast 0 122 [.ref 58, .null, .int ((20 * (p64.1 58 19)) + (p64.1 66 (Int32.toNatClampNeg (p64.1 58 19)))), .null, .null] [] sw p122.2 (i := ((20 * (p64.1 58 19)) + (p64.1 66 (Int32.toNatClampNeg (p64.1 58 19))))) (x := p122.1) (c := 67) (fun _ => rfl) rfl rfl rfl ?_
          refine sm_call (cvf := am_cU) 1 124 [.ref 58, .null, .int ((20 * (p64.1 58 19)) + (p64.1 66 (Int32.toNatClampNeg (p64.1 58 19)))), .null, .null] [.ref 58] sw (am_wI p122.2 67 (Int32.toNatClampNeg ((20 * (p64.1 58 19)) + (p64.1 66 (Int32.toNatClampNeg (p64.1 58 19))))) p122.1) 146 [.ref 58] [] (fun _ => rfl) rfl (fun _ _ e9 => r_X12_next (d + 2) sw _ _  _ e9) am_po20 (fun _v s124 => ?_)
          refine sm_iast 5 136 [.ref 58, .null, .int ((20 * (p64.1 58 19)) + (p64.1 66 (Int32.toNatClampNeg (p64.1 58 19)))), .null, .null] [] sw s124 (i := ((20 * (p64.1 58 19)) + (p64.1 66 (Int32.toNatClampNeg (p64.1 58 19))))) (x := (s124.1 58 32)) (c := 68) (fun _ => rfl) rfl rfl rfl ?_
          refine sm_iald 3 142 [.ref 58, .null, .int ((20 * (p64.1 58 19)) + (p64.1 66 (Int32.toNatClampNeg (p64.1 58 19)))), .null, .null] [] (am_hp sw (am_wI s124 68 (Int32.toNatClampNeg ((20 * (p64.1 58 19)) + (p64.1 66 (Int32.toNatClampNeg (p64.1 58 19))))) (s124.1 58 32))) (i := ((20 * (p64.1 58 19)) + (p64.1 66 (Int32.toNatClampNeg (p64.1 58 19))))) (c := 67) (fun _ => rfl) rfl rfl rfl rfl ?_
          refine sm_go 1 144 [.ref 58, .null, .int ((20 * (p64.1 58 19)) + (p64.1 66 (Int32.toNatClampNeg (p64.1 58 19)))), .null, .null] [.int (1), .int (s124.1 67 (Int32.toNatClampNeg ((20 * (p64.1 58 19)) + (p64.1 66 (Int32.toNatClampNeg (p64.1 58 19))))))] (am_hp sw (am_wI s124 68 (Int32.toNatClampNeg ((20 * (p64.1 58 19)) + (p64.1 66 (Int32.toNatClampNeg (p64.1 58 19))))) (s124.1 58 32))) (fun _ => rfl) ?_
          refine sm_jn 151 (fun p151 => [.ref 58, .null, .int ((20 * (p64.1 58 19)) + (p64.1 66 (Int32.toNatClampNeg (p64.1 58 19)))), .null, .null]) (fun p151 => []) (fun p151 => (am_hp sw p151)) (fun p151 => ?_) (fun j151 hj151 => ?_)
          · refine sm_iast 5 160 [.ref 58, .null, .int ((20 * (p64.1 58 19)) + (p64.1 66 (Int32.toNatClampNeg (p64.1 58 19)))), .null, .null] [] sw p151 (i := ((20 * (p64.1 58 19)) + (p64.1 66 (Int32.toNatClampNeg (p64.1 58 19))))) (x := (p151.1 58 32)) (c := 69) (fun _ => rfl) rfl rfl rfl ?_
            refine sm_iald 7 174 [.ref 58, .null, .int ((20 * (p64.1 58 19)) + (p64.1 66 (Int32.toNatClampNeg (p64.1 58 19)))), .null, .null] [.int ((20 * (p64.1 58 19)) + (p64.1 66 (Int32.toNatClampNeg (p64.1 58 19)))), .ref 70] (am_hp sw (am_wI p151 69 (Int32.toNatClampNeg ((20 * (p64.1 58 19)) + (p64.1 66 (Int32.toNatClampNeg (p64.1 58 19))))) (p151.1 58 32))) (i := (p151.1 58 19)) (c := 72) (fun _ => rfl) rfl rfl rfl rfl ?_
            refine sm_iast 0 175 [.ref 58, .null, .int ((20 * (p64.1 58 19)) + (p64.1 66 (Int32.toNatClampNeg (p64.1 58 19)))), .null, .null] [] sw (am_wI p151 69 (Int32.toNatClampNeg ((20 * (p64.1 58 19)) + (p64.1 66 (Int32.toNatClampNeg (p64.1 58 19))))) (p151.1 58 32)) (i := ((20 * (p64.1 58 19)) + (p64.1 66 (Int32.toNatClampNeg (p64.1 58 19))))) (x := (p151.1 72 (Int32.toNatClampNeg (p151.1 58 19)))) (c := 70) (fun _ => rfl) rfl rfl rfl ?_
            refine sm_iald 3 181 [.ref 58, .null, .int ((20 * (p64.1 58 19)) + (p64.1 66 (Int32.toNatClampNeg (p64.1 58 19)))), .null, .null] [] (am_hp sw (am_wI (am_wI p151 69 (Int32.toNatClampNeg ((20 * (p64.1 58 19)) + (p64.1 66 (Int32.toNatClampNeg (p64.1 58 19))))) (p151.1 58 32)) 70 (Int32.toNatClampNeg ((20 * (p64.1 58 19)) + (p64.1 66 (Int32.toNatClampNeg (p64.1 58 19))))) (p151.1 72 (Int32.toNatClampNeg (p151.1 58 19))))) (i := ((20 * (p64.1 58 19)) + (p64.1 66 (Int32.toNatClampNeg (p64.1 58 19))))) (c := 67) (fun _ => rfl) rfl rfl rfl rfl ?_
            refine sm_go 1 183 [.ref 58, .null, .int ((20 * (p64.1 58 19)) + (p64.1 66 (Int32.toNatClampNeg (p64.1 58 19)))), .null, .null] [.int (1), .int (p151.1 67 (Int32.toNatClampNeg ((20 * (p64.1 58 19)) + (p64.1 66 (Int32.toNatClampNeg (p64.1 58 19))))))] (am_hp sw (am_wI (am_wI p151 69 (Int32.toNatClampNeg ((20 * (p64.1 58 19)) + (p64.1 66 (Int32.toNatClampNeg (p64.1 58 19))))) (p151.1 58 32)) 70 (Int32.toNatClampNeg ((20 * (p64.1 58 19)) + (p64.1 66 (Int32.toNatClampNeg (p64.1 58 19))))) (p151.1 72 (Int32.toNatClampNeg (p151.1 58 19))))) (fun _ => rfl) ?_
            refine sm_jn 191 (fun p191 => [.ref 58, .null, .int ((20 * (p64.1 58 19)) + (p64.1 66 (Int32.toNatClampNeg (p64.1 58 19)))), .null, .null]) (fun p191 => [.int p191.1]) (fun p191 => (am_hp sw p191.2)) (fun p191 => ?_) (fun j191 hj191 => ?_)
            · refine sm_call (cvf := am_cI) 3 195 [.ref 58, .null, .int ((20 * (p64.1 58 19)) + (p64.1 66 (Int32.toNatClampNeg (p64.1 58 19)))), .int p191.1, .null] [.int (21), .ref 58] sw p191.2 144 [.ref 58, .int (21)] [] (fun _ => rfl) rfl (fun _ _ e9 => r_X12_is (d + 3) sw _ _ _ _ e9) am_po20 (fun v195 s195 => ?_)
              refine sm_jn 211 (fun p211 => [.ref 58, .null, .int ((20 * (p64.1 58 19)) + (p64.1 66 (Int32.toNatClampNeg (p64.1 58 19)))), .int p211.1, .null]) (fun p211 => []) (fun p211 => (am_hp sw p211.2)) (fun p211 => ?_) (fun j211 hj211 => ?_)
              · refine sm_go 2 214 [.ref 58, .null, .int ((20 * (p64.1 58 19)) + (p64.1 66 (Int32.toNatClampNeg (p64.1 58 19)))), .int p211.1, .int (1)] [] (am_hp sw p211.2) (fun _ => rfl) ?_
                refine sm_lp 270 (fun _y => [.ref 58, .null, .int ((20 * (p64.1 58 19)) + (p64.1 66 (Int32.toNatClampNeg (p64.1 58 19)))), .null, .null]) (l_X12_tellRule_214 d sw am_FU ((20 * (p64.1 58 19)) + (p64.1 66 (Int32.toNatClampNeg (p64.1 58 19)))) p211.1 (1) p211.2) (fun _ _ _ h => h) am_po20 (fun _y s214 => ?_)
                refine sm_call (cvf := am_cU) 2 272 [.ref 58, .null, .int ((20 * (p64.1 58 19)) + (p64.1 66 (Int32.toNatClampNeg (p64.1 58 19)))), .null, .null] [.int (4), .ref 58] sw s214 147 [.ref 58, .int (4)] [] (fun _ => rfl) rfl (fun _ _ e9 => r_X12_must (d + 1) sw _ _ _ _ e9) am_po20 (fun _v s272 => ?_)
                refine sm_br 3 282 283 [.ref 58, .null, .int ((20 * (p64.1 58 19)) + (p64.1 66 (Int32.toNatClampNeg (p64.1 58 19)))), .null, .null] [] (am_hp sw s272) (fun _ => rfl) (fun _ => ?_) (fun _ => ?_)
                · exact sm_ret 0 282 [.ref 58, .null, .int ((20 * (p64.1 58 19)) + (p64.1 66 (Int32.toNatClampNeg (p64.1 58 19)))), .null, .null] [] (am_hp sw s272) none (fun _ => rfl) rfl (fun _ _ h => h)
                · refine sm_iald 7 296 [.ref 58, .null, .int ((20 * (p64.1 58 19)) + (p64.1 66 (Int32.toNatClampNeg (p64.1 58 19)))), .null, .null] [.int ((20 * (p64.1 58 19)) + (p64.1 66 (Int32.toNatClampNeg (p64.1 58 19)))), .ref 71] (am_hp sw s272) (i := (s272.1 58 19)) (c := 72) (fun _ => rfl) rfl rfl rfl rfl ?_
                  refine sm_iast 0 297 [.ref 58, .null, .int ((20 * (p64.1 58 19)) + (p64.1 66 (Int32.toNatClampNeg (p64.1 58 19)))), .null, .null] [] sw s272 (i := ((20 * (p64.1 58 19)) + (p64.1 66 (Int32.toNatClampNeg (p64.1 58 19))))) (x := (s272.1 72 (Int32.toNatClampNeg (s272.1 58 19)))) (c := 71) (fun _ => rfl) rfl rfl rfl ?_
                  refine sm_iald 5 307 [.ref 58, .null, .int ((20 * (p64.1 58 19)) + (p64.1 66 (Int32.toNatClampNeg (p64.1 58 19)))), .null, .null] [.int (s272.1 58 19), .ref 66] (am_hp sw (am_wI s272 71 (Int32.toNatClampNeg ((20 * (p64.1 58 19)) + (p64.1 66 (Int32.toNatClampNeg (p64.1 58 19))))) (s272.1 72 (Int32.toNatClampNeg (s272.1 58 19))))) (i := (s272.1 58 19)) (c := 66) (fun _ => rfl) rfl rfl rfl rfl ?_
                  refine sm_iast 2 310 [.ref 58, .null, .int ((20 * (p64.1 58 19)) + (p64.1 66 (Int32.toNatClampNeg (p64.1 58 19)))), .null, .null] [] sw (am_wI s272 71 (Int32.toNatClampNeg ((20 * (p64.1 58 19)) + (p64.1 66 (Int32.toNatClampNeg (p64.1 58 19))))) (s272.1 72 (Int32.toNatClampNeg (s272.1 58 19)))) (i := (s272.1 58 19)) (x := ((s272.1 66 (Int32.toNatClampNeg (s272.1 58 19))) + 1)) (c := 66) (fun _ => rfl) rfl rfl rfl ?_
                  exact sm_ret 0 311 [.ref 58, .null, .int ((20 * (p64.1 58 19)) + (p64.1 66 (Int32.toNatClampNeg (p64.1 58 19)))), .null, .null] [] (am_hp sw (am_wI (am_wI s272 71 (Int32.toNatClampNeg ((20 * (p64.1 58 19)) + (p64.1 66 (Int32.toNatClampNeg (p64.1 58 19))))) (s272.1 72 (Int32.toNatClampNeg (s272.1 58 19)))) 66 (Int32.toNatClampNeg (s272.1 58 19)) ((s272.1 66 (Int32.toNatClampNeg (s272.1 58 19))) + 1))) none (fun _ => rfl) rfl (fun _ _ h => h)
              refine sm_br 1 211 201 [.ref 58, .null, .int ((20 * (p64.1 58 19)) + (p64.1 66 (Int32.toNatClampNeg (p64.1 58 19)))), .int p191.1, .null] [] (am_hp sw s195) (fun _ => rfl) (fun _ => ?_) (fun _ => ?_)
              · exact hj211 (p191.1, s195)
              · refine sm_br 2 205 211 [.ref 58, .null, .int ((20 * (p64.1 58 19)) + (p64.1 66 (Int32.toNatClampNeg (p64.1 58 19)))), .int p191.1, .null] [] (am_hp sw s195) (fun _ => rfl) (fun _ => ?_) (fun _ => ?_)
                · refine sm_call (cvf := am_cU) 1 206 [.ref 58, .null, .int ((20 * (p64.1 58 19)) + (p64.1 66 (Int32.toNatClampNeg (p64.1 58 19)))), .int p191.1, .null] [.ref 58] sw s195 146 [.ref 58] [] (fun _ => rfl) rfl (fun _ _ e9 => r_X12_next (d + 2) sw _ _  _ e9) am_po20 (fun _v s206 => ?_)
                  refine sm_go 2 211 [.ref 58, .null, .int ((20 * (p64.1 58 19)) + (p64.1 66 (Int32.toNatClampNeg (p64.1 58 19)))), .int (1), .null] [] (am_hp sw s206) (fun _ => rfl) ?_
                  exact hj211 (1, s206)
                · exact hj211 (p191.1, s195)
            refine sm_br 1 186 190 [.ref 58, .null, .int ((20 * (p64.1 58 19)) + (p64.1 66 (Int32.toNatClampNeg (p64.1 58 19)))), .null, .null] [] (am_hp sw (am_wI (am_wI p151 69 (Int32.toNatClampNeg ((20 * (p64.1 58 19)) + (p64.1 66 (Int32.toNatClampNeg (p64.1 58 19))))) (p151.1 58 32)) 70 (Int32.toNatClampNeg ((20 * (p64.1 58 19)) + (p64.1 66 (Int32.toNatClampNeg (p64.1 58 19))))) (p151.1 72 (Int32.toNatClampNeg (p151.1 58 19))))) (fun _ => rfl) (fun _ => ?_) (fun _ => ?_)
            · refine sm_go 2 191 [.ref 58, .null, .int ((20 * (p64.1 58 19)) + (p64.1 66 (Int32.toNatClampNeg (p64.1 58 19)))), .null, .null] [.int (1)] (am_hp sw (am_wI (am_wI p151 69 (Int32.toNatClampNeg ((20 * (p64.1 58 19)) + (p64.1 66 (Int32.toNatClampNeg (p64.1 58 19))))) (p151.1 58 32)) 70 (Int32.toNatClampNeg ((20 * (p64.1 58 19)) + (p64.1 66 (Int32.toNatClampNeg (p64.1 58 19))))) (p151.1 72 (Int32.toNatClampNeg (p151.1 58 19))))) (fun _ => rfl) ?_
              exact hj191 (1, (am_wI (am_wI p151 69 (Int32.toNatClampNeg ((20 * (p64.1 58 19)) + (p64.1 66 (Int32.toNatClampNeg (p64.1 58 19))))) (p151.1 58 32)) 70 (Int32.toNatClampNeg ((20 * (p64.1 58 19)) + (p64.1 66 (Int32.toNatClampNeg (p64.1 58 19))))) (p151.1 72 (Int32.toNatClampNeg (p151.1 58 19)))))
            · refine sm_go 1 191 [.ref 58, .null, .int ((20 * (p64.1 58 19)) + (p64.1 66 (Int32.toNatClampNeg (p64.1 58 19)))), .null, .null] [.int (0)] (am_hp sw (am_wI (am_wI p151 69 (Int32.toNatClampNeg ((20 * (p64.1 58 19)) + (p64.1 66 (Int32.toNatClampNeg (p64.1 58 19))))) (p151.1 58 32)) 70 (Int32.toNatClampNeg ((20 * (p64.1 58 19)) + (p64.1 66 (Int32.toNatClampNeg (p64.1 58 19))))) (p151.1 72 (Int32.toNatClampNeg (p151.1 58 19))))) (fun _ => rfl) ?_
              exact hj191 (0, (am_wI (am_wI p151 69 (Int32.toNatClampNeg ((20 * (p64.1 58 19)) + (p64.1 66 (Int32.toNatClampNeg (p64.1 58 19))))) (p151.1 58 32)) 70 (Int32.toNatClampNeg ((20 * (p64.1 58 19)) + (p64.1 66 (Int32.toNatClampNeg (p64.1 58 19))))) (p151.1 72 (Int32.toNatClampNeg (p151.1 58 19)))))
          refine sm_br 1 151 147 [.ref 58, .null, .int ((20 * (p64.1 58 19)) + (p64.1 66 (Int32.toNatClampNeg (p64.1 58 19)))), .null, .null] [] (am_hp sw (am_wI s124 68 (Int32.toNatClampNeg ((20 * (p64.1 58 19)) + (p64.1 66 (Int32.toNatClampNeg (p64.1 58 19))))) (s124.1 58 32))) (fun _ => rfl) (fun _ => ?_) (fun _ => ?_)
          · exact hj151 (am_wI s124 68 (Int32.toNatClampNeg ((20 * (p64.1 58 19)) + (p64.1 66 (Int32.toNatClampNeg (p64.1 58 19))))) (s124.1 58 32))
          · refine sm_call (cvf := am_cU) 1 148 [.ref 58, .null, .int ((20 * (p64.1 58 19)) + (p64.1 66 (Int32.toNatClampNeg (p64.1 58 19)))), .null, .null] [.ref 58] sw (am_wI s124 68 (Int32.toNatClampNeg ((20 * (p64.1 58 19)) + (p64.1 66 (Int32.toNatClampNeg (p64.1 58 19))))) (s124.1 58 32)) 154 [.ref 58] [] (fun _ => rfl) rfl (fun _ _ e9 => r_X12_expression (d + 1) sw _ _  _ e9) am_po20 (fun _v s148 => ?_)
            exact hj151 s148
        refine sm_br 1 108 104 [.ref 58, .null, .int ((20 * (p64.1 58 19)) + (p64.1 66 (Int32.toNatClampNeg (p64.1 58 19)))), .null, .null] [.int ((20 * (p64.1 58 19)) + (p64.1 66 (Int32.toNatClampNeg (p64.1 58 19)))), .ref 67] (am_hp sw s98) (fun _ => rfl) (fun _ => ?_) (fun _ => ?_)
        · refine sm_call (cvf := am_cI) 2 111 [.ref 58, .null, .int ((20 * (p64.1 58 19)) + (p64.1 66 (Int32.toNatClampNeg (p64.1 58 19)))), .null, .null] [.int (22), .ref 58, .int ((20 * (p64.1 58 19)) + (p64.1 66 (Int32.toNatClampNeg (p64.1 58 19)))), .ref 67] sw s98 144 [.ref 58, .int (22)] [.int ((20 * (p64.1 58 19)) + (p64.1 66 (Int32.toNatClampNeg (p64.1 58 19)))), .ref 67] (fun _ => rfl) rfl (fun _ _ e9 => r_X12_is (d + 3) sw _ _ _ _ e9) am_po20 (fun v111 s111 => ?_)
          refine sm_br 1 121 117 [.ref 58, .null, .int ((20 * (p64.1 58 19)) + (p64.1 66 (Int32.toNatClampNeg (p64.1 58 19)))), .null, .null] [.int ((20 * (p64.1 58 19)) + (p64.1 66 (Int32.toNatClampNeg (p64.1 58 19)))), .ref 67] (am_hp sw s111) (fun _ => rfl) (fun _ => ?_) (fun _ => ?_)
          · refine sm_go 1 122 [.ref 58, .null, .int ((20 * (p64.1 58 19)) + (p64.1 66 (Int32.toNatClampNeg (p64.1 58 19)))), .null, .null] [.int (2), .int ((20 * (p64.1 58 19)) + (p64.1 66 (Int32.toNatClampNeg (p64.1 58 19)))), .ref 67] (am_hp sw s111) (fun _ => rfl) ?_
            exact hj122 (2, s111)
          · refine sm_go 2 122 [.ref 58, .null, .int ((20 * (p64.1 58 19)) + (p64.1 66 (Int32.toNatClampNeg (p64.1 58 19)))), .null, .null] [.int (1), .int ((20 * (p64.1 58 19)) + (p64.1 66 (Int32.toNatClampNeg (p64.1 58 19)))), .ref 67] (am_hp sw s111) (fun _ => rfl) ?_
            exact hj122 (1, s111)
        · refine sm_go 2 122 [.ref 58, .null, .int ((20 * (p64.1 58 19)) + (p64.1 66 (Int32.toNatClampNeg (p64.1 58 19)))), .null, .null] [.int (0), .int ((20 * (p64.1 58 19)) + (p64.1 66 (Int32.toNatClampNeg (p64.1 58 19)))), .ref 67] (am_hp sw s98) (fun _ => rfl) ?_
          exact hj122 (0, s98)
    refine sm_br 1 37 45 [.ref 58, .int p32.1, .null, .null, .null] [] (am_hp sw p32.2) (fun _ => rfl) (fun _ => ?_) (fun _ => ?_)
    · refine sm_call (cvf := am_cU) 2 39 [.ref 58, .int p32.1, .null, .null, .null] [.int (1), .ref 58] sw p32.2 145 [.ref 58, .int (1)] [] (fun _ => rfl) rfl (fun _ _ e9 => r_X12_fail (d + 3) sw _ _ _ _ e9) am_po20 (fun _v s39 => ?_)
      refine sm_go 1 64 [.ref 58, .int p32.1, .null, .null, .null] [] (am_hp sw s39) (fun _ => rfl) ?_
      refine sm_fg [.ref 58, .null, .null, .null, .null] ⟨Or.inr rfl, Or.inl rfl, Or.inl rfl, Or.inl rfl, Or.inl rfl, trivial⟩ ?_
      exact hj64 s39
    · refine sm_iald 4 53 [.ref 58, .int p32.1, .null, .null, .null] [] (am_hp sw p32.2) (i := (p32.2.1 58 19)) (c := 66) (fun _ => rfl) rfl rfl rfl rfl ?_
      refine sm_br 2 59 64 [.ref 58, .int p32.1, .null, .null, .null] [] (am_hp sw p32.2) (fun _ => rfl) (fun _ => ?_) (fun _ => ?_)
      · refine sm_call (cvf := am_cU) 2 61 [.ref 58, .int p32.1, .null, .null, .null] [.int (2), .ref 58] sw p32.2 145 [.ref 58, .int (2)] [] (fun _ => rfl) rfl (fun _ _ e9 => r_X12_fail (d + 3) sw _ _ _ _ e9) am_po20 (fun _v s61 => ?_)
        refine sm_fg [.ref 58, .null, .null, .null, .null] ⟨Or.inr rfl, Or.inl rfl, Or.inl rfl, Or.inl rfl, Or.inl rfl, trivial⟩ ?_
        exact hj64 s61
      · refine sm_fg [.ref 58, .null, .null, .null, .null] ⟨Or.inr rfl, Or.inl rfl, Or.inl rfl, Or.inl rfl, Or.inl rfl, trivial⟩ ?_
        exact hj64 p32.2
  refine sm_jn 27 (fun p27 => [.ref 58, .null, .null, .null, .null]) (fun p27 => []) (fun p27 => (am_hp sw p27)) (fun p27 => ?_) (fun j27 hj27 => ?_)
  · refine sm_go 2 32 [.ref 58, .null, .null, .null, .null] [.int (1)] (am_hp sw p27) (fun _ => rfl) ?_
    exact hj32 (1, p27)
  refine sm_br 1 9 27 [.ref 58, .null, .null, .null, .null] [] (am_hp sw s3) (fun _ => rfl) (fun _ => ?_) (fun _ => ?_)
  · refine sm_call (cvf := am_cI) 2 12 [.ref 58, .null, .null, .null, .null] [.int (22), .ref 58] sw s3 144 [.ref 58, .int (22)] [] (fun _ => rfl) rfl (fun _ _ e9 => r_X12_is (d + 3) sw _ _ _ _ e9) am_po20 (fun v12 s12 => ?_)
    refine sm_br 1 18 27 [.ref 58, .null, .null, .null, .null] [] (am_hp sw s12) (fun _ => rfl) (fun _ => ?_) (fun _ => ?_)
    · refine sm_call (cvf := am_cI) 2 21 [.ref 58, .null, .null, .null, .null] [.int (23), .ref 58] sw s12 144 [.ref 58, .int (23)] [] (fun _ => rfl) rfl (fun _ _ e9 => r_X12_is (d + 3) sw _ _ _ _ e9) am_po20 (fun v21 s21 => ?_)
      refine sm_br 1 31 27 [.ref 58, .null, .null, .null, .null] [] (am_hp sw s21) (fun _ => rfl) (fun _ => ?_) (fun _ => ?_)
      · refine sm_go 1 32 [.ref 58, .null, .null, .null, .null] [.int (0)] (am_hp sw s21) (fun _ => rfl) ?_
        exact hj32 (0, s21)
      · exact hj27 s21
    · exact hj27 s12
  · exact hj27 s3

