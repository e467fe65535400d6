/-! ===== methods as functions, and their runs (printed by wip/gen/drive.py) ===== -/
def f_X12_isOrder (s : am_S) (x1 : Int32) : Option (Int32 × am_S) := if x1 < 0 then (some ((0), s)) else (if x1 < (s.1 58 74) then (some ((1), s)) else (some ((0), s)))
set_option maxRecDepth 20000 in
theorem r_X12_isOrder (d : Nat) (sw : Bool) (s s' : am_S) (x1 : Int32) (v : Int32) (e : f_X12_isOrder s x1 = some (v, s')) : am_Run (d + 1) 178 [.ref 58, .int x1] (am_hp sw s) (am_cI v) (am_hp sw s') := by
  refine am_Run.of (M := mt_X12_isOrder) (cvf := am_cI) (X := f_X12_isOrder s x1) rfl rfl rfl (by simp) ?_ e
  unfold f_X12_isOrder
  show am_Sm tb_X12_isOrder 12 false none (some .boolean) (d + 0) (am_po am_cI sw) _ 0 [.ref 58, .int x1] [] (am_hp sw s)
  refine sm_br 2 16 4 [.ref 58, .int x1] [] (am_hp sw s) (fun _ => rfl) (fun _ => ?_) (fun _ => ?_)
  · exact sm_ret 1 17 [.ref 58, .int x1] [.int (0)] (am_hp sw s) (some (.int (0))) (fun _ => rfl) rfl (fun _ _ h => h)
  · refine sm_br 4 12 16 [.ref 58, .int x1] [] (am_hp sw s) (fun _ => rfl) (fun _ => ?_) (fun _ => ?_)
    · exact sm_ret 2 17 [.ref 58, .int x1] [.int (1)] (am_hp sw s) (some (.int (1))) (fun _ => rfl) rfl (fun _ _ h => h)
    · exact sm_ret 1 17 [.ref 58, .int x1] [.int (0)] (am_hp sw s) (some (.int (0))) (fun _ => rfl) rfl (fun _ _ h => h)

def f_X12_need (s : am_S) (x1 : Int32) (x2 : Int32) (x3 : Int32) (x4 : Int32) : Option (Int32 × am_S) := am_bd (f_X12_isOrder s x1) (fun v2 s2 => if v2 = 0 then (some ((-1), s2)) else (am_gu (am_in x1 8) (if (s2.1 111 (Int32.toNatClampNeg x1)) = 0 then (am_gu (am_in x1 8) (if (s2.1 113 (Int32.toNatClampNeg x1)) = 4 then (some ((-1), s2)) else (if x2 < 1 then (some ((-1), s2)) else (if 20 < x2 then (some ((-1), s2)) else (am_bd (f_X12_isKind s2 x3) (fun v40 s40 => if v40 = 0 then (some ((-1), s40)) else (if x4 < (-1) then (some ((-1), s40)) else (if 4 < x4 then (some ((-1), s40)) else (am_gu (am_in x1 8) (am_gu (am_in ((4 * x1) + (s40.1 113 (Int32.toNatClampNeg x1))) 32) (am_gu (am_in ((4 * x1) + (s40.1 113 (Int32.toNatClampNeg x1))) 32) (am_gu (am_in ((4 * x1) + (s40.1 113 (Int32.toNatClampNeg x1))) 32) (am_gu (am_in x1 8) (am_gu (am_in x1 8) (am_gu (am_in x1 8) (some ((((am_wI (am_wI (am_wI (am_wI s40 114 (Int32.toNatClampNeg ((4 * x1) + (s40.1 113 (Int32.toNatClampNeg x1)))) x2) 115 (Int32.toNatClampNeg ((4 * x1) + (s40.1 113 (Int32.toNatClampNeg x1)))) x3) 116 (Int32.toNatClampNeg ((4 * x1) + (s40.1 113 (Int32.toNatClampNeg x1)))) x4) 113 (Int32.toNatClampNeg x1) ((s40.1 113 (Int32.toNatClampNeg x1)) + 1)).1 113 (Int32.toNatClampNeg x1)) - 1), (am_wI (am_wI (am_wI (am_wI s40 114 (Int32.toNatClampNeg ((4 * x1) + (s40.1 113 (Int32.toNatClampNeg x1)))) x2) 115 (Int32.toNatClampNeg ((4 * x1) + (s40.1 113 (Int32.toNatClampNeg x1)))) x3) 116 (Int32.toNatClampNeg ((4 * x1) + (s40.1 113 (Int32.toNatClampNeg x1)))) x4) 113 (Int32.toNatClampNeg x1) ((s40.1 113 (Int32.toNatClampNeg x1)) + 1))))))))))))))))))) else (some ((-1), s2)))))
set_option maxRecDepth 20000 in
theorem r_X12_need (d : Nat) (sw : Bool) (s s' : am_S) (x1 : Int32) (x2 : Int32) (x3 : Int32) (x4 : Int32) (v : Int32) (e : f_X12_need s x1 x2 x3 x4 = some (v, s')) : am_Run (d + 2) 179 [.ref 58, .int x1, .int x2, .int x3, .int x4] (am_hp sw s) (am_cI v) (am_hp sw s') := by
  refine am_Run.of (M := mt_X12_need) (cvf := am_cI) (X := f_X12_need s x1 x2 x3 x4) rfl rfl rfl (by simp) ?_ e
  unfold f_X12_need
  show am_Sm tb_X12_need 12 false none (some .int) (d + 1) (am_po am_cI sw) _ 0 [.ref 58, .int x1, .int x2, .int x3, .int x4, .null] [] (am_hp sw s)
  refine sm_call (cvf := am_cI) 2 2 [.ref 58, .int x1, .int x2, .int x3, .int x4, .null] [.int x1, .ref 58] sw s 178 [.ref 58, .int x1] [] (fun _ => rfl) rfl (fun _ _ e9 => r_X12_isOrder (d + 0) sw _ _ _ _ e9) am_po20 (fun v2 s2 => ?_)
  refine sm_br 1 58 8 [.ref 58, .int x1, .int x2, .int x3, .int x4, .null] [] (am_hp sw s2) (fun _ => rfl) (fun _ => ?_) (fun _ => ?_)
  · exact sm_ret 1 59 [.ref 58, .int x1, .int x2, .int x3, .int x4, .null] [.int (-1)] (am_hp sw s2) (some (.int (-1))) (fun _ => rfl) rfl (fun _ _ h => h)
  · refine sm_iald 3 13 [.ref 58, .int x1, .int x2, .int x3, .int x4, .null] [] (am_hp sw s2) (i := x1) (c := 111) (fun _ => rfl) rfl rfl rfl rfl ?_
    refine sm_br 1 17 58 [.ref 58, .int x1, .int x2, .int x3, .int x4, .null] [] (am_hp sw s2) (fun _ => rfl) (fun _ => ?_) (fun _ => ?_)
    · refine sm_iald 3 22 [.ref 58, .int x1, .int x2, .int x3, .int x4, .null] [] (am_hp sw s2) (i := x1) (c := 113) (fun _ => rfl) rfl rfl rfl rfl ?_
      refine sm_br 2 58 27 [.ref 58, .int x1, .int x2, .int x3, .int x4, .null] [] (am_hp sw s2) (fun _ => rfl) (fun _ => ?_) (fun _ => ?_)
      · exact sm_ret 1 59 [.ref 58, .int x1, .int x2, .int x3, .int x4, .null] [.int (-1)] (am_hp sw s2) (some (.int (-1))) (fun _ => rfl) rfl (fun _ _ h => h)
      · refine sm_br 3 58 32 [.ref 58, .int x1, .int x2, .int x3, .int x4, .null] [] (am_hp sw s2) (fun _ => rfl) (fun _ => ?_) (fun _ => ?_)
        · exact sm_ret 1 59 [.ref 58, .int x1, .int x2, .int x3, .int x4, .null] [.int (-1)] (am_hp sw s2) (some (.int (-1))) (fun _ => rfl) rfl (fun _ _ h => h)
        · refine sm_br 3 58 38 [.ref 58, .int x1, .int x2, .int x3, .int x4, .null] [] (am_hp sw s2) (fun _ => rfl) (fun _ => ?_) (fun _ => ?_)
          · exact sm_ret 1 59 [.ref 58, .int x1, .int x2, .int x3, .int x4, .null] [.int (-1)] (am_hp sw s2) (some (.int (-1))) (fun _ => rfl) rfl (fun _ _ h => h)
          · refine sm_call (cvf := am_cI) 2 40 [.ref 58, .int x1, .int x2, .int x3, .int x4, .null] [.int x3, .ref 58] sw s2 155 [.ref 58, .int x3] [] (fun _ => rfl) rfl (fun _ _ e9 => r_X12_isKind (d + 0) sw _ _ _ _ e9) am_po20 (fun v40 s40 => ?_)
            refine sm_br 1 58 46 [.ref 58, .int x1, .int x2, .int x3, .int x4, .null] [] (am_hp sw s40) (fun _ => rfl) (fun _ => ?_) (fun _ => ?_)
            · exact sm_ret 1 59 [.ref 58, .int x1, .int x2, .int x3, .int x4, .null] [.int (-1)] (am_hp sw s40) (some (.int (-1))) (fun _ => rfl) rfl (fun _ _ h => h)
            · refine sm_br 3 58 52 [.ref 58, .int x1, .int x2, .int x3, .int x4, .null] [] (am_hp sw s40) (fun _ => rfl) (fun _ => ?_) (fun _ => ?_)
              · exact sm_ret 1 59 [.ref 58, .int x1, .int x2, .int x3, .int x4, .null] [.int (-1)] (am_hp sw s40) (some (.int (-1))) (fun _ => rfl) rfl (fun _ _ h => h)
              · refine sm_br 3 58 60 [.ref 58, .int x1, .int x2, .int x3, .int x4, .null] [] (am_hp sw s40) (fun _ => rfl) (fun _ => ?_) (fun _ => ?_)
                · exact sm_ret 1 59 [.ref 58, .int x1, .int x2, .int x3, .int x4, .null] [.int (-1)] (am_hp sw s40) (some (.int (-1))) (fun _ => rfl) rfl (fun _ _ h => h)
                · refine sm_iald 6 68 [.ref 58, .int x1, .int x2, .int x3, .int x4, .null] [.int (4 * x1)] (am_hp sw s40) (i := x1) (c := 113) (fun _ => rfl) rfl rfl rfl rfl ?_
                  refine sm_iast 6 79 [.ref 58, .int x1, .int x2, .int x3, .int x4, .int ((4 * x1) + (s40.1 113 (Int32.toNatClampNeg x1)))] [] sw s40 (i := ((4 * x1) + (s40.1 113 (Int32.toNatClampNeg x1)))) (x := x2) (c := 114) (fun _ => rfl) rfl rfl rfl ?_
                  refine sm_iast 4 87 [.ref 58, .int x1, .int x2, .int x3, .int x4, .int ((4 * x1) + (s40.1 113 (Int32.toNatClampNeg x1)))] [] sw (am_wI s40 114 (Int32.toNatClampNeg ((4 * x1) + (s40.1 113 (Int32.toNatClampNeg x1)))) x2) (i := ((4 * x1) + (s40.1 113 (Int32.toNatClampNeg x1)))) (x := x3) (c := 115) (fun _ => rfl) rfl rfl rfl ?_
                  refine sm_iast 4 96 [.ref 58, .int x1, .int x2, .int x3, .int x4, .int ((4 * x1) + (s40.1 113 (Int32.toNatClampNeg x1)))] [] sw (am_wI (am_wI s40 114 (Int32.toNatClampNeg ((4 * x1) + (s40.1 113 (Int32.toNatClampNeg x1)))) x2) 115 (Int32.toNatClampNeg ((4 * x1) + (s40.1 113 (Int32.toNatClampNeg x1)))) x3) (i := ((4 * x1) + (s40.1 113 (Int32.toNatClampNeg x1)))) (x := x4) (c := 116) (fun _ => rfl) rfl rfl rfl ?_
                  refine sm_iald 4 103 [.ref 58, .int x1, .int x2, .int x3, .int x4, .int ((4 * x1) + (s40.1 113 (Int32.toNatClampNeg x1)))] [.int x1, .ref 113] (am_hp sw (am_wI (am_wI (am_wI s40 114 (Int32.toNatClampNeg ((4 * x1) + (s40.1 113 (Int32.toNatClampNeg x1)))) x2) 115 (Int32.toNatClampNeg ((4 * x1) + (s40.1 113 (Int32.toNatClampNeg x1)))) x3) 116 (Int32.toNatClampNeg ((4 * x1) + (s40.1 113 (Int32.toNatClampNeg x1)))) x4)) (i := x1) (c := 113) (fun _ => rfl) rfl rfl rfl rfl ?_
                  refine sm_iast 2 106 [.ref 58, .int x1, .int x2, .int x3, .int x4, .int ((4 * x1) + (s40.1 113 (Int32.toNatClampNeg x1)))] [] sw (am_wI (am_wI (am_wI s40 114 (Int32.toNatClampNeg ((4 * x1) + (s40.1 113 (Int32.toNatClampNeg x1)))) x2) 115 (Int32.toNatClampNeg ((4 * x1) + (s40.1 113 (Int32.toNatClampNeg x1)))) x3) 116 (Int32.toNatClampNeg ((4 * x1) + (s40.1 113 (Int32.toNatClampNeg x1)))) x4) (i := x1) (x := ((s40.1 113 (Int32.toNatClampNeg x1)) + 1)) (c := 113) (fun _ => rfl) rfl rfl rfl ?_
                  refine sm_iald 3 112 [.ref 58, .int x1, .int x2, .int x3, .int x4, .int ((4 * x1) + (s40.1 113 (Int32.toNatClampNeg x1)))] [] (am_hp sw (am_wI (am_wI (am_wI (am_wI s40 114 (Int32.toNatClampNeg ((4 * x1) + (s40.1 113 (Int32.toNatClampNeg x1)))) x2) 115 (Int32.toNatClampNeg ((4 * x1) + (s40.1 113 (Int32.toNatClampNeg x1)))) x3) 116 (Int32.toNatClampNeg ((4 * x1) + (s40.1 113 (Int32.toNatClampNeg x1)))) x4) 113 (Int32.toNatClampNeg x1) ((s40.1 113 (Int32.toNatClampNeg x1)) + 1))) (i := x1) (c := 113) (fun _ => rfl) rfl rfl rfl rfl ?_
                  exact sm_ret 2 115 [.ref 58, .int x1, .int x2, .int x3, .int x4, .int ((4 * x1) + (s40.1 113 (Int32.toNatClampNeg x1)))] [.int (((am_wI (am_wI (am_wI (am_wI s40 114 (Int32.toNatClampNeg ((4 * x1) + (s40.1 113 (Int32.toNatClampNeg x1)))) x2) 115 (Int32.toNatClampNeg ((4 * x1) + (s40.1 113 (Int32.toNatClampNeg x1)))) x3) 116 (Int32.toNatClampNeg ((4 * x1) + (s40.1 113 (Int32.toNatClampNeg x1)))) x4) 113 (Int32.toNatClampNeg x1) ((s40.1 113 (Int32.toNatClampNeg x1)) + 1)).1 113 (Int32.toNatClampNeg x1)) - 1)] (am_hp sw (am_wI (am_wI (am_wI (am_wI s40 114 (Int32.toNatClampNeg ((4 * x1) + (s40.1 113 (Int32.toNatClampNeg x1)))) x2) 115 (Int32.toNatClampNeg ((4 * x1) + (s40.1 113 (Int32.toNatClampNeg x1)))) x3) 116 (Int32.toNatClampNeg ((4 * x1) + (s40.1 113 (Int32.toNatClampNeg x1)))) x4) 113 (Int32.toNatClampNeg x1) ((s40.1 113 (Int32.toNatClampNeg x1)) + 1))) (some (.int (((am_wI (am_wI (am_wI (am_wI s40 114 (Int32.toNatClampNeg ((4 * x1) + (s40.1 113 (Int32.toNatClampNeg x1)))) x2) 115 (Int32.toNatClampNeg ((4 * x1) + (s40.1 113 (Int32.toNatClampNeg x1)))) x3) 116 (Int32.toNatClampNeg ((4 * x1) + (s40.1 113 (Int32.toNatClampNeg x1)))) x4) 113 (Int32.toNatClampNeg x1) ((s40.1 113 (Int32.toNatClampNeg x1)) + 1)).1 113 (Int32.toNatClampNeg x1)) - 1))) (fun _ => rfl) rfl (fun _ _ h => h)
    · exact sm_ret 1 59 [.ref 58, .int x1, .int x2, .int x3, .int x4, .null] [.int (-1)] (am_hp sw s2) (some (.int (-1))) (fun _ => rfl) rfl (fun _ _ h => h)

def f_X12_counts_L2 : Nat → Int32 → am_S → Option ((Unit × am_S) ⊕ ((Unit) × am_S))
  | 0, _, _ => none
  | n + 1, x1, s => if x1 < 48 then (am_gu (am_in x1 48) (f_X12_counts_L2 n (x1 + 1) (am_wI s 117 (Int32.toNatClampNeg x1) (0)))) else (some (.inr ((), s)))
def f_X12_counts_L23 : Nat → Int32 → am_S → Option ((Unit × am_S) ⊕ ((Unit) × am_S))
  | 0, _, _ => none
  | n + 1, x1, s => if x1 < (s.1 58 66) then (am_gu (am_in x1 400) (am_jn (fun (p77 : am_S) => f_X12_counts_L23 n (x1 + 1) p77) (fun j77 => if (s.1 106 (Int32.toNatClampNeg x1)) = (-1) then (am_bd (f_X12_kindOf s x1) (fun v49 s49 => am_bd (f_X12_colourOf s49 x1) (fun v55 s55 => am_jn (fun (p71 : Int32 × am_S) => am_gu (am_in ((6 * v49) + p71.1) 48) (am_gu (am_in ((6 * v49) + p71.1) 48) (j77 (am_wI p71.2 117 (Int32.toNatClampNeg ((6 * v49) + p71.1)) ((p71.2.1 117 (Int32.toNatClampNeg ((6 * v49) + p71.1))) + 1))))) (fun j71 => if v55 = (-1) then (j71 (5, s55)) else (am_bd (f_X12_colourOf s55 x1) (fun v68 s68 => j71 (v68, s68))))))) else (j77 s)))) else (some (.inr ((), s)))
def f_X12_counts (s : am_S) : Option (Unit × am_S) := am_lp (fun y => y) (f_X12_counts_L2 am_FU (0) s) (fun (_ : Unit) s2 => am_lp (fun y => y) (f_X12_counts_L23 am_FU (0) s2) (fun (_ : Unit) s23 => some ((), s23)))
set_option maxRecDepth 20000 in
theorem l_X12_counts_2 (d : Nat) (sw : Bool) : ∀ (n : Nat) (x1 : Int32) (s : am_S), am_Sm tb_X12_counts 12 false none none (d + 1) (am_pl am_cU sw (fun (v9 : Unit) s9 r h9 => am_Ex tb_X12_counts 12 false none none (d + 1) r h9 21 [.ref 58, .null] [] (am_hp sw s9))) (f_X12_counts_L2 n x1 s) 2 [.ref 58, .int x1] [] (am_hp sw s) := by
  intro n
  induction n with
  | zero => intro x1 s; exact sm_no
  | succ n ih =>
    intro x1 s
    rw [f_X12_counts_L2]
    refine sm_br 3 8 21 [.ref 58, .int x1] [] (am_hp sw s) (fun _ => rfl) (fun _ => ?_) (fun _ => ?_)
    · refine sm_iast 4 14 [.ref 58, .int x1] [] sw s (i := x1) (x := (0)) (c := 117) (fun _ => rfl) rfl rfl rfl ?_
      refine sm_go 2 2 [.ref 58, .int (x1 + 1)] [] (am_hp sw (am_wI s 117 (Int32.toNatClampNeg x1) (0))) (fun _ => rfl) ?_
      exact ih (x1 + 1) (am_wI s 117 (Int32.toNatClampNeg x1) (0))
    · refine sm_fg [.ref 58, .null] ⟨Or.inr rfl, Or.inl rfl, trivial⟩ ?_
      exact sm_ex (fun _ _ h => h.2)

set_option maxRecDepth 20000 in
theorem l_X12_counts_23 (d : Nat) (sw : Bool) : ∀ (n : Nat) (x1 : Int32) (s : am_S), am_Sm tb_X12_counts 12 false none none (d + 1) (am_pl am_cU sw (fun (v9 : Unit) s9 r h9 => am_Ex tb_X12_counts 12 false none none (d + 1) r h9 83 [.null, .null] [] (am_hp sw s9))) (f_X12_counts_L23 n x1 s) 23 [.ref 58, .int x1] [] (am_hp sw s) := by
  intro n
  induction n with
  | zero => intro x1 s; exact sm_no
  | succ n ih =>
    intro x1 s
    rw [f_X12_counts_L23]
    refine sm_br 4 31 83 [.ref 58, .int x1] [] (am_hp sw s) (fun _ => rfl) (fun _ => ?_) (fun _ => ?_)
    · refine sm_iald 3 36 [.ref 58, .int x1] [] (am_hp sw s) (i := x1) (c := 106) (fun _ => rfl) rfl rfl rfl rfl ?_
      refine sm_go 1 38 [.ref 58, .int x1] [.int (-1), .int (s.1 106 (Int32.toNatClampNeg x1))] (am_hp sw s) (fun _ => rfl) ?_
      refine sm_jn 77 (fun p77 => [.ref 58, .int x1]) (fun p77 => []) (fun p77 => (am_hp sw p77)) (fun p77 => ?_) (fun j77 hj77 => ?_)
      · refine sm_go 2 23 [.ref 58, .int (x1 + 1)] [] (am_hp sw p77) (fun _ => rfl) ?_
        exact ih (x1 + 1) p77
      refine sm_br 1 41 77 [.ref 58, .int x1] [] (am_hp sw s) (fun _ => rfl) (fun _ => ?_) (fun _ => ?_)
      · refine sm_call (cvf := am_cI) 5 49 [.ref 58, .int x1] [.int x1, .ref 58, .int (6), .ref 117] sw s 175 [.ref 58, .int x1] [.int (6), .ref 117] (fun _ => rfl) rfl (fun _ _ e9 => r_X12_kindOf (d + 0) sw _ _ _ _ e9) am_pl20 (fun v49 s49 => ?_)
        refine sm_call (cvf := am_cI) 3 55 [.ref 58, .int x1] [.int x1, .ref 58, .int (6 * v49), .ref 117] sw s49 176 [.ref 58, .int x1] [.int (6 * v49), .ref 117] (fun _ => rfl) rfl (fun _ _ e9 => r_X12_colourOf (d + 0) sw _ _ _ _ e9) am_pl20 (fun v55 s55 => ?_)
        refine sm_go 1 59 [.ref 58, .int x1] [.int (-1), .int v55, .int (6 * v49), .ref 117] (am_hp sw s55) (fun _ => rfl) ?_
        refine sm_jn 71 (fun p71 => [.ref 58, .int x1]) (fun p71 => [.int p71.1, .int (6 * v49), .ref 117]) (fun p71 => (am_hp sw p71.2)) (fun p71 => ?_) (fun j71 hj71 => ?_)
        · refine sm_iald 2 73 [.ref 58, .int x1] [.int ((6 * v49) + p71.1), .ref 117] (am_hp sw p71.2) (i := ((6 * v49) + p71.1)) (c := 117) (fun _ => rfl) rfl rfl rfl rfl ?_
          refine sm_iast 2 76 [.ref 58, .int x1] [] sw p71.2 (i := ((6 * v49) + p71.1)) (x := ((p71.2.1 117 (Int32.toNatClampNeg ((6 * v49) + p71.1))) + 1)) (c := 117) (fun _ => rfl) rfl rfl rfl ?_
          exact hj77 (am_wI p71.2 117 (Int32.toNatClampNeg ((6 * v49) + p71.1)) ((p71.2.1 117 (Int32.toNatClampNeg ((6 * v49) + p71.1))) + 1))
        refine sm_br 1 62 66 [.ref 58, .int x1] [.int (6 * v49), .ref 117] (am_hp sw s55) (fun _ => rfl) (fun _ => ?_) (fun _ => ?_)
        · refine sm_go 2 71 [.ref 58, .int x1] [.int (5), .int (6 * v49), .ref 117] (am_hp sw s55) (fun _ => rfl) ?_
          exact hj71 (5, s55)
        · refine sm_call (cvf := am_cI) 2 68 [.ref 58, .int x1] [.int x1, .ref 58, .int (6 * v49), .ref 117] sw s55 176 [.ref 58, .int x1] [.int (6 * v49), .ref 117] (fun _ => rfl) rfl (fun _ _ e9 => r_X12_colourOf (d + 0) sw _ _ _ _ e9) am_pl20 (fun v68 s68 => ?_)
          exact hj71 (v68, s68)
      · exact hj77 s
    · refine sm_fg [.null, .null] ⟨Or.inl rfl, Or.inl rfl, trivial⟩ ?_
      exact sm_ex (fun _ _ h => h.2)

set_option maxRecDepth 20000 in
theorem r_X12_counts (d : Nat) (sw : Bool) (s s' : am_S) (v : Unit) (e : f_X12_counts s = some (v, s')) : am_Run (d + 2) 180 [.ref 58] (am_hp sw s) (am_cU v) (am_hp sw s') := by
  refine am_Run.of (M := mt_X12_counts) (cvf := am_cU) (X := f_X12_counts s) rfl rfl rfl (by simp) ?_ e
  unfold f_X12_counts
  show am_Sm tb_X12_counts 12 false none none (d + 1) (am_po am_cU sw) _ 0 [.ref 58, .null] [] (am_hp sw s)
  refine sm_go 2 2 [.ref 58, .int (0)] [] (am_hp sw s) (fun _ => rfl) ?_
  refine sm_lp 21 (fun _y => [.ref 58, .null]) (l_X12_counts_2 d sw am_FU (0) s) (fun _ _ _ h => h) am_po20 (fun _y s2 => ?_)
  refine sm_go 2 23 [.ref 58, .int (0)] [] (am_hp sw s2) (fun _ => rfl) ?_
  refine sm_lp 83 (fun _y => [.null, .null]) (l_X12_counts_23 d sw am_FU (0) s2) (fun _ _ _ h => h) am_po20 (fun _y s23 => ?_)
  exact sm_ret 0 83 [.null, .null] [] (am_hp sw s23) none (fun _ => rfl) rfl (fun _ _ h => h)

def f_X12_takesOf_L6 : Nat → Int32 → Int32 → Int32 → Int32 → am_S → Option ((Int32 × am_S) ⊕ ((Int32) × am_S))
  | 0, _, _, _, _, _ => none
  | n + 1, x1, x2, x4, x5, s => if x5 < 6 then (am_jn (fun (p87 : Int32 × am_S) => f_X12_takesOf_L6 n x1 x2 p87.1 (x5 + 1) p87.2) (fun j87 => am_jn (fun (p27 : am_S) => am_gu (am_in ((6 * x1) + x5) 48) (am_jn (fun (p61 : Int32 × am_S) => am_gu (am_in ((6 * x1) + x5) 48) (am_gu (am_in ((6 * x1) + x5) 48) (j87 ((x4 - p61.1), (am_wI p61.2 118 (Int32.toNatClampNeg ((6 * x1) + x5)) ((p61.2.1 118 (Int32.toNatClampNeg ((6 * x1) + x5))) - p61.1)))))) (fun j61 => if (p27.1 118 (Int32.toNatClampNeg ((6 * x1) + x5))) < x4 then (am_gu (am_in ((6 * x1) + x5) 48) (j61 ((p27.1 118 (Int32.toNatClampNeg ((6 * x1) + x5))), p27))) else (j61 (x4, p27))))) (fun j27 => if x2 = (-1) then (j27 s) else (if x5 = x2 then (j27 s) else (j87 (x4, s)))))) else (some (.inr (x4, s)))
def f_X12_takesOf (s : am_S) (x1 : Int32) (x2 : Int32) (x3 : Int32) : Option (Int32 × am_S) := am_lp (fun y => y) (f_X12_takesOf_L6 am_FU x1 x2 x3 (0) s) (fun y6 s6 => if y6 = 0 then (some ((1), s6)) else (some ((0), s6)))
set_option maxRecDepth 20000 in
theorem l_X12_takesOf_6 (d : Nat) (sw : Bool) : ∀ (n : Nat) (x1 : Int32) (x2 : Int32) (x4 : Int32) (x5 : Int32) (s : am_S), am_Sm tb_X12_takesOf 12 false none (some .boolean) (d + 0) (am_pl am_cI sw (fun (v9 : Int32) s9 r h9 => am_Ex tb_X12_takesOf 12 false none (some .boolean) (d + 0) r h9 93 [.null, .null, .null, .null, .int v9, .null, .null] [] (am_hp sw s9))) (f_X12_takesOf_L6 n x1 x2 x4 x5 s) 6 [.ref 58, .int x1, .int x2, .null, .int x4, .int x5, .null] [] (am_hp sw s) := by
  intro n
  induction n with
  | zero => intro x1 x2 x4 x5 s; exact sm_no
  | succ n ih =>
    intro x1 x2 x4 x5 s
    rw [f_X12_takesOf_L6]
    refine sm_br 3 13 93 [.ref 58, .int x1, .int x2, .null, .int x4, .int x5, .null] [] (am_hp sw s) (fun _ => rfl) (fun _ => ?_) (fun _ => ?_)
    · refine sm_go 2 15 [.ref 58, .int x1, .int x2, .null, .int x4, .int x5, .null] [.int (-1), .int x2] (am_hp sw s) (fun _ => rfl) ?_
      refine sm_jn 87 (fun p87 => [.ref 58, .int x1, .int x2, .null, .int p87.1, .int x5, .null]) (fun p87 => []) (fun p87 => (am_hp sw p87.2)) (fun p87 => ?_) (fun j87 hj87 => ?_)
      · refine sm_go 2 6 [.ref 58, .int x1, .int x2, .null, .int p87.1, .int (x5 + 1), .null] [] (am_hp sw p87.2) (fun _ => rfl) ?_
        exact ih x1 x2 p87.1 (x5 + 1) p87.2
      refine sm_jn 27 (fun p27 => [.ref 58, .int x1, .int x2, .null, .int x4, .int x5, .null]) (fun p27 => []) (fun p27 => (am_hp sw p27)) (fun p27 => ?_) (fun j27 hj27 => ?_)
      · refine sm_iald 7 38 [.ref 58, .int x1, .int x2, .null, .int x4, .int x5, .null] [] (am_hp sw p27) (i := ((6 * x1) + x5)) (c := 118) (fun _ => rfl) rfl rfl rfl rfl ?_
        refine sm_go 1 41 [.ref 58, .int x1, .int x2, .null, .int x4, .int x5, .null] [.int x4, .int (p27.1 118 (Int32.toNatClampNeg ((6 * x1) + x5)))] (am_hp sw p27) (fun _ => rfl) ?_
        refine sm_jn 61 (fun p61 => [.ref 58, .int x1, .int x2, .null, .int x4, .int x5, .null]) (fun p61 => [.int p61.1]) (fun p61 => (am_hp sw p61.2)) (fun p61 => ?_) (fun j61 hj61 => ?_)
        · refine sm_iald 9 75 [.ref 58, .int x1, .int x2, .null, .int x4, .int x5, .int p61.1] [.int ((6 * x1) + x5), .ref 118] (am_hp sw p61.2) (i := ((6 * x1) + x5)) (c := 118) (fun _ => rfl) rfl rfl rfl rfl ?_
          refine sm_iast 2 79 [.ref 58, .int x1, .int x2, .null, .int x4, .int x5, .int p61.1] [] sw p61.2 (i := ((6 * x1) + x5)) (x := ((p61.2.1 118 (Int32.toNatClampNeg ((6 * x1) + x5))) - p61.1)) (c := 118) (fun _ => rfl) rfl rfl rfl ?_
          refine sm_go 4 87 [.ref 58, .int x1, .int x2, .null, .int (x4 - p61.1), .int x5, .int p61.1] [] (am_hp sw (am_wI p61.2 118 (Int32.toNatClampNeg ((6 * x1) + x5)) ((p61.2.1 118 (Int32.toNatClampNeg ((6 * x1) + x5))) - p61.1))) (fun _ => rfl) ?_
          refine sm_fg [.ref 58, .int x1, .int x2, .null, .int (x4 - p61.1), .int x5, .null] ⟨Or.inr rfl, Or.inr rfl, Or.inr rfl, Or.inl rfl, Or.inr rfl, Or.inr rfl, Or.inl rfl, trivial⟩ ?_
          exact hj87 ((x4 - p61.1), (am_wI p61.2 118 (Int32.toNatClampNeg ((6 * x1) + x5)) ((p61.2.1 118 (Int32.toNatClampNeg ((6 * x1) + x5))) - p61.1)))
        refine sm_br 1 44 59 [.ref 58, .int x1, .int x2, .null, .int x4, .int x5, .null] [] (am_hp sw p27) (fun _ => rfl) (fun _ => ?_) (fun _ => ?_)
        · refine sm_iald 7 55 [.ref 58, .int x1, .int x2, .null, .int x4, .int x5, .null] [] (am_hp sw p27) (i := ((6 * x1) + x5)) (c := 118) (fun _ => rfl) rfl rfl rfl rfl ?_
          refine sm_go 1 61 [.ref 58, .int x1, .int x2, .null, .int x4, .int x5, .null] [.int (p27.1 118 (Int32.toNatClampNeg ((6 * x1) + x5)))] (am_hp sw p27) (fun _ => rfl) ?_
          exact hj61 ((p27.1 118 (Int32.toNatClampNeg ((6 * x1) + x5))), p27)
        · refine sm_go 1 61 [.ref 58, .int x1, .int x2, .null, .int x4, .int x5, .null] [.int x4] (am_hp sw p27) (fun _ => rfl) ?_
          exact hj61 (x4, p27)
      refine sm_br 1 27 18 [.ref 58, .int x1, .int x2, .null, .int x4, .int x5, .null] [] (am_hp sw s) (fun _ => rfl) (fun _ => ?_) (fun _ => ?_)
      · exact hj27 s
      · refine sm_br 3 27 24 [.ref 58, .int x1, .int x2, .null, .int x4, .int x5, .null] [] (am_hp sw s) (fun _ => rfl) (fun _ => ?_) (fun _ => ?_)
        · exact hj27 s
        · refine sm_go 1 87 [.ref 58, .int x1, .int x2, .null, .int x4, .int x5, .null] [] (am_hp sw s) (fun _ => rfl) ?_
          exact hj87 (x4, s)
    · refine sm_fg [.null, .null, .null, .null, .int x4, .null, .null] ⟨Or.inl rfl, Or.inl rfl, Or.inl rfl, Or.inl rfl, Or.inr rfl, Or.inl rfl, Or.inl rfl, trivial⟩ ?_
      exact sm_ex (fun _ _ h => h.2)

set_option maxRecDepth 20000 in
theorem r_X12_takesOf (d : Nat) (sw : Bool) (s s' : am_S) (x1 : Int32) (x2 : Int32) (x3 : Int32) (v : Int32) (e : f_X12_takesOf s x1 x2 x3 = some (v, s')) : am_Run (d + 1) 182 [.ref 58, .int x1, .int x2, .int x3] (am_hp sw s) (am_cI v) (am_hp sw s') := by
  refine am_Run.of (M := mt_X12_takesOf) (cvf := am_cI) (X := f_X12_takesOf s x1 x2 x3) rfl rfl rfl (by simp) ?_ e
  unfold f_X12_takesOf
  show am_Sm tb_X12_takesOf 12 false none (some .boolean) (d + 0) (am_po am_cI sw) _ 0 [.ref 58, .int x1, .int x2, .int x3, .null, .null, .null] [] (am_hp sw s)
  refine sm_go 4 6 [.ref 58, .int x1, .int x2, .int x3, .int x3, .int (0), .null] [] (am_hp sw s) (fun _ => rfl) ?_
  refine sm_fg [.ref 58, .int x1, .int x2, .null, .int x3, .int (0), .null] ⟨Or.inr rfl, Or.inr rfl, Or.inr rfl, Or.inl rfl, Or.inr rfl, Or.inr rfl, Or.inl rfl, trivial⟩ ?_
  refine sm_lp 93 (fun y6 => [.null, .null, .null, .null, .int y6, .null, .null]) (l_X12_takesOf_6 d sw am_FU x1 x2 x3 (0) s) (fun _ _ _ h => h) am_po20 (fun y6 s6 => ?_)
  refine sm_br 2 98 102 [.null, .null, .null, .null, .int y6, .null, .null] [] (am_hp sw s6) (fun _ => rfl) (fun _ => ?_) (fun _ => ?_)
  · exact sm_ret 2 103 [.null, .null, .null, .null, .int y6, .null, .null] [.int (1)] (am_hp sw s6) (some (.int (1))) (fun _ => rfl) rfl (fun _ _ h => h)
  · exact sm_ret 1 103 [.null, .null, .null, .null, .int y6, .null, .null] [.int (0)] (am_hp sw s6) (some (.int (0))) (fun _ => rfl) rfl (fun _ _ h => h)

def f_X12_fills_L2 : Nat → Int32 → Int32 → am_S → Option ((Int32 × am_S) ⊕ ((Unit) × am_S))
  | 0, _, _, _ => none
  | n + 1, x1, x2, s => if x2 < 48 then (am_gu (am_in x2 48) (am_gu (am_in x2 48) (f_X12_fills_L2 n x1 (x2 + 1) (am_wI s 118 (Int32.toNatClampNeg x2) (s.1 117 (Int32.toNatClampNeg x2)))))) else (some (.inr ((), s)))
def f_X12_fills_L70 : Nat → Int32 → Int32 → Int32 → Int32 → am_S → Option ((Int32 × am_S) ⊕ ((Unit) × am_S))
  | 0, _, _, _, _, _ => none
  | n + 1, x1, x2, x3, x4, s => am_gu (am_in x3 8) (if x4 < ((4 * x3) + (s.1 113 (Int32.toNatClampNeg x3))) then (am_gu (am_in x4 32) (am_jn (fun (p101 : Int32 × am_S) => am_jn (fun (p111 : Int32 × am_S) => am_jn (fun (p144 : am_S) => f_X12_fills_L70 n x1 x2 x3 (x4 + 1) p144) (fun j144 => if p101.1 = p111.1 then (am_gu (am_in x4 32) (am_gu (am_in x4 32) (am_gu (am_in x4 32) (am_bd (f_X12_takesOf p111.2 (p111.2.1 115 (Int32.toNatClampNeg x4)) (p111.2.1 116 (Int32.toNatClampNeg x4)) (p111.2.1 114 (Int32.toNatClampNeg x4))) (fun v136 s136 => if v136 = 0 then (some (.inl ((0), s136))) else (j144 s136)))))) else (j144 p111.2))) (fun j111 => if x2 = 1 then (j111 (1, p101.2)) else (j111 (0, p101.2)))) (fun j101 => if (s.1 116 (Int32.toNatClampNeg x4)) = (-1) then (j101 (1, s)) else (j101 (0, s))))) else (some (.inr ((), s))))
def f_X12_fills_L35 : Nat → Int32 → Int32 → Int32 → am_S → Option ((Int32 × am_S) ⊕ ((Unit) × am_S))
  | 0, _, _, _, _ => none
  | n + 1, x1, x2, x3, s => if x3 < (s.1 58 74) then (am_jn (fun (p150 : am_S) => f_X12_fills_L35 n x1 x2 (x3 + 1) p150) (fun j150 => if ((x1 >>> (x3 &&& 31)) &&& 1) = 0 then (j150 s) else (am_gu (am_in x3 8) (if (s.1 111 (Int32.toNatClampNeg x3)) = 0 then (am_lp Sum.inl (f_X12_fills_L70 am_FU x1 x2 x3 (4 * x3) s) (fun (_ : Unit) s70 => j150 s70)) else (some (.inl ((0), s))))))) else (some (.inr ((), s)))
def f_X12_fills_L28 : Nat → Int32 → Int32 → am_S → Option ((Int32 × am_S) ⊕ ((Unit) × am_S))
  | 0, _, _, _ => none
  | n + 1, x1, x2, s => if x2 < 2 then (am_lp Sum.inl (f_X12_fills_L35 am_FU x1 x2 (0) s) (fun (_ : Unit) s35 => f_X12_fills_L28 n x1 (x2 + 1) s35)) else (some (.inr ((), s)))
def f_X12_fills (s : am_S) (x1 : Int32) : Option (Int32 × am_S) := am_lp (fun y => y) (f_X12_fills_L2 am_FU x1 (0) s) (fun (_ : Unit) s2 => am_lp (fun y => y) (f_X12_fills_L28 am_FU x1 (0) s2) (fun (_ : Unit) s28 => some ((1), s28)))
set_option maxRecDepth 20000 in
theorem l_X12_fills_2 (d : Nat) (sw : Bool) : ∀ (n : Nat) (x1 : Int32) (x2 : Int32) (s : am_S), am_Sm tb_X12_fills 12 false none (some .boolean) (d + 1) (am_pl am_cI sw (fun (v9 : Unit) s9 r h9 => am_Ex tb_X12_fills 12 false none (some .boolean) (d + 1) r h9 26 [.ref 58, .int x1, .null, .null, .null] [] (am_hp sw s9))) (f_X12_fills_L2 n x1 x2 s) 2 [.ref 58, .int x1, .int x2, .null, .null] [] (am_hp sw s) := by
  intro n
  induction n with
  | zero => intro x1 x2 s; exact sm_no
  | succ n ih =>
    intro x1 x2 s
    rw [f_X12_fills_L2]
    refine sm_br 3 8 26 [.ref 58, .int x1, .int x2, .null, .null] [] (am_hp sw s) (fun _ => rfl) (fun _ => ?_) (fun _ => ?_)
    · refine sm_iald 6 18 [.ref 58, .int x1, .int x2, .null, .null] [.int x2, .ref 118] (am_hp sw s) (i := x2) (c := 117) (fun _ => rfl) rfl rfl rfl rfl ?_
      refine sm_iast 0 19 [.ref 58, .int x1, .int x2, .null, .null] [] sw s (i := x2) (x := (s.1 117 (Int32.toNatClampNeg x2))) (c := 118) (fun _ => rfl) rfl rfl rfl ?_
      refine sm_go 2 2 [.ref 58, .int x1, .int (x2 + 1), .null, .null] [] (am_hp sw (am_wI s 118 (Int32.toNatClampNeg x2) (s.1 117 (Int32.toNatClampNeg x2)))) (fun _ => rfl) ?_
      exact ih x1 (x2 + 1) (am_wI s 118 (Int32.toNatClampNeg x2) (s.1 117 (Int32.toNatClampNeg x2)))
    · refine sm_fg [.ref 58, .int x1, .null, .null, .null] ⟨Or.inr rfl, Or.inr rfl, Or.inl rfl, Or.inl rfl, Or.inl rfl, trivial⟩ ?_
      exact sm_ex (fun _ _ h => h.2)

set_option maxRecDepth 20000 in
theorem l_X12_fills_70 (d : Nat) (sw : Bool) : ∀ (n : Nat) (x1 : Int32) (x2 : Int32) (x3 : Int32) (x4 : Int32) (s : am_S), am_Sm tb_X12_fills 12 false none (some .boolean) (d + 1) (am_pl am_cI sw (fun (v9 : Unit) s9 r h9 => am_Ex tb_X12_fills 12 false none (some .boolean) (d + 1) r h9 150 [.ref 58, .int x1, .int x2, .int x3, .null] [] (am_hp sw s9))) (f_X12_fills_L70 n x1 x2 x3 x4 s) 70 [.ref 58, .int x1, .int x2, .int x3, .int x4] [] (am_hp sw s) := by
  intro n
  induction n with
  | zero => intro x1 x2 x3 x4 s; exact sm_no
  | succ n ih =>
    intro x1 x2 x3 x4 s
    rw [f_X12_fills_L70]
    refine sm_iald 7 80 [.ref 58, .int x1, .int x2, .int x3, .int x4] [.int (4 * x3), .int x4] (am_hp sw s) (i := x3) (c := 113) (fun _ => rfl) rfl rfl rfl rfl ?_
    refine sm_br 2 85 150 [.ref 58, .int x1, .int x2, .int x3, .int x4] [] (am_hp sw s) (fun _ => rfl) (fun _ => ?_) (fun _ => ?_)
    · refine sm_iald 3 91 [.ref 58, .int x1, .int x2, .int x3, .int x4] [] (am_hp sw s) (i := x4) (c := 116) (fun _ => rfl) rfl rfl rfl rfl ?_
      refine sm_go 1 93 [.ref 58, .int x1, .int x2, .int x3, .int x4] [.int (-1), .int (s.1 116 (Int32.toNatClampNeg x4))] (am_hp sw s) (fun _ => rfl) ?_
      refine sm_jn 101 (fun p101 => [.ref 58, .int x1, .int x2, .int x3, .int x4]) (fun p101 => [.int p101.1]) (fun p101 => (am_hp sw p101.2)) (fun p101 => ?_) (fun j101 hj101 => ?_)
      · refine sm_go 2 103 [.ref 58, .int x1, .int x2, .int x3, .int x4] [.int (1), .int x2, .int p101.1] (am_hp sw p101.2) (fun _ => rfl) ?_
        refine sm_jn 111 (fun p111 => [.ref 58, .int x1, .int x2, .int x3, .int x4]) (fun p111 => [.int p111.1, .int p101.1]) (fun p111 => (am_hp sw p111.2)) (fun p111 => ?_) (fun j111 hj111 => ?_)
        · refine sm_jn 144 (fun p144 => [.ref 58, .int x1, .int x2, .int x3, .int x4]) (fun p144 => []) (fun p144 => (am_hp sw p144)) (fun p144 => ?_) (fun j144 hj144 => ?_)
          · refine sm_go 2 70 [.ref 58, .int x1, .int x2, .int x3, .int (x4 + 1)] [] (am_hp sw p144) (fun _ => rfl) ?_
            exact ih x1 x2 x3 (x4 + 1) p144
          refine sm_br 1 114 144 [.ref 58, .int x1, .int x2, .int x3, .int x4] [] (am_hp sw p111.2) (fun _ => rfl) (fun _ => ?_) (fun _ => ?_)
          · refine sm_iald 4 121 [.ref 58, .int x1, .int x2, .int x3, .int x4] [.ref 58] (am_hp sw p111.2) (i := x4) (c := 115) (fun _ => rfl) rfl rfl rfl rfl ?_
            refine sm_iald 3 128 [.ref 58, .int x1, .int x2, .int x3, .int x4] [.int (p111.2.1 115 (Int32.toNatClampNeg x4)), .ref 58] (am_hp sw p111.2) (i := x4) (c := 116) (fun _ => rfl) rfl rfl rfl rfl ?_
            refine sm_iald 3 135 [.ref 58, .int x1, .int x2, .int x3, .int x4] [.int (p111.2.1 116 (Int32.toNatClampNeg x4)), .int (p111.2.1 115 (Int32.toNatClampNeg x4)), .ref 58] (am_hp sw p111.2) (i := x4) (c := 114) (fun _ => rfl) rfl rfl rfl rfl ?_
            refine sm_call (cvf := am_cI) 0 136 [.ref 58, .int x1, .int x2, .int x3, .int x4] [.int (p111.2.1 114 (Int32.toNatClampNeg x4)), .int (p111.2.1 116 (Int32.toNatClampNeg x4)), .int (p111.2.1 115 (Int32.toNatClampNeg x4)), .ref 58] sw p111.2 182 [.ref 58, .int (p111.2.1 115 (Int32.toNatClampNeg x4)), .int (p111.2.1 116 (Int32.toNatClampNeg x4)), .int (p111.2.1 114 (Int32.toNatClampNeg x4))] [] (fun _ => rfl) rfl (fun _ _ e9 => r_X12_takesOf (d + 0) sw _ _ _ _ _ _ e9) am_pl20 (fun v136 s136 => ?_)
            refine sm_br 1 142 144 [.ref 58, .int x1, .int x2, .int x3, .int x4] [] (am_hp sw s136) (fun _ => rfl) (fun _ => ?_) (fun _ => ?_)
            · exact sm_ret 1 143 [.ref 58, .int x1, .int x2, .int x3, .int x4] [.int (0)] (am_hp sw s136) (some (.int (0))) (fun _ => rfl) rfl (fun _ _ h => h)
            · exact hj144 s136
          · exact hj144 p111.2
        refine sm_br 1 106 110 [.ref 58, .int x1, .int x2, .int x3, .int x4] [.int p101.1] (am_hp sw p101.2) (fun _ => rfl) (fun _ => ?_) (fun _ => ?_)
        · refine sm_go 2 111 [.ref 58, .int x1, .int x2, .int x3, .int x4] [.int (1), .int p101.1] (am_hp sw p101.2) (fun _ => rfl) ?_
          exact hj111 (1, p101.2)
        · refine sm_go 1 111 [.ref 58, .int x1, .int x2, .int x3, .int x4] [.int (0), .int p101.1] (am_hp sw p101.2) (fun _ => rfl) ?_
          exact hj111 (0, p101.2)
      refine sm_br 1 96 100 [.ref 58, .int x1, .int x2, .int x3, .int x4] [] (am_hp sw s) (fun _ => rfl) (fun _ => ?_) (fun _ => ?_)
      · refine sm_go 2 101 [.ref 58, .int x1, .int x2, .int x3, .int x4] [.int (1)] (am_hp sw s) (fun _ => rfl) ?_
        exact hj101 (1, s)
      · refine sm_go 1 101 [.ref 58, .int x1, .int x2, .int x3, .int x4] [.int (0)] (am_hp sw s) (fun _ => rfl) ?_
        exact hj101 (0, s)
    · refine sm_fg [.ref 58, .int x1, .int x2, .int x3, .null] ⟨Or.inr rfl, Or.inr rfl, Or.inr rfl, Or.inr rfl, Or.inl rfl, trivial⟩ ?_
      exact sm_ex (fun _ _ h => h.2)

set_option maxRecDepth 20000 in
theorem l_X12_fills_35 (d : Nat) (sw : Bool) : ∀ (n : Nat) (x1 : Int32) (x2 : Int32) (x3 : Int32) (s : am_S), am_Sm tb_X12_fills 12 false none (some .boolean) (d + 1) (am_pl am_cI sw (fun (v9 : Unit) s9 r h9 => am_Ex tb_X12_fills 12 false none (some .boolean) (d + 1) r h9 156 [.ref 58, .int x1, .int x2, .null, .null] [] (am_hp sw s9))) (f_X12_fills_L35 n x1 x2 x3 s) 35 [.ref 58, .int x1, .int x2, .int x3, .null] [] (am_hp sw s) := by
  intro n
  induction n with
  | zero => intro x1 x2 x3 s; exact sm_no
  | succ n ih =>
    intro x1 x2 x3 s
    rw [f_X12_fills_L35]
    refine sm_br 4 43 156 [.ref 58, .int x1, .int x2, .int x3, .null] [] (am_hp sw s) (fun _ => rfl) (fun _ => ?_) (fun _ => ?_)
    · refine sm_go 5 48 [.ref 58, .int x1, .int x2, .int x3, .null] [.int ((x1 >>> (x3 &&& 31)) &&& 1)] (am_hp sw s) (fun _ => rfl) ?_
      refine sm_jn 150 (fun p150 => [.ref 58, .int x1, .int x2, .int x3, .null]) (fun p150 => []) (fun p150 => (am_hp sw p150)) (fun p150 => ?_) (fun j150 hj150 => ?_)
      · refine sm_go 2 35 [.ref 58, .int x1, .int x2, .int (x3 + 1), .null] [] (am_hp sw p150) (fun _ => rfl) ?_
        exact ih x1 x2 (x3 + 1) p150
      refine sm_br 1 51 54 [.ref 58, .int x1, .int x2, .int x3, .null] [] (am_hp sw s) (fun _ => rfl) (fun _ => ?_) (fun _ => ?_)
      · refine sm_go 1 150 [.ref 58, .int x1, .int x2, .int x3, .null] [] (am_hp sw s) (fun _ => rfl) ?_
        exact hj150 s
      · refine sm_iald 3 59 [.ref 58, .int x1, .int x2, .int x3, .null] [] (am_hp sw s) (i := x3) (c := 111) (fun _ => rfl) rfl rfl rfl rfl ?_
        refine sm_br 1 65 63 [.ref 58, .int x1, .int x2, .int x3, .null] [] (am_hp sw s) (fun _ => rfl) (fun _ => ?_) (fun _ => ?_)
        · refine sm_go 4 70 [.ref 58, .int x1, .int x2, .int x3, .int (4 * x3)] [] (am_hp sw s) (fun _ => rfl) ?_
          refine sm_lp 150 (fun _y => [.ref 58, .int x1, .int x2, .int x3, .null]) (l_X12_fills_70 d sw am_FU x1 x2 x3 (4 * x3) s) (fun _ _ _ h => h) am_pl20 (fun _y s70 => ?_)
          exact hj150 s70
        · exact sm_ret 1 64 [.ref 58, .int x1, .int x2, .int x3, .null] [.int (0)] (am_hp sw s) (some (.int (0))) (fun _ => rfl) rfl (fun _ _ h => h)
    · refine sm_fg [.ref 58, .int x1, .int x2, .null, .null] ⟨Or.inr rfl, Or.inr rfl, Or.inr rfl, Or.inl rfl, Or.inl rfl, trivial⟩ ?_
      exact sm_ex (fun _ _ h => h.2)

set_option maxRecDepth 20000 in
theorem l_X12_fills_28 (d : Nat) (sw : Bool) : ∀ (n : Nat) (x1 : Int32) (x2 : Int32) (s : am_S), am_Sm tb_X12_fills 12 false none (some .boolean) (d + 1) (am_pl am_cI sw (fun (v9 : Unit) s9 r h9 => am_Ex tb_X12_fills 12 false none (some .boolean) (d + 1) r h9 162 [.null, .null, .null, .null, .null] [] (am_hp sw s9))) (f_X12_fills_L28 n x1 x2 s) 28 [.ref 58, .int x1, .int x2, .null, .null] [] (am_hp sw s) := by
  intro n
  induction n with
  | zero => intro x1 x2 s; exact sm_no
  | succ n ih =>
    intro x1 x2 s
    rw [f_X12_fills_L28]
    refine sm_br 3 33 162 [.ref 58, .int x1, .int x2, .null, .null] [] (am_hp sw s) (fun _ => rfl) (fun _ => ?_) (fun _ => ?_)
    · refine sm_go 2 35 [.ref 58, .int x1, .int x2, .int (0), .null] [] (am_hp sw s) (fun _ => rfl) ?_
      refine sm_lp 156 (fun _y => [.ref 58, .int x1, .int x2, .null, .null]) (l_X12_fills_35 d sw am_FU x1 x2 (0) s) (fun _ _ _ h => h) am_pl20 (fun _y s35 => ?_)
      refine sm_go 2 28 [.ref 58, .int x1, .int (x2 + 1), .null, .null] [] (am_hp sw s35) (fun _ => rfl) ?_
      exact ih x1 (x2 + 1) s35
    · refine sm_fg [.null, .null, .null, .null, .null] ⟨Or.inl rfl, Or.inl rfl, Or.inl rfl, Or.inl rfl, Or.inl rfl, trivial⟩ ?_
      exact sm_ex (fun _ _ h => h.2)

set_option maxRecDepth 20000 in
theorem r_X12_fills (d : Nat) (sw : Bool) (s s' : am_S) (x1 : Int32) (v : Int32) (e : f_X12_fills s x1 = some (v, s')) : am_Run (d + 2) 181 [.ref 58, .int x1] (am_hp sw s) (am_cI v) (am_hp sw s') := by
  refine am_Run.of (M := mt_X12_fills) (cvf := am_cI) (X := f_X12_fills s x1) rfl rfl rfl (by simp) ?_ e
  unfold f_X12_fills
  show am_Sm tb_X12_fills 12 false none (some .boolean) (d + 1) (am_po am_cI sw) _ 0 [.ref 58, .int x1, .null, .null, .null] [] (am_hp sw s)
  refine sm_go 2 2 [.ref 58, .int x1, .int (0), .null, .null] [] (am_hp sw s) (fun _ => rfl) ?_
  refine sm_lp 26 (fun _y => [.ref 58, .int x1, .null, .null, .null]) (l_X12_fills_2 d sw am_FU x1 (0) s) (fun _ _ _ h => h) am_po20 (fun _y s2 => ?_)
  refine sm_go 2 28 [.ref 58, .int x1, .int (0), .null, .null] [] (am_hp sw s2) (fun _ => rfl) ?_
  refine sm_lp 162 (fun _y => [.null, .null, .null, .null, .null]) (l_X12_fills_28 d sw am_FU x1 (0) s2) (fun _ _ _ h => h) am_po20 (fun _y s28 => ?_)
  exact sm_ret 1 163 [.null, .null, .null, .null, .null] [.int (1)] (am_hp sw s28) (some (.int (1))) (fun _ => rfl) rfl (fun _ _ h => h)

def f_X12_bits_L4 : Nat → Int32 → Int32 → Int32 → am_S → Option ((Int32 × am_S) ⊕ ((Int32) × am_S))
  | 0, _, _, _, _ => none
  | n + 1, x0, x1, x2, s => if x2 < 8 then (f_X12_bits_L4 n x0 (x1 + ((x0 >>> (x2 &&& 31)) &&& 1)) (x2 + 1) s) else (some (.inr (x1, s)))
def f_X12_bits (s : am_S) (x0 : Int32) : Option (Int32 × am_S) := am_lp (fun y => y) (f_X12_bits_L4 am_FU x0 (0) (0) s) (fun y4 s4 => some (y4, s4))
set_option maxRecDepth 20000 in
theorem l_X12_bits_4 (d : Nat) (sw : Bool) : ∀ (n : Nat) (x0 : Int32) (x1 : Int32) (x2 : Int32) (s : am_S), am_Sm tb_X12_bits 12 false none (some .int) (d + 0) (am_pl am_cI sw (fun (v9 : Int32) s9 r h9 => am_Ex tb_X12_bits 12 false none (some .int) (d + 0) r h9 24 [.null, .int v9, .null] [] (am_hp sw s9))) (f_X12_bits_L4 n x0 x1 x2 s) 4 [.int x0, .int x1, .int x2] [] (am_hp sw s) := by
  intro n
  induction n with
  | zero => intro x0 x1 x2 s; exact sm_no
  | succ n ih =>
    intro x0 x1 x2 s
    rw [f_X12_bits_L4]
    refine sm_br 3 10 24 [.int x0, .int x1, .int x2] [] (am_hp sw s) (fun _ => rfl) (fun _ => ?_) (fun _ => ?_)
    · refine sm_go 10 4 [.int x0, .int (x1 + ((x0 >>> (x2 &&& 31)) &&& 1)), .int (x2 + 1)] [] (am_hp sw s) (fun _ => rfl) ?_
      exact ih x0 (x1 + ((x0 >>> (x2 &&& 31)) &&& 1)) (x2 + 1) s
    · refine sm_fg [.null, .int x1, .null] ⟨Or.inl rfl, Or.inr rfl, Or.inl rfl, trivial⟩ ?_
      exact sm_ex (fun _ _ h => h.2)

set_option maxRecDepth 20000 in
theorem r_X12_bits (d : Nat) (sw : Bool) (s s' : am_S) (x0 : Int32) (v : Int32) (e : f_X12_bits s x0 = some (v, s')) : am_Run (d + 1) 183 [.int x0] (am_hp sw s) (am_cI v) (am_hp sw s') := by
  refine am_Run.of (M := mt_X12_bits) (cvf := am_cI) (X := f_X12_bits s x0) rfl rfl rfl (by simp) ?_ e
  unfold f_X12_bits
  show am_Sm tb_X12_bits 12 false none (some .int) (d + 0) (am_po am_cI sw) _ 0 [.int x0, .null, .null] [] (am_hp sw s)
  refine sm_go 4 4 [.int x0, .int (0), .int (0)] [] (am_hp sw s) (fun _ => rfl) ?_
  refine sm_lp 24 (fun y4 => [.null, .int y4, .null]) (l_X12_bits_4 d sw am_FU x0 (0) (0) s) (fun _ _ _ h => h) am_po20 (fun y4 s4 => ?_)
  exact sm_ret 1 25 [.null, .int y4, .null] [.int y4] (am_hp sw s4) (some (.int y4)) (fun _ => rfl) rfl (fun _ _ h => h)

def f_X12_worthOf_L4 : Nat → Int32 → Int32 → Int32 → am_S → Option ((Int32 × am_S) ⊕ ((Int32) × am_S))
  | 0, _, _, _, _ => none
  | n + 1, x1, x2, x3, s => if x3 < (s.1 58 74) then (am_jn (fun (p30 : Int32 × am_S) => f_X12_worthOf_L4 n x1 p30.1 (x3 + 1) p30.2) (fun j30 => if ((x1 >>> (x3 &&& 31)) &&& 1) = 1 then (am_gu (am_in x3 8) (j30 ((x2 + (s.1 110 (Int32.toNatClampNeg x3))), s))) else (j30 (x2, s)))) else (some (.inr (x2, s)))
def f_X12_worthOf (s : am_S) (x1 : Int32) : Option (Int32 × am_S) := am_lp (fun y => y) (f_X12_worthOf_L4 am_FU x1 (0) (0) s) (fun y4 s4 => some (y4, s4))
set_option maxRecDepth 20000 in
theorem l_X12_worthOf_4 (d : Nat) (sw : Bool) : ∀ (n : Nat) (x1 : Int32) (x2 : Int32) (x3 : Int32) (s : am_S), am_Sm tb_X12_worthOf 12 false none (some .int) (d + 0) (am_pl am_cI sw (fun (v9 : Int32) s9 r h9 => am_Ex tb_X12_worthOf 12 false none (some .int) (d + 0) r h9 36 [.null, .null, .int v9, .null] [] (am_hp sw s9))) (f_X12_worthOf_L4 n x1 x2 x3 s) 4 [.ref 58, .int x1, .int x2, .int x3] [] (am_hp sw s) := by
  intro n
  induction n with
  | zero => intro x1 x2 x3 s; exact sm_no
  | succ n ih =>
    intro x1 x2 x3 s
    rw [f_X12_worthOf_L4]
    refine sm_br 4 12 36 [.ref 58, .int x1, .int x2, .int x3] [] (am_hp sw s) (fun _ => rfl) (fun _ => ?_) (fun _ => ?_)
    · refine sm_go 6 18 [.ref 58, .int x1, .int x2, .int x3] [.int (1), .int ((x1 >>> (x3 &&& 31)) &&& 1)] (am_hp sw s) (fun _ => rfl) ?_
      refine sm_jn 30 (fun p30 => [.ref 58, .int x1, .int p30.1, .int x3]) (fun p30 => []) (fun p30 => (am_hp sw p30.2)) (fun p30 => ?_) (fun j30 hj30 => ?_)
      · refine sm_go 2 4 [.ref 58, .int x1, .int p30.1, .int (x3 + 1)] [] (am_hp sw p30.2) (fun _ => rfl) ?_
        exact ih x1 p30.1 (x3 + 1) p30.2
      refine sm_br 1 21 30 [.ref 58, .int x1, .int x2, .int x3] [] (am_hp sw s) (fun _ => rfl) (fun _ => ?_) (fun _ => ?_)
      · refine sm_iald 4 27 [.ref 58, .int x1, .int x2, .int x3] [.int x2] (am_hp sw s) (i := x3) (c := 110) (fun _ => rfl) rfl rfl rfl rfl ?_
        refine sm_go 2 30 [.ref 58, .int x1, .int (x2 + (s.1 110 (Int32.toNatClampNeg x3))), .int x3] [] (am_hp sw s) (fun _ => rfl) ?_
        exact hj30 ((x2 + (s.1 110 (Int32.toNatClampNeg x3))), s)
      · exact hj30 (x2, s)
    · refine sm_fg [.null, .null, .int x2, .null] ⟨Or.inl rfl, Or.inl rfl, Or.inr rfl, Or.inl rfl, trivial⟩ ?_
      exact sm_ex (fun _ _ h => h.2)

set_option maxRecDepth 20000 in
theorem r_X12_worthOf (d : Nat) (sw : Bool) (s s' : am_S) (x1 : Int32) (v : Int32) (e : f_X12_worthOf s x1 = some (v, s')) : am_Run (d + 1) 184 [.ref 58, .int x1] (am_hp sw s) (am_cI v) (am_hp sw s') := by
  refine am_Run.of (M := mt_X12_worthOf) (cvf := am_cI) (X := f_X12_worthOf s x1) rfl rfl rfl (by simp) ?_ e
  unfold f_X12_worthOf
  show am_Sm tb_X12_worthOf 12 false none (some .int) (d + 0) (am_po am_cI sw) _ 0 [.ref 58, .int x1, .null, .null] [] (am_hp sw s)
  refine sm_go 4 4 [.ref 58, .int x1, .int (0), .int (0)] [] (am_hp sw s) (fun _ => rfl) ?_
  refine sm_lp 36 (fun y4 => [.null, .null, .int y4, .null]) (l_X12_worthOf_4 d sw am_FU x1 (0) (0) s) (fun _ _ _ h => h) am_po20 (fun y4 s4 => ?_)
  exact sm_ret 1 37 [.null, .null, .int y4, .null] [.int y4] (am_hp sw s4) (some (.int y4)) (fun _ => rfl) rfl (fun _ _ h => h)

def f_X12_isAhead (s : am_S) (x1 : Int32) (x2 : Int32) : Option (Int32 × am_S) := am_bd (f_X12_worthOf s x1) (fun v2 s2 => am_bd (f_X12_worthOf s2 x2) (fun v7 s7 => if v2 = v7 then (am_bd (f_X12_bits s7 x1) (fun v33 s33 => am_bd (f_X12_bits s33 x2) (fun v37 s37 => if v33 = v37 then (if ((x1 &&& (x1 ^^^ x2)) &&& (-(x1 ^^^ x2))) = 0 then (some ((0), s37)) else (some ((1), s37))) else (am_bd (f_X12_bits s37 x1) (fun v44 s44 => am_bd (f_X12_bits s44 x2) (fun v48 s48 => if v48 < v44 then (some ((1), s48)) else (some ((0), s48)))))))) else (am_bd (f_X12_worthOf s7 x1) (fun v15 s15 => am_bd (f_X12_worthOf s15 x2) (fun v20 s20 => if v20 < v15 then (some ((1), s20)) else (some ((0), s20)))))))
set_option maxRecDepth 20000 in
theorem r_X12_isAhead (d : Nat) (sw : Bool) (s s' : am_S) (x1 : Int32) (x2 : Int32) (v : Int32) (e : f_X12_isAhead s x1 x2 = some (v, s')) : am_Run (d + 2) 185 [.ref 58, .int x1, .int x2] (am_hp sw s) (am_cI v) (am_hp sw s') := by
  refine am_Run.of (M := mt_X12_isAhead) (cvf := am_cI) (X := f_X12_isAhead s x1 x2) rfl rfl rfl (by simp) ?_ e
  unfold f_X12_isAhead
  show am_Sm tb_X12_isAhead 12 false none (some .boolean) (d + 1) (am_po am_cI sw) _ 0 [.ref 58, .int x1, .int x2, .null] [] (am_hp sw s)
  refine sm_call (cvf := am_cI) 2 2 [.ref 58, .int x1, .int x2, .null] [.int x1, .ref 58] sw s 184 [.ref 58, .int x1] [] (fun _ => rfl) rfl (fun _ _ e9 => r_X12_worthOf (d + 0) sw _ _ _ _ e9) am_po20 (fun v2 s2 => ?_)
  refine sm_call (cvf := am_cI) 2 7 [.ref 58, .int x1, .int x2, .null] [.int x2, .ref 58, .int v2] sw s2 184 [.ref 58, .int x2] [.int v2] (fun _ => rfl) rfl (fun _ _ e9 => r_X12_worthOf (d + 0) sw _ _ _ _ e9) am_po20 (fun v7 s7 => ?_)
  refine sm_br 1 32 13 [.ref 58, .int x1, .int x2, .null] [] (am_hp sw s7) (fun _ => rfl) (fun _ => ?_) (fun _ => ?_)
  · refine sm_call (cvf := am_cI) 1 33 [.ref 58, .int x1, .int x2, .null] [.int x1] sw s7 183 [.int x1] [] (fun _ => rfl) rfl (fun _ _ e9 => r_X12_bits (d + 0) sw _ _ _ _ e9) am_po20 (fun v33 s33 => ?_)
    refine sm_call (cvf := am_cI) 1 37 [.ref 58, .int x1, .int x2, .null] [.int x2, .int v33] sw s33 183 [.int x2] [.int v33] (fun _ => rfl) rfl (fun _ _ e9 => r_X12_bits (d + 0) sw _ _ _ _ e9) am_po20 (fun v37 s37 => ?_)
    refine sm_br 1 60 43 [.ref 58, .int x1, .int x2, .null] [] (am_hp sw s37) (fun _ => rfl) (fun _ => ?_) (fun _ => ?_)
    · refine sm_br 11 77 73 [.ref 58, .int x1, .int x2, .int (x1 ^^^ x2)] [] (am_hp sw s37) (fun _ => rfl) (fun _ => ?_) (fun _ => ?_)
      · exact sm_ret 1 78 [.ref 58, .int x1, .int x2, .int (x1 ^^^ x2)] [.int (0)] (am_hp sw s37) (some (.int (0))) (fun _ => rfl) rfl (fun _ _ h => h)
      · exact sm_ret 2 78 [.ref 58, .int x1, .int x2, .int (x1 ^^^ x2)] [.int (1)] (am_hp sw s37) (some (.int (1))) (fun _ => rfl) rfl (fun _ _ h => h)
    · refine sm_call (cvf := am_cI) 1 44 [.ref 58, .int x1, .int x2, .null] [.int x1] sw s37 183 [.int x1] [] (fun _ => rfl) rfl (fun _ _ e9 => r_X12_bits (d + 0) sw _ _ _ _ e9) am_po20 (fun v44 s44 => ?_)
      refine sm_call (cvf := am_cI) 1 48 [.ref 58, .int x1, .int x2, .null] [.int x2, .int v44] sw s44 183 [.int x2] [.int v44] (fun _ => rfl) rfl (fun _ _ e9 => r_X12_bits (d + 0) sw _ _ _ _ e9) am_po20 (fun v48 s48 => ?_)
      refine sm_br 1 54 58 [.ref 58, .int x1, .int x2, .null] [] (am_hp sw s48) (fun _ => rfl) (fun _ => ?_) (fun _ => ?_)
      · exact sm_ret 2 59 [.ref 58, .int x1, .int x2, .null] [.int (1)] (am_hp sw s48) (some (.int (1))) (fun _ => rfl) rfl (fun _ _ h => h)
      · exact sm_ret 1 59 [.ref 58, .int x1, .int x2, .null] [.int (0)] (am_hp sw s48) (some (.int (0))) (fun _ => rfl) rfl (fun _ _ h => h)
  · refine sm_call (cvf := am_cI) 2 15 [.ref 58, .int x1, .int x2, .null] [.int x1, .ref 58] sw s7 184 [.ref 58, .int x1] [] (fun _ => rfl) rfl (fun _ _ e9 => r_X12_worthOf (d + 0) sw _ _ _ _ e9) am_po20 (fun v15 s15 => ?_)
    refine sm_call (cvf := am_cI) 2 20 [.ref 58, .int x1, .int x2, .null] [.int x2, .ref 58, .int v15] sw s15 184 [.ref 58, .int x2] [.int v15] (fun _ => rfl) rfl (fun _ _ e9 => r_X12_worthOf (d + 0) sw _ _ _ _ e9) am_po20 (fun v20 s20 => ?_)
    refine sm_br 1 26 30 [.ref 58, .int x1, .int x2, .null] [] (am_hp sw s20) (fun _ => rfl) (fun _ => ?_) (fun _ => ?_)
    · exact sm_ret 2 31 [.ref 58, .int x1, .int x2, .null] [.int (1)] (am_hp sw s20) (some (.int (1))) (fun _ => rfl) rfl (fun _ _ h => h)
    · exact sm_ret 1 31 [.ref 58, .int x1, .int x2, .null] [.int (0)] (am_hp sw s20) (some (.int (0))) (fun _ => rfl) rfl (fun _ _ h => h)

def f_X12_packs_L10 : Nat → Int32 → Int32 → Int32 → Int32 → am_S → Option ((Unit × am_S) ⊕ ((Unit) × am_S))
  | 0, _, _, _, _, _ => none
  | n + 1, x1, x2, x3, x4, s => if x4 < (s.1 58 66) then (if 0 < x3 then (am_gu (am_in x4 400) (am_jn (fun (p96 : Int32 × am_S) => f_X12_packs_L10 n x1 x2 p96.1 (x4 + 1) p96.2) (fun j96 => if (s.1 106 (Int32.toNatClampNeg x4)) = (-1) then (am_bd (f_X12_kindOf s x4) (fun v37 s37 => am_gu (am_in x2 32) (if v37 = (s37.1 115 (Int32.toNatClampNeg x2)) then (am_gu (am_in x2 32) (am_jn (fun (p77 : am_S) => am_gu (am_in x4 400) (am_gu (am_in x4 400) (j96 ((x3 + (-1)), (am_wI (am_wI p77 106 (Int32.toNatClampNeg x4) x1) 119 (Int32.toNatClampNeg x4) (am_nar 3 (1))))))) (fun j77 => if (s37.1 116 (Int32.toNatClampNeg x2)) = (-1) then (j77 s37) else (am_bd (f_X12_colourOf s37 x4) (fun v62 s62 => am_gu (am_in x2 32) (if v62 = (s62.1 116 (Int32.toNatClampNeg x2)) then (j77 s62) else (j96 (x3, s62)))))))) else (j96 (x3, s37))))) else (j96 (x3, s))))) else (some (.inr ((), s)))) else (some (.inr ((), s)))
def f_X12_packs (s : am_S) (x1 : Int32) (x2 : Int32) : Option (Unit × am_S) := am_gu (am_in x2 32) (am_lp (fun y => y) (f_X12_packs_L10 am_FU x1 x2 (s.1 114 (Int32.toNatClampNeg x2)) (0) s) (fun (_ : Unit) s10 => some ((), s10)))
set_option maxRecDepth 20000 in
theorem l_X12_packs_10 (d : Nat) (sw : Bool) : ∀ (n : Nat) (x1 : Int32) (x2 : Int32) (x3 : Int32) (x4 : Int32) (s : am_S), am_Sm tb_X12_packs 12 false none none (d + 1) (am_pl am_cU sw (fun (v9 : Unit) s9 r h9 => am_Ex tb_X12_packs 12 false none none (d + 1) r h9 102 [.null, .null, .null, .null, .null] [] (am_hp sw s9))) (f_X12_packs_L10 n x1 x2 x3 x4 s) 10 [.ref 58, .int x1, .int x2, .int x3, .int x4] [] (am_hp sw s) := by
  intro n
  induction n with
  | zero => intro x1 x2 x3 x4 s; exact sm_no
  | succ n ih =>
    intro x1 x2 x3 x4 s
    rw [f_X12_packs_L10]
    refine sm_br 4 19 102 [.ref 58, .int x1, .int x2, .int x3, .int x4] [] (am_hp sw s) (fun _ => rfl) (fun _ => ?_) (fun _ => ?_)
    · refine sm_br 2 23 102 [.ref 58, .int x1, .int x2, .int x3, .int x4] [] (am_hp sw s) (fun _ => rfl) (fun _ => ?_) (fun _ => ?_)
      · refine sm_iald 3 29 [.ref 58, .int x1, .int x2, .int x3, .int x4] [] (am_hp sw s) (i := x4) (c := 106) (fun _ => rfl) rfl rfl rfl rfl ?_
        refine sm_go 1 31 [.ref 58, .int x1, .int x2, .int x3, .int x4] [.int (-1), .int (s.1 106 (Int32.toNatClampNeg x4))] (am_hp sw s) (fun _ => rfl) ?_
        refine sm_jn 96 (fun p96 => [.ref 58, .int x1, .int x2, .int p96.1, .int x4]) (fun p96 => []) (fun p96 => (am_hp sw p96.2)) (fun p96 => ?_) (fun j96 hj96 => ?_)
        · refine sm_go 2 10 [.ref 58, .int x1, .int x2, .int p96.1, .int (x4 + 1)] [] (am_hp sw p96.2) (fun _ => rfl) ?_
          exact ih x1 x2 p96.1 (x4 + 1) p96.2
        refine sm_br 1 34 96 [.ref 58, .int x1, .int x2, .int x3, .int x4] [] (am_hp sw s) (fun _ => rfl) (fun _ => ?_) (fun _ => ?_)
        · refine sm_call (cvf := am_cI) 2 37 [.ref 58, .int x1, .int x2, .int x3, .int x4] [.int x4, .ref 58] sw s 175 [.ref 58, .int x4] [] (fun _ => rfl) rfl (fun _ _ e9 => r_X12_kindOf (d + 0) sw _ _ _ _ e9) am_pl20 (fun v37 s37 => ?_)
          refine sm_iald 3 45 [.ref 58, .int x1, .int x2, .int x3, .int x4] [.int v37] (am_hp sw s37) (i := x2) (c := 115) (fun _ => rfl) rfl rfl rfl rfl ?_
          refine sm_br 1 49 96 [.ref 58, .int x1, .int x2, .int x3, .int x4] [] (am_hp sw s37) (fun _ => rfl) (fun _ => ?_) (fun _ => ?_)
          · refine sm_iald 3 54 [.ref 58, .int x1, .int x2, .int x3, .int x4] [] (am_hp sw s37) (i := x2) (c := 116) (fun _ => rfl) rfl rfl rfl rfl ?_
            refine sm_go 1 56 [.ref 58, .int x1, .int x2, .int x3, .int x4] [.int (-1), .int (s37.1 116 (Int32.toNatClampNeg x2))] (am_hp sw s37) (fun _ => rfl) ?_
            refine sm_jn 77 (fun p77 => [.ref 58, .int x1, .int x2, .int x3, .int x4]) (fun p77 => []) (fun p77 => (am_hp sw p77)) (fun p77 => ?_) (fun j77 hj77 => ?_)
            · refine sm_iast 4 84 [.ref 58, .int x1, .int x2, .int x3, .int x4] [] sw p77 (i := x4) (x := x1) (c := 106) (fun _ => rfl) rfl rfl rfl ?_
              refine sm_bast 4 92 [.ref 58, .int x1, .int x2, .int x3, .int x4] [] sw (am_wI p77 106 (Int32.toNatClampNeg x4) x1) (i := x4) (x := (1)) (c := 119) (fun _ => rfl) rfl rfl rfl rfl ?_
              refine sm_go 1 96 [.ref 58, .int x1, .int x2, .int (x3 + (-1)), .int x4] [] (am_hp sw (am_wI (am_wI p77 106 (Int32.toNatClampNeg x4) x1) 119 (Int32.toNatClampNeg x4) (am_nar 3 (1)))) (fun _ => rfl) ?_
              exact hj96 ((x3 + (-1)), (am_wI (am_wI p77 106 (Int32.toNatClampNeg x4) x1) 119 (Int32.toNatClampNeg x4) (am_nar 3 (1))))
            refine sm_br 1 77 59 [.ref 58, .int x1, .int x2, .int x3, .int x4] [] (am_hp sw s37) (fun _ => rfl) (fun _ => ?_) (fun _ => ?_)
            · exact hj77 s37
            · refine sm_call (cvf := am_cI) 2 62 [.ref 58, .int x1, .int x2, .int x3, .int x4] [.int x4, .ref 58] sw s37 176 [.ref 58, .int x4] [] (fun _ => rfl) rfl (fun _ _ e9 => r_X12_colourOf (d + 0) sw _ _ _ _ e9) am_pl20 (fun v62 s62 => ?_)
              refine sm_iald 3 70 [.ref 58, .int x1, .int x2, .int x3, .int x4] [.int v62] (am_hp sw s62) (i := x2) (c := 116) (fun _ => rfl) rfl rfl rfl rfl ?_
              refine sm_br 1 77 74 [.ref 58, .int x1, .int x2, .int x3, .int x4] [] (am_hp sw s62) (fun _ => rfl) (fun _ => ?_) (fun _ => ?_)
              · exact hj77 s62
              · refine sm_go 1 96 [.ref 58, .int x1, .int x2, .int x3, .int x4] [] (am_hp sw s62) (fun _ => rfl) ?_
                exact hj96 (x3, s62)
          · exact hj96 (x3, s37)
        · exact hj96 (x3, s)
      · refine sm_fg [.null, .null, .null, .null, .null] ⟨Or.inl rfl, Or.inl rfl, Or.inl rfl, Or.inl rfl, Or.inl rfl, trivial⟩ ?_
        exact sm_ex (fun _ _ h => h.2)
    · refine sm_fg [.null, .null, .null, .null, .null] ⟨Or.inl rfl, Or.inl rfl, Or.inl rfl, Or.inl rfl, Or.inl rfl, trivial⟩ ?_
      exact sm_ex (fun _ _ h => h.2)

set_option maxRecDepth 20000 in
theorem r_X12_packs (d : Nat) (sw : Bool) (s s' : am_S) (x1 : Int32) (x2 : Int32) (v : Unit) (e : f_X12_packs s x1 x2 = some (v, s')) : am_Run (d + 2) 187 [.ref 58, .int x1, .int x2] (am_hp sw s) (am_cU v) (am_hp sw s') := by
  refine am_Run.of (M := mt_X12_packs) (cvf := am_cU) (X := f_X12_packs s x1 x2) rfl rfl rfl (by simp) ?_ e
  unfold f_X12_packs
  show am_Sm tb_X12_packs 12 false none none (d + 1) (am_po am_cU sw) _ 0 [.ref 58, .int x1, .int x2, .null, .null] [] (am_hp sw s)
  refine sm_iald 3 5 [.ref 58, .int x1, .int x2, .null, .null] [] (am_hp sw s) (i := x2) (c := 114) (fun _ => rfl) rfl rfl rfl rfl ?_
  refine sm_go 3 10 [.ref 58, .int x1, .int x2, .int (s.1 114 (Int32.toNatClampNeg x2)), .int (0)] [] (am_hp sw s) (fun _ => rfl) ?_
  refine sm_lp 102 (fun _y => [.null, .null, .null, .null, .null]) (l_X12_packs_10 d sw am_FU x1 x2 (s.1 114 (Int32.toNatClampNeg x2)) (0) s) (fun _ _ _ h => h) am_po20 (fun _y s10 => ?_)
  exact sm_ret 0 102 [.null, .null, .null, .null, .null] [] (am_hp sw s10) none (fun _ => rfl) rfl (fun _ _ h => h)

def f_X12_box_L8 : Nat → Int32 → Int32 → am_S → Option ((Int32 × am_S) ⊕ ((Int32) × am_S))
  | 0, _, _, _ => none
  | n + 1, x1, x2, s => if x2 < (1 <<< ((s.1 58 74) &&& 31)) then (am_bd (f_X12_isAhead s x2 x1) (fun v21 s21 => am_jn (fun (p37 : Int32 × am_S) => f_X12_box_L8 n p37.1 (x2 + 1) p37.2) (fun j37 => if v21 = 0 then (j37 (x1, s21)) else (am_bd (f_X12_fills s21 x2) (fun v29 s29 => if v29 = 0 then (j37 (x1, s29)) else (j37 (x2, s29))))))) else (some (.inr (x1, s)))
def f_X12_box_L45 : Nat → Int32 → Int32 → am_S → Option ((Int32 × am_S) ⊕ ((Unit) × am_S))
  | 0, _, _, _ => none
  | n + 1, x1, x2, s => if x2 < (s.1 58 66) then (am_gu (am_in x2 400) (f_X12_box_L45 n x1 (x2 + 1) (am_wI s 119 (Int32.toNatClampNeg x2) (am_nar 3 (0))))) else (some (.inr ((), s)))
def f_X12_box_L99 : Nat → Int32 → Int32 → Int32 → Int32 → am_S → Option ((Int32 × am_S) ⊕ ((Unit) × am_S))
  | 0, _, _, _, _, _ => none
  | n + 1, x1, x2, x3, x4, s => am_gu (am_in x3 8) (if x4 < ((4 * x3) + (s.1 113 (Int32.toNatClampNeg x3))) then (am_gu (am_in x4 32) (am_jn (fun (p130 : Int32 × am_S) => am_jn (fun (p140 : Int32 × am_S) => am_jn (fun (p150 : am_S) => f_X12_box_L99 n x1 x2 x3 (x4 + 1) p150) (fun j150 => if p130.1 = p140.1 then (am_bd (f_X12_packs p140.2 x3 x4) (fun (_ : Unit) s147 => j150 s147)) else (j150 p140.2))) (fun j140 => if x2 = 1 then (j140 (1, p130.2)) else (j140 (0, p130.2)))) (fun j130 => if (s.1 116 (Int32.toNatClampNeg x4)) = (-1) then (j130 (1, s)) else (j130 (0, s))))) else (some (.inr ((), s))))
def f_X12_box_L75 : Nat → Int32 → Int32 → Int32 → am_S → Option ((Int32 × am_S) ⊕ ((Unit) × am_S))
  | 0, _, _, _, _ => none
  | n + 1, x1, x2, x3, s => if x3 < (s.1 58 74) then (am_jn (fun (p156 : am_S) => f_X12_box_L75 n x1 x2 (x3 + 1) p156) (fun j156 => if ((x1 >>> (x3 &&& 31)) &&& 1) = 0 then (j156 s) else (am_lp Sum.inl (f_X12_box_L99 am_FU x1 x2 x3 (4 * x3) s) (fun (_ : Unit) s99 => j156 s99)))) else (some (.inr ((), s)))
def f_X12_box_L68 : Nat → Int32 → Int32 → am_S → Option ((Int32 × am_S) ⊕ ((Unit) × am_S))
  | 0, _, _, _ => none
  | n + 1, x1, x2, s => if x2 < 2 then (am_lp Sum.inl (f_X12_box_L75 am_FU x1 x2 (0) s) (fun (_ : Unit) s75 => f_X12_box_L68 n x1 (x2 + 1) s75)) else (some (.inr ((), s)))
def f_X12_box_L170 : Nat → Int32 → Int32 → am_S → Option ((Int32 × am_S) ⊕ ((Unit) × am_S))
  | 0, _, _, _ => none
  | n + 1, x1, x2, s => if x2 < (s.1 58 74) then (am_jn (fun (p206 : am_S) => f_X12_box_L170 n x1 (x2 + 1) p206) (fun j206 => if ((x1 >>> (x2 &&& 31)) &&& 1) = 0 then (j206 s) else (am_gu (am_in x2 8) (am_gu (am_in x2 8) (j206 (am_wI (am_wI s 111 (Int32.toNatClampNeg x2) (1)) 112 (Int32.toNatClampNeg x2) (s.1 58 51))))))) else (some (.inr ((), s)))
def f_X12_box_L214 : Nat → Int32 → Int32 → am_S → Option ((Int32 × am_S) ⊕ ((Unit) × am_S))
  | 0, _, _, _ => none
  | n + 1, x1, x2, s => if x2 < (s.1 58 66) then (am_gu (am_in x2 400) (am_jn (fun (p278 : am_S) => f_X12_box_L214 n x1 (x2 + 1) p278) (fun j278 => if (s.1 119 (Int32.toNatClampNeg x2)) = 0 then (j278 s) else (am_gu (am_in x2 400) (am_gu (am_in (s.1 104 (Int32.toNatClampNeg x2)) 200) (am_bd (f_X12_kindOf s x2) (fun v256 s256 => am_bd (f_X12_says s256 (2) (s.1 97 (Int32.toNatClampNeg (s.1 104 (Int32.toNatClampNeg x2)))) v256) (fun v259 s259 => am_gu (am_in x2 400) (am_gu (am_in (s.1 97 (Int32.toNatClampNeg (s.1 104 (Int32.toNatClampNeg x2)))) 8) (am_gu (am_in x2 400) (am_gu (am_in (s.1 97 (Int32.toNatClampNeg (s.1 104 (Int32.toNatClampNeg x2)))) 8) (j278 (am_wI (am_wI s259 107 (Int32.toNatClampNeg x2) v259) 86 (Int32.toNatClampNeg (s.1 97 (Int32.toNatClampNeg (s.1 104 (Int32.toNatClampNeg x2))))) ((s259.1 86 (Int32.toNatClampNeg (s.1 97 (Int32.toNatClampNeg (s.1 104 (Int32.toNatClampNeg x2)))))) + ((am_wI s259 107 (Int32.toNatClampNeg x2) v259).1 107 (Int32.toNatClampNeg x2)))))))))))))))) else (some (.inr ((), s)))
def f_X12_box (s : am_S) : Option (Int32 × am_S) := am_bd (f_X12_counts s) (fun (_ : Unit) s1 => am_lp (fun y => y) (f_X12_box_L8 am_FU (0) (1) s1) (fun y8 s8 => am_lp (fun y => y) (f_X12_box_L45 am_FU y8 (0) s8) (fun (_ : Unit) s45 => am_lp (fun y => y) (f_X12_box_L68 am_FU y8 (0) s45) (fun (_ : Unit) s68 => am_lp (fun y => y) (f_X12_box_L170 am_FU y8 (0) s68) (fun (_ : Unit) s170 => am_lp (fun y => y) (f_X12_box_L214 am_FU y8 (0) s170) (fun (_ : Unit) s214 => am_bd (f_X12_worthOf s214 y8) (fun v286 s286 => some (v286, s286))))))))
set_option maxRecDepth 20000 in
theorem l_X12_box_8 (d : Nat) (sw : Bool) : ∀ (n : Nat) (x1 : Int32) (x2 : Int32) (s : am_S), am_Sm tb_X12_box 12 false none (some .int) (d + 3) (am_pl am_cI sw (fun (v9 : Int32) s9 r h9 => am_Ex tb_X12_box 12 false none (some .int) (d + 3) r h9 43 [.ref 58, .int v9, .null, .null, .null] [] (am_hp sw s9))) (f_X12_box_L8 n x1 x2 s) 8 [.ref 58, .int x1, .int x2, .null, .null] [] (am_hp sw s) := by
  intro n
  induction n with
  | zero => intro x1 x2 s; exact sm_no
  | succ n ih =>
    intro x1 x2 s
    rw [f_X12_box_L8]
    refine sm_br 6 18 43 [.ref 58, .int x1, .int x2, .null, .null] [] (am_hp sw s) (fun _ => rfl) (fun _ => ?_) (fun _ => ?_)
    · refine sm_call (cvf := am_cI) 3 21 [.ref 58, .int x1, .int x2, .null, .null] [.int x1, .int x2, .ref 58] sw s 185 [.ref 58, .int x2, .int x1] [] (fun _ => rfl) rfl (fun _ _ e9 => r_X12_isAhead (d + 1) sw _ _ _ _ _ e9) am_pl20 (fun v21 s21 => ?_)
      refine sm_jn 37 (fun p37 => [.ref 58, .int p37.1, .int x2, .null, .null]) (fun p37 => []) (fun p37 => (am_hp sw p37.2)) (fun p37 => ?_) (fun j37 hj37 => ?_)
      · refine sm_go 2 8 [.ref 58, .int p37.1, .int (x2 + 1), .null, .null] [] (am_hp sw p37.2) (fun _ => rfl) ?_
        exact ih p37.1 (x2 + 1) p37.2
      refine sm_br 1 37 27 [.ref 58, .int x1, .int x2, .null, .null] [] (am_hp sw s21) (fun _ => rfl) (fun _ => ?_) (fun _ => ?_)
      · exact hj37 (x1, s21)
      · refine sm_call (cvf := am_cI) 2 29 [.ref 58, .int x1, .int x2, .null, .null] [.int x2, .ref 58] sw s21 181 [.ref 58, .int x2] [] (fun _ => rfl) rfl (fun _ _ e9 => r_X12_fills (d + 1) sw _ _ _ _ e9) am_pl20 (fun v29 s29 => ?_)
        refine sm_br 1 37 35 [.ref 58, .int x1, .int x2, .null, .null] [] (am_hp sw s29) (fun _ => rfl) (fun _ => ?_) (fun _ => ?_)
        · exact hj37 (x1, s29)
        · refine sm_go 2 37 [.ref 58, .int x2, .int x2, .null, .null] [] (am_hp sw s29) (fun _ => rfl) ?_
          exact hj37 (x2, s29)
    · refine sm_fg [.ref 58, .int x1, .null, .null, .null] ⟨Or.inr rfl, Or.inr rfl, Or.inl rfl, Or.inl rfl, Or.inl rfl, trivial⟩ ?_
      exact sm_ex (fun _ _ h => h.2)

set_option maxRecDepth 20000 in
theorem l_X12_box_45 (d : Nat) (sw : Bool) : ∀ (n : Nat) (x1 : Int32) (x2 : Int32) (s : am_S), am_Sm tb_X12_box 12 false none (some .int) (d + 3) (am_pl am_cI sw (fun (v9 : Unit) s9 r h9 => am_Ex tb_X12_box 12 false none (some .int) (d + 3) r h9 66 [.ref 58, .int x1, .null, .null, .null] [] (am_hp sw s9))) (f_X12_box_L45 n x1 x2 s) 45 [.ref 58, .int x1, .int x2, .null, .null] [] (am_hp sw s) := by
  intro n
  induction n with
  | zero => intro x1 x2 s; exact sm_no
  | succ n ih =>
    intro x1 x2 s
    rw [f_X12_box_L45]
    refine sm_br 4 53 66 [.ref 58, .int x1, .int x2, .null, .null] [] (am_hp sw s) (fun _ => rfl) (fun _ => ?_) (fun _ => ?_)
    · refine sm_bast 4 59 [.ref 58, .int x1, .int x2, .null, .null] [] sw s (i := x2) (x := (0)) (c := 119) (fun _ => rfl) rfl rfl rfl rfl ?_
      refine sm_go 2 45 [.ref 58, .int x1, .int (x2 + 1), .null, .null] [] (am_hp sw (am_wI s 119 (Int32.toNatClampNeg x2) (am_nar 3 (0)))) (fun _ => rfl) ?_
      exact ih x1 (x2 + 1) (am_wI s 119 (Int32.toNatClampNeg x2) (am_nar 3 (0)))
    · refine sm_fg [.ref 58, .int x1, .null, .null, .null] ⟨Or.inr rfl, Or.inr rfl, Or.inl rfl, Or.inl rfl, Or.inl rfl, trivial⟩ ?_
      exact sm_ex (fun _ _ h => h.2)

set_option maxRecDepth 20000 in
theorem l_X12_box_99 (d : Nat) (sw : Bool) : ∀ (n : Nat) (x1 : Int32) (x2 : Int32) (x3 : Int32) (x4 : Int32) (s : am_S), am_Sm tb_X12_box 12 false none (some .int) (d + 3) (am_pl am_cI sw (fun (v9 : Unit) s9 r h9 => am_Ex tb_X12_box 12 false none (some .int) (d + 3) r h9 156 [.ref 58, .int x1, .int x2, .int x3, .null] [] (am_hp sw s9))) (f_X12_box_L99 n x1 x2 x3 x4 s) 99 [.ref 58, .int x1, .int x2, .int x3, .int x4] [] (am_hp sw s) := by
  intro n
  induction n with
  | zero => intro x1 x2 x3 x4 s; exact sm_no
  | succ n ih =>
    intro x1 x2 x3 x4 s
    rw [f_X12_box_L99]
    refine sm_iald 7 109 [.ref 58, .int x1, .int x2, .int x3, .int x4] [.int (4 * x3), .int x4] (am_hp sw s) (i := x3) (c := 113) (fun _ => rfl) rfl rfl rfl rfl ?_
    refine sm_br 2 114 156 [.ref 58, .int x1, .int x2, .int x3, .int x4] [] (am_hp sw s) (fun _ => rfl) (fun _ => ?_) (fun _ => ?_)
    · refine sm_iald 3 120 [.ref 58, .int x1, .int x2, .int x3, .int x4] [] (am_hp sw s) (i := x4) (c := 116) (fun _ => rfl) rfl rfl rfl rfl ?_
      refine sm_go 1 122 [.ref 58, .int x1, .int x2, .int x3, .int x4] [.int (-1), .int (s.1 116 (Int32.toNatClampNeg x4))] (am_hp sw s) (fun _ => rfl) ?_
      refine sm_jn 130 (fun p130 => [.ref 58, .int x1, .int x2, .int x3, .int x4]) (fun p130 => [.int p130.1]) (fun p130 => (am_hp sw p130.2)) (fun p130 => ?_) (fun j130 hj130 => ?_)
      · refine sm_go 2 132 [.ref 58, .int x1, .int x2, .int x3, .int x4] [.int (1), .int x2, .int p130.1] (am_hp sw p130.2) (fun _ => rfl) ?_
        refine sm_jn 140 (fun p140 => [.ref 58, .int x1, .int x2, .int x3, .int x4]) (fun p140 => [.int p140.1, .int p130.1]) (fun p140 => (am_hp sw p140.2)) (fun p140 => ?_) (fun j140 hj140 => ?_)
        · refine sm_jn 150 (fun p150 => [.ref 58, .int x1, .int x2, .int x3, .int x4]) (fun p150 => []) (fun p150 => (am_hp sw p150)) (fun p150 => ?_) (fun j150 hj150 => ?_)
          · refine sm_go 2 99 [.ref 58, .int x1, .int x2, .int x3, .int (x4 + 1)] [] (am_hp sw p150) (fun _ => rfl) ?_
            exact ih x1 x2 x3 (x4 + 1) p150
          refine sm_br 1 143 150 [.ref 58, .int x1, .int x2, .int x3, .int x4] [] (am_hp sw p140.2) (fun _ => rfl) (fun _ => ?_) (fun _ => ?_)
          · refine sm_call (cvf := am_cU) 3 147 [.ref 58, .int x1, .int x2, .int x3, .int x4] [.int x4, .int x3, .ref 58] sw p140.2 187 [.ref 58, .int x3, .int x4] [] (fun _ => rfl) rfl (fun _ _ e9 => r_X12_packs (d + 1) sw _ _ _ _ _ e9) am_pl20 (fun _v s147 => ?_)
            exact hj150 s147
          · exact hj150 p140.2
        refine sm_br 1 135 139 [.ref 58, .int x1, .int x2, .int x3, .int x4] [.int p130.1] (am_hp sw p130.2) (fun _ => rfl) (fun _ => ?_) (fun _ => ?_)
        · refine sm_go 2 140 [.ref 58, .int x1, .int x2, .int x3, .int x4] [.int (1), .int p130.1] (am_hp sw p130.2) (fun _ => rfl) ?_
          exact hj140 (1, p130.2)
        · refine sm_go 1 140 [.ref 58, .int x1, .int x2, .int x3, .int x4] [.int (0), .int p130.1] (am_hp sw p130.2) (fun _ => rfl) ?_
          exact hj140 (0, p130.2)
      refine sm_br 1 125 129 [.ref 58, .int x1, .int x2, .int x3, .int x4] [] (am_hp sw s) (fun _ => rfl) (fun _ => ?_) (fun _ => ?_)
      · refine sm_go 2 130 [.ref 58, .int x1, .int x2, .int x3, .int x4] [.int (1)] (am_hp sw s) (fun _ => rfl) ?_
        exact hj130 (1, s)
      · refine sm_go 1 130 [.ref 58, .int x1, .int x2, .int x3, .int x4] [.int (0)] (am_hp sw s) (fun _ => rfl) ?_
        exact hj130 (0, s)
    · refine sm_fg [.ref 58, .int x1, .int x2, .int x3, .null] ⟨Or.inr rfl, Or.inr rfl, Or.inr rfl, Or.inr rfl, Or.inl rfl, trivial⟩ ?_
      exact sm_ex (fun _ _ h => h.2)

set_option maxRecDepth 20000 in
theorem l_X12_box_75 (d : Nat) (sw : Bool) : ∀ (n : Nat) (x1 : Int32) (x2 : Int32) (x3 : Int32) (s : am_S), am_Sm tb_X12_box 12 false none (some .int) (d + 3) (am_pl am_cI sw (fun (v9 : Unit) s9 r h9 => am_Ex tb_X12_box 12 false none (some .int) (d + 3) r h9 162 [.ref 58, .int x1, .int x2, .null, .null] [] (am_hp sw s9))) (f_X12_box_L75 n x1 x2 x3 s) 75 [.ref 58, .int x1, .int x2, .int x3, .null] [] (am_hp sw s) := by
  intro n
  induction n with
  | zero => intro x1 x2 x3 s; exact sm_no
  | succ n ih =>
    intro x1 x2 x3 s
    rw [f_X12_box_L75]
    refine sm_br 4 83 162 [.ref 58, .int x1, .int x2, .int x3, .null] [] (am_hp sw s) (fun _ => rfl) (fun _ => ?_) (fun _ => ?_)
    · refine sm_go 5 88 [.ref 58, .int x1, .int x2, .int x3, .null] [.int ((x1 >>> (x3 &&& 31)) &&& 1)] (am_hp sw s) (fun _ => rfl) ?_
      refine sm_jn 156 (fun p156 => [.ref 58, .int x1, .int x2, .int x3, .null]) (fun p156 => []) (fun p156 => (am_hp sw p156)) (fun p156 => ?_) (fun j156 hj156 => ?_)
      · refine sm_go 2 75 [.ref 58, .int x1, .int x2, .int (x3 + 1), .null] [] (am_hp sw p156) (fun _ => rfl) ?_
        exact ih x1 x2 (x3 + 1) p156
      refine sm_br 1 91 94 [.ref 58, .int x1, .int x2, .int x3, .null] [] (am_hp sw s) (fun _ => rfl) (fun _ => ?_) (fun _ => ?_)
      · refine sm_go 1 156 [.ref 58, .int x1, .int x2, .int x3, .null] [] (am_hp sw s) (fun _ => rfl) ?_
        exact hj156 s
      · refine sm_go 4 99 [.ref 58, .int x1, .int x2, .int x3, .int (4 * x3)] [] (am_hp sw s) (fun _ => rfl) ?_
        refine sm_lp 156 (fun _y => [.ref 58, .int x1, .int x2, .int x3, .null]) (l_X12_box_99 d sw am_FU x1 x2 x3 (4 * x3) s) (fun _ _ _ h => h) am_pl20 (fun _y s99 => ?_)
        exact hj156 s99
    · refine sm_fg [.ref 58, .int x1, .int x2, .null, .null] ⟨Or.inr rfl, Or.inr rfl, Or.inr rfl, Or.inl rfl, Or.inl rfl, trivial⟩ ?_
      exact sm_ex (fun _ _ h => h.2)

set_option maxRecDepth 20000 in
theorem l_X12_box_68 (d : Nat) (sw : Bool) : ∀ (n : Nat) (x1 : Int32) (x2 : Int32) (s : am_S), am_Sm tb_X12_box 12 false none (some .int) (d + 3) (am_pl am_cI sw (fun (v9 : Unit) s9 r h9 => am_Ex tb_X12_box 12 false none (some .int) (d + 3) r h9 168 [.ref 58, .int x1, .null, .null, .null] [] (am_hp sw s9))) (f_X12_box_L68 n x1 x2 s) 68 [.ref 58, .int x1, .int x2, .null, .null] [] (am_hp sw s) := by
  intro n
  induction n with
  | zero => intro x1 x2 s; exact sm_no
  | succ n ih =>
    intro x1 x2 s
    rw [f_X12_box_L68]
    refine sm_br 3 73 168 [.ref 58, .int x1, .int x2, .null, .null] [] (am_hp sw s) (fun _ => rfl) (fun _ => ?_) (fun _ => ?_)
    · refine sm_go 2 75 [.ref 58, .int x1, .int x2, .int (0), .null] [] (am_hp sw s) (fun _ => rfl) ?_
      refine sm_lp 162 (fun _y => [.ref 58, .int x1, .int x2, .null, .null]) (l_X12_box_75 d sw am_FU x1 x2 (0) s) (fun _ _ _ h => h) am_pl20 (fun _y s75 => ?_)
      refine sm_go 2 68 [.ref 58, .int x1, .int (x2 + 1), .null, .null] [] (am_hp sw s75) (fun _ => rfl) ?_
      exact ih x1 (x2 + 1) s75
    · refine sm_fg [.ref 58, .int x1, .null, .null, .null] ⟨Or.inr rfl, Or.inr rfl, Or.inl rfl, Or.inl rfl, Or.inl rfl, trivial⟩ ?_
      exact sm_ex (fun _ _ h => h.2)

set_option maxRecDepth 20000 in
theorem l_X12_box_170 (d : Nat) (sw : Bool) : ∀ (n : Nat) (x1 : Int32) (x2 : Int32) (s : am_S), am_Sm tb_X12_box 12 false none (some .int) (d + 3) (am_pl am_cI sw (fun (v9 : Unit) s9 r h9 => am_Ex tb_X12_box 12 false none (some .int) (d + 3) r h9 212 [.ref 58, .int x1, .null, .null, .null] [] (am_hp sw s9))) (f_X12_box_L170 n x1 x2 s) 170 [.ref 58, .int x1, .int x2, .null, .null] [] (am_hp sw s) := by
  intro n
  induction n with
  | zero => intro x1 x2 s; exact sm_no
  | succ n ih =>
    intro x1 x2 s
    rw [f_X12_box_L170]
    refine sm_br 4 178 212 [.ref 58, .int x1, .int x2, .null, .null] [] (am_hp sw s) (fun _ => rfl) (fun _ => ?_) (fun _ => ?_)
    · refine sm_go 5 183 [.ref 58, .int x1, .int x2, .null, .null] [.int ((x1 >>> (x2 &&& 31)) &&& 1)] (am_hp sw s) (fun _ => rfl) ?_
      refine sm_jn 206 (fun p206 => [.ref 58, .int x1, .int x2, .null, .null]) (fun p206 => []) (fun p206 => (am_hp sw p206)) (fun p206 => ?_) (fun j206 hj206 => ?_)
      · refine sm_go 2 170 [.ref 58, .int x1, .int (x2 + 1), .null, .null] [] (am_hp sw p206) (fun _ => rfl) ?_
        exact ih x1 (x2 + 1) p206
      refine sm_br 1 186 189 [.ref 58, .int x1, .int x2, .null, .null] [] (am_hp sw s) (fun _ => rfl) (fun _ => ?_) (fun _ => ?_)
      · refine sm_go 1 206 [.ref 58, .int x1, .int x2, .null, .null] [] (am_hp sw s) (fun _ => rfl) ?_
        exact hj206 s
      · refine sm_iast 4 195 [.ref 58, .int x1, .int x2, .null, .null] [] sw s (i := x2) (x := (1)) (c := 111) (fun _ => rfl) rfl rfl rfl ?_
        refine sm_iast 5 205 [.ref 58, .int x1, .int x2, .null, .null] [] sw (am_wI s 111 (Int32.toNatClampNeg x2) (1)) (i := x2) (x := (s.1 58 51)) (c := 112) (fun _ => rfl) rfl rfl rfl ?_
        exact hj206 (am_wI (am_wI s 111 (Int32.toNatClampNeg x2) (1)) 112 (Int32.toNatClampNeg x2) (s.1 58 51))
    · refine sm_fg [.ref 58, .int x1, .null, .null, .null] ⟨Or.inr rfl, Or.inr rfl, Or.inl rfl, Or.inl rfl, Or.inl rfl, trivial⟩ ?_
      exact sm_ex (fun _ _ h => h.2)

set_option maxRecDepth 20000 in
theorem l_X12_box_214 (d : Nat) (sw : Bool) : ∀ (n : Nat) (x1 : Int32) (x2 : Int32) (s : am_S), am_Sm tb_X12_box 12 false none (some .int) (d + 3) (am_pl am_cI sw (fun (v9 : Unit) s9 r h9 => am_Ex tb_X12_box 12 false none (some .int) (d + 3) r h9 284 [.ref 58, .int x1, .null, .null, .null] [] (am_hp sw s9))) (f_X12_box_L214 n x1 x2 s) 214 [.ref 58, .int x1, .int x2, .null, .null] [] (am_hp sw s) := by
  intro n
  induction n with
  | zero => intro x1 x2 s; exact sm_no
  | succ n ih =>
    intro x1 x2 s
    rw [f_X12_box_L214]
    refine sm_br 4 222 284 [.ref 58, .int x1, .int x2, .null, .null] [] (am_hp sw s) (fun _ => rfl) (fun _ => ?_) (fun _ => ?_)
    · refine sm_bald 3 227 [.ref 58, .int x1, .int x2, .null, .null] [] (am_hp sw s) (i := x2) (c := 119) (fun _ => rfl) rfl rfl rfl rfl ?_
      refine sm_jn 278 (fun p278 => [.ref 58, .int x1, .int x2, .null, .null]) (fun p278 => []) (fun p278 => (am_hp sw p278)) (fun p278 => ?_) (fun j278 hj278 => ?_)
      · refine sm_go 2 214 [.ref 58, .int x1, .int (x2 + 1), .null, .null] [] (am_hp sw p278) (fun _ => rfl) ?_
        exact ih x1 (x2 + 1) p278
      refine sm_br 1 231 234 [.ref 58, .int x1, .int x2, .null, .null] [] (am_hp sw s) (fun _ => rfl) (fun _ => ?_) (fun _ => ?_)
      · refine sm_go 1 278 [.ref 58, .int x1, .int x2, .null, .null] [] (am_hp sw s) (fun _ => rfl) ?_
        exact hj278 s
      · refine sm_iald 5 243 [.ref 58, .int x1, .int x2, .null, .null] [.ref 97] (am_hp sw s) (i := x2) (c := 104) (fun _ => rfl) rfl rfl rfl rfl ?_
        refine sm_iald 0 244 [.ref 58, .int x1, .int x2, .null, .null] [] (am_hp sw s) (i := (s.1 104 (Int32.toNatClampNeg x2))) (c := 97) (fun _ => rfl) rfl rfl rfl rfl ?_
        refine sm_call (cvf := am_cI) 9 256 [.ref 58, .int x1, .int x2, .int (s.1 97 (Int32.toNatClampNeg (s.1 104 (Int32.toNatClampNeg x2)))), .null] [.int x2, .ref 58, .int (s.1 97 (Int32.toNatClampNeg (s.1 104 (Int32.toNatClampNeg x2)))), .int (2), .ref 58, .int x2, .ref 107] sw s 175 [.ref 58, .int x2] [.int (s.1 97 (Int32.toNatClampNeg (s.1 104 (Int32.toNatClampNeg x2)))), .int (2), .ref 58, .int x2, .ref 107] (fun _ => rfl) rfl (fun _ _ e9 => r_X12_kindOf (d + 2) sw _ _ _ _ e9) am_pl20 (fun v256 s256 => ?_)
        refine sm_call (cvf := am_cI) 0 259 [.ref 58, .int x1, .int x2, .int (s.1 97 (Int32.toNatClampNeg (s.1 104 (Int32.toNatClampNeg x2)))), .null] [.int v256, .int (s.1 97 (Int32.toNatClampNeg (s.1 104 (Int32.toNatClampNeg x2)))), .int (2), .ref 58, .int x2, .ref 107] sw s256 169 [.ref 58, .int (2), .int (s.1 97 (Int32.toNatClampNeg (s.1 104 (Int32.toNatClampNeg x2)))), .int v256] [.int x2, .ref 107] (fun _ => rfl) rfl (fun _ _ e9 => r_X12_says (d + 0) sw _ _ _ _ _ _ e9) am_pl20 (fun v259 s259 => ?_)
        refine sm_iast 0 262 [.ref 58, .int x1, .int x2, .int (s.1 97 (Int32.toNatClampNeg (s.1 104 (Int32.toNatClampNeg x2)))), .null] [] sw s259 (i := x2) (x := v259) (c := 107) (fun _ => rfl) rfl rfl rfl ?_
        refine sm_iald 4 269 [.ref 58, .int x1, .int x2, .int (s.1 97 (Int32.toNatClampNeg (s.1 104 (Int32.toNatClampNeg x2)))), .null] [.int (s.1 97 (Int32.toNatClampNeg (s.1 104 (Int32.toNatClampNeg x2)))), .ref 86] (am_hp sw (am_wI s259 107 (Int32.toNatClampNeg x2) v259)) (i := (s.1 97 (Int32.toNatClampNeg (s.1 104 (Int32.toNatClampNeg x2))))) (c := 86) (fun _ => rfl) rfl rfl rfl rfl ?_
        refine sm_iald 3 275 [.ref 58, .int x1, .int x2, .int (s.1 97 (Int32.toNatClampNeg (s.1 104 (Int32.toNatClampNeg x2)))), .null] [.int (s259.1 86 (Int32.toNatClampNeg (s.1 97 (Int32.toNatClampNeg (s.1 104 (Int32.toNatClampNeg x2)))))), .int (s.1 97 (Int32.toNatClampNeg (s.1 104 (Int32.toNatClampNeg x2)))), .ref 86] (am_hp sw (am_wI s259 107 (Int32.toNatClampNeg x2) v259)) (i := x2) (c := 107) (fun _ => rfl) rfl rfl rfl rfl ?_
        refine sm_iast 1 277 [.ref 58, .int x1, .int x2, .int (s.1 97 (Int32.toNatClampNeg (s.1 104 (Int32.toNatClampNeg x2)))), .null] [] sw (am_wI s259 107 (Int32.toNatClampNeg x2) v259) (i := (s.1 97 (Int32.toNatClampNeg (s.1 104 (Int32.toNatClampNeg x2))))) (x := ((s259.1 86 (Int32.toNatClampNeg (s.1 97 (Int32.toNatClampNeg (s.1 104 (Int32.toNatClampNeg x2)))))) + ((am_wI s259 107 (Int32.toNatClampNeg x2) v259).1 107 (Int32.toNatClampNeg x2)))) (c := 86) (fun _ => rfl) rfl rfl rfl ?_
        refine sm_fg [.ref 58, .int x1, .int x2, .null, .null] ⟨Or.inr rfl, Or.inr rfl, Or.inr rfl, Or.inl rfl, Or.inl rfl, trivial⟩ ?_
        exact hj278 (am_wI (am_wI s259 107 (Int32.toNatClampNeg x2) v259) 86 (Int32.toNatClampNeg (s.1 97 (Int32.toNatClampNeg (s.1 104 (Int32.toNatClampNeg x2))))) ((s259.1 86 (Int32.toNatClampNeg (s.1 97 (Int32.toNatClampNeg (s.1 104 (Int32.toNatClampNeg x2)))))) + ((am_wI s259 107 (Int32.toNatClampNeg x2) v259).1 107 (Int32.toNatClampNeg x2))))
    · refine sm_fg [.ref 58, .int x1, .null, .null, .null] ⟨Or.inr rfl, Or.inr rfl, Or.inl rfl, Or.inl rfl, Or.inl rfl, trivial⟩ ?_
      exact sm_ex (fun _ _ h => h.2)

set_option maxRecDepth 20000 in
theorem r_X12_box (d : Nat) (sw : Bool) (s s' : am_S) (v : Int32) (e : f_X12_box s = some (v, s')) : am_Run (d + 4) 186 [.ref 58] (am_hp sw s) (am_cI v) (am_hp sw s') := by
  refine am_Run.of (M := mt_X12_box) (cvf := am_cI) (X := f_X12_box s) rfl rfl rfl (by simp) ?_ e
  unfold f_X12_box
  show am_Sm tb_X12_box 12 false none (some .int) (d + 3) (am_po am_cI sw) _ 0 [.ref 58, .null, .null, .null, .null] [] (am_hp sw s)
  refine sm_call (cvf := am_cU) 1 1 [.ref 58, .null, .null, .null, .null] [.ref 58] sw s 180 [.ref 58] [] (fun _ => rfl) rfl (fun _ _ e9 => r_X12_counts (d + 1) sw _ _  _ e9) am_po20 (fun _v s1 => ?_)
  refine sm_go 4 8 [.ref 58, .int (0), .int (1), .null, .null] [] (am_hp sw s1) (fun _ => rfl) ?_
  refine sm_lp 43 (fun y8 => [.ref 58, .int y8, .null, .null, .null]) (l_X12_box_8 d sw am_FU (0) (1) s1) (fun _ _ _ h => h) am_po20 (fun y8 s8 => ?_)
  refine sm_go 2 45 [.ref 58, .int y8, .int (0), .null, .null] [] (am_hp sw s8) (fun _ => rfl) ?_
  refine sm_lp 66 (fun _y => [.ref 58, .int y8, .null, .null, .null]) (l_X12_box_45 d sw am_FU y8 (0) s8) (fun _ _ _ h => h) am_po20 (fun _y s45 => ?_)
  refine sm_go 2 68 [.ref 58, .int y8, .int (0), .null, .null] [] (am_hp sw s45) (fun _ => rfl) ?_
  refine sm_lp 168 (fun _y => [.ref 58, .int y8, .null, .null, .null]) (l_X12_box_68 d sw am_FU y8 (0) s45) (fun _ _ _ h => h) am_po20 (fun _y s68 => ?_)
  refine sm_go 2 170 [.ref 58, .int y8, .int (0), .null, .null] [] (am_hp sw s68) (fun _ => rfl) ?_
  refine sm_lp 212 (fun _y => [.ref 58, .int y8, .null, .null, .null]) (l_X12_box_170 d sw am_FU y8 (0) s68) (fun _ _ _ h => h) am_po20 (fun _y s170 => ?_)
  refine sm_go 2 214 [.ref 58, .int y8, .int (0), .null, .null] [] (am_hp sw s170) (fun _ => rfl) ?_
  refine sm_lp 284 (fun _y => [.ref 58, .int y8, .null, .null, .null]) (l_X12_box_214 d sw am_FU y8 (0) s170) (fun _ _ _ h => h) am_po20 (fun _y s214 => ?_)
  refine sm_call (cvf := am_cI) 2 286 [.ref 58, .int y8, .null, .null, .null] [.int y8, .ref 58] sw s214 184 [.ref 58, .int y8] [] (fun _ => rfl) rfl (fun _ _ e9 => r_X12_worthOf (d + 2) sw _ _ _ _ e9) am_po20 (fun v286 s286 => ?_)
  exact sm_ret 0 289 [.ref 58, .int y8, .null, .null, .null] [.int v286] (am_hp sw s286) (some (.int v286)) (fun _ => rfl) rfl (fun _ _ h => h)

def f_X12_refuse_L24 : Nat → Int32 → Int32 → Int32 → am_S → Option ((Int32 × am_S) ⊕ ((Int32) × am_S))
  | 0, _, _, _, _ => none
  | n + 1, x1, x2, x3, s => if x3 < (s.1 58 66) then (am_gu (am_in x3 400) (am_jn (fun (p87 : Int32 × am_S) => f_X12_refuse_L24 n x1 p87.1 (x3 + 1) p87.2) (fun j87 => if (s.1 106 (Int32.toNatClampNeg x3)) = x1 then (am_gu (am_in x3 400) (am_gu (am_in x3 400) (am_gu (am_in (s.1 104 (Int32.toNatClampNeg x3)) 200) (am_gu (am_in (s.1 97 (Int32.toNatClampNeg (s.1 104 (Int32.toNatClampNeg x3)))) 8) (am_gu (am_in x3 400) (am_gu (am_in (s.1 97 (Int32.toNatClampNeg (s.1 104 (Int32.toNatClampNeg x3)))) 8) (am_gu (am_in x3 400) (j87 ((x2 + 1), (am_wI (am_wI (am_wI s 106 (Int32.toNatClampNeg x3) (-1)) 86 (Int32.toNatClampNeg (s.1 97 (Int32.toNatClampNeg (s.1 104 (Int32.toNatClampNeg x3))))) ((s.1 86 (Int32.toNatClampNeg (s.1 97 (Int32.toNatClampNeg (s.1 104 (Int32.toNatClampNeg x3)))))) - (s.1 107 (Int32.toNatClampNeg x3)))) 107 (Int32.toNatClampNeg x3) (0))))))))))) else (j87 (x2, s))))) else (some (.inr (x2, s)))
def f_X12_refuse (s : am_S) (x1 : Int32) : Option (Int32 × am_S) := am_bd (f_X12_isOrder s x1) (fun v2 s2 => if v2 = 0 then (some ((-1), s2)) else (am_gu (am_in x1 8) (if (s2.1 111 (Int32.toNatClampNeg x1)) = 1 then (am_lp (fun y => y) (f_X12_refuse_L24 am_FU x1 (0) (0) s2) (fun y24 s24 => am_gu (am_in x1 8) (some (y24, (am_wI s24 111 (Int32.toNatClampNeg x1) (2)))))) else (some ((-1), s2)))))
set_option maxRecDepth 20000 in
theorem l_X12_refuse_24 (d : Nat) (sw : Bool) : ∀ (n : Nat) (x1 : Int32) (x2 : Int32) (x3 : Int32) (s : am_S), am_Sm tb_X12_refuse 12 false none (some .int) (d + 1) (am_pl am_cI sw (fun (v9 : Int32) s9 r h9 => am_Ex tb_X12_refuse 12 false none (some .int) (d + 1) r h9 93 [.ref 58, .int x1, .int v9, .null] [] (am_hp sw s9))) (f_X12_refuse_L24 n x1 x2 x3 s) 24 [.ref 58, .int x1, .int x2, .int x3] [] (am_hp sw s) := by
  intro n
  induction n with
  | zero => intro x1 x2 x3 s; exact sm_no
  | succ n ih =>
    intro x1 x2 x3 s
    rw [f_X12_refuse_L24]
    refine sm_br 4 32 93 [.ref 58, .int x1, .int x2, .int x3] [] (am_hp sw s) (fun _ => rfl) (fun _ => ?_) (fun _ => ?_)
    · refine sm_iald 3 37 [.ref 58, .int x1, .int x2, .int x3] [] (am_hp sw s) (i := x3) (c := 106) (fun _ => rfl) rfl rfl rfl rfl ?_
      refine sm_go 1 39 [.ref 58, .int x1, .int x2, .int x3] [.int x1, .int (s.1 106 (Int32.toNatClampNeg x3))] (am_hp sw s) (fun _ => rfl) ?_
      refine sm_jn 87 (fun p87 => [.ref 58, .int x1, .int p87.1, .int x3]) (fun p87 => []) (fun p87 => (am_hp sw p87.2)) (fun p87 => ?_) (fun j87 hj87 => ?_)
      · refine sm_go 2 24 [.ref 58, .int x1, .int p87.1, .int (x3 + 1)] [] (am_hp sw p87.2) (fun _ => rfl) ?_
        exact ih x1 p87.1 (x3 + 1) p87.2
      refine sm_br 1 45 42 [.ref 58, .int x1, .int x2, .int x3] [] (am_hp sw s) (fun _ => rfl) (fun _ => ?_) (fun _ => ?_)
      · refine sm_iast 4 51 [.ref 58, .int x1, .int x2, .int x3] [] sw s (i := x3) (x := (-1)) (c := 106) (fun _ => rfl) rfl rfl rfl ?_
        refine sm_iald 7 65 [.ref 58, .int x1, .int x2, .int x3] [.ref 97, .ref 86] (am_hp sw (am_wI s 106 (Int32.toNatClampNeg x3) (-1))) (i := x3) (c := 104) (fun _ => rfl) rfl rfl rfl rfl ?_
        refine sm_iald 0 66 [.ref 58, .int x1, .int x2, .int x3] [.ref 86] (am_hp sw (am_wI s 106 (Int32.toNatClampNeg x3) (-1))) (i := (s.1 104 (Int32.toNatClampNeg x3))) (c := 97) (fun _ => rfl) rfl rfl rfl rfl ?_
        refine sm_iald 1 68 [.ref 58, .int x1, .int x2, .int x3] [.int (s.1 97 (Int32.toNatClampNeg (s.1 104 (Int32.toNatClampNeg x3)))), .ref 86] (am_hp sw (am_wI s 106 (Int32.toNatClampNeg x3) (-1))) (i := (s.1 97 (Int32.toNatClampNeg (s.1 104 (Int32.toNatClampNeg x3))))) (c := 86) (fun _ => rfl) rfl rfl rfl rfl ?_
        refine sm_iald 3 74 [.ref 58, .int x1, .int x2, .int x3] [.int (s.1 86 (Int32.toNatClampNeg (s.1 97 (Int32.toNatClampNeg (s.1 104 (Int32.toNatClampNeg x3)))))), .int (s.1 97 (Int32.toNatClampNeg (s.1 104 (Int32.toNatClampNeg x3)))), .ref 86] (am_hp sw (am_wI s 106 (Int32.toNatClampNeg x3) (-1))) (i := x3) (c := 107) (fun _ => rfl) rfl rfl rfl rfl ?_
        refine sm_iast 1 76 [.ref 58, .int x1, .int x2, .int x3] [] sw (am_wI s 106 (Int32.toNatClampNeg x3) (-1)) (i := (s.1 97 (Int32.toNatClampNeg (s.1 104 (Int32.toNatClampNeg x3))))) (x := ((s.1 86 (Int32.toNatClampNeg (s.1 97 (Int32.toNatClampNeg (s.1 104 (Int32.toNatClampNeg x3)))))) - (s.1 107 (Int32.toNatClampNeg x3)))) (c := 86) (fun _ => rfl) rfl rfl rfl ?_
        refine sm_iast 4 83 [.ref 58, .int x1, .int x2, .int x3] [] sw (am_wI (am_wI s 106 (Int32.toNatClampNeg x3) (-1)) 86 (Int32.toNatClampNeg (s.1 97 (Int32.toNatClampNeg (s.1 104 (Int32.toNatClampNeg x3))))) ((s.1 86 (Int32.toNatClampNeg (s.1 97 (Int32.toNatClampNeg (s.1 104 (Int32.toNatClampNeg x3)))))) - (s.1 107 (Int32.toNatClampNeg x3)))) (i := x3) (x := (0)) (c := 107) (fun _ => rfl) rfl rfl rfl ?_
        refine sm_go 1 87 [.ref 58, .int x1, .int (x2 + 1), .int x3] [] (am_hp sw (am_wI (am_wI (am_wI s 106 (Int32.toNatClampNeg x3) (-1)) 86 (Int32.toNatClampNeg (s.1 97 (Int32.toNatClampNeg (s.1 104 (Int32.toNatClampNeg x3))))) ((s.1 86 (Int32.toNatClampNeg (s.1 97 (Int32.toNatClampNeg (s.1 104 (Int32.toNatClampNeg x3)))))) - (s.1 107 (Int32.toNatClampNeg x3)))) 107 (Int32.toNatClampNeg x3) (0))) (fun _ => rfl) ?_
        exact hj87 ((x2 + 1), (am_wI (am_wI (am_wI s 106 (Int32.toNatClampNeg x3) (-1)) 86 (Int32.toNatClampNeg (s.1 97 (Int32.toNatClampNeg (s.1 104 (Int32.toNatClampNeg x3))))) ((s.1 86 (Int32.toNatClampNeg (s.1 97 (Int32.toNatClampNeg (s.1 104 (Int32.toNatClampNeg x3)))))) - (s.1 107 (Int32.toNatClampNeg x3)))) 107 (Int32.toNatClampNeg x3) (0)))
      · refine sm_go 1 87 [.ref 58, .int x1, .int x2, .int x3] [] (am_hp sw s) (fun _ => rfl) ?_
        exact hj87 (x2, s)
    · refine sm_fg [.ref 58, .int x1, .int x2, .null] ⟨Or.inr rfl, Or.inr rfl, Or.inr rfl, Or.inl rfl, trivial⟩ ?_
      exact sm_ex (fun _ _ h => h.2)

set_option maxRecDepth 20000 in
theorem r_X12_refuse (d : Nat) (sw : Bool) (s s' : am_S) (x1 : Int32) (v : Int32) (e : f_X12_refuse s x1 = some (v, s')) : am_Run (d + 2) 188 [.ref 58, .int x1] (am_hp sw s) (am_cI v) (am_hp sw s') := by
  refine am_Run.of (M := mt_X12_refuse) (cvf := am_cI) (X := f_X12_refuse s x1) rfl rfl rfl (by simp) ?_ e
  unfold f_X12_refuse
  show am_Sm tb_X12_refuse 12 false none (some .int) (d + 1) (am_po am_cI sw) _ 0 [.ref 58, .int x1, .null, .null] [] (am_hp sw s)
  refine sm_call (cvf := am_cI) 2 2 [.ref 58, .int x1, .null, .null] [.int x1, .ref 58] sw s 178 [.ref 58, .int x1] [] (fun _ => rfl) rfl (fun _ _ e9 => r_X12_isOrder (d + 0) sw _ _ _ _ e9) am_po20 (fun v2 s2 => ?_)
  refine sm_br 1 18 8 [.ref 58, .int x1, .null, .null] [] (am_hp sw s2) (fun _ => rfl) (fun _ => ?_) (fun _ => ?_)
  · exact sm_ret 1 19 [.ref 58, .int x1, .null, .null] [.int (-1)] (am_hp sw s2) (some (.int (-1))) (fun _ => rfl) rfl (fun _ _ h => h)
  · refine sm_iald 3 13 [.ref 58, .int x1, .null, .null] [] (am_hp sw s2) (i := x1) (c := 111) (fun _ => rfl) rfl rfl rfl rfl ?_
    refine sm_br 2 20 18 [.ref 58, .int x1, .null, .null] [] (am_hp sw s2) (fun _ => rfl) (fun _ => ?_) (fun _ => ?_)
    · refine sm_go 4 24 [.ref 58, .int x1, .int (0), .int (0)] [] (am_hp sw s2) (fun _ => rfl) ?_
      refine sm_lp 93 (fun y24 => [.ref 58, .int x1, .int y24, .null]) (l_X12_refuse_24 d sw am_FU x1 (0) (0) s2) (fun _ _ _ h => h) am_po20 (fun y24 s24 => ?_)
      refine sm_iast 4 99 [.ref 58, .int x1, .int y24, .null] [] sw s24 (i := x1) (x := (2)) (c := 111) (fun _ => rfl) rfl rfl rfl ?_
      exact sm_ret 1 101 [.ref 58, .int x1, .int y24, .null] [.int y24] (am_hp sw (am_wI s24 111 (Int32.toNatClampNeg x1) (2))) (some (.int y24)) (fun _ => rfl) rfl (fun _ _ h => h)
    · exact sm_ret 1 19 [.ref 58, .int x1, .null, .null] [.int (-1)] (am_hp sw s2) (some (.int (-1))) (fun _ => rfl) rfl (fun _ _ h => h)

def f_X12_ring (s : am_S) (x1 : Int32) (x2 : Int32) : Option (Int32 × am_S) := if x1 < 0 then (some ((-1), s)) else (if x1 < (s.1 58 55) then (if x2 = 0 then (am_gu (am_in x1 200) (some ((s.1 94 (Int32.toNatClampNeg x1)), s))) else if x2 = 1 then (am_gu (am_in x1 200) (some ((s.1 95 (Int32.toNatClampNeg x1)), s))) else if x2 = 2 then (am_gu (am_in x1 200) (some ((s.1 96 (Int32.toNatClampNeg x1)), s))) else if x2 = 3 then (am_gu (am_in x1 200) (some ((s.1 97 (Int32.toNatClampNeg x1)), s))) else if x2 = 4 then (am_gu (am_in x1 200) (some ((s.1 98 (Int32.toNatClampNeg x1)), s))) else (some ((-1), s))) else (some ((-1), s)))
set_option maxRecDepth 20000 in
theorem r_X12_ring (d : Nat) (sw : Bool) (s s' : am_S) (x1 : Int32) (x2 : Int32) (v : Int32) (e : f_X12_ring s x1 x2 = some (v, s')) : am_Run (d + 1) 189 [.ref 58, .int x1, .int x2] (am_hp sw s) (am_cI v) (am_hp sw s') := by
  refine am_Run.of (M := mt_X12_ring) (cvf := am_cI) (X := f_X12_ring s x1 x2) rfl rfl rfl (by simp) ?_ e
  unfold f_X12_ring
  show am_Sm tb_X12_ring 12 false none (some .int) (d + 0) (am_po am_cI sw) _ 0 [.ref 58, .int x1, .int x2] [] (am_hp sw s)
  refine sm_br 2 12 4 [.ref 58, .int x1, .int x2] [] (am_hp sw s) (fun _ => rfl) (fun _ => ?_) (fun _ => ?_)
  · exact sm_ret 1 13 [.ref 58, .int x1, .int x2] [.int (-1)] (am_hp sw s) (some (.int (-1))) (fun _ => rfl) rfl (fun _ _ h => h)
  · refine sm_br 4 14 12 [.ref 58, .int x1, .int x2] [] (am_hp sw s) (fun _ => rfl) (fun _ => ?_) (fun _ => ?_)
    · refine sm_go 2 (am_sw x2 (0) 83 [48, 55, 62, 69, 76]) [.ref 58, .int x1, .int x2] [] (am_hp sw s) (fun _ => rfl) ?_
      refine sm_sw1 1 (by decide) (fun _ => ?_) (fun _ => ?_)
      · refine sm_iald 3 53 [.ref 58, .int x1, .int x2] [] (am_hp sw s) (i := x1) (c := 94) (fun _ => rfl) rfl rfl rfl rfl ?_
        exact sm_ret 0 54 [.ref 58, .int x1, .int x2] [.int (s.1 94 (Int32.toNatClampNeg x1))] (am_hp sw s) (some (.int (s.1 94 (Int32.toNatClampNeg x1)))) (fun _ => rfl) rfl (fun _ _ h => h)
      refine sm_sw1 2 (by decide) (fun _ => ?_) (fun _ => ?_)
      · refine sm_iald 3 60 [.ref 58, .int x1, .int x2] [] (am_hp sw s) (i := x1) (c := 95) (fun _ => rfl) rfl rfl rfl rfl ?_
        exact sm_ret 0 61 [.ref 58, .int x1, .int x2] [.int (s.1 95 (Int32.toNatClampNeg x1))] (am_hp sw s) (some (.int (s.1 95 (Int32.toNatClampNeg x1)))) (fun _ => rfl) rfl (fun _ _ h => h)
      refine sm_sw1 3 (by decide) (fun _ => ?_) (fun _ => ?_)
      · refine sm_iald 3 67 [.ref 58, .int x1, .int x2] [] (am_hp sw s) (i := x1) (c := 96) (fun _ => rfl) rfl rfl rfl rfl ?_
        exact sm_ret 0 68 [.ref 58, .int x1, .int x2] [.int (s.1 96 (Int32.toNatClampNeg x1))] (am_hp sw s) (some (.int (s.1 96 (Int32.toNatClampNeg x1)))) (fun _ => rfl) rfl (fun _ _ h => h)
      refine sm_sw1 4 (by decide) (fun _ => ?_) (fun _ => ?_)
      · refine sm_iald 3 74 [.ref 58, .int x1, .int x2] [] (am_hp sw s) (i := x1) (c := 97) (fun _ => rfl) rfl rfl rfl rfl ?_
        exact sm_ret 0 75 [.ref 58, .int x1, .int x2] [.int (s.1 97 (Int32.toNatClampNeg x1))] (am_hp sw s) (some (.int (s.1 97 (Int32.toNatClampNeg x1)))) (fun _ => rfl) rfl (fun _ _ h => h)
      refine sm_sw1 5 (by decide) (fun _ => ?_) (fun _ => ?_)
      · refine sm_iald 3 81 [.ref 58, .int x1, .int x2] [] (am_hp sw s) (i := x1) (c := 98) (fun _ => rfl) rfl rfl rfl rfl ?_
        exact sm_ret 0 82 [.ref 58, .int x1, .int x2] [.int (s.1 98 (Int32.toNatClampNeg x1))] (am_hp sw s) (some (.int (s.1 98 (Int32.toNatClampNeg x1)))) (fun _ => rfl) rfl (fun _ _ h => h)
      refine sm_sw0 ?_
      exact sm_ret 1 84 [.ref 58, .int x1, .int x2] [.int (-1)] (am_hp sw s) (some (.int (-1))) (fun _ => rfl) rfl (fun _ _ h => h)
    · exact sm_ret 1 13 [.ref 58, .int x1, .int x2] [.int (-1)] (am_hp sw s) (some (.int (-1))) (fun _ => rfl) rfl (fun _ _ h => h)

def f_X12_figure (s : am_S) (x1 : Int32) (x2 : Int32) : Option (Int32 × am_S) := am_bd (f_X12_isFigure s x1) (fun v2 s2 => if v2 = 0 then (some ((-1), s2)) else (if x2 = 0 then (am_gu (am_in x1 400) (some ((s2.1 104 (Int32.toNatClampNeg x1)), s2))) else if x2 = 1 then (am_gu (am_in x1 400) (am_gu (am_in (s2.1 104 (Int32.toNatClampNeg x1)) 200) (some ((s2.1 94 (Int32.toNatClampNeg (s2.1 104 (Int32.toNatClampNeg x1)))), s2)))) else if x2 = 2 then (am_bd (f_X12_kindOf s2 x1) (fun v77 s77 => some (v77, s77))) else if x2 = 3 then (am_gu (am_in x1 400) (am_gu (am_in (s2.1 104 (Int32.toNatClampNeg x1)) 200) (some ((s2.1 97 (Int32.toNatClampNeg (s2.1 104 (Int32.toNatClampNeg x1)))), s2)))) else if x2 = 4 then (am_gu (am_in x1 400) (some ((s2.1 105 (Int32.toNatClampNeg x1)), s2))) else if x2 = 5 then (am_gu (am_in x1 400) (some ((s2.1 106 (Int32.toNatClampNeg x1)), s2))) else if x2 = 6 then (am_gu (am_in x1 400) (some ((s2.1 107 (Int32.toNatClampNeg x1)), s2))) else if x2 = 7 then (am_gu (am_in x1 400) (some ((s2.1 108 (Int32.toNatClampNeg x1)), s2))) else (some ((-1), s2))))
set_option maxRecDepth 20000 in
theorem r_X12_figure (d : Nat) (sw : Bool) (s s' : am_S) (x1 : Int32) (x2 : Int32) (v : Int32) (e : f_X12_figure s x1 x2 = some (v, s')) : am_Run (d + 2) 190 [.ref 58, .int x1, .int x2] (am_hp sw s) (am_cI v) (am_hp sw s') := by
  refine am_Run.of (M := mt_X12_figure) (cvf := am_cI) (X := f_X12_figure s x1 x2) rfl rfl rfl (by simp) ?_ e
  unfold f_X12_figure
  show am_Sm tb_X12_figure 12 false none (some .int) (d + 1) (am_po am_cI sw) _ 0 [.ref 58, .int x1, .int x2] [] (am_hp sw s)
  refine sm_call (cvf := am_cI) 2 2 [.ref 58, .int x1, .int x2] [.int x1, .ref 58] sw s 173 [.ref 58, .int x1] [] (fun _ => rfl) rfl (fun _ _ e9 => r_X12_isFigure (d + 0) sw _ _ _ _ e9) am_po20 (fun v2 s2 => ?_)
  refine sm_br 1 8 10 [.ref 58, .int x1, .int x2] [] (am_hp sw s2) (fun _ => rfl) (fun _ => ?_) (fun _ => ?_)
  · exact sm_ret 1 9 [.ref 58, .int x1, .int x2] [.int (-1)] (am_hp sw s2) (some (.int (-1))) (fun _ => rfl) rfl (fun _ _ h => h)
  · refine sm_go 2 (am_sw x2 (0) 121 [56, 63, 75, 81, 93, 100, 107, 114]) [.ref 58, .int x1, .int x2] [] (am_hp sw s2) (fun _ => rfl) ?_
    refine sm_sw1 1 (by decide) (fun _ => ?_) (fun _ => ?_)
    · refine sm_iald 3 61 [.ref 58, .int x1, .int x2] [] (am_hp sw s2) (i := x1) (c := 104) (fun _ => rfl) rfl rfl rfl rfl ?_
      exact sm_ret 0 62 [.ref 58, .int x1, .int x2] [.int (s2.1 104 (Int32.toNatClampNeg x1))] (am_hp sw s2) (some (.int (s2.1 104 (Int32.toNatClampNeg x1)))) (fun _ => rfl) rfl (fun _ _ h => h)
    refine sm_sw1 2 (by decide) (fun _ => ?_) (fun _ => ?_)
    · refine sm_iald 5 72 [.ref 58, .int x1, .int x2] [.ref 94] (am_hp sw s2) (i := x1) (c := 104) (fun _ => rfl) rfl rfl rfl rfl ?_
      refine sm_iald 0 73 [.ref 58, .int x1, .int x2] [] (am_hp sw s2) (i := (s2.1 104 (Int32.toNatClampNeg x1))) (c := 94) (fun _ => rfl) rfl rfl rfl rfl ?_
      exact sm_ret 0 74 [.ref 58, .int x1, .int x2] [.int (s2.1 94 (Int32.toNatClampNeg (s2.1 104 (Int32.toNatClampNeg x1))))] (am_hp sw s2) (some (.int (s2.1 94 (Int32.toNatClampNeg (s2.1 104 (Int32.toNatClampNeg x1)))))) (fun _ => rfl) rfl (fun _ _ h => h)
    refine sm_sw1 3 (by decide) (fun _ => ?_) (fun _ => ?_)
    · refine sm_call (cvf := am_cI) 2 77 [.ref 58, .int x1, .int x2] [.int x1, .ref 58] sw s2 175 [.ref 58, .int x1] [] (fun _ => rfl) rfl (fun _ _ e9 => r_X12_kindOf (d + 0) sw _ _ _ _ e9) am_po20 (fun v77 s77 => ?_)
      exact sm_ret 0 80 [.ref 58, .int x1, .int x2] [.int v77] (am_hp sw s77) (some (.int v77)) (fun _ => rfl) rfl (fun _ _ h => h)
    refine sm_sw1 4 (by decide) (fun _ => ?_) (fun _ => ?_)
    · refine sm_iald 5 90 [.ref 58, .int x1, .int x2] [.ref 97] (am_hp sw s2) (i := x1) (c := 104) (fun _ => rfl) rfl rfl rfl rfl ?_
      refine sm_iald 0 91 [.ref 58, .int x1, .int x2] [] (am_hp sw s2) (i := (s2.1 104 (Int32.toNatClampNeg x1))) (c := 97) (fun _ => rfl) rfl rfl rfl rfl ?_
      exact sm_ret 0 92 [.ref 58, .int x1, .int x2] [.int (s2.1 97 (Int32.toNatClampNeg (s2.1 104 (Int32.toNatClampNeg x1))))] (am_hp sw s2) (some (.int (s2.1 97 (Int32.toNatClampNeg (s2.1 104 (Int32.toNatClampNeg x1)))))) (fun _ => rfl) rfl (fun _ _ h => h)
    refine sm_sw1 5 (by decide) (fun _ => ?_) (fun _ => ?_)
    · refine sm_iald 3 98 [.ref 58, .int x1, .int x2] [] (am_hp sw s2) (i := x1) (c := 105) (fun _ => rfl) rfl rfl rfl rfl ?_
      exact sm_ret 0 99 [.ref 58, .int x1, .int x2] [.int (s2.1 105 (Int32.toNatClampNeg x1))] (am_hp sw s2) (some (.int (s2.1 105 (Int32.toNatClampNeg x1)))) (fun _ => rfl) rfl (fun _ _ h => h)
    refine sm_sw1 6 (by decide) (fun _ => ?_) (fun _ => ?_)
    · refine sm_iald 3 105 [.ref 58, .int x1, .int x2] [] (am_hp sw s2) (i := x1) (c := 106) (fun _ => rfl) rfl rfl rfl rfl ?_
      exact sm_ret 0 106 [.ref 58, .int x1, .int x2] [.int (s2.1 106 (Int32.toNatClampNeg x1))] (am_hp sw s2) (some (.int (s2.1 106 (Int32.toNatClampNeg x1)))) (fun _ => rfl) rfl (fun _ _ h => h)
    refine sm_sw1 7 (by decide) (fun _ => ?_) (fun _ => ?_)
    · refine sm_iald 3 112 [.ref 58, .int x1, .int x2] [] (am_hp sw s2) (i := x1) (c := 107) (fun _ => rfl) rfl rfl rfl rfl ?_
      exact sm_ret 0 113 [.ref 58, .int x1, .int x2] [.int (s2.1 107 (Int32.toNatClampNeg x1))] (am_hp sw s2) (some (.int (s2.1 107 (Int32.toNatClampNeg x1)))) (fun _ => rfl) rfl (fun _ _ h => h)
    refine sm_sw1 8 (by decide) (fun _ => ?_) (fun _ => ?_)
    · refine sm_iald 3 119 [.ref 58, .int x1, .int x2] [] (am_hp sw s2) (i := x1) (c := 108) (fun _ => rfl) rfl rfl rfl rfl ?_
      exact sm_ret 0 120 [.ref 58, .int x1, .int x2] [.int (s2.1 108 (Int32.toNatClampNeg x1))] (am_hp sw s2) (some (.int (s2.1 108 (Int32.toNatClampNeg x1)))) (fun _ => rfl) rfl (fun _ _ h => h)
    refine sm_sw0 ?_
    exact sm_ret 1 122 [.ref 58, .int x1, .int x2] [.int (-1)] (am_hp sw s2) (some (.int (-1))) (fun _ => rfl) rfl (fun _ _ h => h)

def f_X12_packed_L19 : Nat → Int32 → Int32 → Int32 → am_S → Option ((Int32 × am_S) ⊕ ((Unit) × am_S))
  | 0, _, _, _, _ => none
  | n + 1, x1, x3, x4, s => if x4 < (s.1 58 66) then (am_gu (am_in x4 400) (am_jn (fun (p52 : Int32 × am_S) => f_X12_packed_L19 n x1 p52.1 (x4 + 1) p52.2) (fun j52 => if (s.1 106 (Int32.toNatClampNeg x4)) = x1 then (if x3 = 0 then (some (.inl (x4, s))) else (j52 ((x3 + (-1)), s))) else (j52 (x3, s))))) else (some (.inr ((), s)))
def f_X12_packed (s : am_S) (x1 : Int32) (x2 : Int32) : Option (Int32 × am_S) := am_bd (f_X12_isOrder s x1) (fun v2 s2 => if v2 = 0 then (some ((-1), s2)) else (if x2 < 0 then (some ((-1), s2)) else (am_lp (fun y => y) (f_X12_packed_L19 am_FU x1 x2 (0) s2) (fun (_ : Unit) s19 => some ((-1), s19)))))
set_option maxRecDepth 20000 in
theorem l_X12_packed_19 (d : Nat) (sw : Bool) : ∀ (n : Nat) (x1 : Int32) (x3 : Int32) (x4 : Int32) (s : am_S), am_Sm tb_X12_packed 12 false none (some .int) (d + 1) (am_pl am_cI sw (fun (v9 : Unit) s9 r h9 => am_Ex tb_X12_packed 12 false none (some .int) (d + 1) r h9 58 [.null, .null, .null, .null, .null] [] (am_hp sw s9))) (f_X12_packed_L19 n x1 x3 x4 s) 19 [.ref 58, .int x1, .null, .int x3, .int x4] [] (am_hp sw s) := by
  intro n
  induction n with
  | zero => intro x1 x3 x4 s; exact sm_no
  | succ n ih =>
    intro x1 x3 x4 s
    rw [f_X12_packed_L19]
    refine sm_br 4 28 58 [.ref 58, .int x1, .null, .int x3, .int x4] [] (am_hp sw s) (fun _ => rfl) (fun _ => ?_) (fun _ => ?_)
    · refine sm_iald 3 34 [.ref 58, .int x1, .null, .int x3, .int x4] [] (am_hp sw s) (i := x4) (c := 106) (fun _ => rfl) rfl rfl rfl rfl ?_
      refine sm_go 1 36 [.ref 58, .int x1, .null, .int x3, .int x4] [.int x1, .int (s.1 106 (Int32.toNatClampNeg x4))] (am_hp sw s) (fun _ => rfl) ?_
      refine sm_jn 52 (fun p52 => [.ref 58, .int x1, .null, .int p52.1, .int x4]) (fun p52 => []) (fun p52 => (am_hp sw p52.2)) (fun p52 => ?_) (fun j52 hj52 => ?_)
      · refine sm_go 2 19 [.ref 58, .int x1, .null, .int p52.1, .int (x4 + 1)] [] (am_hp sw p52.2) (fun _ => rfl) ?_
        exact ih x1 p52.1 (x4 + 1) p52.2
      refine sm_br 1 42 39 [.ref 58, .int x1, .null, .int x3, .int x4] [] (am_hp sw s) (fun _ => rfl) (fun _ => ?_) (fun _ => ?_)
      · refine sm_br 2 46 49 [.ref 58, .int x1, .null, .int x3, .int x4] [] (am_hp sw s) (fun _ => rfl) (fun _ => ?_) (fun _ => ?_)
        · exact sm_ret 1 48 [.ref 58, .int x1, .null, .int x3, .int x4] [.int x4] (am_hp sw s) (some (.int x4)) (fun _ => rfl) rfl (fun _ _ h => h)
        · refine sm_go 1 52 [.ref 58, .int x1, .null, .int (x3 + (-1)), .int x4] [] (am_hp sw s) (fun _ => rfl) ?_
          exact hj52 ((x3 + (-1)), s)
      · refine sm_go 1 52 [.ref 58, .int x1, .null, .int x3, .int x4] [] (am_hp sw s) (fun _ => rfl) ?_
        exact hj52 (x3, s)
    · refine sm_fg [.null, .null, .null, .null, .null] ⟨Or.inl rfl, Or.inl rfl, Or.inl rfl, Or.inl rfl, Or.inl rfl, trivial⟩ ?_
      exact sm_ex (fun _ _ h => h.2)

set_option maxRecDepth 20000 in
theorem r_X12_packed (d : Nat) (sw : Bool) (s s' : am_S) (x1 : Int32) (x2 : Int32) (v : Int32) (e : f_X12_packed s x1 x2 = some (v, s')) : am_Run (d + 2) 191 [.ref 58, .int x1, .int x2] (am_hp sw s) (am_cI v) (am_hp sw s') := by
  refine am_Run.of (M := mt_X12_packed) (cvf := am_cI) (X := f_X12_packed s x1 x2) rfl rfl rfl (by simp) ?_ e
  unfold f_X12_packed
  show am_Sm tb_X12_packed 12 false none (some .int) (d + 1) (am_po am_cI sw) _ 0 [.ref 58, .int x1, .int x2, .null, .null] [] (am_hp sw s)
  refine sm_call (cvf := am_cI) 2 2 [.ref 58, .int x1, .int x2, .null, .null] [.int x1, .ref 58] sw s 178 [.ref 58, .int x1] [] (fun _ => rfl) rfl (fun _ _ e9 => r_X12_isOrder (d + 0) sw _ _ _ _ e9) am_po20 (fun v2 s2 => ?_)
  refine sm_br 1 12 8 [.ref 58, .int x1, .int x2, .null, .null] [] (am_hp sw s2) (fun _ => rfl) (fun _ => ?_) (fun _ => ?_)
  · exact sm_ret 1 13 [.ref 58, .int x1, .int x2, .null, .null] [.int (-1)] (am_hp sw s2) (some (.int (-1))) (fun _ => rfl) rfl (fun _ _ h => h)
  · refine sm_br 2 12 14 [.ref 58, .int x1, .int x2, .null, .null] [] (am_hp sw s2) (fun _ => rfl) (fun _ => ?_) (fun _ => ?_)
    · exact sm_ret 1 13 [.ref 58, .int x1, .int x2, .null, .null] [.int (-1)] (am_hp sw s2) (some (.int (-1))) (fun _ => rfl) rfl (fun _ _ h => h)
    · refine sm_go 4 19 [.ref 58, .int x1, .int x2, .int x2, .int (0)] [] (am_hp sw s2) (fun _ => rfl) ?_
      refine sm_fg [.ref 58, .int x1, .null, .int x2, .int (0)] ⟨Or.inr rfl, Or.inr rfl, Or.inl rfl, Or.inr rfl, Or.inr rfl, trivial⟩ ?_
      refine sm_lp 58 (fun _y => [.null, .null, .null, .null, .null]) (l_X12_packed_19 d sw am_FU x1 x2 (0) s2) (fun _ _ _ h => h) am_po20 (fun _y s19 => ?_)
      exact sm_ret 1 59 [.null, .null, .null, .null, .null] [.int (-1)] (am_hp sw s19) (some (.int (-1))) (fun _ => rfl) rfl (fun _ _ h => h)

def f_X12_told_L65 : Nat → Int32 → Int32 → Int32 → am_S → Option ((Int32 × am_S) ⊕ ((Int32) × am_S))
  | 0, _, _, _, _ => none
  | n + 1, x1, x3, x4, s => am_gu (am_in x1 8) (if x4 < ((4 * x1) + (s.1 113 (Int32.toNatClampNeg x1))) then (am_gu (am_in x4 32) (f_X12_told_L65 n x1 (x3 + (s.1 114 (Int32.toNatClampNeg x4))) (x4 + 1) s)) else (some (.inr (x3, s))))
def f_X12_told (s : am_S) (x1 : Int32) (x2 : Int32) : Option (Int32 × am_S) := am_bd (f_X12_isOrder s x1) (fun v2 s2 => if v2 = 0 then (some ((-1), s2)) else (if x2 = 0 then (am_gu (am_in x1 8) (some ((s2.1 111 (Int32.toNatClampNeg x1)), s2))) else if x2 = 1 then (am_gu (am_in x1 8) (some ((s2.1 110 (Int32.toNatClampNeg x1)), s2))) else if x2 = 2 then (am_lp (fun y => y) (f_X12_told_L65 am_FU x1 (0) (4 * x1) s2) (fun y65 s65 => some (y65, s65))) else if x2 = 3 then (am_gu (am_in x1 8) (some ((s2.1 113 (Int32.toNatClampNeg x1)), s2))) else if x2 = 4 then (am_gu (am_in x1 8) (some ((s2.1 112 (Int32.toNatClampNeg x1)), s2))) else (some ((-1), s2))))
set_option maxRecDepth 20000 in
theorem l_X12_told_65 (d : Nat) (sw : Bool) : ∀ (n : Nat) (x1 : Int32) (x3 : Int32) (x4 : Int32) (s : am_S), am_Sm tb_X12_told 12 false none (some .int) (d + 1) (am_pl am_cI sw (fun (v9 : Int32) s9 r h9 => am_Ex tb_X12_told 12 false none (some .int) (d + 1) r h9 96 [.null, .null, .null, .int v9, .null] [] (am_hp sw s9))) (f_X12_told_L65 n x1 x3 x4 s) 65 [.ref 58, .int x1, .null, .int x3, .int x4] [] (am_hp sw s) := by
  intro n
  induction n with
  | zero => intro x1 x3 x4 s; exact sm_no
  | succ n ih =>
    intro x1 x3 x4 s
    rw [f_X12_told_L65]
    refine sm_iald 7 75 [.ref 58, .int x1, .null, .int x3, .int x4] [.int (4 * x1), .int x4] (am_hp sw s) (i := x1) (c := 113) (fun _ => rfl) rfl rfl rfl rfl ?_
    refine sm_br 2 80 96 [.ref 58, .int x1, .null, .int x3, .int x4] [] (am_hp sw s) (fun _ => rfl) (fun _ => ?_) (fun _ => ?_)
    · refine sm_iald 4 87 [.ref 58, .int x1, .null, .int x3, .int x4] [.int x3] (am_hp sw s) (i := x4) (c := 114) (fun _ => rfl) rfl rfl rfl rfl ?_
      refine sm_go 4 65 [.ref 58, .int x1, .null, .int (x3 + (s.1 114 (Int32.toNatClampNeg x4))), .int (x4 + 1)] [] (am_hp sw s) (fun _ => rfl) ?_
      exact ih x1 (x3 + (s.1 114 (Int32.toNatClampNeg x4))) (x4 + 1) s
    · refine sm_fg [.null, .null, .null, .int x3, .null] ⟨Or.inl rfl, Or.inl rfl, Or.inl rfl, Or.inr rfl, Or.inl rfl, trivial⟩ ?_
      exact sm_ex (fun _ _ h => h.2)

set_option maxRecDepth 20000 in
theorem r_X12_told (d : Nat) (sw : Bool) (s s' : am_S) (x1 : Int32) (x2 : Int32) (v : Int32) (e : f_X12_told s x1 x2 = some (v, s')) : am_Run (d + 2) 192 [.ref 58, .int x1, .int x2] (am_hp sw s) (am_cI v) (am_hp sw s') := by
  refine am_Run.of (M := mt_X12_told) (cvf := am_cI) (X := f_X12_told s x1 x2) rfl rfl rfl (by simp) ?_ e
  unfold f_X12_told
  show am_Sm tb_X12_told 12 false none (some .int) (d + 1) (am_po am_cI sw) _ 0 [.ref 58, .int x1, .int x2, .null, .null] [] (am_hp sw s)
  refine sm_call (cvf := am_cI) 2 2 [.ref 58, .int x1, .int x2, .null, .null] [.int x1, .ref 58] sw s 178 [.ref 58, .int x1] [] (fun _ => rfl) rfl (fun _ _ e9 => r_X12_isOrder (d + 0) sw _ _ _ _ e9) am_po20 (fun v2 s2 => ?_)
  refine sm_br 1 8 10 [.ref 58, .int x1, .int x2, .null, .null] [] (am_hp sw s2) (fun _ => rfl) (fun _ => ?_) (fun _ => ?_)
  · exact sm_ret 1 9 [.ref 58, .int x1, .int x2, .null, .null] [.int (-1)] (am_hp sw s2) (some (.int (-1))) (fun _ => rfl) rfl (fun _ _ h => h)
  · refine sm_go 2 (am_sw x2 (0) 112 [44, 51, 58, 98, 105]) [.ref 58, .int x1, .int x2, .null, .null] [] (am_hp sw s2) (fun _ => rfl) ?_
    refine sm_sw1 1 (by decide) (fun _ => ?_) (fun _ => ?_)
    · refine sm_iald 3 49 [.ref 58, .int x1, .int x2, .null, .null] [] (am_hp sw s2) (i := x1) (c := 111) (fun _ => rfl) rfl rfl rfl rfl ?_
      exact sm_ret 0 50 [.ref 58, .int x1, .int x2, .null, .null] [.int (s2.1 111 (Int32.toNatClampNeg x1))] (am_hp sw s2) (some (.int (s2.1 111 (Int32.toNatClampNeg x1)))) (fun _ => rfl) rfl (fun _ _ h => h)
    refine sm_sw1 2 (by decide) (fun _ => ?_) (fun _ => ?_)
    · refine sm_iald 3 56 [.ref 58, .int x1, .int x2, .null, .null] [] (am_hp sw s2) (i := x1) (c := 110) (fun _ => rfl) rfl rfl rfl rfl ?_
      exact sm_ret 0 57 [.ref 58, .int x1, .int x2, .null, .null] [.int (s2.1 110 (Int32.toNatClampNeg x1))] (am_hp sw s2) (some (.int (s2.1 110 (Int32.toNatClampNeg x1)))) (fun _ => rfl) rfl (fun _ _ h => h)
    refine sm_sw1 3 (by decide) (fun _ => ?_) (fun _ => ?_)
    · refine sm_go 6 65 [.ref 58, .int x1, .int x2, .int (0), .int (4 * x1)] [] (am_hp sw s2) (fun _ => rfl) ?_
      refine sm_fg [.ref 58, .int x1, .null, .int (0), .int (4 * x1)] ⟨Or.inr rfl, Or.inr rfl, Or.inl rfl, Or.inr rfl, Or.inr rfl, trivial⟩ ?_
      refine sm_lp 96 (fun y65 => [.null, .null, .null, .int y65, .null]) (l_X12_told_65 d sw am_FU x1 (0) (4 * x1) s2) (fun _ _ _ h => h) am_po20 (fun y65 s65 => ?_)
      exact sm_ret 1 97 [.null, .null, .null, .int y65, .null] [.int y65] (am_hp sw s65) (some (.int y65)) (fun _ => rfl) rfl (fun _ _ h => h)
    refine sm_sw1 4 (by decide) (fun _ => ?_) (fun _ => ?_)
    · refine sm_iald 3 103 [.ref 58, .int x1, .int x2, .null, .null] [] (am_hp sw s2) (i := x1) (c := 113) (fun _ => rfl) rfl rfl rfl rfl ?_
      exact sm_ret 0 104 [.ref 58, .int x1, .int x2, .null, .null] [.int (s2.1 113 (Int32.toNatClampNeg x1))] (am_hp sw s2) (some (.int (s2.1 113 (Int32.toNatClampNeg x1)))) (fun _ => rfl) rfl (fun _ _ h => h)
    refine sm_sw1 5 (by decide) (fun _ => ?_) (fun _ => ?_)
    · refine sm_iald 3 110 [.ref 58, .int x1, .int x2, .null, .null] [] (am_hp sw s2) (i := x1) (c := 112) (fun _ => rfl) rfl rfl rfl rfl ?_
      exact sm_ret 0 111 [.ref 58, .int x1, .int x2, .null, .null] [.int (s2.1 112 (Int32.toNatClampNeg x1))] (am_hp sw s2) (some (.int (s2.1 112 (Int32.toNatClampNeg x1)))) (fun _ => rfl) rfl (fun _ _ h => h)
    refine sm_sw0 ?_
    exact sm_ret 1 113 [.ref 58, .int x1, .int x2, .null, .null] [.int (-1)] (am_hp sw s2) (some (.int (-1))) (fun _ => rfl) rfl (fun _ _ h => h)

def f_X12_found_L38 : Nat → Int32 → Int32 → Int32 → Int32 → Int32 → am_S → Option ((Int32 × am_S) ⊕ ((Int32) × am_S))
  | 0, _, _, _, _, _, _ => none
  | n + 1, x1, x3, x4, x5, x6, s => if x6 < (s.1 58 66) then (am_jn (fun (p80 : Int32 × am_S) => f_X12_found_L38 n x1 x3 x4 p80.1 (x6 + 1) p80.2) (fun j80 => am_jn (fun (p75 : am_S) => j80 (1, p75)) (fun j75 => if x5 = 0 then (am_gu (am_in x6 400) (am_jn (fun (p79 : am_S) => j80 (0, p79)) (fun j79 => if (s.1 106 (Int32.toNatClampNeg x6)) = x4 then (am_gu (am_in x6 400) (if (s.1 105 (Int32.toNatClampNeg x6)) = x1 then (j75 s) else (j79 s))) else (j79 s)))) else (j75 s)))) else (some (.inr (x5, s)))
def f_X12_found_L23 : Nat → Int32 → Int32 → Int32 → am_S → Option ((Int32 × am_S) ⊕ ((Unit) × am_S))
  | 0, _, _, _, _ => none
  | n + 1, x1, x3, x4, s => if x4 < (s.1 58 74) then (am_lp Sum.inl (f_X12_found_L38 am_FU x1 x3 x4 (0) (0) s) (fun y38 s38 => am_jn (fun (p106 : Int32 × am_S) => f_X12_found_L23 n x1 p106.1 (x4 + 1) p106.2) (fun j106 => if y38 = 0 then (j106 (x3, s38)) else (if x3 = 0 then (some (.inl (x4, s38))) else (j106 ((x3 + (-1)), s38)))))) else (some (.inr ((), s)))
def f_X12_found (s : am_S) (x1 : Int32) (x2 : Int32) : Option (Int32 × am_S) := if x1 < 0 then (some ((-1), s)) else (if x1 < (s.1 58 72) then (if x2 < 0 then (some ((-1), s)) else (am_lp (fun y => y) (f_X12_found_L23 am_FU x1 x2 (0) s) (fun (_ : Unit) s23 => some ((-1), s23)))) else (some ((-1), s)))
set_option maxRecDepth 20000 in
theorem l_X12_found_38 (d : Nat) (sw : Bool) : ∀ (n : Nat) (x1 : Int32) (x3 : Int32) (x4 : Int32) (x5 : Int32) (x6 : Int32) (s : am_S), am_Sm tb_X12_found 12 false none (some .int) (d + 0) (am_pl am_cI sw (fun (v9 : Int32) s9 r h9 => am_Ex tb_X12_found 12 false none (some .int) (d + 0) r h9 88 [.ref 58, .int x1, .null, .int x3, .int x4, .int v9, .null] [] (am_hp sw s9))) (f_X12_found_L38 n x1 x3 x4 x5 x6 s) 38 [.ref 58, .int x1, .null, .int x3, .int x4, .int x5, .int x6] [] (am_hp sw s) := by
  intro n
  induction n with
  | zero => intro x1 x3 x4 x5 x6 s; exact sm_no
  | succ n ih =>
    intro x1 x3 x4 x5 x6 s
    rw [f_X12_found_L38]
    refine sm_br 4 47 88 [.ref 58, .int x1, .null, .int x3, .int x4, .int x5, .int x6] [] (am_hp sw s) (fun _ => rfl) (fun _ => ?_) (fun _ => ?_)
    · refine sm_go 1 49 [.ref 58, .int x1, .null, .int x3, .int x4, .int x5, .int x6] [.int x5] (am_hp sw s) (fun _ => rfl) ?_
      refine sm_jn 80 (fun p80 => [.ref 58, .int x1, .null, .int x3, .int x4, .null, .int x6]) (fun p80 => [.int p80.1]) (fun p80 => (am_hp sw p80.2)) (fun p80 => ?_) (fun j80 hj80 => ?_)
      · refine sm_go 3 38 [.ref 58, .int x1, .null, .int x3, .int x4, .int p80.1, .int (x6 + 1)] [] (am_hp sw p80.2) (fun _ => rfl) ?_
        exact ih x1 x3 x4 p80.1 (x6 + 1) p80.2
      refine sm_jn 75 (fun p75 => [.ref 58, .int x1, .null, .int x3, .int x4, .null, .int x6]) (fun p75 => []) (fun p75 => (am_hp sw p75)) (fun p75 => ?_) (fun j75 hj75 => ?_)
      · refine sm_go 2 80 [.ref 58, .int x1, .null, .int x3, .int x4, .null, .int x6] [.int (1)] (am_hp sw p75) (fun _ => rfl) ?_
        exact hj80 (1, p75)
      refine sm_br 1 52 75 [.ref 58, .int x1, .null, .int x3, .int x4, .int x5, .int x6] [] (am_hp sw s) (fun _ => rfl) (fun _ => ?_) (fun _ => ?_)
      · refine sm_iald 3 58 [.ref 58, .int x1, .null, .int x3, .int x4, .int x5, .int x6] [] (am_hp sw s) (i := x6) (c := 106) (fun _ => rfl) rfl rfl rfl rfl ?_
        refine sm_go 1 61 [.ref 58, .int x1, .null, .int x3, .int x4, .int x5, .int x6] [.int x4, .int (s.1 106 (Int32.toNatClampNeg x6))] (am_hp sw s) (fun _ => rfl) ?_
        refine sm_jn 79 (fun p79 => [.ref 58, .int x1, .null, .int x3, .int x4, .null, .int x6]) (fun p79 => []) (fun p79 => (am_hp sw p79)) (fun p79 => ?_) (fun j79 hj79 => ?_)
        · refine sm_go 1 80 [.ref 58, .int x1, .null, .int x3, .int x4, .null, .int x6] [.int (0)] (am_hp sw p79) (fun _ => rfl) ?_
          exact hj80 (0, p79)
        refine sm_br 1 64 79 [.ref 58, .int x1, .null, .int x3, .int x4, .int x5, .int x6] [] (am_hp sw s) (fun _ => rfl) (fun _ => ?_) (fun _ => ?_)
        · refine sm_iald 3 70 [.ref 58, .int x1, .null, .int x3, .int x4, .int x5, .int x6] [] (am_hp sw s) (i := x6) (c := 105) (fun _ => rfl) rfl rfl rfl rfl ?_
          refine sm_br 2 75 79 [.ref 58, .int x1, .null, .int x3, .int x4, .int x5, .int x6] [] (am_hp sw s) (fun _ => rfl) (fun _ => ?_) (fun _ => ?_)
          · refine sm_fg [.ref 58, .int x1, .null, .int x3, .int x4, .null, .int x6] ⟨Or.inr rfl, Or.inr rfl, Or.inl rfl, Or.inr rfl, Or.inr rfl, Or.inl rfl, Or.inr rfl, trivial⟩ ?_
            exact hj75 s
          · refine sm_fg [.ref 58, .int x1, .null, .int x3, .int x4, .null, .int x6] ⟨Or.inr rfl, Or.inr rfl, Or.inl rfl, Or.inr rfl, Or.inr rfl, Or.inl rfl, Or.inr rfl, trivial⟩ ?_
            exact hj79 s
        · refine sm_fg [.ref 58, .int x1, .null, .int x3, .int x4, .null, .int x6] ⟨Or.inr rfl, Or.inr rfl, Or.inl rfl, Or.inr rfl, Or.inr rfl, Or.inl rfl, Or.inr rfl, trivial⟩ ?_
          exact hj79 s
      · refine sm_fg [.ref 58, .int x1, .null, .int x3, .int x4, .null, .int x6] ⟨Or.inr rfl, Or.inr rfl, Or.inl rfl, Or.inr rfl, Or.inr rfl, Or.inl rfl, Or.inr rfl, trivial⟩ ?_
        exact hj75 s
    · refine sm_fg [.ref 58, .int x1, .null, .int x3, .int x4, .int x5, .null] ⟨Or.inr rfl, Or.inr rfl, Or.inl rfl, Or.inr rfl, Or.inr rfl, Or.inr rfl, Or.inl rfl, trivial⟩ ?_
      exact sm_ex (fun _ _ h => h.2)

set_option maxRecDepth 20000 in
theorem l_X12_found_23 (d : Nat) (sw : Bool) : ∀ (n : Nat) (x1 : Int32) (x3 : Int32) (x4 : Int32) (s : am_S), am_Sm tb_X12_found 12 false none (some .int) (d + 0) (am_pl am_cI sw (fun (v9 : Unit) s9 r h9 => am_Ex tb_X12_found 12 false none (some .int) (d + 0) r h9 112 [.null, .null, .null, .null, .null, .null, .null] [] (am_hp sw s9))) (f_X12_found_L23 n x1 x3 x4 s) 23 [.ref 58, .int x1, .null, .int x3, .int x4, .null, .null] [] (am_hp sw s) := by
  intro n
  induction n with
  | zero => intro x1 x3 x4 s; exact sm_no
  | succ n ih =>
    intro x1 x3 x4 s
    rw [f_X12_found_L23]
    refine sm_br 4 32 112 [.ref 58, .int x1, .null, .int x3, .int x4, .null, .null] [] (am_hp sw s) (fun _ => rfl) (fun _ => ?_) (fun _ => ?_)
    · refine sm_go 4 38 [.ref 58, .int x1, .null, .int x3, .int x4, .int (0), .int (0)] [] (am_hp sw s) (fun _ => rfl) ?_
      refine sm_lp 88 (fun y38 => [.ref 58, .int x1, .null, .int x3, .int x4, .int y38, .null]) (l_X12_found_38 d sw am_FU x1 x3 x4 (0) (0) s) (fun _ _ _ h => h) am_pl20 (fun y38 s38 => ?_)
      refine sm_go 1 90 [.ref 58, .int x1, .null, .int x3, .int x4, .int y38, .null] [.int y38] (am_hp sw s38) (fun _ => rfl) ?_
      refine sm_jn 106 (fun p106 => [.ref 58, .int x1, .null, .int p106.1, .int x4, .null, .null]) (fun p106 => []) (fun p106 => (am_hp sw p106.2)) (fun p106 => ?_) (fun j106 hj106 => ?_)
      · refine sm_go 2 23 [.ref 58, .int x1, .null, .int p106.1, .int (x4 + 1), .null, .null] [] (am_hp sw p106.2) (fun _ => rfl) ?_
        exact ih x1 p106.1 (x4 + 1) p106.2
      refine sm_br 1 93 96 [.ref 58, .int x1, .null, .int x3, .int x4, .int y38, .null] [] (am_hp sw s38) (fun _ => rfl) (fun _ => ?_) (fun _ => ?_)
      · refine sm_go 1 106 [.ref 58, .int x1, .null, .int x3, .int x4, .int y38, .null] [] (am_hp sw s38) (fun _ => rfl) ?_
        refine sm_fg [.ref 58, .int x1, .null, .int x3, .int x4, .null, .null] ⟨Or.inr rfl, Or.inr rfl, Or.inl rfl, Or.inr rfl, Or.inr rfl, Or.inl rfl, Or.inl rfl, trivial⟩ ?_
        exact hj106 (x3, s38)
      · refine sm_br 2 100 103 [.ref 58, .int x1, .null, .int x3, .int x4, .int y38, .null] [] (am_hp sw s38) (fun _ => rfl) (fun _ => ?_) (fun _ => ?_)
        · exact sm_ret 1 102 [.ref 58, .int x1, .null, .int x3, .int x4, .int y38, .null] [.int x4] (am_hp sw s38) (some (.int x4)) (fun _ => rfl) rfl (fun _ _ h => h)
        · refine sm_go 1 106 [.ref 58, .int x1, .null, .int (x3 + (-1)), .int x4, .int y38, .null] [] (am_hp sw s38) (fun _ => rfl) ?_
          refine sm_fg [.ref 58, .int x1, .null, .int (x3 + (-1)), .int x4, .null, .null] ⟨Or.inr rfl, Or.inr rfl, Or.inl rfl, Or.inr rfl, Or.inr rfl, Or.inl rfl, Or.inl rfl, trivial⟩ ?_
          exact hj106 ((x3 + (-1)), s38)
    · refine sm_fg [.null, .null, .null, .null, .null, .null, .null] ⟨Or.inl rfl, Or.inl rfl, Or.inl rfl, Or.inl rfl, Or.inl rfl, Or.inl rfl, Or.inl rfl, trivial⟩ ?_
      exact sm_ex (fun _ _ h => h.2)

set_option maxRecDepth 20000 in
theorem r_X12_found (d : Nat) (sw : Bool) (s s' : am_S) (x1 : Int32) (x2 : Int32) (v : Int32) (e : f_X12_found s x1 x2 = some (v, s')) : am_Run (d + 1) 193 [.ref 58, .int x1, .int x2] (am_hp sw s) (am_cI v) (am_hp sw s') := by
  refine am_Run.of (M := mt_X12_found) (cvf := am_cI) (X := f_X12_found s x1 x2) rfl rfl rfl (by simp) ?_ e
  unfold f_X12_found
  show am_Sm tb_X12_found 12 false none (some .int) (d + 0) (am_po am_cI sw) _ 0 [.ref 58, .int x1, .int x2, .null, .null, .null, .null] [] (am_hp sw s)
  refine sm_br 2 16 4 [.ref 58, .int x1, .int x2, .null, .null, .null, .null] [] (am_hp sw s) (fun _ => rfl) (fun _ => ?_) (fun _ => ?_)
  · exact sm_ret 1 17 [.ref 58, .int x1, .int x2, .null, .null, .null, .null] [.int (-1)] (am_hp sw s) (some (.int (-1))) (fun _ => rfl) rfl (fun _ _ h => h)
  · refine sm_br 4 12 16 [.ref 58, .int x1, .int x2, .null, .null, .null, .null] [] (am_hp sw s) (fun _ => rfl) (fun _ => ?_) (fun _ => ?_)
    · refine sm_br 2 16 18 [.ref 58, .int x1, .int x2, .null, .null, .null, .null] [] (am_hp sw s) (fun _ => rfl) (fun _ => ?_) (fun _ => ?_)
      · exact sm_ret 1 17 [.ref 58, .int x1, .int x2, .null, .null, .null, .null] [.int (-1)] (am_hp sw s) (some (.int (-1))) (fun _ => rfl) rfl (fun _ _ h => h)
      · refine sm_go 4 23 [.ref 58, .int x1, .int x2, .int x2, .int (0), .null, .null] [] (am_hp sw s) (fun _ => rfl) ?_
        refine sm_fg [.ref 58, .int x1, .null, .int x2, .int (0), .null, .null] ⟨Or.inr rfl, Or.inr rfl, Or.inl rfl, Or.inr rfl, Or.inr rfl, Or.inl rfl, Or.inl rfl, trivial⟩ ?_
        refine sm_lp 112 (fun _y => [.null, .null, .null, .null, .null, .null, .null]) (l_X12_found_23 d sw am_FU x1 x2 (0) s) (fun _ _ _ h => h) am_po20 (fun _y s23 => ?_)
        exact sm_ret 1 113 [.null, .null, .null, .null, .null, .null, .null] [.int (-1)] (am_hp sw s23) (some (.int (-1))) (fun _ => rfl) rfl (fun _ _ h => h)
    · exact sm_ret 1 17 [.ref 58, .int x1, .int x2, .null, .null, .null, .null] [.int (-1)] (am_hp sw s) (some (.int (-1))) (fun _ => rfl) rfl (fun _ _ h => h)

def f_X12_rest (s : am_S) (x1 : Int32) (x2 : Int32) : Option (Int32 × am_S) := am_bd (f_X12_isKind s x1) (fun v2 s2 => if v2 = 0 then (some ((-1), s2)) else (if x2 < (-1) then (some ((-1), s2)) else (if 4 < x2 then (some ((-1), s2)) else (am_bd (f_X12_counts s2) (fun (_ : Unit) s21 => am_jn (fun (p42 : Int32 × am_S) => am_gu (am_in ((6 * x1) + p42.1) 48) (some ((p42.2.1 117 (Int32.toNatClampNeg ((6 * x1) + p42.1))), p42.2))) (fun j42 => if x2 = (-1) then (j42 (5, s21)) else (j42 (x2, s21))))))))
set_option maxRecDepth 20000 in
theorem r_X12_rest (d : Nat) (sw : Bool) (s s' : am_S) (x1 : Int32) (x2 : Int32) (v : Int32) (e : f_X12_rest s x1 x2 = some (v, s')) : am_Run (d + 3) 194 [.ref 58, .int x1, .int x2] (am_hp sw s) (am_cI v) (am_hp sw s') := by
  refine am_Run.of (M := mt_X12_rest) (cvf := am_cI) (X := f_X12_rest s x1 x2) rfl rfl rfl (by simp) ?_ e
  unfold f_X12_rest
  show am_Sm tb_X12_rest 12 false none (some .int) (d + 2) (am_po am_cI sw) _ 0 [.ref 58, .int x1, .int x2] [] (am_hp sw s)
  refine sm_call (cvf := am_cI) 2 2 [.ref 58, .int x1, .int x2] [.int x1, .ref 58] sw s 155 [.ref 58, .int x1] [] (fun _ => rfl) rfl (fun _ _ e9 => r_X12_isKind (d + 1) sw _ _ _ _ e9) am_po20 (fun v2 s2 => ?_)
  refine sm_br 1 18 8 [.ref 58, .int x1, .int x2] [] (am_hp sw s2) (fun _ => rfl) (fun _ => ?_) (fun _ => ?_)
  · exact sm_ret 1 19 [.ref 58, .int x1, .int x2] [.int (-1)] (am_hp sw s2) (some (.int (-1))) (fun _ => rfl) rfl (fun _ _ h => h)
  · refine sm_br 3 18 13 [.ref 58, .int x1, .int x2] [] (am_hp sw s2) (fun _ => rfl) (fun _ => ?_) (fun _ => ?_)
    · exact sm_ret 1 19 [.ref 58, .int x1, .int x2] [.int (-1)] (am_hp sw s2) (some (.int (-1))) (fun _ => rfl) rfl (fun _ _ h => h)
    · refine sm_br 3 18 20 [.ref 58, .int x1, .int x2] [] (am_hp sw s2) (fun _ => rfl) (fun _ => ?_) (fun _ => ?_)
      · exact sm_ret 1 19 [.ref 58, .int x1, .int x2] [.int (-1)] (am_hp sw s2) (some (.int (-1))) (fun _ => rfl) rfl (fun _ _ h => h)
      · refine sm_call (cvf := am_cU) 1 21 [.ref 58, .int x1, .int x2] [.ref 58] sw s2 180 [.ref 58] [] (fun _ => rfl) rfl (fun _ _ e9 => r_X12_counts (d + 0) sw _ _  _ e9) am_po20 (fun _v s21 => ?_)
        refine sm_go 7 34 [.ref 58, .int x1, .int x2] [.int (-1), .int x2, .int (6 * x1), .ref 117] (am_hp sw s21) (fun _ => rfl) ?_
        refine sm_jn 42 (fun p42 => [.null, .null, .null]) (fun p42 => [.int p42.1, .int (6 * x1), .ref 117]) (fun p42 => (am_hp sw p42.2)) (fun p42 => ?_) (fun j42 hj42 => ?_)
        · refine sm_iald 1 43 [.null, .null, .null] [] (am_hp sw p42.2) (i := ((6 * x1) + p42.1)) (c := 117) (fun _ => rfl) rfl rfl rfl rfl ?_
          exact sm_ret 0 44 [.null, .null, .null] [.int (p42.2.1 117 (Int32.toNatClampNeg ((6 * x1) + p42.1)))] (am_hp sw p42.2) (some (.int (p42.2.1 117 (Int32.toNatClampNeg ((6 * x1) + p42.1))))) (fun _ => rfl) rfl (fun _ _ h => h)
        refine sm_br 1 37 41 [.ref 58, .int x1, .int x2] [.int (6 * x1), .ref 117] (am_hp sw s21) (fun _ => rfl) (fun _ => ?_) (fun _ => ?_)
        · refine sm_go 2 42 [.ref 58, .int x1, .int x2] [.int (5), .int (6 * x1), .ref 117] (am_hp sw s21) (fun _ => rfl) ?_
          refine sm_fg [.null, .null, .null] ⟨Or.inl rfl, Or.inl rfl, Or.inl rfl, trivial⟩ ?_
          exact hj42 (5, s21)
        · refine sm_go 1 42 [.ref 58, .int x1, .int x2] [.int x2, .int (6 * x1), .ref 117] (am_hp sw s21) (fun _ => rfl) ?_
          refine sm_fg [.null, .null, .null] ⟨Or.inl rfl, Or.inl rfl, Or.inl rfl, trivial⟩ ?_
          exact hj42 (x2, s21)

def f_X12_money (s : am_S) (x1 : Int32) : Option (Int32 × am_S) := am_bd (f_X12_isFamily s x1) (fun v2 s2 => if v2 = 0 then (some ((0), s2)) else (am_gu (am_in x1 8) (some ((s2.1 86 (Int32.toNatClampNeg x1)), s2))))
set_option maxRecDepth 20000 in
theorem r_X12_money (d : Nat) (sw : Bool) (s s' : am_S) (x1 : Int32) (v : Int32) (e : f_X12_money s x1 = some (v, s')) : am_Run (d + 2) 195 [.ref 58, .int x1] (am_hp sw s) (am_cI v) (am_hp sw s') := by
  refine am_Run.of (M := mt_X12_money) (cvf := am_cI) (X := f_X12_money s x1) rfl rfl rfl (by simp) ?_ e
  unfold f_X12_money
  show am_Sm tb_X12_money 12 false none (some .int) (d + 1) (am_po am_cI sw) _ 0 [.ref 58, .int x1] [] (am_hp sw s)
  refine sm_call (cvf := am_cI) 2 2 [.ref 58, .int x1] [.int x1, .ref 58] sw s 156 [.ref 58, .int x1] [] (fun _ => rfl) rfl (fun _ _ e9 => r_X12_isFamily (d + 0) sw _ _ _ _ e9) am_po20 (fun v2 s2 => ?_)
  refine sm_br 1 17 8 [.ref 58, .int x1] [] (am_hp sw s2) (fun _ => rfl) (fun _ => ?_) (fun _ => ?_)
  · exact sm_ret 1 18 [.ref 58, .int x1] [.int (0)] (am_hp sw s2) (some (.int (0))) (fun _ => rfl) rfl (fun _ _ h => h)
  · refine sm_iald 3 13 [.ref 58, .int x1] [] (am_hp sw s2) (i := x1) (c := 86) (fun _ => rfl) rfl rfl rfl rfl ?_
    exact sm_ret 1 18 [.ref 58, .int x1] [.int (s2.1 86 (Int32.toNatClampNeg x1))] (am_hp sw s2) (some (.int (s2.1 86 (Int32.toNatClampNeg x1)))) (fun _ => rfl) rfl (fun _ _ h => h)

def f_X12_load (s : am_S) (x1 : Int32) (x2 : Int32) : Option (Int32 × am_S) := am_bd (f_X12_isFamily s x1) (fun v2 s2 => if v2 = 0 then (some ((-1), s2)) else (if x2 < 0 then (some ((-1), s2)) else (if x2 < 40 then (am_gu (am_in ((40 * x1) + x2) 320) (some ((s2.1 92 (Int32.toNatClampNeg ((40 * x1) + x2))), s2))) else (some ((-1), s2)))))
set_option maxRecDepth 20000 in
theorem r_X12_load (d : Nat) (sw : Bool) (s s' : am_S) (x1 : Int32) (x2 : Int32) (v : Int32) (e : f_X12_load s x1 x2 = some (v, s')) : am_Run (d + 2) 196 [.ref 58, .int x1, .int x2] (am_hp sw s) (am_cI v) (am_hp sw s') := by
  refine am_Run.of (M := mt_X12_load) (cvf := am_cI) (X := f_X12_load s x1 x2) rfl rfl rfl (by simp) ?_ e
  unfold f_X12_load
  show am_Sm tb_X12_load 12 false none (some .int) (d + 1) (am_po am_cI sw) _ 0 [.ref 58, .int x1, .int x2] [] (am_hp sw s)
  refine sm_call (cvf := am_cI) 2 2 [.ref 58, .int x1, .int x2] [.int x1, .ref 58] sw s 156 [.ref 58, .int x1] [] (fun _ => rfl) rfl (fun _ _ e9 => r_X12_isFamily (d + 0) sw _ _ _ _ e9) am_po20 (fun v2 s2 => ?_)
  refine sm_br 1 32 8 [.ref 58, .int x1, .int x2] [] (am_hp sw s2) (fun _ => rfl) (fun _ => ?_) (fun _ => ?_)
  · exact sm_ret 1 33 [.ref 58, .int x1, .int x2] [.int (-1)] (am_hp sw s2) (some (.int (-1))) (fun _ => rfl) rfl (fun _ _ h => h)
  · refine sm_br 2 32 12 [.ref 58, .int x1, .int x2] [] (am_hp sw s2) (fun _ => rfl) (fun _ => ?_) (fun _ => ?_)
    · exact sm_ret 1 33 [.ref 58, .int x1, .int x2] [.int (-1)] (am_hp sw s2) (some (.int (-1))) (fun _ => rfl) rfl (fun _ _ h => h)
    · refine sm_br 3 18 32 [.ref 58, .int x1, .int x2] [] (am_hp sw s2) (fun _ => rfl) (fun _ => ?_) (fun _ => ?_)
      · refine sm_iald 7 28 [.ref 58, .int x1, .int x2] [] (am_hp sw s2) (i := ((40 * x1) + x2)) (c := 92) (fun _ => rfl) rfl rfl rfl rfl ?_
        exact sm_ret 1 33 [.ref 58, .int x1, .int x2] [.int (s2.1 92 (Int32.toNatClampNeg ((40 * x1) + x2)))] (am_hp sw s2) (some (.int (s2.1 92 (Int32.toNatClampNeg ((40 * x1) + x2))))) (fun _ => rfl) rfl (fun _ _ h => h)
      · exact sm_ret 1 33 [.ref 58, .int x1, .int x2] [.int (-1)] (am_hp sw s2) (some (.int (-1))) (fun _ => rfl) rfl (fun _ _ h => h)

def f_X12_count_L86 : Nat → Int32 → Int32 → am_S → Option ((Int32 × am_S) ⊕ ((Int32) × am_S))
  | 0, _, _, _ => none
  | n + 1, x2, x3, s => if x3 < (s.1 58 55) then (am_gu (am_in x3 200) (am_jn (fun (p110 : Int32 × am_S) => f_X12_count_L86 n (x2 + p110.1) (x3 + 1) p110.2) (fun j110 => if (s.1 97 (Int32.toNatClampNeg x3)) = (-1) then (j110 (1, s)) else (j110 (0, s))))) else (some (.inr (x2, s)))
def f_X12_count_L127 : Nat → Int32 → Int32 → am_S → Option ((Int32 × am_S) ⊕ ((Int32) × am_S))
  | 0, _, _, _ => none
  | n + 1, x2, x3, s => if x3 < (s.1 58 66) then (am_gu (am_in x3 400) (am_jn (fun (p151 : Int32 × am_S) => f_X12_count_L127 n (x2 + p151.1) (x3 + 1) p151.2) (fun j151 => if (s.1 106 (Int32.toNatClampNeg x3)) = (-1) then (j151 (0, s)) else (j151 (1, s))))) else (some (.inr (x2, s)))
def f_X12_count (s : am_S) (x1 : Int32) : Option (Int32 × am_S) := if x1 = 0 then (some ((s.1 58 37), s)) else if x1 = 1 then (some ((s.1 58 41), s)) else if x1 = 2 then (some ((s.1 58 53), s)) else if x1 = 3 then (some ((s.1 58 55), s)) else if x1 = 4 then (am_lp (fun y => y) (f_X12_count_L86 am_FU (0) (0) s) (fun y86 s86 => some (y86, s86))) else if x1 = 5 then (some ((s.1 58 66), s)) else if x1 = 6 then (am_lp (fun y => y) (f_X12_count_L127 am_FU (0) (0) s) (fun y127 s127 => some (y127, s127))) else if x1 = 7 then (some ((s.1 58 72), s)) else if x1 = 8 then (some ((s.1 58 74), s)) else if x1 = 9 then (am_gu (am_in (s.1 58 18) 2) (some ((s.1 66 (Int32.toNatClampNeg (s.1 58 18))), s))) else if x1 = 10 then (some ((s.1 58 51), s)) else if x1 = 11 then (some ((s.1 58 2), s)) else (some ((-1), s))
set_option maxRecDepth 20000 in
theorem l_X12_count_86 (d : Nat) (sw : Bool) : ∀ (n : Nat) (x2 : Int32) (x3 : Int32) (s : am_S), am_Sm tb_X12_count 12 false none (some .int) (d + 0) (am_pl am_cI sw (fun (v9 : Int32) s9 r h9 => am_Ex tb_X12_count 12 false none (some .int) (d + 0) r h9 118 [.null, .null, .int v9, .null] [] (am_hp sw s9))) (f_X12_count_L86 n x2 x3 s) 86 [.ref 58, .null, .int x2, .int x3] [] (am_hp sw s) := by
  intro n
  induction n with
  | zero => intro x2 x3 s; exact sm_no
  | succ n ih =>
    intro x2 x3 s
    rw [f_X12_count_L86]
    refine sm_br 4 94 118 [.ref 58, .null, .int x2, .int x3] [] (am_hp sw s) (fun _ => rfl) (fun _ => ?_) (fun _ => ?_)
    · refine sm_iald 4 100 [.ref 58, .null, .int x2, .int x3] [.int x2] (am_hp sw s) (i := x3) (c := 97) (fun _ => rfl) rfl rfl rfl rfl ?_
      refine sm_go 1 102 [.ref 58, .null, .int x2, .int x3] [.int (-1), .int (s.1 97 (Int32.toNatClampNeg x3)), .int x2] (am_hp sw s) (fun _ => rfl) ?_
      refine sm_jn 110 (fun p110 => [.ref 58, .null, .null, .int x3]) (fun p110 => [.int p110.1, .int x2]) (fun p110 => (am_hp sw p110.2)) (fun p110 => ?_) (fun j110 hj110 => ?_)
      · refine sm_go 4 86 [.ref 58, .null, .int (x2 + p110.1), .int (x3 + 1)] [] (am_hp sw p110.2) (fun _ => rfl) ?_
        exact ih (x2 + p110.1) (x3 + 1) p110.2
      refine sm_br 1 105 109 [.ref 58, .null, .int x2, .int x3] [.int x2] (am_hp sw s) (fun _ => rfl) (fun _ => ?_) (fun _ => ?_)
      · refine sm_go 2 110 [.ref 58, .null, .int x2, .int x3] [.int (1), .int x2] (am_hp sw s) (fun _ => rfl) ?_
        refine sm_fg [.ref 58, .null, .null, .int x3] ⟨Or.inr rfl, Or.inl rfl, Or.inl rfl, Or.inr rfl, trivial⟩ ?_
        exact hj110 (1, s)
      · refine sm_go 1 110 [.ref 58, .null, .int x2, .int x3] [.int (0), .int x2] (am_hp sw s) (fun _ => rfl) ?_
        refine sm_fg [.ref 58, .null, .null, .int x3] ⟨Or.inr rfl, Or.inl rfl, Or.inl rfl, Or.inr rfl, trivial⟩ ?_
        exact hj110 (0, s)
    · refine sm_fg [.null, .null, .int x2, .null] ⟨Or.inl rfl, Or.inl rfl, Or.inr rfl, Or.inl rfl, trivial⟩ ?_
      exact sm_ex (fun _ _ h => h.2)

set_option maxRecDepth 20000 in
theorem l_X12_count_127 (d : Nat) (sw : Bool) : ∀ (n : Nat) (x2 : Int32) (x3 : Int32) (s : am_S), am_Sm tb_X12_count 12 false none (some .int) (d + 0) (am_pl am_cI sw (fun (v9 : Int32) s9 r h9 => am_Ex tb_X12_count 12 false none (some .int) (d + 0) r h9 159 [.null, .null, .int v9, .null] [] (am_hp sw s9))) (f_X12_count_L127 n x2 x3 s) 127 [.ref 58, .null, .int x2, .int x3] [] (am_hp sw s) := by
  intro n
  induction n with
  | zero => intro x2 x3 s; exact sm_no
  | succ n ih =>
    intro x2 x3 s
    rw [f_X12_count_L127]
    refine sm_br 4 135 159 [.ref 58, .null, .int x2, .int x3] [] (am_hp sw s) (fun _ => rfl) (fun _ => ?_) (fun _ => ?_)
    · refine sm_iald 4 141 [.ref 58, .null, .int x2, .int x3] [.int x2] (am_hp sw s) (i := x3) (c := 106) (fun _ => rfl) rfl rfl rfl rfl ?_
      refine sm_go 1 143 [.ref 58, .null, .int x2, .int x3] [.int (-1), .int (s.1 106 (Int32.toNatClampNeg x3)), .int x2] (am_hp sw s) (fun _ => rfl) ?_
      refine sm_jn 151 (fun p151 => [.ref 58, .null, .null, .int x3]) (fun p151 => [.int p151.1, .int x2]) (fun p151 => (am_hp sw p151.2)) (fun p151 => ?_) (fun j151 hj151 => ?_)
      · refine sm_go 4 127 [.ref 58, .null, .int (x2 + p151.1), .int (x3 + 1)] [] (am_hp sw p151.2) (fun _ => rfl) ?_
        exact ih (x2 + p151.1) (x3 + 1) p151.2
      refine sm_br 1 150 146 [.ref 58, .null, .int x2, .int x3] [.int x2] (am_hp sw s) (fun _ => rfl) (fun _ => ?_) (fun _ => ?_)
      · refine sm_go 1 151 [.ref 58, .null, .int x2, .int x3] [.int (0), .int x2] (am_hp sw s) (fun _ => rfl) ?_
        refine sm_fg [.ref 58, .null, .null, .int x3] ⟨Or.inr rfl, Or.inl rfl, Or.inl rfl, Or.inr rfl, trivial⟩ ?_
        exact hj151 (0, s)
      · refine sm_go 2 151 [.ref 58, .null, .int x2, .int x3] [.int (1), .int x2] (am_hp sw s) (fun _ => rfl) ?_
        refine sm_fg [.ref 58, .null, .null, .int x3] ⟨Or.inr rfl, Or.inl rfl, Or.inl rfl, Or.inr rfl, trivial⟩ ?_
        exact hj151 (1, s)
    · refine sm_fg [.null, .null, .int x2, .null] ⟨Or.inl rfl, Or.inl rfl, Or.inr rfl, Or.inl rfl, trivial⟩ ?_
      exact sm_ex (fun _ _ h => h.2)

set_option maxRecDepth 20000 in
theorem r_X12_count (d : Nat) (sw : Bool) (s s' : am_S) (x1 : Int32) (v : Int32) (e : f_X12_count s x1 = some (v, s')) : am_Run (d + 1) 197 [.ref 58, .int x1] (am_hp sw s) (am_cI v) (am_hp sw s') := by
  refine am_Run.of (M := mt_X12_count) (cvf := am_cI) (X := f_X12_count s x1) rfl rfl rfl (by simp) ?_ e
  unfold f_X12_count
  show am_Sm tb_X12_count 12 false none (some .int) (d + 0) (am_po am_cI sw) _ 0 [.ref 58, .int x1, .null, .null] [] (am_hp sw s)
  refine sm_go 4 (am_sw x1 (0) 191 [64, 69, 74, 79, 84, 120, 125, 161, 166, 171, 181, 186]) [.ref 58, .int x1, .int (0), .null] [] (am_hp sw s) (fun _ => rfl) ?_
  refine sm_sw1 1 (by decide) (fun _ => ?_) (fun _ => ?_)
  · exact sm_ret 2 68 [.ref 58, .int x1, .int (0), .null] [.int (s.1 58 37)] (am_hp sw s) (some (.int (s.1 58 37))) (fun _ => rfl) rfl (fun _ _ h => h)
  refine sm_sw1 2 (by decide) (fun _ => ?_) (fun _ => ?_)
  · exact sm_ret 2 73 [.ref 58, .int x1, .int (0), .null] [.int (s.1 58 41)] (am_hp sw s) (some (.int (s.1 58 41))) (fun _ => rfl) rfl (fun _ _ h => h)
  refine sm_sw1 3 (by decide) (fun _ => ?_) (fun _ => ?_)
  · exact sm_ret 2 78 [.ref 58, .int x1, .int (0), .null] [.int (s.1 58 53)] (am_hp sw s) (some (.int (s.1 58 53))) (fun _ => rfl) rfl (fun _ _ h => h)
  refine sm_sw1 4 (by decide) (fun _ => ?_) (fun _ => ?_)
  · exact sm_ret 2 83 [.ref 58, .int x1, .int (0), .null] [.int (s.1 58 55)] (am_hp sw s) (some (.int (s.1 58 55))) (fun _ => rfl) rfl (fun _ _ h => h)
  refine sm_sw1 5 (by decide) (fun _ => ?_) (fun _ => ?_)
  · refine sm_go 2 86 [.ref 58, .int x1, .int (0), .int (0)] [] (am_hp sw s) (fun _ => rfl) ?_
    refine sm_fg [.ref 58, .null, .int (0), .int (0)] ⟨Or.inr rfl, Or.inl rfl, Or.inr rfl, Or.inr rfl, trivial⟩ ?_
    refine sm_lp 118 (fun y86 => [.null, .null, .int y86, .null]) (l_X12_count_86 d sw am_FU (0) (0) s) (fun _ _ _ h => h) am_po20 (fun y86 s86 => ?_)
    exact sm_ret 1 119 [.null, .null, .int y86, .null] [.int y86] (am_hp sw s86) (some (.int y86)) (fun _ => rfl) rfl (fun _ _ h => h)
  refine sm_sw1 6 (by decide) (fun _ => ?_) (fun _ => ?_)
  · exact sm_ret 2 124 [.ref 58, .int x1, .int (0), .null] [.int (s.1 58 66)] (am_hp sw s) (some (.int (s.1 58 66))) (fun _ => rfl) rfl (fun _ _ h => h)
  refine sm_sw1 7 (by decide) (fun _ => ?_) (fun _ => ?_)
  · refine sm_go 2 127 [.ref 58, .int x1, .int (0), .int (0)] [] (am_hp sw s) (fun _ => rfl) ?_
    refine sm_fg [.ref 58, .null, .int (0), .int (0)] ⟨Or.inr rfl, Or.inl rfl, Or.inr rfl, Or.inr rfl, trivial⟩ ?_
    refine sm_lp 159 (fun y127 => [.null, .null, .int y127, .null]) (l_X12_count_127 d sw am_FU (0) (0) s) (fun _ _ _ h => h) am_po20 (fun y127 s127 => ?_)
    exact sm_ret 1 160 [.null, .null, .int y127, .null] [.int y127] (am_hp sw s127) (some (.int y127)) (fun _ => rfl) rfl (fun _ _ h => h)
  refine sm_sw1 8 (by decide) (fun _ => ?_) (fun _ => ?_)
  · exact sm_ret 2 165 [.ref 58, .int x1, .int (0), .null] [.int (s.1 58 72)] (am_hp sw s) (some (.int (s.1 58 72))) (fun _ => rfl) rfl (fun _ _ h => h)
  refine sm_sw1 9 (by decide) (fun _ => ?_) (fun _ => ?_)
  · exact sm_ret 2 170 [.ref 58, .int x1, .int (0), .null] [.int (s.1 58 74)] (am_hp sw s) (some (.int (s.1 58 74))) (fun _ => rfl) rfl (fun _ _ h => h)
  refine sm_sw1 10 (by decide) (fun _ => ?_) (fun _ => ?_)
  · refine sm_iald 4 179 [.ref 58, .int x1, .int (0), .null] [] (am_hp sw s) (i := (s.1 58 18)) (c := 66) (fun _ => rfl) rfl rfl rfl rfl ?_
    exact sm_ret 0 180 [.ref 58, .int x1, .int (0), .null] [.int (s.1 66 (Int32.toNatClampNeg (s.1 58 18)))] (am_hp sw s) (some (.int (s.1 66 (Int32.toNatClampNeg (s.1 58 18))))) (fun _ => rfl) rfl (fun _ _ h => h)
  refine sm_sw1 11 (by decide) (fun _ => ?_) (fun _ => ?_)
  · exact sm_ret 2 185 [.ref 58, .int x1, .int (0), .null] [.int (s.1 58 51)] (am_hp sw s) (some (.int (s.1 58 51))) (fun _ => rfl) rfl (fun _ _ h => h)
  refine sm_sw1 12 (by decide) (fun _ => ?_) (fun _ => ?_)
  · exact sm_ret 2 190 [.ref 58, .int x1, .int (0), .null] [.int (s.1 58 2)] (am_hp sw s) (some (.int (s.1 58 2))) (fun _ => rfl) rfl (fun _ _ h => h)
  refine sm_sw0 ?_
  exact sm_ret 1 192 [.ref 58, .int x1, .int (0), .null] [.int (-1)] (am_hp sw s) (some (.int (-1))) (fun _ => rfl) rfl (fun _ _ h => h)

