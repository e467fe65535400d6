/-! ===== methods as functions, and their runs (printed by wip/gen/drive.py) ===== -/
def f_X12_read_L10 : Nat → Int32 → am_S → Option ((Int32 × am_S) ⊕ ((Unit) × am_S))
  | 0, _, _ => none
  | n + 1, x1, s => if x1 < (s.1 58 4) then (am_gu (am_in x1 2000) (am_gu (am_in x1 2000) (f_X12_read_L10 n (x1 + 1) (am_wI s 60 (Int32.toNatClampNeg x1) (am_nar 1 (s.1 59 (Int32.toNatClampNeg x1))))))) else (some (.inr ((), s)))
def f_X12_read_L107 : Nat → am_S → Option ((Int32 × am_S) ⊕ ((Unit) × am_S))
  | 0, _ => none
  | n + 1, s => if (s.1 58 13) = 0 then (am_bd (f_X12_is s (0)) (fun v116 s116 => if v116 = 0 then (am_bd (f_X12_tellRule s116) (fun (_ : Unit) s123 => f_X12_read_L107 n s123)) else (some (.inr ((), s116))))) else (some (.inr ((), s)))
def f_X12_read (s : am_S) : Option (Int32 × am_S) := am_lp (fun y => y) (f_X12_read_L10 am_FU (0) (am_wI s 58 4 (s.1 58 2))) (fun (_ : Unit) s10 => am_bd (f_X12_cut (am_wI s10 58 2 (0))) (fun (_ : Unit) s42 => am_gu (am_in (1 - (s42.1 58 18)) 2) (am_gu (am_in (1 - (s42.1 58 18)) 2) (am_lp (fun y => y) (f_X12_read_L107 am_FU (am_wI (am_wI (am_wI (am_wI (am_wI (am_wI (am_wI (am_wI s42 58 11 (0)) 58 12 (0)) 58 13 (0)) 58 15 (0)) 58 19 (1 - (s42.1 58 18))) 66 (Int32.toNatClampNeg (1 - (s42.1 58 18))) (0)) 72 (Int32.toNatClampNeg (1 - (s42.1 58 18))) (0)) 58 32 (500 * (1 - (s42.1 58 18))))) (fun (_ : Unit) s107 => am_jn (fun (p145 : Int32 × am_S) => if 0 < (p145.2.1 58 13) then (some ((p145.2.1 58 13), (am_wI p145.2 58 17 p145.1))) else (some ((0), (am_wI (am_wI p145.2 58 17 p145.1) 58 18 (p145.2.1 58 19))))) (fun j145 => if 0 < (s107.1 58 13) then (j145 ((s107.1 58 14), s107)) else (j145 ((-1), s107))))))))
set_option maxRecDepth 20000 in
theorem l_X12_read_10 (d : Nat) (sw : Bool) : ∀ (n : Nat) (x1 : Int32) (s : am_S), am_Sm tb_X12_read 12 false none (some .int) (d + 5) (am_pl am_cI sw (fun (v9 : Unit) s9 r h9 => am_Ex tb_X12_read 12 false none (some .int) (d + 5) r h9 36 [.ref 58, .null] [] (am_hp sw s9))) (f_X12_read_L10 n x1 s) 10 [.ref 58, .int x1] [] (am_hp sw s) := by
  intro n
  induction n with
  | zero => intro x1 s; exact sm_no
  | succ n ih =>
    intro x1 s
    rw [f_X12_read_L10]
    refine sm_br 4 18 36 [.ref 58, .int x1] [] (am_hp sw s) (fun _ => rfl) (fun _ => ?_) (fun _ => ?_)
    · refine sm_bald 6 28 [.ref 58, .int x1] [.int x1, .ref 60] (am_hp sw s) (i := x1) (c := 59) (fun _ => rfl) rfl rfl rfl rfl ?_
      refine sm_bast 0 29 [.ref 58, .int x1] [] sw s (i := x1) (x := (s.1 59 (Int32.toNatClampNeg x1))) (c := 60) (fun _ => rfl) rfl rfl rfl rfl ?_
      refine sm_go 2 10 [.ref 58, .int (x1 + 1)] [] (am_hp sw (am_wI s 60 (Int32.toNatClampNeg x1) (am_nar 1 (s.1 59 (Int32.toNatClampNeg x1))))) (fun _ => rfl) ?_
      exact ih (x1 + 1) (am_wI s 60 (Int32.toNatClampNeg x1) (am_nar 1 (s.1 59 (Int32.toNatClampNeg x1))))
    · refine sm_fg [.ref 58, .null] ⟨Or.inr rfl, Or.inl rfl, trivial⟩ ?_
      exact sm_ex (fun _ _ h => h.2)

set_option maxRecDepth 20000 in
theorem l_X12_read_107 (d : Nat) (sw : Bool) : ∀ (n : Nat) (s : am_S), am_Sm tb_X12_read 12 false none (some .int) (d + 5) (am_pl am_cI sw (fun (v9 : Unit) s9 r h9 => am_Ex tb_X12_read 12 false none (some .int) (d + 5) r h9 129 [.ref 58, .null] [] (am_hp sw s9))) (f_X12_read_L107 n s) 107 [.ref 58, .null] [] (am_hp sw s) := by
  intro n
  induction n with
  | zero => intro s; exact sm_no
  | succ n ih =>
    intro s
    rw [f_X12_read_L107]
    refine sm_br 3 114 129 [.ref 58, .null] [] (am_hp sw s) (fun _ => rfl) (fun _ => ?_) (fun _ => ?_)
    · refine sm_call (cvf := am_cI) 2 116 [.ref 58, .null] [.int (0), .ref 58] sw s 144 [.ref 58, .int (0)] [] (fun _ => rfl) rfl (fun _ _ e9 => r_X12_is (d + 4) sw _ _ _ _ e9) am_pl20 (fun v116 s116 => ?_)
      refine sm_br 1 122 129 [.ref 58, .null] [] (am_hp sw s116) (fun _ => rfl) (fun _ => ?_) (fun _ => ?_)
      · refine sm_call (cvf := am_cU) 1 123 [.ref 58, .null] [.ref 58] sw s116 150 [.ref 58] [] (fun _ => rfl) rfl (fun _ _ e9 => r_X12_tellRule (d + 0) sw _ _  _ e9) am_pl20 (fun _v s123 => ?_)
        refine sm_go 1 107 [.ref 58, .null] [] (am_hp sw s123) (fun _ => rfl) ?_
        exact ih s123
      · exact sm_ex (fun _ _ h => h.2)
    · exact sm_ex (fun _ _ h => h.2)

set_option maxRecDepth 20000 in
theorem r_X12_read (d : Nat) (sw : Bool) (s s' : am_S) (v : Int32) (e : f_X12_read s = some (v, s')) : am_Run (d + 6) 148 [.ref 58] (am_hp sw s) (am_cI v) (am_hp sw s') := by
  refine am_Run.of (M := mt_X12_read) (cvf := am_cI) (X := f_X12_read s) rfl rfl rfl (by simp) ?_ e
  unfold f_X12_read
  show am_Sm tb_X12_read 12 false none (some .int) (d + 5) (am_po am_cI sw) _ 0 [.ref 58, .null] [] (am_hp sw s)
  refine sm_go 6 10 [.ref 58, .int (0)] [] (am_hp sw (am_wI s 58 4 (s.1 58 2))) (fun _ => rfl) ?_
  refine sm_lp 36 (fun _y => [.ref 58, .null]) (l_X12_read_10 d sw am_FU (0) (am_wI s 58 4 (s.1 58 2))) (fun _ _ _ h => h) am_po20 (fun _y s10 => ?_)
  refine sm_call (cvf := am_cU) 4 42 [.ref 58, .null] [.ref 58] sw (am_wI s10 58 2 (0)) 142 [.ref 58] [] (fun _ => rfl) rfl (fun _ _ e9 => r_X12_cut (d + 2) sw _ _  _ e9) am_po20 (fun _v s42 => ?_)
  refine sm_iast 23 84 [.ref 58, .null] [] sw (am_wI (am_wI (am_wI (am_wI (am_wI s42 58 11 (0)) 58 12 (0)) 58 13 (0)) 58 15 (0)) 58 19 (1 - (s42.1 58 18))) (i := (1 - (s42.1 58 18))) (x := (0)) (c := 66) (fun _ => rfl) rfl rfl rfl ?_
  refine sm_iast 5 94 [.ref 58, .null] [] sw (am_wI (am_wI (am_wI (am_wI (am_wI (am_wI s42 58 11 (0)) 58 12 (0)) 58 13 (0)) 58 15 (0)) 58 19 (1 - (s42.1 58 18))) 66 (Int32.toNatClampNeg (1 - (s42.1 58 18))) (0)) (i := (1 - (s42.1 58 18))) (x := (0)) (c := 72) (fun _ => rfl) rfl rfl rfl ?_
  refine sm_go 6 107 [.ref 58, .null] [] (am_hp sw (am_wI (am_wI (am_wI (am_wI (am_wI (am_wI (am_wI (am_wI s42 58 11 (0)) 58 12 (0)) 58 13 (0)) 58 15 (0)) 58 19 (1 - (s42.1 58 18))) 66 (Int32.toNatClampNeg (1 - (s42.1 58 18))) (0)) 72 (Int32.toNatClampNeg (1 - (s42.1 58 18))) (0)) 58 32 (500 * (1 - (s42.1 58 18))))) (fun _ => rfl) ?_
  refine sm_lp 129 (fun _y => [.ref 58, .null]) (l_X12_read_107 d sw am_FU (am_wI (am_wI (am_wI (am_wI (am_wI (am_wI (am_wI (am_wI s42 58 11 (0)) 58 12 (0)) 58 13 (0)) 58 15 (0)) 58 19 (1 - (s42.1 58 18))) 66 (Int32.toNatClampNeg (1 - (s42.1 58 18))) (0)) 72 (Int32.toNatClampNeg (1 - (s42.1 58 18))) (0)) 58 32 (500 * (1 - (s42.1 58 18))))) (fun _ _ _ h => h) am_po20 (fun _y s107 => ?_)
  refine sm_go 3 134 [.ref 58, .null] [.int (s107.1 58 13), .ref 58] (am_hp sw s107) (fun _ => rfl) ?_
  refine sm_jn 145 (fun p145 => [.ref 58, .null]) (fun p145 => [.int p145.1, .ref 58]) (fun p145 => (am_hp sw p145.2)) (fun p145 => ?_) (fun j145 hj145 => ?_)
  · refine sm_br 4 155 160 [.ref 58, .null] [] (am_hp sw (am_wI p145.2 58 17 p145.1)) (fun _ => rfl) (fun _ => ?_) (fun _ => ?_)
    · exact sm_ret 2 159 [.ref 58, .null] [.int (p145.2.1 58 13)] (am_hp sw (am_wI p145.2 58 17 p145.1)) (some (.int (p145.2.1 58 13))) (fun _ => rfl) rfl (fun _ _ h => h)
    · exact sm_ret 5 169 [.ref 58, .null] [.int (0)] (am_hp sw (am_wI (am_wI p145.2 58 17 p145.1) 58 18 (p145.2.1 58 19))) (some (.int (0))) (fun _ => rfl) rfl (fun _ _ h => h)
  refine sm_br 1 137 144 [.ref 58, .null] [.ref 58] (am_hp sw s107) (fun _ => rfl) (fun _ => ?_) (fun _ => ?_)
  · refine sm_go 3 145 [.ref 58, .null] [.int (s107.1 58 14), .ref 58] (am_hp sw s107) (fun _ => rfl) ?_
    exact hj145 ((s107.1 58 14), s107)
  · refine sm_go 1 145 [.ref 58, .null] [.int (-1), .ref 58] (am_hp sw s107) (fun _ => rfl) ?_
    exact hj145 ((-1), s107)

def f_X12_place (s : am_S) : Option (Int32 × am_S) := some ((s.1 58 17), s)
set_option maxRecDepth 20000 in
theorem r_X12_place (d : Nat) (sw : Bool) (s s' : am_S) (v : Int32) (e : f_X12_place s = some (v, s')) : am_Run (d + 1) 149 [.ref 58] (am_hp sw s) (am_cI v) (am_hp sw s') := by
  refine am_Run.of (M := mt_X12_place) (cvf := am_cI) (X := f_X12_place s) rfl rfl rfl (by simp) ?_ e
  unfold f_X12_place
  show am_Sm tb_X12_place 12 false none (some .int) (d + 0) (am_po am_cI sw) _ 0 [.ref 58] [] (am_hp sw s)
  exact sm_ret 2 4 [.ref 58] [.int (s.1 58 17)] (am_hp sw s) (some (.int (s.1 58 17))) (fun _ => rfl) rfl (fun _ _ h => h)

def f_X12_isKind (s : am_S) (x1 : Int32) : Option (Int32 × am_S) := if x1 < 0 then (some ((0), s)) else (if x1 < (s.1 58 37) then (some ((1), s)) else (some ((0), s)))
set_option maxRecDepth 20000 in
theorem r_X12_isKind (d : Nat) (sw : Bool) (s s' : am_S) (x1 : Int32) (v : Int32) (e : f_X12_isKind s x1 = some (v, s')) : am_Run (d + 1) 155 [.ref 58, .int x1] (am_hp sw s) (am_cI v) (am_hp sw s') := by
  refine am_Run.of (M := mt_X12_isKind) (cvf := am_cI) (X := f_X12_isKind s x1) rfl rfl rfl (by simp) ?_ e
  unfold f_X12_isKind
  show am_Sm tb_X12_isKind 12 false none (some .boolean) (d + 0) (am_po am_cI sw) _ 0 [.ref 58, .int x1] [] (am_hp sw s)
  refine sm_br 2 16 4 [.ref 58, .int x1] [] (am_hp sw s) (fun _ => rfl) (fun _ => ?_) (fun _ => ?_)
  · exact sm_ret 1 17 [.ref 58, .int x1] [.int (0)] (am_hp sw s) (some (.int (0))) (fun _ => rfl) rfl (fun _ _ h => h)
  · refine sm_br 4 12 16 [.ref 58, .int x1] [] (am_hp sw s) (fun _ => rfl) (fun _ => ?_) (fun _ => ?_)
    · exact sm_ret 2 17 [.ref 58, .int x1] [.int (1)] (am_hp sw s) (some (.int (1))) (fun _ => rfl) rfl (fun _ _ h => h)
    · exact sm_ret 1 17 [.ref 58, .int x1] [.int (0)] (am_hp sw s) (some (.int (0))) (fun _ => rfl) rfl (fun _ _ h => h)

def f_X12_isFamily (s : am_S) (x1 : Int32) : Option (Int32 × am_S) := if x1 < 0 then (some ((0), s)) else (if x1 < (s.1 58 41) then (some ((1), s)) else (some ((0), s)))
set_option maxRecDepth 20000 in
theorem r_X12_isFamily (d : Nat) (sw : Bool) (s s' : am_S) (x1 : Int32) (v : Int32) (e : f_X12_isFamily s x1 = some (v, s')) : am_Run (d + 1) 156 [.ref 58, .int x1] (am_hp sw s) (am_cI v) (am_hp sw s') := by
  refine am_Run.of (M := mt_X12_isFamily) (cvf := am_cI) (X := f_X12_isFamily s x1) rfl rfl rfl (by simp) ?_ e
  unfold f_X12_isFamily
  show am_Sm tb_X12_isFamily 12 false none (some .boolean) (d + 0) (am_po am_cI sw) _ 0 [.ref 58, .int x1] [] (am_hp sw s)
  refine sm_br 2 16 4 [.ref 58, .int x1] [] (am_hp sw s) (fun _ => rfl) (fun _ => ?_) (fun _ => ?_)
  · exact sm_ret 1 17 [.ref 58, .int x1] [.int (0)] (am_hp sw s) (some (.int (0))) (fun _ => rfl) rfl (fun _ _ h => h)
  · refine sm_br 4 12 16 [.ref 58, .int x1] [] (am_hp sw s) (fun _ => rfl) (fun _ => ?_) (fun _ => ?_)
    · exact sm_ret 2 17 [.ref 58, .int x1] [.int (1)] (am_hp sw s) (some (.int (1))) (fun _ => rfl) rfl (fun _ _ h => h)
    · exact sm_ret 1 17 [.ref 58, .int x1] [.int (0)] (am_hp sw s) (some (.int (0))) (fun _ => rfl) rfl (fun _ _ h => h)

def f_X12_kind (s : am_S) (x1 : Int32) (x2 : Int32) (x3 : Int32) : Option (Int32 × am_S) := if (s.1 58 37) = 8 then (some ((-1), s)) else (if x1 < 1 then (some ((-1), s)) else (if 9 < x1 then (some ((-1), s)) else (if x2 < 1 then (some ((-1), s)) else (if 12 < x2 then (some ((-1), s)) else (if x3 < 0 then (some ((-1), s)) else (if 100 < x3 then (some ((-1), s)) else (am_gu (am_in (s.1 58 37) 8) (am_gu (am_in (s.1 58 37) 8) (am_gu (am_in (s.1 58 37) 8) (some ((((s.1 58 37) + 1) - 1), (am_wI (am_wI (am_wI (am_wI s 81 (Int32.toNatClampNeg (s.1 58 37)) x1) 82 (Int32.toNatClampNeg (s.1 58 37)) x2) 83 (Int32.toNatClampNeg (s.1 58 37)) x3) 58 37 ((s.1 58 37) + 1)))))))))))))
set_option maxRecDepth 20000 in
theorem r_X12_kind (d : Nat) (sw : Bool) (s s' : am_S) (x1 : Int32) (x2 : Int32) (x3 : Int32) (v : Int32) (e : f_X12_kind s x1 x2 x3 = some (v, s')) : am_Run (d + 1) 157 [.ref 58, .int x1, .int x2, .int x3] (am_hp sw s) (am_cI v) (am_hp sw s') := by
  refine am_Run.of (M := mt_X12_kind) (cvf := am_cI) (X := f_X12_kind s x1 x2 x3) rfl rfl rfl (by simp) ?_ e
  unfold f_X12_kind
  show am_Sm tb_X12_kind 12 false none (some .int) (d + 0) (am_po am_cI sw) _ 0 [.ref 58, .int x1, .int x2, .int x3] [] (am_hp sw s)
  refine sm_br 4 41 9 [.ref 58, .int x1, .int x2, .int x3] [] (am_hp sw s) (fun _ => rfl) (fun _ => ?_) (fun _ => ?_)
  · exact sm_ret 1 42 [.ref 58, .int x1, .int x2, .int x3] [.int (-1)] (am_hp sw s) (some (.int (-1))) (fun _ => rfl) rfl (fun _ _ h => h)
  · refine sm_br 3 41 14 [.ref 58, .int x1, .int x2, .int x3] [] (am_hp sw s) (fun _ => rfl) (fun _ => ?_) (fun _ => ?_)
    · exact sm_ret 1 42 [.ref 58, .int x1, .int x2, .int x3] [.int (-1)] (am_hp sw s) (some (.int (-1))) (fun _ => rfl) rfl (fun _ _ h => h)
    · refine sm_br 3 41 20 [.ref 58, .int x1, .int x2, .int x3] [] (am_hp sw s) (fun _ => rfl) (fun _ => ?_) (fun _ => ?_)
      · exact sm_ret 1 42 [.ref 58, .int x1, .int x2, .int x3] [.int (-1)] (am_hp sw s) (some (.int (-1))) (fun _ => rfl) rfl (fun _ _ h => h)
      · refine sm_br 3 41 25 [.ref 58, .int x1, .int x2, .int x3] [] (am_hp sw s) (fun _ => rfl) (fun _ => ?_) (fun _ => ?_)
        · exact sm_ret 1 42 [.ref 58, .int x1, .int x2, .int x3] [.int (-1)] (am_hp sw s) (some (.int (-1))) (fun _ => rfl) rfl (fun _ _ h => h)
        · refine sm_br 3 41 31 [.ref 58, .int x1, .int x2, .int x3] [] (am_hp sw s) (fun _ => rfl) (fun _ => ?_) (fun _ => ?_)
          · exact sm_ret 1 42 [.ref 58, .int x1, .int x2, .int x3] [.int (-1)] (am_hp sw s) (some (.int (-1))) (fun _ => rfl) rfl (fun _ _ h => h)
          · refine sm_br 2 41 35 [.ref 58, .int x1, .int x2, .int x3] [] (am_hp sw s) (fun _ => rfl) (fun _ => ?_) (fun _ => ?_)
            · exact sm_ret 1 42 [.ref 58, .int x1, .int x2, .int x3] [.int (-1)] (am_hp sw s) (some (.int (-1))) (fun _ => rfl) rfl (fun _ _ h => h)
            · refine sm_br 3 41 43 [.ref 58, .int x1, .int x2, .int x3] [] (am_hp sw s) (fun _ => rfl) (fun _ => ?_) (fun _ => ?_)
              · exact sm_ret 1 42 [.ref 58, .int x1, .int x2, .int x3] [.int (-1)] (am_hp sw s) (some (.int (-1))) (fun _ => rfl) rfl (fun _ _ h => h)
              · refine sm_iast 5 52 [.ref 58, .int x1, .int x2, .int x3] [] sw s (i := (s.1 58 37)) (x := x1) (c := 81) (fun _ => rfl) rfl rfl rfl ?_
                refine sm_iast 5 62 [.ref 58, .int x1, .int x2, .int x3] [] sw (am_wI s 81 (Int32.toNatClampNeg (s.1 58 37)) x1) (i := (s.1 58 37)) (x := x2) (c := 82) (fun _ => rfl) rfl rfl rfl ?_
                refine sm_iast 5 72 [.ref 58, .int x1, .int x2, .int x3] [] sw (am_wI (am_wI s 81 (Int32.toNatClampNeg (s.1 58 37)) x1) 82 (Int32.toNatClampNeg (s.1 58 37)) x2) (i := (s.1 58 37)) (x := x3) (c := 83) (fun _ => rfl) rfl rfl rfl ?_
                exact sm_ret 10 89 [.ref 58, .int x1, .int x2, .int x3] [.int (((s.1 58 37) + 1) - 1)] (am_hp sw (am_wI (am_wI (am_wI (am_wI s 81 (Int32.toNatClampNeg (s.1 58 37)) x1) 82 (Int32.toNatClampNeg (s.1 58 37)) x2) 83 (Int32.toNatClampNeg (s.1 58 37)) x3) 58 37 ((s.1 58 37) + 1))) (some (.int (((s.1 58 37) + 1) - 1))) (fun _ => rfl) rfl (fun _ _ h => h)

def f_X12_family (s : am_S) (x1 : Int32) (x2 : Int32) : Option (Int32 × am_S) := if (s.1 58 41) = 8 then (some ((-1), s)) else (if x1 < 1 then (some ((-1), s)) else (if 9 < x1 then (some ((-1), s)) else (am_gu (am_in (s.1 58 41) 8) (am_gu (am_in (s.1 58 41) 8) (some ((((s.1 58 41) + 1) - 1), (am_wI (am_wI (am_wI s 84 (Int32.toNatClampNeg (s.1 58 41)) x1) 85 (Int32.toNatClampNeg (s.1 58 41)) (am_nar 3 x2)) 58 41 ((s.1 58 41) + 1))))))))
set_option maxRecDepth 20000 in
theorem r_X12_family (d : Nat) (sw : Bool) (s s' : am_S) (x1 : Int32) (x2 : Int32) (v : Int32) (e : f_X12_family s x1 x2 = some (v, s')) : am_Run (d + 1) 158 [.ref 58, .int x1, .int x2] (am_hp sw s) (am_cI v) (am_hp sw s') := by
  refine am_Run.of (M := mt_X12_family) (cvf := am_cI) (X := f_X12_family s x1 x2) rfl rfl rfl (by simp) ?_ e
  unfold f_X12_family
  show am_Sm tb_X12_family 12 false none (some .int) (d + 0) (am_po am_cI sw) _ 0 [.ref 58, .int x1, .int x2] [] (am_hp sw s)
  refine sm_br 4 20 9 [.ref 58, .int x1, .int x2] [] (am_hp sw s) (fun _ => rfl) (fun _ => ?_) (fun _ => ?_)
  · exact sm_ret 1 21 [.ref 58, .int x1, .int x2] [.int (-1)] (am_hp sw s) (some (.int (-1))) (fun _ => rfl) rfl (fun _ _ h => h)
  · refine sm_br 3 20 14 [.ref 58, .int x1, .int x2] [] (am_hp sw s) (fun _ => rfl) (fun _ => ?_) (fun _ => ?_)
    · exact sm_ret 1 21 [.ref 58, .int x1, .int x2] [.int (-1)] (am_hp sw s) (some (.int (-1))) (fun _ => rfl) rfl (fun _ _ h => h)
    · refine sm_br 3 20 22 [.ref 58, .int x1, .int x2] [] (am_hp sw s) (fun _ => rfl) (fun _ => ?_) (fun _ => ?_)
      · exact sm_ret 1 21 [.ref 58, .int x1, .int x2] [.int (-1)] (am_hp sw s) (some (.int (-1))) (fun _ => rfl) rfl (fun _ _ h => h)
      · refine sm_iast 5 31 [.ref 58, .int x1, .int x2] [] sw s (i := (s.1 58 41)) (x := x1) (c := 84) (fun _ => rfl) rfl rfl rfl ?_
        refine sm_bast 5 41 [.ref 58, .int x1, .int x2] [] sw (am_wI s 84 (Int32.toNatClampNeg (s.1 58 41)) x1) (i := (s.1 58 41)) (x := x2) (c := 85) (fun _ => rfl) rfl rfl rfl rfl ?_
        exact sm_ret 10 58 [.ref 58, .int x1, .int x2] [.int (((s.1 58 41) + 1) - 1)] (am_hp sw (am_wI (am_wI (am_wI s 84 (Int32.toNatClampNeg (s.1 58 41)) x1) 85 (Int32.toNatClampNeg (s.1 58 41)) (am_nar 3 x2)) 58 41 ((s.1 58 41) + 1))) (some (.int (((s.1 58 41) + 1) - 1))) (fun _ => rfl) rfl (fun _ _ h => h)

def f_X12_own (s : am_S) (x1 : Int32) (x2 : Int32) : Option (Int32 × am_S) := am_bd (f_X12_isFamily s x1) (fun v2 s2 => if v2 = 0 then (some ((0), s2)) else (am_bd (f_X12_isKind s2 x2) (fun v10 s10 => if v10 = 0 then (some ((0), s10)) else (am_gu (am_in ((8 * x1) + x2) 64) (if (s10.1 87 (Int32.toNatClampNeg ((8 * x1) + x2))) = 0 then (am_gu (am_in ((8 * x1) + x2) 64) (some ((1), (am_wI s10 87 (Int32.toNatClampNeg ((8 * x1) + x2)) (am_nar 3 (1)))))) else (some ((0), s10)))))))
set_option maxRecDepth 20000 in
theorem r_X12_own (d : Nat) (sw : Bool) (s s' : am_S) (x1 : Int32) (x2 : Int32) (v : Int32) (e : f_X12_own s x1 x2 = some (v, s')) : am_Run (d + 2) 159 [.ref 58, .int x1, .int x2] (am_hp sw s) (am_cI v) (am_hp sw s') := by
  refine am_Run.of (M := mt_X12_own) (cvf := am_cI) (X := f_X12_own s x1 x2) rfl rfl rfl (by simp) ?_ e
  unfold f_X12_own
  show am_Sm tb_X12_own 12 false none (some .boolean) (d + 1) (am_po am_cI sw) _ 0 [.ref 58, .int x1, .int x2] [] (am_hp sw s)
  refine sm_call (cvf := am_cI) 2 2 [.ref 58, .int x1, .int x2] [.int x1, .ref 58] sw s 156 [.ref 58, .int x1] [] (fun _ => rfl) rfl (fun _ _ e9 => r_X12_isFamily (d + 0) sw _ _ _ _ e9) am_po20 (fun v2 s2 => ?_)
  refine sm_br 1 30 8 [.ref 58, .int x1, .int x2] [] (am_hp sw s2) (fun _ => rfl) (fun _ => ?_) (fun _ => ?_)
  · exact sm_ret 1 31 [.ref 58, .int x1, .int x2] [.int (0)] (am_hp sw s2) (some (.int (0))) (fun _ => rfl) rfl (fun _ _ h => h)
  · refine sm_call (cvf := am_cI) 2 10 [.ref 58, .int x1, .int x2] [.int x2, .ref 58] sw s2 155 [.ref 58, .int x2] [] (fun _ => rfl) rfl (fun _ _ e9 => r_X12_isKind (d + 0) sw _ _ _ _ e9) am_po20 (fun v10 s10 => ?_)
    refine sm_br 1 30 16 [.ref 58, .int x1, .int x2] [] (am_hp sw s10) (fun _ => rfl) (fun _ => ?_) (fun _ => ?_)
    · exact sm_ret 1 31 [.ref 58, .int x1, .int x2] [.int (0)] (am_hp sw s10) (some (.int (0))) (fun _ => rfl) rfl (fun _ _ h => h)
    · refine sm_bald 7 26 [.ref 58, .int x1, .int x2] [] (am_hp sw s10) (i := ((8 * x1) + x2)) (c := 87) (fun _ => rfl) rfl rfl rfl rfl ?_
      refine sm_br 1 32 30 [.ref 58, .int x1, .int x2] [] (am_hp sw s10) (fun _ => rfl) (fun _ => ?_) (fun _ => ?_)
      · refine sm_bast 8 43 [.ref 58, .int x1, .int x2] [] sw s10 (i := ((8 * x1) + x2)) (x := (1)) (c := 87) (fun _ => rfl) rfl rfl rfl rfl ?_
        exact sm_ret 1 45 [.ref 58, .int x1, .int x2] [.int (1)] (am_hp sw (am_wI s10 87 (Int32.toNatClampNeg ((8 * x1) + x2)) (am_nar 3 (1)))) (some (.int (1))) (fun _ => rfl) rfl (fun _ _ h => h)
      · exact sm_ret 1 31 [.ref 58, .int x1, .int x2] [.int (0)] (am_hp sw s10) (some (.int (0))) (fun _ => rfl) rfl (fun _ _ h => h)

def f_X12_lend (s : am_S) (x1 : Int32) (x2 : Int32) (x3 : Int32) (x4 : Int32) : Option (Int32 × am_S) := am_bd (f_X12_isFamily s x1) (fun v2 s2 => if v2 = 0 then (some ((0), s2)) else (am_bd (f_X12_isFamily s2 x2) (fun v10 s10 => if v10 = 0 then (some ((0), s10)) else (if x1 = x2 then (some ((0), s10)) else (am_bd (f_X12_isKind s10 x3) (fun v23 s23 => if v23 = 0 then (some ((0), s23)) else (am_gu (am_in ((8 * x1) + x3) 64) (if (s23.1 87 (Int32.toNatClampNeg ((8 * x1) + x3))) = 0 then (some ((0), s23)) else (if (s23.1 58 51) < x4 then (if 40 < x4 then (some ((0), s23)) else (if (s23.1 58 46) = 100 then (some ((0), s23)) else (am_gu (am_in (s23.1 58 46) 100) (am_gu (am_in (s23.1 58 46) 100) (am_gu (am_in (s23.1 58 46) 100) (am_gu (am_in (s23.1 58 46) 100) (some ((1), (am_wI (am_wI (am_wI (am_wI (am_wI s23 88 (Int32.toNatClampNeg (s23.1 58 46)) x2) 89 (Int32.toNatClampNeg (s23.1 58 46)) x3) 90 (Int32.toNatClampNeg (s23.1 58 46)) (s23.1 58 51)) 91 (Int32.toNatClampNeg (s23.1 58 46)) x4) 58 46 ((s23.1 58 46) + 1)))))))))) else (some ((0), s23)))))))))))
set_option maxRecDepth 20000 in
theorem r_X12_lend (d : Nat) (sw : Bool) (s s' : am_S) (x1 : Int32) (x2 : Int32) (x3 : Int32) (x4 : Int32) (v : Int32) (e : f_X12_lend s x1 x2 x3 x4 = some (v, s')) : am_Run (d + 2) 160 [.ref 58, .int x1, .int x2, .int x3, .int x4] (am_hp sw s) (am_cI v) (am_hp sw s') := by
  refine am_Run.of (M := mt_X12_lend) (cvf := am_cI) (X := f_X12_lend s x1 x2 x3 x4) rfl rfl rfl (by simp) ?_ e
  unfold f_X12_lend
  show am_Sm tb_X12_lend 12 false none (some .boolean) (d + 1) (am_po am_cI sw) _ 0 [.ref 58, .int x1, .int x2, .int x3, .int x4] [] (am_hp sw s)
  refine sm_call (cvf := am_cI) 2 2 [.ref 58, .int x1, .int x2, .int x3, .int x4] [.int x1, .ref 58] sw s 156 [.ref 58, .int x1] [] (fun _ => rfl) rfl (fun _ _ e9 => r_X12_isFamily (d + 0) sw _ _ _ _ e9) am_po20 (fun v2 s2 => ?_)
  refine sm_br 1 68 8 [.ref 58, .int x1, .int x2, .int x3, .int x4] [] (am_hp sw s2) (fun _ => rfl) (fun _ => ?_) (fun _ => ?_)
  · exact sm_ret 1 69 [.ref 58, .int x1, .int x2, .int x3, .int x4] [.int (0)] (am_hp sw s2) (some (.int (0))) (fun _ => rfl) rfl (fun _ _ h => h)
  · refine sm_call (cvf := am_cI) 2 10 [.ref 58, .int x1, .int x2, .int x3, .int x4] [.int x2, .ref 58] sw s2 156 [.ref 58, .int x2] [] (fun _ => rfl) rfl (fun _ _ e9 => r_X12_isFamily (d + 0) sw _ _ _ _ e9) am_po20 (fun v10 s10 => ?_)
    refine sm_br 1 68 16 [.ref 58, .int x1, .int x2, .int x3, .int x4] [] (am_hp sw s10) (fun _ => rfl) (fun _ => ?_) (fun _ => ?_)
    · exact sm_ret 1 69 [.ref 58, .int x1, .int x2, .int x3, .int x4] [.int (0)] (am_hp sw s10) (some (.int (0))) (fun _ => rfl) rfl (fun _ _ h => h)
    · refine sm_br 3 68 21 [.ref 58, .int x1, .int x2, .int x3, .int x4] [] (am_hp sw s10) (fun _ => rfl) (fun _ => ?_) (fun _ => ?_)
      · exact sm_ret 1 69 [.ref 58, .int x1, .int x2, .int x3, .int x4] [.int (0)] (am_hp sw s10) (some (.int (0))) (fun _ => rfl) rfl (fun _ _ h => h)
      · refine sm_call (cvf := am_cI) 2 23 [.ref 58, .int x1, .int x2, .int x3, .int x4] [.int x3, .ref 58] sw s10 155 [.ref 58, .int x3] [] (fun _ => rfl) rfl (fun _ _ e9 => r_X12_isKind (d + 0) sw _ _ _ _ e9) am_po20 (fun v23 s23 => ?_)
        refine sm_br 1 68 29 [.ref 58, .int x1, .int x2, .int x3, .int x4] [] (am_hp sw s23) (fun _ => rfl) (fun _ => ?_) (fun _ => ?_)
        · exact sm_ret 1 69 [.ref 58, .int x1, .int x2, .int x3, .int x4] [.int (0)] (am_hp sw s23) (some (.int (0))) (fun _ => rfl) rfl (fun _ _ h => h)
        · refine sm_bald 7 39 [.ref 58, .int x1, .int x2, .int x3, .int x4] [] (am_hp sw s23) (i := ((8 * x1) + x3)) (c := 87) (fun _ => rfl) rfl rfl rfl rfl ?_
          refine sm_br 1 68 43 [.ref 58, .int x1, .int x2, .int x3, .int x4] [] (am_hp sw s23) (fun _ => rfl) (fun _ => ?_) (fun _ => ?_)
          · exact sm_ret 1 69 [.ref 58, .int x1, .int x2, .int x3, .int x4] [.int (0)] (am_hp sw s23) (some (.int (0))) (fun _ => rfl) rfl (fun _ _ h => h)
          · refine sm_br 4 52 68 [.ref 58, .int x1, .int x2, .int x3, .int x4] [] (am_hp sw s23) (fun _ => rfl) (fun _ => ?_) (fun _ => ?_)
            · refine sm_br 3 68 59 [.ref 58, .int x1, .int x2, .int x3, .int x4] [] (am_hp sw s23) (fun _ => rfl) (fun _ => ?_) (fun _ => ?_)
              · exact sm_ret 1 69 [.ref 58, .int x1, .int x2, .int x3, .int x4] [.int (0)] (am_hp sw s23) (some (.int (0))) (fun _ => rfl) rfl (fun _ _ h => h)
              · refine sm_br 4 68 70 [.ref 58, .int x1, .int x2, .int x3, .int x4] [] (am_hp sw s23) (fun _ => rfl) (fun _ => ?_) (fun _ => ?_)
                · exact sm_ret 1 69 [.ref 58, .int x1, .int x2, .int x3, .int x4] [.int (0)] (am_hp sw s23) (some (.int (0))) (fun _ => rfl) rfl (fun _ _ h => h)
                · refine sm_iast 5 79 [.ref 58, .int x1, .int x2, .int x3, .int x4] [] sw s23 (i := (s23.1 58 46)) (x := x2) (c := 88) (fun _ => rfl) rfl rfl rfl ?_
                  refine sm_iast 5 89 [.ref 58, .int x1, .int x2, .int x3, .int x4] [] sw (am_wI s23 88 (Int32.toNatClampNeg (s23.1 58 46)) x2) (i := (s23.1 58 46)) (x := x3) (c := 89) (fun _ => rfl) rfl rfl rfl ?_
                  refine sm_iast 6 102 [.ref 58, .int x1, .int x2, .int x3, .int x4] [] sw (am_wI (am_wI s23 88 (Int32.toNatClampNeg (s23.1 58 46)) x2) 89 (Int32.toNatClampNeg (s23.1 58 46)) x3) (i := (s23.1 58 46)) (x := (s23.1 58 51)) (c := 90) (fun _ => rfl) rfl rfl rfl ?_
                  refine sm_iast 5 113 [.ref 58, .int x1, .int x2, .int x3, .int x4] [] sw (am_wI (am_wI (am_wI s23 88 (Int32.toNatClampNeg (s23.1 58 46)) x2) 89 (Int32.toNatClampNeg (s23.1 58 46)) x3) 90 (Int32.toNatClampNeg (s23.1 58 46)) (s23.1 58 51)) (i := (s23.1 58 46)) (x := x4) (c := 91) (fun _ => rfl) rfl rfl rfl ?_
                  exact sm_ret 7 125 [.ref 58, .int x1, .int x2, .int x3, .int x4] [.int (1)] (am_hp sw (am_wI (am_wI (am_wI (am_wI (am_wI s23 88 (Int32.toNatClampNeg (s23.1 58 46)) x2) 89 (Int32.toNatClampNeg (s23.1 58 46)) x3) 90 (Int32.toNatClampNeg (s23.1 58 46)) (s23.1 58 51)) 91 (Int32.toNatClampNeg (s23.1 58 46)) x4) 58 46 ((s23.1 58 46) + 1))) (some (.int (1))) (fun _ => rfl) rfl (fun _ _ h => h)
            · exact sm_ret 1 69 [.ref 58, .int x1, .int x2, .int x3, .int x4] [.int (0)] (am_hp sw s23) (some (.int (0))) (fun _ => rfl) rfl (fun _ _ h => h)

def f_X12_mayCarve_L19 : Nat → Int32 → Int32 → Int32 → Int32 → am_S → Option ((Int32 × am_S) ⊕ ((Unit) × am_S))
  | 0, _, _, _, _, _ => none
  | n + 1, x1, x2, x3, x4, s => if x4 < (s.1 58 46) then (am_gu (am_in x4 100) (am_jn (fun (p74 : am_S) => f_X12_mayCarve_L19 n x1 x2 x3 (x4 + 1) p74) (fun j74 => if (s.1 88 (Int32.toNatClampNeg x4)) = x1 then (am_gu (am_in x4 100) (if (s.1 89 (Int32.toNatClampNeg x4)) = x2 then (am_gu (am_in x4 100) (if x3 < (s.1 90 (Int32.toNatClampNeg x4)) then (j74 s) else (am_gu (am_in x4 100) (if x3 < (s.1 91 (Int32.toNatClampNeg x4)) then (some (.inl ((1), s))) else (j74 s))))) else (j74 s))) else (j74 s)))) else (some (.inr ((), s)))
def f_X12_mayCarve (s : am_S) (x1 : Int32) (x2 : Int32) (x3 : Int32) : Option (Int32 × am_S) := am_gu (am_in ((8 * x1) + x2) 64) (if (s.1 87 (Int32.toNatClampNeg ((8 * x1) + x2))) = 0 then (am_lp (fun y => y) (f_X12_mayCarve_L19 am_FU x1 x2 x3 (0) s) (fun (_ : Unit) s19 => some ((0), s19))) else (some ((1), s)))
set_option maxRecDepth 20000 in
theorem l_X12_mayCarve_19 (d : Nat) (sw : Bool) : ∀ (n : Nat) (x1 : Int32) (x2 : Int32) (x3 : Int32) (x4 : Int32) (s : am_S), am_Sm tb_X12_mayCarve 12 false none (some .boolean) (d + 0) (am_pl am_cI sw (fun (v9 : Unit) s9 r h9 => am_Ex tb_X12_mayCarve 12 false none (some .boolean) (d + 0) r h9 80 [.null, .null, .null, .null, .null] [] (am_hp sw s9))) (f_X12_mayCarve_L19 n x1 x2 x3 x4 s) 19 [.ref 58, .int x1, .int x2, .int x3, .int x4] [] (am_hp sw s) := by
  intro n
  induction n with
  | zero => intro x1 x2 x3 x4 s; exact sm_no
  | succ n ih =>
    intro x1 x2 x3 x4 s
    rw [f_X12_mayCarve_L19]
    refine sm_br 4 28 80 [.ref 58, .int x1, .int x2, .int x3, .int x4] [] (am_hp sw s) (fun _ => rfl) (fun _ => ?_) (fun _ => ?_)
    · refine sm_iald 3 34 [.ref 58, .int x1, .int x2, .int x3, .int x4] [] (am_hp sw s) (i := x4) (c := 88) (fun _ => rfl) rfl rfl rfl rfl ?_
      refine sm_go 1 36 [.ref 58, .int x1, .int x2, .int x3, .int x4] [.int x1, .int (s.1 88 (Int32.toNatClampNeg x4))] (am_hp sw s) (fun _ => rfl) ?_
      refine sm_jn 74 (fun p74 => [.ref 58, .int x1, .int x2, .int x3, .int x4]) (fun p74 => []) (fun p74 => (am_hp sw p74)) (fun p74 => ?_) (fun j74 hj74 => ?_)
      · refine sm_go 2 19 [.ref 58, .int x1, .int x2, .int x3, .int (x4 + 1)] [] (am_hp sw p74) (fun _ => rfl) ?_
        exact ih x1 x2 x3 (x4 + 1) p74
      refine sm_br 1 39 74 [.ref 58, .int x1, .int x2, .int x3, .int x4] [] (am_hp sw s) (fun _ => rfl) (fun _ => ?_) (fun _ => ?_)
      · refine sm_iald 3 45 [.ref 58, .int x1, .int x2, .int x3, .int x4] [] (am_hp sw s) (i := x4) (c := 89) (fun _ => rfl) rfl rfl rfl rfl ?_
        refine sm_br 2 50 74 [.ref 58, .int x1, .int x2, .int x3, .int x4] [] (am_hp sw s) (fun _ => rfl) (fun _ => ?_) (fun _ => ?_)
        · refine sm_iald 3 56 [.ref 58, .int x1, .int x2, .int x3, .int x4] [] (am_hp sw s) (i := x4) (c := 90) (fun _ => rfl) rfl rfl rfl rfl ?_
          refine sm_br 2 74 61 [.ref 58, .int x1, .int x2, .int x3, .int x4] [] (am_hp sw s) (fun _ => rfl) (fun _ => ?_) (fun _ => ?_)
          · exact hj74 s
          · refine sm_iald 4 68 [.ref 58, .int x1, .int x2, .int x3, .int x4] [.int x3] (am_hp sw s) (i := x4) (c := 91) (fun _ => rfl) rfl rfl rfl rfl ?_
            refine sm_br 1 72 74 [.ref 58, .int x1, .int x2, .int x3, .int x4] [] (am_hp sw s) (fun _ => rfl) (fun _ => ?_) (fun _ => ?_)
            · exact sm_ret 1 73 [.ref 58, .int x1, .int x2, .int x3, .int x4] [.int (1)] (am_hp sw s) (some (.int (1))) (fun _ => rfl) rfl (fun _ _ h => h)
            · exact hj74 s
        · exact hj74 s
      · exact hj74 s
    · refine sm_fg [.null, .null, .null, .null, .null] ⟨Or.inl rfl, Or.inl rfl, Or.inl rfl, Or.inl rfl, Or.inl rfl, trivial⟩ ?_
      exact sm_ex (fun _ _ h => h.2)

set_option maxRecDepth 20000 in
theorem r_X12_mayCarve (d : Nat) (sw : Bool) (s s' : am_S) (x1 : Int32) (x2 : Int32) (x3 : Int32) (v : Int32) (e : f_X12_mayCarve s x1 x2 x3 = some (v, s')) : am_Run (d + 1) 161 [.ref 58, .int x1, .int x2, .int x3] (am_hp sw s) (am_cI v) (am_hp sw s') := by
  refine am_Run.of (M := mt_X12_mayCarve) (cvf := am_cI) (X := f_X12_mayCarve s x1 x2 x3) rfl rfl rfl (by simp) ?_ e
  unfold f_X12_mayCarve
  show am_Sm tb_X12_mayCarve 12 false none (some .boolean) (d + 0) (am_po am_cI sw) _ 0 [.ref 58, .int x1, .int x2, .int x3, .null] [] (am_hp sw s)
  refine sm_bald 7 10 [.ref 58, .int x1, .int x2, .int x3, .null] [] (am_hp sw s) (i := ((8 * x1) + x2)) (c := 87) (fun _ => rfl) rfl rfl rfl rfl ?_
  refine sm_br 1 16 14 [.ref 58, .int x1, .int x2, .int x3, .null] [] (am_hp sw s) (fun _ => rfl) (fun _ => ?_) (fun _ => ?_)
  · refine sm_go 2 19 [.ref 58, .int x1, .int x2, .int x3, .int (0)] [] (am_hp sw s) (fun _ => rfl) ?_
    refine sm_lp 80 (fun _y => [.null, .null, .null, .null, .null]) (l_X12_mayCarve_19 d sw am_FU x1 x2 x3 (0) s) (fun _ _ _ h => h) am_po20 (fun _y s19 => ?_)
    exact sm_ret 1 81 [.null, .null, .null, .null, .null] [.int (0)] (am_hp sw s19) (some (.int (0))) (fun _ => rfl) rfl (fun _ _ h => h)
  · exact sm_ret 1 15 [.ref 58, .int x1, .int x2, .int x3, .null] [.int (1)] (am_hp sw s) (some (.int (1))) (fun _ => rfl) rfl (fun _ _ h => h)

def f_X12_may (s : am_S) (x1 : Int32) (x2 : Int32) (x3 : Int32) : Option (Int32 × am_S) := am_bd (f_X12_isFamily s x1) (fun v2 s2 => if v2 = 0 then (some ((-1), s2)) else (am_bd (f_X12_isKind s2 x2) (fun v10 s10 => if v10 = 0 then (some ((-1), s10)) else (if x3 < 0 then (some ((-1), s10)) else (if 39 < x3 then (some ((-1), s10)) else (am_bd (f_X12_mayCarve s10 x1 x2 x3) (fun v32 s32 => if v32 = 0 then (some ((0), s32)) else (some ((1), s32)))))))))
set_option maxRecDepth 20000 in
theorem r_X12_may (d : Nat) (sw : Bool) (s s' : am_S) (x1 : Int32) (x2 : Int32) (x3 : Int32) (v : Int32) (e : f_X12_may s x1 x2 x3 = some (v, s')) : am_Run (d + 2) 162 [.ref 58, .int x1, .int x2, .int x3] (am_hp sw s) (am_cI v) (am_hp sw s') := by
  refine am_Run.of (M := mt_X12_may) (cvf := am_cI) (X := f_X12_may s x1 x2 x3) rfl rfl rfl (by simp) ?_ e
  unfold f_X12_may
  show am_Sm tb_X12_may 12 false none (some .int) (d + 1) (am_po am_cI sw) _ 0 [.ref 58, .int x1, .int x2, .int x3] [] (am_hp sw s)
  refine sm_call (cvf := am_cI) 2 2 [.ref 58, .int x1, .int x2, .int x3] [.int x1, .ref 58] sw s 156 [.ref 58, .int x1] [] (fun _ => rfl) rfl (fun _ _ e9 => r_X12_isFamily (d + 0) sw _ _ _ _ e9) am_po20 (fun v2 s2 => ?_)
  refine sm_br 1 26 8 [.ref 58, .int x1, .int x2, .int x3] [] (am_hp sw s2) (fun _ => rfl) (fun _ => ?_) (fun _ => ?_)
  · exact sm_ret 1 27 [.ref 58, .int x1, .int x2, .int x3] [.int (-1)] (am_hp sw s2) (some (.int (-1))) (fun _ => rfl) rfl (fun _ _ h => h)
  · refine sm_call (cvf := am_cI) 2 10 [.ref 58, .int x1, .int x2, .int x3] [.int x2, .ref 58] sw s2 155 [.ref 58, .int x2] [] (fun _ => rfl) rfl (fun _ _ e9 => r_X12_isKind (d + 0) sw _ _ _ _ e9) am_po20 (fun v10 s10 => ?_)
    refine sm_br 1 26 16 [.ref 58, .int x1, .int x2, .int x3] [] (am_hp sw s10) (fun _ => rfl) (fun _ => ?_) (fun _ => ?_)
    · exact sm_ret 1 27 [.ref 58, .int x1, .int x2, .int x3] [.int (-1)] (am_hp sw s10) (some (.int (-1))) (fun _ => rfl) rfl (fun _ _ h => h)
    · refine sm_br 2 26 20 [.ref 58, .int x1, .int x2, .int x3] [] (am_hp sw s10) (fun _ => rfl) (fun _ => ?_) (fun _ => ?_)
      · exact sm_ret 1 27 [.ref 58, .int x1, .int x2, .int x3] [.int (-1)] (am_hp sw s10) (some (.int (-1))) (fun _ => rfl) rfl (fun _ _ h => h)
      · refine sm_br 3 26 28 [.ref 58, .int x1, .int x2, .int x3] [] (am_hp sw s10) (fun _ => rfl) (fun _ => ?_) (fun _ => ?_)
        · exact sm_ret 1 27 [.ref 58, .int x1, .int x2, .int x3] [.int (-1)] (am_hp sw s10) (some (.int (-1))) (fun _ => rfl) rfl (fun _ _ h => h)
        · refine sm_call (cvf := am_cI) 4 32 [.ref 58, .int x1, .int x2, .int x3] [.int x3, .int x2, .int x1, .ref 58] sw s10 161 [.ref 58, .int x1, .int x2, .int x3] [] (fun _ => rfl) rfl (fun _ _ e9 => r_X12_mayCarve (d + 0) sw _ _ _ _ _ _ e9) am_po20 (fun v32 s32 => ?_)
          refine sm_br 1 42 38 [.ref 58, .int x1, .int x2, .int x3] [] (am_hp sw s32) (fun _ => rfl) (fun _ => ?_) (fun _ => ?_)
          · exact sm_ret 1 43 [.ref 58, .int x1, .int x2, .int x3] [.int (0)] (am_hp sw s32) (some (.int (0))) (fun _ => rfl) rfl (fun _ _ h => h)
          · exact sm_ret 2 43 [.ref 58, .int x1, .int x2, .int x3] [.int (1)] (am_hp sw s32) (some (.int (1))) (fun _ => rfl) rfl (fun _ _ h => h)

def f_X12_season (s : am_S) : Option (Int32 × am_S) := if (s.1 58 51) = 39 then (some ((-1), s)) else (some (((s.1 58 51) + 1), (am_wI s 58 51 ((s.1 58 51) + 1))))
set_option maxRecDepth 20000 in
theorem r_X12_season (d : Nat) (sw : Bool) (s s' : am_S) (v : Int32) (e : f_X12_season s = some (v, s')) : am_Run (d + 1) 163 [.ref 58] (am_hp sw s) (am_cI v) (am_hp sw s') := by
  refine am_Run.of (M := mt_X12_season) (cvf := am_cI) (X := f_X12_season s) rfl rfl rfl (by simp) ?_ e
  unfold f_X12_season
  show am_Sm tb_X12_season 12 false none (some .int) (d + 0) (am_po am_cI sw) _ 0 [.ref 58] [] (am_hp sw s)
  refine sm_br 4 9 11 [.ref 58] [] (am_hp sw s) (fun _ => rfl) (fun _ => ?_) (fun _ => ?_)
  · exact sm_ret 1 10 [.ref 58] [.int (-1)] (am_hp sw s) (some (.int (-1))) (fun _ => rfl) rfl (fun _ _ h => h)
  · exact sm_ret 8 25 [.ref 58] [.int ((s.1 58 51) + 1)] (am_hp sw (am_wI s 58 51 ((s.1 58 51) + 1))) (some (.int ((s.1 58 51) + 1))) (fun _ => rfl) rfl (fun _ _ h => h)

def f_X12_log_L54 : Nat → Int32 → Int64 → Int32 → Int32 → Int32 → am_S → Option ((Int32 × am_S) ⊕ ((Int32) × am_S))
  | 0, _, _, _, _, _, _ => none
  | n + 1, x1, x2, x4, x5, x6, s => if x6 < (s.1 58 41) then (am_bd (f_X12_mayCarve s x6 x5 (s.1 58 51)) (fun v72 s72 => am_jn (fun (p87 : Int32 × am_S) => f_X12_log_L54 n x1 x2 p87.1 x5 (x6 + 1) p87.2) (fun j87 => if v72 = 0 then (j87 (x4, s72)) else (j87 ((x4 ||| (1 <<< (x5 &&& 31))), s72))))) else (some (.inr (x4, s)))
def f_X12_log_L42 : Nat → Int32 → Int64 → Int32 → Int32 → am_S → Option ((Int32 × am_S) ⊕ ((Int32) × am_S))
  | 0, _, _, _, _, _ => none
  | n + 1, x1, x2, x4, x5, s => if x5 < (s.1 58 37) then (am_lp Sum.inl (f_X12_log_L54 am_FU x1 x2 x4 x5 (0) s) (fun y54 s54 => f_X12_log_L42 n x1 x2 y54 (x5 + 1) s54)) else (some (.inr (x4, s)))
def f_X12_log_L171 : Nat → Int32 → Int64 → Int32 → Int32 → Int32 → am_S → Option ((Int32 × am_S) ⊕ ((Unit) × am_S))
  | 0, _, _, _, _, _, _ => none
  | n + 1, x1, x2, x4, x5, x6, s => if x6 < 0 then (some (.inr ((), s))) else (am_gu (am_in x6 8) (am_jn (fun (p330 : am_S) => f_X12_log_L171 n x1 x2 x4 x5 (x6 + (-1)) p330) (fun j330 => if ((x4 >>> (x6 &&& 31)) &&& 1) = 0 then (j330 s) else (if x1 < (x5 + (s.1 81 (Int32.toNatClampNeg x6))) then (j330 s) else (am_gu (am_in x6 8) (if (lg_cmp ((x2 >>> (Int32.toInt64 x5 &&& 63)) &&& (((lN 1) <<< (Int32.toInt64 (s.1 81 (Int32.toNatClampNeg x6)) &&& 63)) - (lN 1))) (lN 0)) = 0 then (am_gu (am_in x6 8) (am_gu (am_in x6 8) (am_gu (am_in (x5 + (s.1 81 (Int32.toNatClampNeg x6))) 61) (am_gu (am_in (x5 + (s.1 81 (Int32.toNatClampNeg x6))) 61) (am_gu (am_in x5 61) (if (((s.1 83 (Int32.toNatClampNeg x6)) * (s.1 82 (Int32.toNatClampNeg x6))) + (s.1 99 (Int32.toNatClampNeg (x5 + (s.1 81 (Int32.toNatClampNeg x6)))))) < (s.1 99 (Int32.toNatClampNeg x5)) then (j330 s) else (am_gu (am_in x5 61) (am_jn (fun (p303 : am_S) => am_gu (am_in x5 61) (am_gu (am_in x5 61) (am_gu (am_in x5 61) (j330 (am_wI (am_wI (am_wI p303 99 (Int32.toNatClampNeg x5) (((s.1 83 (Int32.toNatClampNeg x6)) * (s.1 82 (Int32.toNatClampNeg x6))) + (s.1 99 (Int32.toNatClampNeg (x5 + (s.1 81 (Int32.toNatClampNeg x6))))))) 100 (Int32.toNatClampNeg x5) (1 + (s.1 100 (Int32.toNatClampNeg (x5 + (s.1 81 (Int32.toNatClampNeg x6))))))) 101 (Int32.toNatClampNeg x5) x6))))) (fun j303 => if (((s.1 83 (Int32.toNatClampNeg x6)) * (s.1 82 (Int32.toNatClampNeg x6))) + (s.1 99 (Int32.toNatClampNeg (x5 + (s.1 81 (Int32.toNatClampNeg x6)))))) = (s.1 99 (Int32.toNatClampNeg x5)) then (am_gu (am_in x5 61) (if (s.1 100 (Int32.toNatClampNeg x5)) < (1 + (s.1 100 (Int32.toNatClampNeg (x5 + (s.1 81 (Int32.toNatClampNeg x6)))))) then (j330 s) else (j303 s))) else (j303 s)))))))))) else (j330 s)))))))
def f_X12_log_L118 : Nat → Int32 → Int64 → Int32 → Int32 → am_S → Option ((Int32 × am_S) ⊕ ((Unit) × am_S))
  | 0, _, _, _, _, _ => none
  | n + 1, x1, x2, x4, x5, s => if x5 < 0 then (some (.inr ((), s))) else (am_gu (am_in (x5 + 1) 61) (am_gu (am_in x5 61) (am_gu (am_in (x5 + 1) 61) (am_gu (am_in x5 61) (am_gu (am_in x5 61) (am_lp Sum.inl (f_X12_log_L171 am_FU x1 x2 x4 x5 ((s.1 58 37) - 1) (am_wI (am_wI (am_wI s 99 (Int32.toNatClampNeg x5) (s.1 99 (Int32.toNatClampNeg (x5 + 1)))) 100 (Int32.toNatClampNeg x5) (s.1 100 (Int32.toNatClampNeg (x5 + 1)))) 101 (Int32.toNatClampNeg x5) (-1))) (fun (_ : Unit) s171 => f_X12_log_L118 n x1 x2 x4 (x5 + (-1)) s171)))))))
def f_X12_log_L367 : Nat → Int32 → Int32 → Int32 → am_S → Option ((Int32 × am_S) ⊕ ((Int32) × am_S))
  | 0, _, _, _, _ => none
  | n + 1, x1, x5, x6, s => if x6 < x1 then (am_gu (am_in x6 61) (if (s.1 101 (Int32.toNatClampNeg x6)) = (-1) then (f_X12_log_L367 n x1 (x5 + 1) (x6 + 1) s) else (am_gu (am_in (s.1 58 55) 200) (am_gu (am_in (s.1 58 55) 200) (am_gu (am_in (s.1 58 55) 200) (am_gu (am_in (s.1 58 55) 200) (am_gu (am_in (s.1 58 55) 200) (am_gu (am_in (s.1 101 (Int32.toNatClampNeg x6)) 8) (f_X12_log_L367 n x1 x5 (x6 + (s.1 81 (Int32.toNatClampNeg (s.1 101 (Int32.toNatClampNeg x6))))) (am_wI (am_wI (am_wI (am_wI (am_wI (am_wI s 94 (Int32.toNatClampNeg (s.1 58 55)) (s.1 58 53)) 95 (Int32.toNatClampNeg (s.1 58 55)) x6) 96 (Int32.toNatClampNeg (s.1 58 55)) (s.1 101 (Int32.toNatClampNeg x6))) 97 (Int32.toNatClampNeg (s.1 58 55)) (-1)) 98 (Int32.toNatClampNeg (s.1 58 55)) (-1)) 58 55 ((s.1 58 55) + 1))))))))))) else (some (.inr (x5, s)))
def f_X12_log (s : am_S) (x1 : Int32) (x2 : Int64) : Option (Int32 × am_S) := if (s.1 58 53) = 30 then (some ((-1), s)) else (if x1 < 1 then (some ((-1), s)) else (if 60 < x1 then (some ((-1), s)) else (if (lg_cmp x2 (lN 0)) < 0 then (some ((-1), s)) else (if (lg_cmp (x2 >>> (Int32.toInt64 x1 &&& 63)) (lN 0)) = 0 then (am_lp (fun y => y) (f_X12_log_L42 am_FU x1 x2 (0) (0) s) (fun y42 s42 => am_gu (am_in x1 61) (am_gu (am_in x1 61) (am_lp (fun y => y) (f_X12_log_L118 am_FU x1 x2 y42 (x1 - 1) (am_wI (am_wI s42 99 (Int32.toNatClampNeg x1) (0)) 100 (Int32.toNatClampNeg x1) (0))) (fun (_ : Unit) s118 => am_gu (am_in (0) 61) (if 200 < ((s118.1 58 55) + (s118.1 100 (Int32.toNatClampNeg (0)))) then (some ((-1), s118)) else (am_lp (fun y => y) (f_X12_log_L367 am_FU x1 (0) (0) s118) (fun y367 s367 => am_gu (am_in (s367.1 58 53) 30) (some ((((s367.1 58 53) + 1) - 1), (am_wI (am_wI s367 93 (Int32.toNatClampNeg (s367.1 58 53)) y367) 58 53 ((s367.1 58 53) + 1)))))))))))) else (some ((-1), s))))))
set_option maxRecDepth 20000 in
theorem l_X12_log_54 (d : Nat) (sw : Bool) : ∀ (n : Nat) (x1 : Int32) (x2 : Int64) (x4 : Int32) (x5 : Int32) (x6 : Int32) (s : am_S), am_Sm tb_X12_log 12 false none (some .int) (d + 1) (am_pl am_cI sw (fun (v9 : Int32) s9 r h9 => am_Ex tb_X12_log 12 false none (some .int) (d + 1) r h9 93 [.ref 58, .int x1, .long x2, .null, .int v9, .int x5, .null, .null, .null, .null] [] (am_hp sw s9))) (f_X12_log_L54 n x1 x2 x4 x5 x6 s) 54 [.ref 58, .int x1, .long x2, .null, .int x4, .int x5, .int x6, .null, .null, .null] [] (am_hp sw s) := by
  intro n
  induction n with
  | zero => intro x1 x2 x4 x5 x6 s; exact sm_no
  | succ n ih =>
    intro x1 x2 x4 x5 x6 s
    rw [f_X12_log_L54]
    refine sm_br 4 63 93 [.ref 58, .int x1, .long x2, .null, .int x4, .int x5, .int x6, .null, .null, .null] [] (am_hp sw s) (fun _ => rfl) (fun _ => ?_) (fun _ => ?_)
    · refine sm_call (cvf := am_cI) 5 72 [.ref 58, .int x1, .long x2, .null, .int x4, .int x5, .int x6, .null, .null, .null] [.int (s.1 58 51), .int x5, .int x6, .ref 58] sw s 161 [.ref 58, .int x6, .int x5, .int (s.1 58 51)] [] (fun _ => rfl) rfl (fun _ _ e9 => r_X12_mayCarve (d + 0) sw _ _ _ _ _ _ e9) am_pl20 (fun v72 s72 => ?_)
      refine sm_jn 87 (fun p87 => [.ref 58, .int x1, .long x2, .null, .int p87.1, .int x5, .int x6, .null, .null, .null]) (fun p87 => []) (fun p87 => (am_hp sw p87.2)) (fun p87 => ?_) (fun j87 hj87 => ?_)
      · refine sm_go 2 54 [.ref 58, .int x1, .long x2, .null, .int p87.1, .int x5, .int (x6 + 1), .null, .null, .null] [] (am_hp sw p87.2) (fun _ => rfl) ?_
        exact ih x1 x2 p87.1 x5 (x6 + 1) p87.2
      refine sm_br 1 87 78 [.ref 58, .int x1, .long x2, .null, .int x4, .int x5, .int x6, .null, .null, .null] [] (am_hp sw s72) (fun _ => rfl) (fun _ => ?_) (fun _ => ?_)
      · exact hj87 (x4, s72)
      · refine sm_go 6 87 [.ref 58, .int x1, .long x2, .null, .int (x4 ||| (1 <<< (x5 &&& 31))), .int x5, .int x6, .null, .null, .null] [] (am_hp sw s72) (fun _ => rfl) ?_
        exact hj87 ((x4 ||| (1 <<< (x5 &&& 31))), s72)
    · refine sm_fg [.ref 58, .int x1, .long x2, .null, .int x4, .int x5, .null, .null, .null, .null] ⟨Or.inr rfl, Or.inr rfl, Or.inr rfl, Or.inl rfl, Or.inr rfl, Or.inr rfl, Or.inl rfl, Or.inl rfl, Or.inl rfl, Or.inl rfl, trivial⟩ ?_
      exact sm_ex (fun _ _ h => h.2)

set_option maxRecDepth 20000 in
theorem l_X12_log_42 (d : Nat) (sw : Bool) : ∀ (n : Nat) (x1 : Int32) (x2 : Int64) (x4 : Int32) (x5 : Int32) (s : am_S), am_Sm tb_X12_log 12 false none (some .int) (d + 1) (am_pl am_cI sw (fun (v9 : Int32) s9 r h9 => am_Ex tb_X12_log 12 false none (some .int) (d + 1) r h9 99 [.ref 58, .int x1, .long x2, .null, .int v9, .null, .null, .null, .null, .null] [] (am_hp sw s9))) (f_X12_log_L42 n x1 x2 x4 x5 s) 42 [.ref 58, .int x1, .long x2, .null, .int x4, .int x5, .null, .null, .null, .null] [] (am_hp sw s) := by
  intro n
  induction n with
  | zero => intro x1 x2 x4 x5 s; exact sm_no
  | succ n ih =>
    intro x1 x2 x4 x5 s
    rw [f_X12_log_L42]
    refine sm_br 4 51 99 [.ref 58, .int x1, .long x2, .null, .int x4, .int x5, .null, .null, .null, .null] [] (am_hp sw s) (fun _ => rfl) (fun _ => ?_) (fun _ => ?_)
    · refine sm_go 2 54 [.ref 58, .int x1, .long x2, .null, .int x4, .int x5, .int (0), .null, .null, .null] [] (am_hp sw s) (fun _ => rfl) ?_
      refine sm_lp 93 (fun y54 => [.ref 58, .int x1, .long x2, .null, .int y54, .int x5, .null, .null, .null, .null]) (l_X12_log_54 d sw am_FU x1 x2 x4 x5 (0) s) (fun _ _ _ h => h) am_pl20 (fun y54 s54 => ?_)
      refine sm_go 2 42 [.ref 58, .int x1, .long x2, .null, .int y54, .int (x5 + 1), .null, .null, .null, .null] [] (am_hp sw s54) (fun _ => rfl) ?_
      exact ih x1 x2 y54 (x5 + 1) s54
    · refine sm_fg [.ref 58, .int x1, .long x2, .null, .int x4, .null, .null, .null, .null, .null] ⟨Or.inr rfl, Or.inr rfl, Or.inr rfl, Or.inl rfl, Or.inr rfl, Or.inl rfl, Or.inl rfl, Or.inl rfl, Or.inl rfl, Or.inl rfl, trivial⟩ ?_
      exact sm_ex (fun _ _ h => h.2)

set_option maxRecDepth 20000 in
theorem l_X12_log_171 (d : Nat) (sw : Bool) : ∀ (n : Nat) (x1 : Int32) (x2 : Int64) (x4 : Int32) (x5 : Int32) (x6 : Int32) (s : am_S), am_Sm tb_X12_log 12 false none (some .int) (d + 1) (am_pl am_cI sw (fun (v9 : Unit) s9 r h9 => am_Ex tb_X12_log 12 false none (some .int) (d + 1) r h9 336 [.ref 58, .int x1, .long x2, .null, .int x4, .int x5, .null, .null, .null, .null] [] (am_hp sw s9))) (f_X12_log_L171 n x1 x2 x4 x5 x6 s) 171 [.ref 58, .int x1, .long x2, .null, .int x4, .int x5, .int x6, .null, .null, .null] [] (am_hp sw s) := by
  intro n
  induction n with
  | zero => intro x1 x2 x4 x5 x6 s; exact sm_no
  | succ n ih =>
    intro x1 x2 x4 x5 x6 s
    rw [f_X12_log_L171]
    refine sm_br 2 336 176 [.ref 58, .int x1, .long x2, .null, .int x4, .int x5, .int x6, .null, .null, .null] [] (am_hp sw s) (fun _ => rfl) (fun _ => ?_) (fun _ => ?_)
    · refine sm_fg [.ref 58, .int x1, .long x2, .null, .int x4, .int x5, .null, .null, .null, .null] ⟨Or.inr rfl, Or.inr rfl, Or.inr rfl, Or.inl rfl, Or.inr rfl, Or.inr rfl, Or.inl rfl, Or.inl rfl, Or.inl rfl, Or.inl rfl, trivial⟩ ?_
      exact sm_ex (fun _ _ h => h.2)
    · refine sm_iald 4 184 [.ref 58, .int x1, .long x2, .null, .int x4, .int x5, .int x6, .null, .null, .null] [.int x5] (am_hp sw s) (i := x6) (c := 81) (fun _ => rfl) rfl rfl rfl rfl ?_
      refine sm_go 7 195 [.ref 58, .int x1, .long x2, .null, .int x4, .int x5, .int x6, .int (x5 + (s.1 81 (Int32.toNatClampNeg x6))), .null, .null] [.int ((x4 >>> (x6 &&& 31)) &&& 1)] (am_hp sw s) (fun _ => rfl) ?_
      refine sm_jn 330 (fun p330 => [.ref 58, .int x1, .long x2, .null, .int x4, .int x5, .int x6, .null, .null, .null]) (fun p330 => []) (fun p330 => (am_hp sw p330)) (fun p330 => ?_) (fun j330 hj330 => ?_)
      · refine sm_go 2 171 [.ref 58, .int x1, .long x2, .null, .int x4, .int x5, .int (x6 + (-1)), .null, .null, .null] [] (am_hp sw p330) (fun _ => rfl) ?_
        exact ih x1 x2 x4 x5 (x6 + (-1)) p330
      refine sm_br 1 330 198 [.ref 58, .int x1, .long x2, .null, .int x4, .int x5, .int x6, .int (x5 + (s.1 81 (Int32.toNatClampNeg x6))), .null, .null] [] (am_hp sw s) (fun _ => rfl) (fun _ => ?_) (fun _ => ?_)
      · refine sm_fg [.ref 58, .int x1, .long x2, .null, .int x4, .int x5, .int x6, .null, .null, .null] ⟨Or.inr rfl, Or.inr rfl, Or.inr rfl, Or.inl rfl, Or.inr rfl, Or.inr rfl, Or.inr rfl, Or.inl rfl, Or.inl rfl, Or.inl rfl, trivial⟩ ?_
        exact hj330 s
      · refine sm_br 3 330 204 [.ref 58, .int x1, .long x2, .null, .int x4, .int x5, .int x6, .int (x5 + (s.1 81 (Int32.toNatClampNeg x6))), .null, .null] [] (am_hp sw s) (fun _ => rfl) (fun _ => ?_) (fun _ => ?_)
        · refine sm_fg [.ref 58, .int x1, .long x2, .null, .int x4, .int x5, .int x6, .null, .null, .null] ⟨Or.inr rfl, Or.inr rfl, Or.inr rfl, Or.inl rfl, Or.inr rfl, Or.inr rfl, Or.inr rfl, Or.inl rfl, Or.inl rfl, Or.inl rfl, trivial⟩ ?_
          exact hj330 s
        · refine sm_iald 7 215 [.ref 58, .int x1, .long x2, .null, .int x4, .int x5, .int x6, .int (x5 + (s.1 81 (Int32.toNatClampNeg x6))), .null, .null] [.long (lN 1), .long (x2 >>> (Int32.toInt64 x5 &&& 63))] (am_hp sw s) (i := x6) (c := 81) (fun _ => rfl) rfl rfl rfl rfl ?_
          refine sm_br 7 228 225 [.ref 58, .int x1, .long x2, .null, .int x4, .int x5, .int x6, .int (x5 + (s.1 81 (Int32.toNatClampNeg x6))), .null, .null] [] (am_hp sw s) (fun _ => rfl) (fun _ => ?_) (fun _ => ?_)
          · refine sm_iald 3 234 [.ref 58, .int x1, .long x2, .null, .int x4, .int x5, .int x6, .int (x5 + (s.1 81 (Int32.toNatClampNeg x6))), .null, .null] [] (am_hp sw s) (i := x6) (c := 83) (fun _ => rfl) rfl rfl rfl rfl ?_
            refine sm_iald 3 241 [.ref 58, .int x1, .long x2, .null, .int x4, .int x5, .int x6, .int (x5 + (s.1 81 (Int32.toNatClampNeg x6))), .null, .null] [.int (s.1 83 (Int32.toNatClampNeg x6))] (am_hp sw s) (i := x6) (c := 82) (fun _ => rfl) rfl rfl rfl rfl ?_
            refine sm_iald 4 249 [.ref 58, .int x1, .long x2, .null, .int x4, .int x5, .int x6, .int (x5 + (s.1 81 (Int32.toNatClampNeg x6))), .null, .null] [.int ((s.1 83 (Int32.toNatClampNeg x6)) * (s.1 82 (Int32.toNatClampNeg x6)))] (am_hp sw s) (i := (x5 + (s.1 81 (Int32.toNatClampNeg x6)))) (c := 99) (fun _ => rfl) rfl rfl rfl rfl ?_
            refine sm_iald 6 260 [.ref 58, .int x1, .long x2, .null, .int x4, .int x5, .int x6, .int (x5 + (s.1 81 (Int32.toNatClampNeg x6))), .int (((s.1 83 (Int32.toNatClampNeg x6)) * (s.1 82 (Int32.toNatClampNeg x6))) + (s.1 99 (Int32.toNatClampNeg (x5 + (s.1 81 (Int32.toNatClampNeg x6)))))), .null] [.int (1)] (am_hp sw s) (i := (x5 + (s.1 81 (Int32.toNatClampNeg x6)))) (c := 100) (fun _ => rfl) rfl rfl rfl rfl ?_
            refine sm_iald 6 272 [.ref 58, .int x1, .long x2, .null, .int x4, .int x5, .int x6, .int (x5 + (s.1 81 (Int32.toNatClampNeg x6))), .int (((s.1 83 (Int32.toNatClampNeg x6)) * (s.1 82 (Int32.toNatClampNeg x6))) + (s.1 99 (Int32.toNatClampNeg (x5 + (s.1 81 (Int32.toNatClampNeg x6)))))), .int (1 + (s.1 100 (Int32.toNatClampNeg (x5 + (s.1 81 (Int32.toNatClampNeg x6))))))] [.int (((s.1 83 (Int32.toNatClampNeg x6)) * (s.1 82 (Int32.toNatClampNeg x6))) + (s.1 99 (Int32.toNatClampNeg (x5 + (s.1 81 (Int32.toNatClampNeg x6))))))] (am_hp sw s) (i := x5) (c := 99) (fun _ => rfl) rfl rfl rfl rfl ?_
            refine sm_br 1 330 276 [.ref 58, .int x1, .long x2, .null, .int x4, .int x5, .int x6, .int (x5 + (s.1 81 (Int32.toNatClampNeg x6))), .int (((s.1 83 (Int32.toNatClampNeg x6)) * (s.1 82 (Int32.toNatClampNeg x6))) + (s.1 99 (Int32.toNatClampNeg (x5 + (s.1 81 (Int32.toNatClampNeg x6)))))), .int (1 + (s.1 100 (Int32.toNatClampNeg (x5 + (s.1 81 (Int32.toNatClampNeg x6))))))] [] (am_hp sw s) (fun _ => rfl) (fun _ => ?_) (fun _ => ?_)
            · refine sm_fg [.ref 58, .int x1, .long x2, .null, .int x4, .int x5, .int x6, .null, .null, .null] ⟨Or.inr rfl, Or.inr rfl, Or.inr rfl, Or.inl rfl, Or.inr rfl, Or.inr rfl, Or.inr rfl, Or.inl rfl, Or.inl rfl, Or.inl rfl, trivial⟩ ?_
              exact hj330 s
            · refine sm_iald 4 284 [.ref 58, .int x1, .long x2, .null, .int x4, .int x5, .int x6, .int (x5 + (s.1 81 (Int32.toNatClampNeg x6))), .int (((s.1 83 (Int32.toNatClampNeg x6)) * (s.1 82 (Int32.toNatClampNeg x6))) + (s.1 99 (Int32.toNatClampNeg (x5 + (s.1 81 (Int32.toNatClampNeg x6)))))), .int (1 + (s.1 100 (Int32.toNatClampNeg (x5 + (s.1 81 (Int32.toNatClampNeg x6))))))] [.int (((s.1 83 (Int32.toNatClampNeg x6)) * (s.1 82 (Int32.toNatClampNeg x6))) + (s.1 99 (Int32.toNatClampNeg (x5 + (s.1 81 (Int32.toNatClampNeg x6))))))] (am_hp sw s) (i := x5) (c := 99) (fun _ => rfl) rfl rfl rfl rfl ?_
              refine sm_jn 303 (fun p303 => [.ref 58, .int x1, .long x2, .null, .int x4, .int x5, .int x6, .null, .int (((s.1 83 (Int32.toNatClampNeg x6)) * (s.1 82 (Int32.toNatClampNeg x6))) + (s.1 99 (Int32.toNatClampNeg (x5 + (s.1 81 (Int32.toNatClampNeg x6)))))), .int (1 + (s.1 100 (Int32.toNatClampNeg (x5 + (s.1 81 (Int32.toNatClampNeg x6))))))]) (fun p303 => []) (fun p303 => (am_hp sw p303)) (fun p303 => ?_) (fun j303 hj303 => ?_)
              · refine sm_iast 4 311 [.ref 58, .int x1, .long x2, .null, .int x4, .int x5, .int x6, .null, .int (((s.1 83 (Int32.toNatClampNeg x6)) * (s.1 82 (Int32.toNatClampNeg x6))) + (s.1 99 (Int32.toNatClampNeg (x5 + (s.1 81 (Int32.toNatClampNeg x6)))))), .int (1 + (s.1 100 (Int32.toNatClampNeg (x5 + (s.1 81 (Int32.toNatClampNeg x6))))))] [] sw p303 (i := x5) (x := (((s.1 83 (Int32.toNatClampNeg x6)) * (s.1 82 (Int32.toNatClampNeg x6))) + (s.1 99 (Int32.toNatClampNeg (x5 + (s.1 81 (Int32.toNatClampNeg x6))))))) (c := 99) (fun _ => rfl) rfl rfl rfl ?_
                refine sm_iast 4 320 [.ref 58, .int x1, .long x2, .null, .int x4, .int x5, .int x6, .null, .int (((s.1 83 (Int32.toNatClampNeg x6)) * (s.1 82 (Int32.toNatClampNeg x6))) + (s.1 99 (Int32.toNatClampNeg (x5 + (s.1 81 (Int32.toNatClampNeg x6)))))), .int (1 + (s.1 100 (Int32.toNatClampNeg (x5 + (s.1 81 (Int32.toNatClampNeg x6))))))] [] sw (am_wI p303 99 (Int32.toNatClampNeg x5) (((s.1 83 (Int32.toNatClampNeg x6)) * (s.1 82 (Int32.toNatClampNeg x6))) + (s.1 99 (Int32.toNatClampNeg (x5 + (s.1 81 (Int32.toNatClampNeg x6))))))) (i := x5) (x := (1 + (s.1 100 (Int32.toNatClampNeg (x5 + (s.1 81 (Int32.toNatClampNeg x6))))))) (c := 100) (fun _ => rfl) rfl rfl rfl ?_
                refine sm_iast 4 329 [.ref 58, .int x1, .long x2, .null, .int x4, .int x5, .int x6, .null, .int (((s.1 83 (Int32.toNatClampNeg x6)) * (s.1 82 (Int32.toNatClampNeg x6))) + (s.1 99 (Int32.toNatClampNeg (x5 + (s.1 81 (Int32.toNatClampNeg x6)))))), .int (1 + (s.1 100 (Int32.toNatClampNeg (x5 + (s.1 81 (Int32.toNatClampNeg x6))))))] [] sw (am_wI (am_wI p303 99 (Int32.toNatClampNeg x5) (((s.1 83 (Int32.toNatClampNeg x6)) * (s.1 82 (Int32.toNatClampNeg x6))) + (s.1 99 (Int32.toNatClampNeg (x5 + (s.1 81 (Int32.toNatClampNeg x6))))))) 100 (Int32.toNatClampNeg x5) (1 + (s.1 100 (Int32.toNatClampNeg (x5 + (s.1 81 (Int32.toNatClampNeg x6))))))) (i := x5) (x := x6) (c := 101) (fun _ => rfl) rfl rfl rfl ?_
                refine sm_fg [.ref 58, .int x1, .long x2, .null, .int x4, .int x5, .int x6, .null, .null, .null] ⟨Or.inr rfl, Or.inr rfl, Or.inr rfl, Or.inl rfl, Or.inr rfl, Or.inr rfl, Or.inr rfl, Or.inl rfl, Or.inl rfl, Or.inl rfl, trivial⟩ ?_
                exact hj330 (am_wI (am_wI (am_wI p303 99 (Int32.toNatClampNeg x5) (((s.1 83 (Int32.toNatClampNeg x6)) * (s.1 82 (Int32.toNatClampNeg x6))) + (s.1 99 (Int32.toNatClampNeg (x5 + (s.1 81 (Int32.toNatClampNeg x6))))))) 100 (Int32.toNatClampNeg x5) (1 + (s.1 100 (Int32.toNatClampNeg (x5 + (s.1 81 (Int32.toNatClampNeg x6))))))) 101 (Int32.toNatClampNeg x5) x6)
              refine sm_br 1 288 303 [.ref 58, .int x1, .long x2, .null, .int x4, .int x5, .int x6, .int (x5 + (s.1 81 (Int32.toNatClampNeg x6))), .int (((s.1 83 (Int32.toNatClampNeg x6)) * (s.1 82 (Int32.toNatClampNeg x6))) + (s.1 99 (Int32.toNatClampNeg (x5 + (s.1 81 (Int32.toNatClampNeg x6)))))), .int (1 + (s.1 100 (Int32.toNatClampNeg (x5 + (s.1 81 (Int32.toNatClampNeg x6))))))] [] (am_hp sw s) (fun _ => rfl) (fun _ => ?_) (fun _ => ?_)
              · refine sm_iald 4 296 [.ref 58, .int x1, .long x2, .null, .int x4, .int x5, .int x6, .int (x5 + (s.1 81 (Int32.toNatClampNeg x6))), .int (((s.1 83 (Int32.toNatClampNeg x6)) * (s.1 82 (Int32.toNatClampNeg x6))) + (s.1 99 (Int32.toNatClampNeg (x5 + (s.1 81 (Int32.toNatClampNeg x6)))))), .int (1 + (s.1 100 (Int32.toNatClampNeg (x5 + (s.1 81 (Int32.toNatClampNeg x6))))))] [.int (1 + (s.1 100 (Int32.toNatClampNeg (x5 + (s.1 81 (Int32.toNatClampNeg x6))))))] (am_hp sw s) (i := x5) (c := 100) (fun _ => rfl) rfl rfl rfl rfl ?_
                refine sm_br 1 300 303 [.ref 58, .int x1, .long x2, .null, .int x4, .int x5, .int x6, .int (x5 + (s.1 81 (Int32.toNatClampNeg x6))), .int (((s.1 83 (Int32.toNatClampNeg x6)) * (s.1 82 (Int32.toNatClampNeg x6))) + (s.1 99 (Int32.toNatClampNeg (x5 + (s.1 81 (Int32.toNatClampNeg x6)))))), .int (1 + (s.1 100 (Int32.toNatClampNeg (x5 + (s.1 81 (Int32.toNatClampNeg x6))))))] [] (am_hp sw s) (fun _ => rfl) (fun _ => ?_) (fun _ => ?_)
                · refine sm_go 1 330 [.ref 58, .int x1, .long x2, .null, .int x4, .int x5, .int x6, .int (x5 + (s.1 81 (Int32.toNatClampNeg x6))), .int (((s.1 83 (Int32.toNatClampNeg x6)) * (s.1 82 (Int32.toNatClampNeg x6))) + (s.1 99 (Int32.toNatClampNeg (x5 + (s.1 81 (Int32.toNatClampNeg x6)))))), .int (1 + (s.1 100 (Int32.toNatClampNeg (x5 + (s.1 81 (Int32.toNatClampNeg x6))))))] [] (am_hp sw s) (fun _ => rfl) ?_
                  refine sm_fg [.ref 58, .int x1, .long x2, .null, .int x4, .int x5, .int x6, .null, .null, .null] ⟨Or.inr rfl, Or.inr rfl, Or.inr rfl, Or.inl rfl, Or.inr rfl, Or.inr rfl, Or.inr rfl, Or.inl rfl, Or.inl rfl, Or.inl rfl, trivial⟩ ?_
                  exact hj330 s
                · refine sm_fg [.ref 58, .int x1, .long x2, .null, .int x4, .int x5, .int x6, .null, .int (((s.1 83 (Int32.toNatClampNeg x6)) * (s.1 82 (Int32.toNatClampNeg x6))) + (s.1 99 (Int32.toNatClampNeg (x5 + (s.1 81 (Int32.toNatClampNeg x6)))))), .int (1 + (s.1 100 (Int32.toNatClampNeg (x5 + (s.1 81 (Int32.toNatClampNeg x6))))))] ⟨Or.inr rfl, Or.inr rfl, Or.inr rfl, Or.inl rfl, Or.inr rfl, Or.inr rfl, Or.inr rfl, Or.inl rfl, Or.inr rfl, Or.inr rfl, trivial⟩ ?_
                  exact hj303 s
              · refine sm_fg [.ref 58, .int x1, .long x2, .null, .int x4, .int x5, .int x6, .null, .int (((s.1 83 (Int32.toNatClampNeg x6)) * (s.1 82 (Int32.toNatClampNeg x6))) + (s.1 99 (Int32.toNatClampNeg (x5 + (s.1 81 (Int32.toNatClampNeg x6)))))), .int (1 + (s.1 100 (Int32.toNatClampNeg (x5 + (s.1 81 (Int32.toNatClampNeg x6))))))] ⟨Or.inr rfl, Or.inr rfl, Or.inr rfl, Or.inl rfl, Or.inr rfl, Or.inr rfl, Or.inr rfl, Or.inl rfl, Or.inr rfl, Or.inr rfl, trivial⟩ ?_
                exact hj303 s
          · refine sm_go 1 330 [.ref 58, .int x1, .long x2, .null, .int x4, .int x5, .int x6, .int (x5 + (s.1 81 (Int32.toNatClampNeg x6))), .null, .null] [] (am_hp sw s) (fun _ => rfl) ?_
            refine sm_fg [.ref 58, .int x1, .long x2, .null, .int x4, .int x5, .int x6, .null, .null, .null] ⟨Or.inr rfl, Or.inr rfl, Or.inr rfl, Or.inl rfl, Or.inr rfl, Or.inr rfl, Or.inr rfl, Or.inl rfl, Or.inl rfl, Or.inl rfl, trivial⟩ ?_
            exact hj330 s

set_option maxRecDepth 20000 in
theorem l_X12_log_118 (d : Nat) (sw : Bool) : ∀ (n : Nat) (x1 : Int32) (x2 : Int64) (x4 : Int32) (x5 : Int32) (s : am_S), am_Sm tb_X12_log 12 false none (some .int) (d + 1) (am_pl am_cI sw (fun (v9 : Unit) s9 r h9 => am_Ex tb_X12_log 12 false none (some .int) (d + 1) r h9 342 [.ref 58, .int x1, .null, .null, .null, .null, .null, .null, .null, .null] [] (am_hp sw s9))) (f_X12_log_L118 n x1 x2 x4 x5 s) 118 [.ref 58, .int x1, .long x2, .null, .int x4, .int x5, .null, .null, .null, .null] [] (am_hp sw s) := by
  intro n
  induction n with
  | zero => intro x1 x2 x4 x5 s; exact sm_no
  | succ n ih =>
    intro x1 x2 x4 x5 s
    rw [f_X12_log_L118]
    refine sm_br 2 342 123 [.ref 58, .int x1, .long x2, .null, .int x4, .int x5, .null, .null, .null, .null] [] (am_hp sw s) (fun _ => rfl) (fun _ => ?_) (fun _ => ?_)
    · refine sm_fg [.ref 58, .int x1, .null, .null, .null, .null, .null, .null, .null, .null] ⟨Or.inr rfl, Or.inr rfl, Or.inl rfl, Or.inl rfl, Or.inl rfl, Or.inl rfl, Or.inl rfl, Or.inl rfl, Or.inl rfl, Or.inl rfl, trivial⟩ ?_
      exact sm_ex (fun _ _ h => h.2)
    · refine sm_iald 8 137 [.ref 58, .int x1, .long x2, .null, .int x4, .int x5, .null, .null, .null, .null] [.int x5, .ref 99] (am_hp sw s) (i := (x5 + 1)) (c := 99) (fun _ => rfl) rfl rfl rfl rfl ?_
      refine sm_iast 0 138 [.ref 58, .int x1, .long x2, .null, .int x4, .int x5, .null, .null, .null, .null] [] sw s (i := x5) (x := (s.1 99 (Int32.toNatClampNeg (x5 + 1)))) (c := 99) (fun _ => rfl) rfl rfl rfl ?_
      refine sm_iald 8 153 [.ref 58, .int x1, .long x2, .null, .int x4, .int x5, .null, .null, .null, .null] [.int x5, .ref 100] (am_hp sw (am_wI s 99 (Int32.toNatClampNeg x5) (s.1 99 (Int32.toNatClampNeg (x5 + 1))))) (i := (x5 + 1)) (c := 100) (fun _ => rfl) rfl rfl rfl rfl ?_
      refine sm_iast 0 154 [.ref 58, .int x1, .long x2, .null, .int x4, .int x5, .null, .null, .null, .null] [] sw (am_wI s 99 (Int32.toNatClampNeg x5) (s.1 99 (Int32.toNatClampNeg (x5 + 1)))) (i := x5) (x := (s.1 100 (Int32.toNatClampNeg (x5 + 1)))) (c := 100) (fun _ => rfl) rfl rfl rfl ?_
      refine sm_iast 4 162 [.ref 58, .int x1, .long x2, .null, .int x4, .int x5, .null, .null, .null, .null] [] sw (am_wI (am_wI s 99 (Int32.toNatClampNeg x5) (s.1 99 (Int32.toNatClampNeg (x5 + 1)))) 100 (Int32.toNatClampNeg x5) (s.1 100 (Int32.toNatClampNeg (x5 + 1)))) (i := x5) (x := (-1)) (c := 101) (fun _ => rfl) rfl rfl rfl ?_
      refine sm_go 5 171 [.ref 58, .int x1, .long x2, .null, .int x4, .int x5, .int ((s.1 58 37) - 1), .null, .null, .null] [] (am_hp sw (am_wI (am_wI (am_wI s 99 (Int32.toNatClampNeg x5) (s.1 99 (Int32.toNatClampNeg (x5 + 1)))) 100 (Int32.toNatClampNeg x5) (s.1 100 (Int32.toNatClampNeg (x5 + 1)))) 101 (Int32.toNatClampNeg x5) (-1))) (fun _ => rfl) ?_
      refine sm_lp 336 (fun _y => [.ref 58, .int x1, .long x2, .null, .int x4, .int x5, .null, .null, .null, .null]) (l_X12_log_171 d sw am_FU x1 x2 x4 x5 ((s.1 58 37) - 1) (am_wI (am_wI (am_wI s 99 (Int32.toNatClampNeg x5) (s.1 99 (Int32.toNatClampNeg (x5 + 1)))) 100 (Int32.toNatClampNeg x5) (s.1 100 (Int32.toNatClampNeg (x5 + 1)))) 101 (Int32.toNatClampNeg x5) (-1))) (fun _ _ _ h => h) am_pl20 (fun _y s171 => ?_)
      refine sm_go 2 118 [.ref 58, .int x1, .long x2, .null, .int x4, .int (x5 + (-1)), .null, .null, .null, .null] [] (am_hp sw s171) (fun _ => rfl) ?_
      exact ih x1 x2 x4 (x5 + (-1)) s171

set_option maxRecDepth 20000 in
theorem l_X12_log_367 (d : Nat) (sw : Bool) : ∀ (n : Nat) (x1 : Int32) (x5 : Int32) (x6 : Int32) (s : am_S), am_Sm tb_X12_log 12 false none (some .int) (d + 1) (am_pl am_cI sw (fun (v9 : Int32) s9 r h9 => am_Ex tb_X12_log 12 false none (some .int) (d + 1) r h9 477 [.ref 58, .null, .null, .null, .null, .int v9, .null, .null, .null, .null] [] (am_hp sw s9))) (f_X12_log_L367 n x1 x5 x6 s) 367 [.ref 58, .int x1, .null, .null, .null, .int x5, .int x6, .null, .null, .null] [] (am_hp sw s) := by
  intro n
  induction n with
  | zero => intro x1 x5 x6 s; exact sm_no
  | succ n ih =>
    intro x1 x5 x6 s
    rw [f_X12_log_L367]
    refine sm_br 3 373 477 [.ref 58, .int x1, .null, .null, .null, .int x5, .int x6, .null, .null, .null] [] (am_hp sw s) (fun _ => rfl) (fun _ => ?_) (fun _ => ?_)
    · refine sm_iald 3 379 [.ref 58, .int x1, .null, .null, .null, .int x5, .int x6, .null, .null, .null] [] (am_hp sw s) (i := x6) (c := 101) (fun _ => rfl) rfl rfl rfl rfl ?_
      refine sm_br 4 388 397 [.ref 58, .int x1, .null, .null, .null, .int x5, .int x6, .int (s.1 101 (Int32.toNatClampNeg x6)), .null, .null] [] (am_hp sw s) (fun _ => rfl) (fun _ => ?_) (fun _ => ?_)
      · refine sm_go 3 367 [.ref 58, .int x1, .null, .null, .null, .int (x5 + 1), .int (x6 + 1), .int (s.1 101 (Int32.toNatClampNeg x6)), .null, .null] [] (am_hp sw s) (fun _ => rfl) ?_
        refine sm_fg [.ref 58, .int x1, .null, .null, .null, .int (x5 + 1), .int (x6 + 1), .null, .null, .null] ⟨Or.inr rfl, Or.inr rfl, Or.inl rfl, Or.inl rfl, Or.inl rfl, Or.inr rfl, Or.inr rfl, Or.inl rfl, Or.inl rfl, Or.inl rfl, trivial⟩ ?_
        exact ih x1 (x5 + 1) (x6 + 1) s
      · refine sm_iast 6 409 [.ref 58, .int x1, .null, .null, .null, .int x5, .int x6, .int (s.1 101 (Int32.toNatClampNeg x6)), .null, .null] [] sw s (i := (s.1 58 55)) (x := (s.1 58 53)) (c := 94) (fun _ => rfl) rfl rfl rfl ?_
        refine sm_iast 5 420 [.ref 58, .int x1, .null, .null, .null, .int x5, .int x6, .int (s.1 101 (Int32.toNatClampNeg x6)), .null, .null] [] sw (am_wI s 94 (Int32.toNatClampNeg (s.1 58 55)) (s.1 58 53)) (i := (s.1 58 55)) (x := x6) (c := 95) (fun _ => rfl) rfl rfl rfl ?_
        refine sm_iast 5 431 [.ref 58, .int x1, .null, .null, .null, .int x5, .int x6, .int (s.1 101 (Int32.toNatClampNeg x6)), .null, .null] [] sw (am_wI (am_wI s 94 (Int32.toNatClampNeg (s.1 58 55)) (s.1 58 53)) 95 (Int32.toNatClampNeg (s.1 58 55)) x6) (i := (s.1 58 55)) (x := (s.1 101 (Int32.toNatClampNeg x6))) (c := 96) (fun _ => rfl) rfl rfl rfl ?_
        refine sm_iast 5 441 [.ref 58, .int x1, .null, .null, .null, .int x5, .int x6, .int (s.1 101 (Int32.toNatClampNeg x6)), .null, .null] [] sw (am_wI (am_wI (am_wI s 94 (Int32.toNatClampNeg (s.1 58 55)) (s.1 58 53)) 95 (Int32.toNatClampNeg (s.1 58 55)) x6) 96 (Int32.toNatClampNeg (s.1 58 55)) (s.1 101 (Int32.toNatClampNeg x6))) (i := (s.1 58 55)) (x := (-1)) (c := 97) (fun _ => rfl) rfl rfl rfl ?_
        refine sm_iast 5 451 [.ref 58, .int x1, .null, .null, .null, .int x5, .int x6, .int (s.1 101 (Int32.toNatClampNeg x6)), .null, .null] [] sw (am_wI (am_wI (am_wI (am_wI s 94 (Int32.toNatClampNeg (s.1 58 55)) (s.1 58 53)) 95 (Int32.toNatClampNeg (s.1 58 55)) x6) 96 (Int32.toNatClampNeg (s.1 58 55)) (s.1 101 (Int32.toNatClampNeg x6))) 97 (Int32.toNatClampNeg (s.1 58 55)) (-1)) (i := (s.1 58 55)) (x := (-1)) (c := 98) (fun _ => rfl) rfl rfl rfl ?_
        refine sm_iald 10 470 [.ref 58, .int x1, .null, .null, .null, .int x5, .int x6, .int (s.1 101 (Int32.toNatClampNeg x6)), .null, .null] [.int x6] (am_hp sw (am_wI (am_wI (am_wI (am_wI (am_wI (am_wI s 94 (Int32.toNatClampNeg (s.1 58 55)) (s.1 58 53)) 95 (Int32.toNatClampNeg (s.1 58 55)) x6) 96 (Int32.toNatClampNeg (s.1 58 55)) (s.1 101 (Int32.toNatClampNeg x6))) 97 (Int32.toNatClampNeg (s.1 58 55)) (-1)) 98 (Int32.toNatClampNeg (s.1 58 55)) (-1)) 58 55 ((s.1 58 55) + 1))) (i := (s.1 101 (Int32.toNatClampNeg x6))) (c := 81) (fun _ => rfl) rfl rfl rfl rfl ?_
        refine sm_go 3 367 [.ref 58, .int x1, .null, .null, .null, .int x5, .int (x6 + (s.1 81 (Int32.toNatClampNeg (s.1 101 (Int32.toNatClampNeg x6))))), .int (s.1 101 (Int32.toNatClampNeg x6)), .null, .null] [] (am_hp sw (am_wI (am_wI (am_wI (am_wI (am_wI (am_wI s 94 (Int32.toNatClampNeg (s.1 58 55)) (s.1 58 53)) 95 (Int32.toNatClampNeg (s.1 58 55)) x6) 96 (Int32.toNatClampNeg (s.1 58 55)) (s.1 101 (Int32.toNatClampNeg x6))) 97 (Int32.toNatClampNeg (s.1 58 55)) (-1)) 98 (Int32.toNatClampNeg (s.1 58 55)) (-1)) 58 55 ((s.1 58 55) + 1))) (fun _ => rfl) ?_
        refine sm_fg [.ref 58, .int x1, .null, .null, .null, .int x5, .int (x6 + (s.1 81 (Int32.toNatClampNeg (s.1 101 (Int32.toNatClampNeg x6))))), .null, .null, .null] ⟨Or.inr rfl, Or.inr rfl, Or.inl rfl, Or.inl rfl, Or.inl rfl, Or.inr rfl, Or.inr rfl, Or.inl rfl, Or.inl rfl, Or.inl rfl, trivial⟩ ?_
        exact ih x1 x5 (x6 + (s.1 81 (Int32.toNatClampNeg (s.1 101 (Int32.toNatClampNeg x6))))) (am_wI (am_wI (am_wI (am_wI (am_wI (am_wI s 94 (Int32.toNatClampNeg (s.1 58 55)) (s.1 58 53)) 95 (Int32.toNatClampNeg (s.1 58 55)) x6) 96 (Int32.toNatClampNeg (s.1 58 55)) (s.1 101 (Int32.toNatClampNeg x6))) 97 (Int32.toNatClampNeg (s.1 58 55)) (-1)) 98 (Int32.toNatClampNeg (s.1 58 55)) (-1)) 58 55 ((s.1 58 55) + 1))
    · refine sm_fg [.ref 58, .null, .null, .null, .null, .int x5, .null, .null, .null, .null] ⟨Or.inr rfl, Or.inl rfl, Or.inl rfl, Or.inl rfl, Or.inl rfl, Or.inr rfl, Or.inl rfl, Or.inl rfl, Or.inl rfl, Or.inl rfl, trivial⟩ ?_
      exact sm_ex (fun _ _ h => h.2)

set_option maxRecDepth 20000 in
theorem r_X12_log (d : Nat) (sw : Bool) (s s' : am_S) (x1 : Int32) (x2 : Int64) (v : Int32) (e : f_X12_log s x1 x2 = some (v, s')) : am_Run (d + 2) 164 [.ref 58, .int x1, .long x2] (am_hp sw s) (am_cI v) (am_hp sw s') := by
  refine am_Run.of (M := mt_X12_log) (cvf := am_cI) (X := f_X12_log s x1 x2) rfl rfl rfl (by simp) ?_ e
  unfold f_X12_log
  show am_Sm tb_X12_log 12 false none (some .int) (d + 1) (am_po am_cI sw) _ 0 [.ref 58, .int x1, .long x2, .null, .null, .null, .null, .null, .null, .null] [] (am_hp sw s)
  refine sm_br 4 34 9 [.ref 58, .int x1, .long x2, .null, .null, .null, .null, .null, .null, .null] [] (am_hp sw s) (fun _ => rfl) (fun _ => ?_) (fun _ => ?_)
  · exact sm_ret 1 35 [.ref 58, .int x1, .long x2, .null, .null, .null, .null, .null, .null, .null] [.int (-1)] (am_hp sw s) (some (.int (-1))) (fun _ => rfl) rfl (fun _ _ h => h)
  · refine sm_br 3 34 14 [.ref 58, .int x1, .long x2, .null, .null, .null, .null, .null, .null, .null] [] (am_hp sw s) (fun _ => rfl) (fun _ => ?_) (fun _ => ?_)
    · exact sm_ret 1 35 [.ref 58, .int x1, .long x2, .null, .null, .null, .null, .null, .null, .null] [.int (-1)] (am_hp sw s) (some (.int (-1))) (fun _ => rfl) rfl (fun _ _ h => h)
    · refine sm_br 3 34 20 [.ref 58, .int x1, .long x2, .null, .null, .null, .null, .null, .null, .null] [] (am_hp sw s) (fun _ => rfl) (fun _ => ?_) (fun _ => ?_)
      · exact sm_ret 1 35 [.ref 58, .int x1, .long x2, .null, .null, .null, .null, .null, .null, .null] [.int (-1)] (am_hp sw s) (some (.int (-1))) (fun _ => rfl) rfl (fun _ _ h => h)
      · refine sm_br 4 34 26 [.ref 58, .int x1, .long x2, .null, .null, .null, .null, .null, .null, .null] [] (am_hp sw s) (fun _ => rfl) (fun _ => ?_) (fun _ => ?_)
        · exact sm_ret 1 35 [.ref 58, .int x1, .long x2, .null, .null, .null, .null, .null, .null, .null] [.int (-1)] (am_hp sw s) (some (.int (-1))) (fun _ => rfl) rfl (fun _ _ h => h)
        · refine sm_br 6 36 34 [.ref 58, .int x1, .long x2, .null, .null, .null, .null, .null, .null, .null] [] (am_hp sw s) (fun _ => rfl) (fun _ => ?_) (fun _ => ?_)
          · refine sm_go 4 42 [.ref 58, .int x1, .long x2, .null, .int (0), .int (0), .null, .null, .null, .null] [] (am_hp sw s) (fun _ => rfl) ?_
            refine sm_lp 99 (fun y42 => [.ref 58, .int x1, .long x2, .null, .int y42, .null, .null, .null, .null, .null]) (l_X12_log_42 d sw am_FU x1 x2 (0) (0) s) (fun _ _ _ h => h) am_po20 (fun y42 s42 => ?_)
            refine sm_iast 4 105 [.ref 58, .int x1, .long x2, .null, .int y42, .null, .null, .null, .null, .null] [] sw s42 (i := x1) (x := (0)) (c := 99) (fun _ => rfl) rfl rfl rfl ?_
            refine sm_iast 4 112 [.ref 58, .int x1, .long x2, .null, .int y42, .null, .null, .null, .null, .null] [] sw (am_wI s42 99 (Int32.toNatClampNeg x1) (0)) (i := x1) (x := (0)) (c := 100) (fun _ => rfl) rfl rfl rfl ?_
            refine sm_go 4 118 [.ref 58, .int x1, .long x2, .null, .int y42, .int (x1 - 1), .null, .null, .null, .null] [] (am_hp sw (am_wI (am_wI s42 99 (Int32.toNatClampNeg x1) (0)) 100 (Int32.toNatClampNeg x1) (0))) (fun _ => rfl) ?_
            refine sm_lp 342 (fun _y => [.ref 58, .int x1, .null, .null, .null, .null, .null, .null, .null, .null]) (l_X12_log_118 d sw am_FU x1 x2 y42 (x1 - 1) (am_wI (am_wI s42 99 (Int32.toNatClampNeg x1) (0)) 100 (Int32.toNatClampNeg x1) (0))) (fun _ _ _ h => h) am_po20 (fun _y s118 => ?_)
            refine sm_iald 5 351 [.ref 58, .int x1, .null, .null, .null, .null, .null, .null, .null, .null] [.int (s118.1 58 55)] (am_hp sw s118) (i := (0)) (c := 100) (fun _ => rfl) rfl rfl rfl rfl ?_
            refine sm_br 3 359 361 [.ref 58, .int x1, .null, .null, .null, .null, .null, .null, .null, .null] [] (am_hp sw s118) (fun _ => rfl) (fun _ => ?_) (fun _ => ?_)
            · exact sm_ret 1 360 [.ref 58, .int x1, .null, .null, .null, .null, .null, .null, .null, .null] [.int (-1)] (am_hp sw s118) (some (.int (-1))) (fun _ => rfl) rfl (fun _ _ h => h)
            · refine sm_go 4 367 [.ref 58, .int x1, .null, .null, .null, .int (0), .int (0), .null, .null, .null] [] (am_hp sw s118) (fun _ => rfl) ?_
              refine sm_lp 477 (fun y367 => [.ref 58, .null, .null, .null, .null, .int y367, .null, .null, .null, .null]) (l_X12_log_367 d sw am_FU x1 (0) (0) s118) (fun _ _ _ h => h) am_po20 (fun y367 s367 => ?_)
              refine sm_iast 5 487 [.ref 58, .null, .null, .null, .null, .int y367, .null, .null, .null, .null] [] sw s367 (i := (s367.1 58 53)) (x := y367) (c := 93) (fun _ => rfl) rfl rfl rfl ?_
              exact sm_ret 10 504 [.ref 58, .null, .null, .null, .null, .int y367, .null, .null, .null, .null] [.int (((s367.1 58 53) + 1) - 1)] (am_hp sw (am_wI (am_wI s367 93 (Int32.toNatClampNeg (s367.1 58 53)) y367) 58 53 ((s367.1 58 53) + 1))) (some (.int (((s367.1 58 53) + 1) - 1))) (fun _ => rfl) rfl (fun _ _ h => h)
          · exact sm_ret 1 35 [.ref 58, .int x1, .long x2, .null, .null, .null, .null, .null, .null, .null] [.int (-1)] (am_hp sw s) (some (.int (-1))) (fun _ => rfl) rfl (fun _ _ h => h)

def f_X12_waste (s : am_S) (x1 : Int32) : Option (Int32 × am_S) := if x1 < 0 then (some ((-1), s)) else (if x1 < (s.1 58 53) then (am_gu (am_in x1 30) (some ((s.1 93 (Int32.toNatClampNeg x1)), s))) else (some ((-1), s)))
set_option maxRecDepth 20000 in
theorem r_X12_waste (d : Nat) (sw : Bool) (s s' : am_S) (x1 : Int32) (v : Int32) (e : f_X12_waste s x1 = some (v, s')) : am_Run (d + 1) 165 [.ref 58, .int x1] (am_hp sw s) (am_cI v) (am_hp sw s') := by
  refine am_Run.of (M := mt_X12_waste) (cvf := am_cI) (X := f_X12_waste s x1) rfl rfl rfl (by simp) ?_ e
  unfold f_X12_waste
  show am_Sm tb_X12_waste 12 false none (some .int) (d + 0) (am_po am_cI sw) _ 0 [.ref 58, .int x1] [] (am_hp sw s)
  refine sm_br 2 21 4 [.ref 58, .int x1] [] (am_hp sw s) (fun _ => rfl) (fun _ => ?_) (fun _ => ?_)
  · exact sm_ret 1 22 [.ref 58, .int x1] [.int (-1)] (am_hp sw s) (some (.int (-1))) (fun _ => rfl) rfl (fun _ _ h => h)
  · refine sm_br 4 12 21 [.ref 58, .int x1] [] (am_hp sw s) (fun _ => rfl) (fun _ => ?_) (fun _ => ?_)
    · refine sm_iald 3 17 [.ref 58, .int x1] [] (am_hp sw s) (i := x1) (c := 93) (fun _ => rfl) rfl rfl rfl rfl ?_
      exact sm_ret 1 22 [.ref 58, .int x1] [.int (s.1 93 (Int32.toNatClampNeg x1))] (am_hp sw s) (some (.int (s.1 93 (Int32.toNatClampNeg x1)))) (fun _ => rfl) rfl (fun _ _ h => h)
    · exact sm_ret 1 22 [.ref 58, .int x1] [.int (-1)] (am_hp sw s) (some (.int (-1))) (fun _ => rfl) rfl (fun _ _ h => h)

def f_X12_asks (s : am_S) (x1 : Int32) (x2 : Int32) : Option (Unit × am_S) := am_gu (am_in x1 8) (am_gu (am_in (0) 8) (am_gu (am_in x1 8) (am_jn (fun (p31 : Int32 × am_S) => am_gu (am_in (1) 8) (am_gu (am_in ((40 * x1) + (p31.2.1 58 51)) 320) (am_gu (am_in (2) 8) (am_gu (am_in x1 8) (am_gu (am_in (3) 8) (am_gu (am_in (4) 8) (am_gu (am_in x2 8) (am_gu (am_in (5) 8) (am_gu (am_in x2 8) (am_gu (am_in (6) 8) (am_gu (am_in (7) 8) (some ((), (am_wI (am_wI (am_wI (am_wI (am_wI (am_wI (am_wI p31.2 102 (Int32.toNatClampNeg (1)) p31.1) 102 (Int32.toNatClampNeg (2)) (p31.2.1 92 (Int32.toNatClampNeg ((40 * x1) + (p31.2.1 58 51))))) 102 (Int32.toNatClampNeg (3)) (p31.2.1 86 (Int32.toNatClampNeg x1))) 102 (Int32.toNatClampNeg (4)) x2) 102 (Int32.toNatClampNeg (5)) (p31.2.1 83 (Int32.toNatClampNeg x2))) 102 (Int32.toNatClampNeg (6)) (p31.2.1 82 (Int32.toNatClampNeg x2))) 102 (Int32.toNatClampNeg (7)) (p31.2.1 58 51))))))))))))))) (fun j31 => if (s.1 85 (Int32.toNatClampNeg x1)) = 0 then (j31 (0, (am_wI s 102 (Int32.toNatClampNeg (0)) (s.1 84 (Int32.toNatClampNeg x1))))) else (j31 (1, (am_wI s 102 (Int32.toNatClampNeg (0)) (s.1 84 (Int32.toNatClampNeg x1)))))))))
set_option maxRecDepth 20000 in
theorem r_X12_asks (d : Nat) (sw : Bool) (s s' : am_S) (x1 : Int32) (x2 : Int32) (v : Unit) (e : f_X12_asks s x1 x2 = some (v, s')) : am_Run (d + 1) 166 [.ref 58, .int x1, .int x2] (am_hp sw s) (am_cU v) (am_hp sw s') := by
  refine am_Run.of (M := mt_X12_asks) (cvf := am_cU) (X := f_X12_asks s x1 x2) rfl rfl rfl (by simp) ?_ e
  unfold f_X12_asks
  show am_Sm tb_X12_asks 12 false none none (d + 0) (am_po am_cU sw) _ 0 [.ref 58, .int x1, .int x2] [] (am_hp sw s)
  refine sm_iald 6 10 [.ref 58, .int x1, .int x2] [.int (0), .ref 102] (am_hp sw s) (i := x1) (c := 84) (fun _ => rfl) rfl rfl rfl rfl ?_
  refine sm_iast 0 11 [.ref 58, .int x1, .int x2] [] sw s (i := (0)) (x := (s.1 84 (Int32.toNatClampNeg x1))) (c := 102) (fun _ => rfl) rfl rfl rfl ?_
  refine sm_bald 6 22 [.ref 58, .int x1, .int x2] [.int (1), .ref 102] (am_hp sw (am_wI s 102 (Int32.toNatClampNeg (0)) (s.1 84 (Int32.toNatClampNeg x1)))) (i := x1) (c := 85) (fun _ => rfl) rfl rfl rfl rfl ?_
  refine sm_jn 31 (fun p31 => [.ref 58, .int x1, .int x2]) (fun p31 => [.int p31.1, .int (1), .ref 102]) (fun p31 => (am_hp sw p31.2)) (fun p31 => ?_) (fun j31 hj31 => ?_)
  · refine sm_iast 0 31 [.ref 58, .int x1, .int x2] [] sw p31.2 (i := (1)) (x := p31.1) (c := 102) (fun _ => rfl) rfl rfl rfl ?_
    refine sm_iald 11 50 [.ref 58, .int x1, .int x2] [.int (2), .ref 102] (am_hp sw (am_wI p31.2 102 (Int32.toNatClampNeg (1)) p31.1)) (i := ((40 * x1) + (p31.2.1 58 51))) (c := 92) (fun _ => rfl) rfl rfl rfl rfl ?_
    refine sm_iast 0 51 [.ref 58, .int x1, .int x2] [] sw (am_wI p31.2 102 (Int32.toNatClampNeg (1)) p31.1) (i := (2)) (x := (p31.2.1 92 (Int32.toNatClampNeg ((40 * x1) + (p31.2.1 58 51))))) (c := 102) (fun _ => rfl) rfl rfl rfl ?_
    refine sm_iald 6 62 [.ref 58, .int x1, .int x2] [.int (3), .ref 102] (am_hp sw (am_wI (am_wI p31.2 102 (Int32.toNatClampNeg (1)) p31.1) 102 (Int32.toNatClampNeg (2)) (p31.2.1 92 (Int32.toNatClampNeg ((40 * x1) + (p31.2.1 58 51)))))) (i := x1) (c := 86) (fun _ => rfl) rfl rfl rfl rfl ?_
    refine sm_iast 0 63 [.ref 58, .int x1, .int x2] [] sw (am_wI (am_wI p31.2 102 (Int32.toNatClampNeg (1)) p31.1) 102 (Int32.toNatClampNeg (2)) (p31.2.1 92 (Int32.toNatClampNeg ((40 * x1) + (p31.2.1 58 51))))) (i := (3)) (x := (p31.2.1 86 (Int32.toNatClampNeg x1))) (c := 102) (fun _ => rfl) rfl rfl rfl ?_
    refine sm_iast 4 70 [.ref 58, .int x1, .int x2] [] sw (am_wI (am_wI (am_wI p31.2 102 (Int32.toNatClampNeg (1)) p31.1) 102 (Int32.toNatClampNeg (2)) (p31.2.1 92 (Int32.toNatClampNeg ((40 * x1) + (p31.2.1 58 51))))) 102 (Int32.toNatClampNeg (3)) (p31.2.1 86 (Int32.toNatClampNeg x1))) (i := (4)) (x := x2) (c := 102) (fun _ => rfl) rfl rfl rfl ?_
    refine sm_iald 6 81 [.ref 58, .int x1, .int x2] [.int (5), .ref 102] (am_hp sw (am_wI (am_wI (am_wI (am_wI p31.2 102 (Int32.toNatClampNeg (1)) p31.1) 102 (Int32.toNatClampNeg (2)) (p31.2.1 92 (Int32.toNatClampNeg ((40 * x1) + (p31.2.1 58 51))))) 102 (Int32.toNatClampNeg (3)) (p31.2.1 86 (Int32.toNatClampNeg x1))) 102 (Int32.toNatClampNeg (4)) x2)) (i := x2) (c := 83) (fun _ => rfl) rfl rfl rfl rfl ?_
    refine sm_iast 0 82 [.ref 58, .int x1, .int x2] [] sw (am_wI (am_wI (am_wI (am_wI p31.2 102 (Int32.toNatClampNeg (1)) p31.1) 102 (Int32.toNatClampNeg (2)) (p31.2.1 92 (Int32.toNatClampNeg ((40 * x1) + (p31.2.1 58 51))))) 102 (Int32.toNatClampNeg (3)) (p31.2.1 86 (Int32.toNatClampNeg x1))) 102 (Int32.toNatClampNeg (4)) x2) (i := (5)) (x := (p31.2.1 83 (Int32.toNatClampNeg x2))) (c := 102) (fun _ => rfl) rfl rfl rfl ?_
    refine sm_iald 6 94 [.ref 58, .int x1, .int x2] [.int (6), .ref 102] (am_hp sw (am_wI (am_wI (am_wI (am_wI (am_wI p31.2 102 (Int32.toNatClampNeg (1)) p31.1) 102 (Int32.toNatClampNeg (2)) (p31.2.1 92 (Int32.toNatClampNeg ((40 * x1) + (p31.2.1 58 51))))) 102 (Int32.toNatClampNeg (3)) (p31.2.1 86 (Int32.toNatClampNeg x1))) 102 (Int32.toNatClampNeg (4)) x2) 102 (Int32.toNatClampNeg (5)) (p31.2.1 83 (Int32.toNatClampNeg x2)))) (i := x2) (c := 82) (fun _ => rfl) rfl rfl rfl rfl ?_
    refine sm_iast 0 95 [.ref 58, .int x1, .int x2] [] sw (am_wI (am_wI (am_wI (am_wI (am_wI p31.2 102 (Int32.toNatClampNeg (1)) p31.1) 102 (Int32.toNatClampNeg (2)) (p31.2.1 92 (Int32.toNatClampNeg ((40 * x1) + (p31.2.1 58 51))))) 102 (Int32.toNatClampNeg (3)) (p31.2.1 86 (Int32.toNatClampNeg x1))) 102 (Int32.toNatClampNeg (4)) x2) 102 (Int32.toNatClampNeg (5)) (p31.2.1 83 (Int32.toNatClampNeg x2))) (i := (6)) (x := (p31.2.1 82 (Int32.toNatClampNeg x2))) (c := 102) (fun _ => rfl) rfl rfl rfl ?_
    refine sm_iast 5 106 [.ref 58, .int x1, .int x2] [] sw (am_wI (am_wI (am_wI (am_wI (am_wI (am_wI p31.2 102 (Int32.toNatClampNeg (1)) p31.1) 102 (Int32.toNatClampNeg (2)) (p31.2.1 92 (Int32.toNatClampNeg ((40 * x1) + (p31.2.1 58 51))))) 102 (Int32.toNatClampNeg (3)) (p31.2.1 86 (Int32.toNatClampNeg x1))) 102 (Int32.toNatClampNeg (4)) x2) 102 (Int32.toNatClampNeg (5)) (p31.2.1 83 (Int32.toNatClampNeg x2))) 102 (Int32.toNatClampNeg (6)) (p31.2.1 82 (Int32.toNatClampNeg x2))) (i := (7)) (x := (p31.2.1 58 51)) (c := 102) (fun _ => rfl) rfl rfl rfl ?_
    exact sm_ret 0 107 [.ref 58, .int x1, .int x2] [] (am_hp sw (am_wI (am_wI (am_wI (am_wI (am_wI (am_wI (am_wI p31.2 102 (Int32.toNatClampNeg (1)) p31.1) 102 (Int32.toNatClampNeg (2)) (p31.2.1 92 (Int32.toNatClampNeg ((40 * x1) + (p31.2.1 58 51))))) 102 (Int32.toNatClampNeg (3)) (p31.2.1 86 (Int32.toNatClampNeg x1))) 102 (Int32.toNatClampNeg (4)) x2) 102 (Int32.toNatClampNeg (5)) (p31.2.1 83 (Int32.toNatClampNeg x2))) 102 (Int32.toNatClampNeg (6)) (p31.2.1 82 (Int32.toNatClampNeg x2))) 102 (Int32.toNatClampNeg (7)) (p31.2.1 58 51))) none (fun _ => rfl) rfl (fun _ _ h => h)
  refine sm_br 1 30 26 [.ref 58, .int x1, .int x2] [.int (1), .ref 102] (am_hp sw (am_wI s 102 (Int32.toNatClampNeg (0)) (s.1 84 (Int32.toNatClampNeg x1)))) (fun _ => rfl) (fun _ => ?_) (fun _ => ?_)
  · refine sm_go 1 31 [.ref 58, .int x1, .int x2] [.int (0), .int (1), .ref 102] (am_hp sw (am_wI s 102 (Int32.toNatClampNeg (0)) (s.1 84 (Int32.toNatClampNeg x1)))) (fun _ => rfl) ?_
    exact hj31 (0, (am_wI s 102 (Int32.toNatClampNeg (0)) (s.1 84 (Int32.toNatClampNeg x1))))
  · refine sm_go 2 31 [.ref 58, .int x1, .int x2] [.int (1), .int (1), .ref 102] (am_hp sw (am_wI s 102 (Int32.toNatClampNeg (0)) (s.1 84 (Int32.toNatClampNeg x1)))) (fun _ => rfl) ?_
    exact hj31 (1, (am_wI s 102 (Int32.toNatClampNeg (0)) (s.1 84 (Int32.toNatClampNeg x1))))

def f_X12_value_L5 : Nat → Int32 → Int32 → Int32 → am_S → Option ((Int32 × am_S) ⊕ ((Unit) × am_S))
  | 0, _, _, _, _ => none
  | n + 1, x2, x3, x4, s => if x4 < x2 then (am_gu (am_in x4 1000) (am_jn (fun (p138 : Int32 × am_S) => f_X12_value_L5 n x2 p138.1 (x4 + 1) p138.2) (fun j138 => if (s.1 78 (Int32.toNatClampNeg x4)) < 2 then (am_gu (am_in x4 1000) (am_jn (fun (p59 : Int32 × am_S) => am_gu (am_in x3 500) (j138 ((x3 + 1), (am_wI p59.2 103 (Int32.toNatClampNeg x3) p59.1)))) (fun j59 => if (s.1 78 (Int32.toNatClampNeg x4)) = 0 then (am_gu (am_in x4 1000) (j59 ((s.1 79 (Int32.toNatClampNeg x4)), s))) else (am_gu (am_in x4 1000) (am_gu (am_in (s.1 79 (Int32.toNatClampNeg x4)) 8) (j59 ((s.1 102 (Int32.toNatClampNeg (s.1 79 (Int32.toNatClampNeg x4)))), s))))))) else (am_gu (am_in ((x3 + (-1)) - 1) 500) (am_gu (am_in (x3 + (-1)) 500) (am_gu (am_in x4 1000) (am_jn (fun (p137 : Int32 × am_S) => am_gu (am_in ((x3 + (-1)) - 1) 500) (j138 ((x3 + (-1)), (am_wI p137.2 103 (Int32.toNatClampNeg ((x3 + (-1)) - 1)) p137.1)))) (fun j137 => if (s.1 78 (Int32.toNatClampNeg x4)) = 2 then (j137 (((s.1 103 (Int32.toNatClampNeg ((x3 + (-1)) - 1))) + (s.1 103 (Int32.toNatClampNeg (x3 + (-1))))), s)) else (am_gu (am_in x4 1000) (if (s.1 78 (Int32.toNatClampNeg x4)) = 3 then (j137 (((s.1 103 (Int32.toNatClampNeg ((x3 + (-1)) - 1))) - (s.1 103 (Int32.toNatClampNeg (x3 + (-1))))), s)) else (j137 (((s.1 103 (Int32.toNatClampNeg ((x3 + (-1)) - 1))) * (s.1 103 (Int32.toNatClampNeg (x3 + (-1))))), s)))))))))))) else (some (.inr ((), s)))
def f_X12_value (s : am_S) (x1 : Int32) (x2 : Int32) : Option (Int32 × am_S) := am_lp (fun y => y) (f_X12_value_L5 am_FU x2 (0) x1 s) (fun (_ : Unit) s5 => am_gu (am_in (0) 500) (some ((s5.1 103 (Int32.toNatClampNeg (0))), s5)))
set_option maxRecDepth 20000 in
theorem l_X12_value_5 (d : Nat) (sw : Bool) : ∀ (n : Nat) (x2 : Int32) (x3 : Int32) (x4 : Int32) (s : am_S), am_Sm tb_X12_value 12 false none (some .int) (d + 0) (am_pl am_cI sw (fun (v9 : Unit) s9 r h9 => am_Ex tb_X12_value 12 false none (some .int) (d + 0) r h9 144 [.ref 58, .null, .null, .null, .null, .null, .null] [] (am_hp sw s9))) (f_X12_value_L5 n x2 x3 x4 s) 5 [.ref 58, .null, .int x2, .int x3, .int x4, .null, .null] [] (am_hp sw s) := by
  intro n
  induction n with
  | zero => intro x2 x3 x4 s; exact sm_no
  | succ n ih =>
    intro x2 x3 x4 s
    rw [f_X12_value_L5]
    refine sm_br 3 11 144 [.ref 58, .null, .int x2, .int x3, .int x4, .null, .null] [] (am_hp sw s) (fun _ => rfl) (fun _ => ?_) (fun _ => ?_)
    · refine sm_iald 3 17 [.ref 58, .null, .int x2, .int x3, .int x4, .null, .null] [] (am_hp sw s) (i := x4) (c := 78) (fun _ => rfl) rfl rfl rfl rfl ?_
      refine sm_go 1 19 [.ref 58, .null, .int x2, .int x3, .int x4, .null, .null] [.int (2), .int (s.1 78 (Int32.toNatClampNeg x4))] (am_hp sw s) (fun _ => rfl) ?_
      refine sm_jn 138 (fun p138 => [.ref 58, .null, .int x2, .int p138.1, .int x4, .null, .null]) (fun p138 => []) (fun p138 => (am_hp sw p138.2)) (fun p138 => ?_) (fun j138 hj138 => ?_)
      · refine sm_go 2 5 [.ref 58, .null, .int x2, .int p138.1, .int (x4 + 1), .null, .null] [] (am_hp sw p138.2) (fun _ => rfl) ?_
        exact ih x2 p138.1 (x4 + 1) p138.2
      refine sm_br 1 22 66 [.ref 58, .null, .int x2, .int x3, .int x4, .null, .null] [] (am_hp sw s) (fun _ => rfl) (fun _ => ?_) (fun _ => ?_)
      · refine sm_iald 6 33 [.ref 58, .null, .int x2, .int x3, .int x4, .null, .null] [.int x3, .ref 103] (am_hp sw s) (i := x4) (c := 78) (fun _ => rfl) rfl rfl rfl rfl ?_
        refine sm_jn 59 (fun p59 => [.ref 58, .null, .int x2, .int x3, .int x4, .null, .null]) (fun p59 => [.int p59.1, .int x3, .ref 103]) (fun p59 => (am_hp sw p59.2)) (fun p59 => ?_) (fun j59 hj59 => ?_)
        · refine sm_iast 0 59 [.ref 58, .null, .int x2, .int x3, .int x4, .null, .null] [] sw p59.2 (i := x3) (x := p59.1) (c := 103) (fun _ => rfl) rfl rfl rfl ?_
          refine sm_go 2 138 [.ref 58, .null, .int x2, .int (x3 + 1), .int x4, .null, .null] [] (am_hp sw (am_wI p59.2 103 (Int32.toNatClampNeg x3) p59.1)) (fun _ => rfl) ?_
          exact hj138 ((x3 + 1), (am_wI p59.2 103 (Int32.toNatClampNeg x3) p59.1))
        refine sm_br 1 37 47 [.ref 58, .null, .int x2, .int x3, .int x4, .null, .null] [.int x3, .ref 103] (am_hp sw s) (fun _ => rfl) (fun _ => ?_) (fun _ => ?_)
        · refine sm_iald 3 43 [.ref 58, .null, .int x2, .int x3, .int x4, .null, .null] [.int x3, .ref 103] (am_hp sw s) (i := x4) (c := 79) (fun _ => rfl) rfl rfl rfl rfl ?_
          refine sm_go 1 59 [.ref 58, .null, .int x2, .int x3, .int x4, .null, .null] [.int (s.1 79 (Int32.toNatClampNeg x4)), .int x3, .ref 103] (am_hp sw s) (fun _ => rfl) ?_
          exact hj59 ((s.1 79 (Int32.toNatClampNeg x4)), s)
        · refine sm_iald 5 57 [.ref 58, .null, .int x2, .int x3, .int x4, .null, .null] [.ref 102, .int x3, .ref 103] (am_hp sw s) (i := x4) (c := 79) (fun _ => rfl) rfl rfl rfl rfl ?_
          refine sm_iald 0 58 [.ref 58, .null, .int x2, .int x3, .int x4, .null, .null] [.int x3, .ref 103] (am_hp sw s) (i := (s.1 79 (Int32.toNatClampNeg x4))) (c := 102) (fun _ => rfl) rfl rfl rfl rfl ?_
          exact hj59 ((s.1 102 (Int32.toNatClampNeg (s.1 79 (Int32.toNatClampNeg x4)))), s)
      · refine sm_iald 6 76 [.ref 58, .null, .int x2, .int (x3 + (-1)), .int x4, .null, .null] [] (am_hp sw s) (i := ((x3 + (-1)) - 1)) (c := 103) (fun _ => rfl) rfl rfl rfl rfl ?_
        refine sm_iald 4 84 [.ref 58, .null, .int x2, .int (x3 + (-1)), .int x4, .int (s.1 103 (Int32.toNatClampNeg ((x3 + (-1)) - 1))), .null] [] (am_hp sw s) (i := (x3 + (-1))) (c := 103) (fun _ => rfl) rfl rfl rfl rfl ?_
        refine sm_iald 9 100 [.ref 58, .null, .int x2, .int (x3 + (-1)), .int x4, .int (s.1 103 (Int32.toNatClampNeg ((x3 + (-1)) - 1))), .int (s.1 103 (Int32.toNatClampNeg (x3 + (-1))))] [.int ((x3 + (-1)) - 1), .ref 103] (am_hp sw s) (i := x4) (c := 78) (fun _ => rfl) rfl rfl rfl rfl ?_
        refine sm_go 1 102 [.ref 58, .null, .int x2, .int (x3 + (-1)), .int x4, .int (s.1 103 (Int32.toNatClampNeg ((x3 + (-1)) - 1))), .int (s.1 103 (Int32.toNatClampNeg (x3 + (-1))))] [.int (2), .int (s.1 78 (Int32.toNatClampNeg x4)), .int ((x3 + (-1)) - 1), .ref 103] (am_hp sw s) (fun _ => rfl) ?_
        refine sm_jn 137 (fun p137 => [.ref 58, .null, .int x2, .int (x3 + (-1)), .int x4, .null, .null]) (fun p137 => [.int p137.1, .int ((x3 + (-1)) - 1), .ref 103]) (fun p137 => (am_hp sw p137.2)) (fun p137 => ?_) (fun j137 hj137 => ?_)
        · refine sm_iast 0 137 [.ref 58, .null, .int x2, .int (x3 + (-1)), .int x4, .null, .null] [] sw p137.2 (i := ((x3 + (-1)) - 1)) (x := p137.1) (c := 103) (fun _ => rfl) rfl rfl rfl ?_
          exact hj138 ((x3 + (-1)), (am_wI p137.2 103 (Int32.toNatClampNeg ((x3 + (-1)) - 1)) p137.1))
        refine sm_br 1 105 113 [.ref 58, .null, .int x2, .int (x3 + (-1)), .int x4, .int (s.1 103 (Int32.toNatClampNeg ((x3 + (-1)) - 1))), .int (s.1 103 (Int32.toNatClampNeg (x3 + (-1))))] [.int ((x3 + (-1)) - 1), .ref 103] (am_hp sw s) (fun _ => rfl) (fun _ => ?_) (fun _ => ?_)
        · refine sm_go 4 137 [.ref 58, .null, .int x2, .int (x3 + (-1)), .int x4, .int (s.1 103 (Int32.toNatClampNeg ((x3 + (-1)) - 1))), .int (s.1 103 (Int32.toNatClampNeg (x3 + (-1))))] [.int ((s.1 103 (Int32.toNatClampNeg ((x3 + (-1)) - 1))) + (s.1 103 (Int32.toNatClampNeg (x3 + (-1))))), .int ((x3 + (-1)) - 1), .ref 103] (am_hp sw s) (fun _ => rfl) ?_
          refine sm_fg [.ref 58, .null, .int x2, .int (x3 + (-1)), .int x4, .null, .null] ⟨Or.inr rfl, Or.inl rfl, Or.inr rfl, Or.inr rfl, Or.inr rfl, Or.inl rfl, Or.inl rfl, trivial⟩ ?_
          exact hj137 (((s.1 103 (Int32.toNatClampNeg ((x3 + (-1)) - 1))) + (s.1 103 (Int32.toNatClampNeg (x3 + (-1))))), s)
        · refine sm_iald 3 119 [.ref 58, .null, .int x2, .int (x3 + (-1)), .int x4, .int (s.1 103 (Int32.toNatClampNeg ((x3 + (-1)) - 1))), .int (s.1 103 (Int32.toNatClampNeg (x3 + (-1))))] [.int ((x3 + (-1)) - 1), .ref 103] (am_hp sw s) (i := x4) (c := 78) (fun _ => rfl) rfl rfl rfl rfl ?_
          refine sm_br 2 124 132 [.ref 58, .null, .int x2, .int (x3 + (-1)), .int x4, .int (s.1 103 (Int32.toNatClampNeg ((x3 + (-1)) - 1))), .int (s.1 103 (Int32.toNatClampNeg (x3 + (-1))))] [.int ((x3 + (-1)) - 1), .ref 103] (am_hp sw s) (fun _ => rfl) (fun _ => ?_) (fun _ => ?_)
          · refine sm_go 4 137 [.ref 58, .null, .int x2, .int (x3 + (-1)), .int x4, .int (s.1 103 (Int32.toNatClampNeg ((x3 + (-1)) - 1))), .int (s.1 103 (Int32.toNatClampNeg (x3 + (-1))))] [.int ((s.1 103 (Int32.toNatClampNeg ((x3 + (-1)) - 1))) - (s.1 103 (Int32.toNatClampNeg (x3 + (-1))))), .int ((x3 + (-1)) - 1), .ref 103] (am_hp sw s) (fun _ => rfl) ?_
            refine sm_fg [.ref 58, .null, .int x2, .int (x3 + (-1)), .int x4, .null, .null] ⟨Or.inr rfl, Or.inl rfl, Or.inr rfl, Or.inr rfl, Or.inr rfl, Or.inl rfl, Or.inl rfl, trivial⟩ ?_
            exact hj137 (((s.1 103 (Int32.toNatClampNeg ((x3 + (-1)) - 1))) - (s.1 103 (Int32.toNatClampNeg (x3 + (-1))))), s)
          · refine sm_go 3 137 [.ref 58, .null, .int x2, .int (x3 + (-1)), .int x4, .int (s.1 103 (Int32.toNatClampNeg ((x3 + (-1)) - 1))), .int (s.1 103 (Int32.toNatClampNeg (x3 + (-1))))] [.int ((s.1 103 (Int32.toNatClampNeg ((x3 + (-1)) - 1))) * (s.1 103 (Int32.toNatClampNeg (x3 + (-1))))), .int ((x3 + (-1)) - 1), .ref 103] (am_hp sw s) (fun _ => rfl) ?_
            refine sm_fg [.ref 58, .null, .int x2, .int (x3 + (-1)), .int x4, .null, .null] ⟨Or.inr rfl, Or.inl rfl, Or.inr rfl, Or.inr rfl, Or.inr rfl, Or.inl rfl, Or.inl rfl, trivial⟩ ?_
            exact hj137 (((s.1 103 (Int32.toNatClampNeg ((x3 + (-1)) - 1))) * (s.1 103 (Int32.toNatClampNeg (x3 + (-1))))), s)
    · refine sm_fg [.ref 58, .null, .null, .null, .null, .null, .null] ⟨Or.inr rfl, Or.inl rfl, Or.inl rfl, Or.inl rfl, Or.inl rfl, Or.inl rfl, Or.inl rfl, trivial⟩ ?_
      exact sm_ex (fun _ _ h => h.2)

set_option maxRecDepth 20000 in
theorem r_X12_value (d : Nat) (sw : Bool) (s s' : am_S) (x1 : Int32) (x2 : Int32) (v : Int32) (e : f_X12_value s x1 x2 = some (v, s')) : am_Run (d + 1) 167 [.ref 58, .int x1, .int x2] (am_hp sw s) (am_cI v) (am_hp sw s') := by
  refine am_Run.of (M := mt_X12_value) (cvf := am_cI) (X := f_X12_value s x1 x2) rfl rfl rfl (by simp) ?_ e
  unfold f_X12_value
  show am_Sm tb_X12_value 12 false none (some .int) (d + 0) (am_po am_cI sw) _ 0 [.ref 58, .int x1, .int x2, .null, .null, .null, .null] [] (am_hp sw s)
  refine sm_go 4 5 [.ref 58, .int x1, .int x2, .int (0), .int x1, .null, .null] [] (am_hp sw s) (fun _ => rfl) ?_
  refine sm_fg [.ref 58, .null, .int x2, .int (0), .int x1, .null, .null] ⟨Or.inr rfl, Or.inl rfl, Or.inr rfl, Or.inr rfl, Or.inr rfl, Or.inl rfl, Or.inl rfl, trivial⟩ ?_
  refine sm_lp 144 (fun _y => [.ref 58, .null, .null, .null, .null, .null, .null]) (l_X12_value_5 d sw am_FU x2 (0) x1 s) (fun _ _ _ h => h) am_po20 (fun _y s5 => ?_)
  refine sm_iald 3 149 [.ref 58, .null, .null, .null, .null, .null, .null] [] (am_hp sw s5) (i := (0)) (c := 103) (fun _ => rfl) rfl rfl rfl rfl ?_
  exact sm_ret 0 150 [.ref 58, .null, .null, .null, .null, .null, .null] [.int (s5.1 103 (Int32.toNatClampNeg (0)))] (am_hp sw s5) (some (.int (s5.1 103 (Int32.toNatClampNeg (0))))) (fun _ => rfl) rfl (fun _ _ h => h)

def f_X12_holds_L26 : Nat → Int32 → Int32 → Int32 → am_S → Option ((Int32 × am_S) ⊕ ((Int32) × am_S))
  | 0, _, _, _, _ => none
  | n + 1, x1, x2, x3, s => am_gu (am_in x1 40) (if x3 < (s.1 71 (Int32.toNatClampNeg x1)) then (am_gu (am_in ((200 * (s.1 58 18)) + x3) 400) (am_jn (fun (p64 : am_S) => am_gu (am_in ((200 * (s.1 58 18)) + x3) 400) (am_jn (fun (p76 : Int32 × am_S) => am_jn (fun (p213 : Int32 × am_S) => f_X12_holds_L26 n x1 p213.1 (x3 + 1) p213.2) (fun j213 => if p76.1 = 0 then (j213 (p76.1, p76.2)) else (am_gu (am_in ((200 * (s.1 58 18)) + x3) 400) (am_gu (am_in ((200 * (s.1 58 18)) + x3) 400) (am_bd (f_X12_value p76.2 (p76.2.1 74 (Int32.toNatClampNeg ((200 * (s.1 58 18)) + x3))) (p76.2.1 75 (Int32.toNatClampNeg ((200 * (s.1 58 18)) + x3)))) (fun v98 s98 => am_gu (am_in ((200 * (s.1 58 18)) + x3) 400) (am_gu (am_in ((200 * (s.1 58 18)) + x3) 400) (am_bd (f_X12_value s98 (s98.1 75 (Int32.toNatClampNeg ((200 * (s.1 58 18)) + x3))) (s98.1 76 (Int32.toNatClampNeg ((200 * (s.1 58 18)) + x3)))) (fun v118 s118 => am_gu (am_in ((200 * (s.1 58 18)) + x3) 400) (am_jn (fun (p212 : Int32 × am_S) => j213 (p212.1, p212.2)) (fun j212 => if (s118.1 73 (Int32.toNatClampNeg ((200 * (s.1 58 18)) + x3))) = 0 then (if v98 = v118 then (j212 (1, s118)) else (j212 (0, s118))) else (am_gu (am_in ((200 * (s.1 58 18)) + x3) 400) (if (s118.1 73 (Int32.toNatClampNeg ((200 * (s.1 58 18)) + x3))) = 1 then (if v98 = v118 then (j212 (0, s118)) else (j212 (1, s118))) else (am_gu (am_in ((200 * (s.1 58 18)) + x3) 400) (if (s118.1 73 (Int32.toNatClampNeg ((200 * (s.1 58 18)) + x3))) = 2 then (if v98 < v118 then (j212 (1, s118)) else (j212 (0, s118))) else (if v118 < v98 then (j212 (0, s118)) else (j212 (1, s118)))))))))))))))))) (fun j76 => if (p64.1 77 (Int32.toNatClampNeg ((200 * (s.1 58 18)) + x3))) = 0 then (j76 (x2, p64)) else (j76 (1, p64))))) (fun j64 => if (s.1 77 (Int32.toNatClampNeg ((200 * (s.1 58 18)) + x3))) = 0 then (j64 s) else (if x2 = 0 then (j64 s) else (some (.inl ((1), s))))))) else (some (.inr (x2, s))))
def f_X12_holds (s : am_S) (x1 : Int32) : Option (Int32 × am_S) := am_gu (am_in x1 40) (am_gu (am_in x1 40) (if (s.1 70 (Int32.toNatClampNeg x1)) = (s.1 71 (Int32.toNatClampNeg x1)) then (some ((1), s)) else (am_gu (am_in x1 40) (am_lp (fun y => y) (f_X12_holds_L26 am_FU x1 (0) (s.1 70 (Int32.toNatClampNeg x1)) s) (fun y26 s26 => am_gu (decide (y26 &&& 1 = y26)) (some (y26, s26)))))))
set_option maxRecDepth 20000 in
theorem l_X12_holds_26 (d : Nat) (sw : Bool) : ∀ (n : Nat) (x1 : Int32) (x2 : Int32) (x3 : Int32) (s : am_S), am_Sm tb_X12_holds 12 false none (some .boolean) (d + 1) (am_pl am_cI sw (fun (v9 : Int32) s9 r h9 => am_Ex tb_X12_holds 12 false none (some .boolean) (d + 1) r h9 219 [.null, .null, .int v9, .null, .null, .null, .null] [] (am_hp sw s9))) (f_X12_holds_L26 n x1 x2 x3 s) 26 [.ref 58, .int x1, .int x2, .int x3, .null, .null, .null] [] (am_hp sw s) := by
  intro n
  induction n with
  | zero => intro x1 x2 x3 s; exact sm_no
  | succ n ih =>
    intro x1 x2 x3 s
    rw [f_X12_holds_L26]
    refine sm_iald 4 32 [.ref 58, .int x1, .int x2, .int x3, .null, .null, .null] [.int x3] (am_hp sw s) (i := x1) (c := 71) (fun _ => rfl) rfl rfl rfl rfl ?_
    refine sm_br 1 36 219 [.ref 58, .int x1, .int x2, .int x3, .null, .null, .null] [] (am_hp sw s) (fun _ => rfl) (fun _ => ?_) (fun _ => ?_)
    · refine sm_bald 10 54 [.ref 58, .int x1, .int x2, .int x3, .int ((200 * (s.1 58 18)) + x3), .null, .null] [] (am_hp sw s) (i := ((200 * (s.1 58 18)) + x3)) (c := 77) (fun _ => rfl) rfl rfl rfl rfl ?_
      refine sm_jn 64 (fun p64 => [.ref 58, .int x1, .int x2, .int x3, .int ((200 * (s.1 58 18)) + x3), .null, .null]) (fun p64 => []) (fun p64 => (am_hp sw p64)) (fun p64 => ?_) (fun j64 hj64 => ?_)
      · refine sm_bald 3 70 [.ref 58, .int x1, .int x2, .int x3, .int ((200 * (s.1 58 18)) + x3), .null, .null] [] (am_hp sw p64) (i := ((200 * (s.1 58 18)) + x3)) (c := 77) (fun _ => rfl) rfl rfl rfl rfl ?_
        refine sm_jn 76 (fun p76 => [.ref 58, .int x1, .int p76.1, .int x3, .int ((200 * (s.1 58 18)) + x3), .null, .null]) (fun p76 => []) (fun p76 => (am_hp sw p76.2)) (fun p76 => ?_) (fun j76 hj76 => ?_)
        · refine sm_go 1 77 [.ref 58, .int x1, .int p76.1, .int x3, .int ((200 * (s.1 58 18)) + x3), .null, .null] [.int p76.1] (am_hp sw p76.2) (fun _ => rfl) ?_
          refine sm_jn 213 (fun p213 => [.ref 58, .int x1, .int p213.1, .int x3, .null, .null, .null]) (fun p213 => []) (fun p213 => (am_hp sw p213.2)) (fun p213 => ?_) (fun j213 hj213 => ?_)
          · refine sm_go 2 26 [.ref 58, .int x1, .int p213.1, .int (x3 + 1), .null, .null, .null] [] (am_hp sw p213.2) (fun _ => rfl) ?_
            exact ih x1 p213.1 (x3 + 1) p213.2
          refine sm_br 1 80 83 [.ref 58, .int x1, .int p76.1, .int x3, .int ((200 * (s.1 58 18)) + x3), .null, .null] [] (am_hp sw p76.2) (fun _ => rfl) (fun _ => ?_) (fun _ => ?_)
          · refine sm_go 1 213 [.ref 58, .int x1, .int p76.1, .int x3, .int ((200 * (s.1 58 18)) + x3), .null, .null] [] (am_hp sw p76.2) (fun _ => rfl) ?_
            refine sm_fg [.ref 58, .int x1, .int p76.1, .int x3, .null, .null, .null] ⟨Or.inr rfl, Or.inr rfl, Or.inr rfl, Or.inr rfl, Or.inl rfl, Or.inl rfl, Or.inl rfl, trivial⟩ ?_
            exact hj213 (p76.1, p76.2)
          · refine sm_iald 4 90 [.ref 58, .int x1, .int p76.1, .int x3, .int ((200 * (s.1 58 18)) + x3), .null, .null] [.ref 58] (am_hp sw p76.2) (i := ((200 * (s.1 58 18)) + x3)) (c := 74) (fun _ => rfl) rfl rfl rfl rfl ?_
            refine sm_iald 3 97 [.ref 58, .int x1, .int p76.1, .int x3, .int ((200 * (s.1 58 18)) + x3), .null, .null] [.int (p76.2.1 74 (Int32.toNatClampNeg ((200 * (s.1 58 18)) + x3))), .ref 58] (am_hp sw p76.2) (i := ((200 * (s.1 58 18)) + x3)) (c := 75) (fun _ => rfl) rfl rfl rfl rfl ?_
            refine sm_call (cvf := am_cI) 0 98 [.ref 58, .int x1, .int p76.1, .int x3, .int ((200 * (s.1 58 18)) + x3), .null, .null] [.int (p76.2.1 75 (Int32.toNatClampNeg ((200 * (s.1 58 18)) + x3))), .int (p76.2.1 74 (Int32.toNatClampNeg ((200 * (s.1 58 18)) + x3))), .ref 58] sw p76.2 167 [.ref 58, .int (p76.2.1 74 (Int32.toNatClampNeg ((200 * (s.1 58 18)) + x3))), .int (p76.2.1 75 (Int32.toNatClampNeg ((200 * (s.1 58 18)) + x3)))] [] (fun _ => rfl) rfl (fun _ _ e9 => r_X12_value (d + 0) sw _ _ _ _ _ e9) am_pl20 (fun v98 s98 => ?_)
            refine sm_iald 5 110 [.ref 58, .int x1, .int p76.1, .int x3, .int ((200 * (s.1 58 18)) + x3), .int v98, .null] [.ref 58] (am_hp sw s98) (i := ((200 * (s.1 58 18)) + x3)) (c := 75) (fun _ => rfl) rfl rfl rfl rfl ?_
            refine sm_iald 3 117 [.ref 58, .int x1, .int p76.1, .int x3, .int ((200 * (s.1 58 18)) + x3), .int v98, .null] [.int (s98.1 75 (Int32.toNatClampNeg ((200 * (s.1 58 18)) + x3))), .ref 58] (am_hp sw s98) (i := ((200 * (s.1 58 18)) + x3)) (c := 76) (fun _ => rfl) rfl rfl rfl rfl ?_
            refine sm_call (cvf := am_cI) 0 118 [.ref 58, .int x1, .int p76.1, .int x3, .int ((200 * (s.1 58 18)) + x3), .int v98, .null] [.int (s98.1 76 (Int32.toNatClampNeg ((200 * (s.1 58 18)) + x3))), .int (s98.1 75 (Int32.toNatClampNeg ((200 * (s.1 58 18)) + x3))), .ref 58] sw s98 167 [.ref 58, .int (s98.1 75 (Int32.toNatClampNeg ((200 * (s.1 58 18)) + x3))), .int (s98.1 76 (Int32.toNatClampNeg ((200 * (s.1 58 18)) + x3)))] [] (fun _ => rfl) rfl (fun _ _ e9 => r_X12_value (d + 0) sw _ _ _ _ _ e9) am_pl20 (fun v118 s118 => ?_)
            refine sm_iald 4 129 [.ref 58, .int x1, .int p76.1, .int x3, .int ((200 * (s.1 58 18)) + x3), .int v98, .int v118] [] (am_hp sw s118) (i := ((200 * (s.1 58 18)) + x3)) (c := 73) (fun _ => rfl) rfl rfl rfl rfl ?_
            refine sm_jn 212 (fun p212 => [.ref 58, .int x1, .null, .int x3, .null, .null, .null]) (fun p212 => [.int p212.1]) (fun p212 => (am_hp sw p212.2)) (fun p212 => ?_) (fun j212 hj212 => ?_)
            · refine sm_go 1 213 [.ref 58, .int x1, .int p212.1, .int x3, .null, .null, .null] [] (am_hp sw p212.2) (fun _ => rfl) ?_
              exact hj213 (p212.1, p212.2)
            refine sm_br 1 133 148 [.ref 58, .int x1, .int p76.1, .int x3, .int ((200 * (s.1 58 18)) + x3), .int v98, .int v118] [] (am_hp sw s118) (fun _ => rfl) (fun _ => ?_) (fun _ => ?_)
            · refine sm_br 3 140 144 [.ref 58, .int x1, .int p76.1, .int x3, .int ((200 * (s.1 58 18)) + x3), .int v98, .int v118] [] (am_hp sw s118) (fun _ => rfl) (fun _ => ?_) (fun _ => ?_)
              · refine sm_go 2 212 [.ref 58, .int x1, .int p76.1, .int x3, .int ((200 * (s.1 58 18)) + x3), .int v98, .int v118] [.int (1)] (am_hp sw s118) (fun _ => rfl) ?_
                refine sm_fg [.ref 58, .int x1, .null, .int x3, .null, .null, .null] ⟨Or.inr rfl, Or.inr rfl, Or.inl rfl, Or.inr rfl, Or.inl rfl, Or.inl rfl, Or.inl rfl, trivial⟩ ?_
                exact hj212 (1, s118)
              · refine sm_go 2 212 [.ref 58, .int x1, .int p76.1, .int x3, .int ((200 * (s.1 58 18)) + x3), .int v98, .int v118] [.int (0)] (am_hp sw s118) (fun _ => rfl) ?_
                refine sm_fg [.ref 58, .int x1, .null, .int x3, .null, .null, .null] ⟨Or.inr rfl, Or.inr rfl, Or.inl rfl, Or.inr rfl, Or.inl rfl, Or.inl rfl, Or.inl rfl, trivial⟩ ?_
                exact hj212 (0, s118)
            · refine sm_iald 3 154 [.ref 58, .int x1, .int p76.1, .int x3, .int ((200 * (s.1 58 18)) + x3), .int v98, .int v118] [] (am_hp sw s118) (i := ((200 * (s.1 58 18)) + x3)) (c := 73) (fun _ => rfl) rfl rfl rfl rfl ?_
              refine sm_br 2 159 174 [.ref 58, .int x1, .int p76.1, .int x3, .int ((200 * (s.1 58 18)) + x3), .int v98, .int v118] [] (am_hp sw s118) (fun _ => rfl) (fun _ => ?_) (fun _ => ?_)
              · refine sm_br 3 170 166 [.ref 58, .int x1, .int p76.1, .int x3, .int ((200 * (s.1 58 18)) + x3), .int v98, .int v118] [] (am_hp sw s118) (fun _ => rfl) (fun _ => ?_) (fun _ => ?_)
                · refine sm_go 2 212 [.ref 58, .int x1, .int p76.1, .int x3, .int ((200 * (s.1 58 18)) + x3), .int v98, .int v118] [.int (0)] (am_hp sw s118) (fun _ => rfl) ?_
                  refine sm_fg [.ref 58, .int x1, .null, .int x3, .null, .null, .null] ⟨Or.inr rfl, Or.inr rfl, Or.inl rfl, Or.inr rfl, Or.inl rfl, Or.inl rfl, Or.inl rfl, trivial⟩ ?_
                  exact hj212 (0, s118)
                · refine sm_go 2 212 [.ref 58, .int x1, .int p76.1, .int x3, .int ((200 * (s.1 58 18)) + x3), .int v98, .int v118] [.int (1)] (am_hp sw s118) (fun _ => rfl) ?_
                  refine sm_fg [.ref 58, .int x1, .null, .int x3, .null, .null, .null] ⟨Or.inr rfl, Or.inr rfl, Or.inl rfl, Or.inr rfl, Or.inl rfl, Or.inl rfl, Or.inl rfl, trivial⟩ ?_
                  exact hj212 (1, s118)
              · refine sm_iald 3 180 [.ref 58, .int x1, .int p76.1, .int x3, .int ((200 * (s.1 58 18)) + x3), .int v98, .int v118] [] (am_hp sw s118) (i := ((200 * (s.1 58 18)) + x3)) (c := 73) (fun _ => rfl) rfl rfl rfl rfl ?_
                refine sm_br 2 185 200 [.ref 58, .int x1, .int p76.1, .int x3, .int ((200 * (s.1 58 18)) + x3), .int v98, .int v118] [] (am_hp sw s118) (fun _ => rfl) (fun _ => ?_) (fun _ => ?_)
                · refine sm_br 3 192 196 [.ref 58, .int x1, .int p76.1, .int x3, .int ((200 * (s.1 58 18)) + x3), .int v98, .int v118] [] (am_hp sw s118) (fun _ => rfl) (fun _ => ?_) (fun _ => ?_)
                  · refine sm_go 2 212 [.ref 58, .int x1, .int p76.1, .int x3, .int ((200 * (s.1 58 18)) + x3), .int v98, .int v118] [.int (1)] (am_hp sw s118) (fun _ => rfl) ?_
                    refine sm_fg [.ref 58, .int x1, .null, .int x3, .null, .null, .null] ⟨Or.inr rfl, Or.inr rfl, Or.inl rfl, Or.inr rfl, Or.inl rfl, Or.inl rfl, Or.inl rfl, trivial⟩ ?_
                    exact hj212 (1, s118)
                  · refine sm_go 2 212 [.ref 58, .int x1, .int p76.1, .int x3, .int ((200 * (s.1 58 18)) + x3), .int v98, .int v118] [.int (0)] (am_hp sw s118) (fun _ => rfl) ?_
                    refine sm_fg [.ref 58, .int x1, .null, .int x3, .null, .null, .null] ⟨Or.inr rfl, Or.inr rfl, Or.inl rfl, Or.inr rfl, Or.inl rfl, Or.inl rfl, Or.inl rfl, trivial⟩ ?_
                    exact hj212 (0, s118)
                · refine sm_br 3 211 207 [.ref 58, .int x1, .int p76.1, .int x3, .int ((200 * (s.1 58 18)) + x3), .int v98, .int v118] [] (am_hp sw s118) (fun _ => rfl) (fun _ => ?_) (fun _ => ?_)
                  · refine sm_go 1 212 [.ref 58, .int x1, .int p76.1, .int x3, .int ((200 * (s.1 58 18)) + x3), .int v98, .int v118] [.int (0)] (am_hp sw s118) (fun _ => rfl) ?_
                    refine sm_fg [.ref 58, .int x1, .null, .int x3, .null, .null, .null] ⟨Or.inr rfl, Or.inr rfl, Or.inl rfl, Or.inr rfl, Or.inl rfl, Or.inl rfl, Or.inl rfl, trivial⟩ ?_
                    exact hj212 (0, s118)
                  · refine sm_go 2 212 [.ref 58, .int x1, .int p76.1, .int x3, .int ((200 * (s.1 58 18)) + x3), .int v98, .int v118] [.int (1)] (am_hp sw s118) (fun _ => rfl) ?_
                    refine sm_fg [.ref 58, .int x1, .null, .int x3, .null, .null, .null] ⟨Or.inr rfl, Or.inr rfl, Or.inl rfl, Or.inr rfl, Or.inl rfl, Or.inl rfl, Or.inl rfl, trivial⟩ ?_
                    exact hj212 (1, s118)
        refine sm_br 1 76 74 [.ref 58, .int x1, .int x2, .int x3, .int ((200 * (s.1 58 18)) + x3), .null, .null] [] (am_hp sw p64) (fun _ => rfl) (fun _ => ?_) (fun _ => ?_)
        · exact hj76 (x2, p64)
        · refine sm_go 2 76 [.ref 58, .int x1, .int (1), .int x3, .int ((200 * (s.1 58 18)) + x3), .null, .null] [] (am_hp sw p64) (fun _ => rfl) ?_
          exact hj76 (1, p64)
      refine sm_br 1 64 58 [.ref 58, .int x1, .int x2, .int x3, .int ((200 * (s.1 58 18)) + x3), .null, .null] [] (am_hp sw s) (fun _ => rfl) (fun _ => ?_) (fun _ => ?_)
      · exact hj64 s
      · refine sm_br 2 64 62 [.ref 58, .int x1, .int x2, .int x3, .int ((200 * (s.1 58 18)) + x3), .null, .null] [] (am_hp sw s) (fun _ => rfl) (fun _ => ?_) (fun _ => ?_)
        · exact hj64 s
        · exact sm_ret 1 63 [.ref 58, .int x1, .int x2, .int x3, .int ((200 * (s.1 58 18)) + x3), .null, .null] [.int (1)] (am_hp sw s) (some (.int (1))) (fun _ => rfl) rfl (fun _ _ h => h)
    · refine sm_fg [.null, .null, .int x2, .null, .null, .null, .null] ⟨Or.inl rfl, Or.inl rfl, Or.inr rfl, Or.inl rfl, Or.inl rfl, Or.inl rfl, Or.inl rfl, trivial⟩ ?_
      exact sm_ex (fun _ _ h => h.2)

set_option maxRecDepth 20000 in
theorem r_X12_holds (d : Nat) (sw : Bool) (s s' : am_S) (x1 : Int32) (v : Int32) (e : f_X12_holds s x1 = some (v, s')) : am_Run (d + 2) 168 [.ref 58, .int x1] (am_hp sw s) (am_cI v) (am_hp sw s') := by
  refine am_Run.of (M := mt_X12_holds) (cvf := am_cI) (X := f_X12_holds s x1) rfl rfl rfl (by simp) ?_ e
  unfold f_X12_holds
  show am_Sm tb_X12_holds 12 false none (some .boolean) (d + 1) (am_po am_cI sw) _ 0 [.ref 58, .int x1, .null, .null, .null, .null, .null] [] (am_hp sw s)
  refine sm_iald 3 5 [.ref 58, .int x1, .null, .null, .null, .null, .null] [] (am_hp sw s) (i := x1) (c := 70) (fun _ => rfl) rfl rfl rfl rfl ?_
  refine sm_iald 3 11 [.ref 58, .int x1, .null, .null, .null, .null, .null] [.int (s.1 70 (Int32.toNatClampNeg x1))] (am_hp sw s) (i := x1) (c := 71) (fun _ => rfl) rfl rfl rfl rfl ?_
  refine sm_br 1 15 17 [.ref 58, .int x1, .null, .null, .null, .null, .null] [] (am_hp sw s) (fun _ => rfl) (fun _ => ?_) (fun _ => ?_)
  · exact sm_ret 1 16 [.ref 58, .int x1, .null, .null, .null, .null, .null] [.int (1)] (am_hp sw s) (some (.int (1))) (fun _ => rfl) rfl (fun _ _ h => h)
  · refine sm_iald 5 24 [.ref 58, .int x1, .int (0), .null, .null, .null, .null] [] (am_hp sw s) (i := x1) (c := 70) (fun _ => rfl) rfl rfl rfl rfl ?_
    refine sm_go 1 26 [.ref 58, .int x1, .int (0), .int (s.1 70 (Int32.toNatClampNeg x1)), .null, .null, .null] [] (am_hp sw s) (fun _ => rfl) ?_
    refine sm_lp 219 (fun y26 => [.null, .null, .int y26, .null, .null, .null, .null]) (l_X12_holds_26 d sw am_FU x1 (0) (s.1 70 (Int32.toNatClampNeg x1)) s) (fun _ _ _ h => h) am_po20 (fun y26 s26 => ?_)
    refine sm_gu (fun h9 => ?_)
    exact sm_ret 1 220 [.null, .null, .int y26, .null, .null, .null, .null] [.int y26] (am_hp sw s26) (some (.int y26)) (fun _ => rfl) (am_rtb h9) (fun _ _ h => h)

def f_X12_says_L15 : Nat → Int32 → Int32 → am_S → Option ((Int32 × am_S) ⊕ ((Unit) × am_S))
  | 0, _, _, _ => none
  | n + 1, x1, x4, s => am_gu (am_in (s.1 58 18) 2) (if x4 < ((20 * (s.1 58 18)) + (s.1 66 (Int32.toNatClampNeg (s.1 58 18)))) then (am_gu (am_in x4 40) (am_jn (fun (p76 : am_S) => f_X12_says_L15 n x1 (x4 + 1) p76) (fun j76 => if (s.1 67 (Int32.toNatClampNeg x4)) = x1 then (am_bd (f_X12_holds s x4) (fun v51 s51 => if v51 = 0 then (j76 s51) else (am_gu (am_in x4 40) (am_gu (am_in x4 40) (am_bd (f_X12_value s51 (s51.1 68 (Int32.toNatClampNeg x4)) (s51.1 69 (Int32.toNatClampNeg x4))) (fun v72 s72 => some (.inl (v72, s72)))))))) else (j76 s)))) else (some (.inr ((), s))))
def f_X12_says (s : am_S) (x1 : Int32) (x2 : Int32) (x3 : Int32) : Option (Int32 × am_S) := am_bd (f_X12_asks s x2 x3) (fun (_ : Unit) s3 => am_lp (fun y => y) (f_X12_says_L15 am_FU x1 (20 * (s3.1 58 18)) s3) (fun (_ : Unit) s15 => some ((0), s15)))
set_option maxRecDepth 20000 in
theorem l_X12_says_15 (d : Nat) (sw : Bool) : ∀ (n : Nat) (x1 : Int32) (x4 : Int32) (s : am_S), am_Sm tb_X12_says 12 false none (some .int) (d + 2) (am_pl am_cI sw (fun (v9 : Unit) s9 r h9 => am_Ex tb_X12_says 12 false none (some .int) (d + 2) r h9 82 [.null, .null, .null, .null, .null] [] (am_hp sw s9))) (f_X12_says_L15 n x1 x4 s) 15 [.ref 58, .int x1, .null, .null, .int x4] [] (am_hp sw s) := by
  intro n
  induction n with
  | zero => intro x1 x4 s; exact sm_no
  | succ n ih =>
    intro x1 x4 s
    rw [f_X12_says_L15]
    refine sm_iald 9 32 [.ref 58, .int x1, .null, .null, .int x4] [.int (20 * (s.1 58 18)), .int x4] (am_hp sw s) (i := (s.1 58 18)) (c := 66) (fun _ => rfl) rfl rfl rfl rfl ?_
    refine sm_br 2 37 82 [.ref 58, .int x1, .null, .null, .int x4] [] (am_hp sw s) (fun _ => rfl) (fun _ => ?_) (fun _ => ?_)
    · refine sm_iald 3 43 [.ref 58, .int x1, .null, .null, .int x4] [] (am_hp sw s) (i := x4) (c := 67) (fun _ => rfl) rfl rfl rfl rfl ?_
      refine sm_go 1 45 [.ref 58, .int x1, .null, .null, .int x4] [.int x1, .int (s.1 67 (Int32.toNatClampNeg x4))] (am_hp sw s) (fun _ => rfl) ?_
      refine sm_jn 76 (fun p76 => [.ref 58, .int x1, .null, .null, .int x4]) (fun p76 => []) (fun p76 => (am_hp sw p76)) (fun p76 => ?_) (fun j76 hj76 => ?_)
      · refine sm_go 2 15 [.ref 58, .int x1, .null, .null, .int (x4 + 1)] [] (am_hp sw p76) (fun _ => rfl) ?_
        exact ih x1 (x4 + 1) p76
      refine sm_br 1 48 76 [.ref 58, .int x1, .null, .null, .int x4] [] (am_hp sw s) (fun _ => rfl) (fun _ => ?_) (fun _ => ?_)
      · refine sm_call (cvf := am_cI) 2 51 [.ref 58, .int x1, .null, .null, .int x4] [.int x4, .ref 58] sw s 168 [.ref 58, .int x4] [] (fun _ => rfl) rfl (fun _ _ e9 => r_X12_holds (d + 0) sw _ _ _ _ e9) am_pl20 (fun v51 s51 => ?_)
        refine sm_br 1 76 57 [.ref 58, .int x1, .null, .null, .int x4] [] (am_hp sw s51) (fun _ => rfl) (fun _ => ?_) (fun _ => ?_)
        · exact hj76 s51
        · refine sm_iald 4 64 [.ref 58, .int x1, .null, .null, .int x4] [.ref 58] (am_hp sw s51) (i := x4) (c := 68) (fun _ => rfl) rfl rfl rfl rfl ?_
          refine sm_iald 3 71 [.ref 58, .int x1, .null, .null, .int x4] [.int (s51.1 68 (Int32.toNatClampNeg x4)), .ref 58] (am_hp sw s51) (i := x4) (c := 69) (fun _ => rfl) rfl rfl rfl rfl ?_
          refine sm_call (cvf := am_cI) 0 72 [.ref 58, .int x1, .null, .null, .int x4] [.int (s51.1 69 (Int32.toNatClampNeg x4)), .int (s51.1 68 (Int32.toNatClampNeg x4)), .ref 58] sw s51 167 [.ref 58, .int (s51.1 68 (Int32.toNatClampNeg x4)), .int (s51.1 69 (Int32.toNatClampNeg x4))] [] (fun _ => rfl) rfl (fun _ _ e9 => r_X12_value (d + 1) sw _ _ _ _ _ e9) am_pl20 (fun v72 s72 => ?_)
          exact sm_ret 0 75 [.ref 58, .int x1, .null, .null, .int x4] [.int v72] (am_hp sw s72) (some (.int v72)) (fun _ => rfl) rfl (fun _ _ h => h)
      · exact hj76 s
    · refine sm_fg [.null, .null, .null, .null, .null] ⟨Or.inl rfl, Or.inl rfl, Or.inl rfl, Or.inl rfl, Or.inl rfl, trivial⟩ ?_
      exact sm_ex (fun _ _ h => h.2)

set_option maxRecDepth 20000 in
theorem r_X12_says (d : Nat) (sw : Bool) (s s' : am_S) (x1 : Int32) (x2 : Int32) (x3 : Int32) (v : Int32) (e : f_X12_says s x1 x2 x3 = some (v, s')) : am_Run (d + 3) 169 [.ref 58, .int x1, .int x2, .int x3] (am_hp sw s) (am_cI v) (am_hp sw s') := by
  refine am_Run.of (M := mt_X12_says) (cvf := am_cI) (X := f_X12_says s x1 x2 x3) rfl rfl rfl (by simp) ?_ e
  unfold f_X12_says
  show am_Sm tb_X12_says 12 false none (some .int) (d + 2) (am_po am_cI sw) _ 0 [.ref 58, .int x1, .int x2, .int x3, .null] [] (am_hp sw s)
  refine sm_call (cvf := am_cU) 3 3 [.ref 58, .int x1, .int x2, .int x3, .null] [.int x3, .int x2, .ref 58] sw s 166 [.ref 58, .int x2, .int x3] [] (fun _ => rfl) rfl (fun _ _ e9 => r_X12_asks (d + 1) sw _ _ _ _ _ e9) am_po20 (fun _v s3 => ?_)
  refine sm_go 5 15 [.ref 58, .int x1, .int x2, .int x3, .int (20 * (s3.1 58 18))] [] (am_hp sw s3) (fun _ => rfl) ?_
  refine sm_fg [.ref 58, .int x1, .null, .null, .int (20 * (s3.1 58 18))] ⟨Or.inr rfl, Or.inr rfl, Or.inl rfl, Or.inl rfl, Or.inr rfl, trivial⟩ ?_
  refine sm_lp 82 (fun _y => [.null, .null, .null, .null, .null]) (l_X12_says_15 d sw am_FU x1 (20 * (s3.1 58 18)) s3) (fun _ _ _ h => h) am_po20 (fun _y s15 => ?_)
  exact sm_ret 1 83 [.null, .null, .null, .null, .null] [.int (0)] (am_hp sw s15) (some (.int (0))) (fun _ => rfl) rfl (fun _ _ h => h)

def f_X12_isBarred_L14 : Nat → Int32 → am_S → Option ((Int32 × am_S) ⊕ ((Unit) × am_S))
  | 0, _, _ => none
  | n + 1, x3, s => am_gu (am_in (s.1 58 18) 2) (if x3 < ((20 * (s.1 58 18)) + (s.1 66 (Int32.toNatClampNeg (s.1 58 18)))) then (am_gu (am_in x3 40) (am_jn (fun (p55 : am_S) => f_X12_isBarred_L14 n (x3 + 1) p55) (fun j55 => if (s.1 67 (Int32.toNatClampNeg x3)) = 1 then (am_bd (f_X12_holds s x3) (fun v47 s47 => if v47 = 0 then (j55 s47) else (some (.inl ((1), s47))))) else (j55 s)))) else (some (.inr ((), s))))
def f_X12_isBarred (s : am_S) (x1 : Int32) (x2 : Int32) : Option (Int32 × am_S) := am_bd (f_X12_asks s x1 x2) (fun (_ : Unit) s3 => am_lp (fun y => y) (f_X12_isBarred_L14 am_FU (20 * (s3.1 58 18)) s3) (fun (_ : Unit) s14 => some ((0), s14)))
set_option maxRecDepth 20000 in
theorem l_X12_isBarred_14 (d : Nat) (sw : Bool) : ∀ (n : Nat) (x3 : Int32) (s : am_S), am_Sm tb_X12_isBarred 12 false none (some .boolean) (d + 2) (am_pl am_cI sw (fun (v9 : Unit) s9 r h9 => am_Ex tb_X12_isBarred 12 false none (some .boolean) (d + 2) r h9 61 [.null, .null, .null, .null] [] (am_hp sw s9))) (f_X12_isBarred_L14 n x3 s) 14 [.ref 58, .null, .null, .int x3] [] (am_hp sw s) := by
  intro n
  induction n with
  | zero => intro x3 s; exact sm_no
  | succ n ih =>
    intro x3 s
    rw [f_X12_isBarred_L14]
    refine sm_iald 9 30 [.ref 58, .null, .null, .int x3] [.int (20 * (s.1 58 18)), .int x3] (am_hp sw s) (i := (s.1 58 18)) (c := 66) (fun _ => rfl) rfl rfl rfl rfl ?_
    refine sm_br 2 35 61 [.ref 58, .null, .null, .int x3] [] (am_hp sw s) (fun _ => rfl) (fun _ => ?_) (fun _ => ?_)
    · refine sm_iald 3 40 [.ref 58, .null, .null, .int x3] [] (am_hp sw s) (i := x3) (c := 67) (fun _ => rfl) rfl rfl rfl rfl ?_
      refine sm_go 1 42 [.ref 58, .null, .null, .int x3] [.int (1), .int (s.1 67 (Int32.toNatClampNeg x3))] (am_hp sw s) (fun _ => rfl) ?_
      refine sm_jn 55 (fun p55 => [.ref 58, .null, .null, .int x3]) (fun p55 => []) (fun p55 => (am_hp sw p55)) (fun p55 => ?_) (fun j55 hj55 => ?_)
      · refine sm_go 2 14 [.ref 58, .null, .null, .int (x3 + 1)] [] (am_hp sw p55) (fun _ => rfl) ?_
        exact ih (x3 + 1) p55
      refine sm_br 1 45 55 [.ref 58, .null, .null, .int x3] [] (am_hp sw s) (fun _ => rfl) (fun _ => ?_) (fun _ => ?_)
      · refine sm_call (cvf := am_cI) 2 47 [.ref 58, .null, .null, .int x3] [.int x3, .ref 58] sw s 168 [.ref 58, .int x3] [] (fun _ => rfl) rfl (fun _ _ e9 => r_X12_holds (d + 0) sw _ _ _ _ e9) am_pl20 (fun v47 s47 => ?_)
        refine sm_br 1 55 53 [.ref 58, .null, .null, .int x3] [] (am_hp sw s47) (fun _ => rfl) (fun _ => ?_) (fun _ => ?_)
        · exact hj55 s47
        · exact sm_ret 1 54 [.ref 58, .null, .null, .int x3] [.int (1)] (am_hp sw s47) (some (.int (1))) (fun _ => rfl) rfl (fun _ _ h => h)
      · exact hj55 s
    · refine sm_fg [.null, .null, .null, .null] ⟨Or.inl rfl, Or.inl rfl, Or.inl rfl, Or.inl rfl, trivial⟩ ?_
      exact sm_ex (fun _ _ h => h.2)

set_option maxRecDepth 20000 in
theorem r_X12_isBarred (d : Nat) (sw : Bool) (s s' : am_S) (x1 : Int32) (x2 : Int32) (v : Int32) (e : f_X12_isBarred s x1 x2 = some (v, s')) : am_Run (d + 3) 170 [.ref 58, .int x1, .int x2] (am_hp sw s) (am_cI v) (am_hp sw s') := by
  refine am_Run.of (M := mt_X12_isBarred) (cvf := am_cI) (X := f_X12_isBarred s x1 x2) rfl rfl rfl (by simp) ?_ e
  unfold f_X12_isBarred
  show am_Sm tb_X12_isBarred 12 false none (some .boolean) (d + 2) (am_po am_cI sw) _ 0 [.ref 58, .int x1, .int x2, .null] [] (am_hp sw s)
  refine sm_call (cvf := am_cU) 3 3 [.ref 58, .int x1, .int x2, .null] [.int x2, .int x1, .ref 58] sw s 166 [.ref 58, .int x1, .int x2] [] (fun _ => rfl) rfl (fun _ _ e9 => r_X12_asks (d + 1) sw _ _ _ _ _ e9) am_po20 (fun _v s3 => ?_)
  refine sm_go 5 14 [.ref 58, .int x1, .int x2, .int (20 * (s3.1 58 18))] [] (am_hp sw s3) (fun _ => rfl) ?_
  refine sm_fg [.ref 58, .null, .null, .int (20 * (s3.1 58 18))] ⟨Or.inr rfl, Or.inl rfl, Or.inl rfl, Or.inr rfl, trivial⟩ ?_
  refine sm_lp 61 (fun _y => [.null, .null, .null, .null]) (l_X12_isBarred_14 d sw am_FU (20 * (s3.1 58 18)) s3) (fun _ _ _ h => h) am_po20 (fun _y s14 => ?_)
  exact sm_ret 1 62 [.null, .null, .null, .null] [.int (0)] (am_hp sw s14) (some (.int (0))) (fun _ => rfl) rfl (fun _ _ h => h)

def f_X12_give_L58 : Nat → Int32 → Int32 → Int32 → Int32 → Int32 → Int32 → am_S → Option ((Int32 × am_S) ⊕ ((Int32) × am_S))
  | 0, _, _, _, _, _, _, _ => none
  | n + 1, x1, x2, x3, x4, x5, x6, s => if x6 < (s.1 58 41) then (am_bd (f_X12_mayCarve s x6 x3 (s.1 58 51)) (fun v75 s75 => am_jn (fun (p128 : Int32 × Int32 × am_S) => f_X12_give_L58 n x1 x2 x3 p128.1 p128.2.1 (x6 + 1) p128.2.2) (fun j128 => if v75 = 0 then (j128 (x4, x5, s75)) else (am_bd (f_X12_isBarred s75 x6 x3) (fun v85 s85 => if v85 = 0 then (am_bd (f_X12_says s85 (0) x6 x3) (fun v99 s99 => am_jn (fun (p120 : am_S) => j128 (x6, v99, p120)) (fun j120 => if x4 = (-1) then (j120 s99) else (if x5 < v99 then (j120 s99) else (j128 (x4, x5, s99)))))) else (j128 (x4, x5, s85))))))) else (some (.inr (x4, s)))
def f_X12_give_L164 : Nat → Int32 → Int32 → Int32 → Int32 → Int32 → am_S → Option ((Int32 × am_S) ⊕ ((Unit) × am_S))
  | 0, _, _, _, _, _, _ => none
  | n + 1, x1, x2, x3, x4, x6, s => am_gu (am_in x3 8) (if x6 < (s.1 82 (Int32.toNatClampNeg x3)) then (am_gu (am_in (s.1 58 66) 400) (am_gu (am_in (s.1 58 66) 400) (am_gu (am_in (s.1 58 66) 400) (am_gu (am_in (s.1 58 66) 400) (am_gu (am_in (s.1 58 66) 400) (f_X12_give_L164 n x1 x2 x3 x4 (x6 + 1) (am_wI (am_wI (am_wI (am_wI (am_wI (am_wI s 104 (Int32.toNatClampNeg (s.1 58 66)) x2) 105 (Int32.toNatClampNeg (s.1 58 66)) (-1)) 106 (Int32.toNatClampNeg (s.1 58 66)) (-1)) 107 (Int32.toNatClampNeg (s.1 58 66)) (0)) 108 (Int32.toNatClampNeg (s.1 58 66)) (s.1 58 51)) 58 66 ((s.1 58 66) + 1)))))))) else (some (.inr ((), s))))
def f_X12_give_L4 : Nat → Int32 → Int32 → am_S → Option ((Int32 × am_S) ⊕ ((Int32) × am_S))
  | 0, _, _, _ => none
  | n + 1, x1, x2, s => if x2 < (s.1 58 55) then (am_gu (am_in x2 200) (am_gu (am_in x2 200) (am_jn (fun (p271 : Int32 × am_S) => f_X12_give_L4 n p271.1 (x2 + 1) p271.2) (fun j271 => if (s.1 97 (Int32.toNatClampNeg x2)) = (-1) then (am_gu (am_in (s.1 96 (Int32.toNatClampNeg x2)) 8) (if 400 < ((s.1 58 66) + (s.1 82 (Int32.toNatClampNeg (s.1 96 (Int32.toNatClampNeg x2))))) then (j271 (x1, s)) else (am_lp Sum.inl (f_X12_give_L58 am_FU x1 x2 (s.1 96 (Int32.toNatClampNeg x2)) (-1) (0) (0) s) (fun y58 s58 => if y58 = (-1) then (j271 (x1, s58)) else (am_gu (am_in x2 200) (am_gu (am_in x2 200) (am_lp Sum.inl (f_X12_give_L164 am_FU x1 x2 (s.1 96 (Int32.toNatClampNeg x2)) y58 (0) (am_wI (am_wI s58 97 (Int32.toNatClampNeg x2) y58) 98 (Int32.toNatClampNeg x2) (s58.1 58 66))) (fun (_ : Unit) s164 => am_gu (am_in ((40 * y58) + (s164.1 58 51)) 320) (am_gu (am_in (s.1 96 (Int32.toNatClampNeg x2)) 8) (am_gu (am_in ((40 * y58) + (s164.1 58 51)) 320) (j271 ((x1 + 1), (am_wI s164 92 (Int32.toNatClampNeg ((40 * y58) + (s164.1 58 51))) ((s164.1 92 (Int32.toNatClampNeg ((40 * y58) + (s164.1 58 51)))) + (s164.1 82 (Int32.toNatClampNeg (s.1 96 (Int32.toNatClampNeg x2)))))))))))))))))) else (j271 (x1, s)))))) else (some (.inr (x1, s)))
def f_X12_give (s : am_S) : Option (Int32 × am_S) := am_lp (fun y => y) (f_X12_give_L4 am_FU (0) (0) s) (fun y4 s4 => some (y4, s4))
set_option maxRecDepth 20000 in
theorem l_X12_give_58 (d : Nat) (sw : Bool) : ∀ (n : Nat) (x1 : Int32) (x2 : Int32) (x3 : Int32) (x4 : Int32) (x5 : Int32) (x6 : Int32) (s : am_S), am_Sm tb_X12_give 12 false none (some .int) (d + 3) (am_pl am_cI sw (fun (v9 : Int32) s9 r h9 => am_Ex tb_X12_give 12 false none (some .int) (d + 3) r h9 134 [.ref 58, .int x1, .int x2, .int x3, .int v9, .null, .null, .null] [] (am_hp sw s9))) (f_X12_give_L58 n x1 x2 x3 x4 x5 x6 s) 58 [.ref 58, .int x1, .int x2, .int x3, .int x4, .int x5, .int x6, .null] [] (am_hp sw s) := by
  intro n
  induction n with
  | zero => intro x1 x2 x3 x4 x5 x6 s; exact sm_no
  | succ n ih =>
    intro x1 x2 x3 x4 x5 x6 s
    rw [f_X12_give_L58]
    refine sm_br 4 67 134 [.ref 58, .int x1, .int x2, .int x3, .int x4, .int x5, .int x6, .null] [] (am_hp sw s) (fun _ => rfl) (fun _ => ?_) (fun _ => ?_)
    · refine sm_call (cvf := am_cI) 5 75 [.ref 58, .int x1, .int x2, .int x3, .int x4, .int x5, .int x6, .null] [.int (s.1 58 51), .int x3, .int x6, .ref 58] sw s 161 [.ref 58, .int x6, .int x3, .int (s.1 58 51)] [] (fun _ => rfl) rfl (fun _ _ e9 => r_X12_mayCarve (d + 2) sw _ _ _ _ _ _ e9) am_pl20 (fun v75 s75 => ?_)
      refine sm_jn 128 (fun p128 => [.ref 58, .int x1, .int x2, .int x3, .int p128.1, .int p128.2.1, .int x6, .null]) (fun p128 => []) (fun p128 => (am_hp sw p128.2.2)) (fun p128 => ?_) (fun j128 hj128 => ?_)
      · refine sm_go 2 58 [.ref 58, .int x1, .int x2, .int x3, .int p128.1, .int p128.2.1, .int (x6 + 1), .null] [] (am_hp sw p128.2.2) (fun _ => rfl) ?_
        exact ih x1 x2 x3 p128.1 p128.2.1 (x6 + 1) p128.2.2
      refine sm_br 1 128 81 [.ref 58, .int x1, .int x2, .int x3, .int x4, .int x5, .int x6, .null] [] (am_hp sw s75) (fun _ => rfl) (fun _ => ?_) (fun _ => ?_)
      · exact hj128 (x4, x5, s75)
      · refine sm_call (cvf := am_cI) 3 85 [.ref 58, .int x1, .int x2, .int x3, .int x4, .int x5, .int x6, .null] [.int x3, .int x6, .ref 58] sw s75 170 [.ref 58, .int x6, .int x3] [] (fun _ => rfl) rfl (fun _ _ e9 => r_X12_isBarred (d + 0) sw _ _ _ _ _ e9) am_pl20 (fun v85 s85 => ?_)
        refine sm_br 1 94 91 [.ref 58, .int x1, .int x2, .int x3, .int x4, .int x5, .int x6, .null] [] (am_hp sw s85) (fun _ => rfl) (fun _ => ?_) (fun _ => ?_)
        · refine sm_call (cvf := am_cI) 4 99 [.ref 58, .int x1, .int x2, .int x3, .int x4, .int x5, .int x6, .null] [.int x3, .int x6, .int (0), .ref 58] sw s85 169 [.ref 58, .int (0), .int x6, .int x3] [] (fun _ => rfl) rfl (fun _ _ e9 => r_X12_says (d + 0) sw _ _ _ _ _ _ e9) am_pl20 (fun v99 s99 => ?_)
          refine sm_go 3 107 [.ref 58, .int x1, .int x2, .int x3, .int x4, .int x5, .int x6, .int v99] [.int (-1), .int x4] (am_hp sw s99) (fun _ => rfl) ?_
          refine sm_jn 120 (fun p120 => [.ref 58, .int x1, .int x2, .int x3, .null, .null, .int x6, .int v99]) (fun p120 => []) (fun p120 => (am_hp sw p120)) (fun p120 => ?_) (fun j120 hj120 => ?_)
          · refine sm_go 4 128 [.ref 58, .int x1, .int x2, .int x3, .int x6, .int v99, .int x6, .int v99] [] (am_hp sw p120) (fun _ => rfl) ?_
            refine sm_fg [.ref 58, .int x1, .int x2, .int x3, .int x6, .int v99, .int x6, .null] ⟨Or.inr rfl, Or.inr rfl, Or.inr rfl, Or.inr rfl, Or.inr rfl, Or.inr rfl, Or.inr rfl, Or.inl rfl, trivial⟩ ?_
            exact hj128 (x6, v99, p120)
          refine sm_br 1 120 110 [.ref 58, .int x1, .int x2, .int x3, .int x4, .int x5, .int x6, .int v99] [] (am_hp sw s99) (fun _ => rfl) (fun _ => ?_) (fun _ => ?_)
          · refine sm_fg [.ref 58, .int x1, .int x2, .int x3, .null, .null, .int x6, .int v99] ⟨Or.inr rfl, Or.inr rfl, Or.inr rfl, Or.inr rfl, Or.inl rfl, Or.inl rfl, Or.inr rfl, Or.inr rfl, trivial⟩ ?_
            exact hj120 s99
          · refine sm_br 3 120 117 [.ref 58, .int x1, .int x2, .int x3, .int x4, .int x5, .int x6, .int v99] [] (am_hp sw s99) (fun _ => rfl) (fun _ => ?_) (fun _ => ?_)
            · refine sm_fg [.ref 58, .int x1, .int x2, .int x3, .null, .null, .int x6, .int v99] ⟨Or.inr rfl, Or.inr rfl, Or.inr rfl, Or.inr rfl, Or.inl rfl, Or.inl rfl, Or.inr rfl, Or.inr rfl, trivial⟩ ?_
              exact hj120 s99
            · refine sm_go 1 128 [.ref 58, .int x1, .int x2, .int x3, .int x4, .int x5, .int x6, .int v99] [] (am_hp sw s99) (fun _ => rfl) ?_
              refine sm_fg [.ref 58, .int x1, .int x2, .int x3, .int x4, .int x5, .int x6, .null] ⟨Or.inr rfl, Or.inr rfl, Or.inr rfl, Or.inr rfl, Or.inr rfl, Or.inr rfl, Or.inr rfl, Or.inl rfl, trivial⟩ ?_
              exact hj128 (x4, x5, s99)
        · refine sm_go 1 128 [.ref 58, .int x1, .int x2, .int x3, .int x4, .int x5, .int x6, .null] [] (am_hp sw s85) (fun _ => rfl) ?_
          exact hj128 (x4, x5, s85)
    · refine sm_fg [.ref 58, .int x1, .int x2, .int x3, .int x4, .null, .null, .null] ⟨Or.inr rfl, Or.inr rfl, Or.inr rfl, Or.inr rfl, Or.inr rfl, Or.inl rfl, Or.inl rfl, Or.inl rfl, trivial⟩ ?_
      exact sm_ex (fun _ _ h => h.2)

set_option maxRecDepth 20000 in
theorem l_X12_give_164 (d : Nat) (sw : Bool) : ∀ (n : Nat) (x1 : Int32) (x2 : Int32) (x3 : Int32) (x4 : Int32) (x6 : Int32) (s : am_S), am_Sm tb_X12_give 12 false none (some .int) (d + 3) (am_pl am_cI sw (fun (v9 : Unit) s9 r h9 => am_Ex tb_X12_give 12 false none (some .int) (d + 3) r h9 244 [.ref 58, .int x1, .int x2, .int x3, .int x4, .null, .null, .null] [] (am_hp sw s9))) (f_X12_give_L164 n x1 x2 x3 x4 x6 s) 164 [.ref 58, .int x1, .int x2, .int x3, .int x4, .null, .int x6, .null] [] (am_hp sw s) := by
  intro n
  induction n with
  | zero => intro x1 x2 x3 x4 x6 s; exact sm_no
  | succ n ih =>
    intro x1 x2 x3 x4 x6 s
    rw [f_X12_give_L164]
    refine sm_iald 4 171 [.ref 58, .int x1, .int x2, .int x3, .int x4, .null, .int x6, .null] [.int x6] (am_hp sw s) (i := x3) (c := 82) (fun _ => rfl) rfl rfl rfl rfl ?_
    refine sm_br 1 175 244 [.ref 58, .int x1, .int x2, .int x3, .int x4, .null, .int x6, .null] [] (am_hp sw s) (fun _ => rfl) (fun _ => ?_) (fun _ => ?_)
    · refine sm_iast 5 184 [.ref 58, .int x1, .int x2, .int x3, .int x4, .null, .int x6, .null] [] sw s (i := (s.1 58 66)) (x := x2) (c := 104) (fun _ => rfl) rfl rfl rfl ?_
      refine sm_iast 5 194 [.ref 58, .int x1, .int x2, .int x3, .int x4, .null, .int x6, .null] [] sw (am_wI s 104 (Int32.toNatClampNeg (s.1 58 66)) x2) (i := (s.1 58 66)) (x := (-1)) (c := 105) (fun _ => rfl) rfl rfl rfl ?_
      refine sm_iast 5 204 [.ref 58, .int x1, .int x2, .int x3, .int x4, .null, .int x6, .null] [] sw (am_wI (am_wI s 104 (Int32.toNatClampNeg (s.1 58 66)) x2) 105 (Int32.toNatClampNeg (s.1 58 66)) (-1)) (i := (s.1 58 66)) (x := (-1)) (c := 106) (fun _ => rfl) rfl rfl rfl ?_
      refine sm_iast 5 214 [.ref 58, .int x1, .int x2, .int x3, .int x4, .null, .int x6, .null] [] sw (am_wI (am_wI (am_wI s 104 (Int32.toNatClampNeg (s.1 58 66)) x2) 105 (Int32.toNatClampNeg (s.1 58 66)) (-1)) 106 (Int32.toNatClampNeg (s.1 58 66)) (-1)) (i := (s.1 58 66)) (x := (0)) (c := 107) (fun _ => rfl) rfl rfl rfl ?_
      refine sm_iast 6 227 [.ref 58, .int x1, .int x2, .int x3, .int x4, .null, .int x6, .null] [] sw (am_wI (am_wI (am_wI (am_wI s 104 (Int32.toNatClampNeg (s.1 58 66)) x2) 105 (Int32.toNatClampNeg (s.1 58 66)) (-1)) 106 (Int32.toNatClampNeg (s.1 58 66)) (-1)) 107 (Int32.toNatClampNeg (s.1 58 66)) (0)) (i := (s.1 58 66)) (x := (s.1 58 51)) (c := 108) (fun _ => rfl) rfl rfl rfl ?_
      refine sm_go 8 164 [.ref 58, .int x1, .int x2, .int x3, .int x4, .null, .int (x6 + 1), .null] [] (am_hp sw (am_wI (am_wI (am_wI (am_wI (am_wI (am_wI s 104 (Int32.toNatClampNeg (s.1 58 66)) x2) 105 (Int32.toNatClampNeg (s.1 58 66)) (-1)) 106 (Int32.toNatClampNeg (s.1 58 66)) (-1)) 107 (Int32.toNatClampNeg (s.1 58 66)) (0)) 108 (Int32.toNatClampNeg (s.1 58 66)) (s.1 58 51)) 58 66 ((s.1 58 66) + 1))) (fun _ => rfl) ?_
      exact ih x1 x2 x3 x4 (x6 + 1) (am_wI (am_wI (am_wI (am_wI (am_wI (am_wI s 104 (Int32.toNatClampNeg (s.1 58 66)) x2) 105 (Int32.toNatClampNeg (s.1 58 66)) (-1)) 106 (Int32.toNatClampNeg (s.1 58 66)) (-1)) 107 (Int32.toNatClampNeg (s.1 58 66)) (0)) 108 (Int32.toNatClampNeg (s.1 58 66)) (s.1 58 51)) 58 66 ((s.1 58 66) + 1))
    · refine sm_fg [.ref 58, .int x1, .int x2, .int x3, .int x4, .null, .null, .null] ⟨Or.inr rfl, Or.inr rfl, Or.inr rfl, Or.inr rfl, Or.inr rfl, Or.inl rfl, Or.inl rfl, Or.inl rfl, trivial⟩ ?_
      exact sm_ex (fun _ _ h => h.2)

set_option maxRecDepth 20000 in
theorem l_X12_give_4 (d : Nat) (sw : Bool) : ∀ (n : Nat) (x1 : Int32) (x2 : Int32) (s : am_S), am_Sm tb_X12_give 12 false none (some .int) (d + 3) (am_pl am_cI sw (fun (v9 : Int32) s9 r h9 => am_Ex tb_X12_give 12 false none (some .int) (d + 3) r h9 277 [.null, .int v9, .null, .null, .null, .null, .null, .null] [] (am_hp sw s9))) (f_X12_give_L4 n x1 x2 s) 4 [.ref 58, .int x1, .int x2, .null, .null, .null, .null, .null] [] (am_hp sw s) := by
  intro n
  induction n with
  | zero => intro x1 x2 s; exact sm_no
  | succ n ih =>
    intro x1 x2 s
    rw [f_X12_give_L4]
    refine sm_br 4 12 277 [.ref 58, .int x1, .int x2, .null, .null, .null, .null, .null] [] (am_hp sw s) (fun _ => rfl) (fun _ => ?_) (fun _ => ?_)
    · refine sm_iald 3 17 [.ref 58, .int x1, .int x2, .null, .null, .null, .null, .null] [] (am_hp sw s) (i := x2) (c := 96) (fun _ => rfl) rfl rfl rfl rfl ?_
      refine sm_iald 4 24 [.ref 58, .int x1, .int x2, .int (s.1 96 (Int32.toNatClampNeg x2)), .null, .null, .null, .null] [] (am_hp sw s) (i := x2) (c := 97) (fun _ => rfl) rfl rfl rfl rfl ?_
      refine sm_go 1 26 [.ref 58, .int x1, .int x2, .int (s.1 96 (Int32.toNatClampNeg x2)), .null, .null, .null, .null] [.int (-1), .int (s.1 97 (Int32.toNatClampNeg x2))] (am_hp sw s) (fun _ => rfl) ?_
      refine sm_jn 271 (fun p271 => [.ref 58, .int p271.1, .int x2, .null, .null, .null, .null, .null]) (fun p271 => []) (fun p271 => (am_hp sw p271.2)) (fun p271 => ?_) (fun j271 hj271 => ?_)
      · refine sm_go 2 4 [.ref 58, .int p271.1, .int (x2 + 1), .null, .null, .null, .null, .null] [] (am_hp sw p271.2) (fun _ => rfl) ?_
        exact ih p271.1 (x2 + 1) p271.2
      refine sm_br 1 29 271 [.ref 58, .int x1, .int x2, .int (s.1 96 (Int32.toNatClampNeg x2)), .null, .null, .null, .null] [] (am_hp sw s) (fun _ => rfl) (fun _ => ?_) (fun _ => ?_)
      · refine sm_iald 5 38 [.ref 58, .int x1, .int x2, .int (s.1 96 (Int32.toNatClampNeg x2)), .null, .null, .null, .null] [.int (s.1 58 66)] (am_hp sw s) (i := (s.1 96 (Int32.toNatClampNeg x2))) (c := 82) (fun _ => rfl) rfl rfl rfl rfl ?_
        refine sm_br 3 46 49 [.ref 58, .int x1, .int x2, .int (s.1 96 (Int32.toNatClampNeg x2)), .null, .null, .null, .null] [] (am_hp sw s) (fun _ => rfl) (fun _ => ?_) (fun _ => ?_)
        · refine sm_go 1 271 [.ref 58, .int x1, .int x2, .int (s.1 96 (Int32.toNatClampNeg x2)), .null, .null, .null, .null] [] (am_hp sw s) (fun _ => rfl) ?_
          refine sm_fg [.ref 58, .int x1, .int x2, .null, .null, .null, .null, .null] ⟨Or.inr rfl, Or.inr rfl, Or.inr rfl, Or.inl rfl, Or.inl rfl, Or.inl rfl, Or.inl rfl, Or.inl rfl, trivial⟩ ?_
          exact hj271 (x1, s)
        · refine sm_go 6 58 [.ref 58, .int x1, .int x2, .int (s.1 96 (Int32.toNatClampNeg x2)), .int (-1), .int (0), .int (0), .null] [] (am_hp sw s) (fun _ => rfl) ?_
          refine sm_lp 134 (fun y58 => [.ref 58, .int x1, .int x2, .int (s.1 96 (Int32.toNatClampNeg x2)), .int y58, .null, .null, .null]) (l_X12_give_58 d sw am_FU x1 x2 (s.1 96 (Int32.toNatClampNeg x2)) (-1) (0) (0) s) (fun _ _ _ h => h) am_pl20 (fun y58 s58 => ?_)
          refine sm_br 3 140 143 [.ref 58, .int x1, .int x2, .int (s.1 96 (Int32.toNatClampNeg x2)), .int y58, .null, .null, .null] [] (am_hp sw s58) (fun _ => rfl) (fun _ => ?_) (fun _ => ?_)
          · refine sm_go 1 271 [.ref 58, .int x1, .int x2, .int (s.1 96 (Int32.toNatClampNeg x2)), .int y58, .null, .null, .null] [] (am_hp sw s58) (fun _ => rfl) ?_
            refine sm_fg [.ref 58, .int x1, .int x2, .null, .null, .null, .null, .null] ⟨Or.inr rfl, Or.inr rfl, Or.inr rfl, Or.inl rfl, Or.inl rfl, Or.inl rfl, Or.inl rfl, Or.inl rfl, trivial⟩ ?_
            exact hj271 (x1, s58)
          · refine sm_iast 4 150 [.ref 58, .int x1, .int x2, .int (s.1 96 (Int32.toNatClampNeg x2)), .int y58, .null, .null, .null] [] sw s58 (i := x2) (x := y58) (c := 97) (fun _ => rfl) rfl rfl rfl ?_
            refine sm_iast 5 160 [.ref 58, .int x1, .int x2, .int (s.1 96 (Int32.toNatClampNeg x2)), .int y58, .null, .null, .null] [] sw (am_wI s58 97 (Int32.toNatClampNeg x2) y58) (i := x2) (x := (s58.1 58 66)) (c := 98) (fun _ => rfl) rfl rfl rfl ?_
            refine sm_go 2 164 [.ref 58, .int x1, .int x2, .int (s.1 96 (Int32.toNatClampNeg x2)), .int y58, .null, .int (0), .null] [] (am_hp sw (am_wI (am_wI s58 97 (Int32.toNatClampNeg x2) y58) 98 (Int32.toNatClampNeg x2) (s58.1 58 66))) (fun _ => rfl) ?_
            refine sm_lp 244 (fun _y => [.ref 58, .int x1, .int x2, .int (s.1 96 (Int32.toNatClampNeg x2)), .int y58, .null, .null, .null]) (l_X12_give_164 d sw am_FU x1 x2 (s.1 96 (Int32.toNatClampNeg x2)) y58 (0) (am_wI (am_wI s58 97 (Int32.toNatClampNeg x2) y58) 98 (Int32.toNatClampNeg x2) (s58.1 58 66))) (fun _ _ _ h => h) am_pl20 (fun _y s164 => ?_)
            refine sm_iald 9 259 [.ref 58, .int x1, .int x2, .int (s.1 96 (Int32.toNatClampNeg x2)), .int y58, .null, .null, .null] [.int ((40 * y58) + (s164.1 58 51)), .ref 92] (am_hp sw s164) (i := ((40 * y58) + (s164.1 58 51))) (c := 92) (fun _ => rfl) rfl rfl rfl rfl ?_
            refine sm_iald 3 265 [.ref 58, .int x1, .int x2, .int (s.1 96 (Int32.toNatClampNeg x2)), .int y58, .null, .null, .null] [.int (s164.1 92 (Int32.toNatClampNeg ((40 * y58) + (s164.1 58 51)))), .int ((40 * y58) + (s164.1 58 51)), .ref 92] (am_hp sw s164) (i := (s.1 96 (Int32.toNatClampNeg x2))) (c := 82) (fun _ => rfl) rfl rfl rfl rfl ?_
            refine sm_iast 1 267 [.ref 58, .int x1, .int x2, .int (s.1 96 (Int32.toNatClampNeg x2)), .int y58, .null, .null, .null] [] sw s164 (i := ((40 * y58) + (s164.1 58 51))) (x := ((s164.1 92 (Int32.toNatClampNeg ((40 * y58) + (s164.1 58 51)))) + (s164.1 82 (Int32.toNatClampNeg (s.1 96 (Int32.toNatClampNeg x2)))))) (c := 92) (fun _ => rfl) rfl rfl rfl ?_
            refine sm_go 1 271 [.ref 58, .int (x1 + 1), .int x2, .int (s.1 96 (Int32.toNatClampNeg x2)), .int y58, .null, .null, .null] [] (am_hp sw (am_wI s164 92 (Int32.toNatClampNeg ((40 * y58) + (s164.1 58 51))) ((s164.1 92 (Int32.toNatClampNeg ((40 * y58) + (s164.1 58 51)))) + (s164.1 82 (Int32.toNatClampNeg (s.1 96 (Int32.toNatClampNeg x2))))))) (fun _ => rfl) ?_
            refine sm_fg [.ref 58, .int (x1 + 1), .int x2, .null, .null, .null, .null, .null] ⟨Or.inr rfl, Or.inr rfl, Or.inr rfl, Or.inl rfl, Or.inl rfl, Or.inl rfl, Or.inl rfl, Or.inl rfl, trivial⟩ ?_
            exact hj271 ((x1 + 1), (am_wI s164 92 (Int32.toNatClampNeg ((40 * y58) + (s164.1 58 51))) ((s164.1 92 (Int32.toNatClampNeg ((40 * y58) + (s164.1 58 51)))) + (s164.1 82 (Int32.toNatClampNeg (s.1 96 (Int32.toNatClampNeg x2)))))))
      · refine sm_fg [.ref 58, .int x1, .int x2, .null, .null, .null, .null, .null] ⟨Or.inr rfl, Or.inr rfl, Or.inr rfl, Or.inl rfl, Or.inl rfl, Or.inl rfl, Or.inl rfl, Or.inl rfl, trivial⟩ ?_
        exact hj271 (x1, s)
    · refine sm_fg [.null, .int x1, .null, .null, .null, .null, .null, .null] ⟨Or.inl rfl, Or.inr rfl, Or.inl rfl, Or.inl rfl, Or.inl rfl, Or.inl rfl, Or.inl rfl, Or.inl rfl, trivial⟩ ?_
      exact sm_ex (fun _ _ h => h.2)

set_option maxRecDepth 20000 in
theorem r_X12_give (d : Nat) (sw : Bool) (s s' : am_S) (v : Int32) (e : f_X12_give s = some (v, s')) : am_Run (d + 4) 171 [.ref 58] (am_hp sw s) (am_cI v) (am_hp sw s') := by
  refine am_Run.of (M := mt_X12_give) (cvf := am_cI) (X := f_X12_give s) rfl rfl rfl (by simp) ?_ e
  unfold f_X12_give
  show am_Sm tb_X12_give 12 false none (some .int) (d + 3) (am_po am_cI sw) _ 0 [.ref 58, .null, .null, .null, .null, .null, .null, .null] [] (am_hp sw s)
  refine sm_go 4 4 [.ref 58, .int (0), .int (0), .null, .null, .null, .null, .null] [] (am_hp sw s) (fun _ => rfl) ?_
  refine sm_lp 277 (fun y4 => [.null, .int y4, .null, .null, .null, .null, .null, .null]) (l_X12_give_4 d sw am_FU (0) (0) s) (fun _ _ _ h => h) am_po20 (fun y4 s4 => ?_)
  exact sm_ret 1 278 [.null, .int y4, .null, .null, .null, .null, .null, .null] [.int y4] (am_hp sw s4) (some (.int y4)) (fun _ => rfl) rfl (fun _ _ h => h)

def f_X12_lot (s : am_S) (x1 : Int32) : Option (Int32 × am_S) := if (s.1 58 72) = 20 then (some ((-1), s)) else (if x1 < 0 then (some ((-1), s)) else (if 4 < x1 then (some ((-1), s)) else (am_gu (am_in (s.1 58 72) 20) (some ((((s.1 58 72) + 1) - 1), (am_wI (am_wI s 109 (Int32.toNatClampNeg (s.1 58 72)) x1) 58 72 ((s.1 58 72) + 1)))))))
set_option maxRecDepth 20000 in
theorem r_X12_lot (d : Nat) (sw : Bool) (s s' : am_S) (x1 : Int32) (v : Int32) (e : f_X12_lot s x1 = some (v, s')) : am_Run (d + 1) 172 [.ref 58, .int x1] (am_hp sw s) (am_cI v) (am_hp sw s') := by
  refine am_Run.of (M := mt_X12_lot) (cvf := am_cI) (X := f_X12_lot s x1) rfl rfl rfl (by simp) ?_ e
  unfold f_X12_lot
  show am_Sm tb_X12_lot 12 false none (some .int) (d + 0) (am_po am_cI sw) _ 0 [.ref 58, .int x1] [] (am_hp sw s)
  refine sm_br 4 18 9 [.ref 58, .int x1] [] (am_hp sw s) (fun _ => rfl) (fun _ => ?_) (fun _ => ?_)
  · exact sm_ret 1 19 [.ref 58, .int x1] [.int (-1)] (am_hp sw s) (some (.int (-1))) (fun _ => rfl) rfl (fun _ _ h => h)
  · refine sm_br 2 18 13 [.ref 58, .int x1] [] (am_hp sw s) (fun _ => rfl) (fun _ => ?_) (fun _ => ?_)
    · exact sm_ret 1 19 [.ref 58, .int x1] [.int (-1)] (am_hp sw s) (some (.int (-1))) (fun _ => rfl) rfl (fun _ _ h => h)
    · refine sm_br 3 18 20 [.ref 58, .int x1] [] (am_hp sw s) (fun _ => rfl) (fun _ => ?_) (fun _ => ?_)
      · exact sm_ret 1 19 [.ref 58, .int x1] [.int (-1)] (am_hp sw s) (some (.int (-1))) (fun _ => rfl) rfl (fun _ _ h => h)
      · refine sm_iast 5 29 [.ref 58, .int x1] [] sw s (i := (s.1 58 72)) (x := x1) (c := 109) (fun _ => rfl) rfl rfl rfl ?_
        exact sm_ret 10 46 [.ref 58, .int x1] [.int (((s.1 58 72) + 1) - 1)] (am_hp sw (am_wI (am_wI s 109 (Int32.toNatClampNeg (s.1 58 72)) x1) 58 72 ((s.1 58 72) + 1))) (some (.int (((s.1 58 72) + 1) - 1))) (fun _ => rfl) rfl (fun _ _ h => h)

def f_X12_isFigure (s : am_S) (x1 : Int32) : Option (Int32 × am_S) := if x1 < 0 then (some ((0), s)) else (if x1 < (s.1 58 66) then (some ((1), s)) else (some ((0), s)))
set_option maxRecDepth 20000 in
theorem r_X12_isFigure (d : Nat) (sw : Bool) (s s' : am_S) (x1 : Int32) (v : Int32) (e : f_X12_isFigure s x1 = some (v, s')) : am_Run (d + 1) 173 [.ref 58, .int x1] (am_hp sw s) (am_cI v) (am_hp sw s') := by
  refine am_Run.of (M := mt_X12_isFigure) (cvf := am_cI) (X := f_X12_isFigure s x1) rfl rfl rfl (by simp) ?_ e
  unfold f_X12_isFigure
  show am_Sm tb_X12_isFigure 12 false none (some .boolean) (d + 0) (am_po am_cI sw) _ 0 [.ref 58, .int x1] [] (am_hp sw s)
  refine sm_br 2 16 4 [.ref 58, .int x1] [] (am_hp sw s) (fun _ => rfl) (fun _ => ?_) (fun _ => ?_)
  · exact sm_ret 1 17 [.ref 58, .int x1] [.int (0)] (am_hp sw s) (some (.int (0))) (fun _ => rfl) rfl (fun _ _ h => h)
  · refine sm_br 4 12 16 [.ref 58, .int x1] [] (am_hp sw s) (fun _ => rfl) (fun _ => ?_) (fun _ => ?_)
    · exact sm_ret 2 17 [.ref 58, .int x1] [.int (1)] (am_hp sw s) (some (.int (1))) (fun _ => rfl) rfl (fun _ _ h => h)
    · exact sm_ret 1 17 [.ref 58, .int x1] [.int (0)] (am_hp sw s) (some (.int (0))) (fun _ => rfl) rfl (fun _ _ h => h)

def f_X12_paint_L41 : Nat → Int32 → Int32 → Int32 → Int32 → am_S → Option ((Int32 × am_S) ⊕ ((Int32) × am_S))
  | 0, _, _, _, _, _ => none
  | n + 1, x1, x3, x4, x5, s => if x3 < x5 then (some (.inr (x4, s))) else (am_gu (am_in x5 400) (am_jn (fun (p83 : Int32 × am_S) => f_X12_paint_L41 n x1 x3 p83.1 (x5 + 1) p83.2) (fun j83 => if (s.1 105 (Int32.toNatClampNeg x5)) = (-1) then (am_gu (am_in x5 400) (if (s.1 106 (Int32.toNatClampNeg x5)) = (-1) then (am_gu (am_in x5 400) (j83 ((x4 + 1), (am_wI s 105 (Int32.toNatClampNeg x5) x1)))) else (j83 (x4, s)))) else (j83 (x4, s)))))
def f_X12_paint (s : am_S) (x1 : Int32) (x2 : Int32) (x3 : Int32) : Option (Int32 × am_S) := if x1 < 0 then (some ((-1), s)) else (if x1 < (s.1 58 72) then (am_bd (f_X12_isFigure s x2) (fun v14 s14 => if v14 = 0 then (some ((-1), s14)) else (am_bd (f_X12_isFigure s14 x3) (fun v22 s22 => if v22 = 0 then (some ((-1), s22)) else (if x3 < x2 then (some ((-1), s22)) else (am_lp (fun y => y) (f_X12_paint_L41 am_FU x1 x3 (0) x2 s22) (fun y41 s41 => some (y41, s41)))))))) else (some ((-1), s)))
set_option maxRecDepth 20000 in
theorem l_X12_paint_41 (d : Nat) (sw : Bool) : ∀ (n : Nat) (x1 : Int32) (x3 : Int32) (x4 : Int32) (x5 : Int32) (s : am_S), am_Sm tb_X12_paint 12 false none (some .int) (d + 1) (am_pl am_cI sw (fun (v9 : Int32) s9 r h9 => am_Ex tb_X12_paint 12 false none (some .int) (d + 1) r h9 89 [.null, .null, .null, .null, .int v9, .null] [] (am_hp sw s9))) (f_X12_paint_L41 n x1 x3 x4 x5 s) 41 [.ref 58, .int x1, .null, .int x3, .int x4, .int x5] [] (am_hp sw s) := by
  intro n
  induction n with
  | zero => intro x1 x3 x4 x5 s; exact sm_no
  | succ n ih =>
    intro x1 x3 x4 x5 s
    rw [f_X12_paint_L41]
    refine sm_br 3 89 47 [.ref 58, .int x1, .null, .int x3, .int x4, .int x5] [] (am_hp sw s) (fun _ => rfl) (fun _ => ?_) (fun _ => ?_)
    · refine sm_fg [.null, .null, .null, .null, .int x4, .null] ⟨Or.inl rfl, Or.inl rfl, Or.inl rfl, Or.inl rfl, Or.inr rfl, Or.inl rfl, trivial⟩ ?_
      exact sm_ex (fun _ _ h => h.2)
    · refine sm_iald 3 53 [.ref 58, .int x1, .null, .int x3, .int x4, .int x5] [] (am_hp sw s) (i := x5) (c := 105) (fun _ => rfl) rfl rfl rfl rfl ?_
      refine sm_go 1 55 [.ref 58, .int x1, .null, .int x3, .int x4, .int x5] [.int (-1), .int (s.1 105 (Int32.toNatClampNeg x5))] (am_hp sw s) (fun _ => rfl) ?_
      refine sm_jn 83 (fun p83 => [.ref 58, .int x1, .null, .int x3, .int p83.1, .int x5]) (fun p83 => []) (fun p83 => (am_hp sw p83.2)) (fun p83 => ?_) (fun j83 hj83 => ?_)
      · refine sm_go 2 41 [.ref 58, .int x1, .null, .int x3, .int p83.1, .int (x5 + 1)] [] (am_hp sw p83.2) (fun _ => rfl) ?_
        exact ih x1 x3 p83.1 (x5 + 1) p83.2
      refine sm_br 1 58 83 [.ref 58, .int x1, .null, .int x3, .int x4, .int x5] [] (am_hp sw s) (fun _ => rfl) (fun _ => ?_) (fun _ => ?_)
      · refine sm_iald 3 64 [.ref 58, .int x1, .null, .int x3, .int x4, .int x5] [] (am_hp sw s) (i := x5) (c := 106) (fun _ => rfl) rfl rfl rfl rfl ?_
        refine sm_br 2 72 69 [.ref 58, .int x1, .null, .int x3, .int x4, .int x5] [] (am_hp sw s) (fun _ => rfl) (fun _ => ?_) (fun _ => ?_)
        · refine sm_iast 4 79 [.ref 58, .int x1, .null, .int x3, .int x4, .int x5] [] sw s (i := x5) (x := x1) (c := 105) (fun _ => rfl) rfl rfl rfl ?_
          refine sm_go 1 83 [.ref 58, .int x1, .null, .int x3, .int (x4 + 1), .int x5] [] (am_hp sw (am_wI s 105 (Int32.toNatClampNeg x5) x1)) (fun _ => rfl) ?_
          exact hj83 ((x4 + 1), (am_wI s 105 (Int32.toNatClampNeg x5) x1))
        · refine sm_go 1 83 [.ref 58, .int x1, .null, .int x3, .int x4, .int x5] [] (am_hp sw s) (fun _ => rfl) ?_
          exact hj83 (x4, s)
      · exact hj83 (x4, s)

set_option maxRecDepth 20000 in
theorem r_X12_paint (d : Nat) (sw : Bool) (s s' : am_S) (x1 : Int32) (x2 : Int32) (x3 : Int32) (v : Int32) (e : f_X12_paint s x1 x2 x3 = some (v, s')) : am_Run (d + 2) 174 [.ref 58, .int x1, .int x2, .int x3] (am_hp sw s) (am_cI v) (am_hp sw s') := by
  refine am_Run.of (M := mt_X12_paint) (cvf := am_cI) (X := f_X12_paint s x1 x2 x3) rfl rfl rfl (by simp) ?_ e
  unfold f_X12_paint
  show am_Sm tb_X12_paint 12 false none (some .int) (d + 1) (am_po am_cI sw) _ 0 [.ref 58, .int x1, .int x2, .int x3, .null, .null] [] (am_hp sw s)
  refine sm_br 2 33 4 [.ref 58, .int x1, .int x2, .int x3, .null, .null] [] (am_hp sw s) (fun _ => rfl) (fun _ => ?_) (fun _ => ?_)
  · exact sm_ret 1 34 [.ref 58, .int x1, .int x2, .int x3, .null, .null] [.int (-1)] (am_hp sw s) (some (.int (-1))) (fun _ => rfl) rfl (fun _ _ h => h)
  · refine sm_br 4 12 33 [.ref 58, .int x1, .int x2, .int x3, .null, .null] [] (am_hp sw s) (fun _ => rfl) (fun _ => ?_) (fun _ => ?_)
    · refine sm_call (cvf := am_cI) 2 14 [.ref 58, .int x1, .int x2, .int x3, .null, .null] [.int x2, .ref 58] sw s 173 [.ref 58, .int x2] [] (fun _ => rfl) rfl (fun _ _ e9 => r_X12_isFigure (d + 0) sw _ _ _ _ e9) am_po20 (fun v14 s14 => ?_)
      refine sm_br 1 33 20 [.ref 58, .int x1, .int x2, .int x3, .null, .null] [] (am_hp sw s14) (fun _ => rfl) (fun _ => ?_) (fun _ => ?_)
      · exact sm_ret 1 34 [.ref 58, .int x1, .int x2, .int x3, .null, .null] [.int (-1)] (am_hp sw s14) (some (.int (-1))) (fun _ => rfl) rfl (fun _ _ h => h)
      · refine sm_call (cvf := am_cI) 2 22 [.ref 58, .int x1, .int x2, .int x3, .null, .null] [.int x3, .ref 58] sw s14 173 [.ref 58, .int x3] [] (fun _ => rfl) rfl (fun _ _ e9 => r_X12_isFigure (d + 0) sw _ _ _ _ e9) am_po20 (fun v22 s22 => ?_)
        refine sm_br 1 33 28 [.ref 58, .int x1, .int x2, .int x3, .null, .null] [] (am_hp sw s22) (fun _ => rfl) (fun _ => ?_) (fun _ => ?_)
        · exact sm_ret 1 34 [.ref 58, .int x1, .int x2, .int x3, .null, .null] [.int (-1)] (am_hp sw s22) (some (.int (-1))) (fun _ => rfl) rfl (fun _ _ h => h)
        · refine sm_br 3 33 35 [.ref 58, .int x1, .int x2, .int x3, .null, .null] [] (am_hp sw s22) (fun _ => rfl) (fun _ => ?_) (fun _ => ?_)
          · exact sm_ret 1 34 [.ref 58, .int x1, .int x2, .int x3, .null, .null] [.int (-1)] (am_hp sw s22) (some (.int (-1))) (fun _ => rfl) rfl (fun _ _ h => h)
          · refine sm_go 4 41 [.ref 58, .int x1, .int x2, .int x3, .int (0), .int x2] [] (am_hp sw s22) (fun _ => rfl) ?_
            refine sm_fg [.ref 58, .int x1, .null, .int x3, .int (0), .int x2] ⟨Or.inr rfl, Or.inr rfl, Or.inl rfl, Or.inr rfl, Or.inr rfl, Or.inr rfl, trivial⟩ ?_
            refine sm_lp 89 (fun y41 => [.null, .null, .null, .null, .int y41, .null]) (l_X12_paint_41 d sw am_FU x1 x3 (0) x2 s22) (fun _ _ _ h => h) am_po20 (fun y41 s41 => ?_)
            exact sm_ret 1 91 [.null, .null, .null, .null, .int y41, .null] [.int y41] (am_hp sw s41) (some (.int y41)) (fun _ => rfl) rfl (fun _ _ h => h)
    · exact sm_ret 1 34 [.ref 58, .int x1, .int x2, .int x3, .null, .null] [.int (-1)] (am_hp sw s) (some (.int (-1))) (fun _ => rfl) rfl (fun _ _ h => h)

def f_X12_kindOf (s : am_S) (x1 : Int32) : Option (Int32 × am_S) := am_gu (am_in x1 400) (am_gu (am_in (s.1 104 (Int32.toNatClampNeg x1)) 200) (some ((s.1 96 (Int32.toNatClampNeg (s.1 104 (Int32.toNatClampNeg x1)))), s)))
set_option maxRecDepth 20000 in
theorem r_X12_kindOf (d : Nat) (sw : Bool) (s s' : am_S) (x1 : Int32) (v : Int32) (e : f_X12_kindOf s x1 = some (v, s')) : am_Run (d + 1) 175 [.ref 58, .int x1] (am_hp sw s) (am_cI v) (am_hp sw s') := by
  refine am_Run.of (M := mt_X12_kindOf) (cvf := am_cI) (X := f_X12_kindOf s x1) rfl rfl rfl (by simp) ?_ e
  unfold f_X12_kindOf
  show am_Sm tb_X12_kindOf 12 false none (some .int) (d + 0) (am_po am_cI sw) _ 0 [.ref 58, .int x1] [] (am_hp sw s)
  refine sm_iald 5 9 [.ref 58, .int x1] [.ref 96] (am_hp sw s) (i := x1) (c := 104) (fun _ => rfl) rfl rfl rfl rfl ?_
  refine sm_iald 0 10 [.ref 58, .int x1] [] (am_hp sw s) (i := (s.1 104 (Int32.toNatClampNeg x1))) (c := 96) (fun _ => rfl) rfl rfl rfl rfl ?_
  exact sm_ret 0 11 [.ref 58, .int x1] [.int (s.1 96 (Int32.toNatClampNeg (s.1 104 (Int32.toNatClampNeg x1))))] (am_hp sw s) (some (.int (s.1 96 (Int32.toNatClampNeg (s.1 104 (Int32.toNatClampNeg x1)))))) (fun _ => rfl) rfl (fun _ _ h => h)

def f_X12_colourOf (s : am_S) (x1 : Int32) : Option (Int32 × am_S) := am_gu (am_in x1 400) (if (s.1 105 (Int32.toNatClampNeg x1)) = (-1) then (some ((-1), s)) else (am_gu (am_in x1 400) (am_gu (am_in (s.1 105 (Int32.toNatClampNeg x1)) 20) (some ((s.1 109 (Int32.toNatClampNeg (s.1 105 (Int32.toNatClampNeg x1)))), s)))))
set_option maxRecDepth 20000 in
theorem r_X12_colourOf (d : Nat) (sw : Bool) (s s' : am_S) (x1 : Int32) (v : Int32) (e : f_X12_colourOf s x1 = some (v, s')) : am_Run (d + 1) 176 [.ref 58, .int x1] (am_hp sw s) (am_cI v) (am_hp sw s') := by
  refine am_Run.of (M := mt_X12_colourOf) (cvf := am_cI) (X := f_X12_colourOf s x1) rfl rfl rfl (by simp) ?_ e
  unfold f_X12_colourOf
  show am_Sm tb_X12_colourOf 12 false none (some .int) (d + 0) (am_po am_cI sw) _ 0 [.ref 58, .int x1] [] (am_hp sw s)
  refine sm_iald 3 5 [.ref 58, .int x1] [] (am_hp sw s) (i := x1) (c := 105) (fun _ => rfl) rfl rfl rfl rfl ?_
  refine sm_br 2 10 14 [.ref 58, .int x1] [] (am_hp sw s) (fun _ => rfl) (fun _ => ?_) (fun _ => ?_)
  · exact sm_ret 2 25 [.ref 58, .int x1] [.int (-1)] (am_hp sw s) (some (.int (-1))) (fun _ => rfl) rfl (fun _ _ h => h)
  · refine sm_iald 5 23 [.ref 58, .int x1] [.ref 109] (am_hp sw s) (i := x1) (c := 105) (fun _ => rfl) rfl rfl rfl rfl ?_
    refine sm_iald 0 24 [.ref 58, .int x1] [] (am_hp sw s) (i := (s.1 105 (Int32.toNatClampNeg x1))) (c := 109) (fun _ => rfl) rfl rfl rfl rfl ?_
    exact sm_ret 0 25 [.ref 58, .int x1] [.int (s.1 109 (Int32.toNatClampNeg (s.1 105 (Int32.toNatClampNeg x1))))] (am_hp sw s) (some (.int (s.1 109 (Int32.toNatClampNeg (s.1 105 (Int32.toNatClampNeg x1)))))) (fun _ => rfl) rfl (fun _ _ h => h)

def f_X12_order (s : am_S) (x1 : Int32) : Option (Int32 × am_S) := if (s.1 58 74) = 8 then (some ((-1), s)) else (if x1 < 0 then (some ((-1), s)) else (if 1000 < x1 then (some ((-1), s)) else (am_gu (am_in (s.1 58 74) 8) (am_gu (am_in (s.1 58 74) 8) (am_gu (am_in (s.1 58 74) 8) (am_gu (am_in (s.1 58 74) 8) (some ((((s.1 58 74) + 1) - 1), (am_wI (am_wI (am_wI (am_wI (am_wI s 110 (Int32.toNatClampNeg (s.1 58 74)) x1) 111 (Int32.toNatClampNeg (s.1 58 74)) (0)) 112 (Int32.toNatClampNeg (s.1 58 74)) (-1)) 113 (Int32.toNatClampNeg (s.1 58 74)) (0)) 58 74 ((s.1 58 74) + 1))))))))))
set_option maxRecDepth 20000 in
theorem r_X12_order (d : Nat) (sw : Bool) (s s' : am_S) (x1 : Int32) (v : Int32) (e : f_X12_order s x1 = some (v, s')) : am_Run (d + 1) 177 [.ref 58, .int x1] (am_hp sw s) (am_cI v) (am_hp sw s') := by
  refine am_Run.of (M := mt_X12_order) (cvf := am_cI) (X := f_X12_order s x1) rfl rfl rfl (by simp) ?_ e
  unfold f_X12_order
  show am_Sm tb_X12_order 12 false none (some .int) (d + 0) (am_po am_cI sw) _ 0 [.ref 58, .int x1] [] (am_hp sw s)
  refine sm_br 4 20 9 [.ref 58, .int x1] [] (am_hp sw s) (fun _ => rfl) (fun _ => ?_) (fun _ => ?_)
  · exact sm_ret 1 21 [.ref 58, .int x1] [.int (-1)] (am_hp sw s) (some (.int (-1))) (fun _ => rfl) rfl (fun _ _ h => h)
  · refine sm_br 2 20 13 [.ref 58, .int x1] [] (am_hp sw s) (fun _ => rfl) (fun _ => ?_) (fun _ => ?_)
    · exact sm_ret 1 21 [.ref 58, .int x1] [.int (-1)] (am_hp sw s) (some (.int (-1))) (fun _ => rfl) rfl (fun _ _ h => h)
    · refine sm_br 3 20 22 [.ref 58, .int x1] [] (am_hp sw s) (fun _ => rfl) (fun _ => ?_) (fun _ => ?_)
      · exact sm_ret 1 21 [.ref 58, .int x1] [.int (-1)] (am_hp sw s) (some (.int (-1))) (fun _ => rfl) rfl (fun _ _ h => h)
      · refine sm_iast 5 31 [.ref 58, .int x1] [] sw s (i := (s.1 58 74)) (x := x1) (c := 110) (fun _ => rfl) rfl rfl rfl ?_
        refine sm_iast 5 41 [.ref 58, .int x1] [] sw (am_wI s 110 (Int32.toNatClampNeg (s.1 58 74)) x1) (i := (s.1 58 74)) (x := (0)) (c := 111) (fun _ => rfl) rfl rfl rfl ?_
        refine sm_iast 5 51 [.ref 58, .int x1] [] sw (am_wI (am_wI s 110 (Int32.toNatClampNeg (s.1 58 74)) x1) 111 (Int32.toNatClampNeg (s.1 58 74)) (0)) (i := (s.1 58 74)) (x := (-1)) (c := 112) (fun _ => rfl) rfl rfl rfl ?_
        refine sm_iast 5 61 [.ref 58, .int x1] [] sw (am_wI (am_wI (am_wI s 110 (Int32.toNatClampNeg (s.1 58 74)) x1) 111 (Int32.toNatClampNeg (s.1 58 74)) (0)) 112 (Int32.toNatClampNeg (s.1 58 74)) (-1)) (i := (s.1 58 74)) (x := (0)) (c := 113) (fun _ => rfl) rfl rfl rfl ?_
        exact sm_ret 10 78 [.ref 58, .int x1] [.int (((s.1 58 74) + 1) - 1)] (am_hp sw (am_wI (am_wI (am_wI (am_wI (am_wI s 110 (Int32.toNatClampNeg (s.1 58 74)) x1) 111 (Int32.toNatClampNeg (s.1 58 74)) (0)) 112 (Int32.toNatClampNeg (s.1 58 74)) (-1)) 113 (Int32.toNatClampNeg (s.1 58 74)) (0)) 58 74 ((s.1 58 74) + 1))) (some (.int (((s.1 58 74) + 1) - 1))) (fun _ => rfl) rfl (fun _ _ h => h)

