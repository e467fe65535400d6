/-! ===== methods as functions, and their runs (printed by wip/gen/drive.py) ===== -/
def f_X5_markBoxed_L2 : Nat → Int32 → Int32 → Int32 → am_S → Option ((Unit × am_S) ⊕ ((Unit) × am_S))
  | 0, _, _, _, _ => none
  | n + 1, x1, x2, x3, s => if x3 < (s.1 46 0) then (am_bd (f_X5_isIn s x1 x3) (fun v12 s12 => am_jn (fun (p32 : am_S) => f_X5_markBoxed_L2 n x1 x2 (x3 + 1) p32) (fun j32 => if v12 = 0 then (j32 s12) else (am_gu (am_in x3 8) (am_gu (am_in x3 8) (j32 (am_wI (am_wI s12 48 (Int32.toNatClampNeg x3) (1)) 49 (Int32.toNatClampNeg x3) x2))))))) else (some (.inr ((), s)))
def f_X5_markBoxed (s : am_S) (x1 : Int32) (x2 : Int32) : Option (Unit × am_S) := am_lp (fun y => y) (f_X5_markBoxed_L2 am_FU x1 x2 (0) s) (fun (_ : Unit) s2 => some ((), s2))
set_option maxRecDepth 20000 in
theorem l_X5_markBoxed_2 (d : Nat) (sw : Bool) : ∀ (n : Nat) (x1 : Int32) (x2 : Int32) (x3 : Int32) (s : am_S), am_Sm tb_X5_markBoxed 5 false none none (d + 1) (am_pl am_cU sw (fun (v9 : Unit) s9 r h9 => am_Ex tb_X5_markBoxed 5 false none none (d + 1) r h9 38 [.null, .null, .null, .null] [] (am_hp sw s9))) (f_X5_markBoxed_L2 n x1 x2 x3 s) 2 [.ref 46, .int x1, .int x2, .int x3] [] (am_hp sw s) := by
  intro n
  induction n with
  | zero => intro x1 x2 x3 s; exact sm_no
  | succ n ih =>
    intro x1 x2 x3 s
    rw [f_X5_markBoxed_L2]
    refine sm_br 4 10 38 [.ref 46, .int x1, .int x2, .int x3] [] (am_hp sw s) (fun _ => rfl) (fun _ => ?_) (fun _ => ?_)
    · refine sm_call (cvf := am_cI) 2 12 [.ref 46, .int x1, .int x2, .int x3] [.int x3, .int x1] sw s 43 [.int x1, .int x3] [] (fun _ => rfl) rfl (fun _ _ e9 => r_X5_isIn (d + 0) sw _ _ _ _ _ e9) am_pl20 (fun v12 s12 => ?_)
      refine sm_jn 32 (fun p32 => [.ref 46, .int x1, .int x2, .int x3]) (fun p32 => []) (fun p32 => (am_hp sw p32)) (fun p32 => ?_) (fun j32 hj32 => ?_)
      · refine sm_go 2 2 [.ref 46, .int x1, .int x2, .int (x3 + 1)] [] (am_hp sw p32) (fun _ => rfl) ?_
        exact ih x1 x2 (x3 + 1) p32
      refine sm_br 1 32 18 [.ref 46, .int x1, .int x2, .int x3] [] (am_hp sw s12) (fun _ => rfl) (fun _ => ?_) (fun _ => ?_)
      · exact hj32 s12
      · refine sm_iast 4 24 [.ref 46, .int x1, .int x2, .int x3] [] sw s12 (i := x3) (x := (1)) (c := 48) (fun _ => rfl) rfl rfl rfl ?_
        refine sm_iast 4 31 [.ref 46, .int x1, .int x2, .int x3] [] sw (am_wI s12 48 (Int32.toNatClampNeg x3) (1)) (i := x3) (x := x2) (c := 49) (fun _ => rfl) rfl rfl rfl ?_
        exact hj32 (am_wI (am_wI s12 48 (Int32.toNatClampNeg x3) (1)) 49 (Int32.toNatClampNeg x3) x2)
    · refine sm_fg [.null, .null, .null, .null] ⟨Or.inl rfl, Or.inl rfl, Or.inl rfl, Or.inl rfl, trivial⟩ ?_
      exact sm_ex (fun _ _ h => h.2)

set_option maxRecDepth 20000 in
theorem r_X5_markBoxed (d : Nat) (sw : Bool) (s s' : am_S) (x1 : Int32) (x2 : Int32) (v : Unit) (e : f_X5_markBoxed s x1 x2 = some (v, s')) : am_Run (d + 2) 50 [.ref 46, .int x1, .int x2] (am_hp sw s) (am_cU v) (am_hp sw s') := by
  refine am_Run.of (M := mt_X5_markBoxed) (cvf := am_cU) (X := f_X5_markBoxed s x1 x2) rfl rfl rfl (by simp) ?_ e
  unfold f_X5_markBoxed
  show am_Sm tb_X5_markBoxed 5 false none none (d + 1) (am_po am_cU sw) _ 0 [.ref 46, .int x1, .int x2, .null] [] (am_hp sw s)
  refine sm_go 2 2 [.ref 46, .int x1, .int x2, .int (0)] [] (am_hp sw s) (fun _ => rfl) ?_
  refine sm_lp 38 (fun _y => [.null, .null, .null, .null]) (l_X5_markBoxed_2 d sw am_FU x1 x2 (0) s) (fun _ _ _ h => h) am_po20 (fun _y s2 => ?_)
  exact sm_ret 0 38 [.null, .null, .null, .null] [] (am_hp sw s2) none (fun _ => rfl) rfl (fun _ _ h => h)

def f_X6_goesOnBehindSide (s : am_S) (x1 : Int32) : Option (Int32 × am_S) := if (s.1 3 2) = 0 then (if x1 = 6 then (some ((1), s)) else (if x1 = 9 then (some ((1), s)) else (some ((0), s)))) else (if (s.1 3 2) = 1 then (if x1 = 13 then (some ((1), s)) else (if x1 = 14 then (some ((1), s)) else (if x1 = 15 then (some ((1), s)) else (if x1 = 16 then (some ((1), s)) else (some ((0), s)))))) else (if x1 = 7 then (some ((1), s)) else (if x1 = 8 then (some ((1), s)) else (if x1 = 9 then (some ((1), s)) else (some ((0), s))))))
set_option maxRecDepth 20000 in
theorem r_X6_goesOnBehindSide (d : Nat) (sw : Bool) (s s' : am_S) (x1 : Int32) (v : Int32) (e : f_X6_goesOnBehindSide s x1 = some (v, s')) : am_Run (d + 1) 55 [.ref 3, .int x1] (am_hp sw s) (am_cI v) (am_hp sw s') := by
  refine am_Run.of (M := mt_X6_goesOnBehindSide) (cvf := am_cI) (X := f_X6_goesOnBehindSide s x1) rfl rfl rfl (by simp) ?_ e
  unfold f_X6_goesOnBehindSide
  show am_Sm tb_X6_goesOnBehindSide 6 false none (some .boolean) (d + 0) (am_po am_cI sw) _ 0 [.ref 3, .int x1] [] (am_hp sw s)
  refine sm_br 3 7 25 [.ref 3, .int x1] [] (am_hp sw s) (fun _ => rfl) (fun _ => ?_) (fun _ => ?_)
  · refine sm_br 3 19 13 [.ref 3, .int x1] [] (am_hp sw s) (fun _ => rfl) (fun _ => ?_) (fun _ => ?_)
    · exact sm_ret 2 24 [.ref 3, .int x1] [.int (1)] (am_hp sw s) (some (.int (1))) (fun _ => rfl) rfl (fun _ _ h => h)
    · refine sm_br 3 19 23 [.ref 3, .int x1] [] (am_hp sw s) (fun _ => rfl) (fun _ => ?_) (fun _ => ?_)
      · exact sm_ret 2 24 [.ref 3, .int x1] [.int (1)] (am_hp sw s) (some (.int (1))) (fun _ => rfl) rfl (fun _ _ h => h)
      · exact sm_ret 1 24 [.ref 3, .int x1] [.int (0)] (am_hp sw s) (some (.int (0))) (fun _ => rfl) rfl (fun _ _ h => h)
  · refine sm_br 4 33 63 [.ref 3, .int x1] [] (am_hp sw s) (fun _ => rfl) (fun _ => ?_) (fun _ => ?_)
    · refine sm_br 3 57 39 [.ref 3, .int x1] [] (am_hp sw s) (fun _ => rfl) (fun _ => ?_) (fun _ => ?_)
      · exact sm_ret 2 62 [.ref 3, .int x1] [.int (1)] (am_hp sw s) (some (.int (1))) (fun _ => rfl) rfl (fun _ _ h => h)
      · refine sm_br 3 57 45 [.ref 3, .int x1] [] (am_hp sw s) (fun _ => rfl) (fun _ => ?_) (fun _ => ?_)
        · exact sm_ret 2 62 [.ref 3, .int x1] [.int (1)] (am_hp sw s) (some (.int (1))) (fun _ => rfl) rfl (fun _ _ h => h)
        · refine sm_br 3 57 51 [.ref 3, .int x1] [] (am_hp sw s) (fun _ => rfl) (fun _ => ?_) (fun _ => ?_)
          · exact sm_ret 2 62 [.ref 3, .int x1] [.int (1)] (am_hp sw s) (some (.int (1))) (fun _ => rfl) rfl (fun _ _ h => h)
          · refine sm_br 3 57 61 [.ref 3, .int x1] [] (am_hp sw s) (fun _ => rfl) (fun _ => ?_) (fun _ => ?_)
            · exact sm_ret 2 62 [.ref 3, .int x1] [.int (1)] (am_hp sw s) (some (.int (1))) (fun _ => rfl) rfl (fun _ _ h => h)
            · exact sm_ret 1 62 [.ref 3, .int x1] [.int (0)] (am_hp sw s) (some (.int (0))) (fun _ => rfl) rfl (fun _ _ h => h)
    · refine sm_br 3 81 69 [.ref 3, .int x1] [] (am_hp sw s) (fun _ => rfl) (fun _ => ?_) (fun _ => ?_)
      · exact sm_ret 2 86 [.ref 3, .int x1] [.int (1)] (am_hp sw s) (some (.int (1))) (fun _ => rfl) rfl (fun _ _ h => h)
      · refine sm_br 3 81 75 [.ref 3, .int x1] [] (am_hp sw s) (fun _ => rfl) (fun _ => ?_) (fun _ => ?_)
        · exact sm_ret 2 86 [.ref 3, .int x1] [.int (1)] (am_hp sw s) (some (.int (1))) (fun _ => rfl) rfl (fun _ _ h => h)
        · refine sm_br 3 81 85 [.ref 3, .int x1] [] (am_hp sw s) (fun _ => rfl) (fun _ => ?_) (fun _ => ?_)
          · exact sm_ret 2 86 [.ref 3, .int x1] [.int (1)] (am_hp sw s) (some (.int (1))) (fun _ => rfl) rfl (fun _ _ h => h)
          · exact sm_ret 1 86 [.ref 3, .int x1] [.int (0)] (am_hp sw s) (some (.int (0))) (fun _ => rfl) rfl (fun _ _ h => h)

def f_X6_goesOnWith (s : am_S) (x1 : Int32) : Option (Int32 × am_S) := if (s.1 3 1) = 0 then (if x1 = 3 then (some ((1), s)) else (if x1 = 4 then (some ((1), s)) else (if x1 = 5 then (some ((1), s)) else (some ((0), s))))) else (if (s.1 3 1) = 1 then (if x1 = 2 then (some ((1), s)) else (if x1 = 17 then (some ((1), s)) else (if x1 < 19 then (some ((0), s)) else (some ((1), s))))) else (if x1 = 10 then (some ((1), s)) else (if x1 = 11 then (some ((1), s)) else (if x1 = 12 then (some ((1), s)) else (if 0 < (s.1 3 3) then (if x1 = 18 then (some ((1), s)) else (some ((0), s))) else (am_bd (f_X6_goesOnBehindSide s x1) (fun v102 s102 => am_gu (decide (v102 &&& 1 = v102)) (some (v102, s102)))))))))
set_option maxRecDepth 20000 in
theorem r_X6_goesOnWith (d : Nat) (sw : Bool) (s s' : am_S) (x1 : Int32) (v : Int32) (e : f_X6_goesOnWith s x1 = some (v, s')) : am_Run (d + 2) 54 [.ref 3, .int x1] (am_hp sw s) (am_cI v) (am_hp sw s') := by
  refine am_Run.of (M := mt_X6_goesOnWith) (cvf := am_cI) (X := f_X6_goesOnWith s x1) rfl rfl rfl (by simp) ?_ e
  unfold f_X6_goesOnWith
  show am_Sm tb_X6_goesOnWith 6 false none (some .boolean) (d + 1) (am_po am_cI sw) _ 0 [.ref 3, .int x1] [] (am_hp sw s)
  refine sm_br 3 7 28 [.ref 3, .int x1] [] (am_hp sw s) (fun _ => rfl) (fun _ => ?_) (fun _ => ?_)
  · refine sm_br 3 22 12 [.ref 3, .int x1] [] (am_hp sw s) (fun _ => rfl) (fun _ => ?_) (fun _ => ?_)
    · exact sm_ret 2 27 [.ref 3, .int x1] [.int (1)] (am_hp sw s) (some (.int (1))) (fun _ => rfl) rfl (fun _ _ h => h)
    · refine sm_br 3 22 17 [.ref 3, .int x1] [] (am_hp sw s) (fun _ => rfl) (fun _ => ?_) (fun _ => ?_)
      · exact sm_ret 2 27 [.ref 3, .int x1] [.int (1)] (am_hp sw s) (some (.int (1))) (fun _ => rfl) rfl (fun _ _ h => h)
      · refine sm_br 3 22 26 [.ref 3, .int x1] [] (am_hp sw s) (fun _ => rfl) (fun _ => ?_) (fun _ => ?_)
        · exact sm_ret 2 27 [.ref 3, .int x1] [.int (1)] (am_hp sw s) (some (.int (1))) (fun _ => rfl) rfl (fun _ _ h => h)
        · exact sm_ret 1 27 [.ref 3, .int x1] [.int (0)] (am_hp sw s) (some (.int (0))) (fun _ => rfl) rfl (fun _ _ h => h)
  · refine sm_br 4 36 59 [.ref 3, .int x1] [] (am_hp sw s) (fun _ => rfl) (fun _ => ?_) (fun _ => ?_)
    · refine sm_br 3 53 41 [.ref 3, .int x1] [] (am_hp sw s) (fun _ => rfl) (fun _ => ?_) (fun _ => ?_)
      · exact sm_ret 2 58 [.ref 3, .int x1] [.int (1)] (am_hp sw s) (some (.int (1))) (fun _ => rfl) rfl (fun _ _ h => h)
      · refine sm_br 3 53 47 [.ref 3, .int x1] [] (am_hp sw s) (fun _ => rfl) (fun _ => ?_) (fun _ => ?_)
        · exact sm_ret 2 58 [.ref 3, .int x1] [.int (1)] (am_hp sw s) (some (.int (1))) (fun _ => rfl) rfl (fun _ _ h => h)
        · refine sm_br 3 57 53 [.ref 3, .int x1] [] (am_hp sw s) (fun _ => rfl) (fun _ => ?_) (fun _ => ?_)
          · exact sm_ret 1 58 [.ref 3, .int x1] [.int (0)] (am_hp sw s) (some (.int (0))) (fun _ => rfl) rfl (fun _ _ h => h)
          · exact sm_ret 2 58 [.ref 3, .int x1] [.int (1)] (am_hp sw s) (some (.int (1))) (fun _ => rfl) rfl (fun _ _ h => h)
    · refine sm_br 3 77 65 [.ref 3, .int x1] [] (am_hp sw s) (fun _ => rfl) (fun _ => ?_) (fun _ => ?_)
      · exact sm_ret 1 78 [.ref 3, .int x1] [.int (1)] (am_hp sw s) (some (.int (1))) (fun _ => rfl) rfl (fun _ _ h => h)
      · refine sm_br 3 77 71 [.ref 3, .int x1] [] (am_hp sw s) (fun _ => rfl) (fun _ => ?_) (fun _ => ?_)
        · exact sm_ret 1 78 [.ref 3, .int x1] [.int (1)] (am_hp sw s) (some (.int (1))) (fun _ => rfl) rfl (fun _ _ h => h)
        · refine sm_br 3 77 79 [.ref 3, .int x1] [] (am_hp sw s) (fun _ => rfl) (fun _ => ?_) (fun _ => ?_)
          · exact sm_ret 1 78 [.ref 3, .int x1] [.int (1)] (am_hp sw s) (some (.int (1))) (fun _ => rfl) rfl (fun _ _ h => h)
          · refine sm_br 3 86 100 [.ref 3, .int x1] [] (am_hp sw s) (fun _ => rfl) (fun _ => ?_) (fun _ => ?_)
            · refine sm_br 3 92 96 [.ref 3, .int x1] [] (am_hp sw s) (fun _ => rfl) (fun _ => ?_) (fun _ => ?_)
              · exact sm_ret 2 105 [.ref 3, .int x1] [.int (1)] (am_hp sw s) (some (.int (1))) (fun _ => rfl) rfl (fun _ _ h => h)
              · exact sm_ret 2 105 [.ref 3, .int x1] [.int (0)] (am_hp sw s) (some (.int (0))) (fun _ => rfl) rfl (fun _ _ h => h)
            · refine sm_call (cvf := am_cI) 2 102 [.ref 3, .int x1] [.int x1, .ref 3] sw s 55 [.ref 3, .int x1] [] (fun _ => rfl) rfl (fun _ _ e9 => r_X6_goesOnBehindSide (d + 0) sw _ _ _ _ e9) am_po20 (fun v102 s102 => ?_)
              refine sm_gu (fun h9 => ?_)
              exact sm_ret 0 105 [.ref 3, .int x1] [.int v102] (am_hp sw s102) (some (.int v102)) (fun _ => rfl) (am_rtb h9) (fun _ _ h => h)

def f_X6_lacksRoomFor (b : Nat) (s : am_S) (x1 : Int32) : Option (Int32 × am_S) := if (s.1 b 2) < 400 then (am_jn (fun (p26 : am_S) => if x1 = 17 then (if (p26.1 3 3) < 6 then (some ((0), p26)) else (some ((1), p26))) else (some ((0), p26))) (fun j26 => if (s.1 3 1) = 0 then (if (s.1 b 0) < 20 then (j26 s) else (some ((1), s))) else (j26 s))) else (some ((1), s))
set_option maxRecDepth 20000 in
theorem r_X6_lacksRoomFor_5 (d : Nat) (sw : Bool) (s s' : am_S) (x1 : Int32) (v : Int32) (e : f_X6_lacksRoomFor 5 s x1 = some (v, s')) : am_Run (d + 1) 56 [.ref 3, .int x1, .ref 5] (am_hp sw s) (am_cI v) (am_hp sw s') := by
  refine am_Run.of (M := mt_X6_lacksRoomFor) (cvf := am_cI) (X := f_X6_lacksRoomFor 5 s x1) rfl rfl rfl (by simp) ?_ e
  unfold f_X6_lacksRoomFor
  show am_Sm tb_X6_lacksRoomFor 6 false none (some .boolean) (d + 0) (am_po am_cI sw) _ 0 [.ref 3, .int x1, .ref 5] [] (am_hp sw s)
  refine sm_br 4 10 41 [.ref 3, .int x1, .ref 5] [] (am_hp sw s) (fun _ => rfl) (fun _ => ?_) (fun _ => ?_)
  · refine sm_go 2 14 [.ref 3, .int x1, .ref 5] [.int (s.1 3 1)] (am_hp sw s) (fun _ => rfl) ?_
    refine sm_jn 26 (fun p26 => [.ref 3, .int x1, .null]) (fun p26 => []) (fun p26 => (am_hp sw p26)) (fun p26 => ?_) (fun j26 hj26 => ?_)
    · refine sm_br 3 32 45 [.ref 3, .int x1, .null] [] (am_hp sw p26) (fun _ => rfl) (fun _ => ?_) (fun _ => ?_)
      · refine sm_br 4 45 41 [.ref 3, .int x1, .null] [] (am_hp sw p26) (fun _ => rfl) (fun _ => ?_) (fun _ => ?_)
        · exact sm_ret 1 46 [.ref 3, .int x1, .null] [.int (0)] (am_hp sw p26) (some (.int (0))) (fun _ => rfl) rfl (fun _ _ h => h)
        · exact sm_ret 2 46 [.ref 3, .int x1, .null] [.int (1)] (am_hp sw p26) (some (.int (1))) (fun _ => rfl) rfl (fun _ _ h => h)
      · exact sm_ret 1 46 [.ref 3, .int x1, .null] [.int (0)] (am_hp sw p26) (some (.int (0))) (fun _ => rfl) rfl (fun _ _ h => h)
    refine sm_br 1 17 26 [.ref 3, .int x1, .ref 5] [] (am_hp sw s) (fun _ => rfl) (fun _ => ?_) (fun _ => ?_)
    · refine sm_br 4 26 41 [.ref 3, .int x1, .ref 5] [] (am_hp sw s) (fun _ => rfl) (fun _ => ?_) (fun _ => ?_)
      · refine sm_fg [.ref 3, .int x1, .null] ⟨Or.inr rfl, Or.inr rfl, Or.inl rfl, trivial⟩ ?_
        exact hj26 s
      · exact sm_ret 2 46 [.ref 3, .int x1, .ref 5] [.int (1)] (am_hp sw s) (some (.int (1))) (fun _ => rfl) rfl (fun _ _ h => h)
    · refine sm_fg [.ref 3, .int x1, .null] ⟨Or.inr rfl, Or.inr rfl, Or.inl rfl, trivial⟩ ?_
      exact hj26 s
  · exact sm_ret 2 46 [.ref 3, .int x1, .ref 5] [.int (1)] (am_hp sw s) (some (.int (1))) (fun _ => rfl) rfl (fun _ _ h => h)

set_option maxRecDepth 20000 in
theorem r_X6_lacksRoomFor_11 (d : Nat) (sw : Bool) (s s' : am_S) (x1 : Int32) (v : Int32) (e : f_X6_lacksRoomFor 11 s x1 = some (v, s')) : am_Run (d + 1) 56 [.ref 3, .int x1, .ref 11] (am_hp sw s) (am_cI v) (am_hp sw s') := by
  refine am_Run.of (M := mt_X6_lacksRoomFor) (cvf := am_cI) (X := f_X6_lacksRoomFor 11 s x1) rfl rfl rfl (by simp) ?_ e
  unfold f_X6_lacksRoomFor
  show am_Sm tb_X6_lacksRoomFor 6 false none (some .boolean) (d + 0) (am_po am_cI sw) _ 0 [.ref 3, .int x1, .ref 11] [] (am_hp sw s)
  refine sm_br 4 10 41 [.ref 3, .int x1, .ref 11] [] (am_hp sw s) (fun _ => rfl) (fun _ => ?_) (fun _ => ?_)
  · refine sm_go 2 14 [.ref 3, .int x1, .ref 11] [.int (s.1 3 1)] (am_hp sw s) (fun _ => rfl) ?_
    refine sm_jn 26 (fun p26 => [.ref 3, .int x1, .null]) (fun p26 => []) (fun p26 => (am_hp sw p26)) (fun p26 => ?_) (fun j26 hj26 => ?_)
    · refine sm_br 3 32 45 [.ref 3, .int x1, .null] [] (am_hp sw p26) (fun _ => rfl) (fun _ => ?_) (fun _ => ?_)
      · refine sm_br 4 45 41 [.ref 3, .int x1, .null] [] (am_hp sw p26) (fun _ => rfl) (fun _ => ?_) (fun _ => ?_)
        · exact sm_ret 1 46 [.ref 3, .int x1, .null] [.int (0)] (am_hp sw p26) (some (.int (0))) (fun _ => rfl) rfl (fun _ _ h => h)
        · exact sm_ret 2 46 [.ref 3, .int x1, .null] [.int (1)] (am_hp sw p26) (some (.int (1))) (fun _ => rfl) rfl (fun _ _ h => h)
      · exact sm_ret 1 46 [.ref 3, .int x1, .null] [.int (0)] (am_hp sw p26) (some (.int (0))) (fun _ => rfl) rfl (fun _ _ h => h)
    refine sm_br 1 17 26 [.ref 3, .int x1, .ref 11] [] (am_hp sw s) (fun _ => rfl) (fun _ => ?_) (fun _ => ?_)
    · refine sm_br 4 26 41 [.ref 3, .int x1, .ref 11] [] (am_hp sw s) (fun _ => rfl) (fun _ => ?_) (fun _ => ?_)
      · refine sm_fg [.ref 3, .int x1, .null] ⟨Or.inr rfl, Or.inr rfl, Or.inl rfl, trivial⟩ ?_
        exact hj26 s
      · exact sm_ret 2 46 [.ref 3, .int x1, .ref 11] [.int (1)] (am_hp sw s) (some (.int (1))) (fun _ => rfl) rfl (fun _ _ h => h)
    · refine sm_fg [.ref 3, .int x1, .null] ⟨Or.inr rfl, Or.inr rfl, Or.inl rfl, trivial⟩ ?_
      exact hj26 s
  · exact sm_ret 2 46 [.ref 3, .int x1, .ref 11] [.int (1)] (am_hp sw s) (some (.int (1))) (fun _ => rfl) rfl (fun _ _ h => h)

def f_X6_moveBehind (s : am_S) (x1 : Int32) : Option (Unit × am_S) := if x1 = 3 then (some ((), (am_wI (am_wI s 3 2 (0)) 3 1 (1)))) else if x1 = 4 then (some ((), (am_wI (am_wI s 3 2 (1)) 3 1 (1)))) else if x1 = 5 then (some ((), (am_wI (am_wI s 3 2 (0)) 3 1 (1)))) else if x1 = 6 then (some ((), (am_wI (am_wI s 3 2 (1)) 3 1 (1)))) else if x1 = 7 then (some ((), (am_wI (am_wI s 3 2 (1)) 3 1 (1)))) else if x1 = 8 then (some ((), (am_wI (am_wI s 3 2 (1)) 3 1 (1)))) else if x1 = 9 then (some ((), (am_wI s 3 1 (0)))) else if x1 = 10 then (some ((), (am_wI s 3 1 (1)))) else if x1 = 11 then (some ((), (am_wI s 3 1 (1)))) else if x1 = 12 then (some ((), (am_wI s 3 1 (1)))) else if x1 = 13 then (some ((), (am_wI (am_wI s 3 2 (2)) 3 1 (1)))) else if x1 = 14 then (some ((), (am_wI (am_wI s 3 2 (2)) 3 1 (1)))) else if x1 = 15 then (some ((), (am_wI (am_wI s 3 2 (2)) 3 1 (1)))) else if x1 = 16 then (some ((), (am_wI (am_wI s 3 2 (2)) 3 1 (1)))) else if x1 = 17 then (some ((), (am_wI s 3 3 ((s.1 3 3) + 1)))) else if x1 = 18 then (some ((), (am_wI s 3 3 ((s.1 3 3) - 1)))) else (some ((), (am_wI s 3 1 (2))))
set_option maxRecDepth 20000 in
theorem r_X6_moveBehind (d : Nat) (sw : Bool) (s s' : am_S) (x1 : Int32) (v : Unit) (e : f_X6_moveBehind s x1 = some (v, s')) : am_Run (d + 1) 57 [.ref 3, .int x1] (am_hp sw s) (am_cU v) (am_hp sw s') := by
  refine am_Run.of (M := mt_X6_moveBehind) (cvf := am_cU) (X := f_X6_moveBehind s x1) rfl rfl rfl (by simp) ?_ e
  unfold f_X6_moveBehind
  show am_Sm tb_X6_moveBehind 6 false none none (d + 0) (am_po am_cU sw) _ 0 [.ref 3, .int x1] [] (am_hp sw s)
  refine sm_go 2 (am_sw x1 (3) 161 [80, 93, 80, 93, 93, 93, 153, 119, 119, 119, 106, 106, 106, 106, 127, 140]) [.ref 3, .int x1] [] (am_hp sw s) (fun _ => rfl) ?_
  refine sm_sw1 4 (by decide) (fun _ => ?_) (fun _ => ?_)
  · exact sm_ret 7 166 [.ref 3, .int x1] [] (am_hp sw (am_wI (am_wI s 3 2 (0)) 3 1 (1))) none (fun _ => rfl) rfl (fun _ _ h => h)
  refine sm_sw1 5 (by decide) (fun _ => ?_) (fun _ => ?_)
  · exact sm_ret 7 166 [.ref 3, .int x1] [] (am_hp sw (am_wI (am_wI s 3 2 (1)) 3 1 (1))) none (fun _ => rfl) rfl (fun _ _ h => h)
  refine sm_sw1 6 (by decide) (fun _ => ?_) (fun _ => ?_)
  · exact sm_ret 7 166 [.ref 3, .int x1] [] (am_hp sw (am_wI (am_wI s 3 2 (0)) 3 1 (1))) none (fun _ => rfl) rfl (fun _ _ h => h)
  refine sm_sw1 7 (by decide) (fun _ => ?_) (fun _ => ?_)
  · exact sm_ret 7 166 [.ref 3, .int x1] [] (am_hp sw (am_wI (am_wI s 3 2 (1)) 3 1 (1))) none (fun _ => rfl) rfl (fun _ _ h => h)
  refine sm_sw1 8 (by decide) (fun _ => ?_) (fun _ => ?_)
  · exact sm_ret 7 166 [.ref 3, .int x1] [] (am_hp sw (am_wI (am_wI s 3 2 (1)) 3 1 (1))) none (fun _ => rfl) rfl (fun _ _ h => h)
  refine sm_sw1 9 (by decide) (fun _ => ?_) (fun _ => ?_)
  · exact sm_ret 7 166 [.ref 3, .int x1] [] (am_hp sw (am_wI (am_wI s 3 2 (1)) 3 1 (1))) none (fun _ => rfl) rfl (fun _ _ h => h)
  refine sm_sw1 10 (by decide) (fun _ => ?_) (fun _ => ?_)
  · exact sm_ret 4 166 [.ref 3, .int x1] [] (am_hp sw (am_wI s 3 1 (0))) none (fun _ => rfl) rfl (fun _ _ h => h)
  refine sm_sw1 11 (by decide) (fun _ => ?_) (fun _ => ?_)
  · exact sm_ret 4 166 [.ref 3, .int x1] [] (am_hp sw (am_wI s 3 1 (1))) none (fun _ => rfl) rfl (fun _ _ h => h)
  refine sm_sw1 12 (by decide) (fun _ => ?_) (fun _ => ?_)
  · exact sm_ret 4 166 [.ref 3, .int x1] [] (am_hp sw (am_wI s 3 1 (1))) none (fun _ => rfl) rfl (fun _ _ h => h)
  refine sm_sw1 13 (by decide) (fun _ => ?_) (fun _ => ?_)
  · exact sm_ret 4 166 [.ref 3, .int x1] [] (am_hp sw (am_wI s 3 1 (1))) none (fun _ => rfl) rfl (fun _ _ h => h)
  refine sm_sw1 14 (by decide) (fun _ => ?_) (fun _ => ?_)
  · exact sm_ret 7 166 [.ref 3, .int x1] [] (am_hp sw (am_wI (am_wI s 3 2 (2)) 3 1 (1))) none (fun _ => rfl) rfl (fun _ _ h => h)
  refine sm_sw1 15 (by decide) (fun _ => ?_) (fun _ => ?_)
  · exact sm_ret 7 166 [.ref 3, .int x1] [] (am_hp sw (am_wI (am_wI s 3 2 (2)) 3 1 (1))) none (fun _ => rfl) rfl (fun _ _ h => h)
  refine sm_sw1 16 (by decide) (fun _ => ?_) (fun _ => ?_)
  · exact sm_ret 7 166 [.ref 3, .int x1] [] (am_hp sw (am_wI (am_wI s 3 2 (2)) 3 1 (1))) none (fun _ => rfl) rfl (fun _ _ h => h)
  refine sm_sw1 17 (by decide) (fun _ => ?_) (fun _ => ?_)
  · exact sm_ret 7 166 [.ref 3, .int x1] [] (am_hp sw (am_wI (am_wI s 3 2 (2)) 3 1 (1))) none (fun _ => rfl) rfl (fun _ _ h => h)
  refine sm_sw1 18 (by decide) (fun _ => ?_) (fun _ => ?_)
  · exact sm_ret 7 166 [.ref 3, .int x1] [] (am_hp sw (am_wI s 3 3 ((s.1 3 3) + 1))) none (fun _ => rfl) rfl (fun _ _ h => h)
  refine sm_sw1 19 (by decide) (fun _ => ?_) (fun _ => ?_)
  · exact sm_ret 7 166 [.ref 3, .int x1] [] (am_hp sw (am_wI s 3 3 ((s.1 3 3) - 1))) none (fun _ => rfl) rfl (fun _ _ h => h)
  refine sm_sw0 ?_
  exact sm_ret 3 166 [.ref 3, .int x1] [] (am_hp sw (am_wI s 3 1 (2))) none (fun _ => rfl) rfl (fun _ _ h => h)

def f_X8_clear (b : Nat) (s : am_S) : Option (Unit × am_S) := some ((), (am_wI (am_wI s b 0 (0)) b 2 (0)))
set_option maxRecDepth 20000 in
theorem r_X8_clear_5 (d : Nat) (sw : Bool) (s s' : am_S) (v : Unit) (e : f_X8_clear 5 s = some (v, s')) : am_Run (d + 1) 64 [.ref 5] (am_hp sw s) (am_cU v) (am_hp sw s') := by
  refine am_Run.of (M := mt_X8_clear) (cvf := am_cU) (X := f_X8_clear 5 s) rfl rfl rfl (by simp) ?_ e
  unfold f_X8_clear
  show am_Sm tb_X8_clear 8 false none none (d + 0) (am_po am_cU sw) _ 0 [.ref 5] [] (am_hp sw s)
  exact sm_ret 6 10 [.ref 5] [] (am_hp sw (am_wI (am_wI s 5 0 (0)) 5 2 (0))) none (fun _ => rfl) rfl (fun _ _ h => h)

set_option maxRecDepth 20000 in
theorem r_X8_clear_11 (d : Nat) (sw : Bool) (s s' : am_S) (v : Unit) (e : f_X8_clear 11 s = some (v, s')) : am_Run (d + 1) 64 [.ref 11] (am_hp sw s) (am_cU v) (am_hp sw s') := by
  refine am_Run.of (M := mt_X8_clear) (cvf := am_cU) (X := f_X8_clear 11 s) rfl rfl rfl (by simp) ?_ e
  unfold f_X8_clear
  show am_Sm tb_X8_clear 8 false none none (d + 0) (am_po am_cU sw) _ 0 [.ref 11] [] (am_hp sw s)
  exact sm_ret 6 10 [.ref 11] [] (am_hp sw (am_wI (am_wI s 11 0 (0)) 11 2 (0))) none (fun _ => rfl) rfl (fun _ _ h => h)

def f_X8_beginRule (b : Nat) (s : am_S) : Option (Unit × am_S) := if (s.1 b 0) < 20 then (am_gu (am_in (s.1 b 0) 20) (some ((), (am_wI (am_wI s (b + 1) (Int32.toNatClampNeg (s.1 b 0)) (s.1 b 2)) b 0 ((s.1 b 0) + 1))))) else (some ((), s))
set_option maxRecDepth 20000 in
theorem r_X8_beginRule_5 (d : Nat) (sw : Bool) (s s' : am_S) (v : Unit) (e : f_X8_beginRule 5 s = some (v, s')) : am_Run (d + 1) 65 [.ref 5] (am_hp sw s) (am_cU v) (am_hp sw s') := by
  refine am_Run.of (M := mt_X8_beginRule) (cvf := am_cU) (X := f_X8_beginRule 5 s) rfl rfl rfl (by simp) ?_ e
  unfold f_X8_beginRule
  show am_Sm tb_X8_beginRule 8 false none none (d + 0) (am_po am_cU sw) _ 0 [.ref 5] [] (am_hp sw s)
  refine sm_br 4 9 32 [.ref 5] [] (am_hp sw s) (fun _ => rfl) (fun _ => ?_) (fun _ => ?_)
  · refine sm_iast 6 21 [.ref 5] [] sw s (i := (s.1 5 0)) (x := (s.1 5 2)) (c := 6) (fun _ => rfl) rfl rfl rfl ?_
    exact sm_ret 6 32 [.ref 5] [] (am_hp sw (am_wI (am_wI s 6 (Int32.toNatClampNeg (s.1 5 0)) (s.1 5 2)) 5 0 ((s.1 5 0) + 1))) none (fun _ => rfl) rfl (fun _ _ h => h)
  · exact sm_ret 0 32 [.ref 5] [] (am_hp sw s) none (fun _ => rfl) rfl (fun _ _ h => h)

set_option maxRecDepth 20000 in
theorem r_X8_beginRule_11 (d : Nat) (sw : Bool) (s s' : am_S) (v : Unit) (e : f_X8_beginRule 11 s = some (v, s')) : am_Run (d + 1) 65 [.ref 11] (am_hp sw s) (am_cU v) (am_hp sw s') := by
  refine am_Run.of (M := mt_X8_beginRule) (cvf := am_cU) (X := f_X8_beginRule 11 s) rfl rfl rfl (by simp) ?_ e
  unfold f_X8_beginRule
  show am_Sm tb_X8_beginRule 8 false none none (d + 0) (am_po am_cU sw) _ 0 [.ref 11] [] (am_hp sw s)
  refine sm_br 4 9 32 [.ref 11] [] (am_hp sw s) (fun _ => rfl) (fun _ => ?_) (fun _ => ?_)
  · refine sm_iast 6 21 [.ref 11] [] sw s (i := (s.1 11 0)) (x := (s.1 11 2)) (c := 12) (fun _ => rfl) rfl rfl rfl ?_
    exact sm_ret 6 32 [.ref 11] [] (am_hp sw (am_wI (am_wI s 12 (Int32.toNatClampNeg (s.1 11 0)) (s.1 11 2)) 11 0 ((s.1 11 0) + 1))) none (fun _ => rfl) rfl (fun _ _ h => h)
  · exact sm_ret 0 32 [.ref 11] [] (am_hp sw s) none (fun _ => rfl) rfl (fun _ _ h => h)

def f_X8_addToken (b : Nat) (s : am_S) (x1 : Int32) (x2 : Int32) : Option (Unit × am_S) := if (s.1 b 2) < 400 then (am_gu (am_in (s.1 b 2) 400) (am_gu (am_in (s.1 b 2) 400) (some ((), (am_wI (am_wI (am_wI s (b + 2) (Int32.toNatClampNeg (s.1 b 2)) x1) (b + 3) (Int32.toNatClampNeg (s.1 b 2)) x2) b 2 ((s.1 b 2) + 1)))))) else (some ((), s))
set_option maxRecDepth 20000 in
theorem r_X8_addToken_5 (d : Nat) (sw : Bool) (s s' : am_S) (x1 : Int32) (x2 : Int32) (v : Unit) (e : f_X8_addToken 5 s x1 x2 = some (v, s')) : am_Run (d + 1) 66 [.ref 5, .int x1, .int x2] (am_hp sw s) (am_cU v) (am_hp sw s') := by
  refine am_Run.of (M := mt_X8_addToken) (cvf := am_cU) (X := f_X8_addToken 5 s x1 x2) rfl rfl rfl (by simp) ?_ e
  unfold f_X8_addToken
  show am_Sm tb_X8_addToken 8 false none none (d + 0) (am_po am_cU sw) _ 0 [.ref 5, .int x1, .int x2] [] (am_hp sw s)
  refine sm_br 4 10 40 [.ref 5, .int x1, .int x2] [] (am_hp sw s) (fun _ => rfl) (fun _ => ?_) (fun _ => ?_)
  · refine sm_iast 5 19 [.ref 5, .int x1, .int x2] [] sw s (i := (s.1 5 2)) (x := x1) (c := 7) (fun _ => rfl) rfl rfl rfl ?_
    refine sm_iast 5 29 [.ref 5, .int x1, .int x2] [] sw (am_wI s 7 (Int32.toNatClampNeg (s.1 5 2)) x1) (i := (s.1 5 2)) (x := x2) (c := 8) (fun _ => rfl) rfl rfl rfl ?_
    exact sm_ret 6 40 [.ref 5, .int x1, .int x2] [] (am_hp sw (am_wI (am_wI (am_wI s 7 (Int32.toNatClampNeg (s.1 5 2)) x1) 8 (Int32.toNatClampNeg (s.1 5 2)) x2) 5 2 ((s.1 5 2) + 1))) none (fun _ => rfl) rfl (fun _ _ h => h)
  · exact sm_ret 0 40 [.ref 5, .int x1, .int x2] [] (am_hp sw s) none (fun _ => rfl) rfl (fun _ _ h => h)

set_option maxRecDepth 20000 in
theorem r_X8_addToken_11 (d : Nat) (sw : Bool) (s s' : am_S) (x1 : Int32) (x2 : Int32) (v : Unit) (e : f_X8_addToken 11 s x1 x2 = some (v, s')) : am_Run (d + 1) 66 [.ref 11, .int x1, .int x2] (am_hp sw s) (am_cU v) (am_hp sw s') := by
  refine am_Run.of (M := mt_X8_addToken) (cvf := am_cU) (X := f_X8_addToken 11 s x1 x2) rfl rfl rfl (by simp) ?_ e
  unfold f_X8_addToken
  show am_Sm tb_X8_addToken 8 false none none (d + 0) (am_po am_cU sw) _ 0 [.ref 11, .int x1, .int x2] [] (am_hp sw s)
  refine sm_br 4 10 40 [.ref 11, .int x1, .int x2] [] (am_hp sw s) (fun _ => rfl) (fun _ => ?_) (fun _ => ?_)
  · refine sm_iast 5 19 [.ref 11, .int x1, .int x2] [] sw s (i := (s.1 11 2)) (x := x1) (c := 13) (fun _ => rfl) rfl rfl rfl ?_
    refine sm_iast 5 29 [.ref 11, .int x1, .int x2] [] sw (am_wI s 13 (Int32.toNatClampNeg (s.1 11 2)) x1) (i := (s.1 11 2)) (x := x2) (c := 14) (fun _ => rfl) rfl rfl rfl ?_
    exact sm_ret 6 40 [.ref 11, .int x1, .int x2] [] (am_hp sw (am_wI (am_wI (am_wI s 13 (Int32.toNatClampNeg (s.1 11 2)) x1) 14 (Int32.toNatClampNeg (s.1 11 2)) x2) 11 2 ((s.1 11 2) + 1))) none (fun _ => rfl) rfl (fun _ _ h => h)
  · exact sm_ret 0 40 [.ref 11, .int x1, .int x2] [] (am_hp sw s) none (fun _ => rfl) rfl (fun _ _ h => h)

def f_X9_restart (s : am_S) : Option (Unit × am_S) := some ((), (am_wI (am_wI s 4 1 (0)) 4 2 (0)))
set_option maxRecDepth 20000 in
theorem r_X9_restart (d : Nat) (sw : Bool) (s s' : am_S) (v : Unit) (e : f_X9_restart s = some (v, s')) : am_Run (d + 1) 78 [.ref 4] (am_hp sw s) (am_cU v) (am_hp sw s') := by
  refine am_Run.of (M := mt_X9_restart) (cvf := am_cU) (X := f_X9_restart s) rfl rfl rfl (by simp) ?_ e
  unfold f_X9_restart
  show am_Sm tb_X9_restart 9 false none none (d + 0) (am_po am_cU sw) _ 0 [.ref 4] [] (am_hp sw s)
  exact sm_ret 6 10 [.ref 4] [] (am_hp sw (am_wI (am_wI s 4 1 (0)) 4 2 (0))) none (fun _ => rfl) rfl (fun _ _ h => h)

def f_X9_isBlank (s : am_S) (x0 : Int32) : Option (Int32 × am_S) := if x0 = 9 then (some ((1), s)) else (if x0 = 10 then (some ((1), s)) else (if x0 = 13 then (some ((1), s)) else (if x0 = 32 then (some ((1), s)) else (some ((0), s)))))
set_option maxRecDepth 20000 in
theorem r_X9_isBlank (d : Nat) (sw : Bool) (s s' : am_S) (x0 : Int32) (v : Int32) (e : f_X9_isBlank s x0 = some (v, s')) : am_Run (d + 1) 80 [.int x0] (am_hp sw s) (am_cI v) (am_hp sw s') := by
  refine am_Run.of (M := mt_X9_isBlank) (cvf := am_cI) (X := f_X9_isBlank s x0) rfl rfl rfl (by simp) ?_ e
  unfold f_X9_isBlank
  show am_Sm tb_X9_isBlank 9 false none (some .boolean) (d + 0) (am_po am_cI sw) _ 0 [.int x0] [] (am_hp sw s)
  refine sm_br 3 24 6 [.int x0] [] (am_hp sw s) (fun _ => rfl) (fun _ => ?_) (fun _ => ?_)
  · exact sm_ret 2 29 [.int x0] [.int (1)] (am_hp sw s) (some (.int (1))) (fun _ => rfl) rfl (fun _ _ h => h)
  · refine sm_br 3 24 12 [.int x0] [] (am_hp sw s) (fun _ => rfl) (fun _ => ?_) (fun _ => ?_)
    · exact sm_ret 2 29 [.int x0] [.int (1)] (am_hp sw s) (some (.int (1))) (fun _ => rfl) rfl (fun _ _ h => h)
    · refine sm_br 3 24 18 [.int x0] [] (am_hp sw s) (fun _ => rfl) (fun _ => ?_) (fun _ => ?_)
      · exact sm_ret 2 29 [.int x0] [.int (1)] (am_hp sw s) (some (.int (1))) (fun _ => rfl) rfl (fun _ _ h => h)
      · refine sm_br 3 24 28 [.int x0] [] (am_hp sw s) (fun _ => rfl) (fun _ => ?_) (fun _ => ?_)
        · exact sm_ret 2 29 [.int x0] [.int (1)] (am_hp sw s) (some (.int (1))) (fun _ => rfl) rfl (fun _ _ h => h)
        · exact sm_ret 1 29 [.int x0] [.int (0)] (am_hp sw s) (some (.int (0))) (fun _ => rfl) rfl (fun _ _ h => h)

def f_X9_isLetter (s : am_S) (x0 : Int32) : Option (Int32 × am_S) := if x0 < 97 then (some ((0), s)) else (if 122 < x0 then (some ((0), s)) else (some ((1), s)))
set_option maxRecDepth 20000 in
theorem r_X9_isLetter (d : Nat) (sw : Bool) (s s' : am_S) (x0 : Int32) (v : Int32) (e : f_X9_isLetter s x0 = some (v, s')) : am_Run (d + 1) 81 [.int x0] (am_hp sw s) (am_cI v) (am_hp sw s') := by
  refine am_Run.of (M := mt_X9_isLetter) (cvf := am_cI) (X := f_X9_isLetter s x0) rfl rfl rfl (by simp) ?_ e
  unfold f_X9_isLetter
  show am_Sm tb_X9_isLetter 9 false none (some .boolean) (d + 0) (am_po am_cI sw) _ 0 [.int x0] [] (am_hp sw s)
  refine sm_br 3 16 6 [.int x0] [] (am_hp sw s) (fun _ => rfl) (fun _ => ?_) (fun _ => ?_)
  · exact sm_ret 1 17 [.int x0] [.int (0)] (am_hp sw s) (some (.int (0))) (fun _ => rfl) rfl (fun _ _ h => h)
  · refine sm_br 3 16 12 [.int x0] [] (am_hp sw s) (fun _ => rfl) (fun _ => ?_) (fun _ => ?_)
    · exact sm_ret 1 17 [.int x0] [.int (0)] (am_hp sw s) (some (.int (0))) (fun _ => rfl) rfl (fun _ _ h => h)
    · exact sm_ret 2 17 [.int x0] [.int (1)] (am_hp sw s) (some (.int (1))) (fun _ => rfl) rfl (fun _ _ h => h)

def f_X9_isDigit (s : am_S) (x0 : Int32) : Option (Int32 × am_S) := if x0 < 48 then (some ((0), s)) else (if 57 < x0 then (some ((0), s)) else (some ((1), s)))
set_option maxRecDepth 20000 in
theorem r_X9_isDigit (d : Nat) (sw : Bool) (s s' : am_S) (x0 : Int32) (v : Int32) (e : f_X9_isDigit s x0 = some (v, s')) : am_Run (d + 1) 82 [.int x0] (am_hp sw s) (am_cI v) (am_hp sw s') := by
  refine am_Run.of (M := mt_X9_isDigit) (cvf := am_cI) (X := f_X9_isDigit s x0) rfl rfl rfl (by simp) ?_ e
  unfold f_X9_isDigit
  show am_Sm tb_X9_isDigit 9 false none (some .boolean) (d + 0) (am_po am_cI sw) _ 0 [.int x0] [] (am_hp sw s)
  refine sm_br 3 16 6 [.int x0] [] (am_hp sw s) (fun _ => rfl) (fun _ => ?_) (fun _ => ?_)
  · exact sm_ret 1 17 [.int x0] [.int (0)] (am_hp sw s) (some (.int (0))) (fun _ => rfl) rfl (fun _ _ h => h)
  · refine sm_br 3 16 12 [.int x0] [] (am_hp sw s) (fun _ => rfl) (fun _ => ?_) (fun _ => ?_)
    · exact sm_ret 1 17 [.int x0] [.int (0)] (am_hp sw s) (some (.int (0))) (fun _ => rfl) rfl (fun _ _ h => h)
    · exact sm_ret 2 17 [.int x0] [.int (1)] (am_hp sw s) (some (.int (1))) (fun _ => rfl) rfl (fun _ _ h => h)

def f_X10_at (s : am_S) (x1 : Int32) : Option (Int32 × am_S) := if x1 < 0 then (some ((-1), s)) else (if x1 < (s.1 1 1) then (am_gu (am_in x1 2000) (some (((s.1 2 (Int32.toNatClampNeg x1)) &&& 255), s))) else (some ((-1), s)))
set_option maxRecDepth 20000 in
theorem r_X10_at (d : Nat) (sw : Bool) (s s' : am_S) (x1 : Int32) (v : Int32) (e : f_X10_at s x1 = some (v, s')) : am_Run (d + 1) 92 [.ref 1, .int x1] (am_hp sw s) (am_cI v) (am_hp sw s') := by
  refine am_Run.of (M := mt_X10_at) (cvf := am_cI) (X := f_X10_at s x1) rfl rfl rfl (by simp) ?_ e
  unfold f_X10_at
  show am_Sm tb_X10_at 10 false none (some .int) (d + 0) (am_po am_cI sw) _ 0 [.ref 1, .int x1] [] (am_hp sw s)
  refine sm_br 2 25 4 [.ref 1, .int x1] [] (am_hp sw s) (fun _ => rfl) (fun _ => ?_) (fun _ => ?_)
  · exact sm_ret 1 26 [.ref 1, .int x1] [.int (-1)] (am_hp sw s) (some (.int (-1))) (fun _ => rfl) rfl (fun _ _ h => h)
  · refine sm_br 4 12 25 [.ref 1, .int x1] [] (am_hp sw s) (fun _ => rfl) (fun _ => ?_) (fun _ => ?_)
    · refine sm_bald 3 17 [.ref 1, .int x1] [] (am_hp sw s) (i := x1) (c := 2) (fun _ => rfl) rfl rfl rfl rfl ?_
      exact sm_ret 3 26 [.ref 1, .int x1] [.int ((s.1 2 (Int32.toNatClampNeg x1)) &&& 255)] (am_hp sw s) (some (.int ((s.1 2 (Int32.toNatClampNeg x1)) &&& 255))) (fun _ => rfl) rfl (fun _ _ h => h)
    · exact sm_ret 1 26 [.ref 1, .int x1] [.int (-1)] (am_hp sw s) (some (.int (-1))) (fun _ => rfl) rfl (fun _ _ h => h)

def f_X9_spells_L20 (b : Nat) : Nat → Int32 → am_S → Option ((Int32 × am_S) ⊕ ((Unit) × am_S))
  | 0, _, _ => none
  | n + 1, x2, s => am_bd (f_J_length b s) (fun v22 s22 => if x2 < v22 then (am_bd (f_J_charAt b s22 x2) (fun v30 s30 => am_bd (f_X10_at s30 ((s30.1 4 1) + x2)) (fun v43 s43 => if v30 = v43 then (f_X9_spells_L20 b n (x2 + 1) s43) else (some (.inl ((0), s43)))))) else (some (.inr ((), s22))))
def f_X9_spells (b : Nat) (s : am_S) : Option (Int32 × am_S) := am_bd (f_J_length b s) (fun v1 s1 => if v1 = ((s1.1 4 2) - (s1.1 4 1)) then (am_lp (fun y => y) (f_X9_spells_L20 b am_FU (0) s1) (fun (_ : Unit) s20 => some ((1), s20))) else (some ((0), s1)))
set_option maxRecDepth 20000 in
theorem l_X9_spells_20_0 (d : Nat) (sw : Bool) : ∀ (n : Nat) (x2 : Int32) (s : am_S), am_Sm tb_X9_spells 9 false none (some .boolean) (d + 3) (am_pl am_cI sw (fun (v9 : Unit) s9 r h9 => am_Ex tb_X9_spells 9 false none (some .boolean) (d + 3) r h9 57 [.null, .null, .null] [] (am_hp sw s9))) (f_X9_spells_L20 0 n x2 s) 20 [.ref 4, .ref 1000, .int x2] [] (am_hp sw s) := by
  intro n
  induction n with
  | zero => intro x2 s; exact sm_no
  | succ n ih =>
    intro x2 s
    rw [f_X9_spells_L20]
    refine sm_call (cvf := am_cI) 2 22 [.ref 4, .ref 1000, .int x2] [.ref 1000, .int x2] sw s 900 [.ref 1000] [.int x2] (fun _ => rfl) rfl (fun _ _ e9 => r_J_length_0 (d + 0) sw _ _  _ e9) am_pl20 (fun v22 s22 => ?_)
    refine sm_br 1 28 57 [.ref 4, .ref 1000, .int x2] [] (am_hp sw s22) (fun _ => rfl) (fun _ => ?_) (fun _ => ?_)
    · refine sm_call (cvf := am_cI) 2 30 [.ref 4, .ref 1000, .int x2] [.int x2, .ref 1000] sw s22 901 [.ref 1000, .int x2] [] (fun _ => rfl) rfl (fun _ _ e9 => r_J_charAt_0 (d + 0) sw _ _ _ _ e9) am_pl20 (fun v30 s30 => ?_)
      refine sm_call (cvf := am_cI) 6 43 [.ref 4, .ref 1000, .int x2] [.int ((s30.1 4 1) + x2), .ref 1, .int v30] sw s30 92 [.ref 1, .int ((s30.1 4 1) + x2)] [.int v30] (fun _ => rfl) rfl (fun _ _ e9 => r_X10_at (d + 2) sw _ _ _ _ e9) am_pl20 (fun v43 s43 => ?_)
      refine sm_br 1 51 49 [.ref 4, .ref 1000, .int x2] [] (am_hp sw s43) (fun _ => rfl) (fun _ => ?_) (fun _ => ?_)
      · refine sm_go 2 20 [.ref 4, .ref 1000, .int (x2 + 1)] [] (am_hp sw s43) (fun _ => rfl) ?_
        exact ih (x2 + 1) s43
      · exact sm_ret 1 50 [.ref 4, .ref 1000, .int x2] [.int (0)] (am_hp sw s43) (some (.int (0))) (fun _ => rfl) rfl (fun _ _ h => h)
    · refine sm_fg [.null, .null, .null] ⟨Or.inl rfl, Or.inl rfl, Or.inl rfl, trivial⟩ ?_
      exact sm_ex (fun _ _ h => h.2)

set_option maxRecDepth 20000 in
theorem r_X9_spells_0 (d : Nat) (sw : Bool) (s s' : am_S) (v : Int32) (e : f_X9_spells 0 s = some (v, s')) : am_Run (d + 4) 86 [.ref 4, .ref 1000] (am_hp sw s) (am_cI v) (am_hp sw s') := by
  refine am_Run.of (M := mt_X9_spells) (cvf := am_cI) (X := f_X9_spells 0 s) rfl rfl rfl (by simp) ?_ e
  unfold f_X9_spells
  show am_Sm tb_X9_spells 9 false none (some .boolean) (d + 3) (am_po am_cI sw) _ 0 [.ref 4, .ref 1000, .null] [] (am_hp sw s)
  refine sm_call (cvf := am_cI) 1 1 [.ref 4, .ref 1000, .null] [.ref 1000] sw s 900 [.ref 1000] [] (fun _ => rfl) rfl (fun _ _ e9 => r_J_length_0 (d + 0) sw _ _  _ e9) am_po20 (fun v1 s1 => ?_)
  refine sm_br 6 18 16 [.ref 4, .ref 1000, .null] [] (am_hp sw s1) (fun _ => rfl) (fun _ => ?_) (fun _ => ?_)
  · refine sm_go 2 20 [.ref 4, .ref 1000, .int (0)] [] (am_hp sw s1) (fun _ => rfl) ?_
    refine sm_lp 57 (fun _y => [.null, .null, .null]) (l_X9_spells_20_0 d sw am_FU (0) s1) (fun _ _ _ h => h) am_po20 (fun _y s20 => ?_)
    exact sm_ret 1 58 [.null, .null, .null] [.int (1)] (am_hp sw s20) (some (.int (1))) (fun _ => rfl) rfl (fun _ _ h => h)
  · exact sm_ret 1 17 [.ref 4, .ref 1000, .null] [.int (0)] (am_hp sw s1) (some (.int (0))) (fun _ => rfl) rfl (fun _ _ h => h)

set_option maxRecDepth 20000 in
theorem l_X9_spells_20_1 (d : Nat) (sw : Bool) : ∀ (n : Nat) (x2 : Int32) (s : am_S), am_Sm tb_X9_spells 9 false none (some .boolean) (d + 3) (am_pl am_cI sw (fun (v9 : Unit) s9 r h9 => am_Ex tb_X9_spells 9 false none (some .boolean) (d + 3) r h9 57 [.null, .null, .null] [] (am_hp sw s9))) (f_X9_spells_L20 1 n x2 s) 20 [.ref 4, .ref 1001, .int x2] [] (am_hp sw s) := by
  intro n
  induction n with
  | zero => intro x2 s; exact sm_no
  | succ n ih =>
    intro x2 s
    rw [f_X9_spells_L20]
    refine sm_call (cvf := am_cI) 2 22 [.ref 4, .ref 1001, .int x2] [.ref 1001, .int x2] sw s 900 [.ref 1001] [.int x2] (fun _ => rfl) rfl (fun _ _ e9 => r_J_length_1 (d + 0) sw _ _  _ e9) am_pl20 (fun v22 s22 => ?_)
    refine sm_br 1 28 57 [.ref 4, .ref 1001, .int x2] [] (am_hp sw s22) (fun _ => rfl) (fun _ => ?_) (fun _ => ?_)
    · refine sm_call (cvf := am_cI) 2 30 [.ref 4, .ref 1001, .int x2] [.int x2, .ref 1001] sw s22 901 [.ref 1001, .int x2] [] (fun _ => rfl) rfl (fun _ _ e9 => r_J_charAt_1 (d + 0) sw _ _ _ _ e9) am_pl20 (fun v30 s30 => ?_)
      refine sm_call (cvf := am_cI) 6 43 [.ref 4, .ref 1001, .int x2] [.int ((s30.1 4 1) + x2), .ref 1, .int v30] sw s30 92 [.ref 1, .int ((s30.1 4 1) + x2)] [.int v30] (fun _ => rfl) rfl (fun _ _ e9 => r_X10_at (d + 2) sw _ _ _ _ e9) am_pl20 (fun v43 s43 => ?_)
      refine sm_br 1 51 49 [.ref 4, .ref 1001, .int x2] [] (am_hp sw s43) (fun _ => rfl) (fun _ => ?_) (fun _ => ?_)
      · refine sm_go 2 20 [.ref 4, .ref 1001, .int (x2 + 1)] [] (am_hp sw s43) (fun _ => rfl) ?_
        exact ih (x2 + 1) s43
      · exact sm_ret 1 50 [.ref 4, .ref 1001, .int x2] [.int (0)] (am_hp sw s43) (some (.int (0))) (fun _ => rfl) rfl (fun _ _ h => h)
    · refine sm_fg [.null, .null, .null] ⟨Or.inl rfl, Or.inl rfl, Or.inl rfl, trivial⟩ ?_
      exact sm_ex (fun _ _ h => h.2)

set_option maxRecDepth 20000 in
theorem r_X9_spells_1 (d : Nat) (sw : Bool) (s s' : am_S) (v : Int32) (e : f_X9_spells 1 s = some (v, s')) : am_Run (d + 4) 86 [.ref 4, .ref 1001] (am_hp sw s) (am_cI v) (am_hp sw s') := by
  refine am_Run.of (M := mt_X9_spells) (cvf := am_cI) (X := f_X9_spells 1 s) rfl rfl rfl (by simp) ?_ e
  unfold f_X9_spells
  show am_Sm tb_X9_spells 9 false none (some .boolean) (d + 3) (am_po am_cI sw) _ 0 [.ref 4, .ref 1001, .null] [] (am_hp sw s)
  refine sm_call (cvf := am_cI) 1 1 [.ref 4, .ref 1001, .null] [.ref 1001] sw s 900 [.ref 1001] [] (fun _ => rfl) rfl (fun _ _ e9 => r_J_length_1 (d + 0) sw _ _  _ e9) am_po20 (fun v1 s1 => ?_)
  refine sm_br 6 18 16 [.ref 4, .ref 1001, .null] [] (am_hp sw s1) (fun _ => rfl) (fun _ => ?_) (fun _ => ?_)
  · refine sm_go 2 20 [.ref 4, .ref 1001, .int (0)] [] (am_hp sw s1) (fun _ => rfl) ?_
    refine sm_lp 57 (fun _y => [.null, .null, .null]) (l_X9_spells_20_1 d sw am_FU (0) s1) (fun _ _ _ h => h) am_po20 (fun _y s20 => ?_)
    exact sm_ret 1 58 [.null, .null, .null] [.int (1)] (am_hp sw s20) (some (.int (1))) (fun _ => rfl) rfl (fun _ _ h => h)
  · exact sm_ret 1 17 [.ref 4, .ref 1001, .null] [.int (0)] (am_hp sw s1) (some (.int (0))) (fun _ => rfl) rfl (fun _ _ h => h)

set_option maxRecDepth 20000 in
theorem l_X9_spells_20_2 (d : Nat) (sw : Bool) : ∀ (n : Nat) (x2 : Int32) (s : am_S), am_Sm tb_X9_spells 9 false none (some .boolean) (d + 3) (am_pl am_cI sw (fun (v9 : Unit) s9 r h9 => am_Ex tb_X9_spells 9 false none (some .boolean) (d + 3) r h9 57 [.null, .null, .null] [] (am_hp sw s9))) (f_X9_spells_L20 2 n x2 s) 20 [.ref 4, .ref 1002, .int x2] [] (am_hp sw s) := by
  intro n
  induction n with
  | zero => intro x2 s; exact sm_no
  | succ n ih =>
    intro x2 s
    rw [f_X9_spells_L20]
    refine sm_call (cvf := am_cI) 2 22 [.ref 4, .ref 1002, .int x2] [.ref 1002, .int x2] sw s 900 [.ref 1002] [.int x2] (fun _ => rfl) rfl (fun _ _ e9 => r_J_length_2 (d + 0) sw _ _  _ e9) am_pl20 (fun v22 s22 => ?_)
    refine sm_br 1 28 57 [.ref 4, .ref 1002, .int x2] [] (am_hp sw s22) (fun _ => rfl) (fun _ => ?_) (fun _ => ?_)
    · refine sm_call (cvf := am_cI) 2 30 [.ref 4, .ref 1002, .int x2] [.int x2, .ref 1002] sw s22 901 [.ref 1002, .int x2] [] (fun _ => rfl) rfl (fun _ _ e9 => r_J_charAt_2 (d + 0) sw _ _ _ _ e9) am_pl20 (fun v30 s30 => ?_)
      refine sm_call (cvf := am_cI) 6 43 [.ref 4, .ref 1002, .int x2] [.int ((s30.1 4 1) + x2), .ref 1, .int v30] sw s30 92 [.ref 1, .int ((s30.1 4 1) + x2)] [.int v30] (fun _ => rfl) rfl (fun _ _ e9 => r_X10_at (d + 2) sw _ _ _ _ e9) am_pl20 (fun v43 s43 => ?_)
      refine sm_br 1 51 49 [.ref 4, .ref 1002, .int x2] [] (am_hp sw s43) (fun _ => rfl) (fun _ => ?_) (fun _ => ?_)
      · refine sm_go 2 20 [.ref 4, .ref 1002, .int (x2 + 1)] [] (am_hp sw s43) (fun _ => rfl) ?_
        exact ih (x2 + 1) s43
      · exact sm_ret 1 50 [.ref 4, .ref 1002, .int x2] [.int (0)] (am_hp sw s43) (some (.int (0))) (fun _ => rfl) rfl (fun _ _ h => h)
    · refine sm_fg [.null, .null, .null] ⟨Or.inl rfl, Or.inl rfl, Or.inl rfl, trivial⟩ ?_
      exact sm_ex (fun _ _ h => h.2)

set_option maxRecDepth 20000 in
theorem r_X9_spells_2 (d : Nat) (sw : Bool) (s s' : am_S) (v : Int32) (e : f_X9_spells 2 s = some (v, s')) : am_Run (d + 4) 86 [.ref 4, .ref 1002] (am_hp sw s) (am_cI v) (am_hp sw s') := by
  refine am_Run.of (M := mt_X9_spells) (cvf := am_cI) (X := f_X9_spells 2 s) rfl rfl rfl (by simp) ?_ e
  unfold f_X9_spells
  show am_Sm tb_X9_spells 9 false none (some .boolean) (d + 3) (am_po am_cI sw) _ 0 [.ref 4, .ref 1002, .null] [] (am_hp sw s)
  refine sm_call (cvf := am_cI) 1 1 [.ref 4, .ref 1002, .null] [.ref 1002] sw s 900 [.ref 1002] [] (fun _ => rfl) rfl (fun _ _ e9 => r_J_length_2 (d + 0) sw _ _  _ e9) am_po20 (fun v1 s1 => ?_)
  refine sm_br 6 18 16 [.ref 4, .ref 1002, .null] [] (am_hp sw s1) (fun _ => rfl) (fun _ => ?_) (fun _ => ?_)
  · refine sm_go 2 20 [.ref 4, .ref 1002, .int (0)] [] (am_hp sw s1) (fun _ => rfl) ?_
    refine sm_lp 57 (fun _y => [.null, .null, .null]) (l_X9_spells_20_2 d sw am_FU (0) s1) (fun _ _ _ h => h) am_po20 (fun _y s20 => ?_)
    exact sm_ret 1 58 [.null, .null, .null] [.int (1)] (am_hp sw s20) (some (.int (1))) (fun _ => rfl) rfl (fun _ _ h => h)
  · exact sm_ret 1 17 [.ref 4, .ref 1002, .null] [.int (0)] (am_hp sw s1) (some (.int (0))) (fun _ => rfl) rfl (fun _ _ h => h)

set_option maxRecDepth 20000 in
theorem l_X9_spells_20_3 (d : Nat) (sw : Bool) : ∀ (n : Nat) (x2 : Int32) (s : am_S), am_Sm tb_X9_spells 9 false none (some .boolean) (d + 3) (am_pl am_cI sw (fun (v9 : Unit) s9 r h9 => am_Ex tb_X9_spells 9 false none (some .boolean) (d + 3) r h9 57 [.null, .null, .null] [] (am_hp sw s9))) (f_X9_spells_L20 3 n x2 s) 20 [.ref 4, .ref 1003, .int x2] [] (am_hp sw s) := by
  intro n
  induction n with
  | zero => intro x2 s; exact sm_no
  | succ n ih =>
    intro x2 s
    rw [f_X9_spells_L20]
    refine sm_call (cvf := am_cI) 2 22 [.ref 4, .ref 1003, .int x2] [.ref 1003, .int x2] sw s 900 [.ref 1003] [.int x2] (fun _ => rfl) rfl (fun _ _ e9 => r_J_length_3 (d + 0) sw _ _  _ e9) am_pl20 (fun v22 s22 => ?_)
    refine sm_br 1 28 57 [.ref 4, .ref 1003, .int x2] [] (am_hp sw s22) (fun _ => rfl) (fun _ => ?_) (fun _ => ?_)
    · refine sm_call (cvf := am_cI) 2 30 [.ref 4, .ref 1003, .int x2] [.int x2, .ref 1003] sw s22 901 [.ref 1003, .int x2] [] (fun _ => rfl) rfl (fun _ _ e9 => r_J_charAt_3 (d + 0) sw _ _ _ _ e9) am_pl20 (fun v30 s30 => ?_)
      refine sm_call (cvf := am_cI) 6 43 [.ref 4, .ref 1003, .int x2] [.int ((s30.1 4 1) + x2), .ref 1, .int v30] sw s30 92 [.ref 1, .int ((s30.1 4 1) + x2)] [.int v30] (fun _ => rfl) rfl (fun _ _ e9 => r_X10_at (d + 2) sw _ _ _ _ e9) am_pl20 (fun v43 s43 => ?_)
      refine sm_br 1 51 49 [.ref 4, .ref 1003, .int x2] [] (am_hp sw s43) (fun _ => rfl) (fun _ => ?_) (fun _ => ?_)
      · refine sm_go 2 20 [.ref 4, .ref 1003, .int (x2 + 1)] [] (am_hp sw s43) (fun _ => rfl) ?_
        exact ih (x2 + 1) s43
      · exact sm_ret 1 50 [.ref 4, .ref 1003, .int x2] [.int (0)] (am_hp sw s43) (some (.int (0))) (fun _ => rfl) rfl (fun _ _ h => h)
    · refine sm_fg [.null, .null, .null] ⟨Or.inl rfl, Or.inl rfl, Or.inl rfl, trivial⟩ ?_
      exact sm_ex (fun _ _ h => h.2)

set_option maxRecDepth 20000 in
theorem r_X9_spells_3 (d : Nat) (sw : Bool) (s s' : am_S) (v : Int32) (e : f_X9_spells 3 s = some (v, s')) : am_Run (d + 4) 86 [.ref 4, .ref 1003] (am_hp sw s) (am_cI v) (am_hp sw s') := by
  refine am_Run.of (M := mt_X9_spells) (cvf := am_cI) (X := f_X9_spells 3 s) rfl rfl rfl (by simp) ?_ e
  unfold f_X9_spells
  show am_Sm tb_X9_spells 9 false none (some .boolean) (d + 3) (am_po am_cI sw) _ 0 [.ref 4, .ref 1003, .null] [] (am_hp sw s)
  refine sm_call (cvf := am_cI) 1 1 [.ref 4, .ref 1003, .null] [.ref 1003] sw s 900 [.ref 1003] [] (fun _ => rfl) rfl (fun _ _ e9 => r_J_length_3 (d + 0) sw _ _  _ e9) am_po20 (fun v1 s1 => ?_)
  refine sm_br 6 18 16 [.ref 4, .ref 1003, .null] [] (am_hp sw s1) (fun _ => rfl) (fun _ => ?_) (fun _ => ?_)
  · refine sm_go 2 20 [.ref 4, .ref 1003, .int (0)] [] (am_hp sw s1) (fun _ => rfl) ?_
    refine sm_lp 57 (fun _y => [.null, .null, .null]) (l_X9_spells_20_3 d sw am_FU (0) s1) (fun _ _ _ h => h) am_po20 (fun _y s20 => ?_)
    exact sm_ret 1 58 [.null, .null, .null] [.int (1)] (am_hp sw s20) (some (.int (1))) (fun _ => rfl) rfl (fun _ _ h => h)
  · exact sm_ret 1 17 [.ref 4, .ref 1003, .null] [.int (0)] (am_hp sw s1) (some (.int (0))) (fun _ => rfl) rfl (fun _ _ h => h)

set_option maxRecDepth 20000 in
theorem l_X9_spells_20_4 (d : Nat) (sw : Bool) : ∀ (n : Nat) (x2 : Int32) (s : am_S), am_Sm tb_X9_spells 9 false none (some .boolean) (d + 3) (am_pl am_cI sw (fun (v9 : Unit) s9 r h9 => am_Ex tb_X9_spells 9 false none (some .boolean) (d + 3) r h9 57 [.null, .null, .null] [] (am_hp sw s9))) (f_X9_spells_L20 4 n x2 s) 20 [.ref 4, .ref 1004, .int x2] [] (am_hp sw s) := by
  intro n
  induction n with
  | zero => intro x2 s; exact sm_no
  | succ n ih =>
    intro x2 s
    rw [f_X9_spells_L20]
    refine sm_call (cvf := am_cI) 2 22 [.ref 4, .ref 1004, .int x2] [.ref 1004, .int x2] sw s 900 [.ref 1004] [.int x2] (fun _ => rfl) rfl (fun _ _ e9 => r_J_length_4 (d + 0) sw _ _  _ e9) am_pl20 (fun v22 s22 => ?_)
    refine sm_br 1 28 57 [.ref 4, .ref 1004, .int x2] [] (am_hp sw s22) (fun _ => rfl) (fun _ => ?_) (fun _ => ?_)
    · refine sm_call (cvf := am_cI) 2 30 [.ref 4, .ref 1004, .int x2] [.int x2, .ref 1004] sw s22 901 [.ref 1004, .int x2] [] (fun _ => rfl) rfl (fun _ _ e9 => r_J_charAt_4 (d + 0) sw _ _ _ _ e9) am_pl20 (fun v30 s30 => ?_)
      refine sm_call (cvf := am_cI) 6 43 [.ref 4, .ref 1004, .int x2] [.int ((s30.1 4 1) + x2), .ref 1, .int v30] sw s30 92 [.ref 1, .int ((s30.1 4 1) + x2)] [.int v30] (fun _ => rfl) rfl (fun _ _ e9 => r_X10_at (d + 2) sw _ _ _ _ e9) am_pl20 (fun v43 s43 => ?_)
      refine sm_br 1 51 49 [.ref 4, .ref 1004, .int x2] [] (am_hp sw s43) (fun _ => rfl) (fun _ => ?_) (fun _ => ?_)
      · refine sm_go 2 20 [.ref 4, .ref 1004, .int (x2 + 1)] [] (am_hp sw s43) (fun _ => rfl) ?_
        exact ih (x2 + 1) s43
      · exact sm_ret 1 50 [.ref 4, .ref 1004, .int x2] [.int (0)] (am_hp sw s43) (some (.int (0))) (fun _ => rfl) rfl (fun _ _ h => h)
    · refine sm_fg [.null, .null, .null] ⟨Or.inl rfl, Or.inl rfl, Or.inl rfl, trivial⟩ ?_
      exact sm_ex (fun _ _ h => h.2)

set_option maxRecDepth 20000 in
theorem r_X9_spells_4 (d : Nat) (sw : Bool) (s s' : am_S) (v : Int32) (e : f_X9_spells 4 s = some (v, s')) : am_Run (d + 4) 86 [.ref 4, .ref 1004] (am_hp sw s) (am_cI v) (am_hp sw s') := by
  refine am_Run.of (M := mt_X9_spells) (cvf := am_cI) (X := f_X9_spells 4 s) rfl rfl rfl (by simp) ?_ e
  unfold f_X9_spells
  show am_Sm tb_X9_spells 9 false none (some .boolean) (d + 3) (am_po am_cI sw) _ 0 [.ref 4, .ref 1004, .null] [] (am_hp sw s)
  refine sm_call (cvf := am_cI) 1 1 [.ref 4, .ref 1004, .null] [.ref 1004] sw s 900 [.ref 1004] [] (fun _ => rfl) rfl (fun _ _ e9 => r_J_length_4 (d + 0) sw _ _  _ e9) am_po20 (fun v1 s1 => ?_)
  refine sm_br 6 18 16 [.ref 4, .ref 1004, .null] [] (am_hp sw s1) (fun _ => rfl) (fun _ => ?_) (fun _ => ?_)
  · refine sm_go 2 20 [.ref 4, .ref 1004, .int (0)] [] (am_hp sw s1) (fun _ => rfl) ?_
    refine sm_lp 57 (fun _y => [.null, .null, .null]) (l_X9_spells_20_4 d sw am_FU (0) s1) (fun _ _ _ h => h) am_po20 (fun _y s20 => ?_)
    exact sm_ret 1 58 [.null, .null, .null] [.int (1)] (am_hp sw s20) (some (.int (1))) (fun _ => rfl) rfl (fun _ _ h => h)
  · exact sm_ret 1 17 [.ref 4, .ref 1004, .null] [.int (0)] (am_hp sw s1) (some (.int (0))) (fun _ => rfl) rfl (fun _ _ h => h)

set_option maxRecDepth 20000 in
theorem l_X9_spells_20_5 (d : Nat) (sw : Bool) : ∀ (n : Nat) (x2 : Int32) (s : am_S), am_Sm tb_X9_spells 9 false none (some .boolean) (d + 3) (am_pl am_cI sw (fun (v9 : Unit) s9 r h9 => am_Ex tb_X9_spells 9 false none (some .boolean) (d + 3) r h9 57 [.null, .null, .null] [] (am_hp sw s9))) (f_X9_spells_L20 5 n x2 s) 20 [.ref 4, .ref 1005, .int x2] [] (am_hp sw s) := by
  intro n
  induction n with
  | zero => intro x2 s; exact sm_no
  | succ n ih =>
    intro x2 s
    rw [f_X9_spells_L20]
    refine sm_call (cvf := am_cI) 2 22 [.ref 4, .ref 1005, .int x2] [.ref 1005, .int x2] sw s 900 [.ref 1005] [.int x2] (fun _ => rfl) rfl (fun _ _ e9 => r_J_length_5 (d + 0) sw _ _  _ e9) am_pl20 (fun v22 s22 => ?_)
    refine sm_br 1 28 57 [.ref 4, .ref 1005, .int x2] [] (am_hp sw s22) (fun _ => rfl) (fun _ => ?_) (fun _ => ?_)
    · refine sm_call (cvf := am_cI) 2 30 [.ref 4, .ref 1005, .int x2] [.int x2, .ref 1005] sw s22 901 [.ref 1005, .int x2] [] (fun _ => rfl) rfl (fun _ _ e9 => r_J_charAt_5 (d + 0) sw _ _ _ _ e9) am_pl20 (fun v30 s30 => ?_)
      refine sm_call (cvf := am_cI) 6 43 [.ref 4, .ref 1005, .int x2] [.int ((s30.1 4 1) + x2), .ref 1, .int v30] sw s30 92 [.ref 1, .int ((s30.1 4 1) + x2)] [.int v30] (fun _ => rfl) rfl (fun _ _ e9 => r_X10_at (d + 2) sw _ _ _ _ e9) am_pl20 (fun v43 s43 => ?_)
      refine sm_br 1 51 49 [.ref 4, .ref 1005, .int x2] [] (am_hp sw s43) (fun _ => rfl) (fun _ => ?_) (fun _ => ?_)
      · refine sm_go 2 20 [.ref 4, .ref 1005, .int (x2 + 1)] [] (am_hp sw s43) (fun _ => rfl) ?_
        exact ih (x2 + 1) s43
      · exact sm_ret 1 50 [.ref 4, .ref 1005, .int x2] [.int (0)] (am_hp sw s43) (some (.int (0))) (fun _ => rfl) rfl (fun _ _ h => h)
    · refine sm_fg [.null, .null, .null] ⟨Or.inl rfl, Or.inl rfl, Or.inl rfl, trivial⟩ ?_
      exact sm_ex (fun _ _ h => h.2)

set_option maxRecDepth 20000 in
theorem r_X9_spells_5 (d : Nat) (sw : Bool) (s s' : am_S) (v : Int32) (e : f_X9_spells 5 s = some (v, s')) : am_Run (d + 4) 86 [.ref 4, .ref 1005] (am_hp sw s) (am_cI v) (am_hp sw s') := by
  refine am_Run.of (M := mt_X9_spells) (cvf := am_cI) (X := f_X9_spells 5 s) rfl rfl rfl (by simp) ?_ e
  unfold f_X9_spells
  show am_Sm tb_X9_spells 9 false none (some .boolean) (d + 3) (am_po am_cI sw) _ 0 [.ref 4, .ref 1005, .null] [] (am_hp sw s)
  refine sm_call (cvf := am_cI) 1 1 [.ref 4, .ref 1005, .null] [.ref 1005] sw s 900 [.ref 1005] [] (fun _ => rfl) rfl (fun _ _ e9 => r_J_length_5 (d + 0) sw _ _  _ e9) am_po20 (fun v1 s1 => ?_)
  refine sm_br 6 18 16 [.ref 4, .ref 1005, .null] [] (am_hp sw s1) (fun _ => rfl) (fun _ => ?_) (fun _ => ?_)
  · refine sm_go 2 20 [.ref 4, .ref 1005, .int (0)] [] (am_hp sw s1) (fun _ => rfl) ?_
    refine sm_lp 57 (fun _y => [.null, .null, .null]) (l_X9_spells_20_5 d sw am_FU (0) s1) (fun _ _ _ h => h) am_po20 (fun _y s20 => ?_)
    exact sm_ret 1 58 [.null, .null, .null] [.int (1)] (am_hp sw s20) (some (.int (1))) (fun _ => rfl) rfl (fun _ _ h => h)
  · exact sm_ret 1 17 [.ref 4, .ref 1005, .null] [.int (0)] (am_hp sw s1) (some (.int (0))) (fun _ => rfl) rfl (fun _ _ h => h)

set_option maxRecDepth 20000 in
theorem l_X9_spells_20_6 (d : Nat) (sw : Bool) : ∀ (n : Nat) (x2 : Int32) (s : am_S), am_Sm tb_X9_spells 9 false none (some .boolean) (d + 3) (am_pl am_cI sw (fun (v9 : Unit) s9 r h9 => am_Ex tb_X9_spells 9 false none (some .boolean) (d + 3) r h9 57 [.null, .null, .null] [] (am_hp sw s9))) (f_X9_spells_L20 6 n x2 s) 20 [.ref 4, .ref 1006, .int x2] [] (am_hp sw s) := by
  intro n
  induction n with
  | zero => intro x2 s; exact sm_no
  | succ n ih =>
    intro x2 s
    rw [f_X9_spells_L20]
    refine sm_call (cvf := am_cI) 2 22 [.ref 4, .ref 1006, .int x2] [.ref 1006, .int x2] sw s 900 [.ref 1006] [.int x2] (fun _ => rfl) rfl (fun _ _ e9 => r_J_length_6 (d + 0) sw _ _  _ e9) am_pl20 (fun v22 s22 => ?_)
    refine sm_br 1 28 57 [.ref 4, .ref 1006, .int x2] [] (am_hp sw s22) (fun _ => rfl) (fun _ => ?_) (fun _ => ?_)
    · refine sm_call (cvf := am_cI) 2 30 [.ref 4, .ref 1006, .int x2] [.int x2, .ref 1006] sw s22 901 [.ref 1006, .int x2] [] (fun _ => rfl) rfl (fun _ _ e9 => r_J_charAt_6 (d + 0) sw _ _ _ _ e9) am_pl20 (fun v30 s30 => ?_)
      refine sm_call (cvf := am_cI) 6 43 [.ref 4, .ref 1006, .int x2] [.int ((s30.1 4 1) + x2), .ref 1, .int v30] sw s30 92 [.ref 1, .int ((s30.1 4 1) + x2)] [.int v30] (fun _ => rfl) rfl (fun _ _ e9 => r_X10_at (d + 2) sw _ _ _ _ e9) am_pl20 (fun v43 s43 => ?_)
      refine sm_br 1 51 49 [.ref 4, .ref 1006, .int x2] [] (am_hp sw s43) (fun _ => rfl) (fun _ => ?_) (fun _ => ?_)
      · refine sm_go 2 20 [.ref 4, .ref 1006, .int (x2 + 1)] [] (am_hp sw s43) (fun _ => rfl) ?_
        exact ih (x2 + 1) s43
      · exact sm_ret 1 50 [.ref 4, .ref 1006, .int x2] [.int (0)] (am_hp sw s43) (some (.int (0))) (fun _ => rfl) rfl (fun _ _ h => h)
    · refine sm_fg [.null, .null, .null] ⟨Or.inl rfl, Or.inl rfl, Or.inl rfl, trivial⟩ ?_
      exact sm_ex (fun _ _ h => h.2)

set_option maxRecDepth 20000 in
theorem r_X9_spells_6 (d : Nat) (sw : Bool) (s s' : am_S) (v : Int32) (e : f_X9_spells 6 s = some (v, s')) : am_Run (d + 4) 86 [.ref 4, .ref 1006] (am_hp sw s) (am_cI v) (am_hp sw s') := by
  refine am_Run.of (M := mt_X9_spells) (cvf := am_cI) (X := f_X9_spells 6 s) rfl rfl rfl (by simp) ?_ e
  unfold f_X9_spells
  show am_Sm tb_X9_spells 9 false none (some .boolean) (d + 3) (am_po am_cI sw) _ 0 [.ref 4, .ref 1006, .null] [] (am_hp sw s)
  refine sm_call (cvf := am_cI) 1 1 [.ref 4, .ref 1006, .null] [.ref 1006] sw s 900 [.ref 1006] [] (fun _ => rfl) rfl (fun _ _ e9 => r_J_length_6 (d + 0) sw _ _  _ e9) am_po20 (fun v1 s1 => ?_)
  refine sm_br 6 18 16 [.ref 4, .ref 1006, .null] [] (am_hp sw s1) (fun _ => rfl) (fun _ => ?_) (fun _ => ?_)
  · refine sm_go 2 20 [.ref 4, .ref 1006, .int (0)] [] (am_hp sw s1) (fun _ => rfl) ?_
    refine sm_lp 57 (fun _y => [.null, .null, .null]) (l_X9_spells_20_6 d sw am_FU (0) s1) (fun _ _ _ h => h) am_po20 (fun _y s20 => ?_)
    exact sm_ret 1 58 [.null, .null, .null] [.int (1)] (am_hp sw s20) (some (.int (1))) (fun _ => rfl) rfl (fun _ _ h => h)
  · exact sm_ret 1 17 [.ref 4, .ref 1006, .null] [.int (0)] (am_hp sw s1) (some (.int (0))) (fun _ => rfl) rfl (fun _ _ h => h)

set_option maxRecDepth 20000 in
theorem l_X9_spells_20_7 (d : Nat) (sw : Bool) : ∀ (n : Nat) (x2 : Int32) (s : am_S), am_Sm tb_X9_spells 9 false none (some .boolean) (d + 3) (am_pl am_cI sw (fun (v9 : Unit) s9 r h9 => am_Ex tb_X9_spells 9 false none (some .boolean) (d + 3) r h9 57 [.null, .null, .null] [] (am_hp sw s9))) (f_X9_spells_L20 7 n x2 s) 20 [.ref 4, .ref 1007, .int x2] [] (am_hp sw s) := by
  intro n
  induction n with
  | zero => intro x2 s; exact sm_no
  | succ n ih =>
    intro x2 s
    rw [f_X9_spells_L20]
    refine sm_call (cvf := am_cI) 2 22 [.ref 4, .ref 1007, .int x2] [.ref 1007, .int x2] sw s 900 [.ref 1007] [.int x2] (fun _ => rfl) rfl (fun _ _ e9 => r_J_length_7 (d + 0) sw _ _  _ e9) am_pl20 (fun v22 s22 => ?_)
    refine sm_br 1 28 57 [.ref 4, .ref 1007, .int x2] [] (am_hp sw s22) (fun _ => rfl) (fun _ => ?_) (fun _ => ?_)
    · refine sm_call (cvf := am_cI) 2 30 [.ref 4, .ref 1007, .int x2] [.int x2, .ref 1007] sw s22 901 [.ref 1007, .int x2] [] (fun _ => rfl) rfl (fun _ _ e9 => r_J_charAt_7 (d + 0) sw _ _ _ _ e9) am_pl20 (fun v30 s30 => ?_)
      refine sm_call (cvf := am_cI) 6 43 [.ref 4, .ref 1007, .int x2] [.int ((s30.1 4 1) + x2), .ref 1, .int v30] sw s30 92 [.ref 1, .int ((s30.1 4 1) + x2)] [.int v30] (fun _ => rfl) rfl (fun _ _ e9 => r_X10_at (d + 2) sw _ _ _ _ e9) am_pl20 (fun v43 s43 => ?_)
      refine sm_br 1 51 49 [.ref 4, .ref 1007, .int x2] [] (am_hp sw s43) (fun _ => rfl) (fun _ => ?_) (fun _ => ?_)
      · refine sm_go 2 20 [.ref 4, .ref 1007, .int (x2 + 1)] [] (am_hp sw s43) (fun _ => rfl) ?_
        exact ih (x2 + 1) s43
      · exact sm_ret 1 50 [.ref 4, .ref 1007, .int x2] [.int (0)] (am_hp sw s43) (some (.int (0))) (fun _ => rfl) rfl (fun _ _ h => h)
    · refine sm_fg [.null, .null, .null] ⟨Or.inl rfl, Or.inl rfl, Or.inl rfl, trivial⟩ ?_
      exact sm_ex (fun _ _ h => h.2)

set_option maxRecDepth 20000 in
theorem r_X9_spells_7 (d : Nat) (sw : Bool) (s s' : am_S) (v : Int32) (e : f_X9_spells 7 s = some (v, s')) : am_Run (d + 4) 86 [.ref 4, .ref 1007] (am_hp sw s) (am_cI v) (am_hp sw s') := by
  refine am_Run.of (M := mt_X9_spells) (cvf := am_cI) (X := f_X9_spells 7 s) rfl rfl rfl (by simp) ?_ e
  unfold f_X9_spells
  show am_Sm tb_X9_spells 9 false none (some .boolean) (d + 3) (am_po am_cI sw) _ 0 [.ref 4, .ref 1007, .null] [] (am_hp sw s)
  refine sm_call (cvf := am_cI) 1 1 [.ref 4, .ref 1007, .null] [.ref 1007] sw s 900 [.ref 1007] [] (fun _ => rfl) rfl (fun _ _ e9 => r_J_length_7 (d + 0) sw _ _  _ e9) am_po20 (fun v1 s1 => ?_)
  refine sm_br 6 18 16 [.ref 4, .ref 1007, .null] [] (am_hp sw s1) (fun _ => rfl) (fun _ => ?_) (fun _ => ?_)
  · refine sm_go 2 20 [.ref 4, .ref 1007, .int (0)] [] (am_hp sw s1) (fun _ => rfl) ?_
    refine sm_lp 57 (fun _y => [.null, .null, .null]) (l_X9_spells_20_7 d sw am_FU (0) s1) (fun _ _ _ h => h) am_po20 (fun _y s20 => ?_)
    exact sm_ret 1 58 [.null, .null, .null] [.int (1)] (am_hp sw s20) (some (.int (1))) (fun _ => rfl) rfl (fun _ _ h => h)
  · exact sm_ret 1 17 [.ref 4, .ref 1007, .null] [.int (0)] (am_hp sw s1) (some (.int (0))) (fun _ => rfl) rfl (fun _ _ h => h)

set_option maxRecDepth 20000 in
theorem l_X9_spells_20_8 (d : Nat) (sw : Bool) : ∀ (n : Nat) (x2 : Int32) (s : am_S), am_Sm tb_X9_spells 9 false none (some .boolean) (d + 3) (am_pl am_cI sw (fun (v9 : Unit) s9 r h9 => am_Ex tb_X9_spells 9 false none (some .boolean) (d + 3) r h9 57 [.null, .null, .null] [] (am_hp sw s9))) (f_X9_spells_L20 8 n x2 s) 20 [.ref 4, .ref 1008, .int x2] [] (am_hp sw s) := by
  intro n
  induction n with
  | zero => intro x2 s; exact sm_no
  | succ n ih =>
    intro x2 s
    rw [f_X9_spells_L20]
    refine sm_call (cvf := am_cI) 2 22 [.ref 4, .ref 1008, .int x2] [.ref 1008, .int x2] sw s 900 [.ref 1008] [.int x2] (fun _ => rfl) rfl (fun _ _ e9 => r_J_length_8 (d + 0) sw _ _  _ e9) am_pl20 (fun v22 s22 => ?_)
    refine sm_br 1 28 57 [.ref 4, .ref 1008, .int x2] [] (am_hp sw s22) (fun _ => rfl) (fun _ => ?_) (fun _ => ?_)
    · refine sm_call (cvf := am_cI) 2 30 [.ref 4, .ref 1008, .int x2] [.int x2, .ref 1008] sw s22 901 [.ref 1008, .int x2] [] (fun _ => rfl) rfl (fun _ _ e9 => r_J_charAt_8 (d + 0) sw _ _ _ _ e9) am_pl20 (fun v30 s30 => ?_)
      refine sm_call (cvf := am_cI) 6 43 [.ref 4, .ref 1008, .int x2] [.int ((s30.1 4 1) + x2), .ref 1, .int v30] sw s30 92 [.ref 1, .int ((s30.1 4 1) + x2)] [.int v30] (fun _ => rfl) rfl (fun _ _ e9 => r_X10_at (d + 2) sw _ _ _ _ e9) am_pl20 (fun v43 s43 => ?_)
      refine sm_br 1 51 49 [.ref 4, .ref 1008, .int x2] [] (am_hp sw s43) (fun _ => rfl) (fun _ => ?_) (fun _ => ?_)
      · refine sm_go 2 20 [.ref 4, .ref 1008, .int (x2 + 1)] [] (am_hp sw s43) (fun _ => rfl) ?_
        exact ih (x2 + 1) s43
      · exact sm_ret 1 50 [.ref 4, .ref 1008, .int x2] [.int (0)] (am_hp sw s43) (some (.int (0))) (fun _ => rfl) rfl (fun _ _ h => h)
    · refine sm_fg [.null, .null, .null] ⟨Or.inl rfl, Or.inl rfl, Or.inl rfl, trivial⟩ ?_
      exact sm_ex (fun _ _ h => h.2)

set_option maxRecDepth 20000 in
theorem r_X9_spells_8 (d : Nat) (sw : Bool) (s s' : am_S) (v : Int32) (e : f_X9_spells 8 s = some (v, s')) : am_Run (d + 4) 86 [.ref 4, .ref 1008] (am_hp sw s) (am_cI v) (am_hp sw s') := by
  refine am_Run.of (M := mt_X9_spells) (cvf := am_cI) (X := f_X9_spells 8 s) rfl rfl rfl (by simp) ?_ e
  unfold f_X9_spells
  show am_Sm tb_X9_spells 9 false none (some .boolean) (d + 3) (am_po am_cI sw) _ 0 [.ref 4, .ref 1008, .null] [] (am_hp sw s)
  refine sm_call (cvf := am_cI) 1 1 [.ref 4, .ref 1008, .null] [.ref 1008] sw s 900 [.ref 1008] [] (fun _ => rfl) rfl (fun _ _ e9 => r_J_length_8 (d + 0) sw _ _  _ e9) am_po20 (fun v1 s1 => ?_)
  refine sm_br 6 18 16 [.ref 4, .ref 1008, .null] [] (am_hp sw s1) (fun _ => rfl) (fun _ => ?_) (fun _ => ?_)
  · refine sm_go 2 20 [.ref 4, .ref 1008, .int (0)] [] (am_hp sw s1) (fun _ => rfl) ?_
    refine sm_lp 57 (fun _y => [.null, .null, .null]) (l_X9_spells_20_8 d sw am_FU (0) s1) (fun _ _ _ h => h) am_po20 (fun _y s20 => ?_)
    exact sm_ret 1 58 [.null, .null, .null] [.int (1)] (am_hp sw s20) (some (.int (1))) (fun _ => rfl) rfl (fun _ _ h => h)
  · exact sm_ret 1 17 [.ref 4, .ref 1008, .null] [.int (0)] (am_hp sw s1) (some (.int (0))) (fun _ => rfl) rfl (fun _ _ h => h)

set_option maxRecDepth 20000 in
theorem l_X9_spells_20_9 (d : Nat) (sw : Bool) : ∀ (n : Nat) (x2 : Int32) (s : am_S), am_Sm tb_X9_spells 9 false none (some .boolean) (d + 3) (am_pl am_cI sw (fun (v9 : Unit) s9 r h9 => am_Ex tb_X9_spells 9 false none (some .boolean) (d + 3) r h9 57 [.null, .null, .null] [] (am_hp sw s9))) (f_X9_spells_L20 9 n x2 s) 20 [.ref 4, .ref 1009, .int x2] [] (am_hp sw s) := by
  intro n
  induction n with
  | zero => intro x2 s; exact sm_no
  | succ n ih =>
    intro x2 s
    rw [f_X9_spells_L20]
    refine sm_call (cvf := am_cI) 2 22 [.ref 4, .ref 1009, .int x2] [.ref 1009, .int x2] sw s 900 [.ref 1009] [.int x2] (fun _ => rfl) rfl (fun _ _ e9 => r_J_length_9 (d + 0) sw _ _  _ e9) am_pl20 (fun v22 s22 => ?_)
    refine sm_br 1 28 57 [.ref 4, .ref 1009, .int x2] [] (am_hp sw s22) (fun _ => rfl) (fun _ => ?_) (fun _ => ?_)
    · refine sm_call (cvf := am_cI) 2 30 [.ref 4, .ref 1009, .int x2] [.int x2, .ref 1009] sw s22 901 [.ref 1009, .int x2] [] (fun _ => rfl) rfl (fun _ _ e9 => r_J_charAt_9 (d + 0) sw _ _ _ _ e9) am_pl20 (fun v30 s30 => ?_)
      refine sm_call (cvf := am_cI) 6 43 [.ref 4, .ref 1009, .int x2] [.int ((s30.1 4 1) + x2), .ref 1, .int v30] sw s30 92 [.ref 1, .int ((s30.1 4 1) + x2)] [.int v30] (fun _ => rfl) rfl (fun _ _ e9 => r_X10_at (d + 2) sw _ _ _ _ e9) am_pl20 (fun v43 s43 => ?_)
      refine sm_br 1 51 49 [.ref 4, .ref 1009, .int x2] [] (am_hp sw s43) (fun _ => rfl) (fun _ => ?_) (fun _ => ?_)
      · refine sm_go 2 20 [.ref 4, .ref 1009, .int (x2 + 1)] [] (am_hp sw s43) (fun _ => rfl) ?_
        exact ih (x2 + 1) s43
      · exact sm_ret 1 50 [.ref 4, .ref 1009, .int x2] [.int (0)] (am_hp sw s43) (some (.int (0))) (fun _ => rfl) rfl (fun _ _ h => h)
    · refine sm_fg [.null, .null, .null] ⟨Or.inl rfl, Or.inl rfl, Or.inl rfl, trivial⟩ ?_
      exact sm_ex (fun _ _ h => h.2)

set_option maxRecDepth 20000 in
theorem r_X9_spells_9 (d : Nat) (sw : Bool) (s s' : am_S) (v : Int32) (e : f_X9_spells 9 s = some (v, s')) : am_Run (d + 4) 86 [.ref 4, .ref 1009] (am_hp sw s) (am_cI v) (am_hp sw s') := by
  refine am_Run.of (M := mt_X9_spells) (cvf := am_cI) (X := f_X9_spells 9 s) rfl rfl rfl (by simp) ?_ e
  unfold f_X9_spells
  show am_Sm tb_X9_spells 9 false none (some .boolean) (d + 3) (am_po am_cI sw) _ 0 [.ref 4, .ref 1009, .null] [] (am_hp sw s)
  refine sm_call (cvf := am_cI) 1 1 [.ref 4, .ref 1009, .null] [.ref 1009] sw s 900 [.ref 1009] [] (fun _ => rfl) rfl (fun _ _ e9 => r_J_length_9 (d + 0) sw _ _  _ e9) am_po20 (fun v1 s1 => ?_)
  refine sm_br 6 18 16 [.ref 4, .ref 1009, .null] [] (am_hp sw s1) (fun _ => rfl) (fun _ => ?_) (fun _ => ?_)
  · refine sm_go 2 20 [.ref 4, .ref 1009, .int (0)] [] (am_hp sw s1) (fun _ => rfl) ?_
    refine sm_lp 57 (fun _y => [.null, .null, .null]) (l_X9_spells_20_9 d sw am_FU (0) s1) (fun _ _ _ h => h) am_po20 (fun _y s20 => ?_)
    exact sm_ret 1 58 [.null, .null, .null] [.int (1)] (am_hp sw s20) (some (.int (1))) (fun _ => rfl) rfl (fun _ _ h => h)
  · exact sm_ret 1 17 [.ref 4, .ref 1009, .null] [.int (0)] (am_hp sw s1) (some (.int (0))) (fun _ => rfl) rfl (fun _ _ h => h)

set_option maxRecDepth 20000 in
theorem l_X9_spells_20_10 (d : Nat) (sw : Bool) : ∀ (n : Nat) (x2 : Int32) (s : am_S), am_Sm tb_X9_spells 9 false none (some .boolean) (d + 3) (am_pl am_cI sw (fun (v9 : Unit) s9 r h9 => am_Ex tb_X9_spells 9 false none (some .boolean) (d + 3) r h9 57 [.null, .null, .null] [] (am_hp sw s9))) (f_X9_spells_L20 10 n x2 s) 20 [.ref 4, .ref 1010, .int x2] [] (am_hp sw s) := by
  intro n
  induction n with
  | zero => intro x2 s; exact sm_no
  | succ n ih =>
    intro x2 s
    rw [f_X9_spells_L20]
    refine sm_call (cvf := am_cI) 2 22 [.ref 4, .ref 1010, .int x2] [.ref 1010, .int x2] sw s 900 [.ref 1010] [.int x2] (fun _ => rfl) rfl (fun _ _ e9 => r_J_length_10 (d + 0) sw _ _  _ e9) am_pl20 (fun v22 s22 => ?_)
    refine sm_br 1 28 57 [.ref 4, .ref 1010, .int x2] [] (am_hp sw s22) (fun _ => rfl) (fun _ => ?_) (fun _ => ?_)
    · refine sm_call (cvf := am_cI) 2 30 [.ref 4, .ref 1010, .int x2] [.int x2, .ref 1010] sw s22 901 [.ref 1010, .int x2] [] (fun _ => rfl) rfl (fun _ _ e9 => r_J_charAt_10 (d + 0) sw _ _ _ _ e9) am_pl20 (fun v30 s30 => ?_)
      refine sm_call (cvf := am_cI) 6 43 [.ref 4, .ref 1010, .int x2] [.int ((s30.1 4 1) + x2), .ref 1, .int v30] sw s30 92 [.ref 1, .int ((s30.1 4 1) + x2)] [.int v30] (fun _ => rfl) rfl (fun _ _ e9 => r_X10_at (d + 2) sw _ _ _ _ e9) am_pl20 (fun v43 s43 => ?_)
      refine sm_br 1 51 49 [.ref 4, .ref 1010, .int x2] [] (am_hp sw s43) (fun _ => rfl) (fun _ => ?_) (fun _ => ?_)
      · refine sm_go 2 20 [.ref 4, .ref 1010, .int (x2 + 1)] [] (am_hp sw s43) (fun _ => rfl) ?_
        exact ih (x2 + 1) s43
      · exact sm_ret 1 50 [.ref 4, .ref 1010, .int x2] [.int (0)] (am_hp sw s43) (some (.int (0))) (fun _ => rfl) rfl (fun _ _ h => h)
    · refine sm_fg [.null, .null, .null] ⟨Or.inl rfl, Or.inl rfl, Or.inl rfl, trivial⟩ ?_
      exact sm_ex (fun _ _ h => h.2)

set_option maxRecDepth 20000 in
theorem r_X9_spells_10 (d : Nat) (sw : Bool) (s s' : am_S) (v : Int32) (e : f_X9_spells 10 s = some (v, s')) : am_Run (d + 4) 86 [.ref 4, .ref 1010] (am_hp sw s) (am_cI v) (am_hp sw s') := by
  refine am_Run.of (M := mt_X9_spells) (cvf := am_cI) (X := f_X9_spells 10 s) rfl rfl rfl (by simp) ?_ e
  unfold f_X9_spells
  show am_Sm tb_X9_spells 9 false none (some .boolean) (d + 3) (am_po am_cI sw) _ 0 [.ref 4, .ref 1010, .null] [] (am_hp sw s)
  refine sm_call (cvf := am_cI) 1 1 [.ref 4, .ref 1010, .null] [.ref 1010] sw s 900 [.ref 1010] [] (fun _ => rfl) rfl (fun _ _ e9 => r_J_length_10 (d + 0) sw _ _  _ e9) am_po20 (fun v1 s1 => ?_)
  refine sm_br 6 18 16 [.ref 4, .ref 1010, .null] [] (am_hp sw s1) (fun _ => rfl) (fun _ => ?_) (fun _ => ?_)
  · refine sm_go 2 20 [.ref 4, .ref 1010, .int (0)] [] (am_hp sw s1) (fun _ => rfl) ?_
    refine sm_lp 57 (fun _y => [.null, .null, .null]) (l_X9_spells_20_10 d sw am_FU (0) s1) (fun _ _ _ h => h) am_po20 (fun _y s20 => ?_)
    exact sm_ret 1 58 [.null, .null, .null] [.int (1)] (am_hp sw s20) (some (.int (1))) (fun _ => rfl) rfl (fun _ _ h => h)
  · exact sm_ret 1 17 [.ref 4, .ref 1010, .null] [.int (0)] (am_hp sw s1) (some (.int (0))) (fun _ => rfl) rfl (fun _ _ h => h)

set_option maxRecDepth 20000 in
theorem l_X9_spells_20_11 (d : Nat) (sw : Bool) : ∀ (n : Nat) (x2 : Int32) (s : am_S), am_Sm tb_X9_spells 9 false none (some .boolean) (d + 3) (am_pl am_cI sw (fun (v9 : Unit) s9 r h9 => am_Ex tb_X9_spells 9 false none (some .boolean) (d + 3) r h9 57 [.null, .null, .null] [] (am_hp sw s9))) (f_X9_spells_L20 11 n x2 s) 20 [.ref 4, .ref 1011, .int x2] [] (am_hp sw s) := by
  intro n
  induction n with
  | zero => intro x2 s; exact sm_no
  | succ n ih =>
    intro x2 s
    rw [f_X9_spells_L20]
    refine sm_call (cvf := am_cI) 2 22 [.ref 4, .ref 1011, .int x2] [.ref 1011, .int x2] sw s 900 [.ref 1011] [.int x2] (fun _ => rfl) rfl (fun _ _ e9 => r_J_length_11 (d + 0) sw _ _  _ e9) am_pl20 (fun v22 s22 => ?_)
    refine sm_br 1 28 57 [.ref 4, .ref 1011, .int x2] [] (am_hp sw s22) (fun _ => rfl) (fun _ => ?_) (fun _ => ?_)
    · refine sm_call (cvf := am_cI) 2 30 [.ref 4, .ref 1011, .int x2] [.int x2, .ref 1011] sw s22 901 [.ref 1011, .int x2] [] (fun _ => rfl) rfl (fun _ _ e9 => r_J_charAt_11 (d + 0) sw _ _ _ _ e9) am_pl20 (fun v30 s30 => ?_)
      refine sm_call (cvf := am_cI) 6 43 [.ref 4, .ref 1011, .int x2] [.int ((s30.1 4 1) + x2), .ref 1, .int v30] sw s30 92 [.ref 1, .int ((s30.1 4 1) + x2)] [.int v30] (fun _ => rfl) rfl (fun _ _ e9 => r_X10_at (d + 2) sw _ _ _ _ e9) am_pl20 (fun v43 s43 => ?_)
      refine sm_br 1 51 49 [.ref 4, .ref 1011, .int x2] [] (am_hp sw s43) (fun _ => rfl) (fun _ => ?_) (fun _ => ?_)
      · refine sm_go 2 20 [.ref 4, .ref 1011, .int (x2 + 1)] [] (am_hp sw s43) (fun _ => rfl) ?_
        exact ih (x2 + 1) s43
      · exact sm_ret 1 50 [.ref 4, .ref 1011, .int x2] [.int (0)] (am_hp sw s43) (some (.int (0))) (fun _ => rfl) rfl (fun _ _ h => h)
    · refine sm_fg [.null, .null, .null] ⟨Or.inl rfl, Or.inl rfl, Or.inl rfl, trivial⟩ ?_
      exact sm_ex (fun _ _ h => h.2)

set_option maxRecDepth 20000 in
theorem r_X9_spells_11 (d : Nat) (sw : Bool) (s s' : am_S) (v : Int32) (e : f_X9_spells 11 s = some (v, s')) : am_Run (d + 4) 86 [.ref 4, .ref 1011] (am_hp sw s) (am_cI v) (am_hp sw s') := by
  refine am_Run.of (M := mt_X9_spells) (cvf := am_cI) (X := f_X9_spells 11 s) rfl rfl rfl (by simp) ?_ e
  unfold f_X9_spells
  show am_Sm tb_X9_spells 9 false none (some .boolean) (d + 3) (am_po am_cI sw) _ 0 [.ref 4, .ref 1011, .null] [] (am_hp sw s)
  refine sm_call (cvf := am_cI) 1 1 [.ref 4, .ref 1011, .null] [.ref 1011] sw s 900 [.ref 1011] [] (fun _ => rfl) rfl (fun _ _ e9 => r_J_length_11 (d + 0) sw _ _  _ e9) am_po20 (fun v1 s1 => ?_)
  refine sm_br 6 18 16 [.ref 4, .ref 1011, .null] [] (am_hp sw s1) (fun _ => rfl) (fun _ => ?_) (fun _ => ?_)
  · refine sm_go 2 20 [.ref 4, .ref 1011, .int (0)] [] (am_hp sw s1) (fun _ => rfl) ?_
    refine sm_lp 57 (fun _y => [.null, .null, .null]) (l_X9_spells_20_11 d sw am_FU (0) s1) (fun _ _ _ h => h) am_po20 (fun _y s20 => ?_)
    exact sm_ret 1 58 [.null, .null, .null] [.int (1)] (am_hp sw s20) (some (.int (1))) (fun _ => rfl) rfl (fun _ _ h => h)
  · exact sm_ret 1 17 [.ref 4, .ref 1011, .null] [.int (0)] (am_hp sw s1) (some (.int (0))) (fun _ => rfl) rfl (fun _ _ h => h)

set_option maxRecDepth 20000 in
theorem l_X9_spells_20_12 (d : Nat) (sw : Bool) : ∀ (n : Nat) (x2 : Int32) (s : am_S), am_Sm tb_X9_spells 9 false none (some .boolean) (d + 3) (am_pl am_cI sw (fun (v9 : Unit) s9 r h9 => am_Ex tb_X9_spells 9 false none (some .boolean) (d + 3) r h9 57 [.null, .null, .null] [] (am_hp sw s9))) (f_X9_spells_L20 12 n x2 s) 20 [.ref 4, .ref 1012, .int x2] [] (am_hp sw s) := by
  intro n
  induction n with
  | zero => intro x2 s; exact sm_no
  | succ n ih =>
    intro x2 s
    rw [f_X9_spells_L20]
    refine sm_call (cvf := am_cI) 2 22 [.ref 4, .ref 1012, .int x2] [.ref 1012, .int x2] sw s 900 [.ref 1012] [.int x2] (fun _ => rfl) rfl (fun _ _ e9 => r_J_length_12 (d + 0) sw _ _  _ e9) am_pl20 (fun v22 s22 => ?_)
    refine sm_br 1 28 57 [.ref 4, .ref 1012, .int x2] [] (am_hp sw s22) (fun _ => rfl) (fun _ => ?_) (fun _ => ?_)
    · refine sm_call (cvf := am_cI) 2 30 [.ref 4, .ref 1012, .int x2] [.int x2, .ref 1012] sw s22 901 [.ref 1012, .int x2] [] (fun _ => rfl) rfl (fun _ _ e9 => r_J_charAt_12 (d + 0) sw _ _ _ _ e9) am_pl20 (fun v30 s30 => ?_)
      refine sm_call (cvf := am_cI) 6 43 [.ref 4, .ref 1012, .int x2] [.int ((s30.1 4 1) + x2), .ref 1, .int v30] sw s30 92 [.ref 1, .int ((s30.1 4 1) + x2)] [.int v30] (fun _ => rfl) rfl (fun _ _ e9 => r_X10_at (d + 2) sw _ _ _ _ e9) am_pl20 (fun v43 s43 => ?_)
      refine sm_br 1 51 49 [.ref 4, .ref 1012, .int x2] [] (am_hp sw s43) (fun _ => rfl) (fun _ => ?_) (fun _ => ?_)
      · refine sm_go 2 20 [.ref 4, .ref 1012, .int (x2 + 1)] [] (am_hp sw s43) (fun _ => rfl) ?_
        exact ih (x2 + 1) s43
      · exact sm_ret 1 50 [.ref 4, .ref 1012, .int x2] [.int (0)] (am_hp sw s43) (some (.int (0))) (fun _ => rfl) rfl (fun _ _ h => h)
    · refine sm_fg [.null, .null, .null] ⟨Or.inl rfl, Or.inl rfl, Or.inl rfl, trivial⟩ ?_
      exact sm_ex (fun _ _ h => h.2)

set_option maxRecDepth 20000 in
theorem r_X9_spells_12 (d : Nat) (sw : Bool) (s s' : am_S) (v : Int32) (e : f_X9_spells 12 s = some (v, s')) : am_Run (d + 4) 86 [.ref 4, .ref 1012] (am_hp sw s) (am_cI v) (am_hp sw s') := by
  refine am_Run.of (M := mt_X9_spells) (cvf := am_cI) (X := f_X9_spells 12 s) rfl rfl rfl (by simp) ?_ e
  unfold f_X9_spells
  show am_Sm tb_X9_spells 9 false none (some .boolean) (d + 3) (am_po am_cI sw) _ 0 [.ref 4, .ref 1012, .null] [] (am_hp sw s)
  refine sm_call (cvf := am_cI) 1 1 [.ref 4, .ref 1012, .null] [.ref 1012] sw s 900 [.ref 1012] [] (fun _ => rfl) rfl (fun _ _ e9 => r_J_length_12 (d + 0) sw _ _  _ e9) am_po20 (fun v1 s1 => ?_)
  refine sm_br 6 18 16 [.ref 4, .ref 1012, .null] [] (am_hp sw s1) (fun _ => rfl) (fun _ => ?_) (fun _ => ?_)
  · refine sm_go 2 20 [.ref 4, .ref 1012, .int (0)] [] (am_hp sw s1) (fun _ => rfl) ?_
    refine sm_lp 57 (fun _y => [.null, .null, .null]) (l_X9_spells_20_12 d sw am_FU (0) s1) (fun _ _ _ h => h) am_po20 (fun _y s20 => ?_)
    exact sm_ret 1 58 [.null, .null, .null] [.int (1)] (am_hp sw s20) (some (.int (1))) (fun _ => rfl) rfl (fun _ _ h => h)
  · exact sm_ret 1 17 [.ref 4, .ref 1012, .null] [.int (0)] (am_hp sw s1) (some (.int (0))) (fun _ => rfl) rfl (fun _ _ h => h)

set_option maxRecDepth 20000 in
theorem l_X9_spells_20_13 (d : Nat) (sw : Bool) : ∀ (n : Nat) (x2 : Int32) (s : am_S), am_Sm tb_X9_spells 9 false none (some .boolean) (d + 3) (am_pl am_cI sw (fun (v9 : Unit) s9 r h9 => am_Ex tb_X9_spells 9 false none (some .boolean) (d + 3) r h9 57 [.null, .null, .null] [] (am_hp sw s9))) (f_X9_spells_L20 13 n x2 s) 20 [.ref 4, .ref 1013, .int x2] [] (am_hp sw s) := by
  intro n
  induction n with
  | zero => intro x2 s; exact sm_no
  | succ n ih =>
    intro x2 s
    rw [f_X9_spells_L20]
    refine sm_call (cvf := am_cI) 2 22 [.ref 4, .ref 1013, .int x2] [.ref 1013, .int x2] sw s 900 [.ref 1013] [.int x2] (fun _ => rfl) rfl (fun _ _ e9 => r_J_length_13 (d + 0) sw _ _  _ e9) am_pl20 (fun v22 s22 => ?_)
    refine sm_br 1 28 57 [.ref 4, .ref 1013, .int x2] [] (am_hp sw s22) (fun _ => rfl) (fun _ => ?_) (fun _ => ?_)
    · refine sm_call (cvf := am_cI) 2 30 [.ref 4, .ref 1013, .int x2] [.int x2, .ref 1013] sw s22 901 [.ref 1013, .int x2] [] (fun _ => rfl) rfl (fun _ _ e9 => r_J_charAt_13 (d + 0) sw _ _ _ _ e9) am_pl20 (fun v30 s30 => ?_)
      refine sm_call (cvf := am_cI) 6 43 [.ref 4, .ref 1013, .int x2] [.int ((s30.1 4 1) + x2), .ref 1, .int v30] sw s30 92 [.ref 1, .int ((s30.1 4 1) + x2)] [.int v30] (fun _ => rfl) rfl (fun _ _ e9 => r_X10_at (d + 2) sw _ _ _ _ e9) am_pl20 (fun v43 s43 => ?_)
      refine sm_br 1 51 49 [.ref 4, .ref 1013, .int x2] [] (am_hp sw s43) (fun _ => rfl) (fun _ => ?_) (fun _ => ?_)
      · refine sm_go 2 20 [.ref 4, .ref 1013, .int (x2 + 1)] [] (am_hp sw s43) (fun _ => rfl) ?_
        exact ih (x2 + 1) s43
      · exact sm_ret 1 50 [.ref 4, .ref 1013, .int x2] [.int (0)] (am_hp sw s43) (some (.int (0))) (fun _ => rfl) rfl (fun _ _ h => h)
    · refine sm_fg [.null, .null, .null] ⟨Or.inl rfl, Or.inl rfl, Or.inl rfl, trivial⟩ ?_
      exact sm_ex (fun _ _ h => h.2)

set_option maxRecDepth 20000 in
theorem r_X9_spells_13 (d : Nat) (sw : Bool) (s s' : am_S) (v : Int32) (e : f_X9_spells 13 s = some (v, s')) : am_Run (d + 4) 86 [.ref 4, .ref 1013] (am_hp sw s) (am_cI v) (am_hp sw s') := by
  refine am_Run.of (M := mt_X9_spells) (cvf := am_cI) (X := f_X9_spells 13 s) rfl rfl rfl (by simp) ?_ e
  unfold f_X9_spells
  show am_Sm tb_X9_spells 9 false none (some .boolean) (d + 3) (am_po am_cI sw) _ 0 [.ref 4, .ref 1013, .null] [] (am_hp sw s)
  refine sm_call (cvf := am_cI) 1 1 [.ref 4, .ref 1013, .null] [.ref 1013] sw s 900 [.ref 1013] [] (fun _ => rfl) rfl (fun _ _ e9 => r_J_length_13 (d + 0) sw _ _  _ e9) am_po20 (fun v1 s1 => ?_)
  refine sm_br 6 18 16 [.ref 4, .ref 1013, .null] [] (am_hp sw s1) (fun _ => rfl) (fun _ => ?_) (fun _ => ?_)
  · refine sm_go 2 20 [.ref 4, .ref 1013, .int (0)] [] (am_hp sw s1) (fun _ => rfl) ?_
    refine sm_lp 57 (fun _y => [.null, .null, .null]) (l_X9_spells_20_13 d sw am_FU (0) s1) (fun _ _ _ h => h) am_po20 (fun _y s20 => ?_)
    exact sm_ret 1 58 [.null, .null, .null] [.int (1)] (am_hp sw s20) (some (.int (1))) (fun _ => rfl) rfl (fun _ _ h => h)
  · exact sm_ret 1 17 [.ref 4, .ref 1013, .null] [.int (0)] (am_hp sw s1) (some (.int (0))) (fun _ => rfl) rfl (fun _ _ h => h)

def f_X9_variable (s : am_S) : Option (Int32 × am_S) := am_bd (f_X9_spells 0 s) (fun v3 s3 => if v3 = 0 then (am_bd (f_X9_spells 1 s3) (fun v14 s14 => if v14 = 0 then (am_bd (f_X9_spells 2 s14) (fun v25 s25 => if v25 = 0 then (am_bd (f_X9_spells 3 s25) (fun v36 s36 => if v36 = 0 then (am_bd (f_X9_spells 4 s36) (fun v47 s47 => if v47 = 0 then (am_bd (f_X9_spells 5 s47) (fun v58 s58 => if v58 = 0 then (am_bd (f_X9_spells 6 s58) (fun v69 s69 => if v69 = 0 then (am_bd (f_X9_spells 7 s69) (fun v81 s81 => if v81 = 0 then (some ((-1), s81)) else (some ((7), s81)))) else (some ((6), s69)))) else (some ((5), s58)))) else (some ((4), s47)))) else (some ((3), s36)))) else (some ((2), s25)))) else (some ((1), s14)))) else (some ((0), s3)))
set_option maxRecDepth 20000 in
theorem r_X9_variable (d : Nat) (sw : Bool) (s s' : am_S) (v : Int32) (e : f_X9_variable s = some (v, s')) : am_Run (d + 5) 84 [.ref 4] (am_hp sw s) (am_cI v) (am_hp sw s') := by
  refine am_Run.of (M := mt_X9_variable) (cvf := am_cI) (X := f_X9_variable s) rfl rfl rfl (by simp) ?_ e
  unfold f_X9_variable
  show am_Sm tb_X9_variable 9 false none (some .int) (d + 4) (am_po am_cI sw) _ 0 [.ref 4] [] (am_hp sw s)
  refine sm_call (cvf := am_cI) 2 3 [.ref 4] [.ref 1000, .ref 4] sw s 86 [.ref 4, .ref 1000] [] (fun _ => rfl) rfl (fun _ _ e9 => r_X9_spells_0 (d + 0) sw _ _  _ e9) am_po20 (fun v3 s3 => ?_)
  refine sm_br 1 11 9 [.ref 4] [] (am_hp sw s3) (fun _ => rfl) (fun _ => ?_) (fun _ => ?_)
  · refine sm_call (cvf := am_cI) 2 14 [.ref 4] [.ref 1001, .ref 4] sw s3 86 [.ref 4, .ref 1001] [] (fun _ => rfl) rfl (fun _ _ e9 => r_X9_spells_1 (d + 0) sw _ _  _ e9) am_po20 (fun v14 s14 => ?_)
    refine sm_br 1 22 20 [.ref 4] [] (am_hp sw s14) (fun _ => rfl) (fun _ => ?_) (fun _ => ?_)
    · refine sm_call (cvf := am_cI) 2 25 [.ref 4] [.ref 1002, .ref 4] sw s14 86 [.ref 4, .ref 1002] [] (fun _ => rfl) rfl (fun _ _ e9 => r_X9_spells_2 (d + 0) sw _ _  _ e9) am_po20 (fun v25 s25 => ?_)
      refine sm_br 1 33 31 [.ref 4] [] (am_hp sw s25) (fun _ => rfl) (fun _ => ?_) (fun _ => ?_)
      · refine sm_call (cvf := am_cI) 2 36 [.ref 4] [.ref 1003, .ref 4] sw s25 86 [.ref 4, .ref 1003] [] (fun _ => rfl) rfl (fun _ _ e9 => r_X9_spells_3 (d + 0) sw _ _  _ e9) am_po20 (fun v36 s36 => ?_)
        refine sm_br 1 44 42 [.ref 4] [] (am_hp sw s36) (fun _ => rfl) (fun _ => ?_) (fun _ => ?_)
        · refine sm_call (cvf := am_cI) 2 47 [.ref 4] [.ref 1004, .ref 4] sw s36 86 [.ref 4, .ref 1004] [] (fun _ => rfl) rfl (fun _ _ e9 => r_X9_spells_4 (d + 0) sw _ _  _ e9) am_po20 (fun v47 s47 => ?_)
          refine sm_br 1 55 53 [.ref 4] [] (am_hp sw s47) (fun _ => rfl) (fun _ => ?_) (fun _ => ?_)
          · refine sm_call (cvf := am_cI) 2 58 [.ref 4] [.ref 1005, .ref 4] sw s47 86 [.ref 4, .ref 1005] [] (fun _ => rfl) rfl (fun _ _ e9 => r_X9_spells_5 (d + 0) sw _ _  _ e9) am_po20 (fun v58 s58 => ?_)
            refine sm_br 1 66 64 [.ref 4] [] (am_hp sw s58) (fun _ => rfl) (fun _ => ?_) (fun _ => ?_)
            · refine sm_call (cvf := am_cI) 2 69 [.ref 4] [.ref 1006, .ref 4] sw s58 86 [.ref 4, .ref 1006] [] (fun _ => rfl) rfl (fun _ _ e9 => r_X9_spells_6 (d + 0) sw _ _  _ e9) am_po20 (fun v69 s69 => ?_)
              refine sm_br 1 78 75 [.ref 4] [] (am_hp sw s69) (fun _ => rfl) (fun _ => ?_) (fun _ => ?_)
              · refine sm_call (cvf := am_cI) 2 81 [.ref 4] [.ref 1007, .ref 4] sw s69 86 [.ref 4, .ref 1007] [] (fun _ => rfl) rfl (fun _ _ e9 => r_X9_spells_7 (d + 0) sw _ _  _ e9) am_po20 (fun v81 s81 => ?_)
                refine sm_br 1 90 87 [.ref 4] [] (am_hp sw s81) (fun _ => rfl) (fun _ => ?_) (fun _ => ?_)
                · exact sm_ret 1 91 [.ref 4] [.int (-1)] (am_hp sw s81) (some (.int (-1))) (fun _ => rfl) rfl (fun _ _ h => h)
                · exact sm_ret 1 89 [.ref 4] [.int (7)] (am_hp sw s81) (some (.int (7))) (fun _ => rfl) rfl (fun _ _ h => h)
              · exact sm_ret 1 77 [.ref 4] [.int (6)] (am_hp sw s69) (some (.int (6))) (fun _ => rfl) rfl (fun _ _ h => h)
            · exact sm_ret 1 65 [.ref 4] [.int (5)] (am_hp sw s58) (some (.int (5))) (fun _ => rfl) rfl (fun _ _ h => h)
          · exact sm_ret 1 54 [.ref 4] [.int (4)] (am_hp sw s47) (some (.int (4))) (fun _ => rfl) rfl (fun _ _ h => h)
        · exact sm_ret 1 43 [.ref 4] [.int (3)] (am_hp sw s36) (some (.int (3))) (fun _ => rfl) rfl (fun _ _ h => h)
      · exact sm_ret 1 32 [.ref 4] [.int (2)] (am_hp sw s25) (some (.int (2))) (fun _ => rfl) rfl (fun _ _ h => h)
    · exact sm_ret 1 21 [.ref 4] [.int (1)] (am_hp sw s14) (some (.int (1))) (fun _ => rfl) rfl (fun _ _ h => h)
  · exact sm_ret 1 10 [.ref 4] [.int (0)] (am_hp sw s3) (some (.int (0))) (fun _ => rfl) rfl (fun _ _ h => h)

def f_X9_keyword (s : am_S) : Option (Int32 × am_S) := am_bd (f_X9_spells 8 s) (fun v3 s3 => if v3 = 0 then (am_bd (f_X9_spells 9 s3) (fun v14 s14 => if v14 = 0 then (am_bd (f_X9_spells 10 s14) (fun v25 s25 => if v25 = 0 then (am_bd (f_X9_spells 11 s25) (fun v36 s36 => if v36 = 0 then (am_bd (f_X9_spells 12 s36) (fun v48 s48 => if v48 = 0 then (am_bd (f_X9_spells 13 s48) (fun v60 s60 => if v60 = 0 then (some ((1), s60)) else (some ((8), s60)))) else (some ((7), s48)))) else (some ((6), s36)))) else (some ((5), s25)))) else (some ((4), s14)))) else (some ((3), s3)))
set_option maxRecDepth 20000 in
theorem r_X9_keyword (d : Nat) (sw : Bool) (s s' : am_S) (v : Int32) (e : f_X9_keyword s = some (v, s')) : am_Run (d + 5) 85 [.ref 4] (am_hp sw s) (am_cI v) (am_hp sw s') := by
  refine am_Run.of (M := mt_X9_keyword) (cvf := am_cI) (X := f_X9_keyword s) rfl rfl rfl (by simp) ?_ e
  unfold f_X9_keyword
  show am_Sm tb_X9_keyword 9 false none (some .int) (d + 4) (am_po am_cI sw) _ 0 [.ref 4] [] (am_hp sw s)
  refine sm_call (cvf := am_cI) 2 3 [.ref 4] [.ref 1008, .ref 4] sw s 86 [.ref 4, .ref 1008] [] (fun _ => rfl) rfl (fun _ _ e9 => r_X9_spells_8 (d + 0) sw _ _  _ e9) am_po20 (fun v3 s3 => ?_)
  refine sm_br 1 11 9 [.ref 4] [] (am_hp sw s3) (fun _ => rfl) (fun _ => ?_) (fun _ => ?_)
  · refine sm_call (cvf := am_cI) 2 14 [.ref 4] [.ref 1009, .ref 4] sw s3 86 [.ref 4, .ref 1009] [] (fun _ => rfl) rfl (fun _ _ e9 => r_X9_spells_9 (d + 0) sw _ _  _ e9) am_po20 (fun v14 s14 => ?_)
    refine sm_br 1 22 20 [.ref 4] [] (am_hp sw s14) (fun _ => rfl) (fun _ => ?_) (fun _ => ?_)
    · refine sm_call (cvf := am_cI) 2 25 [.ref 4] [.ref 1010, .ref 4] sw s14 86 [.ref 4, .ref 1010] [] (fun _ => rfl) rfl (fun _ _ e9 => r_X9_spells_10 (d + 0) sw _ _  _ e9) am_po20 (fun v25 s25 => ?_)
      refine sm_br 1 33 31 [.ref 4] [] (am_hp sw s25) (fun _ => rfl) (fun _ => ?_) (fun _ => ?_)
      · refine sm_call (cvf := am_cI) 2 36 [.ref 4] [.ref 1011, .ref 4] sw s25 86 [.ref 4, .ref 1011] [] (fun _ => rfl) rfl (fun _ _ e9 => r_X9_spells_11 (d + 0) sw _ _  _ e9) am_po20 (fun v36 s36 => ?_)
        refine sm_br 1 45 42 [.ref 4] [] (am_hp sw s36) (fun _ => rfl) (fun _ => ?_) (fun _ => ?_)
        · refine sm_call (cvf := am_cI) 2 48 [.ref 4] [.ref 1012, .ref 4] sw s36 86 [.ref 4, .ref 1012] [] (fun _ => rfl) rfl (fun _ _ e9 => r_X9_spells_12 (d + 0) sw _ _  _ e9) am_po20 (fun v48 s48 => ?_)
          refine sm_br 1 57 54 [.ref 4] [] (am_hp sw s48) (fun _ => rfl) (fun _ => ?_) (fun _ => ?_)
          · refine sm_call (cvf := am_cI) 2 60 [.ref 4] [.ref 1013, .ref 4] sw s48 86 [.ref 4, .ref 1013] [] (fun _ => rfl) rfl (fun _ _ e9 => r_X9_spells_13 (d + 0) sw _ _  _ e9) am_po20 (fun v60 s60 => ?_)
            refine sm_br 1 69 66 [.ref 4] [] (am_hp sw s60) (fun _ => rfl) (fun _ => ?_) (fun _ => ?_)
            · exact sm_ret 1 70 [.ref 4] [.int (1)] (am_hp sw s60) (some (.int (1))) (fun _ => rfl) rfl (fun _ _ h => h)
            · exact sm_ret 1 68 [.ref 4] [.int (8)] (am_hp sw s60) (some (.int (8))) (fun _ => rfl) rfl (fun _ _ h => h)
          · exact sm_ret 1 56 [.ref 4] [.int (7)] (am_hp sw s48) (some (.int (7))) (fun _ => rfl) rfl (fun _ _ h => h)
        · exact sm_ret 1 44 [.ref 4] [.int (6)] (am_hp sw s36) (some (.int (6))) (fun _ => rfl) rfl (fun _ _ h => h)
      · exact sm_ret 1 32 [.ref 4] [.int (5)] (am_hp sw s25) (some (.int (5))) (fun _ => rfl) rfl (fun _ _ h => h)
    · exact sm_ret 1 21 [.ref 4] [.int (4)] (am_hp sw s14) (some (.int (4))) (fun _ => rfl) rfl (fun _ _ h => h)
  · exact sm_ret 1 10 [.ref 4] [.int (3)] (am_hp sw s3) (some (.int (3))) (fun _ => rfl) rfl (fun _ _ h => h)

def f_X9_word_L0 : Nat → am_S → Option ((Int32 × am_S) ⊕ ((Unit) × am_S))
  | 0, _ => none
  | n + 1, s => if (s.1 4 2) < (s.1 1 1) then (am_bd (f_X10_at s (s.1 4 2)) (fun v22 s22 => am_bd (f_X9_isLetter s22 v22) (fun v25 s25 => if v25 = 0 then (some (.inr ((), s25))) else (f_X9_word_L0 n (am_wI s25 4 2 ((s25.1 4 2) + 1)))))) else (some (.inr ((), s)))
def f_X9_word (s : am_S) : Option (Int32 × am_S) := am_lp (fun y => y) (f_X9_word_L0 am_FU s) (fun (_ : Unit) s0 => if 8 < ((s0.1 4 2) - (s0.1 4 1)) then (some ((1), s0)) else (am_bd (f_X9_variable s0) (fun v61 s61 => if v61 = (-1) then (am_bd (f_X9_keyword s61) (fun v71 s71 => some (v71, s71))) else (some ((19 + v61), s61)))))
set_option maxRecDepth 20000 in
theorem l_X9_word_0 (d : Nat) (sw : Bool) : ∀ (n : Nat) (s : am_S), am_Sm tb_X9_word 9 false none (some .int) (d + 5) (am_pl am_cI sw (fun (v9 : Unit) s9 r h9 => am_Ex tb_X9_word 9 false none (some .int) (d + 5) r h9 44 [.ref 4, .null] [] (am_hp sw s9))) (f_X9_word_L0 n s) 0 [.ref 4, .null] [] (am_hp sw s) := by
  intro n
  induction n with
  | zero => intro s; exact sm_no
  | succ n ih =>
    intro s
    rw [f_X9_word_L0]
    refine sm_br 6 14 44 [.ref 4, .null] [] (am_hp sw s) (fun _ => rfl) (fun _ => ?_) (fun _ => ?_)
    · refine sm_call (cvf := am_cI) 4 22 [.ref 4, .null] [.int (s.1 4 2), .ref 1] sw s 92 [.ref 1, .int (s.1 4 2)] [] (fun _ => rfl) rfl (fun _ _ e9 => r_X10_at (d + 4) sw _ _ _ _ e9) am_pl20 (fun v22 s22 => ?_)
      refine sm_call (cvf := am_cI) 0 25 [.ref 4, .null] [.int v22] sw s22 81 [.int v22] [] (fun _ => rfl) rfl (fun _ _ e9 => r_X9_isLetter (d + 4) sw _ _ _ _ e9) am_pl20 (fun v25 s25 => ?_)
      refine sm_br 1 44 31 [.ref 4, .null] [] (am_hp sw s25) (fun _ => rfl) (fun _ => ?_) (fun _ => ?_)
      · exact sm_ex (fun _ _ h => h.2)
      · refine sm_go 7 0 [.ref 4, .null] [] (am_hp sw (am_wI s25 4 2 ((s25.1 4 2) + 1))) (fun _ => rfl) ?_
        exact ih (am_wI s25 4 2 ((s25.1 4 2) + 1))
    · exact sm_ex (fun _ _ h => h.2)

set_option maxRecDepth 20000 in
theorem r_X9_word (d : Nat) (sw : Bool) (s s' : am_S) (v : Int32) (e : f_X9_word s = some (v, s')) : am_Run (d + 6) 83 [.ref 4] (am_hp sw s) (am_cI v) (am_hp sw s') := by
  refine am_Run.of (M := mt_X9_word) (cvf := am_cI) (X := f_X9_word s) rfl rfl rfl (by simp) ?_ e
  unfold f_X9_word
  show am_Sm tb_X9_word 9 false none (some .int) (d + 5) (am_po am_cI sw) _ 0 [.ref 4, .null] [] (am_hp sw s)
  refine sm_lp 44 (fun _y => [.ref 4, .null]) (l_X9_word_0 d sw am_FU s) (fun _ _ _ h => h) am_po20 (fun _y s0 => ?_)
  refine sm_br 7 58 60 [.ref 4, .null] [] (am_hp sw s0) (fun _ => rfl) (fun _ => ?_) (fun _ => ?_)
  · exact sm_ret 1 59 [.ref 4, .null] [.int (1)] (am_hp sw s0) (some (.int (1))) (fun _ => rfl) rfl (fun _ _ h => h)
  · refine sm_call (cvf := am_cI) 1 61 [.ref 4, .null] [.ref 4] sw s0 84 [.ref 4] [] (fun _ => rfl) rfl (fun _ _ e9 => r_X9_variable (d + 0) sw _ _  _ e9) am_po20 (fun v61 s61 => ?_)
    refine sm_br 4 70 77 [.ref 4, .int v61] [] (am_hp sw s61) (fun _ => rfl) (fun _ => ?_) (fun _ => ?_)
    · refine sm_call (cvf := am_cI) 1 71 [.ref 4, .int v61] [.ref 4] sw s61 85 [.ref 4] [] (fun _ => rfl) rfl (fun _ _ e9 => r_X9_keyword (d + 0) sw _ _  _ e9) am_po20 (fun v71 s71 => ?_)
      exact sm_ret 1 81 [.ref 4, .int v61] [.int v71] (am_hp sw s71) (some (.int v71)) (fun _ => rfl) rfl (fun _ _ h => h)
    · exact sm_ret 3 81 [.ref 4, .int v61] [.int (19 + v61)] (am_hp sw s61) (some (.int (19 + v61))) (fun _ => rfl) rfl (fun _ _ h => h)

def f_X9_number_L0 : Nat → am_S → Option ((Int32 × am_S) ⊕ ((Unit) × am_S))
  | 0, _ => none
  | n + 1, s => if (s.1 4 2) < (s.1 1 1) then (am_bd (f_X10_at s (s.1 4 2)) (fun v22 s22 => am_bd (f_X9_isDigit s22 v22) (fun v25 s25 => if v25 = 0 then (some (.inr ((), s25))) else (am_bd (f_X10_at s25 (s25.1 4 2)) (fun v47 s47 => f_X9_number_L0 n (am_wI (am_wI s47 4 4 ((((s25.1 4 4) * 10) + v47) - 48)) 4 2 ((s47.1 4 2) + 1))))))) else (some (.inr ((), s)))
def f_X9_number (s : am_S) : Option (Int32 × am_S) := am_lp (fun y => y) (f_X9_number_L0 am_FU s) (fun (_ : Unit) s0 => if 4 < ((s0.1 4 2) - (s0.1 4 1)) then (some ((1), s0)) else (some ((2), s0)))
set_option maxRecDepth 20000 in
theorem l_X9_number_0 (d : Nat) (sw : Bool) : ∀ (n : Nat) (s : am_S), am_Sm tb_X9_number 9 false none (some .int) (d + 1) (am_pl am_cI sw (fun (v9 : Unit) s9 r h9 => am_Ex tb_X9_number 9 false none (some .int) (d + 1) r h9 70 [.ref 4] [] (am_hp sw s9))) (f_X9_number_L0 n s) 0 [.ref 4] [] (am_hp sw s) := by
  intro n
  induction n with
  | zero => intro s; exact sm_no
  | succ n ih =>
    intro s
    rw [f_X9_number_L0]
    refine sm_br 6 14 70 [.ref 4] [] (am_hp sw s) (fun _ => rfl) (fun _ => ?_) (fun _ => ?_)
    · refine sm_call (cvf := am_cI) 4 22 [.ref 4] [.int (s.1 4 2), .ref 1] sw s 92 [.ref 1, .int (s.1 4 2)] [] (fun _ => rfl) rfl (fun _ _ e9 => r_X10_at (d + 0) sw _ _ _ _ e9) am_pl20 (fun v22 s22 => ?_)
      refine sm_call (cvf := am_cI) 0 25 [.ref 4] [.int v22] sw s22 82 [.int v22] [] (fun _ => rfl) rfl (fun _ _ e9 => r_X9_isDigit (d + 0) sw _ _ _ _ e9) am_pl20 (fun v25 s25 => ?_)
      refine sm_br 1 70 31 [.ref 4] [] (am_hp sw s25) (fun _ => rfl) (fun _ => ?_) (fun _ => ?_)
      · exact sm_ex (fun _ _ h => h.2)
      · refine sm_call (cvf := am_cI) 9 47 [.ref 4] [.int (s25.1 4 2), .ref 1, .int ((s25.1 4 4) * 10), .ref 4] sw s25 92 [.ref 1, .int (s25.1 4 2)] [.int ((s25.1 4 4) * 10), .ref 4] (fun _ => rfl) rfl (fun _ _ e9 => r_X10_at (d + 0) sw _ _ _ _ e9) am_pl20 (fun v47 s47 => ?_)
        refine sm_go 11 0 [.ref 4] [] (am_hp sw (am_wI (am_wI s47 4 4 ((((s25.1 4 4) * 10) + v47) - 48)) 4 2 ((s47.1 4 2) + 1))) (fun _ => rfl) ?_
        exact ih (am_wI (am_wI s47 4 4 ((((s25.1 4 4) * 10) + v47) - 48)) 4 2 ((s47.1 4 2) + 1))
    · exact sm_ex (fun _ _ h => h.2)

set_option maxRecDepth 20000 in
theorem r_X9_number (d : Nat) (sw : Bool) (s s' : am_S) (v : Int32) (e : f_X9_number s = some (v, s')) : am_Run (d + 2) 87 [.ref 4] (am_hp sw s) (am_cI v) (am_hp sw s') := by
  refine am_Run.of (M := mt_X9_number) (cvf := am_cI) (X := f_X9_number s) rfl rfl rfl (by simp) ?_ e
  unfold f_X9_number
  show am_Sm tb_X9_number 9 false none (some .int) (d + 1) (am_po am_cI sw) _ 0 [.ref 4] [] (am_hp sw s)
  refine sm_lp 70 (fun _y => [.ref 4]) (l_X9_number_0 d sw am_FU s) (fun _ _ _ h => h) am_po20 (fun _y s0 => ?_)
  refine sm_br 7 83 87 [.ref 4] [] (am_hp sw s0) (fun _ => rfl) (fun _ => ?_) (fun _ => ?_)
  · exact sm_ret 2 88 [.ref 4] [.int (1)] (am_hp sw s0) (some (.int (1))) (fun _ => rfl) rfl (fun _ _ h => h)
  · exact sm_ret 1 88 [.ref 4] [.int (2)] (am_hp sw s0) (some (.int (2))) (fun _ => rfl) rfl (fun _ _ h => h)

def f_X9_tookEqualSign (s : am_S) : Option (Int32 × am_S) := am_bd (f_X10_at s (s.1 4 2)) (fun v8 s8 => am_jn (fun (p21 : Int32 × am_S) => if p21.1 = 0 then (am_gu (decide (p21.1 &&& 1 = p21.1)) (some (p21.1, p21.2))) else (am_gu (decide (p21.1 &&& 1 = p21.1)) (some (p21.1, (am_wI p21.2 4 2 ((p21.2.1 4 2) + 1)))))) (fun j21 => if v8 = 61 then (j21 (1, s8)) else (j21 (0, s8))))
set_option maxRecDepth 20000 in
theorem r_X9_tookEqualSign (d : Nat) (sw : Bool) (s s' : am_S) (v : Int32) (e : f_X9_tookEqualSign s = some (v, s')) : am_Run (d + 2) 89 [.ref 4] (am_hp sw s) (am_cI v) (am_hp sw s') := by
  refine am_Run.of (M := mt_X9_tookEqualSign) (cvf := am_cI) (X := f_X9_tookEqualSign s) rfl rfl rfl (by simp) ?_ e
  unfold f_X9_tookEqualSign
  show am_Sm tb_X9_tookEqualSign 9 false none (some .boolean) (d + 1) (am_po am_cI sw) _ 0 [.ref 4, .null] [] (am_hp sw s)
  refine sm_call (cvf := am_cI) 4 8 [.ref 4, .null] [.int (s.1 4 2), .ref 1] sw s 92 [.ref 1, .int (s.1 4 2)] [] (fun _ => rfl) rfl (fun _ _ e9 => r_X10_at (d + 0) sw _ _ _ _ e9) am_po20 (fun v8 s8 => ?_)
  refine sm_go 1 13 [.ref 4, .null] [.int (61), .int v8] (am_hp sw s8) (fun _ => rfl) ?_
  refine sm_jn 21 (fun p21 => [.ref 4, .null]) (fun p21 => [.int p21.1]) (fun p21 => (am_hp sw p21.2)) (fun p21 => ?_) (fun j21 hj21 => ?_)
  · refine sm_br 3 36 26 [.ref 4, .int p21.1] [] (am_hp sw p21.2) (fun _ => rfl) (fun _ => ?_) (fun _ => ?_)
    · refine sm_gu (fun h9 => ?_)
      exact sm_ret 1 37 [.ref 4, .int p21.1] [.int p21.1] (am_hp sw p21.2) (some (.int p21.1)) (fun _ => rfl) (am_rtb h9) (fun _ _ h => h)
    · refine sm_gu (fun h9 => ?_)
      exact sm_ret 7 37 [.ref 4, .int p21.1] [.int p21.1] (am_hp sw (am_wI p21.2 4 2 ((p21.2.1 4 2) + 1))) (some (.int p21.1)) (fun _ => rfl) (am_rtb h9) (fun _ _ h => h)
  refine sm_br 1 16 20 [.ref 4, .null] [] (am_hp sw s8) (fun _ => rfl) (fun _ => ?_) (fun _ => ?_)
  · refine sm_go 2 21 [.ref 4, .null] [.int (1)] (am_hp sw s8) (fun _ => rfl) ?_
    exact hj21 (1, s8)
  · refine sm_go 1 21 [.ref 4, .null] [.int (0)] (am_hp sw s8) (fun _ => rfl) ?_
    exact hj21 (0, s8)

def f_X9_sign (s : am_S) (x1 : Int32) : Option (Int32 × am_S) := if x1 = 33 then (am_bd (f_X9_tookEqualSign (am_wI s 4 2 ((s.1 4 2) + 1))) (fun v173 s173 => if v173 = 0 then (some ((1), s173)) else (some ((14), s173)))) else if x1 = 34 then (some ((1), (am_wI s 4 2 ((s.1 4 2) + 1)))) else if x1 = 35 then (some ((1), (am_wI s 4 2 ((s.1 4 2) + 1)))) else if x1 = 36 then (some ((1), (am_wI s 4 2 ((s.1 4 2) + 1)))) else if x1 = 37 then (some ((1), (am_wI s 4 2 ((s.1 4 2) + 1)))) else if x1 = 38 then (some ((1), (am_wI s 4 2 ((s.1 4 2) + 1)))) else if x1 = 39 then (some ((1), (am_wI s 4 2 ((s.1 4 2) + 1)))) else if x1 = 40 then (some ((17), (am_wI s 4 2 ((s.1 4 2) + 1)))) else if x1 = 41 then (some ((18), (am_wI s 4 2 ((s.1 4 2) + 1)))) else if x1 = 42 then (some ((12), (am_wI s 4 2 ((s.1 4 2) + 1)))) else if x1 = 43 then (some ((10), (am_wI s 4 2 ((s.1 4 2) + 1)))) else if x1 = 44 then (some ((1), (am_wI s 4 2 ((s.1 4 2) + 1)))) else if x1 = 45 then (some ((11), (am_wI s 4 2 ((s.1 4 2) + 1)))) else if x1 = 46 then (some ((1), (am_wI s 4 2 ((s.1 4 2) + 1)))) else if x1 = 47 then (some ((1), (am_wI s 4 2 ((s.1 4 2) + 1)))) else if x1 = 48 then (some ((1), (am_wI s 4 2 ((s.1 4 2) + 1)))) else if x1 = 49 then (some ((1), (am_wI s 4 2 ((s.1 4 2) + 1)))) else if x1 = 50 then (some ((1), (am_wI s 4 2 ((s.1 4 2) + 1)))) else if x1 = 51 then (some ((1), (am_wI s 4 2 ((s.1 4 2) + 1)))) else if x1 = 52 then (some ((1), (am_wI s 4 2 ((s.1 4 2) + 1)))) else if x1 = 53 then (some ((1), (am_wI s 4 2 ((s.1 4 2) + 1)))) else if x1 = 54 then (some ((1), (am_wI s 4 2 ((s.1 4 2) + 1)))) else if x1 = 55 then (some ((1), (am_wI s 4 2 ((s.1 4 2) + 1)))) else if x1 = 56 then (some ((1), (am_wI s 4 2 ((s.1 4 2) + 1)))) else if x1 = 57 then (some ((1), (am_wI s 4 2 ((s.1 4 2) + 1)))) else if x1 = 58 then (some ((1), (am_wI s 4 2 ((s.1 4 2) + 1)))) else if x1 = 59 then (some ((9), (am_wI s 4 2 ((s.1 4 2) + 1)))) else if x1 = 60 then (am_bd (f_X9_tookEqualSign (am_wI s 4 2 ((s.1 4 2) + 1))) (fun v187 s187 => if v187 = 0 then (some ((15), s187)) else (some ((16), s187)))) else if x1 = 61 then (am_bd (f_X9_tookEqualSign (am_wI s 4 2 ((s.1 4 2) + 1))) (fun v159 s159 => if v159 = 0 then (some ((1), s159)) else (some ((13), s159)))) else (some ((1), (am_wI s 4 2 ((s.1 4 2) + 1))))
set_option maxRecDepth 20000 in
theorem r_X9_sign (d : Nat) (sw : Bool) (s s' : am_S) (x1 : Int32) (v : Int32) (e : f_X9_sign s x1 = some (v, s')) : am_Run (d + 3) 88 [.ref 4, .int x1] (am_hp sw s) (am_cI v) (am_hp sw s') := by
  refine am_Run.of (M := mt_X9_sign) (cvf := am_cI) (X := f_X9_sign s x1) rfl rfl rfl (by simp) ?_ e
  unfold f_X9_sign
  show am_Sm tb_X9_sign 9 false none (some .int) (d + 2) (am_po am_cI sw) _ 0 [.ref 4, .int x1] [] (am_hp sw s)
  refine sm_go 8 (am_sw x1 (33) 201 [172, 201, 201, 201, 201, 201, 201, 152, 155, 149, 143, 201, 146, 201, 201, 201, 201, 201, 201, 201, 201, 201, 201, 201, 201, 201, 140, 186, 158]) [.ref 4, .int x1] [] (am_hp sw (am_wI s 4 2 ((s.1 4 2) + 1))) (fun _ => rfl) ?_
  refine sm_sw1 34 (by decide) (fun _ => ?_) (fun _ => ?_)
  · refine sm_call (cvf := am_cI) 1 173 [.ref 4, .int x1] [.ref 4] sw (am_wI s 4 2 ((s.1 4 2) + 1)) 89 [.ref 4] [] (fun _ => rfl) rfl (fun _ _ e9 => r_X9_tookEqualSign (d + 0) sw _ _  _ e9) am_po20 (fun v173 s173 => ?_)
    refine sm_br 1 184 179 [.ref 4, .int x1] [] (am_hp sw s173) (fun _ => rfl) (fun _ => ?_) (fun _ => ?_)
    · exact sm_ret 1 185 [.ref 4, .int x1] [.int (1)] (am_hp sw s173) (some (.int (1))) (fun _ => rfl) rfl (fun _ _ h => h)
    · exact sm_ret 2 185 [.ref 4, .int x1] [.int (14)] (am_hp sw s173) (some (.int (14))) (fun _ => rfl) rfl (fun _ _ h => h)
  refine sm_sw1 35 (by decide) (fun _ => ?_) (fun _ => ?_)
  · exact sm_ret 1 202 [.ref 4, .int x1] [.int (1)] (am_hp sw (am_wI s 4 2 ((s.1 4 2) + 1))) (some (.int (1))) (fun _ => rfl) rfl (fun _ _ h => h)
  refine sm_sw1 36 (by decide) (fun _ => ?_) (fun _ => ?_)
  · exact sm_ret 1 202 [.ref 4, .int x1] [.int (1)] (am_hp sw (am_wI s 4 2 ((s.1 4 2) + 1))) (some (.int (1))) (fun _ => rfl) rfl (fun _ _ h => h)
  refine sm_sw1 37 (by decide) (fun _ => ?_) (fun _ => ?_)
  · exact sm_ret 1 202 [.ref 4, .int x1] [.int (1)] (am_hp sw (am_wI s 4 2 ((s.1 4 2) + 1))) (some (.int (1))) (fun _ => rfl) rfl (fun _ _ h => h)
  refine sm_sw1 38 (by decide) (fun _ => ?_) (fun _ => ?_)
  · exact sm_ret 1 202 [.ref 4, .int x1] [.int (1)] (am_hp sw (am_wI s 4 2 ((s.1 4 2) + 1))) (some (.int (1))) (fun _ => rfl) rfl (fun _ _ h => h)
  refine sm_sw1 39 (by decide) (fun _ => ?_) (fun _ => ?_)
  · exact sm_ret 1 202 [.ref 4, .int x1] [.int (1)] (am_hp sw (am_wI s 4 2 ((s.1 4 2) + 1))) (some (.int (1))) (fun _ => rfl) rfl (fun _ _ h => h)
  refine sm_sw1 40 (by decide) (fun _ => ?_) (fun _ => ?_)
  · exact sm_ret 1 202 [.ref 4, .int x1] [.int (1)] (am_hp sw (am_wI s 4 2 ((s.1 4 2) + 1))) (some (.int (1))) (fun _ => rfl) rfl (fun _ _ h => h)
  refine sm_sw1 41 (by decide) (fun _ => ?_) (fun _ => ?_)
  · exact sm_ret 1 154 [.ref 4, .int x1] [.int (17)] (am_hp sw (am_wI s 4 2 ((s.1 4 2) + 1))) (some (.int (17))) (fun _ => rfl) rfl (fun _ _ h => h)
  refine sm_sw1 42 (by decide) (fun _ => ?_) (fun _ => ?_)
  · exact sm_ret 1 157 [.ref 4, .int x1] [.int (18)] (am_hp sw (am_wI s 4 2 ((s.1 4 2) + 1))) (some (.int (18))) (fun _ => rfl) rfl (fun _ _ h => h)
  refine sm_sw1 43 (by decide) (fun _ => ?_) (fun _ => ?_)
  · exact sm_ret 1 151 [.ref 4, .int x1] [.int (12)] (am_hp sw (am_wI s 4 2 ((s.1 4 2) + 1))) (some (.int (12))) (fun _ => rfl) rfl (fun _ _ h => h)
  refine sm_sw1 44 (by decide) (fun _ => ?_) (fun _ => ?_)
  · exact sm_ret 1 145 [.ref 4, .int x1] [.int (10)] (am_hp sw (am_wI s 4 2 ((s.1 4 2) + 1))) (some (.int (10))) (fun _ => rfl) rfl (fun _ _ h => h)
  refine sm_sw1 45 (by decide) (fun _ => ?_) (fun _ => ?_)
  · exact sm_ret 1 202 [.ref 4, .int x1] [.int (1)] (am_hp sw (am_wI s 4 2 ((s.1 4 2) + 1))) (some (.int (1))) (fun _ => rfl) rfl (fun _ _ h => h)
  refine sm_sw1 46 (by decide) (fun _ => ?_) (fun _ => ?_)
  · exact sm_ret 1 148 [.ref 4, .int x1] [.int (11)] (am_hp sw (am_wI s 4 2 ((s.1 4 2) + 1))) (some (.int (11))) (fun _ => rfl) rfl (fun _ _ h => h)
  refine sm_sw1 47 (by decide) (fun _ => ?_) (fun _ => ?_)
  · exact sm_ret 1 202 [.ref 4, .int x1] [.int (1)] (am_hp sw (am_wI s 4 2 ((s.1 4 2) + 1))) (some (.int (1))) (fun _ => rfl) rfl (fun _ _ h => h)
  refine sm_sw1 48 (by decide) (fun _ => ?_) (fun _ => ?_)
  · exact sm_ret 1 202 [.ref 4, .int x1] [.int (1)] (am_hp sw (am_wI s 4 2 ((s.1 4 2) + 1))) (some (.int (1))) (fun _ => rfl) rfl (fun _ _ h => h)
  refine sm_sw1 49 (by decide) (fun _ => ?_) (fun _ => ?_)
  · exact sm_ret 1 202 [.ref 4, .int x1] [.int (1)] (am_hp sw (am_wI s 4 2 ((s.1 4 2) + 1))) (some (.int (1))) (fun _ => rfl) rfl (fun _ _ h => h)
  refine sm_sw1 50 (by decide) (fun _ => ?_) (fun _ => ?_)
  · exact sm_ret 1 202 [.ref 4, .int x1] [.int (1)] (am_hp sw (am_wI s 4 2 ((s.1 4 2) + 1))) (some (.int (1))) (fun _ => rfl) rfl (fun _ _ h => h)
  refine sm_sw1 51 (by decide) (fun _ => ?_) (fun _ => ?_)
  · exact sm_ret 1 202 [.ref 4, .int x1] [.int (1)] (am_hp sw (am_wI s 4 2 ((s.1 4 2) + 1))) (some (.int (1))) (fun _ => rfl) rfl (fun _ _ h => h)
  refine sm_sw1 52 (by decide) (fun _ => ?_) (fun _ => ?_)
  · exact sm_ret 1 202 [.ref 4, .int x1] [.int (1)] (am_hp sw (am_wI s 4 2 ((s.1 4 2) + 1))) (some (.int (1))) (fun _ => rfl) rfl (fun _ _ h => h)
  refine sm_sw1 53 (by decide) (fun _ => ?_) (fun _ => ?_)
  · exact sm_ret 1 202 [.ref 4, .int x1] [.int (1)] (am_hp sw (am_wI s 4 2 ((s.1 4 2) + 1))) (some (.int (1))) (fun _ => rfl) rfl (fun _ _ h => h)
  refine sm_sw1 54 (by decide) (fun _ => ?_) (fun _ => ?_)
  · exact sm_ret 1 202 [.ref 4, .int x1] [.int (1)] (am_hp sw (am_wI s 4 2 ((s.1 4 2) + 1))) (some (.int (1))) (fun _ => rfl) rfl (fun _ _ h => h)
  refine sm_sw1 55 (by decide) (fun _ => ?_) (fun _ => ?_)
  · exact sm_ret 1 202 [.ref 4, .int x1] [.int (1)] (am_hp sw (am_wI s 4 2 ((s.1 4 2) + 1))) (some (.int (1))) (fun _ => rfl) rfl (fun _ _ h => h)
  refine sm_sw1 56 (by decide) (fun _ => ?_) (fun _ => ?_)
  · exact sm_ret 1 202 [.ref 4, .int x1] [.int (1)] (am_hp sw (am_wI s 4 2 ((s.1 4 2) + 1))) (some (.int (1))) (fun _ => rfl) rfl (fun _ _ h => h)
  refine sm_sw1 57 (by decide) (fun _ => ?_) (fun _ => ?_)
  · exact sm_ret 1 202 [.ref 4, .int x1] [.int (1)] (am_hp sw (am_wI s 4 2 ((s.1 4 2) + 1))) (some (.int (1))) (fun _ => rfl) rfl (fun _ _ h => h)
  refine sm_sw1 58 (by decide) (fun _ => ?_) (fun _ => ?_)
  · exact sm_ret 1 202 [.ref 4, .int x1] [.int (1)] (am_hp sw (am_wI s 4 2 ((s.1 4 2) + 1))) (some (.int (1))) (fun _ => rfl) rfl (fun _ _ h => h)
  refine sm_sw1 59 (by decide) (fun _ => ?_) (fun _ => ?_)
  · exact sm_ret 1 202 [.ref 4, .int x1] [.int (1)] (am_hp sw (am_wI s 4 2 ((s.1 4 2) + 1))) (some (.int (1))) (fun _ => rfl) rfl (fun _ _ h => h)
  refine sm_sw1 60 (by decide) (fun _ => ?_) (fun _ => ?_)
  · exact sm_ret 1 142 [.ref 4, .int x1] [.int (9)] (am_hp sw (am_wI s 4 2 ((s.1 4 2) + 1))) (some (.int (9))) (fun _ => rfl) rfl (fun _ _ h => h)
  refine sm_sw1 61 (by decide) (fun _ => ?_) (fun _ => ?_)
  · refine sm_call (cvf := am_cI) 1 187 [.ref 4, .int x1] [.ref 4] sw (am_wI s 4 2 ((s.1 4 2) + 1)) 89 [.ref 4] [] (fun _ => rfl) rfl (fun _ _ e9 => r_X9_tookEqualSign (d + 0) sw _ _  _ e9) am_po20 (fun v187 s187 => ?_)
    refine sm_br 1 198 193 [.ref 4, .int x1] [] (am_hp sw s187) (fun _ => rfl) (fun _ => ?_) (fun _ => ?_)
    · exact sm_ret 1 200 [.ref 4, .int x1] [.int (15)] (am_hp sw s187) (some (.int (15))) (fun _ => rfl) rfl (fun _ _ h => h)
    · exact sm_ret 2 200 [.ref 4, .int x1] [.int (16)] (am_hp sw s187) (some (.int (16))) (fun _ => rfl) rfl (fun _ _ h => h)
  refine sm_sw1 62 (by decide) (fun _ => ?_) (fun _ => ?_)
  · refine sm_call (cvf := am_cI) 1 159 [.ref 4, .int x1] [.ref 4] sw (am_wI s 4 2 ((s.1 4 2) + 1)) 89 [.ref 4] [] (fun _ => rfl) rfl (fun _ _ e9 => r_X9_tookEqualSign (d + 0) sw _ _  _ e9) am_po20 (fun v159 s159 => ?_)
    refine sm_br 1 170 165 [.ref 4, .int x1] [] (am_hp sw s159) (fun _ => rfl) (fun _ => ?_) (fun _ => ?_)
    · exact sm_ret 1 171 [.ref 4, .int x1] [.int (1)] (am_hp sw s159) (some (.int (1))) (fun _ => rfl) rfl (fun _ _ h => h)
    · exact sm_ret 2 171 [.ref 4, .int x1] [.int (13)] (am_hp sw s159) (some (.int (13))) (fun _ => rfl) rfl (fun _ _ h => h)
  refine sm_sw0 ?_
  exact sm_ret 1 202 [.ref 4, .int x1] [.int (1)] (am_hp sw (am_wI s 4 2 ((s.1 4 2) + 1))) (some (.int (1))) (fun _ => rfl) rfl (fun _ _ h => h)

def f_X9_step_L0 : Nat → am_S → Option ((Unit × am_S) ⊕ ((Unit) × am_S))
  | 0, _ => none
  | n + 1, s => if (s.1 4 2) < (s.1 1 1) then (am_bd (f_X10_at s (s.1 4 2)) (fun v22 s22 => am_bd (f_X9_isBlank s22 v22) (fun v25 s25 => if v25 = 0 then (some (.inr ((), s25))) else (f_X9_step_L0 n (am_wI s25 4 2 ((s25.1 4 2) + 1)))))) else (some (.inr ((), s)))
def f_X9_step (s : am_S) : Option (Unit × am_S) := am_lp (fun y => y) (f_X9_step_L0 am_FU s) (fun (_ : Unit) s0 => am_bd (f_X10_at (am_wI (am_wI s0 4 1 (s0.1 4 2)) 4 4 (0)) (s0.1 4 2)) (fun v65 s65 => if v65 = (-1) then (some ((), (am_wI s65 4 3 (0)))) else (am_bd (f_X9_isLetter s65 v65) (fun v83 s83 => if v83 = 0 then (am_bd (f_X9_isDigit s83 v65) (fun v101 s101 => if v101 = 0 then (am_bd (f_X9_sign s101 v65) (fun v121 s121 => some ((), (am_wI s121 4 3 v121)))) else (am_bd (f_X9_number s101) (fun v109 s109 => some ((), (am_wI s109 4 3 v109)))))) else (am_bd (f_X9_word s83) (fun v91 s91 => some ((), (am_wI s91 4 3 v91))))))))
set_option maxRecDepth 20000 in
theorem l_X9_step_0 (d : Nat) (sw : Bool) : ∀ (n : Nat) (s : am_S), am_Sm tb_X9_step 9 false none none (d + 6) (am_pl am_cU sw (fun (v9 : Unit) s9 r h9 => am_Ex tb_X9_step 9 false none none (d + 6) r h9 44 [.ref 4, .null] [] (am_hp sw s9))) (f_X9_step_L0 n s) 0 [.ref 4, .null] [] (am_hp sw s) := by
  intro n
  induction n with
  | zero => intro s; exact sm_no
  | succ n ih =>
    intro s
    rw [f_X9_step_L0]
    refine sm_br 6 14 44 [.ref 4, .null] [] (am_hp sw s) (fun _ => rfl) (fun _ => ?_) (fun _ => ?_)
    · refine sm_call (cvf := am_cI) 4 22 [.ref 4, .null] [.int (s.1 4 2), .ref 1] sw s 92 [.ref 1, .int (s.1 4 2)] [] (fun _ => rfl) rfl (fun _ _ e9 => r_X10_at (d + 5) sw _ _ _ _ e9) am_pl20 (fun v22 s22 => ?_)
      refine sm_call (cvf := am_cI) 0 25 [.ref 4, .null] [.int v22] sw s22 80 [.int v22] [] (fun _ => rfl) rfl (fun _ _ e9 => r_X9_isBlank (d + 5) sw _ _ _ _ e9) am_pl20 (fun v25 s25 => ?_)
      refine sm_br 1 44 31 [.ref 4, .null] [] (am_hp sw s25) (fun _ => rfl) (fun _ => ?_) (fun _ => ?_)
      · exact sm_ex (fun _ _ h => h.2)
      · refine sm_go 7 0 [.ref 4, .null] [] (am_hp sw (am_wI s25 4 2 ((s25.1 4 2) + 1))) (fun _ => rfl) ?_
        exact ih (am_wI s25 4 2 ((s25.1 4 2) + 1))
    · exact sm_ex (fun _ _ h => h.2)

set_option maxRecDepth 20000 in
theorem r_X9_step (d : Nat) (sw : Bool) (s s' : am_S) (v : Unit) (e : f_X9_step s = some (v, s')) : am_Run (d + 7) 79 [.ref 4] (am_hp sw s) (am_cU v) (am_hp sw s') := by
  refine am_Run.of (M := mt_X9_step) (cvf := am_cU) (X := f_X9_step s) rfl rfl rfl (by simp) ?_ e
  unfold f_X9_step
  show am_Sm tb_X9_step 9 false none none (d + 6) (am_po am_cU sw) _ 0 [.ref 4, .null] [] (am_hp sw s)
  refine sm_lp 44 (fun _y => [.ref 4, .null]) (l_X9_step_0 d sw am_FU s) (fun _ _ _ h => h) am_po20 (fun _y s0 => ?_)
  refine sm_call (cvf := am_cI) 11 65 [.ref 4, .null] [.int (s0.1 4 2), .ref 1] sw (am_wI (am_wI s0 4 1 (s0.1 4 2)) 4 4 (0)) 92 [.ref 1, .int (s0.1 4 2)] [] (fun _ => rfl) rfl (fun _ _ e9 => r_X10_at (d + 5) sw _ _ _ _ e9) am_po20 (fun v65 s65 => ?_)
  refine sm_br 4 74 82 [.ref 4, .int v65] [] (am_hp sw s65) (fun _ => rfl) (fun _ => ?_) (fun _ => ?_)
  · exact sm_ret 4 127 [.ref 4, .int v65] [] (am_hp sw (am_wI s65 4 3 (0))) none (fun _ => rfl) rfl (fun _ _ h => h)
  · refine sm_call (cvf := am_cI) 1 83 [.ref 4, .int v65] [.int v65] sw s65 81 [.int v65] [] (fun _ => rfl) rfl (fun _ _ e9 => r_X9_isLetter (d + 5) sw _ _ _ _ e9) am_po20 (fun v83 s83 => ?_)
    refine sm_br 1 100 89 [.ref 4, .int v65] [] (am_hp sw s83) (fun _ => rfl) (fun _ => ?_) (fun _ => ?_)
    · refine sm_call (cvf := am_cI) 1 101 [.ref 4, .int v65] [.int v65] sw s83 82 [.int v65] [] (fun _ => rfl) rfl (fun _ _ e9 => r_X9_isDigit (d + 5) sw _ _ _ _ e9) am_po20 (fun v101 s101 => ?_)
      refine sm_br 1 118 107 [.ref 4, .int v65] [] (am_hp sw s101) (fun _ => rfl) (fun _ => ?_) (fun _ => ?_)
      · refine sm_call (cvf := am_cI) 3 121 [.ref 4, .int v65] [.int v65, .ref 4, .ref 4] sw s101 88 [.ref 4, .int v65] [.ref 4] (fun _ => rfl) rfl (fun _ _ e9 => r_X9_sign (d + 3) sw _ _ _ _ e9) am_po20 (fun v121 s121 => ?_)
        exact sm_ret 1 127 [.ref 4, .int v65] [] (am_hp sw (am_wI s121 4 3 v121)) none (fun _ => rfl) rfl (fun _ _ h => h)
      · refine sm_call (cvf := am_cI) 2 109 [.ref 4, .int v65] [.ref 4, .ref 4] sw s101 87 [.ref 4] [.ref 4] (fun _ => rfl) rfl (fun _ _ e9 => r_X9_number (d + 4) sw _ _  _ e9) am_po20 (fun v109 s109 => ?_)
        exact sm_ret 2 127 [.ref 4, .int v65] [] (am_hp sw (am_wI s109 4 3 v109)) none (fun _ => rfl) rfl (fun _ _ h => h)
    · refine sm_call (cvf := am_cI) 2 91 [.ref 4, .int v65] [.ref 4, .ref 4] sw s83 83 [.ref 4] [.ref 4] (fun _ => rfl) rfl (fun _ _ e9 => r_X9_word (d + 0) sw _ _  _ e9) am_po20 (fun v91 s91 => ?_)
      exact sm_ret 2 127 [.ref 4, .int v65] [] (am_hp sw (am_wI s91 4 3 v91)) none (fun _ => rfl) rfl (fun _ _ h => h)

def f_X6_parseInto_L23 (b : Nat) : Nat → Int32 → am_S → Option ((Int32 × am_S) ⊕ ((Unit) × am_S))
  | 0, _, _ => none
  | n + 1, x2, s => if 400 < x2 then (some (.inr ((), s))) else (am_bd (f_X9_step s) (fun (_ : Unit) s34 => am_jn (fun (p58 : am_S) => am_bd (f_X6_goesOnWith p58 (s34.1 4 3)) (fun v60 s60 => if v60 = 0 then (some (.inl ((1), s60))) else (am_bd (f_X6_lacksRoomFor b s60 (s34.1 4 3)) (fun v71 s71 => if v71 = 0 then (am_jn (fun (p90 : am_S) => am_bd (f_X8_addToken b p90 (s34.1 4 3) (p90.1 4 4)) (fun (_ : Unit) s99 => am_bd (f_X6_moveBehind s99 (s34.1 4 3)) (fun (_ : Unit) s104 => f_X6_parseInto_L23 b n (x2 + 1) s104))) (fun j90 => if (s71.1 3 1) = 0 then (am_bd (f_X8_beginRule b s71) (fun (_ : Unit) s87 => j90 s87)) else (j90 s71))) else (some (.inl ((2), s71))))))) (fun j58 => if (s34.1 4 3) = 0 then (if (s34.1 3 1) = 0 then (some (.inl ((0), s34))) else (j58 s34)) else (j58 s34))))
def f_X6_parseInto (b : Nat) (s : am_S) : Option (Int32 × am_S) := am_bd (f_X8_clear b s) (fun (_ : Unit) s1 => am_bd (f_X9_restart s1) (fun (_ : Unit) s8 => am_lp (fun y => y) (f_X6_parseInto_L23 b am_FU (0) (am_wI (am_wI s8 3 1 (0)) 3 3 (0))) (fun (_ : Unit) s23 => some ((2), s23))))
set_option maxRecDepth 20000 in
theorem l_X6_parseInto_23_5 (d : Nat) (sw : Bool) : ∀ (n : Nat) (x2 : Int32) (s : am_S), am_Sm tb_X6_parseInto 6 false none (some .int) (d + 7) (am_pl am_cI sw (fun (v9 : Unit) s9 r h9 => am_Ex tb_X6_parseInto 6 false none (some .int) (d + 7) r h9 113 [.null, .null, .null, .null] [] (am_hp sw s9))) (f_X6_parseInto_L23 5 n x2 s) 23 [.ref 3, .ref 5, .int x2, .null] [] (am_hp sw s) := by
  intro n
  induction n with
  | zero => intro x2 s; exact sm_no
  | succ n ih =>
    intro x2 s
    rw [f_X6_parseInto_L23]
    refine sm_br 3 113 30 [.ref 3, .ref 5, .int x2, .null] [] (am_hp sw s) (fun _ => rfl) (fun _ => ?_) (fun _ => ?_)
    · refine sm_fg [.null, .null, .null, .null] ⟨Or.inl rfl, Or.inl rfl, Or.inl rfl, Or.inl rfl, trivial⟩ ?_
      exact sm_ex (fun _ _ h => h.2)
    · refine sm_call (cvf := am_cU) 2 34 [.ref 3, .ref 5, .int x2, .null] [.ref 4] sw s 79 [.ref 4] [] (fun _ => rfl) rfl (fun _ _ e9 => r_X9_step (d + 0) sw _ _  _ e9) am_pl20 (fun _v s34 => ?_)
      refine sm_go 5 46 [.ref 3, .ref 5, .int x2, .int (s34.1 4 3)] [.int (s34.1 4 3)] (am_hp sw s34) (fun _ => rfl) ?_
      refine sm_jn 58 (fun p58 => [.ref 3, .ref 5, .int x2, .int (s34.1 4 3)]) (fun p58 => []) (fun p58 => (am_hp sw p58)) (fun p58 => ?_) (fun j58 hj58 => ?_)
      · refine sm_call (cvf := am_cI) 2 60 [.ref 3, .ref 5, .int x2, .int (s34.1 4 3)] [.int (s34.1 4 3), .ref 3] sw p58 54 [.ref 3, .int (s34.1 4 3)] [] (fun _ => rfl) rfl (fun _ _ e9 => r_X6_goesOnWith (d + 5) sw _ _ _ _ e9) am_pl20 (fun v60 s60 => ?_)
        refine sm_br 1 66 68 [.ref 3, .ref 5, .int x2, .int (s34.1 4 3)] [] (am_hp sw s60) (fun _ => rfl) (fun _ => ?_) (fun _ => ?_)
        · exact sm_ret 1 67 [.ref 3, .ref 5, .int x2, .int (s34.1 4 3)] [.int (1)] (am_hp sw s60) (some (.int (1))) (fun _ => rfl) rfl (fun _ _ h => h)
        · refine sm_call (cvf := am_cI) 3 71 [.ref 3, .ref 5, .int x2, .int (s34.1 4 3)] [.ref 5, .int (s34.1 4 3), .ref 3] sw s60 56 [.ref 3, .int (s34.1 4 3), .ref 5] [] (fun _ => rfl) rfl (fun _ _ e9 => r_X6_lacksRoomFor_5 (d + 6) sw _ _ _ _ e9) am_pl20 (fun v71 s71 => ?_)
          refine sm_br 1 79 77 [.ref 3, .ref 5, .int x2, .int (s34.1 4 3)] [] (am_hp sw s71) (fun _ => rfl) (fun _ => ?_) (fun _ => ?_)
          · refine sm_go 2 83 [.ref 3, .ref 5, .int x2, .int (s34.1 4 3)] [.int (s71.1 3 1)] (am_hp sw s71) (fun _ => rfl) ?_
            refine sm_jn 90 (fun p90 => [.ref 3, .ref 5, .int x2, .int (s34.1 4 3)]) (fun p90 => []) (fun p90 => (am_hp sw p90)) (fun p90 => ?_) (fun j90 hj90 => ?_)
            · refine sm_call (cvf := am_cU) 5 99 [.ref 3, .ref 5, .int x2, .int (s34.1 4 3)] [.int (p90.1 4 4), .int (s34.1 4 3), .ref 5] sw p90 66 [.ref 5, .int (s34.1 4 3), .int (p90.1 4 4)] [] (fun _ => rfl) rfl (fun _ _ e9 => r_X8_addToken_5 (d + 6) sw _ _ _ _ _ e9) am_pl20 (fun _v s99 => ?_)
              refine sm_call (cvf := am_cU) 2 104 [.ref 3, .ref 5, .int x2, .int (s34.1 4 3)] [.int (s34.1 4 3), .ref 3] sw s99 57 [.ref 3, .int (s34.1 4 3)] [] (fun _ => rfl) rfl (fun _ _ e9 => r_X6_moveBehind (d + 6) sw _ _ _ _ e9) am_pl20 (fun _v s104 => ?_)
              refine sm_go 2 23 [.ref 3, .ref 5, .int (x2 + 1), .int (s34.1 4 3)] [] (am_hp sw s104) (fun _ => rfl) ?_
              refine sm_fg [.ref 3, .ref 5, .int (x2 + 1), .null] ⟨Or.inr rfl, Or.inr rfl, Or.inr rfl, Or.inl rfl, trivial⟩ ?_
              exact ih (x2 + 1) s104
            refine sm_br 1 86 90 [.ref 3, .ref 5, .int x2, .int (s34.1 4 3)] [] (am_hp sw s71) (fun _ => rfl) (fun _ => ?_) (fun _ => ?_)
            · refine sm_call (cvf := am_cU) 1 87 [.ref 3, .ref 5, .int x2, .int (s34.1 4 3)] [.ref 5] sw s71 65 [.ref 5] [] (fun _ => rfl) rfl (fun _ _ e9 => r_X8_beginRule_5 (d + 6) sw _ _  _ e9) am_pl20 (fun _v s87 => ?_)
              exact hj90 s87
            · exact hj90 s71
          · exact sm_ret 1 78 [.ref 3, .ref 5, .int x2, .int (s34.1 4 3)] [.int (2)] (am_hp sw s71) (some (.int (2))) (fun _ => rfl) rfl (fun _ _ h => h)
      refine sm_br 1 49 58 [.ref 3, .ref 5, .int x2, .int (s34.1 4 3)] [] (am_hp sw s34) (fun _ => rfl) (fun _ => ?_) (fun _ => ?_)
      · refine sm_br 3 56 58 [.ref 3, .ref 5, .int x2, .int (s34.1 4 3)] [] (am_hp sw s34) (fun _ => rfl) (fun _ => ?_) (fun _ => ?_)
        · exact sm_ret 1 57 [.ref 3, .ref 5, .int x2, .int (s34.1 4 3)] [.int (0)] (am_hp sw s34) (some (.int (0))) (fun _ => rfl) rfl (fun _ _ h => h)
        · exact hj58 s34
      · exact hj58 s34

set_option maxRecDepth 20000 in
theorem r_X6_parseInto_5 (d : Nat) (sw : Bool) (s s' : am_S) (v : Int32) (e : f_X6_parseInto 5 s = some (v, s')) : am_Run (d + 8) 52 [.ref 3, .ref 5] (am_hp sw s) (am_cI v) (am_hp sw s') := by
  refine am_Run.of (M := mt_X6_parseInto) (cvf := am_cI) (X := f_X6_parseInto 5 s) rfl rfl rfl (by simp) ?_ e
  unfold f_X6_parseInto
  show am_Sm tb_X6_parseInto 6 false none (some .int) (d + 7) (am_po am_cI sw) _ 0 [.ref 3, .ref 5, .null, .null] [] (am_hp sw s)
  refine sm_call (cvf := am_cU) 1 1 [.ref 3, .ref 5, .null, .null] [.ref 5] sw s 64 [.ref 5] [] (fun _ => rfl) rfl (fun _ _ e9 => r_X8_clear_5 (d + 6) sw _ _  _ e9) am_po20 (fun _v s1 => ?_)
  refine sm_call (cvf := am_cU) 2 8 [.ref 3, .ref 5, .null, .null] [.ref 4] sw s1 78 [.ref 4] [] (fun _ => rfl) rfl (fun _ _ e9 => r_X9_restart (d + 6) sw _ _  _ e9) am_po20 (fun _v s8 => ?_)
  refine sm_go 8 23 [.ref 3, .ref 5, .int (0), .null] [] (am_hp sw (am_wI (am_wI s8 3 1 (0)) 3 3 (0))) (fun _ => rfl) ?_
  refine sm_lp 113 (fun _y => [.null, .null, .null, .null]) (l_X6_parseInto_23_5 d sw am_FU (0) (am_wI (am_wI s8 3 1 (0)) 3 3 (0))) (fun _ _ _ h => h) am_po20 (fun _y s23 => ?_)
  exact sm_ret 1 114 [.null, .null, .null, .null] [.int (2)] (am_hp sw s23) (some (.int (2))) (fun _ => rfl) rfl (fun _ _ h => h)

set_option maxRecDepth 20000 in
theorem l_X6_parseInto_23_11 (d : Nat) (sw : Bool) : ∀ (n : Nat) (x2 : Int32) (s : am_S), am_Sm tb_X6_parseInto 6 false none (some .int) (d + 7) (am_pl am_cI sw (fun (v9 : Unit) s9 r h9 => am_Ex tb_X6_parseInto 6 false none (some .int) (d + 7) r h9 113 [.null, .null, .null, .null] [] (am_hp sw s9))) (f_X6_parseInto_L23 11 n x2 s) 23 [.ref 3, .ref 11, .int x2, .null] [] (am_hp sw s) := by
  intro n
  induction n with
  | zero => intro x2 s; exact sm_no
  | succ n ih =>
    intro x2 s
    rw [f_X6_parseInto_L23]
    refine sm_br 3 113 30 [.ref 3, .ref 11, .int x2, .null] [] (am_hp sw s) (fun _ => rfl) (fun _ => ?_) (fun _ => ?_)
    · refine sm_fg [.null, .null, .null, .null] ⟨Or.inl rfl, Or.inl rfl, Or.inl rfl, Or.inl rfl, trivial⟩ ?_
      exact sm_ex (fun _ _ h => h.2)
    · refine sm_call (cvf := am_cU) 2 34 [.ref 3, .ref 11, .int x2, .null] [.ref 4] sw s 79 [.ref 4] [] (fun _ => rfl) rfl (fun _ _ e9 => r_X9_step (d + 0) sw _ _  _ e9) am_pl20 (fun _v s34 => ?_)
      refine sm_go 5 46 [.ref 3, .ref 11, .int x2, .int (s34.1 4 3)] [.int (s34.1 4 3)] (am_hp sw s34) (fun _ => rfl) ?_
      refine sm_jn 58 (fun p58 => [.ref 3, .ref 11, .int x2, .int (s34.1 4 3)]) (fun p58 => []) (fun p58 => (am_hp sw p58)) (fun p58 => ?_) (fun j58 hj58 => ?_)
      · refine sm_call (cvf := am_cI) 2 60 [.ref 3, .ref 11, .int x2, .int (s34.1 4 3)] [.int (s34.1 4 3), .ref 3] sw p58 54 [.ref 3, .int (s34.1 4 3)] [] (fun _ => rfl) rfl (fun _ _ e9 => r_X6_goesOnWith (d + 5) sw _ _ _ _ e9) am_pl20 (fun v60 s60 => ?_)
        refine sm_br 1 66 68 [.ref 3, .ref 11, .int x2, .int (s34.1 4 3)] [] (am_hp sw s60) (fun _ => rfl) (fun _ => ?_) (fun _ => ?_)
        · exact sm_ret 1 67 [.ref 3, .ref 11, .int x2, .int (s34.1 4 3)] [.int (1)] (am_hp sw s60) (some (.int (1))) (fun _ => rfl) rfl (fun _ _ h => h)
        · refine sm_call (cvf := am_cI) 3 71 [.ref 3, .ref 11, .int x2, .int (s34.1 4 3)] [.ref 11, .int (s34.1 4 3), .ref 3] sw s60 56 [.ref 3, .int (s34.1 4 3), .ref 11] [] (fun _ => rfl) rfl (fun _ _ e9 => r_X6_lacksRoomFor_11 (d + 6) sw _ _ _ _ e9) am_pl20 (fun v71 s71 => ?_)
          refine sm_br 1 79 77 [.ref 3, .ref 11, .int x2, .int (s34.1 4 3)] [] (am_hp sw s71) (fun _ => rfl) (fun _ => ?_) (fun _ => ?_)
          · refine sm_go 2 83 [.ref 3, .ref 11, .int x2, .int (s34.1 4 3)] [.int (s71.1 3 1)] (am_hp sw s71) (fun _ => rfl) ?_
            refine sm_jn 90 (fun p90 => [.ref 3, .ref 11, .int x2, .int (s34.1 4 3)]) (fun p90 => []) (fun p90 => (am_hp sw p90)) (fun p90 => ?_) (fun j90 hj90 => ?_)
            · refine sm_call (cvf := am_cU) 5 99 [.ref 3, .ref 11, .int x2, .int (s34.1 4 3)] [.int (p90.1 4 4), .int (s34.1 4 3), .ref 11] sw p90 66 [.ref 11, .int (s34.1 4 3), .int (p90.1 4 4)] [] (fun _ => rfl) rfl (fun _ _ e9 => r_X8_addToken_11 (d + 6) sw _ _ _ _ _ e9) am_pl20 (fun _v s99 => ?_)
              refine sm_call (cvf := am_cU) 2 104 [.ref 3, .ref 11, .int x2, .int (s34.1 4 3)] [.int (s34.1 4 3), .ref 3] sw s99 57 [.ref 3, .int (s34.1 4 3)] [] (fun _ => rfl) rfl (fun _ _ e9 => r_X6_moveBehind (d + 6) sw _ _ _ _ e9) am_pl20 (fun _v s104 => ?_)
              refine sm_go 2 23 [.ref 3, .ref 11, .int (x2 + 1), .int (s34.1 4 3)] [] (am_hp sw s104) (fun _ => rfl) ?_
              refine sm_fg [.ref 3, .ref 11, .int (x2 + 1), .null] ⟨Or.inr rfl, Or.inr rfl, Or.inr rfl, Or.inl rfl, trivial⟩ ?_
              exact ih (x2 + 1) s104
            refine sm_br 1 86 90 [.ref 3, .ref 11, .int x2, .int (s34.1 4 3)] [] (am_hp sw s71) (fun _ => rfl) (fun _ => ?_) (fun _ => ?_)
            · refine sm_call (cvf := am_cU) 1 87 [.ref 3, .ref 11, .int x2, .int (s34.1 4 3)] [.ref 11] sw s71 65 [.ref 11] [] (fun _ => rfl) rfl (fun _ _ e9 => r_X8_beginRule_11 (d + 6) sw _ _  _ e9) am_pl20 (fun _v s87 => ?_)
              exact hj90 s87
            · exact hj90 s71
          · exact sm_ret 1 78 [.ref 3, .ref 11, .int x2, .int (s34.1 4 3)] [.int (2)] (am_hp sw s71) (some (.int (2))) (fun _ => rfl) rfl (fun _ _ h => h)
      refine sm_br 1 49 58 [.ref 3, .ref 11, .int x2, .int (s34.1 4 3)] [] (am_hp sw s34) (fun _ => rfl) (fun _ => ?_) (fun _ => ?_)
      · refine sm_br 3 56 58 [.ref 3, .ref 11, .int x2, .int (s34.1 4 3)] [] (am_hp sw s34) (fun _ => rfl) (fun _ => ?_) (fun _ => ?_)
        · exact sm_ret 1 57 [.ref 3, .ref 11, .int x2, .int (s34.1 4 3)] [.int (0)] (am_hp sw s34) (some (.int (0))) (fun _ => rfl) rfl (fun _ _ h => h)
        · exact hj58 s34
      · exact hj58 s34

set_option maxRecDepth 20000 in
theorem r_X6_parseInto_11 (d : Nat) (sw : Bool) (s s' : am_S) (v : Int32) (e : f_X6_parseInto 11 s = some (v, s')) : am_Run (d + 8) 52 [.ref 3, .ref 11] (am_hp sw s) (am_cI v) (am_hp sw s') := by
  refine am_Run.of (M := mt_X6_parseInto) (cvf := am_cI) (X := f_X6_parseInto 11 s) rfl rfl rfl (by simp) ?_ e
  unfold f_X6_parseInto
  show am_Sm tb_X6_parseInto 6 false none (some .int) (d + 7) (am_po am_cI sw) _ 0 [.ref 3, .ref 11, .null, .null] [] (am_hp sw s)
  refine sm_call (cvf := am_cU) 1 1 [.ref 3, .ref 11, .null, .null] [.ref 11] sw s 64 [.ref 11] [] (fun _ => rfl) rfl (fun _ _ e9 => r_X8_clear_11 (d + 6) sw _ _  _ e9) am_po20 (fun _v s1 => ?_)
  refine sm_call (cvf := am_cU) 2 8 [.ref 3, .ref 11, .null, .null] [.ref 4] sw s1 78 [.ref 4] [] (fun _ => rfl) rfl (fun _ _ e9 => r_X9_restart (d + 6) sw _ _  _ e9) am_po20 (fun _v s8 => ?_)
  refine sm_go 8 23 [.ref 3, .ref 11, .int (0), .null] [] (am_hp sw (am_wI (am_wI s8 3 1 (0)) 3 3 (0))) (fun _ => rfl) ?_
  refine sm_lp 113 (fun _y => [.null, .null, .null, .null]) (l_X6_parseInto_23_11 d sw am_FU (0) (am_wI (am_wI s8 3 1 (0)) 3 3 (0))) (fun _ _ _ h => h) am_po20 (fun _y s23 => ?_)
  exact sm_ret 1 114 [.null, .null, .null, .null] [.int (2)] (am_hp sw s23) (some (.int (2))) (fun _ => rfl) rfl (fun _ _ h => h)

def f_X6_reached (s : am_S) : Option (Int32 × am_S) := some ((s.1 4 1), s)
set_option maxRecDepth 20000 in
theorem r_X6_reached (d : Nat) (sw : Bool) (s s' : am_S) (v : Int32) (e : f_X6_reached s = some (v, s')) : am_Run (d + 1) 53 [.ref 3] (am_hp sw s) (am_cI v) (am_hp sw s') := by
  refine am_Run.of (M := mt_X6_reached) (cvf := am_cI) (X := f_X6_reached s) rfl rfl rfl (by simp) ?_ e
  unfold f_X6_reached
  show am_Sm tb_X6_reached 6 false none (some .int) (d + 0) (am_po am_cI sw) _ 0 [.ref 3] [] (am_hp sw s)
  exact sm_ret 3 7 [.ref 3] [.int (s.1 4 1)] (am_hp sw s) (some (.int (s.1 4 1))) (fun _ => rfl) rfl (fun _ _ h => h)

def f_X7_has (s : am_S) (x1 : Int32) : Option (Int32 × am_S) := if x1 < 0 then (some ((0), s)) else (if x1 < (s.1 32 2) then (some ((1), s)) else (some ((0), s)))
set_option maxRecDepth 20000 in
theorem r_X7_has (d : Nat) (sw : Bool) (s s' : am_S) (x1 : Int32) (v : Int32) (e : f_X7_has s x1 = some (v, s')) : am_Run (d + 1) 59 [.ref 32, .int x1] (am_hp sw s) (am_cI v) (am_hp sw s') := by
  refine am_Run.of (M := mt_X7_has) (cvf := am_cI) (X := f_X7_has s x1) rfl rfl rfl (by simp) ?_ e
  unfold f_X7_has
  show am_Sm tb_X7_has 7 false none (some .boolean) (d + 0) (am_po am_cI sw) _ 0 [.ref 32, .int x1] [] (am_hp sw s)
  refine sm_br 2 16 4 [.ref 32, .int x1] [] (am_hp sw s) (fun _ => rfl) (fun _ => ?_) (fun _ => ?_)
  · exact sm_ret 1 17 [.ref 32, .int x1] [.int (0)] (am_hp sw s) (some (.int (0))) (fun _ => rfl) rfl (fun _ _ h => h)
  · refine sm_br 4 12 16 [.ref 32, .int x1] [] (am_hp sw s) (fun _ => rfl) (fun _ => ?_) (fun _ => ?_)
    · exact sm_ret 2 17 [.ref 32, .int x1] [.int (1)] (am_hp sw s) (some (.int (1))) (fun _ => rfl) rfl (fun _ _ h => h)
    · exact sm_ret 1 17 [.ref 32, .int x1] [.int (0)] (am_hp sw s) (some (.int (0))) (fun _ => rfl) rfl (fun _ _ h => h)

def f_X7_addLog (s : am_S) : Option (Int32 × am_S) := if (s.1 32 0) < 30 then (some ((((s.1 32 0) + 1) - 1), (am_wI s 32 0 ((s.1 32 0) + 1)))) else (some ((-1), s))
set_option maxRecDepth 20000 in
theorem r_X7_addLog (d : Nat) (sw : Bool) (s s' : am_S) (v : Int32) (e : f_X7_addLog s = some (v, s')) : am_Run (d + 1) 60 [.ref 32] (am_hp sw s) (am_cI v) (am_hp sw s') := by
  refine am_Run.of (M := mt_X7_addLog) (cvf := am_cI) (X := f_X7_addLog s) rfl rfl rfl (by simp) ?_ e
  unfold f_X7_addLog
  show am_Sm tb_X7_addLog 7 false none (some .int) (d + 0) (am_po am_cI sw) _ 0 [.ref 32] [] (am_hp sw s)
  refine sm_br 4 11 9 [.ref 32] [] (am_hp sw s) (fun _ => rfl) (fun _ => ?_) (fun _ => ?_)
  · exact sm_ret 10 27 [.ref 32] [.int (((s.1 32 0) + 1) - 1)] (am_hp sw (am_wI s 32 0 ((s.1 32 0) + 1))) (some (.int (((s.1 32 0) + 1) - 1))) (fun _ => rfl) rfl (fun _ _ h => h)
  · exact sm_ret 1 10 [.ref 32] [.int (-1)] (am_hp sw s) (some (.int (-1))) (fun _ => rfl) rfl (fun _ _ h => h)

def f_X7_add (s : am_S) (x1 : Int32) (x2 : Int32) (x3 : Int32) : Option (Unit × am_S) := if (s.1 32 2) < 200 then (am_gu (am_in (s.1 32 2) 200) (am_gu (am_in (s.1 32 2) 200) (am_gu (am_in (s.1 32 2) 200) (am_gu (am_in (s.1 32 2) 200) (am_gu (am_in (s.1 32 2) 200) (some ((), (am_wI (am_wI (am_wI (am_wI (am_wI (am_wI s 34 (Int32.toNatClampNeg (s.1 32 2)) x1) 35 (Int32.toNatClampNeg (s.1 32 2)) x2) 36 (Int32.toNatClampNeg (s.1 32 2)) x3) 37 (Int32.toNatClampNeg (s.1 32 2)) (-1)) 38 (Int32.toNatClampNeg (s.1 32 2)) (-1)) 32 2 ((s.1 32 2) + 1))))))))) else (some ((), s))
set_option maxRecDepth 20000 in
theorem r_X7_add (d : Nat) (sw : Bool) (s s' : am_S) (x1 : Int32) (x2 : Int32) (x3 : Int32) (v : Unit) (e : f_X7_add s x1 x2 x3 = some (v, s')) : am_Run (d + 1) 61 [.ref 32, .int x1, .int x2, .int x3] (am_hp sw s) (am_cU v) (am_hp sw s') := by
  refine am_Run.of (M := mt_X7_add) (cvf := am_cU) (X := f_X7_add s x1 x2 x3) rfl rfl rfl (by simp) ?_ e
  unfold f_X7_add
  show am_Sm tb_X7_add 7 false none none (d + 0) (am_po am_cU sw) _ 0 [.ref 32, .int x1, .int x2, .int x3] [] (am_hp sw s)
  refine sm_br 4 10 70 [.ref 32, .int x1, .int x2, .int x3] [] (am_hp sw s) (fun _ => rfl) (fun _ => ?_) (fun _ => ?_)
  · refine sm_iast 5 19 [.ref 32, .int x1, .int x2, .int x3] [] sw s (i := (s.1 32 2)) (x := x1) (c := 34) (fun _ => rfl) rfl rfl rfl ?_
    refine sm_iast 5 29 [.ref 32, .int x1, .int x2, .int x3] [] sw (am_wI s 34 (Int32.toNatClampNeg (s.1 32 2)) x1) (i := (s.1 32 2)) (x := x2) (c := 35) (fun _ => rfl) rfl rfl rfl ?_
    refine sm_iast 5 39 [.ref 32, .int x1, .int x2, .int x3] [] sw (am_wI (am_wI s 34 (Int32.toNatClampNeg (s.1 32 2)) x1) 35 (Int32.toNatClampNeg (s.1 32 2)) x2) (i := (s.1 32 2)) (x := x3) (c := 36) (fun _ => rfl) rfl rfl rfl ?_
    refine sm_iast 5 49 [.ref 32, .int x1, .int x2, .int x3] [] sw (am_wI (am_wI (am_wI s 34 (Int32.toNatClampNeg (s.1 32 2)) x1) 35 (Int32.toNatClampNeg (s.1 32 2)) x2) 36 (Int32.toNatClampNeg (s.1 32 2)) x3) (i := (s.1 32 2)) (x := (-1)) (c := 37) (fun _ => rfl) rfl rfl rfl ?_
    refine sm_iast 5 59 [.ref 32, .int x1, .int x2, .int x3] [] sw (am_wI (am_wI (am_wI (am_wI s 34 (Int32.toNatClampNeg (s.1 32 2)) x1) 35 (Int32.toNatClampNeg (s.1 32 2)) x2) 36 (Int32.toNatClampNeg (s.1 32 2)) x3) 37 (Int32.toNatClampNeg (s.1 32 2)) (-1)) (i := (s.1 32 2)) (x := (-1)) (c := 38) (fun _ => rfl) rfl rfl rfl ?_
    exact sm_ret 6 70 [.ref 32, .int x1, .int x2, .int x3] [] (am_hp sw (am_wI (am_wI (am_wI (am_wI (am_wI (am_wI s 34 (Int32.toNatClampNeg (s.1 32 2)) x1) 35 (Int32.toNatClampNeg (s.1 32 2)) x2) 36 (Int32.toNatClampNeg (s.1 32 2)) x3) 37 (Int32.toNatClampNeg (s.1 32 2)) (-1)) 38 (Int32.toNatClampNeg (s.1 32 2)) (-1)) 32 2 ((s.1 32 2) + 1))) none (fun _ => rfl) rfl (fun _ _ h => h)
  · exact sm_ret 0 70 [.ref 32, .int x1, .int x2, .int x3] [] (am_hp sw s) none (fun _ => rfl) rfl (fun _ _ h => h)

def f_X7_waiting_L4 : Nat → Int32 → Int32 → am_S → Option ((Int32 × am_S) ⊕ ((Int32) × am_S))
  | 0, _, _, _ => none
  | n + 1, x1, x2, s => if x2 < (s.1 32 2) then (am_gu (am_in x2 200) (am_jn (fun (p25 : Int32 × am_S) => f_X7_waiting_L4 n p25.1 (x2 + 1) p25.2) (fun j25 => if (s.1 37 (Int32.toNatClampNeg x2)) = (-1) then (j25 ((x1 + 1), s)) else (j25 (x1, s))))) else (some (.inr (x1, s)))
def f_X7_waiting (s : am_S) : Option (Int32 × am_S) := am_lp (fun y => y) (f_X7_waiting_L4 am_FU (0) (0) s) (fun y4 s4 => some (y4, s4))
set_option maxRecDepth 20000 in
theorem l_X7_waiting_4 (d : Nat) (sw : Bool) : ∀ (n : Nat) (x1 : Int32) (x2 : Int32) (s : am_S), am_Sm tb_X7_waiting 7 false none (some .int) (d + 0) (am_pl am_cI sw (fun (v9 : Int32) s9 r h9 => am_Ex tb_X7_waiting 7 false none (some .int) (d + 0) r h9 31 [.null, .int v9, .null] [] (am_hp sw s9))) (f_X7_waiting_L4 n x1 x2 s) 4 [.ref 32, .int x1, .int x2] [] (am_hp sw s) := by
  intro n
  induction n with
  | zero => intro x1 x2 s; exact sm_no
  | succ n ih =>
    intro x1 x2 s
    rw [f_X7_waiting_L4]
    refine sm_br 4 12 31 [.ref 32, .int x1, .int x2] [] (am_hp sw s) (fun _ => rfl) (fun _ => ?_) (fun _ => ?_)
    · refine sm_iald 3 17 [.ref 32, .int x1, .int x2] [] (am_hp sw s) (i := x2) (c := 37) (fun _ => rfl) rfl rfl rfl rfl ?_
      refine sm_go 1 19 [.ref 32, .int x1, .int x2] [.int (-1), .int (s.1 37 (Int32.toNatClampNeg x2))] (am_hp sw s) (fun _ => rfl) ?_
      refine sm_jn 25 (fun p25 => [.ref 32, .int p25.1, .int x2]) (fun p25 => []) (fun p25 => (am_hp sw p25.2)) (fun p25 => ?_) (fun j25 hj25 => ?_)
      · refine sm_go 2 4 [.ref 32, .int p25.1, .int (x2 + 1)] [] (am_hp sw p25.2) (fun _ => rfl) ?_
        exact ih p25.1 (x2 + 1) p25.2
      refine sm_br 1 22 25 [.ref 32, .int x1, .int x2] [] (am_hp sw s) (fun _ => rfl) (fun _ => ?_) (fun _ => ?_)
      · refine sm_go 1 25 [.ref 32, .int (x1 + 1), .int x2] [] (am_hp sw s) (fun _ => rfl) ?_
        exact hj25 ((x1 + 1), s)
      · exact hj25 (x1, s)
    · refine sm_fg [.null, .int x1, .null] ⟨Or.inl rfl, Or.inr rfl, Or.inl rfl, trivial⟩ ?_
      exact sm_ex (fun _ _ h => h.2)

set_option maxRecDepth 20000 in
theorem r_X7_waiting (d : Nat) (sw : Bool) (s s' : am_S) (v : Int32) (e : f_X7_waiting s = some (v, s')) : am_Run (d + 1) 62 [.ref 32] (am_hp sw s) (am_cI v) (am_hp sw s') := by
  refine am_Run.of (M := mt_X7_waiting) (cvf := am_cI) (X := f_X7_waiting s) rfl rfl rfl (by simp) ?_ e
  unfold f_X7_waiting
  show am_Sm tb_X7_waiting 7 false none (some .int) (d + 0) (am_po am_cI sw) _ 0 [.ref 32, .null, .null] [] (am_hp sw s)
  refine sm_go 4 4 [.ref 32, .int (0), .int (0)] [] (am_hp sw s) (fun _ => rfl) ?_
  refine sm_lp 31 (fun y4 => [.null, .int y4, .null]) (l_X7_waiting_4 d sw am_FU (0) (0) s) (fun _ _ _ h => h) am_po20 (fun y4 s4 => ?_)
  exact sm_ret 1 32 [.null, .int y4, .null] [.int y4] (am_hp sw s4) (some (.int y4)) (fun _ => rfl) rfl (fun _ _ h => h)

def f_X8_takeToken (b : Nat) (s : am_S) : Option (Int32 × am_S) := if (s.1 b 5) < 0 then (some ((0), s)) else (if (s.1 b 5) < (s.1 b 2) then (am_gu (am_in (((s.1 b 5) + 1) - 1) 400) (some ((s.1 (b + 2) (Int32.toNatClampNeg (((s.1 b 5) + 1) - 1))), (am_wI s b 5 ((s.1 b 5) + 1))))) else (some ((0), s)))
set_option maxRecDepth 20000 in
theorem r_X8_takeToken_5 (d : Nat) (sw : Bool) (s s' : am_S) (v : Int32) (e : f_X8_takeToken 5 s = some (v, s')) : am_Run (d + 1) 69 [.ref 5] (am_hp sw s) (am_cI v) (am_hp sw s') := by
  refine am_Run.of (M := mt_X8_takeToken) (cvf := am_cI) (X := f_X8_takeToken 5 s) rfl rfl rfl (by simp) ?_ e
  unfold f_X8_takeToken
  show am_Sm tb_X8_takeToken 8 false none (some .int) (d + 0) (am_po am_cI sw) _ 0 [.ref 5] [] (am_hp sw s)
  refine sm_br 3 18 7 [.ref 5] [] (am_hp sw s) (fun _ => rfl) (fun _ => ?_) (fun _ => ?_)
  · exact sm_ret 1 19 [.ref 5] [.int (0)] (am_hp sw s) (some (.int (0))) (fun _ => rfl) rfl (fun _ _ h => h)
  · refine sm_br 5 20 18 [.ref 5] [] (am_hp sw s) (fun _ => rfl) (fun _ => ?_) (fun _ => ?_)
    · refine sm_iald 12 40 [.ref 5] [] (am_hp sw (am_wI s 5 5 ((s.1 5 5) + 1))) (i := (((s.1 5 5) + 1) - 1)) (c := 7) (fun _ => rfl) rfl rfl rfl rfl ?_
      exact sm_ret 0 41 [.ref 5] [.int (s.1 7 (Int32.toNatClampNeg (((s.1 5 5) + 1) - 1)))] (am_hp sw (am_wI s 5 5 ((s.1 5 5) + 1))) (some (.int (s.1 7 (Int32.toNatClampNeg (((s.1 5 5) + 1) - 1))))) (fun _ => rfl) rfl (fun _ _ h => h)
    · exact sm_ret 1 19 [.ref 5] [.int (0)] (am_hp sw s) (some (.int (0))) (fun _ => rfl) rfl (fun _ _ h => h)

set_option maxRecDepth 20000 in
theorem r_X8_takeToken_11 (d : Nat) (sw : Bool) (s s' : am_S) (v : Int32) (e : f_X8_takeToken 11 s = some (v, s')) : am_Run (d + 1) 69 [.ref 11] (am_hp sw s) (am_cI v) (am_hp sw s') := by
  refine am_Run.of (M := mt_X8_takeToken) (cvf := am_cI) (X := f_X8_takeToken 11 s) rfl rfl rfl (by simp) ?_ e
  unfold f_X8_takeToken
  show am_Sm tb_X8_takeToken 8 false none (some .int) (d + 0) (am_po am_cI sw) _ 0 [.ref 11] [] (am_hp sw s)
  refine sm_br 3 18 7 [.ref 11] [] (am_hp sw s) (fun _ => rfl) (fun _ => ?_) (fun _ => ?_)
  · exact sm_ret 1 19 [.ref 11] [.int (0)] (am_hp sw s) (some (.int (0))) (fun _ => rfl) rfl (fun _ _ h => h)
  · refine sm_br 5 20 18 [.ref 11] [] (am_hp sw s) (fun _ => rfl) (fun _ => ?_) (fun _ => ?_)
    · refine sm_iald 12 40 [.ref 11] [] (am_hp sw (am_wI s 11 5 ((s.1 11 5) + 1))) (i := (((s.1 11 5) + 1) - 1)) (c := 13) (fun _ => rfl) rfl rfl rfl rfl ?_
      exact sm_ret 0 41 [.ref 11] [.int (s.1 13 (Int32.toNatClampNeg (((s.1 11 5) + 1) - 1)))] (am_hp sw (am_wI s 11 5 ((s.1 11 5) + 1))) (some (.int (s.1 13 (Int32.toNatClampNeg (((s.1 11 5) + 1) - 1))))) (fun _ => rfl) rfl (fun _ _ h => h)
    · exact sm_ret 1 19 [.ref 11] [.int (0)] (am_hp sw s) (some (.int (0))) (fun _ => rfl) rfl (fun _ _ h => h)

def f_X8_beginSum (b : Nat) (s : am_S) (x1 : Int32) : Option (Unit × am_S) := am_gu (am_in x1 7) (am_gu (am_in x1 7) (some ((), (am_wI (am_wI s (b + 4) (Int32.toNatClampNeg x1) (0)) (b + 5) (Int32.toNatClampNeg x1) (1)))))
set_option maxRecDepth 20000 in
theorem r_X8_beginSum_5 (d : Nat) (sw : Bool) (s s' : am_S) (x1 : Int32) (v : Unit) (e : f_X8_beginSum 5 s x1 = some (v, s')) : am_Run (d + 1) 73 [.ref 5, .int x1] (am_hp sw s) (am_cU v) (am_hp sw s') := by
  refine am_Run.of (M := mt_X8_beginSum) (cvf := am_cU) (X := f_X8_beginSum 5 s x1) rfl rfl rfl (by simp) ?_ e
  unfold f_X8_beginSum
  show am_Sm tb_X8_beginSum 8 false none none (d + 0) (am_po am_cU sw) _ 0 [.ref 5, .int x1] [] (am_hp sw s)
  refine sm_iast 4 6 [.ref 5, .int x1] [] sw s (i := x1) (x := (0)) (c := 9) (fun _ => rfl) rfl rfl rfl ?_
  refine sm_iast 4 13 [.ref 5, .int x1] [] sw (am_wI s 9 (Int32.toNatClampNeg x1) (0)) (i := x1) (x := (1)) (c := 10) (fun _ => rfl) rfl rfl rfl ?_
  exact sm_ret 0 14 [.ref 5, .int x1] [] (am_hp sw (am_wI (am_wI s 9 (Int32.toNatClampNeg x1) (0)) 10 (Int32.toNatClampNeg x1) (1))) none (fun _ => rfl) rfl (fun _ _ h => h)

set_option maxRecDepth 20000 in
theorem r_X8_beginSum_11 (d : Nat) (sw : Bool) (s s' : am_S) (x1 : Int32) (v : Unit) (e : f_X8_beginSum 11 s x1 = some (v, s')) : am_Run (d + 1) 73 [.ref 11, .int x1] (am_hp sw s) (am_cU v) (am_hp sw s') := by
  refine am_Run.of (M := mt_X8_beginSum) (cvf := am_cU) (X := f_X8_beginSum 11 s x1) rfl rfl rfl (by simp) ?_ e
  unfold f_X8_beginSum
  show am_Sm tb_X8_beginSum 8 false none none (d + 0) (am_po am_cU sw) _ 0 [.ref 11, .int x1] [] (am_hp sw s)
  refine sm_iast 4 6 [.ref 11, .int x1] [] sw s (i := x1) (x := (0)) (c := 15) (fun _ => rfl) rfl rfl rfl ?_
  refine sm_iast 4 13 [.ref 11, .int x1] [] sw (am_wI s 15 (Int32.toNatClampNeg x1) (0)) (i := x1) (x := (1)) (c := 16) (fun _ => rfl) rfl rfl rfl ?_
  exact sm_ret 0 14 [.ref 11, .int x1] [] (am_hp sw (am_wI (am_wI s 15 (Int32.toNatClampNeg x1) (0)) 16 (Int32.toNatClampNeg x1) (1))) none (fun _ => rfl) rfl (fun _ _ h => h)

def f_X8_beginPart (b : Nat) (s : am_S) (x1 : Int32) (x2 : Int32) : Option (Unit × am_S) := am_gu (am_in x1 7) (am_gu (am_in x1 7) (am_gu (am_in x1 7) (am_gu (am_in x1 7) (some ((), (am_wI (am_wI s (b + 4) (Int32.toNatClampNeg x1) ((s.1 (b + 4) (Int32.toNatClampNeg x1)) + (s.1 (b + 5) (Int32.toNatClampNeg x1)))) (b + 5) (Int32.toNatClampNeg x1) x2))))))
set_option maxRecDepth 20000 in
theorem r_X8_beginPart_5 (d : Nat) (sw : Bool) (s s' : am_S) (x1 : Int32) (x2 : Int32) (v : Unit) (e : f_X8_beginPart 5 s x1 x2 = some (v, s')) : am_Run (d + 1) 74 [.ref 5, .int x1, .int x2] (am_hp sw s) (am_cU v) (am_hp sw s') := by
  refine am_Run.of (M := mt_X8_beginPart) (cvf := am_cU) (X := f_X8_beginPart 5 s x1 x2) rfl rfl rfl (by simp) ?_ e
  unfold f_X8_beginPart
  show am_Sm tb_X8_beginPart 8 false none none (d + 0) (am_po am_cU sw) _ 0 [.ref 5, .int x1, .int x2] [] (am_hp sw s)
  refine sm_iald 4 6 [.ref 5, .int x1, .int x2] [.int x1, .ref 9] (am_hp sw s) (i := x1) (c := 9) (fun _ => rfl) rfl rfl rfl rfl ?_
  refine sm_iald 3 12 [.ref 5, .int x1, .int x2] [.int (s.1 9 (Int32.toNatClampNeg x1)), .int x1, .ref 9] (am_hp sw s) (i := x1) (c := 10) (fun _ => rfl) rfl rfl rfl rfl ?_
  refine sm_iast 1 14 [.ref 5, .int x1, .int x2] [] sw s (i := x1) (x := ((s.1 9 (Int32.toNatClampNeg x1)) + (s.1 10 (Int32.toNatClampNeg x1)))) (c := 9) (fun _ => rfl) rfl rfl rfl ?_
  refine sm_iast 4 21 [.ref 5, .int x1, .int x2] [] sw (am_wI s 9 (Int32.toNatClampNeg x1) ((s.1 9 (Int32.toNatClampNeg x1)) + (s.1 10 (Int32.toNatClampNeg x1)))) (i := x1) (x := x2) (c := 10) (fun _ => rfl) rfl rfl rfl ?_
  exact sm_ret 0 22 [.ref 5, .int x1, .int x2] [] (am_hp sw (am_wI (am_wI s 9 (Int32.toNatClampNeg x1) ((s.1 9 (Int32.toNatClampNeg x1)) + (s.1 10 (Int32.toNatClampNeg x1)))) 10 (Int32.toNatClampNeg x1) x2)) none (fun _ => rfl) rfl (fun _ _ h => h)

set_option maxRecDepth 20000 in
theorem r_X8_beginPart_11 (d : Nat) (sw : Bool) (s s' : am_S) (x1 : Int32) (x2 : Int32) (v : Unit) (e : f_X8_beginPart 11 s x1 x2 = some (v, s')) : am_Run (d + 1) 74 [.ref 11, .int x1, .int x2] (am_hp sw s) (am_cU v) (am_hp sw s') := by
  refine am_Run.of (M := mt_X8_beginPart) (cvf := am_cU) (X := f_X8_beginPart 11 s x1 x2) rfl rfl rfl (by simp) ?_ e
  unfold f_X8_beginPart
  show am_Sm tb_X8_beginPart 8 false none none (d + 0) (am_po am_cU sw) _ 0 [.ref 11, .int x1, .int x2] [] (am_hp sw s)
  refine sm_iald 4 6 [.ref 11, .int x1, .int x2] [.int x1, .ref 15] (am_hp sw s) (i := x1) (c := 15) (fun _ => rfl) rfl rfl rfl rfl ?_
  refine sm_iald 3 12 [.ref 11, .int x1, .int x2] [.int (s.1 15 (Int32.toNatClampNeg x1)), .int x1, .ref 15] (am_hp sw s) (i := x1) (c := 16) (fun _ => rfl) rfl rfl rfl rfl ?_
  refine sm_iast 1 14 [.ref 11, .int x1, .int x2] [] sw s (i := x1) (x := ((s.1 15 (Int32.toNatClampNeg x1)) + (s.1 16 (Int32.toNatClampNeg x1)))) (c := 15) (fun _ => rfl) rfl rfl rfl ?_
  refine sm_iast 4 21 [.ref 11, .int x1, .int x2] [] sw (am_wI s 15 (Int32.toNatClampNeg x1) ((s.1 15 (Int32.toNatClampNeg x1)) + (s.1 16 (Int32.toNatClampNeg x1)))) (i := x1) (x := x2) (c := 16) (fun _ => rfl) rfl rfl rfl ?_
  exact sm_ret 0 22 [.ref 11, .int x1, .int x2] [] (am_hp sw (am_wI (am_wI s 15 (Int32.toNatClampNeg x1) ((s.1 15 (Int32.toNatClampNeg x1)) + (s.1 16 (Int32.toNatClampNeg x1)))) 16 (Int32.toNatClampNeg x1) x2)) none (fun _ => rfl) rfl (fun _ _ h => h)

def f_X8_isFactor (s : am_S) (x0 : Int32) : Option (Int32 × am_S) := if x0 = 2 then (some ((1), s)) else (if x0 < 19 then (some ((0), s)) else (some ((1), s)))
set_option maxRecDepth 20000 in
theorem r_X8_isFactor (d : Nat) (sw : Bool) (s s' : am_S) (x0 : Int32) (v : Int32) (e : f_X8_isFactor s x0 = some (v, s')) : am_Run (d + 1) 75 [.int x0] (am_hp sw s) (am_cI v) (am_hp sw s') := by
  refine am_Run.of (M := mt_X8_isFactor) (cvf := am_cI) (X := f_X8_isFactor s x0) rfl rfl rfl (by simp) ?_ e
  unfold f_X8_isFactor
  show am_Sm tb_X8_isFactor 8 false none (some .boolean) (d + 0) (am_po am_cI sw) _ 0 [.int x0] [] (am_hp sw s)
  refine sm_br 3 11 5 [.int x0] [] (am_hp sw s) (fun _ => rfl) (fun _ => ?_) (fun _ => ?_)
  · exact sm_ret 2 16 [.int x0] [.int (1)] (am_hp sw s) (some (.int (1))) (fun _ => rfl) rfl (fun _ _ h => h)
  · refine sm_br 3 15 11 [.int x0] [] (am_hp sw s) (fun _ => rfl) (fun _ => ?_) (fun _ => ?_)
    · exact sm_ret 1 16 [.int x0] [.int (0)] (am_hp sw s) (some (.int (0))) (fun _ => rfl) rfl (fun _ _ h => h)
    · exact sm_ret 2 16 [.int x0] [.int (1)] (am_hp sw s) (some (.int (1))) (fun _ => rfl) rfl (fun _ _ h => h)

def f_X8_factor (b : Nat) (s : am_S) (x1 : Int32) : Option (Int32 × am_S) := am_gu (am_in x1 400) (am_jn (fun (p26 : am_S) => am_gu (am_in x1 400) (some ((p26.1 (b + 3) (Int32.toNatClampNeg x1)), p26))) (fun j26 => if ((s.1 (b + 2) (Int32.toNatClampNeg x1)) - 19) < 0 then (j26 s) else (if ((s.1 (b + 2) (Int32.toNatClampNeg x1)) - 19) < 8 then (am_gu (am_in ((s.1 (b + 2) (Int32.toNatClampNeg x1)) - 19) 8) (some ((s.1 57 (Int32.toNatClampNeg ((s.1 (b + 2) (Int32.toNatClampNeg x1)) - 19))), s))) else (j26 s))))
set_option maxRecDepth 20000 in
theorem r_X8_factor_5 (d : Nat) (sw : Bool) (s s' : am_S) (x1 : Int32) (v : Int32) (e : f_X8_factor 5 s x1 = some (v, s')) : am_Run (d + 1) 76 [.ref 5, .int x1, .ref 57] (am_hp sw s) (am_cI v) (am_hp sw s') := by
  refine am_Run.of (M := mt_X8_factor) (cvf := am_cI) (X := f_X8_factor 5 s x1) rfl rfl rfl (by simp) ?_ e
  unfold f_X8_factor
  show am_Sm tb_X8_factor 8 false none (some .int) (d + 0) (am_po am_cI sw) _ 0 [.ref 5, .int x1, .ref 57, .null] [] (am_hp sw s)
  refine sm_iald 3 5 [.ref 5, .int x1, .ref 57, .null] [] (am_hp sw s) (i := x1) (c := 7) (fun _ => rfl) rfl rfl rfl rfl ?_
  refine sm_go 4 11 [.ref 5, .int x1, .ref 57, .int ((s.1 7 (Int32.toNatClampNeg x1)) - 19)] [.int ((s.1 7 (Int32.toNatClampNeg x1)) - 19)] (am_hp sw s) (fun _ => rfl) ?_
  refine sm_jn 26 (fun p26 => [.ref 5, .int x1, .null, .null]) (fun p26 => []) (fun p26 => (am_hp sw p26)) (fun p26 => ?_) (fun j26 hj26 => ?_)
  · refine sm_iald 3 31 [.ref 5, .int x1, .null, .null] [] (am_hp sw p26) (i := x1) (c := 8) (fun _ => rfl) rfl rfl rfl rfl ?_
    exact sm_ret 0 32 [.ref 5, .int x1, .null, .null] [.int (p26.1 8 (Int32.toNatClampNeg x1))] (am_hp sw p26) (some (.int (p26.1 8 (Int32.toNatClampNeg x1)))) (fun _ => rfl) rfl (fun _ _ h => h)
  refine sm_br 1 26 14 [.ref 5, .int x1, .ref 57, .int ((s.1 7 (Int32.toNatClampNeg x1)) - 19)] [] (am_hp sw s) (fun _ => rfl) (fun _ => ?_) (fun _ => ?_)
  · refine sm_fg [.ref 5, .int x1, .null, .null] ⟨Or.inr rfl, Or.inr rfl, Or.inl rfl, Or.inl rfl, trivial⟩ ?_
    exact hj26 s
  · refine sm_br 4 20 26 [.ref 5, .int x1, .ref 57, .int ((s.1 7 (Int32.toNatClampNeg x1)) - 19)] [] (am_hp sw s) (fun _ => rfl) (fun _ => ?_) (fun _ => ?_)
    · refine sm_iald 2 22 [.ref 5, .int x1, .ref 57, .int ((s.1 7 (Int32.toNatClampNeg x1)) - 19)] [] (am_hp sw s) (i := ((s.1 7 (Int32.toNatClampNeg x1)) - 19)) (c := 57) (fun _ => rfl) rfl rfl rfl rfl ?_
      exact sm_ret 1 32 [.ref 5, .int x1, .ref 57, .int ((s.1 7 (Int32.toNatClampNeg x1)) - 19)] [.int (s.1 57 (Int32.toNatClampNeg ((s.1 7 (Int32.toNatClampNeg x1)) - 19)))] (am_hp sw s) (some (.int (s.1 57 (Int32.toNatClampNeg ((s.1 7 (Int32.toNatClampNeg x1)) - 19))))) (fun _ => rfl) rfl (fun _ _ h => h)
    · refine sm_fg [.ref 5, .int x1, .null, .null] ⟨Or.inr rfl, Or.inr rfl, Or.inl rfl, Or.inl rfl, trivial⟩ ?_
      exact hj26 s

set_option maxRecDepth 20000 in
theorem r_X8_factor_11 (d : Nat) (sw : Bool) (s s' : am_S) (x1 : Int32) (v : Int32) (e : f_X8_factor 11 s x1 = some (v, s')) : am_Run (d + 1) 76 [.ref 11, .int x1, .ref 57] (am_hp sw s) (am_cI v) (am_hp sw s') := by
  refine am_Run.of (M := mt_X8_factor) (cvf := am_cI) (X := f_X8_factor 11 s x1) rfl rfl rfl (by simp) ?_ e
  unfold f_X8_factor
  show am_Sm tb_X8_factor 8 false none (some .int) (d + 0) (am_po am_cI sw) _ 0 [.ref 11, .int x1, .ref 57, .null] [] (am_hp sw s)
  refine sm_iald 3 5 [.ref 11, .int x1, .ref 57, .null] [] (am_hp sw s) (i := x1) (c := 13) (fun _ => rfl) rfl rfl rfl rfl ?_
  refine sm_go 4 11 [.ref 11, .int x1, .ref 57, .int ((s.1 13 (Int32.toNatClampNeg x1)) - 19)] [.int ((s.1 13 (Int32.toNatClampNeg x1)) - 19)] (am_hp sw s) (fun _ => rfl) ?_
  refine sm_jn 26 (fun p26 => [.ref 11, .int x1, .null, .null]) (fun p26 => []) (fun p26 => (am_hp sw p26)) (fun p26 => ?_) (fun j26 hj26 => ?_)
  · refine sm_iald 3 31 [.ref 11, .int x1, .null, .null] [] (am_hp sw p26) (i := x1) (c := 14) (fun _ => rfl) rfl rfl rfl rfl ?_
    exact sm_ret 0 32 [.ref 11, .int x1, .null, .null] [.int (p26.1 14 (Int32.toNatClampNeg x1))] (am_hp sw p26) (some (.int (p26.1 14 (Int32.toNatClampNeg x1)))) (fun _ => rfl) rfl (fun _ _ h => h)
  refine sm_br 1 26 14 [.ref 11, .int x1, .ref 57, .int ((s.1 13 (Int32.toNatClampNeg x1)) - 19)] [] (am_hp sw s) (fun _ => rfl) (fun _ => ?_) (fun _ => ?_)
  · refine sm_fg [.ref 11, .int x1, .null, .null] ⟨Or.inr rfl, Or.inr rfl, Or.inl rfl, Or.inl rfl, trivial⟩ ?_
    exact hj26 s
  · refine sm_br 4 20 26 [.ref 11, .int x1, .ref 57, .int ((s.1 13 (Int32.toNatClampNeg x1)) - 19)] [] (am_hp sw s) (fun _ => rfl) (fun _ => ?_) (fun _ => ?_)
    · refine sm_iald 2 22 [.ref 11, .int x1, .ref 57, .int ((s.1 13 (Int32.toNatClampNeg x1)) - 19)] [] (am_hp sw s) (i := ((s.1 13 (Int32.toNatClampNeg x1)) - 19)) (c := 57) (fun _ => rfl) rfl rfl rfl rfl ?_
      exact sm_ret 1 32 [.ref 11, .int x1, .ref 57, .int ((s.1 13 (Int32.toNatClampNeg x1)) - 19)] [.int (s.1 57 (Int32.toNatClampNeg ((s.1 13 (Int32.toNatClampNeg x1)) - 19)))] (am_hp sw s) (some (.int (s.1 57 (Int32.toNatClampNeg ((s.1 13 (Int32.toNatClampNeg x1)) - 19))))) (fun _ => rfl) rfl (fun _ _ h => h)
    · refine sm_fg [.ref 11, .int x1, .null, .null] ⟨Or.inr rfl, Or.inr rfl, Or.inl rfl, Or.inl rfl, trivial⟩ ?_
      exact hj26 s

def f_X8_expression_L9 (b : Nat) : Nat → Int32 → Int32 → am_S → Option ((Int32 × am_S) ⊕ ((Unit) × am_S))
  | 0, _, _, _ => none
  | n + 1, x2, x3, s => if x3 = 0 then (some (.inr ((), s))) else (if (s.1 b 5) < (s.1 b 2) then (am_gu (am_in (s.1 b 5) 400) (am_jn (fun (p198 : Int32 × Int32 × am_S) => am_jn (fun (p212 : Int32 × am_S) => f_X8_expression_L9 b n p198.1 p198.2.1 (am_wI p212.2 b 5 ((p198.2.2.1 b 5) + p212.1))) (fun j212 => if p198.2.1 = 0 then (j212 (0, p198.2.2)) else (j212 (1, p198.2.2)))) (fun j198 => if (s.1 (b + 2) (Int32.toNatClampNeg (s.1 b 5))) = 10 then (am_bd (f_X8_beginPart b s x2 (1)) (fun (_ : Unit) s87 => j198 (x2, x3, s87))) else if (s.1 (b + 2) (Int32.toNatClampNeg (s.1 b 5))) = 11 then (am_bd (f_X8_beginPart b s x2 (-1)) (fun (_ : Unit) s96 => j198 (x2, x3, s96))) else if (s.1 (b + 2) (Int32.toNatClampNeg (s.1 b 5))) = 12 then (j198 (x2, x3, s)) else if (s.1 (b + 2) (Int32.toNatClampNeg (s.1 b 5))) = 13 then (am_gu (am_in (s.1 b 5) 400) (am_bd (f_X8_isFactor s (s.1 (b + 2) (Int32.toNatClampNeg (s.1 b 5)))) (fun v168 s168 => am_gu (am_in x2 7) (am_jn (fun (p196 : Int32 × am_S) => am_gu (am_in x2 7) (j198 (x2, v168, (am_wI p196.2 (b + 5) (Int32.toNatClampNeg x2) ((s168.1 (b + 5) (Int32.toNatClampNeg x2)) * p196.1))))) (fun j196 => if v168 = 0 then (j196 (1, s168)) else (am_bd (f_X8_factor b s168 (s168.1 b 5)) (fun v189 s189 => j196 (v189, s189)))))))) else if (s.1 (b + 2) (Int32.toNatClampNeg (s.1 b 5))) = 14 then (am_gu (am_in (s.1 b 5) 400) (am_bd (f_X8_isFactor s (s.1 (b + 2) (Int32.toNatClampNeg (s.1 b 5)))) (fun v168 s168 => am_gu (am_in x2 7) (am_jn (fun (p196 : Int32 × am_S) => am_gu (am_in x2 7) (j198 (x2, v168, (am_wI p196.2 (b + 5) (Int32.toNatClampNeg x2) ((s168.1 (b + 5) (Int32.toNatClampNeg x2)) * p196.1))))) (fun j196 => if v168 = 0 then (j196 (1, s168)) else (am_bd (f_X8_factor b s168 (s168.1 b 5)) (fun v189 s189 => j196 (v189, s189)))))))) else if (s.1 (b + 2) (Int32.toNatClampNeg (s.1 b 5))) = 15 then (am_gu (am_in (s.1 b 5) 400) (am_bd (f_X8_isFactor s (s.1 (b + 2) (Int32.toNatClampNeg (s.1 b 5)))) (fun v168 s168 => am_gu (am_in x2 7) (am_jn (fun (p196 : Int32 × am_S) => am_gu (am_in x2 7) (j198 (x2, v168, (am_wI p196.2 (b + 5) (Int32.toNatClampNeg x2) ((s168.1 (b + 5) (Int32.toNatClampNeg x2)) * p196.1))))) (fun j196 => if v168 = 0 then (j196 (1, s168)) else (am_bd (f_X8_factor b s168 (s168.1 b 5)) (fun v189 s189 => j196 (v189, s189)))))))) else if (s.1 (b + 2) (Int32.toNatClampNeg (s.1 b 5))) = 16 then (am_gu (am_in (s.1 b 5) 400) (am_bd (f_X8_isFactor s (s.1 (b + 2) (Int32.toNatClampNeg (s.1 b 5)))) (fun v168 s168 => am_gu (am_in x2 7) (am_jn (fun (p196 : Int32 × am_S) => am_gu (am_in x2 7) (j198 (x2, v168, (am_wI p196.2 (b + 5) (Int32.toNatClampNeg x2) ((s168.1 (b + 5) (Int32.toNatClampNeg x2)) * p196.1))))) (fun j196 => if v168 = 0 then (j196 (1, s168)) else (am_bd (f_X8_factor b s168 (s168.1 b 5)) (fun v189 s189 => j196 (v189, s189)))))))) else if (s.1 (b + 2) (Int32.toNatClampNeg (s.1 b 5))) = 17 then (am_bd (f_J_min s (x2 + 1) (6)) (fun v110 s110 => am_bd (f_X8_beginSum b s110 v110) (fun (_ : Unit) s116 => j198 (v110, x3, s116)))) else if (s.1 (b + 2) (Int32.toNatClampNeg (s.1 b 5))) = 18 then (am_gu (am_in x2 7) (am_gu (am_in x2 7) (am_bd (f_J_max s (x2 - 1) (0)) (fun v141 s141 => am_gu (am_in v141 7) (am_gu (am_in v141 7) (j198 (v141, x3, (am_wI s141 (b + 5) (Int32.toNatClampNeg v141) ((s141.1 (b + 5) (Int32.toNatClampNeg v141)) * ((s.1 (b + 4) (Int32.toNatClampNeg x2)) + (s.1 (b + 5) (Int32.toNatClampNeg x2)))))))))))) else (am_gu (am_in (s.1 b 5) 400) (am_bd (f_X8_isFactor s (s.1 (b + 2) (Int32.toNatClampNeg (s.1 b 5)))) (fun v168 s168 => am_gu (am_in x2 7) (am_jn (fun (p196 : Int32 × am_S) => am_gu (am_in x2 7) (j198 (x2, v168, (am_wI p196.2 (b + 5) (Int32.toNatClampNeg x2) ((s168.1 (b + 5) (Int32.toNatClampNeg x2)) * p196.1))))) (fun j196 => if v168 = 0 then (j196 (1, s168)) else (am_bd (f_X8_factor b s168 (s168.1 b 5)) (fun v189 s189 => j196 (v189, s189))))))))))) else (some (.inr ((), s))))
def f_X8_expression (b : Nat) (s : am_S) : Option (Int32 × am_S) := am_bd (f_X8_beginSum b s (0)) (fun (_ : Unit) s4 => am_lp (fun y => y) (f_X8_expression_L9 b am_FU (0) (1) s4) (fun (_ : Unit) s9 => am_gu (am_in (0) 7) (am_gu (am_in (0) 7) (some (((s9.1 (b + 4) (Int32.toNatClampNeg (0))) + (s9.1 (b + 5) (Int32.toNatClampNeg (0)))), s9)))))
set_option maxRecDepth 20000 in
theorem l_X8_expression_9_5 (d : Nat) (sw : Bool) : ∀ (n : Nat) (x2 : Int32) (x3 : Int32) (s : am_S), am_Sm tb_X8_expression 8 false none (some .int) (d + 1) (am_pl am_cI sw (fun (v9 : Unit) s9 r h9 => am_Ex tb_X8_expression 8 false none (some .int) (d + 1) r h9 219 [.ref 5, .null, .null, .null, .null] [] (am_hp sw s9))) (f_X8_expression_L9 5 n x2 x3 s) 9 [.ref 5, .ref 57, .int x2, .int x3, .null] [] (am_hp sw s) := by
  intro n
  induction n with
  | zero => intro x2 x3 s; exact sm_no
  | succ n ih =>
    intro x2 x3 s
    rw [f_X8_expression_L9]
    refine sm_br 2 219 13 [.ref 5, .ref 57, .int x2, .int x3, .null] [] (am_hp sw s) (fun _ => rfl) (fun _ => ?_) (fun _ => ?_)
    · refine sm_fg [.ref 5, .null, .null, .null, .null] ⟨Or.inr rfl, Or.inl rfl, Or.inl rfl, Or.inl rfl, Or.inl rfl, trivial⟩ ?_
      exact sm_ex (fun _ _ h => h.2)
    · refine sm_br 5 24 219 [.ref 5, .ref 57, .int x2, .int x3, .null] [] (am_hp sw s) (fun _ => rfl) (fun _ => ?_) (fun _ => ?_)
      · refine sm_iald 4 32 [.ref 5, .ref 57, .int x2, .int x3, .null] [] (am_hp sw s) (i := (s.1 5 5)) (c := 7) (fun _ => rfl) rfl rfl rfl rfl ?_
        refine sm_jn 198 (fun p198 => [.ref 5, .ref 57, .int p198.1, .int p198.2.1, .null]) (fun p198 => []) (fun p198 => (am_hp sw p198.2.2)) (fun p198 => ?_) (fun j198 hj198 => ?_)
        · refine sm_go 4 204 [.ref 5, .ref 57, .int p198.1, .int p198.2.1, .null] [.int p198.2.1, .int (p198.2.2.1 5 5), .ref 5] (am_hp sw p198.2.2) (fun _ => rfl) ?_
          refine sm_jn 212 (fun p212 => [.ref 5, .ref 57, .int p198.1, .int p198.2.1, .null]) (fun p212 => [.int p212.1, .int (p198.2.2.1 5 5), .ref 5]) (fun p212 => (am_hp sw p212.2)) (fun p212 => ?_) (fun j212 hj212 => ?_)
          · refine sm_go 3 9 [.ref 5, .ref 57, .int p198.1, .int p198.2.1, .null] [] (am_hp sw (am_wI p212.2 5 5 ((p198.2.2.1 5 5) + p212.1))) (fun _ => rfl) ?_
            exact ih p198.1 p198.2.1 (am_wI p212.2 5 5 ((p198.2.2.1 5 5) + p212.1))
          refine sm_br 1 211 207 [.ref 5, .ref 57, .int p198.1, .int p198.2.1, .null] [.int (p198.2.2.1 5 5), .ref 5] (am_hp sw p198.2.2) (fun _ => rfl) (fun _ => ?_) (fun _ => ?_)
          · refine sm_go 1 212 [.ref 5, .ref 57, .int p198.1, .int p198.2.1, .null] [.int (0), .int (p198.2.2.1 5 5), .ref 5] (am_hp sw p198.2.2) (fun _ => rfl) ?_
            exact hj212 (0, p198.2.2)
          · refine sm_go 2 212 [.ref 5, .ref 57, .int p198.1, .int p198.2.1, .null] [.int (1), .int (p198.2.2.1 5 5), .ref 5] (am_hp sw p198.2.2) (fun _ => rfl) ?_
            exact hj212 (1, p198.2.2)
        refine sm_go 1 (am_sw (s.1 7 (Int32.toNatClampNeg (s.1 5 5))) (10) 159 [84, 93, 102, 159, 159, 159, 159, 105, 122]) [.ref 5, .ref 57, .int x2, .int x3, .null] [] (am_hp sw s) (fun _ => rfl) ?_
        refine sm_sw1 11 (by decide) (fun _ => ?_) (fun _ => ?_)
        · refine sm_call (cvf := am_cU) 3 87 [.ref 5, .ref 57, .int x2, .int x3, .null] [.int (1), .int x2, .ref 5] sw s 74 [.ref 5, .int x2, .int (1)] [] (fun _ => rfl) rfl (fun _ _ e9 => r_X8_beginPart_5 (d + 0) sw _ _ _ _ _ e9) am_pl20 (fun _v s87 => ?_)
          refine sm_go 1 198 [.ref 5, .ref 57, .int x2, .int x3, .null] [] (am_hp sw s87) (fun _ => rfl) ?_
          exact hj198 (x2, x3, s87)
        refine sm_sw1 12 (by decide) (fun _ => ?_) (fun _ => ?_)
        · refine sm_call (cvf := am_cU) 3 96 [.ref 5, .ref 57, .int x2, .int x3, .null] [.int (-1), .int x2, .ref 5] sw s 74 [.ref 5, .int x2, .int (-1)] [] (fun _ => rfl) rfl (fun _ _ e9 => r_X8_beginPart_5 (d + 0) sw _ _ _ _ _ e9) am_pl20 (fun _v s96 => ?_)
          refine sm_go 1 198 [.ref 5, .ref 57, .int x2, .int x3, .null] [] (am_hp sw s96) (fun _ => rfl) ?_
          exact hj198 (x2, x3, s96)
        refine sm_sw1 13 (by decide) (fun _ => ?_) (fun _ => ?_)
        · refine sm_go 1 198 [.ref 5, .ref 57, .int x2, .int x3, .null] [] (am_hp sw s) (fun _ => rfl) ?_
          exact hj198 (x2, x3, s)
        refine sm_sw1 14 (by decide) (fun _ => ?_) (fun _ => ?_)
        · refine sm_iald 4 167 [.ref 5, .ref 57, .int x2, .int x3, .null] [] (am_hp sw s) (i := (s.1 5 5)) (c := 7) (fun _ => rfl) rfl rfl rfl rfl ?_
          refine sm_call (cvf := am_cI) 0 168 [.ref 5, .ref 57, .int x2, .int x3, .null] [.int (s.1 7 (Int32.toNatClampNeg (s.1 5 5)))] sw s 75 [.int (s.1 7 (Int32.toNatClampNeg (s.1 5 5)))] [] (fun _ => rfl) rfl (fun _ _ e9 => r_X8_isFactor (d + 0) sw _ _ _ _ e9) am_pl20 (fun v168 s168 => ?_)
          refine sm_iald 5 178 [.ref 5, .ref 57, .int x2, .int v168, .null] [.int x2, .ref 10] (am_hp sw s168) (i := x2) (c := 10) (fun _ => rfl) rfl rfl rfl rfl ?_
          refine sm_go 1 180 [.ref 5, .ref 57, .int x2, .int v168, .null] [.int v168, .int (s168.1 10 (Int32.toNatClampNeg x2)), .int x2, .ref 10] (am_hp sw s168) (fun _ => rfl) ?_
          refine sm_jn 196 (fun p196 => [.ref 5, .ref 57, .int x2, .int v168, .null]) (fun p196 => [.int p196.1, .int (s168.1 10 (Int32.toNatClampNeg x2)), .int x2, .ref 10]) (fun p196 => (am_hp sw p196.2)) (fun p196 => ?_) (fun j196 hj196 => ?_)
          · refine sm_iast 1 197 [.ref 5, .ref 57, .int x2, .int v168, .null] [] sw p196.2 (i := x2) (x := ((s168.1 10 (Int32.toNatClampNeg x2)) * p196.1)) (c := 10) (fun _ => rfl) rfl rfl rfl ?_
            exact hj198 (x2, v168, (am_wI p196.2 10 (Int32.toNatClampNeg x2) ((s168.1 10 (Int32.toNatClampNeg x2)) * p196.1)))
          refine sm_br 1 195 183 [.ref 5, .ref 57, .int x2, .int v168, .null] [.int (s168.1 10 (Int32.toNatClampNeg x2)), .int x2, .ref 10] (am_hp sw s168) (fun _ => rfl) (fun _ => ?_) (fun _ => ?_)
          · refine sm_go 1 196 [.ref 5, .ref 57, .int x2, .int v168, .null] [.int (1), .int (s168.1 10 (Int32.toNatClampNeg x2)), .int x2, .ref 10] (am_hp sw s168) (fun _ => rfl) ?_
            exact hj196 (1, s168)
          · refine sm_call (cvf := am_cI) 4 189 [.ref 5, .ref 57, .int x2, .int v168, .null] [.ref 57, .int (s168.1 5 5), .ref 5, .int (s168.1 10 (Int32.toNatClampNeg x2)), .int x2, .ref 10] sw s168 76 [.ref 5, .int (s168.1 5 5), .ref 57] [.int (s168.1 10 (Int32.toNatClampNeg x2)), .int x2, .ref 10] (fun _ => rfl) rfl (fun _ _ e9 => r_X8_factor_5 (d + 0) sw _ _ _ _ e9) am_pl20 (fun v189 s189 => ?_)
            refine sm_go 1 196 [.ref 5, .ref 57, .int x2, .int v168, .null] [.int v189, .int (s168.1 10 (Int32.toNatClampNeg x2)), .int x2, .ref 10] (am_hp sw s189) (fun _ => rfl) ?_
            exact hj196 (v189, s189)
        refine sm_sw1 15 (by decide) (fun _ => ?_) (fun _ => ?_)
        · refine sm_iald 4 167 [.ref 5, .ref 57, .int x2, .int x3, .null] [] (am_hp sw s) (i := (s.1 5 5)) (c := 7) (fun _ => rfl) rfl rfl rfl rfl ?_
          refine sm_call (cvf := am_cI) 0 168 [.ref 5, .ref 57, .int x2, .int x3, .null] [.int (s.1 7 (Int32.toNatClampNeg (s.1 5 5)))] sw s 75 [.int (s.1 7 (Int32.toNatClampNeg (s.1 5 5)))] [] (fun _ => rfl) rfl (fun _ _ e9 => r_X8_isFactor (d + 0) sw _ _ _ _ e9) am_pl20 (fun v168 s168 => ?_)
          refine sm_iald 5 178 [.ref 5, .ref 57, .int x2, .int v168, .null] [.int x2, .ref 10] (am_hp sw s168) (i := x2) (c := 10) (fun _ => rfl) rfl rfl rfl rfl ?_
          refine sm_go 1 180 [.ref 5, .ref 57, .int x2, .int v168, .null] [.int v168, .int (s168.1 10 (Int32.toNatClampNeg x2)), .int x2, .ref 10] (am_hp sw s168) (fun _ => rfl) ?_
          refine sm_jn 196 (fun p196 => [.ref 5, .ref 57, .int x2, .int v168, .null]) (fun p196 => [.int p196.1, .int (s168.1 10 (Int32.toNatClampNeg x2)), .int x2, .ref 10]) (fun p196 => (am_hp sw p196.2)) (fun p196 => ?_) (fun j196 hj196 => ?_)
          · refine sm_iast 1 197 [.ref 5, .ref 57, .int x2, .int v168, .null] [] sw p196.2 (i := x2) (x := ((s168.1 10 (Int32.toNatClampNeg x2)) * p196.1)) (c := 10) (fun _ => rfl) rfl rfl rfl ?_
            exact hj198 (x2, v168, (am_wI p196.2 10 (Int32.toNatClampNeg x2) ((s168.1 10 (Int32.toNatClampNeg x2)) * p196.1)))
          refine sm_br 1 195 183 [.ref 5, .ref 57, .int x2, .int v168, .null] [.int (s168.1 10 (Int32.toNatClampNeg x2)), .int x2, .ref 10] (am_hp sw s168) (fun _ => rfl) (fun _ => ?_) (fun _ => ?_)
          · refine sm_go 1 196 [.ref 5, .ref 57, .int x2, .int v168, .null] [.int (1), .int (s168.1 10 (Int32.toNatClampNeg x2)), .int x2, .ref 10] (am_hp sw s168) (fun _ => rfl) ?_
            exact hj196 (1, s168)
          · refine sm_call (cvf := am_cI) 4 189 [.ref 5, .ref 57, .int x2, .int v168, .null] [.ref 57, .int (s168.1 5 5), .ref 5, .int (s168.1 10 (Int32.toNatClampNeg x2)), .int x2, .ref 10] sw s168 76 [.ref 5, .int (s168.1 5 5), .ref 57] [.int (s168.1 10 (Int32.toNatClampNeg x2)), .int x2, .ref 10] (fun _ => rfl) rfl (fun _ _ e9 => r_X8_factor_5 (d + 0) sw _ _ _ _ e9) am_pl20 (fun v189 s189 => ?_)
            refine sm_go 1 196 [.ref 5, .ref 57, .int x2, .int v168, .null] [.int v189, .int (s168.1 10 (Int32.toNatClampNeg x2)), .int x2, .ref 10] (am_hp sw s189) (fun _ => rfl) ?_
            exact hj196 (v189, s189)
        refine sm_sw1 16 (by decide) (fun _ => ?_) (fun _ => ?_)
        · refine sm_iald 4 167 [.ref 5, .ref 57, .int x2, .int x3, .null] [] (am_hp sw s) (i := (s.1 5 5)) (c := 7) (fun _ => rfl) rfl rfl rfl rfl ?_
          refine sm_call (cvf := am_cI) 0 168 [.ref 5, .ref 57, .int x2, .int x3, .null] [.int (s.1 7 (Int32.toNatClampNeg (s.1 5 5)))] sw s 75 [.int (s.1 7 (Int32.toNatClampNeg (s.1 5 5)))] [] (fun _ => rfl) rfl (fun _ _ e9 => r_X8_isFactor (d + 0) sw _ _ _ _ e9) am_pl20 (fun v168 s168 => ?_)
          refine sm_iald 5 178 [.ref 5, .ref 57, .int x2, .int v168, .null] [.int x2, .ref 10] (am_hp sw s168) (i := x2) (c := 10) (fun _ => rfl) rfl rfl rfl rfl ?_
          refine sm_go 1 180 [.ref 5, .ref 57, .int x2, .int v168, .null] [.int v168, .int (s168.1 10 (Int32.toNatClampNeg x2)), .int x2, .ref 10] (am_hp sw s168) (fun _ => rfl) ?_
          refine sm_jn 196 (fun p196 => [.ref 5, .ref 57, .int x2, .int v168, .null]) (fun p196 => [.int p196.1, .int (s168.1 10 (Int32.toNatClampNeg x2)), .int x2, .ref 10]) (fun p196 => (am_hp sw p196.2)) (fun p196 => ?_) (fun j196 hj196 => ?_)
          · refine sm_iast 1 197 [.ref 5, .ref 57, .int x2, .int v168, .null] [] sw p196.2 (i := x2) (x := ((s168.1 10 (Int32.toNatClampNeg x2)) * p196.1)) (c := 10) (fun _ => rfl) rfl rfl rfl ?_
            exact hj198 (x2, v168, (am_wI p196.2 10 (Int32.toNatClampNeg x2) ((s168.1 10 (Int32.toNatClampNeg x2)) * p196.1)))
          refine sm_br 1 195 183 [.ref 5, .ref 57, .int x2, .int v168, .null] [.int (s168.1 10 (Int32.toNatClampNeg x2)), .int x2, .ref 10] (am_hp sw s168) (fun _ => rfl) (fun _ => ?_) (fun _ => ?_)
          · refine sm_go 1 196 [.ref 5, .ref 57, .int x2, .int v168, .null] [.int (1), .int (s168.1 10 (Int32.toNatClampNeg x2)), .int x2, .ref 10] (am_hp sw s168) (fun _ => rfl) ?_
            exact hj196 (1, s168)
          · refine sm_call (cvf := am_cI) 4 189 [.ref 5, .ref 57, .int x2, .int v168, .null] [.ref 57, .int (s168.1 5 5), .ref 5, .int (s168.1 10 (Int32.toNatClampNeg x2)), .int x2, .ref 10] sw s168 76 [.ref 5, .int (s168.1 5 5), .ref 57] [.int (s168.1 10 (Int32.toNatClampNeg x2)), .int x2, .ref 10] (fun _ => rfl) rfl (fun _ _ e9 => r_X8_factor_5 (d + 0) sw _ _ _ _ e9) am_pl20 (fun v189 s189 => ?_)
            refine sm_go 1 196 [.ref 5, .ref 57, .int x2, .int v168, .null] [.int v189, .int (s168.1 10 (Int32.toNatClampNeg x2)), .int x2, .ref 10] (am_hp sw s189) (fun _ => rfl) ?_
            exact hj196 (v189, s189)
        refine sm_sw1 17 (by decide) (fun _ => ?_) (fun _ => ?_)
        · refine sm_iald 4 167 [.ref 5, .ref 57, .int x2, .int x3, .null] [] (am_hp sw s) (i := (s.1 5 5)) (c := 7) (fun _ => rfl) rfl rfl rfl rfl ?_
          refine sm_call (cvf := am_cI) 0 168 [.ref 5, .ref 57, .int x2, .int x3, .null] [.int (s.1 7 (Int32.toNatClampNeg (s.1 5 5)))] sw s 75 [.int (s.1 7 (Int32.toNatClampNeg (s.1 5 5)))] [] (fun _ => rfl) rfl (fun _ _ e9 => r_X8_isFactor (d + 0) sw _ _ _ _ e9) am_pl20 (fun v168 s168 => ?_)
          refine sm_iald 5 178 [.ref 5, .ref 57, .int x2, .int v168, .null] [.int x2, .ref 10] (am_hp sw s168) (i := x2) (c := 10) (fun _ => rfl) rfl rfl rfl rfl ?_
          refine sm_go 1 180 [.ref 5, .ref 57, .int x2, .int v168, .null] [.int v168, .int (s168.1 10 (Int32.toNatClampNeg x2)), .int x2, .ref 10] (am_hp sw s168) (fun _ => rfl) ?_
          refine sm_jn 196 (fun p196 => [.ref 5, .ref 57, .int x2, .int v168, .null]) (fun p196 => [.int p196.1, .int (s168.1 10 (Int32.toNatClampNeg x2)), .int x2, .ref 10]) (fun p196 => (am_hp sw p196.2)) (fun p196 => ?_) (fun j196 hj196 => ?_)
          · refine sm_iast 1 197 [.ref 5, .ref 57, .int x2, .int v168, .null] [] sw p196.2 (i := x2) (x := ((s168.1 10 (Int32.toNatClampNeg x2)) * p196.1)) (c := 10) (fun _ => rfl) rfl rfl rfl ?_
            exact hj198 (x2, v168, (am_wI p196.2 10 (Int32.toNatClampNeg x2) ((s168.1 10 (Int32.toNatClampNeg x2)) * p196.1)))
          refine sm_br 1 195 183 [.ref 5, .ref 57, .int x2, .int v168, .null] [.int (s168.1 10 (Int32.toNatClampNeg x2)), .int x2, .ref 10] (am_hp sw s168) (fun _ => rfl) (fun _ => ?_) (fun _ => ?_)
          · refine sm_go 1 196 [.ref 5, .ref 57, .int x2, .int v168, .null] [.int (1), .int (s168.1 10 (Int32.toNatClampNeg x2)), .int x2, .ref 10] (am_hp sw s168) (fun _ => rfl) ?_
            exact hj196 (1, s168)
          · refine sm_call (cvf := am_cI) 4 189 [.ref 5, .ref 57, .int x2, .int v168, .null] [.ref 57, .int (s168.1 5 5), .ref 5, .int (s168.1 10 (Int32.toNatClampNeg x2)), .int x2, .ref 10] sw s168 76 [.ref 5, .int (s168.1 5 5), .ref 57] [.int (s168.1 10 (Int32.toNatClampNeg x2)), .int x2, .ref 10] (fun _ => rfl) rfl (fun _ _ e9 => r_X8_factor_5 (d + 0) sw _ _ _ _ e9) am_pl20 (fun v189 s189 => ?_)
            refine sm_go 1 196 [.ref 5, .ref 57, .int x2, .int v168, .null] [.int v189, .int (s168.1 10 (Int32.toNatClampNeg x2)), .int x2, .ref 10] (am_hp sw s189) (fun _ => rfl) ?_
            exact hj196 (v189, s189)
        refine sm_sw1 18 (by decide) (fun _ => ?_) (fun _ => ?_)
        · refine sm_call (cvf := am_cI) 4 110 [.ref 5, .ref 57, .int x2, .int x3, .null] [.int (6), .int (x2 + 1)] sw s 200 [.int (x2 + 1), .int (6)] [] (fun _ => rfl) rfl (fun _ _ e9 => r_J_min (d + 0) sw _ _ _ _ _ e9) am_pl20 (fun v110 s110 => ?_)
          refine sm_call (cvf := am_cU) 3 116 [.ref 5, .ref 57, .int v110, .int x3, .null] [.int v110, .ref 5] sw s110 73 [.ref 5, .int v110] [] (fun _ => rfl) rfl (fun _ _ e9 => r_X8_beginSum_5 (d + 0) sw _ _ _ _ e9) am_pl20 (fun _v s116 => ?_)
          refine sm_go 1 198 [.ref 5, .ref 57, .int v110, .int x3, .null] [] (am_hp sw s116) (fun _ => rfl) ?_
          exact hj198 (v110, x3, s116)
        refine sm_sw1 19 (by decide) (fun _ => ?_) (fun _ => ?_)
        · refine sm_iald 3 127 [.ref 5, .ref 57, .int x2, .int x3, .null] [] (am_hp sw s) (i := x2) (c := 9) (fun _ => rfl) rfl rfl rfl rfl ?_
          refine sm_iald 3 133 [.ref 5, .ref 57, .int x2, .int x3, .null] [.int (s.1 9 (Int32.toNatClampNeg x2))] (am_hp sw s) (i := x2) (c := 10) (fun _ => rfl) rfl rfl rfl rfl ?_
          refine sm_call (cvf := am_cI) 6 141 [.ref 5, .ref 57, .int x2, .int x3, .int ((s.1 9 (Int32.toNatClampNeg x2)) + (s.1 10 (Int32.toNatClampNeg x2)))] [.int (0), .int (x2 - 1)] sw s 199 [.int (x2 - 1), .int (0)] [] (fun _ => rfl) rfl (fun _ _ e9 => r_J_max (d + 0) sw _ _ _ _ _ e9) am_pl20 (fun v141 s141 => ?_)
          refine sm_iald 5 151 [.ref 5, .ref 57, .int v141, .int x3, .int ((s.1 9 (Int32.toNatClampNeg x2)) + (s.1 10 (Int32.toNatClampNeg x2)))] [.int v141, .ref 10] (am_hp sw s141) (i := v141) (c := 10) (fun _ => rfl) rfl rfl rfl rfl ?_
          refine sm_iast 2 155 [.ref 5, .ref 57, .int v141, .int x3, .int ((s.1 9 (Int32.toNatClampNeg x2)) + (s.1 10 (Int32.toNatClampNeg x2)))] [] sw s141 (i := v141) (x := ((s141.1 10 (Int32.toNatClampNeg v141)) * ((s.1 9 (Int32.toNatClampNeg x2)) + (s.1 10 (Int32.toNatClampNeg x2))))) (c := 10) (fun _ => rfl) rfl rfl rfl ?_
          refine sm_go 1 198 [.ref 5, .ref 57, .int v141, .int x3, .int ((s.1 9 (Int32.toNatClampNeg x2)) + (s.1 10 (Int32.toNatClampNeg x2)))] [] (am_hp sw (am_wI s141 10 (Int32.toNatClampNeg v141) ((s141.1 10 (Int32.toNatClampNeg v141)) * ((s.1 9 (Int32.toNatClampNeg x2)) + (s.1 10 (Int32.toNatClampNeg x2)))))) (fun _ => rfl) ?_
          refine sm_fg [.ref 5, .ref 57, .int v141, .int x3, .null] ⟨Or.inr rfl, Or.inr rfl, Or.inr rfl, Or.inr rfl, Or.inl rfl, trivial⟩ ?_
          exact hj198 (v141, x3, (am_wI s141 10 (Int32.toNatClampNeg v141) ((s141.1 10 (Int32.toNatClampNeg v141)) * ((s.1 9 (Int32.toNatClampNeg x2)) + (s.1 10 (Int32.toNatClampNeg x2))))))
        refine sm_sw0 ?_
        refine sm_iald 4 167 [.ref 5, .ref 57, .int x2, .int x3, .null] [] (am_hp sw s) (i := (s.1 5 5)) (c := 7) (fun _ => rfl) rfl rfl rfl rfl ?_
        refine sm_call (cvf := am_cI) 0 168 [.ref 5, .ref 57, .int x2, .int x3, .null] [.int (s.1 7 (Int32.toNatClampNeg (s.1 5 5)))] sw s 75 [.int (s.1 7 (Int32.toNatClampNeg (s.1 5 5)))] [] (fun _ => rfl) rfl (fun _ _ e9 => r_X8_isFactor (d + 0) sw _ _ _ _ e9) am_pl20 (fun v168 s168 => ?_)
        refine sm_iald 5 178 [.ref 5, .ref 57, .int x2, .int v168, .null] [.int x2, .ref 10] (am_hp sw s168) (i := x2) (c := 10) (fun _ => rfl) rfl rfl rfl rfl ?_
        refine sm_go 1 180 [.ref 5, .ref 57, .int x2, .int v168, .null] [.int v168, .int (s168.1 10 (Int32.toNatClampNeg x2)), .int x2, .ref 10] (am_hp sw s168) (fun _ => rfl) ?_
        refine sm_jn 196 (fun p196 => [.ref 5, .ref 57, .int x2, .int v168, .null]) (fun p196 => [.int p196.1, .int (s168.1 10 (Int32.toNatClampNeg x2)), .int x2, .ref 10]) (fun p196 => (am_hp sw p196.2)) (fun p196 => ?_) (fun j196 hj196 => ?_)
        · refine sm_iast 1 197 [.ref 5, .ref 57, .int x2, .int v168, .null] [] sw p196.2 (i := x2) (x := ((s168.1 10 (Int32.toNatClampNeg x2)) * p196.1)) (c := 10) (fun _ => rfl) rfl rfl rfl ?_
          exact hj198 (x2, v168, (am_wI p196.2 10 (Int32.toNatClampNeg x2) ((s168.1 10 (Int32.toNatClampNeg x2)) * p196.1)))
        refine sm_br 1 195 183 [.ref 5, .ref 57, .int x2, .int v168, .null] [.int (s168.1 10 (Int32.toNatClampNeg x2)), .int x2, .ref 10] (am_hp sw s168) (fun _ => rfl) (fun _ => ?_) (fun _ => ?_)
        · refine sm_go 1 196 [.ref 5, .ref 57, .int x2, .int v168, .null] [.int (1), .int (s168.1 10 (Int32.toNatClampNeg x2)), .int x2, .ref 10] (am_hp sw s168) (fun _ => rfl) ?_
          exact hj196 (1, s168)
        · refine sm_call (cvf := am_cI) 4 189 [.ref 5, .ref 57, .int x2, .int v168, .null] [.ref 57, .int (s168.1 5 5), .ref 5, .int (s168.1 10 (Int32.toNatClampNeg x2)), .int x2, .ref 10] sw s168 76 [.ref 5, .int (s168.1 5 5), .ref 57] [.int (s168.1 10 (Int32.toNatClampNeg x2)), .int x2, .ref 10] (fun _ => rfl) rfl (fun _ _ e9 => r_X8_factor_5 (d + 0) sw _ _ _ _ e9) am_pl20 (fun v189 s189 => ?_)
          refine sm_go 1 196 [.ref 5, .ref 57, .int x2, .int v168, .null] [.int v189, .int (s168.1 10 (Int32.toNatClampNeg x2)), .int x2, .ref 10] (am_hp sw s189) (fun _ => rfl) ?_
          exact hj196 (v189, s189)
      · refine sm_fg [.ref 5, .null, .null, .null, .null] ⟨Or.inr rfl, Or.inl rfl, Or.inl rfl, Or.inl rfl, Or.inl rfl, trivial⟩ ?_
        exact sm_ex (fun _ _ h => h.2)

set_option maxRecDepth 20000 in
theorem r_X8_expression_5 (d : Nat) (sw : Bool) (s s' : am_S) (v : Int32) (e : f_X8_expression 5 s = some (v, s')) : am_Run (d + 2) 72 [.ref 5, .ref 57] (am_hp sw s) (am_cI v) (am_hp sw s') := by
  refine am_Run.of (M := mt_X8_expression) (cvf := am_cI) (X := f_X8_expression 5 s) rfl rfl rfl (by simp) ?_ e
  unfold f_X8_expression
  show am_Sm tb_X8_expression 8 false none (some .int) (d + 1) (am_po am_cI sw) _ 0 [.ref 5, .ref 57, .null, .null, .null] [] (am_hp sw s)
  refine sm_call (cvf := am_cU) 4 4 [.ref 5, .ref 57, .int (0), .null, .null] [.int (0), .ref 5] sw s 73 [.ref 5, .int (0)] [] (fun _ => rfl) rfl (fun _ _ e9 => r_X8_beginSum_5 (d + 0) sw _ _ _ _ e9) am_po20 (fun _v s4 => ?_)
  refine sm_go 2 9 [.ref 5, .ref 57, .int (0), .int (1), .null] [] (am_hp sw s4) (fun _ => rfl) ?_
  refine sm_lp 219 (fun _y => [.ref 5, .null, .null, .null, .null]) (l_X8_expression_9_5 d sw am_FU (0) (1) s4) (fun _ _ _ h => h) am_po20 (fun _y s9 => ?_)
  refine sm_iald 3 224 [.ref 5, .null, .null, .null, .null] [] (am_hp sw s9) (i := (0)) (c := 9) (fun _ => rfl) rfl rfl rfl rfl ?_
  refine sm_iald 3 230 [.ref 5, .null, .null, .null, .null] [.int (s9.1 9 (Int32.toNatClampNeg (0)))] (am_hp sw s9) (i := (0)) (c := 10) (fun _ => rfl) rfl rfl rfl rfl ?_
  exact sm_ret 1 232 [.ref 5, .null, .null, .null, .null] [.int ((s9.1 9 (Int32.toNatClampNeg (0))) + (s9.1 10 (Int32.toNatClampNeg (0))))] (am_hp sw s9) (some (.int ((s9.1 9 (Int32.toNatClampNeg (0))) + (s9.1 10 (Int32.toNatClampNeg (0)))))) (fun _ => rfl) rfl (fun _ _ h => h)

set_option maxRecDepth 20000 in
theorem l_X8_expression_9_11 (d : Nat) (sw : Bool) : ∀ (n : Nat) (x2 : Int32) (x3 : Int32) (s : am_S), am_Sm tb_X8_expression 8 false none (some .int) (d + 1) (am_pl am_cI sw (fun (v9 : Unit) s9 r h9 => am_Ex tb_X8_expression 8 false none (some .int) (d + 1) r h9 219 [.ref 11, .null, .null, .null, .null] [] (am_hp sw s9))) (f_X8_expression_L9 11 n x2 x3 s) 9 [.ref 11, .ref 57, .int x2, .int x3, .null] [] (am_hp sw s) := by
  intro n
  induction n with
  | zero => intro x2 x3 s; exact sm_no
  | succ n ih =>
    intro x2 x3 s
    rw [f_X8_expression_L9]
    refine sm_br 2 219 13 [.ref 11, .ref 57, .int x2, .int x3, .null] [] (am_hp sw s) (fun _ => rfl) (fun _ => ?_) (fun _ => ?_)
    · refine sm_fg [.ref 11, .null, .null, .null, .null] ⟨Or.inr rfl, Or.inl rfl, Or.inl rfl, Or.inl rfl, Or.inl rfl, trivial⟩ ?_
      exact sm_ex (fun _ _ h => h.2)
    · refine sm_br 5 24 219 [.ref 11, .ref 57, .int x2, .int x3, .null] [] (am_hp sw s) (fun _ => rfl) (fun _ => ?_) (fun _ => ?_)
      · refine sm_iald 4 32 [.ref 11, .ref 57, .int x2, .int x3, .null] [] (am_hp sw s) (i := (s.1 11 5)) (c := 13) (fun _ => rfl) rfl rfl rfl rfl ?_
        refine sm_jn 198 (fun p198 => [.ref 11, .ref 57, .int p198.1, .int p198.2.1, .null]) (fun p198 => []) (fun p198 => (am_hp sw p198.2.2)) (fun p198 => ?_) (fun j198 hj198 => ?_)
        · refine sm_go 4 204 [.ref 11, .ref 57, .int p198.1, .int p198.2.1, .null] [.int p198.2.1, .int (p198.2.2.1 11 5), .ref 11] (am_hp sw p198.2.2) (fun _ => rfl) ?_
          refine sm_jn 212 (fun p212 => [.ref 11, .ref 57, .int p198.1, .int p198.2.1, .null]) (fun p212 => [.int p212.1, .int (p198.2.2.1 11 5), .ref 11]) (fun p212 => (am_hp sw p212.2)) (fun p212 => ?_) (fun j212 hj212 => ?_)
          · refine sm_go 3 9 [.ref 11, .ref 57, .int p198.1, .int p198.2.1, .null] [] (am_hp sw (am_wI p212.2 11 5 ((p198.2.2.1 11 5) + p212.1))) (fun _ => rfl) ?_
            exact ih p198.1 p198.2.1 (am_wI p212.2 11 5 ((p198.2.2.1 11 5) + p212.1))
          refine sm_br 1 211 207 [.ref 11, .ref 57, .int p198.1, .int p198.2.1, .null] [.int (p198.2.2.1 11 5), .ref 11] (am_hp sw p198.2.2) (fun _ => rfl) (fun _ => ?_) (fun _ => ?_)
          · refine sm_go 1 212 [.ref 11, .ref 57, .int p198.1, .int p198.2.1, .null] [.int (0), .int (p198.2.2.1 11 5), .ref 11] (am_hp sw p198.2.2) (fun _ => rfl) ?_
            exact hj212 (0, p198.2.2)
          · refine sm_go 2 212 [.ref 11, .ref 57, .int p198.1, .int p198.2.1, .null] [.int (1), .int (p198.2.2.1 11 5), .ref 11] (am_hp sw p198.2.2) (fun _ => rfl) ?_
            exact hj212 (1, p198.2.2)
        refine sm_go 1 (am_sw (s.1 13 (Int32.toNatClampNeg (s.1 11 5))) (10) 159 [84, 93, 102, 159, 159, 159, 159, 105, 122]) [.ref 11, .ref 57, .int x2, .int x3, .null] [] (am_hp sw s) (fun _ => rfl) ?_
        refine sm_sw1 11 (by decide) (fun _ => ?_) (fun _ => ?_)
        · refine sm_call (cvf := am_cU) 3 87 [.ref 11, .ref 57, .int x2, .int x3, .null] [.int (1), .int x2, .ref 11] sw s 74 [.ref 11, .int x2, .int (1)] [] (fun _ => rfl) rfl (fun _ _ e9 => r_X8_beginPart_11 (d + 0) sw _ _ _ _ _ e9) am_pl20 (fun _v s87 => ?_)
          refine sm_go 1 198 [.ref 11, .ref 57, .int x2, .int x3, .null] [] (am_hp sw s87) (fun _ => rfl) ?_
          exact hj198 (x2, x3, s87)
        refine sm_sw1 12 (by decide) (fun _ => ?_) (fun _ => ?_)
        · refine sm_call (cvf := am_cU) 3 96 [.ref 11, .ref 57, .int x2, .int x3, .null] [.int (-1), .int x2, .ref 11] sw s 74 [.ref 11, .int x2, .int (-1)] [] (fun _ => rfl) rfl (fun _ _ e9 => r_X8_beginPart_11 (d + 0) sw _ _ _ _ _ e9) am_pl20 (fun _v s96 => ?_)
          refine sm_go 1 198 [.ref 11, .ref 57, .int x2, .int x3, .null] [] (am_hp sw s96) (fun _ => rfl) ?_
          exact hj198 (x2, x3, s96)
        refine sm_sw1 13 (by decide) (fun _ => ?_) (fun _ => ?_)
        · refine sm_go 1 198 [.ref 11, .ref 57, .int x2, .int x3, .null] [] (am_hp sw s) (fun _ => rfl) ?_
          exact hj198 (x2, x3, s)
        refine sm_sw1 14 (by decide) (fun _ => ?_) (fun _ => ?_)
        · refine sm_iald 4 167 [.ref 11, .ref 57, .int x2, .int x3, .null] [] (am_hp sw s) (i := (s.1 11 5)) (c := 13) (fun _ => rfl) rfl rfl rfl rfl ?_
          refine sm_call (cvf := am_cI) 0 168 [.ref 11, .ref 57, .int x2, .int x3, .null] [.int (s.1 13 (Int32.toNatClampNeg (s.1 11 5)))] sw s 75 [.int (s.1 13 (Int32.toNatClampNeg (s.1 11 5)))] [] (fun _ => rfl) rfl (fun _ _ e9 => r_X8_isFactor (d + 0) sw _ _ _ _ e9) am_pl20 (fun v168 s168 => ?_)
          refine sm_iald 5 178 [.ref 11, .ref 57, .int x2, .int v168, .null] [.int x2, .ref 16] (am_hp sw s168) (i := x2) (c := 16) (fun _ => rfl) rfl rfl rfl rfl ?_
          refine sm_go 1 180 [.ref 11, .ref 57, .int x2, .int v168, .null] [.int v168, .int (s168.1 16 (Int32.toNatClampNeg x2)), .int x2, .ref 16] (am_hp sw s168) (fun _ => rfl) ?_
          refine sm_jn 196 (fun p196 => [.ref 11, .ref 57, .int x2, .int v168, .null]) (fun p196 => [.int p196.1, .int (s168.1 16 (Int32.toNatClampNeg x2)), .int x2, .ref 16]) (fun p196 => (am_hp sw p196.2)) (fun p196 => ?_) (fun j196 hj196 => ?_)
          · refine sm_iast 1 197 [.ref 11, .ref 57, .int x2, .int v168, .null] [] sw p196.2 (i := x2) (x := ((s168.1 16 (Int32.toNatClampNeg x2)) * p196.1)) (c := 16) (fun _ => rfl) rfl rfl rfl ?_
            exact hj198 (x2, v168, (am_wI p196.2 16 (Int32.toNatClampNeg x2) ((s168.1 16 (Int32.toNatClampNeg x2)) * p196.1)))
          refine sm_br 1 195 183 [.ref 11, .ref 57, .int x2, .int v168, .null] [.int (s168.1 16 (Int32.toNatClampNeg x2)), .int x2, .ref 16] (am_hp sw s168) (fun _ => rfl) (fun _ => ?_) (fun _ => ?_)
          · refine sm_go 1 196 [.ref 11, .ref 57, .int x2, .int v168, .null] [.int (1), .int (s168.1 16 (Int32.toNatClampNeg x2)), .int x2, .ref 16] (am_hp sw s168) (fun _ => rfl) ?_
            exact hj196 (1, s168)
          · refine sm_call (cvf := am_cI) 4 189 [.ref 11, .ref 57, .int x2, .int v168, .null] [.ref 57, .int (s168.1 11 5), .ref 11, .int (s168.1 16 (Int32.toNatClampNeg x2)), .int x2, .ref 16] sw s168 76 [.ref 11, .int (s168.1 11 5), .ref 57] [.int (s168.1 16 (Int32.toNatClampNeg x2)), .int x2, .ref 16] (fun _ => rfl) rfl (fun _ _ e9 => r_X8_factor_11 (d + 0) sw _ _ _ _ e9) am_pl20 (fun v189 s189 => ?_)
            refine sm_go 1 196 [.ref 11, .ref 57, .int x2, .int v168, .null] [.int v189, .int (s168.1 16 (Int32.toNatClampNeg x2)), .int x2, .ref 16] (am_hp sw s189) (fun _ => rfl) ?_
            exact hj196 (v189, s189)
        refine sm_sw1 15 (by decide) (fun _ => ?_) (fun _ => ?_)
        · refine sm_iald 4 167 [.ref 11, .ref 57, .int x2, .int x3, .null] [] (am_hp sw s) (i := (s.1 11 5)) (c := 13) (fun _ => rfl) rfl rfl rfl rfl ?_
          refine sm_call (cvf := am_cI) 0 168 [.ref 11, .ref 57, .int x2, .int x3, .null] [.int (s.1 13 (Int32.toNatClampNeg (s.1 11 5)))] sw s 75 [.int (s.1 13 (Int32.toNatClampNeg (s.1 11 5)))] [] (fun _ => rfl) rfl (fun _ _ e9 => r_X8_isFactor (d + 0) sw _ _ _ _ e9) am_pl20 (fun v168 s168 => ?_)
          refine sm_iald 5 178 [.ref 11, .ref 57, .int x2, .int v168, .null] [.int x2, .ref 16] (am_hp sw s168) (i := x2) (c := 16) (fun _ => rfl) rfl rfl rfl rfl ?_
          refine sm_go 1 180 [.ref 11, .ref 57, .int x2, .int v168, .null] [.int v168, .int (s168.1 16 (Int32.toNatClampNeg x2)), .int x2, .ref 16] (am_hp sw s168) (fun _ => rfl) ?_
          refine sm_jn 196 (fun p196 => [.ref 11, .ref 57, .int x2, .int v168, .null]) (fun p196 => [.int p196.1, .int (s168.1 16 (Int32.toNatClampNeg x2)), .int x2, .ref 16]) (fun p196 => (am_hp sw p196.2)) (fun p196 => ?_) (fun j196 hj196 => ?_)
          · refine sm_iast 1 197 [.ref 11, .ref 57, .int x2, .int v168, .null] [] sw p196.2 (i := x2) (x := ((s168.1 16 (Int32.toNatClampNeg x2)) * p196.1)) (c := 16) (fun _ => rfl) rfl rfl rfl ?_
            exact hj198 (x2, v168, (am_wI p196.2 16 (Int32.toNatClampNeg x2) ((s168.1 16 (Int32.toNatClampNeg x2)) * p196.1)))
          refine sm_br 1 195 183 [.ref 11, .ref 57, .int x2, .int v168, .null] [.int (s168.1 16 (Int32.toNatClampNeg x2)), .int x2, .ref 16] (am_hp sw s168) (fun _ => rfl) (fun _ => ?_) (fun _ => ?_)
          · refine sm_go 1 196 [.ref 11, .ref 57, .int x2, .int v168, .null] [.int (1), .int (s168.1 16 (Int32.toNatClampNeg x2)), .int x2, .ref 16] (am_hp sw s168) (fun _ => rfl) ?_
            exact hj196 (1, s168)
          · refine sm_call (cvf := am_cI) 4 189 [.ref 11, .ref 57, .int x2, .int v168, .null] [.ref 57, .int (s168.1 11 5), .ref 11, .int (s168.1 16 (Int32.toNatClampNeg x2)), .int x2, .ref 16] sw s168 76 [.ref 11, .int (s168.1 11 5), .ref 57] [.int (s168.1 16 (Int32.toNatClampNeg x2)), .int x2, .ref 16] (fun _ => rfl) rfl (fun _ _ e9 => r_X8_factor_11 (d + 0) sw _ _ _ _ e9) am_pl20 (fun v189 s189 => ?_)
            refine sm_go 1 196 [.ref 11, .ref 57, .int x2, .int v168, .null] [.int v189, .int (s168.1 16 (Int32.toNatClampNeg x2)), .int x2, .ref 16] (am_hp sw s189) (fun _ => rfl) ?_
            exact hj196 (v189, s189)
        refine sm_sw1 16 (by decide) (fun _ => ?_) (fun _ => ?_)
        · refine sm_iald 4 167 [.ref 11, .ref 57, .int x2, .int x3, .null] [] (am_hp sw s) (i := (s.1 11 5)) (c := 13) (fun _ => rfl) rfl rfl rfl rfl ?_
          refine sm_call (cvf := am_cI) 0 168 [.ref 11, .ref 57, .int x2, .int x3, .null] [.int (s.1 13 (Int32.toNatClampNeg (s.1 11 5)))] sw s 75 [.int (s.1 13 (Int32.toNatClampNeg (s.1 11 5)))] [] (fun _ => rfl) rfl (fun _ _ e9 => r_X8_isFactor (d + 0) sw _ _ _ _ e9) am_pl20 (fun v168 s168 => ?_)
          refine sm_iald 5 178 [.ref 11, .ref 57, .int x2, .int v168, .null] [.int x2, .ref 16] (am_hp sw s168) (i := x2) (c := 16) (fun _ => rfl) rfl rfl rfl rfl ?_
          refine sm_go 1 180 [.ref 11, .ref 57, .int x2, .int v168, .null] [.int v168, .int (s168.1 16 (Int32.toNatClampNeg x2)), .int x2, .ref 16] (am_hp sw s168) (fun _ => rfl) ?_
          refine sm_jn 196 (fun p196 => [.ref 11, .ref 57, .int x2, .int v168, .null]) (fun p196 => [.int p196.1, .int (s168.1 16 (Int32.toNatClampNeg x2)), .int x2, .ref 16]) (fun p196 => (am_hp sw p196.2)) (fun p196 => ?_) (fun j196 hj196 => ?_)
          · refine sm_iast 1 197 [.ref 11, .ref 57, .int x2, .int v168, .null] [] sw p196.2 (i := x2) (x := ((s168.1 16 (Int32.toNatClampNeg x2)) * p196.1)) (c := 16) (fun _ => rfl) rfl rfl rfl ?_
            exact hj198 (x2, v168, (am_wI p196.2 16 (Int32.toNatClampNeg x2) ((s168.1 16 (Int32.toNatClampNeg x2)) * p196.1)))
          refine sm_br 1 195 183 [.ref 11, .ref 57, .int x2, .int v168, .null] [.int (s168.1 16 (Int32.toNatClampNeg x2)), .int x2, .ref 16] (am_hp sw s168) (fun _ => rfl) (fun _ => ?_) (fun _ => ?_)
          · refine sm_go 1 196 [.ref 11, .ref 57, .int x2, .int v168, .null] [.int (1), .int (s168.1 16 (Int32.toNatClampNeg x2)), .int x2, .ref 16] (am_hp sw s168) (fun _ => rfl) ?_
            exact hj196 (1, s168)
          · refine sm_call (cvf := am_cI) 4 189 [.ref 11, .ref 57, .int x2, .int v168, .null] [.ref 57, .int (s168.1 11 5), .ref 11, .int (s168.1 16 (Int32.toNatClampNeg x2)), .int x2, .ref 16] sw s168 76 [.ref 11, .int (s168.1 11 5), .ref 57] [.int (s168.1 16 (Int32.toNatClampNeg x2)), .int x2, .ref 16] (fun _ => rfl) rfl (fun _ _ e9 => r_X8_factor_11 (d + 0) sw _ _ _ _ e9) am_pl20 (fun v189 s189 => ?_)
            refine sm_go 1 196 [.ref 11, .ref 57, .int x2, .int v168, .null] [.int v189, .int (s168.1 16 (Int32.toNatClampNeg x2)), .int x2, .ref 16] (am_hp sw s189) (fun _ => rfl) ?_
            exact hj196 (v189, s189)
        refine sm_sw1 17 (by decide) (fun _ => ?_) (fun _ => ?_)
        · refine sm_iald 4 167 [.ref 11, .ref 57, .int x2, .int x3, .null] [] (am_hp sw s) (i := (s.1 11 5)) (c := 13) (fun _ => rfl) rfl rfl rfl rfl ?_
          refine sm_call (cvf := am_cI) 0 168 [.ref 11, .ref 57, .int x2, .int x3, .null] [.int (s.1 13 (Int32.toNatClampNeg (s.1 11 5)))] sw s 75 [.int (s.1 13 (Int32.toNatClampNeg (s.1 11 5)))] [] (fun _ => rfl) rfl (fun _ _ e9 => r_X8_isFactor (d + 0) sw _ _ _ _ e9) am_pl20 (fun v168 s168 => ?_)
          refine sm_iald 5 178 [.ref 11, .ref 57, .int x2, .int v168, .null] [.int x2, .ref 16] (am_hp sw s168) (i := x2) (c := 16) (fun _ => rfl) rfl rfl rfl rfl ?_
          refine sm_go 1 180 [.ref 11, .ref 57, .int x2, .int v168, .null] [.int v168, .int (s168.1 16 (Int32.toNatClampNeg x2)), .int x2, .ref 16] (am_hp sw s168) (fun _ => rfl) ?_
          refine sm_jn 196 (fun p196 => [.ref 11, .ref 57, .int x2, .int v168, .null]) (fun p196 => [.int p196.1, .int (s168.1 16 (Int32.toNatClampNeg x2)), .int x2, .ref 16]) (fun p196 => (am_hp sw p196.2)) (fun p196 => ?_) (fun j196 hj196 => ?_)
          · refine sm_iast 1 197 [.ref 11, .ref 57, .int x2, .int v168, .null] [] sw p196.2 (i := x2) (x := ((s168.1 16 (Int32.toNatClampNeg x2)) * p196.1)) (c := 16) (fun _ => rfl) rfl rfl rfl ?_
            exact hj198 (x2, v168, (am_wI p196.2 16 (Int32.toNatClampNeg x2) ((s168.1 16 (Int32.toNatClampNeg x2)) * p196.1)))
          refine sm_br 1 195 183 [.ref 11, .ref 57, .int x2, .int v168, .null] [.int (s168.1 16 (Int32.toNatClampNeg x2)), .int x2, .ref 16] (am_hp sw s168) (fun _ => rfl) (fun _ => ?_) (fun _ => ?_)
          · refine sm_go 1 196 [.ref 11, .ref 57, .int x2, .int v168, .null] [.int (1), .int (s168.1 16 (Int32.toNatClampNeg x2)), .int x2, .ref 16] (am_hp sw s168) (fun _ => rfl) ?_
            exact hj196 (1, s168)
          · refine sm_call (cvf := am_cI) 4 189 [.ref 11, .ref 57, .int x2, .int v168, .null] [.ref 57, .int (s168.1 11 5), .ref 11, .int (s168.1 16 (Int32.toNatClampNeg x2)), .int x2, .ref 16] sw s168 76 [.ref 11, .int (s168.1 11 5), .ref 57] [.int (s168.1 16 (Int32.toNatClampNeg x2)), .int x2, .ref 16] (fun _ => rfl) rfl (fun _ _ e9 => r_X8_factor_11 (d + 0) sw _ _ _ _ e9) am_pl20 (fun v189 s189 => ?_)
            refine sm_go 1 196 [.ref 11, .ref 57, .int x2, .int v168, .null] [.int v189, .int (s168.1 16 (Int32.toNatClampNeg x2)), .int x2, .ref 16] (am_hp sw s189) (fun _ => rfl) ?_
            exact hj196 (v189, s189)
        refine sm_sw1 18 (by decide) (fun _ => ?_) (fun _ => ?_)
        · refine sm_call (cvf := am_cI) 4 110 [.ref 11, .ref 57, .int x2, .int x3, .null] [.int (6), .int (x2 + 1)] sw s 200 [.int (x2 + 1), .int (6)] [] (fun _ => rfl) rfl (fun _ _ e9 => r_J_min (d + 0) sw _ _ _ _ _ e9) am_pl20 (fun v110 s110 => ?_)
          refine sm_call (cvf := am_cU) 3 116 [.ref 11, .ref 57, .int v110, .int x3, .null] [.int v110, .ref 11] sw s110 73 [.ref 11, .int v110] [] (fun _ => rfl) rfl (fun _ _ e9 => r_X8_beginSum_11 (d + 0) sw _ _ _ _ e9) am_pl20 (fun _v s116 => ?_)
          refine sm_go 1 198 [.ref 11, .ref 57, .int v110, .int x3, .null] [] (am_hp sw s116) (fun _ => rfl) ?_
          exact hj198 (v110, x3, s116)
        refine sm_sw1 19 (by decide) (fun _ => ?_) (fun _ => ?_)
        · refine sm_iald 3 127 [.ref 11, .ref 57, .int x2, .int x3, .null] [] (am_hp sw s) (i := x2) (c := 15) (fun _ => rfl) rfl rfl rfl rfl ?_
          refine sm_iald 3 133 [.ref 11, .ref 57, .int x2, .int x3, .null] [.int (s.1 15 (Int32.toNatClampNeg x2))] (am_hp sw s) (i := x2) (c := 16) (fun _ => rfl) rfl rfl rfl rfl ?_
          refine sm_call (cvf := am_cI) 6 141 [.ref 11, .ref 57, .int x2, .int x3, .int ((s.1 15 (Int32.toNatClampNeg x2)) + (s.1 16 (Int32.toNatClampNeg x2)))] [.int (0), .int (x2 - 1)] sw s 199 [.int (x2 - 1), .int (0)] [] (fun _ => rfl) rfl (fun _ _ e9 => r_J_max (d + 0) sw _ _ _ _ _ e9) am_pl20 (fun v141 s141 => ?_)
          refine sm_iald 5 151 [.ref 11, .ref 57, .int v141, .int x3, .int ((s.1 15 (Int32.toNatClampNeg x2)) + (s.1 16 (Int32.toNatClampNeg x2)))] [.int v141, .ref 16] (am_hp sw s141) (i := v141) (c := 16) (fun _ => rfl) rfl rfl rfl rfl ?_
          refine sm_iast 2 155 [.ref 11, .ref 57, .int v141, .int x3, .int ((s.1 15 (Int32.toNatClampNeg x2)) + (s.1 16 (Int32.toNatClampNeg x2)))] [] sw s141 (i := v141) (x := ((s141.1 16 (Int32.toNatClampNeg v141)) * ((s.1 15 (Int32.toNatClampNeg x2)) + (s.1 16 (Int32.toNatClampNeg x2))))) (c := 16) (fun _ => rfl) rfl rfl rfl ?_
          refine sm_go 1 198 [.ref 11, .ref 57, .int v141, .int x3, .int ((s.1 15 (Int32.toNatClampNeg x2)) + (s.1 16 (Int32.toNatClampNeg x2)))] [] (am_hp sw (am_wI s141 16 (Int32.toNatClampNeg v141) ((s141.1 16 (Int32.toNatClampNeg v141)) * ((s.1 15 (Int32.toNatClampNeg x2)) + (s.1 16 (Int32.toNatClampNeg x2)))))) (fun _ => rfl) ?_
          refine sm_fg [.ref 11, .ref 57, .int v141, .int x3, .null] ⟨Or.inr rfl, Or.inr rfl, Or.inr rfl, Or.inr rfl, Or.inl rfl, trivial⟩ ?_
          exact hj198 (v141, x3, (am_wI s141 16 (Int32.toNatClampNeg v141) ((s141.1 16 (Int32.toNatClampNeg v141)) * ((s.1 15 (Int32.toNatClampNeg x2)) + (s.1 16 (Int32.toNatClampNeg x2))))))
        refine sm_sw0 ?_
        refine sm_iald 4 167 [.ref 11, .ref 57, .int x2, .int x3, .null] [] (am_hp sw s) (i := (s.1 11 5)) (c := 13) (fun _ => rfl) rfl rfl rfl rfl ?_
        refine sm_call (cvf := am_cI) 0 168 [.ref 11, .ref 57, .int x2, .int x3, .null] [.int (s.1 13 (Int32.toNatClampNeg (s.1 11 5)))] sw s 75 [.int (s.1 13 (Int32.toNatClampNeg (s.1 11 5)))] [] (fun _ => rfl) rfl (fun _ _ e9 => r_X8_isFactor (d + 0) sw _ _ _ _ e9) am_pl20 (fun v168 s168 => ?_)
        refine sm_iald 5 178 [.ref 11, .ref 57, .int x2, .int v168, .null] [.int x2, .ref 16] (am_hp sw s168) (i := x2) (c := 16) (fun _ => rfl) rfl rfl rfl rfl ?_
        refine sm_go 1 180 [.ref 11, .ref 57, .int x2, .int v168, .null] [.int v168, .int (s168.1 16 (Int32.toNatClampNeg x2)), .int x2, .ref 16] (am_hp sw s168) (fun _ => rfl) ?_
        refine sm_jn 196 (fun p196 => [.ref 11, .ref 57, .int x2, .int v168, .null]) (fun p196 => [.int p196.1, .int (s168.1 16 (Int32.toNatClampNeg x2)), .int x2, .ref 16]) (fun p196 => (am_hp sw p196.2)) (fun p196 => ?_) (fun j196 hj196 => ?_)
        · refine sm_iast 1 197 [.ref 11, .ref 57, .int x2, .int v168, .null] [] sw p196.2 (i := x2) (x := ((s168.1 16 (Int32.toNatClampNeg x2)) * p196.1)) (c := 16) (fun _ => rfl) rfl rfl rfl ?_
          exact hj198 (x2, v168, (am_wI p196.2 16 (Int32.toNatClampNeg x2) ((s168.1 16 (Int32.toNatClampNeg x2)) * p196.1)))
        refine sm_br 1 195 183 [.ref 11, .ref 57, .int x2, .int v168, .null] [.int (s168.1 16 (Int32.toNatClampNeg x2)), .int x2, .ref 16] (am_hp sw s168) (fun _ => rfl) (fun _ => ?_) (fun _ => ?_)
        · refine sm_go 1 196 [.ref 11, .ref 57, .int x2, .int v168, .null] [.int (1), .int (s168.1 16 (Int32.toNatClampNeg x2)), .int x2, .ref 16] (am_hp sw s168) (fun _ => rfl) ?_
          exact hj196 (1, s168)
        · refine sm_call (cvf := am_cI) 4 189 [.ref 11, .ref 57, .int x2, .int v168, .null] [.ref 57, .int (s168.1 11 5), .ref 11, .int (s168.1 16 (Int32.toNatClampNeg x2)), .int x2, .ref 16] sw s168 76 [.ref 11, .int (s168.1 11 5), .ref 57] [.int (s168.1 16 (Int32.toNatClampNeg x2)), .int x2, .ref 16] (fun _ => rfl) rfl (fun _ _ e9 => r_X8_factor_11 (d + 0) sw _ _ _ _ e9) am_pl20 (fun v189 s189 => ?_)
          refine sm_go 1 196 [.ref 11, .ref 57, .int x2, .int v168, .null] [.int v189, .int (s168.1 16 (Int32.toNatClampNeg x2)), .int x2, .ref 16] (am_hp sw s189) (fun _ => rfl) ?_
          exact hj196 (v189, s189)
      · refine sm_fg [.ref 11, .null, .null, .null, .null] ⟨Or.inr rfl, Or.inl rfl, Or.inl rfl, Or.inl rfl, Or.inl rfl, trivial⟩ ?_
        exact sm_ex (fun _ _ h => h.2)

set_option maxRecDepth 20000 in
theorem r_X8_expression_11 (d : Nat) (sw : Bool) (s s' : am_S) (v : Int32) (e : f_X8_expression 11 s = some (v, s')) : am_Run (d + 2) 72 [.ref 11, .ref 57] (am_hp sw s) (am_cI v) (am_hp sw s') := by
  refine am_Run.of (M := mt_X8_expression) (cvf := am_cI) (X := f_X8_expression 11 s) rfl rfl rfl (by simp) ?_ e
  unfold f_X8_expression
  show am_Sm tb_X8_expression 8 false none (some .int) (d + 1) (am_po am_cI sw) _ 0 [.ref 11, .ref 57, .null, .null, .null] [] (am_hp sw s)
  refine sm_call (cvf := am_cU) 4 4 [.ref 11, .ref 57, .int (0), .null, .null] [.int (0), .ref 11] sw s 73 [.ref 11, .int (0)] [] (fun _ => rfl) rfl (fun _ _ e9 => r_X8_beginSum_11 (d + 0) sw _ _ _ _ e9) am_po20 (fun _v s4 => ?_)
  refine sm_go 2 9 [.ref 11, .ref 57, .int (0), .int (1), .null] [] (am_hp sw s4) (fun _ => rfl) ?_
  refine sm_lp 219 (fun _y => [.ref 11, .null, .null, .null, .null]) (l_X8_expression_9_11 d sw am_FU (0) (1) s4) (fun _ _ _ h => h) am_po20 (fun _y s9 => ?_)
  refine sm_iald 3 224 [.ref 11, .null, .null, .null, .null] [] (am_hp sw s9) (i := (0)) (c := 15) (fun _ => rfl) rfl rfl rfl rfl ?_
  refine sm_iald 3 230 [.ref 11, .null, .null, .null, .null] [.int (s9.1 15 (Int32.toNatClampNeg (0)))] (am_hp sw s9) (i := (0)) (c := 16) (fun _ => rfl) rfl rfl rfl rfl ?_
  exact sm_ret 1 232 [.ref 11, .null, .null, .null, .null] [.int ((s9.1 15 (Int32.toNatClampNeg (0))) + (s9.1 16 (Int32.toNatClampNeg (0))))] (am_hp sw s9) (some (.int ((s9.1 15 (Int32.toNatClampNeg (0))) + (s9.1 16 (Int32.toNatClampNeg (0)))))) (fun _ => rfl) rfl (fun _ _ h => h)

