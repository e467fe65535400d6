/-! ===== methods as functions, and their runs (printed by wip/gen/drive.py) ===== -/
def f_X8_relation (b : Nat) (s : am_S) : Option (Int32 × am_S) := am_bd (f_X8_expression b s) (fun v2 s2 => am_bd (f_X8_takeToken b s2) (fun v7 s7 => am_bd (f_X8_expression b s7) (fun v13 s13 => if v7 = 13 then (if v2 = v13 then (some ((1), s13)) else (some ((0), s13))) else if v7 = 14 then (if v2 = v13 then (some ((0), s13)) else (some ((1), s13))) else if v7 = 15 then (if v2 < v13 then (some ((1), s13)) else (some ((0), s13))) else if v7 = 16 then (if v13 < v2 then (some ((0), s13)) else (some ((1), s13))) else (some ((0), s13)))))
set_option maxRecDepth 20000 in
theorem r_X8_relation_5 (d : Nat) (sw : Bool) (s s' : am_S) (v : Int32) (e : f_X8_relation 5 s = some (v, s')) : am_Run (d + 3) 71 [.ref 5, .ref 57] (am_hp sw s) (am_cI v) (am_hp sw s') := by
  refine am_Run.of (M := mt_X8_relation) (cvf := am_cI) (X := f_X8_relation 5 s) rfl rfl rfl (by simp) ?_ e
  unfold f_X8_relation
  show am_Sm tb_X8_relation 8 false none (some .boolean) (d + 2) (am_po am_cI sw) _ 0 [.ref 5, .ref 57, .null, .null, .null] [] (am_hp sw s)
  refine sm_call (cvf := am_cI) 2 2 [.ref 5, .ref 57, .null, .null, .null] [.ref 57, .ref 5] sw s 72 [.ref 5, .ref 57] [] (fun _ => rfl) rfl (fun _ _ e9 => r_X8_expression_5 (d + 0) sw _ _  _ e9) am_po20 (fun v2 s2 => ?_)
  refine sm_call (cvf := am_cI) 2 7 [.ref 5, .ref 57, .int v2, .null, .null] [.ref 5] sw s2 69 [.ref 5] [] (fun _ => rfl) rfl (fun _ _ e9 => r_X8_takeToken_5 (d + 1) sw _ _  _ e9) am_po20 (fun v7 s7 => ?_)
  refine sm_call (cvf := am_cI) 3 13 [.ref 5, .ref 57, .int v2, .int v7, .null] [.ref 57, .ref 5] sw s7 72 [.ref 5, .ref 57] [] (fun _ => rfl) rfl (fun _ _ e9 => r_X8_expression_5 (d + 0) sw _ _  _ e9) am_po20 (fun v13 s13 => ?_)
  refine sm_go 3 (am_sw v7 (13) 96 [48, 60, 72, 84]) [.ref 5, .ref 57, .int v2, .int v7, .int v13] [] (am_hp sw s13) (fun _ => rfl) ?_
  refine sm_sw1 14 (by decide) (fun _ => ?_) (fun _ => ?_)
  · refine sm_br 3 54 58 [.ref 5, .ref 57, .int v2, .int v7, .int v13] [] (am_hp sw s13) (fun _ => rfl) (fun _ => ?_) (fun _ => ?_)
    · exact sm_ret 2 59 [.ref 5, .ref 57, .int v2, .int v7, .int v13] [.int (1)] (am_hp sw s13) (some (.int (1))) (fun _ => rfl) rfl (fun _ _ h => h)
    · exact sm_ret 1 59 [.ref 5, .ref 57, .int v2, .int v7, .int v13] [.int (0)] (am_hp sw s13) (some (.int (0))) (fun _ => rfl) rfl (fun _ _ h => h)
  refine sm_sw1 15 (by decide) (fun _ => ?_) (fun _ => ?_)
  · refine sm_br 3 70 66 [.ref 5, .ref 57, .int v2, .int v7, .int v13] [] (am_hp sw s13) (fun _ => rfl) (fun _ => ?_) (fun _ => ?_)
    · exact sm_ret 1 71 [.ref 5, .ref 57, .int v2, .int v7, .int v13] [.int (0)] (am_hp sw s13) (some (.int (0))) (fun _ => rfl) rfl (fun _ _ h => h)
    · exact sm_ret 2 71 [.ref 5, .ref 57, .int v2, .int v7, .int v13] [.int (1)] (am_hp sw s13) (some (.int (1))) (fun _ => rfl) rfl (fun _ _ h => h)
  refine sm_sw1 16 (by decide) (fun _ => ?_) (fun _ => ?_)
  · refine sm_br 3 78 82 [.ref 5, .ref 57, .int v2, .int v7, .int v13] [] (am_hp sw s13) (fun _ => rfl) (fun _ => ?_) (fun _ => ?_)
    · exact sm_ret 2 83 [.ref 5, .ref 57, .int v2, .int v7, .int v13] [.int (1)] (am_hp sw s13) (some (.int (1))) (fun _ => rfl) rfl (fun _ _ h => h)
    · exact sm_ret 1 83 [.ref 5, .ref 57, .int v2, .int v7, .int v13] [.int (0)] (am_hp sw s13) (some (.int (0))) (fun _ => rfl) rfl (fun _ _ h => h)
  refine sm_sw1 17 (by decide) (fun _ => ?_) (fun _ => ?_)
  · refine sm_br 3 94 90 [.ref 5, .ref 57, .int v2, .int v7, .int v13] [] (am_hp sw s13) (fun _ => rfl) (fun _ => ?_) (fun _ => ?_)
    · exact sm_ret 1 95 [.ref 5, .ref 57, .int v2, .int v7, .int v13] [.int (0)] (am_hp sw s13) (some (.int (0))) (fun _ => rfl) rfl (fun _ _ h => h)
    · exact sm_ret 2 95 [.ref 5, .ref 57, .int v2, .int v7, .int v13] [.int (1)] (am_hp sw s13) (some (.int (1))) (fun _ => rfl) rfl (fun _ _ h => h)
  refine sm_sw0 ?_
  exact sm_ret 1 97 [.ref 5, .ref 57, .int v2, .int v7, .int v13] [.int (0)] (am_hp sw s13) (some (.int (0))) (fun _ => rfl) rfl (fun _ _ h => h)

set_option maxRecDepth 20000 in
theorem r_X8_relation_11 (d : Nat) (sw : Bool) (s s' : am_S) (v : Int32) (e : f_X8_relation 11 s = some (v, s')) : am_Run (d + 3) 71 [.ref 11, .ref 57] (am_hp sw s) (am_cI v) (am_hp sw s') := by
  refine am_Run.of (M := mt_X8_relation) (cvf := am_cI) (X := f_X8_relation 11 s) rfl rfl rfl (by simp) ?_ e
  unfold f_X8_relation
  show am_Sm tb_X8_relation 8 false none (some .boolean) (d + 2) (am_po am_cI sw) _ 0 [.ref 11, .ref 57, .null, .null, .null] [] (am_hp sw s)
  refine sm_call (cvf := am_cI) 2 2 [.ref 11, .ref 57, .null, .null, .null] [.ref 57, .ref 11] sw s 72 [.ref 11, .ref 57] [] (fun _ => rfl) rfl (fun _ _ e9 => r_X8_expression_11 (d + 0) sw _ _  _ e9) am_po20 (fun v2 s2 => ?_)
  refine sm_call (cvf := am_cI) 2 7 [.ref 11, .ref 57, .int v2, .null, .null] [.ref 11] sw s2 69 [.ref 11] [] (fun _ => rfl) rfl (fun _ _ e9 => r_X8_takeToken_11 (d + 1) sw _ _  _ e9) am_po20 (fun v7 s7 => ?_)
  refine sm_call (cvf := am_cI) 3 13 [.ref 11, .ref 57, .int v2, .int v7, .null] [.ref 57, .ref 11] sw s7 72 [.ref 11, .ref 57] [] (fun _ => rfl) rfl (fun _ _ e9 => r_X8_expression_11 (d + 0) sw _ _  _ e9) am_po20 (fun v13 s13 => ?_)
  refine sm_go 3 (am_sw v7 (13) 96 [48, 60, 72, 84]) [.ref 11, .ref 57, .int v2, .int v7, .int v13] [] (am_hp sw s13) (fun _ => rfl) ?_
  refine sm_sw1 14 (by decide) (fun _ => ?_) (fun _ => ?_)
  · refine sm_br 3 54 58 [.ref 11, .ref 57, .int v2, .int v7, .int v13] [] (am_hp sw s13) (fun _ => rfl) (fun _ => ?_) (fun _ => ?_)
    · exact sm_ret 2 59 [.ref 11, .ref 57, .int v2, .int v7, .int v13] [.int (1)] (am_hp sw s13) (some (.int (1))) (fun _ => rfl) rfl (fun _ _ h => h)
    · exact sm_ret 1 59 [.ref 11, .ref 57, .int v2, .int v7, .int v13] [.int (0)] (am_hp sw s13) (some (.int (0))) (fun _ => rfl) rfl (fun _ _ h => h)
  refine sm_sw1 15 (by decide) (fun _ => ?_) (fun _ => ?_)
  · refine sm_br 3 70 66 [.ref 11, .ref 57, .int v2, .int v7, .int v13] [] (am_hp sw s13) (fun _ => rfl) (fun _ => ?_) (fun _ => ?_)
    · exact sm_ret 1 71 [.ref 11, .ref 57, .int v2, .int v7, .int v13] [.int (0)] (am_hp sw s13) (some (.int (0))) (fun _ => rfl) rfl (fun _ _ h => h)
    · exact sm_ret 2 71 [.ref 11, .ref 57, .int v2, .int v7, .int v13] [.int (1)] (am_hp sw s13) (some (.int (1))) (fun _ => rfl) rfl (fun _ _ h => h)
  refine sm_sw1 16 (by decide) (fun _ => ?_) (fun _ => ?_)
  · refine sm_br 3 78 82 [.ref 11, .ref 57, .int v2, .int v7, .int v13] [] (am_hp sw s13) (fun _ => rfl) (fun _ => ?_) (fun _ => ?_)
    · exact sm_ret 2 83 [.ref 11, .ref 57, .int v2, .int v7, .int v13] [.int (1)] (am_hp sw s13) (some (.int (1))) (fun _ => rfl) rfl (fun _ _ h => h)
    · exact sm_ret 1 83 [.ref 11, .ref 57, .int v2, .int v7, .int v13] [.int (0)] (am_hp sw s13) (some (.int (0))) (fun _ => rfl) rfl (fun _ _ h => h)
  refine sm_sw1 17 (by decide) (fun _ => ?_) (fun _ => ?_)
  · refine sm_br 3 94 90 [.ref 11, .ref 57, .int v2, .int v7, .int v13] [] (am_hp sw s13) (fun _ => rfl) (fun _ => ?_) (fun _ => ?_)
    · exact sm_ret 1 95 [.ref 11, .ref 57, .int v2, .int v7, .int v13] [.int (0)] (am_hp sw s13) (some (.int (0))) (fun _ => rfl) rfl (fun _ _ h => h)
    · exact sm_ret 2 95 [.ref 11, .ref 57, .int v2, .int v7, .int v13] [.int (1)] (am_hp sw s13) (some (.int (1))) (fun _ => rfl) rfl (fun _ _ h => h)
  refine sm_sw0 ?_
  exact sm_ret 1 97 [.ref 11, .ref 57, .int v2, .int v7, .int v13] [.int (0)] (am_hp sw s13) (some (.int (0))) (fun _ => rfl) rfl (fun _ _ h => h)

def f_X8_condition_L7 (b : Nat) : Nat → Int32 → Int32 → Int32 → am_S → Option ((Int32 × am_S) ⊕ ((Int32 × Int32) × am_S))
  | 0, _, _, _, _ => none
  | n + 1, x2, x3, x4, s => if x4 < 400 then (am_bd (f_X8_relation b s) (fun v17 s17 => am_jn (fun (p36 : Int32 × am_S) => am_bd (f_X8_takeToken b p36.2) (fun v38 s38 => am_jn (fun (p79 : Int32 × Int32 × am_S) => f_X8_condition_L7 b n p79.1 p79.2.1 (x4 + 1) p79.2.2) (fun j79 => if v38 = 8 then (am_jn (fun (p63 : Int32 × am_S) => j79 (p63.1, 1, p63.2)) (fun j63 => am_jn (fun (p58 : am_S) => j63 (1, p58)) (fun j58 => if x2 = 0 then (if p36.1 = 0 then (j63 (0, s38)) else (j58 s38)) else (j58 s38)))) else (if v38 = 7 then (j79 (x2, p36.1, s38)) else (some (.inr ((x2, p36.1), s38))))))) (fun j36 => am_jn (fun (p35 : am_S) => j36 (0, p35)) (fun j35 => if x3 = 0 then (j35 s17) else (if v17 = 0 then (j35 s17) else (j36 (1, s17))))))) else (some (.inr ((x2, x3), s)))
def f_X8_condition (b : Nat) (s : am_S) : Option (Int32 × am_S) := am_lp (fun y => y) (f_X8_condition_L7 b am_FU (0) (1) (0) s) (fun y7 s7 => if y7.1 = 0 then (if y7.2 = 0 then (some ((0), s7)) else (some ((1), s7))) else (some ((1), s7)))
set_option maxRecDepth 20000 in
theorem l_X8_condition_7_5 (d : Nat) (sw : Bool) : ∀ (n : Nat) (x2 : Int32) (x3 : Int32) (x4 : Int32) (s : am_S), am_Sm tb_X8_condition 8 false none (some .boolean) (d + 3) (am_pl am_cI sw (fun (v9 : Int32 × Int32) s9 r h9 => am_Ex tb_X8_condition 8 false none (some .boolean) (d + 3) r h9 85 [.null, .null, .int v9.1, .int v9.2, .null, .null, .null] [] (am_hp sw s9))) (f_X8_condition_L7 5 n x2 x3 x4 s) 7 [.ref 5, .ref 57, .int x2, .int x3, .int x4, .null, .null] [] (am_hp sw s) := by
  intro n
  induction n with
  | zero => intro x2 x3 x4 s; exact sm_no
  | succ n ih =>
    intro x2 x3 x4 s
    rw [f_X8_condition_L7]
    refine sm_br 3 15 85 [.ref 5, .ref 57, .int x2, .int x3, .int x4, .null, .null] [] (am_hp sw s) (fun _ => rfl) (fun _ => ?_) (fun _ => ?_)
    · refine sm_call (cvf := am_cI) 2 17 [.ref 5, .ref 57, .int x2, .int x3, .int x4, .null, .null] [.ref 57, .ref 5] sw s 71 [.ref 5, .ref 57] [] (fun _ => rfl) rfl (fun _ _ e9 => r_X8_relation_5 (d + 0) sw _ _  _ e9) am_pl20 (fun v17 s17 => ?_)
      refine sm_go 2 23 [.ref 5, .ref 57, .int x2, .int x3, .int x4, .int v17, .null] [.int x3] (am_hp sw s17) (fun _ => rfl) ?_
      refine sm_jn 36 (fun p36 => [.ref 5, .ref 57, .int x2, .null, .int x4, .null, .null]) (fun p36 => [.int p36.1]) (fun p36 => (am_hp sw p36.2)) (fun p36 => ?_) (fun j36 hj36 => ?_)
      · refine sm_call (cvf := am_cI) 2 38 [.ref 5, .ref 57, .int x2, .int p36.1, .int x4, .null, .null] [.ref 5] sw p36.2 69 [.ref 5] [] (fun _ => rfl) rfl (fun _ _ e9 => r_X8_takeToken_5 (d + 2) sw _ _  _ e9) am_pl20 (fun v38 s38 => ?_)
        refine sm_go 3 47 [.ref 5, .ref 57, .int x2, .int p36.1, .int x4, .null, .int v38] [.int (8), .int v38] (am_hp sw s38) (fun _ => rfl) ?_
        refine sm_jn 79 (fun p79 => [.ref 5, .ref 57, .int p79.1, .int p79.2.1, .int x4, .null, .null]) (fun p79 => []) (fun p79 => (am_hp sw p79.2.2)) (fun p79 => ?_) (fun j79 hj79 => ?_)
        · refine sm_go 2 7 [.ref 5, .ref 57, .int p79.1, .int p79.2.1, .int (x4 + 1), .null, .null] [] (am_hp sw p79.2.2) (fun _ => rfl) ?_
          exact ih p79.1 p79.2.1 (x4 + 1) p79.2.2
        refine sm_br 1 50 69 [.ref 5, .ref 57, .int x2, .int p36.1, .int x4, .null, .int v38] [] (am_hp sw s38) (fun _ => rfl) (fun _ => ?_) (fun _ => ?_)
        · refine sm_go 1 51 [.ref 5, .ref 57, .int x2, .int p36.1, .int x4, .null, .int v38] [.int x2] (am_hp sw s38) (fun _ => rfl) ?_
          refine sm_jn 63 (fun p63 => [.ref 5, .ref 57, .null, .null, .int x4, .null, .null]) (fun p63 => [.int p63.1]) (fun p63 => (am_hp sw p63.2)) (fun p63 => ?_) (fun j63 hj63 => ?_)
          · refine sm_go 4 79 [.ref 5, .ref 57, .int p63.1, .int (1), .int x4, .null, .null] [] (am_hp sw p63.2) (fun _ => rfl) ?_
            exact hj79 (p63.1, 1, p63.2)
          refine sm_jn 58 (fun p58 => [.ref 5, .ref 57, .null, .null, .int x4, .null, .null]) (fun p58 => []) (fun p58 => (am_hp sw p58)) (fun p58 => ?_) (fun j58 hj58 => ?_)
          · refine sm_go 2 63 [.ref 5, .ref 57, .null, .null, .int x4, .null, .null] [.int (1)] (am_hp sw p58) (fun _ => rfl) ?_
            exact hj63 (1, p58)
          refine sm_br 1 54 58 [.ref 5, .ref 57, .int x2, .int p36.1, .int x4, .null, .int v38] [] (am_hp sw s38) (fun _ => rfl) (fun _ => ?_) (fun _ => ?_)
          · refine sm_br 2 62 58 [.ref 5, .ref 57, .int x2, .int p36.1, .int x4, .null, .int v38] [] (am_hp sw s38) (fun _ => rfl) (fun _ => ?_) (fun _ => ?_)
            · refine sm_go 1 63 [.ref 5, .ref 57, .int x2, .int p36.1, .int x4, .null, .int v38] [.int (0)] (am_hp sw s38) (fun _ => rfl) ?_
              refine sm_fg [.ref 5, .ref 57, .null, .null, .int x4, .null, .null] ⟨Or.inr rfl, Or.inr rfl, Or.inl rfl, Or.inl rfl, Or.inr rfl, Or.inl rfl, Or.inl rfl, trivial⟩ ?_
              exact hj63 (0, s38)
            · refine sm_fg [.ref 5, .ref 57, .null, .null, .int x4, .null, .null] ⟨Or.inr rfl, Or.inr rfl, Or.inl rfl, Or.inl rfl, Or.inr rfl, Or.inl rfl, Or.inl rfl, trivial⟩ ?_
              exact hj58 s38
          · refine sm_fg [.ref 5, .ref 57, .null, .null, .int x4, .null, .null] ⟨Or.inr rfl, Or.inr rfl, Or.inl rfl, Or.inl rfl, Or.inr rfl, Or.inl rfl, Or.inl rfl, trivial⟩ ?_
            exact hj58 s38
        · refine sm_br 3 79 76 [.ref 5, .ref 57, .int x2, .int p36.1, .int x4, .null, .int v38] [] (am_hp sw s38) (fun _ => rfl) (fun _ => ?_) (fun _ => ?_)
          · refine sm_fg [.ref 5, .ref 57, .int x2, .int p36.1, .int x4, .null, .null] ⟨Or.inr rfl, Or.inr rfl, Or.inr rfl, Or.inr rfl, Or.inr rfl, Or.inl rfl, Or.inl rfl, trivial⟩ ?_
            exact hj79 (x2, p36.1, s38)
          · refine sm_go 1 85 [.ref 5, .ref 57, .int x2, .int p36.1, .int x4, .null, .int v38] [] (am_hp sw s38) (fun _ => rfl) ?_
            refine sm_fg [.null, .null, .int x2, .int p36.1, .null, .null, .null] ⟨Or.inl rfl, Or.inl rfl, Or.inr rfl, Or.inr rfl, Or.inl rfl, Or.inl rfl, Or.inl rfl, trivial⟩ ?_
            exact sm_ex (fun _ _ h => h.2)
      refine sm_jn 35 (fun p35 => [.ref 5, .ref 57, .int x2, .null, .int x4, .null, .null]) (fun p35 => []) (fun p35 => (am_hp sw p35)) (fun p35 => ?_) (fun j35 hj35 => ?_)
      · refine sm_go 1 36 [.ref 5, .ref 57, .int x2, .null, .int x4, .null, .null] [.int (0)] (am_hp sw p35) (fun _ => rfl) ?_
        exact hj36 (0, p35)
      refine sm_br 1 35 26 [.ref 5, .ref 57, .int x2, .int x3, .int x4, .int v17, .null] [] (am_hp sw s17) (fun _ => rfl) (fun _ => ?_) (fun _ => ?_)
      · refine sm_fg [.ref 5, .ref 57, .int x2, .null, .int x4, .null, .null] ⟨Or.inr rfl, Or.inr rfl, Or.inr rfl, Or.inl rfl, Or.inr rfl, Or.inl rfl, Or.inl rfl, trivial⟩ ?_
        exact hj35 s17
      · refine sm_br 2 35 31 [.ref 5, .ref 57, .int x2, .int x3, .int x4, .int v17, .null] [] (am_hp sw s17) (fun _ => rfl) (fun _ => ?_) (fun _ => ?_)
        · refine sm_fg [.ref 5, .ref 57, .int x2, .null, .int x4, .null, .null] ⟨Or.inr rfl, Or.inr rfl, Or.inr rfl, Or.inl rfl, Or.inr rfl, Or.inl rfl, Or.inl rfl, trivial⟩ ?_
          exact hj35 s17
        · refine sm_go 2 36 [.ref 5, .ref 57, .int x2, .int x3, .int x4, .int v17, .null] [.int (1)] (am_hp sw s17) (fun _ => rfl) ?_
          refine sm_fg [.ref 5, .ref 57, .int x2, .null, .int x4, .null, .null] ⟨Or.inr rfl, Or.inr rfl, Or.inr rfl, Or.inl rfl, Or.inr rfl, Or.inl rfl, Or.inl rfl, trivial⟩ ?_
          exact hj36 (1, s17)
    · refine sm_fg [.null, .null, .int x2, .int x3, .null, .null, .null] ⟨Or.inl rfl, Or.inl rfl, Or.inr rfl, Or.inr rfl, Or.inl rfl, Or.inl rfl, Or.inl rfl, trivial⟩ ?_
      exact sm_ex (fun _ _ h => h.2)

set_option maxRecDepth 20000 in
theorem r_X8_condition_5 (d : Nat) (sw : Bool) (s s' : am_S) (v : Int32) (e : f_X8_condition 5 s = some (v, s')) : am_Run (d + 4) 70 [.ref 5, .ref 57] (am_hp sw s) (am_cI v) (am_hp sw s') := by
  refine am_Run.of (M := mt_X8_condition) (cvf := am_cI) (X := f_X8_condition 5 s) rfl rfl rfl (by simp) ?_ e
  unfold f_X8_condition
  show am_Sm tb_X8_condition 8 false none (some .boolean) (d + 3) (am_po am_cI sw) _ 0 [.ref 5, .ref 57, .null, .null, .null, .null, .null] [] (am_hp sw s)
  refine sm_go 6 7 [.ref 5, .ref 57, .int (0), .int (1), .int (0), .null, .null] [] (am_hp sw s) (fun _ => rfl) ?_
  refine sm_lp 85 (fun y7 => [.null, .null, .int y7.1, .int y7.2, .null, .null, .null]) (l_X8_condition_7_5 d sw am_FU (0) (1) (0) s) (fun _ _ _ h => h) am_po20 (fun y7 s7 => ?_)
  refine sm_br 2 89 93 [.null, .null, .int y7.1, .int y7.2, .null, .null, .null] [] (am_hp sw s7) (fun _ => rfl) (fun _ => ?_) (fun _ => ?_)
  · refine sm_br 2 97 93 [.null, .null, .int y7.1, .int y7.2, .null, .null, .null] [] (am_hp sw s7) (fun _ => rfl) (fun _ => ?_) (fun _ => ?_)
    · exact sm_ret 1 98 [.null, .null, .int y7.1, .int y7.2, .null, .null, .null] [.int (0)] (am_hp sw s7) (some (.int (0))) (fun _ => rfl) rfl (fun _ _ h => h)
    · exact sm_ret 2 98 [.null, .null, .int y7.1, .int y7.2, .null, .null, .null] [.int (1)] (am_hp sw s7) (some (.int (1))) (fun _ => rfl) rfl (fun _ _ h => h)
  · exact sm_ret 2 98 [.null, .null, .int y7.1, .int y7.2, .null, .null, .null] [.int (1)] (am_hp sw s7) (some (.int (1))) (fun _ => rfl) rfl (fun _ _ h => h)

set_option maxRecDepth 20000 in
theorem l_X8_condition_7_11 (d : Nat) (sw : Bool) : ∀ (n : Nat) (x2 : Int32) (x3 : Int32) (x4 : Int32) (s : am_S), am_Sm tb_X8_condition 8 false none (some .boolean) (d + 3) (am_pl am_cI sw (fun (v9 : Int32 × Int32) s9 r h9 => am_Ex tb_X8_condition 8 false none (some .boolean) (d + 3) r h9 85 [.null, .null, .int v9.1, .int v9.2, .null, .null, .null] [] (am_hp sw s9))) (f_X8_condition_L7 11 n x2 x3 x4 s) 7 [.ref 11, .ref 57, .int x2, .int x3, .int x4, .null, .null] [] (am_hp sw s) := by
  intro n
  induction n with
  | zero => intro x2 x3 x4 s; exact sm_no
  | succ n ih =>
    intro x2 x3 x4 s
    rw [f_X8_condition_L7]
    refine sm_br 3 15 85 [.ref 11, .ref 57, .int x2, .int x3, .int x4, .null, .null] [] (am_hp sw s) (fun _ => rfl) (fun _ => ?_) (fun _ => ?_)
    · refine sm_call (cvf := am_cI) 2 17 [.ref 11, .ref 57, .int x2, .int x3, .int x4, .null, .null] [.ref 57, .ref 11] sw s 71 [.ref 11, .ref 57] [] (fun _ => rfl) rfl (fun _ _ e9 => r_X8_relation_11 (d + 0) sw _ _  _ e9) am_pl20 (fun v17 s17 => ?_)
      refine sm_go 2 23 [.ref 11, .ref 57, .int x2, .int x3, .int x4, .int v17, .null] [.int x3] (am_hp sw s17) (fun _ => rfl) ?_
      refine sm_jn 36 (fun p36 => [.ref 11, .ref 57, .int x2, .null, .int x4, .null, .null]) (fun p36 => [.int p36.1]) (fun p36 => (am_hp sw p36.2)) (fun p36 => ?_) (fun j36 hj36 => ?_)
      · refine sm_call (cvf := am_cI) 2 38 [.ref 11, .ref 57, .int x2, .int p36.1, .int x4, .null, .null] [.ref 11] sw p36.2 69 [.ref 11] [] (fun _ => rfl) rfl (fun _ _ e9 => r_X8_takeToken_11 (d + 2) sw _ _  _ e9) am_pl20 (fun v38 s38 => ?_)
        refine sm_go 3 47 [.ref 11, .ref 57, .int x2, .int p36.1, .int x4, .null, .int v38] [.int (8), .int v38] (am_hp sw s38) (fun _ => rfl) ?_
        refine sm_jn 79 (fun p79 => [.ref 11, .ref 57, .int p79.1, .int p79.2.1, .int x4, .null, .null]) (fun p79 => []) (fun p79 => (am_hp sw p79.2.2)) (fun p79 => ?_) (fun j79 hj79 => ?_)
        · refine sm_go 2 7 [.ref 11, .ref 57, .int p79.1, .int p79.2.1, .int (x4 + 1), .null, .null] [] (am_hp sw p79.2.2) (fun _ => rfl) ?_
          exact ih p79.1 p79.2.1 (x4 + 1) p79.2.2
        refine sm_br 1 50 69 [.ref 11, .ref 57, .int x2, .int p36.1, .int x4, .null, .int v38] [] (am_hp sw s38) (fun _ => rfl) (fun _ => ?_) (fun _ => ?_)
        · refine sm_go 1 51 [.ref 11, .ref 57, .int x2, .int p36.1, .int x4, .null, .int v38] [.int x2] (am_hp sw s38) (fun _ => rfl) ?_
          refine sm_jn 63 (fun p63 => [.ref 11, .ref 57, .null, .null, .int x4, .null, .null]) (fun p63 => [.int p63.1]) (fun p63 => (am_hp sw p63.2)) (fun p63 => ?_) (fun j63 hj63 => ?_)
          · refine sm_go 4 79 [.ref 11, .ref 57, .int p63.1, .int (1), .int x4, .null, .null] [] (am_hp sw p63.2) (fun _ => rfl) ?_
            exact hj79 (p63.1, 1, p63.2)
          refine sm_jn 58 (fun p58 => [.ref 11, .ref 57, .null, .null, .int x4, .null, .null]) (fun p58 => []) (fun p58 => (am_hp sw p58)) (fun p58 => ?_) (fun j58 hj58 => ?_)
          · refine sm_go 2 63 [.ref 11, .ref 57, .null, .null, .int x4, .null, .null] [.int (1)] (am_hp sw p58) (fun _ => rfl) ?_
            exact hj63 (1, p58)
          refine sm_br 1 54 58 [.ref 11, .ref 57, .int x2, .int p36.1, .int x4, .null, .int v38] [] (am_hp sw s38) (fun _ => rfl) (fun _ => ?_) (fun _ => ?_)
          · refine sm_br 2 62 58 [.ref 11, .ref 57, .int x2, .int p36.1, .int x4, .null, .int v38] [] (am_hp sw s38) (fun _ => rfl) (fun _ => ?_) (fun _ => ?_)
            · refine sm_go 1 63 [.ref 11, .ref 57, .int x2, .int p36.1, .int x4, .null, .int v38] [.int (0)] (am_hp sw s38) (fun _ => rfl) ?_
              refine sm_fg [.ref 11, .ref 57, .null, .null, .int x4, .null, .null] ⟨Or.inr rfl, Or.inr rfl, Or.inl rfl, Or.inl rfl, Or.inr rfl, Or.inl rfl, Or.inl rfl, trivial⟩ ?_
              exact hj63 (0, s38)
            · refine sm_fg [.ref 11, .ref 57, .null, .null, .int x4, .null, .null] ⟨Or.inr rfl, Or.inr rfl, Or.inl rfl, Or.inl rfl, Or.inr rfl, Or.inl rfl, Or.inl rfl, trivial⟩ ?_
              exact hj58 s38
          · refine sm_fg [.ref 11, .ref 57, .null, .null, .int x4, .null, .null] ⟨Or.inr rfl, Or.inr rfl, Or.inl rfl, Or.inl rfl, Or.inr rfl, Or.inl rfl, Or.inl rfl, trivial⟩ ?_
            exact hj58 s38
        · refine sm_br 3 79 76 [.ref 11, .ref 57, .int x2, .int p36.1, .int x4, .null, .int v38] [] (am_hp sw s38) (fun _ => rfl) (fun _ => ?_) (fun _ => ?_)
          · refine sm_fg [.ref 11, .ref 57, .int x2, .int p36.1, .int x4, .null, .null] ⟨Or.inr rfl, Or.inr rfl, Or.inr rfl, Or.inr rfl, Or.inr rfl, Or.inl rfl, Or.inl rfl, trivial⟩ ?_
            exact hj79 (x2, p36.1, s38)
          · refine sm_go 1 85 [.ref 11, .ref 57, .int x2, .int p36.1, .int x4, .null, .int v38] [] (am_hp sw s38) (fun _ => rfl) ?_
            refine sm_fg [.null, .null, .int x2, .int p36.1, .null, .null, .null] ⟨Or.inl rfl, Or.inl rfl, Or.inr rfl, Or.inr rfl, Or.inl rfl, Or.inl rfl, Or.inl rfl, trivial⟩ ?_
            exact sm_ex (fun _ _ h => h.2)
      refine sm_jn 35 (fun p35 => [.ref 11, .ref 57, .int x2, .null, .int x4, .null, .null]) (fun p35 => []) (fun p35 => (am_hp sw p35)) (fun p35 => ?_) (fun j35 hj35 => ?_)
      · refine sm_go 1 36 [.ref 11, .ref 57, .int x2, .null, .int x4, .null, .null] [.int (0)] (am_hp sw p35) (fun _ => rfl) ?_
        exact hj36 (0, p35)
      refine sm_br 1 35 26 [.ref 11, .ref 57, .int x2, .int x3, .int x4, .int v17, .null] [] (am_hp sw s17) (fun _ => rfl) (fun _ => ?_) (fun _ => ?_)
      · refine sm_fg [.ref 11, .ref 57, .int x2, .null, .int x4, .null, .null] ⟨Or.inr rfl, Or.inr rfl, Or.inr rfl, Or.inl rfl, Or.inr rfl, Or.inl rfl, Or.inl rfl, trivial⟩ ?_
        exact hj35 s17
      · refine sm_br 2 35 31 [.ref 11, .ref 57, .int x2, .int x3, .int x4, .int v17, .null] [] (am_hp sw s17) (fun _ => rfl) (fun _ => ?_) (fun _ => ?_)
        · refine sm_fg [.ref 11, .ref 57, .int x2, .null, .int x4, .null, .null] ⟨Or.inr rfl, Or.inr rfl, Or.inr rfl, Or.inl rfl, Or.inr rfl, Or.inl rfl, Or.inl rfl, trivial⟩ ?_
          exact hj35 s17
        · refine sm_go 2 36 [.ref 11, .ref 57, .int x2, .int x3, .int x4, .int v17, .null] [.int (1)] (am_hp sw s17) (fun _ => rfl) ?_
          refine sm_fg [.ref 11, .ref 57, .int x2, .null, .int x4, .null, .null] ⟨Or.inr rfl, Or.inr rfl, Or.inr rfl, Or.inl rfl, Or.inr rfl, Or.inl rfl, Or.inl rfl, trivial⟩ ?_
          exact hj36 (1, s17)
    · refine sm_fg [.null, .null, .int x2, .int x3, .null, .null, .null] ⟨Or.inl rfl, Or.inl rfl, Or.inr rfl, Or.inr rfl, Or.inl rfl, Or.inl rfl, Or.inl rfl, trivial⟩ ?_
      exact sm_ex (fun _ _ h => h.2)

set_option maxRecDepth 20000 in
theorem r_X8_condition_11 (d : Nat) (sw : Bool) (s s' : am_S) (v : Int32) (e : f_X8_condition 11 s = some (v, s')) : am_Run (d + 4) 70 [.ref 11, .ref 57] (am_hp sw s) (am_cI v) (am_hp sw s') := by
  refine am_Run.of (M := mt_X8_condition) (cvf := am_cI) (X := f_X8_condition 11 s) rfl rfl rfl (by simp) ?_ e
  unfold f_X8_condition
  show am_Sm tb_X8_condition 8 false none (some .boolean) (d + 3) (am_po am_cI sw) _ 0 [.ref 11, .ref 57, .null, .null, .null, .null, .null] [] (am_hp sw s)
  refine sm_go 6 7 [.ref 11, .ref 57, .int (0), .int (1), .int (0), .null, .null] [] (am_hp sw s) (fun _ => rfl) ?_
  refine sm_lp 85 (fun y7 => [.null, .null, .int y7.1, .int y7.2, .null, .null, .null]) (l_X8_condition_7_11 d sw am_FU (0) (1) (0) s) (fun _ _ _ h => h) am_po20 (fun y7 s7 => ?_)
  refine sm_br 2 89 93 [.null, .null, .int y7.1, .int y7.2, .null, .null, .null] [] (am_hp sw s7) (fun _ => rfl) (fun _ => ?_) (fun _ => ?_)
  · refine sm_br 2 97 93 [.null, .null, .int y7.1, .int y7.2, .null, .null, .null] [] (am_hp sw s7) (fun _ => rfl) (fun _ => ?_) (fun _ => ?_)
    · exact sm_ret 1 98 [.null, .null, .int y7.1, .int y7.2, .null, .null, .null] [.int (0)] (am_hp sw s7) (some (.int (0))) (fun _ => rfl) rfl (fun _ _ h => h)
    · exact sm_ret 2 98 [.null, .null, .int y7.1, .int y7.2, .null, .null, .null] [.int (1)] (am_hp sw s7) (some (.int (1))) (fun _ => rfl) rfl (fun _ _ h => h)
  · exact sm_ret 2 98 [.null, .null, .int y7.1, .int y7.2, .null, .null, .null] [.int (1)] (am_hp sw s7) (some (.int (1))) (fun _ => rfl) rfl (fun _ _ h => h)

def f_X8_firstValue_L2 (b : Nat) : Nat → Int32 → Int32 → am_S → Option ((Int32 × am_S) ⊕ ((Unit) × am_S))
  | 0, _, _, _ => none
  | n + 1, x1, x3, s => if x3 < (s.1 b 0) then (am_gu (am_in x3 20) (am_bd (f_X8_takeToken b (am_wI s b 5 (s.1 (b + 1) (Int32.toNatClampNeg x3)))) (fun v21 s21 => am_jn (fun (p55 : am_S) => f_X8_firstValue_L2 b n x1 (x3 + 1) p55) (fun j55 => if v21 = x1 then (am_bd (f_X8_expression b s21) (fun v30 s30 => am_bd (f_X8_takeToken b s30) (fun v36 s36 => if v36 = 6 then (am_bd (f_X8_condition b s36) (fun v46 s46 => if v46 = 0 then (j55 s46) else (some (.inl (v30, s46))))) else (some (.inl (v30, s36)))))) else (j55 s21))))) else (some (.inr ((), s)))
def f_X8_firstValue (b : Nat) (s : am_S) (x1 : Int32) : Option (Int32 × am_S) := am_lp (fun y => y) (f_X8_firstValue_L2 b am_FU x1 (0) s) (fun (_ : Unit) s2 => some ((0), s2))
set_option maxRecDepth 20000 in
theorem l_X8_firstValue_2_5 (d : Nat) (sw : Bool) : ∀ (n : Nat) (x1 : Int32) (x3 : Int32) (s : am_S), am_Sm tb_X8_firstValue 8 false none (some .int) (d + 4) (am_pl am_cI sw (fun (v9 : Unit) s9 r h9 => am_Ex tb_X8_firstValue 8 false none (some .int) (d + 4) r h9 61 [.null, .null, .null, .null, .null] [] (am_hp sw s9))) (f_X8_firstValue_L2 5 n x1 x3 s) 2 [.ref 5, .int x1, .ref 57, .int x3, .null] [] (am_hp sw s) := by
  intro n
  induction n with
  | zero => intro x1 x3 s; exact sm_no
  | succ n ih =>
    intro x1 x3 s
    rw [f_X8_firstValue_L2]
    refine sm_br 4 10 61 [.ref 5, .int x1, .ref 57, .int x3, .null] [] (am_hp sw s) (fun _ => rfl) (fun _ => ?_) (fun _ => ?_)
    · refine sm_iald 4 16 [.ref 5, .int x1, .ref 57, .int x3, .null] [.ref 5] (am_hp sw s) (i := x3) (c := 6) (fun _ => rfl) rfl rfl rfl rfl ?_
      refine sm_call (cvf := am_cI) 2 21 [.ref 5, .int x1, .ref 57, .int x3, .null] [.ref 5] sw (am_wI s 5 5 (s.1 6 (Int32.toNatClampNeg x3))) 69 [.ref 5] [] (fun _ => rfl) rfl (fun _ _ e9 => r_X8_takeToken_5 (d + 3) sw _ _  _ e9) am_pl20 (fun v21 s21 => ?_)
      refine sm_go 1 25 [.ref 5, .int x1, .ref 57, .int x3, .null] [.int x1, .int v21] (am_hp sw s21) (fun _ => rfl) ?_
      refine sm_jn 55 (fun p55 => [.ref 5, .int x1, .ref 57, .int x3, .null]) (fun p55 => []) (fun p55 => (am_hp sw p55)) (fun p55 => ?_) (fun j55 hj55 => ?_)
      · refine sm_go 2 2 [.ref 5, .int x1, .ref 57, .int (x3 + 1), .null] [] (am_hp sw p55) (fun _ => rfl) ?_
        exact ih x1 (x3 + 1) p55
      refine sm_br 1 28 55 [.ref 5, .int x1, .ref 57, .int x3, .null] [] (am_hp sw s21) (fun _ => rfl) (fun _ => ?_) (fun _ => ?_)
      · refine sm_call (cvf := am_cI) 2 30 [.ref 5, .int x1, .ref 57, .int x3, .null] [.ref 57, .ref 5] sw s21 72 [.ref 5, .ref 57] [] (fun _ => rfl) rfl (fun _ _ e9 => r_X8_expression_5 (d + 2) sw _ _  _ e9) am_pl20 (fun v30 s30 => ?_)
        refine sm_call (cvf := am_cI) 2 36 [.ref 5, .int x1, .ref 57, .int x3, .int v30] [.ref 5] sw s30 69 [.ref 5] [] (fun _ => rfl) rfl (fun _ _ e9 => r_X8_takeToken_5 (d + 3) sw _ _  _ e9) am_pl20 (fun v36 s36 => ?_)
        refine sm_br 2 44 52 [.ref 5, .int x1, .ref 57, .int x3, .int v30] [] (am_hp sw s36) (fun _ => rfl) (fun _ => ?_) (fun _ => ?_)
        · refine sm_call (cvf := am_cI) 2 46 [.ref 5, .int x1, .ref 57, .int x3, .int v30] [.ref 57, .ref 5] sw s36 70 [.ref 5, .ref 57] [] (fun _ => rfl) rfl (fun _ _ e9 => r_X8_condition_5 (d + 0) sw _ _  _ e9) am_pl20 (fun v46 s46 => ?_)
          refine sm_br 1 55 52 [.ref 5, .int x1, .ref 57, .int x3, .int v30] [] (am_hp sw s46) (fun _ => rfl) (fun _ => ?_) (fun _ => ?_)
          · refine sm_fg [.ref 5, .int x1, .ref 57, .int x3, .null] ⟨Or.inr rfl, Or.inr rfl, Or.inr rfl, Or.inr rfl, Or.inl rfl, trivial⟩ ?_
            exact hj55 s46
          · exact sm_ret 1 54 [.ref 5, .int x1, .ref 57, .int x3, .int v30] [.int v30] (am_hp sw s46) (some (.int v30)) (fun _ => rfl) rfl (fun _ _ h => h)
        · exact sm_ret 1 54 [.ref 5, .int x1, .ref 57, .int x3, .int v30] [.int v30] (am_hp sw s36) (some (.int v30)) (fun _ => rfl) rfl (fun _ _ h => h)
      · exact hj55 s21
    · refine sm_fg [.null, .null, .null, .null, .null] ⟨Or.inl rfl, Or.inl rfl, Or.inl rfl, Or.inl rfl, Or.inl rfl, trivial⟩ ?_
      exact sm_ex (fun _ _ h => h.2)

set_option maxRecDepth 20000 in
theorem r_X8_firstValue_5 (d : Nat) (sw : Bool) (s s' : am_S) (x1 : Int32) (v : Int32) (e : f_X8_firstValue 5 s x1 = some (v, s')) : am_Run (d + 5) 67 [.ref 5, .int x1, .ref 57] (am_hp sw s) (am_cI v) (am_hp sw s') := by
  refine am_Run.of (M := mt_X8_firstValue) (cvf := am_cI) (X := f_X8_firstValue 5 s x1) rfl rfl rfl (by simp) ?_ e
  unfold f_X8_firstValue
  show am_Sm tb_X8_firstValue 8 false none (some .int) (d + 4) (am_po am_cI sw) _ 0 [.ref 5, .int x1, .ref 57, .null, .null] [] (am_hp sw s)
  refine sm_go 2 2 [.ref 5, .int x1, .ref 57, .int (0), .null] [] (am_hp sw s) (fun _ => rfl) ?_
  refine sm_lp 61 (fun _y => [.null, .null, .null, .null, .null]) (l_X8_firstValue_2_5 d sw am_FU x1 (0) s) (fun _ _ _ h => h) am_po20 (fun _y s2 => ?_)
  exact sm_ret 1 62 [.null, .null, .null, .null, .null] [.int (0)] (am_hp sw s2) (some (.int (0))) (fun _ => rfl) rfl (fun _ _ h => h)

set_option maxRecDepth 20000 in
theorem l_X8_firstValue_2_11 (d : Nat) (sw : Bool) : ∀ (n : Nat) (x1 : Int32) (x3 : Int32) (s : am_S), am_Sm tb_X8_firstValue 8 false none (some .int) (d + 4) (am_pl am_cI sw (fun (v9 : Unit) s9 r h9 => am_Ex tb_X8_firstValue 8 false none (some .int) (d + 4) r h9 61 [.null, .null, .null, .null, .null] [] (am_hp sw s9))) (f_X8_firstValue_L2 11 n x1 x3 s) 2 [.ref 11, .int x1, .ref 57, .int x3, .null] [] (am_hp sw s) := by
  intro n
  induction n with
  | zero => intro x1 x3 s; exact sm_no
  | succ n ih =>
    intro x1 x3 s
    rw [f_X8_firstValue_L2]
    refine sm_br 4 10 61 [.ref 11, .int x1, .ref 57, .int x3, .null] [] (am_hp sw s) (fun _ => rfl) (fun _ => ?_) (fun _ => ?_)
    · refine sm_iald 4 16 [.ref 11, .int x1, .ref 57, .int x3, .null] [.ref 11] (am_hp sw s) (i := x3) (c := 12) (fun _ => rfl) rfl rfl rfl rfl ?_
      refine sm_call (cvf := am_cI) 2 21 [.ref 11, .int x1, .ref 57, .int x3, .null] [.ref 11] sw (am_wI s 11 5 (s.1 12 (Int32.toNatClampNeg x3))) 69 [.ref 11] [] (fun _ => rfl) rfl (fun _ _ e9 => r_X8_takeToken_11 (d + 3) sw _ _  _ e9) am_pl20 (fun v21 s21 => ?_)
      refine sm_go 1 25 [.ref 11, .int x1, .ref 57, .int x3, .null] [.int x1, .int v21] (am_hp sw s21) (fun _ => rfl) ?_
      refine sm_jn 55 (fun p55 => [.ref 11, .int x1, .ref 57, .int x3, .null]) (fun p55 => []) (fun p55 => (am_hp sw p55)) (fun p55 => ?_) (fun j55 hj55 => ?_)
      · refine sm_go 2 2 [.ref 11, .int x1, .ref 57, .int (x3 + 1), .null] [] (am_hp sw p55) (fun _ => rfl) ?_
        exact ih x1 (x3 + 1) p55
      refine sm_br 1 28 55 [.ref 11, .int x1, .ref 57, .int x3, .null] [] (am_hp sw s21) (fun _ => rfl) (fun _ => ?_) (fun _ => ?_)
      · refine sm_call (cvf := am_cI) 2 30 [.ref 11, .int x1, .ref 57, .int x3, .null] [.ref 57, .ref 11] sw s21 72 [.ref 11, .ref 57] [] (fun _ => rfl) rfl (fun _ _ e9 => r_X8_expression_11 (d + 2) sw _ _  _ e9) am_pl20 (fun v30 s30 => ?_)
        refine sm_call (cvf := am_cI) 2 36 [.ref 11, .int x1, .ref 57, .int x3, .int v30] [.ref 11] sw s30 69 [.ref 11] [] (fun _ => rfl) rfl (fun _ _ e9 => r_X8_takeToken_11 (d + 3) sw _ _  _ e9) am_pl20 (fun v36 s36 => ?_)
        refine sm_br 2 44 52 [.ref 11, .int x1, .ref 57, .int x3, .int v30] [] (am_hp sw s36) (fun _ => rfl) (fun _ => ?_) (fun _ => ?_)
        · refine sm_call (cvf := am_cI) 2 46 [.ref 11, .int x1, .ref 57, .int x3, .int v30] [.ref 57, .ref 11] sw s36 70 [.ref 11, .ref 57] [] (fun _ => rfl) rfl (fun _ _ e9 => r_X8_condition_11 (d + 0) sw _ _  _ e9) am_pl20 (fun v46 s46 => ?_)
          refine sm_br 1 55 52 [.ref 11, .int x1, .ref 57, .int x3, .int v30] [] (am_hp sw s46) (fun _ => rfl) (fun _ => ?_) (fun _ => ?_)
          · refine sm_fg [.ref 11, .int x1, .ref 57, .int x3, .null] ⟨Or.inr rfl, Or.inr rfl, Or.inr rfl, Or.inr rfl, Or.inl rfl, trivial⟩ ?_
            exact hj55 s46
          · exact sm_ret 1 54 [.ref 11, .int x1, .ref 57, .int x3, .int v30] [.int v30] (am_hp sw s46) (some (.int v30)) (fun _ => rfl) rfl (fun _ _ h => h)
        · exact sm_ret 1 54 [.ref 11, .int x1, .ref 57, .int x3, .int v30] [.int v30] (am_hp sw s36) (some (.int v30)) (fun _ => rfl) rfl (fun _ _ h => h)
      · exact hj55 s21
    · refine sm_fg [.null, .null, .null, .null, .null] ⟨Or.inl rfl, Or.inl rfl, Or.inl rfl, Or.inl rfl, Or.inl rfl, trivial⟩ ?_
      exact sm_ex (fun _ _ h => h.2)

set_option maxRecDepth 20000 in
theorem r_X8_firstValue_11 (d : Nat) (sw : Bool) (s s' : am_S) (x1 : Int32) (v : Int32) (e : f_X8_firstValue 11 s x1 = some (v, s')) : am_Run (d + 5) 67 [.ref 11, .int x1, .ref 57] (am_hp sw s) (am_cI v) (am_hp sw s') := by
  refine am_Run.of (M := mt_X8_firstValue) (cvf := am_cI) (X := f_X8_firstValue 11 s x1) rfl rfl rfl (by simp) ?_ e
  unfold f_X8_firstValue
  show am_Sm tb_X8_firstValue 8 false none (some .int) (d + 4) (am_po am_cI sw) _ 0 [.ref 11, .int x1, .ref 57, .null, .null] [] (am_hp sw s)
  refine sm_go 2 2 [.ref 11, .int x1, .ref 57, .int (0), .null] [] (am_hp sw s) (fun _ => rfl) ?_
  refine sm_lp 61 (fun _y => [.null, .null, .null, .null, .null]) (l_X8_firstValue_2_11 d sw am_FU x1 (0) s) (fun _ _ _ h => h) am_po20 (fun _y s2 => ?_)
  exact sm_ret 1 62 [.null, .null, .null, .null, .null] [.int (0)] (am_hp sw s2) (some (.int (0))) (fun _ => rfl) rfl (fun _ _ h => h)

def f_X8_bars_L2 (b : Nat) : Nat → Int32 → am_S → Option ((Int32 × am_S) ⊕ ((Unit) × am_S))
  | 0, _, _ => none
  | n + 1, x2, s => if x2 < (s.1 b 0) then (am_gu (am_in x2 20) (am_bd (f_X8_takeToken b (am_wI s b 5 (s.1 (b + 1) (Int32.toNatClampNeg x2)))) (fun v21 s21 => am_jn (fun (p38 : am_S) => f_X8_bars_L2 b n (x2 + 1) p38) (fun j38 => if v21 = 4 then (am_bd (f_X8_condition b s21) (fun v30 s30 => if v30 = 0 then (j38 s30) else (some (.inl ((1), s30))))) else (j38 s21))))) else (some (.inr ((), s)))
def f_X8_bars (b : Nat) (s : am_S) : Option (Int32 × am_S) := am_lp (fun y => y) (f_X8_bars_L2 b am_FU (0) s) (fun (_ : Unit) s2 => some ((0), s2))
set_option maxRecDepth 20000 in
theorem l_X8_bars_2_5 (d : Nat) (sw : Bool) : ∀ (n : Nat) (x2 : Int32) (s : am_S), am_Sm tb_X8_bars 8 false none (some .boolean) (d + 4) (am_pl am_cI sw (fun (v9 : Unit) s9 r h9 => am_Ex tb_X8_bars 8 false none (some .boolean) (d + 4) r h9 44 [.null, .null, .null] [] (am_hp sw s9))) (f_X8_bars_L2 5 n x2 s) 2 [.ref 5, .ref 57, .int x2] [] (am_hp sw s) := by
  intro n
  induction n with
  | zero => intro x2 s; exact sm_no
  | succ n ih =>
    intro x2 s
    rw [f_X8_bars_L2]
    refine sm_br 4 10 44 [.ref 5, .ref 57, .int x2] [] (am_hp sw s) (fun _ => rfl) (fun _ => ?_) (fun _ => ?_)
    · refine sm_iald 4 16 [.ref 5, .ref 57, .int x2] [.ref 5] (am_hp sw s) (i := x2) (c := 6) (fun _ => rfl) rfl rfl rfl rfl ?_
      refine sm_call (cvf := am_cI) 2 21 [.ref 5, .ref 57, .int x2] [.ref 5] sw (am_wI s 5 5 (s.1 6 (Int32.toNatClampNeg x2))) 69 [.ref 5] [] (fun _ => rfl) rfl (fun _ _ e9 => r_X8_takeToken_5 (d + 3) sw _ _  _ e9) am_pl20 (fun v21 s21 => ?_)
      refine sm_go 1 25 [.ref 5, .ref 57, .int x2] [.int (4), .int v21] (am_hp sw s21) (fun _ => rfl) ?_
      refine sm_jn 38 (fun p38 => [.ref 5, .ref 57, .int x2]) (fun p38 => []) (fun p38 => (am_hp sw p38)) (fun p38 => ?_) (fun j38 hj38 => ?_)
      · refine sm_go 2 2 [.ref 5, .ref 57, .int (x2 + 1)] [] (am_hp sw p38) (fun _ => rfl) ?_
        exact ih (x2 + 1) p38
      refine sm_br 1 28 38 [.ref 5, .ref 57, .int x2] [] (am_hp sw s21) (fun _ => rfl) (fun _ => ?_) (fun _ => ?_)
      · refine sm_call (cvf := am_cI) 2 30 [.ref 5, .ref 57, .int x2] [.ref 57, .ref 5] sw s21 70 [.ref 5, .ref 57] [] (fun _ => rfl) rfl (fun _ _ e9 => r_X8_condition_5 (d + 0) sw _ _  _ e9) am_pl20 (fun v30 s30 => ?_)
        refine sm_br 1 38 36 [.ref 5, .ref 57, .int x2] [] (am_hp sw s30) (fun _ => rfl) (fun _ => ?_) (fun _ => ?_)
        · exact hj38 s30
        · exact sm_ret 1 37 [.ref 5, .ref 57, .int x2] [.int (1)] (am_hp sw s30) (some (.int (1))) (fun _ => rfl) rfl (fun _ _ h => h)
      · exact hj38 s21
    · refine sm_fg [.null, .null, .null] ⟨Or.inl rfl, Or.inl rfl, Or.inl rfl, trivial⟩ ?_
      exact sm_ex (fun _ _ h => h.2)

set_option maxRecDepth 20000 in
theorem r_X8_bars_5 (d : Nat) (sw : Bool) (s s' : am_S) (v : Int32) (e : f_X8_bars 5 s = some (v, s')) : am_Run (d + 5) 68 [.ref 5, .ref 57] (am_hp sw s) (am_cI v) (am_hp sw s') := by
  refine am_Run.of (M := mt_X8_bars) (cvf := am_cI) (X := f_X8_bars 5 s) rfl rfl rfl (by simp) ?_ e
  unfold f_X8_bars
  show am_Sm tb_X8_bars 8 false none (some .boolean) (d + 4) (am_po am_cI sw) _ 0 [.ref 5, .ref 57, .null] [] (am_hp sw s)
  refine sm_go 2 2 [.ref 5, .ref 57, .int (0)] [] (am_hp sw s) (fun _ => rfl) ?_
  refine sm_lp 44 (fun _y => [.null, .null, .null]) (l_X8_bars_2_5 d sw am_FU (0) s) (fun _ _ _ h => h) am_po20 (fun _y s2 => ?_)
  exact sm_ret 1 45 [.null, .null, .null] [.int (0)] (am_hp sw s2) (some (.int (0))) (fun _ => rfl) rfl (fun _ _ h => h)

set_option maxRecDepth 20000 in
theorem l_X8_bars_2_11 (d : Nat) (sw : Bool) : ∀ (n : Nat) (x2 : Int32) (s : am_S), am_Sm tb_X8_bars 8 false none (some .boolean) (d + 4) (am_pl am_cI sw (fun (v9 : Unit) s9 r h9 => am_Ex tb_X8_bars 8 false none (some .boolean) (d + 4) r h9 44 [.null, .null, .null] [] (am_hp sw s9))) (f_X8_bars_L2 11 n x2 s) 2 [.ref 11, .ref 57, .int x2] [] (am_hp sw s) := by
  intro n
  induction n with
  | zero => intro x2 s; exact sm_no
  | succ n ih =>
    intro x2 s
    rw [f_X8_bars_L2]
    refine sm_br 4 10 44 [.ref 11, .ref 57, .int x2] [] (am_hp sw s) (fun _ => rfl) (fun _ => ?_) (fun _ => ?_)
    · refine sm_iald 4 16 [.ref 11, .ref 57, .int x2] [.ref 11] (am_hp sw s) (i := x2) (c := 12) (fun _ => rfl) rfl rfl rfl rfl ?_
      refine sm_call (cvf := am_cI) 2 21 [.ref 11, .ref 57, .int x2] [.ref 11] sw (am_wI s 11 5 (s.1 12 (Int32.toNatClampNeg x2))) 69 [.ref 11] [] (fun _ => rfl) rfl (fun _ _ e9 => r_X8_takeToken_11 (d + 3) sw _ _  _ e9) am_pl20 (fun v21 s21 => ?_)
      refine sm_go 1 25 [.ref 11, .ref 57, .int x2] [.int (4), .int v21] (am_hp sw s21) (fun _ => rfl) ?_
      refine sm_jn 38 (fun p38 => [.ref 11, .ref 57, .int x2]) (fun p38 => []) (fun p38 => (am_hp sw p38)) (fun p38 => ?_) (fun j38 hj38 => ?_)
      · refine sm_go 2 2 [.ref 11, .ref 57, .int (x2 + 1)] [] (am_hp sw p38) (fun _ => rfl) ?_
        exact ih (x2 + 1) p38
      refine sm_br 1 28 38 [.ref 11, .ref 57, .int x2] [] (am_hp sw s21) (fun _ => rfl) (fun _ => ?_) (fun _ => ?_)
      · refine sm_call (cvf := am_cI) 2 30 [.ref 11, .ref 57, .int x2] [.ref 57, .ref 11] sw s21 70 [.ref 11, .ref 57] [] (fun _ => rfl) rfl (fun _ _ e9 => r_X8_condition_11 (d + 0) sw _ _  _ e9) am_pl20 (fun v30 s30 => ?_)
        refine sm_br 1 38 36 [.ref 11, .ref 57, .int x2] [] (am_hp sw s30) (fun _ => rfl) (fun _ => ?_) (fun _ => ?_)
        · exact hj38 s30
        · exact sm_ret 1 37 [.ref 11, .ref 57, .int x2] [.int (1)] (am_hp sw s30) (some (.int (1))) (fun _ => rfl) rfl (fun _ _ h => h)
      · exact hj38 s21
    · refine sm_fg [.null, .null, .null] ⟨Or.inl rfl, Or.inl rfl, Or.inl rfl, trivial⟩ ?_
      exact sm_ex (fun _ _ h => h.2)

set_option maxRecDepth 20000 in
theorem r_X8_bars_11 (d : Nat) (sw : Bool) (s s' : am_S) (v : Int32) (e : f_X8_bars 11 s = some (v, s')) : am_Run (d + 5) 68 [.ref 11, .ref 57] (am_hp sw s) (am_cI v) (am_hp sw s') := by
  refine am_Run.of (M := mt_X8_bars) (cvf := am_cI) (X := f_X8_bars 11 s) rfl rfl rfl (by simp) ?_ e
  unfold f_X8_bars
  show am_Sm tb_X8_bars 8 false none (some .boolean) (d + 4) (am_po am_cI sw) _ 0 [.ref 11, .ref 57, .null] [] (am_hp sw s)
  refine sm_go 2 2 [.ref 11, .ref 57, .int (0)] [] (am_hp sw s) (fun _ => rfl) ?_
  refine sm_lp 44 (fun _y => [.null, .null, .null]) (l_X8_bars_2_11 d sw am_FU (0) s) (fun _ _ _ h => h) am_po20 (fun _y s2 => ?_)
  exact sm_ret 1 45 [.null, .null, .null] [.int (0)] (am_hp sw s2) (some (.int (0))) (fun _ => rfl) rfl (fun _ _ h => h)

def f_X10_append_L3 : Nat → Int32 → Int32 → am_S → Option ((Unit × am_S) ⊕ ((Unit) × am_S))
  | 0, _, _, _ => none
  | n + 1, x1, x2, s => if x2 < 0 then (some (.inr ((), s))) else (if (s.1 1 1) < 2000 then (am_gu (am_in (s.1 1 1) 2000) (f_X10_append_L3 n x1 (x2 + (-8)) (am_wI (am_wI s 2 (Int32.toNatClampNeg (s.1 1 1)) (am_nar 1 ((Int32.toInt8 (x1 >>> (x2 &&& 31))).toInt32))) 1 1 ((s.1 1 1) + 1)))) else (some (.inr ((), s))))
def f_X10_append (s : am_S) (x1 : Int32) : Option (Unit × am_S) := am_lp (fun y => y) (f_X10_append_L3 am_FU x1 (24) s) (fun (_ : Unit) s3 => some ((), s3))
set_option maxRecDepth 20000 in
theorem l_X10_append_3 (d : Nat) (sw : Bool) : ∀ (n : Nat) (x1 : Int32) (x2 : Int32) (s : am_S), am_Sm tb_X10_append 10 false none none (d + 0) (am_pl am_cU sw (fun (v9 : Unit) s9 r h9 => am_Ex tb_X10_append 10 false none none (d + 0) r h9 46 [.null, .null, .null] [] (am_hp sw s9))) (f_X10_append_L3 n x1 x2 s) 3 [.ref 1, .int x1, .int x2] [] (am_hp sw s) := by
  intro n
  induction n with
  | zero => intro x1 x2 s; exact sm_no
  | succ n ih =>
    intro x1 x2 s
    rw [f_X10_append_L3]
    refine sm_br 2 46 7 [.ref 1, .int x1, .int x2] [] (am_hp sw s) (fun _ => rfl) (fun _ => ?_) (fun _ => ?_)
    · refine sm_fg [.null, .null, .null] ⟨Or.inl rfl, Or.inl rfl, Or.inl rfl, trivial⟩ ?_
      exact sm_ex (fun _ _ h => h.2)
    · refine sm_br 4 17 46 [.ref 1, .int x1, .int x2] [] (am_hp sw s) (fun _ => rfl) (fun _ => ?_) (fun _ => ?_)
      · refine sm_bast 8 29 [.ref 1, .int x1, .int x2] [] sw s (i := (s.1 1 1)) (x := ((Int32.toInt8 (x1 >>> (x2 &&& 31))).toInt32)) (c := 2) (fun _ => rfl) rfl rfl rfl rfl ?_
        refine sm_go 8 3 [.ref 1, .int x1, .int (x2 + (-8))] [] (am_hp sw (am_wI (am_wI s 2 (Int32.toNatClampNeg (s.1 1 1)) (am_nar 1 ((Int32.toInt8 (x1 >>> (x2 &&& 31))).toInt32))) 1 1 ((s.1 1 1) + 1))) (fun _ => rfl) ?_
        exact ih x1 (x2 + (-8)) (am_wI (am_wI s 2 (Int32.toNatClampNeg (s.1 1 1)) (am_nar 1 ((Int32.toInt8 (x1 >>> (x2 &&& 31))).toInt32))) 1 1 ((s.1 1 1) + 1))
      · refine sm_fg [.null, .null, .null] ⟨Or.inl rfl, Or.inl rfl, Or.inl rfl, trivial⟩ ?_
        exact sm_ex (fun _ _ h => h.2)

set_option maxRecDepth 20000 in
theorem r_X10_append (d : Nat) (sw : Bool) (s s' : am_S) (x1 : Int32) (v : Unit) (e : f_X10_append s x1 = some (v, s')) : am_Run (d + 1) 91 [.ref 1, .int x1] (am_hp sw s) (am_cU v) (am_hp sw s') := by
  refine am_Run.of (M := mt_X10_append) (cvf := am_cU) (X := f_X10_append s x1) rfl rfl rfl (by simp) ?_ e
  unfold f_X10_append
  show am_Sm tb_X10_append 10 false none none (d + 0) (am_po am_cU sw) _ 0 [.ref 1, .int x1, .null] [] (am_hp sw s)
  refine sm_go 2 3 [.ref 1, .int x1, .int (24)] [] (am_hp sw s) (fun _ => rfl) ?_
  refine sm_lp 46 (fun _y => [.null, .null, .null]) (l_X10_append_3 d sw am_FU x1 (24) s) (fun _ _ _ h => h) am_po20 (fun _y s3 => ?_)
  exact sm_ret 0 46 [.null, .null, .null] [] (am_hp sw s3) none (fun _ => rfl) rfl (fun _ _ h => h)

def f_X11_feed (s : am_S) (x1 : Int32) (x2 : Int32) (x3 : Int32) (x4 : Int32) (x5 : Int32) : Option (Int32 × am_S) := if 1980 < (s.1 1 1) then (some ((-1), s)) else (am_bd (f_X10_append s x1) (fun (_ : Unit) s20 => am_bd (f_X10_append s20 x2) (fun (_ : Unit) s28 => am_bd (f_X10_append s28 x3) (fun (_ : Unit) s36 => am_bd (f_X10_append s36 x4) (fun (_ : Unit) s45 => am_bd (f_X10_append s45 x5) (fun (_ : Unit) s54 => some ((s54.1 1 1), s54)))))))
set_option maxRecDepth 20000 in
theorem r_X11_feed (d : Nat) (sw : Bool) (s s' : am_S) (x1 : Int32) (x2 : Int32) (x3 : Int32) (x4 : Int32) (x5 : Int32) (v : Int32) (e : f_X11_feed s x1 x2 x3 x4 x5 = some (v, s')) : am_Run (d + 2) 94 [.ref 0, .int x1, .int x2, .int x3, .int x4, .int x5] (am_hp sw s) (am_cI v) (am_hp sw s') := by
  refine am_Run.of (M := mt_X11_feed) (cvf := am_cI) (X := f_X11_feed s x1 x2 x3 x4 x5) rfl rfl rfl (by simp) ?_ e
  unfold f_X11_feed
  show am_Sm tb_X11_feed 11 false none (some .int) (d + 1) (am_po am_cI sw) _ 0 [.ref 0, .int x1, .int x2, .int x3, .int x4, .int x5] [] (am_hp sw s)
  refine sm_br 5 13 15 [.ref 0, .int x1, .int x2, .int x3, .int x4, .int x5] [] (am_hp sw s) (fun _ => rfl) (fun _ => ?_) (fun _ => ?_)
  · exact sm_ret 1 14 [.ref 0, .int x1, .int x2, .int x3, .int x4, .int x5] [.int (-1)] (am_hp sw s) (some (.int (-1))) (fun _ => rfl) rfl (fun _ _ h => h)
  · refine sm_call (cvf := am_cU) 3 20 [.ref 0, .int x1, .int x2, .int x3, .int x4, .int x5] [.int x1, .ref 1] sw s 91 [.ref 1, .int x1] [] (fun _ => rfl) rfl (fun _ _ e9 => r_X10_append (d + 0) sw _ _ _ _ e9) am_po20 (fun _v s20 => ?_)
    refine sm_call (cvf := am_cU) 3 28 [.ref 0, .int x1, .int x2, .int x3, .int x4, .int x5] [.int x2, .ref 1] sw s20 91 [.ref 1, .int x2] [] (fun _ => rfl) rfl (fun _ _ e9 => r_X10_append (d + 0) sw _ _ _ _ e9) am_po20 (fun _v s28 => ?_)
    refine sm_call (cvf := am_cU) 3 36 [.ref 0, .int x1, .int x2, .int x3, .int x4, .int x5] [.int x3, .ref 1] sw s28 91 [.ref 1, .int x3] [] (fun _ => rfl) rfl (fun _ _ e9 => r_X10_append (d + 0) sw _ _ _ _ e9) am_po20 (fun _v s36 => ?_)
    refine sm_call (cvf := am_cU) 3 45 [.ref 0, .int x1, .int x2, .int x3, .int x4, .int x5] [.int x4, .ref 1] sw s36 91 [.ref 1, .int x4] [] (fun _ => rfl) rfl (fun _ _ e9 => r_X10_append (d + 0) sw _ _ _ _ e9) am_po20 (fun _v s45 => ?_)
    refine sm_call (cvf := am_cU) 3 54 [.ref 0, .int x1, .int x2, .int x3, .int x4, .int x5] [.int x5, .ref 1] sw s45 91 [.ref 1, .int x5] [] (fun _ => rfl) rfl (fun _ _ e9 => r_X10_append (d + 0) sw _ _ _ _ e9) am_po20 (fun _v s54 => ?_)
    exact sm_ret 3 64 [.ref 0, .int x1, .int x2, .int x3, .int x4, .int x5] [.int (s54.1 1 1)] (am_hp sw s54) (some (.int (s54.1 1 1))) (fun _ => rfl) rfl (fun _ _ h => h)

def f_X11_back (s : am_S) (x1 : Int32) : Option (Int32 × am_S) := if x1 < 0 then (some ((-1), s)) else (if (s.1 1 1) < x1 then (some ((-1), s)) else (some (((s.1 1 1) - x1), (am_wI s 1 1 ((s.1 1 1) - x1)))))
set_option maxRecDepth 20000 in
theorem r_X11_back (d : Nat) (sw : Bool) (s s' : am_S) (x1 : Int32) (v : Int32) (e : f_X11_back s x1 = some (v, s')) : am_Run (d + 1) 95 [.ref 0, .int x1] (am_hp sw s) (am_cI v) (am_hp sw s') := by
  refine am_Run.of (M := mt_X11_back) (cvf := am_cI) (X := f_X11_back s x1) rfl rfl rfl (by simp) ?_ e
  unfold f_X11_back
  show am_Sm tb_X11_back 11 false none (some .int) (d + 0) (am_po am_cI sw) _ 0 [.ref 0, .int x1] [] (am_hp sw s)
  refine sm_br 2 15 4 [.ref 0, .int x1] [] (am_hp sw s) (fun _ => rfl) (fun _ => ?_) (fun _ => ?_)
  · exact sm_ret 1 16 [.ref 0, .int x1] [.int (-1)] (am_hp sw s) (some (.int (-1))) (fun _ => rfl) rfl (fun _ _ h => h)
  · refine sm_br 5 15 17 [.ref 0, .int x1] [] (am_hp sw s) (fun _ => rfl) (fun _ => ?_) (fun _ => ?_)
    · exact sm_ret 1 16 [.ref 0, .int x1] [.int (-1)] (am_hp sw s) (some (.int (-1))) (fun _ => rfl) rfl (fun _ _ h => h)
    · exact sm_ret 10 37 [.ref 0, .int x1] [.int ((s.1 1 1) - x1)] (am_hp sw (am_wI s 1 1 ((s.1 1 1) - x1))) (some (.int ((s.1 1 1) - x1))) (fun _ => rfl) rfl (fun _ _ h => h)

def f_X11_place (s : am_S) : Option (Int32 × am_S) := some ((s.1 0 4), s)
set_option maxRecDepth 20000 in
theorem r_X11_place (d : Nat) (sw : Bool) (s s' : am_S) (v : Int32) (e : f_X11_place s = some (v, s')) : am_Run (d + 1) 97 [.ref 0] (am_hp sw s) (am_cI v) (am_hp sw s') := by
  refine am_Run.of (M := mt_X11_place) (cvf := am_cI) (X := f_X11_place s) rfl rfl rfl (by simp) ?_ e
  unfold f_X11_place
  show am_Sm tb_X11_place 11 false none (some .int) (d + 0) (am_po am_cI sw) _ 0 [.ref 0] [] (am_hp sw s)
  exact sm_ret 2 4 [.ref 0] [.int (s.1 0 4)] (am_hp sw s) (some (.int (s.1 0 4))) (fun _ => rfl) rfl (fun _ _ h => h)

def f_X11_isWithin (s : am_S) (x0 : Int32) (x1 : Int32) (x2 : Int32) : Option (Int32 × am_S) := if x0 < x1 then (some ((0), s)) else (if x2 < x0 then (some ((0), s)) else (some ((1), s)))
set_option maxRecDepth 20000 in
theorem r_X11_isWithin (d : Nat) (sw : Bool) (s s' : am_S) (x0 : Int32) (x1 : Int32) (x2 : Int32) (v : Int32) (e : f_X11_isWithin s x0 x1 x2 = some (v, s')) : am_Run (d + 1) 122 [.int x0, .int x1, .int x2] (am_hp sw s) (am_cI v) (am_hp sw s') := by
  refine am_Run.of (M := mt_X11_isWithin) (cvf := am_cI) (X := f_X11_isWithin s x0 x1 x2) rfl rfl rfl (by simp) ?_ e
  unfold f_X11_isWithin
  show am_Sm tb_X11_isWithin 11 false none (some .boolean) (d + 0) (am_po am_cI sw) _ 0 [.int x0, .int x1, .int x2] [] (am_hp sw s)
  refine sm_br 3 14 5 [.int x0, .int x1, .int x2] [] (am_hp sw s) (fun _ => rfl) (fun _ => ?_) (fun _ => ?_)
  · exact sm_ret 1 15 [.int x0, .int x1, .int x2] [.int (0)] (am_hp sw s) (some (.int (0))) (fun _ => rfl) rfl (fun _ _ h => h)
  · refine sm_br 3 14 10 [.int x0, .int x1, .int x2] [] (am_hp sw s) (fun _ => rfl) (fun _ => ?_) (fun _ => ?_)
    · exact sm_ret 1 15 [.int x0, .int x1, .int x2] [.int (0)] (am_hp sw s) (some (.int (0))) (fun _ => rfl) rfl (fun _ _ h => h)
    · exact sm_ret 2 15 [.int x0, .int x1, .int x2] [.int (1)] (am_hp sw s) (some (.int (1))) (fun _ => rfl) rfl (fun _ _ h => h)

def f_X11_kind (s : am_S) (x1 : Int32) (x2 : Int32) (x3 : Int32) : Option (Int32 × am_S) := am_bd (f_X11_isWithin s x1 (1) (9)) (fun v4 s4 => am_jn (fun (p35 : Int32 × am_S) => if p35.1 = 0 then (some ((-1), p35.2)) else (am_bd (f_X4_add p35.2 x1 x2 x3) (fun v49 s49 => some (v49, s49)))) (fun j35 => am_jn (fun (p34 : am_S) => j35 (0, p34)) (fun j34 => if v4 = 0 then (j34 s4) else (am_bd (f_X11_isWithin s4 x2 (1) (12)) (fun v14 s14 => if v14 = 0 then (j34 s14) else (am_bd (f_X11_isWithin s14 x3 (0) (100)) (fun v24 s24 => if v24 = 0 then (j34 s24) else (j35 (1, s24)))))))))
set_option maxRecDepth 20000 in
theorem r_X11_kind (d : Nat) (sw : Bool) (s s' : am_S) (x1 : Int32) (x2 : Int32) (x3 : Int32) (v : Int32) (e : f_X11_kind s x1 x2 x3 = some (v, s')) : am_Run (d + 2) 98 [.ref 0, .int x1, .int x2, .int x3] (am_hp sw s) (am_cI v) (am_hp sw s') := by
  refine am_Run.of (M := mt_X11_kind) (cvf := am_cI) (X := f_X11_kind s x1 x2 x3) rfl rfl rfl (by simp) ?_ e
  unfold f_X11_kind
  show am_Sm tb_X11_kind 11 false none (some .int) (d + 1) (am_po am_cI sw) _ 0 [.ref 0, .int x1, .int x2, .int x3, .null] [] (am_hp sw s)
  refine sm_call (cvf := am_cI) 3 4 [.ref 0, .int x1, .int x2, .int x3, .null] [.int (9), .int (1), .int x1] sw s 122 [.int x1, .int (1), .int (9)] [] (fun _ => rfl) rfl (fun _ _ e9 => r_X11_isWithin (d + 0) sw _ _ _ _ _ _ e9) am_po20 (fun v4 s4 => ?_)
  refine sm_jn 35 (fun p35 => [.ref 0, .int x1, .int x2, .int x3, .null]) (fun p35 => [.int p35.1]) (fun p35 => (am_hp sw p35.2)) (fun p35 => ?_) (fun j35 hj35 => ?_)
  · refine sm_br 3 55 42 [.ref 0, .int x1, .int x2, .int x3, .int p35.1] [] (am_hp sw p35.2) (fun _ => rfl) (fun _ => ?_) (fun _ => ?_)
    · exact sm_ret 1 56 [.ref 0, .int x1, .int x2, .int x3, .int p35.1] [.int (-1)] (am_hp sw p35.2) (some (.int (-1))) (fun _ => rfl) rfl (fun _ _ h => h)
    · refine sm_call (cvf := am_cI) 5 49 [.ref 0, .int x1, .int x2, .int x3, .int p35.1] [.int x3, .int x2, .int x1, .ref 17] sw p35.2 41 [.ref 17, .int x1, .int x2, .int x3] [] (fun _ => rfl) rfl (fun _ _ e9 => r_X4_add (d + 0) sw _ _ _ _ _ _ e9) am_po20 (fun v49 s49 => ?_)
      exact sm_ret 1 56 [.ref 0, .int x1, .int x2, .int x3, .int p35.1] [.int v49] (am_hp sw s49) (some (.int v49)) (fun _ => rfl) rfl (fun _ _ h => h)
  refine sm_jn 34 (fun p34 => [.ref 0, .int x1, .int x2, .int x3, .null]) (fun p34 => []) (fun p34 => (am_hp sw p34)) (fun p34 => ?_) (fun j34 hj34 => ?_)
  · refine sm_go 1 35 [.ref 0, .int x1, .int x2, .int x3, .null] [.int (0)] (am_hp sw p34) (fun _ => rfl) ?_
    exact hj35 (0, p34)
  refine sm_br 1 34 10 [.ref 0, .int x1, .int x2, .int x3, .null] [] (am_hp sw s4) (fun _ => rfl) (fun _ => ?_) (fun _ => ?_)
  · exact hj34 s4
  · refine sm_call (cvf := am_cI) 3 14 [.ref 0, .int x1, .int x2, .int x3, .null] [.int (12), .int (1), .int x2] sw s4 122 [.int x2, .int (1), .int (12)] [] (fun _ => rfl) rfl (fun _ _ e9 => r_X11_isWithin (d + 0) sw _ _ _ _ _ _ e9) am_po20 (fun v14 s14 => ?_)
    refine sm_br 1 34 20 [.ref 0, .int x1, .int x2, .int x3, .null] [] (am_hp sw s14) (fun _ => rfl) (fun _ => ?_) (fun _ => ?_)
    · exact hj34 s14
    · refine sm_call (cvf := am_cI) 3 24 [.ref 0, .int x1, .int x2, .int x3, .null] [.int (100), .int (0), .int x3] sw s14 122 [.int x3, .int (0), .int (100)] [] (fun _ => rfl) rfl (fun _ _ e9 => r_X11_isWithin (d + 0) sw _ _ _ _ _ _ e9) am_po20 (fun v24 s24 => ?_)
      refine sm_br 1 34 30 [.ref 0, .int x1, .int x2, .int x3, .null] [] (am_hp sw s24) (fun _ => rfl) (fun _ => ?_) (fun _ => ?_)
      · exact hj34 s24
      · refine sm_go 2 35 [.ref 0, .int x1, .int x2, .int x3, .null] [.int (1)] (am_hp sw s24) (fun _ => rfl) ?_
        exact hj35 (1, s24)

def f_X11_family (s : am_S) (x1 : Int32) (x2 : Int32) : Option (Int32 × am_S) := am_bd (f_X11_isWithin s x1 (1) (9)) (fun v4 s4 => if v4 = 0 then (some ((-1), s4)) else (am_bd (f_X2_add s4 x1 x2) (fun v16 s16 => some (v16, s16))))
set_option maxRecDepth 20000 in
theorem r_X11_family (d : Nat) (sw : Bool) (s s' : am_S) (x1 : Int32) (x2 : Int32) (v : Int32) (e : f_X11_family s x1 x2 = some (v, s')) : am_Run (d + 2) 99 [.ref 0, .int x1, .int x2] (am_hp sw s) (am_cI v) (am_hp sw s') := by
  refine am_Run.of (M := mt_X11_family) (cvf := am_cI) (X := f_X11_family s x1 x2) rfl rfl rfl (by simp) ?_ e
  unfold f_X11_family
  show am_Sm tb_X11_family 11 false none (some .int) (d + 1) (am_po am_cI sw) _ 0 [.ref 0, .int x1, .int x2] [] (am_hp sw s)
  refine sm_call (cvf := am_cI) 3 4 [.ref 0, .int x1, .int x2] [.int (9), .int (1), .int x1] sw s 122 [.int x1, .int (1), .int (9)] [] (fun _ => rfl) rfl (fun _ _ e9 => r_X11_isWithin (d + 0) sw _ _ _ _ _ _ e9) am_po20 (fun v4 s4 => ?_)
  refine sm_br 1 22 10 [.ref 0, .int x1, .int x2] [] (am_hp sw s4) (fun _ => rfl) (fun _ => ?_) (fun _ => ?_)
  · exact sm_ret 1 23 [.ref 0, .int x1, .int x2] [.int (-1)] (am_hp sw s4) (some (.int (-1))) (fun _ => rfl) rfl (fun _ _ h => h)
  · refine sm_call (cvf := am_cI) 4 16 [.ref 0, .int x1, .int x2] [.int x2, .int x1, .ref 21] sw s4 20 [.ref 21, .int x1, .int x2] [] (fun _ => rfl) rfl (fun _ _ e9 => r_X2_add (d + 0) sw _ _ _ _ _ e9) am_po20 (fun v16 s16 => ?_)
    exact sm_ret 1 23 [.ref 0, .int x1, .int x2] [.int v16] (am_hp sw s16) (some (.int v16)) (fun _ => rfl) rfl (fun _ _ h => h)

def f_X11_own (s : am_S) (x1 : Int32) (x2 : Int32) : Option (Int32 × am_S) := am_bd (f_X2_has s x1) (fun v5 s5 => if v5 = 0 then (some ((0), s5)) else (am_bd (f_X4_has s5 x2) (fun v16 s16 => if v16 = 0 then (some ((0), s16)) else (am_bd (f_X2_owns s16 x1 x2) (fun v28 s28 => if v28 = 0 then (am_bd (f_X2_makeOwner s28 x1 x2) (fun (_ : Unit) s42 => some ((1), s42))) else (some ((0), s28)))))))
set_option maxRecDepth 20000 in
theorem r_X11_own (d : Nat) (sw : Bool) (s s' : am_S) (x1 : Int32) (x2 : Int32) (v : Int32) (e : f_X11_own s x1 x2 = some (v, s')) : am_Run (d + 2) 100 [.ref 0, .int x1, .int x2] (am_hp sw s) (am_cI v) (am_hp sw s') := by
  refine am_Run.of (M := mt_X11_own) (cvf := am_cI) (X := f_X11_own s x1 x2) rfl rfl rfl (by simp) ?_ e
  unfold f_X11_own
  show am_Sm tb_X11_own 11 false none (some .boolean) (d + 1) (am_po am_cI sw) _ 0 [.ref 0, .int x1, .int x2] [] (am_hp sw s)
  refine sm_call (cvf := am_cI) 3 5 [.ref 0, .int x1, .int x2] [.int x1, .ref 21] sw s 19 [.ref 21, .int x1] [] (fun _ => rfl) rfl (fun _ _ e9 => r_X2_has (d + 0) sw _ _ _ _ e9) am_po20 (fun v5 s5 => ?_)
  refine sm_br 1 34 11 [.ref 0, .int x1, .int x2] [] (am_hp sw s5) (fun _ => rfl) (fun _ => ?_) (fun _ => ?_)
  · exact sm_ret 1 35 [.ref 0, .int x1, .int x2] [.int (0)] (am_hp sw s5) (some (.int (0))) (fun _ => rfl) rfl (fun _ _ h => h)
  · refine sm_call (cvf := am_cI) 3 16 [.ref 0, .int x1, .int x2] [.int x2, .ref 17] sw s5 40 [.ref 17, .int x2] [] (fun _ => rfl) rfl (fun _ _ e9 => r_X4_has (d + 0) sw _ _ _ _ e9) am_po20 (fun v16 s16 => ?_)
    refine sm_br 1 34 22 [.ref 0, .int x1, .int x2] [] (am_hp sw s16) (fun _ => rfl) (fun _ => ?_) (fun _ => ?_)
    · exact sm_ret 1 35 [.ref 0, .int x1, .int x2] [.int (0)] (am_hp sw s16) (some (.int (0))) (fun _ => rfl) rfl (fun _ _ h => h)
    · refine sm_call (cvf := am_cI) 4 28 [.ref 0, .int x1, .int x2] [.int x2, .int x1, .ref 21] sw s16 21 [.ref 21, .int x1, .int x2] [] (fun _ => rfl) rfl (fun _ _ e9 => r_X2_owns (d + 0) sw _ _ _ _ _ e9) am_po20 (fun v28 s28 => ?_)
      refine sm_br 1 36 34 [.ref 0, .int x1, .int x2] [] (am_hp sw s28) (fun _ => rfl) (fun _ => ?_) (fun _ => ?_)
      · refine sm_call (cvf := am_cU) 4 42 [.ref 0, .int x1, .int x2] [.int x2, .int x1, .ref 21] sw s28 22 [.ref 21, .int x1, .int x2] [] (fun _ => rfl) rfl (fun _ _ e9 => r_X2_makeOwner (d + 0) sw _ _ _ _ _ e9) am_po20 (fun _v s42 => ?_)
        exact sm_ret 1 46 [.ref 0, .int x1, .int x2] [.int (1)] (am_hp sw s42) (some (.int (1))) (fun _ => rfl) rfl (fun _ _ h => h)
      · exact sm_ret 1 35 [.ref 0, .int x1, .int x2] [.int (0)] (am_hp sw s28) (some (.int (0))) (fun _ => rfl) rfl (fun _ _ h => h)

def f_X11_lend (s : am_S) (x1 : Int32) (x2 : Int32) (x3 : Int32) (x4 : Int32) : Option (Int32 × am_S) := am_bd (f_X2_has s x1) (fun v5 s5 => if v5 = 0 then (some ((0), s5)) else (am_bd (f_X2_has s5 x2) (fun v16 s16 => if v16 = 0 then (some ((0), s16)) else (if x1 = x2 then (some ((0), s16)) else (am_bd (f_X4_has s16 x3) (fun v32 s32 => if v32 = 0 then (some ((0), s32)) else (am_bd (f_X2_owns s32 x1 x3) (fun v46 s46 => if v46 = 0 then (some ((0), s46)) else (am_bd (f_X11_isWithin s46 x4 ((s46.1 0 5) + 1) (40)) (fun v62 s62 => if v62 = 0 then (some ((0), s62)) else (am_bd (f_X2_addLending s62 x2 x3 (s62.1 0 5) x4) (fun v82 s82 => am_gu (decide (v82 &&& 1 = v82)) (some (v82, s82))))))))))))))
set_option maxRecDepth 20000 in
theorem r_X11_lend (d : Nat) (sw : Bool) (s s' : am_S) (x1 : Int32) (x2 : Int32) (x3 : Int32) (x4 : Int32) (v : Int32) (e : f_X11_lend s x1 x2 x3 x4 = some (v, s')) : am_Run (d + 2) 101 [.ref 0, .int x1, .int x2, .int x3, .int x4] (am_hp sw s) (am_cI v) (am_hp sw s') := by
  refine am_Run.of (M := mt_X11_lend) (cvf := am_cI) (X := f_X11_lend s x1 x2 x3 x4) rfl rfl rfl (by simp) ?_ e
  unfold f_X11_lend
  show am_Sm tb_X11_lend 11 false none (some .boolean) (d + 1) (am_po am_cI sw) _ 0 [.ref 0, .int x1, .int x2, .int x3, .int x4] [] (am_hp sw s)
  refine sm_call (cvf := am_cI) 3 5 [.ref 0, .int x1, .int x2, .int x3, .int x4] [.int x1, .ref 21] sw s 19 [.ref 21, .int x1] [] (fun _ => rfl) rfl (fun _ _ e9 => r_X2_has (d + 0) sw _ _ _ _ e9) am_po20 (fun v5 s5 => ?_)
  refine sm_br 1 38 11 [.ref 0, .int x1, .int x2, .int x3, .int x4] [] (am_hp sw s5) (fun _ => rfl) (fun _ => ?_) (fun _ => ?_)
  · exact sm_ret 1 39 [.ref 0, .int x1, .int x2, .int x3, .int x4] [.int (0)] (am_hp sw s5) (some (.int (0))) (fun _ => rfl) rfl (fun _ _ h => h)
  · refine sm_call (cvf := am_cI) 3 16 [.ref 0, .int x1, .int x2, .int x3, .int x4] [.int x2, .ref 21] sw s5 19 [.ref 21, .int x2] [] (fun _ => rfl) rfl (fun _ _ e9 => r_X2_has (d + 0) sw _ _ _ _ e9) am_po20 (fun v16 s16 => ?_)
    refine sm_br 1 38 22 [.ref 0, .int x1, .int x2, .int x3, .int x4] [] (am_hp sw s16) (fun _ => rfl) (fun _ => ?_) (fun _ => ?_)
    · exact sm_ret 1 39 [.ref 0, .int x1, .int x2, .int x3, .int x4] [.int (0)] (am_hp sw s16) (some (.int (0))) (fun _ => rfl) rfl (fun _ _ h => h)
    · refine sm_br 3 38 27 [.ref 0, .int x1, .int x2, .int x3, .int x4] [] (am_hp sw s16) (fun _ => rfl) (fun _ => ?_) (fun _ => ?_)
      · exact sm_ret 1 39 [.ref 0, .int x1, .int x2, .int x3, .int x4] [.int (0)] (am_hp sw s16) (some (.int (0))) (fun _ => rfl) rfl (fun _ _ h => h)
      · refine sm_call (cvf := am_cI) 3 32 [.ref 0, .int x1, .int x2, .int x3, .int x4] [.int x3, .ref 17] sw s16 40 [.ref 17, .int x3] [] (fun _ => rfl) rfl (fun _ _ e9 => r_X4_has (d + 0) sw _ _ _ _ e9) am_po20 (fun v32 s32 => ?_)
        refine sm_br 1 38 40 [.ref 0, .int x1, .int x2, .int x3, .int x4] [] (am_hp sw s32) (fun _ => rfl) (fun _ => ?_) (fun _ => ?_)
        · exact sm_ret 1 39 [.ref 0, .int x1, .int x2, .int x3, .int x4] [.int (0)] (am_hp sw s32) (some (.int (0))) (fun _ => rfl) rfl (fun _ _ h => h)
        · refine sm_call (cvf := am_cI) 4 46 [.ref 0, .int x1, .int x2, .int x3, .int x4] [.int x3, .int x1, .ref 21] sw s32 21 [.ref 21, .int x1, .int x3] [] (fun _ => rfl) rfl (fun _ _ e9 => r_X2_owns (d + 0) sw _ _ _ _ _ e9) am_po20 (fun v46 s46 => ?_)
          refine sm_br 1 68 52 [.ref 0, .int x1, .int x2, .int x3, .int x4] [] (am_hp sw s46) (fun _ => rfl) (fun _ => ?_) (fun _ => ?_)
          · exact sm_ret 1 69 [.ref 0, .int x1, .int x2, .int x3, .int x4] [.int (0)] (am_hp sw s46) (some (.int (0))) (fun _ => rfl) rfl (fun _ _ h => h)
          · refine sm_call (cvf := am_cI) 6 62 [.ref 0, .int x1, .int x2, .int x3, .int x4] [.int (40), .int ((s46.1 0 5) + 1), .int x4] sw s46 122 [.int x4, .int ((s46.1 0 5) + 1), .int (40)] [] (fun _ => rfl) rfl (fun _ _ e9 => r_X11_isWithin (d + 0) sw _ _ _ _ _ _ e9) am_po20 (fun v62 s62 => ?_)
            refine sm_br 1 68 70 [.ref 0, .int x1, .int x2, .int x3, .int x4] [] (am_hp sw s62) (fun _ => rfl) (fun _ => ?_) (fun _ => ?_)
            · exact sm_ret 1 69 [.ref 0, .int x1, .int x2, .int x3, .int x4] [.int (0)] (am_hp sw s62) (some (.int (0))) (fun _ => rfl) rfl (fun _ _ h => h)
            · refine sm_call (cvf := am_cI) 7 82 [.ref 0, .int x1, .int x2, .int x3, .int x4] [.int x4, .int (s62.1 0 5), .int x3, .int x2, .ref 21] sw s62 23 [.ref 21, .int x2, .int x3, .int (s62.1 0 5), .int x4] [] (fun _ => rfl) rfl (fun _ _ e9 => r_X2_addLending (d + 0) sw _ _ _ _ _ _ _ e9) am_po20 (fun v82 s82 => ?_)
              refine sm_gu (fun h9 => ?_)
              exact sm_ret 0 85 [.ref 0, .int x1, .int x2, .int x3, .int x4] [.int v82] (am_hp sw s82) (some (.int v82)) (fun _ => rfl) (am_rtb h9) (fun _ _ h => h)

def f_X11_isSeason (s : am_S) (x0 : Int32) : Option (Int32 × am_S) := am_bd (f_X11_isWithin s x0 (0) (39)) (fun v4 s4 => am_gu (decide (v4 &&& 1 = v4)) (some (v4, s4)))
set_option maxRecDepth 20000 in
theorem r_X11_isSeason (d : Nat) (sw : Bool) (s s' : am_S) (x0 : Int32) (v : Int32) (e : f_X11_isSeason s x0 = some (v, s')) : am_Run (d + 2) 123 [.int x0] (am_hp sw s) (am_cI v) (am_hp sw s') := by
  refine am_Run.of (M := mt_X11_isSeason) (cvf := am_cI) (X := f_X11_isSeason s x0) rfl rfl rfl (by simp) ?_ e
  unfold f_X11_isSeason
  show am_Sm tb_X11_isSeason 11 false none (some .boolean) (d + 1) (am_po am_cI sw) _ 0 [.int x0] [] (am_hp sw s)
  refine sm_call (cvf := am_cI) 3 4 [.int x0] [.int (39), .int (0), .int x0] sw s 122 [.int x0, .int (0), .int (39)] [] (fun _ => rfl) rfl (fun _ _ e9 => r_X11_isWithin (d + 0) sw _ _ _ _ _ _ e9) am_po20 (fun v4 s4 => ?_)
  refine sm_gu (fun h9 => ?_)
  exact sm_ret 0 7 [.int x0] [.int v4] (am_hp sw s4) (some (.int v4)) (fun _ => rfl) (am_rtb h9) (fun _ _ h => h)

def f_X11_may (s : am_S) (x1 : Int32) (x2 : Int32) (x3 : Int32) : Option (Int32 × am_S) := am_bd (f_X2_has s x1) (fun v5 s5 => if v5 = 0 then (some ((-1), s5)) else (am_bd (f_X4_has s5 x2) (fun v16 s16 => if v16 = 0 then (some ((-1), s16)) else (am_bd (f_X11_isSeason s16 x3) (fun v23 s23 => if v23 = 0 then (some ((-1), s23)) else (am_bd (f_X2_mayCarve s23 x1 x2 x3) (fun v38 s38 => if v38 = 0 then (some ((0), s38)) else (some ((1), s38)))))))))
set_option maxRecDepth 20000 in
theorem r_X11_may (d : Nat) (sw : Bool) (s s' : am_S) (x1 : Int32) (x2 : Int32) (x3 : Int32) (v : Int32) (e : f_X11_may s x1 x2 x3 = some (v, s')) : am_Run (d + 3) 102 [.ref 0, .int x1, .int x2, .int x3] (am_hp sw s) (am_cI v) (am_hp sw s') := by
  refine am_Run.of (M := mt_X11_may) (cvf := am_cI) (X := f_X11_may s x1 x2 x3) rfl rfl rfl (by simp) ?_ e
  unfold f_X11_may
  show am_Sm tb_X11_may 11 false none (some .int) (d + 2) (am_po am_cI sw) _ 0 [.ref 0, .int x1, .int x2, .int x3] [] (am_hp sw s)
  refine sm_call (cvf := am_cI) 3 5 [.ref 0, .int x1, .int x2, .int x3] [.int x1, .ref 21] sw s 19 [.ref 21, .int x1] [] (fun _ => rfl) rfl (fun _ _ e9 => r_X2_has (d + 1) sw _ _ _ _ e9) am_po20 (fun v5 s5 => ?_)
  refine sm_br 1 29 11 [.ref 0, .int x1, .int x2, .int x3] [] (am_hp sw s5) (fun _ => rfl) (fun _ => ?_) (fun _ => ?_)
  · exact sm_ret 1 30 [.ref 0, .int x1, .int x2, .int x3] [.int (-1)] (am_hp sw s5) (some (.int (-1))) (fun _ => rfl) rfl (fun _ _ h => h)
  · refine sm_call (cvf := am_cI) 3 16 [.ref 0, .int x1, .int x2, .int x3] [.int x2, .ref 17] sw s5 40 [.ref 17, .int x2] [] (fun _ => rfl) rfl (fun _ _ e9 => r_X4_has (d + 1) sw _ _ _ _ e9) am_po20 (fun v16 s16 => ?_)
    refine sm_br 1 29 22 [.ref 0, .int x1, .int x2, .int x3] [] (am_hp sw s16) (fun _ => rfl) (fun _ => ?_) (fun _ => ?_)
    · exact sm_ret 1 30 [.ref 0, .int x1, .int x2, .int x3] [.int (-1)] (am_hp sw s16) (some (.int (-1))) (fun _ => rfl) rfl (fun _ _ h => h)
    · refine sm_call (cvf := am_cI) 1 23 [.ref 0, .int x1, .int x2, .int x3] [.int x3] sw s16 123 [.int x3] [] (fun _ => rfl) rfl (fun _ _ e9 => r_X11_isSeason (d + 0) sw _ _ _ _ e9) am_po20 (fun v23 s23 => ?_)
      refine sm_br 1 29 31 [.ref 0, .int x1, .int x2, .int x3] [] (am_hp sw s23) (fun _ => rfl) (fun _ => ?_) (fun _ => ?_)
      · exact sm_ret 1 30 [.ref 0, .int x1, .int x2, .int x3] [.int (-1)] (am_hp sw s23) (some (.int (-1))) (fun _ => rfl) rfl (fun _ _ h => h)
      · refine sm_call (cvf := am_cI) 5 38 [.ref 0, .int x1, .int x2, .int x3] [.int x3, .int x2, .int x1, .ref 21] sw s23 24 [.ref 21, .int x1, .int x2, .int x3] [] (fun _ => rfl) rfl (fun _ _ e9 => r_X2_mayCarve (d + 1) sw _ _ _ _ _ _ e9) am_po20 (fun v38 s38 => ?_)
        refine sm_br 1 48 44 [.ref 0, .int x1, .int x2, .int x3] [] (am_hp sw s38) (fun _ => rfl) (fun _ => ?_) (fun _ => ?_)
        · exact sm_ret 1 49 [.ref 0, .int x1, .int x2, .int x3] [.int (0)] (am_hp sw s38) (some (.int (0))) (fun _ => rfl) rfl (fun _ _ h => h)
        · exact sm_ret 2 49 [.ref 0, .int x1, .int x2, .int x3] [.int (1)] (am_hp sw s38) (some (.int (1))) (fun _ => rfl) rfl (fun _ _ h => h)

def f_X11_season (s : am_S) : Option (Int32 × am_S) := if (s.1 0 5) < 39 then (some (((s.1 0 5) + 1), (am_wI s 0 5 ((s.1 0 5) + 1)))) else (some ((-1), s))
set_option maxRecDepth 20000 in
theorem r_X11_season (d : Nat) (sw : Bool) (s s' : am_S) (v : Int32) (e : f_X11_season s = some (v, s')) : am_Run (d + 1) 103 [.ref 0] (am_hp sw s) (am_cI v) (am_hp sw s') := by
  refine am_Run.of (M := mt_X11_season) (cvf := am_cI) (X := f_X11_season s) rfl rfl rfl (by simp) ?_ e
  unfold f_X11_season
  show am_Sm tb_X11_season 11 false none (some .int) (d + 0) (am_po am_cI sw) _ 0 [.ref 0] [] (am_hp sw s)
  refine sm_br 4 11 9 [.ref 0] [] (am_hp sw s) (fun _ => rfl) (fun _ => ?_) (fun _ => ?_)
  · exact sm_ret 8 25 [.ref 0] [.int ((s.1 0 5) + 1)] (am_hp sw (am_wI s 0 5 ((s.1 0 5) + 1))) (some (.int ((s.1 0 5) + 1))) (fun _ => rfl) rfl (fun _ _ h => h)
  · exact sm_ret 1 10 [.ref 0] [.int (-1)] (am_hp sw s) (some (.int (-1))) (fun _ => rfl) rfl (fun _ _ h => h)

def f_X11_storeCutLog_L13 : Nat → Int32 → Int32 → Int32 → Int32 → am_S → Option ((Int32 × am_S) ⊕ ((Unit) × am_S))
  | 0, _, _, _, _, _ => none
  | n + 1, x1, x2, x3, x4, s => if x4 < x1 then (if x3 < x1 then (am_bd (f_X1_choiceAt s x3) (fun v29 s29 => am_jn (fun (p83 : Int32 × am_S) => f_X11_storeCutLog_L13 n x1 x2 p83.1 (x4 + 1) p83.2) (fun j83 => if v29 = (-1) then (am_gu (am_in x2 30) (am_gu (am_in x2 30) (j83 ((x3 + 1), (am_wI s29 33 (Int32.toNatClampNeg x2) ((s29.1 33 (Int32.toNatClampNeg x2)) + 1)))))) else (am_bd (f_X7_add s29 x2 x3 v29) (fun (_ : Unit) s67 => am_gu (am_in v29 8) (j83 ((x3 + (s67.1 18 (Int32.toNatClampNeg v29))), s67))))))) else (some (.inr ((), s)))) else (some (.inr ((), s)))
def f_X11_storeCutLog (s : am_S) (x1 : Int32) : Option (Int32 × am_S) := am_bd (f_X7_addLog s) (fun v4 s4 => am_lp (fun y => y) (f_X11_storeCutLog_L13 am_FU x1 v4 (0) (0) s4) (fun (_ : Unit) s13 => some (v4, s13)))
set_option maxRecDepth 20000 in
theorem l_X11_storeCutLog_13 (d : Nat) (sw : Bool) : ∀ (n : Nat) (x1 : Int32) (x2 : Int32) (x3 : Int32) (x4 : Int32) (s : am_S), am_Sm tb_X11_storeCutLog 11 false none (some .int) (d + 1) (am_pl am_cI sw (fun (v9 : Unit) s9 r h9 => am_Ex tb_X11_storeCutLog 11 false none (some .int) (d + 1) r h9 89 [.null, .null, .int x2, .null, .null, .null] [] (am_hp sw s9))) (f_X11_storeCutLog_L13 n x1 x2 x3 x4 s) 13 [.ref 0, .int x1, .int x2, .int x3, .int x4, .null] [] (am_hp sw s) := by
  intro n
  induction n with
  | zero => intro x1 x2 x3 x4 s; exact sm_no
  | succ n ih =>
    intro x1 x2 x3 x4 s
    rw [f_X11_storeCutLog_L13]
    refine sm_br 3 19 89 [.ref 0, .int x1, .int x2, .int x3, .int x4, .null] [] (am_hp sw s) (fun _ => rfl) (fun _ => ?_) (fun _ => ?_)
    · refine sm_br 3 24 89 [.ref 0, .int x1, .int x2, .int x3, .int x4, .null] [] (am_hp sw s) (fun _ => rfl) (fun _ => ?_) (fun _ => ?_)
      · refine sm_call (cvf := am_cI) 3 29 [.ref 0, .int x1, .int x2, .int x3, .int x4, .null] [.int x3, .ref 28] sw s 14 [.ref 28, .int x3] [] (fun _ => rfl) rfl (fun _ _ e9 => r_X1_choiceAt (d + 0) sw _ _ _ _ e9) am_pl20 (fun v29 s29 => ?_)
        refine sm_go 3 37 [.ref 0, .int x1, .int x2, .int x3, .int x4, .int v29] [.int (-1), .int v29] (am_hp sw s29) (fun _ => rfl) ?_
        refine sm_jn 83 (fun p83 => [.ref 0, .int x1, .int x2, .int p83.1, .int x4, .null]) (fun p83 => []) (fun p83 => (am_hp sw p83.2)) (fun p83 => ?_) (fun j83 hj83 => ?_)
        · refine sm_go 2 13 [.ref 0, .int x1, .int x2, .int p83.1, .int (x4 + 1), .null] [] (am_hp sw p83.2) (fun _ => rfl) ?_
          exact ih x1 x2 p83.1 (x4 + 1) p83.2
        refine sm_br 1 40 59 [.ref 0, .int x1, .int x2, .int x3, .int x4, .int v29] [] (am_hp sw s29) (fun _ => rfl) (fun _ => ?_) (fun _ => ?_)
        · refine sm_iald 5 49 [.ref 0, .int x1, .int x2, .int x3, .int x4, .int v29] [.int x2, .ref 33] (am_hp sw s29) (i := x2) (c := 33) (fun _ => rfl) rfl rfl rfl rfl ?_
          refine sm_iast 2 52 [.ref 0, .int x1, .int x2, .int x3, .int x4, .int v29] [] sw s29 (i := x2) (x := ((s29.1 33 (Int32.toNatClampNeg x2)) + 1)) (c := 33) (fun _ => rfl) rfl rfl rfl ?_
          refine sm_go 2 83 [.ref 0, .int x1, .int x2, .int (x3 + 1), .int x4, .int v29] [] (am_hp sw (am_wI s29 33 (Int32.toNatClampNeg x2) ((s29.1 33 (Int32.toNatClampNeg x2)) + 1))) (fun _ => rfl) ?_
          refine sm_fg [.ref 0, .int x1, .int x2, .int (x3 + 1), .int x4, .null] ⟨Or.inr rfl, Or.inr rfl, Or.inr rfl, Or.inr rfl, Or.inr rfl, Or.inl rfl, trivial⟩ ?_
          exact hj83 ((x3 + 1), (am_wI s29 33 (Int32.toNatClampNeg x2) ((s29.1 33 (Int32.toNatClampNeg x2)) + 1)))
        · refine sm_call (cvf := am_cU) 5 67 [.ref 0, .int x1, .int x2, .int x3, .int x4, .int v29] [.int v29, .int x3, .int x2, .ref 32] sw s29 61 [.ref 32, .int x2, .int x3, .int v29] [] (fun _ => rfl) rfl (fun _ _ e9 => r_X7_add (d + 0) sw _ _ _ _ _ _ e9) am_pl20 (fun _v s67 => ?_)
          refine sm_iald 5 80 [.ref 0, .int x1, .int x2, .int x3, .int x4, .int v29] [.int x3] (am_hp sw s67) (i := v29) (c := 18) (fun _ => rfl) rfl rfl rfl rfl ?_
          refine sm_go 2 83 [.ref 0, .int x1, .int x2, .int (x3 + (s67.1 18 (Int32.toNatClampNeg v29))), .int x4, .int v29] [] (am_hp sw s67) (fun _ => rfl) ?_
          refine sm_fg [.ref 0, .int x1, .int x2, .int (x3 + (s67.1 18 (Int32.toNatClampNeg v29))), .int x4, .null] ⟨Or.inr rfl, Or.inr rfl, Or.inr rfl, Or.inr rfl, Or.inr rfl, Or.inl rfl, trivial⟩ ?_
          exact hj83 ((x3 + (s67.1 18 (Int32.toNatClampNeg v29))), s67)
      · refine sm_fg [.null, .null, .int x2, .null, .null, .null] ⟨Or.inl rfl, Or.inl rfl, Or.inr rfl, Or.inl rfl, Or.inl rfl, Or.inl rfl, trivial⟩ ?_
        exact sm_ex (fun _ _ h => h.2)
    · refine sm_fg [.null, .null, .int x2, .null, .null, .null] ⟨Or.inl rfl, Or.inl rfl, Or.inr rfl, Or.inl rfl, Or.inl rfl, Or.inl rfl, trivial⟩ ?_
      exact sm_ex (fun _ _ h => h.2)

set_option maxRecDepth 20000 in
theorem r_X11_storeCutLog (d : Nat) (sw : Bool) (s s' : am_S) (x1 : Int32) (v : Int32) (e : f_X11_storeCutLog s x1 = some (v, s')) : am_Run (d + 2) 126 [.ref 0, .int x1] (am_hp sw s) (am_cI v) (am_hp sw s') := by
  refine am_Run.of (M := mt_X11_storeCutLog) (cvf := am_cI) (X := f_X11_storeCutLog s x1) rfl rfl rfl (by simp) ?_ e
  unfold f_X11_storeCutLog
  show am_Sm tb_X11_storeCutLog 11 false none (some .int) (d + 1) (am_po am_cI sw) _ 0 [.ref 0, .int x1, .null, .null, .null, .null] [] (am_hp sw s)
  refine sm_call (cvf := am_cI) 2 4 [.ref 0, .int x1, .null, .null, .null, .null] [.ref 32] sw s 60 [.ref 32] [] (fun _ => rfl) rfl (fun _ _ e9 => r_X7_addLog (d + 0) sw _ _  _ e9) am_po20 (fun v4 s4 => ?_)
  refine sm_go 5 13 [.ref 0, .int x1, .int v4, .int (0), .int (0), .null] [] (am_hp sw s4) (fun _ => rfl) ?_
  refine sm_lp 89 (fun _y => [.null, .null, .int v4, .null, .null, .null]) (l_X11_storeCutLog_13 d sw am_FU x1 v4 (0) (0) s4) (fun _ _ _ h => h) am_po20 (fun _y s13 => ?_)
  exact sm_ret 1 90 [.null, .null, .int v4, .null, .null, .null] [.int v4] (am_hp sw s13) (some (.int v4)) (fun _ => rfl) rfl (fun _ _ h => h)

def f_X11_log (s : am_S) (x1 : Int32) (x2 : Int64) : Option (Int32 × am_S) := am_bd (f_X11_isWithin s x1 (1) (60)) (fun v4 s4 => if v4 = 0 then (some ((-1), s4)) else (if (lg_cmp x2 (lN 0)) < 0 then (some ((-1), s4)) else (if (lg_cmp ((Int64.toUInt64 x2 >>> ((Int32.toInt64 x1).toUInt64 &&& Int64.toUInt64 63)).toInt64) (lN 0)) = 0 then (am_bd (f_X2_carvable s4 (s4.1 0 5)) (fun v40 s40 => am_bd (f_X1_cut s40 x1 x2 v40) (fun (_ : Unit) s43 => if (s43.1 32 0) < 30 then (am_bd (f_X1_ringsOfBest s43) (fun v62 s62 => if (200 - (s62.1 32 2)) < v62 then (some ((-1), s62)) else (am_bd (f_X11_storeCutLog s62 x1) (fun v83 s83 => some (v83, s83))))) else (some ((-1), s43))))) else (some ((-1), s4)))))
set_option maxRecDepth 20000 in
theorem r_X11_log (d : Nat) (sw : Bool) (s s' : am_S) (x1 : Int32) (x2 : Int64) (v : Int32) (e : f_X11_log s x1 x2 = some (v, s')) : am_Run (d + 3) 104 [.ref 0, .int x1, .long x2] (am_hp sw s) (am_cI v) (am_hp sw s') := by
  refine am_Run.of (M := mt_X11_log) (cvf := am_cI) (X := f_X11_log s x1 x2) rfl rfl rfl (by simp) ?_ e
  unfold f_X11_log
  show am_Sm tb_X11_log 11 false none (some .int) (d + 2) (am_po am_cI sw) _ 0 [.ref 0, .int x1, .long x2, .null] [] (am_hp sw s)
  refine sm_call (cvf := am_cI) 3 4 [.ref 0, .int x1, .long x2, .null] [.int (60), .int (1), .int x1] sw s 122 [.int x1, .int (1), .int (60)] [] (fun _ => rfl) rfl (fun _ _ e9 => r_X11_isWithin (d + 1) sw _ _ _ _ _ _ e9) am_po20 (fun v4 s4 => ?_)
  refine sm_br 1 24 10 [.ref 0, .int x1, .long x2, .null] [] (am_hp sw s4) (fun _ => rfl) (fun _ => ?_) (fun _ => ?_)
  · exact sm_ret 1 25 [.ref 0, .int x1, .long x2, .null] [.int (-1)] (am_hp sw s4) (some (.int (-1))) (fun _ => rfl) rfl (fun _ _ h => h)
  · refine sm_br 4 24 16 [.ref 0, .int x1, .long x2, .null] [] (am_hp sw s4) (fun _ => rfl) (fun _ => ?_) (fun _ => ?_)
    · exact sm_ret 1 25 [.ref 0, .int x1, .long x2, .null] [.int (-1)] (am_hp sw s4) (some (.int (-1))) (fun _ => rfl) rfl (fun _ _ h => h)
    · refine sm_br 6 26 24 [.ref 0, .int x1, .long x2, .null] [] (am_hp sw s4) (fun _ => rfl) (fun _ => ?_) (fun _ => ?_)
      · refine sm_call (cvf := am_cI) 8 40 [.ref 0, .int x1, .long x2, .null] [.int (s4.1 0 5), .ref 21, .long x2, .int x1, .ref 28] sw s4 25 [.ref 21, .int (s4.1 0 5)] [.long x2, .int x1, .ref 28] (fun _ => rfl) rfl (fun _ _ e9 => r_X2_carvable (d + 0) sw _ _ _ _ e9) am_po20 (fun v40 s40 => ?_)
        refine sm_call (cvf := am_cU) 0 43 [.ref 0, .int x1, .long x2, .null] [.int v40, .long x2, .int x1, .ref 28] sw s40 12 [.ref 28, .int x1, .long x2, .int v40] [] (fun _ => rfl) rfl (fun _ _ e9 => r_X1_cut (d + 0) sw _ _ _ _ _ _ e9) am_po20 (fun _v s43 => ?_)
        refine sm_br 5 58 79 [.ref 0, .int x1, .long x2, .null] [] (am_hp sw s43) (fun _ => rfl) (fun _ => ?_) (fun _ => ?_)
        · refine sm_call (cvf := am_cI) 2 62 [.ref 0, .int x1, .long x2, .null] [.ref 28] sw s43 13 [.ref 28] [] (fun _ => rfl) rfl (fun _ _ e9 => r_X1_ringsOfBest (d + 1) sw _ _  _ e9) am_po20 (fun v62 s62 => ?_)
          refine sm_br 6 79 81 [.ref 0, .int x1, .long x2, .null] [] (am_hp sw s62) (fun _ => rfl) (fun _ => ?_) (fun _ => ?_)
          · exact sm_ret 1 80 [.ref 0, .int x1, .long x2, .null] [.int (-1)] (am_hp sw s62) (some (.int (-1))) (fun _ => rfl) rfl (fun _ _ h => h)
          · refine sm_call (cvf := am_cI) 2 83 [.ref 0, .int x1, .long x2, .null] [.int x1, .ref 0] sw s62 126 [.ref 0, .int x1] [] (fun _ => rfl) rfl (fun _ _ e9 => r_X11_storeCutLog (d + 0) sw _ _ _ _ e9) am_po20 (fun v83 s83 => ?_)
            exact sm_ret 0 86 [.ref 0, .int x1, .long x2, .null] [.int v83] (am_hp sw s83) (some (.int v83)) (fun _ => rfl) rfl (fun _ _ h => h)
        · exact sm_ret 1 80 [.ref 0, .int x1, .long x2, .null] [.int (-1)] (am_hp sw s43) (some (.int (-1))) (fun _ => rfl) rfl (fun _ _ h => h)
      · exact sm_ret 1 25 [.ref 0, .int x1, .long x2, .null] [.int (-1)] (am_hp sw s4) (some (.int (-1))) (fun _ => rfl) rfl (fun _ _ h => h)

def f_X11_tellFacts (s : am_S) (x1 : Int32) (x2 : Int32) : Option (Unit × am_S) := am_gu (am_in x1 8) (am_gu (am_in (0) 8) (am_gu (am_in x1 8) (am_jn (fun (p37 : Int32 × am_S) => am_gu (am_in (1) 8) (am_bd (f_X2_carvedIn (am_wI p37.2 57 (Int32.toNatClampNeg (1)) p37.1) x1 (p37.2.1 0 5)) (fun v52 s52 => am_gu (am_in (2) 8) (am_gu (am_in x1 8) (am_gu (am_in (3) 8) (am_gu (am_in (4) 8) (am_gu (am_in x2 8) (am_gu (am_in (5) 8) (am_gu (am_in x2 8) (am_gu (am_in (6) 8) (am_gu (am_in (7) 8) (some ((), (am_wI (am_wI (am_wI (am_wI (am_wI (am_wI s52 57 (Int32.toNatClampNeg (2)) v52) 57 (Int32.toNatClampNeg (3)) (s52.1 24 (Int32.toNatClampNeg x1))) 57 (Int32.toNatClampNeg (4)) x2) 57 (Int32.toNatClampNeg (5)) (s52.1 20 (Int32.toNatClampNeg x2))) 57 (Int32.toNatClampNeg (6)) (s52.1 19 (Int32.toNatClampNeg x2))) 57 (Int32.toNatClampNeg (7)) (s52.1 0 5))))))))))))))) (fun j37 => if (s.1 23 (Int32.toNatClampNeg x1)) = 0 then (j37 (0, (am_wI s 57 (Int32.toNatClampNeg (0)) (s.1 22 (Int32.toNatClampNeg x1))))) else (j37 (1, (am_wI s 57 (Int32.toNatClampNeg (0)) (s.1 22 (Int32.toNatClampNeg x1)))))))))
set_option maxRecDepth 20000 in
theorem r_X11_tellFacts (d : Nat) (sw : Bool) (s s' : am_S) (x1 : Int32) (x2 : Int32) (v : Unit) (e : f_X11_tellFacts s x1 x2 = some (v, s')) : am_Run (d + 2) 129 [.ref 0, .int x1, .int x2] (am_hp sw s) (am_cU v) (am_hp sw s') := by
  refine am_Run.of (M := mt_X11_tellFacts) (cvf := am_cU) (X := f_X11_tellFacts s x1 x2) rfl rfl rfl (by simp) ?_ e
  unfold f_X11_tellFacts
  show am_Sm tb_X11_tellFacts 11 false none none (d + 1) (am_po am_cU sw) _ 0 [.ref 0, .int x1, .int x2] [] (am_hp sw s)
  refine sm_iald 7 13 [.ref 0, .int x1, .int x2] [.int (0), .ref 57] (am_hp sw s) (i := x1) (c := 22) (fun _ => rfl) rfl rfl rfl rfl ?_
  refine sm_iast 0 14 [.ref 0, .int x1, .int x2] [] sw s (i := (0)) (x := (s.1 22 (Int32.toNatClampNeg x1))) (c := 57) (fun _ => rfl) rfl rfl rfl ?_
  refine sm_bald 7 28 [.ref 0, .int x1, .int x2] [.int (1), .ref 57] (am_hp sw (am_wI s 57 (Int32.toNatClampNeg (0)) (s.1 22 (Int32.toNatClampNeg x1)))) (i := x1) (c := 23) (fun _ => rfl) rfl rfl rfl rfl ?_
  refine sm_jn 37 (fun p37 => [.ref 0, .int x1, .int x2]) (fun p37 => [.int p37.1, .int (1), .ref 57]) (fun p37 => (am_hp sw p37.2)) (fun p37 => ?_) (fun j37 hj37 => ?_)
  · refine sm_iast 0 37 [.ref 0, .int x1, .int x2] [] sw p37.2 (i := (1)) (x := p37.1) (c := 57) (fun _ => rfl) rfl rfl rfl ?_
    refine sm_call (cvf := am_cI) 8 52 [.ref 0, .int x1, .int x2] [.int (p37.2.1 0 5), .int x1, .ref 21, .int (2), .ref 57] sw (am_wI p37.2 57 (Int32.toNatClampNeg (1)) p37.1) 26 [.ref 21, .int x1, .int (p37.2.1 0 5)] [.int (2), .ref 57] (fun _ => rfl) rfl (fun _ _ e9 => r_X2_carvedIn (d + 0) sw _ _ _ _ _ e9) am_po20 (fun v52 s52 => ?_)
    refine sm_iast 0 55 [.ref 0, .int x1, .int x2] [] sw s52 (i := (2)) (x := v52) (c := 57) (fun _ => rfl) rfl rfl rfl ?_
    refine sm_iald 7 69 [.ref 0, .int x1, .int x2] [.int (3), .ref 57] (am_hp sw (am_wI s52 57 (Int32.toNatClampNeg (2)) v52)) (i := x1) (c := 24) (fun _ => rfl) rfl rfl rfl rfl ?_
    refine sm_iast 0 70 [.ref 0, .int x1, .int x2] [] sw (am_wI s52 57 (Int32.toNatClampNeg (2)) v52) (i := (3)) (x := (s52.1 24 (Int32.toNatClampNeg x1))) (c := 57) (fun _ => rfl) rfl rfl rfl ?_
    refine sm_iast 4 77 [.ref 0, .int x1, .int x2] [] sw (am_wI (am_wI s52 57 (Int32.toNatClampNeg (2)) v52) 57 (Int32.toNatClampNeg (3)) (s52.1 24 (Int32.toNatClampNeg x1))) (i := (4)) (x := x2) (c := 57) (fun _ => rfl) rfl rfl rfl ?_
    refine sm_iald 7 91 [.ref 0, .int x1, .int x2] [.int (5), .ref 57] (am_hp sw (am_wI (am_wI (am_wI s52 57 (Int32.toNatClampNeg (2)) v52) 57 (Int32.toNatClampNeg (3)) (s52.1 24 (Int32.toNatClampNeg x1))) 57 (Int32.toNatClampNeg (4)) x2)) (i := x2) (c := 20) (fun _ => rfl) rfl rfl rfl rfl ?_
    refine sm_iast 0 92 [.ref 0, .int x1, .int x2] [] sw (am_wI (am_wI (am_wI s52 57 (Int32.toNatClampNeg (2)) v52) 57 (Int32.toNatClampNeg (3)) (s52.1 24 (Int32.toNatClampNeg x1))) 57 (Int32.toNatClampNeg (4)) x2) (i := (5)) (x := (s52.1 20 (Int32.toNatClampNeg x2))) (c := 57) (fun _ => rfl) rfl rfl rfl ?_
    refine sm_iald 7 107 [.ref 0, .int x1, .int x2] [.int (6), .ref 57] (am_hp sw (am_wI (am_wI (am_wI (am_wI s52 57 (Int32.toNatClampNeg (2)) v52) 57 (Int32.toNatClampNeg (3)) (s52.1 24 (Int32.toNatClampNeg x1))) 57 (Int32.toNatClampNeg (4)) x2) 57 (Int32.toNatClampNeg (5)) (s52.1 20 (Int32.toNatClampNeg x2)))) (i := x2) (c := 19) (fun _ => rfl) rfl rfl rfl rfl ?_
    refine sm_iast 0 108 [.ref 0, .int x1, .int x2] [] sw (am_wI (am_wI (am_wI (am_wI s52 57 (Int32.toNatClampNeg (2)) v52) 57 (Int32.toNatClampNeg (3)) (s52.1 24 (Int32.toNatClampNeg x1))) 57 (Int32.toNatClampNeg (4)) x2) 57 (Int32.toNatClampNeg (5)) (s52.1 20 (Int32.toNatClampNeg x2))) (i := (6)) (x := (s52.1 19 (Int32.toNatClampNeg x2))) (c := 57) (fun _ => rfl) rfl rfl rfl ?_
    refine sm_iast 5 119 [.ref 0, .int x1, .int x2] [] sw (am_wI (am_wI (am_wI (am_wI (am_wI s52 57 (Int32.toNatClampNeg (2)) v52) 57 (Int32.toNatClampNeg (3)) (s52.1 24 (Int32.toNatClampNeg x1))) 57 (Int32.toNatClampNeg (4)) x2) 57 (Int32.toNatClampNeg (5)) (s52.1 20 (Int32.toNatClampNeg x2))) 57 (Int32.toNatClampNeg (6)) (s52.1 19 (Int32.toNatClampNeg x2))) (i := (7)) (x := (s52.1 0 5)) (c := 57) (fun _ => rfl) rfl rfl rfl ?_
    exact sm_ret 0 120 [.ref 0, .int x1, .int x2] [] (am_hp sw (am_wI (am_wI (am_wI (am_wI (am_wI (am_wI s52 57 (Int32.toNatClampNeg (2)) v52) 57 (Int32.toNatClampNeg (3)) (s52.1 24 (Int32.toNatClampNeg x1))) 57 (Int32.toNatClampNeg (4)) x2) 57 (Int32.toNatClampNeg (5)) (s52.1 20 (Int32.toNatClampNeg x2))) 57 (Int32.toNatClampNeg (6)) (s52.1 19 (Int32.toNatClampNeg x2))) 57 (Int32.toNatClampNeg (7)) (s52.1 0 5))) none (fun _ => rfl) rfl (fun _ _ h => h)
  refine sm_br 1 36 32 [.ref 0, .int x1, .int x2] [.int (1), .ref 57] (am_hp sw (am_wI s 57 (Int32.toNatClampNeg (0)) (s.1 22 (Int32.toNatClampNeg x1)))) (fun _ => rfl) (fun _ => ?_) (fun _ => ?_)
  · refine sm_go 1 37 [.ref 0, .int x1, .int x2] [.int (0), .int (1), .ref 57] (am_hp sw (am_wI s 57 (Int32.toNatClampNeg (0)) (s.1 22 (Int32.toNatClampNeg x1)))) (fun _ => rfl) ?_
    exact hj37 (0, (am_wI s 57 (Int32.toNatClampNeg (0)) (s.1 22 (Int32.toNatClampNeg x1))))
  · refine sm_go 2 37 [.ref 0, .int x1, .int x2] [.int (1), .int (1), .ref 57] (am_hp sw (am_wI s 57 (Int32.toNatClampNeg (0)) (s.1 22 (Int32.toNatClampNeg x1)))) (fun _ => rfl) ?_
    exact hj37 (1, (am_wI s 57 (Int32.toNatClampNeg (0)) (s.1 22 (Int32.toNatClampNeg x1))))

def f_X11_takerOf_L7 (sw : Bool) : Nat → Int32 → Int32 → Int32 → Int32 → am_S → Option ((Int32 × am_S) ⊕ ((Int32) × am_S))
  | 0, _, _, _, _, _ => none
  | n + 1, x1, x2, x3, x4, s => if x4 < (s.1 21 0) then (am_bd (f_X2_mayCarve s x4 x1 (s.1 0 5)) (fun v30 s30 => am_jn (fun (p88 : Int32 × Int32 × am_S) => f_X11_takerOf_L7 sw n x1 p88.1 p88.2.1 (x4 + 1) p88.2.2) (fun j88 => if v30 = 0 then (j88 (x2, x3, s30)) else (am_bd (f_X11_tellFacts s30 x4 x1) (fun (_ : Unit) s40 => am_bd (f_X8_firstValue (am_ru sw) s40 (3)) (fun v52 s52 => am_jn (fun (p68 : am_S) => am_bd (f_X8_bars (am_ru sw) p68) (fun v76 s76 => if v76 = 0 then (j88 (x4, v52, s76)) else (j88 (x2, x3, s76)))) (fun j68 => if x2 = (-1) then (j68 s52) else (if x3 < v52 then (j68 s52) else (j88 (x2, x3, s52)))))))))) else (some (.inr (x2, s)))
def f_X11_takerOf (sw : Bool) (s : am_S) (x1 : Int32) : Option (Int32 × am_S) := am_lp (fun y => y) (f_X11_takerOf_L7 sw am_FU x1 (-1) (0) (0) s) (fun y7 s7 => some (y7, s7))
set_option maxRecDepth 20000 in
theorem l_X11_takerOf_7_f (d : Nat) (_w : Bool) : ∀ (n : Nat) (x1 : Int32) (x2 : Int32) (x3 : Int32) (x4 : Int32) (s : am_S), am_Sm tb_X11_takerOf 11 false none (some .int) (d + 5) (am_pl am_cI false (fun (v9 : Int32) s9 r h9 => am_Ex tb_X11_takerOf 11 false none (some .int) (d + 5) r h9 94 [.null, .null, .int v9, .null, .null, .null] [] (am_hp false s9))) (f_X11_takerOf_L7 false n x1 x2 x3 x4 s) 7 [.ref 0, .int x1, .int x2, .int x3, .int x4, .null] [] (am_hp false s) := by
  intro n
  induction n with
  | zero => intro x1 x2 x3 x4 s; exact sm_no
  | succ n ih =>
    intro x1 x2 x3 x4 s
    rw [f_X11_takerOf_L7]
    refine sm_br 5 19 94 [.ref 0, .int x1, .int x2, .int x3, .int x4, .null] [] (am_hp false s) (fun _ => rfl) (fun _ => ?_) (fun _ => ?_)
    · refine sm_call (cvf := am_cI) 6 30 [.ref 0, .int x1, .int x2, .int x3, .int x4, .null] [.int (s.1 0 5), .int x1, .int x4, .ref 21] false s 24 [.ref 21, .int x4, .int x1, .int (s.1 0 5)] [] (fun _ => rfl) rfl (fun _ _ e9 => r_X2_mayCarve (d + 4) false _ _ _ _ _ _ e9) am_pl20 (fun v30 s30 => ?_)
      refine sm_jn 88 (fun p88 => [.ref 0, .int x1, .int p88.1, .int p88.2.1, .int x4, .null]) (fun p88 => []) (fun p88 => (am_hp false p88.2.2)) (fun p88 => ?_) (fun j88 hj88 => ?_)
      · refine sm_go 2 7 [.ref 0, .int x1, .int p88.1, .int p88.2.1, .int (x4 + 1), .null] [] (am_hp false p88.2.2) (fun _ => rfl) ?_
        exact ih x1 p88.1 p88.2.1 (x4 + 1) p88.2.2
      refine sm_br 1 88 36 [.ref 0, .int x1, .int x2, .int x3, .int x4, .null] [] (am_hp false s30) (fun _ => rfl) (fun _ => ?_) (fun _ => ?_)
      · exact hj88 (x2, x3, s30)
      · refine sm_call (cvf := am_cU) 3 40 [.ref 0, .int x1, .int x2, .int x3, .int x4, .null] [.int x1, .int x4, .ref 0] false s30 129 [.ref 0, .int x4, .int x1] [] (fun _ => rfl) rfl (fun _ _ e9 => r_X11_tellFacts (d + 3) false _ _ _ _ _ e9) am_pl20 (fun _v s40 => ?_)
        refine sm_call (cvf := am_cI) 5 52 [.ref 0, .int x1, .int x2, .int x3, .int x4, .null] [.ref 57, .int (3), .ref 5] false s40 67 [.ref 5, .int (3), .ref 57] [] (fun _ => rfl) rfl (fun _ _ e9 => r_X8_firstValue_5 (d + 0) false _ _ _ _ e9) am_pl20 (fun v52 s52 => ?_)
        refine sm_go 3 59 [.ref 0, .int x1, .int x2, .int x3, .int x4, .int v52] [.int (-1), .int x2] (am_hp false s52) (fun _ => rfl) ?_
        refine sm_jn 68 (fun p68 => [.ref 0, .int x1, .int x2, .int x3, .int x4, .int v52]) (fun p68 => []) (fun p68 => (am_hp false p68)) (fun p68 => ?_) (fun j68 hj68 => ?_)
        · refine sm_call (cvf := am_cI) 4 76 [.ref 0, .int x1, .int x2, .int x3, .int x4, .int v52] [.ref 57, .ref 5] false p68 68 [.ref 5, .ref 57] [] (fun _ => rfl) rfl (fun _ _ e9 => r_X8_bars_5 (d + 0) false _ _  _ e9) am_pl20 (fun v76 s76 => ?_)
          refine sm_br 1 82 88 [.ref 0, .int x1, .int x2, .int x3, .int x4, .int v52] [] (am_hp false s76) (fun _ => rfl) (fun _ => ?_) (fun _ => ?_)
          · refine sm_go 4 88 [.ref 0, .int x1, .int x4, .int v52, .int x4, .int v52] [] (am_hp false s76) (fun _ => rfl) ?_
            refine sm_fg [.ref 0, .int x1, .int x4, .int v52, .int x4, .null] ⟨Or.inr rfl, Or.inr rfl, Or.inr rfl, Or.inr rfl, Or.inr rfl, Or.inl rfl, trivial⟩ ?_
            exact hj88 (x4, v52, s76)
          · refine sm_fg [.ref 0, .int x1, .int x2, .int x3, .int x4, .null] ⟨Or.inr rfl, Or.inr rfl, Or.inr rfl, Or.inr rfl, Or.inr rfl, Or.inl rfl, trivial⟩ ?_
            exact hj88 (x2, x3, s76)
        refine sm_br 1 68 62 [.ref 0, .int x1, .int x2, .int x3, .int x4, .int v52] [] (am_hp false s52) (fun _ => rfl) (fun _ => ?_) (fun _ => ?_)
        · exact hj68 s52
        · refine sm_br 3 68 88 [.ref 0, .int x1, .int x2, .int x3, .int x4, .int v52] [] (am_hp false s52) (fun _ => rfl) (fun _ => ?_) (fun _ => ?_)
          · exact hj68 s52
          · refine sm_fg [.ref 0, .int x1, .int x2, .int x3, .int x4, .null] ⟨Or.inr rfl, Or.inr rfl, Or.inr rfl, Or.inr rfl, Or.inr rfl, Or.inl rfl, trivial⟩ ?_
            exact hj88 (x2, x3, s52)
    · refine sm_fg [.null, .null, .int x2, .null, .null, .null] ⟨Or.inl rfl, Or.inl rfl, Or.inr rfl, Or.inl rfl, Or.inl rfl, Or.inl rfl, trivial⟩ ?_
      exact sm_ex (fun _ _ h => h.2)

set_option maxRecDepth 20000 in
theorem r_X11_takerOf_f (d : Nat) (_w : Bool) (s s' : am_S) (x1 : Int32) (v : Int32) (e : f_X11_takerOf false s x1 = some (v, s')) : am_Run (d + 6) 127 [.ref 0, .int x1] (am_hp false s) (am_cI v) (am_hp false s') := by
  refine am_Run.of (M := mt_X11_takerOf) (cvf := am_cI) (X := f_X11_takerOf false s x1) rfl rfl rfl (by simp) ?_ e
  unfold f_X11_takerOf
  show am_Sm tb_X11_takerOf 11 false none (some .int) (d + 5) (am_po am_cI false) _ 0 [.ref 0, .int x1, .null, .null, .null, .null] [] (am_hp false s)
  refine sm_go 6 7 [.ref 0, .int x1, .int (-1), .int (0), .int (0), .null] [] (am_hp false s) (fun _ => rfl) ?_
  refine sm_lp 94 (fun y7 => [.null, .null, .int y7, .null, .null, .null]) (l_X11_takerOf_7_f d false am_FU x1 (-1) (0) (0) s) (fun _ _ _ h => h) am_po20 (fun y7 s7 => ?_)
  exact sm_ret 1 95 [.null, .null, .int y7, .null, .null, .null] [.int y7] (am_hp false s7) (some (.int y7)) (fun _ => rfl) rfl (fun _ _ h => h)

set_option maxRecDepth 20000 in
theorem l_X11_takerOf_7_t (d : Nat) (_w : Bool) : ∀ (n : Nat) (x1 : Int32) (x2 : Int32) (x3 : Int32) (x4 : Int32) (s : am_S), am_Sm tb_X11_takerOf 11 false none (some .int) (d + 5) (am_pl am_cI true (fun (v9 : Int32) s9 r h9 => am_Ex tb_X11_takerOf 11 false none (some .int) (d + 5) r h9 94 [.null, .null, .int v9, .null, .null, .null] [] (am_hp true s9))) (f_X11_takerOf_L7 true n x1 x2 x3 x4 s) 7 [.ref 0, .int x1, .int x2, .int x3, .int x4, .null] [] (am_hp true s) := by
  intro n
  induction n with
  | zero => intro x1 x2 x3 x4 s; exact sm_no
  | succ n ih =>
    intro x1 x2 x3 x4 s
    rw [f_X11_takerOf_L7]
    refine sm_br 5 19 94 [.ref 0, .int x1, .int x2, .int x3, .int x4, .null] [] (am_hp true s) (fun _ => rfl) (fun _ => ?_) (fun _ => ?_)
    · refine sm_call (cvf := am_cI) 6 30 [.ref 0, .int x1, .int x2, .int x3, .int x4, .null] [.int (s.1 0 5), .int x1, .int x4, .ref 21] true s 24 [.ref 21, .int x4, .int x1, .int (s.1 0 5)] [] (fun _ => rfl) rfl (fun _ _ e9 => r_X2_mayCarve (d + 4) true _ _ _ _ _ _ e9) am_pl20 (fun v30 s30 => ?_)
      refine sm_jn 88 (fun p88 => [.ref 0, .int x1, .int p88.1, .int p88.2.1, .int x4, .null]) (fun p88 => []) (fun p88 => (am_hp true p88.2.2)) (fun p88 => ?_) (fun j88 hj88 => ?_)
      · refine sm_go 2 7 [.ref 0, .int x1, .int p88.1, .int p88.2.1, .int (x4 + 1), .null] [] (am_hp true p88.2.2) (fun _ => rfl) ?_
        exact ih x1 p88.1 p88.2.1 (x4 + 1) p88.2.2
      refine sm_br 1 88 36 [.ref 0, .int x1, .int x2, .int x3, .int x4, .null] [] (am_hp true s30) (fun _ => rfl) (fun _ => ?_) (fun _ => ?_)
      · exact hj88 (x2, x3, s30)
      · refine sm_call (cvf := am_cU) 3 40 [.ref 0, .int x1, .int x2, .int x3, .int x4, .null] [.int x1, .int x4, .ref 0] true s30 129 [.ref 0, .int x4, .int x1] [] (fun _ => rfl) rfl (fun _ _ e9 => r_X11_tellFacts (d + 3) true _ _ _ _ _ e9) am_pl20 (fun _v s40 => ?_)
        refine sm_call (cvf := am_cI) 5 52 [.ref 0, .int x1, .int x2, .int x3, .int x4, .null] [.ref 57, .int (3), .ref 11] true s40 67 [.ref 11, .int (3), .ref 57] [] (fun _ => rfl) rfl (fun _ _ e9 => r_X8_firstValue_11 (d + 0) true _ _ _ _ e9) am_pl20 (fun v52 s52 => ?_)
        refine sm_go 3 59 [.ref 0, .int x1, .int x2, .int x3, .int x4, .int v52] [.int (-1), .int x2] (am_hp true s52) (fun _ => rfl) ?_
        refine sm_jn 68 (fun p68 => [.ref 0, .int x1, .int x2, .int x3, .int x4, .int v52]) (fun p68 => []) (fun p68 => (am_hp true p68)) (fun p68 => ?_) (fun j68 hj68 => ?_)
        · refine sm_call (cvf := am_cI) 4 76 [.ref 0, .int x1, .int x2, .int x3, .int x4, .int v52] [.ref 57, .ref 11] true p68 68 [.ref 11, .ref 57] [] (fun _ => rfl) rfl (fun _ _ e9 => r_X8_bars_11 (d + 0) true _ _  _ e9) am_pl20 (fun v76 s76 => ?_)
          refine sm_br 1 82 88 [.ref 0, .int x1, .int x2, .int x3, .int x4, .int v52] [] (am_hp true s76) (fun _ => rfl) (fun _ => ?_) (fun _ => ?_)
          · refine sm_go 4 88 [.ref 0, .int x1, .int x4, .int v52, .int x4, .int v52] [] (am_hp true s76) (fun _ => rfl) ?_
            refine sm_fg [.ref 0, .int x1, .int x4, .int v52, .int x4, .null] ⟨Or.inr rfl, Or.inr rfl, Or.inr rfl, Or.inr rfl, Or.inr rfl, Or.inl rfl, trivial⟩ ?_
            exact hj88 (x4, v52, s76)
          · refine sm_fg [.ref 0, .int x1, .int x2, .int x3, .int x4, .null] ⟨Or.inr rfl, Or.inr rfl, Or.inr rfl, Or.inr rfl, Or.inr rfl, Or.inl rfl, trivial⟩ ?_
            exact hj88 (x2, x3, s76)
        refine sm_br 1 68 62 [.ref 0, .int x1, .int x2, .int x3, .int x4, .int v52] [] (am_hp true s52) (fun _ => rfl) (fun _ => ?_) (fun _ => ?_)
        · exact hj68 s52
        · refine sm_br 3 68 88 [.ref 0, .int x1, .int x2, .int x3, .int x4, .int v52] [] (am_hp true s52) (fun _ => rfl) (fun _ => ?_) (fun _ => ?_)
          · exact hj68 s52
          · refine sm_fg [.ref 0, .int x1, .int x2, .int x3, .int x4, .null] ⟨Or.inr rfl, Or.inr rfl, Or.inr rfl, Or.inr rfl, Or.inr rfl, Or.inl rfl, trivial⟩ ?_
            exact hj88 (x2, x3, s52)
    · refine sm_fg [.null, .null, .int x2, .null, .null, .null] ⟨Or.inl rfl, Or.inl rfl, Or.inr rfl, Or.inl rfl, Or.inl rfl, Or.inl rfl, trivial⟩ ?_
      exact sm_ex (fun _ _ h => h.2)

set_option maxRecDepth 20000 in
theorem r_X11_takerOf_t (d : Nat) (_w : Bool) (s s' : am_S) (x1 : Int32) (v : Int32) (e : f_X11_takerOf true s x1 = some (v, s')) : am_Run (d + 6) 127 [.ref 0, .int x1] (am_hp true s) (am_cI v) (am_hp true s') := by
  refine am_Run.of (M := mt_X11_takerOf) (cvf := am_cI) (X := f_X11_takerOf true s x1) rfl rfl rfl (by simp) ?_ e
  unfold f_X11_takerOf
  show am_Sm tb_X11_takerOf 11 false none (some .int) (d + 5) (am_po am_cI true) _ 0 [.ref 0, .int x1, .null, .null, .null, .null] [] (am_hp true s)
  refine sm_go 6 7 [.ref 0, .int x1, .int (-1), .int (0), .int (0), .null] [] (am_hp true s) (fun _ => rfl) ?_
  refine sm_lp 94 (fun y7 => [.null, .null, .int y7, .null, .null, .null]) (l_X11_takerOf_7_t d true am_FU x1 (-1) (0) (0) s) (fun _ _ _ h => h) am_po20 (fun y7 s7 => ?_)
  exact sm_ret 1 95 [.null, .null, .int y7, .null, .null, .null] [.int y7] (am_hp true s7) (some (.int y7)) (fun _ => rfl) rfl (fun _ _ h => h)

theorem r_X11_takerOf (d : Nat) (sw : Bool) (s s' : am_S) (x1 : Int32) (v : Int32) (e : f_X11_takerOf sw s x1 = some (v, s')) : am_Run (d + 6) 127 [.ref 0, .int x1] (am_hp sw s) (am_cI v) (am_hp sw s') := by
  cases sw
  · exact r_X11_takerOf_f d false s s' x1 v e
  · exact r_X11_takerOf_t d true s s' x1 v e
def f_X11_carve_L47 : Nat → Int32 → Int32 → Int32 → Int32 → am_S → Option ((Unit × am_S) ⊕ ((Unit) × am_S))
  | 0, _, _, _, _, _ => none
  | n + 1, x1, x2, x3, x4, s => if x4 < x3 then (am_bd (f_X3_add s x1 (s.1 0 5)) (fun (_ : Unit) s62 => f_X11_carve_L47 n x1 x2 x3 (x4 + 1) s62)) else (some (.inr ((), s)))
def f_X11_carve (s : am_S) (x1 : Int32) (x2 : Int32) : Option (Unit × am_S) := am_gu (am_in x1 200) (am_gu (am_in (s.1 36 (Int32.toNatClampNeg x1)) 8) (am_gu (am_in x1 200) (am_gu (am_in x1 200) (am_lp (fun y => y) (f_X11_carve_L47 am_FU x1 x2 (s.1 19 (Int32.toNatClampNeg (s.1 36 (Int32.toNatClampNeg x1)))) (0) (am_wI (am_wI s 37 (Int32.toNatClampNeg x1) x2) 38 (Int32.toNatClampNeg x1) (s.1 39 1))) (fun (_ : Unit) s47 => am_bd (f_X2_addCarved s47 x2 (s47.1 0 5) (s.1 19 (Int32.toNatClampNeg (s.1 36 (Int32.toNatClampNeg x1))))) (fun (_ : Unit) s81 => some ((), s81)))))))
set_option maxRecDepth 20000 in
theorem l_X11_carve_47 (d : Nat) (sw : Bool) : ∀ (n : Nat) (x1 : Int32) (x2 : Int32) (x3 : Int32) (x4 : Int32) (s : am_S), am_Sm tb_X11_carve 11 false none none (d + 1) (am_pl am_cU sw (fun (v9 : Unit) s9 r h9 => am_Ex tb_X11_carve 11 false none none (d + 1) r h9 71 [.ref 0, .null, .int x2, .int x3, .null] [] (am_hp sw s9))) (f_X11_carve_L47 n x1 x2 x3 x4 s) 47 [.ref 0, .int x1, .int x2, .int x3, .int x4] [] (am_hp sw s) := by
  intro n
  induction n with
  | zero => intro x1 x2 x3 x4 s; exact sm_no
  | succ n ih =>
    intro x1 x2 x3 x4 s
    rw [f_X11_carve_L47]
    refine sm_br 3 53 71 [.ref 0, .int x1, .int x2, .int x3, .int x4] [] (am_hp sw s) (fun _ => rfl) (fun _ => ?_) (fun _ => ?_)
    · refine sm_call (cvf := am_cU) 5 62 [.ref 0, .int x1, .int x2, .int x3, .int x4] [.int (s.1 0 5), .int x1, .ref 39] sw s 30 [.ref 39, .int x1, .int (s.1 0 5)] [] (fun _ => rfl) rfl (fun _ _ e9 => r_X3_add (d + 0) sw _ _ _ _ _ e9) am_pl20 (fun _v s62 => ?_)
      refine sm_go 2 47 [.ref 0, .int x1, .int x2, .int x3, .int (x4 + 1)] [] (am_hp sw s62) (fun _ => rfl) ?_
      exact ih x1 x2 x3 (x4 + 1) s62
    · refine sm_fg [.ref 0, .null, .int x2, .int x3, .null] ⟨Or.inr rfl, Or.inl rfl, Or.inr rfl, Or.inr rfl, Or.inl rfl, trivial⟩ ?_
      exact sm_ex (fun _ _ h => h.2)

set_option maxRecDepth 20000 in
theorem r_X11_carve (d : Nat) (sw : Bool) (s s' : am_S) (x1 : Int32) (x2 : Int32) (v : Unit) (e : f_X11_carve s x1 x2 = some (v, s')) : am_Run (d + 2) 128 [.ref 0, .int x1, .int x2] (am_hp sw s) (am_cU v) (am_hp sw s') := by
  refine am_Run.of (M := mt_X11_carve) (cvf := am_cU) (X := f_X11_carve s x1 x2) rfl rfl rfl (by simp) ?_ e
  unfold f_X11_carve
  show am_Sm tb_X11_carve 11 false none none (d + 1) (am_po am_cU sw) _ 0 [.ref 0, .int x1, .int x2, .null, .null] [] (am_hp sw s)
  refine sm_iald 7 15 [.ref 0, .int x1, .int x2, .null, .null] [.ref 19] (am_hp sw s) (i := x1) (c := 36) (fun _ => rfl) rfl rfl rfl rfl ?_
  refine sm_iald 0 16 [.ref 0, .int x1, .int x2, .null, .null] [] (am_hp sw s) (i := (s.1 36 (Int32.toNatClampNeg x1))) (c := 19) (fun _ => rfl) rfl rfl rfl rfl ?_
  refine sm_iast 6 27 [.ref 0, .int x1, .int x2, .int (s.1 19 (Int32.toNatClampNeg (s.1 36 (Int32.toNatClampNeg x1)))), .null] [] sw s (i := x1) (x := x2) (c := 37) (fun _ => rfl) rfl rfl rfl ?_
  refine sm_iast 7 43 [.ref 0, .int x1, .int x2, .int (s.1 19 (Int32.toNatClampNeg (s.1 36 (Int32.toNatClampNeg x1)))), .null] [] sw (am_wI s 37 (Int32.toNatClampNeg x1) x2) (i := x1) (x := (s.1 39 1)) (c := 38) (fun _ => rfl) rfl rfl rfl ?_
  refine sm_go 2 47 [.ref 0, .int x1, .int x2, .int (s.1 19 (Int32.toNatClampNeg (s.1 36 (Int32.toNatClampNeg x1)))), .int (0)] [] (am_hp sw (am_wI (am_wI s 37 (Int32.toNatClampNeg x1) x2) 38 (Int32.toNatClampNeg x1) (s.1 39 1))) (fun _ => rfl) ?_
  refine sm_lp 71 (fun _y => [.ref 0, .null, .int x2, .int (s.1 19 (Int32.toNatClampNeg (s.1 36 (Int32.toNatClampNeg x1)))), .null]) (l_X11_carve_47 d sw am_FU x1 x2 (s.1 19 (Int32.toNatClampNeg (s.1 36 (Int32.toNatClampNeg x1)))) (0) (am_wI (am_wI s 37 (Int32.toNatClampNeg x1) x2) 38 (Int32.toNatClampNeg x1) (s.1 39 1))) (fun _ _ _ h => h) am_po20 (fun _y s47 => ?_)
  refine sm_call (cvf := am_cU) 6 81 [.ref 0, .null, .int x2, .int (s.1 19 (Int32.toNatClampNeg (s.1 36 (Int32.toNatClampNeg x1)))), .null] [.int (s.1 19 (Int32.toNatClampNeg (s.1 36 (Int32.toNatClampNeg x1)))), .int (s47.1 0 5), .int x2, .ref 21] sw s47 27 [.ref 21, .int x2, .int (s47.1 0 5), .int (s.1 19 (Int32.toNatClampNeg (s.1 36 (Int32.toNatClampNeg x1))))] [] (fun _ => rfl) rfl (fun _ _ e9 => r_X2_addCarved (d + 0) sw _ _ _ _ _ _ e9) am_po20 (fun _v s81 => ?_)
  exact sm_ret 0 84 [.ref 0, .null, .int x2, .int (s.1 19 (Int32.toNatClampNeg (s.1 36 (Int32.toNatClampNeg x1)))), .null] [] (am_hp sw s81) none (fun _ => rfl) rfl (fun _ _ h => h)

def f_X11_give_L4 (sw : Bool) : Nat → Int32 → Int32 → am_S → Option ((Int32 × am_S) ⊕ ((Int32) × am_S))
  | 0, _, _, _ => none
  | n + 1, x1, x2, s => if x2 < (s.1 32 2) then (am_gu (am_in x2 200) (am_gu (am_in x2 200) (am_jn (fun (p84 : Int32 × am_S) => f_X11_give_L4 sw n p84.1 (x2 + 1) p84.2) (fun j84 => if (s.1 37 (Int32.toNatClampNeg x2)) = (-1) then (am_gu (am_in (s.1 36 (Int32.toNatClampNeg x2)) 8) (if (400 - (s.1 39 1)) < (s.1 19 (Int32.toNatClampNeg (s.1 36 (Int32.toNatClampNeg x2)))) then (j84 (x1, s)) else (am_bd (f_X11_takerOf sw s (s.1 36 (Int32.toNatClampNeg x2))) (fun v63 s63 => if v63 = (-1) then (j84 (x1, s63)) else (am_bd (f_X11_carve s63 x2 v63) (fun (_ : Unit) s78 => j84 ((x1 + 1), s78))))))) else (j84 (x1, s)))))) else (some (.inr (x1, s)))
def f_X11_give (sw : Bool) (s : am_S) : Option (Int32 × am_S) := am_lp (fun y => y) (f_X11_give_L4 sw am_FU (0) (0) s) (fun y4 s4 => some (y4, s4))
set_option maxRecDepth 20000 in
theorem l_X11_give_4 (d : Nat) (sw : Bool) : ∀ (n : Nat) (x1 : Int32) (x2 : Int32) (s : am_S), am_Sm tb_X11_give 11 false none (some .int) (d + 6) (am_pl am_cI sw (fun (v9 : Int32) s9 r h9 => am_Ex tb_X11_give 11 false none (some .int) (d + 6) r h9 90 [.null, .int v9, .null, .null, .null] [] (am_hp sw s9))) (f_X11_give_L4 sw n x1 x2 s) 4 [.ref 0, .int x1, .int x2, .null, .null] [] (am_hp sw s) := by
  intro n
  induction n with
  | zero => intro x1 x2 s; exact sm_no
  | succ n ih =>
    intro x1 x2 s
    rw [f_X11_give_L4]
    refine sm_br 5 15 90 [.ref 0, .int x1, .int x2, .null, .null] [] (am_hp sw s) (fun _ => rfl) (fun _ => ?_) (fun _ => ?_)
    · refine sm_iald 4 23 [.ref 0, .int x1, .int x2, .null, .null] [] (am_hp sw s) (i := x2) (c := 36) (fun _ => rfl) rfl rfl rfl rfl ?_
      refine sm_iald 5 33 [.ref 0, .int x1, .int x2, .int (s.1 36 (Int32.toNatClampNeg x2)), .null] [] (am_hp sw s) (i := x2) (c := 37) (fun _ => rfl) rfl rfl rfl rfl ?_
      refine sm_go 1 35 [.ref 0, .int x1, .int x2, .int (s.1 36 (Int32.toNatClampNeg x2)), .null] [.int (-1), .int (s.1 37 (Int32.toNatClampNeg x2))] (am_hp sw s) (fun _ => rfl) ?_
      refine sm_jn 84 (fun p84 => [.ref 0, .int p84.1, .int x2, .null, .null]) (fun p84 => []) (fun p84 => (am_hp sw p84.2)) (fun p84 => ?_) (fun j84 hj84 => ?_)
      · refine sm_go 2 4 [.ref 0, .int p84.1, .int (x2 + 1), .null, .null] [] (am_hp sw p84.2) (fun _ => rfl) ?_
        exact ih p84.1 (x2 + 1) p84.2
      refine sm_br 1 38 84 [.ref 0, .int x1, .int x2, .int (s.1 36 (Int32.toNatClampNeg x2)), .null] [] (am_hp sw s) (fun _ => rfl) (fun _ => ?_) (fun _ => ?_)
      · refine sm_iald 4 46 [.ref 0, .int x1, .int x2, .int (s.1 36 (Int32.toNatClampNeg x2)), .null] [] (am_hp sw s) (i := (s.1 36 (Int32.toNatClampNeg x2))) (c := 19) (fun _ => rfl) rfl rfl rfl rfl ?_
        refine sm_br 6 84 61 [.ref 0, .int x1, .int x2, .int (s.1 36 (Int32.toNatClampNeg x2)), .null] [] (am_hp sw s) (fun _ => rfl) (fun _ => ?_) (fun _ => ?_)
        · refine sm_fg [.ref 0, .int x1, .int x2, .null, .null] ⟨Or.inr rfl, Or.inr rfl, Or.inr rfl, Or.inl rfl, Or.inl rfl, trivial⟩ ?_
          exact hj84 (x1, s)
        · refine sm_call (cvf := am_cI) 2 63 [.ref 0, .int x1, .int x2, .int (s.1 36 (Int32.toNatClampNeg x2)), .null] [.int (s.1 36 (Int32.toNatClampNeg x2)), .ref 0] sw s 127 [.ref 0, .int (s.1 36 (Int32.toNatClampNeg x2))] [] (fun _ => rfl) rfl (fun _ _ e9 => r_X11_takerOf (d + 0) sw _ _ _ _ e9) am_pl20 (fun v63 s63 => ?_)
          refine sm_br 4 84 74 [.ref 0, .int x1, .int x2, .int (s.1 36 (Int32.toNatClampNeg x2)), .int v63] [] (am_hp sw s63) (fun _ => rfl) (fun _ => ?_) (fun _ => ?_)
          · refine sm_fg [.ref 0, .int x1, .int x2, .null, .null] ⟨Or.inr rfl, Or.inr rfl, Or.inr rfl, Or.inl rfl, Or.inl rfl, trivial⟩ ?_
            exact hj84 (x1, s63)
          · refine sm_call (cvf := am_cU) 3 78 [.ref 0, .int x1, .int x2, .int (s.1 36 (Int32.toNatClampNeg x2)), .int v63] [.int v63, .int x2, .ref 0] sw s63 128 [.ref 0, .int x2, .int v63] [] (fun _ => rfl) rfl (fun _ _ e9 => r_X11_carve (d + 4) sw _ _ _ _ _ e9) am_pl20 (fun _v s78 => ?_)
            refine sm_go 1 84 [.ref 0, .int (x1 + 1), .int x2, .int (s.1 36 (Int32.toNatClampNeg x2)), .int v63] [] (am_hp sw s78) (fun _ => rfl) ?_
            refine sm_fg [.ref 0, .int (x1 + 1), .int x2, .null, .null] ⟨Or.inr rfl, Or.inr rfl, Or.inr rfl, Or.inl rfl, Or.inl rfl, trivial⟩ ?_
            exact hj84 ((x1 + 1), s78)
      · refine sm_fg [.ref 0, .int x1, .int x2, .null, .null] ⟨Or.inr rfl, Or.inr rfl, Or.inr rfl, Or.inl rfl, Or.inl rfl, trivial⟩ ?_
        exact hj84 (x1, s)
    · refine sm_fg [.null, .int x1, .null, .null, .null] ⟨Or.inl rfl, Or.inr rfl, Or.inl rfl, Or.inl rfl, Or.inl rfl, trivial⟩ ?_
      exact sm_ex (fun _ _ h => h.2)

set_option maxRecDepth 20000 in
theorem r_X11_give (d : Nat) (sw : Bool) (s s' : am_S) (v : Int32) (e : f_X11_give sw s = some (v, s')) : am_Run (d + 7) 105 [.ref 0] (am_hp sw s) (am_cI v) (am_hp sw s') := by
  refine am_Run.of (M := mt_X11_give) (cvf := am_cI) (X := f_X11_give sw s) rfl rfl rfl (by simp) ?_ e
  unfold f_X11_give
  show am_Sm tb_X11_give 11 false none (some .int) (d + 6) (am_po am_cI sw) _ 0 [.ref 0, .null, .null, .null, .null] [] (am_hp sw s)
  refine sm_go 4 4 [.ref 0, .int (0), .int (0), .null, .null] [] (am_hp sw s) (fun _ => rfl) ?_
  refine sm_lp 90 (fun y4 => [.null, .int y4, .null, .null, .null]) (l_X11_give_4 d sw am_FU (0) (0) s) (fun _ _ _ h => h) am_po20 (fun y4 s4 => ?_)
  exact sm_ret 1 91 [.null, .int y4, .null, .null, .null] [.int y4] (am_hp sw s4) (some (.int y4)) (fun _ => rfl) rfl (fun _ _ h => h)

def f_X11_lot (s : am_S) (x1 : Int32) : Option (Int32 × am_S) := am_bd (f_X11_isWithin s x1 (0) (4)) (fun v3 s3 => if v3 = 0 then (some ((-1), s3)) else (am_bd (f_X3_addLot s3 x1) (fun v14 s14 => some (v14, s14))))
set_option maxRecDepth 20000 in
theorem r_X11_lot (d : Nat) (sw : Bool) (s s' : am_S) (x1 : Int32) (v : Int32) (e : f_X11_lot s x1 = some (v, s')) : am_Run (d + 2) 106 [.ref 0, .int x1] (am_hp sw s) (am_cI v) (am_hp sw s') := by
  refine am_Run.of (M := mt_X11_lot) (cvf := am_cI) (X := f_X11_lot s x1) rfl rfl rfl (by simp) ?_ e
  unfold f_X11_lot
  show am_Sm tb_X11_lot 11 false none (some .int) (d + 1) (am_po am_cI sw) _ 0 [.ref 0, .int x1] [] (am_hp sw s)
  refine sm_call (cvf := am_cI) 3 3 [.ref 0, .int x1] [.int (4), .int (0), .int x1] sw s 122 [.int x1, .int (0), .int (4)] [] (fun _ => rfl) rfl (fun _ _ e9 => r_X11_isWithin (d + 0) sw _ _ _ _ _ _ e9) am_po20 (fun v3 s3 => ?_)
  refine sm_br 1 20 9 [.ref 0, .int x1] [] (am_hp sw s3) (fun _ => rfl) (fun _ => ?_) (fun _ => ?_)
  · exact sm_ret 1 21 [.ref 0, .int x1] [.int (-1)] (am_hp sw s3) (some (.int (-1))) (fun _ => rfl) rfl (fun _ _ h => h)
  · refine sm_call (cvf := am_cI) 3 14 [.ref 0, .int x1] [.int x1, .ref 39] sw s3 37 [.ref 39, .int x1] [] (fun _ => rfl) rfl (fun _ _ e9 => r_X3_addLot (d + 0) sw _ _ _ _ e9) am_po20 (fun v14 s14 => ?_)
    exact sm_ret 1 21 [.ref 0, .int x1] [.int v14] (am_hp sw s14) (some (.int v14)) (fun _ => rfl) rfl (fun _ _ h => h)

def f_X11_paint_L46 : Nat → Int32 → Int32 → Int32 → Int32 → am_S → Option ((Int32 × am_S) ⊕ ((Int32) × am_S))
  | 0, _, _, _, _, _ => none
  | n + 1, x1, x3, x4, x5, s => if x3 < x5 then (some (.inr (x4, s))) else (am_gu (am_in x5 400) (am_jn (fun (p94 : Int32 × am_S) => f_X11_paint_L46 n x1 x3 p94.1 (x5 + 1) p94.2) (fun j94 => if (s.1 42 (Int32.toNatClampNeg x5)) = (-1) then (am_gu (am_in x5 400) (if (s.1 43 (Int32.toNatClampNeg x5)) = (-1) then (am_gu (am_in x5 400) (j94 ((x4 + 1), (am_wI s 42 (Int32.toNatClampNeg x5) x1)))) else (j94 (x4, s)))) else (j94 (x4, s)))))
def f_X11_paint (s : am_S) (x1 : Int32) (x2 : Int32) (x3 : Int32) : Option (Int32 × am_S) := am_bd (f_X3_hasLot s x1) (fun v5 s5 => if v5 = 0 then (some ((-1), s5)) else (am_bd (f_X3_has s5 x2) (fun v16 s16 => if v16 = 0 then (some ((-1), s16)) else (am_bd (f_X3_has s16 x3) (fun v27 s27 => if v27 = 0 then (some ((-1), s27)) else (if x3 < x2 then (some ((-1), s27)) else (am_lp (fun y => y) (f_X11_paint_L46 am_FU x1 x3 (0) x2 s27) (fun y46 s46 => some (y46, s46)))))))))
set_option maxRecDepth 20000 in
theorem l_X11_paint_46 (d : Nat) (sw : Bool) : ∀ (n : Nat) (x1 : Int32) (x3 : Int32) (x4 : Int32) (x5 : Int32) (s : am_S), am_Sm tb_X11_paint 11 false none (some .int) (d + 1) (am_pl am_cI sw (fun (v9 : Int32) s9 r h9 => am_Ex tb_X11_paint 11 false none (some .int) (d + 1) r h9 100 [.null, .null, .null, .null, .int v9, .null] [] (am_hp sw s9))) (f_X11_paint_L46 n x1 x3 x4 x5 s) 46 [.ref 0, .int x1, .null, .int x3, .int x4, .int x5] [] (am_hp sw s) := by
  intro n
  induction n with
  | zero => intro x1 x3 x4 x5 s; exact sm_no
  | succ n ih =>
    intro x1 x3 x4 x5 s
    rw [f_X11_paint_L46]
    refine sm_br 3 100 52 [.ref 0, .int x1, .null, .int x3, .int x4, .int x5] [] (am_hp sw s) (fun _ => rfl) (fun _ => ?_) (fun _ => ?_)
    · refine sm_fg [.null, .null, .null, .null, .int x4, .null] ⟨Or.inl rfl, Or.inl rfl, Or.inl rfl, Or.inl rfl, Or.inr rfl, Or.inl rfl, trivial⟩ ?_
      exact sm_ex (fun _ _ h => h.2)
    · refine sm_iald 4 61 [.ref 0, .int x1, .null, .int x3, .int x4, .int x5] [] (am_hp sw s) (i := x5) (c := 42) (fun _ => rfl) rfl rfl rfl rfl ?_
      refine sm_go 1 63 [.ref 0, .int x1, .null, .int x3, .int x4, .int x5] [.int (-1), .int (s.1 42 (Int32.toNatClampNeg x5))] (am_hp sw s) (fun _ => rfl) ?_
      refine sm_jn 94 (fun p94 => [.ref 0, .int x1, .null, .int x3, .int p94.1, .int x5]) (fun p94 => []) (fun p94 => (am_hp sw p94.2)) (fun p94 => ?_) (fun j94 hj94 => ?_)
      · refine sm_go 2 46 [.ref 0, .int x1, .null, .int x3, .int p94.1, .int (x5 + 1)] [] (am_hp sw p94.2) (fun _ => rfl) ?_
        exact ih x1 x3 p94.1 (x5 + 1) p94.2
      refine sm_br 1 66 94 [.ref 0, .int x1, .null, .int x3, .int x4, .int x5] [] (am_hp sw s) (fun _ => rfl) (fun _ => ?_) (fun _ => ?_)
      · refine sm_iald 4 75 [.ref 0, .int x1, .null, .int x3, .int x4, .int x5] [] (am_hp sw s) (i := x5) (c := 43) (fun _ => rfl) rfl rfl rfl rfl ?_
        refine sm_br 2 80 94 [.ref 0, .int x1, .null, .int x3, .int x4, .int x5] [] (am_hp sw s) (fun _ => rfl) (fun _ => ?_) (fun _ => ?_)
        · refine sm_iast 5 90 [.ref 0, .int x1, .null, .int x3, .int x4, .int x5] [] sw s (i := x5) (x := x1) (c := 42) (fun _ => rfl) rfl rfl rfl ?_
          refine sm_go 1 94 [.ref 0, .int x1, .null, .int x3, .int (x4 + 1), .int x5] [] (am_hp sw (am_wI s 42 (Int32.toNatClampNeg x5) x1)) (fun _ => rfl) ?_
          exact hj94 ((x4 + 1), (am_wI s 42 (Int32.toNatClampNeg x5) x1))
        · exact hj94 (x4, s)
      · exact hj94 (x4, s)

set_option maxRecDepth 20000 in
theorem r_X11_paint (d : Nat) (sw : Bool) (s s' : am_S) (x1 : Int32) (x2 : Int32) (x3 : Int32) (v : Int32) (e : f_X11_paint s x1 x2 x3 = some (v, s')) : am_Run (d + 2) 107 [.ref 0, .int x1, .int x2, .int x3] (am_hp sw s) (am_cI v) (am_hp sw s') := by
  refine am_Run.of (M := mt_X11_paint) (cvf := am_cI) (X := f_X11_paint s x1 x2 x3) rfl rfl rfl (by simp) ?_ e
  unfold f_X11_paint
  show am_Sm tb_X11_paint 11 false none (some .int) (d + 1) (am_po am_cI sw) _ 0 [.ref 0, .int x1, .int x2, .int x3, .null, .null] [] (am_hp sw s)
  refine sm_call (cvf := am_cI) 3 5 [.ref 0, .int x1, .int x2, .int x3, .null, .null] [.int x1, .ref 39] sw s 36 [.ref 39, .int x1] [] (fun _ => rfl) rfl (fun _ _ e9 => r_X3_hasLot (d + 0) sw _ _ _ _ e9) am_po20 (fun v5 s5 => ?_)
  refine sm_br 1 38 11 [.ref 0, .int x1, .int x2, .int x3, .null, .null] [] (am_hp sw s5) (fun _ => rfl) (fun _ => ?_) (fun _ => ?_)
  · exact sm_ret 1 39 [.ref 0, .int x1, .int x2, .int x3, .null, .null] [.int (-1)] (am_hp sw s5) (some (.int (-1))) (fun _ => rfl) rfl (fun _ _ h => h)
  · refine sm_call (cvf := am_cI) 3 16 [.ref 0, .int x1, .int x2, .int x3, .null, .null] [.int x2, .ref 39] sw s5 29 [.ref 39, .int x2] [] (fun _ => rfl) rfl (fun _ _ e9 => r_X3_has (d + 0) sw _ _ _ _ e9) am_po20 (fun v16 s16 => ?_)
    refine sm_br 1 38 22 [.ref 0, .int x1, .int x2, .int x3, .null, .null] [] (am_hp sw s16) (fun _ => rfl) (fun _ => ?_) (fun _ => ?_)
    · exact sm_ret 1 39 [.ref 0, .int x1, .int x2, .int x3, .null, .null] [.int (-1)] (am_hp sw s16) (some (.int (-1))) (fun _ => rfl) rfl (fun _ _ h => h)
    · refine sm_call (cvf := am_cI) 3 27 [.ref 0, .int x1, .int x2, .int x3, .null, .null] [.int x3, .ref 39] sw s16 29 [.ref 39, .int x3] [] (fun _ => rfl) rfl (fun _ _ e9 => r_X3_has (d + 0) sw _ _ _ _ e9) am_po20 (fun v27 s27 => ?_)
      refine sm_br 1 38 33 [.ref 0, .int x1, .int x2, .int x3, .null, .null] [] (am_hp sw s27) (fun _ => rfl) (fun _ => ?_) (fun _ => ?_)
      · exact sm_ret 1 39 [.ref 0, .int x1, .int x2, .int x3, .null, .null] [.int (-1)] (am_hp sw s27) (some (.int (-1))) (fun _ => rfl) rfl (fun _ _ h => h)
      · refine sm_br 3 38 40 [.ref 0, .int x1, .int x2, .int x3, .null, .null] [] (am_hp sw s27) (fun _ => rfl) (fun _ => ?_) (fun _ => ?_)
        · exact sm_ret 1 39 [.ref 0, .int x1, .int x2, .int x3, .null, .null] [.int (-1)] (am_hp sw s27) (some (.int (-1))) (fun _ => rfl) rfl (fun _ _ h => h)
        · refine sm_go 4 46 [.ref 0, .int x1, .int x2, .int x3, .int (0), .int x2] [] (am_hp sw s27) (fun _ => rfl) ?_
          refine sm_fg [.ref 0, .int x1, .null, .int x3, .int (0), .int x2] ⟨Or.inr rfl, Or.inr rfl, Or.inl rfl, Or.inr rfl, Or.inr rfl, Or.inr rfl, trivial⟩ ?_
          refine sm_lp 100 (fun y46 => [.null, .null, .null, .null, .int y46, .null]) (l_X11_paint_46 d sw am_FU x1 x3 (0) x2 s27) (fun _ _ _ h => h) am_po20 (fun y46 s46 => ?_)
          exact sm_ret 1 102 [.null, .null, .null, .null, .int y46, .null] [.int y46] (am_hp sw s46) (some (.int y46)) (fun _ => rfl) rfl (fun _ _ h => h)

def f_X11_order (s : am_S) (x1 : Int32) : Option (Int32 × am_S) := am_bd (f_X11_isWithin s x1 (0) (1000)) (fun v5 s5 => if v5 = 0 then (some ((-1), s5)) else (am_bd (f_X5_add s5 x1) (fun v16 s16 => some (v16, s16))))
set_option maxRecDepth 20000 in
theorem r_X11_order (d : Nat) (sw : Bool) (s s' : am_S) (x1 : Int32) (v : Int32) (e : f_X11_order s x1 = some (v, s')) : am_Run (d + 2) 108 [.ref 0, .int x1] (am_hp sw s) (am_cI v) (am_hp sw s') := by
  refine am_Run.of (M := mt_X11_order) (cvf := am_cI) (X := f_X11_order s x1) rfl rfl rfl (by simp) ?_ e
  unfold f_X11_order
  show am_Sm tb_X11_order 11 false none (some .int) (d + 1) (am_po am_cI sw) _ 0 [.ref 0, .int x1] [] (am_hp sw s)
  refine sm_call (cvf := am_cI) 3 5 [.ref 0, .int x1] [.int (1000), .int (0), .int x1] sw s 122 [.int x1, .int (0), .int (1000)] [] (fun _ => rfl) rfl (fun _ _ e9 => r_X11_isWithin (d + 0) sw _ _ _ _ _ _ e9) am_po20 (fun v5 s5 => ?_)
  refine sm_br 1 22 11 [.ref 0, .int x1] [] (am_hp sw s5) (fun _ => rfl) (fun _ => ?_) (fun _ => ?_)
  · exact sm_ret 1 23 [.ref 0, .int x1] [.int (-1)] (am_hp sw s5) (some (.int (-1))) (fun _ => rfl) rfl (fun _ _ h => h)
  · refine sm_call (cvf := am_cI) 3 16 [.ref 0, .int x1] [.int x1, .ref 46] sw s5 45 [.ref 46, .int x1] [] (fun _ => rfl) rfl (fun _ _ e9 => r_X5_add (d + 0) sw _ _ _ _ e9) am_po20 (fun v16 s16 => ?_)
    exact sm_ret 1 23 [.ref 0, .int x1] [.int v16] (am_hp sw s16) (some (.int v16)) (fun _ => rfl) rfl (fun _ _ h => h)

def f_X11_isColourOrNone (s : am_S) (x0 : Int32) : Option (Int32 × am_S) := if x0 = (-1) then (some ((1), s)) else (am_bd (f_X11_isWithin s x0 (0) (4)) (fun v8 s8 => if v8 = 0 then (some ((0), s8)) else (some ((1), s8))))
set_option maxRecDepth 20000 in
theorem r_X11_isColourOrNone (d : Nat) (sw : Bool) (s s' : am_S) (x0 : Int32) (v : Int32) (e : f_X11_isColourOrNone s x0 = some (v, s')) : am_Run (d + 2) 124 [.int x0] (am_hp sw s) (am_cI v) (am_hp sw s') := by
  refine am_Run.of (M := mt_X11_isColourOrNone) (cvf := am_cI) (X := f_X11_isColourOrNone s x0) rfl rfl rfl (by simp) ?_ e
  unfold f_X11_isColourOrNone
  show am_Sm tb_X11_isColourOrNone 11 false none (some .boolean) (d + 1) (am_po am_cI sw) _ 0 [.int x0] [] (am_hp sw s)
  refine sm_br 3 14 5 [.int x0] [] (am_hp sw s) (fun _ => rfl) (fun _ => ?_) (fun _ => ?_)
  · exact sm_ret 2 19 [.int x0] [.int (1)] (am_hp sw s) (some (.int (1))) (fun _ => rfl) rfl (fun _ _ h => h)
  · refine sm_call (cvf := am_cI) 3 8 [.int x0] [.int (4), .int (0), .int x0] sw s 122 [.int x0, .int (0), .int (4)] [] (fun _ => rfl) rfl (fun _ _ e9 => r_X11_isWithin (d + 0) sw _ _ _ _ _ _ e9) am_po20 (fun v8 s8 => ?_)
    refine sm_br 1 18 14 [.int x0] [] (am_hp sw s8) (fun _ => rfl) (fun _ => ?_) (fun _ => ?_)
    · exact sm_ret 1 19 [.int x0] [.int (0)] (am_hp sw s8) (some (.int (0))) (fun _ => rfl) rfl (fun _ _ h => h)
    · exact sm_ret 2 19 [.int x0] [.int (1)] (am_hp sw s8) (some (.int (1))) (fun _ => rfl) rfl (fun _ _ h => h)

def f_X11_need (s : am_S) (x1 : Int32) (x2 : Int32) (x3 : Int32) (x4 : Int32) : Option (Int32 × am_S) := am_bd (f_X5_has s x1) (fun v5 s5 => if v5 = 0 then (some ((-1), s5)) else (am_gu (am_in x1 8) (if (s5.1 48 (Int32.toNatClampNeg x1)) = 0 then (am_bd (f_X11_isWithin s5 x2 (1) (20)) (fun v29 s29 => if v29 = 0 then (some ((-1), s29)) else (am_bd (f_X4_has s29 x3) (fun v40 s40 => if v40 = 0 then (some ((-1), s40)) else (am_bd (f_X11_isColourOrNone s40 x4) (fun v48 s48 => if v48 = 0 then (some ((-1), s48)) else (am_bd (f_X5_addNeed s48 x1 x2 x3 x4) (fun v65 s65 => some (v65, s65))))))))) else (some ((-1), s5)))))
set_option maxRecDepth 20000 in
theorem r_X11_need (d : Nat) (sw : Bool) (s s' : am_S) (x1 : Int32) (x2 : Int32) (x3 : Int32) (x4 : Int32) (v : Int32) (e : f_X11_need s x1 x2 x3 x4 = some (v, s')) : am_Run (d + 3) 109 [.ref 0, .int x1, .int x2, .int x3, .int x4] (am_hp sw s) (am_cI v) (am_hp sw s') := by
  refine am_Run.of (M := mt_X11_need) (cvf := am_cI) (X := f_X11_need s x1 x2 x3 x4) rfl rfl rfl (by simp) ?_ e
  unfold f_X11_need
  show am_Sm tb_X11_need 11 false none (some .int) (d + 2) (am_po am_cI sw) _ 0 [.ref 0, .int x1, .int x2, .int x3, .int x4] [] (am_hp sw s)
  refine sm_call (cvf := am_cI) 3 5 [.ref 0, .int x1, .int x2, .int x3, .int x4] [.int x1, .ref 46] sw s 44 [.ref 46, .int x1] [] (fun _ => rfl) rfl (fun _ _ e9 => r_X5_has (d + 1) sw _ _ _ _ e9) am_po20 (fun v5 s5 => ?_)
  refine sm_br 1 23 11 [.ref 0, .int x1, .int x2, .int x3, .int x4] [] (am_hp sw s5) (fun _ => rfl) (fun _ => ?_) (fun _ => ?_)
  · exact sm_ret 1 24 [.ref 0, .int x1, .int x2, .int x3, .int x4] [.int (-1)] (am_hp sw s5) (some (.int (-1))) (fun _ => rfl) rfl (fun _ _ h => h)
  · refine sm_iald 4 19 [.ref 0, .int x1, .int x2, .int x3, .int x4] [] (am_hp sw s5) (i := x1) (c := 48) (fun _ => rfl) rfl rfl rfl rfl ?_
    refine sm_br 1 25 23 [.ref 0, .int x1, .int x2, .int x3, .int x4] [] (am_hp sw s5) (fun _ => rfl) (fun _ => ?_) (fun _ => ?_)
    · refine sm_call (cvf := am_cI) 3 29 [.ref 0, .int x1, .int x2, .int x3, .int x4] [.int (20), .int (1), .int x2] sw s5 122 [.int x2, .int (1), .int (20)] [] (fun _ => rfl) rfl (fun _ _ e9 => r_X11_isWithin (d + 1) sw _ _ _ _ _ _ e9) am_po20 (fun v29 s29 => ?_)
      refine sm_br 1 54 35 [.ref 0, .int x1, .int x2, .int x3, .int x4] [] (am_hp sw s29) (fun _ => rfl) (fun _ => ?_) (fun _ => ?_)
      · exact sm_ret 1 55 [.ref 0, .int x1, .int x2, .int x3, .int x4] [.int (-1)] (am_hp sw s29) (some (.int (-1))) (fun _ => rfl) rfl (fun _ _ h => h)
      · refine sm_call (cvf := am_cI) 3 40 [.ref 0, .int x1, .int x2, .int x3, .int x4] [.int x3, .ref 17] sw s29 40 [.ref 17, .int x3] [] (fun _ => rfl) rfl (fun _ _ e9 => r_X4_has (d + 1) sw _ _ _ _ e9) am_po20 (fun v40 s40 => ?_)
        refine sm_br 1 54 46 [.ref 0, .int x1, .int x2, .int x3, .int x4] [] (am_hp sw s40) (fun _ => rfl) (fun _ => ?_) (fun _ => ?_)
        · exact sm_ret 1 55 [.ref 0, .int x1, .int x2, .int x3, .int x4] [.int (-1)] (am_hp sw s40) (some (.int (-1))) (fun _ => rfl) rfl (fun _ _ h => h)
        · refine sm_call (cvf := am_cI) 1 48 [.ref 0, .int x1, .int x2, .int x3, .int x4] [.int x4] sw s40 124 [.int x4] [] (fun _ => rfl) rfl (fun _ _ e9 => r_X11_isColourOrNone (d + 0) sw _ _ _ _ e9) am_po20 (fun v48 s48 => ?_)
          refine sm_br 1 54 56 [.ref 0, .int x1, .int x2, .int x3, .int x4] [] (am_hp sw s48) (fun _ => rfl) (fun _ => ?_) (fun _ => ?_)
          · exact sm_ret 1 55 [.ref 0, .int x1, .int x2, .int x3, .int x4] [.int (-1)] (am_hp sw s48) (some (.int (-1))) (fun _ => rfl) rfl (fun _ _ h => h)
          · refine sm_call (cvf := am_cI) 6 65 [.ref 0, .int x1, .int x2, .int x3, .int x4] [.int x4, .int x3, .int x2, .int x1, .ref 46] sw s48 46 [.ref 46, .int x1, .int x2, .int x3, .int x4] [] (fun _ => rfl) rfl (fun _ _ e9 => r_X5_addNeed (d + 1) sw _ _ _ _ _ _ _ e9) am_po20 (fun v65 s65 => ?_)
            exact sm_ret 0 68 [.ref 0, .int x1, .int x2, .int x3, .int x4] [.int v65] (am_hp sw s65) (some (.int v65)) (fun _ => rfl) rfl (fun _ _ h => h)
    · exact sm_ret 1 24 [.ref 0, .int x1, .int x2, .int x3, .int x4] [.int (-1)] (am_hp sw s5) (some (.int (-1))) (fun _ => rfl) rfl (fun _ _ h => h)

def f_X11_payFor_L2 (sw : Bool) : Nat → Int32 → Int32 → am_S → Option ((Unit × am_S) ⊕ ((Unit) × am_S))
  | 0, _, _, _ => none
  | n + 1, x1, x2, s => if x2 < (s.1 39 1) then (am_gu (am_in x2 400) (am_bd (f_X5_isIn s x1 (s.1 43 (Int32.toNatClampNeg x2))) (fun v23 s23 => am_jn (fun (p90 : am_S) => f_X11_payFor_L2 sw n x1 (x2 + 1) p90) (fun j90 => if v23 = 0 then (j90 s23) else (am_bd (f_X3_familyOf s23 x2) (fun v34 s34 => am_bd (f_X3_kindOf s34 x2) (fun v45 s45 => am_bd (f_X11_tellFacts s45 v34 v45) (fun (_ : Unit) s48 => am_bd (f_X8_firstValue (am_ru sw) s48 (5)) (fun v60 s60 => am_gu (am_in x2 400) (am_gu (am_in v34 8) (am_gu (am_in v34 8) (j90 (am_wI (am_wI s60 44 (Int32.toNatClampNeg x2) v60) 24 (Int32.toNatClampNeg v34) ((s60.1 24 (Int32.toNatClampNeg v34)) + v60)))))))))))))) else (some (.inr ((), s)))
def f_X11_payFor (sw : Bool) (s : am_S) (x1 : Int32) : Option (Unit × am_S) := am_lp (fun y => y) (f_X11_payFor_L2 sw am_FU x1 (0) s) (fun (_ : Unit) s2 => some ((), s2))
set_option maxRecDepth 20000 in
theorem l_X11_payFor_2_f (d : Nat) (_w : Bool) : ∀ (n : Nat) (x1 : Int32) (x2 : Int32) (s : am_S), am_Sm tb_X11_payFor 11 false none none (d + 5) (am_pl am_cU false (fun (v9 : Unit) s9 r h9 => am_Ex tb_X11_payFor 11 false none none (d + 5) r h9 96 [.null, .null, .null, .null, .null] [] (am_hp false s9))) (f_X11_payFor_L2 false n x1 x2 s) 2 [.ref 0, .int x1, .int x2, .null, .null] [] (am_hp false s) := by
  intro n
  induction n with
  | zero => intro x1 x2 s; exact sm_no
  | succ n ih =>
    intro x1 x2 s
    rw [f_X11_payFor_L2]
    refine sm_br 5 13 96 [.ref 0, .int x1, .int x2, .null, .null] [] (am_hp false s) (fun _ => rfl) (fun _ => ?_) (fun _ => ?_)
    · refine sm_iald 5 22 [.ref 0, .int x1, .int x2, .null, .null] [.int x1] (am_hp false s) (i := x2) (c := 43) (fun _ => rfl) rfl rfl rfl rfl ?_
      refine sm_call (cvf := am_cI) 0 23 [.ref 0, .int x1, .int x2, .null, .null] [.int (s.1 43 (Int32.toNatClampNeg x2)), .int x1] false s 43 [.int x1, .int (s.1 43 (Int32.toNatClampNeg x2))] [] (fun _ => rfl) rfl (fun _ _ e9 => r_X5_isIn (d + 4) false _ _ _ _ _ e9) am_pl20 (fun v23 s23 => ?_)
      refine sm_jn 90 (fun p90 => [.ref 0, .int x1, .int x2, .null, .null]) (fun p90 => []) (fun p90 => (am_hp false p90)) (fun p90 => ?_) (fun j90 hj90 => ?_)
      · refine sm_go 2 2 [.ref 0, .int x1, .int (x2 + 1), .null, .null] [] (am_hp false p90) (fun _ => rfl) ?_
        exact ih x1 (x2 + 1) p90
      refine sm_br 1 90 29 [.ref 0, .int x1, .int x2, .null, .null] [] (am_hp false s23) (fun _ => rfl) (fun _ => ?_) (fun _ => ?_)
      · exact hj90 s23
      · refine sm_call (cvf := am_cI) 3 34 [.ref 0, .int x1, .int x2, .null, .null] [.int x2, .ref 39] false s23 32 [.ref 39, .int x2] [] (fun _ => rfl) rfl (fun _ _ e9 => r_X3_familyOf (d + 4) false _ _ _ _ e9) am_pl20 (fun v34 s34 => ?_)
        refine sm_call (cvf := am_cI) 6 45 [.ref 0, .int x1, .int x2, .int v34, .null] [.int x2, .ref 39, .int v34, .ref 0] false s34 31 [.ref 39, .int x2] [.int v34, .ref 0] (fun _ => rfl) rfl (fun _ _ e9 => r_X3_kindOf (d + 4) false _ _ _ _ e9) am_pl20 (fun v45 s45 => ?_)
        refine sm_call (cvf := am_cU) 0 48 [.ref 0, .int x1, .int x2, .int v34, .null] [.int v45, .int v34, .ref 0] false s45 129 [.ref 0, .int v34, .int v45] [] (fun _ => rfl) rfl (fun _ _ e9 => r_X11_tellFacts (d + 3) false _ _ _ _ _ e9) am_pl20 (fun _v s48 => ?_)
        refine sm_call (cvf := am_cI) 5 60 [.ref 0, .int x1, .int x2, .int v34, .null] [.ref 57, .int (5), .ref 5] false s48 67 [.ref 5, .int (5), .ref 57] [] (fun _ => rfl) rfl (fun _ _ e9 => r_X8_firstValue_5 (d + 0) false _ _ _ _ e9) am_pl20 (fun v60 s60 => ?_)
        refine sm_iast 6 75 [.ref 0, .int x1, .int x2, .int v34, .int v60] [] false s60 (i := x2) (x := v60) (c := 44) (fun _ => rfl) rfl rfl rfl ?_
        refine sm_iald 5 85 [.ref 0, .int x1, .int x2, .int v34, .int v60] [.int v34, .ref 24] (am_hp false (am_wI s60 44 (Int32.toNatClampNeg x2) v60)) (i := v34) (c := 24) (fun _ => rfl) rfl rfl rfl rfl ?_
        refine sm_iast 2 89 [.ref 0, .int x1, .int x2, .int v34, .int v60] [] false (am_wI s60 44 (Int32.toNatClampNeg x2) v60) (i := v34) (x := ((s60.1 24 (Int32.toNatClampNeg v34)) + v60)) (c := 24) (fun _ => rfl) rfl rfl rfl ?_
        refine sm_fg [.ref 0, .int x1, .int x2, .null, .null] ⟨Or.inr rfl, Or.inr rfl, Or.inr rfl, Or.inl rfl, Or.inl rfl, trivial⟩ ?_
        exact hj90 (am_wI (am_wI s60 44 (Int32.toNatClampNeg x2) v60) 24 (Int32.toNatClampNeg v34) ((s60.1 24 (Int32.toNatClampNeg v34)) + v60))
    · refine sm_fg [.null, .null, .null, .null, .null] ⟨Or.inl rfl, Or.inl rfl, Or.inl rfl, Or.inl rfl, Or.inl rfl, trivial⟩ ?_
      exact sm_ex (fun _ _ h => h.2)

set_option maxRecDepth 20000 in
theorem r_X11_payFor_f (d : Nat) (_w : Bool) (s s' : am_S) (x1 : Int32) (v : Unit) (e : f_X11_payFor false s x1 = some (v, s')) : am_Run (d + 6) 130 [.ref 0, .int x1] (am_hp false s) (am_cU v) (am_hp false s') := by
  refine am_Run.of (M := mt_X11_payFor) (cvf := am_cU) (X := f_X11_payFor false s x1) rfl rfl rfl (by simp) ?_ e
  unfold f_X11_payFor
  show am_Sm tb_X11_payFor 11 false none none (d + 5) (am_po am_cU false) _ 0 [.ref 0, .int x1, .null, .null, .null] [] (am_hp false s)
  refine sm_go 2 2 [.ref 0, .int x1, .int (0), .null, .null] [] (am_hp false s) (fun _ => rfl) ?_
  refine sm_lp 96 (fun _y => [.null, .null, .null, .null, .null]) (l_X11_payFor_2_f d false am_FU x1 (0) s) (fun _ _ _ h => h) am_po20 (fun _y s2 => ?_)
  exact sm_ret 0 96 [.null, .null, .null, .null, .null] [] (am_hp false s2) none (fun _ => rfl) rfl (fun _ _ h => h)

set_option maxRecDepth 20000 in
theorem l_X11_payFor_2_t (d : Nat) (_w : Bool) : ∀ (n : Nat) (x1 : Int32) (x2 : Int32) (s : am_S), am_Sm tb_X11_payFor 11 false none none (d + 5) (am_pl am_cU true (fun (v9 : Unit) s9 r h9 => am_Ex tb_X11_payFor 11 false none none (d + 5) r h9 96 [.null, .null, .null, .null, .null] [] (am_hp true s9))) (f_X11_payFor_L2 true n x1 x2 s) 2 [.ref 0, .int x1, .int x2, .null, .null] [] (am_hp true s) := by
  intro n
  induction n with
  | zero => intro x1 x2 s; exact sm_no
  | succ n ih =>
    intro x1 x2 s
    rw [f_X11_payFor_L2]
    refine sm_br 5 13 96 [.ref 0, .int x1, .int x2, .null, .null] [] (am_hp true s) (fun _ => rfl) (fun _ => ?_) (fun _ => ?_)
    · refine sm_iald 5 22 [.ref 0, .int x1, .int x2, .null, .null] [.int x1] (am_hp true s) (i := x2) (c := 43) (fun _ => rfl) rfl rfl rfl rfl ?_
      refine sm_call (cvf := am_cI) 0 23 [.ref 0, .int x1, .int x2, .null, .null] [.int (s.1 43 (Int32.toNatClampNeg x2)), .int x1] true s 43 [.int x1, .int (s.1 43 (Int32.toNatClampNeg x2))] [] (fun _ => rfl) rfl (fun _ _ e9 => r_X5_isIn (d + 4) true _ _ _ _ _ e9) am_pl20 (fun v23 s23 => ?_)
      refine sm_jn 90 (fun p90 => [.ref 0, .int x1, .int x2, .null, .null]) (fun p90 => []) (fun p90 => (am_hp true p90)) (fun p90 => ?_) (fun j90 hj90 => ?_)
      · refine sm_go 2 2 [.ref 0, .int x1, .int (x2 + 1), .null, .null] [] (am_hp true p90) (fun _ => rfl) ?_
        exact ih x1 (x2 + 1) p90
      refine sm_br 1 90 29 [.ref 0, .int x1, .int x2, .null, .null] [] (am_hp true s23) (fun _ => rfl) (fun _ => ?_) (fun _ => ?_)
      · exact hj90 s23
      · refine sm_call (cvf := am_cI) 3 34 [.ref 0, .int x1, .int x2, .null, .null] [.int x2, .ref 39] true s23 32 [.ref 39, .int x2] [] (fun _ => rfl) rfl (fun _ _ e9 => r_X3_familyOf (d + 4) true _ _ _ _ e9) am_pl20 (fun v34 s34 => ?_)
        refine sm_call (cvf := am_cI) 6 45 [.ref 0, .int x1, .int x2, .int v34, .null] [.int x2, .ref 39, .int v34, .ref 0] true s34 31 [.ref 39, .int x2] [.int v34, .ref 0] (fun _ => rfl) rfl (fun _ _ e9 => r_X3_kindOf (d + 4) true _ _ _ _ e9) am_pl20 (fun v45 s45 => ?_)
        refine sm_call (cvf := am_cU) 0 48 [.ref 0, .int x1, .int x2, .int v34, .null] [.int v45, .int v34, .ref 0] true s45 129 [.ref 0, .int v34, .int v45] [] (fun _ => rfl) rfl (fun _ _ e9 => r_X11_tellFacts (d + 3) true _ _ _ _ _ e9) am_pl20 (fun _v s48 => ?_)
        refine sm_call (cvf := am_cI) 5 60 [.ref 0, .int x1, .int x2, .int v34, .null] [.ref 57, .int (5), .ref 11] true s48 67 [.ref 11, .int (5), .ref 57] [] (fun _ => rfl) rfl (fun _ _ e9 => r_X8_firstValue_11 (d + 0) true _ _ _ _ e9) am_pl20 (fun v60 s60 => ?_)
        refine sm_iast 6 75 [.ref 0, .int x1, .int x2, .int v34, .int v60] [] true s60 (i := x2) (x := v60) (c := 44) (fun _ => rfl) rfl rfl rfl ?_
        refine sm_iald 5 85 [.ref 0, .int x1, .int x2, .int v34, .int v60] [.int v34, .ref 24] (am_hp true (am_wI s60 44 (Int32.toNatClampNeg x2) v60)) (i := v34) (c := 24) (fun _ => rfl) rfl rfl rfl rfl ?_
        refine sm_iast 2 89 [.ref 0, .int x1, .int x2, .int v34, .int v60] [] true (am_wI s60 44 (Int32.toNatClampNeg x2) v60) (i := v34) (x := ((s60.1 24 (Int32.toNatClampNeg v34)) + v60)) (c := 24) (fun _ => rfl) rfl rfl rfl ?_
        refine sm_fg [.ref 0, .int x1, .int x2, .null, .null] ⟨Or.inr rfl, Or.inr rfl, Or.inr rfl, Or.inl rfl, Or.inl rfl, trivial⟩ ?_
        exact hj90 (am_wI (am_wI s60 44 (Int32.toNatClampNeg x2) v60) 24 (Int32.toNatClampNeg v34) ((s60.1 24 (Int32.toNatClampNeg v34)) + v60))
    · refine sm_fg [.null, .null, .null, .null, .null] ⟨Or.inl rfl, Or.inl rfl, Or.inl rfl, Or.inl rfl, Or.inl rfl, trivial⟩ ?_
      exact sm_ex (fun _ _ h => h.2)

set_option maxRecDepth 20000 in
theorem r_X11_payFor_t (d : Nat) (_w : Bool) (s s' : am_S) (x1 : Int32) (v : Unit) (e : f_X11_payFor true s x1 = some (v, s')) : am_Run (d + 6) 130 [.ref 0, .int x1] (am_hp true s) (am_cU v) (am_hp true s') := by
  refine am_Run.of (M := mt_X11_payFor) (cvf := am_cU) (X := f_X11_payFor true s x1) rfl rfl rfl (by simp) ?_ e
  unfold f_X11_payFor
  show am_Sm tb_X11_payFor 11 false none none (d + 5) (am_po am_cU true) _ 0 [.ref 0, .int x1, .null, .null, .null] [] (am_hp true s)
  refine sm_go 2 2 [.ref 0, .int x1, .int (0), .null, .null] [] (am_hp true s) (fun _ => rfl) ?_
  refine sm_lp 96 (fun _y => [.null, .null, .null, .null, .null]) (l_X11_payFor_2_t d true am_FU x1 (0) s) (fun _ _ _ h => h) am_po20 (fun _y s2 => ?_)
  exact sm_ret 0 96 [.null, .null, .null, .null, .null] [] (am_hp true s2) none (fun _ => rfl) rfl (fun _ _ h => h)

theorem r_X11_payFor (d : Nat) (sw : Bool) (s s' : am_S) (x1 : Int32) (v : Unit) (e : f_X11_payFor sw s x1 = some (v, s')) : am_Run (d + 6) 130 [.ref 0, .int x1] (am_hp sw s) (am_cU v) (am_hp sw s') := by
  cases sw
  · exact r_X11_payFor_f d false s s' x1 v e
  · exact r_X11_payFor_t d true s s' x1 v e
def f_X11_box (sw : Bool) (s : am_S) : Option (Int32 × am_S) := am_bd (f_X0_bestSet s) (fun v4 s4 => am_bd (f_X5_markBoxed s4 v4 (s4.1 0 5)) (fun (_ : Unit) s17 => am_bd (f_X0_fill s17 v4) (fun (_ : Unit) s25 => am_bd (f_X11_payFor sw s25 v4) (fun (_ : Unit) s30 => am_bd (f_X5_worthOf s30 v4) (fun v38 s38 => some (v38, s38))))))
set_option maxRecDepth 20000 in
theorem r_X11_box (d : Nat) (sw : Bool) (s s' : am_S) (v : Int32) (e : f_X11_box sw s = some (v, s')) : am_Run (d + 7) 110 [.ref 0] (am_hp sw s) (am_cI v) (am_hp sw s') := by
  refine am_Run.of (M := mt_X11_box) (cvf := am_cI) (X := f_X11_box sw s) rfl rfl rfl (by simp) ?_ e
  unfold f_X11_box
  show am_Sm tb_X11_box 11 false none (some .int) (d + 6) (am_po am_cI sw) _ 0 [.ref 0, .null] [] (am_hp sw s)
  refine sm_call (cvf := am_cI) 2 4 [.ref 0, .null] [.ref 54] sw s 1 [.ref 54] [] (fun _ => rfl) rfl (fun _ _ e9 => r_X0_bestSet (d + 2) sw _ _  _ e9) am_po20 (fun v4 s4 => ?_)
  refine sm_call (cvf := am_cU) 6 17 [.ref 0, .int v4] [.int (s4.1 0 5), .int v4, .ref 46] sw s4 50 [.ref 46, .int v4, .int (s4.1 0 5)] [] (fun _ => rfl) rfl (fun _ _ e9 => r_X5_markBoxed (d + 4) sw _ _ _ _ _ e9) am_po20 (fun _v s17 => ?_)
  refine sm_call (cvf := am_cU) 3 25 [.ref 0, .int v4] [.int v4, .ref 54] sw s17 2 [.ref 54, .int v4] [] (fun _ => rfl) rfl (fun _ _ e9 => r_X0_fill (d + 1) sw _ _ _ _ e9) am_po20 (fun _v s25 => ?_)
  refine sm_call (cvf := am_cU) 2 30 [.ref 0, .int v4] [.int v4, .ref 0] sw s25 130 [.ref 0, .int v4] [] (fun _ => rfl) rfl (fun _ _ e9 => r_X11_payFor (d + 0) sw _ _ _ _ e9) am_po20 (fun _v s30 => ?_)
  refine sm_call (cvf := am_cI) 3 38 [.ref 0, .int v4] [.int v4, .ref 46] sw s30 49 [.ref 46, .int v4] [] (fun _ => rfl) rfl (fun _ _ e9 => r_X5_worthOf (d + 4) sw _ _ _ _ e9) am_po20 (fun v38 s38 => ?_)
  exact sm_ret 0 41 [.ref 0, .int v4] [.int v38] (am_hp sw s38) (some (.int v38)) (fun _ => rfl) rfl (fun _ _ h => h)

def f_X11_unbox (s : am_S) (x1 : Int32) : Option (Unit × am_S) := am_bd (f_X3_familyOf s x1) (fun v12 s12 => am_gu (am_in v12 8) (am_gu (am_in x1 400) (am_gu (am_in v12 8) (am_gu (am_in x1 400) (am_gu (am_in x1 400) (some ((), (am_wI (am_wI (am_wI s12 24 (Int32.toNatClampNeg v12) ((s12.1 24 (Int32.toNatClampNeg v12)) - (s12.1 44 (Int32.toNatClampNeg x1)))) 44 (Int32.toNatClampNeg x1) (0)) 43 (Int32.toNatClampNeg x1) (-1)))))))))
set_option maxRecDepth 20000 in
theorem r_X11_unbox (d : Nat) (sw : Bool) (s s' : am_S) (x1 : Int32) (v : Unit) (e : f_X11_unbox s x1 = some (v, s')) : am_Run (d + 2) 131 [.ref 0, .int x1] (am_hp sw s) (am_cU v) (am_hp sw s') := by
  refine am_Run.of (M := mt_X11_unbox) (cvf := am_cU) (X := f_X11_unbox s x1) rfl rfl rfl (by simp) ?_ e
  unfold f_X11_unbox
  show am_Sm tb_X11_unbox 11 false none none (d + 1) (am_po am_cU sw) _ 0 [.ref 0, .int x1] [] (am_hp sw s)
  refine sm_call (cvf := am_cI) 6 12 [.ref 0, .int x1] [.int x1, .ref 39, .ref 24] sw s 32 [.ref 39, .int x1] [.ref 24] (fun _ => rfl) rfl (fun _ _ e9 => r_X3_familyOf (d + 0) sw _ _ _ _ e9) am_po20 (fun v12 s12 => ?_)
  refine sm_iald 1 16 [.ref 0, .int x1] [.int v12, .ref 24] (am_hp sw s12) (i := v12) (c := 24) (fun _ => rfl) rfl rfl rfl rfl ?_
  refine sm_iald 4 25 [.ref 0, .int x1] [.int (s12.1 24 (Int32.toNatClampNeg v12)), .int v12, .ref 24] (am_hp sw s12) (i := x1) (c := 44) (fun _ => rfl) rfl rfl rfl rfl ?_
  refine sm_iast 1 27 [.ref 0, .int x1] [] sw s12 (i := v12) (x := ((s12.1 24 (Int32.toNatClampNeg v12)) - (s12.1 44 (Int32.toNatClampNeg x1)))) (c := 24) (fun _ => rfl) rfl rfl rfl ?_
  refine sm_iast 5 37 [.ref 0, .int x1] [] sw (am_wI s12 24 (Int32.toNatClampNeg v12) ((s12.1 24 (Int32.toNatClampNeg v12)) - (s12.1 44 (Int32.toNatClampNeg x1)))) (i := x1) (x := (0)) (c := 44) (fun _ => rfl) rfl rfl rfl ?_
  refine sm_iast 5 47 [.ref 0, .int x1] [] sw (am_wI (am_wI s12 24 (Int32.toNatClampNeg v12) ((s12.1 24 (Int32.toNatClampNeg v12)) - (s12.1 44 (Int32.toNatClampNeg x1)))) 44 (Int32.toNatClampNeg x1) (0)) (i := x1) (x := (-1)) (c := 43) (fun _ => rfl) rfl rfl rfl ?_
  exact sm_ret 0 48 [.ref 0, .int x1] [] (am_hp sw (am_wI (am_wI (am_wI s12 24 (Int32.toNatClampNeg v12) ((s12.1 24 (Int32.toNatClampNeg v12)) - (s12.1 44 (Int32.toNatClampNeg x1)))) 44 (Int32.toNatClampNeg x1) (0)) 43 (Int32.toNatClampNeg x1) (-1))) none (fun _ => rfl) rfl (fun _ _ h => h)

def f_X11_refuse_L40 : Nat → Int32 → Int32 → Int32 → am_S → Option ((Int32 × am_S) ⊕ ((Int32) × am_S))
  | 0, _, _, _, _ => none
  | n + 1, x1, x2, x3, s => if x3 < (s.1 39 1) then (am_gu (am_in x3 400) (am_jn (fun (p72 : Int32 × am_S) => f_X11_refuse_L40 n x1 p72.1 (x3 + 1) p72.2) (fun j72 => if (s.1 43 (Int32.toNatClampNeg x3)) = x1 then (am_bd (f_X11_unbox s x3) (fun (_ : Unit) s66 => j72 ((x2 + 1), s66))) else (j72 (x2, s))))) else (some (.inr (x2, s)))
def f_X11_refuse (s : am_S) (x1 : Int32) : Option (Int32 × am_S) := am_bd (f_X5_has s x1) (fun v5 s5 => if v5 = 0 then (some ((-1), s5)) else (am_gu (am_in x1 8) (if (s5.1 48 (Int32.toNatClampNeg x1)) = 1 then (am_gu (am_in x1 8) (am_lp (fun y => y) (f_X11_refuse_L40 am_FU x1 (0) (0) (am_wI s5 48 (Int32.toNatClampNeg x1) (2))) (fun y40 s40 => some (y40, s40)))) else (some ((-1), s5)))))
set_option maxRecDepth 20000 in
theorem l_X11_refuse_40 (d : Nat) (sw : Bool) : ∀ (n : Nat) (x1 : Int32) (x2 : Int32) (x3 : Int32) (s : am_S), am_Sm tb_X11_refuse 11 false none (some .int) (d + 2) (am_pl am_cI sw (fun (v9 : Int32) s9 r h9 => am_Ex tb_X11_refuse 11 false none (some .int) (d + 2) r h9 78 [.null, .null, .int v9, .null] [] (am_hp sw s9))) (f_X11_refuse_L40 n x1 x2 x3 s) 40 [.ref 0, .int x1, .int x2, .int x3] [] (am_hp sw s) := by
  intro n
  induction n with
  | zero => intro x1 x2 x3 s; exact sm_no
  | succ n ih =>
    intro x1 x2 x3 s
    rw [f_X11_refuse_L40]
    refine sm_br 5 51 78 [.ref 0, .int x1, .int x2, .int x3] [] (am_hp sw s) (fun _ => rfl) (fun _ => ?_) (fun _ => ?_)
    · refine sm_iald 4 59 [.ref 0, .int x1, .int x2, .int x3] [] (am_hp sw s) (i := x3) (c := 43) (fun _ => rfl) rfl rfl rfl rfl ?_
      refine sm_go 1 61 [.ref 0, .int x1, .int x2, .int x3] [.int x1, .int (s.1 43 (Int32.toNatClampNeg x3))] (am_hp sw s) (fun _ => rfl) ?_
      refine sm_jn 72 (fun p72 => [.ref 0, .int x1, .int p72.1, .int x3]) (fun p72 => []) (fun p72 => (am_hp sw p72.2)) (fun p72 => ?_) (fun j72 hj72 => ?_)
      · refine sm_go 2 40 [.ref 0, .int x1, .int p72.1, .int (x3 + 1)] [] (am_hp sw p72.2) (fun _ => rfl) ?_
        exact ih x1 p72.1 (x3 + 1) p72.2
      refine sm_br 1 64 72 [.ref 0, .int x1, .int x2, .int x3] [] (am_hp sw s) (fun _ => rfl) (fun _ => ?_) (fun _ => ?_)
      · refine sm_call (cvf := am_cU) 2 66 [.ref 0, .int x1, .int x2, .int x3] [.int x3, .ref 0] sw s 131 [.ref 0, .int x3] [] (fun _ => rfl) rfl (fun _ _ e9 => r_X11_unbox (d + 0) sw _ _ _ _ e9) am_pl20 (fun _v s66 => ?_)
        refine sm_go 1 72 [.ref 0, .int x1, .int (x2 + 1), .int x3] [] (am_hp sw s66) (fun _ => rfl) ?_
        exact hj72 ((x2 + 1), s66)
      · exact hj72 (x2, s)
    · refine sm_fg [.null, .null, .int x2, .null] ⟨Or.inl rfl, Or.inl rfl, Or.inr rfl, Or.inl rfl, trivial⟩ ?_
      exact sm_ex (fun _ _ h => h.2)

set_option maxRecDepth 20000 in
theorem r_X11_refuse (d : Nat) (sw : Bool) (s s' : am_S) (x1 : Int32) (v : Int32) (e : f_X11_refuse s x1 = some (v, s')) : am_Run (d + 3) 111 [.ref 0, .int x1] (am_hp sw s) (am_cI v) (am_hp sw s') := by
  refine am_Run.of (M := mt_X11_refuse) (cvf := am_cI) (X := f_X11_refuse s x1) rfl rfl rfl (by simp) ?_ e
  unfold f_X11_refuse
  show am_Sm tb_X11_refuse 11 false none (some .int) (d + 2) (am_po am_cI sw) _ 0 [.ref 0, .int x1, .null, .null] [] (am_hp sw s)
  refine sm_call (cvf := am_cI) 3 5 [.ref 0, .int x1, .null, .null] [.int x1, .ref 46] sw s 44 [.ref 46, .int x1] [] (fun _ => rfl) rfl (fun _ _ e9 => r_X5_has (d + 1) sw _ _ _ _ e9) am_po20 (fun v5 s5 => ?_)
  refine sm_br 1 24 11 [.ref 0, .int x1, .null, .null] [] (am_hp sw s5) (fun _ => rfl) (fun _ => ?_) (fun _ => ?_)
  · exact sm_ret 1 25 [.ref 0, .int x1, .null, .null] [.int (-1)] (am_hp sw s5) (some (.int (-1))) (fun _ => rfl) rfl (fun _ _ h => h)
  · refine sm_iald 4 19 [.ref 0, .int x1, .null, .null] [] (am_hp sw s5) (i := x1) (c := 48) (fun _ => rfl) rfl rfl rfl rfl ?_
    refine sm_br 2 26 24 [.ref 0, .int x1, .null, .null] [] (am_hp sw s5) (fun _ => rfl) (fun _ => ?_) (fun _ => ?_)
    · refine sm_iast 5 35 [.ref 0, .int x1, .null, .null] [] sw s5 (i := x1) (x := (2)) (c := 48) (fun _ => rfl) rfl rfl rfl ?_
      refine sm_go 4 40 [.ref 0, .int x1, .int (0), .int (0)] [] (am_hp sw (am_wI s5 48 (Int32.toNatClampNeg x1) (2))) (fun _ => rfl) ?_
      refine sm_lp 78 (fun y40 => [.null, .null, .int y40, .null]) (l_X11_refuse_40 d sw am_FU x1 (0) (0) (am_wI s5 48 (Int32.toNatClampNeg x1) (2))) (fun _ _ _ h => h) am_po20 (fun y40 s40 => ?_)
      exact sm_ret 1 79 [.null, .null, .int y40, .null] [.int y40] (am_hp sw s40) (some (.int y40)) (fun _ => rfl) rfl (fun _ _ h => h)
    · exact sm_ret 1 25 [.ref 0, .int x1, .null, .null] [.int (-1)] (am_hp sw s5) (some (.int (-1))) (fun _ => rfl) rfl (fun _ _ h => h)

def f_X11_ring (s : am_S) (x1 : Int32) (x2 : Int32) : Option (Int32 × am_S) := am_bd (f_X7_has s x1) (fun v5 s5 => if v5 = 0 then (some ((-1), s5)) else (if x2 = 0 then (am_gu (am_in x1 200) (some ((s5.1 34 (Int32.toNatClampNeg x1)), s5))) else if x2 = 1 then (am_gu (am_in x1 200) (some ((s5.1 35 (Int32.toNatClampNeg x1)), s5))) else if x2 = 2 then (am_gu (am_in x1 200) (some ((s5.1 36 (Int32.toNatClampNeg x1)), s5))) else if x2 = 3 then (am_gu (am_in x1 200) (some ((s5.1 37 (Int32.toNatClampNeg x1)), s5))) else if x2 = 4 then (am_gu (am_in x1 200) (some ((s5.1 38 (Int32.toNatClampNeg x1)), s5))) else (some ((-1), s5))))
set_option maxRecDepth 20000 in
theorem r_X11_ring (d : Nat) (sw : Bool) (s s' : am_S) (x1 : Int32) (x2 : Int32) (v : Int32) (e : f_X11_ring s x1 x2 = some (v, s')) : am_Run (d + 2) 112 [.ref 0, .int x1, .int x2] (am_hp sw s) (am_cI v) (am_hp sw s') := by
  refine am_Run.of (M := mt_X11_ring) (cvf := am_cI) (X := f_X11_ring s x1 x2) rfl rfl rfl (by simp) ?_ e
  unfold f_X11_ring
  show am_Sm tb_X11_ring 11 false none (some .int) (d + 1) (am_po am_cI sw) _ 0 [.ref 0, .int x1, .int x2] [] (am_hp sw s)
  refine sm_call (cvf := am_cI) 3 5 [.ref 0, .int x1, .int x2] [.int x1, .ref 32] sw s 59 [.ref 32, .int x1] [] (fun _ => rfl) rfl (fun _ _ e9 => r_X7_has (d + 0) sw _ _ _ _ e9) am_po20 (fun v5 s5 => ?_)
  refine sm_br 1 11 13 [.ref 0, .int x1, .int x2] [] (am_hp sw s5) (fun _ => rfl) (fun _ => ?_) (fun _ => ?_)
  · exact sm_ret 1 12 [.ref 0, .int x1, .int x2] [.int (-1)] (am_hp sw s5) (some (.int (-1))) (fun _ => rfl) rfl (fun _ _ h => h)
  · refine sm_go 2 (am_sw x2 (0) 98 [48, 58, 68, 78, 88]) [.ref 0, .int x1, .int x2] [] (am_hp sw s5) (fun _ => rfl) ?_
    refine sm_sw1 1 (by decide) (fun _ => ?_) (fun _ => ?_)
    · refine sm_iald 4 56 [.ref 0, .int x1, .int x2] [] (am_hp sw s5) (i := x1) (c := 34) (fun _ => rfl) rfl rfl rfl rfl ?_
      exact sm_ret 0 57 [.ref 0, .int x1, .int x2] [.int (s5.1 34 (Int32.toNatClampNeg x1))] (am_hp sw s5) (some (.int (s5.1 34 (Int32.toNatClampNeg x1)))) (fun _ => rfl) rfl (fun _ _ h => h)
    refine sm_sw1 2 (by decide) (fun _ => ?_) (fun _ => ?_)
    · refine sm_iald 4 66 [.ref 0, .int x1, .int x2] [] (am_hp sw s5) (i := x1) (c := 35) (fun _ => rfl) rfl rfl rfl rfl ?_
      exact sm_ret 0 67 [.ref 0, .int x1, .int x2] [.int (s5.1 35 (Int32.toNatClampNeg x1))] (am_hp sw s5) (some (.int (s5.1 35 (Int32.toNatClampNeg x1)))) (fun _ => rfl) rfl (fun _ _ h => h)
    refine sm_sw1 3 (by decide) (fun _ => ?_) (fun _ => ?_)
    · refine sm_iald 4 76 [.ref 0, .int x1, .int x2] [] (am_hp sw s5) (i := x1) (c := 36) (fun _ => rfl) rfl rfl rfl rfl ?_
      exact sm_ret 0 77 [.ref 0, .int x1, .int x2] [.int (s5.1 36 (Int32.toNatClampNeg x1))] (am_hp sw s5) (some (.int (s5.1 36 (Int32.toNatClampNeg x1)))) (fun _ => rfl) rfl (fun _ _ h => h)
    refine sm_sw1 4 (by decide) (fun _ => ?_) (fun _ => ?_)
    · refine sm_iald 4 86 [.ref 0, .int x1, .int x2] [] (am_hp sw s5) (i := x1) (c := 37) (fun _ => rfl) rfl rfl rfl rfl ?_
      exact sm_ret 0 87 [.ref 0, .int x1, .int x2] [.int (s5.1 37 (Int32.toNatClampNeg x1))] (am_hp sw s5) (some (.int (s5.1 37 (Int32.toNatClampNeg x1)))) (fun _ => rfl) rfl (fun _ _ h => h)
    refine sm_sw1 5 (by decide) (fun _ => ?_) (fun _ => ?_)
    · refine sm_iald 4 96 [.ref 0, .int x1, .int x2] [] (am_hp sw s5) (i := x1) (c := 38) (fun _ => rfl) rfl rfl rfl rfl ?_
      exact sm_ret 0 97 [.ref 0, .int x1, .int x2] [.int (s5.1 38 (Int32.toNatClampNeg x1))] (am_hp sw s5) (some (.int (s5.1 38 (Int32.toNatClampNeg x1)))) (fun _ => rfl) rfl (fun _ _ h => h)
    refine sm_sw0 ?_
    exact sm_ret 1 99 [.ref 0, .int x1, .int x2] [.int (-1)] (am_hp sw s5) (some (.int (-1))) (fun _ => rfl) rfl (fun _ _ h => h)

def f_X11_figure (s : am_S) (x1 : Int32) (x2 : Int32) : Option (Int32 × am_S) := am_bd (f_X3_has s x1) (fun v5 s5 => if v5 = 0 then (some ((-1), s5)) else (am_gu (am_in x1 400) (if x2 = 0 then (some ((s5.1 40 (Int32.toNatClampNeg x1)), s5)) else if x2 = 1 then (am_gu (am_in (s5.1 40 (Int32.toNatClampNeg x1)) 200) (some ((s5.1 34 (Int32.toNatClampNeg (s5.1 40 (Int32.toNatClampNeg x1)))), s5))) else if x2 = 2 then (am_gu (am_in (s5.1 40 (Int32.toNatClampNeg x1)) 200) (some ((s5.1 36 (Int32.toNatClampNeg (s5.1 40 (Int32.toNatClampNeg x1)))), s5))) else if x2 = 3 then (am_gu (am_in (s5.1 40 (Int32.toNatClampNeg x1)) 200) (some ((s5.1 37 (Int32.toNatClampNeg (s5.1 40 (Int32.toNatClampNeg x1)))), s5))) else if x2 = 4 then (am_gu (am_in x1 400) (some ((s5.1 42 (Int32.toNatClampNeg x1)), s5))) else if x2 = 5 then (am_gu (am_in x1 400) (some ((s5.1 43 (Int32.toNatClampNeg x1)), s5))) else if x2 = 6 then (am_gu (am_in x1 400) (some ((s5.1 44 (Int32.toNatClampNeg x1)), s5))) else if x2 = 7 then (am_gu (am_in x1 400) (some ((s5.1 41 (Int32.toNatClampNeg x1)), s5))) else (some ((-1), s5)))))
set_option maxRecDepth 20000 in
theorem r_X11_figure (d : Nat) (sw : Bool) (s s' : am_S) (x1 : Int32) (x2 : Int32) (v : Int32) (e : f_X11_figure s x1 x2 = some (v, s')) : am_Run (d + 2) 113 [.ref 0, .int x1, .int x2] (am_hp sw s) (am_cI v) (am_hp sw s') := by
  refine am_Run.of (M := mt_X11_figure) (cvf := am_cI) (X := f_X11_figure s x1 x2) rfl rfl rfl (by simp) ?_ e
  unfold f_X11_figure
  show am_Sm tb_X11_figure 11 false none (some .int) (d + 1) (am_po am_cI sw) _ 0 [.ref 0, .int x1, .int x2, .null] [] (am_hp sw s)
  refine sm_call (cvf := am_cI) 3 5 [.ref 0, .int x1, .int x2, .null] [.int x1, .ref 39] sw s 29 [.ref 39, .int x1] [] (fun _ => rfl) rfl (fun _ _ e9 => r_X3_has (d + 0) sw _ _ _ _ e9) am_po20 (fun v5 s5 => ?_)
  refine sm_br 1 11 13 [.ref 0, .int x1, .int x2, .null] [] (am_hp sw s5) (fun _ => rfl) (fun _ => ?_) (fun _ => ?_)
  · exact sm_ret 1 12 [.ref 0, .int x1, .int x2, .null] [.int (-1)] (am_hp sw s5) (some (.int (-1))) (fun _ => rfl) rfl (fun _ _ h => h)
  · refine sm_iald 4 21 [.ref 0, .int x1, .int x2, .null] [] (am_hp sw s5) (i := x1) (c := 40) (fun _ => rfl) rfl rfl rfl rfl ?_
    refine sm_go 3 (am_sw x2 (0) 144 [72, 74, 84, 94, 104, 114, 124, 134]) [.ref 0, .int x1, .int x2, .int (s5.1 40 (Int32.toNatClampNeg x1))] [] (am_hp sw s5) (fun _ => rfl) ?_
    refine sm_sw1 1 (by decide) (fun _ => ?_) (fun _ => ?_)
    · exact sm_ret 1 73 [.ref 0, .int x1, .int x2, .int (s5.1 40 (Int32.toNatClampNeg x1))] [.int (s5.1 40 (Int32.toNatClampNeg x1))] (am_hp sw s5) (some (.int (s5.1 40 (Int32.toNatClampNeg x1)))) (fun _ => rfl) rfl (fun _ _ h => h)
    refine sm_sw1 2 (by decide) (fun _ => ?_) (fun _ => ?_)
    · refine sm_iald 4 82 [.ref 0, .int x1, .int x2, .int (s5.1 40 (Int32.toNatClampNeg x1))] [] (am_hp sw s5) (i := (s5.1 40 (Int32.toNatClampNeg x1))) (c := 34) (fun _ => rfl) rfl rfl rfl rfl ?_
      exact sm_ret 0 83 [.ref 0, .int x1, .int x2, .int (s5.1 40 (Int32.toNatClampNeg x1))] [.int (s5.1 34 (Int32.toNatClampNeg (s5.1 40 (Int32.toNatClampNeg x1))))] (am_hp sw s5) (some (.int (s5.1 34 (Int32.toNatClampNeg (s5.1 40 (Int32.toNatClampNeg x1)))))) (fun _ => rfl) rfl (fun _ _ h => h)
    refine sm_sw1 3 (by decide) (fun _ => ?_) (fun _ => ?_)
    · refine sm_iald 4 92 [.ref 0, .int x1, .int x2, .int (s5.1 40 (Int32.toNatClampNeg x1))] [] (am_hp sw s5) (i := (s5.1 40 (Int32.toNatClampNeg x1))) (c := 36) (fun _ => rfl) rfl rfl rfl rfl ?_
      exact sm_ret 0 93 [.ref 0, .int x1, .int x2, .int (s5.1 40 (Int32.toNatClampNeg x1))] [.int (s5.1 36 (Int32.toNatClampNeg (s5.1 40 (Int32.toNatClampNeg x1))))] (am_hp sw s5) (some (.int (s5.1 36 (Int32.toNatClampNeg (s5.1 40 (Int32.toNatClampNeg x1)))))) (fun _ => rfl) rfl (fun _ _ h => h)
    refine sm_sw1 4 (by decide) (fun _ => ?_) (fun _ => ?_)
    · refine sm_iald 4 102 [.ref 0, .int x1, .int x2, .int (s5.1 40 (Int32.toNatClampNeg x1))] [] (am_hp sw s5) (i := (s5.1 40 (Int32.toNatClampNeg x1))) (c := 37) (fun _ => rfl) rfl rfl rfl rfl ?_
      exact sm_ret 0 103 [.ref 0, .int x1, .int x2, .int (s5.1 40 (Int32.toNatClampNeg x1))] [.int (s5.1 37 (Int32.toNatClampNeg (s5.1 40 (Int32.toNatClampNeg x1))))] (am_hp sw s5) (some (.int (s5.1 37 (Int32.toNatClampNeg (s5.1 40 (Int32.toNatClampNeg x1)))))) (fun _ => rfl) rfl (fun _ _ h => h)
    refine sm_sw1 5 (by decide) (fun _ => ?_) (fun _ => ?_)
    · refine sm_iald 4 112 [.ref 0, .int x1, .int x2, .int (s5.1 40 (Int32.toNatClampNeg x1))] [] (am_hp sw s5) (i := x1) (c := 42) (fun _ => rfl) rfl rfl rfl rfl ?_
      exact sm_ret 0 113 [.ref 0, .int x1, .int x2, .int (s5.1 40 (Int32.toNatClampNeg x1))] [.int (s5.1 42 (Int32.toNatClampNeg x1))] (am_hp sw s5) (some (.int (s5.1 42 (Int32.toNatClampNeg x1)))) (fun _ => rfl) rfl (fun _ _ h => h)
    refine sm_sw1 6 (by decide) (fun _ => ?_) (fun _ => ?_)
    · refine sm_iald 4 122 [.ref 0, .int x1, .int x2, .int (s5.1 40 (Int32.toNatClampNeg x1))] [] (am_hp sw s5) (i := x1) (c := 43) (fun _ => rfl) rfl rfl rfl rfl ?_
      exact sm_ret 0 123 [.ref 0, .int x1, .int x2, .int (s5.1 40 (Int32.toNatClampNeg x1))] [.int (s5.1 43 (Int32.toNatClampNeg x1))] (am_hp sw s5) (some (.int (s5.1 43 (Int32.toNatClampNeg x1)))) (fun _ => rfl) rfl (fun _ _ h => h)
    refine sm_sw1 7 (by decide) (fun _ => ?_) (fun _ => ?_)
    · refine sm_iald 4 132 [.ref 0, .int x1, .int x2, .int (s5.1 40 (Int32.toNatClampNeg x1))] [] (am_hp sw s5) (i := x1) (c := 44) (fun _ => rfl) rfl rfl rfl rfl ?_
      exact sm_ret 0 133 [.ref 0, .int x1, .int x2, .int (s5.1 40 (Int32.toNatClampNeg x1))] [.int (s5.1 44 (Int32.toNatClampNeg x1))] (am_hp sw s5) (some (.int (s5.1 44 (Int32.toNatClampNeg x1)))) (fun _ => rfl) rfl (fun _ _ h => h)
    refine sm_sw1 8 (by decide) (fun _ => ?_) (fun _ => ?_)
    · refine sm_iald 4 142 [.ref 0, .int x1, .int x2, .int (s5.1 40 (Int32.toNatClampNeg x1))] [] (am_hp sw s5) (i := x1) (c := 41) (fun _ => rfl) rfl rfl rfl rfl ?_
      exact sm_ret 0 143 [.ref 0, .int x1, .int x2, .int (s5.1 40 (Int32.toNatClampNeg x1))] [.int (s5.1 41 (Int32.toNatClampNeg x1))] (am_hp sw s5) (some (.int (s5.1 41 (Int32.toNatClampNeg x1)))) (fun _ => rfl) rfl (fun _ _ h => h)
    refine sm_sw0 ?_
    exact sm_ret 1 145 [.ref 0, .int x1, .int x2, .int (s5.1 40 (Int32.toNatClampNeg x1))] [.int (-1)] (am_hp sw s5) (some (.int (-1))) (fun _ => rfl) rfl (fun _ _ h => h)

