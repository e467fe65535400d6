/-! ===== the law: its cases (printed by wip/gen/law.py) ===== -/
abbrev lx_Ex (L : Nat) (xs : Nat → Int32) (r : Option Value) (h' : am_H) (pc : Nat) (al st : List Value) (h : am_H) : Prop := am_Ex tb_L_law 15 false (some (L, xs)) (some .boolean) 12 r h' pc al st h
def lx_al (i : Int32) : List Value := [.ref 500, .ref 0, .ref 58, .int i]
section LX
variable {L : Nat} {xs : Nat → Int32} {r : Option Value} {h' : am_H}
theorem lx_arg (pc4 : Nat) {pc : Nat} {st : List Value} {h : am_H} {i : Int32} (k : Int32) (hn : ∀ lim, am_nxs tb_L_law lim 15 false (some (L, xs)) 4 (pc, lx_al i, st, h) = some (pc4, lx_al i, .int (i + k) :: .ref 500 :: st, h)) (ho : tb_L_law pc4 = some (.iaload, 1, 0, [])) (hin : am_in (i + k) L = true) (kk : lx_Ex L xs r h' (pc4 + 1) (lx_al i) (.int (xs (i + k).toNatClampNeg) :: st) h) : lx_Ex L xs r h' pc (lx_al i) st h := by
  refine am_Ex.nxs (q := (pc, lx_al i, st, h)) 4 (hn _) (am_Ex.one (q := (pc4 + 1, lx_al i, .int (xs (i + k).toNatClampNeg) :: st, h)) ho ?_ kk)
  simp only [am_nx, am_sci, hin]
  rfl
theorem lx_eq {v : Int32} {t f : Nat} : am_br .eq v v t f = t := by simp [am_br]
theorem lx_eq0 {x : Int32} {t f : Nat} (h : x = 0) : am_br .eq x 0 t f = t := by simp [am_br, h]
theorem lx_ne0 {x : Int32} {t f : Nat} (h : ¬ x = 0) : am_br .eq x 0 t f = f := by simp [am_br, h]
theorem lx_end {pc : Nat} {h : am_H} {i v : Int32} (hn : ∀ lim, am_nxs tb_L_law lim 15 false (some (L, xs)) 1 (pc, lx_al i, [.int v, .int v], h) = some (am_br .eq v v 1060 (pc + 3), lx_al i, [], h)) (kk : lx_Ex L xs r h' 18 (lx_al (i + 6)) [] h) : lx_Ex L xs r h' pc (lx_al i) [.int v, .int v] h := by
  refine am_Ex.nxs (q := (pc, lx_al i, [.int v, .int v], h)) 1 (hn _) ?_
  dsimp only
  rw [lx_eq]
  exact am_Ex.nxs (q := (1060, lx_al i, [], h)) (q' := (18, lx_al (i + 6), [], h)) 2 rfl kk
/-- x != 0 as an int -/
def lx_b (x : Int32) : Int32 := if x = 0 then 0 else 1
theorem lx_bool {pc : Nat} {st : List Value} {h : am_H} {i x : Int32} (t e : Nat) (hn : ∀ lim, am_nxs tb_L_law lim 15 false (some (L, xs)) 1 (pc, lx_al i, .int x :: st, h) = some (am_br .eq x 0 t (pc + 3), lx_al i, st, h)) (h1 : ∀ lim, am_nxs tb_L_law lim 15 false (some (L, xs)) 1 (t, lx_al i, st, h) = some (e, lx_al i, .int 0 :: st, h)) (h2 : ∀ lim, am_nxs tb_L_law lim 15 false (some (L, xs)) 2 (pc + 3, lx_al i, st, h) = some (e, lx_al i, .int 1 :: st, h)) (kk : lx_Ex L xs r h' e (lx_al i) (.int (lx_b x) :: st) h) : lx_Ex L xs r h' pc (lx_al i) (.int x :: st) h := by
  refine am_Ex.nxs (q := (pc, lx_al i, .int x :: st, h)) 1 (hn _) ?_
  dsimp only
  by_cases hx : x = 0
  · rw [lx_eq0 hx]
    have e9 : lx_b x = 0 := if_pos hx
    rw [e9] at kk
    exact am_Ex.nxs (q := (t, lx_al i, st, h)) 1 (h1 _) kk
  · rw [lx_ne0 hx]
    have e9 : lx_b x = 1 := if_neg hx
    rw [e9] at kk
    exact am_Ex.nxs (q := (pc + 3, lx_al i, st, h)) 2 (h2 _) kk
end LX
set_option maxRecDepth 20000 in
theorem lx_feed {L : Nat} {xs : Nat → Int32} {r : Option Value} {h' : am_H} {i v : Int32} {sw : Bool} {s s1 s2 : am_S} (h1 : am_in (i + 1) L = true) (h2 : am_in (i + 2) L = true) (h3 : am_in (i + 3) L = true) (h4 : am_in (i + 4) L = true) (h5 : am_in (i + 5) L = true) (e1 : f_X11_feed s ((xs (i + 1).toNatClampNeg)) ((xs (i + 2).toNatClampNeg)) ((xs (i + 3).toNatClampNeg)) ((xs (i + 4).toNatClampNeg)) ((xs (i + 5).toNatClampNeg)) = some (v, s1)) (e2 : f_X12_feed s1 ((xs (i + 1).toNatClampNeg)) ((xs (i + 2).toNatClampNeg)) ((xs (i + 3).toNatClampNeg)) ((xs (i + 4).toNatClampNeg)) ((xs (i + 5).toNatClampNeg)) = some (v, s2)) (h20 : 120 ≤ h'.1) (kk : lx_Ex L xs r h' 18 (lx_al (i + 6)) [] (am_hp sw s2)) : lx_Ex L xs r h' 160 (lx_al i) [] (am_hp sw s) := by
  refine am_Ex.nxs (q := (160, lx_al i, [], (am_hp sw s))) (q' := (161, lx_al i, [.ref 0], (am_hp sw s))) 1 rfl ?_
  refine lx_arg 165 1 (fun _ => rfl) rfl h1 ?_
  refine lx_arg 170 2 (fun _ => rfl) rfl h2 ?_
  refine lx_arg 175 3 (fun _ => rfl) rfl h3 ?_
  refine lx_arg 180 4 (fun _ => rfl) rfl h4 ?_
  refine lx_arg 185 5 (fun _ => rfl) rfl h5 ?_
  refine am_Ex.call (h2 := (am_hp sw s1)) (mno := 94) (As := [.ref 0, .int (xs (i + 1).toNatClampNeg), .int (xs (i + 2).toNatClampNeg), .int (xs (i + 3).toNatClampNeg), .int (xs (i + 4).toNatClampNeg), .int (xs (i + 5).toNatClampNeg)]) (rest := []) (v := some (.int v)) rfl (r_X11_feed 10 sw s s1 ((xs (i + 1).toNatClampNeg)) ((xs (i + 2).toNatClampNeg)) ((xs (i + 3).toNatClampNeg)) ((xs (i + 4).toNatClampNeg)) ((xs (i + 5).toNatClampNeg)) v e1) (Nat.le_refl _) h20 ?_
  refine am_Ex.nxs (q := (189, lx_al i, [.int v], (am_hp sw s1))) (q' := (190, lx_al i, [.ref 58, .int v], (am_hp sw s1))) 1 rfl ?_
  refine lx_arg 194 1 (fun _ => rfl) rfl h1 ?_
  refine lx_arg 199 2 (fun _ => rfl) rfl h2 ?_
  refine lx_arg 204 3 (fun _ => rfl) rfl h3 ?_
  refine lx_arg 209 4 (fun _ => rfl) rfl h4 ?_
  refine lx_arg 214 5 (fun _ => rfl) rfl h5 ?_
  refine am_Ex.call (h2 := (am_hp sw s2)) (mno := 133) (As := [.ref 58, .int (xs (i + 1).toNatClampNeg), .int (xs (i + 2).toNatClampNeg), .int (xs (i + 3).toNatClampNeg), .int (xs (i + 4).toNatClampNeg), .int (xs (i + 5).toNatClampNeg)]) (rest := [.int v]) (v := some (.int v)) rfl (r_X12_feed 10 sw s1 s2 ((xs (i + 1).toNatClampNeg)) ((xs (i + 2).toNatClampNeg)) ((xs (i + 3).toNatClampNeg)) ((xs (i + 4).toNatClampNeg)) ((xs (i + 5).toNatClampNeg)) v e2) (Nat.le_refl _) h20 ?_
  exact lx_end (fun _ => rfl) kk
set_option maxRecDepth 20000 in
theorem lx_back {L : Nat} {xs : Nat → Int32} {r : Option Value} {h' : am_H} {i v : Int32} {sw : Bool} {s s1 s2 : am_S} (h1 : am_in (i + 1) L = true) (e1 : f_X11_back s ((xs (i + 1).toNatClampNeg)) = some (v, s1)) (e2 : f_X12_back s1 ((xs (i + 1).toNatClampNeg)) = some (v, s2)) (h20 : 120 ≤ h'.1) (kk : lx_Ex L xs r h' 18 (lx_al (i + 6)) [] (am_hp sw s2)) : lx_Ex L xs r h' 223 (lx_al i) [] (am_hp sw s) := by
  refine am_Ex.nxs (q := (223, lx_al i, [], (am_hp sw s))) (q' := (224, lx_al i, [.ref 0], (am_hp sw s))) 1 rfl ?_
  refine lx_arg 228 1 (fun _ => rfl) rfl h1 ?_
  refine am_Ex.call (h2 := (am_hp sw s1)) (mno := 95) (As := [.ref 0, .int (xs (i + 1).toNatClampNeg)]) (rest := []) (v := some (.int v)) rfl (r_X11_back 11 sw s s1 ((xs (i + 1).toNatClampNeg)) v e1) (Nat.le_refl _) h20 ?_
  refine am_Ex.nxs (q := (232, lx_al i, [.int v], (am_hp sw s1))) (q' := (233, lx_al i, [.ref 58, .int v], (am_hp sw s1))) 1 rfl ?_
  refine lx_arg 237 1 (fun _ => rfl) rfl h1 ?_
  refine am_Ex.call (h2 := (am_hp sw s2)) (mno := 135) (As := [.ref 58, .int (xs (i + 1).toNatClampNeg)]) (rest := [.int v]) (v := some (.int v)) rfl (r_X12_back 11 sw s1 s2 ((xs (i + 1).toNatClampNeg)) v e2) (Nat.le_refl _) h20 ?_
  exact lx_end (fun _ => rfl) kk
set_option maxRecDepth 20000 in
theorem lx_read {L : Nat} {xs : Nat → Int32} {r : Option Value} {h' : am_H} {i v : Int32} {sw sw1 : Bool} {s s1 s2 : am_S} (e1 : f_X11_read sw s  = some ((v, sw1), s1)) (e2 : f_X12_read s1  = some (v, s2)) (h20 : 120 ≤ h'.1) (kk : lx_Ex L xs r h' 18 (lx_al (i + 6)) [] (am_hp sw1 s2)) : lx_Ex L xs r h' 246 (lx_al i) [] (am_hp sw s) := by
  refine am_Ex.nxs (q := (246, lx_al i, [], (am_hp sw s))) (q' := (247, lx_al i, [.ref 0], (am_hp sw s))) 1 rfl ?_
  refine am_Ex.call (h2 := (am_hp sw1 s1)) (mno := 96) (As := [.ref 0]) (rest := []) (v := some (.int v)) rfl (r_X11_read 3 sw sw1 s s1 v e1) (Nat.le_refl _) h20 ?_
  refine am_Ex.nxs (q := (250, lx_al i, [.int v], (am_hp sw1 s1))) (q' := (251, lx_al i, [.ref 58, .int v], (am_hp sw1 s1))) 1 rfl ?_
  refine am_Ex.call (h2 := (am_hp sw1 s2)) (mno := 148) (As := [.ref 58]) (rest := [.int v]) (v := some (.int v)) rfl (r_X12_read 6 sw1 s1 s2  v e2) (Nat.le_refl _) h20 ?_
  exact lx_end (fun _ => rfl) kk
set_option maxRecDepth 20000 in
theorem lx_place {L : Nat} {xs : Nat → Int32} {r : Option Value} {h' : am_H} {i v : Int32} {sw : Bool} {s s1 s2 : am_S} (e1 : f_X11_place s  = some (v, s1)) (e2 : f_X12_place s1  = some (v, s2)) (h20 : 120 ≤ h'.1) (kk : lx_Ex L xs r h' 18 (lx_al (i + 6)) [] (am_hp sw s2)) : lx_Ex L xs r h' 259 (lx_al i) [] (am_hp sw s) := by
  refine am_Ex.nxs (q := (259, lx_al i, [], (am_hp sw s))) (q' := (260, lx_al i, [.ref 0], (am_hp sw s))) 1 rfl ?_
  refine am_Ex.call (h2 := (am_hp sw s1)) (mno := 97) (As := [.ref 0]) (rest := []) (v := some (.int v)) rfl (r_X11_place 11 sw s s1  v e1) (Nat.le_refl _) h20 ?_
  refine am_Ex.nxs (q := (263, lx_al i, [.int v], (am_hp sw s1))) (q' := (264, lx_al i, [.ref 58, .int v], (am_hp sw s1))) 1 rfl ?_
  refine am_Ex.call (h2 := (am_hp sw s2)) (mno := 149) (As := [.ref 58]) (rest := [.int v]) (v := some (.int v)) rfl (r_X12_place 11 sw s1 s2  v e2) (Nat.le_refl _) h20 ?_
  exact lx_end (fun _ => rfl) kk
set_option maxRecDepth 20000 in
theorem lx_kind {L : Nat} {xs : Nat → Int32} {r : Option Value} {h' : am_H} {i v : Int32} {sw : Bool} {s s1 s2 : am_S} (h1 : am_in (i + 1) L = true) (h2 : am_in (i + 2) L = true) (h3 : am_in (i + 3) L = true) (e1 : f_X11_kind s ((xs (i + 1).toNatClampNeg)) ((xs (i + 2).toNatClampNeg)) ((xs (i + 3).toNatClampNeg)) = some (v, s1)) (e2 : f_X12_kind s1 ((xs (i + 1).toNatClampNeg)) ((xs (i + 2).toNatClampNeg)) ((xs (i + 3).toNatClampNeg)) = some (v, s2)) (h20 : 120 ≤ h'.1) (kk : lx_Ex L xs r h' 18 (lx_al (i + 6)) [] (am_hp sw s2)) : lx_Ex L xs r h' 272 (lx_al i) [] (am_hp sw s) := by
  refine am_Ex.nxs (q := (272, lx_al i, [], (am_hp sw s))) (q' := (273, lx_al i, [.ref 0], (am_hp sw s))) 1 rfl ?_
  refine lx_arg 277 1 (fun _ => rfl) rfl h1 ?_
  refine lx_arg 282 2 (fun _ => rfl) rfl h2 ?_
  refine lx_arg 287 3 (fun _ => rfl) rfl h3 ?_
  refine am_Ex.call (h2 := (am_hp sw s1)) (mno := 98) (As := [.ref 0, .int (xs (i + 1).toNatClampNeg), .int (xs (i + 2).toNatClampNeg), .int (xs (i + 3).toNatClampNeg)]) (rest := []) (v := some (.int v)) rfl (r_X11_kind 10 sw s s1 ((xs (i + 1).toNatClampNeg)) ((xs (i + 2).toNatClampNeg)) ((xs (i + 3).toNatClampNeg)) v e1) (Nat.le_refl _) h20 ?_
  refine am_Ex.nxs (q := (291, lx_al i, [.int v], (am_hp sw s1))) (q' := (292, lx_al i, [.ref 58, .int v], (am_hp sw s1))) 1 rfl ?_
  refine lx_arg 296 1 (fun _ => rfl) rfl h1 ?_
  refine lx_arg 301 2 (fun _ => rfl) rfl h2 ?_
  refine lx_arg 306 3 (fun _ => rfl) rfl h3 ?_
  refine am_Ex.call (h2 := (am_hp sw s2)) (mno := 157) (As := [.ref 58, .int (xs (i + 1).toNatClampNeg), .int (xs (i + 2).toNatClampNeg), .int (xs (i + 3).toNatClampNeg)]) (rest := [.int v]) (v := some (.int v)) rfl (r_X12_kind 11 sw s1 s2 ((xs (i + 1).toNatClampNeg)) ((xs (i + 2).toNatClampNeg)) ((xs (i + 3).toNatClampNeg)) v e2) (Nat.le_refl _) h20 ?_
  exact lx_end (fun _ => rfl) kk
set_option maxRecDepth 20000 in
theorem lx_family {L : Nat} {xs : Nat → Int32} {r : Option Value} {h' : am_H} {i v : Int32} {sw : Bool} {s s1 s2 : am_S} (h1 : am_in (i + 1) L = true) (h2 : am_in (i + 2) L = true) (e1 : f_X11_family s ((xs (i + 1).toNatClampNeg)) ((lx_b (xs (i + 2).toNatClampNeg))) = some (v, s1)) (e2 : f_X12_family s1 ((xs (i + 1).toNatClampNeg)) ((lx_b (xs (i + 2).toNatClampNeg))) = some (v, s2)) (h20 : 120 ≤ h'.1) (kk : lx_Ex L xs r h' 18 (lx_al (i + 6)) [] (am_hp sw s2)) : lx_Ex L xs r h' 315 (lx_al i) [] (am_hp sw s) := by
  refine am_Ex.nxs (q := (315, lx_al i, [], (am_hp sw s))) (q' := (316, lx_al i, [.ref 0], (am_hp sw s))) 1 rfl ?_
  refine lx_arg 320 1 (fun _ => rfl) rfl h1 ?_
  refine lx_arg 325 2 (fun _ => rfl) rfl h2 ?_
  refine lx_bool 333 334 (fun _ => rfl) (fun _ => rfl) (fun _ => rfl) ?_
  refine am_Ex.call (h2 := (am_hp sw s1)) (mno := 99) (As := [.ref 0, .int (xs (i + 1).toNatClampNeg), .int (lx_b (xs (i + 2).toNatClampNeg))]) (rest := []) (v := some (.int v)) rfl (r_X11_family 10 sw s s1 ((xs (i + 1).toNatClampNeg)) ((lx_b (xs (i + 2).toNatClampNeg))) v e1) (Nat.le_refl _) h20 ?_
  refine am_Ex.nxs (q := (337, lx_al i, [.int v], (am_hp sw s1))) (q' := (338, lx_al i, [.ref 58, .int v], (am_hp sw s1))) 1 rfl ?_
  refine lx_arg 342 1 (fun _ => rfl) rfl h1 ?_
  refine lx_arg 347 2 (fun _ => rfl) rfl h2 ?_
  refine lx_bool 355 356 (fun _ => rfl) (fun _ => rfl) (fun _ => rfl) ?_
  refine am_Ex.call (h2 := (am_hp sw s2)) (mno := 158) (As := [.ref 58, .int (xs (i + 1).toNatClampNeg), .int (lx_b (xs (i + 2).toNatClampNeg))]) (rest := [.int v]) (v := some (.int v)) rfl (r_X12_family 11 sw s1 s2 ((xs (i + 1).toNatClampNeg)) ((lx_b (xs (i + 2).toNatClampNeg))) v e2) (Nat.le_refl _) h20 ?_
  exact lx_end (fun _ => rfl) kk
set_option maxRecDepth 20000 in
theorem lx_own {L : Nat} {xs : Nat → Int32} {r : Option Value} {h' : am_H} {i v : Int32} {sw : Bool} {s s1 s2 : am_S} (h1 : am_in (i + 1) L = true) (h2 : am_in (i + 2) L = true) (e1 : f_X11_own s ((xs (i + 1).toNatClampNeg)) ((xs (i + 2).toNatClampNeg)) = some (v, s1)) (e2 : f_X12_own s1 ((xs (i + 1).toNatClampNeg)) ((xs (i + 2).toNatClampNeg)) = some (v, s2)) (h20 : 120 ≤ h'.1) (kk : lx_Ex L xs r h' 18 (lx_al (i + 6)) [] (am_hp sw s2)) : lx_Ex L xs r h' 364 (lx_al i) [] (am_hp sw s) := by
  refine am_Ex.nxs (q := (364, lx_al i, [], (am_hp sw s))) (q' := (365, lx_al i, [.ref 0], (am_hp sw s))) 1 rfl ?_
  refine lx_arg 369 1 (fun _ => rfl) rfl h1 ?_
  refine lx_arg 374 2 (fun _ => rfl) rfl h2 ?_
  refine am_Ex.call (h2 := (am_hp sw s1)) (mno := 100) (As := [.ref 0, .int (xs (i + 1).toNatClampNeg), .int (xs (i + 2).toNatClampNeg)]) (rest := []) (v := some (.int v)) rfl (r_X11_own 10 sw s s1 ((xs (i + 1).toNatClampNeg)) ((xs (i + 2).toNatClampNeg)) v e1) (Nat.le_refl _) h20 ?_
  refine am_Ex.nxs (q := (378, lx_al i, [.int v], (am_hp sw s1))) (q' := (379, lx_al i, [.ref 58, .int v], (am_hp sw s1))) 1 rfl ?_
  refine lx_arg 383 1 (fun _ => rfl) rfl h1 ?_
  refine lx_arg 388 2 (fun _ => rfl) rfl h2 ?_
  refine am_Ex.call (h2 := (am_hp sw s2)) (mno := 159) (As := [.ref 58, .int (xs (i + 1).toNatClampNeg), .int (xs (i + 2).toNatClampNeg)]) (rest := [.int v]) (v := some (.int v)) rfl (r_X12_own 10 sw s1 s2 ((xs (i + 1).toNatClampNeg)) ((xs (i + 2).toNatClampNeg)) v e2) (Nat.le_refl _) h20 ?_
  exact lx_end (fun _ => rfl) kk
set_option maxRecDepth 20000 in
theorem lx_lend {L : Nat} {xs : Nat → Int32} {r : Option Value} {h' : am_H} {i v : Int32} {sw : Bool} {s s1 s2 : am_S} (h1 : am_in (i + 1) L = true) (h2 : am_in (i + 2) L = true) (h3 : am_in (i + 3) L = true) (h4 : am_in (i + 4) L = true) (e1 : f_X11_lend s ((xs (i + 1).toNatClampNeg)) ((xs (i + 2).toNatClampNeg)) ((xs (i + 3).toNatClampNeg)) ((xs (i + 4).toNatClampNeg)) = some (v, s1)) (e2 : f_X12_lend s1 ((xs (i + 1).toNatClampNeg)) ((xs (i + 2).toNatClampNeg)) ((xs (i + 3).toNatClampNeg)) ((xs (i + 4).toNatClampNeg)) = some (v, s2)) (h20 : 120 ≤ h'.1) (kk : lx_Ex L xs r h' 18 (lx_al (i + 6)) [] (am_hp sw s2)) : lx_Ex L xs r h' 397 (lx_al i) [] (am_hp sw s) := by
  refine am_Ex.nxs (q := (397, lx_al i, [], (am_hp sw s))) (q' := (398, lx_al i, [.ref 0], (am_hp sw s))) 1 rfl ?_
  refine lx_arg 402 1 (fun _ => rfl) rfl h1 ?_
  refine lx_arg 407 2 (fun _ => rfl) rfl h2 ?_
  refine lx_arg 412 3 (fun _ => rfl) rfl h3 ?_
  refine lx_arg 417 4 (fun _ => rfl) rfl h4 ?_
  refine am_Ex.call (h2 := (am_hp sw s1)) (mno := 101) (As := [.ref 0, .int (xs (i + 1).toNatClampNeg), .int (xs (i + 2).toNatClampNeg), .int (xs (i + 3).toNatClampNeg), .int (xs (i + 4).toNatClampNeg)]) (rest := []) (v := some (.int v)) rfl (r_X11_lend 10 sw s s1 ((xs (i + 1).toNatClampNeg)) ((xs (i + 2).toNatClampNeg)) ((xs (i + 3).toNatClampNeg)) ((xs (i + 4).toNatClampNeg)) v e1) (Nat.le_refl _) h20 ?_
  refine am_Ex.nxs (q := (421, lx_al i, [.int v], (am_hp sw s1))) (q' := (422, lx_al i, [.ref 58, .int v], (am_hp sw s1))) 1 rfl ?_
  refine lx_arg 426 1 (fun _ => rfl) rfl h1 ?_
  refine lx_arg 431 2 (fun _ => rfl) rfl h2 ?_
  refine lx_arg 436 3 (fun _ => rfl) rfl h3 ?_
  refine lx_arg 441 4 (fun _ => rfl) rfl h4 ?_
  refine am_Ex.call (h2 := (am_hp sw s2)) (mno := 160) (As := [.ref 58, .int (xs (i + 1).toNatClampNeg), .int (xs (i + 2).toNatClampNeg), .int (xs (i + 3).toNatClampNeg), .int (xs (i + 4).toNatClampNeg)]) (rest := [.int v]) (v := some (.int v)) rfl (r_X12_lend 10 sw s1 s2 ((xs (i + 1).toNatClampNeg)) ((xs (i + 2).toNatClampNeg)) ((xs (i + 3).toNatClampNeg)) ((xs (i + 4).toNatClampNeg)) v e2) (Nat.le_refl _) h20 ?_
  exact lx_end (fun _ => rfl) kk
set_option maxRecDepth 20000 in
theorem lx_may {L : Nat} {xs : Nat → Int32} {r : Option Value} {h' : am_H} {i v : Int32} {sw : Bool} {s s1 s2 : am_S} (h1 : am_in (i + 1) L = true) (h2 : am_in (i + 2) L = true) (h3 : am_in (i + 3) L = true) (e1 : f_X11_may s ((xs (i + 1).toNatClampNeg)) ((xs (i + 2).toNatClampNeg)) ((xs (i + 3).toNatClampNeg)) = some (v, s1)) (e2 : f_X12_may s1 ((xs (i + 1).toNatClampNeg)) ((xs (i + 2).toNatClampNeg)) ((xs (i + 3).toNatClampNeg)) = some (v, s2)) (h20 : 120 ≤ h'.1) (kk : lx_Ex L xs r h' 18 (lx_al (i + 6)) [] (am_hp sw s2)) : lx_Ex L xs r h' 450 (lx_al i) [] (am_hp sw s) := by
  refine am_Ex.nxs (q := (450, lx_al i, [], (am_hp sw s))) (q' := (451, lx_al i, [.ref 0], (am_hp sw s))) 1 rfl ?_
  refine lx_arg 455 1 (fun _ => rfl) rfl h1 ?_
  refine lx_arg 460 2 (fun _ => rfl) rfl h2 ?_
  refine lx_arg 465 3 (fun _ => rfl) rfl h3 ?_
  refine am_Ex.call (h2 := (am_hp sw s1)) (mno := 102) (As := [.ref 0, .int (xs (i + 1).toNatClampNeg), .int (xs (i + 2).toNatClampNeg), .int (xs (i + 3).toNatClampNeg)]) (rest := []) (v := some (.int v)) rfl (r_X11_may 9 sw s s1 ((xs (i + 1).toNatClampNeg)) ((xs (i + 2).toNatClampNeg)) ((xs (i + 3).toNatClampNeg)) v e1) (Nat.le_refl _) h20 ?_
  refine am_Ex.nxs (q := (469, lx_al i, [.int v], (am_hp sw s1))) (q' := (470, lx_al i, [.ref 58, .int v], (am_hp sw s1))) 1 rfl ?_
  refine lx_arg 474 1 (fun _ => rfl) rfl h1 ?_
  refine lx_arg 479 2 (fun _ => rfl) rfl h2 ?_
  refine lx_arg 484 3 (fun _ => rfl) rfl h3 ?_
  refine am_Ex.call (h2 := (am_hp sw s2)) (mno := 162) (As := [.ref 58, .int (xs (i + 1).toNatClampNeg), .int (xs (i + 2).toNatClampNeg), .int (xs (i + 3).toNatClampNeg)]) (rest := [.int v]) (v := some (.int v)) rfl (r_X12_may 10 sw s1 s2 ((xs (i + 1).toNatClampNeg)) ((xs (i + 2).toNatClampNeg)) ((xs (i + 3).toNatClampNeg)) v e2) (Nat.le_refl _) h20 ?_
  exact lx_end (fun _ => rfl) kk
set_option maxRecDepth 20000 in
theorem lx_season {L : Nat} {xs : Nat → Int32} {r : Option Value} {h' : am_H} {i v : Int32} {sw : Bool} {s s1 s2 : am_S} (e1 : f_X11_season s  = some (v, s1)) (e2 : f_X12_season s1  = some (v, s2)) (h20 : 120 ≤ h'.1) (kk : lx_Ex L xs r h' 18 (lx_al (i + 6)) [] (am_hp sw s2)) : lx_Ex L xs r h' 493 (lx_al i) [] (am_hp sw s) := by
  refine am_Ex.nxs (q := (493, lx_al i, [], (am_hp sw s))) (q' := (494, lx_al i, [.ref 0], (am_hp sw s))) 1 rfl ?_
  refine am_Ex.call (h2 := (am_hp sw s1)) (mno := 103) (As := [.ref 0]) (rest := []) (v := some (.int v)) rfl (r_X11_season 11 sw s s1  v e1) (Nat.le_refl _) h20 ?_
  refine am_Ex.nxs (q := (497, lx_al i, [.int v], (am_hp sw s1))) (q' := (498, lx_al i, [.ref 58, .int v], (am_hp sw s1))) 1 rfl ?_
  refine am_Ex.call (h2 := (am_hp sw s2)) (mno := 163) (As := [.ref 58]) (rest := [.int v]) (v := some (.int v)) rfl (r_X12_season 11 sw s1 s2  v e2) (Nat.le_refl _) h20 ?_
  exact lx_end (fun _ => rfl) kk
set_option maxRecDepth 20000 in
theorem lx_log {L : Nat} {xs : Nat → Int32} {r : Option Value} {h' : am_H} {i v : Int32} {sw : Bool} {s s1 s2 : am_S} (h1 : am_in (i + 1) L = true) (h2 : am_in (i + 2) L = true) (h3 : am_in (i + 3) L = true) (e1 : f_X11_log s ((xs (i + 1).toNatClampNeg)) (((Int32.toInt64 (xs (i + 2).toNatClampNeg) <<< (Int32.toInt64 32 &&& 63)) ||| (Int32.toInt64 (xs (i + 3).toNatClampNeg) &&& lN 4294967295))) = some (v, s1)) (e2 : f_X12_log s1 ((xs (i + 1).toNatClampNeg)) (((Int32.toInt64 (xs (i + 2).toNatClampNeg) <<< (Int32.toInt64 32 &&& 63)) ||| (Int32.toInt64 (xs (i + 3).toNatClampNeg) &&& lN 4294967295))) = some (v, s2)) (h20 : 120 ≤ h'.1) (kk : lx_Ex L xs r h' 18 (lx_al (i + 6)) [] (am_hp sw s2)) : lx_Ex L xs r h' 506 (lx_al i) [] (am_hp sw s) := by
  refine am_Ex.nxs (q := (506, lx_al i, [], (am_hp sw s))) (q' := (507, lx_al i, [.ref 0], (am_hp sw s))) 1 rfl ?_
  refine lx_arg 511 1 (fun _ => rfl) rfl h1 ?_
  refine lx_arg 516 2 (fun _ => rfl) rfl h2 ?_
  refine am_Ex.nxs (q := (517, lx_al i, [.int (xs (i + 2).toNatClampNeg), .int (xs (i + 1).toNatClampNeg), .ref 0], (am_hp sw s))) (q' := (521, lx_al i, [.long (Int32.toInt64 (xs (i + 2).toNatClampNeg) <<< (Int32.toInt64 32 &&& 63)), .int (xs (i + 1).toNatClampNeg), .ref 0], (am_hp sw s))) 3 rfl ?_
  refine lx_arg 525 3 (fun _ => rfl) rfl h3 ?_
  refine am_Ex.nxs (q := (526, lx_al i, [.int (xs (i + 3).toNatClampNeg), .long (Int32.toInt64 (xs (i + 2).toNatClampNeg) <<< (Int32.toInt64 32 &&& 63)), .int (xs (i + 1).toNatClampNeg), .ref 0], (am_hp sw s))) (q' := (532, lx_al i, [.long ((Int32.toInt64 (xs (i + 2).toNatClampNeg) <<< (Int32.toInt64 32 &&& 63)) ||| (Int32.toInt64 (xs (i + 3).toNatClampNeg) &&& lN 4294967295)), .int (xs (i + 1).toNatClampNeg), .ref 0], (am_hp sw s))) 4 rfl ?_
  refine am_Ex.call (h2 := (am_hp sw s1)) (mno := 104) (As := [.ref 0, .int (xs (i + 1).toNatClampNeg), .long ((Int32.toInt64 (xs (i + 2).toNatClampNeg) <<< (Int32.toInt64 32 &&& 63)) ||| (Int32.toInt64 (xs (i + 3).toNatClampNeg) &&& lN 4294967295))]) (rest := []) (v := some (.int v)) rfl (r_X11_log 9 sw s s1 ((xs (i + 1).toNatClampNeg)) (((Int32.toInt64 (xs (i + 2).toNatClampNeg) <<< (Int32.toInt64 32 &&& 63)) ||| (Int32.toInt64 (xs (i + 3).toNatClampNeg) &&& lN 4294967295))) v e1) (Nat.le_refl _) h20 ?_
  refine am_Ex.nxs (q := (535, lx_al i, [.int v], (am_hp sw s1))) (q' := (536, lx_al i, [.ref 58, .int v], (am_hp sw s1))) 1 rfl ?_
  refine lx_arg 540 1 (fun _ => rfl) rfl h1 ?_
  refine lx_arg 545 2 (fun _ => rfl) rfl h2 ?_
  refine am_Ex.nxs (q := (546, lx_al i, [.int (xs (i + 2).toNatClampNeg), .int (xs (i + 1).toNatClampNeg), .ref 58, .int v], (am_hp sw s1))) (q' := (550, lx_al i, [.long (Int32.toInt64 (xs (i + 2).toNatClampNeg) <<< (Int32.toInt64 32 &&& 63)), .int (xs (i + 1).toNatClampNeg), .ref 58, .int v], (am_hp sw s1))) 3 rfl ?_
  refine lx_arg 554 3 (fun _ => rfl) rfl h3 ?_
  refine am_Ex.nxs (q := (555, lx_al i, [.int (xs (i + 3).toNatClampNeg), .long (Int32.toInt64 (xs (i + 2).toNatClampNeg) <<< (Int32.toInt64 32 &&& 63)), .int (xs (i + 1).toNatClampNeg), .ref 58, .int v], (am_hp sw s1))) (q' := (561, lx_al i, [.long ((Int32.toInt64 (xs (i + 2).toNatClampNeg) <<< (Int32.toInt64 32 &&& 63)) ||| (Int32.toInt64 (xs (i + 3).toNatClampNeg) &&& lN 4294967295)), .int (xs (i + 1).toNatClampNeg), .ref 58, .int v], (am_hp sw s1))) 4 rfl ?_
  refine am_Ex.call (h2 := (am_hp sw s2)) (mno := 164) (As := [.ref 58, .int (xs (i + 1).toNatClampNeg), .long ((Int32.toInt64 (xs (i + 2).toNatClampNeg) <<< (Int32.toInt64 32 &&& 63)) ||| (Int32.toInt64 (xs (i + 3).toNatClampNeg) &&& lN 4294967295))]) (rest := [.int v]) (v := some (.int v)) rfl (r_X12_log 10 sw s1 s2 ((xs (i + 1).toNatClampNeg)) (((Int32.toInt64 (xs (i + 2).toNatClampNeg) <<< (Int32.toInt64 32 &&& 63)) ||| (Int32.toInt64 (xs (i + 3).toNatClampNeg) &&& lN 4294967295))) v e2) (Nat.le_refl _) h20 ?_
  exact lx_end (fun _ => rfl) kk
set_option maxRecDepth 20000 in
theorem lx_give {L : Nat} {xs : Nat → Int32} {r : Option Value} {h' : am_H} {i v : Int32} {sw : Bool} {s s1 s2 : am_S} (e1 : f_X11_give sw s  = some (v, s1)) (e2 : f_X12_give s1  = some (v, s2)) (h20 : 120 ≤ h'.1) (kk : lx_Ex L xs r h' 18 (lx_al (i + 6)) [] (am_hp sw s2)) : lx_Ex L xs r h' 569 (lx_al i) [] (am_hp sw s) := by
  refine am_Ex.nxs (q := (569, lx_al i, [], (am_hp sw s))) (q' := (570, lx_al i, [.ref 0], (am_hp sw s))) 1 rfl ?_
  refine am_Ex.call (h2 := (am_hp sw s1)) (mno := 105) (As := [.ref 0]) (rest := []) (v := some (.int v)) rfl (r_X11_give 5 sw s s1  v e1) (Nat.le_refl _) h20 ?_
  refine am_Ex.nxs (q := (573, lx_al i, [.int v], (am_hp sw s1))) (q' := (574, lx_al i, [.ref 58, .int v], (am_hp sw s1))) 1 rfl ?_
  refine am_Ex.call (h2 := (am_hp sw s2)) (mno := 171) (As := [.ref 58]) (rest := [.int v]) (v := some (.int v)) rfl (r_X12_give 8 sw s1 s2  v e2) (Nat.le_refl _) h20 ?_
  exact lx_end (fun _ => rfl) kk
set_option maxRecDepth 20000 in
theorem lx_lot {L : Nat} {xs : Nat → Int32} {r : Option Value} {h' : am_H} {i v : Int32} {sw : Bool} {s s1 s2 : am_S} (h1 : am_in (i + 1) L = true) (e1 : f_X11_lot s ((xs (i + 1).toNatClampNeg)) = some (v, s1)) (e2 : f_X12_lot s1 ((xs (i + 1).toNatClampNeg)) = some (v, s2)) (h20 : 120 ≤ h'.1) (kk : lx_Ex L xs r h' 18 (lx_al (i + 6)) [] (am_hp sw s2)) : lx_Ex L xs r h' 582 (lx_al i) [] (am_hp sw s) := by
  refine am_Ex.nxs (q := (582, lx_al i, [], (am_hp sw s))) (q' := (583, lx_al i, [.ref 0], (am_hp sw s))) 1 rfl ?_
  refine lx_arg 587 1 (fun _ => rfl) rfl h1 ?_
  refine am_Ex.call (h2 := (am_hp sw s1)) (mno := 106) (As := [.ref 0, .int (xs (i + 1).toNatClampNeg)]) (rest := []) (v := some (.int v)) rfl (r_X11_lot 10 sw s s1 ((xs (i + 1).toNatClampNeg)) v e1) (Nat.le_refl _) h20 ?_
  refine am_Ex.nxs (q := (591, lx_al i, [.int v], (am_hp sw s1))) (q' := (592, lx_al i, [.ref 58, .int v], (am_hp sw s1))) 1 rfl ?_
  refine lx_arg 596 1 (fun _ => rfl) rfl h1 ?_
  refine am_Ex.call (h2 := (am_hp sw s2)) (mno := 172) (As := [.ref 58, .int (xs (i + 1).toNatClampNeg)]) (rest := [.int v]) (v := some (.int v)) rfl (r_X12_lot 11 sw s1 s2 ((xs (i + 1).toNatClampNeg)) v e2) (Nat.le_refl _) h20 ?_
  exact lx_end (fun _ => rfl) kk
set_option maxRecDepth 20000 in
theorem lx_paint {L : Nat} {xs : Nat → Int32} {r : Option Value} {h' : am_H} {i v : Int32} {sw : Bool} {s s1 s2 : am_S} (h1 : am_in (i + 1) L = true) (h2 : am_in (i + 2) L = true) (h3 : am_in (i + 3) L = true) (e1 : f_X11_paint s ((xs (i + 1).toNatClampNeg)) ((xs (i + 2).toNatClampNeg)) ((xs (i + 3).toNatClampNeg)) = some (v, s1)) (e2 : f_X12_paint s1 ((xs (i + 1).toNatClampNeg)) ((xs (i + 2).toNatClampNeg)) ((xs (i + 3).toNatClampNeg)) = some (v, s2)) (h20 : 120 ≤ h'.1) (kk : lx_Ex L xs r h' 18 (lx_al (i + 6)) [] (am_hp sw s2)) : lx_Ex L xs r h' 605 (lx_al i) [] (am_hp sw s) := by
  refine am_Ex.nxs (q := (605, lx_al i, [], (am_hp sw s))) (q' := (606, lx_al i, [.ref 0], (am_hp sw s))) 1 rfl ?_
  refine lx_arg 610 1 (fun _ => rfl) rfl h1 ?_
  refine lx_arg 615 2 (fun _ => rfl) rfl h2 ?_
  refine lx_arg 620 3 (fun _ => rfl) rfl h3 ?_
  refine am_Ex.call (h2 := (am_hp sw s1)) (mno := 107) (As := [.ref 0, .int (xs (i + 1).toNatClampNeg), .int (xs (i + 2).toNatClampNeg), .int (xs (i + 3).toNatClampNeg)]) (rest := []) (v := some (.int v)) rfl (r_X11_paint 10 sw s s1 ((xs (i + 1).toNatClampNeg)) ((xs (i + 2).toNatClampNeg)) ((xs (i + 3).toNatClampNeg)) v e1) (Nat.le_refl _) h20 ?_
  refine am_Ex.nxs (q := (624, lx_al i, [.int v], (am_hp sw s1))) (q' := (625, lx_al i, [.ref 58, .int v], (am_hp sw s1))) 1 rfl ?_
  refine lx_arg 629 1 (fun _ => rfl) rfl h1 ?_
  refine lx_arg 634 2 (fun _ => rfl) rfl h2 ?_
  refine lx_arg 639 3 (fun _ => rfl) rfl h3 ?_
  refine am_Ex.call (h2 := (am_hp sw s2)) (mno := 174) (As := [.ref 58, .int (xs (i + 1).toNatClampNeg), .int (xs (i + 2).toNatClampNeg), .int (xs (i + 3).toNatClampNeg)]) (rest := [.int v]) (v := some (.int v)) rfl (r_X12_paint 10 sw s1 s2 ((xs (i + 1).toNatClampNeg)) ((xs (i + 2).toNatClampNeg)) ((xs (i + 3).toNatClampNeg)) v e2) (Nat.le_refl _) h20 ?_
  exact lx_end (fun _ => rfl) kk
set_option maxRecDepth 20000 in
theorem lx_order {L : Nat} {xs : Nat → Int32} {r : Option Value} {h' : am_H} {i v : Int32} {sw : Bool} {s s1 s2 : am_S} (h1 : am_in (i + 1) L = true) (e1 : f_X11_order s ((xs (i + 1).toNatClampNeg)) = some (v, s1)) (e2 : f_X12_order s1 ((xs (i + 1).toNatClampNeg)) = some (v, s2)) (h20 : 120 ≤ h'.1) (kk : lx_Ex L xs r h' 18 (lx_al (i + 6)) [] (am_hp sw s2)) : lx_Ex L xs r h' 648 (lx_al i) [] (am_hp sw s) := by
  refine am_Ex.nxs (q := (648, lx_al i, [], (am_hp sw s))) (q' := (649, lx_al i, [.ref 0], (am_hp sw s))) 1 rfl ?_
  refine lx_arg 653 1 (fun _ => rfl) rfl h1 ?_
  refine am_Ex.call (h2 := (am_hp sw s1)) (mno := 108) (As := [.ref 0, .int (xs (i + 1).toNatClampNeg)]) (rest := []) (v := some (.int v)) rfl (r_X11_order 10 sw s s1 ((xs (i + 1).toNatClampNeg)) v e1) (Nat.le_refl _) h20 ?_
  refine am_Ex.nxs (q := (657, lx_al i, [.int v], (am_hp sw s1))) (q' := (658, lx_al i, [.ref 58, .int v], (am_hp sw s1))) 1 rfl ?_
  refine lx_arg 662 1 (fun _ => rfl) rfl h1 ?_
  refine am_Ex.call (h2 := (am_hp sw s2)) (mno := 177) (As := [.ref 58, .int (xs (i + 1).toNatClampNeg)]) (rest := [.int v]) (v := some (.int v)) rfl (r_X12_order 11 sw s1 s2 ((xs (i + 1).toNatClampNeg)) v e2) (Nat.le_refl _) h20 ?_
  exact lx_end (fun _ => rfl) kk
set_option maxRecDepth 20000 in
theorem lx_need {L : Nat} {xs : Nat → Int32} {r : Option Value} {h' : am_H} {i v : Int32} {sw : Bool} {s s1 s2 : am_S} (h1 : am_in (i + 1) L = true) (h2 : am_in (i + 2) L = true) (h3 : am_in (i + 3) L = true) (h4 : am_in (i + 4) L = true) (e1 : f_X11_need s ((xs (i + 1).toNatClampNeg)) ((xs (i + 2).toNatClampNeg)) ((xs (i + 3).toNatClampNeg)) ((xs (i + 4).toNatClampNeg)) = some (v, s1)) (e2 : f_X12_need s1 ((xs (i + 1).toNatClampNeg)) ((xs (i + 2).toNatClampNeg)) ((xs (i + 3).toNatClampNeg)) ((xs (i + 4).toNatClampNeg)) = some (v, s2)) (h20 : 120 ≤ h'.1) (kk : lx_Ex L xs r h' 18 (lx_al (i + 6)) [] (am_hp sw s2)) : lx_Ex L xs r h' 671 (lx_al i) [] (am_hp sw s) := by
  refine am_Ex.nxs (q := (671, lx_al i, [], (am_hp sw s))) (q' := (672, lx_al i, [.ref 0], (am_hp sw s))) 1 rfl ?_
  refine lx_arg 676 1 (fun _ => rfl) rfl h1 ?_
  refine lx_arg 681 2 (fun _ => rfl) rfl h2 ?_
  refine lx_arg 686 3 (fun _ => rfl) rfl h3 ?_
  refine lx_arg 691 4 (fun _ => rfl) rfl h4 ?_
  refine am_Ex.call (h2 := (am_hp sw s1)) (mno := 109) (As := [.ref 0, .int (xs (i + 1).toNatClampNeg), .int (xs (i + 2).toNatClampNeg), .int (xs (i + 3).toNatClampNeg), .int (xs (i + 4).toNatClampNeg)]) (rest := []) (v := some (.int v)) rfl (r_X11_need 9 sw s s1 ((xs (i + 1).toNatClampNeg)) ((xs (i + 2).toNatClampNeg)) ((xs (i + 3).toNatClampNeg)) ((xs (i + 4).toNatClampNeg)) v e1) (Nat.le_refl _) h20 ?_
  refine am_Ex.nxs (q := (695, lx_al i, [.int v], (am_hp sw s1))) (q' := (696, lx_al i, [.ref 58, .int v], (am_hp sw s1))) 1 rfl ?_
  refine lx_arg 700 1 (fun _ => rfl) rfl h1 ?_
  refine lx_arg 705 2 (fun _ => rfl) rfl h2 ?_
  refine lx_arg 710 3 (fun _ => rfl) rfl h3 ?_
  refine lx_arg 715 4 (fun _ => rfl) rfl h4 ?_
  refine am_Ex.call (h2 := (am_hp sw s2)) (mno := 179) (As := [.ref 58, .int (xs (i + 1).toNatClampNeg), .int (xs (i + 2).toNatClampNeg), .int (xs (i + 3).toNatClampNeg), .int (xs (i + 4).toNatClampNeg)]) (rest := [.int v]) (v := some (.int v)) rfl (r_X12_need 10 sw s1 s2 ((xs (i + 1).toNatClampNeg)) ((xs (i + 2).toNatClampNeg)) ((xs (i + 3).toNatClampNeg)) ((xs (i + 4).toNatClampNeg)) v e2) (Nat.le_refl _) h20 ?_
  exact lx_end (fun _ => rfl) kk
set_option maxRecDepth 20000 in
theorem lx_box {L : Nat} {xs : Nat → Int32} {r : Option Value} {h' : am_H} {i v : Int32} {sw : Bool} {s s1 s2 : am_S} (e1 : f_X11_box sw s  = some (v, s1)) (e2 : f_X12_box s1  = some (v, s2)) (h20 : 120 ≤ h'.1) (kk : lx_Ex L xs r h' 18 (lx_al (i + 6)) [] (am_hp sw s2)) : lx_Ex L xs r h' 724 (lx_al i) [] (am_hp sw s) := by
  refine am_Ex.nxs (q := (724, lx_al i, [], (am_hp sw s))) (q' := (725, lx_al i, [.ref 0], (am_hp sw s))) 1 rfl ?_
  refine am_Ex.call (h2 := (am_hp sw s1)) (mno := 110) (As := [.ref 0]) (rest := []) (v := some (.int v)) rfl (r_X11_box 5 sw s s1  v e1) (Nat.le_refl _) h20 ?_
  refine am_Ex.nxs (q := (728, lx_al i, [.int v], (am_hp sw s1))) (q' := (729, lx_al i, [.ref 58, .int v], (am_hp sw s1))) 1 rfl ?_
  refine am_Ex.call (h2 := (am_hp sw s2)) (mno := 186) (As := [.ref 58]) (rest := [.int v]) (v := some (.int v)) rfl (r_X12_box 8 sw s1 s2  v e2) (Nat.le_refl _) h20 ?_
  exact lx_end (fun _ => rfl) kk
set_option maxRecDepth 20000 in
theorem lx_refuse {L : Nat} {xs : Nat → Int32} {r : Option Value} {h' : am_H} {i v : Int32} {sw : Bool} {s s1 s2 : am_S} (h1 : am_in (i + 1) L = true) (e1 : f_X11_refuse s ((xs (i + 1).toNatClampNeg)) = some (v, s1)) (e2 : f_X12_refuse s1 ((xs (i + 1).toNatClampNeg)) = some (v, s2)) (h20 : 120 ≤ h'.1) (kk : lx_Ex L xs r h' 18 (lx_al (i + 6)) [] (am_hp sw s2)) : lx_Ex L xs r h' 737 (lx_al i) [] (am_hp sw s) := by
  refine am_Ex.nxs (q := (737, lx_al i, [], (am_hp sw s))) (q' := (738, lx_al i, [.ref 0], (am_hp sw s))) 1 rfl ?_
  refine lx_arg 742 1 (fun _ => rfl) rfl h1 ?_
  refine am_Ex.call (h2 := (am_hp sw s1)) (mno := 111) (As := [.ref 0, .int (xs (i + 1).toNatClampNeg)]) (rest := []) (v := some (.int v)) rfl (r_X11_refuse 9 sw s s1 ((xs (i + 1).toNatClampNeg)) v e1) (Nat.le_refl _) h20 ?_
  refine am_Ex.nxs (q := (746, lx_al i, [.int v], (am_hp sw s1))) (q' := (747, lx_al i, [.ref 58, .int v], (am_hp sw s1))) 1 rfl ?_
  refine lx_arg 751 1 (fun _ => rfl) rfl h1 ?_
  refine am_Ex.call (h2 := (am_hp sw s2)) (mno := 188) (As := [.ref 58, .int (xs (i + 1).toNatClampNeg)]) (rest := [.int v]) (v := some (.int v)) rfl (r_X12_refuse 10 sw s1 s2 ((xs (i + 1).toNatClampNeg)) v e2) (Nat.le_refl _) h20 ?_
  exact lx_end (fun _ => rfl) kk
set_option maxRecDepth 20000 in
theorem lx_ring {L : Nat} {xs : Nat → Int32} {r : Option Value} {h' : am_H} {i v : Int32} {sw : Bool} {s s1 s2 : am_S} (h1 : am_in (i + 1) L = true) (h2 : am_in (i + 2) L = true) (e1 : f_X11_ring s ((xs (i + 1).toNatClampNeg)) ((xs (i + 2).toNatClampNeg)) = some (v, s1)) (e2 : f_X12_ring s1 ((xs (i + 1).toNatClampNeg)) ((xs (i + 2).toNatClampNeg)) = some (v, s2)) (h20 : 120 ≤ h'.1) (kk : lx_Ex L xs r h' 18 (lx_al (i + 6)) [] (am_hp sw s2)) : lx_Ex L xs r h' 760 (lx_al i) [] (am_hp sw s) := by
  refine am_Ex.nxs (q := (760, lx_al i, [], (am_hp sw s))) (q' := (761, lx_al i, [.ref 0], (am_hp sw s))) 1 rfl ?_
  refine lx_arg 765 1 (fun _ => rfl) rfl h1 ?_
  refine lx_arg 770 2 (fun _ => rfl) rfl h2 ?_
  refine am_Ex.call (h2 := (am_hp sw s1)) (mno := 112) (As := [.ref 0, .int (xs (i + 1).toNatClampNeg), .int (xs (i + 2).toNatClampNeg)]) (rest := []) (v := some (.int v)) rfl (r_X11_ring 10 sw s s1 ((xs (i + 1).toNatClampNeg)) ((xs (i + 2).toNatClampNeg)) v e1) (Nat.le_refl _) h20 ?_
  refine am_Ex.nxs (q := (774, lx_al i, [.int v], (am_hp sw s1))) (q' := (775, lx_al i, [.ref 58, .int v], (am_hp sw s1))) 1 rfl ?_
  refine lx_arg 779 1 (fun _ => rfl) rfl h1 ?_
  refine lx_arg 784 2 (fun _ => rfl) rfl h2 ?_
  refine am_Ex.call (h2 := (am_hp sw s2)) (mno := 189) (As := [.ref 58, .int (xs (i + 1).toNatClampNeg), .int (xs (i + 2).toNatClampNeg)]) (rest := [.int v]) (v := some (.int v)) rfl (r_X12_ring 11 sw s1 s2 ((xs (i + 1).toNatClampNeg)) ((xs (i + 2).toNatClampNeg)) v e2) (Nat.le_refl _) h20 ?_
  exact lx_end (fun _ => rfl) kk
set_option maxRecDepth 20000 in
theorem lx_figure {L : Nat} {xs : Nat → Int32} {r : Option Value} {h' : am_H} {i v : Int32} {sw : Bool} {s s1 s2 : am_S} (h1 : am_in (i + 1) L = true) (h2 : am_in (i + 2) L = true) (e1 : f_X11_figure s ((xs (i + 1).toNatClampNeg)) ((xs (i + 2).toNatClampNeg)) = some (v, s1)) (e2 : f_X12_figure s1 ((xs (i + 1).toNatClampNeg)) ((xs (i + 2).toNatClampNeg)) = some (v, s2)) (h20 : 120 ≤ h'.1) (kk : lx_Ex L xs r h' 18 (lx_al (i + 6)) [] (am_hp sw s2)) : lx_Ex L xs r h' 793 (lx_al i) [] (am_hp sw s) := by
  refine am_Ex.nxs (q := (793, lx_al i, [], (am_hp sw s))) (q' := (794, lx_al i, [.ref 0], (am_hp sw s))) 1 rfl ?_
  refine lx_arg 798 1 (fun _ => rfl) rfl h1 ?_
  refine lx_arg 803 2 (fun _ => rfl) rfl h2 ?_
  refine am_Ex.call (h2 := (am_hp sw s1)) (mno := 113) (As := [.ref 0, .int (xs (i + 1).toNatClampNeg), .int (xs (i + 2).toNatClampNeg)]) (rest := []) (v := some (.int v)) rfl (r_X11_figure 10 sw s s1 ((xs (i + 1).toNatClampNeg)) ((xs (i + 2).toNatClampNeg)) v e1) (Nat.le_refl _) h20 ?_
  refine am_Ex.nxs (q := (807, lx_al i, [.int v], (am_hp sw s1))) (q' := (808, lx_al i, [.ref 58, .int v], (am_hp sw s1))) 1 rfl ?_
  refine lx_arg 812 1 (fun _ => rfl) rfl h1 ?_
  refine lx_arg 817 2 (fun _ => rfl) rfl h2 ?_
  refine am_Ex.call (h2 := (am_hp sw s2)) (mno := 190) (As := [.ref 58, .int (xs (i + 1).toNatClampNeg), .int (xs (i + 2).toNatClampNeg)]) (rest := [.int v]) (v := some (.int v)) rfl (r_X12_figure 10 sw s1 s2 ((xs (i + 1).toNatClampNeg)) ((xs (i + 2).toNatClampNeg)) v e2) (Nat.le_refl _) h20 ?_
  exact lx_end (fun _ => rfl) kk
set_option maxRecDepth 20000 in
theorem lx_packed {L : Nat} {xs : Nat → Int32} {r : Option Value} {h' : am_H} {i v : Int32} {sw : Bool} {s s1 s2 : am_S} (h1 : am_in (i + 1) L = true) (h2 : am_in (i + 2) L = true) (e1 : f_X11_packed s ((xs (i + 1).toNatClampNeg)) ((xs (i + 2).toNatClampNeg)) = some (v, s1)) (e2 : f_X12_packed s1 ((xs (i + 1).toNatClampNeg)) ((xs (i + 2).toNatClampNeg)) = some (v, s2)) (h20 : 120 ≤ h'.1) (kk : lx_Ex L xs r h' 18 (lx_al (i + 6)) [] (am_hp sw s2)) : lx_Ex L xs r h' 826 (lx_al i) [] (am_hp sw s) := by
  refine am_Ex.nxs (q := (826, lx_al i, [], (am_hp sw s))) (q' := (827, lx_al i, [.ref 0], (am_hp sw s))) 1 rfl ?_
  refine lx_arg 831 1 (fun _ => rfl) rfl h1 ?_
  refine lx_arg 836 2 (fun _ => rfl) rfl h2 ?_
  refine am_Ex.call (h2 := (am_hp sw s1)) (mno := 114) (As := [.ref 0, .int (xs (i + 1).toNatClampNeg), .int (xs (i + 2).toNatClampNeg)]) (rest := []) (v := some (.int v)) rfl (r_X11_packed 10 sw s s1 ((xs (i + 1).toNatClampNeg)) ((xs (i + 2).toNatClampNeg)) v e1) (Nat.le_refl _) h20 ?_
  refine am_Ex.nxs (q := (840, lx_al i, [.int v], (am_hp sw s1))) (q' := (841, lx_al i, [.ref 58, .int v], (am_hp sw s1))) 1 rfl ?_
  refine lx_arg 845 1 (fun _ => rfl) rfl h1 ?_
  refine lx_arg 850 2 (fun _ => rfl) rfl h2 ?_
  refine am_Ex.call (h2 := (am_hp sw s2)) (mno := 191) (As := [.ref 58, .int (xs (i + 1).toNatClampNeg), .int (xs (i + 2).toNatClampNeg)]) (rest := [.int v]) (v := some (.int v)) rfl (r_X12_packed 10 sw s1 s2 ((xs (i + 1).toNatClampNeg)) ((xs (i + 2).toNatClampNeg)) v e2) (Nat.le_refl _) h20 ?_
  exact lx_end (fun _ => rfl) kk
set_option maxRecDepth 20000 in
theorem lx_told {L : Nat} {xs : Nat → Int32} {r : Option Value} {h' : am_H} {i v : Int32} {sw : Bool} {s s1 s2 : am_S} (h1 : am_in (i + 1) L = true) (h2 : am_in (i + 2) L = true) (e1 : f_X11_told s ((xs (i + 1).toNatClampNeg)) ((xs (i + 2).toNatClampNeg)) = some (v, s1)) (e2 : f_X12_told s1 ((xs (i + 1).toNatClampNeg)) ((xs (i + 2).toNatClampNeg)) = some (v, s2)) (h20 : 120 ≤ h'.1) (kk : lx_Ex L xs r h' 18 (lx_al (i + 6)) [] (am_hp sw s2)) : lx_Ex L xs r h' 859 (lx_al i) [] (am_hp sw s) := by
  refine am_Ex.nxs (q := (859, lx_al i, [], (am_hp sw s))) (q' := (860, lx_al i, [.ref 0], (am_hp sw s))) 1 rfl ?_
  refine lx_arg 864 1 (fun _ => rfl) rfl h1 ?_
  refine lx_arg 869 2 (fun _ => rfl) rfl h2 ?_
  refine am_Ex.call (h2 := (am_hp sw s1)) (mno := 115) (As := [.ref 0, .int (xs (i + 1).toNatClampNeg), .int (xs (i + 2).toNatClampNeg)]) (rest := []) (v := some (.int v)) rfl (r_X11_told 10 sw s s1 ((xs (i + 1).toNatClampNeg)) ((xs (i + 2).toNatClampNeg)) v e1) (Nat.le_refl _) h20 ?_
  refine am_Ex.nxs (q := (873, lx_al i, [.int v], (am_hp sw s1))) (q' := (874, lx_al i, [.ref 58, .int v], (am_hp sw s1))) 1 rfl ?_
  refine lx_arg 878 1 (fun _ => rfl) rfl h1 ?_
  refine lx_arg 883 2 (fun _ => rfl) rfl h2 ?_
  refine am_Ex.call (h2 := (am_hp sw s2)) (mno := 192) (As := [.ref 58, .int (xs (i + 1).toNatClampNeg), .int (xs (i + 2).toNatClampNeg)]) (rest := [.int v]) (v := some (.int v)) rfl (r_X12_told 10 sw s1 s2 ((xs (i + 1).toNatClampNeg)) ((xs (i + 2).toNatClampNeg)) v e2) (Nat.le_refl _) h20 ?_
  exact lx_end (fun _ => rfl) kk
set_option maxRecDepth 20000 in
theorem lx_found {L : Nat} {xs : Nat → Int32} {r : Option Value} {h' : am_H} {i v : Int32} {sw : Bool} {s s1 s2 : am_S} (h1 : am_in (i + 1) L = true) (h2 : am_in (i + 2) L = true) (e1 : f_X11_found s ((xs (i + 1).toNatClampNeg)) ((xs (i + 2).toNatClampNeg)) = some (v, s1)) (e2 : f_X12_found s1 ((xs (i + 1).toNatClampNeg)) ((xs (i + 2).toNatClampNeg)) = some (v, s2)) (h20 : 120 ≤ h'.1) (kk : lx_Ex L xs r h' 18 (lx_al (i + 6)) [] (am_hp sw s2)) : lx_Ex L xs r h' 892 (lx_al i) [] (am_hp sw s) := by
  refine am_Ex.nxs (q := (892, lx_al i, [], (am_hp sw s))) (q' := (893, lx_al i, [.ref 0], (am_hp sw s))) 1 rfl ?_
  refine lx_arg 897 1 (fun _ => rfl) rfl h1 ?_
  refine lx_arg 902 2 (fun _ => rfl) rfl h2 ?_
  refine am_Ex.call (h2 := (am_hp sw s1)) (mno := 116) (As := [.ref 0, .int (xs (i + 1).toNatClampNeg), .int (xs (i + 2).toNatClampNeg)]) (rest := []) (v := some (.int v)) rfl (r_X11_found 10 sw s s1 ((xs (i + 1).toNatClampNeg)) ((xs (i + 2).toNatClampNeg)) v e1) (Nat.le_refl _) h20 ?_
  refine am_Ex.nxs (q := (906, lx_al i, [.int v], (am_hp sw s1))) (q' := (907, lx_al i, [.ref 58, .int v], (am_hp sw s1))) 1 rfl ?_
  refine lx_arg 911 1 (fun _ => rfl) rfl h1 ?_
  refine lx_arg 916 2 (fun _ => rfl) rfl h2 ?_
  refine am_Ex.call (h2 := (am_hp sw s2)) (mno := 193) (As := [.ref 58, .int (xs (i + 1).toNatClampNeg), .int (xs (i + 2).toNatClampNeg)]) (rest := [.int v]) (v := some (.int v)) rfl (r_X12_found 11 sw s1 s2 ((xs (i + 1).toNatClampNeg)) ((xs (i + 2).toNatClampNeg)) v e2) (Nat.le_refl _) h20 ?_
  exact lx_end (fun _ => rfl) kk
set_option maxRecDepth 20000 in
theorem lx_rest {L : Nat} {xs : Nat → Int32} {r : Option Value} {h' : am_H} {i v : Int32} {sw : Bool} {s s1 s2 : am_S} (h1 : am_in (i + 1) L = true) (h2 : am_in (i + 2) L = true) (e1 : f_X11_rest s ((xs (i + 1).toNatClampNeg)) ((xs (i + 2).toNatClampNeg)) = some (v, s1)) (e2 : f_X12_rest s1 ((xs (i + 1).toNatClampNeg)) ((xs (i + 2).toNatClampNeg)) = some (v, s2)) (h20 : 120 ≤ h'.1) (kk : lx_Ex L xs r h' 18 (lx_al (i + 6)) [] (am_hp sw s2)) : lx_Ex L xs r h' 925 (lx_al i) [] (am_hp sw s) := by
  refine am_Ex.nxs (q := (925, lx_al i, [], (am_hp sw s))) (q' := (926, lx_al i, [.ref 0], (am_hp sw s))) 1 rfl ?_
  refine lx_arg 930 1 (fun _ => rfl) rfl h1 ?_
  refine lx_arg 935 2 (fun _ => rfl) rfl h2 ?_
  refine am_Ex.call (h2 := (am_hp sw s1)) (mno := 117) (As := [.ref 0, .int (xs (i + 1).toNatClampNeg), .int (xs (i + 2).toNatClampNeg)]) (rest := []) (v := some (.int v)) rfl (r_X11_rest 9 sw s s1 ((xs (i + 1).toNatClampNeg)) ((xs (i + 2).toNatClampNeg)) v e1) (Nat.le_refl _) h20 ?_
  refine am_Ex.nxs (q := (939, lx_al i, [.int v], (am_hp sw s1))) (q' := (940, lx_al i, [.ref 58, .int v], (am_hp sw s1))) 1 rfl ?_
  refine lx_arg 944 1 (fun _ => rfl) rfl h1 ?_
  refine lx_arg 949 2 (fun _ => rfl) rfl h2 ?_
  refine am_Ex.call (h2 := (am_hp sw s2)) (mno := 194) (As := [.ref 58, .int (xs (i + 1).toNatClampNeg), .int (xs (i + 2).toNatClampNeg)]) (rest := [.int v]) (v := some (.int v)) rfl (r_X12_rest 9 sw s1 s2 ((xs (i + 1).toNatClampNeg)) ((xs (i + 2).toNatClampNeg)) v e2) (Nat.le_refl _) h20 ?_
  exact lx_end (fun _ => rfl) kk
set_option maxRecDepth 20000 in
theorem lx_money {L : Nat} {xs : Nat → Int32} {r : Option Value} {h' : am_H} {i v : Int32} {sw : Bool} {s s1 s2 : am_S} (h1 : am_in (i + 1) L = true) (e1 : f_X11_money s ((xs (i + 1).toNatClampNeg)) = some (v, s1)) (e2 : f_X12_money s1 ((xs (i + 1).toNatClampNeg)) = some (v, s2)) (h20 : 120 ≤ h'.1) (kk : lx_Ex L xs r h' 18 (lx_al (i + 6)) [] (am_hp sw s2)) : lx_Ex L xs r h' 958 (lx_al i) [] (am_hp sw s) := by
  refine am_Ex.nxs (q := (958, lx_al i, [], (am_hp sw s))) (q' := (959, lx_al i, [.ref 0], (am_hp sw s))) 1 rfl ?_
  refine lx_arg 963 1 (fun _ => rfl) rfl h1 ?_
  refine am_Ex.call (h2 := (am_hp sw s1)) (mno := 118) (As := [.ref 0, .int (xs (i + 1).toNatClampNeg)]) (rest := []) (v := some (.int v)) rfl (r_X11_money 10 sw s s1 ((xs (i + 1).toNatClampNeg)) v e1) (Nat.le_refl _) h20 ?_
  refine am_Ex.nxs (q := (967, lx_al i, [.int v], (am_hp sw s1))) (q' := (968, lx_al i, [.ref 58, .int v], (am_hp sw s1))) 1 rfl ?_
  refine lx_arg 972 1 (fun _ => rfl) rfl h1 ?_
  refine am_Ex.call (h2 := (am_hp sw s2)) (mno := 195) (As := [.ref 58, .int (xs (i + 1).toNatClampNeg)]) (rest := [.int v]) (v := some (.int v)) rfl (r_X12_money 10 sw s1 s2 ((xs (i + 1).toNatClampNeg)) v e2) (Nat.le_refl _) h20 ?_
  exact lx_end (fun _ => rfl) kk
set_option maxRecDepth 20000 in
theorem lx_load {L : Nat} {xs : Nat → Int32} {r : Option Value} {h' : am_H} {i v : Int32} {sw : Bool} {s s1 s2 : am_S} (h1 : am_in (i + 1) L = true) (h2 : am_in (i + 2) L = true) (e1 : f_X11_load s ((xs (i + 1).toNatClampNeg)) ((xs (i + 2).toNatClampNeg)) = some (v, s1)) (e2 : f_X12_load s1 ((xs (i + 1).toNatClampNeg)) ((xs (i + 2).toNatClampNeg)) = some (v, s2)) (h20 : 120 ≤ h'.1) (kk : lx_Ex L xs r h' 18 (lx_al (i + 6)) [] (am_hp sw s2)) : lx_Ex L xs r h' 981 (lx_al i) [] (am_hp sw s) := by
  refine am_Ex.nxs (q := (981, lx_al i, [], (am_hp sw s))) (q' := (982, lx_al i, [.ref 0], (am_hp sw s))) 1 rfl ?_
  refine lx_arg 986 1 (fun _ => rfl) rfl h1 ?_
  refine lx_arg 991 2 (fun _ => rfl) rfl h2 ?_
  refine am_Ex.call (h2 := (am_hp sw s1)) (mno := 119) (As := [.ref 0, .int (xs (i + 1).toNatClampNeg), .int (xs (i + 2).toNatClampNeg)]) (rest := []) (v := some (.int v)) rfl (r_X11_load 9 sw s s1 ((xs (i + 1).toNatClampNeg)) ((xs (i + 2).toNatClampNeg)) v e1) (Nat.le_refl _) h20 ?_
  refine am_Ex.nxs (q := (995, lx_al i, [.int v], (am_hp sw s1))) (q' := (996, lx_al i, [.ref 58, .int v], (am_hp sw s1))) 1 rfl ?_
  refine lx_arg 1000 1 (fun _ => rfl) rfl h1 ?_
  refine lx_arg 1005 2 (fun _ => rfl) rfl h2 ?_
  refine am_Ex.call (h2 := (am_hp sw s2)) (mno := 196) (As := [.ref 58, .int (xs (i + 1).toNatClampNeg), .int (xs (i + 2).toNatClampNeg)]) (rest := [.int v]) (v := some (.int v)) rfl (r_X12_load 10 sw s1 s2 ((xs (i + 1).toNatClampNeg)) ((xs (i + 2).toNatClampNeg)) v e2) (Nat.le_refl _) h20 ?_
  exact lx_end (fun _ => rfl) kk
set_option maxRecDepth 20000 in
theorem lx_waste {L : Nat} {xs : Nat → Int32} {r : Option Value} {h' : am_H} {i v : Int32} {sw : Bool} {s s1 s2 : am_S} (h1 : am_in (i + 1) L = true) (e1 : f_X11_waste s ((xs (i + 1).toNatClampNeg)) = some (v, s1)) (e2 : f_X12_waste s1 ((xs (i + 1).toNatClampNeg)) = some (v, s2)) (h20 : 120 ≤ h'.1) (kk : lx_Ex L xs r h' 18 (lx_al (i + 6)) [] (am_hp sw s2)) : lx_Ex L xs r h' 1014 (lx_al i) [] (am_hp sw s) := by
  refine am_Ex.nxs (q := (1014, lx_al i, [], (am_hp sw s))) (q' := (1015, lx_al i, [.ref 0], (am_hp sw s))) 1 rfl ?_
  refine lx_arg 1019 1 (fun _ => rfl) rfl h1 ?_
  refine am_Ex.call (h2 := (am_hp sw s1)) (mno := 120) (As := [.ref 0, .int (xs (i + 1).toNatClampNeg)]) (rest := []) (v := some (.int v)) rfl (r_X11_waste 11 sw s s1 ((xs (i + 1).toNatClampNeg)) v e1) (Nat.le_refl _) h20 ?_
  refine am_Ex.nxs (q := (1023, lx_al i, [.int v], (am_hp sw s1))) (q' := (1024, lx_al i, [.ref 58, .int v], (am_hp sw s1))) 1 rfl ?_
  refine lx_arg 1028 1 (fun _ => rfl) rfl h1 ?_
  refine am_Ex.call (h2 := (am_hp sw s2)) (mno := 165) (As := [.ref 58, .int (xs (i + 1).toNatClampNeg)]) (rest := [.int v]) (v := some (.int v)) rfl (r_X12_waste 11 sw s1 s2 ((xs (i + 1).toNatClampNeg)) v e2) (Nat.le_refl _) h20 ?_
  exact lx_end (fun _ => rfl) kk
set_option maxRecDepth 20000 in
theorem lx_count {L : Nat} {xs : Nat → Int32} {r : Option Value} {h' : am_H} {i v : Int32} {sw : Bool} {s s1 s2 : am_S} (h1 : am_in (i + 1) L = true) (e1 : f_X11_count sw s ((xs (i + 1).toNatClampNeg)) = some (v, s1)) (e2 : f_X12_count s1 ((xs (i + 1).toNatClampNeg)) = some (v, s2)) (h20 : 120 ≤ h'.1) (kk : lx_Ex L xs r h' 18 (lx_al (i + 6)) [] (am_hp sw s2)) : lx_Ex L xs r h' 1037 (lx_al i) [] (am_hp sw s) := by
  refine am_Ex.nxs (q := (1037, lx_al i, [], (am_hp sw s))) (q' := (1038, lx_al i, [.ref 0], (am_hp sw s))) 1 rfl ?_
  refine lx_arg 1042 1 (fun _ => rfl) rfl h1 ?_
  refine am_Ex.call (h2 := (am_hp sw s1)) (mno := 121) (As := [.ref 0, .int (xs (i + 1).toNatClampNeg)]) (rest := []) (v := some (.int v)) rfl (r_X11_count 10 sw s s1 ((xs (i + 1).toNatClampNeg)) v e1) (Nat.le_refl _) h20 ?_
  refine am_Ex.nxs (q := (1046, lx_al i, [.int v], (am_hp sw s1))) (q' := (1047, lx_al i, [.ref 58, .int v], (am_hp sw s1))) 1 rfl ?_
  refine lx_arg 1051 1 (fun _ => rfl) rfl h1 ?_
  refine am_Ex.call (h2 := (am_hp sw s2)) (mno := 197) (As := [.ref 58, .int (xs (i + 1).toNatClampNeg)]) (rest := [.int v]) (v := some (.int v)) rfl (r_X12_count 11 sw s1 s2 ((xs (i + 1).toNatClampNeg)) v e2) (Nat.le_refl _) h20 ?_
  exact lx_end (fun _ => rfl) kk
