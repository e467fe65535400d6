/-! ===== runs of the abstract machine, and the contract that a run gives ===== -/
def am_iv (i : Instr) : Option (Nat × Nat) := match i with
  | .invokestatic x => some (0, x)
  | .invokevirtual x => some (1, x)
  | .invokespecial x => some (2, x)
  | _ => none
/-- the receiver of a call -/
def am_rc (kd : Nat) (M : am_M) (h : am_H) (As : List Value) : Bool := match kd with
  | 0 => true
  | 1 => (match As with
    | .ref c :: _ => bif Nat.beq M.1 99 then Nat.ble 1000 c && Nat.blt c 1014 else (match am_sh[c]? with
      | some (.inl ci) => Nat.beq ci M.1 && Nat.blt c h.1
      | _ => false)
    | _ => false)
  | _ => (match As with
    | .ref _ :: _ => true
    | _ => false)
/-- n steps from here, with the answer r and the heap h' at the end -/
def am_ex (tb : Nat → Option am_O) (own : Nat) (ini : Bool) (sc : Option (Nat × (Nat → Int32))) (rt : Option FieldType) (E : Nat → List Value → am_H → Option Value → am_H → Prop) (r : Option Value) (h' : am_H) : Nat → Nat → List Value → List Value → am_H → Prop
  | 0, _, _, _, _ => False
  | n + 1, pc, al, st, h => ∃ o : am_O, tb pc = some o ∧
      ((∃ q : am_Q, am_nx h'.1 own ini sc o pc al st h = some q ∧ am_ex tb own ini sc rt E r h' n q.1 q.2.1 q.2.2.1 q.2.2.2) ∨
       (∃ (kd idx mno w : Nat) (nst : Bool) (M : am_M) (As rest : List Value) (v : Option Value) (h1 : am_H), am_iv o.1 = some (kd, idx) ∧ am_cp own idx = some (mno, w, nst) ∧ am_ms mno = some M ∧ M.2.2.2.2.2.2.1 = kd ∧ st = As.reverse ++ rest ∧ As.length = M.2.2.2.2.2.2.2.1 ∧ am_rc kd M h As = true ∧ E mno As h v h1 ∧ (h.1 ≤ h1.1 ∧ h1.1 ≤ h'.1) ∧ (rest.map fun v => v.category).sum ≤ 8 ∧ am_ex tb own ini sc rt E r h' n (pc + 3) al (v.toList ++ rest) h1) ∨
       (am_rt o.1 rt st = some r ∧ h = h'))
def am_ent : List Value → List Value
  | [] => []
  | v :: vs => bif Nat.beq v.category 2 then v :: .null :: am_ent vs else v :: am_ent vs
def am_al (nL : Nat) (As : List Value) : List Value := am_ent As ++ List.replicate (nL - (am_ent As).length) .null
def am_txt (j : Nat) : List Int32 := am_sb.getD j []
/-- a call's run, by its depth: the library's four members; every other one by its table -/
def am_Run : Nat → Nat → List Value → am_H → Option Value → am_H → Prop
  | 0, _, _, _, _, _ => False
  | d + 1, mno, As, h, r, h' => ∃ M : am_M, am_ms mno = some M ∧ h.1 ≤ h'.1 ∧
      ((M.1 = 99 ∧ 2 ≤ d ∧ h' = h ∧ ∃ j, j < 14 ∧ ((mno = 900 ∧ As = [.ref (1000 + j)] ∧ r = some (.int (nI (am_txt j).length))) ∨ (mno = 901 ∧ ∃ i : Int32, am_in i (am_txt j).length = true ∧ As = [.ref (1000 + j), .int i] ∧ r = some (.int ((am_txt j).getD i.toNatClampNeg 0))))) ∨
       (M.1 = 98 ∧ h' = h ∧ ∃ x y : Int32, As = [.int x, .int y] ∧ ((mno = 199 ∧ r = some (.int (if x < y then y else x))) ∨ (mno = 200 ∧ r = some (.int (if y < x then y else x))))) ∨
       (M.1 < 16 ∧ am_mo M ∧ (am_ent As).length ≤ M.2.2.2.2.1 ∧ (∀ v ∈ As, v ≠ .null) ∧ ∃ n, am_ex M.2.2.2.2.2.2.2.2 M.1 M.2.1 none M.2.2.2.2.2.1 (am_Run d) r h' n 0 (am_al M.2.2.2.2.1 As) [] h))
def am_Pc (D : va_G) (cA : Nat → ClassId) (B scr : Nat) (adK adV : Nat → Nat) (As : List Value) (h : am_H) : Array Value → State → Prop := va_Pc (As.map (am_cv (am_ad B scr adK))) (fun U => U.heap.size = B + h.1 ∧ va_P D am_cl (am_ws cA B h) U.heap ∧ va_K D am_cl (am_ty cA) U ∧ am_sr B adK adV U)
def am_Qc (D : va_G) (cA : Nat → ClassId) (B scr : Nat) (adK : Nat → Nat) (r : Option Value) (h : am_H) : Array Value → State → Outcome → State → Prop := fun _ st oc t => oc = .returned (r.map (am_cv (am_ad B scr adK))) ∧ t.heap.size = B + h.1 ∧ va_P D am_cl (am_ws cA B h) t.heap ∧ va_F (fun q => B ≤ q) st t
def am_rm (d mc ms : Nat) : Room := { frames := d, cells := mc, slots := ms, locals := 30 * d }
theorem am_good : GoodIn am_wd am_wd := fun w hw => ⟨hw, good_of_word (am_wd_good w hw).2⟩
theorem am_goodC {w : Cond} (h : w ∈ am_wd) : GoodIn am_wd (w :: am_wd) := fun x hx => by
  rcases List.mem_cons.mp hx with rfl | hx
  · exact am_good _ h
  · exact am_good _ hx
theorem am_blind {D : va_G} {cA : Nat → ClassId} {B scr : Nat} {adK adV : Nat → Nat} {As : List Value} {h : am_H} : FrameBlind (am_Pc D cA B scr adK adV As h) := by
  intro a U g mk q
  obtain ⟨q0, q1, qP, qK, qS⟩ := q
  exact ⟨q0, q1, qP, va_K.moved (u := U) (U := U.calling g mk a) (Vm.Alike.refl U.vm) qK, am_sr.same (u := U) (U := U.calling g mk a) rfl rfl qS⟩
theorem am_ad_hi {B scr n : Nat} {adK : Nat → Nat} (h : 1000 ≤ n) : am_ad B scr adK n = adK (n - 1000) := by
  unfold am_ad
  rw [if_neg (by omega), if_neg (by omega)]
theorem am_hi14 {n : Nat} (h1 : 1000 ≤ n) (h2 : n < 1014) : n - 1000 < 14 := by omega
theorem am_sh_ci : ∀ (j ci : Nat), am_sh[j]? = some (.inl ci) → ci < 13 := by
  have h8 : ∀ j, j < 120 → (match am_sh[j]? with | some x => (match x with | Sum.inl x => decide (x < 13) | Sum.inr _ => true) | none => true) = true := by decide +kernel
  intro j ci h
  have h7 := h8 j (by have h6 := (List.getElem?_eq_some_iff.mp h).1; have h5 : am_sh.length = 120 := by decide +kernel
                      omega)
  rw [h] at h7
  exact of_decide_eq_true h7
section AMG
variable {p : Program} {l : Launch} {e : Env} {R : Room} {s : State} {m : MethodId} {args : Array Value} {below : List Frame} {meth : Method} {c : Code} {H : Heap} {locs : List Loc} {cells slots : Nat} {Q : State → Prop} {cc : ByteArray} {pc nL own : Nat} {ini : Bool} {sc : Option (Nat × (Nat → Int32))} {D : va_G} {cA : Nat → ClassId} {B scr : Nat} {adK adV : Nat → Nat} {lim n0 z0 : Nat} {al st : List Value} {h h1 : am_H} {ls : Array Slot} {o : am_O} {q : am_Q}
/-- behind a call -/
theorem am_cont {v : Option Value} {rest : List Value} {st0 : List Value} {a : Array Value} (C : am_C p R s m args meth c cc nL own ini sc D cA B scr adK adV lim n0 z0) (V : am_V nL s D cA B scr adK n0 z0 al h H locs ls cells slots) (hle : h.1 ≤ h1.1)
    (hr : va_Run p l e R s m args below meth c H locs cells slots (h1.1 - h.1) (am_sl h1.1 - am_sl h.1) (F0 m pc ls st0) (rest.map (am_cv (am_ad B scr adK))) (am_Qc D cA B scr adK v h1 a) (fun q => B ≤ q))
    (kk : am_kk p l e R s m args below meth c Q nL D cA B scr adK n0 z0 (pc + 3, al, v.toList ++ rest, h1)) : W p l e R s m args below meth c H locs cells slots Q (F0 m pc ls st0) := by
  intro T hT X
  obtain ⟨v', st₀, t, T', L, h0, X', hL, e1, e2, ⟨hv, hz, hP, hF1, hF2⟩, st⟩ := hr T hT X
  have hv' : v' = v.map (am_cv (am_ad B scr adK)) := Outcome.returned.inj hv
  subst hv'
  rw [h0] at hF1 hF2
  obtain ⟨V1, V2, V3, V4, V5, V6⟩ := V
  have hsl := am_sl_le hle
  obtain ⟨t2, a1, b1⟩ := kk t.heap (locs ++ L) ls (cells + (h1.1 - h.1)) (slots + (am_sl h1.1 - am_sl h.1)) ⟨V1, hz, hP, ⟨Nat.le_trans V4.1 hF1, fun x g1 g2 => (hF2 x (Nat.lt_of_lt_of_le g1 V4.1) g2).trans (V4.2.1 x g1 g2), fun x hx => by
      rcases List.mem_append.mp hx with g | g
      · exact V4.2.2 x g
      · exact hL x g⟩, by show h1.1 = _; omega, by show am_sl h1.1 = _; omega⟩ T' e1 X'
  refine ⟨t2, ?_, b1⟩
  apply st t2
  cases v with
  | none => exact a1
  | some v => exact a1
/-- a call of a method with a contract -/
theorem am_call {i : Instr} {len kd idx mno w d : Nat} {nst : Bool} {M : am_M} {As rest : List Value} {v : Option Value} (C : am_C p R s m args meth c cc nL own ini sc D cA B scr adK adV lim n0 z0) (V : am_V nL s D cA B scr adK n0 z0 al h H locs ls cells slots) (hRd : d + 1 ≤ R.frames ∧ 30 * (d + 1) ≤ R.locals)
    (hd : decode cc pc = .ok (i, len)) (hm : am_mt i len pc o = true) (hi : am_iv o.1 = some (kd, idx)) (hcp : am_cp own idx = some (mno, w, nst)) (hms : am_ms mno = some M) (hkd : M.2.2.2.2.2.2.1 = kd) (hst : st = As.reverse ++ rest) (hln : As.length = M.2.2.2.2.2.2.2.1) (hrc : am_rc kd M h As = true) (hle : h.1 ≤ h1.1 ∧ h1.1 ≤ lim) (hsum : (rest.map fun v => v.category).sum ≤ 8)
    (hMet : Met l M.2.2.1 (Cond.code M.2.2.1 M.2.2.2.1 M.2.2.2.2.1 M.2.2.2.2.2.1 :: am_wd) (am_rm d (h1.1 - h.1) (am_sl h1.1 - am_sl h.1)) (am_Pc D cA B scr adK adV As h) (am_Qc D cA B scr adK v h1) (h1.1 - h.1) (am_sl h1.1 - am_sl h.1) (fun q => B ≤ q))
    (hcls : kd = 1 → M.1 = 99 → M.2.2.1.cls = "java/lang/String") (hcls2 : kd = 1 → M.1 ≠ 99 → am_nm M.1 = M.2.2.1.cls)
    (kk : am_kk p l e R s m args below meth c Q nL D cA B scr adK n0 z0 (pc + 3, al, v.toList ++ rest, h1)) : W p l e R s m args below meth c H locs cells slots Q (F0 m pc ls (st.map (am_cv (am_ad B scr adK)))) := by
  obtain ⟨M', hM', hw1, hw2⟩ := am_cp_ok hcp
  cases hms.symm.trans hM'
  obtain ⟨m1, m2, m4, m5, m6, m7, m8, m9, m10⟩ := am_mw_all mno M hms
  have C' := C
  obtain ⟨c1, c2, c3, c4, c5, c6, c7, ⟨c8, c9, -, -⟩, c10, c11, c12⟩ := C'
  have V' := V
  obtain ⟨V1, V2, V3, V4, V5, V6⟩ := V'
  have hfix : CallFix p m c cc nL s args am_wd (am_nm own) := ⟨c1, c2, c3, c4, c5⟩
  have hroom : (am_rm d (h1.1 - h.1) (am_sl h1.1 - am_sl h.1)).frames + 1 ≤ R.frames ∧ 8 + (M.2.2.2.2.1 + 11) + (am_rm d (h1.1 - h.1) (am_sl h1.1 - am_sl h.1)).locals ≤ R.locals := by
    refine ⟨hRd.1, ?_⟩
    show 8 + (M.2.2.2.2.1 + 11) + 30 * d ≤ R.locals
    omega
  have hsl1 := am_sl_le hle.1
  have hsl2 := am_sl_le hle.2
  have hf : cells + (h1.1 - h.1) ≤ R.cells ∧ slots + (am_sl h1.1 - am_sl h.1) ≤ R.slots := ⟨by omega, by omega⟩
  have hsum' : 2 * (F0 m pc ls (st.map (am_cv (am_ad B scr adK)))).monitorRoom + ((rest.map (am_cv (am_ad B scr adK))).map fun v => v.category).sum ≤ 8 := by
    rw [am_cat_map]
    show 2 * 0 + _ ≤ 8
    omega
  have hpre : ∀ U : State, U.heap = H → s.WarmedH U.vm → am_Pc D cA B scr adK adV As h (As.map (am_cv (am_ad B scr adK))).toArray U := fun U hU hW =>
    ⟨rfl, by rw [hU]; exact V2, by rw [hU]; exact V3, va_K.moved hW.alike c6, am_sr.to hW (fun x g1 g2 => by rw [hU]; exact V4.2.1 x g1 g2) c7⟩
  have hgd : GoodIn am_wd (Cond.code M.2.2.1 M.2.2.2.1 M.2.2.2.2.1 M.2.2.2.2.2.1 :: am_wd) := am_goodC m1
  have hnl : ls.size = nL := V1.2.1
  have hil : am_iv i = some (kd, idx) ∧ len = 3 ∧ o.1 = i := by
    have key : o.1 = i ∧ len = am_ln i → am_iv i = some (kd, idx) ∧ len = 3 ∧ o.1 = i := by
      rintro ⟨e1, e2⟩
      rw [e1] at hi
      refine ⟨hi, ?_, e1⟩
      rw [e2]
      cases i <;> first | rfl | cases hi
    cases i <;> simp only [am_mt, Bool.and_eq_true, decide_eq_true_eq] at hm <;> first | exact key hm | (rw [hm.1] at hi; cases hi)
  obtain ⟨hi2, rfl, -⟩ := hil
  refine am_cont (a := (As.map (am_cv (am_ad B scr adK))).toArray) C V hle.1 ?_ kk
  subst hst
  have hstk : (As.reverse ++ rest).map (am_cv (am_ad B scr adK)) = (As.map (am_cv (am_ad B scr adK))).reverse ++ rest.map (am_cv (am_ad B scr adK)) := by
    rw [List.map_append, List.map_reverse]
  cases i with
  | invokestatic x =>
    cases hi2
    rw [hkd] at m5
    have hst0 := c5 _ (m7 hkd)
    have hll : (As.map (am_cv (am_ad B scr adK))).length = M.2.2.2.2.2.2.2.1 := by rw [List.length_map]; exact hln
    cases nst with
    | false =>
      exact va_runS hfix hMet ⟨callB_of M.2.2.2.2.2.2.2.1 c5 hgd rfl rfl rfl (c5 _ m2) (c5 _ (hw2 rfl)) ⟨m4.1, m4.2, m5⟩ hroom, hst0⟩ ⟨am_blind, hpre⟩ rfl hll hnl hstk hsum' hd hf
    | true =>
      exact va_runSN hfix hMet ⟨va_cnB M.2.2.2.2.2.2.2.1 c5 hgd rfl rfl rfl (c7.1 _ hw1 rfl) (c5 _ m2) ⟨m4.1, m4.2, m5⟩ hroom, hst0, trivial⟩ ⟨am_blind, hpre⟩ rfl hll hnl hstk hsum' hd hf
  | invokevirtual x =>
    cases hi2
    rw [hkd] at m5
    obtain ⟨k1, k2⟩ := m8 hkd
    cases As with
    | nil => cases hrc
    | cons a0 At =>
      cases a0 with
      | ref c0 =>
        have hll : (At.map (am_cv (am_ad B scr adK))).length = M.2.2.2.2.2.2.2.1 - 1 := by
          rw [List.length_map]
          simp only [List.length_cons] at hln
          omega
        have hcell : ∃ cellB : Cell, H[am_ad B scr adK c0]? = some cellB ∧ cellB.vm.isStatics = false ∧ s.vm.findClass M.2.2.1.cls = some cellB.cls := by
          simp only [am_rc] at hrc
          cases h99 : Nat.beq M.1 99 with
          | true =>
            rw [h99] at hrc
            simp only [cond_true, Bool.and_eq_true] at hrc
            have g1 : 1000 ≤ c0 := Nat.le_of_ble_eq_true hrc.1
            have g2 : c0 < 1014 := Nat.le_of_ble_eq_true hrc.2
            rw [hcls rfl (Nat.eq_of_beq_eq_true h99)]
            rw [am_ad_hi g1]
            exact vk_recv c7.2.2.1 (am_hi14 g1 g2) V4
          | false =>
            rw [h99] at hrc
            simp only [cond_false] at hrc
            split at hrc
            · rename_i ci hsh
              simp only [Bool.and_eq_true] at hrc
              have g1 : ci = M.1 := Nat.eq_of_beq_eq_true hrc.1
              have g2 : c0 < h.1 := Nat.le_of_ble_eq_true hrc.2
              have hci : ci < 13 := am_sh_ci _ _ hsh
              have hcl : ∃ r, am_cl[ci]? = some r := ⟨am_cl[ci]'hci, List.getElem?_eq_getElem hci⟩
              obtain ⟨r, hr⟩ := hcl
              have u6 := (am_k1 hr).2.2.2.2.2
              have h9 := va_recv c6 V3 (ci := ci) (q0 := c0) hr (by rw [am_ws_at g2, am_ce_o hsh])
              rw [am_ad_lo (am_sh_lt hsh)]
              obtain ⟨cellB, q1, q2, q3⟩ := h9
              refine ⟨cellB, q1, q2, ?_⟩
              rw [← hcls2 rfl (fun e => by rw [e] at h99; cases h99), ← g1, u6]
              exact q3
            · cases hrc
        have hpv : PreV s H M.2.2.1.cls (am_ad B scr adK c0) (am_Pc D cA B scr adK adV (.ref c0 :: At) h) (At.map (am_cv (am_ad B scr adK))) := ⟨am_blind, hcell, hpre⟩
        have hstk2 : ((Value.ref c0 :: At).reverse ++ rest).map (am_cv (am_ad B scr adK)) = (At.map (am_cv (am_ad B scr adK))).reverse ++ .ref (am_ad B scr adK c0) :: rest.map (am_cv (am_ad B scr adK)) := by
          rw [hstk]
          simp [am_cv]
        cases nst with
        | false =>
          exact va_runV (C := M.2.2.1.cls) hfix hMet ⟨callB_of (M.2.2.2.2.2.2.2.1 - 1) c5 hgd rfl rfl rfl (c5 _ m2) (c5 _ (hw2 rfl)) ⟨m4.1, m4.2, m5⟩ hroom, c5 _ k1, c5 _ k2⟩ hpv rfl hll hnl hstk2 hsum' hd hf
        | true =>
          exact va_runVN (C := M.2.2.1.cls) hfix hMet ⟨va_cnB (M.2.2.2.2.2.2.2.1 - 1) c5 hgd rfl rfl rfl (c7.1 _ hw1 rfl) (c5 _ m2) ⟨m4.1, m4.2, m5⟩ hroom, c5 _ k1, c5 _ k2⟩ hpv rfl hll hnl hstk2 hsum' hd hf
      | _ => cases hrc
  | invokespecial x =>
    cases hi2
    rw [hkd] at m5
    obtain ⟨k1, k2⟩ := m9 hkd
    cases As with
    | nil => cases hrc
    | cons a0 At =>
      cases a0 with
      | ref c0 =>
        have hll : (At.map (am_cv (am_ad B scr adK))).length = M.2.2.2.2.2.2.2.1 - 1 := by
          rw [List.length_map]
          simp only [List.length_cons] at hln
          omega
        have hstk2 : ((Value.ref c0 :: At).reverse ++ rest).map (am_cv (am_ad B scr adK)) = (At.map (am_cv (am_ad B scr adK))).reverse ++ .ref (am_ad B scr adK c0) :: rest.map (am_cv (am_ad B scr adK)) := by
          rw [hstk]
          simp [am_cv]
        have hret : M.2.2.2.2.2.1 = none := am_k2_all mno M hms hkd
        rw [hret] at hMet hgd
        cases nst with
        | false =>
          exact va_runI hfix hMet ⟨callB_of (M.2.2.2.2.2.2.2.1 - 1) c5 hgd rfl rfl rfl (c5 _ m2) (c5 _ (hw2 rfl)) ⟨m4.1, m4.2, m5⟩ hroom, k2, c5 _ k1⟩ ⟨am_blind, hpre⟩ rfl hll hnl hstk2 hsum' hd hf
        | true =>
          exact va_runIN hfix hMet ⟨va_cnB (M.2.2.2.2.2.2.2.1 - 1) c5 hgd rfl rfl rfl (c7.1 _ hw1 rfl) (c5 _ m2) ⟨m4.1, m4.2, m5⟩ hroom, k2, c5 _ k1⟩ ⟨am_blind, hpre⟩ rfl hll hnl hstk2 hsum' hd hf
      | _ => cases hrc
  | _ => cases hi2
end AMG
