/-! ===== arrays, new cells, Object's constructor (printed by wip/gen/steps3.py) ===== -/
def am_tyt (t : Nat) : FieldType := match t with
  | 0 => .int | 1 => .byte | 2 => .long | _ => .boolean
theorem am_ty_at (cA : Nat → ClassId) {t : Nat} (h : t < 4) : (am_ty cA)[t]? = some (cA t, am_tyt t) := by
  match t, h with
  | 0, _ => rfl
  | 1, _ => rfl
  | 2, _ => rfl
  | 3, _ => rfl
section AMU
variable {p : Program} {l : Launch} {e : Env} {R : Room} {s : State} {m : MethodId} {args : Array Value} {below : List Frame} {meth : Method} {c : Code} {H : Heap} {locs : List Loc} {cells slots : Nat} {Q : State → Prop} {cc : ByteArray} {pc nL own : Nat} {ini : Bool} {sc : Option (Nat × (Nat → Int32))} {D : va_G} {cA : Nat → ClassId} {B scr : Nat} {adK adV : Nat → Nat} {lim n0 z0 : Nat} {al st : List Value} {h : am_H} {ls : Array Slot} {o : am_O} {q : am_Q}
theorem am_s_iaload (C : am_C p R s m args meth c cc nL own ini sc D cA B scr adK adV lim n0 z0) (V : am_V nL s D cA B scr adK n0 z0 al h H locs ls cells slots)  (hd : decode cc pc = .ok (.iaload, 1)) (ho : o.1 = .iaload) (hn : am_nx lim own ini sc o pc al st h = some q) (kk : am_kk p l e R s m args below meth c Q nL D cA B scr adK n0 z0 q) : W p l e R s m args below meth c H locs cells slots Q (F0 m pc ls (st.map (am_cv (am_ad B scr adK)))) := by
  obtain ⟨k0, len, x0, tg⟩ := o
  cases ho
  simp only [am_nx] at hn
  split at hn
  rotate_left
  · cases hn
  rename_i i c0 st
  cases hb5 : Nat.beq c0 500 with
  | true =>
    rw [hb5] at hn
    dsimp only [cond_true] at hn
    have e5 : c0 = 500 := Nat.eq_of_beq_eq_true hb5
    subst e5
    split at hn
    · rename_i x hx
      cases hn
      unfold am_sci at hx
      split at hx
      · rename_i L xs
        cases hin : am_in i L with
        | false => rw [hin] at hx; cases hx
        | true =>
          rw [hin] at hx
          cases hx
          obtain ⟨x1, x2, x3⟩ := C.2.2.2.2.2.2.2.2.2.2 L xs rfl
          have e2 : (Value.int i :: Value.ref 500 :: st).map (am_cv (am_ad B scr adK)) = .int i :: .ref scr :: st.map (am_cv (am_ad B scr adK)) := by
            simp [am_cv, am_ad]
          rw [e2]
          exact va_sld C.1 C.2.1 x1 x2 x3 V.2.2.2.1 (am_in_vp hin) hd (kk _ _ _ _ _ V)
      · cases hx
    · cases hn
  | false =>
  rw [hb5] at hn
  dsimp only [cond_false] at hn
  split at hn
  rotate_left
  · cases hn
  rename_i t n hsh
  cases hb : Nat.beq t 0 && (Nat.blt c0 h.1 && am_in i n) with
  | false => rw [hb] at hn; cases hn
  | true =>
      rw [hb] at hn
      cases hn
      simp only [Bool.and_eq_true, Bool.or_eq_true] at hb
      obtain ⟨b1, b2, b3⟩ := hb
      have hc : c0 < h.1 := Nat.le_of_ble_eq_true b2
      have e2 : (Value.int i :: Value.ref c0 :: st).map (am_cv (am_ad B scr adK)) = .int i :: .ref (B + c0) :: st.map (am_cv (am_ad B scr adK)) := by
        simp only [List.map_cons, am_cv]
        rw [am_ad_lo (am_sh_lt hsh)]
      rw [e2]
      have e1 : t = 0 := Nat.eq_of_beq_eq_true b1
      subst e1
      have he : (am_ws cA B h)[c0]? = some (B + c0, .inl (cA 0, n, .inl (h.2.1 c0))) := by rw [am_ws_at hc, am_ce_i hsh (by decide)]
      exact va_iald C.1 C.2.1 C.2.2.2.2.2.1 V.2.2.1 c0 0 he (am_ty_at cA (by decide)) (am_in_vp b3) hd (kk _ _ _ _ _ V)
theorem am_s_laload (C : am_C p R s m args meth c cc nL own ini sc D cA B scr adK adV lim n0 z0) (V : am_V nL s D cA B scr adK n0 z0 al h H locs ls cells slots)  (hd : decode cc pc = .ok (.laload, 1)) (ho : o.1 = .laload) (hn : am_nx lim own ini sc o pc al st h = some q) (kk : am_kk p l e R s m args below meth c Q nL D cA B scr adK n0 z0 q) : W p l e R s m args below meth c H locs cells slots Q (F0 m pc ls (st.map (am_cv (am_ad B scr adK)))) := by
  obtain ⟨k0, len, x0, tg⟩ := o
  cases ho
  simp only [am_nx] at hn
  split at hn
  rotate_left
  · cases hn
  rename_i i c0 st
  split at hn
  rotate_left
  · cases hn
  rename_i t n hsh
  cases hb : Nat.beq t 2 && (Nat.blt c0 h.1 && am_in i n) with
  | false => rw [hb] at hn; cases hn
  | true =>
      rw [hb] at hn
      cases hn
      simp only [Bool.and_eq_true, Bool.or_eq_true] at hb
      obtain ⟨b1, b2, b3⟩ := hb
      have hc : c0 < h.1 := Nat.le_of_ble_eq_true b2
      have e2 : (Value.int i :: Value.ref c0 :: st).map (am_cv (am_ad B scr adK)) = .int i :: .ref (B + c0) :: st.map (am_cv (am_ad B scr adK)) := by
        simp only [List.map_cons, am_cv]
        rw [am_ad_lo (am_sh_lt hsh)]
      rw [e2]
      have e1 : t = 2 := Nat.eq_of_beq_eq_true b1
      subst e1
      have he : (am_ws cA B h)[c0]? = some (B + c0, .inl (cA 2, n, .inr (.inl (h.2.2.1 c0)))) := by rw [am_ws_at hc, am_ce_l hsh]
      exact va_lald C.1 C.2.1 C.2.2.2.2.2.1 V.2.2.1 c0 2 he (am_ty_at cA (by decide)) (am_in_vp b3) hd (kk _ _ _ _ _ V)
theorem am_s_baload (C : am_C p R s m args meth c cc nL own ini sc D cA B scr adK adV lim n0 z0) (V : am_V nL s D cA B scr adK n0 z0 al h H locs ls cells slots)  (hd : decode cc pc = .ok (.baload, 1)) (ho : o.1 = .baload) (hn : am_nx lim own ini sc o pc al st h = some q) (kk : am_kk p l e R s m args below meth c Q nL D cA B scr adK n0 z0 q) : W p l e R s m args below meth c H locs cells slots Q (F0 m pc ls (st.map (am_cv (am_ad B scr adK)))) := by
  obtain ⟨k0, len, x0, tg⟩ := o
  cases ho
  simp only [am_nx] at hn
  split at hn
  rotate_left
  · cases hn
  rename_i i c0 st
  split at hn
  rotate_left
  · cases hn
  rename_i t n hsh
  cases hb : (Nat.beq t 1 || Nat.beq t 3) && (Nat.blt c0 h.1 && am_in i n) with
  | false => rw [hb] at hn; cases hn
  | true =>
      rw [hb] at hn
      cases hn
      simp only [Bool.and_eq_true, Bool.or_eq_true] at hb
      obtain ⟨b1, b2, b3⟩ := hb
      have hc : c0 < h.1 := Nat.le_of_ble_eq_true b2
      have e2 : (Value.int i :: Value.ref c0 :: st).map (am_cv (am_ad B scr adK)) = .int i :: .ref (B + c0) :: st.map (am_cv (am_ad B scr adK)) := by
        simp only [List.map_cons, am_cv]
        rw [am_ad_lo (am_sh_lt hsh)]
      rw [e2]
      rcases b1 with b1 | b1
      · have e1 : t = 1 := Nat.eq_of_beq_eq_true b1
        subst e1
        have he : (am_ws cA B h)[c0]? = some (B + c0, .inl (cA 1, n, .inl (h.2.1 c0))) := by rw [am_ws_at hc, am_ce_i hsh (by decide)]
        exact va_bald C.1 C.2.1 C.2.2.2.2.2.1 V.2.2.1 c0 1 he (am_ty_at cA (by decide)) (am_in_vp b3) hd (kk _ _ _ _ _ V)
      · have e1 : t = 3 := Nat.eq_of_beq_eq_true b1
        subst e1
        have he : (am_ws cA B h)[c0]? = some (B + c0, .inl (cA 3, n, .inl (h.2.1 c0))) := by rw [am_ws_at hc, am_ce_i hsh (by decide)]
        exact va_zald C.1 C.2.1 C.2.2.2.2.2.1 V.2.2.1 c0 3 he (am_ty_at cA (by decide)) (am_in_vp b3) hd (kk _ _ _ _ _ V)
theorem am_ast {ty : FieldType} {t0 n a c0 : Nat} {i : Int32} {v : Value} {z : Nat → Value} (C : am_C p R s m args meth c cc nL own ini sc D cA B scr adK adV lim n0 z0) (V : am_V nL s D cA B scr adK n0 z0 al h H locs ls cells slots) {cell : Cell} {e : va_E} {h1 : am_H}
    (hset : (am_ws cA B h).set c0 (B + c0, e) = am_ws cA B h1) (hz : h1.1 = h.1) (hc : c0 < h.1) {H1 : Heap} (he : va_at D am_cl (B + c0, e) H1) (z1 : H1.size = H.size) (oq : ∀ q : Nat, q ≠ B + c0 → H1[q]? = H[q]?) (j : Nat) : am_V nL s D cA B scr adK n0 z0 al h1 H1 (locs ++ [⟨B + c0, j⟩]) ls cells slots := by
  refine ⟨V.1, by rw [z1, hz]; exact V.2.1, ?_, V.2.2.2.1.put z1 oq (Nat.le_add_right _ _), by rw [hz]; exact V.2.2.2.2.1, by rw [hz]; exact V.2.2.2.2.2⟩
  have h9 := V.2.2.1.set am_ws_D (am_ws_at hc) he oq
  rw [hset] at h9
  exact h9
theorem am_s_iastore (C : am_C p R s m args meth c cc nL own ini sc D cA B scr adK adV lim n0 z0) (V : am_V nL s D cA B scr adK n0 z0 al h H locs ls cells slots)  (hd : decode cc pc = .ok (.iastore, 1)) (ho : o.1 = .iastore) (hn : am_nx lim own ini sc o pc al st h = some q) (kk : am_kk p l e R s m args below meth c Q nL D cA B scr adK n0 z0 q) : W p l e R s m args below meth c H locs cells slots Q (F0 m pc ls (st.map (am_cv (am_ad B scr adK)))) := by
  obtain ⟨k0, len, x0, tg⟩ := o
  cases ho
  simp only [am_nx] at hn
  split at hn
  rotate_left
  · cases hn
  rename_i x i c0 st
  split at hn
  rotate_left
  · cases hn
  rename_i t n hsh
  cases hb : Nat.beq t 0 && (Nat.blt c0 h.1 && am_in i n) with
  | false => rw [hb] at hn; cases hn
  | true =>
      rw [hb] at hn
      cases hn
      simp only [Bool.and_eq_true, Bool.or_eq_true] at hb
      obtain ⟨b1, b2, b3⟩ := hb
      have hc : c0 < h.1 := Nat.le_of_ble_eq_true b2
      have e2 : (Value.int x :: Value.int i :: Value.ref c0 :: st).map (am_cv (am_ad B scr adK)) = .int x :: .int i :: .ref (B + c0) :: st.map (am_cv (am_ad B scr adK)) := by
        simp only [List.map_cons, am_cv]
        rw [am_ad_lo (am_sh_lt hsh)]
      rw [e2]
      have e1 : t = 0 := Nat.eq_of_beq_eq_true b1
      subst e1
      have he : (am_ws cA B h)[c0]? = some (B + c0, .inl (cA 0, n, .inl (h.2.1 c0))) := by rw [am_ws_at hc, am_ce_i hsh (by decide)]
      have hset : (am_ws cA B h).set c0 (B + c0, .inl (cA 0, n, .inl (am_up h.2.1 c0 i.toNatClampNeg x c0))) = am_ws cA B (h.1, am_up h.2.1 c0 i.toNatClampNeg x, h.2.2) :=
        am_ws_set rfl (am_ce_i hsh (by decide)) (fun c' hc' => am_ce_eq (am_up_ne _ _ _ hc') rfl rfl)
      refine W.iast C.1 C.2.1 (V.2.2.1 c0 _ he) ((C.2.2.2.2.2.1.2 0 _ (am_ty_at cA (by decide))).1 n (fun j => .int (h.2.1 c0 j))) (fun q => by cases q) (by show ¬ (i < 0 ∨ (arrV _ _ _).slots.size ≤ _); rw [arrV_size]; exact am_in_vp b3) rfl rfl hd fun H1 e z oq => ?_
      refine kk _ _ _ _ _ (am_ast (ty := .int) (t0 := 0) (n := 0) (a := 0) (i := 0) (v := .null) (z := fun _ => .null) (cell := default) C V hset rfl hc ?_ z oq _)
      show H1[B + c0]? = some (vp_cell _ _)
      rw [e, vp_cell_i, vp_cell_i, arrV_store]
      congr 2
      funext j
      rw [am_up_row]
      by_cases hj : j = i.toNatClampNeg
      · subst hj
        simp [updV, am_nar, narrow]
      · simp [updV, hj]
theorem am_s_lastore (C : am_C p R s m args meth c cc nL own ini sc D cA B scr adK adV lim n0 z0) (V : am_V nL s D cA B scr adK n0 z0 al h H locs ls cells slots)  (hd : decode cc pc = .ok (.lastore, 1)) (ho : o.1 = .lastore) (hn : am_nx lim own ini sc o pc al st h = some q) (kk : am_kk p l e R s m args below meth c Q nL D cA B scr adK n0 z0 q) : W p l e R s m args below meth c H locs cells slots Q (F0 m pc ls (st.map (am_cv (am_ad B scr adK)))) := by
  obtain ⟨k0, len, x0, tg⟩ := o
  cases ho
  simp only [am_nx] at hn
  split at hn
  rotate_left
  · cases hn
  rename_i x i c0 st
  split at hn
  rotate_left
  · cases hn
  rename_i t n hsh
  cases hb : Nat.beq t 2 && (Nat.blt c0 h.1 && am_in i n) with
  | false => rw [hb] at hn; cases hn
  | true =>
      rw [hb] at hn
      cases hn
      simp only [Bool.and_eq_true, Bool.or_eq_true] at hb
      obtain ⟨b1, b2, b3⟩ := hb
      have hc : c0 < h.1 := Nat.le_of_ble_eq_true b2
      have e2 : (Value.long x :: Value.int i :: Value.ref c0 :: st).map (am_cv (am_ad B scr adK)) = .long x :: .int i :: .ref (B + c0) :: st.map (am_cv (am_ad B scr adK)) := by
        simp only [List.map_cons, am_cv]
        rw [am_ad_lo (am_sh_lt hsh)]
      rw [e2]
      have e1 : t = 2 := Nat.eq_of_beq_eq_true b1
      subst e1
      have he : (am_ws cA B h)[c0]? = some (B + c0, .inl (cA 2, n, .inr (.inl (h.2.2.1 c0)))) := by rw [am_ws_at hc, am_ce_l hsh]
      have hset : (am_ws cA B h).set c0 (B + c0, .inl (cA 2, n, .inr (.inl (am_up h.2.2.1 c0 i.toNatClampNeg x c0)))) = am_ws cA B (h.1, h.2.1, am_up h.2.2.1 c0 i.toNatClampNeg x, h.2.2.2) :=
        am_ws_set rfl (am_ce_l hsh) (fun c' hc' => am_ce_eq rfl (am_up_ne _ _ _ hc') rfl)
      refine W.last C.1 C.2.1 (V.2.2.1 c0 _ he) ((C.2.2.2.2.2.1.2 2 _ (am_ty_at cA (by decide))).1 n (fun j => .long (h.2.2.1 c0 j))) (fun q => by cases q) (by show ¬ (i < 0 ∨ (arrV _ _ _).slots.size ≤ _); rw [arrV_size]; exact am_in_vp b3) rfl rfl hd fun H1 e z oq => ?_
      refine kk _ _ _ _ _ (am_ast (ty := .int) (t0 := 0) (n := 0) (a := 0) (i := 0) (v := .null) (z := fun _ => .null) (cell := default) C V hset rfl hc ?_ z oq _)
      show H1[B + c0]? = some (vp_cell _ _)
      rw [e, vp_cell_l, vp_cell_l, arrV_store]
      congr 2
      funext j
      rw [am_up_row]
      by_cases hj : j = i.toNatClampNeg
      · subst hj
        simp [updV]
      · simp [updV, hj]
theorem am_s_bastore (C : am_C p R s m args meth c cc nL own ini sc D cA B scr adK adV lim n0 z0) (V : am_V nL s D cA B scr adK n0 z0 al h H locs ls cells slots)  (hd : decode cc pc = .ok (.bastore, 1)) (ho : o.1 = .bastore) (hn : am_nx lim own ini sc o pc al st h = some q) (kk : am_kk p l e R s m args below meth c Q nL D cA B scr adK n0 z0 q) : W p l e R s m args below meth c H locs cells slots Q (F0 m pc ls (st.map (am_cv (am_ad B scr adK)))) := by
  obtain ⟨k0, len, x0, tg⟩ := o
  cases ho
  simp only [am_nx] at hn
  split at hn
  rotate_left
  · cases hn
  rename_i x i c0 st
  split at hn
  rotate_left
  · cases hn
  rename_i t n hsh
  cases hb : (Nat.beq t 1 || Nat.beq t 3) && (Nat.blt c0 h.1 && am_in i n) with
  | false => rw [hb] at hn; cases hn
  | true =>
      rw [hb] at hn
      cases hn
      simp only [Bool.and_eq_true, Bool.or_eq_true] at hb
      obtain ⟨b1, b2, b3⟩ := hb
      have hc : c0 < h.1 := Nat.le_of_ble_eq_true b2
      have e2 : (Value.int x :: Value.int i :: Value.ref c0 :: st).map (am_cv (am_ad B scr adK)) = .int x :: .int i :: .ref (B + c0) :: st.map (am_cv (am_ad B scr adK)) := by
        simp only [List.map_cons, am_cv]
        rw [am_ad_lo (am_sh_lt hsh)]
      rw [e2]
      rcases b1 with b1 | b1
      · have e1 : t = 1 := Nat.eq_of_beq_eq_true b1
        subst e1
        have he : (am_ws cA B h)[c0]? = some (B + c0, .inl (cA 1, n, .inl (h.2.1 c0))) := by rw [am_ws_at hc, am_ce_i hsh (by decide)]
        have hset : (am_ws cA B h).set c0 (B + c0, .inl (cA 1, n, .inl (am_up h.2.1 c0 i.toNatClampNeg (am_nar 1 x) c0))) = am_ws cA B (h.1, am_up h.2.1 c0 i.toNatClampNeg (am_nar 1 x), h.2.2) :=
          am_ws_set rfl (am_ce_i hsh (by decide)) (fun c' hc' => am_ce_eq (am_up_ne _ _ _ hc') rfl rfl)
        refine W.bast C.1 C.2.1 (V.2.2.1 c0 _ he) ((C.2.2.2.2.2.1.2 1 _ (am_ty_at cA (by decide))).1 n (fun j => .int (h.2.1 c0 j))) (fun q => by cases q) (by show ¬ (i < 0 ∨ (arrV _ _ _).slots.size ≤ _); rw [arrV_size]; exact am_in_vp b3) rfl rfl hd fun H1 e z oq => ?_
        refine kk _ _ _ _ _ (am_ast (ty := .int) (t0 := 0) (n := 0) (a := 0) (i := 0) (v := .null) (z := fun _ => .null) (cell := default) C V hset rfl hc ?_ z oq _)
        show H1[B + c0]? = some (vp_cell _ _)
        rw [e, vp_cell_i, vp_cell_i, arrV_store]
        congr 2
        funext j
        rw [am_up_row]
        by_cases hj : j = i.toNatClampNeg
        · subst hj
          simp [updV, am_nar, narrow]
        · simp [updV, hj]
      · have e1 : t = 3 := Nat.eq_of_beq_eq_true b1
        subst e1
        have he : (am_ws cA B h)[c0]? = some (B + c0, .inl (cA 3, n, .inl (h.2.1 c0))) := by rw [am_ws_at hc, am_ce_i hsh (by decide)]
        have hset : (am_ws cA B h).set c0 (B + c0, .inl (cA 3, n, .inl (am_up h.2.1 c0 i.toNatClampNeg (am_nar 3 x) c0))) = am_ws cA B (h.1, am_up h.2.1 c0 i.toNatClampNeg (am_nar 3 x), h.2.2) :=
          am_ws_set rfl (am_ce_i hsh (by decide)) (fun c' hc' => am_ce_eq (am_up_ne _ _ _ hc') rfl rfl)
        refine W.zast C.1 C.2.1 (V.2.2.1 c0 _ he) ((C.2.2.2.2.2.1.2 3 _ (am_ty_at cA (by decide))).1 n (fun j => .int (h.2.1 c0 j))) (fun q => by cases q) (by show ¬ (i < 0 ∨ (arrV _ _ _).slots.size ≤ _); rw [arrV_size]; exact am_in_vp b3) rfl rfl hd fun H1 e z oq => ?_
        refine kk _ _ _ _ _ (am_ast (ty := .int) (t0 := 0) (n := 0) (a := 0) (i := 0) (v := .null) (z := fun _ => .null) (cell := default) C V hset rfl hc ?_ z oq _)
        show H1[B + c0]? = some (vp_cell _ _)
        rw [e, vp_cell_i, vp_cell_i, arrV_store]
        congr 2
        funext j
        rw [am_up_row]
        by_cases hj : j = i.toNatClampNeg
        · subst hj
          simp [updV, am_nar, narrow]
        · simp [updV, hj]
theorem am_s_arraylength (C : am_C p R s m args meth c cc nL own ini sc D cA B scr adK adV lim n0 z0) (V : am_V nL s D cA B scr adK n0 z0 al h H locs ls cells slots)  (hd : decode cc pc = .ok (.arraylength, 1)) (ho : o.1 = .arraylength) (hn : am_nx lim own ini sc o pc al st h = some q) (kk : am_kk p l e R s m args below meth c Q nL D cA B scr adK n0 z0 q) : W p l e R s m args below meth c H locs cells slots Q (F0 m pc ls (st.map (am_cv (am_ad B scr adK)))) := by
  obtain ⟨k0, len, x0, tg⟩ := o
  cases ho
  simp only [am_nx] at hn
  split at hn
  rotate_left
  · cases hn
  rename_i c0 st
  cases hb5 : Nat.beq c0 500 with
  | true =>
    rw [hb5] at hn
    dsimp only [cond_true] at hn
    have e5 : c0 = 500 := Nat.eq_of_beq_eq_true hb5
    subst e5
    split at hn
    · rename_i L xs
      cases hn
      obtain ⟨x1, x2, x3⟩ := C.2.2.2.2.2.2.2.2.2.2 L xs rfl
      have e2 : (Value.ref 500 :: st).map (am_cv (am_ad B scr adK)) = .ref scr :: st.map (am_cv (am_ad B scr adK)) := by
        simp [am_cv, am_ad]
      rw [e2]
      exact va_slen C.1 C.2.1 x1 x2 x3 V.2.2.2.1 hd (kk _ _ _ _ _ V)
    · cases hn
  | false =>
    rw [hb5] at hn
    dsimp only [cond_false] at hn
    split at hn
    rotate_left
    · cases hn
    rename_i t n hsh
    cases hb : Nat.blt t 4 && Nat.blt c0 h.1 with
    | false => rw [hb] at hn; cases hn
    | true =>
      rw [hb] at hn
      cases hn
      simp only [Bool.and_eq_true] at hb
      have hc : c0 < h.1 := Nat.le_of_ble_eq_true hb.2
      have ht : t < 4 := Nat.le_of_ble_eq_true hb.1
      have e2 : (Value.ref c0 :: st).map (am_cv (am_ad B scr adK)) = .ref (B + c0) :: st.map (am_cv (am_ad B scr adK)) := by
        simp only [List.map_cons, am_cv]
        rw [am_ad_lo (am_sh_lt hsh)]
      rw [e2]
      by_cases h2 : t = 2
      · subst h2
        have he : (am_ws cA B h)[c0]? = some (B + c0, .inl (cA 2, n, .inr (.inl (h.2.2.1 c0)))) := by rw [am_ws_at hc, am_ce_l hsh]
        exact va_alen C.1 C.2.1 C.2.2.2.2.2.1 V.2.2.1 c0 2 he (am_ty_at cA ht) rfl hd (kk _ _ _ _ _ V)
      · have he : (am_ws cA B h)[c0]? = some (B + c0, .inl (cA t, n, .inl (h.2.1 c0))) := by rw [am_ws_at hc, am_ce_i hsh h2]
        exact va_alen C.1 C.2.1 C.2.2.2.2.2.1 V.2.2.1 c0 t he (am_ty_at cA ht) rfl hd (kk _ _ _ _ _ V)
theorem am_s_objinit (C : am_C p R s m args meth c cc nL own ini sc D cA B scr adK adV lim n0 z0) (V : am_V nL s D cA B scr adK n0 z0 al h H locs ls cells slots) {i : Nat} (hd : decode cc pc = .ok (.invokespecial i, 3)) (ho : o.1 = .invokespecial i) (hn : am_nx lim own ini sc o pc al st h = some q) (kk : am_kk p l e R s m args below meth c Q nL D cA B scr adK n0 z0 q) : W p l e R s m args below meth c H locs cells slots Q (F0 m pc ls (st.map (am_cv (am_ad B scr adK)))) := by
  obtain ⟨k0, len, x0, tg⟩ := o
  cases ho
  simp only [am_nx] at hn
  split at hn
  rotate_left
  · cases hn
  rename_i c0 st
  split at hn
  rotate_left
  · cases hn
  rename_i w hob
  cases hb : Nat.blt c0 200 && Nat.ble ((st.map fun v => v.category).sum) 8 with
  | false => rw [hb] at hn; cases hn
  | true =>
    rw [hb] at hn
    cases hn
    simp only [Bool.and_eq_true] at hb
    have hsum : ((st.map (am_cv (am_ad B scr adK))).map fun v => v.category).sum ≤ 8 := by rw [am_cat_map]; exact Nat.le_of_ble_eq_true hb.2
    have hR := C.2.2.2.2.2.2.2.1
    exact W.objInit (g := F0 m pc ls ((Value.ref c0 :: st).map (am_cv (am_ad B scr adK)))) C.1 C.2.1 C.2.2.2.1 (C.2.2.2.2.1 _ (am_ob_ok hob)) (C.2.2.2.2.1 _ am_ob_w.1) (C.2.2.2.2.1 _ am_ob_w.2) rfl (by rw [C.2.2.1]; exact V.1.2.1) rfl hd hR.2.2.1 (by show 2 * 0 + _ + 12 ≤ _; omega) (kk _ _ _ _ _ V)
theorem am_s_new (C : am_C p R s m args meth c cc nL own ini sc D cA B scr adK adV lim n0 z0) (V : am_V nL s D cA B scr adK n0 z0 al h H locs ls cells slots) {i : Nat} (hd : decode cc pc = .ok (.new i, 3)) (ho : o.1 = .new i) (hn : am_nx lim own ini sc o pc al st h = some q) (kk : am_kk p l e R s m args below meth c Q nL D cA B scr adK n0 z0 q) : W p l e R s m args below meth c H locs cells slots Q (F0 m pc ls (st.map (am_cv (am_ad B scr adK)))) := by
  obtain ⟨k0, len, x0, tg⟩ := o
  cases ho
  simp only [am_nx] at hn
  split at hn
  rotate_left
  · cases hn
  rename_i ci w cj hcn hsh
  cases hb : Nat.beq ci cj && Nat.blt h.1 lim with
  | false => rw [hb] at hn; cases hn
  | true =>
    rw [hb] at hn
    cases hn
    simp only [Bool.and_eq_true] at hb
    have e1 : ci = cj := Nat.eq_of_beq_eq_true hb.1
    subst e1
    have hlim : h.1 + 1 ≤ lim := Nat.le_of_ble_eq_true hb.2
    obtain ⟨r, hr, hw1, hw2, hw3⟩ := am_cn_ok hcn
    obtain ⟨u1, u2, u3, u4, u5, u6⟩ := am_k1 hr
    obtain ⟨hR1, hR2, -⟩ := C.2.2.2.2.2.2.2.1
    obtain ⟨v1, v2, v3, v4, v5, v6⟩ := V
    have hsz : am_sz h.1 = r.2.2 := by unfold am_sz; rw [hsh]; exact u5.symm
    have hsl : am_sl (h.1 + 1) = am_sl h.1 + r.2.2 := by rw [am_sl, hsz]
    have hsl2 := am_sl_le hlim
    have hKn := C.2.2.2.2.2.1.1 ci _ hr
    refine W.newcK (g := F0 m pc ls (st.map (am_cv (am_ad B scr adK)))) C.1 C.2.1 C.2.2.2.1 (C.2.2.2.2.1 _ hw1) (C.2.2.2.2.1 _ hw2) (C.2.2.2.2.1 _ hw3) rfl hd (by omega) (by omega) hKn.2.1 v2 fun H1 kC hkC e1 z1 o1 => ?_
    have hpush : am_ws cA B h ++ [(B + h.1, .inr (ci, (List.range (am_fk ci).length).map (am_fv B (h.1 + 1, am_zr h.2.1 h.1 0, h.2.2.1, am_zr h.2.2.2 h.1 0) h.1 ci)))] = am_ws cA B (h.1 + 1, am_zr h.2.1 h.1 0, h.2.2.1, am_zr h.2.2.2 h.1 0) :=
      am_ws_push rfl (am_ce_o hsh) (fun c' hc' => am_ce_eq (am_zr_ne _ _ hc') rfl (am_zr_ne _ _ hc'))
    have hP1 : va_P D am_cl (am_ws cA B (h.1 + 1, am_zr h.2.1 h.1 0, h.2.2.1, am_zr h.2.2.2 h.1 0)) H1 := by
      rw [← hpush]
      refine (v3.kept (fun k x hx => o1 x.1 (by rw [← v2]; exact (v3 k x hx).lt))).app (fun k x hx => ?_)
      have hz : k < 1 := (List.getElem?_eq_some_iff.mp hx).1
      rw [show k = 0 by omega] at hx
      cases hx
      refine ⟨_, hr, (u_born (am_tf ci) C.2.2.2.2.1 u1 hKn hkC e1 u2).to fun k hk => ?_⟩
      have hk2 : k < (am_fk ci).length := by rw [← u5]; exact hk
      rw [vp_V, List.getD_eq_getElem?_getD, am_fs_at hk2]
      show _ = am_fv _ _ _ _ _
      cases hf : (am_fk ci).getD k true with
      | true =>
        rw [(u4 k hk).2.2.1 hf]
        simp only [am_fv, hf, cond_true]
        rw [am_zr_at]
        rfl
      | false =>
        simp only [am_fv, hf, cond_false]
        rw [am_zr_at]
        rcases (u4 k hk).2.2.2 hf with ⟨z, hz⟩ | ⟨z, hz⟩ <;> rw [hz] <;> rfl
    have e2 : am_ad B scr adK h.1 = B + h.1 := am_ad_lo (am_sh_lt hsh)
    have k9 := kk H1 locs ls (cells + 1) (slots + r.2.2) ⟨v1, by rw [z1]; rfl, hP1, ⟨Nat.le_trans v4.1 (by omega), fun x h1 h2 => (o1 x (by rw [← v2]; exact Nat.lt_of_lt_of_le h1 v4.1)).trans (v4.2.1 x h1 h2), v4.2.2⟩, by show h.1 + 1 = _; omega, by show am_sl (h.1 + 1) = _; omega⟩
    simp only [List.map_cons, am_cv] at k9
    rw [e2] at k9
    exact k9
theorem am_s_newarray (C : am_C p R s m args meth c cc nL own ini sc D cA B scr adK adV lim n0 z0) (V : am_V nL s D cA B scr adK n0 z0 al h H locs ls cells slots) {ty : ClassFile.ArrayType} (hd : decode cc pc = .ok (.newarray ty, 2)) (ho : o.1 = .newarray ty) (hn : am_nx lim own ini sc o pc al st h = some q) (kk : am_kk p l e R s m args below meth c Q nL D cA B scr adK n0 z0 q) : W p l e R s m args below meth c H locs cells slots Q (F0 m pc ls (st.map (am_cv (am_ad B scr adK)))) := by
  obtain ⟨k0, len, x0, tg⟩ := o
  cases ho
  simp only [am_nx] at hn
  split at hn
  rotate_left
  · cases hn
  rename_i x st
  split at hn
  rotate_left
  · cases hn
  rename_i t n hsh
  cases hb : Nat.beq t (am_aty ty) && (Nat.blt t 4 && (Nat.blt h.1 lim && (Nat.ble n 3000 && decide (x = Int32.ofNat n)))) with
  | false => rw [hb] at hn; cases hn
  | true =>
    rw [hb] at hn
    cases hn
    simp only [Bool.and_eq_true, decide_eq_true_eq] at hb
    obtain ⟨b1, b2, b3, b4, b5⟩ := hb
    have et : t = am_aty ty := Nat.eq_of_beq_eq_true b1
    have ht4 : t < 4 := Nat.le_of_ble_eq_true b2
    have hlim : h.1 + 1 ≤ lim := Nat.le_of_ble_eq_true b3
    have hn3 : n ≤ 3000 := Nat.le_of_ble_eq_true b4
    subst b5
    have ety : newarray.typeOf ty = am_tyt t := by
      rw [et]
      rw [et] at ht4
      cases ty <;> first | rfl | (simp [am_aty] at ht4)
    obtain ⟨hR1, hR2, -⟩ := C.2.2.2.2.2.2.2.1
    obtain ⟨v1, v2, v3, v4, v5, v6⟩ := V
    have hsz : am_sz h.1 = n := by unfold am_sz; rw [hsh]
    have hsl : am_sl (h.1 + 1) = am_sl h.1 + n := by rw [am_sl, hsz]
    have hsl2 := am_sl_le hlim
    have hx0 : ¬ Int32.ofNat n < 0 := nI_pos (n := n) (by omega)
    have hxN : (Int32.ofNat n).toNatClampNeg = n := nI_clamp (n := n) (by omega)
    have hKt := C.2.2.2.2.2.1.2 t _ (am_ty_at cA ht4)
    have harr : (Cond.arrayClass (newarray.typeOf ty)).before args s = true := by
      rw [ety]
      match t, ht4 with
      | 0, _ => exact C.2.2.2.2.1 _ am_aw.1
      | 1, _ => exact C.2.2.2.2.1 _ am_aw.2.1
      | 2, _ => exact C.2.2.2.2.1 _ am_aw.2.2.1
      | 3, _ => exact C.2.2.2.2.1 _ am_aw.2.2.2
    refine va_newaK (g := F0 m pc ls ((Value.int (Int32.ofNat n) :: st).map (am_cv (am_ad B scr adK)))) C.1 C.2.1 harr rfl hd rfl hx0 hxN (by rw [ety]; match t, ht4 with
      | 0, _ => simp only [am_tyt, componentBytes]; omega
      | 1, _ => simp only [am_tyt, componentBytes]; omega
      | 2, _ => simp only [am_tyt, componentBytes]; omega
      | 3, _ => simp only [am_tyt, componentBytes]; omega) (by omega) (by omega) v2 fun H1 cA' e1 z1 o1 hAr hNm => ?_
    have ecA : cA' = cA t := by
      have h9 := hKt.2
      rw [ety] at hNm
      match t, ht4 with
      | 0, _ => exact Option.some.inj (hNm.symm.trans h9)
      | 1, _ => exact Option.some.inj (hNm.symm.trans h9)
      | 2, _ => exact Option.some.inj (hNm.symm.trans h9)
      | 3, _ => exact Option.some.inj (hNm.symm.trans h9)
    subst ecA
    have hpush : am_ws cA B h ++ [(B + h.1, am_ce cA B (h.1 + 1, am_zr h.2.1 h.1 0, am_zr h.2.2.1 h.1 0, h.2.2.2) h.1)] = am_ws cA B (h.1 + 1, am_zr h.2.1 h.1 0, am_zr h.2.2.1 h.1 0, h.2.2.2) :=
      am_ws_push rfl rfl (fun c' hc' => am_ce_eq (am_zr_ne _ _ hc') (am_zr_ne _ _ hc') rfl)
    have hP1 : va_P D am_cl (am_ws cA B (h.1 + 1, am_zr h.2.1 h.1 0, am_zr h.2.2.1 h.1 0, h.2.2.2)) H1 := by
      rw [← hpush]
      refine (v3.kept (fun k x hx => o1 x.1 (by rw [← v2]; exact (v3 k x hx).lt))).app (fun k x hx => ?_)
      have hz : k < 1 := (List.getElem?_eq_some_iff.mp hx).1
      rw [show k = 0 by omega] at hx
      cases hx
      by_cases h2 : t = 2
      · subst h2
        rw [am_ce_l hsh]
        show H1[_]? = some (vp_cell _ _)
        rw [e1, ety, vp_cell_l]
        dsimp only
        rw [am_zr_at]
        rfl
      · rw [am_ce_i hsh h2]
        show H1[_]? = some (vp_cell _ _)
        rw [e1, ety, vp_cell_i]
        dsimp only
        rw [am_zr_at]
        match t, ht4, h2 with
        | 0, _, _ => rfl
        | 1, _, _ => rfl
        | 3, _, _ => rfl
    have e2 : am_ad B scr adK h.1 = B + h.1 := am_ad_lo (am_sh_lt hsh)
    have k9 := kk H1 locs ls (cells + 1) (slots + n) ⟨v1, by rw [z1]; rfl, hP1, ⟨Nat.le_trans v4.1 (by omega), fun x h1 h2 => (o1 x (by rw [← v2]; exact Nat.lt_of_lt_of_le h1 v4.1)).trans (v4.2.1 x h1 h2), v4.2.2⟩, by show h.1 + 1 = _; omega, by show am_sl (h.1 + 1) = _; omega⟩
    simp only [List.map_cons, am_cv] at k9
    rw [e2] at k9
    exact k9
end AMU
