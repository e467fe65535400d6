/-! ===== steps that read or write the heap, or make a cell (printed by wip/gen/steps2.py) ===== -/
theorem am_cat_map (ad : Nat → Nat) (st : List Value) : ((st.map (am_cv ad)).map fun v => v.category) = st.map fun v => v.category := by
  rw [List.map_map]
  apply List.map_congr_left
  intro v _
  exact am_cv_cat ad v
theorem am_ce_o {cA : Nat → ClassId} {B : Nat} {h : am_H} {c ci : Nat} (hs : am_sh[c]? = some (.inl ci)) : am_ce cA B h c = .inr (ci, (List.range (am_fk ci).length).map (am_fv B h c ci)) := by
  unfold am_ce
  rw [hs]
theorem am_ce_i {cA : Nat → ClassId} {B : Nat} {h : am_H} {c t n : Nat} (hs : am_sh[c]? = some (.inr (t, n))) (ht : t ≠ 2) : am_ce cA B h c = .inl (cA t, n, .inl (h.2.1 c)) := by
  have e : Nat.beq t 2 = false := by cases hb : Nat.beq t 2 with
    | false => rfl
    | true => exact absurd (Nat.eq_of_beq_eq_true hb) ht
  unfold am_ce
  rw [hs]
  dsimp only
  rw [e]
  rfl
theorem am_ce_l {cA : Nat → ClassId} {B : Nat} {h : am_H} {c n : Nat} (hs : am_sh[c]? = some (.inr (2, n))) : am_ce cA B h c = .inl (cA 2, n, .inr (.inl (h.2.2.1 c))) := by
  unfold am_ce
  rw [hs]
  rfl
theorem am_fs_at {B : Nat} {h : am_H} {c ci k : Nat} (hk : k < (am_fk ci).length) : ((List.range (am_fk ci).length).map (am_fv B h c ci))[k]? = some (am_fv B h c ci k) := by
  simp [List.getElem?_map, List.getElem?_range hk]
theorem am_fs_set {B : Nat} {h h' : am_H} {c ci k : Nat} {v : Value} (h1 : am_fv B h' c ci k = v) (h2 : ∀ j, j ≠ k → am_fv B h' c ci j = am_fv B h c ci j) : ((List.range (am_fk ci).length).map (am_fv B h c ci)).set k v = (List.range (am_fk ci).length).map (am_fv B h' c ci) := by
  apply List.ext_getElem?
  intro j
  rw [List.getElem?_set]
  by_cases hj : k = j
  · subst hj
    rw [if_pos rfl]
    by_cases hl : k < (am_fk ci).length
    · rw [if_pos (by simpa using hl), am_fs_at hl, h1]
    · rw [if_neg (by simpa using hl), List.getElem?_eq_none (by simpa using hl)]
  · rw [if_neg hj]
    by_cases hl : j < (am_fk ci).length
    · rw [am_fs_at hl, am_fs_at hl, h2 j (fun q => hj q.symm)]
    · rw [List.getElem?_eq_none (by simpa using hl), List.getElem?_eq_none (by simpa using hl)]
theorem am_sxn_ok : ∀ (L : List (Nat × String)) (i k r : Nat), am_sxn L i k = some r → ∃ j tx, r = k + j ∧ L[j]? = some (i, tx) := by
  intro L
  induction L with
  | nil => intro i k r h; cases h
  | cons a t ih =>
    intro i k r h
    obtain ⟨x, y⟩ := a
    unfold am_sxn at h
    cases hb : Nat.beq x i with
    | true =>
      rw [hb] at h
      cases h
      exact ⟨0, y, rfl, by rw [Nat.eq_of_beq_eq_true hb]; rfl⟩
    | false =>
      rw [hb] at h
      obtain ⟨j, tx, h1, h2⟩ := ih i (k + 1) r h
      exact ⟨j + 1, tx, by omega, by simpa using h2⟩
section AMT
variable {p : Program} {l : Launch} {e : Env} {R : Room} {s : State} {m : MethodId} {args : Array Value} {below : List Frame} {meth : Method} {c : Code} {H : Heap} {locs : List Loc} {cells slots : Nat} {Q : State → Prop} {cc : ByteArray} {pc nL own : Nat} {ini : Bool} {sc : Option (Nat × (Nat → Int32))} {D : va_G} {cA : Nat → ClassId} {B scr : Nat} {adK adV : Nat → Nat} {lim n0 z0 : Nat} {al st : List Value} {h : am_H} {ls : Array Slot} {o : am_O} {q : am_Q}
section AMP
variable {p : Program} {l : Launch} {e : Env} {R : Room} {s : State} {m : MethodId} {args : Array Value} {below : List Frame} {meth : Method} {c : Code} {H : Heap} {locs : List Loc} {cells slots : Nat} {Q : State → Prop}
variable {cc : ByteArray} {pc : Nat} {ls : Array Slot} {rest : List Value} {D : va_G} {cl : List vw_C} {A : Nat → Prop} {a : Nat} {tys : List (ClassId × FieldType)} {ws : va_W} {H0 : Heap}
/-- putfield, plain, of a nest mate, or of a final field within a constructor; the heap keeps its size -/
theorem am_put (hexec : p.tables.exec = Jvm.exec) (hb : c.code = cc) {own ref : String} {q : vw_C} {ci index : Nat} {Ts : List Cond} (hts : ∀ w ∈ Ts, w.before args s = true) (hin : ∀ w ∈ u_ws q.1 q.2.1 q.2.2, w ∈ Ts) (ty0 : Nat → FieldType) (hty : ∀ k, k < q.2.2 → parseFieldDescriptor (q.2.1 k).2.2.1 = some (ty0 k)) (hnm : ∀ a, a < q.2.2 → ∀ b, b < q.2.2 → a ≠ b → (q.2.1 a).2.1 ≠ (q.2.1 b).2.1) (hown : s.vm.findClass own = some m.cls) (hK : va_K D cl tys s) (hP : va_P D cl ws H) (hD : va_D A ws) (hS0 : va_S A H0 H locs) (q0 : Nat) {fs : List Value} (he : ws[q0]? = some (a, .inr (ci, fs))) (hc : cl[ci]? = some q) (k : Nat) (hk : k < q.2.2) (hlink : (Cond.fieldLink own index ref (q.2.1 k).2.1 (q.2.1 k).2.2.1).before args s = true ∨ ∃ host, (Cond.fieldLinkNest own index ref (q.2.1 k).2.1 (q.2.1 k).2.2.1 host).before args s = true ∧ (q.2.1 k).2.2.2 = false) (hsame : ∀ x, s.fieldFound? (q.2.1 k).1 (q.2.1 k).2.1 (q.2.1 k).2.2.1 = some x → s.fieldFound? ref (q.2.1 k).2.1 (q.2.1 k).2.2.1 = some x) (hfin : (q.2.1 k).2.2.2 = false ∨ ((q.2.1 k).2.2.2 = true ∧ meth.name = "<init>" ∧ (q.2.1 k).1 = own)) {ty : FieldType} {v : Value} (hd : parseFieldDescriptor (q.2.1 k).2.2.1 = some ty) (hn : narrow ty v = v) (hfit : fits ty v = true) (hl : k < fs.length)
    (hdg : decode cc pc = .ok (.putfield index, 3)) (kk : ∀ (H1 : Heap) (locs1 : List Loc), va_P D cl (ws.set q0 (a, .inr (ci, fs.set k v))) H1 → va_D A (ws.set q0 (a, .inr (ci, fs.set k v))) → va_S A H0 H1 locs1 → H1.size = H.size → W p l e R s m args below meth c H1 locs1 cells slots Q (F0 m (pc + 3) ls rest)) : W p l e R s m args below meth c H locs cells slots Q (F0 m pc ls (v :: .ref a :: rest)) := by
  have hap := va_apart (own := own) hts hin ty0 hty hnm hK hc
  obtain ⟨r, h1, cell, q1, q2, q3, q4⟩ := hP q0 _ he
  have hr : r = q := Option.some.inj (h1.symm.trans hc)
  subst hr
  obtain ⟨hS, hfc, kC, hkC, hkind⟩ := hK.1 ci _ hc
  obtain ⟨cf, kf, fi, f, hi, hsl⟩ := hS k hk
  have hlay := hts _ (hin _ (u_in_lay hk))
  have hst := (u_facts hfc hkC (u_lays hts hin hk) hi).1
  have fin : ∀ (H' : Heap), H'[a]? = some (cell.setSlot f.slot v) → H'.size = H.size → (∀ x, x ≠ a → H'[x]? = H[x]?) → W p l e R s m args below meth c H' (locs ++ [⟨a, f.slot⟩]) cells slots Q (F0 m (pc + 3) ls rest) := by
    intro H' e1 e2 e3
    rw [hsl] at e1 ⊢
    exact kk H' _ (hP.set hD he ⟨_, hc, t_OB.to (V := updV (vp_V fs) k v) ⟨_, e1, q2, q3, t_set q4 hap hk v⟩ (fun j _ => vp_updV_set hl v j)⟩ e3) (hD.set he) (hS0.put e2 e3 (hD.2 q0 _ he)) e2
  rcases hfin with hfin | ⟨hfin, hin2, hdecl⟩
  · unfold u_lay at hlay
    rw [if_neg (by rw [hfin]; decide)] at hlay
    have h6 := u_store hfc hkC hkind hlay hi hd hn hfit
    rcases hlink with hlink | ⟨host, hlink, -⟩
    · exact W.putK hexec hb (f := f) ⟨hown, hlink, ⟨_, _, _, hsame _ hi⟩, hst⟩ (by rw [q2]; exact h6) q1 q3 (by rw [hsl]; exact k2_hasslot (q4 k hk)) rfl rfl hdg fin
    · exact va_WputK hexec hb (f := f) hown hlink (hsame _ hi) hst (by rw [q2]; exact h6) q1 q3 (by rw [hsl]; exact k2_hasslot (q4 k hk)) rfl rfl hdg fin
  · rcases hlink with hlink | ⟨host, -, hx⟩
    · unfold u_lay at hlay
      rw [if_pos hfin] at hlay
      have hcf : m.cls = cf := by
        obtain ⟨_, _, c', _, _, _, -, -, hf', -, -, -, hown2, -⟩ := Cond.laysFinal_spec hlay
        have e1 : c' = cf := by have := hi.symm.trans hf'; simp at this; exact this.1.symm
        rw [hdecl] at hown2
        rw [← e1]; exact Option.some.inj (hown.symm.trans hown2)
      have h6 := u_fits hfc hkC hkind (Or.inr hlay) hi hd hn hfit
      exact W.putFinK hexec hb hown hlink (hsame _ hi) hst hcf hin2 (by rw [q2]; exact h6) q1 q3 (by rw [hsl]; exact k2_hasslot (q4 k hk)) rfl rfl hdg fin
    · rw [hx] at hfin
      cases hfin
end AMP
theorem am_s_ldc (C : am_C p R s m args meth c cc nL own ini sc D cA B scr adK adV lim n0 z0) (V : am_V nL s D cA B scr adK n0 z0 al h H locs ls cells slots) {i : Nat} (hd : decode cc pc = .ok (.ldc i, 2)) (ho : o.1 = .ldc i) (hn : am_nx lim own ini sc o pc al st h = some q) (kk : am_kk p l e R s m args below meth c Q nL D cA B scr adK n0 z0 q) : W p l e R s m args below meth c H locs cells slots Q (F0 m pc ls (st.map (am_cv (am_ad B scr adK)))) := by
  obtain ⟨k0, len, x0, tg⟩ := o
  cases ho
  simp only [am_nx] at hn
  cases hb : Nat.beq own 9 with
  | false => rw [hb] at hn; cases hn
  | true =>
    rw [hb] at hn
    dsimp only [cond_true] at hn
    split at hn
    · rename_i k hk
      cases hn
      obtain ⟨j, tx, rfl, hj⟩ := am_sxn_ok _ _ _ _ hk
      have ho : own = 9 := Nat.eq_of_beq_eq_true hb
      subst ho
      refine va_ldcS C.1 C.2.1 (own := RX9) C.2.2.2.1 (C.2.2.2.2.2.2.1.2.1 j i tx hj) hd ?_
      have e9 : am_ad B scr adK (1000 + j) = adK j := by
        unfold am_ad
        rw [if_neg (by omega), if_neg (by omega), Nat.add_sub_cancel_left]
      have k9 := kk _ _ _ _ _ V
      simp only [List.map_cons, am_cv] at k9
      rw [e9] at k9
      exact k9
    · cases hn
theorem am_s_getfield (C : am_C p R s m args meth c cc nL own ini sc D cA B scr adK adV lim n0 z0) (V : am_V nL s D cA B scr adK n0 z0 al h H locs ls cells slots) {i : Nat} (hd : decode cc pc = .ok (.getfield i, 3)) (ho : o.1 = .getfield i) (hn : am_nx lim own ini sc o pc al st h = some q) (kk : am_kk p l e R s m args below meth c Q nL D cA B scr adK n0 z0 q) : W p l e R s m args below meth c H locs cells slots Q (F0 m pc ls (st.map (am_cv (am_ad B scr adK)))) := by
  obtain ⟨k0, len, x0, tg⟩ := o
  cases ho
  simp only [am_nx] at hn
  split at hn
  rotate_left
  · cases hn
  rename_i c0 st
  split at hn
  rotate_left
  · cases hn
  rename_i ci k wn cj hfl hsh
  obtain ⟨w, nst⟩ := wn
  cases hb : Nat.beq ci cj && Nat.blt c0 h.1 with
  | false => rw [hb] at hn; cases hn
  | true =>
    rw [hb] at hn
    dsimp only [cond_true] at hn
    simp only [Bool.and_eq_true] at hb
    have e1 : ci = cj := Nat.eq_of_beq_eq_true hb.1
    subst e1
    have hc : c0 < h.1 := Nat.le_of_ble_eq_true hb.2
    obtain ⟨r, hr, hk, hw, hg⟩ := am_fl_ok hfl
    obtain ⟨u1, u2, u3, u4, u5, u6⟩ := am_k1 hr
    have hk2 : k < (am_fk ci).length := by rw [← u5]; exact hk
    have e2 : (Value.ref c0 :: st).map (am_cv (am_ad B scr adK)) = .ref (B + c0) :: st.map (am_cv (am_ad B scr adK)) := by
      simp only [List.map_cons, am_cv]
      rw [am_ad_lo (am_sh_lt hsh)]
    have he : (am_ws cA B h)[c0]? = some (B + c0, .inr (ci, (List.range (am_fk ci).length).map (am_fv B h c0 ci))) := by rw [am_ws_at hc, am_ce_o hsh]
    have hsame : ∀ x, s.fieldFound? (r.2.1 k).1 (r.2.1 k).2.1 (r.2.1 k).2.2.1 = some x → s.fieldFound? r.1 (r.2.1 k).2.1 (r.2.1 k).2.2.1 = some x := fun x hx => by rw [← (u4 k hk).1]; exact hx
    have key : W p l e R s m args below meth c H locs cells slots Q (F0 m (pc + 3) ls (am_fv B h c0 ci k :: st.map (am_cv (am_ad B scr adK)))) := by
      cases hf : (am_fk ci).getD k true with
      | true =>
        rw [hf] at hn
        cases hn
        have k9 := kk _ _ _ _ _ V
        simp only [am_fv, hf, cond_true]
        exact k9
      | false =>
        rw [hf] at hn
        dsimp only [cond_false] at hn
        split at hn
        · cases hn
        · rename_i n hn0
          cases hb2 : Nat.blt n 200 with
          | false => rw [hb2] at hn; cases hn
          | true =>
            rw [hb2] at hn
            cases hn
            have k9 := kk _ _ _ _ _ V
            simp only [List.map_cons, am_cv] at k9
            rw [am_ad_lo (Nat.le_of_ble_eq_true hb2)] at k9
            simp only [am_fv, hf, cond_false, hn0, am_rv]
            exact k9
    rw [e2]
    cases nst with
    | false => exact va_get C.1 C.2.1 C.2.2.2.2.1 u1 C.2.2.2.1 C.2.2.2.2.2.1 V.2.2.1 c0 he hr k hk (C.2.2.2.2.1 _ (hg rfl)) hsame (am_fs_at hk2) hd key
    | true => exact va_getN C.1 C.2.1 C.2.2.2.2.1 u1 C.2.2.2.1 C.2.2.2.2.2.1 V.2.2.1 c0 he hr k hk (va_Nw.use rfl (C.2.2.2.2.2.2.1.1 _ hw rfl)) hsame (am_fs_at hk2) hd key
theorem am_s_putfield (C : am_C p R s m args meth c cc nL own ini sc D cA B scr adK adV lim n0 z0) (V : am_V nL s D cA B scr adK n0 z0 al h H locs ls cells slots) {i : Nat} (hd : decode cc pc = .ok (.putfield i, 3)) (ho : o.1 = .putfield i) (hn : am_nx lim own ini sc o pc al st h = some q) (kk : am_kk p l e R s m args below meth c Q nL D cA B scr adK n0 z0 q) : W p l e R s m args below meth c H locs cells slots Q (F0 m pc ls (st.map (am_cv (am_ad B scr adK)))) := by
  obtain ⟨k0, len, x0, tg⟩ := o
  cases ho
  simp only [am_nx] at hn
  split at hn
  · rename_i x c0 st
    split at hn
    rotate_left
    · cases hn
    rename_i ci k w nst cj hfl hsh
    cases hb : Nat.beq ci cj && (Nat.blt c0 h.1 && ((am_fk ci).getD k false && !(am_ff ci).getD k true)) with
    | false => rw [hb] at hn; cases hn
    | true =>
      rw [hb] at hn
      cases hn
      simp only [Bool.and_eq_true, Bool.not_eq_true'] at hb
      obtain ⟨b1, b2, b3, b4⟩ := hb
      have e1 : ci = cj := Nat.eq_of_beq_eq_true b1
      subst e1
      have hc : c0 < h.1 := Nat.le_of_ble_eq_true b2
      obtain ⟨r, hr, hk, hw, hg⟩ := am_fl_ok hfl
      obtain ⟨u1, u2, u3, u4, u5, u6⟩ := am_k1 hr
      have hk2 : k < (am_fk ci).length := by rw [← u5]; exact hk
      have b5 : (am_fk ci).getD k true = true := by
        rw [List.getD_eq_getElem?_getD, List.getElem?_eq_getElem hk2] at b3 ⊢
        exact b3
      have hfin : (r.2.1 k).2.2.2 = false := by rw [← (u4 k hk).2.1]; exact b4
      have hty : parseFieldDescriptor (r.2.1 k).2.2.1 = some .int := by rw [u2 k hk, (u4 k hk).2.2.1 b5]
      have e2 : (Value.int x :: Value.ref c0 :: st).map (am_cv (am_ad B scr adK)) = .int x :: .ref (B + c0) :: st.map (am_cv (am_ad B scr adK)) := by
        simp only [List.map_cons, am_cv]
        rw [am_ad_lo (am_sh_lt hsh)]
      have he : (am_ws cA B h)[c0]? = some (B + c0, .inr (ci, (List.range (am_fk ci).length).map (am_fv B h c0 ci))) := by rw [am_ws_at hc, am_ce_o hsh]
      have hsame : ∀ x, s.fieldFound? (r.2.1 k).1 (r.2.1 k).2.1 (r.2.1 k).2.2.1 = some x → s.fieldFound? r.1 (r.2.1 k).2.1 (r.2.1 k).2.2.1 = some x := fun x hx => by rw [← (u4 k hk).1]; exact hx
      have hset : (am_ws cA B h).set c0 (B + c0, .inr (ci, ((List.range (am_fk ci).length).map (am_fv B h c0 ci)).set k (.int x))) = am_ws cA B (h.1, am_up h.2.1 c0 k x, h.2.2) := by
        refine am_ws_set rfl ?_ (fun c' hc' => am_ce_eq (am_up_ne _ _ _ hc') rfl rfl)
        rw [am_ce_o hsh, am_fs_set (h' := (h.1, am_up h.2.1 c0 k x, h.2.2))]
        · simp only [am_fv, b5, cond_true]
          simp [am_up]
        · intro j hj
          simp [am_fv, am_up, hj]
      have key : ∀ (H1 : Heap) (locs1 : List Loc), va_P D am_cl ((am_ws cA B h).set c0 (B + c0, .inr (ci, ((List.range (am_fk ci).length).map (am_fv B h c0 ci)).set k (.int x)))) H1 → va_D (fun q => B ≤ q) ((am_ws cA B h).set c0 (B + c0, .inr (ci, ((List.range (am_fk ci).length).map (am_fv B h c0 ci)).set k (.int x)))) → va_S (fun q => B ≤ q) s.heap H1 locs1 → H1.size = H.size → W p l e R s m args below meth c H1 locs1 cells slots Q (F0 m (pc + 3) ls (st.map (am_cv (am_ad B scr adK)))) := by
        intro H1 locs1 hP1 hD1 hS1 hz
        rw [hset] at hP1
        exact kk _ _ _ _ _ ⟨V.1, hz.trans V.2.1, hP1, hS1, V.2.2.2.2⟩
      rw [e2]
      cases nst with
      | false => exact am_put C.1 C.2.1 C.2.2.2.2.1 u1 (am_tf ci) u2 u3 C.2.2.2.1 C.2.2.2.2.2.1 V.2.2.1 am_ws_D V.2.2.2.1 c0 he hr k hk (Or.inl (C.2.2.2.2.1 _ (hg rfl))) hsame (Or.inl hfin) hty rfl rfl (by simpa using hk2) hd key
      | true => exact am_put C.1 C.2.1 C.2.2.2.2.1 u1 (am_tf ci) u2 u3 C.2.2.2.1 C.2.2.2.2.2.1 V.2.2.1 am_ws_D V.2.2.2.1 c0 he hr k hk (Or.inr ⟨"ToyVillage", va_Nw.use rfl (C.2.2.2.2.2.2.1.1 _ hw rfl), hfin⟩) hsame (Or.inl hfin) hty rfl rfl (by simpa using hk2) hd key
  · rename_i n c0 st
    split at hn
    rotate_left
    · cases hn
    rename_i ci k w nst cj hfl hsh
    cases hb : Nat.beq ci cj && (Nat.blt c0 h.1 && (!(am_fk ci).getD k true && (Nat.blt n 200 && (Nat.blt k (am_fk ci).length && (!(am_ff ci).getD k true || (ini && (!nst && Nat.beq ci own))))))) with
    | false => rw [hb] at hn; cases hn
    | true =>
      rw [hb] at hn
      cases hn
      simp only [Bool.and_eq_true, Bool.not_eq_true', Bool.or_eq_true] at hb
      obtain ⟨b1, b2, b3, b4, b5, b6⟩ := hb
      have e1 : ci = cj := Nat.eq_of_beq_eq_true b1
      subst e1
      have hc : c0 < h.1 := Nat.le_of_ble_eq_true b2
      obtain ⟨r, hr, hk, hw, hg⟩ := am_fl_ok hfl
      obtain ⟨u1, u2, u3, u4, u5, u6⟩ := am_k1 hr
      have hk2 : k < (am_fk ci).length := by rw [← u5]; exact hk
      have hty : parseFieldDescriptor (r.2.1 k).2.2.1 = some (am_tf ci k) := u2 k hk
      have hty2 := (u4 k hk).2.2.2 b3
      have hnr : narrow (am_tf ci k) (.ref (B + n)) = .ref (B + n) := by
        rcases hty2 with ⟨z, hz⟩ | ⟨z, hz⟩ <;> rw [hz] <;> rfl
      have hft : fits (am_tf ci k) (.ref (B + n)) = true := by
        rcases hty2 with ⟨z, hz⟩ | ⟨z, hz⟩ <;> rw [hz] <;> rfl
      have e2 : (Value.ref n :: Value.ref c0 :: st).map (am_cv (am_ad B scr adK)) = .ref (B + n) :: .ref (B + c0) :: st.map (am_cv (am_ad B scr adK)) := by
        simp only [List.map_cons, am_cv]
        rw [am_ad_lo (am_sh_lt hsh), am_ad_lo (Nat.le_of_ble_eq_true b4)]
      have he : (am_ws cA B h)[c0]? = some (B + c0, .inr (ci, (List.range (am_fk ci).length).map (am_fv B h c0 ci))) := by rw [am_ws_at hc, am_ce_o hsh]
      have hsame : ∀ x, s.fieldFound? (r.2.1 k).1 (r.2.1 k).2.1 (r.2.1 k).2.2.1 = some x → s.fieldFound? r.1 (r.2.1 k).2.1 (r.2.1 k).2.2.1 = some x := fun x hx => by rw [← (u4 k hk).1]; exact hx
      have hset : (am_ws cA B h).set c0 (B + c0, .inr (ci, ((List.range (am_fk ci).length).map (am_fv B h c0 ci)).set k (.ref (B + n)))) = am_ws cA B (h.1, h.2.1, h.2.2.1, am_up h.2.2.2 c0 k (n + 1)) := by
        refine am_ws_set rfl ?_ (fun c' hc' => am_ce_eq rfl rfl (am_up_ne _ _ _ hc'))
        rw [am_ce_o hsh, am_fs_set (h' := (h.1, h.2.1, h.2.2.1, am_up h.2.2.2 c0 k (n + 1)))]
        · simp only [am_fv, b3, cond_false]
          simp [am_up, am_rv]
        · intro j hj
          simp [am_fv, am_up, hj]
      have key : ∀ (H1 : Heap) (locs1 : List Loc), va_P D am_cl ((am_ws cA B h).set c0 (B + c0, .inr (ci, ((List.range (am_fk ci).length).map (am_fv B h c0 ci)).set k (.ref (B + n))))) H1 → va_D (fun q => B ≤ q) ((am_ws cA B h).set c0 (B + c0, .inr (ci, ((List.range (am_fk ci).length).map (am_fv B h c0 ci)).set k (.ref (B + n))))) → va_S (fun q => B ≤ q) s.heap H1 locs1 → H1.size = H.size → W p l e R s m args below meth c H1 locs1 cells slots Q (F0 m (pc + 3) ls (st.map (am_cv (am_ad B scr adK)))) := by
        intro H1 locs1 hP1 hD1 hS1 hz
        rw [hset] at hP1
        exact kk _ _ _ _ _ ⟨V.1, hz.trans V.2.1, hP1, hS1, V.2.2.2.2⟩
      rw [e2]
      rcases b6 with b6 | ⟨b6, b7, b8⟩
      · have hfin : (r.2.1 k).2.2.2 = false := by rw [← (u4 k hk).2.1]; exact b6
        cases nst with
        | false => exact am_put C.1 C.2.1 C.2.2.2.2.1 u1 (am_tf ci) u2 u3 C.2.2.2.1 C.2.2.2.2.2.1 V.2.2.1 am_ws_D V.2.2.2.1 c0 he hr k hk (Or.inl (C.2.2.2.2.1 _ (hg rfl))) hsame (Or.inl hfin) hty hnr hft (by simpa using hk2) hd key
        | true => exact am_put C.1 C.2.1 C.2.2.2.2.1 u1 (am_tf ci) u2 u3 C.2.2.2.1 C.2.2.2.2.2.1 V.2.2.1 am_ws_D V.2.2.2.1 c0 he hr k hk (Or.inr ⟨"ToyVillage", va_Nw.use rfl (C.2.2.2.2.2.2.1.1 _ hw rfl), hfin⟩) hsame (Or.inl hfin) hty hnr hft (by simpa using hk2) hd key
      · subst b7
        have ho : ci = own := Nat.eq_of_beq_eq_true b8
        subst ho
        have hdcl : (r.2.1 k).1 = am_nm ci := by rw [u6]; exact (u4 k hk).1
        cases hff : (r.2.1 k).2.2.2 with
        | false => exact am_put C.1 C.2.1 C.2.2.2.2.1 u1 (am_tf ci) u2 u3 C.2.2.2.1 C.2.2.2.2.2.1 V.2.2.1 am_ws_D V.2.2.2.1 c0 he hr k hk (Or.inl (C.2.2.2.2.1 _ (hg rfl))) hsame (Or.inl hff) hty hnr hft (by simpa using hk2) hd key
        | true => exact am_put C.1 C.2.1 C.2.2.2.2.1 u1 (am_tf ci) u2 u3 C.2.2.2.1 C.2.2.2.2.2.1 V.2.2.1 am_ws_D V.2.2.2.1 c0 he hr k hk (Or.inl (C.2.2.2.2.1 _ (hg rfl))) hsame (Or.inr ⟨hff, C.2.2.2.2.2.2.2.2.1 b6, hdcl⟩) hty hnr hft (by simpa using hk2) hd key
  · cases hn
end AMT
