/-! ===== a run gives the contract ===== -/
theorem am_ent_args (ad : Nat → Nat) : ∀ (As : List Value) (k i : Nat), am_ld (am_ent As) i ≠ .null → (k + i, am_cv ad (am_ld (am_ent As) i)) ∈ lv_args k (As.map (am_cv ad)) := by
  intro As
  induction As with
  | nil => intro k i h; exact absurd (by simp [am_ld, am_ent]) h
  | cons v vs ih =>
    intro k i h
    by_cases hc : v.category = 2
    · have e : am_ent (v :: vs) = v :: .null :: am_ent vs := by simp [am_ent, hc]
      rw [e] at h ⊢
      simp only [List.map_cons, lv_args, am_cv_cat, hc, if_true]
      match i with
      | 0 => exact List.mem_cons_self
      | 1 => exact absurd rfl h
      | i + 2 =>
        have h2 := ih (k + 2) i h
        rw [show k + 2 + i = k + (i + 2) by omega] at h2
        exact List.mem_cons_of_mem _ h2
    · have hb : Nat.beq v.category 2 = false := by
        cases hb : Nat.beq v.category 2 with
        | false => rfl
        | true => exact absurd (Nat.eq_of_beq_eq_true hb) hc
      have e : am_ent (v :: vs) = v :: am_ent vs := by simp [am_ent, hb]
      rw [e] at h ⊢
      simp only [List.map_cons, lv_args, am_cv_cat, hc, if_false]
      match i with
      | 0 => exact List.mem_cons_self
      | i + 1 =>
        have h2 := ih (k + 1) i h
        rw [show k + 1 + i = k + (i + 1) by omega] at h2
        exact List.mem_cons_of_mem _ h2
theorem am_ent_len (ad : Nat → Nat) : ∀ (As : List Value), (lg_sl (As.map (am_cv ad))).length = (am_ent As).length := by
  intro As
  induction As with
  | nil => rfl
  | cons v vs ih =>
    by_cases hc : v.category = 2
    · have e : am_ent (v :: vs) = v :: .null :: am_ent vs := by simp [am_ent, hc]
      rw [e]
      simp only [lg_sl, List.map_cons, List.flatMap_cons, am_cv_cat, hc, if_true, List.length_append, List.length_cons, List.length_nil] at ih ⊢
      omega
    · have hb : Nat.beq v.category 2 = false := by
        cases hb : Nat.beq v.category 2 with
        | false => rfl
        | true => exact absurd (Nat.eq_of_beq_eq_true hb) hc
      have e : am_ent (v :: vs) = v :: am_ent vs := by simp [am_ent, hb]
      rw [e]
      simp only [lg_sl, List.map_cons, List.flatMap_cons, am_cv_cat, hc, if_false, List.length_append, List.length_cons, List.length_nil] at ih ⊢
      omega
theorem am_al_ld {nL : Nat} {As : List Value} {i : Nat} (h : am_ld (am_al nL As) i ≠ .null) : am_ld (am_al nL As) i = am_ld (am_ent As) i := by
  unfold am_al at h ⊢
  simp only [am_ld, List.getD_eq_getElem?_getD] at h ⊢
  by_cases hi : i < (am_ent As).length
  · rw [List.getElem?_append_left hi]
  · exfalso
    apply h
    rw [List.getElem?_append_right (by omega)]
    cases hx : (List.replicate (nL - (am_ent As).length) Value.null)[i - (am_ent As).length]? with
    | none => rfl
    | some x => exact List.eq_of_mem_replicate (List.mem_of_getElem? hx)
theorem am_entry {ad : Nat → Nat} {nL : Nat} {As : List Value} (h : (am_ent As).length ≤ nL) : am_L ad nL (am_al nL As) ((lg_sl (As.map (am_cv ad)) ++ List.replicate (nL - (lg_sl (As.map (am_cv ad))).length) Slot.unset).toArray) := by
  have hl := lv_entry (As.map (am_cv ad)) (n := nL) (by rw [am_ent_len]; exact h)
  refine ⟨by simp [am_al]; omega, hl.1, hl.2.1, fun i hi => ?_⟩
  have e := am_al_ld hi
  rw [e] at hi ⊢
  have h2 := am_ent_args ad As 0 i hi
  rw [Nat.zero_add] at h2
  exact hl.2.2 _ h2
section AMH
variable {p : Program} {l : Launch} {e : Env} {R : Room} {s : State} {m : MethodId} {args : Array Value} {below : List Frame} {meth : Method} {c : Code} {Q : State → Prop} {cc : ByteArray} {nL own : Nat} {ini : Bool} {sc : Option (Nat × (Nat → Int32))} {D : va_G} {cA : Nat → ClassId} {B scr : Nat} {adK adV : Nat → Nat} {n0 z0 : Nat}
theorem am_sound {d : Nat} {tb : Nat → Option am_O} {rt : Option FieldType} {r : Option Value} {h' : am_H} (C : am_C p R s m args meth c cc nL own ini sc D cA B scr adK adV h'.1 n0 z0) (hRd : d + 1 ≤ R.frames ∧ 30 * (d + 1) ≤ R.locals)
    (hE : ∀ (mno : Nat) (As : List Value) (h : am_H) (v : Option Value) (h1 : am_H) (M : am_M), am_Run d mno As h v h1 → am_ms mno = some M → M.1 ≠ 98 → Met l M.2.2.1 (Cond.code M.2.2.1 M.2.2.2.1 M.2.2.2.2.1 M.2.2.2.2.2.1 :: am_wd) (am_rm d (h1.1 - h.1) (am_sl h1.1 - am_sl h.1)) (am_Pc D cA B scr adK adV As h) (am_Qc D cA B scr adK v h1) (h1.1 - h.1) (am_sl h1.1 - am_sl h.1) (fun q => B ≤ q))
    (htb : ∀ pc o, tb pc = some o → ∃ i len, decode cc pc = .ok (i, len) ∧ am_mt i len pc o = true)
    (hret : ∀ (pc : Nat) (o : am_O) (al st : List Value) (H : Heap) (locs : List Loc) (ls : Array Slot) (cells slots : Nat), tb pc = some o → am_rt o.1 rt st = some r → am_V nL s D cA B scr adK n0 z0 al h' H locs ls cells slots → W p l e R s m args below meth c H locs cells slots Q (F0 m pc ls (st.map (am_cv (am_ad B scr adK))))) :
    ∀ (n pc : Nat) (al st : List Value) (h : am_H) (H : Heap) (locs : List Loc) (ls : Array Slot) (cells slots : Nat), am_ex tb own ini sc rt (am_Run d) r h' n pc al st h → am_V nL s D cA B scr adK n0 z0 al h H locs ls cells slots → W p l e R s m args below meth c H locs cells slots Q (F0 m pc ls (st.map (am_cv (am_ad B scr adK)))) := by
  intro n
  induction n with
  | zero => intro pc al st h H locs ls cells slots hx; exact hx.elim
  | succ n ih =>
    intro pc al st h H locs ls cells slots hx V
    obtain ⟨o, ho, hx⟩ := hx
    obtain ⟨i, len, hd, hm⟩ := htb pc o ho
    rcases hx with ⟨q, hq, hx⟩ | ⟨kd, idx, mno, w, nst, M, As, rest, v, h1, y1, y2, y3, y4, y5, y6, y7, y8, y9, y10, hx⟩ | ⟨hx, rfl⟩
    · exact am_step C V hd hm hq (fun H1 locs1 ls1 c1 s1 V1 => ih _ _ _ _ _ _ _ _ _ hx V1)
    · have kk : am_kk p l e R s m args below meth c Q nL D cA B scr adK n0 z0 (pc + 3, al, v.toList ++ rest, h1) := fun H1 locs1 ls1 c1 s1 V1 => ih _ _ _ _ _ _ _ _ _ hx V1
      by_cases h98 : M.1 = 98
      · cases d with
        | zero => exact y8.elim
        | succ d =>
          obtain ⟨M', hM', -, z⟩ := y8
          cases y3.symm.trans hM'
          rcases z with ⟨z1, -⟩ | ⟨-, rfl, x, y, rfl, z⟩ | ⟨z1, -⟩
          · rw [h98] at z1; cases z1
          · obtain ⟨M2, hM2, hw1, hw2⟩ := am_cp_ok y2
            cases y3.symm.trans hM2
            obtain ⟨c1, c2, c3, c4, c5, c6, c7, ⟨c8, c9, c10, c11⟩, -⟩ := C
            have hl3 : len = 3 ∧ i = .invokestatic idx := by
              have hk : M.2.2.2.2.2.2.1 = 0 := by
                rcases z with ⟨rfl, -⟩ | ⟨rfl, -⟩ <;> (cases y3; rfl)
              rw [hk] at y4
              subst y4
              have ei : o.1 = .invokestatic idx := by
                generalize o.1 = oi at y1
                cases oi <;> cases y1
                rfl
              cases i <;> simp only [am_mt, Bool.and_eq_true, decide_eq_true_eq] at hm <;> first | (rw [hm.1] at ei; cases ei; done) | (rw [hm.1] at ei; cases ei; exact ⟨hm.2, rfl⟩)
            obtain ⟨rfl, rfl⟩ := hl3
            have V' := V
            obtain ⟨V1, V2, V3, V4, V5, V6⟩ := V'
            have hsl := am_sl_le y9.2
            have hnst : nst = false := by
              cases nst with
              | false => rfl
              | true =>
                exfalso
                have hb : ∀ own, own < 16 → (am_cp0.getD own []).all (fun e => !(e.2.2.2 && (Nat.beq e.2.1 199 || Nat.beq e.2.1 200))) = true := by decide +kernel
                rcases Nat.lt_or_ge own 16 with h16 | h16
                · have h9 := List.all_eq_true.mp (hb own h16) _ (am_lk_mem y2)
                  rcases z with ⟨rfl, -⟩ | ⟨rfl, -⟩ <;> cases h9
                · have e : am_cp0.getD own [] = [] := by simp [am_cp0, List.getElem?_eq_none, h16]
                  rw [am_cp, e] at y2
                  cases y2
            subst hnst
            have hsum : ((rest.map (am_cv (am_ad B scr adK))).map fun v => v.category).sum ≤ 8 := by rw [am_cat_map]; exact y10
            obtain ⟨m1, m2, m4, m5, m6, m7, -⟩ := am_mw_all mno M y3
            subst y5
            have k9 := kk H locs ls cells slots V
            rcases z with ⟨rfl, rfl⟩ | ⟨rfl, rfl⟩
            · cases y3
              exact va_mmax c1 c2 (by rw [c3]; exact V1.2.1.symm) c4 (c5 _ (hw2 rfl)) (c5 _ (m7 rfl)) (c5 _ m2) (c5 _ m1) c10 (Nat.le_trans (Nat.add_le_add_right hsum 13) (by have := hRd.2; omega)) (by omega) (by omega) hd k9
            · cases y3
              exact va_mmin c1 c2 (by rw [c3]; exact V1.2.1.symm) c4 (c5 _ (hw2 rfl)) (c5 _ (m7 rfl)) (c5 _ m2) (c5 _ m1) c10 (Nat.le_trans (Nat.add_le_add_right hsum 13) (by have := hRd.2; omega)) (by omega) (by omega) hd k9
          · rw [h98] at z1
            exact absurd z1 (by decide)
      · have hcl : kd = 1 → M.1 = 99 → M.2.2.1.cls = "java/lang/String" := fun _ h99 => am_99_all mno M y3 h99
        have hcl2 : kd = 1 → M.1 ≠ 99 → am_nm M.1 = M.2.2.1.cls := by
          intro _ h99
          rcases am_mo_all mno M y3 with g | g | g
          · exact absurd g h99
          · exact absurd g h98
          · exact g.2.1
        exact am_call C V hRd hd hm y1 y2 y3 y4 y5 y6 y7 y9 y10 (hE mno As h v h1 M y8 y3 h98) hcl hcl2 kk
    · exact hret pc o al st H locs ls cells slots ho hx V
end AMH
