/-! ===== the library's String members on the scanner's constants (printed by wip/gen/jdk.py) ===== -/
theorem dJ0_length_8abf5_0 : decode cJ0_length_8abf5 0 = .ok (.aload_n 0, 1) := by decide +kernel
theorem dJ0_length_8abf5_1 : decode cJ0_length_8abf5 1 = .ok (.getfield 9, 3) := by decide +kernel
theorem dJ0_length_8abf5_4 : decode cJ0_length_8abf5 4 = .ok (.arraylength, 1) := by decide +kernel
theorem dJ0_length_8abf5_5 : decode cJ0_length_8abf5 5 = .ok (.aload_n 0, 1) := by decide +kernel
theorem dJ0_length_8abf5_6 : decode cJ0_length_8abf5 6 = .ok (.invokevirtual 335, 3) := by decide +kernel
theorem dJ0_length_8abf5_9 : decode cJ0_length_8abf5 9 = .ok (.ishr, 1) := by decide +kernel
theorem dJ0_length_8abf5_10 : decode cJ0_length_8abf5 10 = .ok (.ireturn, 1) := by decide +kernel
theorem dJ0_charAt_5068e_0 : decode cJ0_charAt_5068e 0 = .ok (.aload_n 0, 1) := by decide +kernel
theorem dJ0_charAt_5068e_1 : decode cJ0_charAt_5068e 1 = .ok (.invokevirtual 492, 3) := by decide +kernel
theorem dJ0_charAt_5068e_4 : decode cJ0_charAt_5068e 4 = .ok (.ifCond .eq 12, 3) := by decide +kernel
theorem dJ0_charAt_5068e_7 : decode cJ0_charAt_5068e 7 = .ok (.aload_n 0, 1) := by decide +kernel
theorem dJ0_charAt_5068e_8 : decode cJ0_charAt_5068e 8 = .ok (.getfield 9, 3) := by decide +kernel
theorem dJ0_charAt_5068e_11 : decode cJ0_charAt_5068e 11 = .ok (.iload_n 1, 1) := by decide +kernel
theorem dJ0_charAt_5068e_12 : decode cJ0_charAt_5068e 12 = .ok (.invokestatic 495, 3) := by decide +kernel
theorem dJ0_charAt_5068e_15 : decode cJ0_charAt_5068e 15 = .ok (.ireturn, 1) := by decide +kernel
theorem dJ0_charAt_5068e_16 : decode cJ0_charAt_5068e 16 = .ok (.aload_n 0, 1) := by decide +kernel
theorem dJ0_charAt_5068e_17 : decode cJ0_charAt_5068e 17 = .ok (.getfield 9, 3) := by decide +kernel
theorem dJ0_charAt_5068e_20 : decode cJ0_charAt_5068e 20 = .ok (.iload_n 1, 1) := by decide +kernel
theorem dJ0_charAt_5068e_21 : decode cJ0_charAt_5068e 21 = .ok (.invokestatic 498, 3) := by decide +kernel
theorem dJ0_charAt_5068e_24 : decode cJ0_charAt_5068e 24 = .ok (.ireturn, 1) := by decide +kernel
theorem dJ0_coder_7d493_0 : decode cJ0_coder_7d493 0 = .ok (.getstatic 38, 3) := by decide +kernel
theorem dJ0_coder_7d493_3 : decode cJ0_coder_7d493 3 = .ok (.ifCond .eq 10, 3) := by decide +kernel
theorem dJ0_coder_7d493_6 : decode cJ0_coder_7d493 6 = .ok (.aload_n 0, 1) := by decide +kernel
theorem dJ0_coder_7d493_7 : decode cJ0_coder_7d493 7 = .ok (.getfield 15, 3) := by decide +kernel
theorem dJ0_coder_7d493_10 : decode cJ0_coder_7d493 10 = .ok (.goto 4, 3) := by decide +kernel
theorem dJ0_coder_7d493_13 : decode cJ0_coder_7d493 13 = .ok (.iconst 1, 1) := by decide +kernel
theorem dJ0_coder_7d493_14 : decode cJ0_coder_7d493 14 = .ok (.ireturn, 1) := by decide +kernel
theorem dJ0_isLatin1_aae02_0 : decode cJ0_isLatin1_aae02 0 = .ok (.getstatic 38, 3) := by decide +kernel
theorem dJ0_isLatin1_aae02_3 : decode cJ0_isLatin1_aae02 3 = .ok (.ifCond .eq 14, 3) := by decide +kernel
theorem dJ0_isLatin1_aae02_6 : decode cJ0_isLatin1_aae02 6 = .ok (.aload_n 0, 1) := by decide +kernel
theorem dJ0_isLatin1_aae02_7 : decode cJ0_isLatin1_aae02 7 = .ok (.getfield 15, 3) := by decide +kernel
theorem dJ0_isLatin1_aae02_10 : decode cJ0_isLatin1_aae02 10 = .ok (.ifCond .ne 7, 3) := by decide +kernel
theorem dJ0_isLatin1_aae02_13 : decode cJ0_isLatin1_aae02 13 = .ok (.iconst 1, 1) := by decide +kernel
theorem dJ0_isLatin1_aae02_14 : decode cJ0_isLatin1_aae02 14 = .ok (.goto 4, 3) := by decide +kernel
theorem dJ0_isLatin1_aae02_17 : decode cJ0_isLatin1_aae02 17 = .ok (.iconst 0, 1) := by decide +kernel
theorem dJ0_isLatin1_aae02_18 : decode cJ0_isLatin1_aae02 18 = .ok (.ireturn, 1) := by decide +kernel
theorem dJ0_checkIndex_df160_0 : decode cJ0_checkIndex_df160 0 = .ok (.iload_n 0, 1) := by decide +kernel
theorem dJ0_checkIndex_df160_1 : decode cJ0_checkIndex_df160 1 = .ok (.iload_n 1, 1) := by decide +kernel
theorem dJ0_checkIndex_df160_2 : decode cJ0_checkIndex_df160 2 = .ok (.getstatic 1053, 3) := by decide +kernel
theorem dJ0_checkIndex_df160_5 : decode cJ0_checkIndex_df160 5 = .ok (.invokestatic 1059, 3) := by decide +kernel
theorem dJ0_checkIndex_df160_8 : decode cJ0_checkIndex_df160 8 = .ok (.pop, 1) := by decide +kernel
theorem dJ0_checkIndex_df160_9 : decode cJ0_checkIndex_df160 9 = .ok (.return_, 1) := by decide +kernel
theorem dJ1_charAt_3b067_0 : decode cJ1_charAt_3b067 0 = .ok (.iload_n 1, 1) := by decide +kernel
theorem dJ1_charAt_3b067_1 : decode cJ1_charAt_3b067 1 = .ok (.aload_n 0, 1) := by decide +kernel
theorem dJ1_charAt_3b067_2 : decode cJ1_charAt_3b067 2 = .ok (.arraylength, 1) := by decide +kernel
theorem dJ1_charAt_3b067_3 : decode cJ1_charAt_3b067 3 = .ok (.invokestatic 9, 3) := by decide +kernel
theorem dJ1_charAt_3b067_6 : decode cJ1_charAt_3b067 6 = .ok (.aload_n 0, 1) := by decide +kernel
theorem dJ1_charAt_3b067_7 : decode cJ1_charAt_3b067 7 = .ok (.iload_n 1, 1) := by decide +kernel
theorem dJ1_charAt_3b067_8 : decode cJ1_charAt_3b067 8 = .ok (.baload, 1) := by decide +kernel
theorem dJ1_charAt_3b067_9 : decode cJ1_charAt_3b067 9 = .ok (.sipush 255, 3) := by decide +kernel
theorem dJ1_charAt_3b067_12 : decode cJ1_charAt_3b067 12 = .ok (.iand, 1) := by decide +kernel
theorem dJ1_charAt_3b067_13 : decode cJ1_charAt_3b067 13 = .ok (.i2c, 1) := by decide +kernel
theorem dJ1_charAt_3b067_14 : decode cJ1_charAt_3b067 14 = .ok (.ireturn, 1) := by decide +kernel
theorem dJ3_checkIndex_8e157_0 : decode cJ3_checkIndex_8e157 0 = .ok (.iload_n 0, 1) := by decide +kernel
theorem dJ3_checkIndex_8e157_1 : decode cJ3_checkIndex_8e157 1 = .ok (.ifCond .lt 8, 3) := by decide +kernel
theorem dJ3_checkIndex_8e157_4 : decode cJ3_checkIndex_8e157 4 = .ok (.iload_n 0, 1) := by decide +kernel
theorem dJ3_checkIndex_8e157_5 : decode cJ3_checkIndex_8e157 5 = .ok (.iload_n 1, 1) := by decide +kernel
theorem dJ3_checkIndex_8e157_6 : decode cJ3_checkIndex_8e157 6 = .ok (.if_icmp .lt 10, 3) := by decide +kernel
theorem dJ3_checkIndex_8e157_9 : decode cJ3_checkIndex_8e157 9 = .ok (.aload_n 2, 1) := by decide +kernel
theorem dJ3_checkIndex_8e157_10 : decode cJ3_checkIndex_8e157 10 = .ok (.iload_n 0, 1) := by decide +kernel
theorem dJ3_checkIndex_8e157_11 : decode cJ3_checkIndex_8e157 11 = .ok (.iload_n 1, 1) := by decide +kernel
theorem dJ3_checkIndex_8e157_12 : decode cJ3_checkIndex_8e157 12 = .ok (.invokestatic 95, 3) := by decide +kernel
theorem dJ3_checkIndex_8e157_15 : decode cJ3_checkIndex_8e157 15 = .ok (.athrow, 1) := by decide +kernel
theorem dJ3_checkIndex_8e157_16 : decode cJ3_checkIndex_8e157 16 = .ok (.iload_n 0, 1) := by decide +kernel
theorem dJ3_checkIndex_8e157_17 : decode cJ3_checkIndex_8e157 17 = .ok (.ireturn, 1) := by decide +kernel
def jd_P (D : va_G) (cA : Nat → ClassId) (B : Nat) (adK adV : Nat → Nat) (av : List Value) (h : am_H) : Array Value → State → Prop := va_Pc av (fun U => U.heap.size = B + h.1 ∧ va_P D am_cl (am_ws cA B h) U.heap ∧ va_K D am_cl (am_ty cA) U ∧ am_sr B adK adV U)
def jd_Q (r : Option Value) : Array Value → State → Outcome → State → Prop := fun _ st oc t => oc = .returned r ∧ t.heap = st.heap
theorem jd_blind {D : va_G} {cA : Nat → ClassId} {B : Nat} {adK adV : Nat → Nat} {av : List Value} {h : am_H} : FrameBlind (jd_P D cA B adK adV av h) := by
  intro a U g mk q
  obtain ⟨q0, q1, qP, qK, qS⟩ := q
  exact ⟨q0, q1, qP, va_K.moved (u := U) (U := U.calling g mk a) (Vm.Alike.refl U.vm) qK, am_sr.same (u := U) (U := U.calling g mk a) rfl rfl qS⟩
theorem jd_len : ∀ j, j < 14 → (am_sb.map List.length).getD j 0 = (am_txt j).length ∧ (am_txt j).length < 100 ∧ ∀ k, k < (am_txt j).length → (((am_txt j).getD k 0 &&& 255).toUInt32 % 65536).toInt32 = (am_txt j).getD k 0 ∧ narrow .char (.int ((am_txt j).getD k 0)) = .int ((am_txt j).getD k 0) := by decide +kernel
set_option maxRecDepth 20000 in
theorem jd_coder (l : Launch) (D : va_G) (cA : Nat → ClassId) (B : Nat) (adK adV : Nat → Nat) (h : am_H) (d : Nat) (j : Nat) (hj : j < 14) : Met l yJ0_coder_7d493 (Cond.code yJ0_coder_7d493 cJ0_coder_7d493 1 (some .byte) :: am_wd) (am_rm d 0 0) (jd_P D cA B adK adV [.ref (adK j)] h) (jd_Q (some (.int 0))) 0 0 (fun _ => False) := by
  refine Met.ofW (cc := cJ0_coder_7d493) (maxL := 1) (ret := (some .byte)) (by decide +kernel) rfl ?_
  intro p e s m args below meth c s₁ BB hml hv
  obtain ⟨rfl, hsz, hP, hK, hsr⟩ := hv
  have hx := BB.exec
  have hb := BB.bytes
  have hr := BB.returns
  have hts := atoms_spec (ws := Cond.code yJ0_coder_7d493 cJ0_coder_7d493 1 (some .byte) :: am_wd) BB.pre
  have hown : s.vm.findClass RJ0 = some m.cls := findClass_of_methodNamed BB.named
  have hlocks := BB.notSynchronized
  have hS : va_S (fun q => B ≤ q) s.heap s.heap [] := va_S.rf
  have hpre : ∀ (av : List Value) (U : State), U.heap = s.heap → s.WarmedH U.vm → jd_P D cA B adK adV av h av.toArray U := fun av U hU hW => ⟨rfl, by rw [hU]; exact hsz, by rw [hU]; exact hP, va_K.moved hW.alike hK, am_sr.to hW (fun x _ _ => by rw [hU]) hsr⟩
  have hl := lv_entry [.ref (adK j)] (n := 1) (Nat.le_of_ble_eq_true rfl)
  rw [lg_entry_eq]
  generalize (lg_sl [.ref (adK j)] ++ List.replicate (1 - (lg_sl [.ref (adK j)]).length) Slot.unset).toArray = ls at hl ⊢
  have hl : lv_has ls 1 [(0, .ref (adK j))] := hl
  refine va_gets hx hb hsr.2.2.2.1 hS hown (hts _ (List.mem_cons_of_mem _ (am_wat 522 rfl rfl))) (fun _ h => h) dJ0_coder_7d493_0 ?_
  refine lv_if_eq (tgt := 13) hx hb dJ0_coder_7d493_3 (by decide) (fun hc => absurd hc (by decide)) (fun _ => ?_)
  refine lv_aload_n hx hb dJ0_coder_7d493_6 rfl (lv_at hl 0 rfl) ?_
  refine vk_getf hx hb (hsr.2.2.1.1 j hj).2.1 hS hown (hts _ (List.mem_cons_of_mem _ (am_wat 1529 rfl rfl))) (fun _ h => h) dJ0_coder_7d493_7 ?_
  refine lv_goto (tgt := 14) hx hb dJ0_coder_7d493_10 (by decide) ?_
  exact W.zret hx hb hr (by decide) (fun t ht hW => ⟨rfl, ht⟩) (fun _ hq => by cases hq) dJ0_coder_7d493_14
set_option maxRecDepth 20000 in
theorem jd_isLatin1 (l : Launch) (D : va_G) (cA : Nat → ClassId) (B : Nat) (adK adV : Nat → Nat) (h : am_H) (d : Nat) (j : Nat) (hj : j < 14) : Met l yJ0_isLatin1_aae02 (Cond.code yJ0_isLatin1_aae02 cJ0_isLatin1_aae02 1 (some .boolean) :: am_wd) (am_rm d 0 0) (jd_P D cA B adK adV [.ref (adK j)] h) (jd_Q (some (.int 1))) 0 0 (fun _ => False) := by
  refine Met.ofW (cc := cJ0_isLatin1_aae02) (maxL := 1) (ret := (some .boolean)) (by decide +kernel) rfl ?_
  intro p e s m args below meth c s₁ BB hml hv
  obtain ⟨rfl, hsz, hP, hK, hsr⟩ := hv
  have hx := BB.exec
  have hb := BB.bytes
  have hr := BB.returns
  have hts := atoms_spec (ws := Cond.code yJ0_isLatin1_aae02 cJ0_isLatin1_aae02 1 (some .boolean) :: am_wd) BB.pre
  have hown : s.vm.findClass RJ0 = some m.cls := findClass_of_methodNamed BB.named
  have hlocks := BB.notSynchronized
  have hS : va_S (fun q => B ≤ q) s.heap s.heap [] := va_S.rf
  have hpre : ∀ (av : List Value) (U : State), U.heap = s.heap → s.WarmedH U.vm → jd_P D cA B adK adV av h av.toArray U := fun av U hU hW => ⟨rfl, by rw [hU]; exact hsz, by rw [hU]; exact hP, va_K.moved hW.alike hK, am_sr.to hW (fun x _ _ => by rw [hU]) hsr⟩
  have hl := lv_entry [.ref (adK j)] (n := 1) (Nat.le_of_ble_eq_true rfl)
  rw [lg_entry_eq]
  generalize (lg_sl [.ref (adK j)] ++ List.replicate (1 - (lg_sl [.ref (adK j)]).length) Slot.unset).toArray = ls at hl ⊢
  have hl : lv_has ls 1 [(0, .ref (adK j))] := hl
  refine va_gets hx hb hsr.2.2.2.1 hS hown (hts _ (List.mem_cons_of_mem _ (am_wat 522 rfl rfl))) (fun _ h => h) dJ0_isLatin1_aae02_0 ?_
  refine lv_if_eq (tgt := 17) hx hb dJ0_isLatin1_aae02_3 (by decide) (fun hc => absurd hc (by decide)) (fun _ => ?_)
  refine lv_aload_n hx hb dJ0_isLatin1_aae02_6 rfl (lv_at hl 0 rfl) ?_
  refine vk_getf hx hb (hsr.2.2.1.1 j hj).2.1 hS hown (hts _ (List.mem_cons_of_mem _ (am_wat 1529 rfl rfl))) (fun _ h => h) dJ0_isLatin1_aae02_7 ?_
  refine lv_if_ne (tgt := 17) hx hb dJ0_isLatin1_aae02_10 (by decide) (fun hc => absurd rfl hc) (fun _ => ?_)
  refine lv_iconst (v := 1) hx hb dJ0_isLatin1_aae02_13 (by decide) ?_
  refine lv_goto (tgt := 18) hx hb dJ0_isLatin1_aae02_14 (by decide) ?_
  exact W.zret hx hb hr (by decide) (fun t ht hW => ⟨rfl, ht⟩) (fun _ hq => by cases hq) dJ0_isLatin1_aae02_18
set_option maxRecDepth 20000 in
theorem jd_preN (l : Launch) (D : va_G) (cA : Nat → ClassId) (B : Nat) (adK adV : Nat → Nat) (h : am_H) (d : Nat) (x n : Int32) (h0 : ¬ x < 0) (hn : x < n) : Met l yJ3_checkIndex_8e157 (Cond.code yJ3_checkIndex_8e157 cJ3_checkIndex_8e157 3 (some .int) :: am_wd) (am_rm d 0 0) (jd_P D cA B adK adV [.int x, .int n, .null] h) (jd_Q (some (.int x))) 0 0 (fun _ => False) := by
  refine Met.ofW (cc := cJ3_checkIndex_8e157) (maxL := 3) (ret := (some .int)) (by decide +kernel) rfl ?_
  intro p e s m args below meth c s₁ BB hml hv
  obtain ⟨rfl, hsz, hP, hK, hsr⟩ := hv
  have hx := BB.exec
  have hb := BB.bytes
  have hr := BB.returns
  have hts := atoms_spec (ws := Cond.code yJ3_checkIndex_8e157 cJ3_checkIndex_8e157 3 (some .int) :: am_wd) BB.pre
  have hown : s.vm.findClass RJ3 = some m.cls := findClass_of_methodNamed BB.named
  have hlocks := BB.notSynchronized
  have hS : va_S (fun q => B ≤ q) s.heap s.heap [] := va_S.rf
  have hpre : ∀ (av : List Value) (U : State), U.heap = s.heap → s.WarmedH U.vm → jd_P D cA B adK adV av h av.toArray U := fun av U hU hW => ⟨rfl, by rw [hU]; exact hsz, by rw [hU]; exact hP, va_K.moved hW.alike hK, am_sr.to hW (fun x _ _ => by rw [hU]) hsr⟩
  have hl := lv_entry [.int x, .int n, .null] (n := 3) (Nat.le_of_ble_eq_true rfl)
  rw [lg_entry_eq]
  generalize (lg_sl [.int x, .int n, .null] ++ List.replicate (3 - (lg_sl [.int x, .int n, .null]).length) Slot.unset).toArray = ls at hl ⊢
  have hl : lv_has ls 3 [(0, .int x), (1, .int n), (2, .null)] := hl
  refine lv_iload_n hx hb dJ3_checkIndex_8e157_0 rfl (lv_at hl 0 rfl) ?_
  refine lv_if_lt (tgt := 9) hx hb dJ3_checkIndex_8e157_1 (by decide) (fun hc => absurd hc h0) (fun _ => ?_)
  refine lv_iload_n hx hb dJ3_checkIndex_8e157_4 rfl (lv_at hl 0 rfl) ?_
  refine lv_iload_n hx hb dJ3_checkIndex_8e157_5 rfl (lv_at hl 1 rfl) ?_
  refine lv_icmp_lt (tgt := 16) hx hb dJ3_checkIndex_8e157_6 (by decide) (fun _ => ?_) (fun hc => absurd hn hc)
  refine lv_iload_n hx hb dJ3_checkIndex_8e157_16 rfl (lv_at hl 0 rfl) ?_
  exact W.iret hx hb hr (fun t ht hW => ⟨rfl, ht⟩) (fun _ hq => by cases hq) dJ3_checkIndex_8e157_17
set_option maxRecDepth 20000 in
theorem jd_preR (l : Launch) (D : va_G) (cA : Nat → ClassId) (B : Nat) (adK adV : Nat → Nat) (h : am_H) (d : Nat) (t0 : Nat) (x n : Int32) (h0 : ¬ x < 0) (hn : x < n) : Met l yJ3_checkIndex_8e157 (Cond.code yJ3_checkIndex_8e157 cJ3_checkIndex_8e157 3 (some .int) :: am_wd) (am_rm d 0 0) (jd_P D cA B adK adV [.int x, .int n, .ref t0] h) (jd_Q (some (.int x))) 0 0 (fun _ => False) := by
  refine Met.ofW (cc := cJ3_checkIndex_8e157) (maxL := 3) (ret := (some .int)) (by decide +kernel) rfl ?_
  intro p e s m args below meth c s₁ BB hml hv
  obtain ⟨rfl, hsz, hP, hK, hsr⟩ := hv
  have hx := BB.exec
  have hb := BB.bytes
  have hr := BB.returns
  have hts := atoms_spec (ws := Cond.code yJ3_checkIndex_8e157 cJ3_checkIndex_8e157 3 (some .int) :: am_wd) BB.pre
  have hown : s.vm.findClass RJ3 = some m.cls := findClass_of_methodNamed BB.named
  have hlocks := BB.notSynchronized
  have hS : va_S (fun q => B ≤ q) s.heap s.heap [] := va_S.rf
  have hpre : ∀ (av : List Value) (U : State), U.heap = s.heap → s.WarmedH U.vm → jd_P D cA B adK adV av h av.toArray U := fun av U hU hW => ⟨rfl, by rw [hU]; exact hsz, by rw [hU]; exact hP, va_K.moved hW.alike hK, am_sr.to hW (fun x _ _ => by rw [hU]) hsr⟩
  have hl := lv_entry [.int x, .int n, .ref t0] (n := 3) (Nat.le_of_ble_eq_true rfl)
  rw [lg_entry_eq]
  generalize (lg_sl [.int x, .int n, .ref t0] ++ List.replicate (3 - (lg_sl [.int x, .int n, .ref t0]).length) Slot.unset).toArray = ls at hl ⊢
  have hl : lv_has ls 3 [(0, .int x), (1, .int n), (2, .ref t0)] := hl
  refine lv_iload_n hx hb dJ3_checkIndex_8e157_0 rfl (lv_at hl 0 rfl) ?_
  refine lv_if_lt (tgt := 9) hx hb dJ3_checkIndex_8e157_1 (by decide) (fun hc => absurd hc h0) (fun _ => ?_)
  refine lv_iload_n hx hb dJ3_checkIndex_8e157_4 rfl (lv_at hl 0 rfl) ?_
  refine lv_iload_n hx hb dJ3_checkIndex_8e157_5 rfl (lv_at hl 1 rfl) ?_
  refine lv_icmp_lt (tgt := 16) hx hb dJ3_checkIndex_8e157_6 (by decide) (fun _ => ?_) (fun hc => absurd hn hc)
  refine lv_iload_n hx hb dJ3_checkIndex_8e157_16 rfl (lv_at hl 0 rfl) ?_
  exact W.iret hx hb hr (fun t ht hW => ⟨rfl, ht⟩) (fun _ hq => by cases hq) dJ3_checkIndex_8e157_17
set_option maxRecDepth 20000 in
theorem jd_ci (l : Launch) (D : va_G) (cA : Nat → ClassId) (B : Nat) (adK adV : Nat → Nat) (h : am_H) (d : Nat) (hd : 1 ≤ d) (x n : Int32) (h0 : ¬ x < 0) (hn : x < n) : Met l yJ0_checkIndex_df160 (Cond.code yJ0_checkIndex_df160 cJ0_checkIndex_df160 2 none :: am_wd) (am_rm d 0 0) (jd_P D cA B adK adV [.int x, .int n] h) (jd_Q none) 0 0 (fun _ => False) := by
  refine Met.ofW (cc := cJ0_checkIndex_df160) (maxL := 2) (ret := none) (by decide +kernel) rfl ?_
  intro p e s m args below meth c s₁ BB hml hv
  obtain ⟨rfl, hsz, hP, hK, hsr⟩ := hv
  have hx := BB.exec
  have hb := BB.bytes
  have hr := BB.returns
  have hts := atoms_spec (ws := Cond.code yJ0_checkIndex_df160 cJ0_checkIndex_df160 2 none :: am_wd) BB.pre
  have hown : s.vm.findClass RJ0 = some m.cls := findClass_of_methodNamed BB.named
  have hlocks := BB.notSynchronized
  have hS : va_S (fun q => B ≤ q) s.heap s.heap [] := va_S.rf
  have hpre : ∀ (av : List Value) (U : State), U.heap = s.heap → s.WarmedH U.vm → jd_P D cA B adK adV av h av.toArray U := fun av U hU hW => ⟨rfl, by rw [hU]; exact hsz, by rw [hU]; exact hP, va_K.moved hW.alike hK, am_sr.to hW (fun x _ _ => by rw [hU]) hsr⟩
  have hl := lv_entry [.int x, .int n] (n := 2) (Nat.le_of_ble_eq_true rfl)
  rw [lg_entry_eq]
  generalize (lg_sl [.int x, .int n] ++ List.replicate (2 - (lg_sl [.int x, .int n]).length) Slot.unset).toArray = ls at hl ⊢
  have hl : lv_has ls 2 [(0, .int x), (1, .int n)] := hl
  refine lv_iload_n hx hb dJ0_checkIndex_df160_0 rfl (lv_at hl 0 rfl) ?_
  refine lv_iload_n hx hb dJ0_checkIndex_df160_1 rfl (lv_at hl 1 rfl) ?_
  rcases hsr.2.2.2.2 with hZ | ⟨t0, hZ⟩
  · refine va_gets hx hb hZ hS hown (hts _ (List.mem_cons_of_mem _ (am_wat 538 rfl rfl))) (fun _ h => h) dJ0_checkIndex_df160_2 ?_
    refine W.callX (W.runS (As := [.int x, .int n, .null]) (rest := []) ⟨hx, hb, hml, hown, fun w hw => hts w (List.mem_cons_of_mem _ hw)⟩ (jd_preN l D cA B adK adV h (d - 1) x n h0 hn) ⟨callB_of 3 (fun w hw => hts w (List.mem_cons_of_mem _ hw)) (am_goodC (am_wat 542 rfl rfl)) rfl rfl rfl (hts _ (List.mem_cons_of_mem _ (am_wat 82 rfl rfl))) (hts _ (List.mem_cons_of_mem _ (am_wat 540 rfl rfl))) ⟨by decide +kernel, by decide +kernel, by decide +kernel⟩ ⟨by show d - 1 + 1 ≤ d; omega, by show 8 + (3 + 11) + 30 * (d - 1) ≤ 30 * d; omega⟩, (hts _ (List.mem_cons_of_mem _ (am_wat 541 rfl rfl)))⟩ ⟨jd_blind, hpre [.int x, .int n, .null]⟩ rfl rfl hl.1 rfl (lv_room (Nat.le_of_ble_eq_true rfl)) dJ0_checkIndex_df160_5 ⟨Nat.zero_le _, Nat.zero_le _⟩) (fun _ hq => hq.elim) (fun v st₀ t h1 h2 => ?_)
    obtain ⟨hv, hh⟩ := h2
    cases hv
    rw [hh, h1]
    refine lv_pop hx hb dJ0_checkIndex_df160_8 rfl ?_
    exact W.vret hx hb hr (fun t ht hW => ⟨rfl, ht⟩) (fun _ hq => by cases hq) dJ0_checkIndex_df160_9
  · refine va_gets hx hb hZ hS hown (hts _ (List.mem_cons_of_mem _ (am_wat 538 rfl rfl))) (fun _ h => h) dJ0_checkIndex_df160_2 ?_
    refine W.callX (W.runS (As := [.int x, .int n, (.ref t0)]) (rest := []) ⟨hx, hb, hml, hown, fun w hw => hts w (List.mem_cons_of_mem _ hw)⟩ (jd_preR l D cA B adK adV h (d - 1) t0 x n h0 hn) ⟨callB_of 3 (fun w hw => hts w (List.mem_cons_of_mem _ hw)) (am_goodC (am_wat 542 rfl rfl)) rfl rfl rfl (hts _ (List.mem_cons_of_mem _ (am_wat 82 rfl rfl))) (hts _ (List.mem_cons_of_mem _ (am_wat 540 rfl rfl))) ⟨by decide +kernel, by decide +kernel, by decide +kernel⟩ ⟨by show d - 1 + 1 ≤ d; omega, by show 8 + (3 + 11) + 30 * (d - 1) ≤ 30 * d; omega⟩, (hts _ (List.mem_cons_of_mem _ (am_wat 541 rfl rfl)))⟩ ⟨jd_blind, hpre [.int x, .int n, (.ref t0)]⟩ rfl rfl hl.1 rfl (lv_room (Nat.le_of_ble_eq_true rfl)) dJ0_checkIndex_df160_5 ⟨Nat.zero_le _, Nat.zero_le _⟩) (fun _ hq => hq.elim) (fun v st₀ t h1 h2 => ?_)
    obtain ⟨hv, hh⟩ := h2
    cases hv
    rw [hh, h1]
    refine lv_pop hx hb dJ0_checkIndex_df160_8 rfl ?_
    exact W.vret hx hb hr (fun t ht hW => ⟨rfl, ht⟩) (fun _ hq => by cases hq) dJ0_checkIndex_df160_9
set_option maxRecDepth 20000 in
theorem jd_l1 (l : Launch) (D : va_G) (cA : Nat → ClassId) (B : Nat) (adK adV : Nat → Nat) (h : am_H) (d : Nat) (hd : 2 ≤ d) (j : Nat) (hj : j < 14) (x : Int32) (hxi : am_in x (am_txt j).length = true) : Met l yJ1_charAt_3b067 (Cond.code yJ1_charAt_3b067 cJ1_charAt_3b067 2 (some .char) :: am_wd) (am_rm d 0 0) (jd_P D cA B adK adV [.ref (adV j), .int x] h) (jd_Q (some (.int ((am_txt j).getD x.toNatClampNeg 0)))) 0 0 (fun _ => False) := by
  refine Met.ofW (cc := cJ1_charAt_3b067) (maxL := 2) (ret := (some .char)) (by decide +kernel) rfl ?_
  intro p e s m args below meth c s₁ BB hml hv
  obtain ⟨rfl, hsz, hP, hK, hsr⟩ := hv
  have hx := BB.exec
  have hb := BB.bytes
  have hr := BB.returns
  have hts := atoms_spec (ws := Cond.code yJ1_charAt_3b067 cJ1_charAt_3b067 2 (some .char) :: am_wd) BB.pre
  have hown : s.vm.findClass RJ1 = some m.cls := findClass_of_methodNamed BB.named
  have hlocks := BB.notSynchronized
  have hS : va_S (fun q => B ≤ q) s.heap s.heap [] := va_S.rf
  have hpre : ∀ (av : List Value) (U : State), U.heap = s.heap → s.WarmedH U.vm → jd_P D cA B adK adV av h av.toArray U := fun av U hU hW => ⟨rfl, by rw [hU]; exact hsz, by rw [hU]; exact hP, va_K.moved hW.alike hK, am_sr.to hW (fun x _ _ => by rw [hU]) hsr⟩
  have hl := lv_entry [.ref (adV j), .int x] (n := 2) (Nat.le_of_ble_eq_true rfl)
  rw [lg_entry_eq]
  generalize (lg_sl [.ref (adV j), .int x] ++ List.replicate (2 - (lg_sl [.ref (adV j), .int x]).length) Slot.unset).toArray = ls at hl ⊢
  have hl : lv_has ls 2 [(0, .ref (adV j)), (1, .int x)] := hl
  obtain ⟨g1, g2, g3⟩ := jd_len j hj
  have hT := (hsr.2.2.1.1 j hj).2.2.2
  rw [g1] at hT
  have hv := am_in_vp hxi
  have h0 : ¬ x < 0 := fun q => hv (Or.inl q)
  have hlt : x.toNatClampNeg < (am_txt j).length := Nat.not_le.mp (fun q => hv (Or.inr q))
  have hn : x < Int32.ofNat (am_txt j).length := by
    obtain ⟨k, hk, rfl⟩ := nI_of h0
    rw [nI_clamp hk] at hlt
    exact nI_lt hlt (by omega)
  refine lv_iload_n hx hb dJ1_charAt_3b067_0 rfl (lv_at hl 1 rfl) ?_
  refine lv_aload_n hx hb dJ1_charAt_3b067_1 rfl (lv_at hl 0 rfl) ?_
  refine va_tlen hx hb hT hS rfl dJ1_charAt_3b067_2 ?_
  refine W.callX (W.runS (As := [.int x, .int (Int32.ofNat (am_txt j).length)]) (rest := []) ⟨hx, hb, hml, hown, fun w hw => hts w (List.mem_cons_of_mem _ hw)⟩ (jd_ci l D cA B adK adV h (d - 1) (by omega) x (Int32.ofNat (am_txt j).length) h0 hn) ⟨callB_of 2 (fun w hw => hts w (List.mem_cons_of_mem _ hw)) (am_goodC (am_wat 537 rfl rfl)) rfl rfl rfl (hts _ (List.mem_cons_of_mem _ (am_wat 80 rfl rfl))) (hts _ (List.mem_cons_of_mem _ (am_wat 535 rfl rfl))) ⟨by decide +kernel, by decide +kernel, by decide +kernel⟩ ⟨by show d - 1 + 1 ≤ d; omega, by show 8 + (2 + 11) + 30 * (d - 1) ≤ 30 * d; omega⟩, (hts _ (List.mem_cons_of_mem _ (am_wat 536 rfl rfl)))⟩ ⟨jd_blind, hpre [.int x, .int (Int32.ofNat (am_txt j).length)]⟩ rfl rfl hl.1 rfl (lv_room (Nat.le_of_ble_eq_true rfl)) dJ1_charAt_3b067_3 ⟨Nat.zero_le _, Nat.zero_le _⟩) (fun _ hq => hq.elim) (fun v st₀ t h1 h2 => ?_)
  obtain ⟨hv2, hh⟩ := h2
  cases hv2
  rw [hh, h1]
  refine lv_aload_n hx hb dJ1_charAt_3b067_6 rfl (lv_at hl 0 rfl) ?_
  refine lv_iload_n hx hb dJ1_charAt_3b067_7 rfl (lv_at hl 1 rfl) ?_
  refine va_tb hx hb hT hS hv rfl dJ1_charAt_3b067_8 ?_
  refine lv_sipush (v := 255) hx hb dJ1_charAt_3b067_9 (by decide) ?_
  refine lv_iand hx hb dJ1_charAt_3b067_12 ?_
  obtain ⟨g4, g5⟩ := g3 _ hlt
  refine lv_i2c hx hb dJ1_charAt_3b067_13 g4 ?_
  exact W.zret hx hb hr g5 (fun t ht hW => ⟨rfl, ht⟩) (fun _ hq => by cases hq) dJ1_charAt_3b067_14
set_option maxRecDepth 20000 in
theorem jd_length (l : Launch) (D : va_G) (cA : Nat → ClassId) (B : Nat) (adK adV : Nat → Nat) (h : am_H) (d : Nat) (scr : Nat) (hd : 1 ≤ d) (j : Nat) (hj : j < 14) : Met l yJ0_length_8abf5 (Cond.code yJ0_length_8abf5 cJ0_length_8abf5 1 (some .int) :: am_wd) (am_rm d (h.1 - h.1) (am_sl h.1 - am_sl h.1)) (am_Pc D cA B scr adK adV [.ref (1000 + j)] h) (am_Qc D cA B scr adK (some (.int (nI (am_txt j).length))) h) (h.1 - h.1) (am_sl h.1 - am_sl h.1) (fun q => B ≤ q) := by
  have e0 : am_ad B scr adK (1000 + j) = adK j := by rw [am_ad_hi (by omega), Nat.add_sub_cancel_left]
  have eP : am_Pc D cA B scr adK adV [.ref (1000 + j)] h = jd_P D cA B adK adV [.ref (adK j)] h := by
    unfold am_Pc jd_P
    simp only [List.map_cons, List.map_nil, am_cv, e0]
  rw [eP, Nat.sub_self, Nat.sub_self]
  refine Met.ofW (cc := cJ0_length_8abf5) (maxL := 1) (ret := (some .int)) (by decide +kernel) rfl ?_
  intro p e s m args below meth c s₁ BB hml hv
  obtain ⟨rfl, hsz, hP, hK, hsr⟩ := hv
  have hx := BB.exec
  have hb := BB.bytes
  have hr := BB.returns
  have hts := atoms_spec (ws := Cond.code yJ0_length_8abf5 cJ0_length_8abf5 1 (some .int) :: am_wd) BB.pre
  have hown : s.vm.findClass RJ0 = some m.cls := findClass_of_methodNamed BB.named
  have hlocks := BB.notSynchronized
  have hS : va_S (fun q => B ≤ q) s.heap s.heap [] := va_S.rf
  have hpre : ∀ (av : List Value) (U : State), U.heap = s.heap → s.WarmedH U.vm → jd_P D cA B adK adV av h av.toArray U := fun av U hU hW => ⟨rfl, by rw [hU]; exact hsz, by rw [hU]; exact hP, va_K.moved hW.alike hK, am_sr.to hW (fun x _ _ => by rw [hU]) hsr⟩
  have hl := lv_entry [.ref (adK j)] (n := 1) (Nat.le_of_ble_eq_true rfl)
  rw [lg_entry_eq]
  generalize (lg_sl [.ref (adK j)] ++ List.replicate (1 - (lg_sl [.ref (adK j)]).length) Slot.unset).toArray = ls at hl ⊢
  have hl : lv_has ls 1 [(0, .ref (adK j))] := hl
  obtain ⟨g1, g2, g3⟩ := jd_len j hj
  have hT := (hsr.2.2.1.1 j hj).2.2.2
  rw [g1] at hT
  refine lv_aload_n hx hb dJ0_length_8abf5_0 rfl (lv_at hl 0 rfl) ?_
  refine vk_getf hx hb (hsr.2.2.1.1 j hj).2.2.1 hS hown (hts _ (List.mem_cons_of_mem _ (am_wat 1528 rfl rfl))) (fun _ h => h) dJ0_length_8abf5_1 ?_
  refine va_tlen hx hb hT hS rfl dJ0_length_8abf5_4 ?_
  refine lv_aload_n hx hb dJ0_length_8abf5_5 rfl (lv_at hl 0 rfl) ?_
  refine W.callX (W.runV (C := RJ0) (As := []) (b := adK j) (rest := [.int (Int32.ofNat (am_txt j).length)]) ⟨hx, hb, hml, hown, fun w hw => hts w (List.mem_cons_of_mem _ hw)⟩ (jd_coder l D cA B adK adV h (d - 1) j hj) ⟨callB_of 0 (fun w hw => hts w (List.mem_cons_of_mem _ hw)) (am_goodC (am_wat 521 rfl rfl)) rfl rfl rfl (hts _ (List.mem_cons_of_mem _ (am_wat 80 rfl rfl))) (hts _ (List.mem_cons_of_mem _ (am_wat 518 rfl rfl))) ⟨by decide +kernel, by decide +kernel, by decide +kernel⟩ ⟨by show d - 1 + 1 ≤ d; omega, by show 8 + (1 + 11) + 30 * (d - 1) ≤ 30 * d; omega⟩, (hts _ (List.mem_cons_of_mem _ (am_wat 519 rfl rfl))), (hts _ (List.mem_cons_of_mem _ (am_wat 520 rfl rfl)))⟩ ⟨jd_blind, vk_recv hsr.2.2.1 hj hS, hpre [.ref (adK j)]⟩ rfl rfl hl.1 rfl (lv_room (Nat.le_of_ble_eq_true rfl)) dJ0_length_8abf5_6 ⟨Nat.zero_le _, Nat.zero_le _⟩) (fun _ hq => hq.elim) (fun v st₀ t h1 h2 => ?_)
  obtain ⟨hv2, hh⟩ := h2
  cases hv2
  rw [hh, h1]
  refine lv_ishr hx hb dJ0_length_8abf5_9 ?_
  have e9 : Int32.ofNat (am_txt j).length >>> ((0 : Int32) &&& 31) = nI (am_txt j).length := by
    have := pk_shrN (n := (am_txt j).length) (by omega) ((0 : Int32) &&& 31) 0 (by decide)
    rw [show Int32.ofNat (am_txt j).length = nI (am_txt j).length from rfl, this]
    simp
  rw [e9]
  exact W.iret hx hb hr (fun t ht hW => ⟨rfl, by rw [ht]; exact hsz, by rw [ht]; exact hP, hS.F ht⟩) (fun _ hq => by cases hq) dJ0_length_8abf5_10
set_option maxRecDepth 20000 in
theorem jd_charAt (l : Launch) (D : va_G) (cA : Nat → ClassId) (B : Nat) (adK adV : Nat → Nat) (h : am_H) (d : Nat) (scr : Nat) (hd : 3 ≤ d) (j : Nat) (hj : j < 14) (x : Int32) (hxi : am_in x (am_txt j).length = true) : Met l yJ0_charAt_5068e (Cond.code yJ0_charAt_5068e cJ0_charAt_5068e 2 (some .char) :: am_wd) (am_rm d (h.1 - h.1) (am_sl h.1 - am_sl h.1)) (am_Pc D cA B scr adK adV [.ref (1000 + j), .int x] h) (am_Qc D cA B scr adK (some (.int ((am_txt j).getD x.toNatClampNeg 0))) h) (h.1 - h.1) (am_sl h.1 - am_sl h.1) (fun q => B ≤ q) := by
  have e0 : am_ad B scr adK (1000 + j) = adK j := by rw [am_ad_hi (by omega), Nat.add_sub_cancel_left]
  have eP : am_Pc D cA B scr adK adV [.ref (1000 + j), .int x] h = jd_P D cA B adK adV [.ref (adK j), .int x] h := by
    unfold am_Pc jd_P
    simp only [List.map_cons, List.map_nil, am_cv, e0]
  rw [eP, Nat.sub_self, Nat.sub_self]
  refine Met.ofW (cc := cJ0_charAt_5068e) (maxL := 2) (ret := (some .char)) (by decide +kernel) rfl ?_
  intro p e s m args below meth c s₁ BB hml hv
  obtain ⟨rfl, hsz, hP, hK, hsr⟩ := hv
  have hx := BB.exec
  have hb := BB.bytes
  have hr := BB.returns
  have hts := atoms_spec (ws := Cond.code yJ0_charAt_5068e cJ0_charAt_5068e 2 (some .char) :: am_wd) BB.pre
  have hown : s.vm.findClass RJ0 = some m.cls := findClass_of_methodNamed BB.named
  have hlocks := BB.notSynchronized
  have hS : va_S (fun q => B ≤ q) s.heap s.heap [] := va_S.rf
  have hpre : ∀ (av : List Value) (U : State), U.heap = s.heap → s.WarmedH U.vm → jd_P D cA B adK adV av h av.toArray U := fun av U hU hW => ⟨rfl, by rw [hU]; exact hsz, by rw [hU]; exact hP, va_K.moved hW.alike hK, am_sr.to hW (fun x _ _ => by rw [hU]) hsr⟩
  have hl := lv_entry [.ref (adK j), .int x] (n := 2) (Nat.le_of_ble_eq_true rfl)
  rw [lg_entry_eq]
  generalize (lg_sl [.ref (adK j), .int x] ++ List.replicate (2 - (lg_sl [.ref (adK j), .int x]).length) Slot.unset).toArray = ls at hl ⊢
  have hl : lv_has ls 2 [(0, .ref (adK j)), (1, .int x)] := hl
  obtain ⟨g1, g2, g3⟩ := jd_len j hj
  have hv := am_in_vp hxi
  have hlt : x.toNatClampNeg < (am_txt j).length := Nat.not_le.mp (fun q => hv (Or.inr q))
  refine lv_aload_n hx hb dJ0_charAt_5068e_0 rfl (lv_at hl 0 rfl) ?_
  refine W.callX (W.runV (C := RJ0) (As := []) (b := adK j) (rest := []) ⟨hx, hb, hml, hown, fun w hw => hts w (List.mem_cons_of_mem _ hw)⟩ (jd_isLatin1 l D cA B adK adV h (d - 1) j hj) ⟨callB_of 0 (fun w hw => hts w (List.mem_cons_of_mem _ hw)) (am_goodC (am_wat 531 rfl rfl)) rfl rfl rfl (hts _ (List.mem_cons_of_mem _ (am_wat 80 rfl rfl))) (hts _ (List.mem_cons_of_mem _ (am_wat 528 rfl rfl))) ⟨by decide +kernel, by decide +kernel, by decide +kernel⟩ ⟨by show d - 1 + 1 ≤ d; omega, by show 8 + (1 + 11) + 30 * (d - 1) ≤ 30 * d; omega⟩, (hts _ (List.mem_cons_of_mem _ (am_wat 529 rfl rfl))), (hts _ (List.mem_cons_of_mem _ (am_wat 530 rfl rfl)))⟩ ⟨jd_blind, vk_recv hsr.2.2.1 hj hS, hpre [.ref (adK j)]⟩ rfl rfl hl.1 rfl (lv_room (Nat.le_of_ble_eq_true rfl)) dJ0_charAt_5068e_1 ⟨Nat.zero_le _, Nat.zero_le _⟩) (fun _ hq => hq.elim) (fun v st₀ t h1 h2 => ?_)
  obtain ⟨hv2, hh⟩ := h2
  cases hv2
  rw [hh, h1]
  refine lv_if_eq (tgt := 16) hx hb dJ0_charAt_5068e_4 rfl (fun hc => absurd hc (by decide)) (fun _ => ?_)
  refine lv_aload_n hx hb dJ0_charAt_5068e_7 rfl (lv_at hl 0 rfl) ?_
  refine vk_getf hx hb (hsr.2.2.1.1 j hj).2.2.1 hS hown (hts _ (List.mem_cons_of_mem _ (am_wat 1528 rfl rfl))) (fun _ h => h) dJ0_charAt_5068e_8 ?_
  refine lv_iload_n hx hb dJ0_charAt_5068e_11 rfl (lv_at hl 1 rfl) ?_
  refine W.callX (W.runS (As := [.ref (adV j), .int x]) (rest := []) ⟨hx, hb, hml, hown, fun w hw => hts w (List.mem_cons_of_mem _ hw)⟩ (jd_l1 l D cA B adK adV h (d - 1) (by omega) j hj x hxi) ⟨callB_of 2 (fun w hw => hts w (List.mem_cons_of_mem _ hw)) (am_goodC (am_wat 534 rfl rfl)) rfl rfl rfl (hts _ (List.mem_cons_of_mem _ (am_wat 81 rfl rfl))) (hts _ (List.mem_cons_of_mem _ (am_wat 532 rfl rfl))) ⟨by decide +kernel, by decide +kernel, by decide +kernel⟩ ⟨by show d - 1 + 1 ≤ d; omega, by show 8 + (2 + 11) + 30 * (d - 1) ≤ 30 * d; omega⟩, (hts _ (List.mem_cons_of_mem _ (am_wat 533 rfl rfl)))⟩ ⟨jd_blind, hpre [.ref (adV j), .int x]⟩ rfl rfl hl.1 rfl (lv_room (Nat.le_of_ble_eq_true rfl)) dJ0_charAt_5068e_12 ⟨Nat.zero_le _, Nat.zero_le _⟩) (fun _ hq => hq.elim) (fun v st₀ t h1 h2 => ?_)
  obtain ⟨hv2, hh⟩ := h2
  cases hv2
  rw [hh, h1]
  exact W.zret hx hb hr (g3 _ hlt).2 (fun t ht hW => ⟨rfl, by rw [ht]; exact hsz, by rw [ht]; exact hP, hS.F ht⟩) (fun _ hq => by cases hq) dJ0_charAt_5068e_15
