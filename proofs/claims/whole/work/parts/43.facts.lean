/-! THE CLAIM OUT OF ONE WALK OF THE LAW'S BODY. Your part is whole_start (and what it stands on); all else here is the same for every law, but numbers. -/
def R_law : String := "ToyVillageLaw"
def lw_P (b : Addr) (xs : List Int32) (args : Array Value) (s : State) : Prop := args = #[.ref b] ∧ s.IntsAt b xs ∧ xs.length ≤ 3072 ∧ (Jvm.Cond.and given_1 narrow_1).before args s = true
def lw_Q (_ : Array Value) (s : State) (o : Outcome) (t : State) : Prop := o = .returned (some (.int 1)) ∧ Framed s o t [] 120 22875
def lw_Z (below : List Frame) (a : Array Value) (s : State) : State → Prop := fun t => ∃ o, t.status = .running ∧ Ended t below o ∧ lw_Q a s o t
/-- the law's own end, with 1 on the stack, nothing written that was there before, its room as the claim has it -/
theorem lw_ret {p : Program} {l : Launch} {e : Env} {s : State} {m : MethodId} {below : List Frame} {meth : Method} {c : Code} {b : Nat} (hx : p.tables.exec = Jvm.exec) (hb : c.code = code) (hr : meth.sig.returnType = ret) (hlocks : meth.locks = false) {pc : Nat} {H : Heap} {ls : Array Slot} (hdg : decode code pc = .ok (.ireturn, 1)) : W p l e room_1 s m #[Value.ref b] below meth c H [] 120 22875 (lw_Z below #[Value.ref b] s) (F0 m pc ls [.int 1]) := by
  intro T hT X
  obtain ⟨fs, hret, hrun, hended, hW, hframe⟩ := X.leave (v := some (.int 1)) (hlocks := hlocks) (fun h => by rw [hr] at h; cases h)
  have hmeth' : T.vm.method? m = some meth := X.method'
  refine ⟨T.setFrames fs, ?_, .returned (some (.int 1)), hrun, hended, rfl, ⟨_, rfl⟩, hW, hframe⟩
  jvm_step X.here [X.here.top, hx, hb, hdg, hmeth', hr, ret, narrow_b1]
  (try refine ⟨rfl, ?_⟩); (try refine ⟨rfl, ?_⟩)
  first | (intro acts; rw [hret _ acts rfl rfl rfl]) | rw [hret _ _ rfl rfl rfl]
  exact Steps.refl _
/-- what holds at the law's entry: the machine, the code, the tables' words (any of lw_tbl by 'hts w (by decide +kernel)'), the script of L ints xs at the cell b, what the Statement gives of the start (any of its parts by flat_of_before) -/
def lw_At (p : Program) (s : State) (m : MethodId) (meth : Method) (c : Code) (b L : Nat) (xs : Nat → Int32) : Prop :=
  p.tables.exec = Jvm.exec ∧ c.code = code ∧ meth.sig.returnType = ret ∧ c.maxLocals = 4 ∧ s.vm.findClass R_law = some m.cls ∧ (∀ w ∈ lw_tbl, w.before #[Value.ref b] s = true) ∧ va_X b L xs s s.heap ∧ b < s.heap.size ∧ meth.locks = false ∧ (Jvm.Cond.and given_1 narrow_1).before #[Value.ref b] s = true

theorem lz_inst {c : Nat} {q : vw_C} (h : am_cl[c]? = some q) : Cond.instantiable q.1 q.2.2 ∈ am_wd := by
  have h1 : (List.range 13).all (fun ci => match am_cl[ci]?, am_ist[ci]? with
    | some q, some z => decide (lw_tbl[z.1]? = some (Cond.instantiable q.1 q.2.2)) && goodWord (Cond.instantiable q.1 q.2.2)
    | _, _ => false) = true := by decide +kernel
  have hl : c < 13 := (List.getElem?_eq_some_iff.mp h).1
  have h2 := List.all_eq_true.mp h1 c (List.mem_range.mpr hl)
  rw [h] at h2
  split at h2
  · rename_i q' z e1 e2
    cases e1
    simp only [Bool.and_eq_true, decide_eq_true_eq] at h2
    exact am_wat _ h2.1 h2.2
  · cases h2
theorem lz_D {args : Array Value} {s : State} (hts : ∀ w ∈ lw_tbl, w.before args s = true) : ∃ D : va_G, ∀ (c : Nat) (q : vw_C), am_cl[c]? = some q → u_Kn s q.1 q.2.1 q.2.2 (D.1 c) (D.2 c) := by
  have h : ∀ c : Nat, ∃ x : ClassId × (Nat → Nat), ∀ q, am_cl[c]? = some q → u_Kn s q.1 q.2.1 q.2.2 x.1 x.2 := by
    intro c
    cases hc : am_cl[c]? with
    | none => exact ⟨((0 : Nat), fun _ => 0), fun q hq => by cases hq⟩
    | some q =>
      obtain ⟨cC, iS, hk⟩ := u_known hts (fun w hw => (am_wd_good w ((am_k1 hc).1 w hw)).1) (hts _ (am_wd_good _ (lz_inst hc)).1)
      exact ⟨(cC, iS), fun q' hq' => by cases hq'; exact hk⟩
  obtain ⟨f, hf⟩ := Classical.axiomOfChoice h
  exact ⟨(fun c => (f c).1, fun c => (f c).2), hf⟩
theorem lz_A {args : Array Value} {s : State} (hwd : ∀ w ∈ am_wd, w.before args s = true) : ∃ cA : Nat → ClassId, ∀ (k : Nat) (q : ClassId × FieldType), (am_ty cA)[k]? = some q → ArrOfT s q.1 q.2 ∧ va_RA s q.1 q.2 := by
  obtain ⟨c0, k0, p0, f0, g0, r0⟩ := Cond.arrayClass_spec (hwd _ am_aw.1)
  obtain ⟨c1, k1, p1, f1, g1, r1⟩ := Cond.arrayClass_spec (hwd _ am_aw.2.1)
  obtain ⟨c2, k2, p2, f2, g2, r2⟩ := Cond.arrayClass_spec (hwd _ am_aw.2.2.1)
  obtain ⟨c3, k3, p3, f3, g3, r3⟩ := Cond.arrayClass_spec (hwd _ am_aw.2.2.2)
  refine ⟨fun t => match t with
    | 0 => c0
    | 1 => c1
    | 2 => c2
    | _ => c3, fun k q hq => ?_⟩
  match k, hq with
  | 0, hq => cases hq; exact ⟨fun n z => ⟨fun k h => (by cases h), k0, g0, p0, r0⟩, f0⟩
  | 1, hq => cases hq; exact ⟨fun n z => ⟨fun k h => (by cases h), k1, g1, p1, r1⟩, f1⟩
  | 2, hq => cases hq; exact ⟨fun n z => ⟨fun k h => (by cases h), k2, g2, p2, r2⟩, f2⟩
  | 3, hq => cases hq; exact ⟨fun n z => ⟨fun k h => (by cases h), k3, g3, p3, r3⟩, f3⟩
  | n + 4, hq => simp [am_ty] at hq
def lz_tm (i : Nat) : Term := .string RX9 (am_sx0.getD i (0, "")).1
def lz_fl : List Cond := flatC (Jvm.Cond.and given_1 narrow_1)
set_option maxRecDepth 40000 in
theorem lz_m1 : ∀ i, i < 14 → Cond.exactly (lz_tm i) "java/lang/String" ∈ lz_fl ∧ Cond.eq (.field (lz_tm i) "java/lang/String" "coder" "B") (.int 0) ∈ lz_fl ∧ Cond.arrayOf (.field (lz_tm i) "java/lang/String" "value" "[B") .byte ∈ lz_fl ∧ Cond.eq (.length (.field (lz_tm i) "java/lang/String" "value" "[B")) (.int (Int32.ofNat ((am_sb.map List.length).getD i 0))) ∈ lz_fl := by decide +kernel
set_option maxRecDepth 40000 in
theorem lz_m2 : ∀ i, i < 14 → ∀ j, j < (am_sb.map List.length).getD i 0 → Cond.eq (.elem (.field (lz_tm i) "java/lang/String" "value" "[B") (.int (Int32.ofNat j))) (.int ((am_sb.getD i []).getD j 0)) ∈ lz_fl := by decide +kernel
set_option maxRecDepth 40000 in
theorem lz_m3_0 : ∀ j, j < 14 → 0 < j → Cond.not (Cond.eq (lz_tm 0) (lz_tm j)) ∈ lz_fl := by decide +kernel
set_option maxRecDepth 40000 in
theorem lz_m3_1 : ∀ j, j < 14 → 1 < j → Cond.not (Cond.eq (lz_tm 1) (lz_tm j)) ∈ lz_fl := by decide +kernel
set_option maxRecDepth 40000 in
theorem lz_m3_2 : ∀ j, j < 14 → 2 < j → Cond.not (Cond.eq (lz_tm 2) (lz_tm j)) ∈ lz_fl := by decide +kernel
set_option maxRecDepth 40000 in
theorem lz_m3_3 : ∀ j, j < 14 → 3 < j → Cond.not (Cond.eq (lz_tm 3) (lz_tm j)) ∈ lz_fl := by decide +kernel
set_option maxRecDepth 40000 in
theorem lz_m3_4 : ∀ j, j < 14 → 4 < j → Cond.not (Cond.eq (lz_tm 4) (lz_tm j)) ∈ lz_fl := by decide +kernel
set_option maxRecDepth 40000 in
theorem lz_m3_5 : ∀ j, j < 14 → 5 < j → Cond.not (Cond.eq (lz_tm 5) (lz_tm j)) ∈ lz_fl := by decide +kernel
set_option maxRecDepth 40000 in
theorem lz_m3_6 : ∀ j, j < 14 → 6 < j → Cond.not (Cond.eq (lz_tm 6) (lz_tm j)) ∈ lz_fl := by decide +kernel
set_option maxRecDepth 40000 in
theorem lz_m3_7 : ∀ j, j < 14 → 7 < j → Cond.not (Cond.eq (lz_tm 7) (lz_tm j)) ∈ lz_fl := by decide +kernel
set_option maxRecDepth 40000 in
theorem lz_m3_8 : ∀ j, j < 14 → 8 < j → Cond.not (Cond.eq (lz_tm 8) (lz_tm j)) ∈ lz_fl := by decide +kernel
set_option maxRecDepth 40000 in
theorem lz_m3_9 : ∀ j, j < 14 → 9 < j → Cond.not (Cond.eq (lz_tm 9) (lz_tm j)) ∈ lz_fl := by decide +kernel
set_option maxRecDepth 40000 in
theorem lz_m3_10 : ∀ j, j < 14 → 10 < j → Cond.not (Cond.eq (lz_tm 10) (lz_tm j)) ∈ lz_fl := by decide +kernel
set_option maxRecDepth 40000 in
theorem lz_m3_11 : ∀ j, j < 14 → 11 < j → Cond.not (Cond.eq (lz_tm 11) (lz_tm j)) ∈ lz_fl := by decide +kernel
set_option maxRecDepth 40000 in
theorem lz_m3_12 : ∀ j, j < 14 → 12 < j → Cond.not (Cond.eq (lz_tm 12) (lz_tm j)) ∈ lz_fl := by decide +kernel
theorem lz_m3a : ∀ i j, i < j → j < 14 → Cond.not (Cond.eq (lz_tm i) (lz_tm j)) ∈ lz_fl := by
  intro i j h1 h2
  match i, h1 with
  | 0, h1 => exact lz_m3_0 j h2 h1
  | 1, h1 => exact lz_m3_1 j h2 h1
  | 2, h1 => exact lz_m3_2 j h2 h1
  | 3, h1 => exact lz_m3_3 j h2 h1
  | 4, h1 => exact lz_m3_4 j h2 h1
  | 5, h1 => exact lz_m3_5 j h2 h1
  | 6, h1 => exact lz_m3_6 j h2 h1
  | 7, h1 => exact lz_m3_7 j h2 h1
  | 8, h1 => exact lz_m3_8 j h2 h1
  | 9, h1 => exact lz_m3_9 j h2 h1
  | 10, h1 => exact lz_m3_10 j h2 h1
  | 11, h1 => exact lz_m3_11 j h2 h1
  | 12, h1 => exact lz_m3_12 j h2 h1
  | n + 13, h1 => exact absurd h1 (by omega)
theorem lz_m3 : ∀ i, i < 14 → ∀ j, j < 14 → i ≠ j → Cond.not (Cond.eq (lz_tm i) (lz_tm j)) ∈ lz_fl ∨ Cond.not (Cond.eq (lz_tm j) (lz_tm i)) ∈ lz_fl := by
  intro i hi j hj hne
  rcases Nat.lt_or_gt_of_ne hne with h | h
  · exact Or.inl (lz_m3a i j h hj)
  · exact Or.inr (lz_m3a j i h hi)
def lz_sp : List Nat := [509, 562, 563, 564, 565, 566, 567, 568, 573, 574, 575, 576, 577, 578]
set_option maxRecDepth 40000 in
theorem lz_m4 : ∀ j, j < 14 → lw_tbl[lz_sp.getD j 0]? = some (Cond.stringRef RX9 (am_sx0.getD j (0, "")).1 (am_sx0.getD j (0, "")).2) := by decide +kernel
set_option maxRecDepth 40000 in
theorem lz_m5 : lw_tbl[523]? = some (Cond.laysStatic "java/lang/String" "COMPACT_STRINGS" "Z") ∧ lw_tbl[539]? = some (Cond.laysStatic "jdk/internal/util/Preconditions" "SIOOBE_FORMATTER" "Ljava/util/function/BiFunction;") ∧ lw_tbl[80]? = some (Cond.initialized "java/lang/String") ∧ lw_tbl[82]? = some (Cond.initialized "jdk/internal/util/Preconditions") ∧ Cond.eq (.static "java/lang/String" "COMPACT_STRINGS" "Z") (.int 1) ∈ lz_fl ∧ Cond.isRef (.static "jdk/internal/util/Preconditions" "SIOOBE_FORMATTER" "Ljava/util/function/BiFunction;") ∈ lz_fl := by decide +kernel
theorem lz_S {args : Array Value} {s : State} (hts : ∀ w ∈ lw_tbl, w.before args s = true) (hfl : ∀ c ∈ lz_fl, c.before args s = true) : ∃ adK adV : Nat → Nat, am_sr s.heap.size adK adV s := by
  have hA : ∀ a : Nat, a < s.heap.size → ¬ s.heap.size ≤ a := fun a h => Nat.not_le.mpr h
  obtain ⟨adK, adV, h1, h2⟩ := vk_Sof (args := args) (s := s) (N := 14) (tm := lz_tm) (len := am_sb.map List.length) (byt := am_sb) (A := fun q => s.heap.size ≤ q) (by decide +kernel) (fun i hi => hfl _ (lz_m1 i hi).1) (fun i hi => hfl _ (lz_m1 i hi).2.1) (fun i hi => hfl _ (lz_m1 i hi).2.2.1) (fun i hi => hfl _ (lz_m1 i hi).2.2.2) (fun i hi j hj => hfl _ (lz_m2 i hi j hj)) (fun i j hi hj hne => (lz_m3 i hi j hj hne).imp (hfl _) (hfl _)) hA
  obtain ⟨g1, g2, g3, g4, g5, g6⟩ := lz_m5
  refine ⟨adK, adV, fun w hw hn => va_Nw.of (am_isN_on hn) (hts w hw), fun j i tx hj => ?_, h1, va_Zof (hts _ (List.mem_of_getElem? g1)) (hts _ (List.mem_of_getElem? g3)) (va_eqi (hfl _ g5)) hA, va_Zqof (hts _ (List.mem_of_getElem? g2)) (hts _ (List.mem_of_getElem? g4)) (hfl _ g6) hA⟩
  have hj14 : j < 14 := (List.getElem?_eq_some_iff.mp hj).1
  have h3 := lz_m4 j hj14
  have h4 := h2 j hj14
  have e : am_sx0.getD j (0, "") = (i, tx) := by rw [List.getD_eq_getElem?_getD, hj]; rfl
  unfold lz_tm at h4
  rw [e] at h3 h4
  exact vk_R.of (A := args) (hts _ (List.mem_of_getElem? h3)) h4
