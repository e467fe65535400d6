/-! ===== one step of the abstract machine is one step of the machine (printed by wip/gen/steps.py) ===== -/
def am_isN : Cond → Bool
  | .fieldLinkNest .. => true
  | .methodLinkNest .. => true
  | _ => false
/-- the nest words hold, the String constants stand, COMPACT_STRINGS is set -/
def am_sr (B : Nat) (adK adV : Nat → Nat) (U : State) : Prop :=
  (∀ w ∈ lw_tbl, am_isN w = true → va_Nw w U) ∧ (∀ (j i : Nat) (tx : String), am_sx0[j]? = some (i, tx) → vk_R RX9 i tx (adK j) U) ∧ vk_S 14 (am_sb.map List.length) am_sb adK adV (fun q => B ≤ q) U U.heap ∧ va_Z "java/lang/String" "COMPACT_STRINGS" "Z" (.int 1) (fun q => B ≤ q) U U.heap ∧ va_Zq "jdk/internal/util/Preconditions" "SIOOBE_FORMATTER" "Ljava/util/function/BiFunction;" (fun q => B ≤ q) U U.heap
theorem am_isN_on {w : Cond} (h : am_isN w = true) : w.onTables = true := by
  cases w <;> first | rfl | cases h
theorem am_sr.to {B : Nat} {adK adV : Nat → Nat} {s U : State} (hW : s.WarmedH U.vm) (hH : ∀ q : Nat, q < s.heap.size → ¬ B ≤ q → U.heap[q]? = s.heap[q]?) (h : am_sr B adK adV s) : am_sr B adK adV U := by
  obtain ⟨h1, h2, h3, h4, h5⟩ := h
  refine ⟨fun w hw hn => ?_, fun j i tx hj => (h2 j i tx hj).warm hW, (h3.moved hW.alike).kept hH, (h4.moved hW.alike).kept hH, (h5.moved hW.alike).kept hH⟩
  have h5 := h1 w hw hn
  cases w <;> first | (exact va_Nw.warmF hW h5) | (exact va_Nw.warmM hW h5) | cases hn
theorem am_sr.same {B : Nat} {adK adV : Nat → Nat} {u U : State} (hv : U.vm = u.vm) (hH : U.heap = u.heap) (h : am_sr B adK adV u) : am_sr B adK adV U := by
  obtain ⟨h1, h2, h3, h4, h5⟩ := h
  have ha : u.vm.Alike U.vm := by rw [hv]; exact Vm.Alike.refl _
  refine ⟨fun w hw hn => va_Nw.same (am_isN_on hn) hv.symm (h1 w hw hn), fun j i tx hj => (h2 j i tx hj).same hv, ?_, ?_, ?_⟩
  · rw [hH]; exact h3.moved ha
  · rw [hH]; exact h4.moved ha
  · rw [hH]; exact h5.moved ha
/-- what stays within a method -/
def am_C (p : Program) (R : Room) (s : State) (m : MethodId) (args : Array Value) (meth : Method) (c : Code) (cc : ByteArray) (nL own : Nat) (ini : Bool) (sc : Option (Nat × (Nat → Int32))) (D : va_G) (cA : Nat → ClassId) (B scr : Nat) (adK adV : Nat → Nat) (lim n0 z0 : Nat) : Prop :=
  p.tables.exec = Jvm.exec ∧ c.code = cc ∧ c.maxLocals = nL ∧ s.vm.findClass (am_nm own) = some m.cls ∧ (∀ w ∈ am_wd, w.before args s = true) ∧ va_K D am_cl (am_ty cA) s ∧ am_sr B adK adV s ∧ (lim ≤ n0 + R.cells ∧ am_sl lim ≤ z0 + R.slots ∧ 1 ≤ R.frames ∧ 20 ≤ R.locals) ∧ (ini = true → meth.name = "<init>") ∧ B ≤ s.heap.size ∧ (∀ L xs, sc = some (L, xs) → va_X scr L xs s s.heap ∧ scr < s.heap.size ∧ ¬ B ≤ scr)
/-- what holds at a point: locals, the world, what was written, the room used -/
def am_V (nL : Nat) (s : State) (D : va_G) (cA : Nat → ClassId) (B scr : Nat) (adK : Nat → Nat) (n0 z0 : Nat) (al : List Value) (h : am_H) (H : Heap) (locs : List Loc) (ls : Array Slot) (cells slots : Nat) : Prop :=
  am_L (am_ad B scr adK) nL al ls ∧ H.size = B + h.1 ∧ va_P D am_cl (am_ws cA B h) H ∧ va_S (fun q => B ≤ q) s.heap H locs ∧ h.1 = n0 + cells ∧ am_sl h.1 = z0 + slots
def am_kk (p : Program) (l : Launch) (e : Env) (R : Room) (s : State) (m : MethodId) (args : Array Value) (below : List Frame) (meth : Method) (c : Code) (Q : State → Prop) (nL : Nat) (D : va_G) (cA : Nat → ClassId) (B scr : Nat) (adK : Nat → Nat) (n0 z0 : Nat) (q : am_Q) : Prop :=
  ∀ (H : Heap) (locs : List Loc) (ls : Array Slot) (cells slots : Nat), am_V nL s D cA B scr adK n0 z0 q.2.1 q.2.2.2 H locs ls cells slots → W p l e R s m args below meth c H locs cells slots Q (F0 m q.1 ls (q.2.2.1.map (am_cv (am_ad B scr adK))))
theorem am_in_vp {i : Int32} {n : Nat} (h : am_in i n = true) : vp_in i n := by
  unfold am_in at h
  simp only [Bool.and_eq_true, decide_eq_true_eq] at h
  intro q
  rcases q with q | q
  · exact absurd q (Int32.not_lt.mpr h.1)
  · exact absurd h.2 (Nat.not_lt.mpr q)
theorem am_ad_lo {B scr n : Nat} {adK : Nat → Nat} (h : n < 200) : am_ad B scr adK n = B + n := by simp [am_ad, h]
theorem am_sh_lt {c : Nat} {x : Nat ⊕ (Nat × Nat)} (h : am_sh[c]? = some x) : c < 200 := by
  have h1 := (List.getElem?_eq_some_iff.mp h).1
  have h2 : am_sh.length = 120 := by decide +kernel
  omega
section AMS
variable {p : Program} {l : Launch} {e : Env} {R : Room} {s : State} {m : MethodId} {args : Array Value} {below : List Frame} {meth : Method} {c : Code} {H : Heap} {locs : List Loc} {cells slots : Nat} {Q : State → Prop} {cc : ByteArray} {pc nL own : Nat} {ini : Bool} {sc : Option (Nat × (Nat → Int32))} {D : va_G} {cA : Nat → ClassId} {B scr : Nat} {adK adV : Nat → Nat} {lim n0 z0 : Nat} {al st : List Value} {h : am_H} {ls : Array Slot} {o : am_O} {q : am_Q}
theorem am_s_iadd (C : am_C p R s m args meth c cc nL own ini sc D cA B scr adK adV lim n0 z0) (V : am_V nL s D cA B scr adK n0 z0 al h H locs ls cells slots)  (hd : decode cc pc = .ok (.iadd, 1)) (ho : o.1 = .iadd) (hn : am_nx lim own ini sc o pc al st h = some q) (kk : am_kk p l e R s m args below meth c Q nL D cA B scr adK n0 z0 q) : W p l e R s m args below meth c H locs cells slots Q (F0 m pc ls (st.map (am_cv (am_ad B scr adK)))) := by
  obtain ⟨k0, len, x0, tg⟩ := o
  cases ho
  simp only [am_nx] at hn
  split at hn
  · cases hn
    exact lv_iadd C.1 C.2.1 hd (kk _ _ _ _ _ V)
  · cases hn
theorem am_s_isub (C : am_C p R s m args meth c cc nL own ini sc D cA B scr adK adV lim n0 z0) (V : am_V nL s D cA B scr adK n0 z0 al h H locs ls cells slots)  (hd : decode cc pc = .ok (.isub, 1)) (ho : o.1 = .isub) (hn : am_nx lim own ini sc o pc al st h = some q) (kk : am_kk p l e R s m args below meth c Q nL D cA B scr adK n0 z0 q) : W p l e R s m args below meth c H locs cells slots Q (F0 m pc ls (st.map (am_cv (am_ad B scr adK)))) := by
  obtain ⟨k0, len, x0, tg⟩ := o
  cases ho
  simp only [am_nx] at hn
  split at hn
  · cases hn
    exact lv_isub C.1 C.2.1 hd (kk _ _ _ _ _ V)
  · cases hn
theorem am_s_imul (C : am_C p R s m args meth c cc nL own ini sc D cA B scr adK adV lim n0 z0) (V : am_V nL s D cA B scr adK n0 z0 al h H locs ls cells slots)  (hd : decode cc pc = .ok (.imul, 1)) (ho : o.1 = .imul) (hn : am_nx lim own ini sc o pc al st h = some q) (kk : am_kk p l e R s m args below meth c Q nL D cA B scr adK n0 z0 q) : W p l e R s m args below meth c H locs cells slots Q (F0 m pc ls (st.map (am_cv (am_ad B scr adK)))) := by
  obtain ⟨k0, len, x0, tg⟩ := o
  cases ho
  simp only [am_nx] at hn
  split at hn
  · cases hn
    exact lv_imul C.1 C.2.1 hd (kk _ _ _ _ _ V)
  · cases hn
theorem am_s_iand (C : am_C p R s m args meth c cc nL own ini sc D cA B scr adK adV lim n0 z0) (V : am_V nL s D cA B scr adK n0 z0 al h H locs ls cells slots)  (hd : decode cc pc = .ok (.iand, 1)) (ho : o.1 = .iand) (hn : am_nx lim own ini sc o pc al st h = some q) (kk : am_kk p l e R s m args below meth c Q nL D cA B scr adK n0 z0 q) : W p l e R s m args below meth c H locs cells slots Q (F0 m pc ls (st.map (am_cv (am_ad B scr adK)))) := by
  obtain ⟨k0, len, x0, tg⟩ := o
  cases ho
  simp only [am_nx] at hn
  split at hn
  · cases hn
    exact lv_iand C.1 C.2.1 hd (kk _ _ _ _ _ V)
  · cases hn
theorem am_s_ior (C : am_C p R s m args meth c cc nL own ini sc D cA B scr adK adV lim n0 z0) (V : am_V nL s D cA B scr adK n0 z0 al h H locs ls cells slots)  (hd : decode cc pc = .ok (.ior, 1)) (ho : o.1 = .ior) (hn : am_nx lim own ini sc o pc al st h = some q) (kk : am_kk p l e R s m args below meth c Q nL D cA B scr adK n0 z0 q) : W p l e R s m args below meth c H locs cells slots Q (F0 m pc ls (st.map (am_cv (am_ad B scr adK)))) := by
  obtain ⟨k0, len, x0, tg⟩ := o
  cases ho
  simp only [am_nx] at hn
  split at hn
  · cases hn
    exact lv_ior C.1 C.2.1 hd (kk _ _ _ _ _ V)
  · cases hn
theorem am_s_ixor (C : am_C p R s m args meth c cc nL own ini sc D cA B scr adK adV lim n0 z0) (V : am_V nL s D cA B scr adK n0 z0 al h H locs ls cells slots)  (hd : decode cc pc = .ok (.ixor, 1)) (ho : o.1 = .ixor) (hn : am_nx lim own ini sc o pc al st h = some q) (kk : am_kk p l e R s m args below meth c Q nL D cA B scr adK n0 z0 q) : W p l e R s m args below meth c H locs cells slots Q (F0 m pc ls (st.map (am_cv (am_ad B scr adK)))) := by
  obtain ⟨k0, len, x0, tg⟩ := o
  cases ho
  simp only [am_nx] at hn
  split at hn
  · cases hn
    exact lv_ixor C.1 C.2.1 hd (kk _ _ _ _ _ V)
  · cases hn
theorem am_s_ineg (C : am_C p R s m args meth c cc nL own ini sc D cA B scr adK adV lim n0 z0) (V : am_V nL s D cA B scr adK n0 z0 al h H locs ls cells slots)  (hd : decode cc pc = .ok (.ineg, 1)) (ho : o.1 = .ineg) (hn : am_nx lim own ini sc o pc al st h = some q) (kk : am_kk p l e R s m args below meth c Q nL D cA B scr adK n0 z0 q) : W p l e R s m args below meth c H locs cells slots Q (F0 m pc ls (st.map (am_cv (am_ad B scr adK)))) := by
  obtain ⟨k0, len, x0, tg⟩ := o
  cases ho
  simp only [am_nx] at hn
  split at hn
  · cases hn
    exact lv_ineg C.1 C.2.1 hd (kk _ _ _ _ _ V)
  · cases hn
theorem am_s_ishl (C : am_C p R s m args meth c cc nL own ini sc D cA B scr adK adV lim n0 z0) (V : am_V nL s D cA B scr adK n0 z0 al h H locs ls cells slots)  (hd : decode cc pc = .ok (.ishl, 1)) (ho : o.1 = .ishl) (hn : am_nx lim own ini sc o pc al st h = some q) (kk : am_kk p l e R s m args below meth c Q nL D cA B scr adK n0 z0 q) : W p l e R s m args below meth c H locs cells slots Q (F0 m pc ls (st.map (am_cv (am_ad B scr adK)))) := by
  obtain ⟨k0, len, x0, tg⟩ := o
  cases ho
  simp only [am_nx] at hn
  split at hn
  · cases hn
    exact lv_ishl C.1 C.2.1 hd (kk _ _ _ _ _ V)
  · cases hn
theorem am_s_ishr (C : am_C p R s m args meth c cc nL own ini sc D cA B scr adK adV lim n0 z0) (V : am_V nL s D cA B scr adK n0 z0 al h H locs ls cells slots)  (hd : decode cc pc = .ok (.ishr, 1)) (ho : o.1 = .ishr) (hn : am_nx lim own ini sc o pc al st h = some q) (kk : am_kk p l e R s m args below meth c Q nL D cA B scr adK n0 z0 q) : W p l e R s m args below meth c H locs cells slots Q (F0 m pc ls (st.map (am_cv (am_ad B scr adK)))) := by
  obtain ⟨k0, len, x0, tg⟩ := o
  cases ho
  simp only [am_nx] at hn
  split at hn
  · cases hn
    exact lv_ishr C.1 C.2.1 hd (kk _ _ _ _ _ V)
  · cases hn
theorem am_s_ladd (C : am_C p R s m args meth c cc nL own ini sc D cA B scr adK adV lim n0 z0) (V : am_V nL s D cA B scr adK n0 z0 al h H locs ls cells slots)  (hd : decode cc pc = .ok (.ladd, 1)) (ho : o.1 = .ladd) (hn : am_nx lim own ini sc o pc al st h = some q) (kk : am_kk p l e R s m args below meth c Q nL D cA B scr adK n0 z0 q) : W p l e R s m args below meth c H locs cells slots Q (F0 m pc ls (st.map (am_cv (am_ad B scr adK)))) := by
  obtain ⟨k0, len, x0, tg⟩ := o
  cases ho
  simp only [am_nx] at hn
  split at hn
  · cases hn
    exact lv_ladd C.1 C.2.1 hd (kk _ _ _ _ _ V)
  · cases hn
theorem am_s_lsub (C : am_C p R s m args meth c cc nL own ini sc D cA B scr adK adV lim n0 z0) (V : am_V nL s D cA B scr adK n0 z0 al h H locs ls cells slots)  (hd : decode cc pc = .ok (.lsub, 1)) (ho : o.1 = .lsub) (hn : am_nx lim own ini sc o pc al st h = some q) (kk : am_kk p l e R s m args below meth c Q nL D cA B scr adK n0 z0 q) : W p l e R s m args below meth c H locs cells slots Q (F0 m pc ls (st.map (am_cv (am_ad B scr adK)))) := by
  obtain ⟨k0, len, x0, tg⟩ := o
  cases ho
  simp only [am_nx] at hn
  split at hn
  · cases hn
    exact lv_lsub C.1 C.2.1 hd (kk _ _ _ _ _ V)
  · cases hn
theorem am_s_lmul (C : am_C p R s m args meth c cc nL own ini sc D cA B scr adK adV lim n0 z0) (V : am_V nL s D cA B scr adK n0 z0 al h H locs ls cells slots)  (hd : decode cc pc = .ok (.lmul, 1)) (ho : o.1 = .lmul) (hn : am_nx lim own ini sc o pc al st h = some q) (kk : am_kk p l e R s m args below meth c Q nL D cA B scr adK n0 z0 q) : W p l e R s m args below meth c H locs cells slots Q (F0 m pc ls (st.map (am_cv (am_ad B scr adK)))) := by
  obtain ⟨k0, len, x0, tg⟩ := o
  cases ho
  simp only [am_nx] at hn
  split at hn
  · cases hn
    exact lv_lmul C.1 C.2.1 hd (kk _ _ _ _ _ V)
  · cases hn
theorem am_s_land (C : am_C p R s m args meth c cc nL own ini sc D cA B scr adK adV lim n0 z0) (V : am_V nL s D cA B scr adK n0 z0 al h H locs ls cells slots)  (hd : decode cc pc = .ok (.land, 1)) (ho : o.1 = .land) (hn : am_nx lim own ini sc o pc al st h = some q) (kk : am_kk p l e R s m args below meth c Q nL D cA B scr adK n0 z0 q) : W p l e R s m args below meth c H locs cells slots Q (F0 m pc ls (st.map (am_cv (am_ad B scr adK)))) := by
  obtain ⟨k0, len, x0, tg⟩ := o
  cases ho
  simp only [am_nx] at hn
  split at hn
  · cases hn
    exact lv_land C.1 C.2.1 hd (kk _ _ _ _ _ V)
  · cases hn
theorem am_s_lor (C : am_C p R s m args meth c cc nL own ini sc D cA B scr adK adV lim n0 z0) (V : am_V nL s D cA B scr adK n0 z0 al h H locs ls cells slots)  (hd : decode cc pc = .ok (.lor, 1)) (ho : o.1 = .lor) (hn : am_nx lim own ini sc o pc al st h = some q) (kk : am_kk p l e R s m args below meth c Q nL D cA B scr adK n0 z0 q) : W p l e R s m args below meth c H locs cells slots Q (F0 m pc ls (st.map (am_cv (am_ad B scr adK)))) := by
  obtain ⟨k0, len, x0, tg⟩ := o
  cases ho
  simp only [am_nx] at hn
  split at hn
  · cases hn
    exact lv_lor C.1 C.2.1 hd (kk _ _ _ _ _ V)
  · cases hn
theorem am_s_iushr (C : am_C p R s m args meth c cc nL own ini sc D cA B scr adK adV lim n0 z0) (V : am_V nL s D cA B scr adK n0 z0 al h H locs ls cells slots)  (hd : decode cc pc = .ok (.iushr, 1)) (ho : o.1 = .iushr) (hn : am_nx lim own ini sc o pc al st h = some q) (kk : am_kk p l e R s m args below meth c Q nL D cA B scr adK n0 z0 q) : W p l e R s m args below meth c H locs cells slots Q (F0 m pc ls (st.map (am_cv (am_ad B scr adK)))) := by
  obtain ⟨k0, len, x0, tg⟩ := o
  cases ho
  simp only [am_nx] at hn
  split at hn
  · cases hn
    exact lv_iushr C.1 C.2.1 hd rfl (kk _ _ _ _ _ V)
  · cases hn
theorem am_s_lshl (C : am_C p R s m args meth c cc nL own ini sc D cA B scr adK adV lim n0 z0) (V : am_V nL s D cA B scr adK n0 z0 al h H locs ls cells slots)  (hd : decode cc pc = .ok (.lshl, 1)) (ho : o.1 = .lshl) (hn : am_nx lim own ini sc o pc al st h = some q) (kk : am_kk p l e R s m args below meth c Q nL D cA B scr adK n0 z0 q) : W p l e R s m args below meth c H locs cells slots Q (F0 m pc ls (st.map (am_cv (am_ad B scr adK)))) := by
  obtain ⟨k0, len, x0, tg⟩ := o
  cases ho
  simp only [am_nx] at hn
  split at hn
  · cases hn
    exact lv_lshl C.1 C.2.1 hd rfl (kk _ _ _ _ _ V)
  · cases hn
theorem am_s_lshr (C : am_C p R s m args meth c cc nL own ini sc D cA B scr adK adV lim n0 z0) (V : am_V nL s D cA B scr adK n0 z0 al h H locs ls cells slots)  (hd : decode cc pc = .ok (.lshr, 1)) (ho : o.1 = .lshr) (hn : am_nx lim own ini sc o pc al st h = some q) (kk : am_kk p l e R s m args below meth c Q nL D cA B scr adK n0 z0 q) : W p l e R s m args below meth c H locs cells slots Q (F0 m pc ls (st.map (am_cv (am_ad B scr adK)))) := by
  obtain ⟨k0, len, x0, tg⟩ := o
  cases ho
  simp only [am_nx] at hn
  split at hn
  · cases hn
    exact lv_lshr C.1 C.2.1 hd rfl (kk _ _ _ _ _ V)
  · cases hn
theorem am_s_lushr (C : am_C p R s m args meth c cc nL own ini sc D cA B scr adK adV lim n0 z0) (V : am_V nL s D cA B scr adK n0 z0 al h H locs ls cells slots)  (hd : decode cc pc = .ok (.lushr, 1)) (ho : o.1 = .lushr) (hn : am_nx lim own ini sc o pc al st h = some q) (kk : am_kk p l e R s m args below meth c Q nL D cA B scr adK n0 z0 q) : W p l e R s m args below meth c H locs cells slots Q (F0 m pc ls (st.map (am_cv (am_ad B scr adK)))) := by
  obtain ⟨k0, len, x0, tg⟩ := o
  cases ho
  simp only [am_nx] at hn
  split at hn
  · cases hn
    exact lv_lushr C.1 C.2.1 hd rfl (kk _ _ _ _ _ V)
  · cases hn
theorem am_s_i2l (C : am_C p R s m args meth c cc nL own ini sc D cA B scr adK adV lim n0 z0) (V : am_V nL s D cA B scr adK n0 z0 al h H locs ls cells slots)  (hd : decode cc pc = .ok (.i2l, 1)) (ho : o.1 = .i2l) (hn : am_nx lim own ini sc o pc al st h = some q) (kk : am_kk p l e R s m args below meth c Q nL D cA B scr adK n0 z0 q) : W p l e R s m args below meth c H locs cells slots Q (F0 m pc ls (st.map (am_cv (am_ad B scr adK)))) := by
  obtain ⟨k0, len, x0, tg⟩ := o
  cases ho
  simp only [am_nx] at hn
  split at hn
  · cases hn
    exact lv_i2l C.1 C.2.1 hd rfl (kk _ _ _ _ _ V)
  · cases hn
theorem am_s_i2b (C : am_C p R s m args meth c cc nL own ini sc D cA B scr adK adV lim n0 z0) (V : am_V nL s D cA B scr adK n0 z0 al h H locs ls cells slots)  (hd : decode cc pc = .ok (.i2b, 1)) (ho : o.1 = .i2b) (hn : am_nx lim own ini sc o pc al st h = some q) (kk : am_kk p l e R s m args below meth c Q nL D cA B scr adK n0 z0 q) : W p l e R s m args below meth c H locs cells slots Q (F0 m pc ls (st.map (am_cv (am_ad B scr adK)))) := by
  obtain ⟨k0, len, x0, tg⟩ := o
  cases ho
  simp only [am_nx] at hn
  split at hn
  · cases hn
    exact lv_i2b C.1 C.2.1 hd rfl (kk _ _ _ _ _ V)
  · cases hn
theorem am_s_lcmp (C : am_C p R s m args meth c cc nL own ini sc D cA B scr adK adV lim n0 z0) (V : am_V nL s D cA B scr adK n0 z0 al h H locs ls cells slots)  (hd : decode cc pc = .ok (.lcmp, 1)) (ho : o.1 = .lcmp) (hn : am_nx lim own ini sc o pc al st h = some q) (kk : am_kk p l e R s m args below meth c Q nL D cA B scr adK n0 z0 q) : W p l e R s m args below meth c H locs cells slots Q (F0 m pc ls (st.map (am_cv (am_ad B scr adK)))) := by
  obtain ⟨k0, len, x0, tg⟩ := o
  cases ho
  simp only [am_nx] at hn
  split at hn
  · cases hn
    exact W.lcmp C.1 C.2.1 hd (kk _ _ _ _ _ V)
  · cases hn
theorem am_s_pop (C : am_C p R s m args meth c cc nL own ini sc D cA B scr adK adV lim n0 z0) (V : am_V nL s D cA B scr adK n0 z0 al h H locs ls cells slots)  (hd : decode cc pc = .ok (.pop, 1)) (ho : o.1 = .pop) (hn : am_nx lim own ini sc o pc al st h = some q) (kk : am_kk p l e R s m args below meth c Q nL D cA B scr adK n0 z0 q) : W p l e R s m args below meth c H locs cells slots Q (F0 m pc ls (st.map (am_cv (am_ad B scr adK)))) := by
  obtain ⟨k0, len, x0, tg⟩ := o
  cases ho
  simp only [am_nx] at hn
  split at hn
  · cases hn
    exact lv_pop C.1 C.2.1 hd rfl (kk _ _ _ _ _ V)
  · cases hn
theorem am_s_dup (C : am_C p R s m args meth c cc nL own ini sc D cA B scr adK adV lim n0 z0) (V : am_V nL s D cA B scr adK n0 z0 al h H locs ls cells slots)  (hd : decode cc pc = .ok (.dup, 1)) (ho : o.1 = .dup) (hn : am_nx lim own ini sc o pc al st h = some q) (kk : am_kk p l e R s m args below meth c Q nL D cA B scr adK n0 z0 q) : W p l e R s m args below meth c H locs cells slots Q (F0 m pc ls (st.map (am_cv (am_ad B scr adK)))) := by
  obtain ⟨k0, len, x0, tg⟩ := o
  cases ho
  simp only [am_nx] at hn
  split at hn
  · cases hn
    exact lv_dup C.1 C.2.1 hd rfl (kk _ _ _ _ _ V)
  · cases hn
    exact lv_dup C.1 C.2.1 hd rfl (kk _ _ _ _ _ V)
  · cases hn
theorem am_s_dup2 (C : am_C p R s m args meth c cc nL own ini sc D cA B scr adK adV lim n0 z0) (V : am_V nL s D cA B scr adK n0 z0 al h H locs ls cells slots)  (hd : decode cc pc = .ok (.dup2, 1)) (ho : o.1 = .dup2) (hn : am_nx lim own ini sc o pc al st h = some q) (kk : am_kk p l e R s m args below meth c Q nL D cA B scr adK n0 z0 q) : W p l e R s m args below meth c H locs cells slots Q (F0 m pc ls (st.map (am_cv (am_ad B scr adK)))) := by
  obtain ⟨k0, len, x0, tg⟩ := o
  cases ho
  simp only [am_nx] at hn
  split at hn
  · cases hn
    exact lv_dup2_11 C.1 C.2.1 hd rfl rfl (kk _ _ _ _ _ V)
  · cases hn
theorem am_s_ciconst (C : am_C p R s m args meth c cc nL own ini sc D cA B scr adK adV lim n0 z0) (V : am_V nL s D cA B scr adK n0 z0 al h H locs ls cells slots) {n z : Int} (hx : Int32.ofInt n = o.2.2.1) (hln : o.2.1 = 1) (hd : decode cc pc = .ok (.iconst n, 1)) (ho : o.1 = .iconst z) (hn : am_nx lim own ini sc o pc al st h = some q) (kk : am_kk p l e R s m args below meth c Q nL D cA B scr adK n0 z0 q) : W p l e R s m args below meth c H locs cells slots Q (F0 m pc ls (st.map (am_cv (am_ad B scr adK)))) := by
  obtain ⟨k0, len, x0, tg⟩ := o
  cases ho
  simp only [am_nx] at hn
  cases hn
  dsimp only at hx hln
  subst hln
  exact lv_iconst C.1 C.2.1 hd hx (kk _ _ _ _ _ V)
theorem am_s_cbipush (C : am_C p R s m args meth c cc nL own ini sc D cA B scr adK adV lim n0 z0) (V : am_V nL s D cA B scr adK n0 z0 al h H locs ls cells slots) {n z : Int} (hx : (Int8.ofInt n).toInt32 = o.2.2.1) (hln : o.2.1 = 2) (hd : decode cc pc = .ok (.bipush n, 2)) (ho : o.1 = .iconst z) (hn : am_nx lim own ini sc o pc al st h = some q) (kk : am_kk p l e R s m args below meth c Q nL D cA B scr adK n0 z0 q) : W p l e R s m args below meth c H locs cells slots Q (F0 m pc ls (st.map (am_cv (am_ad B scr adK)))) := by
  obtain ⟨k0, len, x0, tg⟩ := o
  cases ho
  simp only [am_nx] at hn
  cases hn
  dsimp only at hx hln
  subst hln
  exact lv_bipush C.1 C.2.1 hd hx (kk _ _ _ _ _ V)
theorem am_s_csipush (C : am_C p R s m args meth c cc nL own ini sc D cA B scr adK adV lim n0 z0) (V : am_V nL s D cA B scr adK n0 z0 al h H locs ls cells slots) {n z : Int} (hx : (Int16.ofInt n).toInt32 = o.2.2.1) (hln : o.2.1 = 3) (hd : decode cc pc = .ok (.sipush n, 3)) (ho : o.1 = .iconst z) (hn : am_nx lim own ini sc o pc al st h = some q) (kk : am_kk p l e R s m args below meth c Q nL D cA B scr adK n0 z0 q) : W p l e R s m args below meth c H locs cells slots Q (F0 m pc ls (st.map (am_cv (am_ad B scr adK)))) := by
  obtain ⟨k0, len, x0, tg⟩ := o
  cases ho
  simp only [am_nx] at hn
  cases hn
  dsimp only at hx hln
  subst hln
  exact lv_sipush C.1 C.2.1 hd hx (kk _ _ _ _ _ V)
theorem am_s_lconst (C : am_C p R s m args meth c cc nL own ini sc D cA B scr adK adV lim n0 z0) (V : am_V nL s D cA B scr adK n0 z0 al h H locs ls cells slots) {n : Fin 2} (hd : decode cc pc = .ok (.lconst n, 1)) (ho : o.1 = .lconst n) (hn : am_nx lim own ini sc o pc al st h = some q) (kk : am_kk p l e R s m args below meth c Q nL D cA B scr adK n0 z0 q) : W p l e R s m args below meth c H locs cells slots Q (F0 m pc ls (st.map (am_cv (am_ad B scr adK)))) := by
  obtain ⟨k0, len, x0, tg⟩ := o
  cases ho
  simp only [am_nx] at hn
  cases hn
  exact lv_lconst C.1 C.2.1 hd rfl (kk _ _ _ _ _ V)
theorem am_s_ldc_w (C : am_C p R s m args meth c cc nL own ini sc D cA B scr adK adV lim n0 z0) (V : am_V nL s D cA B scr adK n0 z0 al h H locs ls cells slots) {i : Nat} (hd : decode cc pc = .ok (.ldc_w i, 3)) (ho : o.1 = .ldc_w i) (hn : am_nx lim own ini sc o pc al st h = some q) (kk : am_kk p l e R s m args below meth c Q nL D cA B scr adK n0 z0 q) : W p l e R s m args below meth c H locs cells slots Q (F0 m pc ls (st.map (am_cv (am_ad B scr adK)))) := by
  obtain ⟨k0, len, x0, tg⟩ := o
  cases ho
  simp only [am_nx] at hn
  split at hn
  · rename_i x w hx
    cases hn
    exact lv_ldcw C.1 C.2.1 C.2.2.2.1 (C.2.2.2.2.1 _ (am_kc_ok hx)) hd (kk _ _ _ _ _ V)
  · cases hn
theorem am_s_ldc2_w (C : am_C p R s m args meth c cc nL own ini sc D cA B scr adK adV lim n0 z0) (V : am_V nL s D cA B scr adK n0 z0 al h H locs ls cells slots) {i : Nat} (hd : decode cc pc = .ok (.ldc2_w i, 3)) (ho : o.1 = .ldc2_w i) (hn : am_nx lim own ini sc o pc al st h = some q) (kk : am_kk p l e R s m args below meth c Q nL D cA B scr adK n0 z0 q) : W p l e R s m args below meth c H locs cells slots Q (F0 m pc ls (st.map (am_cv (am_ad B scr adK)))) := by
  obtain ⟨k0, len, x0, tg⟩ := o
  cases ho
  simp only [am_nx] at hn
  split at hn
  · rename_i x w hx
    cases hn
    exact lv_ldc2 C.1 C.2.1 C.2.2.2.1 (C.2.2.2.2.1 _ (am_kl_ok hx)) hd (kk _ _ _ _ _ V)
  · cases hn
theorem am_s_iload (C : am_C p R s m args meth c cc nL own ini sc D cA B scr adK adV lim n0 z0) (V : am_V nL s D cA B scr adK n0 z0 al h H locs ls cells slots) {i : Nat} (hln : o.2.1 = 2) (hd : decode cc pc = .ok (.iload i, 2)) (ho : o.1 = .iload i) (hn : am_nx lim own ini sc o pc al st h = some q) (kk : am_kk p l e R s m args below meth c Q nL D cA B scr adK n0 z0 q) : W p l e R s m args below meth c H locs cells slots Q (F0 m pc ls (st.map (am_cv (am_ad B scr adK)))) := by
  obtain ⟨k0, len, x0, tg⟩ := o
  cases ho
  simp only [am_nx] at hn
  split at hn
  · rename_i x hx
    cases hn
    dsimp only at hln
    subst hln
    have h1 := V.1.2.2.2 i (by rw [hx]; simp)
    rw [hx] at h1
    exact lv_iload C.1 C.2.1 hd h1 (kk _ _ _ _ _ V)
  · cases hn
theorem am_s_iload_n (C : am_C p R s m args meth c cc nL own ini sc D cA B scr adK adV lim n0 z0) (V : am_V nL s D cA B scr adK n0 z0 al h H locs ls cells slots) {i : Nat} {k : Fin 4} (hi : (k : Nat) = i) (hln : o.2.1 = 1) (hd : decode cc pc = .ok (.iload_n k, 1)) (ho : o.1 = .iload i) (hn : am_nx lim own ini sc o pc al st h = some q) (kk : am_kk p l e R s m args below meth c Q nL D cA B scr adK n0 z0 q) : W p l e R s m args below meth c H locs cells slots Q (F0 m pc ls (st.map (am_cv (am_ad B scr adK)))) := by
  obtain ⟨k0, len, x0, tg⟩ := o
  cases ho
  simp only [am_nx] at hn
  split at hn
  · rename_i x hx
    cases hn
    dsimp only at hln
    subst hln
    have h1 := V.1.2.2.2 i (by rw [hx]; simp)
    rw [hx] at h1
    exact lv_iload_n C.1 C.2.1 hd hi h1 (kk _ _ _ _ _ V)
  · cases hn
theorem am_s_lload (C : am_C p R s m args meth c cc nL own ini sc D cA B scr adK adV lim n0 z0) (V : am_V nL s D cA B scr adK n0 z0 al h H locs ls cells slots) {i : Nat} (hln : o.2.1 = 2) (hd : decode cc pc = .ok (.lload i, 2)) (ho : o.1 = .lload i) (hn : am_nx lim own ini sc o pc al st h = some q) (kk : am_kk p l e R s m args below meth c Q nL D cA B scr adK n0 z0 q) : W p l e R s m args below meth c H locs cells slots Q (F0 m pc ls (st.map (am_cv (am_ad B scr adK)))) := by
  obtain ⟨k0, len, x0, tg⟩ := o
  cases ho
  simp only [am_nx] at hn
  split at hn
  · rename_i x hx
    cases hn
    dsimp only at hln
    subst hln
    have h1 := V.1.2.2.2 i (by rw [hx]; simp)
    rw [hx] at h1
    exact lv_lload C.1 C.2.1 hd h1 (kk _ _ _ _ _ V)
  · cases hn
theorem am_s_lload_n (C : am_C p R s m args meth c cc nL own ini sc D cA B scr adK adV lim n0 z0) (V : am_V nL s D cA B scr adK n0 z0 al h H locs ls cells slots) {i : Nat} {k : Fin 4} (hi : (k : Nat) = i) (hln : o.2.1 = 1) (hd : decode cc pc = .ok (.lload_n k, 1)) (ho : o.1 = .lload i) (hn : am_nx lim own ini sc o pc al st h = some q) (kk : am_kk p l e R s m args below meth c Q nL D cA B scr adK n0 z0 q) : W p l e R s m args below meth c H locs cells slots Q (F0 m pc ls (st.map (am_cv (am_ad B scr adK)))) := by
  obtain ⟨k0, len, x0, tg⟩ := o
  cases ho
  simp only [am_nx] at hn
  split at hn
  · rename_i x hx
    cases hn
    dsimp only at hln
    subst hln
    have h1 := V.1.2.2.2 i (by rw [hx]; simp)
    rw [hx] at h1
    exact lv_lload_n C.1 C.2.1 hd hi h1 (kk _ _ _ _ _ V)
  · cases hn
theorem am_s_aload (C : am_C p R s m args meth c cc nL own ini sc D cA B scr adK adV lim n0 z0) (V : am_V nL s D cA B scr adK n0 z0 al h H locs ls cells slots) {i : Nat} (hln : o.2.1 = 2) (hd : decode cc pc = .ok (.aload i, 2)) (ho : o.1 = .aload i) (hn : am_nx lim own ini sc o pc al st h = some q) (kk : am_kk p l e R s m args below meth c Q nL D cA B scr adK n0 z0 q) : W p l e R s m args below meth c H locs cells slots Q (F0 m pc ls (st.map (am_cv (am_ad B scr adK)))) := by
  obtain ⟨k0, len, x0, tg⟩ := o
  cases ho
  simp only [am_nx] at hn
  split at hn
  · rename_i x hx
    cases hn
    dsimp only at hln
    subst hln
    have h1 := V.1.2.2.2 i (by rw [hx]; simp)
    rw [hx] at h1
    exact lv_aload C.1 C.2.1 hd h1 (kk _ _ _ _ _ V)
  · cases hn
theorem am_s_aload_n (C : am_C p R s m args meth c cc nL own ini sc D cA B scr adK adV lim n0 z0) (V : am_V nL s D cA B scr adK n0 z0 al h H locs ls cells slots) {i : Nat} {k : Fin 4} (hi : (k : Nat) = i) (hln : o.2.1 = 1) (hd : decode cc pc = .ok (.aload_n k, 1)) (ho : o.1 = .aload i) (hn : am_nx lim own ini sc o pc al st h = some q) (kk : am_kk p l e R s m args below meth c Q nL D cA B scr adK n0 z0 q) : W p l e R s m args below meth c H locs cells slots Q (F0 m pc ls (st.map (am_cv (am_ad B scr adK)))) := by
  obtain ⟨k0, len, x0, tg⟩ := o
  cases ho
  simp only [am_nx] at hn
  split at hn
  · rename_i x hx
    cases hn
    dsimp only at hln
    subst hln
    have h1 := V.1.2.2.2 i (by rw [hx]; simp)
    rw [hx] at h1
    exact lv_aload_n C.1 C.2.1 hd hi h1 (kk _ _ _ _ _ V)
  · cases hn
theorem am_s_istore (C : am_C p R s m args meth c cc nL own ini sc D cA B scr adK adV lim n0 z0) (V : am_V nL s D cA B scr adK n0 z0 al h H locs ls cells slots) {i : Nat} (hln : o.2.1 = 2) (hd : decode cc pc = .ok (.istore i, 2)) (ho : o.1 = .istore i) (hn : am_nx lim own ini sc o pc al st h = some q) (kk : am_kk p l e R s m args below meth c Q nL D cA B scr adK n0 z0 q) : W p l e R s m args below meth c H locs cells slots Q (F0 m pc ls (st.map (am_cv (am_ad B scr adK)))) := by
  obtain ⟨k0, len, x0, tg⟩ := o
  cases ho
  simp only [am_nx] at hn
  split at hn
  · rename_i x st
    cases hb : Nat.blt (i) al.length with
    | false => rw [hb] at hn; cases hn
    | true =>
      rw [hb] at hn
      cases hn
      dsimp only at hln
      subst hln
      have hlt : i < nL := by rw [← V.1.1]; exact Nat.le_of_ble_eq_true hb
      exact lv_istore C.1 C.2.1 hd V.1.has hlt rfl (fun ls' hl' => kk _ _ _ _ _ ⟨am_L.store1 V.1 hl', V.2⟩)
  · cases hn
theorem am_s_istore_n (C : am_C p R s m args meth c cc nL own ini sc D cA B scr adK adV lim n0 z0) (V : am_V nL s D cA B scr adK n0 z0 al h H locs ls cells slots) {i : Nat} {k : Fin 4} (hi : (k : Nat) = i) (hln : o.2.1 = 1) (hd : decode cc pc = .ok (.istore_n k, 1)) (ho : o.1 = .istore i) (hn : am_nx lim own ini sc o pc al st h = some q) (kk : am_kk p l e R s m args below meth c Q nL D cA B scr adK n0 z0 q) : W p l e R s m args below meth c H locs cells slots Q (F0 m pc ls (st.map (am_cv (am_ad B scr adK)))) := by
  obtain ⟨k0, len, x0, tg⟩ := o
  cases ho
  simp only [am_nx] at hn
  split at hn
  · rename_i x st
    cases hb : Nat.blt (i) al.length with
    | false => rw [hb] at hn; cases hn
    | true =>
      rw [hb] at hn
      cases hn
      dsimp only at hln
      subst hln
      have hlt : i < nL := by rw [← V.1.1]; exact Nat.le_of_ble_eq_true hb
      exact lv_istore_n C.1 C.2.1 hd hi V.1.has hlt rfl (fun ls' hl' => kk _ _ _ _ _ ⟨am_L.store1 V.1 hl', V.2⟩)
  · cases hn
theorem am_s_astore (C : am_C p R s m args meth c cc nL own ini sc D cA B scr adK adV lim n0 z0) (V : am_V nL s D cA B scr adK n0 z0 al h H locs ls cells slots) {i : Nat} (hln : o.2.1 = 2) (hd : decode cc pc = .ok (.astore i, 2)) (ho : o.1 = .astore i) (hn : am_nx lim own ini sc o pc al st h = some q) (kk : am_kk p l e R s m args below meth c Q nL D cA B scr adK n0 z0 q) : W p l e R s m args below meth c H locs cells slots Q (F0 m pc ls (st.map (am_cv (am_ad B scr adK)))) := by
  obtain ⟨k0, len, x0, tg⟩ := o
  cases ho
  simp only [am_nx] at hn
  split at hn
  · rename_i x st
    cases hb : Nat.blt (i) al.length with
    | false => rw [hb] at hn; cases hn
    | true =>
      rw [hb] at hn
      cases hn
      dsimp only at hln
      subst hln
      have hlt : i < nL := by rw [← V.1.1]; exact Nat.le_of_ble_eq_true hb
      exact lv_astore C.1 C.2.1 hd V.1.has hlt rfl (fun ls' hl' => kk _ _ _ _ _ ⟨am_L.store1 V.1 hl', V.2⟩)
  · cases hn
theorem am_s_astore_n (C : am_C p R s m args meth c cc nL own ini sc D cA B scr adK adV lim n0 z0) (V : am_V nL s D cA B scr adK n0 z0 al h H locs ls cells slots) {i : Nat} {k : Fin 4} (hi : (k : Nat) = i) (hln : o.2.1 = 1) (hd : decode cc pc = .ok (.astore_n k, 1)) (ho : o.1 = .astore i) (hn : am_nx lim own ini sc o pc al st h = some q) (kk : am_kk p l e R s m args below meth c Q nL D cA B scr adK n0 z0 q) : W p l e R s m args below meth c H locs cells slots Q (F0 m pc ls (st.map (am_cv (am_ad B scr adK)))) := by
  obtain ⟨k0, len, x0, tg⟩ := o
  cases ho
  simp only [am_nx] at hn
  split at hn
  · rename_i x st
    cases hb : Nat.blt (i) al.length with
    | false => rw [hb] at hn; cases hn
    | true =>
      rw [hb] at hn
      cases hn
      dsimp only at hln
      subst hln
      have hlt : i < nL := by rw [← V.1.1]; exact Nat.le_of_ble_eq_true hb
      exact lv_astore_n C.1 C.2.1 hd hi V.1.has hlt rfl (fun ls' hl' => kk _ _ _ _ _ ⟨am_L.store1 V.1 hl', V.2⟩)
  · cases hn
theorem am_s_lstore (C : am_C p R s m args meth c cc nL own ini sc D cA B scr adK adV lim n0 z0) (V : am_V nL s D cA B scr adK n0 z0 al h H locs ls cells slots) {i : Nat} (hln : o.2.1 = 2) (hd : decode cc pc = .ok (.lstore i, 2)) (ho : o.1 = .lstore i) (hn : am_nx lim own ini sc o pc al st h = some q) (kk : am_kk p l e R s m args below meth c Q nL D cA B scr adK n0 z0 q) : W p l e R s m args below meth c H locs cells slots Q (F0 m pc ls (st.map (am_cv (am_ad B scr adK)))) := by
  obtain ⟨k0, len, x0, tg⟩ := o
  cases ho
  simp only [am_nx] at hn
  split at hn
  · rename_i x st
    cases hb : Nat.blt (i + 1) al.length with
    | false => rw [hb] at hn; cases hn
    | true =>
      rw [hb] at hn
      cases hn
      dsimp only at hln
      subst hln
      have hlt : i + 1 < nL := by rw [← V.1.1]; exact Nat.le_of_ble_eq_true hb
      exact lv_lstore C.1 C.2.1 hd V.1.has hlt rfl (fun ls' hl' => kk _ _ _ _ _ ⟨am_L.store2 V.1 hl', V.2⟩)
  · cases hn
theorem am_s_lstore_n (C : am_C p R s m args meth c cc nL own ini sc D cA B scr adK adV lim n0 z0) (V : am_V nL s D cA B scr adK n0 z0 al h H locs ls cells slots) {i : Nat} {k : Fin 4} (hi : (k : Nat) = i) (hln : o.2.1 = 1) (hd : decode cc pc = .ok (.lstore_n k, 1)) (ho : o.1 = .lstore i) (hn : am_nx lim own ini sc o pc al st h = some q) (kk : am_kk p l e R s m args below meth c Q nL D cA B scr adK n0 z0 q) : W p l e R s m args below meth c H locs cells slots Q (F0 m pc ls (st.map (am_cv (am_ad B scr adK)))) := by
  obtain ⟨k0, len, x0, tg⟩ := o
  cases ho
  simp only [am_nx] at hn
  split at hn
  · rename_i x st
    cases hb : Nat.blt (i + 1) al.length with
    | false => rw [hb] at hn; cases hn
    | true =>
      rw [hb] at hn
      cases hn
      dsimp only at hln
      subst hln
      have hlt : i + 1 < nL := by rw [← V.1.1]; exact Nat.le_of_ble_eq_true hb
      exact lv_lstore_n C.1 C.2.1 hd hi V.1.has hlt rfl (fun ls' hl' => kk _ _ _ _ _ ⟨am_L.store2 V.1 hl', V.2⟩)
  · cases hn
theorem am_s_iinc (C : am_C p R s m args meth c cc nL own ini sc D cA B scr adK adV lim n0 z0) (V : am_V nL s D cA B scr adK n0 z0 al h H locs ls cells slots) {i : Nat} {n z : Int} (hx : Int32.ofInt n = o.2.2.1) (hd : decode cc pc = .ok (.iinc i n, 3)) (ho : o.1 = .iinc i z) (hn : am_nx lim own ini sc o pc al st h = some q) (kk : am_kk p l e R s m args below meth c Q nL D cA B scr adK n0 z0 q) : W p l e R s m args below meth c H locs cells slots Q (F0 m pc ls (st.map (am_cv (am_ad B scr adK)))) := by
  obtain ⟨k0, len, x0, tg⟩ := o
  cases ho
  simp only [am_nx] at hn
  split at hn
  · rename_i x hx0
    cases hb : Nat.blt i al.length with
    | false => rw [hb] at hn; cases hn
    | true =>
      rw [hb] at hn
      cases hn
      dsimp only at hx
      subst hx
      have hlt : i < nL := by rw [← V.1.1]; exact Nat.le_of_ble_eq_true hb
      have hm : (i, Value.int x) ∈ am_lv (am_ad B scr adK) al := am_lv_mem.mpr ⟨by rw [hx0]; simp, by rw [hx0]; rfl⟩
      obtain ⟨k, hk⟩ := List.getElem?_of_mem hm
      exact lv_iinc C.1 C.2.1 hd V.1.has hk rfl hlt rfl (fun ls' hl' => kk _ _ _ _ _ ⟨am_L.store1 V.1 hl', V.2⟩)
  · cases hn
theorem am_s_goto (C : am_C p R s m args meth c cc nL own ini sc D cA B scr adK adV lim n0 z0) (V : am_V nL s D cA B scr adK n0 z0 al h H locs ls cells slots) {n z : Int} (ht : (pc : Int) + n = ((o.2.2.2.headD 0 : Nat) : Int)) (hd : decode cc pc = .ok (.goto n, 3)) (ho : o.1 = .goto z) (hn : am_nx lim own ini sc o pc al st h = some q) (kk : am_kk p l e R s m args below meth c Q nL D cA B scr adK n0 z0 q) : W p l e R s m args below meth c H locs cells slots Q (F0 m pc ls (st.map (am_cv (am_ad B scr adK)))) := by
  obtain ⟨k0, len, x0, tg⟩ := o
  cases ho
  simp only [am_nx] at hn
  cases hn
  exact lv_goto C.1 C.2.1 hd ht (kk _ _ _ _ _ V)
theorem am_s_ifc (C : am_C p R s m args meth c cc nL own ini sc D cA B scr adK adV lim n0 z0) (V : am_V nL s D cA B scr adK n0 z0 al h H locs ls cells slots) {k : ClassFile.Cond} {n z : Int} (ht : (pc : Int) + n = ((o.2.2.2.headD 0 : Nat) : Int)) (hd : decode cc pc = .ok (.ifCond k n, 3)) (ho : o.1 = .ifCond k z) (hn : am_nx lim own ini sc o pc al st h = some q) (kk : am_kk p l e R s m args below meth c Q nL D cA B scr adK n0 z0 q) : W p l e R s m args below meth c H locs cells slots Q (F0 m pc ls (st.map (am_cv (am_ad B scr adK)))) := by
  obtain ⟨k0, len, x0, tg⟩ := o
  cases ho
  simp only [am_nx] at hn
  split at hn
  · rename_i x st
    cases hn
    dsimp only at ht
    cases k with
    | eq =>
      refine lv_if_eq C.1 C.2.1 hd ht (fun hc => ?_) (fun hc => ?_)
      · have e9 : am_br .eq x 0 (tg.headD 0) (pc + 3) = tg.headD 0 := by simp only [am_br]; rw [decide_eq_true hc]; rfl
        have k9 := kk _ _ _ _ _ V
        dsimp only at k9
        rw [e9] at k9
        exact k9
      · have e9 : am_br .eq x 0 (tg.headD 0) (pc + 3) = pc + 3 := by simp only [am_br]; rw [decide_eq_false hc]; rfl
        have k9 := kk _ _ _ _ _ V
        dsimp only at k9
        rw [e9] at k9
        exact k9
    | ne =>
      refine lv_if_ne C.1 C.2.1 hd ht (fun hc => ?_) (fun hc => ?_)
      · have e9 : am_br .ne x 0 (tg.headD 0) (pc + 3) = tg.headD 0 := by simp only [am_br]; rw [decide_eq_false hc]; rfl
        have k9 := kk _ _ _ _ _ V
        dsimp only at k9
        rw [e9] at k9
        exact k9
      · have e9 : am_br .ne x 0 (tg.headD 0) (pc + 3) = pc + 3 := by simp only [am_br]; rw [decide_eq_true hc]; rfl
        have k9 := kk _ _ _ _ _ V
        dsimp only at k9
        rw [e9] at k9
        exact k9
    | lt =>
      refine lv_if_lt C.1 C.2.1 hd ht (fun hc => ?_) (fun hc => ?_)
      · have e9 : am_br .lt x 0 (tg.headD 0) (pc + 3) = tg.headD 0 := by simp only [am_br]; rw [decide_eq_true hc]; rfl
        have k9 := kk _ _ _ _ _ V
        dsimp only at k9
        rw [e9] at k9
        exact k9
      · have e9 : am_br .lt x 0 (tg.headD 0) (pc + 3) = pc + 3 := by simp only [am_br]; rw [decide_eq_false hc]; rfl
        have k9 := kk _ _ _ _ _ V
        dsimp only at k9
        rw [e9] at k9
        exact k9
    | ge =>
      refine lv_if_ge C.1 C.2.1 hd ht (fun hc => ?_) (fun hc => ?_)
      · have e9 : am_br .ge x 0 (tg.headD 0) (pc + 3) = tg.headD 0 := by simp only [am_br]; rw [decide_eq_false (Int32.not_lt.mpr hc)]; rfl
        have k9 := kk _ _ _ _ _ V
        dsimp only at k9
        rw [e9] at k9
        exact k9
      · have e9 : am_br .ge x 0 (tg.headD 0) (pc + 3) = pc + 3 := by simp only [am_br]; rw [decide_eq_true (Int32.not_le.mp hc)]; rfl
        have k9 := kk _ _ _ _ _ V
        dsimp only at k9
        rw [e9] at k9
        exact k9
    | gt =>
      refine lv_if_gt C.1 C.2.1 hd ht (fun hc => ?_) (fun hc => ?_)
      · have e9 : am_br .gt x 0 (tg.headD 0) (pc + 3) = tg.headD 0 := by simp only [am_br]; rw [decide_eq_true hc]; rfl
        have k9 := kk _ _ _ _ _ V
        dsimp only at k9
        rw [e9] at k9
        exact k9
      · have e9 : am_br .gt x 0 (tg.headD 0) (pc + 3) = pc + 3 := by simp only [am_br]; rw [decide_eq_false hc]; rfl
        have k9 := kk _ _ _ _ _ V
        dsimp only at k9
        rw [e9] at k9
        exact k9
    | le =>
      refine lv_if_le C.1 C.2.1 hd ht (fun hc => ?_) (fun hc => ?_)
      · have e9 : am_br .le x 0 (tg.headD 0) (pc + 3) = tg.headD 0 := by simp only [am_br]; rw [decide_eq_false (Int32.not_lt.mpr hc)]; rfl
        have k9 := kk _ _ _ _ _ V
        dsimp only at k9
        rw [e9] at k9
        exact k9
      · have e9 : am_br .le x 0 (tg.headD 0) (pc + 3) = pc + 3 := by simp only [am_br]; rw [decide_eq_true (Int32.not_le.mp hc)]; rfl
        have k9 := kk _ _ _ _ _ V
        dsimp only at k9
        rw [e9] at k9
        exact k9
  · cases hn
theorem am_s_icmp (C : am_C p R s m args meth c cc nL own ini sc D cA B scr adK adV lim n0 z0) (V : am_V nL s D cA B scr adK n0 z0 al h H locs ls cells slots) {k : ClassFile.Cond} {n z : Int} (ht : (pc : Int) + n = ((o.2.2.2.headD 0 : Nat) : Int)) (hd : decode cc pc = .ok (.if_icmp k n, 3)) (ho : o.1 = .if_icmp k z) (hn : am_nx lim own ini sc o pc al st h = some q) (kk : am_kk p l e R s m args below meth c Q nL D cA B scr adK n0 z0 q) : W p l e R s m args below meth c H locs cells slots Q (F0 m pc ls (st.map (am_cv (am_ad B scr adK)))) := by
  obtain ⟨k0, len, x0, tg⟩ := o
  cases ho
  simp only [am_nx] at hn
  split at hn
  · rename_i y x st
    cases hn
    dsimp only at ht
    cases k with
    | eq =>
      refine lv_icmp_eq C.1 C.2.1 hd ht (fun hc => ?_) (fun hc => ?_)
      · have e9 : am_br .eq x y (tg.headD 0) (pc + 3) = tg.headD 0 := by simp only [am_br]; rw [decide_eq_true hc]; rfl
        have k9 := kk _ _ _ _ _ V
        dsimp only at k9
        rw [e9] at k9
        exact k9
      · have e9 : am_br .eq x y (tg.headD 0) (pc + 3) = pc + 3 := by simp only [am_br]; rw [decide_eq_false hc]; rfl
        have k9 := kk _ _ _ _ _ V
        dsimp only at k9
        rw [e9] at k9
        exact k9
    | ne =>
      refine lv_icmp_ne C.1 C.2.1 hd ht (fun hc => ?_) (fun hc => ?_)
      · have e9 : am_br .ne x y (tg.headD 0) (pc + 3) = tg.headD 0 := by simp only [am_br]; rw [decide_eq_false hc]; rfl
        have k9 := kk _ _ _ _ _ V
        dsimp only at k9
        rw [e9] at k9
        exact k9
      · have e9 : am_br .ne x y (tg.headD 0) (pc + 3) = pc + 3 := by simp only [am_br]; rw [decide_eq_true hc]; rfl
        have k9 := kk _ _ _ _ _ V
        dsimp only at k9
        rw [e9] at k9
        exact k9
    | lt =>
      refine lv_icmp_lt C.1 C.2.1 hd ht (fun hc => ?_) (fun hc => ?_)
      · have e9 : am_br .lt x y (tg.headD 0) (pc + 3) = tg.headD 0 := by simp only [am_br]; rw [decide_eq_true hc]; rfl
        have k9 := kk _ _ _ _ _ V
        dsimp only at k9
        rw [e9] at k9
        exact k9
      · have e9 : am_br .lt x y (tg.headD 0) (pc + 3) = pc + 3 := by simp only [am_br]; rw [decide_eq_false hc]; rfl
        have k9 := kk _ _ _ _ _ V
        dsimp only at k9
        rw [e9] at k9
        exact k9
    | ge =>
      refine lv_icmp_ge C.1 C.2.1 hd ht (fun hc => ?_) (fun hc => ?_)
      · have e9 : am_br .ge x y (tg.headD 0) (pc + 3) = tg.headD 0 := by simp only [am_br]; rw [decide_eq_false (Int32.not_lt.mpr hc)]; rfl
        have k9 := kk _ _ _ _ _ V
        dsimp only at k9
        rw [e9] at k9
        exact k9
      · have e9 : am_br .ge x y (tg.headD 0) (pc + 3) = pc + 3 := by simp only [am_br]; rw [decide_eq_true (Int32.not_le.mp hc)]; rfl
        have k9 := kk _ _ _ _ _ V
        dsimp only at k9
        rw [e9] at k9
        exact k9
    | gt =>
      refine lv_icmp_gt C.1 C.2.1 hd ht (fun hc => ?_) (fun hc => ?_)
      · have e9 : am_br .gt x y (tg.headD 0) (pc + 3) = tg.headD 0 := by simp only [am_br]; rw [decide_eq_true hc]; rfl
        have k9 := kk _ _ _ _ _ V
        dsimp only at k9
        rw [e9] at k9
        exact k9
      · have e9 : am_br .gt x y (tg.headD 0) (pc + 3) = pc + 3 := by simp only [am_br]; rw [decide_eq_false hc]; rfl
        have k9 := kk _ _ _ _ _ V
        dsimp only at k9
        rw [e9] at k9
        exact k9
    | le =>
      refine lv_icmp_le C.1 C.2.1 hd ht (fun hc => ?_) (fun hc => ?_)
      · have e9 : am_br .le x y (tg.headD 0) (pc + 3) = tg.headD 0 := by simp only [am_br]; rw [decide_eq_false (Int32.not_lt.mpr hc)]; rfl
        have k9 := kk _ _ _ _ _ V
        dsimp only at k9
        rw [e9] at k9
        exact k9
      · have e9 : am_br .le x y (tg.headD 0) (pc + 3) = pc + 3 := by simp only [am_br]; rw [decide_eq_true (Int32.not_le.mp hc)]; rfl
        have k9 := kk _ _ _ _ _ V
        dsimp only at k9
        rw [e9] at k9
        exact k9
  · cases hn
theorem am_sw_in {v : Int32} {d : Nat} : ∀ (ts : List Nat) (k : Int32) (j : Nat) (t : Nat), ts[j]? = some t → k.toInt + ts.length < 2 ^ 31 → v.toInt = k.toInt + j → am_sw v k d ts = t := by
  intro ts
  induction ts with
  | nil => intro k j t h; simp at h
  | cons a r ih =>
    intro k j t h hb hv
    unfold am_sw
    cases j with
    | zero =>
      have e : v = k := Int32.toInt_inj.mp (by simpa using hv)
      simp at h
      rw [decide_eq_true e]
      exact h
    | succ j =>
      have hk : (k + 1).toInt = k.toInt + 1 := by
        rw [Int32.toInt_add]
        have h1 := Int32.le_toInt k
        simp only [List.length_cons] at hb
        show (k.toInt + 1).bmod _ = _
        rw [Int.bmod_def]

        omega
      have hne : v ≠ k := fun e => by rw [e] at hv; omega
      rw [decide_eq_false hne]
      exact ih (k + 1) j t (by simpa using h) (by rw [hk]; simp only [List.length_cons] at hb; omega) (by rw [hk]; omega)
theorem am_sw_out {v : Int32} {d : Nat} : ∀ (ts : List Nat) (k : Int32), k.toInt + ts.length < 2 ^ 31 → (v.toInt < k.toInt ∨ k.toInt + ts.length ≤ v.toInt) → am_sw v k d ts = d := by
  intro ts
  induction ts with
  | nil => intro k _ _; rfl
  | cons a r ih =>
    intro k hb hv
    unfold am_sw
    simp only [List.length_cons] at hb hv
    have hk : (k + 1).toInt = k.toInt + 1 := by
      rw [Int32.toInt_add]
      have h1 := Int32.le_toInt k
      show (k.toInt + 1).bmod _ = _
      rw [Int.bmod_def]

      omega
    have hne : v ≠ k := fun e => by rw [e] at hv; omega
    rw [decide_eq_false hne]
    exact ih (k + 1) (by rw [hk]; omega) (by rw [hk]; omega)
theorem am_s_switch (C : am_C p R s m args meth c cc nL own ini sc D cA B scr adK adV lim n0 z0) (V : am_V nL s D cA B scr adK n0 z0 al h H locs ls cells slots) {df lo hi z1 z2 z3 : Int} {offs z4 : Array Int} {len0 : Nat} (ht : (pc : Int) + df = ((o.2.2.2.headD 0 : Nat) : Int)) (hlo : o.2.2.1.toInt = lo) (hhi : hi + 1 = lo + o.2.2.2.tail.length) (hto : offs.toList.map (fun f => ((pc : Int) + f).toNat) = o.2.2.2.tail) (hps : ∀ f ∈ offs.toList, 0 ≤ (pc : Int) + f) (hsm : o.2.2.1.toInt + o.2.2.2.tail.length < 2 ^ 31) (hd : decode cc pc = .ok (.tableswitch df lo hi offs, len0)) (ho : o.1 = .tableswitch z1 z2 z3 z4) (hn : am_nx lim own ini sc o pc al st h = some q) (kk : am_kk p l e R s m args below meth c Q nL D cA B scr adK n0 z0 q) : W p l e R s m args below meth c H locs cells slots Q (F0 m pc ls (st.map (am_cv (am_ad B scr adK)))) := by
  obtain ⟨k0, len, x0, tg⟩ := o
  cases ho
  simp only [am_nx] at hn
  split at hn
  · rename_i x st
    cases hn
    dsimp only at ht hlo hhi hto hsm
    by_cases h1 : x.toInt < lo ∨ hi < x.toInt
    · refine lv_tableOut C.1 C.2.1 hd h1 ht ?_
      have k9 := kk _ _ _ _ _ V
      dsimp only at k9
      rw [am_sw_out _ _ hsm (by rw [hlo]; omega)] at k9
      exact k9
    · have ha : ¬ x.toInt < lo := fun q => h1 (Or.inl q)
      have hb : ¬ hi < x.toInt := fun q => h1 (Or.inr q)
      have hlen : offs.toList.length = tg.tail.length := by rw [← hto]; simp
      have hj : (x.toInt - lo).toNat < offs.toList.length := by rw [hlen]; omega
      have hof : offs[(x.toInt - lo).toNat]? = some (offs.toList[(x.toInt - lo).toNat]) := by simp
      have htg : tg.tail[(x.toInt - lo).toNat]? = some ((pc : Int) + offs.toList[(x.toInt - lo).toNat]).toNat := by
        rw [← hto]; simp [List.getElem?_map]; exact ⟨offs[(x.toInt - lo).toNat]'(by simpa using hj), by simp, rfl⟩
      have hpos := hps _ (List.getElem_mem hj)
      refine lv_tableIn (tgt := ((pc : Int) + offs.toList[(x.toInt - lo).toNat]).toNat) C.1 C.2.1 hd ha hb hof (by omega) ?_
      have k9 := kk _ _ _ _ _ V
      dsimp only at k9
      rw [am_sw_in _ _ _ _ htg hsm (by rw [hlo]; omega)] at k9
      exact k9
  · cases hn
end AMS
