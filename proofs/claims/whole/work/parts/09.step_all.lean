/-! ===== the printed instruction against the real one; every step (printed by wip/gen/step_all.py) ===== -/
section AMX
variable {p : Program} {l : Launch} {e : Env} {R : Room} {s : State} {m : MethodId} {args : Array Value} {below : List Frame} {meth : Method} {c : Code} {H : Heap} {locs : List Loc} {cells slots : Nat} {Q : State → Prop} {cc : ByteArray} {pc nL own : Nat} {ini : Bool} {sc : Option (Nat × (Nat → Int32))} {D : va_G} {cA : Nat → ClassId} {B scr : Nat} {adK adV : Nat → Nat} {lim n0 z0 : Nat} {al st : List Value} {h : am_H} {ls : Array Slot} {o : am_O} {q : am_Q}
set_option maxHeartbeats 4000000 in
theorem am_step {i : Instr} {len : Nat} (C : am_C p R s m args meth c cc nL own ini sc D cA B scr adK adV lim n0 z0) (V : am_V nL s D cA B scr adK n0 z0 al h H locs ls cells slots) (hd : decode cc pc = .ok (i, len)) (hm : am_mt i len pc o = true) (hn : am_nx lim own ini sc o pc al st h = some q) (kk : am_kk p l e R s m args below meth c Q nL D cA B scr adK n0 z0 q) : W p l e R s m args below meth c H locs cells slots Q (F0 m pc ls (st.map (am_cv (am_ad B scr adK)))) := by
  cases i with
  | iadd =>
    simp only [am_mt, Bool.and_eq_true, decide_eq_true_eq] at hm
    obtain ⟨ho, hl⟩ := hm
    subst hl
    exact am_s_iadd C V hd ho hn kk
  | isub =>
    simp only [am_mt, Bool.and_eq_true, decide_eq_true_eq] at hm
    obtain ⟨ho, hl⟩ := hm
    subst hl
    exact am_s_isub C V hd ho hn kk
  | imul =>
    simp only [am_mt, Bool.and_eq_true, decide_eq_true_eq] at hm
    obtain ⟨ho, hl⟩ := hm
    subst hl
    exact am_s_imul C V hd ho hn kk
  | iand =>
    simp only [am_mt, Bool.and_eq_true, decide_eq_true_eq] at hm
    obtain ⟨ho, hl⟩ := hm
    subst hl
    exact am_s_iand C V hd ho hn kk
  | ior =>
    simp only [am_mt, Bool.and_eq_true, decide_eq_true_eq] at hm
    obtain ⟨ho, hl⟩ := hm
    subst hl
    exact am_s_ior C V hd ho hn kk
  | ixor =>
    simp only [am_mt, Bool.and_eq_true, decide_eq_true_eq] at hm
    obtain ⟨ho, hl⟩ := hm
    subst hl
    exact am_s_ixor C V hd ho hn kk
  | ineg =>
    simp only [am_mt, Bool.and_eq_true, decide_eq_true_eq] at hm
    obtain ⟨ho, hl⟩ := hm
    subst hl
    exact am_s_ineg C V hd ho hn kk
  | ishl =>
    simp only [am_mt, Bool.and_eq_true, decide_eq_true_eq] at hm
    obtain ⟨ho, hl⟩ := hm
    subst hl
    exact am_s_ishl C V hd ho hn kk
  | ishr =>
    simp only [am_mt, Bool.and_eq_true, decide_eq_true_eq] at hm
    obtain ⟨ho, hl⟩ := hm
    subst hl
    exact am_s_ishr C V hd ho hn kk
  | ladd =>
    simp only [am_mt, Bool.and_eq_true, decide_eq_true_eq] at hm
    obtain ⟨ho, hl⟩ := hm
    subst hl
    exact am_s_ladd C V hd ho hn kk
  | lsub =>
    simp only [am_mt, Bool.and_eq_true, decide_eq_true_eq] at hm
    obtain ⟨ho, hl⟩ := hm
    subst hl
    exact am_s_lsub C V hd ho hn kk
  | lmul =>
    simp only [am_mt, Bool.and_eq_true, decide_eq_true_eq] at hm
    obtain ⟨ho, hl⟩ := hm
    subst hl
    exact am_s_lmul C V hd ho hn kk
  | land =>
    simp only [am_mt, Bool.and_eq_true, decide_eq_true_eq] at hm
    obtain ⟨ho, hl⟩ := hm
    subst hl
    exact am_s_land C V hd ho hn kk
  | lor =>
    simp only [am_mt, Bool.and_eq_true, decide_eq_true_eq] at hm
    obtain ⟨ho, hl⟩ := hm
    subst hl
    exact am_s_lor C V hd ho hn kk
  | iushr =>
    simp only [am_mt, Bool.and_eq_true, decide_eq_true_eq] at hm
    obtain ⟨ho, hl⟩ := hm
    subst hl
    exact am_s_iushr C V hd ho hn kk
  | lshl =>
    simp only [am_mt, Bool.and_eq_true, decide_eq_true_eq] at hm
    obtain ⟨ho, hl⟩ := hm
    subst hl
    exact am_s_lshl C V hd ho hn kk
  | lshr =>
    simp only [am_mt, Bool.and_eq_true, decide_eq_true_eq] at hm
    obtain ⟨ho, hl⟩ := hm
    subst hl
    exact am_s_lshr C V hd ho hn kk
  | lushr =>
    simp only [am_mt, Bool.and_eq_true, decide_eq_true_eq] at hm
    obtain ⟨ho, hl⟩ := hm
    subst hl
    exact am_s_lushr C V hd ho hn kk
  | i2l =>
    simp only [am_mt, Bool.and_eq_true, decide_eq_true_eq] at hm
    obtain ⟨ho, hl⟩ := hm
    subst hl
    exact am_s_i2l C V hd ho hn kk
  | i2b =>
    simp only [am_mt, Bool.and_eq_true, decide_eq_true_eq] at hm
    obtain ⟨ho, hl⟩ := hm
    subst hl
    exact am_s_i2b C V hd ho hn kk
  | lcmp =>
    simp only [am_mt, Bool.and_eq_true, decide_eq_true_eq] at hm
    obtain ⟨ho, hl⟩ := hm
    subst hl
    exact am_s_lcmp C V hd ho hn kk
  | pop =>
    simp only [am_mt, Bool.and_eq_true, decide_eq_true_eq] at hm
    obtain ⟨ho, hl⟩ := hm
    subst hl
    exact am_s_pop C V hd ho hn kk
  | dup =>
    simp only [am_mt, Bool.and_eq_true, decide_eq_true_eq] at hm
    obtain ⟨ho, hl⟩ := hm
    subst hl
    exact am_s_dup C V hd ho hn kk
  | dup2 =>
    simp only [am_mt, Bool.and_eq_true, decide_eq_true_eq] at hm
    obtain ⟨ho, hl⟩ := hm
    subst hl
    exact am_s_dup2 C V hd ho hn kk
  | iaload =>
    simp only [am_mt, Bool.and_eq_true, decide_eq_true_eq] at hm
    obtain ⟨ho, hl⟩ := hm
    subst hl
    exact am_s_iaload C V hd ho hn kk
  | laload =>
    simp only [am_mt, Bool.and_eq_true, decide_eq_true_eq] at hm
    obtain ⟨ho, hl⟩ := hm
    subst hl
    exact am_s_laload C V hd ho hn kk
  | baload =>
    simp only [am_mt, Bool.and_eq_true, decide_eq_true_eq] at hm
    obtain ⟨ho, hl⟩ := hm
    subst hl
    exact am_s_baload C V hd ho hn kk
  | iastore =>
    simp only [am_mt, Bool.and_eq_true, decide_eq_true_eq] at hm
    obtain ⟨ho, hl⟩ := hm
    subst hl
    exact am_s_iastore C V hd ho hn kk
  | lastore =>
    simp only [am_mt, Bool.and_eq_true, decide_eq_true_eq] at hm
    obtain ⟨ho, hl⟩ := hm
    subst hl
    exact am_s_lastore C V hd ho hn kk
  | bastore =>
    simp only [am_mt, Bool.and_eq_true, decide_eq_true_eq] at hm
    obtain ⟨ho, hl⟩ := hm
    subst hl
    exact am_s_bastore C V hd ho hn kk
  | arraylength =>
    simp only [am_mt, Bool.and_eq_true, decide_eq_true_eq] at hm
    obtain ⟨ho, hl⟩ := hm
    subst hl
    exact am_s_arraylength C V hd ho hn kk
  | getfield x =>
    simp only [am_mt, Bool.and_eq_true, decide_eq_true_eq] at hm
    obtain ⟨ho, hl⟩ := hm
    subst hl
    exact am_s_getfield C V hd ho hn kk
  | putfield x =>
    simp only [am_mt, Bool.and_eq_true, decide_eq_true_eq] at hm
    obtain ⟨ho, hl⟩ := hm
    subst hl
    exact am_s_putfield C V hd ho hn kk
  | new x =>
    simp only [am_mt, Bool.and_eq_true, decide_eq_true_eq] at hm
    obtain ⟨ho, hl⟩ := hm
    subst hl
    exact am_s_new C V hd ho hn kk
  | newarray x =>
    simp only [am_mt, Bool.and_eq_true, decide_eq_true_eq] at hm
    obtain ⟨ho, hl⟩ := hm
    subst hl
    exact am_s_newarray C V hd ho hn kk
  | ldc x =>
    simp only [am_mt, Bool.and_eq_true, decide_eq_true_eq] at hm
    obtain ⟨ho, hl⟩ := hm
    subst hl
    exact am_s_ldc C V hd ho hn kk
  | ldc_w x =>
    simp only [am_mt, Bool.and_eq_true, decide_eq_true_eq] at hm
    obtain ⟨ho, hl⟩ := hm
    subst hl
    exact am_s_ldc_w C V hd ho hn kk
  | ldc2_w x =>
    simp only [am_mt, Bool.and_eq_true, decide_eq_true_eq] at hm
    obtain ⟨ho, hl⟩ := hm
    subst hl
    exact am_s_ldc2_w C V hd ho hn kk
  | lconst x =>
    simp only [am_mt, Bool.and_eq_true, decide_eq_true_eq] at hm
    obtain ⟨ho, hl⟩ := hm
    subst hl
    exact am_s_lconst C V hd ho hn kk
  | invokespecial x =>
    simp only [am_mt, Bool.and_eq_true, decide_eq_true_eq] at hm
    obtain ⟨ho, hl⟩ := hm
    subst hl
    exact am_s_objinit C V hd ho hn kk
  | iconst n =>
    simp only [am_mt, Bool.and_eq_true, decide_eq_true_eq] at hm
    obtain ⟨ho, hx, h1, h2⟩ := hm
    subst h2
    exact am_s_ciconst C V hx h1 hd ho hn kk
  | bipush n =>
    simp only [am_mt, Bool.and_eq_true, decide_eq_true_eq] at hm
    obtain ⟨ho, hx, h1, h2⟩ := hm
    subst h2
    exact am_s_cbipush C V hx h1 hd ho hn kk
  | sipush n =>
    simp only [am_mt, Bool.and_eq_true, decide_eq_true_eq] at hm
    obtain ⟨ho, hx, h1, h2⟩ := hm
    subst h2
    exact am_s_csipush C V hx h1 hd ho hn kk
  | iload k =>
    simp only [am_mt, Bool.and_eq_true, decide_eq_true_eq] at hm
    obtain ⟨ho, h1, h2⟩ := hm
    subst h2
    exact am_s_iload C V h1 hd ho hn kk
  | iload_n k =>
    simp only [am_mt, Bool.and_eq_true, decide_eq_true_eq] at hm
    obtain ⟨ho, h1, h2⟩ := hm
    subst h2
    exact am_s_iload_n C V rfl h1 hd ho hn kk
  | lload k =>
    simp only [am_mt, Bool.and_eq_true, decide_eq_true_eq] at hm
    obtain ⟨ho, h1, h2⟩ := hm
    subst h2
    exact am_s_lload C V h1 hd ho hn kk
  | lload_n k =>
    simp only [am_mt, Bool.and_eq_true, decide_eq_true_eq] at hm
    obtain ⟨ho, h1, h2⟩ := hm
    subst h2
    exact am_s_lload_n C V rfl h1 hd ho hn kk
  | aload k =>
    simp only [am_mt, Bool.and_eq_true, decide_eq_true_eq] at hm
    obtain ⟨ho, h1, h2⟩ := hm
    subst h2
    exact am_s_aload C V h1 hd ho hn kk
  | aload_n k =>
    simp only [am_mt, Bool.and_eq_true, decide_eq_true_eq] at hm
    obtain ⟨ho, h1, h2⟩ := hm
    subst h2
    exact am_s_aload_n C V rfl h1 hd ho hn kk
  | istore k =>
    simp only [am_mt, Bool.and_eq_true, decide_eq_true_eq] at hm
    obtain ⟨ho, h1, h2⟩ := hm
    subst h2
    exact am_s_istore C V h1 hd ho hn kk
  | istore_n k =>
    simp only [am_mt, Bool.and_eq_true, decide_eq_true_eq] at hm
    obtain ⟨ho, h1, h2⟩ := hm
    subst h2
    exact am_s_istore_n C V rfl h1 hd ho hn kk
  | lstore k =>
    simp only [am_mt, Bool.and_eq_true, decide_eq_true_eq] at hm
    obtain ⟨ho, h1, h2⟩ := hm
    subst h2
    exact am_s_lstore C V h1 hd ho hn kk
  | lstore_n k =>
    simp only [am_mt, Bool.and_eq_true, decide_eq_true_eq] at hm
    obtain ⟨ho, h1, h2⟩ := hm
    subst h2
    exact am_s_lstore_n C V rfl h1 hd ho hn kk
  | astore k =>
    simp only [am_mt, Bool.and_eq_true, decide_eq_true_eq] at hm
    obtain ⟨ho, h1, h2⟩ := hm
    subst h2
    exact am_s_astore C V h1 hd ho hn kk
  | astore_n k =>
    simp only [am_mt, Bool.and_eq_true, decide_eq_true_eq] at hm
    obtain ⟨ho, h1, h2⟩ := hm
    subst h2
    exact am_s_astore_n C V rfl h1 hd ho hn kk
  | iinc k n =>
    simp only [am_mt, Bool.and_eq_true, decide_eq_true_eq] at hm
    obtain ⟨ho, h1, h2⟩ := hm
    subst h2
    exact am_s_iinc C V h1 hd ho hn kk
  | goto f =>
    simp only [am_mt, Bool.and_eq_true, decide_eq_true_eq] at hm
    obtain ⟨ho, h1, h2⟩ := hm
    subst h2
    exact am_s_goto C V h1 hd ho hn kk
  | ifCond k f =>
    simp only [am_mt, Bool.and_eq_true, decide_eq_true_eq] at hm
    obtain ⟨ho, h1, h2⟩ := hm
    subst h2
    exact am_s_ifc C V h1 hd ho hn kk
  | if_icmp k f =>
    simp only [am_mt, Bool.and_eq_true, decide_eq_true_eq] at hm
    obtain ⟨ho, h1, h2⟩ := hm
    subst h2
    exact am_s_icmp C V h1 hd ho hn kk
  | tableswitch df lo hi offs =>
    simp only [am_mt, Bool.and_eq_true, decide_eq_true_eq, List.all_eq_true] at hm
    obtain ⟨ho, h1, h2, h3, h4, h5, h6⟩ := hm
    exact am_s_switch C V h1 h2 h3 h4 h5 h6 hd ho hn kk
  | _ =>
    simp only [am_mt, Bool.and_eq_true, decide_eq_true_eq] at hm
    obtain ⟨ho, -⟩ := hm
    simp only [am_nx, ho] at hn
    cases hn
end AMX
