/-! ===== the abstract machine: cells by their number, ints, longs and references as functions of cell and place ===== -/
abbrev am_H : Type := Nat × (Nat → Nat → Int32) × (Nat → Nat → Int64) × (Nat → Nat → Nat)
/-- an instruction made plain: kind, length, constant, targets -/
abbrev am_O : Type := Instr × Nat × Int32 × List Nat
/-- pc, locals, stack, heap -/
abbrev am_Q : Type := Nat × List Value × List Value × am_H
def am_up {α : Type} (f : Nat → Nat → α) (c k : Nat) (x : α) : Nat → Nat → α := fun c' k' => if c' = c then (if k' = k then x else f c' k') else f c' k'
def am_zr {α : Type} (f : Nat → Nat → α) (c : Nat) (x : α) : Nat → Nat → α := fun c' k' => if c' = c then x else f c' k'
def am_in (i : Int32) (n : Nat) : Bool := decide (0 ≤ i) && decide (i.toNatClampNeg < n)
def am_ld (al : List Value) (i : Nat) : Value := al.getD i .null
def am_kill (al : List Value) (i : Nat) : List Value := match i with
  | 0 => al
  | j + 1 => match am_ld al j with
    | .long _ => al.set j .null
    | .double _ => al.set j .null
    | _ => al
def am_lk {α : Type} : List (Nat × α) → Nat → Option α
  | [], _ => none
  | (j, x) :: r, i => bif Nat.beq j i then some x else am_lk r i
def am_fl (own idx : Nat) : Option (Nat × Nat × Nat × Bool) := am_lk (am_fl0.getD own []) idx
def am_cn (own idx : Nat) : Option (Nat × Nat) := am_lk (am_cn0.getD own []) idx
def am_ob (own idx : Nat) : Option Nat := am_lk (am_ob0.getD own []) idx
def am_kc (own idx : Nat) : Option (Int32 × Nat) := am_lk (am_kc0.getD own []) idx
def am_kl (own idx : Nat) : Option (Nat × Nat) := am_lk (am_kl0.getD own []) idx
def am_sxn : List (Nat × String) → Nat → Nat → Option Nat
  | [], _, _ => none
  | (j, _) :: r, i, k => bif Nat.beq j i then some k else am_sxn r i (k + 1)
def am_br (c : ClassFile.Cond) (x y : Int32) (t f : Nat) : Nat := match c with
  | .eq => bif decide (x = y) then t else f
  | .ne => bif decide (x = y) then f else t
  | .lt => bif decide (x < y) then t else f
  | .ge => bif decide (x < y) then f else t
  | .gt => bif decide (y < x) then t else f
  | .le => bif decide (y < x) then f else t
def am_sw (v k : Int32) (d : Nat) : List Nat → Nat
  | [] => d
  | t :: ts => bif decide (v = k) then t else am_sw v (k + 1) d ts
def am_aty (t : ClassFile.ArrayType) : Nat := match t with
  | .int => 0 | .byte => 1 | .long => 2 | .boolean => 3 | _ => 9
def am_nar (t : Nat) (x : Int32) : Int32 := match t with
  | 0 => x | 1 => x.toInt8.toInt32 | _ => x &&& 1
/-- the script has the number 500 -/
def am_sci (sc : Option (Nat × (Nat → Int32))) (i : Int32) : Option Int32 := match sc with
  | some (L, xs) => bif am_in i L then some (xs i.toNatClampNeg) else none
  | none => none
/-- one step that is neither a call nor a return; lim: how many cells there may be; ini: within a constructor -/
def am_nx (lim own : Nat) (ini : Bool) (sc : Option (Nat × (Nat → Int32))) (o : am_O) (pc : Nat) (al st : List Value) (h : am_H) : Option am_Q :=
  match o.1 with
  | .iconst _ => some (pc + o.2.1, al, .int o.2.2.1 :: st, h)
  | .ldc_w i => match am_kc own i with
    | some (x, _) => some (pc + 3, al, .int x :: st, h)
    | none => none
  | .ldc2_w i => match am_kl own i with
    | some (x, _) => some (pc + 3, al, .long (lN x) :: st, h)
    | none => none
  | .ldc i => bif Nat.beq own 9 then (match am_sxn am_sx0 i 1000 with
    | some k => some (pc + 2, al, .ref k :: st, h)
    | none => none) else none
  | .lconst k => some (pc + 1, al, .long (lN (k : Nat)) :: st, h)
  | .iload i => match am_ld al i with
    | .int x => some (pc + o.2.1, al, .int x :: st, h)
    | _ => none
  | .lload i => match am_ld al i with
    | .long x => some (pc + o.2.1, al, .long x :: st, h)
    | _ => none
  | .aload i => match am_ld al i with
    | .ref x => some (pc + o.2.1, al, .ref x :: st, h)
    | _ => none
  | .istore i => match st with
    | .int x :: st => bif Nat.blt i al.length then some (pc + o.2.1, (am_kill al i).set i (.int x), st, h) else none
    | _ => none
  | .astore i => match st with
    | .ref x :: st => bif Nat.blt i al.length then some (pc + o.2.1, (am_kill al i).set i (.ref x), st, h) else none
    | _ => none
  | .lstore i => match st with
    | .long x :: st => bif Nat.blt (i + 1) al.length then some (pc + o.2.1, ((am_kill al i).set i (.long x)).set (i + 1) .null, st, h) else none
    | _ => none
  | .iinc i _ => match am_ld al i with
    | .int x => bif Nat.blt i al.length then some (pc + 3, (am_kill al i).set i (.int (x + o.2.2.1)), st, h) else none
    | _ => none
  | .iadd => match st with | .int y :: .int x :: st => some (pc + 1, al, .int (x + y) :: st, h) | _ => none
  | .isub => match st with | .int y :: .int x :: st => some (pc + 1, al, .int (x - y) :: st, h) | _ => none
  | .imul => match st with | .int y :: .int x :: st => some (pc + 1, al, .int (x * y) :: st, h) | _ => none
  | .iand => match st with | .int y :: .int x :: st => some (pc + 1, al, .int (x &&& y) :: st, h) | _ => none
  | .ior => match st with | .int y :: .int x :: st => some (pc + 1, al, .int (x ||| y) :: st, h) | _ => none
  | .ixor => match st with | .int y :: .int x :: st => some (pc + 1, al, .int (x ^^^ y) :: st, h) | _ => none
  | .ineg => match st with | .int x :: st => some (pc + 1, al, .int (-x) :: st, h) | _ => none
  | .ishl => match st with | .int y :: .int x :: st => some (pc + 1, al, .int (x <<< (y &&& 31)) :: st, h) | _ => none
  | .ishr => match st with | .int y :: .int x :: st => some (pc + 1, al, .int (x >>> (y &&& 31)) :: st, h) | _ => none
  | .iushr => match st with | .int y :: .int x :: st => some (pc + 1, al, .int (x.toUInt32 >>> (y.toUInt32 &&& Int32.toUInt32 31)).toInt32 :: st, h) | _ => none
  | .ladd => match st with | .long y :: .long x :: st => some (pc + 1, al, .long (x + y) :: st, h) | _ => none
  | .lsub => match st with | .long y :: .long x :: st => some (pc + 1, al, .long (x - y) :: st, h) | _ => none
  | .lmul => match st with | .long y :: .long x :: st => some (pc + 1, al, .long (x * y) :: st, h) | _ => none
  | .land => match st with | .long y :: .long x :: st => some (pc + 1, al, .long (x &&& y) :: st, h) | _ => none
  | .lor => match st with | .long y :: .long x :: st => some (pc + 1, al, .long (x ||| y) :: st, h) | _ => none
  | .lshl => match st with | .int y :: .long x :: st => some (pc + 1, al, .long (x <<< (y.toInt64 &&& 63)) :: st, h) | _ => none
  | .lshr => match st with | .int y :: .long x :: st => some (pc + 1, al, .long (x >>> (y.toInt64 &&& 63)) :: st, h) | _ => none
  | .lushr => match st with | .int y :: .long x :: st => some (pc + 1, al, .long (x.toUInt64 >>> (y.toInt64.toUInt64 &&& Int64.toUInt64 63)).toInt64 :: st, h) | _ => none
  | .lcmp => match st with | .long y :: .long x :: st => some (pc + 1, al, .int (lg_cmp x y) :: st, h) | _ => none
  | .i2l => match st with | .int x :: st => some (pc + 1, al, .long x.toInt64 :: st, h) | _ => none
  | .i2b => match st with | .int x :: st => some (pc + 1, al, .int x.toInt8.toInt32 :: st, h) | _ => none
  | .dup => match st with
    | .int x :: st => some (pc + 1, al, .int x :: .int x :: st, h)
    | .ref x :: st => some (pc + 1, al, .ref x :: .ref x :: st, h)
    | _ => none
  | .dup2 => match st with
    | .int x :: .ref y :: st => some (pc + 1, al, .int x :: .ref y :: .int x :: .ref y :: st, h)
    | _ => none
  | .pop => match st with | .int _ :: st => some (pc + 1, al, st, h) | _ => none
  | .ifCond c _ => match st with
    | .int x :: st => some (am_br c x 0 (o.2.2.2.headD 0) (pc + 3), al, st, h)
    | _ => none
  | .if_icmp c _ => match st with
    | .int y :: .int x :: st => some (am_br c x y (o.2.2.2.headD 0) (pc + 3), al, st, h)
    | _ => none
  | .goto _ => some (o.2.2.2.headD 0, al, st, h)
  | .tableswitch _ _ _ _ => match st with
    | .int x :: st => some (am_sw x o.2.2.1 (o.2.2.2.headD 0) o.2.2.2.tail, al, st, h)
    | _ => none
  | .getfield i => match st with
    | .ref c :: st => match am_fl own i, am_sh[c]? with
      | some (ci, k, _), some (.inl cj) => bif Nat.beq ci cj && Nat.blt c h.1 then
          (bif (am_fk ci).getD k true then some (pc + 3, al, .int (h.2.1 c k) :: st, h)
           else (match h.2.2.2 c k with
             | 0 => none
             | n + 1 => bif Nat.blt n 200 then some (pc + 3, al, .ref n :: st, h) else none)) else none
      | _, _ => none
    | _ => none
  | .putfield i => match st with
    | .int x :: .ref c :: st => match am_fl own i, am_sh[c]? with
      | some (ci, k, _, _), some (.inl cj) => bif Nat.beq ci cj && (Nat.blt c h.1 && ((am_fk ci).getD k false && !(am_ff ci).getD k true)) then some (pc + 3, al, st, (h.1, am_up h.2.1 c k x, h.2.2)) else none
      | _, _ => none
    | .ref n :: .ref c :: st => match am_fl own i, am_sh[c]? with
      | some (ci, k, _, nst), some (.inl cj) => bif Nat.beq ci cj && (Nat.blt c h.1 && (!(am_fk ci).getD k true && (Nat.blt n 200 && (Nat.blt k (am_fk ci).length && (!(am_ff ci).getD k true || (ini && (!nst && Nat.beq ci own))))))) then some (pc + 3, al, st, (h.1, h.2.1, h.2.2.1, am_up h.2.2.2 c k (n + 1))) else none
      | _, _ => none
    | _ => none
  | .iaload => match st with
    | .int i :: .ref c :: st => bif Nat.beq c 500 then (match am_sci sc i with
      | some x => some (pc + 1, al, .int x :: st, h)
      | none => none) else match am_sh[c]? with
      | some (.inr (t, n)) => bif Nat.beq t 0 && (Nat.blt c h.1 && am_in i n) then some (pc + 1, al, .int (h.2.1 c i.toNatClampNeg) :: st, h) else none
      | _ => none
    | _ => none
  | .baload => match st with
    | .int i :: .ref c :: st => match am_sh[c]? with
      | some (.inr (t, n)) => bif (Nat.beq t 1 || Nat.beq t 3) && (Nat.blt c h.1 && am_in i n) then some (pc + 1, al, .int (h.2.1 c i.toNatClampNeg) :: st, h) else none
      | _ => none
    | _ => none
  | .laload => match st with
    | .int i :: .ref c :: st => match am_sh[c]? with
      | some (.inr (t, n)) => bif Nat.beq t 2 && (Nat.blt c h.1 && am_in i n) then some (pc + 1, al, .long (h.2.2.1 c i.toNatClampNeg) :: st, h) else none
      | _ => none
    | _ => none
  | .iastore => match st with
    | .int x :: .int i :: .ref c :: st => match am_sh[c]? with
      | some (.inr (t, n)) => bif Nat.beq t 0 && (Nat.blt c h.1 && am_in i n) then some (pc + 1, al, st, (h.1, am_up h.2.1 c i.toNatClampNeg x, h.2.2)) else none
      | _ => none
    | _ => none
  | .bastore => match st with
    | .int x :: .int i :: .ref c :: st => match am_sh[c]? with
      | some (.inr (t, n)) => bif (Nat.beq t 1 || Nat.beq t 3) && (Nat.blt c h.1 && am_in i n) then some (pc + 1, al, st, (h.1, am_up h.2.1 c i.toNatClampNeg (am_nar t x), h.2.2)) else none
      | _ => none
    | _ => none
  | .lastore => match st with
    | .long x :: .int i :: .ref c :: st => match am_sh[c]? with
      | some (.inr (t, n)) => bif Nat.beq t 2 && (Nat.blt c h.1 && am_in i n) then some (pc + 1, al, st, (h.1, h.2.1, am_up h.2.2.1 c i.toNatClampNeg x, h.2.2.2)) else none
      | _ => none
    | _ => none
  | .arraylength => match st with
    | .ref c :: st => bif Nat.beq c 500 then (match sc with
      | some (L, _) => some (pc + 1, al, .int (Int32.ofNat L) :: st, h)
      | none => none) else match am_sh[c]? with
      | some (.inr (t, n)) => bif Nat.blt t 4 && Nat.blt c h.1 then some (pc + 1, al, .int (Int32.ofNat n) :: st, h) else none
      | _ => none
    | _ => none
  | .new i => match am_cn own i, am_sh[h.1]? with
    | some (ci, _), some (.inl cj) => bif Nat.beq ci cj && Nat.blt h.1 lim then some (pc + 3, al, .ref h.1 :: st, (h.1 + 1, am_zr h.2.1 h.1 0, h.2.2.1, am_zr h.2.2.2 h.1 0)) else none
    | _, _ => none
  | .newarray ty => match st with
    | .int x :: st => match am_sh[h.1]? with
      | some (.inr (t, n)) => bif Nat.beq t (am_aty ty) && (Nat.blt t 4 && (Nat.blt h.1 lim && (Nat.ble n 3000 && decide (x = Int32.ofNat n)))) then some (pc + 2, al, .ref h.1 :: st, (h.1 + 1, am_zr h.2.1 h.1 0, am_zr h.2.2.1 h.1 0, h.2.2.2)) else none
      | _ => none
    | _ => none
  | .invokespecial i => match st with
    | .ref c :: st => match am_ob own i with
      | some _ => bif Nat.blt c 200 && Nat.ble ((st.map fun v => v.category).sum) 8 then some (pc + 3, al, st, h) else none
      | none => none
    | _ => none
  | _ => none
def am_rt (i : Instr) (rt : Option FieldType) (st : List Value) : Option (Option Value) := match i with
  | .ireturn => match st, rt with
    | [.int v], some .int => some (some (.int v))
    | [.int v], some .boolean => bif decide (v &&& 1 = v) then some (some (.int v)) else none
    | _, _ => none
  | .lreturn => match st, rt with
    | [.long v], some .long => some (some (.long v))
    | _, _ => none
  | .return_ => match st, rt with
    | [], none => some none
    | _, _ => none
  | _ => none
def am_ln (i : Instr) : Nat := match i with
  | .getfield _ | .putfield _ | .new _ | .invokespecial _ | .invokevirtual _ | .invokestatic _ | .ldc_w _ | .ldc2_w _ => 3
  | .ldc _ | .newarray _ => 2
  | _ => 1
def am_mt (i : Instr) (len pc : Nat) (o : am_O) : Bool := match i with
  | .iconst n => decide (o.1 = .iconst 0) && (decide (Int32.ofInt n = o.2.2.1) && (decide (o.2.1 = 1) && decide (len = 1)))
  | .bipush n => decide (o.1 = .iconst 0) && (decide ((Int8.ofInt n).toInt32 = o.2.2.1) && (decide (o.2.1 = 2) && decide (len = 2)))
  | .sipush n => decide (o.1 = .iconst 0) && (decide ((Int16.ofInt n).toInt32 = o.2.2.1) && (decide (o.2.1 = 3) && decide (len = 3)))
  | .iload k => decide (o.1 = .iload k) && (decide (o.2.1 = 2) && decide (len = 2))
  | .iload_n k => decide (o.1 = .iload k) && (decide (o.2.1 = 1) && decide (len = 1))
  | .lload k => decide (o.1 = .lload k) && (decide (o.2.1 = 2) && decide (len = 2))
  | .lload_n k => decide (o.1 = .lload k) && (decide (o.2.1 = 1) && decide (len = 1))
  | .aload k => decide (o.1 = .aload k) && (decide (o.2.1 = 2) && decide (len = 2))
  | .aload_n k => decide (o.1 = .aload k) && (decide (o.2.1 = 1) && decide (len = 1))
  | .istore k => decide (o.1 = .istore k) && (decide (o.2.1 = 2) && decide (len = 2))
  | .istore_n k => decide (o.1 = .istore k) && (decide (o.2.1 = 1) && decide (len = 1))
  | .lstore k => decide (o.1 = .lstore k) && (decide (o.2.1 = 2) && decide (len = 2))
  | .lstore_n k => decide (o.1 = .lstore k) && (decide (o.2.1 = 1) && decide (len = 1))
  | .astore k => decide (o.1 = .astore k) && (decide (o.2.1 = 2) && decide (len = 2))
  | .astore_n k => decide (o.1 = .astore k) && (decide (o.2.1 = 1) && decide (len = 1))
  | .iinc k n => decide (o.1 = .iinc k 0) && (decide (Int32.ofInt n = o.2.2.1) && decide (len = 3))
  | .goto f => decide (o.1 = .goto 0) && (decide ((pc : Int) + f = ((o.2.2.2.headD 0 : Nat) : Int)) && decide (len = 3))
  | .ifCond k f => decide (o.1 = .ifCond k 0) && (decide ((pc : Int) + f = ((o.2.2.2.headD 0 : Nat) : Int)) && decide (len = 3))
  | .if_icmp k f => decide (o.1 = .if_icmp k 0) && (decide ((pc : Int) + f = ((o.2.2.2.headD 0 : Nat) : Int)) && decide (len = 3))
  | .tableswitch df lo hi offs => decide (o.1 = .tableswitch 0 0 0 #[]) && (decide ((pc : Int) + df = ((o.2.2.2.headD 0 : Nat) : Int)) && (decide (o.2.2.1.toInt = lo) && (decide (hi + 1 = lo + o.2.2.2.tail.length) && (decide (offs.toList.map (fun f => ((pc : Int) + f).toNat) = o.2.2.2.tail) && (offs.toList.all (fun f => decide (0 ≤ (pc : Int) + f)) && decide (o.2.2.1.toInt + o.2.2.2.tail.length < 2 ^ 31))))))
  | i => decide (o.1 = i) && decide (len = am_ln i)
def am_tbc (cc : ByteArray) (tb : Nat → Option am_O) (pc : Nat) : Bool := match tb pc with
  | none => true
  | some o => match decode cc pc with
    | .ok (i, len) => am_mt i len pc o
    | .error _ => false
