-- THE INTERPRETER: the machine's steps over numbered cells, as a function that is computed
abbrev iv_R : Type := Nat × Instr × Nat × Nat × Nat × List (Int × Nat)
abbrev iv_F : Type := Instr × Nat × Nat × Nat × List (Int × Nat)
/-- a method: its name, bytes, locals, what it returns, its class's number -/
abbrev iv_I : Type := MethodName × ByteArray × Nat × Option FieldType × Nat
abbrev iv_Pg : Type := (Nat → Nat → Option iv_F) × (Nat → Option iv_I)
/-- a cell: an array (its kind, length, what it holds), or an object (its class's number, its fields) -/
abbrev iv_C : Type := (Nat × Nat × ((Nat → Int32) ⊕ (Nat → Int64) ⊕ (Nat → Option Nat))) ⊕ (Nat × List Value)
/-- the heap: how many cells, how many slots, the cells -/
abbrev iv_H : Type := Nat × Nat × (Nat → iv_C)
abbrev iv_L : Type := List (Option Value)
abbrev iv_big : Nat := 1000000
def iv_up (G : Nat → iv_C) (q : Nat) (c : iv_C) : Nat → iv_C := fun a => if a = q then c else G a
def iv_ii (st : List Value) (f : Int32 → Int32 → Int32) : Option (List Value) := match st with
  | .int y :: .int x :: r => some (.int (f x y) :: r)
  | _ => none
def iv_id (st : List Value) (f : Int32 → Int32 → Int32) : Option (List Value) := match st with
  | .int y :: .int x :: r => if y = 0 then none else some (.int (f x y) :: r)
  | _ => none
def iv_jj (st : List Value) (f : Int64 → Int64 → Int64) : Option (List Value) := match st with
  | .long y :: .long x :: r => some (.long (f x y) :: r)
  | _ => none
def iv_jd (st : List Value) (f : Int64 → Int64 → Int64) : Option (List Value) := match st with
  | .long y :: .long x :: r => if y = 0 then none else some (.long (f x y) :: r)
  | _ => none
def iv_js (st : List Value) (f : Int64 → Int32 → Int64) : Option (List Value) := match st with
  | .int y :: .long x :: r => some (.long (f x y) :: r)
  | _ => none
def iv_i1 (st : List Value) (f : Int32 → Value) : Option (List Value) := match st with
  | .int x :: r => some (f x :: r)
  | _ => none
def iv_dup (st : List Value) : Option (List Value) := match st with
  | v :: r => if v.category = 1 then some (v :: v :: r) else none
  | _ => none
def iv_dup2 (st : List Value) : Option (List Value) := match st with
  | v :: w :: r => if v.category = 1 ∧ w.category = 1 then some (v :: w :: v :: w :: r) else none
  | _ => none
def iv_dupx (st : List Value) : Option (List Value) := match st with
  | v :: w :: r => if v.category = 1 ∧ w.category = 1 then some (v :: w :: v :: r) else none
  | _ => none
def iv_pp (st : List Value) : Option (List Value) := match st with
  | v :: r => if v.category = 1 then some r else none
  | _ => none
def iv_l2i (st : List Value) : Option (List Value) := match st with
  | .long x :: r => some (.int x.toInt32 :: r)
  | _ => none
def iv_lcm (st : List Value) : Option (List Value) := match st with
  | .long y :: .long x :: r => some (.int (lg_cmp x y) :: r)
  | _ => none
def iv_kI (a b : Nat) (sw : List (Int × Nat)) (st : List Value) : Option (List Value) := if b = 1 then some (.ref a :: st) else match sw with
  | q :: _ => some (.int (Int32.ofInt q.1) :: st)
  | _ => none
def iv_kJ (sw : List (Int × Nat)) (st : List Value) : Option (List Value) := match sw with
  | q :: _ => some (.long (Int64.ofInt q.1) :: st)
  | _ => none
/-- what touches the stack alone -/
def iv_pur (i : Instr) (a b : Nat) (sw : List (Int × Nat)) (st : List Value) : Option (List Value) := match i with
  | .iconst n => some (.int (Int32.ofInt n) :: st)
  | .bipush n => some (.int (Int8.ofInt n).toInt32 :: st)
  | .sipush n => some (.int (Int16.ofInt n).toInt32 :: st)
  | .lconst n => some (.long (Int64.ofNat n) :: st)
  | .aconst_null => some (.null :: st)
  | .iadd => iv_ii st (fun x y => x + y)
  | .isub => iv_ii st (fun x y => x - y)
  | .imul => iv_ii st (fun x y => x * y)
  | .idiv => iv_id st (fun x y => x / y)
  | .irem => iv_id st (fun x y => x - x / y * y)
  | .iand => iv_ii st (fun x y => x &&& y)
  | .ior => iv_ii st (fun x y => x ||| y)
  | .ixor => iv_ii st (fun x y => x ^^^ y)
  | .ishl => iv_ii st (fun x y => x <<< (y &&& 31))
  | .ishr => iv_ii st (fun x y => x >>> (y &&& 31))
  | .iushr => iv_ii st (fun x y => (x.toUInt32 >>> (y.toUInt32 &&& Int32.toUInt32 31)).toInt32)
  | .ladd => iv_jj st (fun x y => x + y)
  | .lsub => iv_jj st (fun x y => x - y)
  | .lmul => iv_jj st (fun x y => x * y)
  | .ldiv => iv_jd st (fun x y => x / y)
  | .lrem => iv_jd st (fun x y => x - x / y * y)
  | .land => iv_jj st (fun x y => x &&& y)
  | .lor => iv_jj st (fun x y => x ||| y)
  | .lxor => iv_jj st (fun x y => x ^^^ y)
  | .lshl => iv_js st (fun x y => x <<< (y.toInt64 &&& 63))
  | .lshr => iv_js st (fun x y => x >>> (y.toInt64 &&& 63))
  | .lushr => iv_js st (fun x y => (x.toUInt64 >>> (y.toInt64.toUInt64 &&& Int64.toUInt64 63)).toInt64)
  | .i2l => iv_i1 st (fun x => .long x.toInt64)
  | .i2b => iv_i1 st (fun x => .int x.toInt8.toInt32)
  | .i2c => iv_i1 st (fun x => .int (x.toUInt32 % 65536).toInt32)
  | .l2i => iv_l2i st
  | .lcmp => iv_lcm st
  | .dup => iv_dup st
  | .dup2 => iv_dup2 st
  | .dup_x1 => iv_dupx st
  | .pop => iv_pp st
  | .ldc _ => iv_kI a b sw st
  | .ldc_w _ => iv_kI a b sw st
  | .ldc2_w _ => iv_kJ sw st
  | _ => none
def iv_clr (L : iv_L) (k : Nat) : iv_L := match k with
  | 0 => L
  | j + 1 => match L[j]? with
    | some (some w) => if w.category = 2 then L.set j none else L
    | _ => L
def iv_s1 (L : iv_L) (k : Nat) (v : Value) : iv_L := (iv_clr L k).set k (some v)
def iv_s2 (L : iv_L) (k : Nat) (v : Value) : iv_L := ((iv_clr L k).set k (some v)).set (k + 1) none
def iv_ldI (L : iv_L) (k : Nat) (st : List Value) : Option (iv_L × List Value) := match L[k]? with
  | some (some (.int x)) => some (L, .int x :: st)
  | _ => none
def iv_ldJ (L : iv_L) (k : Nat) (st : List Value) : Option (iv_L × List Value) := match L[k]? with
  | some (some (.long x)) => some (L, .long x :: st)
  | _ => none
def iv_ldA (L : iv_L) (k : Nat) (st : List Value) : Option (iv_L × List Value) := match L[k]? with
  | some (some (.ref x)) => some (L, .ref x :: st)
  | some (some .null) => some (L, .null :: st)
  | _ => none
def iv_stI (L : iv_L) (k : Nat) (st : List Value) : Option (iv_L × List Value) := match st with
  | .int x :: r => if k < L.length then some (iv_s1 L k (.int x), r) else none
  | _ => none
def iv_stJ (L : iv_L) (k : Nat) (st : List Value) : Option (iv_L × List Value) := match st with
  | .long x :: r => if k + 1 < L.length then some (iv_s2 L k (.long x), r) else none
  | _ => none
def iv_stA (L : iv_L) (k : Nat) (st : List Value) : Option (iv_L × List Value) := match st with
  | .ref x :: r => if k < L.length then some (iv_s1 L k (.ref x), r) else none
  | .null :: r => if k < L.length then some (iv_s1 L k .null, r) else none
  | _ => none
def iv_inc (L : iv_L) (k : Nat) (n : Int) (st : List Value) : Option (iv_L × List Value) := match L[k]? with
  | some (some (.int x)) => some (iv_s1 L k (.int (x + Int32.ofInt n)), st)
  | _ => none
/-- what touches the locals -/
def iv_loc (i : Instr) (L : iv_L) (st : List Value) : Option (iv_L × List Value) := match i with
  | .iload k => iv_ldI L k st
  | .iload_n k => iv_ldI L k st
  | .lload k => iv_ldJ L k st
  | .lload_n k => iv_ldJ L k st
  | .aload k => iv_ldA L k st
  | .aload_n k => iv_ldA L k st
  | .istore k => iv_stI L k st
  | .istore_n k => iv_stI L k st
  | .lstore k => iv_stJ L k st
  | .lstore_n k => iv_stJ L k st
  | .astore k => iv_stA L k st
  | .astore_n k => iv_stA L k st
  | .iinc k n => iv_inc L k n st
  | _ => none
def iv_cmp (c : ClassFile.Cond) (x y : Int32) : Bool := match c with
  | .eq => decide (x = y)
  | .ne => decide (x ≠ y)
  | .lt => decide (x < y)
  | .ge => decide (y ≤ x)
  | .gt => decide (y < x)
  | .le => decide (x ≤ y)
/-- which way a branch goes -/
def iv_br (i : Instr) (st : List Value) : Option (Bool × List Value) := match i with
  | .if_icmp c _ => (match st with
    | .int y :: .int x :: r => some (iv_cmp c x y, r)
    | _ => none)
  | .ifCond c _ => (match st with
    | .int x :: r => some (iv_cmp c x 0, r)
    | _ => none)
  | .ifnull _ => (match st with
    | .null :: r => some (true, r)
    | .ref _ :: r => some (false, r)
    | _ => none)
  | .ifnonnull _ => (match st with
    | .null :: r => some (false, r)
    | .ref _ :: r => some (true, r)
    | _ => none)
  | _ => none
def iv_sw (sw : List (Int × Nat)) (d : Nat) (x : Int32) : Nat := match sw with
  | [] => d
  | q :: r => if x = Int32.ofInt q.1 then q.2 else iv_sw r d x
def iv_arr (h : iv_H) (q : Nat) : Option (Nat × Nat × ((Nat → Int32) ⊕ (Nat → Int64) ⊕ (Nat → Option Nat))) := if q < h.1 ∨ iv_big ≤ q then (match h.2.2 q with
  | .inl x => some x
  | _ => none) else none
def iv_obj (h : iv_H) (q ci : Nat) : Option (List Value) := if q < h.1 then (match h.2.2 q with
  | .inr (c, fs) => if c = ci then some fs else none
  | _ => none) else none
def iv_rf (o : Option Nat) : Value := match o with
  | some p => .ref p
  | none => .null
def iv_fit (t : Int) (v : Value) : Bool := match v with
  | .int x => decide (t = 0) || (decide (t = 2) && (decide (x = 0) || decide (x = 1)))
  | .long _ => decide (t = 1)
  | .ref _ => decide (t = 3)
  | .null => decide (t = 3)
  | _ => false
def iv_ft (sw : List (Int × Nat)) (v : Value) : Bool := match sw with
  | q :: _ => iv_fit q.1 v
  | _ => false
def iv_get (a b : Nat) (st : List Value) (h : iv_H) : Option (List Value × iv_H) := match st with
  | .ref q :: r => (iv_obj h q a).bind fun fs => (fs[b]?).bind fun v => some (v :: r, h)
  | _ => none
def iv_put (a b : Nat) (sw : List (Int × Nat)) (st : List Value) (h : iv_H) : Option (List Value × iv_H) := match st with
  | v :: .ref q :: r => (iv_obj h q a).bind fun fs => if b < fs.length ∧ iv_ft sw v = true then some (r, (h.1, h.2.1, iv_up h.2.2 q (.inr (a, fs.set b v)))) else none
  | _ => none
def iv_out (i : Int32) (n : Nat) : Prop := i < 0 ∨ n ≤ i.toNatClampNeg
def iv_oub (i : Int32) (n : Nat) : Bool := decide (i < 0) || decide (n ≤ i.toNatClampNeg)
def iv_ald (t : Nat) (st : List Value) (h : iv_H) : Option (List Value × iv_H) := match st with
  | .int i :: .ref q :: r => (iv_arr h q).bind fun x => match x with
    | (k, n, .inl f) => if (k = t ∨ (t = 2 ∧ k = 3 ∧ q < h.1)) ∧ (t = 2 → q < h.1) ∧ iv_oub i n = false then some (.int (f i.toNatClampNeg) :: r, h) else none
    | _ => none
  | _ => none
def iv_jld (st : List Value) (h : iv_H) : Option (List Value × iv_H) := match st with
  | .int i :: .ref q :: r => (iv_arr h q).bind fun x => match x with
    | (k, n, .inr (.inl f)) => if k = 1 ∧ q < h.1 ∧ iv_oub i n = false then some (.long (f i.toNatClampNeg) :: r, h) else none
    | _ => none
  | _ => none
def iv_qld (st : List Value) (h : iv_H) : Option (List Value × iv_H) := match st with
  | .int i :: .ref q :: r => (iv_arr h q).bind fun x => match x with
    | (k, n, .inr (.inr f)) => if (k = 4 ∨ k = 5) ∧ q < h.1 ∧ iv_oub i n = false then some (iv_rf (f i.toNatClampNeg) :: r, h) else none
    | _ => none
  | _ => none
def iv_ias (st : List Value) (h : iv_H) : Option (List Value × iv_H) := match st with
  | .int x :: .int i :: .ref q :: r => (iv_arr h q).bind fun z => match z with
    | (k, n, .inl f) => if k = 0 ∧ q < h.1 ∧ iv_oub i n = false then some (r, (h.1, h.2.1, iv_up h.2.2 q (.inl (0, n, .inl (upd f i.toNatClampNeg x))))) else none
    | _ => none
  | _ => none
def iv_bas (st : List Value) (h : iv_H) : Option (List Value × iv_H) := match st with
  | .int x :: .int i :: .ref q :: r => (iv_arr h q).bind fun z => match z with
    | (k, n, .inl f) => if (k = 2 ∨ k = 3) ∧ q < h.1 ∧ iv_oub i n = false then some (r, (h.1, h.2.1, iv_up h.2.2 q (.inl (k, n, .inl (upd f i.toNatClampNeg (vp_nar (if k = 2 then .byte else .boolean) x)))))) else none
    | _ => none
  | _ => none
def iv_jas (st : List Value) (h : iv_H) : Option (List Value × iv_H) := match st with
  | .long x :: .int i :: .ref q :: r => (iv_arr h q).bind fun z => match z with
    | (k, n, .inr (.inl f)) => if k = 1 ∧ q < h.1 ∧ iv_oub i n = false then some (r, (h.1, h.2.1, iv_up h.2.2 q (.inl (1, n, .inr (.inl (vp_updL f i.toNatClampNeg x)))))) else none
    | _ => none
  | _ => none
/-- a store of a House in an array of Houses -/
def iv_qas (st : List Value) (h : iv_H) : Option (List Value × iv_H) := match st with
  | .ref v :: .int i :: .ref q :: r => (iv_arr h q).bind fun z => match z with
    | (k, n, .inr (.inr f)) => (iv_obj h v 2).bind fun _ => if k = 4 ∧ q < h.1 ∧ iv_oub i n = false then some (r, (h.1, h.2.1, iv_up h.2.2 q (.inl (4, n, .inr (.inr (va_up f i.toNatClampNeg (some v))))))) else none
    | _ => none
  | _ => none
def iv_alen (st : List Value) (h : iv_H) : Option (List Value × iv_H) := match st with
  | .ref q :: r => (iv_arr h q).bind fun z => if z.1 ≤ 5 ∧ (q < h.1 ∨ z.1 = 0) then some (.int (Int32.ofNat z.2.1) :: r, h) else none
  | _ => none
def iv_at (t : ArrayType) : Option Nat := match t with
  | .int => some 0
  | .long => some 1
  | .byte => some 2
  | .boolean => some 3
  | _ => none
def iv_z (k : Nat) : (Nat → Int32) ⊕ (Nat → Int64) ⊕ (Nat → Option Nat) := if k = 1 then .inr (.inl (fun _ => 0)) else if 4 ≤ k then .inr (.inr (fun _ => none)) else .inl (fun _ => 0)
/-- an array is made -/
def iv_mka (k : Nat) (st : List Value) (h : iv_H) : Option (List Value × iv_H) := match st with
  | .int n :: r => if ¬ n < 0 ∧ n.toNatClampNeg ≤ 1000000 ∧ h.1 < iv_big then some (.ref h.1 :: r, (h.1 + 1, h.2.1 + n.toNatClampNeg, iv_up h.2.2 h.1 (.inl (k, n.toNatClampNeg, iv_z k)))) else none
  | _ => none
/-- new int[n][k] -/
def iv_mkm (st : List Value) (h : iv_H) : Option (List Value × iv_H) := match st with
  | .int k :: .int n :: r => if ¬ n < 0 ∧ ¬ k < 0 ∧ n.toNatClampNeg ≤ 1000 ∧ k.toNatClampNeg ≤ 1000000 ∧ h.1 + n.toNatClampNeg < iv_big then
      some (.ref h.1 :: r, (h.1 + 1 + n.toNatClampNeg, h.2.1 + n.toNatClampNeg + n.toNatClampNeg * k.toNatClampNeg, fun q => if q = h.1 then .inl (5, n.toNatClampNeg, .inr (.inr (fun i => if i < n.toNatClampNeg then some (h.1 + 1 + i) else none))) else if h.1 < q ∧ q < h.1 + 1 + n.toNatClampNeg then .inl (0, k.toNatClampNeg, .inl (fun _ => 0)) else h.2.2 q)) else none
  | _ => none
/-- an object is made: its class, the fields' first values -/
def iv_new (df : Nat → List Value) (a : Nat) (st : List Value) (h : iv_H) : Option (List Value × iv_H) := if h.1 < iv_big then some (.ref h.1 :: st, (h.1 + 1, h.2.1 + (df a).length, iv_up h.2.2 h.1 (.inr (a, df a)))) else none
/-- System.arraycopy, of ints or of longs -/
def iv_cpy (st : List Value) (h : iv_H) : Option (List Value × iv_H) := match st with
  | .int n :: .int dp :: .ref q1 :: .int sp :: .ref q0 :: r => (iv_arr h q0).bind fun x => (iv_arr h q1).bind fun y => match x, y with
    | (0, n0, .inl f), (0, n1, .inl g) => if q0 < h.1 ∧ q1 < h.1 ∧ (¬ sp < 0 ∧ ¬ dp < 0 ∧ ¬ n < 0) ∧ sp.toNatClampNeg + n.toNatClampNeg ≤ n0 ∧ dp.toNatClampNeg + n.toNatClampNeg ≤ n1 ∧ (r.map fun v => v.category).sum ≤ 8 then some (r, (h.1, h.2.1, iv_up h.2.2 q1 (.inl (0, n1, .inl (va_cpy f g sp.toNatClampNeg dp.toNatClampNeg n.toNatClampNeg))))) else none
    | (1, n0, .inr (.inl f)), (1, n1, .inr (.inl g)) => if q0 < h.1 ∧ q1 < h.1 ∧ (¬ sp < 0 ∧ ¬ dp < 0 ∧ ¬ n < 0) ∧ sp.toNatClampNeg + n.toNatClampNeg ≤ n0 ∧ dp.toNatClampNeg + n.toNatClampNeg ≤ n1 ∧ (r.map fun v => v.category).sum ≤ 8 then some (r, (h.1, h.2.1, iv_up h.2.2 q1 (.inl (1, n1, .inr (.inl (va_cpy f g sp.toNatClampNeg dp.toNatClampNeg n.toNatClampNeg)))))) else none
    | _, _ => none
  | _ => none
/-- Math.min and Math.max -/
def iv_mm (mx : Bool) (st : List Value) (h : iv_H) : Option (List Value × iv_H) := match st with
  | .int y :: .int x :: r => if (r.map fun v => v.category).sum ≤ 8 then some (.int (if mx then (if x < y then y else x) else (if y < x then y else x)) :: r, h) else none
  | _ => none
def iv_oin (st : List Value) (h : iv_H) : Option (List Value × iv_H) := match st with
  | .ref _ :: r => if (r.map fun v => v.category).sum ≤ 8 then some (r, h) else none
  | _ => none
/-- what touches the heap -/
def iv_hp (df : Nat → List Value) (i : Instr) (a b : Nat) (sw : List (Int × Nat)) (st : List Value) (h : iv_H) : Option (List Value × iv_H) := match i with
  | .getfield _ => iv_get a b st h
  | .putfield _ => iv_put a b sw st h
  | .getstatic _ => some (.ref a :: st, h)
  | .iaload => iv_ald 0 st h
  | .baload => iv_ald 2 st h
  | .laload => iv_jld st h
  | .aaload => iv_qld st h
  | .iastore => iv_ias st h
  | .bastore => iv_bas st h
  | .lastore => iv_jas st h
  | .aastore => iv_qas st h
  | .arraylength => iv_alen st h
  | .newarray t => (iv_at t).bind fun k => iv_mka k st h
  | .anewarray _ => if a = 2 then iv_mka 4 st h else none
  | .multianewarray _ _ => iv_mkm st h
  | .new _ => iv_new df a st h
  | .invokestatic _ => if a = 9003 then iv_cpy st h else if a = 9004 then iv_mm false st h else if a = 9005 then iv_mm true st h else none
  | .invokespecial _ => if a = 9000 then iv_oin st h else none
  | _ => none
/-- which of these an instruction is: 0 stack, 1 locals, 2 branch, 3 heap, 4 goto, 5 switch, 6 call, 7 return -/
def iv_kd (i : Instr) (a : Nat) : Nat := match i with
  | .iload _ | .iload_n _ | .lload _ | .lload_n _ | .aload _ | .aload_n _ | .istore _ | .istore_n _ | .lstore _ | .lstore_n _ | .astore _ | .astore_n _ | .iinc _ _ => 1
  | .if_icmp _ _ | .ifCond _ _ | .ifnull _ | .ifnonnull _ => 2
  | .getfield _ | .putfield _ | .getstatic _ | .iaload | .baload | .laload | .aaload | .iastore | .bastore | .lastore | .aastore | .arraylength | .newarray _ | .anewarray _ | .multianewarray _ _ | .new _ => 3
  | .goto _ => 4
  | .tableswitch _ _ _ _ | .lookupswitch _ _ => 5
  | .invokevirtual _ => 6
  | .invokestatic _ => if a = 9003 ∨ a = 9004 ∨ a = 9005 then 3 else 6
  | .invokespecial _ => if a = 9000 then 3 else 6
  | .ireturn | .lreturn | .areturn | .return_ => 7
  | _ => 0
def iv_ret (i : Instr) (rt : Option FieldType) (st : List Value) (h : iv_H) : Option (Option Value × iv_H) := match i with
  | .return_ => (match rt, st with
    | none, [] => some (none, h)
    | _, _ => none)
  | .ireturn => (match rt, st with
    | some .int, [.int v] => some (some (.int v), h)
    | some .boolean, [.int v] => if v = 0 ∨ v = 1 then some (some (.int v), h) else none
    | _, _ => none)
  | .lreturn => (match rt, st with
    | some .long, [.long v] => some (some (.long v), h)
    | _, _ => none)
  | .areturn => (match rt, st with
    | some (.array _), [.ref v] => some (some (.ref v), h)
    | some (.array _), [.null] => some (some .null, h)
    | some (.object _), [.ref v] => some (some (.ref v), h)
    | some (.object _), [.null] => some (some .null, h)
    | _, _ => none)
  | _ => none
def iv_pop : Nat → List Value → List Value → Option (List Value × List Value)
  | 0, st, acc => some (acc, st)
  | n + 1, v :: st, acc => iv_pop n st (v :: acc)
  | _ + 1, [], _ => none
/-- the receiver of a call is of the class that the call names -/
def iv_rcv (P : iv_Pg) (i : Instr) (a : Nat) (vs : List Value) (h : iv_H) : Bool := match i with
  | .invokevirtual _ => (match vs with
    | .ref q :: _ => if a = 9001 ∨ a = 9002 then true else (match P.2 a with
      | some (_, _, _, _, oc) => (iv_obj h q oc).isSome
      | none => false)
    | _ => false)
  | .invokespecial _ => (match vs with
    | .ref _ :: _ => true
    | _ => false)
  | _ => true
abbrev iv_Cl : Type := Nat → List Value → iv_H → Option (Option Value × iv_H)
def iv_ex (P : iv_Pg) (df : Nat → List Value) (call : iv_Cl) (mi : Nat) (rt : Option FieldType) : Nat → Nat → iv_L → List Value → iv_H → Option (Option Value × iv_H)
  | 0, _, _, _, _ => none
  | F + 1, pc, L, st, h => match P.1 mi pc with
    | none => none
    | some (i, nx, a, b, sw) => match iv_kd i a with
      | 0 => (iv_pur i a b sw st).bind fun st' => iv_ex P df call mi rt F nx L st' h
      | 1 => (iv_loc i L st).bind fun q => iv_ex P df call mi rt F nx q.1 q.2 h
      | 2 => (iv_br i st).bind fun q => if q.1 = true then iv_ex P df call mi rt F a L q.2 h else iv_ex P df call mi rt F nx L q.2 h
      | 3 => (iv_hp df i a b sw st h).bind fun q => iv_ex P df call mi rt F nx L q.1 q.2
      | 4 => iv_ex P df call mi rt F a L st h
      | 5 => (match st with
        | .int x :: r => iv_ex P df call mi rt F (iv_sw sw a x) L r h
        | _ => none)
      | 6 => (iv_pop b st []).bind fun q => if (q.2.map fun v => v.category).sum ≤ 8 ∧ iv_rcv P i a q.1 h = true then (call a q.1 h).bind fun z => iv_ex P df call mi rt F nx L (z.1.toList ++ q.2) z.2 else none
      | _ => iv_ret i rt st h
/-- the locals at a method's entry -/
def iv_ent (n : Nat) (vs : List Value) : iv_L := let l := vs.flatMap fun v => if v.category = 2 then [some v, none] else [some v]; l ++ List.replicate (n - l.length) none
/-- String.length and String.charAt of a constant text (its signs lie in a cell of kind 9) -/
def iv_str (a : Nat) (vs : List Value) (h : iv_H) : Option (Option Value × iv_H) := match vs with
  | .ref q :: r => if iv_big ≤ q then (match h.2.2 q with
    | .inl (9, n, .inl f) => if a = 9001 then (match r with
        | [] => some (some (.int (Int32.ofNat n)), h)
        | _ => none)
      else (match r with
        | [.int i] => if iv_oub i n = false then some (some (.int (f i.toNatClampNeg)), h) else none
        | _ => none)
    | _ => none) else none
  | _ => none
def iv_run (P : iv_Pg) (df : Nat → List Value) : Nat → Nat → iv_Cl
  | 0, _, _, _, _ => none
  | d + 1, F, a, vs, h => if a = 9001 ∨ a = 9002 then (if 8 ≤ d then iv_str a vs h else none) else match P.2 a with
    | none => none
    | some (_, _, n, rt, _) => if (iv_ent n vs).length = n then iv_ex P df (iv_run P df d F) a rt F 0 (iv_ent n vs) [] h else none
