/-! An interpreter of the part of bytecode that this claim uses, over worlds of cells by their places. Later parts show: what it answers, the machine does. -/
abbrev zi_W : Type := List va_E
abbrev zi_L : Type := List (Option Value)
abbrev zi_O : Type := Option Value ⊕ Nat
abbrev zi_C : Type := Nat × zi_L × List Value × zi_W × Nat × Nat
abbrev zi_R : Type := zi_O × zi_W × Nat × Nat
/-- what a method's pool entry is: (tag, a, b, v); 0 field b of class a, 9 the same where it is final, 8 where it is final and this method its constructor; 1, 2, 3 a call (virtual, special, static) of method a with b arguments; 4 new of class a, with b slots (or an array of it, if a is 2); 6 a constant v; 7 a member that is a step by itself: a -/
abbrev zi_T : Type := Nat × Nat × Nat × Value
/-- a program: code, pool, methods (name, bytes, locals, answer), where an exception of a kind is made and thrown, where it is caught and what is answered then, fields' types, the fields that a new object has -/
abbrev zi_P : Type := (Nat → Nat → Option Jvm.ClassFile.Instr) × (Nat → Nat → Option zi_T) × (Nat → MethodName × ByteArray × Nat × Option FieldType) × (Nat → Nat → Option Nat) × (Nat → Nat → Nat → Option Int32) × (Nat → Nat → FieldType) × (Nat → List Value)
def zi_code (P : zi_P) : Nat → Nat → Option Jvm.ClassFile.Instr := P.1
def zi_pool (P : zi_P) : Nat → Nat → Option zi_T := P.2.1
def zi_meth (P : zi_P) : Nat → MethodName × ByteArray × Nat × Option FieldType := P.2.2.1
def zi_thr (P : zi_P) : Nat → Nat → Option Nat := P.2.2.2.1
def zi_cat (P : zi_P) : Nat → Nat → Nat → Option Int32 := P.2.2.2.2.1
def zi_fty (P : zi_P) : Nat → Nat → FieldType := P.2.2.2.2.2.1
def zi_fs0 (P : zi_P) : Nat → List Value := P.2.2.2.2.2.2
abbrev zi_y (P : zi_P) (k : Nat) : MethodName := (zi_meth P k).1
abbrev zi_b (P : zi_P) (k : Nat) : ByteArray := (zi_meth P k).2.1
abbrev zi_n (P : zi_P) (k : Nat) : Nat := (zi_meth P k).2.2.1
abbrev zi_r (P : zi_P) (k : Nat) : Option FieldType := (zi_meth P k).2.2.2
/-- the script's place: no cell of a world -/
def zi_X : Nat := 1099511627776
def zi_get (w : zi_W) (i : Nat) : Option va_E := if i = zi_X then none else w[i]?
def zi_loc (ls : zi_L) (i : Nat) : Option Value := match ls[i]? with
  | some (some v) => some v
  | _ => none
def zi_two (ls : zi_L) (i : Nat) : Bool := match zi_loc ls i with
  | some v => v.category == 2
  | none => false
/-- a value of one slot comes to a local; not behind a long's first half -/
def zi_set1 (ls : zi_L) (i : Nat) (v : Value) : Option zi_L :=
  if i < ls.length ∧ v.category = 1 ∧ (i = 0 ∨ zi_two ls (i - 1) = false) then some (ls.set i (some v)) else none
def zi_set2 (ls : zi_L) (i : Nat) (v : Value) : Option zi_L :=
  if i + 1 < ls.length ∧ v.category = 2 ∧ (i = 0 ∨ zi_two ls (i - 1) = false) then some ((ls.set i (some v)).set (i + 1) none) else none
/-- how long an instruction is (a switch: 0, that isn't asked) -/
def zi_len : Jvm.ClassFile.Instr → Nat
  | .bipush _ => 2
  | .ldc _ => 2
  | .iload _ => 2
  | .lload _ => 2
  | .aload _ => 2
  | .istore _ => 2
  | .lstore _ => 2
  | .astore _ => 2
  | .newarray _ => 2
  | .sipush _ => 3
  | .ldc2_w _ => 3
  | .getfield _ => 3
  | .putfield _ => 3
  | .ifCond _ _ => 3
  | .if_icmp _ _ => 3
  | .goto _ => 3
  | .iinc _ _ => 3
  | .new _ => 3
  | .anewarray _ => 3
  | .invokevirtual _ => 3
  | .invokespecial _ => 3
  | .invokestatic _ => 3
  | .tableswitch _ _ _ _ => 0
  | _ => 1
def zi_tgt (pc : Nat) (off : Int) : Option Nat := if 0 ≤ (pc : Int) + off then some ((pc : Int) + off).toNat else none
def zi_pop : Nat → List Value → List Value → Option (List Value × List Value)
  | 0, acc, st => some (acc, st)
  | n + 1, acc, v :: st => zi_pop n (v :: acc) st
  | _ + 1, _, [] => none
def zi_ent (as : List Value) (n : Nat) : Option zi_L := if as.length ≤ n ∧ as.all (fun v => v.category == 1) = true then some (as.map some ++ List.replicate (n - as.length) none) else none
def zi_fit (ty : FieldType) (v : Value) : Bool := match ty, v with
  | .int, .int _ => true
  | .boolean, .int x => x == 0 || x == 1
  | .object _, .ref _ => true
  | .array _, .ref _ => true
  | _, _ => false
abbrev zi_in (j : Int32) (m : Nat) : Prop := ¬ (j < 0 ∨ m ≤ j.toNatClampNeg)
def zi_jmp (b : Bool) (pc n : Nat) (off : Int) (ls : zi_L) (st : List Value) (w : zi_W) (cn sn : Nat) : Option zi_C :=
  match zi_tgt pc off with
  | some t => some (if b = true then t else pc + n, ls, st, w, cn, sn)
  | none => none
/-- branches -/
def zi_br (pc n : Nat) (i : Jvm.ClassFile.Instr) (ls : zi_L) (st : List Value) (w : zi_W) (cn sn : Nat) : Option zi_C := match i, st with
  | .ifCond .eq off, .int x :: r => zi_jmp (decide (x = 0)) pc n off ls r w cn sn
  | .ifCond .ne off, .int x :: r => zi_jmp (decide (¬ x = 0)) pc n off ls r w cn sn
  | .ifCond .lt off, .int x :: r => zi_jmp (decide (x < 0)) pc n off ls r w cn sn
  | .ifCond .ge off, .int x :: r => zi_jmp (decide (0 ≤ x)) pc n off ls r w cn sn
  | .ifCond .gt off, .int x :: r => zi_jmp (decide (0 < x)) pc n off ls r w cn sn
  | .ifCond .le off, .int x :: r => zi_jmp (decide (x ≤ 0)) pc n off ls r w cn sn
  | .if_icmp .eq off, .int y :: .int x :: r => zi_jmp (decide (x = y)) pc n off ls r w cn sn
  | .if_icmp .ne off, .int y :: .int x :: r => zi_jmp (decide (¬ x = y)) pc n off ls r w cn sn
  | .if_icmp .lt off, .int y :: .int x :: r => zi_jmp (decide (x < y)) pc n off ls r w cn sn
  | .if_icmp .ge off, .int y :: .int x :: r => zi_jmp (decide (y ≤ x)) pc n off ls r w cn sn
  | .if_icmp .gt off, .int y :: .int x :: r => zi_jmp (decide (y < x)) pc n off ls r w cn sn
  | .if_icmp .le off, .int y :: .int x :: r => zi_jmp (decide (x ≤ y)) pc n off ls r w cn sn
  | .goto off, r => zi_jmp true pc n off ls r w cn sn
  | .tableswitch d lo hi offs, .int x :: r =>
    if x.toInt < lo ∨ hi < x.toInt then zi_jmp true pc n d ls r w cn sn
    else match offs[(x.toInt - lo).toNat]? with
      | some off => zi_jmp true pc n off ls r w cn sn
      | none => none
  | _, _ => none
/-- numbers and the stack -/
def zi_num (pc n : Nat) (i : Jvm.ClassFile.Instr) (ls : zi_L) (st : List Value) (w : zi_W) (cn sn : Nat) : Option zi_C := match i, st with
  | .iconst c, r => some (pc + n, ls, .int (Int32.ofInt c) :: r, w, cn, sn)
  | .bipush c, r => some (pc + n, ls, .int (Int8.ofInt c).toInt32 :: r, w, cn, sn)
  | .sipush c, r => some (pc + n, ls, .int (Int16.ofInt c).toInt32 :: r, w, cn, sn)
  | .iadd, .int y :: .int x :: r => some (pc + n, ls, .int (x + y) :: r, w, cn, sn)
  | .isub, .int y :: .int x :: r => some (pc + n, ls, .int (x - y) :: r, w, cn, sn)
  | .imul, .int y :: .int x :: r => some (pc + n, ls, .int (x * y) :: r, w, cn, sn)
  | .iand, .int y :: .int x :: r => some (pc + n, ls, .int (x &&& y) :: r, w, cn, sn)
  | .ixor, .int y :: .int x :: r => some (pc + n, ls, .int (x ^^^ y) :: r, w, cn, sn)
  | .ishl, .int y :: .int x :: r => some (pc + n, ls, .int (x <<< (y &&& 31)) :: r, w, cn, sn)
  | .iushr, .int y :: .int x :: r => some (pc + n, ls, .int (x.toUInt32 >>> (y.toUInt32 &&& Int32.toUInt32 31)).toInt32 :: r, w, cn, sn)
  | .idiv, .int y :: .int x :: r => if y = 0 then none else some (pc + n, ls, .int (x / y) :: r, w, cn, sn)
  | .irem, .int y :: .int x :: r => if y = 0 then none else some (pc + n, ls, .int (x - x / y * y) :: r, w, cn, sn)
  | .i2l, .int x :: r => some (pc + n, ls, .long x.toInt64 :: r, w, cn, sn)
  | .l2i, .long x :: r => some (pc + n, ls, .int x.toInt32 :: r, w, cn, sn)
  | .i2c, .int x :: r => some (pc + n, ls, .int (x.toUInt32 % 65536).toInt32 :: r, w, cn, sn)
  | .ladd, .long y :: .long x :: r => some (pc + n, ls, .long (x + y) :: r, w, cn, sn)
  | .lmul, .long y :: .long x :: r => some (pc + n, ls, .long (x * y) :: r, w, cn, sn)
  | .ldiv, .long y :: .long x :: r => if y = 0 then none else some (pc + n, ls, .long (x / y) :: r, w, cn, sn)
  | .lrem, .long y :: .long x :: r => if y = 0 then none else some (pc + n, ls, .long (x - x / y * y) :: r, w, cn, sn)
  | .lcmp, .long y :: .long x :: r => some (pc + n, ls, .int (lg_cmp x y) :: r, w, cn, sn)
  | .dup, v :: r => if v.category = 1 then some (pc + n, ls, v :: v :: r, w, cn, sn) else none
  | .dup_x1, v :: u :: r => if v.category = 1 ∧ u.category = 1 then some (pc + n, ls, v :: u :: v :: r, w, cn, sn) else none
  | .dup_x2, v :: u :: t :: r => if v.category = 1 ∧ u.category = 1 ∧ t.category = 1 then some (pc + n, ls, v :: u :: t :: v :: r, w, cn, sn) else none
  | .dup2, v :: u :: r => if v.category = 1 ∧ u.category = 1 then some (pc + n, ls, v :: u :: v :: u :: r, w, cn, sn) else none
  | .pop, v :: r => if v.category = 1 then some (pc + n, ls, r, w, cn, sn) else none
  | _, _ => none
def zi_push1 (q : Option Value) (pc n : Nat) (ls : zi_L) (st : List Value) (w : zi_W) (cn sn : Nat) : Option zi_C := match q with
  | some v => some (pc + n, ls, v :: st, w, cn, sn)
  | none => none
def zi_isI (q : Option Value) : Option Value := match q with
  | some (.int x) => some (.int x)
  | _ => none
def zi_isL (q : Option Value) : Option Value := match q with
  | some (.long x) => some (.long x)
  | _ => none
def zi_isR (q : Option Value) : Option Value := match q with
  | some (.ref x) => some (.ref x)
  | _ => none
def zi_sto1 (i : Nat) (v : Value) (pc n : Nat) (ls : zi_L) (r : List Value) (w : zi_W) (cn sn : Nat) : Option zi_C := match zi_set1 ls i v with
  | some ls' => some (pc + n, ls', r, w, cn, sn)
  | none => none
def zi_sto2 (i : Nat) (v : Value) (pc n : Nat) (ls : zi_L) (r : List Value) (w : zi_W) (cn sn : Nat) : Option zi_C := match zi_set2 ls i v with
  | some ls' => some (pc + n, ls', r, w, cn, sn)
  | none => none
/-- locals -/
def zi_lcl (pc n : Nat) (i : Jvm.ClassFile.Instr) (ls : zi_L) (st : List Value) (w : zi_W) (cn sn : Nat) : Option zi_C := match i, st with
  | .iload j, r => zi_push1 (zi_isI (zi_loc ls j)) pc n ls r w cn sn
  | .iload_n j, r => zi_push1 (zi_isI (zi_loc ls j)) pc n ls r w cn sn
  | .lload j, r => zi_push1 (zi_isL (zi_loc ls j)) pc n ls r w cn sn
  | .lload_n j, r => zi_push1 (zi_isL (zi_loc ls j)) pc n ls r w cn sn
  | .aload j, r => zi_push1 (zi_isR (zi_loc ls j)) pc n ls r w cn sn
  | .aload_n j, r => zi_push1 (zi_isR (zi_loc ls j)) pc n ls r w cn sn
  | .istore j, .int x :: r => zi_sto1 j (.int x) pc n ls r w cn sn
  | .istore_n j, .int x :: r => zi_sto1 j (.int x) pc n ls r w cn sn
  | .astore j, .ref x :: r => zi_sto1 j (.ref x) pc n ls r w cn sn
  | .astore_n j, .ref x :: r => zi_sto1 j (.ref x) pc n ls r w cn sn
  | .lstore j, .long x :: r => zi_sto2 j (.long x) pc n ls r w cn sn
  | .lstore_n j, .long x :: r => zi_sto2 j (.long x) pc n ls r w cn sn
  | .iinc j c, r => match zi_loc ls j with
    | some (.int x) => zi_sto1 j (.int (x + Int32.ofInt c)) pc n ls r w cn sn
    | _ => none
  | _, _ => none
/-- cells -/
def zi_cel (P : zi_P) (lw L : Nat) (xs : Nat → Int32) (k pc n : Nat) (i : Jvm.ClassFile.Instr) (ls : zi_L) (st : List Value) (w : zi_W) (cn sn : Nat) : Option zi_C := match i, st with
  | .ldc x, r => match zi_pool P k x with
    | some (6, _, _, .int v) => some (pc + n, ls, .int v :: r, w, cn, sn)
    | _ => none
  | .ldc2_w x, r => match zi_pool P k x with
    | some (6, _, _, .long v) => some (pc + n, ls, .long v :: r, w, cn, sn)
    | _ => none
  | .getfield x, .ref a :: r => match zi_pool P k x, zi_get w a with
    | some (0, c, f, _), some (.inr (c', fs)) => if c = c' then zi_push1 fs[f]? pc n ls r w cn sn else none
    | some (8, c, f, _), some (.inr (c', fs)) => if c = c' then zi_push1 fs[f]? pc n ls r w cn sn else none
    | some (9, c, f, _), some (.inr (c', fs)) => if c = c' then zi_push1 fs[f]? pc n ls r w cn sn else none
    | _, _ => none
  | .putfield x, v :: .ref a :: r => match zi_pool P k x, zi_get w a with
    | some (0, c, f, _), some (.inr (c', fs)) => if c = c' ∧ f < fs.length ∧ zi_fit (zi_fty P c f) v = true then some (pc + n, ls, r, w.set a (.inr (c', fs.set f v)), cn, sn) else none
    | some (8, c, f, _), some (.inr (c', fs)) => if c = c' ∧ f < fs.length ∧ zi_fit (zi_fty P c f) v = true then some (pc + n, ls, r, w.set a (.inr (c', fs.set f v)), cn, sn) else none
    | _, _ => none
  | .iaload, .int j :: .ref a :: r =>
    if a = zi_X then (if k = lw ∧ zi_in j L then some (pc + n, ls, .int (xs j.toNatClampNeg) :: r, w, cn, sn) else none)
    else match zi_get w a with
      | some (.inl (0, m, .inl f)) => if zi_in j m then some (pc + n, ls, .int (f j.toNatClampNeg) :: r, w, cn, sn) else none
      | _ => none
  | .baload, .int j :: .ref a :: r => match zi_get w a with
    | some (.inl (1, m, .inl f)) => if zi_in j m then some (pc + n, ls, .int (f j.toNatClampNeg) :: r, w, cn, sn) else none
    | _ => none
  | .laload, .int j :: .ref a :: r => match zi_get w a with
    | some (.inl (2, m, .inr (.inl f))) => if zi_in j m then some (pc + n, ls, .long (f j.toNatClampNeg) :: r, w, cn, sn) else none
    | _ => none
  | .aaload, .int j :: .ref a :: r => match zi_get w a with
    | some (.inl (3, m, .inr (.inr (.inr (.inr f))))) => if zi_in j m then zi_push1 ((f j.toNatClampNeg).map Value.ref) pc n ls r w cn sn else none
    | _ => none
  | .iastore, .int x :: .int j :: .ref a :: r => match zi_get w a with
    | some (.inl (0, m, .inl f)) => if zi_in j m then some (pc + n, ls, r, w.set a (.inl (0, m, .inl (upd f j.toNatClampNeg x))), cn, sn) else none
    | _ => none
  | .bastore, .int x :: .int j :: .ref a :: r => match zi_get w a with
    | some (.inl (1, m, .inl f)) => if zi_in j m ∧ (x = 0 ∨ x = 1) then some (pc + n, ls, r, w.set a (.inl (1, m, .inl (upd f j.toNatClampNeg x))), cn, sn) else none
    | _ => none
  | .lastore, .long x :: .int j :: .ref a :: r => match zi_get w a with
    | some (.inl (2, m, .inr (.inl f))) => if zi_in j m then some (pc + n, ls, r, w.set a (.inl (2, m, .inr (.inl (vp_updL f j.toNatClampNeg x)))), cn, sn) else none
    | _ => none
  | .aastore, .ref v :: .int j :: .ref a :: r => match zi_get w a, zi_get w v with
    | some (.inl (3, m, .inr (.inr (.inr (.inr f))))), some (.inr (ci, _)) => if zi_in j m ∧ ci = 2 then some (pc + n, ls, r, w.set a (.inl (3, m, .inr (.inr (.inr (.inr (va_up f j.toNatClampNeg (some v))))))), cn, sn) else none
    | _, _ => none
  | .arraylength, .ref a :: r =>
    if a = zi_X then (if k = lw then some (pc + n, ls, .int (Int32.ofNat L) :: r, w, cn, sn) else none)
    else match zi_get w a with
      | some (.inl (0, m, .inl _)) => some (pc + n, ls, .int (Int32.ofNat m) :: r, w, cn, sn)
      | _ => none
  | .new x, r => match zi_pool P k x with
    | some (4, c, z, _) => if cn = w.length ∧ w.length < zi_X then some (pc + n, ls, .ref w.length :: r, w ++ [.inr (c, zi_fs0 P c)], cn + 1, sn + z) else none
    | _ => none
  | .newarray .int, .int m :: r => if cn = w.length ∧ w.length < zi_X ∧ ¬ m < 0 ∧ m.toNatClampNeg ≤ 65536 then some (pc + n, ls, .ref w.length :: r, w ++ [.inl (0, m.toNatClampNeg, .inl (fun _ => 0))], cn + 1, sn + m.toNatClampNeg) else none
  | .newarray .boolean, .int m :: r => if cn = w.length ∧ w.length < zi_X ∧ ¬ m < 0 ∧ m.toNatClampNeg ≤ 65536 then some (pc + n, ls, .ref w.length :: r, w ++ [.inl (1, m.toNatClampNeg, .inl (fun _ => 0))], cn + 1, sn + m.toNatClampNeg) else none
  | .newarray .long, .int m :: r => if cn = w.length ∧ w.length < zi_X ∧ ¬ m < 0 ∧ m.toNatClampNeg ≤ 65536 then some (pc + n, ls, .ref w.length :: r, w ++ [.inl (2, m.toNatClampNeg, .inr (.inl (fun _ => 0)))], cn + 1, sn + m.toNatClampNeg) else none
  | .anewarray x, .int m :: r => match zi_pool P k x with
    | some (4, 2, _, _) => if cn = w.length ∧ w.length < zi_X ∧ ¬ m < 0 ∧ m.toNatClampNeg ≤ 65536 then some (pc + n, ls, .ref w.length :: r, w ++ [.inl (3, m.toNatClampNeg, .inr (.inr (.inr (.inr (fun _ => none)))))], cn + 1, sn + m.toNatClampNeg) else none
    | _ => none
  | _, _ => none
/-- members that are steps by themselves: Object(), Math.min, System.arraycopy over ints -/
def zi_pri (P : zi_P) (d q k pc n : Nat) (i : Jvm.ClassFile.Instr) (ls : zi_L) (st : List Value) (w : zi_W) (cn sn : Nat) : Option zi_C := match i, st with
  | .invokespecial x, .ref _ :: r => match zi_pool P k x with
    | some (7, 0, _, _) => if (r.map (fun v => v.category)).sum ≤ 8 ∧ 1 ≤ d ∧ 20 ≤ q then some (pc + n, ls, r, w, cn, sn) else none
    | _ => none
  | .invokestatic x, .int y :: .int z :: r => match zi_pool P k x with
    | some (7, 1, _, _) => if (r.map (fun v => v.category)).sum ≤ 8 ∧ 1 ≤ d ∧ 21 ≤ q then some (pc + n, ls, .int (if y < z then y else z) :: r, w, cn, sn) else none
    | some (7, 2, _, _) => match st with
      | .int m :: .int dp :: .ref a :: .int sp :: .ref a0 :: r => match zi_get w a0, zi_get w a with
        | some (.inl (0, n0, .inl f)), some (.inl (0, n1, .inl g)) =>
          if (r.map (fun v => v.category)).sum ≤ 8 ∧ ¬ sp < 0 ∧ ¬ dp < 0 ∧ ¬ m < 0 ∧ sp.toNatClampNeg + m.toNatClampNeg ≤ n0 ∧ dp.toNatClampNeg + m.toNatClampNeg ≤ n1 ∧ 1 ≤ d ∧ 26 ≤ q then
            some (pc + n, ls, r, w.set a (.inl (0, n1, .inl (va_cpy f g sp.toNatClampNeg dp.toNatClampNeg m.toNatClampNeg))), cn, sn) else none
        | _, _ => none
      | _ => none
    | _ => none
  | _, _ => none
def zi_or (a b : Option zi_C) : Option zi_C := match a with
  | some x => some x
  | none => b
def zi_sim (P : zi_P) (lw L : Nat) (xs : Nat → Int32) (d q k pc n : Nat) (i : Jvm.ClassFile.Instr) (ls : zi_L) (st : List Value) (w : zi_W) (cn sn : Nat) : Option zi_C :=
  zi_or (zi_num pc n i ls st w cn sn) (zi_or (zi_lcl pc n i ls st w cn sn) (zi_or (zi_br pc n i ls st w cn sn) (zi_or (zi_cel P lw L xs k pc n i ls st w cn sn) (zi_pri P d q k pc n i ls st w cn sn))))
/-- a return: what is answered -/
def zi_ret (P : zi_P) (k : Nat) (i : Jvm.ClassFile.Instr) (st : List Value) : Option (Option Value) := match i, st with
  | .return_, [] => if zi_r P k = none then some none else none
  | .ireturn, [.int x] => if zi_r P k = some .int ∨ (zi_r P k = some .boolean ∧ (x = 0 ∨ x = 1)) then some (some (.int x)) else none
  | _, _ => none
/-- a call: method, its arguments in order (the receiver first), what is left of the stack -/
def zi_inv (P : zi_P) (k : Nat) (i : Jvm.ClassFile.Instr) (st : List Value) (w : zi_W) : Option (Nat × List Value × List Value) := match i with
  | .invokevirtual x => match zi_pool P k x with
    | some (1, j, m, .ref ci) => match zi_pop m [] st with
      | some (as, .ref a :: r) => match zi_get w a with
        | some (.inr (c', _)) => if c' = ci ∧ (r.map (fun v => v.category)).sum ≤ 8 then some (j, .ref a :: as, r) else none
        | _ => none
      | _ => none
    | _ => none
  | .invokespecial x => match zi_pool P k x with
    | some (2, j, m, _) => match zi_pop m [] st with
      | some (as, .ref a :: r) => if (r.map (fun v => v.category)).sum ≤ 8 then some (j, .ref a :: as, r) else none
      | _ => none
    | _ => none
  | .invokestatic x => match zi_pool P k x with
    | some (3, j, m, _) => match zi_pop m [] st with
      | some (as, r) => if (r.map (fun v => v.category)).sum ≤ 8 then some (j, as, r) else none
      | _ => none
    | _ => none
  | _ => none
/-- the run: fuel n, room for d frames more, with q words -/
def zi_run (P : zi_P) (lw L : Nat) (xs : Nat → Int32) : Nat → Nat → Nat → Nat → Nat → zi_L → List Value → zi_W → Nat → Nat → Option zi_R
  | 0, _, _, _, _, _, _, _, _, _ => none
  | n + 1, d, q, k, pc, ls, st, w, cn, sn => match zi_thr P k pc with
    | some e => if st = [] ∧ 6 ≤ d ∧ 90 ≤ q then some (.inr e, w, cn + 1, sn + 6) else none
    | none => match zi_code P k pc with
      | none => none
      | some i => match zi_ret P k i st with
        | some r => some (.inl r, w, cn, sn)
        | none => match zi_sim P lw L xs d q k pc (zi_len i) i ls st w cn sn with
          | some (pc', ls', st', w', cn', sn') => if cn ≤ cn' ∧ sn ≤ sn' ∧ ls'.length = ls.length then zi_run P lw L xs n d q k pc' ls' st' w' cn' sn' else none
          | none => match zi_inv P k i st w, d with
            | some (j, as, r), d' + 1 => match zi_ent as (zi_n P j) with
              | none => none
              | some ls' => if 19 + zi_n P j ≤ q then match zi_run P lw L xs n d' (q - (19 + zi_n P j)) j 0 ls' [] w cn sn with
                | some (.inl v, w', cn', sn') => zi_run P lw L xs n d q k (pc + 3) ls (v.toList ++ r) w' cn' sn'
                | some (.inr e, w', cn', sn') => match zi_cat P k pc e with
                  | some x => some (.inl (some (.int x)), w', cn', sn')
                  | none => none
                | none => none
                else none
            | _, _ => none
