section
/-! An interpreter of the part of bytecode that this claim uses, over worlds of cells by their places. Later parts show: what it answers, the machine does. -/
abbrev zi_W : Type := List va_E
abbrev zi_L : Type := List (Option Value)
abbrev zi_O : Type := Option Value ⊕ Nat
abbrev zi_C : Type := Nat × zi_L × List Value × zi_W × Nat × Nat
abbrev zi_R : Type := zi_O × zi_W × Nat × Nat
/-- what a method's pool entry is: (tag, a, b, v); 0 field b of class a, 9 the same where it is final, 8 where it is final and this method its constructor; 1, 2, 3 a call (virtual, special, static) of method a with b arguments; 4 new of class a, with b slots (or an array of it, if a is 2); 6 a constant v; 7 a member that is a step by itself: a -/
abbrev zi_T : Type := Nat × Nat × Nat × Value
/-- a program: code, pool, methods (name, bytes, locals, answer), where an exception of a kind is made and thrown, where it is caught and what is answered then, fields' types, the fields that a new object has -/
abbrev zi_P : Type := (Nat → Nat → Option Jvm.ClassFile.Instr) × (Nat → Nat → Option zi_T) × (Nat → MethodName × ByteArray × Nat × Option FieldType) × (Nat → Nat → Option Nat) × (Nat → Nat → Nat → Option Int32) × (Nat → Nat → FieldType) × (Nat → List Value)
def zi_code (P : zi_P) : Nat → Nat → Option Jvm.ClassFile.Instr := P.1
def zi_pool (P : zi_P) : Nat → Nat → Option zi_T := P.2.1
def zi_meth (P : zi_P) : Nat → MethodName × ByteArray × Nat × Option FieldType := P.2.2.1
def zi_thr (P : zi_P) : Nat → Nat → Option Nat := P.2.2.2.1
def zi_cat (P : zi_P) : Nat → Nat → Nat → Option Int32 := P.2.2.2.2.1
def zi_fty (P : zi_P) : Nat → Nat → FieldType := P.2.2.2.2.2.1
def zi_fs0 (P : zi_P) : Nat → List Value := P.2.2.2.2.2.2
abbrev zi_y (P : zi_P) (k : Nat) : MethodName := (zi_meth P k).1
abbrev zi_b (P : zi_P) (k : Nat) : ByteArray := (zi_meth P k).2.1
abbrev zi_n (P : zi_P) (k : Nat) : Nat := (zi_meth P k).2.2.1
abbrev zi_r (P : zi_P) (k : Nat) : Option FieldType := (zi_meth P k).2.2.2
/-- the script's place: no cell of a world -/
def zi_X : Nat := 1099511627776
def zi_get (w : zi_W) (i : Nat) : Option va_E := if i = zi_X then none else w[i]?
def zi_loc (ls : zi_L) (i : Nat) : Option Value := match ls[i]? with
  | some (some v) => some v
  | _ => none
def zi_two (ls : zi_L) (i : Nat) : Bool := match zi_loc ls i with
  | some v => v.category == 2
  | none => false
/-- a value of one slot comes to a local; not behind a long's first half -/
def zi_set1 (ls : zi_L) (i : Nat) (v : Value) : Option zi_L :=
  if i < ls.length ∧ v.category = 1 ∧ (i = 0 ∨ zi_two ls (i - 1) = false) then some (ls.set i (some v)) else none
def zi_set2 (ls : zi_L) (i : Nat) (v : Value) : Option zi_L :=
  if i + 1 < ls.length ∧ v.category = 2 ∧ (i = 0 ∨ zi_two ls (i - 1) = false) then some ((ls.set i (some v)).set (i + 1) none) else none
/-- how long an instruction is (a switch: 0, that isn't asked) -/
def zi_len : Jvm.ClassFile.Instr → Nat
  | .bipush _ => 2
  | .ldc _ => 2
  | .iload _ => 2
  | .lload _ => 2
  | .aload _ => 2
  | .istore _ => 2
  | .lstore _ => 2
  | .astore _ => 2
  | .newarray _ => 2
  | .sipush _ => 3
  | .ldc2_w _ => 3
  | .getfield _ => 3
  | .putfield _ => 3
  | .ifCond _ _ => 3
  | .if_icmp _ _ => 3
  | .goto _ => 3
  | .iinc _ _ => 3
  | .new _ => 3
  | .anewarray _ => 3
  | .invokevirtual _ => 3
  | .invokespecial _ => 3
  | .invokestatic _ => 3
  | .tableswitch _ _ _ _ => 0
  | _ => 1
def zi_tgt (pc : Nat) (off : Int) : Option Nat := if 0 ≤ (pc : Int) + off then some ((pc : Int) + off).toNat else none
def zi_pop : Nat → List Value → List Value → Option (List Value × List Value)
  | 0, acc, st => some (acc, st)
  | n + 1, acc, v :: st => zi_pop n (v :: acc) st
  | _ + 1, _, [] => none
def zi_ent (as : List Value) (n : Nat) : Option zi_L := if as.length ≤ n ∧ as.all (fun v => v.category == 1) = true then some (as.map some ++ List.replicate (n - as.length) none) else none
def zi_fit (ty : FieldType) (v : Value) : Bool := match ty, v with
  | .int, .int _ => true
  | .boolean, .int x => x == 0 || x == 1
  | .object _, .ref _ => true
  | .array _, .ref _ => true
  | _, _ => false
abbrev zi_in (j : Int32) (m : Nat) : Prop := ¬ (j < 0 ∨ m ≤ j.toNatClampNeg)
def zi_jmp (b : Bool) (pc n : Nat) (off : Int) (ls : zi_L) (st : List Value) (w : zi_W) (cn sn : Nat) : Option zi_C :=
  match zi_tgt pc off with
  | some t => some (if b = true then t else pc + n, ls, st, w, cn, sn)
  | none => none
/-- branches -/
def zi_br (pc n : Nat) (i : Jvm.ClassFile.Instr) (ls : zi_L) (st : List Value) (w : zi_W) (cn sn : Nat) : Option zi_C := match i, st with
  | .ifCond .eq off, .int x :: r => zi_jmp (decide (x = 0)) pc n off ls r w cn sn
  | .ifCond .ne off, .int x :: r => zi_jmp (decide (¬ x = 0)) pc n off ls r w cn sn
  | .ifCond .lt off, .int x :: r => zi_jmp (decide (x < 0)) pc n off ls r w cn sn
  | .ifCond .ge off, .int x :: r => zi_jmp (decide (0 ≤ x)) pc n off ls r w cn sn
  | .ifCond .gt off, .int x :: r => zi_jmp (decide (0 < x)) pc n off ls r w cn sn
  | .ifCond .le off, .int x :: r => zi_jmp (decide (x ≤ 0)) pc n off ls r w cn sn
  | .if_icmp .eq off, .int y :: .int x :: r => zi_jmp (decide (x = y)) pc n off ls r w cn sn
  | .if_icmp .ne off, .int y :: .int x :: r => zi_jmp (decide (¬ x = y)) pc n off ls r w cn sn
  | .if_icmp .lt off, .int y :: .int x :: r => zi_jmp (decide (x < y)) pc n off ls r w cn sn
  | .if_icmp .ge off, .int y :: .int x :: r => zi_jmp (decide (y ≤ x)) pc n off ls r w cn sn
  | .if_icmp .gt off, .int y :: .int x :: r => zi_jmp (decide (y < x)) pc n off ls r w cn sn
  | .if_icmp .le off, .int y :: .int x :: r => zi_jmp (decide (x ≤ y)) pc n off ls r w cn sn
  | .goto off, r => zi_jmp true pc n off ls r w cn sn
  | .tableswitch d lo hi offs, .int x :: r =>
    if x.toInt < lo ∨ hi < x.toInt then zi_jmp true pc n d ls r w cn sn
    else match offs[(x.toInt - lo).toNat]? with
      | some off => zi_jmp true pc n off ls r w cn sn
      | none => none
  | _, _ => none
/-- numbers and the stack -/
def zi_num (pc n : Nat) (i : Jvm.ClassFile.Instr) (ls : zi_L) (st : List Value) (w : zi_W) (cn sn : Nat) : Option zi_C := match i, st with
  | .iconst c, r => some (pc + n, ls, .int (Int32.ofInt c) :: r, w, cn, sn)
  | .bipush c, r => some (pc + n, ls, .int (Int8.ofInt c).toInt32 :: r, w, cn, sn)
  | .sipush c, r => some (pc + n, ls, .int (Int16.ofInt c).toInt32 :: r, w, cn, sn)
  | .iadd, .int y :: .int x :: r => some (pc + n, ls, .int (x + y) :: r, w, cn, sn)
  | .isub, .int y :: .int x :: r => some (pc + n, ls, .int (x - y) :: r, w, cn, sn)
  | .imul, .int y :: .int x :: r => some (pc + n, ls, .int (x * y) :: r, w, cn, sn)
  | .iand, .int y :: .int x :: r => some (pc + n, ls, .int (x &&& y) :: r, w, cn, sn)
  | .ixor, .int y :: .int x :: r => some (pc + n, ls, .int (x ^^^ y) :: r, w, cn, sn)
  | .ishl, .int y :: .int x :: r => some (pc + n, ls, .int (x <<< (y &&& 31)) :: r, w, cn, sn)
  | .iushr, .int y :: .int x :: r => some (pc + n, ls, .int (x.toUInt32 >>> (y.toUInt32 &&& Int32.toUInt32 31)).toInt32 :: r, w, cn, sn)
  | .idiv, .int y :: .int x :: r => if y = 0 then none else some (pc + n, ls, .int (x / y) :: r, w, cn, sn)
  | .irem, .int y :: .int x :: r => if y = 0 then none else some (pc + n, ls, .int (x - x / y * y) :: r, w, cn, sn)
  | .i2l, .int x :: r => some (pc + n, ls, .long x.toInt64 :: r, w, cn, sn)
  | .l2i, .long x :: r => some (pc + n, ls, .int x.toInt32 :: r, w, cn, sn)
  | .i2c, .int x :: r => some (pc + n, ls, .int (x.toUInt32 % 65536).toInt32 :: r, w, cn, sn)
  | .ladd, .long y :: .long x :: r => some (pc + n, ls, .long (x + y) :: r, w, cn, sn)
  | .lmul, .long y :: .long x :: r => some (pc + n, ls, .long (x * y) :: r, w, cn, sn)
  | .ldiv, .long y :: .long x :: r => if y = 0 then none else some (pc + n, ls, .long (x / y) :: r, w, cn, sn)
  | .lrem, .long y :: .long x :: r => if y = 0 then none else some (pc + n, ls, .long (x - x / y * y) :: r, w, cn, sn)
  | .lcmp, .long y :: .long x :: r => some (pc + n, ls, .int (lg_cmp x y) :: r, w, cn, sn)
  | .dup, v :: r => if v.category = 1 then some (pc + n, ls, v :: v :: r, w, cn, sn) else none
  | .dup_x1, v :: u :: r => if v.category = 1 ∧ u.category = 1 then some (pc + n, ls, v :: u :: v :: r, w, cn, sn) else none
  | .dup_x2, v :: u :: t :: r => if v.category = 1 ∧ u.category = 1 ∧ t.category = 1 then some (pc + n, ls, v :: u :: t :: v :: r, w, cn, sn) else none
  | .dup2, v :: u :: r => if v.category = 1 ∧ u.category = 1 then some (pc + n, ls, v :: u :: v :: u :: r, w, cn, sn) else none
  | .pop, v :: r => if v.category = 1 then some (pc + n, ls, r, w, cn, sn) else none
  | _, _ => none
def zi_push1 (q : Option Value) (pc n : Nat) (ls : zi_L) (st : List Value) (w : zi_W) (cn sn : Nat) : Option zi_C := match q with
  | some v => some (pc + n, ls, v :: st, w, cn, sn)
  | none => none
def zi_isI (q : Option Value) : Option Value := match q with
  | some (.int x) => some (.int x)
  | _ => none
def zi_isL (q : Option Value) : Option Value := match q with
  | some (.long x) => some (.long x)
  | _ => none
def zi_isR (q : Option Value) : Option Value := match q with
  | some (.ref x) => some (.ref x)
  | _ => none
def zi_sto1 (i : Nat) (v : Value) (pc n : Nat) (ls : zi_L) (r : List Value) (w : zi_W) (cn sn : Nat) : Option zi_C := match zi_set1 ls i v with
  | some ls' => some (pc + n, ls', r, w, cn, sn)
  | none => none
def zi_sto2 (i : Nat) (v : Value) (pc n : Nat) (ls : zi_L) (r : List Value) (w : zi_W) (cn sn : Nat) : Option zi_C := match zi_set2 ls i v with
  | some ls' => some (pc + n, ls', r, w, cn, sn)
  | none => none
/-- locals -/
def zi_lcl (pc n : Nat) (i : Jvm.ClassFile.Instr) (ls : zi_L) (st : List Value) (w : zi_W) (cn sn : Nat) : Option zi_C := match i, st with
  | .iload j, r => zi_push1 (zi_isI (zi_loc ls j)) pc n ls r w cn sn
  | .iload_n j, r => zi_push1 (zi_isI (zi_loc ls j)) pc n ls r w cn sn
  | .lload j, r => zi_push1 (zi_isL (zi_loc ls j)) pc n ls r w cn sn
  | .lload_n j, r => zi_push1 (zi_isL (zi_loc ls j)) pc n ls r w cn sn
  | .aload j, r => zi_push1 (zi_isR (zi_loc ls j)) pc n ls r w cn sn
  | .aload_n j, r => zi_push1 (zi_isR (zi_loc ls j)) pc n ls r w cn sn
  | .istore j, .int x :: r => zi_sto1 j (.int x) pc n ls r w cn sn
  | .istore_n j, .int x :: r => zi_sto1 j (.int x) pc n ls r w cn sn
  | .astore j, .ref x :: r => zi_sto1 j (.ref x) pc n ls r w cn sn
  | .astore_n j, .ref x :: r => zi_sto1 j (.ref x) pc n ls r w cn sn
  | .lstore j, .long x :: r => zi_sto2 j (.long x) pc n ls r w cn sn
  | .lstore_n j, .long x :: r => zi_sto2 j (.long x) pc n ls r w cn sn
  | .iinc j c, r => match zi_loc ls j with
    | some (.int x) => zi_sto1 j (.int (x + Int32.ofInt c)) pc n ls r w cn sn
    | _ => none
  | _, _ => none
/-- cells -/
def zi_cel (P : zi_P) (lw L : Nat) (xs : Nat → Int32) (k pc n : Nat) (i : Jvm.ClassFile.Instr) (ls : zi_L) (st : List Value) (w : zi_W) (cn sn : Nat) : Option zi_C := match i, st with
  | .ldc x, r => match zi_pool P k x with
    | some (6, _, _, .int v) => some (pc + n, ls, .int v :: r, w, cn, sn)
    | _ => none
  | .ldc2_w x, r => match zi_pool P k x with
    | some (6, _, _, .long v) => some (pc + n, ls, .long v :: r, w, cn, sn)
    | _ => none
  | .getfield x, .ref a :: r => match zi_pool P k x, zi_get w a with
    | some (0, c, f, _), some (.inr (c', fs)) => if c = c' then zi_push1 fs[f]? pc n ls r w cn sn else none
    | some (8, c, f, _), some (.inr (c', fs)) => if c = c' then zi_push1 fs[f]? pc n ls r w cn sn else none
    | some (9, c, f, _), some (.inr (c', fs)) => if c = c' then zi_push1 fs[f]? pc n ls r w cn sn else none
    | _, _ => none
  | .putfield x, v :: .ref a :: r => match zi_pool P k x, zi_get w a with
    | some (0, c, f, _), some (.inr (c', fs)) => if c = c' ∧ f < fs.length ∧ zi_fit (zi_fty P c f) v = true then some (pc + n, ls, r, w.set a (.inr (c', fs.set f v)), cn, sn) else none
    | some (8, c, f, _), some (.inr (c', fs)) => if c = c' ∧ f < fs.length ∧ zi_fit (zi_fty P c f) v = true then some (pc + n, ls, r, w.set a (.inr (c', fs.set f v)), cn, sn) else none
    | _, _ => none
  | .iaload, .int j :: .ref a :: r =>
    if a = zi_X then (if k = lw ∧ zi_in j L then some (pc + n, ls, .int (xs j.toNatClampNeg) :: r, w, cn, sn) else none)
    else match zi_get w a with
      | some (.inl (0, m, .inl f)) => if zi_in j m then some (pc + n, ls, .int (f j.toNatClampNeg) :: r, w, cn, sn) else none
      | _ => none
  | .baload, .int j :: .ref a :: r => match zi_get w a with
    | some (.inl (1, m, .inl f)) => if zi_in j m then some (pc + n, ls, .int (f j.toNatClampNeg) :: r, w, cn, sn) else none
    | _ => none
  | .laload, .int j :: .ref a :: r => match zi_get w a with
    | some (.inl (2, m, .inr (.inl f))) => if zi_in j m then some (pc + n, ls, .long (f j.toNatClampNeg) :: r, w, cn, sn) else none
    | _ => none
  | .aaload, .int j :: .ref a :: r => match zi_get w a with
    | some (.inl (3, m, .inr (.inr (.inr (.inr f))))) => if zi_in j m then zi_push1 ((f j.toNatClampNeg).map Value.ref) pc n ls r w cn sn else none
    | _ => none
  | .iastore, .int x :: .int j :: .ref a :: r => match zi_get w a with
    | some (.inl (0, m, .inl f)) => if zi_in j m then some (pc + n, ls, r, w.set a (.inl (0, m, .inl (upd f j.toNatClampNeg x))), cn, sn) else none
    | _ => none
  | .bastore, .int x :: .int j :: .ref a :: r => match zi_get w a with
    | some (.inl (1, m, .inl f)) => if zi_in j m ∧ (x = 0 ∨ x = 1) then some (pc + n, ls, r, w.set a (.inl (1, m, .inl (upd f j.toNatClampNeg x))), cn, sn) else none
    | _ => none
  | .lastore, .long x :: .int j :: .ref a :: r => match zi_get w a with
    | some (.inl (2, m, .inr (.inl f))) => if zi_in j m then some (pc + n, ls, r, w.set a (.inl (2, m, .inr (.inl (vp_updL f j.toNatClampNeg x)))), cn, sn) else none
    | _ => none
  | .aastore, .ref v :: .int j :: .ref a :: r => match zi_get w a, zi_get w v with
    | some (.inl (3, m, .inr (.inr (.inr (.inr f))))), some (.inr (ci, _)) => if zi_in j m ∧ ci = 2 then some (pc + n, ls, r, w.set a (.inl (3, m, .inr (.inr (.inr (.inr (va_up f j.toNatClampNeg (some v))))))), cn, sn) else none
    | _, _ => none
  | .arraylength, .ref a :: r =>
    if a = zi_X then (if k = lw then some (pc + n, ls, .int (Int32.ofNat L) :: r, w, cn, sn) else none)
    else match zi_get w a with
      | some (.inl (0, m, .inl _)) => some (pc + n, ls, .int (Int32.ofNat m) :: r, w, cn, sn)
      | _ => none
  | .new x, r => match zi_pool P k x with
    | some (4, c, z, _) => if cn = w.length ∧ w.length < zi_X then some (pc + n, ls, .ref w.length :: r, w ++ [.inr (c, zi_fs0 P c)], cn + 1, sn + z) else none
    | _ => none
  | .newarray .int, .int m :: r => if cn = w.length ∧ w.length < zi_X ∧ ¬ m < 0 ∧ m.toNatClampNeg ≤ 65536 then some (pc + n, ls, .ref w.length :: r, w ++ [.inl (0, m.toNatClampNeg, .inl (fun _ => 0))], cn + 1, sn + m.toNatClampNeg) else none
  | .newarray .boolean, .int m :: r => if cn = w.length ∧ w.length < zi_X ∧ ¬ m < 0 ∧ m.toNatClampNeg ≤ 65536 then some (pc + n, ls, .ref w.length :: r, w ++ [.inl (1, m.toNatClampNeg, .inl (fun _ => 0))], cn + 1, sn + m.toNatClampNeg) else none
  | .newarray .long, .int m :: r => if cn = w.length ∧ w.length < zi_X ∧ ¬ m < 0 ∧ m.toNatClampNeg ≤ 65536 then some (pc + n, ls, .ref w.length :: r, w ++ [.inl (2, m.toNatClampNeg, .inr (.inl (fun _ => 0)))], cn + 1, sn + m.toNatClampNeg) else none
  | .anewarray x, .int m :: r => match zi_pool P k x with
    | some (4, 2, _, _) => if cn = w.length ∧ w.length < zi_X ∧ ¬ m < 0 ∧ m.toNatClampNeg ≤ 65536 then some (pc + n, ls, .ref w.length :: r, w ++ [.inl (3, m.toNatClampNeg, .inr (.inr (.inr (.inr (fun _ => none)))))], cn + 1, sn + m.toNatClampNeg) else none
    | _ => none
  | _, _ => none
/-- members that are steps by themselves: Object(), Math.min, System.arraycopy over ints -/
def zi_pri (P : zi_P) (d q k pc n : Nat) (i : Jvm.ClassFile.Instr) (ls : zi_L) (st : List Value) (w : zi_W) (cn sn : Nat) : Option zi_C := match i, st with
  | .invokespecial x, .ref _ :: r => match zi_pool P k x with
    | some (7, 0, _, _) => if (r.map (fun v => v.category)).sum ≤ 8 ∧ 1 ≤ d ∧ 20 ≤ q then some (pc + n, ls, r, w, cn, sn) else none
    | _ => none
  | .invokestatic x, .int y :: .int z :: r => match zi_pool P k x with
    | some (7, 1, _, _) => if (r.map (fun v => v.category)).sum ≤ 8 ∧ 1 ≤ d ∧ 21 ≤ q then some (pc + n, ls, .int (if y < z then y else z) :: r, w, cn, sn) else none
    | some (7, 2, _, _) => match st with
      | .int m :: .int dp :: .ref a :: .int sp :: .ref a0 :: r => match zi_get w a0, zi_get w a with
        | some (.inl (0, n0, .inl f)), some (.inl (0, n1, .inl g)) =>
          if (r.map (fun v => v.category)).sum ≤ 8 ∧ ¬ sp < 0 ∧ ¬ dp < 0 ∧ ¬ m < 0 ∧ sp.toNatClampNeg + m.toNatClampNeg ≤ n0 ∧ dp.toNatClampNeg + m.toNatClampNeg ≤ n1 ∧ 1 ≤ d ∧ 26 ≤ q then
            some (pc + n, ls, r, w.set a (.inl (0, n1, .inl (va_cpy f g sp.toNatClampNeg dp.toNatClampNeg m.toNatClampNeg))), cn, sn) else none
        | _, _ => none
      | _ => none
    | _ => none
  | _, _ => none
def zi_or (a b : Option zi_C) : Option zi_C := match a with
  | some x => some x
  | none => b
def zi_sim (P : zi_P) (lw L : Nat) (xs : Nat → Int32) (d q k pc n : Nat) (i : Jvm.ClassFile.Instr) (ls : zi_L) (st : List Value) (w : zi_W) (cn sn : Nat) : Option zi_C :=
  zi_or (zi_num pc n i ls st w cn sn) (zi_or (zi_lcl pc n i ls st w cn sn) (zi_or (zi_br pc n i ls st w cn sn) (zi_or (zi_cel P lw L xs k pc n i ls st w cn sn) (zi_pri P d q k pc n i ls st w cn sn))))
/-- a return: what is answered -/
def zi_ret (P : zi_P) (k : Nat) (i : Jvm.ClassFile.Instr) (st : List Value) : Option (Option Value) := match i, st with
  | .return_, [] => if zi_r P k = none then some none else none
  | .ireturn, [.int x] => if zi_r P k = some .int ∨ (zi_r P k = some .boolean ∧ (x = 0 ∨ x = 1)) then some (some (.int x)) else none
  | _, _ => none
/-- a call: method, its arguments in order (the receiver first), what is left of the stack -/
def zi_inv (P : zi_P) (k : Nat) (i : Jvm.ClassFile.Instr) (st : List Value) (w : zi_W) : Option (Nat × List Value × List Value) := match i with
  | .invokevirtual x => match zi_pool P k x with
    | some (1, j, m, .ref ci) => match zi_pop m [] st with
      | some (as, .ref a :: r) => match zi_get w a with
        | some (.inr (c', _)) => if c' = ci ∧ (r.map (fun v => v.category)).sum ≤ 8 then some (j, .ref a :: as, r) else none
        | _ => none
      | _ => none
    | _ => none
  | .invokespecial x => match zi_pool P k x with
    | some (2, j, m, _) => match zi_pop m [] st with
      | some (as, .ref a :: r) => if (r.map (fun v => v.category)).sum ≤ 8 then some (j, .ref a :: as, r) else none
      | _ => none
    | _ => none
  | .invokestatic x => match zi_pool P k x with
    | some (3, j, m, _) => match zi_pop m [] st with
      | some (as, r) => if (r.map (fun v => v.category)).sum ≤ 8 then some (j, as, r) else none
      | _ => none
    | _ => none
  | _ => none
/-- the run: fuel n, room for d frames more, with q words -/
def zi_run (P : zi_P) (lw L : Nat) (xs : Nat → Int32) : Nat → Nat → Nat → Nat → Nat → zi_L → List Value → zi_W → Nat → Nat → Option zi_R
  | 0, _, _, _, _, _, _, _, _, _ => none
  | n + 1, d, q, k, pc, ls, st, w, cn, sn => match zi_thr P k pc with
    | some e => if st = [] ∧ 6 ≤ d ∧ 90 ≤ q then some (.inr e, w, cn + 1, sn + 6) else none
    | none => match zi_code P k pc with
      | none => none
      | some i => match zi_ret P k i st with
        | some r => some (.inl r, w, cn, sn)
        | none => match zi_sim P lw L xs d q k pc (zi_len i) i ls st w cn sn with
          | some (pc', ls', st', w', cn', sn') => if cn ≤ cn' ∧ sn ≤ sn' ∧ ls'.length = ls.length then zi_run P lw L xs n d q k pc' ls' st' w' cn' sn' else none
          | none => match zi_inv P k i st w, d with
            | some (j, as, r), d' + 1 => match zi_ent as (zi_n P j) with
              | none => none
              | some ls' => if 19 + zi_n P j ≤ q then match zi_run P lw L xs n d' (q - (19 + zi_n P j)) j 0 ls' [] w cn sn with
                | some (.inl v, w', cn', sn') => zi_run P lw L xs n d q k (pc + 3) ls (v.toList ++ r) w' cn' sn'
                | some (.inr e, w', cn', sn') => match zi_cat P k pc e with
                  | some x => some (.inl (some (.int x)), w', cn', sn')
                  | none => none
                | none => none
                else none
            | _, _ => none
end
section
/-! The program as the interpreter takes it: classes, methods, code, pools. By program (wip/whole/gen/gen.py). -/
def zp_T0 : u_T := fun k => match k with
  | 0 => ("PatienceTable", "game", "LPatienceTable$Game;", true)
  | 1 => ("PatienceTable", "table", "LPatienceTable$Layout;", true)
  | 2 => ("PatienceTable", "played", "LPatienceTable$Log;", true)
  | 3 => ("PatienceTable", "search", "LPatienceTable$Search;", true)
  | 4 => ("PatienceTable", "rest", "[I", true)
  | _ => ("PatienceTable", "hinted", "I", false)
def zp_T1 : u_T := fun k => match k with
  | 0 => ("PatienceTable$Game", "columns", "I", false)
  | 1 => ("PatienceTable$Game", "cells", "I", false)
  | 2 => ("PatienceTable$Game", "build", "I", false)
  | 3 => ("PatienceTable$Game", "fill", "I", false)
  | 4 => ("PatienceTable$Game", "suits", "I", false)
  | _ => ("PatienceTable$Game", "ranks", "I", false)
def zp_T2 : u_T := fun k => match k with
  | 0 => ("PatienceTable$Layout", "game", "LPatienceTable$Game;", true)
  | 1 => ("PatienceTable$Layout", "beneath", "[I", true)
  | 2 => ("PatienceTable$Layout", "tops", "[I", true)
  | 3 => ("PatienceTable$Layout", "homeRanks", "[I", true)
  | 4 => ("PatienceTable$Layout", "laid", "I", false)
  | _ => ("PatienceTable$Layout", "atHome", "I", false)
def zp_T3 : u_T := fun k => match k with
  | 0 => ("PatienceTable$Log", "lowests", "[I", true)
  | 1 => ("PatienceTable$Log", "sources", "[I", true)
  | 2 => ("PatienceTable$Log", "targets", "[I", true)
  | 3 => ("PatienceTable$Log", "amounts", "[I", true)
  | 4 => ("PatienceTable$Log", "next", "I", false)
  | _ => ("PatienceTable$Log", "count", "I", false)
def zp_T4 : u_T := fun k => match k with
  | 0 => ("PatienceTable$Search", "game", "LPatienceTable$Game;", true)
  | 1 => ("PatienceTable$Search", "found", "[LPatienceTable$Layout;", true)
  | 2 => ("PatienceTable$Search", "hashes", "[I", true)
  | 3 => ("PatienceTable$Search", "firstSteps", "[I", true)
  | 4 => ("PatienceTable$Search", "slots", "[I", true)
  | 5 => ("PatienceTable$Search", "fuel", "I", false)
  | 6 => ("PatienceTable$Search", "count", "I", false)
  | 7 => ("PatienceTable$Search", "hasTooMany", "Z", false)
  | 8 => ("PatienceTable$Search", "firstStep", "I", false)
  | _ => ("PatienceTable$Search", "passed", "I", false)
def zp_T5 : u_T := fun k => match k with
  | 0 => ("PatienceTableModel", "thrown", "I", false)
  | 1 => ("PatienceTableModel", "columns", "I", false)
  | 2 => ("PatienceTableModel", "cells", "I", false)
  | 3 => ("PatienceTableModel", "build", "I", false)
  | 4 => ("PatienceTableModel", "fill", "I", false)
  | 5 => ("PatienceTableModel", "suits", "I", false)
  | 6 => ("PatienceTableModel", "ranks", "I", false)
  | 7 => ("PatienceTableModel", "column", "[I", true)
  | 8 => ("PatienceTableModel", "height", "[I", true)
  | 9 => ("PatienceTableModel", "cell", "[I", true)
  | 10 => ("PatienceTableModel", "home", "[I", true)
  | 11 => ("PatienceTableModel", "lies", "[Z", true)
  | 12 => ("PatienceTableModel", "rest", "[I", true)
  | 13 => ("PatienceTableModel", "logs", "I", false)
  | 14 => ("PatienceTableModel", "log", "[I", true)
  | 15 => ("PatienceTableModel", "hinted", "I", false)
  | 16 => ("PatienceTableModel", "seen", "I", false)
  | 17 => ("PatienceTableModel", "row", "[I", true)
  | 18 => ("PatienceTableModel", "sum", "[I", true)
  | 19 => ("PatienceTableModel", "good", "[Z", true)
  | 20 => ("PatienceTableModel", "begins", "[I", true)
  | 21 => ("PatienceTableModel", "count", "I", false)
  | 22 => ("PatienceTableModel", "depth", "I", false)
  | 23 => ("PatienceTableModel", "more", "Z", false)
  | 24 => ("PatienceTableModel", "won", "Z", false)
  | 25 => ("PatienceTableModel", "homeOf", "[I", true)
  | 26 => ("PatienceTableModel", "taken", "I", false)
  | 27 => ("PatienceTableModel", "grounds", "I", false)
  | _ => ("PatienceTableModel", "covered", "[Z", true)
def zp_cl : List vw_C := [("PatienceTable", zp_T0, 6), ("PatienceTable$Game", zp_T1, 6), ("PatienceTable$Layout", zp_T2, 6), ("PatienceTable$Log", zp_T3, 6), ("PatienceTable$Search", zp_T4, 10), ("PatienceTableModel", zp_T5, 29)]
def zp_fty (c f : Nat) : FieldType := match c with
  | 0 => ([(.object "PatienceTable$Game"), (.object "PatienceTable$Layout"), (.object "PatienceTable$Log"), (.object "PatienceTable$Search"), (.array .int), .int] : List FieldType).getD f .int
  | 1 => ([.int, .int, .int, .int, .int, .int] : List FieldType).getD f .int
  | 2 => ([(.object "PatienceTable$Game"), (.array .int), (.array .int), (.array .int), .int, .int] : List FieldType).getD f .int
  | 3 => ([(.array .int), (.array .int), (.array .int), (.array .int), .int, .int] : List FieldType).getD f .int
  | 4 => ([(.object "PatienceTable$Game"), (.array (.object "PatienceTable$Layout")), (.array .int), (.array .int), (.array .int), .int, .int, .boolean, .int, .int] : List FieldType).getD f .int
  | _ => ([.int, .int, .int, .int, .int, .int, .int, (.array .int), (.array .int), (.array .int), (.array .int), (.array .boolean), (.array .int), .int, (.array .int), .int, .int, (.array .int), (.array .int), (.array .boolean), (.array .int), .int, .int, .boolean, .boolean, (.array .int), .int, .int, (.array .boolean)] : List FieldType).getD f .int
def zp_fs0 (c : Nat) : List Value := match c with
  | 0 => [.null, .null, .null, .null, .null, .int 0]
  | 1 => [.int 0, .int 0, .int 0, .int 0, .int 0, .int 0]
  | 2 => [.null, .null, .null, .null, .int 0, .int 0]
  | 3 => [.null, .null, .null, .null, .int 0, .int 0]
  | 4 => [.null, .null, .null, .null, .null, .int 0, .int 0, .int 0, .int 0, .int 0]
  | _ => [.int 0, .int 0, .int 0, .int 0, .int 0, .int 0, .int 0, .null, .null, .null, .null, .null, .null, .int 0, .null, .int 0, .int 0, .null, .null, .null, .null, .int 0, .int 0, .int 0, .int 0, .null, .int 0, .int 0, .null]
/-- 0: PatienceTableLaw.law([I)Z -/
def zp_l0 : List (Option Jvm.ClassFile.Instr) := [some (.new 8), none, none, some (.dup), some (.invokespecial 42), none, none, some (.astore_n 1), some (.new 43), none, none, some (.dup), some (.invokespecial 45), none, none, some (.astore_n 2), some (.iconst 1), some (.newarray .long), none, some (.astore_n 3), some (.iconst 0), some (.istore 4), none, some (.iload 4), none, some (.aload_n 0), some (.arraylength), some (.iconst 5), some (.isub), some (.if_icmp .gt (740)), none, none, some (.aload_n 0), some (.iload 4), none, some (.iaload), some (.bipush (15)), none, some (.iand), some (.tableswitch (724) (0) (15) #[(77), (138), (175), (211), (222), (290), (370), (442), (486), (530), (543), (580), (605), (642), (698), (711)]), none, none, none, none, none, none, none, none, none, none, none, none, none, none, none, none, none, none, none, none, none, none, none, none, none, none, none, none, none, none, none, none, none, none, none, none, none, none, none, none, none, none, none, none, none, none, none, none, none, none, none, none, none, none, none, none, none, none, none, none, none, none, none, none, none, none, none, none, none, none, none, none, none, none, none, none, some (.aload_n 1), some (.aload_n 0), some (.iload 4), none, some (.iconst 1), some (.iadd), some (.iaload), some (.aload_n 0), some (.iload 4), none, some (.iconst 2), some (.iadd), some (.iaload), some (.aload_n 0), some (.iload 4), none, some (.iconst 3), some (.iadd), some (.iaload), some (.aload_n 0), some (.iload 4), none, some (.iconst 4), some (.iadd), some (.iaload), some (.invokevirtual 46), none, none, some (.aload_n 2), some (.aload_n 0), some (.iload 4), none, some (.iconst 1), some (.iadd), some (.iaload), some (.aload_n 0), some (.iload 4), none, some (.iconst 2), some (.iadd), some (.iaload), some (.aload_n 0), some (.iload 4), none, some (.iconst 3), some (.iadd), some (.iaload), some (.aload_n 0), some (.iload 4), none, some (.iconst 4), some (.iadd), some (.iaload), some (.invokevirtual 50), none, none, some (.if_icmp .eq (591)), none, none, some (.iconst 0), some (.ireturn), some (.aload_n 1), some (.aload_n 0), some (.iload 4), none, some (.iconst 1), some (.iadd), some (.iaload), some (.aload_n 0), some (.iload 4), none, some (.iconst 2), some (.iadd), some (.iaload), some (.invokevirtual 51), none, none, some (.aload_n 2), some (.aload_n 0), some (.iload 4), none, some (.iconst 1), some (.iadd), some (.iaload), some (.aload_n 0), some (.iload 4), none, some (.iconst 2), some (.iadd), some (.iaload), some (.invokevirtual 55), none, none, some (.if_icmp .eq (554)), none, none, some (.iconst 0), some (.ireturn), some (.aload_n 1), some (.aload_n 0), some (.iload 4), none, some (.iconst 1), some (.iadd), some (.iaload), some (.invokestatic 56), none, none, some (.istore 5), none, some (.aload_n 2), some (.aload_n 0), some (.iload 4), none, some (.iconst 1), some (.iadd), some (.iaload), some (.invokevirtual 61), none, none, some (.aload_n 2), some (.invokevirtual 62), none, none, some (.iload 5), none, some (.if_icmp .eq (5)), none, none, some (.iconst 0), some (.ireturn), some (.goto (516)), none, none, some (.aload_n 1), some (.invokevirtual 65), none, none, some (.aload_n 2), some (.invokevirtual 68), none, none, some (.goto (505)), none, none, some (.aload_n 1), some (.aload_n 0), some (.iload 4), none, some (.iconst 1), some (.iadd), some (.iaload), some (.aload_n 0), some (.iload 4), none, some (.iconst 2), some (.iadd), some (.iaload), some (.aload_n 3), some (.invokestatic 69), none, none, some (.istore 5), none, some (.aload_n 2), some (.aload_n 0), some (.iload 4), none, some (.iconst 1), some (.iadd), some (.iaload), some (.aload_n 0), some (.iload 4), none, some (.iconst 2), some (.iadd), some (.iaload), some (.invokevirtual 72), none, none, some (.istore 6), none, some (.aload_n 2), some (.invokevirtual 62), none, none, some (.iload 5), none, some (.if_icmp .eq (5)), none, none, some (.iconst 0), some (.ireturn), some (.iload 5), none, some (.ifCond .ne (15)), none, none, some (.aload_n 3), some (.iconst 0), some (.laload), some (.iload 6), none, some (.i2l), some (.lcmp), some (.ifCond .eq (5)), none, none, some (.iconst 0), some (.ireturn), some (.goto (437)), none, none, some (.aload_n 1), some (.aload_n 0), some (.iload 4), none, some (.iconst 1), some (.iadd), some (.iaload), some (.aload_n 0), some (.iload 4), none, some (.iconst 2), some (.iadd), some (.iaload), some (.aload_n 0), some (.iload 4), none, some (.iconst 3), some (.iadd), some (.iaload), some (.aload_n 3), some (.invokestatic 73), none, none, some (.istore 5), none, some (.aload_n 2), some (.aload_n 0), some (.iload 4), none, some (.iconst 1), some (.iadd), some (.iaload), some (.aload_n 0), some (.iload 4), none, some (.iconst 2), some (.iadd), some (.iaload), some (.aload_n 0), some (.iload 4), none, some (.iconst 3), some (.iadd), some (.iaload), some (.invokevirtual 76), none, none, some (.istore 6), none, some (.aload_n 2), some (.invokevirtual 62), none, none, some (.iload 5), none, some (.if_icmp .eq (5)), none, none, some (.iconst 0), some (.ireturn), some (.iload 5), none, some (.ifCond .ne (15)), none, none, some (.aload_n 3), some (.iconst 0), some (.laload), some (.iload 6), none, some (.i2l), some (.lcmp), some (.ifCond .eq (5)), none, none, some (.iconst 0), some (.ireturn), some (.goto (357)), none, none, some (.aload_n 1), some (.aload_n 0), some (.iload 4), none, some (.iconst 1), some (.iadd), some (.iaload), some (.i2c), some (.aload_n 0), some (.iload 4), none, some (.iconst 2), some (.iadd), some (.iaload), some (.i2c), some (.aload_n 3), some (.invokestatic 77), none, none, some (.istore 5), none, some (.aload_n 2), some (.aload_n 0), some (.iload 4), none, some (.iconst 1), some (.iadd), some (.iaload), some (.i2c), some (.aload_n 0), some (.iload 4), none, some (.iconst 2), some (.iadd), some (.iaload), some (.i2c), some (.invokevirtual 80), none, none, some (.istore 6), none, some (.aload_n 2), some (.invokevirtual 62), none, none, some (.iload 5), none, some (.if_icmp .eq (5)), none, none, some (.iconst 0), some (.ireturn), some (.iload 5), none, some (.ifCond .ne (15)), none, none, some (.aload_n 3), some (.iconst 0), some (.laload), some (.iload 6), none, some (.i2l), some (.lcmp), some (.ifCond .eq (5)), none, none, some (.iconst 0), some (.ireturn), some (.goto (285)), none, none, some (.aload_n 1), some (.aload_n 3), some (.invokestatic 81), none, none, some (.istore 5), none, some (.aload_n 2), some (.invokevirtual 84), none, none, some (.istore 6), none, some (.aload_n 2), some (.invokevirtual 62), none, none, some (.iload 5), none, some (.if_icmp .eq (5)), none, none, some (.iconst 0), some (.ireturn), some (.iload 5), none, some (.ifCond .ne (15)), none, none, some (.aload_n 3), some (.iconst 0), some (.laload), some (.iload 6), none, some (.i2l), some (.lcmp), some (.ifCond .eq (5)), none, none, some (.iconst 0), some (.ireturn), some (.goto (241)), none, none, some (.aload_n 1), some (.aload_n 3), some (.invokestatic 85), none, none, some (.istore 5), none, some (.aload_n 2), some (.invokevirtual 87), none, none, some (.istore 6), none, some (.aload_n 2), some (.invokevirtual 62), none, none, some (.iload 5), none, some (.if_icmp .eq (5)), none, none, some (.iconst 0), some (.ireturn), some (.iload 5), none, some (.ifCond .ne (15)), none, none, some (.aload_n 3), some (.iconst 0), some (.laload), some (.iload 6), none, some (.i2l), some (.lcmp), some (.ifCond .eq (5)), none, none, some (.iconst 0), some (.ireturn), some (.goto (197)), none, none, some (.aload_n 1), some (.invokevirtual 88), none, none, some (.aload_n 2), some (.invokevirtual 91), none, none, some (.if_icmp .eq (186)), none, none, some (.iconst 0), some (.ireturn), some (.aload_n 1), some (.aload_n 0), some (.iload 4), none, some (.iconst 1), some (.iadd), some (.iaload), some (.aload_n 0), some (.iload 4), none, some (.iconst 2), some (.iadd), some (.iaload), some (.invokevirtual 92), none, none, some (.aload_n 2), some (.aload_n 0), some (.iload 4), none, some (.iconst 1), some (.iadd), some (.iaload), some (.aload_n 0), some (.iload 4), none, some (.iconst 2), some (.iadd), some (.iaload), some (.invokevirtual 95), none, none, some (.if_icmp .eq (149)), none, none, some (.iconst 0), some (.ireturn), some (.aload_n 1), some (.aload_n 0), some (.iload 4), none, some (.iconst 1), some (.iadd), some (.iaload), some (.invokevirtual 96), none, none, some (.aload_n 2), some (.aload_n 0), some (.iload 4), none, some (.iconst 1), some (.iadd), some (.iaload), some (.invokevirtual 99), none, none, some (.if_icmp .eq (124)), none, none, some (.iconst 0), some (.ireturn), some (.aload_n 1), some (.aload_n 0), some (.iload 4), none, some (.iconst 1), some (.iadd), some (.iaload), some (.aload_n 0), some (.iload 4), none, some (.iconst 2), some (.iadd), some (.iaload), some (.invokevirtual 100), none, none, some (.aload_n 2), some (.aload_n 0), some (.iload 4), none, some (.iconst 1), some (.iadd), some (.iaload), some (.aload_n 0), some (.iload 4), none, some (.iconst 2), some (.iadd), some (.iaload), some (.invokevirtual 103), none, none, some (.if_icmp .eq (87)), none, none, some (.iconst 0), some (.ireturn), some (.aload_n 1), some (.aload_n 0), some (.iload 4), none, some (.iconst 1), some (.iadd), some (.iaload), some (.aload_n 3), some (.invokestatic 104), none, none, some (.istore 5), none, some (.aload_n 2), some (.aload_n 0), some (.iload 4), none, some (.iconst 1), some (.iadd), some (.iaload), some (.invokevirtual 107), none, none, some (.istore 6), none, some (.aload_n 2), some (.invokevirtual 62), none, none, some (.iload 5), none, some (.if_icmp .eq (5)), none, none, some (.iconst 0), some (.ireturn), some (.iload 5), none, some (.ifCond .ne (15)), none, none, some (.aload_n 3), some (.iconst 0), some (.laload), some (.iload 6), none, some (.i2l), some (.lcmp), some (.ifCond .eq (5)), none, none, some (.iconst 0), some (.ireturn), some (.goto (29)), none, none, some (.aload_n 1), some (.invokevirtual 108), none, none, some (.aload_n 2), some (.invokevirtual 111), none, none, some (.if_icmp .eq (18)), none, none, some (.iconst 0), some (.ireturn), some (.aload_n 1), some (.invokevirtual 112), none, none, some (.aload_n 2), some (.invokevirtual 115), none, none, some (.if_icmp .eq (5)), none, none, some (.iconst 0), some (.ireturn), some (.iinc 4 (5)), none, none, some (.goto (-743)), none, none, some (.iconst 1), some (.ireturn)]
def zp_p0 : List (Nat × zi_T × List Nat) := [(8, (4, 0, 6, .null), [69, 70, 54]), (42, (2, 8, 0, .null), [71, 54, 73, 72]), (43, (4, 5, 29, .null), [645, 646, 60]), (45, (2, 76, 0, .null), [647, 60, 649, 648]), (46, (1, 9, 4, .ref 0), [242, 54, 245, 243, 244]), (50, (1, 87, 4, .ref 5), [748, 60, 751, 749, 750]), (51, (1, 10, 2, .ref 0), [258, 54, 261, 259, 260]), (55, (1, 88, 2, .ref 5), [755, 60, 758, 756, 757]), (56, (3, 1, 2, .null), [381, 53, 383, 382]), (61, (1, 91, 1, .ref 5), [763, 60, 766, 764, 765]), (62, (1, 77, 0, .ref 5), [744, 60, 747, 745, 746]), (65, (1, 12, 0, .ref 0), [262, 54, 252, 250, 251]), (68, (1, 89, 0, .ref 5), [759, 60, 762, 760, 761]), (69, (3, 2, 4, .null), [466, 53, 468, 467]), (72, (1, 93, 2, .ref 5), [779, 60, 782, 780, 781]), (73, (3, 3, 5, .null), [500, 53, 502, 501]), (76, (1, 107, 3, .ref 5), [791, 60, 794, 792, 793]), (77, (3, 4, 4, .null), [529, 53, 531, 530]), (80, (1, 110, 2, .ref 5), [866, 60, 869, 867, 868]), (81, (3, 5, 2, .null), [539, 53, 541, 540]), (84, (1, 113, 0, .ref 5), [878, 60, 881, 879, 880]), (85, (3, 6, 2, .null), [560, 53, 562, 561]), (87, (1, 114, 0, .ref 5), [890, 60, 893, 891, 892]), (88, (1, 18, 0, .ref 0), [263, 54, 266, 264, 265]), (91, (1, 115, 0, .ref 5), [894, 60, 897, 895, 896]), (92, (1, 19, 2, .ref 0), [267, 54, 270, 268, 269]), (95, (1, 116, 2, .ref 5), [898, 60, 901, 899, 900]), (96, (1, 20, 1, .ref 0), [295, 54, 298, 296, 297]), (99, (1, 117, 1, .ref 5), [902, 60, 905, 903, 904]), (100, (1, 21, 2, .ref 0), [299, 54, 302, 300, 301]), (103, (1, 118, 2, .ref 5), [906, 60, 909, 907, 908]), (104, (3, 7, 3, .null), [588, 53, 590, 589]), (107, (1, 131, 1, .ref 5), [910, 60, 913, 911, 912]), (108, (1, 23, 0, .ref 0), [373, 54, 376, 374, 375]), (111, (1, 132, 0, .ref 5), [961, 60, 964, 962, 963]), (112, (1, 24, 0, .ref 0), [377, 54, 380, 378, 379]), (115, (1, 133, 0, .ref 5), [965, 60, 968, 966, 967])]
/-- 1: PatienceTableLaw.deal(LPatienceTable;I)I -/
def zp_l1 : List (Option Jvm.ClassFile.Instr) := [some (.aload_n 0), some (.iload_n 1), some (.invokevirtual 7), none, none, some (.goto (6)), none, none, some (.astore_n 2), some (.iconst 1), some (.ireturn), some (.iconst 0), some (.ireturn)]
def zp_p1 : List (Nat × zi_T × List Nat) := [(7, (1, 11, 1, .ref 0), [385, 54, 388, 386, 387])]
/-- 2: PatienceTableLaw.lay(LPatienceTable;II[J)I -/
def zp_l2 : List (Option Jvm.ClassFile.Instr) := [some (.aload_n 3), some (.iconst 0), some (.aload_n 0), some (.iload_n 1), some (.iload_n 2), some (.invokevirtual 15), none, none, some (.i2l), some (.lastore), some (.goto (11)), none, none, some (.astore 4), none, some (.iconst 1), some (.ireturn), some (.astore 4), none, some (.iconst 2), some (.ireturn), some (.iconst 0), some (.ireturn)]
def zp_p2 : List (Nat × zi_T × List Nat) := [(15, (1, 13, 2, .ref 0), [470, 54, 473, 471, 472])]
/-- 3: PatienceTableLaw.move(LPatienceTable;III[J)I -/
def zp_l3 : List (Option Jvm.ClassFile.Instr) := [some (.aload 4), none, some (.iconst 0), some (.aload_n 0), some (.iload_n 1), some (.iload_n 2), some (.iload_n 3), some (.invokevirtual 21), none, none, some (.i2l), some (.lastore), some (.goto (11)), none, none, some (.astore 5), none, some (.iconst 1), some (.ireturn), some (.astore 5), none, some (.iconst 2), some (.ireturn), some (.iconst 0), some (.ireturn)]
def zp_p3 : List (Nat × zi_T × List Nat) := [(21, (1, 14, 3, .ref 0), [503, 54, 506, 504, 505])]
/-- 4: PatienceTableLaw.play(LPatienceTable;CC[J)I -/
def zp_l4 : List (Option Jvm.ClassFile.Instr) := [some (.aload_n 3), some (.iconst 0), some (.aload_n 0), some (.iload_n 1), some (.iload_n 2), some (.invokevirtual 25), none, none, some (.i2l), some (.lastore), some (.goto (11)), none, none, some (.astore 4), none, some (.iconst 1), some (.ireturn), some (.astore 4), none, some (.iconst 2), some (.ireturn), some (.iconst 0), some (.ireturn)]
def zp_p4 : List (Nat × zi_T × List Nat) := [(25, (1, 15, 2, .ref 0), [532, 54, 535, 533, 534])]
/-- 5: PatienceTableLaw.sendHome(LPatienceTable;[J)I -/
def zp_l5 : List (Option Jvm.ClassFile.Instr) := [some (.aload_n 1), some (.iconst 0), some (.aload_n 0), some (.invokevirtual 29), none, none, some (.i2l), some (.lastore), some (.goto (6)), none, none, some (.astore_n 2), some (.iconst 1), some (.ireturn), some (.iconst 0), some (.ireturn)]
def zp_p5 : List (Nat × zi_T × List Nat) := [(29, (1, 16, 0, .ref 0), [542, 54, 545, 543, 544])]
/-- 6: PatienceTableLaw.undo(LPatienceTable;[J)I -/
def zp_l6 : List (Option Jvm.ClassFile.Instr) := [some (.aload_n 1), some (.iconst 0), some (.aload_n 0), some (.invokevirtual 33), none, none, some (.i2l), some (.lastore), some (.goto (6)), none, none, some (.astore_n 2), some (.iconst 1), some (.ireturn), some (.iconst 0), some (.ireturn)]
def zp_p6 : List (Nat × zi_T × List Nat) := [(33, (1, 17, 0, .ref 0), [564, 54, 567, 565, 566])]
/-- 7: PatienceTableLaw.look(LPatienceTable;I[J)I -/
def zp_l7 : List (Option Jvm.ClassFile.Instr) := [some (.aload_n 2), some (.iconst 0), some (.aload_n 0), some (.iload_n 1), some (.invokevirtual 38), none, none, some (.i2l), some (.lastore), some (.goto (9)), none, none, some (.astore_n 3), some (.iconst 1), some (.ireturn), some (.astore_n 3), some (.iconst 2), some (.ireturn), some (.iconst 0), some (.ireturn)]
def zp_p7 : List (Nat × zi_T × List Nat) := [(38, (1, 22, 1, .ref 0), [591, 54, 594, 592, 593])]
/-- 8: PatienceTable.<init>()V -/
def zp_l8 : List (Option Jvm.ClassFile.Instr) := [some (.aload_n 0), some (.invokespecial 1), none, none, some (.aload_n 0), some (.new 7), none, none, some (.dup), some (.invokespecial 9), none, none, some (.putfield 10), none, none, some (.aload_n 0), some (.new 16), none, none, some (.dup), some (.aload_n 0), some (.getfield 10), none, none, some (.invokespecial 18), none, none, some (.putfield 21), none, none, some (.aload_n 0), some (.new 25), none, none, some (.dup), some (.invokespecial 27), none, none, some (.putfield 28), none, none, some (.aload_n 0), some (.new 32), none, none, some (.dup), some (.aload_n 0), some (.getfield 10), none, none, some (.invokespecial 34), none, none, some (.putfield 35), none, none, some (.aload_n 0), some (.bipush (52)), none, some (.newarray .int), none, some (.putfield 39), none, none, some (.aload_n 0), some (.iconst (-1)), some (.putfield 43), none, none, some (.return_)]
def zp_p8 : List (Nat × zi_T × List Nat) := [(1, (7, 0, 0, .null), [74, 75, 76]), (7, (4, 1, 6, .null), [77, 78, 55]), (9, (2, 28, 0, .null), [79, 55, 81, 80]), (10, (8, 0, 0, .null), [223]), (16, (4, 2, 6, .null), [113, 114, 56]), (18, (2, 39, 1, .null), [115, 56, 117, 116]), (21, (8, 0, 1, .null), [224]), (25, (4, 3, 6, .null), [151, 152, 58]), (27, (2, 63, 0, .null), [153, 58, 155, 154]), (28, (8, 0, 2, .null), [225]), (32, (4, 4, 10, .null), [181, 182, 59]), (34, (2, 67, 1, .null), [183, 59, 185, 184]), (35, (8, 0, 3, .null), [226]), (39, (8, 0, 4, .null), [227]), (43, (0, 0, 5, .null), [228])]
/-- 9: PatienceTable.rules(IIII)Z -/
def zp_l9 : List (Option Jvm.ClassFile.Instr) := [some (.iload_n 1), some (.iconst 2), some (.bipush (8)), none, some (.invokestatic 47), none, none, some (.ifCond .eq (35)), none, none, some (.iload_n 2), some (.iconst 0), some (.iconst 4), some (.invokestatic 47), none, none, some (.ifCond .eq (26)), none, none, some (.iload_n 3), some (.iconst 0), some (.iconst 2), some (.invokestatic 47), none, none, some (.ifCond .eq (17)), none, none, some (.iload 4), none, some (.iconst 0), some (.iconst 2), some (.invokestatic 47), none, none, some (.ifCond .eq (7)), none, none, some (.iconst 1), some (.goto (4)), none, none, some (.iconst 0), some (.istore 5), none, some (.iload 5), none, some (.ifCond .ne (5)), none, none, some (.iconst 0), some (.ireturn), some (.aload_n 0), some (.getfield 10), none, none, some (.iload_n 1), some (.putfield 51), none, none, some (.aload_n 0), some (.getfield 10), none, none, some (.iload_n 2), some (.putfield 54), none, none, some (.aload_n 0), some (.getfield 10), none, none, some (.iload_n 3), some (.putfield 57), none, none, some (.aload_n 0), some (.getfield 10), none, none, some (.iload 4), none, some (.putfield 60), none, none, some (.aload_n 0), some (.invokevirtual 63), none, none, some (.iconst 1), some (.ireturn)]
def zp_p9 : List (Nat × zi_T × List Nat) := [(10, (9, 0, 0, .null), [223]), (47, (3, 25, 3, .null), [246, 54, 248, 247]), (51, (0, 1, 0, .null), [84]), (54, (0, 1, 1, .null), [87]), (57, (0, 1, 2, .null), [90]), (60, (0, 1, 3, .null), [93]), (63, (1, 12, 0, .ref 0), [249, 54, 252, 250, 251])]
/-- 10: PatienceTable.cards(II)Z -/
def zp_l10 : List (Option Jvm.ClassFile.Instr) := [some (.iload_n 1), some (.iconst 1), some (.iconst 4), some (.invokestatic 47), none, none, some (.ifCond .eq (13)), none, none, some (.iload_n 2), some (.iconst 1), some (.bipush (13)), none, some (.invokestatic 47), none, none, some (.ifCond .ne (5)), none, none, some (.iconst 0), some (.ireturn), some (.aload_n 0), some (.getfield 10), none, none, some (.iload_n 1), some (.putfield 66), none, none, some (.aload_n 0), some (.getfield 10), none, none, some (.iload_n 2), some (.putfield 69), none, none, some (.aload_n 0), some (.invokevirtual 63), none, none, some (.iconst 1), some (.ireturn)]
def zp_p10 : List (Nat × zi_T × List Nat) := [(10, (9, 0, 0, .null), [223]), (47, (3, 25, 3, .null), [246, 54, 248, 247]), (63, (1, 12, 0, .ref 0), [249, 54, 252, 250, 251]), (66, (0, 1, 4, .null), [96]), (69, (0, 1, 5, .null), [99])]
/-- 11: PatienceTable.deal(I)V -/
def zp_l11 : List (Option Jvm.ClassFile.Instr) := [some (.iload_n 1), some (.iconst 0), some (.sipush (32000)), none, none, some (.invokestatic 47), none, none, some (.ifCond .ne (13)), none, none, some (.new 72), none, none, some (.dup), some (.ldc 74), none, some (.invokespecial 76), none, none, some (.athrow), some (.aload_n 0), some (.invokevirtual 63), none, none, some (.aload_n 0), some (.getfield 10), none, none, some (.invokevirtual 79), none, none, some (.istore_n 2), some (.iconst 0), some (.istore_n 3), some (.iload_n 3), some (.iload_n 2), some (.if_icmp .ge (16)), none, none, some (.aload_n 0), some (.getfield 39), none, none, some (.iload_n 3), some (.iload_n 3), some (.iastore), some (.iinc 3 (1)), none, none, some (.goto (-15)), none, none, some (.iload_n 1), some (.istore_n 3), some (.iconst 0), some (.istore 4), none, some (.iload 4), none, some (.iload_n 2), some (.if_icmp .ge (75)), none, none, some (.iload_n 2), some (.iload 4), none, some (.isub), some (.istore 5), none, some (.ldc 83), none, some (.iload_n 3), some (.imul), some (.ldc 84), none, some (.iadd), some (.ldc 85), none, some (.iand), some (.istore_n 3), some (.iload_n 3), some (.ldc 86), none, some (.idiv), some (.iload 5), none, some (.irem), some (.istore 6), none, some (.aload_n 0), some (.getfield 21), none, none, some (.iload 4), none, some (.aload_n 0), some (.getfield 10), none, none, some (.getfield 51), none, none, some (.irem), some (.aload_n 0), some (.getfield 39), none, none, some (.iload 6), none, some (.iaload), some (.invokevirtual 87), none, none, some (.aload_n 0), some (.getfield 39), none, none, some (.iload 6), none, some (.aload_n 0), some (.getfield 39), none, none, some (.iload 5), none, some (.iconst 1), some (.isub), some (.iaload), some (.iastore), some (.iinc 4 (1)), none, none, some (.goto (-75)), none, none, some (.return_)]
def zp_p11 : List (Nat × zi_T × List Nat) := [(10, (9, 0, 0, .null), [223]), (21, (9, 0, 1, .null), [224]), (39, (9, 0, 4, .null), [227]), (47, (3, 25, 3, .null), [246, 54, 248, 247]), (51, (0, 1, 0, .null), [84]), (63, (1, 12, 0, .ref 0), [249, 54, 252, 250, 251]), (79, (1, 32, 0, .ref 1), [457, 55, 311, 309, 310]), (83, (6, 0, 0, .int (214013)), [458]), (84, (6, 0, 0, .int (2531011)), [459]), (85, (6, 0, 0, .int (2147483647)), [460]), (86, (6, 0, 0, .int (65536)), [461]), (87, (1, 45, 2, .ref 2), [462, 56, 465, 463, 464])]
/-- 12: PatienceTable.clear()V -/
def zp_l12 : List (Option Jvm.ClassFile.Instr) := [some (.aload_n 0), some (.getfield 21), none, none, some (.invokevirtual 91), none, none, some (.aload_n 0), some (.getfield 28), none, none, some (.invokevirtual 94), none, none, some (.aload_n 0), some (.iconst (-1)), some (.putfield 43), none, none, some (.return_)]
def zp_p12 : List (Nat × zi_T × List Nat) := [(21, (9, 0, 1, .null), [224]), (28, (9, 0, 2, .null), [225]), (43, (0, 0, 5, .null), [228]), (91, (1, 40, 0, .ref 2), [253, 56, 122, 120, 121]), (94, (1, 64, 0, .ref 3), [254, 58, 257, 255, 256])]
/-- 13: PatienceTable.lay(II)I -/
def zp_l13 : List (Option Jvm.ClassFile.Instr) := [some (.aload_n 0), some (.getfield 10), none, none, some (.iload_n 1), some (.invokevirtual 97), none, none, some (.ifCond .eq (14)), none, none, some (.aload_n 0), some (.getfield 10), none, none, some (.iload_n 2), some (.invokevirtual 101), none, none, some (.ifCond .ne (13)), none, none, some (.new 72), none, none, some (.dup), some (.ldc 104), none, some (.invokespecial 76), none, none, some (.athrow), some (.aload_n 0), some (.getfield 21), none, none, some (.iload_n 2), some (.invokevirtual 106), none, none, some (.ifCond .eq (13)), none, none, some (.new 109), none, none, some (.dup), some (.ldc 111), none, some (.invokespecial 113), none, none, some (.athrow), some (.aload_n 0), some (.getfield 21), none, none, some (.iload_n 1), some (.iload_n 2), some (.invokevirtual 87), none, none, some (.aload_n 0), some (.iconst (-1)), some (.putfield 43), none, none, some (.aload_n 0), some (.getfield 21), none, none, some (.getfield 114), none, none, some (.ireturn)]
def zp_p13 : List (Nat × zi_T × List Nat) := [(10, (9, 0, 0, .null), [223]), (21, (9, 0, 1, .null), [224]), (43, (0, 0, 5, .null), [228]), (87, (1, 45, 2, .ref 2), [462, 56, 465, 463, 464]), (97, (1, 29, 1, .ref 1), [303, 55, 278, 276, 277]), (101, (1, 33, 1, .ref 1), [474, 55, 477, 475, 476]), (106, (1, 42, 1, .ref 2), [480, 56, 483, 481, 482]), (114, (0, 2, 4, .null), [133])]
/-- 14: PatienceTable.move(III)I -/
def zp_l14 : List (Option Jvm.ClassFile.Instr) := [some (.aload_n 0), some (.getfield 10), none, none, some (.iload_n 1), some (.invokevirtual 117), none, none, some (.ifCond .eq (25)), none, none, some (.aload_n 0), some (.getfield 10), none, none, some (.iload_n 2), some (.invokevirtual 117), none, none, some (.ifCond .eq (14)), none, none, some (.iload_n 1), some (.bipush (12)), none, some (.if_icmp .eq (8)), none, none, some (.iload_n 3), some (.iconst 1), some (.if_icmp .ge (13)), none, none, some (.new 72), none, none, some (.dup), some (.ldc 120), none, some (.invokespecial 76), none, none, some (.athrow), some (.aload_n 0), some (.getfield 21), none, none, some (.invokevirtual 122), none, none, some (.ifCond .eq (16)), none, none, some (.aload_n 0), some (.getfield 21), none, none, some (.iload_n 1), some (.iload_n 2), some (.iload_n 3), some (.invokevirtual 126), none, none, some (.ifCond .ne (13)), none, none, some (.new 109), none, none, some (.dup), some (.ldc 129), none, some (.invokespecial 113), none, none, some (.athrow), some (.aload_n 0), some (.iload_n 1), some (.iload_n 2), some (.iload_n 3), some (.invokevirtual 131), none, none, some (.aload_n 0), some (.getfield 21), none, none, some (.getfield 135), none, none, some (.ireturn)]
def zp_p14 : List (Nat × zi_T × List Nat) := [(10, (9, 0, 0, .null), [223]), (21, (9, 0, 1, .null), [224]), (117, (1, 31, 1, .ref 1), [271, 55, 274, 272, 273]), (122, (1, 43, 0, .ref 2), [304, 56, 307, 305, 306]), (126, (1, 49, 3, .ref 2), [508, 56, 339, 337, 338]), (131, (1, 27, 3, .ref 0), [510, 54, 513, 512, 7]), (135, (0, 2, 5, .null), [136])]
/-- 15: PatienceTable.play(CC)I -/
def zp_l15 : List (Option Jvm.ClassFile.Instr) := [some (.iload_n 1), some (.invokestatic 138), none, none, some (.istore_n 3), some (.iload_n 2), some (.invokestatic 138), none, none, some (.istore 4), none, some (.aload_n 0), some (.getfield 10), none, none, some (.iload_n 3), some (.invokevirtual 117), none, none, some (.ifCond .eq (21)), none, none, some (.aload_n 0), some (.getfield 10), none, none, some (.iload 4), none, some (.invokevirtual 117), none, none, some (.ifCond .eq (9)), none, none, some (.iload_n 3), some (.bipush (12)), none, some (.if_icmp .ne (13)), none, none, some (.new 72), none, none, some (.dup), some (.ldc 120), none, some (.invokespecial 76), none, none, some (.athrow), some (.aload_n 0), some (.getfield 10), none, none, some (.iload_n 3), some (.invokevirtual 97), none, none, some (.ifCond .eq (28)), none, none, some (.aload_n 0), some (.getfield 10), none, none, some (.iload 4), none, some (.invokevirtual 97), none, none, some (.ifCond .eq (16)), none, none, some (.aload_n 0), some (.getfield 21), none, none, some (.iload_n 3), some (.iload 4), none, some (.invokevirtual 142), none, none, some (.goto (4)), none, none, some (.iconst 1), some (.istore 5), none, some (.aload_n 0), some (.getfield 21), none, none, some (.invokevirtual 122), none, none, some (.ifCond .eq (18)), none, none, some (.aload_n 0), some (.getfield 21), none, none, some (.iload_n 3), some (.iload 4), none, some (.iload 5), none, some (.invokevirtual 126), none, none, some (.ifCond .ne (13)), none, none, some (.new 109), none, none, some (.dup), some (.ldc 129), none, some (.invokespecial 113), none, none, some (.athrow), some (.aload_n 0), some (.iload_n 3), some (.iload 4), none, some (.iload 5), none, some (.invokevirtual 131), none, none, some (.iload 5), none, some (.ireturn)]
def zp_p15 : List (Nat × zi_T × List Nat) := [(10, (9, 0, 0, .null), [223]), (21, (9, 0, 1, .null), [224]), (97, (1, 29, 1, .ref 1), [303, 55, 278, 276, 277]), (117, (1, 31, 1, .ref 1), [271, 55, 274, 272, 273]), (122, (1, 43, 0, .ref 2), [304, 56, 307, 305, 306]), (126, (1, 49, 3, .ref 2), [508, 56, 339, 337, 338]), (131, (1, 27, 3, .ref 0), [510, 54, 513, 512, 7]), (138, (3, 26, 1, .null), [536, 54, 538, 537]), (142, (1, 56, 2, .ref 2), [312, 56, 315, 313, 314])]
/-- 16: PatienceTable.sendHome()I -/
def zp_l16 : List (Option Jvm.ClassFile.Instr) := [some (.aload_n 0), some (.getfield 21), none, none, some (.invokevirtual 122), none, none, some (.ifCond .ne (13)), none, none, some (.new 109), none, none, some (.dup), some (.ldc 146), none, some (.invokespecial 113), none, none, some (.athrow), some (.iconst 0), some (.istore_n 1), some (.iload_n 1), some (.bipush (52)), none, some (.if_icmp .ge (32)), none, none, some (.aload_n 0), some (.getfield 21), none, none, some (.invokevirtual 148), none, none, some (.istore_n 2), some (.iload_n 2), some (.iconst (-1)), some (.if_icmp .ne (5)), none, none, some (.iload_n 1), some (.ireturn), some (.aload_n 0), some (.iload_n 2), some (.bipush (12)), none, some (.iconst 1), some (.invokevirtual 131), none, none, some (.iinc 1 (1)), none, none, some (.goto (-32)), none, none, some (.bipush (52)), none, some (.ireturn)]
def zp_p16 : List (Nat × zi_T × List Nat) := [(21, (9, 0, 1, .null), [224]), (122, (1, 43, 0, .ref 2), [304, 56, 307, 305, 306]), (131, (1, 27, 3, .ref 0), [510, 54, 513, 512, 7]), (148, (1, 58, 0, .ref 2), [547, 56, 550, 548, 549])]
/-- 17: PatienceTable.undo()I -/
def zp_l17 : List (Option Jvm.ClassFile.Instr) := [some (.aload_n 0), some (.getfield 28), none, none, some (.getfield 151), none, none, some (.ifCond .ne (13)), none, none, some (.new 154), none, none, some (.dup), some (.ldc 156), none, some (.invokespecial 158), none, none, some (.athrow), some (.aload_n 0), some (.getfield 28), none, none, some (.invokevirtual 159), none, none, some (.istore_n 1), some (.aload_n 0), some (.getfield 21), none, none, some (.aload_n 0), some (.getfield 28), none, none, some (.getfield 162), none, none, some (.iload_n 1), some (.iaload), some (.aload_n 0), some (.getfield 28), none, none, some (.getfield 165), none, none, some (.iload_n 1), some (.iaload), some (.aload_n 0), some (.getfield 28), none, none, some (.getfield 168), none, none, some (.iload_n 1), some (.iaload), some (.invokevirtual 171), none, none, some (.aload_n 0), some (.iconst (-1)), some (.putfield 43), none, none, some (.aload_n 0), some (.getfield 28), none, none, some (.getfield 174), none, none, some (.iload_n 1), some (.iaload), some (.ireturn)]
def zp_p17 : List (Nat × zi_T × List Nat) := [(21, (9, 0, 1, .null), [224]), (28, (9, 0, 2, .null), [225]), (43, (0, 0, 5, .null), [228]), (151, (0, 3, 5, .null), [167]), (159, (1, 66, 0, .ref 3), [584, 58, 587, 585, 586]), (162, (9, 3, 0, .null), [158]), (165, (9, 3, 2, .null), [162]), (168, (9, 3, 1, .null), [160]), (171, (1, 62, 3, .ref 2), [514, 56, 517, 515, 516]), (174, (9, 3, 3, .null), [164])]
/-- 18: PatienceTable.log()I -/
def zp_l18 : List (Option Jvm.ClassFile.Instr) := [some (.aload_n 0), some (.getfield 28), none, none, some (.getfield 151), none, none, some (.ireturn)]
def zp_p18 : List (Nat × zi_T × List Nat) := [(28, (9, 0, 2, .null), [225]), (151, (0, 3, 5, .null), [167])]
/-- 19: PatienceTable.card(II)I -/
def zp_l19 : List (Option Jvm.ClassFile.Instr) := [some (.aload_n 0), some (.getfield 10), none, none, some (.iload_n 1), some (.invokevirtual 117), none, none, some (.ifCond .eq (7)), none, none, some (.iload_n 2), some (.ifCond .ge (5)), none, none, some (.iconst (-1)), some (.ireturn), some (.iload_n 1), some (.bipush (12)), none, some (.if_icmp .ne (14)), none, none, some (.aload_n 0), some (.getfield 21), none, none, some (.iload_n 2), some (.invokevirtual 177), none, none, some (.goto (23)), none, none, some (.aload_n 0), some (.getfield 21), none, none, some (.iload_n 1), some (.aload_n 0), some (.getfield 21), none, none, some (.iload_n 1), some (.invokevirtual 181), none, none, some (.iconst 1), some (.isub), some (.iload_n 2), some (.isub), some (.invokevirtual 184), none, none, some (.ireturn)]
def zp_p19 : List (Nat × zi_T × List Nat) := [(10, (9, 0, 0, .null), [223]), (21, (9, 0, 1, .null), [224]), (117, (1, 31, 1, .ref 1), [271, 55, 274, 272, 273]), (177, (1, 48, 1, .ref 2), [283, 56, 286, 284, 285]), (181, (1, 46, 1, .ref 2), [287, 56, 290, 288, 289]), (184, (1, 47, 2, .ref 2), [291, 56, 294, 292, 293])]
/-- 20: PatienceTable.size(I)I -/
def zp_l20 : List (Option Jvm.ClassFile.Instr) := [some (.aload_n 0), some (.getfield 10), none, none, some (.iload_n 1), some (.invokevirtual 117), none, none, some (.ifCond .eq (14)), none, none, some (.aload_n 0), some (.getfield 21), none, none, some (.iload_n 1), some (.invokevirtual 181), none, none, some (.goto (4)), none, none, some (.iconst (-1)), some (.ireturn)]
def zp_p20 : List (Nat × zi_T × List Nat) := [(10, (9, 0, 0, .null), [223]), (21, (9, 0, 1, .null), [224]), (117, (1, 31, 1, .ref 1), [271, 55, 274, 272, 273]), (181, (1, 46, 1, .ref 2), [287, 56, 290, 288, 289])]
/-- 21: PatienceTable.most(II)I -/
def zp_l21 : List (Option Jvm.ClassFile.Instr) := [some (.aload_n 0), some (.getfield 10), none, none, some (.iload_n 1), some (.invokevirtual 97), none, none, some (.ifCond .eq (24)), none, none, some (.aload_n 0), some (.getfield 10), none, none, some (.iload_n 2), some (.invokevirtual 97), none, none, some (.ifCond .eq (13)), none, none, some (.aload_n 0), some (.getfield 21), none, none, some (.invokevirtual 122), none, none, some (.ifCond .ne (5)), none, none, some (.iconst 0), some (.ireturn), some (.aload_n 0), some (.getfield 21), none, none, some (.iload_n 1), some (.iload_n 2), some (.invokevirtual 142), none, none, some (.ireturn)]
def zp_p21 : List (Nat × zi_T × List Nat) := [(10, (9, 0, 0, .null), [223]), (21, (9, 0, 1, .null), [224]), (97, (1, 29, 1, .ref 1), [303, 55, 278, 276, 277]), (122, (1, 43, 0, .ref 2), [304, 56, 307, 305, 306]), (142, (1, 56, 2, .ref 2), [312, 56, 315, 313, 314])]
/-- 22: PatienceTable.look(I)I -/
def zp_l22 : List (Option Jvm.ClassFile.Instr) := [some (.iload_n 1), some (.iconst 1), some (.sipush (200)), none, none, some (.invokestatic 47), none, none, some (.ifCond .ne (13)), none, none, some (.new 72), none, none, some (.dup), some (.ldc 187), none, some (.invokespecial 76), none, none, some (.athrow), some (.aload_n 0), some (.getfield 21), none, none, some (.invokevirtual 122), none, none, some (.ifCond .ne (13)), none, none, some (.new 109), none, none, some (.dup), some (.ldc 146), none, some (.invokespecial 113), none, none, some (.athrow), some (.aload_n 0), some (.getfield 35), none, none, some (.aload_n 0), some (.getfield 21), none, none, some (.iload_n 1), some (.invokevirtual 189), none, none, some (.istore_n 2), some (.aload_n 0), some (.aload_n 0), some (.getfield 35), none, none, some (.getfield 193), none, none, some (.putfield 43), none, none, some (.iload_n 2), some (.ireturn)]
def zp_p22 : List (Nat × zi_T × List Nat) := [(21, (9, 0, 1, .null), [224]), (35, (9, 0, 3, .null), [226]), (43, (0, 0, 5, .null), [228]), (47, (3, 25, 3, .null), [246, 54, 248, 247]), (122, (1, 43, 0, .ref 2), [304, 56, 307, 305, 306]), (189, (1, 68, 2, .ref 4), [596, 59, 599, 597, 598]), (193, (0, 4, 8, .null), [199])]
/-- 23: PatienceTable.hint()I -/
def zp_l23 : List (Option Jvm.ClassFile.Instr) := [some (.aload_n 0), some (.getfield 43), none, none, some (.ireturn)]
def zp_p23 : List (Nat × zi_T × List Nat) := [(43, (0, 0, 5, .null), [228])]
/-- 24: PatienceTable.positions()I -/
def zp_l24 : List (Option Jvm.ClassFile.Instr) := [some (.aload_n 0), some (.getfield 35), none, none, some (.getfield 196), none, none, some (.ireturn)]
def zp_p24 : List (Nat × zi_T × List Nat) := [(35, (9, 0, 3, .null), [226]), (196, (0, 4, 9, .null), [201])]
/-- 25: PatienceTable.isWithin(III)Z -/
def zp_l25 : List (Option Jvm.ClassFile.Instr) := [some (.iload_n 0), some (.iload_n 1), some (.if_icmp .lt (12)), none, none, some (.iload_n 0), some (.iload_n 2), some (.if_icmp .gt (7)), none, none, some (.iconst 1), some (.goto (4)), none, none, some (.iconst 0), some (.ireturn)]
def zp_p25 : List (Nat × zi_T × List Nat) := []
/-- 26: PatienceTable.placeTold(C)I -/
def zp_l26 : List (Option Jvm.ClassFile.Instr) := [some (.iload_n 0), some (.bipush (49)), none, some (.if_icmp .lt (14)), none, none, some (.iload_n 0), some (.bipush (56)), none, some (.if_icmp .gt (8)), none, none, some (.iload_n 0), some (.bipush (49)), none, some (.isub), some (.ireturn), some (.iload_n 0), some (.bipush (97)), none, some (.if_icmp .lt (17)), none, none, some (.iload_n 0), some (.bipush (100)), none, some (.if_icmp .gt (11)), none, none, some (.bipush (8)), none, some (.iload_n 0), some (.iadd), some (.bipush (97)), none, some (.isub), some (.ireturn), some (.iload_n 0), some (.bipush (104)), none, some (.if_icmp .ne (8)), none, none, some (.bipush (12)), none, some (.goto (4)), none, none, some (.iconst (-1)), some (.ireturn)]
def zp_p26 : List (Nat × zi_T × List Nat) := []
/-- 27: PatienceTable.bring(III)V -/
def zp_l27 : List (Option Jvm.ClassFile.Instr) := [some (.aload_n 0), some (.getfield 21), none, none, some (.iload_n 1), some (.iload_n 3), some (.iconst 1), some (.isub), some (.invokevirtual 184), none, none, some (.istore 4), none, some (.aload_n 0), some (.getfield 21), none, none, some (.iload 4), none, some (.iload_n 1), some (.iload_n 2), some (.invokevirtual 171), none, none, some (.aload_n 0), some (.getfield 28), none, none, some (.iload 4), none, some (.iload_n 1), some (.iload_n 2), some (.iload_n 3), some (.invokevirtual 199), none, none, some (.aload_n 0), some (.iconst (-1)), some (.putfield 43), none, none, some (.return_)]
def zp_p27 : List (Nat × zi_T × List Nat) := [(21, (9, 0, 1, .null), [224]), (28, (9, 0, 2, .null), [225]), (43, (0, 0, 5, .null), [228]), (171, (1, 62, 3, .ref 2), [514, 56, 517, 515, 516]), (184, (1, 47, 2, .ref 2), [291, 56, 294, 292, 293]), (199, (1, 65, 4, .ref 3), [522, 58, 525, 523, 524])]
/-- 28: PatienceTable$Game.<init>()V -/
def zp_l28 : List (Option Jvm.ClassFile.Instr) := [some (.aload_n 0), some (.invokespecial 3), none, none, some (.aload_n 0), some (.bipush (8)), none, some (.putfield 9), none, none, some (.aload_n 0), some (.iconst 4), some (.putfield 15), none, none, some (.aload_n 0), some (.iconst 0), some (.putfield 18), none, none, some (.aload_n 0), some (.iconst 0), some (.putfield 21), none, none, some (.aload_n 0), some (.iconst 4), some (.putfield 24), none, none, some (.aload_n 0), some (.bipush (13)), none, some (.putfield 27), none, none, some (.return_)]
def zp_p28 : List (Nat × zi_T × List Nat) := [(3, (7, 0, 0, .null), [82, 75, 76]), (9, (0, 1, 0, .null), [83]), (15, (0, 1, 1, .null), [86]), (18, (0, 1, 2, .null), [89]), (21, (0, 1, 3, .null), [92]), (24, (0, 1, 4, .null), [95]), (27, (0, 1, 5, .null), [98])]
/-- 29: PatienceTable$Game.isColumn(I)Z -/
def zp_l29 : List (Option Jvm.ClassFile.Instr) := [some (.iload_n 1), some (.ifCond .lt (15)), none, none, some (.iload_n 1), some (.aload_n 0), some (.getfield 9), none, none, some (.if_icmp .ge (7)), none, none, some (.iconst 1), some (.goto (4)), none, none, some (.iconst 0), some (.ireturn)]
def zp_p29 : List (Nat × zi_T × List Nat) := [(9, (0, 1, 0, .null), [83])]
/-- 30: PatienceTable$Game.isCell(I)Z -/
def zp_l30 : List (Option Jvm.ClassFile.Instr) := [some (.iload_n 1), some (.bipush (8)), none, some (.if_icmp .lt (18)), none, none, some (.iload_n 1), some (.bipush (8)), none, some (.aload_n 0), some (.getfield 15), none, none, some (.iadd), some (.if_icmp .ge (7)), none, none, some (.iconst 1), some (.goto (4)), none, none, some (.iconst 0), some (.ireturn)]
def zp_p30 : List (Nat × zi_T × List Nat) := [(15, (0, 1, 1, .null), [86])]
/-- 31: PatienceTable$Game.isPlace(I)Z -/
def zp_l31 : List (Option Jvm.ClassFile.Instr) := [some (.aload_n 0), some (.iload_n 1), some (.invokevirtual 30), none, none, some (.ifCond .ne (17)), none, none, some (.aload_n 0), some (.iload_n 1), some (.invokevirtual 34), none, none, some (.ifCond .ne (9)), none, none, some (.iload_n 1), some (.bipush (12)), none, some (.if_icmp .ne (7)), none, none, some (.iconst 1), some (.goto (4)), none, none, some (.iconst 0), some (.ireturn)]
def zp_p31 : List (Nat × zi_T × List Nat) := [(30, (1, 29, 1, .ref 1), [275, 55, 278, 276, 277]), (34, (1, 30, 1, .ref 1), [279, 55, 282, 280, 281])]
/-- 32: PatienceTable$Game.cardCount()I -/
def zp_l32 : List (Option Jvm.ClassFile.Instr) := [some (.aload_n 0), some (.getfield 24), none, none, some (.aload_n 0), some (.getfield 27), none, none, some (.imul), some (.ireturn)]
def zp_p32 : List (Nat × zi_T × List Nat) := [(24, (0, 1, 4, .null), [95]), (27, (0, 1, 5, .null), [98])]
/-- 33: PatienceTable$Game.isCard(I)Z -/
def zp_l33 : List (Option Jvm.ClassFile.Instr) := [some (.iload_n 1), some (.ifCond .lt (15)), none, none, some (.iload_n 1), some (.aload_n 0), some (.invokevirtual 37), none, none, some (.if_icmp .ge (7)), none, none, some (.iconst 1), some (.goto (4)), none, none, some (.iconst 0), some (.ireturn)]
def zp_p33 : List (Nat × zi_T × List Nat) := [(37, (1, 32, 0, .ref 1), [478, 55, 311, 309, 310])]
/-- 34: PatienceTable$Game.rankOf(I)I -/
def zp_l34 : List (Option Jvm.ClassFile.Instr) := [some (.iload_n 1), some (.aload_n 0), some (.getfield 24), none, none, some (.idiv), some (.iconst 1), some (.iadd), some (.ireturn)]
def zp_p34 : List (Nat × zi_T × List Nat) := [(24, (0, 1, 4, .null), [95])]
/-- 35: PatienceTable$Game.suitOf(I)I -/
def zp_l35 : List (Option Jvm.ClassFile.Instr) := [some (.iload_n 1), some (.aload_n 0), some (.getfield 24), none, none, some (.irem), some (.ireturn)]
def zp_p35 : List (Nat × zi_T × List Nat) := [(24, (0, 1, 4, .null), [95])]
/-- 36: PatienceTable$Game.isRed(I)Z -/
def zp_l36 : List (Option Jvm.ClassFile.Instr) := [some (.iload_n 1), some (.iconst 1), some (.if_icmp .eq (8)), none, none, some (.iload_n 1), some (.iconst 2), some (.if_icmp .ne (7)), none, none, some (.iconst 1), some (.goto (4)), none, none, some (.iconst 0), some (.ireturn)]
def zp_p36 : List (Nat × zi_T × List Nat) := []
/-- 37: PatienceTable$Game.fitsOn(II)Z -/
def zp_l37 : List (Option Jvm.ClassFile.Instr) := [some (.aload_n 0), some (.iload_n 1), some (.invokevirtual 41), none, none, some (.iconst 1), some (.iadd), some (.aload_n 0), some (.iload_n 2), some (.invokevirtual 41), none, none, some (.if_icmp .eq (5)), none, none, some (.iconst 0), some (.ireturn), some (.aload_n 0), some (.getfield 18), none, none, some (.ifCond .ne (30)), none, none, some (.aload_n 0), some (.aload_n 0), some (.iload_n 1), some (.invokevirtual 45), none, none, some (.invokevirtual 48), none, none, some (.aload_n 0), some (.aload_n 0), some (.iload_n 2), some (.invokevirtual 45), none, none, some (.invokevirtual 48), none, none, some (.if_icmp .eq (7)), none, none, some (.iconst 1), some (.goto (4)), none, none, some (.iconst 0), some (.ireturn), some (.aload_n 0), some (.getfield 18), none, none, some (.iconst 1), some (.if_icmp .ne (16)), none, none, some (.aload_n 0), some (.iload_n 1), some (.invokevirtual 45), none, none, some (.aload_n 0), some (.iload_n 2), some (.invokevirtual 45), none, none, some (.if_icmp .ne (7)), none, none, some (.iconst 1), some (.goto (4)), none, none, some (.iconst 0), some (.ireturn)]
def zp_p37 : List (Nat × zi_T × List Nat) := [(18, (0, 1, 2, .null), [89]), (41, (1, 34, 1, .ref 1), [324, 55, 327, 325, 326]), (45, (1, 35, 1, .ref 1), [328, 55, 331, 329, 330]), (48, (1, 36, 1, .ref 1), [332, 55, 335, 333, 334])]
/-- 38: PatienceTable$Game.fitsInEmpty(I)Z -/
def zp_l38 : List (Option Jvm.ClassFile.Instr) := [some (.aload_n 0), some (.getfield 21), none, none, some (.ifCond .eq (23)), none, none, some (.aload_n 0), some (.getfield 21), none, none, some (.iconst 1), some (.if_icmp .ne (19)), none, none, some (.aload_n 0), some (.iload_n 1), some (.invokevirtual 41), none, none, some (.aload_n 0), some (.getfield 27), none, none, some (.if_icmp .ne (7)), none, none, some (.iconst 1), some (.goto (4)), none, none, some (.iconst 0), some (.ireturn)]
def zp_p38 : List (Nat × zi_T × List Nat) := [(21, (0, 1, 3, .null), [92]), (27, (0, 1, 5, .null), [98]), (41, (1, 34, 1, .ref 1), [324, 55, 327, 325, 326])]
/-- 39: PatienceTable$Layout.<init>(LPatienceTable$Game;)V -/
def zp_l39 : List (Option Jvm.ClassFile.Instr) := [some (.aload_n 0), some (.invokespecial 3), none, none, some (.aload_n 0), some (.bipush (52)), none, some (.newarray .int), none, some (.putfield 9), none, none, some (.aload_n 0), some (.bipush (12)), none, some (.newarray .int), none, some (.putfield 15), none, none, some (.aload_n 0), some (.iconst 4), some (.newarray .int), none, some (.putfield 18), none, none, some (.aload_n 0), some (.aload_n 1), some (.putfield 21), none, none, some (.aload_n 0), some (.invokevirtual 25), none, none, some (.return_)]
def zp_p39 : List (Nat × zi_T × List Nat) := [(3, (7, 0, 0, .null), [118, 75, 76]), (9, (8, 2, 1, .null), [127]), (15, (8, 2, 2, .null), [129]), (18, (8, 2, 3, .null), [131]), (21, (8, 2, 0, .null), [126]), (25, (1, 40, 0, .ref 2), [119, 56, 122, 120, 121])]
/-- 40: PatienceTable$Layout.takeAllUp()V -/
def zp_l40 : List (Option Jvm.ClassFile.Instr) := [some (.aload_n 0), some (.getfield 9), none, none, some (.bipush (-4)), none, some (.invokestatic 28), none, none, some (.aload_n 0), some (.getfield 15), none, none, some (.iconst (-1)), some (.invokestatic 28), none, none, some (.aload_n 0), some (.getfield 18), none, none, some (.iconst 0), some (.invokestatic 28), none, none, some (.aload_n 0), some (.iconst 0), some (.putfield 34), none, none, some (.aload_n 0), some (.iconst 0), some (.putfield 38), none, none, some (.return_)]
def zp_p40 : List (Nat × zi_T × List Nat) := [(9, (9, 2, 1, .null), [127]), (15, (9, 2, 2, .null), [129]), (18, (9, 2, 3, .null), [131]), (28, (3, 134, 2, .null), [123, 57, 125, 124]), (34, (0, 2, 4, .null), [132]), (38, (0, 2, 5, .null), [134])]
/-- 41: PatienceTable$Layout.becomeLike(LPatienceTable$Layout;)V -/
def zp_l41 : List (Option Jvm.ClassFile.Instr) := [some (.aload_n 1), some (.getfield 9), none, none, some (.iconst 0), some (.aload_n 0), some (.getfield 9), none, none, some (.iconst 0), some (.bipush (52)), none, some (.invokestatic 41), none, none, some (.aload_n 1), some (.getfield 15), none, none, some (.iconst 0), some (.aload_n 0), some (.getfield 15), none, none, some (.iconst 0), some (.bipush (12)), none, some (.invokestatic 41), none, none, some (.aload_n 1), some (.getfield 18), none, none, some (.iconst 0), some (.aload_n 0), some (.getfield 18), none, none, some (.iconst 0), some (.iconst 4), some (.invokestatic 41), none, none, some (.aload_n 0), some (.aload_n 1), some (.getfield 34), none, none, some (.putfield 34), none, none, some (.aload_n 0), some (.aload_n 1), some (.getfield 38), none, none, some (.putfield 38), none, none, some (.return_)]
def zp_p41 : List (Nat × zi_T × List Nat) := [(9, (9, 2, 1, .null), [127]), (15, (9, 2, 2, .null), [129]), (18, (9, 2, 3, .null), [131]), (34, (0, 2, 4, .null), [132]), (38, (0, 2, 5, .null), [134]), (41, (7, 2, 0, .null), [609, 611, 610, 68])]
/-- 42: PatienceTable$Layout.isLaid(I)Z -/
def zp_l42 : List (Option Jvm.ClassFile.Instr) := [some (.aload_n 0), some (.getfield 9), none, none, some (.iload_n 1), some (.iaload), some (.bipush (-4)), none, some (.if_icmp .eq (7)), none, none, some (.iconst 1), some (.goto (4)), none, none, some (.iconst 0), some (.ireturn)]
def zp_p42 : List (Nat × zi_T × List Nat) := [(9, (9, 2, 1, .null), [127])]
/-- 43: PatienceTable$Layout.isAllLaid()Z -/
def zp_l43 : List (Option Jvm.ClassFile.Instr) := [some (.aload_n 0), some (.getfield 34), none, none, some (.aload_n 0), some (.getfield 21), none, none, some (.invokevirtual 47), none, none, some (.if_icmp .ne (7)), none, none, some (.iconst 1), some (.goto (4)), none, none, some (.iconst 0), some (.ireturn)]
def zp_p43 : List (Nat × zi_T × List Nat) := [(21, (9, 2, 0, .null), [126]), (34, (0, 2, 4, .null), [132]), (47, (1, 32, 0, .ref 1), [308, 55, 311, 309, 310])]
/-- 44: PatienceTable$Layout.isAllHome()Z -/
def zp_l44 : List (Option Jvm.ClassFile.Instr) := [some (.aload_n 0), some (.getfield 38), none, none, some (.aload_n 0), some (.getfield 21), none, none, some (.invokevirtual 47), none, none, some (.if_icmp .ne (7)), none, none, some (.iconst 1), some (.goto (4)), none, none, some (.iconst 0), some (.ireturn)]
def zp_p44 : List (Nat × zi_T × List Nat) := [(21, (9, 2, 0, .null), [126]), (38, (0, 2, 5, .null), [134]), (47, (1, 32, 0, .ref 1), [308, 55, 311, 309, 310])]
/-- 45: PatienceTable$Layout.layOn(II)V -/
def zp_l45 : List (Option Jvm.ClassFile.Instr) := [some (.aload_n 0), some (.getfield 9), none, none, some (.iload_n 2), some (.aload_n 0), some (.getfield 15), none, none, some (.iload_n 1), some (.iaload), some (.iastore), some (.aload_n 0), some (.getfield 15), none, none, some (.iload_n 1), some (.iload_n 2), some (.iastore), some (.aload_n 0), some (.dup), some (.getfield 34), none, none, some (.iconst 1), some (.iadd), some (.putfield 34), none, none, some (.return_)]
def zp_p45 : List (Nat × zi_T × List Nat) := [(9, (9, 2, 1, .null), [127]), (15, (9, 2, 2, .null), [129]), (34, (0, 2, 4, .null), [132])]
/-- 46: PatienceTable$Layout.heightOf(I)I -/
def zp_l46 : List (Option Jvm.ClassFile.Instr) := [some (.iload_n 1), some (.bipush (12)), none, some (.if_icmp .ne (8)), none, none, some (.aload_n 0), some (.getfield 38), none, none, some (.ireturn), some (.iconst 0), some (.istore_n 2), some (.aload_n 0), some (.getfield 15), none, none, some (.iload_n 1), some (.iaload), some (.istore_n 3), some (.iload_n 3), some (.ifCond .lt (22)), none, none, some (.iload_n 2), some (.bipush (52)), none, some (.if_icmp .ge (16)), none, none, some (.iinc 2 (1)), none, none, some (.aload_n 0), some (.getfield 9), none, none, some (.iload_n 3), some (.iaload), some (.istore_n 3), some (.goto (-20)), none, none, some (.iload_n 2), some (.ireturn)]
def zp_p46 : List (Nat × zi_T × List Nat) := [(9, (9, 2, 1, .null), [127]), (15, (9, 2, 2, .null), [129]), (38, (0, 2, 5, .null), [134])]
/-- 47: PatienceTable$Layout.cardFromTop(II)I -/
def zp_l47 : List (Option Jvm.ClassFile.Instr) := [some (.iload_n 2), some (.ifCond .ge (5)), none, none, some (.iconst (-1)), some (.ireturn), some (.aload_n 0), some (.getfield 15), none, none, some (.iload_n 1), some (.iaload), some (.istore_n 3), some (.iconst 0), some (.istore 4), none, some (.iload 4), none, some (.iload_n 2), some (.if_icmp .ge (20)), none, none, some (.iload_n 3), some (.ifCond .lt (16)), none, none, some (.aload_n 0), some (.getfield 9), none, none, some (.iload_n 3), some (.iaload), some (.istore_n 3), some (.iinc 4 (1)), none, none, some (.goto (-20)), none, none, some (.iload_n 3), some (.ifCond .lt (7)), none, none, some (.iload_n 3), some (.goto (4)), none, none, some (.iconst (-1)), some (.ireturn)]
def zp_p47 : List (Nat × zi_T × List Nat) := [(9, (9, 2, 1, .null), [127]), (15, (9, 2, 2, .null), [129])]
/-- 48: PatienceTable$Layout.topAtHome(I)I -/
def zp_l48 : List (Option Jvm.ClassFile.Instr) := [some (.iload_n 1), some (.aload_n 0), some (.getfield 21), none, none, some (.getfield 53), none, none, some (.if_icmp .ge (12)), none, none, some (.aload_n 0), some (.getfield 18), none, none, some (.iload_n 1), some (.iaload), some (.ifCond .ne (5)), none, none, some (.iconst (-1)), some (.ireturn), some (.aload_n 0), some (.getfield 21), none, none, some (.getfield 53), none, none, some (.aload_n 0), some (.getfield 18), none, none, some (.iload_n 1), some (.iaload), some (.iconst 1), some (.isub), some (.imul), some (.iload_n 1), some (.iadd), some (.ireturn)]
def zp_p48 : List (Nat × zi_T × List Nat) := [(18, (9, 2, 3, .null), [131]), (21, (9, 2, 0, .null), [126]), (53, (0, 1, 4, .null), [97])]
/-- 49: PatienceTable$Layout.allows(III)Z -/
def zp_l49 : List (Option Jvm.ClassFile.Instr) := [some (.iload_n 3), some (.iconst 1), some (.if_icmp .ne (12)), none, none, some (.aload_n 0), some (.iload_n 1), some (.iload_n 2), some (.invokevirtual 56), none, none, some (.goto (23)), none, none, some (.iload_n 3), some (.iconst 1), some (.if_icmp .le (17)), none, none, some (.aload_n 0), some (.iload_n 1), some (.iload_n 2), some (.iload_n 3), some (.invokevirtual 60), none, none, some (.ifCond .eq (7)), none, none, some (.iconst 1), some (.goto (4)), none, none, some (.iconst 0), some (.ireturn)]
def zp_p49 : List (Nat × zi_T × List Nat) := [(56, (1, 50, 2, .ref 2), [340, 56, 343, 341, 342]), (60, (1, 51, 3, .ref 2), [360, 56, 363, 362, 3])]
/-- 50: PatienceTable$Layout.allowsOne(II)Z -/
def zp_l50 : List (Option Jvm.ClassFile.Instr) := [some (.aload_n 0), some (.getfield 15), none, none, some (.iload_n 1), some (.iaload), some (.istore_n 3), some (.iload_n 3), some (.iconst (-1)), some (.if_icmp .eq (8)), none, none, some (.iload_n 1), some (.iload_n 2), some (.if_icmp .ne (5)), none, none, some (.iconst 0), some (.ireturn), some (.aload_n 0), some (.getfield 21), none, none, some (.iload_n 2), some (.invokevirtual 64), none, none, some (.ifCond .eq (10)), none, none, some (.aload_n 0), some (.iload_n 2), some (.iload_n 3), some (.invokevirtual 68), none, none, some (.ireturn), some (.aload_n 0), some (.getfield 21), none, none, some (.iload_n 2), some (.invokevirtual 71), none, none, some (.ifCond .eq (30)), none, none, some (.aload_n 0), some (.getfield 21), none, none, some (.iload_n 1), some (.invokevirtual 64), none, none, some (.ifCond .eq (17)), none, none, some (.aload_n 0), some (.getfield 15), none, none, some (.iload_n 2), some (.iaload), some (.iconst (-1)), some (.if_icmp .ne (7)), none, none, some (.iconst 1), some (.goto (4)), none, none, some (.iconst 0), some (.ireturn), some (.iload_n 2), some (.bipush (12)), none, some (.if_icmp .ne (15)), none, none, some (.aload_n 0), some (.iload_n 3), some (.invokevirtual 74), none, none, some (.ifCond .eq (7)), none, none, some (.iconst 1), some (.goto (4)), none, none, some (.iconst 0), some (.ireturn)]
def zp_p50 : List (Nat × zi_T × List Nat) := [(15, (9, 2, 2, .null), [129]), (21, (9, 2, 0, .null), [126]), (64, (1, 29, 1, .ref 1), [344, 55, 278, 276, 277]), (68, (1, 52, 2, .ref 2), [345, 56, 348, 347, 1]), (71, (1, 30, 1, .ref 1), [353, 55, 282, 280, 281]), (74, (1, 57, 1, .ref 2), [354, 56, 357, 356, 2])]
/-- 51: PatienceTable$Layout.allowsRow(III)Z -/
def zp_l51 : List (Option Jvm.ClassFile.Instr) := [some (.aload_n 0), some (.getfield 21), none, none, some (.iload_n 1), some (.invokevirtual 64), none, none, some (.ifCond .eq (57)), none, none, some (.aload_n 0), some (.getfield 21), none, none, some (.iload_n 2), some (.invokevirtual 64), none, none, some (.ifCond .eq (46)), none, none, some (.iload_n 1), some (.iload_n 2), some (.if_icmp .eq (41)), none, none, some (.iload_n 3), some (.aload_n 0), some (.iload_n 1), some (.invokevirtual 77), none, none, some (.if_icmp .gt (32)), none, none, some (.iload_n 3), some (.aload_n 0), some (.iload_n 2), some (.invokevirtual 81), none, none, some (.if_icmp .gt (23)), none, none, some (.aload_n 0), some (.iload_n 2), some (.aload_n 0), some (.iload_n 1), some (.iload_n 3), some (.iconst 1), some (.isub), some (.invokevirtual 84), none, none, some (.invokevirtual 68), none, none, some (.ifCond .eq (7)), none, none, some (.iconst 1), some (.goto (4)), none, none, some (.iconst 0), some (.ireturn)]
def zp_p51 : List (Nat × zi_T × List Nat) := [(21, (9, 2, 0, .null), [126]), (64, (1, 29, 1, .ref 1), [344, 55, 278, 276, 277]), (68, (1, 52, 2, .ref 2), [345, 56, 348, 347, 1]), (77, (1, 53, 1, .ref 2), [316, 56, 319, 318, 0]), (81, (1, 54, 1, .ref 2), [364, 56, 367, 366, 4]), (84, (1, 47, 2, .ref 2), [372, 56, 294, 292, 293])]
/-- 52: PatienceTable$Layout.bears(II)Z -/
def zp_l52 : List (Option Jvm.ClassFile.Instr) := [some (.aload_n 0), some (.getfield 15), none, none, some (.iload_n 1), some (.iaload), some (.iconst (-1)), some (.if_icmp .ne (14)), none, none, some (.aload_n 0), some (.getfield 21), none, none, some (.iload_n 2), some (.invokevirtual 88), none, none, some (.goto (17)), none, none, some (.aload_n 0), some (.getfield 21), none, none, some (.iload_n 2), some (.aload_n 0), some (.getfield 15), none, none, some (.iload_n 1), some (.iaload), some (.invokevirtual 91), none, none, some (.ireturn)]
def zp_p52 : List (Nat × zi_T × List Nat) := [(15, (9, 2, 2, .null), [129]), (21, (9, 2, 0, .null), [126]), (88, (1, 38, 1, .ref 1), [349, 55, 352, 350, 351]), (91, (1, 37, 2, .ref 1), [320, 55, 323, 321, 322])]
/-- 53: PatienceTable$Layout.rowOf(I)I -/
def zp_l53 : List (Option Jvm.ClassFile.Instr) := [some (.aload_n 0), some (.getfield 15), none, none, some (.iload_n 1), some (.iaload), some (.istore_n 2), some (.iload_n 2), some (.iconst (-1)), some (.if_icmp .ne (5)), none, none, some (.iconst 0), some (.ireturn), some (.iconst 1), some (.istore_n 3), some (.iload_n 3), some (.bipush (13)), none, some (.if_icmp .ge (42)), none, none, some (.aload_n 0), some (.getfield 9), none, none, some (.iload_n 2), some (.iaload), some (.ifCond .lt (33)), none, none, some (.aload_n 0), some (.getfield 21), none, none, some (.iload_n 2), some (.aload_n 0), some (.getfield 9), none, none, some (.iload_n 2), some (.iaload), some (.invokevirtual 91), none, none, some (.ifCond .eq (16)), none, none, some (.aload_n 0), some (.getfield 9), none, none, some (.iload_n 2), some (.iaload), some (.istore_n 2), some (.iinc 3 (1)), none, none, some (.goto (-42)), none, none, some (.iload_n 3), some (.ireturn)]
def zp_p53 : List (Nat × zi_T × List Nat) := [(9, (9, 2, 1, .null), [127]), (15, (9, 2, 2, .null), [129]), (21, (9, 2, 0, .null), [126]), (91, (1, 37, 2, .ref 1), [320, 55, 323, 321, 322])]
/-- 54: PatienceTable$Layout.mostAtOnce(I)I -/
def zp_l54 : List (Option Jvm.ClassFile.Instr) := [some (.aload_n 0), some (.bipush (8)), none, some (.aload_n 0), some (.getfield 21), none, none, some (.getfield 94), none, none, some (.invokevirtual 97), none, none, some (.istore_n 2), some (.aload_n 0), some (.getfield 21), none, none, some (.getfield 100), none, none, some (.ifCond .eq (7)), none, none, some (.iload_n 2), some (.iconst 1), some (.iadd), some (.ireturn), some (.aload_n 0), some (.iconst 0), some (.aload_n 0), some (.getfield 21), none, none, some (.getfield 102), none, none, some (.invokevirtual 97), none, none, some (.istore_n 3), some (.aload_n 0), some (.getfield 15), none, none, some (.iload_n 1), some (.iaload), some (.iconst (-1)), some (.if_icmp .ne (9)), none, none, some (.iload_n 3), some (.iconst 1), some (.isub), some (.goto (4)), none, none, some (.iload_n 3), some (.istore 4), none, some (.iload_n 2), some (.iconst 1), some (.iadd), some (.iload 4), none, some (.ishl), some (.ireturn)]
def zp_p54 : List (Nat × zi_T × List Nat) := [(15, (9, 2, 2, .null), [129]), (21, (9, 2, 0, .null), [126]), (94, (0, 1, 1, .null), [88]), (97, (1, 55, 2, .ref 2), [368, 56, 371, 370, 5]), (100, (0, 1, 3, .null), [94]), (102, (0, 1, 0, .null), [85])]
/-- 55: PatienceTable$Layout.emptyAmong(II)I -/
def zp_l55 : List (Option Jvm.ClassFile.Instr) := [some (.iconst 0), some (.istore_n 3), some (.iload_n 1), some (.istore 4), none, some (.iload 4), none, some (.iload_n 1), some (.iload_n 2), some (.iadd), some (.if_icmp .ge (23)), none, none, some (.aload_n 0), some (.getfield 15), none, none, some (.iload 4), none, some (.iaload), some (.iconst (-1)), some (.if_icmp .ne (6)), none, none, some (.iinc 3 (1)), none, none, some (.iinc 4 (1)), none, none, some (.goto (-25)), none, none, some (.iload_n 3), some (.ireturn)]
def zp_p55 : List (Nat × zi_T × List Nat) := [(15, (9, 2, 2, .null), [129])]
/-- 56: PatienceTable$Layout.mostBetween(II)I -/
def zp_l56 : List (Option Jvm.ClassFile.Instr) := [some (.aload_n 0), some (.iload_n 1), some (.invokevirtual 77), none, none, some (.istore_n 3), some (.iload_n 3), some (.ifCond .le (21)), none, none, some (.aload_n 0), some (.iload_n 1), some (.iload_n 2), some (.iload_n 3), some (.invokevirtual 105), none, none, some (.ifCond .eq (5)), none, none, some (.iload_n 3), some (.ireturn), some (.iinc 3 (-1)), none, none, some (.goto (-19)), none, none, some (.iconst 0), some (.ireturn)]
def zp_p56 : List (Nat × zi_T × List Nat) := [(77, (1, 53, 1, .ref 2), [316, 56, 319, 318, 0]), (105, (1, 49, 3, .ref 2), [336, 56, 339, 337, 338])]
/-- 57: PatienceTable$Layout.mayGoHome(I)Z -/
def zp_l57 : List (Option Jvm.ClassFile.Instr) := [some (.aload_n 0), some (.getfield 21), none, none, some (.iload_n 1), some (.invokevirtual 108), none, none, some (.aload_n 0), some (.getfield 18), none, none, some (.aload_n 0), some (.getfield 21), none, none, some (.iload_n 1), some (.invokevirtual 111), none, none, some (.iaload), some (.iconst 1), some (.iadd), some (.if_icmp .ne (7)), none, none, some (.iconst 1), some (.goto (4)), none, none, some (.iconst 0), some (.ireturn)]
def zp_p57 : List (Nat × zi_T × List Nat) := [(18, (9, 2, 3, .null), [131]), (21, (9, 2, 0, .null), [126]), (108, (1, 34, 1, .ref 1), [358, 55, 327, 325, 326]), (111, (1, 35, 1, .ref 1), [359, 55, 331, 329, 330])]
/-- 58: PatienceTable$Layout.placeOfSafe()I -/
def zp_l58 : List (Option Jvm.ClassFile.Instr) := [some (.bipush (8)), none, some (.istore_n 1), some (.iload_n 1), some (.bipush (12)), none, some (.if_icmp .ge (19)), none, none, some (.aload_n 0), some (.iload_n 1), some (.invokevirtual 114), none, none, some (.ifCond .eq (5)), none, none, some (.iload_n 1), some (.ireturn), some (.iinc 1 (1)), none, none, some (.goto (-19)), none, none, some (.iconst 0), some (.istore_n 1), some (.iload_n 1), some (.bipush (8)), none, some (.if_icmp .ge (19)), none, none, some (.aload_n 0), some (.iload_n 1), some (.invokevirtual 114), none, none, some (.ifCond .eq (5)), none, none, some (.iload_n 1), some (.ireturn), some (.iinc 1 (1)), none, none, some (.goto (-19)), none, none, some (.iconst (-1)), some (.ireturn)]
def zp_p58 : List (Nat × zi_T × List Nat) := [(114, (1, 59, 1, .ref 2), [551, 56, 554, 553, 8])]
/-- 59: PatienceTable$Layout.isTopSafe(I)Z -/
def zp_l59 : List (Option Jvm.ClassFile.Instr) := [some (.aload_n 0), some (.getfield 15), none, none, some (.iload_n 1), some (.iaload), some (.istore_n 2), some (.iload_n 2), some (.iconst (-1)), some (.if_icmp .eq (23)), none, none, some (.aload_n 0), some (.iload_n 2), some (.invokevirtual 74), none, none, some (.ifCond .eq (15)), none, none, some (.aload_n 0), some (.iload_n 2), some (.invokevirtual 117), none, none, some (.ifCond .eq (7)), none, none, some (.iconst 1), some (.goto (4)), none, none, some (.iconst 0), some (.ireturn)]
def zp_p59 : List (Nat × zi_T × List Nat) := [(15, (9, 2, 2, .null), [129]), (74, (1, 57, 1, .ref 2), [354, 56, 357, 356, 2]), (117, (1, 60, 1, .ref 2), [555, 56, 558, 557, 9])]
/-- 60: PatienceTable$Layout.isSafe(I)Z -/
def zp_l60 : List (Option Jvm.ClassFile.Instr) := [some (.aload_n 0), some (.getfield 21), none, none, some (.iload_n 1), some (.invokevirtual 108), none, none, some (.istore_n 2), some (.aload_n 0), some (.getfield 21), none, none, some (.getfield 120), none, none, some (.iconst 1), some (.if_icmp .eq (8)), none, none, some (.iload_n 2), some (.iconst 2), some (.if_icmp .gt (5)), none, none, some (.iconst 1), some (.ireturn), some (.aload_n 0), some (.getfield 21), none, none, some (.aload_n 0), some (.getfield 21), none, none, some (.iload_n 1), some (.invokevirtual 111), none, none, some (.invokevirtual 123), none, none, some (.istore_n 3), some (.iconst 0), some (.istore 4), none, some (.iload 4), none, some (.aload_n 0), some (.getfield 21), none, none, some (.getfield 53), none, none, some (.if_icmp .ge (59)), none, none, some (.aload_n 0), some (.getfield 21), none, none, some (.getfield 120), none, none, some (.ifCond .ne (16)), none, none, some (.aload_n 0), some (.getfield 21), none, none, some (.iload 4), none, some (.invokevirtual 123), none, none, some (.iload_n 3), some (.if_icmp .eq (7)), none, none, some (.iconst 1), some (.goto (4)), none, none, some (.iconst 0), some (.istore 5), none, some (.iload 5), none, some (.ifCond .eq (18)), none, none, some (.aload_n 0), some (.getfield 18), none, none, some (.iload 4), none, some (.iaload), some (.iload_n 2), some (.iconst 1), some (.isub), some (.if_icmp .ge (5)), none, none, some (.iconst 0), some (.ireturn), some (.iinc 4 (1)), none, none, some (.goto (-65)), none, none, some (.iconst 1), some (.ireturn)]
def zp_p60 : List (Nat × zi_T × List Nat) := [(18, (9, 2, 3, .null), [131]), (21, (9, 2, 0, .null), [126]), (53, (0, 1, 4, .null), [97]), (108, (1, 34, 1, .ref 1), [358, 55, 327, 325, 326]), (111, (1, 35, 1, .ref 1), [359, 55, 331, 329, 330]), (120, (0, 1, 2, .null), [91]), (123, (1, 36, 1, .ref 1), [559, 55, 335, 333, 334])]
/-- 61: PatienceTable$Layout.groundAt(I)I -/
def zp_l61 : List (Option Jvm.ClassFile.Instr) := [some (.iload_n 1), some (.bipush (12)), none, some (.if_icmp .ne (6)), none, none, some (.bipush (-3)), none, some (.ireturn), some (.iload_n 1), some (.bipush (8)), none, some (.if_icmp .lt (8)), none, none, some (.bipush (-2)), none, some (.goto (9)), none, none, some (.aload_n 0), some (.getfield 15), none, none, some (.iload_n 1), some (.iaload), some (.ireturn)]
def zp_p61 : List (Nat × zi_T × List Nat) := [(15, (9, 2, 2, .null), [129])]
/-- 62: PatienceTable$Layout.carry(III)V -/
def zp_l62 : List (Option Jvm.ClassFile.Instr) := [some (.iload_n 2), some (.bipush (12)), none, some (.if_icmp .ne (7)), none, none, some (.iload_n 1), some (.goto (9)), none, none, some (.aload_n 0), some (.getfield 15), none, none, some (.iload_n 2), some (.iaload), some (.istore 4), none, some (.aload_n 0), some (.getfield 9), none, none, some (.iload_n 1), some (.iaload), some (.istore 5), none, some (.aload_n 0), some (.getfield 9), none, none, some (.iload_n 1), some (.aload_n 0), some (.iload_n 3), some (.invokevirtual 126), none, none, some (.iastore), some (.iload_n 2), some (.bipush (12)), none, some (.if_icmp .ne (33)), none, none, some (.aload_n 0), some (.getfield 18), none, none, some (.aload_n 0), some (.getfield 21), none, none, some (.iload_n 1), some (.invokevirtual 111), none, none, some (.dup2), some (.iaload), some (.iconst 1), some (.isub), some (.iastore), some (.aload_n 0), some (.dup), some (.getfield 38), none, none, some (.iconst 1), some (.isub), some (.putfield 38), none, none, some (.goto (21)), none, none, some (.aload_n 0), some (.getfield 15), none, none, some (.iload_n 2), some (.iload_n 2), some (.bipush (8)), none, some (.if_icmp .lt (7)), none, none, some (.iconst (-1)), some (.goto (5)), none, none, some (.iload 5), none, some (.iastore), some (.iload_n 3), some (.bipush (12)), none, some (.if_icmp .ne (33)), none, none, some (.aload_n 0), some (.getfield 18), none, none, some (.aload_n 0), some (.getfield 21), none, none, some (.iload_n 1), some (.invokevirtual 111), none, none, some (.dup2), some (.iaload), some (.iconst 1), some (.iadd), some (.iastore), some (.aload_n 0), some (.dup), some (.getfield 38), none, none, some (.iconst 1), some (.iadd), some (.putfield 38), none, none, some (.goto (11)), none, none, some (.aload_n 0), some (.getfield 15), none, none, some (.iload_n 3), some (.iload 4), none, some (.iastore), some (.return_)]
def zp_p62 : List (Nat × zi_T × List Nat) := [(9, (9, 2, 1, .null), [127]), (15, (9, 2, 2, .null), [129]), (18, (9, 2, 3, .null), [131]), (21, (9, 2, 0, .null), [126]), (38, (0, 2, 5, .null), [134]), (111, (1, 35, 1, .ref 1), [359, 55, 331, 329, 330]), (126, (1, 61, 1, .ref 2), [518, 56, 521, 519, 520])]
/-- 63: PatienceTable$Log.<init>()V -/
def zp_l63 : List (Option Jvm.ClassFile.Instr) := [some (.aload_n 0), some (.invokespecial 3), none, none, some (.aload_n 0), some (.bipush (60)), none, some (.newarray .int), none, some (.putfield 9), none, none, some (.aload_n 0), some (.bipush (60)), none, some (.newarray .int), none, some (.putfield 15), none, none, some (.aload_n 0), some (.bipush (60)), none, some (.newarray .int), none, some (.putfield 18), none, none, some (.aload_n 0), some (.bipush (60)), none, some (.newarray .int), none, some (.putfield 21), none, none, some (.aload_n 0), some (.iconst 0), some (.putfield 24), none, none, some (.aload_n 0), some (.iconst 0), some (.putfield 28), none, none, some (.return_)]
def zp_p63 : List (Nat × zi_T × List Nat) := [(3, (7, 0, 0, .null), [156, 75, 76]), (9, (8, 3, 0, .null), [157]), (15, (8, 3, 1, .null), [159]), (18, (8, 3, 2, .null), [161]), (21, (8, 3, 3, .null), [163]), (24, (0, 3, 4, .null), [165]), (28, (0, 3, 5, .null), [166])]
/-- 64: PatienceTable$Log.forgetAll()V -/
def zp_l64 : List (Option Jvm.ClassFile.Instr) := [some (.aload_n 0), some (.iconst 0), some (.putfield 24), none, none, some (.aload_n 0), some (.iconst 0), some (.putfield 28), none, none, some (.return_)]
def zp_p64 : List (Nat × zi_T × List Nat) := [(24, (0, 3, 4, .null), [165]), (28, (0, 3, 5, .null), [166])]
/-- 65: PatienceTable$Log.note(IIII)V -/
def zp_l65 : List (Option Jvm.ClassFile.Instr) := [some (.aload_n 0), some (.getfield 9), none, none, some (.aload_n 0), some (.getfield 24), none, none, some (.iload_n 1), some (.iastore), some (.aload_n 0), some (.getfield 15), none, none, some (.aload_n 0), some (.getfield 24), none, none, some (.iload_n 2), some (.iastore), some (.aload_n 0), some (.getfield 18), none, none, some (.aload_n 0), some (.getfield 24), none, none, some (.iload_n 3), some (.iastore), some (.aload_n 0), some (.getfield 21), none, none, some (.aload_n 0), some (.getfield 24), none, none, some (.iload 4), none, some (.iastore), some (.aload_n 0), some (.aload_n 0), some (.getfield 24), none, none, some (.iconst 1), some (.iadd), some (.bipush (60)), none, some (.if_icmp .ge (12)), none, none, some (.aload_n 0), some (.getfield 24), none, none, some (.iconst 1), some (.iadd), some (.goto (4)), none, none, some (.iconst 0), some (.putfield 24), none, none, some (.aload_n 0), some (.aload_n 0), some (.getfield 28), none, none, some (.iconst 1), some (.iadd), some (.bipush (60)), none, some (.invokestatic 31), none, none, some (.putfield 28), none, none, some (.return_)]
def zp_p65 : List (Nat × zi_T × List Nat) := [(9, (9, 3, 0, .null), [157]), (15, (9, 3, 1, .null), [159]), (18, (9, 3, 2, .null), [161]), (21, (9, 3, 3, .null), [163]), (24, (0, 3, 4, .null), [165]), (28, (0, 3, 5, .null), [166]), (31, (7, 1, 0, .null), [526, 527, 66, 528])]
/-- 66: PatienceTable$Log.takeLatest()I -/
def zp_l66 : List (Option Jvm.ClassFile.Instr) := [some (.aload_n 0), some (.aload_n 0), some (.getfield 24), none, none, some (.ifCond .le (12)), none, none, some (.aload_n 0), some (.getfield 24), none, none, some (.iconst 1), some (.isub), some (.goto (5)), none, none, some (.bipush (59)), none, some (.putfield 24), none, none, some (.aload_n 0), some (.dup), some (.getfield 28), none, none, some (.iconst 1), some (.isub), some (.putfield 28), none, none, some (.aload_n 0), some (.getfield 24), none, none, some (.ireturn)]
def zp_p66 : List (Nat × zi_T × List Nat) := [(24, (0, 3, 4, .null), [165]), (28, (0, 3, 5, .null), [166])]
/-- 67: PatienceTable$Search.<init>(LPatienceTable$Game;)V -/
def zp_l67 : List (Option Jvm.ClassFile.Instr) := [some (.aload_n 0), some (.invokespecial 3), none, none, some (.aload_n 0), some (.sipush (200)), none, none, some (.anewarray 9), none, none, some (.putfield 11), none, none, some (.aload_n 0), some (.sipush (200)), none, none, some (.newarray .int), none, some (.putfield 17), none, none, some (.aload_n 0), some (.sipush (200)), none, none, some (.newarray .int), none, some (.putfield 21), none, none, some (.aload_n 0), some (.sipush (512)), none, none, some (.newarray .int), none, some (.putfield 24), none, none, some (.aload_n 0), some (.iconst 0), some (.putfield 27), none, none, some (.aload_n 0), some (.iconst 0), some (.putfield 31), none, none, some (.aload_n 0), some (.iconst 0), some (.putfield 34), none, none, some (.aload_n 0), some (.iconst (-1)), some (.putfield 38), none, none, some (.aload_n 0), some (.iconst 0), some (.putfield 41), none, none, some (.aload_n 0), some (.aload_n 1), some (.putfield 44), none, none, some (.iconst 0), some (.istore_n 2), some (.iload_n 2), some (.sipush (200)), none, none, some (.if_icmp .ge (23)), none, none, some (.aload_n 0), some (.getfield 11), none, none, some (.iload_n 2), some (.new 9), none, none, some (.dup), some (.aload_n 1), some (.invokespecial 48), none, none, some (.aastore), some (.iinc 2 (1)), none, none, some (.goto (-24)), none, none, some (.return_)]
def zp_p67 : List (Nat × zi_T × List Nat) := [(3, (7, 0, 0, .null), [186, 75, 76]), (9, (4, 2, 6, .null), [187, 114, 56]), (11, (8, 4, 1, .null), [191]), (17, (8, 4, 2, .null), [192]), (21, (8, 4, 3, .null), [193]), (24, (8, 4, 4, .null), [194]), (27, (0, 4, 5, .null), [195]), (31, (0, 4, 6, .null), [196]), (34, (0, 4, 7, .null), [197]), (38, (0, 4, 8, .null), [198]), (41, (0, 4, 9, .null), [200]), (44, (8, 4, 0, .null), [190]), (48, (2, 39, 1, .null), [189, 56, 117, 116])]
/-- 68: PatienceTable$Search.seek(LPatienceTable$Layout;I)I -/
def zp_l68 : List (Option Jvm.ClassFile.Instr) := [some (.aload_n 0), some (.aload_n 1), some (.iload_n 2), some (.invokevirtual 51), none, none, some (.aload_n 1), some (.invokevirtual 55), none, none, some (.ifCond .eq (5)), none, none, some (.iconst 0), some (.ireturn), some (.iconst 0), some (.istore_n 3), some (.iconst 1), some (.istore 4), none, some (.iload 4), none, some (.sipush (200)), none, none, some (.if_icmp .gt (89)), none, none, some (.aload_n 0), some (.aload_n 0), some (.getfield 31), none, none, some (.putfield 41), none, none, some (.iload_n 3), some (.istore 5), none, some (.iload 5), none, some (.aload_n 0), some (.getfield 41), none, none, some (.if_icmp .ge (23)), none, none, some (.aload_n 0), some (.getfield 38), none, none, some (.iconst (-1)), some (.if_icmp .ne (15)), none, none, some (.aload_n 0), some (.iload 5), none, some (.invokevirtual 59), none, none, some (.iinc 5 (1)), none, none, some (.goto (-26)), none, none, some (.aload_n 0), some (.getfield 38), none, none, some (.iconst (-1)), some (.if_icmp .eq (6)), none, none, some (.iload 4), none, some (.ireturn), some (.aload_n 0), some (.getfield 34), none, none, some (.ifCond .eq (6)), none, none, some (.bipush (-2)), none, some (.ireturn), some (.aload_n 0), some (.getfield 31), none, none, some (.aload_n 0), some (.getfield 41), none, none, some (.if_icmp .ne (6)), none, none, some (.bipush (-3)), none, some (.ireturn), some (.aload_n 0), some (.getfield 41), none, none, some (.istore_n 3), some (.iinc 4 (1)), none, none, some (.goto (-91)), none, none, some (.bipush (-2)), none, some (.ireturn)]
def zp_p68 : List (Nat × zi_T × List Nat) := [(31, (0, 4, 6, .null), [196]), (34, (0, 4, 7, .null), [197]), (38, (0, 4, 8, .null), [198]), (41, (0, 4, 9, .null), [200]), (51, (1, 69, 2, .ref 4), [600, 59, 603, 602, 10]), (55, (1, 44, 0, .ref 2), [622, 56, 625, 623, 624]), (59, (1, 70, 1, .ref 4), [626, 59, 629, 628, 12])]
/-- 69: PatienceTable$Search.begin(LPatienceTable$Layout;I)V -/
def zp_l69 : List (Option Jvm.ClassFile.Instr) := [some (.aload_n 0), some (.iload_n 2), some (.putfield 27), none, none, some (.aload_n 0), some (.iconst 0), some (.putfield 34), none, none, some (.aload_n 0), some (.iconst (-1)), some (.putfield 38), none, none, some (.aload_n 0), some (.iconst 0), some (.putfield 41), none, none, some (.aload_n 0), some (.getfield 24), none, none, some (.iconst 0), some (.invokestatic 63), none, none, some (.aload_n 0), some (.getfield 11), none, none, some (.iconst 0), some (.aaload), some (.aload_n 1), some (.invokevirtual 69), none, none, some (.aload_n 0), some (.getfield 17), none, none, some (.iconst 0), some (.aload_n 0), some (.aload_n 1), some (.invokevirtual 73), none, none, some (.iastore), some (.aload_n 0), some (.getfield 24), none, none, some (.aload_n 0), some (.getfield 17), none, none, some (.iconst 0), some (.iaload), some (.sipush (511)), none, none, some (.iand), some (.iconst 1), some (.iastore), some (.aload_n 0), some (.iconst 1), some (.putfield 31), none, none, some (.return_)]
def zp_p69 : List (Nat × zi_T × List Nat) := [(11, (9, 4, 1, .null), [191]), (17, (9, 4, 2, .null), [192]), (24, (9, 4, 4, .null), [194]), (27, (0, 4, 5, .null), [195]), (31, (0, 4, 6, .null), [196]), (34, (0, 4, 7, .null), [197]), (38, (0, 4, 8, .null), [198]), (41, (0, 4, 9, .null), [200]), (63, (3, 134, 2, .null), [604, 57, 125, 124]), (69, (1, 41, 1, .ref 2), [605, 56, 608, 606, 607]), (73, (1, 74, 1, .ref 4), [612, 59, 615, 614, 11])]
/-- 70: PatienceTable$Search.expand(I)V -/
def zp_l70 : List (Option Jvm.ClassFile.Instr) := [some (.aload_n 0), some (.getfield 11), none, none, some (.iload_n 1), some (.aaload), some (.astore_n 2), some (.iconst 0), some (.istore_n 3), some (.iload_n 3), some (.bipush (12)), none, some (.if_icmp .ge (43)), none, none, some (.iconst 0), some (.istore 4), none, some (.iload 4), none, some (.bipush (12)), none, some (.if_icmp .gt (27)), none, none, some (.aload_n 2), some (.iload_n 3), some (.iload 4), none, some (.invokevirtual 77), none, none, some (.ifCond .eq (11)), none, none, some (.aload_n 0), some (.iload_n 1), some (.iload_n 3), some (.iload 4), none, some (.invokevirtual 81), none, none, some (.iinc 4 (1)), none, none, some (.goto (-28)), none, none, some (.iinc 3 (1)), none, none, some (.goto (-43)), none, none, some (.return_)]
def zp_p70 : List (Nat × zi_T × List Nat) := [(11, (9, 4, 1, .null), [191]), (77, (1, 50, 2, .ref 2), [630, 56, 343, 341, 342]), (81, (1, 71, 3, .ref 4), [631, 59, 634, 633, 13])]
/-- 71: PatienceTable$Search.reach(III)V -/
def zp_l71 : List (Option Jvm.ClassFile.Instr) := [some (.aload_n 0), some (.getfield 11), none, none, some (.iload_n 1), some (.aaload), some (.astore 4), none, some (.iload_n 1), some (.ifCond .ne (12)), none, none, some (.bipush (16)), none, some (.iload_n 2), some (.imul), some (.iload_n 3), some (.iadd), some (.goto (9)), none, none, some (.aload_n 0), some (.getfield 21), none, none, some (.iload_n 1), some (.iaload), some (.istore 5), none, some (.iload_n 3), some (.bipush (12)), none, some (.if_icmp .ne (27)), none, none, some (.aload 4), none, some (.getfield 85), none, none, some (.iconst 1), some (.iadd), some (.aload_n 0), some (.getfield 44), none, none, some (.invokevirtual 88), none, none, some (.if_icmp .ne (10)), none, none, some (.aload_n 0), some (.iload 5), none, some (.putfield 38), none, none, some (.return_), some (.aload_n 0), some (.getfield 34), none, none, some (.ifCond .eq (4)), none, none, some (.return_), some (.aload 4), none, some (.getfield 94), none, none, some (.iload_n 2), some (.iaload), some (.istore 6), none, some (.aload 4), none, some (.iload_n 3), some (.invokevirtual 97), none, none, some (.istore 7), none, some (.aload_n 0), some (.getfield 17), none, none, some (.iload_n 1), some (.iaload), some (.iload 6), none, some (.aload 4), none, some (.getfield 101), none, none, some (.iload 6), none, some (.iaload), some (.invokestatic 104), none, none, some (.isub), some (.iload 6), none, some (.iload 7), none, some (.invokestatic 104), none, none, some (.iadd), some (.istore 8), none, some (.aload_n 0), some (.iload 8), none, some (.aload 4), none, some (.iload 6), none, some (.iload 7), none, some (.invokevirtual 108), none, none, some (.istore 9), none, some (.aload_n 0), some (.getfield 24), none, none, some (.iload 9), none, some (.iaload), some (.ifCond .eq (4)), none, none, some (.return_), some (.aload_n 0), some (.getfield 31), none, none, some (.aload_n 0), some (.getfield 27), none, none, some (.if_icmp .lt (9)), none, none, some (.aload_n 0), some (.iconst 1), some (.putfield 34), none, none, some (.return_), some (.aload_n 0), some (.getfield 11), none, none, some (.aload_n 0), some (.getfield 31), none, none, some (.aaload), some (.aload 4), none, some (.invokevirtual 69), none, none, some (.aload_n 0), some (.getfield 11), none, none, some (.aload_n 0), some (.getfield 31), none, none, some (.aaload), some (.iload 6), none, some (.iload_n 2), some (.iload_n 3), some (.invokevirtual 112), none, none, some (.aload_n 0), some (.getfield 17), none, none, some (.aload_n 0), some (.getfield 31), none, none, some (.iload 8), none, some (.iastore), some (.aload_n 0), some (.getfield 21), none, none, some (.aload_n 0), some (.getfield 31), none, none, some (.iload 5), none, some (.iastore), some (.aload_n 0), some (.dup), some (.getfield 31), none, none, some (.iconst 1), some (.iadd), some (.putfield 31), none, none, some (.aload_n 0), some (.getfield 24), none, none, some (.iload 9), none, some (.aload_n 0), some (.getfield 31), none, none, some (.iastore), some (.return_)]
def zp_p71 : List (Nat × zi_T × List Nat) := [(11, (9, 4, 1, .null), [191]), (17, (9, 4, 2, .null), [192]), (21, (9, 4, 3, .null), [193]), (24, (9, 4, 4, .null), [194]), (27, (0, 4, 5, .null), [195]), (31, (0, 4, 6, .null), [196]), (34, (0, 4, 7, .null), [197]), (38, (0, 4, 8, .null), [198]), (44, (9, 4, 0, .null), [190]), (69, (1, 41, 1, .ref 2), [605, 56, 608, 606, 607]), (85, (0, 2, 5, .null), [135]), (88, (1, 32, 0, .ref 1), [616, 55, 311, 309, 310]), (94, (9, 2, 2, .null), [130]), (97, (1, 61, 1, .ref 2), [635, 56, 521, 519, 520]), (101, (9, 2, 1, .null), [128]), (104, (3, 75, 2, .null), [617, 59, 619, 618]), (108, (1, 72, 4, .ref 4), [636, 59, 639, 638, 14]), (112, (1, 62, 3, .ref 2), [644, 56, 517, 515, 516])]
/-- 72: PatienceTable$Search.slotFor(ILPatienceTable$Layout;II)I -/
def zp_l72 : List (Option Jvm.ClassFile.Instr) := [some (.iload_n 1), some (.sipush (511)), none, none, some (.iand), some (.istore 5), none, some (.iconst 0), some (.istore 6), none, some (.iload 6), none, some (.sipush (512)), none, none, some (.if_icmp .ge (72)), none, none, some (.aload_n 0), some (.getfield 24), none, none, some (.iload 5), none, some (.iaload), some (.ifCond .eq (62)), none, none, some (.aload_n 0), some (.getfield 24), none, none, some (.iload 5), none, some (.iaload), some (.iconst 1), some (.isub), some (.istore 7), none, some (.aload_n 0), some (.getfield 17), none, none, some (.iload 7), none, some (.iaload), some (.iload_n 1), some (.if_icmp .ne (24)), none, none, some (.aload_n 0), some (.aload_n 0), some (.getfield 11), none, none, some (.iload 7), none, some (.aaload), some (.aload_n 2), some (.iload_n 3), some (.iload 4), none, some (.invokevirtual 115), none, none, some (.ifCond .eq (6)), none, none, some (.iload 5), none, some (.ireturn), some (.iload 5), none, some (.iconst 1), some (.iadd), some (.sipush (511)), none, none, some (.iand), some (.istore 5), none, some (.iinc 6 (1)), none, none, some (.goto (-74)), none, none, some (.iload 5), none, some (.ireturn)]
def zp_p72 : List (Nat × zi_T × List Nat) := [(11, (9, 4, 1, .null), [191]), (17, (9, 4, 2, .null), [192]), (24, (9, 4, 4, .null), [194]), (115, (1, 73, 4, .ref 4), [640, 59, 643, 642, 15])]
/-- 73: PatienceTable$Search.isAlike(LPatienceTable$Layout;LPatienceTable$Layout;II)Z -/
def zp_l73 : List (Option Jvm.ClassFile.Instr) := [some (.aload_n 0), some (.getfield 44), none, none, some (.invokevirtual 88), none, none, some (.istore 5), none, some (.iconst 0), some (.istore 6), none, some (.iload 6), none, some (.iload 5), none, some (.if_icmp .ge (43)), none, none, some (.iload 6), none, some (.iload_n 3), some (.if_icmp .ne (8)), none, none, some (.iload 4), none, some (.goto (10)), none, none, some (.aload_n 2), some (.getfield 101), none, none, some (.iload 6), none, some (.iaload), some (.istore 7), none, some (.aload_n 1), some (.getfield 101), none, none, some (.iload 6), none, some (.iaload), some (.iload 7), none, some (.if_icmp .eq (5)), none, none, some (.iconst 0), some (.ireturn), some (.iinc 6 (1)), none, none, some (.goto (-44)), none, none, some (.iconst 1), some (.ireturn)]
def zp_p73 : List (Nat × zi_T × List Nat) := [(44, (9, 4, 0, .null), [190]), (88, (1, 32, 0, .ref 1), [616, 55, 311, 309, 310]), (101, (9, 2, 1, .null), [128])]
/-- 74: PatienceTable$Search.hashOf(LPatienceTable$Layout;)I -/
def zp_l74 : List (Option Jvm.ClassFile.Instr) := [some (.iconst 0), some (.istore_n 2), some (.aload_n 0), some (.getfield 44), none, none, some (.invokevirtual 88), none, none, some (.istore_n 3), some (.iconst 0), some (.istore 4), none, some (.iload 4), none, some (.iload_n 3), some (.if_icmp .ge (24)), none, none, some (.iload_n 2), some (.iload 4), none, some (.aload_n 1), some (.getfield 101), none, none, some (.iload 4), none, some (.iaload), some (.invokestatic 104), none, none, some (.iadd), some (.istore_n 2), some (.iinc 4 (1)), none, none, some (.goto (-24)), none, none, some (.iload_n 2), some (.ireturn)]
def zp_p74 : List (Nat × zi_T × List Nat) := [(44, (9, 4, 0, .null), [190]), (88, (1, 32, 0, .ref 1), [616, 55, 311, 309, 310]), (101, (9, 2, 1, .null), [128]), (104, (3, 75, 2, .null), [617, 59, 619, 618])]
/-- 75: PatienceTable$Search.share(II)I -/
def zp_l75 : List (Option Jvm.ClassFile.Instr) := [some (.bipush (64)), none, some (.iload_n 0), some (.imul), some (.iload_n 1), some (.iadd), some (.bipush (-4)), none, some (.isub), some (.ldc 119), none, some (.imul), some (.istore_n 2), some (.iload_n 2), some (.iload_n 2), some (.bipush (15)), none, some (.iushr), some (.ixor), some (.ldc 120), none, some (.imul), some (.istore_n 2), some (.iload_n 2), some (.iload_n 2), some (.bipush (13)), none, some (.iushr), some (.ixor), some (.ireturn)]
def zp_p75 : List (Nat × zi_T × List Nat) := [(119, (6, 0, 0, .int (-1640531535)), [620]), (120, (6, 0, 0, .int (-2048144777)), [621])]
/-- 76: PatienceTableModel.<init>()V -/
def zp_l76 : List (Option Jvm.ClassFile.Instr) := [some (.aload_n 0), some (.invokespecial 1), none, none, some (.aload_n 0), some (.bipush (8)), none, some (.putfield 7), none, none, some (.aload_n 0), some (.iconst 4), some (.putfield 13), none, none, some (.aload_n 0), some (.iconst 4), some (.putfield 16), none, none, some (.aload_n 0), some (.bipush (13)), none, some (.putfield 19), none, none, some (.aload_n 0), some (.sipush (416)), none, none, some (.newarray .int), none, some (.putfield 22), none, none, some (.aload_n 0), some (.bipush (8)), none, some (.newarray .int), none, some (.putfield 26), none, none, some (.aload_n 0), some (.iconst 4), some (.newarray .int), none, some (.putfield 29), none, none, some (.aload_n 0), some (.iconst 4), some (.newarray .int), none, some (.putfield 32), none, none, some (.aload_n 0), some (.bipush (52)), none, some (.newarray .boolean), none, some (.putfield 35), none, none, some (.aload_n 0), some (.bipush (52)), none, some (.newarray .int), none, some (.putfield 39), none, none, some (.aload_n 0), some (.sipush (240)), none, none, some (.newarray .int), none, some (.putfield 42), none, none, some (.aload_n 0), some (.iconst (-1)), some (.putfield 45), none, none, some (.aload_n 0), some (.sipush (10504)), none, none, some (.newarray .int), none, some (.putfield 48), none, none, some (.aload_n 0), some (.sipush (202)), none, none, some (.newarray .int), none, some (.putfield 51), none, none, some (.aload_n 0), some (.sipush (202)), none, none, some (.newarray .boolean), none, some (.putfield 54), none, none, some (.aload_n 0), some (.sipush (210)), none, none, some (.newarray .int), none, some (.putfield 57), none, none, some (.aload_n 0), some (.iconst 4), some (.newarray .int), none, some (.putfield 60), none, none, some (.aload_n 0), some (.bipush (52)), none, some (.newarray .boolean), none, some (.putfield 63), none, none, some (.aload_n 0), some (.invokevirtual 66), none, none, some (.return_)]
def zp_p76 : List (Nat × zi_T × List Nat) := [(1, (7, 0, 0, .null), [650, 75, 76]), (7, (0, 5, 1, .null), [656]), (13, (0, 5, 2, .null), [657]), (16, (0, 5, 5, .null), [660]), (19, (0, 5, 6, .null), [661]), (22, (8, 5, 7, .null), [662]), (26, (8, 5, 8, .null), [663]), (29, (8, 5, 9, .null), [664]), (32, (8, 5, 10, .null), [665]), (35, (8, 5, 11, .null), [666]), (39, (8, 5, 12, .null), [667]), (42, (8, 5, 14, .null), [669]), (45, (0, 5, 15, .null), [670]), (48, (8, 5, 17, .null), [672]), (51, (8, 5, 18, .null), [673]), (54, (8, 5, 19, .null), [674]), (57, (8, 5, 20, .null), [675]), (60, (8, 5, 25, .null), [680]), (63, (8, 5, 28, .null), [683]), (66, (1, 86, 0, .ref 5), [651, 60, 654, 653, 16])]
/-- 77: PatienceTableModel.thrown()I -/
def zp_l77 : List (Option Jvm.ClassFile.Instr) := [some (.aload_n 0), some (.getfield 69), none, none, some (.ireturn)]
def zp_p77 : List (Nat × zi_T × List Nat) := [(69, (0, 5, 0, .null), [655])]
/-- 78: PatienceTableModel.refuse(I)I -/
def zp_l78 : List (Option Jvm.ClassFile.Instr) := [some (.aload_n 0), some (.iload_n 1), some (.putfield 69), none, none, some (.iconst 0), some (.ireturn)]
def zp_p78 : List (Nat × zi_T × List Nat) := [(69, (0, 5, 0, .null), [655])]
/-- 79: PatienceTableModel.within(III)Z -/
def zp_l79 : List (Option Jvm.ClassFile.Instr) := [some (.iload_n 0), some (.iload_n 1), some (.if_icmp .lt (12)), none, none, some (.iload_n 0), some (.iload_n 2), some (.if_icmp .gt (7)), none, none, some (.iconst 1), some (.goto (4)), none, none, some (.iconst 0), some (.ireturn)]
def zp_p79 : List (Nat × zi_T × List Nat) := []
/-- 80: PatienceTableModel.all()I -/
def zp_l80 : List (Option Jvm.ClassFile.Instr) := [some (.aload_n 0), some (.getfield 16), none, none, some (.aload_n 0), some (.getfield 19), none, none, some (.imul), some (.ireturn)]
def zp_p80 : List (Nat × zi_T × List Nat) := [(16, (0, 5, 5, .null), [660]), (19, (0, 5, 6, .null), [661])]
/-- 81: PatienceTableModel.suit(I)I -/
def zp_l81 : List (Option Jvm.ClassFile.Instr) := [some (.iload_n 1), some (.aload_n 0), some (.getfield 16), none, none, some (.irem), some (.ireturn)]
def zp_p81 : List (Nat × zi_T × List Nat) := [(16, (0, 5, 5, .null), [660])]
/-- 82: PatienceTableModel.rank(I)I -/
def zp_l82 : List (Option Jvm.ClassFile.Instr) := [some (.iload_n 1), some (.aload_n 0), some (.getfield 16), none, none, some (.idiv), some (.iconst 1), some (.iadd), some (.ireturn)]
def zp_p82 : List (Nat × zi_T × List Nat) := [(16, (0, 5, 5, .null), [660])]
/-- 83: PatienceTableModel.isBlack(I)Z -/
def zp_l83 : List (Option Jvm.ClassFile.Instr) := [some (.iload_n 0), some (.ifCond .eq (8)), none, none, some (.iload_n 0), some (.iconst 3), some (.if_icmp .ne (7)), none, none, some (.iconst 1), some (.goto (4)), none, none, some (.iconst 0), some (.ireturn)]
def zp_p83 : List (Nat × zi_T × List Nat) := []
/-- 84: PatienceTableModel.fitsOn(II)Z -/
def zp_l84 : List (Option Jvm.ClassFile.Instr) := [some (.aload_n 0), some (.iload_n 1), some (.invokevirtual 72), none, none, some (.aload_n 0), some (.iload_n 2), some (.invokevirtual 72), none, none, some (.iconst 1), some (.isub), some (.if_icmp .eq (5)), none, none, some (.iconst 0), some (.ireturn), some (.aload_n 0), some (.getfield 76), none, none, some (.iconst 2), some (.if_icmp .eq (46)), none, none, some (.aload_n 0), some (.getfield 76), none, none, some (.iconst 1), some (.if_icmp .ne (19)), none, none, some (.aload_n 0), some (.iload_n 1), some (.invokevirtual 79), none, none, some (.aload_n 0), some (.iload_n 2), some (.invokevirtual 79), none, none, some (.if_icmp .ne (29)), none, none, some (.goto (22)), none, none, some (.aload_n 0), some (.iload_n 1), some (.invokevirtual 79), none, none, some (.invokestatic 82), none, none, some (.aload_n 0), some (.iload_n 2), some (.invokevirtual 79), none, none, some (.invokestatic 82), none, none, some (.if_icmp .eq (7)), none, none, some (.iconst 1), some (.goto (4)), none, none, some (.iconst 0), some (.ireturn)]
def zp_p84 : List (Nat × zi_T × List Nat) := [(72, (1, 82, 1, .ref 5), [823, 60, 826, 825, 28]), (76, (0, 5, 3, .null), [658]), (79, (1, 81, 1, .ref 5), [819, 60, 822, 821, 27]), (82, (3, 83, 1, .null), [839, 60, 841, 840])]
/-- 85: PatienceTableModel.fitsEmpty(I)Z -/
def zp_l85 : List (Option Jvm.ClassFile.Instr) := [some (.aload_n 0), some (.getfield 86), none, none, some (.ifCond .eq (23)), none, none, some (.aload_n 0), some (.getfield 86), none, none, some (.iconst 1), some (.if_icmp .ne (19)), none, none, some (.aload_n 0), some (.iload_n 1), some (.invokevirtual 72), none, none, some (.aload_n 0), some (.getfield 19), none, none, some (.if_icmp .ne (7)), none, none, some (.iconst 1), some (.goto (4)), none, none, some (.iconst 0), some (.ireturn)]
def zp_p85 : List (Nat × zi_T × List Nat) := [(19, (0, 5, 6, .null), [661]), (72, (1, 82, 1, .ref 5), [823, 60, 826, 825, 28]), (86, (0, 5, 4, .null), [659])]
/-- 86: PatienceTableModel.wipe()V -/
def zp_l86 : List (Option Jvm.ClassFile.Instr) := [some (.iconst 0), some (.istore_n 1), some (.iload_n 1), some (.bipush (8)), none, some (.if_icmp .ge (16)), none, none, some (.aload_n 0), some (.getfield 26), none, none, some (.iload_n 1), some (.iconst 0), some (.iastore), some (.iinc 1 (1)), none, none, some (.goto (-16)), none, none, some (.iconst 0), some (.istore_n 1), some (.iload_n 1), some (.iconst 4), some (.if_icmp .ge (23)), none, none, some (.aload_n 0), some (.getfield 29), none, none, some (.iload_n 1), some (.iconst (-1)), some (.iastore), some (.aload_n 0), some (.getfield 32), none, none, some (.iload_n 1), some (.iconst 0), some (.iastore), some (.iinc 1 (1)), none, none, some (.goto (-22)), none, none, some (.iconst 0), some (.istore_n 1), some (.iload_n 1), some (.bipush (52)), none, some (.if_icmp .ge (16)), none, none, some (.aload_n 0), some (.getfield 35), none, none, some (.iload_n 1), some (.iconst 0), some (.bastore), some (.iinc 1 (1)), none, none, some (.goto (-16)), none, none, some (.aload_n 0), some (.iconst 0), some (.putfield 89), none, none, some (.aload_n 0), some (.iconst (-1)), some (.putfield 45), none, none, some (.return_)]
def zp_p86 : List (Nat × zi_T × List Nat) := [(26, (9, 5, 8, .null), [663]), (29, (9, 5, 9, .null), [664]), (32, (9, 5, 10, .null), [665]), (35, (9, 5, 11, .null), [666]), (45, (0, 5, 15, .null), [670]), (89, (0, 5, 13, .null), [668])]
/-- 87: PatienceTableModel.rules(IIII)Z -/
def zp_l87 : List (Option Jvm.ClassFile.Instr) := [some (.aload_n 0), some (.iconst 0), some (.putfield 69), none, none, some (.iload_n 1), some (.iconst 2), some (.bipush (8)), none, some (.invokestatic 92), none, none, some (.ifCond .eq (31)), none, none, some (.iload_n 2), some (.iconst 0), some (.iconst 4), some (.invokestatic 92), none, none, some (.ifCond .eq (22)), none, none, some (.iload_n 3), some (.iconst 0), some (.iconst 2), some (.invokestatic 92), none, none, some (.ifCond .eq (13)), none, none, some (.iload 4), none, some (.iconst 0), some (.iconst 2), some (.invokestatic 92), none, none, some (.ifCond .ne (5)), none, none, some (.iconst 0), some (.ireturn), some (.aload_n 0), some (.iload_n 1), some (.putfield 7), none, none, some (.aload_n 0), some (.iload_n 2), some (.putfield 13), none, none, some (.aload_n 0), some (.iload_n 3), some (.putfield 76), none, none, some (.aload_n 0), some (.iload 4), none, some (.putfield 86), none, none, some (.aload_n 0), some (.invokevirtual 66), none, none, some (.iconst 1), some (.ireturn)]
def zp_p87 : List (Nat × zi_T × List Nat) := [(7, (0, 5, 1, .null), [656]), (13, (0, 5, 2, .null), [657]), (66, (1, 86, 0, .ref 5), [651, 60, 654, 653, 16]), (69, (0, 5, 0, .null), [655]), (76, (0, 5, 3, .null), [658]), (86, (0, 5, 4, .null), [659]), (92, (3, 79, 3, .null), [752, 60, 754, 753])]
/-- 88: PatienceTableModel.cards(II)Z -/
def zp_l88 : List (Option Jvm.ClassFile.Instr) := [some (.aload_n 0), some (.iconst 0), some (.putfield 69), none, none, some (.iload_n 1), some (.iconst 1), some (.iconst 4), some (.invokestatic 92), none, none, some (.ifCond .eq (13)), none, none, some (.iload_n 2), some (.iconst 1), some (.bipush (13)), none, some (.invokestatic 92), none, none, some (.ifCond .ne (5)), none, none, some (.iconst 0), some (.ireturn), some (.aload_n 0), some (.iload_n 1), some (.putfield 16), none, none, some (.aload_n 0), some (.iload_n 2), some (.putfield 19), none, none, some (.aload_n 0), some (.invokevirtual 66), none, none, some (.iconst 1), some (.ireturn)]
def zp_p88 : List (Nat × zi_T × List Nat) := [(16, (0, 5, 5, .null), [660]), (19, (0, 5, 6, .null), [661]), (66, (1, 86, 0, .ref 5), [651, 60, 654, 653, 16]), (69, (0, 5, 0, .null), [655]), (92, (3, 79, 3, .null), [752, 60, 754, 753])]
/-- 89: PatienceTableModel.clear()V -/
def zp_l89 : List (Option Jvm.ClassFile.Instr) := [some (.aload_n 0), some (.iconst 0), some (.putfield 69), none, none, some (.aload_n 0), some (.invokevirtual 66), none, none, some (.return_)]
def zp_p89 : List (Nat × zi_T × List Nat) := [(66, (1, 86, 0, .ref 5), [651, 60, 654, 653, 16]), (69, (0, 5, 0, .null), [655])]
/-- 90: PatienceTableModel.push(II)V -/
def zp_l90 : List (Option Jvm.ClassFile.Instr) := [some (.aload_n 0), some (.getfield 22), none, none, some (.bipush (52)), none, some (.iload_n 1), some (.imul), some (.aload_n 0), some (.getfield 26), none, none, some (.iload_n 1), some (.iaload), some (.iadd), some (.iload_n 2), some (.iastore), some (.aload_n 0), some (.getfield 26), none, none, some (.iload_n 1), some (.dup2), some (.iaload), some (.iconst 1), some (.iadd), some (.iastore), some (.return_)]
def zp_p90 : List (Nat × zi_T × List Nat) := [(22, (9, 5, 7, .null), [662]), (26, (9, 5, 8, .null), [663])]
/-- 91: PatienceTableModel.deal(I)V -/
def zp_l91 : List (Option Jvm.ClassFile.Instr) := [some (.aload_n 0), some (.iconst 0), some (.putfield 69), none, none, some (.iload_n 1), some (.iconst 0), some (.sipush (32000)), none, none, some (.invokestatic 92), none, none, some (.ifCond .ne (9)), none, none, some (.aload_n 0), some (.iconst 1), some (.putfield 69), none, none, some (.return_), some (.aload_n 0), some (.invokevirtual 66), none, none, some (.aload_n 0), some (.invokevirtual 96), none, none, some (.istore_n 2), some (.iconst 0), some (.istore_n 3), some (.iload_n 3), some (.iload_n 2), some (.if_icmp .ge (16)), none, none, some (.aload_n 0), some (.getfield 39), none, none, some (.iload_n 3), some (.iload_n 3), some (.iastore), some (.iinc 3 (1)), none, none, some (.goto (-15)), none, none, some (.iload_n 1), some (.i2l), some (.lstore_n 3), some (.iconst 0), some (.istore 5), none, some (.iload_n 2), some (.ifCond .le (81)), none, none, some (.ldc2_w 100), none, none, some (.lload_n 3), some (.lmul), some (.ldc2_w 102), none, none, some (.ladd), some (.ldc2_w 104), none, none, some (.lrem), some (.lstore_n 3), some (.lload_n 3), some (.ldc2_w 106), none, none, some (.ldiv), some (.iload_n 2), some (.i2l), some (.lrem), some (.l2i), some (.istore 6), none, some (.aload_n 0), some (.iload 5), none, some (.aload_n 0), some (.getfield 7), none, none, some (.irem), some (.aload_n 0), some (.getfield 39), none, none, some (.iload 6), none, some (.iaload), some (.invokevirtual 108), none, none, some (.aload_n 0), some (.getfield 35), none, none, some (.aload_n 0), some (.getfield 39), none, none, some (.iload 6), none, some (.iaload), some (.iconst 1), some (.bastore), some (.iinc 2 (-1)), none, none, some (.aload_n 0), some (.getfield 39), none, none, some (.iload 6), none, some (.aload_n 0), some (.getfield 39), none, none, some (.iload_n 2), some (.iaload), some (.iastore), some (.iinc 5 (1)), none, none, some (.goto (-79)), none, none, some (.return_)]
def zp_p91 : List (Nat × zi_T × List Nat) := [(7, (0, 5, 1, .null), [656]), (35, (9, 5, 11, .null), [666]), (39, (9, 5, 12, .null), [667]), (66, (1, 86, 0, .ref 5), [651, 60, 654, 653, 16]), (69, (0, 5, 0, .null), [655]), (92, (3, 79, 3, .null), [752, 60, 754, 753]), (96, (1, 80, 0, .ref 5), [767, 60, 770, 769, 17]), (100, (6, 0, 0, .long (214013)), [771]), (102, (6, 0, 0, .long (2531011)), [772]), (104, (6, 0, 0, .long (2147483648)), [773]), (106, (6, 0, 0, .long (65536)), [774]), (108, (1, 90, 2, .ref 5), [775, 60, 778, 777, 18])]
/-- 92: PatienceTableModel.laid()I -/
def zp_l92 : List (Option Jvm.ClassFile.Instr) := [some (.iconst 0), some (.istore_n 1), some (.iconst 0), some (.istore_n 2), some (.iload_n 2), some (.bipush (52)), none, some (.if_icmp .ge (26)), none, none, some (.aload_n 0), some (.getfield 35), none, none, some (.iload_n 2), some (.baload), some (.ifCond .eq (9)), none, none, some (.iload_n 1), some (.iconst 1), some (.iadd), some (.goto (4)), none, none, some (.iload_n 1), some (.istore_n 1), some (.iinc 2 (1)), none, none, some (.goto (-26)), none, none, some (.iload_n 1), some (.ireturn)]
def zp_p92 : List (Nat × zi_T × List Nat) := [(35, (9, 5, 11, .null), [666])]
/-- 93: PatienceTableModel.lay(II)I -/
def zp_l93 : List (Option Jvm.ClassFile.Instr) := [some (.aload_n 0), some (.iconst 0), some (.putfield 69), none, none, some (.iload_n 1), some (.iconst 0), some (.aload_n 0), some (.getfield 7), none, none, some (.iconst 1), some (.isub), some (.invokestatic 92), none, none, some (.ifCond .eq (17)), none, none, some (.iload_n 2), some (.iconst 0), some (.aload_n 0), some (.invokevirtual 96), none, none, some (.iconst 1), some (.isub), some (.invokestatic 92), none, none, some (.ifCond .ne (9)), none, none, some (.aload_n 0), some (.iconst 1), some (.invokevirtual 112), none, none, some (.ireturn), some (.aload_n 0), some (.getfield 35), none, none, some (.iload_n 2), some (.baload), some (.ifCond .eq (9)), none, none, some (.aload_n 0), some (.iconst 2), some (.invokevirtual 112), none, none, some (.ireturn), some (.aload_n 0), some (.iload_n 1), some (.iload_n 2), some (.invokevirtual 108), none, none, some (.aload_n 0), some (.getfield 35), none, none, some (.iload_n 2), some (.iconst 1), some (.bastore), some (.aload_n 0), some (.iconst (-1)), some (.putfield 45), none, none, some (.aload_n 0), some (.invokevirtual 115), none, none, some (.ireturn)]
def zp_p93 : List (Nat × zi_T × List Nat) := [(7, (0, 5, 1, .null), [656]), (35, (9, 5, 11, .null), [666]), (45, (0, 5, 15, .null), [670]), (69, (0, 5, 0, .null), [655]), (92, (3, 79, 3, .null), [752, 60, 754, 753]), (96, (1, 80, 0, .ref 5), [767, 60, 770, 769, 17]), (108, (1, 90, 2, .ref 5), [775, 60, 778, 777, 18]), (112, (1, 78, 1, .ref 5), [783, 60, 786, 785, 19]), (115, (1, 92, 0, .ref 5), [787, 60, 790, 789, 20])]
/-- 94: PatienceTableModel.isColumn(I)Z -/
def zp_l94 : List (Option Jvm.ClassFile.Instr) := [some (.iload_n 1), some (.iconst 0), some (.aload_n 0), some (.getfield 7), none, none, some (.iconst 1), some (.isub), some (.invokestatic 92), none, none, some (.ireturn)]
def zp_p94 : List (Nat × zi_T × List Nat) := [(7, (0, 5, 1, .null), [656]), (92, (3, 79, 3, .null), [752, 60, 754, 753])]
/-- 95: PatienceTableModel.isCell(I)Z -/
def zp_l95 : List (Option Jvm.ClassFile.Instr) := [some (.iload_n 1), some (.bipush (8)), none, some (.bipush (7)), none, some (.aload_n 0), some (.getfield 13), none, none, some (.iadd), some (.invokestatic 92), none, none, some (.ireturn)]
def zp_p95 : List (Nat × zi_T × List Nat) := [(13, (0, 5, 2, .null), [657]), (92, (3, 79, 3, .null), [752, 60, 754, 753])]
/-- 96: PatienceTableModel.atHome()I -/
def zp_l96 : List (Option Jvm.ClassFile.Instr) := [some (.aload_n 0), some (.getfield 32), none, none, some (.iconst 0), some (.iaload), some (.aload_n 0), some (.getfield 32), none, none, some (.iconst 1), some (.iaload), some (.iadd), some (.aload_n 0), some (.getfield 32), none, none, some (.iconst 2), some (.iaload), some (.iadd), some (.aload_n 0), some (.getfield 32), none, none, some (.iconst 3), some (.iaload), some (.iadd), some (.ireturn)]
def zp_p96 : List (Nat × zi_T × List Nat) := [(32, (9, 5, 10, .null), [665])]
/-- 97: PatienceTableModel.fromTop(II)I -/
def zp_l97 : List (Option Jvm.ClassFile.Instr) := [some (.iload_n 2), some (.aload_n 0), some (.getfield 26), none, none, some (.iload_n 1), some (.iaload), some (.if_icmp .ge (26)), none, none, some (.aload_n 0), some (.getfield 22), none, none, some (.bipush (52)), none, some (.iload_n 1), some (.imul), some (.aload_n 0), some (.getfield 26), none, none, some (.iload_n 1), some (.iaload), some (.iadd), some (.iconst 1), some (.isub), some (.iload_n 2), some (.isub), some (.iaload), some (.goto (4)), none, none, some (.iconst (-1)), some (.ireturn)]
def zp_p97 : List (Nat × zi_T × List Nat) := [(22, (9, 5, 7, .null), [662]), (26, (9, 5, 8, .null), [663])]
/-- 98: PatienceTableModel.topOf(I)I -/
def zp_l98 : List (Option Jvm.ClassFile.Instr) := [some (.aload_n 0), some (.iload_n 1), some (.invokevirtual 118), none, none, some (.ifCond .eq (15)), none, none, some (.aload_n 0), some (.getfield 29), none, none, some (.iload_n 1), some (.bipush (8)), none, some (.isub), some (.iaload), some (.goto (9)), none, none, some (.aload_n 0), some (.iload_n 1), some (.iconst 0), some (.invokevirtual 121), none, none, some (.ireturn)]
def zp_p98 : List (Nat × zi_T × List Nat) := [(29, (9, 5, 9, .null), [664]), (118, (1, 95, 1, .ref 5), [799, 60, 802, 801, 22]), (121, (1, 97, 2, .ref 5), [815, 60, 818, 817, 26])]
/-- 99: PatienceTableModel.fitsAt(II)Z -/
def zp_l99 : List (Option Jvm.ClassFile.Instr) := [some (.aload_n 0), some (.getfield 26), none, none, some (.iload_n 2), some (.iaload), some (.ifCond .ne (11)), none, none, some (.aload_n 0), some (.iload_n 1), some (.invokevirtual 125), none, none, some (.goto (14)), none, none, some (.aload_n 0), some (.iload_n 1), some (.aload_n 0), some (.iload_n 2), some (.iconst 0), some (.invokevirtual 121), none, none, some (.invokevirtual 128), none, none, some (.ireturn)]
def zp_p99 : List (Nat × zi_T × List Nat) := [(26, (9, 5, 8, .null), [663]), (121, (1, 97, 2, .ref 5), [815, 60, 818, 817, 26]), (125, (1, 85, 1, .ref 5), [831, 60, 834, 833, 30]), (128, (1, 84, 2, .ref 5), [835, 60, 838, 837, 31])]
/-- 100: PatienceTableModel.mayOne(II)Z -/
def zp_l100 : List (Option Jvm.ClassFile.Instr) := [some (.aload_n 0), some (.iload_n 1), some (.invokevirtual 132), none, none, some (.istore_n 3), some (.iload_n 3), some (.ifCond .lt (8)), none, none, some (.iload_n 1), some (.iload_n 2), some (.if_icmp .ne (5)), none, none, some (.iconst 0), some (.ireturn), some (.iload_n 2), some (.bipush (12)), none, some (.if_icmp .ne (29)), none, none, some (.aload_n 0), some (.getfield 32), none, none, some (.aload_n 0), some (.iload_n 3), some (.invokevirtual 79), none, none, some (.iaload), some (.iconst 1), some (.iadd), some (.aload_n 0), some (.iload_n 3), some (.invokevirtual 72), none, none, some (.if_icmp .ne (7)), none, none, some (.iconst 1), some (.goto (4)), none, none, some (.iconst 0), some (.ireturn), some (.aload_n 0), some (.iload_n 2), some (.invokevirtual 118), none, none, some (.ifCond .eq (29)), none, none, some (.aload_n 0), some (.iload_n 1), some (.invokevirtual 135), none, none, some (.ifCond .eq (19)), none, none, some (.aload_n 0), some (.getfield 29), none, none, some (.iload_n 2), some (.bipush (8)), none, some (.isub), some (.iaload), some (.ifCond .ge (7)), none, none, some (.iconst 1), some (.goto (4)), none, none, some (.iconst 0), some (.ireturn), some (.aload_n 0), some (.iload_n 3), some (.iload_n 2), some (.invokevirtual 138), none, none, some (.ireturn)]
def zp_p100 : List (Nat × zi_T × List Nat) := [(29, (9, 5, 9, .null), [664]), (32, (9, 5, 10, .null), [665]), (72, (1, 82, 1, .ref 5), [823, 60, 826, 825, 28]), (79, (1, 81, 1, .ref 5), [819, 60, 822, 821, 27]), (118, (1, 95, 1, .ref 5), [799, 60, 802, 801, 22]), (132, (1, 98, 1, .ref 5), [811, 60, 814, 813, 25]), (135, (1, 94, 1, .ref 5), [795, 60, 798, 797, 21]), (138, (1, 99, 2, .ref 5), [827, 60, 830, 829, 29])]
/-- 101: PatienceTableModel.limit(I)I -/
def zp_l101 : List (Option Jvm.ClassFile.Instr) := [some (.iconst 1), some (.istore_n 2), some (.iconst 0), some (.istore_n 3), some (.iload_n 3), some (.aload_n 0), some (.getfield 13), none, none, some (.if_icmp .ge (26)), none, none, some (.aload_n 0), some (.getfield 29), none, none, some (.iload_n 3), some (.iaload), some (.ifCond .ge (9)), none, none, some (.iload_n 2), some (.iconst 1), some (.iadd), some (.goto (4)), none, none, some (.iload_n 2), some (.istore_n 2), some (.iinc 3 (1)), none, none, some (.goto (-28)), none, none, some (.iconst 0), some (.istore_n 3), some (.iload_n 3), some (.aload_n 0), some (.getfield 7), none, none, some (.if_icmp .ge (38)), none, none, some (.aload_n 0), some (.getfield 86), none, none, some (.ifCond .ne (23)), none, none, some (.iload_n 3), some (.iload_n 1), some (.if_icmp .eq (18)), none, none, some (.aload_n 0), some (.getfield 26), none, none, some (.iload_n 3), some (.iaload), some (.ifCond .ne (9)), none, none, some (.iconst 2), some (.iload_n 2), some (.imul), some (.goto (4)), none, none, some (.iload_n 2), some (.istore_n 2), some (.iinc 3 (1)), none, none, some (.goto (-40)), none, none, some (.iload_n 2), some (.ireturn)]
def zp_p101 : List (Nat × zi_T × List Nat) := [(7, (0, 5, 1, .null), [656]), (13, (0, 5, 2, .null), [657]), (26, (9, 5, 8, .null), [663]), (29, (9, 5, 9, .null), [664]), (86, (0, 5, 4, .null), [659])]
/-- 102: PatienceTableModel.may(III)Z -/
def zp_l102 : List (Option Jvm.ClassFile.Instr) := [some (.iload_n 3), some (.iconst 1), some (.if_icmp .ne (10)), none, none, some (.aload_n 0), some (.iload_n 1), some (.iload_n 2), some (.invokevirtual 141), none, none, some (.ireturn), some (.aload_n 0), some (.iload_n 1), some (.invokevirtual 135), none, none, some (.ifCond .eq (35)), none, none, some (.aload_n 0), some (.iload_n 2), some (.invokevirtual 135), none, none, some (.ifCond .eq (27)), none, none, some (.iload_n 1), some (.iload_n 2), some (.if_icmp .eq (22)), none, none, some (.iload_n 3), some (.aload_n 0), some (.getfield 26), none, none, some (.iload_n 1), some (.iaload), some (.if_icmp .gt (12)), none, none, some (.iload_n 3), some (.aload_n 0), some (.iload_n 2), some (.invokevirtual 144), none, none, some (.if_icmp .le (5)), none, none, some (.iconst 0), some (.ireturn), some (.iconst 0), some (.istore 4), none, some (.iload 4), none, some (.iconst 1), some (.iadd), some (.iload_n 3), some (.if_icmp .ge (34)), none, none, some (.aload_n 0), some (.aload_n 0), some (.iload_n 1), some (.iload 4), none, some (.invokevirtual 121), none, none, some (.aload_n 0), some (.iload_n 1), some (.iload 4), none, some (.iconst 1), some (.iadd), some (.invokevirtual 121), none, none, some (.invokevirtual 128), none, none, some (.ifCond .ne (5)), none, none, some (.iconst 0), some (.ireturn), some (.iinc 4 (1)), none, none, some (.goto (-36)), none, none, some (.aload_n 0), some (.aload_n 0), some (.iload_n 1), some (.iload_n 3), some (.iconst 1), some (.isub), some (.invokevirtual 121), none, none, some (.iload_n 2), some (.invokevirtual 138), none, none, some (.ireturn)]
def zp_p102 : List (Nat × zi_T × List Nat) := [(26, (9, 5, 8, .null), [663]), (121, (1, 97, 2, .ref 5), [815, 60, 818, 817, 26]), (128, (1, 84, 2, .ref 5), [835, 60, 838, 837, 31]), (135, (1, 94, 1, .ref 5), [795, 60, 798, 797, 21]), (138, (1, 99, 2, .ref 5), [827, 60, 830, 829, 29]), (141, (1, 100, 2, .ref 5), [807, 60, 810, 809, 24]), (144, (1, 101, 1, .ref 5), [842, 60, 845, 844, 32])]
/-- 103: PatienceTableModel.take(II)I -/
def zp_l103 : List (Option Jvm.ClassFile.Instr) := [some (.iload_n 1), some (.bipush (12)), none, some (.if_icmp .ne (20)), none, none, some (.aload_n 0), some (.getfield 32), none, none, some (.aload_n 0), some (.iload_n 2), some (.invokevirtual 79), none, none, some (.dup2), some (.iaload), some (.iconst 1), some (.isub), some (.iastore), some (.goto (34)), none, none, some (.aload_n 0), some (.iload_n 1), some (.invokevirtual 118), none, none, some (.ifCond .eq (16)), none, none, some (.aload_n 0), some (.getfield 29), none, none, some (.iload_n 1), some (.bipush (8)), none, some (.isub), some (.iconst (-1)), some (.iastore), some (.goto (13)), none, none, some (.aload_n 0), some (.getfield 26), none, none, some (.iload_n 1), some (.dup2), some (.iaload), some (.iconst 1), some (.isub), some (.iastore), some (.iload_n 2), some (.ireturn)]
def zp_p103 : List (Nat × zi_T × List Nat) := [(26, (9, 5, 8, .null), [663]), (29, (9, 5, 9, .null), [664]), (32, (9, 5, 10, .null), [665]), (79, (1, 81, 1, .ref 5), [819, 60, 822, 821, 27]), (118, (1, 95, 1, .ref 5), [799, 60, 802, 801, 22])]
/-- 104: PatienceTableModel.give(II)V -/
def zp_l104 : List (Option Jvm.ClassFile.Instr) := [some (.iload_n 1), some (.bipush (12)), none, some (.if_icmp .ne (20)), none, none, some (.aload_n 0), some (.getfield 32), none, none, some (.aload_n 0), some (.iload_n 2), some (.invokevirtual 79), none, none, some (.dup2), some (.iaload), some (.iconst 1), some (.iadd), some (.iastore), some (.goto (30)), none, none, some (.aload_n 0), some (.iload_n 1), some (.invokevirtual 118), none, none, some (.ifCond .eq (16)), none, none, some (.aload_n 0), some (.getfield 29), none, none, some (.iload_n 1), some (.bipush (8)), none, some (.isub), some (.iload_n 2), some (.iastore), some (.goto (9)), none, none, some (.aload_n 0), some (.iload_n 1), some (.iload_n 2), some (.invokevirtual 108), none, none, some (.return_)]
def zp_p104 : List (Nat × zi_T × List Nat) := [(29, (9, 5, 9, .null), [664]), (32, (9, 5, 10, .null), [665]), (79, (1, 81, 1, .ref 5), [819, 60, 822, 821, 27]), (108, (1, 90, 2, .ref 5), [775, 60, 778, 777, 18]), (118, (1, 95, 1, .ref 5), [799, 60, 802, 801, 22])]
/-- 105: PatienceTableModel.bring(IIII)V -/
def zp_l105 : List (Option Jvm.ClassFile.Instr) := [some (.iload_n 3), some (.iconst 1), some (.if_icmp .ne (16)), none, none, some (.aload_n 0), some (.iload_n 2), some (.aload_n 0), some (.iload_n 1), some (.iload 4), none, some (.invokevirtual 147), none, none, some (.invokevirtual 150), none, none, some (.return_), some (.iload_n 3), some (.iconst 1), some (.isub), some (.istore 5), none, some (.iload 5), none, some (.ifCond .lt (21)), none, none, some (.aload_n 0), some (.iload_n 2), some (.aload_n 0), some (.iload_n 1), some (.iload 5), none, some (.invokevirtual 121), none, none, some (.invokevirtual 108), none, none, some (.iinc 5 (-1)), none, none, some (.goto (-20)), none, none, some (.aload_n 0), some (.getfield 26), none, none, some (.iload_n 1), some (.aload_n 0), some (.getfield 26), none, none, some (.iload_n 1), some (.iaload), some (.iload_n 3), some (.isub), some (.iastore), some (.return_)]
def zp_p105 : List (Nat × zi_T × List Nat) := [(26, (9, 5, 8, .null), [663]), (108, (1, 90, 2, .ref 5), [775, 60, 778, 777, 18]), (121, (1, 97, 2, .ref 5), [815, 60, 818, 817, 26]), (147, (1, 103, 2, .ref 5), [854, 60, 857, 856, 35]), (150, (1, 104, 2, .ref 5), [858, 60, 861, 860, 36])]
/-- 106: PatienceTableModel.make(III)V -/
def zp_l106 : List (Option Jvm.ClassFile.Instr) := [some (.aload_n 0), some (.getfield 89), none, none, some (.bipush (60)), none, some (.if_icmp .ne (46)), none, none, some (.iconst 0), some (.istore 4), none, some (.iload 4), none, some (.sipush (236)), none, none, some (.if_icmp .ge (25)), none, none, some (.aload_n 0), some (.getfield 42), none, none, some (.iload 4), none, some (.aload_n 0), some (.getfield 42), none, none, some (.iload 4), none, some (.iconst 4), some (.iadd), some (.iaload), some (.iastore), some (.iinc 4 (1)), none, none, some (.goto (-27)), none, none, some (.aload_n 0), some (.dup), some (.getfield 89), none, none, some (.iconst 1), some (.isub), some (.putfield 89), none, none, some (.aload_n 0), some (.iload_n 1), some (.invokevirtual 132), none, none, some (.istore 4), none, some (.aload_n 0), some (.getfield 42), none, none, some (.iconst 4), some (.aload_n 0), some (.getfield 89), none, none, some (.imul), some (.iload_n 1), some (.iastore), some (.aload_n 0), some (.getfield 42), none, none, some (.iconst 4), some (.aload_n 0), some (.getfield 89), none, none, some (.imul), some (.iconst 1), some (.iadd), some (.iload_n 2), some (.iastore), some (.aload_n 0), some (.getfield 42), none, none, some (.iconst 4), some (.aload_n 0), some (.getfield 89), none, none, some (.imul), some (.iconst 2), some (.iadd), some (.iload_n 3), some (.iastore), some (.aload_n 0), some (.getfield 42), none, none, some (.iconst 4), some (.aload_n 0), some (.getfield 89), none, none, some (.imul), some (.iconst 3), some (.iadd), some (.iload 4), none, some (.iastore), some (.aload_n 0), some (.dup), some (.getfield 89), none, none, some (.iconst 1), some (.iadd), some (.putfield 89), none, none, some (.aload_n 0), some (.iconst (-1)), some (.putfield 45), none, none, some (.aload_n 0), some (.iload_n 1), some (.iload_n 2), some (.iload_n 3), some (.iload 4), none, some (.invokevirtual 153), none, none, some (.return_)]
def zp_p106 : List (Nat × zi_T × List Nat) := [(42, (9, 5, 14, .null), [669]), (45, (0, 5, 15, .null), [670]), (89, (0, 5, 13, .null), [668]), (132, (1, 98, 1, .ref 5), [811, 60, 814, 813, 25]), (153, (1, 105, 4, .ref 5), [850, 60, 853, 852, 34])]
/-- 107: PatienceTableModel.move(III)I -/
def zp_l107 : List (Option Jvm.ClassFile.Instr) := [some (.aload_n 0), some (.iconst 0), some (.putfield 69), none, none, some (.aload_n 0), some (.iload_n 1), some (.invokevirtual 135), none, none, some (.ifCond .ne (11)), none, none, some (.aload_n 0), some (.iload_n 1), some (.invokevirtual 118), none, none, some (.ifCond .eq (30)), none, none, some (.aload_n 0), some (.iload_n 2), some (.invokevirtual 135), none, none, some (.ifCond .ne (17)), none, none, some (.aload_n 0), some (.iload_n 2), some (.invokevirtual 118), none, none, some (.ifCond .ne (9)), none, none, some (.iload_n 2), some (.bipush (12)), none, some (.if_icmp .ne (8)), none, none, some (.iload_n 3), some (.iconst 1), some (.if_icmp .ge (9)), none, none, some (.aload_n 0), some (.iconst 1), some (.invokevirtual 112), none, none, some (.ireturn), some (.aload_n 0), some (.invokevirtual 115), none, none, some (.aload_n 0), some (.invokevirtual 96), none, none, some (.if_icmp .lt (13)), none, none, some (.aload_n 0), some (.iload_n 1), some (.iload_n 2), some (.iload_n 3), some (.invokevirtual 157), none, none, some (.ifCond .ne (9)), none, none, some (.aload_n 0), some (.iconst 2), some (.invokevirtual 112), none, none, some (.ireturn), some (.aload_n 0), some (.iload_n 1), some (.iload_n 2), some (.iload_n 3), some (.invokevirtual 160), none, none, some (.aload_n 0), some (.invokevirtual 164), none, none, some (.ireturn)]
def zp_p107 : List (Nat × zi_T × List Nat) := [(69, (0, 5, 0, .null), [655]), (96, (1, 80, 0, .ref 5), [767, 60, 770, 769, 17]), (112, (1, 78, 1, .ref 5), [783, 60, 786, 785, 19]), (115, (1, 92, 0, .ref 5), [787, 60, 790, 789, 20]), (118, (1, 95, 1, .ref 5), [799, 60, 802, 801, 22]), (135, (1, 94, 1, .ref 5), [795, 60, 798, 797, 21]), (157, (1, 102, 3, .ref 5), [803, 60, 806, 805, 23]), (160, (1, 106, 3, .ref 5), [846, 60, 849, 848, 33]), (164, (1, 96, 0, .ref 5), [862, 60, 865, 864, 37])]
/-- 108: PatienceTableModel.placeOf(I)I -/
def zp_l108 : List (Option Jvm.ClassFile.Instr) := [some (.iload_n 1), some (.bipush (104)), none, some (.if_icmp .ne (6)), none, none, some (.bipush (12)), none, some (.ireturn), some (.iload_n 1), some (.bipush (97)), none, some (.bipush (100)), none, some (.invokestatic 92), none, none, some (.ifCond .eq (13)), none, none, some (.bipush (8)), none, some (.iload_n 1), some (.iadd), some (.bipush (97)), none, some (.isub), some (.goto (22)), none, none, some (.iload_n 1), some (.bipush (49)), none, some (.bipush (56)), none, some (.invokestatic 92), none, none, some (.ifCond .eq (10)), none, none, some (.iload_n 1), some (.bipush (49)), none, some (.isub), some (.goto (4)), none, none, some (.iconst (-1)), some (.istore_n 2), some (.aload_n 0), some (.iload_n 2), some (.invokevirtual 135), none, none, some (.ifCond .ne (11)), none, none, some (.aload_n 0), some (.iload_n 2), some (.invokevirtual 118), none, none, some (.ifCond .eq (7)), none, none, some (.iload_n 2), some (.goto (4)), none, none, some (.iconst (-1)), some (.ireturn)]
def zp_p108 : List (Nat × zi_T × List Nat) := [(92, (3, 79, 3, .null), [752, 60, 754, 753]), (118, (1, 95, 1, .ref 5), [799, 60, 802, 801, 22]), (135, (1, 94, 1, .ref 5), [795, 60, 798, 797, 21])]
/-- 109: PatienceTableModel.mostOf(II)I -/
def zp_l109 : List (Option Jvm.ClassFile.Instr) := [some (.iconst 0), some (.istore_n 3), some (.iconst 1), some (.istore 4), none, some (.iload 4), none, some (.aload_n 0), some (.getfield 26), none, none, some (.iload_n 1), some (.iaload), some (.if_icmp .gt (27)), none, none, some (.aload_n 0), some (.iload_n 1), some (.iload_n 2), some (.iload 4), none, some (.invokevirtual 157), none, none, some (.ifCond .eq (8)), none, none, some (.iload 4), none, some (.goto (4)), none, none, some (.iload_n 3), some (.istore_n 3), some (.iinc 4 (1)), none, none, some (.goto (-32)), none, none, some (.iload_n 3), some (.ireturn)]
def zp_p109 : List (Nat × zi_T × List Nat) := [(26, (9, 5, 8, .null), [663]), (157, (1, 102, 3, .ref 5), [803, 60, 806, 805, 23])]
/-- 110: PatienceTableModel.play(CC)I -/
def zp_l110 : List (Option Jvm.ClassFile.Instr) := [some (.aload_n 0), some (.iconst 0), some (.putfield 69), none, none, some (.aload_n 0), some (.iload_n 1), some (.invokevirtual 167), none, none, some (.istore_n 3), some (.aload_n 0), some (.iload_n 2), some (.invokevirtual 167), none, none, some (.istore 4), none, some (.iload_n 3), some (.ifCond .lt (14)), none, none, some (.iload 4), none, some (.ifCond .lt (9)), none, none, some (.iload_n 3), some (.bipush (12)), none, some (.if_icmp .ne (9)), none, none, some (.aload_n 0), some (.iconst 1), some (.invokevirtual 112), none, none, some (.ireturn), some (.aload_n 0), some (.iload_n 3), some (.invokevirtual 135), none, none, some (.ifCond .eq (22)), none, none, some (.aload_n 0), some (.iload 4), none, some (.invokevirtual 135), none, none, some (.ifCond .eq (13)), none, none, some (.aload_n 0), some (.iload_n 3), some (.iload 4), none, some (.invokevirtual 170), none, none, some (.goto (18)), none, none, some (.aload_n 0), some (.iload_n 3), some (.iload 4), none, some (.invokevirtual 141), none, none, some (.ifCond .eq (7)), none, none, some (.iconst 1), some (.goto (4)), none, none, some (.iconst 0), some (.istore 5), none, some (.aload_n 0), some (.invokevirtual 115), none, none, some (.aload_n 0), some (.invokevirtual 96), none, none, some (.if_icmp .lt (8)), none, none, some (.iload 5), none, some (.ifCond .ne (9)), none, none, some (.aload_n 0), some (.iconst 2), some (.invokevirtual 112), none, none, some (.ireturn), some (.aload_n 0), some (.iload_n 3), some (.iload 4), none, some (.iload 5), none, some (.invokevirtual 160), none, none, some (.iload 5), none, some (.ireturn)]
def zp_p110 : List (Nat × zi_T × List Nat) := [(69, (0, 5, 0, .null), [655]), (96, (1, 80, 0, .ref 5), [767, 60, 770, 769, 17]), (112, (1, 78, 1, .ref 5), [783, 60, 786, 785, 19]), (115, (1, 92, 0, .ref 5), [787, 60, 790, 789, 20]), (135, (1, 94, 1, .ref 5), [795, 60, 798, 797, 21]), (141, (1, 100, 2, .ref 5), [807, 60, 810, 809, 24]), (160, (1, 106, 3, .ref 5), [846, 60, 849, 848, 33]), (167, (1, 108, 1, .ref 5), [870, 60, 873, 872, 38]), (170, (1, 109, 2, .ref 5), [874, 60, 877, 876, 39])]
/-- 111: PatienceTableModel.isSafe(I)Z -/
def zp_l111 : List (Option Jvm.ClassFile.Instr) := [some (.iconst 1), some (.istore_n 2), some (.iconst 0), some (.istore_n 3), some (.iload_n 3), some (.aload_n 0), some (.getfield 16), none, none, some (.if_icmp .ge (86)), none, none, some (.aload_n 0), some (.getfield 76), none, none, some (.iconst 2), some (.if_icmp .eq (25)), none, none, some (.aload_n 0), some (.getfield 76), none, none, some (.ifCond .ne (22)), none, none, some (.iload_n 3), some (.invokestatic 82), none, none, some (.aload_n 0), some (.iload_n 1), some (.invokevirtual 79), none, none, some (.invokestatic 82), none, none, some (.if_icmp .eq (7)), none, none, some (.iconst 1), some (.goto (4)), none, none, some (.iconst 0), some (.istore 4), none, some (.iload_n 2), some (.ifCond .eq (37)), none, none, some (.iload 4), none, some (.ifCond .eq (28)), none, none, some (.aload_n 0), some (.iload_n 1), some (.invokevirtual 72), none, none, some (.iconst 3), some (.if_icmp .lt (19)), none, none, some (.aload_n 0), some (.getfield 32), none, none, some (.iload_n 3), some (.iaload), some (.iconst 1), some (.iadd), some (.aload_n 0), some (.iload_n 1), some (.invokevirtual 72), none, none, some (.if_icmp .lt (7)), none, none, some (.iconst 1), some (.goto (4)), none, none, some (.iconst 0), some (.istore_n 2), some (.iinc 3 (1)), none, none, some (.goto (-88)), none, none, some (.iload_n 2), some (.ireturn)]
def zp_p111 : List (Nat × zi_T × List Nat) := [(16, (0, 5, 5, .null), [660]), (32, (9, 5, 10, .null), [665]), (72, (1, 82, 1, .ref 5), [823, 60, 826, 825, 28]), (76, (0, 5, 3, .null), [658]), (79, (1, 81, 1, .ref 5), [819, 60, 822, 821, 27]), (82, (3, 83, 1, .null), [839, 60, 841, 840])]
/-- 112: PatienceTableModel.safePlace()I -/
def zp_l112 : List (Option Jvm.ClassFile.Instr) := [some (.iconst 0), some (.istore_n 1), some (.iload_n 1), some (.bipush (12)), none, some (.if_icmp .ge (65)), none, none, some (.iload_n 1), some (.iconst 4), some (.if_icmp .ge (10)), none, none, some (.bipush (8)), none, some (.iload_n 1), some (.iadd), some (.goto (6)), none, none, some (.iload_n 1), some (.iconst 4), some (.isub), some (.istore_n 2), some (.aload_n 0), some (.iload_n 2), some (.invokevirtual 118), none, none, some (.ifCond .ne (11)), none, none, some (.aload_n 0), some (.iload_n 2), some (.invokevirtual 135), none, none, some (.ifCond .eq (27)), none, none, some (.aload_n 0), some (.iload_n 2), some (.bipush (12)), none, some (.invokevirtual 141), none, none, some (.ifCond .eq (17)), none, none, some (.aload_n 0), some (.aload_n 0), some (.iload_n 2), some (.invokevirtual 132), none, none, some (.invokevirtual 173), none, none, some (.ifCond .eq (5)), none, none, some (.iload_n 2), some (.ireturn), some (.iinc 1 (1)), none, none, some (.goto (-65)), none, none, some (.iconst (-1)), some (.ireturn)]
def zp_p112 : List (Nat × zi_T × List Nat) := [(118, (1, 95, 1, .ref 5), [799, 60, 802, 801, 22]), (132, (1, 98, 1, .ref 5), [811, 60, 814, 813, 25]), (135, (1, 94, 1, .ref 5), [795, 60, 798, 797, 21]), (141, (1, 100, 2, .ref 5), [807, 60, 810, 809, 24]), (173, (1, 111, 1, .ref 5), [886, 60, 889, 888, 41])]
/-- 113: PatienceTableModel.sendHome()I -/
def zp_l113 : List (Option Jvm.ClassFile.Instr) := [some (.aload_n 0), some (.iconst 0), some (.putfield 69), none, none, some (.aload_n 0), some (.invokevirtual 115), none, none, some (.aload_n 0), some (.invokevirtual 96), none, none, some (.if_icmp .ge (9)), none, none, some (.aload_n 0), some (.iconst 1), some (.invokevirtual 112), none, none, some (.ireturn), some (.iconst 0), some (.istore_n 1), some (.aload_n 0), some (.invokevirtual 176), none, none, some (.istore_n 2), some (.iload_n 2), some (.ifCond .lt (22)), none, none, some (.aload_n 0), some (.iload_n 2), some (.bipush (12)), none, some (.iconst 1), some (.invokevirtual 160), none, none, some (.iinc 1 (1)), none, none, some (.aload_n 0), some (.invokevirtual 176), none, none, some (.istore_n 2), some (.goto (-20)), none, none, some (.iload_n 1), some (.ireturn)]
def zp_p113 : List (Nat × zi_T × List Nat) := [(69, (0, 5, 0, .null), [655]), (96, (1, 80, 0, .ref 5), [767, 60, 770, 769, 17]), (112, (1, 78, 1, .ref 5), [783, 60, 786, 785, 19]), (115, (1, 92, 0, .ref 5), [787, 60, 790, 789, 20]), (160, (1, 106, 3, .ref 5), [846, 60, 849, 848, 33]), (176, (1, 112, 0, .ref 5), [882, 60, 885, 884, 40])]
/-- 114: PatienceTableModel.undo()I -/
def zp_l114 : List (Option Jvm.ClassFile.Instr) := [some (.aload_n 0), some (.iconst 0), some (.putfield 69), none, none, some (.aload_n 0), some (.getfield 89), none, none, some (.ifCond .ne (9)), none, none, some (.aload_n 0), some (.iconst 1), some (.invokevirtual 112), none, none, some (.ireturn), some (.aload_n 0), some (.dup), some (.getfield 89), none, none, some (.iconst 1), some (.isub), some (.putfield 89), none, none, some (.aload_n 0), some (.iconst (-1)), some (.putfield 45), none, none, some (.aload_n 0), some (.getfield 42), none, none, some (.iconst 4), some (.aload_n 0), some (.getfield 89), none, none, some (.imul), some (.iconst 2), some (.iadd), some (.iaload), some (.istore_n 1), some (.aload_n 0), some (.aload_n 0), some (.getfield 42), none, none, some (.iconst 4), some (.aload_n 0), some (.getfield 89), none, none, some (.imul), some (.iconst 1), some (.iadd), some (.iaload), some (.aload_n 0), some (.getfield 42), none, none, some (.iconst 4), some (.aload_n 0), some (.getfield 89), none, none, some (.imul), some (.iaload), some (.iload_n 1), some (.aload_n 0), some (.getfield 42), none, none, some (.iconst 4), some (.aload_n 0), some (.getfield 89), none, none, some (.imul), some (.iconst 3), some (.iadd), some (.iaload), some (.invokevirtual 153), none, none, some (.iload_n 1), some (.ireturn)]
def zp_p114 : List (Nat × zi_T × List Nat) := [(42, (9, 5, 14, .null), [669]), (45, (0, 5, 15, .null), [670]), (69, (0, 5, 0, .null), [655]), (89, (0, 5, 13, .null), [668]), (112, (1, 78, 1, .ref 5), [783, 60, 786, 785, 19]), (153, (1, 105, 4, .ref 5), [850, 60, 853, 852, 34])]
/-- 115: PatienceTableModel.log()I -/
def zp_l115 : List (Option Jvm.ClassFile.Instr) := [some (.aload_n 0), some (.iconst 0), some (.putfield 69), none, none, some (.aload_n 0), some (.getfield 89), none, none, some (.ireturn)]
def zp_p115 : List (Nat × zi_T × List Nat) := [(69, (0, 5, 0, .null), [655]), (89, (0, 5, 13, .null), [668])]
/-- 116: PatienceTableModel.card(II)I -/
def zp_l116 : List (Option Jvm.ClassFile.Instr) := [some (.aload_n 0), some (.iconst 0), some (.putfield 69), none, none, some (.iload_n 1), some (.bipush (12)), none, some (.if_icmp .ne (46)), none, none, some (.iload_n 2), some (.iconst 0), some (.aload_n 0), some (.getfield 16), none, none, some (.iconst 1), some (.isub), some (.invokestatic 92), none, none, some (.ifCond .eq (30)), none, none, some (.aload_n 0), some (.getfield 32), none, none, some (.iload_n 2), some (.iaload), some (.ifCond .le (21)), none, none, some (.aload_n 0), some (.getfield 16), none, none, some (.aload_n 0), some (.getfield 32), none, none, some (.iload_n 2), some (.iaload), some (.iconst 1), some (.isub), some (.imul), some (.iload_n 2), some (.iadd), some (.goto (4)), none, none, some (.iconst (-1)), some (.ireturn), some (.aload_n 0), some (.iload_n 1), some (.invokevirtual 118), none, none, some (.ifCond .eq (21)), none, none, some (.iload_n 2), some (.ifCond .ne (15)), none, none, some (.aload_n 0), some (.getfield 29), none, none, some (.iload_n 1), some (.bipush (8)), none, some (.isub), some (.iaload), some (.goto (4)), none, none, some (.iconst (-1)), some (.ireturn), some (.aload_n 0), some (.iload_n 1), some (.invokevirtual 135), none, none, some (.ifCond .eq (31)), none, none, some (.iload_n 2), some (.ifCond .lt (27)), none, none, some (.iload_n 2), some (.aload_n 0), some (.getfield 26), none, none, some (.iload_n 1), some (.iaload), some (.if_icmp .ge (17)), none, none, some (.aload_n 0), some (.getfield 22), none, none, some (.bipush (52)), none, some (.iload_n 1), some (.imul), some (.iload_n 2), some (.iadd), some (.iaload), some (.goto (4)), none, none, some (.iconst (-1)), some (.ireturn)]
def zp_p116 : List (Nat × zi_T × List Nat) := [(16, (0, 5, 5, .null), [660]), (22, (9, 5, 7, .null), [662]), (26, (9, 5, 8, .null), [663]), (29, (9, 5, 9, .null), [664]), (32, (9, 5, 10, .null), [665]), (69, (0, 5, 0, .null), [655]), (92, (3, 79, 3, .null), [752, 60, 754, 753]), (118, (1, 95, 1, .ref 5), [799, 60, 802, 801, 22]), (135, (1, 94, 1, .ref 5), [795, 60, 798, 797, 21])]
/-- 117: PatienceTableModel.size(I)I -/
def zp_l117 : List (Option Jvm.ClassFile.Instr) := [some (.aload_n 0), some (.iconst 0), some (.putfield 69), none, none, some (.iload_n 1), some (.bipush (12)), none, some (.if_icmp .ne (8)), none, none, some (.aload_n 0), some (.invokevirtual 164), none, none, some (.ireturn), some (.aload_n 0), some (.iload_n 1), some (.invokevirtual 118), none, none, some (.ifCond .eq (23)), none, none, some (.aload_n 0), some (.getfield 29), none, none, some (.iload_n 1), some (.bipush (8)), none, some (.isub), some (.iaload), some (.ifCond .ge (7)), none, none, some (.iconst 0), some (.goto (25)), none, none, some (.iconst 1), some (.goto (21)), none, none, some (.aload_n 0), some (.iload_n 1), some (.invokevirtual 135), none, none, some (.ifCond .eq (12)), none, none, some (.aload_n 0), some (.getfield 26), none, none, some (.iload_n 1), some (.iaload), some (.goto (4)), none, none, some (.iconst (-1)), some (.ireturn)]
def zp_p117 : List (Nat × zi_T × List Nat) := [(26, (9, 5, 8, .null), [663]), (29, (9, 5, 9, .null), [664]), (69, (0, 5, 0, .null), [655]), (118, (1, 95, 1, .ref 5), [799, 60, 802, 801, 22]), (135, (1, 94, 1, .ref 5), [795, 60, 798, 797, 21]), (164, (1, 96, 0, .ref 5), [862, 60, 865, 864, 37])]
/-- 118: PatienceTableModel.most(II)I -/
def zp_l118 : List (Option Jvm.ClassFile.Instr) := [some (.aload_n 0), some (.iconst 0), some (.putfield 69), none, none, some (.aload_n 0), some (.iload_n 1), some (.invokevirtual 135), none, none, some (.ifCond .eq (31)), none, none, some (.aload_n 0), some (.iload_n 2), some (.invokevirtual 135), none, none, some (.ifCond .eq (23)), none, none, some (.aload_n 0), some (.invokevirtual 115), none, none, some (.aload_n 0), some (.invokevirtual 96), none, none, some (.if_icmp .ne (12)), none, none, some (.aload_n 0), some (.iload_n 1), some (.iload_n 2), some (.invokevirtual 170), none, none, some (.goto (4)), none, none, some (.iconst 0), some (.ireturn)]
def zp_p118 : List (Nat × zi_T × List Nat) := [(69, (0, 5, 0, .null), [655]), (96, (1, 80, 0, .ref 5), [767, 60, 770, 769, 17]), (115, (1, 92, 0, .ref 5), [787, 60, 790, 789, 20]), (135, (1, 94, 1, .ref 5), [795, 60, 798, 797, 21]), (170, (1, 109, 2, .ref 5), [874, 60, 877, 876, 39])]
/-- 119: PatienceTableModel.begin()V -/
def zp_l119 : List (Option Jvm.ClassFile.Instr) := [some (.iconst 0), some (.istore_n 1), some (.iload_n 1), some (.bipush (52)), none, some (.if_icmp .ge (28)), none, none, some (.aload_n 0), some (.getfield 48), none, none, some (.iload_n 1), some (.iload_n 1), some (.aload_n 0), some (.invokevirtual 96), none, none, some (.if_icmp .ge (7)), none, none, some (.iconst 1), some (.goto (4)), none, none, some (.iconst 0), some (.iastore), some (.iinc 1 (1)), none, none, some (.goto (-28)), none, none, some (.iconst 0), some (.istore_n 1), some (.iload_n 1), some (.aload_n 0), some (.getfield 7), none, none, some (.if_icmp .ge (67)), none, none, some (.iconst 0), some (.istore_n 2), some (.iload_n 2), some (.aload_n 0), some (.getfield 26), none, none, some (.iload_n 1), some (.iaload), some (.if_icmp .ge (49)), none, none, some (.aload_n 0), some (.getfield 48), none, none, some (.aload_n 0), some (.getfield 22), none, none, some (.bipush (52)), none, some (.iload_n 1), some (.imul), some (.iload_n 2), some (.iadd), some (.iaload), some (.iload_n 2), some (.ifCond .ne (7)), none, none, some (.iconst 3), some (.goto (19)), none, none, some (.bipush (10)), none, some (.aload_n 0), some (.getfield 22), none, none, some (.bipush (52)), none, some (.iload_n 1), some (.imul), some (.iload_n 2), some (.iadd), some (.iconst 1), some (.isub), some (.iaload), some (.iadd), some (.iastore), some (.iinc 2 (1)), none, none, some (.goto (-53)), none, none, some (.iinc 1 (1)), none, none, some (.goto (-69)), none, none, some (.iconst 0), some (.istore_n 1), some (.iload_n 1), some (.aload_n 0), some (.getfield 13), none, none, some (.if_icmp .ge (30)), none, none, some (.aload_n 0), some (.getfield 29), none, none, some (.iload_n 1), some (.iaload), some (.ifCond .lt (15)), none, none, some (.aload_n 0), some (.getfield 48), none, none, some (.aload_n 0), some (.getfield 29), none, none, some (.iload_n 1), some (.iaload), some (.iconst 2), some (.iastore), some (.iinc 1 (1)), none, none, some (.goto (-32)), none, none, some (.return_)]
def zp_p119 : List (Nat × zi_T × List Nat) := [(7, (0, 5, 1, .null), [656]), (13, (0, 5, 2, .null), [657]), (22, (9, 5, 7, .null), [662]), (26, (9, 5, 8, .null), [663]), (29, (9, 5, 9, .null), [664]), (48, (9, 5, 17, .null), [672]), (96, (1, 80, 0, .ref 5), [767, 60, 770, 769, 17])]
/-- 120: PatienceTableModel.sumOf(I)I -/
def zp_l120 : List (Option Jvm.ClassFile.Instr) := [some (.iconst 0), some (.istore_n 2), some (.iconst 0), some (.istore_n 3), some (.iload_n 3), some (.bipush (52)), none, some (.if_icmp .ge (26)), none, none, some (.bipush (31)), none, some (.iload_n 2), some (.imul), some (.aload_n 0), some (.getfield 48), none, none, some (.bipush (52)), none, some (.iload_n 1), some (.imul), some (.iload_n 3), some (.iadd), some (.iaload), some (.iadd), some (.istore_n 2), some (.iinc 3 (1)), none, none, some (.goto (-26)), none, none, some (.iload_n 2), some (.ireturn)]
def zp_p120 : List (Nat × zi_T × List Nat) := [(48, (9, 5, 17, .null), [672])]
/-- 121: PatienceTableModel.regard(I)V -/
def zp_l121 : List (Option Jvm.ClassFile.Instr) := [some (.iconst 0), some (.istore_n 2), some (.iload_n 2), some (.iconst 4), some (.if_icmp .ge (16)), none, none, some (.aload_n 0), some (.getfield 60), none, none, some (.iload_n 2), some (.iconst 0), some (.iastore), some (.iinc 2 (1)), none, none, some (.goto (-15)), none, none, some (.aload_n 0), some (.iconst 0), some (.putfield 179), none, none, some (.aload_n 0), some (.iconst 0), some (.putfield 182), none, none, some (.iconst 0), some (.istore_n 2), some (.iload_n 2), some (.aload_n 0), some (.invokevirtual 96), none, none, some (.if_icmp .ge (16)), none, none, some (.aload_n 0), some (.getfield 63), none, none, some (.iload_n 2), some (.iconst 0), some (.bastore), some (.iinc 2 (1)), none, none, some (.goto (-18)), none, none, some (.iconst 0), some (.istore_n 2), some (.iload_n 2), some (.aload_n 0), some (.invokevirtual 96), none, none, some (.if_icmp .ge (100)), none, none, some (.aload_n 0), some (.getfield 48), none, none, some (.bipush (52)), none, some (.iload_n 1), some (.imul), some (.iload_n 2), some (.iadd), some (.iaload), some (.istore_n 3), some (.iload_n 3), some (.iconst 1), some (.if_icmp .ne (17)), none, none, some (.aload_n 0), some (.getfield 60), none, none, some (.aload_n 0), some (.iload_n 2), some (.invokevirtual 79), none, none, some (.dup2), some (.iaload), some (.iconst 1), some (.iadd), some (.iastore), some (.aload_n 0), some (.iload_n 3), some (.iconst 2), some (.if_icmp .ne (12)), none, none, some (.aload_n 0), some (.getfield 179), none, none, some (.iconst 1), some (.iadd), some (.goto (7)), none, none, some (.aload_n 0), some (.getfield 179), none, none, some (.putfield 179), none, none, some (.aload_n 0), some (.iload_n 3), some (.iconst 3), some (.if_icmp .ne (12)), none, none, some (.aload_n 0), some (.getfield 182), none, none, some (.iconst 1), some (.iadd), some (.goto (7)), none, none, some (.aload_n 0), some (.getfield 182), none, none, some (.putfield 182), none, none, some (.iload_n 3), some (.bipush (10)), none, some (.if_icmp .lt (13)), none, none, some (.aload_n 0), some (.getfield 63), none, none, some (.iload_n 3), some (.bipush (10)), none, some (.isub), some (.iconst 1), some (.bastore), some (.iinc 2 (1)), none, none, some (.goto (-102)), none, none, some (.return_)]
def zp_p121 : List (Nat × zi_T × List Nat) := [(48, (9, 5, 17, .null), [672]), (60, (9, 5, 25, .null), [680]), (63, (9, 5, 28, .null), [683]), (79, (1, 81, 1, .ref 5), [819, 60, 822, 821, 27]), (96, (1, 80, 0, .ref 5), [767, 60, 770, 769, 17]), (179, (0, 5, 26, .null), [681]), (182, (0, 5, 27, .null), [682])]
/-- 122: PatienceTableModel.mayLie(III)Z -/
def zp_l122 : List (Option Jvm.ClassFile.Instr) := [some (.aload_n 0), some (.getfield 48), none, none, some (.bipush (52)), none, some (.iload_n 1), some (.imul), some (.iload_n 2), some (.iadd), some (.iaload), some (.istore 4), none, some (.iload 4), none, some (.iconst 1), some (.if_icmp .eq (18)), none, none, some (.aload_n 0), some (.getfield 63), none, none, some (.iload_n 2), some (.baload), some (.ifCond .ne (9)), none, none, some (.iload 4), none, some (.iload_n 3), some (.if_icmp .ne (5)), none, none, some (.iconst 0), some (.ireturn), some (.iload_n 3), some (.iconst 1), some (.if_icmp .ne (29)), none, none, some (.aload_n 0), some (.getfield 60), none, none, some (.aload_n 0), some (.iload_n 2), some (.invokevirtual 79), none, none, some (.iaload), some (.iconst 1), some (.iadd), some (.aload_n 0), some (.iload_n 2), some (.invokevirtual 72), none, none, some (.if_icmp .ne (7)), none, none, some (.iconst 1), some (.goto (4)), none, none, some (.iconst 0), some (.ireturn), some (.iload_n 3), some (.iconst 2), some (.if_icmp .ne (20)), none, none, some (.aload_n 0), some (.getfield 179), none, none, some (.aload_n 0), some (.getfield 13), none, none, some (.if_icmp .ge (7)), none, none, some (.iconst 1), some (.goto (4)), none, none, some (.iconst 0), some (.ireturn), some (.iload_n 3), some (.iconst 3), some (.if_icmp .ne (28)), none, none, some (.aload_n 0), some (.getfield 182), none, none, some (.aload_n 0), some (.getfield 7), none, none, some (.if_icmp .ge (15)), none, none, some (.aload_n 0), some (.iload_n 2), some (.invokevirtual 125), none, none, some (.ifCond .eq (7)), none, none, some (.iconst 1), some (.goto (4)), none, none, some (.iconst 0), some (.ireturn), some (.iload_n 3), some (.bipush (10)), none, some (.isub), some (.istore 5), none, some (.aload_n 0), some (.getfield 48), none, none, some (.bipush (52)), none, some (.iload_n 1), some (.imul), some (.iload 5), none, some (.iadd), some (.iaload), some (.iconst 3), some (.if_icmp .lt (27)), none, none, some (.aload_n 0), some (.getfield 63), none, none, some (.iload 5), none, some (.baload), some (.ifCond .ne (17)), none, none, some (.aload_n 0), some (.iload_n 2), some (.iload 5), none, some (.invokevirtual 128), none, none, some (.ifCond .eq (7)), none, none, some (.iconst 1), some (.goto (4)), none, none, some (.iconst 0), some (.ireturn)]
def zp_p122 : List (Nat × zi_T × List Nat) := [(7, (0, 5, 1, .null), [656]), (13, (0, 5, 2, .null), [657]), (48, (9, 5, 17, .null), [672]), (60, (9, 5, 25, .null), [680]), (63, (9, 5, 28, .null), [683]), (72, (1, 82, 1, .ref 5), [823, 60, 826, 825, 28]), (79, (1, 81, 1, .ref 5), [819, 60, 822, 821, 27]), (125, (1, 85, 1, .ref 5), [831, 60, 834, 833, 30]), (128, (1, 84, 2, .ref 5), [835, 60, 838, 837, 31]), (179, (0, 5, 26, .null), [681]), (182, (0, 5, 27, .null), [682])]
/-- 123: PatienceTableModel.tried(III)I -/
def zp_l123 : List (Option Jvm.ClassFile.Instr) := [some (.aload_n 0), some (.iconst 1), some (.putfield 185), none, none, some (.iconst 0), some (.istore 4), none, some (.iload 4), none, some (.bipush (52)), none, some (.if_icmp .ge (77)), none, none, some (.iload 4), none, some (.iload_n 2), some (.if_icmp .ne (7)), none, none, some (.iload_n 3), some (.goto (15)), none, none, some (.aload_n 0), some (.getfield 48), none, none, some (.bipush (52)), none, some (.iload_n 1), some (.imul), some (.iload 4), none, some (.iadd), some (.iaload), some (.istore 5), none, some (.aload_n 0), some (.getfield 48), none, none, some (.bipush (52)), none, some (.aload_n 0), some (.getfield 189), none, none, some (.imul), some (.iload 4), none, some (.iadd), some (.iload 5), none, some (.iastore), some (.aload_n 0), some (.aload_n 0), some (.getfield 185), none, none, some (.ifCond .eq (18)), none, none, some (.iload 5), none, some (.iconst 1), some (.if_icmp .eq (8)), none, none, some (.iload 5), none, some (.ifCond .ne (7)), none, none, some (.iconst 1), some (.goto (4)), none, none, some (.iconst 0), some (.putfield 185), none, none, some (.iinc 4 (1)), none, none, some (.goto (-78)), none, none, some (.aload_n 0), some (.getfield 51), none, none, some (.aload_n 0), some (.getfield 189), none, none, some (.aload_n 0), some (.aload_n 0), some (.getfield 189), none, none, some (.invokevirtual 192), none, none, some (.iastore), some (.iconst 0), some (.istore 4), none, some (.iconst 0), some (.istore 5), none, some (.iload 4), none, some (.aload_n 0), some (.getfield 189), none, none, some (.if_icmp .ge (112)), none, none, some (.iload 5), none, some (.ifCond .ne (107)), none, none, some (.aload_n 0), some (.getfield 51), none, none, some (.iload 4), none, some (.iaload), some (.aload_n 0), some (.getfield 51), none, none, some (.aload_n 0), some (.getfield 189), none, none, some (.iaload), some (.if_icmp .ne (7)), none, none, some (.iconst 1), some (.goto (4)), none, none, some (.iconst 0), some (.istore 5), none, some (.iconst 0), some (.istore 6), none, some (.iload 6), none, some (.bipush (52)), none, some (.if_icmp .ge (52)), none, none, some (.iload 5), none, some (.ifCond .eq (47)), none, none, some (.aload_n 0), some (.getfield 48), none, none, some (.bipush (52)), none, some (.iload 4), none, some (.imul), some (.iload 6), none, some (.iadd), some (.iaload), some (.aload_n 0), some (.getfield 48), none, none, some (.bipush (52)), none, some (.aload_n 0), some (.getfield 189), none, none, some (.imul), some (.iload 6), none, some (.iadd), some (.iaload), some (.if_icmp .ne (7)), none, none, some (.iconst 1), some (.goto (4)), none, none, some (.iconst 0), some (.istore 5), none, some (.iinc 6 (1)), none, none, some (.goto (-53)), none, none, some (.iload 5), none, some (.ifCond .eq (8)), none, none, some (.iload 4), none, some (.goto (7)), none, none, some (.iload 4), none, some (.iconst 1), some (.iadd), some (.istore 4), none, some (.goto (-115)), none, none, some (.iload 4), none, some (.ireturn)]
def zp_p123 : List (Nat × zi_T × List Nat) := [(48, (9, 5, 17, .null), [672]), (51, (9, 5, 18, .null), [673]), (185, (0, 5, 24, .null), [679]), (189, (0, 5, 21, .null), [676]), (192, (1, 120, 1, .ref 5), [922, 60, 925, 924, 44])]
/-- 124: PatienceTableModel.after(I)I -/
def zp_l124 : List (Option Jvm.ClassFile.Instr) := [some (.iload_n 0), some (.iconst 3), some (.if_icmp .ne (8)), none, none, some (.bipush (10)), none, some (.goto (6)), none, none, some (.iload_n 0), some (.iconst 1), some (.iadd), some (.ireturn)]
def zp_p124 : List (Nat × zi_T × List Nat) := []
/-- 125: PatienceTableModel.spread(II)Z -/
def zp_l125 : List (Option Jvm.ClassFile.Instr) := [some (.iconst 0), some (.istore_n 3), some (.aload_n 0), some (.iload_n 1), some (.invokevirtual 195), none, none, some (.iconst 0), some (.istore 4), none, some (.iload 4), none, some (.aload_n 0), some (.invokevirtual 96), none, none, some (.if_icmp .ge (138)), none, none, some (.iconst 1), some (.istore 5), none, some (.iload 5), none, some (.bipush (10)), none, some (.aload_n 0), some (.invokevirtual 96), none, none, some (.iadd), some (.if_icmp .ge (117)), none, none, some (.aload_n 0), some (.iload_n 1), some (.iload 4), none, some (.iload 5), none, some (.invokevirtual 199), none, none, some (.ifCond .eq (95)), none, none, some (.aload_n 0), some (.iload_n 1), some (.iload 4), none, some (.iload 5), none, some (.invokevirtual 202), none, none, some (.aload_n 0), some (.getfield 189), none, none, some (.if_icmp .ne (79)), none, none, some (.iload_n 3), some (.ifCond .ne (10)), none, none, some (.aload_n 0), some (.getfield 185), none, none, some (.ifCond .eq (7)), none, none, some (.iconst 1), some (.goto (4)), none, none, some (.iconst 0), some (.istore_n 3), some (.aload_n 0), some (.aload_n 0), some (.getfield 206), none, none, some (.ifCond .ne (11)), none, none, some (.aload_n 0), some (.getfield 189), none, none, some (.iload_n 2), some (.if_icmp .lt (7)), none, none, some (.iconst 1), some (.goto (4)), none, none, some (.iconst 0), some (.putfield 206), none, none, some (.aload_n 0), some (.getfield 54), none, none, some (.aload_n 0), some (.getfield 189), none, none, some (.iconst 0), some (.bastore), some (.aload_n 0), some (.aload_n 0), some (.getfield 189), none, none, some (.iload_n 2), some (.if_icmp .ge (12)), none, none, some (.aload_n 0), some (.getfield 189), none, none, some (.iconst 1), some (.iadd), some (.goto (7)), none, none, some (.aload_n 0), some (.getfield 189), none, none, some (.putfield 189), none, none, some (.iload 5), none, some (.invokestatic 209), none, none, some (.istore 5), none, some (.goto (-123)), none, none, some (.iinc 4 (1)), none, none, some (.goto (-141)), none, none, some (.iload_n 3), some (.ireturn)]
def zp_p125 : List (Nat × zi_T × List Nat) := [(54, (9, 5, 19, .null), [674]), (96, (1, 80, 0, .ref 5), [767, 60, 770, 769, 17]), (185, (0, 5, 24, .null), [679]), (189, (0, 5, 21, .null), [676]), (195, (1, 121, 1, .ref 5), [930, 60, 933, 932, 46]), (199, (1, 122, 3, .ref 5), [934, 60, 937, 936, 47]), (202, (1, 123, 3, .ref 5), [938, 60, 941, 940, 48]), (206, (0, 5, 23, .null), [678]), (209, (3, 124, 1, .null), [942, 60, 944, 943])]
/-- 126: PatienceTableModel.leads(IIII)Z -/
def zp_l126 : List (Option Jvm.ClassFile.Instr) := [some (.aload_n 0), some (.iload_n 1), some (.iload_n 2), some (.iload_n 3), some (.invokevirtual 199), none, none, some (.ifCond .ne (5)), none, none, some (.iconst 0), some (.ireturn), some (.aload_n 0), some (.iload_n 1), some (.iload_n 2), some (.iload_n 3), some (.invokevirtual 202), none, none, some (.istore 5), none, some (.iload 4), none, some (.aload_n 0), some (.getfield 212), none, none, some (.iconst 1), some (.isub), some (.if_icmp .ne (10)), none, none, some (.aload_n 0), some (.getfield 185), none, none, some (.goto (41)), none, none, some (.iload 5), none, some (.aload_n 0), some (.getfield 57), none, none, some (.iload 4), none, some (.iconst 1), some (.iadd), some (.iaload), some (.if_icmp .lt (26)), none, none, some (.iload 5), none, some (.aload_n 0), some (.getfield 189), none, none, some (.if_icmp .ge (17)), none, none, some (.aload_n 0), some (.getfield 54), none, none, some (.iload 5), none, some (.baload), some (.ifCond .eq (7)), none, none, some (.iconst 1), some (.goto (4)), none, none, some (.iconst 0), some (.ireturn)]
def zp_p126 : List (Nat × zi_T × List Nat) := [(54, (9, 5, 19, .null), [674]), (57, (9, 5, 20, .null), [675]), (185, (0, 5, 24, .null), [679]), (189, (0, 5, 21, .null), [676]), (199, (1, 122, 3, .ref 5), [934, 60, 937, 936, 47]), (202, (1, 123, 3, .ref 5), [938, 60, 941, 940, 48]), (212, (0, 5, 22, .null), [677])]
/-- 127: PatienceTableModel.isGood(II)Z -/
def zp_l127 : List (Option Jvm.ClassFile.Instr) := [some (.iconst 0), some (.istore_n 3), some (.aload_n 0), some (.iload_n 1), some (.invokevirtual 195), none, none, some (.iconst 0), some (.istore 4), none, some (.iload 4), none, some (.aload_n 0), some (.invokevirtual 96), none, none, some (.if_icmp .ge (53)), none, none, some (.iload_n 3), some (.ifCond .ne (49)), none, none, some (.iconst 1), some (.istore 5), none, some (.iload 5), none, some (.bipush (10)), none, some (.aload_n 0), some (.invokevirtual 96), none, none, some (.iadd), some (.if_icmp .ge (28)), none, none, some (.iload_n 3), some (.ifCond .ne (24)), none, none, some (.aload_n 0), some (.iload_n 1), some (.iload 4), none, some (.iload 5), none, some (.iload_n 2), some (.invokevirtual 215), none, none, some (.istore_n 3), some (.iload 5), none, some (.invokestatic 209), none, none, some (.istore 5), none, some (.goto (-34)), none, none, some (.iinc 4 (1)), none, none, some (.goto (-56)), none, none, some (.iload_n 3), some (.ireturn)]
def zp_p127 : List (Nat × zi_T × List Nat) := [(96, (1, 80, 0, .ref 5), [767, 60, 770, 769, 17]), (195, (1, 121, 1, .ref 5), [930, 60, 933, 932, 46]), (209, (3, 124, 1, .null), [942, 60, 944, 943]), (215, (1, 126, 4, .ref 5), [953, 60, 956, 955, 51])]
/-- 128: PatienceTableModel.onAt(I)I -/
def zp_l128 : List (Option Jvm.ClassFile.Instr) := [some (.iload_n 1), some (.bipush (12)), none, some (.if_icmp .ne (7)), none, none, some (.iconst 1), some (.goto (37)), none, none, some (.aload_n 0), some (.iload_n 1), some (.invokevirtual 118), none, none, some (.ifCond .eq (7)), none, none, some (.iconst 2), some (.goto (25)), none, none, some (.aload_n 0), some (.getfield 26), none, none, some (.iload_n 1), some (.iaload), some (.ifCond .ne (7)), none, none, some (.iconst 3), some (.goto (12)), none, none, some (.bipush (10)), none, some (.aload_n 0), some (.iload_n 1), some (.iconst 0), some (.invokevirtual 121), none, none, some (.iadd), some (.ireturn)]
def zp_p128 : List (Nat × zi_T × List Nat) := [(26, (9, 5, 8, .null), [663]), (118, (1, 95, 1, .ref 5), [799, 60, 802, 801, 22]), (121, (1, 97, 2, .ref 5), [815, 60, 818, 817, 26])]
/-- 129: PatienceTableModel.firstMove()I -/
def zp_l129 : List (Option Jvm.ClassFile.Instr) := [some (.aload_n 0), some (.getfield 212), none, none, some (.iconst 1), some (.isub), some (.istore_n 1), some (.iload_n 1), some (.ifCond .le (46)), none, none, some (.aload_n 0), some (.getfield 57), none, none, some (.iload_n 1), some (.iaload), some (.istore_n 2), some (.iload_n 2), some (.aload_n 0), some (.getfield 57), none, none, some (.iload_n 1), some (.iconst 1), some (.iadd), some (.iaload), some (.if_icmp .ge (21)), none, none, some (.aload_n 0), some (.getfield 54), none, none, some (.iload_n 2), some (.aload_n 0), some (.iload_n 2), some (.iload_n 1), some (.invokevirtual 219), none, none, some (.bastore), some (.iinc 2 (1)), none, none, some (.goto (-27)), none, none, some (.iinc 1 (-1)), none, none, some (.goto (-44)), none, none, some (.aload_n 0), some (.iconst 0), some (.invokevirtual 195), none, none, some (.iconst 0), some (.istore_n 1), some (.iload_n 1), some (.sipush (208)), none, none, some (.if_icmp .ge (99)), none, none, some (.iload_n 1), some (.bipush (16)), none, some (.idiv), some (.istore_n 2), some (.iload_n 1), some (.bipush (16)), none, some (.irem), some (.istore_n 3), some (.aload_n 0), some (.iload_n 2), some (.invokevirtual 135), none, none, some (.ifCond .ne (11)), none, none, some (.aload_n 0), some (.iload_n 2), some (.invokevirtual 118), none, none, some (.ifCond .eq (29)), none, none, some (.aload_n 0), some (.iload_n 3), some (.invokevirtual 135), none, none, some (.ifCond .ne (17)), none, none, some (.aload_n 0), some (.iload_n 3), some (.invokevirtual 118), none, none, some (.ifCond .ne (9)), none, none, some (.iload_n 3), some (.bipush (12)), none, some (.if_icmp .ne (7)), none, none, some (.iconst 1), some (.goto (4)), none, none, some (.iconst 0), some (.istore 4), none, some (.iload 4), none, some (.ifCond .eq (33)), none, none, some (.aload_n 0), some (.iload_n 2), some (.iload_n 3), some (.invokevirtual 141), none, none, some (.ifCond .eq (24)), none, none, some (.aload_n 0), some (.iconst 0), some (.aload_n 0), some (.iload_n 2), some (.invokevirtual 132), none, none, some (.aload_n 0), some (.iload_n 3), some (.invokevirtual 222), none, none, some (.iconst 0), some (.invokevirtual 215), none, none, some (.ifCond .eq (5)), none, none, some (.iload_n 1), some (.ireturn), some (.iinc 1 (1)), none, none, some (.goto (-100)), none, none, some (.iconst (-1)), some (.ireturn)]
def zp_p129 : List (Nat × zi_T × List Nat) := [(54, (9, 5, 19, .null), [674]), (57, (9, 5, 20, .null), [675]), (118, (1, 95, 1, .ref 5), [799, 60, 802, 801, 22]), (132, (1, 98, 1, .ref 5), [811, 60, 814, 813, 25]), (135, (1, 94, 1, .ref 5), [795, 60, 798, 797, 21]), (141, (1, 100, 2, .ref 5), [807, 60, 810, 809, 24]), (195, (1, 121, 1, .ref 5), [930, 60, 933, 932, 46]), (212, (0, 5, 22, .null), [677]), (215, (1, 126, 4, .ref 5), [953, 60, 956, 955, 51]), (219, (1, 127, 2, .ref 5), [949, 60, 952, 951, 50]), (222, (1, 128, 1, .ref 5), [957, 60, 960, 959, 52])]
/-- 130: PatienceTableModel.search(I)I -/
def zp_l130 : List (Option Jvm.ClassFile.Instr) := [some (.aload_n 0), some (.invokevirtual 225), none, none, some (.aload_n 0), some (.getfield 51), none, none, some (.iconst 0), some (.aload_n 0), some (.iconst 0), some (.invokevirtual 192), none, none, some (.iastore), some (.aload_n 0), some (.iconst 1), some (.putfield 189), none, none, some (.aload_n 0), some (.iconst 0), some (.putfield 212), none, none, some (.aload_n 0), some (.getfield 57), none, none, some (.iconst 0), some (.iconst 0), some (.iastore), some (.aload_n 0), some (.iconst 0), some (.putfield 228), none, none, some (.aload_n 0), some (.invokevirtual 164), none, none, some (.aload_n 0), some (.invokevirtual 96), none, none, some (.if_icmp .ne (5)), none, none, some (.iconst 0), some (.ireturn), some (.aload_n 0), some (.getfield 57), none, none, some (.aload_n 0), some (.getfield 212), none, none, some (.iaload), some (.istore_n 2), some (.aload_n 0), some (.dup), some (.getfield 212), none, none, some (.iconst 1), some (.iadd), some (.putfield 212), none, none, some (.aload_n 0), some (.getfield 57), none, none, some (.aload_n 0), some (.getfield 212), none, none, some (.aload_n 0), some (.getfield 189), none, none, some (.iastore), some (.aload_n 0), some (.aload_n 0), some (.getfield 189), none, none, some (.putfield 228), none, none, some (.aload_n 0), some (.iconst 0), some (.putfield 206), none, none, some (.iconst 0), some (.istore_n 3), some (.iload_n 2), some (.istore 4), none, some (.iload 4), none, some (.aload_n 0), some (.getfield 228), none, none, some (.if_icmp .ge (33)), none, none, some (.aload_n 0), some (.iload 4), none, some (.iload_n 1), some (.invokevirtual 231), none, none, some (.istore 5), none, some (.iload_n 3), some (.ifCond .ne (8)), none, none, some (.iload 5), none, some (.ifCond .eq (7)), none, none, some (.iconst 1), some (.goto (4)), none, none, some (.iconst 0), some (.istore_n 3), some (.iinc 4 (1)), none, none, some (.goto (-36)), none, none, some (.iload_n 3), some (.ifCond .eq (8)), none, none, some (.aload_n 0), some (.getfield 212), none, none, some (.ireturn), some (.aload_n 0), some (.getfield 206), none, none, some (.ifCond .ne (14)), none, none, some (.aload_n 0), some (.getfield 189), none, none, some (.aload_n 0), some (.getfield 228), none, none, some (.if_icmp .ne (18)), none, none, some (.aload_n 0), some (.getfield 206), none, none, some (.ifCond .eq (8)), none, none, some (.bipush (-2)), none, some (.goto (5)), none, none, some (.bipush (-3)), none, some (.ireturn), some (.goto (-132))]
def zp_p130 : List (Nat × zi_T × List Nat) := [(51, (9, 5, 18, .null), [673]), (57, (9, 5, 20, .null), [675]), (96, (1, 80, 0, .ref 5), [767, 60, 770, 769, 17]), (164, (1, 96, 0, .ref 5), [862, 60, 865, 864, 37]), (189, (0, 5, 21, .null), [676]), (192, (1, 120, 1, .ref 5), [922, 60, 925, 924, 44]), (206, (0, 5, 23, .null), [678]), (212, (0, 5, 22, .null), [677]), (225, (1, 119, 0, .ref 5), [918, 60, 921, 920, 43]), (228, (0, 5, 16, .null), [671]), (231, (1, 125, 2, .ref 5), [926, 60, 929, 928, 45])]
/-- 131: PatienceTableModel.look(I)I -/
def zp_l131 : List (Option Jvm.ClassFile.Instr) := [some (.aload_n 0), some (.iconst 0), some (.putfield 69), none, none, some (.iload_n 1), some (.iconst 1), some (.sipush (200)), none, none, some (.invokestatic 92), none, none, some (.ifCond .ne (9)), none, none, some (.aload_n 0), some (.iconst 1), some (.invokevirtual 112), none, none, some (.ireturn), some (.aload_n 0), some (.invokevirtual 115), none, none, some (.aload_n 0), some (.invokevirtual 96), none, none, some (.if_icmp .ge (9)), none, none, some (.aload_n 0), some (.iconst 2), some (.invokevirtual 112), none, none, some (.ireturn), some (.aload_n 0), some (.iload_n 1), some (.invokevirtual 234), none, none, some (.istore_n 2), some (.aload_n 0), some (.iload_n 2), some (.ifCond .le (10)), none, none, some (.aload_n 0), some (.invokevirtual 237), none, none, some (.goto (4)), none, none, some (.iconst (-1)), some (.putfield 45), none, none, some (.iload_n 2), some (.ireturn)]
def zp_p131 : List (Nat × zi_T × List Nat) := [(45, (0, 5, 15, .null), [670]), (69, (0, 5, 0, .null), [655]), (92, (3, 79, 3, .null), [752, 60, 754, 753]), (96, (1, 80, 0, .ref 5), [767, 60, 770, 769, 17]), (112, (1, 78, 1, .ref 5), [783, 60, 786, 785, 19]), (115, (1, 92, 0, .ref 5), [787, 60, 790, 789, 20]), (234, (1, 130, 1, .ref 5), [914, 60, 917, 916, 42]), (237, (1, 129, 0, .ref 5), [945, 60, 948, 947, 49])]
/-- 132: PatienceTableModel.hint()I -/
def zp_l132 : List (Option Jvm.ClassFile.Instr) := [some (.aload_n 0), some (.iconst 0), some (.putfield 69), none, none, some (.aload_n 0), some (.getfield 45), none, none, some (.ireturn)]
def zp_p132 : List (Nat × zi_T × List Nat) := [(45, (0, 5, 15, .null), [670]), (69, (0, 5, 0, .null), [655])]
/-- 133: PatienceTableModel.positions()I -/
def zp_l133 : List (Option Jvm.ClassFile.Instr) := [some (.aload_n 0), some (.iconst 0), some (.putfield 69), none, none, some (.aload_n 0), some (.getfield 228), none, none, some (.ireturn)]
def zp_p133 : List (Nat × zi_T × List Nat) := [(69, (0, 5, 0, .null), [655]), (228, (0, 5, 16, .null), [671])]
/-- 134: java/util/Arrays.fill([II)V -/
def zp_l134 : List (Option Jvm.ClassFile.Instr) := [some (.iconst 0), some (.istore_n 2), some (.aload_n 0), some (.arraylength), some (.istore_n 3), some (.iload_n 2), some (.iload_n 3), some (.if_icmp .ge (13)), none, none, some (.aload_n 0), some (.iload_n 2), some (.iload_n 1), some (.iastore), some (.iinc 2 (1)), none, none, some (.goto (-12)), none, none, some (.return_)]
def zp_p134 : List (Nat × zi_T × List Nat) := []
def zp_ls : List (List (Option Jvm.ClassFile.Instr)) := [zp_l0, zp_l1, zp_l2, zp_l3, zp_l4, zp_l5, zp_l6, zp_l7, zp_l8, zp_l9, zp_l10, zp_l11, zp_l12, zp_l13, zp_l14, zp_l15, zp_l16, zp_l17, zp_l18, zp_l19, zp_l20, zp_l21, zp_l22, zp_l23, zp_l24, zp_l25, zp_l26, zp_l27, zp_l28, zp_l29, zp_l30, zp_l31, zp_l32, zp_l33, zp_l34, zp_l35, zp_l36, zp_l37, zp_l38, zp_l39, zp_l40, zp_l41, zp_l42, zp_l43, zp_l44, zp_l45, zp_l46, zp_l47, zp_l48, zp_l49, zp_l50, zp_l51, zp_l52, zp_l53, zp_l54, zp_l55, zp_l56, zp_l57, zp_l58, zp_l59, zp_l60, zp_l61, zp_l62, zp_l63, zp_l64, zp_l65, zp_l66, zp_l67, zp_l68, zp_l69, zp_l70, zp_l71, zp_l72, zp_l73, zp_l74, zp_l75, zp_l76, zp_l77, zp_l78, zp_l79, zp_l80, zp_l81, zp_l82, zp_l83, zp_l84, zp_l85, zp_l86, zp_l87, zp_l88, zp_l89, zp_l90, zp_l91, zp_l92, zp_l93, zp_l94, zp_l95, zp_l96, zp_l97, zp_l98, zp_l99, zp_l100, zp_l101, zp_l102, zp_l103, zp_l104, zp_l105, zp_l106, zp_l107, zp_l108, zp_l109, zp_l110, zp_l111, zp_l112, zp_l113, zp_l114, zp_l115, zp_l116, zp_l117, zp_l118, zp_l119, zp_l120, zp_l121, zp_l122, zp_l123, zp_l124, zp_l125, zp_l126, zp_l127, zp_l128, zp_l129, zp_l130, zp_l131, zp_l132, zp_l133, zp_l134]
def zp_ps : List (List (Nat × zi_T × List Nat)) := [zp_p0, zp_p1, zp_p2, zp_p3, zp_p4, zp_p5, zp_p6, zp_p7, zp_p8, zp_p9, zp_p10, zp_p11, zp_p12, zp_p13, zp_p14, zp_p15, zp_p16, zp_p17, zp_p18, zp_p19, zp_p20, zp_p21, zp_p22, zp_p23, zp_p24, zp_p25, zp_p26, zp_p27, zp_p28, zp_p29, zp_p30, zp_p31, zp_p32, zp_p33, zp_p34, zp_p35, zp_p36, zp_p37, zp_p38, zp_p39, zp_p40, zp_p41, zp_p42, zp_p43, zp_p44, zp_p45, zp_p46, zp_p47, zp_p48, zp_p49, zp_p50, zp_p51, zp_p52, zp_p53, zp_p54, zp_p55, zp_p56, zp_p57, zp_p58, zp_p59, zp_p60, zp_p61, zp_p62, zp_p63, zp_p64, zp_p65, zp_p66, zp_p67, zp_p68, zp_p69, zp_p70, zp_p71, zp_p72, zp_p73, zp_p74, zp_p75, zp_p76, zp_p77, zp_p78, zp_p79, zp_p80, zp_p81, zp_p82, zp_p83, zp_p84, zp_p85, zp_p86, zp_p87, zp_p88, zp_p89, zp_p90, zp_p91, zp_p92, zp_p93, zp_p94, zp_p95, zp_p96, zp_p97, zp_p98, zp_p99, zp_p100, zp_p101, zp_p102, zp_p103, zp_p104, zp_p105, zp_p106, zp_p107, zp_p108, zp_p109, zp_p110, zp_p111, zp_p112, zp_p113, zp_p114, zp_p115, zp_p116, zp_p117, zp_p118, zp_p119, zp_p120, zp_p121, zp_p122, zp_p123, zp_p124, zp_p125, zp_p126, zp_p127, zp_p128, zp_p129, zp_p130, zp_p131, zp_p132, zp_p133, zp_p134]
def zp_ms : List (MethodName × ByteArray × Nat × Option FieldType) := [(⟨"PatienceTableLaw", "law", "([I)Z"⟩, code, 7, (some .boolean)),
  (⟨"PatienceTableLaw", "deal", "(LPatienceTable;I)I"⟩, method_3_code, 3, (some FieldType.int)),
  (⟨"PatienceTableLaw", "lay", "(LPatienceTable;II[J)I"⟩, method_4_code, 5, (some FieldType.int)),
  (⟨"PatienceTableLaw", "move", "(LPatienceTable;III[J)I"⟩, method_5_code, 6, (some FieldType.int)),
  (⟨"PatienceTableLaw", "play", "(LPatienceTable;CC[J)I"⟩, method_6_code, 5, (some FieldType.int)),
  (⟨"PatienceTableLaw", "sendHome", "(LPatienceTable;[J)I"⟩, method_7_code, 3, (some FieldType.int)),
  (⟨"PatienceTableLaw", "undo", "(LPatienceTable;[J)I"⟩, method_8_code, 3, (some FieldType.int)),
  (⟨"PatienceTableLaw", "look", "(LPatienceTable;I[J)I"⟩, method_9_code, 4, (some FieldType.int)),
  (⟨"PatienceTable", "<init>", "()V"⟩, prog_1_method_1_code, 1, none),
  (⟨"PatienceTable", "rules", "(IIII)Z"⟩, prog_1_method_2_code, 6, (some FieldType.boolean)),
  (⟨"PatienceTable", "cards", "(II)Z"⟩, prog_1_method_3_code, 3, (some FieldType.boolean)),
  (⟨"PatienceTable", "deal", "(I)V"⟩, prog_1_method_4_code, 7, none),
  (⟨"PatienceTable", "clear", "()V"⟩, prog_1_method_5_code, 1, none),
  (⟨"PatienceTable", "lay", "(II)I"⟩, prog_1_method_6_code, 3, (some FieldType.int)),
  (⟨"PatienceTable", "move", "(III)I"⟩, prog_1_method_7_code, 4, (some FieldType.int)),
  (⟨"PatienceTable", "play", "(CC)I"⟩, prog_1_method_8_code, 6, (some FieldType.int)),
  (⟨"PatienceTable", "sendHome", "()I"⟩, prog_1_method_9_code, 3, (some FieldType.int)),
  (⟨"PatienceTable", "undo", "()I"⟩, prog_1_method_10_code, 2, (some FieldType.int)),
  (⟨"PatienceTable", "log", "()I"⟩, prog_1_method_11_code, 1, (some FieldType.int)),
  (⟨"PatienceTable", "card", "(II)I"⟩, prog_1_method_12_code, 3, (some FieldType.int)),
  (⟨"PatienceTable", "size", "(I)I"⟩, prog_1_method_13_code, 2, (some FieldType.int)),
  (⟨"PatienceTable", "most", "(II)I"⟩, prog_1_method_14_code, 3, (some FieldType.int)),
  (⟨"PatienceTable", "look", "(I)I"⟩, prog_1_method_15_code, 3, (some FieldType.int)),
  (⟨"PatienceTable", "hint", "()I"⟩, prog_1_method_16_code, 1, (some FieldType.int)),
  (⟨"PatienceTable", "positions", "()I"⟩, prog_1_method_17_code, 1, (some FieldType.int)),
  (⟨"PatienceTable", "isWithin", "(III)Z"⟩, prog_1_method_18_code, 3, (some FieldType.boolean)),
  (⟨"PatienceTable", "placeTold", "(C)I"⟩, prog_1_method_19_code, 1, (some FieldType.int)),
  (⟨"PatienceTable", "bring", "(III)V"⟩, prog_1_method_20_code, 5, none),
  (⟨"PatienceTable$Game", "<init>", "()V"⟩, prog_2_method_1_code, 1, none),
  (⟨"PatienceTable$Game", "isColumn", "(I)Z"⟩, prog_2_method_2_code, 2, (some FieldType.boolean)),
  (⟨"PatienceTable$Game", "isCell", "(I)Z"⟩, prog_2_method_3_code, 2, (some FieldType.boolean)),
  (⟨"PatienceTable$Game", "isPlace", "(I)Z"⟩, prog_2_method_4_code, 2, (some FieldType.boolean)),
  (⟨"PatienceTable$Game", "cardCount", "()I"⟩, prog_2_method_5_code, 1, (some FieldType.int)),
  (⟨"PatienceTable$Game", "isCard", "(I)Z"⟩, prog_2_method_6_code, 2, (some FieldType.boolean)),
  (⟨"PatienceTable$Game", "rankOf", "(I)I"⟩, prog_2_method_7_code, 2, (some FieldType.int)),
  (⟨"PatienceTable$Game", "suitOf", "(I)I"⟩, prog_2_method_8_code, 2, (some FieldType.int)),
  (⟨"PatienceTable$Game", "isRed", "(I)Z"⟩, prog_2_method_9_code, 2, (some FieldType.boolean)),
  (⟨"PatienceTable$Game", "fitsOn", "(II)Z"⟩, prog_2_method_10_code, 3, (some FieldType.boolean)),
  (⟨"PatienceTable$Game", "fitsInEmpty", "(I)Z"⟩, prog_2_method_11_code, 2, (some FieldType.boolean)),
  (⟨"PatienceTable$Layout", "<init>", "(LPatienceTable$Game;)V"⟩, prog_3_method_1_code, 2, none),
  (⟨"PatienceTable$Layout", "takeAllUp", "()V"⟩, prog_3_method_2_code, 1, none),
  (⟨"PatienceTable$Layout", "becomeLike", "(LPatienceTable$Layout;)V"⟩, prog_3_method_3_code, 2, none),
  (⟨"PatienceTable$Layout", "isLaid", "(I)Z"⟩, prog_3_method_4_code, 2, (some FieldType.boolean)),
  (⟨"PatienceTable$Layout", "isAllLaid", "()Z"⟩, prog_3_method_5_code, 1, (some FieldType.boolean)),
  (⟨"PatienceTable$Layout", "isAllHome", "()Z"⟩, prog_3_method_6_code, 1, (some FieldType.boolean)),
  (⟨"PatienceTable$Layout", "layOn", "(II)V"⟩, prog_3_method_7_code, 3, none),
  (⟨"PatienceTable$Layout", "heightOf", "(I)I"⟩, prog_3_method_8_code, 4, (some FieldType.int)),
  (⟨"PatienceTable$Layout", "cardFromTop", "(II)I"⟩, prog_3_method_9_code, 5, (some FieldType.int)),
  (⟨"PatienceTable$Layout", "topAtHome", "(I)I"⟩, prog_3_method_10_code, 2, (some FieldType.int)),
  (⟨"PatienceTable$Layout", "allows", "(III)Z"⟩, prog_3_method_11_code, 4, (some FieldType.boolean)),
  (⟨"PatienceTable$Layout", "allowsOne", "(II)Z"⟩, prog_3_method_12_code, 4, (some FieldType.boolean)),
  (⟨"PatienceTable$Layout", "allowsRow", "(III)Z"⟩, prog_3_method_13_code, 4, (some FieldType.boolean)),
  (⟨"PatienceTable$Layout", "bears", "(II)Z"⟩, prog_3_method_14_code, 3, (some FieldType.boolean)),
  (⟨"PatienceTable$Layout", "rowOf", "(I)I"⟩, prog_3_method_15_code, 4, (some FieldType.int)),
  (⟨"PatienceTable$Layout", "mostAtOnce", "(I)I"⟩, prog_3_method_16_code, 5, (some FieldType.int)),
  (⟨"PatienceTable$Layout", "emptyAmong", "(II)I"⟩, prog_3_method_17_code, 5, (some FieldType.int)),
  (⟨"PatienceTable$Layout", "mostBetween", "(II)I"⟩, prog_3_method_18_code, 4, (some FieldType.int)),
  (⟨"PatienceTable$Layout", "mayGoHome", "(I)Z"⟩, prog_3_method_19_code, 2, (some FieldType.boolean)),
  (⟨"PatienceTable$Layout", "placeOfSafe", "()I"⟩, prog_3_method_20_code, 2, (some FieldType.int)),
  (⟨"PatienceTable$Layout", "isTopSafe", "(I)Z"⟩, prog_3_method_21_code, 3, (some FieldType.boolean)),
  (⟨"PatienceTable$Layout", "isSafe", "(I)Z"⟩, prog_3_method_22_code, 6, (some FieldType.boolean)),
  (⟨"PatienceTable$Layout", "groundAt", "(I)I"⟩, prog_3_method_23_code, 2, (some FieldType.int)),
  (⟨"PatienceTable$Layout", "carry", "(III)V"⟩, prog_3_method_24_code, 6, none),
  (⟨"PatienceTable$Log", "<init>", "()V"⟩, prog_4_method_1_code, 1, none),
  (⟨"PatienceTable$Log", "forgetAll", "()V"⟩, prog_4_method_2_code, 1, none),
  (⟨"PatienceTable$Log", "note", "(IIII)V"⟩, prog_4_method_3_code, 5, none),
  (⟨"PatienceTable$Log", "takeLatest", "()I"⟩, prog_4_method_4_code, 1, (some FieldType.int)),
  (⟨"PatienceTable$Search", "<init>", "(LPatienceTable$Game;)V"⟩, prog_5_method_1_code, 3, none),
  (⟨"PatienceTable$Search", "seek", "(LPatienceTable$Layout;I)I"⟩, prog_5_method_2_code, 6, (some FieldType.int)),
  (⟨"PatienceTable$Search", "begin", "(LPatienceTable$Layout;I)V"⟩, prog_5_method_3_code, 3, none),
  (⟨"PatienceTable$Search", "expand", "(I)V"⟩, prog_5_method_4_code, 5, none),
  (⟨"PatienceTable$Search", "reach", "(III)V"⟩, prog_5_method_5_code, 10, none),
  (⟨"PatienceTable$Search", "slotFor", "(ILPatienceTable$Layout;II)I"⟩, prog_5_method_6_code, 8, (some FieldType.int)),
  (⟨"PatienceTable$Search", "isAlike", "(LPatienceTable$Layout;LPatienceTable$Layout;II)Z"⟩, prog_5_method_7_code, 8, (some FieldType.boolean)),
  (⟨"PatienceTable$Search", "hashOf", "(LPatienceTable$Layout;)I"⟩, prog_5_method_8_code, 5, (some FieldType.int)),
  (⟨"PatienceTable$Search", "share", "(II)I"⟩, prog_5_method_9_code, 3, (some FieldType.int)),
  (⟨"PatienceTableModel", "<init>", "()V"⟩, prog_7_method_1_code, 1, none),
  (⟨"PatienceTableModel", "thrown", "()I"⟩, prog_7_method_2_code, 1, (some FieldType.int)),
  (⟨"PatienceTableModel", "refuse", "(I)I"⟩, prog_7_method_3_code, 2, (some FieldType.int)),
  (⟨"PatienceTableModel", "within", "(III)Z"⟩, prog_7_method_4_code, 3, (some FieldType.boolean)),
  (⟨"PatienceTableModel", "all", "()I"⟩, prog_7_method_5_code, 1, (some FieldType.int)),
  (⟨"PatienceTableModel", "suit", "(I)I"⟩, prog_7_method_6_code, 2, (some FieldType.int)),
  (⟨"PatienceTableModel", "rank", "(I)I"⟩, prog_7_method_7_code, 2, (some FieldType.int)),
  (⟨"PatienceTableModel", "isBlack", "(I)Z"⟩, prog_7_method_8_code, 1, (some FieldType.boolean)),
  (⟨"PatienceTableModel", "fitsOn", "(II)Z"⟩, prog_7_method_9_code, 3, (some FieldType.boolean)),
  (⟨"PatienceTableModel", "fitsEmpty", "(I)Z"⟩, prog_7_method_10_code, 2, (some FieldType.boolean)),
  (⟨"PatienceTableModel", "wipe", "()V"⟩, prog_7_method_11_code, 2, none),
  (⟨"PatienceTableModel", "rules", "(IIII)Z"⟩, prog_7_method_12_code, 5, (some FieldType.boolean)),
  (⟨"PatienceTableModel", "cards", "(II)Z"⟩, prog_7_method_13_code, 3, (some FieldType.boolean)),
  (⟨"PatienceTableModel", "clear", "()V"⟩, prog_7_method_14_code, 1, none),
  (⟨"PatienceTableModel", "push", "(II)V"⟩, prog_7_method_15_code, 3, none),
  (⟨"PatienceTableModel", "deal", "(I)V"⟩, prog_7_method_16_code, 7, none),
  (⟨"PatienceTableModel", "laid", "()I"⟩, prog_7_method_17_code, 3, (some FieldType.int)),
  (⟨"PatienceTableModel", "lay", "(II)I"⟩, prog_7_method_18_code, 3, (some FieldType.int)),
  (⟨"PatienceTableModel", "isColumn", "(I)Z"⟩, prog_7_method_19_code, 2, (some FieldType.boolean)),
  (⟨"PatienceTableModel", "isCell", "(I)Z"⟩, prog_7_method_20_code, 2, (some FieldType.boolean)),
  (⟨"PatienceTableModel", "atHome", "()I"⟩, prog_7_method_21_code, 1, (some FieldType.int)),
  (⟨"PatienceTableModel", "fromTop", "(II)I"⟩, prog_7_method_22_code, 3, (some FieldType.int)),
  (⟨"PatienceTableModel", "topOf", "(I)I"⟩, prog_7_method_23_code, 2, (some FieldType.int)),
  (⟨"PatienceTableModel", "fitsAt", "(II)Z"⟩, prog_7_method_24_code, 3, (some FieldType.boolean)),
  (⟨"PatienceTableModel", "mayOne", "(II)Z"⟩, prog_7_method_25_code, 4, (some FieldType.boolean)),
  (⟨"PatienceTableModel", "limit", "(I)I"⟩, prog_7_method_26_code, 4, (some FieldType.int)),
  (⟨"PatienceTableModel", "may", "(III)Z"⟩, prog_7_method_27_code, 5, (some FieldType.boolean)),
  (⟨"PatienceTableModel", "take", "(II)I"⟩, prog_7_method_28_code, 3, (some FieldType.int)),
  (⟨"PatienceTableModel", "give", "(II)V"⟩, prog_7_method_29_code, 3, none),
  (⟨"PatienceTableModel", "bring", "(IIII)V"⟩, prog_7_method_30_code, 6, none),
  (⟨"PatienceTableModel", "make", "(III)V"⟩, prog_7_method_31_code, 5, none),
  (⟨"PatienceTableModel", "move", "(III)I"⟩, prog_7_method_32_code, 4, (some FieldType.int)),
  (⟨"PatienceTableModel", "placeOf", "(I)I"⟩, prog_7_method_33_code, 3, (some FieldType.int)),
  (⟨"PatienceTableModel", "mostOf", "(II)I"⟩, prog_7_method_34_code, 5, (some FieldType.int)),
  (⟨"PatienceTableModel", "play", "(CC)I"⟩, prog_7_method_35_code, 6, (some FieldType.int)),
  (⟨"PatienceTableModel", "isSafe", "(I)Z"⟩, prog_7_method_36_code, 5, (some FieldType.boolean)),
  (⟨"PatienceTableModel", "safePlace", "()I"⟩, prog_7_method_37_code, 3, (some FieldType.int)),
  (⟨"PatienceTableModel", "sendHome", "()I"⟩, prog_7_method_38_code, 3, (some FieldType.int)),
  (⟨"PatienceTableModel", "undo", "()I"⟩, prog_7_method_39_code, 2, (some FieldType.int)),
  (⟨"PatienceTableModel", "log", "()I"⟩, prog_7_method_40_code, 1, (some FieldType.int)),
  (⟨"PatienceTableModel", "card", "(II)I"⟩, prog_7_method_41_code, 3, (some FieldType.int)),
  (⟨"PatienceTableModel", "size", "(I)I"⟩, prog_7_method_42_code, 2, (some FieldType.int)),
  (⟨"PatienceTableModel", "most", "(II)I"⟩, prog_7_method_43_code, 3, (some FieldType.int)),
  (⟨"PatienceTableModel", "begin", "()V"⟩, prog_7_method_44_code, 3, none),
  (⟨"PatienceTableModel", "sumOf", "(I)I"⟩, prog_7_method_45_code, 4, (some FieldType.int)),
  (⟨"PatienceTableModel", "regard", "(I)V"⟩, prog_7_method_46_code, 4, none),
  (⟨"PatienceTableModel", "mayLie", "(III)Z"⟩, prog_7_method_47_code, 6, (some FieldType.boolean)),
  (⟨"PatienceTableModel", "tried", "(III)I"⟩, prog_7_method_48_code, 7, (some FieldType.int)),
  (⟨"PatienceTableModel", "after", "(I)I"⟩, prog_7_method_49_code, 1, (some FieldType.int)),
  (⟨"PatienceTableModel", "spread", "(II)Z"⟩, prog_7_method_50_code, 6, (some FieldType.boolean)),
  (⟨"PatienceTableModel", "leads", "(IIII)Z"⟩, prog_7_method_51_code, 6, (some FieldType.boolean)),
  (⟨"PatienceTableModel", "isGood", "(II)Z"⟩, prog_7_method_52_code, 6, (some FieldType.boolean)),
  (⟨"PatienceTableModel", "onAt", "(I)I"⟩, prog_7_method_53_code, 2, (some FieldType.int)),
  (⟨"PatienceTableModel", "firstMove", "()I"⟩, prog_7_method_54_code, 5, (some FieldType.int)),
  (⟨"PatienceTableModel", "search", "(I)I"⟩, prog_7_method_55_code, 6, (some FieldType.int)),
  (⟨"PatienceTableModel", "look", "(I)I"⟩, prog_7_method_56_code, 3, (some FieldType.int)),
  (⟨"PatienceTableModel", "hint", "()I"⟩, prog_7_method_57_code, 1, (some FieldType.int)),
  (⟨"PatienceTableModel", "positions", "()I"⟩, prog_7_method_58_code, 1, (some FieldType.int)),
  (⟨"java/util/Arrays", "fill", "([II)V"⟩, prog_16_method_103_code, 4, none)]
def zp_th : List (Nat × Nat × Nat) := [(11, 11, 0), (13, 22, 0), (13, 43, 1), (14, 33, 0), (14, 66, 1), (15, 40, 0), (15, 114, 1), (16, 10, 1), (17, 10, 2), (22, 11, 0), (22, 31, 1)]
def zp_ca : List (Nat × Nat × Nat × Int32) := [(1, 2, 0, 1), (2, 5, 0, 1), (2, 5, 1, 2), (3, 7, 0, 1), (3, 7, 1, 2), (4, 5, 0, 1), (4, 5, 1, 2), (5, 3, 1, 1), (6, 3, 2, 1), (7, 4, 0, 1), (7, 4, 1, 2)]
def zp_code (k pc : Nat) : Option Jvm.ClassFile.Instr := (zp_ls.getD k []).getD pc none
def zp_pool (k x : Nat) : Option zi_T := ((zp_ps.getD k []).find? (fun q => q.1 == x)).map (fun q => q.2.1)
def zp_meth (k : Nat) : MethodName × ByteArray × Nat × Option FieldType := zp_ms.getD k (⟨"", "", ""⟩, ⟨#[]⟩, 0, none)
def zp_thr (k pc : Nat) : Option Nat := (zp_th.find? (fun q => q.1 == k && q.2.1 == pc)).map (fun q => q.2.2)
def zp_cat (k pc ex : Nat) : Option Int32 := (zp_ca.find? (fun q => q.1 == k && q.2.1 == pc && q.2.2.1 == ex)).map (fun q => q.2.2.2)
def zp : zi_P := (zp_code, zp_pool, zp_meth, zp_thr, zp_cat, zp_fty, zp_fs0)
end
section
/-! Runs, goal first: a rule an instruction. -/
set_option maxHeartbeats 1000000 in
theorem zi_run_fuel {P : zi_P} {lw L : Nat} {xs : Nat → Int32} : ∀ (n m d q k pc : Nat) (ls : zi_L) (st : List Value) (w : zi_W) (cn sn : Nat) (r : zi_R), n ≤ m → zi_run P lw L xs n d q k pc ls st w cn sn = some r → zi_run P lw L xs m d q k pc ls st w cn sn = some r := by
  intro n
  induction n with
  | zero => intro m d q k pc ls st w cn sn r _ h; cases h
  | succ n ih =>
    intro m d q k pc ls st w cn sn r hm h
    obtain ⟨m, rfl⟩ : ∃ m', m = m' + 1 := ⟨m - 1, by omega⟩
    have hm : n ≤ m := by omega
    unfold zi_run at h ⊢
    cases hthr : zi_thr P k pc with
    | some e => simp only [hthr] at h ⊢; exact h
    | none =>
      simp only [hthr] at h ⊢
      cases hcode : zi_code P k pc with
      | none => simp only [hcode] at h; cases h
      | some i =>
        simp only [hcode] at h ⊢
        cases hret : zi_ret P k i st with
        | some v => simp only [hret] at h ⊢; exact h
        | none =>
          simp only [hret] at h ⊢
          cases hsim : zi_sim P lw L xs d q k pc (zi_len i) i ls st w cn sn with
          | some c =>
            obtain ⟨pc', ls', st', w', cn', sn'⟩ := c
            simp only [hsim] at h ⊢
            split at h
            · rename_i hg
              rw [if_pos hg]
              exact ih m _ _ _ _ _ _ _ _ _ _ hm h
            · cases h
          | none =>
            simp only [hsim] at h ⊢
            cases hinv : zi_inv P k i st w with
            | none => simp only [hinv] at h; cases h
            | some t =>
              obtain ⟨j, as, r'⟩ := t
              cases d with
              | zero => simp only [hinv] at h; cases h
              | succ d' =>
                simp only [hinv] at h ⊢
                cases hent : zi_ent as (zi_n P j) with
                | none => simp only [hent] at h; cases h
                | some ls' =>
                  simp only [hent] at h ⊢
                  split at h
                  · rename_i hq
                    rw [if_pos hq]
                    cases hrun : zi_run P lw L xs n d' (q - (19 + zi_n P j)) j 0 ls' [] w cn sn with
                    | none => simp only [hrun] at h; cases h
                    | some t =>
                      have h2 := ih m _ _ _ _ _ _ _ _ _ _ hm hrun
                      obtain ⟨o, w', cn', sn'⟩ := t
                      simp only [hrun] at h
                      simp only [h2]
                      cases o with
                      | inl v => exact ih m _ _ _ _ _ _ _ _ _ _ hm h
                      | inr e => exact h
                  · cases h
/-- a run comes to an end with Q -/
def zw (L : Nat) (xs : Nat → Int32) (d q k pc : Nat) (ls : zi_L) (st : List Value) (w : zi_W) (cn sn : Nat) (Q : zi_O → zi_W → Nat → Nat → Prop) : Prop :=
  ∃ (n : Nat) (o : zi_O) (w' : zi_W) (cn' sn' : Nat), zi_run zp 0 L xs n d q k pc ls st w cn sn = some (o, w', cn', sn') ∧ Q o w' cn' sn'
/-- at pc of method k stands i, and p is the next pc; nothing is thrown there -/
def za (k pc : Nat) (i : Jvm.ClassFile.Instr) (p : Nat) : Prop := zi_code zp k pc = some i ∧ zi_thr zp k pc = none ∧ p = pc + zi_len i
/-- the same of a branch, to t -/
def zb (mk : Int → Jvm.ClassFile.Instr) (k pc t p : Nat) : Prop := ∃ off, za k pc (mk off) p ∧ zi_tgt pc off = some t
/-- fields, calls, constants by their places -/
def za_f (k pc c f p : Nat) : Prop := ∃ x tg v0, za k pc (.getfield x) p ∧ zi_pool zp k x = some (tg, c, f, v0) ∧ (tg = 0 ∨ tg = 8 ∨ tg = 9)
def za_p (k pc c f p : Nat) : Prop := ∃ x tg v0, za k pc (.putfield x) p ∧ zi_pool zp k x = some (tg, c, f, v0) ∧ (tg = 0 ∨ tg = 8)
def za_v (k pc j m ci p : Nat) : Prop := ∃ x, za k pc (.invokevirtual x) p ∧ zi_pool zp k x = some (1, j, m, .ref ci)
def za_i (k pc j m p : Nat) : Prop := ∃ x v0, za k pc (.invokespecial x) p ∧ zi_pool zp k x = some (2, j, m, v0)
def za_s (k pc j m p : Nat) : Prop := ∃ x v0, za k pc (.invokestatic x) p ∧ zi_pool zp k x = some (3, j, m, v0)
def za_c (k pc p : Nat) (v : Int32) : Prop := ∃ x a b, za k pc (.ldc x) p ∧ zi_pool zp k x = some (6, a, b, .int v)
def za_l (k pc p : Nat) (v : Int64) : Prop := ∃ x a b, za k pc (.ldc2_w x) p ∧ zi_pool zp k x = some (6, a, b, .long v)
def za_n (k pc c z p : Nat) : Prop := ∃ x v0, za k pc (.new x) p ∧ zi_pool zp k x = some (4, c, z, v0)
def za_a (k pc p : Nat) : Prop := ∃ x b v0, za k pc (.anewarray x) p ∧ zi_pool zp k x = some (4, 2, b, v0)
def za_o (k pc p : Nat) : Prop := ∃ x b v0, za k pc (.invokespecial x) p ∧ zi_pool zp k x = some (7, 0, b, v0)
def za_m (k pc p : Nat) : Prop := ∃ x b v0, za k pc (.invokestatic x) p ∧ zi_pool zp k x = some (7, 1, b, v0)
def za_y (k pc p : Nat) : Prop := ∃ x b v0, za k pc (.invokestatic x) p ∧ zi_pool zp k x = some (7, 2, b, v0)
section ZW
variable {L : Nat} {xs : Nat → Int32} {d q k pc : Nat} {ls : zi_L} {st : List Value} {w : zi_W} {cn sn : Nat} {Q : zi_O → zi_W → Nat → Nat → Prop}
theorem zw.mono {Q' : zi_O → zi_W → Nat → Nat → Prop} (h : zw L xs d q k pc ls st w cn sn Q) (hQ : ∀ o w' cn' sn', Q o w' cn' sn' → Q' o w' cn' sn') : zw L xs d q k pc ls st w cn sn Q' := by
  obtain ⟨n, o, w', cn', sn', h1, h2⟩ := h
  exact ⟨n, o, w', cn', sn', h1, hQ _ _ _ _ h2⟩
theorem zw_sim {i : Jvm.ClassFile.Instr} {pc' p : Nat} {ls' : zi_L} {st' : List Value} {w' : zi_W} {cn' sn' : Nat} (hc : za k pc i p) (hr : zi_ret zp k i st = none) (hs : zi_sim zp 0 L xs d q k pc (zi_len i) i ls st w cn sn = some (pc', ls', st', w', cn', sn')) (hg : cn ≤ cn' ∧ sn ≤ sn' ∧ ls'.length = ls.length)
    (kk : zw L xs d q k pc' ls' st' w' cn' sn' Q) : zw L xs d q k pc ls st w cn sn Q := by
  obtain ⟨n, o, w2, cn2, sn2, h1, h2⟩ := kk
  refine ⟨n + 1, o, w2, cn2, sn2, ?_, h2⟩
  unfold zi_run
  simp only [hc.2.1, hc.1, hr, hs]
  rw [if_pos hg]
  exact h1
theorem zw_ret {p : Nat} {i : Jvm.ClassFile.Instr} {r : Option Value} (hc : za k pc i p) (hr : zi_ret zp k i st = some r) (kk : Q (.inl r) w cn sn) : zw L xs d q k pc ls st w cn sn Q := by
  refine ⟨1, .inl r, w, cn, sn, ?_, kk⟩
  unfold zi_run
  simp only [hc.2.1, hc.1, hr]
theorem zw_vret {p : Nat} (hc : za k pc .return_ p) (hr : zi_r zp k = none) (kk : Q (.inl none) w cn sn) : zw L xs d q k pc ls [] w cn sn Q :=
  zw_ret hc (if_pos hr) kk
theorem zw_iret {p : Nat} {x : Int32} (hc : za k pc .ireturn p) (hr : zi_r zp k = some .int) (kk : Q (.inl (some (.int x))) w cn sn) : zw L xs d q k pc ls [.int x] w cn sn Q :=
  zw_ret hc (if_pos (Or.inl hr)) kk
theorem zw_bret {p : Nat} {x : Int32} (hc : za k pc .ireturn p) (hr : zi_r zp k = some .boolean) (hx : x = 0 ∨ x = 1) (kk : Q (.inl (some (.int x))) w cn sn) : zw L xs d q k pc ls [.int x] w cn sn Q :=
  zw_ret hc (if_pos (Or.inr ⟨hr, hx⟩)) kk
theorem zw_call0 {i : Jvm.ClassFile.Instr} {j p : Nat} {as r : List Value} {ls' : zi_L} (hc : za k pc i p) (hr : zi_ret zp k i st = none) (hs : zi_sim zp 0 L xs (d + 1) q k pc (zi_len i) i ls st w cn sn = none) (hi : zi_inv zp k i st w = some (j, as, r)) (he : zi_ent as (zi_n zp j) = some ls') (hq : 19 + zi_n zp j ≤ q)
    (kk : zw L xs d (q - (19 + zi_n zp j)) j 0 ls' [] w cn sn (fun o w' cn' sn' => (∃ v, o = .inl v ∧ zw L xs (d + 1) q k (pc + 3) ls (v.toList ++ r) w' cn' sn' Q) ∨ ∃ ex x, o = .inr ex ∧ zi_cat zp k pc ex = some x ∧ Q (.inl (some (.int x))) w' cn' sn')) : zw L xs (d + 1) q k pc ls st w cn sn Q := by
  obtain ⟨n, o, w', cn', sn', h1, h2⟩ := kk
  rcases h2 with ⟨v, rfl, n2, o2, w2, cn2, sn2, h3, h4⟩ | ⟨ex, x, rfl, h3, h4⟩
  · refine ⟨max n n2 + 1, o2, w2, cn2, sn2, ?_, h4⟩
    have h1 := zi_run_fuel n (max n n2) _ _ _ _ _ _ _ _ _ _ (Nat.le_max_left _ _) h1
    have h3 := zi_run_fuel n2 (max n n2) _ _ _ _ _ _ _ _ _ _ (Nat.le_max_right _ _) h3
    unfold zi_run
    simp only [hc.2.1, hc.1, hr, hs, hi, he]
    rw [if_pos hq, h1]
    exact h3
  · refine ⟨n + 1, _, w', cn', sn', ?_, h4⟩
    unfold zi_run
    simp only [hc.2.1, hc.1, hr, hs, hi, he]
    rw [if_pos hq, h1]
    simp only [h3]
theorem zw_thr {ex : Nat} (hc : zi_thr zp k pc = some ex) (hd : 6 ≤ d) (hq : 90 ≤ q) (kk : Q (.inr ex) w (cn + 1) (sn + 6)) : zw L xs d q k pc ls [] w cn sn Q := by
  refine ⟨1, _, w, cn + 1, sn + 6, ?_, kk⟩
  unfold zi_run
  simp only [hc]
  rw [if_pos ⟨trivial, hd, hq⟩]
end ZW
end
section
/-! Runs, goal first: a rule an instruction (by program where they are of one form). -/
section ZV
variable {L : Nat} {xs : Nat → Int32} {d q k pc p t : Nat} {ls : zi_L} {st : List Value} {w : zi_W} {cn sn : Nat} {Q : zi_O → zi_W → Nat → Nat → Prop}
theorem zw_iconst {n : Int} {v : Int32} (hc : za k pc (.iconst n) p) (hv : Int32.ofInt n = v) (kk : zw L xs d q k p ls (.int v :: st) w cn sn Q) : zw L xs d q k pc ls (st) w cn sn Q := by
  obtain ⟨a, b, rfl⟩ := hc
  exact zw_sim ⟨a, b, rfl⟩ rfl (by subst hv; rfl) ⟨Nat.le_refl _, Nat.le_refl _, rfl⟩ kk
theorem zw_bipush {n : Int} {v : Int32} (hc : za k pc (.bipush n) p) (hv : (Int8.ofInt n).toInt32 = v) (kk : zw L xs d q k p ls (.int v :: st) w cn sn Q) : zw L xs d q k pc ls (st) w cn sn Q := by
  obtain ⟨a, b, rfl⟩ := hc
  exact zw_sim ⟨a, b, rfl⟩ rfl (by subst hv; rfl) ⟨Nat.le_refl _, Nat.le_refl _, rfl⟩ kk
theorem zw_sipush {n : Int} {v : Int32} (hc : za k pc (.sipush n) p) (hv : (Int16.ofInt n).toInt32 = v) (kk : zw L xs d q k p ls (.int v :: st) w cn sn Q) : zw L xs d q k pc ls (st) w cn sn Q := by
  obtain ⟨a, b, rfl⟩ := hc
  exact zw_sim ⟨a, b, rfl⟩ rfl (by subst hv; rfl) ⟨Nat.le_refl _, Nat.le_refl _, rfl⟩ kk
theorem zw_iadd {x y : Int32} (hc : za k pc (.iadd) p) (kk : zw L xs d q k p ls (.int (x + y) :: st) w cn sn Q) : zw L xs d q k pc ls (.int y :: .int x :: st) w cn sn Q := by
  obtain ⟨a, b, rfl⟩ := hc
  exact zw_sim ⟨a, b, rfl⟩ rfl (rfl) ⟨Nat.le_refl _, Nat.le_refl _, rfl⟩ kk
theorem zw_isub {x y : Int32} (hc : za k pc (.isub) p) (kk : zw L xs d q k p ls (.int (x - y) :: st) w cn sn Q) : zw L xs d q k pc ls (.int y :: .int x :: st) w cn sn Q := by
  obtain ⟨a, b, rfl⟩ := hc
  exact zw_sim ⟨a, b, rfl⟩ rfl (rfl) ⟨Nat.le_refl _, Nat.le_refl _, rfl⟩ kk
theorem zw_imul {x y : Int32} (hc : za k pc (.imul) p) (kk : zw L xs d q k p ls (.int (x * y) :: st) w cn sn Q) : zw L xs d q k pc ls (.int y :: .int x :: st) w cn sn Q := by
  obtain ⟨a, b, rfl⟩ := hc
  exact zw_sim ⟨a, b, rfl⟩ rfl (rfl) ⟨Nat.le_refl _, Nat.le_refl _, rfl⟩ kk
theorem zw_iand {x y : Int32} (hc : za k pc (.iand) p) (kk : zw L xs d q k p ls (.int (x &&& y) :: st) w cn sn Q) : zw L xs d q k pc ls (.int y :: .int x :: st) w cn sn Q := by
  obtain ⟨a, b, rfl⟩ := hc
  exact zw_sim ⟨a, b, rfl⟩ rfl (rfl) ⟨Nat.le_refl _, Nat.le_refl _, rfl⟩ kk
theorem zw_ixor {x y : Int32} (hc : za k pc (.ixor) p) (kk : zw L xs d q k p ls (.int (x ^^^ y) :: st) w cn sn Q) : zw L xs d q k pc ls (.int y :: .int x :: st) w cn sn Q := by
  obtain ⟨a, b, rfl⟩ := hc
  exact zw_sim ⟨a, b, rfl⟩ rfl (rfl) ⟨Nat.le_refl _, Nat.le_refl _, rfl⟩ kk
theorem zw_ishl {x y : Int32} (hc : za k pc (.ishl) p) (kk : zw L xs d q k p ls (.int (x <<< (y &&& 31)) :: st) w cn sn Q) : zw L xs d q k pc ls (.int y :: .int x :: st) w cn sn Q := by
  obtain ⟨a, b, rfl⟩ := hc
  exact zw_sim ⟨a, b, rfl⟩ rfl (rfl) ⟨Nat.le_refl _, Nat.le_refl _, rfl⟩ kk
theorem zw_iushr {x y : Int32} (hc : za k pc (.iushr) p) (kk : zw L xs d q k p ls (.int ((x.toUInt32 >>> (y.toUInt32 &&& Int32.toUInt32 31)).toInt32) :: st) w cn sn Q) : zw L xs d q k pc ls (.int y :: .int x :: st) w cn sn Q := by
  obtain ⟨a, b, rfl⟩ := hc
  exact zw_sim ⟨a, b, rfl⟩ rfl (rfl) ⟨Nat.le_refl _, Nat.le_refl _, rfl⟩ kk
theorem zw_idiv {x y : Int32} (hc : za k pc (.idiv) p) (hy : ¬ y = 0) (kk : zw L xs d q k p ls (.int (x / y) :: st) w cn sn Q) : zw L xs d q k pc ls (.int y :: .int x :: st) w cn sn Q := by
  obtain ⟨a, b, rfl⟩ := hc
  exact zw_sim ⟨a, b, rfl⟩ rfl (by simp only [zi_sim, zi_or, zi_num, if_neg hy]) ⟨Nat.le_refl _, Nat.le_refl _, rfl⟩ kk
theorem zw_irem {x y : Int32} (hc : za k pc (.irem) p) (hy : ¬ y = 0) (kk : zw L xs d q k p ls (.int (x - x / y * y) :: st) w cn sn Q) : zw L xs d q k pc ls (.int y :: .int x :: st) w cn sn Q := by
  obtain ⟨a, b, rfl⟩ := hc
  exact zw_sim ⟨a, b, rfl⟩ rfl (by simp only [zi_sim, zi_or, zi_num, if_neg hy]) ⟨Nat.le_refl _, Nat.le_refl _, rfl⟩ kk
theorem zw_ladd {x y : Int64} (hc : za k pc (.ladd) p) (kk : zw L xs d q k p ls (.long (x + y) :: st) w cn sn Q) : zw L xs d q k pc ls (.long y :: .long x :: st) w cn sn Q := by
  obtain ⟨a, b, rfl⟩ := hc
  exact zw_sim ⟨a, b, rfl⟩ rfl (rfl) ⟨Nat.le_refl _, Nat.le_refl _, rfl⟩ kk
theorem zw_lmul {x y : Int64} (hc : za k pc (.lmul) p) (kk : zw L xs d q k p ls (.long (x * y) :: st) w cn sn Q) : zw L xs d q k pc ls (.long y :: .long x :: st) w cn sn Q := by
  obtain ⟨a, b, rfl⟩ := hc
  exact zw_sim ⟨a, b, rfl⟩ rfl (rfl) ⟨Nat.le_refl _, Nat.le_refl _, rfl⟩ kk
theorem zw_ldiv {x y : Int64} (hc : za k pc (.ldiv) p) (hy : ¬ y = 0) (kk : zw L xs d q k p ls (.long (x / y) :: st) w cn sn Q) : zw L xs d q k pc ls (.long y :: .long x :: st) w cn sn Q := by
  obtain ⟨a, b, rfl⟩ := hc
  exact zw_sim ⟨a, b, rfl⟩ rfl (by simp only [zi_sim, zi_or, zi_num, if_neg hy]) ⟨Nat.le_refl _, Nat.le_refl _, rfl⟩ kk
theorem zw_lrem {x y : Int64} (hc : za k pc (.lrem) p) (hy : ¬ y = 0) (kk : zw L xs d q k p ls (.long (x - x / y * y) :: st) w cn sn Q) : zw L xs d q k pc ls (.long y :: .long x :: st) w cn sn Q := by
  obtain ⟨a, b, rfl⟩ := hc
  exact zw_sim ⟨a, b, rfl⟩ rfl (by simp only [zi_sim, zi_or, zi_num, if_neg hy]) ⟨Nat.le_refl _, Nat.le_refl _, rfl⟩ kk
theorem zw_lcmp {x y : Int64} (hc : za k pc (.lcmp) p) (kk : zw L xs d q k p ls (.int (lg_cmp x y) :: st) w cn sn Q) : zw L xs d q k pc ls (.long y :: .long x :: st) w cn sn Q := by
  obtain ⟨a, b, rfl⟩ := hc
  exact zw_sim ⟨a, b, rfl⟩ rfl (rfl) ⟨Nat.le_refl _, Nat.le_refl _, rfl⟩ kk
theorem zw_i2l {x : Int32} (hc : za k pc (.i2l) p) (kk : zw L xs d q k p ls (.long x.toInt64 :: st) w cn sn Q) : zw L xs d q k pc ls (.int x :: st) w cn sn Q := by
  obtain ⟨a, b, rfl⟩ := hc
  exact zw_sim ⟨a, b, rfl⟩ rfl (rfl) ⟨Nat.le_refl _, Nat.le_refl _, rfl⟩ kk
theorem zw_l2i {x : Int64} (hc : za k pc (.l2i) p) (kk : zw L xs d q k p ls (.int x.toInt32 :: st) w cn sn Q) : zw L xs d q k pc ls (.long x :: st) w cn sn Q := by
  obtain ⟨a, b, rfl⟩ := hc
  exact zw_sim ⟨a, b, rfl⟩ rfl (rfl) ⟨Nat.le_refl _, Nat.le_refl _, rfl⟩ kk
theorem zw_i2c {x : Int32} (hc : za k pc (.i2c) p) (kk : zw L xs d q k p ls (.int (x.toUInt32 % 65536).toInt32 :: st) w cn sn Q) : zw L xs d q k pc ls (.int x :: st) w cn sn Q := by
  obtain ⟨a, b, rfl⟩ := hc
  exact zw_sim ⟨a, b, rfl⟩ rfl (rfl) ⟨Nat.le_refl _, Nat.le_refl _, rfl⟩ kk
theorem zw_dup {v : Value} (hc : za k pc (.dup) p) (hv : v.category = 1) (kk : zw L xs d q k p ls (v :: v :: st) w cn sn Q) : zw L xs d q k pc ls (v :: st) w cn sn Q := by
  obtain ⟨a, b, rfl⟩ := hc
  exact zw_sim ⟨a, b, rfl⟩ rfl (by simp only [zi_sim, zi_or, zi_num, if_pos hv]) ⟨Nat.le_refl _, Nat.le_refl _, rfl⟩ kk
theorem zw_dup2 {v u : Value} (hc : za k pc (.dup2) p) (hv : v.category = 1 ∧ u.category = 1) (kk : zw L xs d q k p ls (v :: u :: v :: u :: st) w cn sn Q) : zw L xs d q k pc ls (v :: u :: st) w cn sn Q := by
  obtain ⟨a, b, rfl⟩ := hc
  exact zw_sim ⟨a, b, rfl⟩ rfl (by simp only [zi_sim, zi_or, zi_num, if_pos hv]) ⟨Nat.le_refl _, Nat.le_refl _, rfl⟩ kk
theorem zw_iload {j : Nat} {x : Int32} (hc : za k pc (.iload j) p) (hl : zi_loc ls j = some (.int x)) (kk : zw L xs d q k p ls (.int x :: st) w cn sn Q) : zw L xs d q k pc ls (st) w cn sn Q := by
  obtain ⟨a, b, rfl⟩ := hc
  exact zw_sim ⟨a, b, rfl⟩ rfl (by simp only [zi_sim, zi_or, zi_num, zi_lcl, hl, zi_isI, zi_push1]) ⟨Nat.le_refl _, Nat.le_refl _, rfl⟩ kk
theorem zw_iload_n {j : Fin 4} {x : Int32} (hc : za k pc (.iload_n j) p) (hl : zi_loc ls j = some (.int x)) (kk : zw L xs d q k p ls (.int x :: st) w cn sn Q) : zw L xs d q k pc ls (st) w cn sn Q := by
  obtain ⟨a, b, rfl⟩ := hc
  exact zw_sim ⟨a, b, rfl⟩ rfl (by simp only [zi_sim, zi_or, zi_num, zi_lcl, hl, zi_isI, zi_push1]) ⟨Nat.le_refl _, Nat.le_refl _, rfl⟩ kk
theorem zw_lload {j : Nat} {x : Int64} (hc : za k pc (.lload j) p) (hl : zi_loc ls j = some (.long x)) (kk : zw L xs d q k p ls (.long x :: st) w cn sn Q) : zw L xs d q k pc ls (st) w cn sn Q := by
  obtain ⟨a, b, rfl⟩ := hc
  exact zw_sim ⟨a, b, rfl⟩ rfl (by simp only [zi_sim, zi_or, zi_num, zi_lcl, hl, zi_isL, zi_push1]) ⟨Nat.le_refl _, Nat.le_refl _, rfl⟩ kk
theorem zw_lload_n {j : Fin 4} {x : Int64} (hc : za k pc (.lload_n j) p) (hl : zi_loc ls j = some (.long x)) (kk : zw L xs d q k p ls (.long x :: st) w cn sn Q) : zw L xs d q k pc ls (st) w cn sn Q := by
  obtain ⟨a, b, rfl⟩ := hc
  exact zw_sim ⟨a, b, rfl⟩ rfl (by simp only [zi_sim, zi_or, zi_num, zi_lcl, hl, zi_isL, zi_push1]) ⟨Nat.le_refl _, Nat.le_refl _, rfl⟩ kk
theorem zw_aload {j : Nat} {x : Nat} (hc : za k pc (.aload j) p) (hl : zi_loc ls j = some (.ref x)) (kk : zw L xs d q k p ls (.ref x :: st) w cn sn Q) : zw L xs d q k pc ls (st) w cn sn Q := by
  obtain ⟨a, b, rfl⟩ := hc
  exact zw_sim ⟨a, b, rfl⟩ rfl (by simp only [zi_sim, zi_or, zi_num, zi_lcl, hl, zi_isR, zi_push1]) ⟨Nat.le_refl _, Nat.le_refl _, rfl⟩ kk
theorem zw_aload_n {j : Fin 4} {x : Nat} (hc : za k pc (.aload_n j) p) (hl : zi_loc ls j = some (.ref x)) (kk : zw L xs d q k p ls (.ref x :: st) w cn sn Q) : zw L xs d q k pc ls (st) w cn sn Q := by
  obtain ⟨a, b, rfl⟩ := hc
  exact zw_sim ⟨a, b, rfl⟩ rfl (by simp only [zi_sim, zi_or, zi_num, zi_lcl, hl, zi_isR, zi_push1]) ⟨Nat.le_refl _, Nat.le_refl _, rfl⟩ kk
theorem zi_len1 {ls ls' : zi_L} {i : Nat} {v : Value} (h : zi_set1 ls i v = some ls') : ls'.length = ls.length := by
  unfold zi_set1 at h
  split at h
  · cases h; exact List.length_set
  · cases h
theorem zi_len2 {ls ls' : zi_L} {i : Nat} {v : Value} (h : zi_set2 ls i v = some ls') : ls'.length = ls.length := by
  unfold zi_set2 at h
  split at h
  · cases h; rw [List.length_set, List.length_set]
  · cases h
theorem zw_istore {j : Nat} {x : Int32} {ls' : zi_L} (hc : za k pc (.istore j) p) (hs : zi_set1 ls j (.int x) = some ls') (kk : zw L xs d q k p ls' st w cn sn Q) : zw L xs d q k pc ls (.int x :: st) w cn sn Q := by
  obtain ⟨a, b, rfl⟩ := hc
  exact zw_sim ⟨a, b, rfl⟩ rfl (by simp only [zi_sim, zi_or, zi_num, zi_lcl, zi_sto1, hs]) ⟨Nat.le_refl _, Nat.le_refl _, zi_len1 hs⟩ kk
theorem zw_istore_n {j : Fin 4} {x : Int32} {ls' : zi_L} (hc : za k pc (.istore_n j) p) (hs : zi_set1 ls j (.int x) = some ls') (kk : zw L xs d q k p ls' st w cn sn Q) : zw L xs d q k pc ls (.int x :: st) w cn sn Q := by
  obtain ⟨a, b, rfl⟩ := hc
  exact zw_sim ⟨a, b, rfl⟩ rfl (by simp only [zi_sim, zi_or, zi_num, zi_lcl, zi_sto1, hs]) ⟨Nat.le_refl _, Nat.le_refl _, zi_len1 hs⟩ kk
theorem zw_astore {j : Nat} {x : Nat} {ls' : zi_L} (hc : za k pc (.astore j) p) (hs : zi_set1 ls j (.ref x) = some ls') (kk : zw L xs d q k p ls' st w cn sn Q) : zw L xs d q k pc ls (.ref x :: st) w cn sn Q := by
  obtain ⟨a, b, rfl⟩ := hc
  exact zw_sim ⟨a, b, rfl⟩ rfl (by simp only [zi_sim, zi_or, zi_num, zi_lcl, zi_sto1, hs]) ⟨Nat.le_refl _, Nat.le_refl _, zi_len1 hs⟩ kk
theorem zw_astore_n {j : Fin 4} {x : Nat} {ls' : zi_L} (hc : za k pc (.astore_n j) p) (hs : zi_set1 ls j (.ref x) = some ls') (kk : zw L xs d q k p ls' st w cn sn Q) : zw L xs d q k pc ls (.ref x :: st) w cn sn Q := by
  obtain ⟨a, b, rfl⟩ := hc
  exact zw_sim ⟨a, b, rfl⟩ rfl (by simp only [zi_sim, zi_or, zi_num, zi_lcl, zi_sto1, hs]) ⟨Nat.le_refl _, Nat.le_refl _, zi_len1 hs⟩ kk
theorem zw_lstore {j : Nat} {x : Int64} {ls' : zi_L} (hc : za k pc (.lstore j) p) (hs : zi_set2 ls j (.long x) = some ls') (kk : zw L xs d q k p ls' st w cn sn Q) : zw L xs d q k pc ls (.long x :: st) w cn sn Q := by
  obtain ⟨a, b, rfl⟩ := hc
  exact zw_sim ⟨a, b, rfl⟩ rfl (by simp only [zi_sim, zi_or, zi_num, zi_lcl, zi_sto2, hs]) ⟨Nat.le_refl _, Nat.le_refl _, zi_len2 hs⟩ kk
theorem zw_lstore_n {j : Fin 4} {x : Int64} {ls' : zi_L} (hc : za k pc (.lstore_n j) p) (hs : zi_set2 ls j (.long x) = some ls') (kk : zw L xs d q k p ls' st w cn sn Q) : zw L xs d q k pc ls (.long x :: st) w cn sn Q := by
  obtain ⟨a, b, rfl⟩ := hc
  exact zw_sim ⟨a, b, rfl⟩ rfl (by simp only [zi_sim, zi_or, zi_num, zi_lcl, zi_sto2, hs]) ⟨Nat.le_refl _, Nat.le_refl _, zi_len2 hs⟩ kk
theorem zw_iinc {j : Nat} {n : Int} {x v : Int32} {ls' : zi_L} (hc : za k pc (.iinc j n) p) (hl : zi_loc ls j = some (.int x)) (hv : x + Int32.ofInt n = v) (hs : zi_set1 ls j (.int v) = some ls') (kk : zw L xs d q k p ls' st w cn sn Q) : zw L xs d q k pc ls st w cn sn Q := by
  obtain ⟨a, b, rfl⟩ := hc
  subst hv
  exact zw_sim ⟨a, b, rfl⟩ rfl (by simp only [zi_sim, zi_or, zi_num, zi_lcl, hl, zi_sto1, hs]) ⟨Nat.le_refl _, Nat.le_refl _, zi_len1 hs⟩ kk
theorem zw_if_eq {x : Int32} (hc : zb (.ifCond .eq) k pc t p) (kt : x = 0 → zw L xs d q k t ls st w cn sn Q) (kf : ¬ (x = 0) → zw L xs d q k p ls st w cn sn Q) : zw L xs d q k pc ls (.int x :: st) w cn sn Q := by
  obtain ⟨off, ⟨a, b, rfl⟩, ht⟩ := hc
  by_cases h : x = 0
  · exact zw_sim ⟨a, b, rfl⟩ rfl (by simp only [zi_sim, zi_or, zi_num, zi_lcl, zi_br, zi_jmp, ht, decide_eq_true h]; rfl) ⟨Nat.le_refl _, Nat.le_refl _, rfl⟩ (kt h)
  · exact zw_sim ⟨a, b, rfl⟩ rfl (by simp only [zi_sim, zi_or, zi_num, zi_lcl, zi_br, zi_jmp, ht, decide_eq_false h]; rfl) ⟨Nat.le_refl _, Nat.le_refl _, rfl⟩ (kf h)
theorem zw_if_ne {x : Int32} (hc : zb (.ifCond .ne) k pc t p) (kt : ¬ x = 0 → zw L xs d q k t ls st w cn sn Q) (kf : ¬ (¬ x = 0) → zw L xs d q k p ls st w cn sn Q) : zw L xs d q k pc ls (.int x :: st) w cn sn Q := by
  obtain ⟨off, ⟨a, b, rfl⟩, ht⟩ := hc
  by_cases h : ¬ x = 0
  · exact zw_sim ⟨a, b, rfl⟩ rfl (by simp only [zi_sim, zi_or, zi_num, zi_lcl, zi_br, zi_jmp, ht, decide_eq_true h]; rfl) ⟨Nat.le_refl _, Nat.le_refl _, rfl⟩ (kt h)
  · exact zw_sim ⟨a, b, rfl⟩ rfl (by simp only [zi_sim, zi_or, zi_num, zi_lcl, zi_br, zi_jmp, ht, decide_eq_false h]; rfl) ⟨Nat.le_refl _, Nat.le_refl _, rfl⟩ (kf h)
theorem zw_if_lt {x : Int32} (hc : zb (.ifCond .lt) k pc t p) (kt : x < 0 → zw L xs d q k t ls st w cn sn Q) (kf : ¬ (x < 0) → zw L xs d q k p ls st w cn sn Q) : zw L xs d q k pc ls (.int x :: st) w cn sn Q := by
  obtain ⟨off, ⟨a, b, rfl⟩, ht⟩ := hc
  by_cases h : x < 0
  · exact zw_sim ⟨a, b, rfl⟩ rfl (by simp only [zi_sim, zi_or, zi_num, zi_lcl, zi_br, zi_jmp, ht, decide_eq_true h]; rfl) ⟨Nat.le_refl _, Nat.le_refl _, rfl⟩ (kt h)
  · exact zw_sim ⟨a, b, rfl⟩ rfl (by simp only [zi_sim, zi_or, zi_num, zi_lcl, zi_br, zi_jmp, ht, decide_eq_false h]; rfl) ⟨Nat.le_refl _, Nat.le_refl _, rfl⟩ (kf h)
theorem zw_if_ge {x : Int32} (hc : zb (.ifCond .ge) k pc t p) (kt : 0 ≤ x → zw L xs d q k t ls st w cn sn Q) (kf : ¬ (0 ≤ x) → zw L xs d q k p ls st w cn sn Q) : zw L xs d q k pc ls (.int x :: st) w cn sn Q := by
  obtain ⟨off, ⟨a, b, rfl⟩, ht⟩ := hc
  by_cases h : 0 ≤ x
  · exact zw_sim ⟨a, b, rfl⟩ rfl (by simp only [zi_sim, zi_or, zi_num, zi_lcl, zi_br, zi_jmp, ht, decide_eq_true h]; rfl) ⟨Nat.le_refl _, Nat.le_refl _, rfl⟩ (kt h)
  · exact zw_sim ⟨a, b, rfl⟩ rfl (by simp only [zi_sim, zi_or, zi_num, zi_lcl, zi_br, zi_jmp, ht, decide_eq_false h]; rfl) ⟨Nat.le_refl _, Nat.le_refl _, rfl⟩ (kf h)
theorem zw_if_gt {x : Int32} (hc : zb (.ifCond .gt) k pc t p) (kt : 0 < x → zw L xs d q k t ls st w cn sn Q) (kf : ¬ (0 < x) → zw L xs d q k p ls st w cn sn Q) : zw L xs d q k pc ls (.int x :: st) w cn sn Q := by
  obtain ⟨off, ⟨a, b, rfl⟩, ht⟩ := hc
  by_cases h : 0 < x
  · exact zw_sim ⟨a, b, rfl⟩ rfl (by simp only [zi_sim, zi_or, zi_num, zi_lcl, zi_br, zi_jmp, ht, decide_eq_true h]; rfl) ⟨Nat.le_refl _, Nat.le_refl _, rfl⟩ (kt h)
  · exact zw_sim ⟨a, b, rfl⟩ rfl (by simp only [zi_sim, zi_or, zi_num, zi_lcl, zi_br, zi_jmp, ht, decide_eq_false h]; rfl) ⟨Nat.le_refl _, Nat.le_refl _, rfl⟩ (kf h)
theorem zw_if_le {x : Int32} (hc : zb (.ifCond .le) k pc t p) (kt : x ≤ 0 → zw L xs d q k t ls st w cn sn Q) (kf : ¬ (x ≤ 0) → zw L xs d q k p ls st w cn sn Q) : zw L xs d q k pc ls (.int x :: st) w cn sn Q := by
  obtain ⟨off, ⟨a, b, rfl⟩, ht⟩ := hc
  by_cases h : x ≤ 0
  · exact zw_sim ⟨a, b, rfl⟩ rfl (by simp only [zi_sim, zi_or, zi_num, zi_lcl, zi_br, zi_jmp, ht, decide_eq_true h]; rfl) ⟨Nat.le_refl _, Nat.le_refl _, rfl⟩ (kt h)
  · exact zw_sim ⟨a, b, rfl⟩ rfl (by simp only [zi_sim, zi_or, zi_num, zi_lcl, zi_br, zi_jmp, ht, decide_eq_false h]; rfl) ⟨Nat.le_refl _, Nat.le_refl _, rfl⟩ (kf h)
theorem zw_icmp_eq {x y : Int32} (hc : zb (.if_icmp .eq) k pc t p) (kt : x = y → zw L xs d q k t ls st w cn sn Q) (kf : ¬ (x = y) → zw L xs d q k p ls st w cn sn Q) : zw L xs d q k pc ls (.int y :: .int x :: st) w cn sn Q := by
  obtain ⟨off, ⟨a, b, rfl⟩, ht⟩ := hc
  by_cases h : x = y
  · exact zw_sim ⟨a, b, rfl⟩ rfl (by simp only [zi_sim, zi_or, zi_num, zi_lcl, zi_br, zi_jmp, ht, decide_eq_true h]; rfl) ⟨Nat.le_refl _, Nat.le_refl _, rfl⟩ (kt h)
  · exact zw_sim ⟨a, b, rfl⟩ rfl (by simp only [zi_sim, zi_or, zi_num, zi_lcl, zi_br, zi_jmp, ht, decide_eq_false h]; rfl) ⟨Nat.le_refl _, Nat.le_refl _, rfl⟩ (kf h)
theorem zw_icmp_ne {x y : Int32} (hc : zb (.if_icmp .ne) k pc t p) (kt : ¬ x = y → zw L xs d q k t ls st w cn sn Q) (kf : ¬ (¬ x = y) → zw L xs d q k p ls st w cn sn Q) : zw L xs d q k pc ls (.int y :: .int x :: st) w cn sn Q := by
  obtain ⟨off, ⟨a, b, rfl⟩, ht⟩ := hc
  by_cases h : ¬ x = y
  · exact zw_sim ⟨a, b, rfl⟩ rfl (by simp only [zi_sim, zi_or, zi_num, zi_lcl, zi_br, zi_jmp, ht, decide_eq_true h]; rfl) ⟨Nat.le_refl _, Nat.le_refl _, rfl⟩ (kt h)
  · exact zw_sim ⟨a, b, rfl⟩ rfl (by simp only [zi_sim, zi_or, zi_num, zi_lcl, zi_br, zi_jmp, ht, decide_eq_false h]; rfl) ⟨Nat.le_refl _, Nat.le_refl _, rfl⟩ (kf h)
theorem zw_icmp_lt {x y : Int32} (hc : zb (.if_icmp .lt) k pc t p) (kt : x < y → zw L xs d q k t ls st w cn sn Q) (kf : ¬ (x < y) → zw L xs d q k p ls st w cn sn Q) : zw L xs d q k pc ls (.int y :: .int x :: st) w cn sn Q := by
  obtain ⟨off, ⟨a, b, rfl⟩, ht⟩ := hc
  by_cases h : x < y
  · exact zw_sim ⟨a, b, rfl⟩ rfl (by simp only [zi_sim, zi_or, zi_num, zi_lcl, zi_br, zi_jmp, ht, decide_eq_true h]; rfl) ⟨Nat.le_refl _, Nat.le_refl _, rfl⟩ (kt h)
  · exact zw_sim ⟨a, b, rfl⟩ rfl (by simp only [zi_sim, zi_or, zi_num, zi_lcl, zi_br, zi_jmp, ht, decide_eq_false h]; rfl) ⟨Nat.le_refl _, Nat.le_refl _, rfl⟩ (kf h)
theorem zw_icmp_ge {x y : Int32} (hc : zb (.if_icmp .ge) k pc t p) (kt : y ≤ x → zw L xs d q k t ls st w cn sn Q) (kf : ¬ (y ≤ x) → zw L xs d q k p ls st w cn sn Q) : zw L xs d q k pc ls (.int y :: .int x :: st) w cn sn Q := by
  obtain ⟨off, ⟨a, b, rfl⟩, ht⟩ := hc
  by_cases h : y ≤ x
  · exact zw_sim ⟨a, b, rfl⟩ rfl (by simp only [zi_sim, zi_or, zi_num, zi_lcl, zi_br, zi_jmp, ht, decide_eq_true h]; rfl) ⟨Nat.le_refl _, Nat.le_refl _, rfl⟩ (kt h)
  · exact zw_sim ⟨a, b, rfl⟩ rfl (by simp only [zi_sim, zi_or, zi_num, zi_lcl, zi_br, zi_jmp, ht, decide_eq_false h]; rfl) ⟨Nat.le_refl _, Nat.le_refl _, rfl⟩ (kf h)
theorem zw_icmp_gt {x y : Int32} (hc : zb (.if_icmp .gt) k pc t p) (kt : y < x → zw L xs d q k t ls st w cn sn Q) (kf : ¬ (y < x) → zw L xs d q k p ls st w cn sn Q) : zw L xs d q k pc ls (.int y :: .int x :: st) w cn sn Q := by
  obtain ⟨off, ⟨a, b, rfl⟩, ht⟩ := hc
  by_cases h : y < x
  · exact zw_sim ⟨a, b, rfl⟩ rfl (by simp only [zi_sim, zi_or, zi_num, zi_lcl, zi_br, zi_jmp, ht, decide_eq_true h]; rfl) ⟨Nat.le_refl _, Nat.le_refl _, rfl⟩ (kt h)
  · exact zw_sim ⟨a, b, rfl⟩ rfl (by simp only [zi_sim, zi_or, zi_num, zi_lcl, zi_br, zi_jmp, ht, decide_eq_false h]; rfl) ⟨Nat.le_refl _, Nat.le_refl _, rfl⟩ (kf h)
theorem zw_icmp_le {x y : Int32} (hc : zb (.if_icmp .le) k pc t p) (kt : x ≤ y → zw L xs d q k t ls st w cn sn Q) (kf : ¬ (x ≤ y) → zw L xs d q k p ls st w cn sn Q) : zw L xs d q k pc ls (.int y :: .int x :: st) w cn sn Q := by
  obtain ⟨off, ⟨a, b, rfl⟩, ht⟩ := hc
  by_cases h : x ≤ y
  · exact zw_sim ⟨a, b, rfl⟩ rfl (by simp only [zi_sim, zi_or, zi_num, zi_lcl, zi_br, zi_jmp, ht, decide_eq_true h]; rfl) ⟨Nat.le_refl _, Nat.le_refl _, rfl⟩ (kt h)
  · exact zw_sim ⟨a, b, rfl⟩ rfl (by simp only [zi_sim, zi_or, zi_num, zi_lcl, zi_br, zi_jmp, ht, decide_eq_false h]; rfl) ⟨Nat.le_refl _, Nat.le_refl _, rfl⟩ (kf h)
theorem zw_goto (hc : zb .goto k pc t p) (kk : zw L xs d q k t ls st w cn sn Q) : zw L xs d q k pc ls st w cn sn Q := by
  obtain ⟨off, ⟨a, b, rfl⟩, ht⟩ := hc
  exact zw_sim ⟨a, b, rfl⟩ rfl (by simp only [zi_sim, zi_or, zi_num, zi_lcl, zi_br, zi_jmp, ht]; rfl) ⟨Nat.le_refl _, Nat.le_refl _, rfl⟩ kk
/-- cells -/
theorem zw_ldc {v : Int32} (hc : za_c k pc p v) (kk : zw L xs d q k p ls (.int v :: st) w cn sn Q) : zw L xs d q k pc ls st w cn sn Q := by
  obtain ⟨x, a0, b0, ⟨a, b, rfl⟩, hp⟩ := hc
  exact zw_sim ⟨a, b, rfl⟩ rfl (by simp only [zi_sim, zi_or, zi_num, zi_lcl, zi_br, zi_cel, hp]) ⟨Nat.le_refl _, Nat.le_refl _, rfl⟩ kk
theorem zw_ldc2 {v : Int64} (hc : za_l k pc p v) (kk : zw L xs d q k p ls (.long v :: st) w cn sn Q) : zw L xs d q k pc ls st w cn sn Q := by
  obtain ⟨x, a0, b0, ⟨a, b, rfl⟩, hp⟩ := hc
  exact zw_sim ⟨a, b, rfl⟩ rfl (by simp only [zi_sim, zi_or, zi_num, zi_lcl, zi_br, zi_cel, hp]) ⟨Nat.le_refl _, Nat.le_refl _, rfl⟩ kk
theorem zw_getf {c f r : Nat} {fs : List Value} {v : Value} (hc : za_f k pc c f p) (hg : zi_get w r = some (.inr (c, fs))) (hv : fs[f]? = some v) (kk : zw L xs d q k p ls (v :: st) w cn sn Q) : zw L xs d q k pc ls (.ref r :: st) w cn sn Q := by
  obtain ⟨x, tg, v0, ⟨a, b, rfl⟩, hp, htg⟩ := hc
  rcases htg with rfl | rfl | rfl <;>
    exact zw_sim ⟨a, b, rfl⟩ rfl (by simp only [zi_sim, zi_or, zi_num, zi_lcl, zi_br, zi_cel, hp, hg, hv, zi_push1]; rfl) ⟨Nat.le_refl _, Nat.le_refl _, rfl⟩ kk
theorem zw_putf {c f r : Nat} {fs : List Value} {v : Value} (hc : za_p k pc c f p) (hg : zi_get w r = some (.inr (c, fs))) (hl : f < fs.length) (hf : zi_fit (zi_fty zp c f) v = true) (kk : zw L xs d q k p ls st (w.set r (.inr (c, fs.set f v))) cn sn Q) : zw L xs d q k pc ls (v :: .ref r :: st) w cn sn Q := by
  obtain ⟨x, tg, v0, ⟨a, b, rfl⟩, hp, htg⟩ := hc
  rcases htg with rfl | rfl <;>
    exact zw_sim ⟨a, b, rfl⟩ rfl (by simp only [zi_sim, zi_or, zi_num, zi_lcl, zi_br, zi_cel, hp, hg]; rw [if_pos ⟨trivial, hl, hf⟩]) ⟨Nat.le_refl _, Nat.le_refl _, rfl⟩ kk
theorem zi_get_X {w : zi_W} {r : Nat} {c : va_E} (h : zi_get w r = some c) : ¬ r = zi_X := by
  unfold zi_get at h
  split at h
  · cases h
  · assumption
theorem zw_iald {r n : Nat} {j : Int32} {f : Nat → Int32} (hc : za k pc .iaload p) (hg : zi_get w r = some (.inl (0, n, .inl f))) (hj : zi_in j n) (kk : zw L xs d q k p ls (.int (f j.toNatClampNeg) :: st) w cn sn Q) : zw L xs d q k pc ls (.int j :: .ref r :: st) w cn sn Q := by
  obtain ⟨a, b, rfl⟩ := hc
  exact zw_sim ⟨a, b, rfl⟩ rfl (by simp only [zi_sim, zi_or, zi_num, zi_lcl, zi_br, zi_cel]; rw [if_neg (zi_get_X hg), hg]; simp only [if_pos hj]) ⟨Nat.le_refl _, Nat.le_refl _, rfl⟩ kk
theorem zw_bald {r n : Nat} {j : Int32} {f : Nat → Int32} (hc : za k pc .baload p) (hg : zi_get w r = some (.inl (1, n, .inl f))) (hj : zi_in j n) (kk : zw L xs d q k p ls (.int (f j.toNatClampNeg) :: st) w cn sn Q) : zw L xs d q k pc ls (.int j :: .ref r :: st) w cn sn Q := by
  obtain ⟨a, b, rfl⟩ := hc
  exact zw_sim ⟨a, b, rfl⟩ rfl (by simp only [zi_sim, zi_or, zi_num, zi_lcl, zi_br, zi_cel, hg, if_pos hj]) ⟨Nat.le_refl _, Nat.le_refl _, rfl⟩ kk
theorem zw_lald {r n : Nat} {j : Int32} {f : Nat → Int64} (hc : za k pc .laload p) (hg : zi_get w r = some (.inl (2, n, .inr (.inl f)))) (hj : zi_in j n) (kk : zw L xs d q k p ls (.long (f j.toNatClampNeg) :: st) w cn sn Q) : zw L xs d q k pc ls (.int j :: .ref r :: st) w cn sn Q := by
  obtain ⟨a, b, rfl⟩ := hc
  exact zw_sim ⟨a, b, rfl⟩ rfl (by simp only [zi_sim, zi_or, zi_num, zi_lcl, zi_br, zi_cel, hg, if_pos hj]) ⟨Nat.le_refl _, Nat.le_refl _, rfl⟩ kk
theorem zw_aald {r n v : Nat} {j : Int32} {f : Nat → Option Nat} (hc : za k pc .aaload p) (hg : zi_get w r = some (.inl (3, n, .inr (.inr (.inr (.inr f)))))) (hj : zi_in j n) (hv : f j.toNatClampNeg = some v) (kk : zw L xs d q k p ls (.ref v :: st) w cn sn Q) : zw L xs d q k pc ls (.int j :: .ref r :: st) w cn sn Q := by
  obtain ⟨a, b, rfl⟩ := hc
  exact zw_sim ⟨a, b, rfl⟩ rfl (by simp only [zi_sim, zi_or, zi_num, zi_lcl, zi_br, zi_cel, hg, if_pos hj, hv, Option.map_some, zi_push1]) ⟨Nat.le_refl _, Nat.le_refl _, rfl⟩ kk
theorem zw_iast {r n : Nat} {j x : Int32} {f : Nat → Int32} (hc : za k pc .iastore p) (hg : zi_get w r = some (.inl (0, n, .inl f))) (hj : zi_in j n) (kk : zw L xs d q k p ls st (w.set r (.inl (0, n, .inl (upd f j.toNatClampNeg x)))) cn sn Q) : zw L xs d q k pc ls (.int x :: .int j :: .ref r :: st) w cn sn Q := by
  obtain ⟨a, b, rfl⟩ := hc
  exact zw_sim ⟨a, b, rfl⟩ rfl (by simp only [zi_sim, zi_or, zi_num, zi_lcl, zi_br, zi_cel, hg, if_pos hj]) ⟨Nat.le_refl _, Nat.le_refl _, rfl⟩ kk
theorem zw_bast {r n : Nat} {j x : Int32} {f : Nat → Int32} (hc : za k pc .bastore p) (hg : zi_get w r = some (.inl (1, n, .inl f))) (hj : zi_in j n) (hx : x = 0 ∨ x = 1) (kk : zw L xs d q k p ls st (w.set r (.inl (1, n, .inl (upd f j.toNatClampNeg x)))) cn sn Q) : zw L xs d q k pc ls (.int x :: .int j :: .ref r :: st) w cn sn Q := by
  obtain ⟨a, b, rfl⟩ := hc
  exact zw_sim ⟨a, b, rfl⟩ rfl (by simp only [zi_sim, zi_or, zi_num, zi_lcl, zi_br, zi_cel, hg]; rw [if_pos ⟨hj, hx⟩]) ⟨Nat.le_refl _, Nat.le_refl _, rfl⟩ kk
theorem zw_last {r n : Nat} {j : Int32} {x : Int64} {f : Nat → Int64} (hc : za k pc .lastore p) (hg : zi_get w r = some (.inl (2, n, .inr (.inl f)))) (hj : zi_in j n) (kk : zw L xs d q k p ls st (w.set r (.inl (2, n, .inr (.inl (vp_updL f j.toNatClampNeg x))))) cn sn Q) : zw L xs d q k pc ls (.long x :: .int j :: .ref r :: st) w cn sn Q := by
  obtain ⟨a, b, rfl⟩ := hc
  exact zw_sim ⟨a, b, rfl⟩ rfl (by simp only [zi_sim, zi_or, zi_num, zi_lcl, zi_br, zi_cel, hg, if_pos hj]) ⟨Nat.le_refl _, Nat.le_refl _, rfl⟩ kk
theorem zw_aast {r n v : Nat} {j : Int32} {f : Nat → Option Nat} {vs : List Value} (hc : za k pc .aastore p) (hg : zi_get w r = some (.inl (3, n, .inr (.inr (.inr (.inr f)))))) (hgv : zi_get w v = some (.inr (2, vs))) (hj : zi_in j n) (kk : zw L xs d q k p ls st (w.set r (.inl (3, n, .inr (.inr (.inr (.inr (va_up f j.toNatClampNeg (some v)))))))) cn sn Q) : zw L xs d q k pc ls (.ref v :: .int j :: .ref r :: st) w cn sn Q := by
  obtain ⟨a, b, rfl⟩ := hc
  exact zw_sim ⟨a, b, rfl⟩ rfl (by simp only [zi_sim, zi_or, zi_num, zi_lcl, zi_br, zi_cel, hg, hgv]; rw [if_pos ⟨hj, trivial⟩]) ⟨Nat.le_refl _, Nat.le_refl _, rfl⟩ kk
theorem zw_alen {r n : Nat} {f : Nat → Int32} (hc : za k pc .arraylength p) (hg : zi_get w r = some (.inl (0, n, .inl f))) (kk : zw L xs d q k p ls (.int (Int32.ofNat n) :: st) w cn sn Q) : zw L xs d q k pc ls (.ref r :: st) w cn sn Q := by
  obtain ⟨a, b, rfl⟩ := hc
  exact zw_sim ⟨a, b, rfl⟩ rfl (by simp only [zi_sim, zi_or, zi_num, zi_lcl, zi_br, zi_cel]; rw [if_neg (zi_get_X hg), hg]; rfl) ⟨Nat.le_refl _, Nat.le_refl _, rfl⟩ kk
/-- the script, in the law -/
theorem zw_sld {j : Int32} (hc : za 0 pc .iaload p) (hj : zi_in j L) (kk : zw L xs d q 0 p ls (.int (xs j.toNatClampNeg) :: st) w cn sn Q) : zw L xs d q 0 pc ls (.int j :: .ref zi_X :: st) w cn sn Q := by
  obtain ⟨a, b, rfl⟩ := hc
  exact zw_sim ⟨a, b, rfl⟩ rfl (by simp only [zi_sim, zi_or, zi_num, zi_lcl, zi_br, zi_cel]; rw [if_pos trivial, if_pos ⟨trivial, hj⟩]) ⟨Nat.le_refl _, Nat.le_refl _, rfl⟩ kk
theorem zw_slen (hc : za 0 pc .arraylength p) (kk : zw L xs d q 0 p ls (.int (Int32.ofNat L) :: st) w cn sn Q) : zw L xs d q 0 pc ls (.ref zi_X :: st) w cn sn Q := by
  obtain ⟨a, b, rfl⟩ := hc
  exact zw_sim ⟨a, b, rfl⟩ rfl (by simp only [zi_sim, zi_or, zi_num, zi_lcl, zi_br, zi_cel]; rw [if_pos trivial, if_pos trivial]) ⟨Nat.le_refl _, Nat.le_refl _, rfl⟩ kk
theorem zw_new {c z : Nat} (hc : za_n k pc c z p) (hn : cn = w.length ∧ w.length < zi_X) (kk : zw L xs d q k p ls (.ref w.length :: st) (w ++ [.inr (c, zi_fs0 zp c)]) (cn + 1) (sn + z) Q) : zw L xs d q k pc ls st w cn sn Q := by
  obtain ⟨x, v0, ⟨a, b, rfl⟩, hp⟩ := hc
  exact zw_sim ⟨a, b, rfl⟩ rfl (by simp only [zi_sim, zi_or, zi_num, zi_lcl, zi_br, zi_cel, hp]; rw [if_pos hn]) ⟨Nat.le_succ _, Nat.le_add_right _ _, rfl⟩ kk
theorem zw_newI {m : Int32} {n : Nat} (hc : za k pc (.newarray .int) p) (hm : m.toNatClampNeg = n) (hn : cn = w.length ∧ w.length < zi_X ∧ ¬ m < 0 ∧ n ≤ 65536) (kk : zw L xs d q k p ls (.ref w.length :: st) (w ++ [.inl (0, n, .inl (fun _ => 0))]) (cn + 1) (sn + n) Q) : zw L xs d q k pc ls (.int m :: st) w cn sn Q := by
  obtain ⟨a, b, rfl⟩ := hc
  subst hm
  exact zw_sim ⟨a, b, rfl⟩ rfl (by simp only [zi_sim, zi_or, zi_num, zi_lcl, zi_br, zi_cel]; rw [if_pos hn]) ⟨Nat.le_succ _, Nat.le_add_right _ _, rfl⟩ kk
theorem zw_newZ {m : Int32} {n : Nat} (hc : za k pc (.newarray .boolean) p) (hm : m.toNatClampNeg = n) (hn : cn = w.length ∧ w.length < zi_X ∧ ¬ m < 0 ∧ n ≤ 65536) (kk : zw L xs d q k p ls (.ref w.length :: st) (w ++ [.inl (1, n, .inl (fun _ => 0))]) (cn + 1) (sn + n) Q) : zw L xs d q k pc ls (.int m :: st) w cn sn Q := by
  obtain ⟨a, b, rfl⟩ := hc
  subst hm
  exact zw_sim ⟨a, b, rfl⟩ rfl (by simp only [zi_sim, zi_or, zi_num, zi_lcl, zi_br, zi_cel]; rw [if_pos hn]) ⟨Nat.le_succ _, Nat.le_add_right _ _, rfl⟩ kk
theorem zw_newJ {m : Int32} {n : Nat} (hc : za k pc (.newarray .long) p) (hm : m.toNatClampNeg = n) (hn : cn = w.length ∧ w.length < zi_X ∧ ¬ m < 0 ∧ n ≤ 65536) (kk : zw L xs d q k p ls (.ref w.length :: st) (w ++ [.inl (2, n, .inr (.inl (fun _ => 0)))]) (cn + 1) (sn + n) Q) : zw L xs d q k pc ls (.int m :: st) w cn sn Q := by
  obtain ⟨a, b, rfl⟩ := hc
  subst hm
  exact zw_sim ⟨a, b, rfl⟩ rfl (by simp only [zi_sim, zi_or, zi_num, zi_lcl, zi_br, zi_cel]; rw [if_pos hn]) ⟨Nat.le_succ _, Nat.le_add_right _ _, rfl⟩ kk
theorem zw_newA {m : Int32} {n : Nat} (hc : za_a k pc p) (hm : m.toNatClampNeg = n) (hn : cn = w.length ∧ w.length < zi_X ∧ ¬ m < 0 ∧ n ≤ 65536) (kk : zw L xs d q k p ls (.ref w.length :: st) (w ++ [.inl (3, n, .inr (.inr (.inr (.inr (fun _ => none)))))]) (cn + 1) (sn + n) Q) : zw L xs d q k pc ls (.int m :: st) w cn sn Q := by
  obtain ⟨x, b0, v0, ⟨a, b, rfl⟩, hp⟩ := hc
  subst hm
  exact zw_sim ⟨a, b, rfl⟩ rfl (by simp only [zi_sim, zi_or, zi_num, zi_lcl, zi_br, zi_cel, hp]; rw [if_pos hn]) ⟨Nat.le_succ _, Nat.le_add_right _ _, rfl⟩ kk
/-- members that are steps by themselves -/
theorem zw_obj {r : Nat} (hc : za_o k pc p) (hs : (st.map (fun v => v.category)).sum ≤ 8) (hd : 1 ≤ d) (hq : 20 ≤ q) (kk : zw L xs d q k p ls st w cn sn Q) : zw L xs d q k pc ls (.ref r :: st) w cn sn Q := by
  obtain ⟨x, b0, v0, ⟨a, b, rfl⟩, hp⟩ := hc
  exact zw_sim ⟨a, b, rfl⟩ rfl (by simp only [zi_sim, zi_or, zi_num, zi_lcl, zi_br, zi_cel, zi_pri, hp]; rw [if_pos ⟨hs, hd, hq⟩]) ⟨Nat.le_refl _, Nat.le_refl _, rfl⟩ kk
theorem zw_min {y z : Int32} (hc : za_m k pc p) (hs : (st.map (fun v => v.category)).sum ≤ 8) (hd : 1 ≤ d) (hq : 21 ≤ q) (kk : zw L xs d q k p ls (.int (if y < z then y else z) :: st) w cn sn Q) : zw L xs d q k pc ls (.int y :: .int z :: st) w cn sn Q := by
  obtain ⟨x, b0, v0, ⟨a, b, rfl⟩, hp⟩ := hc
  exact zw_sim ⟨a, b, rfl⟩ rfl (by simp only [zi_sim, zi_or, zi_num, zi_lcl, zi_br, zi_cel, zi_pri, hp]; rw [if_pos ⟨hs, hd, hq⟩]) ⟨Nat.le_refl _, Nat.le_refl _, rfl⟩ kk
theorem zw_copy {m dp sp : Int32} {r r0 n0 n1 : Nat} {f g : Nat → Int32} (hc : za_y k pc p) (hg0 : zi_get w r0 = some (.inl (0, n0, .inl f))) (hg : zi_get w r = some (.inl (0, n1, .inl g))) (hs : (st.map (fun v => v.category)).sum ≤ 8) (hd : 1 ≤ d) (hq : 26 ≤ q) (hm : ¬ sp < 0 ∧ ¬ dp < 0 ∧ ¬ m < 0 ∧ sp.toNatClampNeg + m.toNatClampNeg ≤ n0 ∧ dp.toNatClampNeg + m.toNatClampNeg ≤ n1)
    (kk : zw L xs d q k p ls st (w.set r (.inl (0, n1, .inl (va_cpy f g sp.toNatClampNeg dp.toNatClampNeg m.toNatClampNeg)))) cn sn Q) : zw L xs d q k pc ls (.int m :: .int dp :: .ref r :: .int sp :: .ref r0 :: st) w cn sn Q := by
  obtain ⟨x, b0, v0, ⟨a, b, rfl⟩, hp⟩ := hc
  exact zw_sim ⟨a, b, rfl⟩ rfl (by simp only [zi_sim, zi_or, zi_num, zi_lcl, zi_br, zi_cel, zi_pri, hp, hg0, hg]; rw [if_pos ⟨hs, hm.1, hm.2.1, hm.2.2.1, hm.2.2.2.1, hm.2.2.2.2, hd, hq⟩]) ⟨Nat.le_refl _, Nat.le_refl _, rfl⟩ kk
end ZV
end
section
/-! What stands at a pc: method 0 to 75. By program (gen/at.py). -/
theorem z0_0 : za_n 0 0 0 6 3 := ⟨8, .null, ⟨rfl, rfl, rfl⟩, rfl⟩
theorem z0_3 : za 0 3 (.dup) 4 := ⟨rfl, rfl, rfl⟩
theorem z0_4 : za_i 0 4 8 0 7 := ⟨42, .null, ⟨rfl, rfl, rfl⟩, rfl⟩
theorem z0_7 : za 0 7 (.astore_n 1) 8 := ⟨rfl, rfl, rfl⟩
theorem z0_8 : za_n 0 8 5 29 11 := ⟨43, .null, ⟨rfl, rfl, rfl⟩, rfl⟩
theorem z0_11 : za 0 11 (.dup) 12 := ⟨rfl, rfl, rfl⟩
theorem z0_12 : za_i 0 12 76 0 15 := ⟨45, .null, ⟨rfl, rfl, rfl⟩, rfl⟩
theorem z0_15 : za 0 15 (.astore_n 2) 16 := ⟨rfl, rfl, rfl⟩
theorem z0_16 : za 0 16 (.iconst 1) 17 := ⟨rfl, rfl, rfl⟩
theorem z0_17 : za 0 17 (.newarray .long) 19 := ⟨rfl, rfl, rfl⟩
theorem z0_19 : za 0 19 (.astore_n 3) 20 := ⟨rfl, rfl, rfl⟩
theorem z0_20 : za 0 20 (.iconst 0) 21 := ⟨rfl, rfl, rfl⟩
theorem z0_21 : za 0 21 (.istore 4) 23 := ⟨rfl, rfl, rfl⟩
theorem z0_23 : za 0 23 (.iload 4) 25 := ⟨rfl, rfl, rfl⟩
theorem z0_25 : za 0 25 (.aload_n 0) 26 := ⟨rfl, rfl, rfl⟩
theorem z0_26 : za 0 26 (.arraylength) 27 := ⟨rfl, rfl, rfl⟩
theorem z0_27 : za 0 27 (.iconst 5) 28 := ⟨rfl, rfl, rfl⟩
theorem z0_28 : za 0 28 (.isub) 29 := ⟨rfl, rfl, rfl⟩
theorem z0_29 : zb (.if_icmp .gt) 0 29 769 32 := ⟨740, ⟨rfl, rfl, rfl⟩, rfl⟩
theorem z0_32 : za 0 32 (.aload_n 0) 33 := ⟨rfl, rfl, rfl⟩
theorem z0_33 : za 0 33 (.iload 4) 35 := ⟨rfl, rfl, rfl⟩
theorem z0_35 : za 0 35 (.iaload) 36 := ⟨rfl, rfl, rfl⟩
theorem z0_36 : za 0 36 (.bipush (15)) 38 := ⟨rfl, rfl, rfl⟩
theorem z0_38 : za 0 38 (.iand) 39 := ⟨rfl, rfl, rfl⟩
theorem z0_39 : za 0 39 (.tableswitch (724) (0) (15) #[(77), (138), (175), (211), (222), (290), (370), (442), (486), (530), (543), (580), (605), (642), (698), (711)]) 39 := ⟨rfl, rfl, rfl⟩
theorem z0_116 : za 0 116 (.aload_n 1) 117 := ⟨rfl, rfl, rfl⟩
theorem z0_117 : za 0 117 (.aload_n 0) 118 := ⟨rfl, rfl, rfl⟩
theorem z0_118 : za 0 118 (.iload 4) 120 := ⟨rfl, rfl, rfl⟩
theorem z0_120 : za 0 120 (.iconst 1) 121 := ⟨rfl, rfl, rfl⟩
theorem z0_121 : za 0 121 (.iadd) 122 := ⟨rfl, rfl, rfl⟩
theorem z0_122 : za 0 122 (.iaload) 123 := ⟨rfl, rfl, rfl⟩
theorem z0_123 : za 0 123 (.aload_n 0) 124 := ⟨rfl, rfl, rfl⟩
theorem z0_124 : za 0 124 (.iload 4) 126 := ⟨rfl, rfl, rfl⟩
theorem z0_126 : za 0 126 (.iconst 2) 127 := ⟨rfl, rfl, rfl⟩
theorem z0_127 : za 0 127 (.iadd) 128 := ⟨rfl, rfl, rfl⟩
theorem z0_128 : za 0 128 (.iaload) 129 := ⟨rfl, rfl, rfl⟩
theorem z0_129 : za 0 129 (.aload_n 0) 130 := ⟨rfl, rfl, rfl⟩
theorem z0_130 : za 0 130 (.iload 4) 132 := ⟨rfl, rfl, rfl⟩
theorem z0_132 : za 0 132 (.iconst 3) 133 := ⟨rfl, rfl, rfl⟩
theorem z0_133 : za 0 133 (.iadd) 134 := ⟨rfl, rfl, rfl⟩
theorem z0_134 : za 0 134 (.iaload) 135 := ⟨rfl, rfl, rfl⟩
theorem z0_135 : za 0 135 (.aload_n 0) 136 := ⟨rfl, rfl, rfl⟩
theorem z0_136 : za 0 136 (.iload 4) 138 := ⟨rfl, rfl, rfl⟩
theorem z0_138 : za 0 138 (.iconst 4) 139 := ⟨rfl, rfl, rfl⟩
theorem z0_139 : za 0 139 (.iadd) 140 := ⟨rfl, rfl, rfl⟩
theorem z0_140 : za 0 140 (.iaload) 141 := ⟨rfl, rfl, rfl⟩
theorem z0_141 : za_v 0 141 9 4 0 144 := ⟨46, ⟨rfl, rfl, rfl⟩, rfl⟩
theorem z0_144 : za 0 144 (.aload_n 2) 145 := ⟨rfl, rfl, rfl⟩
theorem z0_145 : za 0 145 (.aload_n 0) 146 := ⟨rfl, rfl, rfl⟩
theorem z0_146 : za 0 146 (.iload 4) 148 := ⟨rfl, rfl, rfl⟩
theorem z0_148 : za 0 148 (.iconst 1) 149 := ⟨rfl, rfl, rfl⟩
theorem z0_149 : za 0 149 (.iadd) 150 := ⟨rfl, rfl, rfl⟩
theorem z0_150 : za 0 150 (.iaload) 151 := ⟨rfl, rfl, rfl⟩
theorem z0_151 : za 0 151 (.aload_n 0) 152 := ⟨rfl, rfl, rfl⟩
theorem z0_152 : za 0 152 (.iload 4) 154 := ⟨rfl, rfl, rfl⟩
theorem z0_154 : za 0 154 (.iconst 2) 155 := ⟨rfl, rfl, rfl⟩
theorem z0_155 : za 0 155 (.iadd) 156 := ⟨rfl, rfl, rfl⟩
theorem z0_156 : za 0 156 (.iaload) 157 := ⟨rfl, rfl, rfl⟩
theorem z0_157 : za 0 157 (.aload_n 0) 158 := ⟨rfl, rfl, rfl⟩
theorem z0_158 : za 0 158 (.iload 4) 160 := ⟨rfl, rfl, rfl⟩
theorem z0_160 : za 0 160 (.iconst 3) 161 := ⟨rfl, rfl, rfl⟩
theorem z0_161 : za 0 161 (.iadd) 162 := ⟨rfl, rfl, rfl⟩
theorem z0_162 : za 0 162 (.iaload) 163 := ⟨rfl, rfl, rfl⟩
theorem z0_163 : za 0 163 (.aload_n 0) 164 := ⟨rfl, rfl, rfl⟩
theorem z0_164 : za 0 164 (.iload 4) 166 := ⟨rfl, rfl, rfl⟩
theorem z0_166 : za 0 166 (.iconst 4) 167 := ⟨rfl, rfl, rfl⟩
theorem z0_167 : za 0 167 (.iadd) 168 := ⟨rfl, rfl, rfl⟩
theorem z0_168 : za 0 168 (.iaload) 169 := ⟨rfl, rfl, rfl⟩
theorem z0_169 : za_v 0 169 87 4 5 172 := ⟨50, ⟨rfl, rfl, rfl⟩, rfl⟩
theorem z0_172 : zb (.if_icmp .eq) 0 172 763 175 := ⟨591, ⟨rfl, rfl, rfl⟩, rfl⟩
theorem z0_175 : za 0 175 (.iconst 0) 176 := ⟨rfl, rfl, rfl⟩
theorem z0_176 : za 0 176 (.ireturn) 177 := ⟨rfl, rfl, rfl⟩
theorem z0_177 : za 0 177 (.aload_n 1) 178 := ⟨rfl, rfl, rfl⟩
theorem z0_178 : za 0 178 (.aload_n 0) 179 := ⟨rfl, rfl, rfl⟩
theorem z0_179 : za 0 179 (.iload 4) 181 := ⟨rfl, rfl, rfl⟩
theorem z0_181 : za 0 181 (.iconst 1) 182 := ⟨rfl, rfl, rfl⟩
theorem z0_182 : za 0 182 (.iadd) 183 := ⟨rfl, rfl, rfl⟩
theorem z0_183 : za 0 183 (.iaload) 184 := ⟨rfl, rfl, rfl⟩
theorem z0_184 : za 0 184 (.aload_n 0) 185 := ⟨rfl, rfl, rfl⟩
theorem z0_185 : za 0 185 (.iload 4) 187 := ⟨rfl, rfl, rfl⟩
theorem z0_187 : za 0 187 (.iconst 2) 188 := ⟨rfl, rfl, rfl⟩
theorem z0_188 : za 0 188 (.iadd) 189 := ⟨rfl, rfl, rfl⟩
theorem z0_189 : za 0 189 (.iaload) 190 := ⟨rfl, rfl, rfl⟩
theorem z0_190 : za_v 0 190 10 2 0 193 := ⟨51, ⟨rfl, rfl, rfl⟩, rfl⟩
theorem z0_193 : za 0 193 (.aload_n 2) 194 := ⟨rfl, rfl, rfl⟩
theorem z0_194 : za 0 194 (.aload_n 0) 195 := ⟨rfl, rfl, rfl⟩
theorem z0_195 : za 0 195 (.iload 4) 197 := ⟨rfl, rfl, rfl⟩
theorem z0_197 : za 0 197 (.iconst 1) 198 := ⟨rfl, rfl, rfl⟩
theorem z0_198 : za 0 198 (.iadd) 199 := ⟨rfl, rfl, rfl⟩
theorem z0_199 : za 0 199 (.iaload) 200 := ⟨rfl, rfl, rfl⟩
theorem z0_200 : za 0 200 (.aload_n 0) 201 := ⟨rfl, rfl, rfl⟩
set_option maxRecDepth 20000 in
theorem z0_201 : za 0 201 (.iload 4) 203 := ⟨rfl, rfl, rfl⟩
set_option maxRecDepth 20000 in
theorem z0_203 : za 0 203 (.iconst 2) 204 := ⟨rfl, rfl, rfl⟩
set_option maxRecDepth 20000 in
theorem z0_204 : za 0 204 (.iadd) 205 := ⟨rfl, rfl, rfl⟩
set_option maxRecDepth 20000 in
theorem z0_205 : za 0 205 (.iaload) 206 := ⟨rfl, rfl, rfl⟩
set_option maxRecDepth 20000 in
theorem z0_206 : za_v 0 206 88 2 5 209 := ⟨55, ⟨rfl, rfl, rfl⟩, rfl⟩
set_option maxRecDepth 20000 in
theorem z0_209 : zb (.if_icmp .eq) 0 209 763 212 := ⟨554, ⟨rfl, rfl, rfl⟩, rfl⟩
set_option maxRecDepth 20000 in
theorem z0_212 : za 0 212 (.iconst 0) 213 := ⟨rfl, rfl, rfl⟩
set_option maxRecDepth 20000 in
theorem z0_213 : za 0 213 (.ireturn) 214 := ⟨rfl, rfl, rfl⟩
set_option maxRecDepth 20000 in
theorem z0_214 : za 0 214 (.aload_n 1) 215 := ⟨rfl, rfl, rfl⟩
set_option maxRecDepth 20000 in
theorem z0_215 : za 0 215 (.aload_n 0) 216 := ⟨rfl, rfl, rfl⟩
set_option maxRecDepth 20000 in
theorem z0_216 : za 0 216 (.iload 4) 218 := ⟨rfl, rfl, rfl⟩
set_option maxRecDepth 20000 in
theorem z0_218 : za 0 218 (.iconst 1) 219 := ⟨rfl, rfl, rfl⟩
set_option maxRecDepth 20000 in
theorem z0_219 : za 0 219 (.iadd) 220 := ⟨rfl, rfl, rfl⟩
set_option maxRecDepth 20000 in
theorem z0_220 : za 0 220 (.iaload) 221 := ⟨rfl, rfl, rfl⟩
set_option maxRecDepth 20000 in
theorem z0_221 : za_s 0 221 1 2 224 := ⟨56, .null, ⟨rfl, rfl, rfl⟩, rfl⟩
set_option maxRecDepth 20000 in
theorem z0_224 : za 0 224 (.istore 5) 226 := ⟨rfl, rfl, rfl⟩
set_option maxRecDepth 20000 in
theorem z0_226 : za 0 226 (.aload_n 2) 227 := ⟨rfl, rfl, rfl⟩
set_option maxRecDepth 20000 in
theorem z0_227 : za 0 227 (.aload_n 0) 228 := ⟨rfl, rfl, rfl⟩
set_option maxRecDepth 20000 in
theorem z0_228 : za 0 228 (.iload 4) 230 := ⟨rfl, rfl, rfl⟩
set_option maxRecDepth 20000 in
theorem z0_230 : za 0 230 (.iconst 1) 231 := ⟨rfl, rfl, rfl⟩
set_option maxRecDepth 20000 in
theorem z0_231 : za 0 231 (.iadd) 232 := ⟨rfl, rfl, rfl⟩
set_option maxRecDepth 20000 in
theorem z0_232 : za 0 232 (.iaload) 233 := ⟨rfl, rfl, rfl⟩
set_option maxRecDepth 20000 in
theorem z0_233 : za_v 0 233 91 1 5 236 := ⟨61, ⟨rfl, rfl, rfl⟩, rfl⟩
set_option maxRecDepth 20000 in
theorem z0_236 : za 0 236 (.aload_n 2) 237 := ⟨rfl, rfl, rfl⟩
set_option maxRecDepth 20000 in
theorem z0_237 : za_v 0 237 77 0 5 240 := ⟨62, ⟨rfl, rfl, rfl⟩, rfl⟩
set_option maxRecDepth 20000 in
theorem z0_240 : za 0 240 (.iload 5) 242 := ⟨rfl, rfl, rfl⟩
set_option maxRecDepth 20000 in
theorem z0_242 : zb (.if_icmp .eq) 0 242 247 245 := ⟨5, ⟨rfl, rfl, rfl⟩, rfl⟩
set_option maxRecDepth 20000 in
theorem z0_245 : za 0 245 (.iconst 0) 246 := ⟨rfl, rfl, rfl⟩
set_option maxRecDepth 20000 in
theorem z0_246 : za 0 246 (.ireturn) 247 := ⟨rfl, rfl, rfl⟩
set_option maxRecDepth 20000 in
theorem z0_247 : zb (.goto) 0 247 763 250 := ⟨516, ⟨rfl, rfl, rfl⟩, rfl⟩
set_option maxRecDepth 20000 in
theorem z0_250 : za 0 250 (.aload_n 1) 251 := ⟨rfl, rfl, rfl⟩
set_option maxRecDepth 20000 in
theorem z0_251 : za_v 0 251 12 0 0 254 := ⟨65, ⟨rfl, rfl, rfl⟩, rfl⟩
set_option maxRecDepth 20000 in
theorem z0_254 : za 0 254 (.aload_n 2) 255 := ⟨rfl, rfl, rfl⟩
set_option maxRecDepth 20000 in
theorem z0_255 : za_v 0 255 89 0 5 258 := ⟨68, ⟨rfl, rfl, rfl⟩, rfl⟩
set_option maxRecDepth 20000 in
theorem z0_258 : zb (.goto) 0 258 763 261 := ⟨505, ⟨rfl, rfl, rfl⟩, rfl⟩
set_option maxRecDepth 20000 in
theorem z0_261 : za 0 261 (.aload_n 1) 262 := ⟨rfl, rfl, rfl⟩
set_option maxRecDepth 20000 in
theorem z0_262 : za 0 262 (.aload_n 0) 263 := ⟨rfl, rfl, rfl⟩
set_option maxRecDepth 20000 in
theorem z0_263 : za 0 263 (.iload 4) 265 := ⟨rfl, rfl, rfl⟩
set_option maxRecDepth 20000 in
theorem z0_265 : za 0 265 (.iconst 1) 266 := ⟨rfl, rfl, rfl⟩
set_option maxRecDepth 20000 in
theorem z0_266 : za 0 266 (.iadd) 267 := ⟨rfl, rfl, rfl⟩
set_option maxRecDepth 20000 in
theorem z0_267 : za 0 267 (.iaload) 268 := ⟨rfl, rfl, rfl⟩
set_option maxRecDepth 20000 in
theorem z0_268 : za 0 268 (.aload_n 0) 269 := ⟨rfl, rfl, rfl⟩
set_option maxRecDepth 20000 in
theorem z0_269 : za 0 269 (.iload 4) 271 := ⟨rfl, rfl, rfl⟩
set_option maxRecDepth 20000 in
theorem z0_271 : za 0 271 (.iconst 2) 272 := ⟨rfl, rfl, rfl⟩
set_option maxRecDepth 20000 in
theorem z0_272 : za 0 272 (.iadd) 273 := ⟨rfl, rfl, rfl⟩
set_option maxRecDepth 20000 in
theorem z0_273 : za 0 273 (.iaload) 274 := ⟨rfl, rfl, rfl⟩
set_option maxRecDepth 20000 in
theorem z0_274 : za 0 274 (.aload_n 3) 275 := ⟨rfl, rfl, rfl⟩
set_option maxRecDepth 20000 in
theorem z0_275 : za_s 0 275 2 4 278 := ⟨69, .null, ⟨rfl, rfl, rfl⟩, rfl⟩
set_option maxRecDepth 20000 in
theorem z0_278 : za 0 278 (.istore 5) 280 := ⟨rfl, rfl, rfl⟩
set_option maxRecDepth 20000 in
theorem z0_280 : za 0 280 (.aload_n 2) 281 := ⟨rfl, rfl, rfl⟩
set_option maxRecDepth 20000 in
theorem z0_281 : za 0 281 (.aload_n 0) 282 := ⟨rfl, rfl, rfl⟩
set_option maxRecDepth 20000 in
theorem z0_282 : za 0 282 (.iload 4) 284 := ⟨rfl, rfl, rfl⟩
set_option maxRecDepth 20000 in
theorem z0_284 : za 0 284 (.iconst 1) 285 := ⟨rfl, rfl, rfl⟩
set_option maxRecDepth 20000 in
theorem z0_285 : za 0 285 (.iadd) 286 := ⟨rfl, rfl, rfl⟩
set_option maxRecDepth 20000 in
theorem z0_286 : za 0 286 (.iaload) 287 := ⟨rfl, rfl, rfl⟩
set_option maxRecDepth 20000 in
theorem z0_287 : za 0 287 (.aload_n 0) 288 := ⟨rfl, rfl, rfl⟩
set_option maxRecDepth 20000 in
theorem z0_288 : za 0 288 (.iload 4) 290 := ⟨rfl, rfl, rfl⟩
set_option maxRecDepth 20000 in
theorem z0_290 : za 0 290 (.iconst 2) 291 := ⟨rfl, rfl, rfl⟩
set_option maxRecDepth 20000 in
theorem z0_291 : za 0 291 (.iadd) 292 := ⟨rfl, rfl, rfl⟩
set_option maxRecDepth 20000 in
theorem z0_292 : za 0 292 (.iaload) 293 := ⟨rfl, rfl, rfl⟩
set_option maxRecDepth 20000 in
theorem z0_293 : za_v 0 293 93 2 5 296 := ⟨72, ⟨rfl, rfl, rfl⟩, rfl⟩
set_option maxRecDepth 20000 in
theorem z0_296 : za 0 296 (.istore 6) 298 := ⟨rfl, rfl, rfl⟩
set_option maxRecDepth 20000 in
theorem z0_298 : za 0 298 (.aload_n 2) 299 := ⟨rfl, rfl, rfl⟩
set_option maxRecDepth 20000 in
theorem z0_299 : za_v 0 299 77 0 5 302 := ⟨62, ⟨rfl, rfl, rfl⟩, rfl⟩
set_option maxRecDepth 20000 in
theorem z0_302 : za 0 302 (.iload 5) 304 := ⟨rfl, rfl, rfl⟩
set_option maxRecDepth 20000 in
theorem z0_304 : zb (.if_icmp .eq) 0 304 309 307 := ⟨5, ⟨rfl, rfl, rfl⟩, rfl⟩
set_option maxRecDepth 20000 in
theorem z0_307 : za 0 307 (.iconst 0) 308 := ⟨rfl, rfl, rfl⟩
set_option maxRecDepth 20000 in
theorem z0_308 : za 0 308 (.ireturn) 309 := ⟨rfl, rfl, rfl⟩
set_option maxRecDepth 20000 in
theorem z0_309 : za 0 309 (.iload 5) 311 := ⟨rfl, rfl, rfl⟩
set_option maxRecDepth 20000 in
theorem z0_311 : zb (.ifCond .ne) 0 311 326 314 := ⟨15, ⟨rfl, rfl, rfl⟩, rfl⟩
set_option maxRecDepth 20000 in
theorem z0_314 : za 0 314 (.aload_n 3) 315 := ⟨rfl, rfl, rfl⟩
set_option maxRecDepth 20000 in
theorem z0_315 : za 0 315 (.iconst 0) 316 := ⟨rfl, rfl, rfl⟩
set_option maxRecDepth 20000 in
theorem z0_316 : za 0 316 (.laload) 317 := ⟨rfl, rfl, rfl⟩
set_option maxRecDepth 20000 in
theorem z0_317 : za 0 317 (.iload 6) 319 := ⟨rfl, rfl, rfl⟩
set_option maxRecDepth 20000 in
theorem z0_319 : za 0 319 (.i2l) 320 := ⟨rfl, rfl, rfl⟩
set_option maxRecDepth 20000 in
theorem z0_320 : za 0 320 (.lcmp) 321 := ⟨rfl, rfl, rfl⟩
set_option maxRecDepth 20000 in
theorem z0_321 : zb (.ifCond .eq) 0 321 326 324 := ⟨5, ⟨rfl, rfl, rfl⟩, rfl⟩
set_option maxRecDepth 20000 in
theorem z0_324 : za 0 324 (.iconst 0) 325 := ⟨rfl, rfl, rfl⟩
set_option maxRecDepth 20000 in
theorem z0_325 : za 0 325 (.ireturn) 326 := ⟨rfl, rfl, rfl⟩
set_option maxRecDepth 20000 in
theorem z0_326 : zb (.goto) 0 326 763 329 := ⟨437, ⟨rfl, rfl, rfl⟩, rfl⟩
set_option maxRecDepth 20000 in
theorem z0_329 : za 0 329 (.aload_n 1) 330 := ⟨rfl, rfl, rfl⟩
set_option maxRecDepth 20000 in
theorem z0_330 : za 0 330 (.aload_n 0) 331 := ⟨rfl, rfl, rfl⟩
set_option maxRecDepth 20000 in
theorem z0_331 : za 0 331 (.iload 4) 333 := ⟨rfl, rfl, rfl⟩
set_option maxRecDepth 20000 in
theorem z0_333 : za 0 333 (.iconst 1) 334 := ⟨rfl, rfl, rfl⟩
set_option maxRecDepth 20000 in
theorem z0_334 : za 0 334 (.iadd) 335 := ⟨rfl, rfl, rfl⟩
set_option maxRecDepth 20000 in
theorem z0_335 : za 0 335 (.iaload) 336 := ⟨rfl, rfl, rfl⟩
set_option maxRecDepth 20000 in
theorem z0_336 : za 0 336 (.aload_n 0) 337 := ⟨rfl, rfl, rfl⟩
set_option maxRecDepth 20000 in
theorem z0_337 : za 0 337 (.iload 4) 339 := ⟨rfl, rfl, rfl⟩
set_option maxRecDepth 20000 in
theorem z0_339 : za 0 339 (.iconst 2) 340 := ⟨rfl, rfl, rfl⟩
set_option maxRecDepth 20000 in
theorem z0_340 : za 0 340 (.iadd) 341 := ⟨rfl, rfl, rfl⟩
set_option maxRecDepth 20000 in
theorem z0_341 : za 0 341 (.iaload) 342 := ⟨rfl, rfl, rfl⟩
set_option maxRecDepth 20000 in
theorem z0_342 : za 0 342 (.aload_n 0) 343 := ⟨rfl, rfl, rfl⟩
set_option maxRecDepth 20000 in
theorem z0_343 : za 0 343 (.iload 4) 345 := ⟨rfl, rfl, rfl⟩
set_option maxRecDepth 20000 in
theorem z0_345 : za 0 345 (.iconst 3) 346 := ⟨rfl, rfl, rfl⟩
set_option maxRecDepth 20000 in
theorem z0_346 : za 0 346 (.iadd) 347 := ⟨rfl, rfl, rfl⟩
set_option maxRecDepth 20000 in
theorem z0_347 : za 0 347 (.iaload) 348 := ⟨rfl, rfl, rfl⟩
set_option maxRecDepth 20000 in
theorem z0_348 : za 0 348 (.aload_n 3) 349 := ⟨rfl, rfl, rfl⟩
set_option maxRecDepth 20000 in
theorem z0_349 : za_s 0 349 3 5 352 := ⟨73, .null, ⟨rfl, rfl, rfl⟩, rfl⟩
set_option maxRecDepth 20000 in
theorem z0_352 : za 0 352 (.istore 5) 354 := ⟨rfl, rfl, rfl⟩
set_option maxRecDepth 20000 in
theorem z0_354 : za 0 354 (.aload_n 2) 355 := ⟨rfl, rfl, rfl⟩
set_option maxRecDepth 20000 in
theorem z0_355 : za 0 355 (.aload_n 0) 356 := ⟨rfl, rfl, rfl⟩
set_option maxRecDepth 20000 in
theorem z0_356 : za 0 356 (.iload 4) 358 := ⟨rfl, rfl, rfl⟩
set_option maxRecDepth 20000 in
theorem z0_358 : za 0 358 (.iconst 1) 359 := ⟨rfl, rfl, rfl⟩
set_option maxRecDepth 20000 in
theorem z0_359 : za 0 359 (.iadd) 360 := ⟨rfl, rfl, rfl⟩
set_option maxRecDepth 20000 in
theorem z0_360 : za 0 360 (.iaload) 361 := ⟨rfl, rfl, rfl⟩
set_option maxRecDepth 20000 in
theorem z0_361 : za 0 361 (.aload_n 0) 362 := ⟨rfl, rfl, rfl⟩
set_option maxRecDepth 20000 in
theorem z0_362 : za 0 362 (.iload 4) 364 := ⟨rfl, rfl, rfl⟩
set_option maxRecDepth 20000 in
theorem z0_364 : za 0 364 (.iconst 2) 365 := ⟨rfl, rfl, rfl⟩
set_option maxRecDepth 20000 in
theorem z0_365 : za 0 365 (.iadd) 366 := ⟨rfl, rfl, rfl⟩
set_option maxRecDepth 20000 in
theorem z0_366 : za 0 366 (.iaload) 367 := ⟨rfl, rfl, rfl⟩
set_option maxRecDepth 20000 in
theorem z0_367 : za 0 367 (.aload_n 0) 368 := ⟨rfl, rfl, rfl⟩
set_option maxRecDepth 20000 in
theorem z0_368 : za 0 368 (.iload 4) 370 := ⟨rfl, rfl, rfl⟩
set_option maxRecDepth 20000 in
theorem z0_370 : za 0 370 (.iconst 3) 371 := ⟨rfl, rfl, rfl⟩
set_option maxRecDepth 20000 in
theorem z0_371 : za 0 371 (.iadd) 372 := ⟨rfl, rfl, rfl⟩
set_option maxRecDepth 20000 in
theorem z0_372 : za 0 372 (.iaload) 373 := ⟨rfl, rfl, rfl⟩
set_option maxRecDepth 20000 in
theorem z0_373 : za_v 0 373 107 3 5 376 := ⟨76, ⟨rfl, rfl, rfl⟩, rfl⟩
set_option maxRecDepth 20000 in
theorem z0_376 : za 0 376 (.istore 6) 378 := ⟨rfl, rfl, rfl⟩
set_option maxRecDepth 20000 in
theorem z0_378 : za 0 378 (.aload_n 2) 379 := ⟨rfl, rfl, rfl⟩
set_option maxRecDepth 20000 in
theorem z0_379 : za_v 0 379 77 0 5 382 := ⟨62, ⟨rfl, rfl, rfl⟩, rfl⟩
set_option maxRecDepth 20000 in
theorem z0_382 : za 0 382 (.iload 5) 384 := ⟨rfl, rfl, rfl⟩
set_option maxRecDepth 20000 in
theorem z0_384 : zb (.if_icmp .eq) 0 384 389 387 := ⟨5, ⟨rfl, rfl, rfl⟩, rfl⟩
set_option maxRecDepth 20000 in
theorem z0_387 : za 0 387 (.iconst 0) 388 := ⟨rfl, rfl, rfl⟩
set_option maxRecDepth 20000 in
theorem z0_388 : za 0 388 (.ireturn) 389 := ⟨rfl, rfl, rfl⟩
set_option maxRecDepth 20000 in
theorem z0_389 : za 0 389 (.iload 5) 391 := ⟨rfl, rfl, rfl⟩
set_option maxRecDepth 20000 in
theorem z0_391 : zb (.ifCond .ne) 0 391 406 394 := ⟨15, ⟨rfl, rfl, rfl⟩, rfl⟩
set_option maxRecDepth 20000 in
theorem z0_394 : za 0 394 (.aload_n 3) 395 := ⟨rfl, rfl, rfl⟩
set_option maxRecDepth 20000 in
theorem z0_395 : za 0 395 (.iconst 0) 396 := ⟨rfl, rfl, rfl⟩
set_option maxRecDepth 20000 in
theorem z0_396 : za 0 396 (.laload) 397 := ⟨rfl, rfl, rfl⟩
set_option maxRecDepth 20000 in
theorem z0_397 : za 0 397 (.iload 6) 399 := ⟨rfl, rfl, rfl⟩
set_option maxRecDepth 20000 in
theorem z0_399 : za 0 399 (.i2l) 400 := ⟨rfl, rfl, rfl⟩
set_option maxRecDepth 20000 in
theorem z0_400 : za 0 400 (.lcmp) 401 := ⟨rfl, rfl, rfl⟩
set_option maxRecDepth 20000 in
theorem z0_401 : zb (.ifCond .eq) 0 401 406 404 := ⟨5, ⟨rfl, rfl, rfl⟩, rfl⟩
set_option maxRecDepth 20000 in
theorem z0_404 : za 0 404 (.iconst 0) 405 := ⟨rfl, rfl, rfl⟩
set_option maxRecDepth 20000 in
theorem z0_405 : za 0 405 (.ireturn) 406 := ⟨rfl, rfl, rfl⟩
set_option maxRecDepth 20000 in
theorem z0_406 : zb (.goto) 0 406 763 409 := ⟨357, ⟨rfl, rfl, rfl⟩, rfl⟩
set_option maxRecDepth 20000 in
theorem z0_409 : za 0 409 (.aload_n 1) 410 := ⟨rfl, rfl, rfl⟩
set_option maxRecDepth 20000 in
theorem z0_410 : za 0 410 (.aload_n 0) 411 := ⟨rfl, rfl, rfl⟩
set_option maxRecDepth 20000 in
theorem z0_411 : za 0 411 (.iload 4) 413 := ⟨rfl, rfl, rfl⟩
set_option maxRecDepth 20000 in
theorem z0_413 : za 0 413 (.iconst 1) 414 := ⟨rfl, rfl, rfl⟩
set_option maxRecDepth 20000 in
theorem z0_414 : za 0 414 (.iadd) 415 := ⟨rfl, rfl, rfl⟩
set_option maxRecDepth 20000 in
theorem z0_415 : za 0 415 (.iaload) 416 := ⟨rfl, rfl, rfl⟩
set_option maxRecDepth 20000 in
theorem z0_416 : za 0 416 (.i2c) 417 := ⟨rfl, rfl, rfl⟩
set_option maxRecDepth 20000 in
theorem z0_417 : za 0 417 (.aload_n 0) 418 := ⟨rfl, rfl, rfl⟩
set_option maxRecDepth 20000 in
theorem z0_418 : za 0 418 (.iload 4) 420 := ⟨rfl, rfl, rfl⟩
set_option maxRecDepth 20000 in
theorem z0_420 : za 0 420 (.iconst 2) 421 := ⟨rfl, rfl, rfl⟩
set_option maxRecDepth 20000 in
theorem z0_421 : za 0 421 (.iadd) 422 := ⟨rfl, rfl, rfl⟩
set_option maxRecDepth 20000 in
theorem z0_422 : za 0 422 (.iaload) 423 := ⟨rfl, rfl, rfl⟩
set_option maxRecDepth 20000 in
theorem z0_423 : za 0 423 (.i2c) 424 := ⟨rfl, rfl, rfl⟩
set_option maxRecDepth 20000 in
theorem z0_424 : za 0 424 (.aload_n 3) 425 := ⟨rfl, rfl, rfl⟩
set_option maxRecDepth 20000 in
theorem z0_425 : za_s 0 425 4 4 428 := ⟨77, .null, ⟨rfl, rfl, rfl⟩, rfl⟩
set_option maxRecDepth 20000 in
theorem z0_428 : za 0 428 (.istore 5) 430 := ⟨rfl, rfl, rfl⟩
set_option maxRecDepth 20000 in
theorem z0_430 : za 0 430 (.aload_n 2) 431 := ⟨rfl, rfl, rfl⟩
set_option maxRecDepth 20000 in
theorem z0_431 : za 0 431 (.aload_n 0) 432 := ⟨rfl, rfl, rfl⟩
set_option maxRecDepth 20000 in
theorem z0_432 : za 0 432 (.iload 4) 434 := ⟨rfl, rfl, rfl⟩
set_option maxRecDepth 20000 in
theorem z0_434 : za 0 434 (.iconst 1) 435 := ⟨rfl, rfl, rfl⟩
set_option maxRecDepth 20000 in
theorem z0_435 : za 0 435 (.iadd) 436 := ⟨rfl, rfl, rfl⟩
set_option maxRecDepth 20000 in
theorem z0_436 : za 0 436 (.iaload) 437 := ⟨rfl, rfl, rfl⟩
set_option maxRecDepth 20000 in
theorem z0_437 : za 0 437 (.i2c) 438 := ⟨rfl, rfl, rfl⟩
set_option maxRecDepth 20000 in
theorem z0_438 : za 0 438 (.aload_n 0) 439 := ⟨rfl, rfl, rfl⟩
set_option maxRecDepth 20000 in
theorem z0_439 : za 0 439 (.iload 4) 441 := ⟨rfl, rfl, rfl⟩
set_option maxRecDepth 20000 in
theorem z0_441 : za 0 441 (.iconst 2) 442 := ⟨rfl, rfl, rfl⟩
set_option maxRecDepth 20000 in
theorem z0_442 : za 0 442 (.iadd) 443 := ⟨rfl, rfl, rfl⟩
set_option maxRecDepth 20000 in
theorem z0_443 : za 0 443 (.iaload) 444 := ⟨rfl, rfl, rfl⟩
set_option maxRecDepth 20000 in
theorem z0_444 : za 0 444 (.i2c) 445 := ⟨rfl, rfl, rfl⟩
set_option maxRecDepth 20000 in
theorem z0_445 : za_v 0 445 110 2 5 448 := ⟨80, ⟨rfl, rfl, rfl⟩, rfl⟩
set_option maxRecDepth 20000 in
theorem z0_448 : za 0 448 (.istore 6) 450 := ⟨rfl, rfl, rfl⟩
set_option maxRecDepth 20000 in
theorem z0_450 : za 0 450 (.aload_n 2) 451 := ⟨rfl, rfl, rfl⟩
set_option maxRecDepth 20000 in
theorem z0_451 : za_v 0 451 77 0 5 454 := ⟨62, ⟨rfl, rfl, rfl⟩, rfl⟩
set_option maxRecDepth 20000 in
theorem z0_454 : za 0 454 (.iload 5) 456 := ⟨rfl, rfl, rfl⟩
set_option maxRecDepth 20000 in
theorem z0_456 : zb (.if_icmp .eq) 0 456 461 459 := ⟨5, ⟨rfl, rfl, rfl⟩, rfl⟩
set_option maxRecDepth 20000 in
theorem z0_459 : za 0 459 (.iconst 0) 460 := ⟨rfl, rfl, rfl⟩
set_option maxRecDepth 20000 in
theorem z0_460 : za 0 460 (.ireturn) 461 := ⟨rfl, rfl, rfl⟩
set_option maxRecDepth 20000 in
theorem z0_461 : za 0 461 (.iload 5) 463 := ⟨rfl, rfl, rfl⟩
set_option maxRecDepth 20000 in
theorem z0_463 : zb (.ifCond .ne) 0 463 478 466 := ⟨15, ⟨rfl, rfl, rfl⟩, rfl⟩
set_option maxRecDepth 20000 in
theorem z0_466 : za 0 466 (.aload_n 3) 467 := ⟨rfl, rfl, rfl⟩
set_option maxRecDepth 20000 in
theorem z0_467 : za 0 467 (.iconst 0) 468 := ⟨rfl, rfl, rfl⟩
set_option maxRecDepth 20000 in
theorem z0_468 : za 0 468 (.laload) 469 := ⟨rfl, rfl, rfl⟩
set_option maxRecDepth 20000 in
theorem z0_469 : za 0 469 (.iload 6) 471 := ⟨rfl, rfl, rfl⟩
set_option maxRecDepth 20000 in
theorem z0_471 : za 0 471 (.i2l) 472 := ⟨rfl, rfl, rfl⟩
set_option maxRecDepth 20000 in
theorem z0_472 : za 0 472 (.lcmp) 473 := ⟨rfl, rfl, rfl⟩
set_option maxRecDepth 20000 in
theorem z0_473 : zb (.ifCond .eq) 0 473 478 476 := ⟨5, ⟨rfl, rfl, rfl⟩, rfl⟩
set_option maxRecDepth 20000 in
theorem z0_476 : za 0 476 (.iconst 0) 477 := ⟨rfl, rfl, rfl⟩
set_option maxRecDepth 20000 in
theorem z0_477 : za 0 477 (.ireturn) 478 := ⟨rfl, rfl, rfl⟩
set_option maxRecDepth 20000 in
theorem z0_478 : zb (.goto) 0 478 763 481 := ⟨285, ⟨rfl, rfl, rfl⟩, rfl⟩
set_option maxRecDepth 20000 in
theorem z0_481 : za 0 481 (.aload_n 1) 482 := ⟨rfl, rfl, rfl⟩
set_option maxRecDepth 20000 in
theorem z0_482 : za 0 482 (.aload_n 3) 483 := ⟨rfl, rfl, rfl⟩
set_option maxRecDepth 20000 in
theorem z0_483 : za_s 0 483 5 2 486 := ⟨81, .null, ⟨rfl, rfl, rfl⟩, rfl⟩
set_option maxRecDepth 20000 in
theorem z0_486 : za 0 486 (.istore 5) 488 := ⟨rfl, rfl, rfl⟩
set_option maxRecDepth 20000 in
theorem z0_488 : za 0 488 (.aload_n 2) 489 := ⟨rfl, rfl, rfl⟩
set_option maxRecDepth 20000 in
theorem z0_489 : za_v 0 489 113 0 5 492 := ⟨84, ⟨rfl, rfl, rfl⟩, rfl⟩
set_option maxRecDepth 20000 in
theorem z0_492 : za 0 492 (.istore 6) 494 := ⟨rfl, rfl, rfl⟩
set_option maxRecDepth 20000 in
theorem z0_494 : za 0 494 (.aload_n 2) 495 := ⟨rfl, rfl, rfl⟩
set_option maxRecDepth 20000 in
theorem z0_495 : za_v 0 495 77 0 5 498 := ⟨62, ⟨rfl, rfl, rfl⟩, rfl⟩
set_option maxRecDepth 20000 in
theorem z0_498 : za 0 498 (.iload 5) 500 := ⟨rfl, rfl, rfl⟩
set_option maxRecDepth 20000 in
theorem z0_500 : zb (.if_icmp .eq) 0 500 505 503 := ⟨5, ⟨rfl, rfl, rfl⟩, rfl⟩
set_option maxRecDepth 20000 in
theorem z0_503 : za 0 503 (.iconst 0) 504 := ⟨rfl, rfl, rfl⟩
set_option maxRecDepth 20000 in
theorem z0_504 : za 0 504 (.ireturn) 505 := ⟨rfl, rfl, rfl⟩
set_option maxRecDepth 20000 in
theorem z0_505 : za 0 505 (.iload 5) 507 := ⟨rfl, rfl, rfl⟩
set_option maxRecDepth 20000 in
theorem z0_507 : zb (.ifCond .ne) 0 507 522 510 := ⟨15, ⟨rfl, rfl, rfl⟩, rfl⟩
set_option maxRecDepth 20000 in
theorem z0_510 : za 0 510 (.aload_n 3) 511 := ⟨rfl, rfl, rfl⟩
set_option maxRecDepth 20000 in
theorem z0_511 : za 0 511 (.iconst 0) 512 := ⟨rfl, rfl, rfl⟩
set_option maxRecDepth 20000 in
theorem z0_512 : za 0 512 (.laload) 513 := ⟨rfl, rfl, rfl⟩
set_option maxRecDepth 20000 in
theorem z0_513 : za 0 513 (.iload 6) 515 := ⟨rfl, rfl, rfl⟩
set_option maxRecDepth 20000 in
theorem z0_515 : za 0 515 (.i2l) 516 := ⟨rfl, rfl, rfl⟩
set_option maxRecDepth 20000 in
theorem z0_516 : za 0 516 (.lcmp) 517 := ⟨rfl, rfl, rfl⟩
set_option maxRecDepth 20000 in
theorem z0_517 : zb (.ifCond .eq) 0 517 522 520 := ⟨5, ⟨rfl, rfl, rfl⟩, rfl⟩
set_option maxRecDepth 20000 in
theorem z0_520 : za 0 520 (.iconst 0) 521 := ⟨rfl, rfl, rfl⟩
set_option maxRecDepth 20000 in
theorem z0_521 : za 0 521 (.ireturn) 522 := ⟨rfl, rfl, rfl⟩
set_option maxRecDepth 20000 in
theorem z0_522 : zb (.goto) 0 522 763 525 := ⟨241, ⟨rfl, rfl, rfl⟩, rfl⟩
set_option maxRecDepth 20000 in
theorem z0_525 : za 0 525 (.aload_n 1) 526 := ⟨rfl, rfl, rfl⟩
set_option maxRecDepth 20000 in
theorem z0_526 : za 0 526 (.aload_n 3) 527 := ⟨rfl, rfl, rfl⟩
set_option maxRecDepth 20000 in
theorem z0_527 : za_s 0 527 6 2 530 := ⟨85, .null, ⟨rfl, rfl, rfl⟩, rfl⟩
set_option maxRecDepth 20000 in
theorem z0_530 : za 0 530 (.istore 5) 532 := ⟨rfl, rfl, rfl⟩
set_option maxRecDepth 20000 in
theorem z0_532 : za 0 532 (.aload_n 2) 533 := ⟨rfl, rfl, rfl⟩
set_option maxRecDepth 20000 in
theorem z0_533 : za_v 0 533 114 0 5 536 := ⟨87, ⟨rfl, rfl, rfl⟩, rfl⟩
set_option maxRecDepth 20000 in
theorem z0_536 : za 0 536 (.istore 6) 538 := ⟨rfl, rfl, rfl⟩
set_option maxRecDepth 20000 in
theorem z0_538 : za 0 538 (.aload_n 2) 539 := ⟨rfl, rfl, rfl⟩
set_option maxRecDepth 20000 in
theorem z0_539 : za_v 0 539 77 0 5 542 := ⟨62, ⟨rfl, rfl, rfl⟩, rfl⟩
set_option maxRecDepth 20000 in
theorem z0_542 : za 0 542 (.iload 5) 544 := ⟨rfl, rfl, rfl⟩
set_option maxRecDepth 20000 in
theorem z0_544 : zb (.if_icmp .eq) 0 544 549 547 := ⟨5, ⟨rfl, rfl, rfl⟩, rfl⟩
set_option maxRecDepth 20000 in
theorem z0_547 : za 0 547 (.iconst 0) 548 := ⟨rfl, rfl, rfl⟩
set_option maxRecDepth 20000 in
theorem z0_548 : za 0 548 (.ireturn) 549 := ⟨rfl, rfl, rfl⟩
set_option maxRecDepth 20000 in
theorem z0_549 : za 0 549 (.iload 5) 551 := ⟨rfl, rfl, rfl⟩
set_option maxRecDepth 20000 in
theorem z0_551 : zb (.ifCond .ne) 0 551 566 554 := ⟨15, ⟨rfl, rfl, rfl⟩, rfl⟩
set_option maxRecDepth 20000 in
theorem z0_554 : za 0 554 (.aload_n 3) 555 := ⟨rfl, rfl, rfl⟩
set_option maxRecDepth 20000 in
theorem z0_555 : za 0 555 (.iconst 0) 556 := ⟨rfl, rfl, rfl⟩
set_option maxRecDepth 20000 in
theorem z0_556 : za 0 556 (.laload) 557 := ⟨rfl, rfl, rfl⟩
set_option maxRecDepth 20000 in
theorem z0_557 : za 0 557 (.iload 6) 559 := ⟨rfl, rfl, rfl⟩
set_option maxRecDepth 20000 in
theorem z0_559 : za 0 559 (.i2l) 560 := ⟨rfl, rfl, rfl⟩
set_option maxRecDepth 20000 in
theorem z0_560 : za 0 560 (.lcmp) 561 := ⟨rfl, rfl, rfl⟩
set_option maxRecDepth 20000 in
theorem z0_561 : zb (.ifCond .eq) 0 561 566 564 := ⟨5, ⟨rfl, rfl, rfl⟩, rfl⟩
set_option maxRecDepth 20000 in
theorem z0_564 : za 0 564 (.iconst 0) 565 := ⟨rfl, rfl, rfl⟩
set_option maxRecDepth 20000 in
theorem z0_565 : za 0 565 (.ireturn) 566 := ⟨rfl, rfl, rfl⟩
set_option maxRecDepth 20000 in
theorem z0_566 : zb (.goto) 0 566 763 569 := ⟨197, ⟨rfl, rfl, rfl⟩, rfl⟩
set_option maxRecDepth 20000 in
theorem z0_569 : za 0 569 (.aload_n 1) 570 := ⟨rfl, rfl, rfl⟩
set_option maxRecDepth 20000 in
theorem z0_570 : za_v 0 570 18 0 0 573 := ⟨88, ⟨rfl, rfl, rfl⟩, rfl⟩
set_option maxRecDepth 20000 in
theorem z0_573 : za 0 573 (.aload_n 2) 574 := ⟨rfl, rfl, rfl⟩
set_option maxRecDepth 20000 in
theorem z0_574 : za_v 0 574 115 0 5 577 := ⟨91, ⟨rfl, rfl, rfl⟩, rfl⟩
set_option maxRecDepth 20000 in
theorem z0_577 : zb (.if_icmp .eq) 0 577 763 580 := ⟨186, ⟨rfl, rfl, rfl⟩, rfl⟩
set_option maxRecDepth 20000 in
theorem z0_580 : za 0 580 (.iconst 0) 581 := ⟨rfl, rfl, rfl⟩
set_option maxRecDepth 20000 in
theorem z0_581 : za 0 581 (.ireturn) 582 := ⟨rfl, rfl, rfl⟩
set_option maxRecDepth 20000 in
theorem z0_582 : za 0 582 (.aload_n 1) 583 := ⟨rfl, rfl, rfl⟩
set_option maxRecDepth 20000 in
theorem z0_583 : za 0 583 (.aload_n 0) 584 := ⟨rfl, rfl, rfl⟩
set_option maxRecDepth 20000 in
theorem z0_584 : za 0 584 (.iload 4) 586 := ⟨rfl, rfl, rfl⟩
set_option maxRecDepth 20000 in
theorem z0_586 : za 0 586 (.iconst 1) 587 := ⟨rfl, rfl, rfl⟩
set_option maxRecDepth 20000 in
theorem z0_587 : za 0 587 (.iadd) 588 := ⟨rfl, rfl, rfl⟩
set_option maxRecDepth 20000 in
theorem z0_588 : za 0 588 (.iaload) 589 := ⟨rfl, rfl, rfl⟩
set_option maxRecDepth 20000 in
theorem z0_589 : za 0 589 (.aload_n 0) 590 := ⟨rfl, rfl, rfl⟩
set_option maxRecDepth 20000 in
theorem z0_590 : za 0 590 (.iload 4) 592 := ⟨rfl, rfl, rfl⟩
set_option maxRecDepth 20000 in
theorem z0_592 : za 0 592 (.iconst 2) 593 := ⟨rfl, rfl, rfl⟩
set_option maxRecDepth 20000 in
theorem z0_593 : za 0 593 (.iadd) 594 := ⟨rfl, rfl, rfl⟩
set_option maxRecDepth 20000 in
theorem z0_594 : za 0 594 (.iaload) 595 := ⟨rfl, rfl, rfl⟩
set_option maxRecDepth 20000 in
theorem z0_595 : za_v 0 595 19 2 0 598 := ⟨92, ⟨rfl, rfl, rfl⟩, rfl⟩
set_option maxRecDepth 20000 in
theorem z0_598 : za 0 598 (.aload_n 2) 599 := ⟨rfl, rfl, rfl⟩
set_option maxRecDepth 20000 in
theorem z0_599 : za 0 599 (.aload_n 0) 600 := ⟨rfl, rfl, rfl⟩
set_option maxRecDepth 20000 in
theorem z0_600 : za 0 600 (.iload 4) 602 := ⟨rfl, rfl, rfl⟩
set_option maxRecDepth 20000 in
theorem z0_602 : za 0 602 (.iconst 1) 603 := ⟨rfl, rfl, rfl⟩
set_option maxRecDepth 20000 in
theorem z0_603 : za 0 603 (.iadd) 604 := ⟨rfl, rfl, rfl⟩
set_option maxRecDepth 20000 in
theorem z0_604 : za 0 604 (.iaload) 605 := ⟨rfl, rfl, rfl⟩
set_option maxRecDepth 20000 in
theorem z0_605 : za 0 605 (.aload_n 0) 606 := ⟨rfl, rfl, rfl⟩
set_option maxRecDepth 20000 in
theorem z0_606 : za 0 606 (.iload 4) 608 := ⟨rfl, rfl, rfl⟩
set_option maxRecDepth 20000 in
theorem z0_608 : za 0 608 (.iconst 2) 609 := ⟨rfl, rfl, rfl⟩
set_option maxRecDepth 20000 in
theorem z0_609 : za 0 609 (.iadd) 610 := ⟨rfl, rfl, rfl⟩
set_option maxRecDepth 20000 in
theorem z0_610 : za 0 610 (.iaload) 611 := ⟨rfl, rfl, rfl⟩
set_option maxRecDepth 20000 in
theorem z0_611 : za_v 0 611 116 2 5 614 := ⟨95, ⟨rfl, rfl, rfl⟩, rfl⟩
set_option maxRecDepth 20000 in
theorem z0_614 : zb (.if_icmp .eq) 0 614 763 617 := ⟨149, ⟨rfl, rfl, rfl⟩, rfl⟩
set_option maxRecDepth 20000 in
theorem z0_617 : za 0 617 (.iconst 0) 618 := ⟨rfl, rfl, rfl⟩
set_option maxRecDepth 20000 in
theorem z0_618 : za 0 618 (.ireturn) 619 := ⟨rfl, rfl, rfl⟩
set_option maxRecDepth 20000 in
theorem z0_619 : za 0 619 (.aload_n 1) 620 := ⟨rfl, rfl, rfl⟩
set_option maxRecDepth 20000 in
theorem z0_620 : za 0 620 (.aload_n 0) 621 := ⟨rfl, rfl, rfl⟩
set_option maxRecDepth 20000 in
theorem z0_621 : za 0 621 (.iload 4) 623 := ⟨rfl, rfl, rfl⟩
set_option maxRecDepth 20000 in
theorem z0_623 : za 0 623 (.iconst 1) 624 := ⟨rfl, rfl, rfl⟩
set_option maxRecDepth 20000 in
theorem z0_624 : za 0 624 (.iadd) 625 := ⟨rfl, rfl, rfl⟩
set_option maxRecDepth 20000 in
theorem z0_625 : za 0 625 (.iaload) 626 := ⟨rfl, rfl, rfl⟩
set_option maxRecDepth 20000 in
theorem z0_626 : za_v 0 626 20 1 0 629 := ⟨96, ⟨rfl, rfl, rfl⟩, rfl⟩
set_option maxRecDepth 20000 in
theorem z0_629 : za 0 629 (.aload_n 2) 630 := ⟨rfl, rfl, rfl⟩
set_option maxRecDepth 20000 in
theorem z0_630 : za 0 630 (.aload_n 0) 631 := ⟨rfl, rfl, rfl⟩
set_option maxRecDepth 20000 in
theorem z0_631 : za 0 631 (.iload 4) 633 := ⟨rfl, rfl, rfl⟩
set_option maxRecDepth 20000 in
theorem z0_633 : za 0 633 (.iconst 1) 634 := ⟨rfl, rfl, rfl⟩
set_option maxRecDepth 20000 in
theorem z0_634 : za 0 634 (.iadd) 635 := ⟨rfl, rfl, rfl⟩
set_option maxRecDepth 20000 in
theorem z0_635 : za 0 635 (.iaload) 636 := ⟨rfl, rfl, rfl⟩
set_option maxRecDepth 20000 in
theorem z0_636 : za_v 0 636 117 1 5 639 := ⟨99, ⟨rfl, rfl, rfl⟩, rfl⟩
set_option maxRecDepth 20000 in
theorem z0_639 : zb (.if_icmp .eq) 0 639 763 642 := ⟨124, ⟨rfl, rfl, rfl⟩, rfl⟩
set_option maxRecDepth 20000 in
theorem z0_642 : za 0 642 (.iconst 0) 643 := ⟨rfl, rfl, rfl⟩
set_option maxRecDepth 20000 in
theorem z0_643 : za 0 643 (.ireturn) 644 := ⟨rfl, rfl, rfl⟩
set_option maxRecDepth 20000 in
theorem z0_644 : za 0 644 (.aload_n 1) 645 := ⟨rfl, rfl, rfl⟩
set_option maxRecDepth 20000 in
theorem z0_645 : za 0 645 (.aload_n 0) 646 := ⟨rfl, rfl, rfl⟩
set_option maxRecDepth 20000 in
theorem z0_646 : za 0 646 (.iload 4) 648 := ⟨rfl, rfl, rfl⟩
set_option maxRecDepth 20000 in
theorem z0_648 : za 0 648 (.iconst 1) 649 := ⟨rfl, rfl, rfl⟩
set_option maxRecDepth 20000 in
theorem z0_649 : za 0 649 (.iadd) 650 := ⟨rfl, rfl, rfl⟩
set_option maxRecDepth 20000 in
theorem z0_650 : za 0 650 (.iaload) 651 := ⟨rfl, rfl, rfl⟩
set_option maxRecDepth 20000 in
theorem z0_651 : za 0 651 (.aload_n 0) 652 := ⟨rfl, rfl, rfl⟩
set_option maxRecDepth 20000 in
theorem z0_652 : za 0 652 (.iload 4) 654 := ⟨rfl, rfl, rfl⟩
set_option maxRecDepth 20000 in
theorem z0_654 : za 0 654 (.iconst 2) 655 := ⟨rfl, rfl, rfl⟩
set_option maxRecDepth 20000 in
theorem z0_655 : za 0 655 (.iadd) 656 := ⟨rfl, rfl, rfl⟩
set_option maxRecDepth 20000 in
theorem z0_656 : za 0 656 (.iaload) 657 := ⟨rfl, rfl, rfl⟩
set_option maxRecDepth 20000 in
theorem z0_657 : za_v 0 657 21 2 0 660 := ⟨100, ⟨rfl, rfl, rfl⟩, rfl⟩
set_option maxRecDepth 20000 in
theorem z0_660 : za 0 660 (.aload_n 2) 661 := ⟨rfl, rfl, rfl⟩
set_option maxRecDepth 20000 in
theorem z0_661 : za 0 661 (.aload_n 0) 662 := ⟨rfl, rfl, rfl⟩
set_option maxRecDepth 20000 in
theorem z0_662 : za 0 662 (.iload 4) 664 := ⟨rfl, rfl, rfl⟩
set_option maxRecDepth 20000 in
theorem z0_664 : za 0 664 (.iconst 1) 665 := ⟨rfl, rfl, rfl⟩
set_option maxRecDepth 20000 in
theorem z0_665 : za 0 665 (.iadd) 666 := ⟨rfl, rfl, rfl⟩
set_option maxRecDepth 20000 in
theorem z0_666 : za 0 666 (.iaload) 667 := ⟨rfl, rfl, rfl⟩
set_option maxRecDepth 20000 in
theorem z0_667 : za 0 667 (.aload_n 0) 668 := ⟨rfl, rfl, rfl⟩
set_option maxRecDepth 20000 in
theorem z0_668 : za 0 668 (.iload 4) 670 := ⟨rfl, rfl, rfl⟩
set_option maxRecDepth 20000 in
theorem z0_670 : za 0 670 (.iconst 2) 671 := ⟨rfl, rfl, rfl⟩
set_option maxRecDepth 20000 in
theorem z0_671 : za 0 671 (.iadd) 672 := ⟨rfl, rfl, rfl⟩
set_option maxRecDepth 20000 in
theorem z0_672 : za 0 672 (.iaload) 673 := ⟨rfl, rfl, rfl⟩
set_option maxRecDepth 20000 in
theorem z0_673 : za_v 0 673 118 2 5 676 := ⟨103, ⟨rfl, rfl, rfl⟩, rfl⟩
set_option maxRecDepth 20000 in
theorem z0_676 : zb (.if_icmp .eq) 0 676 763 679 := ⟨87, ⟨rfl, rfl, rfl⟩, rfl⟩
set_option maxRecDepth 20000 in
theorem z0_679 : za 0 679 (.iconst 0) 680 := ⟨rfl, rfl, rfl⟩
set_option maxRecDepth 20000 in
theorem z0_680 : za 0 680 (.ireturn) 681 := ⟨rfl, rfl, rfl⟩
set_option maxRecDepth 20000 in
theorem z0_681 : za 0 681 (.aload_n 1) 682 := ⟨rfl, rfl, rfl⟩
set_option maxRecDepth 20000 in
theorem z0_682 : za 0 682 (.aload_n 0) 683 := ⟨rfl, rfl, rfl⟩
set_option maxRecDepth 20000 in
theorem z0_683 : za 0 683 (.iload 4) 685 := ⟨rfl, rfl, rfl⟩
set_option maxRecDepth 20000 in
theorem z0_685 : za 0 685 (.iconst 1) 686 := ⟨rfl, rfl, rfl⟩
set_option maxRecDepth 20000 in
theorem z0_686 : za 0 686 (.iadd) 687 := ⟨rfl, rfl, rfl⟩
set_option maxRecDepth 20000 in
theorem z0_687 : za 0 687 (.iaload) 688 := ⟨rfl, rfl, rfl⟩
set_option maxRecDepth 20000 in
theorem z0_688 : za 0 688 (.aload_n 3) 689 := ⟨rfl, rfl, rfl⟩
set_option maxRecDepth 20000 in
theorem z0_689 : za_s 0 689 7 3 692 := ⟨104, .null, ⟨rfl, rfl, rfl⟩, rfl⟩
set_option maxRecDepth 20000 in
theorem z0_692 : za 0 692 (.istore 5) 694 := ⟨rfl, rfl, rfl⟩
set_option maxRecDepth 20000 in
theorem z0_694 : za 0 694 (.aload_n 2) 695 := ⟨rfl, rfl, rfl⟩
set_option maxRecDepth 20000 in
theorem z0_695 : za 0 695 (.aload_n 0) 696 := ⟨rfl, rfl, rfl⟩
set_option maxRecDepth 20000 in
theorem z0_696 : za 0 696 (.iload 4) 698 := ⟨rfl, rfl, rfl⟩
set_option maxRecDepth 20000 in
theorem z0_698 : za 0 698 (.iconst 1) 699 := ⟨rfl, rfl, rfl⟩
set_option maxRecDepth 20000 in
theorem z0_699 : za 0 699 (.iadd) 700 := ⟨rfl, rfl, rfl⟩
set_option maxRecDepth 20000 in
theorem z0_700 : za 0 700 (.iaload) 701 := ⟨rfl, rfl, rfl⟩
set_option maxRecDepth 20000 in
theorem z0_701 : za_v 0 701 131 1 5 704 := ⟨107, ⟨rfl, rfl, rfl⟩, rfl⟩
set_option maxRecDepth 20000 in
theorem z0_704 : za 0 704 (.istore 6) 706 := ⟨rfl, rfl, rfl⟩
set_option maxRecDepth 20000 in
theorem z0_706 : za 0 706 (.aload_n 2) 707 := ⟨rfl, rfl, rfl⟩
set_option maxRecDepth 20000 in
theorem z0_707 : za_v 0 707 77 0 5 710 := ⟨62, ⟨rfl, rfl, rfl⟩, rfl⟩
set_option maxRecDepth 20000 in
theorem z0_710 : za 0 710 (.iload 5) 712 := ⟨rfl, rfl, rfl⟩
set_option maxRecDepth 20000 in
theorem z0_712 : zb (.if_icmp .eq) 0 712 717 715 := ⟨5, ⟨rfl, rfl, rfl⟩, rfl⟩
set_option maxRecDepth 20000 in
theorem z0_715 : za 0 715 (.iconst 0) 716 := ⟨rfl, rfl, rfl⟩
set_option maxRecDepth 20000 in
theorem z0_716 : za 0 716 (.ireturn) 717 := ⟨rfl, rfl, rfl⟩
set_option maxRecDepth 20000 in
theorem z0_717 : za 0 717 (.iload 5) 719 := ⟨rfl, rfl, rfl⟩
set_option maxRecDepth 20000 in
theorem z0_719 : zb (.ifCond .ne) 0 719 734 722 := ⟨15, ⟨rfl, rfl, rfl⟩, rfl⟩
set_option maxRecDepth 20000 in
theorem z0_722 : za 0 722 (.aload_n 3) 723 := ⟨rfl, rfl, rfl⟩
set_option maxRecDepth 20000 in
theorem z0_723 : za 0 723 (.iconst 0) 724 := ⟨rfl, rfl, rfl⟩
set_option maxRecDepth 20000 in
theorem z0_724 : za 0 724 (.laload) 725 := ⟨rfl, rfl, rfl⟩
set_option maxRecDepth 20000 in
theorem z0_725 : za 0 725 (.iload 6) 727 := ⟨rfl, rfl, rfl⟩
set_option maxRecDepth 20000 in
theorem z0_727 : za 0 727 (.i2l) 728 := ⟨rfl, rfl, rfl⟩
set_option maxRecDepth 20000 in
theorem z0_728 : za 0 728 (.lcmp) 729 := ⟨rfl, rfl, rfl⟩
set_option maxRecDepth 20000 in
theorem z0_729 : zb (.ifCond .eq) 0 729 734 732 := ⟨5, ⟨rfl, rfl, rfl⟩, rfl⟩
set_option maxRecDepth 20000 in
theorem z0_732 : za 0 732 (.iconst 0) 733 := ⟨rfl, rfl, rfl⟩
set_option maxRecDepth 20000 in
theorem z0_733 : za 0 733 (.ireturn) 734 := ⟨rfl, rfl, rfl⟩
set_option maxRecDepth 20000 in
theorem z0_734 : zb (.goto) 0 734 763 737 := ⟨29, ⟨rfl, rfl, rfl⟩, rfl⟩
set_option maxRecDepth 20000 in
theorem z0_737 : za 0 737 (.aload_n 1) 738 := ⟨rfl, rfl, rfl⟩
set_option maxRecDepth 20000 in
theorem z0_738 : za_v 0 738 23 0 0 741 := ⟨108, ⟨rfl, rfl, rfl⟩, rfl⟩
set_option maxRecDepth 20000 in
theorem z0_741 : za 0 741 (.aload_n 2) 742 := ⟨rfl, rfl, rfl⟩
set_option maxRecDepth 20000 in
theorem z0_742 : za_v 0 742 132 0 5 745 := ⟨111, ⟨rfl, rfl, rfl⟩, rfl⟩
set_option maxRecDepth 20000 in
theorem z0_745 : zb (.if_icmp .eq) 0 745 763 748 := ⟨18, ⟨rfl, rfl, rfl⟩, rfl⟩
set_option maxRecDepth 20000 in
theorem z0_748 : za 0 748 (.iconst 0) 749 := ⟨rfl, rfl, rfl⟩
set_option maxRecDepth 20000 in
theorem z0_749 : za 0 749 (.ireturn) 750 := ⟨rfl, rfl, rfl⟩
set_option maxRecDepth 20000 in
theorem z0_750 : za 0 750 (.aload_n 1) 751 := ⟨rfl, rfl, rfl⟩
set_option maxRecDepth 20000 in
theorem z0_751 : za_v 0 751 24 0 0 754 := ⟨112, ⟨rfl, rfl, rfl⟩, rfl⟩
set_option maxRecDepth 20000 in
theorem z0_754 : za 0 754 (.aload_n 2) 755 := ⟨rfl, rfl, rfl⟩
set_option maxRecDepth 20000 in
theorem z0_755 : za_v 0 755 133 0 5 758 := ⟨115, ⟨rfl, rfl, rfl⟩, rfl⟩
set_option maxRecDepth 20000 in
theorem z0_758 : zb (.if_icmp .eq) 0 758 763 761 := ⟨5, ⟨rfl, rfl, rfl⟩, rfl⟩
set_option maxRecDepth 20000 in
theorem z0_761 : za 0 761 (.iconst 0) 762 := ⟨rfl, rfl, rfl⟩
set_option maxRecDepth 20000 in
theorem z0_762 : za 0 762 (.ireturn) 763 := ⟨rfl, rfl, rfl⟩
set_option maxRecDepth 20000 in
theorem z0_763 : za 0 763 (.iinc 4 (5)) 766 := ⟨rfl, rfl, rfl⟩
set_option maxRecDepth 20000 in
theorem z0_766 : zb (.goto) 0 766 23 769 := ⟨(-743), ⟨rfl, rfl, rfl⟩, rfl⟩
set_option maxRecDepth 20000 in
theorem z0_769 : za 0 769 (.iconst 1) 770 := ⟨rfl, rfl, rfl⟩
set_option maxRecDepth 20000 in
theorem z0_770 : za 0 770 (.ireturn) 771 := ⟨rfl, rfl, rfl⟩
theorem z1_0 : za 1 0 (.aload_n 0) 1 := ⟨rfl, rfl, rfl⟩
theorem z1_1 : za 1 1 (.iload_n 1) 2 := ⟨rfl, rfl, rfl⟩
theorem z1_2 : za_v 1 2 11 1 0 5 := ⟨7, ⟨rfl, rfl, rfl⟩, rfl⟩
theorem z1_5 : zb (.goto) 1 5 11 8 := ⟨6, ⟨rfl, rfl, rfl⟩, rfl⟩
theorem z1_8 : za 1 8 (.astore_n 2) 9 := ⟨rfl, rfl, rfl⟩
theorem z1_9 : za 1 9 (.iconst 1) 10 := ⟨rfl, rfl, rfl⟩
theorem z1_10 : za 1 10 (.ireturn) 11 := ⟨rfl, rfl, rfl⟩
theorem z1_11 : za 1 11 (.iconst 0) 12 := ⟨rfl, rfl, rfl⟩
theorem z1_12 : za 1 12 (.ireturn) 13 := ⟨rfl, rfl, rfl⟩
theorem z2_0 : za 2 0 (.aload_n 3) 1 := ⟨rfl, rfl, rfl⟩
theorem z2_1 : za 2 1 (.iconst 0) 2 := ⟨rfl, rfl, rfl⟩
theorem z2_2 : za 2 2 (.aload_n 0) 3 := ⟨rfl, rfl, rfl⟩
theorem z2_3 : za 2 3 (.iload_n 1) 4 := ⟨rfl, rfl, rfl⟩
theorem z2_4 : za 2 4 (.iload_n 2) 5 := ⟨rfl, rfl, rfl⟩
theorem z2_5 : za_v 2 5 13 2 0 8 := ⟨15, ⟨rfl, rfl, rfl⟩, rfl⟩
theorem z2_8 : za 2 8 (.i2l) 9 := ⟨rfl, rfl, rfl⟩
theorem z2_9 : za 2 9 (.lastore) 10 := ⟨rfl, rfl, rfl⟩
theorem z2_10 : zb (.goto) 2 10 21 13 := ⟨11, ⟨rfl, rfl, rfl⟩, rfl⟩
theorem z2_13 : za 2 13 (.astore 4) 15 := ⟨rfl, rfl, rfl⟩
theorem z2_15 : za 2 15 (.iconst 1) 16 := ⟨rfl, rfl, rfl⟩
theorem z2_16 : za 2 16 (.ireturn) 17 := ⟨rfl, rfl, rfl⟩
theorem z2_17 : za 2 17 (.astore 4) 19 := ⟨rfl, rfl, rfl⟩
theorem z2_19 : za 2 19 (.iconst 2) 20 := ⟨rfl, rfl, rfl⟩
theorem z2_20 : za 2 20 (.ireturn) 21 := ⟨rfl, rfl, rfl⟩
theorem z2_21 : za 2 21 (.iconst 0) 22 := ⟨rfl, rfl, rfl⟩
theorem z2_22 : za 2 22 (.ireturn) 23 := ⟨rfl, rfl, rfl⟩
theorem z3_0 : za 3 0 (.aload 4) 2 := ⟨rfl, rfl, rfl⟩
theorem z3_2 : za 3 2 (.iconst 0) 3 := ⟨rfl, rfl, rfl⟩
theorem z3_3 : za 3 3 (.aload_n 0) 4 := ⟨rfl, rfl, rfl⟩
theorem z3_4 : za 3 4 (.iload_n 1) 5 := ⟨rfl, rfl, rfl⟩
theorem z3_5 : za 3 5 (.iload_n 2) 6 := ⟨rfl, rfl, rfl⟩
theorem z3_6 : za 3 6 (.iload_n 3) 7 := ⟨rfl, rfl, rfl⟩
theorem z3_7 : za_v 3 7 14 3 0 10 := ⟨21, ⟨rfl, rfl, rfl⟩, rfl⟩
theorem z3_10 : za 3 10 (.i2l) 11 := ⟨rfl, rfl, rfl⟩
theorem z3_11 : za 3 11 (.lastore) 12 := ⟨rfl, rfl, rfl⟩
theorem z3_12 : zb (.goto) 3 12 23 15 := ⟨11, ⟨rfl, rfl, rfl⟩, rfl⟩
theorem z3_15 : za 3 15 (.astore 5) 17 := ⟨rfl, rfl, rfl⟩
theorem z3_17 : za 3 17 (.iconst 1) 18 := ⟨rfl, rfl, rfl⟩
theorem z3_18 : za 3 18 (.ireturn) 19 := ⟨rfl, rfl, rfl⟩
theorem z3_19 : za 3 19 (.astore 5) 21 := ⟨rfl, rfl, rfl⟩
theorem z3_21 : za 3 21 (.iconst 2) 22 := ⟨rfl, rfl, rfl⟩
theorem z3_22 : za 3 22 (.ireturn) 23 := ⟨rfl, rfl, rfl⟩
theorem z3_23 : za 3 23 (.iconst 0) 24 := ⟨rfl, rfl, rfl⟩
theorem z3_24 : za 3 24 (.ireturn) 25 := ⟨rfl, rfl, rfl⟩
theorem z4_0 : za 4 0 (.aload_n 3) 1 := ⟨rfl, rfl, rfl⟩
theorem z4_1 : za 4 1 (.iconst 0) 2 := ⟨rfl, rfl, rfl⟩
theorem z4_2 : za 4 2 (.aload_n 0) 3 := ⟨rfl, rfl, rfl⟩
theorem z4_3 : za 4 3 (.iload_n 1) 4 := ⟨rfl, rfl, rfl⟩
theorem z4_4 : za 4 4 (.iload_n 2) 5 := ⟨rfl, rfl, rfl⟩
theorem z4_5 : za_v 4 5 15 2 0 8 := ⟨25, ⟨rfl, rfl, rfl⟩, rfl⟩
theorem z4_8 : za 4 8 (.i2l) 9 := ⟨rfl, rfl, rfl⟩
theorem z4_9 : za 4 9 (.lastore) 10 := ⟨rfl, rfl, rfl⟩
theorem z4_10 : zb (.goto) 4 10 21 13 := ⟨11, ⟨rfl, rfl, rfl⟩, rfl⟩
theorem z4_13 : za 4 13 (.astore 4) 15 := ⟨rfl, rfl, rfl⟩
theorem z4_15 : za 4 15 (.iconst 1) 16 := ⟨rfl, rfl, rfl⟩
theorem z4_16 : za 4 16 (.ireturn) 17 := ⟨rfl, rfl, rfl⟩
theorem z4_17 : za 4 17 (.astore 4) 19 := ⟨rfl, rfl, rfl⟩
theorem z4_19 : za 4 19 (.iconst 2) 20 := ⟨rfl, rfl, rfl⟩
theorem z4_20 : za 4 20 (.ireturn) 21 := ⟨rfl, rfl, rfl⟩
theorem z4_21 : za 4 21 (.iconst 0) 22 := ⟨rfl, rfl, rfl⟩
theorem z4_22 : za 4 22 (.ireturn) 23 := ⟨rfl, rfl, rfl⟩
theorem z5_0 : za 5 0 (.aload_n 1) 1 := ⟨rfl, rfl, rfl⟩
theorem z5_1 : za 5 1 (.iconst 0) 2 := ⟨rfl, rfl, rfl⟩
theorem z5_2 : za 5 2 (.aload_n 0) 3 := ⟨rfl, rfl, rfl⟩
theorem z5_3 : za_v 5 3 16 0 0 6 := ⟨29, ⟨rfl, rfl, rfl⟩, rfl⟩
theorem z5_6 : za 5 6 (.i2l) 7 := ⟨rfl, rfl, rfl⟩
theorem z5_7 : za 5 7 (.lastore) 8 := ⟨rfl, rfl, rfl⟩
theorem z5_8 : zb (.goto) 5 8 14 11 := ⟨6, ⟨rfl, rfl, rfl⟩, rfl⟩
theorem z5_11 : za 5 11 (.astore_n 2) 12 := ⟨rfl, rfl, rfl⟩
theorem z5_12 : za 5 12 (.iconst 1) 13 := ⟨rfl, rfl, rfl⟩
theorem z5_13 : za 5 13 (.ireturn) 14 := ⟨rfl, rfl, rfl⟩
theorem z5_14 : za 5 14 (.iconst 0) 15 := ⟨rfl, rfl, rfl⟩
theorem z5_15 : za 5 15 (.ireturn) 16 := ⟨rfl, rfl, rfl⟩
theorem z6_0 : za 6 0 (.aload_n 1) 1 := ⟨rfl, rfl, rfl⟩
theorem z6_1 : za 6 1 (.iconst 0) 2 := ⟨rfl, rfl, rfl⟩
theorem z6_2 : za 6 2 (.aload_n 0) 3 := ⟨rfl, rfl, rfl⟩
theorem z6_3 : za_v 6 3 17 0 0 6 := ⟨33, ⟨rfl, rfl, rfl⟩, rfl⟩
theorem z6_6 : za 6 6 (.i2l) 7 := ⟨rfl, rfl, rfl⟩
theorem z6_7 : za 6 7 (.lastore) 8 := ⟨rfl, rfl, rfl⟩
theorem z6_8 : zb (.goto) 6 8 14 11 := ⟨6, ⟨rfl, rfl, rfl⟩, rfl⟩
theorem z6_11 : za 6 11 (.astore_n 2) 12 := ⟨rfl, rfl, rfl⟩
theorem z6_12 : za 6 12 (.iconst 1) 13 := ⟨rfl, rfl, rfl⟩
theorem z6_13 : za 6 13 (.ireturn) 14 := ⟨rfl, rfl, rfl⟩
theorem z6_14 : za 6 14 (.iconst 0) 15 := ⟨rfl, rfl, rfl⟩
theorem z6_15 : za 6 15 (.ireturn) 16 := ⟨rfl, rfl, rfl⟩
theorem z7_0 : za 7 0 (.aload_n 2) 1 := ⟨rfl, rfl, rfl⟩
theorem z7_1 : za 7 1 (.iconst 0) 2 := ⟨rfl, rfl, rfl⟩
theorem z7_2 : za 7 2 (.aload_n 0) 3 := ⟨rfl, rfl, rfl⟩
theorem z7_3 : za 7 3 (.iload_n 1) 4 := ⟨rfl, rfl, rfl⟩
theorem z7_4 : za_v 7 4 22 1 0 7 := ⟨38, ⟨rfl, rfl, rfl⟩, rfl⟩
theorem z7_7 : za 7 7 (.i2l) 8 := ⟨rfl, rfl, rfl⟩
theorem z7_8 : za 7 8 (.lastore) 9 := ⟨rfl, rfl, rfl⟩
theorem z7_9 : zb (.goto) 7 9 18 12 := ⟨9, ⟨rfl, rfl, rfl⟩, rfl⟩
theorem z7_12 : za 7 12 (.astore_n 3) 13 := ⟨rfl, rfl, rfl⟩
theorem z7_13 : za 7 13 (.iconst 1) 14 := ⟨rfl, rfl, rfl⟩
theorem z7_14 : za 7 14 (.ireturn) 15 := ⟨rfl, rfl, rfl⟩
theorem z7_15 : za 7 15 (.astore_n 3) 16 := ⟨rfl, rfl, rfl⟩
theorem z7_16 : za 7 16 (.iconst 2) 17 := ⟨rfl, rfl, rfl⟩
theorem z7_17 : za 7 17 (.ireturn) 18 := ⟨rfl, rfl, rfl⟩
theorem z7_18 : za 7 18 (.iconst 0) 19 := ⟨rfl, rfl, rfl⟩
theorem z7_19 : za 7 19 (.ireturn) 20 := ⟨rfl, rfl, rfl⟩
theorem z8_0 : za 8 0 (.aload_n 0) 1 := ⟨rfl, rfl, rfl⟩
theorem z8_1 : za_o 8 1 4 := ⟨1, 0, .null, ⟨rfl, rfl, rfl⟩, rfl⟩
theorem z8_4 : za 8 4 (.aload_n 0) 5 := ⟨rfl, rfl, rfl⟩
theorem z8_5 : za_n 8 5 1 6 8 := ⟨7, .null, ⟨rfl, rfl, rfl⟩, rfl⟩
theorem z8_8 : za 8 8 (.dup) 9 := ⟨rfl, rfl, rfl⟩
theorem z8_9 : za_i 8 9 28 0 12 := ⟨9, .null, ⟨rfl, rfl, rfl⟩, rfl⟩
theorem z8_12 : za_p 8 12 0 0 15 := ⟨10, 8, .null, ⟨rfl, rfl, rfl⟩, rfl, Or.inr rfl⟩
theorem z8_15 : za 8 15 (.aload_n 0) 16 := ⟨rfl, rfl, rfl⟩
theorem z8_16 : za_n 8 16 2 6 19 := ⟨16, .null, ⟨rfl, rfl, rfl⟩, rfl⟩
theorem z8_19 : za 8 19 (.dup) 20 := ⟨rfl, rfl, rfl⟩
theorem z8_20 : za 8 20 (.aload_n 0) 21 := ⟨rfl, rfl, rfl⟩
theorem z8_21 : za_f 8 21 0 0 24 := ⟨10, 8, .null, ⟨rfl, rfl, rfl⟩, rfl, Or.inr (Or.inl rfl)⟩
theorem z8_24 : za_i 8 24 39 1 27 := ⟨18, .null, ⟨rfl, rfl, rfl⟩, rfl⟩
theorem z8_27 : za_p 8 27 0 1 30 := ⟨21, 8, .null, ⟨rfl, rfl, rfl⟩, rfl, Or.inr rfl⟩
theorem z8_30 : za 8 30 (.aload_n 0) 31 := ⟨rfl, rfl, rfl⟩
theorem z8_31 : za_n 8 31 3 6 34 := ⟨25, .null, ⟨rfl, rfl, rfl⟩, rfl⟩
theorem z8_34 : za 8 34 (.dup) 35 := ⟨rfl, rfl, rfl⟩
theorem z8_35 : za_i 8 35 63 0 38 := ⟨27, .null, ⟨rfl, rfl, rfl⟩, rfl⟩
theorem z8_38 : za_p 8 38 0 2 41 := ⟨28, 8, .null, ⟨rfl, rfl, rfl⟩, rfl, Or.inr rfl⟩
theorem z8_41 : za 8 41 (.aload_n 0) 42 := ⟨rfl, rfl, rfl⟩
theorem z8_42 : za_n 8 42 4 10 45 := ⟨32, .null, ⟨rfl, rfl, rfl⟩, rfl⟩
theorem z8_45 : za 8 45 (.dup) 46 := ⟨rfl, rfl, rfl⟩
theorem z8_46 : za 8 46 (.aload_n 0) 47 := ⟨rfl, rfl, rfl⟩
theorem z8_47 : za_f 8 47 0 0 50 := ⟨10, 8, .null, ⟨rfl, rfl, rfl⟩, rfl, Or.inr (Or.inl rfl)⟩
theorem z8_50 : za_i 8 50 67 1 53 := ⟨34, .null, ⟨rfl, rfl, rfl⟩, rfl⟩
theorem z8_53 : za_p 8 53 0 3 56 := ⟨35, 8, .null, ⟨rfl, rfl, rfl⟩, rfl, Or.inr rfl⟩
theorem z8_56 : za 8 56 (.aload_n 0) 57 := ⟨rfl, rfl, rfl⟩
theorem z8_57 : za 8 57 (.bipush (52)) 59 := ⟨rfl, rfl, rfl⟩
theorem z8_59 : za 8 59 (.newarray .int) 61 := ⟨rfl, rfl, rfl⟩
theorem z8_61 : za_p 8 61 0 4 64 := ⟨39, 8, .null, ⟨rfl, rfl, rfl⟩, rfl, Or.inr rfl⟩
theorem z8_64 : za 8 64 (.aload_n 0) 65 := ⟨rfl, rfl, rfl⟩
theorem z8_65 : za 8 65 (.iconst (-1)) 66 := ⟨rfl, rfl, rfl⟩
theorem z8_66 : za_p 8 66 0 5 69 := ⟨43, 0, .null, ⟨rfl, rfl, rfl⟩, rfl, Or.inl rfl⟩
theorem z8_69 : za 8 69 (.return_) 70 := ⟨rfl, rfl, rfl⟩
theorem z9_0 : za 9 0 (.iload_n 1) 1 := ⟨rfl, rfl, rfl⟩
theorem z9_1 : za 9 1 (.iconst 2) 2 := ⟨rfl, rfl, rfl⟩
theorem z9_2 : za 9 2 (.bipush (8)) 4 := ⟨rfl, rfl, rfl⟩
theorem z9_4 : za_s 9 4 25 3 7 := ⟨47, .null, ⟨rfl, rfl, rfl⟩, rfl⟩
theorem z9_7 : zb (.ifCond .eq) 9 7 42 10 := ⟨35, ⟨rfl, rfl, rfl⟩, rfl⟩
theorem z9_10 : za 9 10 (.iload_n 2) 11 := ⟨rfl, rfl, rfl⟩
theorem z9_11 : za 9 11 (.iconst 0) 12 := ⟨rfl, rfl, rfl⟩
theorem z9_12 : za 9 12 (.iconst 4) 13 := ⟨rfl, rfl, rfl⟩
theorem z9_13 : za_s 9 13 25 3 16 := ⟨47, .null, ⟨rfl, rfl, rfl⟩, rfl⟩
theorem z9_16 : zb (.ifCond .eq) 9 16 42 19 := ⟨26, ⟨rfl, rfl, rfl⟩, rfl⟩
theorem z9_19 : za 9 19 (.iload_n 3) 20 := ⟨rfl, rfl, rfl⟩
theorem z9_20 : za 9 20 (.iconst 0) 21 := ⟨rfl, rfl, rfl⟩
theorem z9_21 : za 9 21 (.iconst 2) 22 := ⟨rfl, rfl, rfl⟩
theorem z9_22 : za_s 9 22 25 3 25 := ⟨47, .null, ⟨rfl, rfl, rfl⟩, rfl⟩
theorem z9_25 : zb (.ifCond .eq) 9 25 42 28 := ⟨17, ⟨rfl, rfl, rfl⟩, rfl⟩
theorem z9_28 : za 9 28 (.iload 4) 30 := ⟨rfl, rfl, rfl⟩
theorem z9_30 : za 9 30 (.iconst 0) 31 := ⟨rfl, rfl, rfl⟩
theorem z9_31 : za 9 31 (.iconst 2) 32 := ⟨rfl, rfl, rfl⟩
theorem z9_32 : za_s 9 32 25 3 35 := ⟨47, .null, ⟨rfl, rfl, rfl⟩, rfl⟩
theorem z9_35 : zb (.ifCond .eq) 9 35 42 38 := ⟨7, ⟨rfl, rfl, rfl⟩, rfl⟩
theorem z9_38 : za 9 38 (.iconst 1) 39 := ⟨rfl, rfl, rfl⟩
theorem z9_39 : zb (.goto) 9 39 43 42 := ⟨4, ⟨rfl, rfl, rfl⟩, rfl⟩
theorem z9_42 : za 9 42 (.iconst 0) 43 := ⟨rfl, rfl, rfl⟩
theorem z9_43 : za 9 43 (.istore 5) 45 := ⟨rfl, rfl, rfl⟩
theorem z9_45 : za 9 45 (.iload 5) 47 := ⟨rfl, rfl, rfl⟩
theorem z9_47 : zb (.ifCond .ne) 9 47 52 50 := ⟨5, ⟨rfl, rfl, rfl⟩, rfl⟩
theorem z9_50 : za 9 50 (.iconst 0) 51 := ⟨rfl, rfl, rfl⟩
theorem z9_51 : za 9 51 (.ireturn) 52 := ⟨rfl, rfl, rfl⟩
theorem z9_52 : za 9 52 (.aload_n 0) 53 := ⟨rfl, rfl, rfl⟩
theorem z9_53 : za_f 9 53 0 0 56 := ⟨10, 9, .null, ⟨rfl, rfl, rfl⟩, rfl, Or.inr (Or.inr rfl)⟩
theorem z9_56 : za 9 56 (.iload_n 1) 57 := ⟨rfl, rfl, rfl⟩
theorem z9_57 : za_p 9 57 1 0 60 := ⟨51, 0, .null, ⟨rfl, rfl, rfl⟩, rfl, Or.inl rfl⟩
theorem z9_60 : za 9 60 (.aload_n 0) 61 := ⟨rfl, rfl, rfl⟩
theorem z9_61 : za_f 9 61 0 0 64 := ⟨10, 9, .null, ⟨rfl, rfl, rfl⟩, rfl, Or.inr (Or.inr rfl)⟩
theorem z9_64 : za 9 64 (.iload_n 2) 65 := ⟨rfl, rfl, rfl⟩
theorem z9_65 : za_p 9 65 1 1 68 := ⟨54, 0, .null, ⟨rfl, rfl, rfl⟩, rfl, Or.inl rfl⟩
theorem z9_68 : za 9 68 (.aload_n 0) 69 := ⟨rfl, rfl, rfl⟩
theorem z9_69 : za_f 9 69 0 0 72 := ⟨10, 9, .null, ⟨rfl, rfl, rfl⟩, rfl, Or.inr (Or.inr rfl)⟩
theorem z9_72 : za 9 72 (.iload_n 3) 73 := ⟨rfl, rfl, rfl⟩
theorem z9_73 : za_p 9 73 1 2 76 := ⟨57, 0, .null, ⟨rfl, rfl, rfl⟩, rfl, Or.inl rfl⟩
theorem z9_76 : za 9 76 (.aload_n 0) 77 := ⟨rfl, rfl, rfl⟩
theorem z9_77 : za_f 9 77 0 0 80 := ⟨10, 9, .null, ⟨rfl, rfl, rfl⟩, rfl, Or.inr (Or.inr rfl)⟩
theorem z9_80 : za 9 80 (.iload 4) 82 := ⟨rfl, rfl, rfl⟩
theorem z9_82 : za_p 9 82 1 3 85 := ⟨60, 0, .null, ⟨rfl, rfl, rfl⟩, rfl, Or.inl rfl⟩
theorem z9_85 : za 9 85 (.aload_n 0) 86 := ⟨rfl, rfl, rfl⟩
theorem z9_86 : za_v 9 86 12 0 0 89 := ⟨63, ⟨rfl, rfl, rfl⟩, rfl⟩
theorem z9_89 : za 9 89 (.iconst 1) 90 := ⟨rfl, rfl, rfl⟩
theorem z9_90 : za 9 90 (.ireturn) 91 := ⟨rfl, rfl, rfl⟩
theorem z10_0 : za 10 0 (.iload_n 1) 1 := ⟨rfl, rfl, rfl⟩
theorem z10_1 : za 10 1 (.iconst 1) 2 := ⟨rfl, rfl, rfl⟩
theorem z10_2 : za 10 2 (.iconst 4) 3 := ⟨rfl, rfl, rfl⟩
theorem z10_3 : za_s 10 3 25 3 6 := ⟨47, .null, ⟨rfl, rfl, rfl⟩, rfl⟩
theorem z10_6 : zb (.ifCond .eq) 10 6 19 9 := ⟨13, ⟨rfl, rfl, rfl⟩, rfl⟩
theorem z10_9 : za 10 9 (.iload_n 2) 10 := ⟨rfl, rfl, rfl⟩
theorem z10_10 : za 10 10 (.iconst 1) 11 := ⟨rfl, rfl, rfl⟩
theorem z10_11 : za 10 11 (.bipush (13)) 13 := ⟨rfl, rfl, rfl⟩
theorem z10_13 : za_s 10 13 25 3 16 := ⟨47, .null, ⟨rfl, rfl, rfl⟩, rfl⟩
theorem z10_16 : zb (.ifCond .ne) 10 16 21 19 := ⟨5, ⟨rfl, rfl, rfl⟩, rfl⟩
theorem z10_19 : za 10 19 (.iconst 0) 20 := ⟨rfl, rfl, rfl⟩
theorem z10_20 : za 10 20 (.ireturn) 21 := ⟨rfl, rfl, rfl⟩
theorem z10_21 : za 10 21 (.aload_n 0) 22 := ⟨rfl, rfl, rfl⟩
theorem z10_22 : za_f 10 22 0 0 25 := ⟨10, 9, .null, ⟨rfl, rfl, rfl⟩, rfl, Or.inr (Or.inr rfl)⟩
theorem z10_25 : za 10 25 (.iload_n 1) 26 := ⟨rfl, rfl, rfl⟩
theorem z10_26 : za_p 10 26 1 4 29 := ⟨66, 0, .null, ⟨rfl, rfl, rfl⟩, rfl, Or.inl rfl⟩
theorem z10_29 : za 10 29 (.aload_n 0) 30 := ⟨rfl, rfl, rfl⟩
theorem z10_30 : za_f 10 30 0 0 33 := ⟨10, 9, .null, ⟨rfl, rfl, rfl⟩, rfl, Or.inr (Or.inr rfl)⟩
theorem z10_33 : za 10 33 (.iload_n 2) 34 := ⟨rfl, rfl, rfl⟩
theorem z10_34 : za_p 10 34 1 5 37 := ⟨69, 0, .null, ⟨rfl, rfl, rfl⟩, rfl, Or.inl rfl⟩
theorem z10_37 : za 10 37 (.aload_n 0) 38 := ⟨rfl, rfl, rfl⟩
theorem z10_38 : za_v 10 38 12 0 0 41 := ⟨63, ⟨rfl, rfl, rfl⟩, rfl⟩
theorem z10_41 : za 10 41 (.iconst 1) 42 := ⟨rfl, rfl, rfl⟩
theorem z10_42 : za 10 42 (.ireturn) 43 := ⟨rfl, rfl, rfl⟩
theorem z11_0 : za 11 0 (.iload_n 1) 1 := ⟨rfl, rfl, rfl⟩
theorem z11_1 : za 11 1 (.iconst 0) 2 := ⟨rfl, rfl, rfl⟩
theorem z11_2 : za 11 2 (.sipush (32000)) 5 := ⟨rfl, rfl, rfl⟩
theorem z11_5 : za_s 11 5 25 3 8 := ⟨47, .null, ⟨rfl, rfl, rfl⟩, rfl⟩
theorem z11_8 : zb (.ifCond .ne) 11 8 21 11 := ⟨13, ⟨rfl, rfl, rfl⟩, rfl⟩
theorem z11_21 : za 11 21 (.aload_n 0) 22 := ⟨rfl, rfl, rfl⟩
theorem z11_22 : za_v 11 22 12 0 0 25 := ⟨63, ⟨rfl, rfl, rfl⟩, rfl⟩
theorem z11_25 : za 11 25 (.aload_n 0) 26 := ⟨rfl, rfl, rfl⟩
theorem z11_26 : za_f 11 26 0 0 29 := ⟨10, 9, .null, ⟨rfl, rfl, rfl⟩, rfl, Or.inr (Or.inr rfl)⟩
theorem z11_29 : za_v 11 29 32 0 1 32 := ⟨79, ⟨rfl, rfl, rfl⟩, rfl⟩
theorem z11_32 : za 11 32 (.istore_n 2) 33 := ⟨rfl, rfl, rfl⟩
theorem z11_33 : za 11 33 (.iconst 0) 34 := ⟨rfl, rfl, rfl⟩
theorem z11_34 : za 11 34 (.istore_n 3) 35 := ⟨rfl, rfl, rfl⟩
theorem z11_35 : za 11 35 (.iload_n 3) 36 := ⟨rfl, rfl, rfl⟩
theorem z11_36 : za 11 36 (.iload_n 2) 37 := ⟨rfl, rfl, rfl⟩
theorem z11_37 : zb (.if_icmp .ge) 11 37 53 40 := ⟨16, ⟨rfl, rfl, rfl⟩, rfl⟩
theorem z11_40 : za 11 40 (.aload_n 0) 41 := ⟨rfl, rfl, rfl⟩
theorem z11_41 : za_f 11 41 0 4 44 := ⟨39, 9, .null, ⟨rfl, rfl, rfl⟩, rfl, Or.inr (Or.inr rfl)⟩
theorem z11_44 : za 11 44 (.iload_n 3) 45 := ⟨rfl, rfl, rfl⟩
theorem z11_45 : za 11 45 (.iload_n 3) 46 := ⟨rfl, rfl, rfl⟩
theorem z11_46 : za 11 46 (.iastore) 47 := ⟨rfl, rfl, rfl⟩
theorem z11_47 : za 11 47 (.iinc 3 (1)) 50 := ⟨rfl, rfl, rfl⟩
theorem z11_50 : zb (.goto) 11 50 35 53 := ⟨(-15), ⟨rfl, rfl, rfl⟩, rfl⟩
theorem z11_53 : za 11 53 (.iload_n 1) 54 := ⟨rfl, rfl, rfl⟩
theorem z11_54 : za 11 54 (.istore_n 3) 55 := ⟨rfl, rfl, rfl⟩
theorem z11_55 : za 11 55 (.iconst 0) 56 := ⟨rfl, rfl, rfl⟩
theorem z11_56 : za 11 56 (.istore 4) 58 := ⟨rfl, rfl, rfl⟩
theorem z11_58 : za 11 58 (.iload 4) 60 := ⟨rfl, rfl, rfl⟩
theorem z11_60 : za 11 60 (.iload_n 2) 61 := ⟨rfl, rfl, rfl⟩
theorem z11_61 : zb (.if_icmp .ge) 11 61 136 64 := ⟨75, ⟨rfl, rfl, rfl⟩, rfl⟩
theorem z11_64 : za 11 64 (.iload_n 2) 65 := ⟨rfl, rfl, rfl⟩
theorem z11_65 : za 11 65 (.iload 4) 67 := ⟨rfl, rfl, rfl⟩
theorem z11_67 : za 11 67 (.isub) 68 := ⟨rfl, rfl, rfl⟩
theorem z11_68 : za 11 68 (.istore 5) 70 := ⟨rfl, rfl, rfl⟩
theorem z11_70 : za_c 11 70 72 (214013) := ⟨83, 0, 0, ⟨rfl, rfl, rfl⟩, rfl⟩
theorem z11_72 : za 11 72 (.iload_n 3) 73 := ⟨rfl, rfl, rfl⟩
theorem z11_73 : za 11 73 (.imul) 74 := ⟨rfl, rfl, rfl⟩
theorem z11_74 : za_c 11 74 76 (2531011) := ⟨84, 0, 0, ⟨rfl, rfl, rfl⟩, rfl⟩
theorem z11_76 : za 11 76 (.iadd) 77 := ⟨rfl, rfl, rfl⟩
theorem z11_77 : za_c 11 77 79 (2147483647) := ⟨85, 0, 0, ⟨rfl, rfl, rfl⟩, rfl⟩
theorem z11_79 : za 11 79 (.iand) 80 := ⟨rfl, rfl, rfl⟩
theorem z11_80 : za 11 80 (.istore_n 3) 81 := ⟨rfl, rfl, rfl⟩
theorem z11_81 : za 11 81 (.iload_n 3) 82 := ⟨rfl, rfl, rfl⟩
theorem z11_82 : za_c 11 82 84 (65536) := ⟨86, 0, 0, ⟨rfl, rfl, rfl⟩, rfl⟩
theorem z11_84 : za 11 84 (.idiv) 85 := ⟨rfl, rfl, rfl⟩
theorem z11_85 : za 11 85 (.iload 5) 87 := ⟨rfl, rfl, rfl⟩
theorem z11_87 : za 11 87 (.irem) 88 := ⟨rfl, rfl, rfl⟩
theorem z11_88 : za 11 88 (.istore 6) 90 := ⟨rfl, rfl, rfl⟩
theorem z11_90 : za 11 90 (.aload_n 0) 91 := ⟨rfl, rfl, rfl⟩
theorem z11_91 : za_f 11 91 0 1 94 := ⟨21, 9, .null, ⟨rfl, rfl, rfl⟩, rfl, Or.inr (Or.inr rfl)⟩
theorem z11_94 : za 11 94 (.iload 4) 96 := ⟨rfl, rfl, rfl⟩
theorem z11_96 : za 11 96 (.aload_n 0) 97 := ⟨rfl, rfl, rfl⟩
theorem z11_97 : za_f 11 97 0 0 100 := ⟨10, 9, .null, ⟨rfl, rfl, rfl⟩, rfl, Or.inr (Or.inr rfl)⟩
theorem z11_100 : za_f 11 100 1 0 103 := ⟨51, 0, .null, ⟨rfl, rfl, rfl⟩, rfl, Or.inl rfl⟩
theorem z11_103 : za 11 103 (.irem) 104 := ⟨rfl, rfl, rfl⟩
theorem z11_104 : za 11 104 (.aload_n 0) 105 := ⟨rfl, rfl, rfl⟩
theorem z11_105 : za_f 11 105 0 4 108 := ⟨39, 9, .null, ⟨rfl, rfl, rfl⟩, rfl, Or.inr (Or.inr rfl)⟩
theorem z11_108 : za 11 108 (.iload 6) 110 := ⟨rfl, rfl, rfl⟩
theorem z11_110 : za 11 110 (.iaload) 111 := ⟨rfl, rfl, rfl⟩
theorem z11_111 : za_v 11 111 45 2 2 114 := ⟨87, ⟨rfl, rfl, rfl⟩, rfl⟩
theorem z11_114 : za 11 114 (.aload_n 0) 115 := ⟨rfl, rfl, rfl⟩
theorem z11_115 : za_f 11 115 0 4 118 := ⟨39, 9, .null, ⟨rfl, rfl, rfl⟩, rfl, Or.inr (Or.inr rfl)⟩
theorem z11_118 : za 11 118 (.iload 6) 120 := ⟨rfl, rfl, rfl⟩
theorem z11_120 : za 11 120 (.aload_n 0) 121 := ⟨rfl, rfl, rfl⟩
theorem z11_121 : za_f 11 121 0 4 124 := ⟨39, 9, .null, ⟨rfl, rfl, rfl⟩, rfl, Or.inr (Or.inr rfl)⟩
theorem z11_124 : za 11 124 (.iload 5) 126 := ⟨rfl, rfl, rfl⟩
theorem z11_126 : za 11 126 (.iconst 1) 127 := ⟨rfl, rfl, rfl⟩
theorem z11_127 : za 11 127 (.isub) 128 := ⟨rfl, rfl, rfl⟩
theorem z11_128 : za 11 128 (.iaload) 129 := ⟨rfl, rfl, rfl⟩
theorem z11_129 : za 11 129 (.iastore) 130 := ⟨rfl, rfl, rfl⟩
theorem z11_130 : za 11 130 (.iinc 4 (1)) 133 := ⟨rfl, rfl, rfl⟩
theorem z11_133 : zb (.goto) 11 133 58 136 := ⟨(-75), ⟨rfl, rfl, rfl⟩, rfl⟩
theorem z11_136 : za 11 136 (.return_) 137 := ⟨rfl, rfl, rfl⟩
theorem z12_0 : za 12 0 (.aload_n 0) 1 := ⟨rfl, rfl, rfl⟩
theorem z12_1 : za_f 12 1 0 1 4 := ⟨21, 9, .null, ⟨rfl, rfl, rfl⟩, rfl, Or.inr (Or.inr rfl)⟩
theorem z12_4 : za_v 12 4 40 0 2 7 := ⟨91, ⟨rfl, rfl, rfl⟩, rfl⟩
theorem z12_7 : za 12 7 (.aload_n 0) 8 := ⟨rfl, rfl, rfl⟩
theorem z12_8 : za_f 12 8 0 2 11 := ⟨28, 9, .null, ⟨rfl, rfl, rfl⟩, rfl, Or.inr (Or.inr rfl)⟩
theorem z12_11 : za_v 12 11 64 0 3 14 := ⟨94, ⟨rfl, rfl, rfl⟩, rfl⟩
theorem z12_14 : za 12 14 (.aload_n 0) 15 := ⟨rfl, rfl, rfl⟩
theorem z12_15 : za 12 15 (.iconst (-1)) 16 := ⟨rfl, rfl, rfl⟩
theorem z12_16 : za_p 12 16 0 5 19 := ⟨43, 0, .null, ⟨rfl, rfl, rfl⟩, rfl, Or.inl rfl⟩
theorem z12_19 : za 12 19 (.return_) 20 := ⟨rfl, rfl, rfl⟩
theorem z13_0 : za 13 0 (.aload_n 0) 1 := ⟨rfl, rfl, rfl⟩
theorem z13_1 : za_f 13 1 0 0 4 := ⟨10, 9, .null, ⟨rfl, rfl, rfl⟩, rfl, Or.inr (Or.inr rfl)⟩
theorem z13_4 : za 13 4 (.iload_n 1) 5 := ⟨rfl, rfl, rfl⟩
theorem z13_5 : za_v 13 5 29 1 1 8 := ⟨97, ⟨rfl, rfl, rfl⟩, rfl⟩
theorem z13_8 : zb (.ifCond .eq) 13 8 22 11 := ⟨14, ⟨rfl, rfl, rfl⟩, rfl⟩
theorem z13_11 : za 13 11 (.aload_n 0) 12 := ⟨rfl, rfl, rfl⟩
theorem z13_12 : za_f 13 12 0 0 15 := ⟨10, 9, .null, ⟨rfl, rfl, rfl⟩, rfl, Or.inr (Or.inr rfl)⟩
theorem z13_15 : za 13 15 (.iload_n 2) 16 := ⟨rfl, rfl, rfl⟩
theorem z13_16 : za_v 13 16 33 1 1 19 := ⟨101, ⟨rfl, rfl, rfl⟩, rfl⟩
theorem z13_19 : zb (.ifCond .ne) 13 19 32 22 := ⟨13, ⟨rfl, rfl, rfl⟩, rfl⟩
theorem z13_32 : za 13 32 (.aload_n 0) 33 := ⟨rfl, rfl, rfl⟩
theorem z13_33 : za_f 13 33 0 1 36 := ⟨21, 9, .null, ⟨rfl, rfl, rfl⟩, rfl, Or.inr (Or.inr rfl)⟩
theorem z13_36 : za 13 36 (.iload_n 2) 37 := ⟨rfl, rfl, rfl⟩
theorem z13_37 : za_v 13 37 42 1 2 40 := ⟨106, ⟨rfl, rfl, rfl⟩, rfl⟩
theorem z13_40 : zb (.ifCond .eq) 13 40 53 43 := ⟨13, ⟨rfl, rfl, rfl⟩, rfl⟩
theorem z13_53 : za 13 53 (.aload_n 0) 54 := ⟨rfl, rfl, rfl⟩
theorem z13_54 : za_f 13 54 0 1 57 := ⟨21, 9, .null, ⟨rfl, rfl, rfl⟩, rfl, Or.inr (Or.inr rfl)⟩
theorem z13_57 : za 13 57 (.iload_n 1) 58 := ⟨rfl, rfl, rfl⟩
theorem z13_58 : za 13 58 (.iload_n 2) 59 := ⟨rfl, rfl, rfl⟩
theorem z13_59 : za_v 13 59 45 2 2 62 := ⟨87, ⟨rfl, rfl, rfl⟩, rfl⟩
theorem z13_62 : za 13 62 (.aload_n 0) 63 := ⟨rfl, rfl, rfl⟩
theorem z13_63 : za 13 63 (.iconst (-1)) 64 := ⟨rfl, rfl, rfl⟩
theorem z13_64 : za_p 13 64 0 5 67 := ⟨43, 0, .null, ⟨rfl, rfl, rfl⟩, rfl, Or.inl rfl⟩
theorem z13_67 : za 13 67 (.aload_n 0) 68 := ⟨rfl, rfl, rfl⟩
theorem z13_68 : za_f 13 68 0 1 71 := ⟨21, 9, .null, ⟨rfl, rfl, rfl⟩, rfl, Or.inr (Or.inr rfl)⟩
theorem z13_71 : za_f 13 71 2 4 74 := ⟨114, 0, .null, ⟨rfl, rfl, rfl⟩, rfl, Or.inl rfl⟩
theorem z13_74 : za 13 74 (.ireturn) 75 := ⟨rfl, rfl, rfl⟩
theorem z14_0 : za 14 0 (.aload_n 0) 1 := ⟨rfl, rfl, rfl⟩
theorem z14_1 : za_f 14 1 0 0 4 := ⟨10, 9, .null, ⟨rfl, rfl, rfl⟩, rfl, Or.inr (Or.inr rfl)⟩
theorem z14_4 : za 14 4 (.iload_n 1) 5 := ⟨rfl, rfl, rfl⟩
theorem z14_5 : za_v 14 5 31 1 1 8 := ⟨117, ⟨rfl, rfl, rfl⟩, rfl⟩
theorem z14_8 : zb (.ifCond .eq) 14 8 33 11 := ⟨25, ⟨rfl, rfl, rfl⟩, rfl⟩
theorem z14_11 : za 14 11 (.aload_n 0) 12 := ⟨rfl, rfl, rfl⟩
theorem z14_12 : za_f 14 12 0 0 15 := ⟨10, 9, .null, ⟨rfl, rfl, rfl⟩, rfl, Or.inr (Or.inr rfl)⟩
theorem z14_15 : za 14 15 (.iload_n 2) 16 := ⟨rfl, rfl, rfl⟩
theorem z14_16 : za_v 14 16 31 1 1 19 := ⟨117, ⟨rfl, rfl, rfl⟩, rfl⟩
theorem z14_19 : zb (.ifCond .eq) 14 19 33 22 := ⟨14, ⟨rfl, rfl, rfl⟩, rfl⟩
theorem z14_22 : za 14 22 (.iload_n 1) 23 := ⟨rfl, rfl, rfl⟩
theorem z14_23 : za 14 23 (.bipush (12)) 25 := ⟨rfl, rfl, rfl⟩
theorem z14_25 : zb (.if_icmp .eq) 14 25 33 28 := ⟨8, ⟨rfl, rfl, rfl⟩, rfl⟩
theorem z14_28 : za 14 28 (.iload_n 3) 29 := ⟨rfl, rfl, rfl⟩
theorem z14_29 : za 14 29 (.iconst 1) 30 := ⟨rfl, rfl, rfl⟩
theorem z14_30 : zb (.if_icmp .ge) 14 30 43 33 := ⟨13, ⟨rfl, rfl, rfl⟩, rfl⟩
theorem z14_43 : za 14 43 (.aload_n 0) 44 := ⟨rfl, rfl, rfl⟩
theorem z14_44 : za_f 14 44 0 1 47 := ⟨21, 9, .null, ⟨rfl, rfl, rfl⟩, rfl, Or.inr (Or.inr rfl)⟩
theorem z14_47 : za_v 14 47 43 0 2 50 := ⟨122, ⟨rfl, rfl, rfl⟩, rfl⟩
theorem z14_50 : zb (.ifCond .eq) 14 50 66 53 := ⟨16, ⟨rfl, rfl, rfl⟩, rfl⟩
theorem z14_53 : za 14 53 (.aload_n 0) 54 := ⟨rfl, rfl, rfl⟩
theorem z14_54 : za_f 14 54 0 1 57 := ⟨21, 9, .null, ⟨rfl, rfl, rfl⟩, rfl, Or.inr (Or.inr rfl)⟩
theorem z14_57 : za 14 57 (.iload_n 1) 58 := ⟨rfl, rfl, rfl⟩
theorem z14_58 : za 14 58 (.iload_n 2) 59 := ⟨rfl, rfl, rfl⟩
theorem z14_59 : za 14 59 (.iload_n 3) 60 := ⟨rfl, rfl, rfl⟩
theorem z14_60 : za_v 14 60 49 3 2 63 := ⟨126, ⟨rfl, rfl, rfl⟩, rfl⟩
theorem z14_63 : zb (.ifCond .ne) 14 63 76 66 := ⟨13, ⟨rfl, rfl, rfl⟩, rfl⟩
theorem z14_76 : za 14 76 (.aload_n 0) 77 := ⟨rfl, rfl, rfl⟩
theorem z14_77 : za 14 77 (.iload_n 1) 78 := ⟨rfl, rfl, rfl⟩
theorem z14_78 : za 14 78 (.iload_n 2) 79 := ⟨rfl, rfl, rfl⟩
theorem z14_79 : za 14 79 (.iload_n 3) 80 := ⟨rfl, rfl, rfl⟩
theorem z14_80 : za_v 14 80 27 3 0 83 := ⟨131, ⟨rfl, rfl, rfl⟩, rfl⟩
theorem z14_83 : za 14 83 (.aload_n 0) 84 := ⟨rfl, rfl, rfl⟩
theorem z14_84 : za_f 14 84 0 1 87 := ⟨21, 9, .null, ⟨rfl, rfl, rfl⟩, rfl, Or.inr (Or.inr rfl)⟩
theorem z14_87 : za_f 14 87 2 5 90 := ⟨135, 0, .null, ⟨rfl, rfl, rfl⟩, rfl, Or.inl rfl⟩
theorem z14_90 : za 14 90 (.ireturn) 91 := ⟨rfl, rfl, rfl⟩
theorem z15_0 : za 15 0 (.iload_n 1) 1 := ⟨rfl, rfl, rfl⟩
theorem z15_1 : za_s 15 1 26 1 4 := ⟨138, .null, ⟨rfl, rfl, rfl⟩, rfl⟩
theorem z15_4 : za 15 4 (.istore_n 3) 5 := ⟨rfl, rfl, rfl⟩
theorem z15_5 : za 15 5 (.iload_n 2) 6 := ⟨rfl, rfl, rfl⟩
theorem z15_6 : za_s 15 6 26 1 9 := ⟨138, .null, ⟨rfl, rfl, rfl⟩, rfl⟩
theorem z15_9 : za 15 9 (.istore 4) 11 := ⟨rfl, rfl, rfl⟩
theorem z15_11 : za 15 11 (.aload_n 0) 12 := ⟨rfl, rfl, rfl⟩
theorem z15_12 : za_f 15 12 0 0 15 := ⟨10, 9, .null, ⟨rfl, rfl, rfl⟩, rfl, Or.inr (Or.inr rfl)⟩
theorem z15_15 : za 15 15 (.iload_n 3) 16 := ⟨rfl, rfl, rfl⟩
theorem z15_16 : za_v 15 16 31 1 1 19 := ⟨117, ⟨rfl, rfl, rfl⟩, rfl⟩
theorem z15_19 : zb (.ifCond .eq) 15 19 40 22 := ⟨21, ⟨rfl, rfl, rfl⟩, rfl⟩
theorem z15_22 : za 15 22 (.aload_n 0) 23 := ⟨rfl, rfl, rfl⟩
theorem z15_23 : za_f 15 23 0 0 26 := ⟨10, 9, .null, ⟨rfl, rfl, rfl⟩, rfl, Or.inr (Or.inr rfl)⟩
theorem z15_26 : za 15 26 (.iload 4) 28 := ⟨rfl, rfl, rfl⟩
theorem z15_28 : za_v 15 28 31 1 1 31 := ⟨117, ⟨rfl, rfl, rfl⟩, rfl⟩
theorem z15_31 : zb (.ifCond .eq) 15 31 40 34 := ⟨9, ⟨rfl, rfl, rfl⟩, rfl⟩
theorem z15_34 : za 15 34 (.iload_n 3) 35 := ⟨rfl, rfl, rfl⟩
theorem z15_35 : za 15 35 (.bipush (12)) 37 := ⟨rfl, rfl, rfl⟩
theorem z15_37 : zb (.if_icmp .ne) 15 37 50 40 := ⟨13, ⟨rfl, rfl, rfl⟩, rfl⟩
theorem z15_50 : za 15 50 (.aload_n 0) 51 := ⟨rfl, rfl, rfl⟩
theorem z15_51 : za_f 15 51 0 0 54 := ⟨10, 9, .null, ⟨rfl, rfl, rfl⟩, rfl, Or.inr (Or.inr rfl)⟩
theorem z15_54 : za 15 54 (.iload_n 3) 55 := ⟨rfl, rfl, rfl⟩
theorem z15_55 : za_v 15 55 29 1 1 58 := ⟨97, ⟨rfl, rfl, rfl⟩, rfl⟩
theorem z15_58 : zb (.ifCond .eq) 15 58 86 61 := ⟨28, ⟨rfl, rfl, rfl⟩, rfl⟩
theorem z15_61 : za 15 61 (.aload_n 0) 62 := ⟨rfl, rfl, rfl⟩
theorem z15_62 : za_f 15 62 0 0 65 := ⟨10, 9, .null, ⟨rfl, rfl, rfl⟩, rfl, Or.inr (Or.inr rfl)⟩
theorem z15_65 : za 15 65 (.iload 4) 67 := ⟨rfl, rfl, rfl⟩
theorem z15_67 : za_v 15 67 29 1 1 70 := ⟨97, ⟨rfl, rfl, rfl⟩, rfl⟩
theorem z15_70 : zb (.ifCond .eq) 15 70 86 73 := ⟨16, ⟨rfl, rfl, rfl⟩, rfl⟩
theorem z15_73 : za 15 73 (.aload_n 0) 74 := ⟨rfl, rfl, rfl⟩
theorem z15_74 : za_f 15 74 0 1 77 := ⟨21, 9, .null, ⟨rfl, rfl, rfl⟩, rfl, Or.inr (Or.inr rfl)⟩
theorem z15_77 : za 15 77 (.iload_n 3) 78 := ⟨rfl, rfl, rfl⟩
theorem z15_78 : za 15 78 (.iload 4) 80 := ⟨rfl, rfl, rfl⟩
theorem z15_80 : za_v 15 80 56 2 2 83 := ⟨142, ⟨rfl, rfl, rfl⟩, rfl⟩
theorem z15_83 : zb (.goto) 15 83 87 86 := ⟨4, ⟨rfl, rfl, rfl⟩, rfl⟩
theorem z15_86 : za 15 86 (.iconst 1) 87 := ⟨rfl, rfl, rfl⟩
theorem z15_87 : za 15 87 (.istore 5) 89 := ⟨rfl, rfl, rfl⟩
theorem z15_89 : za 15 89 (.aload_n 0) 90 := ⟨rfl, rfl, rfl⟩
theorem z15_90 : za_f 15 90 0 1 93 := ⟨21, 9, .null, ⟨rfl, rfl, rfl⟩, rfl, Or.inr (Or.inr rfl)⟩
theorem z15_93 : za_v 15 93 43 0 2 96 := ⟨122, ⟨rfl, rfl, rfl⟩, rfl⟩
theorem z15_96 : zb (.ifCond .eq) 15 96 114 99 := ⟨18, ⟨rfl, rfl, rfl⟩, rfl⟩
theorem z15_99 : za 15 99 (.aload_n 0) 100 := ⟨rfl, rfl, rfl⟩
theorem z15_100 : za_f 15 100 0 1 103 := ⟨21, 9, .null, ⟨rfl, rfl, rfl⟩, rfl, Or.inr (Or.inr rfl)⟩
theorem z15_103 : za 15 103 (.iload_n 3) 104 := ⟨rfl, rfl, rfl⟩
theorem z15_104 : za 15 104 (.iload 4) 106 := ⟨rfl, rfl, rfl⟩
theorem z15_106 : za 15 106 (.iload 5) 108 := ⟨rfl, rfl, rfl⟩
theorem z15_108 : za_v 15 108 49 3 2 111 := ⟨126, ⟨rfl, rfl, rfl⟩, rfl⟩
theorem z15_111 : zb (.ifCond .ne) 15 111 124 114 := ⟨13, ⟨rfl, rfl, rfl⟩, rfl⟩
theorem z15_124 : za 15 124 (.aload_n 0) 125 := ⟨rfl, rfl, rfl⟩
theorem z15_125 : za 15 125 (.iload_n 3) 126 := ⟨rfl, rfl, rfl⟩
theorem z15_126 : za 15 126 (.iload 4) 128 := ⟨rfl, rfl, rfl⟩
theorem z15_128 : za 15 128 (.iload 5) 130 := ⟨rfl, rfl, rfl⟩
theorem z15_130 : za_v 15 130 27 3 0 133 := ⟨131, ⟨rfl, rfl, rfl⟩, rfl⟩
theorem z15_133 : za 15 133 (.iload 5) 135 := ⟨rfl, rfl, rfl⟩
theorem z15_135 : za 15 135 (.ireturn) 136 := ⟨rfl, rfl, rfl⟩
theorem z16_0 : za 16 0 (.aload_n 0) 1 := ⟨rfl, rfl, rfl⟩
theorem z16_1 : za_f 16 1 0 1 4 := ⟨21, 9, .null, ⟨rfl, rfl, rfl⟩, rfl, Or.inr (Or.inr rfl)⟩
theorem z16_4 : za_v 16 4 43 0 2 7 := ⟨122, ⟨rfl, rfl, rfl⟩, rfl⟩
theorem z16_7 : zb (.ifCond .ne) 16 7 20 10 := ⟨13, ⟨rfl, rfl, rfl⟩, rfl⟩
theorem z16_20 : za 16 20 (.iconst 0) 21 := ⟨rfl, rfl, rfl⟩
theorem z16_21 : za 16 21 (.istore_n 1) 22 := ⟨rfl, rfl, rfl⟩
theorem z16_22 : za 16 22 (.iload_n 1) 23 := ⟨rfl, rfl, rfl⟩
theorem z16_23 : za 16 23 (.bipush (52)) 25 := ⟨rfl, rfl, rfl⟩
theorem z16_25 : zb (.if_icmp .ge) 16 25 57 28 := ⟨32, ⟨rfl, rfl, rfl⟩, rfl⟩
theorem z16_28 : za 16 28 (.aload_n 0) 29 := ⟨rfl, rfl, rfl⟩
theorem z16_29 : za_f 16 29 0 1 32 := ⟨21, 9, .null, ⟨rfl, rfl, rfl⟩, rfl, Or.inr (Or.inr rfl)⟩
theorem z16_32 : za_v 16 32 58 0 2 35 := ⟨148, ⟨rfl, rfl, rfl⟩, rfl⟩
theorem z16_35 : za 16 35 (.istore_n 2) 36 := ⟨rfl, rfl, rfl⟩
theorem z16_36 : za 16 36 (.iload_n 2) 37 := ⟨rfl, rfl, rfl⟩
theorem z16_37 : za 16 37 (.iconst (-1)) 38 := ⟨rfl, rfl, rfl⟩
theorem z16_38 : zb (.if_icmp .ne) 16 38 43 41 := ⟨5, ⟨rfl, rfl, rfl⟩, rfl⟩
theorem z16_41 : za 16 41 (.iload_n 1) 42 := ⟨rfl, rfl, rfl⟩
theorem z16_42 : za 16 42 (.ireturn) 43 := ⟨rfl, rfl, rfl⟩
theorem z16_43 : za 16 43 (.aload_n 0) 44 := ⟨rfl, rfl, rfl⟩
theorem z16_44 : za 16 44 (.iload_n 2) 45 := ⟨rfl, rfl, rfl⟩
theorem z16_45 : za 16 45 (.bipush (12)) 47 := ⟨rfl, rfl, rfl⟩
theorem z16_47 : za 16 47 (.iconst 1) 48 := ⟨rfl, rfl, rfl⟩
theorem z16_48 : za_v 16 48 27 3 0 51 := ⟨131, ⟨rfl, rfl, rfl⟩, rfl⟩
theorem z16_51 : za 16 51 (.iinc 1 (1)) 54 := ⟨rfl, rfl, rfl⟩
theorem z16_54 : zb (.goto) 16 54 22 57 := ⟨(-32), ⟨rfl, rfl, rfl⟩, rfl⟩
theorem z16_57 : za 16 57 (.bipush (52)) 59 := ⟨rfl, rfl, rfl⟩
theorem z16_59 : za 16 59 (.ireturn) 60 := ⟨rfl, rfl, rfl⟩
theorem z17_0 : za 17 0 (.aload_n 0) 1 := ⟨rfl, rfl, rfl⟩
theorem z17_1 : za_f 17 1 0 2 4 := ⟨28, 9, .null, ⟨rfl, rfl, rfl⟩, rfl, Or.inr (Or.inr rfl)⟩
theorem z17_4 : za_f 17 4 3 5 7 := ⟨151, 0, .null, ⟨rfl, rfl, rfl⟩, rfl, Or.inl rfl⟩
theorem z17_7 : zb (.ifCond .ne) 17 7 20 10 := ⟨13, ⟨rfl, rfl, rfl⟩, rfl⟩
theorem z17_20 : za 17 20 (.aload_n 0) 21 := ⟨rfl, rfl, rfl⟩
theorem z17_21 : za_f 17 21 0 2 24 := ⟨28, 9, .null, ⟨rfl, rfl, rfl⟩, rfl, Or.inr (Or.inr rfl)⟩
theorem z17_24 : za_v 17 24 66 0 3 27 := ⟨159, ⟨rfl, rfl, rfl⟩, rfl⟩
theorem z17_27 : za 17 27 (.istore_n 1) 28 := ⟨rfl, rfl, rfl⟩
theorem z17_28 : za 17 28 (.aload_n 0) 29 := ⟨rfl, rfl, rfl⟩
theorem z17_29 : za_f 17 29 0 1 32 := ⟨21, 9, .null, ⟨rfl, rfl, rfl⟩, rfl, Or.inr (Or.inr rfl)⟩
theorem z17_32 : za 17 32 (.aload_n 0) 33 := ⟨rfl, rfl, rfl⟩
theorem z17_33 : za_f 17 33 0 2 36 := ⟨28, 9, .null, ⟨rfl, rfl, rfl⟩, rfl, Or.inr (Or.inr rfl)⟩
theorem z17_36 : za_f 17 36 3 0 39 := ⟨162, 9, .null, ⟨rfl, rfl, rfl⟩, rfl, Or.inr (Or.inr rfl)⟩
theorem z17_39 : za 17 39 (.iload_n 1) 40 := ⟨rfl, rfl, rfl⟩
theorem z17_40 : za 17 40 (.iaload) 41 := ⟨rfl, rfl, rfl⟩
theorem z17_41 : za 17 41 (.aload_n 0) 42 := ⟨rfl, rfl, rfl⟩
theorem z17_42 : za_f 17 42 0 2 45 := ⟨28, 9, .null, ⟨rfl, rfl, rfl⟩, rfl, Or.inr (Or.inr rfl)⟩
theorem z17_45 : za_f 17 45 3 2 48 := ⟨165, 9, .null, ⟨rfl, rfl, rfl⟩, rfl, Or.inr (Or.inr rfl)⟩
theorem z17_48 : za 17 48 (.iload_n 1) 49 := ⟨rfl, rfl, rfl⟩
theorem z17_49 : za 17 49 (.iaload) 50 := ⟨rfl, rfl, rfl⟩
theorem z17_50 : za 17 50 (.aload_n 0) 51 := ⟨rfl, rfl, rfl⟩
theorem z17_51 : za_f 17 51 0 2 54 := ⟨28, 9, .null, ⟨rfl, rfl, rfl⟩, rfl, Or.inr (Or.inr rfl)⟩
theorem z17_54 : za_f 17 54 3 1 57 := ⟨168, 9, .null, ⟨rfl, rfl, rfl⟩, rfl, Or.inr (Or.inr rfl)⟩
theorem z17_57 : za 17 57 (.iload_n 1) 58 := ⟨rfl, rfl, rfl⟩
theorem z17_58 : za 17 58 (.iaload) 59 := ⟨rfl, rfl, rfl⟩
theorem z17_59 : za_v 17 59 62 3 2 62 := ⟨171, ⟨rfl, rfl, rfl⟩, rfl⟩
theorem z17_62 : za 17 62 (.aload_n 0) 63 := ⟨rfl, rfl, rfl⟩
theorem z17_63 : za 17 63 (.iconst (-1)) 64 := ⟨rfl, rfl, rfl⟩
theorem z17_64 : za_p 17 64 0 5 67 := ⟨43, 0, .null, ⟨rfl, rfl, rfl⟩, rfl, Or.inl rfl⟩
theorem z17_67 : za 17 67 (.aload_n 0) 68 := ⟨rfl, rfl, rfl⟩
theorem z17_68 : za_f 17 68 0 2 71 := ⟨28, 9, .null, ⟨rfl, rfl, rfl⟩, rfl, Or.inr (Or.inr rfl)⟩
theorem z17_71 : za_f 17 71 3 3 74 := ⟨174, 9, .null, ⟨rfl, rfl, rfl⟩, rfl, Or.inr (Or.inr rfl)⟩
theorem z17_74 : za 17 74 (.iload_n 1) 75 := ⟨rfl, rfl, rfl⟩
theorem z17_75 : za 17 75 (.iaload) 76 := ⟨rfl, rfl, rfl⟩
theorem z17_76 : za 17 76 (.ireturn) 77 := ⟨rfl, rfl, rfl⟩
theorem z18_0 : za 18 0 (.aload_n 0) 1 := ⟨rfl, rfl, rfl⟩
theorem z18_1 : za_f 18 1 0 2 4 := ⟨28, 9, .null, ⟨rfl, rfl, rfl⟩, rfl, Or.inr (Or.inr rfl)⟩
theorem z18_4 : za_f 18 4 3 5 7 := ⟨151, 0, .null, ⟨rfl, rfl, rfl⟩, rfl, Or.inl rfl⟩
theorem z18_7 : za 18 7 (.ireturn) 8 := ⟨rfl, rfl, rfl⟩
theorem z19_0 : za 19 0 (.aload_n 0) 1 := ⟨rfl, rfl, rfl⟩
theorem z19_1 : za_f 19 1 0 0 4 := ⟨10, 9, .null, ⟨rfl, rfl, rfl⟩, rfl, Or.inr (Or.inr rfl)⟩
theorem z19_4 : za 19 4 (.iload_n 1) 5 := ⟨rfl, rfl, rfl⟩
theorem z19_5 : za_v 19 5 31 1 1 8 := ⟨117, ⟨rfl, rfl, rfl⟩, rfl⟩
theorem z19_8 : zb (.ifCond .eq) 19 8 15 11 := ⟨7, ⟨rfl, rfl, rfl⟩, rfl⟩
theorem z19_11 : za 19 11 (.iload_n 2) 12 := ⟨rfl, rfl, rfl⟩
theorem z19_12 : zb (.ifCond .ge) 19 12 17 15 := ⟨5, ⟨rfl, rfl, rfl⟩, rfl⟩
theorem z19_15 : za 19 15 (.iconst (-1)) 16 := ⟨rfl, rfl, rfl⟩
theorem z19_16 : za 19 16 (.ireturn) 17 := ⟨rfl, rfl, rfl⟩
theorem z19_17 : za 19 17 (.iload_n 1) 18 := ⟨rfl, rfl, rfl⟩
theorem z19_18 : za 19 18 (.bipush (12)) 20 := ⟨rfl, rfl, rfl⟩
theorem z19_20 : zb (.if_icmp .ne) 19 20 34 23 := ⟨14, ⟨rfl, rfl, rfl⟩, rfl⟩
theorem z19_23 : za 19 23 (.aload_n 0) 24 := ⟨rfl, rfl, rfl⟩
theorem z19_24 : za_f 19 24 0 1 27 := ⟨21, 9, .null, ⟨rfl, rfl, rfl⟩, rfl, Or.inr (Or.inr rfl)⟩
theorem z19_27 : za 19 27 (.iload_n 2) 28 := ⟨rfl, rfl, rfl⟩
theorem z19_28 : za_v 19 28 48 1 2 31 := ⟨177, ⟨rfl, rfl, rfl⟩, rfl⟩
theorem z19_31 : zb (.goto) 19 31 54 34 := ⟨23, ⟨rfl, rfl, rfl⟩, rfl⟩
theorem z19_34 : za 19 34 (.aload_n 0) 35 := ⟨rfl, rfl, rfl⟩
theorem z19_35 : za_f 19 35 0 1 38 := ⟨21, 9, .null, ⟨rfl, rfl, rfl⟩, rfl, Or.inr (Or.inr rfl)⟩
theorem z19_38 : za 19 38 (.iload_n 1) 39 := ⟨rfl, rfl, rfl⟩
theorem z19_39 : za 19 39 (.aload_n 0) 40 := ⟨rfl, rfl, rfl⟩
theorem z19_40 : za_f 19 40 0 1 43 := ⟨21, 9, .null, ⟨rfl, rfl, rfl⟩, rfl, Or.inr (Or.inr rfl)⟩
theorem z19_43 : za 19 43 (.iload_n 1) 44 := ⟨rfl, rfl, rfl⟩
theorem z19_44 : za_v 19 44 46 1 2 47 := ⟨181, ⟨rfl, rfl, rfl⟩, rfl⟩
theorem z19_47 : za 19 47 (.iconst 1) 48 := ⟨rfl, rfl, rfl⟩
theorem z19_48 : za 19 48 (.isub) 49 := ⟨rfl, rfl, rfl⟩
theorem z19_49 : za 19 49 (.iload_n 2) 50 := ⟨rfl, rfl, rfl⟩
theorem z19_50 : za 19 50 (.isub) 51 := ⟨rfl, rfl, rfl⟩
theorem z19_51 : za_v 19 51 47 2 2 54 := ⟨184, ⟨rfl, rfl, rfl⟩, rfl⟩
theorem z19_54 : za 19 54 (.ireturn) 55 := ⟨rfl, rfl, rfl⟩
theorem z20_0 : za 20 0 (.aload_n 0) 1 := ⟨rfl, rfl, rfl⟩
theorem z20_1 : za_f 20 1 0 0 4 := ⟨10, 9, .null, ⟨rfl, rfl, rfl⟩, rfl, Or.inr (Or.inr rfl)⟩
theorem z20_4 : za 20 4 (.iload_n 1) 5 := ⟨rfl, rfl, rfl⟩
theorem z20_5 : za_v 20 5 31 1 1 8 := ⟨117, ⟨rfl, rfl, rfl⟩, rfl⟩
theorem z20_8 : zb (.ifCond .eq) 20 8 22 11 := ⟨14, ⟨rfl, rfl, rfl⟩, rfl⟩
theorem z20_11 : za 20 11 (.aload_n 0) 12 := ⟨rfl, rfl, rfl⟩
theorem z20_12 : za_f 20 12 0 1 15 := ⟨21, 9, .null, ⟨rfl, rfl, rfl⟩, rfl, Or.inr (Or.inr rfl)⟩
theorem z20_15 : za 20 15 (.iload_n 1) 16 := ⟨rfl, rfl, rfl⟩
theorem z20_16 : za_v 20 16 46 1 2 19 := ⟨181, ⟨rfl, rfl, rfl⟩, rfl⟩
theorem z20_19 : zb (.goto) 20 19 23 22 := ⟨4, ⟨rfl, rfl, rfl⟩, rfl⟩
theorem z20_22 : za 20 22 (.iconst (-1)) 23 := ⟨rfl, rfl, rfl⟩
theorem z20_23 : za 20 23 (.ireturn) 24 := ⟨rfl, rfl, rfl⟩
theorem z21_0 : za 21 0 (.aload_n 0) 1 := ⟨rfl, rfl, rfl⟩
theorem z21_1 : za_f 21 1 0 0 4 := ⟨10, 9, .null, ⟨rfl, rfl, rfl⟩, rfl, Or.inr (Or.inr rfl)⟩
theorem z21_4 : za 21 4 (.iload_n 1) 5 := ⟨rfl, rfl, rfl⟩
theorem z21_5 : za_v 21 5 29 1 1 8 := ⟨97, ⟨rfl, rfl, rfl⟩, rfl⟩
theorem z21_8 : zb (.ifCond .eq) 21 8 32 11 := ⟨24, ⟨rfl, rfl, rfl⟩, rfl⟩
theorem z21_11 : za 21 11 (.aload_n 0) 12 := ⟨rfl, rfl, rfl⟩
theorem z21_12 : za_f 21 12 0 0 15 := ⟨10, 9, .null, ⟨rfl, rfl, rfl⟩, rfl, Or.inr (Or.inr rfl)⟩
theorem z21_15 : za 21 15 (.iload_n 2) 16 := ⟨rfl, rfl, rfl⟩
theorem z21_16 : za_v 21 16 29 1 1 19 := ⟨97, ⟨rfl, rfl, rfl⟩, rfl⟩
theorem z21_19 : zb (.ifCond .eq) 21 19 32 22 := ⟨13, ⟨rfl, rfl, rfl⟩, rfl⟩
theorem z21_22 : za 21 22 (.aload_n 0) 23 := ⟨rfl, rfl, rfl⟩
theorem z21_23 : za_f 21 23 0 1 26 := ⟨21, 9, .null, ⟨rfl, rfl, rfl⟩, rfl, Or.inr (Or.inr rfl)⟩
theorem z21_26 : za_v 21 26 43 0 2 29 := ⟨122, ⟨rfl, rfl, rfl⟩, rfl⟩
theorem z21_29 : zb (.ifCond .ne) 21 29 34 32 := ⟨5, ⟨rfl, rfl, rfl⟩, rfl⟩
theorem z21_32 : za 21 32 (.iconst 0) 33 := ⟨rfl, rfl, rfl⟩
theorem z21_33 : za 21 33 (.ireturn) 34 := ⟨rfl, rfl, rfl⟩
theorem z21_34 : za 21 34 (.aload_n 0) 35 := ⟨rfl, rfl, rfl⟩
theorem z21_35 : za_f 21 35 0 1 38 := ⟨21, 9, .null, ⟨rfl, rfl, rfl⟩, rfl, Or.inr (Or.inr rfl)⟩
theorem z21_38 : za 21 38 (.iload_n 1) 39 := ⟨rfl, rfl, rfl⟩
theorem z21_39 : za 21 39 (.iload_n 2) 40 := ⟨rfl, rfl, rfl⟩
theorem z21_40 : za_v 21 40 56 2 2 43 := ⟨142, ⟨rfl, rfl, rfl⟩, rfl⟩
theorem z21_43 : za 21 43 (.ireturn) 44 := ⟨rfl, rfl, rfl⟩
theorem z22_0 : za 22 0 (.iload_n 1) 1 := ⟨rfl, rfl, rfl⟩
theorem z22_1 : za 22 1 (.iconst 1) 2 := ⟨rfl, rfl, rfl⟩
theorem z22_2 : za 22 2 (.sipush (200)) 5 := ⟨rfl, rfl, rfl⟩
theorem z22_5 : za_s 22 5 25 3 8 := ⟨47, .null, ⟨rfl, rfl, rfl⟩, rfl⟩
theorem z22_8 : zb (.ifCond .ne) 22 8 21 11 := ⟨13, ⟨rfl, rfl, rfl⟩, rfl⟩
theorem z22_21 : za 22 21 (.aload_n 0) 22 := ⟨rfl, rfl, rfl⟩
theorem z22_22 : za_f 22 22 0 1 25 := ⟨21, 9, .null, ⟨rfl, rfl, rfl⟩, rfl, Or.inr (Or.inr rfl)⟩
theorem z22_25 : za_v 22 25 43 0 2 28 := ⟨122, ⟨rfl, rfl, rfl⟩, rfl⟩
theorem z22_28 : zb (.ifCond .ne) 22 28 41 31 := ⟨13, ⟨rfl, rfl, rfl⟩, rfl⟩
theorem z22_41 : za 22 41 (.aload_n 0) 42 := ⟨rfl, rfl, rfl⟩
theorem z22_42 : za_f 22 42 0 3 45 := ⟨35, 9, .null, ⟨rfl, rfl, rfl⟩, rfl, Or.inr (Or.inr rfl)⟩
theorem z22_45 : za 22 45 (.aload_n 0) 46 := ⟨rfl, rfl, rfl⟩
theorem z22_46 : za_f 22 46 0 1 49 := ⟨21, 9, .null, ⟨rfl, rfl, rfl⟩, rfl, Or.inr (Or.inr rfl)⟩
theorem z22_49 : za 22 49 (.iload_n 1) 50 := ⟨rfl, rfl, rfl⟩
theorem z22_50 : za_v 22 50 68 2 4 53 := ⟨189, ⟨rfl, rfl, rfl⟩, rfl⟩
theorem z22_53 : za 22 53 (.istore_n 2) 54 := ⟨rfl, rfl, rfl⟩
theorem z22_54 : za 22 54 (.aload_n 0) 55 := ⟨rfl, rfl, rfl⟩
theorem z22_55 : za 22 55 (.aload_n 0) 56 := ⟨rfl, rfl, rfl⟩
theorem z22_56 : za_f 22 56 0 3 59 := ⟨35, 9, .null, ⟨rfl, rfl, rfl⟩, rfl, Or.inr (Or.inr rfl)⟩
theorem z22_59 : za_f 22 59 4 8 62 := ⟨193, 0, .null, ⟨rfl, rfl, rfl⟩, rfl, Or.inl rfl⟩
theorem z22_62 : za_p 22 62 0 5 65 := ⟨43, 0, .null, ⟨rfl, rfl, rfl⟩, rfl, Or.inl rfl⟩
theorem z22_65 : za 22 65 (.iload_n 2) 66 := ⟨rfl, rfl, rfl⟩
theorem z22_66 : za 22 66 (.ireturn) 67 := ⟨rfl, rfl, rfl⟩
theorem z23_0 : za 23 0 (.aload_n 0) 1 := ⟨rfl, rfl, rfl⟩
theorem z23_1 : za_f 23 1 0 5 4 := ⟨43, 0, .null, ⟨rfl, rfl, rfl⟩, rfl, Or.inl rfl⟩
theorem z23_4 : za 23 4 (.ireturn) 5 := ⟨rfl, rfl, rfl⟩
theorem z24_0 : za 24 0 (.aload_n 0) 1 := ⟨rfl, rfl, rfl⟩
theorem z24_1 : za_f 24 1 0 3 4 := ⟨35, 9, .null, ⟨rfl, rfl, rfl⟩, rfl, Or.inr (Or.inr rfl)⟩
theorem z24_4 : za_f 24 4 4 9 7 := ⟨196, 0, .null, ⟨rfl, rfl, rfl⟩, rfl, Or.inl rfl⟩
theorem z24_7 : za 24 7 (.ireturn) 8 := ⟨rfl, rfl, rfl⟩
theorem z25_0 : za 25 0 (.iload_n 0) 1 := ⟨rfl, rfl, rfl⟩
theorem z25_1 : za 25 1 (.iload_n 1) 2 := ⟨rfl, rfl, rfl⟩
theorem z25_2 : zb (.if_icmp .lt) 25 2 14 5 := ⟨12, ⟨rfl, rfl, rfl⟩, rfl⟩
theorem z25_5 : za 25 5 (.iload_n 0) 6 := ⟨rfl, rfl, rfl⟩
theorem z25_6 : za 25 6 (.iload_n 2) 7 := ⟨rfl, rfl, rfl⟩
theorem z25_7 : zb (.if_icmp .gt) 25 7 14 10 := ⟨7, ⟨rfl, rfl, rfl⟩, rfl⟩
theorem z25_10 : za 25 10 (.iconst 1) 11 := ⟨rfl, rfl, rfl⟩
theorem z25_11 : zb (.goto) 25 11 15 14 := ⟨4, ⟨rfl, rfl, rfl⟩, rfl⟩
theorem z25_14 : za 25 14 (.iconst 0) 15 := ⟨rfl, rfl, rfl⟩
theorem z25_15 : za 25 15 (.ireturn) 16 := ⟨rfl, rfl, rfl⟩
theorem z26_0 : za 26 0 (.iload_n 0) 1 := ⟨rfl, rfl, rfl⟩
theorem z26_1 : za 26 1 (.bipush (49)) 3 := ⟨rfl, rfl, rfl⟩
theorem z26_3 : zb (.if_icmp .lt) 26 3 17 6 := ⟨14, ⟨rfl, rfl, rfl⟩, rfl⟩
theorem z26_6 : za 26 6 (.iload_n 0) 7 := ⟨rfl, rfl, rfl⟩
theorem z26_7 : za 26 7 (.bipush (56)) 9 := ⟨rfl, rfl, rfl⟩
theorem z26_9 : zb (.if_icmp .gt) 26 9 17 12 := ⟨8, ⟨rfl, rfl, rfl⟩, rfl⟩
theorem z26_12 : za 26 12 (.iload_n 0) 13 := ⟨rfl, rfl, rfl⟩
theorem z26_13 : za 26 13 (.bipush (49)) 15 := ⟨rfl, rfl, rfl⟩
theorem z26_15 : za 26 15 (.isub) 16 := ⟨rfl, rfl, rfl⟩
theorem z26_16 : za 26 16 (.ireturn) 17 := ⟨rfl, rfl, rfl⟩
theorem z26_17 : za 26 17 (.iload_n 0) 18 := ⟨rfl, rfl, rfl⟩
theorem z26_18 : za 26 18 (.bipush (97)) 20 := ⟨rfl, rfl, rfl⟩
theorem z26_20 : zb (.if_icmp .lt) 26 20 37 23 := ⟨17, ⟨rfl, rfl, rfl⟩, rfl⟩
theorem z26_23 : za 26 23 (.iload_n 0) 24 := ⟨rfl, rfl, rfl⟩
theorem z26_24 : za 26 24 (.bipush (100)) 26 := ⟨rfl, rfl, rfl⟩
theorem z26_26 : zb (.if_icmp .gt) 26 26 37 29 := ⟨11, ⟨rfl, rfl, rfl⟩, rfl⟩
theorem z26_29 : za 26 29 (.bipush (8)) 31 := ⟨rfl, rfl, rfl⟩
theorem z26_31 : za 26 31 (.iload_n 0) 32 := ⟨rfl, rfl, rfl⟩
theorem z26_32 : za 26 32 (.iadd) 33 := ⟨rfl, rfl, rfl⟩
theorem z26_33 : za 26 33 (.bipush (97)) 35 := ⟨rfl, rfl, rfl⟩
theorem z26_35 : za 26 35 (.isub) 36 := ⟨rfl, rfl, rfl⟩
theorem z26_36 : za 26 36 (.ireturn) 37 := ⟨rfl, rfl, rfl⟩
theorem z26_37 : za 26 37 (.iload_n 0) 38 := ⟨rfl, rfl, rfl⟩
theorem z26_38 : za 26 38 (.bipush (104)) 40 := ⟨rfl, rfl, rfl⟩
theorem z26_40 : zb (.if_icmp .ne) 26 40 48 43 := ⟨8, ⟨rfl, rfl, rfl⟩, rfl⟩
theorem z26_43 : za 26 43 (.bipush (12)) 45 := ⟨rfl, rfl, rfl⟩
theorem z26_45 : zb (.goto) 26 45 49 48 := ⟨4, ⟨rfl, rfl, rfl⟩, rfl⟩
theorem z26_48 : za 26 48 (.iconst (-1)) 49 := ⟨rfl, rfl, rfl⟩
theorem z26_49 : za 26 49 (.ireturn) 50 := ⟨rfl, rfl, rfl⟩
theorem z27_0 : za 27 0 (.aload_n 0) 1 := ⟨rfl, rfl, rfl⟩
theorem z27_1 : za_f 27 1 0 1 4 := ⟨21, 9, .null, ⟨rfl, rfl, rfl⟩, rfl, Or.inr (Or.inr rfl)⟩
theorem z27_4 : za 27 4 (.iload_n 1) 5 := ⟨rfl, rfl, rfl⟩
theorem z27_5 : za 27 5 (.iload_n 3) 6 := ⟨rfl, rfl, rfl⟩
theorem z27_6 : za 27 6 (.iconst 1) 7 := ⟨rfl, rfl, rfl⟩
theorem z27_7 : za 27 7 (.isub) 8 := ⟨rfl, rfl, rfl⟩
theorem z27_8 : za_v 27 8 47 2 2 11 := ⟨184, ⟨rfl, rfl, rfl⟩, rfl⟩
theorem z27_11 : za 27 11 (.istore 4) 13 := ⟨rfl, rfl, rfl⟩
theorem z27_13 : za 27 13 (.aload_n 0) 14 := ⟨rfl, rfl, rfl⟩
theorem z27_14 : za_f 27 14 0 1 17 := ⟨21, 9, .null, ⟨rfl, rfl, rfl⟩, rfl, Or.inr (Or.inr rfl)⟩
theorem z27_17 : za 27 17 (.iload 4) 19 := ⟨rfl, rfl, rfl⟩
theorem z27_19 : za 27 19 (.iload_n 1) 20 := ⟨rfl, rfl, rfl⟩
theorem z27_20 : za 27 20 (.iload_n 2) 21 := ⟨rfl, rfl, rfl⟩
theorem z27_21 : za_v 27 21 62 3 2 24 := ⟨171, ⟨rfl, rfl, rfl⟩, rfl⟩
theorem z27_24 : za 27 24 (.aload_n 0) 25 := ⟨rfl, rfl, rfl⟩
theorem z27_25 : za_f 27 25 0 2 28 := ⟨28, 9, .null, ⟨rfl, rfl, rfl⟩, rfl, Or.inr (Or.inr rfl)⟩
theorem z27_28 : za 27 28 (.iload 4) 30 := ⟨rfl, rfl, rfl⟩
theorem z27_30 : za 27 30 (.iload_n 1) 31 := ⟨rfl, rfl, rfl⟩
theorem z27_31 : za 27 31 (.iload_n 2) 32 := ⟨rfl, rfl, rfl⟩
theorem z27_32 : za 27 32 (.iload_n 3) 33 := ⟨rfl, rfl, rfl⟩
theorem z27_33 : za_v 27 33 65 4 3 36 := ⟨199, ⟨rfl, rfl, rfl⟩, rfl⟩
theorem z27_36 : za 27 36 (.aload_n 0) 37 := ⟨rfl, rfl, rfl⟩
theorem z27_37 : za 27 37 (.iconst (-1)) 38 := ⟨rfl, rfl, rfl⟩
theorem z27_38 : za_p 27 38 0 5 41 := ⟨43, 0, .null, ⟨rfl, rfl, rfl⟩, rfl, Or.inl rfl⟩
theorem z27_41 : za 27 41 (.return_) 42 := ⟨rfl, rfl, rfl⟩
theorem z28_0 : za 28 0 (.aload_n 0) 1 := ⟨rfl, rfl, rfl⟩
theorem z28_1 : za_o 28 1 4 := ⟨3, 0, .null, ⟨rfl, rfl, rfl⟩, rfl⟩
theorem z28_4 : za 28 4 (.aload_n 0) 5 := ⟨rfl, rfl, rfl⟩
theorem z28_5 : za 28 5 (.bipush (8)) 7 := ⟨rfl, rfl, rfl⟩
theorem z28_7 : za_p 28 7 1 0 10 := ⟨9, 0, .null, ⟨rfl, rfl, rfl⟩, rfl, Or.inl rfl⟩
theorem z28_10 : za 28 10 (.aload_n 0) 11 := ⟨rfl, rfl, rfl⟩
theorem z28_11 : za 28 11 (.iconst 4) 12 := ⟨rfl, rfl, rfl⟩
theorem z28_12 : za_p 28 12 1 1 15 := ⟨15, 0, .null, ⟨rfl, rfl, rfl⟩, rfl, Or.inl rfl⟩
theorem z28_15 : za 28 15 (.aload_n 0) 16 := ⟨rfl, rfl, rfl⟩
theorem z28_16 : za 28 16 (.iconst 0) 17 := ⟨rfl, rfl, rfl⟩
theorem z28_17 : za_p 28 17 1 2 20 := ⟨18, 0, .null, ⟨rfl, rfl, rfl⟩, rfl, Or.inl rfl⟩
theorem z28_20 : za 28 20 (.aload_n 0) 21 := ⟨rfl, rfl, rfl⟩
theorem z28_21 : za 28 21 (.iconst 0) 22 := ⟨rfl, rfl, rfl⟩
theorem z28_22 : za_p 28 22 1 3 25 := ⟨21, 0, .null, ⟨rfl, rfl, rfl⟩, rfl, Or.inl rfl⟩
theorem z28_25 : za 28 25 (.aload_n 0) 26 := ⟨rfl, rfl, rfl⟩
theorem z28_26 : za 28 26 (.iconst 4) 27 := ⟨rfl, rfl, rfl⟩
theorem z28_27 : za_p 28 27 1 4 30 := ⟨24, 0, .null, ⟨rfl, rfl, rfl⟩, rfl, Or.inl rfl⟩
theorem z28_30 : za 28 30 (.aload_n 0) 31 := ⟨rfl, rfl, rfl⟩
theorem z28_31 : za 28 31 (.bipush (13)) 33 := ⟨rfl, rfl, rfl⟩
theorem z28_33 : za_p 28 33 1 5 36 := ⟨27, 0, .null, ⟨rfl, rfl, rfl⟩, rfl, Or.inl rfl⟩
theorem z28_36 : za 28 36 (.return_) 37 := ⟨rfl, rfl, rfl⟩
theorem z29_0 : za 29 0 (.iload_n 1) 1 := ⟨rfl, rfl, rfl⟩
theorem z29_1 : zb (.ifCond .lt) 29 1 16 4 := ⟨15, ⟨rfl, rfl, rfl⟩, rfl⟩
theorem z29_4 : za 29 4 (.iload_n 1) 5 := ⟨rfl, rfl, rfl⟩
theorem z29_5 : za 29 5 (.aload_n 0) 6 := ⟨rfl, rfl, rfl⟩
theorem z29_6 : za_f 29 6 1 0 9 := ⟨9, 0, .null, ⟨rfl, rfl, rfl⟩, rfl, Or.inl rfl⟩
theorem z29_9 : zb (.if_icmp .ge) 29 9 16 12 := ⟨7, ⟨rfl, rfl, rfl⟩, rfl⟩
theorem z29_12 : za 29 12 (.iconst 1) 13 := ⟨rfl, rfl, rfl⟩
theorem z29_13 : zb (.goto) 29 13 17 16 := ⟨4, ⟨rfl, rfl, rfl⟩, rfl⟩
theorem z29_16 : za 29 16 (.iconst 0) 17 := ⟨rfl, rfl, rfl⟩
theorem z29_17 : za 29 17 (.ireturn) 18 := ⟨rfl, rfl, rfl⟩
theorem z30_0 : za 30 0 (.iload_n 1) 1 := ⟨rfl, rfl, rfl⟩
theorem z30_1 : za 30 1 (.bipush (8)) 3 := ⟨rfl, rfl, rfl⟩
theorem z30_3 : zb (.if_icmp .lt) 30 3 21 6 := ⟨18, ⟨rfl, rfl, rfl⟩, rfl⟩
theorem z30_6 : za 30 6 (.iload_n 1) 7 := ⟨rfl, rfl, rfl⟩
theorem z30_7 : za 30 7 (.bipush (8)) 9 := ⟨rfl, rfl, rfl⟩
theorem z30_9 : za 30 9 (.aload_n 0) 10 := ⟨rfl, rfl, rfl⟩
theorem z30_10 : za_f 30 10 1 1 13 := ⟨15, 0, .null, ⟨rfl, rfl, rfl⟩, rfl, Or.inl rfl⟩
theorem z30_13 : za 30 13 (.iadd) 14 := ⟨rfl, rfl, rfl⟩
theorem z30_14 : zb (.if_icmp .ge) 30 14 21 17 := ⟨7, ⟨rfl, rfl, rfl⟩, rfl⟩
theorem z30_17 : za 30 17 (.iconst 1) 18 := ⟨rfl, rfl, rfl⟩
theorem z30_18 : zb (.goto) 30 18 22 21 := ⟨4, ⟨rfl, rfl, rfl⟩, rfl⟩
theorem z30_21 : za 30 21 (.iconst 0) 22 := ⟨rfl, rfl, rfl⟩
theorem z30_22 : za 30 22 (.ireturn) 23 := ⟨rfl, rfl, rfl⟩
theorem z31_0 : za 31 0 (.aload_n 0) 1 := ⟨rfl, rfl, rfl⟩
theorem z31_1 : za 31 1 (.iload_n 1) 2 := ⟨rfl, rfl, rfl⟩
theorem z31_2 : za_v 31 2 29 1 1 5 := ⟨30, ⟨rfl, rfl, rfl⟩, rfl⟩
theorem z31_5 : zb (.ifCond .ne) 31 5 22 8 := ⟨17, ⟨rfl, rfl, rfl⟩, rfl⟩
theorem z31_8 : za 31 8 (.aload_n 0) 9 := ⟨rfl, rfl, rfl⟩
theorem z31_9 : za 31 9 (.iload_n 1) 10 := ⟨rfl, rfl, rfl⟩
theorem z31_10 : za_v 31 10 30 1 1 13 := ⟨34, ⟨rfl, rfl, rfl⟩, rfl⟩
theorem z31_13 : zb (.ifCond .ne) 31 13 22 16 := ⟨9, ⟨rfl, rfl, rfl⟩, rfl⟩
theorem z31_16 : za 31 16 (.iload_n 1) 17 := ⟨rfl, rfl, rfl⟩
theorem z31_17 : za 31 17 (.bipush (12)) 19 := ⟨rfl, rfl, rfl⟩
theorem z31_19 : zb (.if_icmp .ne) 31 19 26 22 := ⟨7, ⟨rfl, rfl, rfl⟩, rfl⟩
theorem z31_22 : za 31 22 (.iconst 1) 23 := ⟨rfl, rfl, rfl⟩
theorem z31_23 : zb (.goto) 31 23 27 26 := ⟨4, ⟨rfl, rfl, rfl⟩, rfl⟩
theorem z31_26 : za 31 26 (.iconst 0) 27 := ⟨rfl, rfl, rfl⟩
theorem z31_27 : za 31 27 (.ireturn) 28 := ⟨rfl, rfl, rfl⟩
theorem z32_0 : za 32 0 (.aload_n 0) 1 := ⟨rfl, rfl, rfl⟩
theorem z32_1 : za_f 32 1 1 4 4 := ⟨24, 0, .null, ⟨rfl, rfl, rfl⟩, rfl, Or.inl rfl⟩
theorem z32_4 : za 32 4 (.aload_n 0) 5 := ⟨rfl, rfl, rfl⟩
theorem z32_5 : za_f 32 5 1 5 8 := ⟨27, 0, .null, ⟨rfl, rfl, rfl⟩, rfl, Or.inl rfl⟩
theorem z32_8 : za 32 8 (.imul) 9 := ⟨rfl, rfl, rfl⟩
theorem z32_9 : za 32 9 (.ireturn) 10 := ⟨rfl, rfl, rfl⟩
theorem z33_0 : za 33 0 (.iload_n 1) 1 := ⟨rfl, rfl, rfl⟩
theorem z33_1 : zb (.ifCond .lt) 33 1 16 4 := ⟨15, ⟨rfl, rfl, rfl⟩, rfl⟩
theorem z33_4 : za 33 4 (.iload_n 1) 5 := ⟨rfl, rfl, rfl⟩
theorem z33_5 : za 33 5 (.aload_n 0) 6 := ⟨rfl, rfl, rfl⟩
theorem z33_6 : za_v 33 6 32 0 1 9 := ⟨37, ⟨rfl, rfl, rfl⟩, rfl⟩
theorem z33_9 : zb (.if_icmp .ge) 33 9 16 12 := ⟨7, ⟨rfl, rfl, rfl⟩, rfl⟩
theorem z33_12 : za 33 12 (.iconst 1) 13 := ⟨rfl, rfl, rfl⟩
theorem z33_13 : zb (.goto) 33 13 17 16 := ⟨4, ⟨rfl, rfl, rfl⟩, rfl⟩
theorem z33_16 : za 33 16 (.iconst 0) 17 := ⟨rfl, rfl, rfl⟩
theorem z33_17 : za 33 17 (.ireturn) 18 := ⟨rfl, rfl, rfl⟩
theorem z34_0 : za 34 0 (.iload_n 1) 1 := ⟨rfl, rfl, rfl⟩
theorem z34_1 : za 34 1 (.aload_n 0) 2 := ⟨rfl, rfl, rfl⟩
theorem z34_2 : za_f 34 2 1 4 5 := ⟨24, 0, .null, ⟨rfl, rfl, rfl⟩, rfl, Or.inl rfl⟩
theorem z34_5 : za 34 5 (.idiv) 6 := ⟨rfl, rfl, rfl⟩
theorem z34_6 : za 34 6 (.iconst 1) 7 := ⟨rfl, rfl, rfl⟩
theorem z34_7 : za 34 7 (.iadd) 8 := ⟨rfl, rfl, rfl⟩
theorem z34_8 : za 34 8 (.ireturn) 9 := ⟨rfl, rfl, rfl⟩
theorem z35_0 : za 35 0 (.iload_n 1) 1 := ⟨rfl, rfl, rfl⟩
theorem z35_1 : za 35 1 (.aload_n 0) 2 := ⟨rfl, rfl, rfl⟩
theorem z35_2 : za_f 35 2 1 4 5 := ⟨24, 0, .null, ⟨rfl, rfl, rfl⟩, rfl, Or.inl rfl⟩
theorem z35_5 : za 35 5 (.irem) 6 := ⟨rfl, rfl, rfl⟩
theorem z35_6 : za 35 6 (.ireturn) 7 := ⟨rfl, rfl, rfl⟩
theorem z36_0 : za 36 0 (.iload_n 1) 1 := ⟨rfl, rfl, rfl⟩
theorem z36_1 : za 36 1 (.iconst 1) 2 := ⟨rfl, rfl, rfl⟩
theorem z36_2 : zb (.if_icmp .eq) 36 2 10 5 := ⟨8, ⟨rfl, rfl, rfl⟩, rfl⟩
theorem z36_5 : za 36 5 (.iload_n 1) 6 := ⟨rfl, rfl, rfl⟩
theorem z36_6 : za 36 6 (.iconst 2) 7 := ⟨rfl, rfl, rfl⟩
theorem z36_7 : zb (.if_icmp .ne) 36 7 14 10 := ⟨7, ⟨rfl, rfl, rfl⟩, rfl⟩
theorem z36_10 : za 36 10 (.iconst 1) 11 := ⟨rfl, rfl, rfl⟩
theorem z36_11 : zb (.goto) 36 11 15 14 := ⟨4, ⟨rfl, rfl, rfl⟩, rfl⟩
theorem z36_14 : za 36 14 (.iconst 0) 15 := ⟨rfl, rfl, rfl⟩
theorem z36_15 : za 36 15 (.ireturn) 16 := ⟨rfl, rfl, rfl⟩
theorem z37_0 : za 37 0 (.aload_n 0) 1 := ⟨rfl, rfl, rfl⟩
theorem z37_1 : za 37 1 (.iload_n 1) 2 := ⟨rfl, rfl, rfl⟩
theorem z37_2 : za_v 37 2 34 1 1 5 := ⟨41, ⟨rfl, rfl, rfl⟩, rfl⟩
theorem z37_5 : za 37 5 (.iconst 1) 6 := ⟨rfl, rfl, rfl⟩
theorem z37_6 : za 37 6 (.iadd) 7 := ⟨rfl, rfl, rfl⟩
theorem z37_7 : za 37 7 (.aload_n 0) 8 := ⟨rfl, rfl, rfl⟩
theorem z37_8 : za 37 8 (.iload_n 2) 9 := ⟨rfl, rfl, rfl⟩
theorem z37_9 : za_v 37 9 34 1 1 12 := ⟨41, ⟨rfl, rfl, rfl⟩, rfl⟩
theorem z37_12 : zb (.if_icmp .eq) 37 12 17 15 := ⟨5, ⟨rfl, rfl, rfl⟩, rfl⟩
theorem z37_15 : za 37 15 (.iconst 0) 16 := ⟨rfl, rfl, rfl⟩
theorem z37_16 : za 37 16 (.ireturn) 17 := ⟨rfl, rfl, rfl⟩
theorem z37_17 : za 37 17 (.aload_n 0) 18 := ⟨rfl, rfl, rfl⟩
theorem z37_18 : za_f 37 18 1 2 21 := ⟨18, 0, .null, ⟨rfl, rfl, rfl⟩, rfl, Or.inl rfl⟩
theorem z37_21 : zb (.ifCond .ne) 37 21 51 24 := ⟨30, ⟨rfl, rfl, rfl⟩, rfl⟩
theorem z37_24 : za 37 24 (.aload_n 0) 25 := ⟨rfl, rfl, rfl⟩
theorem z37_25 : za 37 25 (.aload_n 0) 26 := ⟨rfl, rfl, rfl⟩
theorem z37_26 : za 37 26 (.iload_n 1) 27 := ⟨rfl, rfl, rfl⟩
theorem z37_27 : za_v 37 27 35 1 1 30 := ⟨45, ⟨rfl, rfl, rfl⟩, rfl⟩
theorem z37_30 : za_v 37 30 36 1 1 33 := ⟨48, ⟨rfl, rfl, rfl⟩, rfl⟩
theorem z37_33 : za 37 33 (.aload_n 0) 34 := ⟨rfl, rfl, rfl⟩
theorem z37_34 : za 37 34 (.aload_n 0) 35 := ⟨rfl, rfl, rfl⟩
theorem z37_35 : za 37 35 (.iload_n 2) 36 := ⟨rfl, rfl, rfl⟩
theorem z37_36 : za_v 37 36 35 1 1 39 := ⟨45, ⟨rfl, rfl, rfl⟩, rfl⟩
theorem z37_39 : za_v 37 39 36 1 1 42 := ⟨48, ⟨rfl, rfl, rfl⟩, rfl⟩
theorem z37_42 : zb (.if_icmp .eq) 37 42 49 45 := ⟨7, ⟨rfl, rfl, rfl⟩, rfl⟩
theorem z37_45 : za 37 45 (.iconst 1) 46 := ⟨rfl, rfl, rfl⟩
theorem z37_46 : zb (.goto) 37 46 50 49 := ⟨4, ⟨rfl, rfl, rfl⟩, rfl⟩
theorem z37_49 : za 37 49 (.iconst 0) 50 := ⟨rfl, rfl, rfl⟩
theorem z37_50 : za 37 50 (.ireturn) 51 := ⟨rfl, rfl, rfl⟩
theorem z37_51 : za 37 51 (.aload_n 0) 52 := ⟨rfl, rfl, rfl⟩
theorem z37_52 : za_f 37 52 1 2 55 := ⟨18, 0, .null, ⟨rfl, rfl, rfl⟩, rfl, Or.inl rfl⟩
theorem z37_55 : za 37 55 (.iconst 1) 56 := ⟨rfl, rfl, rfl⟩
theorem z37_56 : zb (.if_icmp .ne) 37 56 72 59 := ⟨16, ⟨rfl, rfl, rfl⟩, rfl⟩
theorem z37_59 : za 37 59 (.aload_n 0) 60 := ⟨rfl, rfl, rfl⟩
theorem z37_60 : za 37 60 (.iload_n 1) 61 := ⟨rfl, rfl, rfl⟩
theorem z37_61 : za_v 37 61 35 1 1 64 := ⟨45, ⟨rfl, rfl, rfl⟩, rfl⟩
theorem z37_64 : za 37 64 (.aload_n 0) 65 := ⟨rfl, rfl, rfl⟩
theorem z37_65 : za 37 65 (.iload_n 2) 66 := ⟨rfl, rfl, rfl⟩
theorem z37_66 : za_v 37 66 35 1 1 69 := ⟨45, ⟨rfl, rfl, rfl⟩, rfl⟩
theorem z37_69 : zb (.if_icmp .ne) 37 69 76 72 := ⟨7, ⟨rfl, rfl, rfl⟩, rfl⟩
theorem z37_72 : za 37 72 (.iconst 1) 73 := ⟨rfl, rfl, rfl⟩
theorem z37_73 : zb (.goto) 37 73 77 76 := ⟨4, ⟨rfl, rfl, rfl⟩, rfl⟩
theorem z37_76 : za 37 76 (.iconst 0) 77 := ⟨rfl, rfl, rfl⟩
theorem z37_77 : za 37 77 (.ireturn) 78 := ⟨rfl, rfl, rfl⟩
theorem z38_0 : za 38 0 (.aload_n 0) 1 := ⟨rfl, rfl, rfl⟩
theorem z38_1 : za_f 38 1 1 3 4 := ⟨21, 0, .null, ⟨rfl, rfl, rfl⟩, rfl, Or.inl rfl⟩
theorem z38_4 : zb (.ifCond .eq) 38 4 27 7 := ⟨23, ⟨rfl, rfl, rfl⟩, rfl⟩
theorem z38_7 : za 38 7 (.aload_n 0) 8 := ⟨rfl, rfl, rfl⟩
theorem z38_8 : za_f 38 8 1 3 11 := ⟨21, 0, .null, ⟨rfl, rfl, rfl⟩, rfl, Or.inl rfl⟩
theorem z38_11 : za 38 11 (.iconst 1) 12 := ⟨rfl, rfl, rfl⟩
theorem z38_12 : zb (.if_icmp .ne) 38 12 31 15 := ⟨19, ⟨rfl, rfl, rfl⟩, rfl⟩
theorem z38_15 : za 38 15 (.aload_n 0) 16 := ⟨rfl, rfl, rfl⟩
theorem z38_16 : za 38 16 (.iload_n 1) 17 := ⟨rfl, rfl, rfl⟩
theorem z38_17 : za_v 38 17 34 1 1 20 := ⟨41, ⟨rfl, rfl, rfl⟩, rfl⟩
theorem z38_20 : za 38 20 (.aload_n 0) 21 := ⟨rfl, rfl, rfl⟩
theorem z38_21 : za_f 38 21 1 5 24 := ⟨27, 0, .null, ⟨rfl, rfl, rfl⟩, rfl, Or.inl rfl⟩
theorem z38_24 : zb (.if_icmp .ne) 38 24 31 27 := ⟨7, ⟨rfl, rfl, rfl⟩, rfl⟩
theorem z38_27 : za 38 27 (.iconst 1) 28 := ⟨rfl, rfl, rfl⟩
theorem z38_28 : zb (.goto) 38 28 32 31 := ⟨4, ⟨rfl, rfl, rfl⟩, rfl⟩
theorem z38_31 : za 38 31 (.iconst 0) 32 := ⟨rfl, rfl, rfl⟩
theorem z38_32 : za 38 32 (.ireturn) 33 := ⟨rfl, rfl, rfl⟩
theorem z39_0 : za 39 0 (.aload_n 0) 1 := ⟨rfl, rfl, rfl⟩
theorem z39_1 : za_o 39 1 4 := ⟨3, 0, .null, ⟨rfl, rfl, rfl⟩, rfl⟩
theorem z39_4 : za 39 4 (.aload_n 0) 5 := ⟨rfl, rfl, rfl⟩
theorem z39_5 : za 39 5 (.bipush (52)) 7 := ⟨rfl, rfl, rfl⟩
theorem z39_7 : za 39 7 (.newarray .int) 9 := ⟨rfl, rfl, rfl⟩
theorem z39_9 : za_p 39 9 2 1 12 := ⟨9, 8, .null, ⟨rfl, rfl, rfl⟩, rfl, Or.inr rfl⟩
theorem z39_12 : za 39 12 (.aload_n 0) 13 := ⟨rfl, rfl, rfl⟩
theorem z39_13 : za 39 13 (.bipush (12)) 15 := ⟨rfl, rfl, rfl⟩
theorem z39_15 : za 39 15 (.newarray .int) 17 := ⟨rfl, rfl, rfl⟩
theorem z39_17 : za_p 39 17 2 2 20 := ⟨15, 8, .null, ⟨rfl, rfl, rfl⟩, rfl, Or.inr rfl⟩
theorem z39_20 : za 39 20 (.aload_n 0) 21 := ⟨rfl, rfl, rfl⟩
theorem z39_21 : za 39 21 (.iconst 4) 22 := ⟨rfl, rfl, rfl⟩
theorem z39_22 : za 39 22 (.newarray .int) 24 := ⟨rfl, rfl, rfl⟩
theorem z39_24 : za_p 39 24 2 3 27 := ⟨18, 8, .null, ⟨rfl, rfl, rfl⟩, rfl, Or.inr rfl⟩
theorem z39_27 : za 39 27 (.aload_n 0) 28 := ⟨rfl, rfl, rfl⟩
theorem z39_28 : za 39 28 (.aload_n 1) 29 := ⟨rfl, rfl, rfl⟩
theorem z39_29 : za_p 39 29 2 0 32 := ⟨21, 8, .null, ⟨rfl, rfl, rfl⟩, rfl, Or.inr rfl⟩
theorem z39_32 : za 39 32 (.aload_n 0) 33 := ⟨rfl, rfl, rfl⟩
theorem z39_33 : za_v 39 33 40 0 2 36 := ⟨25, ⟨rfl, rfl, rfl⟩, rfl⟩
theorem z39_36 : za 39 36 (.return_) 37 := ⟨rfl, rfl, rfl⟩
theorem z40_0 : za 40 0 (.aload_n 0) 1 := ⟨rfl, rfl, rfl⟩
theorem z40_1 : za_f 40 1 2 1 4 := ⟨9, 9, .null, ⟨rfl, rfl, rfl⟩, rfl, Or.inr (Or.inr rfl)⟩
theorem z40_4 : za 40 4 (.bipush (-4)) 6 := ⟨rfl, rfl, rfl⟩
theorem z40_6 : za_s 40 6 134 2 9 := ⟨28, .null, ⟨rfl, rfl, rfl⟩, rfl⟩
theorem z40_9 : za 40 9 (.aload_n 0) 10 := ⟨rfl, rfl, rfl⟩
theorem z40_10 : za_f 40 10 2 2 13 := ⟨15, 9, .null, ⟨rfl, rfl, rfl⟩, rfl, Or.inr (Or.inr rfl)⟩
theorem z40_13 : za 40 13 (.iconst (-1)) 14 := ⟨rfl, rfl, rfl⟩
theorem z40_14 : za_s 40 14 134 2 17 := ⟨28, .null, ⟨rfl, rfl, rfl⟩, rfl⟩
theorem z40_17 : za 40 17 (.aload_n 0) 18 := ⟨rfl, rfl, rfl⟩
theorem z40_18 : za_f 40 18 2 3 21 := ⟨18, 9, .null, ⟨rfl, rfl, rfl⟩, rfl, Or.inr (Or.inr rfl)⟩
theorem z40_21 : za 40 21 (.iconst 0) 22 := ⟨rfl, rfl, rfl⟩
theorem z40_22 : za_s 40 22 134 2 25 := ⟨28, .null, ⟨rfl, rfl, rfl⟩, rfl⟩
theorem z40_25 : za 40 25 (.aload_n 0) 26 := ⟨rfl, rfl, rfl⟩
theorem z40_26 : za 40 26 (.iconst 0) 27 := ⟨rfl, rfl, rfl⟩
theorem z40_27 : za_p 40 27 2 4 30 := ⟨34, 0, .null, ⟨rfl, rfl, rfl⟩, rfl, Or.inl rfl⟩
theorem z40_30 : za 40 30 (.aload_n 0) 31 := ⟨rfl, rfl, rfl⟩
theorem z40_31 : za 40 31 (.iconst 0) 32 := ⟨rfl, rfl, rfl⟩
theorem z40_32 : za_p 40 32 2 5 35 := ⟨38, 0, .null, ⟨rfl, rfl, rfl⟩, rfl, Or.inl rfl⟩
theorem z40_35 : za 40 35 (.return_) 36 := ⟨rfl, rfl, rfl⟩
theorem z41_0 : za 41 0 (.aload_n 1) 1 := ⟨rfl, rfl, rfl⟩
theorem z41_1 : za_f 41 1 2 1 4 := ⟨9, 9, .null, ⟨rfl, rfl, rfl⟩, rfl, Or.inr (Or.inr rfl)⟩
theorem z41_4 : za 41 4 (.iconst 0) 5 := ⟨rfl, rfl, rfl⟩
theorem z41_5 : za 41 5 (.aload_n 0) 6 := ⟨rfl, rfl, rfl⟩
theorem z41_6 : za_f 41 6 2 1 9 := ⟨9, 9, .null, ⟨rfl, rfl, rfl⟩, rfl, Or.inr (Or.inr rfl)⟩
theorem z41_9 : za 41 9 (.iconst 0) 10 := ⟨rfl, rfl, rfl⟩
theorem z41_10 : za 41 10 (.bipush (52)) 12 := ⟨rfl, rfl, rfl⟩
theorem z41_12 : za_y 41 12 15 := ⟨41, 0, .null, ⟨rfl, rfl, rfl⟩, rfl⟩
theorem z41_15 : za 41 15 (.aload_n 1) 16 := ⟨rfl, rfl, rfl⟩
theorem z41_16 : za_f 41 16 2 2 19 := ⟨15, 9, .null, ⟨rfl, rfl, rfl⟩, rfl, Or.inr (Or.inr rfl)⟩
theorem z41_19 : za 41 19 (.iconst 0) 20 := ⟨rfl, rfl, rfl⟩
theorem z41_20 : za 41 20 (.aload_n 0) 21 := ⟨rfl, rfl, rfl⟩
theorem z41_21 : za_f 41 21 2 2 24 := ⟨15, 9, .null, ⟨rfl, rfl, rfl⟩, rfl, Or.inr (Or.inr rfl)⟩
theorem z41_24 : za 41 24 (.iconst 0) 25 := ⟨rfl, rfl, rfl⟩
theorem z41_25 : za 41 25 (.bipush (12)) 27 := ⟨rfl, rfl, rfl⟩
theorem z41_27 : za_y 41 27 30 := ⟨41, 0, .null, ⟨rfl, rfl, rfl⟩, rfl⟩
theorem z41_30 : za 41 30 (.aload_n 1) 31 := ⟨rfl, rfl, rfl⟩
theorem z41_31 : za_f 41 31 2 3 34 := ⟨18, 9, .null, ⟨rfl, rfl, rfl⟩, rfl, Or.inr (Or.inr rfl)⟩
theorem z41_34 : za 41 34 (.iconst 0) 35 := ⟨rfl, rfl, rfl⟩
theorem z41_35 : za 41 35 (.aload_n 0) 36 := ⟨rfl, rfl, rfl⟩
theorem z41_36 : za_f 41 36 2 3 39 := ⟨18, 9, .null, ⟨rfl, rfl, rfl⟩, rfl, Or.inr (Or.inr rfl)⟩
theorem z41_39 : za 41 39 (.iconst 0) 40 := ⟨rfl, rfl, rfl⟩
theorem z41_40 : za 41 40 (.iconst 4) 41 := ⟨rfl, rfl, rfl⟩
theorem z41_41 : za_y 41 41 44 := ⟨41, 0, .null, ⟨rfl, rfl, rfl⟩, rfl⟩
theorem z41_44 : za 41 44 (.aload_n 0) 45 := ⟨rfl, rfl, rfl⟩
theorem z41_45 : za 41 45 (.aload_n 1) 46 := ⟨rfl, rfl, rfl⟩
theorem z41_46 : za_f 41 46 2 4 49 := ⟨34, 0, .null, ⟨rfl, rfl, rfl⟩, rfl, Or.inl rfl⟩
theorem z41_49 : za_p 41 49 2 4 52 := ⟨34, 0, .null, ⟨rfl, rfl, rfl⟩, rfl, Or.inl rfl⟩
theorem z41_52 : za 41 52 (.aload_n 0) 53 := ⟨rfl, rfl, rfl⟩
theorem z41_53 : za 41 53 (.aload_n 1) 54 := ⟨rfl, rfl, rfl⟩
theorem z41_54 : za_f 41 54 2 5 57 := ⟨38, 0, .null, ⟨rfl, rfl, rfl⟩, rfl, Or.inl rfl⟩
theorem z41_57 : za_p 41 57 2 5 60 := ⟨38, 0, .null, ⟨rfl, rfl, rfl⟩, rfl, Or.inl rfl⟩
theorem z41_60 : za 41 60 (.return_) 61 := ⟨rfl, rfl, rfl⟩
theorem z42_0 : za 42 0 (.aload_n 0) 1 := ⟨rfl, rfl, rfl⟩
theorem z42_1 : za_f 42 1 2 1 4 := ⟨9, 9, .null, ⟨rfl, rfl, rfl⟩, rfl, Or.inr (Or.inr rfl)⟩
theorem z42_4 : za 42 4 (.iload_n 1) 5 := ⟨rfl, rfl, rfl⟩
theorem z42_5 : za 42 5 (.iaload) 6 := ⟨rfl, rfl, rfl⟩
theorem z42_6 : za 42 6 (.bipush (-4)) 8 := ⟨rfl, rfl, rfl⟩
theorem z42_8 : zb (.if_icmp .eq) 42 8 15 11 := ⟨7, ⟨rfl, rfl, rfl⟩, rfl⟩
theorem z42_11 : za 42 11 (.iconst 1) 12 := ⟨rfl, rfl, rfl⟩
theorem z42_12 : zb (.goto) 42 12 16 15 := ⟨4, ⟨rfl, rfl, rfl⟩, rfl⟩
theorem z42_15 : za 42 15 (.iconst 0) 16 := ⟨rfl, rfl, rfl⟩
theorem z42_16 : za 42 16 (.ireturn) 17 := ⟨rfl, rfl, rfl⟩
theorem z43_0 : za 43 0 (.aload_n 0) 1 := ⟨rfl, rfl, rfl⟩
theorem z43_1 : za_f 43 1 2 4 4 := ⟨34, 0, .null, ⟨rfl, rfl, rfl⟩, rfl, Or.inl rfl⟩
theorem z43_4 : za 43 4 (.aload_n 0) 5 := ⟨rfl, rfl, rfl⟩
theorem z43_5 : za_f 43 5 2 0 8 := ⟨21, 9, .null, ⟨rfl, rfl, rfl⟩, rfl, Or.inr (Or.inr rfl)⟩
theorem z43_8 : za_v 43 8 32 0 1 11 := ⟨47, ⟨rfl, rfl, rfl⟩, rfl⟩
theorem z43_11 : zb (.if_icmp .ne) 43 11 18 14 := ⟨7, ⟨rfl, rfl, rfl⟩, rfl⟩
theorem z43_14 : za 43 14 (.iconst 1) 15 := ⟨rfl, rfl, rfl⟩
theorem z43_15 : zb (.goto) 43 15 19 18 := ⟨4, ⟨rfl, rfl, rfl⟩, rfl⟩
theorem z43_18 : za 43 18 (.iconst 0) 19 := ⟨rfl, rfl, rfl⟩
theorem z43_19 : za 43 19 (.ireturn) 20 := ⟨rfl, rfl, rfl⟩
theorem z44_0 : za 44 0 (.aload_n 0) 1 := ⟨rfl, rfl, rfl⟩
theorem z44_1 : za_f 44 1 2 5 4 := ⟨38, 0, .null, ⟨rfl, rfl, rfl⟩, rfl, Or.inl rfl⟩
theorem z44_4 : za 44 4 (.aload_n 0) 5 := ⟨rfl, rfl, rfl⟩
theorem z44_5 : za_f 44 5 2 0 8 := ⟨21, 9, .null, ⟨rfl, rfl, rfl⟩, rfl, Or.inr (Or.inr rfl)⟩
theorem z44_8 : za_v 44 8 32 0 1 11 := ⟨47, ⟨rfl, rfl, rfl⟩, rfl⟩
theorem z44_11 : zb (.if_icmp .ne) 44 11 18 14 := ⟨7, ⟨rfl, rfl, rfl⟩, rfl⟩
theorem z44_14 : za 44 14 (.iconst 1) 15 := ⟨rfl, rfl, rfl⟩
theorem z44_15 : zb (.goto) 44 15 19 18 := ⟨4, ⟨rfl, rfl, rfl⟩, rfl⟩
theorem z44_18 : za 44 18 (.iconst 0) 19 := ⟨rfl, rfl, rfl⟩
theorem z44_19 : za 44 19 (.ireturn) 20 := ⟨rfl, rfl, rfl⟩
theorem z45_0 : za 45 0 (.aload_n 0) 1 := ⟨rfl, rfl, rfl⟩
theorem z45_1 : za_f 45 1 2 1 4 := ⟨9, 9, .null, ⟨rfl, rfl, rfl⟩, rfl, Or.inr (Or.inr rfl)⟩
theorem z45_4 : za 45 4 (.iload_n 2) 5 := ⟨rfl, rfl, rfl⟩
theorem z45_5 : za 45 5 (.aload_n 0) 6 := ⟨rfl, rfl, rfl⟩
theorem z45_6 : za_f 45 6 2 2 9 := ⟨15, 9, .null, ⟨rfl, rfl, rfl⟩, rfl, Or.inr (Or.inr rfl)⟩
theorem z45_9 : za 45 9 (.iload_n 1) 10 := ⟨rfl, rfl, rfl⟩
theorem z45_10 : za 45 10 (.iaload) 11 := ⟨rfl, rfl, rfl⟩
theorem z45_11 : za 45 11 (.iastore) 12 := ⟨rfl, rfl, rfl⟩
theorem z45_12 : za 45 12 (.aload_n 0) 13 := ⟨rfl, rfl, rfl⟩
theorem z45_13 : za_f 45 13 2 2 16 := ⟨15, 9, .null, ⟨rfl, rfl, rfl⟩, rfl, Or.inr (Or.inr rfl)⟩
theorem z45_16 : za 45 16 (.iload_n 1) 17 := ⟨rfl, rfl, rfl⟩
theorem z45_17 : za 45 17 (.iload_n 2) 18 := ⟨rfl, rfl, rfl⟩
theorem z45_18 : za 45 18 (.iastore) 19 := ⟨rfl, rfl, rfl⟩
theorem z45_19 : za 45 19 (.aload_n 0) 20 := ⟨rfl, rfl, rfl⟩
theorem z45_20 : za 45 20 (.dup) 21 := ⟨rfl, rfl, rfl⟩
theorem z45_21 : za_f 45 21 2 4 24 := ⟨34, 0, .null, ⟨rfl, rfl, rfl⟩, rfl, Or.inl rfl⟩
theorem z45_24 : za 45 24 (.iconst 1) 25 := ⟨rfl, rfl, rfl⟩
theorem z45_25 : za 45 25 (.iadd) 26 := ⟨rfl, rfl, rfl⟩
theorem z45_26 : za_p 45 26 2 4 29 := ⟨34, 0, .null, ⟨rfl, rfl, rfl⟩, rfl, Or.inl rfl⟩
theorem z45_29 : za 45 29 (.return_) 30 := ⟨rfl, rfl, rfl⟩
theorem z46_0 : za 46 0 (.iload_n 1) 1 := ⟨rfl, rfl, rfl⟩
theorem z46_1 : za 46 1 (.bipush (12)) 3 := ⟨rfl, rfl, rfl⟩
theorem z46_3 : zb (.if_icmp .ne) 46 3 11 6 := ⟨8, ⟨rfl, rfl, rfl⟩, rfl⟩
theorem z46_6 : za 46 6 (.aload_n 0) 7 := ⟨rfl, rfl, rfl⟩
theorem z46_7 : za_f 46 7 2 5 10 := ⟨38, 0, .null, ⟨rfl, rfl, rfl⟩, rfl, Or.inl rfl⟩
theorem z46_10 : za 46 10 (.ireturn) 11 := ⟨rfl, rfl, rfl⟩
theorem z46_11 : za 46 11 (.iconst 0) 12 := ⟨rfl, rfl, rfl⟩
theorem z46_12 : za 46 12 (.istore_n 2) 13 := ⟨rfl, rfl, rfl⟩
theorem z46_13 : za 46 13 (.aload_n 0) 14 := ⟨rfl, rfl, rfl⟩
theorem z46_14 : za_f 46 14 2 2 17 := ⟨15, 9, .null, ⟨rfl, rfl, rfl⟩, rfl, Or.inr (Or.inr rfl)⟩
theorem z46_17 : za 46 17 (.iload_n 1) 18 := ⟨rfl, rfl, rfl⟩
theorem z46_18 : za 46 18 (.iaload) 19 := ⟨rfl, rfl, rfl⟩
theorem z46_19 : za 46 19 (.istore_n 3) 20 := ⟨rfl, rfl, rfl⟩
theorem z46_20 : za 46 20 (.iload_n 3) 21 := ⟨rfl, rfl, rfl⟩
theorem z46_21 : zb (.ifCond .lt) 46 21 43 24 := ⟨22, ⟨rfl, rfl, rfl⟩, rfl⟩
theorem z46_24 : za 46 24 (.iload_n 2) 25 := ⟨rfl, rfl, rfl⟩
theorem z46_25 : za 46 25 (.bipush (52)) 27 := ⟨rfl, rfl, rfl⟩
theorem z46_27 : zb (.if_icmp .ge) 46 27 43 30 := ⟨16, ⟨rfl, rfl, rfl⟩, rfl⟩
theorem z46_30 : za 46 30 (.iinc 2 (1)) 33 := ⟨rfl, rfl, rfl⟩
theorem z46_33 : za 46 33 (.aload_n 0) 34 := ⟨rfl, rfl, rfl⟩
theorem z46_34 : za_f 46 34 2 1 37 := ⟨9, 9, .null, ⟨rfl, rfl, rfl⟩, rfl, Or.inr (Or.inr rfl)⟩
theorem z46_37 : za 46 37 (.iload_n 3) 38 := ⟨rfl, rfl, rfl⟩
theorem z46_38 : za 46 38 (.iaload) 39 := ⟨rfl, rfl, rfl⟩
theorem z46_39 : za 46 39 (.istore_n 3) 40 := ⟨rfl, rfl, rfl⟩
theorem z46_40 : zb (.goto) 46 40 20 43 := ⟨(-20), ⟨rfl, rfl, rfl⟩, rfl⟩
theorem z46_43 : za 46 43 (.iload_n 2) 44 := ⟨rfl, rfl, rfl⟩
theorem z46_44 : za 46 44 (.ireturn) 45 := ⟨rfl, rfl, rfl⟩
theorem z47_0 : za 47 0 (.iload_n 2) 1 := ⟨rfl, rfl, rfl⟩
theorem z47_1 : zb (.ifCond .ge) 47 1 6 4 := ⟨5, ⟨rfl, rfl, rfl⟩, rfl⟩
theorem z47_4 : za 47 4 (.iconst (-1)) 5 := ⟨rfl, rfl, rfl⟩
theorem z47_5 : za 47 5 (.ireturn) 6 := ⟨rfl, rfl, rfl⟩
theorem z47_6 : za 47 6 (.aload_n 0) 7 := ⟨rfl, rfl, rfl⟩
theorem z47_7 : za_f 47 7 2 2 10 := ⟨15, 9, .null, ⟨rfl, rfl, rfl⟩, rfl, Or.inr (Or.inr rfl)⟩
theorem z47_10 : za 47 10 (.iload_n 1) 11 := ⟨rfl, rfl, rfl⟩
theorem z47_11 : za 47 11 (.iaload) 12 := ⟨rfl, rfl, rfl⟩
theorem z47_12 : za 47 12 (.istore_n 3) 13 := ⟨rfl, rfl, rfl⟩
theorem z47_13 : za 47 13 (.iconst 0) 14 := ⟨rfl, rfl, rfl⟩
theorem z47_14 : za 47 14 (.istore 4) 16 := ⟨rfl, rfl, rfl⟩
theorem z47_16 : za 47 16 (.iload 4) 18 := ⟨rfl, rfl, rfl⟩
theorem z47_18 : za 47 18 (.iload_n 2) 19 := ⟨rfl, rfl, rfl⟩
theorem z47_19 : zb (.if_icmp .ge) 47 19 39 22 := ⟨20, ⟨rfl, rfl, rfl⟩, rfl⟩
theorem z47_22 : za 47 22 (.iload_n 3) 23 := ⟨rfl, rfl, rfl⟩
theorem z47_23 : zb (.ifCond .lt) 47 23 39 26 := ⟨16, ⟨rfl, rfl, rfl⟩, rfl⟩
theorem z47_26 : za 47 26 (.aload_n 0) 27 := ⟨rfl, rfl, rfl⟩
theorem z47_27 : za_f 47 27 2 1 30 := ⟨9, 9, .null, ⟨rfl, rfl, rfl⟩, rfl, Or.inr (Or.inr rfl)⟩
theorem z47_30 : za 47 30 (.iload_n 3) 31 := ⟨rfl, rfl, rfl⟩
theorem z47_31 : za 47 31 (.iaload) 32 := ⟨rfl, rfl, rfl⟩
theorem z47_32 : za 47 32 (.istore_n 3) 33 := ⟨rfl, rfl, rfl⟩
theorem z47_33 : za 47 33 (.iinc 4 (1)) 36 := ⟨rfl, rfl, rfl⟩
theorem z47_36 : zb (.goto) 47 36 16 39 := ⟨(-20), ⟨rfl, rfl, rfl⟩, rfl⟩
theorem z47_39 : za 47 39 (.iload_n 3) 40 := ⟨rfl, rfl, rfl⟩
theorem z47_40 : zb (.ifCond .lt) 47 40 47 43 := ⟨7, ⟨rfl, rfl, rfl⟩, rfl⟩
theorem z47_43 : za 47 43 (.iload_n 3) 44 := ⟨rfl, rfl, rfl⟩
theorem z47_44 : zb (.goto) 47 44 48 47 := ⟨4, ⟨rfl, rfl, rfl⟩, rfl⟩
theorem z47_47 : za 47 47 (.iconst (-1)) 48 := ⟨rfl, rfl, rfl⟩
theorem z47_48 : za 47 48 (.ireturn) 49 := ⟨rfl, rfl, rfl⟩
theorem z48_0 : za 48 0 (.iload_n 1) 1 := ⟨rfl, rfl, rfl⟩
theorem z48_1 : za 48 1 (.aload_n 0) 2 := ⟨rfl, rfl, rfl⟩
theorem z48_2 : za_f 48 2 2 0 5 := ⟨21, 9, .null, ⟨rfl, rfl, rfl⟩, rfl, Or.inr (Or.inr rfl)⟩
theorem z48_5 : za_f 48 5 1 4 8 := ⟨53, 0, .null, ⟨rfl, rfl, rfl⟩, rfl, Or.inl rfl⟩
theorem z48_8 : zb (.if_icmp .ge) 48 8 20 11 := ⟨12, ⟨rfl, rfl, rfl⟩, rfl⟩
theorem z48_11 : za 48 11 (.aload_n 0) 12 := ⟨rfl, rfl, rfl⟩
theorem z48_12 : za_f 48 12 2 3 15 := ⟨18, 9, .null, ⟨rfl, rfl, rfl⟩, rfl, Or.inr (Or.inr rfl)⟩
theorem z48_15 : za 48 15 (.iload_n 1) 16 := ⟨rfl, rfl, rfl⟩
theorem z48_16 : za 48 16 (.iaload) 17 := ⟨rfl, rfl, rfl⟩
theorem z48_17 : zb (.ifCond .ne) 48 17 22 20 := ⟨5, ⟨rfl, rfl, rfl⟩, rfl⟩
theorem z48_20 : za 48 20 (.iconst (-1)) 21 := ⟨rfl, rfl, rfl⟩
theorem z48_21 : za 48 21 (.ireturn) 22 := ⟨rfl, rfl, rfl⟩
theorem z48_22 : za 48 22 (.aload_n 0) 23 := ⟨rfl, rfl, rfl⟩
theorem z48_23 : za_f 48 23 2 0 26 := ⟨21, 9, .null, ⟨rfl, rfl, rfl⟩, rfl, Or.inr (Or.inr rfl)⟩
theorem z48_26 : za_f 48 26 1 4 29 := ⟨53, 0, .null, ⟨rfl, rfl, rfl⟩, rfl, Or.inl rfl⟩
theorem z48_29 : za 48 29 (.aload_n 0) 30 := ⟨rfl, rfl, rfl⟩
theorem z48_30 : za_f 48 30 2 3 33 := ⟨18, 9, .null, ⟨rfl, rfl, rfl⟩, rfl, Or.inr (Or.inr rfl)⟩
theorem z48_33 : za 48 33 (.iload_n 1) 34 := ⟨rfl, rfl, rfl⟩
theorem z48_34 : za 48 34 (.iaload) 35 := ⟨rfl, rfl, rfl⟩
theorem z48_35 : za 48 35 (.iconst 1) 36 := ⟨rfl, rfl, rfl⟩
theorem z48_36 : za 48 36 (.isub) 37 := ⟨rfl, rfl, rfl⟩
theorem z48_37 : za 48 37 (.imul) 38 := ⟨rfl, rfl, rfl⟩
theorem z48_38 : za 48 38 (.iload_n 1) 39 := ⟨rfl, rfl, rfl⟩
theorem z48_39 : za 48 39 (.iadd) 40 := ⟨rfl, rfl, rfl⟩
theorem z48_40 : za 48 40 (.ireturn) 41 := ⟨rfl, rfl, rfl⟩
theorem z49_0 : za 49 0 (.iload_n 3) 1 := ⟨rfl, rfl, rfl⟩
theorem z49_1 : za 49 1 (.iconst 1) 2 := ⟨rfl, rfl, rfl⟩
theorem z49_2 : zb (.if_icmp .ne) 49 2 14 5 := ⟨12, ⟨rfl, rfl, rfl⟩, rfl⟩
theorem z49_5 : za 49 5 (.aload_n 0) 6 := ⟨rfl, rfl, rfl⟩
theorem z49_6 : za 49 6 (.iload_n 1) 7 := ⟨rfl, rfl, rfl⟩
theorem z49_7 : za 49 7 (.iload_n 2) 8 := ⟨rfl, rfl, rfl⟩
theorem z49_8 : za_v 49 8 50 2 2 11 := ⟨56, ⟨rfl, rfl, rfl⟩, rfl⟩
theorem z49_11 : zb (.goto) 49 11 34 14 := ⟨23, ⟨rfl, rfl, rfl⟩, rfl⟩
theorem z49_14 : za 49 14 (.iload_n 3) 15 := ⟨rfl, rfl, rfl⟩
theorem z49_15 : za 49 15 (.iconst 1) 16 := ⟨rfl, rfl, rfl⟩
theorem z49_16 : zb (.if_icmp .le) 49 16 33 19 := ⟨17, ⟨rfl, rfl, rfl⟩, rfl⟩
theorem z49_19 : za 49 19 (.aload_n 0) 20 := ⟨rfl, rfl, rfl⟩
theorem z49_20 : za 49 20 (.iload_n 1) 21 := ⟨rfl, rfl, rfl⟩
theorem z49_21 : za 49 21 (.iload_n 2) 22 := ⟨rfl, rfl, rfl⟩
theorem z49_22 : za 49 22 (.iload_n 3) 23 := ⟨rfl, rfl, rfl⟩
theorem z49_23 : za_v 49 23 51 3 2 26 := ⟨60, ⟨rfl, rfl, rfl⟩, rfl⟩
theorem z49_26 : zb (.ifCond .eq) 49 26 33 29 := ⟨7, ⟨rfl, rfl, rfl⟩, rfl⟩
theorem z49_29 : za 49 29 (.iconst 1) 30 := ⟨rfl, rfl, rfl⟩
theorem z49_30 : zb (.goto) 49 30 34 33 := ⟨4, ⟨rfl, rfl, rfl⟩, rfl⟩
theorem z49_33 : za 49 33 (.iconst 0) 34 := ⟨rfl, rfl, rfl⟩
theorem z49_34 : za 49 34 (.ireturn) 35 := ⟨rfl, rfl, rfl⟩
theorem z50_0 : za 50 0 (.aload_n 0) 1 := ⟨rfl, rfl, rfl⟩
theorem z50_1 : za_f 50 1 2 2 4 := ⟨15, 9, .null, ⟨rfl, rfl, rfl⟩, rfl, Or.inr (Or.inr rfl)⟩
theorem z50_4 : za 50 4 (.iload_n 1) 5 := ⟨rfl, rfl, rfl⟩
theorem z50_5 : za 50 5 (.iaload) 6 := ⟨rfl, rfl, rfl⟩
theorem z50_6 : za 50 6 (.istore_n 3) 7 := ⟨rfl, rfl, rfl⟩
theorem z50_7 : za 50 7 (.iload_n 3) 8 := ⟨rfl, rfl, rfl⟩
theorem z50_8 : za 50 8 (.iconst (-1)) 9 := ⟨rfl, rfl, rfl⟩
theorem z50_9 : zb (.if_icmp .eq) 50 9 17 12 := ⟨8, ⟨rfl, rfl, rfl⟩, rfl⟩
theorem z50_12 : za 50 12 (.iload_n 1) 13 := ⟨rfl, rfl, rfl⟩
theorem z50_13 : za 50 13 (.iload_n 2) 14 := ⟨rfl, rfl, rfl⟩
theorem z50_14 : zb (.if_icmp .ne) 50 14 19 17 := ⟨5, ⟨rfl, rfl, rfl⟩, rfl⟩
theorem z50_17 : za 50 17 (.iconst 0) 18 := ⟨rfl, rfl, rfl⟩
theorem z50_18 : za 50 18 (.ireturn) 19 := ⟨rfl, rfl, rfl⟩
theorem z50_19 : za 50 19 (.aload_n 0) 20 := ⟨rfl, rfl, rfl⟩
theorem z50_20 : za_f 50 20 2 0 23 := ⟨21, 9, .null, ⟨rfl, rfl, rfl⟩, rfl, Or.inr (Or.inr rfl)⟩
theorem z50_23 : za 50 23 (.iload_n 2) 24 := ⟨rfl, rfl, rfl⟩
theorem z50_24 : za_v 50 24 29 1 1 27 := ⟨64, ⟨rfl, rfl, rfl⟩, rfl⟩
theorem z50_27 : zb (.ifCond .eq) 50 27 37 30 := ⟨10, ⟨rfl, rfl, rfl⟩, rfl⟩
theorem z50_30 : za 50 30 (.aload_n 0) 31 := ⟨rfl, rfl, rfl⟩
theorem z50_31 : za 50 31 (.iload_n 2) 32 := ⟨rfl, rfl, rfl⟩
theorem z50_32 : za 50 32 (.iload_n 3) 33 := ⟨rfl, rfl, rfl⟩
theorem z50_33 : za_v 50 33 52 2 2 36 := ⟨68, ⟨rfl, rfl, rfl⟩, rfl⟩
theorem z50_36 : za 50 36 (.ireturn) 37 := ⟨rfl, rfl, rfl⟩
theorem z50_37 : za 50 37 (.aload_n 0) 38 := ⟨rfl, rfl, rfl⟩
theorem z50_38 : za_f 50 38 2 0 41 := ⟨21, 9, .null, ⟨rfl, rfl, rfl⟩, rfl, Or.inr (Or.inr rfl)⟩
theorem z50_41 : za 50 41 (.iload_n 2) 42 := ⟨rfl, rfl, rfl⟩
theorem z50_42 : za_v 50 42 30 1 1 45 := ⟨71, ⟨rfl, rfl, rfl⟩, rfl⟩
theorem z50_45 : zb (.ifCond .eq) 50 45 75 48 := ⟨30, ⟨rfl, rfl, rfl⟩, rfl⟩
theorem z50_48 : za 50 48 (.aload_n 0) 49 := ⟨rfl, rfl, rfl⟩
theorem z50_49 : za_f 50 49 2 0 52 := ⟨21, 9, .null, ⟨rfl, rfl, rfl⟩, rfl, Or.inr (Or.inr rfl)⟩
theorem z50_52 : za 50 52 (.iload_n 1) 53 := ⟨rfl, rfl, rfl⟩
theorem z50_53 : za_v 50 53 29 1 1 56 := ⟨64, ⟨rfl, rfl, rfl⟩, rfl⟩
theorem z50_56 : zb (.ifCond .eq) 50 56 73 59 := ⟨17, ⟨rfl, rfl, rfl⟩, rfl⟩
theorem z50_59 : za 50 59 (.aload_n 0) 60 := ⟨rfl, rfl, rfl⟩
theorem z50_60 : za_f 50 60 2 2 63 := ⟨15, 9, .null, ⟨rfl, rfl, rfl⟩, rfl, Or.inr (Or.inr rfl)⟩
theorem z50_63 : za 50 63 (.iload_n 2) 64 := ⟨rfl, rfl, rfl⟩
theorem z50_64 : za 50 64 (.iaload) 65 := ⟨rfl, rfl, rfl⟩
theorem z50_65 : za 50 65 (.iconst (-1)) 66 := ⟨rfl, rfl, rfl⟩
theorem z50_66 : zb (.if_icmp .ne) 50 66 73 69 := ⟨7, ⟨rfl, rfl, rfl⟩, rfl⟩
theorem z50_69 : za 50 69 (.iconst 1) 70 := ⟨rfl, rfl, rfl⟩
theorem z50_70 : zb (.goto) 50 70 74 73 := ⟨4, ⟨rfl, rfl, rfl⟩, rfl⟩
theorem z50_73 : za 50 73 (.iconst 0) 74 := ⟨rfl, rfl, rfl⟩
theorem z50_74 : za 50 74 (.ireturn) 75 := ⟨rfl, rfl, rfl⟩
theorem z50_75 : za 50 75 (.iload_n 2) 76 := ⟨rfl, rfl, rfl⟩
theorem z50_76 : za 50 76 (.bipush (12)) 78 := ⟨rfl, rfl, rfl⟩
theorem z50_78 : zb (.if_icmp .ne) 50 78 93 81 := ⟨15, ⟨rfl, rfl, rfl⟩, rfl⟩
theorem z50_81 : za 50 81 (.aload_n 0) 82 := ⟨rfl, rfl, rfl⟩
theorem z50_82 : za 50 82 (.iload_n 3) 83 := ⟨rfl, rfl, rfl⟩
theorem z50_83 : za_v 50 83 57 1 2 86 := ⟨74, ⟨rfl, rfl, rfl⟩, rfl⟩
theorem z50_86 : zb (.ifCond .eq) 50 86 93 89 := ⟨7, ⟨rfl, rfl, rfl⟩, rfl⟩
theorem z50_89 : za 50 89 (.iconst 1) 90 := ⟨rfl, rfl, rfl⟩
theorem z50_90 : zb (.goto) 50 90 94 93 := ⟨4, ⟨rfl, rfl, rfl⟩, rfl⟩
theorem z50_93 : za 50 93 (.iconst 0) 94 := ⟨rfl, rfl, rfl⟩
theorem z50_94 : za 50 94 (.ireturn) 95 := ⟨rfl, rfl, rfl⟩
theorem z51_0 : za 51 0 (.aload_n 0) 1 := ⟨rfl, rfl, rfl⟩
theorem z51_1 : za_f 51 1 2 0 4 := ⟨21, 9, .null, ⟨rfl, rfl, rfl⟩, rfl, Or.inr (Or.inr rfl)⟩
theorem z51_4 : za 51 4 (.iload_n 1) 5 := ⟨rfl, rfl, rfl⟩
theorem z51_5 : za_v 51 5 29 1 1 8 := ⟨64, ⟨rfl, rfl, rfl⟩, rfl⟩
theorem z51_8 : zb (.ifCond .eq) 51 8 65 11 := ⟨57, ⟨rfl, rfl, rfl⟩, rfl⟩
theorem z51_11 : za 51 11 (.aload_n 0) 12 := ⟨rfl, rfl, rfl⟩
theorem z51_12 : za_f 51 12 2 0 15 := ⟨21, 9, .null, ⟨rfl, rfl, rfl⟩, rfl, Or.inr (Or.inr rfl)⟩
theorem z51_15 : za 51 15 (.iload_n 2) 16 := ⟨rfl, rfl, rfl⟩
theorem z51_16 : za_v 51 16 29 1 1 19 := ⟨64, ⟨rfl, rfl, rfl⟩, rfl⟩
theorem z51_19 : zb (.ifCond .eq) 51 19 65 22 := ⟨46, ⟨rfl, rfl, rfl⟩, rfl⟩
theorem z51_22 : za 51 22 (.iload_n 1) 23 := ⟨rfl, rfl, rfl⟩
theorem z51_23 : za 51 23 (.iload_n 2) 24 := ⟨rfl, rfl, rfl⟩
theorem z51_24 : zb (.if_icmp .eq) 51 24 65 27 := ⟨41, ⟨rfl, rfl, rfl⟩, rfl⟩
theorem z51_27 : za 51 27 (.iload_n 3) 28 := ⟨rfl, rfl, rfl⟩
theorem z51_28 : za 51 28 (.aload_n 0) 29 := ⟨rfl, rfl, rfl⟩
theorem z51_29 : za 51 29 (.iload_n 1) 30 := ⟨rfl, rfl, rfl⟩
theorem z51_30 : za_v 51 30 53 1 2 33 := ⟨77, ⟨rfl, rfl, rfl⟩, rfl⟩
theorem z51_33 : zb (.if_icmp .gt) 51 33 65 36 := ⟨32, ⟨rfl, rfl, rfl⟩, rfl⟩
theorem z51_36 : za 51 36 (.iload_n 3) 37 := ⟨rfl, rfl, rfl⟩
theorem z51_37 : za 51 37 (.aload_n 0) 38 := ⟨rfl, rfl, rfl⟩
theorem z51_38 : za 51 38 (.iload_n 2) 39 := ⟨rfl, rfl, rfl⟩
theorem z51_39 : za_v 51 39 54 1 2 42 := ⟨81, ⟨rfl, rfl, rfl⟩, rfl⟩
theorem z51_42 : zb (.if_icmp .gt) 51 42 65 45 := ⟨23, ⟨rfl, rfl, rfl⟩, rfl⟩
theorem z51_45 : za 51 45 (.aload_n 0) 46 := ⟨rfl, rfl, rfl⟩
theorem z51_46 : za 51 46 (.iload_n 2) 47 := ⟨rfl, rfl, rfl⟩
theorem z51_47 : za 51 47 (.aload_n 0) 48 := ⟨rfl, rfl, rfl⟩
theorem z51_48 : za 51 48 (.iload_n 1) 49 := ⟨rfl, rfl, rfl⟩
theorem z51_49 : za 51 49 (.iload_n 3) 50 := ⟨rfl, rfl, rfl⟩
theorem z51_50 : za 51 50 (.iconst 1) 51 := ⟨rfl, rfl, rfl⟩
theorem z51_51 : za 51 51 (.isub) 52 := ⟨rfl, rfl, rfl⟩
theorem z51_52 : za_v 51 52 47 2 2 55 := ⟨84, ⟨rfl, rfl, rfl⟩, rfl⟩
theorem z51_55 : za_v 51 55 52 2 2 58 := ⟨68, ⟨rfl, rfl, rfl⟩, rfl⟩
theorem z51_58 : zb (.ifCond .eq) 51 58 65 61 := ⟨7, ⟨rfl, rfl, rfl⟩, rfl⟩
theorem z51_61 : za 51 61 (.iconst 1) 62 := ⟨rfl, rfl, rfl⟩
theorem z51_62 : zb (.goto) 51 62 66 65 := ⟨4, ⟨rfl, rfl, rfl⟩, rfl⟩
theorem z51_65 : za 51 65 (.iconst 0) 66 := ⟨rfl, rfl, rfl⟩
theorem z51_66 : za 51 66 (.ireturn) 67 := ⟨rfl, rfl, rfl⟩
theorem z52_0 : za 52 0 (.aload_n 0) 1 := ⟨rfl, rfl, rfl⟩
theorem z52_1 : za_f 52 1 2 2 4 := ⟨15, 9, .null, ⟨rfl, rfl, rfl⟩, rfl, Or.inr (Or.inr rfl)⟩
theorem z52_4 : za 52 4 (.iload_n 1) 5 := ⟨rfl, rfl, rfl⟩
theorem z52_5 : za 52 5 (.iaload) 6 := ⟨rfl, rfl, rfl⟩
theorem z52_6 : za 52 6 (.iconst (-1)) 7 := ⟨rfl, rfl, rfl⟩
theorem z52_7 : zb (.if_icmp .ne) 52 7 21 10 := ⟨14, ⟨rfl, rfl, rfl⟩, rfl⟩
theorem z52_10 : za 52 10 (.aload_n 0) 11 := ⟨rfl, rfl, rfl⟩
theorem z52_11 : za_f 52 11 2 0 14 := ⟨21, 9, .null, ⟨rfl, rfl, rfl⟩, rfl, Or.inr (Or.inr rfl)⟩
theorem z52_14 : za 52 14 (.iload_n 2) 15 := ⟨rfl, rfl, rfl⟩
theorem z52_15 : za_v 52 15 38 1 1 18 := ⟨88, ⟨rfl, rfl, rfl⟩, rfl⟩
theorem z52_18 : zb (.goto) 52 18 35 21 := ⟨17, ⟨rfl, rfl, rfl⟩, rfl⟩
theorem z52_21 : za 52 21 (.aload_n 0) 22 := ⟨rfl, rfl, rfl⟩
theorem z52_22 : za_f 52 22 2 0 25 := ⟨21, 9, .null, ⟨rfl, rfl, rfl⟩, rfl, Or.inr (Or.inr rfl)⟩
theorem z52_25 : za 52 25 (.iload_n 2) 26 := ⟨rfl, rfl, rfl⟩
theorem z52_26 : za 52 26 (.aload_n 0) 27 := ⟨rfl, rfl, rfl⟩
theorem z52_27 : za_f 52 27 2 2 30 := ⟨15, 9, .null, ⟨rfl, rfl, rfl⟩, rfl, Or.inr (Or.inr rfl)⟩
theorem z52_30 : za 52 30 (.iload_n 1) 31 := ⟨rfl, rfl, rfl⟩
theorem z52_31 : za 52 31 (.iaload) 32 := ⟨rfl, rfl, rfl⟩
theorem z52_32 : za_v 52 32 37 2 1 35 := ⟨91, ⟨rfl, rfl, rfl⟩, rfl⟩
theorem z52_35 : za 52 35 (.ireturn) 36 := ⟨rfl, rfl, rfl⟩
theorem z53_0 : za 53 0 (.aload_n 0) 1 := ⟨rfl, rfl, rfl⟩
theorem z53_1 : za_f 53 1 2 2 4 := ⟨15, 9, .null, ⟨rfl, rfl, rfl⟩, rfl, Or.inr (Or.inr rfl)⟩
theorem z53_4 : za 53 4 (.iload_n 1) 5 := ⟨rfl, rfl, rfl⟩
theorem z53_5 : za 53 5 (.iaload) 6 := ⟨rfl, rfl, rfl⟩
theorem z53_6 : za 53 6 (.istore_n 2) 7 := ⟨rfl, rfl, rfl⟩
theorem z53_7 : za 53 7 (.iload_n 2) 8 := ⟨rfl, rfl, rfl⟩
theorem z53_8 : za 53 8 (.iconst (-1)) 9 := ⟨rfl, rfl, rfl⟩
theorem z53_9 : zb (.if_icmp .ne) 53 9 14 12 := ⟨5, ⟨rfl, rfl, rfl⟩, rfl⟩
theorem z53_12 : za 53 12 (.iconst 0) 13 := ⟨rfl, rfl, rfl⟩
theorem z53_13 : za 53 13 (.ireturn) 14 := ⟨rfl, rfl, rfl⟩
theorem z53_14 : za 53 14 (.iconst 1) 15 := ⟨rfl, rfl, rfl⟩
theorem z53_15 : za 53 15 (.istore_n 3) 16 := ⟨rfl, rfl, rfl⟩
theorem z53_16 : za 53 16 (.iload_n 3) 17 := ⟨rfl, rfl, rfl⟩
theorem z53_17 : za 53 17 (.bipush (13)) 19 := ⟨rfl, rfl, rfl⟩
theorem z53_19 : zb (.if_icmp .ge) 53 19 61 22 := ⟨42, ⟨rfl, rfl, rfl⟩, rfl⟩
theorem z53_22 : za 53 22 (.aload_n 0) 23 := ⟨rfl, rfl, rfl⟩
theorem z53_23 : za_f 53 23 2 1 26 := ⟨9, 9, .null, ⟨rfl, rfl, rfl⟩, rfl, Or.inr (Or.inr rfl)⟩
theorem z53_26 : za 53 26 (.iload_n 2) 27 := ⟨rfl, rfl, rfl⟩
theorem z53_27 : za 53 27 (.iaload) 28 := ⟨rfl, rfl, rfl⟩
theorem z53_28 : zb (.ifCond .lt) 53 28 61 31 := ⟨33, ⟨rfl, rfl, rfl⟩, rfl⟩
theorem z53_31 : za 53 31 (.aload_n 0) 32 := ⟨rfl, rfl, rfl⟩
theorem z53_32 : za_f 53 32 2 0 35 := ⟨21, 9, .null, ⟨rfl, rfl, rfl⟩, rfl, Or.inr (Or.inr rfl)⟩
theorem z53_35 : za 53 35 (.iload_n 2) 36 := ⟨rfl, rfl, rfl⟩
theorem z53_36 : za 53 36 (.aload_n 0) 37 := ⟨rfl, rfl, rfl⟩
theorem z53_37 : za_f 53 37 2 1 40 := ⟨9, 9, .null, ⟨rfl, rfl, rfl⟩, rfl, Or.inr (Or.inr rfl)⟩
theorem z53_40 : za 53 40 (.iload_n 2) 41 := ⟨rfl, rfl, rfl⟩
theorem z53_41 : za 53 41 (.iaload) 42 := ⟨rfl, rfl, rfl⟩
theorem z53_42 : za_v 53 42 37 2 1 45 := ⟨91, ⟨rfl, rfl, rfl⟩, rfl⟩
theorem z53_45 : zb (.ifCond .eq) 53 45 61 48 := ⟨16, ⟨rfl, rfl, rfl⟩, rfl⟩
theorem z53_48 : za 53 48 (.aload_n 0) 49 := ⟨rfl, rfl, rfl⟩
theorem z53_49 : za_f 53 49 2 1 52 := ⟨9, 9, .null, ⟨rfl, rfl, rfl⟩, rfl, Or.inr (Or.inr rfl)⟩
theorem z53_52 : za 53 52 (.iload_n 2) 53 := ⟨rfl, rfl, rfl⟩
theorem z53_53 : za 53 53 (.iaload) 54 := ⟨rfl, rfl, rfl⟩
theorem z53_54 : za 53 54 (.istore_n 2) 55 := ⟨rfl, rfl, rfl⟩
theorem z53_55 : za 53 55 (.iinc 3 (1)) 58 := ⟨rfl, rfl, rfl⟩
theorem z53_58 : zb (.goto) 53 58 16 61 := ⟨(-42), ⟨rfl, rfl, rfl⟩, rfl⟩
theorem z53_61 : za 53 61 (.iload_n 3) 62 := ⟨rfl, rfl, rfl⟩
theorem z53_62 : za 53 62 (.ireturn) 63 := ⟨rfl, rfl, rfl⟩
theorem z54_0 : za 54 0 (.aload_n 0) 1 := ⟨rfl, rfl, rfl⟩
theorem z54_1 : za 54 1 (.bipush (8)) 3 := ⟨rfl, rfl, rfl⟩
theorem z54_3 : za 54 3 (.aload_n 0) 4 := ⟨rfl, rfl, rfl⟩
theorem z54_4 : za_f 54 4 2 0 7 := ⟨21, 9, .null, ⟨rfl, rfl, rfl⟩, rfl, Or.inr (Or.inr rfl)⟩
theorem z54_7 : za_f 54 7 1 1 10 := ⟨94, 0, .null, ⟨rfl, rfl, rfl⟩, rfl, Or.inl rfl⟩
theorem z54_10 : za_v 54 10 55 2 2 13 := ⟨97, ⟨rfl, rfl, rfl⟩, rfl⟩
theorem z54_13 : za 54 13 (.istore_n 2) 14 := ⟨rfl, rfl, rfl⟩
theorem z54_14 : za 54 14 (.aload_n 0) 15 := ⟨rfl, rfl, rfl⟩
theorem z54_15 : za_f 54 15 2 0 18 := ⟨21, 9, .null, ⟨rfl, rfl, rfl⟩, rfl, Or.inr (Or.inr rfl)⟩
theorem z54_18 : za_f 54 18 1 3 21 := ⟨100, 0, .null, ⟨rfl, rfl, rfl⟩, rfl, Or.inl rfl⟩
theorem z54_21 : zb (.ifCond .eq) 54 21 28 24 := ⟨7, ⟨rfl, rfl, rfl⟩, rfl⟩
theorem z54_24 : za 54 24 (.iload_n 2) 25 := ⟨rfl, rfl, rfl⟩
theorem z54_25 : za 54 25 (.iconst 1) 26 := ⟨rfl, rfl, rfl⟩
theorem z54_26 : za 54 26 (.iadd) 27 := ⟨rfl, rfl, rfl⟩
theorem z54_27 : za 54 27 (.ireturn) 28 := ⟨rfl, rfl, rfl⟩
theorem z54_28 : za 54 28 (.aload_n 0) 29 := ⟨rfl, rfl, rfl⟩
theorem z54_29 : za 54 29 (.iconst 0) 30 := ⟨rfl, rfl, rfl⟩
theorem z54_30 : za 54 30 (.aload_n 0) 31 := ⟨rfl, rfl, rfl⟩
theorem z54_31 : za_f 54 31 2 0 34 := ⟨21, 9, .null, ⟨rfl, rfl, rfl⟩, rfl, Or.inr (Or.inr rfl)⟩
theorem z54_34 : za_f 54 34 1 0 37 := ⟨102, 0, .null, ⟨rfl, rfl, rfl⟩, rfl, Or.inl rfl⟩
theorem z54_37 : za_v 54 37 55 2 2 40 := ⟨97, ⟨rfl, rfl, rfl⟩, rfl⟩
theorem z54_40 : za 54 40 (.istore_n 3) 41 := ⟨rfl, rfl, rfl⟩
theorem z54_41 : za 54 41 (.aload_n 0) 42 := ⟨rfl, rfl, rfl⟩
theorem z54_42 : za_f 54 42 2 2 45 := ⟨15, 9, .null, ⟨rfl, rfl, rfl⟩, rfl, Or.inr (Or.inr rfl)⟩
theorem z54_45 : za 54 45 (.iload_n 1) 46 := ⟨rfl, rfl, rfl⟩
theorem z54_46 : za 54 46 (.iaload) 47 := ⟨rfl, rfl, rfl⟩
theorem z54_47 : za 54 47 (.iconst (-1)) 48 := ⟨rfl, rfl, rfl⟩
theorem z54_48 : zb (.if_icmp .ne) 54 48 57 51 := ⟨9, ⟨rfl, rfl, rfl⟩, rfl⟩
theorem z54_51 : za 54 51 (.iload_n 3) 52 := ⟨rfl, rfl, rfl⟩
theorem z54_52 : za 54 52 (.iconst 1) 53 := ⟨rfl, rfl, rfl⟩
theorem z54_53 : za 54 53 (.isub) 54 := ⟨rfl, rfl, rfl⟩
theorem z54_54 : zb (.goto) 54 54 58 57 := ⟨4, ⟨rfl, rfl, rfl⟩, rfl⟩
theorem z54_57 : za 54 57 (.iload_n 3) 58 := ⟨rfl, rfl, rfl⟩
theorem z54_58 : za 54 58 (.istore 4) 60 := ⟨rfl, rfl, rfl⟩
theorem z54_60 : za 54 60 (.iload_n 2) 61 := ⟨rfl, rfl, rfl⟩
theorem z54_61 : za 54 61 (.iconst 1) 62 := ⟨rfl, rfl, rfl⟩
theorem z54_62 : za 54 62 (.iadd) 63 := ⟨rfl, rfl, rfl⟩
theorem z54_63 : za 54 63 (.iload 4) 65 := ⟨rfl, rfl, rfl⟩
theorem z54_65 : za 54 65 (.ishl) 66 := ⟨rfl, rfl, rfl⟩
theorem z54_66 : za 54 66 (.ireturn) 67 := ⟨rfl, rfl, rfl⟩
theorem z55_0 : za 55 0 (.iconst 0) 1 := ⟨rfl, rfl, rfl⟩
theorem z55_1 : za 55 1 (.istore_n 3) 2 := ⟨rfl, rfl, rfl⟩
theorem z55_2 : za 55 2 (.iload_n 1) 3 := ⟨rfl, rfl, rfl⟩
theorem z55_3 : za 55 3 (.istore 4) 5 := ⟨rfl, rfl, rfl⟩
theorem z55_5 : za 55 5 (.iload 4) 7 := ⟨rfl, rfl, rfl⟩
theorem z55_7 : za 55 7 (.iload_n 1) 8 := ⟨rfl, rfl, rfl⟩
theorem z55_8 : za 55 8 (.iload_n 2) 9 := ⟨rfl, rfl, rfl⟩
theorem z55_9 : za 55 9 (.iadd) 10 := ⟨rfl, rfl, rfl⟩
theorem z55_10 : zb (.if_icmp .ge) 55 10 33 13 := ⟨23, ⟨rfl, rfl, rfl⟩, rfl⟩
theorem z55_13 : za 55 13 (.aload_n 0) 14 := ⟨rfl, rfl, rfl⟩
theorem z55_14 : za_f 55 14 2 2 17 := ⟨15, 9, .null, ⟨rfl, rfl, rfl⟩, rfl, Or.inr (Or.inr rfl)⟩
theorem z55_17 : za 55 17 (.iload 4) 19 := ⟨rfl, rfl, rfl⟩
theorem z55_19 : za 55 19 (.iaload) 20 := ⟨rfl, rfl, rfl⟩
theorem z55_20 : za 55 20 (.iconst (-1)) 21 := ⟨rfl, rfl, rfl⟩
theorem z55_21 : zb (.if_icmp .ne) 55 21 27 24 := ⟨6, ⟨rfl, rfl, rfl⟩, rfl⟩
theorem z55_24 : za 55 24 (.iinc 3 (1)) 27 := ⟨rfl, rfl, rfl⟩
theorem z55_27 : za 55 27 (.iinc 4 (1)) 30 := ⟨rfl, rfl, rfl⟩
theorem z55_30 : zb (.goto) 55 30 5 33 := ⟨(-25), ⟨rfl, rfl, rfl⟩, rfl⟩
theorem z55_33 : za 55 33 (.iload_n 3) 34 := ⟨rfl, rfl, rfl⟩
theorem z55_34 : za 55 34 (.ireturn) 35 := ⟨rfl, rfl, rfl⟩
theorem z56_0 : za 56 0 (.aload_n 0) 1 := ⟨rfl, rfl, rfl⟩
theorem z56_1 : za 56 1 (.iload_n 1) 2 := ⟨rfl, rfl, rfl⟩
theorem z56_2 : za_v 56 2 53 1 2 5 := ⟨77, ⟨rfl, rfl, rfl⟩, rfl⟩
theorem z56_5 : za 56 5 (.istore_n 3) 6 := ⟨rfl, rfl, rfl⟩
theorem z56_6 : za 56 6 (.iload_n 3) 7 := ⟨rfl, rfl, rfl⟩
theorem z56_7 : zb (.ifCond .le) 56 7 28 10 := ⟨21, ⟨rfl, rfl, rfl⟩, rfl⟩
theorem z56_10 : za 56 10 (.aload_n 0) 11 := ⟨rfl, rfl, rfl⟩
theorem z56_11 : za 56 11 (.iload_n 1) 12 := ⟨rfl, rfl, rfl⟩
theorem z56_12 : za 56 12 (.iload_n 2) 13 := ⟨rfl, rfl, rfl⟩
theorem z56_13 : za 56 13 (.iload_n 3) 14 := ⟨rfl, rfl, rfl⟩
theorem z56_14 : za_v 56 14 49 3 2 17 := ⟨105, ⟨rfl, rfl, rfl⟩, rfl⟩
theorem z56_17 : zb (.ifCond .eq) 56 17 22 20 := ⟨5, ⟨rfl, rfl, rfl⟩, rfl⟩
theorem z56_20 : za 56 20 (.iload_n 3) 21 := ⟨rfl, rfl, rfl⟩
theorem z56_21 : za 56 21 (.ireturn) 22 := ⟨rfl, rfl, rfl⟩
theorem z56_22 : za 56 22 (.iinc 3 (-1)) 25 := ⟨rfl, rfl, rfl⟩
theorem z56_25 : zb (.goto) 56 25 6 28 := ⟨(-19), ⟨rfl, rfl, rfl⟩, rfl⟩
theorem z56_28 : za 56 28 (.iconst 0) 29 := ⟨rfl, rfl, rfl⟩
theorem z56_29 : za 56 29 (.ireturn) 30 := ⟨rfl, rfl, rfl⟩
theorem z57_0 : za 57 0 (.aload_n 0) 1 := ⟨rfl, rfl, rfl⟩
theorem z57_1 : za_f 57 1 2 0 4 := ⟨21, 9, .null, ⟨rfl, rfl, rfl⟩, rfl, Or.inr (Or.inr rfl)⟩
theorem z57_4 : za 57 4 (.iload_n 1) 5 := ⟨rfl, rfl, rfl⟩
theorem z57_5 : za_v 57 5 34 1 1 8 := ⟨108, ⟨rfl, rfl, rfl⟩, rfl⟩
theorem z57_8 : za 57 8 (.aload_n 0) 9 := ⟨rfl, rfl, rfl⟩
theorem z57_9 : za_f 57 9 2 3 12 := ⟨18, 9, .null, ⟨rfl, rfl, rfl⟩, rfl, Or.inr (Or.inr rfl)⟩
theorem z57_12 : za 57 12 (.aload_n 0) 13 := ⟨rfl, rfl, rfl⟩
theorem z57_13 : za_f 57 13 2 0 16 := ⟨21, 9, .null, ⟨rfl, rfl, rfl⟩, rfl, Or.inr (Or.inr rfl)⟩
theorem z57_16 : za 57 16 (.iload_n 1) 17 := ⟨rfl, rfl, rfl⟩
theorem z57_17 : za_v 57 17 35 1 1 20 := ⟨111, ⟨rfl, rfl, rfl⟩, rfl⟩
theorem z57_20 : za 57 20 (.iaload) 21 := ⟨rfl, rfl, rfl⟩
theorem z57_21 : za 57 21 (.iconst 1) 22 := ⟨rfl, rfl, rfl⟩
theorem z57_22 : za 57 22 (.iadd) 23 := ⟨rfl, rfl, rfl⟩
theorem z57_23 : zb (.if_icmp .ne) 57 23 30 26 := ⟨7, ⟨rfl, rfl, rfl⟩, rfl⟩
theorem z57_26 : za 57 26 (.iconst 1) 27 := ⟨rfl, rfl, rfl⟩
theorem z57_27 : zb (.goto) 57 27 31 30 := ⟨4, ⟨rfl, rfl, rfl⟩, rfl⟩
theorem z57_30 : za 57 30 (.iconst 0) 31 := ⟨rfl, rfl, rfl⟩
theorem z57_31 : za 57 31 (.ireturn) 32 := ⟨rfl, rfl, rfl⟩
theorem z58_0 : za 58 0 (.bipush (8)) 2 := ⟨rfl, rfl, rfl⟩
theorem z58_2 : za 58 2 (.istore_n 1) 3 := ⟨rfl, rfl, rfl⟩
theorem z58_3 : za 58 3 (.iload_n 1) 4 := ⟨rfl, rfl, rfl⟩
theorem z58_4 : za 58 4 (.bipush (12)) 6 := ⟨rfl, rfl, rfl⟩
theorem z58_6 : zb (.if_icmp .ge) 58 6 25 9 := ⟨19, ⟨rfl, rfl, rfl⟩, rfl⟩
theorem z58_9 : za 58 9 (.aload_n 0) 10 := ⟨rfl, rfl, rfl⟩
theorem z58_10 : za 58 10 (.iload_n 1) 11 := ⟨rfl, rfl, rfl⟩
theorem z58_11 : za_v 58 11 59 1 2 14 := ⟨114, ⟨rfl, rfl, rfl⟩, rfl⟩
theorem z58_14 : zb (.ifCond .eq) 58 14 19 17 := ⟨5, ⟨rfl, rfl, rfl⟩, rfl⟩
theorem z58_17 : za 58 17 (.iload_n 1) 18 := ⟨rfl, rfl, rfl⟩
theorem z58_18 : za 58 18 (.ireturn) 19 := ⟨rfl, rfl, rfl⟩
theorem z58_19 : za 58 19 (.iinc 1 (1)) 22 := ⟨rfl, rfl, rfl⟩
theorem z58_22 : zb (.goto) 58 22 3 25 := ⟨(-19), ⟨rfl, rfl, rfl⟩, rfl⟩
theorem z58_25 : za 58 25 (.iconst 0) 26 := ⟨rfl, rfl, rfl⟩
theorem z58_26 : za 58 26 (.istore_n 1) 27 := ⟨rfl, rfl, rfl⟩
theorem z58_27 : za 58 27 (.iload_n 1) 28 := ⟨rfl, rfl, rfl⟩
theorem z58_28 : za 58 28 (.bipush (8)) 30 := ⟨rfl, rfl, rfl⟩
theorem z58_30 : zb (.if_icmp .ge) 58 30 49 33 := ⟨19, ⟨rfl, rfl, rfl⟩, rfl⟩
theorem z58_33 : za 58 33 (.aload_n 0) 34 := ⟨rfl, rfl, rfl⟩
theorem z58_34 : za 58 34 (.iload_n 1) 35 := ⟨rfl, rfl, rfl⟩
theorem z58_35 : za_v 58 35 59 1 2 38 := ⟨114, ⟨rfl, rfl, rfl⟩, rfl⟩
theorem z58_38 : zb (.ifCond .eq) 58 38 43 41 := ⟨5, ⟨rfl, rfl, rfl⟩, rfl⟩
theorem z58_41 : za 58 41 (.iload_n 1) 42 := ⟨rfl, rfl, rfl⟩
theorem z58_42 : za 58 42 (.ireturn) 43 := ⟨rfl, rfl, rfl⟩
theorem z58_43 : za 58 43 (.iinc 1 (1)) 46 := ⟨rfl, rfl, rfl⟩
theorem z58_46 : zb (.goto) 58 46 27 49 := ⟨(-19), ⟨rfl, rfl, rfl⟩, rfl⟩
theorem z58_49 : za 58 49 (.iconst (-1)) 50 := ⟨rfl, rfl, rfl⟩
theorem z58_50 : za 58 50 (.ireturn) 51 := ⟨rfl, rfl, rfl⟩
theorem z59_0 : za 59 0 (.aload_n 0) 1 := ⟨rfl, rfl, rfl⟩
theorem z59_1 : za_f 59 1 2 2 4 := ⟨15, 9, .null, ⟨rfl, rfl, rfl⟩, rfl, Or.inr (Or.inr rfl)⟩
theorem z59_4 : za 59 4 (.iload_n 1) 5 := ⟨rfl, rfl, rfl⟩
theorem z59_5 : za 59 5 (.iaload) 6 := ⟨rfl, rfl, rfl⟩
theorem z59_6 : za 59 6 (.istore_n 2) 7 := ⟨rfl, rfl, rfl⟩
theorem z59_7 : za 59 7 (.iload_n 2) 8 := ⟨rfl, rfl, rfl⟩
theorem z59_8 : za 59 8 (.iconst (-1)) 9 := ⟨rfl, rfl, rfl⟩
theorem z59_9 : zb (.if_icmp .eq) 59 9 32 12 := ⟨23, ⟨rfl, rfl, rfl⟩, rfl⟩
theorem z59_12 : za 59 12 (.aload_n 0) 13 := ⟨rfl, rfl, rfl⟩
theorem z59_13 : za 59 13 (.iload_n 2) 14 := ⟨rfl, rfl, rfl⟩
theorem z59_14 : za_v 59 14 57 1 2 17 := ⟨74, ⟨rfl, rfl, rfl⟩, rfl⟩
theorem z59_17 : zb (.ifCond .eq) 59 17 32 20 := ⟨15, ⟨rfl, rfl, rfl⟩, rfl⟩
theorem z59_20 : za 59 20 (.aload_n 0) 21 := ⟨rfl, rfl, rfl⟩
theorem z59_21 : za 59 21 (.iload_n 2) 22 := ⟨rfl, rfl, rfl⟩
theorem z59_22 : za_v 59 22 60 1 2 25 := ⟨117, ⟨rfl, rfl, rfl⟩, rfl⟩
theorem z59_25 : zb (.ifCond .eq) 59 25 32 28 := ⟨7, ⟨rfl, rfl, rfl⟩, rfl⟩
theorem z59_28 : za 59 28 (.iconst 1) 29 := ⟨rfl, rfl, rfl⟩
theorem z59_29 : zb (.goto) 59 29 33 32 := ⟨4, ⟨rfl, rfl, rfl⟩, rfl⟩
theorem z59_32 : za 59 32 (.iconst 0) 33 := ⟨rfl, rfl, rfl⟩
theorem z59_33 : za 59 33 (.ireturn) 34 := ⟨rfl, rfl, rfl⟩
theorem z60_0 : za 60 0 (.aload_n 0) 1 := ⟨rfl, rfl, rfl⟩
theorem z60_1 : za_f 60 1 2 0 4 := ⟨21, 9, .null, ⟨rfl, rfl, rfl⟩, rfl, Or.inr (Or.inr rfl)⟩
theorem z60_4 : za 60 4 (.iload_n 1) 5 := ⟨rfl, rfl, rfl⟩
theorem z60_5 : za_v 60 5 34 1 1 8 := ⟨108, ⟨rfl, rfl, rfl⟩, rfl⟩
theorem z60_8 : za 60 8 (.istore_n 2) 9 := ⟨rfl, rfl, rfl⟩
theorem z60_9 : za 60 9 (.aload_n 0) 10 := ⟨rfl, rfl, rfl⟩
theorem z60_10 : za_f 60 10 2 0 13 := ⟨21, 9, .null, ⟨rfl, rfl, rfl⟩, rfl, Or.inr (Or.inr rfl)⟩
theorem z60_13 : za_f 60 13 1 2 16 := ⟨120, 0, .null, ⟨rfl, rfl, rfl⟩, rfl, Or.inl rfl⟩
theorem z60_16 : za 60 16 (.iconst 1) 17 := ⟨rfl, rfl, rfl⟩
theorem z60_17 : zb (.if_icmp .eq) 60 17 25 20 := ⟨8, ⟨rfl, rfl, rfl⟩, rfl⟩
theorem z60_20 : za 60 20 (.iload_n 2) 21 := ⟨rfl, rfl, rfl⟩
theorem z60_21 : za 60 21 (.iconst 2) 22 := ⟨rfl, rfl, rfl⟩
theorem z60_22 : zb (.if_icmp .gt) 60 22 27 25 := ⟨5, ⟨rfl, rfl, rfl⟩, rfl⟩
theorem z60_25 : za 60 25 (.iconst 1) 26 := ⟨rfl, rfl, rfl⟩
theorem z60_26 : za 60 26 (.ireturn) 27 := ⟨rfl, rfl, rfl⟩
theorem z60_27 : za 60 27 (.aload_n 0) 28 := ⟨rfl, rfl, rfl⟩
theorem z60_28 : za_f 60 28 2 0 31 := ⟨21, 9, .null, ⟨rfl, rfl, rfl⟩, rfl, Or.inr (Or.inr rfl)⟩
theorem z60_31 : za 60 31 (.aload_n 0) 32 := ⟨rfl, rfl, rfl⟩
theorem z60_32 : za_f 60 32 2 0 35 := ⟨21, 9, .null, ⟨rfl, rfl, rfl⟩, rfl, Or.inr (Or.inr rfl)⟩
theorem z60_35 : za 60 35 (.iload_n 1) 36 := ⟨rfl, rfl, rfl⟩
theorem z60_36 : za_v 60 36 35 1 1 39 := ⟨111, ⟨rfl, rfl, rfl⟩, rfl⟩
theorem z60_39 : za_v 60 39 36 1 1 42 := ⟨123, ⟨rfl, rfl, rfl⟩, rfl⟩
theorem z60_42 : za 60 42 (.istore_n 3) 43 := ⟨rfl, rfl, rfl⟩
theorem z60_43 : za 60 43 (.iconst 0) 44 := ⟨rfl, rfl, rfl⟩
theorem z60_44 : za 60 44 (.istore 4) 46 := ⟨rfl, rfl, rfl⟩
theorem z60_46 : za 60 46 (.iload 4) 48 := ⟨rfl, rfl, rfl⟩
theorem z60_48 : za 60 48 (.aload_n 0) 49 := ⟨rfl, rfl, rfl⟩
theorem z60_49 : za_f 60 49 2 0 52 := ⟨21, 9, .null, ⟨rfl, rfl, rfl⟩, rfl, Or.inr (Or.inr rfl)⟩
theorem z60_52 : za_f 60 52 1 4 55 := ⟨53, 0, .null, ⟨rfl, rfl, rfl⟩, rfl, Or.inl rfl⟩
theorem z60_55 : zb (.if_icmp .ge) 60 55 114 58 := ⟨59, ⟨rfl, rfl, rfl⟩, rfl⟩
theorem z60_58 : za 60 58 (.aload_n 0) 59 := ⟨rfl, rfl, rfl⟩
theorem z60_59 : za_f 60 59 2 0 62 := ⟨21, 9, .null, ⟨rfl, rfl, rfl⟩, rfl, Or.inr (Or.inr rfl)⟩
theorem z60_62 : za_f 60 62 1 2 65 := ⟨120, 0, .null, ⟨rfl, rfl, rfl⟩, rfl, Or.inl rfl⟩
theorem z60_65 : zb (.ifCond .ne) 60 65 81 68 := ⟨16, ⟨rfl, rfl, rfl⟩, rfl⟩
theorem z60_68 : za 60 68 (.aload_n 0) 69 := ⟨rfl, rfl, rfl⟩
theorem z60_69 : za_f 60 69 2 0 72 := ⟨21, 9, .null, ⟨rfl, rfl, rfl⟩, rfl, Or.inr (Or.inr rfl)⟩
theorem z60_72 : za 60 72 (.iload 4) 74 := ⟨rfl, rfl, rfl⟩
theorem z60_74 : za_v 60 74 36 1 1 77 := ⟨123, ⟨rfl, rfl, rfl⟩, rfl⟩
theorem z60_77 : za 60 77 (.iload_n 3) 78 := ⟨rfl, rfl, rfl⟩
theorem z60_78 : zb (.if_icmp .eq) 60 78 85 81 := ⟨7, ⟨rfl, rfl, rfl⟩, rfl⟩
theorem z60_81 : za 60 81 (.iconst 1) 82 := ⟨rfl, rfl, rfl⟩
theorem z60_82 : zb (.goto) 60 82 86 85 := ⟨4, ⟨rfl, rfl, rfl⟩, rfl⟩
theorem z60_85 : za 60 85 (.iconst 0) 86 := ⟨rfl, rfl, rfl⟩
theorem z60_86 : za 60 86 (.istore 5) 88 := ⟨rfl, rfl, rfl⟩
theorem z60_88 : za 60 88 (.iload 5) 90 := ⟨rfl, rfl, rfl⟩
theorem z60_90 : zb (.ifCond .eq) 60 90 108 93 := ⟨18, ⟨rfl, rfl, rfl⟩, rfl⟩
theorem z60_93 : za 60 93 (.aload_n 0) 94 := ⟨rfl, rfl, rfl⟩
theorem z60_94 : za_f 60 94 2 3 97 := ⟨18, 9, .null, ⟨rfl, rfl, rfl⟩, rfl, Or.inr (Or.inr rfl)⟩
theorem z60_97 : za 60 97 (.iload 4) 99 := ⟨rfl, rfl, rfl⟩
theorem z60_99 : za 60 99 (.iaload) 100 := ⟨rfl, rfl, rfl⟩
theorem z60_100 : za 60 100 (.iload_n 2) 101 := ⟨rfl, rfl, rfl⟩
theorem z60_101 : za 60 101 (.iconst 1) 102 := ⟨rfl, rfl, rfl⟩
theorem z60_102 : za 60 102 (.isub) 103 := ⟨rfl, rfl, rfl⟩
theorem z60_103 : zb (.if_icmp .ge) 60 103 108 106 := ⟨5, ⟨rfl, rfl, rfl⟩, rfl⟩
theorem z60_106 : za 60 106 (.iconst 0) 107 := ⟨rfl, rfl, rfl⟩
theorem z60_107 : za 60 107 (.ireturn) 108 := ⟨rfl, rfl, rfl⟩
theorem z60_108 : za 60 108 (.iinc 4 (1)) 111 := ⟨rfl, rfl, rfl⟩
theorem z60_111 : zb (.goto) 60 111 46 114 := ⟨(-65), ⟨rfl, rfl, rfl⟩, rfl⟩
theorem z60_114 : za 60 114 (.iconst 1) 115 := ⟨rfl, rfl, rfl⟩
theorem z60_115 : za 60 115 (.ireturn) 116 := ⟨rfl, rfl, rfl⟩
theorem z61_0 : za 61 0 (.iload_n 1) 1 := ⟨rfl, rfl, rfl⟩
theorem z61_1 : za 61 1 (.bipush (12)) 3 := ⟨rfl, rfl, rfl⟩
theorem z61_3 : zb (.if_icmp .ne) 61 3 9 6 := ⟨6, ⟨rfl, rfl, rfl⟩, rfl⟩
theorem z61_6 : za 61 6 (.bipush (-3)) 8 := ⟨rfl, rfl, rfl⟩
theorem z61_8 : za 61 8 (.ireturn) 9 := ⟨rfl, rfl, rfl⟩
theorem z61_9 : za 61 9 (.iload_n 1) 10 := ⟨rfl, rfl, rfl⟩
theorem z61_10 : za 61 10 (.bipush (8)) 12 := ⟨rfl, rfl, rfl⟩
theorem z61_12 : zb (.if_icmp .lt) 61 12 20 15 := ⟨8, ⟨rfl, rfl, rfl⟩, rfl⟩
theorem z61_15 : za 61 15 (.bipush (-2)) 17 := ⟨rfl, rfl, rfl⟩
theorem z61_17 : zb (.goto) 61 17 26 20 := ⟨9, ⟨rfl, rfl, rfl⟩, rfl⟩
theorem z61_20 : za 61 20 (.aload_n 0) 21 := ⟨rfl, rfl, rfl⟩
theorem z61_21 : za_f 61 21 2 2 24 := ⟨15, 9, .null, ⟨rfl, rfl, rfl⟩, rfl, Or.inr (Or.inr rfl)⟩
theorem z61_24 : za 61 24 (.iload_n 1) 25 := ⟨rfl, rfl, rfl⟩
theorem z61_25 : za 61 25 (.iaload) 26 := ⟨rfl, rfl, rfl⟩
theorem z61_26 : za 61 26 (.ireturn) 27 := ⟨rfl, rfl, rfl⟩
theorem z62_0 : za 62 0 (.iload_n 2) 1 := ⟨rfl, rfl, rfl⟩
theorem z62_1 : za 62 1 (.bipush (12)) 3 := ⟨rfl, rfl, rfl⟩
theorem z62_3 : zb (.if_icmp .ne) 62 3 10 6 := ⟨7, ⟨rfl, rfl, rfl⟩, rfl⟩
theorem z62_6 : za 62 6 (.iload_n 1) 7 := ⟨rfl, rfl, rfl⟩
theorem z62_7 : zb (.goto) 62 7 16 10 := ⟨9, ⟨rfl, rfl, rfl⟩, rfl⟩
theorem z62_10 : za 62 10 (.aload_n 0) 11 := ⟨rfl, rfl, rfl⟩
theorem z62_11 : za_f 62 11 2 2 14 := ⟨15, 9, .null, ⟨rfl, rfl, rfl⟩, rfl, Or.inr (Or.inr rfl)⟩
theorem z62_14 : za 62 14 (.iload_n 2) 15 := ⟨rfl, rfl, rfl⟩
theorem z62_15 : za 62 15 (.iaload) 16 := ⟨rfl, rfl, rfl⟩
theorem z62_16 : za 62 16 (.istore 4) 18 := ⟨rfl, rfl, rfl⟩
theorem z62_18 : za 62 18 (.aload_n 0) 19 := ⟨rfl, rfl, rfl⟩
theorem z62_19 : za_f 62 19 2 1 22 := ⟨9, 9, .null, ⟨rfl, rfl, rfl⟩, rfl, Or.inr (Or.inr rfl)⟩
theorem z62_22 : za 62 22 (.iload_n 1) 23 := ⟨rfl, rfl, rfl⟩
theorem z62_23 : za 62 23 (.iaload) 24 := ⟨rfl, rfl, rfl⟩
theorem z62_24 : za 62 24 (.istore 5) 26 := ⟨rfl, rfl, rfl⟩
theorem z62_26 : za 62 26 (.aload_n 0) 27 := ⟨rfl, rfl, rfl⟩
theorem z62_27 : za_f 62 27 2 1 30 := ⟨9, 9, .null, ⟨rfl, rfl, rfl⟩, rfl, Or.inr (Or.inr rfl)⟩
theorem z62_30 : za 62 30 (.iload_n 1) 31 := ⟨rfl, rfl, rfl⟩
theorem z62_31 : za 62 31 (.aload_n 0) 32 := ⟨rfl, rfl, rfl⟩
theorem z62_32 : za 62 32 (.iload_n 3) 33 := ⟨rfl, rfl, rfl⟩
theorem z62_33 : za_v 62 33 61 1 2 36 := ⟨126, ⟨rfl, rfl, rfl⟩, rfl⟩
theorem z62_36 : za 62 36 (.iastore) 37 := ⟨rfl, rfl, rfl⟩
theorem z62_37 : za 62 37 (.iload_n 2) 38 := ⟨rfl, rfl, rfl⟩
theorem z62_38 : za 62 38 (.bipush (12)) 40 := ⟨rfl, rfl, rfl⟩
theorem z62_40 : zb (.if_icmp .ne) 62 40 73 43 := ⟨33, ⟨rfl, rfl, rfl⟩, rfl⟩
theorem z62_43 : za 62 43 (.aload_n 0) 44 := ⟨rfl, rfl, rfl⟩
theorem z62_44 : za_f 62 44 2 3 47 := ⟨18, 9, .null, ⟨rfl, rfl, rfl⟩, rfl, Or.inr (Or.inr rfl)⟩
theorem z62_47 : za 62 47 (.aload_n 0) 48 := ⟨rfl, rfl, rfl⟩
theorem z62_48 : za_f 62 48 2 0 51 := ⟨21, 9, .null, ⟨rfl, rfl, rfl⟩, rfl, Or.inr (Or.inr rfl)⟩
theorem z62_51 : za 62 51 (.iload_n 1) 52 := ⟨rfl, rfl, rfl⟩
theorem z62_52 : za_v 62 52 35 1 1 55 := ⟨111, ⟨rfl, rfl, rfl⟩, rfl⟩
theorem z62_55 : za 62 55 (.dup2) 56 := ⟨rfl, rfl, rfl⟩
theorem z62_56 : za 62 56 (.iaload) 57 := ⟨rfl, rfl, rfl⟩
theorem z62_57 : za 62 57 (.iconst 1) 58 := ⟨rfl, rfl, rfl⟩
theorem z62_58 : za 62 58 (.isub) 59 := ⟨rfl, rfl, rfl⟩
theorem z62_59 : za 62 59 (.iastore) 60 := ⟨rfl, rfl, rfl⟩
theorem z62_60 : za 62 60 (.aload_n 0) 61 := ⟨rfl, rfl, rfl⟩
theorem z62_61 : za 62 61 (.dup) 62 := ⟨rfl, rfl, rfl⟩
theorem z62_62 : za_f 62 62 2 5 65 := ⟨38, 0, .null, ⟨rfl, rfl, rfl⟩, rfl, Or.inl rfl⟩
theorem z62_65 : za 62 65 (.iconst 1) 66 := ⟨rfl, rfl, rfl⟩
theorem z62_66 : za 62 66 (.isub) 67 := ⟨rfl, rfl, rfl⟩
theorem z62_67 : za_p 62 67 2 5 70 := ⟨38, 0, .null, ⟨rfl, rfl, rfl⟩, rfl, Or.inl rfl⟩
theorem z62_70 : zb (.goto) 62 70 91 73 := ⟨21, ⟨rfl, rfl, rfl⟩, rfl⟩
theorem z62_73 : za 62 73 (.aload_n 0) 74 := ⟨rfl, rfl, rfl⟩
theorem z62_74 : za_f 62 74 2 2 77 := ⟨15, 9, .null, ⟨rfl, rfl, rfl⟩, rfl, Or.inr (Or.inr rfl)⟩
theorem z62_77 : za 62 77 (.iload_n 2) 78 := ⟨rfl, rfl, rfl⟩
theorem z62_78 : za 62 78 (.iload_n 2) 79 := ⟨rfl, rfl, rfl⟩
theorem z62_79 : za 62 79 (.bipush (8)) 81 := ⟨rfl, rfl, rfl⟩
theorem z62_81 : zb (.if_icmp .lt) 62 81 88 84 := ⟨7, ⟨rfl, rfl, rfl⟩, rfl⟩
theorem z62_84 : za 62 84 (.iconst (-1)) 85 := ⟨rfl, rfl, rfl⟩
theorem z62_85 : zb (.goto) 62 85 90 88 := ⟨5, ⟨rfl, rfl, rfl⟩, rfl⟩
theorem z62_88 : za 62 88 (.iload 5) 90 := ⟨rfl, rfl, rfl⟩
theorem z62_90 : za 62 90 (.iastore) 91 := ⟨rfl, rfl, rfl⟩
theorem z62_91 : za 62 91 (.iload_n 3) 92 := ⟨rfl, rfl, rfl⟩
theorem z62_92 : za 62 92 (.bipush (12)) 94 := ⟨rfl, rfl, rfl⟩
theorem z62_94 : zb (.if_icmp .ne) 62 94 127 97 := ⟨33, ⟨rfl, rfl, rfl⟩, rfl⟩
theorem z62_97 : za 62 97 (.aload_n 0) 98 := ⟨rfl, rfl, rfl⟩
theorem z62_98 : za_f 62 98 2 3 101 := ⟨18, 9, .null, ⟨rfl, rfl, rfl⟩, rfl, Or.inr (Or.inr rfl)⟩
theorem z62_101 : za 62 101 (.aload_n 0) 102 := ⟨rfl, rfl, rfl⟩
theorem z62_102 : za_f 62 102 2 0 105 := ⟨21, 9, .null, ⟨rfl, rfl, rfl⟩, rfl, Or.inr (Or.inr rfl)⟩
theorem z62_105 : za 62 105 (.iload_n 1) 106 := ⟨rfl, rfl, rfl⟩
theorem z62_106 : za_v 62 106 35 1 1 109 := ⟨111, ⟨rfl, rfl, rfl⟩, rfl⟩
theorem z62_109 : za 62 109 (.dup2) 110 := ⟨rfl, rfl, rfl⟩
theorem z62_110 : za 62 110 (.iaload) 111 := ⟨rfl, rfl, rfl⟩
theorem z62_111 : za 62 111 (.iconst 1) 112 := ⟨rfl, rfl, rfl⟩
theorem z62_112 : za 62 112 (.iadd) 113 := ⟨rfl, rfl, rfl⟩
theorem z62_113 : za 62 113 (.iastore) 114 := ⟨rfl, rfl, rfl⟩
theorem z62_114 : za 62 114 (.aload_n 0) 115 := ⟨rfl, rfl, rfl⟩
theorem z62_115 : za 62 115 (.dup) 116 := ⟨rfl, rfl, rfl⟩
theorem z62_116 : za_f 62 116 2 5 119 := ⟨38, 0, .null, ⟨rfl, rfl, rfl⟩, rfl, Or.inl rfl⟩
theorem z62_119 : za 62 119 (.iconst 1) 120 := ⟨rfl, rfl, rfl⟩
theorem z62_120 : za 62 120 (.iadd) 121 := ⟨rfl, rfl, rfl⟩
theorem z62_121 : za_p 62 121 2 5 124 := ⟨38, 0, .null, ⟨rfl, rfl, rfl⟩, rfl, Or.inl rfl⟩
theorem z62_124 : zb (.goto) 62 124 135 127 := ⟨11, ⟨rfl, rfl, rfl⟩, rfl⟩
theorem z62_127 : za 62 127 (.aload_n 0) 128 := ⟨rfl, rfl, rfl⟩
theorem z62_128 : za_f 62 128 2 2 131 := ⟨15, 9, .null, ⟨rfl, rfl, rfl⟩, rfl, Or.inr (Or.inr rfl)⟩
theorem z62_131 : za 62 131 (.iload_n 3) 132 := ⟨rfl, rfl, rfl⟩
theorem z62_132 : za 62 132 (.iload 4) 134 := ⟨rfl, rfl, rfl⟩
theorem z62_134 : za 62 134 (.iastore) 135 := ⟨rfl, rfl, rfl⟩
theorem z62_135 : za 62 135 (.return_) 136 := ⟨rfl, rfl, rfl⟩
theorem z63_0 : za 63 0 (.aload_n 0) 1 := ⟨rfl, rfl, rfl⟩
theorem z63_1 : za_o 63 1 4 := ⟨3, 0, .null, ⟨rfl, rfl, rfl⟩, rfl⟩
theorem z63_4 : za 63 4 (.aload_n 0) 5 := ⟨rfl, rfl, rfl⟩
theorem z63_5 : za 63 5 (.bipush (60)) 7 := ⟨rfl, rfl, rfl⟩
theorem z63_7 : za 63 7 (.newarray .int) 9 := ⟨rfl, rfl, rfl⟩
theorem z63_9 : za_p 63 9 3 0 12 := ⟨9, 8, .null, ⟨rfl, rfl, rfl⟩, rfl, Or.inr rfl⟩
theorem z63_12 : za 63 12 (.aload_n 0) 13 := ⟨rfl, rfl, rfl⟩
theorem z63_13 : za 63 13 (.bipush (60)) 15 := ⟨rfl, rfl, rfl⟩
theorem z63_15 : za 63 15 (.newarray .int) 17 := ⟨rfl, rfl, rfl⟩
theorem z63_17 : za_p 63 17 3 1 20 := ⟨15, 8, .null, ⟨rfl, rfl, rfl⟩, rfl, Or.inr rfl⟩
theorem z63_20 : za 63 20 (.aload_n 0) 21 := ⟨rfl, rfl, rfl⟩
theorem z63_21 : za 63 21 (.bipush (60)) 23 := ⟨rfl, rfl, rfl⟩
theorem z63_23 : za 63 23 (.newarray .int) 25 := ⟨rfl, rfl, rfl⟩
theorem z63_25 : za_p 63 25 3 2 28 := ⟨18, 8, .null, ⟨rfl, rfl, rfl⟩, rfl, Or.inr rfl⟩
theorem z63_28 : za 63 28 (.aload_n 0) 29 := ⟨rfl, rfl, rfl⟩
theorem z63_29 : za 63 29 (.bipush (60)) 31 := ⟨rfl, rfl, rfl⟩
theorem z63_31 : za 63 31 (.newarray .int) 33 := ⟨rfl, rfl, rfl⟩
theorem z63_33 : za_p 63 33 3 3 36 := ⟨21, 8, .null, ⟨rfl, rfl, rfl⟩, rfl, Or.inr rfl⟩
theorem z63_36 : za 63 36 (.aload_n 0) 37 := ⟨rfl, rfl, rfl⟩
theorem z63_37 : za 63 37 (.iconst 0) 38 := ⟨rfl, rfl, rfl⟩
theorem z63_38 : za_p 63 38 3 4 41 := ⟨24, 0, .null, ⟨rfl, rfl, rfl⟩, rfl, Or.inl rfl⟩
theorem z63_41 : za 63 41 (.aload_n 0) 42 := ⟨rfl, rfl, rfl⟩
theorem z63_42 : za 63 42 (.iconst 0) 43 := ⟨rfl, rfl, rfl⟩
theorem z63_43 : za_p 63 43 3 5 46 := ⟨28, 0, .null, ⟨rfl, rfl, rfl⟩, rfl, Or.inl rfl⟩
theorem z63_46 : za 63 46 (.return_) 47 := ⟨rfl, rfl, rfl⟩
theorem z64_0 : za 64 0 (.aload_n 0) 1 := ⟨rfl, rfl, rfl⟩
theorem z64_1 : za 64 1 (.iconst 0) 2 := ⟨rfl, rfl, rfl⟩
theorem z64_2 : za_p 64 2 3 4 5 := ⟨24, 0, .null, ⟨rfl, rfl, rfl⟩, rfl, Or.inl rfl⟩
theorem z64_5 : za 64 5 (.aload_n 0) 6 := ⟨rfl, rfl, rfl⟩
theorem z64_6 : za 64 6 (.iconst 0) 7 := ⟨rfl, rfl, rfl⟩
theorem z64_7 : za_p 64 7 3 5 10 := ⟨28, 0, .null, ⟨rfl, rfl, rfl⟩, rfl, Or.inl rfl⟩
theorem z64_10 : za 64 10 (.return_) 11 := ⟨rfl, rfl, rfl⟩
theorem z65_0 : za 65 0 (.aload_n 0) 1 := ⟨rfl, rfl, rfl⟩
theorem z65_1 : za_f 65 1 3 0 4 := ⟨9, 9, .null, ⟨rfl, rfl, rfl⟩, rfl, Or.inr (Or.inr rfl)⟩
theorem z65_4 : za 65 4 (.aload_n 0) 5 := ⟨rfl, rfl, rfl⟩
theorem z65_5 : za_f 65 5 3 4 8 := ⟨24, 0, .null, ⟨rfl, rfl, rfl⟩, rfl, Or.inl rfl⟩
theorem z65_8 : za 65 8 (.iload_n 1) 9 := ⟨rfl, rfl, rfl⟩
theorem z65_9 : za 65 9 (.iastore) 10 := ⟨rfl, rfl, rfl⟩
theorem z65_10 : za 65 10 (.aload_n 0) 11 := ⟨rfl, rfl, rfl⟩
theorem z65_11 : za_f 65 11 3 1 14 := ⟨15, 9, .null, ⟨rfl, rfl, rfl⟩, rfl, Or.inr (Or.inr rfl)⟩
theorem z65_14 : za 65 14 (.aload_n 0) 15 := ⟨rfl, rfl, rfl⟩
theorem z65_15 : za_f 65 15 3 4 18 := ⟨24, 0, .null, ⟨rfl, rfl, rfl⟩, rfl, Or.inl rfl⟩
theorem z65_18 : za 65 18 (.iload_n 2) 19 := ⟨rfl, rfl, rfl⟩
theorem z65_19 : za 65 19 (.iastore) 20 := ⟨rfl, rfl, rfl⟩
theorem z65_20 : za 65 20 (.aload_n 0) 21 := ⟨rfl, rfl, rfl⟩
theorem z65_21 : za_f 65 21 3 2 24 := ⟨18, 9, .null, ⟨rfl, rfl, rfl⟩, rfl, Or.inr (Or.inr rfl)⟩
theorem z65_24 : za 65 24 (.aload_n 0) 25 := ⟨rfl, rfl, rfl⟩
theorem z65_25 : za_f 65 25 3 4 28 := ⟨24, 0, .null, ⟨rfl, rfl, rfl⟩, rfl, Or.inl rfl⟩
theorem z65_28 : za 65 28 (.iload_n 3) 29 := ⟨rfl, rfl, rfl⟩
theorem z65_29 : za 65 29 (.iastore) 30 := ⟨rfl, rfl, rfl⟩
theorem z65_30 : za 65 30 (.aload_n 0) 31 := ⟨rfl, rfl, rfl⟩
theorem z65_31 : za_f 65 31 3 3 34 := ⟨21, 9, .null, ⟨rfl, rfl, rfl⟩, rfl, Or.inr (Or.inr rfl)⟩
theorem z65_34 : za 65 34 (.aload_n 0) 35 := ⟨rfl, rfl, rfl⟩
theorem z65_35 : za_f 65 35 3 4 38 := ⟨24, 0, .null, ⟨rfl, rfl, rfl⟩, rfl, Or.inl rfl⟩
theorem z65_38 : za 65 38 (.iload 4) 40 := ⟨rfl, rfl, rfl⟩
theorem z65_40 : za 65 40 (.iastore) 41 := ⟨rfl, rfl, rfl⟩
theorem z65_41 : za 65 41 (.aload_n 0) 42 := ⟨rfl, rfl, rfl⟩
theorem z65_42 : za 65 42 (.aload_n 0) 43 := ⟨rfl, rfl, rfl⟩
theorem z65_43 : za_f 65 43 3 4 46 := ⟨24, 0, .null, ⟨rfl, rfl, rfl⟩, rfl, Or.inl rfl⟩
theorem z65_46 : za 65 46 (.iconst 1) 47 := ⟨rfl, rfl, rfl⟩
theorem z65_47 : za 65 47 (.iadd) 48 := ⟨rfl, rfl, rfl⟩
theorem z65_48 : za 65 48 (.bipush (60)) 50 := ⟨rfl, rfl, rfl⟩
theorem z65_50 : zb (.if_icmp .ge) 65 50 62 53 := ⟨12, ⟨rfl, rfl, rfl⟩, rfl⟩
theorem z65_53 : za 65 53 (.aload_n 0) 54 := ⟨rfl, rfl, rfl⟩
theorem z65_54 : za_f 65 54 3 4 57 := ⟨24, 0, .null, ⟨rfl, rfl, rfl⟩, rfl, Or.inl rfl⟩
theorem z65_57 : za 65 57 (.iconst 1) 58 := ⟨rfl, rfl, rfl⟩
theorem z65_58 : za 65 58 (.iadd) 59 := ⟨rfl, rfl, rfl⟩
theorem z65_59 : zb (.goto) 65 59 63 62 := ⟨4, ⟨rfl, rfl, rfl⟩, rfl⟩
theorem z65_62 : za 65 62 (.iconst 0) 63 := ⟨rfl, rfl, rfl⟩
theorem z65_63 : za_p 65 63 3 4 66 := ⟨24, 0, .null, ⟨rfl, rfl, rfl⟩, rfl, Or.inl rfl⟩
theorem z65_66 : za 65 66 (.aload_n 0) 67 := ⟨rfl, rfl, rfl⟩
theorem z65_67 : za 65 67 (.aload_n 0) 68 := ⟨rfl, rfl, rfl⟩
theorem z65_68 : za_f 65 68 3 5 71 := ⟨28, 0, .null, ⟨rfl, rfl, rfl⟩, rfl, Or.inl rfl⟩
theorem z65_71 : za 65 71 (.iconst 1) 72 := ⟨rfl, rfl, rfl⟩
theorem z65_72 : za 65 72 (.iadd) 73 := ⟨rfl, rfl, rfl⟩
theorem z65_73 : za 65 73 (.bipush (60)) 75 := ⟨rfl, rfl, rfl⟩
theorem z65_75 : za_m 65 75 78 := ⟨31, 0, .null, ⟨rfl, rfl, rfl⟩, rfl⟩
theorem z65_78 : za_p 65 78 3 5 81 := ⟨28, 0, .null, ⟨rfl, rfl, rfl⟩, rfl, Or.inl rfl⟩
theorem z65_81 : za 65 81 (.return_) 82 := ⟨rfl, rfl, rfl⟩
theorem z66_0 : za 66 0 (.aload_n 0) 1 := ⟨rfl, rfl, rfl⟩
theorem z66_1 : za 66 1 (.aload_n 0) 2 := ⟨rfl, rfl, rfl⟩
theorem z66_2 : za_f 66 2 3 4 5 := ⟨24, 0, .null, ⟨rfl, rfl, rfl⟩, rfl, Or.inl rfl⟩
theorem z66_5 : zb (.ifCond .le) 66 5 17 8 := ⟨12, ⟨rfl, rfl, rfl⟩, rfl⟩
theorem z66_8 : za 66 8 (.aload_n 0) 9 := ⟨rfl, rfl, rfl⟩
theorem z66_9 : za_f 66 9 3 4 12 := ⟨24, 0, .null, ⟨rfl, rfl, rfl⟩, rfl, Or.inl rfl⟩
theorem z66_12 : za 66 12 (.iconst 1) 13 := ⟨rfl, rfl, rfl⟩
theorem z66_13 : za 66 13 (.isub) 14 := ⟨rfl, rfl, rfl⟩
theorem z66_14 : zb (.goto) 66 14 19 17 := ⟨5, ⟨rfl, rfl, rfl⟩, rfl⟩
theorem z66_17 : za 66 17 (.bipush (59)) 19 := ⟨rfl, rfl, rfl⟩
theorem z66_19 : za_p 66 19 3 4 22 := ⟨24, 0, .null, ⟨rfl, rfl, rfl⟩, rfl, Or.inl rfl⟩
theorem z66_22 : za 66 22 (.aload_n 0) 23 := ⟨rfl, rfl, rfl⟩
theorem z66_23 : za 66 23 (.dup) 24 := ⟨rfl, rfl, rfl⟩
theorem z66_24 : za_f 66 24 3 5 27 := ⟨28, 0, .null, ⟨rfl, rfl, rfl⟩, rfl, Or.inl rfl⟩
theorem z66_27 : za 66 27 (.iconst 1) 28 := ⟨rfl, rfl, rfl⟩
theorem z66_28 : za 66 28 (.isub) 29 := ⟨rfl, rfl, rfl⟩
theorem z66_29 : za_p 66 29 3 5 32 := ⟨28, 0, .null, ⟨rfl, rfl, rfl⟩, rfl, Or.inl rfl⟩
theorem z66_32 : za 66 32 (.aload_n 0) 33 := ⟨rfl, rfl, rfl⟩
theorem z66_33 : za_f 66 33 3 4 36 := ⟨24, 0, .null, ⟨rfl, rfl, rfl⟩, rfl, Or.inl rfl⟩
theorem z66_36 : za 66 36 (.ireturn) 37 := ⟨rfl, rfl, rfl⟩
theorem z67_0 : za 67 0 (.aload_n 0) 1 := ⟨rfl, rfl, rfl⟩
theorem z67_1 : za_o 67 1 4 := ⟨3, 0, .null, ⟨rfl, rfl, rfl⟩, rfl⟩
theorem z67_4 : za 67 4 (.aload_n 0) 5 := ⟨rfl, rfl, rfl⟩
theorem z67_5 : za 67 5 (.sipush (200)) 8 := ⟨rfl, rfl, rfl⟩
theorem z67_8 : za_a 67 8 11 := ⟨9, 6, .null, ⟨rfl, rfl, rfl⟩, rfl⟩
theorem z67_11 : za_p 67 11 4 1 14 := ⟨11, 8, .null, ⟨rfl, rfl, rfl⟩, rfl, Or.inr rfl⟩
theorem z67_14 : za 67 14 (.aload_n 0) 15 := ⟨rfl, rfl, rfl⟩
theorem z67_15 : za 67 15 (.sipush (200)) 18 := ⟨rfl, rfl, rfl⟩
theorem z67_18 : za 67 18 (.newarray .int) 20 := ⟨rfl, rfl, rfl⟩
theorem z67_20 : za_p 67 20 4 2 23 := ⟨17, 8, .null, ⟨rfl, rfl, rfl⟩, rfl, Or.inr rfl⟩
theorem z67_23 : za 67 23 (.aload_n 0) 24 := ⟨rfl, rfl, rfl⟩
theorem z67_24 : za 67 24 (.sipush (200)) 27 := ⟨rfl, rfl, rfl⟩
theorem z67_27 : za 67 27 (.newarray .int) 29 := ⟨rfl, rfl, rfl⟩
theorem z67_29 : za_p 67 29 4 3 32 := ⟨21, 8, .null, ⟨rfl, rfl, rfl⟩, rfl, Or.inr rfl⟩
theorem z67_32 : za 67 32 (.aload_n 0) 33 := ⟨rfl, rfl, rfl⟩
theorem z67_33 : za 67 33 (.sipush (512)) 36 := ⟨rfl, rfl, rfl⟩
theorem z67_36 : za 67 36 (.newarray .int) 38 := ⟨rfl, rfl, rfl⟩
theorem z67_38 : za_p 67 38 4 4 41 := ⟨24, 8, .null, ⟨rfl, rfl, rfl⟩, rfl, Or.inr rfl⟩
theorem z67_41 : za 67 41 (.aload_n 0) 42 := ⟨rfl, rfl, rfl⟩
theorem z67_42 : za 67 42 (.iconst 0) 43 := ⟨rfl, rfl, rfl⟩
theorem z67_43 : za_p 67 43 4 5 46 := ⟨27, 0, .null, ⟨rfl, rfl, rfl⟩, rfl, Or.inl rfl⟩
theorem z67_46 : za 67 46 (.aload_n 0) 47 := ⟨rfl, rfl, rfl⟩
theorem z67_47 : za 67 47 (.iconst 0) 48 := ⟨rfl, rfl, rfl⟩
theorem z67_48 : za_p 67 48 4 6 51 := ⟨31, 0, .null, ⟨rfl, rfl, rfl⟩, rfl, Or.inl rfl⟩
theorem z67_51 : za 67 51 (.aload_n 0) 52 := ⟨rfl, rfl, rfl⟩
theorem z67_52 : za 67 52 (.iconst 0) 53 := ⟨rfl, rfl, rfl⟩
theorem z67_53 : za_p 67 53 4 7 56 := ⟨34, 0, .null, ⟨rfl, rfl, rfl⟩, rfl, Or.inl rfl⟩
theorem z67_56 : za 67 56 (.aload_n 0) 57 := ⟨rfl, rfl, rfl⟩
theorem z67_57 : za 67 57 (.iconst (-1)) 58 := ⟨rfl, rfl, rfl⟩
theorem z67_58 : za_p 67 58 4 8 61 := ⟨38, 0, .null, ⟨rfl, rfl, rfl⟩, rfl, Or.inl rfl⟩
theorem z67_61 : za 67 61 (.aload_n 0) 62 := ⟨rfl, rfl, rfl⟩
theorem z67_62 : za 67 62 (.iconst 0) 63 := ⟨rfl, rfl, rfl⟩
theorem z67_63 : za_p 67 63 4 9 66 := ⟨41, 0, .null, ⟨rfl, rfl, rfl⟩, rfl, Or.inl rfl⟩
theorem z67_66 : za 67 66 (.aload_n 0) 67 := ⟨rfl, rfl, rfl⟩
theorem z67_67 : za 67 67 (.aload_n 1) 68 := ⟨rfl, rfl, rfl⟩
theorem z67_68 : za_p 67 68 4 0 71 := ⟨44, 8, .null, ⟨rfl, rfl, rfl⟩, rfl, Or.inr rfl⟩
theorem z67_71 : za 67 71 (.iconst 0) 72 := ⟨rfl, rfl, rfl⟩
theorem z67_72 : za 67 72 (.istore_n 2) 73 := ⟨rfl, rfl, rfl⟩
theorem z67_73 : za 67 73 (.iload_n 2) 74 := ⟨rfl, rfl, rfl⟩
theorem z67_74 : za 67 74 (.sipush (200)) 77 := ⟨rfl, rfl, rfl⟩
theorem z67_77 : zb (.if_icmp .ge) 67 77 100 80 := ⟨23, ⟨rfl, rfl, rfl⟩, rfl⟩
theorem z67_80 : za 67 80 (.aload_n 0) 81 := ⟨rfl, rfl, rfl⟩
theorem z67_81 : za_f 67 81 4 1 84 := ⟨11, 8, .null, ⟨rfl, rfl, rfl⟩, rfl, Or.inr (Or.inl rfl)⟩
theorem z67_84 : za 67 84 (.iload_n 2) 85 := ⟨rfl, rfl, rfl⟩
theorem z67_85 : za_n 67 85 2 6 88 := ⟨9, .null, ⟨rfl, rfl, rfl⟩, rfl⟩
theorem z67_88 : za 67 88 (.dup) 89 := ⟨rfl, rfl, rfl⟩
theorem z67_89 : za 67 89 (.aload_n 1) 90 := ⟨rfl, rfl, rfl⟩
theorem z67_90 : za_i 67 90 39 1 93 := ⟨48, .null, ⟨rfl, rfl, rfl⟩, rfl⟩
theorem z67_93 : za 67 93 (.aastore) 94 := ⟨rfl, rfl, rfl⟩
theorem z67_94 : za 67 94 (.iinc 2 (1)) 97 := ⟨rfl, rfl, rfl⟩
theorem z67_97 : zb (.goto) 67 97 73 100 := ⟨(-24), ⟨rfl, rfl, rfl⟩, rfl⟩
theorem z67_100 : za 67 100 (.return_) 101 := ⟨rfl, rfl, rfl⟩
theorem z68_0 : za 68 0 (.aload_n 0) 1 := ⟨rfl, rfl, rfl⟩
theorem z68_1 : za 68 1 (.aload_n 1) 2 := ⟨rfl, rfl, rfl⟩
theorem z68_2 : za 68 2 (.iload_n 2) 3 := ⟨rfl, rfl, rfl⟩
theorem z68_3 : za_v 68 3 69 2 4 6 := ⟨51, ⟨rfl, rfl, rfl⟩, rfl⟩
theorem z68_6 : za 68 6 (.aload_n 1) 7 := ⟨rfl, rfl, rfl⟩
theorem z68_7 : za_v 68 7 44 0 2 10 := ⟨55, ⟨rfl, rfl, rfl⟩, rfl⟩
theorem z68_10 : zb (.ifCond .eq) 68 10 15 13 := ⟨5, ⟨rfl, rfl, rfl⟩, rfl⟩
theorem z68_13 : za 68 13 (.iconst 0) 14 := ⟨rfl, rfl, rfl⟩
theorem z68_14 : za 68 14 (.ireturn) 15 := ⟨rfl, rfl, rfl⟩
theorem z68_15 : za 68 15 (.iconst 0) 16 := ⟨rfl, rfl, rfl⟩
theorem z68_16 : za 68 16 (.istore_n 3) 17 := ⟨rfl, rfl, rfl⟩
theorem z68_17 : za 68 17 (.iconst 1) 18 := ⟨rfl, rfl, rfl⟩
theorem z68_18 : za 68 18 (.istore 4) 20 := ⟨rfl, rfl, rfl⟩
theorem z68_20 : za 68 20 (.iload 4) 22 := ⟨rfl, rfl, rfl⟩
theorem z68_22 : za 68 22 (.sipush (200)) 25 := ⟨rfl, rfl, rfl⟩
theorem z68_25 : zb (.if_icmp .gt) 68 25 114 28 := ⟨89, ⟨rfl, rfl, rfl⟩, rfl⟩
theorem z68_28 : za 68 28 (.aload_n 0) 29 := ⟨rfl, rfl, rfl⟩
theorem z68_29 : za 68 29 (.aload_n 0) 30 := ⟨rfl, rfl, rfl⟩
theorem z68_30 : za_f 68 30 4 6 33 := ⟨31, 0, .null, ⟨rfl, rfl, rfl⟩, rfl, Or.inl rfl⟩
theorem z68_33 : za_p 68 33 4 9 36 := ⟨41, 0, .null, ⟨rfl, rfl, rfl⟩, rfl, Or.inl rfl⟩
theorem z68_36 : za 68 36 (.iload_n 3) 37 := ⟨rfl, rfl, rfl⟩
theorem z68_37 : za 68 37 (.istore 5) 39 := ⟨rfl, rfl, rfl⟩
theorem z68_39 : za 68 39 (.iload 5) 41 := ⟨rfl, rfl, rfl⟩
theorem z68_41 : za 68 41 (.aload_n 0) 42 := ⟨rfl, rfl, rfl⟩
theorem z68_42 : za_f 68 42 4 9 45 := ⟨41, 0, .null, ⟨rfl, rfl, rfl⟩, rfl, Or.inl rfl⟩
theorem z68_45 : zb (.if_icmp .ge) 68 45 68 48 := ⟨23, ⟨rfl, rfl, rfl⟩, rfl⟩
theorem z68_48 : za 68 48 (.aload_n 0) 49 := ⟨rfl, rfl, rfl⟩
theorem z68_49 : za_f 68 49 4 8 52 := ⟨38, 0, .null, ⟨rfl, rfl, rfl⟩, rfl, Or.inl rfl⟩
theorem z68_52 : za 68 52 (.iconst (-1)) 53 := ⟨rfl, rfl, rfl⟩
theorem z68_53 : zb (.if_icmp .ne) 68 53 68 56 := ⟨15, ⟨rfl, rfl, rfl⟩, rfl⟩
theorem z68_56 : za 68 56 (.aload_n 0) 57 := ⟨rfl, rfl, rfl⟩
theorem z68_57 : za 68 57 (.iload 5) 59 := ⟨rfl, rfl, rfl⟩
theorem z68_59 : za_v 68 59 70 1 4 62 := ⟨59, ⟨rfl, rfl, rfl⟩, rfl⟩
theorem z68_62 : za 68 62 (.iinc 5 (1)) 65 := ⟨rfl, rfl, rfl⟩
theorem z68_65 : zb (.goto) 68 65 39 68 := ⟨(-26), ⟨rfl, rfl, rfl⟩, rfl⟩
theorem z68_68 : za 68 68 (.aload_n 0) 69 := ⟨rfl, rfl, rfl⟩
theorem z68_69 : za_f 68 69 4 8 72 := ⟨38, 0, .null, ⟨rfl, rfl, rfl⟩, rfl, Or.inl rfl⟩
theorem z68_72 : za 68 72 (.iconst (-1)) 73 := ⟨rfl, rfl, rfl⟩
theorem z68_73 : zb (.if_icmp .eq) 68 73 79 76 := ⟨6, ⟨rfl, rfl, rfl⟩, rfl⟩
theorem z68_76 : za 68 76 (.iload 4) 78 := ⟨rfl, rfl, rfl⟩
theorem z68_78 : za 68 78 (.ireturn) 79 := ⟨rfl, rfl, rfl⟩
theorem z68_79 : za 68 79 (.aload_n 0) 80 := ⟨rfl, rfl, rfl⟩
theorem z68_80 : za_f 68 80 4 7 83 := ⟨34, 0, .null, ⟨rfl, rfl, rfl⟩, rfl, Or.inl rfl⟩
theorem z68_83 : zb (.ifCond .eq) 68 83 89 86 := ⟨6, ⟨rfl, rfl, rfl⟩, rfl⟩
theorem z68_86 : za 68 86 (.bipush (-2)) 88 := ⟨rfl, rfl, rfl⟩
theorem z68_88 : za 68 88 (.ireturn) 89 := ⟨rfl, rfl, rfl⟩
theorem z68_89 : za 68 89 (.aload_n 0) 90 := ⟨rfl, rfl, rfl⟩
theorem z68_90 : za_f 68 90 4 6 93 := ⟨31, 0, .null, ⟨rfl, rfl, rfl⟩, rfl, Or.inl rfl⟩
theorem z68_93 : za 68 93 (.aload_n 0) 94 := ⟨rfl, rfl, rfl⟩
theorem z68_94 : za_f 68 94 4 9 97 := ⟨41, 0, .null, ⟨rfl, rfl, rfl⟩, rfl, Or.inl rfl⟩
theorem z68_97 : zb (.if_icmp .ne) 68 97 103 100 := ⟨6, ⟨rfl, rfl, rfl⟩, rfl⟩
theorem z68_100 : za 68 100 (.bipush (-3)) 102 := ⟨rfl, rfl, rfl⟩
theorem z68_102 : za 68 102 (.ireturn) 103 := ⟨rfl, rfl, rfl⟩
theorem z68_103 : za 68 103 (.aload_n 0) 104 := ⟨rfl, rfl, rfl⟩
theorem z68_104 : za_f 68 104 4 9 107 := ⟨41, 0, .null, ⟨rfl, rfl, rfl⟩, rfl, Or.inl rfl⟩
theorem z68_107 : za 68 107 (.istore_n 3) 108 := ⟨rfl, rfl, rfl⟩
theorem z68_108 : za 68 108 (.iinc 4 (1)) 111 := ⟨rfl, rfl, rfl⟩
theorem z68_111 : zb (.goto) 68 111 20 114 := ⟨(-91), ⟨rfl, rfl, rfl⟩, rfl⟩
theorem z68_114 : za 68 114 (.bipush (-2)) 116 := ⟨rfl, rfl, rfl⟩
theorem z68_116 : za 68 116 (.ireturn) 117 := ⟨rfl, rfl, rfl⟩
theorem z69_0 : za 69 0 (.aload_n 0) 1 := ⟨rfl, rfl, rfl⟩
theorem z69_1 : za 69 1 (.iload_n 2) 2 := ⟨rfl, rfl, rfl⟩
theorem z69_2 : za_p 69 2 4 5 5 := ⟨27, 0, .null, ⟨rfl, rfl, rfl⟩, rfl, Or.inl rfl⟩
theorem z69_5 : za 69 5 (.aload_n 0) 6 := ⟨rfl, rfl, rfl⟩
theorem z69_6 : za 69 6 (.iconst 0) 7 := ⟨rfl, rfl, rfl⟩
theorem z69_7 : za_p 69 7 4 7 10 := ⟨34, 0, .null, ⟨rfl, rfl, rfl⟩, rfl, Or.inl rfl⟩
theorem z69_10 : za 69 10 (.aload_n 0) 11 := ⟨rfl, rfl, rfl⟩
theorem z69_11 : za 69 11 (.iconst (-1)) 12 := ⟨rfl, rfl, rfl⟩
theorem z69_12 : za_p 69 12 4 8 15 := ⟨38, 0, .null, ⟨rfl, rfl, rfl⟩, rfl, Or.inl rfl⟩
theorem z69_15 : za 69 15 (.aload_n 0) 16 := ⟨rfl, rfl, rfl⟩
theorem z69_16 : za 69 16 (.iconst 0) 17 := ⟨rfl, rfl, rfl⟩
theorem z69_17 : za_p 69 17 4 9 20 := ⟨41, 0, .null, ⟨rfl, rfl, rfl⟩, rfl, Or.inl rfl⟩
theorem z69_20 : za 69 20 (.aload_n 0) 21 := ⟨rfl, rfl, rfl⟩
theorem z69_21 : za_f 69 21 4 4 24 := ⟨24, 9, .null, ⟨rfl, rfl, rfl⟩, rfl, Or.inr (Or.inr rfl)⟩
theorem z69_24 : za 69 24 (.iconst 0) 25 := ⟨rfl, rfl, rfl⟩
theorem z69_25 : za_s 69 25 134 2 28 := ⟨63, .null, ⟨rfl, rfl, rfl⟩, rfl⟩
theorem z69_28 : za 69 28 (.aload_n 0) 29 := ⟨rfl, rfl, rfl⟩
theorem z69_29 : za_f 69 29 4 1 32 := ⟨11, 9, .null, ⟨rfl, rfl, rfl⟩, rfl, Or.inr (Or.inr rfl)⟩
theorem z69_32 : za 69 32 (.iconst 0) 33 := ⟨rfl, rfl, rfl⟩
theorem z69_33 : za 69 33 (.aaload) 34 := ⟨rfl, rfl, rfl⟩
theorem z69_34 : za 69 34 (.aload_n 1) 35 := ⟨rfl, rfl, rfl⟩
theorem z69_35 : za_v 69 35 41 1 2 38 := ⟨69, ⟨rfl, rfl, rfl⟩, rfl⟩
theorem z69_38 : za 69 38 (.aload_n 0) 39 := ⟨rfl, rfl, rfl⟩
theorem z69_39 : za_f 69 39 4 2 42 := ⟨17, 9, .null, ⟨rfl, rfl, rfl⟩, rfl, Or.inr (Or.inr rfl)⟩
theorem z69_42 : za 69 42 (.iconst 0) 43 := ⟨rfl, rfl, rfl⟩
theorem z69_43 : za 69 43 (.aload_n 0) 44 := ⟨rfl, rfl, rfl⟩
theorem z69_44 : za 69 44 (.aload_n 1) 45 := ⟨rfl, rfl, rfl⟩
theorem z69_45 : za_v 69 45 74 1 4 48 := ⟨73, ⟨rfl, rfl, rfl⟩, rfl⟩
theorem z69_48 : za 69 48 (.iastore) 49 := ⟨rfl, rfl, rfl⟩
theorem z69_49 : za 69 49 (.aload_n 0) 50 := ⟨rfl, rfl, rfl⟩
theorem z69_50 : za_f 69 50 4 4 53 := ⟨24, 9, .null, ⟨rfl, rfl, rfl⟩, rfl, Or.inr (Or.inr rfl)⟩
theorem z69_53 : za 69 53 (.aload_n 0) 54 := ⟨rfl, rfl, rfl⟩
theorem z69_54 : za_f 69 54 4 2 57 := ⟨17, 9, .null, ⟨rfl, rfl, rfl⟩, rfl, Or.inr (Or.inr rfl)⟩
theorem z69_57 : za 69 57 (.iconst 0) 58 := ⟨rfl, rfl, rfl⟩
theorem z69_58 : za 69 58 (.iaload) 59 := ⟨rfl, rfl, rfl⟩
theorem z69_59 : za 69 59 (.sipush (511)) 62 := ⟨rfl, rfl, rfl⟩
theorem z69_62 : za 69 62 (.iand) 63 := ⟨rfl, rfl, rfl⟩
theorem z69_63 : za 69 63 (.iconst 1) 64 := ⟨rfl, rfl, rfl⟩
theorem z69_64 : za 69 64 (.iastore) 65 := ⟨rfl, rfl, rfl⟩
theorem z69_65 : za 69 65 (.aload_n 0) 66 := ⟨rfl, rfl, rfl⟩
theorem z69_66 : za 69 66 (.iconst 1) 67 := ⟨rfl, rfl, rfl⟩
theorem z69_67 : za_p 69 67 4 6 70 := ⟨31, 0, .null, ⟨rfl, rfl, rfl⟩, rfl, Or.inl rfl⟩
theorem z69_70 : za 69 70 (.return_) 71 := ⟨rfl, rfl, rfl⟩
theorem z70_0 : za 70 0 (.aload_n 0) 1 := ⟨rfl, rfl, rfl⟩
theorem z70_1 : za_f 70 1 4 1 4 := ⟨11, 9, .null, ⟨rfl, rfl, rfl⟩, rfl, Or.inr (Or.inr rfl)⟩
theorem z70_4 : za 70 4 (.iload_n 1) 5 := ⟨rfl, rfl, rfl⟩
theorem z70_5 : za 70 5 (.aaload) 6 := ⟨rfl, rfl, rfl⟩
theorem z70_6 : za 70 6 (.astore_n 2) 7 := ⟨rfl, rfl, rfl⟩
theorem z70_7 : za 70 7 (.iconst 0) 8 := ⟨rfl, rfl, rfl⟩
theorem z70_8 : za 70 8 (.istore_n 3) 9 := ⟨rfl, rfl, rfl⟩
theorem z70_9 : za 70 9 (.iload_n 3) 10 := ⟨rfl, rfl, rfl⟩
theorem z70_10 : za 70 10 (.bipush (12)) 12 := ⟨rfl, rfl, rfl⟩
theorem z70_12 : zb (.if_icmp .ge) 70 12 55 15 := ⟨43, ⟨rfl, rfl, rfl⟩, rfl⟩
theorem z70_15 : za 70 15 (.iconst 0) 16 := ⟨rfl, rfl, rfl⟩
theorem z70_16 : za 70 16 (.istore 4) 18 := ⟨rfl, rfl, rfl⟩
theorem z70_18 : za 70 18 (.iload 4) 20 := ⟨rfl, rfl, rfl⟩
theorem z70_20 : za 70 20 (.bipush (12)) 22 := ⟨rfl, rfl, rfl⟩
theorem z70_22 : zb (.if_icmp .gt) 70 22 49 25 := ⟨27, ⟨rfl, rfl, rfl⟩, rfl⟩
theorem z70_25 : za 70 25 (.aload_n 2) 26 := ⟨rfl, rfl, rfl⟩
theorem z70_26 : za 70 26 (.iload_n 3) 27 := ⟨rfl, rfl, rfl⟩
theorem z70_27 : za 70 27 (.iload 4) 29 := ⟨rfl, rfl, rfl⟩
theorem z70_29 : za_v 70 29 50 2 2 32 := ⟨77, ⟨rfl, rfl, rfl⟩, rfl⟩
theorem z70_32 : zb (.ifCond .eq) 70 32 43 35 := ⟨11, ⟨rfl, rfl, rfl⟩, rfl⟩
theorem z70_35 : za 70 35 (.aload_n 0) 36 := ⟨rfl, rfl, rfl⟩
theorem z70_36 : za 70 36 (.iload_n 1) 37 := ⟨rfl, rfl, rfl⟩
theorem z70_37 : za 70 37 (.iload_n 3) 38 := ⟨rfl, rfl, rfl⟩
theorem z70_38 : za 70 38 (.iload 4) 40 := ⟨rfl, rfl, rfl⟩
theorem z70_40 : za_v 70 40 71 3 4 43 := ⟨81, ⟨rfl, rfl, rfl⟩, rfl⟩
theorem z70_43 : za 70 43 (.iinc 4 (1)) 46 := ⟨rfl, rfl, rfl⟩
theorem z70_46 : zb (.goto) 70 46 18 49 := ⟨(-28), ⟨rfl, rfl, rfl⟩, rfl⟩
theorem z70_49 : za 70 49 (.iinc 3 (1)) 52 := ⟨rfl, rfl, rfl⟩
theorem z70_52 : zb (.goto) 70 52 9 55 := ⟨(-43), ⟨rfl, rfl, rfl⟩, rfl⟩
theorem z70_55 : za 70 55 (.return_) 56 := ⟨rfl, rfl, rfl⟩
theorem z71_0 : za 71 0 (.aload_n 0) 1 := ⟨rfl, rfl, rfl⟩
theorem z71_1 : za_f 71 1 4 1 4 := ⟨11, 9, .null, ⟨rfl, rfl, rfl⟩, rfl, Or.inr (Or.inr rfl)⟩
theorem z71_4 : za 71 4 (.iload_n 1) 5 := ⟨rfl, rfl, rfl⟩
theorem z71_5 : za 71 5 (.aaload) 6 := ⟨rfl, rfl, rfl⟩
theorem z71_6 : za 71 6 (.astore 4) 8 := ⟨rfl, rfl, rfl⟩
theorem z71_8 : za 71 8 (.iload_n 1) 9 := ⟨rfl, rfl, rfl⟩
theorem z71_9 : zb (.ifCond .ne) 71 9 21 12 := ⟨12, ⟨rfl, rfl, rfl⟩, rfl⟩
theorem z71_12 : za 71 12 (.bipush (16)) 14 := ⟨rfl, rfl, rfl⟩
theorem z71_14 : za 71 14 (.iload_n 2) 15 := ⟨rfl, rfl, rfl⟩
theorem z71_15 : za 71 15 (.imul) 16 := ⟨rfl, rfl, rfl⟩
theorem z71_16 : za 71 16 (.iload_n 3) 17 := ⟨rfl, rfl, rfl⟩
theorem z71_17 : za 71 17 (.iadd) 18 := ⟨rfl, rfl, rfl⟩
theorem z71_18 : zb (.goto) 71 18 27 21 := ⟨9, ⟨rfl, rfl, rfl⟩, rfl⟩
theorem z71_21 : za 71 21 (.aload_n 0) 22 := ⟨rfl, rfl, rfl⟩
theorem z71_22 : za_f 71 22 4 3 25 := ⟨21, 9, .null, ⟨rfl, rfl, rfl⟩, rfl, Or.inr (Or.inr rfl)⟩
theorem z71_25 : za 71 25 (.iload_n 1) 26 := ⟨rfl, rfl, rfl⟩
theorem z71_26 : za 71 26 (.iaload) 27 := ⟨rfl, rfl, rfl⟩
theorem z71_27 : za 71 27 (.istore 5) 29 := ⟨rfl, rfl, rfl⟩
theorem z71_29 : za 71 29 (.iload_n 3) 30 := ⟨rfl, rfl, rfl⟩
theorem z71_30 : za 71 30 (.bipush (12)) 32 := ⟨rfl, rfl, rfl⟩
theorem z71_32 : zb (.if_icmp .ne) 71 32 59 35 := ⟨27, ⟨rfl, rfl, rfl⟩, rfl⟩
theorem z71_35 : za 71 35 (.aload 4) 37 := ⟨rfl, rfl, rfl⟩
theorem z71_37 : za_f 71 37 2 5 40 := ⟨85, 0, .null, ⟨rfl, rfl, rfl⟩, rfl, Or.inl rfl⟩
theorem z71_40 : za 71 40 (.iconst 1) 41 := ⟨rfl, rfl, rfl⟩
theorem z71_41 : za 71 41 (.iadd) 42 := ⟨rfl, rfl, rfl⟩
theorem z71_42 : za 71 42 (.aload_n 0) 43 := ⟨rfl, rfl, rfl⟩
theorem z71_43 : za_f 71 43 4 0 46 := ⟨44, 9, .null, ⟨rfl, rfl, rfl⟩, rfl, Or.inr (Or.inr rfl)⟩
theorem z71_46 : za_v 71 46 32 0 1 49 := ⟨88, ⟨rfl, rfl, rfl⟩, rfl⟩
theorem z71_49 : zb (.if_icmp .ne) 71 49 59 52 := ⟨10, ⟨rfl, rfl, rfl⟩, rfl⟩
theorem z71_52 : za 71 52 (.aload_n 0) 53 := ⟨rfl, rfl, rfl⟩
theorem z71_53 : za 71 53 (.iload 5) 55 := ⟨rfl, rfl, rfl⟩
theorem z71_55 : za_p 71 55 4 8 58 := ⟨38, 0, .null, ⟨rfl, rfl, rfl⟩, rfl, Or.inl rfl⟩
theorem z71_58 : za 71 58 (.return_) 59 := ⟨rfl, rfl, rfl⟩
theorem z71_59 : za 71 59 (.aload_n 0) 60 := ⟨rfl, rfl, rfl⟩
theorem z71_60 : za_f 71 60 4 7 63 := ⟨34, 0, .null, ⟨rfl, rfl, rfl⟩, rfl, Or.inl rfl⟩
theorem z71_63 : zb (.ifCond .eq) 71 63 67 66 := ⟨4, ⟨rfl, rfl, rfl⟩, rfl⟩
theorem z71_66 : za 71 66 (.return_) 67 := ⟨rfl, rfl, rfl⟩
theorem z71_67 : za 71 67 (.aload 4) 69 := ⟨rfl, rfl, rfl⟩
theorem z71_69 : za_f 71 69 2 2 72 := ⟨94, 9, .null, ⟨rfl, rfl, rfl⟩, rfl, Or.inr (Or.inr rfl)⟩
theorem z71_72 : za 71 72 (.iload_n 2) 73 := ⟨rfl, rfl, rfl⟩
theorem z71_73 : za 71 73 (.iaload) 74 := ⟨rfl, rfl, rfl⟩
theorem z71_74 : za 71 74 (.istore 6) 76 := ⟨rfl, rfl, rfl⟩
theorem z71_76 : za 71 76 (.aload 4) 78 := ⟨rfl, rfl, rfl⟩
theorem z71_78 : za 71 78 (.iload_n 3) 79 := ⟨rfl, rfl, rfl⟩
theorem z71_79 : za_v 71 79 61 1 2 82 := ⟨97, ⟨rfl, rfl, rfl⟩, rfl⟩
theorem z71_82 : za 71 82 (.istore 7) 84 := ⟨rfl, rfl, rfl⟩
theorem z71_84 : za 71 84 (.aload_n 0) 85 := ⟨rfl, rfl, rfl⟩
theorem z71_85 : za_f 71 85 4 2 88 := ⟨17, 9, .null, ⟨rfl, rfl, rfl⟩, rfl, Or.inr (Or.inr rfl)⟩
theorem z71_88 : za 71 88 (.iload_n 1) 89 := ⟨rfl, rfl, rfl⟩
theorem z71_89 : za 71 89 (.iaload) 90 := ⟨rfl, rfl, rfl⟩
theorem z71_90 : za 71 90 (.iload 6) 92 := ⟨rfl, rfl, rfl⟩
theorem z71_92 : za 71 92 (.aload 4) 94 := ⟨rfl, rfl, rfl⟩
theorem z71_94 : za_f 71 94 2 1 97 := ⟨101, 9, .null, ⟨rfl, rfl, rfl⟩, rfl, Or.inr (Or.inr rfl)⟩
theorem z71_97 : za 71 97 (.iload 6) 99 := ⟨rfl, rfl, rfl⟩
theorem z71_99 : za 71 99 (.iaload) 100 := ⟨rfl, rfl, rfl⟩
theorem z71_100 : za_s 71 100 75 2 103 := ⟨104, .null, ⟨rfl, rfl, rfl⟩, rfl⟩
theorem z71_103 : za 71 103 (.isub) 104 := ⟨rfl, rfl, rfl⟩
theorem z71_104 : za 71 104 (.iload 6) 106 := ⟨rfl, rfl, rfl⟩
theorem z71_106 : za 71 106 (.iload 7) 108 := ⟨rfl, rfl, rfl⟩
theorem z71_108 : za_s 71 108 75 2 111 := ⟨104, .null, ⟨rfl, rfl, rfl⟩, rfl⟩
theorem z71_111 : za 71 111 (.iadd) 112 := ⟨rfl, rfl, rfl⟩
theorem z71_112 : za 71 112 (.istore 8) 114 := ⟨rfl, rfl, rfl⟩
theorem z71_114 : za 71 114 (.aload_n 0) 115 := ⟨rfl, rfl, rfl⟩
theorem z71_115 : za 71 115 (.iload 8) 117 := ⟨rfl, rfl, rfl⟩
theorem z71_117 : za 71 117 (.aload 4) 119 := ⟨rfl, rfl, rfl⟩
theorem z71_119 : za 71 119 (.iload 6) 121 := ⟨rfl, rfl, rfl⟩
theorem z71_121 : za 71 121 (.iload 7) 123 := ⟨rfl, rfl, rfl⟩
theorem z71_123 : za_v 71 123 72 4 4 126 := ⟨108, ⟨rfl, rfl, rfl⟩, rfl⟩
theorem z71_126 : za 71 126 (.istore 9) 128 := ⟨rfl, rfl, rfl⟩
theorem z71_128 : za 71 128 (.aload_n 0) 129 := ⟨rfl, rfl, rfl⟩
theorem z71_129 : za_f 71 129 4 4 132 := ⟨24, 9, .null, ⟨rfl, rfl, rfl⟩, rfl, Or.inr (Or.inr rfl)⟩
theorem z71_132 : za 71 132 (.iload 9) 134 := ⟨rfl, rfl, rfl⟩
theorem z71_134 : za 71 134 (.iaload) 135 := ⟨rfl, rfl, rfl⟩
theorem z71_135 : zb (.ifCond .eq) 71 135 139 138 := ⟨4, ⟨rfl, rfl, rfl⟩, rfl⟩
theorem z71_138 : za 71 138 (.return_) 139 := ⟨rfl, rfl, rfl⟩
theorem z71_139 : za 71 139 (.aload_n 0) 140 := ⟨rfl, rfl, rfl⟩
theorem z71_140 : za_f 71 140 4 6 143 := ⟨31, 0, .null, ⟨rfl, rfl, rfl⟩, rfl, Or.inl rfl⟩
theorem z71_143 : za 71 143 (.aload_n 0) 144 := ⟨rfl, rfl, rfl⟩
theorem z71_144 : za_f 71 144 4 5 147 := ⟨27, 0, .null, ⟨rfl, rfl, rfl⟩, rfl, Or.inl rfl⟩
theorem z71_147 : zb (.if_icmp .lt) 71 147 156 150 := ⟨9, ⟨rfl, rfl, rfl⟩, rfl⟩
theorem z71_150 : za 71 150 (.aload_n 0) 151 := ⟨rfl, rfl, rfl⟩
theorem z71_151 : za 71 151 (.iconst 1) 152 := ⟨rfl, rfl, rfl⟩
theorem z71_152 : za_p 71 152 4 7 155 := ⟨34, 0, .null, ⟨rfl, rfl, rfl⟩, rfl, Or.inl rfl⟩
theorem z71_155 : za 71 155 (.return_) 156 := ⟨rfl, rfl, rfl⟩
theorem z71_156 : za 71 156 (.aload_n 0) 157 := ⟨rfl, rfl, rfl⟩
theorem z71_157 : za_f 71 157 4 1 160 := ⟨11, 9, .null, ⟨rfl, rfl, rfl⟩, rfl, Or.inr (Or.inr rfl)⟩
theorem z71_160 : za 71 160 (.aload_n 0) 161 := ⟨rfl, rfl, rfl⟩
theorem z71_161 : za_f 71 161 4 6 164 := ⟨31, 0, .null, ⟨rfl, rfl, rfl⟩, rfl, Or.inl rfl⟩
theorem z71_164 : za 71 164 (.aaload) 165 := ⟨rfl, rfl, rfl⟩
theorem z71_165 : za 71 165 (.aload 4) 167 := ⟨rfl, rfl, rfl⟩
theorem z71_167 : za_v 71 167 41 1 2 170 := ⟨69, ⟨rfl, rfl, rfl⟩, rfl⟩
theorem z71_170 : za 71 170 (.aload_n 0) 171 := ⟨rfl, rfl, rfl⟩
theorem z71_171 : za_f 71 171 4 1 174 := ⟨11, 9, .null, ⟨rfl, rfl, rfl⟩, rfl, Or.inr (Or.inr rfl)⟩
theorem z71_174 : za 71 174 (.aload_n 0) 175 := ⟨rfl, rfl, rfl⟩
theorem z71_175 : za_f 71 175 4 6 178 := ⟨31, 0, .null, ⟨rfl, rfl, rfl⟩, rfl, Or.inl rfl⟩
theorem z71_178 : za 71 178 (.aaload) 179 := ⟨rfl, rfl, rfl⟩
theorem z71_179 : za 71 179 (.iload 6) 181 := ⟨rfl, rfl, rfl⟩
theorem z71_181 : za 71 181 (.iload_n 2) 182 := ⟨rfl, rfl, rfl⟩
theorem z71_182 : za 71 182 (.iload_n 3) 183 := ⟨rfl, rfl, rfl⟩
theorem z71_183 : za_v 71 183 62 3 2 186 := ⟨112, ⟨rfl, rfl, rfl⟩, rfl⟩
theorem z71_186 : za 71 186 (.aload_n 0) 187 := ⟨rfl, rfl, rfl⟩
theorem z71_187 : za_f 71 187 4 2 190 := ⟨17, 9, .null, ⟨rfl, rfl, rfl⟩, rfl, Or.inr (Or.inr rfl)⟩
theorem z71_190 : za 71 190 (.aload_n 0) 191 := ⟨rfl, rfl, rfl⟩
theorem z71_191 : za_f 71 191 4 6 194 := ⟨31, 0, .null, ⟨rfl, rfl, rfl⟩, rfl, Or.inl rfl⟩
theorem z71_194 : za 71 194 (.iload 8) 196 := ⟨rfl, rfl, rfl⟩
theorem z71_196 : za 71 196 (.iastore) 197 := ⟨rfl, rfl, rfl⟩
theorem z71_197 : za 71 197 (.aload_n 0) 198 := ⟨rfl, rfl, rfl⟩
theorem z71_198 : za_f 71 198 4 3 201 := ⟨21, 9, .null, ⟨rfl, rfl, rfl⟩, rfl, Or.inr (Or.inr rfl)⟩
set_option maxRecDepth 20000 in
theorem z71_201 : za 71 201 (.aload_n 0) 202 := ⟨rfl, rfl, rfl⟩
set_option maxRecDepth 20000 in
theorem z71_202 : za_f 71 202 4 6 205 := ⟨31, 0, .null, ⟨rfl, rfl, rfl⟩, rfl, Or.inl rfl⟩
set_option maxRecDepth 20000 in
theorem z71_205 : za 71 205 (.iload 5) 207 := ⟨rfl, rfl, rfl⟩
set_option maxRecDepth 20000 in
theorem z71_207 : za 71 207 (.iastore) 208 := ⟨rfl, rfl, rfl⟩
set_option maxRecDepth 20000 in
theorem z71_208 : za 71 208 (.aload_n 0) 209 := ⟨rfl, rfl, rfl⟩
set_option maxRecDepth 20000 in
theorem z71_209 : za 71 209 (.dup) 210 := ⟨rfl, rfl, rfl⟩
set_option maxRecDepth 20000 in
theorem z71_210 : za_f 71 210 4 6 213 := ⟨31, 0, .null, ⟨rfl, rfl, rfl⟩, rfl, Or.inl rfl⟩
set_option maxRecDepth 20000 in
theorem z71_213 : za 71 213 (.iconst 1) 214 := ⟨rfl, rfl, rfl⟩
set_option maxRecDepth 20000 in
theorem z71_214 : za 71 214 (.iadd) 215 := ⟨rfl, rfl, rfl⟩
set_option maxRecDepth 20000 in
theorem z71_215 : za_p 71 215 4 6 218 := ⟨31, 0, .null, ⟨rfl, rfl, rfl⟩, rfl, Or.inl rfl⟩
set_option maxRecDepth 20000 in
theorem z71_218 : za 71 218 (.aload_n 0) 219 := ⟨rfl, rfl, rfl⟩
set_option maxRecDepth 20000 in
theorem z71_219 : za_f 71 219 4 4 222 := ⟨24, 9, .null, ⟨rfl, rfl, rfl⟩, rfl, Or.inr (Or.inr rfl)⟩
set_option maxRecDepth 20000 in
theorem z71_222 : za 71 222 (.iload 9) 224 := ⟨rfl, rfl, rfl⟩
set_option maxRecDepth 20000 in
theorem z71_224 : za 71 224 (.aload_n 0) 225 := ⟨rfl, rfl, rfl⟩
set_option maxRecDepth 20000 in
theorem z71_225 : za_f 71 225 4 6 228 := ⟨31, 0, .null, ⟨rfl, rfl, rfl⟩, rfl, Or.inl rfl⟩
set_option maxRecDepth 20000 in
theorem z71_228 : za 71 228 (.iastore) 229 := ⟨rfl, rfl, rfl⟩
set_option maxRecDepth 20000 in
theorem z71_229 : za 71 229 (.return_) 230 := ⟨rfl, rfl, rfl⟩
theorem z72_0 : za 72 0 (.iload_n 1) 1 := ⟨rfl, rfl, rfl⟩
theorem z72_1 : za 72 1 (.sipush (511)) 4 := ⟨rfl, rfl, rfl⟩
theorem z72_4 : za 72 4 (.iand) 5 := ⟨rfl, rfl, rfl⟩
theorem z72_5 : za 72 5 (.istore 5) 7 := ⟨rfl, rfl, rfl⟩
theorem z72_7 : za 72 7 (.iconst 0) 8 := ⟨rfl, rfl, rfl⟩
theorem z72_8 : za 72 8 (.istore 6) 10 := ⟨rfl, rfl, rfl⟩
theorem z72_10 : za 72 10 (.iload 6) 12 := ⟨rfl, rfl, rfl⟩
theorem z72_12 : za 72 12 (.sipush (512)) 15 := ⟨rfl, rfl, rfl⟩
theorem z72_15 : zb (.if_icmp .ge) 72 15 87 18 := ⟨72, ⟨rfl, rfl, rfl⟩, rfl⟩
theorem z72_18 : za 72 18 (.aload_n 0) 19 := ⟨rfl, rfl, rfl⟩
theorem z72_19 : za_f 72 19 4 4 22 := ⟨24, 9, .null, ⟨rfl, rfl, rfl⟩, rfl, Or.inr (Or.inr rfl)⟩
theorem z72_22 : za 72 22 (.iload 5) 24 := ⟨rfl, rfl, rfl⟩
theorem z72_24 : za 72 24 (.iaload) 25 := ⟨rfl, rfl, rfl⟩
theorem z72_25 : zb (.ifCond .eq) 72 25 87 28 := ⟨62, ⟨rfl, rfl, rfl⟩, rfl⟩
theorem z72_28 : za 72 28 (.aload_n 0) 29 := ⟨rfl, rfl, rfl⟩
theorem z72_29 : za_f 72 29 4 4 32 := ⟨24, 9, .null, ⟨rfl, rfl, rfl⟩, rfl, Or.inr (Or.inr rfl)⟩
theorem z72_32 : za 72 32 (.iload 5) 34 := ⟨rfl, rfl, rfl⟩
theorem z72_34 : za 72 34 (.iaload) 35 := ⟨rfl, rfl, rfl⟩
theorem z72_35 : za 72 35 (.iconst 1) 36 := ⟨rfl, rfl, rfl⟩
theorem z72_36 : za 72 36 (.isub) 37 := ⟨rfl, rfl, rfl⟩
theorem z72_37 : za 72 37 (.istore 7) 39 := ⟨rfl, rfl, rfl⟩
theorem z72_39 : za 72 39 (.aload_n 0) 40 := ⟨rfl, rfl, rfl⟩
theorem z72_40 : za_f 72 40 4 2 43 := ⟨17, 9, .null, ⟨rfl, rfl, rfl⟩, rfl, Or.inr (Or.inr rfl)⟩
theorem z72_43 : za 72 43 (.iload 7) 45 := ⟨rfl, rfl, rfl⟩
theorem z72_45 : za 72 45 (.iaload) 46 := ⟨rfl, rfl, rfl⟩
theorem z72_46 : za 72 46 (.iload_n 1) 47 := ⟨rfl, rfl, rfl⟩
theorem z72_47 : zb (.if_icmp .ne) 72 47 71 50 := ⟨24, ⟨rfl, rfl, rfl⟩, rfl⟩
theorem z72_50 : za 72 50 (.aload_n 0) 51 := ⟨rfl, rfl, rfl⟩
theorem z72_51 : za 72 51 (.aload_n 0) 52 := ⟨rfl, rfl, rfl⟩
theorem z72_52 : za_f 72 52 4 1 55 := ⟨11, 9, .null, ⟨rfl, rfl, rfl⟩, rfl, Or.inr (Or.inr rfl)⟩
theorem z72_55 : za 72 55 (.iload 7) 57 := ⟨rfl, rfl, rfl⟩
theorem z72_57 : za 72 57 (.aaload) 58 := ⟨rfl, rfl, rfl⟩
theorem z72_58 : za 72 58 (.aload_n 2) 59 := ⟨rfl, rfl, rfl⟩
theorem z72_59 : za 72 59 (.iload_n 3) 60 := ⟨rfl, rfl, rfl⟩
theorem z72_60 : za 72 60 (.iload 4) 62 := ⟨rfl, rfl, rfl⟩
theorem z72_62 : za_v 72 62 73 4 4 65 := ⟨115, ⟨rfl, rfl, rfl⟩, rfl⟩
theorem z72_65 : zb (.ifCond .eq) 72 65 71 68 := ⟨6, ⟨rfl, rfl, rfl⟩, rfl⟩
theorem z72_68 : za 72 68 (.iload 5) 70 := ⟨rfl, rfl, rfl⟩
theorem z72_70 : za 72 70 (.ireturn) 71 := ⟨rfl, rfl, rfl⟩
theorem z72_71 : za 72 71 (.iload 5) 73 := ⟨rfl, rfl, rfl⟩
theorem z72_73 : za 72 73 (.iconst 1) 74 := ⟨rfl, rfl, rfl⟩
theorem z72_74 : za 72 74 (.iadd) 75 := ⟨rfl, rfl, rfl⟩
theorem z72_75 : za 72 75 (.sipush (511)) 78 := ⟨rfl, rfl, rfl⟩
theorem z72_78 : za 72 78 (.iand) 79 := ⟨rfl, rfl, rfl⟩
theorem z72_79 : za 72 79 (.istore 5) 81 := ⟨rfl, rfl, rfl⟩
theorem z72_81 : za 72 81 (.iinc 6 (1)) 84 := ⟨rfl, rfl, rfl⟩
theorem z72_84 : zb (.goto) 72 84 10 87 := ⟨(-74), ⟨rfl, rfl, rfl⟩, rfl⟩
theorem z72_87 : za 72 87 (.iload 5) 89 := ⟨rfl, rfl, rfl⟩
theorem z72_89 : za 72 89 (.ireturn) 90 := ⟨rfl, rfl, rfl⟩
theorem z73_0 : za 73 0 (.aload_n 0) 1 := ⟨rfl, rfl, rfl⟩
theorem z73_1 : za_f 73 1 4 0 4 := ⟨44, 9, .null, ⟨rfl, rfl, rfl⟩, rfl, Or.inr (Or.inr rfl)⟩
theorem z73_4 : za_v 73 4 32 0 1 7 := ⟨88, ⟨rfl, rfl, rfl⟩, rfl⟩
theorem z73_7 : za 73 7 (.istore 5) 9 := ⟨rfl, rfl, rfl⟩
theorem z73_9 : za 73 9 (.iconst 0) 10 := ⟨rfl, rfl, rfl⟩
theorem z73_10 : za 73 10 (.istore 6) 12 := ⟨rfl, rfl, rfl⟩
theorem z73_12 : za 73 12 (.iload 6) 14 := ⟨rfl, rfl, rfl⟩
theorem z73_14 : za 73 14 (.iload 5) 16 := ⟨rfl, rfl, rfl⟩
theorem z73_16 : zb (.if_icmp .ge) 73 16 59 19 := ⟨43, ⟨rfl, rfl, rfl⟩, rfl⟩
theorem z73_19 : za 73 19 (.iload 6) 21 := ⟨rfl, rfl, rfl⟩
theorem z73_21 : za 73 21 (.iload_n 3) 22 := ⟨rfl, rfl, rfl⟩
theorem z73_22 : zb (.if_icmp .ne) 73 22 30 25 := ⟨8, ⟨rfl, rfl, rfl⟩, rfl⟩
theorem z73_25 : za 73 25 (.iload 4) 27 := ⟨rfl, rfl, rfl⟩
theorem z73_27 : zb (.goto) 73 27 37 30 := ⟨10, ⟨rfl, rfl, rfl⟩, rfl⟩
theorem z73_30 : za 73 30 (.aload_n 2) 31 := ⟨rfl, rfl, rfl⟩
theorem z73_31 : za_f 73 31 2 1 34 := ⟨101, 9, .null, ⟨rfl, rfl, rfl⟩, rfl, Or.inr (Or.inr rfl)⟩
theorem z73_34 : za 73 34 (.iload 6) 36 := ⟨rfl, rfl, rfl⟩
theorem z73_36 : za 73 36 (.iaload) 37 := ⟨rfl, rfl, rfl⟩
theorem z73_37 : za 73 37 (.istore 7) 39 := ⟨rfl, rfl, rfl⟩
theorem z73_39 : za 73 39 (.aload_n 1) 40 := ⟨rfl, rfl, rfl⟩
theorem z73_40 : za_f 73 40 2 1 43 := ⟨101, 9, .null, ⟨rfl, rfl, rfl⟩, rfl, Or.inr (Or.inr rfl)⟩
theorem z73_43 : za 73 43 (.iload 6) 45 := ⟨rfl, rfl, rfl⟩
theorem z73_45 : za 73 45 (.iaload) 46 := ⟨rfl, rfl, rfl⟩
theorem z73_46 : za 73 46 (.iload 7) 48 := ⟨rfl, rfl, rfl⟩
theorem z73_48 : zb (.if_icmp .eq) 73 48 53 51 := ⟨5, ⟨rfl, rfl, rfl⟩, rfl⟩
theorem z73_51 : za 73 51 (.iconst 0) 52 := ⟨rfl, rfl, rfl⟩
theorem z73_52 : za 73 52 (.ireturn) 53 := ⟨rfl, rfl, rfl⟩
theorem z73_53 : za 73 53 (.iinc 6 (1)) 56 := ⟨rfl, rfl, rfl⟩
theorem z73_56 : zb (.goto) 73 56 12 59 := ⟨(-44), ⟨rfl, rfl, rfl⟩, rfl⟩
theorem z73_59 : za 73 59 (.iconst 1) 60 := ⟨rfl, rfl, rfl⟩
theorem z73_60 : za 73 60 (.ireturn) 61 := ⟨rfl, rfl, rfl⟩
theorem z74_0 : za 74 0 (.iconst 0) 1 := ⟨rfl, rfl, rfl⟩
theorem z74_1 : za 74 1 (.istore_n 2) 2 := ⟨rfl, rfl, rfl⟩
theorem z74_2 : za 74 2 (.aload_n 0) 3 := ⟨rfl, rfl, rfl⟩
theorem z74_3 : za_f 74 3 4 0 6 := ⟨44, 9, .null, ⟨rfl, rfl, rfl⟩, rfl, Or.inr (Or.inr rfl)⟩
theorem z74_6 : za_v 74 6 32 0 1 9 := ⟨88, ⟨rfl, rfl, rfl⟩, rfl⟩
theorem z74_9 : za 74 9 (.istore_n 3) 10 := ⟨rfl, rfl, rfl⟩
theorem z74_10 : za 74 10 (.iconst 0) 11 := ⟨rfl, rfl, rfl⟩
theorem z74_11 : za 74 11 (.istore 4) 13 := ⟨rfl, rfl, rfl⟩
theorem z74_13 : za 74 13 (.iload 4) 15 := ⟨rfl, rfl, rfl⟩
theorem z74_15 : za 74 15 (.iload_n 3) 16 := ⟨rfl, rfl, rfl⟩
theorem z74_16 : zb (.if_icmp .ge) 74 16 40 19 := ⟨24, ⟨rfl, rfl, rfl⟩, rfl⟩
theorem z74_19 : za 74 19 (.iload_n 2) 20 := ⟨rfl, rfl, rfl⟩
theorem z74_20 : za 74 20 (.iload 4) 22 := ⟨rfl, rfl, rfl⟩
theorem z74_22 : za 74 22 (.aload_n 1) 23 := ⟨rfl, rfl, rfl⟩
theorem z74_23 : za_f 74 23 2 1 26 := ⟨101, 9, .null, ⟨rfl, rfl, rfl⟩, rfl, Or.inr (Or.inr rfl)⟩
theorem z74_26 : za 74 26 (.iload 4) 28 := ⟨rfl, rfl, rfl⟩
theorem z74_28 : za 74 28 (.iaload) 29 := ⟨rfl, rfl, rfl⟩
theorem z74_29 : za_s 74 29 75 2 32 := ⟨104, .null, ⟨rfl, rfl, rfl⟩, rfl⟩
theorem z74_32 : za 74 32 (.iadd) 33 := ⟨rfl, rfl, rfl⟩
theorem z74_33 : za 74 33 (.istore_n 2) 34 := ⟨rfl, rfl, rfl⟩
theorem z74_34 : za 74 34 (.iinc 4 (1)) 37 := ⟨rfl, rfl, rfl⟩
theorem z74_37 : zb (.goto) 74 37 13 40 := ⟨(-24), ⟨rfl, rfl, rfl⟩, rfl⟩
theorem z74_40 : za 74 40 (.iload_n 2) 41 := ⟨rfl, rfl, rfl⟩
theorem z74_41 : za 74 41 (.ireturn) 42 := ⟨rfl, rfl, rfl⟩
theorem z75_0 : za 75 0 (.bipush (64)) 2 := ⟨rfl, rfl, rfl⟩
theorem z75_2 : za 75 2 (.iload_n 0) 3 := ⟨rfl, rfl, rfl⟩
theorem z75_3 : za 75 3 (.imul) 4 := ⟨rfl, rfl, rfl⟩
theorem z75_4 : za 75 4 (.iload_n 1) 5 := ⟨rfl, rfl, rfl⟩
theorem z75_5 : za 75 5 (.iadd) 6 := ⟨rfl, rfl, rfl⟩
theorem z75_6 : za 75 6 (.bipush (-4)) 8 := ⟨rfl, rfl, rfl⟩
theorem z75_8 : za 75 8 (.isub) 9 := ⟨rfl, rfl, rfl⟩
theorem z75_9 : za_c 75 9 11 (-1640531535) := ⟨119, 0, 0, ⟨rfl, rfl, rfl⟩, rfl⟩
theorem z75_11 : za 75 11 (.imul) 12 := ⟨rfl, rfl, rfl⟩
theorem z75_12 : za 75 12 (.istore_n 2) 13 := ⟨rfl, rfl, rfl⟩
theorem z75_13 : za 75 13 (.iload_n 2) 14 := ⟨rfl, rfl, rfl⟩
theorem z75_14 : za 75 14 (.iload_n 2) 15 := ⟨rfl, rfl, rfl⟩
theorem z75_15 : za 75 15 (.bipush (15)) 17 := ⟨rfl, rfl, rfl⟩
theorem z75_17 : za 75 17 (.iushr) 18 := ⟨rfl, rfl, rfl⟩
theorem z75_18 : za 75 18 (.ixor) 19 := ⟨rfl, rfl, rfl⟩
theorem z75_19 : za_c 75 19 21 (-2048144777) := ⟨120, 0, 0, ⟨rfl, rfl, rfl⟩, rfl⟩
theorem z75_21 : za 75 21 (.imul) 22 := ⟨rfl, rfl, rfl⟩
theorem z75_22 : za 75 22 (.istore_n 2) 23 := ⟨rfl, rfl, rfl⟩
theorem z75_23 : za 75 23 (.iload_n 2) 24 := ⟨rfl, rfl, rfl⟩
theorem z75_24 : za 75 24 (.iload_n 2) 25 := ⟨rfl, rfl, rfl⟩
theorem z75_25 : za 75 25 (.bipush (13)) 27 := ⟨rfl, rfl, rfl⟩
theorem z75_27 : za 75 27 (.iushr) 28 := ⟨rfl, rfl, rfl⟩
theorem z75_28 : za 75 28 (.ixor) 29 := ⟨rfl, rfl, rfl⟩
theorem z75_29 : za 75 29 (.ireturn) 30 := ⟨rfl, rfl, rfl⟩
end
section
/-! What stands at a pc: method 76 on. By program (gen/at.py). -/
theorem z76_0 : za 76 0 (.aload_n 0) 1 := ⟨rfl, rfl, rfl⟩
theorem z76_1 : za_o 76 1 4 := ⟨1, 0, .null, ⟨rfl, rfl, rfl⟩, rfl⟩
theorem z76_4 : za 76 4 (.aload_n 0) 5 := ⟨rfl, rfl, rfl⟩
theorem z76_5 : za 76 5 (.bipush (8)) 7 := ⟨rfl, rfl, rfl⟩
theorem z76_7 : za_p 76 7 5 1 10 := ⟨7, 0, .null, ⟨rfl, rfl, rfl⟩, rfl, Or.inl rfl⟩
theorem z76_10 : za 76 10 (.aload_n 0) 11 := ⟨rfl, rfl, rfl⟩
theorem z76_11 : za 76 11 (.iconst 4) 12 := ⟨rfl, rfl, rfl⟩
theorem z76_12 : za_p 76 12 5 2 15 := ⟨13, 0, .null, ⟨rfl, rfl, rfl⟩, rfl, Or.inl rfl⟩
theorem z76_15 : za 76 15 (.aload_n 0) 16 := ⟨rfl, rfl, rfl⟩
theorem z76_16 : za 76 16 (.iconst 4) 17 := ⟨rfl, rfl, rfl⟩
theorem z76_17 : za_p 76 17 5 5 20 := ⟨16, 0, .null, ⟨rfl, rfl, rfl⟩, rfl, Or.inl rfl⟩
theorem z76_20 : za 76 20 (.aload_n 0) 21 := ⟨rfl, rfl, rfl⟩
theorem z76_21 : za 76 21 (.bipush (13)) 23 := ⟨rfl, rfl, rfl⟩
theorem z76_23 : za_p 76 23 5 6 26 := ⟨19, 0, .null, ⟨rfl, rfl, rfl⟩, rfl, Or.inl rfl⟩
theorem z76_26 : za 76 26 (.aload_n 0) 27 := ⟨rfl, rfl, rfl⟩
theorem z76_27 : za 76 27 (.sipush (416)) 30 := ⟨rfl, rfl, rfl⟩
theorem z76_30 : za 76 30 (.newarray .int) 32 := ⟨rfl, rfl, rfl⟩
theorem z76_32 : za_p 76 32 5 7 35 := ⟨22, 8, .null, ⟨rfl, rfl, rfl⟩, rfl, Or.inr rfl⟩
theorem z76_35 : za 76 35 (.aload_n 0) 36 := ⟨rfl, rfl, rfl⟩
theorem z76_36 : za 76 36 (.bipush (8)) 38 := ⟨rfl, rfl, rfl⟩
theorem z76_38 : za 76 38 (.newarray .int) 40 := ⟨rfl, rfl, rfl⟩
theorem z76_40 : za_p 76 40 5 8 43 := ⟨26, 8, .null, ⟨rfl, rfl, rfl⟩, rfl, Or.inr rfl⟩
theorem z76_43 : za 76 43 (.aload_n 0) 44 := ⟨rfl, rfl, rfl⟩
theorem z76_44 : za 76 44 (.iconst 4) 45 := ⟨rfl, rfl, rfl⟩
theorem z76_45 : za 76 45 (.newarray .int) 47 := ⟨rfl, rfl, rfl⟩
theorem z76_47 : za_p 76 47 5 9 50 := ⟨29, 8, .null, ⟨rfl, rfl, rfl⟩, rfl, Or.inr rfl⟩
theorem z76_50 : za 76 50 (.aload_n 0) 51 := ⟨rfl, rfl, rfl⟩
theorem z76_51 : za 76 51 (.iconst 4) 52 := ⟨rfl, rfl, rfl⟩
theorem z76_52 : za 76 52 (.newarray .int) 54 := ⟨rfl, rfl, rfl⟩
theorem z76_54 : za_p 76 54 5 10 57 := ⟨32, 8, .null, ⟨rfl, rfl, rfl⟩, rfl, Or.inr rfl⟩
theorem z76_57 : za 76 57 (.aload_n 0) 58 := ⟨rfl, rfl, rfl⟩
theorem z76_58 : za 76 58 (.bipush (52)) 60 := ⟨rfl, rfl, rfl⟩
theorem z76_60 : za 76 60 (.newarray .boolean) 62 := ⟨rfl, rfl, rfl⟩
theorem z76_62 : za_p 76 62 5 11 65 := ⟨35, 8, .null, ⟨rfl, rfl, rfl⟩, rfl, Or.inr rfl⟩
theorem z76_65 : za 76 65 (.aload_n 0) 66 := ⟨rfl, rfl, rfl⟩
theorem z76_66 : za 76 66 (.bipush (52)) 68 := ⟨rfl, rfl, rfl⟩
theorem z76_68 : za 76 68 (.newarray .int) 70 := ⟨rfl, rfl, rfl⟩
theorem z76_70 : za_p 76 70 5 12 73 := ⟨39, 8, .null, ⟨rfl, rfl, rfl⟩, rfl, Or.inr rfl⟩
theorem z76_73 : za 76 73 (.aload_n 0) 74 := ⟨rfl, rfl, rfl⟩
theorem z76_74 : za 76 74 (.sipush (240)) 77 := ⟨rfl, rfl, rfl⟩
theorem z76_77 : za 76 77 (.newarray .int) 79 := ⟨rfl, rfl, rfl⟩
theorem z76_79 : za_p 76 79 5 14 82 := ⟨42, 8, .null, ⟨rfl, rfl, rfl⟩, rfl, Or.inr rfl⟩
theorem z76_82 : za 76 82 (.aload_n 0) 83 := ⟨rfl, rfl, rfl⟩
theorem z76_83 : za 76 83 (.iconst (-1)) 84 := ⟨rfl, rfl, rfl⟩
theorem z76_84 : za_p 76 84 5 15 87 := ⟨45, 0, .null, ⟨rfl, rfl, rfl⟩, rfl, Or.inl rfl⟩
theorem z76_87 : za 76 87 (.aload_n 0) 88 := ⟨rfl, rfl, rfl⟩
theorem z76_88 : za 76 88 (.sipush (10504)) 91 := ⟨rfl, rfl, rfl⟩
theorem z76_91 : za 76 91 (.newarray .int) 93 := ⟨rfl, rfl, rfl⟩
theorem z76_93 : za_p 76 93 5 17 96 := ⟨48, 8, .null, ⟨rfl, rfl, rfl⟩, rfl, Or.inr rfl⟩
theorem z76_96 : za 76 96 (.aload_n 0) 97 := ⟨rfl, rfl, rfl⟩
theorem z76_97 : za 76 97 (.sipush (202)) 100 := ⟨rfl, rfl, rfl⟩
theorem z76_100 : za 76 100 (.newarray .int) 102 := ⟨rfl, rfl, rfl⟩
theorem z76_102 : za_p 76 102 5 18 105 := ⟨51, 8, .null, ⟨rfl, rfl, rfl⟩, rfl, Or.inr rfl⟩
theorem z76_105 : za 76 105 (.aload_n 0) 106 := ⟨rfl, rfl, rfl⟩
theorem z76_106 : za 76 106 (.sipush (202)) 109 := ⟨rfl, rfl, rfl⟩
theorem z76_109 : za 76 109 (.newarray .boolean) 111 := ⟨rfl, rfl, rfl⟩
theorem z76_111 : za_p 76 111 5 19 114 := ⟨54, 8, .null, ⟨rfl, rfl, rfl⟩, rfl, Or.inr rfl⟩
theorem z76_114 : za 76 114 (.aload_n 0) 115 := ⟨rfl, rfl, rfl⟩
theorem z76_115 : za 76 115 (.sipush (210)) 118 := ⟨rfl, rfl, rfl⟩
theorem z76_118 : za 76 118 (.newarray .int) 120 := ⟨rfl, rfl, rfl⟩
theorem z76_120 : za_p 76 120 5 20 123 := ⟨57, 8, .null, ⟨rfl, rfl, rfl⟩, rfl, Or.inr rfl⟩
theorem z76_123 : za 76 123 (.aload_n 0) 124 := ⟨rfl, rfl, rfl⟩
theorem z76_124 : za 76 124 (.iconst 4) 125 := ⟨rfl, rfl, rfl⟩
theorem z76_125 : za 76 125 (.newarray .int) 127 := ⟨rfl, rfl, rfl⟩
theorem z76_127 : za_p 76 127 5 25 130 := ⟨60, 8, .null, ⟨rfl, rfl, rfl⟩, rfl, Or.inr rfl⟩
theorem z76_130 : za 76 130 (.aload_n 0) 131 := ⟨rfl, rfl, rfl⟩
theorem z76_131 : za 76 131 (.bipush (52)) 133 := ⟨rfl, rfl, rfl⟩
theorem z76_133 : za 76 133 (.newarray .boolean) 135 := ⟨rfl, rfl, rfl⟩
theorem z76_135 : za_p 76 135 5 28 138 := ⟨63, 8, .null, ⟨rfl, rfl, rfl⟩, rfl, Or.inr rfl⟩
theorem z76_138 : za 76 138 (.aload_n 0) 139 := ⟨rfl, rfl, rfl⟩
theorem z76_139 : za_v 76 139 86 0 5 142 := ⟨66, ⟨rfl, rfl, rfl⟩, rfl⟩
theorem z76_142 : za 76 142 (.return_) 143 := ⟨rfl, rfl, rfl⟩
theorem z77_0 : za 77 0 (.aload_n 0) 1 := ⟨rfl, rfl, rfl⟩
theorem z77_1 : za_f 77 1 5 0 4 := ⟨69, 0, .null, ⟨rfl, rfl, rfl⟩, rfl, Or.inl rfl⟩
theorem z77_4 : za 77 4 (.ireturn) 5 := ⟨rfl, rfl, rfl⟩
theorem z78_0 : za 78 0 (.aload_n 0) 1 := ⟨rfl, rfl, rfl⟩
theorem z78_1 : za 78 1 (.iload_n 1) 2 := ⟨rfl, rfl, rfl⟩
theorem z78_2 : za_p 78 2 5 0 5 := ⟨69, 0, .null, ⟨rfl, rfl, rfl⟩, rfl, Or.inl rfl⟩
theorem z78_5 : za 78 5 (.iconst 0) 6 := ⟨rfl, rfl, rfl⟩
theorem z78_6 : za 78 6 (.ireturn) 7 := ⟨rfl, rfl, rfl⟩
theorem z79_0 : za 79 0 (.iload_n 0) 1 := ⟨rfl, rfl, rfl⟩
theorem z79_1 : za 79 1 (.iload_n 1) 2 := ⟨rfl, rfl, rfl⟩
theorem z79_2 : zb (.if_icmp .lt) 79 2 14 5 := ⟨12, ⟨rfl, rfl, rfl⟩, rfl⟩
theorem z79_5 : za 79 5 (.iload_n 0) 6 := ⟨rfl, rfl, rfl⟩
theorem z79_6 : za 79 6 (.iload_n 2) 7 := ⟨rfl, rfl, rfl⟩
theorem z79_7 : zb (.if_icmp .gt) 79 7 14 10 := ⟨7, ⟨rfl, rfl, rfl⟩, rfl⟩
theorem z79_10 : za 79 10 (.iconst 1) 11 := ⟨rfl, rfl, rfl⟩
theorem z79_11 : zb (.goto) 79 11 15 14 := ⟨4, ⟨rfl, rfl, rfl⟩, rfl⟩
theorem z79_14 : za 79 14 (.iconst 0) 15 := ⟨rfl, rfl, rfl⟩
theorem z79_15 : za 79 15 (.ireturn) 16 := ⟨rfl, rfl, rfl⟩
theorem z80_0 : za 80 0 (.aload_n 0) 1 := ⟨rfl, rfl, rfl⟩
theorem z80_1 : za_f 80 1 5 5 4 := ⟨16, 0, .null, ⟨rfl, rfl, rfl⟩, rfl, Or.inl rfl⟩
theorem z80_4 : za 80 4 (.aload_n 0) 5 := ⟨rfl, rfl, rfl⟩
theorem z80_5 : za_f 80 5 5 6 8 := ⟨19, 0, .null, ⟨rfl, rfl, rfl⟩, rfl, Or.inl rfl⟩
theorem z80_8 : za 80 8 (.imul) 9 := ⟨rfl, rfl, rfl⟩
theorem z80_9 : za 80 9 (.ireturn) 10 := ⟨rfl, rfl, rfl⟩
theorem z81_0 : za 81 0 (.iload_n 1) 1 := ⟨rfl, rfl, rfl⟩
theorem z81_1 : za 81 1 (.aload_n 0) 2 := ⟨rfl, rfl, rfl⟩
theorem z81_2 : za_f 81 2 5 5 5 := ⟨16, 0, .null, ⟨rfl, rfl, rfl⟩, rfl, Or.inl rfl⟩
theorem z81_5 : za 81 5 (.irem) 6 := ⟨rfl, rfl, rfl⟩
theorem z81_6 : za 81 6 (.ireturn) 7 := ⟨rfl, rfl, rfl⟩
theorem z82_0 : za 82 0 (.iload_n 1) 1 := ⟨rfl, rfl, rfl⟩
theorem z82_1 : za 82 1 (.aload_n 0) 2 := ⟨rfl, rfl, rfl⟩
theorem z82_2 : za_f 82 2 5 5 5 := ⟨16, 0, .null, ⟨rfl, rfl, rfl⟩, rfl, Or.inl rfl⟩
theorem z82_5 : za 82 5 (.idiv) 6 := ⟨rfl, rfl, rfl⟩
theorem z82_6 : za 82 6 (.iconst 1) 7 := ⟨rfl, rfl, rfl⟩
theorem z82_7 : za 82 7 (.iadd) 8 := ⟨rfl, rfl, rfl⟩
theorem z82_8 : za 82 8 (.ireturn) 9 := ⟨rfl, rfl, rfl⟩
theorem z83_0 : za 83 0 (.iload_n 0) 1 := ⟨rfl, rfl, rfl⟩
theorem z83_1 : zb (.ifCond .eq) 83 1 9 4 := ⟨8, ⟨rfl, rfl, rfl⟩, rfl⟩
theorem z83_4 : za 83 4 (.iload_n 0) 5 := ⟨rfl, rfl, rfl⟩
theorem z83_5 : za 83 5 (.iconst 3) 6 := ⟨rfl, rfl, rfl⟩
theorem z83_6 : zb (.if_icmp .ne) 83 6 13 9 := ⟨7, ⟨rfl, rfl, rfl⟩, rfl⟩
theorem z83_9 : za 83 9 (.iconst 1) 10 := ⟨rfl, rfl, rfl⟩
theorem z83_10 : zb (.goto) 83 10 14 13 := ⟨4, ⟨rfl, rfl, rfl⟩, rfl⟩
theorem z83_13 : za 83 13 (.iconst 0) 14 := ⟨rfl, rfl, rfl⟩
theorem z83_14 : za 83 14 (.ireturn) 15 := ⟨rfl, rfl, rfl⟩
theorem z84_0 : za 84 0 (.aload_n 0) 1 := ⟨rfl, rfl, rfl⟩
theorem z84_1 : za 84 1 (.iload_n 1) 2 := ⟨rfl, rfl, rfl⟩
theorem z84_2 : za_v 84 2 82 1 5 5 := ⟨72, ⟨rfl, rfl, rfl⟩, rfl⟩
theorem z84_5 : za 84 5 (.aload_n 0) 6 := ⟨rfl, rfl, rfl⟩
theorem z84_6 : za 84 6 (.iload_n 2) 7 := ⟨rfl, rfl, rfl⟩
theorem z84_7 : za_v 84 7 82 1 5 10 := ⟨72, ⟨rfl, rfl, rfl⟩, rfl⟩
theorem z84_10 : za 84 10 (.iconst 1) 11 := ⟨rfl, rfl, rfl⟩
theorem z84_11 : za 84 11 (.isub) 12 := ⟨rfl, rfl, rfl⟩
theorem z84_12 : zb (.if_icmp .eq) 84 12 17 15 := ⟨5, ⟨rfl, rfl, rfl⟩, rfl⟩
theorem z84_15 : za 84 15 (.iconst 0) 16 := ⟨rfl, rfl, rfl⟩
theorem z84_16 : za 84 16 (.ireturn) 17 := ⟨rfl, rfl, rfl⟩
theorem z84_17 : za 84 17 (.aload_n 0) 18 := ⟨rfl, rfl, rfl⟩
theorem z84_18 : za_f 84 18 5 3 21 := ⟨76, 0, .null, ⟨rfl, rfl, rfl⟩, rfl, Or.inl rfl⟩
theorem z84_21 : za 84 21 (.iconst 2) 22 := ⟨rfl, rfl, rfl⟩
theorem z84_22 : zb (.if_icmp .eq) 84 22 68 25 := ⟨46, ⟨rfl, rfl, rfl⟩, rfl⟩
theorem z84_25 : za 84 25 (.aload_n 0) 26 := ⟨rfl, rfl, rfl⟩
theorem z84_26 : za_f 84 26 5 3 29 := ⟨76, 0, .null, ⟨rfl, rfl, rfl⟩, rfl, Or.inl rfl⟩
theorem z84_29 : za 84 29 (.iconst 1) 30 := ⟨rfl, rfl, rfl⟩
theorem z84_30 : zb (.if_icmp .ne) 84 30 49 33 := ⟨19, ⟨rfl, rfl, rfl⟩, rfl⟩
theorem z84_33 : za 84 33 (.aload_n 0) 34 := ⟨rfl, rfl, rfl⟩
theorem z84_34 : za 84 34 (.iload_n 1) 35 := ⟨rfl, rfl, rfl⟩
theorem z84_35 : za_v 84 35 81 1 5 38 := ⟨79, ⟨rfl, rfl, rfl⟩, rfl⟩
theorem z84_38 : za 84 38 (.aload_n 0) 39 := ⟨rfl, rfl, rfl⟩
theorem z84_39 : za 84 39 (.iload_n 2) 40 := ⟨rfl, rfl, rfl⟩
theorem z84_40 : za_v 84 40 81 1 5 43 := ⟨79, ⟨rfl, rfl, rfl⟩, rfl⟩
theorem z84_43 : zb (.if_icmp .ne) 84 43 72 46 := ⟨29, ⟨rfl, rfl, rfl⟩, rfl⟩
theorem z84_46 : zb (.goto) 84 46 68 49 := ⟨22, ⟨rfl, rfl, rfl⟩, rfl⟩
theorem z84_49 : za 84 49 (.aload_n 0) 50 := ⟨rfl, rfl, rfl⟩
theorem z84_50 : za 84 50 (.iload_n 1) 51 := ⟨rfl, rfl, rfl⟩
theorem z84_51 : za_v 84 51 81 1 5 54 := ⟨79, ⟨rfl, rfl, rfl⟩, rfl⟩
theorem z84_54 : za_s 84 54 83 1 57 := ⟨82, .null, ⟨rfl, rfl, rfl⟩, rfl⟩
theorem z84_57 : za 84 57 (.aload_n 0) 58 := ⟨rfl, rfl, rfl⟩
theorem z84_58 : za 84 58 (.iload_n 2) 59 := ⟨rfl, rfl, rfl⟩
theorem z84_59 : za_v 84 59 81 1 5 62 := ⟨79, ⟨rfl, rfl, rfl⟩, rfl⟩
theorem z84_62 : za_s 84 62 83 1 65 := ⟨82, .null, ⟨rfl, rfl, rfl⟩, rfl⟩
theorem z84_65 : zb (.if_icmp .eq) 84 65 72 68 := ⟨7, ⟨rfl, rfl, rfl⟩, rfl⟩
theorem z84_68 : za 84 68 (.iconst 1) 69 := ⟨rfl, rfl, rfl⟩
theorem z84_69 : zb (.goto) 84 69 73 72 := ⟨4, ⟨rfl, rfl, rfl⟩, rfl⟩
theorem z84_72 : za 84 72 (.iconst 0) 73 := ⟨rfl, rfl, rfl⟩
theorem z84_73 : za 84 73 (.ireturn) 74 := ⟨rfl, rfl, rfl⟩
theorem z85_0 : za 85 0 (.aload_n 0) 1 := ⟨rfl, rfl, rfl⟩
theorem z85_1 : za_f 85 1 5 4 4 := ⟨86, 0, .null, ⟨rfl, rfl, rfl⟩, rfl, Or.inl rfl⟩
theorem z85_4 : zb (.ifCond .eq) 85 4 27 7 := ⟨23, ⟨rfl, rfl, rfl⟩, rfl⟩
theorem z85_7 : za 85 7 (.aload_n 0) 8 := ⟨rfl, rfl, rfl⟩
theorem z85_8 : za_f 85 8 5 4 11 := ⟨86, 0, .null, ⟨rfl, rfl, rfl⟩, rfl, Or.inl rfl⟩
theorem z85_11 : za 85 11 (.iconst 1) 12 := ⟨rfl, rfl, rfl⟩
theorem z85_12 : zb (.if_icmp .ne) 85 12 31 15 := ⟨19, ⟨rfl, rfl, rfl⟩, rfl⟩
theorem z85_15 : za 85 15 (.aload_n 0) 16 := ⟨rfl, rfl, rfl⟩
theorem z85_16 : za 85 16 (.iload_n 1) 17 := ⟨rfl, rfl, rfl⟩
theorem z85_17 : za_v 85 17 82 1 5 20 := ⟨72, ⟨rfl, rfl, rfl⟩, rfl⟩
theorem z85_20 : za 85 20 (.aload_n 0) 21 := ⟨rfl, rfl, rfl⟩
theorem z85_21 : za_f 85 21 5 6 24 := ⟨19, 0, .null, ⟨rfl, rfl, rfl⟩, rfl, Or.inl rfl⟩
theorem z85_24 : zb (.if_icmp .ne) 85 24 31 27 := ⟨7, ⟨rfl, rfl, rfl⟩, rfl⟩
theorem z85_27 : za 85 27 (.iconst 1) 28 := ⟨rfl, rfl, rfl⟩
theorem z85_28 : zb (.goto) 85 28 32 31 := ⟨4, ⟨rfl, rfl, rfl⟩, rfl⟩
theorem z85_31 : za 85 31 (.iconst 0) 32 := ⟨rfl, rfl, rfl⟩
theorem z85_32 : za 85 32 (.ireturn) 33 := ⟨rfl, rfl, rfl⟩
theorem z86_0 : za 86 0 (.iconst 0) 1 := ⟨rfl, rfl, rfl⟩
theorem z86_1 : za 86 1 (.istore_n 1) 2 := ⟨rfl, rfl, rfl⟩
theorem z86_2 : za 86 2 (.iload_n 1) 3 := ⟨rfl, rfl, rfl⟩
theorem z86_3 : za 86 3 (.bipush (8)) 5 := ⟨rfl, rfl, rfl⟩
theorem z86_5 : zb (.if_icmp .ge) 86 5 21 8 := ⟨16, ⟨rfl, rfl, rfl⟩, rfl⟩
theorem z86_8 : za 86 8 (.aload_n 0) 9 := ⟨rfl, rfl, rfl⟩
theorem z86_9 : za_f 86 9 5 8 12 := ⟨26, 9, .null, ⟨rfl, rfl, rfl⟩, rfl, Or.inr (Or.inr rfl)⟩
theorem z86_12 : za 86 12 (.iload_n 1) 13 := ⟨rfl, rfl, rfl⟩
theorem z86_13 : za 86 13 (.iconst 0) 14 := ⟨rfl, rfl, rfl⟩
theorem z86_14 : za 86 14 (.iastore) 15 := ⟨rfl, rfl, rfl⟩
theorem z86_15 : za 86 15 (.iinc 1 (1)) 18 := ⟨rfl, rfl, rfl⟩
theorem z86_18 : zb (.goto) 86 18 2 21 := ⟨(-16), ⟨rfl, rfl, rfl⟩, rfl⟩
theorem z86_21 : za 86 21 (.iconst 0) 22 := ⟨rfl, rfl, rfl⟩
theorem z86_22 : za 86 22 (.istore_n 1) 23 := ⟨rfl, rfl, rfl⟩
theorem z86_23 : za 86 23 (.iload_n 1) 24 := ⟨rfl, rfl, rfl⟩
theorem z86_24 : za 86 24 (.iconst 4) 25 := ⟨rfl, rfl, rfl⟩
theorem z86_25 : zb (.if_icmp .ge) 86 25 48 28 := ⟨23, ⟨rfl, rfl, rfl⟩, rfl⟩
theorem z86_28 : za 86 28 (.aload_n 0) 29 := ⟨rfl, rfl, rfl⟩
theorem z86_29 : za_f 86 29 5 9 32 := ⟨29, 9, .null, ⟨rfl, rfl, rfl⟩, rfl, Or.inr (Or.inr rfl)⟩
theorem z86_32 : za 86 32 (.iload_n 1) 33 := ⟨rfl, rfl, rfl⟩
theorem z86_33 : za 86 33 (.iconst (-1)) 34 := ⟨rfl, rfl, rfl⟩
theorem z86_34 : za 86 34 (.iastore) 35 := ⟨rfl, rfl, rfl⟩
theorem z86_35 : za 86 35 (.aload_n 0) 36 := ⟨rfl, rfl, rfl⟩
theorem z86_36 : za_f 86 36 5 10 39 := ⟨32, 9, .null, ⟨rfl, rfl, rfl⟩, rfl, Or.inr (Or.inr rfl)⟩
theorem z86_39 : za 86 39 (.iload_n 1) 40 := ⟨rfl, rfl, rfl⟩
theorem z86_40 : za 86 40 (.iconst 0) 41 := ⟨rfl, rfl, rfl⟩
theorem z86_41 : za 86 41 (.iastore) 42 := ⟨rfl, rfl, rfl⟩
theorem z86_42 : za 86 42 (.iinc 1 (1)) 45 := ⟨rfl, rfl, rfl⟩
theorem z86_45 : zb (.goto) 86 45 23 48 := ⟨(-22), ⟨rfl, rfl, rfl⟩, rfl⟩
theorem z86_48 : za 86 48 (.iconst 0) 49 := ⟨rfl, rfl, rfl⟩
theorem z86_49 : za 86 49 (.istore_n 1) 50 := ⟨rfl, rfl, rfl⟩
theorem z86_50 : za 86 50 (.iload_n 1) 51 := ⟨rfl, rfl, rfl⟩
theorem z86_51 : za 86 51 (.bipush (52)) 53 := ⟨rfl, rfl, rfl⟩
theorem z86_53 : zb (.if_icmp .ge) 86 53 69 56 := ⟨16, ⟨rfl, rfl, rfl⟩, rfl⟩
theorem z86_56 : za 86 56 (.aload_n 0) 57 := ⟨rfl, rfl, rfl⟩
theorem z86_57 : za_f 86 57 5 11 60 := ⟨35, 9, .null, ⟨rfl, rfl, rfl⟩, rfl, Or.inr (Or.inr rfl)⟩
theorem z86_60 : za 86 60 (.iload_n 1) 61 := ⟨rfl, rfl, rfl⟩
theorem z86_61 : za 86 61 (.iconst 0) 62 := ⟨rfl, rfl, rfl⟩
theorem z86_62 : za 86 62 (.bastore) 63 := ⟨rfl, rfl, rfl⟩
theorem z86_63 : za 86 63 (.iinc 1 (1)) 66 := ⟨rfl, rfl, rfl⟩
theorem z86_66 : zb (.goto) 86 66 50 69 := ⟨(-16), ⟨rfl, rfl, rfl⟩, rfl⟩
theorem z86_69 : za 86 69 (.aload_n 0) 70 := ⟨rfl, rfl, rfl⟩
theorem z86_70 : za 86 70 (.iconst 0) 71 := ⟨rfl, rfl, rfl⟩
theorem z86_71 : za_p 86 71 5 13 74 := ⟨89, 0, .null, ⟨rfl, rfl, rfl⟩, rfl, Or.inl rfl⟩
theorem z86_74 : za 86 74 (.aload_n 0) 75 := ⟨rfl, rfl, rfl⟩
theorem z86_75 : za 86 75 (.iconst (-1)) 76 := ⟨rfl, rfl, rfl⟩
theorem z86_76 : za_p 86 76 5 15 79 := ⟨45, 0, .null, ⟨rfl, rfl, rfl⟩, rfl, Or.inl rfl⟩
theorem z86_79 : za 86 79 (.return_) 80 := ⟨rfl, rfl, rfl⟩
theorem z87_0 : za 87 0 (.aload_n 0) 1 := ⟨rfl, rfl, rfl⟩
theorem z87_1 : za 87 1 (.iconst 0) 2 := ⟨rfl, rfl, rfl⟩
theorem z87_2 : za_p 87 2 5 0 5 := ⟨69, 0, .null, ⟨rfl, rfl, rfl⟩, rfl, Or.inl rfl⟩
theorem z87_5 : za 87 5 (.iload_n 1) 6 := ⟨rfl, rfl, rfl⟩
theorem z87_6 : za 87 6 (.iconst 2) 7 := ⟨rfl, rfl, rfl⟩
theorem z87_7 : za 87 7 (.bipush (8)) 9 := ⟨rfl, rfl, rfl⟩
theorem z87_9 : za_s 87 9 79 3 12 := ⟨92, .null, ⟨rfl, rfl, rfl⟩, rfl⟩
theorem z87_12 : zb (.ifCond .eq) 87 12 43 15 := ⟨31, ⟨rfl, rfl, rfl⟩, rfl⟩
theorem z87_15 : za 87 15 (.iload_n 2) 16 := ⟨rfl, rfl, rfl⟩
theorem z87_16 : za 87 16 (.iconst 0) 17 := ⟨rfl, rfl, rfl⟩
theorem z87_17 : za 87 17 (.iconst 4) 18 := ⟨rfl, rfl, rfl⟩
theorem z87_18 : za_s 87 18 79 3 21 := ⟨92, .null, ⟨rfl, rfl, rfl⟩, rfl⟩
theorem z87_21 : zb (.ifCond .eq) 87 21 43 24 := ⟨22, ⟨rfl, rfl, rfl⟩, rfl⟩
theorem z87_24 : za 87 24 (.iload_n 3) 25 := ⟨rfl, rfl, rfl⟩
theorem z87_25 : za 87 25 (.iconst 0) 26 := ⟨rfl, rfl, rfl⟩
theorem z87_26 : za 87 26 (.iconst 2) 27 := ⟨rfl, rfl, rfl⟩
theorem z87_27 : za_s 87 27 79 3 30 := ⟨92, .null, ⟨rfl, rfl, rfl⟩, rfl⟩
theorem z87_30 : zb (.ifCond .eq) 87 30 43 33 := ⟨13, ⟨rfl, rfl, rfl⟩, rfl⟩
theorem z87_33 : za 87 33 (.iload 4) 35 := ⟨rfl, rfl, rfl⟩
theorem z87_35 : za 87 35 (.iconst 0) 36 := ⟨rfl, rfl, rfl⟩
theorem z87_36 : za 87 36 (.iconst 2) 37 := ⟨rfl, rfl, rfl⟩
theorem z87_37 : za_s 87 37 79 3 40 := ⟨92, .null, ⟨rfl, rfl, rfl⟩, rfl⟩
theorem z87_40 : zb (.ifCond .ne) 87 40 45 43 := ⟨5, ⟨rfl, rfl, rfl⟩, rfl⟩
theorem z87_43 : za 87 43 (.iconst 0) 44 := ⟨rfl, rfl, rfl⟩
theorem z87_44 : za 87 44 (.ireturn) 45 := ⟨rfl, rfl, rfl⟩
theorem z87_45 : za 87 45 (.aload_n 0) 46 := ⟨rfl, rfl, rfl⟩
theorem z87_46 : za 87 46 (.iload_n 1) 47 := ⟨rfl, rfl, rfl⟩
theorem z87_47 : za_p 87 47 5 1 50 := ⟨7, 0, .null, ⟨rfl, rfl, rfl⟩, rfl, Or.inl rfl⟩
theorem z87_50 : za 87 50 (.aload_n 0) 51 := ⟨rfl, rfl, rfl⟩
theorem z87_51 : za 87 51 (.iload_n 2) 52 := ⟨rfl, rfl, rfl⟩
theorem z87_52 : za_p 87 52 5 2 55 := ⟨13, 0, .null, ⟨rfl, rfl, rfl⟩, rfl, Or.inl rfl⟩
theorem z87_55 : za 87 55 (.aload_n 0) 56 := ⟨rfl, rfl, rfl⟩
theorem z87_56 : za 87 56 (.iload_n 3) 57 := ⟨rfl, rfl, rfl⟩
theorem z87_57 : za_p 87 57 5 3 60 := ⟨76, 0, .null, ⟨rfl, rfl, rfl⟩, rfl, Or.inl rfl⟩
theorem z87_60 : za 87 60 (.aload_n 0) 61 := ⟨rfl, rfl, rfl⟩
theorem z87_61 : za 87 61 (.iload 4) 63 := ⟨rfl, rfl, rfl⟩
theorem z87_63 : za_p 87 63 5 4 66 := ⟨86, 0, .null, ⟨rfl, rfl, rfl⟩, rfl, Or.inl rfl⟩
theorem z87_66 : za 87 66 (.aload_n 0) 67 := ⟨rfl, rfl, rfl⟩
theorem z87_67 : za_v 87 67 86 0 5 70 := ⟨66, ⟨rfl, rfl, rfl⟩, rfl⟩
theorem z87_70 : za 87 70 (.iconst 1) 71 := ⟨rfl, rfl, rfl⟩
theorem z87_71 : za 87 71 (.ireturn) 72 := ⟨rfl, rfl, rfl⟩
theorem z88_0 : za 88 0 (.aload_n 0) 1 := ⟨rfl, rfl, rfl⟩
theorem z88_1 : za 88 1 (.iconst 0) 2 := ⟨rfl, rfl, rfl⟩
theorem z88_2 : za_p 88 2 5 0 5 := ⟨69, 0, .null, ⟨rfl, rfl, rfl⟩, rfl, Or.inl rfl⟩
theorem z88_5 : za 88 5 (.iload_n 1) 6 := ⟨rfl, rfl, rfl⟩
theorem z88_6 : za 88 6 (.iconst 1) 7 := ⟨rfl, rfl, rfl⟩
theorem z88_7 : za 88 7 (.iconst 4) 8 := ⟨rfl, rfl, rfl⟩
theorem z88_8 : za_s 88 8 79 3 11 := ⟨92, .null, ⟨rfl, rfl, rfl⟩, rfl⟩
theorem z88_11 : zb (.ifCond .eq) 88 11 24 14 := ⟨13, ⟨rfl, rfl, rfl⟩, rfl⟩
theorem z88_14 : za 88 14 (.iload_n 2) 15 := ⟨rfl, rfl, rfl⟩
theorem z88_15 : za 88 15 (.iconst 1) 16 := ⟨rfl, rfl, rfl⟩
theorem z88_16 : za 88 16 (.bipush (13)) 18 := ⟨rfl, rfl, rfl⟩
theorem z88_18 : za_s 88 18 79 3 21 := ⟨92, .null, ⟨rfl, rfl, rfl⟩, rfl⟩
theorem z88_21 : zb (.ifCond .ne) 88 21 26 24 := ⟨5, ⟨rfl, rfl, rfl⟩, rfl⟩
theorem z88_24 : za 88 24 (.iconst 0) 25 := ⟨rfl, rfl, rfl⟩
theorem z88_25 : za 88 25 (.ireturn) 26 := ⟨rfl, rfl, rfl⟩
theorem z88_26 : za 88 26 (.aload_n 0) 27 := ⟨rfl, rfl, rfl⟩
theorem z88_27 : za 88 27 (.iload_n 1) 28 := ⟨rfl, rfl, rfl⟩
theorem z88_28 : za_p 88 28 5 5 31 := ⟨16, 0, .null, ⟨rfl, rfl, rfl⟩, rfl, Or.inl rfl⟩
theorem z88_31 : za 88 31 (.aload_n 0) 32 := ⟨rfl, rfl, rfl⟩
theorem z88_32 : za 88 32 (.iload_n 2) 33 := ⟨rfl, rfl, rfl⟩
theorem z88_33 : za_p 88 33 5 6 36 := ⟨19, 0, .null, ⟨rfl, rfl, rfl⟩, rfl, Or.inl rfl⟩
theorem z88_36 : za 88 36 (.aload_n 0) 37 := ⟨rfl, rfl, rfl⟩
theorem z88_37 : za_v 88 37 86 0 5 40 := ⟨66, ⟨rfl, rfl, rfl⟩, rfl⟩
theorem z88_40 : za 88 40 (.iconst 1) 41 := ⟨rfl, rfl, rfl⟩
theorem z88_41 : za 88 41 (.ireturn) 42 := ⟨rfl, rfl, rfl⟩
theorem z89_0 : za 89 0 (.aload_n 0) 1 := ⟨rfl, rfl, rfl⟩
theorem z89_1 : za 89 1 (.iconst 0) 2 := ⟨rfl, rfl, rfl⟩
theorem z89_2 : za_p 89 2 5 0 5 := ⟨69, 0, .null, ⟨rfl, rfl, rfl⟩, rfl, Or.inl rfl⟩
theorem z89_5 : za 89 5 (.aload_n 0) 6 := ⟨rfl, rfl, rfl⟩
theorem z89_6 : za_v 89 6 86 0 5 9 := ⟨66, ⟨rfl, rfl, rfl⟩, rfl⟩
theorem z89_9 : za 89 9 (.return_) 10 := ⟨rfl, rfl, rfl⟩
theorem z90_0 : za 90 0 (.aload_n 0) 1 := ⟨rfl, rfl, rfl⟩
theorem z90_1 : za_f 90 1 5 7 4 := ⟨22, 9, .null, ⟨rfl, rfl, rfl⟩, rfl, Or.inr (Or.inr rfl)⟩
theorem z90_4 : za 90 4 (.bipush (52)) 6 := ⟨rfl, rfl, rfl⟩
theorem z90_6 : za 90 6 (.iload_n 1) 7 := ⟨rfl, rfl, rfl⟩
theorem z90_7 : za 90 7 (.imul) 8 := ⟨rfl, rfl, rfl⟩
theorem z90_8 : za 90 8 (.aload_n 0) 9 := ⟨rfl, rfl, rfl⟩
theorem z90_9 : za_f 90 9 5 8 12 := ⟨26, 9, .null, ⟨rfl, rfl, rfl⟩, rfl, Or.inr (Or.inr rfl)⟩
theorem z90_12 : za 90 12 (.iload_n 1) 13 := ⟨rfl, rfl, rfl⟩
theorem z90_13 : za 90 13 (.iaload) 14 := ⟨rfl, rfl, rfl⟩
theorem z90_14 : za 90 14 (.iadd) 15 := ⟨rfl, rfl, rfl⟩
theorem z90_15 : za 90 15 (.iload_n 2) 16 := ⟨rfl, rfl, rfl⟩
theorem z90_16 : za 90 16 (.iastore) 17 := ⟨rfl, rfl, rfl⟩
theorem z90_17 : za 90 17 (.aload_n 0) 18 := ⟨rfl, rfl, rfl⟩
theorem z90_18 : za_f 90 18 5 8 21 := ⟨26, 9, .null, ⟨rfl, rfl, rfl⟩, rfl, Or.inr (Or.inr rfl)⟩
theorem z90_21 : za 90 21 (.iload_n 1) 22 := ⟨rfl, rfl, rfl⟩
theorem z90_22 : za 90 22 (.dup2) 23 := ⟨rfl, rfl, rfl⟩
theorem z90_23 : za 90 23 (.iaload) 24 := ⟨rfl, rfl, rfl⟩
theorem z90_24 : za 90 24 (.iconst 1) 25 := ⟨rfl, rfl, rfl⟩
theorem z90_25 : za 90 25 (.iadd) 26 := ⟨rfl, rfl, rfl⟩
theorem z90_26 : za 90 26 (.iastore) 27 := ⟨rfl, rfl, rfl⟩
theorem z90_27 : za 90 27 (.return_) 28 := ⟨rfl, rfl, rfl⟩
theorem z91_0 : za 91 0 (.aload_n 0) 1 := ⟨rfl, rfl, rfl⟩
theorem z91_1 : za 91 1 (.iconst 0) 2 := ⟨rfl, rfl, rfl⟩
theorem z91_2 : za_p 91 2 5 0 5 := ⟨69, 0, .null, ⟨rfl, rfl, rfl⟩, rfl, Or.inl rfl⟩
theorem z91_5 : za 91 5 (.iload_n 1) 6 := ⟨rfl, rfl, rfl⟩
theorem z91_6 : za 91 6 (.iconst 0) 7 := ⟨rfl, rfl, rfl⟩
theorem z91_7 : za 91 7 (.sipush (32000)) 10 := ⟨rfl, rfl, rfl⟩
theorem z91_10 : za_s 91 10 79 3 13 := ⟨92, .null, ⟨rfl, rfl, rfl⟩, rfl⟩
theorem z91_13 : zb (.ifCond .ne) 91 13 22 16 := ⟨9, ⟨rfl, rfl, rfl⟩, rfl⟩
theorem z91_16 : za 91 16 (.aload_n 0) 17 := ⟨rfl, rfl, rfl⟩
theorem z91_17 : za 91 17 (.iconst 1) 18 := ⟨rfl, rfl, rfl⟩
theorem z91_18 : za_p 91 18 5 0 21 := ⟨69, 0, .null, ⟨rfl, rfl, rfl⟩, rfl, Or.inl rfl⟩
theorem z91_21 : za 91 21 (.return_) 22 := ⟨rfl, rfl, rfl⟩
theorem z91_22 : za 91 22 (.aload_n 0) 23 := ⟨rfl, rfl, rfl⟩
theorem z91_23 : za_v 91 23 86 0 5 26 := ⟨66, ⟨rfl, rfl, rfl⟩, rfl⟩
theorem z91_26 : za 91 26 (.aload_n 0) 27 := ⟨rfl, rfl, rfl⟩
theorem z91_27 : za_v 91 27 80 0 5 30 := ⟨96, ⟨rfl, rfl, rfl⟩, rfl⟩
theorem z91_30 : za 91 30 (.istore_n 2) 31 := ⟨rfl, rfl, rfl⟩
theorem z91_31 : za 91 31 (.iconst 0) 32 := ⟨rfl, rfl, rfl⟩
theorem z91_32 : za 91 32 (.istore_n 3) 33 := ⟨rfl, rfl, rfl⟩
theorem z91_33 : za 91 33 (.iload_n 3) 34 := ⟨rfl, rfl, rfl⟩
theorem z91_34 : za 91 34 (.iload_n 2) 35 := ⟨rfl, rfl, rfl⟩
theorem z91_35 : zb (.if_icmp .ge) 91 35 51 38 := ⟨16, ⟨rfl, rfl, rfl⟩, rfl⟩
theorem z91_38 : za 91 38 (.aload_n 0) 39 := ⟨rfl, rfl, rfl⟩
theorem z91_39 : za_f 91 39 5 12 42 := ⟨39, 9, .null, ⟨rfl, rfl, rfl⟩, rfl, Or.inr (Or.inr rfl)⟩
theorem z91_42 : za 91 42 (.iload_n 3) 43 := ⟨rfl, rfl, rfl⟩
theorem z91_43 : za 91 43 (.iload_n 3) 44 := ⟨rfl, rfl, rfl⟩
theorem z91_44 : za 91 44 (.iastore) 45 := ⟨rfl, rfl, rfl⟩
theorem z91_45 : za 91 45 (.iinc 3 (1)) 48 := ⟨rfl, rfl, rfl⟩
theorem z91_48 : zb (.goto) 91 48 33 51 := ⟨(-15), ⟨rfl, rfl, rfl⟩, rfl⟩
theorem z91_51 : za 91 51 (.iload_n 1) 52 := ⟨rfl, rfl, rfl⟩
theorem z91_52 : za 91 52 (.i2l) 53 := ⟨rfl, rfl, rfl⟩
theorem z91_53 : za 91 53 (.lstore_n 3) 54 := ⟨rfl, rfl, rfl⟩
theorem z91_54 : za 91 54 (.iconst 0) 55 := ⟨rfl, rfl, rfl⟩
theorem z91_55 : za 91 55 (.istore 5) 57 := ⟨rfl, rfl, rfl⟩
theorem z91_57 : za 91 57 (.iload_n 2) 58 := ⟨rfl, rfl, rfl⟩
theorem z91_58 : zb (.ifCond .le) 91 58 139 61 := ⟨81, ⟨rfl, rfl, rfl⟩, rfl⟩
theorem z91_61 : za_l 91 61 64 (214013) := ⟨100, 0, 0, ⟨rfl, rfl, rfl⟩, rfl⟩
theorem z91_64 : za 91 64 (.lload_n 3) 65 := ⟨rfl, rfl, rfl⟩
theorem z91_65 : za 91 65 (.lmul) 66 := ⟨rfl, rfl, rfl⟩
theorem z91_66 : za_l 91 66 69 (2531011) := ⟨102, 0, 0, ⟨rfl, rfl, rfl⟩, rfl⟩
theorem z91_69 : za 91 69 (.ladd) 70 := ⟨rfl, rfl, rfl⟩
theorem z91_70 : za_l 91 70 73 (2147483648) := ⟨104, 0, 0, ⟨rfl, rfl, rfl⟩, rfl⟩
theorem z91_73 : za 91 73 (.lrem) 74 := ⟨rfl, rfl, rfl⟩
theorem z91_74 : za 91 74 (.lstore_n 3) 75 := ⟨rfl, rfl, rfl⟩
theorem z91_75 : za 91 75 (.lload_n 3) 76 := ⟨rfl, rfl, rfl⟩
theorem z91_76 : za_l 91 76 79 (65536) := ⟨106, 0, 0, ⟨rfl, rfl, rfl⟩, rfl⟩
theorem z91_79 : za 91 79 (.ldiv) 80 := ⟨rfl, rfl, rfl⟩
theorem z91_80 : za 91 80 (.iload_n 2) 81 := ⟨rfl, rfl, rfl⟩
theorem z91_81 : za 91 81 (.i2l) 82 := ⟨rfl, rfl, rfl⟩
theorem z91_82 : za 91 82 (.lrem) 83 := ⟨rfl, rfl, rfl⟩
theorem z91_83 : za 91 83 (.l2i) 84 := ⟨rfl, rfl, rfl⟩
theorem z91_84 : za 91 84 (.istore 6) 86 := ⟨rfl, rfl, rfl⟩
theorem z91_86 : za 91 86 (.aload_n 0) 87 := ⟨rfl, rfl, rfl⟩
theorem z91_87 : za 91 87 (.iload 5) 89 := ⟨rfl, rfl, rfl⟩
theorem z91_89 : za 91 89 (.aload_n 0) 90 := ⟨rfl, rfl, rfl⟩
theorem z91_90 : za_f 91 90 5 1 93 := ⟨7, 0, .null, ⟨rfl, rfl, rfl⟩, rfl, Or.inl rfl⟩
theorem z91_93 : za 91 93 (.irem) 94 := ⟨rfl, rfl, rfl⟩
theorem z91_94 : za 91 94 (.aload_n 0) 95 := ⟨rfl, rfl, rfl⟩
theorem z91_95 : za_f 91 95 5 12 98 := ⟨39, 9, .null, ⟨rfl, rfl, rfl⟩, rfl, Or.inr (Or.inr rfl)⟩
theorem z91_98 : za 91 98 (.iload 6) 100 := ⟨rfl, rfl, rfl⟩
theorem z91_100 : za 91 100 (.iaload) 101 := ⟨rfl, rfl, rfl⟩
theorem z91_101 : za_v 91 101 90 2 5 104 := ⟨108, ⟨rfl, rfl, rfl⟩, rfl⟩
theorem z91_104 : za 91 104 (.aload_n 0) 105 := ⟨rfl, rfl, rfl⟩
theorem z91_105 : za_f 91 105 5 11 108 := ⟨35, 9, .null, ⟨rfl, rfl, rfl⟩, rfl, Or.inr (Or.inr rfl)⟩
theorem z91_108 : za 91 108 (.aload_n 0) 109 := ⟨rfl, rfl, rfl⟩
theorem z91_109 : za_f 91 109 5 12 112 := ⟨39, 9, .null, ⟨rfl, rfl, rfl⟩, rfl, Or.inr (Or.inr rfl)⟩
theorem z91_112 : za 91 112 (.iload 6) 114 := ⟨rfl, rfl, rfl⟩
theorem z91_114 : za 91 114 (.iaload) 115 := ⟨rfl, rfl, rfl⟩
theorem z91_115 : za 91 115 (.iconst 1) 116 := ⟨rfl, rfl, rfl⟩
theorem z91_116 : za 91 116 (.bastore) 117 := ⟨rfl, rfl, rfl⟩
theorem z91_117 : za 91 117 (.iinc 2 (-1)) 120 := ⟨rfl, rfl, rfl⟩
theorem z91_120 : za 91 120 (.aload_n 0) 121 := ⟨rfl, rfl, rfl⟩
theorem z91_121 : za_f 91 121 5 12 124 := ⟨39, 9, .null, ⟨rfl, rfl, rfl⟩, rfl, Or.inr (Or.inr rfl)⟩
theorem z91_124 : za 91 124 (.iload 6) 126 := ⟨rfl, rfl, rfl⟩
theorem z91_126 : za 91 126 (.aload_n 0) 127 := ⟨rfl, rfl, rfl⟩
theorem z91_127 : za_f 91 127 5 12 130 := ⟨39, 9, .null, ⟨rfl, rfl, rfl⟩, rfl, Or.inr (Or.inr rfl)⟩
theorem z91_130 : za 91 130 (.iload_n 2) 131 := ⟨rfl, rfl, rfl⟩
theorem z91_131 : za 91 131 (.iaload) 132 := ⟨rfl, rfl, rfl⟩
theorem z91_132 : za 91 132 (.iastore) 133 := ⟨rfl, rfl, rfl⟩
theorem z91_133 : za 91 133 (.iinc 5 (1)) 136 := ⟨rfl, rfl, rfl⟩
theorem z91_136 : zb (.goto) 91 136 57 139 := ⟨(-79), ⟨rfl, rfl, rfl⟩, rfl⟩
theorem z91_139 : za 91 139 (.return_) 140 := ⟨rfl, rfl, rfl⟩
theorem z92_0 : za 92 0 (.iconst 0) 1 := ⟨rfl, rfl, rfl⟩
theorem z92_1 : za 92 1 (.istore_n 1) 2 := ⟨rfl, rfl, rfl⟩
theorem z92_2 : za 92 2 (.iconst 0) 3 := ⟨rfl, rfl, rfl⟩
theorem z92_3 : za 92 3 (.istore_n 2) 4 := ⟨rfl, rfl, rfl⟩
theorem z92_4 : za 92 4 (.iload_n 2) 5 := ⟨rfl, rfl, rfl⟩
theorem z92_5 : za 92 5 (.bipush (52)) 7 := ⟨rfl, rfl, rfl⟩
theorem z92_7 : zb (.if_icmp .ge) 92 7 33 10 := ⟨26, ⟨rfl, rfl, rfl⟩, rfl⟩
theorem z92_10 : za 92 10 (.aload_n 0) 11 := ⟨rfl, rfl, rfl⟩
theorem z92_11 : za_f 92 11 5 11 14 := ⟨35, 9, .null, ⟨rfl, rfl, rfl⟩, rfl, Or.inr (Or.inr rfl)⟩
theorem z92_14 : za 92 14 (.iload_n 2) 15 := ⟨rfl, rfl, rfl⟩
theorem z92_15 : za 92 15 (.baload) 16 := ⟨rfl, rfl, rfl⟩
theorem z92_16 : zb (.ifCond .eq) 92 16 25 19 := ⟨9, ⟨rfl, rfl, rfl⟩, rfl⟩
theorem z92_19 : za 92 19 (.iload_n 1) 20 := ⟨rfl, rfl, rfl⟩
theorem z92_20 : za 92 20 (.iconst 1) 21 := ⟨rfl, rfl, rfl⟩
theorem z92_21 : za 92 21 (.iadd) 22 := ⟨rfl, rfl, rfl⟩
theorem z92_22 : zb (.goto) 92 22 26 25 := ⟨4, ⟨rfl, rfl, rfl⟩, rfl⟩
theorem z92_25 : za 92 25 (.iload_n 1) 26 := ⟨rfl, rfl, rfl⟩
theorem z92_26 : za 92 26 (.istore_n 1) 27 := ⟨rfl, rfl, rfl⟩
theorem z92_27 : za 92 27 (.iinc 2 (1)) 30 := ⟨rfl, rfl, rfl⟩
theorem z92_30 : zb (.goto) 92 30 4 33 := ⟨(-26), ⟨rfl, rfl, rfl⟩, rfl⟩
theorem z92_33 : za 92 33 (.iload_n 1) 34 := ⟨rfl, rfl, rfl⟩
theorem z92_34 : za 92 34 (.ireturn) 35 := ⟨rfl, rfl, rfl⟩
theorem z93_0 : za 93 0 (.aload_n 0) 1 := ⟨rfl, rfl, rfl⟩
theorem z93_1 : za 93 1 (.iconst 0) 2 := ⟨rfl, rfl, rfl⟩
theorem z93_2 : za_p 93 2 5 0 5 := ⟨69, 0, .null, ⟨rfl, rfl, rfl⟩, rfl, Or.inl rfl⟩
theorem z93_5 : za 93 5 (.iload_n 1) 6 := ⟨rfl, rfl, rfl⟩
theorem z93_6 : za 93 6 (.iconst 0) 7 := ⟨rfl, rfl, rfl⟩
theorem z93_7 : za 93 7 (.aload_n 0) 8 := ⟨rfl, rfl, rfl⟩
theorem z93_8 : za_f 93 8 5 1 11 := ⟨7, 0, .null, ⟨rfl, rfl, rfl⟩, rfl, Or.inl rfl⟩
theorem z93_11 : za 93 11 (.iconst 1) 12 := ⟨rfl, rfl, rfl⟩
theorem z93_12 : za 93 12 (.isub) 13 := ⟨rfl, rfl, rfl⟩
theorem z93_13 : za_s 93 13 79 3 16 := ⟨92, .null, ⟨rfl, rfl, rfl⟩, rfl⟩
theorem z93_16 : zb (.ifCond .eq) 93 16 33 19 := ⟨17, ⟨rfl, rfl, rfl⟩, rfl⟩
theorem z93_19 : za 93 19 (.iload_n 2) 20 := ⟨rfl, rfl, rfl⟩
theorem z93_20 : za 93 20 (.iconst 0) 21 := ⟨rfl, rfl, rfl⟩
theorem z93_21 : za 93 21 (.aload_n 0) 22 := ⟨rfl, rfl, rfl⟩
theorem z93_22 : za_v 93 22 80 0 5 25 := ⟨96, ⟨rfl, rfl, rfl⟩, rfl⟩
theorem z93_25 : za 93 25 (.iconst 1) 26 := ⟨rfl, rfl, rfl⟩
theorem z93_26 : za 93 26 (.isub) 27 := ⟨rfl, rfl, rfl⟩
theorem z93_27 : za_s 93 27 79 3 30 := ⟨92, .null, ⟨rfl, rfl, rfl⟩, rfl⟩
theorem z93_30 : zb (.ifCond .ne) 93 30 39 33 := ⟨9, ⟨rfl, rfl, rfl⟩, rfl⟩
theorem z93_33 : za 93 33 (.aload_n 0) 34 := ⟨rfl, rfl, rfl⟩
theorem z93_34 : za 93 34 (.iconst 1) 35 := ⟨rfl, rfl, rfl⟩
theorem z93_35 : za_v 93 35 78 1 5 38 := ⟨112, ⟨rfl, rfl, rfl⟩, rfl⟩
theorem z93_38 : za 93 38 (.ireturn) 39 := ⟨rfl, rfl, rfl⟩
theorem z93_39 : za 93 39 (.aload_n 0) 40 := ⟨rfl, rfl, rfl⟩
theorem z93_40 : za_f 93 40 5 11 43 := ⟨35, 9, .null, ⟨rfl, rfl, rfl⟩, rfl, Or.inr (Or.inr rfl)⟩
theorem z93_43 : za 93 43 (.iload_n 2) 44 := ⟨rfl, rfl, rfl⟩
theorem z93_44 : za 93 44 (.baload) 45 := ⟨rfl, rfl, rfl⟩
theorem z93_45 : zb (.ifCond .eq) 93 45 54 48 := ⟨9, ⟨rfl, rfl, rfl⟩, rfl⟩
theorem z93_48 : za 93 48 (.aload_n 0) 49 := ⟨rfl, rfl, rfl⟩
theorem z93_49 : za 93 49 (.iconst 2) 50 := ⟨rfl, rfl, rfl⟩
theorem z93_50 : za_v 93 50 78 1 5 53 := ⟨112, ⟨rfl, rfl, rfl⟩, rfl⟩
theorem z93_53 : za 93 53 (.ireturn) 54 := ⟨rfl, rfl, rfl⟩
theorem z93_54 : za 93 54 (.aload_n 0) 55 := ⟨rfl, rfl, rfl⟩
theorem z93_55 : za 93 55 (.iload_n 1) 56 := ⟨rfl, rfl, rfl⟩
theorem z93_56 : za 93 56 (.iload_n 2) 57 := ⟨rfl, rfl, rfl⟩
theorem z93_57 : za_v 93 57 90 2 5 60 := ⟨108, ⟨rfl, rfl, rfl⟩, rfl⟩
theorem z93_60 : za 93 60 (.aload_n 0) 61 := ⟨rfl, rfl, rfl⟩
theorem z93_61 : za_f 93 61 5 11 64 := ⟨35, 9, .null, ⟨rfl, rfl, rfl⟩, rfl, Or.inr (Or.inr rfl)⟩
theorem z93_64 : za 93 64 (.iload_n 2) 65 := ⟨rfl, rfl, rfl⟩
theorem z93_65 : za 93 65 (.iconst 1) 66 := ⟨rfl, rfl, rfl⟩
theorem z93_66 : za 93 66 (.bastore) 67 := ⟨rfl, rfl, rfl⟩
theorem z93_67 : za 93 67 (.aload_n 0) 68 := ⟨rfl, rfl, rfl⟩
theorem z93_68 : za 93 68 (.iconst (-1)) 69 := ⟨rfl, rfl, rfl⟩
theorem z93_69 : za_p 93 69 5 15 72 := ⟨45, 0, .null, ⟨rfl, rfl, rfl⟩, rfl, Or.inl rfl⟩
theorem z93_72 : za 93 72 (.aload_n 0) 73 := ⟨rfl, rfl, rfl⟩
theorem z93_73 : za_v 93 73 92 0 5 76 := ⟨115, ⟨rfl, rfl, rfl⟩, rfl⟩
theorem z93_76 : za 93 76 (.ireturn) 77 := ⟨rfl, rfl, rfl⟩
theorem z94_0 : za 94 0 (.iload_n 1) 1 := ⟨rfl, rfl, rfl⟩
theorem z94_1 : za 94 1 (.iconst 0) 2 := ⟨rfl, rfl, rfl⟩
theorem z94_2 : za 94 2 (.aload_n 0) 3 := ⟨rfl, rfl, rfl⟩
theorem z94_3 : za_f 94 3 5 1 6 := ⟨7, 0, .null, ⟨rfl, rfl, rfl⟩, rfl, Or.inl rfl⟩
theorem z94_6 : za 94 6 (.iconst 1) 7 := ⟨rfl, rfl, rfl⟩
theorem z94_7 : za 94 7 (.isub) 8 := ⟨rfl, rfl, rfl⟩
theorem z94_8 : za_s 94 8 79 3 11 := ⟨92, .null, ⟨rfl, rfl, rfl⟩, rfl⟩
theorem z94_11 : za 94 11 (.ireturn) 12 := ⟨rfl, rfl, rfl⟩
theorem z95_0 : za 95 0 (.iload_n 1) 1 := ⟨rfl, rfl, rfl⟩
theorem z95_1 : za 95 1 (.bipush (8)) 3 := ⟨rfl, rfl, rfl⟩
theorem z95_3 : za 95 3 (.bipush (7)) 5 := ⟨rfl, rfl, rfl⟩
theorem z95_5 : za 95 5 (.aload_n 0) 6 := ⟨rfl, rfl, rfl⟩
theorem z95_6 : za_f 95 6 5 2 9 := ⟨13, 0, .null, ⟨rfl, rfl, rfl⟩, rfl, Or.inl rfl⟩
theorem z95_9 : za 95 9 (.iadd) 10 := ⟨rfl, rfl, rfl⟩
theorem z95_10 : za_s 95 10 79 3 13 := ⟨92, .null, ⟨rfl, rfl, rfl⟩, rfl⟩
theorem z95_13 : za 95 13 (.ireturn) 14 := ⟨rfl, rfl, rfl⟩
theorem z96_0 : za 96 0 (.aload_n 0) 1 := ⟨rfl, rfl, rfl⟩
theorem z96_1 : za_f 96 1 5 10 4 := ⟨32, 9, .null, ⟨rfl, rfl, rfl⟩, rfl, Or.inr (Or.inr rfl)⟩
theorem z96_4 : za 96 4 (.iconst 0) 5 := ⟨rfl, rfl, rfl⟩
theorem z96_5 : za 96 5 (.iaload) 6 := ⟨rfl, rfl, rfl⟩
theorem z96_6 : za 96 6 (.aload_n 0) 7 := ⟨rfl, rfl, rfl⟩
theorem z96_7 : za_f 96 7 5 10 10 := ⟨32, 9, .null, ⟨rfl, rfl, rfl⟩, rfl, Or.inr (Or.inr rfl)⟩
theorem z96_10 : za 96 10 (.iconst 1) 11 := ⟨rfl, rfl, rfl⟩
theorem z96_11 : za 96 11 (.iaload) 12 := ⟨rfl, rfl, rfl⟩
theorem z96_12 : za 96 12 (.iadd) 13 := ⟨rfl, rfl, rfl⟩
theorem z96_13 : za 96 13 (.aload_n 0) 14 := ⟨rfl, rfl, rfl⟩
theorem z96_14 : za_f 96 14 5 10 17 := ⟨32, 9, .null, ⟨rfl, rfl, rfl⟩, rfl, Or.inr (Or.inr rfl)⟩
theorem z96_17 : za 96 17 (.iconst 2) 18 := ⟨rfl, rfl, rfl⟩
theorem z96_18 : za 96 18 (.iaload) 19 := ⟨rfl, rfl, rfl⟩
theorem z96_19 : za 96 19 (.iadd) 20 := ⟨rfl, rfl, rfl⟩
theorem z96_20 : za 96 20 (.aload_n 0) 21 := ⟨rfl, rfl, rfl⟩
theorem z96_21 : za_f 96 21 5 10 24 := ⟨32, 9, .null, ⟨rfl, rfl, rfl⟩, rfl, Or.inr (Or.inr rfl)⟩
theorem z96_24 : za 96 24 (.iconst 3) 25 := ⟨rfl, rfl, rfl⟩
theorem z96_25 : za 96 25 (.iaload) 26 := ⟨rfl, rfl, rfl⟩
theorem z96_26 : za 96 26 (.iadd) 27 := ⟨rfl, rfl, rfl⟩
theorem z96_27 : za 96 27 (.ireturn) 28 := ⟨rfl, rfl, rfl⟩
theorem z97_0 : za 97 0 (.iload_n 2) 1 := ⟨rfl, rfl, rfl⟩
theorem z97_1 : za 97 1 (.aload_n 0) 2 := ⟨rfl, rfl, rfl⟩
theorem z97_2 : za_f 97 2 5 8 5 := ⟨26, 9, .null, ⟨rfl, rfl, rfl⟩, rfl, Or.inr (Or.inr rfl)⟩
theorem z97_5 : za 97 5 (.iload_n 1) 6 := ⟨rfl, rfl, rfl⟩
theorem z97_6 : za 97 6 (.iaload) 7 := ⟨rfl, rfl, rfl⟩
theorem z97_7 : zb (.if_icmp .ge) 97 7 33 10 := ⟨26, ⟨rfl, rfl, rfl⟩, rfl⟩
theorem z97_10 : za 97 10 (.aload_n 0) 11 := ⟨rfl, rfl, rfl⟩
theorem z97_11 : za_f 97 11 5 7 14 := ⟨22, 9, .null, ⟨rfl, rfl, rfl⟩, rfl, Or.inr (Or.inr rfl)⟩
theorem z97_14 : za 97 14 (.bipush (52)) 16 := ⟨rfl, rfl, rfl⟩
theorem z97_16 : za 97 16 (.iload_n 1) 17 := ⟨rfl, rfl, rfl⟩
theorem z97_17 : za 97 17 (.imul) 18 := ⟨rfl, rfl, rfl⟩
theorem z97_18 : za 97 18 (.aload_n 0) 19 := ⟨rfl, rfl, rfl⟩
theorem z97_19 : za_f 97 19 5 8 22 := ⟨26, 9, .null, ⟨rfl, rfl, rfl⟩, rfl, Or.inr (Or.inr rfl)⟩
theorem z97_22 : za 97 22 (.iload_n 1) 23 := ⟨rfl, rfl, rfl⟩
theorem z97_23 : za 97 23 (.iaload) 24 := ⟨rfl, rfl, rfl⟩
theorem z97_24 : za 97 24 (.iadd) 25 := ⟨rfl, rfl, rfl⟩
theorem z97_25 : za 97 25 (.iconst 1) 26 := ⟨rfl, rfl, rfl⟩
theorem z97_26 : za 97 26 (.isub) 27 := ⟨rfl, rfl, rfl⟩
theorem z97_27 : za 97 27 (.iload_n 2) 28 := ⟨rfl, rfl, rfl⟩
theorem z97_28 : za 97 28 (.isub) 29 := ⟨rfl, rfl, rfl⟩
theorem z97_29 : za 97 29 (.iaload) 30 := ⟨rfl, rfl, rfl⟩
theorem z97_30 : zb (.goto) 97 30 34 33 := ⟨4, ⟨rfl, rfl, rfl⟩, rfl⟩
theorem z97_33 : za 97 33 (.iconst (-1)) 34 := ⟨rfl, rfl, rfl⟩
theorem z97_34 : za 97 34 (.ireturn) 35 := ⟨rfl, rfl, rfl⟩
theorem z98_0 : za 98 0 (.aload_n 0) 1 := ⟨rfl, rfl, rfl⟩
theorem z98_1 : za 98 1 (.iload_n 1) 2 := ⟨rfl, rfl, rfl⟩
theorem z98_2 : za_v 98 2 95 1 5 5 := ⟨118, ⟨rfl, rfl, rfl⟩, rfl⟩
theorem z98_5 : zb (.ifCond .eq) 98 5 20 8 := ⟨15, ⟨rfl, rfl, rfl⟩, rfl⟩
theorem z98_8 : za 98 8 (.aload_n 0) 9 := ⟨rfl, rfl, rfl⟩
theorem z98_9 : za_f 98 9 5 9 12 := ⟨29, 9, .null, ⟨rfl, rfl, rfl⟩, rfl, Or.inr (Or.inr rfl)⟩
theorem z98_12 : za 98 12 (.iload_n 1) 13 := ⟨rfl, rfl, rfl⟩
theorem z98_13 : za 98 13 (.bipush (8)) 15 := ⟨rfl, rfl, rfl⟩
theorem z98_15 : za 98 15 (.isub) 16 := ⟨rfl, rfl, rfl⟩
theorem z98_16 : za 98 16 (.iaload) 17 := ⟨rfl, rfl, rfl⟩
theorem z98_17 : zb (.goto) 98 17 26 20 := ⟨9, ⟨rfl, rfl, rfl⟩, rfl⟩
theorem z98_20 : za 98 20 (.aload_n 0) 21 := ⟨rfl, rfl, rfl⟩
theorem z98_21 : za 98 21 (.iload_n 1) 22 := ⟨rfl, rfl, rfl⟩
theorem z98_22 : za 98 22 (.iconst 0) 23 := ⟨rfl, rfl, rfl⟩
theorem z98_23 : za_v 98 23 97 2 5 26 := ⟨121, ⟨rfl, rfl, rfl⟩, rfl⟩
theorem z98_26 : za 98 26 (.ireturn) 27 := ⟨rfl, rfl, rfl⟩
theorem z99_0 : za 99 0 (.aload_n 0) 1 := ⟨rfl, rfl, rfl⟩
theorem z99_1 : za_f 99 1 5 8 4 := ⟨26, 9, .null, ⟨rfl, rfl, rfl⟩, rfl, Or.inr (Or.inr rfl)⟩
theorem z99_4 : za 99 4 (.iload_n 2) 5 := ⟨rfl, rfl, rfl⟩
theorem z99_5 : za 99 5 (.iaload) 6 := ⟨rfl, rfl, rfl⟩
theorem z99_6 : zb (.ifCond .ne) 99 6 17 9 := ⟨11, ⟨rfl, rfl, rfl⟩, rfl⟩
theorem z99_9 : za 99 9 (.aload_n 0) 10 := ⟨rfl, rfl, rfl⟩
theorem z99_10 : za 99 10 (.iload_n 1) 11 := ⟨rfl, rfl, rfl⟩
theorem z99_11 : za_v 99 11 85 1 5 14 := ⟨125, ⟨rfl, rfl, rfl⟩, rfl⟩
theorem z99_14 : zb (.goto) 99 14 28 17 := ⟨14, ⟨rfl, rfl, rfl⟩, rfl⟩
theorem z99_17 : za 99 17 (.aload_n 0) 18 := ⟨rfl, rfl, rfl⟩
theorem z99_18 : za 99 18 (.iload_n 1) 19 := ⟨rfl, rfl, rfl⟩
theorem z99_19 : za 99 19 (.aload_n 0) 20 := ⟨rfl, rfl, rfl⟩
theorem z99_20 : za 99 20 (.iload_n 2) 21 := ⟨rfl, rfl, rfl⟩
theorem z99_21 : za 99 21 (.iconst 0) 22 := ⟨rfl, rfl, rfl⟩
theorem z99_22 : za_v 99 22 97 2 5 25 := ⟨121, ⟨rfl, rfl, rfl⟩, rfl⟩
theorem z99_25 : za_v 99 25 84 2 5 28 := ⟨128, ⟨rfl, rfl, rfl⟩, rfl⟩
theorem z99_28 : za 99 28 (.ireturn) 29 := ⟨rfl, rfl, rfl⟩
theorem z100_0 : za 100 0 (.aload_n 0) 1 := ⟨rfl, rfl, rfl⟩
theorem z100_1 : za 100 1 (.iload_n 1) 2 := ⟨rfl, rfl, rfl⟩
theorem z100_2 : za_v 100 2 98 1 5 5 := ⟨132, ⟨rfl, rfl, rfl⟩, rfl⟩
theorem z100_5 : za 100 5 (.istore_n 3) 6 := ⟨rfl, rfl, rfl⟩
theorem z100_6 : za 100 6 (.iload_n 3) 7 := ⟨rfl, rfl, rfl⟩
theorem z100_7 : zb (.ifCond .lt) 100 7 15 10 := ⟨8, ⟨rfl, rfl, rfl⟩, rfl⟩
theorem z100_10 : za 100 10 (.iload_n 1) 11 := ⟨rfl, rfl, rfl⟩
theorem z100_11 : za 100 11 (.iload_n 2) 12 := ⟨rfl, rfl, rfl⟩
theorem z100_12 : zb (.if_icmp .ne) 100 12 17 15 := ⟨5, ⟨rfl, rfl, rfl⟩, rfl⟩
theorem z100_15 : za 100 15 (.iconst 0) 16 := ⟨rfl, rfl, rfl⟩
theorem z100_16 : za 100 16 (.ireturn) 17 := ⟨rfl, rfl, rfl⟩
theorem z100_17 : za 100 17 (.iload_n 2) 18 := ⟨rfl, rfl, rfl⟩
theorem z100_18 : za 100 18 (.bipush (12)) 20 := ⟨rfl, rfl, rfl⟩
theorem z100_20 : zb (.if_icmp .ne) 100 20 49 23 := ⟨29, ⟨rfl, rfl, rfl⟩, rfl⟩
theorem z100_23 : za 100 23 (.aload_n 0) 24 := ⟨rfl, rfl, rfl⟩
theorem z100_24 : za_f 100 24 5 10 27 := ⟨32, 9, .null, ⟨rfl, rfl, rfl⟩, rfl, Or.inr (Or.inr rfl)⟩
theorem z100_27 : za 100 27 (.aload_n 0) 28 := ⟨rfl, rfl, rfl⟩
theorem z100_28 : za 100 28 (.iload_n 3) 29 := ⟨rfl, rfl, rfl⟩
theorem z100_29 : za_v 100 29 81 1 5 32 := ⟨79, ⟨rfl, rfl, rfl⟩, rfl⟩
theorem z100_32 : za 100 32 (.iaload) 33 := ⟨rfl, rfl, rfl⟩
theorem z100_33 : za 100 33 (.iconst 1) 34 := ⟨rfl, rfl, rfl⟩
theorem z100_34 : za 100 34 (.iadd) 35 := ⟨rfl, rfl, rfl⟩
theorem z100_35 : za 100 35 (.aload_n 0) 36 := ⟨rfl, rfl, rfl⟩
theorem z100_36 : za 100 36 (.iload_n 3) 37 := ⟨rfl, rfl, rfl⟩
theorem z100_37 : za_v 100 37 82 1 5 40 := ⟨72, ⟨rfl, rfl, rfl⟩, rfl⟩
theorem z100_40 : zb (.if_icmp .ne) 100 40 47 43 := ⟨7, ⟨rfl, rfl, rfl⟩, rfl⟩
theorem z100_43 : za 100 43 (.iconst 1) 44 := ⟨rfl, rfl, rfl⟩
theorem z100_44 : zb (.goto) 100 44 48 47 := ⟨4, ⟨rfl, rfl, rfl⟩, rfl⟩
theorem z100_47 : za 100 47 (.iconst 0) 48 := ⟨rfl, rfl, rfl⟩
theorem z100_48 : za 100 48 (.ireturn) 49 := ⟨rfl, rfl, rfl⟩
theorem z100_49 : za 100 49 (.aload_n 0) 50 := ⟨rfl, rfl, rfl⟩
theorem z100_50 : za 100 50 (.iload_n 2) 51 := ⟨rfl, rfl, rfl⟩
theorem z100_51 : za_v 100 51 95 1 5 54 := ⟨118, ⟨rfl, rfl, rfl⟩, rfl⟩
theorem z100_54 : zb (.ifCond .eq) 100 54 83 57 := ⟨29, ⟨rfl, rfl, rfl⟩, rfl⟩
theorem z100_57 : za 100 57 (.aload_n 0) 58 := ⟨rfl, rfl, rfl⟩
theorem z100_58 : za 100 58 (.iload_n 1) 59 := ⟨rfl, rfl, rfl⟩
theorem z100_59 : za_v 100 59 94 1 5 62 := ⟨135, ⟨rfl, rfl, rfl⟩, rfl⟩
theorem z100_62 : zb (.ifCond .eq) 100 62 81 65 := ⟨19, ⟨rfl, rfl, rfl⟩, rfl⟩
theorem z100_65 : za 100 65 (.aload_n 0) 66 := ⟨rfl, rfl, rfl⟩
theorem z100_66 : za_f 100 66 5 9 69 := ⟨29, 9, .null, ⟨rfl, rfl, rfl⟩, rfl, Or.inr (Or.inr rfl)⟩
theorem z100_69 : za 100 69 (.iload_n 2) 70 := ⟨rfl, rfl, rfl⟩
theorem z100_70 : za 100 70 (.bipush (8)) 72 := ⟨rfl, rfl, rfl⟩
theorem z100_72 : za 100 72 (.isub) 73 := ⟨rfl, rfl, rfl⟩
theorem z100_73 : za 100 73 (.iaload) 74 := ⟨rfl, rfl, rfl⟩
theorem z100_74 : zb (.ifCond .ge) 100 74 81 77 := ⟨7, ⟨rfl, rfl, rfl⟩, rfl⟩
theorem z100_77 : za 100 77 (.iconst 1) 78 := ⟨rfl, rfl, rfl⟩
theorem z100_78 : zb (.goto) 100 78 82 81 := ⟨4, ⟨rfl, rfl, rfl⟩, rfl⟩
theorem z100_81 : za 100 81 (.iconst 0) 82 := ⟨rfl, rfl, rfl⟩
theorem z100_82 : za 100 82 (.ireturn) 83 := ⟨rfl, rfl, rfl⟩
theorem z100_83 : za 100 83 (.aload_n 0) 84 := ⟨rfl, rfl, rfl⟩
theorem z100_84 : za 100 84 (.iload_n 3) 85 := ⟨rfl, rfl, rfl⟩
theorem z100_85 : za 100 85 (.iload_n 2) 86 := ⟨rfl, rfl, rfl⟩
theorem z100_86 : za_v 100 86 99 2 5 89 := ⟨138, ⟨rfl, rfl, rfl⟩, rfl⟩
theorem z100_89 : za 100 89 (.ireturn) 90 := ⟨rfl, rfl, rfl⟩
theorem z101_0 : za 101 0 (.iconst 1) 1 := ⟨rfl, rfl, rfl⟩
theorem z101_1 : za 101 1 (.istore_n 2) 2 := ⟨rfl, rfl, rfl⟩
theorem z101_2 : za 101 2 (.iconst 0) 3 := ⟨rfl, rfl, rfl⟩
theorem z101_3 : za 101 3 (.istore_n 3) 4 := ⟨rfl, rfl, rfl⟩
theorem z101_4 : za 101 4 (.iload_n 3) 5 := ⟨rfl, rfl, rfl⟩
theorem z101_5 : za 101 5 (.aload_n 0) 6 := ⟨rfl, rfl, rfl⟩
theorem z101_6 : za_f 101 6 5 2 9 := ⟨13, 0, .null, ⟨rfl, rfl, rfl⟩, rfl, Or.inl rfl⟩
theorem z101_9 : zb (.if_icmp .ge) 101 9 35 12 := ⟨26, ⟨rfl, rfl, rfl⟩, rfl⟩
theorem z101_12 : za 101 12 (.aload_n 0) 13 := ⟨rfl, rfl, rfl⟩
theorem z101_13 : za_f 101 13 5 9 16 := ⟨29, 9, .null, ⟨rfl, rfl, rfl⟩, rfl, Or.inr (Or.inr rfl)⟩
theorem z101_16 : za 101 16 (.iload_n 3) 17 := ⟨rfl, rfl, rfl⟩
theorem z101_17 : za 101 17 (.iaload) 18 := ⟨rfl, rfl, rfl⟩
theorem z101_18 : zb (.ifCond .ge) 101 18 27 21 := ⟨9, ⟨rfl, rfl, rfl⟩, rfl⟩
theorem z101_21 : za 101 21 (.iload_n 2) 22 := ⟨rfl, rfl, rfl⟩
theorem z101_22 : za 101 22 (.iconst 1) 23 := ⟨rfl, rfl, rfl⟩
theorem z101_23 : za 101 23 (.iadd) 24 := ⟨rfl, rfl, rfl⟩
theorem z101_24 : zb (.goto) 101 24 28 27 := ⟨4, ⟨rfl, rfl, rfl⟩, rfl⟩
theorem z101_27 : za 101 27 (.iload_n 2) 28 := ⟨rfl, rfl, rfl⟩
theorem z101_28 : za 101 28 (.istore_n 2) 29 := ⟨rfl, rfl, rfl⟩
theorem z101_29 : za 101 29 (.iinc 3 (1)) 32 := ⟨rfl, rfl, rfl⟩
theorem z101_32 : zb (.goto) 101 32 4 35 := ⟨(-28), ⟨rfl, rfl, rfl⟩, rfl⟩
theorem z101_35 : za 101 35 (.iconst 0) 36 := ⟨rfl, rfl, rfl⟩
theorem z101_36 : za 101 36 (.istore_n 3) 37 := ⟨rfl, rfl, rfl⟩
theorem z101_37 : za 101 37 (.iload_n 3) 38 := ⟨rfl, rfl, rfl⟩
theorem z101_38 : za 101 38 (.aload_n 0) 39 := ⟨rfl, rfl, rfl⟩
theorem z101_39 : za_f 101 39 5 1 42 := ⟨7, 0, .null, ⟨rfl, rfl, rfl⟩, rfl, Or.inl rfl⟩
theorem z101_42 : zb (.if_icmp .ge) 101 42 80 45 := ⟨38, ⟨rfl, rfl, rfl⟩, rfl⟩
theorem z101_45 : za 101 45 (.aload_n 0) 46 := ⟨rfl, rfl, rfl⟩
theorem z101_46 : za_f 101 46 5 4 49 := ⟨86, 0, .null, ⟨rfl, rfl, rfl⟩, rfl, Or.inl rfl⟩
theorem z101_49 : zb (.ifCond .ne) 101 49 72 52 := ⟨23, ⟨rfl, rfl, rfl⟩, rfl⟩
theorem z101_52 : za 101 52 (.iload_n 3) 53 := ⟨rfl, rfl, rfl⟩
theorem z101_53 : za 101 53 (.iload_n 1) 54 := ⟨rfl, rfl, rfl⟩
theorem z101_54 : zb (.if_icmp .eq) 101 54 72 57 := ⟨18, ⟨rfl, rfl, rfl⟩, rfl⟩
theorem z101_57 : za 101 57 (.aload_n 0) 58 := ⟨rfl, rfl, rfl⟩
theorem z101_58 : za_f 101 58 5 8 61 := ⟨26, 9, .null, ⟨rfl, rfl, rfl⟩, rfl, Or.inr (Or.inr rfl)⟩
theorem z101_61 : za 101 61 (.iload_n 3) 62 := ⟨rfl, rfl, rfl⟩
theorem z101_62 : za 101 62 (.iaload) 63 := ⟨rfl, rfl, rfl⟩
theorem z101_63 : zb (.ifCond .ne) 101 63 72 66 := ⟨9, ⟨rfl, rfl, rfl⟩, rfl⟩
theorem z101_66 : za 101 66 (.iconst 2) 67 := ⟨rfl, rfl, rfl⟩
theorem z101_67 : za 101 67 (.iload_n 2) 68 := ⟨rfl, rfl, rfl⟩
theorem z101_68 : za 101 68 (.imul) 69 := ⟨rfl, rfl, rfl⟩
theorem z101_69 : zb (.goto) 101 69 73 72 := ⟨4, ⟨rfl, rfl, rfl⟩, rfl⟩
theorem z101_72 : za 101 72 (.iload_n 2) 73 := ⟨rfl, rfl, rfl⟩
theorem z101_73 : za 101 73 (.istore_n 2) 74 := ⟨rfl, rfl, rfl⟩
theorem z101_74 : za 101 74 (.iinc 3 (1)) 77 := ⟨rfl, rfl, rfl⟩
theorem z101_77 : zb (.goto) 101 77 37 80 := ⟨(-40), ⟨rfl, rfl, rfl⟩, rfl⟩
theorem z101_80 : za 101 80 (.iload_n 2) 81 := ⟨rfl, rfl, rfl⟩
theorem z101_81 : za 101 81 (.ireturn) 82 := ⟨rfl, rfl, rfl⟩
theorem z102_0 : za 102 0 (.iload_n 3) 1 := ⟨rfl, rfl, rfl⟩
theorem z102_1 : za 102 1 (.iconst 1) 2 := ⟨rfl, rfl, rfl⟩
theorem z102_2 : zb (.if_icmp .ne) 102 2 12 5 := ⟨10, ⟨rfl, rfl, rfl⟩, rfl⟩
theorem z102_5 : za 102 5 (.aload_n 0) 6 := ⟨rfl, rfl, rfl⟩
theorem z102_6 : za 102 6 (.iload_n 1) 7 := ⟨rfl, rfl, rfl⟩
theorem z102_7 : za 102 7 (.iload_n 2) 8 := ⟨rfl, rfl, rfl⟩
theorem z102_8 : za_v 102 8 100 2 5 11 := ⟨141, ⟨rfl, rfl, rfl⟩, rfl⟩
theorem z102_11 : za 102 11 (.ireturn) 12 := ⟨rfl, rfl, rfl⟩
theorem z102_12 : za 102 12 (.aload_n 0) 13 := ⟨rfl, rfl, rfl⟩
theorem z102_13 : za 102 13 (.iload_n 1) 14 := ⟨rfl, rfl, rfl⟩
theorem z102_14 : za_v 102 14 94 1 5 17 := ⟨135, ⟨rfl, rfl, rfl⟩, rfl⟩
theorem z102_17 : zb (.ifCond .eq) 102 17 52 20 := ⟨35, ⟨rfl, rfl, rfl⟩, rfl⟩
theorem z102_20 : za 102 20 (.aload_n 0) 21 := ⟨rfl, rfl, rfl⟩
theorem z102_21 : za 102 21 (.iload_n 2) 22 := ⟨rfl, rfl, rfl⟩
theorem z102_22 : za_v 102 22 94 1 5 25 := ⟨135, ⟨rfl, rfl, rfl⟩, rfl⟩
theorem z102_25 : zb (.ifCond .eq) 102 25 52 28 := ⟨27, ⟨rfl, rfl, rfl⟩, rfl⟩
theorem z102_28 : za 102 28 (.iload_n 1) 29 := ⟨rfl, rfl, rfl⟩
theorem z102_29 : za 102 29 (.iload_n 2) 30 := ⟨rfl, rfl, rfl⟩
theorem z102_30 : zb (.if_icmp .eq) 102 30 52 33 := ⟨22, ⟨rfl, rfl, rfl⟩, rfl⟩
theorem z102_33 : za 102 33 (.iload_n 3) 34 := ⟨rfl, rfl, rfl⟩
theorem z102_34 : za 102 34 (.aload_n 0) 35 := ⟨rfl, rfl, rfl⟩
theorem z102_35 : za_f 102 35 5 8 38 := ⟨26, 9, .null, ⟨rfl, rfl, rfl⟩, rfl, Or.inr (Or.inr rfl)⟩
theorem z102_38 : za 102 38 (.iload_n 1) 39 := ⟨rfl, rfl, rfl⟩
theorem z102_39 : za 102 39 (.iaload) 40 := ⟨rfl, rfl, rfl⟩
theorem z102_40 : zb (.if_icmp .gt) 102 40 52 43 := ⟨12, ⟨rfl, rfl, rfl⟩, rfl⟩
theorem z102_43 : za 102 43 (.iload_n 3) 44 := ⟨rfl, rfl, rfl⟩
theorem z102_44 : za 102 44 (.aload_n 0) 45 := ⟨rfl, rfl, rfl⟩
theorem z102_45 : za 102 45 (.iload_n 2) 46 := ⟨rfl, rfl, rfl⟩
theorem z102_46 : za_v 102 46 101 1 5 49 := ⟨144, ⟨rfl, rfl, rfl⟩, rfl⟩
theorem z102_49 : zb (.if_icmp .le) 102 49 54 52 := ⟨5, ⟨rfl, rfl, rfl⟩, rfl⟩
theorem z102_52 : za 102 52 (.iconst 0) 53 := ⟨rfl, rfl, rfl⟩
theorem z102_53 : za 102 53 (.ireturn) 54 := ⟨rfl, rfl, rfl⟩
theorem z102_54 : za 102 54 (.iconst 0) 55 := ⟨rfl, rfl, rfl⟩
theorem z102_55 : za 102 55 (.istore 4) 57 := ⟨rfl, rfl, rfl⟩
theorem z102_57 : za 102 57 (.iload 4) 59 := ⟨rfl, rfl, rfl⟩
theorem z102_59 : za 102 59 (.iconst 1) 60 := ⟨rfl, rfl, rfl⟩
theorem z102_60 : za 102 60 (.iadd) 61 := ⟨rfl, rfl, rfl⟩
theorem z102_61 : za 102 61 (.iload_n 3) 62 := ⟨rfl, rfl, rfl⟩
theorem z102_62 : zb (.if_icmp .ge) 102 62 96 65 := ⟨34, ⟨rfl, rfl, rfl⟩, rfl⟩
theorem z102_65 : za 102 65 (.aload_n 0) 66 := ⟨rfl, rfl, rfl⟩
theorem z102_66 : za 102 66 (.aload_n 0) 67 := ⟨rfl, rfl, rfl⟩
theorem z102_67 : za 102 67 (.iload_n 1) 68 := ⟨rfl, rfl, rfl⟩
theorem z102_68 : za 102 68 (.iload 4) 70 := ⟨rfl, rfl, rfl⟩
theorem z102_70 : za_v 102 70 97 2 5 73 := ⟨121, ⟨rfl, rfl, rfl⟩, rfl⟩
theorem z102_73 : za 102 73 (.aload_n 0) 74 := ⟨rfl, rfl, rfl⟩
theorem z102_74 : za 102 74 (.iload_n 1) 75 := ⟨rfl, rfl, rfl⟩
theorem z102_75 : za 102 75 (.iload 4) 77 := ⟨rfl, rfl, rfl⟩
theorem z102_77 : za 102 77 (.iconst 1) 78 := ⟨rfl, rfl, rfl⟩
theorem z102_78 : za 102 78 (.iadd) 79 := ⟨rfl, rfl, rfl⟩
theorem z102_79 : za_v 102 79 97 2 5 82 := ⟨121, ⟨rfl, rfl, rfl⟩, rfl⟩
theorem z102_82 : za_v 102 82 84 2 5 85 := ⟨128, ⟨rfl, rfl, rfl⟩, rfl⟩
theorem z102_85 : zb (.ifCond .ne) 102 85 90 88 := ⟨5, ⟨rfl, rfl, rfl⟩, rfl⟩
theorem z102_88 : za 102 88 (.iconst 0) 89 := ⟨rfl, rfl, rfl⟩
theorem z102_89 : za 102 89 (.ireturn) 90 := ⟨rfl, rfl, rfl⟩
theorem z102_90 : za 102 90 (.iinc 4 (1)) 93 := ⟨rfl, rfl, rfl⟩
theorem z102_93 : zb (.goto) 102 93 57 96 := ⟨(-36), ⟨rfl, rfl, rfl⟩, rfl⟩
theorem z102_96 : za 102 96 (.aload_n 0) 97 := ⟨rfl, rfl, rfl⟩
theorem z102_97 : za 102 97 (.aload_n 0) 98 := ⟨rfl, rfl, rfl⟩
theorem z102_98 : za 102 98 (.iload_n 1) 99 := ⟨rfl, rfl, rfl⟩
theorem z102_99 : za 102 99 (.iload_n 3) 100 := ⟨rfl, rfl, rfl⟩
theorem z102_100 : za 102 100 (.iconst 1) 101 := ⟨rfl, rfl, rfl⟩
theorem z102_101 : za 102 101 (.isub) 102 := ⟨rfl, rfl, rfl⟩
theorem z102_102 : za_v 102 102 97 2 5 105 := ⟨121, ⟨rfl, rfl, rfl⟩, rfl⟩
theorem z102_105 : za 102 105 (.iload_n 2) 106 := ⟨rfl, rfl, rfl⟩
theorem z102_106 : za_v 102 106 99 2 5 109 := ⟨138, ⟨rfl, rfl, rfl⟩, rfl⟩
theorem z102_109 : za 102 109 (.ireturn) 110 := ⟨rfl, rfl, rfl⟩
theorem z103_0 : za 103 0 (.iload_n 1) 1 := ⟨rfl, rfl, rfl⟩
theorem z103_1 : za 103 1 (.bipush (12)) 3 := ⟨rfl, rfl, rfl⟩
theorem z103_3 : zb (.if_icmp .ne) 103 3 23 6 := ⟨20, ⟨rfl, rfl, rfl⟩, rfl⟩
theorem z103_6 : za 103 6 (.aload_n 0) 7 := ⟨rfl, rfl, rfl⟩
theorem z103_7 : za_f 103 7 5 10 10 := ⟨32, 9, .null, ⟨rfl, rfl, rfl⟩, rfl, Or.inr (Or.inr rfl)⟩
theorem z103_10 : za 103 10 (.aload_n 0) 11 := ⟨rfl, rfl, rfl⟩
theorem z103_11 : za 103 11 (.iload_n 2) 12 := ⟨rfl, rfl, rfl⟩
theorem z103_12 : za_v 103 12 81 1 5 15 := ⟨79, ⟨rfl, rfl, rfl⟩, rfl⟩
theorem z103_15 : za 103 15 (.dup2) 16 := ⟨rfl, rfl, rfl⟩
theorem z103_16 : za 103 16 (.iaload) 17 := ⟨rfl, rfl, rfl⟩
theorem z103_17 : za 103 17 (.iconst 1) 18 := ⟨rfl, rfl, rfl⟩
theorem z103_18 : za 103 18 (.isub) 19 := ⟨rfl, rfl, rfl⟩
theorem z103_19 : za 103 19 (.iastore) 20 := ⟨rfl, rfl, rfl⟩
theorem z103_20 : zb (.goto) 103 20 54 23 := ⟨34, ⟨rfl, rfl, rfl⟩, rfl⟩
theorem z103_23 : za 103 23 (.aload_n 0) 24 := ⟨rfl, rfl, rfl⟩
theorem z103_24 : za 103 24 (.iload_n 1) 25 := ⟨rfl, rfl, rfl⟩
theorem z103_25 : za_v 103 25 95 1 5 28 := ⟨118, ⟨rfl, rfl, rfl⟩, rfl⟩
theorem z103_28 : zb (.ifCond .eq) 103 28 44 31 := ⟨16, ⟨rfl, rfl, rfl⟩, rfl⟩
theorem z103_31 : za 103 31 (.aload_n 0) 32 := ⟨rfl, rfl, rfl⟩
theorem z103_32 : za_f 103 32 5 9 35 := ⟨29, 9, .null, ⟨rfl, rfl, rfl⟩, rfl, Or.inr (Or.inr rfl)⟩
theorem z103_35 : za 103 35 (.iload_n 1) 36 := ⟨rfl, rfl, rfl⟩
theorem z103_36 : za 103 36 (.bipush (8)) 38 := ⟨rfl, rfl, rfl⟩
theorem z103_38 : za 103 38 (.isub) 39 := ⟨rfl, rfl, rfl⟩
theorem z103_39 : za 103 39 (.iconst (-1)) 40 := ⟨rfl, rfl, rfl⟩
theorem z103_40 : za 103 40 (.iastore) 41 := ⟨rfl, rfl, rfl⟩
theorem z103_41 : zb (.goto) 103 41 54 44 := ⟨13, ⟨rfl, rfl, rfl⟩, rfl⟩
theorem z103_44 : za 103 44 (.aload_n 0) 45 := ⟨rfl, rfl, rfl⟩
theorem z103_45 : za_f 103 45 5 8 48 := ⟨26, 9, .null, ⟨rfl, rfl, rfl⟩, rfl, Or.inr (Or.inr rfl)⟩
theorem z103_48 : za 103 48 (.iload_n 1) 49 := ⟨rfl, rfl, rfl⟩
theorem z103_49 : za 103 49 (.dup2) 50 := ⟨rfl, rfl, rfl⟩
theorem z103_50 : za 103 50 (.iaload) 51 := ⟨rfl, rfl, rfl⟩
theorem z103_51 : za 103 51 (.iconst 1) 52 := ⟨rfl, rfl, rfl⟩
theorem z103_52 : za 103 52 (.isub) 53 := ⟨rfl, rfl, rfl⟩
theorem z103_53 : za 103 53 (.iastore) 54 := ⟨rfl, rfl, rfl⟩
theorem z103_54 : za 103 54 (.iload_n 2) 55 := ⟨rfl, rfl, rfl⟩
theorem z103_55 : za 103 55 (.ireturn) 56 := ⟨rfl, rfl, rfl⟩
theorem z104_0 : za 104 0 (.iload_n 1) 1 := ⟨rfl, rfl, rfl⟩
theorem z104_1 : za 104 1 (.bipush (12)) 3 := ⟨rfl, rfl, rfl⟩
theorem z104_3 : zb (.if_icmp .ne) 104 3 23 6 := ⟨20, ⟨rfl, rfl, rfl⟩, rfl⟩
theorem z104_6 : za 104 6 (.aload_n 0) 7 := ⟨rfl, rfl, rfl⟩
theorem z104_7 : za_f 104 7 5 10 10 := ⟨32, 9, .null, ⟨rfl, rfl, rfl⟩, rfl, Or.inr (Or.inr rfl)⟩
theorem z104_10 : za 104 10 (.aload_n 0) 11 := ⟨rfl, rfl, rfl⟩
theorem z104_11 : za 104 11 (.iload_n 2) 12 := ⟨rfl, rfl, rfl⟩
theorem z104_12 : za_v 104 12 81 1 5 15 := ⟨79, ⟨rfl, rfl, rfl⟩, rfl⟩
theorem z104_15 : za 104 15 (.dup2) 16 := ⟨rfl, rfl, rfl⟩
theorem z104_16 : za 104 16 (.iaload) 17 := ⟨rfl, rfl, rfl⟩
theorem z104_17 : za 104 17 (.iconst 1) 18 := ⟨rfl, rfl, rfl⟩
theorem z104_18 : za 104 18 (.iadd) 19 := ⟨rfl, rfl, rfl⟩
theorem z104_19 : za 104 19 (.iastore) 20 := ⟨rfl, rfl, rfl⟩
theorem z104_20 : zb (.goto) 104 20 50 23 := ⟨30, ⟨rfl, rfl, rfl⟩, rfl⟩
theorem z104_23 : za 104 23 (.aload_n 0) 24 := ⟨rfl, rfl, rfl⟩
theorem z104_24 : za 104 24 (.iload_n 1) 25 := ⟨rfl, rfl, rfl⟩
theorem z104_25 : za_v 104 25 95 1 5 28 := ⟨118, ⟨rfl, rfl, rfl⟩, rfl⟩
theorem z104_28 : zb (.ifCond .eq) 104 28 44 31 := ⟨16, ⟨rfl, rfl, rfl⟩, rfl⟩
theorem z104_31 : za 104 31 (.aload_n 0) 32 := ⟨rfl, rfl, rfl⟩
theorem z104_32 : za_f 104 32 5 9 35 := ⟨29, 9, .null, ⟨rfl, rfl, rfl⟩, rfl, Or.inr (Or.inr rfl)⟩
theorem z104_35 : za 104 35 (.iload_n 1) 36 := ⟨rfl, rfl, rfl⟩
theorem z104_36 : za 104 36 (.bipush (8)) 38 := ⟨rfl, rfl, rfl⟩
theorem z104_38 : za 104 38 (.isub) 39 := ⟨rfl, rfl, rfl⟩
theorem z104_39 : za 104 39 (.iload_n 2) 40 := ⟨rfl, rfl, rfl⟩
theorem z104_40 : za 104 40 (.iastore) 41 := ⟨rfl, rfl, rfl⟩
theorem z104_41 : zb (.goto) 104 41 50 44 := ⟨9, ⟨rfl, rfl, rfl⟩, rfl⟩
theorem z104_44 : za 104 44 (.aload_n 0) 45 := ⟨rfl, rfl, rfl⟩
theorem z104_45 : za 104 45 (.iload_n 1) 46 := ⟨rfl, rfl, rfl⟩
theorem z104_46 : za 104 46 (.iload_n 2) 47 := ⟨rfl, rfl, rfl⟩
theorem z104_47 : za_v 104 47 90 2 5 50 := ⟨108, ⟨rfl, rfl, rfl⟩, rfl⟩
theorem z104_50 : za 104 50 (.return_) 51 := ⟨rfl, rfl, rfl⟩
theorem z105_0 : za 105 0 (.iload_n 3) 1 := ⟨rfl, rfl, rfl⟩
theorem z105_1 : za 105 1 (.iconst 1) 2 := ⟨rfl, rfl, rfl⟩
theorem z105_2 : zb (.if_icmp .ne) 105 2 18 5 := ⟨16, ⟨rfl, rfl, rfl⟩, rfl⟩
theorem z105_5 : za 105 5 (.aload_n 0) 6 := ⟨rfl, rfl, rfl⟩
theorem z105_6 : za 105 6 (.iload_n 2) 7 := ⟨rfl, rfl, rfl⟩
theorem z105_7 : za 105 7 (.aload_n 0) 8 := ⟨rfl, rfl, rfl⟩
theorem z105_8 : za 105 8 (.iload_n 1) 9 := ⟨rfl, rfl, rfl⟩
theorem z105_9 : za 105 9 (.iload 4) 11 := ⟨rfl, rfl, rfl⟩
theorem z105_11 : za_v 105 11 103 2 5 14 := ⟨147, ⟨rfl, rfl, rfl⟩, rfl⟩
theorem z105_14 : za_v 105 14 104 2 5 17 := ⟨150, ⟨rfl, rfl, rfl⟩, rfl⟩
theorem z105_17 : za 105 17 (.return_) 18 := ⟨rfl, rfl, rfl⟩
theorem z105_18 : za 105 18 (.iload_n 3) 19 := ⟨rfl, rfl, rfl⟩
theorem z105_19 : za 105 19 (.iconst 1) 20 := ⟨rfl, rfl, rfl⟩
theorem z105_20 : za 105 20 (.isub) 21 := ⟨rfl, rfl, rfl⟩
theorem z105_21 : za 105 21 (.istore 5) 23 := ⟨rfl, rfl, rfl⟩
theorem z105_23 : za 105 23 (.iload 5) 25 := ⟨rfl, rfl, rfl⟩
theorem z105_25 : zb (.ifCond .lt) 105 25 46 28 := ⟨21, ⟨rfl, rfl, rfl⟩, rfl⟩
theorem z105_28 : za 105 28 (.aload_n 0) 29 := ⟨rfl, rfl, rfl⟩
theorem z105_29 : za 105 29 (.iload_n 2) 30 := ⟨rfl, rfl, rfl⟩
theorem z105_30 : za 105 30 (.aload_n 0) 31 := ⟨rfl, rfl, rfl⟩
theorem z105_31 : za 105 31 (.iload_n 1) 32 := ⟨rfl, rfl, rfl⟩
theorem z105_32 : za 105 32 (.iload 5) 34 := ⟨rfl, rfl, rfl⟩
theorem z105_34 : za_v 105 34 97 2 5 37 := ⟨121, ⟨rfl, rfl, rfl⟩, rfl⟩
theorem z105_37 : za_v 105 37 90 2 5 40 := ⟨108, ⟨rfl, rfl, rfl⟩, rfl⟩
theorem z105_40 : za 105 40 (.iinc 5 (-1)) 43 := ⟨rfl, rfl, rfl⟩
theorem z105_43 : zb (.goto) 105 43 23 46 := ⟨(-20), ⟨rfl, rfl, rfl⟩, rfl⟩
theorem z105_46 : za 105 46 (.aload_n 0) 47 := ⟨rfl, rfl, rfl⟩
theorem z105_47 : za_f 105 47 5 8 50 := ⟨26, 9, .null, ⟨rfl, rfl, rfl⟩, rfl, Or.inr (Or.inr rfl)⟩
theorem z105_50 : za 105 50 (.iload_n 1) 51 := ⟨rfl, rfl, rfl⟩
theorem z105_51 : za 105 51 (.aload_n 0) 52 := ⟨rfl, rfl, rfl⟩
theorem z105_52 : za_f 105 52 5 8 55 := ⟨26, 9, .null, ⟨rfl, rfl, rfl⟩, rfl, Or.inr (Or.inr rfl)⟩
theorem z105_55 : za 105 55 (.iload_n 1) 56 := ⟨rfl, rfl, rfl⟩
theorem z105_56 : za 105 56 (.iaload) 57 := ⟨rfl, rfl, rfl⟩
theorem z105_57 : za 105 57 (.iload_n 3) 58 := ⟨rfl, rfl, rfl⟩
theorem z105_58 : za 105 58 (.isub) 59 := ⟨rfl, rfl, rfl⟩
theorem z105_59 : za 105 59 (.iastore) 60 := ⟨rfl, rfl, rfl⟩
theorem z105_60 : za 105 60 (.return_) 61 := ⟨rfl, rfl, rfl⟩
theorem z106_0 : za 106 0 (.aload_n 0) 1 := ⟨rfl, rfl, rfl⟩
theorem z106_1 : za_f 106 1 5 13 4 := ⟨89, 0, .null, ⟨rfl, rfl, rfl⟩, rfl, Or.inl rfl⟩
theorem z106_4 : za 106 4 (.bipush (60)) 6 := ⟨rfl, rfl, rfl⟩
theorem z106_6 : zb (.if_icmp .ne) 106 6 52 9 := ⟨46, ⟨rfl, rfl, rfl⟩, rfl⟩
theorem z106_9 : za 106 9 (.iconst 0) 10 := ⟨rfl, rfl, rfl⟩
theorem z106_10 : za 106 10 (.istore 4) 12 := ⟨rfl, rfl, rfl⟩
theorem z106_12 : za 106 12 (.iload 4) 14 := ⟨rfl, rfl, rfl⟩
theorem z106_14 : za 106 14 (.sipush (236)) 17 := ⟨rfl, rfl, rfl⟩
theorem z106_17 : zb (.if_icmp .ge) 106 17 42 20 := ⟨25, ⟨rfl, rfl, rfl⟩, rfl⟩
theorem z106_20 : za 106 20 (.aload_n 0) 21 := ⟨rfl, rfl, rfl⟩
theorem z106_21 : za_f 106 21 5 14 24 := ⟨42, 9, .null, ⟨rfl, rfl, rfl⟩, rfl, Or.inr (Or.inr rfl)⟩
theorem z106_24 : za 106 24 (.iload 4) 26 := ⟨rfl, rfl, rfl⟩
theorem z106_26 : za 106 26 (.aload_n 0) 27 := ⟨rfl, rfl, rfl⟩
theorem z106_27 : za_f 106 27 5 14 30 := ⟨42, 9, .null, ⟨rfl, rfl, rfl⟩, rfl, Or.inr (Or.inr rfl)⟩
theorem z106_30 : za 106 30 (.iload 4) 32 := ⟨rfl, rfl, rfl⟩
theorem z106_32 : za 106 32 (.iconst 4) 33 := ⟨rfl, rfl, rfl⟩
theorem z106_33 : za 106 33 (.iadd) 34 := ⟨rfl, rfl, rfl⟩
theorem z106_34 : za 106 34 (.iaload) 35 := ⟨rfl, rfl, rfl⟩
theorem z106_35 : za 106 35 (.iastore) 36 := ⟨rfl, rfl, rfl⟩
theorem z106_36 : za 106 36 (.iinc 4 (1)) 39 := ⟨rfl, rfl, rfl⟩
theorem z106_39 : zb (.goto) 106 39 12 42 := ⟨(-27), ⟨rfl, rfl, rfl⟩, rfl⟩
theorem z106_42 : za 106 42 (.aload_n 0) 43 := ⟨rfl, rfl, rfl⟩
theorem z106_43 : za 106 43 (.dup) 44 := ⟨rfl, rfl, rfl⟩
theorem z106_44 : za_f 106 44 5 13 47 := ⟨89, 0, .null, ⟨rfl, rfl, rfl⟩, rfl, Or.inl rfl⟩
theorem z106_47 : za 106 47 (.iconst 1) 48 := ⟨rfl, rfl, rfl⟩
theorem z106_48 : za 106 48 (.isub) 49 := ⟨rfl, rfl, rfl⟩
theorem z106_49 : za_p 106 49 5 13 52 := ⟨89, 0, .null, ⟨rfl, rfl, rfl⟩, rfl, Or.inl rfl⟩
theorem z106_52 : za 106 52 (.aload_n 0) 53 := ⟨rfl, rfl, rfl⟩
theorem z106_53 : za 106 53 (.iload_n 1) 54 := ⟨rfl, rfl, rfl⟩
theorem z106_54 : za_v 106 54 98 1 5 57 := ⟨132, ⟨rfl, rfl, rfl⟩, rfl⟩
theorem z106_57 : za 106 57 (.istore 4) 59 := ⟨rfl, rfl, rfl⟩
theorem z106_59 : za 106 59 (.aload_n 0) 60 := ⟨rfl, rfl, rfl⟩
theorem z106_60 : za_f 106 60 5 14 63 := ⟨42, 9, .null, ⟨rfl, rfl, rfl⟩, rfl, Or.inr (Or.inr rfl)⟩
theorem z106_63 : za 106 63 (.iconst 4) 64 := ⟨rfl, rfl, rfl⟩
theorem z106_64 : za 106 64 (.aload_n 0) 65 := ⟨rfl, rfl, rfl⟩
theorem z106_65 : za_f 106 65 5 13 68 := ⟨89, 0, .null, ⟨rfl, rfl, rfl⟩, rfl, Or.inl rfl⟩
theorem z106_68 : za 106 68 (.imul) 69 := ⟨rfl, rfl, rfl⟩
theorem z106_69 : za 106 69 (.iload_n 1) 70 := ⟨rfl, rfl, rfl⟩
theorem z106_70 : za 106 70 (.iastore) 71 := ⟨rfl, rfl, rfl⟩
theorem z106_71 : za 106 71 (.aload_n 0) 72 := ⟨rfl, rfl, rfl⟩
theorem z106_72 : za_f 106 72 5 14 75 := ⟨42, 9, .null, ⟨rfl, rfl, rfl⟩, rfl, Or.inr (Or.inr rfl)⟩
theorem z106_75 : za 106 75 (.iconst 4) 76 := ⟨rfl, rfl, rfl⟩
theorem z106_76 : za 106 76 (.aload_n 0) 77 := ⟨rfl, rfl, rfl⟩
theorem z106_77 : za_f 106 77 5 13 80 := ⟨89, 0, .null, ⟨rfl, rfl, rfl⟩, rfl, Or.inl rfl⟩
theorem z106_80 : za 106 80 (.imul) 81 := ⟨rfl, rfl, rfl⟩
theorem z106_81 : za 106 81 (.iconst 1) 82 := ⟨rfl, rfl, rfl⟩
theorem z106_82 : za 106 82 (.iadd) 83 := ⟨rfl, rfl, rfl⟩
theorem z106_83 : za 106 83 (.iload_n 2) 84 := ⟨rfl, rfl, rfl⟩
theorem z106_84 : za 106 84 (.iastore) 85 := ⟨rfl, rfl, rfl⟩
theorem z106_85 : za 106 85 (.aload_n 0) 86 := ⟨rfl, rfl, rfl⟩
theorem z106_86 : za_f 106 86 5 14 89 := ⟨42, 9, .null, ⟨rfl, rfl, rfl⟩, rfl, Or.inr (Or.inr rfl)⟩
theorem z106_89 : za 106 89 (.iconst 4) 90 := ⟨rfl, rfl, rfl⟩
theorem z106_90 : za 106 90 (.aload_n 0) 91 := ⟨rfl, rfl, rfl⟩
theorem z106_91 : za_f 106 91 5 13 94 := ⟨89, 0, .null, ⟨rfl, rfl, rfl⟩, rfl, Or.inl rfl⟩
theorem z106_94 : za 106 94 (.imul) 95 := ⟨rfl, rfl, rfl⟩
theorem z106_95 : za 106 95 (.iconst 2) 96 := ⟨rfl, rfl, rfl⟩
theorem z106_96 : za 106 96 (.iadd) 97 := ⟨rfl, rfl, rfl⟩
theorem z106_97 : za 106 97 (.iload_n 3) 98 := ⟨rfl, rfl, rfl⟩
theorem z106_98 : za 106 98 (.iastore) 99 := ⟨rfl, rfl, rfl⟩
theorem z106_99 : za 106 99 (.aload_n 0) 100 := ⟨rfl, rfl, rfl⟩
theorem z106_100 : za_f 106 100 5 14 103 := ⟨42, 9, .null, ⟨rfl, rfl, rfl⟩, rfl, Or.inr (Or.inr rfl)⟩
theorem z106_103 : za 106 103 (.iconst 4) 104 := ⟨rfl, rfl, rfl⟩
theorem z106_104 : za 106 104 (.aload_n 0) 105 := ⟨rfl, rfl, rfl⟩
theorem z106_105 : za_f 106 105 5 13 108 := ⟨89, 0, .null, ⟨rfl, rfl, rfl⟩, rfl, Or.inl rfl⟩
theorem z106_108 : za 106 108 (.imul) 109 := ⟨rfl, rfl, rfl⟩
theorem z106_109 : za 106 109 (.iconst 3) 110 := ⟨rfl, rfl, rfl⟩
theorem z106_110 : za 106 110 (.iadd) 111 := ⟨rfl, rfl, rfl⟩
theorem z106_111 : za 106 111 (.iload 4) 113 := ⟨rfl, rfl, rfl⟩
theorem z106_113 : za 106 113 (.iastore) 114 := ⟨rfl, rfl, rfl⟩
theorem z106_114 : za 106 114 (.aload_n 0) 115 := ⟨rfl, rfl, rfl⟩
theorem z106_115 : za 106 115 (.dup) 116 := ⟨rfl, rfl, rfl⟩
theorem z106_116 : za_f 106 116 5 13 119 := ⟨89, 0, .null, ⟨rfl, rfl, rfl⟩, rfl, Or.inl rfl⟩
theorem z106_119 : za 106 119 (.iconst 1) 120 := ⟨rfl, rfl, rfl⟩
theorem z106_120 : za 106 120 (.iadd) 121 := ⟨rfl, rfl, rfl⟩
theorem z106_121 : za_p 106 121 5 13 124 := ⟨89, 0, .null, ⟨rfl, rfl, rfl⟩, rfl, Or.inl rfl⟩
theorem z106_124 : za 106 124 (.aload_n 0) 125 := ⟨rfl, rfl, rfl⟩
theorem z106_125 : za 106 125 (.iconst (-1)) 126 := ⟨rfl, rfl, rfl⟩
theorem z106_126 : za_p 106 126 5 15 129 := ⟨45, 0, .null, ⟨rfl, rfl, rfl⟩, rfl, Or.inl rfl⟩
theorem z106_129 : za 106 129 (.aload_n 0) 130 := ⟨rfl, rfl, rfl⟩
theorem z106_130 : za 106 130 (.iload_n 1) 131 := ⟨rfl, rfl, rfl⟩
theorem z106_131 : za 106 131 (.iload_n 2) 132 := ⟨rfl, rfl, rfl⟩
theorem z106_132 : za 106 132 (.iload_n 3) 133 := ⟨rfl, rfl, rfl⟩
theorem z106_133 : za 106 133 (.iload 4) 135 := ⟨rfl, rfl, rfl⟩
theorem z106_135 : za_v 106 135 105 4 5 138 := ⟨153, ⟨rfl, rfl, rfl⟩, rfl⟩
theorem z106_138 : za 106 138 (.return_) 139 := ⟨rfl, rfl, rfl⟩
theorem z107_0 : za 107 0 (.aload_n 0) 1 := ⟨rfl, rfl, rfl⟩
theorem z107_1 : za 107 1 (.iconst 0) 2 := ⟨rfl, rfl, rfl⟩
theorem z107_2 : za_p 107 2 5 0 5 := ⟨69, 0, .null, ⟨rfl, rfl, rfl⟩, rfl, Or.inl rfl⟩
theorem z107_5 : za 107 5 (.aload_n 0) 6 := ⟨rfl, rfl, rfl⟩
theorem z107_6 : za 107 6 (.iload_n 1) 7 := ⟨rfl, rfl, rfl⟩
theorem z107_7 : za_v 107 7 94 1 5 10 := ⟨135, ⟨rfl, rfl, rfl⟩, rfl⟩
theorem z107_10 : zb (.ifCond .ne) 107 10 21 13 := ⟨11, ⟨rfl, rfl, rfl⟩, rfl⟩
theorem z107_13 : za 107 13 (.aload_n 0) 14 := ⟨rfl, rfl, rfl⟩
theorem z107_14 : za 107 14 (.iload_n 1) 15 := ⟨rfl, rfl, rfl⟩
theorem z107_15 : za_v 107 15 95 1 5 18 := ⟨118, ⟨rfl, rfl, rfl⟩, rfl⟩
theorem z107_18 : zb (.ifCond .eq) 107 18 48 21 := ⟨30, ⟨rfl, rfl, rfl⟩, rfl⟩
theorem z107_21 : za 107 21 (.aload_n 0) 22 := ⟨rfl, rfl, rfl⟩
theorem z107_22 : za 107 22 (.iload_n 2) 23 := ⟨rfl, rfl, rfl⟩
theorem z107_23 : za_v 107 23 94 1 5 26 := ⟨135, ⟨rfl, rfl, rfl⟩, rfl⟩
theorem z107_26 : zb (.ifCond .ne) 107 26 43 29 := ⟨17, ⟨rfl, rfl, rfl⟩, rfl⟩
theorem z107_29 : za 107 29 (.aload_n 0) 30 := ⟨rfl, rfl, rfl⟩
theorem z107_30 : za 107 30 (.iload_n 2) 31 := ⟨rfl, rfl, rfl⟩
theorem z107_31 : za_v 107 31 95 1 5 34 := ⟨118, ⟨rfl, rfl, rfl⟩, rfl⟩
theorem z107_34 : zb (.ifCond .ne) 107 34 43 37 := ⟨9, ⟨rfl, rfl, rfl⟩, rfl⟩
theorem z107_37 : za 107 37 (.iload_n 2) 38 := ⟨rfl, rfl, rfl⟩
theorem z107_38 : za 107 38 (.bipush (12)) 40 := ⟨rfl, rfl, rfl⟩
theorem z107_40 : zb (.if_icmp .ne) 107 40 48 43 := ⟨8, ⟨rfl, rfl, rfl⟩, rfl⟩
theorem z107_43 : za 107 43 (.iload_n 3) 44 := ⟨rfl, rfl, rfl⟩
theorem z107_44 : za 107 44 (.iconst 1) 45 := ⟨rfl, rfl, rfl⟩
theorem z107_45 : zb (.if_icmp .ge) 107 45 54 48 := ⟨9, ⟨rfl, rfl, rfl⟩, rfl⟩
theorem z107_48 : za 107 48 (.aload_n 0) 49 := ⟨rfl, rfl, rfl⟩
theorem z107_49 : za 107 49 (.iconst 1) 50 := ⟨rfl, rfl, rfl⟩
theorem z107_50 : za_v 107 50 78 1 5 53 := ⟨112, ⟨rfl, rfl, rfl⟩, rfl⟩
theorem z107_53 : za 107 53 (.ireturn) 54 := ⟨rfl, rfl, rfl⟩
theorem z107_54 : za 107 54 (.aload_n 0) 55 := ⟨rfl, rfl, rfl⟩
theorem z107_55 : za_v 107 55 92 0 5 58 := ⟨115, ⟨rfl, rfl, rfl⟩, rfl⟩
theorem z107_58 : za 107 58 (.aload_n 0) 59 := ⟨rfl, rfl, rfl⟩
theorem z107_59 : za_v 107 59 80 0 5 62 := ⟨96, ⟨rfl, rfl, rfl⟩, rfl⟩
theorem z107_62 : zb (.if_icmp .lt) 107 62 75 65 := ⟨13, ⟨rfl, rfl, rfl⟩, rfl⟩
theorem z107_65 : za 107 65 (.aload_n 0) 66 := ⟨rfl, rfl, rfl⟩
theorem z107_66 : za 107 66 (.iload_n 1) 67 := ⟨rfl, rfl, rfl⟩
theorem z107_67 : za 107 67 (.iload_n 2) 68 := ⟨rfl, rfl, rfl⟩
theorem z107_68 : za 107 68 (.iload_n 3) 69 := ⟨rfl, rfl, rfl⟩
theorem z107_69 : za_v 107 69 102 3 5 72 := ⟨157, ⟨rfl, rfl, rfl⟩, rfl⟩
theorem z107_72 : zb (.ifCond .ne) 107 72 81 75 := ⟨9, ⟨rfl, rfl, rfl⟩, rfl⟩
theorem z107_75 : za 107 75 (.aload_n 0) 76 := ⟨rfl, rfl, rfl⟩
theorem z107_76 : za 107 76 (.iconst 2) 77 := ⟨rfl, rfl, rfl⟩
theorem z107_77 : za_v 107 77 78 1 5 80 := ⟨112, ⟨rfl, rfl, rfl⟩, rfl⟩
theorem z107_80 : za 107 80 (.ireturn) 81 := ⟨rfl, rfl, rfl⟩
theorem z107_81 : za 107 81 (.aload_n 0) 82 := ⟨rfl, rfl, rfl⟩
theorem z107_82 : za 107 82 (.iload_n 1) 83 := ⟨rfl, rfl, rfl⟩
theorem z107_83 : za 107 83 (.iload_n 2) 84 := ⟨rfl, rfl, rfl⟩
theorem z107_84 : za 107 84 (.iload_n 3) 85 := ⟨rfl, rfl, rfl⟩
theorem z107_85 : za_v 107 85 106 3 5 88 := ⟨160, ⟨rfl, rfl, rfl⟩, rfl⟩
theorem z107_88 : za 107 88 (.aload_n 0) 89 := ⟨rfl, rfl, rfl⟩
theorem z107_89 : za_v 107 89 96 0 5 92 := ⟨164, ⟨rfl, rfl, rfl⟩, rfl⟩
theorem z107_92 : za 107 92 (.ireturn) 93 := ⟨rfl, rfl, rfl⟩
theorem z108_0 : za 108 0 (.iload_n 1) 1 := ⟨rfl, rfl, rfl⟩
theorem z108_1 : za 108 1 (.bipush (104)) 3 := ⟨rfl, rfl, rfl⟩
theorem z108_3 : zb (.if_icmp .ne) 108 3 9 6 := ⟨6, ⟨rfl, rfl, rfl⟩, rfl⟩
theorem z108_6 : za 108 6 (.bipush (12)) 8 := ⟨rfl, rfl, rfl⟩
theorem z108_8 : za 108 8 (.ireturn) 9 := ⟨rfl, rfl, rfl⟩
theorem z108_9 : za 108 9 (.iload_n 1) 10 := ⟨rfl, rfl, rfl⟩
theorem z108_10 : za 108 10 (.bipush (97)) 12 := ⟨rfl, rfl, rfl⟩
theorem z108_12 : za 108 12 (.bipush (100)) 14 := ⟨rfl, rfl, rfl⟩
theorem z108_14 : za_s 108 14 79 3 17 := ⟨92, .null, ⟨rfl, rfl, rfl⟩, rfl⟩
theorem z108_17 : zb (.ifCond .eq) 108 17 30 20 := ⟨13, ⟨rfl, rfl, rfl⟩, rfl⟩
theorem z108_20 : za 108 20 (.bipush (8)) 22 := ⟨rfl, rfl, rfl⟩
theorem z108_22 : za 108 22 (.iload_n 1) 23 := ⟨rfl, rfl, rfl⟩
theorem z108_23 : za 108 23 (.iadd) 24 := ⟨rfl, rfl, rfl⟩
theorem z108_24 : za 108 24 (.bipush (97)) 26 := ⟨rfl, rfl, rfl⟩
theorem z108_26 : za 108 26 (.isub) 27 := ⟨rfl, rfl, rfl⟩
theorem z108_27 : zb (.goto) 108 27 49 30 := ⟨22, ⟨rfl, rfl, rfl⟩, rfl⟩
theorem z108_30 : za 108 30 (.iload_n 1) 31 := ⟨rfl, rfl, rfl⟩
theorem z108_31 : za 108 31 (.bipush (49)) 33 := ⟨rfl, rfl, rfl⟩
theorem z108_33 : za 108 33 (.bipush (56)) 35 := ⟨rfl, rfl, rfl⟩
theorem z108_35 : za_s 108 35 79 3 38 := ⟨92, .null, ⟨rfl, rfl, rfl⟩, rfl⟩
theorem z108_38 : zb (.ifCond .eq) 108 38 48 41 := ⟨10, ⟨rfl, rfl, rfl⟩, rfl⟩
theorem z108_41 : za 108 41 (.iload_n 1) 42 := ⟨rfl, rfl, rfl⟩
theorem z108_42 : za 108 42 (.bipush (49)) 44 := ⟨rfl, rfl, rfl⟩
theorem z108_44 : za 108 44 (.isub) 45 := ⟨rfl, rfl, rfl⟩
theorem z108_45 : zb (.goto) 108 45 49 48 := ⟨4, ⟨rfl, rfl, rfl⟩, rfl⟩
theorem z108_48 : za 108 48 (.iconst (-1)) 49 := ⟨rfl, rfl, rfl⟩
theorem z108_49 : za 108 49 (.istore_n 2) 50 := ⟨rfl, rfl, rfl⟩
theorem z108_50 : za 108 50 (.aload_n 0) 51 := ⟨rfl, rfl, rfl⟩
theorem z108_51 : za 108 51 (.iload_n 2) 52 := ⟨rfl, rfl, rfl⟩
theorem z108_52 : za_v 108 52 94 1 5 55 := ⟨135, ⟨rfl, rfl, rfl⟩, rfl⟩
theorem z108_55 : zb (.ifCond .ne) 108 55 66 58 := ⟨11, ⟨rfl, rfl, rfl⟩, rfl⟩
theorem z108_58 : za 108 58 (.aload_n 0) 59 := ⟨rfl, rfl, rfl⟩
theorem z108_59 : za 108 59 (.iload_n 2) 60 := ⟨rfl, rfl, rfl⟩
theorem z108_60 : za_v 108 60 95 1 5 63 := ⟨118, ⟨rfl, rfl, rfl⟩, rfl⟩
theorem z108_63 : zb (.ifCond .eq) 108 63 70 66 := ⟨7, ⟨rfl, rfl, rfl⟩, rfl⟩
theorem z108_66 : za 108 66 (.iload_n 2) 67 := ⟨rfl, rfl, rfl⟩
theorem z108_67 : zb (.goto) 108 67 71 70 := ⟨4, ⟨rfl, rfl, rfl⟩, rfl⟩
theorem z108_70 : za 108 70 (.iconst (-1)) 71 := ⟨rfl, rfl, rfl⟩
theorem z108_71 : za 108 71 (.ireturn) 72 := ⟨rfl, rfl, rfl⟩
theorem z109_0 : za 109 0 (.iconst 0) 1 := ⟨rfl, rfl, rfl⟩
theorem z109_1 : za 109 1 (.istore_n 3) 2 := ⟨rfl, rfl, rfl⟩
theorem z109_2 : za 109 2 (.iconst 1) 3 := ⟨rfl, rfl, rfl⟩
theorem z109_3 : za 109 3 (.istore 4) 5 := ⟨rfl, rfl, rfl⟩
theorem z109_5 : za 109 5 (.iload 4) 7 := ⟨rfl, rfl, rfl⟩
theorem z109_7 : za 109 7 (.aload_n 0) 8 := ⟨rfl, rfl, rfl⟩
theorem z109_8 : za_f 109 8 5 8 11 := ⟨26, 9, .null, ⟨rfl, rfl, rfl⟩, rfl, Or.inr (Or.inr rfl)⟩
theorem z109_11 : za 109 11 (.iload_n 1) 12 := ⟨rfl, rfl, rfl⟩
theorem z109_12 : za 109 12 (.iaload) 13 := ⟨rfl, rfl, rfl⟩
theorem z109_13 : zb (.if_icmp .gt) 109 13 40 16 := ⟨27, ⟨rfl, rfl, rfl⟩, rfl⟩
theorem z109_16 : za 109 16 (.aload_n 0) 17 := ⟨rfl, rfl, rfl⟩
theorem z109_17 : za 109 17 (.iload_n 1) 18 := ⟨rfl, rfl, rfl⟩
theorem z109_18 : za 109 18 (.iload_n 2) 19 := ⟨rfl, rfl, rfl⟩
theorem z109_19 : za 109 19 (.iload 4) 21 := ⟨rfl, rfl, rfl⟩
theorem z109_21 : za_v 109 21 102 3 5 24 := ⟨157, ⟨rfl, rfl, rfl⟩, rfl⟩
theorem z109_24 : zb (.ifCond .eq) 109 24 32 27 := ⟨8, ⟨rfl, rfl, rfl⟩, rfl⟩
theorem z109_27 : za 109 27 (.iload 4) 29 := ⟨rfl, rfl, rfl⟩
theorem z109_29 : zb (.goto) 109 29 33 32 := ⟨4, ⟨rfl, rfl, rfl⟩, rfl⟩
theorem z109_32 : za 109 32 (.iload_n 3) 33 := ⟨rfl, rfl, rfl⟩
theorem z109_33 : za 109 33 (.istore_n 3) 34 := ⟨rfl, rfl, rfl⟩
theorem z109_34 : za 109 34 (.iinc 4 (1)) 37 := ⟨rfl, rfl, rfl⟩
theorem z109_37 : zb (.goto) 109 37 5 40 := ⟨(-32), ⟨rfl, rfl, rfl⟩, rfl⟩
theorem z109_40 : za 109 40 (.iload_n 3) 41 := ⟨rfl, rfl, rfl⟩
theorem z109_41 : za 109 41 (.ireturn) 42 := ⟨rfl, rfl, rfl⟩
theorem z110_0 : za 110 0 (.aload_n 0) 1 := ⟨rfl, rfl, rfl⟩
theorem z110_1 : za 110 1 (.iconst 0) 2 := ⟨rfl, rfl, rfl⟩
theorem z110_2 : za_p 110 2 5 0 5 := ⟨69, 0, .null, ⟨rfl, rfl, rfl⟩, rfl, Or.inl rfl⟩
theorem z110_5 : za 110 5 (.aload_n 0) 6 := ⟨rfl, rfl, rfl⟩
theorem z110_6 : za 110 6 (.iload_n 1) 7 := ⟨rfl, rfl, rfl⟩
theorem z110_7 : za_v 110 7 108 1 5 10 := ⟨167, ⟨rfl, rfl, rfl⟩, rfl⟩
theorem z110_10 : za 110 10 (.istore_n 3) 11 := ⟨rfl, rfl, rfl⟩
theorem z110_11 : za 110 11 (.aload_n 0) 12 := ⟨rfl, rfl, rfl⟩
theorem z110_12 : za 110 12 (.iload_n 2) 13 := ⟨rfl, rfl, rfl⟩
theorem z110_13 : za_v 110 13 108 1 5 16 := ⟨167, ⟨rfl, rfl, rfl⟩, rfl⟩
theorem z110_16 : za 110 16 (.istore 4) 18 := ⟨rfl, rfl, rfl⟩
theorem z110_18 : za 110 18 (.iload_n 3) 19 := ⟨rfl, rfl, rfl⟩
theorem z110_19 : zb (.ifCond .lt) 110 19 33 22 := ⟨14, ⟨rfl, rfl, rfl⟩, rfl⟩
theorem z110_22 : za 110 22 (.iload 4) 24 := ⟨rfl, rfl, rfl⟩
theorem z110_24 : zb (.ifCond .lt) 110 24 33 27 := ⟨9, ⟨rfl, rfl, rfl⟩, rfl⟩
theorem z110_27 : za 110 27 (.iload_n 3) 28 := ⟨rfl, rfl, rfl⟩
theorem z110_28 : za 110 28 (.bipush (12)) 30 := ⟨rfl, rfl, rfl⟩
theorem z110_30 : zb (.if_icmp .ne) 110 30 39 33 := ⟨9, ⟨rfl, rfl, rfl⟩, rfl⟩
theorem z110_33 : za 110 33 (.aload_n 0) 34 := ⟨rfl, rfl, rfl⟩
theorem z110_34 : za 110 34 (.iconst 1) 35 := ⟨rfl, rfl, rfl⟩
theorem z110_35 : za_v 110 35 78 1 5 38 := ⟨112, ⟨rfl, rfl, rfl⟩, rfl⟩
theorem z110_38 : za 110 38 (.ireturn) 39 := ⟨rfl, rfl, rfl⟩
theorem z110_39 : za 110 39 (.aload_n 0) 40 := ⟨rfl, rfl, rfl⟩
theorem z110_40 : za 110 40 (.iload_n 3) 41 := ⟨rfl, rfl, rfl⟩
theorem z110_41 : za_v 110 41 94 1 5 44 := ⟨135, ⟨rfl, rfl, rfl⟩, rfl⟩
theorem z110_44 : zb (.ifCond .eq) 110 44 66 47 := ⟨22, ⟨rfl, rfl, rfl⟩, rfl⟩
theorem z110_47 : za 110 47 (.aload_n 0) 48 := ⟨rfl, rfl, rfl⟩
theorem z110_48 : za 110 48 (.iload 4) 50 := ⟨rfl, rfl, rfl⟩
theorem z110_50 : za_v 110 50 94 1 5 53 := ⟨135, ⟨rfl, rfl, rfl⟩, rfl⟩
theorem z110_53 : zb (.ifCond .eq) 110 53 66 56 := ⟨13, ⟨rfl, rfl, rfl⟩, rfl⟩
theorem z110_56 : za 110 56 (.aload_n 0) 57 := ⟨rfl, rfl, rfl⟩
theorem z110_57 : za 110 57 (.iload_n 3) 58 := ⟨rfl, rfl, rfl⟩
theorem z110_58 : za 110 58 (.iload 4) 60 := ⟨rfl, rfl, rfl⟩
theorem z110_60 : za_v 110 60 109 2 5 63 := ⟨170, ⟨rfl, rfl, rfl⟩, rfl⟩
theorem z110_63 : zb (.goto) 110 63 81 66 := ⟨18, ⟨rfl, rfl, rfl⟩, rfl⟩
theorem z110_66 : za 110 66 (.aload_n 0) 67 := ⟨rfl, rfl, rfl⟩
theorem z110_67 : za 110 67 (.iload_n 3) 68 := ⟨rfl, rfl, rfl⟩
theorem z110_68 : za 110 68 (.iload 4) 70 := ⟨rfl, rfl, rfl⟩
theorem z110_70 : za_v 110 70 100 2 5 73 := ⟨141, ⟨rfl, rfl, rfl⟩, rfl⟩
theorem z110_73 : zb (.ifCond .eq) 110 73 80 76 := ⟨7, ⟨rfl, rfl, rfl⟩, rfl⟩
theorem z110_76 : za 110 76 (.iconst 1) 77 := ⟨rfl, rfl, rfl⟩
theorem z110_77 : zb (.goto) 110 77 81 80 := ⟨4, ⟨rfl, rfl, rfl⟩, rfl⟩
theorem z110_80 : za 110 80 (.iconst 0) 81 := ⟨rfl, rfl, rfl⟩
theorem z110_81 : za 110 81 (.istore 5) 83 := ⟨rfl, rfl, rfl⟩
theorem z110_83 : za 110 83 (.aload_n 0) 84 := ⟨rfl, rfl, rfl⟩
theorem z110_84 : za_v 110 84 92 0 5 87 := ⟨115, ⟨rfl, rfl, rfl⟩, rfl⟩
theorem z110_87 : za 110 87 (.aload_n 0) 88 := ⟨rfl, rfl, rfl⟩
theorem z110_88 : za_v 110 88 80 0 5 91 := ⟨96, ⟨rfl, rfl, rfl⟩, rfl⟩
theorem z110_91 : zb (.if_icmp .lt) 110 91 99 94 := ⟨8, ⟨rfl, rfl, rfl⟩, rfl⟩
theorem z110_94 : za 110 94 (.iload 5) 96 := ⟨rfl, rfl, rfl⟩
theorem z110_96 : zb (.ifCond .ne) 110 96 105 99 := ⟨9, ⟨rfl, rfl, rfl⟩, rfl⟩
theorem z110_99 : za 110 99 (.aload_n 0) 100 := ⟨rfl, rfl, rfl⟩
theorem z110_100 : za 110 100 (.iconst 2) 101 := ⟨rfl, rfl, rfl⟩
theorem z110_101 : za_v 110 101 78 1 5 104 := ⟨112, ⟨rfl, rfl, rfl⟩, rfl⟩
theorem z110_104 : za 110 104 (.ireturn) 105 := ⟨rfl, rfl, rfl⟩
theorem z110_105 : za 110 105 (.aload_n 0) 106 := ⟨rfl, rfl, rfl⟩
theorem z110_106 : za 110 106 (.iload_n 3) 107 := ⟨rfl, rfl, rfl⟩
theorem z110_107 : za 110 107 (.iload 4) 109 := ⟨rfl, rfl, rfl⟩
theorem z110_109 : za 110 109 (.iload 5) 111 := ⟨rfl, rfl, rfl⟩
theorem z110_111 : za_v 110 111 106 3 5 114 := ⟨160, ⟨rfl, rfl, rfl⟩, rfl⟩
theorem z110_114 : za 110 114 (.iload 5) 116 := ⟨rfl, rfl, rfl⟩
theorem z110_116 : za 110 116 (.ireturn) 117 := ⟨rfl, rfl, rfl⟩
theorem z111_0 : za 111 0 (.iconst 1) 1 := ⟨rfl, rfl, rfl⟩
theorem z111_1 : za 111 1 (.istore_n 2) 2 := ⟨rfl, rfl, rfl⟩
theorem z111_2 : za 111 2 (.iconst 0) 3 := ⟨rfl, rfl, rfl⟩
theorem z111_3 : za 111 3 (.istore_n 3) 4 := ⟨rfl, rfl, rfl⟩
theorem z111_4 : za 111 4 (.iload_n 3) 5 := ⟨rfl, rfl, rfl⟩
theorem z111_5 : za 111 5 (.aload_n 0) 6 := ⟨rfl, rfl, rfl⟩
theorem z111_6 : za_f 111 6 5 5 9 := ⟨16, 0, .null, ⟨rfl, rfl, rfl⟩, rfl, Or.inl rfl⟩
theorem z111_9 : zb (.if_icmp .ge) 111 9 95 12 := ⟨86, ⟨rfl, rfl, rfl⟩, rfl⟩
theorem z111_12 : za 111 12 (.aload_n 0) 13 := ⟨rfl, rfl, rfl⟩
theorem z111_13 : za_f 111 13 5 3 16 := ⟨76, 0, .null, ⟨rfl, rfl, rfl⟩, rfl, Or.inl rfl⟩
theorem z111_16 : za 111 16 (.iconst 2) 17 := ⟨rfl, rfl, rfl⟩
theorem z111_17 : zb (.if_icmp .eq) 111 17 42 20 := ⟨25, ⟨rfl, rfl, rfl⟩, rfl⟩
theorem z111_20 : za 111 20 (.aload_n 0) 21 := ⟨rfl, rfl, rfl⟩
theorem z111_21 : za_f 111 21 5 3 24 := ⟨76, 0, .null, ⟨rfl, rfl, rfl⟩, rfl, Or.inl rfl⟩
theorem z111_24 : zb (.ifCond .ne) 111 24 46 27 := ⟨22, ⟨rfl, rfl, rfl⟩, rfl⟩
theorem z111_27 : za 111 27 (.iload_n 3) 28 := ⟨rfl, rfl, rfl⟩
theorem z111_28 : za_s 111 28 83 1 31 := ⟨82, .null, ⟨rfl, rfl, rfl⟩, rfl⟩
theorem z111_31 : za 111 31 (.aload_n 0) 32 := ⟨rfl, rfl, rfl⟩
theorem z111_32 : za 111 32 (.iload_n 1) 33 := ⟨rfl, rfl, rfl⟩
theorem z111_33 : za_v 111 33 81 1 5 36 := ⟨79, ⟨rfl, rfl, rfl⟩, rfl⟩
theorem z111_36 : za_s 111 36 83 1 39 := ⟨82, .null, ⟨rfl, rfl, rfl⟩, rfl⟩
theorem z111_39 : zb (.if_icmp .eq) 111 39 46 42 := ⟨7, ⟨rfl, rfl, rfl⟩, rfl⟩
theorem z111_42 : za 111 42 (.iconst 1) 43 := ⟨rfl, rfl, rfl⟩
theorem z111_43 : zb (.goto) 111 43 47 46 := ⟨4, ⟨rfl, rfl, rfl⟩, rfl⟩
theorem z111_46 : za 111 46 (.iconst 0) 47 := ⟨rfl, rfl, rfl⟩
theorem z111_47 : za 111 47 (.istore 4) 49 := ⟨rfl, rfl, rfl⟩
theorem z111_49 : za 111 49 (.iload_n 2) 50 := ⟨rfl, rfl, rfl⟩
theorem z111_50 : zb (.ifCond .eq) 111 50 87 53 := ⟨37, ⟨rfl, rfl, rfl⟩, rfl⟩
theorem z111_53 : za 111 53 (.iload 4) 55 := ⟨rfl, rfl, rfl⟩
theorem z111_55 : zb (.ifCond .eq) 111 55 83 58 := ⟨28, ⟨rfl, rfl, rfl⟩, rfl⟩
theorem z111_58 : za 111 58 (.aload_n 0) 59 := ⟨rfl, rfl, rfl⟩
theorem z111_59 : za 111 59 (.iload_n 1) 60 := ⟨rfl, rfl, rfl⟩
theorem z111_60 : za_v 111 60 82 1 5 63 := ⟨72, ⟨rfl, rfl, rfl⟩, rfl⟩
theorem z111_63 : za 111 63 (.iconst 3) 64 := ⟨rfl, rfl, rfl⟩
theorem z111_64 : zb (.if_icmp .lt) 111 64 83 67 := ⟨19, ⟨rfl, rfl, rfl⟩, rfl⟩
theorem z111_67 : za 111 67 (.aload_n 0) 68 := ⟨rfl, rfl, rfl⟩
theorem z111_68 : za_f 111 68 5 10 71 := ⟨32, 9, .null, ⟨rfl, rfl, rfl⟩, rfl, Or.inr (Or.inr rfl)⟩
theorem z111_71 : za 111 71 (.iload_n 3) 72 := ⟨rfl, rfl, rfl⟩
theorem z111_72 : za 111 72 (.iaload) 73 := ⟨rfl, rfl, rfl⟩
theorem z111_73 : za 111 73 (.iconst 1) 74 := ⟨rfl, rfl, rfl⟩
theorem z111_74 : za 111 74 (.iadd) 75 := ⟨rfl, rfl, rfl⟩
theorem z111_75 : za 111 75 (.aload_n 0) 76 := ⟨rfl, rfl, rfl⟩
theorem z111_76 : za 111 76 (.iload_n 1) 77 := ⟨rfl, rfl, rfl⟩
theorem z111_77 : za_v 111 77 82 1 5 80 := ⟨72, ⟨rfl, rfl, rfl⟩, rfl⟩
theorem z111_80 : zb (.if_icmp .lt) 111 80 87 83 := ⟨7, ⟨rfl, rfl, rfl⟩, rfl⟩
theorem z111_83 : za 111 83 (.iconst 1) 84 := ⟨rfl, rfl, rfl⟩
theorem z111_84 : zb (.goto) 111 84 88 87 := ⟨4, ⟨rfl, rfl, rfl⟩, rfl⟩
theorem z111_87 : za 111 87 (.iconst 0) 88 := ⟨rfl, rfl, rfl⟩
theorem z111_88 : za 111 88 (.istore_n 2) 89 := ⟨rfl, rfl, rfl⟩
theorem z111_89 : za 111 89 (.iinc 3 (1)) 92 := ⟨rfl, rfl, rfl⟩
theorem z111_92 : zb (.goto) 111 92 4 95 := ⟨(-88), ⟨rfl, rfl, rfl⟩, rfl⟩
theorem z111_95 : za 111 95 (.iload_n 2) 96 := ⟨rfl, rfl, rfl⟩
theorem z111_96 : za 111 96 (.ireturn) 97 := ⟨rfl, rfl, rfl⟩
theorem z112_0 : za 112 0 (.iconst 0) 1 := ⟨rfl, rfl, rfl⟩
theorem z112_1 : za 112 1 (.istore_n 1) 2 := ⟨rfl, rfl, rfl⟩
theorem z112_2 : za 112 2 (.iload_n 1) 3 := ⟨rfl, rfl, rfl⟩
theorem z112_3 : za 112 3 (.bipush (12)) 5 := ⟨rfl, rfl, rfl⟩
theorem z112_5 : zb (.if_icmp .ge) 112 5 70 8 := ⟨65, ⟨rfl, rfl, rfl⟩, rfl⟩
theorem z112_8 : za 112 8 (.iload_n 1) 9 := ⟨rfl, rfl, rfl⟩
theorem z112_9 : za 112 9 (.iconst 4) 10 := ⟨rfl, rfl, rfl⟩
theorem z112_10 : zb (.if_icmp .ge) 112 10 20 13 := ⟨10, ⟨rfl, rfl, rfl⟩, rfl⟩
theorem z112_13 : za 112 13 (.bipush (8)) 15 := ⟨rfl, rfl, rfl⟩
theorem z112_15 : za 112 15 (.iload_n 1) 16 := ⟨rfl, rfl, rfl⟩
theorem z112_16 : za 112 16 (.iadd) 17 := ⟨rfl, rfl, rfl⟩
theorem z112_17 : zb (.goto) 112 17 23 20 := ⟨6, ⟨rfl, rfl, rfl⟩, rfl⟩
theorem z112_20 : za 112 20 (.iload_n 1) 21 := ⟨rfl, rfl, rfl⟩
theorem z112_21 : za 112 21 (.iconst 4) 22 := ⟨rfl, rfl, rfl⟩
theorem z112_22 : za 112 22 (.isub) 23 := ⟨rfl, rfl, rfl⟩
theorem z112_23 : za 112 23 (.istore_n 2) 24 := ⟨rfl, rfl, rfl⟩
theorem z112_24 : za 112 24 (.aload_n 0) 25 := ⟨rfl, rfl, rfl⟩
theorem z112_25 : za 112 25 (.iload_n 2) 26 := ⟨rfl, rfl, rfl⟩
theorem z112_26 : za_v 112 26 95 1 5 29 := ⟨118, ⟨rfl, rfl, rfl⟩, rfl⟩
theorem z112_29 : zb (.ifCond .ne) 112 29 40 32 := ⟨11, ⟨rfl, rfl, rfl⟩, rfl⟩
theorem z112_32 : za 112 32 (.aload_n 0) 33 := ⟨rfl, rfl, rfl⟩
theorem z112_33 : za 112 33 (.iload_n 2) 34 := ⟨rfl, rfl, rfl⟩
theorem z112_34 : za_v 112 34 94 1 5 37 := ⟨135, ⟨rfl, rfl, rfl⟩, rfl⟩
theorem z112_37 : zb (.ifCond .eq) 112 37 64 40 := ⟨27, ⟨rfl, rfl, rfl⟩, rfl⟩
theorem z112_40 : za 112 40 (.aload_n 0) 41 := ⟨rfl, rfl, rfl⟩
theorem z112_41 : za 112 41 (.iload_n 2) 42 := ⟨rfl, rfl, rfl⟩
theorem z112_42 : za 112 42 (.bipush (12)) 44 := ⟨rfl, rfl, rfl⟩
theorem z112_44 : za_v 112 44 100 2 5 47 := ⟨141, ⟨rfl, rfl, rfl⟩, rfl⟩
theorem z112_47 : zb (.ifCond .eq) 112 47 64 50 := ⟨17, ⟨rfl, rfl, rfl⟩, rfl⟩
theorem z112_50 : za 112 50 (.aload_n 0) 51 := ⟨rfl, rfl, rfl⟩
theorem z112_51 : za 112 51 (.aload_n 0) 52 := ⟨rfl, rfl, rfl⟩
theorem z112_52 : za 112 52 (.iload_n 2) 53 := ⟨rfl, rfl, rfl⟩
theorem z112_53 : za_v 112 53 98 1 5 56 := ⟨132, ⟨rfl, rfl, rfl⟩, rfl⟩
theorem z112_56 : za_v 112 56 111 1 5 59 := ⟨173, ⟨rfl, rfl, rfl⟩, rfl⟩
theorem z112_59 : zb (.ifCond .eq) 112 59 64 62 := ⟨5, ⟨rfl, rfl, rfl⟩, rfl⟩
theorem z112_62 : za 112 62 (.iload_n 2) 63 := ⟨rfl, rfl, rfl⟩
theorem z112_63 : za 112 63 (.ireturn) 64 := ⟨rfl, rfl, rfl⟩
theorem z112_64 : za 112 64 (.iinc 1 (1)) 67 := ⟨rfl, rfl, rfl⟩
theorem z112_67 : zb (.goto) 112 67 2 70 := ⟨(-65), ⟨rfl, rfl, rfl⟩, rfl⟩
theorem z112_70 : za 112 70 (.iconst (-1)) 71 := ⟨rfl, rfl, rfl⟩
theorem z112_71 : za 112 71 (.ireturn) 72 := ⟨rfl, rfl, rfl⟩
theorem z113_0 : za 113 0 (.aload_n 0) 1 := ⟨rfl, rfl, rfl⟩
theorem z113_1 : za 113 1 (.iconst 0) 2 := ⟨rfl, rfl, rfl⟩
theorem z113_2 : za_p 113 2 5 0 5 := ⟨69, 0, .null, ⟨rfl, rfl, rfl⟩, rfl, Or.inl rfl⟩
theorem z113_5 : za 113 5 (.aload_n 0) 6 := ⟨rfl, rfl, rfl⟩
theorem z113_6 : za_v 113 6 92 0 5 9 := ⟨115, ⟨rfl, rfl, rfl⟩, rfl⟩
theorem z113_9 : za 113 9 (.aload_n 0) 10 := ⟨rfl, rfl, rfl⟩
theorem z113_10 : za_v 113 10 80 0 5 13 := ⟨96, ⟨rfl, rfl, rfl⟩, rfl⟩
theorem z113_13 : zb (.if_icmp .ge) 113 13 22 16 := ⟨9, ⟨rfl, rfl, rfl⟩, rfl⟩
theorem z113_16 : za 113 16 (.aload_n 0) 17 := ⟨rfl, rfl, rfl⟩
theorem z113_17 : za 113 17 (.iconst 1) 18 := ⟨rfl, rfl, rfl⟩
theorem z113_18 : za_v 113 18 78 1 5 21 := ⟨112, ⟨rfl, rfl, rfl⟩, rfl⟩
theorem z113_21 : za 113 21 (.ireturn) 22 := ⟨rfl, rfl, rfl⟩
theorem z113_22 : za 113 22 (.iconst 0) 23 := ⟨rfl, rfl, rfl⟩
theorem z113_23 : za 113 23 (.istore_n 1) 24 := ⟨rfl, rfl, rfl⟩
theorem z113_24 : za 113 24 (.aload_n 0) 25 := ⟨rfl, rfl, rfl⟩
theorem z113_25 : za_v 113 25 112 0 5 28 := ⟨176, ⟨rfl, rfl, rfl⟩, rfl⟩
theorem z113_28 : za 113 28 (.istore_n 2) 29 := ⟨rfl, rfl, rfl⟩
theorem z113_29 : za 113 29 (.iload_n 2) 30 := ⟨rfl, rfl, rfl⟩
theorem z113_30 : zb (.ifCond .lt) 113 30 52 33 := ⟨22, ⟨rfl, rfl, rfl⟩, rfl⟩
theorem z113_33 : za 113 33 (.aload_n 0) 34 := ⟨rfl, rfl, rfl⟩
theorem z113_34 : za 113 34 (.iload_n 2) 35 := ⟨rfl, rfl, rfl⟩
theorem z113_35 : za 113 35 (.bipush (12)) 37 := ⟨rfl, rfl, rfl⟩
theorem z113_37 : za 113 37 (.iconst 1) 38 := ⟨rfl, rfl, rfl⟩
theorem z113_38 : za_v 113 38 106 3 5 41 := ⟨160, ⟨rfl, rfl, rfl⟩, rfl⟩
theorem z113_41 : za 113 41 (.iinc 1 (1)) 44 := ⟨rfl, rfl, rfl⟩
theorem z113_44 : za 113 44 (.aload_n 0) 45 := ⟨rfl, rfl, rfl⟩
theorem z113_45 : za_v 113 45 112 0 5 48 := ⟨176, ⟨rfl, rfl, rfl⟩, rfl⟩
theorem z113_48 : za 113 48 (.istore_n 2) 49 := ⟨rfl, rfl, rfl⟩
theorem z113_49 : zb (.goto) 113 49 29 52 := ⟨(-20), ⟨rfl, rfl, rfl⟩, rfl⟩
theorem z113_52 : za 113 52 (.iload_n 1) 53 := ⟨rfl, rfl, rfl⟩
theorem z113_53 : za 113 53 (.ireturn) 54 := ⟨rfl, rfl, rfl⟩
theorem z114_0 : za 114 0 (.aload_n 0) 1 := ⟨rfl, rfl, rfl⟩
theorem z114_1 : za 114 1 (.iconst 0) 2 := ⟨rfl, rfl, rfl⟩
theorem z114_2 : za_p 114 2 5 0 5 := ⟨69, 0, .null, ⟨rfl, rfl, rfl⟩, rfl, Or.inl rfl⟩
theorem z114_5 : za 114 5 (.aload_n 0) 6 := ⟨rfl, rfl, rfl⟩
theorem z114_6 : za_f 114 6 5 13 9 := ⟨89, 0, .null, ⟨rfl, rfl, rfl⟩, rfl, Or.inl rfl⟩
theorem z114_9 : zb (.ifCond .ne) 114 9 18 12 := ⟨9, ⟨rfl, rfl, rfl⟩, rfl⟩
theorem z114_12 : za 114 12 (.aload_n 0) 13 := ⟨rfl, rfl, rfl⟩
theorem z114_13 : za 114 13 (.iconst 1) 14 := ⟨rfl, rfl, rfl⟩
theorem z114_14 : za_v 114 14 78 1 5 17 := ⟨112, ⟨rfl, rfl, rfl⟩, rfl⟩
theorem z114_17 : za 114 17 (.ireturn) 18 := ⟨rfl, rfl, rfl⟩
theorem z114_18 : za 114 18 (.aload_n 0) 19 := ⟨rfl, rfl, rfl⟩
theorem z114_19 : za 114 19 (.dup) 20 := ⟨rfl, rfl, rfl⟩
theorem z114_20 : za_f 114 20 5 13 23 := ⟨89, 0, .null, ⟨rfl, rfl, rfl⟩, rfl, Or.inl rfl⟩
theorem z114_23 : za 114 23 (.iconst 1) 24 := ⟨rfl, rfl, rfl⟩
theorem z114_24 : za 114 24 (.isub) 25 := ⟨rfl, rfl, rfl⟩
theorem z114_25 : za_p 114 25 5 13 28 := ⟨89, 0, .null, ⟨rfl, rfl, rfl⟩, rfl, Or.inl rfl⟩
theorem z114_28 : za 114 28 (.aload_n 0) 29 := ⟨rfl, rfl, rfl⟩
theorem z114_29 : za 114 29 (.iconst (-1)) 30 := ⟨rfl, rfl, rfl⟩
theorem z114_30 : za_p 114 30 5 15 33 := ⟨45, 0, .null, ⟨rfl, rfl, rfl⟩, rfl, Or.inl rfl⟩
theorem z114_33 : za 114 33 (.aload_n 0) 34 := ⟨rfl, rfl, rfl⟩
theorem z114_34 : za_f 114 34 5 14 37 := ⟨42, 9, .null, ⟨rfl, rfl, rfl⟩, rfl, Or.inr (Or.inr rfl)⟩
theorem z114_37 : za 114 37 (.iconst 4) 38 := ⟨rfl, rfl, rfl⟩
theorem z114_38 : za 114 38 (.aload_n 0) 39 := ⟨rfl, rfl, rfl⟩
theorem z114_39 : za_f 114 39 5 13 42 := ⟨89, 0, .null, ⟨rfl, rfl, rfl⟩, rfl, Or.inl rfl⟩
theorem z114_42 : za 114 42 (.imul) 43 := ⟨rfl, rfl, rfl⟩
theorem z114_43 : za 114 43 (.iconst 2) 44 := ⟨rfl, rfl, rfl⟩
theorem z114_44 : za 114 44 (.iadd) 45 := ⟨rfl, rfl, rfl⟩
theorem z114_45 : za 114 45 (.iaload) 46 := ⟨rfl, rfl, rfl⟩
theorem z114_46 : za 114 46 (.istore_n 1) 47 := ⟨rfl, rfl, rfl⟩
theorem z114_47 : za 114 47 (.aload_n 0) 48 := ⟨rfl, rfl, rfl⟩
theorem z114_48 : za 114 48 (.aload_n 0) 49 := ⟨rfl, rfl, rfl⟩
theorem z114_49 : za_f 114 49 5 14 52 := ⟨42, 9, .null, ⟨rfl, rfl, rfl⟩, rfl, Or.inr (Or.inr rfl)⟩
theorem z114_52 : za 114 52 (.iconst 4) 53 := ⟨rfl, rfl, rfl⟩
theorem z114_53 : za 114 53 (.aload_n 0) 54 := ⟨rfl, rfl, rfl⟩
theorem z114_54 : za_f 114 54 5 13 57 := ⟨89, 0, .null, ⟨rfl, rfl, rfl⟩, rfl, Or.inl rfl⟩
theorem z114_57 : za 114 57 (.imul) 58 := ⟨rfl, rfl, rfl⟩
theorem z114_58 : za 114 58 (.iconst 1) 59 := ⟨rfl, rfl, rfl⟩
theorem z114_59 : za 114 59 (.iadd) 60 := ⟨rfl, rfl, rfl⟩
theorem z114_60 : za 114 60 (.iaload) 61 := ⟨rfl, rfl, rfl⟩
theorem z114_61 : za 114 61 (.aload_n 0) 62 := ⟨rfl, rfl, rfl⟩
theorem z114_62 : za_f 114 62 5 14 65 := ⟨42, 9, .null, ⟨rfl, rfl, rfl⟩, rfl, Or.inr (Or.inr rfl)⟩
theorem z114_65 : za 114 65 (.iconst 4) 66 := ⟨rfl, rfl, rfl⟩
theorem z114_66 : za 114 66 (.aload_n 0) 67 := ⟨rfl, rfl, rfl⟩
theorem z114_67 : za_f 114 67 5 13 70 := ⟨89, 0, .null, ⟨rfl, rfl, rfl⟩, rfl, Or.inl rfl⟩
theorem z114_70 : za 114 70 (.imul) 71 := ⟨rfl, rfl, rfl⟩
theorem z114_71 : za 114 71 (.iaload) 72 := ⟨rfl, rfl, rfl⟩
theorem z114_72 : za 114 72 (.iload_n 1) 73 := ⟨rfl, rfl, rfl⟩
theorem z114_73 : za 114 73 (.aload_n 0) 74 := ⟨rfl, rfl, rfl⟩
theorem z114_74 : za_f 114 74 5 14 77 := ⟨42, 9, .null, ⟨rfl, rfl, rfl⟩, rfl, Or.inr (Or.inr rfl)⟩
theorem z114_77 : za 114 77 (.iconst 4) 78 := ⟨rfl, rfl, rfl⟩
theorem z114_78 : za 114 78 (.aload_n 0) 79 := ⟨rfl, rfl, rfl⟩
theorem z114_79 : za_f 114 79 5 13 82 := ⟨89, 0, .null, ⟨rfl, rfl, rfl⟩, rfl, Or.inl rfl⟩
theorem z114_82 : za 114 82 (.imul) 83 := ⟨rfl, rfl, rfl⟩
theorem z114_83 : za 114 83 (.iconst 3) 84 := ⟨rfl, rfl, rfl⟩
theorem z114_84 : za 114 84 (.iadd) 85 := ⟨rfl, rfl, rfl⟩
theorem z114_85 : za 114 85 (.iaload) 86 := ⟨rfl, rfl, rfl⟩
theorem z114_86 : za_v 114 86 105 4 5 89 := ⟨153, ⟨rfl, rfl, rfl⟩, rfl⟩
theorem z114_89 : za 114 89 (.iload_n 1) 90 := ⟨rfl, rfl, rfl⟩
theorem z114_90 : za 114 90 (.ireturn) 91 := ⟨rfl, rfl, rfl⟩
theorem z115_0 : za 115 0 (.aload_n 0) 1 := ⟨rfl, rfl, rfl⟩
theorem z115_1 : za 115 1 (.iconst 0) 2 := ⟨rfl, rfl, rfl⟩
theorem z115_2 : za_p 115 2 5 0 5 := ⟨69, 0, .null, ⟨rfl, rfl, rfl⟩, rfl, Or.inl rfl⟩
theorem z115_5 : za 115 5 (.aload_n 0) 6 := ⟨rfl, rfl, rfl⟩
theorem z115_6 : za_f 115 6 5 13 9 := ⟨89, 0, .null, ⟨rfl, rfl, rfl⟩, rfl, Or.inl rfl⟩
theorem z115_9 : za 115 9 (.ireturn) 10 := ⟨rfl, rfl, rfl⟩
theorem z116_0 : za 116 0 (.aload_n 0) 1 := ⟨rfl, rfl, rfl⟩
theorem z116_1 : za 116 1 (.iconst 0) 2 := ⟨rfl, rfl, rfl⟩
theorem z116_2 : za_p 116 2 5 0 5 := ⟨69, 0, .null, ⟨rfl, rfl, rfl⟩, rfl, Or.inl rfl⟩
theorem z116_5 : za 116 5 (.iload_n 1) 6 := ⟨rfl, rfl, rfl⟩
theorem z116_6 : za 116 6 (.bipush (12)) 8 := ⟨rfl, rfl, rfl⟩
theorem z116_8 : zb (.if_icmp .ne) 116 8 54 11 := ⟨46, ⟨rfl, rfl, rfl⟩, rfl⟩
theorem z116_11 : za 116 11 (.iload_n 2) 12 := ⟨rfl, rfl, rfl⟩
theorem z116_12 : za 116 12 (.iconst 0) 13 := ⟨rfl, rfl, rfl⟩
theorem z116_13 : za 116 13 (.aload_n 0) 14 := ⟨rfl, rfl, rfl⟩
theorem z116_14 : za_f 116 14 5 5 17 := ⟨16, 0, .null, ⟨rfl, rfl, rfl⟩, rfl, Or.inl rfl⟩
theorem z116_17 : za 116 17 (.iconst 1) 18 := ⟨rfl, rfl, rfl⟩
theorem z116_18 : za 116 18 (.isub) 19 := ⟨rfl, rfl, rfl⟩
theorem z116_19 : za_s 116 19 79 3 22 := ⟨92, .null, ⟨rfl, rfl, rfl⟩, rfl⟩
theorem z116_22 : zb (.ifCond .eq) 116 22 52 25 := ⟨30, ⟨rfl, rfl, rfl⟩, rfl⟩
theorem z116_25 : za 116 25 (.aload_n 0) 26 := ⟨rfl, rfl, rfl⟩
theorem z116_26 : za_f 116 26 5 10 29 := ⟨32, 9, .null, ⟨rfl, rfl, rfl⟩, rfl, Or.inr (Or.inr rfl)⟩
theorem z116_29 : za 116 29 (.iload_n 2) 30 := ⟨rfl, rfl, rfl⟩
theorem z116_30 : za 116 30 (.iaload) 31 := ⟨rfl, rfl, rfl⟩
theorem z116_31 : zb (.ifCond .le) 116 31 52 34 := ⟨21, ⟨rfl, rfl, rfl⟩, rfl⟩
theorem z116_34 : za 116 34 (.aload_n 0) 35 := ⟨rfl, rfl, rfl⟩
theorem z116_35 : za_f 116 35 5 5 38 := ⟨16, 0, .null, ⟨rfl, rfl, rfl⟩, rfl, Or.inl rfl⟩
theorem z116_38 : za 116 38 (.aload_n 0) 39 := ⟨rfl, rfl, rfl⟩
theorem z116_39 : za_f 116 39 5 10 42 := ⟨32, 9, .null, ⟨rfl, rfl, rfl⟩, rfl, Or.inr (Or.inr rfl)⟩
theorem z116_42 : za 116 42 (.iload_n 2) 43 := ⟨rfl, rfl, rfl⟩
theorem z116_43 : za 116 43 (.iaload) 44 := ⟨rfl, rfl, rfl⟩
theorem z116_44 : za 116 44 (.iconst 1) 45 := ⟨rfl, rfl, rfl⟩
theorem z116_45 : za 116 45 (.isub) 46 := ⟨rfl, rfl, rfl⟩
theorem z116_46 : za 116 46 (.imul) 47 := ⟨rfl, rfl, rfl⟩
theorem z116_47 : za 116 47 (.iload_n 2) 48 := ⟨rfl, rfl, rfl⟩
theorem z116_48 : za 116 48 (.iadd) 49 := ⟨rfl, rfl, rfl⟩
theorem z116_49 : zb (.goto) 116 49 53 52 := ⟨4, ⟨rfl, rfl, rfl⟩, rfl⟩
theorem z116_52 : za 116 52 (.iconst (-1)) 53 := ⟨rfl, rfl, rfl⟩
theorem z116_53 : za 116 53 (.ireturn) 54 := ⟨rfl, rfl, rfl⟩
theorem z116_54 : za 116 54 (.aload_n 0) 55 := ⟨rfl, rfl, rfl⟩
theorem z116_55 : za 116 55 (.iload_n 1) 56 := ⟨rfl, rfl, rfl⟩
theorem z116_56 : za_v 116 56 95 1 5 59 := ⟨118, ⟨rfl, rfl, rfl⟩, rfl⟩
theorem z116_59 : zb (.ifCond .eq) 116 59 80 62 := ⟨21, ⟨rfl, rfl, rfl⟩, rfl⟩
theorem z116_62 : za 116 62 (.iload_n 2) 63 := ⟨rfl, rfl, rfl⟩
theorem z116_63 : zb (.ifCond .ne) 116 63 78 66 := ⟨15, ⟨rfl, rfl, rfl⟩, rfl⟩
theorem z116_66 : za 116 66 (.aload_n 0) 67 := ⟨rfl, rfl, rfl⟩
theorem z116_67 : za_f 116 67 5 9 70 := ⟨29, 9, .null, ⟨rfl, rfl, rfl⟩, rfl, Or.inr (Or.inr rfl)⟩
theorem z116_70 : za 116 70 (.iload_n 1) 71 := ⟨rfl, rfl, rfl⟩
theorem z116_71 : za 116 71 (.bipush (8)) 73 := ⟨rfl, rfl, rfl⟩
theorem z116_73 : za 116 73 (.isub) 74 := ⟨rfl, rfl, rfl⟩
theorem z116_74 : za 116 74 (.iaload) 75 := ⟨rfl, rfl, rfl⟩
theorem z116_75 : zb (.goto) 116 75 79 78 := ⟨4, ⟨rfl, rfl, rfl⟩, rfl⟩
theorem z116_78 : za 116 78 (.iconst (-1)) 79 := ⟨rfl, rfl, rfl⟩
theorem z116_79 : za 116 79 (.ireturn) 80 := ⟨rfl, rfl, rfl⟩
theorem z116_80 : za 116 80 (.aload_n 0) 81 := ⟨rfl, rfl, rfl⟩
theorem z116_81 : za 116 81 (.iload_n 1) 82 := ⟨rfl, rfl, rfl⟩
theorem z116_82 : za_v 116 82 94 1 5 85 := ⟨135, ⟨rfl, rfl, rfl⟩, rfl⟩
theorem z116_85 : zb (.ifCond .eq) 116 85 116 88 := ⟨31, ⟨rfl, rfl, rfl⟩, rfl⟩
theorem z116_88 : za 116 88 (.iload_n 2) 89 := ⟨rfl, rfl, rfl⟩
theorem z116_89 : zb (.ifCond .lt) 116 89 116 92 := ⟨27, ⟨rfl, rfl, rfl⟩, rfl⟩
theorem z116_92 : za 116 92 (.iload_n 2) 93 := ⟨rfl, rfl, rfl⟩
theorem z116_93 : za 116 93 (.aload_n 0) 94 := ⟨rfl, rfl, rfl⟩
theorem z116_94 : za_f 116 94 5 8 97 := ⟨26, 9, .null, ⟨rfl, rfl, rfl⟩, rfl, Or.inr (Or.inr rfl)⟩
theorem z116_97 : za 116 97 (.iload_n 1) 98 := ⟨rfl, rfl, rfl⟩
theorem z116_98 : za 116 98 (.iaload) 99 := ⟨rfl, rfl, rfl⟩
theorem z116_99 : zb (.if_icmp .ge) 116 99 116 102 := ⟨17, ⟨rfl, rfl, rfl⟩, rfl⟩
theorem z116_102 : za 116 102 (.aload_n 0) 103 := ⟨rfl, rfl, rfl⟩
theorem z116_103 : za_f 116 103 5 7 106 := ⟨22, 9, .null, ⟨rfl, rfl, rfl⟩, rfl, Or.inr (Or.inr rfl)⟩
theorem z116_106 : za 116 106 (.bipush (52)) 108 := ⟨rfl, rfl, rfl⟩
theorem z116_108 : za 116 108 (.iload_n 1) 109 := ⟨rfl, rfl, rfl⟩
theorem z116_109 : za 116 109 (.imul) 110 := ⟨rfl, rfl, rfl⟩
theorem z116_110 : za 116 110 (.iload_n 2) 111 := ⟨rfl, rfl, rfl⟩
theorem z116_111 : za 116 111 (.iadd) 112 := ⟨rfl, rfl, rfl⟩
theorem z116_112 : za 116 112 (.iaload) 113 := ⟨rfl, rfl, rfl⟩
theorem z116_113 : zb (.goto) 116 113 117 116 := ⟨4, ⟨rfl, rfl, rfl⟩, rfl⟩
theorem z116_116 : za 116 116 (.iconst (-1)) 117 := ⟨rfl, rfl, rfl⟩
theorem z116_117 : za 116 117 (.ireturn) 118 := ⟨rfl, rfl, rfl⟩
theorem z117_0 : za 117 0 (.aload_n 0) 1 := ⟨rfl, rfl, rfl⟩
theorem z117_1 : za 117 1 (.iconst 0) 2 := ⟨rfl, rfl, rfl⟩
theorem z117_2 : za_p 117 2 5 0 5 := ⟨69, 0, .null, ⟨rfl, rfl, rfl⟩, rfl, Or.inl rfl⟩
theorem z117_5 : za 117 5 (.iload_n 1) 6 := ⟨rfl, rfl, rfl⟩
theorem z117_6 : za 117 6 (.bipush (12)) 8 := ⟨rfl, rfl, rfl⟩
theorem z117_8 : zb (.if_icmp .ne) 117 8 16 11 := ⟨8, ⟨rfl, rfl, rfl⟩, rfl⟩
theorem z117_11 : za 117 11 (.aload_n 0) 12 := ⟨rfl, rfl, rfl⟩
theorem z117_12 : za_v 117 12 96 0 5 15 := ⟨164, ⟨rfl, rfl, rfl⟩, rfl⟩
theorem z117_15 : za 117 15 (.ireturn) 16 := ⟨rfl, rfl, rfl⟩
theorem z117_16 : za 117 16 (.aload_n 0) 17 := ⟨rfl, rfl, rfl⟩
theorem z117_17 : za 117 17 (.iload_n 1) 18 := ⟨rfl, rfl, rfl⟩
theorem z117_18 : za_v 117 18 95 1 5 21 := ⟨118, ⟨rfl, rfl, rfl⟩, rfl⟩
theorem z117_21 : zb (.ifCond .eq) 117 21 44 24 := ⟨23, ⟨rfl, rfl, rfl⟩, rfl⟩
theorem z117_24 : za 117 24 (.aload_n 0) 25 := ⟨rfl, rfl, rfl⟩
theorem z117_25 : za_f 117 25 5 9 28 := ⟨29, 9, .null, ⟨rfl, rfl, rfl⟩, rfl, Or.inr (Or.inr rfl)⟩
theorem z117_28 : za 117 28 (.iload_n 1) 29 := ⟨rfl, rfl, rfl⟩
theorem z117_29 : za 117 29 (.bipush (8)) 31 := ⟨rfl, rfl, rfl⟩
theorem z117_31 : za 117 31 (.isub) 32 := ⟨rfl, rfl, rfl⟩
theorem z117_32 : za 117 32 (.iaload) 33 := ⟨rfl, rfl, rfl⟩
theorem z117_33 : zb (.ifCond .ge) 117 33 40 36 := ⟨7, ⟨rfl, rfl, rfl⟩, rfl⟩
theorem z117_36 : za 117 36 (.iconst 0) 37 := ⟨rfl, rfl, rfl⟩
theorem z117_37 : zb (.goto) 117 37 62 40 := ⟨25, ⟨rfl, rfl, rfl⟩, rfl⟩
theorem z117_40 : za 117 40 (.iconst 1) 41 := ⟨rfl, rfl, rfl⟩
theorem z117_41 : zb (.goto) 117 41 62 44 := ⟨21, ⟨rfl, rfl, rfl⟩, rfl⟩
theorem z117_44 : za 117 44 (.aload_n 0) 45 := ⟨rfl, rfl, rfl⟩
theorem z117_45 : za 117 45 (.iload_n 1) 46 := ⟨rfl, rfl, rfl⟩
theorem z117_46 : za_v 117 46 94 1 5 49 := ⟨135, ⟨rfl, rfl, rfl⟩, rfl⟩
theorem z117_49 : zb (.ifCond .eq) 117 49 61 52 := ⟨12, ⟨rfl, rfl, rfl⟩, rfl⟩
theorem z117_52 : za 117 52 (.aload_n 0) 53 := ⟨rfl, rfl, rfl⟩
theorem z117_53 : za_f 117 53 5 8 56 := ⟨26, 9, .null, ⟨rfl, rfl, rfl⟩, rfl, Or.inr (Or.inr rfl)⟩
theorem z117_56 : za 117 56 (.iload_n 1) 57 := ⟨rfl, rfl, rfl⟩
theorem z117_57 : za 117 57 (.iaload) 58 := ⟨rfl, rfl, rfl⟩
theorem z117_58 : zb (.goto) 117 58 62 61 := ⟨4, ⟨rfl, rfl, rfl⟩, rfl⟩
theorem z117_61 : za 117 61 (.iconst (-1)) 62 := ⟨rfl, rfl, rfl⟩
theorem z117_62 : za 117 62 (.ireturn) 63 := ⟨rfl, rfl, rfl⟩
theorem z118_0 : za 118 0 (.aload_n 0) 1 := ⟨rfl, rfl, rfl⟩
theorem z118_1 : za 118 1 (.iconst 0) 2 := ⟨rfl, rfl, rfl⟩
theorem z118_2 : za_p 118 2 5 0 5 := ⟨69, 0, .null, ⟨rfl, rfl, rfl⟩, rfl, Or.inl rfl⟩
theorem z118_5 : za 118 5 (.aload_n 0) 6 := ⟨rfl, rfl, rfl⟩
theorem z118_6 : za 118 6 (.iload_n 1) 7 := ⟨rfl, rfl, rfl⟩
theorem z118_7 : za_v 118 7 94 1 5 10 := ⟨135, ⟨rfl, rfl, rfl⟩, rfl⟩
theorem z118_10 : zb (.ifCond .eq) 118 10 41 13 := ⟨31, ⟨rfl, rfl, rfl⟩, rfl⟩
theorem z118_13 : za 118 13 (.aload_n 0) 14 := ⟨rfl, rfl, rfl⟩
theorem z118_14 : za 118 14 (.iload_n 2) 15 := ⟨rfl, rfl, rfl⟩
theorem z118_15 : za_v 118 15 94 1 5 18 := ⟨135, ⟨rfl, rfl, rfl⟩, rfl⟩
theorem z118_18 : zb (.ifCond .eq) 118 18 41 21 := ⟨23, ⟨rfl, rfl, rfl⟩, rfl⟩
theorem z118_21 : za 118 21 (.aload_n 0) 22 := ⟨rfl, rfl, rfl⟩
theorem z118_22 : za_v 118 22 92 0 5 25 := ⟨115, ⟨rfl, rfl, rfl⟩, rfl⟩
theorem z118_25 : za 118 25 (.aload_n 0) 26 := ⟨rfl, rfl, rfl⟩
theorem z118_26 : za_v 118 26 80 0 5 29 := ⟨96, ⟨rfl, rfl, rfl⟩, rfl⟩
theorem z118_29 : zb (.if_icmp .ne) 118 29 41 32 := ⟨12, ⟨rfl, rfl, rfl⟩, rfl⟩
theorem z118_32 : za 118 32 (.aload_n 0) 33 := ⟨rfl, rfl, rfl⟩
theorem z118_33 : za 118 33 (.iload_n 1) 34 := ⟨rfl, rfl, rfl⟩
theorem z118_34 : za 118 34 (.iload_n 2) 35 := ⟨rfl, rfl, rfl⟩
theorem z118_35 : za_v 118 35 109 2 5 38 := ⟨170, ⟨rfl, rfl, rfl⟩, rfl⟩
theorem z118_38 : zb (.goto) 118 38 42 41 := ⟨4, ⟨rfl, rfl, rfl⟩, rfl⟩
theorem z118_41 : za 118 41 (.iconst 0) 42 := ⟨rfl, rfl, rfl⟩
theorem z118_42 : za 118 42 (.ireturn) 43 := ⟨rfl, rfl, rfl⟩
theorem z119_0 : za 119 0 (.iconst 0) 1 := ⟨rfl, rfl, rfl⟩
theorem z119_1 : za 119 1 (.istore_n 1) 2 := ⟨rfl, rfl, rfl⟩
theorem z119_2 : za 119 2 (.iload_n 1) 3 := ⟨rfl, rfl, rfl⟩
theorem z119_3 : za 119 3 (.bipush (52)) 5 := ⟨rfl, rfl, rfl⟩
theorem z119_5 : zb (.if_icmp .ge) 119 5 33 8 := ⟨28, ⟨rfl, rfl, rfl⟩, rfl⟩
theorem z119_8 : za 119 8 (.aload_n 0) 9 := ⟨rfl, rfl, rfl⟩
theorem z119_9 : za_f 119 9 5 17 12 := ⟨48, 9, .null, ⟨rfl, rfl, rfl⟩, rfl, Or.inr (Or.inr rfl)⟩
theorem z119_12 : za 119 12 (.iload_n 1) 13 := ⟨rfl, rfl, rfl⟩
theorem z119_13 : za 119 13 (.iload_n 1) 14 := ⟨rfl, rfl, rfl⟩
theorem z119_14 : za 119 14 (.aload_n 0) 15 := ⟨rfl, rfl, rfl⟩
theorem z119_15 : za_v 119 15 80 0 5 18 := ⟨96, ⟨rfl, rfl, rfl⟩, rfl⟩
theorem z119_18 : zb (.if_icmp .ge) 119 18 25 21 := ⟨7, ⟨rfl, rfl, rfl⟩, rfl⟩
theorem z119_21 : za 119 21 (.iconst 1) 22 := ⟨rfl, rfl, rfl⟩
theorem z119_22 : zb (.goto) 119 22 26 25 := ⟨4, ⟨rfl, rfl, rfl⟩, rfl⟩
theorem z119_25 : za 119 25 (.iconst 0) 26 := ⟨rfl, rfl, rfl⟩
theorem z119_26 : za 119 26 (.iastore) 27 := ⟨rfl, rfl, rfl⟩
theorem z119_27 : za 119 27 (.iinc 1 (1)) 30 := ⟨rfl, rfl, rfl⟩
theorem z119_30 : zb (.goto) 119 30 2 33 := ⟨(-28), ⟨rfl, rfl, rfl⟩, rfl⟩
theorem z119_33 : za 119 33 (.iconst 0) 34 := ⟨rfl, rfl, rfl⟩
theorem z119_34 : za 119 34 (.istore_n 1) 35 := ⟨rfl, rfl, rfl⟩
theorem z119_35 : za 119 35 (.iload_n 1) 36 := ⟨rfl, rfl, rfl⟩
theorem z119_36 : za 119 36 (.aload_n 0) 37 := ⟨rfl, rfl, rfl⟩
theorem z119_37 : za_f 119 37 5 1 40 := ⟨7, 0, .null, ⟨rfl, rfl, rfl⟩, rfl, Or.inl rfl⟩
theorem z119_40 : zb (.if_icmp .ge) 119 40 107 43 := ⟨67, ⟨rfl, rfl, rfl⟩, rfl⟩
theorem z119_43 : za 119 43 (.iconst 0) 44 := ⟨rfl, rfl, rfl⟩
theorem z119_44 : za 119 44 (.istore_n 2) 45 := ⟨rfl, rfl, rfl⟩
theorem z119_45 : za 119 45 (.iload_n 2) 46 := ⟨rfl, rfl, rfl⟩
theorem z119_46 : za 119 46 (.aload_n 0) 47 := ⟨rfl, rfl, rfl⟩
theorem z119_47 : za_f 119 47 5 8 50 := ⟨26, 9, .null, ⟨rfl, rfl, rfl⟩, rfl, Or.inr (Or.inr rfl)⟩
theorem z119_50 : za 119 50 (.iload_n 1) 51 := ⟨rfl, rfl, rfl⟩
theorem z119_51 : za 119 51 (.iaload) 52 := ⟨rfl, rfl, rfl⟩
theorem z119_52 : zb (.if_icmp .ge) 119 52 101 55 := ⟨49, ⟨rfl, rfl, rfl⟩, rfl⟩
theorem z119_55 : za 119 55 (.aload_n 0) 56 := ⟨rfl, rfl, rfl⟩
theorem z119_56 : za_f 119 56 5 17 59 := ⟨48, 9, .null, ⟨rfl, rfl, rfl⟩, rfl, Or.inr (Or.inr rfl)⟩
theorem z119_59 : za 119 59 (.aload_n 0) 60 := ⟨rfl, rfl, rfl⟩
theorem z119_60 : za_f 119 60 5 7 63 := ⟨22, 9, .null, ⟨rfl, rfl, rfl⟩, rfl, Or.inr (Or.inr rfl)⟩
theorem z119_63 : za 119 63 (.bipush (52)) 65 := ⟨rfl, rfl, rfl⟩
theorem z119_65 : za 119 65 (.iload_n 1) 66 := ⟨rfl, rfl, rfl⟩
theorem z119_66 : za 119 66 (.imul) 67 := ⟨rfl, rfl, rfl⟩
theorem z119_67 : za 119 67 (.iload_n 2) 68 := ⟨rfl, rfl, rfl⟩
theorem z119_68 : za 119 68 (.iadd) 69 := ⟨rfl, rfl, rfl⟩
theorem z119_69 : za 119 69 (.iaload) 70 := ⟨rfl, rfl, rfl⟩
theorem z119_70 : za 119 70 (.iload_n 2) 71 := ⟨rfl, rfl, rfl⟩
theorem z119_71 : zb (.ifCond .ne) 119 71 78 74 := ⟨7, ⟨rfl, rfl, rfl⟩, rfl⟩
theorem z119_74 : za 119 74 (.iconst 3) 75 := ⟨rfl, rfl, rfl⟩
theorem z119_75 : zb (.goto) 119 75 94 78 := ⟨19, ⟨rfl, rfl, rfl⟩, rfl⟩
theorem z119_78 : za 119 78 (.bipush (10)) 80 := ⟨rfl, rfl, rfl⟩
theorem z119_80 : za 119 80 (.aload_n 0) 81 := ⟨rfl, rfl, rfl⟩
theorem z119_81 : za_f 119 81 5 7 84 := ⟨22, 9, .null, ⟨rfl, rfl, rfl⟩, rfl, Or.inr (Or.inr rfl)⟩
theorem z119_84 : za 119 84 (.bipush (52)) 86 := ⟨rfl, rfl, rfl⟩
theorem z119_86 : za 119 86 (.iload_n 1) 87 := ⟨rfl, rfl, rfl⟩
theorem z119_87 : za 119 87 (.imul) 88 := ⟨rfl, rfl, rfl⟩
theorem z119_88 : za 119 88 (.iload_n 2) 89 := ⟨rfl, rfl, rfl⟩
theorem z119_89 : za 119 89 (.iadd) 90 := ⟨rfl, rfl, rfl⟩
theorem z119_90 : za 119 90 (.iconst 1) 91 := ⟨rfl, rfl, rfl⟩
theorem z119_91 : za 119 91 (.isub) 92 := ⟨rfl, rfl, rfl⟩
theorem z119_92 : za 119 92 (.iaload) 93 := ⟨rfl, rfl, rfl⟩
theorem z119_93 : za 119 93 (.iadd) 94 := ⟨rfl, rfl, rfl⟩
theorem z119_94 : za 119 94 (.iastore) 95 := ⟨rfl, rfl, rfl⟩
theorem z119_95 : za 119 95 (.iinc 2 (1)) 98 := ⟨rfl, rfl, rfl⟩
theorem z119_98 : zb (.goto) 119 98 45 101 := ⟨(-53), ⟨rfl, rfl, rfl⟩, rfl⟩
theorem z119_101 : za 119 101 (.iinc 1 (1)) 104 := ⟨rfl, rfl, rfl⟩
theorem z119_104 : zb (.goto) 119 104 35 107 := ⟨(-69), ⟨rfl, rfl, rfl⟩, rfl⟩
theorem z119_107 : za 119 107 (.iconst 0) 108 := ⟨rfl, rfl, rfl⟩
theorem z119_108 : za 119 108 (.istore_n 1) 109 := ⟨rfl, rfl, rfl⟩
theorem z119_109 : za 119 109 (.iload_n 1) 110 := ⟨rfl, rfl, rfl⟩
theorem z119_110 : za 119 110 (.aload_n 0) 111 := ⟨rfl, rfl, rfl⟩
theorem z119_111 : za_f 119 111 5 2 114 := ⟨13, 0, .null, ⟨rfl, rfl, rfl⟩, rfl, Or.inl rfl⟩
theorem z119_114 : zb (.if_icmp .ge) 119 114 144 117 := ⟨30, ⟨rfl, rfl, rfl⟩, rfl⟩
theorem z119_117 : za 119 117 (.aload_n 0) 118 := ⟨rfl, rfl, rfl⟩
theorem z119_118 : za_f 119 118 5 9 121 := ⟨29, 9, .null, ⟨rfl, rfl, rfl⟩, rfl, Or.inr (Or.inr rfl)⟩
theorem z119_121 : za 119 121 (.iload_n 1) 122 := ⟨rfl, rfl, rfl⟩
theorem z119_122 : za 119 122 (.iaload) 123 := ⟨rfl, rfl, rfl⟩
theorem z119_123 : zb (.ifCond .lt) 119 123 138 126 := ⟨15, ⟨rfl, rfl, rfl⟩, rfl⟩
theorem z119_126 : za 119 126 (.aload_n 0) 127 := ⟨rfl, rfl, rfl⟩
theorem z119_127 : za_f 119 127 5 17 130 := ⟨48, 9, .null, ⟨rfl, rfl, rfl⟩, rfl, Or.inr (Or.inr rfl)⟩
theorem z119_130 : za 119 130 (.aload_n 0) 131 := ⟨rfl, rfl, rfl⟩
theorem z119_131 : za_f 119 131 5 9 134 := ⟨29, 9, .null, ⟨rfl, rfl, rfl⟩, rfl, Or.inr (Or.inr rfl)⟩
theorem z119_134 : za 119 134 (.iload_n 1) 135 := ⟨rfl, rfl, rfl⟩
theorem z119_135 : za 119 135 (.iaload) 136 := ⟨rfl, rfl, rfl⟩
theorem z119_136 : za 119 136 (.iconst 2) 137 := ⟨rfl, rfl, rfl⟩
theorem z119_137 : za 119 137 (.iastore) 138 := ⟨rfl, rfl, rfl⟩
theorem z119_138 : za 119 138 (.iinc 1 (1)) 141 := ⟨rfl, rfl, rfl⟩
theorem z119_141 : zb (.goto) 119 141 109 144 := ⟨(-32), ⟨rfl, rfl, rfl⟩, rfl⟩
theorem z119_144 : za 119 144 (.return_) 145 := ⟨rfl, rfl, rfl⟩
theorem z120_0 : za 120 0 (.iconst 0) 1 := ⟨rfl, rfl, rfl⟩
theorem z120_1 : za 120 1 (.istore_n 2) 2 := ⟨rfl, rfl, rfl⟩
theorem z120_2 : za 120 2 (.iconst 0) 3 := ⟨rfl, rfl, rfl⟩
theorem z120_3 : za 120 3 (.istore_n 3) 4 := ⟨rfl, rfl, rfl⟩
theorem z120_4 : za 120 4 (.iload_n 3) 5 := ⟨rfl, rfl, rfl⟩
theorem z120_5 : za 120 5 (.bipush (52)) 7 := ⟨rfl, rfl, rfl⟩
theorem z120_7 : zb (.if_icmp .ge) 120 7 33 10 := ⟨26, ⟨rfl, rfl, rfl⟩, rfl⟩
theorem z120_10 : za 120 10 (.bipush (31)) 12 := ⟨rfl, rfl, rfl⟩
theorem z120_12 : za 120 12 (.iload_n 2) 13 := ⟨rfl, rfl, rfl⟩
theorem z120_13 : za 120 13 (.imul) 14 := ⟨rfl, rfl, rfl⟩
theorem z120_14 : za 120 14 (.aload_n 0) 15 := ⟨rfl, rfl, rfl⟩
theorem z120_15 : za_f 120 15 5 17 18 := ⟨48, 9, .null, ⟨rfl, rfl, rfl⟩, rfl, Or.inr (Or.inr rfl)⟩
theorem z120_18 : za 120 18 (.bipush (52)) 20 := ⟨rfl, rfl, rfl⟩
theorem z120_20 : za 120 20 (.iload_n 1) 21 := ⟨rfl, rfl, rfl⟩
theorem z120_21 : za 120 21 (.imul) 22 := ⟨rfl, rfl, rfl⟩
theorem z120_22 : za 120 22 (.iload_n 3) 23 := ⟨rfl, rfl, rfl⟩
theorem z120_23 : za 120 23 (.iadd) 24 := ⟨rfl, rfl, rfl⟩
theorem z120_24 : za 120 24 (.iaload) 25 := ⟨rfl, rfl, rfl⟩
theorem z120_25 : za 120 25 (.iadd) 26 := ⟨rfl, rfl, rfl⟩
theorem z120_26 : za 120 26 (.istore_n 2) 27 := ⟨rfl, rfl, rfl⟩
theorem z120_27 : za 120 27 (.iinc 3 (1)) 30 := ⟨rfl, rfl, rfl⟩
theorem z120_30 : zb (.goto) 120 30 4 33 := ⟨(-26), ⟨rfl, rfl, rfl⟩, rfl⟩
theorem z120_33 : za 120 33 (.iload_n 2) 34 := ⟨rfl, rfl, rfl⟩
theorem z120_34 : za 120 34 (.ireturn) 35 := ⟨rfl, rfl, rfl⟩
theorem z121_0 : za 121 0 (.iconst 0) 1 := ⟨rfl, rfl, rfl⟩
theorem z121_1 : za 121 1 (.istore_n 2) 2 := ⟨rfl, rfl, rfl⟩
theorem z121_2 : za 121 2 (.iload_n 2) 3 := ⟨rfl, rfl, rfl⟩
theorem z121_3 : za 121 3 (.iconst 4) 4 := ⟨rfl, rfl, rfl⟩
theorem z121_4 : zb (.if_icmp .ge) 121 4 20 7 := ⟨16, ⟨rfl, rfl, rfl⟩, rfl⟩
theorem z121_7 : za 121 7 (.aload_n 0) 8 := ⟨rfl, rfl, rfl⟩
theorem z121_8 : za_f 121 8 5 25 11 := ⟨60, 9, .null, ⟨rfl, rfl, rfl⟩, rfl, Or.inr (Or.inr rfl)⟩
theorem z121_11 : za 121 11 (.iload_n 2) 12 := ⟨rfl, rfl, rfl⟩
theorem z121_12 : za 121 12 (.iconst 0) 13 := ⟨rfl, rfl, rfl⟩
theorem z121_13 : za 121 13 (.iastore) 14 := ⟨rfl, rfl, rfl⟩
theorem z121_14 : za 121 14 (.iinc 2 (1)) 17 := ⟨rfl, rfl, rfl⟩
theorem z121_17 : zb (.goto) 121 17 2 20 := ⟨(-15), ⟨rfl, rfl, rfl⟩, rfl⟩
theorem z121_20 : za 121 20 (.aload_n 0) 21 := ⟨rfl, rfl, rfl⟩
theorem z121_21 : za 121 21 (.iconst 0) 22 := ⟨rfl, rfl, rfl⟩
theorem z121_22 : za_p 121 22 5 26 25 := ⟨179, 0, .null, ⟨rfl, rfl, rfl⟩, rfl, Or.inl rfl⟩
theorem z121_25 : za 121 25 (.aload_n 0) 26 := ⟨rfl, rfl, rfl⟩
theorem z121_26 : za 121 26 (.iconst 0) 27 := ⟨rfl, rfl, rfl⟩
theorem z121_27 : za_p 121 27 5 27 30 := ⟨182, 0, .null, ⟨rfl, rfl, rfl⟩, rfl, Or.inl rfl⟩
theorem z121_30 : za 121 30 (.iconst 0) 31 := ⟨rfl, rfl, rfl⟩
theorem z121_31 : za 121 31 (.istore_n 2) 32 := ⟨rfl, rfl, rfl⟩
theorem z121_32 : za 121 32 (.iload_n 2) 33 := ⟨rfl, rfl, rfl⟩
theorem z121_33 : za 121 33 (.aload_n 0) 34 := ⟨rfl, rfl, rfl⟩
theorem z121_34 : za_v 121 34 80 0 5 37 := ⟨96, ⟨rfl, rfl, rfl⟩, rfl⟩
theorem z121_37 : zb (.if_icmp .ge) 121 37 53 40 := ⟨16, ⟨rfl, rfl, rfl⟩, rfl⟩
theorem z121_40 : za 121 40 (.aload_n 0) 41 := ⟨rfl, rfl, rfl⟩
theorem z121_41 : za_f 121 41 5 28 44 := ⟨63, 9, .null, ⟨rfl, rfl, rfl⟩, rfl, Or.inr (Or.inr rfl)⟩
theorem z121_44 : za 121 44 (.iload_n 2) 45 := ⟨rfl, rfl, rfl⟩
theorem z121_45 : za 121 45 (.iconst 0) 46 := ⟨rfl, rfl, rfl⟩
theorem z121_46 : za 121 46 (.bastore) 47 := ⟨rfl, rfl, rfl⟩
theorem z121_47 : za 121 47 (.iinc 2 (1)) 50 := ⟨rfl, rfl, rfl⟩
theorem z121_50 : zb (.goto) 121 50 32 53 := ⟨(-18), ⟨rfl, rfl, rfl⟩, rfl⟩
theorem z121_53 : za 121 53 (.iconst 0) 54 := ⟨rfl, rfl, rfl⟩
theorem z121_54 : za 121 54 (.istore_n 2) 55 := ⟨rfl, rfl, rfl⟩
theorem z121_55 : za 121 55 (.iload_n 2) 56 := ⟨rfl, rfl, rfl⟩
theorem z121_56 : za 121 56 (.aload_n 0) 57 := ⟨rfl, rfl, rfl⟩
theorem z121_57 : za_v 121 57 80 0 5 60 := ⟨96, ⟨rfl, rfl, rfl⟩, rfl⟩
theorem z121_60 : zb (.if_icmp .ge) 121 60 160 63 := ⟨100, ⟨rfl, rfl, rfl⟩, rfl⟩
theorem z121_63 : za 121 63 (.aload_n 0) 64 := ⟨rfl, rfl, rfl⟩
theorem z121_64 : za_f 121 64 5 17 67 := ⟨48, 9, .null, ⟨rfl, rfl, rfl⟩, rfl, Or.inr (Or.inr rfl)⟩
theorem z121_67 : za 121 67 (.bipush (52)) 69 := ⟨rfl, rfl, rfl⟩
theorem z121_69 : za 121 69 (.iload_n 1) 70 := ⟨rfl, rfl, rfl⟩
theorem z121_70 : za 121 70 (.imul) 71 := ⟨rfl, rfl, rfl⟩
theorem z121_71 : za 121 71 (.iload_n 2) 72 := ⟨rfl, rfl, rfl⟩
theorem z121_72 : za 121 72 (.iadd) 73 := ⟨rfl, rfl, rfl⟩
theorem z121_73 : za 121 73 (.iaload) 74 := ⟨rfl, rfl, rfl⟩
theorem z121_74 : za 121 74 (.istore_n 3) 75 := ⟨rfl, rfl, rfl⟩
theorem z121_75 : za 121 75 (.iload_n 3) 76 := ⟨rfl, rfl, rfl⟩
theorem z121_76 : za 121 76 (.iconst 1) 77 := ⟨rfl, rfl, rfl⟩
theorem z121_77 : zb (.if_icmp .ne) 121 77 94 80 := ⟨17, ⟨rfl, rfl, rfl⟩, rfl⟩
theorem z121_80 : za 121 80 (.aload_n 0) 81 := ⟨rfl, rfl, rfl⟩
theorem z121_81 : za_f 121 81 5 25 84 := ⟨60, 9, .null, ⟨rfl, rfl, rfl⟩, rfl, Or.inr (Or.inr rfl)⟩
theorem z121_84 : za 121 84 (.aload_n 0) 85 := ⟨rfl, rfl, rfl⟩
theorem z121_85 : za 121 85 (.iload_n 2) 86 := ⟨rfl, rfl, rfl⟩
theorem z121_86 : za_v 121 86 81 1 5 89 := ⟨79, ⟨rfl, rfl, rfl⟩, rfl⟩
theorem z121_89 : za 121 89 (.dup2) 90 := ⟨rfl, rfl, rfl⟩
theorem z121_90 : za 121 90 (.iaload) 91 := ⟨rfl, rfl, rfl⟩
theorem z121_91 : za 121 91 (.iconst 1) 92 := ⟨rfl, rfl, rfl⟩
theorem z121_92 : za 121 92 (.iadd) 93 := ⟨rfl, rfl, rfl⟩
theorem z121_93 : za 121 93 (.iastore) 94 := ⟨rfl, rfl, rfl⟩
theorem z121_94 : za 121 94 (.aload_n 0) 95 := ⟨rfl, rfl, rfl⟩
theorem z121_95 : za 121 95 (.iload_n 3) 96 := ⟨rfl, rfl, rfl⟩
theorem z121_96 : za 121 96 (.iconst 2) 97 := ⟨rfl, rfl, rfl⟩
theorem z121_97 : zb (.if_icmp .ne) 121 97 109 100 := ⟨12, ⟨rfl, rfl, rfl⟩, rfl⟩
theorem z121_100 : za 121 100 (.aload_n 0) 101 := ⟨rfl, rfl, rfl⟩
theorem z121_101 : za_f 121 101 5 26 104 := ⟨179, 0, .null, ⟨rfl, rfl, rfl⟩, rfl, Or.inl rfl⟩
theorem z121_104 : za 121 104 (.iconst 1) 105 := ⟨rfl, rfl, rfl⟩
theorem z121_105 : za 121 105 (.iadd) 106 := ⟨rfl, rfl, rfl⟩
theorem z121_106 : zb (.goto) 121 106 113 109 := ⟨7, ⟨rfl, rfl, rfl⟩, rfl⟩
theorem z121_109 : za 121 109 (.aload_n 0) 110 := ⟨rfl, rfl, rfl⟩
theorem z121_110 : za_f 121 110 5 26 113 := ⟨179, 0, .null, ⟨rfl, rfl, rfl⟩, rfl, Or.inl rfl⟩
theorem z121_113 : za_p 121 113 5 26 116 := ⟨179, 0, .null, ⟨rfl, rfl, rfl⟩, rfl, Or.inl rfl⟩
theorem z121_116 : za 121 116 (.aload_n 0) 117 := ⟨rfl, rfl, rfl⟩
theorem z121_117 : za 121 117 (.iload_n 3) 118 := ⟨rfl, rfl, rfl⟩
theorem z121_118 : za 121 118 (.iconst 3) 119 := ⟨rfl, rfl, rfl⟩
theorem z121_119 : zb (.if_icmp .ne) 121 119 131 122 := ⟨12, ⟨rfl, rfl, rfl⟩, rfl⟩
theorem z121_122 : za 121 122 (.aload_n 0) 123 := ⟨rfl, rfl, rfl⟩
theorem z121_123 : za_f 121 123 5 27 126 := ⟨182, 0, .null, ⟨rfl, rfl, rfl⟩, rfl, Or.inl rfl⟩
theorem z121_126 : za 121 126 (.iconst 1) 127 := ⟨rfl, rfl, rfl⟩
theorem z121_127 : za 121 127 (.iadd) 128 := ⟨rfl, rfl, rfl⟩
theorem z121_128 : zb (.goto) 121 128 135 131 := ⟨7, ⟨rfl, rfl, rfl⟩, rfl⟩
theorem z121_131 : za 121 131 (.aload_n 0) 132 := ⟨rfl, rfl, rfl⟩
theorem z121_132 : za_f 121 132 5 27 135 := ⟨182, 0, .null, ⟨rfl, rfl, rfl⟩, rfl, Or.inl rfl⟩
theorem z121_135 : za_p 121 135 5 27 138 := ⟨182, 0, .null, ⟨rfl, rfl, rfl⟩, rfl, Or.inl rfl⟩
theorem z121_138 : za 121 138 (.iload_n 3) 139 := ⟨rfl, rfl, rfl⟩
theorem z121_139 : za 121 139 (.bipush (10)) 141 := ⟨rfl, rfl, rfl⟩
theorem z121_141 : zb (.if_icmp .lt) 121 141 154 144 := ⟨13, ⟨rfl, rfl, rfl⟩, rfl⟩
theorem z121_144 : za 121 144 (.aload_n 0) 145 := ⟨rfl, rfl, rfl⟩
theorem z121_145 : za_f 121 145 5 28 148 := ⟨63, 9, .null, ⟨rfl, rfl, rfl⟩, rfl, Or.inr (Or.inr rfl)⟩
theorem z121_148 : za 121 148 (.iload_n 3) 149 := ⟨rfl, rfl, rfl⟩
theorem z121_149 : za 121 149 (.bipush (10)) 151 := ⟨rfl, rfl, rfl⟩
theorem z121_151 : za 121 151 (.isub) 152 := ⟨rfl, rfl, rfl⟩
theorem z121_152 : za 121 152 (.iconst 1) 153 := ⟨rfl, rfl, rfl⟩
theorem z121_153 : za 121 153 (.bastore) 154 := ⟨rfl, rfl, rfl⟩
theorem z121_154 : za 121 154 (.iinc 2 (1)) 157 := ⟨rfl, rfl, rfl⟩
theorem z121_157 : zb (.goto) 121 157 55 160 := ⟨(-102), ⟨rfl, rfl, rfl⟩, rfl⟩
theorem z121_160 : za 121 160 (.return_) 161 := ⟨rfl, rfl, rfl⟩
theorem z122_0 : za 122 0 (.aload_n 0) 1 := ⟨rfl, rfl, rfl⟩
theorem z122_1 : za_f 122 1 5 17 4 := ⟨48, 9, .null, ⟨rfl, rfl, rfl⟩, rfl, Or.inr (Or.inr rfl)⟩
theorem z122_4 : za 122 4 (.bipush (52)) 6 := ⟨rfl, rfl, rfl⟩
theorem z122_6 : za 122 6 (.iload_n 1) 7 := ⟨rfl, rfl, rfl⟩
theorem z122_7 : za 122 7 (.imul) 8 := ⟨rfl, rfl, rfl⟩
theorem z122_8 : za 122 8 (.iload_n 2) 9 := ⟨rfl, rfl, rfl⟩
theorem z122_9 : za 122 9 (.iadd) 10 := ⟨rfl, rfl, rfl⟩
theorem z122_10 : za 122 10 (.iaload) 11 := ⟨rfl, rfl, rfl⟩
theorem z122_11 : za 122 11 (.istore 4) 13 := ⟨rfl, rfl, rfl⟩
theorem z122_13 : za 122 13 (.iload 4) 15 := ⟨rfl, rfl, rfl⟩
theorem z122_15 : za 122 15 (.iconst 1) 16 := ⟨rfl, rfl, rfl⟩
theorem z122_16 : zb (.if_icmp .eq) 122 16 34 19 := ⟨18, ⟨rfl, rfl, rfl⟩, rfl⟩
theorem z122_19 : za 122 19 (.aload_n 0) 20 := ⟨rfl, rfl, rfl⟩
theorem z122_20 : za_f 122 20 5 28 23 := ⟨63, 9, .null, ⟨rfl, rfl, rfl⟩, rfl, Or.inr (Or.inr rfl)⟩
theorem z122_23 : za 122 23 (.iload_n 2) 24 := ⟨rfl, rfl, rfl⟩
theorem z122_24 : za 122 24 (.baload) 25 := ⟨rfl, rfl, rfl⟩
theorem z122_25 : zb (.ifCond .ne) 122 25 34 28 := ⟨9, ⟨rfl, rfl, rfl⟩, rfl⟩
theorem z122_28 : za 122 28 (.iload 4) 30 := ⟨rfl, rfl, rfl⟩
theorem z122_30 : za 122 30 (.iload_n 3) 31 := ⟨rfl, rfl, rfl⟩
theorem z122_31 : zb (.if_icmp .ne) 122 31 36 34 := ⟨5, ⟨rfl, rfl, rfl⟩, rfl⟩
theorem z122_34 : za 122 34 (.iconst 0) 35 := ⟨rfl, rfl, rfl⟩
theorem z122_35 : za 122 35 (.ireturn) 36 := ⟨rfl, rfl, rfl⟩
theorem z122_36 : za 122 36 (.iload_n 3) 37 := ⟨rfl, rfl, rfl⟩
theorem z122_37 : za 122 37 (.iconst 1) 38 := ⟨rfl, rfl, rfl⟩
theorem z122_38 : zb (.if_icmp .ne) 122 38 67 41 := ⟨29, ⟨rfl, rfl, rfl⟩, rfl⟩
theorem z122_41 : za 122 41 (.aload_n 0) 42 := ⟨rfl, rfl, rfl⟩
theorem z122_42 : za_f 122 42 5 25 45 := ⟨60, 9, .null, ⟨rfl, rfl, rfl⟩, rfl, Or.inr (Or.inr rfl)⟩
theorem z122_45 : za 122 45 (.aload_n 0) 46 := ⟨rfl, rfl, rfl⟩
theorem z122_46 : za 122 46 (.iload_n 2) 47 := ⟨rfl, rfl, rfl⟩
theorem z122_47 : za_v 122 47 81 1 5 50 := ⟨79, ⟨rfl, rfl, rfl⟩, rfl⟩
theorem z122_50 : za 122 50 (.iaload) 51 := ⟨rfl, rfl, rfl⟩
theorem z122_51 : za 122 51 (.iconst 1) 52 := ⟨rfl, rfl, rfl⟩
theorem z122_52 : za 122 52 (.iadd) 53 := ⟨rfl, rfl, rfl⟩
theorem z122_53 : za 122 53 (.aload_n 0) 54 := ⟨rfl, rfl, rfl⟩
theorem z122_54 : za 122 54 (.iload_n 2) 55 := ⟨rfl, rfl, rfl⟩
theorem z122_55 : za_v 122 55 82 1 5 58 := ⟨72, ⟨rfl, rfl, rfl⟩, rfl⟩
theorem z122_58 : zb (.if_icmp .ne) 122 58 65 61 := ⟨7, ⟨rfl, rfl, rfl⟩, rfl⟩
theorem z122_61 : za 122 61 (.iconst 1) 62 := ⟨rfl, rfl, rfl⟩
theorem z122_62 : zb (.goto) 122 62 66 65 := ⟨4, ⟨rfl, rfl, rfl⟩, rfl⟩
theorem z122_65 : za 122 65 (.iconst 0) 66 := ⟨rfl, rfl, rfl⟩
theorem z122_66 : za 122 66 (.ireturn) 67 := ⟨rfl, rfl, rfl⟩
theorem z122_67 : za 122 67 (.iload_n 3) 68 := ⟨rfl, rfl, rfl⟩
theorem z122_68 : za 122 68 (.iconst 2) 69 := ⟨rfl, rfl, rfl⟩
theorem z122_69 : zb (.if_icmp .ne) 122 69 89 72 := ⟨20, ⟨rfl, rfl, rfl⟩, rfl⟩
theorem z122_72 : za 122 72 (.aload_n 0) 73 := ⟨rfl, rfl, rfl⟩
theorem z122_73 : za_f 122 73 5 26 76 := ⟨179, 0, .null, ⟨rfl, rfl, rfl⟩, rfl, Or.inl rfl⟩
theorem z122_76 : za 122 76 (.aload_n 0) 77 := ⟨rfl, rfl, rfl⟩
theorem z122_77 : za_f 122 77 5 2 80 := ⟨13, 0, .null, ⟨rfl, rfl, rfl⟩, rfl, Or.inl rfl⟩
theorem z122_80 : zb (.if_icmp .ge) 122 80 87 83 := ⟨7, ⟨rfl, rfl, rfl⟩, rfl⟩
theorem z122_83 : za 122 83 (.iconst 1) 84 := ⟨rfl, rfl, rfl⟩
theorem z122_84 : zb (.goto) 122 84 88 87 := ⟨4, ⟨rfl, rfl, rfl⟩, rfl⟩
theorem z122_87 : za 122 87 (.iconst 0) 88 := ⟨rfl, rfl, rfl⟩
theorem z122_88 : za 122 88 (.ireturn) 89 := ⟨rfl, rfl, rfl⟩
theorem z122_89 : za 122 89 (.iload_n 3) 90 := ⟨rfl, rfl, rfl⟩
theorem z122_90 : za 122 90 (.iconst 3) 91 := ⟨rfl, rfl, rfl⟩
theorem z122_91 : zb (.if_icmp .ne) 122 91 119 94 := ⟨28, ⟨rfl, rfl, rfl⟩, rfl⟩
theorem z122_94 : za 122 94 (.aload_n 0) 95 := ⟨rfl, rfl, rfl⟩
theorem z122_95 : za_f 122 95 5 27 98 := ⟨182, 0, .null, ⟨rfl, rfl, rfl⟩, rfl, Or.inl rfl⟩
theorem z122_98 : za 122 98 (.aload_n 0) 99 := ⟨rfl, rfl, rfl⟩
theorem z122_99 : za_f 122 99 5 1 102 := ⟨7, 0, .null, ⟨rfl, rfl, rfl⟩, rfl, Or.inl rfl⟩
theorem z122_102 : zb (.if_icmp .ge) 122 102 117 105 := ⟨15, ⟨rfl, rfl, rfl⟩, rfl⟩
theorem z122_105 : za 122 105 (.aload_n 0) 106 := ⟨rfl, rfl, rfl⟩
theorem z122_106 : za 122 106 (.iload_n 2) 107 := ⟨rfl, rfl, rfl⟩
theorem z122_107 : za_v 122 107 85 1 5 110 := ⟨125, ⟨rfl, rfl, rfl⟩, rfl⟩
theorem z122_110 : zb (.ifCond .eq) 122 110 117 113 := ⟨7, ⟨rfl, rfl, rfl⟩, rfl⟩
theorem z122_113 : za 122 113 (.iconst 1) 114 := ⟨rfl, rfl, rfl⟩
theorem z122_114 : zb (.goto) 122 114 118 117 := ⟨4, ⟨rfl, rfl, rfl⟩, rfl⟩
theorem z122_117 : za 122 117 (.iconst 0) 118 := ⟨rfl, rfl, rfl⟩
theorem z122_118 : za 122 118 (.ireturn) 119 := ⟨rfl, rfl, rfl⟩
theorem z122_119 : za 122 119 (.iload_n 3) 120 := ⟨rfl, rfl, rfl⟩
theorem z122_120 : za 122 120 (.bipush (10)) 122 := ⟨rfl, rfl, rfl⟩
theorem z122_122 : za 122 122 (.isub) 123 := ⟨rfl, rfl, rfl⟩
theorem z122_123 : za 122 123 (.istore 5) 125 := ⟨rfl, rfl, rfl⟩
theorem z122_125 : za 122 125 (.aload_n 0) 126 := ⟨rfl, rfl, rfl⟩
theorem z122_126 : za_f 122 126 5 17 129 := ⟨48, 9, .null, ⟨rfl, rfl, rfl⟩, rfl, Or.inr (Or.inr rfl)⟩
theorem z122_129 : za 122 129 (.bipush (52)) 131 := ⟨rfl, rfl, rfl⟩
theorem z122_131 : za 122 131 (.iload_n 1) 132 := ⟨rfl, rfl, rfl⟩
theorem z122_132 : za 122 132 (.imul) 133 := ⟨rfl, rfl, rfl⟩
theorem z122_133 : za 122 133 (.iload 5) 135 := ⟨rfl, rfl, rfl⟩
theorem z122_135 : za 122 135 (.iadd) 136 := ⟨rfl, rfl, rfl⟩
theorem z122_136 : za 122 136 (.iaload) 137 := ⟨rfl, rfl, rfl⟩
theorem z122_137 : za 122 137 (.iconst 3) 138 := ⟨rfl, rfl, rfl⟩
theorem z122_138 : zb (.if_icmp .lt) 122 138 165 141 := ⟨27, ⟨rfl, rfl, rfl⟩, rfl⟩
theorem z122_141 : za 122 141 (.aload_n 0) 142 := ⟨rfl, rfl, rfl⟩
theorem z122_142 : za_f 122 142 5 28 145 := ⟨63, 9, .null, ⟨rfl, rfl, rfl⟩, rfl, Or.inr (Or.inr rfl)⟩
theorem z122_145 : za 122 145 (.iload 5) 147 := ⟨rfl, rfl, rfl⟩
theorem z122_147 : za 122 147 (.baload) 148 := ⟨rfl, rfl, rfl⟩
theorem z122_148 : zb (.ifCond .ne) 122 148 165 151 := ⟨17, ⟨rfl, rfl, rfl⟩, rfl⟩
theorem z122_151 : za 122 151 (.aload_n 0) 152 := ⟨rfl, rfl, rfl⟩
theorem z122_152 : za 122 152 (.iload_n 2) 153 := ⟨rfl, rfl, rfl⟩
theorem z122_153 : za 122 153 (.iload 5) 155 := ⟨rfl, rfl, rfl⟩
theorem z122_155 : za_v 122 155 84 2 5 158 := ⟨128, ⟨rfl, rfl, rfl⟩, rfl⟩
theorem z122_158 : zb (.ifCond .eq) 122 158 165 161 := ⟨7, ⟨rfl, rfl, rfl⟩, rfl⟩
theorem z122_161 : za 122 161 (.iconst 1) 162 := ⟨rfl, rfl, rfl⟩
theorem z122_162 : zb (.goto) 122 162 166 165 := ⟨4, ⟨rfl, rfl, rfl⟩, rfl⟩
theorem z122_165 : za 122 165 (.iconst 0) 166 := ⟨rfl, rfl, rfl⟩
theorem z122_166 : za 122 166 (.ireturn) 167 := ⟨rfl, rfl, rfl⟩
theorem z123_0 : za 123 0 (.aload_n 0) 1 := ⟨rfl, rfl, rfl⟩
theorem z123_1 : za 123 1 (.iconst 1) 2 := ⟨rfl, rfl, rfl⟩
theorem z123_2 : za_p 123 2 5 24 5 := ⟨185, 0, .null, ⟨rfl, rfl, rfl⟩, rfl, Or.inl rfl⟩
theorem z123_5 : za 123 5 (.iconst 0) 6 := ⟨rfl, rfl, rfl⟩
theorem z123_6 : za 123 6 (.istore 4) 8 := ⟨rfl, rfl, rfl⟩
theorem z123_8 : za 123 8 (.iload 4) 10 := ⟨rfl, rfl, rfl⟩
theorem z123_10 : za 123 10 (.bipush (52)) 12 := ⟨rfl, rfl, rfl⟩
theorem z123_12 : zb (.if_icmp .ge) 123 12 89 15 := ⟨77, ⟨rfl, rfl, rfl⟩, rfl⟩
theorem z123_15 : za 123 15 (.iload 4) 17 := ⟨rfl, rfl, rfl⟩
theorem z123_17 : za 123 17 (.iload_n 2) 18 := ⟨rfl, rfl, rfl⟩
theorem z123_18 : zb (.if_icmp .ne) 123 18 25 21 := ⟨7, ⟨rfl, rfl, rfl⟩, rfl⟩
theorem z123_21 : za 123 21 (.iload_n 3) 22 := ⟨rfl, rfl, rfl⟩
theorem z123_22 : zb (.goto) 123 22 37 25 := ⟨15, ⟨rfl, rfl, rfl⟩, rfl⟩
theorem z123_25 : za 123 25 (.aload_n 0) 26 := ⟨rfl, rfl, rfl⟩
theorem z123_26 : za_f 123 26 5 17 29 := ⟨48, 9, .null, ⟨rfl, rfl, rfl⟩, rfl, Or.inr (Or.inr rfl)⟩
theorem z123_29 : za 123 29 (.bipush (52)) 31 := ⟨rfl, rfl, rfl⟩
theorem z123_31 : za 123 31 (.iload_n 1) 32 := ⟨rfl, rfl, rfl⟩
theorem z123_32 : za 123 32 (.imul) 33 := ⟨rfl, rfl, rfl⟩
theorem z123_33 : za 123 33 (.iload 4) 35 := ⟨rfl, rfl, rfl⟩
theorem z123_35 : za 123 35 (.iadd) 36 := ⟨rfl, rfl, rfl⟩
theorem z123_36 : za 123 36 (.iaload) 37 := ⟨rfl, rfl, rfl⟩
theorem z123_37 : za 123 37 (.istore 5) 39 := ⟨rfl, rfl, rfl⟩
theorem z123_39 : za 123 39 (.aload_n 0) 40 := ⟨rfl, rfl, rfl⟩
theorem z123_40 : za_f 123 40 5 17 43 := ⟨48, 9, .null, ⟨rfl, rfl, rfl⟩, rfl, Or.inr (Or.inr rfl)⟩
theorem z123_43 : za 123 43 (.bipush (52)) 45 := ⟨rfl, rfl, rfl⟩
theorem z123_45 : za 123 45 (.aload_n 0) 46 := ⟨rfl, rfl, rfl⟩
theorem z123_46 : za_f 123 46 5 21 49 := ⟨189, 0, .null, ⟨rfl, rfl, rfl⟩, rfl, Or.inl rfl⟩
theorem z123_49 : za 123 49 (.imul) 50 := ⟨rfl, rfl, rfl⟩
theorem z123_50 : za 123 50 (.iload 4) 52 := ⟨rfl, rfl, rfl⟩
theorem z123_52 : za 123 52 (.iadd) 53 := ⟨rfl, rfl, rfl⟩
theorem z123_53 : za 123 53 (.iload 5) 55 := ⟨rfl, rfl, rfl⟩
theorem z123_55 : za 123 55 (.iastore) 56 := ⟨rfl, rfl, rfl⟩
theorem z123_56 : za 123 56 (.aload_n 0) 57 := ⟨rfl, rfl, rfl⟩
theorem z123_57 : za 123 57 (.aload_n 0) 58 := ⟨rfl, rfl, rfl⟩
theorem z123_58 : za_f 123 58 5 24 61 := ⟨185, 0, .null, ⟨rfl, rfl, rfl⟩, rfl, Or.inl rfl⟩
theorem z123_61 : zb (.ifCond .eq) 123 61 79 64 := ⟨18, ⟨rfl, rfl, rfl⟩, rfl⟩
theorem z123_64 : za 123 64 (.iload 5) 66 := ⟨rfl, rfl, rfl⟩
theorem z123_66 : za 123 66 (.iconst 1) 67 := ⟨rfl, rfl, rfl⟩
theorem z123_67 : zb (.if_icmp .eq) 123 67 75 70 := ⟨8, ⟨rfl, rfl, rfl⟩, rfl⟩
theorem z123_70 : za 123 70 (.iload 5) 72 := ⟨rfl, rfl, rfl⟩
theorem z123_72 : zb (.ifCond .ne) 123 72 79 75 := ⟨7, ⟨rfl, rfl, rfl⟩, rfl⟩
theorem z123_75 : za 123 75 (.iconst 1) 76 := ⟨rfl, rfl, rfl⟩
theorem z123_76 : zb (.goto) 123 76 80 79 := ⟨4, ⟨rfl, rfl, rfl⟩, rfl⟩
theorem z123_79 : za 123 79 (.iconst 0) 80 := ⟨rfl, rfl, rfl⟩
theorem z123_80 : za_p 123 80 5 24 83 := ⟨185, 0, .null, ⟨rfl, rfl, rfl⟩, rfl, Or.inl rfl⟩
theorem z123_83 : za 123 83 (.iinc 4 (1)) 86 := ⟨rfl, rfl, rfl⟩
theorem z123_86 : zb (.goto) 123 86 8 89 := ⟨(-78), ⟨rfl, rfl, rfl⟩, rfl⟩
theorem z123_89 : za 123 89 (.aload_n 0) 90 := ⟨rfl, rfl, rfl⟩
theorem z123_90 : za_f 123 90 5 18 93 := ⟨51, 9, .null, ⟨rfl, rfl, rfl⟩, rfl, Or.inr (Or.inr rfl)⟩
theorem z123_93 : za 123 93 (.aload_n 0) 94 := ⟨rfl, rfl, rfl⟩
theorem z123_94 : za_f 123 94 5 21 97 := ⟨189, 0, .null, ⟨rfl, rfl, rfl⟩, rfl, Or.inl rfl⟩
theorem z123_97 : za 123 97 (.aload_n 0) 98 := ⟨rfl, rfl, rfl⟩
theorem z123_98 : za 123 98 (.aload_n 0) 99 := ⟨rfl, rfl, rfl⟩
theorem z123_99 : za_f 123 99 5 21 102 := ⟨189, 0, .null, ⟨rfl, rfl, rfl⟩, rfl, Or.inl rfl⟩
theorem z123_102 : za_v 123 102 120 1 5 105 := ⟨192, ⟨rfl, rfl, rfl⟩, rfl⟩
theorem z123_105 : za 123 105 (.iastore) 106 := ⟨rfl, rfl, rfl⟩
theorem z123_106 : za 123 106 (.iconst 0) 107 := ⟨rfl, rfl, rfl⟩
theorem z123_107 : za 123 107 (.istore 4) 109 := ⟨rfl, rfl, rfl⟩
theorem z123_109 : za 123 109 (.iconst 0) 110 := ⟨rfl, rfl, rfl⟩
theorem z123_110 : za 123 110 (.istore 5) 112 := ⟨rfl, rfl, rfl⟩
theorem z123_112 : za 123 112 (.iload 4) 114 := ⟨rfl, rfl, rfl⟩
theorem z123_114 : za 123 114 (.aload_n 0) 115 := ⟨rfl, rfl, rfl⟩
theorem z123_115 : za_f 123 115 5 21 118 := ⟨189, 0, .null, ⟨rfl, rfl, rfl⟩, rfl, Or.inl rfl⟩
theorem z123_118 : zb (.if_icmp .ge) 123 118 230 121 := ⟨112, ⟨rfl, rfl, rfl⟩, rfl⟩
theorem z123_121 : za 123 121 (.iload 5) 123 := ⟨rfl, rfl, rfl⟩
theorem z123_123 : zb (.ifCond .ne) 123 123 230 126 := ⟨107, ⟨rfl, rfl, rfl⟩, rfl⟩
theorem z123_126 : za 123 126 (.aload_n 0) 127 := ⟨rfl, rfl, rfl⟩
theorem z123_127 : za_f 123 127 5 18 130 := ⟨51, 9, .null, ⟨rfl, rfl, rfl⟩, rfl, Or.inr (Or.inr rfl)⟩
theorem z123_130 : za 123 130 (.iload 4) 132 := ⟨rfl, rfl, rfl⟩
theorem z123_132 : za 123 132 (.iaload) 133 := ⟨rfl, rfl, rfl⟩
theorem z123_133 : za 123 133 (.aload_n 0) 134 := ⟨rfl, rfl, rfl⟩
theorem z123_134 : za_f 123 134 5 18 137 := ⟨51, 9, .null, ⟨rfl, rfl, rfl⟩, rfl, Or.inr (Or.inr rfl)⟩
theorem z123_137 : za 123 137 (.aload_n 0) 138 := ⟨rfl, rfl, rfl⟩
theorem z123_138 : za_f 123 138 5 21 141 := ⟨189, 0, .null, ⟨rfl, rfl, rfl⟩, rfl, Or.inl rfl⟩
theorem z123_141 : za 123 141 (.iaload) 142 := ⟨rfl, rfl, rfl⟩
theorem z123_142 : zb (.if_icmp .ne) 123 142 149 145 := ⟨7, ⟨rfl, rfl, rfl⟩, rfl⟩
theorem z123_145 : za 123 145 (.iconst 1) 146 := ⟨rfl, rfl, rfl⟩
theorem z123_146 : zb (.goto) 123 146 150 149 := ⟨4, ⟨rfl, rfl, rfl⟩, rfl⟩
theorem z123_149 : za 123 149 (.iconst 0) 150 := ⟨rfl, rfl, rfl⟩
theorem z123_150 : za 123 150 (.istore 5) 152 := ⟨rfl, rfl, rfl⟩
theorem z123_152 : za 123 152 (.iconst 0) 153 := ⟨rfl, rfl, rfl⟩
theorem z123_153 : za 123 153 (.istore 6) 155 := ⟨rfl, rfl, rfl⟩
theorem z123_155 : za 123 155 (.iload 6) 157 := ⟨rfl, rfl, rfl⟩
theorem z123_157 : za 123 157 (.bipush (52)) 159 := ⟨rfl, rfl, rfl⟩
theorem z123_159 : zb (.if_icmp .ge) 123 159 211 162 := ⟨52, ⟨rfl, rfl, rfl⟩, rfl⟩
theorem z123_162 : za 123 162 (.iload 5) 164 := ⟨rfl, rfl, rfl⟩
theorem z123_164 : zb (.ifCond .eq) 123 164 211 167 := ⟨47, ⟨rfl, rfl, rfl⟩, rfl⟩
theorem z123_167 : za 123 167 (.aload_n 0) 168 := ⟨rfl, rfl, rfl⟩
theorem z123_168 : za_f 123 168 5 17 171 := ⟨48, 9, .null, ⟨rfl, rfl, rfl⟩, rfl, Or.inr (Or.inr rfl)⟩
theorem z123_171 : za 123 171 (.bipush (52)) 173 := ⟨rfl, rfl, rfl⟩
theorem z123_173 : za 123 173 (.iload 4) 175 := ⟨rfl, rfl, rfl⟩
theorem z123_175 : za 123 175 (.imul) 176 := ⟨rfl, rfl, rfl⟩
theorem z123_176 : za 123 176 (.iload 6) 178 := ⟨rfl, rfl, rfl⟩
theorem z123_178 : za 123 178 (.iadd) 179 := ⟨rfl, rfl, rfl⟩
theorem z123_179 : za 123 179 (.iaload) 180 := ⟨rfl, rfl, rfl⟩
theorem z123_180 : za 123 180 (.aload_n 0) 181 := ⟨rfl, rfl, rfl⟩
theorem z123_181 : za_f 123 181 5 17 184 := ⟨48, 9, .null, ⟨rfl, rfl, rfl⟩, rfl, Or.inr (Or.inr rfl)⟩
theorem z123_184 : za 123 184 (.bipush (52)) 186 := ⟨rfl, rfl, rfl⟩
theorem z123_186 : za 123 186 (.aload_n 0) 187 := ⟨rfl, rfl, rfl⟩
theorem z123_187 : za_f 123 187 5 21 190 := ⟨189, 0, .null, ⟨rfl, rfl, rfl⟩, rfl, Or.inl rfl⟩
theorem z123_190 : za 123 190 (.imul) 191 := ⟨rfl, rfl, rfl⟩
theorem z123_191 : za 123 191 (.iload 6) 193 := ⟨rfl, rfl, rfl⟩
theorem z123_193 : za 123 193 (.iadd) 194 := ⟨rfl, rfl, rfl⟩
theorem z123_194 : za 123 194 (.iaload) 195 := ⟨rfl, rfl, rfl⟩
theorem z123_195 : zb (.if_icmp .ne) 123 195 202 198 := ⟨7, ⟨rfl, rfl, rfl⟩, rfl⟩
theorem z123_198 : za 123 198 (.iconst 1) 199 := ⟨rfl, rfl, rfl⟩
theorem z123_199 : zb (.goto) 123 199 203 202 := ⟨4, ⟨rfl, rfl, rfl⟩, rfl⟩
set_option maxRecDepth 20000 in
theorem z123_202 : za 123 202 (.iconst 0) 203 := ⟨rfl, rfl, rfl⟩
set_option maxRecDepth 20000 in
theorem z123_203 : za 123 203 (.istore 5) 205 := ⟨rfl, rfl, rfl⟩
set_option maxRecDepth 20000 in
theorem z123_205 : za 123 205 (.iinc 6 (1)) 208 := ⟨rfl, rfl, rfl⟩
set_option maxRecDepth 20000 in
theorem z123_208 : zb (.goto) 123 208 155 211 := ⟨(-53), ⟨rfl, rfl, rfl⟩, rfl⟩
set_option maxRecDepth 20000 in
theorem z123_211 : za 123 211 (.iload 5) 213 := ⟨rfl, rfl, rfl⟩
set_option maxRecDepth 20000 in
theorem z123_213 : zb (.ifCond .eq) 123 213 221 216 := ⟨8, ⟨rfl, rfl, rfl⟩, rfl⟩
set_option maxRecDepth 20000 in
theorem z123_216 : za 123 216 (.iload 4) 218 := ⟨rfl, rfl, rfl⟩
set_option maxRecDepth 20000 in
theorem z123_218 : zb (.goto) 123 218 225 221 := ⟨7, ⟨rfl, rfl, rfl⟩, rfl⟩
set_option maxRecDepth 20000 in
theorem z123_221 : za 123 221 (.iload 4) 223 := ⟨rfl, rfl, rfl⟩
set_option maxRecDepth 20000 in
theorem z123_223 : za 123 223 (.iconst 1) 224 := ⟨rfl, rfl, rfl⟩
set_option maxRecDepth 20000 in
theorem z123_224 : za 123 224 (.iadd) 225 := ⟨rfl, rfl, rfl⟩
set_option maxRecDepth 20000 in
theorem z123_225 : za 123 225 (.istore 4) 227 := ⟨rfl, rfl, rfl⟩
set_option maxRecDepth 20000 in
theorem z123_227 : zb (.goto) 123 227 112 230 := ⟨(-115), ⟨rfl, rfl, rfl⟩, rfl⟩
set_option maxRecDepth 20000 in
theorem z123_230 : za 123 230 (.iload 4) 232 := ⟨rfl, rfl, rfl⟩
set_option maxRecDepth 20000 in
theorem z123_232 : za 123 232 (.ireturn) 233 := ⟨rfl, rfl, rfl⟩
theorem z124_0 : za 124 0 (.iload_n 0) 1 := ⟨rfl, rfl, rfl⟩
theorem z124_1 : za 124 1 (.iconst 3) 2 := ⟨rfl, rfl, rfl⟩
theorem z124_2 : zb (.if_icmp .ne) 124 2 10 5 := ⟨8, ⟨rfl, rfl, rfl⟩, rfl⟩
theorem z124_5 : za 124 5 (.bipush (10)) 7 := ⟨rfl, rfl, rfl⟩
theorem z124_7 : zb (.goto) 124 7 13 10 := ⟨6, ⟨rfl, rfl, rfl⟩, rfl⟩
theorem z124_10 : za 124 10 (.iload_n 0) 11 := ⟨rfl, rfl, rfl⟩
theorem z124_11 : za 124 11 (.iconst 1) 12 := ⟨rfl, rfl, rfl⟩
theorem z124_12 : za 124 12 (.iadd) 13 := ⟨rfl, rfl, rfl⟩
theorem z124_13 : za 124 13 (.ireturn) 14 := ⟨rfl, rfl, rfl⟩
theorem z125_0 : za 125 0 (.iconst 0) 1 := ⟨rfl, rfl, rfl⟩
theorem z125_1 : za 125 1 (.istore_n 3) 2 := ⟨rfl, rfl, rfl⟩
theorem z125_2 : za 125 2 (.aload_n 0) 3 := ⟨rfl, rfl, rfl⟩
theorem z125_3 : za 125 3 (.iload_n 1) 4 := ⟨rfl, rfl, rfl⟩
theorem z125_4 : za_v 125 4 121 1 5 7 := ⟨195, ⟨rfl, rfl, rfl⟩, rfl⟩
theorem z125_7 : za 125 7 (.iconst 0) 8 := ⟨rfl, rfl, rfl⟩
theorem z125_8 : za 125 8 (.istore 4) 10 := ⟨rfl, rfl, rfl⟩
theorem z125_10 : za 125 10 (.iload 4) 12 := ⟨rfl, rfl, rfl⟩
theorem z125_12 : za 125 12 (.aload_n 0) 13 := ⟨rfl, rfl, rfl⟩
theorem z125_13 : za_v 125 13 80 0 5 16 := ⟨96, ⟨rfl, rfl, rfl⟩, rfl⟩
theorem z125_16 : zb (.if_icmp .ge) 125 16 154 19 := ⟨138, ⟨rfl, rfl, rfl⟩, rfl⟩
theorem z125_19 : za 125 19 (.iconst 1) 20 := ⟨rfl, rfl, rfl⟩
theorem z125_20 : za 125 20 (.istore 5) 22 := ⟨rfl, rfl, rfl⟩
theorem z125_22 : za 125 22 (.iload 5) 24 := ⟨rfl, rfl, rfl⟩
theorem z125_24 : za 125 24 (.bipush (10)) 26 := ⟨rfl, rfl, rfl⟩
theorem z125_26 : za 125 26 (.aload_n 0) 27 := ⟨rfl, rfl, rfl⟩
theorem z125_27 : za_v 125 27 80 0 5 30 := ⟨96, ⟨rfl, rfl, rfl⟩, rfl⟩
theorem z125_30 : za 125 30 (.iadd) 31 := ⟨rfl, rfl, rfl⟩
theorem z125_31 : zb (.if_icmp .ge) 125 31 148 34 := ⟨117, ⟨rfl, rfl, rfl⟩, rfl⟩
theorem z125_34 : za 125 34 (.aload_n 0) 35 := ⟨rfl, rfl, rfl⟩
theorem z125_35 : za 125 35 (.iload_n 1) 36 := ⟨rfl, rfl, rfl⟩
theorem z125_36 : za 125 36 (.iload 4) 38 := ⟨rfl, rfl, rfl⟩
theorem z125_38 : za 125 38 (.iload 5) 40 := ⟨rfl, rfl, rfl⟩
theorem z125_40 : za_v 125 40 122 3 5 43 := ⟨199, ⟨rfl, rfl, rfl⟩, rfl⟩
theorem z125_43 : zb (.ifCond .eq) 125 43 138 46 := ⟨95, ⟨rfl, rfl, rfl⟩, rfl⟩
theorem z125_46 : za 125 46 (.aload_n 0) 47 := ⟨rfl, rfl, rfl⟩
theorem z125_47 : za 125 47 (.iload_n 1) 48 := ⟨rfl, rfl, rfl⟩
theorem z125_48 : za 125 48 (.iload 4) 50 := ⟨rfl, rfl, rfl⟩
theorem z125_50 : za 125 50 (.iload 5) 52 := ⟨rfl, rfl, rfl⟩
theorem z125_52 : za_v 125 52 123 3 5 55 := ⟨202, ⟨rfl, rfl, rfl⟩, rfl⟩
theorem z125_55 : za 125 55 (.aload_n 0) 56 := ⟨rfl, rfl, rfl⟩
theorem z125_56 : za_f 125 56 5 21 59 := ⟨189, 0, .null, ⟨rfl, rfl, rfl⟩, rfl, Or.inl rfl⟩
theorem z125_59 : zb (.if_icmp .ne) 125 59 138 62 := ⟨79, ⟨rfl, rfl, rfl⟩, rfl⟩
theorem z125_62 : za 125 62 (.iload_n 3) 63 := ⟨rfl, rfl, rfl⟩
theorem z125_63 : zb (.ifCond .ne) 125 63 73 66 := ⟨10, ⟨rfl, rfl, rfl⟩, rfl⟩
theorem z125_66 : za 125 66 (.aload_n 0) 67 := ⟨rfl, rfl, rfl⟩
theorem z125_67 : za_f 125 67 5 24 70 := ⟨185, 0, .null, ⟨rfl, rfl, rfl⟩, rfl, Or.inl rfl⟩
theorem z125_70 : zb (.ifCond .eq) 125 70 77 73 := ⟨7, ⟨rfl, rfl, rfl⟩, rfl⟩
theorem z125_73 : za 125 73 (.iconst 1) 74 := ⟨rfl, rfl, rfl⟩
theorem z125_74 : zb (.goto) 125 74 78 77 := ⟨4, ⟨rfl, rfl, rfl⟩, rfl⟩
theorem z125_77 : za 125 77 (.iconst 0) 78 := ⟨rfl, rfl, rfl⟩
theorem z125_78 : za 125 78 (.istore_n 3) 79 := ⟨rfl, rfl, rfl⟩
theorem z125_79 : za 125 79 (.aload_n 0) 80 := ⟨rfl, rfl, rfl⟩
theorem z125_80 : za 125 80 (.aload_n 0) 81 := ⟨rfl, rfl, rfl⟩
theorem z125_81 : za_f 125 81 5 23 84 := ⟨206, 0, .null, ⟨rfl, rfl, rfl⟩, rfl, Or.inl rfl⟩
theorem z125_84 : zb (.ifCond .ne) 125 84 95 87 := ⟨11, ⟨rfl, rfl, rfl⟩, rfl⟩
theorem z125_87 : za 125 87 (.aload_n 0) 88 := ⟨rfl, rfl, rfl⟩
theorem z125_88 : za_f 125 88 5 21 91 := ⟨189, 0, .null, ⟨rfl, rfl, rfl⟩, rfl, Or.inl rfl⟩
theorem z125_91 : za 125 91 (.iload_n 2) 92 := ⟨rfl, rfl, rfl⟩
theorem z125_92 : zb (.if_icmp .lt) 125 92 99 95 := ⟨7, ⟨rfl, rfl, rfl⟩, rfl⟩
theorem z125_95 : za 125 95 (.iconst 1) 96 := ⟨rfl, rfl, rfl⟩
theorem z125_96 : zb (.goto) 125 96 100 99 := ⟨4, ⟨rfl, rfl, rfl⟩, rfl⟩
theorem z125_99 : za 125 99 (.iconst 0) 100 := ⟨rfl, rfl, rfl⟩
theorem z125_100 : za_p 125 100 5 23 103 := ⟨206, 0, .null, ⟨rfl, rfl, rfl⟩, rfl, Or.inl rfl⟩
theorem z125_103 : za 125 103 (.aload_n 0) 104 := ⟨rfl, rfl, rfl⟩
theorem z125_104 : za_f 125 104 5 19 107 := ⟨54, 9, .null, ⟨rfl, rfl, rfl⟩, rfl, Or.inr (Or.inr rfl)⟩
theorem z125_107 : za 125 107 (.aload_n 0) 108 := ⟨rfl, rfl, rfl⟩
theorem z125_108 : za_f 125 108 5 21 111 := ⟨189, 0, .null, ⟨rfl, rfl, rfl⟩, rfl, Or.inl rfl⟩
theorem z125_111 : za 125 111 (.iconst 0) 112 := ⟨rfl, rfl, rfl⟩
theorem z125_112 : za 125 112 (.bastore) 113 := ⟨rfl, rfl, rfl⟩
theorem z125_113 : za 125 113 (.aload_n 0) 114 := ⟨rfl, rfl, rfl⟩
theorem z125_114 : za 125 114 (.aload_n 0) 115 := ⟨rfl, rfl, rfl⟩
theorem z125_115 : za_f 125 115 5 21 118 := ⟨189, 0, .null, ⟨rfl, rfl, rfl⟩, rfl, Or.inl rfl⟩
theorem z125_118 : za 125 118 (.iload_n 2) 119 := ⟨rfl, rfl, rfl⟩
theorem z125_119 : zb (.if_icmp .ge) 125 119 131 122 := ⟨12, ⟨rfl, rfl, rfl⟩, rfl⟩
theorem z125_122 : za 125 122 (.aload_n 0) 123 := ⟨rfl, rfl, rfl⟩
theorem z125_123 : za_f 125 123 5 21 126 := ⟨189, 0, .null, ⟨rfl, rfl, rfl⟩, rfl, Or.inl rfl⟩
theorem z125_126 : za 125 126 (.iconst 1) 127 := ⟨rfl, rfl, rfl⟩
theorem z125_127 : za 125 127 (.iadd) 128 := ⟨rfl, rfl, rfl⟩
theorem z125_128 : zb (.goto) 125 128 135 131 := ⟨7, ⟨rfl, rfl, rfl⟩, rfl⟩
theorem z125_131 : za 125 131 (.aload_n 0) 132 := ⟨rfl, rfl, rfl⟩
theorem z125_132 : za_f 125 132 5 21 135 := ⟨189, 0, .null, ⟨rfl, rfl, rfl⟩, rfl, Or.inl rfl⟩
theorem z125_135 : za_p 125 135 5 21 138 := ⟨189, 0, .null, ⟨rfl, rfl, rfl⟩, rfl, Or.inl rfl⟩
theorem z125_138 : za 125 138 (.iload 5) 140 := ⟨rfl, rfl, rfl⟩
theorem z125_140 : za_s 125 140 124 1 143 := ⟨209, .null, ⟨rfl, rfl, rfl⟩, rfl⟩
theorem z125_143 : za 125 143 (.istore 5) 145 := ⟨rfl, rfl, rfl⟩
theorem z125_145 : zb (.goto) 125 145 22 148 := ⟨(-123), ⟨rfl, rfl, rfl⟩, rfl⟩
theorem z125_148 : za 125 148 (.iinc 4 (1)) 151 := ⟨rfl, rfl, rfl⟩
theorem z125_151 : zb (.goto) 125 151 10 154 := ⟨(-141), ⟨rfl, rfl, rfl⟩, rfl⟩
theorem z125_154 : za 125 154 (.iload_n 3) 155 := ⟨rfl, rfl, rfl⟩
theorem z125_155 : za 125 155 (.ireturn) 156 := ⟨rfl, rfl, rfl⟩
theorem z126_0 : za 126 0 (.aload_n 0) 1 := ⟨rfl, rfl, rfl⟩
theorem z126_1 : za 126 1 (.iload_n 1) 2 := ⟨rfl, rfl, rfl⟩
theorem z126_2 : za 126 2 (.iload_n 2) 3 := ⟨rfl, rfl, rfl⟩
theorem z126_3 : za 126 3 (.iload_n 3) 4 := ⟨rfl, rfl, rfl⟩
theorem z126_4 : za_v 126 4 122 3 5 7 := ⟨199, ⟨rfl, rfl, rfl⟩, rfl⟩
theorem z126_7 : zb (.ifCond .ne) 126 7 12 10 := ⟨5, ⟨rfl, rfl, rfl⟩, rfl⟩
theorem z126_10 : za 126 10 (.iconst 0) 11 := ⟨rfl, rfl, rfl⟩
theorem z126_11 : za 126 11 (.ireturn) 12 := ⟨rfl, rfl, rfl⟩
theorem z126_12 : za 126 12 (.aload_n 0) 13 := ⟨rfl, rfl, rfl⟩
theorem z126_13 : za 126 13 (.iload_n 1) 14 := ⟨rfl, rfl, rfl⟩
theorem z126_14 : za 126 14 (.iload_n 2) 15 := ⟨rfl, rfl, rfl⟩
theorem z126_15 : za 126 15 (.iload_n 3) 16 := ⟨rfl, rfl, rfl⟩
theorem z126_16 : za_v 126 16 123 3 5 19 := ⟨202, ⟨rfl, rfl, rfl⟩, rfl⟩
theorem z126_19 : za 126 19 (.istore 5) 21 := ⟨rfl, rfl, rfl⟩
theorem z126_21 : za 126 21 (.iload 4) 23 := ⟨rfl, rfl, rfl⟩
theorem z126_23 : za 126 23 (.aload_n 0) 24 := ⟨rfl, rfl, rfl⟩
theorem z126_24 : za_f 126 24 5 22 27 := ⟨212, 0, .null, ⟨rfl, rfl, rfl⟩, rfl, Or.inl rfl⟩
theorem z126_27 : za 126 27 (.iconst 1) 28 := ⟨rfl, rfl, rfl⟩
theorem z126_28 : za 126 28 (.isub) 29 := ⟨rfl, rfl, rfl⟩
theorem z126_29 : zb (.if_icmp .ne) 126 29 39 32 := ⟨10, ⟨rfl, rfl, rfl⟩, rfl⟩
theorem z126_32 : za 126 32 (.aload_n 0) 33 := ⟨rfl, rfl, rfl⟩
theorem z126_33 : za_f 126 33 5 24 36 := ⟨185, 0, .null, ⟨rfl, rfl, rfl⟩, rfl, Or.inl rfl⟩
theorem z126_36 : zb (.goto) 126 36 77 39 := ⟨41, ⟨rfl, rfl, rfl⟩, rfl⟩
theorem z126_39 : za 126 39 (.iload 5) 41 := ⟨rfl, rfl, rfl⟩
theorem z126_41 : za 126 41 (.aload_n 0) 42 := ⟨rfl, rfl, rfl⟩
theorem z126_42 : za_f 126 42 5 20 45 := ⟨57, 9, .null, ⟨rfl, rfl, rfl⟩, rfl, Or.inr (Or.inr rfl)⟩
theorem z126_45 : za 126 45 (.iload 4) 47 := ⟨rfl, rfl, rfl⟩
theorem z126_47 : za 126 47 (.iconst 1) 48 := ⟨rfl, rfl, rfl⟩
theorem z126_48 : za 126 48 (.iadd) 49 := ⟨rfl, rfl, rfl⟩
theorem z126_49 : za 126 49 (.iaload) 50 := ⟨rfl, rfl, rfl⟩
theorem z126_50 : zb (.if_icmp .lt) 126 50 76 53 := ⟨26, ⟨rfl, rfl, rfl⟩, rfl⟩
theorem z126_53 : za 126 53 (.iload 5) 55 := ⟨rfl, rfl, rfl⟩
theorem z126_55 : za 126 55 (.aload_n 0) 56 := ⟨rfl, rfl, rfl⟩
theorem z126_56 : za_f 126 56 5 21 59 := ⟨189, 0, .null, ⟨rfl, rfl, rfl⟩, rfl, Or.inl rfl⟩
theorem z126_59 : zb (.if_icmp .ge) 126 59 76 62 := ⟨17, ⟨rfl, rfl, rfl⟩, rfl⟩
theorem z126_62 : za 126 62 (.aload_n 0) 63 := ⟨rfl, rfl, rfl⟩
theorem z126_63 : za_f 126 63 5 19 66 := ⟨54, 9, .null, ⟨rfl, rfl, rfl⟩, rfl, Or.inr (Or.inr rfl)⟩
theorem z126_66 : za 126 66 (.iload 5) 68 := ⟨rfl, rfl, rfl⟩
theorem z126_68 : za 126 68 (.baload) 69 := ⟨rfl, rfl, rfl⟩
theorem z126_69 : zb (.ifCond .eq) 126 69 76 72 := ⟨7, ⟨rfl, rfl, rfl⟩, rfl⟩
theorem z126_72 : za 126 72 (.iconst 1) 73 := ⟨rfl, rfl, rfl⟩
theorem z126_73 : zb (.goto) 126 73 77 76 := ⟨4, ⟨rfl, rfl, rfl⟩, rfl⟩
theorem z126_76 : za 126 76 (.iconst 0) 77 := ⟨rfl, rfl, rfl⟩
theorem z126_77 : za 126 77 (.ireturn) 78 := ⟨rfl, rfl, rfl⟩
theorem z127_0 : za 127 0 (.iconst 0) 1 := ⟨rfl, rfl, rfl⟩
theorem z127_1 : za 127 1 (.istore_n 3) 2 := ⟨rfl, rfl, rfl⟩
theorem z127_2 : za 127 2 (.aload_n 0) 3 := ⟨rfl, rfl, rfl⟩
theorem z127_3 : za 127 3 (.iload_n 1) 4 := ⟨rfl, rfl, rfl⟩
theorem z127_4 : za_v 127 4 121 1 5 7 := ⟨195, ⟨rfl, rfl, rfl⟩, rfl⟩
theorem z127_7 : za 127 7 (.iconst 0) 8 := ⟨rfl, rfl, rfl⟩
theorem z127_8 : za 127 8 (.istore 4) 10 := ⟨rfl, rfl, rfl⟩
theorem z127_10 : za 127 10 (.iload 4) 12 := ⟨rfl, rfl, rfl⟩
theorem z127_12 : za 127 12 (.aload_n 0) 13 := ⟨rfl, rfl, rfl⟩
theorem z127_13 : za_v 127 13 80 0 5 16 := ⟨96, ⟨rfl, rfl, rfl⟩, rfl⟩
theorem z127_16 : zb (.if_icmp .ge) 127 16 69 19 := ⟨53, ⟨rfl, rfl, rfl⟩, rfl⟩
theorem z127_19 : za 127 19 (.iload_n 3) 20 := ⟨rfl, rfl, rfl⟩
theorem z127_20 : zb (.ifCond .ne) 127 20 69 23 := ⟨49, ⟨rfl, rfl, rfl⟩, rfl⟩
theorem z127_23 : za 127 23 (.iconst 1) 24 := ⟨rfl, rfl, rfl⟩
theorem z127_24 : za 127 24 (.istore 5) 26 := ⟨rfl, rfl, rfl⟩
theorem z127_26 : za 127 26 (.iload 5) 28 := ⟨rfl, rfl, rfl⟩
theorem z127_28 : za 127 28 (.bipush (10)) 30 := ⟨rfl, rfl, rfl⟩
theorem z127_30 : za 127 30 (.aload_n 0) 31 := ⟨rfl, rfl, rfl⟩
theorem z127_31 : za_v 127 31 80 0 5 34 := ⟨96, ⟨rfl, rfl, rfl⟩, rfl⟩
theorem z127_34 : za 127 34 (.iadd) 35 := ⟨rfl, rfl, rfl⟩
theorem z127_35 : zb (.if_icmp .ge) 127 35 63 38 := ⟨28, ⟨rfl, rfl, rfl⟩, rfl⟩
theorem z127_38 : za 127 38 (.iload_n 3) 39 := ⟨rfl, rfl, rfl⟩
theorem z127_39 : zb (.ifCond .ne) 127 39 63 42 := ⟨24, ⟨rfl, rfl, rfl⟩, rfl⟩
theorem z127_42 : za 127 42 (.aload_n 0) 43 := ⟨rfl, rfl, rfl⟩
theorem z127_43 : za 127 43 (.iload_n 1) 44 := ⟨rfl, rfl, rfl⟩
theorem z127_44 : za 127 44 (.iload 4) 46 := ⟨rfl, rfl, rfl⟩
theorem z127_46 : za 127 46 (.iload 5) 48 := ⟨rfl, rfl, rfl⟩
theorem z127_48 : za 127 48 (.iload_n 2) 49 := ⟨rfl, rfl, rfl⟩
theorem z127_49 : za_v 127 49 126 4 5 52 := ⟨215, ⟨rfl, rfl, rfl⟩, rfl⟩
theorem z127_52 : za 127 52 (.istore_n 3) 53 := ⟨rfl, rfl, rfl⟩
theorem z127_53 : za 127 53 (.iload 5) 55 := ⟨rfl, rfl, rfl⟩
theorem z127_55 : za_s 127 55 124 1 58 := ⟨209, .null, ⟨rfl, rfl, rfl⟩, rfl⟩
theorem z127_58 : za 127 58 (.istore 5) 60 := ⟨rfl, rfl, rfl⟩
theorem z127_60 : zb (.goto) 127 60 26 63 := ⟨(-34), ⟨rfl, rfl, rfl⟩, rfl⟩
theorem z127_63 : za 127 63 (.iinc 4 (1)) 66 := ⟨rfl, rfl, rfl⟩
theorem z127_66 : zb (.goto) 127 66 10 69 := ⟨(-56), ⟨rfl, rfl, rfl⟩, rfl⟩
theorem z127_69 : za 127 69 (.iload_n 3) 70 := ⟨rfl, rfl, rfl⟩
theorem z127_70 : za 127 70 (.ireturn) 71 := ⟨rfl, rfl, rfl⟩
theorem z128_0 : za 128 0 (.iload_n 1) 1 := ⟨rfl, rfl, rfl⟩
theorem z128_1 : za 128 1 (.bipush (12)) 3 := ⟨rfl, rfl, rfl⟩
theorem z128_3 : zb (.if_icmp .ne) 128 3 10 6 := ⟨7, ⟨rfl, rfl, rfl⟩, rfl⟩
theorem z128_6 : za 128 6 (.iconst 1) 7 := ⟨rfl, rfl, rfl⟩
theorem z128_7 : zb (.goto) 128 7 44 10 := ⟨37, ⟨rfl, rfl, rfl⟩, rfl⟩
theorem z128_10 : za 128 10 (.aload_n 0) 11 := ⟨rfl, rfl, rfl⟩
theorem z128_11 : za 128 11 (.iload_n 1) 12 := ⟨rfl, rfl, rfl⟩
theorem z128_12 : za_v 128 12 95 1 5 15 := ⟨118, ⟨rfl, rfl, rfl⟩, rfl⟩
theorem z128_15 : zb (.ifCond .eq) 128 15 22 18 := ⟨7, ⟨rfl, rfl, rfl⟩, rfl⟩
theorem z128_18 : za 128 18 (.iconst 2) 19 := ⟨rfl, rfl, rfl⟩
theorem z128_19 : zb (.goto) 128 19 44 22 := ⟨25, ⟨rfl, rfl, rfl⟩, rfl⟩
theorem z128_22 : za 128 22 (.aload_n 0) 23 := ⟨rfl, rfl, rfl⟩
theorem z128_23 : za_f 128 23 5 8 26 := ⟨26, 9, .null, ⟨rfl, rfl, rfl⟩, rfl, Or.inr (Or.inr rfl)⟩
theorem z128_26 : za 128 26 (.iload_n 1) 27 := ⟨rfl, rfl, rfl⟩
theorem z128_27 : za 128 27 (.iaload) 28 := ⟨rfl, rfl, rfl⟩
theorem z128_28 : zb (.ifCond .ne) 128 28 35 31 := ⟨7, ⟨rfl, rfl, rfl⟩, rfl⟩
theorem z128_31 : za 128 31 (.iconst 3) 32 := ⟨rfl, rfl, rfl⟩
theorem z128_32 : zb (.goto) 128 32 44 35 := ⟨12, ⟨rfl, rfl, rfl⟩, rfl⟩
theorem z128_35 : za 128 35 (.bipush (10)) 37 := ⟨rfl, rfl, rfl⟩
theorem z128_37 : za 128 37 (.aload_n 0) 38 := ⟨rfl, rfl, rfl⟩
theorem z128_38 : za 128 38 (.iload_n 1) 39 := ⟨rfl, rfl, rfl⟩
theorem z128_39 : za 128 39 (.iconst 0) 40 := ⟨rfl, rfl, rfl⟩
theorem z128_40 : za_v 128 40 97 2 5 43 := ⟨121, ⟨rfl, rfl, rfl⟩, rfl⟩
theorem z128_43 : za 128 43 (.iadd) 44 := ⟨rfl, rfl, rfl⟩
theorem z128_44 : za 128 44 (.ireturn) 45 := ⟨rfl, rfl, rfl⟩
theorem z129_0 : za 129 0 (.aload_n 0) 1 := ⟨rfl, rfl, rfl⟩
theorem z129_1 : za_f 129 1 5 22 4 := ⟨212, 0, .null, ⟨rfl, rfl, rfl⟩, rfl, Or.inl rfl⟩
theorem z129_4 : za 129 4 (.iconst 1) 5 := ⟨rfl, rfl, rfl⟩
theorem z129_5 : za 129 5 (.isub) 6 := ⟨rfl, rfl, rfl⟩
theorem z129_6 : za 129 6 (.istore_n 1) 7 := ⟨rfl, rfl, rfl⟩
theorem z129_7 : za 129 7 (.iload_n 1) 8 := ⟨rfl, rfl, rfl⟩
theorem z129_8 : zb (.ifCond .le) 129 8 54 11 := ⟨46, ⟨rfl, rfl, rfl⟩, rfl⟩
theorem z129_11 : za 129 11 (.aload_n 0) 12 := ⟨rfl, rfl, rfl⟩
theorem z129_12 : za_f 129 12 5 20 15 := ⟨57, 9, .null, ⟨rfl, rfl, rfl⟩, rfl, Or.inr (Or.inr rfl)⟩
theorem z129_15 : za 129 15 (.iload_n 1) 16 := ⟨rfl, rfl, rfl⟩
theorem z129_16 : za 129 16 (.iaload) 17 := ⟨rfl, rfl, rfl⟩
theorem z129_17 : za 129 17 (.istore_n 2) 18 := ⟨rfl, rfl, rfl⟩
theorem z129_18 : za 129 18 (.iload_n 2) 19 := ⟨rfl, rfl, rfl⟩
theorem z129_19 : za 129 19 (.aload_n 0) 20 := ⟨rfl, rfl, rfl⟩
theorem z129_20 : za_f 129 20 5 20 23 := ⟨57, 9, .null, ⟨rfl, rfl, rfl⟩, rfl, Or.inr (Or.inr rfl)⟩
theorem z129_23 : za 129 23 (.iload_n 1) 24 := ⟨rfl, rfl, rfl⟩
theorem z129_24 : za 129 24 (.iconst 1) 25 := ⟨rfl, rfl, rfl⟩
theorem z129_25 : za 129 25 (.iadd) 26 := ⟨rfl, rfl, rfl⟩
theorem z129_26 : za 129 26 (.iaload) 27 := ⟨rfl, rfl, rfl⟩
theorem z129_27 : zb (.if_icmp .ge) 129 27 48 30 := ⟨21, ⟨rfl, rfl, rfl⟩, rfl⟩
theorem z129_30 : za 129 30 (.aload_n 0) 31 := ⟨rfl, rfl, rfl⟩
theorem z129_31 : za_f 129 31 5 19 34 := ⟨54, 9, .null, ⟨rfl, rfl, rfl⟩, rfl, Or.inr (Or.inr rfl)⟩
theorem z129_34 : za 129 34 (.iload_n 2) 35 := ⟨rfl, rfl, rfl⟩
theorem z129_35 : za 129 35 (.aload_n 0) 36 := ⟨rfl, rfl, rfl⟩
theorem z129_36 : za 129 36 (.iload_n 2) 37 := ⟨rfl, rfl, rfl⟩
theorem z129_37 : za 129 37 (.iload_n 1) 38 := ⟨rfl, rfl, rfl⟩
theorem z129_38 : za_v 129 38 127 2 5 41 := ⟨219, ⟨rfl, rfl, rfl⟩, rfl⟩
theorem z129_41 : za 129 41 (.bastore) 42 := ⟨rfl, rfl, rfl⟩
theorem z129_42 : za 129 42 (.iinc 2 (1)) 45 := ⟨rfl, rfl, rfl⟩
theorem z129_45 : zb (.goto) 129 45 18 48 := ⟨(-27), ⟨rfl, rfl, rfl⟩, rfl⟩
theorem z129_48 : za 129 48 (.iinc 1 (-1)) 51 := ⟨rfl, rfl, rfl⟩
theorem z129_51 : zb (.goto) 129 51 7 54 := ⟨(-44), ⟨rfl, rfl, rfl⟩, rfl⟩
theorem z129_54 : za 129 54 (.aload_n 0) 55 := ⟨rfl, rfl, rfl⟩
theorem z129_55 : za 129 55 (.iconst 0) 56 := ⟨rfl, rfl, rfl⟩
theorem z129_56 : za_v 129 56 121 1 5 59 := ⟨195, ⟨rfl, rfl, rfl⟩, rfl⟩
theorem z129_59 : za 129 59 (.iconst 0) 60 := ⟨rfl, rfl, rfl⟩
theorem z129_60 : za 129 60 (.istore_n 1) 61 := ⟨rfl, rfl, rfl⟩
theorem z129_61 : za 129 61 (.iload_n 1) 62 := ⟨rfl, rfl, rfl⟩
theorem z129_62 : za 129 62 (.sipush (208)) 65 := ⟨rfl, rfl, rfl⟩
theorem z129_65 : zb (.if_icmp .ge) 129 65 164 68 := ⟨99, ⟨rfl, rfl, rfl⟩, rfl⟩
theorem z129_68 : za 129 68 (.iload_n 1) 69 := ⟨rfl, rfl, rfl⟩
theorem z129_69 : za 129 69 (.bipush (16)) 71 := ⟨rfl, rfl, rfl⟩
theorem z129_71 : za 129 71 (.idiv) 72 := ⟨rfl, rfl, rfl⟩
theorem z129_72 : za 129 72 (.istore_n 2) 73 := ⟨rfl, rfl, rfl⟩
theorem z129_73 : za 129 73 (.iload_n 1) 74 := ⟨rfl, rfl, rfl⟩
theorem z129_74 : za 129 74 (.bipush (16)) 76 := ⟨rfl, rfl, rfl⟩
theorem z129_76 : za 129 76 (.irem) 77 := ⟨rfl, rfl, rfl⟩
theorem z129_77 : za 129 77 (.istore_n 3) 78 := ⟨rfl, rfl, rfl⟩
theorem z129_78 : za 129 78 (.aload_n 0) 79 := ⟨rfl, rfl, rfl⟩
theorem z129_79 : za 129 79 (.iload_n 2) 80 := ⟨rfl, rfl, rfl⟩
theorem z129_80 : za_v 129 80 94 1 5 83 := ⟨135, ⟨rfl, rfl, rfl⟩, rfl⟩
theorem z129_83 : zb (.ifCond .ne) 129 83 94 86 := ⟨11, ⟨rfl, rfl, rfl⟩, rfl⟩
theorem z129_86 : za 129 86 (.aload_n 0) 87 := ⟨rfl, rfl, rfl⟩
theorem z129_87 : za 129 87 (.iload_n 2) 88 := ⟨rfl, rfl, rfl⟩
theorem z129_88 : za_v 129 88 95 1 5 91 := ⟨118, ⟨rfl, rfl, rfl⟩, rfl⟩
theorem z129_91 : zb (.ifCond .eq) 129 91 120 94 := ⟨29, ⟨rfl, rfl, rfl⟩, rfl⟩
theorem z129_94 : za 129 94 (.aload_n 0) 95 := ⟨rfl, rfl, rfl⟩
theorem z129_95 : za 129 95 (.iload_n 3) 96 := ⟨rfl, rfl, rfl⟩
theorem z129_96 : za_v 129 96 94 1 5 99 := ⟨135, ⟨rfl, rfl, rfl⟩, rfl⟩
theorem z129_99 : zb (.ifCond .ne) 129 99 116 102 := ⟨17, ⟨rfl, rfl, rfl⟩, rfl⟩
theorem z129_102 : za 129 102 (.aload_n 0) 103 := ⟨rfl, rfl, rfl⟩
theorem z129_103 : za 129 103 (.iload_n 3) 104 := ⟨rfl, rfl, rfl⟩
theorem z129_104 : za_v 129 104 95 1 5 107 := ⟨118, ⟨rfl, rfl, rfl⟩, rfl⟩
theorem z129_107 : zb (.ifCond .ne) 129 107 116 110 := ⟨9, ⟨rfl, rfl, rfl⟩, rfl⟩
theorem z129_110 : za 129 110 (.iload_n 3) 111 := ⟨rfl, rfl, rfl⟩
theorem z129_111 : za 129 111 (.bipush (12)) 113 := ⟨rfl, rfl, rfl⟩
theorem z129_113 : zb (.if_icmp .ne) 129 113 120 116 := ⟨7, ⟨rfl, rfl, rfl⟩, rfl⟩
theorem z129_116 : za 129 116 (.iconst 1) 117 := ⟨rfl, rfl, rfl⟩
theorem z129_117 : zb (.goto) 129 117 121 120 := ⟨4, ⟨rfl, rfl, rfl⟩, rfl⟩
theorem z129_120 : za 129 120 (.iconst 0) 121 := ⟨rfl, rfl, rfl⟩
theorem z129_121 : za 129 121 (.istore 4) 123 := ⟨rfl, rfl, rfl⟩
theorem z129_123 : za 129 123 (.iload 4) 125 := ⟨rfl, rfl, rfl⟩
theorem z129_125 : zb (.ifCond .eq) 129 125 158 128 := ⟨33, ⟨rfl, rfl, rfl⟩, rfl⟩
theorem z129_128 : za 129 128 (.aload_n 0) 129 := ⟨rfl, rfl, rfl⟩
theorem z129_129 : za 129 129 (.iload_n 2) 130 := ⟨rfl, rfl, rfl⟩
theorem z129_130 : za 129 130 (.iload_n 3) 131 := ⟨rfl, rfl, rfl⟩
theorem z129_131 : za_v 129 131 100 2 5 134 := ⟨141, ⟨rfl, rfl, rfl⟩, rfl⟩
theorem z129_134 : zb (.ifCond .eq) 129 134 158 137 := ⟨24, ⟨rfl, rfl, rfl⟩, rfl⟩
theorem z129_137 : za 129 137 (.aload_n 0) 138 := ⟨rfl, rfl, rfl⟩
theorem z129_138 : za 129 138 (.iconst 0) 139 := ⟨rfl, rfl, rfl⟩
theorem z129_139 : za 129 139 (.aload_n 0) 140 := ⟨rfl, rfl, rfl⟩
theorem z129_140 : za 129 140 (.iload_n 2) 141 := ⟨rfl, rfl, rfl⟩
theorem z129_141 : za_v 129 141 98 1 5 144 := ⟨132, ⟨rfl, rfl, rfl⟩, rfl⟩
theorem z129_144 : za 129 144 (.aload_n 0) 145 := ⟨rfl, rfl, rfl⟩
theorem z129_145 : za 129 145 (.iload_n 3) 146 := ⟨rfl, rfl, rfl⟩
theorem z129_146 : za_v 129 146 128 1 5 149 := ⟨222, ⟨rfl, rfl, rfl⟩, rfl⟩
theorem z129_149 : za 129 149 (.iconst 0) 150 := ⟨rfl, rfl, rfl⟩
theorem z129_150 : za_v 129 150 126 4 5 153 := ⟨215, ⟨rfl, rfl, rfl⟩, rfl⟩
theorem z129_153 : zb (.ifCond .eq) 129 153 158 156 := ⟨5, ⟨rfl, rfl, rfl⟩, rfl⟩
theorem z129_156 : za 129 156 (.iload_n 1) 157 := ⟨rfl, rfl, rfl⟩
theorem z129_157 : za 129 157 (.ireturn) 158 := ⟨rfl, rfl, rfl⟩
theorem z129_158 : za 129 158 (.iinc 1 (1)) 161 := ⟨rfl, rfl, rfl⟩
theorem z129_161 : zb (.goto) 129 161 61 164 := ⟨(-100), ⟨rfl, rfl, rfl⟩, rfl⟩
theorem z129_164 : za 129 164 (.iconst (-1)) 165 := ⟨rfl, rfl, rfl⟩
theorem z129_165 : za 129 165 (.ireturn) 166 := ⟨rfl, rfl, rfl⟩
theorem z130_0 : za 130 0 (.aload_n 0) 1 := ⟨rfl, rfl, rfl⟩
theorem z130_1 : za_v 130 1 119 0 5 4 := ⟨225, ⟨rfl, rfl, rfl⟩, rfl⟩
theorem z130_4 : za 130 4 (.aload_n 0) 5 := ⟨rfl, rfl, rfl⟩
theorem z130_5 : za_f 130 5 5 18 8 := ⟨51, 9, .null, ⟨rfl, rfl, rfl⟩, rfl, Or.inr (Or.inr rfl)⟩
theorem z130_8 : za 130 8 (.iconst 0) 9 := ⟨rfl, rfl, rfl⟩
theorem z130_9 : za 130 9 (.aload_n 0) 10 := ⟨rfl, rfl, rfl⟩
theorem z130_10 : za 130 10 (.iconst 0) 11 := ⟨rfl, rfl, rfl⟩
theorem z130_11 : za_v 130 11 120 1 5 14 := ⟨192, ⟨rfl, rfl, rfl⟩, rfl⟩
theorem z130_14 : za 130 14 (.iastore) 15 := ⟨rfl, rfl, rfl⟩
theorem z130_15 : za 130 15 (.aload_n 0) 16 := ⟨rfl, rfl, rfl⟩
theorem z130_16 : za 130 16 (.iconst 1) 17 := ⟨rfl, rfl, rfl⟩
theorem z130_17 : za_p 130 17 5 21 20 := ⟨189, 0, .null, ⟨rfl, rfl, rfl⟩, rfl, Or.inl rfl⟩
theorem z130_20 : za 130 20 (.aload_n 0) 21 := ⟨rfl, rfl, rfl⟩
theorem z130_21 : za 130 21 (.iconst 0) 22 := ⟨rfl, rfl, rfl⟩
theorem z130_22 : za_p 130 22 5 22 25 := ⟨212, 0, .null, ⟨rfl, rfl, rfl⟩, rfl, Or.inl rfl⟩
theorem z130_25 : za 130 25 (.aload_n 0) 26 := ⟨rfl, rfl, rfl⟩
theorem z130_26 : za_f 130 26 5 20 29 := ⟨57, 9, .null, ⟨rfl, rfl, rfl⟩, rfl, Or.inr (Or.inr rfl)⟩
theorem z130_29 : za 130 29 (.iconst 0) 30 := ⟨rfl, rfl, rfl⟩
theorem z130_30 : za 130 30 (.iconst 0) 31 := ⟨rfl, rfl, rfl⟩
theorem z130_31 : za 130 31 (.iastore) 32 := ⟨rfl, rfl, rfl⟩
theorem z130_32 : za 130 32 (.aload_n 0) 33 := ⟨rfl, rfl, rfl⟩
theorem z130_33 : za 130 33 (.iconst 0) 34 := ⟨rfl, rfl, rfl⟩
theorem z130_34 : za_p 130 34 5 16 37 := ⟨228, 0, .null, ⟨rfl, rfl, rfl⟩, rfl, Or.inl rfl⟩
theorem z130_37 : za 130 37 (.aload_n 0) 38 := ⟨rfl, rfl, rfl⟩
theorem z130_38 : za_v 130 38 96 0 5 41 := ⟨164, ⟨rfl, rfl, rfl⟩, rfl⟩
theorem z130_41 : za 130 41 (.aload_n 0) 42 := ⟨rfl, rfl, rfl⟩
theorem z130_42 : za_v 130 42 80 0 5 45 := ⟨96, ⟨rfl, rfl, rfl⟩, rfl⟩
theorem z130_45 : zb (.if_icmp .ne) 130 45 50 48 := ⟨5, ⟨rfl, rfl, rfl⟩, rfl⟩
theorem z130_48 : za 130 48 (.iconst 0) 49 := ⟨rfl, rfl, rfl⟩
theorem z130_49 : za 130 49 (.ireturn) 50 := ⟨rfl, rfl, rfl⟩
theorem z130_50 : za 130 50 (.aload_n 0) 51 := ⟨rfl, rfl, rfl⟩
theorem z130_51 : za_f 130 51 5 20 54 := ⟨57, 9, .null, ⟨rfl, rfl, rfl⟩, rfl, Or.inr (Or.inr rfl)⟩
theorem z130_54 : za 130 54 (.aload_n 0) 55 := ⟨rfl, rfl, rfl⟩
theorem z130_55 : za_f 130 55 5 22 58 := ⟨212, 0, .null, ⟨rfl, rfl, rfl⟩, rfl, Or.inl rfl⟩
theorem z130_58 : za 130 58 (.iaload) 59 := ⟨rfl, rfl, rfl⟩
theorem z130_59 : za 130 59 (.istore_n 2) 60 := ⟨rfl, rfl, rfl⟩
theorem z130_60 : za 130 60 (.aload_n 0) 61 := ⟨rfl, rfl, rfl⟩
theorem z130_61 : za 130 61 (.dup) 62 := ⟨rfl, rfl, rfl⟩
theorem z130_62 : za_f 130 62 5 22 65 := ⟨212, 0, .null, ⟨rfl, rfl, rfl⟩, rfl, Or.inl rfl⟩
theorem z130_65 : za 130 65 (.iconst 1) 66 := ⟨rfl, rfl, rfl⟩
theorem z130_66 : za 130 66 (.iadd) 67 := ⟨rfl, rfl, rfl⟩
theorem z130_67 : za_p 130 67 5 22 70 := ⟨212, 0, .null, ⟨rfl, rfl, rfl⟩, rfl, Or.inl rfl⟩
theorem z130_70 : za 130 70 (.aload_n 0) 71 := ⟨rfl, rfl, rfl⟩
theorem z130_71 : za_f 130 71 5 20 74 := ⟨57, 9, .null, ⟨rfl, rfl, rfl⟩, rfl, Or.inr (Or.inr rfl)⟩
theorem z130_74 : za 130 74 (.aload_n 0) 75 := ⟨rfl, rfl, rfl⟩
theorem z130_75 : za_f 130 75 5 22 78 := ⟨212, 0, .null, ⟨rfl, rfl, rfl⟩, rfl, Or.inl rfl⟩
theorem z130_78 : za 130 78 (.aload_n 0) 79 := ⟨rfl, rfl, rfl⟩
theorem z130_79 : za_f 130 79 5 21 82 := ⟨189, 0, .null, ⟨rfl, rfl, rfl⟩, rfl, Or.inl rfl⟩
theorem z130_82 : za 130 82 (.iastore) 83 := ⟨rfl, rfl, rfl⟩
theorem z130_83 : za 130 83 (.aload_n 0) 84 := ⟨rfl, rfl, rfl⟩
theorem z130_84 : za 130 84 (.aload_n 0) 85 := ⟨rfl, rfl, rfl⟩
theorem z130_85 : za_f 130 85 5 21 88 := ⟨189, 0, .null, ⟨rfl, rfl, rfl⟩, rfl, Or.inl rfl⟩
theorem z130_88 : za_p 130 88 5 16 91 := ⟨228, 0, .null, ⟨rfl, rfl, rfl⟩, rfl, Or.inl rfl⟩
theorem z130_91 : za 130 91 (.aload_n 0) 92 := ⟨rfl, rfl, rfl⟩
theorem z130_92 : za 130 92 (.iconst 0) 93 := ⟨rfl, rfl, rfl⟩
theorem z130_93 : za_p 130 93 5 23 96 := ⟨206, 0, .null, ⟨rfl, rfl, rfl⟩, rfl, Or.inl rfl⟩
theorem z130_96 : za 130 96 (.iconst 0) 97 := ⟨rfl, rfl, rfl⟩
theorem z130_97 : za 130 97 (.istore_n 3) 98 := ⟨rfl, rfl, rfl⟩
theorem z130_98 : za 130 98 (.iload_n 2) 99 := ⟨rfl, rfl, rfl⟩
theorem z130_99 : za 130 99 (.istore 4) 101 := ⟨rfl, rfl, rfl⟩
theorem z130_101 : za 130 101 (.iload 4) 103 := ⟨rfl, rfl, rfl⟩
theorem z130_103 : za 130 103 (.aload_n 0) 104 := ⟨rfl, rfl, rfl⟩
theorem z130_104 : za_f 130 104 5 16 107 := ⟨228, 0, .null, ⟨rfl, rfl, rfl⟩, rfl, Or.inl rfl⟩
theorem z130_107 : zb (.if_icmp .ge) 130 107 140 110 := ⟨33, ⟨rfl, rfl, rfl⟩, rfl⟩
theorem z130_110 : za 130 110 (.aload_n 0) 111 := ⟨rfl, rfl, rfl⟩
theorem z130_111 : za 130 111 (.iload 4) 113 := ⟨rfl, rfl, rfl⟩
theorem z130_113 : za 130 113 (.iload_n 1) 114 := ⟨rfl, rfl, rfl⟩
theorem z130_114 : za_v 130 114 125 2 5 117 := ⟨231, ⟨rfl, rfl, rfl⟩, rfl⟩
theorem z130_117 : za 130 117 (.istore 5) 119 := ⟨rfl, rfl, rfl⟩
theorem z130_119 : za 130 119 (.iload_n 3) 120 := ⟨rfl, rfl, rfl⟩
theorem z130_120 : zb (.ifCond .ne) 130 120 128 123 := ⟨8, ⟨rfl, rfl, rfl⟩, rfl⟩
theorem z130_123 : za 130 123 (.iload 5) 125 := ⟨rfl, rfl, rfl⟩
theorem z130_125 : zb (.ifCond .eq) 130 125 132 128 := ⟨7, ⟨rfl, rfl, rfl⟩, rfl⟩
theorem z130_128 : za 130 128 (.iconst 1) 129 := ⟨rfl, rfl, rfl⟩
theorem z130_129 : zb (.goto) 130 129 133 132 := ⟨4, ⟨rfl, rfl, rfl⟩, rfl⟩
theorem z130_132 : za 130 132 (.iconst 0) 133 := ⟨rfl, rfl, rfl⟩
theorem z130_133 : za 130 133 (.istore_n 3) 134 := ⟨rfl, rfl, rfl⟩
theorem z130_134 : za 130 134 (.iinc 4 (1)) 137 := ⟨rfl, rfl, rfl⟩
theorem z130_137 : zb (.goto) 130 137 101 140 := ⟨(-36), ⟨rfl, rfl, rfl⟩, rfl⟩
theorem z130_140 : za 130 140 (.iload_n 3) 141 := ⟨rfl, rfl, rfl⟩
theorem z130_141 : zb (.ifCond .eq) 130 141 149 144 := ⟨8, ⟨rfl, rfl, rfl⟩, rfl⟩
theorem z130_144 : za 130 144 (.aload_n 0) 145 := ⟨rfl, rfl, rfl⟩
theorem z130_145 : za_f 130 145 5 22 148 := ⟨212, 0, .null, ⟨rfl, rfl, rfl⟩, rfl, Or.inl rfl⟩
theorem z130_148 : za 130 148 (.ireturn) 149 := ⟨rfl, rfl, rfl⟩
theorem z130_149 : za 130 149 (.aload_n 0) 150 := ⟨rfl, rfl, rfl⟩
theorem z130_150 : za_f 130 150 5 23 153 := ⟨206, 0, .null, ⟨rfl, rfl, rfl⟩, rfl, Or.inl rfl⟩
theorem z130_153 : zb (.ifCond .ne) 130 153 167 156 := ⟨14, ⟨rfl, rfl, rfl⟩, rfl⟩
theorem z130_156 : za 130 156 (.aload_n 0) 157 := ⟨rfl, rfl, rfl⟩
theorem z130_157 : za_f 130 157 5 21 160 := ⟨189, 0, .null, ⟨rfl, rfl, rfl⟩, rfl, Or.inl rfl⟩
theorem z130_160 : za 130 160 (.aload_n 0) 161 := ⟨rfl, rfl, rfl⟩
theorem z130_161 : za_f 130 161 5 16 164 := ⟨228, 0, .null, ⟨rfl, rfl, rfl⟩, rfl, Or.inl rfl⟩
theorem z130_164 : zb (.if_icmp .ne) 130 164 182 167 := ⟨18, ⟨rfl, rfl, rfl⟩, rfl⟩
theorem z130_167 : za 130 167 (.aload_n 0) 168 := ⟨rfl, rfl, rfl⟩
theorem z130_168 : za_f 130 168 5 23 171 := ⟨206, 0, .null, ⟨rfl, rfl, rfl⟩, rfl, Or.inl rfl⟩
theorem z130_171 : zb (.ifCond .eq) 130 171 179 174 := ⟨8, ⟨rfl, rfl, rfl⟩, rfl⟩
theorem z130_174 : za 130 174 (.bipush (-2)) 176 := ⟨rfl, rfl, rfl⟩
theorem z130_176 : zb (.goto) 130 176 181 179 := ⟨5, ⟨rfl, rfl, rfl⟩, rfl⟩
theorem z130_179 : za 130 179 (.bipush (-3)) 181 := ⟨rfl, rfl, rfl⟩
theorem z130_181 : za 130 181 (.ireturn) 182 := ⟨rfl, rfl, rfl⟩
theorem z130_182 : zb (.goto) 130 182 50 185 := ⟨(-132), ⟨rfl, rfl, rfl⟩, rfl⟩
theorem z131_0 : za 131 0 (.aload_n 0) 1 := ⟨rfl, rfl, rfl⟩
theorem z131_1 : za 131 1 (.iconst 0) 2 := ⟨rfl, rfl, rfl⟩
theorem z131_2 : za_p 131 2 5 0 5 := ⟨69, 0, .null, ⟨rfl, rfl, rfl⟩, rfl, Or.inl rfl⟩
theorem z131_5 : za 131 5 (.iload_n 1) 6 := ⟨rfl, rfl, rfl⟩
theorem z131_6 : za 131 6 (.iconst 1) 7 := ⟨rfl, rfl, rfl⟩
theorem z131_7 : za 131 7 (.sipush (200)) 10 := ⟨rfl, rfl, rfl⟩
theorem z131_10 : za_s 131 10 79 3 13 := ⟨92, .null, ⟨rfl, rfl, rfl⟩, rfl⟩
theorem z131_13 : zb (.ifCond .ne) 131 13 22 16 := ⟨9, ⟨rfl, rfl, rfl⟩, rfl⟩
theorem z131_16 : za 131 16 (.aload_n 0) 17 := ⟨rfl, rfl, rfl⟩
theorem z131_17 : za 131 17 (.iconst 1) 18 := ⟨rfl, rfl, rfl⟩
theorem z131_18 : za_v 131 18 78 1 5 21 := ⟨112, ⟨rfl, rfl, rfl⟩, rfl⟩
theorem z131_21 : za 131 21 (.ireturn) 22 := ⟨rfl, rfl, rfl⟩
theorem z131_22 : za 131 22 (.aload_n 0) 23 := ⟨rfl, rfl, rfl⟩
theorem z131_23 : za_v 131 23 92 0 5 26 := ⟨115, ⟨rfl, rfl, rfl⟩, rfl⟩
theorem z131_26 : za 131 26 (.aload_n 0) 27 := ⟨rfl, rfl, rfl⟩
theorem z131_27 : za_v 131 27 80 0 5 30 := ⟨96, ⟨rfl, rfl, rfl⟩, rfl⟩
theorem z131_30 : zb (.if_icmp .ge) 131 30 39 33 := ⟨9, ⟨rfl, rfl, rfl⟩, rfl⟩
theorem z131_33 : za 131 33 (.aload_n 0) 34 := ⟨rfl, rfl, rfl⟩
theorem z131_34 : za 131 34 (.iconst 2) 35 := ⟨rfl, rfl, rfl⟩
theorem z131_35 : za_v 131 35 78 1 5 38 := ⟨112, ⟨rfl, rfl, rfl⟩, rfl⟩
theorem z131_38 : za 131 38 (.ireturn) 39 := ⟨rfl, rfl, rfl⟩
theorem z131_39 : za 131 39 (.aload_n 0) 40 := ⟨rfl, rfl, rfl⟩
theorem z131_40 : za 131 40 (.iload_n 1) 41 := ⟨rfl, rfl, rfl⟩
theorem z131_41 : za_v 131 41 130 1 5 44 := ⟨234, ⟨rfl, rfl, rfl⟩, rfl⟩
theorem z131_44 : za 131 44 (.istore_n 2) 45 := ⟨rfl, rfl, rfl⟩
theorem z131_45 : za 131 45 (.aload_n 0) 46 := ⟨rfl, rfl, rfl⟩
theorem z131_46 : za 131 46 (.iload_n 2) 47 := ⟨rfl, rfl, rfl⟩
theorem z131_47 : zb (.ifCond .le) 131 47 57 50 := ⟨10, ⟨rfl, rfl, rfl⟩, rfl⟩
theorem z131_50 : za 131 50 (.aload_n 0) 51 := ⟨rfl, rfl, rfl⟩
theorem z131_51 : za_v 131 51 129 0 5 54 := ⟨237, ⟨rfl, rfl, rfl⟩, rfl⟩
theorem z131_54 : zb (.goto) 131 54 58 57 := ⟨4, ⟨rfl, rfl, rfl⟩, rfl⟩
theorem z131_57 : za 131 57 (.iconst (-1)) 58 := ⟨rfl, rfl, rfl⟩
theorem z131_58 : za_p 131 58 5 15 61 := ⟨45, 0, .null, ⟨rfl, rfl, rfl⟩, rfl, Or.inl rfl⟩
theorem z131_61 : za 131 61 (.iload_n 2) 62 := ⟨rfl, rfl, rfl⟩
theorem z131_62 : za 131 62 (.ireturn) 63 := ⟨rfl, rfl, rfl⟩
theorem z132_0 : za 132 0 (.aload_n 0) 1 := ⟨rfl, rfl, rfl⟩
theorem z132_1 : za 132 1 (.iconst 0) 2 := ⟨rfl, rfl, rfl⟩
theorem z132_2 : za_p 132 2 5 0 5 := ⟨69, 0, .null, ⟨rfl, rfl, rfl⟩, rfl, Or.inl rfl⟩
theorem z132_5 : za 132 5 (.aload_n 0) 6 := ⟨rfl, rfl, rfl⟩
theorem z132_6 : za_f 132 6 5 15 9 := ⟨45, 0, .null, ⟨rfl, rfl, rfl⟩, rfl, Or.inl rfl⟩
theorem z132_9 : za 132 9 (.ireturn) 10 := ⟨rfl, rfl, rfl⟩
theorem z133_0 : za 133 0 (.aload_n 0) 1 := ⟨rfl, rfl, rfl⟩
theorem z133_1 : za 133 1 (.iconst 0) 2 := ⟨rfl, rfl, rfl⟩
theorem z133_2 : za_p 133 2 5 0 5 := ⟨69, 0, .null, ⟨rfl, rfl, rfl⟩, rfl, Or.inl rfl⟩
theorem z133_5 : za 133 5 (.aload_n 0) 6 := ⟨rfl, rfl, rfl⟩
theorem z133_6 : za_f 133 6 5 16 9 := ⟨228, 0, .null, ⟨rfl, rfl, rfl⟩, rfl, Or.inl rfl⟩
theorem z133_9 : za 133 9 (.ireturn) 10 := ⟨rfl, rfl, rfl⟩
theorem z134_0 : za 134 0 (.iconst 0) 1 := ⟨rfl, rfl, rfl⟩
theorem z134_1 : za 134 1 (.istore_n 2) 2 := ⟨rfl, rfl, rfl⟩
theorem z134_2 : za 134 2 (.aload_n 0) 3 := ⟨rfl, rfl, rfl⟩
theorem z134_3 : za 134 3 (.arraylength) 4 := ⟨rfl, rfl, rfl⟩
theorem z134_4 : za 134 4 (.istore_n 3) 5 := ⟨rfl, rfl, rfl⟩
theorem z134_5 : za 134 5 (.iload_n 2) 6 := ⟨rfl, rfl, rfl⟩
theorem z134_6 : za 134 6 (.iload_n 3) 7 := ⟨rfl, rfl, rfl⟩
theorem z134_7 : zb (.if_icmp .ge) 134 7 20 10 := ⟨13, ⟨rfl, rfl, rfl⟩, rfl⟩
theorem z134_10 : za 134 10 (.aload_n 0) 11 := ⟨rfl, rfl, rfl⟩
theorem z134_11 : za 134 11 (.iload_n 2) 12 := ⟨rfl, rfl, rfl⟩
theorem z134_12 : za 134 12 (.iload_n 1) 13 := ⟨rfl, rfl, rfl⟩
theorem z134_13 : za 134 13 (.iastore) 14 := ⟨rfl, rfl, rfl⟩
theorem z134_14 : za 134 14 (.iinc 2 (1)) 17 := ⟨rfl, rfl, rfl⟩
theorem z134_17 : zb (.goto) 134 17 5 20 := ⟨(-12), ⟨rfl, rfl, rfl⟩, rfl⟩
theorem z134_20 : za 134 20 (.return_) 21 := ⟨rfl, rfl, rfl⟩
end
section
/-! Calls in runs. -/
/-- method j, called with as, comes back; R says with what -/
def zr (L : Nat) (xs : Nat → Int32) (d q j : Nat) (as : List Value) (w : zi_W) (cn sn : Nat) (R : Option Value → zi_W → Nat → Nat → Prop) : Prop :=
  ∃ ls', zi_ent as (zi_n zp j) = some ls' ∧ zw L xs d q j 0 ls' [] w cn sn (fun o w' cn' sn' => ∃ v, o = .inl v ∧ R v w' cn' sn')
/-- method j, called with as in the world w, answers v and changes nothing -/
def zv (d q j : Nat) (as : List Value) (w : zi_W) (v : Int32) : Prop := ∀ (L : Nat) (xs : Nat → Int32) (cn sn : Nat), zr L xs d q j as w cn sn (fun r w' cn' sn' => r = some (.int v) ∧ w' = w ∧ cn' = cn ∧ sn' = sn)
theorem zi_pri_i {P : zi_P} {d q k pc n x j m : Nat} {v0 : Value} {ls : zi_L} {st : List Value} {w : zi_W} {cn sn : Nat} (hp : zi_pool P k x = some (2, j, m, v0)) : zi_pri P d q k pc n (.invokespecial x) ls st w cn sn = none := by
  unfold zi_pri
  split
  · rename_i h
    cases h
    simp only [hp]
  · rename_i h
    cases h
  · rfl
theorem zi_pri_s {P : zi_P} {d q k pc n x j m : Nat} {v0 : Value} {ls : zi_L} {st : List Value} {w : zi_W} {cn sn : Nat} (hp : zi_pool P k x = some (3, j, m, v0)) : zi_pri P d q k pc n (.invokestatic x) ls st w cn sn = none := by
  unfold zi_pri
  split
  · rename_i h
    cases h
  · rename_i h
    cases h
    simp only [hp]
  · rfl
section ZCA
variable {L : Nat} {xs : Nat → Int32} {d q k pc p j m : Nat} {ls : zi_L} {st as rest : List Value} {w : zi_W} {cn sn : Nat} {Q : zi_O → zi_W → Nat → Nat → Prop} {R : Option Value → zi_W → Nat → Nat → Prop}
theorem zr.mono {R' : Option Value → zi_W → Nat → Nat → Prop} (h : zr L xs d q j as w cn sn R) (hR : ∀ v w' cn' sn', R v w' cn' sn' → R' v w' cn' sn') : zr L xs d q j as w cn sn R' := by
  obtain ⟨ls', h1, h2⟩ := h
  refine ⟨ls', h1, h2.mono fun o w' cn' sn' h => ?_⟩
  obtain ⟨v, rfl, h⟩ := h
  exact ⟨v, rfl, hR _ _ _ _ h⟩
theorem zw_cv {ci r n : Nat} {fs : List Value} (hc : za_v k pc j m ci p) (hn : zi_n zp j = n) (hpop : zi_pop m [] st = some (as, .ref r :: rest)) (hg : zi_get w r = some (.inr (ci, fs))) (hsum : (rest.map (fun v => v.category)).sum ≤ 8) (hq : 19 + n ≤ q) (hs : zr L xs d (q - (19 + n)) j (.ref r :: as) w cn sn R)
    (kk : ∀ v w' cn' sn', R v w' cn' sn' → zw L xs (d + 1) q k p ls (v.toList ++ rest) w' cn' sn' Q) : zw L xs (d + 1) q k pc ls st w cn sn Q := by
  obtain ⟨x, ⟨a, b, rfl⟩, hp⟩ := hc
  obtain ⟨ls', he, hs⟩ := hs
  subst hn
  refine zw_call0 ⟨a, b, rfl⟩ rfl (by simp only [zi_sim, zi_or, zi_num, zi_lcl, zi_br, zi_cel, zi_pri]) (j := j) (as := .ref r :: as) (r := rest) ?_ he hq (hs.mono fun o w' cn' sn' h => ?_)
  · simp only [zi_inv, hp, hpop, hg]
    rw [if_pos ⟨trivial, hsum⟩]
  · obtain ⟨v, rfl, h⟩ := h
    exact Or.inl ⟨v, rfl, kk v w' cn' sn' h⟩
theorem zw_ci {r n : Nat} (hc : za_i k pc j m p) (hn : zi_n zp j = n) (hpop : zi_pop m [] st = some (as, .ref r :: rest)) (hsum : (rest.map (fun v => v.category)).sum ≤ 8) (hq : 19 + n ≤ q) (hs : zr L xs d (q - (19 + n)) j (.ref r :: as) w cn sn R)
    (kk : ∀ v w' cn' sn', R v w' cn' sn' → zw L xs (d + 1) q k p ls (v.toList ++ rest) w' cn' sn' Q) : zw L xs (d + 1) q k pc ls st w cn sn Q := by
  obtain ⟨x, v0, ⟨a, b, rfl⟩, hp⟩ := hc
  obtain ⟨ls', he, hs⟩ := hs
  subst hn
  refine zw_call0 ⟨a, b, rfl⟩ rfl ?_ (j := j) (as := .ref r :: as) (r := rest) ?_ he hq (hs.mono fun o w' cn' sn' h => ?_)
  · simp only [zi_sim, zi_or, zi_num, zi_lcl, zi_br, zi_cel, zi_pri_i hp]
  · simp only [zi_inv, hp, hpop]
    rw [if_pos hsum]
  · obtain ⟨v, rfl, h⟩ := h
    exact Or.inl ⟨v, rfl, kk v w' cn' sn' h⟩
theorem zw_cs {n : Nat} (hc : za_s k pc j m p) (hn : zi_n zp j = n) (hpop : zi_pop m [] st = some (as, rest)) (hsum : (rest.map (fun v => v.category)).sum ≤ 8) (hq : 19 + n ≤ q) (hs : zr L xs d (q - (19 + n)) j as w cn sn R)
    (kk : ∀ v w' cn' sn', R v w' cn' sn' → zw L xs (d + 1) q k p ls (v.toList ++ rest) w' cn' sn' Q) : zw L xs (d + 1) q k pc ls st w cn sn Q := by
  obtain ⟨x, v0, ⟨a, b, rfl⟩, hp⟩ := hc
  obtain ⟨ls', he, hs⟩ := hs
  subst hn
  refine zw_call0 ⟨a, b, rfl⟩ rfl ?_ (j := j) (as := as) (r := rest) ?_ he hq (hs.mono fun o w' cn' sn' h => ?_)
  · simp only [zi_sim, zi_or, zi_num, zi_lcl, zi_br, zi_cel, zi_pri_s hp]
  · simp only [zi_inv, hp, hpop]
    rw [if_pos hsum]
  · obtain ⟨v, rfl, h⟩ := h
    exact Or.inl ⟨v, rfl, kk v w' cn' sn' h⟩
theorem zw_vv {ci r n : Nat} {fs : List Value} {v : Int32} (hc : za_v k pc j m ci p) (hn : zi_n zp j = n) (hpop : zi_pop m [] st = some (as, .ref r :: rest)) (hg : zi_get w r = some (.inr (ci, fs))) (hsum : (rest.map (fun v => v.category)).sum ≤ 8) (hq : 19 + n ≤ q) (hs : zv d (q - (19 + n)) j (.ref r :: as) w v)
    (kk : zw L xs (d + 1) q k p ls (.int v :: rest) w cn sn Q) : zw L xs (d + 1) q k pc ls st w cn sn Q :=
  zw_cv hc hn hpop hg hsum hq (hs L xs cn sn) fun r w' cn' sn' h => by
    obtain ⟨rfl, rfl, rfl, rfl⟩ := h
    exact kk
theorem zw_vs {n : Nat} {v : Int32} (hc : za_s k pc j m p) (hn : zi_n zp j = n) (hpop : zi_pop m [] st = some (as, rest)) (hsum : (rest.map (fun v => v.category)).sum ≤ 8) (hq : 19 + n ≤ q) (hs : zv d (q - (19 + n)) j as w v)
    (kk : zw L xs (d + 1) q k p ls (.int v :: rest) w cn sn Q) : zw L xs (d + 1) q k pc ls st w cn sn Q :=
  zw_cs hc hn hpop hsum hq (hs L xs cn sn) fun r w' cn' sn' h => by
    obtain ⟨rfl, rfl, rfl, rfl⟩ := h
    exact kk
end ZCA
end
section
/-! Whole numbers in runs: an int by its number, and rules on them. -/
def iI (z : Int) : Int32 := Int32.ofInt z
abbrev iV (z : Int) : Value := .int (iI z)
def iA (f : Nat → Int) : Nat → Int32 := fun j => iI (f j)
def iU (f : Nat → Int) (n : Nat) (z : Int) : Nat → Int := fun j => if j = n then z else f j
abbrev iR (z : Int) : Prop := -2147483648 ≤ z ∧ z < 2147483648
theorem iI_toInt {z : Int} (h : iR z) : (iI z).toInt = z := Int32.toInt_ofInt_of_le (by omega) (by omega)
theorem iI_of (x : Int32) : iI x.toInt = x := Int32.ofInt_toInt x
theorem iI_rng (x : Int32) : iR x.toInt := ⟨Int32.le_toInt x, Int32.toInt_lt x⟩
theorem iI_ex (x : Int32) : ∃ z : Int, iR z ∧ x = iI z := ⟨x.toInt, iI_rng x, (iI_of x).symm⟩
theorem iI_lt {a b : Int} (ha : iR a) (hb : iR b) : iI a < iI b ↔ a < b := by rw [Int32.lt_iff_toInt_lt, iI_toInt ha, iI_toInt hb]
theorem iI_le {a b : Int} (ha : iR a) (hb : iR b) : iI a ≤ iI b ↔ a ≤ b := by rw [Int32.le_iff_toInt_le, iI_toInt ha, iI_toInt hb]
theorem iI_eq {a b : Int} (ha : iR a) (hb : iR b) : iI a = iI b ↔ a = b := by
  constructor
  · intro h
    rw [← iI_toInt ha, ← iI_toInt hb, h]
  · intro h; rw [h]
theorem iI_add (a b : Int) : iI a + iI b = iI (a + b) := (Int32.ofInt_add a b).symm
theorem iI_sub (a b : Int) : iI a - iI b = iI (a - b) := (Int32.ofInt_sub a b).symm
theorem iI_mul (a b : Int) : iI a * iI b = iI (a * b) := (Int32.ofInt_mul a b).symm
theorem iI_clamp {z : Int} (h : iR z) : (iI z).toNatClampNeg = z.toNat := Int32.toNatClampNeg_ofInt_of_le (by omega) (by omega)
theorem iI_0 : iI 0 = 0 := by decide +kernel
theorem iI_nat (n : Nat) : Int32.ofNat n = iI (n : Int) := Int32.ofInt_eq_ofNat.symm
theorem iI_div {a b : Int} (ha : 0 ≤ a ∧ a < 2147483648) (hb : 0 < b ∧ b < 2147483648) : iI a / iI b = iI (a / b) := by
  apply Int32.toInt_inj.mp
  have h1 : 0 ≤ a / b := Int.ediv_nonneg ha.1 (by omega)
  have h2 : a / b ≤ a := Int.ediv_le_self b ha.1
  rw [Int32.toInt_div_of_ne_left _ _ (fun q => by have := congrArg Int32.toInt q; rw [iI_toInt (by omega)] at this; rw [show Int32.minValue.toInt = -2147483648 by decide +kernel] at this; omega), iI_toInt (by omega), iI_toInt (by omega), iI_toInt (by omega), Int.tdiv_eq_ediv_of_nonneg ha.1]
theorem iI_rem {a b : Int} (ha : 0 ≤ a ∧ a < 2147483648) (hb : 0 < b ∧ b < 2147483648) : iI a - iI a / iI b * iI b = iI (a % b) := by
  rw [iI_div ha hb, iI_mul, iI_sub, Int.mul_comm, ← Int.emod_def]
theorem iI_in {z : Int} {n : Nat} (h : 0 ≤ z ∧ z < n) (hn : n ≤ 2147483647) : zi_in (iI z) n := by
  rintro (q | q)
  · rw [← iI_0, iI_lt (by omega) (by omega)] at q; omega
  · rw [iI_clamp (by omega)] at q; omega
theorem iA_upd (f : Nat → Int) (n : Nat) (z : Int) : upd (iA f) n (iI z) = iA (iU f n z) := by
  funext j
  unfold upd iA iU
  split <;> rfl
theorem iU_same (f : Nat → Int) (n : Nat) (z : Int) : iU f n z n = z := if_pos rfl
theorem iU_ne (f : Nat → Int) {n j : Nat} (z : Int) (h : j ≠ n) : iU f n z j = f j := if_neg h
theorem iA_at (f : Nat → Int) (j : Nat) : iA f j = iI (f j) := rfl
section ZJ
variable {L : Nat} {xs : Nat → Int32} {d q k pc p t : Nat} {ls : zi_L} {st : List Value} {w : zi_W} {cn sn : Nat} {Q : zi_O → zi_W → Nat → Nat → Prop}
theorem zj_add {a b : Int} (hc : za k pc .iadd p) (kk : zw L xs d q k p ls (iV (a + b) :: st) w cn sn Q) : zw L xs d q k pc ls (iV b :: iV a :: st) w cn sn Q := zw_iadd hc (by rw [iI_add]; exact kk)
theorem zj_sub {a b : Int} (hc : za k pc .isub p) (kk : zw L xs d q k p ls (iV (a - b) :: st) w cn sn Q) : zw L xs d q k pc ls (iV b :: iV a :: st) w cn sn Q := zw_isub hc (by rw [iI_sub]; exact kk)
theorem zj_mul {a b : Int} (hc : za k pc .imul p) (kk : zw L xs d q k p ls (iV (a * b) :: st) w cn sn Q) : zw L xs d q k pc ls (iV b :: iV a :: st) w cn sn Q := zw_imul hc (by rw [iI_mul]; exact kk)
theorem zj_div {a b : Int} (hc : za k pc .idiv p) (ha : 0 ≤ a ∧ a < 2147483648) (hb : 0 < b ∧ b < 2147483648) (kk : zw L xs d q k p ls (iV (a / b) :: st) w cn sn Q) : zw L xs d q k pc ls (iV b :: iV a :: st) w cn sn Q :=
  zw_idiv hc (fun h => by rw [← iI_0, iI_eq (by omega) (by omega)] at h; omega) (by rw [iI_div ha hb]; exact kk)
theorem zj_rem {a b : Int} (hc : za k pc .irem p) (ha : 0 ≤ a ∧ a < 2147483648) (hb : 0 < b ∧ b < 2147483648) (kk : zw L xs d q k p ls (iV (a % b) :: st) w cn sn Q) : zw L xs d q k pc ls (iV b :: iV a :: st) w cn sn Q :=
  zw_irem hc (fun h => by rw [← iI_0, iI_eq (by omega) (by omega)] at h; omega) (by rw [iI_rem ha hb]; exact kk)
theorem zj_iinc {j : Nat} {n z : Int} {ls' : zi_L} (hc : za k pc (.iinc j n) p) (hl : zi_loc ls j = some (iV z)) (hs : zi_set1 ls j (iV (z + n)) = some ls') (kk : zw L xs d q k p ls' st w cn sn Q) : zw L xs d q k pc ls st w cn sn Q :=
  zw_iinc hc hl (iI_add z n) hs kk
theorem zj_ald {r n : Nat} {z : Int} {f : Nat → Int} (hc : za k pc .iaload p) (hg : zi_get w r = some (.inl (0, n, .inl (iA f)))) (hj : 0 ≤ z ∧ z < n) (hn : n ≤ 2147483647) (kk : zw L xs d q k p ls (iV (f z.toNat) :: st) w cn sn Q) : zw L xs d q k pc ls (iV z :: .ref r :: st) w cn sn Q :=
  zw_iald hc hg (iI_in hj hn) (by rw [iI_clamp (by omega)]; exact kk)
theorem zj_bld {r n : Nat} {z : Int} {f : Nat → Int} (hc : za k pc .baload p) (hg : zi_get w r = some (.inl (1, n, .inl (iA f)))) (hj : 0 ≤ z ∧ z < n) (hn : n ≤ 2147483647) (kk : zw L xs d q k p ls (iV (f z.toNat) :: st) w cn sn Q) : zw L xs d q k pc ls (iV z :: .ref r :: st) w cn sn Q :=
  zw_bald hc hg (iI_in hj hn) (by rw [iI_clamp (by omega)]; exact kk)
theorem zj_ast {r n : Nat} {z x : Int} {f : Nat → Int} (hc : za k pc .iastore p) (hg : zi_get w r = some (.inl (0, n, .inl (iA f)))) (hj : 0 ≤ z ∧ z < n) (hn : n ≤ 2147483647) (kk : zw L xs d q k p ls st (w.set r (.inl (0, n, .inl (iA (iU f z.toNat x))))) cn sn Q) : zw L xs d q k pc ls (iV x :: iV z :: .ref r :: st) w cn sn Q :=
  zw_iast hc hg (iI_in hj hn) (by rw [iI_clamp (by omega), iA_upd]; exact kk)
theorem zj_bst {r n : Nat} {z x : Int} {f : Nat → Int} (hc : za k pc .bastore p) (hg : zi_get w r = some (.inl (1, n, .inl (iA f)))) (hj : 0 ≤ z ∧ z < n) (hn : n ≤ 2147483647) (hx : x = 0 ∨ x = 1) (kk : zw L xs d q k p ls st (w.set r (.inl (1, n, .inl (iA (iU f z.toNat x))))) cn sn Q) : zw L xs d q k pc ls (iV x :: iV z :: .ref r :: st) w cn sn Q :=
  zw_bast hc hg (iI_in hj hn) (by rcases hx with rfl | rfl; left; decide +kernel; right; decide +kernel) (by rw [iI_clamp (by omega), iA_upd]; exact kk)
theorem zj_ald3 {r n v : Nat} {z : Int} {f : Nat → Option Nat} (hc : za k pc .aaload p) (hg : zi_get w r = some (.inl (3, n, .inr (.inr (.inr (.inr f)))))) (hj : 0 ≤ z ∧ z < n) (hn : n ≤ 2147483647) (hv : f z.toNat = some v) (kk : zw L xs d q k p ls (.ref v :: st) w cn sn Q) : zw L xs d q k pc ls (iV z :: .ref r :: st) w cn sn Q :=
  zw_aald hc hg (iI_in hj hn) (by rw [iI_clamp (by omega)]; exact hv) kk
theorem zj_alen {r n : Nat} {f : Nat → Int32} (hc : za k pc .arraylength p) (hg : zi_get w r = some (.inl (0, n, .inl f))) (kk : zw L xs d q k p ls (iV n :: st) w cn sn Q) : zw L xs d q k pc ls (.ref r :: st) w cn sn Q :=
  zw_alen hc hg (by rw [iI_nat]; exact kk)
theorem zj_bret {z : Int} (hc : za k pc .ireturn p) (hr : zi_r zp k = some .boolean) (hx : z = 0 ∨ z = 1) (kk : Q (.inl (some (iV z))) w cn sn) : zw L xs d q k pc ls [iV z] w cn sn Q :=
  zw_bret hc hr (by rcases hx with rfl | rfl; left; decide +kernel; right; decide +kernel) kk
theorem zj_if_eq {a : Int} (hc : zb (.ifCond .eq) k pc t p) (ha : iR a) (kt : a = 0 → zw L xs d q k t ls st w cn sn Q) (kf : ¬ (a = 0) → zw L xs d q k p ls st w cn sn Q) : zw L xs d q k pc ls (iV a :: st) w cn sn Q :=
  zw_if_eq hc (fun h => kt ((iI_eq ha (by omega)).mp (by rw [iI_0]; exact h))) (fun h => kf (fun z => h (by have z2 := (iI_eq ha (by omega)).mpr z; rw [iI_0] at z2; exact z2)))
theorem zj_if_ne {a : Int} (hc : zb (.ifCond .ne) k pc t p) (ha : iR a) (kt : ¬ a = 0 → zw L xs d q k t ls st w cn sn Q) (kf : ¬ (¬ a = 0) → zw L xs d q k p ls st w cn sn Q) : zw L xs d q k pc ls (iV a :: st) w cn sn Q :=
  zw_if_ne hc (fun h => kt ((not_congr (iI_eq ha (by omega))).mp (by rw [iI_0]; exact h))) (fun h => kf (fun z => h (by have z2 := (not_congr (iI_eq ha (by omega))).mpr z; rw [iI_0] at z2; exact z2)))
theorem zj_if_lt {a : Int} (hc : zb (.ifCond .lt) k pc t p) (ha : iR a) (kt : a < 0 → zw L xs d q k t ls st w cn sn Q) (kf : ¬ (a < 0) → zw L xs d q k p ls st w cn sn Q) : zw L xs d q k pc ls (iV a :: st) w cn sn Q :=
  zw_if_lt hc (fun h => kt ((iI_lt ha (by omega)).mp (by rw [iI_0]; exact h))) (fun h => kf (fun z => h (by have z2 := (iI_lt ha (by omega)).mpr z; rw [iI_0] at z2; exact z2)))
theorem zj_if_ge {a : Int} (hc : zb (.ifCond .ge) k pc t p) (ha : iR a) (kt : 0 ≤ a → zw L xs d q k t ls st w cn sn Q) (kf : ¬ (0 ≤ a) → zw L xs d q k p ls st w cn sn Q) : zw L xs d q k pc ls (iV a :: st) w cn sn Q :=
  zw_if_ge hc (fun h => kt ((iI_le (by omega) ha).mp (by rw [iI_0]; exact h))) (fun h => kf (fun z => h (by have z2 := (iI_le (by omega) ha).mpr z; rw [iI_0] at z2; exact z2)))
theorem zj_if_gt {a : Int} (hc : zb (.ifCond .gt) k pc t p) (ha : iR a) (kt : 0 < a → zw L xs d q k t ls st w cn sn Q) (kf : ¬ (0 < a) → zw L xs d q k p ls st w cn sn Q) : zw L xs d q k pc ls (iV a :: st) w cn sn Q :=
  zw_if_gt hc (fun h => kt ((iI_lt (by omega) ha).mp (by rw [iI_0]; exact h))) (fun h => kf (fun z => h (by have z2 := (iI_lt (by omega) ha).mpr z; rw [iI_0] at z2; exact z2)))
theorem zj_if_le {a : Int} (hc : zb (.ifCond .le) k pc t p) (ha : iR a) (kt : a ≤ 0 → zw L xs d q k t ls st w cn sn Q) (kf : ¬ (a ≤ 0) → zw L xs d q k p ls st w cn sn Q) : zw L xs d q k pc ls (iV a :: st) w cn sn Q :=
  zw_if_le hc (fun h => kt ((iI_le ha (by omega)).mp (by rw [iI_0]; exact h))) (fun h => kf (fun z => h (by have z2 := (iI_le ha (by omega)).mpr z; rw [iI_0] at z2; exact z2)))
theorem zj_icmp_eq {a b : Int} (hc : zb (.if_icmp .eq) k pc t p) (ha : iR a) (hb : iR b) (kt : a = b → zw L xs d q k t ls st w cn sn Q) (kf : ¬ (a = b) → zw L xs d q k p ls st w cn sn Q) : zw L xs d q k pc ls (iV b :: iV a :: st) w cn sn Q :=
  zw_icmp_eq hc (fun h => kt ((iI_eq ha hb).mp h)) (fun h => kf (fun z => h ((iI_eq ha hb).mpr z)))
theorem zj_icmp_ne {a b : Int} (hc : zb (.if_icmp .ne) k pc t p) (ha : iR a) (hb : iR b) (kt : ¬ a = b → zw L xs d q k t ls st w cn sn Q) (kf : ¬ (¬ a = b) → zw L xs d q k p ls st w cn sn Q) : zw L xs d q k pc ls (iV b :: iV a :: st) w cn sn Q :=
  zw_icmp_ne hc (fun h => kt ((not_congr (iI_eq ha hb)).mp h)) (fun h => kf (fun z => h ((not_congr (iI_eq ha hb)).mpr z)))
theorem zj_icmp_lt {a b : Int} (hc : zb (.if_icmp .lt) k pc t p) (ha : iR a) (hb : iR b) (kt : a < b → zw L xs d q k t ls st w cn sn Q) (kf : ¬ (a < b) → zw L xs d q k p ls st w cn sn Q) : zw L xs d q k pc ls (iV b :: iV a :: st) w cn sn Q :=
  zw_icmp_lt hc (fun h => kt ((iI_lt ha hb).mp h)) (fun h => kf (fun z => h ((iI_lt ha hb).mpr z)))
theorem zj_icmp_ge {a b : Int} (hc : zb (.if_icmp .ge) k pc t p) (ha : iR a) (hb : iR b) (kt : b ≤ a → zw L xs d q k t ls st w cn sn Q) (kf : ¬ (b ≤ a) → zw L xs d q k p ls st w cn sn Q) : zw L xs d q k pc ls (iV b :: iV a :: st) w cn sn Q :=
  zw_icmp_ge hc (fun h => kt ((iI_le hb ha).mp h)) (fun h => kf (fun z => h ((iI_le hb ha).mpr z)))
theorem zj_icmp_gt {a b : Int} (hc : zb (.if_icmp .gt) k pc t p) (ha : iR a) (hb : iR b) (kt : b < a → zw L xs d q k t ls st w cn sn Q) (kf : ¬ (b < a) → zw L xs d q k p ls st w cn sn Q) : zw L xs d q k pc ls (iV b :: iV a :: st) w cn sn Q :=
  zw_icmp_gt hc (fun h => kt ((iI_lt hb ha).mp h)) (fun h => kf (fun z => h ((iI_lt hb ha).mpr z)))
theorem zj_icmp_le {a b : Int} (hc : zb (.if_icmp .le) k pc t p) (ha : iR a) (hb : iR b) (kt : a ≤ b → zw L xs d q k t ls st w cn sn Q) (kf : ¬ (a ≤ b) → zw L xs d q k p ls st w cn sn Q) : zw L xs d q k pc ls (iV b :: iV a :: st) w cn sn Q :=
  zw_icmp_le hc (fun h => kt ((iI_le ha hb).mp h)) (fun h => kf (fun z => h ((iI_le ha hb).mpr z)))
end ZJ
/-- what a world holds after one cell is set -/
theorem zi_get_set {w : zi_W} {a b : Nat} {c : va_E} (h : b ≠ a) : zi_get (w.set a c) b = zi_get w b := by
  unfold zi_get
  split
  · rfl
  · rw [List.getElem?_set_ne (Ne.symm h)]
theorem zi_get_self {w : zi_W} {a : Nat} {c c0 : va_E} (h : zi_get w a = some c0) : zi_get (w.set a c) a = some c := by
  unfold zi_get at h ⊢
  split at h
  · cases h
  · rename_i hx
    rw [if_neg hx, List.getElem?_set_self (List.getElem?_eq_some_iff.mp h).1]
end
section
/-! The class Game: what its methods answer. (Laid out by gen/tpl.py from tpl/40.game.tpl.) -/
theorem zj_ldc {L : Nat} {xs : Nat → Int32} {d q k pc p : Nat} {ls : zi_L} {st : List Value} {w : zi_W} {cn sn : Nat} {Q : zi_O → zi_W → Nat → Nat → Prop} {v : Int32} {z : Int} (hc : za_c k pc p v) (hv : v = iI z) (kk : zw L xs d q k p ls (iV z :: st) w cn sn Q) : zw L xs d q k pc ls st w cn sn Q := by
  subst hv
  exact zw_ldc hc kk
/-- the game at place g: columns, cells, build, fill, suits, ranks -/
def gmA (w : zi_W) (g : Nat) (G : Nat → Int) : Prop := zi_get w g = some (.inr (1, [iV (G 0), iV (G 1), iV (G 2), iV (G 3), iV (G 4), iV (G 5)]))
def gmV (G : Nat → Int) : Prop := (2 ≤ G 0 ∧ G 0 ≤ 8) ∧ (0 ≤ G 1 ∧ G 1 ≤ 4) ∧ (0 ≤ G 2 ∧ G 2 ≤ 2) ∧ (0 ≤ G 3 ∧ G 3 ≤ 2) ∧ (1 ≤ G 4 ∧ G 4 ≤ 4) ∧ (1 ≤ G 5 ∧ G 5 ≤ 13)
abbrev b2 (P : Prop) [Decidable P] : Int := if P then 1 else 0
abbrev gCol (G : Nat → Int) (z : Int) : Prop := 0 ≤ z ∧ z < G 0
abbrev gCel (G : Nat → Int) (z : Int) : Prop := 8 ≤ z ∧ z < 8 + G 1
abbrev gPla (G : Nat → Int) (z : Int) : Prop := gCol G z ∨ gCel G z ∨ z = 12
abbrev gAll (G : Nat → Int) : Int := G 4 * G 5
abbrev gRank (G : Nat → Int) (c : Int) : Int := c / G 4 + 1
abbrev gSuit (G : Nat → Int) (c : Int) : Int := c % G 4
abbrev gRed (s : Int) : Prop := s = 1 ∨ s = 2
section ZGM
variable {d q g : Nat} {w : zi_W} {G : Nat → Int} {z c : Int}
theorem b2_t {P : Prop} [Decidable P] (h : P) : b2 P = 1 := if_pos h
theorem b2_f {P : Prop} [Decidable P] (h : ¬ P) : b2 P = 0 := if_neg h
theorem b2_r {P : Prop} [Decidable P] : b2 P = 0 ∨ b2 P = 1 := by
  by_cases h : P
  · exact Or.inr (if_pos h)
  · exact Or.inl (if_neg h)
theorem zj_b_eq {L : Nat} {xs : Nat → Int32} {k pc p t : Nat} {ls : zi_L} {st : List Value} {cn sn : Nat} {Q : zi_O → zi_W → Nat → Nat → Prop} {P : Prop} [Decidable P] (hc : zb (.ifCond .eq) k pc t p) (kt : ¬ P → zw L xs d q k t ls st w cn sn Q) (kf : P → zw L xs d q k p ls st w cn sn Q) : zw L xs d q k pc ls (iV (b2 P) :: st) w cn sn Q := by
  by_cases h : P
  · rw [b2_t h]
    exact zj_if_eq hc (by decide) (fun z => absurd z (by decide)) (fun _ => kf h)
  · rw [b2_f h]
    exact zj_if_eq hc (by decide) (fun _ => kt h) (fun z => absurd rfl z)
theorem zj_b_ne {L : Nat} {xs : Nat → Int32} {k pc p t : Nat} {ls : zi_L} {st : List Value} {cn sn : Nat} {Q : zi_O → zi_W → Nat → Nat → Prop} {P : Prop} [Decidable P] (hc : zb (.ifCond .ne) k pc t p) (kt : P → zw L xs d q k t ls st w cn sn Q) (kf : ¬ P → zw L xs d q k p ls st w cn sn Q) : zw L xs d q k pc ls (iV (b2 P) :: st) w cn sn Q := by
  by_cases h : P
  · rw [b2_t h]
    exact zj_if_ne hc (by decide) (fun _ => kt h) (fun z => absurd (by decide) z)
  · rw [b2_f h]
    exact zj_if_ne hc (by decide) (fun z => absurd rfl z) (fun _ => kf h)
theorem b2_inj {P P' : Prop} [Decidable P] [Decidable P'] : b2 P = b2 P' ↔ (P ↔ P') := by
  by_cases h : P <;> by_cases h' : P' <;> simp [b2, h, h']
theorem b2_rng {P : Prop} [Decidable P] : iR (b2 P) := by
  rcases b2_r (P := P) with h | h <;> rw [h] <;> decide
theorem zj_bb_eq {L : Nat} {xs : Nat → Int32} {k pc p t : Nat} {ls : zi_L} {st : List Value} {cn sn : Nat} {Q : zi_O → zi_W → Nat → Nat → Prop} {P P' : Prop} [Decidable P] [Decidable P'] (hc : zb (.if_icmp .eq) k pc t p) (kt : (P ↔ P') → zw L xs d q k t ls st w cn sn Q) (kf : ¬ (P ↔ P') → zw L xs d q k p ls st w cn sn Q) : zw L xs d q k pc ls (iV (b2 P') :: iV (b2 P) :: st) w cn sn Q :=
  zj_icmp_eq hc b2_rng b2_rng (fun h => kt (b2_inj.mp h)) (fun h => kf (fun z => h (b2_inj.mpr z)))
theorem zj_bb_ne {L : Nat} {xs : Nat → Int32} {k pc p t : Nat} {ls : zi_L} {st : List Value} {cn sn : Nat} {Q : zi_O → zi_W → Nat → Nat → Prop} {P P' : Prop} [Decidable P] [Decidable P'] (hc : zb (.if_icmp .ne) k pc t p) (kt : ¬ (P ↔ P') → zw L xs d q k t ls st w cn sn Q) (kf : (P ↔ P') → zw L xs d q k p ls st w cn sn Q) : zw L xs d q k pc ls (iV (b2 P') :: iV (b2 P) :: st) w cn sn Q :=
  zj_icmp_ne hc b2_rng b2_rng (fun h => kt (fun z => h (b2_inj.mpr z))) (fun h => kf (b2_inj.mp (Classical.not_not.mp h)))
theorem b2_c {P P' : Prop} [Decidable P] [Decidable P'] (h : P ↔ P') : b2 P = b2 P' := by
  by_cases q : P
  · rw [b2_t q, b2_t (h.mp q)]
  · rw [b2_f q, b2_f (fun z => q (h.mpr z))]
theorem zv_end {v v' : Int32} {w' : zi_W} {cn sn : Nat} (h : v = v') : ∃ u : Option Value, (Sum.inl (some (.int v)) : zi_O) = .inl u ∧ (u = some (.int v') ∧ w' = w' ∧ cn = cn ∧ sn = sn) := ⟨_, rfl, by rw [h], rfl, rfl, rfl⟩
theorem sp_isColumn (hg : gmA w g G) (hG : gmV G) (hz : iR z) : zv d q 29 [.ref g, iV z] w (iI (b2 (gCol G z))) := by
  intro L xs cn sn
  unfold gmA at hg
  unfold gmV at hG
  refine ⟨_, rfl, ?_⟩
  show zw _ _ _ _ 29 0 [some (.ref g), some (iV z)] [] _ _ _ _
  refine zw_iload_n z29_0 rfl ?_
  refine zj_if_lt z29_1 (by omega) (fun h1 => ?_) (fun h1 => ?_)
  · refine zw_iconst z29_16 (v := iI 0) rfl ?_
    refine zj_bret z29_17 rfl (by first | exact b2_r | omega) ?_
    exact zv_end (by first | rw [b2_t (by omega)] | rw [b2_f (by omega)])
  · refine zw_iload_n z29_4 rfl ?_
    refine zw_aload_n z29_5 rfl ?_
    refine zw_getf z29_6 (by assumption) (by rfl) ?_
    refine zj_icmp_ge z29_9 (by omega) (by omega) (fun h9 => ?_) (fun h9 => ?_)
    · refine zw_iconst z29_16 (v := iI 0) rfl ?_
      refine zj_bret z29_17 rfl (by first | exact b2_r | omega) ?_
      exact zv_end (by first | rw [b2_t (by omega)] | rw [b2_f (by omega)])
    · refine zw_iconst z29_12 (v := iI 1) rfl ?_
      refine zw_goto z29_13 ?_
      refine zj_bret z29_17 rfl (by first | exact b2_r | omega) ?_
      exact zv_end (by first | rw [b2_t (by omega)] | rw [b2_f (by omega)])
theorem sp_isCell (hg : gmA w g G) (hG : gmV G) (hz : iR z) : zv d q 30 [.ref g, iV z] w (iI (b2 (gCel G z))) := by
  intro L xs cn sn
  unfold gmA at hg
  unfold gmV at hG
  refine ⟨_, rfl, ?_⟩
  show zw _ _ _ _ 30 0 [some (.ref g), some (iV z)] [] _ _ _ _
  refine zw_iload_n z30_0 rfl ?_
  refine zw_bipush z30_1 (v := iI (8)) (by decide +kernel) ?_
  refine zj_icmp_lt z30_3 (by omega) (by omega) (fun h3 => ?_) (fun h3 => ?_)
  · refine zw_iconst z30_21 (v := iI 0) rfl ?_
    refine zj_bret z30_22 rfl (by first | exact b2_r | omega) ?_
    exact zv_end (by first | rw [b2_t (by omega)] | rw [b2_f (by omega)])
  · refine zw_iload_n z30_6 rfl ?_
    refine zw_bipush z30_7 (v := iI (8)) (by decide +kernel) ?_
    refine zw_aload_n z30_9 rfl ?_
    refine zw_getf z30_10 (by assumption) (by rfl) ?_
    refine zj_add z30_13 ?_
    refine zj_icmp_ge z30_14 (by omega) (by omega) (fun h14 => ?_) (fun h14 => ?_)
    · refine zw_iconst z30_21 (v := iI 0) rfl ?_
      refine zj_bret z30_22 rfl (by first | exact b2_r | omega) ?_
      exact zv_end (by first | rw [b2_t (by omega)] | rw [b2_f (by omega)])
    · refine zw_iconst z30_17 (v := iI 1) rfl ?_
      refine zw_goto z30_18 ?_
      refine zj_bret z30_22 rfl (by first | exact b2_r | omega) ?_
      exact zv_end (by first | rw [b2_t (by omega)] | rw [b2_f (by omega)])
theorem sp_isPlace (hg : gmA w g G) (hG : gmV G) (hz : iR z) (hd : 1 ≤ d) (hq : 21 ≤ q) : zv d q 31 [.ref g, iV z] w (iI (b2 (gPla G z))) := by
  intro L xs cn sn
  obtain ⟨d, rfl⟩ : ∃ e, d = e + 1 := ⟨d - 1, by omega⟩
  have hg' := hg
  unfold gmA at hg'
  refine ⟨_, rfl, ?_⟩
  show zw _ _ _ _ 31 0 [some (.ref g), some (iV z)] [] _ _ _ _
  refine zw_aload_n z31_0 rfl ?_
  refine zw_iload_n z31_1 rfl ?_
  refine zw_vv (n := 2) z31_2 rfl rfl (by assumption) (Nat.le_of_ble_eq_true rfl) (by omega) (sp_isColumn hg hG (by omega)) ?_
  refine zj_b_ne z31_5 (fun h5 => ?_) (fun h5 => ?_)
  · refine zw_iconst z31_22 (v := iI 1) rfl ?_
    refine zw_goto z31_23 ?_
    refine zj_bret z31_27 rfl (by first | exact b2_r | omega) ?_
    exact zv_end (by first | rw [b2_t (by omega)] | rw [b2_f (by omega)])
  · refine zw_aload_n z31_8 rfl ?_
    refine zw_iload_n z31_9 rfl ?_
    refine zw_vv (n := 2) z31_10 rfl rfl (by assumption) (Nat.le_of_ble_eq_true rfl) (by omega) (sp_isCell hg hG (by omega)) ?_
    refine zj_b_ne z31_13 (fun h13 => ?_) (fun h13 => ?_)
    · refine zw_iconst z31_22 (v := iI 1) rfl ?_
      refine zw_goto z31_23 ?_
      refine zj_bret z31_27 rfl (by first | exact b2_r | omega) ?_
      exact zv_end (by first | rw [b2_t (by omega)] | rw [b2_f (by omega)])
    · refine zw_iload_n z31_16 rfl ?_
      refine zw_bipush z31_17 (v := iI (12)) (by decide +kernel) ?_
      refine zj_icmp_ne z31_19 (by omega) (by omega) (fun h19 => ?_) (fun h19 => ?_)
      · refine zw_iconst z31_26 (v := iI 0) rfl ?_
        refine zj_bret z31_27 rfl (by first | exact b2_r | omega) ?_
        exact zv_end (by first | rw [b2_t (by omega)] | rw [b2_f (by omega)])
      · refine zw_iconst z31_22 (v := iI 1) rfl ?_
        refine zw_goto z31_23 ?_
        refine zj_bret z31_27 rfl (by first | exact b2_r | omega) ?_
        exact zv_end (by first | rw [b2_t (by omega)] | rw [b2_f (by omega)])
theorem sp_cardCount (hg : gmA w g G) : zv d q 32 [.ref g] w (iI (gAll G)) := by
  intro L xs cn sn
  unfold gmA at hg
  refine ⟨_, rfl, ?_⟩
  show zw _ _ _ _ 32 0 [some (.ref g)] [] _ _ _ _
  refine zw_aload_n z32_0 rfl ?_
  refine zw_getf z32_1 (by assumption) (by rfl) ?_
  refine zw_aload_n z32_4 rfl ?_
  refine zw_getf z32_5 (by assumption) (by rfl) ?_
  refine zj_mul z32_8 ?_
  refine zw_iret z32_9 rfl ?_
  exact zv_end rfl
theorem gAll_rng (hG : gmV G) : 1 ≤ gAll G ∧ gAll G ≤ 52 := by
  obtain ⟨-, -, -, -, h4, h5⟩ := hG
  have h1 : 1 * 1 ≤ G 4 * G 5 := Int.mul_le_mul (by omega) (by omega) (by omega) (by omega)
  have h2 : G 4 * G 5 ≤ 4 * 13 := Int.mul_le_mul (by omega) (by omega) (by omega) (by omega)
  exact ⟨by show 1 ≤ G 4 * G 5; omega, by show G 4 * G 5 ≤ 52; omega⟩
theorem sp_isCard (hg : gmA w g G) (hG : gmV G) (hz : iR z) (hd : 1 ≤ d) (hq : 20 ≤ q) : zv d q 33 [.ref g, iV z] w (iI (b2 (0 ≤ z ∧ z < gAll G))) := by
  intro L xs cn sn
  obtain ⟨d, rfl⟩ : ∃ e, d = e + 1 := ⟨d - 1, by omega⟩
  have hg' := hg
  unfold gmA at hg'
  have hA := gAll_rng hG
  refine ⟨_, rfl, ?_⟩
  show zw _ _ _ _ 33 0 [some (.ref g), some (iV z)] [] _ _ _ _
  refine zw_iload_n z33_0 rfl ?_
  refine zj_if_lt z33_1 (by omega) (fun h1 => ?_) (fun h1 => ?_)
  · refine zw_iconst z33_16 (v := iI 0) rfl ?_
    refine zj_bret z33_17 rfl (by first | exact b2_r | omega) ?_
    exact zv_end (by first | rw [b2_t (by omega)] | rw [b2_f (by omega)])
  · refine zw_iload_n z33_4 rfl ?_
    refine zw_aload_n z33_5 rfl ?_
    refine zw_vv (n := 1) z33_6 rfl rfl (by assumption) (Nat.le_of_ble_eq_true rfl) (by omega) (sp_cardCount hg) ?_
    refine zj_icmp_ge z33_9 (by omega) (by omega) (fun h9 => ?_) (fun h9 => ?_)
    · refine zw_iconst z33_16 (v := iI 0) rfl ?_
      refine zj_bret z33_17 rfl (by first | exact b2_r | omega) ?_
      exact zv_end (by first | rw [b2_t (by omega)] | rw [b2_f (by omega)])
    · refine zw_iconst z33_12 (v := iI 1) rfl ?_
      refine zw_goto z33_13 ?_
      refine zj_bret z33_17 rfl (by first | exact b2_r | omega) ?_
      exact zv_end (by first | rw [b2_t (by omega)] | rw [b2_f (by omega)])
theorem sp_rankOf (hg : gmA w g G) (hG : gmV G) (hc : 0 ≤ c ∧ c < 52) : zv d q 34 [.ref g, iV c] w (iI (gRank G c)) := by
  intro L xs cn sn
  unfold gmA at hg
  unfold gmV at hG
  refine ⟨_, rfl, ?_⟩
  show zw _ _ _ _ 34 0 [some (.ref g), some (iV c)] [] _ _ _ _
  refine zw_iload_n z34_0 rfl ?_
  refine zw_aload_n z34_1 rfl ?_
  refine zw_getf z34_2 (by assumption) (by rfl) ?_
  refine zj_div z34_5 (by omega) (by omega) ?_
  refine zw_iconst z34_6 (v := iI 1) rfl ?_
  refine zj_add z34_7 ?_
  refine zw_iret z34_8 rfl ?_
  exact zv_end rfl
theorem sp_suitOf (hg : gmA w g G) (hG : gmV G) (hc : 0 ≤ c ∧ c < 52) : zv d q 35 [.ref g, iV c] w (iI (gSuit G c)) := by
  intro L xs cn sn
  unfold gmA at hg
  unfold gmV at hG
  refine ⟨_, rfl, ?_⟩
  show zw _ _ _ _ 35 0 [some (.ref g), some (iV c)] [] _ _ _ _
  refine zw_iload_n z35_0 rfl ?_
  refine zw_aload_n z35_1 rfl ?_
  refine zw_getf z35_2 (by assumption) (by rfl) ?_
  refine zj_rem z35_5 (by omega) (by omega) ?_
  refine zw_iret z35_6 rfl ?_
  exact zv_end rfl
theorem sp_isRed (hz : iR z) : zv d q 36 [.ref g, iV z] w (iI (b2 (gRed z))) := by
  intro L xs cn sn
  refine ⟨_, rfl, ?_⟩
  show zw _ _ _ _ 36 0 [some (.ref g), some (iV z)] [] _ _ _ _
  refine zw_iload_n z36_0 rfl ?_
  refine zw_iconst z36_1 (v := iI 1) rfl ?_
  refine zj_icmp_eq z36_2 (by omega) (by omega) (fun h2 => ?_) (fun h2 => ?_)
  · refine zw_iconst z36_10 (v := iI 1) rfl ?_
    refine zw_goto z36_11 ?_
    refine zj_bret z36_15 rfl (by first | exact b2_r | omega) ?_
    exact zv_end (by first | rw [b2_t (by omega)] | rw [b2_f (by omega)])
  · refine zw_iload_n z36_5 rfl ?_
    refine zw_iconst z36_6 (v := iI 2) rfl ?_
    refine zj_icmp_ne z36_7 (by omega) (by omega) (fun h7 => ?_) (fun h7 => ?_)
    · refine zw_iconst z36_14 (v := iI 0) rfl ?_
      refine zj_bret z36_15 rfl (by first | exact b2_r | omega) ?_
      exact zv_end (by first | rw [b2_t (by omega)] | rw [b2_f (by omega)])
    · refine zw_iconst z36_10 (v := iI 1) rfl ?_
      refine zw_goto z36_11 ?_
      refine zj_bret z36_15 rfl (by first | exact b2_r | omega) ?_
      exact zv_end (by first | rw [b2_t (by omega)] | rw [b2_f (by omega)])
theorem gRank_rng (hG : gmV G) (hc : 0 ≤ c ∧ c < 52) : 1 ≤ gRank G c ∧ gRank G c ≤ 52 := by
  unfold gmV at hG
  have h1 : 0 ≤ c / G 4 := Int.ediv_nonneg (by omega) (by omega)
  have h2 : c / G 4 ≤ c := Int.ediv_le_self _ (by omega)
  exact ⟨by show 1 ≤ c / G 4 + 1; omega, by show c / G 4 + 1 ≤ 52; omega⟩
theorem gSuit_rng (hG : gmV G) : 0 ≤ gSuit G c ∧ gSuit G c < 4 := by
  unfold gmV at hG
  have h1 : 0 ≤ c % G 4 := Int.emod_nonneg _ (by omega)
  have h2 : c % G 4 < G 4 := Int.emod_lt_of_pos _ (by omega)
  exact ⟨h1, by show c % G 4 < 4; omega⟩
abbrev gFit (G : Nat → Int) (c o : Int) : Prop := gRank G c + 1 = gRank G o ∧ (G 2 = 0 → ¬ (gRed (gSuit G c) ↔ gRed (gSuit G o))) ∧ (G 2 = 1 → gSuit G c = gSuit G o)
abbrev gEmp (G : Nat → Int) (c : Int) : Prop := G 3 = 0 ∨ (G 3 = 1 ∧ gRank G c = G 5)
theorem sp_fitsOn {o : Int} (hg : gmA w g G) (hG : gmV G) (hc : 0 ≤ c ∧ c < 52) (ho : 0 ≤ o ∧ o < 52) (hd : 1 ≤ d) (hq : 21 ≤ q) : zv d q 37 [.ref g, iV c, iV o] w (iI (b2 (gFit G c o))) := by
  intro L xs cn sn
  obtain ⟨d, rfl⟩ : ∃ e, d = e + 1 := ⟨d - 1, by omega⟩
  have hg' := hg
  unfold gmA at hg'
  have r1 := gRank_rng hG hc
  have r2 := gRank_rng hG ho
  have s1 := gSuit_rng (c := c) hG
  have s2 := gSuit_rng (c := o) hG
  have hG' := hG
  unfold gmV at hG'
  refine ⟨_, rfl, ?_⟩
  show zw _ _ _ _ 37 0 [some (.ref g), some (iV c), some (iV o)] [] _ _ _ _
  refine zw_aload_n z37_0 rfl ?_
  refine zw_iload_n z37_1 rfl ?_
  refine zw_vv (n := 2) z37_2 rfl rfl (by assumption) (Nat.le_of_ble_eq_true rfl) (by omega) (sp_rankOf hg hG (by omega)) ?_
  refine zw_iconst z37_5 (v := iI 1) rfl ?_
  refine zj_add z37_6 ?_
  refine zw_aload_n z37_7 rfl ?_
  refine zw_iload_n z37_8 rfl ?_
  refine zw_vv (n := 2) z37_9 rfl rfl (by assumption) (Nat.le_of_ble_eq_true rfl) (by omega) (sp_rankOf hg hG (by omega)) ?_
  refine zj_icmp_eq z37_12 (by omega) (by omega) (fun h12 => ?_) (fun h12 => ?_)
  · refine zw_aload_n z37_17 rfl ?_
    refine zw_getf z37_18 (by assumption) (by rfl) ?_
    refine zj_if_ne z37_21 (by omega) (fun h21 => ?_) (fun h21 => ?_)
    · refine zw_aload_n z37_51 rfl ?_
      refine zw_getf z37_52 (by assumption) (by rfl) ?_
      refine zw_iconst z37_55 (v := iI 1) rfl ?_
      refine zj_icmp_ne z37_56 (by omega) (by omega) (fun h56 => ?_) (fun h56 => ?_)
      · refine zw_iconst z37_72 (v := iI 1) rfl ?_
        refine zw_goto z37_73 ?_
        refine zj_bret z37_77 rfl (by first | exact b2_r | omega) ?_
        exact zv_end (by first | rw [b2_t (by first | omega | grind)] | rw [b2_f (by first | omega | grind)])
      · refine zw_aload_n z37_59 rfl ?_
        refine zw_iload_n z37_60 rfl ?_
        refine zw_vv (n := 2) z37_61 rfl rfl (by assumption) (Nat.le_of_ble_eq_true rfl) (by omega) (sp_suitOf hg hG (by omega)) ?_
        refine zw_aload_n z37_64 rfl ?_
        refine zw_iload_n z37_65 rfl ?_
        refine zw_vv (n := 2) z37_66 rfl rfl (by assumption) (Nat.le_of_ble_eq_true rfl) (by omega) (sp_suitOf hg hG (by omega)) ?_
        refine zj_icmp_ne z37_69 (by omega) (by omega) (fun h69 => ?_) (fun h69 => ?_)
        · refine zw_iconst z37_76 (v := iI 0) rfl ?_
          refine zj_bret z37_77 rfl (by first | exact b2_r | omega) ?_
          exact zv_end (by first | rw [b2_t (by first | omega | grind)] | rw [b2_f (by first | omega | grind)])
        · refine zw_iconst z37_72 (v := iI 1) rfl ?_
          refine zw_goto z37_73 ?_
          refine zj_bret z37_77 rfl (by first | exact b2_r | omega) ?_
          exact zv_end (by first | rw [b2_t (by first | omega | grind)] | rw [b2_f (by first | omega | grind)])
    · refine zw_aload_n z37_24 rfl ?_
      refine zw_aload_n z37_25 rfl ?_
      refine zw_iload_n z37_26 rfl ?_
      refine zw_vv (n := 2) z37_27 rfl rfl (by assumption) (Nat.le_of_ble_eq_true rfl) (by omega) (sp_suitOf hg hG (by omega)) ?_
      refine zw_vv (n := 2) z37_30 rfl rfl (by assumption) (Nat.le_of_ble_eq_true rfl) (by omega) (sp_isRed (by omega)) ?_
      refine zw_aload_n z37_33 rfl ?_
      refine zw_aload_n z37_34 rfl ?_
      refine zw_iload_n z37_35 rfl ?_
      refine zw_vv (n := 2) z37_36 rfl rfl (by assumption) (Nat.le_of_ble_eq_true rfl) (by omega) (sp_suitOf hg hG (by omega)) ?_
      refine zw_vv (n := 2) z37_39 rfl rfl (by assumption) (Nat.le_of_ble_eq_true rfl) (by omega) (sp_isRed (by omega)) ?_
      refine zj_bb_eq z37_42 (fun h42 => ?_) (fun h42 => ?_)
      · refine zw_iconst z37_49 (v := iI 0) rfl ?_
        refine zj_bret z37_50 rfl (by first | exact b2_r | omega) ?_
        exact zv_end (by first | rw [b2_t (by first | omega | grind)] | rw [b2_f (by first | omega | grind)])
      · refine zw_iconst z37_45 (v := iI 1) rfl ?_
        refine zw_goto z37_46 ?_
        refine zj_bret z37_50 rfl (by first | exact b2_r | omega) ?_
        exact zv_end (by first | rw [b2_t (by first | omega | grind)] | rw [b2_f (by first | omega | grind)])
  · refine zw_iconst z37_15 (v := iI 0) rfl ?_
    refine zj_bret z37_16 rfl (by first | exact b2_r | omega) ?_
    exact zv_end (by first | rw [b2_t (by first | omega | grind)] | rw [b2_f (by first | omega | grind)])
theorem sp_fitsInEmpty (hg : gmA w g G) (hG : gmV G) (hc : 0 ≤ c ∧ c < 52) (hd : 1 ≤ d) (hq : 21 ≤ q) : zv d q 38 [.ref g, iV c] w (iI (b2 (gEmp G c))) := by
  intro L xs cn sn
  obtain ⟨d, rfl⟩ : ∃ e, d = e + 1 := ⟨d - 1, by omega⟩
  have hg' := hg
  unfold gmA at hg'
  have r1 := gRank_rng hG hc
  have hG' := hG
  unfold gmV at hG'
  refine ⟨_, rfl, ?_⟩
  show zw _ _ _ _ 38 0 [some (.ref g), some (iV c)] [] _ _ _ _
  refine zw_aload_n z38_0 rfl ?_
  refine zw_getf z38_1 (by assumption) (by rfl) ?_
  refine zj_if_eq z38_4 (by omega) (fun h4 => ?_) (fun h4 => ?_)
  · refine zw_iconst z38_27 (v := iI 1) rfl ?_
    refine zw_goto z38_28 ?_
    refine zj_bret z38_32 rfl (by first | exact b2_r | omega) ?_
    exact zv_end (by first | rw [b2_t (by first | omega | grind)] | rw [b2_f (by first | omega | grind)])
  · refine zw_aload_n z38_7 rfl ?_
    refine zw_getf z38_8 (by assumption) (by rfl) ?_
    refine zw_iconst z38_11 (v := iI 1) rfl ?_
    refine zj_icmp_ne z38_12 (by omega) (by omega) (fun h12 => ?_) (fun h12 => ?_)
    · refine zw_iconst z38_31 (v := iI 0) rfl ?_
      refine zj_bret z38_32 rfl (by first | exact b2_r | omega) ?_
      exact zv_end (by first | rw [b2_t (by first | omega | grind)] | rw [b2_f (by first | omega | grind)])
    · refine zw_aload_n z38_15 rfl ?_
      refine zw_iload_n z38_16 rfl ?_
      refine zw_vv (n := 2) z38_17 rfl rfl (by assumption) (Nat.le_of_ble_eq_true rfl) (by omega) (sp_rankOf hg hG (by omega)) ?_
      refine zw_aload_n z38_20 rfl ?_
      refine zw_getf z38_21 (by assumption) (by rfl) ?_
      refine zj_icmp_ne z38_24 (by omega) (by omega) (fun h24 => ?_) (fun h24 => ?_)
      · refine zw_iconst z38_31 (v := iI 0) rfl ?_
        refine zj_bret z38_32 rfl (by first | exact b2_r | omega) ?_
        exact zv_end (by first | rw [b2_t (by first | omega | grind)] | rw [b2_f (by first | omega | grind)])
      · refine zw_iconst z38_27 (v := iI 1) rfl ?_
        refine zw_goto z38_28 ?_
        refine zj_bret z38_32 rfl (by first | exact b2_r | omega) ?_
        exact zv_end (by first | rw [b2_t (by first | omega | grind)] | rw [b2_f (by first | omega | grind)])
end ZGM
end
section
/-! The class Layout: methods that only read, without loops. (Laid out by gen/tpl.py from tpl/41.layout.tpl.) -/
section ZJB
variable {L : Nat} {xs : Nat → Int32} {d q k pc p t : Nat} {ls : zi_L} {st : List Value} {w : zi_W} {cn sn : Nat} {Q : zi_O → zi_W → Nat → Nat → Prop}
theorem zj_aldB {r n : Nat} {z lo hi : Int} {f : Nat → Int} (hc : za k pc .iaload p) (hg : zi_get w r = some (.inl (0, n, .inl (iA f)))) (hj : 0 ≤ z ∧ z < n) (hn : n ≤ 2147483647) (hB : ∀ j, lo ≤ f j ∧ f j ≤ hi) (kk : ∀ v, v = f z.toNat → lo ≤ v ∧ v ≤ hi → zw L xs d q k p ls (iV v :: st) w cn sn Q) : zw L xs d q k pc ls (iV z :: .ref r :: st) w cn sn Q :=
  zj_ald hc hg hj hn (kk _ rfl (hB _))
end ZJB
/-- the layout at place a: what cards lie on, tops, ranks at home, how many are laid, how many are at home -/
def lyA (w : zi_W) (a : Nat) (b t h : Nat → Int) (la ah : Int) : Prop := zi_get w a = some (.inr (2, [.ref 1, .ref (a + 1), .ref (a + 2), .ref (a + 3), iV la, iV ah])) ∧ zi_get w (a + 1) = some (.inl (0, 52, .inl (iA b))) ∧ zi_get w (a + 2) = some (.inl (0, 12, .inl (iA t))) ∧ zi_get w (a + 3) = some (.inl (0, 4, .inl (iA h)))
def lyV (b t h : Nat → Int) (la ah : Int) : Prop := (∀ j, -4 ≤ b j ∧ b j ≤ 51) ∧ (∀ j, -1 ≤ t j ∧ t j ≤ 51) ∧ (∀ j, 0 ≤ h j ∧ h j ≤ 13) ∧ (0 ≤ la ∧ la ≤ 52) ∧ (0 ≤ ah ∧ ah ≤ 52)
section ZLY
variable {d q a : Nat} {w : zi_W} {G b t h : Nat → Int} {la ah z c : Int}
theorem sp_isLaid (hy : lyA w a b t h la ah) (hV : lyV b t h la ah) (hc : 0 ≤ c ∧ c < 52) : zv d q 42 [.ref a, iV c] w (iI (b2 (b c.toNat ≠ -4))) := by
  intro L xs cn sn
  obtain ⟨y0, y1, y2, y3⟩ := hy
  obtain ⟨hV1, hV2, hV3, hV4, hV5⟩ := hV
  refine ⟨_, rfl, ?_⟩
  show zw _ _ _ _ 42 0 [some (.ref a), some (iV c)] [] _ _ _ _
  refine zw_aload_n z42_0 rfl ?_
  refine zw_getf z42_1 (by assumption) (by rfl) ?_
  refine zw_iload_n z42_4 rfl ?_
  refine zj_aldB z42_5 (by assumption) (by omega) (by decide) hV1 (fun v5 e5 r5 => ?_)
  refine zw_bipush z42_6 (v := iI (-4)) (by decide +kernel) ?_
  refine zj_icmp_eq z42_8 (by omega) (by omega) (fun h8 => ?_) (fun h8 => ?_)
  · refine zw_iconst z42_15 (v := iI 0) rfl ?_
    refine zj_bret z42_16 rfl (by first | exact b2_r | omega) ?_
    exact zv_end (by first | rw [b2_t (by omega)] | rw [b2_f (by omega)])
  · refine zw_iconst z42_11 (v := iI 1) rfl ?_
    refine zw_goto z42_12 ?_
    refine zj_bret z42_16 rfl (by first | exact b2_r | omega) ?_
    exact zv_end (by first | rw [b2_t (by omega)] | rw [b2_f (by omega)])
theorem sp_isAllLaid (hg : gmA w 1 G) (hG : gmV G) (hy : lyA w a b t h la ah) (hV : lyV b t h la ah) (hd : 1 ≤ d) (hq : 20 ≤ q) : zv d q 43 [.ref a] w (iI (b2 (la = gAll G))) := by
  intro L xs cn sn
  obtain ⟨d, rfl⟩ : ∃ e, d = e + 1 := ⟨d - 1, by omega⟩
  have hg' := hg
  unfold gmA at hg'
  have hA := gAll_rng hG
  obtain ⟨y0, y1, y2, y3⟩ := hy
  obtain ⟨hV1, hV2, hV3, hV4, hV5⟩ := hV
  refine ⟨_, rfl, ?_⟩
  show zw _ _ _ _ 43 0 [some (.ref a)] [] _ _ _ _
  refine zw_aload_n z43_0 rfl ?_
  refine zw_getf z43_1 (by assumption) (by rfl) ?_
  refine zw_aload_n z43_4 rfl ?_
  refine zw_getf z43_5 (by assumption) (by rfl) ?_
  refine zw_vv (n := 1) z43_8 rfl rfl (by assumption) (Nat.le_of_ble_eq_true rfl) (by omega) (sp_cardCount hg) ?_
  refine zj_icmp_ne z43_11 (by omega) (by omega) (fun h11 => ?_) (fun h11 => ?_)
  · refine zw_iconst z43_18 (v := iI 0) rfl ?_
    refine zj_bret z43_19 rfl (by first | exact b2_r | omega) ?_
    exact zv_end (by first | rw [b2_t (by omega)] | rw [b2_f (by omega)])
  · refine zw_iconst z43_14 (v := iI 1) rfl ?_
    refine zw_goto z43_15 ?_
    refine zj_bret z43_19 rfl (by first | exact b2_r | omega) ?_
    exact zv_end (by first | rw [b2_t (by omega)] | rw [b2_f (by omega)])
theorem sp_isAllHome (hg : gmA w 1 G) (hG : gmV G) (hy : lyA w a b t h la ah) (hV : lyV b t h la ah) (hd : 1 ≤ d) (hq : 20 ≤ q) : zv d q 44 [.ref a] w (iI (b2 (ah = gAll G))) := by
  intro L xs cn sn
  obtain ⟨d, rfl⟩ : ∃ e, d = e + 1 := ⟨d - 1, by omega⟩
  have hg' := hg
  unfold gmA at hg'
  have hA := gAll_rng hG
  obtain ⟨y0, y1, y2, y3⟩ := hy
  obtain ⟨hV1, hV2, hV3, hV4, hV5⟩ := hV
  refine ⟨_, rfl, ?_⟩
  show zw _ _ _ _ 44 0 [some (.ref a)] [] _ _ _ _
  refine zw_aload_n z44_0 rfl ?_
  refine zw_getf z44_1 (by assumption) (by rfl) ?_
  refine zw_aload_n z44_4 rfl ?_
  refine zw_getf z44_5 (by assumption) (by rfl) ?_
  refine zw_vv (n := 1) z44_8 rfl rfl (by assumption) (Nat.le_of_ble_eq_true rfl) (by omega) (sp_cardCount hg) ?_
  refine zj_icmp_ne z44_11 (by omega) (by omega) (fun h11 => ?_) (fun h11 => ?_)
  · refine zw_iconst z44_18 (v := iI 0) rfl ?_
    refine zj_bret z44_19 rfl (by first | exact b2_r | omega) ?_
    exact zv_end (by first | rw [b2_t (by omega)] | rw [b2_f (by omega)])
  · refine zw_iconst z44_14 (v := iI 1) rfl ?_
    refine zw_goto z44_15 ?_
    refine zj_bret z44_19 rfl (by first | exact b2_r | omega) ?_
    exact zv_end (by first | rw [b2_t (by omega)] | rw [b2_f (by omega)])
/-- the top card of suit z at home -/
abbrev lTop (G h : Nat → Int) (z : Int) : Int := if z < G 4 ∧ h z.toNat ≠ 0 then G 4 * (h z.toNat - 1) + z else -1
theorem sp_topAtHome (hg : gmA w 1 G) (hG : gmV G) (hy : lyA w a b t h la ah) (hV : lyV b t h la ah) (hz : 0 ≤ z ∧ z < 2147483648) : zv d q 48 [.ref a, iV z] w (iI (lTop G h z)) := by
  intro L xs cn sn
  have hg' := hg
  unfold gmA at hg'
  unfold gmV at hG
  obtain ⟨y0, y1, y2, y3⟩ := hy
  obtain ⟨hV1, hV2, hV3, hV4, hV5⟩ := hV
  refine ⟨_, rfl, ?_⟩
  show zw _ _ _ _ 48 0 [some (.ref a), some (iV z)] [] _ _ _ _
  refine zw_iload_n z48_0 rfl ?_
  refine zw_aload_n z48_1 rfl ?_
  refine zw_getf z48_2 (by assumption) (by rfl) ?_
  refine zw_getf z48_5 (by assumption) (by rfl) ?_
  refine zj_icmp_ge z48_8 (by omega) (by omega) (fun h8 => ?_) (fun h8 => ?_)
  · refine zw_iconst z48_20 (v := iI (-1)) rfl ?_
    refine zw_iret z48_21 rfl ?_
    exact zv_end (by first | rw [show lTop G h z = _ from if_neg (by omega)] | (rw [show lTop G h z = _ from if_pos (by omega), ← e34]))
  · refine zw_aload_n z48_11 rfl ?_
    refine zw_getf z48_12 (by assumption) (by rfl) ?_
    refine zw_iload_n z48_15 rfl ?_
    refine zj_aldB z48_16 (by assumption) (by omega) (by decide) hV3 (fun v16 e16 r16 => ?_)
    refine zj_if_ne z48_17 (by omega) (fun h17 => ?_) (fun h17 => ?_)
    · refine zw_aload_n z48_22 rfl ?_
      refine zw_getf z48_23 (by assumption) (by rfl) ?_
      refine zw_getf z48_26 (by assumption) (by rfl) ?_
      refine zw_aload_n z48_29 rfl ?_
      refine zw_getf z48_30 (by assumption) (by rfl) ?_
      refine zw_iload_n z48_33 rfl ?_
      refine zj_aldB z48_34 (by assumption) (by omega) (by decide) hV3 (fun v34 e34 r34 => ?_)
      refine zw_iconst z48_35 (v := iI 1) rfl ?_
      refine zj_sub z48_36 ?_
      refine zj_mul z48_37 ?_
      refine zw_iload_n z48_38 rfl ?_
      refine zj_add z48_39 ?_
      refine zw_iret z48_40 rfl ?_
      exact zv_end (by first | rw [show lTop G h z = _ from if_neg (by omega)] | (rw [show lTop G h z = _ from if_pos (by omega), ← e34]))
    · refine zw_iconst z48_20 (v := iI (-1)) rfl ?_
      refine zw_iret z48_21 rfl ?_
      exact zv_end (by first | rw [show lTop G h z = _ from if_neg (by omega)] | (rw [show lTop G h z = _ from if_pos (by omega), ← e34]))
abbrev lBears (G t : Nat → Int) (z c : Int) : Prop := if t z.toNat = -1 then gEmp G c else gFit G c (t z.toNat)
theorem sp_bears (hg : gmA w 1 G) (hG : gmV G) (hy : lyA w a b t h la ah) (hV : lyV b t h la ah) (hz : 0 ≤ z ∧ z < 12) (hc : 0 ≤ c ∧ c < 52) (hd : 2 ≤ d) (hq : 43 ≤ q) : zv d q 52 [.ref a, iV z, iV c] w (iI (b2 (lBears G t z c))) := by
  intro L xs cn sn
  obtain ⟨d, rfl⟩ : ∃ e, d = e + 1 := ⟨d - 1, by omega⟩
  have hg' := hg
  unfold gmA at hg'
  obtain ⟨y0, y1, y2, y3⟩ := hy
  obtain ⟨hV1, hV2, hV3, hV4, hV5⟩ := hV
  refine ⟨_, rfl, ?_⟩
  show zw _ _ _ _ 52 0 [some (.ref a), some (iV z), some (iV c)] [] _ _ _ _
  refine zw_aload_n z52_0 rfl ?_
  refine zw_getf z52_1 (by assumption) (by rfl) ?_
  refine zw_iload_n z52_4 rfl ?_
  refine zj_aldB z52_5 (by assumption) (by omega) (by decide) hV2 (fun v5 e5 r5 => ?_)
  refine zw_iconst z52_6 (v := iI (-1)) rfl ?_
  refine zj_icmp_ne z52_7 (by omega) (by omega) (fun h7 => ?_) (fun h7 => ?_)
  · refine zw_aload_n z52_21 rfl ?_
    refine zw_getf z52_22 (by assumption) (by rfl) ?_
    refine zw_iload_n z52_25 rfl ?_
    refine zw_aload_n z52_26 rfl ?_
    refine zw_getf z52_27 (by assumption) (by rfl) ?_
    refine zw_iload_n z52_30 rfl ?_
    refine zj_aldB z52_31 (by assumption) (by omega) (by decide) hV2 (fun v31 e31 r31 => ?_)
    refine zw_vv (n := 3) z52_32 rfl rfl (by assumption) (Nat.le_of_ble_eq_true rfl) (by omega) (sp_fitsOn hg hG (by omega) (by omega) (by omega) (by omega)) ?_
    refine zj_bret z52_35 rfl (by first | exact b2_r | omega) ?_
    exact zv_end (by congr 1; apply b2_c; unfold lBears; first | (rw [if_pos (by omega)]) | (rw [if_neg (by omega), ← e31]))
  · refine zw_aload_n z52_10 rfl ?_
    refine zw_getf z52_11 (by assumption) (by rfl) ?_
    refine zw_iload_n z52_14 rfl ?_
    refine zw_vv (n := 2) z52_15 rfl rfl (by assumption) (Nat.le_of_ble_eq_true rfl) (by omega) (sp_fitsInEmpty hg hG (by omega) (by omega) (by omega)) ?_
    refine zw_goto z52_18 ?_
    refine zj_bret z52_35 rfl (by first | exact b2_r | omega) ?_
    exact zv_end (by congr 1; apply b2_c; unfold lBears; first | (rw [if_pos (by omega)]) | (rw [if_neg (by omega), ← e31]))
abbrev lMay (G h : Nat → Int) (c : Int) : Prop := gRank G c = h (gSuit G c).toNat + 1
theorem sp_mayGoHome (hg : gmA w 1 G) (hG : gmV G) (hy : lyA w a b t h la ah) (hV : lyV b t h la ah) (hc : 0 ≤ c ∧ c < 52) (hd : 1 ≤ d) (hq : 21 ≤ q) : zv d q 57 [.ref a, iV c] w (iI (b2 (lMay G h c))) := by
  intro L xs cn sn
  obtain ⟨d, rfl⟩ : ∃ e, d = e + 1 := ⟨d - 1, by omega⟩
  have hg' := hg
  unfold gmA at hg'
  have r1 := gRank_rng hG hc
  have s1 := gSuit_rng (c := c) hG
  obtain ⟨y0, y1, y2, y3⟩ := hy
  obtain ⟨hV1, hV2, hV3, hV4, hV5⟩ := hV
  refine ⟨_, rfl, ?_⟩
  show zw _ _ _ _ 57 0 [some (.ref a), some (iV c)] [] _ _ _ _
  refine zw_aload_n z57_0 rfl ?_
  refine zw_getf z57_1 (by assumption) (by rfl) ?_
  refine zw_iload_n z57_4 rfl ?_
  refine zw_vv (n := 2) z57_5 rfl rfl (by assumption) (Nat.le_of_ble_eq_true rfl) (by omega) (sp_rankOf hg hG (by omega)) ?_
  refine zw_aload_n z57_8 rfl ?_
  refine zw_getf z57_9 (by assumption) (by rfl) ?_
  refine zw_aload_n z57_12 rfl ?_
  refine zw_getf z57_13 (by assumption) (by rfl) ?_
  refine zw_iload_n z57_16 rfl ?_
  refine zw_vv (n := 2) z57_17 rfl rfl (by assumption) (Nat.le_of_ble_eq_true rfl) (by omega) (sp_suitOf hg hG (by omega)) ?_
  refine zj_aldB z57_20 (by assumption) (by omega) (by decide) hV3 (fun v20 e20 r20 => ?_)
  refine zw_iconst z57_21 (v := iI 1) rfl ?_
  refine zj_add z57_22 ?_
  refine zj_icmp_ne z57_23 (by omega) (by omega) (fun h23 => ?_) (fun h23 => ?_)
  · refine zw_iconst z57_30 (v := iI 0) rfl ?_
    refine zj_bret z57_31 rfl (by first | exact b2_r | omega) ?_
    exact zv_end (by first | rw [b2_t (by omega)] | rw [b2_f (by omega)])
  · refine zw_iconst z57_26 (v := iI 1) rfl ?_
    refine zw_goto z57_27 ?_
    refine zj_bret z57_31 rfl (by first | exact b2_r | omega) ?_
    exact zv_end (by first | rw [b2_t (by omega)] | rw [b2_f (by omega)])
abbrev lGrd (t : Nat → Int) (z : Int) : Int := if z = 12 then -3 else if 8 ≤ z then -2 else t z.toNat
theorem sp_groundAt (hy : lyA w a b t h la ah) (hV : lyV b t h la ah) (hz : 0 ≤ z ∧ z ≤ 12) : zv d q 61 [.ref a, iV z] w (iI (lGrd t z)) := by
  intro L xs cn sn
  obtain ⟨y0, y1, y2, y3⟩ := hy
  obtain ⟨hV1, hV2, hV3, hV4, hV5⟩ := hV
  refine ⟨_, rfl, ?_⟩
  show zw _ _ _ _ 61 0 [some (.ref a), some (iV z)] [] _ _ _ _
  refine zw_iload_n z61_0 rfl ?_
  refine zw_bipush z61_1 (v := iI (12)) (by decide +kernel) ?_
  refine zj_icmp_ne z61_3 (by omega) (by omega) (fun h3 => ?_) (fun h3 => ?_)
  · refine zw_iload_n z61_9 rfl ?_
    refine zw_bipush z61_10 (v := iI (8)) (by decide +kernel) ?_
    refine zj_icmp_lt z61_12 (by omega) (by omega) (fun h12 => ?_) (fun h12 => ?_)
    · refine zw_aload_n z61_20 rfl ?_
      refine zw_getf z61_21 (by assumption) (by rfl) ?_
      refine zw_iload_n z61_24 rfl ?_
      refine zj_aldB z61_25 (by assumption) (by omega) (by decide) hV2 (fun v25 e25 r25 => ?_)
      refine zw_iret z61_26 rfl ?_
      exact zv_end (by unfold lGrd; first | rw [if_pos (by omega)] | rw [if_neg (by omega), if_pos (by omega)] | (rw [if_neg (by omega), if_neg (by omega), e25]))
    · refine zw_bipush z61_15 (v := iI (-2)) (by decide +kernel) ?_
      refine zw_goto z61_17 ?_
      refine zw_iret z61_26 rfl ?_
      exact zv_end (by unfold lGrd; first | rw [if_pos (by omega)] | rw [if_neg (by omega), if_pos (by omega)] | (rw [if_neg (by omega), if_neg (by omega), e25]))
  · refine zw_bipush z61_6 (v := iI (-3)) (by decide +kernel) ?_
    refine zw_iret z61_8 rfl ?_
    exact zv_end (by unfold lGrd; first | rw [if_pos (by omega)] | rw [if_neg (by omega), if_pos (by omega)] | (rw [if_neg (by omega), if_neg (by omega), e25]))
end ZLY
end
section
/-! The class Layout: methods that read, with a loop. (Laid out by gen/tpl.py from tpl/42.loops.tpl.) -/
/-- how many cards lie from c downwards, at most n -/
def lHt (b : Nat → Int) : Nat → Int → Int
  | 0, _ => 0
  | n + 1, c => if c < 0 then 0 else 1 + lHt b n (b c.toNat)
/-- the card that lies n below c -/
def lDn (b : Nat → Int) : Nat → Int → Int
  | 0, c => c
  | n + 1, c => if c < 0 then c else lDn b n (b c.toNat)
/-- how many of the n places from p on are empty -/
def lEm (t : Nat → Int) : Nat → Int → Int
  | 0, _ => 0
  | n + 1, p => (if t p.toNat = -1 then 1 else 0) + lEm t n (p + 1)
/-- how many cards below c go on with the built row, at most n -/
def lRw (G b : Nat → Int) : Nat → Int → Int
  | 0, _ => 0
  | n + 1, c => if 0 ≤ b c.toNat ∧ gFit G c (b c.toNat) then 1 + lRw G b n (b c.toNat) else 0
theorem lHt_s {b : Nat → Int} {n : Nat} {c : Int} (h : ¬ c < 0) : lHt b (n + 1) c = 1 + lHt b n (b c.toNat) := if_neg h
theorem lHt_e {b : Nat → Int} {n : Nat} {c : Int} (h : c < 0) : lHt b n c = 0 := by
  cases n with
  | zero => rfl
  | succ n => exact if_pos h
theorem lDn_s {b : Nat → Int} {n : Nat} {c : Int} (h : ¬ c < 0) : lDn b (n + 1) c = lDn b n (b c.toNat) := if_neg h
theorem lDn_e {b : Nat → Int} {n : Nat} {c : Int} (h : c < 0) : lDn b n c = c := by
  cases n with
  | zero => rfl
  | succ n => exact if_pos h
theorem lEm_1 {t : Nat → Int} {n : Nat} {p : Int} (h : t p.toNat = -1) : lEm t (n + 1) p = 1 + lEm t n (p + 1) := by
  show (if t p.toNat = -1 then (1 : Int) else 0) + _ = _
  rw [if_pos h]
theorem lEm_0 {t : Nat → Int} {n : Nat} {p : Int} (h : ¬ t p.toNat = -1) : lEm t (n + 1) p = lEm t n (p + 1) := by
  show (if t p.toNat = -1 then (1 : Int) else 0) + _ = _
  rw [if_neg h, Int.zero_add]
theorem lRw_s {G b : Nat → Int} {n : Nat} {c : Int} (h : 0 ≤ b c.toNat ∧ gFit G c (b c.toNat)) : lRw G b (n + 1) c = 1 + lRw G b n (b c.toNat) := if_pos h
theorem lRw_e {G b : Nat → Int} {n : Nat} {c : Int} (h : ¬ (0 ≤ b c.toNat ∧ gFit G c (b c.toNat))) : lRw G b n c = 0 := by
  cases n with
  | zero => rfl
  | succ n => exact if_neg h
section ZLO
variable {L : Nat} {xs : Nat → Int32} {d q a : Nat} {w : zi_W} {cn sn : Nat} {Q : zi_O → zi_W → Nat → Nat → Prop} {G b t h : Nat → Int} {la ah z c : Int}
theorem lp_heightOf (hy : lyA w a b t h la ah) (hV1 : ∀ j, -4 ≤ b j ∧ b j ≤ 51) : ∀ (n : Nat) (i c : Int), i + n = 52 → 0 ≤ i → -4 ≤ c ∧ c ≤ 51 → (∀ r, r = i + lHt b n c → Q (.inl (some (iV r))) w cn sn) → zw L xs d q 46 20 [some (.ref a), some (iV z), some (iV i), some (iV c)] [] w cn sn Q := by
  obtain ⟨y0, y1, y2, y3⟩ := hy
  intro n
  induction n with
  | zero =>
    intro i c h1 h2 h3 hQ
    refine zw_iload_n z46_20 rfl ?_
    refine zj_if_lt z46_21 (by omega) (fun h21 => ?_) (fun h21 => ?_)
    · refine zw_iload_n z46_43 rfl ?_
      refine zw_iret z46_44 rfl ?_
      exact hQ _ (by show i = i + 0; omega)
    · refine zw_iload_n z46_24 rfl ?_
      refine zw_bipush z46_25 (v := iI (52)) (by decide +kernel) ?_
      refine zj_icmp_ge z46_27 (by omega) (by omega) (fun h27 => ?_) (fun h27 => ?_)
      · refine zw_iload_n z46_43 rfl ?_
        refine zw_iret z46_44 rfl ?_
        exact hQ _ (by show i = i + 0; omega)
      · refine zj_iinc z46_30 rfl rfl ?_
        refine zw_aload_n z46_33 rfl ?_
        refine zw_getf z46_34 (by assumption) (by rfl) ?_
        refine zw_iload_n z46_37 rfl ?_
        refine zj_aldB z46_38 (by assumption) (by omega) (by decide) hV1 (fun v38 e38 r38 => ?_)
        refine zw_istore_n z46_39 rfl ?_
        refine zw_goto z46_40 ?_
        first | (exfalso; omega) | exact ih (i + 1) v38 (by omega) (by omega) (by omega) (fun r hr => hQ r (by rw [hr, lHt_s (by omega), ← e38]; omega))
  | succ n ih =>
    intro i c h1 h2 h3 hQ
    refine zw_iload_n z46_20 rfl ?_
    refine zj_if_lt z46_21 (by omega) (fun h21 => ?_) (fun h21 => ?_)
    · refine zw_iload_n z46_43 rfl ?_
      refine zw_iret z46_44 rfl ?_
      exact hQ _ (by first | (rw [lHt_e (by omega)]; omega) | (exfalso; omega))
    · refine zw_iload_n z46_24 rfl ?_
      refine zw_bipush z46_25 (v := iI (52)) (by decide +kernel) ?_
      refine zj_icmp_ge z46_27 (by omega) (by omega) (fun h27 => ?_) (fun h27 => ?_)
      · refine zw_iload_n z46_43 rfl ?_
        refine zw_iret z46_44 rfl ?_
        exact hQ _ (by first | (rw [lHt_e (by omega)]; omega) | (exfalso; omega))
      · refine zj_iinc z46_30 rfl rfl ?_
        refine zw_aload_n z46_33 rfl ?_
        refine zw_getf z46_34 (by assumption) (by rfl) ?_
        refine zw_iload_n z46_37 rfl ?_
        refine zj_aldB z46_38 (by assumption) (by omega) (by decide) hV1 (fun v38 e38 r38 => ?_)
        refine zw_istore_n z46_39 rfl ?_
        refine zw_goto z46_40 ?_
        first | (exfalso; omega) | exact ih (i + 1) v38 (by omega) (by omega) (by omega) (fun r hr => hQ r (by rw [hr, lHt_s (by omega), ← e38]; omega))
abbrev lHei (b t : Nat → Int) (ah z : Int) : Int := if z = 12 then ah else lHt b 52 (t z.toNat)
theorem sp_heightOf (hy : lyA w a b t h la ah) (hV : lyV b t h la ah) (hz : 0 ≤ z ∧ z ≤ 12) : zv d q 46 [.ref a, iV z] w (iI (lHei b t ah z)) := by
  intro L xs cn sn
  obtain ⟨y0, y1, y2, y3⟩ := hy
  obtain ⟨hV1, hV2, hV3, hV4, hV5⟩ := hV
  refine ⟨_, rfl, ?_⟩
  show zw _ _ _ _ 46 0 [some (.ref a), some (iV z), none, none] [] _ _ _ _
  refine zw_iload_n z46_0 rfl ?_
  refine zw_bipush z46_1 (v := iI (12)) (by decide +kernel) ?_
  refine zj_icmp_ne z46_3 (by omega) (by omega) (fun h3 => ?_) (fun h3 => ?_)
  · refine zw_iconst z46_11 (v := iI 0) rfl ?_
    refine zw_istore_n z46_12 rfl ?_
    refine zw_aload_n z46_13 rfl ?_
    refine zw_getf z46_14 (by assumption) (by rfl) ?_
    refine zw_iload_n z46_17 rfl ?_
    refine zj_aldB z46_18 (by assumption) (by omega) (by decide) hV2 (fun v18 e18 r18 => ?_)
    refine zw_istore_n z46_19 rfl ?_
    exact lp_heightOf ⟨y0, y1, y2, y3⟩ hV1 52 0 v18 (by omega) (by omega) (by omega) (fun r hr => zv_end (by rw [hr, show lHei b t ah z = _ from if_neg (by omega), e18]; congr 1; omega))
  · refine zw_aload_n z46_6 rfl ?_
    refine zw_getf z46_7 (by assumption) (by rfl) ?_
    refine zw_iret z46_10 rfl ?_
    exact zv_end (by rw [show lHei b t ah z = _ from if_pos (by omega)])
theorem lp_cardFromTop {e : Int} (hy : lyA w a b t h la ah) (hV1 : ∀ j, -4 ≤ b j ∧ b j ≤ 51) (he : iR e) : ∀ (n : Nat) (c s : Int), s + n = e → 0 ≤ s → -4 ≤ c ∧ c ≤ 51 → (∀ r, r = lDn b n c → ∀ s', zw L xs d q 47 39 [some (.ref a), some (iV z), some (iV e), some (iV r), some (iV s')] [] w cn sn Q) → zw L xs d q 47 16 [some (.ref a), some (iV z), some (iV e), some (iV c), some (iV s)] [] w cn sn Q := by
  obtain ⟨y0, y1, y2, y3⟩ := hy
  intro n
  induction n with
  | zero =>
    intro c s h1 h2 h3 hQ
    refine zw_iload z47_16 rfl ?_
    refine zw_iload_n z47_18 rfl ?_
    refine zj_icmp_ge z47_19 (by omega) (by omega) (fun h19 => ?_) (fun h19 => ?_)
    · exact hQ _ rfl s
    · refine zw_iload_n z47_22 rfl ?_
      refine zj_if_lt z47_23 (by omega) (fun h23 => ?_) (fun h23 => ?_)
      · exact hQ _ rfl s
      · refine zw_aload_n z47_26 rfl ?_
        refine zw_getf z47_27 (by assumption) (by rfl) ?_
        refine zw_iload_n z47_30 rfl ?_
        refine zj_aldB z47_31 (by assumption) (by omega) (by decide) hV1 (fun v31 e31 r31 => ?_)
        refine zw_istore_n z47_32 rfl ?_
        refine zj_iinc z47_33 rfl rfl ?_
        refine zw_goto z47_36 ?_
        first | (exfalso; omega) | exact ih v31 (s + 1) (by omega) (by omega) (by omega) (fun r hr => hQ r (by rw [hr, lDn_s (by omega), ← e31]))
  | succ n ih =>
    intro c s h1 h2 h3 hQ
    refine zw_iload z47_16 rfl ?_
    refine zw_iload_n z47_18 rfl ?_
    refine zj_icmp_ge z47_19 (by omega) (by omega) (fun h19 => ?_) (fun h19 => ?_)
    · first | (exfalso; omega) | exact hQ c (by rw [lDn_e (by omega)]) s
    · refine zw_iload_n z47_22 rfl ?_
      refine zj_if_lt z47_23 (by omega) (fun h23 => ?_) (fun h23 => ?_)
      · first | (exfalso; omega) | exact hQ c (by rw [lDn_e (by omega)]) s
      · refine zw_aload_n z47_26 rfl ?_
        refine zw_getf z47_27 (by assumption) (by rfl) ?_
        refine zw_iload_n z47_30 rfl ?_
        refine zj_aldB z47_31 (by assumption) (by omega) (by decide) hV1 (fun v31 e31 r31 => ?_)
        refine zw_istore_n z47_32 rfl ?_
        refine zj_iinc z47_33 rfl rfl ?_
        refine zw_goto z47_36 ?_
        first | (exfalso; omega) | exact ih v31 (s + 1) (by omega) (by omega) (by omega) (fun r hr => hQ r (by rw [hr, lDn_s (by omega), ← e31]))
theorem lDn_rng (hV1 : ∀ j, -4 ≤ b j ∧ b j ≤ 51) : ∀ (n : Nat) (c : Int), -4 ≤ c ∧ c ≤ 51 → -4 ≤ lDn b n c ∧ lDn b n c ≤ 51 := by
  intro n
  induction n with
  | zero => intro c h; exact h
  | succ n ih =>
    intro c h
    unfold lDn
    split
    · exact h
    · exact ih _ (hV1 _)
abbrev lCard (b t : Nat → Int) (z e : Int) : Int := if e < 0 then -1 else if lDn b e.toNat (t z.toNat) < 0 then -1 else lDn b e.toNat (t z.toNat)
theorem sp_cardFromTop {e : Int} (hy : lyA w a b t h la ah) (hV : lyV b t h la ah) (hz : 0 ≤ z ∧ z < 12) (he : iR e) : zv d q 47 [.ref a, iV z, iV e] w (iI (lCard b t z e)) := by
  intro L xs cn sn
  obtain ⟨y0, y1, y2, y3⟩ := hy
  obtain ⟨hV1, hV2, hV3, hV4, hV5⟩ := hV
  have hr9 := lDn_rng hV1 e.toNat (t z.toNat) (by have := hV2 z.toNat; omega)
  refine ⟨_, rfl, ?_⟩
  show zw _ _ _ _ 47 0 [some (.ref a), some (iV z), some (iV e), none, none] [] _ _ _ _
  refine zw_iload_n z47_0 rfl ?_
  refine zj_if_ge z47_1 (by omega) (fun h1 => ?_) (fun h1 => ?_)
  · refine zw_aload_n z47_6 rfl ?_
    refine zw_getf z47_7 (by assumption) (by rfl) ?_
    refine zw_iload_n z47_10 rfl ?_
    refine zj_aldB z47_11 (by assumption) (by omega) (by decide) hV2 (fun v11 e11 r11 => ?_)
    refine zw_istore_n z47_12 rfl ?_
    refine zw_iconst z47_13 (v := iI 0) rfl ?_
    refine zw_istore z47_14 rfl ?_
    refine lp_cardFromTop ⟨y0, y1, y2, y3⟩ hV1 he e.toNat v11 0 (by omega) (by omega) (by omega) (fun r hr s' => ?_)
    rw [e11] at hr
    refine zw_iload_n z47_39 rfl ?_
    refine zj_if_lt z47_40 (by omega) (fun h40 => ?_) (fun h40 => ?_)
    · refine zw_iconst z47_47 (v := iI (-1)) rfl ?_
      refine zw_iret z47_48 rfl ?_
      exact zv_end (by unfold lCard; rw [if_neg (by omega)]; first | rw [if_pos (by omega)] | (rw [if_neg (by omega), hr]))
    · refine zw_iload_n z47_43 rfl ?_
      refine zw_goto z47_44 ?_
      refine zw_iret z47_48 rfl ?_
      exact zv_end (by unfold lCard; rw [if_neg (by omega)]; first | rw [if_pos (by omega)] | (rw [if_neg (by omega), hr]))
  · refine zw_iconst z47_4 (v := iI (-1)) rfl ?_
    refine zw_iret z47_5 rfl ?_
    exact zv_end (by unfold lCard; rw [if_pos (by omega)])
theorem lp_emptyAmong {f m : Int} (hy : lyA w a b t h la ah) (hV2 : ∀ j, -1 ≤ t j ∧ t j ≤ 51) (hf : 0 ≤ f ∧ 0 ≤ m ∧ f + m ≤ 12) : ∀ (n : Nat) (p i : Int), p + n = f + m → 0 ≤ p → 0 ≤ i ∧ i ≤ p → (∀ r, r = i + lEm t n p → Q (.inl (some (iV r))) w cn sn) → zw L xs d q 55 5 [some (.ref a), some (iV f), some (iV m), some (iV i), some (iV p)] [] w cn sn Q := by
  obtain ⟨y0, y1, y2, y3⟩ := hy
  intro n
  induction n with
  | zero =>
    intro p i h1 h2 h3 hQ
    refine zw_iload z55_5 rfl ?_
    refine zw_iload_n z55_7 rfl ?_
    refine zw_iload_n z55_8 rfl ?_
    refine zj_add z55_9 ?_
    refine zj_icmp_ge z55_10 (by omega) (by omega) (fun h10 => ?_) (fun h10 => ?_)
    · refine zw_iload_n z55_33 rfl ?_
      refine zw_iret z55_34 rfl ?_
      exact hQ _ (by show i = i + 0; omega)
    · refine zw_aload_n z55_13 rfl ?_
      refine zw_getf z55_14 (by assumption) (by rfl) ?_
      refine zw_iload z55_17 rfl ?_
      refine zj_aldB z55_19 (by assumption) (by omega) (by decide) hV2 (fun v19 e19 r19 => ?_)
      refine zw_iconst z55_20 (v := iI (-1)) rfl ?_
      refine zj_icmp_ne z55_21 (by omega) (by omega) (fun h21 => ?_) (fun h21 => ?_)
      · refine zj_iinc z55_27 rfl rfl ?_
        refine zw_goto z55_30 ?_
        first | (exfalso; omega) | exact ih (p + 1) (i + 1) (by omega) (by omega) (by omega) (fun r hr => hQ r (by rw [hr, lEm_1 (by omega)]; omega)) | exact ih (p + 1) i (by omega) (by omega) (by omega) (fun r hr => hQ r (by rw [hr, lEm_0 (by omega)]))
      · refine zj_iinc z55_24 rfl rfl ?_
        refine zj_iinc z55_27 rfl rfl ?_
        refine zw_goto z55_30 ?_
        first | (exfalso; omega) | exact ih (p + 1) (i + 1) (by omega) (by omega) (by omega) (fun r hr => hQ r (by rw [hr, lEm_1 (by omega)]; omega)) | exact ih (p + 1) i (by omega) (by omega) (by omega) (fun r hr => hQ r (by rw [hr, lEm_0 (by omega)]))
  | succ n ih =>
    intro p i h1 h2 h3 hQ
    refine zw_iload z55_5 rfl ?_
    refine zw_iload_n z55_7 rfl ?_
    refine zw_iload_n z55_8 rfl ?_
    refine zj_add z55_9 ?_
    refine zj_icmp_ge z55_10 (by omega) (by omega) (fun h10 => ?_) (fun h10 => ?_)
    · refine zw_iload_n z55_33 rfl ?_
      refine zw_iret z55_34 rfl ?_
      (exfalso; omega)
    · refine zw_aload_n z55_13 rfl ?_
      refine zw_getf z55_14 (by assumption) (by rfl) ?_
      refine zw_iload z55_17 rfl ?_
      refine zj_aldB z55_19 (by assumption) (by omega) (by decide) hV2 (fun v19 e19 r19 => ?_)
      refine zw_iconst z55_20 (v := iI (-1)) rfl ?_
      refine zj_icmp_ne z55_21 (by omega) (by omega) (fun h21 => ?_) (fun h21 => ?_)
      · refine zj_iinc z55_27 rfl rfl ?_
        refine zw_goto z55_30 ?_
        first | (exfalso; omega) | exact ih (p + 1) (i + 1) (by omega) (by omega) (by omega) (fun r hr => hQ r (by rw [hr, lEm_1 (by omega)]; omega)) | exact ih (p + 1) i (by omega) (by omega) (by omega) (fun r hr => hQ r (by rw [hr, lEm_0 (by omega)]))
      · refine zj_iinc z55_24 rfl rfl ?_
        refine zj_iinc z55_27 rfl rfl ?_
        refine zw_goto z55_30 ?_
        first | (exfalso; omega) | exact ih (p + 1) (i + 1) (by omega) (by omega) (by omega) (fun r hr => hQ r (by rw [hr, lEm_1 (by omega)]; omega)) | exact ih (p + 1) i (by omega) (by omega) (by omega) (fun r hr => hQ r (by rw [hr, lEm_0 (by omega)]))
theorem sp_emptyAmong {f m : Int} (hy : lyA w a b t h la ah) (hV : lyV b t h la ah) (hf : 0 ≤ f ∧ 0 ≤ m ∧ f + m ≤ 12) : zv d q 55 [.ref a, iV f, iV m] w (iI (lEm t m.toNat f)) := by
  intro L xs cn sn
  obtain ⟨y0, y1, y2, y3⟩ := hy
  obtain ⟨hV1, hV2, hV3, hV4, hV5⟩ := hV
  refine ⟨_, rfl, ?_⟩
  show zw _ _ _ _ 55 0 [some (.ref a), some (iV f), some (iV m), none, none] [] _ _ _ _
  refine zw_iconst z55_0 (v := iI 0) rfl ?_
  refine zw_istore_n z55_1 rfl ?_
  refine zw_iload_n z55_2 rfl ?_
  refine zw_istore z55_3 rfl ?_
  exact lp_emptyAmong ⟨y0, y1, y2, y3⟩ hV2 hf m.toNat f 0 (by omega) (by omega) (by omega) (fun r hr => zv_end (by rw [hr]; congr 1; omega))
theorem lp_rowOf (hg : gmA w 1 G) (hG : gmV G) (hy : lyA w a b t h la ah) (hV1 : ∀ j, -4 ≤ b j ∧ b j ≤ 51) (hd : 2 ≤ d) (hq : 43 ≤ q) : ∀ (n : Nat) (c i : Int), i + n = 13 → 0 ≤ i → 0 ≤ c ∧ c ≤ 51 → (∀ r, r = i + lRw G b n c → Q (.inl (some (iV r))) w cn sn) → zw L xs d q 53 16 [some (.ref a), some (iV z), some (iV c), some (iV i)] [] w cn sn Q := by
  obtain ⟨d, rfl⟩ : ∃ e, d = e + 1 := ⟨d - 1, by omega⟩
  obtain ⟨y0, y1, y2, y3⟩ := hy
  have hg' := hg
  unfold gmA at hg'
  intro n
  induction n with
  | zero =>
    intro c i h1 h2 h3 hQ
    refine zw_iload_n z53_16 rfl ?_
    refine zw_bipush z53_17 (v := iI (13)) (by decide +kernel) ?_
    refine zj_icmp_ge z53_19 (by omega) (by omega) (fun h19 => ?_) (fun h19 => ?_)
    · refine zw_iload_n z53_61 rfl ?_
      refine zw_iret z53_62 rfl ?_
      first | (exfalso; omega) | exact hQ _ (by show i = i + 0; omega)
    · refine zw_aload_n z53_22 rfl ?_
      refine zw_getf z53_23 (by assumption) (by rfl) ?_
      refine zw_iload_n z53_26 rfl ?_
      refine zj_aldB z53_27 (by assumption) (by omega) (by decide) hV1 (fun v27 e27 r27 => ?_)
      refine zj_if_lt z53_28 (by omega) (fun h28 => ?_) (fun h28 => ?_)
      · refine zw_iload_n z53_61 rfl ?_
        refine zw_iret z53_62 rfl ?_
        first | (exfalso; omega) | exact hQ _ (by show i = i + 0; omega)
      · refine zw_aload_n z53_31 rfl ?_
        refine zw_getf z53_32 (by assumption) (by rfl) ?_
        refine zw_iload_n z53_35 rfl ?_
        refine zw_aload_n z53_36 rfl ?_
        refine zw_getf z53_37 (by assumption) (by rfl) ?_
        refine zw_iload_n z53_40 rfl ?_
        refine zj_aldB z53_41 (by assumption) (by omega) (by decide) hV1 (fun v41 e41 r41 => ?_)
        refine zw_vv (n := 3) z53_42 rfl rfl (by assumption) (Nat.le_of_ble_eq_true rfl) (by omega) (sp_fitsOn hg hG (by omega) (by omega) (by omega) (by omega)) ?_
        refine zj_b_eq z53_45 (fun h45 => ?_) (fun h45 => ?_)
        · refine zw_iload_n z53_61 rfl ?_
          refine zw_iret z53_62 rfl ?_
          first | (exfalso; omega) | exact hQ _ (by show i = i + 0; omega)
        · refine zw_aload_n z53_48 rfl ?_
          refine zw_getf z53_49 (by assumption) (by rfl) ?_
          refine zw_iload_n z53_52 rfl ?_
          refine zj_aldB z53_53 (by assumption) (by omega) (by decide) hV1 (fun v53 e53 r53 => ?_)
          refine zw_istore_n z53_54 rfl ?_
          refine zj_iinc z53_55 rfl rfl ?_
          refine zw_goto z53_58 ?_
          first | (exfalso; omega) | exact ih v53 (i + 1) (by omega) (by omega) (by omega) (fun r hr => hQ r (by rw [hr, lRw_s ⟨by omega, by rw [← e41]; exact h45⟩, ← e53]; omega))
  | succ n ih =>
    intro c i h1 h2 h3 hQ
    refine zw_iload_n z53_16 rfl ?_
    refine zw_bipush z53_17 (v := iI (13)) (by decide +kernel) ?_
    refine zj_icmp_ge z53_19 (by omega) (by omega) (fun h19 => ?_) (fun h19 => ?_)
    · refine zw_iload_n z53_61 rfl ?_
      refine zw_iret z53_62 rfl ?_
      first | (exfalso; omega) | exact hQ _ (by rw [lRw_e (by rintro ⟨q1, q2⟩; first | omega | exact h45 (by rw [e41]; exact q2))]; omega)
    · refine zw_aload_n z53_22 rfl ?_
      refine zw_getf z53_23 (by assumption) (by rfl) ?_
      refine zw_iload_n z53_26 rfl ?_
      refine zj_aldB z53_27 (by assumption) (by omega) (by decide) hV1 (fun v27 e27 r27 => ?_)
      refine zj_if_lt z53_28 (by omega) (fun h28 => ?_) (fun h28 => ?_)
      · refine zw_iload_n z53_61 rfl ?_
        refine zw_iret z53_62 rfl ?_
        first | (exfalso; omega) | exact hQ _ (by rw [lRw_e (by rintro ⟨q1, q2⟩; first | omega | exact h45 (by rw [e41]; exact q2))]; omega)
      · refine zw_aload_n z53_31 rfl ?_
        refine zw_getf z53_32 (by assumption) (by rfl) ?_
        refine zw_iload_n z53_35 rfl ?_
        refine zw_aload_n z53_36 rfl ?_
        refine zw_getf z53_37 (by assumption) (by rfl) ?_
        refine zw_iload_n z53_40 rfl ?_
        refine zj_aldB z53_41 (by assumption) (by omega) (by decide) hV1 (fun v41 e41 r41 => ?_)
        refine zw_vv (n := 3) z53_42 rfl rfl (by assumption) (Nat.le_of_ble_eq_true rfl) (by omega) (sp_fitsOn hg hG (by omega) (by omega) (by omega) (by omega)) ?_
        refine zj_b_eq z53_45 (fun h45 => ?_) (fun h45 => ?_)
        · refine zw_iload_n z53_61 rfl ?_
          refine zw_iret z53_62 rfl ?_
          first | (exfalso; omega) | exact hQ _ (by rw [lRw_e (by rintro ⟨q1, q2⟩; first | omega | exact h45 (by rw [e41]; exact q2))]; omega)
        · refine zw_aload_n z53_48 rfl ?_
          refine zw_getf z53_49 (by assumption) (by rfl) ?_
          refine zw_iload_n z53_52 rfl ?_
          refine zj_aldB z53_53 (by assumption) (by omega) (by decide) hV1 (fun v53 e53 r53 => ?_)
          refine zw_istore_n z53_54 rfl ?_
          refine zj_iinc z53_55 rfl rfl ?_
          refine zw_goto z53_58 ?_
          first | (exfalso; omega) | exact ih v53 (i + 1) (by omega) (by omega) (by omega) (fun r hr => hQ r (by rw [hr, lRw_s ⟨by omega, by rw [← e41]; exact h45⟩, ← e53]; omega))
abbrev lRow (G b t : Nat → Int) (z : Int) : Int := if t z.toNat = -1 then 0 else 1 + lRw G b 12 (t z.toNat)
theorem sp_rowOf (hg : gmA w 1 G) (hG : gmV G) (hy : lyA w a b t h la ah) (hV : lyV b t h la ah) (hz : 0 ≤ z ∧ z < 12) (hd : 2 ≤ d) (hq : 43 ≤ q) : zv d q 53 [.ref a, iV z] w (iI (lRow G b t z)) := by
  intro L xs cn sn
  obtain ⟨y0, y1, y2, y3⟩ := hy
  obtain ⟨hV1, hV2, hV3, hV4, hV5⟩ := hV
  refine ⟨_, rfl, ?_⟩
  show zw _ _ _ _ 53 0 [some (.ref a), some (iV z), none, none] [] _ _ _ _
  refine zw_aload_n z53_0 rfl ?_
  refine zw_getf z53_1 (by assumption) (by rfl) ?_
  refine zw_iload_n z53_4 rfl ?_
  refine zj_aldB z53_5 (by assumption) (by omega) (by decide) hV2 (fun v5 e5 r5 => ?_)
  refine zw_istore_n z53_6 rfl ?_
  refine zw_iload_n z53_7 rfl ?_
  refine zw_iconst z53_8 (v := iI (-1)) rfl ?_
  refine zj_icmp_ne z53_9 (by omega) (by omega) (fun h9 => ?_) (fun h9 => ?_)
  · refine zw_iconst z53_14 (v := iI 1) rfl ?_
    refine zw_istore_n z53_15 rfl ?_
    exact lp_rowOf hg hG ⟨y0, y1, y2, y3⟩ hV1 (by omega) (by omega) 12 v5 1 (by omega) (by omega) (by omega) (fun r hr => zv_end (by rw [hr, show lRow G b t z = _ from if_neg (by omega), e5]))
  · refine zw_iconst z53_12 (v := iI 0) rfl ?_
    refine zw_iret z53_13 rfl ?_
    exact zv_end (by rw [show lRow G b t z = _ from if_pos (by omega)])
end ZLO
end
section
/-! The class Layout: which moves are allowed, what is safe. (Laid out by gen/tpl.py from tpl/43.moves.tpl.) -/
section ZMV
variable {d q a : Nat} {w : zi_W} {G b t h : Nat → Int} {la ah z y m c : Int}
theorem lEm_rng : ∀ (n : Nat) (p : Int), 0 ≤ lEm t n p ∧ lEm t n p ≤ n := by
  intro n
  induction n with
  | zero => intro p; exact ⟨Int.le_refl _, Int.le_refl _⟩
  | succ n ih =>
    intro p
    have h1 := ih (p + 1)
    by_cases hp : t p.toNat = -1
    · rw [lEm_1 hp]; omega
    · rw [lEm_0 hp]; omega
theorem lRw_rng : ∀ (n : Nat) (c : Int), 0 ≤ lRw G b n c ∧ lRw G b n c ≤ n := by
  intro n
  induction n with
  | zero => intro p; exact ⟨Int.le_refl _, Int.le_refl _⟩
  | succ n ih =>
    intro c
    have h1 := ih (b c.toNat)
    by_cases hp : 0 ≤ b c.toNat ∧ gFit G c (b c.toNat)
    · rw [lRw_s hp]; omega
    · rw [lRw_e hp]; omega
theorem lRow_rng : 0 ≤ lRow G b t z ∧ lRow G b t z ≤ 13 := by
  have h1 := lRw_rng (G := G) (b := b) 12 (t z.toNat)
  unfold lRow
  split <;> omega
/-- one card from z to y -/
abbrev lOne (G t h : Nat → Int) (z y : Int) : Prop := t z.toNat ≠ -1 ∧ z ≠ y ∧ (if gCol G y then lBears G t y (t z.toNat) else if gCel G y then gCol G z ∧ t y.toNat = -1 else y = 12 ∧ lMay G h (t z.toNat))
theorem sp_allowsOne (hg : gmA w 1 G) (hG : gmV G) (hy : lyA w a b t h la ah) (hV : lyV b t h la ah) (hz : 0 ≤ z ∧ z < 12) (hz2 : 0 ≤ y ∧ y ≤ 12) (hd : 3 ≤ d) (hq : 65 ≤ q) : zv d q 50 [.ref a, iV z, iV y] w (iI (b2 (lOne G t h z y))) := by
  intro L xs cn sn
  obtain ⟨d, rfl⟩ : ∃ e, d = e + 1 := ⟨d - 1, by omega⟩
  have hg' := hg
  unfold gmA at hg'
  obtain ⟨y0, y1, y2, y3⟩ := hy
  have hy : lyA w a b t h la ah := ⟨y0, y1, y2, y3⟩
  have hV' := hV
  obtain ⟨hV1, hV2, hV3, hV4, hV5⟩ := hV'
  have hG' := hG
  unfold gmV at hG'
  refine ⟨_, rfl, ?_⟩
  show zw _ _ _ _ 50 0 [some (.ref a), some (iV z), some (iV y), none] [] _ _ _ _
  refine zw_aload_n z50_0 rfl ?_
  refine zw_getf z50_1 (by assumption) (by rfl) ?_
  refine zw_iload_n z50_4 rfl ?_
  refine zj_aldB z50_5 (by assumption) (by omega) (by decide) hV2 (fun v5 e5 r5 => ?_)
  refine zw_istore_n z50_6 rfl ?_
  refine zw_iload_n z50_7 rfl ?_
  refine zw_iconst z50_8 (v := iI (-1)) rfl ?_
  refine zj_icmp_eq z50_9 (by omega) (by omega) (fun h9 => ?_) (fun h9 => ?_)
  · refine zw_iconst z50_17 (v := iI 0) rfl ?_
    refine zj_bret z50_18 rfl (by first | exact b2_r | omega) ?_
    exact zv_end (by unfold lOne; first | rw [b2_f (by omega)] | (congr 1; apply b2_c; subst e5; grind) | (rw [b2_f (by subst e5; grind)]) | (rw [b2_t (by subst e5; grind)]))
  · refine zw_iload_n z50_12 rfl ?_
    refine zw_iload_n z50_13 rfl ?_
    refine zj_icmp_ne z50_14 (by omega) (by omega) (fun h14 => ?_) (fun h14 => ?_)
    · refine zw_aload_n z50_19 rfl ?_
      refine zw_getf z50_20 (by assumption) (by rfl) ?_
      refine zw_iload_n z50_23 rfl ?_
      refine zw_vv (n := 2) z50_24 rfl rfl (by assumption) (Nat.le_of_ble_eq_true rfl) (by omega) (sp_isColumn hg hG (by omega)) ?_
      refine zj_b_eq z50_27 (fun h27 => ?_) (fun h27 => ?_)
      · refine zw_aload_n z50_37 rfl ?_
        refine zw_getf z50_38 (by assumption) (by rfl) ?_
        refine zw_iload_n z50_41 rfl ?_
        refine zw_vv (n := 2) z50_42 rfl rfl (by assumption) (Nat.le_of_ble_eq_true rfl) (by omega) (sp_isCell hg hG (by omega)) ?_
        refine zj_b_eq z50_45 (fun h45 => ?_) (fun h45 => ?_)
        · refine zw_iload_n z50_75 rfl ?_
          refine zw_bipush z50_76 (v := iI (12)) (by decide +kernel) ?_
          refine zj_icmp_ne z50_78 (by omega) (by omega) (fun h78 => ?_) (fun h78 => ?_)
          · refine zw_iconst z50_93 (v := iI 0) rfl ?_
            refine zj_bret z50_94 rfl (by first | exact b2_r | omega) ?_
            exact zv_end (by unfold lOne; first | rw [b2_f (by omega)] | (congr 1; apply b2_c; subst e5; grind) | (rw [b2_f (by subst e5; grind)]) | (rw [b2_t (by subst e5; grind)]))
          · refine zw_aload_n z50_81 rfl ?_
            refine zw_iload_n z50_82 rfl ?_
            refine zw_vv (n := 2) z50_83 rfl rfl (by assumption) (Nat.le_of_ble_eq_true rfl) (by omega) (sp_mayGoHome hg hG hy hV (by omega) (by omega) (by omega)) ?_
            refine zj_b_eq z50_86 (fun h86 => ?_) (fun h86 => ?_)
            · refine zw_iconst z50_93 (v := iI 0) rfl ?_
              refine zj_bret z50_94 rfl (by first | exact b2_r | omega) ?_
              exact zv_end (by unfold lOne; first | rw [b2_f (by omega)] | (congr 1; apply b2_c; subst e5; grind) | (rw [b2_f (by subst e5; grind)]) | (rw [b2_t (by subst e5; grind)]))
            · refine zw_iconst z50_89 (v := iI 1) rfl ?_
              refine zw_goto z50_90 ?_
              refine zj_bret z50_94 rfl (by first | exact b2_r | omega) ?_
              exact zv_end (by unfold lOne; first | rw [b2_f (by omega)] | (congr 1; apply b2_c; subst e5; grind) | (rw [b2_f (by subst e5; grind)]) | (rw [b2_t (by subst e5; grind)]))
        · refine zw_aload_n z50_48 rfl ?_
          refine zw_getf z50_49 (by assumption) (by rfl) ?_
          refine zw_iload_n z50_52 rfl ?_
          refine zw_vv (n := 2) z50_53 rfl rfl (by assumption) (Nat.le_of_ble_eq_true rfl) (by omega) (sp_isColumn hg hG (by omega)) ?_
          refine zj_b_eq z50_56 (fun h56 => ?_) (fun h56 => ?_)
          · refine zw_iconst z50_73 (v := iI 0) rfl ?_
            refine zj_bret z50_74 rfl (by first | exact b2_r | omega) ?_
            exact zv_end (by unfold lOne; first | rw [b2_f (by omega)] | (congr 1; apply b2_c; subst e5; grind) | (rw [b2_f (by subst e5; grind)]) | (rw [b2_t (by subst e5; grind)]))
          · refine zw_aload_n z50_59 rfl ?_
            refine zw_getf z50_60 (by assumption) (by rfl) ?_
            refine zw_iload_n z50_63 rfl ?_
            refine zj_aldB z50_64 (by assumption) (by omega) (by decide) hV2 (fun v64 e64 r64 => ?_)
            refine zw_iconst z50_65 (v := iI (-1)) rfl ?_
            refine zj_icmp_ne z50_66 (by omega) (by omega) (fun h66 => ?_) (fun h66 => ?_)
            · refine zw_iconst z50_73 (v := iI 0) rfl ?_
              refine zj_bret z50_74 rfl (by first | exact b2_r | omega) ?_
              exact zv_end (by unfold lOne; first | rw [b2_f (by omega)] | (congr 1; apply b2_c; subst e5; grind) | (rw [b2_f (by subst e5; grind)]) | (rw [b2_t (by subst e5; grind)]))
            · refine zw_iconst z50_69 (v := iI 1) rfl ?_
              refine zw_goto z50_70 ?_
              refine zj_bret z50_74 rfl (by first | exact b2_r | omega) ?_
              exact zv_end (by unfold lOne; first | rw [b2_f (by omega)] | (congr 1; apply b2_c; subst e5; grind) | (rw [b2_f (by subst e5; grind)]) | (rw [b2_t (by subst e5; grind)]))
      · refine zw_aload_n z50_30 rfl ?_
        refine zw_iload_n z50_31 rfl ?_
        refine zw_iload_n z50_32 rfl ?_
        refine zw_vv (n := 3) z50_33 rfl rfl (by assumption) (Nat.le_of_ble_eq_true rfl) (by omega) (sp_bears hg hG hy hV (by omega) (by omega) (by omega) (by omega)) ?_
        refine zj_bret z50_36 rfl (by first | exact b2_r | omega) ?_
        exact zv_end (by unfold lOne; first | rw [b2_f (by omega)] | (congr 1; apply b2_c; subst e5; grind) | (rw [b2_f (by subst e5; grind)]) | (rw [b2_t (by subst e5; grind)]))
    · refine zw_iconst z50_17 (v := iI 0) rfl ?_
      refine zj_bret z50_18 rfl (by first | exact b2_r | omega) ?_
      exact zv_end (by unfold lOne; first | rw [b2_f (by omega)] | (congr 1; apply b2_c; subst e5; grind) | (rw [b2_f (by subst e5; grind)]) | (rw [b2_t (by subst e5; grind)]))
theorem iI_shl : ∀ a : Nat, a < 6 → ∀ n : Nat, n < 9 → iI (a : Int) <<< (iI (n : Int) &&& 31) = iI ((a : Int) * 2 ^ n) := by decide +kernel
theorem zj_shl {L : Nat} {xs : Nat → Int32} {k pc p : Nat} {ls : zi_L} {st : List Value} {cn sn : Nat} {Q : zi_O → zi_W → Nat → Nat → Prop} {e f : Int} (hc : za k pc .ishl p) (he : 0 ≤ e ∧ e < 6) (hf : 0 ≤ f ∧ f < 9) (kk : zw L xs d q k p ls (iV (e * 2 ^ f.toNat) :: st) w cn sn Q) : zw L xs d q k pc ls (iV f :: iV e :: st) w cn sn Q := by
  refine zw_ishl hc ?_
  have h1 := iI_shl e.toNat (by omega) f.toNat (by omega)
  rw [show ((e.toNat : Nat) : Int) = e by omega, show ((f.toNat : Nat) : Int) = f by omega] at h1
  rw [h1]
  exact kk
theorem lEm_pos : ∀ (n : Nat) (p y : Int), 0 ≤ p → p ≤ y → y < p + n → t y.toNat = -1 → 1 ≤ lEm t n p := by
  intro n
  induction n with
  | zero => intro p y h0 h1 h2; omega
  | succ n ih =>
    intro p y h0 h1 h2 h3
    have r := lEm_rng (t := t) n (p + 1)
    by_cases hp : t p.toNat = -1
    · rw [lEm_1 hp]; omega
    · rw [lEm_0 hp]
      refine ih (p + 1) y (by omega) (Int.not_lt.mp fun h => ?_) (by omega) h3
      have : p = y := by omega
      rw [this] at hp
      exact hp h3
/-- how many cards may go to column y at once -/
abbrev lHlp (G t : Nat → Int) (y : Int) : Int := if t y.toNat = -1 then lEm t (G 0).toNat 0 - 1 else lEm t (G 0).toNat 0
abbrev lMst (G t : Nat → Int) (y : Int) : Int := if G 3 = 0 then (lEm t (G 1).toNat 8 + 1) * 2 ^ (lHlp G t y).toNat else lEm t (G 1).toNat 8 + 1
theorem lHlp_rng (hG : gmV G) (hy : gCol G y) : 0 ≤ lHlp G t y ∧ lHlp G t y ≤ 8 := by
  unfold gmV at hG
  have r := lEm_rng (t := t) (G 0).toNat 0
  unfold lHlp
  split
  · rename_i h
    have := lEm_pos (t := t) (G 0).toNat 0 y (by omega) (by omega) (by omega) h
    omega
  · omega
theorem pw2 : ∀ n : Nat, n < 9 → (1 : Int) ≤ 2 ^ n ∧ (2 : Int) ^ n ≤ 256 := by decide
theorem lMst_rng (hG : gmV G) (hy : gCol G y) : 1 ≤ lMst G t y ∧ lMst G t y ≤ 1280 := by
  have r1 := lHlp_rng (t := t) hG hy
  unfold gmV at hG
  have r2 := lEm_rng (t := t) (G 1).toNat 8
  unfold lMst
  split
  · obtain ⟨h2, h1⟩ := pw2 (lHlp G t y).toNat (by omega)
    have h3 : (lEm t (G 1).toNat 8 + 1) * 2 ^ (lHlp G t y).toNat ≤ 5 * 256 := Int.mul_le_mul (by omega) h1 (by omega) (by omega)
    have h4 : 1 * 1 ≤ (lEm t (G 1).toNat 8 + 1) * 2 ^ (lHlp G t y).toNat := Int.mul_le_mul (by omega) h2 (by omega) (by omega)
    omega
  · omega
theorem sp_mostAtOnce (hg : gmA w 1 G) (hG : gmV G) (hy : lyA w a b t h la ah) (hV : lyV b t h la ah) (hz : gCol G y) (hd : 1 ≤ d) (hq : 24 ≤ q) : zv d q 54 [.ref a, iV y] w (iI (lMst G t y)) := by
  intro L xs cn sn
  obtain ⟨d, rfl⟩ : ∃ e, d = e + 1 := ⟨d - 1, by omega⟩
  have hg' := hg
  unfold gmA at hg'
  obtain ⟨y0, y1, y2, y3⟩ := hy
  have hy : lyA w a b t h la ah := ⟨y0, y1, y2, y3⟩
  have hV' := hV
  obtain ⟨hV1, hV2, hV3, hV4, hV5⟩ := hV'
  have rh := lHlp_rng (t := t) hG hz
  have hG' := hG
  unfold gmV at hG'
  have r1 := lEm_rng (t := t) (G 1).toNat 8
  have r2 := lEm_rng (t := t) (G 0).toNat 0
  refine ⟨_, rfl, ?_⟩
  show zw _ _ _ _ 54 0 [some (.ref a), some (iV y), none, none, none] [] _ _ _ _
  refine zw_aload_n z54_0 rfl ?_
  refine zw_bipush z54_1 (v := iI (8)) (by decide +kernel) ?_
  refine zw_aload_n z54_3 rfl ?_
  refine zw_getf z54_4 (by assumption) (by rfl) ?_
  refine zw_getf z54_7 (by assumption) (by rfl) ?_
  refine zw_vv (n := 5) z54_10 rfl rfl (by assumption) (Nat.le_of_ble_eq_true rfl) (by omega) (sp_emptyAmong hy hV (by omega)) ?_
  refine zw_istore_n z54_13 rfl ?_
  refine zw_aload_n z54_14 rfl ?_
  refine zw_getf z54_15 (by assumption) (by rfl) ?_
  refine zw_getf z54_18 (by assumption) (by rfl) ?_
  refine zj_if_eq z54_21 (by omega) (fun h21 => ?_) (fun h21 => ?_)
  · refine zw_aload_n z54_28 rfl ?_
    refine zw_iconst z54_29 (v := iI 0) rfl ?_
    refine zw_aload_n z54_30 rfl ?_
    refine zw_getf z54_31 (by assumption) (by rfl) ?_
    refine zw_getf z54_34 (by assumption) (by rfl) ?_
    refine zw_vv (n := 5) z54_37 rfl rfl (by assumption) (Nat.le_of_ble_eq_true rfl) (by omega) (sp_emptyAmong hy hV (by omega)) ?_
    refine zw_istore_n z54_40 rfl ?_
    refine zw_aload_n z54_41 rfl ?_
    refine zw_getf z54_42 (by assumption) (by rfl) ?_
    refine zw_iload_n z54_45 rfl ?_
    refine zj_aldB z54_46 (by assumption) (by omega) (by decide) hV2 (fun v46 e46 r46 => ?_)
    refine zw_iconst z54_47 (v := iI (-1)) rfl ?_
    refine zj_icmp_ne z54_48 (by omega) (by omega) (fun h48 => ?_) (fun h48 => ?_)
    · refine zw_iload_n z54_57 rfl ?_
      refine zw_istore z54_58 rfl ?_
      refine zw_iload_n z54_60 rfl ?_
      refine zw_iconst z54_61 (v := iI 1) rfl ?_
      refine zj_add z54_62 ?_
      refine zw_iload z54_63 rfl ?_
      unfold lHlp at rh
      first | (rw [if_pos (by omega)] at rh) | (rw [if_neg (by omega)] at rh)
      refine zj_shl z54_65 (by omega) (by omega) ?_
      refine zw_iret z54_66 rfl ?_
      exact zv_end (by unfold lMst lHlp; rw [if_pos (by omega)]; first | (rw [if_pos (by omega)]) | (rw [if_neg (by omega)]))
    · refine zw_iload_n z54_51 rfl ?_
      refine zw_iconst z54_52 (v := iI 1) rfl ?_
      refine zj_sub z54_53 ?_
      refine zw_goto z54_54 ?_
      refine zw_istore z54_58 rfl ?_
      refine zw_iload_n z54_60 rfl ?_
      refine zw_iconst z54_61 (v := iI 1) rfl ?_
      refine zj_add z54_62 ?_
      refine zw_iload z54_63 rfl ?_
      unfold lHlp at rh
      first | (rw [if_pos (by omega)] at rh) | (rw [if_neg (by omega)] at rh)
      refine zj_shl z54_65 (by omega) (by omega) ?_
      refine zw_iret z54_66 rfl ?_
      exact zv_end (by unfold lMst lHlp; rw [if_pos (by omega)]; first | (rw [if_pos (by omega)]) | (rw [if_neg (by omega)]))
  · refine zw_iload_n z54_24 rfl ?_
    refine zw_iconst z54_25 (v := iI 1) rfl ?_
    refine zj_add z54_26 ?_
    refine zw_iret z54_27 rfl ?_
    exact zv_end (by unfold lMst; rw [if_neg (by omega)])
theorem lDn_row : ∀ (n j : Nat) (c : Int), 0 ≤ c → (j : Int) ≤ lRw G b n c → 0 ≤ lDn b j c := by
  intro n
  induction n with
  | zero =>
    intro j c hc hj
    have : j = 0 := by have : lRw G b 0 c = 0 := rfl; omega
    subst this
    exact hc
  | succ n ih =>
    intro j c hc hj
    cases j with
    | zero => exact hc
    | succ j =>
      by_cases hp : 0 ≤ b c.toNat ∧ gFit G c (b c.toNat)
      · rw [lRw_s hp] at hj
        rw [lDn_s (by omega)]
        exact ih j _ hp.1 (by omega)
      · rw [lRw_e hp] at hj
        omega
theorem lCard_row (hV : lyV b t h la ah) (h1 : 1 ≤ m) (h2 : m ≤ lRow G b t z) : 0 ≤ lCard b t z (m - 1) ∧ lCard b t z (m - 1) ≤ 51 := by
  have hV2 := hV.2.1 z.toNat
  unfold lRow at h2
  split at h2
  · omega
  · have h3 := lDn_row (G := G) (b := b) 12 (m - 1).toNat (t z.toNat) (by omega) (by omega)
    have h4 := lDn_rng hV.1 (m - 1).toNat (t z.toNat) (by omega)
    unfold lCard
    rw [if_neg (by omega), if_neg (by omega)]
    omega
abbrev lRws (G b t : Nat → Int) (z y m : Int) : Prop := gCol G z ∧ gCol G y ∧ z ≠ y ∧ m ≤ lRow G b t z ∧ m ≤ lMst G t y ∧ lBears G t y (lCard b t z (m - 1))
theorem sp_allowsRow (hg : gmA w 1 G) (hG : gmV G) (hy : lyA w a b t h la ah) (hV : lyV b t h la ah) (hz : 0 ≤ z ∧ z < 12) (hz2 : 0 ≤ y ∧ y ≤ 12) (hm : 1 ≤ m ∧ m < 2147483648) (hd : 3 ≤ d) (hq : 66 ≤ q) : zv d q 51 [.ref a, iV z, iV y, iV m] w (iI (b2 (lRws G b t z y m))) := by
  intro L xs cn sn
  obtain ⟨d, rfl⟩ : ∃ e, d = e + 1 := ⟨d - 1, by omega⟩
  have hg' := hg
  unfold gmA at hg'
  obtain ⟨y0, y1, y2, y3⟩ := hy
  have hy : lyA w a b t h la ah := ⟨y0, y1, y2, y3⟩
  have hG' := hG
  unfold gmV at hG'
  have r1 := lRow_rng (G := G) (b := b) (t := t) (z := z)
  refine ⟨_, rfl, ?_⟩
  show zw _ _ _ _ 51 0 [some (.ref a), some (iV z), some (iV y), some (iV m)] [] _ _ _ _
  refine zw_aload_n z51_0 rfl ?_
  refine zw_getf z51_1 (by assumption) (by rfl) ?_
  refine zw_iload_n z51_4 rfl ?_
  refine zw_vv (n := 2) z51_5 rfl rfl (by assumption) (Nat.le_of_ble_eq_true rfl) (by omega) (sp_isColumn hg hG (by omega)) ?_
  refine zj_b_eq z51_8 (fun h8 => ?_) (fun h8 => ?_)
  · refine zw_iconst z51_65 (v := iI 0) rfl ?_
    refine zj_bret z51_66 rfl (by first | exact b2_r | omega) ?_
    exact zv_end (by rw [b2_f (fun h => h8 h.1)])
  refine zw_aload_n z51_11 rfl ?_
  refine zw_getf z51_12 (by assumption) (by rfl) ?_
  refine zw_iload_n z51_15 rfl ?_
  refine zw_vv (n := 2) z51_16 rfl rfl (by assumption) (Nat.le_of_ble_eq_true rfl) (by omega) (sp_isColumn hg hG (by omega)) ?_
  refine zj_b_eq z51_19 (fun h19 => ?_) (fun h19 => ?_)
  · refine zw_iconst z51_65 (v := iI 0) rfl ?_
    refine zj_bret z51_66 rfl (by first | exact b2_r | omega) ?_
    exact zv_end (by rw [b2_f (fun h => h19 h.2.1)])
  have r2 := lMst_rng (t := t) hG h19
  refine zw_iload_n z51_22 rfl ?_
  refine zw_iload_n z51_23 rfl ?_
  refine zj_icmp_eq z51_24 (by omega) (by omega) (fun h24 => ?_) (fun h24 => ?_)
  · refine zw_iconst z51_65 (v := iI 0) rfl ?_
    refine zj_bret z51_66 rfl (by first | exact b2_r | omega) ?_
    exact zv_end (by first | rw [b2_f (by unfold lRws; grind)] | rw [b2_t (by unfold lRws; grind)])
  · refine zw_iload_n z51_27 rfl ?_
    refine zw_aload_n z51_28 rfl ?_
    refine zw_iload_n z51_29 rfl ?_
    refine zw_vv (n := 4) z51_30 rfl rfl (by assumption) (Nat.le_of_ble_eq_true rfl) (by omega) (sp_rowOf hg hG hy hV (by omega) (by omega) (by omega)) ?_
    refine zj_icmp_gt z51_33 (by omega) (by omega) (fun h33 => ?_) (fun h33 => ?_)
    · refine zw_iconst z51_65 (v := iI 0) rfl ?_
      refine zj_bret z51_66 rfl (by first | exact b2_r | omega) ?_
      exact zv_end (by first | rw [b2_f (by unfold lRws; grind)] | rw [b2_t (by unfold lRws; grind)])
    · refine zw_iload_n z51_36 rfl ?_
      refine zw_aload_n z51_37 rfl ?_
      refine zw_iload_n z51_38 rfl ?_
      refine zw_vv (n := 5) z51_39 rfl rfl (by assumption) (Nat.le_of_ble_eq_true rfl) (by omega) (sp_mostAtOnce hg hG hy hV h19 (by omega) (by omega)) ?_
      refine zj_icmp_gt z51_42 (by omega) (by omega) (fun h42 => ?_) (fun h42 => ?_)
      · refine zw_iconst z51_65 (v := iI 0) rfl ?_
        refine zj_bret z51_66 rfl (by first | exact b2_r | omega) ?_
        exact zv_end (by first | rw [b2_f (by unfold lRws; grind)] | rw [b2_t (by unfold lRws; grind)])
      · refine zw_aload_n z51_45 rfl ?_
        refine zw_iload_n z51_46 rfl ?_
        refine zw_aload_n z51_47 rfl ?_
        refine zw_iload_n z51_48 rfl ?_
        refine zw_iload_n z51_49 rfl ?_
        refine zw_iconst z51_50 (v := iI 1) rfl ?_
        refine zj_sub z51_51 ?_
        refine zw_vv (n := 5) z51_52 rfl rfl (by assumption) (Nat.le_of_ble_eq_true rfl) (by omega) (sp_cardFromTop hy hV (by omega) (by omega)) ?_
        refine zw_vv (n := 3) z51_55 rfl rfl (by assumption) (Nat.le_of_ble_eq_true rfl) (by omega) (sp_bears hg hG hy hV (by omega) (by have := lCard_row (z := z) (m := m) (G := G) hV (by omega) (by omega); omega) (by omega) (by omega)) ?_
        refine zj_b_eq z51_58 (fun h58 => ?_) (fun h58 => ?_)
        · refine zw_iconst z51_65 (v := iI 0) rfl ?_
          refine zj_bret z51_66 rfl (by first | exact b2_r | omega) ?_
          exact zv_end (by first | rw [b2_f (by unfold lRws; grind)] | rw [b2_t (by unfold lRws; grind)])
        · refine zw_iconst z51_61 (v := iI 1) rfl ?_
          refine zw_goto z51_62 ?_
          refine zj_bret z51_66 rfl (by first | exact b2_r | omega) ?_
          exact zv_end (by first | rw [b2_f (by unfold lRws; grind)] | rw [b2_t (by unfold lRws; grind)])
/-- m cards from z to y -/
abbrev lAlw (G b t h : Nat → Int) (z y m : Int) : Prop := if m = 1 then lOne G t h z y else 1 < m ∧ lRws G b t z y m
theorem sp_allows (hg : gmA w 1 G) (hG : gmV G) (hy : lyA w a b t h la ah) (hV : lyV b t h la ah) (hz : 0 ≤ z ∧ z < 12) (hz2 : 0 ≤ y ∧ y ≤ 12) (hm : iR m) (hd : 4 ≤ d) (hq : 89 ≤ q) : zv d q 49 [.ref a, iV z, iV y, iV m] w (iI (b2 (lAlw G b t h z y m))) := by
  intro L xs cn sn
  obtain ⟨d, rfl⟩ : ∃ e, d = e + 1 := ⟨d - 1, by omega⟩
  have hg' := hg
  unfold gmA at hg'
  obtain ⟨y0, y1, y2, y3⟩ := hy
  have hy : lyA w a b t h la ah := ⟨y0, y1, y2, y3⟩
  refine ⟨_, rfl, ?_⟩
  show zw _ _ _ _ 49 0 [some (.ref a), some (iV z), some (iV y), some (iV m)] [] _ _ _ _
  refine zw_iload_n z49_0 rfl ?_
  refine zw_iconst z49_1 (v := iI 1) rfl ?_
  refine zj_icmp_ne z49_2 (by omega) (by omega) (fun h2 => ?_) (fun h2 => ?_)
  · refine zw_iload_n z49_14 rfl ?_
    refine zw_iconst z49_15 (v := iI 1) rfl ?_
    refine zj_icmp_le z49_16 (by omega) (by omega) (fun h16 => ?_) (fun h16 => ?_)
    · refine zw_iconst z49_33 (v := iI 0) rfl ?_
      refine zj_bret z49_34 rfl (by first | exact b2_r | omega) ?_
      exact zv_end (by unfold lAlw; first | (congr 1; apply b2_c; rw [if_pos (by omega)]) | (rw [b2_f (by rw [if_neg (by omega)]; grind)]) | (rw [b2_t (by rw [if_neg (by omega)]; grind)]))
    · refine zw_aload_n z49_19 rfl ?_
      refine zw_iload_n z49_20 rfl ?_
      refine zw_iload_n z49_21 rfl ?_
      refine zw_iload_n z49_22 rfl ?_
      refine zw_vv (n := 4) z49_23 rfl rfl (by assumption) (Nat.le_of_ble_eq_true rfl) (by omega) (sp_allowsRow hg hG hy hV (by omega) (by omega) (by omega) (by omega) (by omega)) ?_
      refine zj_b_eq z49_26 (fun h26 => ?_) (fun h26 => ?_)
      · refine zw_iconst z49_33 (v := iI 0) rfl ?_
        refine zj_bret z49_34 rfl (by first | exact b2_r | omega) ?_
        exact zv_end (by unfold lAlw; first | (congr 1; apply b2_c; rw [if_pos (by omega)]) | (rw [b2_f (by rw [if_neg (by omega)]; grind)]) | (rw [b2_t (by rw [if_neg (by omega)]; grind)]))
      · refine zw_iconst z49_29 (v := iI 1) rfl ?_
        refine zw_goto z49_30 ?_
        refine zj_bret z49_34 rfl (by first | exact b2_r | omega) ?_
        exact zv_end (by unfold lAlw; first | (congr 1; apply b2_c; rw [if_pos (by omega)]) | (rw [b2_f (by rw [if_neg (by omega)]; grind)]) | (rw [b2_t (by rw [if_neg (by omega)]; grind)]))
  · refine zw_aload_n z49_5 rfl ?_
    refine zw_iload_n z49_6 rfl ?_
    refine zw_iload_n z49_7 rfl ?_
    refine zw_vv (n := 4) z49_8 rfl rfl (by assumption) (Nat.le_of_ble_eq_true rfl) (by omega) (sp_allowsOne hg hG hy hV (by omega) (by omega) (by omega) (by omega)) ?_
    refine zw_goto z49_11 ?_
    refine zj_bret z49_34 rfl (by first | exact b2_r | omega) ?_
    exact zv_end (by unfold lAlw; first | (congr 1; apply b2_c; rw [if_pos (by omega)]) | (rw [b2_f (by rw [if_neg (by omega)]; grind)]) | (rw [b2_t (by rw [if_neg (by omega)]; grind)]))
/-- the most that may go from z to y, of at most n -/
def lMb (G b t h : Nat → Int) (z y : Int) : Nat → Int
  | 0 => 0
  | n + 1 => if lAlw G b t h z y ((n : Int) + 1) then (n : Int) + 1 else lMb G b t h z y n
theorem lp_mostBetween {L : Nat} {xs : Nat → Int32} {cn sn : Nat} {Q : zi_O → zi_W → Nat → Nat → Prop} (hg : gmA w 1 G) (hG : gmV G) (hy : lyA w a b t h la ah) (hV : lyV b t h la ah) (hz : 0 ≤ z ∧ z < 12) (hz2 : 0 ≤ y ∧ y ≤ 12) (hd : 5 ≤ d) (hq : 112 ≤ q) : ∀ (n : Nat) (i : Int), i = n ∧ n ≤ 13 → (∀ r, r = lMb G b t h z y n → Q (.inl (some (iV r))) w cn sn) → zw L xs d q 56 6 [some (.ref a), some (iV z), some (iV y), some (iV i)] [] w cn sn Q := by
  obtain ⟨d, rfl⟩ : ∃ e, d = e + 1 := ⟨d - 1, by omega⟩
  have hg' := hg
  unfold gmA at hg'
  obtain ⟨y0, y1, y2, y3⟩ := hy
  have hy : lyA w a b t h la ah := ⟨y0, y1, y2, y3⟩
  intro n
  induction n with
  | zero =>
    intro i hi hQ
    refine zw_iload_n z56_6 rfl ?_
    refine zj_if_le z56_7 (by omega) (fun h7 => ?_) (fun h7 => ?_)
    · refine zw_iconst z56_28 (v := iI 0) rfl ?_
      refine zw_iret z56_29 rfl ?_
      first | (exfalso; omega) | exact hQ _ rfl
    · refine zw_aload_n z56_10 rfl ?_
      refine zw_iload_n z56_11 rfl ?_
      refine zw_iload_n z56_12 rfl ?_
      refine zw_iload_n z56_13 rfl ?_
      refine zw_vv (n := 4) z56_14 rfl rfl (by assumption) (Nat.le_of_ble_eq_true rfl) (by omega) (sp_allows hg hG hy hV (by omega) (by omega) (by omega) (by omega) (by omega)) ?_
      refine zj_b_eq z56_17 (fun h17 => ?_) (fun h17 => ?_)
      · refine zj_iinc z56_22 rfl rfl ?_
        refine zw_goto z56_25 ?_
        first | (exfalso; omega) | exact ih (i - 1) (by omega) (fun r hr => hQ r (by rw [hr]; exact (if_neg (by rw [show (n : Int) + 1 = i by omega]; exact h17)).symm))
      · refine zw_iload_n z56_20 rfl ?_
        refine zw_iret z56_21 rfl ?_
        first | (exfalso; omega) | exact hQ _ rfl
  | succ n ih =>
    intro i hi hQ
    refine zw_iload_n z56_6 rfl ?_
    refine zj_if_le z56_7 (by omega) (fun h7 => ?_) (fun h7 => ?_)
    · refine zw_iconst z56_28 (v := iI 0) rfl ?_
      refine zw_iret z56_29 rfl ?_
      first | (exfalso; omega) | exact hQ _ (by rw [show lMb G b t h z y (n + 1) = _ from if_pos (by rw [show (n : Int) + 1 = i by omega]; exact h17)]; omega)
    · refine zw_aload_n z56_10 rfl ?_
      refine zw_iload_n z56_11 rfl ?_
      refine zw_iload_n z56_12 rfl ?_
      refine zw_iload_n z56_13 rfl ?_
      refine zw_vv (n := 4) z56_14 rfl rfl (by assumption) (Nat.le_of_ble_eq_true rfl) (by omega) (sp_allows hg hG hy hV (by omega) (by omega) (by omega) (by omega) (by omega)) ?_
      refine zj_b_eq z56_17 (fun h17 => ?_) (fun h17 => ?_)
      · refine zj_iinc z56_22 rfl rfl ?_
        refine zw_goto z56_25 ?_
        first | (exfalso; omega) | exact ih (i - 1) (by omega) (fun r hr => hQ r (by rw [hr]; exact (if_neg (by rw [show (n : Int) + 1 = i by omega]; exact h17)).symm))
      · refine zw_iload_n z56_20 rfl ?_
        refine zw_iret z56_21 rfl ?_
        first | (exfalso; omega) | exact hQ _ (by rw [show lMb G b t h z y (n + 1) = _ from if_pos (by rw [show (n : Int) + 1 = i by omega]; exact h17)]; omega)
abbrev lMB (G b t h : Nat → Int) (z y : Int) : Int := lMb G b t h z y (lRow G b t z).toNat
theorem sp_mostBetween (hg : gmA w 1 G) (hG : gmV G) (hy : lyA w a b t h la ah) (hV : lyV b t h la ah) (hz : 0 ≤ z ∧ z < 12) (hz2 : 0 ≤ y ∧ y ≤ 12) (hd : 5 ≤ d) (hq : 112 ≤ q) : zv d q 56 [.ref a, iV z, iV y] w (iI (lMB G b t h z y)) := by
  intro L xs cn sn
  obtain ⟨d, rfl⟩ : ∃ e, d = e + 1 := ⟨d - 1, by omega⟩
  obtain ⟨y0, y1, y2, y3⟩ := hy
  have hy : lyA w a b t h la ah := ⟨y0, y1, y2, y3⟩
  have r1 := lRow_rng (G := G) (b := b) (t := t) (z := z)
  refine ⟨_, rfl, ?_⟩
  show zw _ _ _ _ 56 0 [some (.ref a), some (iV z), some (iV y), none] [] _ _ _ _
  refine zw_aload_n z56_0 rfl ?_
  refine zw_iload_n z56_1 rfl ?_
  refine zw_vv (n := 4) z56_2 rfl rfl (by assumption) (Nat.le_of_ble_eq_true rfl) (by omega) (sp_rowOf hg hG hy hV (by omega) (by omega) (by omega)) ?_
  refine zw_istore_n z56_5 rfl ?_
  exact lp_mostBetween hg hG hy hV hz hz2 (by omega) (by omega) (lRow G b t z).toNat _ (by omega) (fun r hr => zv_end (by rw [hr]))
end ZMV
end
section
/-! The class Layout: what may go home without harm. (Laid out by gen/tpl.py from tpl/44.safe.tpl.) -/
/-- no suit of the n from s on still wants card c -/
def lSf (G h : Nat → Int) (c : Int) : Nat → Int → Bool
  | 0, _ => true
  | n + 1, s => if (G 2 ≠ 0 ∨ ¬ (gRed s ↔ gRed (gSuit G c))) ∧ h s.toNat < gRank G c - 1 then false else lSf G h c n (s + 1)
theorem lSf_t {G h : Nat → Int} {c s : Int} {n : Nat} (q : ¬ ((G 2 ≠ 0 ∨ ¬ (gRed s ↔ gRed (gSuit G c))) ∧ h s.toNat < gRank G c - 1)) : lSf G h c (n + 1) s = lSf G h c n (s + 1) := if_neg q
theorem lSf_f {G h : Nat → Int} {c s : Int} {n : Nat} (q : (G 2 ≠ 0 ∨ ¬ (gRed s ↔ gRed (gSuit G c))) ∧ h s.toNat < gRank G c - 1) : lSf G h c (n + 1) s = false := if_pos q
abbrev lSafe (G h : Nat → Int) (c : Int) : Prop := G 2 = 1 ∨ gRank G c ≤ 2 ∨ lSf G h c (G 4).toNat 0 = true
section ZSF
variable {d q a : Nat} {w : zi_W} {G b t h : Nat → Int} {la ah z c : Int}
theorem lp_isSafe {L : Nat} {xs : Nat → Int32} {cn sn : Nat} {Q : zi_O → zi_W → Nat → Nat → Prop} (hg : gmA w 1 G) (hG : gmV G) (hy : lyA w a b t h la ah) (hV : lyV b t h la ah) (hc : 0 ≤ c ∧ c < 52) (hd : 1 ≤ d) (hq : 21 ≤ q) : ∀ (n : Nat) (s : Int) (x5 : Option Value), s + n = G 4 → 0 ≤ s → (∀ u, u = b2 (lSf G h c n s = true) → Q (.inl (some (iV u))) w cn sn) → zw L xs d q 60 46 [some (.ref a), some (iV c), some (iV (gRank G c)), some (iV (b2 (gRed (gSuit G c)))), some (iV s), x5] [] w cn sn Q := by
  obtain ⟨d, rfl⟩ : ∃ e, d = e + 1 := ⟨d - 1, by omega⟩
  have hg' := hg
  unfold gmA at hg'
  have hG' := hG
  unfold gmV at hG'
  obtain ⟨y0, y1, y2, y3⟩ := hy
  obtain ⟨hV1, hV2, hV3, hV4, hV5⟩ := hV
  have r1 := gRank_rng hG hc
  intro n
  induction n with
  | zero =>
    intro s x5 h1 h2 hQ
    refine zw_iload z60_46 rfl ?_
    refine zw_aload_n z60_48 rfl ?_
    refine zw_getf z60_49 (by assumption) (by rfl) ?_
    refine zw_getf z60_52 (by assumption) (by rfl) ?_
    refine zj_icmp_ge z60_55 (by omega) (by omega) (fun h55 => ?_) (fun h55 => ?_)
    · refine zw_iconst z60_114 (v := iI 1) rfl ?_
      refine zj_bret z60_115 rfl (by first | exact b2_r | omega) ?_
      first | (exfalso; omega) | exact hQ _ (b2_t (P := lSf G h c 0 s = true) rfl).symm
    · refine zw_aload_n z60_58 rfl ?_
      refine zw_getf z60_59 (by assumption) (by rfl) ?_
      refine zw_getf z60_62 (by assumption) (by rfl) ?_
      refine zj_if_ne z60_65 (by omega) (fun h65 => ?_) (fun h65 => ?_)
      · refine zw_iconst z60_81 (v := iI 1) rfl ?_
        refine zw_goto z60_82 ?_
        refine zw_istore z60_86 rfl ?_
        refine zw_iload z60_88 rfl ?_
        refine zj_if_eq z60_90 (by omega) (fun h90 => ?_) (fun h90 => ?_)
        · refine zj_iinc z60_108 rfl rfl ?_
          refine zw_goto z60_111 ?_
          first | (exfalso; omega) | exact ih (s + 1) _ (by omega) (by omega) (fun u hu => hQ u (by rw [hu, lSf_t (by grind)]))
        · refine zw_aload_n z60_93 rfl ?_
          refine zw_getf z60_94 (by assumption) (by rfl) ?_
          refine zw_iload z60_97 rfl ?_
          refine zj_aldB z60_99 (by assumption) (by omega) (by decide) hV3 (fun v99 e99 r99 => ?_)
          refine zw_iload_n z60_100 rfl ?_
          refine zw_iconst z60_101 (v := iI 1) rfl ?_
          refine zj_sub z60_102 ?_
          refine zj_icmp_ge z60_103 (by omega) (by omega) (fun h103 => ?_) (fun h103 => ?_)
          · refine zj_iinc z60_108 rfl rfl ?_
            refine zw_goto z60_111 ?_
            first | (exfalso; omega) | exact ih (s + 1) _ (by omega) (by omega) (fun u hu => hQ u (by rw [hu, lSf_t (by grind)]))
          · refine zw_iconst z60_106 (v := iI 0) rfl ?_
            refine zj_bret z60_107 rfl (by first | exact b2_r | omega) ?_
            first | (exfalso; omega) | exact hQ _ (b2_t (P := lSf G h c 0 s = true) rfl).symm
      · refine zw_aload_n z60_68 rfl ?_
        refine zw_getf z60_69 (by assumption) (by rfl) ?_
        refine zw_iload z60_72 rfl ?_
        refine zw_vv (n := 2) z60_74 rfl rfl (by assumption) (Nat.le_of_ble_eq_true rfl) (by omega) (sp_isRed (by omega)) ?_
        refine zw_iload_n z60_77 rfl ?_
        refine zj_bb_eq z60_78 (fun h78 => ?_) (fun h78 => ?_)
        · refine zw_iconst z60_85 (v := iI 0) rfl ?_
          refine zw_istore z60_86 rfl ?_
          refine zw_iload z60_88 rfl ?_
          refine zj_if_eq z60_90 (by omega) (fun h90 => ?_) (fun h90 => ?_)
          · refine zj_iinc z60_108 rfl rfl ?_
            refine zw_goto z60_111 ?_
            first | (exfalso; omega) | exact ih (s + 1) _ (by omega) (by omega) (fun u hu => hQ u (by rw [hu, lSf_t (by grind)]))
          · refine zw_aload_n z60_93 rfl ?_
            refine zw_getf z60_94 (by assumption) (by rfl) ?_
            refine zw_iload z60_97 rfl ?_
            refine zj_aldB z60_99 (by assumption) (by omega) (by decide) hV3 (fun v99 e99 r99 => ?_)
            refine zw_iload_n z60_100 rfl ?_
            refine zw_iconst z60_101 (v := iI 1) rfl ?_
            refine zj_sub z60_102 ?_
            refine zj_icmp_ge z60_103 (by omega) (by omega) (fun h103 => ?_) (fun h103 => ?_)
            · refine zj_iinc z60_108 rfl rfl ?_
              refine zw_goto z60_111 ?_
              first | (exfalso; omega) | exact ih (s + 1) _ (by omega) (by omega) (fun u hu => hQ u (by rw [hu, lSf_t (by grind)]))
            · refine zw_iconst z60_106 (v := iI 0) rfl ?_
              refine zj_bret z60_107 rfl (by first | exact b2_r | omega) ?_
              first | (exfalso; omega) | exact hQ _ (b2_t (P := lSf G h c 0 s = true) rfl).symm
        · refine zw_iconst z60_81 (v := iI 1) rfl ?_
          refine zw_goto z60_82 ?_
          refine zw_istore z60_86 rfl ?_
          refine zw_iload z60_88 rfl ?_
          refine zj_if_eq z60_90 (by omega) (fun h90 => ?_) (fun h90 => ?_)
          · refine zj_iinc z60_108 rfl rfl ?_
            refine zw_goto z60_111 ?_
            first | (exfalso; omega) | exact ih (s + 1) _ (by omega) (by omega) (fun u hu => hQ u (by rw [hu, lSf_t (by grind)]))
          · refine zw_aload_n z60_93 rfl ?_
            refine zw_getf z60_94 (by assumption) (by rfl) ?_
            refine zw_iload z60_97 rfl ?_
            refine zj_aldB z60_99 (by assumption) (by omega) (by decide) hV3 (fun v99 e99 r99 => ?_)
            refine zw_iload_n z60_100 rfl ?_
            refine zw_iconst z60_101 (v := iI 1) rfl ?_
            refine zj_sub z60_102 ?_
            refine zj_icmp_ge z60_103 (by omega) (by omega) (fun h103 => ?_) (fun h103 => ?_)
            · refine zj_iinc z60_108 rfl rfl ?_
              refine zw_goto z60_111 ?_
              first | (exfalso; omega) | exact ih (s + 1) _ (by omega) (by omega) (fun u hu => hQ u (by rw [hu, lSf_t (by grind)]))
            · refine zw_iconst z60_106 (v := iI 0) rfl ?_
              refine zj_bret z60_107 rfl (by first | exact b2_r | omega) ?_
              first | (exfalso; omega) | exact hQ _ (b2_t (P := lSf G h c 0 s = true) rfl).symm
  | succ n ih =>
    intro s x5 h1 h2 hQ
    refine zw_iload z60_46 rfl ?_
    refine zw_aload_n z60_48 rfl ?_
    refine zw_getf z60_49 (by assumption) (by rfl) ?_
    refine zw_getf z60_52 (by assumption) (by rfl) ?_
    refine zj_icmp_ge z60_55 (by omega) (by omega) (fun h55 => ?_) (fun h55 => ?_)
    · refine zw_iconst z60_114 (v := iI 1) rfl ?_
      refine zj_bret z60_115 rfl (by first | exact b2_r | omega) ?_
      first | (exfalso; omega) | exact hQ _ (by rw [lSf_f (by grind), b2_f (by decide)])
    · refine zw_aload_n z60_58 rfl ?_
      refine zw_getf z60_59 (by assumption) (by rfl) ?_
      refine zw_getf z60_62 (by assumption) (by rfl) ?_
      refine zj_if_ne z60_65 (by omega) (fun h65 => ?_) (fun h65 => ?_)
      · refine zw_iconst z60_81 (v := iI 1) rfl ?_
        refine zw_goto z60_82 ?_
        refine zw_istore z60_86 rfl ?_
        refine zw_iload z60_88 rfl ?_
        refine zj_if_eq z60_90 (by omega) (fun h90 => ?_) (fun h90 => ?_)
        · refine zj_iinc z60_108 rfl rfl ?_
          refine zw_goto z60_111 ?_
          first | (exfalso; omega) | exact ih (s + 1) _ (by omega) (by omega) (fun u hu => hQ u (by rw [hu, lSf_t (by grind)]))
        · refine zw_aload_n z60_93 rfl ?_
          refine zw_getf z60_94 (by assumption) (by rfl) ?_
          refine zw_iload z60_97 rfl ?_
          refine zj_aldB z60_99 (by assumption) (by omega) (by decide) hV3 (fun v99 e99 r99 => ?_)
          refine zw_iload_n z60_100 rfl ?_
          refine zw_iconst z60_101 (v := iI 1) rfl ?_
          refine zj_sub z60_102 ?_
          refine zj_icmp_ge z60_103 (by omega) (by omega) (fun h103 => ?_) (fun h103 => ?_)
          · refine zj_iinc z60_108 rfl rfl ?_
            refine zw_goto z60_111 ?_
            first | (exfalso; omega) | exact ih (s + 1) _ (by omega) (by omega) (fun u hu => hQ u (by rw [hu, lSf_t (by grind)]))
          · refine zw_iconst z60_106 (v := iI 0) rfl ?_
            refine zj_bret z60_107 rfl (by first | exact b2_r | omega) ?_
            first | (exfalso; omega) | exact hQ _ (by rw [lSf_f (by grind), b2_f (by decide)])
      · refine zw_aload_n z60_68 rfl ?_
        refine zw_getf z60_69 (by assumption) (by rfl) ?_
        refine zw_iload z60_72 rfl ?_
        refine zw_vv (n := 2) z60_74 rfl rfl (by assumption) (Nat.le_of_ble_eq_true rfl) (by omega) (sp_isRed (by omega)) ?_
        refine zw_iload_n z60_77 rfl ?_
        refine zj_bb_eq z60_78 (fun h78 => ?_) (fun h78 => ?_)
        · refine zw_iconst z60_85 (v := iI 0) rfl ?_
          refine zw_istore z60_86 rfl ?_
          refine zw_iload z60_88 rfl ?_
          refine zj_if_eq z60_90 (by omega) (fun h90 => ?_) (fun h90 => ?_)
          · refine zj_iinc z60_108 rfl rfl ?_
            refine zw_goto z60_111 ?_
            first | (exfalso; omega) | exact ih (s + 1) _ (by omega) (by omega) (fun u hu => hQ u (by rw [hu, lSf_t (by grind)]))
          · refine zw_aload_n z60_93 rfl ?_
            refine zw_getf z60_94 (by assumption) (by rfl) ?_
            refine zw_iload z60_97 rfl ?_
            refine zj_aldB z60_99 (by assumption) (by omega) (by decide) hV3 (fun v99 e99 r99 => ?_)
            refine zw_iload_n z60_100 rfl ?_
            refine zw_iconst z60_101 (v := iI 1) rfl ?_
            refine zj_sub z60_102 ?_
            refine zj_icmp_ge z60_103 (by omega) (by omega) (fun h103 => ?_) (fun h103 => ?_)
            · refine zj_iinc z60_108 rfl rfl ?_
              refine zw_goto z60_111 ?_
              first | (exfalso; omega) | exact ih (s + 1) _ (by omega) (by omega) (fun u hu => hQ u (by rw [hu, lSf_t (by grind)]))
            · refine zw_iconst z60_106 (v := iI 0) rfl ?_
              refine zj_bret z60_107 rfl (by first | exact b2_r | omega) ?_
              first | (exfalso; omega) | exact hQ _ (by rw [lSf_f (by grind), b2_f (by decide)])
        · refine zw_iconst z60_81 (v := iI 1) rfl ?_
          refine zw_goto z60_82 ?_
          refine zw_istore z60_86 rfl ?_
          refine zw_iload z60_88 rfl ?_
          refine zj_if_eq z60_90 (by omega) (fun h90 => ?_) (fun h90 => ?_)
          · refine zj_iinc z60_108 rfl rfl ?_
            refine zw_goto z60_111 ?_
            first | (exfalso; omega) | exact ih (s + 1) _ (by omega) (by omega) (fun u hu => hQ u (by rw [hu, lSf_t (by grind)]))
          · refine zw_aload_n z60_93 rfl ?_
            refine zw_getf z60_94 (by assumption) (by rfl) ?_
            refine zw_iload z60_97 rfl ?_
            refine zj_aldB z60_99 (by assumption) (by omega) (by decide) hV3 (fun v99 e99 r99 => ?_)
            refine zw_iload_n z60_100 rfl ?_
            refine zw_iconst z60_101 (v := iI 1) rfl ?_
            refine zj_sub z60_102 ?_
            refine zj_icmp_ge z60_103 (by omega) (by omega) (fun h103 => ?_) (fun h103 => ?_)
            · refine zj_iinc z60_108 rfl rfl ?_
              refine zw_goto z60_111 ?_
              first | (exfalso; omega) | exact ih (s + 1) _ (by omega) (by omega) (fun u hu => hQ u (by rw [hu, lSf_t (by grind)]))
            · refine zw_iconst z60_106 (v := iI 0) rfl ?_
              refine zj_bret z60_107 rfl (by first | exact b2_r | omega) ?_
              first | (exfalso; omega) | exact hQ _ (by rw [lSf_f (by grind), b2_f (by decide)])
theorem sp_isSafe (hg : gmA w 1 G) (hG : gmV G) (hy : lyA w a b t h la ah) (hV : lyV b t h la ah) (hc : 0 ≤ c ∧ c < 52) (hd : 1 ≤ d) (hq : 21 ≤ q) : zv d q 60 [.ref a, iV c] w (iI (b2 (lSafe G h c))) := by
  intro L xs cn sn
  obtain ⟨d, rfl⟩ : ∃ e, d = e + 1 := ⟨d - 1, by omega⟩
  have hg' := hg
  unfold gmA at hg'
  have hG' := hG
  unfold gmV at hG'
  obtain ⟨y0, y1, y2, y3⟩ := hy
  have hy : lyA w a b t h la ah := ⟨y0, y1, y2, y3⟩
  have r1 := gRank_rng hG hc
  have s1 := gSuit_rng (c := c) hG
  refine ⟨_, rfl, ?_⟩
  show zw _ _ _ _ 60 0 [some (.ref a), some (iV c), none, none, none, none] [] _ _ _ _
  refine zw_aload_n z60_0 rfl ?_
  refine zw_getf z60_1 (by assumption) (by rfl) ?_
  refine zw_iload_n z60_4 rfl ?_
  refine zw_vv (n := 2) z60_5 rfl rfl (by assumption) (Nat.le_of_ble_eq_true rfl) (by omega) (sp_rankOf hg hG (by omega)) ?_
  refine zw_istore_n z60_8 rfl ?_
  refine zw_aload_n z60_9 rfl ?_
  refine zw_getf z60_10 (by assumption) (by rfl) ?_
  refine zw_getf z60_13 (by assumption) (by rfl) ?_
  refine zw_iconst z60_16 (v := iI 1) rfl ?_
  refine zj_icmp_eq z60_17 (by omega) (by omega) (fun h17 => ?_) (fun h17 => ?_)
  · refine zw_iconst z60_25 (v := iI 1) rfl ?_
    refine zj_bret z60_26 rfl (by first | exact b2_r | omega) ?_
    exact zv_end (by rw [b2_t (by unfold lSafe; omega)])
  · refine zw_iload_n z60_20 rfl ?_
    refine zw_iconst z60_21 (v := iI 2) rfl ?_
    refine zj_icmp_gt z60_22 (by omega) (by omega) (fun h22 => ?_) (fun h22 => ?_)
    · refine zw_aload_n z60_27 rfl ?_
      refine zw_getf z60_28 (by assumption) (by rfl) ?_
      refine zw_aload_n z60_31 rfl ?_
      refine zw_getf z60_32 (by assumption) (by rfl) ?_
      refine zw_iload_n z60_35 rfl ?_
      refine zw_vv (n := 2) z60_36 rfl rfl (by assumption) (Nat.le_of_ble_eq_true rfl) (by omega) (sp_suitOf hg hG (by omega)) ?_
      refine zw_vv (n := 2) z60_39 rfl rfl (by assumption) (Nat.le_of_ble_eq_true rfl) (by omega) (sp_isRed (by omega)) ?_
      refine zw_istore_n z60_42 rfl ?_
      refine zw_iconst z60_43 (v := iI 0) rfl ?_
      refine zw_istore z60_44 rfl ?_
      exact lp_isSafe hg hG hy hV hc (by omega) (by omega) (G 4).toNat 0 _ (by omega) (by omega) (fun u hu => zv_end (by rw [hu]; congr 1; apply b2_c; unfold lSafe; grind))
    · refine zw_iconst z60_25 (v := iI 1) rfl ?_
      refine zj_bret z60_26 rfl (by first | exact b2_r | omega) ?_
      exact zv_end (by rw [b2_t (by unfold lSafe; omega)])
/-- the top card at place z may go home without harm -/
abbrev lTS (G t h : Nat → Int) (z : Int) : Prop := t z.toNat ≠ -1 ∧ lMay G h (t z.toNat) ∧ lSafe G h (t z.toNat)
theorem sp_isTopSafe (hg : gmA w 1 G) (hG : gmV G) (hy : lyA w a b t h la ah) (hV : lyV b t h la ah) (hz : 0 ≤ z ∧ z < 12) (hd : 2 ≤ d) (hq : 46 ≤ q) : zv d q 59 [.ref a, iV z] w (iI (b2 (lTS G t h z))) := by
  intro L xs cn sn
  obtain ⟨d, rfl⟩ : ∃ e, d = e + 1 := ⟨d - 1, by omega⟩
  obtain ⟨y0, y1, y2, y3⟩ := hy
  have hy : lyA w a b t h la ah := ⟨y0, y1, y2, y3⟩
  have hV' := hV
  obtain ⟨hV1, hV2, hV3, hV4, hV5⟩ := hV'
  refine ⟨_, rfl, ?_⟩
  show zw _ _ _ _ 59 0 [some (.ref a), some (iV z), none] [] _ _ _ _
  refine zw_aload_n z59_0 rfl ?_
  refine zw_getf z59_1 (by assumption) (by rfl) ?_
  refine zw_iload_n z59_4 rfl ?_
  refine zj_aldB z59_5 (by assumption) (by omega) (by decide) hV2 (fun v5 e5 r5 => ?_)
  refine zw_istore_n z59_6 rfl ?_
  refine zw_iload_n z59_7 rfl ?_
  refine zw_iconst z59_8 (v := iI (-1)) rfl ?_
  refine zj_icmp_eq z59_9 (by omega) (by omega) (fun h9 => ?_) (fun h9 => ?_)
  · refine zw_iconst z59_32 (v := iI 0) rfl ?_
    refine zj_bret z59_33 rfl (by first | exact b2_r | omega) ?_
    exact zv_end (by subst e5; first | rw [b2_f (by unfold lTS; grind)] | rw [b2_t (by unfold lTS; grind)])
  · refine zw_aload_n z59_12 rfl ?_
    refine zw_iload_n z59_13 rfl ?_
    refine zw_vv (n := 2) z59_14 rfl rfl (by assumption) (Nat.le_of_ble_eq_true rfl) (by omega) (sp_mayGoHome hg hG hy hV (by omega) (by omega) (by omega)) ?_
    refine zj_b_eq z59_17 (fun h17 => ?_) (fun h17 => ?_)
    · refine zw_iconst z59_32 (v := iI 0) rfl ?_
      refine zj_bret z59_33 rfl (by first | exact b2_r | omega) ?_
      exact zv_end (by subst e5; first | rw [b2_f (by unfold lTS; grind)] | rw [b2_t (by unfold lTS; grind)])
    · refine zw_aload_n z59_20 rfl ?_
      refine zw_iload_n z59_21 rfl ?_
      refine zw_vv (n := 6) z59_22 rfl rfl (by assumption) (Nat.le_of_ble_eq_true rfl) (by omega) (sp_isSafe hg hG hy hV (by omega) (by omega) (by omega)) ?_
      refine zj_b_eq z59_25 (fun h25 => ?_) (fun h25 => ?_)
      · refine zw_iconst z59_32 (v := iI 0) rfl ?_
        refine zj_bret z59_33 rfl (by first | exact b2_r | omega) ?_
        exact zv_end (by subst e5; first | rw [b2_f (by unfold lTS; grind)] | rw [b2_t (by unfold lTS; grind)])
      · refine zw_iconst z59_28 (v := iI 1) rfl ?_
        refine zw_goto z59_29 ?_
        refine zj_bret z59_33 rfl (by first | exact b2_r | omega) ?_
        exact zv_end (by subst e5; first | rw [b2_f (by unfold lTS; grind)] | rw [b2_t (by unfold lTS; grind)])
/-- the first of the n places from p on whose top card may go home -/
def lFp (G t h : Nat → Int) : Nat → Int → Int
  | 0, _ => -1
  | n + 1, p => if lTS G t h p then p else lFp G t h n (p + 1)
theorem lFp_t {n : Nat} {p : Int} (q : lTS G t h p) : lFp G t h (n + 1) p = p := if_pos q
theorem lFp_f {n : Nat} {p : Int} (q : ¬ lTS G t h p) : lFp G t h (n + 1) p = lFp G t h n (p + 1) := if_neg q
abbrev lPos (G t h : Nat → Int) : Int := if lFp G t h 4 8 = -1 then lFp G t h 8 0 else lFp G t h 4 8
theorem lp_placeOfSafe1 {L : Nat} {xs : Nat → Int32} {cn sn : Nat} {Q : zi_O → zi_W → Nat → Nat → Prop} (hg : gmA w 1 G) (hG : gmV G) (hy : lyA w a b t h la ah) (hV : lyV b t h la ah) (hd : 3 ≤ d) (hq : 68 ≤ q) (hE : lFp G t h 4 8 = -1 → ∀ x, zw L xs d q 58 25 [some (.ref a), x] [] w cn sn Q) : ∀ (n : Nat) (p : Int), p + n = 12 → 8 ≤ p → (∀ r, r = lFp G t h n p → r ≠ -1 → Q (.inl (some (iV r))) w cn sn) → (lFp G t h n p = -1 → zw L xs d q 58 25 [some (.ref a), some (iV 12)] [] w cn sn Q) → zw L xs d q 58 3 [some (.ref a), some (iV p)] [] w cn sn Q := by
  obtain ⟨d, rfl⟩ : ∃ e, d = e + 1 := ⟨d - 1, by omega⟩
  obtain ⟨y0, y1, y2, y3⟩ := hy
  have hy : lyA w a b t h la ah := ⟨y0, y1, y2, y3⟩
  intro n
  induction n with
  | zero =>
    intro p h1 h2 hQ hE
    have : p = 12 := by omega
    subst this
    refine zw_iload_n z58_3 rfl ?_
    refine zw_bipush z58_4 (v := iI (12)) (by decide +kernel) ?_
    refine zj_icmp_ge z58_6 (by omega) (by omega) (fun h6 => ?_) (fun h6 => ?_)
    · first | (exfalso; omega) | exact hE rfl
    · refine zw_aload_n z58_9 rfl ?_
      refine zw_iload_n z58_10 rfl ?_
      refine zw_vv (n := 3) z58_11 rfl rfl (by assumption) (Nat.le_of_ble_eq_true rfl) (by omega) (sp_isTopSafe hg hG hy hV (by omega) (by omega) (by omega)) ?_
      refine zj_b_eq z58_14 (fun h14 => ?_) (fun h14 => ?_)
      · refine zj_iinc z58_19 rfl rfl ?_
        refine zw_goto z58_22 ?_
        first | (exfalso; omega) | exact ih (p + 1) (by omega) (by omega) (fun r hr h9 => hQ r (by rw [hr, lFp_f h14]) h9) (fun h9 => hE (by rw [lFp_f h14]; exact h9))
      · refine zw_iload_n z58_17 rfl ?_
        refine zw_iret z58_18 rfl ?_
        (exfalso; omega)
  | succ n ih =>
    intro p h1 h2 hQ hE
    refine zw_iload_n z58_3 rfl ?_
    refine zw_bipush z58_4 (v := iI (12)) (by decide +kernel) ?_
    refine zj_icmp_ge z58_6 (by omega) (by omega) (fun h6 => ?_) (fun h6 => ?_)
    · first | (exfalso; omega) | exact hE rfl
    · refine zw_aload_n z58_9 rfl ?_
      refine zw_iload_n z58_10 rfl ?_
      refine zw_vv (n := 3) z58_11 rfl rfl (by assumption) (Nat.le_of_ble_eq_true rfl) (by omega) (sp_isTopSafe hg hG hy hV (by omega) (by omega) (by omega)) ?_
      refine zj_b_eq z58_14 (fun h14 => ?_) (fun h14 => ?_)
      · refine zj_iinc z58_19 rfl rfl ?_
        refine zw_goto z58_22 ?_
        first | (exfalso; omega) | exact ih (p + 1) (by omega) (by omega) (fun r hr h9 => hQ r (by rw [hr, lFp_f h14]) h9) (fun h9 => hE (by rw [lFp_f h14]; exact h9))
      · refine zw_iload_n z58_17 rfl ?_
        refine zw_iret z58_18 rfl ?_
        first | (exfalso; omega) | exact hQ _ (by rw [lFp_t h14]) (by omega)
theorem lp_placeOfSafe2 {L : Nat} {xs : Nat → Int32} {cn sn : Nat} {Q : zi_O → zi_W → Nat → Nat → Prop} (hg : gmA w 1 G) (hG : gmV G) (hy : lyA w a b t h la ah) (hV : lyV b t h la ah) (hd : 3 ≤ d) (hq : 68 ≤ q) : ∀ (n : Nat) (p : Int), p + n = 8 → 0 ≤ p → (∀ r, r = lFp G t h n p → Q (.inl (some (iV r))) w cn sn) → zw L xs d q 58 27 [some (.ref a), some (iV p)] [] w cn sn Q := by
  obtain ⟨d, rfl⟩ : ∃ e, d = e + 1 := ⟨d - 1, by omega⟩
  obtain ⟨y0, y1, y2, y3⟩ := hy
  have hy : lyA w a b t h la ah := ⟨y0, y1, y2, y3⟩
  intro n
  induction n with
  | zero =>
    intro p h1 h2 hQ
    refine zw_iload_n z58_27 rfl ?_
    refine zw_bipush z58_28 (v := iI (8)) (by decide +kernel) ?_
    refine zj_icmp_ge z58_30 (by omega) (by omega) (fun h30 => ?_) (fun h30 => ?_)
    · refine zw_iconst z58_49 (v := iI (-1)) rfl ?_
      refine zw_iret z58_50 rfl ?_
      first | (exfalso; omega) | exact hQ _ rfl
    · refine zw_aload_n z58_33 rfl ?_
      refine zw_iload_n z58_34 rfl ?_
      refine zw_vv (n := 3) z58_35 rfl rfl (by assumption) (Nat.le_of_ble_eq_true rfl) (by omega) (sp_isTopSafe hg hG hy hV (by omega) (by omega) (by omega)) ?_
      refine zj_b_eq z58_38 (fun h38 => ?_) (fun h38 => ?_)
      · refine zj_iinc z58_43 rfl rfl ?_
        refine zw_goto z58_46 ?_
        first | (exfalso; omega) | exact ih (p + 1) (by omega) (by omega) (fun r hr => hQ r (by rw [hr, lFp_f h38]))
      · refine zw_iload_n z58_41 rfl ?_
        refine zw_iret z58_42 rfl ?_
        first | (exfalso; omega) | exact hQ _ rfl
  | succ n ih =>
    intro p h1 h2 hQ
    refine zw_iload_n z58_27 rfl ?_
    refine zw_bipush z58_28 (v := iI (8)) (by decide +kernel) ?_
    refine zj_icmp_ge z58_30 (by omega) (by omega) (fun h30 => ?_) (fun h30 => ?_)
    · refine zw_iconst z58_49 (v := iI (-1)) rfl ?_
      refine zw_iret z58_50 rfl ?_
      first | (exfalso; omega) | exact hQ _ (by rw [lFp_t h38])
    · refine zw_aload_n z58_33 rfl ?_
      refine zw_iload_n z58_34 rfl ?_
      refine zw_vv (n := 3) z58_35 rfl rfl (by assumption) (Nat.le_of_ble_eq_true rfl) (by omega) (sp_isTopSafe hg hG hy hV (by omega) (by omega) (by omega)) ?_
      refine zj_b_eq z58_38 (fun h38 => ?_) (fun h38 => ?_)
      · refine zj_iinc z58_43 rfl rfl ?_
        refine zw_goto z58_46 ?_
        first | (exfalso; omega) | exact ih (p + 1) (by omega) (by omega) (fun r hr => hQ r (by rw [hr, lFp_f h38]))
      · refine zw_iload_n z58_41 rfl ?_
        refine zw_iret z58_42 rfl ?_
        first | (exfalso; omega) | exact hQ _ (by rw [lFp_t h38])
theorem sp_placeOfSafe (hg : gmA w 1 G) (hG : gmV G) (hy : lyA w a b t h la ah) (hV : lyV b t h la ah) (hd : 3 ≤ d) (hq : 68 ≤ q) : zv d q 58 [.ref a] w (iI (lPos G t h)) := by
  intro L xs cn sn
  refine ⟨_, rfl, ?_⟩
  show zw _ _ _ _ 58 0 [some (.ref a), none] [] _ _ _ _
  refine zw_bipush z58_0 (v := iI (8)) (by decide +kernel) ?_
  refine zw_istore_n z58_2 rfl ?_
  refine lp_placeOfSafe1 hg hG hy hV hd hq (fun h9 x => ?_) 4 8 (by omega) (by omega) (fun r hr h9 => zv_end (by rw [hr, show lPos G t h = _ from if_neg (by rw [← hr]; exact h9)])) (fun h9 => ?_)
  · refine zw_iconst z58_25 (v := iI 0) rfl ?_
    refine zw_istore_n z58_26 rfl ?_
    exact lp_placeOfSafe2 hg hG hy hV hd hq 8 0 (by omega) (by omega) (fun r hr => zv_end (by rw [hr, show lPos G t h = _ from if_pos h9]))
  · refine zw_iconst z58_25 (v := iI 0) rfl ?_
    refine zw_istore_n z58_26 rfl ?_
    exact lp_placeOfSafe2 hg hG hy hV hd hq 8 0 (by omega) (by omega) (fun r hr => zv_end (by rw [hr, show lPos G t h = _ from if_pos h9]))
end ZSF
end
section
/-! Writes: how a world changes; the class Layout's methods that write. (Laid out by gen/tpl.py from tpl/45.write.tpl.) -/
/-- one cell has changed -/
def zG (r : Nat) (w w' : zi_W) : Prop := w'.length = w.length ∧ ∀ j, j ≠ r → zi_get w' j = zi_get w j
/-- the cells of S may have changed, no others -/
def zF (S : Nat → Prop) (w w' : zi_W) : Prop := w'.length = w.length ∧ ∀ j, ¬ S j → zi_get w' j = zi_get w j
theorem zF.rf {S : Nat → Prop} {w : zi_W} : zF S w w := ⟨rfl, fun _ _ => rfl⟩
theorem zF.step {S : Nat → Prop} {w w1 w2 : zi_W} {r : Nat} (h : zF S w w1) (g : zG r w1 w2) (hr : S r) : zF S w w2 := ⟨g.1.trans h.1, fun j hj => (g.2 j (fun e => hj (e ▸ hr))).trans (h.2 j hj)⟩
theorem zF.trans {S : Nat → Prop} {w w1 w2 : zi_W} (h : zF S w w1) (g : zF S w1 w2) : zF S w w2 := ⟨g.1.trans h.1, fun j hj => (g.2 j hj).trans (h.2 j hj)⟩
theorem zF.sub {S S' : Nat → Prop} {w w' : zi_W} (h : zF S w w') (hs : ∀ j, S j → S' j) : zF S' w w' := ⟨h.1, fun j hj => h.2 j (fun q => hj (hs j q))⟩
theorem zG.of {w : zi_W} {r : Nat} {c : va_E} : zG r w (w.set r c) := ⟨List.length_set, fun _ hj => zi_get_set hj⟩
theorem iU_rng {f : Nat → Int} {n : Nat} {x lo hi : Int} (hf : ∀ j, lo ≤ f j ∧ f j ≤ hi) (hx : lo ≤ x ∧ x ≤ hi) : ∀ j, lo ≤ iU f n x j ∧ iU f n x j ≤ hi := by
  intro j
  unfold iU
  split
  · exact hx
  · exact hf j
section ZWR
variable {L : Nat} {xs : Nat → Int32} {d q k pc p t : Nat} {ls : zi_L} {st : List Value} {w : zi_W} {cn sn : Nat} {Q : zi_O → zi_W → Nat → Nat → Prop}
theorem zj_astB {r n : Nat} {z x lo hi : Int} {f : Nat → Int} (hc : za k pc .iastore p) (hg : zi_get w r = some (.inl (0, n, .inl (iA f)))) (hj : 0 ≤ z ∧ z < n) (hn : n ≤ 2147483647) (hB : ∀ j, lo ≤ f j ∧ f j ≤ hi) (hx : lo ≤ x ∧ x ≤ hi) (kk : ∀ w', zi_get w' r = some (.inl (0, n, .inl (iA (iU f z.toNat x)))) → zG r w w' → (∀ j, lo ≤ iU f z.toNat x j ∧ iU f z.toNat x j ≤ hi) → zw L xs d q k p ls st w' cn sn Q) : zw L xs d q k pc ls (iV x :: iV z :: .ref r :: st) w cn sn Q :=
  zj_ast hc hg hj hn (kk _ (zi_get_self hg) zG.of (iU_rng hB hx))
theorem zj_putf {c f r : Nat} {fs : List Value} {v : Value} (hc : za_p k pc c f p) (hg : zi_get w r = some (.inr (c, fs))) (hl : f < fs.length) (hf : zi_fit (zi_fty zp c f) v = true) (kk : ∀ w', zi_get w' r = some (.inr (c, fs.set f v)) → zG r w w' → zw L xs d q k p ls st w' cn sn Q) : zw L xs d q k pc ls (v :: .ref r :: st) w cn sn Q :=
  zw_putf hc hg hl hf (kk _ (zi_get_self hg) zG.of)
end ZWR
section ZLW
variable {L : Nat} {xs : Nat → Int32} {d q a : Nat} {w : zi_W} {cn sn : Nat} {G b t h : Nat → Int} {la ah z y c : Int}
abbrev lyS (a : Nat) : Nat → Prop := fun j => a ≤ j ∧ j ≤ a + 3
theorem sp_layOn (hy : lyA w a b t h la ah) (hV : lyV b t h la ah) (hz : 0 ≤ z ∧ z < 12) (hc : 0 ≤ c ∧ c < 52) : zr L xs d q 45 [.ref a, iV z, iV c] w cn sn (fun r w' cn' sn' => r = none ∧ cn' = cn ∧ sn' = sn ∧ lyA w' a (iU b c.toNat (t z.toNat)) (iU t z.toNat c) h (la + 1) ah ∧ zF (lyS a) w w') := by
  obtain ⟨y0, y1, y2, y3⟩ := hy
  obtain ⟨hV1, hV2, hV3, hV4, hV5⟩ := hV
  have F : zF (lyS a) w w := zF.rf
  refine ⟨_, rfl, ?_⟩
  show zw _ _ _ _ 45 0 [some (.ref a), some (iV z), some (iV c)] [] _ _ _ _
  refine zw_aload_n z45_0 rfl ?_
  refine zw_getf z45_1 (by assumption) (by rfl) ?_
  refine zw_iload_n z45_4 rfl ?_
  refine zw_aload_n z45_5 rfl ?_
  refine zw_getf z45_6 (by assumption) (by rfl) ?_
  refine zw_iload_n z45_9 rfl ?_
  refine zj_aldB z45_10 (by assumption) (by omega) (by decide) hV2 (fun v10 e10 r10 => ?_)
  refine zj_astB z45_11 (by assumption) (by omega) (by decide) hV1 (by omega) (fun w11 n11 f11 b11 => ?_)
  have y0_11 := (f11.2 a (by omega)).trans y0
  have y2_11 := (f11.2 (a+2) (by omega)).trans y2
  have y3_11 := (f11.2 (a+3) (by omega)).trans y3
  have F_11 := F.step f11 (by omega)
  refine zw_aload_n z45_12 rfl ?_
  refine zw_getf z45_13 (by assumption) (by rfl) ?_
  refine zw_iload_n z45_16 rfl ?_
  refine zw_iload_n z45_17 rfl ?_
  refine zj_astB z45_18 (by assumption) (by omega) (by decide) hV2 (by omega) (fun w18 n18 f18 b18 => ?_)
  have y0_18 := (f18.2 a (by omega)).trans y0_11
  have y1_18 := (f18.2 (a+1) (by omega)).trans n11
  have y3_18 := (f18.2 (a+3) (by omega)).trans y3_11
  have F_18 := F_11.step f18 (by omega)
  refine zw_aload_n z45_19 rfl ?_
  refine zw_dup z45_20 rfl ?_
  refine zw_getf z45_21 (by assumption) (by rfl) ?_
  refine zw_iconst z45_24 (v := iI 1) rfl ?_
  refine zj_add z45_25 ?_
  refine zj_putf z45_26 (by assumption) (Nat.le_of_ble_eq_true rfl) (by rfl) (fun w26 n26 f26 => ?_)
  have y1_26 := (f26.2 (a+1) (by omega)).trans y1_18
  have y2_26 := (f26.2 (a+2) (by omega)).trans n18
  have y3_26 := (f26.2 (a+3) (by omega)).trans y3_18
  have F_26 := F_18.step f26 (by omega)
  refine zw_vret z45_29 rfl ?_
  subst e10
  exact ⟨_, rfl, rfl, rfl, rfl, ⟨n26, y1_26, y2_26, y3_26⟩, F_26⟩
/-- what carry does: card c, the lowest of what goes, from place z to place y -/
abbrev cB (b t : Nat → Int) (c y : Int) : Nat → Int := iU b c.toNat (lGrd t y)
abbrev cT (b t : Nat → Int) (c z y : Int) : Nat → Int := if y = 12 then (if z = 12 then t else iU t z.toNat (if 8 ≤ z then -1 else b c.toNat)) else (if z = 12 then iU t y.toNat c else iU (iU t z.toNat (if 8 ≤ z then -1 else b c.toNat)) y.toNat (t z.toNat))
abbrev cH (G h : Nat → Int) (c z y : Int) : Nat → Int := if z = 12 then iU h (gSuit G c).toNat (h (gSuit G c).toNat - 1) else if y = 12 then iU h (gSuit G c).toNat (h (gSuit G c).toNat + 1) else h
abbrev cA (ah z y : Int) : Int := if z = 12 then ah - 1 else if y = 12 then ah + 1 else ah
theorem cr_fin {w' : zi_W} {b' t' t'' h' h'' : Nat → Int} {ah' ah'' : Int} (y0 : zi_get w' a = some (.inr (2, [.ref 1, .ref (a + 1), .ref (a + 2), .ref (a + 3), iV la, iV ah']))) (y1 : zi_get w' (a + 1) = some (.inl (0, 52, .inl (iA b')))) (y2 : zi_get w' (a + 2) = some (.inl (0, 12, .inl (iA t')))) (y3 : zi_get w' (a + 3) = some (.inl (0, 4, .inl (iA h')))) (e1 : t' = t'') (e2 : h' = h'') (e3 : ah' = ah'') : lyA w' a b' t'' h'' la ah'' := by
  subst e1 e2 e3
  exact ⟨y0, y1, y2, y3⟩
theorem sp_carry (hg : gmA w 1 G) (hG : gmV G) (hy : lyA w a b t h la ah) (hV : lyV b t h la ah) (ha : 1 < a) (hc : 0 ≤ c ∧ c < 52) (hz : 0 ≤ z ∧ z ≤ 12) (hz2 : 0 ≤ y ∧ y ≤ 12) (hn : ¬ (z = 12 ∧ y = 12)) (hb : z < 8 → -1 ≤ b c.toNat) (hh1 : z = 12 → 1 ≤ h (gSuit G c).toNat) (hh2 : y = 12 → h (gSuit G c).toNat ≤ 12) (hd : 1 ≤ d) (hq : 21 ≤ q) :
    zr L xs d q 62 [.ref a, iV c, iV z, iV y] w cn sn (fun r w' cn' sn' => r = none ∧ cn' = cn ∧ sn' = sn ∧ lyA w' a (cB b t c y) (cT b t c z y) (cH G h c z y) la (cA ah z y) ∧ zF (lyS a) w w') := by
  obtain ⟨d, rfl⟩ : ∃ e, d = e + 1 := ⟨d - 1, by omega⟩
  have hg' := hg
  unfold gmA at hg'
  obtain ⟨y0, y1, y2, y3⟩ := hy
  have hV' := hV
  obtain ⟨hV1, hV2, hV3, hV4, hV5⟩ := hV'
  have s1 := gSuit_rng (c := c) hG
  have g9 : -3 ≤ lGrd t y ∧ lGrd t y ≤ 51 := by
    have := hV2 y.toNat
    unfold lGrd
    split
    · omega
    · split <;> omega
  have F : zF (lyS a) w w := zF.rf
  refine ⟨_, rfl, ?_⟩
  show zw _ _ _ _ 62 0 [some (.ref a), some (iV c), some (iV z), some (iV y), none, none] [] _ _ _ _
  refine zw_iload_n z62_0 rfl ?_
  refine zw_bipush z62_1 (v := iI (12)) (by decide +kernel) ?_
  refine zj_icmp_ne z62_3 (by omega) (by omega) (fun h3 => ?_) (fun h3 => ?_)
  · refine zw_aload_n z62_10 rfl ?_
    refine zw_getf z62_11 (by assumption) (by rfl) ?_
    refine zw_iload_n z62_14 rfl ?_
    refine zj_aldB z62_15 (by assumption) (by omega) (by decide) hV2 (fun v15 e15 r15 => ?_)
    refine zw_istore z62_16 rfl ?_
    refine zw_aload_n z62_18 rfl ?_
    refine zw_getf z62_19 (by assumption) (by rfl) ?_
    refine zw_iload_n z62_22 rfl ?_
    refine zj_aldB z62_23 (by assumption) (by omega) (by decide) hV1 (fun v23 e23 r23 => ?_)
    refine zw_istore z62_24 rfl ?_
    refine zw_aload_n z62_26 rfl ?_
    refine zw_getf z62_27 (by assumption) (by rfl) ?_
    refine zw_iload_n z62_30 rfl ?_
    refine zw_aload_n z62_31 rfl ?_
    refine zw_iload_n z62_32 rfl ?_
    refine zw_vv (n := 2) z62_33 rfl rfl (by assumption) (Nat.le_of_ble_eq_true rfl) (by omega) (sp_groundAt ⟨y0, y1, y2, y3⟩ hV (by omega)) ?_
    refine zj_astB z62_36 (by assumption) (by omega) (by decide) hV1 (by omega) (fun w36 n36 f36 b36 => ?_)
    have y0_36 := (f36.2 a (by omega)).trans y0
    have y2_36 := (f36.2 (a+2) (by omega)).trans y2
    have y3_36 := (f36.2 (a+3) (by omega)).trans y3
    have hg'_36 := (f36.2 1 (by omega)).trans hg'
    have F_36 := F.step f36 (by omega)
    refine zw_iload_n z62_37 rfl ?_
    refine zw_bipush z62_38 (v := iI (12)) (by decide +kernel) ?_
    refine zj_icmp_ne z62_40 (by omega) (by omega) (fun h40 => ?_) (fun h40 => ?_)
    · refine zw_aload_n z62_73 rfl ?_
      refine zw_getf z62_74 (by assumption) (by rfl) ?_
      refine zw_iload_n z62_77 rfl ?_
      refine zw_iload_n z62_78 rfl ?_
      refine zw_bipush z62_79 (v := iI (8)) (by decide +kernel) ?_
      refine zj_icmp_lt z62_81 (by omega) (by omega) (fun h81 => ?_) (fun h81 => ?_)
      · refine zw_iload z62_88 rfl ?_
        refine zj_astB z62_90 (by assumption) (by omega) (by decide) hV2 (by omega) (fun w90 n90 f90 b90 => ?_)
        have y0_90 := (f90.2 a (by omega)).trans y0_36
        have y1_90 := (f90.2 (a+1) (by omega)).trans n36
        have y3_90 := (f90.2 (a+3) (by omega)).trans y3_36
        have hg'_90 := (f90.2 1 (by omega)).trans hg'_36
        have F_90 := F_36.step f90 (by omega)
        refine zw_iload_n z62_91 rfl ?_
        refine zw_bipush z62_92 (v := iI (12)) (by decide +kernel) ?_
        refine zj_icmp_ne z62_94 (by omega) (by omega) (fun h94 => ?_) (fun h94 => ?_)
        · refine zw_aload_n z62_127 rfl ?_
          refine zw_getf z62_128 (by assumption) (by rfl) ?_
          refine zw_iload_n z62_131 rfl ?_
          refine zw_iload z62_132 rfl ?_
          refine zj_astB z62_134 (by assumption) (by omega) (by decide) b90 (by omega) (fun w134 n134 f134 b134 => ?_)
          have y0_134 := (f134.2 a (by omega)).trans y0_90
          have y1_134 := (f134.2 (a+1) (by omega)).trans y1_90
          have y3_134 := (f134.2 (a+3) (by omega)).trans y3_90
          have hg'_134 := (f134.2 1 (by omega)).trans hg'_90
          have F_134 := F_90.step f134 (by omega)
          refine zw_vret z62_135 rfl ?_
          first | (exfalso; omega) | exact ⟨_, rfl, rfl, rfl, rfl, cr_fin y0_134 y1_134 n134 y3_134 (by subst_vars; unfold cT; (repeat' split) <;> first | rfl | (exfalso; omega)) (by subst_vars; unfold cH; (repeat' split) <;> first | rfl | (exfalso; omega)) (by subst_vars; unfold cA; (repeat' split) <;> first | rfl | (exfalso; omega)), F_134⟩
        · refine zw_aload_n z62_97 rfl ?_
          refine zw_getf z62_98 (by assumption) (by rfl) ?_
          refine zw_aload_n z62_101 rfl ?_
          refine zw_getf z62_102 (by assumption) (by rfl) ?_
          refine zw_iload_n z62_105 rfl ?_
          refine zw_vv (n := 2) z62_106 rfl rfl (by assumption) (Nat.le_of_ble_eq_true rfl) (by omega) (sp_suitOf (by unfold gmA; assumption) hG (by omega)) ?_
          refine zw_dup2 z62_109 ⟨rfl, rfl⟩ ?_
          refine zj_aldB z62_110 (by assumption) (by omega) (by decide) hV3 (fun v110 e110 r110 => ?_)
          refine zw_iconst z62_111 (v := iI 1) rfl ?_
          refine zj_add z62_112 ?_
          refine zj_astB z62_113 (by assumption) (by omega) (by decide) hV3 (by omega) (fun w113 n113 f113 b113 => ?_)
          have y0_113 := (f113.2 a (by omega)).trans y0_90
          have y1_113 := (f113.2 (a+1) (by omega)).trans y1_90
          have y2_113 := (f113.2 (a+2) (by omega)).trans n90
          have hg'_113 := (f113.2 1 (by omega)).trans hg'_90
          have F_113 := F_90.step f113 (by omega)
          refine zw_aload_n z62_114 rfl ?_
          refine zw_dup z62_115 rfl ?_
          refine zw_getf z62_116 (by assumption) (by rfl) ?_
          refine zw_iconst z62_119 (v := iI 1) rfl ?_
          refine zj_add z62_120 ?_
          refine zj_putf z62_121 (by assumption) (Nat.le_of_ble_eq_true rfl) (by rfl) (fun w121 n121 f121 => ?_)
          have y1_121 := (f121.2 (a+1) (by omega)).trans y1_113
          have y2_121 := (f121.2 (a+2) (by omega)).trans y2_113
          have y3_121 := (f121.2 (a+3) (by omega)).trans n113
          have hg'_121 := (f121.2 1 (by omega)).trans hg'_113
          have F_121 := F_113.step f121 (by omega)
          refine zw_goto z62_124 ?_
          refine zw_vret z62_135 rfl ?_
          first | (exfalso; omega) | exact ⟨_, rfl, rfl, rfl, rfl, cr_fin n121 y1_121 y2_121 y3_121 (by subst_vars; unfold cT; (repeat' split) <;> first | rfl | (exfalso; omega)) (by subst_vars; unfold cH; (repeat' split) <;> first | rfl | (exfalso; omega)) (by subst_vars; unfold cA; (repeat' split) <;> first | rfl | (exfalso; omega)), F_121⟩
      · refine zw_iconst z62_84 (v := iI (-1)) rfl ?_
        refine zw_goto z62_85 ?_
        refine zj_astB z62_90 (by assumption) (by omega) (by decide) hV2 (by omega) (fun w90 n90 f90 b90 => ?_)
        have y0_90 := (f90.2 a (by omega)).trans y0_36
        have y1_90 := (f90.2 (a+1) (by omega)).trans n36
        have y3_90 := (f90.2 (a+3) (by omega)).trans y3_36
        have hg'_90 := (f90.2 1 (by omega)).trans hg'_36
        have F_90 := F_36.step f90 (by omega)
        refine zw_iload_n z62_91 rfl ?_
        refine zw_bipush z62_92 (v := iI (12)) (by decide +kernel) ?_
        refine zj_icmp_ne z62_94 (by omega) (by omega) (fun h94 => ?_) (fun h94 => ?_)
        · refine zw_aload_n z62_127 rfl ?_
          refine zw_getf z62_128 (by assumption) (by rfl) ?_
          refine zw_iload_n z62_131 rfl ?_
          refine zw_iload z62_132 rfl ?_
          refine zj_astB z62_134 (by assumption) (by omega) (by decide) b90 (by omega) (fun w134 n134 f134 b134 => ?_)
          have y0_134 := (f134.2 a (by omega)).trans y0_90
          have y1_134 := (f134.2 (a+1) (by omega)).trans y1_90
          have y3_134 := (f134.2 (a+3) (by omega)).trans y3_90
          have hg'_134 := (f134.2 1 (by omega)).trans hg'_90
          have F_134 := F_90.step f134 (by omega)
          refine zw_vret z62_135 rfl ?_
          first | (exfalso; omega) | exact ⟨_, rfl, rfl, rfl, rfl, cr_fin y0_134 y1_134 n134 y3_134 (by subst_vars; unfold cT; (repeat' split) <;> first | rfl | (exfalso; omega)) (by subst_vars; unfold cH; (repeat' split) <;> first | rfl | (exfalso; omega)) (by subst_vars; unfold cA; (repeat' split) <;> first | rfl | (exfalso; omega)), F_134⟩
        · refine zw_aload_n z62_97 rfl ?_
          refine zw_getf z62_98 (by assumption) (by rfl) ?_
          refine zw_aload_n z62_101 rfl ?_
          refine zw_getf z62_102 (by assumption) (by rfl) ?_
          refine zw_iload_n z62_105 rfl ?_
          refine zw_vv (n := 2) z62_106 rfl rfl (by assumption) (Nat.le_of_ble_eq_true rfl) (by omega) (sp_suitOf (by unfold gmA; assumption) hG (by omega)) ?_
          refine zw_dup2 z62_109 ⟨rfl, rfl⟩ ?_
          refine zj_aldB z62_110 (by assumption) (by omega) (by decide) hV3 (fun v110 e110 r110 => ?_)
          refine zw_iconst z62_111 (v := iI 1) rfl ?_
          refine zj_add z62_112 ?_
          refine zj_astB z62_113 (by assumption) (by omega) (by decide) hV3 (by omega) (fun w113 n113 f113 b113 => ?_)
          have y0_113 := (f113.2 a (by omega)).trans y0_90
          have y1_113 := (f113.2 (a+1) (by omega)).trans y1_90
          have y2_113 := (f113.2 (a+2) (by omega)).trans n90
          have hg'_113 := (f113.2 1 (by omega)).trans hg'_90
          have F_113 := F_90.step f113 (by omega)
          refine zw_aload_n z62_114 rfl ?_
          refine zw_dup z62_115 rfl ?_
          refine zw_getf z62_116 (by assumption) (by rfl) ?_
          refine zw_iconst z62_119 (v := iI 1) rfl ?_
          refine zj_add z62_120 ?_
          refine zj_putf z62_121 (by assumption) (Nat.le_of_ble_eq_true rfl) (by rfl) (fun w121 n121 f121 => ?_)
          have y1_121 := (f121.2 (a+1) (by omega)).trans y1_113
          have y2_121 := (f121.2 (a+2) (by omega)).trans y2_113
          have y3_121 := (f121.2 (a+3) (by omega)).trans n113
          have hg'_121 := (f121.2 1 (by omega)).trans hg'_113
          have F_121 := F_113.step f121 (by omega)
          refine zw_goto z62_124 ?_
          refine zw_vret z62_135 rfl ?_
          first | (exfalso; omega) | exact ⟨_, rfl, rfl, rfl, rfl, cr_fin n121 y1_121 y2_121 y3_121 (by subst_vars; unfold cT; (repeat' split) <;> first | rfl | (exfalso; omega)) (by subst_vars; unfold cH; (repeat' split) <;> first | rfl | (exfalso; omega)) (by subst_vars; unfold cA; (repeat' split) <;> first | rfl | (exfalso; omega)), F_121⟩
    · refine zw_aload_n z62_43 rfl ?_
      refine zw_getf z62_44 (by assumption) (by rfl) ?_
      refine zw_aload_n z62_47 rfl ?_
      refine zw_getf z62_48 (by assumption) (by rfl) ?_
      refine zw_iload_n z62_51 rfl ?_
      refine zw_vv (n := 2) z62_52 rfl rfl (by assumption) (Nat.le_of_ble_eq_true rfl) (by omega) (sp_suitOf (by unfold gmA; assumption) hG (by omega)) ?_
      refine zw_dup2 z62_55 ⟨rfl, rfl⟩ ?_
      refine zj_aldB z62_56 (by assumption) (by omega) (by decide) hV3 (fun v56 e56 r56 => ?_)
      refine zw_iconst z62_57 (v := iI 1) rfl ?_
      refine zj_sub z62_58 ?_
      refine zj_astB z62_59 (by assumption) (by omega) (by decide) hV3 (by omega) (fun w59 n59 f59 b59 => ?_)
      have y0_59 := (f59.2 a (by omega)).trans y0_36
      have y1_59 := (f59.2 (a+1) (by omega)).trans n36
      have y2_59 := (f59.2 (a+2) (by omega)).trans y2_36
      have hg'_59 := (f59.2 1 (by omega)).trans hg'_36
      have F_59 := F_36.step f59 (by omega)
      refine zw_aload_n z62_60 rfl ?_
      refine zw_dup z62_61 rfl ?_
      refine zw_getf z62_62 (by assumption) (by rfl) ?_
      refine zw_iconst z62_65 (v := iI 1) rfl ?_
      refine zj_sub z62_66 ?_
      refine zj_putf z62_67 (by assumption) (Nat.le_of_ble_eq_true rfl) (by rfl) (fun w67 n67 f67 => ?_)
      have y1_67 := (f67.2 (a+1) (by omega)).trans y1_59
      have y2_67 := (f67.2 (a+2) (by omega)).trans y2_59
      have y3_67 := (f67.2 (a+3) (by omega)).trans n59
      have hg'_67 := (f67.2 1 (by omega)).trans hg'_59
      have F_67 := F_59.step f67 (by omega)
      refine zw_goto z62_70 ?_
      refine zw_iload_n z62_91 rfl ?_
      refine zw_bipush z62_92 (v := iI (12)) (by decide +kernel) ?_
      refine zj_icmp_ne z62_94 (by omega) (by omega) (fun h94 => ?_) (fun h94 => ?_)
      · refine zw_aload_n z62_127 rfl ?_
        refine zw_getf z62_128 (by assumption) (by rfl) ?_
        refine zw_iload_n z62_131 rfl ?_
        refine zw_iload z62_132 rfl ?_
        refine zj_astB z62_134 (by assumption) (by omega) (by decide) hV2 (by omega) (fun w134 n134 f134 b134 => ?_)
        have y0_134 := (f134.2 a (by omega)).trans n67
        have y1_134 := (f134.2 (a+1) (by omega)).trans y1_67
        have y3_134 := (f134.2 (a+3) (by omega)).trans y3_67
        have hg'_134 := (f134.2 1 (by omega)).trans hg'_67
        have F_134 := F_67.step f134 (by omega)
        refine zw_vret z62_135 rfl ?_
        first | (exfalso; omega) | exact ⟨_, rfl, rfl, rfl, rfl, cr_fin y0_134 y1_134 n134 y3_134 (by subst_vars; unfold cT; (repeat' split) <;> first | rfl | (exfalso; omega)) (by subst_vars; unfold cH; (repeat' split) <;> first | rfl | (exfalso; omega)) (by subst_vars; unfold cA; (repeat' split) <;> first | rfl | (exfalso; omega)), F_134⟩
      · refine zw_aload_n z62_97 rfl ?_
        refine zw_getf z62_98 (by assumption) (by rfl) ?_
        refine zw_aload_n z62_101 rfl ?_
        refine zw_getf z62_102 (by assumption) (by rfl) ?_
        refine zw_iload_n z62_105 rfl ?_
        refine zw_vv (n := 2) z62_106 rfl rfl (by assumption) (Nat.le_of_ble_eq_true rfl) (by omega) (sp_suitOf (by unfold gmA; assumption) hG (by omega)) ?_
        refine zw_dup2 z62_109 ⟨rfl, rfl⟩ ?_
        refine zj_aldB z62_110 (by assumption) (by omega) (by decide) b59 (fun v110 e110 r110 => ?_)
        refine zw_iconst z62_111 (v := iI 1) rfl ?_
        refine zj_add z62_112 ?_
        refine zj_astB z62_113 (by assumption) (by omega) (by decide) b59 (by omega) (fun w113 n113 f113 b113 => ?_)
        have y0_113 := (f113.2 a (by omega)).trans n67
        have y1_113 := (f113.2 (a+1) (by omega)).trans y1_67
        have y2_113 := (f113.2 (a+2) (by omega)).trans y2_67
        have hg'_113 := (f113.2 1 (by omega)).trans hg'_67
        have F_113 := F_67.step f113 (by omega)
        refine zw_aload_n z62_114 rfl ?_
        refine zw_dup z62_115 rfl ?_
        refine zw_getf z62_116 (by assumption) (by rfl) ?_
        refine zw_iconst z62_119 (v := iI 1) rfl ?_
        refine zj_add z62_120 ?_
        refine zj_putf z62_121 (by assumption) (Nat.le_of_ble_eq_true rfl) (by rfl) (fun w121 n121 f121 => ?_)
        have y1_121 := (f121.2 (a+1) (by omega)).trans y1_113
        have y2_121 := (f121.2 (a+2) (by omega)).trans y2_113
        have y3_121 := (f121.2 (a+3) (by omega)).trans n113
        have hg'_121 := (f121.2 1 (by omega)).trans hg'_113
        have F_121 := F_113.step f121 (by omega)
        refine zw_goto z62_124 ?_
        refine zw_vret z62_135 rfl ?_
        first | (exfalso; omega) | exact ⟨_, rfl, rfl, rfl, rfl, cr_fin n121 y1_121 y2_121 y3_121 (by subst_vars; unfold cT; (repeat' split) <;> first | rfl | (exfalso; omega)) (by subst_vars; unfold cH; (repeat' split) <;> first | rfl | (exfalso; omega)) (by subst_vars; unfold cA; (repeat' split) <;> first | rfl | (exfalso; omega)), F_121⟩
  · refine zw_iload_n z62_6 rfl ?_
    refine zw_goto z62_7 ?_
    refine zw_istore z62_16 rfl ?_
    refine zw_aload_n z62_18 rfl ?_
    refine zw_getf z62_19 (by assumption) (by rfl) ?_
    refine zw_iload_n z62_22 rfl ?_
    refine zj_aldB z62_23 (by assumption) (by omega) (by decide) hV1 (fun v23 e23 r23 => ?_)
    refine zw_istore z62_24 rfl ?_
    refine zw_aload_n z62_26 rfl ?_
    refine zw_getf z62_27 (by assumption) (by rfl) ?_
    refine zw_iload_n z62_30 rfl ?_
    refine zw_aload_n z62_31 rfl ?_
    refine zw_iload_n z62_32 rfl ?_
    refine zw_vv (n := 2) z62_33 rfl rfl (by assumption) (Nat.le_of_ble_eq_true rfl) (by omega) (sp_groundAt ⟨y0, y1, y2, y3⟩ hV (by omega)) ?_
    refine zj_astB z62_36 (by assumption) (by omega) (by decide) hV1 (by omega) (fun w36 n36 f36 b36 => ?_)
    have y0_36 := (f36.2 a (by omega)).trans y0
    have y2_36 := (f36.2 (a+2) (by omega)).trans y2
    have y3_36 := (f36.2 (a+3) (by omega)).trans y3
    have hg'_36 := (f36.2 1 (by omega)).trans hg'
    have F_36 := F.step f36 (by omega)
    refine zw_iload_n z62_37 rfl ?_
    refine zw_bipush z62_38 (v := iI (12)) (by decide +kernel) ?_
    refine zj_icmp_ne z62_40 (by omega) (by omega) (fun h40 => ?_) (fun h40 => ?_)
    · refine zw_aload_n z62_73 rfl ?_
      refine zw_getf z62_74 (by assumption) (by rfl) ?_
      refine zw_iload_n z62_77 rfl ?_
      refine zw_iload_n z62_78 rfl ?_
      refine zw_bipush z62_79 (v := iI (8)) (by decide +kernel) ?_
      refine zj_icmp_lt z62_81 (by omega) (by omega) (fun h81 => ?_) (fun h81 => ?_)
      · refine zw_iload z62_88 rfl ?_
        refine zj_astB z62_90 (by assumption) (by omega) (by decide) hV2 (by omega) (fun w90 n90 f90 b90 => ?_)
        have y0_90 := (f90.2 a (by omega)).trans y0_36
        have y1_90 := (f90.2 (a+1) (by omega)).trans n36
        have y3_90 := (f90.2 (a+3) (by omega)).trans y3_36
        have hg'_90 := (f90.2 1 (by omega)).trans hg'_36
        have F_90 := F_36.step f90 (by omega)
        refine zw_iload_n z62_91 rfl ?_
        refine zw_bipush z62_92 (v := iI (12)) (by decide +kernel) ?_
        refine zj_icmp_ne z62_94 (by omega) (by omega) (fun h94 => ?_) (fun h94 => ?_)
        · refine zw_aload_n z62_127 rfl ?_
          refine zw_getf z62_128 (by assumption) (by rfl) ?_
          refine zw_iload_n z62_131 rfl ?_
          refine zw_iload z62_132 rfl ?_
          refine zj_astB z62_134 (by assumption) (by omega) (by decide) b90 (by omega) (fun w134 n134 f134 b134 => ?_)
          have y0_134 := (f134.2 a (by omega)).trans y0_90
          have y1_134 := (f134.2 (a+1) (by omega)).trans y1_90
          have y3_134 := (f134.2 (a+3) (by omega)).trans y3_90
          have hg'_134 := (f134.2 1 (by omega)).trans hg'_90
          have F_134 := F_90.step f134 (by omega)
          refine zw_vret z62_135 rfl ?_
          first | (exfalso; omega) | exact ⟨_, rfl, rfl, rfl, rfl, cr_fin y0_134 y1_134 n134 y3_134 (by subst_vars; unfold cT; (repeat' split) <;> first | rfl | (exfalso; omega)) (by subst_vars; unfold cH; (repeat' split) <;> first | rfl | (exfalso; omega)) (by subst_vars; unfold cA; (repeat' split) <;> first | rfl | (exfalso; omega)), F_134⟩
        · refine zw_aload_n z62_97 rfl ?_
          refine zw_getf z62_98 (by assumption) (by rfl) ?_
          refine zw_aload_n z62_101 rfl ?_
          refine zw_getf z62_102 (by assumption) (by rfl) ?_
          refine zw_iload_n z62_105 rfl ?_
          refine zw_vv (n := 2) z62_106 rfl rfl (by assumption) (Nat.le_of_ble_eq_true rfl) (by omega) (sp_suitOf (by unfold gmA; assumption) hG (by omega)) ?_
          refine zw_dup2 z62_109 ⟨rfl, rfl⟩ ?_
          refine zj_aldB z62_110 (by assumption) (by omega) (by decide) hV3 (fun v110 e110 r110 => ?_)
          refine zw_iconst z62_111 (v := iI 1) rfl ?_
          refine zj_add z62_112 ?_
          refine zj_astB z62_113 (by assumption) (by omega) (by decide) hV3 (by omega) (fun w113 n113 f113 b113 => ?_)
          have y0_113 := (f113.2 a (by omega)).trans y0_90
          have y1_113 := (f113.2 (a+1) (by omega)).trans y1_90
          have y2_113 := (f113.2 (a+2) (by omega)).trans n90
          have hg'_113 := (f113.2 1 (by omega)).trans hg'_90
          have F_113 := F_90.step f113 (by omega)
          refine zw_aload_n z62_114 rfl ?_
          refine zw_dup z62_115 rfl ?_
          refine zw_getf z62_116 (by assumption) (by rfl) ?_
          refine zw_iconst z62_119 (v := iI 1) rfl ?_
          refine zj_add z62_120 ?_
          refine zj_putf z62_121 (by assumption) (Nat.le_of_ble_eq_true rfl) (by rfl) (fun w121 n121 f121 => ?_)
          have y1_121 := (f121.2 (a+1) (by omega)).trans y1_113
          have y2_121 := (f121.2 (a+2) (by omega)).trans y2_113
          have y3_121 := (f121.2 (a+3) (by omega)).trans n113
          have hg'_121 := (f121.2 1 (by omega)).trans hg'_113
          have F_121 := F_113.step f121 (by omega)
          refine zw_goto z62_124 ?_
          refine zw_vret z62_135 rfl ?_
          first | (exfalso; omega) | exact ⟨_, rfl, rfl, rfl, rfl, cr_fin n121 y1_121 y2_121 y3_121 (by subst_vars; unfold cT; (repeat' split) <;> first | rfl | (exfalso; omega)) (by subst_vars; unfold cH; (repeat' split) <;> first | rfl | (exfalso; omega)) (by subst_vars; unfold cA; (repeat' split) <;> first | rfl | (exfalso; omega)), F_121⟩
      · refine zw_iconst z62_84 (v := iI (-1)) rfl ?_
        refine zw_goto z62_85 ?_
        refine zj_astB z62_90 (by assumption) (by omega) (by decide) hV2 (by omega) (fun w90 n90 f90 b90 => ?_)
        have y0_90 := (f90.2 a (by omega)).trans y0_36
        have y1_90 := (f90.2 (a+1) (by omega)).trans n36
        have y3_90 := (f90.2 (a+3) (by omega)).trans y3_36
        have hg'_90 := (f90.2 1 (by omega)).trans hg'_36
        have F_90 := F_36.step f90 (by omega)
        refine zw_iload_n z62_91 rfl ?_
        refine zw_bipush z62_92 (v := iI (12)) (by decide +kernel) ?_
        refine zj_icmp_ne z62_94 (by omega) (by omega) (fun h94 => ?_) (fun h94 => ?_)
        · refine zw_aload_n z62_127 rfl ?_
          refine zw_getf z62_128 (by assumption) (by rfl) ?_
          refine zw_iload_n z62_131 rfl ?_
          refine zw_iload z62_132 rfl ?_
          refine zj_astB z62_134 (by assumption) (by omega) (by decide) b90 (by omega) (fun w134 n134 f134 b134 => ?_)
          have y0_134 := (f134.2 a (by omega)).trans y0_90
          have y1_134 := (f134.2 (a+1) (by omega)).trans y1_90
          have y3_134 := (f134.2 (a+3) (by omega)).trans y3_90
          have hg'_134 := (f134.2 1 (by omega)).trans hg'_90
          have F_134 := F_90.step f134 (by omega)
          refine zw_vret z62_135 rfl ?_
          first | (exfalso; omega) | exact ⟨_, rfl, rfl, rfl, rfl, cr_fin y0_134 y1_134 n134 y3_134 (by subst_vars; unfold cT; (repeat' split) <;> first | rfl | (exfalso; omega)) (by subst_vars; unfold cH; (repeat' split) <;> first | rfl | (exfalso; omega)) (by subst_vars; unfold cA; (repeat' split) <;> first | rfl | (exfalso; omega)), F_134⟩
        · refine zw_aload_n z62_97 rfl ?_
          refine zw_getf z62_98 (by assumption) (by rfl) ?_
          refine zw_aload_n z62_101 rfl ?_
          refine zw_getf z62_102 (by assumption) (by rfl) ?_
          refine zw_iload_n z62_105 rfl ?_
          refine zw_vv (n := 2) z62_106 rfl rfl (by assumption) (Nat.le_of_ble_eq_true rfl) (by omega) (sp_suitOf (by unfold gmA; assumption) hG (by omega)) ?_
          refine zw_dup2 z62_109 ⟨rfl, rfl⟩ ?_
          refine zj_aldB z62_110 (by assumption) (by omega) (by decide) hV3 (fun v110 e110 r110 => ?_)
          refine zw_iconst z62_111 (v := iI 1) rfl ?_
          refine zj_add z62_112 ?_
          refine zj_astB z62_113 (by assumption) (by omega) (by decide) hV3 (by omega) (fun w113 n113 f113 b113 => ?_)
          have y0_113 := (f113.2 a (by omega)).trans y0_90
          have y1_113 := (f113.2 (a+1) (by omega)).trans y1_90
          have y2_113 := (f113.2 (a+2) (by omega)).trans n90
          have hg'_113 := (f113.2 1 (by omega)).trans hg'_90
          have F_113 := F_90.step f113 (by omega)
          refine zw_aload_n z62_114 rfl ?_
          refine zw_dup z62_115 rfl ?_
          refine zw_getf z62_116 (by assumption) (by rfl) ?_
          refine zw_iconst z62_119 (v := iI 1) rfl ?_
          refine zj_add z62_120 ?_
          refine zj_putf z62_121 (by assumption) (Nat.le_of_ble_eq_true rfl) (by rfl) (fun w121 n121 f121 => ?_)
          have y1_121 := (f121.2 (a+1) (by omega)).trans y1_113
          have y2_121 := (f121.2 (a+2) (by omega)).trans y2_113
          have y3_121 := (f121.2 (a+3) (by omega)).trans n113
          have hg'_121 := (f121.2 1 (by omega)).trans hg'_113
          have F_121 := F_113.step f121 (by omega)
          refine zw_goto z62_124 ?_
          refine zw_vret z62_135 rfl ?_
          first | (exfalso; omega) | exact ⟨_, rfl, rfl, rfl, rfl, cr_fin n121 y1_121 y2_121 y3_121 (by subst_vars; unfold cT; (repeat' split) <;> first | rfl | (exfalso; omega)) (by subst_vars; unfold cH; (repeat' split) <;> first | rfl | (exfalso; omega)) (by subst_vars; unfold cA; (repeat' split) <;> first | rfl | (exfalso; omega)), F_121⟩
    · refine zw_aload_n z62_43 rfl ?_
      refine zw_getf z62_44 (by assumption) (by rfl) ?_
      refine zw_aload_n z62_47 rfl ?_
      refine zw_getf z62_48 (by assumption) (by rfl) ?_
      refine zw_iload_n z62_51 rfl ?_
      refine zw_vv (n := 2) z62_52 rfl rfl (by assumption) (Nat.le_of_ble_eq_true rfl) (by omega) (sp_suitOf (by unfold gmA; assumption) hG (by omega)) ?_
      refine zw_dup2 z62_55 ⟨rfl, rfl⟩ ?_
      refine zj_aldB z62_56 (by assumption) (by omega) (by decide) hV3 (fun v56 e56 r56 => ?_)
      refine zw_iconst z62_57 (v := iI 1) rfl ?_
      refine zj_sub z62_58 ?_
      refine zj_astB z62_59 (by assumption) (by omega) (by decide) hV3 (by omega) (fun w59 n59 f59 b59 => ?_)
      have y0_59 := (f59.2 a (by omega)).trans y0_36
      have y1_59 := (f59.2 (a+1) (by omega)).trans n36
      have y2_59 := (f59.2 (a+2) (by omega)).trans y2_36
      have hg'_59 := (f59.2 1 (by omega)).trans hg'_36
      have F_59 := F_36.step f59 (by omega)
      refine zw_aload_n z62_60 rfl ?_
      refine zw_dup z62_61 rfl ?_
      refine zw_getf z62_62 (by assumption) (by rfl) ?_
      refine zw_iconst z62_65 (v := iI 1) rfl ?_
      refine zj_sub z62_66 ?_
      refine zj_putf z62_67 (by assumption) (Nat.le_of_ble_eq_true rfl) (by rfl) (fun w67 n67 f67 => ?_)
      have y1_67 := (f67.2 (a+1) (by omega)).trans y1_59
      have y2_67 := (f67.2 (a+2) (by omega)).trans y2_59
      have y3_67 := (f67.2 (a+3) (by omega)).trans n59
      have hg'_67 := (f67.2 1 (by omega)).trans hg'_59
      have F_67 := F_59.step f67 (by omega)
      refine zw_goto z62_70 ?_
      refine zw_iload_n z62_91 rfl ?_
      refine zw_bipush z62_92 (v := iI (12)) (by decide +kernel) ?_
      refine zj_icmp_ne z62_94 (by omega) (by omega) (fun h94 => ?_) (fun h94 => ?_)
      · refine zw_aload_n z62_127 rfl ?_
        refine zw_getf z62_128 (by assumption) (by rfl) ?_
        refine zw_iload_n z62_131 rfl ?_
        refine zw_iload z62_132 rfl ?_
        refine zj_astB z62_134 (by assumption) (by omega) (by decide) hV2 (by omega) (fun w134 n134 f134 b134 => ?_)
        have y0_134 := (f134.2 a (by omega)).trans n67
        have y1_134 := (f134.2 (a+1) (by omega)).trans y1_67
        have y3_134 := (f134.2 (a+3) (by omega)).trans y3_67
        have hg'_134 := (f134.2 1 (by omega)).trans hg'_67
        have F_134 := F_67.step f134 (by omega)
        refine zw_vret z62_135 rfl ?_
        first | (exfalso; omega) | exact ⟨_, rfl, rfl, rfl, rfl, cr_fin y0_134 y1_134 n134 y3_134 (by subst_vars; unfold cT; (repeat' split) <;> first | rfl | (exfalso; omega)) (by subst_vars; unfold cH; (repeat' split) <;> first | rfl | (exfalso; omega)) (by subst_vars; unfold cA; (repeat' split) <;> first | rfl | (exfalso; omega)), F_134⟩
      · refine zw_aload_n z62_97 rfl ?_
        refine zw_getf z62_98 (by assumption) (by rfl) ?_
        refine zw_aload_n z62_101 rfl ?_
        refine zw_getf z62_102 (by assumption) (by rfl) ?_
        refine zw_iload_n z62_105 rfl ?_
        refine zw_vv (n := 2) z62_106 rfl rfl (by assumption) (Nat.le_of_ble_eq_true rfl) (by omega) (sp_suitOf (by unfold gmA; assumption) hG (by omega)) ?_
        refine zw_dup2 z62_109 ⟨rfl, rfl⟩ ?_
        refine zj_aldB z62_110 (by assumption) (by omega) (by decide) b59 (fun v110 e110 r110 => ?_)
        refine zw_iconst z62_111 (v := iI 1) rfl ?_
        refine zj_add z62_112 ?_
        refine zj_astB z62_113 (by assumption) (by omega) (by decide) b59 (by omega) (fun w113 n113 f113 b113 => ?_)
        have y0_113 := (f113.2 a (by omega)).trans n67
        have y1_113 := (f113.2 (a+1) (by omega)).trans y1_67
        have y2_113 := (f113.2 (a+2) (by omega)).trans y2_67
        have hg'_113 := (f113.2 1 (by omega)).trans hg'_67
        have F_113 := F_67.step f113 (by omega)
        refine zw_aload_n z62_114 rfl ?_
        refine zw_dup z62_115 rfl ?_
        refine zw_getf z62_116 (by assumption) (by rfl) ?_
        refine zw_iconst z62_119 (v := iI 1) rfl ?_
        refine zj_add z62_120 ?_
        refine zj_putf z62_121 (by assumption) (Nat.le_of_ble_eq_true rfl) (by rfl) (fun w121 n121 f121 => ?_)
        have y1_121 := (f121.2 (a+1) (by omega)).trans y1_113
        have y2_121 := (f121.2 (a+2) (by omega)).trans y2_113
        have y3_121 := (f121.2 (a+3) (by omega)).trans n113
        have hg'_121 := (f121.2 1 (by omega)).trans hg'_113
        have F_121 := F_113.step f121 (by omega)
        refine zw_goto z62_124 ?_
        refine zw_vret z62_135 rfl ?_
        first | (exfalso; omega) | exact ⟨_, rfl, rfl, rfl, rfl, cr_fin n121 y1_121 y2_121 y3_121 (by subst_vars; unfold cT; (repeat' split) <;> first | rfl | (exfalso; omega)) (by subst_vars; unfold cH; (repeat' split) <;> first | rfl | (exfalso; omega)) (by subst_vars; unfold cA; (repeat' split) <;> first | rfl | (exfalso; omega)), F_121⟩
end ZLW
end
section
/-! Filling and copying arrays; Layout's other writers; the class Log. (Laid out by gen/tpl.py from tpl/46.log.tpl.) -/
def iFi (f : Nat → Int) (n : Nat) (v : Int) : Nat → Int := fun j => if j < n then v else f j
def iCp (f g : Nat → Int) (n : Nat) : Nat → Int := fun j => if j < n then f j else g j
theorem iFi_s (f : Nat → Int) (n : Nat) (v : Int) : iU (iFi f n v) n v = iFi f (n + 1) v := by
  funext j
  unfold iU iFi
  by_cases h1 : j = n
  · rw [if_pos h1, if_pos (by omega)]
  · rw [if_neg h1]
    by_cases h2 : j < n
    · rw [if_pos h2, if_pos (by omega)]
    · rw [if_neg h2, if_neg (by omega)]
theorem iFi_0 (f : Nat → Int) (v : Int) : iFi f 0 v = f := by
  funext j
  exact if_neg (by omega)
section ZFL
variable {L : Nat} {xs : Nat → Int32} {d q k pc p : Nat} {ls : zi_L} {st : List Value} {w : zi_W} {cn sn : Nat} {Q : zi_O → zi_W → Nat → Nat → Prop}
theorem zj_min {a b : Int} (hc : za_m k pc p) (hs : (st.map (fun v => v.category)).sum ≤ 8) (hd : 1 ≤ d) (hq : 21 ≤ q) (ha : iR a) (hb : iR b) (kk : zw L xs d q k p ls (iV (if b < a then b else a) :: st) w cn sn Q) : zw L xs d q k pc ls (iV b :: iV a :: st) w cn sn Q := by
  refine zw_min hc hs hd hq ?_
  by_cases h : b < a
  · rw [if_pos ((iI_lt hb ha).mpr h)]
    rw [if_pos h] at kk
    exact kk
  · rw [if_neg (fun z => h ((iI_lt hb ha).mp z))]
    rw [if_neg h] at kk
    exact kk
theorem zj_copy {m : Int} {r r0 n0 n1 : Nat} {f g : Nat → Int} (hc : za_y k pc p) (hg0 : zi_get w r0 = some (.inl (0, n0, .inl (iA f)))) (hg : zi_get w r = some (.inl (0, n1, .inl (iA g)))) (hs : (st.map (fun v => v.category)).sum ≤ 8) (hd : 1 ≤ d) (hq : 26 ≤ q) (hm : 0 ≤ m ∧ m ≤ n0 ∧ m ≤ n1 ∧ m < 65536)
    (kk : ∀ w', zi_get w' r = some (.inl (0, n1, .inl (iA (iCp f g m.toNat)))) → zG r w w' → zw L xs d q k p ls st w' cn sn Q) : zw L xs d q k pc ls (iV m :: iV 0 :: .ref r :: iV 0 :: .ref r0 :: st) w cn sn Q := by
  have h0 : (iI 0).toNatClampNeg = 0 := by decide +kernel
  have h1 : (iI m).toNatClampNeg = m.toNat := iI_clamp (by omega)
  refine zw_copy hc hg0 hg hs hd hq ⟨by decide +kernel, by decide +kernel, fun z => ?_, by rw [h0, h1]; omega, by rw [h0, h1]; omega⟩ ?_
  · rw [← iI_0, iI_lt (by omega) (by omega)] at z; omega
  · have e : va_cpy (iA f) (iA g) (iI 0).toNatClampNeg (iI 0).toNatClampNeg (iI m).toNatClampNeg = iA (iCp f g m.toNat) := by
      rw [h0, h1]
      funext j
      unfold va_cpy iA iCp
      by_cases h : j < m.toNat
      · rw [if_pos ⟨Nat.zero_le _, by omega⟩, if_pos h]
        congr 1
        congr 1
        omega
      · rw [if_neg (by omega), if_neg h]
    rw [e]
    exact kk _ (zi_get_self hg) zG.of
theorem lp_fill {r n : Nat} {v : Int} {f : Nat → Int} (hn : n ≤ 65536) : ∀ (m : Nat) (i : Int) (w' : zi_W), i + m = n → 0 ≤ i → zi_get w' r = some (.inl (0, n, .inl (iA (iFi f i.toNat v)))) → zG r w w' → (∀ w'', zi_get w'' r = some (.inl (0, n, .inl (iA (iFi f n v)))) → zG r w w'' → Q (.inl none) w'' cn sn) → zw L xs d q 134 5 [some (.ref r), some (iV v), some (iV i), some (iV n)] [] w' cn sn Q := by
  intro m
  induction m with
  | zero =>
    intro i w' h1 h2 y1 g1 hQ
    have h3 : i = (n : Int) := by omega
    subst h3
    refine zw_iload_n z134_5 rfl ?_
    refine zw_iload_n z134_6 rfl ?_
    refine zj_icmp_ge z134_7 (by omega) (by omega) (fun h => ?_) (fun h => ?_)
    · refine zw_vret z134_20 rfl ?_
      exact hQ _ (by rw [Int.toNat_natCast] at y1; exact y1) g1
    · exact absurd (Int.le_refl _) h
  | succ m ih =>
    intro i w' h1 h2 y1 g1 hQ
    refine zw_iload_n z134_5 rfl ?_
    refine zw_iload_n z134_6 rfl ?_
    refine zj_icmp_ge z134_7 (by omega) (by omega) (fun h => ?_) (fun h => ?_)
    · exfalso; omega
    · refine zw_aload_n z134_10 rfl ?_
      refine zw_iload_n z134_11 rfl ?_
      refine zw_iload_n z134_12 rfl ?_
      refine zj_ast z134_13 y1 (by omega) (by omega) ?_
      refine zj_iinc z134_14 rfl rfl ?_
      refine zw_goto z134_17 ?_
      refine ih (i + 1) _ (by omega) (by omega) ?_ ⟨List.length_set.trans g1.1, fun j hj => (zi_get_set hj).trans (g1.2 j hj)⟩ hQ
      rw [show (i + 1).toNat = i.toNat + 1 by omega, ← iFi_s]
      exact zi_get_self y1
theorem sp_fill {r n : Nat} {v : Int} {f : Nat → Int} (hn : n ≤ 65536) (y1 : zi_get w r = some (.inl (0, n, .inl (iA f)))) : zr L xs d q 134 [.ref r, iV v] w cn sn (fun u w' cn' sn' => u = none ∧ cn' = cn ∧ sn' = sn ∧ zi_get w' r = some (.inl (0, n, .inl (iA (iFi f n v)))) ∧ zG r w w') := by
  refine ⟨_, rfl, ?_⟩
  show zw _ _ _ _ 134 0 [some (.ref r), some (iV v), none, none] [] _ _ _ _
  refine zw_iconst z134_0 (v := iI 0) rfl ?_
  refine zw_istore_n z134_1 rfl ?_
  refine zw_aload_n z134_2 rfl ?_
  refine zj_alen z134_3 y1 ?_
  refine zw_istore_n z134_4 rfl ?_
  exact lp_fill hn n 0 w (by omega) (by omega) (by rw [show (0 : Int).toNat = 0 from rfl, iFi_0]; exact y1) ⟨rfl, fun _ _ => rfl⟩ (fun w'' z1 z2 => ⟨_, rfl, rfl, rfl, rfl, z1, z2⟩)
end ZFL
end
section
/-! Layout's other writers; the class Log. (Laid out by gen/tpl.py from tpl/47.log.tpl.) -/
section ZLG
variable {L : Nat} {xs : Nat → Int32} {d q a o l : Nat} {w : zi_W} {cn sn : Nat} {G b t h b1 t1 h1 : Nat → Int} {la ah la1 ah1 z y c m : Int}
theorem sp_takeAllUp (hy : lyA w a b t h la ah) (hd : 1 ≤ d) (hq : 23 ≤ q) : zr L xs d q 40 [.ref a] w cn sn (fun r w' cn' sn' => r = none ∧ cn' = cn ∧ sn' = sn ∧ lyA w' a (iFi b 52 (-4)) (iFi t 12 (-1)) (iFi h 4 0) 0 0 ∧ zF (lyS a) w w') := by
  obtain ⟨d, rfl⟩ : ∃ e, d = e + 1 := ⟨d - 1, by omega⟩
  obtain ⟨y0, y1, y2, y3⟩ := hy
  have F : zF (lyS a) w w := zF.rf
  refine ⟨_, rfl, ?_⟩
  show zw _ _ _ _ 40 0 [some (.ref a)] [] _ _ _ _
  refine zw_aload_n z40_0 rfl ?_
  refine zw_getf z40_1 (by assumption) (by rfl) ?_
  refine zw_bipush z40_4 (v := iI (-4)) (by decide +kernel) ?_
  refine zw_cs (n := 4) z40_6 rfl rfl (Nat.le_of_ble_eq_true rfl) (by omega) (sp_fill (by decide) y1) (fun v w1 cn1 sn1 h => ?_)
  obtain ⟨rfl, rfl, rfl, n1, g1⟩ := h
  have y0 := (g1.2 a (by omega)).trans y0
  have y2 := (g1.2 (a + 2) (by omega)).trans y2
  have y3 := (g1.2 (a + 3) (by omega)).trans y3
  have F := F.step g1 (by omega)
  refine zw_aload_n z40_9 rfl ?_
  refine zw_getf z40_10 (by assumption) (by rfl) ?_
  refine zw_iconst z40_13 (v := iI (-1)) rfl ?_
  refine zw_cs (n := 4) z40_14 rfl rfl (Nat.le_of_ble_eq_true rfl) (by omega) (sp_fill (by decide) y2) (fun v w2 cn2 sn2 h => ?_)
  obtain ⟨rfl, rfl, rfl, n2, g2⟩ := h
  have y0 := (g2.2 a (by omega)).trans y0
  have n1 := (g2.2 (a + 1) (by omega)).trans n1
  have y3 := (g2.2 (a + 3) (by omega)).trans y3
  have F := F.step g2 (by omega)
  refine zw_aload_n z40_17 rfl ?_
  refine zw_getf z40_18 (by assumption) (by rfl) ?_
  refine zw_iconst z40_21 (v := iI 0) rfl ?_
  refine zw_cs (n := 4) z40_22 rfl rfl (Nat.le_of_ble_eq_true rfl) (by omega) (sp_fill (by decide) y3) (fun v w3 cn3 sn3 h => ?_)
  obtain ⟨rfl, rfl, rfl, n3, g3⟩ := h
  have y0 := (g3.2 a (by omega)).trans y0
  have n1 := (g3.2 (a + 1) (by omega)).trans n1
  have n2 := (g3.2 (a + 2) (by omega)).trans n2
  have F := F.step g3 (by omega)
  refine zw_aload_n z40_25 rfl ?_
  refine zw_iconst z40_26 (v := iI 0) rfl ?_
  refine zj_putf z40_27 (by assumption) (Nat.le_of_ble_eq_true rfl) (by rfl) (fun w27 n27 f27 => ?_)
  have n1_27 := (f27.2 (a+1) (by omega)).trans n1
  have n2_27 := (f27.2 (a+2) (by omega)).trans n2
  have n3_27 := (f27.2 (a+3) (by omega)).trans n3
  have F_27 := F.step f27 (by omega)
  refine zw_aload_n z40_30 rfl ?_
  refine zw_iconst z40_31 (v := iI 0) rfl ?_
  refine zj_putf z40_32 (by assumption) (Nat.le_of_ble_eq_true rfl) (by rfl) (fun w32 n32 f32 => ?_)
  have n1_32 := (f32.2 (a+1) (by omega)).trans n1_27
  have n2_32 := (f32.2 (a+2) (by omega)).trans n2_27
  have n3_32 := (f32.2 (a+3) (by omega)).trans n3_27
  have F_32 := F_27.step f32 (by omega)
  refine zw_vret z40_35 rfl ?_
  exact ⟨_, rfl, rfl, rfl, rfl, ⟨n32, n1_32, n2_32, n3_32⟩, F_32⟩
theorem sp_becomeLike (hy : lyA w a b t h la ah) (hx : lyA w o b1 t1 h1 la1 ah1) (ho : a + 3 < o ∨ o + 3 < a) (hd : 1 ≤ d) (hq : 26 ≤ q) : zr L xs d q 41 [.ref a, .ref o] w cn sn (fun r w' cn' sn' => r = none ∧ cn' = cn ∧ sn' = sn ∧ lyA w' a (iCp b1 b 52) (iCp t1 t 12) (iCp h1 h 4) la1 ah1 ∧ zF (lyS a) w w') := by
  obtain ⟨y0, y1, y2, y3⟩ := hy
  obtain ⟨x0, x1, x2, x3⟩ := hx
  have F : zF (lyS a) w w := zF.rf
  refine ⟨_, rfl, ?_⟩
  show zw _ _ _ _ 41 0 [some (.ref a), some (.ref o)] [] _ _ _ _
  refine zw_aload_n z41_0 rfl ?_
  refine zw_getf z41_1 (by assumption) (by rfl) ?_
  refine zw_iconst z41_4 (v := iI 0) rfl ?_
  refine zw_aload_n z41_5 rfl ?_
  refine zw_getf z41_6 (by assumption) (by rfl) ?_
  refine zw_iconst z41_9 (v := iI 0) rfl ?_
  refine zw_bipush z41_10 (v := iI (52)) (by decide +kernel) ?_
  refine zj_copy z41_12 (by assumption) (by assumption) (Nat.le_of_ble_eq_true rfl) (by omega) (by omega) (by omega) (fun w12 n12 f12 => ?_)
  have y0_12 := (f12.2 a (by omega)).trans y0
  have y2_12 := (f12.2 (a+2) (by omega)).trans y2
  have y3_12 := (f12.2 (a+3) (by omega)).trans y3
  have x0_12 := (f12.2 o (by omega)).trans x0
  have x1_12 := (f12.2 (o+1) (by omega)).trans x1
  have x2_12 := (f12.2 (o+2) (by omega)).trans x2
  have x3_12 := (f12.2 (o+3) (by omega)).trans x3
  have F_12 := F.step f12 (by omega)
  refine zw_aload_n z41_15 rfl ?_
  refine zw_getf z41_16 (by assumption) (by rfl) ?_
  refine zw_iconst z41_19 (v := iI 0) rfl ?_
  refine zw_aload_n z41_20 rfl ?_
  refine zw_getf z41_21 (by assumption) (by rfl) ?_
  refine zw_iconst z41_24 (v := iI 0) rfl ?_
  refine zw_bipush z41_25 (v := iI (12)) (by decide +kernel) ?_
  refine zj_copy z41_27 (by assumption) (by assumption) (Nat.le_of_ble_eq_true rfl) (by omega) (by omega) (by omega) (fun w27 n27 f27 => ?_)
  have y0_27 := (f27.2 a (by omega)).trans y0_12
  have y1_27 := (f27.2 (a+1) (by omega)).trans n12
  have y3_27 := (f27.2 (a+3) (by omega)).trans y3_12
  have x0_27 := (f27.2 o (by omega)).trans x0_12
  have x1_27 := (f27.2 (o+1) (by omega)).trans x1_12
  have x2_27 := (f27.2 (o+2) (by omega)).trans x2_12
  have x3_27 := (f27.2 (o+3) (by omega)).trans x3_12
  have F_27 := F_12.step f27 (by omega)
  refine zw_aload_n z41_30 rfl ?_
  refine zw_getf z41_31 (by assumption) (by rfl) ?_
  refine zw_iconst z41_34 (v := iI 0) rfl ?_
  refine zw_aload_n z41_35 rfl ?_
  refine zw_getf z41_36 (by assumption) (by rfl) ?_
  refine zw_iconst z41_39 (v := iI 0) rfl ?_
  refine zw_iconst z41_40 (v := iI 4) rfl ?_
  refine zj_copy z41_41 (by assumption) (by assumption) (Nat.le_of_ble_eq_true rfl) (by omega) (by omega) (by omega) (fun w41 n41 f41 => ?_)
  have y0_41 := (f41.2 a (by omega)).trans y0_27
  have y1_41 := (f41.2 (a+1) (by omega)).trans y1_27
  have y2_41 := (f41.2 (a+2) (by omega)).trans n27
  have x0_41 := (f41.2 o (by omega)).trans x0_27
  have x1_41 := (f41.2 (o+1) (by omega)).trans x1_27
  have x2_41 := (f41.2 (o+2) (by omega)).trans x2_27
  have x3_41 := (f41.2 (o+3) (by omega)).trans x3_27
  have F_41 := F_27.step f41 (by omega)
  refine zw_aload_n z41_44 rfl ?_
  refine zw_aload_n z41_45 rfl ?_
  refine zw_getf z41_46 (by assumption) (by rfl) ?_
  refine zj_putf z41_49 (by assumption) (Nat.le_of_ble_eq_true rfl) (by rfl) (fun w49 n49 f49 => ?_)
  have y1_49 := (f49.2 (a+1) (by omega)).trans y1_41
  have y2_49 := (f49.2 (a+2) (by omega)).trans y2_41
  have y3_49 := (f49.2 (a+3) (by omega)).trans n41
  have x0_49 := (f49.2 o (by omega)).trans x0_41
  have x1_49 := (f49.2 (o+1) (by omega)).trans x1_41
  have x2_49 := (f49.2 (o+2) (by omega)).trans x2_41
  have x3_49 := (f49.2 (o+3) (by omega)).trans x3_41
  have F_49 := F_41.step f49 (by omega)
  refine zw_aload_n z41_52 rfl ?_
  refine zw_aload_n z41_53 rfl ?_
  refine zw_getf z41_54 (by assumption) (by rfl) ?_
  refine zj_putf z41_57 (by assumption) (Nat.le_of_ble_eq_true rfl) (by rfl) (fun w57 n57 f57 => ?_)
  have y1_57 := (f57.2 (a+1) (by omega)).trans y1_49
  have y2_57 := (f57.2 (a+2) (by omega)).trans y2_49
  have y3_57 := (f57.2 (a+3) (by omega)).trans y3_49
  have x0_57 := (f57.2 o (by omega)).trans x0_49
  have x1_57 := (f57.2 (o+1) (by omega)).trans x1_49
  have x2_57 := (f57.2 (o+2) (by omega)).trans x2_49
  have x3_57 := (f57.2 (o+3) (by omega)).trans x3_49
  have F_57 := F_49.step f57 (by omega)
  refine zw_vret z41_60 rfl ?_
  exact ⟨_, rfl, rfl, rfl, rfl, ⟨n57, y1_57, y2_57, y3_57⟩, F_57⟩
/-- the log at place l: lowest cards, sources, targets, amounts, the next place, how many -/
def lgA (w : zi_W) (l : Nat) (lo so ta am : Nat → Int) (nx ct : Int) : Prop := zi_get w l = some (.inr (3, [.ref (l + 1), .ref (l + 2), .ref (l + 3), .ref (l + 4), iV nx, iV ct])) ∧ zi_get w (l + 1) = some (.inl (0, 60, .inl (iA lo))) ∧ zi_get w (l + 2) = some (.inl (0, 60, .inl (iA so))) ∧ zi_get w (l + 3) = some (.inl (0, 60, .inl (iA ta))) ∧ zi_get w (l + 4) = some (.inl (0, 60, .inl (iA am)))
def lgV (lo so ta am : Nat → Int) (nx ct : Int) : Prop := (∀ j, 0 ≤ lo j ∧ lo j ≤ 51) ∧ (∀ j, 0 ≤ so j ∧ so j ≤ 12) ∧ (∀ j, 0 ≤ ta j ∧ ta j ≤ 12) ∧ (∀ j, 0 ≤ am j ∧ am j ≤ 13) ∧ (0 ≤ nx ∧ nx < 60) ∧ (0 ≤ ct ∧ ct ≤ 60)
abbrev lgS (l : Nat) : Nat → Prop := fun j => l ≤ j ∧ j ≤ l + 4
variable {lo so ta am : Nat → Int} {nx ct : Int}
theorem sp_forgetAll (hy : lgA w l lo so ta am nx ct) : zr L xs d q 64 [.ref l] w cn sn (fun r w' cn' sn' => r = none ∧ cn' = cn ∧ sn' = sn ∧ lgA w' l lo so ta am 0 0 ∧ zF (lgS l) w w') := by
  obtain ⟨y0, y1, y2, y3, y4⟩ := hy
  have F : zF (lgS l) w w := zF.rf
  refine ⟨_, rfl, ?_⟩
  show zw _ _ _ _ 64 0 [some (.ref l)] [] _ _ _ _
  refine zw_aload_n z64_0 rfl ?_
  refine zw_iconst z64_1 (v := iI 0) rfl ?_
  refine zj_putf z64_2 (by assumption) (Nat.le_of_ble_eq_true rfl) (by rfl) (fun w2 n2 f2 => ?_)
  have y1_2 := (f2.2 (l+1) (by omega)).trans y1
  have y2_2 := (f2.2 (l+2) (by omega)).trans y2
  have y3_2 := (f2.2 (l+3) (by omega)).trans y3
  have y4_2 := (f2.2 (l+4) (by omega)).trans y4
  have F_2 := F.step f2 (by omega)
  refine zw_aload_n z64_5 rfl ?_
  refine zw_iconst z64_6 (v := iI 0) rfl ?_
  refine zj_putf z64_7 (by assumption) (Nat.le_of_ble_eq_true rfl) (by rfl) (fun w7 n7 f7 => ?_)
  have y1_7 := (f7.2 (l+1) (by omega)).trans y1_2
  have y2_7 := (f7.2 (l+2) (by omega)).trans y2_2
  have y3_7 := (f7.2 (l+3) (by omega)).trans y3_2
  have y4_7 := (f7.2 (l+4) (by omega)).trans y4_2
  have F_7 := F_2.step f7 (by omega)
  refine zw_vret z64_10 rfl ?_
  exact ⟨_, rfl, rfl, rfl, rfl, ⟨n7, y1_7, y2_7, y3_7, y4_7⟩, F_7⟩
abbrev lgNx (nx : Int) : Int := if nx + 1 < 60 then nx + 1 else 0
abbrev lgCt (ct : Int) : Int := if 60 < ct + 1 then 60 else ct + 1
theorem lg_fin {w' : zi_W} {lo so ta am : Nat → Int} {nx nx' ct : Int} (y0 : zi_get w' l = some (.inr (3, [.ref (l + 1), .ref (l + 2), .ref (l + 3), .ref (l + 4), iV nx, iV ct]))) (y1 : zi_get w' (l + 1) = some (.inl (0, 60, .inl (iA lo)))) (y2 : zi_get w' (l + 2) = some (.inl (0, 60, .inl (iA so)))) (y3 : zi_get w' (l + 3) = some (.inl (0, 60, .inl (iA ta)))) (y4 : zi_get w' (l + 4) = some (.inl (0, 60, .inl (iA am)))) (e : nx = nx') : lgA w' l lo so ta am nx' ct := by
  subst e
  exact ⟨y0, y1, y2, y3, y4⟩
theorem sp_note (hy : lgA w l lo so ta am nx ct) (hV : lgV lo so ta am nx ct) (hc : 0 ≤ c ∧ c ≤ 51) (hz : 0 ≤ z ∧ z ≤ 12) (hz2 : 0 ≤ y ∧ y ≤ 12) (hm : 0 ≤ m ∧ m ≤ 13) (hd : 1 ≤ d) (hq : 21 ≤ q) : zr L xs d q 65 [.ref l, iV c, iV z, iV y, iV m] w cn sn (fun r w' cn' sn' => r = none ∧ cn' = cn ∧ sn' = sn ∧ lgA w' l (iU lo nx.toNat c) (iU so nx.toNat z) (iU ta nx.toNat y) (iU am nx.toNat m) (lgNx nx) (lgCt ct) ∧ zF (lgS l) w w') := by
  obtain ⟨y0, y1, y2, y3, y4⟩ := hy
  obtain ⟨hV1, hV2, hV3, hV4, hV5, hV6⟩ := hV
  have F : zF (lgS l) w w := zF.rf
  refine ⟨_, rfl, ?_⟩
  show zw _ _ _ _ 65 0 [some (.ref l), some (iV c), some (iV z), some (iV y), some (iV m)] [] _ _ _ _
  refine zw_aload_n z65_0 rfl ?_
  refine zw_getf z65_1 (by assumption) (by rfl) ?_
  refine zw_aload_n z65_4 rfl ?_
  refine zw_getf z65_5 (by assumption) (by rfl) ?_
  refine zw_iload_n z65_8 rfl ?_
  refine zj_astB z65_9 (by assumption) (by omega) (by decide) hV1 (by omega) (fun w9 n9 f9 b9 => ?_)
  have y0_9 := (f9.2 l (by omega)).trans y0
  have y2_9 := (f9.2 (l+2) (by omega)).trans y2
  have y3_9 := (f9.2 (l+3) (by omega)).trans y3
  have y4_9 := (f9.2 (l+4) (by omega)).trans y4
  have F_9 := F.step f9 (by omega)
  refine zw_aload_n z65_10 rfl ?_
  refine zw_getf z65_11 (by assumption) (by rfl) ?_
  refine zw_aload_n z65_14 rfl ?_
  refine zw_getf z65_15 (by assumption) (by rfl) ?_
  refine zw_iload_n z65_18 rfl ?_
  refine zj_astB z65_19 (by assumption) (by omega) (by decide) hV2 (by omega) (fun w19 n19 f19 b19 => ?_)
  have y0_19 := (f19.2 l (by omega)).trans y0_9
  have y1_19 := (f19.2 (l+1) (by omega)).trans n9
  have y3_19 := (f19.2 (l+3) (by omega)).trans y3_9
  have y4_19 := (f19.2 (l+4) (by omega)).trans y4_9
  have F_19 := F_9.step f19 (by omega)
  refine zw_aload_n z65_20 rfl ?_
  refine zw_getf z65_21 (by assumption) (by rfl) ?_
  refine zw_aload_n z65_24 rfl ?_
  refine zw_getf z65_25 (by assumption) (by rfl) ?_
  refine zw_iload_n z65_28 rfl ?_
  refine zj_astB z65_29 (by assumption) (by omega) (by decide) hV3 (by omega) (fun w29 n29 f29 b29 => ?_)
  have y0_29 := (f29.2 l (by omega)).trans y0_19
  have y1_29 := (f29.2 (l+1) (by omega)).trans y1_19
  have y2_29 := (f29.2 (l+2) (by omega)).trans n19
  have y4_29 := (f29.2 (l+4) (by omega)).trans y4_19
  have F_29 := F_19.step f29 (by omega)
  refine zw_aload_n z65_30 rfl ?_
  refine zw_getf z65_31 (by assumption) (by rfl) ?_
  refine zw_aload_n z65_34 rfl ?_
  refine zw_getf z65_35 (by assumption) (by rfl) ?_
  refine zw_iload z65_38 rfl ?_
  refine zj_astB z65_40 (by assumption) (by omega) (by decide) hV4 (by omega) (fun w40 n40 f40 b40 => ?_)
  have y0_40 := (f40.2 l (by omega)).trans y0_29
  have y1_40 := (f40.2 (l+1) (by omega)).trans y1_29
  have y2_40 := (f40.2 (l+2) (by omega)).trans y2_29
  have y3_40 := (f40.2 (l+3) (by omega)).trans n29
  have F_40 := F_29.step f40 (by omega)
  refine zw_aload_n z65_41 rfl ?_
  refine zw_aload_n z65_42 rfl ?_
  refine zw_getf z65_43 (by assumption) (by rfl) ?_
  refine zw_iconst z65_46 (v := iI 1) rfl ?_
  refine zj_add z65_47 ?_
  refine zw_bipush z65_48 (v := iI (60)) (by decide +kernel) ?_
  refine zj_icmp_ge z65_50 (by omega) (by omega) (fun h50 => ?_) (fun h50 => ?_)
  · refine zw_iconst z65_62 (v := iI 0) rfl ?_
    refine zj_putf z65_63 (by assumption) (Nat.le_of_ble_eq_true rfl) (by rfl) (fun w63 n63 f63 => ?_)
    have y1_63 := (f63.2 (l+1) (by omega)).trans y1_40
    have y2_63 := (f63.2 (l+2) (by omega)).trans y2_40
    have y3_63 := (f63.2 (l+3) (by omega)).trans y3_40
    have y4_63 := (f63.2 (l+4) (by omega)).trans n40
    have F_63 := F_40.step f63 (by omega)
    refine zw_aload_n z65_66 rfl ?_
    refine zw_aload_n z65_67 rfl ?_
    refine zw_getf z65_68 (by assumption) (by rfl) ?_
    refine zw_iconst z65_71 (v := iI 1) rfl ?_
    refine zj_add z65_72 ?_
    refine zw_bipush z65_73 (v := iI (60)) (by decide +kernel) ?_
    refine zj_min z65_75 (Nat.le_of_ble_eq_true rfl) (by omega) (by omega) (by omega) (by omega) ?_
    refine zj_putf z65_78 (by assumption) (Nat.le_of_ble_eq_true rfl) (by rfl) (fun w78 n78 f78 => ?_)
    have y1_78 := (f78.2 (l+1) (by omega)).trans y1_63
    have y2_78 := (f78.2 (l+2) (by omega)).trans y2_63
    have y3_78 := (f78.2 (l+3) (by omega)).trans y3_63
    have y4_78 := (f78.2 (l+4) (by omega)).trans y4_63
    have F_78 := F_63.step f78 (by omega)
    refine zw_vret z65_81 rfl ?_
    exact ⟨_, rfl, rfl, rfl, rfl, lg_fin n78 y1_78 y2_78 y3_78 y4_78 (by unfold lgNx; first | rw [if_pos (by omega)] | rw [if_neg (by omega)]), F_78⟩
  · refine zw_aload_n z65_53 rfl ?_
    refine zw_getf z65_54 (by assumption) (by rfl) ?_
    refine zw_iconst z65_57 (v := iI 1) rfl ?_
    refine zj_add z65_58 ?_
    refine zw_goto z65_59 ?_
    refine zj_putf z65_63 (by assumption) (Nat.le_of_ble_eq_true rfl) (by rfl) (fun w63 n63 f63 => ?_)
    have y1_63 := (f63.2 (l+1) (by omega)).trans y1_40
    have y2_63 := (f63.2 (l+2) (by omega)).trans y2_40
    have y3_63 := (f63.2 (l+3) (by omega)).trans y3_40
    have y4_63 := (f63.2 (l+4) (by omega)).trans n40
    have F_63 := F_40.step f63 (by omega)
    refine zw_aload_n z65_66 rfl ?_
    refine zw_aload_n z65_67 rfl ?_
    refine zw_getf z65_68 (by assumption) (by rfl) ?_
    refine zw_iconst z65_71 (v := iI 1) rfl ?_
    refine zj_add z65_72 ?_
    refine zw_bipush z65_73 (v := iI (60)) (by decide +kernel) ?_
    refine zj_min z65_75 (Nat.le_of_ble_eq_true rfl) (by omega) (by omega) (by omega) (by omega) ?_
    refine zj_putf z65_78 (by assumption) (Nat.le_of_ble_eq_true rfl) (by rfl) (fun w78 n78 f78 => ?_)
    have y1_78 := (f78.2 (l+1) (by omega)).trans y1_63
    have y2_78 := (f78.2 (l+2) (by omega)).trans y2_63
    have y3_78 := (f78.2 (l+3) (by omega)).trans y3_63
    have y4_78 := (f78.2 (l+4) (by omega)).trans y4_63
    have F_78 := F_63.step f78 (by omega)
    refine zw_vret z65_81 rfl ?_
    exact ⟨_, rfl, rfl, rfl, rfl, lg_fin n78 y1_78 y2_78 y3_78 y4_78 (by unfold lgNx; first | rw [if_pos (by omega)] | rw [if_neg (by omega)]), F_78⟩
abbrev lgPv (nx : Int) : Int := if 0 < nx then nx - 1 else 59
theorem sp_takeLatest (hy : lgA w l lo so ta am nx ct) (hV : lgV lo so ta am nx ct) : zr L xs d q 66 [.ref l] w cn sn (fun r w' cn' sn' => r = some (iV (lgPv nx)) ∧ cn' = cn ∧ sn' = sn ∧ lgA w' l lo so ta am (lgPv nx) (ct - 1) ∧ zF (lgS l) w w') := by
  obtain ⟨y0, y1, y2, y3, y4⟩ := hy
  obtain ⟨hV1, hV2, hV3, hV4, hV5, hV6⟩ := hV
  have F : zF (lgS l) w w := zF.rf
  refine ⟨_, rfl, ?_⟩
  show zw _ _ _ _ 66 0 [some (.ref l)] [] _ _ _ _
  refine zw_aload_n z66_0 rfl ?_
  refine zw_aload_n z66_1 rfl ?_
  refine zw_getf z66_2 (by assumption) (by rfl) ?_
  refine zj_if_le z66_5 (by omega) (fun h5 => ?_) (fun h5 => ?_)
  · refine zw_bipush z66_17 (v := iI (59)) (by decide +kernel) ?_
    refine zj_putf z66_19 (by assumption) (Nat.le_of_ble_eq_true rfl) (by rfl) (fun w19 n19 f19 => ?_)
    have y1_19 := (f19.2 (l+1) (by omega)).trans y1
    have y2_19 := (f19.2 (l+2) (by omega)).trans y2
    have y3_19 := (f19.2 (l+3) (by omega)).trans y3
    have y4_19 := (f19.2 (l+4) (by omega)).trans y4
    have F_19 := F.step f19 (by omega)
    refine zw_aload_n z66_22 rfl ?_
    refine zw_dup z66_23 rfl ?_
    refine zw_getf z66_24 (by assumption) (by rfl) ?_
    refine zw_iconst z66_27 (v := iI 1) rfl ?_
    refine zj_sub z66_28 ?_
    refine zj_putf z66_29 (by assumption) (Nat.le_of_ble_eq_true rfl) (by rfl) (fun w29 n29 f29 => ?_)
    have y1_29 := (f29.2 (l+1) (by omega)).trans y1_19
    have y2_29 := (f29.2 (l+2) (by omega)).trans y2_19
    have y3_29 := (f29.2 (l+3) (by omega)).trans y3_19
    have y4_29 := (f29.2 (l+4) (by omega)).trans y4_19
    have F_29 := F_19.step f29 (by omega)
    refine zw_aload_n z66_32 rfl ?_
    refine zw_getf z66_33 (by assumption) (by rfl) ?_
    refine zw_iret z66_36 rfl ?_
    first | (have e9 : lgPv nx = nx - 1 := if_pos (by omega)) | (have e9 : lgPv nx = 59 := if_neg (by omega))
    exact ⟨_, rfl, by rw [e9], rfl, rfl, by rw [e9]; exact ⟨n29, y1_29, y2_29, y3_29, y4_29⟩, F_29⟩
  · refine zw_aload_n z66_8 rfl ?_
    refine zw_getf z66_9 (by assumption) (by rfl) ?_
    refine zw_iconst z66_12 (v := iI 1) rfl ?_
    refine zj_sub z66_13 ?_
    refine zw_goto z66_14 ?_
    refine zj_putf z66_19 (by assumption) (Nat.le_of_ble_eq_true rfl) (by rfl) (fun w19 n19 f19 => ?_)
    have y1_19 := (f19.2 (l+1) (by omega)).trans y1
    have y2_19 := (f19.2 (l+2) (by omega)).trans y2
    have y3_19 := (f19.2 (l+3) (by omega)).trans y3
    have y4_19 := (f19.2 (l+4) (by omega)).trans y4
    have F_19 := F.step f19 (by omega)
    refine zw_aload_n z66_22 rfl ?_
    refine zw_dup z66_23 rfl ?_
    refine zw_getf z66_24 (by assumption) (by rfl) ?_
    refine zw_iconst z66_27 (v := iI 1) rfl ?_
    refine zj_sub z66_28 ?_
    refine zj_putf z66_29 (by assumption) (Nat.le_of_ble_eq_true rfl) (by rfl) (fun w29 n29 f29 => ?_)
    have y1_29 := (f29.2 (l+1) (by omega)).trans y1_19
    have y2_29 := (f29.2 (l+2) (by omega)).trans y2_19
    have y3_29 := (f29.2 (l+3) (by omega)).trans y3_19
    have y4_29 := (f29.2 (l+4) (by omega)).trans y4_19
    have F_29 := F_19.step f29 (by omega)
    refine zw_aload_n z66_32 rfl ?_
    refine zw_getf z66_33 (by assumption) (by rfl) ?_
    refine zw_iret z66_36 rfl ?_
    first | (have e9 : lgPv nx = nx - 1 := if_pos (by omega)) | (have e9 : lgPv nx = 59 := if_neg (by omega))
    exact ⟨_, rfl, by rw [e9], rfl, rfl, by rw [e9]; exact ⟨n29, y1_29, y2_29, y3_29, y4_29⟩, F_29⟩
end ZLG
end
section
/-! The class Search: shares, hashes, likeness, slots. (Laid out by gen/tpl.py from tpl/48.hash.tpl.) -/
def shX (x : Int32) : Int32 := ((x ^^^ (x.toUInt32 >>> ((iI 15).toUInt32 &&& Int32.toUInt32 31)).toInt32) * iI (-2048144777)) ^^^ (((x ^^^ (x.toUInt32 >>> ((iI 15).toUInt32 &&& Int32.toUInt32 31)).toInt32) * iI (-2048144777)).toUInt32 >>> ((iI 13).toUInt32 &&& Int32.toUInt32 31)).toInt32
/-- the share of card c on ground g -/
def sh (c g : Int) : Int := (shX (iI ((64 * c + g - (-4)) * (-1640531535)))).toInt
theorem sh_rng (c g : Int) : iR (sh c g) := iI_rng _
theorem sh_of (c g : Int) : iI (sh c g) = shX (iI ((64 * c + g - (-4)) * (-1640531535))) := iI_of _
/-- a number as an int holds it -/
def nm (z : Int) : Int := (iI z).toInt
theorem nm_rng (z : Int) : iR (nm z) := iI_rng _
theorem nm_of (z : Int) : iI (nm z) = iI z := iI_of _
theorem nm_eq {a b : Int} : nm a = nm b ↔ iI a = iI b := Int32.toInt_inj
theorem nm_id {z : Int} (h : iR z) : nm z = z := iI_toInt h
/-- a hash: the shares of the n cards from c on, added to z -/
def hsm (b : Nat → Int) : Nat → Nat → Int → Int
  | 0, _, z => z
  | n + 1, c, z => hsm b n (c + 1) (nm (z + sh c (b c)))
/-- the search at place 11: its numbers and arrays -/
def zfd : Nat → Option Nat := fun j => some (16 + 4 * j)
def srA (w : zi_W) (fu ct tm fs ps : Int) (H S1 S2 : Nat → Int) : Prop := zi_get w 11 = some (.inr (4, [.ref 1, .ref 12, .ref 13, .ref 14, .ref 15, iV fu, iV ct, iV tm, iV fs, iV ps])) ∧ zi_get w 12 = some (.inl (3, 200, .inr (.inr (.inr (.inr zfd))))) ∧ zi_get w 13 = some (.inl (0, 200, .inl (iA H))) ∧ zi_get w 14 = some (.inl (0, 200, .inl (iA S1))) ∧ zi_get w 15 = some (.inl (0, 512, .inl (iA S2)))
section ZHS
variable {L : Nat} {xs : Nat → Int32} {d q a o : Nat} {w : zi_W} {cn sn : Nat} {Q : zi_O → zi_W → Nat → Nat → Prop} {G b t h b1 t1 h1 H S1 S2 : Nat → Int} {la ah la1 ah1 z y c g mv gr fu ct tm fs ps : Int}
theorem sp_share : zv d q 75 [iV c, iV g] w (iI (sh c g)) := by
  intro L xs cn sn
  refine ⟨_, rfl, ?_⟩
  show zw _ _ _ _ 75 0 [some (iV c), some (iV g), none] [] _ _ _ _
  refine zw_bipush z75_0 (v := iI (64)) (by decide +kernel) ?_
  refine zw_iload_n z75_2 rfl ?_
  refine zj_mul z75_3 ?_
  refine zw_iload_n z75_4 rfl ?_
  refine zj_add z75_5 ?_
  refine zw_bipush z75_6 (v := iI (-4)) (by decide +kernel) ?_
  refine zj_sub z75_8 ?_
  refine zj_ldc z75_9 (z := (-1640531535)) (by decide +kernel) ?_
  refine zj_mul z75_11 ?_
  refine zw_istore_n z75_12 rfl ?_
  refine zw_iload_n z75_13 rfl ?_
  refine zw_iload_n z75_14 rfl ?_
  refine zw_bipush z75_15 (v := iI (15)) (by decide +kernel) ?_
  refine zw_iushr z75_17 ?_
  refine zw_ixor z75_18 ?_
  refine zj_ldc z75_19 (z := -2048144777) (by decide +kernel) ?_
  refine zw_imul z75_21 ?_
  refine zw_istore_n z75_22 rfl ?_
  refine zw_iload_n z75_23 rfl ?_
  refine zw_iload_n z75_24 rfl ?_
  refine zw_bipush z75_25 (v := iI (13)) (by decide +kernel) ?_
  refine zw_iushr z75_27 ?_
  refine zw_ixor z75_28 ?_
  refine zw_iret z75_29 rfl ?_
  exact zv_end (by rw [sh_of]; rfl)
/-- alike but for one card's ground, for the cards from i on -/
abbrev lAk (b1 b : Nat → Int) (mv gr : Int) (i n : Nat) : Prop := ∀ j, j < n → i ≤ j → b1 j = (if (j : Int) = mv then gr else b j)
theorem lp_isAlike {N : Nat} (hN : N ≤ 52) (hy : lyA w a b1 t1 h1 la1 ah1) (hx : lyA w o b t h la ah) (hB1 : ∀ j, -4 ≤ b1 j ∧ b1 j ≤ 51) (hB2 : ∀ j, -4 ≤ b j ∧ b j ≤ 51) (hm : 0 ≤ mv ∧ mv ≤ 51) (hr : -4 ≤ gr ∧ gr ≤ 51) : ∀ (n : Nat) (i : Int) (x7 : Option Value), i + n = N → 0 ≤ i → (∀ u, u = b2 (lAk b1 b mv gr i.toNat N) → Q (.inl (some (iV u))) w cn sn) → zw L xs d q 73 12 [some (.ref 11), some (.ref a), some (.ref o), some (iV mv), some (iV gr), some (iV N), some (iV i), x7] [] w cn sn Q := by
  obtain ⟨y0, y1, y2, y3⟩ := hy
  obtain ⟨x0, x1, x2, x3⟩ := hx
  intro n
  induction n with
  | zero =>
    intro i x7 h1 h2 hQ
    refine zw_iload z73_12 rfl ?_
    refine zw_iload z73_14 rfl ?_
    refine zj_icmp_ge z73_16 (by omega) (by omega) (fun h16 => ?_) (fun h16 => ?_)
    · refine zw_iconst z73_59 (v := iI 1) rfl ?_
      refine zj_bret z73_60 rfl (by first | exact b2_r | omega) ?_
      first | (exfalso; omega) | exact hQ _ (b2_t (P := lAk b1 b mv gr i.toNat N) (fun j q1 q2 => by omega)).symm
    · refine zw_iload z73_19 rfl ?_
      refine zw_iload_n z73_21 rfl ?_
      refine zj_icmp_ne z73_22 (by omega) (by omega) (fun h22 => ?_) (fun h22 => ?_)
      · refine zw_aload_n z73_30 rfl ?_
        refine zw_getf z73_31 (by assumption) (by rfl) ?_
        refine zw_iload z73_34 rfl ?_
        refine zj_aldB z73_36 (by assumption) (by omega) (by decide) hB2 (fun v36 e36 r36 => ?_)
        refine zw_istore z73_37 rfl ?_
        refine zw_aload_n z73_39 rfl ?_
        refine zw_getf z73_40 (by assumption) (by rfl) ?_
        refine zw_iload z73_43 rfl ?_
        refine zj_aldB z73_45 (by assumption) (by omega) (by decide) hB1 (fun v45 e45 r45 => ?_)
        refine zw_iload z73_46 rfl ?_
        refine zj_icmp_eq z73_48 (by omega) (by omega) (fun h48 => ?_) (fun h48 => ?_)
        · refine zj_iinc z73_53 rfl rfl ?_
          refine zw_goto z73_56 ?_
          first | (exfalso; omega) | exact ih (i + 1) _ (by omega) (by omega) (fun u hu => hQ u (by rw [hu]; apply b2_c; constructor; (intro q j h1 h2; by_cases h3 : j = i.toNat; (subst h3; first | (rw [if_pos (by omega)]; omega) | (rw [if_neg (by omega)]; omega)); exact q j h1 (by omega)); (intro q j h1 h2; exact q j h1 (by omega))))
        · refine zw_iconst z73_51 (v := iI 0) rfl ?_
          refine zj_bret z73_52 rfl (by first | exact b2_r | omega) ?_
          first | (exfalso; omega) | exact hQ _ (b2_t (P := lAk b1 b mv gr i.toNat N) (fun j q1 q2 => by omega)).symm
      · refine zw_iload z73_25 rfl ?_
        refine zw_goto z73_27 ?_
        refine zw_istore z73_37 rfl ?_
        refine zw_aload_n z73_39 rfl ?_
        refine zw_getf z73_40 (by assumption) (by rfl) ?_
        refine zw_iload z73_43 rfl ?_
        refine zj_aldB z73_45 (by assumption) (by omega) (by decide) hB1 (fun v45 e45 r45 => ?_)
        refine zw_iload z73_46 rfl ?_
        refine zj_icmp_eq z73_48 (by omega) (by omega) (fun h48 => ?_) (fun h48 => ?_)
        · refine zj_iinc z73_53 rfl rfl ?_
          refine zw_goto z73_56 ?_
          first | (exfalso; omega) | exact ih (i + 1) _ (by omega) (by omega) (fun u hu => hQ u (by rw [hu]; apply b2_c; constructor; (intro q j h1 h2; by_cases h3 : j = i.toNat; (subst h3; first | (rw [if_pos (by omega)]; omega) | (rw [if_neg (by omega)]; omega)); exact q j h1 (by omega)); (intro q j h1 h2; exact q j h1 (by omega))))
        · refine zw_iconst z73_51 (v := iI 0) rfl ?_
          refine zj_bret z73_52 rfl (by first | exact b2_r | omega) ?_
          first | (exfalso; omega) | exact hQ _ (b2_t (P := lAk b1 b mv gr i.toNat N) (fun j q1 q2 => by omega)).symm
  | succ n ih =>
    intro i x7 h1 h2 hQ
    refine zw_iload z73_12 rfl ?_
    refine zw_iload z73_14 rfl ?_
    refine zj_icmp_ge z73_16 (by omega) (by omega) (fun h16 => ?_) (fun h16 => ?_)
    · refine zw_iconst z73_59 (v := iI 1) rfl ?_
      refine zj_bret z73_60 rfl (by first | exact b2_r | omega) ?_
      first | (exfalso; omega) | exact hQ _ (b2_f (P := lAk b1 b mv gr i.toNat N) (fun q => by have := q i.toNat (by omega) (by omega); first | (rw [if_pos (by omega)] at this; omega) | (rw [if_neg (by omega)] at this; omega))).symm
    · refine zw_iload z73_19 rfl ?_
      refine zw_iload_n z73_21 rfl ?_
      refine zj_icmp_ne z73_22 (by omega) (by omega) (fun h22 => ?_) (fun h22 => ?_)
      · refine zw_aload_n z73_30 rfl ?_
        refine zw_getf z73_31 (by assumption) (by rfl) ?_
        refine zw_iload z73_34 rfl ?_
        refine zj_aldB z73_36 (by assumption) (by omega) (by decide) hB2 (fun v36 e36 r36 => ?_)
        refine zw_istore z73_37 rfl ?_
        refine zw_aload_n z73_39 rfl ?_
        refine zw_getf z73_40 (by assumption) (by rfl) ?_
        refine zw_iload z73_43 rfl ?_
        refine zj_aldB z73_45 (by assumption) (by omega) (by decide) hB1 (fun v45 e45 r45 => ?_)
        refine zw_iload z73_46 rfl ?_
        refine zj_icmp_eq z73_48 (by omega) (by omega) (fun h48 => ?_) (fun h48 => ?_)
        · refine zj_iinc z73_53 rfl rfl ?_
          refine zw_goto z73_56 ?_
          first | (exfalso; omega) | exact ih (i + 1) _ (by omega) (by omega) (fun u hu => hQ u (by rw [hu]; apply b2_c; constructor; (intro q j h1 h2; by_cases h3 : j = i.toNat; (subst h3; first | (rw [if_pos (by omega)]; omega) | (rw [if_neg (by omega)]; omega)); exact q j h1 (by omega)); (intro q j h1 h2; exact q j h1 (by omega))))
        · refine zw_iconst z73_51 (v := iI 0) rfl ?_
          refine zj_bret z73_52 rfl (by first | exact b2_r | omega) ?_
          first | (exfalso; omega) | exact hQ _ (b2_f (P := lAk b1 b mv gr i.toNat N) (fun q => by have := q i.toNat (by omega) (by omega); first | (rw [if_pos (by omega)] at this; omega) | (rw [if_neg (by omega)] at this; omega))).symm
      · refine zw_iload z73_25 rfl ?_
        refine zw_goto z73_27 ?_
        refine zw_istore z73_37 rfl ?_
        refine zw_aload_n z73_39 rfl ?_
        refine zw_getf z73_40 (by assumption) (by rfl) ?_
        refine zw_iload z73_43 rfl ?_
        refine zj_aldB z73_45 (by assumption) (by omega) (by decide) hB1 (fun v45 e45 r45 => ?_)
        refine zw_iload z73_46 rfl ?_
        refine zj_icmp_eq z73_48 (by omega) (by omega) (fun h48 => ?_) (fun h48 => ?_)
        · refine zj_iinc z73_53 rfl rfl ?_
          refine zw_goto z73_56 ?_
          first | (exfalso; omega) | exact ih (i + 1) _ (by omega) (by omega) (fun u hu => hQ u (by rw [hu]; apply b2_c; constructor; (intro q j h1 h2; by_cases h3 : j = i.toNat; (subst h3; first | (rw [if_pos (by omega)]; omega) | (rw [if_neg (by omega)]; omega)); exact q j h1 (by omega)); (intro q j h1 h2; exact q j h1 (by omega))))
        · refine zw_iconst z73_51 (v := iI 0) rfl ?_
          refine zj_bret z73_52 rfl (by first | exact b2_r | omega) ?_
          first | (exfalso; omega) | exact hQ _ (b2_f (P := lAk b1 b mv gr i.toNat N) (fun q => by have := q i.toNat (by omega) (by omega); first | (rw [if_pos (by omega)] at this; omega) | (rw [if_neg (by omega)] at this; omega))).symm
theorem sp_isAlike (hg : gmA w 1 G) (hG : gmV G) (hs : srA w fu ct tm fs ps H S1 S2) (hy : lyA w a b1 t1 h1 la1 ah1) (hx : lyA w o b t h la ah) (hB1 : ∀ j, -4 ≤ b1 j ∧ b1 j ≤ 51) (hB2 : ∀ j, -4 ≤ b j ∧ b j ≤ 51) (hm : 0 ≤ mv ∧ mv ≤ 51) (hr : -4 ≤ gr ∧ gr ≤ 51) (hd : 1 ≤ d) (hq : 20 ≤ q) : zv d q 73 [.ref 11, .ref a, .ref o, iV mv, iV gr] w (iI (b2 (lAk b1 b mv gr 0 (gAll G).toNat))) := by
  intro L xs cn sn
  obtain ⟨d, rfl⟩ : ∃ e, d = e + 1 := ⟨d - 1, by omega⟩
  have hg' := hg
  unfold gmA at hg'
  have hA := gAll_rng hG
  obtain ⟨s0, s1, s2, s3, s4⟩ := hs
  refine ⟨_, rfl, ?_⟩
  show zw _ _ _ _ 73 0 [some (.ref 11), some (.ref a), some (.ref o), some (iV mv), some (iV gr), none, none, none] [] _ _ _ _
  refine zw_aload_n z73_0 rfl ?_
  refine zw_getf z73_1 (by assumption) (by rfl) ?_
  refine zw_vv (n := 1) z73_4 rfl rfl (by assumption) (Nat.le_of_ble_eq_true rfl) (by omega) (sp_cardCount hg) ?_
  refine zw_istore z73_7 rfl ?_
  refine zw_iconst z73_9 (v := iI 0) rfl ?_
  refine zw_istore z73_10 rfl ?_
  have e9 : gAll G = (((gAll G).toNat : Nat) : Int) := by omega
  rw [e9]
  exact lp_isAlike (N := (gAll G).toNat) (by omega) hy hx hB1 hB2 hm hr (gAll G).toNat 0 none (by omega) (by omega) (fun u hu => zv_end (by rw [hu]; rfl))
theorem lp_hashOf {N : Nat} (hN : N ≤ 52) (hx : lyA w o b t h la ah) (hB1 : ∀ j, -4 ≤ b j ∧ b j ≤ 51) (hd : 1 ≤ d) (hq : 22 ≤ q) : ∀ (n : Nat) (i u : Int), i + n = N → 0 ≤ i → iR u → (∀ r, r = hsm b n i.toNat u → Q (.inl (some (iV r))) w cn sn) → zw L xs d q 74 13 [some (.ref 11), some (.ref o), some (iV u), some (iV N), some (iV i)] [] w cn sn Q := by
  obtain ⟨d, rfl⟩ : ∃ e, d = e + 1 := ⟨d - 1, by omega⟩
  obtain ⟨x0, x1, x2, x3⟩ := hx
  intro n
  induction n with
  | zero =>
    intro i u h1 h2 h3 hQ
    refine zw_iload z74_13 rfl ?_
    refine zw_iload_n z74_15 rfl ?_
    refine zj_icmp_ge z74_16 (by omega) (by omega) (fun h16 => ?_) (fun h16 => ?_)
    · refine zw_iload_n z74_40 rfl ?_
      refine zw_iret z74_41 rfl ?_
      first | (exfalso; omega) | exact hQ _ rfl
    · refine zw_iload_n z74_19 rfl ?_
      refine zw_iload z74_20 rfl ?_
      refine zw_aload_n z74_22 rfl ?_
      refine zw_getf z74_23 (by assumption) (by rfl) ?_
      refine zw_iload z74_26 rfl ?_
      refine zj_aldB z74_28 (by assumption) (by omega) (by decide) hB1 (fun v28 e28 r28 => ?_)
      refine zw_vs (n := 3) z74_29 rfl rfl (Nat.le_of_ble_eq_true rfl) (by omega) (sp_share) ?_
      refine zj_add z74_32 ?_
      refine zw_istore_n z74_33 rfl ?_
      refine zj_iinc z74_34 rfl rfl ?_
      refine zw_goto z74_37 ?_
      first | (exfalso; omega) | exact ih (i + 1) (nm (u + sh i v28)) (by omega) (by omega) (nm_rng _) (fun r hr => hQ r (by rw [hr]; show _ = hsm b n (i.toNat + 1) _; rw [show (i + 1).toNat = i.toNat + 1 by omega, show ((i.toNat : Nat) : Int) = i by omega, e28]))
  | succ n ih =>
    intro i u h1 h2 h3 hQ
    refine zw_iload z74_13 rfl ?_
    refine zw_iload_n z74_15 rfl ?_
    refine zj_icmp_ge z74_16 (by omega) (by omega) (fun h16 => ?_) (fun h16 => ?_)
    · exfalso; omega
    · refine zw_iload_n z74_19 rfl ?_
      refine zw_iload z74_20 rfl ?_
      refine zw_aload_n z74_22 rfl ?_
      refine zw_getf z74_23 (by assumption) (by rfl) ?_
      refine zw_iload z74_26 rfl ?_
      refine zj_aldB z74_28 (by assumption) (by omega) (by decide) hB1 (fun v28 e28 r28 => ?_)
      refine zw_vs (n := 3) z74_29 rfl rfl (Nat.le_of_ble_eq_true rfl) (by omega) (sp_share) ?_
      refine zj_add z74_32 ?_
      rw [show iV (u + sh i v28) = iV (nm (u + sh i v28)) from congrArg Value.int (nm_of _).symm]
      refine zw_istore_n z74_33 rfl ?_
      refine zj_iinc z74_34 rfl rfl ?_
      refine zw_goto z74_37 ?_
      exact ih (i + 1) (nm (u + sh i v28)) (by omega) (by omega) (nm_rng _) (fun r hr => hQ r (by rw [hr]; show _ = hsm b n (i.toNat + 1) _; rw [show (i + 1).toNat = i.toNat + 1 by omega, show ((i.toNat : Nat) : Int) = i by omega, e28]))
theorem sp_hashOf (hg : gmA w 1 G) (hG : gmV G) (hs : srA w fu ct tm fs ps H S1 S2) (hx : lyA w o b t h la ah) (hB1 : ∀ j, -4 ≤ b j ∧ b j ≤ 51) (hd : 1 ≤ d) (hq : 22 ≤ q) : zv d q 74 [.ref 11, .ref o] w (iI (hsm b (gAll G).toNat 0 0)) := by
  intro L xs cn sn
  obtain ⟨d, rfl⟩ : ∃ e, d = e + 1 := ⟨d - 1, by omega⟩
  have hg' := hg
  unfold gmA at hg'
  have hA := gAll_rng hG
  obtain ⟨s0, s1, s2, s3, s4⟩ := hs
  refine ⟨_, rfl, ?_⟩
  show zw _ _ _ _ 74 0 [some (.ref 11), some (.ref o), none, none, none] [] _ _ _ _
  refine zw_iconst z74_0 (v := iI 0) rfl ?_
  refine zw_istore_n z74_1 rfl ?_
  refine zw_aload_n z74_2 rfl ?_
  refine zw_getf z74_3 (by assumption) (by rfl) ?_
  refine zw_vv (n := 1) z74_6 rfl rfl (by assumption) (Nat.le_of_ble_eq_true rfl) (by omega) (sp_cardCount hg) ?_
  refine zw_istore_n z74_9 rfl ?_
  refine zw_iconst z74_10 (v := iI 0) rfl ?_
  refine zw_istore z74_11 rfl ?_
  have e9 : gAll G = (((gAll G).toNat : Nat) : Int) := by omega
  rw [e9]
  exact lp_hashOf (N := (gAll G).toNat) (by omega) hx hB1 (by omega) (by omega) (gAll G).toNat 0 0 (by omega) (by omega) (by decide) (fun r hr => zv_end (by rw [hr]; rfl))
end ZHS
end
section
/-! The class Search: slots. (Laid out by gen/tpl.py from tpl/49.slots.tpl.) -/
/-- the place in the table of slots -/
def sl0 (z : Int) : Int := (iI z &&& iI 511).toInt
theorem sl0_of (z : Int) : iI z &&& iI 511 = iI (sl0 z) := (iI_of _).symm
theorem sl0_rng (z : Int) : 0 ≤ sl0 z ∧ sl0 z < 512 := by
  obtain ⟨j, hj, e⟩ := pk_andE (iI z) (m := iI 511) 9 (by decide +kernel)
  unfold sl0
  rw [e, nI_toInt (by omega)]
  omega
theorem sl0_in {z : Int} (h : 0 ≤ z ∧ z ≤ 512) : sl0 z = if z = 512 then 0 else z := by
  have h1 : ∀ n : Nat, n < 513 → sl0 (n : Int) = if (n : Int) = 512 then 0 else (n : Int) := by decide +kernel
  have h2 := h1 z.toNat (by omega)
  rw [show ((z.toNat : Nat) : Int) = z by omega] at h2
  exact h2
/-- the layouts that were found -/
def fdA (w : zi_W) (Fb Ft Fh : Nat → Nat → Int) (Fl Fa : Nat → Int) : Prop := ∀ j, j < 200 → lyA w (16 + 4 * j) (Fb j) (Ft j) (Fh j) (Fl j) (Fa j)
def fdV (Fb Ft Fh : Nat → Nat → Int) (Fl Fa : Nat → Int) : Prop := ∀ j, lyV (Fb j) (Ft j) (Fh j) (Fl j) (Fa j)
/-- the slot of a position like b but for card mv on gr, or the free one where it belongs -/
def slF (S2 H : Nat → Int) (Fb : Nat → Nat → Int) (b : Nat → Int) (mv gr hs : Int) (N : Nat) : Nat → Int → Int
  | 0, s => s
  | n + 1, s => if S2 s.toNat = 0 then s else if H (S2 s.toNat - 1).toNat = hs ∧ lAk (Fb (S2 s.toNat - 1).toNat) b mv gr 0 N then s else slF S2 H Fb b mv gr hs N n (sl0 (s + 1))
theorem slF_0 {S2 H : Nat → Int} {Fb : Nat → Nat → Int} {b : Nat → Int} {mv gr hs s : Int} {N n : Nat} (h : S2 s.toNat = 0) : slF S2 H Fb b mv gr hs N n s = s := by
  cases n with
  | zero => rfl
  | succ n => exact if_pos h
theorem slF_1 {S2 H : Nat → Int} {Fb : Nat → Nat → Int} {b : Nat → Int} {mv gr hs s : Int} {N n : Nat} (h : H (S2 s.toNat - 1).toNat = hs ∧ lAk (Fb (S2 s.toNat - 1).toNat) b mv gr 0 N) : slF S2 H Fb b mv gr hs N n s = s := by
  cases n with
  | zero => rfl
  | succ n =>
    by_cases h0 : S2 s.toNat = 0
    · exact if_pos h0
    · exact (if_neg h0).trans (if_pos h)
theorem slF_s {S2 H : Nat → Int} {Fb : Nat → Nat → Int} {b : Nat → Int} {mv gr hs s : Int} {N n : Nat} (h0 : ¬ S2 s.toNat = 0) (h : ¬ (H (S2 s.toNat - 1).toNat = hs ∧ lAk (Fb (S2 s.toNat - 1).toNat) b mv gr 0 N)) : slF S2 H Fb b mv gr hs N (n + 1) s = slF S2 H Fb b mv gr hs N n (sl0 (s + 1)) := (if_neg h0).trans (if_neg h)
section ZSL
variable {L : Nat} {xs : Nat → Int32} {d q a o : Nat} {w : zi_W} {cn sn : Nat} {Q : zi_O → zi_W → Nat → Nat → Prop} {G b t h H S1 S2 : Nat → Int} {Fb Ft Fh : Nat → Nat → Int} {Fl Fa : Nat → Int} {la ah mv gr fu ct tm fs ps hs : Int}
theorem zj_and {k pc p : Nat} {ls : zi_L} {st : List Value} {z : Int} (hc : za k pc .iand p) (kk : zw L xs d q k p ls (iV (sl0 z) :: st) w cn sn Q) : zw L xs d q k pc ls (iV 511 :: iV z :: st) w cn sn Q := zw_iand hc (by rw [sl0_of]; exact kk)
theorem zj_aldR {k pc p r n : Nat} {ls : zi_L} {st : List Value} {z : Int} {f : Nat → Int} (hc : za k pc .iaload p) (hg : zi_get w r = some (.inl (0, n, .inl (iA f)))) (hj : 0 ≤ z ∧ z < n) (hn : n ≤ 2147483647) (hB : ∀ j, iR (f j)) (kk : ∀ v, v = f z.toNat → iR v → zw L xs d q k p ls (iV v :: st) w cn sn Q) : zw L xs d q k pc ls (iV z :: .ref r :: st) w cn sn Q :=
  zj_ald hc hg hj hn (kk _ rfl (hB _))
theorem lp_slotFor (hg : gmA w 1 G) (hG : gmV G) (hs0 : srA w fu ct tm fs ps H S1 S2) (hF : fdA w Fb Ft Fh Fl Fa) (hFV : fdV Fb Ft Fh Fl Fa) (hx : lyA w o b t h la ah) (hB2 : ∀ j, -4 ≤ b j ∧ b j ≤ 51) (hm : 0 ≤ mv ∧ mv ≤ 51) (hr : -4 ≤ gr ∧ gr ≤ 51) (hh : iR hs) (hS : ∀ j, 0 ≤ S2 j ∧ S2 j ≤ 200) (hH : ∀ j, iR (H j)) (hd : 2 ≤ d) (hq : 47 ≤ q) : ∀ (n : Nat) (s i : Int) (x7 : Option Value), i + n = 512 → 0 ≤ i → 0 ≤ s ∧ s < 512 → (∀ u, u = slF S2 H Fb b mv gr hs (gAll G).toNat n s → Q (.inl (some (iV u))) w cn sn) → zw L xs d q 72 10 [some (.ref 11), some (iV hs), some (.ref o), some (iV mv), some (iV gr), some (iV s), some (iV i), x7] [] w cn sn Q := by
  obtain ⟨d, rfl⟩ : ∃ e, d = e + 1 := ⟨d - 1, by omega⟩
  have hs1 := hs0
  obtain ⟨s0, s1, s2, s3, s4⟩ := hs0
  intro n
  induction n with
  | zero =>
    intro s i x7 h1 h2 h3 hQ
    refine zw_iload z72_10 rfl ?_
    refine zw_sipush z72_12 (v := iI (512)) (by decide +kernel) ?_
    refine zj_icmp_ge z72_15 (by omega) (by omega) (fun h15 => ?_) (fun h15 => ?_)
    · refine zw_iload z72_87 rfl ?_
      refine zw_iret z72_89 rfl ?_
      exact hQ _ rfl
    · exfalso; omega
  | succ n ih =>
    intro s i x7 h1 h2 h3 hQ
    have k71 : ¬ S2 s.toNat = 0 → ¬ (H (S2 s.toNat - 1).toNat = hs ∧ lAk (Fb (S2 s.toNat - 1).toNat) b mv gr 0 (gAll G).toNat) → ∀ x7, zw L xs (d + 1) q 72 71 [some (.ref 11), some (iV hs), some (.ref o), some (iV mv), some (iV gr), some (iV s), some (iV i), x7] [] w cn sn Q := by
      intro g1 g2 x7
      refine zw_iload z72_71 rfl ?_
      refine zw_iconst z72_73 (v := iI 1) rfl ?_
      refine zj_add z72_74 ?_
      refine zw_sipush z72_75 (v := iI (511)) (by decide +kernel) ?_
      refine zj_and z72_78 ?_
      refine zw_istore z72_79 rfl ?_
      refine zj_iinc z72_81 rfl rfl ?_
      refine zw_goto z72_84 ?_
      exact ih (sl0 (s + 1)) (i + 1) x7 (by omega) (by omega) (sl0_rng _) (fun u hu => hQ u (by rw [hu, slF_s g1 g2]))
    refine zw_iload z72_10 rfl ?_
    refine zw_sipush z72_12 (v := iI (512)) (by decide +kernel) ?_
    refine zj_icmp_ge z72_15 (by omega) (by omega) (fun h15 => ?_) (fun h15 => ?_)
    · exfalso; omega
    refine zw_aload_n z72_18 rfl ?_
    refine zw_getf z72_19 (by assumption) (by rfl) ?_
    refine zw_iload z72_22 rfl ?_
    refine zj_aldB z72_24 s4 (by omega) (by decide) hS (fun v24 e24 r24 => ?_)
    refine zj_if_eq z72_25 (by omega) (fun h25 => ?_) (fun h25 => ?_)
    · refine zw_iload z72_87 rfl ?_
      refine zw_iret z72_89 rfl ?_
      exact hQ _ (by rw [slF_0 (by omega)])
    refine zw_aload_n z72_28 rfl ?_
    refine zw_getf z72_29 (by assumption) (by rfl) ?_
    refine zw_iload z72_32 rfl ?_
    refine zj_aldB z72_34 s4 (by omega) (by decide) hS (fun v34 e34 r34 => ?_)
    refine zw_iconst z72_35 (v := iI 1) rfl ?_
    refine zj_sub z72_36 ?_
    refine zw_istore z72_37 rfl ?_
    refine zw_aload_n z72_39 rfl ?_
    refine zw_getf z72_40 (by assumption) (by rfl) ?_
    refine zw_iload z72_43 rfl ?_
    refine zj_aldR z72_45 s2 (by omega) (by decide) hH (fun v45 e45 r45 => ?_)
    refine zw_iload_n z72_46 rfl ?_
    refine zj_icmp_ne z72_47 (by omega) (by omega) (fun h47 => ?_) (fun h47 => ?_)
    · exact k71 (by omega) (fun q => h47 (by rw [e45, ← q.1, e34])) _
    refine zw_aload_n z72_50 rfl ?_
    refine zw_aload_n z72_51 rfl ?_
    refine zw_getf z72_52 (by assumption) (by rfl) ?_
    refine zw_iload z72_55 rfl ?_
    refine zj_ald3 z72_57 s1 (by omega) (by decide) rfl ?_
    refine zw_aload_n z72_58 rfl ?_
    refine zw_iload_n z72_59 rfl ?_
    refine zw_iload z72_60 rfl ?_
    refine zw_vv (n := 8) z72_62 rfl rfl (by assumption) (Nat.le_of_ble_eq_true rfl) (by omega) (sp_isAlike hg hG hs1 (hF (v34 - 1).toNat (by omega)) hx (hFV _).1 hB2 hm hr (by omega) (by omega)) ?_
    refine zj_b_eq z72_65 (fun h65 => ?_) (fun h65 => ?_)
    · exact k71 (by omega) (fun q => h65 (by rw [e34]; exact q.2)) _
    · refine zw_iload z72_68 rfl ?_
      refine zw_iret z72_70 rfl ?_
      exact hQ _ (by rw [slF_1 ⟨by rw [← e34, ← e45]; omega, by rw [← e34]; exact h65⟩])
abbrev lSlot (G S2 H : Nat → Int) (Fb : Nat → Nat → Int) (b : Nat → Int) (mv gr hs : Int) : Int := slF S2 H Fb b mv gr hs (gAll G).toNat 512 (sl0 hs)
theorem sp_slotFor (hg : gmA w 1 G) (hG : gmV G) (hs0 : srA w fu ct tm fs ps H S1 S2) (hF : fdA w Fb Ft Fh Fl Fa) (hFV : fdV Fb Ft Fh Fl Fa) (hx : lyA w o b t h la ah) (hB2 : ∀ j, -4 ≤ b j ∧ b j ≤ 51) (hm : 0 ≤ mv ∧ mv ≤ 51) (hr : -4 ≤ gr ∧ gr ≤ 51) (hh : iR hs) (hS : ∀ j, 0 ≤ S2 j ∧ S2 j ≤ 200) (hH : ∀ j, iR (H j)) (hd : 2 ≤ d) (hq : 47 ≤ q) : zv d q 72 [.ref 11, iV hs, .ref o, iV mv, iV gr] w (iI (lSlot G S2 H Fb b mv gr hs)) := by
  intro L xs cn sn
  refine ⟨_, rfl, ?_⟩
  show zw _ _ _ _ 72 0 [some (.ref 11), some (iV hs), some (.ref o), some (iV mv), some (iV gr), none, none, none] [] _ _ _ _
  refine zw_iload_n z72_0 rfl ?_
  refine zw_sipush z72_1 (v := iI (511)) (by decide +kernel) ?_
  refine zj_and z72_4 ?_
  refine zw_istore z72_5 rfl ?_
  refine zw_iconst z72_7 (v := iI 0) rfl ?_
  refine zw_istore z72_8 rfl ?_
  exact lp_slotFor hg hG hs0 hF hFV hx hB2 hm hr hh hS hH hd hq 512 (sl0 hs) 0 none (by omega) (by omega) (sl0_rng _) (fun u hu => zv_end (by rw [hu]))
end ZSL
end
section
/-! The class Search: a position is reached. (Laid out by gen/tpl.py from tpl/50.reach.tpl.) -/
def fU {α : Type} (f : Nat → α) (n : Nat) (v : α) : Nat → α := fun j => if j = n then v else f j
theorem fU_same {α : Type} (f : Nat → α) (n : Nat) (v : α) : fU f n v n = v := if_pos rfl
theorem fU_ne {α : Type} (f : Nat → α) {n j : Nat} (v : α) (h : j ≠ n) : fU f n v j = f j := if_neg h
/-- a layout as one value Y: Y 0 beneath, Y 1 tops, Y 2 ranks at home, Y 3 0 laid, Y 3 1 at home -/
abbrev lyY (w : zi_W) (a : Nat) (Y : Nat → Nat → Int) : Prop := lyA w a (Y 0) (Y 1) (Y 2) (Y 3 0) (Y 3 1)
abbrev lyW (Y : Nat → Nat → Int) : Prop := lyV (Y 0) (Y 1) (Y 2) (Y 3 0) (Y 3 1)
/-- the search: numbers N (0 fuel, 1 count, 2 too many, 3 first step, 4 passed), arrays A (0 hashes, 1 first steps, 2 slots), layouts F -/
def seA (w : zi_W) (N : Nat → Int) (A : Nat → Nat → Int) (F : Nat → Nat → Nat → Int) : Prop := srA w (N 0) (N 1) (N 2) (N 3) (N 4) (A 0) (A 1) (A 2) ∧ ∀ j, j < 200 → lyY w (16 + 4 * j) (F j)
def seV (N : Nat → Int) (A : Nat → Nat → Int) (F : Nat → Nat → Nat → Int) : Prop := (1 ≤ N 0 ∧ N 0 ≤ 200) ∧ (1 ≤ N 1 ∧ N 1 ≤ N 0) ∧ (N 2 = 0 ∨ N 2 = 1) ∧ (-1 ≤ N 3 ∧ N 3 ≤ 300) ∧ (0 ≤ N 4 ∧ N 4 ≤ 200) ∧ (∀ j, iR (A 0 j)) ∧ (∀ j, 0 ≤ A 1 j ∧ A 1 j ≤ 300) ∧ (∀ j, 0 ≤ A 2 j ∧ A 2 j ≤ 200) ∧ ∀ j, lyW (F j)
abbrev seS : Nat → Prop := fun j => j = 11 ∨ (13 ≤ j ∧ j ≤ 815)
/-- card c, the lowest of what goes, is carried from z to y -/
def cY (G : Nat → Int) (Y : Nat → Nat → Int) (c z y : Int) : Nat → Nat → Int
  | 0 => cB (Y 0) (Y 1) c y
  | 1 => cT (Y 0) (Y 1) c z y
  | 2 => cH G (Y 2) c z y
  | _ => fun i => if i = 0 then Y 3 0 else cA (Y 3 1) z y
def yCp (X Y : Nat → Nat → Int) : Nat → Nat → Int
  | 0 => iCp (X 0) (Y 0) 52
  | 1 => iCp (X 1) (Y 1) 12
  | 2 => iCp (X 2) (Y 2) 4
  | _ => X 3
theorem lyA.keep {w w' : zi_W} {a : Nat} {b t h : Nat → Int} {la ah : Int} (hy : lyA w a b t h la ah) (hk : ∀ j, a ≤ j → j ≤ a + 3 → zi_get w' j = zi_get w j) : lyA w' a b t h la ah :=
  ⟨(hk a (by omega) (by omega)).trans hy.1, (hk (a + 1) (by omega) (by omega)).trans hy.2.1, (hk (a + 2) (by omega) (by omega)).trans hy.2.2.1, (hk (a + 3) (by omega) (by omega)).trans hy.2.2.2⟩
/-- what reach does -/
abbrev rSt (A : Nat → Nat → Int) (n : Nat) (z y : Int) : Int := if n = 0 then 16 * z + y else A 1 n
abbrev rCd (F : Nat → Nat → Nat → Int) (n : Nat) (z : Int) : Int := F n 1 z.toNat
abbrev rHs (A : Nat → Nat → Int) (F : Nat → Nat → Nat → Int) (n : Nat) (z y : Int) : Int := nm (A 0 n - sh (rCd F n z) (F n 0 (rCd F n z).toNat) + sh (rCd F n z) (lGrd (F n 1) y))
abbrev rSl (G : Nat → Int) (A : Nat → Nat → Int) (F : Nat → Nat → Nat → Int) (n : Nat) (z y : Int) : Int := lSlot G (A 2) (A 0) (fun j => F j 0) (F n 0) (rCd F n z) (lGrd (F n 1) y) (rHs A F n z y)
abbrev SS : Type := (Nat → Int) × (Nat → Nat → Int) × (Nat → Nat → Nat → Int)
def rc (G : Nat → Int) (σ : SS) (n : Nat) (z y : Int) : SS :=
  if y = 12 ∧ σ.2.2 n 3 1 + 1 = gAll G then (iU σ.1 3 (rSt σ.2.1 n z y), σ.2.1, σ.2.2)
  else if σ.1 2 = 1 then σ
  else if σ.2.1 2 (rSl G σ.2.1 σ.2.2 n z y).toNat ≠ 0 then σ
  else if σ.1 0 ≤ σ.1 1 then (iU σ.1 2 1, σ.2.1, σ.2.2)
  else (iU σ.1 1 (σ.1 1 + 1), fU (fU (fU σ.2.1 0 (iU (σ.2.1 0) (σ.1 1).toNat (rHs σ.2.1 σ.2.2 n z y))) 1 (iU (σ.2.1 1) (σ.1 1).toNat (rSt σ.2.1 n z y))) 2 (iU (σ.2.1 2) (rSl G σ.2.1 σ.2.2 n z y).toNat (σ.1 1 + 1)), fU σ.2.2 (σ.1 1).toNat (cY G (yCp (σ.2.2 n) (σ.2.2 (σ.1 1).toNat)) (rCd σ.2.2 n z) z y))
theorem iCp_lt {f g : Nat → Int} {n j : Nat} (h : j < n) : iCp f g n j = f j := if_pos h
theorem iCp_rng {f g : Nat → Int} {n : Nat} {lo hi : Int} (hf : ∀ j, lo ≤ f j ∧ f j ≤ hi) (hg : ∀ j, lo ≤ g j ∧ g j ≤ hi) : ∀ j, lo ≤ iCp f g n j ∧ iCp f g n j ≤ hi := by
  intro j
  unfold iCp
  split
  · exact hf j
  · exact hg j
theorem yCp_V {X Y : Nat → Nat → Int} (hX : lyW X) (hY : lyW Y) : lyW (yCp X Y) := ⟨iCp_rng hX.1 hY.1, iCp_rng hX.2.1 hY.2.1, iCp_rng hX.2.2.1 hY.2.2.1, hX.2.2.2.1, hX.2.2.2.2⟩
theorem zj_astG {L : Nat} {xs : Nat → Int32} {d q k pc p r n : Nat} {ls : zi_L} {st : List Value} {w : zi_W} {cn sn : Nat} {Q : zi_O → zi_W → Nat → Nat → Prop} {z x : Int} {f : Nat → Int} (hc : za k pc .iastore p) (hg : zi_get w r = some (.inl (0, n, .inl (iA f)))) (hj : 0 ≤ z ∧ z < n) (hn : n ≤ 2147483647) (kk : ∀ w', zi_get w' r = some (.inl (0, n, .inl (iA (iU f z.toNat x)))) → zG r w w' → zw L xs d q k p ls st w' cn sn Q) : zw L xs d q k pc ls (iV x :: iV z :: .ref r :: st) w cn sn Q :=
  zj_ast hc hg hj hn (kk _ (zi_get_self hg) zG.of)
section ZRC
variable {L : Nat} {xs : Nat → Int32} {d q : Nat} {w : zi_W} {cn sn : Nat} {Q : zi_O → zi_W → Nat → Nat → Prop} {G N : Nat → Int} {A : Nat → Nat → Int} {F : Nat → Nat → Nat → Int} {z y : Int}
theorem seA.found {w' : zi_W} (hk : ∀ j, 16 ≤ j → zi_get w' j = zi_get w j) (h : ∀ j, j < 200 → lyY w (16 + 4 * j) (F j)) : ∀ j, j < 200 → lyY w' (16 + 4 * j) (F j) := fun j hj => (h j hj).keep fun i h1 _ => hk i (by omega)
theorem rSl_rng {n : Nat} : 0 ≤ rSl G A F n z y ∧ rSl G A F n z y < 512 := by
  have key : ∀ (m : Nat) (s : Int) (S2 H : Nat → Int) (Fb : Nat → Nat → Int) (b : Nat → Int) (mv gr hs : Int) (M : Nat), 0 ≤ s ∧ s < 512 → 0 ≤ slF S2 H Fb b mv gr hs M m s ∧ slF S2 H Fb b mv gr hs M m s < 512 := by
    intro m
    induction m with
    | zero => intro s S2 H Fb b mv gr hs M h; exact h
    | succ m ih =>
      intro s S2 H Fb b mv gr hs M h
      by_cases h0 : S2 s.toNat = 0
      · rw [slF_0 h0]; exact h
      · by_cases h1 : H (S2 s.toNat - 1).toNat = hs ∧ lAk (Fb (S2 s.toNat - 1).toNat) b mv gr 0 M
        · rw [slF_1 h1]; exact h
        · rw [slF_s h0 h1]; exact ih _ _ _ _ _ _ _ _ _ (sl0_rng _)
  exact key _ _ _ _ _ _ _ _ _ _ (sl0_rng _)
theorem rc_1 {σ : SS} {n : Nat} (h : y = 12 ∧ σ.2.2 n 3 1 + 1 = gAll G) : rc G σ n z y = (iU σ.1 3 (rSt σ.2.1 n z y), σ.2.1, σ.2.2) := if_pos h
theorem rc_2 {σ : SS} {n : Nat} (h : ¬ (y = 12 ∧ σ.2.2 n 3 1 + 1 = gAll G)) (h2 : σ.1 2 = 1) : rc G σ n z y = σ := (if_neg h).trans (if_pos h2)
theorem rc_3 {σ : SS} {n : Nat} (h : ¬ (y = 12 ∧ σ.2.2 n 3 1 + 1 = gAll G)) (h2 : ¬ σ.1 2 = 1) (h3 : σ.2.1 2 (rSl G σ.2.1 σ.2.2 n z y).toNat ≠ 0) : rc G σ n z y = σ := (if_neg h).trans ((if_neg h2).trans (if_pos h3))
theorem rc_4 {σ : SS} {n : Nat} (h : ¬ (y = 12 ∧ σ.2.2 n 3 1 + 1 = gAll G)) (h2 : ¬ σ.1 2 = 1) (h3 : ¬ σ.2.1 2 (rSl G σ.2.1 σ.2.2 n z y).toNat ≠ 0) (h4 : σ.1 0 ≤ σ.1 1) : rc G σ n z y = (iU σ.1 2 1, σ.2.1, σ.2.2) := (if_neg h).trans ((if_neg h2).trans ((if_neg h3).trans (if_pos h4)))
theorem rc_5 {σ : SS} {n : Nat} (h : ¬ (y = 12 ∧ σ.2.2 n 3 1 + 1 = gAll G)) (h2 : ¬ σ.1 2 = 1) (h3 : ¬ σ.2.1 2 (rSl G σ.2.1 σ.2.2 n z y).toNat ≠ 0) (h4 : ¬ σ.1 0 ≤ σ.1 1) : rc G σ n z y = (iU σ.1 1 (σ.1 1 + 1), fU (fU (fU σ.2.1 0 (iU (σ.2.1 0) (σ.1 1).toNat (rHs σ.2.1 σ.2.2 n z y))) 1 (iU (σ.2.1 1) (σ.1 1).toNat (rSt σ.2.1 n z y))) 2 (iU (σ.2.1 2) (rSl G σ.2.1 σ.2.2 n z y).toNat (σ.1 1 + 1)), fU σ.2.2 (σ.1 1).toNat (cY G (yCp (σ.2.2 n) (σ.2.2 (σ.1 1).toNat)) (rCd σ.2.2 n z) z y)) := (if_neg h).trans ((if_neg h2).trans ((if_neg h3).trans (if_neg h4)))
theorem sp_reach {n : Nat} (hg : gmA w 1 G) (hG : gmV G) (hs : seA w N A F) (hV : seV N A F) (hn : (n : Int) < N 1) (hz : 0 ≤ z ∧ z < 12) (hy : 0 ≤ y ∧ y ≤ 12) (hc : 0 ≤ rCd F n z) (hb : z < 8 → -1 ≤ F n 0 (rCd F n z).toNat) (hh : y = 12 → F n 2 (gSuit G (rCd F n z)).toNat ≤ 12) (hd : 3 ≤ d) (hq : 74 ≤ q) : zr L xs d q 71 [.ref 11, iV n, iV z, iV y] w cn sn (fun r w' cn' sn' => r = none ∧ cn' = cn ∧ sn' = sn ∧ seA w' (rc G (N, A, F) n z y).1 (rc G (N, A, F) n z y).2.1 (rc G (N, A, F) n z y).2.2 ∧ zF seS w w') := by
  obtain ⟨d, rfl⟩ : ∃ e, d = e + 1 := ⟨d - 1, by omega⟩
  have hg' := hg
  unfold gmA at hg'
  have hA := gAll_rng hG
  have hsA := hs
  obtain ⟨⟨s0, s1, s2, s3, s4⟩, hF⟩ := hs
  have hV0 := hV
  obtain ⟨v0, v1, v2, v3, v4, v5, v6, v7, v8⟩ := hV
  have hyn := hF n (by omega)
  obtain ⟨y0, y1, y2, y3⟩ := hyn
  obtain ⟨u1, u2, u3, u4, u5⟩ := v8 n
  have hcd : 0 ≤ rCd F n z ∧ rCd F n z ≤ 51 := ⟨hc, (u2 _).2⟩
  have hgr : -3 ≤ lGrd (F n 1) y ∧ lGrd (F n 1) y ≤ 51 := by
    have := u2 y.toNat
    unfold lGrd
    split
    · omega
    · split <;> omega
  have hst : 0 ≤ rSt A n z y ∧ rSt A n z y ≤ 300 := by
    have := v6 n
    unfold rSt
    split <;> omega
  refine ⟨_, rfl, ?_⟩
  show zw _ _ _ _ 71 0 [some (.ref 11), some (iV n), some (iV z), some (iV y), none, none, none, none, none, none] [] _ _ _ _
  have k59 : ¬ (y = 12 ∧ F n 3 1 + 1 = gAll G) → zw L xs (d + 1) q 71 59 [some (.ref 11), some (iV n), some (iV z), some (iV y), some (.ref (16 + 4 * n)), some (iV (rSt A n z y)), none, none, none, none] [] w cn sn (fun o w' cn' sn' => ∃ v, o = .inl v ∧ (v = none ∧ cn' = cn ∧ sn' = sn ∧ seA w' (rc G (N, A, F) n z y).1 (rc G (N, A, F) n z y).2.1 (rc G (N, A, F) n z y).2.2 ∧ zF seS w w')) := by
    intro h1
    refine zw_aload_n z71_59 rfl ?_
    refine zw_getf z71_60 (by assumption) (by rfl) ?_
    refine zj_if_eq z71_63 (by omega) (fun h2 => ?_) (fun h2 => ?_)
    rotate_left
    · refine zw_vret z71_66 rfl ⟨_, rfl, rfl, rfl, rfl, ?_, zF.rf⟩
      rw [rc_2 h1 (by show N 2 = 1; omega)]
      exact hsA
    have h2' : ¬ (N, A, F).1 2 = 1 := by show ¬ N 2 = 1; omega
    refine zw_aload z71_67 rfl ?_
    refine zw_getf z71_69 (by assumption) (by rfl) ?_
    refine zw_iload_n z71_72 rfl ?_
    refine zj_aldB z71_73 y2 (by omega) (by decide) u2 (fun v73 e73 r73 => ?_)
    have e73 : v73 = rCd F n z := e73
    subst e73
    refine zw_istore z71_74 rfl ?_
    refine zw_aload z71_76 rfl ?_
    refine zw_iload_n z71_78 rfl ?_
    refine zw_vv (n := 2) z71_79 rfl rfl (by assumption) (Nat.le_of_ble_eq_true rfl) (by omega) (sp_groundAt (hF n (by omega)) (v8 n) (by omega)) ?_
    refine zw_istore z71_82 rfl ?_
    refine zw_aload_n z71_84 rfl ?_
    refine zw_getf z71_85 (by assumption) (by rfl) ?_
    refine zw_iload_n z71_88 rfl ?_
    refine zj_ald z71_89 s2 (by omega) (by decide) ?_
    refine zw_iload z71_90 rfl ?_
    refine zw_aload z71_92 rfl ?_
    refine zw_getf z71_94 (by assumption) (by rfl) ?_
    refine zw_iload z71_97 rfl ?_
    refine zj_ald z71_99 y1 (by omega) (by decide) ?_
    refine zw_vs (n := 3) z71_100 rfl rfl (Nat.le_of_ble_eq_true rfl) (by omega) (sp_share) ?_
    refine zj_sub z71_103 ?_
    refine zw_iload z71_104 rfl ?_
    refine zw_iload z71_106 rfl ?_
    refine zw_vs (n := 3) z71_108 rfl rfl (Nat.le_of_ble_eq_true rfl) (by omega) (sp_share) ?_
    refine zj_add z71_111 ?_
    rw [show iV (A 0 (n : Int).toNat - sh (rCd F n z) (F n 0 (rCd F n z).toNat) + sh (rCd F n z) (lGrd (F n 1) y)) = iV (rHs A F n z y) from congrArg Value.int (nm_of _).symm]
    refine zw_istore z71_112 rfl ?_
    refine zw_aload_n z71_114 rfl ?_
    refine zw_iload z71_115 rfl ?_
    refine zw_aload z71_117 rfl ?_
    refine zw_iload z71_119 rfl ?_
    refine zw_iload z71_121 rfl ?_
    refine zw_vv (n := 8) z71_123 rfl rfl (by assumption) (Nat.le_of_ble_eq_true rfl) (by omega) (sp_slotFor hg hG ⟨s0, s1, s2, s3, s4⟩ (fun j hj => hF j hj) (fun j => v8 j) (hF n (by omega)) u1 hcd (by omega) (nm_rng _) v7 v5 (by omega) (by omega)) ?_
    have hsl := rSl_rng (G := G) (A := A) (F := F) (n := n) (z := z) (y := y)
    refine zw_istore z71_126 rfl ?_
    refine zw_aload_n z71_128 rfl ?_
    refine zw_getf z71_129 (by assumption) (by rfl) ?_
    refine zw_iload z71_132 rfl ?_
    refine zj_aldB z71_134 s4 hsl (by decide) v7 (fun v134 e134 r134 => ?_)
    refine zj_if_eq z71_135 (by omega) (fun h3 => ?_) (fun h3 => ?_)
    rotate_left
    · refine zw_vret z71_138 rfl ⟨_, rfl, rfl, rfl, rfl, ?_, zF.rf⟩
      rw [rc_3 h1 h2' (by show A 2 (rSl G A F n z y).toNat ≠ 0; rw [← e134]; exact h3)]
      exact hsA
    have h3' : ¬ (N, A, F).2.1 2 (rSl G (N, A, F).2.1 (N, A, F).2.2 n z y).toNat ≠ 0 := by
      show ¬ A 2 (rSl G A F n z y).toNat ≠ 0
      rw [← e134]
      exact fun q => q h3
    refine zw_aload_n z71_139 rfl ?_
    refine zw_getf z71_140 (by assumption) (by rfl) ?_
    refine zw_aload_n z71_143 rfl ?_
    refine zw_getf z71_144 (by assumption) (by rfl) ?_
    refine zj_icmp_lt z71_147 (by omega) (by omega) (fun h4 => ?_) (fun h4 => ?_)
    rotate_left
    · refine zw_aload_n z71_150 rfl ?_
      refine zw_iconst z71_151 (v := iI 1) rfl ?_
      refine zj_putf z71_152 s0 (Nat.le_of_ble_eq_true rfl) (by decide +kernel) (fun w1 n1 f1 => ?_)
      refine zw_vret z71_155 rfl ⟨_, rfl, rfl, rfl, rfl, ?_, zF.rf.step f1 (by omega)⟩
      rw [rc_4 h1 h2' h3' (by show N 0 ≤ N 1; omega)]
      exact ⟨⟨n1, (f1.2 12 (by omega)).trans s1, (f1.2 13 (by omega)).trans s2, (f1.2 14 (by omega)).trans s3, (f1.2 15 (by omega)).trans s4⟩, seA.found (fun j hj => f1.2 j (by omega)) hF⟩
    generalize hct : (N 1).toNat = m at *
    have hm : N 1 = (m : Int) := by omega
    have hF1 := hF m (by omega)
    refine zw_aload_n z71_156 rfl ?_
    refine zw_getf z71_157 (by assumption) (by rfl) ?_
    refine zw_aload_n z71_160 rfl ?_
    refine zw_getf z71_161 (by assumption) (by rfl) ?_
    refine zj_ald3 z71_164 s1 (by omega) (by decide) (v := 16 + 4 * m) (by rw [hct]; rfl) ?_
    refine zw_aload z71_165 rfl ?_
    refine zw_cv (n := 2) z71_167 rfl rfl hF1.1 (Nat.le_of_ble_eq_true rfl) (by omega) (sp_becomeLike hF1 (hF n (by omega)) (Or.inr (by omega)) (by omega) (by omega)) (fun v w1 cn1 sn1 h => ?_)
    obtain ⟨rfl, rfl, rfl, c1, F1⟩ := h
    have c1 : lyY w1 (16 + 4 * m) (yCp (F n) (F m)) := c1
    have p0 := (F1.2 11 (by omega)).trans s0
    have p1 := (F1.2 12 (by omega)).trans s1
    have p2 := (F1.2 13 (by omega)).trans s2
    have p3 := (F1.2 14 (by omega)).trans s3
    have p4 := (F1.2 15 (by omega)).trans s4
    have pg : gmA w1 1 G := (F1.2 1 (by omega)).trans hg'
    refine zw_aload_n z71_170 rfl ?_
    refine zw_getf z71_171 (by assumption) (by rfl) ?_
    refine zw_aload_n z71_174 rfl ?_
    refine zw_getf z71_175 (by assumption) (by rfl) ?_
    refine zj_ald3 z71_178 p1 (by omega) (by decide) (v := 16 + 4 * m) (by rw [hct]; rfl) ?_
    refine zw_iload z71_179 rfl ?_
    refine zw_iload_n z71_181 rfl ?_
    refine zw_iload_n z71_182 rfl ?_
    have hcc : (rCd F n z).toNat < 52 := by omega
    have hss := gSuit_rng (c := rCd F n z) hG
    refine zw_cv (n := 6) z71_183 rfl rfl c1.1 (Nat.le_of_ble_eq_true rfl) (by omega) (sp_carry pg hG c1 (yCp_V (v8 n) (v8 m)) (by omega) (by omega) (by omega) hy (by omega) (fun q => by rw [show yCp (F n) (F m) 0 _ = _ from iCp_lt hcc]; exact hb q) (fun q => by omega) (fun q => by rw [show yCp (F n) (F m) 2 _ = _ from iCp_lt (by omega)]; exact hh q) (by omega) (by omega)) (fun v w2 cn2 sn2 h => ?_)
    obtain ⟨rfl, rfl, rfl, c2, F2⟩ := h
    have p0 := (F2.2 11 (by omega)).trans p0
    have p1 := (F2.2 12 (by omega)).trans p1
    have p2 := (F2.2 13 (by omega)).trans p2
    have p3 := (F2.2 14 (by omega)).trans p3
    have p4 := (F2.2 15 (by omega)).trans p4
    refine zw_aload_n z71_186 rfl ?_
    refine zw_getf z71_187 (by assumption) (by rfl) ?_
    refine zw_aload_n z71_190 rfl ?_
    refine zw_getf z71_191 (by assumption) (by rfl) ?_
    refine zw_iload z71_194 rfl ?_
    refine zj_astG z71_196 p2 (by omega) (by decide) (fun w3 n3 f3 => ?_)
    have p0 := (f3.2 11 (by omega)).trans p0
    have p1 := (f3.2 12 (by omega)).trans p1
    have p3 := (f3.2 14 (by omega)).trans p3
    have p4 := (f3.2 15 (by omega)).trans p4
    refine zw_aload_n z71_197 rfl ?_
    refine zw_getf z71_198 (by assumption) (by rfl) ?_
    refine zw_aload_n z71_201 rfl ?_
    refine zw_getf z71_202 (by assumption) (by rfl) ?_
    refine zw_iload z71_205 rfl ?_
    refine zj_astG z71_207 p3 (by omega) (by decide) (fun w4 n4 f4 => ?_)
    have p0 := (f4.2 11 (by omega)).trans p0
    have p1 := (f4.2 12 (by omega)).trans p1
    have n3 := (f4.2 13 (by omega)).trans n3
    have p4 := (f4.2 15 (by omega)).trans p4
    refine zw_aload_n z71_208 rfl ?_
    refine zw_dup z71_209 rfl ?_
    refine zw_getf z71_210 (by assumption) (by rfl) ?_
    refine zw_iconst z71_213 (v := iI 1) rfl ?_
    refine zj_add z71_214 ?_
    refine zj_putf z71_215 p0 (Nat.le_of_ble_eq_true rfl) (by rfl) (fun w5 n5 f5 => ?_)
    have p1 := (f5.2 12 (by omega)).trans p1
    have n3 := (f5.2 13 (by omega)).trans n3
    have n4 := (f5.2 14 (by omega)).trans n4
    have p4 := (f5.2 15 (by omega)).trans p4
    refine zw_aload_n z71_218 rfl ?_
    refine zw_getf z71_219 (by assumption) (by rfl) ?_
    refine zw_iload z71_222 rfl ?_
    refine zw_aload_n z71_224 rfl ?_
    refine zw_getf z71_225 (by assumption) (by rfl) ?_
    refine zj_astG z71_228 p4 hsl (by decide) (fun w6 n6 f6 => ?_)
    have n5 := (f6.2 11 (by omega)).trans n5
    have p1 := (f6.2 12 (by omega)).trans p1
    have n3 := (f6.2 13 (by omega)).trans n3
    have n4 := (f6.2 14 (by omega)).trans n4
    have keep : ∀ j, 16 ≤ j → zi_get w6 j = zi_get w2 j := fun j hj => ((f6.2 j (by omega)).trans ((f5.2 j (by omega)).trans ((f4.2 j (by omega)).trans (f3.2 j (by omega)))))
    refine zw_vret z71_229 rfl ⟨_, rfl, rfl, rfl, rfl, ?_, ((((((F1.sub (fun j hj => Or.inr ⟨by omega, by omega⟩)).trans (F2.sub (fun j hj => Or.inr ⟨by omega, by omega⟩))).step f3 (by omega)).step f4 (by omega)).step f5 (by omega)).step f6 (by omega))⟩
    rw [rc_5 h1 h2' h3' (by show ¬ N 0 ≤ N 1; omega)]
    rw [hct] at n3 n4
    refine ⟨⟨n5, p1, by rw [show (N, A, F).1 1 = N 1 from rfl, hct]; exact n3, by rw [show (N, A, F).1 1 = N 1 from rfl, hct]; exact n4, n6⟩, fun j hj => ?_⟩
    show lyY w6 (16 + 4 * j) (fU F (N 1).toNat (cY G (yCp (F n) (F (N 1).toNat)) (rCd F n z) z y) j)
    rw [hct]
    by_cases hjm : j = m
    · subst hjm
      rw [fU_same]
      exact c2.keep fun i h1 _ => keep i (by omega)
    · rw [fU_ne _ _ hjm]
      exact (hF j hj).keep fun i h1 h2 => (keep i (by omega)).trans ((F2.2 i (by omega)).trans (F1.2 i (by omega)))
  have k27 : zw L xs (d + 1) q 71 27 [some (.ref 11), some (iV n), some (iV z), some (iV y), some (.ref (16 + 4 * n)), none, none, none, none, none] [iV (rSt A n z y)] w cn sn (fun o w' cn' sn' => ∃ v, o = .inl v ∧ (v = none ∧ cn' = cn ∧ sn' = sn ∧ seA w' (rc G (N, A, F) n z y).1 (rc G (N, A, F) n z y).2.1 (rc G (N, A, F) n z y).2.2 ∧ zF seS w w')) := by
    refine zw_istore z71_27 rfl ?_
    refine zw_iload_n z71_29 rfl ?_
    refine zw_bipush z71_30 (v := iI (12)) (by decide +kernel) ?_
    refine zj_icmp_ne z71_32 (by omega) (by omega) (fun h32 => ?_) (fun h32 => ?_)
    · exact k59 (fun q => h32 q.1)
    refine zw_aload z71_35 rfl ?_
    refine zw_getf z71_37 (by assumption) (by rfl) ?_
    refine zw_iconst z71_40 (v := iI 1) rfl ?_
    refine zj_add z71_41 ?_
    refine zw_aload_n z71_42 rfl ?_
    refine zw_getf z71_43 (by assumption) (by rfl) ?_
    refine zw_vv (n := 1) z71_46 rfl rfl (by assumption) (Nat.le_of_ble_eq_true rfl) (by omega) (sp_cardCount hg) ?_
    refine zj_icmp_ne z71_49 (by omega) (by omega) (fun h49 => ?_) (fun h49 => ?_)
    · exact k59 (fun q => h49 q.2)
    refine zw_aload_n z71_52 rfl ?_
    refine zw_iload z71_53 rfl ?_
    refine zj_putf z71_55 s0 (Nat.le_of_ble_eq_true rfl) (by rfl) (fun w1 n1 f1 => ?_)
    refine zw_vret z71_58 rfl ⟨_, rfl, rfl, rfl, rfl, ?_, zF.rf.step f1 (by omega)⟩
    rw [rc_1 ⟨by omega, by show F n 3 1 + 1 = gAll G; omega⟩]
    exact ⟨⟨n1, (f1.2 12 (by omega)).trans s1, (f1.2 13 (by omega)).trans s2, (f1.2 14 (by omega)).trans s3, (f1.2 15 (by omega)).trans s4⟩, seA.found (fun j hj => f1.2 j (by omega)) hF⟩
  refine zw_aload_n z71_0 rfl ?_
  refine zw_getf z71_1 (by assumption) (by rfl) ?_
  refine zw_iload_n z71_4 rfl ?_
  refine zj_ald3 z71_5 s1 (by omega) (by decide) (v := 16 + 4 * n) rfl ?_
  refine zw_astore z71_6 rfl ?_
  refine zw_iload_n z71_8 rfl ?_
  refine zj_if_ne z71_9 (by omega) (fun h9 => ?_) (fun h9 => ?_)
  · refine zw_aload_n z71_21 rfl ?_
    refine zw_getf z71_22 (by assumption) (by rfl) ?_
    refine zw_iload_n z71_25 rfl ?_
    refine zj_ald z71_26 s3 (by omega) (by decide) ?_
    rw [show iV (A 1 (n : Int).toNat) = iV (rSt A n z y) from congrArg (fun v => iV v) (show A 1 n = rSt A n z y from (if_neg (by omega)).symm)]
    exact k27
  · refine zw_bipush z71_12 (v := iI (16)) (by decide +kernel) ?_
    refine zw_iload_n z71_14 rfl ?_
    refine zj_mul z71_15 ?_
    refine zw_iload_n z71_16 rfl ?_
    refine zj_add z71_17 ?_
    refine zw_goto z71_18 ?_
    rw [show iV (16 * z + y) = iV (rSt A n z y) from congrArg (fun v => iV v) (if_pos (by omega)).symm]
    exact k27
end ZRC
end
section
/-! The class Search: expand. (Laid out by gen/tpl.py from tpl/51.expand.tpl.) -/
/-- what must hold of a layout so that its moves can be carried out -/
def okL (G : Nat → Int) (Y : Nat → Nat → Int) : Prop := ∀ z y : Int, 0 ≤ z ∧ z < 12 → 0 ≤ y ∧ y ≤ 12 → lOne G (Y 1) (Y 2) z y → (z < 8 → -1 ≤ Y 0 (Y 1 z.toNat).toNat) ∧ (y = 12 → Y 2 (gSuit G (Y 1 z.toNat)).toNat ≤ 12 ∧ Y 3 1 ≤ 51)
abbrev seT (w : zi_W) (σ : SS) : Prop := seA w σ.1 σ.2.1 σ.2.2
abbrev seU (σ : SS) : Prop := seV σ.1 σ.2.1 σ.2.2
theorem fU_all {α : Type} {P : α → Prop} {f : Nat → α} {n : Nat} {v : α} (hf : ∀ j, P (f j)) (hv : P v) : ∀ j, P (fU f n v j) := by
  intro j
  unfold fU
  split
  · exact hv
  · exact hf j
theorem iU_all {P : Int → Prop} {f : Nat → Int} {n : Nat} {v : Int} (hf : ∀ j, P (f j)) (hv : P v) : ∀ j, P (iU f n v j) := by
  intro j
  unfold iU
  split
  · exact hv
  · exact hf j
section ZEX
variable {G : Nat → Int} {Y : Nat → Nat → Int} {σ : SS} {n : Nat} {c z y : Int}
theorem cY_V (hY : lyW Y) (hz : 0 ≤ z ∧ z < 12) (hc : 0 ≤ c ∧ c ≤ 51) (h1 : z < 8 → -1 ≤ Y 0 c.toNat) (h2 : y = 12 → Y 2 (gSuit G c).toNat ≤ 12 ∧ Y 3 1 ≤ 51) : lyW (cY G Y c z y) := by
  obtain ⟨a1, a2, a3, a4, a5⟩ := hY
  refine ⟨?_, ?_, ?_, a4, ?_⟩
  · refine iU_rng a1 ?_
    have := a2 y.toNat
    unfold lGrd
    split
    · omega
    · split <;> omega
  · show ∀ j, -1 ≤ cT (Y 0) (Y 1) c z y j ∧ cT (Y 0) (Y 1) c z y j ≤ 51
    have b1 := a1 c.toNat
    have b2 := a2 z.toNat
    have k1 : ∀ j, -1 ≤ iU (Y 1) z.toNat (if 8 ≤ z then -1 else Y 0 c.toNat) j ∧ iU (Y 1) z.toNat (if 8 ≤ z then -1 else Y 0 c.toNat) j ≤ 51 := iU_rng a2 (by split <;> omega)
    unfold cT
    split
    · split
      · exact a2
      · exact k1
    · split
      · exact iU_rng a2 (by omega)
      · exact iU_rng k1 (by omega)
  · show ∀ j, 0 ≤ cH G (Y 2) c z y j ∧ cH G (Y 2) c z y j ≤ 13
    have b3 := a3 (gSuit G c).toNat
    unfold cH
    split
    · omega
    · split
      · exact iU_rng a3 (by have := h2 (by omega); omega)
      · exact a3
  · show 0 ≤ cA (Y 3 1) z y ∧ cA (Y 3 1) z y ≤ 52
    unfold cA
    split
    · omega
    · split
      · have := h2 (by omega); omega
      · exact a5
theorem rc_V (hG : gmV G) (hV : seU σ) (hn : (n : Int) < σ.1 1) (hz : 0 ≤ z ∧ z < 12) (hy : 0 ≤ y ∧ y ≤ 12) (hc : 0 ≤ rCd σ.2.2 n z) (hb : z < 8 → -1 ≤ σ.2.2 n 0 (rCd σ.2.2 n z).toNat) (hh : y = 12 → σ.2.2 n 2 (gSuit G (rCd σ.2.2 n z)).toNat ≤ 12 ∧ σ.2.2 n 3 1 ≤ 51) : seU (rc G σ n z y) := by
  obtain ⟨N, A, F⟩ := σ
  have hV0 := hV
  obtain ⟨v0, v1, v2, v3, v4, v5, v6, v7, v8⟩ := hV
  dsimp only at v0 v1 v2 v3 v4 v5 v6 v7 v8 hn hc hb hh
  have hst : 0 ≤ rSt A n z y ∧ rSt A n z y ≤ 300 := by
    have := v6 n
    unfold rSt
    split <;> omega
  by_cases h1 : y = 12 ∧ F n 3 1 + 1 = gAll G
  · rw [rc_1 h1]
    exact ⟨v0, v1, v2, by show -1 ≤ rSt A n z y ∧ rSt A n z y ≤ 300; omega, v4, v5, v6, v7, v8⟩
  by_cases h2 : N 2 = 1
  · rw [rc_2 h1 h2]; exact hV0
  by_cases h3 : A 2 (rSl G A F n z y).toNat ≠ 0
  · rw [rc_3 h1 h2 h3]; exact hV0
  by_cases h4 : N 0 ≤ N 1
  · rw [rc_4 h1 h2 h3 h4]
    exact ⟨v0, v1, Or.inr rfl, v3, v4, v5, v6, v7, v8⟩
  rw [rc_5 h1 h2 h3 h4]
  have hcd : 0 ≤ rCd F n z ∧ rCd F n z ≤ 51 := ⟨hc, ((v8 n).2.1 _).2⟩
  have hss := gSuit_rng (c := rCd F n z) hG
  refine ⟨v0, ⟨by show 1 ≤ N 1 + 1; omega, by show N 1 + 1 ≤ N 0; omega⟩, v2, v3, v4, iU_all v5 (nm_rng _), iU_rng v6 hst, iU_rng v7 (by show 0 ≤ N 1 + 1 ∧ N 1 + 1 ≤ 200; omega), fU_all v8 (cY_V (yCp_V (v8 n) (v8 _)) hz hcd (fun q => ?_) (fun q => ?_))⟩
  · show -1 ≤ yCp (F n) (F (N 1).toNat) 0 (rCd F n z).toNat
    rw [show yCp (F n) (F (N 1).toNat) 0 (rCd F n z).toNat = _ from iCp_lt (by omega)]
    exact hb q
  · show yCp (F n) (F (N 1).toNat) 2 (gSuit G (rCd F n z)).toNat ≤ 12 ∧ _
    rw [show yCp (F n) (F (N 1).toNat) 2 (gSuit G (rCd F n z)).toNat = _ from iCp_lt (by omega)]
    exact hh q
/-- what reach leaves: fuel, the positions found before, their steps and hashes; the count doesn't fall -/
theorem rc_keep (hV : seU σ) : (rc G σ n z y).1 0 = σ.1 0 ∧ (rc G σ n z y).1 4 = σ.1 4 ∧ σ.1 1 ≤ (rc G σ n z y).1 1 ∧ ∀ j : Nat, (j : Int) < σ.1 1 → (rc G σ n z y).2.2 j = σ.2.2 j ∧ (rc G σ n z y).2.1 1 j = σ.2.1 1 j ∧ (rc G σ n z y).2.1 0 j = σ.2.1 0 j := by
  obtain ⟨N, A, F⟩ := σ
  obtain ⟨v0, v1, -⟩ := hV
  dsimp only at v0 v1
  by_cases h1 : y = 12 ∧ F n 3 1 + 1 = gAll G
  · rw [rc_1 h1]; exact ⟨rfl, rfl, Int.le_refl _, fun j _ => ⟨rfl, rfl, rfl⟩⟩
  by_cases h2 : N 2 = 1
  · rw [rc_2 h1 h2]; exact ⟨rfl, rfl, Int.le_refl _, fun j _ => ⟨rfl, rfl, rfl⟩⟩
  by_cases h3 : A 2 (rSl G A F n z y).toNat ≠ 0
  · rw [rc_3 h1 h2 h3]; exact ⟨rfl, rfl, Int.le_refl _, fun j _ => ⟨rfl, rfl, rfl⟩⟩
  by_cases h4 : N 0 ≤ N 1
  · rw [rc_4 h1 h2 h3 h4]; exact ⟨rfl, rfl, Int.le_refl _, fun j _ => ⟨rfl, rfl, rfl⟩⟩
  rw [rc_5 h1 h2 h3 h4]
  refine ⟨rfl, rfl, by show N 1 ≤ N 1 + 1; omega, fun j hj => ?_⟩
  have hj : (j : Int) < N 1 := hj
  exact ⟨fU_ne _ _ (by show j ≠ (N 1).toNat; omega), iU_ne _ _ (by show j ≠ (N 1).toNat; omega), iU_ne _ _ (by show j ≠ (N 1).toNat; omega)⟩
/-- one target, all targets, all sources -/
def exO (G : Nat → Int) (n : Nat) (z y : Int) (σ : SS) : SS := if lOne G (σ.2.2 n 1) (σ.2.2 n 2) z y then rc G σ n z y else σ
def exT (G : Nat → Int) (n : Nat) (z : Int) : Nat → Int → SS → SS
  | 0, _, σ => σ
  | k + 1, y, σ => exT G n z k (y + 1) (exO G n z y σ)
def exF (G : Nat → Int) (n : Nat) : Nat → Int → SS → SS
  | 0, _, σ => σ
  | k + 1, z, σ => exF G n k (z + 1) (exT G n z 13 0 σ)
/-- what holds between the states of one expansion -/
def exI (G : Nat → Int) (n : Nat) (σ0 σ : SS) : Prop := seU σ ∧ (n : Int) < σ.1 1 ∧ okL G (σ.2.2 n) ∧ σ.1 0 = σ0.1 0 ∧ σ.1 4 = σ0.1 4 ∧ σ0.1 1 ≤ σ.1 1 ∧ ∀ j : Nat, (j : Int) < σ0.1 1 → σ.2.2 j = σ0.2.2 j ∧ σ.2.1 1 j = σ0.2.1 1 j ∧ σ.2.1 0 j = σ0.2.1 0 j
theorem exI.rf {σ : SS} (hV : seU σ) (hn : (n : Int) < σ.1 1) (hO : okL G (σ.2.2 n)) : exI G n σ σ := ⟨hV, hn, hO, rfl, rfl, Int.le_refl _, fun _ _ => ⟨rfl, rfl, rfl⟩⟩
theorem exI.one {σ0 σ : SS} (hG : gmV G) (h : exI G n σ0 σ) (hz : 0 ≤ z ∧ z < 12) (hy : 0 ≤ y ∧ y ≤ 12) : exI G n σ0 (exO G n z y σ) := by
  unfold exO
  split
  · rename_i h1
    obtain ⟨a1, a2, a3, a4, a5, a6, a7⟩ := h
    obtain ⟨b1, b2⟩ := a3 z y hz hy h1
    have hc : 0 ≤ rCd σ.2.2 n z := by
      have := ((a1.2.2.2.2.2.2.2.2 n).2.1 z.toNat).1
      have h2 := h1.1
      show 0 ≤ σ.2.2 n 1 z.toNat
      omega
    obtain ⟨k1, k2, k3, k4⟩ := rc_keep (G := G) (n := n) (z := z) (y := y) a1
    refine ⟨rc_V hG a1 a2 hz hy hc b1 b2, by omega, ?_, k1.trans a4, k2.trans a5, by omega, fun j hj => ?_⟩
    · rw [(k4 n a2).1]; exact a3
    · obtain ⟨c1, c2, c3⟩ := k4 j (by omega)
      obtain ⟨d1, d2, d3⟩ := a7 j hj
      exact ⟨c1.trans d1, c2.trans d2, c3.trans d3⟩
  · exact h
theorem exI.all {σ0 : SS} (hG : gmV G) (hz : 0 ≤ z ∧ z < 12) : ∀ (k : Nat) (y : Int) (σ : SS), exI G n σ0 σ → 0 ≤ y → y + k ≤ 13 → exI G n σ0 (exT G n z k y σ) := by
  intro k
  induction k with
  | zero => intro y σ h _ _; exact h
  | succ k ih => intro y σ h h1 h2; exact ih _ _ (h.one hG hz (by omega)) (by omega) (by omega)
theorem exI.every {σ0 : SS} (hG : gmV G) : ∀ (k : Nat) (z : Int) (σ : SS), exI G n σ0 σ → 0 ≤ z → z + k ≤ 12 → exI G n σ0 (exF G n k z σ) := by
  intro k
  induction k with
  | zero => intro z σ h _ _; exact h
  | succ k ih => intro z σ h h1 h2; exact ih _ _ (exI.all (z := z) hG (by omega) 13 0 σ h (by omega) (by omega)) (by omega) (by omega)
end ZEX
section ZEY
variable {L : Nat} {xs : Nat → Int32} {d q : Nat} {w : zi_W} {cn sn : Nat} {Q : zi_O → zi_W → Nat → Nat → Prop} {G : Nat → Int} {σ0 : SS} {n : Nat} {z : Int}
abbrev exW (L : Nat) (xs : Nat → Int32) (d q pc n : Nat) (w : zi_W) (cn sn : Nat) (Q : zi_O → zi_W → Nat → Nat → Prop) (z : Int) (x4 : Option Value) : Prop := zw L xs d q 70 pc [some (.ref 11), some (iV n), some (.ref (16 + 4 * n)), some (iV z), x4] [] w cn sn Q
theorem lp_exT (hG : gmV G) (hz : 0 ≤ z ∧ z < 12) (hd : 4 ≤ d) (hq : 103 ≤ q) (kk : ∀ (w' : zi_W) (σ : SS) (x4 : Option Value), gmA w' 1 G → seT w' σ → exI G n σ0 σ → zF seS w w' → σ = exT G n z 13 0 σ0 → exW L xs d q 49 n w' cn sn Q z x4) : ∀ (k : Nat) (y : Int) (σ : SS) (w' : zi_W), y + k = 13 → 0 ≤ y → gmA w' 1 G → seT w' σ → exI G n σ0 σ → zF seS w w' → exT G n z 13 0 σ0 = exT G n z k y σ → exW L xs d q 18 n w' cn sn Q z (some (iV y)) := by
  obtain ⟨d, rfl⟩ : ∃ e, d = e + 1 := ⟨d - 1, by omega⟩
  intro k
  induction k with
  | zero =>
    intro y σ w' h1 h2 hg hs hI hF he
    refine zw_iload z70_18 rfl ?_
    refine zw_bipush z70_20 (v := iI (12)) (by decide +kernel) ?_
    refine zj_icmp_gt z70_22 (by omega) (by omega) (fun h22 => ?_) (fun h22 => ?_)
    · exact kk w' σ _ hg hs hI hF he.symm
    · exfalso; omega
  | succ k ih =>
    intro y σ w' h1 h2 hg hs hI hF he
    have hI0 := hI
    obtain ⟨a1, a2, a3, a4, a5, a6, a7⟩ := hI
    have hN0 := a1.1
    have hN1 := a1.2.1
    have hyn := hs.2 n (by omega)
    have y0 := hyn.1
    have hV2 := ((a1.2.2.2.2.2.2.2.2 n).2.1 z.toNat).1
    have s0 := hs.1.1
    refine zw_iload z70_18 rfl ?_
    refine zw_bipush z70_20 (v := iI (12)) (by decide +kernel) ?_
    refine zj_icmp_gt z70_22 (by omega) (by omega) (fun h22 => ?_) (fun h22 => ?_)
    · exfalso; omega
    refine zw_aload_n z70_25 rfl ?_
    refine zw_iload_n z70_26 rfl ?_
    refine zw_iload z70_27 rfl ?_
    refine zw_vv (n := 4) z70_29 rfl rfl (by assumption) (Nat.le_of_ble_eq_true rfl) (by omega) (sp_allowsOne hg hG hyn (a1.2.2.2.2.2.2.2.2 n) hz (by omega) (by omega) (by omega)) ?_
    refine zj_b_eq z70_32 (fun h32 => ?_) (fun h32 => ?_)
    · refine zj_iinc z70_43 rfl rfl ?_
      refine zw_goto z70_46 ?_
      exact ih (y + 1) σ w' (by omega) (by omega) hg hs hI0 hF (by rw [he]; show exT G n z k (y + 1) (exO G n z y σ) = _; rw [show exO G n z y σ = σ from if_neg h32])
    · obtain ⟨b1, b2⟩ := a3 z y hz (by omega) h32
      have hc : 0 ≤ rCd σ.2.2 n z := by
        have h2 := h32.1
        show 0 ≤ σ.2.2 n 1 z.toNat
        omega
      refine zw_aload_n z70_35 rfl ?_
      refine zw_iload_n z70_36 rfl ?_
      refine zw_iload_n z70_37 rfl ?_
      refine zw_iload z70_38 rfl ?_
      refine zw_cv (n := 10) z70_40 rfl rfl s0 (Nat.le_of_ble_eq_true rfl) (by omega) (sp_reach hg hG hs a1 a2 hz (by omega) hc b1 (fun q => (b2 q).1) (by omega) (by omega)) (fun v w1 cn1 sn1 h => ?_)
      obtain ⟨rfl, rfl, rfl, hs1, hF1⟩ := h
      refine zj_iinc z70_43 rfl rfl ?_
      refine zw_goto z70_46 ?_
      exact ih (y + 1) (exO G n z y σ) w1 (by omega) (by omega) ((hF1.2 1 (by omega)).trans hg) (by rw [show exO G n z y σ = rc G σ n z y from if_pos h32]; exact hs1) (hI0.one hG hz (by omega)) (hF.trans hF1) (by rw [he]; rfl)
theorem lp_exF (hG : gmV G) (hd : 4 ≤ d) (hq : 103 ≤ q) (kk : ∀ (w' : zi_W), gmA w' 1 G → seT w' (exF G n 12 0 σ0) → exI G n σ0 (exF G n 12 0 σ0) → zF seS w w' → Q (.inl none) w' cn sn) : ∀ (k : Nat) (z : Int) (σ : SS) (w' : zi_W) (x4 : Option Value), z + k = 12 → 0 ≤ z → gmA w' 1 G → seT w' σ → exI G n σ0 σ → zF seS w w' → exF G n 12 0 σ0 = exF G n k z σ → exW L xs d q 9 n w' cn sn Q z x4 := by
  intro k
  induction k with
  | zero =>
    intro z σ w' x4 h1 h2 hg hs hI hF he
    refine zw_iload_n z70_9 rfl ?_
    refine zw_bipush z70_10 (v := iI (12)) (by decide +kernel) ?_
    refine zj_icmp_ge z70_12 (by omega) (by omega) (fun h12 => ?_) (fun h12 => ?_)
    · refine zw_vret z70_55 rfl ?_
      have he : exF G n 12 0 σ0 = σ := he
      exact kk w' hg (by rw [he]; exact hs) (by rw [he]; exact hI) hF
    · exfalso; omega
  | succ k ih =>
    intro z σ w' x4 h1 h2 hg hs hI hF he
    refine zw_iload_n z70_9 rfl ?_
    refine zw_bipush z70_10 (v := iI (12)) (by decide +kernel) ?_
    refine zj_icmp_ge z70_12 (by omega) (by omega) (fun h12 => ?_) (fun h12 => ?_)
    · exfalso; omega
    refine zw_iconst z70_15 (v := iI 0) rfl ?_
    refine zw_istore z70_16 rfl ?_
    obtain ⟨a1, a2, a3, a4, a5, a6, a7⟩ := hI
    refine lp_exT (w := w') (σ0 := σ) hG (by omega) hd hq (fun w2 σ2 x5 hg2 hs2 hI2 hF2 he2 => ?_) 13 0 σ w' (by omega) (by omega) hg hs (exI.rf a1 a2 a3) zF.rf rfl
    refine zj_iinc z70_49 rfl rfl ?_
    refine zw_goto z70_52 ?_
    obtain ⟨c1, c2, c3, c4, c5, c6, c7⟩ := hI2
    exact ih (z + 1) σ2 w2 x5 (by omega) (by omega) hg2 hs2 ⟨c1, c2, c3, c4.trans a4, c5.trans a5, by omega, fun j hj => by
      obtain ⟨e1, e2, e3⟩ := c7 j (by omega)
      obtain ⟨f1, f2, f3⟩ := a7 j hj
      exact ⟨e1.trans f1, e2.trans f2, e3.trans f3⟩⟩ (hF.trans hF2) (by rw [he, he2]; rfl)
theorem sp_expand (hg : gmA w 1 G) (hG : gmV G) (hs : seT w σ0) (hV : seU σ0) (hn : (n : Int) < σ0.1 1) (hO : okL G (σ0.2.2 n)) (hd : 4 ≤ d) (hq : 103 ≤ q) : zr L xs d q 70 [.ref 11, iV n] w cn sn (fun r w' cn' sn' => r = none ∧ cn' = cn ∧ sn' = sn ∧ gmA w' 1 G ∧ seT w' (exF G n 12 0 σ0) ∧ exI G n σ0 (exF G n 12 0 σ0) ∧ zF seS w w') := by
  have s0 := hs.1.1
  have hN0 := hV.1
  have hN1 := hV.2.1
  refine ⟨_, rfl, ?_⟩
  show zw _ _ _ _ 70 0 [some (.ref 11), some (iV n), none, none, none] [] _ _ _ _
  refine zw_aload_n z70_0 rfl ?_
  refine zw_getf z70_1 (by assumption) (by rfl) ?_
  refine zw_iload_n z70_4 rfl ?_
  refine zj_ald3 z70_5 hs.1.2.1 (by omega) (by decide) (v := 16 + 4 * n) rfl ?_
  refine zw_astore_n z70_6 rfl ?_
  refine zw_iconst z70_7 (v := iI 0) rfl ?_
  refine zw_istore_n z70_8 rfl ?_
  exact lp_exF hG hd hq (fun w' g1 g2 g3 g4 => ⟨_, rfl, rfl, rfl, rfl, g1, g2, g3, g4⟩) 12 0 σ0 w none (by omega) (by omega) hg hs (exI.rf hV hn hO) zF.rf rfl
end ZEY
end
section
/-! The class Search: begin, seek. (Laid out by gen/tpl.py from tpl/52.seek.tpl.) -/
def seV0 (A : Nat → Nat → Int) (F : Nat → Nat → Nat → Int) : Prop := (∀ j, iR (A 0 j)) ∧ (∀ j, 0 ≤ A 1 j ∧ A 1 j ≤ 300) ∧ (∀ j, 0 ≤ A 2 j ∧ A 2 j ≤ 200) ∧ ∀ j, lyW (F j)
abbrev bHs (G : Nat → Int) (Y : Nat → Nat → Int) : Int := hsm (Y 0) (gAll G).toNat 0 0
/-- what begin does, with the layout Y and the fuel u -/
def bg (G : Nat → Int) (σ : SS) (Y : Nat → Nat → Int) (u : Int) : SS :=
  (iU (iU (iU (iU (iU σ.1 0 u) 2 0) 3 (-1)) 4 0) 1 1, fU (fU σ.2.1 0 (iU (σ.2.1 0) 0 (bHs G Y))) 2 (iU (iFi (σ.2.1 2) 512 0) (sl0 (bHs G Y)).toNat 1), fU σ.2.2 0 (yCp Y (σ.2.2 0)))
theorem hsm_rng (b : Nat → Int) : ∀ (n c : Nat) (z : Int), iR z → iR (hsm b n c z) := by
  intro n
  induction n with
  | zero => intro c z h; exact h
  | succ n ih => intro c z h; exact ih _ _ (nm_rng _)
section ZSK
variable {L : Nat} {xs : Nat → Int32} {d q : Nat} {w : zi_W} {cn sn : Nat} {Q : zi_O → zi_W → Nat → Nat → Prop} {G : Nat → Int} {σ : SS} {Y : Nat → Nat → Int} {u : Int}
theorem bg_V (hV : seV0 σ.2.1 σ.2.2) (hY : lyW Y) (hu : 1 ≤ u ∧ u ≤ 200) : seU (bg G σ Y u) := by
  obtain ⟨v5, v6, v7, v8⟩ := hV
  refine ⟨hu, ⟨by show (1 : Int) ≤ 1; omega, hu.1⟩, Or.inl rfl, by show (-1 : Int) ≤ -1 ∧ (-1 : Int) ≤ 300; omega, by show (0 : Int) ≤ 0 ∧ (0 : Int) ≤ 200; omega, iU_all v5 (hsm_rng _ _ _ _ (by decide)), v6, iU_rng (fun j => ?_) (by omega), fU_all v8 (yCp_V hY (v8 _))⟩
  unfold iFi
  split
  · omega
  · exact v7 j
theorem sp_begin (hg : gmA w 1 G) (hG : gmV G) (hs : seT w σ) (hV : seV0 σ.2.1 σ.2.2) (hY : lyY w 2 Y) (hYV : lyW Y) (hd : 2 ≤ d) (hq : 47 ≤ q) : zr L xs d q 69 [.ref 11, .ref 2, iV u] w cn sn (fun r w' cn' sn' => r = none ∧ cn' = cn ∧ sn' = sn ∧ gmA w' 1 G ∧ seT w' (bg G σ Y u) ∧ lyY w' 2 Y ∧ zF seS w w') := by
  obtain ⟨d, rfl⟩ : ∃ e, d = e + 1 := ⟨d - 1, by omega⟩
  obtain ⟨N, A, F⟩ := σ
  obtain ⟨⟨s0, s1, s2, s3, s4⟩, hF⟩ := hs
  have hg' := hg
  unfold gmA at hg'
  have z0 : zF seS w w := zF.rf
  dsimp only at s0 s1 s2 s3 s4 hF hV
  refine ⟨_, rfl, ?_⟩
  show zw _ _ _ _ 69 0 [some (.ref 11), some (.ref 2), some (iV u)] [] _ _ _ _
  refine zw_aload_n z69_0 rfl ?_
  refine zw_iload_n z69_1 rfl ?_
  refine zj_putf z69_2 s0 (Nat.le_of_ble_eq_true rfl) (by rfl) (fun w1 s0 f1 => ?_)
  have z0 := z0.step f1 (by omega)
  refine zw_aload_n z69_5 rfl ?_
  refine zw_iconst z69_6 (v := iI 0) rfl ?_
  refine zj_putf z69_7 s0 (Nat.le_of_ble_eq_true rfl) (by decide +kernel) (fun w2 s0 f2 => ?_)
  have z0 := z0.step f2 (by omega)
  refine zw_aload_n z69_10 rfl ?_
  refine zw_iconst z69_11 (v := iI (-1)) rfl ?_
  refine zj_putf z69_12 s0 (Nat.le_of_ble_eq_true rfl) (by rfl) (fun w3 s0 f3 => ?_)
  have z0 := z0.step f3 (by omega)
  refine zw_aload_n z69_15 rfl ?_
  refine zw_iconst z69_16 (v := iI 0) rfl ?_
  refine zj_putf z69_17 s0 (Nat.le_of_ble_eq_true rfl) (by rfl) (fun w4 s0 f4 => ?_)
  have z0 := z0.step f4 (by omega)
  have k4 : ∀ j, j ≠ 11 → zi_get w4 j = zi_get w j := fun j hj => (f4.2 j hj).trans ((f3.2 j hj).trans ((f2.2 j hj).trans (f1.2 j hj)))
  have s1 := (k4 12 (by omega)).trans s1
  have s2 := (k4 13 (by omega)).trans s2
  have s3 := (k4 14 (by omega)).trans s3
  have s4 := (k4 15 (by omega)).trans s4
  refine zw_aload_n z69_20 rfl ?_
  refine zw_getf z69_21 (by assumption) (by rfl) ?_
  refine zw_iconst z69_24 (v := iI 0) rfl ?_
  refine zw_cs (n := 4) z69_25 rfl rfl (Nat.le_of_ble_eq_true rfl) (by omega) (sp_fill (by decide) s4) (fun v w5 cn5 sn5 h => ?_)
  obtain ⟨rfl, rfl, rfl, s4, f5⟩ := h
  have z0 := z0.step f5 (by omega)
  have s0 := (f5.2 11 (by omega)).trans s0
  have s1 := (f5.2 12 (by omega)).trans s1
  have s2 := (f5.2 13 (by omega)).trans s2
  have s3 := (f5.2 14 (by omega)).trans s3
  have k5 : ∀ j, 16 ≤ j → zi_get w5 j = zi_get w j := fun j hj => (f5.2 j (by omega)).trans (k4 j (by omega))
  have hF5 := seA.found k5 hF
  have hY5 : lyY w5 2 Y := hY.keep fun i h1 h2 => (f5.2 i (by omega)).trans (k4 i (by omega))
  have hF50 : lyY w5 16 (F 0) := hF5 0 (by omega)
  refine zw_aload_n z69_28 rfl ?_
  refine zw_getf z69_29 (by assumption) (by rfl) ?_
  refine zw_iconst z69_32 (v := iI 0) rfl ?_
  refine zj_ald3 z69_33 s1 (by omega) (by decide) (v := 16) rfl ?_
  refine zw_aload_n z69_34 rfl ?_
  refine zw_cv (n := 2) z69_35 rfl rfl hF50.1 (Nat.le_of_ble_eq_true rfl) (by omega) (sp_becomeLike hF50 hY5 (Or.inr (by decide)) (by omega) (by omega)) (fun v w6 cn6 sn6 h => ?_)
  obtain ⟨rfl, rfl, rfl, c6, f6⟩ := h
  have z0 := z0.trans (f6.sub (fun j hj => Or.inr ⟨by omega, by omega⟩))
  have s0 := (f6.2 11 (by omega)).trans s0
  have s1 := (f6.2 12 (by omega)).trans s1
  have s2 := (f6.2 13 (by omega)).trans s2
  have s3 := (f6.2 14 (by omega)).trans s3
  have s4 := (f6.2 15 (by omega)).trans s4
  have hY6 : lyY w6 2 Y := hY5.keep fun i h1 h2 => f6.2 i (by omega)
  have hg6 : gmA w6 1 G := (f6.2 1 (by omega)).trans ((f5.2 1 (by omega)).trans ((k4 1 (by omega)).trans hg'))
  refine zw_aload_n z69_38 rfl ?_
  refine zw_getf z69_39 (by assumption) (by rfl) ?_
  refine zw_iconst z69_42 (v := iI 0) rfl ?_
  refine zw_aload_n z69_43 rfl ?_
  refine zw_aload_n z69_44 rfl ?_
  refine zw_vv (n := 5) z69_45 rfl rfl s0 (Nat.le_of_ble_eq_true rfl) (by omega) (sp_hashOf hg6 hG ⟨s0, s1, s2, s3, s4⟩ hY6 hYV.1 (by omega) (by omega)) ?_
  refine zj_astG z69_48 s2 (by omega) (by decide) (fun w7 s2 f7 => ?_)
  have z0 := z0.step f7 (by omega)
  have s0 := (f7.2 11 (by omega)).trans s0
  have s1 := (f7.2 12 (by omega)).trans s1
  have s3 := (f7.2 14 (by omega)).trans s3
  have s4 := (f7.2 15 (by omega)).trans s4
  refine zw_aload_n z69_49 rfl ?_
  refine zw_getf z69_50 (by assumption) (by rfl) ?_
  refine zw_aload_n z69_53 rfl ?_
  refine zw_getf z69_54 (by assumption) (by rfl) ?_
  refine zw_iconst z69_57 (v := iI 0) rfl ?_
  refine zj_ald z69_58 s2 (by omega) (by decide) ?_
  rw [show iU (A 0) (0 : Int).toNat (hsm (Y 0) (gAll G).toNat 0 0) (0 : Int).toNat = bHs G Y from iU_same _ _ _]
  refine zw_sipush z69_59 (v := iI (511)) (by decide +kernel) ?_
  refine zj_and z69_62 ?_
  refine zw_iconst z69_63 (v := iI 1) rfl ?_
  refine zj_astG z69_64 s4 (sl0_rng _) (by decide) (fun w8 s4 f8 => ?_)
  have z0 := z0.step f8 (by omega)
  have s0 := (f8.2 11 (by omega)).trans s0
  have s1 := (f8.2 12 (by omega)).trans s1
  have s2 := (f8.2 13 (by omega)).trans s2
  have s3 := (f8.2 14 (by omega)).trans s3
  refine zw_aload_n z69_65 rfl ?_
  refine zw_iconst z69_66 (v := iI 1) rfl ?_
  refine zj_putf z69_67 s0 (Nat.le_of_ble_eq_true rfl) (by rfl) (fun w9 s0 f9 => ?_)
  have z0 := z0.step f9 (by omega)
  have k9 : ∀ j, 16 ≤ j ∨ j ≤ 10 → zi_get w9 j = zi_get w6 j := fun j hj => (f9.2 j (by omega)).trans ((f8.2 j (by omega)).trans (f7.2 j (by omega)))
  refine zw_vret z69_70 rfl ⟨_, rfl, rfl, rfl, rfl, (k9 1 (by omega)).trans hg6, ⟨⟨s0, (f9.2 12 (by omega)).trans s1, (f9.2 13 (by omega)).trans s2, (f9.2 14 (by omega)).trans s3, (f9.2 15 (by omega)).trans s4⟩, fun j hj => ?_⟩, hY6.keep fun i h1 h2 => k9 i (by omega), z0⟩
  show lyY w9 (16 + 4 * j) (fU F 0 (yCp Y (F 0)) j)
  by_cases hj0 : j = 0
  · subst hj0
    rw [fU_same]
    exact lyA.keep (a := 16) c6 fun i h1 h2 => k9 i (by omega)
  · rw [fU_ne _ _ hj0]
    exact (hF5 j hj).keep fun i h1 h2 => (k9 i (by omega)).trans (f6.2 i (by omega))
end ZSK
end
section
/-! The class Search: seek. (Laid out by gen/tpl.py from tpl/53.seek.tpl.) -/
/-- all positions found keep J -/
def alJ (J : (Nat → Nat → Int) → Prop) (σ : SS) : Prop := ∀ j : Nat, (j : Int) < σ.1 1 → J (σ.2.2 j)
/-- J is kept by a move that the rules allow -/
def stJ (G : Nat → Int) (J : (Nat → Nat → Int) → Prop) : Prop := ∀ (Y X : Nat → Nat → Int) (z y : Int), J Y → lyW Y → 0 ≤ z ∧ z < 12 → 0 ≤ y ∧ y ≤ 12 → lOne G (Y 1) (Y 2) z y → J (cY G (yCp Y X) (Y 1 z.toNat) z y)
section ZSJ
variable {G : Nat → Int} {J : (Nat → Nat → Int) → Prop} {σ : SS} {n : Nat} {z y : Int}
theorem rc_J (h2 : stJ G J) (hV : seU σ) (hn : (n : Int) < σ.1 1) (hz : 0 ≤ z ∧ z < 12) (hy : 0 ≤ y ∧ y ≤ 12) (ho : lOne G (σ.2.2 n 1) (σ.2.2 n 2) z y) (hA : alJ J σ) : alJ J (rc G σ n z y) := by
  obtain ⟨N, A, F⟩ := σ
  have hV0 := hV
  obtain ⟨v0, v1, v2, v3, v4, v5, v6, v7, v8⟩ := hV
  dsimp only at v0 v1 v2 v3 v4 v5 v6 v7 v8 hn ho
  by_cases h1 : y = 12 ∧ F n 3 1 + 1 = gAll G
  · rw [rc_1 h1]; exact hA
  by_cases h2 : N 2 = 1
  · rw [rc_2 h1 h2]; exact hA
  by_cases h3 : A 2 (rSl G A F n z y).toNat ≠ 0
  · rw [rc_3 h1 h2 h3]; exact hA
  by_cases h4 : N 0 ≤ N 1
  · rw [rc_4 h1 h2 h3 h4]; exact hA
  rw [rc_5 h1 h2 h3 h4]
  intro j hj
  have hj : (j : Int) < N 1 + 1 := hj
  show J (fU F (N 1).toNat (cY G (yCp (F n) (F (N 1).toNat)) (rCd F n z) z y) j)
  by_cases hjm : j = (N 1).toNat
  · rw [hjm, fU_same]
    exact ‹stJ G J› (F n) (F (N 1).toNat) z y (hA n hn) (v8 n) hz hy ho
  · rw [fU_ne _ _ hjm]
    exact hA j (by show (j : Int) < N 1; omega)
theorem exO_J {σ0 : SS} (hJ : stJ G J) (hI : exI G n σ0 σ) (hz : 0 ≤ z ∧ z < 12) (hy : 0 ≤ y ∧ y ≤ 12) (hA : alJ J σ) : alJ J (exO G n z y σ) := by
  unfold exO
  split
  · rename_i h
    exact rc_J hJ hI.1 hI.2.1 hz hy h hA
  · exact hA
theorem exT_J {σ0 : SS} (hG : gmV G) (hJ : stJ G J) (hz : 0 ≤ z ∧ z < 12) : ∀ (k : Nat) (y : Int) (σ : SS), exI G n σ0 σ → 0 ≤ y → y + k ≤ 13 → alJ J σ → alJ J (exT G n z k y σ) := by
  intro k
  induction k with
  | zero => intro y σ h _ _ hA; exact hA
  | succ k ih => intro y σ h h1 h2 hA; exact ih _ _ (h.one hG hz (by omega)) (by omega) (by omega) (exO_J hJ h hz (by omega) hA)
theorem exF_J {σ0 : SS} (hG : gmV G) (hJ : stJ G J) : ∀ (k : Nat) (z : Int) (σ : SS), exI G n σ0 σ → 0 ≤ z → z + k ≤ 12 → alJ J σ → alJ J (exF G n k z σ) := by
  intro k
  induction k with
  | zero => intro z σ h _ _ hA; exact hA
  | succ k ih => intro z σ h h1 h2 hA; exact ih _ _ (exI.all (z := z) hG (by omega) 13 0 σ h (by omega) (by omega)) (by omega) (by omega) (exT_J hG hJ (by omega) 13 0 σ h (by omega) (by omega) hA)
/-- the positions of one level, in order, till a way to the end is found -/
def skN (G : Nat → Int) : Nat → Nat → SS → SS
  | 0, _, σ => σ
  | k + 1, n, σ => if σ.1 3 = -1 then skN G k (n + 1) (exF G n 12 0 σ) else σ
def skP (σ : SS) : SS := (iU σ.1 4 (σ.1 1), σ.2.1, σ.2.2)
abbrev skM (G : Nat → Int) (f : Nat) (σ : SS) : SS := skN G ((σ.1 1).toNat - f) f (skP σ)
def skL (G : Nat → Int) : Nat → Nat → Int → SS → Int × SS
  | 0, _, _, σ => (-2, σ)
  | k + 1, f, l, σ => if (skM G f σ).1 3 ≠ -1 then (l, skM G f σ) else if (skM G f σ).1 2 = 1 then (-2, skM G f σ) else if (skM G f σ).1 1 = (skM G f σ).1 4 then (-3, skM G f σ) else skL G k ((skM G f σ).1 4).toNat (l + 1) (skM G f σ)
/-- seek: the answer and the state it leaves -/
def sk (G : Nat → Int) (σ : SS) (Y : Nat → Nat → Int) (u : Int) : Int × SS := if Y 3 1 = gAll G then (0, bg G σ Y u) else skL G 200 0 1 (bg G σ Y u)
end ZSJ
section ZSQ
variable {L : Nat} {xs : Nat → Int32} {d q : Nat} {w : zi_W} {cn sn : Nat} {Q : zi_O → zi_W → Nat → Nat → Prop} {G : Nat → Int} {J : (Nat → Nat → Int) → Prop} {Y : Nat → Nat → Int} {u : Int}
abbrev skW (L : Nat) (xs : Nat → Int32) (d q pc : Nat) (w : zi_W) (cn sn : Nat) (Q : zi_O → zi_W → Nat → Nat → Prop) (u f l : Int) (x5 : Option Value) : Prop := zw L xs d q 68 pc [some (.ref 11), some (.ref 2), some (iV u), some (iV f), some (iV l), x5] [] w cn sn Q
/-- what holds in the loops of seek -/
def skI (J : (Nat → Nat → Int) → Prop) (σ : SS) : Prop := seU σ ∧ alJ J σ ∧ σ.1 4 ≤ σ.1 1
theorem skI.exp {n : Nat} {σ : SS} (hG : gmV G) (h1 : ∀ Y, J Y → lyW Y → okL G Y) (h2 : stJ G J) (h : skI J σ) (hn : (n : Int) < σ.1 1) : skI J (exF G n 12 0 σ) ∧ (exF G n 12 0 σ).1 4 = σ.1 4 := by
  obtain ⟨a1, a2, a3⟩ := h
  have hI := exI.rf a1 hn (h1 _ (a2 n hn) (a1.2.2.2.2.2.2.2.2 n))
  obtain ⟨b1, b2, b3, b4, b5, b6, b7⟩ := exI.every hG 12 0 σ hI (by omega) (by omega)
  exact ⟨⟨b1, exF_J hG h2 12 0 σ hI (by omega) (by omega) a2, by omega⟩, b5⟩
theorem lp_skN {l f : Int} (hG : gmV G) (h1 : ∀ Y, J Y → lyW Y → okL G Y) (h2 : stJ G J) (hd : 5 ≤ d) (hq : 127 ≤ q) {σf : SS} (kk : ∀ (w' : zi_W) (x5 : Option Value), gmA w' 1 G → seT w' σf → skI J σf → zF seS w w' → skW L xs d q 68 w' cn sn Q u f l x5) : ∀ (k : Nat) (n : Nat) (σ : SS) (w' : zi_W), (n : Int) + k = σ.1 4 → gmA w' 1 G → seT w' σ → skI J σ → zF seS w w' → σf = skN G k n σ → skW L xs d q 39 w' cn sn Q u f l (some (iV n)) := by
  obtain ⟨d, rfl⟩ : ∃ e, d = e + 1 := ⟨d - 1, by omega⟩
  intro k
  induction k with
  | zero =>
    intro n σ w' hk hg hs hI hF he
    have s0 := hs.1.1
    have v4 := hI.1.2.2.2.2.1
    have v3 := hI.1.2.2.2.1
    refine zw_iload z68_39 rfl ?_
    refine zw_aload_n z68_41 rfl ?_
    refine zw_getf z68_42 (by assumption) (by rfl) ?_
    refine zj_icmp_ge z68_45 (by omega) (by omega) (fun h45 => ?_) (fun h45 => ?_)
    · have he : σf = σ := he
      subst he
      exact kk w' _ hg hs hI hF
    · exfalso; omega
  | succ k ih =>
    intro n σ w' hk hg hs hI hF he
    have s0 := hs.1.1
    have v4 := hI.1.2.2.2.2.1
    have v3 := hI.1.2.2.2.1
    have v1 := hI.1.2.1
    have v0 := hI.1.1
    have w4 := hI.2.2
    refine zw_iload z68_39 rfl ?_
    refine zw_aload_n z68_41 rfl ?_
    refine zw_getf z68_42 (by assumption) (by rfl) ?_
    refine zj_icmp_ge z68_45 (by omega) (by omega) (fun h45 => ?_) (fun h45 => ?_)
    · exfalso; omega
    refine zw_aload_n z68_48 rfl ?_
    refine zw_getf z68_49 (by assumption) (by rfl) ?_
    refine zw_iconst z68_52 (v := iI (-1)) rfl ?_
    refine zj_icmp_ne z68_53 (by omega) (by omega) (fun h53 => ?_) (fun h53 => ?_)
    · have he : σf = σ := he.trans (if_neg (by omega))
      subst he
      exact kk w' _ hg hs hI hF
    have he : σf = skN G k (n + 1) (exF G n 12 0 σ) := he.trans (if_pos (by omega))
    have hn : (n : Int) < σ.1 1 := by omega
    refine zw_aload_n z68_56 rfl ?_
    refine zw_iload z68_57 rfl ?_
    refine zw_cv (n := 5) z68_59 rfl rfl s0 (Nat.le_of_ble_eq_true rfl) (by omega) (sp_expand hg hG hs hI.1 hn (h1 _ (hI.2.1 n hn) (hI.1.2.2.2.2.2.2.2.2 n)) (by omega) (by omega)) (fun v w1 cn1 sn1 h => ?_)
    obtain ⟨rfl, rfl, rfl, g1, g2, g3, g4⟩ := h
    refine zj_iinc z68_62 rfl rfl ?_
    refine zw_goto z68_65 ?_
    have hx := hI.exp hG h1 h2 hn
    have := ih (n + 1) (exF G n 12 0 σ) w1 (by rw [hx.2]; omega) g1 g2 hx.1 (hF.trans g4) he
    rwa [show ((n + 1 : Nat) : Int) = (n : Int) + 1 by omega] at this
theorem skI_N (hG : gmV G) (h1 : ∀ Y, J Y → lyW Y → okL G Y) (h2 : stJ G J) : ∀ (k n : Nat) (σ : SS), skI J σ → (n : Int) + k = σ.1 4 → skI J (skN G k n σ) ∧ (skN G k n σ).1 4 = σ.1 4 := by
  intro k
  induction k with
  | zero => intro n σ h _; exact ⟨h, rfl⟩
  | succ k ih =>
    intro n σ h hk
    by_cases h3 : σ.1 3 = -1
    · rw [show skN G (k + 1) n σ = skN G k (n + 1) (exF G n 12 0 σ) from if_pos h3]
      have w4 := h.2.2
      have hx := h.exp (n := n) hG h1 h2 (by omega)
      have := ih (n + 1) _ hx.1 (by rw [hx.2]; omega)
      exact ⟨this.1, this.2.trans hx.2⟩
    · rw [show skN G (k + 1) n σ = σ from if_neg h3]; exact ⟨h, rfl⟩
theorem skI_P {σ : SS} (h : skI J σ) : skI J (skP σ) := by
  obtain ⟨⟨v0, v1, v2, v3, v4, v5⟩, a2, a3⟩ := h
  exact ⟨⟨v0, v1, v2, v3, by show 0 ≤ σ.1 1 ∧ σ.1 1 ≤ 200; omega, v5⟩, a2, Int.le_refl _⟩
theorem skI_M {σ : SS} {f : Nat} (hG : gmV G) (h1 : ∀ Y, J Y → lyW Y → okL G Y) (h2 : stJ G J) (h : skI J σ) (hf : (f : Int) ≤ σ.1 1) : skI J (skM G f σ) ∧ (skM G f σ).1 4 = σ.1 1 := by
  have v1 := h.1.2.1
  have := skI_N hG h1 h2 ((σ.1 1).toNat - f) f (skP σ) (skI_P h) (by show (f : Int) + _ = σ.1 1; omega)
  exact this
theorem lp_skL (hG : gmV G) (h1 : ∀ Y, J Y → lyW Y → okL G Y) (h2 : stJ G J) (hd : 5 ≤ d) (hq : 127 ≤ q) {R : Int × SS} (kk : ∀ (w' : zi_W), gmA w' 1 G → seT w' R.2 → skI J R.2 → zF seS w w' → Q (.inl (some (iV R.1))) w' cn sn) : ∀ (k f : Nat) (l : Int) (σ : SS) (w' : zi_W) (x5 : Option Value), l + k = 201 → 1 ≤ l → (f : Int) ≤ σ.1 1 → gmA w' 1 G → seT w' σ → skI J σ → zF seS w w' → R = skL G k f l σ → skW L xs d q 20 w' cn sn Q u f l x5 := by
  intro k
  induction k with
  | zero =>
    intro f l σ w' x5 hk hl hf hg hs hI hF he
    refine zw_iload z68_20 rfl ?_
    refine zw_sipush z68_22 (v := iI (200)) (by decide +kernel) ?_
    refine zj_icmp_gt z68_25 (by omega) (by omega) (fun h25 => ?_) (fun h25 => ?_)
    · refine zw_bipush z68_114 (v := iI (-2)) (by decide +kernel) ?_
      refine zw_iret z68_116 rfl ?_
      have he : R = (-2, σ) := he
      subst he
      exact kk w' hg hs hI hF
    · exfalso; omega
  | succ k ih =>
    intro f l σ w' x5 hk hl hf hg hs hI hF he
    have s0 := hs.1.1
    have v1 := hI.1.2.1
    have v0 := hI.1.1
    refine zw_iload z68_20 rfl ?_
    refine zw_sipush z68_22 (v := iI (200)) (by decide +kernel) ?_
    refine zj_icmp_gt z68_25 (by omega) (by omega) (fun h25 => ?_) (fun h25 => ?_)
    · exfalso; omega
    refine zw_aload_n z68_28 rfl ?_
    refine zw_aload_n z68_29 rfl ?_
    refine zw_getf z68_30 (by assumption) (by rfl) ?_
    refine zj_putf z68_33 s0 (Nat.le_of_ble_eq_true rfl) (by rfl) (fun w1 s1 f1 => ?_)
    refine zw_iload_n z68_36 rfl ?_
    refine zw_istore z68_37 rfl ?_
    have hs1 : seT w1 (skP σ) := ⟨⟨s1, (f1.2 12 (by omega)).trans hs.1.2.1, (f1.2 13 (by omega)).trans hs.1.2.2.1, (f1.2 14 (by omega)).trans hs.1.2.2.2.1, (f1.2 15 (by omega)).trans hs.1.2.2.2.2⟩, seA.found (fun j hj => f1.2 j (by omega)) hs.2⟩
    have hg1 : gmA w1 1 G := (f1.2 1 (by omega)).trans hg
    have hM := skI_M (f := f) hG h1 h2 hI hf
    refine lp_skN (σf := skM G f σ) (w := w) hG h1 h2 hd hq (fun w2 x5 g1 g2 g3 g4 => ?_) ((σ.1 1).toNat - f) f (skP σ) w1 (by show (f : Int) + _ = σ.1 1; omega) hg1 hs1 (skI_P hI) (hF.step f1 (by omega)) rfl
    have he : R = if (skM G f σ).1 3 ≠ -1 then (l, skM G f σ) else if (skM G f σ).1 2 = 1 then (-2, skM G f σ) else if (skM G f σ).1 1 = (skM G f σ).1 4 then (-3, skM G f σ) else skL G k ((skM G f σ).1 4).toNat (l + 1) (skM G f σ) := he
    have hM2 := hM.2
    generalize skM G f σ = τ at *
    have t0 := g2.1.1
    have t1 := g3.1.1
    have t2 := g3.1.2.1
    have t3 := g3.1.2.2.1
    have t4 := g3.1.2.2.2.1
    have t5 := g3.2.2
    refine zw_aload_n z68_68 rfl ?_
    refine zw_getf z68_69 (by assumption) (by rfl) ?_
    refine zw_iconst z68_72 (v := iI (-1)) rfl ?_
    refine zj_icmp_eq z68_73 (by omega) (by omega) (fun h73 => ?_) (fun h73 => ?_)
    rotate_left
    · refine zw_iload z68_76 rfl ?_
      refine zw_iret z68_78 rfl ?_
      rw [if_pos (by omega)] at he
      subst he
      exact kk w2 g1 g2 g3 g4
    rw [if_neg (by omega)] at he
    refine zw_aload_n z68_79 rfl ?_
    refine zw_getf z68_80 (by assumption) (by rfl) ?_
    refine zj_if_eq z68_83 (by omega) (fun h83 => ?_) (fun h83 => ?_)
    rotate_left
    · refine zw_bipush z68_86 (v := iI (-2)) (by decide +kernel) ?_
      refine zw_iret z68_88 rfl ?_
      rw [if_pos (by omega)] at he
      subst he
      exact kk w2 g1 g2 g3 g4
    rw [if_neg (by omega)] at he
    refine zw_aload_n z68_89 rfl ?_
    refine zw_getf z68_90 (by assumption) (by rfl) ?_
    refine zw_aload_n z68_93 rfl ?_
    refine zw_getf z68_94 (by assumption) (by rfl) ?_
    refine zj_icmp_ne z68_97 (by omega) (by omega) (fun h97 => ?_) (fun h97 => ?_)
    rotate_left
    · refine zw_bipush z68_100 (v := iI (-3)) (by decide +kernel) ?_
      refine zw_iret z68_102 rfl ?_
      rw [if_pos (by omega)] at he
      subst he
      exact kk w2 g1 g2 g3 g4
    rw [if_neg (by omega)] at he
    refine zw_aload_n z68_103 rfl ?_
    refine zw_getf z68_104 (by assumption) (by rfl) ?_
    refine zw_istore_n z68_107 rfl ?_
    refine zj_iinc z68_108 rfl rfl ?_
    refine zw_goto z68_111 ?_
    have := ih (τ.1 4).toNat (l + 1) τ w2 x5 (by omega) (by omega) (by omega) g1 g2 g3 g4 he
    rwa [show (((τ.1 4).toNat : Nat) : Int) = τ.1 4 by omega] at this
theorem sp_seek {σ : SS} (hg : gmA w 1 G) (hG : gmV G) (hs : seT w σ) (hV : seV0 σ.2.1 σ.2.2) (hY : lyY w 2 Y) (hYV : lyW Y) (hu : 1 ≤ u ∧ u ≤ 200) (h1 : ∀ Y, J Y → lyW Y → okL G Y) (h2 : stJ G J) (h3 : J (yCp Y (σ.2.2 0))) (hd : 5 ≤ d) (hq : 127 ≤ q) : zr L xs d q 68 [.ref 11, .ref 2, iV u] w cn sn (fun r w' cn' sn' => r = some (iV (sk G σ Y u).1) ∧ cn' = cn ∧ sn' = sn ∧ gmA w' 1 G ∧ seT w' (sk G σ Y u).2 ∧ skI J (sk G σ Y u).2 ∧ lyY w' 2 Y ∧ zF seS w w') := by
  obtain ⟨d, rfl⟩ : ∃ e, d = e + 1 := ⟨d - 1, by omega⟩
  have s0 := hs.1.1
  refine ⟨_, rfl, ?_⟩
  show zw _ _ _ _ 68 0 [some (.ref 11), some (.ref 2), some (iV u), none, none, none] [] _ _ _ _
  refine zw_aload_n z68_0 rfl ?_
  refine zw_aload_n z68_1 rfl ?_
  refine zw_iload_n z68_2 rfl ?_
  refine zw_cv (n := 3) z68_3 rfl rfl s0 (Nat.le_of_ble_eq_true rfl) (by omega) (sp_begin hg hG hs hV hY hYV (by omega) (by omega)) (fun v w1 cn1 sn1 h => ?_)
  obtain ⟨rfl, rfl, rfl, g1, g2, g3, g4⟩ := h
  have y0 := g3.1
  have hI : skI J (bg G σ Y u) := ⟨bg_V hV hYV hu, fun j hj => by
    have hj : (j : Int) < 1 := hj
    obtain rfl : j = 0 := by omega
    show J (fU σ.2.2 0 (yCp Y (σ.2.2 0)) 0)
    rw [fU_same]
    exact h3, by show (0 : Int) ≤ 1; omega⟩
  refine zw_aload_n z68_6 rfl ?_
  refine zw_vv (n := 1) z68_7 rfl rfl (by assumption) (Nat.le_of_ble_eq_true rfl) (by omega) (sp_isAllHome g1 hG g3 hYV (by omega) (by omega)) ?_
  refine zj_b_eq z68_10 (fun h10 => ?_) (fun h10 => ?_)
  · refine zw_iconst z68_15 (v := iI 0) rfl ?_
    refine zw_istore_n z68_16 rfl ?_
    refine zw_iconst z68_17 (v := iI 1) rfl ?_
    refine zw_istore z68_18 rfl ?_
    have he : sk G σ Y u = skL G 200 0 1 (bg G σ Y u) := if_neg h10
    rw [he]
    refine lp_skL (f := 0) (w := w) hG h1 h2 hd hq (R := skL G 200 0 1 (bg G σ Y u)) (fun w2 k1 k2 k3 k4 => ⟨_, rfl, rfl, rfl, rfl, k1, k2, k3, hY.keep fun i h1 h2 => k4.2 i (by omega), k4⟩) 200 1 (bg G σ Y u) w1 none (by omega) (by omega) (by show (0 : Int) ≤ 1; omega) g1 g2 hI g4 rfl
  · refine zw_iconst z68_13 (v := iI 0) rfl ?_
    refine zw_iret z68_14 rfl ⟨_, rfl, ?_⟩
    rw [show sk G σ Y u = (0, bg G σ Y u) from if_pos h10]
    exact ⟨rfl, rfl, rfl, g1, g2, hI, g3, g4⟩
end ZSQ
end
section
/-! The class PatienceTable: its state, its readers, rules, cards, clear, lay. (Laid out by gen/tpl.py from tpl/54.table.tpl.) -/
/-- the table: rules G, layout Y, log P (0 lowest, 1 sources, 2 targets, 3 amounts, 4: next, count), search S, the rest R, the hint -/
def TT : Type := (Nat → Int) × (Nat → Nat → Int) × (Nat → Nat → Int) × SS × (Nat → Int) × Int
abbrev TT.mk (G : Nat → Int) (Y P : Nat → Nat → Int) (S : SS) (R : Nat → Int) (h : Int) : TT := (G, Y, P, S, R, h)
abbrev TT.G (T : TT) : Nat → Int := T.1
abbrev TT.Y (T : TT) : Nat → Nat → Int := T.2.1
abbrev TT.P (T : TT) : Nat → Nat → Int := T.2.2.1
abbrev TT.S (T : TT) : SS := T.2.2.2.1
abbrev TT.R (T : TT) : Nat → Int := T.2.2.2.2.1
abbrev TT.hi (T : TT) : Int := T.2.2.2.2.2
abbrev lgP (w : zi_W) (P : Nat → Nat → Int) : Prop := lgA w 6 (P 0) (P 1) (P 2) (P 3) (P 4 0) (P 4 1)
abbrev lgW (P : Nat → Nat → Int) : Prop := lgV (P 0) (P 1) (P 2) (P 3) (P 4 0) (P 4 1)
def ptO (w : zi_W) (h : Int) : Prop := zi_get w 0 = some (.inr (0, [.ref 1, .ref 2, .ref 6, .ref 11, .ref 816, iV h]))
def ptA (w : zi_W) (T : TT) : Prop := ptO w T.hi ∧ gmA w 1 T.G ∧ lyY w 2 T.Y ∧ lgP w T.P ∧ seT w T.S ∧ zi_get w 816 = some (.inl (0, 52, .inl (iA T.R)))
def ptV (T : TT) : Prop := gmV T.G ∧ lyW T.Y ∧ lgW T.P ∧ seV0 T.S.2.1 T.S.2.2 ∧ (∀ j, 0 ≤ T.R j ∧ T.R j ≤ 51)
abbrev ptS : Nat → Prop := fun j => j ≤ 816
abbrev oI (z : Int) : zi_O := .inl (some (iV z))
def tC : zi_O → Nat
  | .inl _ => 0
  | .inr _ => 1
/-- method j, called with as, ends; R says how -/
def zt (L : Nat) (xs : Nat → Int32) (d q j : Nat) (as : List Value) (w : zi_W) (cn sn : Nat) (R : zi_O → zi_W → Nat → Nat → Prop) : Prop := ∃ ls', zi_ent as (zi_n zp j) = some ls' ∧ zw L xs d q j 0 ls' [] w cn sn R
/-- it ends with o, and the table is then T -/
def tO (w : zi_W) (cn sn : Nat) (r : zi_O × TT) : zi_O → zi_W → Nat → Nat → Prop := fun o w' cn' sn' => o = r.1 ∧ cn' = cn + tC r.1 ∧ sn' = sn + 6 * tC r.1 ∧ ptA w' r.2 ∧ zF ptS w w'
theorem lgA.keep {w w' : zi_W} {l : Nat} {lo so ta am : Nat → Int} {nx ct : Int} (h : lgA w l lo so ta am nx ct) (hk : ∀ j, l ≤ j → j ≤ l + 4 → zi_get w' j = zi_get w j) : lgA w' l lo so ta am nx ct :=
  ⟨(hk l (by omega) (by omega)).trans h.1, (hk (l + 1) (by omega) (by omega)).trans h.2.1, (hk (l + 2) (by omega) (by omega)).trans h.2.2.1, (hk (l + 3) (by omega) (by omega)).trans h.2.2.2.1, (hk (l + 4) (by omega) (by omega)).trans h.2.2.2.2⟩
theorem seT_keep {w w' : zi_W} {σ : SS} (h : seT w σ) (hk : ∀ j, 11 ≤ j → j ≤ 815 → zi_get w' j = zi_get w j) : seT w' σ :=
  ⟨⟨(hk 11 (by omega) (by omega)).trans h.1.1, (hk 12 (by omega) (by omega)).trans h.1.2.1, (hk 13 (by omega) (by omega)).trans h.1.2.2.1, (hk 14 (by omega) (by omega)).trans h.1.2.2.2.1, (hk 15 (by omega) (by omega)).trans h.1.2.2.2.2⟩, fun j hj => (h.2 j hj).keep fun i h1 h2 => hk i (by omega) (by omega)⟩
def yCl (Y : Nat → Nat → Int) : Nat → Nat → Int
  | 0 => iFi (Y 0) 52 (-4)
  | 1 => iFi (Y 1) 12 (-1)
  | 2 => iFi (Y 2) 4 0
  | _ => fun _ => 0
def pN (P : Nat → Nat → Int) (a b : Int) : Nat → Nat → Int
  | 0 => P 0
  | 1 => P 1
  | 2 => P 2
  | 3 => P 3
  | _ => fun i => if i = 0 then a else b
def tClr (T : TT) : TT := TT.mk T.G (yCl T.Y) (pN T.P 0 0) T.S T.R (-1)
section ZPT
variable {L : Nat} {xs : Nat → Int32} {d q : Nat} {w : zi_W} {cn sn : Nat} {T : TT} {z y m c a b e f u : Int}
theorem zt_of_zr {j : Nat} {as : List Value} {R : Option Value → zi_W → Nat → Nat → Prop} {R' : zi_O → zi_W → Nat → Nat → Prop} (h : zr L xs d q j as w cn sn R) (hR : ∀ v w' cn' sn', R v w' cn' sn' → R' (.inl v) w' cn' sn') : zt L xs d q j as w cn sn R' := by
  obtain ⟨ls', h1, h2⟩ := h
  refine ⟨ls', h1, h2.mono fun o w' cn' sn' h => ?_⟩
  obtain ⟨v, rfl, h⟩ := h
  exact hR _ _ _ _ h
theorem sp_isWithin (hz : iR z) (ha : iR a) (hb : iR b) : zv d q 25 [iV z, iV a, iV b] w (iI (b2 (a ≤ z ∧ z ≤ b))) := by
  intro L xs cn sn
  refine ⟨_, rfl, ?_⟩
  show zw _ _ _ _ 25 0 [some (iV z), some (iV a), some (iV b)] [] _ _ _ _
  refine zw_iload_n z25_0 rfl ?_
  refine zw_iload_n z25_1 rfl ?_
  refine zj_icmp_lt z25_2 (by omega) (by omega) (fun h2 => ?_) (fun h2 => ?_)
  · refine zw_iconst z25_14 (v := iI 0) rfl ?_
    refine zj_bret z25_15 rfl (by first | exact b2_r | omega) ?_
    exact zv_end (by first | rw [b2_t (by omega)] | rw [b2_f (by omega)])
  · refine zw_iload_n z25_5 rfl ?_
    refine zw_iload_n z25_6 rfl ?_
    refine zj_icmp_gt z25_7 (by omega) (by omega) (fun h7 => ?_) (fun h7 => ?_)
    · refine zw_iconst z25_14 (v := iI 0) rfl ?_
      refine zj_bret z25_15 rfl (by first | exact b2_r | omega) ?_
      exact zv_end (by first | rw [b2_t (by omega)] | rw [b2_f (by omega)])
    · refine zw_iconst z25_10 (v := iI 1) rfl ?_
      refine zw_goto z25_11 ?_
      refine zj_bret z25_15 rfl (by first | exact b2_r | omega) ?_
      exact zv_end (by first | rw [b2_t (by omega)] | rw [b2_f (by omega)])
abbrev lTold (z : Int) : Int := if 49 ≤ z ∧ z ≤ 56 then z - 49 else if 97 ≤ z ∧ z ≤ 100 then z - 89 else if z = 104 then 12 else -1
theorem sp_placeTold (hz : 0 ≤ z ∧ z ≤ 65535) : zv d q 26 [iV z] w (iI (lTold z)) := by
  intro L xs cn sn
  refine ⟨_, rfl, ?_⟩
  show zw _ _ _ _ 26 0 [some (iV z)] [] _ _ _ _
  refine zw_iload_n z26_0 rfl ?_
  refine zw_bipush z26_1 (v := iI (49)) (by decide +kernel) ?_
  refine zj_icmp_lt z26_3 (by omega) (by omega) (fun h3 => ?_) (fun h3 => ?_)
  · refine zw_iload_n z26_17 rfl ?_
    refine zw_bipush z26_18 (v := iI (97)) (by decide +kernel) ?_
    refine zj_icmp_lt z26_20 (by omega) (by omega) (fun h20 => ?_) (fun h20 => ?_)
    · refine zw_iload_n z26_37 rfl ?_
      refine zw_bipush z26_38 (v := iI (104)) (by decide +kernel) ?_
      refine zj_icmp_ne z26_40 (by omega) (by omega) (fun h40 => ?_) (fun h40 => ?_)
      · refine zw_iconst z26_48 (v := iI (-1)) rfl ?_
        refine zw_iret z26_49 rfl ?_
        exact zv_end (by congr 1; unfold lTold; grind)
      · refine zw_bipush z26_43 (v := iI (12)) (by decide +kernel) ?_
        refine zw_goto z26_45 ?_
        refine zw_iret z26_49 rfl ?_
        exact zv_end (by congr 1; unfold lTold; grind)
    · refine zw_iload_n z26_23 rfl ?_
      refine zw_bipush z26_24 (v := iI (100)) (by decide +kernel) ?_
      refine zj_icmp_gt z26_26 (by omega) (by omega) (fun h26 => ?_) (fun h26 => ?_)
      · refine zw_iload_n z26_37 rfl ?_
        refine zw_bipush z26_38 (v := iI (104)) (by decide +kernel) ?_
        refine zj_icmp_ne z26_40 (by omega) (by omega) (fun h40 => ?_) (fun h40 => ?_)
        · refine zw_iconst z26_48 (v := iI (-1)) rfl ?_
          refine zw_iret z26_49 rfl ?_
          exact zv_end (by congr 1; unfold lTold; grind)
        · refine zw_bipush z26_43 (v := iI (12)) (by decide +kernel) ?_
          refine zw_goto z26_45 ?_
          refine zw_iret z26_49 rfl ?_
          exact zv_end (by congr 1; unfold lTold; grind)
      · refine zw_bipush z26_29 (v := iI (8)) (by decide +kernel) ?_
        refine zw_iload_n z26_31 rfl ?_
        refine zj_add z26_32 ?_
        refine zw_bipush z26_33 (v := iI (97)) (by decide +kernel) ?_
        refine zj_sub z26_35 ?_
        refine zw_iret z26_36 rfl ?_
        exact zv_end (by congr 1; unfold lTold; grind)
  · refine zw_iload_n z26_6 rfl ?_
    refine zw_bipush z26_7 (v := iI (56)) (by decide +kernel) ?_
    refine zj_icmp_gt z26_9 (by omega) (by omega) (fun h9 => ?_) (fun h9 => ?_)
    · refine zw_iload_n z26_17 rfl ?_
      refine zw_bipush z26_18 (v := iI (97)) (by decide +kernel) ?_
      refine zj_icmp_lt z26_20 (by omega) (by omega) (fun h20 => ?_) (fun h20 => ?_)
      · refine zw_iload_n z26_37 rfl ?_
        refine zw_bipush z26_38 (v := iI (104)) (by decide +kernel) ?_
        refine zj_icmp_ne z26_40 (by omega) (by omega) (fun h40 => ?_) (fun h40 => ?_)
        · refine zw_iconst z26_48 (v := iI (-1)) rfl ?_
          refine zw_iret z26_49 rfl ?_
          exact zv_end (by congr 1; unfold lTold; grind)
        · refine zw_bipush z26_43 (v := iI (12)) (by decide +kernel) ?_
          refine zw_goto z26_45 ?_
          refine zw_iret z26_49 rfl ?_
          exact zv_end (by congr 1; unfold lTold; grind)
      · refine zw_iload_n z26_23 rfl ?_
        refine zw_bipush z26_24 (v := iI (100)) (by decide +kernel) ?_
        refine zj_icmp_gt z26_26 (by omega) (by omega) (fun h26 => ?_) (fun h26 => ?_)
        · refine zw_iload_n z26_37 rfl ?_
          refine zw_bipush z26_38 (v := iI (104)) (by decide +kernel) ?_
          refine zj_icmp_ne z26_40 (by omega) (by omega) (fun h40 => ?_) (fun h40 => ?_)
          · refine zw_iconst z26_48 (v := iI (-1)) rfl ?_
            refine zw_iret z26_49 rfl ?_
            exact zv_end (by congr 1; unfold lTold; grind)
          · refine zw_bipush z26_43 (v := iI (12)) (by decide +kernel) ?_
            refine zw_goto z26_45 ?_
            refine zw_iret z26_49 rfl ?_
            exact zv_end (by congr 1; unfold lTold; grind)
        · refine zw_bipush z26_29 (v := iI (8)) (by decide +kernel) ?_
          refine zw_iload_n z26_31 rfl ?_
          refine zj_add z26_32 ?_
          refine zw_bipush z26_33 (v := iI (97)) (by decide +kernel) ?_
          refine zj_sub z26_35 ?_
          refine zw_iret z26_36 rfl ?_
          exact zv_end (by congr 1; unfold lTold; grind)
    · refine zw_iload_n z26_12 rfl ?_
      refine zw_bipush z26_13 (v := iI (49)) (by decide +kernel) ?_
      refine zj_sub z26_15 ?_
      refine zw_iret z26_16 rfl ?_
      exact zv_end (by congr 1; unfold lTold; grind)
theorem sp_clear (h : ptA w T) (hd : 2 ≤ d) (hq : 43 ≤ q) : zr L xs d q 12 [.ref 0] w cn sn (fun r w' cn' sn' => r = none ∧ cn' = cn ∧ sn' = sn ∧ ptA w' (tClr T) ∧ zF ptS w w') := by
  obtain ⟨d, rfl⟩ : ∃ e, d = e + 1 := ⟨d - 1, by omega⟩
  obtain ⟨h0, hg, hy, hp, hs, hr⟩ := h
  unfold ptO at h0
  have y0 := hy.1
  have p0 := hp.1
  refine ⟨_, rfl, ?_⟩
  show zw _ _ _ _ 12 0 [some (.ref 0)] [] _ _ _ _
  refine zw_aload_n z12_0 rfl ?_
  refine zw_getf z12_1 (by assumption) (by rfl) ?_
  refine zw_cv (n := 1) z12_4 rfl rfl y0 (Nat.le_of_ble_eq_true rfl) (by omega) (sp_takeAllUp hy (by omega) (by omega)) (fun v w1 cn1 sn1 h => ?_)
  obtain ⟨rfl, rfl, rfl, n1, f1⟩ := h
  have h0 := (f1.2 0 (by omega)).trans h0
  have p0 := (f1.2 6 (by omega)).trans p0
  have hp1 := hp.keep (w' := w1) fun j h1 h2 => f1.2 j (by omega)
  refine zw_aload_n z12_7 rfl ?_
  refine zw_getf z12_8 (by assumption) (by rfl) ?_
  refine zw_cv (n := 1) z12_11 rfl rfl p0 (Nat.le_of_ble_eq_true rfl) (by omega) (sp_forgetAll hp1) (fun v w2 cn2 sn2 h => ?_)
  obtain ⟨rfl, rfl, rfl, n2, f2⟩ := h
  have h0 := (f2.2 0 (by omega)).trans h0
  refine zw_aload_n z12_14 rfl ?_
  refine zw_iconst z12_15 (v := iI (-1)) rfl ?_
  refine zj_putf z12_16 h0 (Nat.le_of_ble_eq_true rfl) (by rfl) (fun w3 n3 f3 => ?_)
  have k3 : ∀ j, 11 ≤ j → zi_get w3 j = zi_get w j := fun j hj => (f3.2 j (by omega)).trans ((f2.2 j (by omega)).trans (f1.2 j (by omega)))
  refine zw_vret z12_19 rfl ⟨_, rfl, rfl, rfl, rfl, ⟨n3, (f3.2 1 (by omega)).trans ((f2.2 1 (by omega)).trans ((f1.2 1 (by omega)).trans hg)), lyA.keep n1 fun j h1 h2 => (f3.2 j (by omega)).trans (f2.2 j (by omega)), lgA.keep n2 fun j h1 h2 => f3.2 j (by omega), seT_keep hs fun j h1 h2 => k3 j (by omega), (k3 816 (by omega)).trans hr⟩, ((f1.sub fun j hj => by omega).trans (f2.sub fun j hj => by omega)).step f3 (by omega)⟩
def tRules (T : TT) (z y m c : Int) : zi_O × TT := if (2 ≤ z ∧ z ≤ 8) ∧ (0 ≤ y ∧ y ≤ 4) ∧ (0 ≤ m ∧ m ≤ 2) ∧ (0 ≤ c ∧ c ≤ 2) then (oI 1, tClr (TT.mk (iU (iU (iU (iU T.G 0 z) 1 y) 2 m) 3 c) T.Y T.P T.S T.R T.hi)) else (oI 0, T)
theorem sp_rules (h : ptA w T) (hz : iR z) (hy : iR y) (hm : iR m) (hc : iR c) (hd : 3 ≤ d) (hq : 63 ≤ q) : zt L xs d q 9 [.ref 0, iV z, iV y, iV m, iV c] w cn sn (tO w cn sn (tRules T z y m c)) := by
  obtain ⟨d, rfl⟩ : ∃ e, d = e + 1 := ⟨d - 1, by omega⟩
  have hT := h
  obtain ⟨h0, hg, -⟩ := h
  unfold ptO at h0
  unfold gmA at hg
  refine ⟨_, rfl, ?_⟩
  show zw _ _ _ _ 9 0 [some (.ref 0), some (iV z), some (iV y), some (iV m), some (iV c), none] [] _ _ _ _
  have kf : ¬ ((2 ≤ z ∧ z ≤ 8) ∧ (0 ≤ y ∧ y ≤ 4) ∧ (0 ≤ m ∧ m ≤ 2) ∧ (0 ≤ c ∧ c ≤ 2)) → zw L xs (d + 1) q 9 42 [some (.ref 0), some (iV z), some (iV y), some (iV m), some (iV c), none] [] w cn sn (tO w cn sn (tRules T z y m c)) := by
    intro hn
    refine zw_iconst z9_42 (v := iI 0) rfl ?_
    refine zw_istore z9_43 rfl ?_
    refine zw_iload z9_45 rfl ?_
    refine zj_if_ne z9_47 (by omega) (fun h => ?_) (fun h => ?_)
    · exfalso; omega
    refine zw_iconst z9_50 (v := iI 0) rfl ?_
    refine zj_bret z9_51 rfl (by omega) ?_
    rw [show tRules T z y m c = (oI 0, T) from if_neg hn]
    exact ⟨rfl, rfl, rfl, hT, zF.rf⟩
  refine zw_iload_n z9_0 rfl ?_
  refine zw_iconst z9_1 (v := iI 2) rfl ?_
  refine zw_bipush z9_2 (v := iI (8)) (by decide +kernel) ?_
  refine zw_vs (n := 3) z9_4 rfl rfl (Nat.le_of_ble_eq_true rfl) (by omega) (sp_isWithin hz (by omega) (by omega)) ?_
  refine zj_b_eq z9_7 (fun h7 => ?_) (fun h7 => ?_)
  · exact kf (by omega)
  refine zw_iload_n z9_10 rfl ?_
  refine zw_iconst z9_11 (v := iI 0) rfl ?_
  refine zw_iconst z9_12 (v := iI 4) rfl ?_
  refine zw_vs (n := 3) z9_13 rfl rfl (Nat.le_of_ble_eq_true rfl) (by omega) (sp_isWithin hy (by omega) (by omega)) ?_
  refine zj_b_eq z9_16 (fun h16 => ?_) (fun h16 => ?_)
  · exact kf (by omega)
  refine zw_iload_n z9_19 rfl ?_
  refine zw_iconst z9_20 (v := iI 0) rfl ?_
  refine zw_iconst z9_21 (v := iI 2) rfl ?_
  refine zw_vs (n := 3) z9_22 rfl rfl (Nat.le_of_ble_eq_true rfl) (by omega) (sp_isWithin hm (by omega) (by omega)) ?_
  refine zj_b_eq z9_25 (fun h25 => ?_) (fun h25 => ?_)
  · exact kf (by omega)
  refine zw_iload z9_28 rfl ?_
  refine zw_iconst z9_30 (v := iI 0) rfl ?_
  refine zw_iconst z9_31 (v := iI 2) rfl ?_
  refine zw_vs (n := 3) z9_32 rfl rfl (Nat.le_of_ble_eq_true rfl) (by omega) (sp_isWithin hc (by omega) (by omega)) ?_
  refine zj_b_eq z9_35 (fun h35 => ?_) (fun h35 => ?_)
  · exact kf (by omega)
  refine zw_iconst z9_38 (v := iI 1) rfl ?_
  refine zw_goto z9_39 ?_
  refine zw_istore z9_43 rfl ?_
  refine zw_iload z9_45 rfl ?_
  refine zj_if_ne z9_47 (by omega) (fun h => ?_) (fun h => ?_)
  rotate_left
  · exfalso; omega
  refine zw_aload_n z9_52 rfl ?_
  refine zw_getf z9_53 (by assumption) (by rfl) ?_
  refine zw_iload_n z9_56 rfl ?_
  refine zj_putf z9_57 hg (Nat.le_of_ble_eq_true rfl) (by rfl) (fun w1 hg f1 => ?_)
  have h0 := (f1.2 0 (by omega)).trans h0
  refine zw_aload_n z9_60 rfl ?_
  refine zw_getf z9_61 (by assumption) (by rfl) ?_
  refine zw_iload_n z9_64 rfl ?_
  refine zj_putf z9_65 hg (Nat.le_of_ble_eq_true rfl) (by rfl) (fun w2 hg f2 => ?_)
  have h0 := (f2.2 0 (by omega)).trans h0
  refine zw_aload_n z9_68 rfl ?_
  refine zw_getf z9_69 (by assumption) (by rfl) ?_
  refine zw_iload_n z9_72 rfl ?_
  refine zj_putf z9_73 hg (Nat.le_of_ble_eq_true rfl) (by rfl) (fun w3 hg f3 => ?_)
  have h0 := (f3.2 0 (by omega)).trans h0
  refine zw_aload_n z9_76 rfl ?_
  refine zw_getf z9_77 (by assumption) (by rfl) ?_
  refine zw_iload z9_80 rfl ?_
  refine zj_putf z9_82 hg (Nat.le_of_ble_eq_true rfl) (by rfl) (fun w4 hg f4 => ?_)
  have h0 := (f4.2 0 (by omega)).trans h0
  have k4 : ∀ j, 2 ≤ j → zi_get w4 j = zi_get w j := fun j hj => (f4.2 j (by omega)).trans ((f3.2 j (by omega)).trans ((f2.2 j (by omega)).trans (f1.2 j (by omega))))
  have h4 : ptA w4 (TT.mk (iU (iU (iU (iU T.G 0 z) 1 y) 2 m) 3 c) T.Y T.P T.S T.R T.hi) := ⟨h0, hg, hT.2.2.1.keep fun j h1 h2 => k4 j (by omega), hT.2.2.2.1.keep fun j h1 h2 => k4 j (by omega), seT_keep hT.2.2.2.2.1 fun j h1 h2 => k4 j (by omega), (k4 816 (by omega)).trans hT.2.2.2.2.2⟩
  refine zw_aload_n z9_85 rfl ?_
  refine zw_cv (n := 1) z9_86 rfl rfl h0 (Nat.le_of_ble_eq_true rfl) (by omega) (sp_clear h4 (by omega) (by omega)) (fun v w5 cn5 sn5 h => ?_)
  obtain ⟨rfl, rfl, rfl, h5, f5⟩ := h
  refine zw_iconst z9_89 (v := iI 1) rfl ?_
  refine zj_bret z9_90 rfl (by omega) ?_
  rw [show tRules T z y m c = _ from if_pos (by omega)]
  exact ⟨rfl, rfl, rfl, h5, ((((zF.rf.step f1 (by omega)).step f2 (by omega)).step f3 (by omega)).step f4 (by omega)).trans f5⟩
def tCards (T : TT) (z y : Int) : zi_O × TT := if (1 ≤ z ∧ z ≤ 4) ∧ (1 ≤ y ∧ y ≤ 13) then (oI 1, tClr (TT.mk (iU (iU T.G 4 z) 5 y) T.Y T.P T.S T.R T.hi)) else (oI 0, T)
theorem sp_cards (h : ptA w T) (hz : iR z) (hy : iR y) (hd : 3 ≤ d) (hq : 63 ≤ q) : zt L xs d q 10 [.ref 0, iV z, iV y] w cn sn (tO w cn sn (tCards T z y)) := by
  obtain ⟨d, rfl⟩ : ∃ e, d = e + 1 := ⟨d - 1, by omega⟩
  have hT := h
  obtain ⟨h0, hg, -⟩ := h
  unfold ptO at h0
  unfold gmA at hg
  refine ⟨_, rfl, ?_⟩
  show zw _ _ _ _ 10 0 [some (.ref 0), some (iV z), some (iV y)] [] _ _ _ _
  have kf : ¬ ((1 ≤ z ∧ z ≤ 4) ∧ (1 ≤ y ∧ y ≤ 13)) → zw L xs (d + 1) q 10 19 [some (.ref 0), some (iV z), some (iV y)] [] w cn sn (tO w cn sn (tCards T z y)) := by
    intro hn
    refine zw_iconst z10_19 (v := iI 0) rfl ?_
    refine zj_bret z10_20 rfl (by omega) ?_
    rw [show tCards T z y = (oI 0, T) from if_neg hn]
    exact ⟨rfl, rfl, rfl, hT, zF.rf⟩
  refine zw_iload_n z10_0 rfl ?_
  refine zw_iconst z10_1 (v := iI 1) rfl ?_
  refine zw_iconst z10_2 (v := iI 4) rfl ?_
  refine zw_vs (n := 3) z10_3 rfl rfl (Nat.le_of_ble_eq_true rfl) (by omega) (sp_isWithin hz (by omega) (by omega)) ?_
  refine zj_b_eq z10_6 (fun h7 => ?_) (fun h7 => ?_)
  · exact kf (by omega)
  refine zw_iload_n z10_9 rfl ?_
  refine zw_iconst z10_10 (v := iI 1) rfl ?_
  refine zw_bipush z10_11 (v := iI (13)) (by decide +kernel) ?_
  refine zw_vs (n := 3) z10_13 rfl rfl (Nat.le_of_ble_eq_true rfl) (by omega) (sp_isWithin hy (by omega) (by omega)) ?_
  refine zj_b_ne z10_16 (fun h16 => ?_) (fun h16 => ?_)
  rotate_left
  · exact kf (by omega)
  refine zw_aload_n z10_21 rfl ?_
  refine zw_getf z10_22 (by assumption) (by rfl) ?_
  refine zw_iload_n z10_25 rfl ?_
  refine zj_putf z10_26 hg (Nat.le_of_ble_eq_true rfl) (by rfl) (fun w1 hg f1 => ?_)
  have h0 := (f1.2 0 (by omega)).trans h0
  refine zw_aload_n z10_29 rfl ?_
  refine zw_getf z10_30 (by assumption) (by rfl) ?_
  refine zw_iload_n z10_33 rfl ?_
  refine zj_putf z10_34 hg (Nat.le_of_ble_eq_true rfl) (by rfl) (fun w2 hg f2 => ?_)
  have h0 := (f2.2 0 (by omega)).trans h0
  have k4 : ∀ j, 2 ≤ j → zi_get w2 j = zi_get w j := fun j hj => (f2.2 j (by omega)).trans (f1.2 j (by omega))
  have h4 : ptA w2 (TT.mk (iU (iU T.G 4 z) 5 y) T.Y T.P T.S T.R T.hi) := ⟨h0, hg, hT.2.2.1.keep fun j h1 h2 => k4 j (by omega), hT.2.2.2.1.keep fun j h1 h2 => k4 j (by omega), seT_keep hT.2.2.2.2.1 fun j h1 h2 => k4 j (by omega), (k4 816 (by omega)).trans hT.2.2.2.2.2⟩
  refine zw_aload_n z10_37 rfl ?_
  refine zw_cv (n := 1) z10_38 rfl rfl h0 (Nat.le_of_ble_eq_true rfl) (by omega) (sp_clear h4 (by omega) (by omega)) (fun v w5 cn5 sn5 h => ?_)
  obtain ⟨rfl, rfl, rfl, h5, f5⟩ := h
  refine zw_iconst z10_41 (v := iI 1) rfl ?_
  refine zj_bret z10_42 rfl (by omega) ?_
  rw [show tCards T z y = _ from if_pos (by omega)]
  exact ⟨rfl, rfl, rfl, h5, ((zF.rf.step f1 (by omega)).step f2 (by omega)).trans f5⟩
def yLay (Y : Nat → Nat → Int) (z c : Int) : Nat → Nat → Int
  | 0 => iU (Y 0) c.toNat (Y 1 z.toNat)
  | 1 => iU (Y 1) z.toNat c
  | 2 => Y 2
  | _ => fun i => if i = 0 then Y 3 0 + 1 else Y 3 1
def tLay (T : TT) (z c : Int) : zi_O × TT := if gCol T.G z ∧ 0 ≤ c ∧ c < gAll T.G then (if T.Y 0 c.toNat ≠ -4 then (.inr 1, T) else (oI (T.Y 3 0 + 1), TT.mk T.G (yLay T.Y z c) T.P T.S T.R (-1))) else (.inr 0, T)
theorem sp_lay (h : ptA w T) (hV : ptV T) (hz : iR z) (hc : iR c) (hd : 6 ≤ d) (hq : 90 ≤ q) : zt L xs d q 13 [.ref 0, iV z, iV c] w cn sn (tO w cn sn (tLay T z c)) := by
  obtain ⟨d, rfl⟩ : ∃ e, d = e + 1 := ⟨d - 1, by omega⟩
  have hT := h
  obtain ⟨h0, hg, hy, hp, hs, hr⟩ := h
  unfold ptO at h0
  have hg' := hg
  unfold gmA at hg'
  have y0 := hy.1
  have hG := hV.1
  have hA := gAll_rng hG
  have hG' := hG
  unfold gmV at hG'
  refine ⟨_, rfl, ?_⟩
  show zw _ _ _ _ 13 0 [some (.ref 0), some (iV z), some (iV c)] [] _ _ _ _
  have kf : ¬ (gCol T.G z ∧ 0 ≤ c ∧ c < gAll T.G) → zw L xs (d + 1) q 13 22 [some (.ref 0), some (iV z), some (iV c)] [] w cn sn (tO w cn sn (tLay T z c)) := by
    intro hn
    refine zw_thr (ex := 0) rfl (by omega) (by omega) ?_
    rw [show tLay T z c = (.inr 0, T) from if_neg hn]
    exact ⟨rfl, rfl, rfl, hT, zF.rf⟩
  refine zw_aload_n z13_0 rfl ?_
  refine zw_getf z13_1 (by assumption) (by rfl) ?_
  refine zw_iload_n z13_4 rfl ?_
  refine zw_vv (n := 2) z13_5 rfl rfl (by assumption) (Nat.le_of_ble_eq_true rfl) (by omega) (sp_isColumn hg hG hz) ?_
  refine zj_b_eq z13_8 (fun h7 => ?_) (fun h7 => ?_)
  · exact kf (by omega)
  refine zw_aload_n z13_11 rfl ?_
  refine zw_getf z13_12 (by assumption) (by rfl) ?_
  refine zw_iload_n z13_15 rfl ?_
  refine zw_vv (n := 2) z13_16 rfl rfl (by assumption) (Nat.le_of_ble_eq_true rfl) (by omega) (sp_isCard hg hG hc (by omega) (by omega)) ?_
  refine zj_b_ne z13_19 (fun h16 => ?_) (fun h16 => ?_)
  rotate_left
  · exact kf (fun h => h16 h.2)
  refine zw_aload_n z13_32 rfl ?_
  refine zw_getf z13_33 (by assumption) (by rfl) ?_
  refine zw_iload_n z13_36 rfl ?_
  refine zw_vv (n := 2) z13_37 rfl rfl (by assumption) (Nat.le_of_ble_eq_true rfl) (by omega) (sp_isLaid hy hV.2.1 (by omega)) ?_
  refine zj_b_eq z13_40 (fun h40 => ?_) (fun h40 => ?_)
  rotate_left
  · refine zw_thr (ex := 1) rfl (by omega) (by omega) ?_
    rw [show tLay T z c = (.inr 1, T) from (if_pos ⟨h7, h16⟩).trans (if_pos h40)]
    exact ⟨rfl, rfl, rfl, hT, zF.rf⟩
  refine zw_aload_n z13_53 rfl ?_
  refine zw_getf z13_54 (by assumption) (by rfl) ?_
  refine zw_iload_n z13_57 rfl ?_
  refine zw_iload_n z13_58 rfl ?_
  refine zw_cv (n := 3) z13_59 rfl rfl y0 (Nat.le_of_ble_eq_true rfl) (by omega) (sp_layOn hy hV.2.1 (by omega) (by omega)) (fun v w1 cn1 sn1 h => ?_)
  obtain ⟨rfl, rfl, rfl, n1, f1⟩ := h
  have h0 := (f1.2 0 (by omega)).trans h0
  refine zw_aload_n z13_62 rfl ?_
  refine zw_iconst z13_63 (v := iI (-1)) rfl ?_
  refine zj_putf z13_64 h0 (Nat.le_of_ble_eq_true rfl) (by rfl) (fun w2 n2 f2 => ?_)
  have y2 := (f2.2 2 (by omega)).trans n1.1
  have k2 : ∀ j, 6 ≤ j → zi_get w2 j = zi_get w j := fun j hj => (f2.2 j (by omega)).trans (f1.2 j (by omega))
  refine zw_aload_n z13_67 rfl ?_
  refine zw_getf z13_68 (by assumption) (by rfl) ?_
  refine zw_getf z13_71 (by assumption) (by rfl) ?_
  refine zw_iret z13_74 rfl ?_
  rw [show tLay T z c = _ from (if_pos ⟨h7, h16⟩).trans (if_neg h40)]
  exact ⟨rfl, rfl, rfl, ⟨n2, (f2.2 1 (by omega)).trans ((f1.2 1 (by omega)).trans hg), lyA.keep n1 fun j h1 h2 => f2.2 j (by omega), hp.keep fun j h1 h2 => k2 j (by omega), seT_keep hs fun j h1 h2 => k2 j (by omega), (k2 816 (by omega)).trans hr⟩, (f1.sub fun j hj => by omega).step f2 (by omega)⟩
end ZPT
end
section
/-! The class PatienceTable: moves, log, look. (Laid out by gen/tpl.py from tpl/55.play.tpl.) -/
def pNt (P : Nat → Nat → Int) (c z y m : Int) : Nat → Nat → Int
  | 0 => iU (P 0) (P 4 0).toNat c
  | 1 => iU (P 1) (P 4 0).toNat z
  | 2 => iU (P 2) (P 4 0).toNat y
  | 3 => iU (P 3) (P 4 0).toNat m
  | _ => fun i => if i = 0 then lgNx (P 4 0) else lgCt (P 4 1)
abbrev tLow (T : TT) (z m : Int) : Int := lCard (T.Y 0) (T.Y 1) z (m - 1)
def tBring (T : TT) (z y m : Int) : TT := TT.mk T.G (cY T.G T.Y (tLow T z m) z y) (pNt T.P (tLow T z m) z y m) T.S T.R (-1)
/-- what must hold so that m cards can be carried from z to y -/
def okB (T : TT) (z y m : Int) : Prop := 0 ≤ tLow T z m ∧ (z < 8 → -1 ≤ T.Y 0 (tLow T z m).toNat) ∧ (y = 12 → T.Y 2 (gSuit T.G (tLow T z m)).toNat ≤ 12 ∧ T.Y 3 1 ≤ 51)
section ZPL
variable {L : Nat} {xs : Nat → Int32} {d q : Nat} {w : zi_W} {cn sn : Nat} {T : TT} {z y m c a b e f u : Int}
theorem tLow_le (hV : lyW T.Y) : tLow T z m ≤ 51 := by
  have := lDn_rng hV.1 (m - 1).toNat (T.Y 1 z.toNat) (by have := hV.2.1 z.toNat; omega)
  show (if m - 1 < 0 then -1 else if lDn (T.Y 0) (m - 1).toNat (T.Y 1 z.toNat) < 0 then -1 else lDn (T.Y 0) (m - 1).toNat (T.Y 1 z.toNat)) ≤ 51
  split
  · omega
  · split <;> omega
theorem sp_bring (h : ptA w T) (hV : ptV T) (hz : 0 ≤ z ∧ z < 12) (hy2 : 0 ≤ y ∧ y ≤ 12) (hm : 1 ≤ m ∧ m ≤ 13) (hB : okB T z y m) (hd : 2 ≤ d) (hq : 46 ≤ q) : zr L xs d q 27 [.ref 0, iV z, iV y, iV m] w cn sn (fun r w' cn' sn' => r = none ∧ cn' = cn ∧ sn' = sn ∧ ptA w' (tBring T z y m) ∧ zF ptS w w') := by
  obtain ⟨d, rfl⟩ : ∃ e, d = e + 1 := ⟨d - 1, by omega⟩
  obtain ⟨h0, hg, hy, hp, hs, hr⟩ := h
  unfold ptO at h0
  have y0 := hy.1
  have p0 := hp.1
  have hG := hV.1
  have hl := tLow_le (z := z) (m := m) hV.2.1
  obtain ⟨b1, b2, b3⟩ := hB
  refine ⟨_, rfl, ?_⟩
  show zw _ _ _ _ 27 0 [some (.ref 0), some (iV z), some (iV y), some (iV m), none] [] _ _ _ _
  refine zw_aload_n z27_0 rfl ?_
  refine zw_getf z27_1 (by assumption) (by rfl) ?_
  refine zw_iload_n z27_4 rfl ?_
  refine zw_iload_n z27_5 rfl ?_
  refine zw_iconst z27_6 (v := iI 1) rfl ?_
  refine zj_sub z27_7 ?_
  refine zw_vv (n := 5) z27_8 rfl rfl (by assumption) (Nat.le_of_ble_eq_true rfl) (by omega) (sp_cardFromTop hy hV.2.1 hz (by omega)) ?_
  rw [show iI (lCard (T.Y 0) (T.Y 1) z (m - 1)) = iI (tLow T z m) from rfl]
  generalize hlo : tLow T z m = c at *
  refine zw_istore z27_11 rfl ?_
  refine zw_aload_n z27_13 rfl ?_
  refine zw_getf z27_14 (by assumption) (by rfl) ?_
  refine zw_iload z27_17 rfl ?_
  refine zw_iload_n z27_19 rfl ?_
  refine zw_iload_n z27_20 rfl ?_
  refine zw_cv (n := 6) z27_21 rfl rfl y0 (Nat.le_of_ble_eq_true rfl) (by omega) (sp_carry hg hG hy hV.2.1 (by omega) (by omega) (by omega) hy2 (by omega) b2 (by omega) (fun h => (b3 h).1) (by omega) (by omega)) (fun v w1 cn1 sn1 h => ?_)
  obtain ⟨rfl, rfl, rfl, n1, f1⟩ := h
  have h0 := (f1.2 0 (by omega)).trans h0
  have p0 := (f1.2 6 (by omega)).trans p0
  have hp1 := hp.keep (w' := w1) fun j h1 h2 => f1.2 j (by omega)
  refine zw_aload_n z27_24 rfl ?_
  refine zw_getf z27_25 (by assumption) (by rfl) ?_
  refine zw_iload z27_28 rfl ?_
  refine zw_iload_n z27_30 rfl ?_
  refine zw_iload_n z27_31 rfl ?_
  refine zw_iload_n z27_32 rfl ?_
  refine zw_cv (n := 5) z27_33 rfl rfl p0 (Nat.le_of_ble_eq_true rfl) (by omega) (sp_note hp1 hV.2.2.1 (by omega) (by omega) hy2 (by omega) (by omega) (by omega)) (fun v w2 cn2 sn2 h => ?_)
  obtain ⟨rfl, rfl, rfl, n2, f2⟩ := h
  have h0 := (f2.2 0 (by omega)).trans h0
  refine zw_aload_n z27_36 rfl ?_
  refine zw_iconst z27_37 (v := iI (-1)) rfl ?_
  refine zj_putf z27_38 h0 (Nat.le_of_ble_eq_true rfl) (by rfl) (fun w3 n3 f3 => ?_)
  have k3 : ∀ j, 11 ≤ j → zi_get w3 j = zi_get w j := fun j hj => (f3.2 j (by omega)).trans ((f2.2 j (by omega)).trans (f1.2 j (by omega)))
  refine zw_vret z27_41 rfl ⟨_, rfl, rfl, rfl, rfl, ?_, ((f1.sub fun j hj => by omega).trans (f2.sub fun j hj => by omega)).step f3 (by omega)⟩
  unfold tBring
  rw [hlo]
  exact ⟨n3, (f3.2 1 (by omega)).trans ((f2.2 1 (by omega)).trans ((f1.2 1 (by omega)).trans hg)), lyA.keep n1 fun j h1 h2 => (f3.2 j (by omega)).trans (f2.2 j (by omega)), lgA.keep n2 fun j h1 h2 => f3.2 j (by omega), seT_keep hs fun j h1 h2 => k3 j (by omega), (k3 816 (by omega)).trans hr⟩
abbrev tAlw (T : TT) (z y m : Int) : Prop := lAlw T.G (T.Y 0) (T.Y 1) (T.Y 2) z y m
theorem alw_le {G b t h : Nat → Int} (h : lAlw G b t h z y m) : 1 ≤ m ∧ m ≤ 13 := by
  unfold lAlw at h
  split at h
  · omega
  · have := lRow_rng (G := G) (b := b) (t := t) (z := z)
    obtain ⟨h1, h2, h3, h4, h5, h6⟩ := h
    omega
def tMove (T : TT) (z y m : Int) : zi_O × TT := if gPla T.G z ∧ gPla T.G y ∧ z ≠ 12 ∧ 1 ≤ m then (if T.Y 3 0 = gAll T.G ∧ tAlw T z y m then (oI ((tBring T z y m).Y 3 1), tBring T z y m) else (.inr 1, T)) else (.inr 0, T)
theorem sp_move (h : ptA w T) (hV : ptV T) (hz : iR z) (hy2 : iR y) (hm : iR m) (hB : gPla T.G z → z ≠ 12 → gPla T.G y → T.Y 3 0 = gAll T.G → tAlw T z y m → okB T z y m) (hd : 6 ≤ d) (hq : 112 ≤ q) : zt L xs d q 14 [.ref 0, iV z, iV y, iV m] w cn sn (tO w cn sn (tMove T z y m)) := by
  obtain ⟨d, rfl⟩ : ∃ e, d = e + 1 := ⟨d - 1, by omega⟩
  have hT := h
  obtain ⟨h0, hg, hy, hp, hs, hr⟩ := h
  unfold ptO at h0
  have hg' := hg
  unfold gmA at hg'
  have y0 := hy.1
  have hG := hV.1
  have hG' := hG
  unfold gmV at hG'
  refine ⟨_, rfl, ?_⟩
  show zw _ _ _ _ 14 0 [some (.ref 0), some (iV z), some (iV y), some (iV m)] [] _ _ _ _
  have kf : ¬ (gPla T.G z ∧ gPla T.G y ∧ z ≠ 12 ∧ 1 ≤ m) → zw L xs (d + 1) q 14 33 [some (.ref 0), some (iV z), some (iV y), some (iV m)] [] w cn sn (tO w cn sn (tMove T z y m)) := by
    intro hn
    refine zw_thr (ex := 0) rfl (by omega) (by omega) ?_
    rw [show tMove T z y m = (.inr 0, T) from if_neg hn]
    exact ⟨rfl, rfl, rfl, hT, zF.rf⟩
  refine zw_aload_n z14_0 rfl ?_
  refine zw_getf z14_1 (by assumption) (by rfl) ?_
  refine zw_iload_n z14_4 rfl ?_
  refine zw_vv (n := 2) z14_5 rfl rfl (by assumption) (Nat.le_of_ble_eq_true rfl) (by omega) (sp_isPlace hg hG hz (by omega) (by omega)) ?_
  refine zj_b_eq z14_8 (fun h1 => ?_) (fun h1 => ?_)
  · exact kf (fun h => h1 h.1)
  refine zw_aload_n z14_11 rfl ?_
  refine zw_getf z14_12 (by assumption) (by rfl) ?_
  refine zw_iload_n z14_15 rfl ?_
  refine zw_vv (n := 2) z14_16 rfl rfl (by assumption) (Nat.le_of_ble_eq_true rfl) (by omega) (sp_isPlace hg hG hy2 (by omega) (by omega)) ?_
  refine zj_b_eq z14_19 (fun h2 => ?_) (fun h2 => ?_)
  · exact kf (fun h => h2 h.2.1)
  refine zw_iload_n z14_22 rfl ?_
  refine zw_bipush z14_23 (v := iI (12)) (by decide +kernel) ?_
  refine zj_icmp_eq z14_25 (by omega) (by omega) (fun h3 => ?_) (fun h3 => ?_)
  · exact kf (fun h => h.2.2.1 h3)
  refine zw_iload_n z14_28 rfl ?_
  refine zw_iconst z14_29 (v := iI 1) rfl ?_
  refine zj_icmp_ge z14_30 (by omega) (by omega) (fun h4 => ?_) (fun h4 => ?_)
  rotate_left
  · exact kf (fun h => by omega)
  have kg : ¬ (T.Y 3 0 = gAll T.G ∧ tAlw T z y m) → zw L xs (d + 1) q 14 66 [some (.ref 0), some (iV z), some (iV y), some (iV m)] [] w cn sn (tO w cn sn (tMove T z y m)) := by
    intro hn
    refine zw_thr (ex := 1) rfl (by omega) (by omega) ?_
    rw [show tMove T z y m = (.inr 1, T) from (if_pos ⟨h1, h2, h3, h4⟩).trans (if_neg hn)]
    exact ⟨rfl, rfl, rfl, hT, zF.rf⟩
  refine zw_aload_n z14_43 rfl ?_
  refine zw_getf z14_44 (by assumption) (by rfl) ?_
  refine zw_vv (n := 1) z14_47 rfl rfl (by assumption) (Nat.le_of_ble_eq_true rfl) (by omega) (sp_isAllLaid hg hG hy hV.2.1 (by omega) (by omega)) ?_
  refine zj_b_eq z14_50 (fun h5 => ?_) (fun h5 => ?_)
  · exact kg (fun h => h5 h.1)
  refine zw_aload_n z14_53 rfl ?_
  refine zw_getf z14_54 (by assumption) (by rfl) ?_
  refine zw_iload_n z14_57 rfl ?_
  refine zw_iload_n z14_58 rfl ?_
  refine zw_iload_n z14_59 rfl ?_
  refine zw_vv (n := 4) z14_60 rfl rfl (by assumption) (Nat.le_of_ble_eq_true rfl) (by omega) (sp_allows hg hG hy hV.2.1 (by omega) (by omega) hm (by omega) (by omega)) ?_
  refine zj_b_ne z14_63 (fun h6 => ?_) (fun h6 => ?_)
  rotate_left
  · exact kg (fun h => h6 h.2)
  refine zw_aload_n z14_76 rfl ?_
  refine zw_iload_n z14_77 rfl ?_
  refine zw_iload_n z14_78 rfl ?_
  refine zw_iload_n z14_79 rfl ?_
  refine zw_cv (n := 5) z14_80 rfl rfl h0 (Nat.le_of_ble_eq_true rfl) (by omega) (sp_bring hT hV (by omega) (by omega) (alw_le h6) (hB h1 h3 h2 h5 h6) (by omega) (by omega)) (fun v w1 cn1 sn1 h => ?_)
  obtain ⟨rfl, rfl, rfl, n1, f1⟩ := h
  have m0 : zi_get w1 0 = some (.inr (0, [.ref 1, .ref 2, .ref 6, .ref 11, .ref 816, iV (tBring T z y m).hi])) := n1.1
  have m2 := n1.2.2.1.1
  refine zw_aload_n z14_83 rfl ?_
  refine zw_getf z14_84 (by assumption) (by rfl) ?_
  refine zw_getf z14_87 (by assumption) (by rfl) ?_
  refine zw_iret z14_90 rfl ?_
  rw [show tMove T z y m = _ from (if_pos ⟨h1, h2, h3, h4⟩).trans (if_pos ⟨h5, h6⟩)]
  exact ⟨rfl, rfl, rfl, n1, f1⟩
abbrev tAm (T : TT) (z y : Int) : Int := if gCol T.G z ∧ gCol T.G y then lMB T.G (T.Y 0) (T.Y 1) (T.Y 2) z y else 1
def tPl (T : TT) (z y m : Int) : zi_O × TT := if gPla T.G z ∧ gPla T.G y ∧ z ≠ 12 then (if T.Y 3 0 = gAll T.G ∧ tAlw T z y m then (oI m, tBring T z y m) else (.inr 1, T)) else (.inr 0, T)
abbrev tPlay (T : TT) (a b : Int) : zi_O × TT := tPl T (lTold a) (lTold b) (tAm T (lTold a) (lTold b))
theorem lMb_rng {G b t h : Nat → Int} : ∀ n : Nat, 0 ≤ lMb G b t h z y n ∧ lMb G b t h z y n ≤ n := by
  intro n
  induction n with
  | zero => exact ⟨Int.le_refl _, Int.le_refl _⟩
  | succ n ih =>
    unfold lMb
    split <;> omega
theorem lTold_rng : -1 ≤ lTold z ∧ lTold z ≤ 12 := by
  unfold lTold
  split
  · omega
  · split
    · omega
    · split <;> omega
theorem sp_play (h : ptA w T) (hV : ptV T) (ha : 0 ≤ a ∧ a ≤ 65535) (hb : 0 ≤ b ∧ b ≤ 65535) (hB : ∀ z y m, gPla T.G z → z ≠ 12 → gPla T.G y → T.Y 3 0 = gAll T.G → tAlw T z y m → okB T z y m) (hd : 6 ≤ d) (hq : 135 ≤ q) : zt L xs d q 15 [.ref 0, iV a, iV b] w cn sn (tO w cn sn (tPlay T a b)) := by
  obtain ⟨d, rfl⟩ : ∃ e, d = e + 1 := ⟨d - 1, by omega⟩
  have hT := h
  obtain ⟨h0, hg, hy, hp, hs, hr⟩ := h
  unfold ptO at h0
  have hg' := hg
  unfold gmA at hg'
  have y0 := hy.1
  have hG := hV.1
  have hG' := hG
  unfold gmV at hG'
  unfold tPlay
  refine ⟨_, rfl, ?_⟩
  show zw _ _ _ _ 15 0 [some (.ref 0), some (iV a), some (iV b), none, none, none] [] _ _ _ _
  refine zw_iload_n z15_0 rfl ?_
  refine zw_vs (n := 1) z15_1 rfl rfl (Nat.le_of_ble_eq_true rfl) (by omega) (sp_placeTold ha) ?_
  refine zw_istore_n z15_4 rfl ?_
  refine zw_iload_n z15_5 rfl ?_
  refine zw_vs (n := 1) z15_6 rfl rfl (Nat.le_of_ble_eq_true rfl) (by omega) (sp_placeTold hb) ?_
  have hz := lTold_rng (z := a)
  have hy2 := lTold_rng (z := b)
  generalize lTold a = z at *
  generalize lTold b = y at *
  refine zw_istore z15_9 rfl ?_
  have kf : ¬ (gPla T.G z ∧ gPla T.G y ∧ z ≠ 12) → zw L xs (d + 1) q 15 40 [some (.ref 0), some (iV a), some (iV b), some (iV z), some (iV y), none] [] w cn sn (tO w cn sn (tPl T z y (tAm T z y))) := by
    intro hn
    refine zw_thr (ex := 0) rfl (by omega) (by omega) ?_
    rw [show tPl T z y (tAm T z y) = (.inr 0, T) from if_neg hn]
    exact ⟨rfl, rfl, rfl, hT, zF.rf⟩
  refine zw_aload_n z15_11 rfl ?_
  refine zw_getf z15_12 (by assumption) (by rfl) ?_
  refine zw_iload_n z15_15 rfl ?_
  refine zw_vv (n := 2) z15_16 rfl rfl (by assumption) (Nat.le_of_ble_eq_true rfl) (by omega) (sp_isPlace hg hG (by omega) (by omega) (by omega)) ?_
  refine zj_b_eq z15_19 (fun h1 => ?_) (fun h1 => ?_)
  · exact kf (fun h => h1 h.1)
  refine zw_aload_n z15_22 rfl ?_
  refine zw_getf z15_23 (by assumption) (by rfl) ?_
  refine zw_iload z15_26 rfl ?_
  refine zw_vv (n := 2) z15_28 rfl rfl (by assumption) (Nat.le_of_ble_eq_true rfl) (by omega) (sp_isPlace hg hG (by omega) (by omega) (by omega)) ?_
  refine zj_b_eq z15_31 (fun h2 => ?_) (fun h2 => ?_)
  · exact kf (fun h => h2 h.2.1)
  refine zw_iload_n z15_34 rfl ?_
  refine zw_bipush z15_35 (v := iI (12)) (by decide +kernel) ?_
  refine zj_icmp_ne z15_37 (by omega) (by omega) (fun h3 => ?_) (fun h3 => ?_)
  rotate_left
  · exact kf (fun h => h.2.2 (by omega))
  have km : ∀ m, m = tAm T z y → zw L xs (d + 1) q 15 87 [some (.ref 0), some (iV a), some (iV b), some (iV z), some (iV y), none] [iV m] w cn sn (tO w cn sn (tPl T z y (tAm T z y))) := by
    intro m hm
    have hmr : 0 ≤ m ∧ m ≤ 13 := by
      rw [hm]
      unfold tAm
      split
      · have r1 := lMb_rng (G := T.G) (b := T.Y 0) (t := T.Y 1) (h := T.Y 2) (z := z) (y := y) (lRow T.G (T.Y 0) (T.Y 1) z).toNat
        have r2 := lRow_rng (G := T.G) (b := T.Y 0) (t := T.Y 1) (z := z)
        unfold lMB
        omega
      · omega
    rw [← hm]
    have kg : ¬ (T.Y 3 0 = gAll T.G ∧ tAlw T z y m) → zw L xs (d + 1) q 15 114 [some (.ref 0), some (iV a), some (iV b), some (iV z), some (iV y), some (iV m)] [] w cn sn (tO w cn sn (tPl T z y m)) := by
      intro hn
      refine zw_thr (ex := 1) rfl (by omega) (by omega) ?_
      rw [show tPl T z y m = (.inr 1, T) from (if_pos ⟨h1, h2, h3⟩).trans (if_neg hn)]
      exact ⟨rfl, rfl, rfl, hT, zF.rf⟩
    refine zw_istore z15_87 rfl ?_
    refine zw_aload_n z15_89 rfl ?_
    refine zw_getf z15_90 (by assumption) (by rfl) ?_
    refine zw_vv (n := 1) z15_93 rfl rfl (by assumption) (Nat.le_of_ble_eq_true rfl) (by omega) (sp_isAllLaid hg hG hy hV.2.1 (by omega) (by omega)) ?_
    refine zj_b_eq z15_96 (fun h5 => ?_) (fun h5 => ?_)
    · exact kg (fun h => h5 h.1)
    refine zw_aload_n z15_99 rfl ?_
    refine zw_getf z15_100 (by assumption) (by rfl) ?_
    refine zw_iload_n z15_103 rfl ?_
    refine zw_iload z15_104 rfl ?_
    refine zw_iload z15_106 rfl ?_
    refine zw_vv (n := 4) z15_108 rfl rfl (by assumption) (Nat.le_of_ble_eq_true rfl) (by omega) (sp_allows hg hG hy hV.2.1 (by omega) (by omega) (by omega) (by omega) (by omega)) ?_
    refine zj_b_ne z15_111 (fun h6 => ?_) (fun h6 => ?_)
    rotate_left
    · exact kg (fun h => h6 h.2)
    refine zw_aload_n z15_124 rfl ?_
    refine zw_iload_n z15_125 rfl ?_
    refine zw_iload z15_126 rfl ?_
    refine zw_iload z15_128 rfl ?_
    refine zw_cv (n := 5) z15_130 rfl rfl h0 (Nat.le_of_ble_eq_true rfl) (by omega) (sp_bring hT hV (by omega) (by omega) (alw_le h6) (hB z y m h1 h3 h2 h5 h6) (by omega) (by omega)) (fun v w1 cn1 sn1 h => ?_)
    obtain ⟨rfl, rfl, rfl, n1, f1⟩ := h
    refine zw_iload z15_133 rfl ?_
    refine zw_iret z15_135 rfl ?_
    rw [show tPl T z y m = _ from (if_pos ⟨h1, h2, h3⟩).trans (if_pos ⟨h5, h6⟩)]
    exact ⟨rfl, rfl, rfl, n1, f1⟩
  refine zw_aload_n z15_50 rfl ?_
  refine zw_getf z15_51 (by assumption) (by rfl) ?_
  refine zw_iload_n z15_54 rfl ?_
  refine zw_vv (n := 2) z15_55 rfl rfl (by assumption) (Nat.le_of_ble_eq_true rfl) (by omega) (sp_isColumn hg hG (by omega)) ?_
  refine zj_b_eq z15_58 (fun h7 => ?_) (fun h7 => ?_)
  · refine zw_iconst z15_86 (v := iI 1) rfl ?_
    exact km 1 (if_neg fun h => h7 h.1).symm
  refine zw_aload_n z15_61 rfl ?_
  refine zw_getf z15_62 (by assumption) (by rfl) ?_
  refine zw_iload z15_65 rfl ?_
  refine zw_vv (n := 2) z15_67 rfl rfl (by assumption) (Nat.le_of_ble_eq_true rfl) (by omega) (sp_isColumn hg hG (by omega)) ?_
  refine zj_b_eq z15_70 (fun h8 => ?_) (fun h8 => ?_)
  · refine zw_iconst z15_86 (v := iI 1) rfl ?_
    exact km 1 (if_neg fun h => h8 h.2).symm
  refine zw_aload_n z15_73 rfl ?_
  refine zw_getf z15_74 (by assumption) (by rfl) ?_
  refine zw_iload_n z15_77 rfl ?_
  refine zw_iload z15_78 rfl ?_
  refine zw_vv (n := 4) z15_80 rfl rfl (by assumption) (Nat.le_of_ble_eq_true rfl) (by omega) (sp_mostBetween hg hG hy hV.2.1 (by omega) (by omega) (by omega) (by omega)) ?_
  refine zw_goto z15_83 ?_
  exact km _ (if_pos ⟨h7, h8⟩).symm
def tUndo (T : TT) : zi_O × TT := if T.P 4 1 = 0 then (.inr 2, T) else (oI (T.P 3 (lgPv (T.P 4 0)).toNat), TT.mk T.G (cY T.G T.Y (T.P 0 (lgPv (T.P 4 0)).toNat) (T.P 2 (lgPv (T.P 4 0)).toNat) (T.P 1 (lgPv (T.P 4 0)).toNat)) (pN T.P (lgPv (T.P 4 0)) (T.P 4 1 - 1)) T.S T.R (-1))
/-- what must hold so that the latest move can be taken back -/
def okU (T : TT) (l : Nat) : Prop := ¬ (T.P 2 l = 12 ∧ T.P 1 l = 12) ∧ (T.P 2 l < 8 → -1 ≤ T.Y 0 (T.P 0 l).toNat) ∧ (T.P 2 l = 12 → 1 ≤ T.Y 2 (gSuit T.G (T.P 0 l)).toNat) ∧ (T.P 1 l = 12 → T.Y 2 (gSuit T.G (T.P 0 l)).toNat ≤ 12)
theorem sp_undo (h : ptA w T) (hV : ptV T) (hB : ¬ T.P 4 1 = 0 → okU T (lgPv (T.P 4 0)).toNat) (hd : 6 ≤ d) (hq : 90 ≤ q) : zt L xs d q 17 [.ref 0] w cn sn (tO w cn sn (tUndo T)) := by
  obtain ⟨d, rfl⟩ : ∃ e, d = e + 1 := ⟨d - 1, by omega⟩
  have hT := h
  obtain ⟨h0, hg, hy, hp, hs, hr⟩ := h
  unfold ptO at h0
  have y0 := hy.1
  have p0 := hp.1
  have hG := hV.1
  have hPV := hV.2.2.1
  obtain ⟨r1, r2, r3, r4, r5, r6⟩ := hPV
  have hl : 0 ≤ lgPv (T.P 4 0) ∧ lgPv (T.P 4 0) < 60 := by
    unfold lgPv
    split <;> omega
  refine ⟨_, rfl, ?_⟩
  show zw _ _ _ _ 17 0 [some (.ref 0), none] [] _ _ _ _
  refine zw_aload_n z17_0 rfl ?_
  refine zw_getf z17_1 (by assumption) (by rfl) ?_
  refine zw_getf z17_4 (by assumption) (by rfl) ?_
  refine zj_if_ne z17_7 (by omega) (fun h1 => ?_) (fun h1 => ?_)
  rotate_left
  · refine zw_thr (ex := 2) rfl (by omega) (by omega) ?_
    rw [show tUndo T = (.inr 2, T) from if_pos (by omega)]
    exact ⟨rfl, rfl, rfl, hT, zF.rf⟩
  rw [show tUndo T = _ from if_neg h1]
  obtain ⟨o1, o2, o3, o4⟩ := hB h1
  refine zw_aload_n z17_20 rfl ?_
  refine zw_getf z17_21 (by assumption) (by rfl) ?_
  refine zw_cv (n := 1) z17_24 rfl rfl p0 (Nat.le_of_ble_eq_true rfl) (by omega) (sp_takeLatest hp hV.2.2.1) (fun v w1 cn1 sn1 h => ?_)
  obtain ⟨rfl, rfl, rfl, n1, f1⟩ := h
  generalize hpv : lgPv (T.P 4 0) = l at *
  have h0 := (f1.2 0 (by omega)).trans h0
  have y0 := (f1.2 2 (by omega)).trans y0
  have hy1 := lyA.keep (w' := w1) hy fun j h1 h2 => f1.2 j (by omega)
  have hg1 : gmA w1 1 T.G := (f1.2 1 (by omega)).trans hg
  obtain ⟨p0, p1, p2, p3, p4⟩ := n1
  have c1 := r1 l.toNat
  have c2 := r2 l.toNat
  have c3 := r3 l.toNat
  refine zw_istore_n z17_27 rfl ?_
  refine zw_aload_n z17_28 rfl ?_
  refine zw_getf z17_29 (by assumption) (by rfl) ?_
  refine zw_aload_n z17_32 rfl ?_
  refine zw_getf z17_33 (by assumption) (by rfl) ?_
  refine zw_getf z17_36 (by assumption) (by rfl) ?_
  refine zw_iload_n z17_39 rfl ?_
  refine zj_ald z17_40 p1 hl (by decide) ?_
  refine zw_aload_n z17_41 rfl ?_
  refine zw_getf z17_42 (by assumption) (by rfl) ?_
  refine zw_getf z17_45 (by assumption) (by rfl) ?_
  refine zw_iload_n z17_48 rfl ?_
  refine zj_ald z17_49 p3 hl (by decide) ?_
  refine zw_aload_n z17_50 rfl ?_
  refine zw_getf z17_51 (by assumption) (by rfl) ?_
  refine zw_getf z17_54 (by assumption) (by rfl) ?_
  refine zw_iload_n z17_57 rfl ?_
  refine zj_ald z17_58 p2 hl (by decide) ?_
  refine zw_cv (n := 6) z17_59 rfl rfl y0 (Nat.le_of_ble_eq_true rfl) (by omega) (sp_carry hg1 hG hy1 hV.2.1 (by omega) (by omega) (by omega) (by omega) o1 o2 o3 o4 (by omega) (by omega)) (fun v w2 cn2 sn2 h => ?_)
  obtain ⟨rfl, rfl, rfl, n2, f2⟩ := h
  have h0 := (f2.2 0 (by omega)).trans h0
  refine zw_aload_n z17_62 rfl ?_
  refine zw_iconst z17_63 (v := iI (-1)) rfl ?_
  refine zj_putf z17_64 h0 (Nat.le_of_ble_eq_true rfl) (by rfl) (fun w3 n3 f3 => ?_)
  have k3 : ∀ j, 6 ≤ j → zi_get w3 j = zi_get w1 j := fun j hj => (f3.2 j (by omega)).trans (f2.2 j (by omega))
  have p0 := (k3 6 (by omega)).trans p0
  have p1 := (k3 7 (by omega)).trans p1
  have p2 := (k3 8 (by omega)).trans p2
  have p3 := (k3 9 (by omega)).trans p3
  have p4 := (k3 10 (by omega)).trans p4
  refine zw_aload_n z17_67 rfl ?_
  refine zw_getf z17_68 (by assumption) (by rfl) ?_
  refine zw_getf z17_71 (by assumption) (by rfl) ?_
  refine zw_iload_n z17_74 rfl ?_
  refine zj_ald z17_75 p4 hl (by decide) ?_
  refine zw_iret z17_76 rfl ⟨rfl, rfl, rfl, ⟨n3, (f3.2 1 (by omega)).trans ((f2.2 1 (by omega)).trans hg1), lyA.keep n2 fun j h1 h2 => f3.2 j (by omega), ⟨p0, p1, p2, p3, p4⟩, seT_keep hs fun j h1 h2 => (k3 j (by omega)).trans (f1.2 j (by omega)), (k3 816 (by omega)).trans ((f1.2 816 (by omega)).trans hr)⟩, ((f1.sub fun j hj => by omega).trans (f2.sub fun j hj => by omega)).step f3 (by omega)⟩
theorem sp_log (h : ptA w T) : zv d q 18 [.ref 0] w (iI (T.P 4 1)) := by
  intro L xs cn sn
  obtain ⟨h0, hg, hy, hp, hs, hr⟩ := h
  unfold ptO at h0
  have p0 := hp.1
  refine ⟨_, rfl, ?_⟩
  show zw _ _ _ _ 18 0 [some (.ref 0)] [] _ _ _ _
  refine zw_aload_n z18_0 rfl ?_
  refine zw_getf z18_1 (by assumption) (by rfl) ?_
  refine zw_getf z18_4 (by assumption) (by rfl) ?_
  refine zw_iret z18_7 rfl ?_
  exact zv_end rfl
theorem sp_hint (h : ptA w T) : zv d q 23 [.ref 0] w (iI T.hi) := by
  intro L xs cn sn
  have h0 := h.1
  unfold ptO at h0
  refine ⟨_, rfl, ?_⟩
  show zw _ _ _ _ 23 0 [some (.ref 0)] [] _ _ _ _
  refine zw_aload_n z23_0 rfl ?_
  refine zw_getf z23_1 (by assumption) (by rfl) ?_
  refine zw_iret z23_4 rfl ?_
  exact zv_end rfl
theorem sp_positions (h : ptA w T) : zv d q 24 [.ref 0] w (iI (T.S.1 4)) := by
  intro L xs cn sn
  obtain ⟨h0, hg, hy, hp, hs, hr⟩ := h
  unfold ptO at h0
  have s0 := hs.1.1
  refine ⟨_, rfl, ?_⟩
  show zw _ _ _ _ 24 0 [some (.ref 0)] [] _ _ _ _
  refine zw_aload_n z24_0 rfl ?_
  refine zw_getf z24_1 (by assumption) (by rfl) ?_
  refine zw_getf z24_4 (by assumption) (by rfl) ?_
  refine zw_iret z24_7 rfl ?_
  exact zv_end rfl
end ZPL
end
section
/-! The class PatienceTable: sendHome, card, size, most, look, deal. (Laid out by gen/tpl.py from tpl/56.look.tpl.) -/
section ZPK
variable {L : Nat} {xs : Nat → Int32} {d q : Nat} {w : zi_W} {cn sn : Nat} {Q : zi_O → zi_W → Nat → Nat → Prop} {T : TT} {z y m c a b e f u : Int}
abbrev tSize (T : TT) (z : Int) : Int := if gPla T.G z then lHei (T.Y 0) (T.Y 1) (T.Y 3 1) z else -1
abbrev tCard (T : TT) (z k : Int) : Int := if gPla T.G z ∧ 0 ≤ k then (if z = 12 then lTop T.G (T.Y 2) k else lCard (T.Y 0) (T.Y 1) z (lHei (T.Y 0) (T.Y 1) (T.Y 3 1) z - 1 - k)) else -1
abbrev tMost (T : TT) (z y : Int) : Int := if gCol T.G z ∧ gCol T.G y ∧ T.Y 3 0 = gAll T.G then lMB T.G (T.Y 0) (T.Y 1) (T.Y 2) z y else 0
theorem lHt_rng {b : Nat → Int} : ∀ (n : Nat) (c : Int), 0 ≤ lHt b n c ∧ lHt b n c ≤ n := by
  intro n
  induction n with
  | zero => intro c; exact ⟨Int.le_refl _, Int.le_refl _⟩
  | succ n ih =>
    intro c
    have := ih (b c.toNat)
    by_cases h : c < 0
    · rw [lHt_e h]; omega
    · rw [lHt_s h]; omega
theorem lHei_rng {b t h : Nat → Int} {la ah : Int} (hV : lyV b t h la ah) : 0 ≤ lHei b t ah z ∧ lHei b t ah z ≤ 52 := by
  have := lHt_rng (b := b) 52 (t z.toNat)
  have := hV.2.2.2.2
  unfold lHei
  split <;> omega
theorem sp_size (h : ptA w T) (hV : ptV T) (hz : iR z) (hd : 3 ≤ d) (hq : 45 ≤ q) : zv d q 20 [.ref 0, iV z] w (iI (tSize T z)) := by
  intro L xs cn sn
  obtain ⟨d, rfl⟩ : ∃ e, d = e + 1 := ⟨d - 1, by omega⟩
  obtain ⟨h0, hg, hy, hp, hs, hr⟩ := h
  unfold ptO at h0
  have hg' := hg
  unfold gmA at hg'
  have y0 := hy.1
  have hG := hV.1
  have hG' := hG
  unfold gmV at hG'
  refine ⟨_, rfl, ?_⟩
  show zw _ _ _ _ 20 0 [some (.ref 0), some (iV z)] [] _ _ _ _
  refine zw_aload_n z20_0 rfl ?_
  refine zw_getf z20_1 (by assumption) (by rfl) ?_
  refine zw_iload_n z20_4 rfl ?_
  refine zw_vv (n := 2) z20_5 rfl rfl (by assumption) (Nat.le_of_ble_eq_true rfl) (by omega) (sp_isPlace hg hG hz (by omega) (by omega)) ?_
  refine zj_b_eq z20_8 (fun h1 => ?_) (fun h1 => ?_)
  · refine zw_iconst z20_22 (v := iI (-1)) rfl ?_
    refine zw_iret z20_23 rfl ?_
    exact zv_end (by unfold tSize; rw [if_neg h1])
  · refine zw_aload_n z20_11 rfl ?_
    refine zw_getf z20_12 (by assumption) (by rfl) ?_
    refine zw_iload_n z20_15 rfl ?_
    refine zw_vv (n := 4) z20_16 rfl rfl (by assumption) (Nat.le_of_ble_eq_true rfl) (by omega) (sp_heightOf hy hV.2.1 (by omega)) ?_
    refine zw_goto z20_19 ?_
    refine zw_iret z20_23 rfl ?_
    exact zv_end (by unfold tSize; rw [if_pos h1])
theorem sp_card {k : Int} (h : ptA w T) (hV : ptV T) (hz : iR z) (hk : iR k) (hd : 3 ≤ d) (hq : 45 ≤ q) : zv d q 19 [.ref 0, iV z, iV k] w (iI (tCard T z k)) := by
  intro L xs cn sn
  obtain ⟨d, rfl⟩ : ∃ e, d = e + 1 := ⟨d - 1, by omega⟩
  obtain ⟨h0, hg, hy, hp, hs, hr⟩ := h
  unfold ptO at h0
  have hg' := hg
  unfold gmA at hg'
  have y0 := hy.1
  have hG := hV.1
  have hG' := hG
  unfold gmV at hG'
  have r1 := lHei_rng (z := z) hV.2.1
  refine ⟨_, rfl, ?_⟩
  show zw _ _ _ _ 19 0 [some (.ref 0), some (iV z), some (iV k)] [] _ _ _ _
  refine zw_aload_n z19_0 rfl ?_
  refine zw_getf z19_1 (by assumption) (by rfl) ?_
  refine zw_iload_n z19_4 rfl ?_
  refine zw_vv (n := 2) z19_5 rfl rfl (by assumption) (Nat.le_of_ble_eq_true rfl) (by omega) (sp_isPlace hg hG hz (by omega) (by omega)) ?_
  refine zj_b_eq z19_8 (fun h1 => ?_) (fun h1 => ?_)
  · refine zw_iconst z19_15 (v := iI (-1)) rfl ?_
    refine zw_iret z19_16 rfl ?_
    exact zv_end (by unfold tCard; rw [if_neg fun h => h1 h.1])
  refine zw_iload_n z19_11 rfl ?_
  refine zj_if_ge z19_12 (by omega) (fun h2 => ?_) (fun h2 => ?_)
  rotate_left
  · refine zw_iconst z19_15 (v := iI (-1)) rfl ?_
    refine zw_iret z19_16 rfl ?_
    exact zv_end (by unfold tCard; rw [if_neg fun h => h2 h.2])
  refine zw_iload_n z19_17 rfl ?_
  refine zw_bipush z19_18 (v := iI (12)) (by decide +kernel) ?_
  refine zj_icmp_ne z19_20 (by omega) (by omega) (fun h3 => ?_) (fun h3 => ?_)
  · refine zw_aload_n z19_34 rfl ?_
    refine zw_getf z19_35 (by assumption) (by rfl) ?_
    refine zw_iload_n z19_38 rfl ?_
    refine zw_aload_n z19_39 rfl ?_
    refine zw_getf z19_40 (by assumption) (by rfl) ?_
    refine zw_iload_n z19_43 rfl ?_
    refine zw_vv (n := 4) z19_44 rfl rfl (by assumption) (Nat.le_of_ble_eq_true rfl) (by omega) (sp_heightOf hy hV.2.1 (by omega)) ?_
    refine zw_iconst z19_47 (v := iI 1) rfl ?_
    refine zj_sub z19_48 ?_
    refine zw_iload_n z19_49 rfl ?_
    refine zj_sub z19_50 ?_
    refine zw_vv (n := 5) z19_51 rfl rfl (by assumption) (Nat.le_of_ble_eq_true rfl) (by omega) (sp_cardFromTop hy hV.2.1 (by omega) (by omega)) ?_
    refine zw_iret z19_54 rfl ?_
    exact zv_end (by unfold tCard; rw [if_pos ⟨h1, h2⟩, if_neg h3])
  · refine zw_aload_n z19_23 rfl ?_
    refine zw_getf z19_24 (by assumption) (by rfl) ?_
    refine zw_iload_n z19_27 rfl ?_
    refine zw_vv (n := 2) z19_28 rfl rfl (by assumption) (Nat.le_of_ble_eq_true rfl) (by omega) (sp_topAtHome hg hG hy hV.2.1 (by omega)) ?_
    refine zw_goto z19_31 ?_
    refine zw_iret z19_54 rfl ?_
    exact zv_end (by unfold tCard; rw [if_pos ⟨h1, h2⟩, if_pos (show z = 12 by omega)])
theorem sp_most (h : ptA w T) (hV : ptV T) (hz : iR z) (hy2 : iR y) (hd : 6 ≤ d) (hq : 135 ≤ q) : zv d q 21 [.ref 0, iV z, iV y] w (iI (tMost T z y)) := by
  intro L xs cn sn
  obtain ⟨d, rfl⟩ : ∃ e, d = e + 1 := ⟨d - 1, by omega⟩
  obtain ⟨h0, hg, hy, hp, hs, hr⟩ := h
  unfold ptO at h0
  have hg' := hg
  unfold gmA at hg'
  have y0 := hy.1
  have hG := hV.1
  have hG' := hG
  unfold gmV at hG'
  refine ⟨_, rfl, ?_⟩
  show zw _ _ _ _ 21 0 [some (.ref 0), some (iV z), some (iV y)] [] _ _ _ _
  have kf : ¬ (gCol T.G z ∧ gCol T.G y ∧ T.Y 3 0 = gAll T.G) → zw L xs (d + 1) q 21 32 [some (.ref 0), some (iV z), some (iV y)] [] w cn sn (fun o w' cn' sn' => ∃ v, o = .inl v ∧ (v = some (.int (iI (tMost T z y))) ∧ w' = w ∧ cn' = cn ∧ sn' = sn)) := by
    intro hn
    refine zw_iconst z21_32 (v := iI 0) rfl ?_
    refine zw_iret z21_33 rfl ?_
    exact zv_end (by unfold tMost; rw [if_neg hn])
  refine zw_aload_n z21_0 rfl ?_
  refine zw_getf z21_1 (by assumption) (by rfl) ?_
  refine zw_iload_n z21_4 rfl ?_
  refine zw_vv (n := 2) z21_5 rfl rfl (by assumption) (Nat.le_of_ble_eq_true rfl) (by omega) (sp_isColumn hg hG hz) ?_
  refine zj_b_eq z21_8 (fun h1 => ?_) (fun h1 => ?_)
  · exact kf (fun h => h1 h.1)
  refine zw_aload_n z21_11 rfl ?_
  refine zw_getf z21_12 (by assumption) (by rfl) ?_
  refine zw_iload_n z21_15 rfl ?_
  refine zw_vv (n := 2) z21_16 rfl rfl (by assumption) (Nat.le_of_ble_eq_true rfl) (by omega) (sp_isColumn hg hG hy2) ?_
  refine zj_b_eq z21_19 (fun h2 => ?_) (fun h2 => ?_)
  · exact kf (fun h => h2 h.2.1)
  refine zw_aload_n z21_22 rfl ?_
  refine zw_getf z21_23 (by assumption) (by rfl) ?_
  refine zw_vv (n := 1) z21_26 rfl rfl (by assumption) (Nat.le_of_ble_eq_true rfl) (by omega) (sp_isAllLaid hg hG hy hV.2.1 (by omega) (by omega)) ?_
  refine zj_b_ne z21_29 (fun h3 => ?_) (fun h3 => ?_)
  rotate_left
  · exact kf (fun h => h3 h.2.2)
  refine zw_aload_n z21_34 rfl ?_
  refine zw_getf z21_35 (by assumption) (by rfl) ?_
  refine zw_iload_n z21_38 rfl ?_
  refine zw_iload_n z21_39 rfl ?_
  refine zw_vv (n := 4) z21_40 rfl rfl (by assumption) (Nat.le_of_ble_eq_true rfl) (by omega) (sp_mostBetween hg hG hy hV.2.1 (by omega) (by omega) (by omega) (by omega)) ?_
  refine zw_iret z21_43 rfl ?_
  exact zv_end (by unfold tMost; rw [if_pos ⟨h1, h2, h3⟩])
def tLook (T : TT) (u : Int) : zi_O × TT := if 1 ≤ u ∧ u ≤ 200 then (if T.Y 3 0 = gAll T.G then (oI (sk T.G T.S T.Y u).1, TT.mk T.G T.Y T.P (sk T.G T.S T.Y u).2 T.R ((sk T.G T.S T.Y u).2.1 3)) else (.inr 1, T)) else (.inr 0, T)
theorem sp_look {J : (Nat → Nat → Int) → Prop} (h : ptA w T) (hV : ptV T) (hu : iR u) (h1 : ∀ Y, J Y → lyW Y → okL T.G Y) (h2 : stJ T.G J) (h3 : T.Y 3 0 = gAll T.G → J (yCp T.Y (T.S.2.2 0))) (hd : 6 ≤ d) (hq : 152 ≤ q) : zt L xs d q 22 [.ref 0, iV u] w cn sn (fun o w' cn' sn' => tO w cn sn (tLook T u) o w' cn' sn' ∧ (1 ≤ u ∧ u ≤ 200 → T.Y 3 0 = gAll T.G → skI J (sk T.G T.S T.Y u).2)) := by
  obtain ⟨d, rfl⟩ : ∃ e, d = e + 1 := ⟨d - 1, by omega⟩
  have hT := h
  obtain ⟨h0, hg, hy, hp, hs, hr⟩ := h
  unfold ptO at h0
  have y0 := hy.1
  have s0 := hs.1.1
  have hG := hV.1
  refine ⟨_, rfl, ?_⟩
  show zw _ _ _ _ 22 0 [some (.ref 0), some (iV u), none] [] _ _ _ _
  refine zw_iload_n z22_0 rfl ?_
  refine zw_iconst z22_1 (v := iI 1) rfl ?_
  refine zw_sipush z22_2 (v := iI (200)) (by decide +kernel) ?_
  refine zw_vs (n := 3) z22_5 rfl rfl (Nat.le_of_ble_eq_true rfl) (by omega) (sp_isWithin hu (by omega) (by omega)) ?_
  refine zj_b_ne z22_8 (fun k1 => ?_) (fun k1 => ?_)
  rotate_left
  · refine zw_thr (ex := 0) rfl (by omega) (by omega) ?_
    rw [show tLook T u = (.inr 0, T) from if_neg k1]
    exact ⟨⟨rfl, rfl, rfl, hT, zF.rf⟩, fun h => absurd h k1⟩
  refine zw_aload_n z22_21 rfl ?_
  refine zw_getf z22_22 (by assumption) (by rfl) ?_
  refine zw_vv (n := 1) z22_25 rfl rfl (by assumption) (Nat.le_of_ble_eq_true rfl) (by omega) (sp_isAllLaid hg hG hy hV.2.1 (by omega) (by omega)) ?_
  refine zj_b_ne z22_28 (fun k2 => ?_) (fun k2 => ?_)
  rotate_left
  · refine zw_thr (ex := 1) rfl (by omega) (by omega) ?_
    rw [show tLook T u = (.inr 1, T) from (if_pos k1).trans (if_neg k2)]
    exact ⟨⟨rfl, rfl, rfl, hT, zF.rf⟩, fun _ h => absurd h k2⟩
  rw [show tLook T u = _ from (if_pos k1).trans (if_pos k2)]
  refine zw_aload_n z22_41 rfl ?_
  refine zw_getf z22_42 (by assumption) (by rfl) ?_
  refine zw_aload_n z22_45 rfl ?_
  refine zw_getf z22_46 (by assumption) (by rfl) ?_
  refine zw_iload_n z22_49 rfl ?_
  refine zw_cv (n := 6) z22_50 rfl rfl s0 (Nat.le_of_ble_eq_true rfl) (by omega) (sp_seek (J := J) hg hG hs hV.2.2.2.1 hy hV.2.1 k1 h1 h2 (h3 k2) (by omega) (by omega)) (fun v w1 cn1 sn1 h => ?_)
  obtain ⟨rfl, rfl, rfl, g1, g2, g3, g4, f1⟩ := h
  have h0 := (f1.2 0 (by omega)).trans h0
  have s1 := g2.1.1
  refine zw_istore_n z22_53 rfl ?_
  refine zw_aload_n z22_54 rfl ?_
  refine zw_aload_n z22_55 rfl ?_
  refine zw_getf z22_56 (by assumption) (by rfl) ?_
  refine zw_getf z22_59 (by assumption) (by rfl) ?_
  refine zj_putf z22_62 h0 (Nat.le_of_ble_eq_true rfl) (by rfl) (fun w2 n2 f2 => ?_)
  refine zw_iload_n z22_65 rfl ?_
  refine zw_iret z22_66 rfl ⟨⟨rfl, rfl, rfl, ⟨n2, (f2.2 1 (by omega)).trans g1, lyA.keep g4 fun j h1 h2 => f2.2 j (by omega), hp.keep fun j h1 h2 => (f2.2 j (by omega)).trans (f1.2 j (by omega)), seT_keep g2 fun j h1 h2 => f2.2 j (by omega), (f2.2 816 (by omega)).trans ((f1.2 816 (by omega)).trans hr)⟩, (f1.sub fun j hj => by omega).step f2 (by omega)⟩, fun _ _ => g3⟩
/-- sendHome: safe cards go home one by one -/
abbrev tPos (T : TT) : Int := lPos T.G (T.Y 1) (T.Y 2)
def tS : Nat → Int → TT → Int × TT
  | 0, s, T => (s, T)
  | k + 1, s, T => if tPos T = -1 then (s, T) else tS k (s + 1) (tBring T (tPos T) 12 1)
def tSend (T : TT) : zi_O × TT := if T.Y 3 0 = gAll T.G then (oI (tS 52 0 T).1, (tS 52 0 T).2) else (.inr 1, T)
theorem lFp_rng {G t h : Nat → Int} : ∀ (n : Nat) (p : Int), lFp G t h n p = -1 ∨ (p ≤ lFp G t h n p ∧ lFp G t h n p < p + n ∧ lTS G t h (lFp G t h n p)) := by
  intro n
  induction n with
  | zero => intro p; exact Or.inl rfl
  | succ n ih =>
    intro p
    by_cases h : lTS G t h p
    · rw [lFp_t h]; exact Or.inr ⟨by omega, by omega, h⟩
    · rw [lFp_f h]
      rcases ih (p + 1) with h1 | ⟨h1, h2, h3⟩
      · exact Or.inl h1
      · exact Or.inr ⟨by omega, by omega, h3⟩
theorem lPos_rng {G t h : Nat → Int} : lPos G t h = -1 ∨ (0 ≤ lPos G t h ∧ lPos G t h < 12 ∧ lTS G t h (lPos G t h)) := by
  unfold lPos
  split
  · rcases lFp_rng (G := G) (t := t) (h := h) 8 0 with h1 | ⟨h1, h2, h3⟩
    · exact Or.inl h1
    · exact Or.inr ⟨by omega, by omega, h3⟩
  · rcases lFp_rng (G := G) (t := t) (h := h) 4 8 with h1 | ⟨h1, h2, h3⟩
    · exact Or.inl h1
    · exact Or.inr ⟨by omega, by omega, h3⟩
theorem sp_sendLoop {I : TT → Prop} (hI1 : ∀ T, I T → ptV T) (hI2 : ∀ T, I T → ¬ tPos T = -1 → okB T (tPos T) 12 1 ∧ I (tBring T (tPos T) 12 1)) (hd : 6 ≤ d) (hq : 90 ≤ q) {R : Int × TT} (kk : ∀ w', ptA w' R.2 → I R.2 → zF ptS w w' → Q (oI R.1) w' cn sn) : ∀ (k : Nat) (s : Int) (T : TT) (w' : zi_W) (x2 : Option Value), s + k = 52 → 0 ≤ s → ptA w' T → I T → zF ptS w w' → R = tS k s T → zw L xs d q 16 22 [some (.ref 0), some (iV s), x2] [] w' cn sn Q := by
  obtain ⟨d, rfl⟩ : ∃ e, d = e + 1 := ⟨d - 1, by omega⟩
  intro k
  induction k with
  | zero =>
    intro s T w' x2 hk hs0 h hI hF he
    refine zw_iload_n z16_22 rfl ?_
    refine zw_bipush z16_23 (v := iI (52)) (by decide +kernel) ?_
    refine zj_icmp_ge z16_25 (by omega) (by omega) (fun h1 => ?_) (fun h1 => ?_)
    · refine zw_bipush z16_57 (v := iI (52)) (by decide +kernel) ?_
      refine zw_iret z16_59 rfl ?_
      have he : R = (s, T) := he
      obtain rfl : s = 52 := by omega
      subst he
      exact kk w' h hI hF
    · exfalso; omega
  | succ k ih =>
    intro s T w' x2 hk hs0 h hI hF he
    have hT := h
    obtain ⟨h0, hg, hy, hp, hs, hr⟩ := h
    unfold ptO at h0
    have y0 := hy.1
    have hV := hI1 T hI
    have hr1 := lPos_rng (G := T.G) (t := T.Y 1) (h := T.Y 2)
    refine zw_iload_n z16_22 rfl ?_
    refine zw_bipush z16_23 (v := iI (52)) (by decide +kernel) ?_
    refine zj_icmp_ge z16_25 (by omega) (by omega) (fun h1 => ?_) (fun h1 => ?_)
    · exfalso; omega
    refine zw_aload_n z16_28 rfl ?_
    refine zw_getf z16_29 (by assumption) (by rfl) ?_
    refine zw_vv (n := 2) z16_32 rfl rfl (by assumption) (Nat.le_of_ble_eq_true rfl) (by omega) (sp_placeOfSafe hg hV.1 hy hV.2.1 (by omega) (by omega)) ?_
    rw [show lPos T.G (T.Y 1) (T.Y 2) = tPos T from rfl] at hr1 ⊢
    refine zw_istore_n z16_35 rfl ?_
    refine zw_iload_n z16_36 rfl ?_
    refine zw_iconst z16_37 (v := iI (-1)) rfl ?_
    refine zj_icmp_ne z16_38 (by omega) (by omega) (fun h2 => ?_) (fun h2 => ?_)
    rotate_left
    · refine zw_iload_n z16_41 rfl ?_
      refine zw_iret z16_42 rfl ?_
      have he : R = (s, T) := he.trans (if_pos (by omega))
      subst he
      exact kk w' hT hI hF
    obtain ⟨o1, o2⟩ := hI2 T hI h2
    have he : R = tS k (s + 1) (tBring T (tPos T) 12 1) := he.trans (if_neg h2)
    refine zw_aload_n z16_43 rfl ?_
    refine zw_iload_n z16_44 rfl ?_
    refine zw_bipush z16_45 (v := iI (12)) (by decide +kernel) ?_
    refine zw_iconst z16_47 (v := iI 1) rfl ?_
    refine zw_cv (n := 5) z16_48 rfl rfl h0 (Nat.le_of_ble_eq_true rfl) (by omega) (sp_bring hT hV (by omega) (by omega) (by omega) o1 (by omega) (by omega)) (fun v w1 cn1 sn1 h => ?_)
    obtain ⟨rfl, rfl, rfl, n1, f1⟩ := h
    refine zj_iinc z16_51 rfl rfl ?_
    refine zw_goto z16_54 ?_
    exact ih (s + 1) _ w1 _ (by omega) (by omega) n1 o2 (hF.trans f1) he
theorem sp_sendHome {I : TT → Prop} (h : ptA w T) (hV : ptV T) (hI : T.Y 3 0 = gAll T.G → I T) (hI1 : ∀ T, I T → ptV T) (hI2 : ∀ T, I T → ¬ tPos T = -1 → okB T (tPos T) 12 1 ∧ I (tBring T (tPos T) 12 1)) (hd : 6 ≤ d) (hq : 90 ≤ q) : zt L xs d q 16 [.ref 0] w cn sn (tO w cn sn (tSend T)) := by
  obtain ⟨d, rfl⟩ : ∃ e, d = e + 1 := ⟨d - 1, by omega⟩
  have hT := h
  obtain ⟨h0, hg, hy, hp, hs, hr⟩ := h
  unfold ptO at h0
  have y0 := hy.1
  refine ⟨_, rfl, ?_⟩
  show zw _ _ _ _ 16 0 [some (.ref 0), none, none] [] _ _ _ _
  refine zw_aload_n z16_0 rfl ?_
  refine zw_getf z16_1 (by assumption) (by rfl) ?_
  refine zw_vv (n := 1) z16_4 rfl rfl (by assumption) (Nat.le_of_ble_eq_true rfl) (by omega) (sp_isAllLaid hg hV.1 hy hV.2.1 (by omega) (by omega)) ?_
  refine zj_b_ne z16_7 (fun k1 => ?_) (fun k1 => ?_)
  rotate_left
  · refine zw_thr (ex := 1) rfl (by omega) (by omega) ?_
    rw [show tSend T = (.inr 1, T) from if_neg k1]
    exact ⟨rfl, rfl, rfl, hT, zF.rf⟩
  rw [show tSend T = _ from if_pos k1]
  refine zw_iconst z16_20 (v := iI 0) rfl ?_
  refine zw_istore_n z16_21 rfl ?_
  exact sp_sendLoop (w := w) hI1 hI2 hd hq (R := tS 52 0 T) (fun w' g1 _ g2 => ⟨rfl, rfl, rfl, g1, g2⟩) 52 0 T w none (by omega) (by omega) hT (hI k1) zF.rf rfl
/-- the deal -/
theorem iI_and31 (z : Int) : iI z &&& iI 2147483647 = iI (z % 2147483648) := by
  apply Int32.toBitVec_inj.1
  show BitVec.ofInt 32 z &&& BitVec.ofInt 32 2147483647 = BitVec.ofInt 32 (z % 2147483648)
  apply BitVec.eq_of_toNat_eq
  rw [BitVec.toNat_and, show (BitVec.ofInt 32 2147483647).toNat = 2 ^ 31 - 1 from rfl, Nat.and_two_pow_sub_one_eq_mod, BitVec.toNat_ofInt, BitVec.toNat_ofInt]
  omega
abbrev dX (x : Int) : Int := (214013 * x + 2531011) % 2147483648
abbrev dD (x l : Int) : Int := dX x / 65536 % l
def dl (G : Nat → Int) : Nat → Int → Int → (Nat → Nat → Int) → (Nat → Int) → (Nat → Nat → Int) × (Nat → Int)
  | 0, _, _, Y, R => (Y, R)
  | k + 1, i, x, Y, R => dl G k (i + 1) (dX x) (yLay Y (i % G 0) (R (dD x ((k : Int) + 1)).toNat)) (iU R (dD x ((k : Int) + 1)).toNat (R k))
abbrev tDl (T : TT) (n : Int) : (Nat → Nat → Int) × (Nat → Int) := dl T.G (gAll T.G).toNat 0 n (yCl T.Y) (iCp (fun j => (j : Int)) T.R (gAll T.G).toNat)
def tDeal (T : TT) (n : Int) : zi_O × TT := if 0 ≤ n ∧ n ≤ 32000 then (.inl none, TT.mk T.G (tDl T n).1 (pN T.P 0 0) T.S (tDl T n).2 (-1)) else (.inr 0, T)
theorem yLay_V {Y : Nat → Nat → Int} (hV : lyW Y) (hc : 0 ≤ c ∧ c ≤ 51) (hl : Y 3 0 ≤ 51) : lyW (yLay Y z c) := by
  obtain ⟨a1, a2, a3, a4, a5⟩ := hV
  refine ⟨iU_rng a1 ?_, iU_rng a2 (by omega), a3, ?_, a5⟩
  · have := a2 z.toNat
    omega
  · show 0 ≤ Y 3 0 + 1 ∧ Y 3 0 + 1 ≤ 52
    omega
theorem iFi_rng {f : Nat → Int} {n : Nat} {v lo hi : Int} (hf : ∀ j, lo ≤ f j ∧ f j ≤ hi) (hv : lo ≤ v ∧ v ≤ hi) : ∀ j, lo ≤ iFi f n v j ∧ iFi f n v j ≤ hi := by
  intro j
  unfold iFi
  split
  · exact hv
  · exact hf j
theorem yCl_V {Y : Nat → Nat → Int} (hV : lyW Y) : lyW (yCl Y) := ⟨iFi_rng hV.1 (by omega), iFi_rng hV.2.1 (by omega), iFi_rng hV.2.2.1 (by omega), ⟨by show (0 : Int) ≤ 0; omega, by show (0 : Int) ≤ 52; omega⟩, ⟨by show (0 : Int) ≤ 0; omega, by show (0 : Int) ≤ 52; omega⟩⟩
theorem lp_dl1 {T : TT} (hG : gmV T.G) (kk : ∀ w', ptA w' (TT.mk T.G T.Y T.P T.S (iCp (fun j => (j : Int)) T.R (gAll T.G).toNat) T.hi) → zF ptS w w' → zw L xs d q 11 53 [some (.ref 0), some (iV u), some (iV (gAll T.G)), some (iV (gAll T.G)), none, none, none] [] w' cn sn Q) : ∀ (k n : Nat) (w' : zi_W), (n : Int) + k = gAll T.G → ptA w' (TT.mk T.G T.Y T.P T.S (iCp (fun j => (j : Int)) T.R n) T.hi) → zF ptS w w' → zw L xs d q 11 35 [some (.ref 0), some (iV u), some (iV (gAll T.G)), some (iV n), none, none, none] [] w' cn sn Q := by
  have hA := gAll_rng hG
  intro k
  induction k with
  | zero =>
    intro n w' hk h hF
    have e1 : (n : Int) = gAll T.G := by omega
    refine zw_iload_n z11_35 rfl ?_
    refine zw_iload_n z11_36 rfl ?_
    refine zj_icmp_ge z11_37 (by omega) (by omega) (fun h1 => ?_) (fun h1 => ?_)
    · have := kk w'
      rw [← e1] at this ⊢
      exact this h hF
    · exfalso; omega
  | succ k ih =>
    intro n w' hk h hF
    have hT := h
    obtain ⟨h0, hg, hy, hp, hs, hr⟩ := h
    unfold ptO at h0
    refine zw_iload_n z11_35 rfl ?_
    refine zw_iload_n z11_36 rfl ?_
    refine zj_icmp_ge z11_37 (by omega) (by omega) (fun h1 => ?_) (fun h1 => ?_)
    · exfalso; omega
    refine zw_aload_n z11_40 rfl ?_
    refine zw_getf z11_41 (by assumption) (by rfl) ?_
    refine zw_iload_n z11_44 rfl ?_
    refine zw_iload_n z11_45 rfl ?_
    refine zj_astG z11_46 hr (by omega) (by decide) (fun w1 n1 f1 => ?_)
    refine zj_iinc z11_47 rfl rfl ?_
    refine zw_goto z11_50 ?_
    have hc : iU (iCp (fun j => (j : Int)) T.R n) n (n : Int) = iCp (fun j => (j : Int)) T.R (n + 1) := by
      funext j
      unfold iU iCp
      by_cases hj : j = n
      · subst hj
        rw [if_pos rfl, if_pos (by omega)]
      · rw [if_neg hj]
        by_cases hj2 : j < n
        · rw [if_pos hj2, if_pos (by omega)]
        · rw [if_neg hj2, if_neg (by omega)]
    have n1 : zi_get w1 816 = some (.inl (0, 52, .inl (iA (iCp (fun j => (j : Int)) T.R (n + 1))))) := by
      rw [← hc]; exact n1
    have := ih (n + 1) w1 (by omega) ⟨(f1.2 0 (by omega)).trans h0, (f1.2 1 (by omega)).trans hg, lyA.keep hy fun j h1 h2 => f1.2 j (by omega), lgA.keep hp fun j h1 h2 => f1.2 j (by omega), seT_keep hs fun j h1 h2 => f1.2 j (by omega), n1⟩ (hF.step f1 (by omega))
    rwa [show ((n + 1 : Nat) : Int) = (n : Int) + 1 by omega] at this
theorem lp_dl2 {G : Nat → Int} {P : Nat → Nat → Int} {S : SS} {h9 : Int} (hG : gmV G) {D : (Nat → Nat → Int) × (Nat → Int)} (hq : 22 ≤ q) (hd : 1 ≤ d) (kk : ∀ w', ptA w' (TT.mk G D.1 P S D.2 h9) → zF ptS w w' → Q (.inl none) w' cn sn) : ∀ (k : Nat) (i x : Int) (Y : Nat → Nat → Int) (R : Nat → Int) (w' : zi_W) (x5 x6 : Option Value), i + k = gAll G → 0 ≤ i → 0 ≤ x ∧ x < 2147483648 → lyW Y → Y 3 0 = i → (∀ j, 0 ≤ R j ∧ R j ≤ 51) → ptA w' (TT.mk G Y P S R h9) → zF ptS w w' → D = dl G k i x Y R → zw L xs d q 11 58 [some (.ref 0), some (iV u), some (iV (gAll G)), some (iV x), some (iV i), x5, x6] [] w' cn sn Q := by
  have hA := gAll_rng hG
  obtain ⟨d, rfl⟩ : ∃ e, d = e + 1 := ⟨d - 1, by omega⟩
  intro k
  induction k with
  | zero =>
    intro i x Y R w' x5 x6 hk hi hx hV hl hR h hF he
    refine zw_iload z11_58 rfl ?_
    refine zw_iload_n z11_60 rfl ?_
    refine zj_icmp_ge z11_61 (by omega) (by omega) (fun h1 => ?_) (fun h1 => ?_)
    · refine zw_vret z11_136 rfl ?_
      have he : D = (Y, R) := he
      subst he
      exact kk w' h hF
    · exfalso; omega
  | succ k ih =>
    intro i x Y R w' x5 x6 hk hi hx hV hl hR h hF he
    have hT := h
    obtain ⟨h0, hg, hy, hp, hs, hr⟩ := h
    unfold ptO at h0
    have hg : gmA w' 1 G := hg
    have hg' := hg
    unfold gmA at hg'
    have y0 := hy.1
    have hG' := hG
    unfold gmV at hG'
    refine zw_iload z11_58 rfl ?_
    refine zw_iload_n z11_60 rfl ?_
    refine zj_icmp_ge z11_61 (by omega) (by omega) (fun h1 => ?_) (fun h1 => ?_)
    · exfalso; omega
    refine zw_iload_n z11_64 rfl ?_
    refine zw_iload z11_65 rfl ?_
    refine zj_sub z11_67 ?_
    refine zw_istore z11_68 rfl ?_
    refine zj_ldc z11_70 (z := (214013)) (by decide +kernel) ?_
    refine zw_iload_n z11_72 rfl ?_
    refine zj_mul z11_73 ?_
    refine zj_ldc z11_74 (z := (2531011)) (by decide +kernel) ?_
    refine zj_add z11_76 ?_
    refine zj_ldc z11_77 (z := (2147483647)) (by decide +kernel) ?_
    refine zw_iand z11_79 ?_
    rw [iI_and31]
    have hx1 : 0 ≤ dX x ∧ dX x < 2147483648 := by unfold dX; omega
    have he : D = dl G k (i + 1) (dX x) (yLay Y (i % G 0) (R (dD x ((k : Int) + 1)).toNat)) (iU R (dD x ((k : Int) + 1)).toNat (R k)) := he
    rw [show (214013 * x + 2531011) % 2147483648 = dX x from rfl]
    unfold dD at he
    generalize dX x = x1 at *
    have hlk : gAll G - i = (k : Int) + 1 := by omega
    have hq1 : 0 ≤ x1 / 65536 ∧ x1 / 65536 < 32768 := by omega
    rw [hlk]
    have hdr : 0 ≤ x1 / 65536 % ((k : Int) + 1) ∧ x1 / 65536 % ((k : Int) + 1) < (k : Int) + 1 := ⟨Int.emod_nonneg _ (by omega), Int.emod_lt_of_pos _ (by omega)⟩
    have hic : 0 ≤ i % G 0 ∧ i % G 0 < G 0 := ⟨Int.emod_nonneg _ (by omega), Int.emod_lt_of_pos _ (by omega)⟩
    refine zw_istore_n z11_80 rfl ?_
    refine zw_iload_n z11_81 rfl ?_
    refine zj_ldc z11_82 (z := (65536)) (by decide +kernel) ?_
    refine zj_div z11_84 (by omega) (by omega) ?_
    refine zw_iload z11_85 rfl ?_
    refine zj_rem z11_87 (by omega) (by omega) ?_
    generalize x1 / 65536 % ((k : Int) + 1) = dr at *
    have hRd := hR dr.toNat
    refine zw_istore z11_88 rfl ?_
    refine zw_aload_n z11_90 rfl ?_
    refine zw_getf z11_91 (by assumption) (by rfl) ?_
    refine zw_iload z11_94 rfl ?_
    refine zw_aload_n z11_96 rfl ?_
    refine zw_getf z11_97 (by assumption) (by rfl) ?_
    refine zw_getf z11_100 (by assumption) (by rfl) ?_
    refine zj_rem z11_103 (by omega) (by omega) ?_
    generalize i % G 0 = ic at *
    refine zw_aload_n z11_104 rfl ?_
    refine zw_getf z11_105 (by assumption) (by rfl) ?_
    refine zw_iload z11_108 rfl ?_
    refine zj_ald z11_110 hr (by omega) (by decide) ?_
    refine zw_cv (n := 3) z11_111 rfl rfl y0 (Nat.le_of_ble_eq_true rfl) (by omega) (sp_layOn hy hV (by omega) (show 0 ≤ R dr.toNat ∧ R dr.toNat < 52 by omega)) (fun v w1 cn1 sn1 h => ?_)
    obtain ⟨rfl, rfl, rfl, n1, f1⟩ := h
    have h0 := (f1.2 0 (by omega)).trans h0
    have hr := (f1.2 816 (by omega)).trans hr
    refine zw_aload_n z11_114 rfl ?_
    refine zw_getf z11_115 (by assumption) (by rfl) ?_
    refine zw_iload z11_118 rfl ?_
    refine zw_aload_n z11_120 rfl ?_
    refine zw_getf z11_121 (by assumption) (by rfl) ?_
    refine zw_iload z11_124 rfl ?_
    refine zw_iconst z11_126 (v := iI 1) rfl ?_
    refine zj_sub z11_127 ?_
    refine zj_ald z11_128 hr (by omega) (by decide) ?_
    refine zj_astG z11_129 hr (by omega) (by decide) (fun w2 n2 f2 => ?_)
    refine zj_iinc z11_130 rfl rfl ?_
    refine zw_goto z11_133 ?_
    have n2 : zi_get w2 816 = some (.inl (0, 52, .inl (iA (iU R dr.toNat (R k))))) := by
      rw [show R k = (TT.mk G Y P S R h9).R ((k : Int) + 1 - 1).toNat from congrArg R (by omega)]
      exact n2
    have f3 : ∀ j, 6 ≤ j → j ≠ 816 → zi_get w2 j = zi_get w' j := fun j h1 h2 => (f2.2 j (by omega)).trans (f1.2 j (by omega))
    exact ih (i + 1) x1 (yLay Y ic (R dr.toNat)) (iU R dr.toNat (R k)) w2 _ _ (by omega) (by omega) hx1 (yLay_V hV hRd (by omega)) (show Y 3 0 + 1 = i + 1 by omega) (iU_rng hR (hR k)) ⟨(f2.2 0 (by omega)).trans h0, (f2.2 1 (by omega)).trans ((f1.2 1 (by omega)).trans hg), lyA.keep n1 fun j h1 h2 => f2.2 j (by omega), lgA.keep hp fun j h1 h2 => f3 j (by omega) (by omega), seT_keep hs fun j h1 h2 => f3 j (by omega) (by omega), n2⟩ ((hF.trans (f1.sub fun j hj => by omega)).step f2 (by omega)) he
theorem sp_deal (h : ptA w T) (hV : ptV T) (hu : iR u) (hd : 6 ≤ d) (hq : 90 ≤ q) : zt L xs d q 11 [.ref 0, iV u] w cn sn (tO w cn sn (tDeal T u)) := by
  obtain ⟨d, rfl⟩ : ∃ e, d = e + 1 := ⟨d - 1, by omega⟩
  have hT := h
  obtain ⟨h0, hg, hy, hp, hs, hr⟩ := h
  unfold ptO at h0
  have hG := hV.1
  have hA := gAll_rng hG
  refine ⟨_, rfl, ?_⟩
  show zw _ _ _ _ 11 0 [some (.ref 0), some (iV u), none, none, none, none, none] [] _ _ _ _
  refine zw_iload_n z11_0 rfl ?_
  refine zw_iconst z11_1 (v := iI 0) rfl ?_
  refine zw_sipush z11_2 (v := iI (32000)) (by decide +kernel) ?_
  refine zw_vs (n := 3) z11_5 rfl rfl (Nat.le_of_ble_eq_true rfl) (by omega) (sp_isWithin hu (by omega) (by omega)) ?_
  refine zj_b_ne z11_8 (fun k1 => ?_) (fun k1 => ?_)
  rotate_left
  · refine zw_thr (ex := 0) rfl (by omega) (by omega) ?_
    rw [show tDeal T u = (.inr 0, T) from if_neg k1]
    exact ⟨rfl, rfl, rfl, hT, zF.rf⟩
  rw [show tDeal T u = _ from if_pos k1]
  refine zw_aload_n z11_21 rfl ?_
  refine zw_cv (n := 1) z11_22 rfl rfl h0 (Nat.le_of_ble_eq_true rfl) (by omega) (sp_clear hT (by omega) (by omega)) (fun v w1 cn1 sn1 h => ?_)
  obtain ⟨rfl, rfl, rfl, h1, f1⟩ := h
  have m0 : zi_get w1 0 = some (.inr (0, [.ref 1, .ref 2, .ref 6, .ref 11, .ref 816, iV (-1)])) := h1.1
  have m1 : gmA w1 1 T.G := h1.2.1
  have m1' := m1
  unfold gmA at m1'
  refine zw_aload_n z11_25 rfl ?_
  refine zw_getf z11_26 (by assumption) (by rfl) ?_
  refine zw_vv (n := 1) z11_29 rfl rfl (by assumption) (Nat.le_of_ble_eq_true rfl) (by omega) (sp_cardCount m1) ?_
  refine zw_istore_n z11_32 rfl ?_
  refine zw_iconst z11_33 (v := iI 0) rfl ?_
  refine zw_istore_n z11_34 rfl ?_
  refine lp_dl1 (T := tClr T) (w := w) hG (fun w2 g1 g2 => ?_) (gAll T.G).toNat 0 w1 (by show ((0 : Nat) : Int) + _ = gAll T.G; omega) (by
    rw [show iCp (fun j => (j : Int)) (tClr T).R 0 = (tClr T).R from funext fun j => if_neg (by omega)]
    exact h1) f1
  refine zw_iload_n z11_53 rfl ?_
  refine zw_istore_n z11_54 rfl ?_
  refine zw_iconst z11_55 (v := iI 0) rfl ?_
  refine zw_istore z11_56 rfl ?_
  exact lp_dl2 (w := w) (G := T.G) (D := tDl T u) hG (by omega) (by omega) (fun w3 e1 e2 => ⟨rfl, rfl, rfl, e1, e2⟩) (gAll T.G).toNat 0 u (yCl T.Y) _ w2 none none (by omega) (by omega) (by omega) (yCl_V hV.2.1) rfl (fun j => by
    unfold iCp
    split
    · show 0 ≤ (j : Int) ∧ (j : Int) ≤ 51; rename_i hj; have hj : j < (gAll T.G).toNat := hj; omega
    · exact hV.2.2.2.2 j) g1 g2 rfl
end ZPK
end
section
/-! The reference: its state, its readers. (Laid out by gen/tpl.py from tpl/60.model.tpl.) -/
/-- G rules and cards; N 0 thrown, 1 logs, 2 hinted, 3 seen, 4 count, 5 depth, 6 more, 7 won, 8 taken, 9 grounds; A 0 column, 1 height, 2 cell, 3 home, 4 lies, 5 rest, 6 log, 7 row, 8 sum, 9 good, 10 begins, 11 homeOf, 12 covered -/
def moA (w : zi_W) (G N : Nat → Int) (A : Nat → Nat → Int) : Prop := zi_get w 817 = some (.inr (5, [iV (N 0), iV (G 0), iV (G 1), iV (G 2), iV (G 3), iV (G 4), iV (G 5), .ref 818, .ref 819, .ref 820, .ref 821, .ref 822, .ref 823, iV (N 1), .ref 824, iV (N 2), iV (N 3), .ref 825, .ref 826, .ref 827, .ref 828, iV (N 4), iV (N 5), iV (N 6), iV (N 7), .ref 829, iV (N 8), iV (N 9), .ref 830])) ∧ zi_get w 818 = some (.inl (0, 416, .inl (iA (A 0)))) ∧ zi_get w 819 = some (.inl (0, 8, .inl (iA (A 1)))) ∧ zi_get w 820 = some (.inl (0, 4, .inl (iA (A 2)))) ∧ zi_get w 821 = some (.inl (0, 4, .inl (iA (A 3)))) ∧ zi_get w 822 = some (.inl (1, 52, .inl (iA (A 4)))) ∧ zi_get w 823 = some (.inl (0, 52, .inl (iA (A 5)))) ∧ zi_get w 824 = some (.inl (0, 240, .inl (iA (A 6)))) ∧ zi_get w 825 = some (.inl (0, 10504, .inl (iA (A 7)))) ∧ zi_get w 826 = some (.inl (0, 202, .inl (iA (A 8)))) ∧ zi_get w 827 = some (.inl (1, 202, .inl (iA (A 9)))) ∧ zi_get w 828 = some (.inl (0, 210, .inl (iA (A 10)))) ∧ zi_get w 829 = some (.inl (0, 4, .inl (iA (A 11)))) ∧ zi_get w 830 = some (.inl (1, 52, .inl (iA (A 12))))
def mtV (A : Nat → Nat → Int) : Prop := (∀ j, 0 ≤ A 0 j ∧ A 0 j ≤ 51) ∧ (∀ j, 0 ≤ A 1 j ∧ A 1 j ≤ 52) ∧ (∀ j, -1 ≤ A 2 j ∧ A 2 j ≤ 51) ∧ (∀ j, 0 ≤ A 3 j ∧ A 3 j ≤ 13) ∧ (∀ j, 0 ≤ A 4 j ∧ A 4 j ≤ 1) ∧ (∀ j, 0 ≤ A 5 j ∧ A 5 j ≤ 51)
abbrev moS : Nat → Prop := fun j => 817 ≤ j ∧ j ≤ 830
section ZMO
variable {L : Nat} {xs : Nat → Int32} {d q : Nat} {w : zi_W} {cn sn : Nat} {Q : zi_O → zi_W → Nat → Nat → Prop} {G N : Nat → Int} {A : Nat → Nat → Int} {z y m c o a b e k : Int}
theorem sp_mWithin (hz : iR z) (ha : iR a) (hb : iR b) : zv d q 79 [iV z, iV a, iV b] w (iI (b2 (a ≤ z ∧ z ≤ b))) := by
  intro L xs cn sn
  refine ⟨_, rfl, ?_⟩
  show zw _ _ _ _ 79 0 [some (iV z), some (iV a), some (iV b)] [] _ _ _ _
  refine zw_iload_n z79_0 rfl ?_
  refine zw_iload_n z79_1 rfl ?_
  refine zj_icmp_lt z79_2 (by omega) (by omega) (fun h2 => ?_) (fun h2 => ?_)
  · refine zw_iconst z79_14 (v := iI 0) rfl ?_
    refine zj_bret z79_15 rfl (by first | exact b2_r | omega) ?_
    exact zv_end (by first | rw [b2_t (by omega)] | rw [b2_f (by omega)])
  · refine zw_iload_n z79_5 rfl ?_
    refine zw_iload_n z79_6 rfl ?_
    refine zj_icmp_gt z79_7 (by omega) (by omega) (fun h7 => ?_) (fun h7 => ?_)
    · refine zw_iconst z79_14 (v := iI 0) rfl ?_
      refine zj_bret z79_15 rfl (by first | exact b2_r | omega) ?_
      exact zv_end (by first | rw [b2_t (by omega)] | rw [b2_f (by omega)])
    · refine zw_iconst z79_10 (v := iI 1) rfl ?_
      refine zw_goto z79_11 ?_
      refine zj_bret z79_15 rfl (by first | exact b2_r | omega) ?_
      exact zv_end (by first | rw [b2_t (by omega)] | rw [b2_f (by omega)])
theorem sp_mThrown (hm : moA w G N A) : zv d q 77 [.ref 817] w (iI (N 0)) := by
  intro L xs cn sn
  have hm9 := hm
  obtain ⟨m0, a0, a1, a2, a3, a4, a5, a6, a7, a8, a9, a10, a11, a12⟩ := hm9
  refine ⟨_, rfl, ?_⟩
  show zw _ _ _ _ 77 0 [some (.ref 817)] [] _ _ _ _
  refine zw_aload_n z77_0 rfl ?_
  refine zw_getf z77_1 (by assumption) (by rfl) ?_
  refine zw_iret z77_4 rfl ?_
  exact zv_end rfl
theorem sp_mAll (hm : moA w G N A) : zv d q 80 [.ref 817] w (iI (gAll G)) := by
  intro L xs cn sn
  have hm9 := hm
  obtain ⟨m0, a0, a1, a2, a3, a4, a5, a6, a7, a8, a9, a10, a11, a12⟩ := hm9
  refine ⟨_, rfl, ?_⟩
  show zw _ _ _ _ 80 0 [some (.ref 817)] [] _ _ _ _
  refine zw_aload_n z80_0 rfl ?_
  refine zw_getf z80_1 (by assumption) (by rfl) ?_
  refine zw_aload_n z80_4 rfl ?_
  refine zw_getf z80_5 (by assumption) (by rfl) ?_
  refine zj_mul z80_8 ?_
  refine zw_iret z80_9 rfl ?_
  exact zv_end rfl
theorem sp_mSuit (hm : moA w G N A) (hG : gmV G) (hc : 0 ≤ c ∧ c < 52) : zv d q 81 [.ref 817, iV c] w (iI (gSuit G c)) := by
  intro L xs cn sn
  have hm9 := hm
  obtain ⟨m0, a0, a1, a2, a3, a4, a5, a6, a7, a8, a9, a10, a11, a12⟩ := hm9
  have hG' := hG
  unfold gmV at hG'
  refine ⟨_, rfl, ?_⟩
  show zw _ _ _ _ 81 0 [some (.ref 817), some (iV c)] [] _ _ _ _
  refine zw_iload_n z81_0 rfl ?_
  refine zw_aload_n z81_1 rfl ?_
  refine zw_getf z81_2 (by assumption) (by rfl) ?_
  refine zj_rem z81_5 (by omega) (by omega) ?_
  refine zw_iret z81_6 rfl ?_
  exact zv_end rfl
theorem sp_mRank (hm : moA w G N A) (hG : gmV G) (hc : 0 ≤ c ∧ c < 52) : zv d q 82 [.ref 817, iV c] w (iI (gRank G c)) := by
  intro L xs cn sn
  have hm9 := hm
  obtain ⟨m0, a0, a1, a2, a3, a4, a5, a6, a7, a8, a9, a10, a11, a12⟩ := hm9
  have hG' := hG
  unfold gmV at hG'
  refine ⟨_, rfl, ?_⟩
  show zw _ _ _ _ 82 0 [some (.ref 817), some (iV c)] [] _ _ _ _
  refine zw_iload_n z82_0 rfl ?_
  refine zw_aload_n z82_1 rfl ?_
  refine zw_getf z82_2 (by assumption) (by rfl) ?_
  refine zj_div z82_5 (by omega) (by omega) ?_
  refine zw_iconst z82_6 (v := iI 1) rfl ?_
  refine zj_add z82_7 ?_
  refine zw_iret z82_8 rfl ?_
  exact zv_end rfl
abbrev gBlk (s : Int) : Prop := s = 0 ∨ s = 3
theorem sp_mBlack (hz : iR z) : zv d q 83 [iV z] w (iI (b2 (gBlk z))) := by
  intro L xs cn sn
  refine ⟨_, rfl, ?_⟩
  show zw _ _ _ _ 83 0 [some (iV z)] [] _ _ _ _
  refine zw_iload_n z83_0 rfl ?_
  refine zj_if_eq z83_1 (by omega) (fun h1 => ?_) (fun h1 => ?_)
  · refine zw_iconst z83_9 (v := iI 1) rfl ?_
    refine zw_goto z83_10 ?_
    refine zj_bret z83_14 rfl (by first | exact b2_r | omega) ?_
    exact zv_end (by first | rw [b2_t (by omega)] | rw [b2_f (by omega)])
  · refine zw_iload_n z83_4 rfl ?_
    refine zw_iconst z83_5 (v := iI 3) rfl ?_
    refine zj_icmp_ne z83_6 (by omega) (by omega) (fun h6 => ?_) (fun h6 => ?_)
    · refine zw_iconst z83_13 (v := iI 0) rfl ?_
      refine zj_bret z83_14 rfl (by first | exact b2_r | omega) ?_
      exact zv_end (by first | rw [b2_t (by omega)] | rw [b2_f (by omega)])
    · refine zw_iconst z83_9 (v := iI 1) rfl ?_
      refine zw_goto z83_10 ?_
      refine zj_bret z83_14 rfl (by first | exact b2_r | omega) ?_
      exact zv_end (by first | rw [b2_t (by omega)] | rw [b2_f (by omega)])
theorem sp_mFitsOn (hm : moA w G N A) (hG : gmV G) (hc : 0 ≤ c ∧ c < 52) (ho : 0 ≤ o ∧ o < 52) (hd : 1 ≤ d) (hq : 21 ≤ q) : zv d q 84 [.ref 817, iV c, iV o] w (iI (b2 (gFit G c o))) := by
  intro L xs cn sn
  obtain ⟨d, rfl⟩ : ∃ e, d = e + 1 := ⟨d - 1, by omega⟩
  have hm9 := hm
  obtain ⟨m0, a0, a1, a2, a3, a4, a5, a6, a7, a8, a9, a10, a11, a12⟩ := hm9
  have hG' := hG
  unfold gmV at hG'
  have rc := gRank_rng (c := c) hG hc
  have ro := gRank_rng (c := o) hG ho
  have sc := gSuit_rng (c := c) hG
  have so := gSuit_rng (c := o) hG
  have e1 : gBlk (gSuit G c) ↔ ¬ gRed (gSuit G c) := by unfold gBlk gRed; omega
  have e2 : gBlk (gSuit G o) ↔ ¬ gRed (gSuit G o) := by unfold gBlk gRed; omega
  refine ⟨_, rfl, ?_⟩
  show zw _ _ _ _ 84 0 [some (.ref 817), some (iV c), some (iV o)] [] _ _ _ _
  refine zw_aload_n z84_0 rfl ?_
  refine zw_iload_n z84_1 rfl ?_
  refine zw_vv (n := 2) z84_2 rfl rfl (by assumption) (Nat.le_of_ble_eq_true rfl) (by omega) (sp_mRank hm hG (by omega)) ?_
  refine zw_aload_n z84_5 rfl ?_
  refine zw_iload_n z84_6 rfl ?_
  refine zw_vv (n := 2) z84_7 rfl rfl (by assumption) (Nat.le_of_ble_eq_true rfl) (by omega) (sp_mRank hm hG (by omega)) ?_
  refine zw_iconst z84_10 (v := iI 1) rfl ?_
  refine zj_sub z84_11 ?_
  refine zj_icmp_eq z84_12 (by omega) (by omega) (fun h12 => ?_) (fun h12 => ?_)
  · refine zw_aload_n z84_17 rfl ?_
    refine zw_getf z84_18 (by assumption) (by rfl) ?_
    refine zw_iconst z84_21 (v := iI 2) rfl ?_
    refine zj_icmp_eq z84_22 (by omega) (by omega) (fun h22 => ?_) (fun h22 => ?_)
    · refine zw_iconst z84_68 (v := iI 1) rfl ?_
      refine zw_goto z84_69 ?_
      refine zj_bret z84_73 rfl (by first | exact b2_r | omega) ?_
      exact zv_end (by first | rw [b2_t (by unfold gFit; grind)] | rw [b2_f (by unfold gFit; grind)])
    · refine zw_aload_n z84_25 rfl ?_
      refine zw_getf z84_26 (by assumption) (by rfl) ?_
      refine zw_iconst z84_29 (v := iI 1) rfl ?_
      refine zj_icmp_ne z84_30 (by omega) (by omega) (fun h30 => ?_) (fun h30 => ?_)
      · refine zw_aload_n z84_49 rfl ?_
        refine zw_iload_n z84_50 rfl ?_
        refine zw_vv (n := 2) z84_51 rfl rfl (by assumption) (Nat.le_of_ble_eq_true rfl) (by omega) (sp_mSuit hm hG (by omega)) ?_
        refine zw_vs (n := 1) z84_54 rfl rfl (Nat.le_of_ble_eq_true rfl) (by omega) (sp_mBlack (by omega)) ?_
        refine zw_aload_n z84_57 rfl ?_
        refine zw_iload_n z84_58 rfl ?_
        refine zw_vv (n := 2) z84_59 rfl rfl (by assumption) (Nat.le_of_ble_eq_true rfl) (by omega) (sp_mSuit hm hG (by omega)) ?_
        refine zw_vs (n := 1) z84_62 rfl rfl (Nat.le_of_ble_eq_true rfl) (by omega) (sp_mBlack (by omega)) ?_
        refine zj_bb_eq z84_65 (fun h65 => ?_) (fun h65 => ?_)
        · refine zw_iconst z84_72 (v := iI 0) rfl ?_
          refine zj_bret z84_73 rfl (by first | exact b2_r | omega) ?_
          exact zv_end (by first | rw [b2_t (by unfold gFit; grind)] | rw [b2_f (by unfold gFit; grind)])
        · refine zw_iconst z84_68 (v := iI 1) rfl ?_
          refine zw_goto z84_69 ?_
          refine zj_bret z84_73 rfl (by first | exact b2_r | omega) ?_
          exact zv_end (by first | rw [b2_t (by unfold gFit; grind)] | rw [b2_f (by unfold gFit; grind)])
      · refine zw_aload_n z84_33 rfl ?_
        refine zw_iload_n z84_34 rfl ?_
        refine zw_vv (n := 2) z84_35 rfl rfl (by assumption) (Nat.le_of_ble_eq_true rfl) (by omega) (sp_mSuit hm hG (by omega)) ?_
        refine zw_aload_n z84_38 rfl ?_
        refine zw_iload_n z84_39 rfl ?_
        refine zw_vv (n := 2) z84_40 rfl rfl (by assumption) (Nat.le_of_ble_eq_true rfl) (by omega) (sp_mSuit hm hG (by omega)) ?_
        refine zj_icmp_ne z84_43 (by omega) (by omega) (fun h43 => ?_) (fun h43 => ?_)
        · refine zw_iconst z84_72 (v := iI 0) rfl ?_
          refine zj_bret z84_73 rfl (by first | exact b2_r | omega) ?_
          exact zv_end (by first | rw [b2_t (by unfold gFit; grind)] | rw [b2_f (by unfold gFit; grind)])
        · refine zw_goto z84_46 ?_
          refine zw_iconst z84_68 (v := iI 1) rfl ?_
          refine zw_goto z84_69 ?_
          refine zj_bret z84_73 rfl (by first | exact b2_r | omega) ?_
          exact zv_end (by first | rw [b2_t (by unfold gFit; grind)] | rw [b2_f (by unfold gFit; grind)])
  · refine zw_iconst z84_15 (v := iI 0) rfl ?_
    refine zj_bret z84_16 rfl (by first | exact b2_r | omega) ?_
    exact zv_end (by first | rw [b2_t (by unfold gFit; grind)] | rw [b2_f (by unfold gFit; grind)])
theorem sp_mFitsEmpty (hm : moA w G N A) (hG : gmV G) (hc : 0 ≤ c ∧ c < 52) (hd : 1 ≤ d) (hq : 21 ≤ q) : zv d q 85 [.ref 817, iV c] w (iI (b2 (gEmp G c))) := by
  intro L xs cn sn
  obtain ⟨d, rfl⟩ : ∃ e, d = e + 1 := ⟨d - 1, by omega⟩
  have hm9 := hm
  obtain ⟨m0, a0, a1, a2, a3, a4, a5, a6, a7, a8, a9, a10, a11, a12⟩ := hm9
  have hG' := hG
  unfold gmV at hG'
  have rc := gRank_rng (c := c) hG hc
  refine ⟨_, rfl, ?_⟩
  show zw _ _ _ _ 85 0 [some (.ref 817), some (iV c)] [] _ _ _ _
  refine zw_aload_n z85_0 rfl ?_
  refine zw_getf z85_1 (by assumption) (by rfl) ?_
  refine zj_if_eq z85_4 (by omega) (fun h4 => ?_) (fun h4 => ?_)
  · refine zw_iconst z85_27 (v := iI 1) rfl ?_
    refine zw_goto z85_28 ?_
    refine zj_bret z85_32 rfl (by first | exact b2_r | omega) ?_
    exact zv_end (by first | rw [b2_t (by unfold gEmp; omega)] | rw [b2_f (by unfold gEmp; omega)])
  · refine zw_aload_n z85_7 rfl ?_
    refine zw_getf z85_8 (by assumption) (by rfl) ?_
    refine zw_iconst z85_11 (v := iI 1) rfl ?_
    refine zj_icmp_ne z85_12 (by omega) (by omega) (fun h12 => ?_) (fun h12 => ?_)
    · refine zw_iconst z85_31 (v := iI 0) rfl ?_
      refine zj_bret z85_32 rfl (by first | exact b2_r | omega) ?_
      exact zv_end (by first | rw [b2_t (by unfold gEmp; omega)] | rw [b2_f (by unfold gEmp; omega)])
    · refine zw_aload_n z85_15 rfl ?_
      refine zw_iload_n z85_16 rfl ?_
      refine zw_vv (n := 2) z85_17 rfl rfl (by assumption) (Nat.le_of_ble_eq_true rfl) (by omega) (sp_mRank hm hG (by omega)) ?_
      refine zw_aload_n z85_20 rfl ?_
      refine zw_getf z85_21 (by assumption) (by rfl) ?_
      refine zj_icmp_ne z85_24 (by omega) (by omega) (fun h24 => ?_) (fun h24 => ?_)
      · refine zw_iconst z85_31 (v := iI 0) rfl ?_
        refine zj_bret z85_32 rfl (by first | exact b2_r | omega) ?_
        exact zv_end (by first | rw [b2_t (by unfold gEmp; omega)] | rw [b2_f (by unfold gEmp; omega)])
      · refine zw_iconst z85_27 (v := iI 1) rfl ?_
        refine zw_goto z85_28 ?_
        refine zj_bret z85_32 rfl (by first | exact b2_r | omega) ?_
        exact zv_end (by first | rw [b2_t (by unfold gEmp; omega)] | rw [b2_f (by unfold gEmp; omega)])
theorem sp_mIsColumn (hm : moA w G N A) (hG : gmV G) (hz : iR z) (hd : 1 ≤ d) (hq : 22 ≤ q) : zv d q 94 [.ref 817, iV z] w (iI (b2 (gCol G z))) := by
  intro L xs cn sn
  obtain ⟨d, rfl⟩ : ∃ e, d = e + 1 := ⟨d - 1, by omega⟩
  have hm9 := hm
  obtain ⟨m0, a0, a1, a2, a3, a4, a5, a6, a7, a8, a9, a10, a11, a12⟩ := hm9
  have hG' := hG
  unfold gmV at hG'
  refine ⟨_, rfl, ?_⟩
  show zw _ _ _ _ 94 0 [some (.ref 817), some (iV z)] [] _ _ _ _
  refine zw_iload_n z94_0 rfl ?_
  refine zw_iconst z94_1 (v := iI 0) rfl ?_
  refine zw_aload_n z94_2 rfl ?_
  refine zw_getf z94_3 (by assumption) (by rfl) ?_
  refine zw_iconst z94_6 (v := iI 1) rfl ?_
  refine zj_sub z94_7 ?_
  refine zw_vs (n := 3) z94_8 rfl rfl (Nat.le_of_ble_eq_true rfl) (by omega) (sp_mWithin (by omega) (by omega) (by omega)) ?_
  refine zj_bret z94_11 rfl (by first | exact b2_r | omega) ?_
  exact zv_end (by congr 1; apply b2_c; omega)
theorem sp_mIsCell (hm : moA w G N A) (hG : gmV G) (hz : iR z) (hd : 1 ≤ d) (hq : 22 ≤ q) : zv d q 95 [.ref 817, iV z] w (iI (b2 (gCel G z))) := by
  intro L xs cn sn
  obtain ⟨d, rfl⟩ : ∃ e, d = e + 1 := ⟨d - 1, by omega⟩
  have hm9 := hm
  obtain ⟨m0, a0, a1, a2, a3, a4, a5, a6, a7, a8, a9, a10, a11, a12⟩ := hm9
  have hG' := hG
  unfold gmV at hG'
  refine ⟨_, rfl, ?_⟩
  show zw _ _ _ _ 95 0 [some (.ref 817), some (iV z)] [] _ _ _ _
  refine zw_iload_n z95_0 rfl ?_
  refine zw_bipush z95_1 (v := iI (8)) (by decide +kernel) ?_
  refine zw_bipush z95_3 (v := iI (7)) (by decide +kernel) ?_
  refine zw_aload_n z95_5 rfl ?_
  refine zw_getf z95_6 (by assumption) (by rfl) ?_
  refine zj_add z95_9 ?_
  refine zw_vs (n := 3) z95_10 rfl rfl (Nat.le_of_ble_eq_true rfl) (by omega) (sp_mWithin (by omega) (by omega) (by omega)) ?_
  refine zj_bret z95_13 rfl (by first | exact b2_r | omega) ?_
  exact zv_end (by congr 1; apply b2_c; omega)
abbrev mAH (A : Nat → Nat → Int) : Int := A 3 0 + A 3 1 + A 3 2 + A 3 3
theorem sp_mAtHome (hm : moA w G N A) (hV : mtV A) : zv d q 96 [.ref 817] w (iI (mAH A)) := by
  intro L xs cn sn
  have hm9 := hm
  obtain ⟨m0, a0, a1, a2, a3, a4, a5, a6, a7, a8, a9, a10, a11, a12⟩ := hm9
  obtain ⟨v0, v1, v2, v3, v4, v5⟩ := hV
  refine ⟨_, rfl, ?_⟩
  show zw _ _ _ _ 96 0 [some (.ref 817)] [] _ _ _ _
  refine zw_aload_n z96_0 rfl ?_
  refine zw_getf z96_1 (by assumption) (by rfl) ?_
  refine zw_iconst z96_4 (v := iI 0) rfl ?_
  refine zj_aldB z96_5 (by assumption) (by omega) (by decide) v3 (fun v5 e5 r5 => ?_)
  refine zw_aload_n z96_6 rfl ?_
  refine zw_getf z96_7 (by assumption) (by rfl) ?_
  refine zw_iconst z96_10 (v := iI 1) rfl ?_
  refine zj_aldB z96_11 (by assumption) (by omega) (by decide) v3 (fun v11 e11 r11 => ?_)
  refine zj_add z96_12 ?_
  refine zw_aload_n z96_13 rfl ?_
  refine zw_getf z96_14 (by assumption) (by rfl) ?_
  refine zw_iconst z96_17 (v := iI 2) rfl ?_
  refine zj_aldB z96_18 (by assumption) (by omega) (by decide) v3 (fun v18 e18 r18 => ?_)
  refine zj_add z96_19 ?_
  refine zw_aload_n z96_20 rfl ?_
  refine zw_getf z96_21 (by assumption) (by rfl) ?_
  refine zw_iconst z96_24 (v := iI 3) rfl ?_
  refine zj_aldB z96_25 (by assumption) (by omega) (by decide) v3 (fun v25 e25 r25 => ?_)
  refine zj_add z96_26 ?_
  refine zw_iret z96_27 rfl ?_
  exact zv_end (by subst e5 e11 e18 e25; rfl)
abbrev mFT (A : Nat → Nat → Int) (p k : Int) : Int := if k < A 1 p.toNat then A 0 (52 * p + A 1 p.toNat - 1 - k).toNat else -1
theorem mFT_rng (hV : mtV A) : -1 ≤ mFT A z k ∧ mFT A z k ≤ 51 := by
  have := hV.1 (52 * z + A 1 z.toNat - 1 - k).toNat
  unfold mFT
  split <;> omega
theorem sp_mFromTop (hm : moA w G N A) (hV : mtV A) (hz : 0 ≤ z ∧ z < 8) (hk : 0 ≤ k ∧ k < 2147483648) : zv d q 97 [.ref 817, iV z, iV k] w (iI (mFT A z k)) := by
  intro L xs cn sn
  have hm9 := hm
  obtain ⟨m0, a0, a1, a2, a3, a4, a5, a6, a7, a8, a9, a10, a11, a12⟩ := hm9
  obtain ⟨v0, v1, v2, v3, v4, v5⟩ := hV
  refine ⟨_, rfl, ?_⟩
  show zw _ _ _ _ 97 0 [some (.ref 817), some (iV z), some (iV k)] [] _ _ _ _
  refine zw_iload_n z97_0 rfl ?_
  refine zw_aload_n z97_1 rfl ?_
  refine zw_getf z97_2 (by assumption) (by rfl) ?_
  refine zw_iload_n z97_5 rfl ?_
  refine zj_aldB z97_6 (by assumption) (by omega) (by decide) v1 (fun v6 e6 r6 => ?_)
  refine zj_icmp_ge z97_7 (by omega) (by omega) (fun h7 => ?_) (fun h7 => ?_)
  · refine zw_iconst z97_33 (v := iI (-1)) rfl ?_
    refine zw_iret z97_34 rfl ?_
    exact zv_end (by unfold mFT; first | (rw [if_neg (by omega)]) | (rw [if_pos (by omega)]; subst e29 e23; rfl))
  · refine zw_aload_n z97_10 rfl ?_
    refine zw_getf z97_11 (by assumption) (by rfl) ?_
    refine zw_bipush z97_14 (v := iI (52)) (by decide +kernel) ?_
    refine zw_iload_n z97_16 rfl ?_
    refine zj_mul z97_17 ?_
    refine zw_aload_n z97_18 rfl ?_
    refine zw_getf z97_19 (by assumption) (by rfl) ?_
    refine zw_iload_n z97_22 rfl ?_
    refine zj_aldB z97_23 (by assumption) (by omega) (by decide) v1 (fun v23 e23 r23 => ?_)
    refine zj_add z97_24 ?_
    refine zw_iconst z97_25 (v := iI 1) rfl ?_
    refine zj_sub z97_26 ?_
    refine zw_iload_n z97_27 rfl ?_
    refine zj_sub z97_28 ?_
    refine zj_aldB z97_29 (by assumption) (by omega) (by decide) v0 (fun v29 e29 r29 => ?_)
    refine zw_goto z97_30 ?_
    refine zw_iret z97_34 rfl ?_
    exact zv_end (by unfold mFT; first | (rw [if_neg (by omega)]) | (rw [if_pos (by omega)]; subst e29 e23; rfl))
abbrev mTp (G : Nat → Int) (A : Nat → Nat → Int) (z : Int) : Int := if gCel G z then A 2 (z - 8).toNat else mFT A z 0
theorem mTp_rng (hV : mtV A) : -1 ≤ mTp G A z ∧ mTp G A z ≤ 51 := by
  have h1 := hV.2.2.1 (z - 8).toNat
  have h2 := mFT_rng (z := z) (k := 0) hV
  unfold mTp
  split <;> omega
theorem sp_mTopOf (hm : moA w G N A) (hG : gmV G) (hV : mtV A) (hz : gCel G z ∨ (0 ≤ z ∧ z < 8)) (hd : 2 ≤ d) (hq : 43 ≤ q) : zv d q 98 [.ref 817, iV z] w (iI (mTp G A z)) := by
  intro L xs cn sn
  obtain ⟨d, rfl⟩ : ∃ e, d = e + 1 := ⟨d - 1, by omega⟩
  have hm9 := hm
  obtain ⟨m0, a0, a1, a2, a3, a4, a5, a6, a7, a8, a9, a10, a11, a12⟩ := hm9
  have hG' := hG
  unfold gmV at hG'
  have hV' := hV
  obtain ⟨v0, v1, v2, v3, v4, v5⟩ := hV'
  refine ⟨_, rfl, ?_⟩
  show zw _ _ _ _ 98 0 [some (.ref 817), some (iV z)] [] _ _ _ _
  refine zw_aload_n z98_0 rfl ?_
  refine zw_iload_n z98_1 rfl ?_
  refine zw_vv (n := 2) z98_2 rfl rfl (by assumption) (Nat.le_of_ble_eq_true rfl) (by omega) (sp_mIsCell hm hG (by omega) (by omega) (by omega)) ?_
  refine zj_b_eq z98_5 (fun h5 => ?_) (fun h5 => ?_)
  · refine zw_aload_n z98_20 rfl ?_
    refine zw_iload_n z98_21 rfl ?_
    refine zw_iconst z98_22 (v := iI 0) rfl ?_
    refine zw_vv (n := 3) z98_23 rfl rfl (by assumption) (Nat.le_of_ble_eq_true rfl) (by omega) (sp_mFromTop hm hV (by omega) (by omega)) ?_
    refine zw_iret z98_26 rfl ?_
    exact zv_end (by unfold mTp; first | (rw [if_neg (by omega)]) | (rw [if_pos (by omega)]; subst e16; rfl))
  · refine zw_aload_n z98_8 rfl ?_
    refine zw_getf z98_9 (by assumption) (by rfl) ?_
    refine zw_iload_n z98_12 rfl ?_
    refine zw_bipush z98_13 (v := iI (8)) (by decide +kernel) ?_
    refine zj_sub z98_15 ?_
    refine zj_aldB z98_16 (by assumption) (by omega) (by decide) v2 (fun v16 e16 r16 => ?_)
    refine zw_goto z98_17 ?_
    refine zw_iret z98_26 rfl ?_
    exact zv_end (by unfold mTp; first | (rw [if_neg (by omega)]) | (rw [if_pos (by omega)]; subst e16; rfl))
abbrev mFA (G : Nat → Int) (A : Nat → Nat → Int) (c p : Int) : Prop := if A 1 p.toNat = 0 then gEmp G c else gFit G c (mFT A p 0)
theorem sp_mFitsAt (hm : moA w G N A) (hG : gmV G) (hV : mtV A) (hc : 0 ≤ c ∧ c < 52) (hz : 0 ≤ z ∧ z < 8) (hd : 2 ≤ d) (hq : 43 ≤ q) : zv d q 99 [.ref 817, iV c, iV z] w (iI (b2 (mFA G A c z))) := by
  intro L xs cn sn
  obtain ⟨d, rfl⟩ : ∃ e, d = e + 1 := ⟨d - 1, by omega⟩
  have hm9 := hm
  obtain ⟨m0, a0, a1, a2, a3, a4, a5, a6, a7, a8, a9, a10, a11, a12⟩ := hm9
  have hV' := hV
  obtain ⟨v0, v1, v2, v3, v4, v5⟩ := hV'
  refine ⟨_, rfl, ?_⟩
  show zw _ _ _ _ 99 0 [some (.ref 817), some (iV c), some (iV z)] [] _ _ _ _
  refine zw_aload_n z99_0 rfl ?_
  refine zw_getf z99_1 (by assumption) (by rfl) ?_
  refine zw_iload_n z99_4 rfl ?_
  refine zj_aldB z99_5 a1 (by omega) (by decide) v1 (fun v5 e5 r5 => ?_)
  refine zj_if_ne z99_6 (by omega) (fun h6 => ?_) (fun h6 => ?_)
  · have hf : 0 ≤ mFT A z 0 ∧ mFT A z 0 < 52 := by
      have h1 := v0 (52 * z + A 1 z.toNat - 1 - 0).toNat
      have h2 := v1 z.toNat
      unfold mFT
      rw [if_pos (by omega)]
      omega
    refine zw_aload_n z99_17 rfl ?_
    refine zw_iload_n z99_18 rfl ?_
    refine zw_aload_n z99_19 rfl ?_
    refine zw_iload_n z99_20 rfl ?_
    refine zw_iconst z99_21 (v := iI 0) rfl ?_
    refine zw_vv (n := 3) z99_22 rfl rfl (by assumption) (Nat.le_of_ble_eq_true rfl) (by omega) (sp_mFromTop hm hV (by omega) (by omega)) ?_
    refine zw_vv (n := 3) z99_25 rfl rfl (by assumption) (Nat.le_of_ble_eq_true rfl) (by omega) (sp_mFitsOn hm hG hc hf (by omega) (by omega)) ?_
    refine zj_bret z99_28 rfl b2_r ?_
    exact zv_end (by congr 1; apply b2_c; unfold mFA; rw [if_neg (by omega)])
  · refine zw_aload_n z99_9 rfl ?_
    refine zw_iload_n z99_10 rfl ?_
    refine zw_vv (n := 2) z99_11 rfl rfl (by assumption) (Nat.le_of_ble_eq_true rfl) (by omega) (sp_mFitsEmpty hm hG hc (by omega) (by omega)) ?_
    refine zw_goto z99_14 ?_
    refine zj_bret z99_28 rfl b2_r ?_
    exact zv_end (by congr 1; apply b2_c; unfold mFA; rw [if_pos (by omega)])
abbrev mOn (G : Nat → Int) (A : Nat → Nat → Int) (z y c : Int) : Prop := 0 ≤ c ∧ z ≠ y ∧ (if y = 12 then A 3 (gSuit G c).toNat + 1 = gRank G c else if gCel G y then gCol G z ∧ A 2 (y - 8).toNat < 0 else mFA G A c y)
abbrev mOne (G : Nat → Int) (A : Nat → Nat → Int) (z y : Int) : Prop := mOn G A z y (mTp G A z)
theorem sp_mMayOne (hm : moA w G N A) (hG : gmV G) (hV : mtV A) (hz : gCol G z ∨ gCel G z) (hy : gPla G y) (hd : 3 ≤ d) (hq : 65 ≤ q) : zv d q 100 [.ref 817, iV z, iV y] w (iI (b2 (mOne G A z y))) := by
  intro L xs cn sn
  obtain ⟨d, rfl⟩ : ∃ e, d = e + 1 := ⟨d - 1, by omega⟩
  have hm9 := hm
  obtain ⟨m0, a0, a1, a2, a3, a4, a5, a6, a7, a8, a9, a10, a11, a12⟩ := hm9
  have hG' := hG
  unfold gmV at hG'
  have hV' := hV
  obtain ⟨v0, v1, v2, v3, v4, v5⟩ := hV'
  have ht := mTp_rng (G := G) (z := z) hV
  unfold mOne
  refine ⟨_, rfl, ?_⟩
  show zw _ _ _ _ 100 0 [some (.ref 817), some (iV z), some (iV y), none] [] _ _ _ _
  refine zw_aload_n z100_0 rfl ?_
  refine zw_iload_n z100_1 rfl ?_
  refine zw_vv (n := 2) z100_2 rfl rfl (by assumption) (Nat.le_of_ble_eq_true rfl) (by omega) (sp_mTopOf hm hG hV (by omega) (by omega) (by omega)) ?_
  generalize mTp G A z = c at *
  refine zw_istore_n z100_5 rfl ?_
  refine zw_iload_n z100_6 rfl ?_
  refine zj_if_lt z100_7 (by omega) (fun h1 => ?_) (fun h1 => ?_)
  · refine zw_iconst z100_15 (v := iI 0) rfl ?_
    refine zj_bret z100_16 rfl (by omega) ?_
    exact zv_end (by rw [b2_f (fun h => by have := h.1; omega)])
  refine zw_iload_n z100_10 rfl ?_
  refine zw_iload_n z100_11 rfl ?_
  refine zj_icmp_ne z100_12 (by omega) (by omega) (fun h2 => ?_) (fun h2 => ?_)
  rotate_left
  · refine zw_iconst z100_15 (v := iI 0) rfl ?_
    refine zj_bret z100_16 rfl (by omega) ?_
    exact zv_end (by rw [b2_f (fun h => by have := h.2.1; omega)])
  have rc := gRank_rng (c := c) hG (by omega)
  have sc := gSuit_rng (c := c) hG
  refine zw_iload_n z100_17 rfl ?_
  refine zw_bipush z100_18 (v := iI (12)) (by decide +kernel) ?_
  refine zj_icmp_ne z100_20 (by omega) (by omega) (fun h3 => ?_) (fun h3 => ?_)
  rotate_left
  · refine zw_aload_n z100_23 rfl ?_
    refine zw_getf z100_24 (by assumption) (by rfl) ?_
    refine zw_aload_n z100_27 rfl ?_
    refine zw_iload_n z100_28 rfl ?_
    refine zw_vv (n := 2) z100_29 rfl rfl (by assumption) (Nat.le_of_ble_eq_true rfl) (by omega) (sp_mSuit hm hG (by omega)) ?_
    refine zj_aldB z100_32 a3 (by omega) (by decide) v3 (fun v32 e32 r32 => ?_)
    refine zw_iconst z100_33 (v := iI 1) rfl ?_
    refine zj_add z100_34 ?_
    refine zw_aload_n z100_35 rfl ?_
    refine zw_iload_n z100_36 rfl ?_
    refine zw_vv (n := 2) z100_37 rfl rfl (by assumption) (Nat.le_of_ble_eq_true rfl) (by omega) (sp_mRank hm hG (by omega)) ?_
    refine zj_icmp_ne z100_40 (by omega) (by omega) (fun h4 => ?_) (fun h4 => ?_)
    · refine zw_iconst z100_47 (v := iI 0) rfl ?_
      refine zj_bret z100_48 rfl (by omega) ?_
      exact zv_end (by rw [b2_f (fun h => by have := h.2.2; rw [if_pos (by omega)] at this; omega)])
    · refine zw_iconst z100_43 (v := iI 1) rfl ?_
      refine zw_goto z100_44 ?_
      refine zj_bret z100_48 rfl (by omega) ?_
      exact zv_end (by rw [b2_t ⟨by omega, by omega, by rw [if_pos (by omega)]; omega⟩])
  refine zw_aload_n z100_49 rfl ?_
  refine zw_iload_n z100_50 rfl ?_
  refine zw_vv (n := 2) z100_51 rfl rfl (by assumption) (Nat.le_of_ble_eq_true rfl) (by omega) (sp_mIsCell hm hG (by omega) (by omega) (by omega)) ?_
  refine zj_b_eq z100_54 (fun h5 => ?_) (fun h5 => ?_)
  · refine zw_aload_n z100_83 rfl ?_
    refine zw_iload_n z100_84 rfl ?_
    refine zw_iload_n z100_85 rfl ?_
    refine zw_vv (n := 3) z100_86 rfl rfl (by assumption) (Nat.le_of_ble_eq_true rfl) (by omega) (sp_mFitsAt hm hG hV (by omega) (by omega) (by omega) (by omega)) ?_
    refine zj_bret z100_89 rfl b2_r ?_
    exact zv_end (by congr 1; apply b2_c; rw [show mOn G A z y c = (0 ≤ c ∧ z ≠ y ∧ _) from rfl, if_neg h3, if_neg h5]; exact ⟨fun h => ⟨by omega, by omega, h⟩, fun h => h.2.2⟩)
  refine zw_aload_n z100_57 rfl ?_
  refine zw_iload_n z100_58 rfl ?_
  refine zw_vv (n := 2) z100_59 rfl rfl (by assumption) (Nat.le_of_ble_eq_true rfl) (by omega) (sp_mIsColumn hm hG (by omega) (by omega) (by omega)) ?_
  refine zj_b_eq z100_62 (fun h6 => ?_) (fun h6 => ?_)
  · refine zw_iconst z100_81 (v := iI 0) rfl ?_
    refine zj_bret z100_82 rfl (by omega) ?_
    exact zv_end (by rw [b2_f (fun h => by have := h.2.2; rw [if_neg h3, if_pos h5] at this; exact h6 this.1)])
  refine zw_aload_n z100_65 rfl ?_
  refine zw_getf z100_66 (by assumption) (by rfl) ?_
  refine zw_iload_n z100_69 rfl ?_
  refine zw_bipush z100_70 (v := iI (8)) (by decide +kernel) ?_
  refine zj_sub z100_72 ?_
  refine zj_aldB z100_73 a2 (by omega) (by decide) v2 (fun v73 e73 r73 => ?_)
  refine zj_if_ge z100_74 (by omega) (fun h7 => ?_) (fun h7 => ?_)
  · refine zw_iconst z100_81 (v := iI 0) rfl ?_
    refine zj_bret z100_82 rfl (by omega) ?_
    exact zv_end (by rw [b2_f (fun h => by have := h.2.2; rw [if_neg h3, if_pos h5] at this; omega)])
  · refine zw_iconst z100_77 (v := iI 1) rfl ?_
    refine zw_goto z100_78 ?_
    refine zj_bret z100_82 rfl (by omega) ?_
    exact zv_end (by rw [b2_t ⟨by omega, by omega, by rw [if_neg h3, if_pos h5]; exact ⟨h6, by omega⟩⟩])
end ZMO
end
section
/-! The reference: counts, limits, rows, what is safe. (Laid out by gen/tpl.py from tpl/61.model.tpl.) -/
section ZMP
variable {L : Nat} {xs : Nat → Int32} {d q : Nat} {w : zi_W} {cn sn : Nat} {Q : zi_O → zi_W → Nat → Nat → Prop} {G N : Nat → Int} {A : Nat → Nat → Int} {z y m c o a b e k : Int}
def mLd (f : Nat → Int) : Nat → Int → Int → Int
  | 0, _, n => n
  | j + 1, c, n => mLd f j (c + 1) (if f c.toNat = 0 then n else n + 1)
abbrev mLaid (A : Nat → Nat → Int) : Int := mLd (A 4) 52 0 0
theorem mLd_rng {f : Nat → Int} : ∀ (j : Nat) (c n : Int), n ≤ mLd f j c n ∧ mLd f j c n ≤ n + j := by
  intro j
  induction j with
  | zero => intro c n; exact ⟨Int.le_refl _, by show n ≤ n + 0; omega⟩
  | succ j ih =>
    intro c n
    have := ih (c + 1) (if f c.toNat = 0 then n else n + 1)
    unfold mLd
    split at this <;> rename_i h <;> simp only [h, if_true, if_false] <;> omega
theorem sp_mLaid (hm : moA w G N A) (hV : mtV A) : zv d q 92 [.ref 817] w (iI (mLaid A)) := by
  intro L xs cn sn
  have hm9 := hm
  obtain ⟨m0, a0, a1, a2, a3, a4, a5, a6, a7, a8, a9, a10, a11, a12⟩ := hm9
  obtain ⟨v0, v1, v2, v3, v4, v5⟩ := hV
  have lp : ∀ (j : Nat) (c n : Int), c + j = 52 → 0 ≤ c → 0 ≤ n ∧ n ≤ c → mLd (A 4) j c n = mLaid A → zw L xs d q 92 4 [some (.ref 817), some (iV n), some (iV c)] [] w cn sn (fun o w' cn' sn' => ∃ v, o = .inl v ∧ (v = some (.int (iI (mLaid A))) ∧ w' = w ∧ cn' = cn ∧ sn' = sn)) := by
    intro j
    induction j with
    | zero =>
      intro c n h1 h2 h3 h4
      refine zw_iload_n z92_4 rfl ?_
      refine zw_bipush z92_5 (v := iI (52)) (by decide +kernel) ?_
      refine zj_icmp_ge z92_7 (by omega) (by omega) (fun h7 => ?_) (fun h7 => ?_)
      · refine zw_iload_n z92_33 rfl ?_
        refine zw_iret z92_34 rfl ?_
        exact zv_end (congrArg iI h4)
      · exfalso; omega
    | succ j ih =>
      intro c n h1 h2 h3 h4
      have hb := v4 c.toNat
      refine zw_iload_n z92_4 rfl ?_
      refine zw_bipush z92_5 (v := iI (52)) (by decide +kernel) ?_
      refine zj_icmp_ge z92_7 (by omega) (by omega) (fun h7 => ?_) (fun h7 => ?_)
      · exfalso; omega
      refine zw_aload_n z92_10 rfl ?_
      refine zw_getf z92_11 (by assumption) (by rfl) ?_
      refine zw_iload_n z92_14 rfl ?_
      refine zj_bld z92_15 (by assumption) (by omega) (by decide) ?_
      refine zj_if_eq z92_16 (by omega) (fun h16 => ?_) (fun h16 => ?_)
      · refine zw_iload_n z92_25 rfl ?_
        refine zw_istore_n z92_26 rfl ?_
        refine zj_iinc z92_27 rfl rfl ?_
        refine zw_goto z92_30 ?_
        exact ih (c + 1) n (by omega) (by omega) (by omega) (by rw [← h4]; show _ = mLd (A 4) j (c + 1) (if _ then _ else _); rw [if_pos h16])
      · refine zw_iload_n z92_19 rfl ?_
        refine zw_iconst z92_20 (v := iI 1) rfl ?_
        refine zj_add z92_21 ?_
        refine zw_goto z92_22 ?_
        refine zw_istore_n z92_26 rfl ?_
        refine zj_iinc z92_27 rfl rfl ?_
        refine zw_goto z92_30 ?_
        exact ih (c + 1) (n + 1) (by omega) (by omega) (by omega) (by rw [← h4]; show _ = mLd (A 4) j (c + 1) (if _ then _ else _); rw [if_neg h16])
  refine ⟨_, rfl, ?_⟩
  show zw _ _ _ _ 92 0 [some (.ref 817), none, none] [] _ _ _ _
  refine zw_iconst z92_0 (v := iI 0) rfl ?_
  refine zw_istore_n z92_1 rfl ?_
  refine zw_iconst z92_2 (v := iI 0) rfl ?_
  refine zw_istore_n z92_3 rfl ?_
  exact lp 52 0 0 (by omega) (by omega) (by omega) rfl
def mL1 (A : Nat → Nat → Int) : Nat → Int → Int → Int
  | 0, _, n => n
  | j + 1, k, n => mL1 A j (k + 1) (if A 2 k.toNat < 0 then n + 1 else n)
def mL2 (G : Nat → Int) (A : Nat → Nat → Int) (y : Int) : Nat → Int → Int → Int
  | 0, _, n => n
  | j + 1, p, n => mL2 G A y j (p + 1) (if G 3 = 0 ∧ p ≠ y ∧ A 1 p.toNat = 0 then 2 * n else n)
abbrev mLim (G : Nat → Int) (A : Nat → Nat → Int) (y : Int) : Int := mL2 G A y (G 0).toNat 0 (mL1 A (G 1).toNat 0 1)
theorem mL1_rng : ∀ (j : Nat) (k n : Int), n ≤ mL1 A j k n ∧ mL1 A j k n ≤ n + j := by
  intro j
  induction j with
  | zero => intro c n; exact ⟨Int.le_refl _, by show n ≤ n + 0; omega⟩
  | succ j ih =>
    intro c n
    have := ih (c + 1) (if A 2 c.toNat < 0 then n + 1 else n)
    unfold mL1
    split at this <;> rename_i h <;> simp only [h, if_true, if_false] <;> omega
theorem mL2_rng : ∀ (j : Nat) (k n : Int), 0 ≤ n → n ≤ mL2 G A y j k n ∧ mL2 G A y j k n ≤ n * 2 ^ j := by
  intro j
  induction j with
  | zero => intro c n _; exact ⟨Int.le_refl _, by show n ≤ n * 1; omega⟩
  | succ j ih =>
    intro c n hn
    have hp : (2 : Int) ^ (j + 1) = 2 * 2 ^ j := by rw [Int.pow_succ]; omega
    have h0 : (0 : Int) ≤ n * 2 ^ j := Int.mul_nonneg hn (Int.le_of_lt (Int.pow_pos (by omega)))
    have e1 : n * 2 ^ (j + 1) = 2 * (n * 2 ^ j) := by rw [hp, Int.mul_left_comm]
    have e2 : 2 * n * 2 ^ j = 2 * (n * 2 ^ j) := by rw [Int.mul_assoc]
    unfold mL2
    rw [e1]
    split
    · have := ih (c + 1) (2 * n) (by omega)
      rw [e2] at this
      omega
    · have := ih (c + 1) n hn
      omega
theorem mLim_rng (hG : gmV G) : 1 ≤ mLim G A y ∧ mLim G A y ≤ 1280 := by
  unfold gmV at hG
  have h1 := mL1_rng (A := A) (G 1).toNat 0 1
  have h2 := mL2_rng (G := G) (A := A) (y := y) (G 0).toNat 0 (mL1 A (G 1).toNat 0 1) (by omega)
  have h3 := pw2 (G 0).toNat (by omega)
  have h4 : mL1 A (G 1).toNat 0 1 * 2 ^ (G 0).toNat ≤ 5 * 256 := Int.mul_le_mul (by omega) h3.2 (by omega) (by omega)
  unfold mLim
  omega
theorem sp_mLimit (hm : moA w G N A) (hG : gmV G) (hV : mtV A) (hy : iR y) : zv d q 101 [.ref 817, iV y] w (iI (mLim G A y)) := by
  intro L xs cn sn
  have hm9 := hm
  obtain ⟨m0, a0, a1, a2, a3, a4, a5, a6, a7, a8, a9, a10, a11, a12⟩ := hm9
  have hG' := hG
  unfold gmV at hG'
  obtain ⟨v0, v1, v2, v3, v4, v5⟩ := hV
  have lp2 : ∀ (j : Nat) (p n : Int), p + j = G 0 → 0 ≤ p → mL2 G A y j p n = mLim G A y → zw L xs d q 101 37 [some (.ref 817), some (iV y), some (iV n), some (iV p)] [] w cn sn (fun o w' cn' sn' => ∃ v, o = .inl v ∧ (v = some (.int (iI (mLim G A y))) ∧ w' = w ∧ cn' = cn ∧ sn' = sn)) := by
    intro j
    induction j with
    | zero =>
      intro p n h1 h2 h4
      refine zw_iload_n z101_37 rfl ?_
      refine zw_aload_n z101_38 rfl ?_
      refine zw_getf z101_39 (by assumption) (by rfl) ?_
      refine zj_icmp_ge z101_42 (by omega) (by omega) (fun h7 => ?_) (fun h7 => ?_)
      · refine zw_iload_n z101_80 rfl ?_
        refine zw_iret z101_81 rfl ?_
        exact zv_end (congrArg iI h4)
      · exfalso; omega
    | succ j ih =>
      intro p n h1 h2 h4
      have hb := v1 p.toNat
      have h4 : mL2 G A y j (p + 1) (if G 3 = 0 ∧ p ≠ y ∧ A 1 p.toNat = 0 then 2 * n else n) = mLim G A y := h4
      have kf : ¬ (G 3 = 0 ∧ p ≠ y ∧ A 1 p.toNat = 0) → zw L xs d q 101 72 [some (.ref 817), some (iV y), some (iV n), some (iV p)] [] w cn sn (fun o w' cn' sn' => ∃ v, o = .inl v ∧ (v = some (.int (iI (mLim G A y))) ∧ w' = w ∧ cn' = cn ∧ sn' = sn)) := by
        intro hn
        rw [if_neg hn] at h4
        refine zw_iload_n z101_72 rfl ?_
        refine zw_istore_n z101_73 rfl ?_
        refine zj_iinc z101_74 rfl rfl ?_
        refine zw_goto z101_77 ?_
        exact ih (p + 1) n (by omega) (by omega) h4
      refine zw_iload_n z101_37 rfl ?_
      refine zw_aload_n z101_38 rfl ?_
      refine zw_getf z101_39 (by assumption) (by rfl) ?_
      refine zj_icmp_ge z101_42 (by omega) (by omega) (fun h7 => ?_) (fun h7 => ?_)
      · exfalso; omega
      refine zw_aload_n z101_45 rfl ?_
      refine zw_getf z101_46 (by assumption) (by rfl) ?_
      refine zj_if_ne z101_49 (by omega) (fun h8 => ?_) (fun h8 => ?_)
      · exact kf (fun h => h8 h.1)
      refine zw_iload_n z101_52 rfl ?_
      refine zw_iload_n z101_53 rfl ?_
      refine zj_icmp_eq z101_54 (by omega) (by omega) (fun h9 => ?_) (fun h9 => ?_)
      · exact kf (fun h => h.2.1 h9)
      refine zw_aload_n z101_57 rfl ?_
      refine zw_getf z101_58 (by assumption) (by rfl) ?_
      refine zw_iload_n z101_61 rfl ?_
      refine zj_ald z101_62 (by assumption) (by omega) (by decide) ?_
      refine zj_if_ne z101_63 (by omega) (fun h10 => ?_) (fun h10 => ?_)
      · exact kf (fun h => h10 h.2.2)
      rw [if_pos ⟨by omega, by omega, by omega⟩] at h4
      refine zw_iconst z101_66 (v := iI 2) rfl ?_
      refine zw_iload_n z101_67 rfl ?_
      refine zj_mul z101_68 ?_
      refine zw_goto z101_69 ?_
      refine zw_istore_n z101_73 rfl ?_
      refine zj_iinc z101_74 rfl rfl ?_
      refine zw_goto z101_77 ?_
      exact ih (p + 1) (2 * n) (by omega) (by omega) h4
  have lp1 : ∀ (j : Nat) (p n : Int), p + j = G 1 → 0 ≤ p → mL1 A j p n = mL1 A (G 1).toNat 0 1 → zw L xs d q 101 4 [some (.ref 817), some (iV y), some (iV n), some (iV p)] [] w cn sn (fun o w' cn' sn' => ∃ v, o = .inl v ∧ (v = some (.int (iI (mLim G A y))) ∧ w' = w ∧ cn' = cn ∧ sn' = sn)) := by
    intro j
    induction j with
    | zero =>
      intro p n h1 h2 h4
      have h4 : n = mL1 A (G 1).toNat 0 1 := h4
      refine zw_iload_n z101_4 rfl ?_
      refine zw_aload_n z101_5 rfl ?_
      refine zw_getf z101_6 (by assumption) (by rfl) ?_
      refine zj_icmp_ge z101_9 (by omega) (by omega) (fun h7 => ?_) (fun h7 => ?_)
      · refine zw_iconst z101_35 (v := iI 0) rfl ?_
        refine zw_istore_n z101_36 rfl ?_
        exact lp2 (G 0).toNat 0 n (by omega) (by omega) (by rw [h4])
      · exfalso; omega
    | succ j ih =>
      intro p n h1 h2 h4
      have hb := v2 p.toNat
      have h4 : mL1 A j (p + 1) (if A 2 p.toNat < 0 then n + 1 else n) = mL1 A (G 1).toNat 0 1 := h4
      refine zw_iload_n z101_4 rfl ?_
      refine zw_aload_n z101_5 rfl ?_
      refine zw_getf z101_6 (by assumption) (by rfl) ?_
      refine zj_icmp_ge z101_9 (by omega) (by omega) (fun h7 => ?_) (fun h7 => ?_)
      · exfalso; omega
      refine zw_aload_n z101_12 rfl ?_
      refine zw_getf z101_13 (by assumption) (by rfl) ?_
      refine zw_iload_n z101_16 rfl ?_
      refine zj_ald z101_17 (by assumption) (by omega) (by decide) ?_
      refine zj_if_ge z101_18 (by omega) (fun h8 => ?_) (fun h8 => ?_)
      · rw [if_neg (by omega)] at h4
        refine zw_iload_n z101_27 rfl ?_
        refine zw_istore_n z101_28 rfl ?_
        refine zj_iinc z101_29 rfl rfl ?_
        refine zw_goto z101_32 ?_
        exact ih (p + 1) n (by omega) (by omega) h4
      · rw [if_pos (by omega)] at h4
        refine zw_iload_n z101_21 rfl ?_
        refine zw_iconst z101_22 (v := iI 1) rfl ?_
        refine zj_add z101_23 ?_
        refine zw_goto z101_24 ?_
        refine zw_istore_n z101_28 rfl ?_
        refine zj_iinc z101_29 rfl rfl ?_
        refine zw_goto z101_32 ?_
        exact ih (p + 1) (n + 1) (by omega) (by omega) h4
  refine ⟨_, rfl, ?_⟩
  show zw _ _ _ _ 101 0 [some (.ref 817), some (iV y), none, none] [] _ _ _ _
  refine zw_iconst z101_0 (v := iI 1) rfl ?_
  refine zw_istore_n z101_1 rfl ?_
  refine zw_iconst z101_2 (v := iI 0) rfl ?_
  refine zw_istore_n z101_3 rfl ?_
  exact lp1 (G 1).toNat 0 1 (by omega) (by omega) rfl
/-- the cards of column z from k on, j of them, fit on those beneath -/
def mRw (G : Nat → Int) (A : Nat → Nat → Int) (z : Int) : Nat → Int → Int
  | 0, _ => 1
  | j + 1, k => if gFit G (mFT A z k) (mFT A z (k + 1)) then mRw G A z j (k + 1) else 0
abbrev mRws (G : Nat → Int) (A : Nat → Nat → Int) (z y m : Int) : Prop := gCol G z ∧ gCol G y ∧ z ≠ y ∧ m ≤ A 1 z.toNat ∧ m ≤ mLim G A y ∧ mRw G A z (m - 1).toNat 0 = 1 ∧ mFA G A (mFT A z (m - 1)) y
abbrev mMay (G : Nat → Int) (A : Nat → Nat → Int) (z y m : Int) : Prop := if m = 1 then mOne G A z y else mRws G A z y m
theorem mFT_in (hV : mtV A) (hk : k < A 1 z.toNat) : 0 ≤ mFT A z k ∧ mFT A z k < 52 := by
  have h1 := hV.1 (52 * z + A 1 z.toNat - 1 - k).toNat
  unfold mFT
  rw [if_pos hk]
  omega
theorem sp_mMay (hm : moA w G N A) (hG : gmV G) (hV : mtV A) (hz : gCol G z ∨ gCel G z) (hy : gPla G y) (hm1 : 1 ≤ m ∧ m < 2147483648) (hd : 4 ≤ d) (hq : 88 ≤ q) : zv d q 102 [.ref 817, iV z, iV y, iV m] w (iI (b2 (mMay G A z y m))) := by
  intro L xs cn sn
  obtain ⟨d, rfl⟩ : ∃ e, d = e + 1 := ⟨d - 1, by omega⟩
  have hm9 := hm
  obtain ⟨m0, a0, a1, a2, a3, a4, a5, a6, a7, a8, a9, a10, a11, a12⟩ := hm9
  have hG' := hG
  unfold gmV at hG'
  have hV' := hV
  obtain ⟨v0, v1, v2, v3, v4, v5⟩ := hV'
  have hl := mLim_rng (A := A) (y := y) hG
  have hh := v1 z.toNat
  refine ⟨_, rfl, ?_⟩
  show zw _ _ _ _ 102 0 [some (.ref 817), some (iV z), some (iV y), some (iV m), none] [] _ _ _ _
  refine zw_iload_n z102_0 rfl ?_
  refine zw_iconst z102_1 (v := iI 1) rfl ?_
  refine zj_icmp_ne z102_2 (by omega) (by omega) (fun h1 => ?_) (fun h1 => ?_)
  rotate_left
  · refine zw_aload_n z102_5 rfl ?_
    refine zw_iload_n z102_6 rfl ?_
    refine zw_iload_n z102_7 rfl ?_
    refine zw_vv (n := 4) z102_8 rfl rfl (by assumption) (Nat.le_of_ble_eq_true rfl) (by omega) (sp_mMayOne hm hG hV hz hy (by omega) (by omega)) ?_
    refine zj_bret z102_11 rfl b2_r ?_
    exact zv_end (by congr 1; apply b2_c; unfold mMay; rw [if_pos (by omega)])
  have kf : ¬ mRws G A z y m → ∀ x4, zw L xs (d + 1) q 102 52 [some (.ref 817), some (iV z), some (iV y), some (iV m), x4] [] w cn sn (fun o w' cn' sn' => ∃ v, o = .inl v ∧ (v = some (.int (iI (b2 (mMay G A z y m)))) ∧ w' = w ∧ cn' = cn ∧ sn' = sn)) := by
    intro hn x4
    refine zw_iconst z102_52 (v := iI 0) rfl ?_
    refine zj_bret z102_53 rfl (by omega) ?_
    exact zv_end (by rw [b2_f (by unfold mMay; rw [if_neg h1]; exact hn)])
  refine zw_aload_n z102_12 rfl ?_
  refine zw_iload_n z102_13 rfl ?_
  refine zw_vv (n := 2) z102_14 rfl rfl (by assumption) (Nat.le_of_ble_eq_true rfl) (by omega) (sp_mIsColumn hm hG (by omega) (by omega) (by omega)) ?_
  refine zj_b_eq z102_17 (fun h2 => ?_) (fun h2 => ?_)
  · exact kf (fun h => h2 h.1) _
  refine zw_aload_n z102_20 rfl ?_
  refine zw_iload_n z102_21 rfl ?_
  refine zw_vv (n := 2) z102_22 rfl rfl (by assumption) (Nat.le_of_ble_eq_true rfl) (by omega) (sp_mIsColumn hm hG (by omega) (by omega) (by omega)) ?_
  refine zj_b_eq z102_25 (fun h3 => ?_) (fun h3 => ?_)
  · exact kf (fun h => h3 h.2.1) _
  refine zw_iload_n z102_28 rfl ?_
  refine zw_iload_n z102_29 rfl ?_
  refine zj_icmp_eq z102_30 (by omega) (by omega) (fun h4 => ?_) (fun h4 => ?_)
  · exact kf (fun h => h.2.2.1 h4) _
  refine zw_iload_n z102_33 rfl ?_
  refine zw_aload_n z102_34 rfl ?_
  refine zw_getf z102_35 (by assumption) (by rfl) ?_
  refine zw_iload_n z102_38 rfl ?_
  refine zj_ald z102_39 (by assumption) (by omega) (by decide) ?_
  refine zj_icmp_gt z102_40 (by omega) (by omega) (fun h5 => ?_) (fun h5 => ?_)
  · exact kf (fun h => by have := h.2.2.2.1; omega) _
  refine zw_iload_n z102_43 rfl ?_
  refine zw_aload_n z102_44 rfl ?_
  refine zw_iload_n z102_45 rfl ?_
  refine zw_vv (n := 4) z102_46 rfl rfl (by assumption) (Nat.le_of_ble_eq_true rfl) (by omega) (sp_mLimit hm hG hV (by omega)) ?_
  refine zj_icmp_le z102_49 (by omega) (by omega) (fun h6 => ?_) (fun h6 => ?_)
  rotate_left
  · exact kf (fun h => by have := h.2.2.2.2.1; omega) _
  refine zw_iconst z102_54 (v := iI 0) rfl ?_
  refine zw_istore z102_55 rfl ?_
  have lp : ∀ (j : Nat) (k : Int), k + j = m - 1 → 0 ≤ k → mRw G A z j k = mRw G A z (m - 1).toNat 0 → zw L xs (d + 1) q 102 57 [some (.ref 817), some (iV z), some (iV y), some (iV m), some (iV k)] [] w cn sn (fun o w' cn' sn' => ∃ v, o = .inl v ∧ (v = some (.int (iI (b2 (mMay G A z y m)))) ∧ w' = w ∧ cn' = cn ∧ sn' = sn)) := by
    intro j
    induction j with
    | zero =>
      intro k e1 e2 e3
      have e3 : 1 = mRw G A z (m - 1).toNat 0 := e3
      have hf := mFT_in (z := z) (k := m - 1) hV (by omega)
      refine zw_iload z102_57 rfl ?_
      refine zw_iconst z102_59 (v := iI 1) rfl ?_
      refine zj_add z102_60 ?_
      refine zw_iload_n z102_61 rfl ?_
      refine zj_icmp_ge z102_62 (by omega) (by omega) (fun h7 => ?_) (fun h7 => ?_)
      · refine zw_aload_n z102_96 rfl ?_
        refine zw_aload_n z102_97 rfl ?_
        refine zw_iload_n z102_98 rfl ?_
        refine zw_iload_n z102_99 rfl ?_
        refine zw_iconst z102_100 (v := iI 1) rfl ?_
        refine zj_sub z102_101 ?_
        refine zw_vv (n := 3) z102_102 rfl rfl (by assumption) (Nat.le_of_ble_eq_true rfl) (by omega) (sp_mFromTop hm hV (by omega) (by omega)) ?_
        refine zw_iload_n z102_105 rfl ?_
        refine zw_vv (n := 3) z102_106 rfl rfl (by assumption) (Nat.le_of_ble_eq_true rfl) (by omega) (sp_mFitsAt hm hG hV hf (by omega) (by omega) (by omega)) ?_
        refine zj_bret z102_109 rfl b2_r ?_
        exact zv_end (by congr 1; apply b2_c; unfold mMay; rw [if_neg h1]; exact ⟨fun h => ⟨h2, h3, by omega, by omega, by omega, e3.symm, h⟩, fun h => h.2.2.2.2.2.2⟩)
      · exfalso; omega
    | succ j ih =>
      intro k e1 e2 e3
      have f1 := mFT_in (z := z) (k := k) hV (by omega)
      have f2 := mFT_in (z := z) (k := k + 1) hV (by omega)
      have e3 : (if gFit G (mFT A z k) (mFT A z (k + 1)) then mRw G A z j (k + 1) else 0) = mRw G A z (m - 1).toNat 0 := e3
      refine zw_iload z102_57 rfl ?_
      refine zw_iconst z102_59 (v := iI 1) rfl ?_
      refine zj_add z102_60 ?_
      refine zw_iload_n z102_61 rfl ?_
      refine zj_icmp_ge z102_62 (by omega) (by omega) (fun h7 => ?_) (fun h7 => ?_)
      · exfalso; omega
      refine zw_aload_n z102_65 rfl ?_
      refine zw_aload_n z102_66 rfl ?_
      refine zw_iload_n z102_67 rfl ?_
      refine zw_iload z102_68 rfl ?_
      refine zw_vv (n := 3) z102_70 rfl rfl (by assumption) (Nat.le_of_ble_eq_true rfl) (by omega) (sp_mFromTop hm hV (by omega) (by omega)) ?_
      refine zw_aload_n z102_73 rfl ?_
      refine zw_iload_n z102_74 rfl ?_
      refine zw_iload z102_75 rfl ?_
      refine zw_iconst z102_77 (v := iI 1) rfl ?_
      refine zj_add z102_78 ?_
      refine zw_vv (n := 3) z102_79 rfl rfl (by assumption) (Nat.le_of_ble_eq_true rfl) (by omega) (sp_mFromTop hm hV (by omega) (by omega)) ?_
      refine zw_vv (n := 3) z102_82 rfl rfl (by assumption) (Nat.le_of_ble_eq_true rfl) (by omega) (sp_mFitsOn hm hG f1 f2 (by omega) (by omega)) ?_
      refine zj_b_ne z102_85 (fun h8 => ?_) (fun h8 => ?_)
      · rw [if_pos h8] at e3
        refine zj_iinc z102_90 rfl rfl ?_
        refine zw_goto z102_93 ?_
        exact ih (k + 1) (by omega) (by omega) e3
      · rw [if_neg h8] at e3
        refine zw_iconst z102_88 (v := iI 0) rfl ?_
        refine zj_bret z102_89 rfl (by omega) ?_
        exact zv_end (by rw [b2_f (by unfold mMay; rw [if_neg h1]; exact fun h => by have := h.2.2.2.2.2.1; omega)])
  exact lp (m - 1).toNat 0 (by omega) (by omega) rfl
def mMo (G : Nat → Int) (A : Nat → Nat → Int) (z y : Int) : Nat → Int → Int → Int
  | 0, _, b => b
  | j + 1, m, b => mMo G A z y j (m + 1) (if mMay G A z y m then m else b)
abbrev mMost (G : Nat → Int) (A : Nat → Nat → Int) (z y : Int) : Int := mMo G A z y (A 1 z.toNat).toNat 1 0
theorem mMo_rng : ∀ (j : Nat) (m b : Int), 0 ≤ b ∧ b < m → 0 ≤ mMo G A z y j m b ∧ mMo G A z y j m b < m + j := by
  intro j
  induction j with
  | zero => intro m b h; exact ⟨h.1, by show b < m + 0; omega⟩
  | succ j ih =>
    intro m b h
    unfold mMo
    split
    · have := ih (m + 1) m (by omega); omega
    · have := ih (m + 1) b (by omega); omega
theorem sp_mMostOf (hm : moA w G N A) (hG : gmV G) (hV : mtV A) (hz : gCol G z) (hy : gCol G y) (hd : 5 ≤ d) (hq : 112 ≤ q) : zv d q 109 [.ref 817, iV z, iV y] w (iI (mMost G A z y)) := by
  intro L xs cn sn
  obtain ⟨d, rfl⟩ : ∃ e, d = e + 1 := ⟨d - 1, by omega⟩
  have hm9 := hm
  obtain ⟨m0, a0, a1, a2, a3, a4, a5, a6, a7, a8, a9, a10, a11, a12⟩ := hm9
  have hG' := hG
  unfold gmV at hG'
  have hV' := hV
  obtain ⟨v0, v1, v2, v3, v4, v5⟩ := hV'
  have hh := v1 z.toNat
  have lp : ∀ (j : Nat) (m b : Int), m + j = A 1 z.toNat + 1 → 1 ≤ m → mMo G A z y j m b = mMost G A z y → zw L xs (d + 1) q 109 5 [some (.ref 817), some (iV z), some (iV y), some (iV b), some (iV m)] [] w cn sn (fun o w' cn' sn' => ∃ v, o = .inl v ∧ (v = some (.int (iI (mMost G A z y))) ∧ w' = w ∧ cn' = cn ∧ sn' = sn)) := by
    intro j
    induction j with
    | zero =>
      intro m b h1 h2 h4
      refine zw_iload z109_5 rfl ?_
      refine zw_aload_n z109_7 rfl ?_
      refine zw_getf z109_8 (by assumption) (by rfl) ?_
      refine zw_iload_n z109_11 rfl ?_
      refine zj_ald z109_12 (by assumption) (by omega) (by decide) ?_
      refine zj_icmp_gt z109_13 (by omega) (by omega) (fun h7 => ?_) (fun h7 => ?_)
      · refine zw_iload_n z109_40 rfl ?_
        refine zw_iret z109_41 rfl ?_
        exact zv_end (congrArg iI h4)
      · exfalso; omega
    | succ j ih =>
      intro m b h1 h2 h4
      have h4 : mMo G A z y j (m + 1) (if mMay G A z y m then m else b) = mMost G A z y := h4
      refine zw_iload z109_5 rfl ?_
      refine zw_aload_n z109_7 rfl ?_
      refine zw_getf z109_8 (by assumption) (by rfl) ?_
      refine zw_iload_n z109_11 rfl ?_
      refine zj_ald z109_12 (by assumption) (by omega) (by decide) ?_
      refine zj_icmp_gt z109_13 (by omega) (by omega) (fun h7 => ?_) (fun h7 => ?_)
      · exfalso; omega
      refine zw_aload_n z109_16 rfl ?_
      refine zw_iload_n z109_17 rfl ?_
      refine zw_iload_n z109_18 rfl ?_
      refine zw_iload z109_19 rfl ?_
      refine zw_vv (n := 5) z109_21 rfl rfl (by assumption) (Nat.le_of_ble_eq_true rfl) (by omega) (sp_mMay hm hG hV (Or.inl hz) (Or.inl hy) (by omega) (by omega) (by omega)) ?_
      refine zj_b_eq z109_24 (fun h8 => ?_) (fun h8 => ?_)
      · rw [if_neg h8] at h4
        refine zw_iload_n z109_32 rfl ?_
        refine zw_istore_n z109_33 rfl ?_
        refine zj_iinc z109_34 rfl rfl ?_
        refine zw_goto z109_37 ?_
        exact ih (m + 1) b (by omega) (by omega) h4
      · rw [if_pos h8] at h4
        refine zw_iload z109_27 rfl ?_
        refine zw_goto z109_29 ?_
        refine zw_istore_n z109_33 rfl ?_
        refine zj_iinc z109_34 rfl rfl ?_
        refine zw_goto z109_37 ?_
        exact ih (m + 1) m (by omega) (by omega) h4
  refine ⟨_, rfl, ?_⟩
  show zw _ _ _ _ 109 0 [some (.ref 817), some (iV z), some (iV y), none, none] [] _ _ _ _
  refine zw_iconst z109_0 (v := iI 0) rfl ?_
  refine zw_istore_n z109_1 rfl ?_
  refine zw_iconst z109_2 (v := iI 1) rfl ?_
  refine zw_istore z109_3 rfl ?_
  exact lp (A 1 z.toNat).toNat 1 0 (by omega) (by omega) rfl
abbrev mPlc (G : Nat → Int) (c : Int) : Int := if gPla G (lTold c) then lTold c else -1
theorem sp_mPlaceOf (hm : moA w G N A) (hG : gmV G) (hc : 0 ≤ c ∧ c ≤ 65535) (hd : 2 ≤ d) (hq : 43 ≤ q) : zv d q 108 [.ref 817, iV c] w (iI (mPlc G c)) := by
  intro L xs cn sn
  obtain ⟨d, rfl⟩ : ∃ e, d = e + 1 := ⟨d - 1, by omega⟩
  have hm9 := hm
  obtain ⟨m0, a0, a1, a2, a3, a4, a5, a6, a7, a8, a9, a10, a11, a12⟩ := hm9
  have hG' := hG
  unfold gmV at hG'
  refine ⟨_, rfl, ?_⟩
  show zw _ _ _ _ 108 0 [some (.ref 817), some (iV c), none] [] _ _ _ _
  refine zw_iload_n z108_0 rfl ?_
  refine zw_bipush z108_1 (v := iI (104)) (by decide +kernel) ?_
  refine zj_icmp_ne z108_3 (by omega) (by omega) (fun h3 => ?_) (fun h3 => ?_)
  · refine zw_iload_n z108_9 rfl ?_
    refine zw_bipush z108_10 (v := iI (97)) (by decide +kernel) ?_
    refine zw_bipush z108_12 (v := iI (100)) (by decide +kernel) ?_
    refine zw_vs (n := 3) z108_14 rfl rfl (Nat.le_of_ble_eq_true rfl) (by omega) (sp_mWithin (by omega) (by omega) (by omega)) ?_
    refine zj_b_eq z108_17 (fun h17 => ?_) (fun h17 => ?_)
    · refine zw_iload_n z108_30 rfl ?_
      refine zw_bipush z108_31 (v := iI (49)) (by decide +kernel) ?_
      refine zw_bipush z108_33 (v := iI (56)) (by decide +kernel) ?_
      refine zw_vs (n := 3) z108_35 rfl rfl (Nat.le_of_ble_eq_true rfl) (by omega) (sp_mWithin (by omega) (by omega) (by omega)) ?_
      refine zj_b_eq z108_38 (fun h38 => ?_) (fun h38 => ?_)
      · refine zw_iconst z108_48 (v := iI (-1)) rfl ?_
        refine zw_istore_n z108_49 rfl ?_
        refine zw_aload_n z108_50 rfl ?_
        refine zw_iload_n z108_51 rfl ?_
        refine zw_vv (n := 2) z108_52 rfl rfl (by assumption) (Nat.le_of_ble_eq_true rfl) (by omega) (sp_mIsColumn hm hG (by omega) (by omega) (by omega)) ?_
        refine zj_b_ne z108_55 (fun h55 => ?_) (fun h55 => ?_)
        · refine zw_iload_n z108_66 rfl ?_
          refine zw_goto z108_67 ?_
          refine zw_iret z108_71 rfl ?_
          exact zv_end (by congr 1; unfold mPlc lTold; grind)
        · refine zw_aload_n z108_58 rfl ?_
          refine zw_iload_n z108_59 rfl ?_
          refine zw_vv (n := 2) z108_60 rfl rfl (by assumption) (Nat.le_of_ble_eq_true rfl) (by omega) (sp_mIsCell hm hG (by omega) (by omega) (by omega)) ?_
          refine zj_b_eq z108_63 (fun h63 => ?_) (fun h63 => ?_)
          · refine zw_iconst z108_70 (v := iI (-1)) rfl ?_
            refine zw_iret z108_71 rfl ?_
            exact zv_end (by congr 1; unfold mPlc lTold; grind)
          · refine zw_iload_n z108_66 rfl ?_
            refine zw_goto z108_67 ?_
            refine zw_iret z108_71 rfl ?_
            exact zv_end (by congr 1; unfold mPlc lTold; grind)
      · refine zw_iload_n z108_41 rfl ?_
        refine zw_bipush z108_42 (v := iI (49)) (by decide +kernel) ?_
        refine zj_sub z108_44 ?_
        refine zw_goto z108_45 ?_
        refine zw_istore_n z108_49 rfl ?_
        refine zw_aload_n z108_50 rfl ?_
        refine zw_iload_n z108_51 rfl ?_
        refine zw_vv (n := 2) z108_52 rfl rfl (by assumption) (Nat.le_of_ble_eq_true rfl) (by omega) (sp_mIsColumn hm hG (by omega) (by omega) (by omega)) ?_
        refine zj_b_ne z108_55 (fun h55 => ?_) (fun h55 => ?_)
        · refine zw_iload_n z108_66 rfl ?_
          refine zw_goto z108_67 ?_
          refine zw_iret z108_71 rfl ?_
          exact zv_end (by congr 1; unfold mPlc lTold; grind)
        · refine zw_aload_n z108_58 rfl ?_
          refine zw_iload_n z108_59 rfl ?_
          refine zw_vv (n := 2) z108_60 rfl rfl (by assumption) (Nat.le_of_ble_eq_true rfl) (by omega) (sp_mIsCell hm hG (by omega) (by omega) (by omega)) ?_
          refine zj_b_eq z108_63 (fun h63 => ?_) (fun h63 => ?_)
          · refine zw_iconst z108_70 (v := iI (-1)) rfl ?_
            refine zw_iret z108_71 rfl ?_
            exact zv_end (by congr 1; unfold mPlc lTold; grind)
          · refine zw_iload_n z108_66 rfl ?_
            refine zw_goto z108_67 ?_
            refine zw_iret z108_71 rfl ?_
            exact zv_end (by congr 1; unfold mPlc lTold; grind)
    · refine zw_bipush z108_20 (v := iI (8)) (by decide +kernel) ?_
      refine zw_iload_n z108_22 rfl ?_
      refine zj_add z108_23 ?_
      refine zw_bipush z108_24 (v := iI (97)) (by decide +kernel) ?_
      refine zj_sub z108_26 ?_
      refine zw_goto z108_27 ?_
      refine zw_istore_n z108_49 rfl ?_
      refine zw_aload_n z108_50 rfl ?_
      refine zw_iload_n z108_51 rfl ?_
      refine zw_vv (n := 2) z108_52 rfl rfl (by assumption) (Nat.le_of_ble_eq_true rfl) (by omega) (sp_mIsColumn hm hG (by omega) (by omega) (by omega)) ?_
      refine zj_b_ne z108_55 (fun h55 => ?_) (fun h55 => ?_)
      · refine zw_iload_n z108_66 rfl ?_
        refine zw_goto z108_67 ?_
        refine zw_iret z108_71 rfl ?_
        exact zv_end (by congr 1; unfold mPlc lTold; grind)
      · refine zw_aload_n z108_58 rfl ?_
        refine zw_iload_n z108_59 rfl ?_
        refine zw_vv (n := 2) z108_60 rfl rfl (by assumption) (Nat.le_of_ble_eq_true rfl) (by omega) (sp_mIsCell hm hG (by omega) (by omega) (by omega)) ?_
        refine zj_b_eq z108_63 (fun h63 => ?_) (fun h63 => ?_)
        · refine zw_iconst z108_70 (v := iI (-1)) rfl ?_
          refine zw_iret z108_71 rfl ?_
          exact zv_end (by congr 1; unfold mPlc lTold; grind)
        · refine zw_iload_n z108_66 rfl ?_
          refine zw_goto z108_67 ?_
          refine zw_iret z108_71 rfl ?_
          exact zv_end (by congr 1; unfold mPlc lTold; grind)
  · refine zw_bipush z108_6 (v := iI (12)) (by decide +kernel) ?_
    refine zw_iret z108_8 rfl ?_
    exact zv_end (by congr 1; unfold mPlc lTold; grind)
/-- none of the suits that matter lacks a card that could lie on c -/
abbrev mMat (G : Nat → Int) (c s : Int) : Prop := G 2 = 2 ∨ (G 2 = 0 ∧ ¬ (gBlk s ↔ gBlk (gSuit G c)))
def mSf (G : Nat → Int) (A : Nat → Nat → Int) (c : Int) : Nat → Int → Int → Int
  | 0, _, b => b
  | j + 1, s, b => mSf G A c j (s + 1) (if b = 1 ∧ (mMat G c s → gRank G c < 3 ∨ gRank G c ≤ A 3 s.toNat + 1) then 1 else 0)
abbrev mSafe (G : Nat → Int) (A : Nat → Nat → Int) (c : Int) : Prop := mSf G A c (G 4).toNat 0 1 = 1
theorem mSf_rng : ∀ (j : Nat) (s b : Int), b = 0 ∨ b = 1 → mSf G A c j s b = 0 ∨ mSf G A c j s b = 1 := by
  intro j
  induction j with
  | zero => intro s b h; exact h
  | succ j ih =>
    intro s b h
    unfold mSf
    refine ih _ _ ?_
    split <;> omega
theorem sp_mIsSafe (hm : moA w G N A) (hG : gmV G) (hV : mtV A) (hc : 0 ≤ c ∧ c < 52) (hd : 1 ≤ d) (hq : 21 ≤ q) : zv d q 111 [.ref 817, iV c] w (iI (b2 (mSafe G A c))) := by
  intro L xs cn sn
  obtain ⟨d, rfl⟩ : ∃ e, d = e + 1 := ⟨d - 1, by omega⟩
  have hm9 := hm
  obtain ⟨m0, a0, a1, a2, a3, a4, a5, a6, a7, a8, a9, a10, a11, a12⟩ := hm9
  have hG' := hG
  unfold gmV at hG'
  have hV' := hV
  obtain ⟨v0, v1, v2, v3, v4, v5⟩ := hV'
  have rc := gRank_rng (c := c) hG hc
  have sc := gSuit_rng (c := c) hG
  have lp : ∀ (j : Nat) (s b : Int) (x4 : Option Value), s + j = G 4 → 0 ≤ s → b = 0 ∨ b = 1 → mSf G A c j s b = mSf G A c (G 4).toNat 0 1 → zw L xs (d + 1) q 111 4 [some (.ref 817), some (iV c), some (iV b), some (iV s), x4] [] w cn sn (fun o w' cn' sn' => ∃ v, o = .inl v ∧ (v = some (.int (iI (b2 (mSafe G A c)))) ∧ w' = w ∧ cn' = cn ∧ sn' = sn)) := by
    intro j
    induction j with
    | zero =>
      intro s b x4 h1 h2 h3 h4
      have h4 : b = mSf G A c (G 4).toNat 0 1 := h4
      refine zw_iload_n z111_4 rfl ?_
      refine zw_aload_n z111_5 rfl ?_
      refine zw_getf z111_6 (by assumption) (by rfl) ?_
      refine zj_icmp_ge z111_9 (by omega) (by omega) (fun h7 => ?_) (fun h7 => ?_)
      · refine zw_iload_n z111_95 rfl ?_
        refine zj_bret z111_96 rfl h3 ?_
        exact zv_end (congrArg iI (by unfold mSafe b2; rw [← h4]; rcases h3 with rfl | rfl <;> decide))
      · exfalso; omega
    | succ j ih =>
      intro s b x4 h1 h2 h3 h4
      have hb := v3 s.toNat
      have h4 : mSf G A c j (s + 1) (if b = 1 ∧ (mMat G c s → gRank G c < 3 ∨ gRank G c ≤ A 3 s.toNat + 1) then 1 else 0) = mSf G A c (G 4).toNat 0 1 := h4
      have kt : (b = 1 ∧ (mMat G c s → gRank G c < 3 ∨ gRank G c ≤ A 3 s.toNat + 1)) → ∀ x4, zw L xs (d + 1) q 111 88 [some (.ref 817), some (iV c), some (iV b), some (iV s), x4] [iV 1] w cn sn (fun o w' cn' sn' => ∃ v, o = .inl v ∧ (v = some (.int (iI (b2 (mSafe G A c)))) ∧ w' = w ∧ cn' = cn ∧ sn' = sn)) := by
        intro h x4
        rw [if_pos h] at h4
        refine zw_istore_n z111_88 rfl ?_
        refine zj_iinc z111_89 rfl rfl ?_
        refine zw_goto z111_92 ?_
        exact ih (s + 1) 1 x4 (by omega) (by omega) (by omega) h4
      have kf : ¬ (b = 1 ∧ (mMat G c s → gRank G c < 3 ∨ gRank G c ≤ A 3 s.toNat + 1)) → ∀ x4, zw L xs (d + 1) q 111 87 [some (.ref 817), some (iV c), some (iV b), some (iV s), x4] [] w cn sn (fun o w' cn' sn' => ∃ v, o = .inl v ∧ (v = some (.int (iI (b2 (mSafe G A c)))) ∧ w' = w ∧ cn' = cn ∧ sn' = sn)) := by
        intro h x4
        rw [if_neg h] at h4
        refine zw_iconst z111_87 (v := iI 0) rfl ?_
        refine zw_istore_n z111_88 rfl ?_
        refine zj_iinc z111_89 rfl rfl ?_
        refine zw_goto z111_92 ?_
        exact ih (s + 1) 0 x4 (by omega) (by omega) (by omega) h4
      have k47 : ∀ t : Int, (t = 0 ∧ ¬ mMat G c s) ∨ (t = 1 ∧ mMat G c s) → ∀ x4, zw L xs (d + 1) q 111 47 [some (.ref 817), some (iV c), some (iV b), some (iV s), x4] [iV t] w cn sn (fun o w' cn' sn' => ∃ v, o = .inl v ∧ (v = some (.int (iI (b2 (mSafe G A c)))) ∧ w' = w ∧ cn' = cn ∧ sn' = sn)) := by
        intro t ht x4
        refine zw_istore z111_47 rfl ?_
        refine zw_iload_n z111_49 rfl ?_
        refine zj_if_eq z111_50 (by omega) (fun g1 => ?_) (fun g1 => ?_)
        · exact kf (fun h => by omega) _
        refine zw_iload z111_53 rfl ?_
        refine zj_if_eq z111_55 (by omega) (fun g2 => ?_) (fun g2 => ?_)
        · refine zw_iconst z111_83 (v := iI 1) rfl ?_
          refine zw_goto z111_84 ?_
          exact kt ⟨by omega, fun h => absurd h (by rcases ht with h | h; exact h.2; exfalso; omega)⟩ _
        have hmt : mMat G c s := by
          rcases ht with h | h
          · exfalso; omega
          · exact h.2
        refine zw_aload_n z111_58 rfl ?_
        refine zw_iload_n z111_59 rfl ?_
        refine zw_vv (n := 2) z111_60 rfl rfl (by assumption) (Nat.le_of_ble_eq_true rfl) (by omega) (sp_mRank hm hG hc) ?_
        refine zw_iconst z111_63 (v := iI 3) rfl ?_
        refine zj_icmp_lt z111_64 (by omega) (by omega) (fun g3 => ?_) (fun g3 => ?_)
        · refine zw_iconst z111_83 (v := iI 1) rfl ?_
          refine zw_goto z111_84 ?_
          exact kt ⟨by omega, fun _ => Or.inl g3⟩ _
        refine zw_aload_n z111_67 rfl ?_
        refine zw_getf z111_68 (by assumption) (by rfl) ?_
        refine zw_iload_n z111_71 rfl ?_
        refine zj_ald z111_72 (by assumption) (by omega) (by decide) ?_
        refine zw_iconst z111_73 (v := iI 1) rfl ?_
        refine zj_add z111_74 ?_
        refine zw_aload_n z111_75 rfl ?_
        refine zw_iload_n z111_76 rfl ?_
        refine zw_vv (n := 2) z111_77 rfl rfl (by assumption) (Nat.le_of_ble_eq_true rfl) (by omega) (sp_mRank hm hG hc) ?_
        refine zj_icmp_lt z111_80 (by omega) (by omega) (fun g4 => ?_) (fun g4 => ?_)
        · exact kf (fun h => by have := h.2 hmt; omega) _
        · refine zw_iconst z111_83 (v := iI 1) rfl ?_
          refine zw_goto z111_84 ?_
          exact kt ⟨by omega, fun _ => Or.inr (by omega)⟩ _
      refine zw_iload_n z111_4 rfl ?_
      refine zw_aload_n z111_5 rfl ?_
      refine zw_getf z111_6 (by assumption) (by rfl) ?_
      refine zj_icmp_ge z111_9 (by omega) (by omega) (fun h7 => ?_) (fun h7 => ?_)
      · exfalso; omega
      refine zw_aload_n z111_12 rfl ?_
      refine zw_getf z111_13 (by assumption) (by rfl) ?_
      refine zw_iconst z111_16 (v := iI 2) rfl ?_
      refine zj_icmp_eq z111_17 (by omega) (by omega) (fun h8 => ?_) (fun h8 => ?_)
      · refine zw_iconst z111_42 (v := iI 1) rfl ?_
        refine zw_goto z111_43 ?_
        exact k47 1 (Or.inr ⟨rfl, Or.inl h8⟩) _
      refine zw_aload_n z111_20 rfl ?_
      refine zw_getf z111_21 (by assumption) (by rfl) ?_
      refine zj_if_ne z111_24 (by omega) (fun h9 => ?_) (fun h9 => ?_)
      · refine zw_iconst z111_46 (v := iI 0) rfl ?_
        exact k47 0 (Or.inl ⟨rfl, fun h => by rcases h with h | h; exact h8 h; exact h9 h.1⟩) _
      refine zw_iload_n z111_27 rfl ?_
      refine zw_vs (n := 1) z111_28 rfl rfl (Nat.le_of_ble_eq_true rfl) (by omega) (sp_mBlack (by omega)) ?_
      refine zw_aload_n z111_31 rfl ?_
      refine zw_iload_n z111_32 rfl ?_
      refine zw_vv (n := 2) z111_33 rfl rfl (by assumption) (Nat.le_of_ble_eq_true rfl) (by omega) (sp_mSuit hm hG hc) ?_
      refine zw_vs (n := 1) z111_36 rfl rfl (Nat.le_of_ble_eq_true rfl) (by omega) (sp_mBlack (by omega)) ?_
      refine zj_bb_eq z111_39 (fun g => ?_) (fun g => ?_)
      · refine zw_iconst z111_46 (v := iI 0) rfl ?_
        exact k47 0 (Or.inl ⟨rfl, fun h => by rcases h with h | h; exact h8 h; exact h.2 g⟩) _
      · refine zw_iconst z111_42 (v := iI 1) rfl ?_
        refine zw_goto z111_43 ?_
        exact k47 1 (Or.inr ⟨rfl, Or.inr ⟨by omega, g⟩⟩) _
  refine ⟨_, rfl, ?_⟩
  show zw _ _ _ _ 111 0 [some (.ref 817), some (iV c), none, none, none] [] _ _ _ _
  refine zw_iconst z111_0 (v := iI 1) rfl ?_
  refine zw_istore_n z111_1 rfl ?_
  refine zw_iconst z111_2 (v := iI 0) rfl ?_
  refine zw_istore_n z111_3 rfl ?_
  exact lp (G 4).toNat 0 1 none (by omega) (by omega) (by omega) rfl
abbrev mSpP (k : Int) : Int := if k < 4 then 8 + k else k - 4
abbrev mSpC (G : Nat → Int) (A : Nat → Nat → Int) (p : Int) : Prop := (gCel G p ∨ gCol G p) ∧ mOne G A p 12 ∧ mSafe G A (mTp G A p)
def mSp (G : Nat → Int) (A : Nat → Nat → Int) : Nat → Int → Int
  | 0, _ => -1
  | j + 1, k => if mSpC G A (mSpP k) then mSpP k else mSp G A j (k + 1)
theorem sp_mSafePlace (hm : moA w G N A) (hG : gmV G) (hV : mtV A) (hd : 4 ≤ d) (hq : 88 ≤ q) : zv d q 112 [.ref 817] w (iI (mSp G A 12 0)) := by
  intro L xs cn sn
  obtain ⟨d, rfl⟩ : ∃ e, d = e + 1 := ⟨d - 1, by omega⟩
  have hm9 := hm
  obtain ⟨m0, a0, a1, a2, a3, a4, a5, a6, a7, a8, a9, a10, a11, a12⟩ := hm9
  have hG' := hG
  unfold gmV at hG'
  have lp : ∀ (j : Nat) (k : Int) (x2 : Option Value), k + j = 12 → 0 ≤ k → mSp G A j k = mSp G A 12 0 → zw L xs (d + 1) q 112 2 [some (.ref 817), some (iV k), x2] [] w cn sn (fun o w' cn' sn' => ∃ v, o = .inl v ∧ (v = some (.int (iI (mSp G A 12 0))) ∧ w' = w ∧ cn' = cn ∧ sn' = sn)) := by
    intro j
    induction j with
    | zero =>
      intro k x2 h1 h2 h4
      refine zw_iload_n z112_2 rfl ?_
      refine zw_bipush z112_3 (v := iI (12)) (by decide +kernel) ?_
      refine zj_icmp_ge z112_5 (by omega) (by omega) (fun h7 => ?_) (fun h7 => ?_)
      · refine zw_iconst z112_70 (v := iI (-1)) rfl ?_
        refine zw_iret z112_71 rfl ?_
        exact zv_end (congrArg iI h4)
      · exfalso; omega
    | succ j ih =>
      intro k x2 h1 h2 h4
      have h4 : (if mSpC G A (mSpP k) then mSpP k else mSp G A j (k + 1)) = mSp G A 12 0 := h4
      have k23 : ∀ p, p = mSpP k → ∀ x2, zw L xs (d + 1) q 112 23 [some (.ref 817), some (iV k), x2] [iV p] w cn sn (fun o w' cn' sn' => ∃ v, o = .inl v ∧ (v = some (.int (iI (mSp G A 12 0))) ∧ w' = w ∧ cn' = cn ∧ sn' = sn)) := by
        intro p hp x2
        have hp1 : 0 ≤ p ∧ p < 12 := by rw [hp]; unfold mSpP; split <;> omega
        rw [← hp] at h4
        have kf : ¬ mSpC G A p → zw L xs (d + 1) q 112 64 [some (.ref 817), some (iV k), some (iV p)] [] w cn sn (fun o w' cn' sn' => ∃ v, o = .inl v ∧ (v = some (.int (iI (mSp G A 12 0))) ∧ w' = w ∧ cn' = cn ∧ sn' = sn)) := by
          intro hn
          rw [if_neg hn] at h4
          refine zj_iinc z112_64 rfl rfl ?_
          refine zw_goto z112_67 ?_
          exact ih (k + 1) _ (by omega) (by omega) h4
        have k40 : (gCel G p ∨ gCol G p) → zw L xs (d + 1) q 112 40 [some (.ref 817), some (iV k), some (iV p)] [] w cn sn (fun o w' cn' sn' => ∃ v, o = .inl v ∧ (v = some (.int (iI (mSp G A 12 0))) ∧ w' = w ∧ cn' = cn ∧ sn' = sn)) := by
          intro hpl
          refine zw_aload_n z112_40 rfl ?_
          refine zw_iload_n z112_41 rfl ?_
          refine zw_bipush z112_42 (v := iI (12)) (by decide +kernel) ?_
          refine zw_vv (n := 4) z112_44 rfl rfl (by assumption) (Nat.le_of_ble_eq_true rfl) (by omega) (sp_mMayOne hm hG hV (by omega) (Or.inr (Or.inr rfl)) (by omega) (by omega)) ?_
          refine zj_b_eq z112_47 (fun g1 => ?_) (fun g1 => ?_)
          · exact kf (fun h => g1 h.2.1)
          have ht := mTp_rng (G := G) (z := p) hV
          have ht0 := g1.1
          refine zw_aload_n z112_50 rfl ?_
          refine zw_aload_n z112_51 rfl ?_
          refine zw_iload_n z112_52 rfl ?_
          refine zw_vv (n := 2) z112_53 rfl rfl (by assumption) (Nat.le_of_ble_eq_true rfl) (by omega) (sp_mTopOf hm hG hV (by omega) (by omega) (by omega)) ?_
          refine zw_vv (n := 5) z112_56 rfl rfl (by assumption) (Nat.le_of_ble_eq_true rfl) (by omega) (sp_mIsSafe hm hG hV (by omega) (by omega) (by omega)) ?_
          refine zj_b_eq z112_59 (fun g2 => ?_) (fun g2 => ?_)
          · exact kf (fun h => g2 h.2.2)
          rw [if_pos ⟨hpl, g1, g2⟩] at h4
          refine zw_iload_n z112_62 rfl ?_
          refine zw_iret z112_63 rfl ?_
          exact zv_end (congrArg iI h4)
        refine zw_istore_n z112_23 rfl ?_
        refine zw_aload_n z112_24 rfl ?_
        refine zw_iload_n z112_25 rfl ?_
        refine zw_vv (n := 2) z112_26 rfl rfl (by assumption) (Nat.le_of_ble_eq_true rfl) (by omega) (sp_mIsCell hm hG (by omega) (by omega) (by omega)) ?_
        refine zj_b_ne z112_29 (fun g1 => ?_) (fun g1 => ?_)
        · exact k40 (Or.inl g1)
        refine zw_aload_n z112_32 rfl ?_
        refine zw_iload_n z112_33 rfl ?_
        refine zw_vv (n := 2) z112_34 rfl rfl (by assumption) (Nat.le_of_ble_eq_true rfl) (by omega) (sp_mIsColumn hm hG (by omega) (by omega) (by omega)) ?_
        refine zj_b_eq z112_37 (fun g2 => ?_) (fun g2 => ?_)
        · exact kf (fun h => by rcases h.1 with h | h; exact g1 h; exact g2 h)
        · exact k40 (Or.inr g2)
      refine zw_iload_n z112_2 rfl ?_
      refine zw_bipush z112_3 (v := iI (12)) (by decide +kernel) ?_
      refine zj_icmp_ge z112_5 (by omega) (by omega) (fun h7 => ?_) (fun h7 => ?_)
      · exfalso; omega
      refine zw_iload_n z112_8 rfl ?_
      refine zw_iconst z112_9 (v := iI 4) rfl ?_
      refine zj_icmp_ge z112_10 (by omega) (by omega) (fun h8 => ?_) (fun h8 => ?_)
      · refine zw_iload_n z112_20 rfl ?_
        refine zw_iconst z112_21 (v := iI 4) rfl ?_
        refine zj_sub z112_22 ?_
        exact k23 (k - 4) (by unfold mSpP; rw [if_neg (by omega)]) _
      · refine zw_bipush z112_13 (v := iI (8)) (by decide +kernel) ?_
        refine zw_iload_n z112_15 rfl ?_
        refine zj_add z112_16 ?_
        refine zw_goto z112_17 ?_
        exact k23 (8 + k) (by unfold mSpP; rw [if_pos (by omega)]) _
  refine ⟨_, rfl, ?_⟩
  show zw _ _ _ _ 112 0 [some (.ref 817), none, none] [] _ _ _ _
  refine zw_iconst z112_0 (v := iI 0) rfl ?_
  refine zw_istore_n z112_1 rfl ?_
  exact lp 12 0 none (by omega) (by omega) rfl
end ZMP
end
