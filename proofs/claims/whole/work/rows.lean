section
/-! An interpreter of the part of bytecode that this claim uses, over worlds of cells by their places. Later parts show: what it answers, the machine does. -/
abbrev zi_W : Type := List va_E
abbrev zi_L : Type := List (Option Value)
abbrev zi_O : Type := Option Value ⊕ Nat
abbrev zi_C : Type := Nat × zi_L × List Value × zi_W × Nat × Nat
abbrev zi_R : Type := zi_O × zi_W × Nat × Nat
/-- what a method's pool entry is: (tag, a, b, v); 0 field b of class a, 9 the same where it is final, 8 where it is final and this method its constructor; 1, 2, 3 a call (virtual, special, static) of method a with b arguments; 4 new of class a, with b slots; 5 an array of references of kind a; 6 a constant v; 7 a member that is a step by itself: a -/
abbrev zi_T : Type := Nat × Nat × Nat × Value
/-- a program: code, pool, methods (name, bytes, locals, answer), where an exception of a kind is made and thrown, where it is caught and what is answered then, fields' types, the fields that a new object has -/
abbrev zi_P : Type := (Nat → Nat → Option Jvm.ClassFile.Instr) × (Nat → Nat → Option zi_T) × (Nat → MethodName × ByteArray × Nat × Option FieldType) × (Nat → Nat → Option Nat) × (Nat → Nat → Nat → Option Int32) × (Nat → Nat → FieldType) × (Nat → List Value)
def zi_code (P : zi_P) : Nat → Nat → Option Jvm.ClassFile.Instr := P.1
def zi_pool (P : zi_P) : Nat → Nat → Option zi_T := P.2.1
def zi_meth (P : zi_P) : Nat → MethodName × ByteArray × Nat × Option FieldType := P.2.2.1
def zi_thr (P : zi_P) : Nat → Nat → Option Nat := P.2.2.2.1
def zi_cat (P : zi_P) : Nat → Nat → Nat → Option Int32 := P.2.2.2.2.1
def zi_fty (P : zi_P) : Nat → Nat → FieldType := P.2.2.2.2.2.1
def zi_fs0 (P : zi_P) : Nat → List Value := P.2.2.2.2.2.2
abbrev zi_y (P : zi_P) (k : Nat) : MethodName := (zi_meth P k).1
abbrev zi_b (P : zi_P) (k : Nat) : ByteArray := (zi_meth P k).2.1
abbrev zi_n (P : zi_P) (k : Nat) : Nat := (zi_meth P k).2.2.1
abbrev zi_r (P : zi_P) (k : Nat) : Option FieldType := (zi_meth P k).2.2.2
/-- the script's place: no cell of a world -/
def zi_X : Nat := 1099511627776
def zi_get (w : zi_W) (i : Nat) : Option va_E := if i = zi_X then none else w[i]?
def zi_loc (ls : zi_L) (i : Nat) : Option Value := match ls[i]? with
  | some (some v) => some v
  | _ => none
def zi_two (ls : zi_L) (i : Nat) : Bool := match zi_loc ls i with
  | some v => v.category == 2
  | none => false
/-- a value of one slot comes to a local; not behind a long's first half -/
def zi_set1 (ls : zi_L) (i : Nat) (v : Value) : Option zi_L :=
  if i < ls.length ∧ v.category = 1 ∧ (i = 0 ∨ zi_two ls (i - 1) = false) then some (ls.set i (some v)) else none
def zi_set2 (ls : zi_L) (i : Nat) (v : Value) : Option zi_L :=
  if i + 1 < ls.length ∧ v.category = 2 ∧ (i = 0 ∨ zi_two ls (i - 1) = false) then some ((ls.set i (some v)).set (i + 1) none) else none
/-- how long an instruction is (a switch: 0, that isn't asked) -/
def zi_len : Jvm.ClassFile.Instr → Nat
  | .bipush _ => 2
  | .ldc _ => 2
  | .iload _ => 2
  | .lload _ => 2
  | .aload _ => 2
  | .istore _ => 2
  | .lstore _ => 2
  | .astore _ => 2
  | .newarray _ => 2
  | .sipush _ => 3
  | .ldc2_w _ => 3
  | .getfield _ => 3
  | .putfield _ => 3
  | .ifCond _ _ => 3
  | .if_icmp _ _ => 3
  | .goto _ => 3
  | .iinc _ _ => 3
  | .new _ => 3
  | .anewarray _ => 3
  | .invokevirtual _ => 3
  | .invokespecial _ => 3
  | .invokestatic _ => 3
  | .tableswitch _ _ _ _ => 0
  | _ => 1
def zi_tgt (pc : Nat) (off : Int) : Option Nat := if 0 ≤ (pc : Int) + off then some ((pc : Int) + off).toNat else none
def zi_pop : Nat → List Value → List Value → Option (List Value × List Value)
  | 0, acc, st => some (acc, st)
  | n + 1, acc, v :: st => zi_pop n (v :: acc) st
  | _ + 1, _, [] => none
def zi_ent (as : List Value) (n : Nat) : Option zi_L := if as.length ≤ n ∧ as.all (fun v => v.category == 1) = true then some (as.map some ++ List.replicate (n - as.length) none) else none
def zi_fit (ty : FieldType) (v : Value) : Bool := match ty, v with
  | .int, .int _ => true
  | .boolean, .int x => x == 0 || x == 1
  | .object _, .ref _ => true
  | .array _, .ref _ => true
  | _, _ => false
abbrev zi_in (j : Int32) (m : Nat) : Prop := ¬ (j < 0 ∨ m ≤ j.toNatClampNeg)
def zi_jmp (b : Bool) (pc n : Nat) (off : Int) (ls : zi_L) (st : List Value) (w : zi_W) (cn sn : Nat) : Option zi_C :=
  match zi_tgt pc off with
  | some t => some (if b = true then t else pc + n, ls, st, w, cn, sn)
  | none => none
/-- branches -/
def zi_br (pc n : Nat) (i : Jvm.ClassFile.Instr) (ls : zi_L) (st : List Value) (w : zi_W) (cn sn : Nat) : Option zi_C := match i, st with
  | .ifCond .eq off, .int x :: r => zi_jmp (decide (x = 0)) pc n off ls r w cn sn
  | .ifCond .ne off, .int x :: r => zi_jmp (decide (¬ x = 0)) pc n off ls r w cn sn
  | .ifCond .lt off, .int x :: r => zi_jmp (decide (x < 0)) pc n off ls r w cn sn
  | .ifCond .ge off, .int x :: r => zi_jmp (decide (0 ≤ x)) pc n off ls r w cn sn
  | .ifCond .gt off, .int x :: r => zi_jmp (decide (0 < x)) pc n off ls r w cn sn
  | .ifCond .le off, .int x :: r => zi_jmp (decide (x ≤ 0)) pc n off ls r w cn sn
  | .if_icmp .eq off, .int y :: .int x :: r => zi_jmp (decide (x = y)) pc n off ls r w cn sn
  | .if_icmp .ne off, .int y :: .int x :: r => zi_jmp (decide (¬ x = y)) pc n off ls r w cn sn
  | .if_icmp .lt off, .int y :: .int x :: r => zi_jmp (decide (x < y)) pc n off ls r w cn sn
  | .if_icmp .ge off, .int y :: .int x :: r => zi_jmp (decide (y ≤ x)) pc n off ls r w cn sn
  | .if_icmp .gt off, .int y :: .int x :: r => zi_jmp (decide (y < x)) pc n off ls r w cn sn
  | .if_icmp .le off, .int y :: .int x :: r => zi_jmp (decide (x ≤ y)) pc n off ls r w cn sn
  | .goto off, r => zi_jmp true pc n off ls r w cn sn
  | .tableswitch d lo hi offs, .int x :: r =>
    if x.toInt < lo ∨ hi < x.toInt then zi_jmp true pc n d ls r w cn sn
    else match offs[(x.toInt - lo).toNat]? with
      | some off => zi_jmp true pc n off ls r w cn sn
      | none => none
  | _, _ => none
/-- numbers and the stack -/
def zi_num (pc n : Nat) (i : Jvm.ClassFile.Instr) (ls : zi_L) (st : List Value) (w : zi_W) (cn sn : Nat) : Option zi_C := match i, st with
  | .iconst c, r => some (pc + n, ls, .int (Int32.ofInt c) :: r, w, cn, sn)
  | .bipush c, r => some (pc + n, ls, .int (Int8.ofInt c).toInt32 :: r, w, cn, sn)
  | .sipush c, r => some (pc + n, ls, .int (Int16.ofInt c).toInt32 :: r, w, cn, sn)
  | .iadd, .int y :: .int x :: r => some (pc + n, ls, .int (x + y) :: r, w, cn, sn)
  | .isub, .int y :: .int x :: r => some (pc + n, ls, .int (x - y) :: r, w, cn, sn)
  | .imul, .int y :: .int x :: r => some (pc + n, ls, .int (x * y) :: r, w, cn, sn)
  | .iand, .int y :: .int x :: r => some (pc + n, ls, .int (x &&& y) :: r, w, cn, sn)
  | .ixor, .int y :: .int x :: r => some (pc + n, ls, .int (x ^^^ y) :: r, w, cn, sn)
  | .ishl, .int y :: .int x :: r => some (pc + n, ls, .int (x <<< (y &&& 31)) :: r, w, cn, sn)
  | .iushr, .int y :: .int x :: r => some (pc + n, ls, .int (x.toUInt32 >>> (y.toUInt32 &&& Int32.toUInt32 31)).toInt32 :: r, w, cn, sn)
  | .idiv, .int y :: .int x :: r => if y = 0 then none else some (pc + n, ls, .int (x / y) :: r, w, cn, sn)
  | .irem, .int y :: .int x :: r => if y = 0 then none else some (pc + n, ls, .int (x - x / y * y) :: r, w, cn, sn)
  | .i2l, .int x :: r => some (pc + n, ls, .long x.toInt64 :: r, w, cn, sn)
  | .l2i, .long x :: r => some (pc + n, ls, .int x.toInt32 :: r, w, cn, sn)
  | .i2c, .int x :: r => some (pc + n, ls, .int (x.toUInt32 % 65536).toInt32 :: r, w, cn, sn)
  | .ladd, .long y :: .long x :: r => some (pc + n, ls, .long (x + y) :: r, w, cn, sn)
  | .lmul, .long y :: .long x :: r => some (pc + n, ls, .long (x * y) :: r, w, cn, sn)
  | .ldiv, .long y :: .long x :: r => if y = 0 then none else some (pc + n, ls, .long (x / y) :: r, w, cn, sn)
  | .lrem, .long y :: .long x :: r => if y = 0 then none else some (pc + n, ls, .long (x - x / y * y) :: r, w, cn, sn)
  | .lcmp, .long y :: .long x :: r => some (pc + n, ls, .int (lg_cmp x y) :: r, w, cn, sn)
  | .dup, v :: r => if v.category = 1 then some (pc + n, ls, v :: v :: r, w, cn, sn) else none
  | .dup_x1, v :: u :: r => if v.category = 1 ∧ u.category = 1 then some (pc + n, ls, v :: u :: v :: r, w, cn, sn) else none
  | .dup_x2, v :: u :: t :: r => if v.category = 1 ∧ u.category = 1 ∧ t.category = 1 then some (pc + n, ls, v :: u :: t :: v :: r, w, cn, sn) else none
  | .dup2, v :: u :: r => if v.category = 1 ∧ u.category = 1 then some (pc + n, ls, v :: u :: v :: u :: r, w, cn, sn) else none
  | .pop, v :: r => if v.category = 1 then some (pc + n, ls, r, w, cn, sn) else none
  | _, _ => none
def zi_push1 (q : Option Value) (pc n : Nat) (ls : zi_L) (st : List Value) (w : zi_W) (cn sn : Nat) : Option zi_C := match q with
  | some v => some (pc + n, ls, v :: st, w, cn, sn)
  | none => none
def zi_isI (q : Option Value) : Option Value := match q with
  | some (.int x) => some (.int x)
  | _ => none
def zi_isL (q : Option Value) : Option Value := match q with
  | some (.long x) => some (.long x)
  | _ => none
def zi_isR (q : Option Value) : Option Value := match q with
  | some (.ref x) => some (.ref x)
  | _ => none
def zi_sto1 (i : Nat) (v : Value) (pc n : Nat) (ls : zi_L) (r : List Value) (w : zi_W) (cn sn : Nat) : Option zi_C := match zi_set1 ls i v with
  | some ls' => some (pc + n, ls', r, w, cn, sn)
  | none => none
def zi_sto2 (i : Nat) (v : Value) (pc n : Nat) (ls : zi_L) (r : List Value) (w : zi_W) (cn sn : Nat) : Option zi_C := match zi_set2 ls i v with
  | some ls' => some (pc + n, ls', r, w, cn, sn)
  | none => none
/-- locals -/
def zi_lcl (pc n : Nat) (i : Jvm.ClassFile.Instr) (ls : zi_L) (st : List Value) (w : zi_W) (cn sn : Nat) : Option zi_C := match i, st with
  | .iload j, r => zi_push1 (zi_isI (zi_loc ls j)) pc n ls r w cn sn
  | .iload_n j, r => zi_push1 (zi_isI (zi_loc ls j)) pc n ls r w cn sn
  | .lload j, r => zi_push1 (zi_isL (zi_loc ls j)) pc n ls r w cn sn
  | .lload_n j, r => zi_push1 (zi_isL (zi_loc ls j)) pc n ls r w cn sn
  | .aload j, r => zi_push1 (zi_isR (zi_loc ls j)) pc n ls r w cn sn
  | .aload_n j, r => zi_push1 (zi_isR (zi_loc ls j)) pc n ls r w cn sn
  | .istore j, .int x :: r => zi_sto1 j (.int x) pc n ls r w cn sn
  | .istore_n j, .int x :: r => zi_sto1 j (.int x) pc n ls r w cn sn
  | .astore j, .ref x :: r => zi_sto1 j (.ref x) pc n ls r w cn sn
  | .astore_n j, .ref x :: r => zi_sto1 j (.ref x) pc n ls r w cn sn
  | .lstore j, .long x :: r => zi_sto2 j (.long x) pc n ls r w cn sn
  | .lstore_n j, .long x :: r => zi_sto2 j (.long x) pc n ls r w cn sn
  | .iinc j c, r => match zi_loc ls j with
    | some (.int x) => zi_sto1 j (.int (x + Int32.ofInt c)) pc n ls r w cn sn
    | _ => none
  | _, _ => none
/-- cells -/
def zi_cel (P : zi_P) (lw L : Nat) (xs : Nat → Int32) (k pc n : Nat) (i : Jvm.ClassFile.Instr) (ls : zi_L) (st : List Value) (w : zi_W) (cn sn : Nat) : Option zi_C := match i, st with
  | .ldc x, r => match zi_pool P k x with
    | some (6, _, _, .int v) => some (pc + n, ls, .int v :: r, w, cn, sn)
    | _ => none
  | .ldc2_w x, r => match zi_pool P k x with
    | some (6, _, _, .long v) => some (pc + n, ls, .long v :: r, w, cn, sn)
    | _ => none
  | .getfield x, .ref a :: r => match zi_pool P k x, zi_get w a with
    | some (0, c, f, _), some (.inr (c', fs)) => if c = c' then zi_push1 fs[f]? pc n ls r w cn sn else none
    | some (8, c, f, _), some (.inr (c', fs)) => if c = c' then zi_push1 fs[f]? pc n ls r w cn sn else none
    | some (9, c, f, _), some (.inr (c', fs)) => if c = c' then zi_push1 fs[f]? pc n ls r w cn sn else none
    | _, _ => none
  | .putfield x, v :: .ref a :: r => match zi_pool P k x, zi_get w a with
    | some (0, c, f, _), some (.inr (c', fs)) => if c = c' ∧ f < fs.length ∧ zi_fit (zi_fty P c f) v = true then some (pc + n, ls, r, w.set a (.inr (c', fs.set f v)), cn, sn) else none
    | some (8, c, f, _), some (.inr (c', fs)) => if c = c' ∧ f < fs.length ∧ zi_fit (zi_fty P c f) v = true then some (pc + n, ls, r, w.set a (.inr (c', fs.set f v)), cn, sn) else none
    | _, _ => none
  | .iaload, .int j :: .ref a :: r =>
    if a = zi_X then (if k = lw ∧ zi_in j L then some (pc + n, ls, .int (xs j.toNatClampNeg) :: r, w, cn, sn) else none)
    else match zi_get w a with
      | some (.inl (0, m, .inl f)) => if zi_in j m then some (pc + n, ls, .int (f j.toNatClampNeg) :: r, w, cn, sn) else none
      | _ => none
  | .baload, .int j :: .ref a :: r => match zi_get w a with
    | some (.inl (1, m, .inl f)) => if zi_in j m then some (pc + n, ls, .int (f j.toNatClampNeg) :: r, w, cn, sn) else none
    | _ => none
  | .laload, .int j :: .ref a :: r => match zi_get w a with
    | some (.inl (2, m, .inr (.inl f))) => if zi_in j m then some (pc + n, ls, .long (f j.toNatClampNeg) :: r, w, cn, sn) else none
    | _ => none
  | .aaload, .int j :: .ref a :: r => match zi_get w a with
    | some (.inl (3, m, .inr (.inr (.inr (.inr f))))) => if zi_in j m then zi_push1 ((f j.toNatClampNeg).map Value.ref) pc n ls r w cn sn else none
    | _ => none
  | .iastore, .int x :: .int j :: .ref a :: r => match zi_get w a with
    | some (.inl (0, m, .inl f)) => if zi_in j m then some (pc + n, ls, r, w.set a (.inl (0, m, .inl (upd f j.toNatClampNeg x))), cn, sn) else none
    | _ => none
  | .bastore, .int x :: .int j :: .ref a :: r => match zi_get w a with
    | some (.inl (1, m, .inl f)) => if zi_in j m ∧ (x = 0 ∨ x = 1) then some (pc + n, ls, r, w.set a (.inl (1, m, .inl (upd f j.toNatClampNeg x))), cn, sn) else none
    | _ => none
  | .lastore, .long x :: .int j :: .ref a :: r => match zi_get w a with
    | some (.inl (2, m, .inr (.inl f))) => if zi_in j m then some (pc + n, ls, r, w.set a (.inl (2, m, .inr (.inl (vp_updL f j.toNatClampNeg x)))), cn, sn) else none
    | _ => none
  | .aastore, .ref v :: .int j :: .ref a :: r => match zi_get w a, zi_get w v with
    | some (.inl (3, m, .inr (.inr (.inr (.inr f))))), some (.inr (ci, _)) => if zi_in j m ∧ ci = 2 then some (pc + n, ls, r, w.set a (.inl (3, m, .inr (.inr (.inr (.inr (va_up f j.toNatClampNeg (some v))))))), cn, sn) else none
    | _, _ => none
  | .arraylength, .ref a :: r =>
    if a = zi_X then (if k = lw then some (pc + n, ls, .int (Int32.ofNat L) :: r, w, cn, sn) else none)
    else match zi_get w a with
      | some (.inl (0, m, .inl _)) => some (pc + n, ls, .int (Int32.ofNat m) :: r, w, cn, sn)
      | _ => none
  | .new x, r => match zi_pool P k x with
    | some (4, c, z, _) => if cn = w.length ∧ w.length < zi_X then some (pc + n, ls, .ref w.length :: r, w ++ [.inr (c, zi_fs0 P c)], cn + 1, sn + z) else none
    | _ => none
  | .newarray .int, .int m :: r => if cn = w.length ∧ w.length < zi_X ∧ ¬ m < 0 ∧ m.toNatClampNeg ≤ 65536 then some (pc + n, ls, .ref w.length :: r, w ++ [.inl (0, m.toNatClampNeg, .inl (fun _ => 0))], cn + 1, sn + m.toNatClampNeg) else none
  | .newarray .boolean, .int m :: r => if cn = w.length ∧ w.length < zi_X ∧ ¬ m < 0 ∧ m.toNatClampNeg ≤ 65536 then some (pc + n, ls, .ref w.length :: r, w ++ [.inl (1, m.toNatClampNeg, .inl (fun _ => 0))], cn + 1, sn + m.toNatClampNeg) else none
  | .newarray .long, .int m :: r => if cn = w.length ∧ w.length < zi_X ∧ ¬ m < 0 ∧ m.toNatClampNeg ≤ 65536 then some (pc + n, ls, .ref w.length :: r, w ++ [.inl (2, m.toNatClampNeg, .inr (.inl (fun _ => 0)))], cn + 1, sn + m.toNatClampNeg) else none
  | .anewarray x, .int m :: r => match zi_pool P k x with
    | some (5, 3, _, _) => if cn = w.length ∧ w.length < zi_X ∧ ¬ m < 0 ∧ m.toNatClampNeg ≤ 65536 then some (pc + n, ls, .ref w.length :: r, w ++ [.inl (3, m.toNatClampNeg, .inr (.inr (.inr (.inr (fun _ => none)))))], cn + 1, sn + m.toNatClampNeg) else none
    | _ => none
  | _, _ => none
/-- members that are steps by themselves: Object(), Math.min, System.arraycopy over ints -/
def zi_pri (P : zi_P) (d q k pc n : Nat) (i : Jvm.ClassFile.Instr) (ls : zi_L) (st : List Value) (w : zi_W) (cn sn : Nat) : Option zi_C := match i, st with
  | .invokespecial x, .ref _ :: r => match zi_pool P k x with
    | some (7, 0, _, _) => if (r.map (fun v => v.category)).sum ≤ 8 ∧ 1 ≤ d ∧ 20 ≤ q then some (pc + n, ls, r, w, cn, sn) else none
    | _ => none
  | .invokestatic x, .int y :: .int z :: r => match zi_pool P k x with
    | some (7, 1, _, _) => if (r.map (fun v => v.category)).sum ≤ 8 ∧ 1 ≤ d ∧ 21 ≤ q then some (pc + n, ls, .int (if y < z then y else z) :: r, w, cn, sn) else none
    | some (7, 2, _, _) => match st with
      | .int m :: .int dp :: .ref a :: .int sp :: .ref a0 :: r => match zi_get w a0, zi_get w a with
        | some (.inl (0, n0, .inl f)), some (.inl (0, n1, .inl g)) =>
          if (r.map (fun v => v.category)).sum ≤ 8 ∧ ¬ sp < 0 ∧ ¬ dp < 0 ∧ ¬ m < 0 ∧ sp.toNatClampNeg + m.toNatClampNeg ≤ n0 ∧ dp.toNatClampNeg + m.toNatClampNeg ≤ n1 ∧ 1 ≤ d ∧ 26 ≤ q then
            some (pc + n, ls, r, w.set a (.inl (0, n1, .inl (va_cpy f g sp.toNatClampNeg dp.toNatClampNeg m.toNatClampNeg))), cn, sn) else none
        | _, _ => none
      | _ => none
    | _ => none
  | _, _ => none
def zi_or (a b : Option zi_C) : Option zi_C := match a with
  | some x => some x
  | none => b
def zi_sim (P : zi_P) (lw L : Nat) (xs : Nat → Int32) (d q k pc n : Nat) (i : Jvm.ClassFile.Instr) (ls : zi_L) (st : List Value) (w : zi_W) (cn sn : Nat) : Option zi_C :=
  zi_or (zi_num pc n i ls st w cn sn) (zi_or (zi_lcl pc n i ls st w cn sn) (zi_or (zi_br pc n i ls st w cn sn) (zi_or (zi_cel P lw L xs k pc n i ls st w cn sn) (zi_pri P d q k pc n i ls st w cn sn))))
/-- a return: what is answered -/
def zi_ret (P : zi_P) (k : Nat) (i : Jvm.ClassFile.Instr) (st : List Value) : Option (Option Value) := match i, st with
  | .return_, [] => if zi_r P k = none then some none else none
  | .ireturn, [.int x] => if zi_r P k = some .int ∨ (zi_r P k = some .boolean ∧ (x = 0 ∨ x = 1)) then some (some (.int x)) else none
  | _, _ => none
/-- a call: method, its arguments in order (the receiver first), what is left of the stack -/
def zi_inv (P : zi_P) (k : Nat) (i : Jvm.ClassFile.Instr) (st : List Value) (w : zi_W) : Option (Nat × List Value × List Value) := match i with
  | .invokevirtual x => match zi_pool P k x with
    | some (1, j, m, .ref ci) => match zi_pop m [] st with
      | some (as, .ref a :: r) => match zi_get w a with
        | some (.inr (c', _)) => if c' = ci ∧ (r.map (fun v => v.category)).sum ≤ 8 then some (j, .ref a :: as, r) else none
        | _ => none
      | _ => none
    | _ => none
  | .invokespecial x => match zi_pool P k x with
    | some (2, j, m, _) => match zi_pop m [] st with
      | some (as, .ref a :: r) => if (r.map (fun v => v.category)).sum ≤ 8 then some (j, .ref a :: as, r) else none
      | _ => none
    | _ => none
  | .invokestatic x => match zi_pool P k x with
    | some (3, j, m, _) => match zi_pop m [] st with
      | some (as, r) => if (r.map (fun v => v.category)).sum ≤ 8 then some (j, as, r) else none
      | _ => none
    | _ => none
  | _ => none
/-- the run: fuel n, room for d frames more, with q words -/
def zi_run (P : zi_P) (lw L : Nat) (xs : Nat → Int32) : Nat → Nat → Nat → Nat → Nat → zi_L → List Value → zi_W → Nat → Nat → Option zi_R
  | 0, _, _, _, _, _, _, _, _, _ => none
  | n + 1, d, q, k, pc, ls, st, w, cn, sn => match zi_thr P k pc with
    | some e => if st = [] ∧ 6 ≤ d ∧ 90 ≤ q then some (.inr e, w, cn + 1, sn + 6) else none
    | none => match zi_code P k pc with
      | none => none
      | some i => match zi_ret P k i st with
        | some r => some (.inl r, w, cn, sn)
        | none => match zi_sim P lw L xs d q k pc (zi_len i) i ls st w cn sn with
          | some (pc', ls', st', w', cn', sn') => if cn ≤ cn' ∧ sn ≤ sn' ∧ ls'.length = ls.length then zi_run P lw L xs n d q k pc' ls' st' w' cn' sn' else none
          | none => match zi_inv P k i st w, d with
            | some (j, as, r), d' + 1 => match zi_ent as (zi_n P j) with
              | none => none
              | some ls' => if 19 + zi_n P j ≤ q then match zi_run P lw L xs n d' (q - (19 + zi_n P j)) j 0 ls' [] w cn sn with
                | some (.inl v, w', cn', sn') => zi_run P lw L xs n d q k (pc + 3) ls (v.toList ++ r) w' cn' sn'
                | some (.inr e, w', cn', sn') => match zi_cat P k pc e with
                  | some x => some (.inl (some (.int x)), w', cn', sn')
                  | none => none
                | none => none
                else none
            | _, _ => none
end
section
/-! What the interpreter answers, the machine does: the steps. -/
def zi_ad (h0 b i : Nat) : Nat := if i = zi_X then b else h0 + i
def zi_v (h0 b : Nat) : Value → Value
  | .ref i => .ref (zi_ad h0 b i)
  | v => v
def zi_a (h0 b : Nat) : vp_A → vp_A
  | (n, .inr (.inr (.inr (.inr f)))) => (n, .inr (.inr (.inr (.inr (fun j => (f j).map (zi_ad h0 b))))))
  | a => a
def zi_e (cA : Nat → ClassId) (h0 b : Nat) : va_E → va_E
  | .inl (t, a) => .inl (cA t, zi_a h0 b a)
  | .inr (ci, fs) => .inr (ci, fs.map (zi_v h0 b))
def zi_w (cA : Nat → ClassId) (h0 b : Nat) (w : zi_W) : va_W := w.mapIdx (fun i c => (h0 + i, zi_e cA h0 b c))
theorem zi_v_cat (h0 b : Nat) (v : Value) : (zi_v h0 b v).category = v.category := by cases v <;> rfl
theorem zi_w_get {cA : Nat → ClassId} {h0 b : Nat} {w : zi_W} {i : Nat} {c : va_E} (h : w[i]? = some c) : (zi_w cA h0 b w)[i]? = some (h0 + i, zi_e cA h0 b c) := by
  unfold zi_w
  rw [List.getElem?_mapIdx, h]
  rfl
theorem zi_w_set {cA : Nat → ClassId} {h0 b : Nat} {w : zi_W} {i : Nat} {c : va_E} : (zi_w cA h0 b w).set i (h0 + i, zi_e cA h0 b c) = zi_w cA h0 b (w.set i c) := by
  unfold zi_w
  apply List.ext_getElem?
  intro j
  rw [List.getElem?_mapIdx, List.getElem?_set, List.getElem?_set, List.length_mapIdx]
  by_cases hj : i = j
  · subst hj
    by_cases hl : i < w.length
    · simp [hl]
    · simp [hl]
  · simp [hj, List.getElem?_mapIdx]
theorem zi_w_app {cA : Nat → ClassId} {h0 b : Nat} {w : zi_W} {c : va_E} : zi_w cA h0 b (w ++ [c]) = zi_w cA h0 b w ++ [(h0 + w.length, zi_e cA h0 b c)] := by
  unfold zi_w
  exact List.mapIdx_concat
theorem zi_get_at {w : zi_W} {i : Nat} {c : va_E} (h : zi_get w i = some c) : w[i]? = some c ∧ i ≠ zi_X := by
  unfold zi_get at h
  split at h
  · cases h
  · exact ⟨h, by assumption⟩
theorem zi_ad_at {h0 b i : Nat} (h : i ≠ zi_X) : zi_ad h0 b i = h0 + i := if_neg h
/-- the machine's locals hold the interpreter's -/
def zi_ls (h0 b : Nat) (LS : Array Slot) (ls : zi_L) : Prop := LS.size = ls.length ∧ lv_wf LS ∧ ∀ (i : Nat) (v : Value), zi_loc ls i = some v → LS[i]? = some (.val (zi_v h0 b v))
def zi_al (h0 b : Nat) (ls : zi_L) : List (Nat × Value) := (List.range ls.length).filterMap (fun i => (zi_loc ls i).map (fun v => (i, zi_v h0 b v)))
theorem zi_loc_lt {ls : zi_L} {i : Nat} {v : Value} (h : zi_loc ls i = some v) : i < ls.length := by
  unfold zi_loc at h
  split at h
  · rename_i h2
    exact (List.getElem?_eq_some_iff.mp h2).1
  · cases h
theorem zi_al_mem {h0 b : Nat} {ls : zi_L} {i : Nat} {u : Value} : (i, u) ∈ zi_al h0 b ls ↔ ∃ v, zi_loc ls i = some v ∧ u = zi_v h0 b v := by
  unfold zi_al
  rw [List.mem_filterMap]
  constructor
  · rintro ⟨j, -, hj⟩
    cases hl : zi_loc ls j with
    | none => rw [hl] at hj; cases hj
    | some v =>
      rw [hl] at hj
      cases hj
      exact ⟨v, hl, rfl⟩
  · rintro ⟨v, hv, rfl⟩
    exact ⟨i, List.mem_range.mpr (zi_loc_lt hv), by rw [hv]; rfl⟩
theorem zi_ls_has {h0 b : Nat} {LS : Array Slot} {ls : zi_L} (h : zi_ls h0 b LS ls) : lv_has LS ls.length (zi_al h0 b ls) := by
  refine ⟨h.1, h.2.1, fun q hq => ?_⟩
  obtain ⟨i, u⟩ := q
  obtain ⟨v, hv, rfl⟩ := zi_al_mem.mp hq
  exact h.2.2 i v hv
theorem zi_loc_set {ls : zi_L} {i j : Nat} {x : Option Value} {v : Value} (h : zi_loc (ls.set i x) j = some v) : (i = j ∧ x = some v) ∨ (i ≠ j ∧ zi_loc ls j = some v) := by
  unfold zi_loc at h ⊢
  rw [List.getElem?_set] at h
  by_cases hij : i = j
  · subst hij
    rw [if_pos rfl] at h
    by_cases hl : i < ls.length
    · rw [if_pos hl] at h
      left
      refine ⟨rfl, ?_⟩
      cases x with
      | none => cases h
      | some u => exact h
    · rw [if_neg hl] at h
      cases h
  · rw [if_neg hij] at h
    exact Or.inr ⟨hij, h⟩
theorem zi_two_not {ls : zi_L} {i : Nat} {v : Value} (h : zi_two ls i = false) (hv : zi_loc ls i = some v) : ¬ v.category = 2 := by
  unfold zi_two at h
  rw [hv] at h
  simpa using h
theorem zi_ls_st1 {h0 b : Nat} {LS' : Array Slot} {ls ls' : zi_L} {i : Nat} {v : Value} (hs : zi_set1 ls i v = some ls')
    (h : lv_has LS' ls.length ((i, zi_v h0 b v) :: (zi_al h0 b ls).filter (fun q => !(q.1 == i) && !(q.1 + 1 == i && q.2.category == 2)))) : zi_ls h0 b LS' ls' := by
  unfold zi_set1 at hs
  split at hs
  · rename_i hc
    cases hs
    refine ⟨by rw [h.1, List.length_set], h.2.1, fun j u hj => ?_⟩
    rcases zi_loc_set hj with ⟨rfl, e⟩ | ⟨hne, hl⟩
    · cases e
      exact h.2.2 (i, zi_v h0 b v) List.mem_cons_self
    · refine h.2.2 (j, zi_v h0 b u) (List.mem_cons_of_mem _ (List.mem_filter.mpr ⟨zi_al_mem.mpr ⟨u, hl, rfl⟩, ?_⟩))
      have h2 : ¬ (j + 1 = i ∧ (zi_v h0 b u).category = 2) := by
        rintro ⟨e1, e2⟩
        rw [zi_v_cat] at e2
        rcases hc.2.2 with z | z
        · omega
        · have : i - 1 = j := by omega
          rw [this] at z
          exact zi_two_not z hl e2
      simp only [Bool.and_eq_true, Bool.not_eq_true', beq_eq_false_iff_ne, ne_eq, Bool.and_eq_false_iff]
      refine ⟨fun q => hne q.symm, ?_⟩
      by_cases q1 : j + 1 = i
      · exact Or.inr fun q2 => h2 ⟨q1, q2⟩
      · exact Or.inl q1
  · cases hs
theorem zi_ls_st2 {h0 b : Nat} {LS' : Array Slot} {ls ls' : zi_L} {i : Nat} {v : Value} (hs : zi_set2 ls i v = some ls')
    (h : lv_has LS' ls.length ((i, zi_v h0 b v) :: (zi_al h0 b ls).filter (fun q => !(q.1 == i) && (!(q.1 == i + 1) && !(q.1 + 1 == i && q.2.category == 2))))) : zi_ls h0 b LS' ls' := by
  unfold zi_set2 at hs
  split at hs
  · rename_i hc
    cases hs
    refine ⟨by rw [h.1, List.length_set, List.length_set], h.2.1, fun j u hj => ?_⟩
    rcases zi_loc_set hj with ⟨-, e⟩ | ⟨hne, hl⟩
    · cases e
    · rcases zi_loc_set hl with ⟨rfl, e⟩ | ⟨hne2, hl⟩
      · cases e
        exact h.2.2 (i, zi_v h0 b v) List.mem_cons_self
      · refine h.2.2 (j, zi_v h0 b u) (List.mem_cons_of_mem _ (List.mem_filter.mpr ⟨zi_al_mem.mpr ⟨u, hl, rfl⟩, ?_⟩))
        have h2 : ¬ (j + 1 = i ∧ (zi_v h0 b u).category = 2) := by
          rintro ⟨e1, e2⟩
          rw [zi_v_cat] at e2
          rcases hc.2.2 with z | z
          · omega
          · have : i - 1 = j := by omega
            rw [this] at z
            exact zi_two_not z hl e2
        simp only [Bool.and_eq_true, Bool.not_eq_true', beq_eq_false_iff_ne, ne_eq, Bool.and_eq_false_iff]
        refine ⟨fun q => hne2 q.symm, fun q => hne q.symm, ?_⟩
        by_cases q1 : j + 1 = i
        · exact Or.inr fun q2 => h2 ⟨q1, q2⟩
        · exact Or.inl q1
  · cases hs
section ZS
variable {p : Program} {l : Launch} {e : Env} {R : Room} {s : State} {m : MethodId} {args : Array Value} {below : List Frame} {meth : Method} {c : Code} {H : Heap} {locs : List Loc} {cells slots : Nat} {Q : State → Prop} {cc : ByteArray} {h0 b : Nat}
theorem zs_num {pc pc' : Nat} {i : Jvm.ClassFile.Instr} {ls ls' : zi_L} {st st' : List Value} {w w' : zi_W} {cn cn' sn sn' : Nat} (hx : p.tables.exec = Jvm.exec) (hb : c.code = cc) (hdg : decode cc pc = .ok (i, zi_len i))
    (h : zi_num pc (zi_len i) i ls st w cn sn = some (pc', ls', st', w', cn', sn')) : ls' = ls ∧ w' = w ∧ cn' = cn ∧ sn' = sn ∧ ∀ LS : Array Slot, W p l e R s m args below meth c H locs cells slots Q (F0 m pc' LS (st'.map (zi_v h0 b))) → W p l e R s m args below meth c H locs cells slots Q (F0 m pc LS (st.map (zi_v h0 b))) := by
  unfold zi_num at h
  split at h
  · cases h; exact ⟨rfl, rfl, rfl, rfl, fun LS k => lv_iconst hx hb hdg rfl k⟩
  · cases h; exact ⟨rfl, rfl, rfl, rfl, fun LS k => lv_bipush hx hb hdg rfl k⟩
  · cases h; exact ⟨rfl, rfl, rfl, rfl, fun LS k => lv_sipush hx hb hdg rfl k⟩
  · cases h; exact ⟨rfl, rfl, rfl, rfl, fun LS k => lv_iadd hx hb hdg k⟩
  · cases h; exact ⟨rfl, rfl, rfl, rfl, fun LS k => lv_isub hx hb hdg k⟩
  · cases h; exact ⟨rfl, rfl, rfl, rfl, fun LS k => lv_imul hx hb hdg k⟩
  · cases h; exact ⟨rfl, rfl, rfl, rfl, fun LS k => lv_iand hx hb hdg k⟩
  · cases h; exact ⟨rfl, rfl, rfl, rfl, fun LS k => lv_ixor hx hb hdg k⟩
  · cases h; exact ⟨rfl, rfl, rfl, rfl, fun LS k => lv_ishl hx hb hdg k⟩
  · cases h; exact ⟨rfl, rfl, rfl, rfl, fun LS k => lv_iushr hx hb hdg rfl k⟩
  · split at h
    · cases h
    · cases h; exact ⟨rfl, rfl, rfl, rfl, fun LS k => lv_idiv hx hb hdg (by assumption) k⟩
  · split at h
    · cases h
    · cases h; exact ⟨rfl, rfl, rfl, rfl, fun LS k => lv_irem hx hb hdg (by assumption) k⟩
  · cases h; exact ⟨rfl, rfl, rfl, rfl, fun LS k => lv_i2l hx hb hdg rfl k⟩
  · cases h; exact ⟨rfl, rfl, rfl, rfl, fun LS k => lv_l2i hx hb hdg rfl k⟩
  · cases h; exact ⟨rfl, rfl, rfl, rfl, fun LS k => lv_i2c hx hb hdg rfl k⟩
  · cases h; exact ⟨rfl, rfl, rfl, rfl, fun LS k => lv_ladd hx hb hdg k⟩
  · cases h; exact ⟨rfl, rfl, rfl, rfl, fun LS k => lv_lmul hx hb hdg k⟩
  · split at h
    · cases h
    · cases h; exact ⟨rfl, rfl, rfl, rfl, fun LS k => lv_ldiv hx hb hdg (by assumption) k⟩
  · split at h
    · cases h
    · cases h; exact ⟨rfl, rfl, rfl, rfl, fun LS k => lv_lrem hx hb hdg (by assumption) k⟩
  · cases h; exact ⟨rfl, rfl, rfl, rfl, fun LS k => W.lcmp hx hb hdg k⟩
  · split at h
    · cases h; exact ⟨rfl, rfl, rfl, rfl, fun LS k => lv_dup hx hb hdg (by rw [zi_v_cat]; assumption) k⟩
    · cases h
  · split at h
    · rename_i hc
      cases h; exact ⟨rfl, rfl, rfl, rfl, fun LS k => lv_dup_x1 hx hb hdg (by rw [zi_v_cat]; exact hc.1) (by rw [zi_v_cat]; exact hc.2) k⟩
    · cases h
  · split at h
    · rename_i hc
      cases h; exact ⟨rfl, rfl, rfl, rfl, fun LS k => lv_dup_x2 hx hb hdg (by rw [zi_v_cat]; exact hc.1) (by rw [zi_v_cat]; exact hc.2.1) (by rw [zi_v_cat]; exact hc.2.2) k⟩
    · cases h
  · split at h
    · rename_i hc
      cases h; exact ⟨rfl, rfl, rfl, rfl, fun LS k => lv_dup2_11 hx hb hdg (by rw [zi_v_cat]; exact hc.1) (by rw [zi_v_cat]; exact hc.2) k⟩
    · cases h
  · split at h
    · cases h; exact ⟨rfl, rfl, rfl, rfl, fun LS k => lv_pop hx hb hdg (by rw [zi_v_cat]; assumption) k⟩
    · cases h
  · cases h
theorem zs_tgt {pc t : Nat} {off : Int} (h : zi_tgt pc off = some t) : (pc : Int) + off = (t : Int) := by
  unfold zi_tgt at h
  split at h
  · cases h
    rw [Int.toNat_of_nonneg (by assumption)]
  · cases h
theorem zs_jmp {bb : Bool} {pc n pc' : Nat} {off : Int} {ls ls' : zi_L} {st st' : List Value} {w w' : zi_W} {cn cn' sn sn' : Nat} (h : zi_jmp bb pc n off ls st w cn sn = some (pc', ls', st', w', cn', sn')) :
    ∃ t : Nat, (pc : Int) + off = (t : Int) ∧ pc' = (if bb = true then t else pc + n) ∧ ls' = ls ∧ st' = st ∧ w' = w ∧ cn' = cn ∧ sn' = sn := by
  unfold zi_jmp at h
  split at h
  · rename_i t ht
    cases h
    exact ⟨t, zs_tgt ht, rfl, rfl, rfl, rfl, rfl, rfl⟩
  · cases h
theorem zs_br {pc pc' : Nat} {i : Jvm.ClassFile.Instr} {ls ls' : zi_L} {st st' : List Value} {w w' : zi_W} {cn cn' sn sn' len : Nat} (hx : p.tables.exec = Jvm.exec) (hb : c.code = cc) (hdg : decode cc pc = .ok (i, len)) (hlen : zi_len i = 0 ∨ len = zi_len i)
    (h : zi_br pc (zi_len i) i ls st w cn sn = some (pc', ls', st', w', cn', sn')) : ls' = ls ∧ w' = w ∧ cn' = cn ∧ sn' = sn ∧ ∀ LS : Array Slot, W p l e R s m args below meth c H locs cells slots Q (F0 m pc' LS (st'.map (zi_v h0 b))) → W p l e R s m args below meth c H locs cells slots Q (F0 m pc LS (st.map (zi_v h0 b))) := by
  unfold zi_br at h
  split at h
  · have hlen : len = 3 := hlen.resolve_left (show ¬ (3 = 0) by decide)
    subst hlen
    obtain ⟨t, ht, rfl, rfl, rfl, rfl, rfl, rfl⟩ := zs_jmp h
    exact ⟨rfl, rfl, rfl, rfl, fun LS k => lv_if_eq hx hb hdg ht (fun q => by rwa [decide_eq_true q, if_pos rfl] at k) (fun q => by rwa [decide_eq_false q, if_neg Bool.false_ne_true] at k)⟩
  · have hlen : len = 3 := hlen.resolve_left (show ¬ (3 = 0) by decide)
    subst hlen
    obtain ⟨t, ht, rfl, rfl, rfl, rfl, rfl, rfl⟩ := zs_jmp h
    exact ⟨rfl, rfl, rfl, rfl, fun LS k => lv_if_ne hx hb hdg ht (fun q => by rwa [decide_eq_true q, if_pos rfl] at k) (fun q => by rwa [decide_eq_false (fun h => h q), if_neg Bool.false_ne_true] at k)⟩
  · have hlen : len = 3 := hlen.resolve_left (show ¬ (3 = 0) by decide)
    subst hlen
    obtain ⟨t, ht, rfl, rfl, rfl, rfl, rfl, rfl⟩ := zs_jmp h
    exact ⟨rfl, rfl, rfl, rfl, fun LS k => lv_if_lt hx hb hdg ht (fun q => by rwa [decide_eq_true q, if_pos rfl] at k) (fun q => by rwa [decide_eq_false q, if_neg Bool.false_ne_true] at k)⟩
  · have hlen : len = 3 := hlen.resolve_left (show ¬ (3 = 0) by decide)
    subst hlen
    obtain ⟨t, ht, rfl, rfl, rfl, rfl, rfl, rfl⟩ := zs_jmp h
    exact ⟨rfl, rfl, rfl, rfl, fun LS k => lv_if_ge hx hb hdg ht (fun q => by rwa [decide_eq_true q, if_pos rfl] at k) (fun q => by rwa [decide_eq_false q, if_neg Bool.false_ne_true] at k)⟩
  · have hlen : len = 3 := hlen.resolve_left (show ¬ (3 = 0) by decide)
    subst hlen
    obtain ⟨t, ht, rfl, rfl, rfl, rfl, rfl, rfl⟩ := zs_jmp h
    exact ⟨rfl, rfl, rfl, rfl, fun LS k => lv_if_gt hx hb hdg ht (fun q => by rwa [decide_eq_true q, if_pos rfl] at k) (fun q => by rwa [decide_eq_false q, if_neg Bool.false_ne_true] at k)⟩
  · have hlen : len = 3 := hlen.resolve_left (show ¬ (3 = 0) by decide)
    subst hlen
    obtain ⟨t, ht, rfl, rfl, rfl, rfl, rfl, rfl⟩ := zs_jmp h
    exact ⟨rfl, rfl, rfl, rfl, fun LS k => lv_if_le hx hb hdg ht (fun q => by rwa [decide_eq_true q, if_pos rfl] at k) (fun q => by rwa [decide_eq_false q, if_neg Bool.false_ne_true] at k)⟩
  · have hlen : len = 3 := hlen.resolve_left (show ¬ (3 = 0) by decide)
    subst hlen
    obtain ⟨t, ht, rfl, rfl, rfl, rfl, rfl, rfl⟩ := zs_jmp h
    exact ⟨rfl, rfl, rfl, rfl, fun LS k => lv_icmp_eq hx hb hdg ht (fun q => by rwa [decide_eq_true q, if_pos rfl] at k) (fun q => by rwa [decide_eq_false q, if_neg Bool.false_ne_true] at k)⟩
  · have hlen : len = 3 := hlen.resolve_left (show ¬ (3 = 0) by decide)
    subst hlen
    obtain ⟨t, ht, rfl, rfl, rfl, rfl, rfl, rfl⟩ := zs_jmp h
    exact ⟨rfl, rfl, rfl, rfl, fun LS k => lv_icmp_ne hx hb hdg ht (fun q => by rwa [decide_eq_true q, if_pos rfl] at k) (fun q => by rwa [decide_eq_false (fun h => h q), if_neg Bool.false_ne_true] at k)⟩
  · have hlen : len = 3 := hlen.resolve_left (show ¬ (3 = 0) by decide)
    subst hlen
    obtain ⟨t, ht, rfl, rfl, rfl, rfl, rfl, rfl⟩ := zs_jmp h
    exact ⟨rfl, rfl, rfl, rfl, fun LS k => lv_icmp_lt hx hb hdg ht (fun q => by rwa [decide_eq_true q, if_pos rfl] at k) (fun q => by rwa [decide_eq_false q, if_neg Bool.false_ne_true] at k)⟩
  · have hlen : len = 3 := hlen.resolve_left (show ¬ (3 = 0) by decide)
    subst hlen
    obtain ⟨t, ht, rfl, rfl, rfl, rfl, rfl, rfl⟩ := zs_jmp h
    exact ⟨rfl, rfl, rfl, rfl, fun LS k => lv_icmp_ge hx hb hdg ht (fun q => by rwa [decide_eq_true q, if_pos rfl] at k) (fun q => by rwa [decide_eq_false q, if_neg Bool.false_ne_true] at k)⟩
  · have hlen : len = 3 := hlen.resolve_left (show ¬ (3 = 0) by decide)
    subst hlen
    obtain ⟨t, ht, rfl, rfl, rfl, rfl, rfl, rfl⟩ := zs_jmp h
    exact ⟨rfl, rfl, rfl, rfl, fun LS k => lv_icmp_gt hx hb hdg ht (fun q => by rwa [decide_eq_true q, if_pos rfl] at k) (fun q => by rwa [decide_eq_false q, if_neg Bool.false_ne_true] at k)⟩
  · have hlen : len = 3 := hlen.resolve_left (show ¬ (3 = 0) by decide)
    subst hlen
    obtain ⟨t, ht, rfl, rfl, rfl, rfl, rfl, rfl⟩ := zs_jmp h
    exact ⟨rfl, rfl, rfl, rfl, fun LS k => lv_icmp_le hx hb hdg ht (fun q => by rwa [decide_eq_true q, if_pos rfl] at k) (fun q => by rwa [decide_eq_false q, if_neg Bool.false_ne_true] at k)⟩
  · have hlen : len = 3 := hlen.resolve_left (show ¬ (3 = 0) by decide)
    subst hlen
    obtain ⟨t, ht, rfl, rfl, rfl, rfl, rfl, rfl⟩ := zs_jmp h
    exact ⟨rfl, rfl, rfl, rfl, fun LS k => lv_goto hx hb hdg ht k⟩
  · split at h
    · obtain ⟨t, ht, rfl, rfl, rfl, rfl, rfl, rfl⟩ := zs_jmp h
      exact ⟨rfl, rfl, rfl, rfl, fun LS k => lv_tableOut hx hb hdg (by assumption) ht k⟩
    · rename_i hlo
      split at h
      · rename_i off hoff
        obtain ⟨t, ht, rfl, rfl, rfl, rfl, rfl, rfl⟩ := zs_jmp h
        exact ⟨rfl, rfl, rfl, rfl, fun LS k => lv_tableIn hx hb hdg (fun q => hlo (Or.inl q)) (fun q => hlo (Or.inr q)) hoff ht k⟩
      · cases h
  · cases h
theorem zs_push1 {q : Option Value} {pc n pc' : Nat} {ls ls' : zi_L} {st st' : List Value} {w w' : zi_W} {cn cn' sn sn' : Nat} (h : zi_push1 q pc n ls st w cn sn = some (pc', ls', st', w', cn', sn')) :
    ∃ v, q = some v ∧ pc' = pc + n ∧ ls' = ls ∧ st' = v :: st ∧ w' = w ∧ cn' = cn ∧ sn' = sn := by
  unfold zi_push1 at h
  split at h
  · cases h; exact ⟨_, rfl, rfl, rfl, rfl, rfl, rfl, rfl⟩
  · cases h
theorem zs_isI {q : Option Value} {v : Value} (h : zi_isI q = some v) : ∃ x, v = .int x ∧ q = some (.int x) := by
  unfold zi_isI at h
  split at h
  · cases h; exact ⟨_, rfl, rfl⟩
  · cases h
theorem zs_isL {q : Option Value} {v : Value} (h : zi_isL q = some v) : ∃ x, v = .long x ∧ q = some (.long x) := by
  unfold zi_isL at h
  split at h
  · cases h; exact ⟨_, rfl, rfl⟩
  · cases h
theorem zs_isR {q : Option Value} {v : Value} (h : zi_isR q = some v) : ∃ x, v = .ref x ∧ q = some (.ref x) := by
  unfold zi_isR at h
  split at h
  · cases h; exact ⟨_, rfl, rfl⟩
  · cases h
theorem zs_sto1 {i : Nat} {v : Value} {pc n pc' : Nat} {ls ls' : zi_L} {st st' : List Value} {w w' : zi_W} {cn cn' sn sn' : Nat} (h : zi_sto1 i v pc n ls st w cn sn = some (pc', ls', st', w', cn', sn')) :
    zi_set1 ls i v = some ls' ∧ pc' = pc + n ∧ st' = st ∧ w' = w ∧ cn' = cn ∧ sn' = sn := by
  unfold zi_sto1 at h
  split at h
  · cases h; exact ⟨by assumption, rfl, rfl, rfl, rfl, rfl⟩
  · cases h
theorem zs_sto2 {i : Nat} {v : Value} {pc n pc' : Nat} {ls ls' : zi_L} {st st' : List Value} {w w' : zi_W} {cn cn' sn sn' : Nat} (h : zi_sto2 i v pc n ls st w cn sn = some (pc', ls', st', w', cn', sn')) :
    zi_set2 ls i v = some ls' ∧ pc' = pc + n ∧ st' = st ∧ w' = w ∧ cn' = cn ∧ sn' = sn := by
  unfold zi_sto2 at h
  split at h
  · cases h; exact ⟨by assumption, rfl, rfl, rfl, rfl, rfl⟩
  · cases h
theorem zs_set1_lt {ls ls' : zi_L} {i : Nat} {v : Value} (h : zi_set1 ls i v = some ls') : i < ls.length := by
  unfold zi_set1 at h
  split at h
  · rename_i hc; exact hc.1
  · cases h
theorem zs_set2_lt {ls ls' : zi_L} {i : Nat} {v : Value} (h : zi_set2 ls i v = some ls') : i + 1 < ls.length := by
  unfold zi_set2 at h
  split at h
  · rename_i hc; exact hc.1
  · cases h
theorem zs_lcl {pc pc' : Nat} {i : Jvm.ClassFile.Instr} {ls ls' : zi_L} {st st' : List Value} {w w' : zi_W} {cn cn' sn sn' : Nat} (hx : p.tables.exec = Jvm.exec) (hb : c.code = cc) (hdg : decode cc pc = .ok (i, zi_len i))
    (h : zi_lcl pc (zi_len i) i ls st w cn sn = some (pc', ls', st', w', cn', sn')) : w' = w ∧ cn' = cn ∧ sn' = sn ∧ ∀ LS : Array Slot, zi_ls h0 b LS ls → (∀ LS' : Array Slot, zi_ls h0 b LS' ls' → W p l e R s m args below meth c H locs cells slots Q (F0 m pc' LS' (st'.map (zi_v h0 b)))) → W p l e R s m args below meth c H locs cells slots Q (F0 m pc LS (st.map (zi_v h0 b))) := by
  unfold zi_lcl at h
  split at h
  · obtain ⟨v, hv, rfl, rfl, rfl, rfl, rfl, rfl⟩ := zs_push1 h
    obtain ⟨x, rfl, hq⟩ := zs_isI hv
    exact ⟨rfl, rfl, rfl, fun LS hl k => lv_iload hx hb hdg (hl.2.2 _ _ hq) (k LS hl)⟩
  · obtain ⟨v, hv, rfl, rfl, rfl, rfl, rfl, rfl⟩ := zs_push1 h
    obtain ⟨x, rfl, hq⟩ := zs_isI hv
    exact ⟨rfl, rfl, rfl, fun LS hl k => lv_iload_n hx hb hdg rfl (hl.2.2 _ _ hq) (k LS hl)⟩
  · obtain ⟨v, hv, rfl, rfl, rfl, rfl, rfl, rfl⟩ := zs_push1 h
    obtain ⟨x, rfl, hq⟩ := zs_isL hv
    exact ⟨rfl, rfl, rfl, fun LS hl k => lv_lload hx hb hdg (hl.2.2 _ _ hq) (k LS hl)⟩
  · obtain ⟨v, hv, rfl, rfl, rfl, rfl, rfl, rfl⟩ := zs_push1 h
    obtain ⟨x, rfl, hq⟩ := zs_isL hv
    exact ⟨rfl, rfl, rfl, fun LS hl k => lv_lload_n hx hb hdg rfl (hl.2.2 _ _ hq) (k LS hl)⟩
  · obtain ⟨v, hv, rfl, rfl, rfl, rfl, rfl, rfl⟩ := zs_push1 h
    obtain ⟨x, rfl, hq⟩ := zs_isR hv
    exact ⟨rfl, rfl, rfl, fun LS hl k => lv_aload hx hb hdg (hl.2.2 _ _ hq) (k LS hl)⟩
  · obtain ⟨v, hv, rfl, rfl, rfl, rfl, rfl, rfl⟩ := zs_push1 h
    obtain ⟨x, rfl, hq⟩ := zs_isR hv
    exact ⟨rfl, rfl, rfl, fun LS hl k => lv_aload_n hx hb hdg rfl (hl.2.2 _ _ hq) (k LS hl)⟩
  · obtain ⟨hs, rfl, rfl, rfl, rfl, rfl⟩ := zs_sto1 h
    exact ⟨rfl, rfl, rfl, fun LS hl k => lv_istore hx hb hdg (zi_ls_has hl) (zs_set1_lt hs) rfl fun LS' hl' => k LS' (zi_ls_st1 hs hl')⟩
  · obtain ⟨hs, rfl, rfl, rfl, rfl, rfl⟩ := zs_sto1 h
    exact ⟨rfl, rfl, rfl, fun LS hl k => lv_istore_n hx hb hdg rfl (zi_ls_has hl) (zs_set1_lt hs) rfl fun LS' hl' => k LS' (zi_ls_st1 hs hl')⟩
  · obtain ⟨hs, rfl, rfl, rfl, rfl, rfl⟩ := zs_sto1 h
    exact ⟨rfl, rfl, rfl, fun LS hl k => lv_astore hx hb hdg (zi_ls_has hl) (zs_set1_lt hs) rfl fun LS' hl' => k LS' (zi_ls_st1 hs hl')⟩
  · obtain ⟨hs, rfl, rfl, rfl, rfl, rfl⟩ := zs_sto1 h
    exact ⟨rfl, rfl, rfl, fun LS hl k => lv_astore_n hx hb hdg rfl (zi_ls_has hl) (zs_set1_lt hs) rfl fun LS' hl' => k LS' (zi_ls_st1 hs hl')⟩
  · obtain ⟨hs, rfl, rfl, rfl, rfl, rfl⟩ := zs_sto2 h
    exact ⟨rfl, rfl, rfl, fun LS hl k => lv_lstore hx hb hdg (zi_ls_has hl) (zs_set2_lt hs) rfl fun LS' hl' => k LS' (zi_ls_st2 hs hl')⟩
  · obtain ⟨hs, rfl, rfl, rfl, rfl, rfl⟩ := zs_sto2 h
    exact ⟨rfl, rfl, rfl, fun LS hl k => lv_lstore_n hx hb hdg rfl (zi_ls_has hl) (zs_set2_lt hs) rfl fun LS' hl' => k LS' (zi_ls_st2 hs hl')⟩
  · split at h
    · rename_i x hq
      obtain ⟨hs, rfl, rfl, rfl, rfl, rfl⟩ := zs_sto1 h
      refine ⟨rfl, rfl, rfl, fun LS hl k => ?_⟩
      obtain ⟨kk, hk⟩ := List.getElem?_of_mem (zi_al_mem (h0 := h0) (b := b) |>.mpr ⟨_, hq, rfl⟩)
      exact lv_iinc hx hb hdg (zi_ls_has hl) hk rfl (zs_set1_lt hs) rfl fun LS' hl' => k LS' (zi_ls_st1 hs hl')
    · cases h
  · cases h
end ZS
end
section
/-! What the interpreter answers, the machine does: cells and members that are steps by themselves. -/
/-- the facts that are asked of a pool entry; TS: words of the tables; NW: words on nest mates -/
def zi_lnk (TS NW : List Cond) (own : String) (x : Nat) (q : String × String × String × Bool) : Prop :=
  Cond.fieldLink own x q.1 q.2.1 q.2.2.1 ∈ TS ∨ ∃ host : String, Cond.fieldLinkNest own x q.1 q.2.1 q.2.2.1 host ∈ NW
def zi_cls (P : zi_P) (cl : List vw_C) (TS : List Cond) (c : Nat) (q : vw_C) : Prop :=
  cl[c]? = some q ∧ (∀ w ∈ u_ws q.1 q.2.1 q.2.2, w ∈ TS) ∧ (∀ j, j < q.2.2 → parseFieldDescriptor (q.2.1 j).2.2.1 = some (zi_fty P c j)) ∧ (∀ a, a < q.2.2 → ∀ b, b < q.2.2 → a ≠ b → (q.2.1 a).2.1 ≠ (q.2.1 b).2.1)
def zi_fld (P : zi_P) (cl : List vw_C) (TS NW : List Cond) (own : String) (x c f : Nat) (fin : Bool) : Prop :=
  ∃ q : vw_C, zi_cls P cl TS c q ∧ f < q.2.2 ∧ (q.2.1 f).2.2.2 = fin ∧ zi_lnk TS NW own x (q.2.1 f)
def zi_noR : Value → Bool
  | .ref _ => false
  | _ => true
def zi_tok (P : zi_P) (cl : List vw_C) (TS NW : List Cond) (CL : String) (k x : Nat) (t : zi_T) : Prop :=
  (t.1 = 0 → zi_fld P cl TS NW (zi_y P k).cls x t.2.1 t.2.2.1 false) ∧
  (t.1 = 9 → zi_fld P cl TS NW (zi_y P k).cls x t.2.1 t.2.2.1 true) ∧
  (t.1 = 8 → (zi_y P k).name = "<init>" ∧ ∃ q : vw_C, zi_cls P cl TS t.2.1 q ∧ t.2.2.1 < q.2.2 ∧ (q.2.1 t.2.2.1).2.2.2 = true ∧ (q.2.1 t.2.2.1).1 = (zi_y P k).cls ∧ Cond.fieldLink (zi_y P k).cls x (q.2.1 t.2.2.1).1 (q.2.1 t.2.2.1).2.1 (q.2.1 t.2.2.1).2.2.1 ∈ TS) ∧
  (t.1 = 4 → ∃ q : vw_C, zi_cls P cl TS t.2.1 q ∧ t.2.2.1 = q.2.2 ∧ Cond.classLink (zi_y P k).cls x q.1 ∈ TS ∧ Cond.instantiable q.1 q.2.2 ∈ TS ∧ Cond.initialized q.1 ∈ TS ∧ (∀ j, j < q.2.2 → defaultValue (zi_fty P t.2.1 j) = vp_V (zi_fs0 P t.2.1) j) ∧ (zi_fs0 P t.2.1).all zi_noR = true) ∧
  (t.1 = 5 → Cond.classLink (zi_y P k).cls x CL ∈ TS) ∧
  (t.1 = 6 → (∀ v, t.2.2.2 = .int v → Cond.constant (zi_y P k).cls x v ∈ TS) ∧ (∀ v, t.2.2.2 = .long v → Cond.constantLong (zi_y P k).cls x v ∈ TS)) ∧
  (t.1 = 7 → t.2.1 = 0 → Cond.methodLink (zi_y P k).cls x Lib.objectInit ∈ TS ∧ Cond.instanceMethod Lib.objectInit ∈ TS ∧ Cond.code Lib.objectInit ⟨#[0xb1]⟩ 1 none ∈ TS) ∧
  (t.1 = 7 → t.2.1 = 1 → Cond.methodLink (zi_y P k).cls x Lib.Math.min.name ∈ TS ∧ Cond.static Lib.Math.min.name ∈ TS ∧ Cond.initialized "java/lang/Math" ∈ TS ∧ Cond.code Lib.Math.min.name Lib.Math.min.code 2 (some .int) ∈ TS) ∧
  (t.1 = 7 → t.2.1 = 2 → Cond.methodLink (zi_y P k).cls x arraycopyName ∈ TS ∧ Cond.native arraycopyName ∈ TS ∧ Cond.static arraycopyName ∈ TS ∧ Cond.initialized "java/lang/System" ∈ TS)
def zi_tys (cA : Nat → ClassId) (CL : String) : List (ClassId × FieldType) := [(cA 0, .int), (cA 1, .boolean), (cA 2, .long), (cA 3, .object CL)]
theorem zi_map_noR {h0 b : Nat} {fs : List Value} (h : fs.all zi_noR = true) : fs.map (zi_v h0 b) = fs := by
  induction fs with
  | nil => rfl
  | cons v t ih =>
    simp only [List.all_cons, Bool.and_eq_true] at h
    rw [List.map_cons, ih h.2]
    congr 1
    cases v <;> first | rfl | (simp [zi_noR] at h)
theorem zi_fit_v {h0 b : Nat} {ty : FieldType} {v : Value} (h : zi_fit ty v = true) : narrow ty (zi_v h0 b v) = zi_v h0 b v ∧ fits ty (zi_v h0 b v) = true := by
  unfold zi_fit at h
  split at h
  · exact ⟨rfl, rfl⟩
  · rename_i x
    simp only [Bool.or_eq_true, beq_iff_eq] at h
    rcases h with rfl | rfl
    · exact ⟨show narrow .boolean (.int 0) = .int 0 by decide +kernel, show fits .boolean (.int 0) = true by decide +kernel⟩
    · exact ⟨show narrow .boolean (.int 1) = .int 1 by decide +kernel, show fits .boolean (.int 1) = true by decide +kernel⟩
  · exact ⟨rfl, rfl⟩
  · exact ⟨rfl, rfl⟩
  · cases h
theorem zi_map_set {h0 b : Nat} {fs : List Value} {f : Nat} {v : Value} : (fs.map (zi_v h0 b)).set f (zi_v h0 b v) = (fs.set f v).map (zi_v h0 b) := (List.map_set).symm
theorem zi_up_map {h0 b : Nat} {f : Nat → Option Nat} {i v : Nat} (hv : v ≠ zi_X) : va_up (fun j => (f j).map (zi_ad h0 b)) i (some (h0 + v)) = fun j => (va_up f i (some v) j).map (zi_ad h0 b) := by
  funext j
  unfold va_up
  by_cases h : j = i
  · rw [if_pos h, if_pos h, Option.map_some, zi_ad_at hv]
  · rw [if_neg h, if_neg h]
theorem zi_nar_b {x : Int32} (h : x = 0 ∨ x = 1) : vp_nar .boolean x = x := by
  rcases h with rfl | rfl <;> decide +kernel
section ZC
variable {p : Program} {l : Launch} {e : Env} {R : Room} {s : State} {m : MethodId} {args : Array Value} {below : List Frame} {meth : Method} {c : Code} {H : Heap} {locs : List Loc} {Q : State → Prop} {cc : ByteArray} {h0 b : Nat}
variable {P : zi_P} {cl : List vw_C} {TS NW : List Cond} {CL : String} {D : va_G} {cA : Nat → ClassId} {lw L k pc pc' : Nat} {xs : Nat → Int32} {i : Jvm.ClassFile.Instr} {ls ls' : zi_L} {st st' : List Value} {w w' : zi_W} {cn cn' sn sn' c0 s0 : Nat}
/-- what holds all through a method's run -/
def zi_Cx (P : zi_P) (cl : List vw_C) (TS NW : List Cond) (CL : String) (D : va_G) (cA : Nat → ClassId) (lw L : Nat) (xs : Nat → Int32) (h0 b c0 d rq k : Nat) (p : Program) (R : Room) (s : State) (m : MethodId) (args : Array Value) (meth : Method) (c : Code) : Prop :=
  p.tables.exec = Jvm.exec ∧ c.code = zi_b P k ∧ c.maxLocals = zi_n P k ∧ meth.sig.returnType = zi_r P k ∧ meth.locks = false ∧ s.vm.findClass (zi_y P k).cls = some m.cls ∧ (∀ w ∈ TS, w.before args s = true) ∧ (∀ w ∈ NW, va_Nw w s) ∧ va_K D cl (zi_tys cA CL) s ∧ va_AO CL s ∧
  ((zi_y P k).name = "<init>" → meth.name = "<init>") ∧ h0 ≤ s.heap.size ∧ s.heap.size ≤ h0 + c0 ∧ d ≤ R.frames ∧ rq ≤ R.locals ∧ (k = lw → va_X b L xs s s.heap ∧ b < s.heap.size ∧ b < h0)
/-- the heap holds the world -/
def zi_Hp (cl : List vw_C) (D : va_G) (cA : Nat → ClassId) (h0 b : Nat) (s : State) (w : zi_W) (H : Heap) (locs : List Loc) : Prop :=
  va_P D cl (zi_w cA h0 b w) H ∧ va_D (fun q => h0 ≤ q) (zi_w cA h0 b w) ∧ va_S (fun q => h0 ≤ q) s.heap H locs
theorem zi_bound {cells slots : Nat} {g : JFrame} (k : H.size ≤ s.heap.size + cells → W p l e R s m args below meth c H locs cells slots Q g) : W p l e R s m args below meth c H locs cells slots Q g := by
  intro T hT X
  have h := X.heapSize
  rw [hT] at h
  exact k h T hT X
/-- a new cell's address -/
theorem zi_fresh {A : Nat → Prop} {q : Nat} {x : va_E} {H1 : Heap} {n : Nat} (hA : ∀ z, A z → h0 ≤ z) (hn : n = w.length) (hP : va_P D cl (zi_w cA h0 b w ++ [(q, x)]) H1) (hD : va_D A (zi_w cA h0 b w ++ [(q, x)])) (hz : H1.size ≤ h0 + n + 1) : q = h0 + w.length := by
  have hl : (zi_w cA h0 b w).length = w.length := by unfold zi_w; rw [List.length_mapIdx]
  have hq : (zi_w cA h0 b w ++ [(q, x)])[w.length]? = some (q, x) := by
    rw [← hl, List.getElem?_append_right (Nat.le_refl _), Nat.sub_self]; rfl
  have h1 : q < H1.size := (hP _ _ hq).lt
  have h2 : h0 ≤ q := hA q (hD.2 _ _ hq)
  refine Nat.le_antisymm (by omega) (Nat.not_lt.mp fun h => ?_)
  have h3 : q - h0 < w.length := by omega
  have h4 : (zi_w cA h0 b w ++ [(q, x)])[q - h0]? = some (h0 + (q - h0), zi_e cA h0 b w[q - h0]) := by
    rw [List.getElem?_append_left (by rw [hl]; exact h3)]
    exact zi_w_get (List.getElem?_eq_getElem h3)
  have h5 := hD.1 _ _ _ _ h4 hq (by show h0 + (q - h0) = q; omega)
  omega
theorem zs_getf {cells slots x f a cj : Nat} {fin : Bool} {fs rest : List Value} {v : Value} {LS : Array Slot} {own : String} (hx : p.tables.exec = Jvm.exec) (hb : c.code = cc) (hown : s.vm.findClass own = some m.cls) (hts : ∀ w ∈ TS, w.before args s = true) (hnw : ∀ w ∈ NW, va_Nw w s) (hNW : ∀ w ∈ NW, w.onTables = true) (hK : va_K D cl (zi_tys cA CL) s)
    (hP : va_P D cl (zi_w cA h0 b w) H) (hf : zi_fld P cl TS NW own x cj f fin) (hg : zi_get w a = some (.inr (cj, fs))) (hv : fs[f]? = some v) (hdg : decode cc pc = .ok (.getfield x, 3))
    (kk : W p l e R s m args below meth c H locs cells slots Q (F0 m (pc + 3) LS (zi_v h0 b v :: rest))) : W p l e R s m args below meth c H locs cells slots Q (F0 m pc LS (.ref (zi_ad h0 b a) :: rest)) := by
  obtain ⟨ha, hne⟩ := zi_get_at hg
  obtain ⟨⟨C, T, N⟩, ⟨hc, hws, hty, hnm⟩, hlt, -, hl⟩ := hf
  rw [zi_ad_at hne]
  have he : (zi_w cA h0 b w)[a]? = some (h0 + a, .inr (cj, fs.map (zi_v h0 b))) := zi_w_get ha
  have hv' : (fs.map (zi_v h0 b))[f]? = some (zi_v h0 b v) := by rw [List.getElem?_map, hv]; rfl
  rcases hl with hl | ⟨host, hl⟩
  · exact va_get hx hb hts hws hown hK hP a he hc f hlt (hts _ hl) (fun _ h => h) hv' hdg kk
  · exact va_getN hx hb hts hws hown hK hP a he hc f hlt (va_Nw.use (hNW _ hl) (hnw _ hl)) (fun _ h => h) hv' hdg kk
theorem zs_putf {cells slots x f a cj : Nat} {fs rest : List Value} {v : Value} {LS : Array Slot} {own : String} (hx : p.tables.exec = Jvm.exec) (hb : c.code = cc) (hown : s.vm.findClass own = some m.cls) (hts : ∀ w ∈ TS, w.before args s = true) (hnw : ∀ w ∈ NW, va_Nw w s) (hNW : ∀ w ∈ NW, w.onTables = true) (hK : va_K D cl (zi_tys cA CL) s)
    (hH : zi_Hp cl D cA h0 b s w H locs) (hf : zi_fld P cl TS NW own x cj f false) (hg : zi_get w a = some (.inr (cj, fs))) (hl : f < fs.length) (hfit : zi_fit (zi_fty P cj f) v = true) (hdg : decode cc pc = .ok (.putfield x, 3))
    (kk : ∀ (H' : Heap) (locs' : List Loc), zi_Hp cl D cA h0 b s (w.set a (.inr (cj, fs.set f v))) H' locs' → W p l e R s m args below meth c H' locs' cells slots Q (F0 m (pc + 3) LS rest)) : W p l e R s m args below meth c H locs cells slots Q (F0 m pc LS (zi_v h0 b v :: .ref (zi_ad h0 b a) :: rest)) := by
  obtain ⟨hP, hD, hS⟩ := hH
  obtain ⟨ha, hne⟩ := zi_get_at hg
  obtain ⟨⟨C, T, N⟩, ⟨hc, hws, hty, hnm⟩, hlt, hfin, hlk⟩ := hf
  rw [zi_ad_at hne]
  have he : (zi_w cA h0 b w)[a]? = some (h0 + a, .inr (cj, fs.map (zi_v h0 b))) := zi_w_get ha
  have e9 : (zi_w cA h0 b w).set a (h0 + a, .inr (cj, (fs.map (zi_v h0 b)).set f (zi_v h0 b v))) = zi_w cA h0 b (w.set a (.inr (cj, fs.set f v))) := by
    rw [zi_map_set]; exact zi_w_set (c := .inr (cj, fs.set f v))
  have hl' : f < (fs.map (zi_v h0 b)).length := by rw [List.length_map]; exact hl
  rcases hlk with hlk | ⟨host, hlk⟩
  · exact va_put hx hb hts hws (zi_fty P cj) hty hnm hown hK hP hD hS a he hc f hlt (hts _ hlk) (fun _ h => h) hfin (hty f hlt) (zi_fit_v hfit).1 (zi_fit_v hfit).2 hl' hdg (fun H1 l1 a1 a2 a3 => kk H1 l1 ⟨by rw [← e9]; exact a1, by rw [← e9]; exact a2, a3⟩)
  · exact va_putN hx hb hts hws (zi_fty P cj) hty hnm hown hK hP hD hS a he hc f hlt (va_Nw.use (hNW _ hlk) (hnw _ hlk)) (fun _ h => h) hfin (hty f hlt) (zi_fit_v hfit).1 (zi_fit_v hfit).2 hl' hdg (fun H1 l1 a1 a2 a3 => kk H1 l1 ⟨by rw [← e9]; exact a1, by rw [← e9]; exact a2, a3⟩)
theorem zs_putF {cells slots x f a cj : Nat} {fs rest : List Value} {v : Value} {LS : Array Slot} {own : String} {q : vw_C} (hx : p.tables.exec = Jvm.exec) (hb : c.code = cc) (hown : s.vm.findClass own = some m.cls) (hts : ∀ w ∈ TS, w.before args s = true) (hK : va_K D cl (zi_tys cA CL) s) (hin : meth.name = "<init>")
    (hH : zi_Hp cl D cA h0 b s w H locs) (hf : zi_cls P cl TS cj q ∧ f < q.2.2 ∧ (q.2.1 f).2.2.2 = true ∧ (q.2.1 f).1 = own ∧ Cond.fieldLink own x (q.2.1 f).1 (q.2.1 f).2.1 (q.2.1 f).2.2.1 ∈ TS) (hg : zi_get w a = some (.inr (cj, fs))) (hl : f < fs.length) (hfit : zi_fit (zi_fty P cj f) v = true) (hdg : decode cc pc = .ok (.putfield x, 3))
    (kk : ∀ (H' : Heap) (locs' : List Loc), zi_Hp cl D cA h0 b s (w.set a (.inr (cj, fs.set f v))) H' locs' → W p l e R s m args below meth c H' locs' cells slots Q (F0 m (pc + 3) LS rest)) : W p l e R s m args below meth c H locs cells slots Q (F0 m pc LS (zi_v h0 b v :: .ref (zi_ad h0 b a) :: rest)) := by
  obtain ⟨hP, hD, hS⟩ := hH
  obtain ⟨ha, hne⟩ := zi_get_at hg
  obtain ⟨C, T, N⟩ := q
  obtain ⟨⟨hc, hws, hty, hnm⟩, hlt, hfin, hde, hlk⟩ := hf
  rw [zi_ad_at hne]
  have he : (zi_w cA h0 b w)[a]? = some (h0 + a, .inr (cj, fs.map (zi_v h0 b))) := zi_w_get ha
  have e9 : (zi_w cA h0 b w).set a (h0 + a, .inr (cj, (fs.map (zi_v h0 b)).set f (zi_v h0 b v))) = zi_w cA h0 b (w.set a (.inr (cj, fs.set f v))) := by
    rw [zi_map_set]; exact zi_w_set (c := .inr (cj, fs.set f v))
  have hl' : f < (fs.map (zi_v h0 b)).length := by rw [List.length_map]; exact hl
  exact va_putF hx hb hts hws (zi_fty P cj) hty hnm hown hK hP hD hS a he hc f hlt (hts _ hlk) (fun _ h => h) hfin hin hde (hty f hlt) (zi_fit_v hfit).1 (zi_fit_v hfit).2 hl' hdg (fun H1 l1 a1 a2 a3 => kk H1 l1 ⟨by rw [← e9]; exact a1, by rw [← e9]; exact a2, a3⟩)
/-- the class of an array is the known one of its kind -/
theorem zs_kind {ty : FieldType} {t : Nat} {cB cX : ClassId} (hK : va_K D cl (zi_tys cA CL) s) (hK2 : va_K D cl (zi_tys cA CL ++ [(cB, ty)]) s) (ht : (zi_tys cA CL)[t]? = some (cX, ty)) : cB = cX := by
  have h1 := (hK.2 t _ ht).2
  have h2 := (hK2.2 4 (cB, ty) rfl).2
  unfold va_RA at h1 h2
  cases ty with
  | object C =>
    obtain ⟨-, -, -, -, -, a4⟩ := h1
    obtain ⟨-, -, -, -, -, b4⟩ := h2
    exact Option.some.inj (b4.symm.trans a4)
  | _ => exact Option.some.inj (h2.symm.trans h1)
theorem zs_newa {mm : Int32} {t : Nat} {ty : FieldType} {atype : ArrayType} {rest : List Value} {LS : Array Slot} {a0 : (Nat → Int32) ⊕ (Nat → Int64) ⊕ (Nat → UInt32) ⊕ (Nat → UInt64) ⊕ (Nat → Option Nat)} (hx : p.tables.exec = Jvm.exec) (hb : c.code = cc) (harr : (Cond.arrayClass (newarray.typeOf atype)).before args s = true) (hty : newarray.typeOf atype = ty) (ht : (zi_tys cA CL)[t]? = some (cA t, ty)) (hK : va_K D cl (zi_tys cA CL) s)
    (ha : ∀ (cB : ClassId) (N : Nat), vp_cell cB (N, a0) = arrV cB N (fun _ => defaultValue ty)) (hza : ∀ (h0 N : Nat), zi_a h0 b (N, a0) = (N, a0)) (hH : zi_Hp cl D cA h0 b s w H locs) (hz1 : h0 ≤ s.heap.size) (hz2 : s.heap.size ≤ h0 + c0) (hc : cn = w.length ∧ w.length < zi_X ∧ ¬ mm < 0 ∧ mm.toNatClampNeg ≤ 65536) (hc0 : c0 ≤ cn) (hs0 : s0 ≤ sn) (hR1 : cn + 1 ≤ c0 + R.cells) (hR2 : sn + mm.toNatClampNeg ≤ s0 + R.slots) (hbt : componentBytes ty ≤ 8) (hdg : decode cc pc = .ok (.newarray atype, 2))
    (kk : ∀ (H' : Heap) (locs' : List Loc), zi_Hp cl D cA h0 b s (w ++ [.inl (t, mm.toNatClampNeg, a0)]) H' locs' → W p l e R s m args below meth c H' locs' (cn + 1 - c0) (sn + mm.toNatClampNeg - s0) Q (F0 m (pc + 2) LS (zi_v h0 b (.ref w.length) :: rest))) : W p l e R s m args below meth c H locs (cn - c0) (sn - s0) Q (F0 m pc LS (.int mm :: rest)) := by
  obtain ⟨hP, hD, hS⟩ := hH
  generalize hN : mm.toNatClampNeg = N at hc hR2 kk
  have hmul : N * componentBytes ty ≤ 65536 * 8 := Nat.mul_le_mul hc.2.2.2 hbt
  refine va_newa hx hb harr hty hK hP hD hS (fun q hq => Nat.le_trans hz1 hq) (a0 := (N, a0)) (fun cB => ha cB N) hc.2.2.1 hN (by omega) (by omega) (by omega) hdg (fun q cB H1 b0 b1 b2 b3 => zi_bound fun hsz => ?_)
  have hcB : cB = cA t := zs_kind (t := t) hK b0 ht
  subst hcB
  have hq : q = h0 + w.length := zi_fresh (fun _ hz => hz) hc.1 b1 b2 (by omega)
  subst hq
  have e9 : zi_w cA h0 b (w ++ [.inl (t, N, a0)]) = zi_w cA h0 b w ++ [(h0 + w.length, .inl (cA t, N, a0))] := by
    rw [zi_w_app]; show _ ++ [(_, Sum.inl (cA t, zi_a h0 b (N, a0)))] = _; rw [hza]
  have k2 := kk H1 locs ⟨by rw [e9]; exact b1, by rw [e9]; exact b2, b3⟩
  rw [show cn + 1 - c0 = cn - c0 + 1 by omega, show sn + N - s0 = sn - s0 + N by omega] at k2
  have e3 : zi_v h0 b (.ref w.length) = .ref (h0 + w.length) := by show Value.ref (zi_ad h0 b w.length) = _; rw [zi_ad_at (by omega)]
  rw [e3] at k2
  exact k2
set_option maxHeartbeats 4000000 in
theorem zs_cel {d rq : Nat} (hC : zi_Cx P cl TS NW CL D cA lw L xs h0 b c0 d rq k p R s m args meth c) (hpool : ∀ x t, zi_pool P k x = some t → zi_tok P cl TS NW CL k x t) (hCL : ∃ q : vw_C, cl[2]? = some q ∧ q.1 = CL) (harr : Cond.arrayClass .int ∈ TS ∧ Cond.arrayClass .boolean ∈ TS ∧ Cond.arrayClass .long ∈ TS)
    (hNW : ∀ w ∈ NW, w.onTables = true) (hH : zi_Hp cl D cA h0 b s w H locs) (hc0 : c0 ≤ cn) (hs0 : s0 ≤ sn) (hdg : decode (zi_b P k) pc = .ok (i, zi_len i))
    (h : zi_cel P lw L xs k pc (zi_len i) i ls st w cn sn = some (pc', ls', st', w', cn', sn')) : ls' = ls ∧ cn ≤ cn' ∧ sn ≤ sn' ∧ (cn' ≤ c0 + R.cells → sn' ≤ s0 + R.slots → ∀ LS : Array Slot,
      (∀ (H' : Heap) (locs' : List Loc), zi_Hp cl D cA h0 b s w' H' locs' → W p l e R s m args below meth c H' locs' (cn' - c0) (sn' - s0) Q (F0 m pc' LS (st'.map (zi_v h0 b)))) → W p l e R s m args below meth c H locs (cn - c0) (sn - s0) Q (F0 m pc LS (st.map (zi_v h0 b)))) := by
  obtain ⟨hx, hb, hml, hr, hlk, hown, hts, hnw, hK, hAO, hin, hz1, hz2, hRf, hRl, hX⟩ := hC
  obtain ⟨hP, hD, hS⟩ := hH
  unfold zi_cel at h
  split at h
  · -- ldc
    split at h
    · rename_i v hp
      cases h
      exact ⟨rfl, Nat.le_refl _, Nat.le_refl _, fun _ _ LS kk => lv_ldc hx hb hown (hts _ ((hpool _ _ hp).2.2.2.2.2.1 rfl |>.1 _ rfl)) hdg (kk H locs ⟨hP, hD, hS⟩)⟩
    · cases h
  · -- ldc2_w
    split at h
    · rename_i v hp
      cases h
      exact ⟨rfl, Nat.le_refl _, Nat.le_refl _, fun _ _ LS kk => lv_ldc2 hx hb hown (hts _ ((hpool _ _ hp).2.2.2.2.2.1 rfl |>.2 _ rfl)) hdg (kk H locs ⟨hP, hD, hS⟩)⟩
    · cases h
  · -- getfield
    split at h
    · rename_i cj f _ c' fs hp hg
      split at h
      · rename_i hcc
        subst hcc
        obtain ⟨v, hv, rfl, rfl, rfl, rfl, rfl, rfl⟩ := zs_push1 h
        exact ⟨rfl, Nat.le_refl _, Nat.le_refl _, fun _ _ LS kk => zs_getf hx hb hown hts hnw hNW hK hP ((hpool _ _ hp).1 rfl) hg hv hdg (kk H locs ⟨hP, hD, hS⟩)⟩
      · cases h
    · rename_i cj f _ c' fs hp hg
      split at h
      · rename_i hcc
        subst hcc
        obtain ⟨v, hv, rfl, rfl, rfl, rfl, rfl, rfl⟩ := zs_push1 h
        obtain ⟨-, q, a1, a2, a3, a4, a5⟩ := (hpool _ _ hp).2.2.1 rfl
        exact ⟨rfl, Nat.le_refl _, Nat.le_refl _, fun _ _ LS kk => zs_getf hx hb hown hts hnw hNW hK hP ⟨q, a1, a2, a3, Or.inl a5⟩ hg hv hdg (kk H locs ⟨hP, hD, hS⟩)⟩
      · cases h
    · rename_i cj f _ c' fs hp hg
      split at h
      · rename_i hcc
        subst hcc
        obtain ⟨v, hv, rfl, rfl, rfl, rfl, rfl, rfl⟩ := zs_push1 h
        exact ⟨rfl, Nat.le_refl _, Nat.le_refl _, fun _ _ LS kk => zs_getf hx hb hown hts hnw hNW hK hP ((hpool _ _ hp).2.1 rfl) hg hv hdg (kk H locs ⟨hP, hD, hS⟩)⟩
      · cases h
    · cases h
  · -- putfield
    split at h
    · rename_i cj f _ c' fs hp hg
      split at h
      · rename_i hcc
        obtain ⟨hcc, hl, hfit⟩ := hcc
        subst hcc
        cases h
        exact ⟨rfl, Nat.le_refl _, Nat.le_refl _, fun _ _ LS kk => zs_putf hx hb hown hts hnw hNW hK ⟨hP, hD, hS⟩ ((hpool _ _ hp).1 rfl) hg hl hfit hdg kk⟩
      · cases h
    · rename_i cj f _ c' fs hp hg
      split at h
      · rename_i hcc
        obtain ⟨hcc, hl, hfit⟩ := hcc
        subst hcc
        cases h
        obtain ⟨hn, q, hq⟩ := (hpool _ _ hp).2.2.1 rfl
        exact ⟨rfl, Nat.le_refl _, Nat.le_refl _, fun _ _ LS kk => zs_putF hx hb hown hts hK (hin hn) ⟨hP, hD, hS⟩ hq hg hl hfit hdg kk⟩
      · cases h
    · cases h
  · -- iaload
    split at h
    · rename_i hax
      subst hax
      split at h
      · rename_i hc
        cases h
        obtain ⟨x1, x2, x3⟩ := hX hc.1
        exact ⟨rfl, Nat.le_refl _, Nat.le_refl _, fun _ _ LS kk => va_sld hx hb x1 x2 (Nat.not_le.mpr x3) hS hc.2 hdg (kk H locs ⟨hP, hD, hS⟩)⟩
      · cases h
    · split at h
      · rename_i m1 f hg
        obtain ⟨ha, hne⟩ := zi_get_at hg
        split at h
        · rename_i hin2
          cases h
          refine ⟨rfl, Nat.le_refl _, Nat.le_refl _, fun _ _ LS kk => ?_⟩
          rw [List.map_cons, List.map_cons]
          show W p l e R s m args below meth c H locs _ _ Q (F0 m pc LS (.int _ :: .ref (zi_ad h0 b _) :: _))
          rw [zi_ad_at hne]
          exact va_iald hx hb hK hP _ 0 (zi_w_get ha) rfl hin2 hdg (kk H locs ⟨hP, hD, hS⟩)
        · cases h
      · cases h
  · -- baload
    split at h
    · rename_i m1 f hg
      obtain ⟨ha, hne⟩ := zi_get_at hg
      split at h
      · rename_i hin2
        cases h
        refine ⟨rfl, Nat.le_refl _, Nat.le_refl _, fun _ _ LS kk => ?_⟩
        show W p l e R s m args below meth c H locs _ _ Q (F0 m pc LS (.int _ :: .ref (zi_ad h0 b _) :: _))
        rw [zi_ad_at hne]
        exact va_zald hx hb hK hP _ 1 (zi_w_get ha) rfl hin2 hdg (kk H locs ⟨hP, hD, hS⟩)
      · cases h
    · cases h
  · -- laload
    split at h
    · rename_i m1 f hg
      obtain ⟨ha, hne⟩ := zi_get_at hg
      split at h
      · rename_i hin2
        cases h
        refine ⟨rfl, Nat.le_refl _, Nat.le_refl _, fun _ _ LS kk => ?_⟩
        show W p l e R s m args below meth c H locs _ _ Q (F0 m pc LS (.int _ :: .ref (zi_ad h0 b _) :: _))
        rw [zi_ad_at hne]
        exact va_lald hx hb hK hP _ 2 (zi_w_get ha) rfl hin2 hdg (kk H locs ⟨hP, hD, hS⟩)
      · cases h
    · cases h
  · -- aaload
    split at h
    · rename_i m1 f hg
      obtain ⟨ha, hne⟩ := zi_get_at hg
      split at h
      · rename_i hin2
        obtain ⟨v, hv, rfl, rfl, rfl, rfl, rfl, rfl⟩ := zs_push1 h
        refine ⟨rfl, Nat.le_refl _, Nat.le_refl _, fun _ _ LS kk => ?_⟩
        show W p l e R s m args below meth c H locs _ _ Q (F0 m pc LS (.int _ :: .ref (zi_ad h0 b _) :: _))
        rw [zi_ad_at hne]
        refine va_aldq hx hb hK hP _ 3 (zi_w_get ha) rfl hin2 hdg ?_
        rw [Option.map_eq_some_iff] at hv
        obtain ⟨z, hz, rfl⟩ := hv
        have e1 : ∀ y, f y = some z → va_rf ((f y).map (zi_ad h0 b)) = zi_v h0 b (.ref z) := fun y hy => by rw [hy]; rfl
        have k2 := kk H locs ⟨hP, hD, hS⟩
        rw [List.map_cons, ← e1 _ hz] at k2
        exact k2
      · cases h
    · cases h
  · -- iastore
    split at h
    · rename_i m1 f hg
      obtain ⟨ha, hne⟩ := zi_get_at hg
      split at h
      · rename_i hin2
        cases h
        refine ⟨rfl, Nat.le_refl _, Nat.le_refl _, fun _ _ LS kk => ?_⟩
        show W p l e R s m args below meth c H locs _ _ Q (F0 m pc LS (.int _ :: .int _ :: .ref (zi_ad h0 b _) :: _))
        rw [zi_ad_at hne]
        exact va_iast hx hb hK hP hD hS _ 0 (zi_w_get ha) rfl hin2 hdg (fun H1 l1 a1 a2 a3 => kk H1 l1 ⟨by rw [← zi_w_set]; exact a1, by rw [← zi_w_set]; exact a2, a3⟩)
      · cases h
    · cases h
  · -- bastore
    split at h
    · rename_i m1 f hg
      obtain ⟨ha, hne⟩ := zi_get_at hg
      split at h
      · rename_i hin2
        cases h
        refine ⟨rfl, Nat.le_refl _, Nat.le_refl _, fun _ _ LS kk => ?_⟩
        show W p l e R s m args below meth c H locs _ _ Q (F0 m pc LS (.int _ :: .int _ :: .ref (zi_ad h0 b _) :: _))
        rw [zi_ad_at hne]
        refine va_zast hx hb hK hP hD hS _ 1 (zi_w_get ha) rfl hin2.1 hdg ?_
        rw [zi_nar_b hin2.2]
        exact (fun H1 l1 a1 a2 a3 => kk H1 l1 ⟨by rw [← zi_w_set]; exact a1, by rw [← zi_w_set]; exact a2, a3⟩)
      · cases h
    · cases h
  · -- lastore
    split at h
    · rename_i m1 f hg
      obtain ⟨ha, hne⟩ := zi_get_at hg
      split at h
      · rename_i hin2
        cases h
        refine ⟨rfl, Nat.le_refl _, Nat.le_refl _, fun _ _ LS kk => ?_⟩
        show W p l e R s m args below meth c H locs _ _ Q (F0 m pc LS (.long _ :: .int _ :: .ref (zi_ad h0 b _) :: _))
        rw [zi_ad_at hne]
        exact va_last hx hb hK hP hD hS _ 2 (zi_w_get ha) rfl hin2 hdg (fun H1 l1 a1 a2 a3 => kk H1 l1 ⟨by rw [← zi_w_set]; exact a1, by rw [← zi_w_set]; exact a2, a3⟩)
      · cases h
    · cases h
  · -- aastore
    split at h
    · rename_i m1 f ci vs hg hgv
      obtain ⟨ha, hne⟩ := zi_get_at hg
      obtain ⟨hav, hnev⟩ := zi_get_at hgv
      split at h
      · rename_i hin2
        obtain ⟨hin2, rfl⟩ := hin2
        cases h
        refine ⟨rfl, Nat.le_refl _, Nat.le_refl _, fun _ _ LS kk => ?_⟩
        show W p l e R s m args below meth c H locs _ _ Q (F0 m pc LS (.ref (zi_ad h0 b _) :: .int _ :: .ref (zi_ad h0 b _) :: _))
        rw [zi_ad_at hne, zi_ad_at hnev]
        obtain ⟨q, hq, rfl⟩ := hCL
        refine va_astq hx hb hK hP hD hS _ 3 _ 2 (zi_w_get ha) rfl (zi_w_get hav) hq hin2 hdg ?_
        rw [zi_up_map hnev]
        exact (fun H1 l1 a1 a2 a3 => kk H1 l1 ⟨by rw [← zi_w_set]; exact a1, by rw [← zi_w_set]; exact a2, a3⟩)
      · cases h
    · cases h
  · -- arraylength
    split at h
    · rename_i hax
      subst hax
      split at h
      · rename_i hc
        cases h
        obtain ⟨x1, x2, x3⟩ := hX hc
        exact ⟨rfl, Nat.le_refl _, Nat.le_refl _, fun _ _ LS kk => va_slen hx hb x1 x2 (Nat.not_le.mpr x3) hS hdg (kk H locs ⟨hP, hD, hS⟩)⟩
      · cases h
    · split at h
      · rename_i m1 f hg
        obtain ⟨ha, hne⟩ := zi_get_at hg
        cases h
        refine ⟨rfl, Nat.le_refl _, Nat.le_refl _, fun _ _ LS kk => ?_⟩
        show W p l e R s m args below meth c H locs _ _ Q (F0 m pc LS (.ref (zi_ad h0 b _) :: _))
        rw [zi_ad_at hne]
        exact va_alen hx hb hK hP _ 0 (zi_w_get ha) rfl rfl hdg (kk H locs ⟨hP, hD, hS⟩)
      · cases h
  · -- new
    split at h
    · rename_i cj z _ hp
      split at h
      · rename_i hc
        cases h
        obtain ⟨⟨C, T, N⟩, ⟨hcl, hws, hty, hnm⟩, hz, g1, g2, g3, g4, g5⟩ := (hpool _ _ hp).2.2.2.1 rfl
        change z = N at hz
        subst hz
        refine ⟨rfl, Nat.le_succ _, Nat.le_add_right _ _, fun hR1 hR2 LS kk => ?_⟩
        refine va_new hx hb hts hws (zi_fty P cj) hty hown (hts _ g1) (hts _ g2) (hts _ g3) hK hP hD hS (fun q hq => Nat.le_trans hz1 hq) hcl (C := C) (T := T) (N := z) (fs := zi_fs0 P cj) g4 (by omega) (by omega) hdg (fun q H1 a1 a2 a3 => zi_bound fun hsz => ?_)
        have hq : q = h0 + w.length := zi_fresh (fun _ hz => hz) hc.1 a1 a2 (by omega)
        subst hq
        have e9 : zi_w cA h0 b (w ++ [.inr (cj, zi_fs0 P cj)]) = zi_w cA h0 b w ++ [(h0 + w.length, .inr (cj, zi_fs0 P cj))] := by
          rw [zi_w_app]; show _ ++ [(_, Sum.inr (cj, (zi_fs0 P cj).map (zi_v h0 b)))] = _; rw [zi_map_noR g5]
        have k2 := kk H1 locs ⟨by rw [e9]; exact a1, by rw [e9]; exact a2, a3⟩
        have e1 : cn + 1 - c0 = cn - c0 + 1 := by omega
        have e2 : sn + z - s0 = sn - s0 + z := by omega
        rw [e1, e2] at k2
        have e3 : zi_v h0 b (.ref w.length) = .ref (h0 + w.length) := by show Value.ref (zi_ad h0 b w.length) = _; rw [zi_ad_at (by omega)]
        rw [List.map_cons, e3] at k2
        exact k2
      · cases h
    · cases h
  · -- newarray int
    split at h
    · rename_i hc
      cases h
      exact ⟨rfl, Nat.le_succ _, Nat.le_add_right _ _, fun hR1 hR2 LS kk => zs_newa (atype := .int) (t := 0) (a0 := .inl (fun _ => 0)) hx hb (hts _ harr.1) rfl rfl hK (fun _ _ => rfl) (fun _ _ => rfl) ⟨hP, hD, hS⟩ hz1 hz2 hc hc0 hs0 hR1 hR2 (by decide) hdg kk⟩
    · cases h
  · -- newarray boolean
    split at h
    · rename_i hc
      cases h
      exact ⟨rfl, Nat.le_succ _, Nat.le_add_right _ _, fun hR1 hR2 LS kk => zs_newa (atype := .boolean) (t := 1) (a0 := .inl (fun _ => 0)) hx hb (hts _ harr.2.1) rfl rfl hK (fun _ _ => rfl) (fun _ _ => rfl) ⟨hP, hD, hS⟩ hz1 hz2 hc hc0 hs0 hR1 hR2 (by decide) hdg kk⟩
    · cases h
  · -- newarray long
    split at h
    · rename_i hc
      cases h
      exact ⟨rfl, Nat.le_succ _, Nat.le_add_right _ _, fun hR1 hR2 LS kk => zs_newa (atype := .long) (t := 2) (a0 := .inr (.inl (fun _ => 0))) hx hb (hts _ harr.2.2) rfl rfl hK (fun _ _ => rfl) (fun _ _ => rfl) ⟨hP, hD, hS⟩ hz1 hz2 hc hc0 hs0 hR1 hR2 (by decide) hdg kk⟩
    · cases h
  · -- anewarray
    split at h
    · rename_i _ _ hp
      split at h
      · rename_i hc
        cases h
        refine ⟨rfl, Nat.le_succ _, Nat.le_add_right _ _, fun hR1 hR2 LS kk => ?_⟩
        refine va_newq hx hb hown (hts _ ((hpool _ _ hp).2.2.2.2.1 rfl)) hAO hK hP hD hS (fun q hq => Nat.le_trans hz1 hq) hc.2.2.1 (Eq.refl (Int32.toNatClampNeg _)) (by omega) (by omega) (by omega) hdg (fun q cB H1 a0 a1 a2 a3 => zi_bound fun hsz => ?_)
        have hcB : cB = cA 3 := zs_kind (t := 3) hK a0 rfl
        subst hcB
        have hq : q = h0 + w.length := zi_fresh (fun _ hz => hz) hc.1 a1 a2 (by omega)
        subst hq
        have k2 := kk H1 locs ⟨by rw [zi_w_app]; exact a1, by rw [zi_w_app]; exact a2, a3⟩
        rw [show cn + 1 - c0 = cn - c0 + 1 by omega, show ∀ z, sn + z - s0 = sn - s0 + z from fun z => by omega] at k2
        have e3 : zi_v h0 b (.ref w.length) = .ref (h0 + w.length) := by show Value.ref (zi_ad h0 b w.length) = _; rw [zi_ad_at (by omega)]
        rw [List.map_cons, e3] at k2
        exact k2
      · cases h
    · cases h
  · cases h
set_option maxHeartbeats 4000000 in
theorem zs_pri {d rq : Nat} (hC : zi_Cx P cl TS NW CL D cA lw L xs h0 b c0 d rq k p R s m args meth c) (hpool : ∀ x t, zi_pool P k x = some t → zi_tok P cl TS NW CL k x t) (hH : zi_Hp cl D cA h0 b s w H locs) (hdg : decode (zi_b P k) pc = .ok (i, zi_len i))
    (h : zi_pri P d rq k pc (zi_len i) i ls st w cn sn = some (pc', ls', st', w', cn', sn')) : ls' = ls ∧ cn' = cn ∧ sn' = sn ∧ (cn ≤ c0 + R.cells → sn ≤ s0 + R.slots → ∀ LS : Array Slot, zi_ls h0 b LS ls → ls.length = zi_n P k →
      (∀ (H' : Heap) (locs' : List Loc), zi_Hp cl D cA h0 b s w' H' locs' → W p l e R s m args below meth c H' locs' (cn - c0) (sn - s0) Q (F0 m pc' LS (st'.map (zi_v h0 b)))) → W p l e R s m args below meth c H locs (cn - c0) (sn - s0) Q (F0 m pc LS (st.map (zi_v h0 b)))) := by
  obtain ⟨hx, hb, hml, hr, hlk, hown, hts, hnw, hK, hAO, hin, hz1, hz2, hRf, hRl, hX⟩ := hC
  obtain ⟨hP, hD, hS⟩ := hH
  have hcat : ∀ r : List Value, ((r.map (zi_v h0 b)).map fun v => v.category) = r.map fun v => v.category := fun r => by
    rw [List.map_map]
    exact List.map_congr_left fun v _ => zi_v_cat h0 b v
  unfold zi_pri at h
  split at h
  · split at h
    · rename_i hp
      split at h
      · rename_i hc
        cases h
        obtain ⟨g1, g2, g3⟩ := (hpool _ _ hp).2.2.2.2.2.2.1 rfl rfl
        refine ⟨rfl, rfl, rfl, fun _ _ LS hl hn kk => ?_⟩
        exact W.objInit hx hb hown (hts _ g1) (hts _ g2) (hts _ g3) rfl (by rw [hml, ← hn]; exact hl.1) rfl hdg (by omega) (by show 2 * 0 + _ + 12 ≤ _; rw [hcat]; omega) (kk H locs ⟨hP, hD, hS⟩)
      · cases h
    · cases h
  · split at h
    · rename_i hp
      split at h
      · rename_i hc
        cases h
        obtain ⟨g1, g2, g3, g4⟩ := (hpool _ _ hp).2.2.2.2.2.2.2.1 rfl rfl
        refine ⟨rfl, rfl, rfl, fun q1 q2 LS hl hn kk => ?_⟩
        exact va_mmin hx hb (by rw [hml, ← hn]; exact hl.1.symm) hown (hts _ g1) (hts _ g2) (hts _ g3) (hts _ g4) (by omega) (by rw [hcat]; omega) (by omega) (by omega) hdg (kk H locs ⟨hP, hD, hS⟩)
      · cases h
    · rename_i hp
      split at h
      · rename_i hh
        split at h
        · rename_i n0 f n1 g hg0 hg1
          split at h
          · rename_i hc
            cases h
            cases hh
            obtain ⟨g1, g2, g3, g4⟩ := (hpool _ _ hp).2.2.2.2.2.2.2.2 rfl rfl
            obtain ⟨ha0, hne0⟩ := zi_get_at hg0
            obtain ⟨ha1, hne1⟩ := zi_get_at hg1
            refine ⟨rfl, rfl, rfl, fun q1 q2 LS hl hn kk => ?_⟩
            show W p l e R s m args below meth c H locs _ _ Q (F0 m pc LS (.int _ :: .int _ :: .ref (zi_ad h0 b _) :: .int _ :: .ref (zi_ad h0 b _) :: _))
            rw [zi_ad_at hne0, zi_ad_at hne1]
            exact va_copyi hx hb (by rw [hml, ← hn]; exact hl.1.symm) hown (hts _ g1) (hts _ g2) (hts _ g3) (hts _ g4) hK hP hD hS _ _ 0 0 (zi_w_get ha0) (zi_w_get ha1) rfl rfl rfl hc.2.1 hc.2.2.1 hc.2.2.2.1 hc.2.2.2.2.1 hc.2.2.2.2.2.1 (fun _ _ => rfl) (by omega) (by rw [hcat, show nativeFrameWords "java/lang/System" "arraycopy" 5 = 7 by decide +kernel]; omega) hdg
              (fun H1 l1 a1 a2 a3 => kk H1 l1 ⟨by rw [← zi_w_set]; exact a1, by rw [← zi_w_set]; exact a2, a3⟩)
          · cases h
        · cases h
      · cases h
    · cases h
  · cases h
end ZC
end
section
/-! What the interpreter answers, the machine does: calls, and a whole run. -/
theorem zi_run_mono {P : zi_P} {lw L : Nat} {xs : Nat → Int32} : ∀ (n d q k pc : Nat) (ls : zi_L) (st : List Value) (w : zi_W) (cn sn : Nat) (o : zi_O) (w' : zi_W) (cn' sn' : Nat), zi_run P lw L xs n d q k pc ls st w cn sn = some (o, w', cn', sn') → cn ≤ cn' ∧ sn ≤ sn' := by
  intro n
  induction n with
  | zero => intro d q k pc ls st w cn sn o w' cn' sn' h; cases h
  | succ n ih =>
    intro d q k pc ls st w cn sn o w' cn' sn' h
    unfold zi_run at h
    split at h
    · split at h
      · cases h; exact ⟨Nat.le_succ _, Nat.le_add_right _ _⟩
      · cases h
    · split at h
      · cases h
      · split at h
        · cases h; exact ⟨Nat.le_refl _, Nat.le_refl _⟩
        · split at h
          · split at h
            · rename_i hc
              have h2 := ih _ _ _ _ _ _ _ _ _ _ _ _ _ h
              exact ⟨Nat.le_trans hc.1 h2.1, Nat.le_trans hc.2.1 h2.2⟩
            · cases h
          · split at h
            · split at h
              · cases h
              · split at h
                rotate_left
                · cases h
                split at h
                · rename_i hr
                  have h1 := ih _ _ _ _ _ _ _ _ _ _ _ _ _ hr
                  have h2 := ih _ _ _ _ _ _ _ _ _ _ _ _ _ h
                  exact ⟨Nat.le_trans h1.1 h2.1, Nat.le_trans h1.2 h2.2⟩
                · rename_i hr
                  have h1 := ih _ _ _ _ _ _ _ _ _ _ _ _ _ hr
                  split at h
                  · cases h; exact h1
                  · cases h
                · cases h
            · cases h
theorem zi_pop_spec : ∀ (n : Nat) (acc st as r : List Value), zi_pop n acc st = some (as, r) → ∃ ys : List Value, ys.length = n ∧ as = ys.reverse ++ acc ∧ st = ys ++ r
  | 0, acc, st, as, r, h => by
    unfold zi_pop at h
    cases h
    exact ⟨[], rfl, rfl, rfl⟩
  | n + 1, acc, [], as, r, h => by
    unfold zi_pop at h
    cases h
  | n + 1, acc, v :: st, as, r, h => by
    unfold zi_pop at h
    obtain ⟨ys, h1, h2, h3⟩ := zi_pop_spec n (v :: acc) st as r h
    exact ⟨v :: ys, by rw [List.length_cons, h1], by rw [h2]; simp, by rw [h3]; rfl⟩
theorem zi_pop_at {n : Nat} {st as r : List Value} (h : zi_pop n [] st = some (as, r)) : as.length = n ∧ st = as.reverse ++ r := by
  obtain ⟨ys, h1, h2, h3⟩ := zi_pop_spec n [] st as r h
  rw [List.append_nil] at h2
  subst h2
  exact ⟨by rw [List.length_reverse, h1], by rw [List.reverse_reverse]; exact h3⟩
theorem zi_args_mem {h0 b : Nat} : ∀ (as : List Value) (k : Nat), as.all (fun v => v.category == 1) = true → ∀ (i : Nat) (v : Value), as[i]? = some v → (k + i, zi_v h0 b v) ∈ lv_args k (as.map (zi_v h0 b))
  | [], k, _, i, v, h => by simp at h
  | a :: as, k, hc, i, v, h => by
    simp only [List.all_cons, Bool.and_eq_true, beq_iff_eq] at hc
    show (k + i, zi_v h0 b v) ∈ (k, zi_v h0 b a) :: lv_args (if (zi_v h0 b a).category = 2 then k + 2 else k + 1) (as.map (zi_v h0 b))
    rw [if_neg (by rw [zi_v_cat, hc.1]; decide)]
    cases i with
    | zero =>
      cases h
      exact List.mem_cons_self
    | succ i =>
      have h2 := zi_args_mem (h0 := h0) (b := b) as (k + 1) hc.2 i v h
      rw [show k + (i + 1) = k + 1 + i by omega]
      exact List.mem_cons_of_mem _ h2
theorem zi_sl_len {h0 b : Nat} : ∀ (as : List Value), as.all (fun v => v.category == 1) = true → (lg_sl (as.map (zi_v h0 b))).length = as.length
  | [], _ => rfl
  | a :: as, hc => by
    simp only [List.all_cons, Bool.and_eq_true, beq_iff_eq] at hc
    show (List.flatMap (fun v => if v.category = 2 then [Slot.val v, .second] else [.val v]) (zi_v h0 b a :: as.map (zi_v h0 b))).length = _
    rw [List.flatMap_cons, if_neg (by rw [zi_v_cat, hc.1]; decide), List.length_append, List.length_cons, List.length_cons]
    have h := zi_sl_len (h0 := h0) (b := b) as hc.2
    unfold lg_sl at h
    rw [h]
    simp; omega
theorem zi_ent_ls {h0 b n : Nat} {as : List Value} {ls : zi_L} (h : zi_ent as n = some ls) : ls.length = n ∧ zi_ls h0 b ((lg_sl (as.map (zi_v h0 b)) ++ List.replicate (n - (lg_sl (as.map (zi_v h0 b))).length) Slot.unset).toArray) ls := by
  unfold zi_ent at h
  split at h
  · rename_i hc
    cases h
    have hlen : (as.map some ++ List.replicate (n - as.length) (none : Option Value)).length = n := by
      rw [List.length_append, List.length_map, List.length_replicate]; omega
    have hE := lv_entry (as.map (zi_v h0 b)) (n := n) (by rw [zi_sl_len as hc.2]; exact hc.1)
    refine ⟨hlen, by rw [hlen]; exact hE.1, hE.2.1, fun i v hi => ?_⟩
    have h1 : as[i]? = some v := by
      unfold zi_loc at hi
      by_cases hl : i < as.length
      · rw [List.getElem?_append_left (by rw [List.length_map]; exact hl), List.getElem?_map] at hi
        cases ha : as[i]? with
        | none => rw [ha] at hi; cases hi
        | some u => rw [ha] at hi; exact hi
      · rw [List.getElem?_append_right (by rw [List.length_map]; omega)] at hi
        split at hi
        · rename_i h3
          rw [List.getElem?_replicate] at h3
          split at h3 <;> cases h3
        · cases hi
    have h2 := hE.2.2 (0 + i, zi_v h0 b v) (zi_args_mem as 0 hc.2 i v h1)
    rw [Nat.zero_add] at h2
    exact h2
  · cases h
/-- the facts that are asked of a call -/
def zi_cok (P : zi_P) (cl : List vw_C) (TS NW : List Cond) (lw k x : Nat) (t : zi_T) : Prop :=
  (t.1 = 1 ∨ t.1 = 2 ∨ t.1 = 3 → plainFor (zi_y P t.2.1) = true ∧ Cond.initialized (zi_y P t.2.1).cls ∈ TS ∧ ((zi_y P t.2.1).cls ≠ "java/lang/invoke/MethodHandle" ∧ (zi_y P t.2.1).cls ≠ "java/lang/invoke/VarHandle" ∧ (parseMethodDescriptor (zi_y P t.2.1).desc).map (fun d => d.parameters.length) = some t.2.2.1) ∧ t.2.1 ≠ lw ∧ (Cond.methodLink (zi_y P k).cls x (zi_y P t.2.1) ∈ TS ∨ ∃ host : String, Cond.methodLinkNest (zi_y P k).cls x (zi_y P t.2.1) host ∈ NW)) ∧
  (t.1 = 1 → Cond.code (zi_y P t.2.1) (zi_b P t.2.1) (zi_n P t.2.1) (zi_r P t.2.1) ∈ TS ∧ Cond.instanceMethod (zi_y P t.2.1) ∈ TS ∧ Cond.selects (zi_y P t.2.1).cls (zi_y P t.2.1) (zi_y P t.2.1) ∈ TS ∧ ∀ ci, t.2.2.2 = .ref ci → ∃ q : vw_C, cl[ci]? = some q ∧ q.1 = (zi_y P t.2.1).cls) ∧
  (t.1 = 2 → Cond.code (zi_y P t.2.1) (zi_b P t.2.1) (zi_n P t.2.1) (zi_r P t.2.1) ∈ TS ∧ Cond.instanceMethod (zi_y P t.2.1) ∈ TS ∧ (zi_y P t.2.1).name = "<init>" ∧ zi_r P t.2.1 = none) ∧
  (t.1 = 3 → Cond.static (zi_y P t.2.1) ∈ TS ∧ (Cond.code (zi_y P t.2.1) (zi_b P t.2.1) (zi_n P t.2.1) (zi_r P t.2.1) ∈ TS ∨ (Jvm.plainName (zi_y P t.2.1).cls = true ∧ Cond.methodLink (zi_y P k).cls x (zi_y P t.2.1) ∈ TS ∧ ∃ hh : List (Nat × Nat × Nat × Nat), Cond.codeWith (zi_y P t.2.1) (zi_b P t.2.1) (zi_n P t.2.1) (zi_r P t.2.1) hh ∈ TS)))
/-- what is asked of the end of a run -/
def zi_End (P : zi_P) (cl : List vw_C) (D : va_G) (cA : Nat → ClassId) (h0 b k : Nat) (p : Program) (l : Launch) (e : Env) (R : Room) (s : State) (m : MethodId) (args : Array Value) (below : List Frame) (meth : Method) (c : Code) (Q : State → Prop) (cells slots : Nat) (o : zi_O) (w' : zi_W) : Prop :=
  (o = .inl none → zi_r P k = none → ∀ (H' : Heap) (locs' : List Loc) (LS' : Array Slot) (pc' : Nat), zi_Hp cl D cA h0 b s w' H' locs' → decode (zi_b P k) pc' = .ok (.return_, 1) → W p l e R s m args below meth c H' locs' cells slots Q (F0 m pc' LS' [])) ∧
  (∀ (x : Int32) (ty : FieldType), o = .inl (some (.int x)) → zi_r P k = some ty → narrow ty (.int x) = .int x → ∀ (H' : Heap) (locs' : List Loc) (LS' : Array Slot) (pc' : Nat), zi_Hp cl D cA h0 b s w' H' locs' → decode (zi_b P k) pc' = .ok (.ireturn, 1) → W p l e R s m args below meth c H' locs' cells slots Q (F0 m pc' LS' [.int x]))
/-- a method has thrown -/
def zi_Thrn (exc : Nat → String) (cl : List vw_C) (D : va_G) (cA : Nat → ClassId) (h0 b : Nat) (s : State) (below : List Frame) (w' : zi_W) (mc ms ex : Nat) (t : State) : Prop :=
  ∃ a : Addr, t.status = .running ∧ Ended t below (.threw a) ∧ s.WarmedH t.vm ∧ (∃ L : List Loc, s.sameButNew ({ t with vm := s.vm } : State) L mc ms ∧ ∀ q ∈ L, h0 ≤ q.base) ∧ va_P D cl (zi_w cA h0 b w') t.heap ∧ va_D (fun q => h0 ≤ q) (zi_w cA h0 b w') ∧ va_F (fun q => h0 ≤ q) s t ∧
    ∃ ce : Cell, t.heap[a]? = some ce ∧ ce.vm.isStatics = false ∧ s.vm.findClass (exc ex) = some ce.cls
def zi_Snd (exc : Nat → String) (P : zi_P) (cl : List vw_C) (TS NW : List Cond) (CL : String) (lw n : Nat) : Prop :=
  ∀ (L : Nat) (xs : Nat → Int32) (d rq k pc : Nat) (ls : zi_L) (st : List Value) (w : zi_W) (cn sn : Nat) (o : zi_O) (w' : zi_W) (cn' sn' : Nat), zi_run P lw L xs n d rq k pc ls st w cn sn = some (o, w', cn', sn') → ls.length = zi_n P k →
  ∀ (l : Launch) (p : Program) (e : Env) (R : Room) (s : State) (m : MethodId) (args : Array Value) (below : List Frame) (meth : Method) (c : Code) (H : Heap) (locs : List Loc) (Q : State → Prop) (LS : Array Slot) (D : va_G) (cA : Nat → ClassId) (h0 b c0 s0 : Nat),
    zi_Cx P cl TS NW CL D cA lw L xs h0 b c0 d rq k p R s m args meth c → zi_ls h0 b LS ls → zi_Hp cl D cA h0 b s w H locs → c0 ≤ cn → s0 ≤ sn → cn' ≤ c0 + R.cells → sn' ≤ s0 + R.slots →
    zi_End P cl D cA h0 b k p l e R s m args below meth c Q (cn' - c0) (sn' - s0) o w' → (∀ ex, o = .inr ex → ∀ t, zi_Thrn exc cl D cA h0 b s below w' (cn' - c0) (sn' - s0) ex t → Q t) →
    W p l e R s m args below meth c H locs (cn - c0) (sn - s0) Q (F0 m pc LS (st.map (zi_v h0 b)))
/-- a contract's start and end -/
def zi_Pc (cl : List vw_C) (NW : List Cond) (CL : String) (D : va_G) (cA : Nat → ClassId) (h0 b cn : Nat) (as : List Value) (w : zi_W) : Array Value → State → Prop := va_Pc (as.map (zi_v h0 b)) (fun U => va_P D cl (zi_w cA h0 b w) U.heap ∧ va_D (fun q => h0 ≤ q) (zi_w cA h0 b w) ∧ va_K D cl (zi_tys cA CL) U ∧ va_AO CL U ∧ (∀ w ∈ NW, va_Nw w U) ∧ h0 ≤ U.heap.size ∧ U.heap.size ≤ h0 + cn)
def zi_Qc (cl : List vw_C) (D : va_G) (cA : Nat → ClassId) (h0 b : Nat) (r : Option Value) (w' : zi_W) : Array Value → State → Outcome → State → Prop := fun _ st oc t => oc = .returned (r.map (zi_v h0 b)) ∧ va_P D cl (zi_w cA h0 b w') t.heap ∧ va_D (fun q => h0 ≤ q) (zi_w cA h0 b w') ∧ va_F (fun q => h0 ≤ q) st t
def zi_rm (d rq mc ms : Nat) : Room := { frames := d, cells := mc, slots := ms, locals := rq }
theorem zi_blind {cl : List vw_C} {NW : List Cond} {CL : String} {D : va_G} {cA : Nat → ClassId} {h0 b cn : Nat} {as : List Value} {w : zi_W} (hNW : ∀ w ∈ NW, w.onTables = true) : FrameBlind (zi_Pc cl NW CL D cA h0 b cn as w) := by
  intro a U g mk q
  obtain ⟨q0, q1, q2, q3, q4, q5, q6, q7⟩ := q
  exact ⟨q0, q1, q2, va_K.moved (u := U) (U := U.calling g mk a) (Vm.Alike.refl U.vm) q3, va_AO.moved (u := U) (U := U.calling g mk a) (Vm.Alike.refl U.vm) q4, fun w hw => va_Nw.same (hNW w hw) (u := U) (U := U.calling g mk a) rfl (q5 w hw), q6, q7⟩
section ZM
variable {exc : Nat → String} {P : zi_P} {cl : List vw_C} {TS NW : List Cond} {CL : String} {lw n : Nat}
set_option maxHeartbeats 1000000 in
theorem zs_body (ih : zi_Snd exc P cl TS NW CL lw n) {L d rq j cn sn cn' sn' : Nat} {xs : Nat → Int32} {as : List Value} {ls : zi_L} {w w' : zi_W} {r : Option Value} (hj : j ≠ lw) (hrun : zi_run P lw L xs n d rq j 0 ls [] w cn sn = some (.inl r, w', cn', sn')) (hent : zi_ent as (zi_n P j) = some ls) (D : va_G) (cA : Nat → ClassId) (h0 b : Nat) (l : Launch) {ws : List Cond} (hsub : ∀ w ∈ TS, w ∈ ws) :
    ∀ p e s m args below meth c s₁, BodyLoose p l (zi_y P j) (headSpec ws (zi_rm d rq (cn' - cn) (sn' - sn))) (zi_b P j) (zi_n P j) (zi_r P j) e s m args below meth c s₁ → c.maxLocals = zi_n P j → zi_Pc cl NW CL D cA h0 b cn as w args s →
      W p l e (headSpec ws (zi_rm d rq (cn' - cn) (sn' - sn))).room s m args below meth c s.heap [] 0 0 (MQ below (zi_Qc cl D cA h0 b r w') args s (cn' - cn) (sn' - sn) (fun q => h0 ≤ q)) (entryFrame m args (zi_n P j)) := by
  intro p e s m args below meth c s₁ B hml hv
  obtain ⟨rfl, hP, hD, hK, hAO, hnw, z1, z2⟩ := hv
  have hmo := zi_run_mono _ _ _ _ _ _ _ _ _ _ _ _ _ _ hrun
  have hts : ∀ w ∈ TS, w.before (as.map (zi_v h0 b)).toArray s = true := fun w hw => atoms_spec (ws := ws) B.pre w (hsub w hw)
  obtain ⟨hlen, hls⟩ := zi_ent_ls (h0 := h0) (b := b) hent
  rw [lg_entry_eq]
  have key := ih L xs d rq j 0 ls [] w cn sn (.inl r) w' cn' sn' hrun hlen l p e (zi_rm d rq (cn' - cn) (sn' - sn)) s m _ below meth c s.heap [] (MQ below (zi_Qc cl D cA h0 b r w') (as.map (zi_v h0 b)).toArray s (cn' - cn) (sn' - sn) (fun q => h0 ≤ q)) _ D cA h0 b cn sn
    ⟨B.exec, B.bytes, hml, B.returns, B.notSynchronized, findClass_of_methodNamed B.named, hts, hnw, hK, hAO, fun q => (name_of_methodNamed B.named B.method).1.trans q, z1, z2, Nat.le_refl _, Nat.le_refl _, fun q => absurd q hj⟩ hls ⟨hP, hD, va_S.rf⟩ (Nat.le_refl _) (Nat.le_refl _)
    (by show cn' ≤ cn + (cn' - cn); omega) (by show sn' ≤ sn + (sn' - sn); omega)
    ⟨fun ho hr H' locs' LS' pc' hH' hdg => ?_, fun x ty ho hr hn H' locs' LS' pc' hH' hdg => ?_⟩ (fun ex ho => by cases ho)
  · rw [Nat.sub_self, Nat.sub_self] at key
    exact key
  · cases ho
    exact W.vret B.exec B.bytes (B.returns.trans hr) (fun t ht hW => ⟨rfl, by rw [ht]; exact hH'.1, hH'.2.1, hH'.2.2.F ht⟩) hH'.2.2.2.2 hdg B.notSynchronized
  · cases ho
    exact W.zret B.exec B.bytes (B.returns.trans hr) hn (fun t ht hW => ⟨rfl, by rw [ht]; exact hH'.1, hH'.2.1, hH'.2.2.F ht⟩) hH'.2.2.2.2 hdg B.notSynchronized
end ZM
end
section
/-! What the interpreter answers, the machine does: calls in a run, and the run. -/
section ZR
variable {p : Program} {l : Launch} {e : Env} {R : Room} {s : State} {m : MethodId} {args : Array Value} {below : List Frame} {meth : Method} {c : Code} {H : Heap} {locs : List Loc} {cells slots : Nat} {Q : State → Prop}
variable {cl : List vw_C} {D : va_G} {cA : Nat → ClassId} {h0 b : Nat}
theorem zs_after {mc ms pc : Nat} {LS : Array Slot} {st0 rest : List Value} {r : Option Value} {w' : zi_W} {a : Array Value} (hr : va_Run p l e R s m args below meth c H locs cells slots mc ms (F0 m pc LS st0) rest (zi_Qc cl D cA h0 b r w' a) (fun q => h0 ≤ q)) (hS : va_S (fun q => h0 ≤ q) s.heap H locs)
    (kk : ∀ (H' : Heap) (locs' : List Loc), zi_Hp cl D cA h0 b s w' H' locs' → W p l e R s m args below meth c H' locs' (cells + mc) (slots + ms) Q (F0 m (pc + 3) LS ((r.map (zi_v h0 b)).toList ++ rest))) : W p l e R s m args below meth c H locs cells slots Q (F0 m pc LS st0) := by
  intro T hT X
  obtain ⟨v, st₀, t, T', L, g0, X', hL, e1, e2, ⟨hv, hP, hD, hz, hk⟩, stp⟩ := hr T hT X
  cases hv
  rw [g0] at hz hk
  obtain ⟨t2, a1, b1⟩ := kk T'.heap (locs ++ L) ⟨by rw [e1]; exact hP, hD, Nat.le_trans hS.1 (by rw [e1]; exact hz), fun q h1 h2 => by rw [e1, hk q (Nat.lt_of_lt_of_le h1 hS.1) h2]; exact hS.2.1 q h1 h2, fun q hq => by
      rcases List.mem_append.mp hq with h | h
      · exact hS.2.2 q h
      · exact hL q h⟩ T' rfl X'
  exact ⟨t2, stp t2 a1, b1⟩
/-- a static call of a method that has handlers -/
theorem zs_runSW {y : MethodName} {bytes cc : ByteArray} {maxL nL mc ms n index : Nat} {ret : Option FieldType} {hh : List (Nat × Nat × Nat × Nat)} {ws : List Cond} {rm : Room} {Pc : Array Value → State → Prop} {Qc : Array Value → State → Outcome → State → Prop} {free : Addr → Prop} {own : String} {As rest : List Value} {g : JFrame}
    (hx : p.tables.exec = Jvm.exec) (hb : c.code = cc) (hml : c.maxLocals = nL) (ho : s.vm.findClass own = some m.cls) (hM : Met l y ws rm Pc Qc mc ms free) (hrc : rm.cells = mc) (hrs : rm.slots = ms) (hfr : rm.frames + 1 ≤ R.frames) (hlo : 8 + (maxL + 11) + rm.locals ≤ R.locals) (hws : ∀ w ∈ ws, ∀ (a' : Array Value) (U : State), s.WarmedH U.vm → w.before a' U = true) (hcw : Cond.codeWith y bytes maxL ret hh ∈ ws)
    (hcode : (Cond.codeWith y bytes maxL ret hh).before args s = true) (hini : (Cond.initialized y.cls).before args s = true) (hy : y.cls ≠ "java/lang/invoke/MethodHandle" ∧ y.cls ≠ "java/lang/invoke/VarHandle") (hlen : ∀ sig, parseMethodDescriptor y.desc = some sig → n = sig.parameters.length) (hl : (Cond.methodLink own index y).before args s = true) (hstt : (Cond.static y).before args s = true) (hp : PreS s H Pc As)
    (hg : g.method = m) (hn : As.length = n) (hsize : g.locals.size = nL) (hstack : g.stack = As.reverse ++ rest) (hW : 2 * g.monitorRoom + (rest.map fun v => v.category).sum ≤ 8) (hdg : decode cc g.pc = .ok (.invokestatic index, 3)) (hf : cells + mc ≤ R.cells ∧ slots + ms ≤ R.slots) :
    va_Run p l e R s m args below meth c H locs cells slots mc ms g rest (Qc As.toArray) free := by
  have hK : Back l R p e below s args y 3 8 (PreOf R mc ms Pc) (PostOf Qc mc ms free) := va_backW (hh := hh) (bytes := bytes) (maxL := maxL) (ret := ret) hM hp.1 hrc hrs hfr hlo hws hcw (fun a' U hW => word_at hW (Or.inl (by first | rfl | simp [Cond.onTables, Cond.keeps, Cond.steady])) hini)
  intro T hT X
  obtain ⟨mk, methM, cM, hnamed, hmethM, -, -, -, -, -, -, hsigM⟩ := Cond.codeWith_spec hcode
  have hstatic : methM.isStatic = true := Cond.static_spec hnamed hmethM hstt
  obtain ⟨kP, hkP, -⟩ := className_of_methodNamed hnamed
  have hinitP : kP.init = .initialized := Cond.initialized_spec (findClass_of_methodNamed hnamed) hkP hini
  obtain ⟨vm₁, X₁, hstep₁⟩ := X.invokestatic hx ho hl hnamed hmethM hstatic hkP hinitP hy (g := g) hg (argsL := As) (rest := rest) (hn.trans (hlen _ hsigM)) hstack (by rw [hb]; exact hdg)
  obtain ⟨v, ⟨U', l2, c2, s2⟩, X', ⟨g', mk', t, L, e1, e2, hq, h1, hL, h2, h3⟩, hsteps⟩ := hK m meth c ⟨T.setVm vm₁, locs, cells, slots⟩ { g with stack := rest } (.invokestatic index) mk As.toArray X₁ hg (hsize.trans hml.symm) (by rw [hb]; exact hdg) hW (X₁.named hnamed) ⟨hf.1, hf.2, hp.2 (T.setVm vm₁) hT X₁.warmed⟩
  dsimp only [Pt.U, Pt.locs, Pt.cells, Pt.slots] at X' e1 e2 h1 h2 h3 hsteps
  subst h1; subst h2; subst h3
  exact ⟨v, (T.setVm vm₁).calling g' mk' As.toArray, t, U', L, hT, X', hL, e1, e2, hq, fun target h => hstep₁ _ fun acts => by rw [doInvoke_state]; exact hsteps.trans h⟩
end ZR
/-- what is asked of a program -/
def zi_Ok (P : zi_P) (cl : List vw_C) (TS NW : List Cond) (CL : String) (lw : Nat) : Prop :=
  (∀ k pc i, zi_code P k pc = some i → ∃ len, decode (zi_b P k) pc = .ok (i, len) ∧ (zi_len i = 0 ∨ len = zi_len i)) ∧ (∀ k x t, zi_pool P k x = some t → zi_tok P cl TS NW CL k x t ∧ zi_cok P cl TS NW lw k x t) ∧ (∃ q : vw_C, cl[2]? = some q ∧ q.1 = CL) ∧ (Cond.arrayClass .int ∈ TS ∧ Cond.arrayClass .boolean ∈ TS ∧ Cond.arrayClass .long ∈ TS) ∧
  (∀ w ∈ NW, w.onTables = true ∧ ((∃ a i b n d h, w = .fieldLinkNest a i b n d h) ∨ ∃ a i x h, w = .methodLinkNest a i x h)) ∧ (∀ w ∈ TS, (w.onTables && w.keeps) = true ∨ ∃ ty, w = .arrayClass ty)
theorem zi_Nw_warm {NW : List Cond} {s U : State} (hNW : ∀ w ∈ NW, w.onTables = true ∧ ((∃ a i b n d h, w = .fieldLinkNest a i b n d h) ∨ ∃ a i x h, w = .methodLinkNest a i x h)) (hW : s.WarmedH U.vm) (h : ∀ w ∈ NW, va_Nw w s) : ∀ w ∈ NW, va_Nw w U := by
  intro w hw
  rcases (hNW w hw).2 with ⟨a, i, b, n, d, hh, rfl⟩ | ⟨a, i, x, hh, rfl⟩
  · exact va_Nw.warmF hW (h _ hw)
  · exact va_Nw.warmM hW (h _ hw)
section ZQ
variable {exc : Nat → String} {P : zi_P} {cl : List vw_C} {TS NW : List Cond} {CL : String} {lw n : Nat}
theorem zs_pre {cA : Nat → ClassId} {D : va_G} {h0 b c0 cn L d rq k : Nat} {xs : Nat → Int32} {p : Program} {R : Room} {s : State} {m : MethodId} {args : Array Value} {meth : Method} {c : Code} {H : Heap} {locs : List Loc} {w : zi_W} {as : List Value} {av : Array Value} (hO : zi_Ok P cl TS NW CL lw) (hC : zi_Cx P cl TS NW CL D cA lw L xs h0 b c0 d rq k p R s m args meth c) (hH : zi_Hp cl D cA h0 b s w H locs) (hc0 : c0 ≤ cn) (hz : H.size ≤ s.heap.size + (cn - c0)) (hav : av = (as.map (zi_v h0 b)).toArray) :
    ∀ U : State, U.heap = H → s.WarmedH U.vm → zi_Pc cl NW CL D cA h0 b cn as w av U := by
  obtain ⟨hx, hb, hml, hr, hlk, hown, hts, hnw, hK, hAO, hin, hz1, hz2, hRf, hRl, hX⟩ := hC
  intro U hU hW
  have h1 := hH.2.2.1
  exact ⟨hav, by rw [hU]; exact hH.1, hH.2.1, va_K.moved hW.alike hK, va_AO.moved hW.alike hAO, zi_Nw_warm hO.2.2.2.2.1 hW hnw, by rw [hU]; omega, by rw [hU]; omega⟩
theorem zs_good {j : Nat} (hO : zi_Ok P cl TS NW CL lw) {w0 : Cond} (h : w0 ∈ TS) : GoodIn TS (w0 :: TS) := by
  intro w hw
  rcases List.mem_cons.mp hw with rfl | hw
  · exact ⟨h, hO.2.2.2.2.2 _ h⟩
  · exact ⟨hw, hO.2.2.2.2.2 _ hw⟩
theorem zs_cats {h0 b : Nat} (r : List Value) : ((r.map (zi_v h0 b)).map fun v => v.category) = r.map fun v => v.category := by
  rw [List.map_map]
  exact List.map_congr_left fun v _ => zi_v_cat h0 b v
theorem zs_optmap {h0 b : Nat} (v : Option Value) (r : List Value) : (v.map (zi_v h0 b)).toList ++ r.map (zi_v h0 b) = (v.toList ++ r).map (zi_v h0 b) := by
  cases v <;> simp
set_option maxHeartbeats 4000000 in
theorem zs_call (hO : zi_Ok P cl TS NW CL lw) (ih : zi_Snd exc P cl TS NW CL lw n) {cA : Nat → ClassId} {D : va_G} {h0 b c0 s0 cn sn cn1 sn1 L d rq k pc j : Nat} {xs : Nat → Int32} {l : Launch} {p : Program} {e : Env} {R : Room} {s : State} {m : MethodId} {args : Array Value} {below : List Frame} {meth : Method} {c : Code} {H : Heap} {locs : List Loc} {Q : State → Prop} {w w1 : zi_W} {as st r : List Value} {ls ls' : zi_L} {LS : Array Slot} {i : Jvm.ClassFile.Instr} {v : Option Value}
    (hC : zi_Cx P cl TS NW CL D cA lw L xs h0 b c0 (d + 1) rq k p R s m args meth c) (hH : zi_Hp cl D cA h0 b s w H locs) (hl : zi_ls h0 b LS ls) (hlen : ls.length = zi_n P k) (hc0 : c0 ≤ cn) (hs0 : s0 ≤ sn) (hdg : decode (zi_b P k) pc = .ok (i, zi_len i)) (hinv : zi_inv P k i st w = some (j, as, r)) (hent : zi_ent as (zi_n P j) = some ls') (hq : 19 + zi_n P j ≤ rq) (hrun : zi_run P lw L xs n d (rq - (19 + zi_n P j)) j 0 ls' [] w cn sn = some (.inl v, w1, cn1, sn1)) (hR1 : cn1 ≤ c0 + R.cells) (hR2 : sn1 ≤ s0 + R.slots)
    (kk : ∀ (H' : Heap) (locs' : List Loc), zi_Hp cl D cA h0 b s w1 H' locs' → W p l e R s m args below meth c H' locs' (cn1 - c0) (sn1 - s0) Q (F0 m (pc + 3) LS ((v.toList ++ r).map (zi_v h0 b)))) : W p l e R s m args below meth c H locs (cn - c0) (sn - s0) Q (F0 m pc LS (st.map (zi_v h0 b))) := by
  have hmo := zi_run_mono _ _ _ _ _ _ _ _ _ _ _ _ _ _ hrun
  refine zi_bound fun hz => ?_
  have hC0 := hC
  obtain ⟨hx, hb, hml, hr, hlk, hown, hts, hnw, hK, hAO, hin, hz1, hz2, hRf, hRl, hX⟩ := hC
  have e1 : cn - c0 + (cn1 - cn) = cn1 - c0 := by omega
  have e2 : sn - s0 + (sn1 - sn) = sn1 - s0 := by omega
  have kk2 : ∀ (H' : Heap) (locs' : List Loc), zi_Hp cl D cA h0 b s w1 H' locs' → W p l e R s m args below meth c H' locs' (cn - c0 + (cn1 - cn)) (sn - s0 + (sn1 - sn)) Q (F0 m (pc + 3) LS ((v.map (zi_v h0 b)).toList ++ r.map (zi_v h0 b))) := by
    intro H' locs' hH'
    rw [e1, e2, zs_optmap]
    exact kk H' locs' hH'
  have hsz : LS.size = zi_n P k := hl.1.trans hlen
  have hfit : cn - c0 + (cn1 - cn) ≤ R.cells ∧ sn - s0 + (sn1 - sn) ≤ R.slots := ⟨by omega, by omega⟩
  unfold zi_inv at hinv
  split at hinv
  · rename_i x
    split at hinv
    · rename_i j' mm ci hp
      split at hinv
      · rename_i as1 a r' hpop
        split at hinv
        · rename_i c' fs hg
          split at hinv
          · rename_i hcc
            cases hinv
            obtain ⟨rfl, hsum⟩ := hcc
            obtain ⟨hk0, hk1, -, -⟩ := (hO.2.1 _ _ _ hp).2
            obtain ⟨f1, f3, f4, f5, f6⟩ := hk0 (Or.inl rfl)
            obtain ⟨g1, g2, g3, g4⟩ := hk1 rfl
            obtain ⟨q, hq1, hq2⟩ := g4 _ rfl
            obtain ⟨ha, hne⟩ := zi_get_at hg
            obtain ⟨hn1, hst⟩ := zi_pop_at hpop
            have he : (zi_w cA h0 b w)[a]? = some (h0 + a, .inr (c', fs.map (zi_v h0 b))) := zi_w_get ha
            have hM : Met l (zi_y P j) (Cond.code (zi_y P j) (zi_b P j) (zi_n P j) (zi_r P j) :: TS) (zi_rm d (rq - (19 + zi_n P j)) (cn1 - cn) (sn1 - sn)) (zi_Pc cl NW CL D cA h0 b cn (.ref a :: as1) w) (zi_Qc cl D cA h0 b v w1) (cn1 - cn) (sn1 - sn) (fun q => h0 ≤ q) :=
              va_MetF f1 rfl (zs_body ih f5 hrun hent D cA h0 b l (fun w hw => List.mem_cons_of_mem _ hw))
            have hpre : PreV s H q.1 (h0 + a) (zi_Pc cl NW CL D cA h0 b cn (.ref a :: as1) w) (as1.map (zi_v h0 b)) :=
              ⟨zi_blind fun w hw => (hO.2.2.2.2.1 w hw).1, va_recv hK hH.1 hq1 he, zs_pre hO hC0 hH hc0 hz (by rw [List.map_cons]; show _ = (Value.ref (zi_ad h0 b a) :: _).toArray; rw [zi_ad_at hne])⟩
            have hstk : (F0 m pc LS (st.map (zi_v h0 b))).stack = (as1.map (zi_v h0 b)).reverse ++ .ref (h0 + a) :: r.map (zi_v h0 b) := by
              show st.map (zi_v h0 b) = _
              rw [hst, List.map_append, List.map_reverse, List.map_cons]
              show _ ++ Value.ref (zi_ad h0 b a) :: _ = _
              rw [zi_ad_at hne]
            have hrm : (zi_rm d (rq - (19 + zi_n P j)) (cn1 - cn) (sn1 - sn)).frames + 1 ≤ R.frames ∧ 8 + (zi_n P j + 11) + (zi_rm d (rq - (19 + zi_n P j)) (cn1 - cn) (sn1 - sn)).locals ≤ R.locals := ⟨by show d + 1 ≤ _; omega, by show 8 + (zi_n P j + 11) + (rq - (19 + zi_n P j)) ≤ _; omega⟩
            rcases f6 with f6 | ⟨host, f6⟩
            · exact zs_after (va_runV ⟨hx, hb, hml, hown, hts⟩ hM ⟨callB_of mm hts (zs_good (j := j) hO g1) rfl rfl rfl (hts _ f3) (hts _ f6) f4 hrm, hts _ g2, by rw [hq2]; exact hts _ g3⟩ hpre rfl (by rw [List.length_map]; exact hn1) hsz hstk (lv_room (by rw [zs_cats]; exact hsum)) hdg hfit) hH.2.2 kk2
            · exact zs_after (va_runVN ⟨hx, hb, hml, hown, hts⟩ hM ⟨va_cnB mm hts (zs_good (j := j) hO g1) rfl rfl rfl (hnw _ f6) (hts _ f3) f4 hrm, hts _ g2, by rw [hq2]; exact hts _ g3⟩ hpre rfl (by rw [List.length_map]; exact hn1) hsz hstk (lv_room (by rw [zs_cats]; exact hsum)) hdg hfit) hH.2.2 kk2
          · cases hinv
        · cases hinv
      · cases hinv
    · cases hinv
  · rename_i x
    split at hinv
    · rename_i j' mm _ hp
      split at hinv
      · rename_i as1 a r' hpop
        split at hinv
        · rename_i hsum
          cases hinv
          obtain ⟨hk0, -, hk2, -⟩ := (hO.2.1 _ _ _ hp).2
          obtain ⟨f1, f3, f4, f5, f6⟩ := hk0 (Or.inr (Or.inl rfl))
          obtain ⟨g1, g2, g3, g4⟩ := hk2 rfl
          obtain ⟨hn1, hst⟩ := zi_pop_at hpop
          have hM : Met l (zi_y P j) (Cond.code (zi_y P j) (zi_b P j) (zi_n P j) (zi_r P j) :: TS) (zi_rm d (rq - (19 + zi_n P j)) (cn1 - cn) (sn1 - sn)) (zi_Pc cl NW CL D cA h0 b cn (.ref a :: as1) w) (zi_Qc cl D cA h0 b v w1) (cn1 - cn) (sn1 - sn) (fun q => h0 ≤ q) :=
            va_MetF f1 rfl (zs_body ih f5 hrun hent D cA h0 b l (fun w hw => List.mem_cons_of_mem _ hw))
          have hpre : PreS s H (zi_Pc cl NW CL D cA h0 b cn (.ref a :: as1) w) (.ref (zi_ad h0 b a) :: as1.map (zi_v h0 b)) :=
            ⟨zi_blind fun w hw => (hO.2.2.2.2.1 w hw).1, zs_pre hO hC0 hH hc0 hz rfl⟩
          have hstk : (F0 m pc LS (st.map (zi_v h0 b))).stack = (as1.map (zi_v h0 b)).reverse ++ .ref (zi_ad h0 b a) :: r.map (zi_v h0 b) := by
            show st.map (zi_v h0 b) = _
            rw [hst, List.map_append, List.map_reverse, List.map_cons]
            rfl
          have hrm : (zi_rm d (rq - (19 + zi_n P j)) (cn1 - cn) (sn1 - sn)).frames + 1 ≤ R.frames ∧ 8 + (zi_n P j + 11) + (zi_rm d (rq - (19 + zi_n P j)) (cn1 - cn) (sn1 - sn)).locals ≤ R.locals := ⟨by show d + 1 ≤ _; omega, by show 8 + (zi_n P j + 11) + (rq - (19 + zi_n P j)) ≤ _; omega⟩
          rw [g4] at hM g1
          rcases f6 with f6 | ⟨host, f6⟩
          · exact zs_after (va_runI ⟨hx, hb, hml, hown, hts⟩ hM ⟨callB_of mm hts (zs_good (j := j) hO g1) rfl rfl rfl (hts _ f3) (hts _ f6) f4 hrm, g3, hts _ g2⟩ hpre rfl (by rw [List.length_map]; exact hn1) hsz hstk (lv_room (by rw [zs_cats]; exact hsum)) hdg hfit) hH.2.2 kk2
          · exact zs_after (va_runIN ⟨hx, hb, hml, hown, hts⟩ hM ⟨va_cnB mm hts (zs_good (j := j) hO g1) rfl rfl rfl (hnw _ f6) (hts _ f3) f4 hrm, g3, hts _ g2⟩ hpre rfl (by rw [List.length_map]; exact hn1) hsz hstk (lv_room (by rw [zs_cats]; exact hsum)) hdg hfit) hH.2.2 kk2
        · cases hinv
      · cases hinv
    · cases hinv
  · rename_i x
    split at hinv
    · rename_i j' mm _ hp
      split at hinv
      · rename_i as1 r' hpop
        split at hinv
        · rename_i hsum
          cases hinv
          obtain ⟨hk0, -, -, hk3⟩ := (hO.2.1 _ _ _ hp).2
          obtain ⟨f1, f3, f4, f5, f6⟩ := hk0 (Or.inr (Or.inr rfl))
          obtain ⟨g1, g2⟩ := hk3 rfl
          obtain ⟨hn1, hst⟩ := zi_pop_at hpop
          have hpre : PreS s H (zi_Pc cl NW CL D cA h0 b cn as w) (as.map (zi_v h0 b)) :=
            ⟨zi_blind fun w hw => (hO.2.2.2.2.1 w hw).1, zs_pre hO hC0 hH hc0 hz rfl⟩
          have hstk : (F0 m pc LS (st.map (zi_v h0 b))).stack = (as.map (zi_v h0 b)).reverse ++ r.map (zi_v h0 b) := by
            show st.map (zi_v h0 b) = _
            rw [hst, List.map_append, List.map_reverse]
          have hrm : (zi_rm d (rq - (19 + zi_n P j)) (cn1 - cn) (sn1 - sn)).frames + 1 ≤ R.frames ∧ 8 + (zi_n P j + 11) + (zi_rm d (rq - (19 + zi_n P j)) (cn1 - cn) (sn1 - sn)).locals ≤ R.locals := ⟨by show d + 1 ≤ _; omega, by show 8 + (zi_n P j + 11) + (rq - (19 + zi_n P j)) ≤ _; omega⟩
          rcases g2 with g2 | ⟨g3, g4, hh, g2⟩
          · have hM : Met l (zi_y P j) (Cond.code (zi_y P j) (zi_b P j) (zi_n P j) (zi_r P j) :: TS) (zi_rm d (rq - (19 + zi_n P j)) (cn1 - cn) (sn1 - sn)) (zi_Pc cl NW CL D cA h0 b cn as w) (zi_Qc cl D cA h0 b v w1) (cn1 - cn) (sn1 - sn) (fun q => h0 ≤ q) :=
              va_MetF f1 rfl (zs_body ih f5 hrun hent D cA h0 b l (fun w hw => List.mem_cons_of_mem _ hw))
            rcases f6 with f6 | ⟨host, f6⟩
            · exact zs_after (va_runS ⟨hx, hb, hml, hown, hts⟩ hM ⟨callB_of mm hts (zs_good (j := j) hO g2) rfl rfl rfl (hts _ f3) (hts _ f6) f4 hrm, hts _ g1⟩ hpre rfl (by rw [List.length_map]; exact hn1) hsz hstk (lv_room (by rw [zs_cats]; exact hsum)) hdg hfit) hH.2.2 kk2
            · exact zs_after (va_runSN ⟨hx, hb, hml, hown, hts⟩ hM ⟨va_cnB mm hts (zs_good (j := j) hO g2) rfl rfl rfl (hnw _ f6) (hts _ f3) f4 hrm, hts _ g1, trivial⟩ hpre rfl (by rw [List.length_map]; exact hn1) hsz hstk (lv_room (by rw [zs_cats]; exact hsum)) hdg hfit) hH.2.2 kk2
          · have hM : Met l (zi_y P j) (Cond.codeWith (zi_y P j) (zi_b P j) (zi_n P j) (zi_r P j) hh :: TS) (zi_rm d (rq - (19 + zi_n P j)) (cn1 - cn) (sn1 - sn)) (zi_Pc cl NW CL D cA h0 b cn as w) (zi_Qc cl D cA h0 b v w1) (cn1 - cn) (sn1 - sn) (fun q => h0 ≤ q) :=
              va_MetW g3 rfl (zs_body ih f5 hrun hent D cA h0 b l (fun w hw => List.mem_cons_of_mem _ hw))
            exact zs_after (zs_runSW hx hb hml hown hM rfl rfl hrm.1 hrm.2 (pay_in hts (zs_good (j := j) hO g2)) List.mem_cons_self (hts _ g2) (hts _ f3) ⟨f4.1, f4.2.1⟩ (fun sig hs => by have h2 := f4.2.2; rw [hs] at h2; exact (Option.some.inj h2).symm) (hts _ g4) (hts _ g1) hpre rfl (by rw [List.length_map]; exact hn1) hsz hstk (lv_room (by rw [zs_cats]; exact hsum)) hdg hfit) hH.2.2 kk2
        · cases hinv
      · cases hinv
    · cases hinv
  · cases hinv
/-- the two pieces where something is thrown, as premises of the run -/
def zi_ThrOk (exc : Nat → String) (P : zi_P) (cl : List vw_C) (TS NW : List Cond) (CL : String) (lw : Nat) : Prop :=
  ∀ (L : Nat) (xs : Nat → Int32) (d rq k pc ex : Nat) (ls : zi_L) (w : zi_W) (cn sn : Nat), zi_thr P k pc = some ex → 6 ≤ d → 90 ≤ rq → ls.length = zi_n P k →
  ∀ (l : Launch) (p : Program) (e : Env) (R : Room) (s : State) (m : MethodId) (args : Array Value) (below : List Frame) (meth : Method) (c : Code) (H : Heap) (locs : List Loc) (Q : State → Prop) (LS : Array Slot) (D : va_G) (cA : Nat → ClassId) (h0 b c0 s0 : Nat),
    zi_Cx P cl TS NW CL D cA lw L xs h0 b c0 d rq k p R s m args meth c → zi_ls h0 b LS ls → zi_Hp cl D cA h0 b s w H locs → c0 ≤ cn → s0 ≤ sn → cn + 1 ≤ c0 + R.cells → sn + 6 ≤ s0 + R.slots →
    (∀ t, zi_Thrn exc cl D cA h0 b s below w (cn + 1 - c0) (sn + 6 - s0) ex t → Q t) →
    W p l e R s m args below meth c H locs (cn - c0) (sn - s0) Q (F0 m pc LS [])
def zi_CatOk (exc : Nat → String) (P : zi_P) (cl : List vw_C) (TS NW : List Cond) (CL : String) (lw n : Nat) : Prop :=
  ∀ (L : Nat) (xs : Nat → Int32) (d rq k pc j ex : Nat) (ls ls' : zi_L) (st as r : List Value) (w w' : zi_W) (cn sn cn' sn' : Nat) (i : Jvm.ClassFile.Instr) (x : Int32), zi_code P k pc = some i → zi_inv P k i st w = some (j, as, r) → zi_ent as (zi_n P j) = some ls' → 19 + zi_n P j ≤ rq → zi_run P lw L xs n d (rq - (19 + zi_n P j)) j 0 ls' [] w cn sn = some (.inr ex, w', cn', sn') → zi_cat P k pc ex = some x → ls.length = zi_n P k →
  ∀ (l : Launch) (p : Program) (e : Env) (R : Room) (s : State) (m : MethodId) (args : Array Value) (below : List Frame) (meth : Method) (c : Code) (H : Heap) (locs : List Loc) (Q : State → Prop) (LS : Array Slot) (D : va_G) (cA : Nat → ClassId) (h0 b c0 s0 : Nat),
    zi_Cx P cl TS NW CL D cA lw L xs h0 b c0 (d + 1) rq k p R s m args meth c → zi_ls h0 b LS ls → zi_Hp cl D cA h0 b s w H locs → c0 ≤ cn → s0 ≤ sn → cn' ≤ c0 + R.cells → sn' ≤ s0 + R.slots →
    zi_End P cl D cA h0 b k p l e R s m args below meth c Q (cn' - c0) (sn' - s0) (.inl (some (.int x))) w' →
    W p l e R s m args below meth c H locs (cn - c0) (sn - s0) Q (F0 m pc LS (st.map (zi_v h0 b)))
theorem zi_or_some {a b : Option zi_C} {x : zi_C} (h : zi_or a b = some x) : a = some x ∨ b = some x := by
  unfold zi_or at h
  split at h
  · exact Or.inl h
  · exact Or.inr h
set_option maxHeartbeats 4000000 in
theorem zi_sound (hO : zi_Ok P cl TS NW CL lw) (hT : zi_ThrOk exc P cl TS NW CL lw) (hCt : ∀ n, zi_Snd exc P cl TS NW CL lw n → zi_CatOk exc P cl TS NW CL lw n) : ∀ n, zi_Snd exc P cl TS NW CL lw n := by
  intro n
  induction n with
  | zero => intro L xs d rq k pc ls st w cn sn o w' cn' sn' h; cases h
  | succ n ih =>
    intro L xs d rq k pc ls st w cn sn o w' cn' sn' h hlen l p e R s m args below meth c H locs Q LS D cA h0 b c0 s0 hC hl hH hc0 hs0 hR1 hR2 hE hEt
    have hmo := zi_run_mono _ _ _ _ _ _ _ _ _ _ _ _ _ _ h
    unfold zi_run at h
    split at h
    · rename_i ex hthr
      split at h
      rotate_left
      · cases h
      rename_i hth
      obtain ⟨rfl, hth1, hth2⟩ := hth
      cases h
      exact hT L xs d rq k pc ex ls w cn sn hthr hth1 hth2 hlen l p e R s m args below meth c H locs Q LS D cA h0 b c0 s0 hC hl hH hc0 hs0 hR1 hR2 (hEt ex rfl)
    · split at h
      · cases h
      · rename_i i hcode
        obtain ⟨len, hdg, hlen2⟩ := hO.1 _ _ _ hcode
        split at h
        · rename_i r hret
          cases h
          unfold zi_ret at hret
          split at hret
          · split at hret
            · rename_i hr
              cases hret
              have e1 : len = 1 := hlen2.resolve_left (by decide)
              subst e1
              exact hE.1 rfl hr H locs LS pc hH hdg
            · cases hret
          · rename_i x
            split at hret
            · rename_i hr
              cases hret
              have e1 : len = 1 := hlen2.resolve_left (by decide)
              subst e1
              rcases hr with hr | ⟨hr, h01⟩
              · exact hE.2 x .int rfl hr rfl H locs LS pc hH hdg
              · exact hE.2 x .boolean rfl hr (by rcases h01 with rfl | rfl <;> decide +kernel) H locs LS pc hH hdg
            · cases hret
          · cases hret
        · split at h
          · rename_i pc1 ls1 st1 w1 cn1 sn1 hsim
            split at h
            · rename_i hg
              have h1 := ih L xs d rq k pc1 ls1 st1 w1 cn1 sn1 o w' cn' sn' h (hg.2.2.trans hlen) l p e R s m args below meth c
              have hmo1 := zi_run_mono _ _ _ _ _ _ _ _ _ _ _ _ _ _ h
              have hx := hC.1
              have hb := hC.2.1
              unfold zi_sim at hsim
              by_cases hz : zi_len i = 0
              · have hno : zi_br pc (zi_len i) i ls st w cn sn = some (pc1, ls1, st1, w1, cn1, sn1) := by
                  unfold zi_len at hz
                  split at hz <;> first | (exact absurd hz (by decide)) | skip
                  rcases zi_or_some hsim with q | q
                  · unfold zi_num at q; cases q
                  · rcases zi_or_some q with q | q
                    · unfold zi_lcl at q; cases q
                    · rcases zi_or_some q with q | q
                      · exact q
                      · rcases zi_or_some q with q | q
                        · unfold zi_cel at q; cases q
                        · unfold zi_pri at q; cases q
                obtain ⟨rfl, rfl, rfl, rfl, hk⟩ := zs_br (h0 := h0) (b := b) hx hb hdg hlen2 hno
                exact hk LS (h1 H locs Q LS D cA h0 b c0 s0 hC hl hH hc0 hs0 hR1 hR2 hE hEt)
              · have hdg' : decode (zi_b P k) pc = .ok (i, zi_len i) := by rw [← hlen2.resolve_left hz]; exact hdg
                rcases zi_or_some hsim with q | q
                · obtain ⟨rfl, rfl, rfl, rfl, hk⟩ := zs_num (h0 := h0) (b := b) hx hb hdg' q
                  exact hk LS (h1 H locs Q LS D cA h0 b c0 s0 hC hl hH hc0 hs0 hR1 hR2 hE hEt)
                · rcases zi_or_some q with q | q
                  · obtain ⟨rfl, rfl, rfl, hk⟩ := zs_lcl (h0 := h0) (b := b) hx hb hdg' q
                    exact hk LS hl fun LS' hl' => h1 H locs Q LS' D cA h0 b c0 s0 hC hl' hH hc0 hs0 hR1 hR2 hE hEt
                  · rcases zi_or_some q with q | q
                    · obtain ⟨rfl, rfl, rfl, rfl, hk⟩ := zs_br (h0 := h0) (b := b) hx hb hdg hlen2 q
                      exact hk LS (h1 H locs Q LS D cA h0 b c0 s0 hC hl hH hc0 hs0 hR1 hR2 hE hEt)
                    · rcases zi_or_some q with q | q
                      · obtain ⟨rfl, m1, m2, hk⟩ := zs_cel (l := l) (e := e) (below := below) (Q := Q) hC (fun x t ht => (hO.2.1 k x t ht).1) hO.2.2.1 hO.2.2.2.1 (fun w hw => (hO.2.2.2.2.1 w hw).1) hH hc0 hs0 hdg' q
                        exact hk (by omega) (by omega) LS fun H' locs' hH' => h1 H' locs' Q LS D cA h0 b c0 s0 hC hl hH' (by omega) (by omega) hR1 hR2 hE hEt
                      · obtain ⟨rfl, rfl, rfl, hk⟩ := zs_pri (l := l) (e := e) (below := below) (Q := Q) (s0 := s0) hC (fun x t ht => (hO.2.1 k x t ht).1) hH hdg' q
                        exact hk (by omega) (by omega) LS hl hlen fun H' locs' hH' => h1 H' locs' Q LS D cA h0 b c0 s0 hC hl hH' hc0 hs0 hR1 hR2 hE hEt
            · cases h
          · split at h
            · rename_i j as r d' hinv hsn
              have hdg' : decode (zi_b P k) pc = .ok (i, zi_len i) := by
                rcases hlen2 with q | q
                · unfold zi_len at q
                  split at q <;> first | (exact absurd q (by decide)) | skip
                  unfold zi_inv at hinv
                  cases hinv
                · rw [← q]; exact hdg
              split at h
              · cases h
              · rename_i ls' hent
                split at h
                rotate_left
                · cases h
                rename_i hq
                split at h
                · rename_i v w1 cn1 sn1 hrun
                  have hmo1 := zi_run_mono _ _ _ _ _ _ _ _ _ _ _ _ _ _ h
                  have hmo2 := zi_run_mono _ _ _ _ _ _ _ _ _ _ _ _ _ _ hrun
                  exact zs_call hO ih hC hH hl hlen hc0 hs0 hdg' hinv hent hq hrun (by omega) (by omega) fun H' locs' hH' => ih L xs _ rq k _ ls _ w1 cn1 sn1 o w' cn' sn' h hlen l p e R s m args below meth c H' locs' Q LS D cA h0 b c0 s0 hC hl hH' (by omega) (by omega) hR1 hR2 hE hEt
                · rename_i ex w1 cn1 sn1 hrun
                  split at h
                  · rename_i x hcat
                    cases h
                    exact hCt n ih L xs d' rq k pc j ex ls ls' st as r w _ cn sn _ _ i x hcode hinv hent hq hrun hcat hlen l p e R s m args below meth c H locs Q LS D cA h0 b c0 s0 hC hl hH hc0 hs0 hR1 hR2 hE
                  · cases h
                · cases h
            · cases h
end ZQ
end
