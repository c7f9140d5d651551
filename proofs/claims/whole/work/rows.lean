section
/-! An interpreter of the part of bytecode that this claim uses, over worlds of cells by their places. Later parts show: what it answers, the machine does. -/
abbrev zi_W : Type := List va_E
abbrev zi_L : Type := List (Option Value)
abbrev zi_O : Type := Option Value ⊕ Nat
abbrev zi_C : Type := Nat × zi_L × List Value × zi_W × Nat × Nat
abbrev zi_R : Type := zi_O × zi_W × Nat × Nat
/-- what a method's pool entry is: (tag, a, b, v); 0 field b of class a, 9 the same where it is final, 8 where it is final and this method its constructor; 1, 2, 3 a call (virtual, special, static) of method a with b arguments; 4 new of class a, with b slots; 5 an array of references of kind a; 6 a constant v; 7 a member that is a step by itself: a -/
abbrev zi_T : Type := Nat × Nat × Nat × Value
/-- a program: code, pool, methods (name, bytes, locals, answer), where an exception of a kind is made and thrown, where it is caught and what is answered then, fields' types, the fields that a new object has -/
abbrev zi_P : Type := (Nat → Nat → Option Jvm.ClassFile.Instr) × (Nat → Nat → Option zi_T) × (Nat → MethodName × ByteArray × Nat × Option FieldType) × (Nat → Nat → Option Nat) × (Nat → Nat → Nat → Option Int32) × (Nat → Nat → FieldType) × (Nat → List Value)
def zi_code (P : zi_P) : Nat → Nat → Option Jvm.ClassFile.Instr := P.1
def zi_pool (P : zi_P) : Nat → Nat → Option zi_T := P.2.1
def zi_meth (P : zi_P) : Nat → MethodName × ByteArray × Nat × Option FieldType := P.2.2.1
def zi_thr (P : zi_P) : Nat → Nat → Option Nat := P.2.2.2.1
def zi_cat (P : zi_P) : Nat → Nat → Nat → Option Int32 := P.2.2.2.2.1
def zi_fty (P : zi_P) : Nat → Nat → FieldType := P.2.2.2.2.2.1
def zi_fs0 (P : zi_P) : Nat → List Value := P.2.2.2.2.2.2
abbrev zi_y (P : zi_P) (k : Nat) : MethodName := (zi_meth P k).1
abbrev zi_b (P : zi_P) (k : Nat) : ByteArray := (zi_meth P k).2.1
abbrev zi_n (P : zi_P) (k : Nat) : Nat := (zi_meth P k).2.2.1
abbrev zi_r (P : zi_P) (k : Nat) : Option FieldType := (zi_meth P k).2.2.2
/-- the script's place: no cell of a world -/
def zi_X : Nat := 1099511627776
def zi_get (w : zi_W) (i : Nat) : Option va_E := if i = zi_X then none else w[i]?
def zi_loc (ls : zi_L) (i : Nat) : Option Value := match ls[i]? with
  | some (some v) => some v
  | _ => none
def zi_two (ls : zi_L) (i : Nat) : Bool := match zi_loc ls i with
  | some v => v.category == 2
  | none => false
/-- a value of one slot comes to a local; not behind a long's first half -/
def zi_set1 (ls : zi_L) (i : Nat) (v : Value) : Option zi_L :=
  if i < ls.length ∧ v.category = 1 ∧ (i = 0 ∨ zi_two ls (i - 1) = false) then some (ls.set i (some v)) else none
def zi_set2 (ls : zi_L) (i : Nat) (v : Value) : Option zi_L :=
  if i + 1 < ls.length ∧ v.category = 2 ∧ (i = 0 ∨ zi_two ls (i - 1) = false) then some ((ls.set i (some v)).set (i + 1) none) else none
/-- how long an instruction is (a switch: 0, that isn't asked) -/
def zi_len : Jvm.ClassFile.Instr → Nat
  | .bipush _ => 2
  | .ldc _ => 2
  | .iload _ => 2
  | .lload _ => 2
  | .aload _ => 2
  | .istore _ => 2
  | .lstore _ => 2
  | .astore _ => 2
  | .newarray _ => 2
  | .sipush _ => 3
  | .ldc2_w _ => 3
  | .getfield _ => 3
  | .putfield _ => 3
  | .ifCond _ _ => 3
  | .if_icmp _ _ => 3
  | .goto _ => 3
  | .iinc _ _ => 3
  | .new _ => 3
  | .anewarray _ => 3
  | .invokevirtual _ => 3
  | .invokespecial _ => 3
  | .invokestatic _ => 3
  | .tableswitch _ _ _ _ => 0
  | _ => 1
def zi_tgt (pc : Nat) (off : Int) : Option Nat := if 0 ≤ (pc : Int) + off then some ((pc : Int) + off).toNat else none
def zi_pop : Nat → List Value → List Value → Option (List Value × List Value)
  | 0, acc, st => some (acc, st)
  | n + 1, acc, v :: st => zi_pop n (v :: acc) st
  | _ + 1, _, [] => none
def zi_ent (as : List Value) (n : Nat) : Option zi_L := if as.length ≤ n ∧ as.all (fun v => v.category == 1) = true then some (as.map some ++ List.replicate (n - as.length) none) else none
def zi_fit (ty : FieldType) (v : Value) : Bool := match ty, v with
  | .int, .int _ => true
  | .boolean, .int x => x == 0 || x == 1
  | .object _, .ref _ => true
  | .array _, .ref _ => true
  | _, _ => false
abbrev zi_in (j : Int32) (m : Nat) : Prop := ¬ (j < 0 ∨ m ≤ j.toNatClampNeg)
def zi_jmp (b : Bool) (pc n : Nat) (off : Int) (ls : zi_L) (st : List Value) (w : zi_W) (cn sn : Nat) : Option zi_C :=
  match zi_tgt pc off with
  | some t => some (if b = true then t else pc + n, ls, st, w, cn, sn)
  | none => none
/-- branches -/
def zi_br (pc n : Nat) (i : Jvm.ClassFile.Instr) (ls : zi_L) (st : List Value) (w : zi_W) (cn sn : Nat) : Option zi_C := match i, st with
  | .ifCond .eq off, .int x :: r => zi_jmp (decide (x = 0)) pc n off ls r w cn sn
  | .ifCond .ne off, .int x :: r => zi_jmp (decide (¬ x = 0)) pc n off ls r w cn sn
  | .ifCond .lt off, .int x :: r => zi_jmp (decide (x < 0)) pc n off ls r w cn sn
  | .ifCond .ge off, .int x :: r => zi_jmp (decide (0 ≤ x)) pc n off ls r w cn sn
  | .ifCond .gt off, .int x :: r => zi_jmp (decide (0 < x)) pc n off ls r w cn sn
  | .ifCond .le off, .int x :: r => zi_jmp (decide (x ≤ 0)) pc n off ls r w cn sn
  | .if_icmp .eq off, .int y :: .int x :: r => zi_jmp (decide (x = y)) pc n off ls r w cn sn
  | .if_icmp .ne off, .int y :: .int x :: r => zi_jmp (decide (¬ x = y)) pc n off ls r w cn sn
  | .if_icmp .lt off, .int y :: .int x :: r => zi_jmp (decide (x < y)) pc n off ls r w cn sn
  | .if_icmp .ge off, .int y :: .int x :: r => zi_jmp (decide (y ≤ x)) pc n off ls r w cn sn
  | .if_icmp .gt off, .int y :: .int x :: r => zi_jmp (decide (y < x)) pc n off ls r w cn sn
  | .if_icmp .le off, .int y :: .int x :: r => zi_jmp (decide (x ≤ y)) pc n off ls r w cn sn
  | .goto off, r => zi_jmp true pc n off ls r w cn sn
  | .tableswitch d lo hi offs, .int x :: r =>
    if x.toInt < lo ∨ hi < x.toInt then zi_jmp true pc n d ls r w cn sn
    else match offs[(x.toInt - lo).toNat]? with
      | some off => zi_jmp true pc n off ls r w cn sn
      | none => none
  | _, _ => none
/-- numbers and the stack -/
def zi_num (pc n : Nat) (i : Jvm.ClassFile.Instr) (ls : zi_L) (st : List Value) (w : zi_W) (cn sn : Nat) : Option zi_C := match i, st with
  | .iconst c, r => some (pc + n, ls, .int (Int32.ofInt c) :: r, w, cn, sn)
  | .bipush c, r => some (pc + n, ls, .int (Int8.ofInt c).toInt32 :: r, w, cn, sn)
  | .sipush c, r => some (pc + n, ls, .int (Int16.ofInt c).toInt32 :: r, w, cn, sn)
  | .iadd, .int y :: .int x :: r => some (pc + n, ls, .int (x + y) :: r, w, cn, sn)
  | .isub, .int y :: .int x :: r => some (pc + n, ls, .int (x - y) :: r, w, cn, sn)
  | .imul, .int y :: .int x :: r => some (pc + n, ls, .int (x * y) :: r, w, cn, sn)
  | .iand, .int y :: .int x :: r => some (pc + n, ls, .int (x &&& y) :: r, w, cn, sn)
  | .ixor, .int y :: .int x :: r => some (pc + n, ls, .int (x ^^^ y) :: r, w, cn, sn)
  | .ishl, .int y :: .int x :: r => some (pc + n, ls, .int (x <<< (y &&& 31)) :: r, w, cn, sn)
  | .iushr, .int y :: .int x :: r => some (pc + n, ls, .int (x.toUInt32 >>> (y.toUInt32 &&& Int32.toUInt32 31)).toInt32 :: r, w, cn, sn)
  | .idiv, .int y :: .int x :: r => if y = 0 then none else some (pc + n, ls, .int (x / y) :: r, w, cn, sn)
  | .irem, .int y :: .int x :: r => if y = 0 then none else some (pc + n, ls, .int (x - x / y * y) :: r, w, cn, sn)
  | .i2l, .int x :: r => some (pc + n, ls, .long x.toInt64 :: r, w, cn, sn)
  | .l2i, .long x :: r => some (pc + n, ls, .int x.toInt32 :: r, w, cn, sn)
  | .i2c, .int x :: r => some (pc + n, ls, .int (x.toUInt32 % 65536).toInt32 :: r, w, cn, sn)
  | .ladd, .long y :: .long x :: r => some (pc + n, ls, .long (x + y) :: r, w, cn, sn)
  | .lmul, .long y :: .long x :: r => some (pc + n, ls, .long (x * y) :: r, w, cn, sn)
  | .ldiv, .long y :: .long x :: r => if y = 0 then none else some (pc + n, ls, .long (x / y) :: r, w, cn, sn)
  | .lrem, .long y :: .long x :: r => if y = 0 then none else some (pc + n, ls, .long (x - x / y * y) :: r, w, cn, sn)
  | .lcmp, .long y :: .long x :: r => some (pc + n, ls, .int (lg_cmp x y) :: r, w, cn, sn)
  | .dup, v :: r => if v.category = 1 then some (pc + n, ls, v :: v :: r, w, cn, sn) else none
  | .dup_x1, v :: u :: r => if v.category = 1 ∧ u.category = 1 then some (pc + n, ls, v :: u :: v :: r, w, cn, sn) else none
  | .dup_x2, v :: u :: t :: r => if v.category = 1 ∧ u.category = 1 ∧ t.category = 1 then some (pc + n, ls, v :: u :: t :: v :: r, w, cn, sn) else none
  | .dup2, v :: u :: r => if v.category = 1 ∧ u.category = 1 then some (pc + n, ls, v :: u :: v :: u :: r, w, cn, sn) else none
  | .pop, v :: r => if v.category = 1 then some (pc + n, ls, r, w, cn, sn) else none
  | _, _ => none
def zi_push1 (q : Option Value) (pc n : Nat) (ls : zi_L) (st : List Value) (w : zi_W) (cn sn : Nat) : Option zi_C := match q with
  | some v => some (pc + n, ls, v :: st, w, cn, sn)
  | none => none
def zi_isI (q : Option Value) : Option Value := match q with
  | some (.int x) => some (.int x)
  | _ => none
def zi_isL (q : Option Value) : Option Value := match q with
  | some (.long x) => some (.long x)
  | _ => none
def zi_isR (q : Option Value) : Option Value := match q with
  | some (.ref x) => some (.ref x)
  | _ => none
def zi_sto1 (i : Nat) (v : Value) (pc n : Nat) (ls : zi_L) (r : List Value) (w : zi_W) (cn sn : Nat) : Option zi_C := match zi_set1 ls i v with
  | some ls' => some (pc + n, ls', r, w, cn, sn)
  | none => none
def zi_sto2 (i : Nat) (v : Value) (pc n : Nat) (ls : zi_L) (r : List Value) (w : zi_W) (cn sn : Nat) : Option zi_C := match zi_set2 ls i v with
  | some ls' => some (pc + n, ls', r, w, cn, sn)
  | none => none
/-- locals -/
def zi_lcl (pc n : Nat) (i : Jvm.ClassFile.Instr) (ls : zi_L) (st : List Value) (w : zi_W) (cn sn : Nat) : Option zi_C := match i, st with
  | .iload j, r => zi_push1 (zi_isI (zi_loc ls j)) pc n ls r w cn sn
  | .iload_n j, r => zi_push1 (zi_isI (zi_loc ls j)) pc n ls r w cn sn
  | .lload j, r => zi_push1 (zi_isL (zi_loc ls j)) pc n ls r w cn sn
  | .lload_n j, r => zi_push1 (zi_isL (zi_loc ls j)) pc n ls r w cn sn
  | .aload j, r => zi_push1 (zi_isR (zi_loc ls j)) pc n ls r w cn sn
  | .aload_n j, r => zi_push1 (zi_isR (zi_loc ls j)) pc n ls r w cn sn
  | .istore j, .int x :: r => zi_sto1 j (.int x) pc n ls r w cn sn
  | .istore_n j, .int x :: r => zi_sto1 j (.int x) pc n ls r w cn sn
  | .astore j, .ref x :: r => zi_sto1 j (.ref x) pc n ls r w cn sn
  | .astore_n j, .ref x :: r => zi_sto1 j (.ref x) pc n ls r w cn sn
  | .lstore j, .long x :: r => zi_sto2 j (.long x) pc n ls r w cn sn
  | .lstore_n j, .long x :: r => zi_sto2 j (.long x) pc n ls r w cn sn
  | .iinc j c, r => match zi_loc ls j with
    | some (.int x) => zi_sto1 j (.int (x + Int32.ofInt c)) pc n ls r w cn sn
    | _ => none
  | _, _ => none
/-- cells -/
def zi_cel (P : zi_P) (lw L : Nat) (xs : Nat → Int32) (k pc n : Nat) (i : Jvm.ClassFile.Instr) (ls : zi_L) (st : List Value) (w : zi_W) (cn sn : Nat) : Option zi_C := match i, st with
  | .ldc x, r => match zi_pool P k x with
    | some (6, _, _, .int v) => some (pc + n, ls, .int v :: r, w, cn, sn)
    | _ => none
  | .ldc2_w x, r => match zi_pool P k x with
    | some (6, _, _, .long v) => some (pc + n, ls, .long v :: r, w, cn, sn)
    | _ => none
  | .getfield x, .ref a :: r => match zi_pool P k x, zi_get w a with
    | some (0, c, f, _), some (.inr (c', fs)) => if c = c' then zi_push1 fs[f]? pc n ls r w cn sn else none
    | some (8, c, f, _), some (.inr (c', fs)) => if c = c' then zi_push1 fs[f]? pc n ls r w cn sn else none
    | some (9, c, f, _), some (.inr (c', fs)) => if c = c' then zi_push1 fs[f]? pc n ls r w cn sn else none
    | _, _ => none
  | .putfield x, v :: .ref a :: r => match zi_pool P k x, zi_get w a with
    | some (0, c, f, _), some (.inr (c', fs)) => if c = c' ∧ f < fs.length ∧ zi_fit (zi_fty P c f) v = true then some (pc + n, ls, r, w.set a (.inr (c', fs.set f v)), cn, sn) else none
    | some (8, c, f, _), some (.inr (c', fs)) => if c = c' ∧ f < fs.length ∧ zi_fit (zi_fty P c f) v = true then some (pc + n, ls, r, w.set a (.inr (c', fs.set f v)), cn, sn) else none
    | _, _ => none
  | .iaload, .int j :: .ref a :: r =>
    if a = zi_X then (if k = lw ∧ zi_in j L then some (pc + n, ls, .int (xs j.toNatClampNeg) :: r, w, cn, sn) else none)
    else match zi_get w a with
      | some (.inl (0, m, .inl f)) => if zi_in j m then some (pc + n, ls, .int (f j.toNatClampNeg) :: r, w, cn, sn) else none
      | _ => none
  | .baload, .int j :: .ref a :: r => match zi_get w a with
    | some (.inl (1, m, .inl f)) => if zi_in j m then some (pc + n, ls, .int (f j.toNatClampNeg) :: r, w, cn, sn) else none
    | _ => none
  | .laload, .int j :: .ref a :: r => match zi_get w a with
    | some (.inl (2, m, .inr (.inl f))) => if zi_in j m then some (pc + n, ls, .long (f j.toNatClampNeg) :: r, w, cn, sn) else none
    | _ => none
  | .aaload, .int j :: .ref a :: r => match zi_get w a with
    | some (.inl (3, m, .inr (.inr (.inr (.inr f))))) => if zi_in j m then zi_push1 ((f j.toNatClampNeg).map Value.ref) pc n ls r w cn sn else none
    | _ => none
  | .iastore, .int x :: .int j :: .ref a :: r => match zi_get w a with
    | some (.inl (0, m, .inl f)) => if zi_in j m then some (pc + n, ls, r, w.set a (.inl (0, m, .inl (upd f j.toNatClampNeg x))), cn, sn) else none
    | _ => none
  | .bastore, .int x :: .int j :: .ref a :: r => match zi_get w a with
    | some (.inl (1, m, .inl f)) => if zi_in j m ∧ (x = 0 ∨ x = 1) then some (pc + n, ls, r, w.set a (.inl (1, m, .inl (upd f j.toNatClampNeg x))), cn, sn) else none
    | _ => none
  | .lastore, .long x :: .int j :: .ref a :: r => match zi_get w a with
    | some (.inl (2, m, .inr (.inl f))) => if zi_in j m then some (pc + n, ls, r, w.set a (.inl (2, m, .inr (.inl (vp_updL f j.toNatClampNeg x)))), cn, sn) else none
    | _ => none
  | .aastore, .ref v :: .int j :: .ref a :: r => match zi_get w a, zi_get w v with
    | some (.inl (3, m, .inr (.inr (.inr (.inr f))))), some (.inr (ci, _)) => if zi_in j m ∧ ci = 2 then some (pc + n, ls, r, w.set a (.inl (3, m, .inr (.inr (.inr (.inr (va_up f j.toNatClampNeg (some v))))))), cn, sn) else none
    | _, _ => none
  | .arraylength, .ref a :: r =>
    if a = zi_X then (if k = lw then some (pc + n, ls, .int (Int32.ofNat L) :: r, w, cn, sn) else none)
    else match zi_get w a with
      | some (.inl (0, m, .inl _)) => some (pc + n, ls, .int (Int32.ofNat m) :: r, w, cn, sn)
      | _ => none
  | .new x, r => match zi_pool P k x with
    | some (4, c, z, _) => if cn = w.length ∧ w.length < zi_X then some (pc + n, ls, .ref w.length :: r, w ++ [.inr (c, zi_fs0 P c)], cn + 1, sn + z) else none
    | _ => none
  | .newarray .int, .int m :: r => if cn = w.length ∧ w.length < zi_X ∧ ¬ m < 0 ∧ m.toNatClampNeg ≤ 65536 then some (pc + n, ls, .ref w.length :: r, w ++ [.inl (0, m.toNatClampNeg, .inl (fun _ => 0))], cn + 1, sn + m.toNatClampNeg) else none
  | .newarray .boolean, .int m :: r => if cn = w.length ∧ w.length < zi_X ∧ ¬ m < 0 ∧ m.toNatClampNeg ≤ 65536 then some (pc + n, ls, .ref w.length :: r, w ++ [.inl (1, m.toNatClampNeg, .inl (fun _ => 0))], cn + 1, sn + m.toNatClampNeg) else none
  | .newarray .long, .int m :: r => if cn = w.length ∧ w.length < zi_X ∧ ¬ m < 0 ∧ m.toNatClampNeg ≤ 65536 then some (pc + n, ls, .ref w.length :: r, w ++ [.inl (2, m.toNatClampNeg, .inr (.inl (fun _ => 0)))], cn + 1, sn + m.toNatClampNeg) else none
  | .anewarray x, .int m :: r => match zi_pool P k x with
    | some (5, 3, _, _) => if cn = w.length ∧ w.length < zi_X ∧ ¬ m < 0 ∧ m.toNatClampNeg ≤ 65536 then some (pc + n, ls, .ref w.length :: r, w ++ [.inl (3, m.toNatClampNeg, .inr (.inr (.inr (.inr (fun _ => none)))))], cn + 1, sn + m.toNatClampNeg) else none
    | _ => none
  | _, _ => none
/-- members that are steps by themselves: Object(), Math.min, System.arraycopy over ints -/
def zi_pri (P : zi_P) (d q k pc n : Nat) (i : Jvm.ClassFile.Instr) (ls : zi_L) (st : List Value) (w : zi_W) (cn sn : Nat) : Option zi_C := match i, st with
  | .invokespecial x, .ref _ :: r => match zi_pool P k x with
    | some (7, 0, _, _) => if (r.map (fun v => v.category)).sum ≤ 8 ∧ 1 ≤ d ∧ 20 ≤ q then some (pc + n, ls, r, w, cn, sn) else none
    | _ => none
  | .invokestatic x, .int y :: .int z :: r => match zi_pool P k x with
    | some (7, 1, _, _) => if (r.map (fun v => v.category)).sum ≤ 8 ∧ 1 ≤ d ∧ 21 ≤ q then some (pc + n, ls, .int (if y < z then y else z) :: r, w, cn, sn) else none
    | some (7, 2, _, _) => match st with
      | .int m :: .int dp :: .ref a :: .int sp :: .ref a0 :: r => match zi_get w a0, zi_get w a with
        | some (.inl (0, n0, .inl f)), some (.inl (0, n1, .inl g)) =>
          if (r.map (fun v => v.category)).sum ≤ 8 ∧ ¬ sp < 0 ∧ ¬ dp < 0 ∧ ¬ m < 0 ∧ sp.toNatClampNeg + m.toNatClampNeg ≤ n0 ∧ dp.toNatClampNeg + m.toNatClampNeg ≤ n1 ∧ 1 ≤ d ∧ 26 ≤ q then
            some (pc + n, ls, r, w.set a (.inl (0, n1, .inl (va_cpy f g sp.toNatClampNeg dp.toNatClampNeg m.toNatClampNeg))), cn, sn) else none
        | _, _ => none
      | _ => none
    | _ => none
  | _, _ => none
def zi_or (a b : Option zi_C) : Option zi_C := match a with
  | some x => some x
  | none => b
def zi_sim (P : zi_P) (lw L : Nat) (xs : Nat → Int32) (d q k pc n : Nat) (i : Jvm.ClassFile.Instr) (ls : zi_L) (st : List Value) (w : zi_W) (cn sn : Nat) : Option zi_C :=
  zi_or (zi_num pc n i ls st w cn sn) (zi_or (zi_lcl pc n i ls st w cn sn) (zi_or (zi_br pc n i ls st w cn sn) (zi_or (zi_cel P lw L xs k pc n i ls st w cn sn) (zi_pri P d q k pc n i ls st w cn sn))))
/-- a return: what is answered -/
def zi_ret (P : zi_P) (k : Nat) (i : Jvm.ClassFile.Instr) (st : List Value) : Option (Option Value) := match i, st with
  | .return_, [] => if zi_r P k = none then some none else none
  | .ireturn, [.int x] => if zi_r P k = some .int ∨ (zi_r P k = some .boolean ∧ (x = 0 ∨ x = 1)) then some (some (.int x)) else none
  | _, _ => none
/-- a call: method, its arguments in order (the receiver first), what is left of the stack -/
def zi_inv (P : zi_P) (k : Nat) (i : Jvm.ClassFile.Instr) (st : List Value) (w : zi_W) : Option (Nat × List Value × List Value) := match i with
  | .invokevirtual x => match zi_pool P k x with
    | some (1, j, m, .ref ci) => match zi_pop m [] st with
      | some (as, .ref a :: r) => match zi_get w a with
        | some (.inr (c', _)) => if c' = ci ∧ (r.map (fun v => v.category)).sum ≤ 8 then some (j, .ref a :: as, r) else none
        | _ => none
      | _ => none
    | _ => none
  | .invokespecial x => match zi_pool P k x with
    | some (2, j, m, _) => match zi_pop m [] st with
      | some (as, .ref a :: r) => if (r.map (fun v => v.category)).sum ≤ 8 then some (j, .ref a :: as, r) else none
      | _ => none
    | _ => none
  | .invokestatic x => match zi_pool P k x with
    | some (3, j, m, _) => match zi_pop m [] st with
      | some (as, r) => if (r.map (fun v => v.category)).sum ≤ 8 then some (j, as, r) else none
      | _ => none
    | _ => none
  | _ => none
/-- the run: fuel n, room for d frames more, with q words -/
def zi_run (P : zi_P) (lw L : Nat) (xs : Nat → Int32) : Nat → Nat → Nat → Nat → Nat → zi_L → List Value → zi_W → Nat → Nat → Option zi_R
  | 0, _, _, _, _, _, _, _, _, _ => none
  | n + 1, d, q, k, pc, ls, st, w, cn, sn => match zi_thr P k pc with
    | some e => if st = [] ∧ 6 ≤ d ∧ 90 ≤ q then some (.inr e, w, cn + 1, sn + 6) else none
    | none => match zi_code P k pc with
      | none => none
      | some i => match zi_ret P k i st with
        | some r => some (.inl r, w, cn, sn)
        | none => match zi_sim P lw L xs d q k pc (zi_len i) i ls st w cn sn with
          | some (pc', ls', st', w', cn', sn') => if cn ≤ cn' ∧ sn ≤ sn' ∧ ls'.length = ls.length then zi_run P lw L xs n d q k pc' ls' st' w' cn' sn' else none
          | none => match zi_inv P k i st w, d with
            | some (j, as, r), d' + 1 => match zi_ent as (zi_n P j) with
              | none => none
              | some ls' => if 19 + zi_n P j ≤ q then match zi_run P lw L xs n d' (q - (19 + zi_n P j)) j 0 ls' [] w cn sn with
                | some (.inl v, w', cn', sn') => zi_run P lw L xs n d q k (pc + 3) ls (v.toList ++ r) w' cn' sn'
                | some (.inr e, w', cn', sn') => match zi_cat P k pc e with
                  | some x => some (.inl (some (.int x)), w', cn', sn')
                  | none => none
                | none => none
                else none
            | _, _ => none
end
section
/-! The program as the interpreter takes it: classes, methods, code, pools. By program (wip/whole/gen/gen.py). -/
def zp_T0 : u_T := fun k => match k with
  | 0 => ("PatienceTable", "game", "LPatienceTable$Game;", true)
  | 1 => ("PatienceTable", "table", "LPatienceTable$Layout;", true)
  | 2 => ("PatienceTable", "played", "LPatienceTable$Log;", true)
  | 3 => ("PatienceTable", "search", "LPatienceTable$Search;", true)
  | 4 => ("PatienceTable", "rest", "[I", true)
  | _ => ("PatienceTable", "hinted", "I", false)
def zp_T1 : u_T := fun k => match k with
  | 0 => ("PatienceTable$Game", "columns", "I", false)
  | 1 => ("PatienceTable$Game", "cells", "I", false)
  | 2 => ("PatienceTable$Game", "build", "I", false)
  | 3 => ("PatienceTable$Game", "fill", "I", false)
  | 4 => ("PatienceTable$Game", "suits", "I", false)
  | _ => ("PatienceTable$Game", "ranks", "I", false)
def zp_T2 : u_T := fun k => match k with
  | 0 => ("PatienceTable$Layout", "game", "LPatienceTable$Game;", true)
  | 1 => ("PatienceTable$Layout", "beneath", "[I", true)
  | 2 => ("PatienceTable$Layout", "tops", "[I", true)
  | 3 => ("PatienceTable$Layout", "homeRanks", "[I", true)
  | 4 => ("PatienceTable$Layout", "laid", "I", false)
  | _ => ("PatienceTable$Layout", "atHome", "I", false)
def zp_T3 : u_T := fun k => match k with
  | 0 => ("PatienceTable$Log", "lowests", "[I", true)
  | 1 => ("PatienceTable$Log", "sources", "[I", true)
  | 2 => ("PatienceTable$Log", "targets", "[I", true)
  | 3 => ("PatienceTable$Log", "amounts", "[I", true)
  | 4 => ("PatienceTable$Log", "next", "I", false)
  | _ => ("PatienceTable$Log", "count", "I", false)
def zp_T4 : u_T := fun k => match k with
  | 0 => ("PatienceTable$Search", "game", "LPatienceTable$Game;", true)
  | 1 => ("PatienceTable$Search", "found", "[LPatienceTable$Layout;", true)
  | 2 => ("PatienceTable$Search", "hashes", "[I", true)
  | 3 => ("PatienceTable$Search", "firstSteps", "[I", true)
  | 4 => ("PatienceTable$Search", "slots", "[I", true)
  | 5 => ("PatienceTable$Search", "fuel", "I", false)
  | 6 => ("PatienceTable$Search", "count", "I", false)
  | 7 => ("PatienceTable$Search", "hasTooMany", "Z", false)
  | 8 => ("PatienceTable$Search", "firstStep", "I", false)
  | _ => ("PatienceTable$Search", "passed", "I", false)
def zp_T5 : u_T := fun k => match k with
  | 0 => ("PatienceTableModel", "thrown", "I", false)
  | 1 => ("PatienceTableModel", "columns", "I", false)
  | 2 => ("PatienceTableModel", "cells", "I", false)
  | 3 => ("PatienceTableModel", "build", "I", false)
  | 4 => ("PatienceTableModel", "fill", "I", false)
  | 5 => ("PatienceTableModel", "suits", "I", false)
  | 6 => ("PatienceTableModel", "ranks", "I", false)
  | 7 => ("PatienceTableModel", "column", "[I", true)
  | 8 => ("PatienceTableModel", "height", "[I", true)
  | 9 => ("PatienceTableModel", "cell", "[I", true)
  | 10 => ("PatienceTableModel", "home", "[I", true)
  | 11 => ("PatienceTableModel", "lies", "[Z", true)
  | 12 => ("PatienceTableModel", "rest", "[I", true)
  | 13 => ("PatienceTableModel", "logs", "I", false)
  | 14 => ("PatienceTableModel", "log", "[I", true)
  | 15 => ("PatienceTableModel", "hinted", "I", false)
  | 16 => ("PatienceTableModel", "seen", "I", false)
  | 17 => ("PatienceTableModel", "row", "[I", true)
  | 18 => ("PatienceTableModel", "sum", "[I", true)
  | 19 => ("PatienceTableModel", "good", "[Z", true)
  | 20 => ("PatienceTableModel", "begins", "[I", true)
  | 21 => ("PatienceTableModel", "count", "I", false)
  | 22 => ("PatienceTableModel", "depth", "I", false)
  | 23 => ("PatienceTableModel", "more", "Z", false)
  | 24 => ("PatienceTableModel", "won", "Z", false)
  | 25 => ("PatienceTableModel", "homeOf", "[I", true)
  | 26 => ("PatienceTableModel", "taken", "I", false)
  | 27 => ("PatienceTableModel", "grounds", "I", false)
  | _ => ("PatienceTableModel", "covered", "[Z", true)
def zp_cl : List vw_C := [("PatienceTable", zp_T0, 6), ("PatienceTable$Game", zp_T1, 6), ("PatienceTable$Layout", zp_T2, 6), ("PatienceTable$Log", zp_T3, 6), ("PatienceTable$Search", zp_T4, 10), ("PatienceTableModel", zp_T5, 29)]
def zp_fty (c f : Nat) : FieldType := match c with
  | 0 => ([(.object "PatienceTable$Game"), (.object "PatienceTable$Layout"), (.object "PatienceTable$Log"), (.object "PatienceTable$Search"), (.array .int), .int] : List FieldType).getD f .int
  | 1 => ([.int, .int, .int, .int, .int, .int] : List FieldType).getD f .int
  | 2 => ([(.object "PatienceTable$Game"), (.array .int), (.array .int), (.array .int), .int, .int] : List FieldType).getD f .int
  | 3 => ([(.array .int), (.array .int), (.array .int), (.array .int), .int, .int] : List FieldType).getD f .int
  | 4 => ([(.object "PatienceTable$Game"), (.array (.object "PatienceTable$Layout")), (.array .int), (.array .int), (.array .int), .int, .int, .boolean, .int, .int] : List FieldType).getD f .int
  | _ => ([.int, .int, .int, .int, .int, .int, .int, (.array .int), (.array .int), (.array .int), (.array .int), (.array .boolean), (.array .int), .int, (.array .int), .int, .int, (.array .int), (.array .int), (.array .boolean), (.array .int), .int, .int, .boolean, .boolean, (.array .int), .int, .int, (.array .boolean)] : List FieldType).getD f .int
def zp_fs0 (c : Nat) : List Value := match c with
  | 0 => [.null, .null, .null, .null, .null, .int 0]
  | 1 => [.int 0, .int 0, .int 0, .int 0, .int 0, .int 0]
  | 2 => [.null, .null, .null, .null, .int 0, .int 0]
  | 3 => [.null, .null, .null, .null, .int 0, .int 0]
  | 4 => [.null, .null, .null, .null, .null, .int 0, .int 0, .int 0, .int 0, .int 0]
  | _ => [.int 0, .int 0, .int 0, .int 0, .int 0, .int 0, .int 0, .null, .null, .null, .null, .null, .null, .int 0, .null, .int 0, .int 0, .null, .null, .null, .null, .int 0, .int 0, .int 0, .int 0, .null, .int 0, .int 0, .null]
/-- 0: PatienceTableLaw.law([I)Z -/
def zp_l0 : List (Option Jvm.ClassFile.Instr) := [some (.new 8), none, none, some (.dup), some (.invokespecial 42), none, none, some (.astore_n 1), some (.new 43), none, none, some (.dup), some (.invokespecial 45), none, none, some (.astore_n 2), some (.iconst 1), some (.newarray .long), none, some (.astore_n 3), some (.iconst 0), some (.istore 4), none, some (.iload 4), none, some (.aload_n 0), some (.arraylength), some (.iconst 5), some (.isub), some (.if_icmp .gt (740)), none, none, some (.aload_n 0), some (.iload 4), none, some (.iaload), some (.bipush (15)), none, some (.iand), some (.tableswitch (724) (0) (15) #[(77), (138), (175), (211), (222), (290), (370), (442), (486), (530), (543), (580), (605), (642), (698), (711)]), none, none, none, none, none, none, none, none, none, none, none, none, none, none, none, none, none, none, none, none, none, none, none, none, none, none, none, none, none, none, none, none, none, none, none, none, none, none, none, none, none, none, none, none, none, none, none, none, none, none, none, none, none, none, none, none, none, none, none, none, none, none, none, none, none, none, none, none, none, none, none, none, none, none, none, none, some (.aload_n 1), some (.aload_n 0), some (.iload 4), none, some (.iconst 1), some (.iadd), some (.iaload), some (.aload_n 0), some (.iload 4), none, some (.iconst 2), some (.iadd), some (.iaload), some (.aload_n 0), some (.iload 4), none, some (.iconst 3), some (.iadd), some (.iaload), some (.aload_n 0), some (.iload 4), none, some (.iconst 4), some (.iadd), some (.iaload), some (.invokevirtual 46), none, none, some (.aload_n 2), some (.aload_n 0), some (.iload 4), none, some (.iconst 1), some (.iadd), some (.iaload), some (.aload_n 0), some (.iload 4), none, some (.iconst 2), some (.iadd), some (.iaload), some (.aload_n 0), some (.iload 4), none, some (.iconst 3), some (.iadd), some (.iaload), some (.aload_n 0), some (.iload 4), none, some (.iconst 4), some (.iadd), some (.iaload), some (.invokevirtual 50), none, none, some (.if_icmp .eq (591)), none, none, some (.iconst 0), some (.ireturn), some (.aload_n 1), some (.aload_n 0), some (.iload 4), none, some (.iconst 1), some (.iadd), some (.iaload), some (.aload_n 0), some (.iload 4), none, some (.iconst 2), some (.iadd), some (.iaload), some (.invokevirtual 51), none, none, some (.aload_n 2), some (.aload_n 0), some (.iload 4), none, some (.iconst 1), some (.iadd), some (.iaload), some (.aload_n 0), some (.iload 4), none, some (.iconst 2), some (.iadd), some (.iaload), some (.invokevirtual 55), none, none, some (.if_icmp .eq (554)), none, none, some (.iconst 0), some (.ireturn), some (.aload_n 1), some (.aload_n 0), some (.iload 4), none, some (.iconst 1), some (.iadd), some (.iaload), some (.invokestatic 56), none, none, some (.istore 5), none, some (.aload_n 2), some (.aload_n 0), some (.iload 4), none, some (.iconst 1), some (.iadd), some (.iaload), some (.invokevirtual 61), none, none, some (.aload_n 2), some (.invokevirtual 62), none, none, some (.iload 5), none, some (.if_icmp .eq (5)), none, none, some (.iconst 0), some (.ireturn), some (.goto (516)), none, none, some (.aload_n 1), some (.invokevirtual 65), none, none, some (.aload_n 2), some (.invokevirtual 68), none, none, some (.goto (505)), none, none, some (.aload_n 1), some (.aload_n 0), some (.iload 4), none, some (.iconst 1), some (.iadd), some (.iaload), some (.aload_n 0), some (.iload 4), none, some (.iconst 2), some (.iadd), some (.iaload), some (.aload_n 3), some (.invokestatic 69), none, none, some (.istore 5), none, some (.aload_n 2), some (.aload_n 0), some (.iload 4), none, some (.iconst 1), some (.iadd), some (.iaload), some (.aload_n 0), some (.iload 4), none, some (.iconst 2), some (.iadd), some (.iaload), some (.invokevirtual 72), none, none, some (.istore 6), none, some (.aload_n 2), some (.invokevirtual 62), none, none, some (.iload 5), none, some (.if_icmp .eq (5)), none, none, some (.iconst 0), some (.ireturn), some (.iload 5), none, some (.ifCond .ne (15)), none, none, some (.aload_n 3), some (.iconst 0), some (.laload), some (.iload 6), none, some (.i2l), some (.lcmp), some (.ifCond .eq (5)), none, none, some (.iconst 0), some (.ireturn), some (.goto (437)), none, none, some (.aload_n 1), some (.aload_n 0), some (.iload 4), none, some (.iconst 1), some (.iadd), some (.iaload), some (.aload_n 0), some (.iload 4), none, some (.iconst 2), some (.iadd), some (.iaload), some (.aload_n 0), some (.iload 4), none, some (.iconst 3), some (.iadd), some (.iaload), some (.aload_n 3), some (.invokestatic 73), none, none, some (.istore 5), none, some (.aload_n 2), some (.aload_n 0), some (.iload 4), none, some (.iconst 1), some (.iadd), some (.iaload), some (.aload_n 0), some (.iload 4), none, some (.iconst 2), some (.iadd), some (.iaload), some (.aload_n 0), some (.iload 4), none, some (.iconst 3), some (.iadd), some (.iaload), some (.invokevirtual 76), none, none, some (.istore 6), none, some (.aload_n 2), some (.invokevirtual 62), none, none, some (.iload 5), none, some (.if_icmp .eq (5)), none, none, some (.iconst 0), some (.ireturn), some (.iload 5), none, some (.ifCond .ne (15)), none, none, some (.aload_n 3), some (.iconst 0), some (.laload), some (.iload 6), none, some (.i2l), some (.lcmp), some (.ifCond .eq (5)), none, none, some (.iconst 0), some (.ireturn), some (.goto (357)), none, none, some (.aload_n 1), some (.aload_n 0), some (.iload 4), none, some (.iconst 1), some (.iadd), some (.iaload), some (.i2c), some (.aload_n 0), some (.iload 4), none, some (.iconst 2), some (.iadd), some (.iaload), some (.i2c), some (.aload_n 3), some (.invokestatic 77), none, none, some (.istore 5), none, some (.aload_n 2), some (.aload_n 0), some (.iload 4), none, some (.iconst 1), some (.iadd), some (.iaload), some (.i2c), some (.aload_n 0), some (.iload 4), none, some (.iconst 2), some (.iadd), some (.iaload), some (.i2c), some (.invokevirtual 80), none, none, some (.istore 6), none, some (.aload_n 2), some (.invokevirtual 62), none, none, some (.iload 5), none, some (.if_icmp .eq (5)), none, none, some (.iconst 0), some (.ireturn), some (.iload 5), none, some (.ifCond .ne (15)), none, none, some (.aload_n 3), some (.iconst 0), some (.laload), some (.iload 6), none, some (.i2l), some (.lcmp), some (.ifCond .eq (5)), none, none, some (.iconst 0), some (.ireturn), some (.goto (285)), none, none, some (.aload_n 1), some (.aload_n 3), some (.invokestatic 81), none, none, some (.istore 5), none, some (.aload_n 2), some (.invokevirtual 84), none, none, some (.istore 6), none, some (.aload_n 2), some (.invokevirtual 62), none, none, some (.iload 5), none, some (.if_icmp .eq (5)), none, none, some (.iconst 0), some (.ireturn), some (.iload 5), none, some (.ifCond .ne (15)), none, none, some (.aload_n 3), some (.iconst 0), some (.laload), some (.iload 6), none, some (.i2l), some (.lcmp), some (.ifCond .eq (5)), none, none, some (.iconst 0), some (.ireturn), some (.goto (241)), none, none, some (.aload_n 1), some (.aload_n 3), some (.invokestatic 85), none, none, some (.istore 5), none, some (.aload_n 2), some (.invokevirtual 87), none, none, some (.istore 6), none, some (.aload_n 2), some (.invokevirtual 62), none, none, some (.iload 5), none, some (.if_icmp .eq (5)), none, none, some (.iconst 0), some (.ireturn), some (.iload 5), none, some (.ifCond .ne (15)), none, none, some (.aload_n 3), some (.iconst 0), some (.laload), some (.iload 6), none, some (.i2l), some (.lcmp), some (.ifCond .eq (5)), none, none, some (.iconst 0), some (.ireturn), some (.goto (197)), none, none, some (.aload_n 1), some (.invokevirtual 88), none, none, some (.aload_n 2), some (.invokevirtual 91), none, none, some (.if_icmp .eq (186)), none, none, some (.iconst 0), some (.ireturn), some (.aload_n 1), some (.aload_n 0), some (.iload 4), none, some (.iconst 1), some (.iadd), some (.iaload), some (.aload_n 0), some (.iload 4), none, some (.iconst 2), some (.iadd), some (.iaload), some (.invokevirtual 92), none, none, some (.aload_n 2), some (.aload_n 0), some (.iload 4), none, some (.iconst 1), some (.iadd), some (.iaload), some (.aload_n 0), some (.iload 4), none, some (.iconst 2), some (.iadd), some (.iaload), some (.invokevirtual 95), none, none, some (.if_icmp .eq (149)), none, none, some (.iconst 0), some (.ireturn), some (.aload_n 1), some (.aload_n 0), some (.iload 4), none, some (.iconst 1), some (.iadd), some (.iaload), some (.invokevirtual 96), none, none, some (.aload_n 2), some (.aload_n 0), some (.iload 4), none, some (.iconst 1), some (.iadd), some (.iaload), some (.invokevirtual 99), none, none, some (.if_icmp .eq (124)), none, none, some (.iconst 0), some (.ireturn), some (.aload_n 1), some (.aload_n 0), some (.iload 4), none, some (.iconst 1), some (.iadd), some (.iaload), some (.aload_n 0), some (.iload 4), none, some (.iconst 2), some (.iadd), some (.iaload), some (.invokevirtual 100), none, none, some (.aload_n 2), some (.aload_n 0), some (.iload 4), none, some (.iconst 1), some (.iadd), some (.iaload), some (.aload_n 0), some (.iload 4), none, some (.iconst 2), some (.iadd), some (.iaload), some (.invokevirtual 103), none, none, some (.if_icmp .eq (87)), none, none, some (.iconst 0), some (.ireturn), some (.aload_n 1), some (.aload_n 0), some (.iload 4), none, some (.iconst 1), some (.iadd), some (.iaload), some (.aload_n 3), some (.invokestatic 104), none, none, some (.istore 5), none, some (.aload_n 2), some (.aload_n 0), some (.iload 4), none, some (.iconst 1), some (.iadd), some (.iaload), some (.invokevirtual 107), none, none, some (.istore 6), none, some (.aload_n 2), some (.invokevirtual 62), none, none, some (.iload 5), none, some (.if_icmp .eq (5)), none, none, some (.iconst 0), some (.ireturn), some (.iload 5), none, some (.ifCond .ne (15)), none, none, some (.aload_n 3), some (.iconst 0), some (.laload), some (.iload 6), none, some (.i2l), some (.lcmp), some (.ifCond .eq (5)), none, none, some (.iconst 0), some (.ireturn), some (.goto (29)), none, none, some (.aload_n 1), some (.invokevirtual 108), none, none, some (.aload_n 2), some (.invokevirtual 111), none, none, some (.if_icmp .eq (18)), none, none, some (.iconst 0), some (.ireturn), some (.aload_n 1), some (.invokevirtual 112), none, none, some (.aload_n 2), some (.invokevirtual 115), none, none, some (.if_icmp .eq (5)), none, none, some (.iconst 0), some (.ireturn), some (.iinc 4 (5)), none, none, some (.goto (-743)), none, none, some (.iconst 1), some (.ireturn)]
def zp_p0 : List (Nat × zi_T × List Nat) := [(8, (4, 0, 6, .null), [69, 70, 54]), (42, (2, 8, 0, .null), [71, 54, 73, 72]), (43, (4, 5, 29, .null), [645, 646, 60]), (45, (2, 76, 0, .null), [647, 60, 649, 648]), (46, (1, 9, 4, .ref 0), [242, 54, 245, 243, 244]), (50, (1, 87, 4, .ref 5), [748, 60, 751, 749, 750]), (51, (1, 10, 2, .ref 0), [258, 54, 261, 259, 260]), (55, (1, 88, 2, .ref 5), [755, 60, 758, 756, 757]), (56, (3, 1, 2, .null), [381, 53, 383, 382]), (61, (1, 91, 1, .ref 5), [763, 60, 766, 764, 765]), (62, (1, 77, 0, .ref 5), [744, 60, 747, 745, 746]), (65, (1, 12, 0, .ref 0), [262, 54, 252, 250, 251]), (68, (1, 89, 0, .ref 5), [759, 60, 762, 760, 761]), (69, (3, 2, 4, .null), [466, 53, 468, 467]), (72, (1, 93, 2, .ref 5), [779, 60, 782, 780, 781]), (73, (3, 3, 5, .null), [500, 53, 502, 501]), (76, (1, 107, 3, .ref 5), [791, 60, 794, 792, 793]), (77, (3, 4, 4, .null), [529, 53, 531, 530]), (80, (1, 110, 2, .ref 5), [866, 60, 869, 867, 868]), (81, (3, 5, 2, .null), [539, 53, 541, 540]), (84, (1, 113, 0, .ref 5), [878, 60, 881, 879, 880]), (85, (3, 6, 2, .null), [560, 53, 562, 561]), (87, (1, 114, 0, .ref 5), [890, 60, 893, 891, 892]), (88, (1, 18, 0, .ref 0), [263, 54, 266, 264, 265]), (91, (1, 115, 0, .ref 5), [894, 60, 897, 895, 896]), (92, (1, 19, 2, .ref 0), [267, 54, 270, 268, 269]), (95, (1, 116, 2, .ref 5), [898, 60, 901, 899, 900]), (96, (1, 20, 1, .ref 0), [295, 54, 298, 296, 297]), (99, (1, 117, 1, .ref 5), [902, 60, 905, 903, 904]), (100, (1, 21, 2, .ref 0), [299, 54, 302, 300, 301]), (103, (1, 118, 2, .ref 5), [906, 60, 909, 907, 908]), (104, (3, 7, 3, .null), [588, 53, 590, 589]), (107, (1, 131, 1, .ref 5), [910, 60, 913, 911, 912]), (108, (1, 23, 0, .ref 0), [373, 54, 376, 374, 375]), (111, (1, 132, 0, .ref 5), [961, 60, 964, 962, 963]), (112, (1, 24, 0, .ref 0), [377, 54, 380, 378, 379]), (115, (1, 133, 0, .ref 5), [965, 60, 968, 966, 967])]
/-- 1: PatienceTableLaw.deal(LPatienceTable;I)I -/
def zp_l1 : List (Option Jvm.ClassFile.Instr) := [some (.aload_n 0), some (.iload_n 1), some (.invokevirtual 7), none, none, some (.goto (6)), none, none, some (.astore_n 2), some (.iconst 1), some (.ireturn), some (.iconst 0), some (.ireturn)]
def zp_p1 : List (Nat × zi_T × List Nat) := [(7, (1, 11, 1, .ref 0), [385, 54, 388, 386, 387])]
/-- 2: PatienceTableLaw.lay(LPatienceTable;II[J)I -/
def zp_l2 : List (Option Jvm.ClassFile.Instr) := [some (.aload_n 3), some (.iconst 0), some (.aload_n 0), some (.iload_n 1), some (.iload_n 2), some (.invokevirtual 15), none, none, some (.i2l), some (.lastore), some (.goto (11)), none, none, some (.astore 4), none, some (.iconst 1), some (.ireturn), some (.astore 4), none, some (.iconst 2), some (.ireturn), some (.iconst 0), some (.ireturn)]
def zp_p2 : List (Nat × zi_T × List Nat) := [(15, (1, 13, 2, .ref 0), [470, 54, 473, 471, 472])]
/-- 3: PatienceTableLaw.move(LPatienceTable;III[J)I -/
def zp_l3 : List (Option Jvm.ClassFile.Instr) := [some (.aload 4), none, some (.iconst 0), some (.aload_n 0), some (.iload_n 1), some (.iload_n 2), some (.iload_n 3), some (.invokevirtual 21), none, none, some (.i2l), some (.lastore), some (.goto (11)), none, none, some (.astore 5), none, some (.iconst 1), some (.ireturn), some (.astore 5), none, some (.iconst 2), some (.ireturn), some (.iconst 0), some (.ireturn)]
def zp_p3 : List (Nat × zi_T × List Nat) := [(21, (1, 14, 3, .ref 0), [503, 54, 506, 504, 505])]
/-- 4: PatienceTableLaw.play(LPatienceTable;CC[J)I -/
def zp_l4 : List (Option Jvm.ClassFile.Instr) := [some (.aload_n 3), some (.iconst 0), some (.aload_n 0), some (.iload_n 1), some (.iload_n 2), some (.invokevirtual 25), none, none, some (.i2l), some (.lastore), some (.goto (11)), none, none, some (.astore 4), none, some (.iconst 1), some (.ireturn), some (.astore 4), none, some (.iconst 2), some (.ireturn), some (.iconst 0), some (.ireturn)]
def zp_p4 : List (Nat × zi_T × List Nat) := [(25, (1, 15, 2, .ref 0), [532, 54, 535, 533, 534])]
/-- 5: PatienceTableLaw.sendHome(LPatienceTable;[J)I -/
def zp_l5 : List (Option Jvm.ClassFile.Instr) := [some (.aload_n 1), some (.iconst 0), some (.aload_n 0), some (.invokevirtual 29), none, none, some (.i2l), some (.lastore), some (.goto (6)), none, none, some (.astore_n 2), some (.iconst 1), some (.ireturn), some (.iconst 0), some (.ireturn)]
def zp_p5 : List (Nat × zi_T × List Nat) := [(29, (1, 16, 0, .ref 0), [542, 54, 545, 543, 544])]
/-- 6: PatienceTableLaw.undo(LPatienceTable;[J)I -/
def zp_l6 : List (Option Jvm.ClassFile.Instr) := [some (.aload_n 1), some (.iconst 0), some (.aload_n 0), some (.invokevirtual 33), none, none, some (.i2l), some (.lastore), some (.goto (6)), none, none, some (.astore_n 2), some (.iconst 1), some (.ireturn), some (.iconst 0), some (.ireturn)]
def zp_p6 : List (Nat × zi_T × List Nat) := [(33, (1, 17, 0, .ref 0), [564, 54, 567, 565, 566])]
/-- 7: PatienceTableLaw.look(LPatienceTable;I[J)I -/
def zp_l7 : List (Option Jvm.ClassFile.Instr) := [some (.aload_n 2), some (.iconst 0), some (.aload_n 0), some (.iload_n 1), some (.invokevirtual 38), none, none, some (.i2l), some (.lastore), some (.goto (9)), none, none, some (.astore_n 3), some (.iconst 1), some (.ireturn), some (.astore_n 3), some (.iconst 2), some (.ireturn), some (.iconst 0), some (.ireturn)]
def zp_p7 : List (Nat × zi_T × List Nat) := [(38, (1, 22, 1, .ref 0), [591, 54, 594, 592, 593])]
/-- 8: PatienceTable.<init>()V -/
def zp_l8 : List (Option Jvm.ClassFile.Instr) := [some (.aload_n 0), some (.invokespecial 1), none, none, some (.aload_n 0), some (.new 7), none, none, some (.dup), some (.invokespecial 9), none, none, some (.putfield 10), none, none, some (.aload_n 0), some (.new 16), none, none, some (.dup), some (.aload_n 0), some (.getfield 10), none, none, some (.invokespecial 18), none, none, some (.putfield 21), none, none, some (.aload_n 0), some (.new 25), none, none, some (.dup), some (.invokespecial 27), none, none, some (.putfield 28), none, none, some (.aload_n 0), some (.new 32), none, none, some (.dup), some (.aload_n 0), some (.getfield 10), none, none, some (.invokespecial 34), none, none, some (.putfield 35), none, none, some (.aload_n 0), some (.bipush (52)), none, some (.newarray .int), none, some (.putfield 39), none, none, some (.aload_n 0), some (.iconst (-1)), some (.putfield 43), none, none, some (.return_)]
def zp_p8 : List (Nat × zi_T × List Nat) := [(1, (7, 0, 0, .null), [74, 75, 76]), (7, (4, 1, 6, .null), [77, 78, 55]), (9, (2, 28, 0, .null), [79, 55, 81, 80]), (10, (8, 0, 0, .null), [223]), (16, (4, 2, 6, .null), [113, 114, 56]), (18, (2, 39, 1, .null), [115, 56, 117, 116]), (21, (8, 0, 1, .null), [224]), (25, (4, 3, 6, .null), [151, 152, 58]), (27, (2, 63, 0, .null), [153, 58, 155, 154]), (28, (8, 0, 2, .null), [225]), (32, (4, 4, 10, .null), [181, 182, 59]), (34, (2, 67, 1, .null), [183, 59, 185, 184]), (35, (8, 0, 3, .null), [226]), (39, (8, 0, 4, .null), [227]), (43, (0, 0, 5, .null), [228])]
/-- 9: PatienceTable.rules(IIII)Z -/
def zp_l9 : List (Option Jvm.ClassFile.Instr) := [some (.iload_n 1), some (.iconst 2), some (.bipush (8)), none, some (.invokestatic 47), none, none, some (.ifCond .eq (35)), none, none, some (.iload_n 2), some (.iconst 0), some (.iconst 4), some (.invokestatic 47), none, none, some (.ifCond .eq (26)), none, none, some (.iload_n 3), some (.iconst 0), some (.iconst 2), some (.invokestatic 47), none, none, some (.ifCond .eq (17)), none, none, some (.iload 4), none, some (.iconst 0), some (.iconst 2), some (.invokestatic 47), none, none, some (.ifCond .eq (7)), none, none, some (.iconst 1), some (.goto (4)), none, none, some (.iconst 0), some (.istore 5), none, some (.iload 5), none, some (.ifCond .ne (5)), none, none, some (.iconst 0), some (.ireturn), some (.aload_n 0), some (.getfield 10), none, none, some (.iload_n 1), some (.putfield 51), none, none, some (.aload_n 0), some (.getfield 10), none, none, some (.iload_n 2), some (.putfield 54), none, none, some (.aload_n 0), some (.getfield 10), none, none, some (.iload_n 3), some (.putfield 57), none, none, some (.aload_n 0), some (.getfield 10), none, none, some (.iload 4), none, some (.putfield 60), none, none, some (.aload_n 0), some (.invokevirtual 63), none, none, some (.iconst 1), some (.ireturn)]
def zp_p9 : List (Nat × zi_T × List Nat) := [(10, (9, 0, 0, .null), [223]), (47, (3, 25, 3, .null), [246, 54, 248, 247]), (51, (0, 1, 0, .null), [84]), (54, (0, 1, 1, .null), [87]), (57, (0, 1, 2, .null), [90]), (60, (0, 1, 3, .null), [93]), (63, (1, 12, 0, .ref 0), [249, 54, 252, 250, 251])]
/-- 10: PatienceTable.cards(II)Z -/
def zp_l10 : List (Option Jvm.ClassFile.Instr) := [some (.iload_n 1), some (.iconst 1), some (.iconst 4), some (.invokestatic 47), none, none, some (.ifCond .eq (13)), none, none, some (.iload_n 2), some (.iconst 1), some (.bipush (13)), none, some (.invokestatic 47), none, none, some (.ifCond .ne (5)), none, none, some (.iconst 0), some (.ireturn), some (.aload_n 0), some (.getfield 10), none, none, some (.iload_n 1), some (.putfield 66), none, none, some (.aload_n 0), some (.getfield 10), none, none, some (.iload_n 2), some (.putfield 69), none, none, some (.aload_n 0), some (.invokevirtual 63), none, none, some (.iconst 1), some (.ireturn)]
def zp_p10 : List (Nat × zi_T × List Nat) := [(10, (9, 0, 0, .null), [223]), (47, (3, 25, 3, .null), [246, 54, 248, 247]), (63, (1, 12, 0, .ref 0), [249, 54, 252, 250, 251]), (66, (0, 1, 4, .null), [96]), (69, (0, 1, 5, .null), [99])]
/-- 11: PatienceTable.deal(I)V -/
def zp_l11 : List (Option Jvm.ClassFile.Instr) := [some (.iload_n 1), some (.iconst 0), some (.sipush (32000)), none, none, some (.invokestatic 47), none, none, some (.ifCond .ne (13)), none, none, some (.new 72), none, none, some (.dup), some (.ldc 74), none, some (.invokespecial 76), none, none, some (.athrow), some (.aload_n 0), some (.invokevirtual 63), none, none, some (.aload_n 0), some (.getfield 10), none, none, some (.invokevirtual 79), none, none, some (.istore_n 2), some (.iconst 0), some (.istore_n 3), some (.iload_n 3), some (.iload_n 2), some (.if_icmp .ge (16)), none, none, some (.aload_n 0), some (.getfield 39), none, none, some (.iload_n 3), some (.iload_n 3), some (.iastore), some (.iinc 3 (1)), none, none, some (.goto (-15)), none, none, some (.iload_n 1), some (.istore_n 3), some (.iconst 0), some (.istore 4), none, some (.iload 4), none, some (.iload_n 2), some (.if_icmp .ge (75)), none, none, some (.iload_n 2), some (.iload 4), none, some (.isub), some (.istore 5), none, some (.ldc 83), none, some (.iload_n 3), some (.imul), some (.ldc 84), none, some (.iadd), some (.ldc 85), none, some (.iand), some (.istore_n 3), some (.iload_n 3), some (.ldc 86), none, some (.idiv), some (.iload 5), none, some (.irem), some (.istore 6), none, some (.aload_n 0), some (.getfield 21), none, none, some (.iload 4), none, some (.aload_n 0), some (.getfield 10), none, none, some (.getfield 51), none, none, some (.irem), some (.aload_n 0), some (.getfield 39), none, none, some (.iload 6), none, some (.iaload), some (.invokevirtual 87), none, none, some (.aload_n 0), some (.getfield 39), none, none, some (.iload 6), none, some (.aload_n 0), some (.getfield 39), none, none, some (.iload 5), none, some (.iconst 1), some (.isub), some (.iaload), some (.iastore), some (.iinc 4 (1)), none, none, some (.goto (-75)), none, none, some (.return_)]
def zp_p11 : List (Nat × zi_T × List Nat) := [(10, (9, 0, 0, .null), [223]), (21, (9, 0, 1, .null), [224]), (39, (9, 0, 4, .null), [227]), (47, (3, 25, 3, .null), [246, 54, 248, 247]), (51, (0, 1, 0, .null), [84]), (63, (1, 12, 0, .ref 0), [249, 54, 252, 250, 251]), (79, (1, 32, 0, .ref 1), [457, 55, 311, 309, 310]), (83, (6, 0, 0, .int (214013)), [458]), (84, (6, 0, 0, .int (2531011)), [459]), (85, (6, 0, 0, .int (2147483647)), [460]), (86, (6, 0, 0, .int (65536)), [461]), (87, (1, 45, 2, .ref 2), [462, 56, 465, 463, 464])]
/-- 12: PatienceTable.clear()V -/
def zp_l12 : List (Option Jvm.ClassFile.Instr) := [some (.aload_n 0), some (.getfield 21), none, none, some (.invokevirtual 91), none, none, some (.aload_n 0), some (.getfield 28), none, none, some (.invokevirtual 94), none, none, some (.aload_n 0), some (.iconst (-1)), some (.putfield 43), none, none, some (.return_)]
def zp_p12 : List (Nat × zi_T × List Nat) := [(21, (9, 0, 1, .null), [224]), (28, (9, 0, 2, .null), [225]), (43, (0, 0, 5, .null), [228]), (91, (1, 40, 0, .ref 2), [253, 56, 122, 120, 121]), (94, (1, 64, 0, .ref 3), [254, 58, 257, 255, 256])]
/-- 13: PatienceTable.lay(II)I -/
def zp_l13 : List (Option Jvm.ClassFile.Instr) := [some (.aload_n 0), some (.getfield 10), none, none, some (.iload_n 1), some (.invokevirtual 97), none, none, some (.ifCond .eq (14)), none, none, some (.aload_n 0), some (.getfield 10), none, none, some (.iload_n 2), some (.invokevirtual 101), none, none, some (.ifCond .ne (13)), none, none, some (.new 72), none, none, some (.dup), some (.ldc 104), none, some (.invokespecial 76), none, none, some (.athrow), some (.aload_n 0), some (.getfield 21), none, none, some (.iload_n 2), some (.invokevirtual 106), none, none, some (.ifCond .eq (13)), none, none, some (.new 109), none, none, some (.dup), some (.ldc 111), none, some (.invokespecial 113), none, none, some (.athrow), some (.aload_n 0), some (.getfield 21), none, none, some (.iload_n 1), some (.iload_n 2), some (.invokevirtual 87), none, none, some (.aload_n 0), some (.iconst (-1)), some (.putfield 43), none, none, some (.aload_n 0), some (.getfield 21), none, none, some (.getfield 114), none, none, some (.ireturn)]
def zp_p13 : List (Nat × zi_T × List Nat) := [(10, (9, 0, 0, .null), [223]), (21, (9, 0, 1, .null), [224]), (43, (0, 0, 5, .null), [228]), (87, (1, 45, 2, .ref 2), [462, 56, 465, 463, 464]), (97, (1, 29, 1, .ref 1), [303, 55, 278, 276, 277]), (101, (1, 33, 1, .ref 1), [474, 55, 477, 475, 476]), (106, (1, 42, 1, .ref 2), [480, 56, 483, 481, 482]), (114, (0, 2, 4, .null), [133])]
/-- 14: PatienceTable.move(III)I -/
def zp_l14 : List (Option Jvm.ClassFile.Instr) := [some (.aload_n 0), some (.getfield 10), none, none, some (.iload_n 1), some (.invokevirtual 117), none, none, some (.ifCond .eq (25)), none, none, some (.aload_n 0), some (.getfield 10), none, none, some (.iload_n 2), some (.invokevirtual 117), none, none, some (.ifCond .eq (14)), none, none, some (.iload_n 1), some (.bipush (12)), none, some (.if_icmp .eq (8)), none, none, some (.iload_n 3), some (.iconst 1), some (.if_icmp .ge (13)), none, none, some (.new 72), none, none, some (.dup), some (.ldc 120), none, some (.invokespecial 76), none, none, some (.athrow), some (.aload_n 0), some (.getfield 21), none, none, some (.invokevirtual 122), none, none, some (.ifCond .eq (16)), none, none, some (.aload_n 0), some (.getfield 21), none, none, some (.iload_n 1), some (.iload_n 2), some (.iload_n 3), some (.invokevirtual 126), none, none, some (.ifCond .ne (13)), none, none, some (.new 109), none, none, some (.dup), some (.ldc 129), none, some (.invokespecial 113), none, none, some (.athrow), some (.aload_n 0), some (.iload_n 1), some (.iload_n 2), some (.iload_n 3), some (.invokevirtual 131), none, none, some (.aload_n 0), some (.getfield 21), none, none, some (.getfield 135), none, none, some (.ireturn)]
def zp_p14 : List (Nat × zi_T × List Nat) := [(10, (9, 0, 0, .null), [223]), (21, (9, 0, 1, .null), [224]), (117, (1, 31, 1, .ref 1), [271, 55, 274, 272, 273]), (122, (1, 43, 0, .ref 2), [304, 56, 307, 305, 306]), (126, (1, 49, 3, .ref 2), [508, 56, 339, 337, 338]), (131, (1, 27, 3, .ref 0), [510, 54, 513, 512, 7]), (135, (0, 2, 5, .null), [136])]
/-- 15: PatienceTable.play(CC)I -/
def zp_l15 : List (Option Jvm.ClassFile.Instr) := [some (.iload_n 1), some (.invokestatic 138), none, none, some (.istore_n 3), some (.iload_n 2), some (.invokestatic 138), none, none, some (.istore 4), none, some (.aload_n 0), some (.getfield 10), none, none, some (.iload_n 3), some (.invokevirtual 117), none, none, some (.ifCond .eq (21)), none, none, some (.aload_n 0), some (.getfield 10), none, none, some (.iload 4), none, some (.invokevirtual 117), none, none, some (.ifCond .eq (9)), none, none, some (.iload_n 3), some (.bipush (12)), none, some (.if_icmp .ne (13)), none, none, some (.new 72), none, none, some (.dup), some (.ldc 120), none, some (.invokespecial 76), none, none, some (.athrow), some (.aload_n 0), some (.getfield 10), none, none, some (.iload_n 3), some (.invokevirtual 97), none, none, some (.ifCond .eq (28)), none, none, some (.aload_n 0), some (.getfield 10), none, none, some (.iload 4), none, some (.invokevirtual 97), none, none, some (.ifCond .eq (16)), none, none, some (.aload_n 0), some (.getfield 21), none, none, some (.iload_n 3), some (.iload 4), none, some (.invokevirtual 142), none, none, some (.goto (4)), none, none, some (.iconst 1), some (.istore 5), none, some (.aload_n 0), some (.getfield 21), none, none, some (.invokevirtual 122), none, none, some (.ifCond .eq (18)), none, none, some (.aload_n 0), some (.getfield 21), none, none, some (.iload_n 3), some (.iload 4), none, some (.iload 5), none, some (.invokevirtual 126), none, none, some (.ifCond .ne (13)), none, none, some (.new 109), none, none, some (.dup), some (.ldc 129), none, some (.invokespecial 113), none, none, some (.athrow), some (.aload_n 0), some (.iload_n 3), some (.iload 4), none, some (.iload 5), none, some (.invokevirtual 131), none, none, some (.iload 5), none, some (.ireturn)]
def zp_p15 : List (Nat × zi_T × List Nat) := [(10, (9, 0, 0, .null), [223]), (21, (9, 0, 1, .null), [224]), (97, (1, 29, 1, .ref 1), [303, 55, 278, 276, 277]), (117, (1, 31, 1, .ref 1), [271, 55, 274, 272, 273]), (122, (1, 43, 0, .ref 2), [304, 56, 307, 305, 306]), (126, (1, 49, 3, .ref 2), [508, 56, 339, 337, 338]), (131, (1, 27, 3, .ref 0), [510, 54, 513, 512, 7]), (138, (3, 26, 1, .null), [536, 54, 538, 537]), (142, (1, 56, 2, .ref 2), [312, 56, 315, 313, 314])]
/-- 16: PatienceTable.sendHome()I -/
def zp_l16 : List (Option Jvm.ClassFile.Instr) := [some (.aload_n 0), some (.getfield 21), none, none, some (.invokevirtual 122), none, none, some (.ifCond .ne (13)), none, none, some (.new 109), none, none, some (.dup), some (.ldc 146), none, some (.invokespecial 113), none, none, some (.athrow), some (.iconst 0), some (.istore_n 1), some (.iload_n 1), some (.bipush (52)), none, some (.if_icmp .ge (32)), none, none, some (.aload_n 0), some (.getfield 21), none, none, some (.invokevirtual 148), none, none, some (.istore_n 2), some (.iload_n 2), some (.iconst (-1)), some (.if_icmp .ne (5)), none, none, some (.iload_n 1), some (.ireturn), some (.aload_n 0), some (.iload_n 2), some (.bipush (12)), none, some (.iconst 1), some (.invokevirtual 131), none, none, some (.iinc 1 (1)), none, none, some (.goto (-32)), none, none, some (.bipush (52)), none, some (.ireturn)]
def zp_p16 : List (Nat × zi_T × List Nat) := [(21, (9, 0, 1, .null), [224]), (122, (1, 43, 0, .ref 2), [304, 56, 307, 305, 306]), (131, (1, 27, 3, .ref 0), [510, 54, 513, 512, 7]), (148, (1, 58, 0, .ref 2), [547, 56, 550, 548, 549])]
/-- 17: PatienceTable.undo()I -/
def zp_l17 : List (Option Jvm.ClassFile.Instr) := [some (.aload_n 0), some (.getfield 28), none, none, some (.getfield 151), none, none, some (.ifCond .ne (13)), none, none, some (.new 154), none, none, some (.dup), some (.ldc 156), none, some (.invokespecial 158), none, none, some (.athrow), some (.aload_n 0), some (.getfield 28), none, none, some (.invokevirtual 159), none, none, some (.istore_n 1), some (.aload_n 0), some (.getfield 21), none, none, some (.aload_n 0), some (.getfield 28), none, none, some (.getfield 162), none, none, some (.iload_n 1), some (.iaload), some (.aload_n 0), some (.getfield 28), none, none, some (.getfield 165), none, none, some (.iload_n 1), some (.iaload), some (.aload_n 0), some (.getfield 28), none, none, some (.getfield 168), none, none, some (.iload_n 1), some (.iaload), some (.invokevirtual 171), none, none, some (.aload_n 0), some (.iconst (-1)), some (.putfield 43), none, none, some (.aload_n 0), some (.getfield 28), none, none, some (.getfield 174), none, none, some (.iload_n 1), some (.iaload), some (.ireturn)]
def zp_p17 : List (Nat × zi_T × List Nat) := [(21, (9, 0, 1, .null), [224]), (28, (9, 0, 2, .null), [225]), (43, (0, 0, 5, .null), [228]), (151, (0, 3, 5, .null), [167]), (159, (1, 66, 0, .ref 3), [584, 58, 587, 585, 586]), (162, (9, 3, 0, .null), [158]), (165, (9, 3, 2, .null), [162]), (168, (9, 3, 1, .null), [160]), (171, (1, 62, 3, .ref 2), [514, 56, 517, 515, 516]), (174, (9, 3, 3, .null), [164])]
/-- 18: PatienceTable.log()I -/
def zp_l18 : List (Option Jvm.ClassFile.Instr) := [some (.aload_n 0), some (.getfield 28), none, none, some (.getfield 151), none, none, some (.ireturn)]
def zp_p18 : List (Nat × zi_T × List Nat) := [(28, (9, 0, 2, .null), [225]), (151, (0, 3, 5, .null), [167])]
/-- 19: PatienceTable.card(II)I -/
def zp_l19 : List (Option Jvm.ClassFile.Instr) := [some (.aload_n 0), some (.getfield 10), none, none, some (.iload_n 1), some (.invokevirtual 117), none, none, some (.ifCond .eq (7)), none, none, some (.iload_n 2), some (.ifCond .ge (5)), none, none, some (.iconst (-1)), some (.ireturn), some (.iload_n 1), some (.bipush (12)), none, some (.if_icmp .ne (14)), none, none, some (.aload_n 0), some (.getfield 21), none, none, some (.iload_n 2), some (.invokevirtual 177), none, none, some (.goto (23)), none, none, some (.aload_n 0), some (.getfield 21), none, none, some (.iload_n 1), some (.aload_n 0), some (.getfield 21), none, none, some (.iload_n 1), some (.invokevirtual 181), none, none, some (.iconst 1), some (.isub), some (.iload_n 2), some (.isub), some (.invokevirtual 184), none, none, some (.ireturn)]
def zp_p19 : List (Nat × zi_T × List Nat) := [(10, (9, 0, 0, .null), [223]), (21, (9, 0, 1, .null), [224]), (117, (1, 31, 1, .ref 1), [271, 55, 274, 272, 273]), (177, (1, 48, 1, .ref 2), [283, 56, 286, 284, 285]), (181, (1, 46, 1, .ref 2), [287, 56, 290, 288, 289]), (184, (1, 47, 2, .ref 2), [291, 56, 294, 292, 293])]
/-- 20: PatienceTable.size(I)I -/
def zp_l20 : List (Option Jvm.ClassFile.Instr) := [some (.aload_n 0), some (.getfield 10), none, none, some (.iload_n 1), some (.invokevirtual 117), none, none, some (.ifCond .eq (14)), none, none, some (.aload_n 0), some (.getfield 21), none, none, some (.iload_n 1), some (.invokevirtual 181), none, none, some (.goto (4)), none, none, some (.iconst (-1)), some (.ireturn)]
def zp_p20 : List (Nat × zi_T × List Nat) := [(10, (9, 0, 0, .null), [223]), (21, (9, 0, 1, .null), [224]), (117, (1, 31, 1, .ref 1), [271, 55, 274, 272, 273]), (181, (1, 46, 1, .ref 2), [287, 56, 290, 288, 289])]
/-- 21: PatienceTable.most(II)I -/
def zp_l21 : List (Option Jvm.ClassFile.Instr) := [some (.aload_n 0), some (.getfield 10), none, none, some (.iload_n 1), some (.invokevirtual 97), none, none, some (.ifCond .eq (24)), none, none, some (.aload_n 0), some (.getfield 10), none, none, some (.iload_n 2), some (.invokevirtual 97), none, none, some (.ifCond .eq (13)), none, none, some (.aload_n 0), some (.getfield 21), none, none, some (.invokevirtual 122), none, none, some (.ifCond .ne (5)), none, none, some (.iconst 0), some (.ireturn), some (.aload_n 0), some (.getfield 21), none, none, some (.iload_n 1), some (.iload_n 2), some (.invokevirtual 142), none, none, some (.ireturn)]
def zp_p21 : List (Nat × zi_T × List Nat) := [(10, (9, 0, 0, .null), [223]), (21, (9, 0, 1, .null), [224]), (97, (1, 29, 1, .ref 1), [303, 55, 278, 276, 277]), (122, (1, 43, 0, .ref 2), [304, 56, 307, 305, 306]), (142, (1, 56, 2, .ref 2), [312, 56, 315, 313, 314])]
/-- 22: PatienceTable.look(I)I -/
def zp_l22 : List (Option Jvm.ClassFile.Instr) := [some (.iload_n 1), some (.iconst 1), some (.sipush (200)), none, none, some (.invokestatic 47), none, none, some (.ifCond .ne (13)), none, none, some (.new 72), none, none, some (.dup), some (.ldc 187), none, some (.invokespecial 76), none, none, some (.athrow), some (.aload_n 0), some (.getfield 21), none, none, some (.invokevirtual 122), none, none, some (.ifCond .ne (13)), none, none, some (.new 109), none, none, some (.dup), some (.ldc 146), none, some (.invokespecial 113), none, none, some (.athrow), some (.aload_n 0), some (.getfield 35), none, none, some (.aload_n 0), some (.getfield 21), none, none, some (.iload_n 1), some (.invokevirtual 189), none, none, some (.istore_n 2), some (.aload_n 0), some (.aload_n 0), some (.getfield 35), none, none, some (.getfield 193), none, none, some (.putfield 43), none, none, some (.iload_n 2), some (.ireturn)]
def zp_p22 : List (Nat × zi_T × List Nat) := [(21, (9, 0, 1, .null), [224]), (35, (9, 0, 3, .null), [226]), (43, (0, 0, 5, .null), [228]), (47, (3, 25, 3, .null), [246, 54, 248, 247]), (122, (1, 43, 0, .ref 2), [304, 56, 307, 305, 306]), (189, (1, 68, 2, .ref 4), [596, 59, 599, 597, 598]), (193, (0, 4, 8, .null), [199])]
/-- 23: PatienceTable.hint()I -/
def zp_l23 : List (Option Jvm.ClassFile.Instr) := [some (.aload_n 0), some (.getfield 43), none, none, some (.ireturn)]
def zp_p23 : List (Nat × zi_T × List Nat) := [(43, (0, 0, 5, .null), [228])]
/-- 24: PatienceTable.positions()I -/
def zp_l24 : List (Option Jvm.ClassFile.Instr) := [some (.aload_n 0), some (.getfield 35), none, none, some (.getfield 196), none, none, some (.ireturn)]
def zp_p24 : List (Nat × zi_T × List Nat) := [(35, (9, 0, 3, .null), [226]), (196, (0, 4, 9, .null), [201])]
/-- 25: PatienceTable.isWithin(III)Z -/
def zp_l25 : List (Option Jvm.ClassFile.Instr) := [some (.iload_n 0), some (.iload_n 1), some (.if_icmp .lt (12)), none, none, some (.iload_n 0), some (.iload_n 2), some (.if_icmp .gt (7)), none, none, some (.iconst 1), some (.goto (4)), none, none, some (.iconst 0), some (.ireturn)]
def zp_p25 : List (Nat × zi_T × List Nat) := []
/-- 26: PatienceTable.placeTold(C)I -/
def zp_l26 : List (Option Jvm.ClassFile.Instr) := [some (.iload_n 0), some (.bipush (49)), none, some (.if_icmp .lt (14)), none, none, some (.iload_n 0), some (.bipush (56)), none, some (.if_icmp .gt (8)), none, none, some (.iload_n 0), some (.bipush (49)), none, some (.isub), some (.ireturn), some (.iload_n 0), some (.bipush (97)), none, some (.if_icmp .lt (17)), none, none, some (.iload_n 0), some (.bipush (100)), none, some (.if_icmp .gt (11)), none, none, some (.bipush (8)), none, some (.iload_n 0), some (.iadd), some (.bipush (97)), none, some (.isub), some (.ireturn), some (.iload_n 0), some (.bipush (104)), none, some (.if_icmp .ne (8)), none, none, some (.bipush (12)), none, some (.goto (4)), none, none, some (.iconst (-1)), some (.ireturn)]
def zp_p26 : List (Nat × zi_T × List Nat) := []
/-- 27: PatienceTable.bring(III)V -/
def zp_l27 : List (Option Jvm.ClassFile.Instr) := [some (.aload_n 0), some (.getfield 21), none, none, some (.iload_n 1), some (.iload_n 3), some (.iconst 1), some (.isub), some (.invokevirtual 184), none, none, some (.istore 4), none, some (.aload_n 0), some (.getfield 21), none, none, some (.iload 4), none, some (.iload_n 1), some (.iload_n 2), some (.invokevirtual 171), none, none, some (.aload_n 0), some (.getfield 28), none, none, some (.iload 4), none, some (.iload_n 1), some (.iload_n 2), some (.iload_n 3), some (.invokevirtual 199), none, none, some (.aload_n 0), some (.iconst (-1)), some (.putfield 43), none, none, some (.return_)]
def zp_p27 : List (Nat × zi_T × List Nat) := [(21, (9, 0, 1, .null), [224]), (28, (9, 0, 2, .null), [225]), (43, (0, 0, 5, .null), [228]), (171, (1, 62, 3, .ref 2), [514, 56, 517, 515, 516]), (184, (1, 47, 2, .ref 2), [291, 56, 294, 292, 293]), (199, (1, 65, 4, .ref 3), [522, 58, 525, 523, 524])]
/-- 28: PatienceTable$Game.<init>()V -/
def zp_l28 : List (Option Jvm.ClassFile.Instr) := [some (.aload_n 0), some (.invokespecial 3), none, none, some (.aload_n 0), some (.bipush (8)), none, some (.putfield 9), none, none, some (.aload_n 0), some (.iconst 4), some (.putfield 15), none, none, some (.aload_n 0), some (.iconst 0), some (.putfield 18), none, none, some (.aload_n 0), some (.iconst 0), some (.putfield 21), none, none, some (.aload_n 0), some (.iconst 4), some (.putfield 24), none, none, some (.aload_n 0), some (.bipush (13)), none, some (.putfield 27), none, none, some (.return_)]
def zp_p28 : List (Nat × zi_T × List Nat) := [(3, (7, 0, 0, .null), [82, 75, 76]), (9, (0, 1, 0, .null), [83]), (15, (0, 1, 1, .null), [86]), (18, (0, 1, 2, .null), [89]), (21, (0, 1, 3, .null), [92]), (24, (0, 1, 4, .null), [95]), (27, (0, 1, 5, .null), [98])]
/-- 29: PatienceTable$Game.isColumn(I)Z -/
def zp_l29 : List (Option Jvm.ClassFile.Instr) := [some (.iload_n 1), some (.ifCond .lt (15)), none, none, some (.iload_n 1), some (.aload_n 0), some (.getfield 9), none, none, some (.if_icmp .ge (7)), none, none, some (.iconst 1), some (.goto (4)), none, none, some (.iconst 0), some (.ireturn)]
def zp_p29 : List (Nat × zi_T × List Nat) := [(9, (0, 1, 0, .null), [83])]
/-- 30: PatienceTable$Game.isCell(I)Z -/
def zp_l30 : List (Option Jvm.ClassFile.Instr) := [some (.iload_n 1), some (.bipush (8)), none, some (.if_icmp .lt (18)), none, none, some (.iload_n 1), some (.bipush (8)), none, some (.aload_n 0), some (.getfield 15), none, none, some (.iadd), some (.if_icmp .ge (7)), none, none, some (.iconst 1), some (.goto (4)), none, none, some (.iconst 0), some (.ireturn)]
def zp_p30 : List (Nat × zi_T × List Nat) := [(15, (0, 1, 1, .null), [86])]
/-- 31: PatienceTable$Game.isPlace(I)Z -/
def zp_l31 : List (Option Jvm.ClassFile.Instr) := [some (.aload_n 0), some (.iload_n 1), some (.invokevirtual 30), none, none, some (.ifCond .ne (17)), none, none, some (.aload_n 0), some (.iload_n 1), some (.invokevirtual 34), none, none, some (.ifCond .ne (9)), none, none, some (.iload_n 1), some (.bipush (12)), none, some (.if_icmp .ne (7)), none, none, some (.iconst 1), some (.goto (4)), none, none, some (.iconst 0), some (.ireturn)]
def zp_p31 : List (Nat × zi_T × List Nat) := [(30, (1, 29, 1, .ref 1), [275, 55, 278, 276, 277]), (34, (1, 30, 1, .ref 1), [279, 55, 282, 280, 281])]
/-- 32: PatienceTable$Game.cardCount()I -/
def zp_l32 : List (Option Jvm.ClassFile.Instr) := [some (.aload_n 0), some (.getfield 24), none, none, some (.aload_n 0), some (.getfield 27), none, none, some (.imul), some (.ireturn)]
def zp_p32 : List (Nat × zi_T × List Nat) := [(24, (0, 1, 4, .null), [95]), (27, (0, 1, 5, .null), [98])]
/-- 33: PatienceTable$Game.isCard(I)Z -/
def zp_l33 : List (Option Jvm.ClassFile.Instr) := [some (.iload_n 1), some (.ifCond .lt (15)), none, none, some (.iload_n 1), some (.aload_n 0), some (.invokevirtual 37), none, none, some (.if_icmp .ge (7)), none, none, some (.iconst 1), some (.goto (4)), none, none, some (.iconst 0), some (.ireturn)]
def zp_p33 : List (Nat × zi_T × List Nat) := [(37, (1, 32, 0, .ref 1), [478, 55, 311, 309, 310])]
/-- 34: PatienceTable$Game.rankOf(I)I -/
def zp_l34 : List (Option Jvm.ClassFile.Instr) := [some (.iload_n 1), some (.aload_n 0), some (.getfield 24), none, none, some (.idiv), some (.iconst 1), some (.iadd), some (.ireturn)]
def zp_p34 : List (Nat × zi_T × List Nat) := [(24, (0, 1, 4, .null), [95])]
/-- 35: PatienceTable$Game.suitOf(I)I -/
def zp_l35 : List (Option Jvm.ClassFile.Instr) := [some (.iload_n 1), some (.aload_n 0), some (.getfield 24), none, none, some (.irem), some (.ireturn)]
def zp_p35 : List (Nat × zi_T × List Nat) := [(24, (0, 1, 4, .null), [95])]
/-- 36: PatienceTable$Game.isRed(I)Z -/
def zp_l36 : List (Option Jvm.ClassFile.Instr) := [some (.iload_n 1), some (.iconst 1), some (.if_icmp .eq (8)), none, none, some (.iload_n 1), some (.iconst 2), some (.if_icmp .ne (7)), none, none, some (.iconst 1), some (.goto (4)), none, none, some (.iconst 0), some (.ireturn)]
def zp_p36 : List (Nat × zi_T × List Nat) := []
/-- 37: PatienceTable$Game.fitsOn(II)Z -/
def zp_l37 : List (Option Jvm.ClassFile.Instr) := [some (.aload_n 0), some (.iload_n 1), some (.invokevirtual 41), none, none, some (.iconst 1), some (.iadd), some (.aload_n 0), some (.iload_n 2), some (.invokevirtual 41), none, none, some (.if_icmp .eq (5)), none, none, some (.iconst 0), some (.ireturn), some (.aload_n 0), some (.getfield 18), none, none, some (.ifCond .ne (30)), none, none, some (.aload_n 0), some (.aload_n 0), some (.iload_n 1), some (.invokevirtual 45), none, none, some (.invokevirtual 48), none, none, some (.aload_n 0), some (.aload_n 0), some (.iload_n 2), some (.invokevirtual 45), none, none, some (.invokevirtual 48), none, none, some (.if_icmp .eq (7)), none, none, some (.iconst 1), some (.goto (4)), none, none, some (.iconst 0), some (.ireturn), some (.aload_n 0), some (.getfield 18), none, none, some (.iconst 1), some (.if_icmp .ne (16)), none, none, some (.aload_n 0), some (.iload_n 1), some (.invokevirtual 45), none, none, some (.aload_n 0), some (.iload_n 2), some (.invokevirtual 45), none, none, some (.if_icmp .ne (7)), none, none, some (.iconst 1), some (.goto (4)), none, none, some (.iconst 0), some (.ireturn)]
def zp_p37 : List (Nat × zi_T × List Nat) := [(18, (0, 1, 2, .null), [89]), (41, (1, 34, 1, .ref 1), [324, 55, 327, 325, 326]), (45, (1, 35, 1, .ref 1), [328, 55, 331, 329, 330]), (48, (1, 36, 1, .ref 1), [332, 55, 335, 333, 334])]
/-- 38: PatienceTable$Game.fitsInEmpty(I)Z -/
def zp_l38 : List (Option Jvm.ClassFile.Instr) := [some (.aload_n 0), some (.getfield 21), none, none, some (.ifCond .eq (23)), none, none, some (.aload_n 0), some (.getfield 21), none, none, some (.iconst 1), some (.if_icmp .ne (19)), none, none, some (.aload_n 0), some (.iload_n 1), some (.invokevirtual 41), none, none, some (.aload_n 0), some (.getfield 27), none, none, some (.if_icmp .ne (7)), none, none, some (.iconst 1), some (.goto (4)), none, none, some (.iconst 0), some (.ireturn)]
def zp_p38 : List (Nat × zi_T × List Nat) := [(21, (0, 1, 3, .null), [92]), (27, (0, 1, 5, .null), [98]), (41, (1, 34, 1, .ref 1), [324, 55, 327, 325, 326])]
/-- 39: PatienceTable$Layout.<init>(LPatienceTable$Game;)V -/
def zp_l39 : List (Option Jvm.ClassFile.Instr) := [some (.aload_n 0), some (.invokespecial 3), none, none, some (.aload_n 0), some (.bipush (52)), none, some (.newarray .int), none, some (.putfield 9), none, none, some (.aload_n 0), some (.bipush (12)), none, some (.newarray .int), none, some (.putfield 15), none, none, some (.aload_n 0), some (.iconst 4), some (.newarray .int), none, some (.putfield 18), none, none, some (.aload_n 0), some (.aload_n 1), some (.putfield 21), none, none, some (.aload_n 0), some (.invokevirtual 25), none, none, some (.return_)]
def zp_p39 : List (Nat × zi_T × List Nat) := [(3, (7, 0, 0, .null), [118, 75, 76]), (9, (8, 2, 1, .null), [127]), (15, (8, 2, 2, .null), [129]), (18, (8, 2, 3, .null), [131]), (21, (8, 2, 0, .null), [126]), (25, (1, 40, 0, .ref 2), [119, 56, 122, 120, 121])]
/-- 40: PatienceTable$Layout.takeAllUp()V -/
def zp_l40 : List (Option Jvm.ClassFile.Instr) := [some (.aload_n 0), some (.getfield 9), none, none, some (.bipush (-4)), none, some (.invokestatic 28), none, none, some (.aload_n 0), some (.getfield 15), none, none, some (.iconst (-1)), some (.invokestatic 28), none, none, some (.aload_n 0), some (.getfield 18), none, none, some (.iconst 0), some (.invokestatic 28), none, none, some (.aload_n 0), some (.iconst 0), some (.putfield 34), none, none, some (.aload_n 0), some (.iconst 0), some (.putfield 38), none, none, some (.return_)]
def zp_p40 : List (Nat × zi_T × List Nat) := [(9, (9, 2, 1, .null), [127]), (15, (9, 2, 2, .null), [129]), (18, (9, 2, 3, .null), [131]), (28, (3, 134, 2, .null), [123, 57, 125, 124]), (34, (0, 2, 4, .null), [132]), (38, (0, 2, 5, .null), [134])]
/-- 41: PatienceTable$Layout.becomeLike(LPatienceTable$Layout;)V -/
def zp_l41 : List (Option Jvm.ClassFile.Instr) := [some (.aload_n 1), some (.getfield 9), none, none, some (.iconst 0), some (.aload_n 0), some (.getfield 9), none, none, some (.iconst 0), some (.bipush (52)), none, some (.invokestatic 41), none, none, some (.aload_n 1), some (.getfield 15), none, none, some (.iconst 0), some (.aload_n 0), some (.getfield 15), none, none, some (.iconst 0), some (.bipush (12)), none, some (.invokestatic 41), none, none, some (.aload_n 1), some (.getfield 18), none, none, some (.iconst 0), some (.aload_n 0), some (.getfield 18), none, none, some (.iconst 0), some (.iconst 4), some (.invokestatic 41), none, none, some (.aload_n 0), some (.aload_n 1), some (.getfield 34), none, none, some (.putfield 34), none, none, some (.aload_n 0), some (.aload_n 1), some (.getfield 38), none, none, some (.putfield 38), none, none, some (.return_)]
def zp_p41 : List (Nat × zi_T × List Nat) := [(9, (9, 2, 1, .null), [127]), (15, (9, 2, 2, .null), [129]), (18, (9, 2, 3, .null), [131]), (34, (0, 2, 4, .null), [132]), (38, (0, 2, 5, .null), [134]), (41, (7, 2, 0, .null), [609, 611, 610, 68])]
/-- 42: PatienceTable$Layout.isLaid(I)Z -/
def zp_l42 : List (Option Jvm.ClassFile.Instr) := [some (.aload_n 0), some (.getfield 9), none, none, some (.iload_n 1), some (.iaload), some (.bipush (-4)), none, some (.if_icmp .eq (7)), none, none, some (.iconst 1), some (.goto (4)), none, none, some (.iconst 0), some (.ireturn)]
def zp_p42 : List (Nat × zi_T × List Nat) := [(9, (9, 2, 1, .null), [127])]
/-- 43: PatienceTable$Layout.isAllLaid()Z -/
def zp_l43 : List (Option Jvm.ClassFile.Instr) := [some (.aload_n 0), some (.getfield 34), none, none, some (.aload_n 0), some (.getfield 21), none, none, some (.invokevirtual 47), none, none, some (.if_icmp .ne (7)), none, none, some (.iconst 1), some (.goto (4)), none, none, some (.iconst 0), some (.ireturn)]
def zp_p43 : List (Nat × zi_T × List Nat) := [(21, (9, 2, 0, .null), [126]), (34, (0, 2, 4, .null), [132]), (47, (1, 32, 0, .ref 1), [308, 55, 311, 309, 310])]
/-- 44: PatienceTable$Layout.isAllHome()Z -/
def zp_l44 : List (Option Jvm.ClassFile.Instr) := [some (.aload_n 0), some (.getfield 38), none, none, some (.aload_n 0), some (.getfield 21), none, none, some (.invokevirtual 47), none, none, some (.if_icmp .ne (7)), none, none, some (.iconst 1), some (.goto (4)), none, none, some (.iconst 0), some (.ireturn)]
def zp_p44 : List (Nat × zi_T × List Nat) := [(21, (9, 2, 0, .null), [126]), (38, (0, 2, 5, .null), [134]), (47, (1, 32, 0, .ref 1), [308, 55, 311, 309, 310])]
/-- 45: PatienceTable$Layout.layOn(II)V -/
def zp_l45 : List (Option Jvm.ClassFile.Instr) := [some (.aload_n 0), some (.getfield 9), none, none, some (.iload_n 2), some (.aload_n 0), some (.getfield 15), none, none, some (.iload_n 1), some (.iaload), some (.iastore), some (.aload_n 0), some (.getfield 15), none, none, some (.iload_n 1), some (.iload_n 2), some (.iastore), some (.aload_n 0), some (.dup), some (.getfield 34), none, none, some (.iconst 1), some (.iadd), some (.putfield 34), none, none, some (.return_)]
def zp_p45 : List (Nat × zi_T × List Nat) := [(9, (9, 2, 1, .null), [127]), (15, (9, 2, 2, .null), [129]), (34, (0, 2, 4, .null), [132])]
/-- 46: PatienceTable$Layout.heightOf(I)I -/
def zp_l46 : List (Option Jvm.ClassFile.Instr) := [some (.iload_n 1), some (.bipush (12)), none, some (.if_icmp .ne (8)), none, none, some (.aload_n 0), some (.getfield 38), none, none, some (.ireturn), some (.iconst 0), some (.istore_n 2), some (.aload_n 0), some (.getfield 15), none, none, some (.iload_n 1), some (.iaload), some (.istore_n 3), some (.iload_n 3), some (.ifCond .lt (22)), none, none, some (.iload_n 2), some (.bipush (52)), none, some (.if_icmp .ge (16)), none, none, some (.iinc 2 (1)), none, none, some (.aload_n 0), some (.getfield 9), none, none, some (.iload_n 3), some (.iaload), some (.istore_n 3), some (.goto (-20)), none, none, some (.iload_n 2), some (.ireturn)]
def zp_p46 : List (Nat × zi_T × List Nat) := [(9, (9, 2, 1, .null), [127]), (15, (9, 2, 2, .null), [129]), (38, (0, 2, 5, .null), [134])]
/-- 47: PatienceTable$Layout.cardFromTop(II)I -/
def zp_l47 : List (Option Jvm.ClassFile.Instr) := [some (.iload_n 2), some (.ifCond .ge (5)), none, none, some (.iconst (-1)), some (.ireturn), some (.aload_n 0), some (.getfield 15), none, none, some (.iload_n 1), some (.iaload), some (.istore_n 3), some (.iconst 0), some (.istore 4), none, some (.iload 4), none, some (.iload_n 2), some (.if_icmp .ge (20)), none, none, some (.iload_n 3), some (.ifCond .lt (16)), none, none, some (.aload_n 0), some (.getfield 9), none, none, some (.iload_n 3), some (.iaload), some (.istore_n 3), some (.iinc 4 (1)), none, none, some (.goto (-20)), none, none, some (.iload_n 3), some (.ifCond .lt (7)), none, none, some (.iload_n 3), some (.goto (4)), none, none, some (.iconst (-1)), some (.ireturn)]
def zp_p47 : List (Nat × zi_T × List Nat) := [(9, (9, 2, 1, .null), [127]), (15, (9, 2, 2, .null), [129])]
/-- 48: PatienceTable$Layout.topAtHome(I)I -/
def zp_l48 : List (Option Jvm.ClassFile.Instr) := [some (.iload_n 1), some (.aload_n 0), some (.getfield 21), none, none, some (.getfield 53), none, none, some (.if_icmp .ge (12)), none, none, some (.aload_n 0), some (.getfield 18), none, none, some (.iload_n 1), some (.iaload), some (.ifCond .ne (5)), none, none, some (.iconst (-1)), some (.ireturn), some (.aload_n 0), some (.getfield 21), none, none, some (.getfield 53), none, none, some (.aload_n 0), some (.getfield 18), none, none, some (.iload_n 1), some (.iaload), some (.iconst 1), some (.isub), some (.imul), some (.iload_n 1), some (.iadd), some (.ireturn)]
def zp_p48 : List (Nat × zi_T × List Nat) := [(18, (9, 2, 3, .null), [131]), (21, (9, 2, 0, .null), [126]), (53, (0, 1, 4, .null), [97])]
/-- 49: PatienceTable$Layout.allows(III)Z -/
def zp_l49 : List (Option Jvm.ClassFile.Instr) := [some (.iload_n 3), some (.iconst 1), some (.if_icmp .ne (12)), none, none, some (.aload_n 0), some (.iload_n 1), some (.iload_n 2), some (.invokevirtual 56), none, none, some (.goto (23)), none, none, some (.iload_n 3), some (.iconst 1), some (.if_icmp .le (17)), none, none, some (.aload_n 0), some (.iload_n 1), some (.iload_n 2), some (.iload_n 3), some (.invokevirtual 60), none, none, some (.ifCond .eq (7)), none, none, some (.iconst 1), some (.goto (4)), none, none, some (.iconst 0), some (.ireturn)]
def zp_p49 : List (Nat × zi_T × List Nat) := [(56, (1, 50, 2, .ref 2), [340, 56, 343, 341, 342]), (60, (1, 51, 3, .ref 2), [360, 56, 363, 362, 3])]
/-- 50: PatienceTable$Layout.allowsOne(II)Z -/
def zp_l50 : List (Option Jvm.ClassFile.Instr) := [some (.aload_n 0), some (.getfield 15), none, none, some (.iload_n 1), some (.iaload), some (.istore_n 3), some (.iload_n 3), some (.iconst (-1)), some (.if_icmp .eq (8)), none, none, some (.iload_n 1), some (.iload_n 2), some (.if_icmp .ne (5)), none, none, some (.iconst 0), some (.ireturn), some (.aload_n 0), some (.getfield 21), none, none, some (.iload_n 2), some (.invokevirtual 64), none, none, some (.ifCond .eq (10)), none, none, some (.aload_n 0), some (.iload_n 2), some (.iload_n 3), some (.invokevirtual 68), none, none, some (.ireturn), some (.aload_n 0), some (.getfield 21), none, none, some (.iload_n 2), some (.invokevirtual 71), none, none, some (.ifCond .eq (30)), none, none, some (.aload_n 0), some (.getfield 21), none, none, some (.iload_n 1), some (.invokevirtual 64), none, none, some (.ifCond .eq (17)), none, none, some (.aload_n 0), some (.getfield 15), none, none, some (.iload_n 2), some (.iaload), some (.iconst (-1)), some (.if_icmp .ne (7)), none, none, some (.iconst 1), some (.goto (4)), none, none, some (.iconst 0), some (.ireturn), some (.iload_n 2), some (.bipush (12)), none, some (.if_icmp .ne (15)), none, none, some (.aload_n 0), some (.iload_n 3), some (.invokevirtual 74), none, none, some (.ifCond .eq (7)), none, none, some (.iconst 1), some (.goto (4)), none, none, some (.iconst 0), some (.ireturn)]
def zp_p50 : List (Nat × zi_T × List Nat) := [(15, (9, 2, 2, .null), [129]), (21, (9, 2, 0, .null), [126]), (64, (1, 29, 1, .ref 1), [344, 55, 278, 276, 277]), (68, (1, 52, 2, .ref 2), [345, 56, 348, 347, 1]), (71, (1, 30, 1, .ref 1), [353, 55, 282, 280, 281]), (74, (1, 57, 1, .ref 2), [354, 56, 357, 356, 2])]
/-- 51: PatienceTable$Layout.allowsRow(III)Z -/
def zp_l51 : List (Option Jvm.ClassFile.Instr) := [some (.aload_n 0), some (.getfield 21), none, none, some (.iload_n 1), some (.invokevirtual 64), none, none, some (.ifCond .eq (57)), none, none, some (.aload_n 0), some (.getfield 21), none, none, some (.iload_n 2), some (.invokevirtual 64), none, none, some (.ifCond .eq (46)), none, none, some (.iload_n 1), some (.iload_n 2), some (.if_icmp .eq (41)), none, none, some (.iload_n 3), some (.aload_n 0), some (.iload_n 1), some (.invokevirtual 77), none, none, some (.if_icmp .gt (32)), none, none, some (.iload_n 3), some (.aload_n 0), some (.iload_n 2), some (.invokevirtual 81), none, none, some (.if_icmp .gt (23)), none, none, some (.aload_n 0), some (.iload_n 2), some (.aload_n 0), some (.iload_n 1), some (.iload_n 3), some (.iconst 1), some (.isub), some (.invokevirtual 84), none, none, some (.invokevirtual 68), none, none, some (.ifCond .eq (7)), none, none, some (.iconst 1), some (.goto (4)), none, none, some (.iconst 0), some (.ireturn)]
def zp_p51 : List (Nat × zi_T × List Nat) := [(21, (9, 2, 0, .null), [126]), (64, (1, 29, 1, .ref 1), [344, 55, 278, 276, 277]), (68, (1, 52, 2, .ref 2), [345, 56, 348, 347, 1]), (77, (1, 53, 1, .ref 2), [316, 56, 319, 318, 0]), (81, (1, 54, 1, .ref 2), [364, 56, 367, 366, 4]), (84, (1, 47, 2, .ref 2), [372, 56, 294, 292, 293])]
/-- 52: PatienceTable$Layout.bears(II)Z -/
def zp_l52 : List (Option Jvm.ClassFile.Instr) := [some (.aload_n 0), some (.getfield 15), none, none, some (.iload_n 1), some (.iaload), some (.iconst (-1)), some (.if_icmp .ne (14)), none, none, some (.aload_n 0), some (.getfield 21), none, none, some (.iload_n 2), some (.invokevirtual 88), none, none, some (.goto (17)), none, none, some (.aload_n 0), some (.getfield 21), none, none, some (.iload_n 2), some (.aload_n 0), some (.getfield 15), none, none, some (.iload_n 1), some (.iaload), some (.invokevirtual 91), none, none, some (.ireturn)]
def zp_p52 : List (Nat × zi_T × List Nat) := [(15, (9, 2, 2, .null), [129]), (21, (9, 2, 0, .null), [126]), (88, (1, 38, 1, .ref 1), [349, 55, 352, 350, 351]), (91, (1, 37, 2, .ref 1), [320, 55, 323, 321, 322])]
/-- 53: PatienceTable$Layout.rowOf(I)I -/
def zp_l53 : List (Option Jvm.ClassFile.Instr) := [some (.aload_n 0), some (.getfield 15), none, none, some (.iload_n 1), some (.iaload), some (.istore_n 2), some (.iload_n 2), some (.iconst (-1)), some (.if_icmp .ne (5)), none, none, some (.iconst 0), some (.ireturn), some (.iconst 1), some (.istore_n 3), some (.iload_n 3), some (.bipush (13)), none, some (.if_icmp .ge (42)), none, none, some (.aload_n 0), some (.getfield 9), none, none, some (.iload_n 2), some (.iaload), some (.ifCond .lt (33)), none, none, some (.aload_n 0), some (.getfield 21), none, none, some (.iload_n 2), some (.aload_n 0), some (.getfield 9), none, none, some (.iload_n 2), some (.iaload), some (.invokevirtual 91), none, none, some (.ifCond .eq (16)), none, none, some (.aload_n 0), some (.getfield 9), none, none, some (.iload_n 2), some (.iaload), some (.istore_n 2), some (.iinc 3 (1)), none, none, some (.goto (-42)), none, none, some (.iload_n 3), some (.ireturn)]
def zp_p53 : List (Nat × zi_T × List Nat) := [(9, (9, 2, 1, .null), [127]), (15, (9, 2, 2, .null), [129]), (21, (9, 2, 0, .null), [126]), (91, (1, 37, 2, .ref 1), [320, 55, 323, 321, 322])]
/-- 54: PatienceTable$Layout.mostAtOnce(I)I -/
def zp_l54 : List (Option Jvm.ClassFile.Instr) := [some (.aload_n 0), some (.bipush (8)), none, some (.aload_n 0), some (.getfield 21), none, none, some (.getfield 94), none, none, some (.invokevirtual 97), none, none, some (.istore_n 2), some (.aload_n 0), some (.getfield 21), none, none, some (.getfield 100), none, none, some (.ifCond .eq (7)), none, none, some (.iload_n 2), some (.iconst 1), some (.iadd), some (.ireturn), some (.aload_n 0), some (.iconst 0), some (.aload_n 0), some (.getfield 21), none, none, some (.getfield 102), none, none, some (.invokevirtual 97), none, none, some (.istore_n 3), some (.aload_n 0), some (.getfield 15), none, none, some (.iload_n 1), some (.iaload), some (.iconst (-1)), some (.if_icmp .ne (9)), none, none, some (.iload_n 3), some (.iconst 1), some (.isub), some (.goto (4)), none, none, some (.iload_n 3), some (.istore 4), none, some (.iload_n 2), some (.iconst 1), some (.iadd), some (.iload 4), none, some (.ishl), some (.ireturn)]
def zp_p54 : List (Nat × zi_T × List Nat) := [(15, (9, 2, 2, .null), [129]), (21, (9, 2, 0, .null), [126]), (94, (0, 1, 1, .null), [88]), (97, (1, 55, 2, .ref 2), [368, 56, 371, 370, 5]), (100, (0, 1, 3, .null), [94]), (102, (0, 1, 0, .null), [85])]
/-- 55: PatienceTable$Layout.emptyAmong(II)I -/
def zp_l55 : List (Option Jvm.ClassFile.Instr) := [some (.iconst 0), some (.istore_n 3), some (.iload_n 1), some (.istore 4), none, some (.iload 4), none, some (.iload_n 1), some (.iload_n 2), some (.iadd), some (.if_icmp .ge (23)), none, none, some (.aload_n 0), some (.getfield 15), none, none, some (.iload 4), none, some (.iaload), some (.iconst (-1)), some (.if_icmp .ne (6)), none, none, some (.iinc 3 (1)), none, none, some (.iinc 4 (1)), none, none, some (.goto (-25)), none, none, some (.iload_n 3), some (.ireturn)]
def zp_p55 : List (Nat × zi_T × List Nat) := [(15, (9, 2, 2, .null), [129])]
/-- 56: PatienceTable$Layout.mostBetween(II)I -/
def zp_l56 : List (Option Jvm.ClassFile.Instr) := [some (.aload_n 0), some (.iload_n 1), some (.invokevirtual 77), none, none, some (.istore_n 3), some (.iload_n 3), some (.ifCond .le (21)), none, none, some (.aload_n 0), some (.iload_n 1), some (.iload_n 2), some (.iload_n 3), some (.invokevirtual 105), none, none, some (.ifCond .eq (5)), none, none, some (.iload_n 3), some (.ireturn), some (.iinc 3 (-1)), none, none, some (.goto (-19)), none, none, some (.iconst 0), some (.ireturn)]
def zp_p56 : List (Nat × zi_T × List Nat) := [(77, (1, 53, 1, .ref 2), [316, 56, 319, 318, 0]), (105, (1, 49, 3, .ref 2), [336, 56, 339, 337, 338])]
/-- 57: PatienceTable$Layout.mayGoHome(I)Z -/
def zp_l57 : List (Option Jvm.ClassFile.Instr) := [some (.aload_n 0), some (.getfield 21), none, none, some (.iload_n 1), some (.invokevirtual 108), none, none, some (.aload_n 0), some (.getfield 18), none, none, some (.aload_n 0), some (.getfield 21), none, none, some (.iload_n 1), some (.invokevirtual 111), none, none, some (.iaload), some (.iconst 1), some (.iadd), some (.if_icmp .ne (7)), none, none, some (.iconst 1), some (.goto (4)), none, none, some (.iconst 0), some (.ireturn)]
def zp_p57 : List (Nat × zi_T × List Nat) := [(18, (9, 2, 3, .null), [131]), (21, (9, 2, 0, .null), [126]), (108, (1, 34, 1, .ref 1), [358, 55, 327, 325, 326]), (111, (1, 35, 1, .ref 1), [359, 55, 331, 329, 330])]
/-- 58: PatienceTable$Layout.placeOfSafe()I -/
def zp_l58 : List (Option Jvm.ClassFile.Instr) := [some (.bipush (8)), none, some (.istore_n 1), some (.iload_n 1), some (.bipush (12)), none, some (.if_icmp .ge (19)), none, none, some (.aload_n 0), some (.iload_n 1), some (.invokevirtual 114), none, none, some (.ifCond .eq (5)), none, none, some (.iload_n 1), some (.ireturn), some (.iinc 1 (1)), none, none, some (.goto (-19)), none, none, some (.iconst 0), some (.istore_n 1), some (.iload_n 1), some (.bipush (8)), none, some (.if_icmp .ge (19)), none, none, some (.aload_n 0), some (.iload_n 1), some (.invokevirtual 114), none, none, some (.ifCond .eq (5)), none, none, some (.iload_n 1), some (.ireturn), some (.iinc 1 (1)), none, none, some (.goto (-19)), none, none, some (.iconst (-1)), some (.ireturn)]
def zp_p58 : List (Nat × zi_T × List Nat) := [(114, (1, 59, 1, .ref 2), [551, 56, 554, 553, 8])]
/-- 59: PatienceTable$Layout.isTopSafe(I)Z -/
def zp_l59 : List (Option Jvm.ClassFile.Instr) := [some (.aload_n 0), some (.getfield 15), none, none, some (.iload_n 1), some (.iaload), some (.istore_n 2), some (.iload_n 2), some (.iconst (-1)), some (.if_icmp .eq (23)), none, none, some (.aload_n 0), some (.iload_n 2), some (.invokevirtual 74), none, none, some (.ifCond .eq (15)), none, none, some (.aload_n 0), some (.iload_n 2), some (.invokevirtual 117), none, none, some (.ifCond .eq (7)), none, none, some (.iconst 1), some (.goto (4)), none, none, some (.iconst 0), some (.ireturn)]
def zp_p59 : List (Nat × zi_T × List Nat) := [(15, (9, 2, 2, .null), [129]), (74, (1, 57, 1, .ref 2), [354, 56, 357, 356, 2]), (117, (1, 60, 1, .ref 2), [555, 56, 558, 557, 9])]
/-- 60: PatienceTable$Layout.isSafe(I)Z -/
def zp_l60 : List (Option Jvm.ClassFile.Instr) := [some (.aload_n 0), some (.getfield 21), none, none, some (.iload_n 1), some (.invokevirtual 108), none, none, some (.istore_n 2), some (.aload_n 0), some (.getfield 21), none, none, some (.getfield 120), none, none, some (.iconst 1), some (.if_icmp .eq (8)), none, none, some (.iload_n 2), some (.iconst 2), some (.if_icmp .gt (5)), none, none, some (.iconst 1), some (.ireturn), some (.aload_n 0), some (.getfield 21), none, none, some (.aload_n 0), some (.getfield 21), none, none, some (.iload_n 1), some (.invokevirtual 111), none, none, some (.invokevirtual 123), none, none, some (.istore_n 3), some (.iconst 0), some (.istore 4), none, some (.iload 4), none, some (.aload_n 0), some (.getfield 21), none, none, some (.getfield 53), none, none, some (.if_icmp .ge (59)), none, none, some (.aload_n 0), some (.getfield 21), none, none, some (.getfield 120), none, none, some (.ifCond .ne (16)), none, none, some (.aload_n 0), some (.getfield 21), none, none, some (.iload 4), none, some (.invokevirtual 123), none, none, some (.iload_n 3), some (.if_icmp .eq (7)), none, none, some (.iconst 1), some (.goto (4)), none, none, some (.iconst 0), some (.istore 5), none, some (.iload 5), none, some (.ifCond .eq (18)), none, none, some (.aload_n 0), some (.getfield 18), none, none, some (.iload 4), none, some (.iaload), some (.iload_n 2), some (.iconst 1), some (.isub), some (.if_icmp .ge (5)), none, none, some (.iconst 0), some (.ireturn), some (.iinc 4 (1)), none, none, some (.goto (-65)), none, none, some (.iconst 1), some (.ireturn)]
def zp_p60 : List (Nat × zi_T × List Nat) := [(18, (9, 2, 3, .null), [131]), (21, (9, 2, 0, .null), [126]), (53, (0, 1, 4, .null), [97]), (108, (1, 34, 1, .ref 1), [358, 55, 327, 325, 326]), (111, (1, 35, 1, .ref 1), [359, 55, 331, 329, 330]), (120, (0, 1, 2, .null), [91]), (123, (1, 36, 1, .ref 1), [559, 55, 335, 333, 334])]
/-- 61: PatienceTable$Layout.groundAt(I)I -/
def zp_l61 : List (Option Jvm.ClassFile.Instr) := [some (.iload_n 1), some (.bipush (12)), none, some (.if_icmp .ne (6)), none, none, some (.bipush (-3)), none, some (.ireturn), some (.iload_n 1), some (.bipush (8)), none, some (.if_icmp .lt (8)), none, none, some (.bipush (-2)), none, some (.goto (9)), none, none, some (.aload_n 0), some (.getfield 15), none, none, some (.iload_n 1), some (.iaload), some (.ireturn)]
def zp_p61 : List (Nat × zi_T × List Nat) := [(15, (9, 2, 2, .null), [129])]
/-- 62: PatienceTable$Layout.carry(III)V -/
def zp_l62 : List (Option Jvm.ClassFile.Instr) := [some (.iload_n 2), some (.bipush (12)), none, some (.if_icmp .ne (7)), none, none, some (.iload_n 1), some (.goto (9)), none, none, some (.aload_n 0), some (.getfield 15), none, none, some (.iload_n 2), some (.iaload), some (.istore 4), none, some (.aload_n 0), some (.getfield 9), none, none, some (.iload_n 1), some (.iaload), some (.istore 5), none, some (.aload_n 0), some (.getfield 9), none, none, some (.iload_n 1), some (.aload_n 0), some (.iload_n 3), some (.invokevirtual 126), none, none, some (.iastore), some (.iload_n 2), some (.bipush (12)), none, some (.if_icmp .ne (33)), none, none, some (.aload_n 0), some (.getfield 18), none, none, some (.aload_n 0), some (.getfield 21), none, none, some (.iload_n 1), some (.invokevirtual 111), none, none, some (.dup2), some (.iaload), some (.iconst 1), some (.isub), some (.iastore), some (.aload_n 0), some (.dup), some (.getfield 38), none, none, some (.iconst 1), some (.isub), some (.putfield 38), none, none, some (.goto (21)), none, none, some (.aload_n 0), some (.getfield 15), none, none, some (.iload_n 2), some (.iload_n 2), some (.bipush (8)), none, some (.if_icmp .lt (7)), none, none, some (.iconst (-1)), some (.goto (5)), none, none, some (.iload 5), none, some (.iastore), some (.iload_n 3), some (.bipush (12)), none, some (.if_icmp .ne (33)), none, none, some (.aload_n 0), some (.getfield 18), none, none, some (.aload_n 0), some (.getfield 21), none, none, some (.iload_n 1), some (.invokevirtual 111), none, none, some (.dup2), some (.iaload), some (.iconst 1), some (.iadd), some (.iastore), some (.aload_n 0), some (.dup), some (.getfield 38), none, none, some (.iconst 1), some (.iadd), some (.putfield 38), none, none, some (.goto (11)), none, none, some (.aload_n 0), some (.getfield 15), none, none, some (.iload_n 3), some (.iload 4), none, some (.iastore), some (.return_)]
def zp_p62 : List (Nat × zi_T × List Nat) := [(9, (9, 2, 1, .null), [127]), (15, (9, 2, 2, .null), [129]), (18, (9, 2, 3, .null), [131]), (21, (9, 2, 0, .null), [126]), (38, (0, 2, 5, .null), [134]), (111, (1, 35, 1, .ref 1), [359, 55, 331, 329, 330]), (126, (1, 61, 1, .ref 2), [518, 56, 521, 519, 520])]
/-- 63: PatienceTable$Log.<init>()V -/
def zp_l63 : List (Option Jvm.ClassFile.Instr) := [some (.aload_n 0), some (.invokespecial 3), none, none, some (.aload_n 0), some (.bipush (60)), none, some (.newarray .int), none, some (.putfield 9), none, none, some (.aload_n 0), some (.bipush (60)), none, some (.newarray .int), none, some (.putfield 15), none, none, some (.aload_n 0), some (.bipush (60)), none, some (.newarray .int), none, some (.putfield 18), none, none, some (.aload_n 0), some (.bipush (60)), none, some (.newarray .int), none, some (.putfield 21), none, none, some (.aload_n 0), some (.iconst 0), some (.putfield 24), none, none, some (.aload_n 0), some (.iconst 0), some (.putfield 28), none, none, some (.return_)]
def zp_p63 : List (Nat × zi_T × List Nat) := [(3, (7, 0, 0, .null), [156, 75, 76]), (9, (8, 3, 0, .null), [157]), (15, (8, 3, 1, .null), [159]), (18, (8, 3, 2, .null), [161]), (21, (8, 3, 3, .null), [163]), (24, (0, 3, 4, .null), [165]), (28, (0, 3, 5, .null), [166])]
/-- 64: PatienceTable$Log.forgetAll()V -/
def zp_l64 : List (Option Jvm.ClassFile.Instr) := [some (.aload_n 0), some (.iconst 0), some (.putfield 24), none, none, some (.aload_n 0), some (.iconst 0), some (.putfield 28), none, none, some (.return_)]
def zp_p64 : List (Nat × zi_T × List Nat) := [(24, (0, 3, 4, .null), [165]), (28, (0, 3, 5, .null), [166])]
/-- 65: PatienceTable$Log.note(IIII)V -/
def zp_l65 : List (Option Jvm.ClassFile.Instr) := [some (.aload_n 0), some (.getfield 9), none, none, some (.aload_n 0), some (.getfield 24), none, none, some (.iload_n 1), some (.iastore), some (.aload_n 0), some (.getfield 15), none, none, some (.aload_n 0), some (.getfield 24), none, none, some (.iload_n 2), some (.iastore), some (.aload_n 0), some (.getfield 18), none, none, some (.aload_n 0), some (.getfield 24), none, none, some (.iload_n 3), some (.iastore), some (.aload_n 0), some (.getfield 21), none, none, some (.aload_n 0), some (.getfield 24), none, none, some (.iload 4), none, some (.iastore), some (.aload_n 0), some (.aload_n 0), some (.getfield 24), none, none, some (.iconst 1), some (.iadd), some (.bipush (60)), none, some (.if_icmp .ge (12)), none, none, some (.aload_n 0), some (.getfield 24), none, none, some (.iconst 1), some (.iadd), some (.goto (4)), none, none, some (.iconst 0), some (.putfield 24), none, none, some (.aload_n 0), some (.aload_n 0), some (.getfield 28), none, none, some (.iconst 1), some (.iadd), some (.bipush (60)), none, some (.invokestatic 31), none, none, some (.putfield 28), none, none, some (.return_)]
def zp_p65 : List (Nat × zi_T × List Nat) := [(9, (9, 3, 0, .null), [157]), (15, (9, 3, 1, .null), [159]), (18, (9, 3, 2, .null), [161]), (21, (9, 3, 3, .null), [163]), (24, (0, 3, 4, .null), [165]), (28, (0, 3, 5, .null), [166]), (31, (7, 1, 0, .null), [526, 527, 66, 528])]
/-- 66: PatienceTable$Log.takeLatest()I -/
def zp_l66 : List (Option Jvm.ClassFile.Instr) := [some (.aload_n 0), some (.aload_n 0), some (.getfield 24), none, none, some (.ifCond .le (12)), none, none, some (.aload_n 0), some (.getfield 24), none, none, some (.iconst 1), some (.isub), some (.goto (5)), none, none, some (.bipush (59)), none, some (.putfield 24), none, none, some (.aload_n 0), some (.dup), some (.getfield 28), none, none, some (.iconst 1), some (.isub), some (.putfield 28), none, none, some (.aload_n 0), some (.getfield 24), none, none, some (.ireturn)]
def zp_p66 : List (Nat × zi_T × List Nat) := [(24, (0, 3, 4, .null), [165]), (28, (0, 3, 5, .null), [166])]
/-- 67: PatienceTable$Search.<init>(LPatienceTable$Game;)V -/
def zp_l67 : List (Option Jvm.ClassFile.Instr) := [some (.aload_n 0), some (.invokespecial 3), none, none, some (.aload_n 0), some (.sipush (200)), none, none, some (.anewarray 9), none, none, some (.putfield 11), none, none, some (.aload_n 0), some (.sipush (200)), none, none, some (.newarray .int), none, some (.putfield 17), none, none, some (.aload_n 0), some (.sipush (200)), none, none, some (.newarray .int), none, some (.putfield 21), none, none, some (.aload_n 0), some (.sipush (512)), none, none, some (.newarray .int), none, some (.putfield 24), none, none, some (.aload_n 0), some (.iconst 0), some (.putfield 27), none, none, some (.aload_n 0), some (.iconst 0), some (.putfield 31), none, none, some (.aload_n 0), some (.iconst 0), some (.putfield 34), none, none, some (.aload_n 0), some (.iconst (-1)), some (.putfield 38), none, none, some (.aload_n 0), some (.iconst 0), some (.putfield 41), none, none, some (.aload_n 0), some (.aload_n 1), some (.putfield 44), none, none, some (.iconst 0), some (.istore_n 2), some (.iload_n 2), some (.sipush (200)), none, none, some (.if_icmp .ge (23)), none, none, some (.aload_n 0), some (.getfield 11), none, none, some (.iload_n 2), some (.new 9), none, none, some (.dup), some (.aload_n 1), some (.invokespecial 48), none, none, some (.aastore), some (.iinc 2 (1)), none, none, some (.goto (-24)), none, none, some (.return_)]
def zp_p67 : List (Nat × zi_T × List Nat) := [(3, (7, 0, 0, .null), [186, 75, 76]), (9, (4, 2, 6, .null), [187, 114, 56]), (11, (8, 4, 1, .null), [191]), (17, (8, 4, 2, .null), [192]), (21, (8, 4, 3, .null), [193]), (24, (8, 4, 4, .null), [194]), (27, (0, 4, 5, .null), [195]), (31, (0, 4, 6, .null), [196]), (34, (0, 4, 7, .null), [197]), (38, (0, 4, 8, .null), [198]), (41, (0, 4, 9, .null), [200]), (44, (8, 4, 0, .null), [190]), (48, (2, 39, 1, .null), [189, 56, 117, 116])]
/-- 68: PatienceTable$Search.seek(LPatienceTable$Layout;I)I -/
def zp_l68 : List (Option Jvm.ClassFile.Instr) := [some (.aload_n 0), some (.aload_n 1), some (.iload_n 2), some (.invokevirtual 51), none, none, some (.aload_n 1), some (.invokevirtual 55), none, none, some (.ifCond .eq (5)), none, none, some (.iconst 0), some (.ireturn), some (.iconst 0), some (.istore_n 3), some (.iconst 1), some (.istore 4), none, some (.iload 4), none, some (.sipush (200)), none, none, some (.if_icmp .gt (89)), none, none, some (.aload_n 0), some (.aload_n 0), some (.getfield 31), none, none, some (.putfield 41), none, none, some (.iload_n 3), some (.istore 5), none, some (.iload 5), none, some (.aload_n 0), some (.getfield 41), none, none, some (.if_icmp .ge (23)), none, none, some (.aload_n 0), some (.getfield 38), none, none, some (.iconst (-1)), some (.if_icmp .ne (15)), none, none, some (.aload_n 0), some (.iload 5), none, some (.invokevirtual 59), none, none, some (.iinc 5 (1)), none, none, some (.goto (-26)), none, none, some (.aload_n 0), some (.getfield 38), none, none, some (.iconst (-1)), some (.if_icmp .eq (6)), none, none, some (.iload 4), none, some (.ireturn), some (.aload_n 0), some (.getfield 34), none, none, some (.ifCond .eq (6)), none, none, some (.bipush (-2)), none, some (.ireturn), some (.aload_n 0), some (.getfield 31), none, none, some (.aload_n 0), some (.getfield 41), none, none, some (.if_icmp .ne (6)), none, none, some (.bipush (-3)), none, some (.ireturn), some (.aload_n 0), some (.getfield 41), none, none, some (.istore_n 3), some (.iinc 4 (1)), none, none, some (.goto (-91)), none, none, some (.bipush (-2)), none, some (.ireturn)]
def zp_p68 : List (Nat × zi_T × List Nat) := [(31, (0, 4, 6, .null), [196]), (34, (0, 4, 7, .null), [197]), (38, (0, 4, 8, .null), [198]), (41, (0, 4, 9, .null), [200]), (51, (1, 69, 2, .ref 4), [600, 59, 603, 602, 10]), (55, (1, 44, 0, .ref 2), [622, 56, 625, 623, 624]), (59, (1, 70, 1, .ref 4), [626, 59, 629, 628, 12])]
/-- 69: PatienceTable$Search.begin(LPatienceTable$Layout;I)V -/
def zp_l69 : List (Option Jvm.ClassFile.Instr) := [some (.aload_n 0), some (.iload_n 2), some (.putfield 27), none, none, some (.aload_n 0), some (.iconst 0), some (.putfield 34), none, none, some (.aload_n 0), some (.iconst (-1)), some (.putfield 38), none, none, some (.aload_n 0), some (.iconst 0), some (.putfield 41), none, none, some (.aload_n 0), some (.getfield 24), none, none, some (.iconst 0), some (.invokestatic 63), none, none, some (.aload_n 0), some (.getfield 11), none, none, some (.iconst 0), some (.aaload), some (.aload_n 1), some (.invokevirtual 69), none, none, some (.aload_n 0), some (.getfield 17), none, none, some (.iconst 0), some (.aload_n 0), some (.aload_n 1), some (.invokevirtual 73), none, none, some (.iastore), some (.aload_n 0), some (.getfield 24), none, none, some (.aload_n 0), some (.getfield 17), none, none, some (.iconst 0), some (.iaload), some (.sipush (511)), none, none, some (.iand), some (.iconst 1), some (.iastore), some (.aload_n 0), some (.iconst 1), some (.putfield 31), none, none, some (.return_)]
def zp_p69 : List (Nat × zi_T × List Nat) := [(11, (9, 4, 1, .null), [191]), (17, (9, 4, 2, .null), [192]), (24, (9, 4, 4, .null), [194]), (27, (0, 4, 5, .null), [195]), (31, (0, 4, 6, .null), [196]), (34, (0, 4, 7, .null), [197]), (38, (0, 4, 8, .null), [198]), (41, (0, 4, 9, .null), [200]), (63, (3, 134, 2, .null), [604, 57, 125, 124]), (69, (1, 41, 1, .ref 2), [605, 56, 608, 606, 607]), (73, (1, 74, 1, .ref 4), [612, 59, 615, 614, 11])]
/-- 70: PatienceTable$Search.expand(I)V -/
def zp_l70 : List (Option Jvm.ClassFile.Instr) := [some (.aload_n 0), some (.getfield 11), none, none, some (.iload_n 1), some (.aaload), some (.astore_n 2), some (.iconst 0), some (.istore_n 3), some (.iload_n 3), some (.bipush (12)), none, some (.if_icmp .ge (43)), none, none, some (.iconst 0), some (.istore 4), none, some (.iload 4), none, some (.bipush (12)), none, some (.if_icmp .gt (27)), none, none, some (.aload_n 2), some (.iload_n 3), some (.iload 4), none, some (.invokevirtual 77), none, none, some (.ifCond .eq (11)), none, none, some (.aload_n 0), some (.iload_n 1), some (.iload_n 3), some (.iload 4), none, some (.invokevirtual 81), none, none, some (.iinc 4 (1)), none, none, some (.goto (-28)), none, none, some (.iinc 3 (1)), none, none, some (.goto (-43)), none, none, some (.return_)]
def zp_p70 : List (Nat × zi_T × List Nat) := [(11, (9, 4, 1, .null), [191]), (77, (1, 50, 2, .ref 2), [630, 56, 343, 341, 342]), (81, (1, 71, 3, .ref 4), [631, 59, 634, 633, 13])]
/-- 71: PatienceTable$Search.reach(III)V -/
def zp_l71 : List (Option Jvm.ClassFile.Instr) := [some (.aload_n 0), some (.getfield 11), none, none, some (.iload_n 1), some (.aaload), some (.astore 4), none, some (.iload_n 1), some (.ifCond .ne (12)), none, none, some (.bipush (16)), none, some (.iload_n 2), some (.imul), some (.iload_n 3), some (.iadd), some (.goto (9)), none, none, some (.aload_n 0), some (.getfield 21), none, none, some (.iload_n 1), some (.iaload), some (.istore 5), none, some (.iload_n 3), some (.bipush (12)), none, some (.if_icmp .ne (27)), none, none, some (.aload 4), none, some (.getfield 85), none, none, some (.iconst 1), some (.iadd), some (.aload_n 0), some (.getfield 44), none, none, some (.invokevirtual 88), none, none, some (.if_icmp .ne (10)), none, none, some (.aload_n 0), some (.iload 5), none, some (.putfield 38), none, none, some (.return_), some (.aload_n 0), some (.getfield 34), none, none, some (.ifCond .eq (4)), none, none, some (.return_), some (.aload 4), none, some (.getfield 94), none, none, some (.iload_n 2), some (.iaload), some (.istore 6), none, some (.aload 4), none, some (.iload_n 3), some (.invokevirtual 97), none, none, some (.istore 7), none, some (.aload_n 0), some (.getfield 17), none, none, some (.iload_n 1), some (.iaload), some (.iload 6), none, some (.aload 4), none, some (.getfield 101), none, none, some (.iload 6), none, some (.iaload), some (.invokestatic 104), none, none, some (.isub), some (.iload 6), none, some (.iload 7), none, some (.invokestatic 104), none, none, some (.iadd), some (.istore 8), none, some (.aload_n 0), some (.iload 8), none, some (.aload 4), none, some (.iload 6), none, some (.iload 7), none, some (.invokevirtual 108), none, none, some (.istore 9), none, some (.aload_n 0), some (.getfield 24), none, none, some (.iload 9), none, some (.iaload), some (.ifCond .eq (4)), none, none, some (.return_), some (.aload_n 0), some (.getfield 31), none, none, some (.aload_n 0), some (.getfield 27), none, none, some (.if_icmp .lt (9)), none, none, some (.aload_n 0), some (.iconst 1), some (.putfield 34), none, none, some (.return_), some (.aload_n 0), some (.getfield 11), none, none, some (.aload_n 0), some (.getfield 31), none, none, some (.aaload), some (.aload 4), none, some (.invokevirtual 69), none, none, some (.aload_n 0), some (.getfield 11), none, none, some (.aload_n 0), some (.getfield 31), none, none, some (.aaload), some (.iload 6), none, some (.iload_n 2), some (.iload_n 3), some (.invokevirtual 112), none, none, some (.aload_n 0), some (.getfield 17), none, none, some (.aload_n 0), some (.getfield 31), none, none, some (.iload 8), none, some (.iastore), some (.aload_n 0), some (.getfield 21), none, none, some (.aload_n 0), some (.getfield 31), none, none, some (.iload 5), none, some (.iastore), some (.aload_n 0), some (.dup), some (.getfield 31), none, none, some (.iconst 1), some (.iadd), some (.putfield 31), none, none, some (.aload_n 0), some (.getfield 24), none, none, some (.iload 9), none, some (.aload_n 0), some (.getfield 31), none, none, some (.iastore), some (.return_)]
def zp_p71 : List (Nat × zi_T × List Nat) := [(11, (9, 4, 1, .null), [191]), (17, (9, 4, 2, .null), [192]), (21, (9, 4, 3, .null), [193]), (24, (9, 4, 4, .null), [194]), (27, (0, 4, 5, .null), [195]), (31, (0, 4, 6, .null), [196]), (34, (0, 4, 7, .null), [197]), (38, (0, 4, 8, .null), [198]), (44, (9, 4, 0, .null), [190]), (69, (1, 41, 1, .ref 2), [605, 56, 608, 606, 607]), (85, (0, 2, 5, .null), [135]), (88, (1, 32, 0, .ref 1), [616, 55, 311, 309, 310]), (94, (9, 2, 2, .null), [130]), (97, (1, 61, 1, .ref 2), [635, 56, 521, 519, 520]), (101, (9, 2, 1, .null), [128]), (104, (3, 75, 2, .null), [617, 59, 619, 618]), (108, (1, 72, 4, .ref 4), [636, 59, 639, 638, 14]), (112, (1, 62, 3, .ref 2), [644, 56, 517, 515, 516])]
/-- 72: PatienceTable$Search.slotFor(ILPatienceTable$Layout;II)I -/
def zp_l72 : List (Option Jvm.ClassFile.Instr) := [some (.iload_n 1), some (.sipush (511)), none, none, some (.iand), some (.istore 5), none, some (.iconst 0), some (.istore 6), none, some (.iload 6), none, some (.sipush (512)), none, none, some (.if_icmp .ge (72)), none, none, some (.aload_n 0), some (.getfield 24), none, none, some (.iload 5), none, some (.iaload), some (.ifCond .eq (62)), none, none, some (.aload_n 0), some (.getfield 24), none, none, some (.iload 5), none, some (.iaload), some (.iconst 1), some (.isub), some (.istore 7), none, some (.aload_n 0), some (.getfield 17), none, none, some (.iload 7), none, some (.iaload), some (.iload_n 1), some (.if_icmp .ne (24)), none, none, some (.aload_n 0), some (.aload_n 0), some (.getfield 11), none, none, some (.iload 7), none, some (.aaload), some (.aload_n 2), some (.iload_n 3), some (.iload 4), none, some (.invokevirtual 115), none, none, some (.ifCond .eq (6)), none, none, some (.iload 5), none, some (.ireturn), some (.iload 5), none, some (.iconst 1), some (.iadd), some (.sipush (511)), none, none, some (.iand), some (.istore 5), none, some (.iinc 6 (1)), none, none, some (.goto (-74)), none, none, some (.iload 5), none, some (.ireturn)]
def zp_p72 : List (Nat × zi_T × List Nat) := [(11, (9, 4, 1, .null), [191]), (17, (9, 4, 2, .null), [192]), (24, (9, 4, 4, .null), [194]), (115, (1, 73, 4, .ref 4), [640, 59, 643, 642, 15])]
/-- 73: PatienceTable$Search.isAlike(LPatienceTable$Layout;LPatienceTable$Layout;II)Z -/
def zp_l73 : List (Option Jvm.ClassFile.Instr) := [some (.aload_n 0), some (.getfield 44), none, none, some (.invokevirtual 88), none, none, some (.istore 5), none, some (.iconst 0), some (.istore 6), none, some (.iload 6), none, some (.iload 5), none, some (.if_icmp .ge (43)), none, none, some (.iload 6), none, some (.iload_n 3), some (.if_icmp .ne (8)), none, none, some (.iload 4), none, some (.goto (10)), none, none, some (.aload_n 2), some (.getfield 101), none, none, some (.iload 6), none, some (.iaload), some (.istore 7), none, some (.aload_n 1), some (.getfield 101), none, none, some (.iload 6), none, some (.iaload), some (.iload 7), none, some (.if_icmp .eq (5)), none, none, some (.iconst 0), some (.ireturn), some (.iinc 6 (1)), none, none, some (.goto (-44)), none, none, some (.iconst 1), some (.ireturn)]
def zp_p73 : List (Nat × zi_T × List Nat) := [(44, (9, 4, 0, .null), [190]), (88, (1, 32, 0, .ref 1), [616, 55, 311, 309, 310]), (101, (9, 2, 1, .null), [128])]
/-- 74: PatienceTable$Search.hashOf(LPatienceTable$Layout;)I -/
def zp_l74 : List (Option Jvm.ClassFile.Instr) := [some (.iconst 0), some (.istore_n 2), some (.aload_n 0), some (.getfield 44), none, none, some (.invokevirtual 88), none, none, some (.istore_n 3), some (.iconst 0), some (.istore 4), none, some (.iload 4), none, some (.iload_n 3), some (.if_icmp .ge (24)), none, none, some (.iload_n 2), some (.iload 4), none, some (.aload_n 1), some (.getfield 101), none, none, some (.iload 4), none, some (.iaload), some (.invokestatic 104), none, none, some (.iadd), some (.istore_n 2), some (.iinc 4 (1)), none, none, some (.goto (-24)), none, none, some (.iload_n 2), some (.ireturn)]
def zp_p74 : List (Nat × zi_T × List Nat) := [(44, (9, 4, 0, .null), [190]), (88, (1, 32, 0, .ref 1), [616, 55, 311, 309, 310]), (101, (9, 2, 1, .null), [128]), (104, (3, 75, 2, .null), [617, 59, 619, 618])]
/-- 75: PatienceTable$Search.share(II)I -/
def zp_l75 : List (Option Jvm.ClassFile.Instr) := [some (.bipush (64)), none, some (.iload_n 0), some (.imul), some (.iload_n 1), some (.iadd), some (.bipush (-4)), none, some (.isub), some (.ldc 119), none, some (.imul), some (.istore_n 2), some (.iload_n 2), some (.iload_n 2), some (.bipush (15)), none, some (.iushr), some (.ixor), some (.ldc 120), none, some (.imul), some (.istore_n 2), some (.iload_n 2), some (.iload_n 2), some (.bipush (13)), none, some (.iushr), some (.ixor), some (.ireturn)]
def zp_p75 : List (Nat × zi_T × List Nat) := [(119, (6, 0, 0, .int (-1640531535)), [620]), (120, (6, 0, 0, .int (-2048144777)), [621])]
/-- 76: PatienceTableModel.<init>()V -/
def zp_l76 : List (Option Jvm.ClassFile.Instr) := [some (.aload_n 0), some (.invokespecial 1), none, none, some (.aload_n 0), some (.bipush (8)), none, some (.putfield 7), none, none, some (.aload_n 0), some (.iconst 4), some (.putfield 13), none, none, some (.aload_n 0), some (.iconst 4), some (.putfield 16), none, none, some (.aload_n 0), some (.bipush (13)), none, some (.putfield 19), none, none, some (.aload_n 0), some (.sipush (416)), none, none, some (.newarray .int), none, some (.putfield 22), none, none, some (.aload_n 0), some (.bipush (8)), none, some (.newarray .int), none, some (.putfield 26), none, none, some (.aload_n 0), some (.iconst 4), some (.newarray .int), none, some (.putfield 29), none, none, some (.aload_n 0), some (.iconst 4), some (.newarray .int), none, some (.putfield 32), none, none, some (.aload_n 0), some (.bipush (52)), none, some (.newarray .boolean), none, some (.putfield 35), none, none, some (.aload_n 0), some (.bipush (52)), none, some (.newarray .int), none, some (.putfield 39), none, none, some (.aload_n 0), some (.sipush (240)), none, none, some (.newarray .int), none, some (.putfield 42), none, none, some (.aload_n 0), some (.iconst (-1)), some (.putfield 45), none, none, some (.aload_n 0), some (.sipush (10504)), none, none, some (.newarray .int), none, some (.putfield 48), none, none, some (.aload_n 0), some (.sipush (202)), none, none, some (.newarray .int), none, some (.putfield 51), none, none, some (.aload_n 0), some (.sipush (202)), none, none, some (.newarray .boolean), none, some (.putfield 54), none, none, some (.aload_n 0), some (.sipush (210)), none, none, some (.newarray .int), none, some (.putfield 57), none, none, some (.aload_n 0), some (.iconst 4), some (.newarray .int), none, some (.putfield 60), none, none, some (.aload_n 0), some (.bipush (52)), none, some (.newarray .boolean), none, some (.putfield 63), none, none, some (.aload_n 0), some (.invokevirtual 66), none, none, some (.return_)]
def zp_p76 : List (Nat × zi_T × List Nat) := [(1, (7, 0, 0, .null), [650, 75, 76]), (7, (0, 5, 1, .null), [656]), (13, (0, 5, 2, .null), [657]), (16, (0, 5, 5, .null), [660]), (19, (0, 5, 6, .null), [661]), (22, (8, 5, 7, .null), [662]), (26, (8, 5, 8, .null), [663]), (29, (8, 5, 9, .null), [664]), (32, (8, 5, 10, .null), [665]), (35, (8, 5, 11, .null), [666]), (39, (8, 5, 12, .null), [667]), (42, (8, 5, 14, .null), [669]), (45, (0, 5, 15, .null), [670]), (48, (8, 5, 17, .null), [672]), (51, (8, 5, 18, .null), [673]), (54, (8, 5, 19, .null), [674]), (57, (8, 5, 20, .null), [675]), (60, (8, 5, 25, .null), [680]), (63, (8, 5, 28, .null), [683]), (66, (1, 86, 0, .ref 5), [651, 60, 654, 653, 16])]
/-- 77: PatienceTableModel.thrown()I -/
def zp_l77 : List (Option Jvm.ClassFile.Instr) := [some (.aload_n 0), some (.getfield 69), none, none, some (.ireturn)]
def zp_p77 : List (Nat × zi_T × List Nat) := [(69, (0, 5, 0, .null), [655])]
/-- 78: PatienceTableModel.refuse(I)I -/
def zp_l78 : List (Option Jvm.ClassFile.Instr) := [some (.aload_n 0), some (.iload_n 1), some (.putfield 69), none, none, some (.iconst 0), some (.ireturn)]
def zp_p78 : List (Nat × zi_T × List Nat) := [(69, (0, 5, 0, .null), [655])]
/-- 79: PatienceTableModel.within(III)Z -/
def zp_l79 : List (Option Jvm.ClassFile.Instr) := [some (.iload_n 0), some (.iload_n 1), some (.if_icmp .lt (12)), none, none, some (.iload_n 0), some (.iload_n 2), some (.if_icmp .gt (7)), none, none, some (.iconst 1), some (.goto (4)), none, none, some (.iconst 0), some (.ireturn)]
def zp_p79 : List (Nat × zi_T × List Nat) := []
/-- 80: PatienceTableModel.all()I -/
def zp_l80 : List (Option Jvm.ClassFile.Instr) := [some (.aload_n 0), some (.getfield 16), none, none, some (.aload_n 0), some (.getfield 19), none, none, some (.imul), some (.ireturn)]
def zp_p80 : List (Nat × zi_T × List Nat) := [(16, (0, 5, 5, .null), [660]), (19, (0, 5, 6, .null), [661])]
/-- 81: PatienceTableModel.suit(I)I -/
def zp_l81 : List (Option Jvm.ClassFile.Instr) := [some (.iload_n 1), some (.aload_n 0), some (.getfield 16), none, none, some (.irem), some (.ireturn)]
def zp_p81 : List (Nat × zi_T × List Nat) := [(16, (0, 5, 5, .null), [660])]
/-- 82: PatienceTableModel.rank(I)I -/
def zp_l82 : List (Option Jvm.ClassFile.Instr) := [some (.iload_n 1), some (.aload_n 0), some (.getfield 16), none, none, some (.idiv), some (.iconst 1), some (.iadd), some (.ireturn)]
def zp_p82 : List (Nat × zi_T × List Nat) := [(16, (0, 5, 5, .null), [660])]
/-- 83: PatienceTableModel.isBlack(I)Z -/
def zp_l83 : List (Option Jvm.ClassFile.Instr) := [some (.iload_n 0), some (.ifCond .eq (8)), none, none, some (.iload_n 0), some (.iconst 3), some (.if_icmp .ne (7)), none, none, some (.iconst 1), some (.goto (4)), none, none, some (.iconst 0), some (.ireturn)]
def zp_p83 : List (Nat × zi_T × List Nat) := []
/-- 84: PatienceTableModel.fitsOn(II)Z -/
def zp_l84 : List (Option Jvm.ClassFile.Instr) := [some (.aload_n 0), some (.iload_n 1), some (.invokevirtual 72), none, none, some (.aload_n 0), some (.iload_n 2), some (.invokevirtual 72), none, none, some (.iconst 1), some (.isub), some (.if_icmp .eq (5)), none, none, some (.iconst 0), some (.ireturn), some (.aload_n 0), some (.getfield 76), none, none, some (.iconst 2), some (.if_icmp .eq (46)), none, none, some (.aload_n 0), some (.getfield 76), none, none, some (.iconst 1), some (.if_icmp .ne (19)), none, none, some (.aload_n 0), some (.iload_n 1), some (.invokevirtual 79), none, none, some (.aload_n 0), some (.iload_n 2), some (.invokevirtual 79), none, none, some (.if_icmp .ne (29)), none, none, some (.goto (22)), none, none, some (.aload_n 0), some (.iload_n 1), some (.invokevirtual 79), none, none, some (.invokestatic 82), none, none, some (.aload_n 0), some (.iload_n 2), some (.invokevirtual 79), none, none, some (.invokestatic 82), none, none, some (.if_icmp .eq (7)), none, none, some (.iconst 1), some (.goto (4)), none, none, some (.iconst 0), some (.ireturn)]
def zp_p84 : List (Nat × zi_T × List Nat) := [(72, (1, 82, 1, .ref 5), [823, 60, 826, 825, 28]), (76, (0, 5, 3, .null), [658]), (79, (1, 81, 1, .ref 5), [819, 60, 822, 821, 27]), (82, (3, 83, 1, .null), [839, 60, 841, 840])]
/-- 85: PatienceTableModel.fitsEmpty(I)Z -/
def zp_l85 : List (Option Jvm.ClassFile.Instr) := [some (.aload_n 0), some (.getfield 86), none, none, some (.ifCond .eq (23)), none, none, some (.aload_n 0), some (.getfield 86), none, none, some (.iconst 1), some (.if_icmp .ne (19)), none, none, some (.aload_n 0), some (.iload_n 1), some (.invokevirtual 72), none, none, some (.aload_n 0), some (.getfield 19), none, none, some (.if_icmp .ne (7)), none, none, some (.iconst 1), some (.goto (4)), none, none, some (.iconst 0), some (.ireturn)]
def zp_p85 : List (Nat × zi_T × List Nat) := [(19, (0, 5, 6, .null), [661]), (72, (1, 82, 1, .ref 5), [823, 60, 826, 825, 28]), (86, (0, 5, 4, .null), [659])]
/-- 86: PatienceTableModel.wipe()V -/
def zp_l86 : List (Option Jvm.ClassFile.Instr) := [some (.iconst 0), some (.istore_n 1), some (.iload_n 1), some (.bipush (8)), none, some (.if_icmp .ge (16)), none, none, some (.aload_n 0), some (.getfield 26), none, none, some (.iload_n 1), some (.iconst 0), some (.iastore), some (.iinc 1 (1)), none, none, some (.goto (-16)), none, none, some (.iconst 0), some (.istore_n 1), some (.iload_n 1), some (.iconst 4), some (.if_icmp .ge (23)), none, none, some (.aload_n 0), some (.getfield 29), none, none, some (.iload_n 1), some (.iconst (-1)), some (.iastore), some (.aload_n 0), some (.getfield 32), none, none, some (.iload_n 1), some (.iconst 0), some (.iastore), some (.iinc 1 (1)), none, none, some (.goto (-22)), none, none, some (.iconst 0), some (.istore_n 1), some (.iload_n 1), some (.bipush (52)), none, some (.if_icmp .ge (16)), none, none, some (.aload_n 0), some (.getfield 35), none, none, some (.iload_n 1), some (.iconst 0), some (.bastore), some (.iinc 1 (1)), none, none, some (.goto (-16)), none, none, some (.aload_n 0), some (.iconst 0), some (.putfield 89), none, none, some (.aload_n 0), some (.iconst (-1)), some (.putfield 45), none, none, some (.return_)]
def zp_p86 : List (Nat × zi_T × List Nat) := [(26, (9, 5, 8, .null), [663]), (29, (9, 5, 9, .null), [664]), (32, (9, 5, 10, .null), [665]), (35, (9, 5, 11, .null), [666]), (45, (0, 5, 15, .null), [670]), (89, (0, 5, 13, .null), [668])]
/-- 87: PatienceTableModel.rules(IIII)Z -/
def zp_l87 : List (Option Jvm.ClassFile.Instr) := [some (.aload_n 0), some (.iconst 0), some (.putfield 69), none, none, some (.iload_n 1), some (.iconst 2), some (.bipush (8)), none, some (.invokestatic 92), none, none, some (.ifCond .eq (31)), none, none, some (.iload_n 2), some (.iconst 0), some (.iconst 4), some (.invokestatic 92), none, none, some (.ifCond .eq (22)), none, none, some (.iload_n 3), some (.iconst 0), some (.iconst 2), some (.invokestatic 92), none, none, some (.ifCond .eq (13)), none, none, some (.iload 4), none, some (.iconst 0), some (.iconst 2), some (.invokestatic 92), none, none, some (.ifCond .ne (5)), none, none, some (.iconst 0), some (.ireturn), some (.aload_n 0), some (.iload_n 1), some (.putfield 7), none, none, some (.aload_n 0), some (.iload_n 2), some (.putfield 13), none, none, some (.aload_n 0), some (.iload_n 3), some (.putfield 76), none, none, some (.aload_n 0), some (.iload 4), none, some (.putfield 86), none, none, some (.aload_n 0), some (.invokevirtual 66), none, none, some (.iconst 1), some (.ireturn)]
def zp_p87 : List (Nat × zi_T × List Nat) := [(7, (0, 5, 1, .null), [656]), (13, (0, 5, 2, .null), [657]), (66, (1, 86, 0, .ref 5), [651, 60, 654, 653, 16]), (69, (0, 5, 0, .null), [655]), (76, (0, 5, 3, .null), [658]), (86, (0, 5, 4, .null), [659]), (92, (3, 79, 3, .null), [752, 60, 754, 753])]
/-- 88: PatienceTableModel.cards(II)Z -/
def zp_l88 : List (Option Jvm.ClassFile.Instr) := [some (.aload_n 0), some (.iconst 0), some (.putfield 69), none, none, some (.iload_n 1), some (.iconst 1), some (.iconst 4), some (.invokestatic 92), none, none, some (.ifCond .eq (13)), none, none, some (.iload_n 2), some (.iconst 1), some (.bipush (13)), none, some (.invokestatic 92), none, none, some (.ifCond .ne (5)), none, none, some (.iconst 0), some (.ireturn), some (.aload_n 0), some (.iload_n 1), some (.putfield 16), none, none, some (.aload_n 0), some (.iload_n 2), some (.putfield 19), none, none, some (.aload_n 0), some (.invokevirtual 66), none, none, some (.iconst 1), some (.ireturn)]
def zp_p88 : List (Nat × zi_T × List Nat) := [(16, (0, 5, 5, .null), [660]), (19, (0, 5, 6, .null), [661]), (66, (1, 86, 0, .ref 5), [651, 60, 654, 653, 16]), (69, (0, 5, 0, .null), [655]), (92, (3, 79, 3, .null), [752, 60, 754, 753])]
/-- 89: PatienceTableModel.clear()V -/
def zp_l89 : List (Option Jvm.ClassFile.Instr) := [some (.aload_n 0), some (.iconst 0), some (.putfield 69), none, none, some (.aload_n 0), some (.invokevirtual 66), none, none, some (.return_)]
def zp_p89 : List (Nat × zi_T × List Nat) := [(66, (1, 86, 0, .ref 5), [651, 60, 654, 653, 16]), (69, (0, 5, 0, .null), [655])]
/-- 90: PatienceTableModel.push(II)V -/
def zp_l90 : List (Option Jvm.ClassFile.Instr) := [some (.aload_n 0), some (.getfield 22), none, none, some (.bipush (52)), none, some (.iload_n 1), some (.imul), some (.aload_n 0), some (.getfield 26), none, none, some (.iload_n 1), some (.iaload), some (.iadd), some (.iload_n 2), some (.iastore), some (.aload_n 0), some (.getfield 26), none, none, some (.iload_n 1), some (.dup2), some (.iaload), some (.iconst 1), some (.iadd), some (.iastore), some (.return_)]
def zp_p90 : List (Nat × zi_T × List Nat) := [(22, (9, 5, 7, .null), [662]), (26, (9, 5, 8, .null), [663])]
/-- 91: PatienceTableModel.deal(I)V -/
def zp_l91 : List (Option Jvm.ClassFile.Instr) := [some (.aload_n 0), some (.iconst 0), some (.putfield 69), none, none, some (.iload_n 1), some (.iconst 0), some (.sipush (32000)), none, none, some (.invokestatic 92), none, none, some (.ifCond .ne (9)), none, none, some (.aload_n 0), some (.iconst 1), some (.putfield 69), none, none, some (.return_), some (.aload_n 0), some (.invokevirtual 66), none, none, some (.aload_n 0), some (.invokevirtual 96), none, none, some (.istore_n 2), some (.iconst 0), some (.istore_n 3), some (.iload_n 3), some (.iload_n 2), some (.if_icmp .ge (16)), none, none, some (.aload_n 0), some (.getfield 39), none, none, some (.iload_n 3), some (.iload_n 3), some (.iastore), some (.iinc 3 (1)), none, none, some (.goto (-15)), none, none, some (.iload_n 1), some (.i2l), some (.lstore_n 3), some (.iconst 0), some (.istore 5), none, some (.iload_n 2), some (.ifCond .le (81)), none, none, some (.ldc2_w 100), none, none, some (.lload_n 3), some (.lmul), some (.ldc2_w 102), none, none, some (.ladd), some (.ldc2_w 104), none, none, some (.lrem), some (.lstore_n 3), some (.lload_n 3), some (.ldc2_w 106), none, none, some (.ldiv), some (.iload_n 2), some (.i2l), some (.lrem), some (.l2i), some (.istore 6), none, some (.aload_n 0), some (.iload 5), none, some (.aload_n 0), some (.getfield 7), none, none, some (.irem), some (.aload_n 0), some (.getfield 39), none, none, some (.iload 6), none, some (.iaload), some (.invokevirtual 108), none, none, some (.aload_n 0), some (.getfield 35), none, none, some (.aload_n 0), some (.getfield 39), none, none, some (.iload 6), none, some (.iaload), some (.iconst 1), some (.bastore), some (.iinc 2 (-1)), none, none, some (.aload_n 0), some (.getfield 39), none, none, some (.iload 6), none, some (.aload_n 0), some (.getfield 39), none, none, some (.iload_n 2), some (.iaload), some (.iastore), some (.iinc 5 (1)), none, none, some (.goto (-79)), none, none, some (.return_)]
def zp_p91 : List (Nat × zi_T × List Nat) := [(7, (0, 5, 1, .null), [656]), (35, (9, 5, 11, .null), [666]), (39, (9, 5, 12, .null), [667]), (66, (1, 86, 0, .ref 5), [651, 60, 654, 653, 16]), (69, (0, 5, 0, .null), [655]), (92, (3, 79, 3, .null), [752, 60, 754, 753]), (96, (1, 80, 0, .ref 5), [767, 60, 770, 769, 17]), (100, (6, 0, 0, .long (214013)), [771]), (102, (6, 0, 0, .long (2531011)), [772]), (104, (6, 0, 0, .long (2147483648)), [773]), (106, (6, 0, 0, .long (65536)), [774]), (108, (1, 90, 2, .ref 5), [775, 60, 778, 777, 18])]
/-- 92: PatienceTableModel.laid()I -/
def zp_l92 : List (Option Jvm.ClassFile.Instr) := [some (.iconst 0), some (.istore_n 1), some (.iconst 0), some (.istore_n 2), some (.iload_n 2), some (.bipush (52)), none, some (.if_icmp .ge (26)), none, none, some (.aload_n 0), some (.getfield 35), none, none, some (.iload_n 2), some (.baload), some (.ifCond .eq (9)), none, none, some (.iload_n 1), some (.iconst 1), some (.iadd), some (.goto (4)), none, none, some (.iload_n 1), some (.istore_n 1), some (.iinc 2 (1)), none, none, some (.goto (-26)), none, none, some (.iload_n 1), some (.ireturn)]
def zp_p92 : List (Nat × zi_T × List Nat) := [(35, (9, 5, 11, .null), [666])]
/-- 93: PatienceTableModel.lay(II)I -/
def zp_l93 : List (Option Jvm.ClassFile.Instr) := [some (.aload_n 0), some (.iconst 0), some (.putfield 69), none, none, some (.iload_n 1), some (.iconst 0), some (.aload_n 0), some (.getfield 7), none, none, some (.iconst 1), some (.isub), some (.invokestatic 92), none, none, some (.ifCond .eq (17)), none, none, some (.iload_n 2), some (.iconst 0), some (.aload_n 0), some (.invokevirtual 96), none, none, some (.iconst 1), some (.isub), some (.invokestatic 92), none, none, some (.ifCond .ne (9)), none, none, some (.aload_n 0), some (.iconst 1), some (.invokevirtual 112), none, none, some (.ireturn), some (.aload_n 0), some (.getfield 35), none, none, some (.iload_n 2), some (.baload), some (.ifCond .eq (9)), none, none, some (.aload_n 0), some (.iconst 2), some (.invokevirtual 112), none, none, some (.ireturn), some (.aload_n 0), some (.iload_n 1), some (.iload_n 2), some (.invokevirtual 108), none, none, some (.aload_n 0), some (.getfield 35), none, none, some (.iload_n 2), some (.iconst 1), some (.bastore), some (.aload_n 0), some (.iconst (-1)), some (.putfield 45), none, none, some (.aload_n 0), some (.invokevirtual 115), none, none, some (.ireturn)]
def zp_p93 : List (Nat × zi_T × List Nat) := [(7, (0, 5, 1, .null), [656]), (35, (9, 5, 11, .null), [666]), (45, (0, 5, 15, .null), [670]), (69, (0, 5, 0, .null), [655]), (92, (3, 79, 3, .null), [752, 60, 754, 753]), (96, (1, 80, 0, .ref 5), [767, 60, 770, 769, 17]), (108, (1, 90, 2, .ref 5), [775, 60, 778, 777, 18]), (112, (1, 78, 1, .ref 5), [783, 60, 786, 785, 19]), (115, (1, 92, 0, .ref 5), [787, 60, 790, 789, 20])]
/-- 94: PatienceTableModel.isColumn(I)Z -/
def zp_l94 : List (Option Jvm.ClassFile.Instr) := [some (.iload_n 1), some (.iconst 0), some (.aload_n 0), some (.getfield 7), none, none, some (.iconst 1), some (.isub), some (.invokestatic 92), none, none, some (.ireturn)]
def zp_p94 : List (Nat × zi_T × List Nat) := [(7, (0, 5, 1, .null), [656]), (92, (3, 79, 3, .null), [752, 60, 754, 753])]
/-- 95: PatienceTableModel.isCell(I)Z -/
def zp_l95 : List (Option Jvm.ClassFile.Instr) := [some (.iload_n 1), some (.bipush (8)), none, some (.bipush (7)), none, some (.aload_n 0), some (.getfield 13), none, none, some (.iadd), some (.invokestatic 92), none, none, some (.ireturn)]
def zp_p95 : List (Nat × zi_T × List Nat) := [(13, (0, 5, 2, .null), [657]), (92, (3, 79, 3, .null), [752, 60, 754, 753])]
/-- 96: PatienceTableModel.atHome()I -/
def zp_l96 : List (Option Jvm.ClassFile.Instr) := [some (.aload_n 0), some (.getfield 32), none, none, some (.iconst 0), some (.iaload), some (.aload_n 0), some (.getfield 32), none, none, some (.iconst 1), some (.iaload), some (.iadd), some (.aload_n 0), some (.getfield 32), none, none, some (.iconst 2), some (.iaload), some (.iadd), some (.aload_n 0), some (.getfield 32), none, none, some (.iconst 3), some (.iaload), some (.iadd), some (.ireturn)]
def zp_p96 : List (Nat × zi_T × List Nat) := [(32, (9, 5, 10, .null), [665])]
/-- 97: PatienceTableModel.fromTop(II)I -/
def zp_l97 : List (Option Jvm.ClassFile.Instr) := [some (.iload_n 2), some (.aload_n 0), some (.getfield 26), none, none, some (.iload_n 1), some (.iaload), some (.if_icmp .ge (26)), none, none, some (.aload_n 0), some (.getfield 22), none, none, some (.bipush (52)), none, some (.iload_n 1), some (.imul), some (.aload_n 0), some (.getfield 26), none, none, some (.iload_n 1), some (.iaload), some (.iadd), some (.iconst 1), some (.isub), some (.iload_n 2), some (.isub), some (.iaload), some (.goto (4)), none, none, some (.iconst (-1)), some (.ireturn)]
def zp_p97 : List (Nat × zi_T × List Nat) := [(22, (9, 5, 7, .null), [662]), (26, (9, 5, 8, .null), [663])]
/-- 98: PatienceTableModel.topOf(I)I -/
def zp_l98 : List (Option Jvm.ClassFile.Instr) := [some (.aload_n 0), some (.iload_n 1), some (.invokevirtual 118), none, none, some (.ifCond .eq (15)), none, none, some (.aload_n 0), some (.getfield 29), none, none, some (.iload_n 1), some (.bipush (8)), none, some (.isub), some (.iaload), some (.goto (9)), none, none, some (.aload_n 0), some (.iload_n 1), some (.iconst 0), some (.invokevirtual 121), none, none, some (.ireturn)]
def zp_p98 : List (Nat × zi_T × List Nat) := [(29, (9, 5, 9, .null), [664]), (118, (1, 95, 1, .ref 5), [799, 60, 802, 801, 22]), (121, (1, 97, 2, .ref 5), [815, 60, 818, 817, 26])]
/-- 99: PatienceTableModel.fitsAt(II)Z -/
def zp_l99 : List (Option Jvm.ClassFile.Instr) := [some (.aload_n 0), some (.getfield 26), none, none, some (.iload_n 2), some (.iaload), some (.ifCond .ne (11)), none, none, some (.aload_n 0), some (.iload_n 1), some (.invokevirtual 125), none, none, some (.goto (14)), none, none, some (.aload_n 0), some (.iload_n 1), some (.aload_n 0), some (.iload_n 2), some (.iconst 0), some (.invokevirtual 121), none, none, some (.invokevirtual 128), none, none, some (.ireturn)]
def zp_p99 : List (Nat × zi_T × List Nat) := [(26, (9, 5, 8, .null), [663]), (121, (1, 97, 2, .ref 5), [815, 60, 818, 817, 26]), (125, (1, 85, 1, .ref 5), [831, 60, 834, 833, 30]), (128, (1, 84, 2, .ref 5), [835, 60, 838, 837, 31])]
/-- 100: PatienceTableModel.mayOne(II)Z -/
def zp_l100 : List (Option Jvm.ClassFile.Instr) := [some (.aload_n 0), some (.iload_n 1), some (.invokevirtual 132), none, none, some (.istore_n 3), some (.iload_n 3), some (.ifCond .lt (8)), none, none, some (.iload_n 1), some (.iload_n 2), some (.if_icmp .ne (5)), none, none, some (.iconst 0), some (.ireturn), some (.iload_n 2), some (.bipush (12)), none, some (.if_icmp .ne (29)), none, none, some (.aload_n 0), some (.getfield 32), none, none, some (.aload_n 0), some (.iload_n 3), some (.invokevirtual 79), none, none, some (.iaload), some (.iconst 1), some (.iadd), some (.aload_n 0), some (.iload_n 3), some (.invokevirtual 72), none, none, some (.if_icmp .ne (7)), none, none, some (.iconst 1), some (.goto (4)), none, none, some (.iconst 0), some (.ireturn), some (.aload_n 0), some (.iload_n 2), some (.invokevirtual 118), none, none, some (.ifCond .eq (29)), none, none, some (.aload_n 0), some (.iload_n 1), some (.invokevirtual 135), none, none, some (.ifCond .eq (19)), none, none, some (.aload_n 0), some (.getfield 29), none, none, some (.iload_n 2), some (.bipush (8)), none, some (.isub), some (.iaload), some (.ifCond .ge (7)), none, none, some (.iconst 1), some (.goto (4)), none, none, some (.iconst 0), some (.ireturn), some (.aload_n 0), some (.iload_n 3), some (.iload_n 2), some (.invokevirtual 138), none, none, some (.ireturn)]
def zp_p100 : List (Nat × zi_T × List Nat) := [(29, (9, 5, 9, .null), [664]), (32, (9, 5, 10, .null), [665]), (72, (1, 82, 1, .ref 5), [823, 60, 826, 825, 28]), (79, (1, 81, 1, .ref 5), [819, 60, 822, 821, 27]), (118, (1, 95, 1, .ref 5), [799, 60, 802, 801, 22]), (132, (1, 98, 1, .ref 5), [811, 60, 814, 813, 25]), (135, (1, 94, 1, .ref 5), [795, 60, 798, 797, 21]), (138, (1, 99, 2, .ref 5), [827, 60, 830, 829, 29])]
/-- 101: PatienceTableModel.limit(I)I -/
def zp_l101 : List (Option Jvm.ClassFile.Instr) := [some (.iconst 1), some (.istore_n 2), some (.iconst 0), some (.istore_n 3), some (.iload_n 3), some (.aload_n 0), some (.getfield 13), none, none, some (.if_icmp .ge (26)), none, none, some (.aload_n 0), some (.getfield 29), none, none, some (.iload_n 3), some (.iaload), some (.ifCond .ge (9)), none, none, some (.iload_n 2), some (.iconst 1), some (.iadd), some (.goto (4)), none, none, some (.iload_n 2), some (.istore_n 2), some (.iinc 3 (1)), none, none, some (.goto (-28)), none, none, some (.iconst 0), some (.istore_n 3), some (.iload_n 3), some (.aload_n 0), some (.getfield 7), none, none, some (.if_icmp .ge (38)), none, none, some (.aload_n 0), some (.getfield 86), none, none, some (.ifCond .ne (23)), none, none, some (.iload_n 3), some (.iload_n 1), some (.if_icmp .eq (18)), none, none, some (.aload_n 0), some (.getfield 26), none, none, some (.iload_n 3), some (.iaload), some (.ifCond .ne (9)), none, none, some (.iconst 2), some (.iload_n 2), some (.imul), some (.goto (4)), none, none, some (.iload_n 2), some (.istore_n 2), some (.iinc 3 (1)), none, none, some (.goto (-40)), none, none, some (.iload_n 2), some (.ireturn)]
def zp_p101 : List (Nat × zi_T × List Nat) := [(7, (0, 5, 1, .null), [656]), (13, (0, 5, 2, .null), [657]), (26, (9, 5, 8, .null), [663]), (29, (9, 5, 9, .null), [664]), (86, (0, 5, 4, .null), [659])]
/-- 102: PatienceTableModel.may(III)Z -/
def zp_l102 : List (Option Jvm.ClassFile.Instr) := [some (.iload_n 3), some (.iconst 1), some (.if_icmp .ne (10)), none, none, some (.aload_n 0), some (.iload_n 1), some (.iload_n 2), some (.invokevirtual 141), none, none, some (.ireturn), some (.aload_n 0), some (.iload_n 1), some (.invokevirtual 135), none, none, some (.ifCond .eq (35)), none, none, some (.aload_n 0), some (.iload_n 2), some (.invokevirtual 135), none, none, some (.ifCond .eq (27)), none, none, some (.iload_n 1), some (.iload_n 2), some (.if_icmp .eq (22)), none, none, some (.iload_n 3), some (.aload_n 0), some (.getfield 26), none, none, some (.iload_n 1), some (.iaload), some (.if_icmp .gt (12)), none, none, some (.iload_n 3), some (.aload_n 0), some (.iload_n 2), some (.invokevirtual 144), none, none, some (.if_icmp .le (5)), none, none, some (.iconst 0), some (.ireturn), some (.iconst 0), some (.istore 4), none, some (.iload 4), none, some (.iconst 1), some (.iadd), some (.iload_n 3), some (.if_icmp .ge (34)), none, none, some (.aload_n 0), some (.aload_n 0), some (.iload_n 1), some (.iload 4), none, some (.invokevirtual 121), none, none, some (.aload_n 0), some (.iload_n 1), some (.iload 4), none, some (.iconst 1), some (.iadd), some (.invokevirtual 121), none, none, some (.invokevirtual 128), none, none, some (.ifCond .ne (5)), none, none, some (.iconst 0), some (.ireturn), some (.iinc 4 (1)), none, none, some (.goto (-36)), none, none, some (.aload_n 0), some (.aload_n 0), some (.iload_n 1), some (.iload_n 3), some (.iconst 1), some (.isub), some (.invokevirtual 121), none, none, some (.iload_n 2), some (.invokevirtual 138), none, none, some (.ireturn)]
def zp_p102 : List (Nat × zi_T × List Nat) := [(26, (9, 5, 8, .null), [663]), (121, (1, 97, 2, .ref 5), [815, 60, 818, 817, 26]), (128, (1, 84, 2, .ref 5), [835, 60, 838, 837, 31]), (135, (1, 94, 1, .ref 5), [795, 60, 798, 797, 21]), (138, (1, 99, 2, .ref 5), [827, 60, 830, 829, 29]), (141, (1, 100, 2, .ref 5), [807, 60, 810, 809, 24]), (144, (1, 101, 1, .ref 5), [842, 60, 845, 844, 32])]
/-- 103: PatienceTableModel.take(II)I -/
def zp_l103 : List (Option Jvm.ClassFile.Instr) := [some (.iload_n 1), some (.bipush (12)), none, some (.if_icmp .ne (20)), none, none, some (.aload_n 0), some (.getfield 32), none, none, some (.aload_n 0), some (.iload_n 2), some (.invokevirtual 79), none, none, some (.dup2), some (.iaload), some (.iconst 1), some (.isub), some (.iastore), some (.goto (34)), none, none, some (.aload_n 0), some (.iload_n 1), some (.invokevirtual 118), none, none, some (.ifCond .eq (16)), none, none, some (.aload_n 0), some (.getfield 29), none, none, some (.iload_n 1), some (.bipush (8)), none, some (.isub), some (.iconst (-1)), some (.iastore), some (.goto (13)), none, none, some (.aload_n 0), some (.getfield 26), none, none, some (.iload_n 1), some (.dup2), some (.iaload), some (.iconst 1), some (.isub), some (.iastore), some (.iload_n 2), some (.ireturn)]
def zp_p103 : List (Nat × zi_T × List Nat) := [(26, (9, 5, 8, .null), [663]), (29, (9, 5, 9, .null), [664]), (32, (9, 5, 10, .null), [665]), (79, (1, 81, 1, .ref 5), [819, 60, 822, 821, 27]), (118, (1, 95, 1, .ref 5), [799, 60, 802, 801, 22])]
/-- 104: PatienceTableModel.give(II)V -/
def zp_l104 : List (Option Jvm.ClassFile.Instr) := [some (.iload_n 1), some (.bipush (12)), none, some (.if_icmp .ne (20)), none, none, some (.aload_n 0), some (.getfield 32), none, none, some (.aload_n 0), some (.iload_n 2), some (.invokevirtual 79), none, none, some (.dup2), some (.iaload), some (.iconst 1), some (.iadd), some (.iastore), some (.goto (30)), none, none, some (.aload_n 0), some (.iload_n 1), some (.invokevirtual 118), none, none, some (.ifCond .eq (16)), none, none, some (.aload_n 0), some (.getfield 29), none, none, some (.iload_n 1), some (.bipush (8)), none, some (.isub), some (.iload_n 2), some (.iastore), some (.goto (9)), none, none, some (.aload_n 0), some (.iload_n 1), some (.iload_n 2), some (.invokevirtual 108), none, none, some (.return_)]
def zp_p104 : List (Nat × zi_T × List Nat) := [(29, (9, 5, 9, .null), [664]), (32, (9, 5, 10, .null), [665]), (79, (1, 81, 1, .ref 5), [819, 60, 822, 821, 27]), (108, (1, 90, 2, .ref 5), [775, 60, 778, 777, 18]), (118, (1, 95, 1, .ref 5), [799, 60, 802, 801, 22])]
/-- 105: PatienceTableModel.bring(IIII)V -/
def zp_l105 : List (Option Jvm.ClassFile.Instr) := [some (.iload_n 3), some (.iconst 1), some (.if_icmp .ne (16)), none, none, some (.aload_n 0), some (.iload_n 2), some (.aload_n 0), some (.iload_n 1), some (.iload 4), none, some (.invokevirtual 147), none, none, some (.invokevirtual 150), none, none, some (.return_), some (.iload_n 3), some (.iconst 1), some (.isub), some (.istore 5), none, some (.iload 5), none, some (.ifCond .lt (21)), none, none, some (.aload_n 0), some (.iload_n 2), some (.aload_n 0), some (.iload_n 1), some (.iload 5), none, some (.invokevirtual 121), none, none, some (.invokevirtual 108), none, none, some (.iinc 5 (-1)), none, none, some (.goto (-20)), none, none, some (.aload_n 0), some (.getfield 26), none, none, some (.iload_n 1), some (.aload_n 0), some (.getfield 26), none, none, some (.iload_n 1), some (.iaload), some (.iload_n 3), some (.isub), some (.iastore), some (.return_)]
def zp_p105 : List (Nat × zi_T × List Nat) := [(26, (9, 5, 8, .null), [663]), (108, (1, 90, 2, .ref 5), [775, 60, 778, 777, 18]), (121, (1, 97, 2, .ref 5), [815, 60, 818, 817, 26]), (147, (1, 103, 2, .ref 5), [854, 60, 857, 856, 35]), (150, (1, 104, 2, .ref 5), [858, 60, 861, 860, 36])]
/-- 106: PatienceTableModel.make(III)V -/
def zp_l106 : List (Option Jvm.ClassFile.Instr) := [some (.aload_n 0), some (.getfield 89), none, none, some (.bipush (60)), none, some (.if_icmp .ne (46)), none, none, some (.iconst 0), some (.istore 4), none, some (.iload 4), none, some (.sipush (236)), none, none, some (.if_icmp .ge (25)), none, none, some (.aload_n 0), some (.getfield 42), none, none, some (.iload 4), none, some (.aload_n 0), some (.getfield 42), none, none, some (.iload 4), none, some (.iconst 4), some (.iadd), some (.iaload), some (.iastore), some (.iinc 4 (1)), none, none, some (.goto (-27)), none, none, some (.aload_n 0), some (.dup), some (.getfield 89), none, none, some (.iconst 1), some (.isub), some (.putfield 89), none, none, some (.aload_n 0), some (.iload_n 1), some (.invokevirtual 132), none, none, some (.istore 4), none, some (.aload_n 0), some (.getfield 42), none, none, some (.iconst 4), some (.aload_n 0), some (.getfield 89), none, none, some (.imul), some (.iload_n 1), some (.iastore), some (.aload_n 0), some (.getfield 42), none, none, some (.iconst 4), some (.aload_n 0), some (.getfield 89), none, none, some (.imul), some (.iconst 1), some (.iadd), some (.iload_n 2), some (.iastore), some (.aload_n 0), some (.getfield 42), none, none, some (.iconst 4), some (.aload_n 0), some (.getfield 89), none, none, some (.imul), some (.iconst 2), some (.iadd), some (.iload_n 3), some (.iastore), some (.aload_n 0), some (.getfield 42), none, none, some (.iconst 4), some (.aload_n 0), some (.getfield 89), none, none, some (.imul), some (.iconst 3), some (.iadd), some (.iload 4), none, some (.iastore), some (.aload_n 0), some (.dup), some (.getfield 89), none, none, some (.iconst 1), some (.iadd), some (.putfield 89), none, none, some (.aload_n 0), some (.iconst (-1)), some (.putfield 45), none, none, some (.aload_n 0), some (.iload_n 1), some (.iload_n 2), some (.iload_n 3), some (.iload 4), none, some (.invokevirtual 153), none, none, some (.return_)]
def zp_p106 : List (Nat × zi_T × List Nat) := [(42, (9, 5, 14, .null), [669]), (45, (0, 5, 15, .null), [670]), (89, (0, 5, 13, .null), [668]), (132, (1, 98, 1, .ref 5), [811, 60, 814, 813, 25]), (153, (1, 105, 4, .ref 5), [850, 60, 853, 852, 34])]
/-- 107: PatienceTableModel.move(III)I -/
def zp_l107 : List (Option Jvm.ClassFile.Instr) := [some (.aload_n 0), some (.iconst 0), some (.putfield 69), none, none, some (.aload_n 0), some (.iload_n 1), some (.invokevirtual 135), none, none, some (.ifCond .ne (11)), none, none, some (.aload_n 0), some (.iload_n 1), some (.invokevirtual 118), none, none, some (.ifCond .eq (30)), none, none, some (.aload_n 0), some (.iload_n 2), some (.invokevirtual 135), none, none, some (.ifCond .ne (17)), none, none, some (.aload_n 0), some (.iload_n 2), some (.invokevirtual 118), none, none, some (.ifCond .ne (9)), none, none, some (.iload_n 2), some (.bipush (12)), none, some (.if_icmp .ne (8)), none, none, some (.iload_n 3), some (.iconst 1), some (.if_icmp .ge (9)), none, none, some (.aload_n 0), some (.iconst 1), some (.invokevirtual 112), none, none, some (.ireturn), some (.aload_n 0), some (.invokevirtual 115), none, none, some (.aload_n 0), some (.invokevirtual 96), none, none, some (.if_icmp .lt (13)), none, none, some (.aload_n 0), some (.iload_n 1), some (.iload_n 2), some (.iload_n 3), some (.invokevirtual 157), none, none, some (.ifCond .ne (9)), none, none, some (.aload_n 0), some (.iconst 2), some (.invokevirtual 112), none, none, some (.ireturn), some (.aload_n 0), some (.iload_n 1), some (.iload_n 2), some (.iload_n 3), some (.invokevirtual 160), none, none, some (.aload_n 0), some (.invokevirtual 164), none, none, some (.ireturn)]
def zp_p107 : List (Nat × zi_T × List Nat) := [(69, (0, 5, 0, .null), [655]), (96, (1, 80, 0, .ref 5), [767, 60, 770, 769, 17]), (112, (1, 78, 1, .ref 5), [783, 60, 786, 785, 19]), (115, (1, 92, 0, .ref 5), [787, 60, 790, 789, 20]), (118, (1, 95, 1, .ref 5), [799, 60, 802, 801, 22]), (135, (1, 94, 1, .ref 5), [795, 60, 798, 797, 21]), (157, (1, 102, 3, .ref 5), [803, 60, 806, 805, 23]), (160, (1, 106, 3, .ref 5), [846, 60, 849, 848, 33]), (164, (1, 96, 0, .ref 5), [862, 60, 865, 864, 37])]
/-- 108: PatienceTableModel.placeOf(I)I -/
def zp_l108 : List (Option Jvm.ClassFile.Instr) := [some (.iload_n 1), some (.bipush (104)), none, some (.if_icmp .ne (6)), none, none, some (.bipush (12)), none, some (.ireturn), some (.iload_n 1), some (.bipush (97)), none, some (.bipush (100)), none, some (.invokestatic 92), none, none, some (.ifCond .eq (13)), none, none, some (.bipush (8)), none, some (.iload_n 1), some (.iadd), some (.bipush (97)), none, some (.isub), some (.goto (22)), none, none, some (.iload_n 1), some (.bipush (49)), none, some (.bipush (56)), none, some (.invokestatic 92), none, none, some (.ifCond .eq (10)), none, none, some (.iload_n 1), some (.bipush (49)), none, some (.isub), some (.goto (4)), none, none, some (.iconst (-1)), some (.istore_n 2), some (.aload_n 0), some (.iload_n 2), some (.invokevirtual 135), none, none, some (.ifCond .ne (11)), none, none, some (.aload_n 0), some (.iload_n 2), some (.invokevirtual 118), none, none, some (.ifCond .eq (7)), none, none, some (.iload_n 2), some (.goto (4)), none, none, some (.iconst (-1)), some (.ireturn)]
def zp_p108 : List (Nat × zi_T × List Nat) := [(92, (3, 79, 3, .null), [752, 60, 754, 753]), (118, (1, 95, 1, .ref 5), [799, 60, 802, 801, 22]), (135, (1, 94, 1, .ref 5), [795, 60, 798, 797, 21])]
/-- 109: PatienceTableModel.mostOf(II)I -/
def zp_l109 : List (Option Jvm.ClassFile.Instr) := [some (.iconst 0), some (.istore_n 3), some (.iconst 1), some (.istore 4), none, some (.iload 4), none, some (.aload_n 0), some (.getfield 26), none, none, some (.iload_n 1), some (.iaload), some (.if_icmp .gt (27)), none, none, some (.aload_n 0), some (.iload_n 1), some (.iload_n 2), some (.iload 4), none, some (.invokevirtual 157), none, none, some (.ifCond .eq (8)), none, none, some (.iload 4), none, some (.goto (4)), none, none, some (.iload_n 3), some (.istore_n 3), some (.iinc 4 (1)), none, none, some (.goto (-32)), none, none, some (.iload_n 3), some (.ireturn)]
def zp_p109 : List (Nat × zi_T × List Nat) := [(26, (9, 5, 8, .null), [663]), (157, (1, 102, 3, .ref 5), [803, 60, 806, 805, 23])]
/-- 110: PatienceTableModel.play(CC)I -/
def zp_l110 : List (Option Jvm.ClassFile.Instr) := [some (.aload_n 0), some (.iconst 0), some (.putfield 69), none, none, some (.aload_n 0), some (.iload_n 1), some (.invokevirtual 167), none, none, some (.istore_n 3), some (.aload_n 0), some (.iload_n 2), some (.invokevirtual 167), none, none, some (.istore 4), none, some (.iload_n 3), some (.ifCond .lt (14)), none, none, some (.iload 4), none, some (.ifCond .lt (9)), none, none, some (.iload_n 3), some (.bipush (12)), none, some (.if_icmp .ne (9)), none, none, some (.aload_n 0), some (.iconst 1), some (.invokevirtual 112), none, none, some (.ireturn), some (.aload_n 0), some (.iload_n 3), some (.invokevirtual 135), none, none, some (.ifCond .eq (22)), none, none, some (.aload_n 0), some (.iload 4), none, some (.invokevirtual 135), none, none, some (.ifCond .eq (13)), none, none, some (.aload_n 0), some (.iload_n 3), some (.iload 4), none, some (.invokevirtual 170), none, none, some (.goto (18)), none, none, some (.aload_n 0), some (.iload_n 3), some (.iload 4), none, some (.invokevirtual 141), none, none, some (.ifCond .eq (7)), none, none, some (.iconst 1), some (.goto (4)), none, none, some (.iconst 0), some (.istore 5), none, some (.aload_n 0), some (.invokevirtual 115), none, none, some (.aload_n 0), some (.invokevirtual 96), none, none, some (.if_icmp .lt (8)), none, none, some (.iload 5), none, some (.ifCond .ne (9)), none, none, some (.aload_n 0), some (.iconst 2), some (.invokevirtual 112), none, none, some (.ireturn), some (.aload_n 0), some (.iload_n 3), some (.iload 4), none, some (.iload 5), none, some (.invokevirtual 160), none, none, some (.iload 5), none, some (.ireturn)]
def zp_p110 : List (Nat × zi_T × List Nat) := [(69, (0, 5, 0, .null), [655]), (96, (1, 80, 0, .ref 5), [767, 60, 770, 769, 17]), (112, (1, 78, 1, .ref 5), [783, 60, 786, 785, 19]), (115, (1, 92, 0, .ref 5), [787, 60, 790, 789, 20]), (135, (1, 94, 1, .ref 5), [795, 60, 798, 797, 21]), (141, (1, 100, 2, .ref 5), [807, 60, 810, 809, 24]), (160, (1, 106, 3, .ref 5), [846, 60, 849, 848, 33]), (167, (1, 108, 1, .ref 5), [870, 60, 873, 872, 38]), (170, (1, 109, 2, .ref 5), [874, 60, 877, 876, 39])]
/-- 111: PatienceTableModel.isSafe(I)Z -/
def zp_l111 : List (Option Jvm.ClassFile.Instr) := [some (.iconst 1), some (.istore_n 2), some (.iconst 0), some (.istore_n 3), some (.iload_n 3), some (.aload_n 0), some (.getfield 16), none, none, some (.if_icmp .ge (86)), none, none, some (.aload_n 0), some (.getfield 76), none, none, some (.iconst 2), some (.if_icmp .eq (25)), none, none, some (.aload_n 0), some (.getfield 76), none, none, some (.ifCond .ne (22)), none, none, some (.iload_n 3), some (.invokestatic 82), none, none, some (.aload_n 0), some (.iload_n 1), some (.invokevirtual 79), none, none, some (.invokestatic 82), none, none, some (.if_icmp .eq (7)), none, none, some (.iconst 1), some (.goto (4)), none, none, some (.iconst 0), some (.istore 4), none, some (.iload_n 2), some (.ifCond .eq (37)), none, none, some (.iload 4), none, some (.ifCond .eq (28)), none, none, some (.aload_n 0), some (.iload_n 1), some (.invokevirtual 72), none, none, some (.iconst 3), some (.if_icmp .lt (19)), none, none, some (.aload_n 0), some (.getfield 32), none, none, some (.iload_n 3), some (.iaload), some (.iconst 1), some (.iadd), some (.aload_n 0), some (.iload_n 1), some (.invokevirtual 72), none, none, some (.if_icmp .lt (7)), none, none, some (.iconst 1), some (.goto (4)), none, none, some (.iconst 0), some (.istore_n 2), some (.iinc 3 (1)), none, none, some (.goto (-88)), none, none, some (.iload_n 2), some (.ireturn)]
def zp_p111 : List (Nat × zi_T × List Nat) := [(16, (0, 5, 5, .null), [660]), (32, (9, 5, 10, .null), [665]), (72, (1, 82, 1, .ref 5), [823, 60, 826, 825, 28]), (76, (0, 5, 3, .null), [658]), (79, (1, 81, 1, .ref 5), [819, 60, 822, 821, 27]), (82, (3, 83, 1, .null), [839, 60, 841, 840])]
/-- 112: PatienceTableModel.safePlace()I -/
def zp_l112 : List (Option Jvm.ClassFile.Instr) := [some (.iconst 0), some (.istore_n 1), some (.iload_n 1), some (.bipush (12)), none, some (.if_icmp .ge (65)), none, none, some (.iload_n 1), some (.iconst 4), some (.if_icmp .ge (10)), none, none, some (.bipush (8)), none, some (.iload_n 1), some (.iadd), some (.goto (6)), none, none, some (.iload_n 1), some (.iconst 4), some (.isub), some (.istore_n 2), some (.aload_n 0), some (.iload_n 2), some (.invokevirtual 118), none, none, some (.ifCond .ne (11)), none, none, some (.aload_n 0), some (.iload_n 2), some (.invokevirtual 135), none, none, some (.ifCond .eq (27)), none, none, some (.aload_n 0), some (.iload_n 2), some (.bipush (12)), none, some (.invokevirtual 141), none, none, some (.ifCond .eq (17)), none, none, some (.aload_n 0), some (.aload_n 0), some (.iload_n 2), some (.invokevirtual 132), none, none, some (.invokevirtual 173), none, none, some (.ifCond .eq (5)), none, none, some (.iload_n 2), some (.ireturn), some (.iinc 1 (1)), none, none, some (.goto (-65)), none, none, some (.iconst (-1)), some (.ireturn)]
def zp_p112 : List (Nat × zi_T × List Nat) := [(118, (1, 95, 1, .ref 5), [799, 60, 802, 801, 22]), (132, (1, 98, 1, .ref 5), [811, 60, 814, 813, 25]), (135, (1, 94, 1, .ref 5), [795, 60, 798, 797, 21]), (141, (1, 100, 2, .ref 5), [807, 60, 810, 809, 24]), (173, (1, 111, 1, .ref 5), [886, 60, 889, 888, 41])]
/-- 113: PatienceTableModel.sendHome()I -/
def zp_l113 : List (Option Jvm.ClassFile.Instr) := [some (.aload_n 0), some (.iconst 0), some (.putfield 69), none, none, some (.aload_n 0), some (.invokevirtual 115), none, none, some (.aload_n 0), some (.invokevirtual 96), none, none, some (.if_icmp .ge (9)), none, none, some (.aload_n 0), some (.iconst 1), some (.invokevirtual 112), none, none, some (.ireturn), some (.iconst 0), some (.istore_n 1), some (.aload_n 0), some (.invokevirtual 176), none, none, some (.istore_n 2), some (.iload_n 2), some (.ifCond .lt (22)), none, none, some (.aload_n 0), some (.iload_n 2), some (.bipush (12)), none, some (.iconst 1), some (.invokevirtual 160), none, none, some (.iinc 1 (1)), none, none, some (.aload_n 0), some (.invokevirtual 176), none, none, some (.istore_n 2), some (.goto (-20)), none, none, some (.iload_n 1), some (.ireturn)]
def zp_p113 : List (Nat × zi_T × List Nat) := [(69, (0, 5, 0, .null), [655]), (96, (1, 80, 0, .ref 5), [767, 60, 770, 769, 17]), (112, (1, 78, 1, .ref 5), [783, 60, 786, 785, 19]), (115, (1, 92, 0, .ref 5), [787, 60, 790, 789, 20]), (160, (1, 106, 3, .ref 5), [846, 60, 849, 848, 33]), (176, (1, 112, 0, .ref 5), [882, 60, 885, 884, 40])]
/-- 114: PatienceTableModel.undo()I -/
def zp_l114 : List (Option Jvm.ClassFile.Instr) := [some (.aload_n 0), some (.iconst 0), some (.putfield 69), none, none, some (.aload_n 0), some (.getfield 89), none, none, some (.ifCond .ne (9)), none, none, some (.aload_n 0), some (.iconst 1), some (.invokevirtual 112), none, none, some (.ireturn), some (.aload_n 0), some (.dup), some (.getfield 89), none, none, some (.iconst 1), some (.isub), some (.putfield 89), none, none, some (.aload_n 0), some (.iconst (-1)), some (.putfield 45), none, none, some (.aload_n 0), some (.getfield 42), none, none, some (.iconst 4), some (.aload_n 0), some (.getfield 89), none, none, some (.imul), some (.iconst 2), some (.iadd), some (.iaload), some (.istore_n 1), some (.aload_n 0), some (.aload_n 0), some (.getfield 42), none, none, some (.iconst 4), some (.aload_n 0), some (.getfield 89), none, none, some (.imul), some (.iconst 1), some (.iadd), some (.iaload), some (.aload_n 0), some (.getfield 42), none, none, some (.iconst 4), some (.aload_n 0), some (.getfield 89), none, none, some (.imul), some (.iaload), some (.iload_n 1), some (.aload_n 0), some (.getfield 42), none, none, some (.iconst 4), some (.aload_n 0), some (.getfield 89), none, none, some (.imul), some (.iconst 3), some (.iadd), some (.iaload), some (.invokevirtual 153), none, none, some (.iload_n 1), some (.ireturn)]
def zp_p114 : List (Nat × zi_T × List Nat) := [(42, (9, 5, 14, .null), [669]), (45, (0, 5, 15, .null), [670]), (69, (0, 5, 0, .null), [655]), (89, (0, 5, 13, .null), [668]), (112, (1, 78, 1, .ref 5), [783, 60, 786, 785, 19]), (153, (1, 105, 4, .ref 5), [850, 60, 853, 852, 34])]
/-- 115: PatienceTableModel.log()I -/
def zp_l115 : List (Option Jvm.ClassFile.Instr) := [some (.aload_n 0), some (.iconst 0), some (.putfield 69), none, none, some (.aload_n 0), some (.getfield 89), none, none, some (.ireturn)]
def zp_p115 : List (Nat × zi_T × List Nat) := [(69, (0, 5, 0, .null), [655]), (89, (0, 5, 13, .null), [668])]
/-- 116: PatienceTableModel.card(II)I -/
def zp_l116 : List (Option Jvm.ClassFile.Instr) := [some (.aload_n 0), some (.iconst 0), some (.putfield 69), none, none, some (.iload_n 1), some (.bipush (12)), none, some (.if_icmp .ne (46)), none, none, some (.iload_n 2), some (.iconst 0), some (.aload_n 0), some (.getfield 16), none, none, some (.iconst 1), some (.isub), some (.invokestatic 92), none, none, some (.ifCond .eq (30)), none, none, some (.aload_n 0), some (.getfield 32), none, none, some (.iload_n 2), some (.iaload), some (.ifCond .le (21)), none, none, some (.aload_n 0), some (.getfield 16), none, none, some (.aload_n 0), some (.getfield 32), none, none, some (.iload_n 2), some (.iaload), some (.iconst 1), some (.isub), some (.imul), some (.iload_n 2), some (.iadd), some (.goto (4)), none, none, some (.iconst (-1)), some (.ireturn), some (.aload_n 0), some (.iload_n 1), some (.invokevirtual 118), none, none, some (.ifCond .eq (21)), none, none, some (.iload_n 2), some (.ifCond .ne (15)), none, none, some (.aload_n 0), some (.getfield 29), none, none, some (.iload_n 1), some (.bipush (8)), none, some (.isub), some (.iaload), some (.goto (4)), none, none, some (.iconst (-1)), some (.ireturn), some (.aload_n 0), some (.iload_n 1), some (.invokevirtual 135), none, none, some (.ifCond .eq (31)), none, none, some (.iload_n 2), some (.ifCond .lt (27)), none, none, some (.iload_n 2), some (.aload_n 0), some (.getfield 26), none, none, some (.iload_n 1), some (.iaload), some (.if_icmp .ge (17)), none, none, some (.aload_n 0), some (.getfield 22), none, none, some (.bipush (52)), none, some (.iload_n 1), some (.imul), some (.iload_n 2), some (.iadd), some (.iaload), some (.goto (4)), none, none, some (.iconst (-1)), some (.ireturn)]
def zp_p116 : List (Nat × zi_T × List Nat) := [(16, (0, 5, 5, .null), [660]), (22, (9, 5, 7, .null), [662]), (26, (9, 5, 8, .null), [663]), (29, (9, 5, 9, .null), [664]), (32, (9, 5, 10, .null), [665]), (69, (0, 5, 0, .null), [655]), (92, (3, 79, 3, .null), [752, 60, 754, 753]), (118, (1, 95, 1, .ref 5), [799, 60, 802, 801, 22]), (135, (1, 94, 1, .ref 5), [795, 60, 798, 797, 21])]
/-- 117: PatienceTableModel.size(I)I -/
def zp_l117 : List (Option Jvm.ClassFile.Instr) := [some (.aload_n 0), some (.iconst 0), some (.putfield 69), none, none, some (.iload_n 1), some (.bipush (12)), none, some (.if_icmp .ne (8)), none, none, some (.aload_n 0), some (.invokevirtual 164), none, none, some (.ireturn), some (.aload_n 0), some (.iload_n 1), some (.invokevirtual 118), none, none, some (.ifCond .eq (23)), none, none, some (.aload_n 0), some (.getfield 29), none, none, some (.iload_n 1), some (.bipush (8)), none, some (.isub), some (.iaload), some (.ifCond .ge (7)), none, none, some (.iconst 0), some (.goto (25)), none, none, some (.iconst 1), some (.goto (21)), none, none, some (.aload_n 0), some (.iload_n 1), some (.invokevirtual 135), none, none, some (.ifCond .eq (12)), none, none, some (.aload_n 0), some (.getfield 26), none, none, some (.iload_n 1), some (.iaload), some (.goto (4)), none, none, some (.iconst (-1)), some (.ireturn)]
def zp_p117 : List (Nat × zi_T × List Nat) := [(26, (9, 5, 8, .null), [663]), (29, (9, 5, 9, .null), [664]), (69, (0, 5, 0, .null), [655]), (118, (1, 95, 1, .ref 5), [799, 60, 802, 801, 22]), (135, (1, 94, 1, .ref 5), [795, 60, 798, 797, 21]), (164, (1, 96, 0, .ref 5), [862, 60, 865, 864, 37])]
/-- 118: PatienceTableModel.most(II)I -/
def zp_l118 : List (Option Jvm.ClassFile.Instr) := [some (.aload_n 0), some (.iconst 0), some (.putfield 69), none, none, some (.aload_n 0), some (.iload_n 1), some (.invokevirtual 135), none, none, some (.ifCond .eq (31)), none, none, some (.aload_n 0), some (.iload_n 2), some (.invokevirtual 135), none, none, some (.ifCond .eq (23)), none, none, some (.aload_n 0), some (.invokevirtual 115), none, none, some (.aload_n 0), some (.invokevirtual 96), none, none, some (.if_icmp .ne (12)), none, none, some (.aload_n 0), some (.iload_n 1), some (.iload_n 2), some (.invokevirtual 170), none, none, some (.goto (4)), none, none, some (.iconst 0), some (.ireturn)]
def zp_p118 : List (Nat × zi_T × List Nat) := [(69, (0, 5, 0, .null), [655]), (96, (1, 80, 0, .ref 5), [767, 60, 770, 769, 17]), (115, (1, 92, 0, .ref 5), [787, 60, 790, 789, 20]), (135, (1, 94, 1, .ref 5), [795, 60, 798, 797, 21]), (170, (1, 109, 2, .ref 5), [874, 60, 877, 876, 39])]
/-- 119: PatienceTableModel.begin()V -/
def zp_l119 : List (Option Jvm.ClassFile.Instr) := [some (.iconst 0), some (.istore_n 1), some (.iload_n 1), some (.bipush (52)), none, some (.if_icmp .ge (28)), none, none, some (.aload_n 0), some (.getfield 48), none, none, some (.iload_n 1), some (.iload_n 1), some (.aload_n 0), some (.invokevirtual 96), none, none, some (.if_icmp .ge (7)), none, none, some (.iconst 1), some (.goto (4)), none, none, some (.iconst 0), some (.iastore), some (.iinc 1 (1)), none, none, some (.goto (-28)), none, none, some (.iconst 0), some (.istore_n 1), some (.iload_n 1), some (.aload_n 0), some (.getfield 7), none, none, some (.if_icmp .ge (67)), none, none, some (.iconst 0), some (.istore_n 2), some (.iload_n 2), some (.aload_n 0), some (.getfield 26), none, none, some (.iload_n 1), some (.iaload), some (.if_icmp .ge (49)), none, none, some (.aload_n 0), some (.getfield 48), none, none, some (.aload_n 0), some (.getfield 22), none, none, some (.bipush (52)), none, some (.iload_n 1), some (.imul), some (.iload_n 2), some (.iadd), some (.iaload), some (.iload_n 2), some (.ifCond .ne (7)), none, none, some (.iconst 3), some (.goto (19)), none, none, some (.bipush (10)), none, some (.aload_n 0), some (.getfield 22), none, none, some (.bipush (52)), none, some (.iload_n 1), some (.imul), some (.iload_n 2), some (.iadd), some (.iconst 1), some (.isub), some (.iaload), some (.iadd), some (.iastore), some (.iinc 2 (1)), none, none, some (.goto (-53)), none, none, some (.iinc 1 (1)), none, none, some (.goto (-69)), none, none, some (.iconst 0), some (.istore_n 1), some (.iload_n 1), some (.aload_n 0), some (.getfield 13), none, none, some (.if_icmp .ge (30)), none, none, some (.aload_n 0), some (.getfield 29), none, none, some (.iload_n 1), some (.iaload), some (.ifCond .lt (15)), none, none, some (.aload_n 0), some (.getfield 48), none, none, some (.aload_n 0), some (.getfield 29), none, none, some (.iload_n 1), some (.iaload), some (.iconst 2), some (.iastore), some (.iinc 1 (1)), none, none, some (.goto (-32)), none, none, some (.return_)]
def zp_p119 : List (Nat × zi_T × List Nat) := [(7, (0, 5, 1, .null), [656]), (13, (0, 5, 2, .null), [657]), (22, (9, 5, 7, .null), [662]), (26, (9, 5, 8, .null), [663]), (29, (9, 5, 9, .null), [664]), (48, (9, 5, 17, .null), [672]), (96, (1, 80, 0, .ref 5), [767, 60, 770, 769, 17])]
/-- 120: PatienceTableModel.sumOf(I)I -/
def zp_l120 : List (Option Jvm.ClassFile.Instr) := [some (.iconst 0), some (.istore_n 2), some (.iconst 0), some (.istore_n 3), some (.iload_n 3), some (.bipush (52)), none, some (.if_icmp .ge (26)), none, none, some (.bipush (31)), none, some (.iload_n 2), some (.imul), some (.aload_n 0), some (.getfield 48), none, none, some (.bipush (52)), none, some (.iload_n 1), some (.imul), some (.iload_n 3), some (.iadd), some (.iaload), some (.iadd), some (.istore_n 2), some (.iinc 3 (1)), none, none, some (.goto (-26)), none, none, some (.iload_n 2), some (.ireturn)]
def zp_p120 : List (Nat × zi_T × List Nat) := [(48, (9, 5, 17, .null), [672])]
/-- 121: PatienceTableModel.regard(I)V -/
def zp_l121 : List (Option Jvm.ClassFile.Instr) := [some (.iconst 0), some (.istore_n 2), some (.iload_n 2), some (.iconst 4), some (.if_icmp .ge (16)), none, none, some (.aload_n 0), some (.getfield 60), none, none, some (.iload_n 2), some (.iconst 0), some (.iastore), some (.iinc 2 (1)), none, none, some (.goto (-15)), none, none, some (.aload_n 0), some (.iconst 0), some (.putfield 179), none, none, some (.aload_n 0), some (.iconst 0), some (.putfield 182), none, none, some (.iconst 0), some (.istore_n 2), some (.iload_n 2), some (.aload_n 0), some (.invokevirtual 96), none, none, some (.if_icmp .ge (16)), none, none, some (.aload_n 0), some (.getfield 63), none, none, some (.iload_n 2), some (.iconst 0), some (.bastore), some (.iinc 2 (1)), none, none, some (.goto (-18)), none, none, some (.iconst 0), some (.istore_n 2), some (.iload_n 2), some (.aload_n 0), some (.invokevirtual 96), none, none, some (.if_icmp .ge (100)), none, none, some (.aload_n 0), some (.getfield 48), none, none, some (.bipush (52)), none, some (.iload_n 1), some (.imul), some (.iload_n 2), some (.iadd), some (.iaload), some (.istore_n 3), some (.iload_n 3), some (.iconst 1), some (.if_icmp .ne (17)), none, none, some (.aload_n 0), some (.getfield 60), none, none, some (.aload_n 0), some (.iload_n 2), some (.invokevirtual 79), none, none, some (.dup2), some (.iaload), some (.iconst 1), some (.iadd), some (.iastore), some (.aload_n 0), some (.iload_n 3), some (.iconst 2), some (.if_icmp .ne (12)), none, none, some (.aload_n 0), some (.getfield 179), none, none, some (.iconst 1), some (.iadd), some (.goto (7)), none, none, some (.aload_n 0), some (.getfield 179), none, none, some (.putfield 179), none, none, some (.aload_n 0), some (.iload_n 3), some (.iconst 3), some (.if_icmp .ne (12)), none, none, some (.aload_n 0), some (.getfield 182), none, none, some (.iconst 1), some (.iadd), some (.goto (7)), none, none, some (.aload_n 0), some (.getfield 182), none, none, some (.putfield 182), none, none, some (.iload_n 3), some (.bipush (10)), none, some (.if_icmp .lt (13)), none, none, some (.aload_n 0), some (.getfield 63), none, none, some (.iload_n 3), some (.bipush (10)), none, some (.isub), some (.iconst 1), some (.bastore), some (.iinc 2 (1)), none, none, some (.goto (-102)), none, none, some (.return_)]
def zp_p121 : List (Nat × zi_T × List Nat) := [(48, (9, 5, 17, .null), [672]), (60, (9, 5, 25, .null), [680]), (63, (9, 5, 28, .null), [683]), (79, (1, 81, 1, .ref 5), [819, 60, 822, 821, 27]), (96, (1, 80, 0, .ref 5), [767, 60, 770, 769, 17]), (179, (0, 5, 26, .null), [681]), (182, (0, 5, 27, .null), [682])]
/-- 122: PatienceTableModel.mayLie(III)Z -/
def zp_l122 : List (Option Jvm.ClassFile.Instr) := [some (.aload_n 0), some (.getfield 48), none, none, some (.bipush (52)), none, some (.iload_n 1), some (.imul), some (.iload_n 2), some (.iadd), some (.iaload), some (.istore 4), none, some (.iload 4), none, some (.iconst 1), some (.if_icmp .eq (18)), none, none, some (.aload_n 0), some (.getfield 63), none, none, some (.iload_n 2), some (.baload), some (.ifCond .ne (9)), none, none, some (.iload 4), none, some (.iload_n 3), some (.if_icmp .ne (5)), none, none, some (.iconst 0), some (.ireturn), some (.iload_n 3), some (.iconst 1), some (.if_icmp .ne (29)), none, none, some (.aload_n 0), some (.getfield 60), none, none, some (.aload_n 0), some (.iload_n 2), some (.invokevirtual 79), none, none, some (.iaload), some (.iconst 1), some (.iadd), some (.aload_n 0), some (.iload_n 2), some (.invokevirtual 72), none, none, some (.if_icmp .ne (7)), none, none, some (.iconst 1), some (.goto (4)), none, none, some (.iconst 0), some (.ireturn), some (.iload_n 3), some (.iconst 2), some (.if_icmp .ne (20)), none, none, some (.aload_n 0), some (.getfield 179), none, none, some (.aload_n 0), some (.getfield 13), none, none, some (.if_icmp .ge (7)), none, none, some (.iconst 1), some (.goto (4)), none, none, some (.iconst 0), some (.ireturn), some (.iload_n 3), some (.iconst 3), some (.if_icmp .ne (28)), none, none, some (.aload_n 0), some (.getfield 182), none, none, some (.aload_n 0), some (.getfield 7), none, none, some (.if_icmp .ge (15)), none, none, some (.aload_n 0), some (.iload_n 2), some (.invokevirtual 125), none, none, some (.ifCond .eq (7)), none, none, some (.iconst 1), some (.goto (4)), none, none, some (.iconst 0), some (.ireturn), some (.iload_n 3), some (.bipush (10)), none, some (.isub), some (.istore 5), none, some (.aload_n 0), some (.getfield 48), none, none, some (.bipush (52)), none, some (.iload_n 1), some (.imul), some (.iload 5), none, some (.iadd), some (.iaload), some (.iconst 3), some (.if_icmp .lt (27)), none, none, some (.aload_n 0), some (.getfield 63), none, none, some (.iload 5), none, some (.baload), some (.ifCond .ne (17)), none, none, some (.aload_n 0), some (.iload_n 2), some (.iload 5), none, some (.invokevirtual 128), none, none, some (.ifCond .eq (7)), none, none, some (.iconst 1), some (.goto (4)), none, none, some (.iconst 0), some (.ireturn)]
def zp_p122 : List (Nat × zi_T × List Nat) := [(7, (0, 5, 1, .null), [656]), (13, (0, 5, 2, .null), [657]), (48, (9, 5, 17, .null), [672]), (60, (9, 5, 25, .null), [680]), (63, (9, 5, 28, .null), [683]), (72, (1, 82, 1, .ref 5), [823, 60, 826, 825, 28]), (79, (1, 81, 1, .ref 5), [819, 60, 822, 821, 27]), (125, (1, 85, 1, .ref 5), [831, 60, 834, 833, 30]), (128, (1, 84, 2, .ref 5), [835, 60, 838, 837, 31]), (179, (0, 5, 26, .null), [681]), (182, (0, 5, 27, .null), [682])]
/-- 123: PatienceTableModel.tried(III)I -/
def zp_l123 : List (Option Jvm.ClassFile.Instr) := [some (.aload_n 0), some (.iconst 1), some (.putfield 185), none, none, some (.iconst 0), some (.istore 4), none, some (.iload 4), none, some (.bipush (52)), none, some (.if_icmp .ge (77)), none, none, some (.iload 4), none, some (.iload_n 2), some (.if_icmp .ne (7)), none, none, some (.iload_n 3), some (.goto (15)), none, none, some (.aload_n 0), some (.getfield 48), none, none, some (.bipush (52)), none, some (.iload_n 1), some (.imul), some (.iload 4), none, some (.iadd), some (.iaload), some (.istore 5), none, some (.aload_n 0), some (.getfield 48), none, none, some (.bipush (52)), none, some (.aload_n 0), some (.getfield 189), none, none, some (.imul), some (.iload 4), none, some (.iadd), some (.iload 5), none, some (.iastore), some (.aload_n 0), some (.aload_n 0), some (.getfield 185), none, none, some (.ifCond .eq (18)), none, none, some (.iload 5), none, some (.iconst 1), some (.if_icmp .eq (8)), none, none, some (.iload 5), none, some (.ifCond .ne (7)), none, none, some (.iconst 1), some (.goto (4)), none, none, some (.iconst 0), some (.putfield 185), none, none, some (.iinc 4 (1)), none, none, some (.goto (-78)), none, none, some (.aload_n 0), some (.getfield 51), none, none, some (.aload_n 0), some (.getfield 189), none, none, some (.aload_n 0), some (.aload_n 0), some (.getfield 189), none, none, some (.invokevirtual 192), none, none, some (.iastore), some (.iconst 0), some (.istore 4), none, some (.iconst 0), some (.istore 5), none, some (.iload 4), none, some (.aload_n 0), some (.getfield 189), none, none, some (.if_icmp .ge (112)), none, none, some (.iload 5), none, some (.ifCond .ne (107)), none, none, some (.aload_n 0), some (.getfield 51), none, none, some (.iload 4), none, some (.iaload), some (.aload_n 0), some (.getfield 51), none, none, some (.aload_n 0), some (.getfield 189), none, none, some (.iaload), some (.if_icmp .ne (7)), none, none, some (.iconst 1), some (.goto (4)), none, none, some (.iconst 0), some (.istore 5), none, some (.iconst 0), some (.istore 6), none, some (.iload 6), none, some (.bipush (52)), none, some (.if_icmp .ge (52)), none, none, some (.iload 5), none, some (.ifCond .eq (47)), none, none, some (.aload_n 0), some (.getfield 48), none, none, some (.bipush (52)), none, some (.iload 4), none, some (.imul), some (.iload 6), none, some (.iadd), some (.iaload), some (.aload_n 0), some (.getfield 48), none, none, some (.bipush (52)), none, some (.aload_n 0), some (.getfield 189), none, none, some (.imul), some (.iload 6), none, some (.iadd), some (.iaload), some (.if_icmp .ne (7)), none, none, some (.iconst 1), some (.goto (4)), none, none, some (.iconst 0), some (.istore 5), none, some (.iinc 6 (1)), none, none, some (.goto (-53)), none, none, some (.iload 5), none, some (.ifCond .eq (8)), none, none, some (.iload 4), none, some (.goto (7)), none, none, some (.iload 4), none, some (.iconst 1), some (.iadd), some (.istore 4), none, some (.goto (-115)), none, none, some (.iload 4), none, some (.ireturn)]
def zp_p123 : List (Nat × zi_T × List Nat) := [(48, (9, 5, 17, .null), [672]), (51, (9, 5, 18, .null), [673]), (185, (0, 5, 24, .null), [679]), (189, (0, 5, 21, .null), [676]), (192, (1, 120, 1, .ref 5), [922, 60, 925, 924, 44])]
/-- 124: PatienceTableModel.after(I)I -/
def zp_l124 : List (Option Jvm.ClassFile.Instr) := [some (.iload_n 0), some (.iconst 3), some (.if_icmp .ne (8)), none, none, some (.bipush (10)), none, some (.goto (6)), none, none, some (.iload_n 0), some (.iconst 1), some (.iadd), some (.ireturn)]
def zp_p124 : List (Nat × zi_T × List Nat) := []
/-- 125: PatienceTableModel.spread(II)Z -/
def zp_l125 : List (Option Jvm.ClassFile.Instr) := [some (.iconst 0), some (.istore_n 3), some (.aload_n 0), some (.iload_n 1), some (.invokevirtual 195), none, none, some (.iconst 0), some (.istore 4), none, some (.iload 4), none, some (.aload_n 0), some (.invokevirtual 96), none, none, some (.if_icmp .ge (138)), none, none, some (.iconst 1), some (.istore 5), none, some (.iload 5), none, some (.bipush (10)), none, some (.aload_n 0), some (.invokevirtual 96), none, none, some (.iadd), some (.if_icmp .ge (117)), none, none, some (.aload_n 0), some (.iload_n 1), some (.iload 4), none, some (.iload 5), none, some (.invokevirtual 199), none, none, some (.ifCond .eq (95)), none, none, some (.aload_n 0), some (.iload_n 1), some (.iload 4), none, some (.iload 5), none, some (.invokevirtual 202), none, none, some (.aload_n 0), some (.getfield 189), none, none, some (.if_icmp .ne (79)), none, none, some (.iload_n 3), some (.ifCond .ne (10)), none, none, some (.aload_n 0), some (.getfield 185), none, none, some (.ifCond .eq (7)), none, none, some (.iconst 1), some (.goto (4)), none, none, some (.iconst 0), some (.istore_n 3), some (.aload_n 0), some (.aload_n 0), some (.getfield 206), none, none, some (.ifCond .ne (11)), none, none, some (.aload_n 0), some (.getfield 189), none, none, some (.iload_n 2), some (.if_icmp .lt (7)), none, none, some (.iconst 1), some (.goto (4)), none, none, some (.iconst 0), some (.putfield 206), none, none, some (.aload_n 0), some (.getfield 54), none, none, some (.aload_n 0), some (.getfield 189), none, none, some (.iconst 0), some (.bastore), some (.aload_n 0), some (.aload_n 0), some (.getfield 189), none, none, some (.iload_n 2), some (.if_icmp .ge (12)), none, none, some (.aload_n 0), some (.getfield 189), none, none, some (.iconst 1), some (.iadd), some (.goto (7)), none, none, some (.aload_n 0), some (.getfield 189), none, none, some (.putfield 189), none, none, some (.iload 5), none, some (.invokestatic 209), none, none, some (.istore 5), none, some (.goto (-123)), none, none, some (.iinc 4 (1)), none, none, some (.goto (-141)), none, none, some (.iload_n 3), some (.ireturn)]
def zp_p125 : List (Nat × zi_T × List Nat) := [(54, (9, 5, 19, .null), [674]), (96, (1, 80, 0, .ref 5), [767, 60, 770, 769, 17]), (185, (0, 5, 24, .null), [679]), (189, (0, 5, 21, .null), [676]), (195, (1, 121, 1, .ref 5), [930, 60, 933, 932, 46]), (199, (1, 122, 3, .ref 5), [934, 60, 937, 936, 47]), (202, (1, 123, 3, .ref 5), [938, 60, 941, 940, 48]), (206, (0, 5, 23, .null), [678]), (209, (3, 124, 1, .null), [942, 60, 944, 943])]
/-- 126: PatienceTableModel.leads(IIII)Z -/
def zp_l126 : List (Option Jvm.ClassFile.Instr) := [some (.aload_n 0), some (.iload_n 1), some (.iload_n 2), some (.iload_n 3), some (.invokevirtual 199), none, none, some (.ifCond .ne (5)), none, none, some (.iconst 0), some (.ireturn), some (.aload_n 0), some (.iload_n 1), some (.iload_n 2), some (.iload_n 3), some (.invokevirtual 202), none, none, some (.istore 5), none, some (.iload 4), none, some (.aload_n 0), some (.getfield 212), none, none, some (.iconst 1), some (.isub), some (.if_icmp .ne (10)), none, none, some (.aload_n 0), some (.getfield 185), none, none, some (.goto (41)), none, none, some (.iload 5), none, some (.aload_n 0), some (.getfield 57), none, none, some (.iload 4), none, some (.iconst 1), some (.iadd), some (.iaload), some (.if_icmp .lt (26)), none, none, some (.iload 5), none, some (.aload_n 0), some (.getfield 189), none, none, some (.if_icmp .ge (17)), none, none, some (.aload_n 0), some (.getfield 54), none, none, some (.iload 5), none, some (.baload), some (.ifCond .eq (7)), none, none, some (.iconst 1), some (.goto (4)), none, none, some (.iconst 0), some (.ireturn)]
def zp_p126 : List (Nat × zi_T × List Nat) := [(54, (9, 5, 19, .null), [674]), (57, (9, 5, 20, .null), [675]), (185, (0, 5, 24, .null), [679]), (189, (0, 5, 21, .null), [676]), (199, (1, 122, 3, .ref 5), [934, 60, 937, 936, 47]), (202, (1, 123, 3, .ref 5), [938, 60, 941, 940, 48]), (212, (0, 5, 22, .null), [677])]
/-- 127: PatienceTableModel.isGood(II)Z -/
def zp_l127 : List (Option Jvm.ClassFile.Instr) := [some (.iconst 0), some (.istore_n 3), some (.aload_n 0), some (.iload_n 1), some (.invokevirtual 195), none, none, some (.iconst 0), some (.istore 4), none, some (.iload 4), none, some (.aload_n 0), some (.invokevirtual 96), none, none, some (.if_icmp .ge (53)), none, none, some (.iload_n 3), some (.ifCond .ne (49)), none, none, some (.iconst 1), some (.istore 5), none, some (.iload 5), none, some (.bipush (10)), none, some (.aload_n 0), some (.invokevirtual 96), none, none, some (.iadd), some (.if_icmp .ge (28)), none, none, some (.iload_n 3), some (.ifCond .ne (24)), none, none, some (.aload_n 0), some (.iload_n 1), some (.iload 4), none, some (.iload 5), none, some (.iload_n 2), some (.invokevirtual 215), none, none, some (.istore_n 3), some (.iload 5), none, some (.invokestatic 209), none, none, some (.istore 5), none, some (.goto (-34)), none, none, some (.iinc 4 (1)), none, none, some (.goto (-56)), none, none, some (.iload_n 3), some (.ireturn)]
def zp_p127 : List (Nat × zi_T × List Nat) := [(96, (1, 80, 0, .ref 5), [767, 60, 770, 769, 17]), (195, (1, 121, 1, .ref 5), [930, 60, 933, 932, 46]), (209, (3, 124, 1, .null), [942, 60, 944, 943]), (215, (1, 126, 4, .ref 5), [953, 60, 956, 955, 51])]
/-- 128: PatienceTableModel.onAt(I)I -/
def zp_l128 : List (Option Jvm.ClassFile.Instr) := [some (.iload_n 1), some (.bipush (12)), none, some (.if_icmp .ne (7)), none, none, some (.iconst 1), some (.goto (37)), none, none, some (.aload_n 0), some (.iload_n 1), some (.invokevirtual 118), none, none, some (.ifCond .eq (7)), none, none, some (.iconst 2), some (.goto (25)), none, none, some (.aload_n 0), some (.getfield 26), none, none, some (.iload_n 1), some (.iaload), some (.ifCond .ne (7)), none, none, some (.iconst 3), some (.goto (12)), none, none, some (.bipush (10)), none, some (.aload_n 0), some (.iload_n 1), some (.iconst 0), some (.invokevirtual 121), none, none, some (.iadd), some (.ireturn)]
def zp_p128 : List (Nat × zi_T × List Nat) := [(26, (9, 5, 8, .null), [663]), (118, (1, 95, 1, .ref 5), [799, 60, 802, 801, 22]), (121, (1, 97, 2, .ref 5), [815, 60, 818, 817, 26])]
/-- 129: PatienceTableModel.firstMove()I -/
def zp_l129 : List (Option Jvm.ClassFile.Instr) := [some (.aload_n 0), some (.getfield 212), none, none, some (.iconst 1), some (.isub), some (.istore_n 1), some (.iload_n 1), some (.ifCond .le (46)), none, none, some (.aload_n 0), some (.getfield 57), none, none, some (.iload_n 1), some (.iaload), some (.istore_n 2), some (.iload_n 2), some (.aload_n 0), some (.getfield 57), none, none, some (.iload_n 1), some (.iconst 1), some (.iadd), some (.iaload), some (.if_icmp .ge (21)), none, none, some (.aload_n 0), some (.getfield 54), none, none, some (.iload_n 2), some (.aload_n 0), some (.iload_n 2), some (.iload_n 1), some (.invokevirtual 219), none, none, some (.bastore), some (.iinc 2 (1)), none, none, some (.goto (-27)), none, none, some (.iinc 1 (-1)), none, none, some (.goto (-44)), none, none, some (.aload_n 0), some (.iconst 0), some (.invokevirtual 195), none, none, some (.iconst 0), some (.istore_n 1), some (.iload_n 1), some (.sipush (208)), none, none, some (.if_icmp .ge (99)), none, none, some (.iload_n 1), some (.bipush (16)), none, some (.idiv), some (.istore_n 2), some (.iload_n 1), some (.bipush (16)), none, some (.irem), some (.istore_n 3), some (.aload_n 0), some (.iload_n 2), some (.invokevirtual 135), none, none, some (.ifCond .ne (11)), none, none, some (.aload_n 0), some (.iload_n 2), some (.invokevirtual 118), none, none, some (.ifCond .eq (29)), none, none, some (.aload_n 0), some (.iload_n 3), some (.invokevirtual 135), none, none, some (.ifCond .ne (17)), none, none, some (.aload_n 0), some (.iload_n 3), some (.invokevirtual 118), none, none, some (.ifCond .ne (9)), none, none, some (.iload_n 3), some (.bipush (12)), none, some (.if_icmp .ne (7)), none, none, some (.iconst 1), some (.goto (4)), none, none, some (.iconst 0), some (.istore 4), none, some (.iload 4), none, some (.ifCond .eq (33)), none, none, some (.aload_n 0), some (.iload_n 2), some (.iload_n 3), some (.invokevirtual 141), none, none, some (.ifCond .eq (24)), none, none, some (.aload_n 0), some (.iconst 0), some (.aload_n 0), some (.iload_n 2), some (.invokevirtual 132), none, none, some (.aload_n 0), some (.iload_n 3), some (.invokevirtual 222), none, none, some (.iconst 0), some (.invokevirtual 215), none, none, some (.ifCond .eq (5)), none, none, some (.iload_n 1), some (.ireturn), some (.iinc 1 (1)), none, none, some (.goto (-100)), none, none, some (.iconst (-1)), some (.ireturn)]
def zp_p129 : List (Nat × zi_T × List Nat) := [(54, (9, 5, 19, .null), [674]), (57, (9, 5, 20, .null), [675]), (118, (1, 95, 1, .ref 5), [799, 60, 802, 801, 22]), (132, (1, 98, 1, .ref 5), [811, 60, 814, 813, 25]), (135, (1, 94, 1, .ref 5), [795, 60, 798, 797, 21]), (141, (1, 100, 2, .ref 5), [807, 60, 810, 809, 24]), (195, (1, 121, 1, .ref 5), [930, 60, 933, 932, 46]), (212, (0, 5, 22, .null), [677]), (215, (1, 126, 4, .ref 5), [953, 60, 956, 955, 51]), (219, (1, 127, 2, .ref 5), [949, 60, 952, 951, 50]), (222, (1, 128, 1, .ref 5), [957, 60, 960, 959, 52])]
/-- 130: PatienceTableModel.search(I)I -/
def zp_l130 : List (Option Jvm.ClassFile.Instr) := [some (.aload_n 0), some (.invokevirtual 225), none, none, some (.aload_n 0), some (.getfield 51), none, none, some (.iconst 0), some (.aload_n 0), some (.iconst 0), some (.invokevirtual 192), none, none, some (.iastore), some (.aload_n 0), some (.iconst 1), some (.putfield 189), none, none, some (.aload_n 0), some (.iconst 0), some (.putfield 212), none, none, some (.aload_n 0), some (.getfield 57), none, none, some (.iconst 0), some (.iconst 0), some (.iastore), some (.aload_n 0), some (.iconst 0), some (.putfield 228), none, none, some (.aload_n 0), some (.invokevirtual 164), none, none, some (.aload_n 0), some (.invokevirtual 96), none, none, some (.if_icmp .ne (5)), none, none, some (.iconst 0), some (.ireturn), some (.aload_n 0), some (.getfield 57), none, none, some (.aload_n 0), some (.getfield 212), none, none, some (.iaload), some (.istore_n 2), some (.aload_n 0), some (.dup), some (.getfield 212), none, none, some (.iconst 1), some (.iadd), some (.putfield 212), none, none, some (.aload_n 0), some (.getfield 57), none, none, some (.aload_n 0), some (.getfield 212), none, none, some (.aload_n 0), some (.getfield 189), none, none, some (.iastore), some (.aload_n 0), some (.aload_n 0), some (.getfield 189), none, none, some (.putfield 228), none, none, some (.aload_n 0), some (.iconst 0), some (.putfield 206), none, none, some (.iconst 0), some (.istore_n 3), some (.iload_n 2), some (.istore 4), none, some (.iload 4), none, some (.aload_n 0), some (.getfield 228), none, none, some (.if_icmp .ge (33)), none, none, some (.aload_n 0), some (.iload 4), none, some (.iload_n 1), some (.invokevirtual 231), none, none, some (.istore 5), none, some (.iload_n 3), some (.ifCond .ne (8)), none, none, some (.iload 5), none, some (.ifCond .eq (7)), none, none, some (.iconst 1), some (.goto (4)), none, none, some (.iconst 0), some (.istore_n 3), some (.iinc 4 (1)), none, none, some (.goto (-36)), none, none, some (.iload_n 3), some (.ifCond .eq (8)), none, none, some (.aload_n 0), some (.getfield 212), none, none, some (.ireturn), some (.aload_n 0), some (.getfield 206), none, none, some (.ifCond .ne (14)), none, none, some (.aload_n 0), some (.getfield 189), none, none, some (.aload_n 0), some (.getfield 228), none, none, some (.if_icmp .ne (18)), none, none, some (.aload_n 0), some (.getfield 206), none, none, some (.ifCond .eq (8)), none, none, some (.bipush (-2)), none, some (.goto (5)), none, none, some (.bipush (-3)), none, some (.ireturn), some (.goto (-132))]
def zp_p130 : List (Nat × zi_T × List Nat) := [(51, (9, 5, 18, .null), [673]), (57, (9, 5, 20, .null), [675]), (96, (1, 80, 0, .ref 5), [767, 60, 770, 769, 17]), (164, (1, 96, 0, .ref 5), [862, 60, 865, 864, 37]), (189, (0, 5, 21, .null), [676]), (192, (1, 120, 1, .ref 5), [922, 60, 925, 924, 44]), (206, (0, 5, 23, .null), [678]), (212, (0, 5, 22, .null), [677]), (225, (1, 119, 0, .ref 5), [918, 60, 921, 920, 43]), (228, (0, 5, 16, .null), [671]), (231, (1, 125, 2, .ref 5), [926, 60, 929, 928, 45])]
/-- 131: PatienceTableModel.look(I)I -/
def zp_l131 : List (Option Jvm.ClassFile.Instr) := [some (.aload_n 0), some (.iconst 0), some (.putfield 69), none, none, some (.iload_n 1), some (.iconst 1), some (.sipush (200)), none, none, some (.invokestatic 92), none, none, some (.ifCond .ne (9)), none, none, some (.aload_n 0), some (.iconst 1), some (.invokevirtual 112), none, none, some (.ireturn), some (.aload_n 0), some (.invokevirtual 115), none, none, some (.aload_n 0), some (.invokevirtual 96), none, none, some (.if_icmp .ge (9)), none, none, some (.aload_n 0), some (.iconst 2), some (.invokevirtual 112), none, none, some (.ireturn), some (.aload_n 0), some (.iload_n 1), some (.invokevirtual 234), none, none, some (.istore_n 2), some (.aload_n 0), some (.iload_n 2), some (.ifCond .le (10)), none, none, some (.aload_n 0), some (.invokevirtual 237), none, none, some (.goto (4)), none, none, some (.iconst (-1)), some (.putfield 45), none, none, some (.iload_n 2), some (.ireturn)]
def zp_p131 : List (Nat × zi_T × List Nat) := [(45, (0, 5, 15, .null), [670]), (69, (0, 5, 0, .null), [655]), (92, (3, 79, 3, .null), [752, 60, 754, 753]), (96, (1, 80, 0, .ref 5), [767, 60, 770, 769, 17]), (112, (1, 78, 1, .ref 5), [783, 60, 786, 785, 19]), (115, (1, 92, 0, .ref 5), [787, 60, 790, 789, 20]), (234, (1, 130, 1, .ref 5), [914, 60, 917, 916, 42]), (237, (1, 129, 0, .ref 5), [945, 60, 948, 947, 49])]
/-- 132: PatienceTableModel.hint()I -/
def zp_l132 : List (Option Jvm.ClassFile.Instr) := [some (.aload_n 0), some (.iconst 0), some (.putfield 69), none, none, some (.aload_n 0), some (.getfield 45), none, none, some (.ireturn)]
def zp_p132 : List (Nat × zi_T × List Nat) := [(45, (0, 5, 15, .null), [670]), (69, (0, 5, 0, .null), [655])]
/-- 133: PatienceTableModel.positions()I -/
def zp_l133 : List (Option Jvm.ClassFile.Instr) := [some (.aload_n 0), some (.iconst 0), some (.putfield 69), none, none, some (.aload_n 0), some (.getfield 228), none, none, some (.ireturn)]
def zp_p133 : List (Nat × zi_T × List Nat) := [(69, (0, 5, 0, .null), [655]), (228, (0, 5, 16, .null), [671])]
/-- 134: java/util/Arrays.fill([II)V -/
def zp_l134 : List (Option Jvm.ClassFile.Instr) := [some (.iconst 0), some (.istore_n 2), some (.aload_n 0), some (.arraylength), some (.istore_n 3), some (.iload_n 2), some (.iload_n 3), some (.if_icmp .ge (13)), none, none, some (.aload_n 0), some (.iload_n 2), some (.iload_n 1), some (.iastore), some (.iinc 2 (1)), none, none, some (.goto (-12)), none, none, some (.return_)]
def zp_p134 : List (Nat × zi_T × List Nat) := []
def zp_ls : List (List (Option Jvm.ClassFile.Instr)) := [zp_l0, zp_l1, zp_l2, zp_l3, zp_l4, zp_l5, zp_l6, zp_l7, zp_l8, zp_l9, zp_l10, zp_l11, zp_l12, zp_l13, zp_l14, zp_l15, zp_l16, zp_l17, zp_l18, zp_l19, zp_l20, zp_l21, zp_l22, zp_l23, zp_l24, zp_l25, zp_l26, zp_l27, zp_l28, zp_l29, zp_l30, zp_l31, zp_l32, zp_l33, zp_l34, zp_l35, zp_l36, zp_l37, zp_l38, zp_l39, zp_l40, zp_l41, zp_l42, zp_l43, zp_l44, zp_l45, zp_l46, zp_l47, zp_l48, zp_l49, zp_l50, zp_l51, zp_l52, zp_l53, zp_l54, zp_l55, zp_l56, zp_l57, zp_l58, zp_l59, zp_l60, zp_l61, zp_l62, zp_l63, zp_l64, zp_l65, zp_l66, zp_l67, zp_l68, zp_l69, zp_l70, zp_l71, zp_l72, zp_l73, zp_l74, zp_l75, zp_l76, zp_l77, zp_l78, zp_l79, zp_l80, zp_l81, zp_l82, zp_l83, zp_l84, zp_l85, zp_l86, zp_l87, zp_l88, zp_l89, zp_l90, zp_l91, zp_l92, zp_l93, zp_l94, zp_l95, zp_l96, zp_l97, zp_l98, zp_l99, zp_l100, zp_l101, zp_l102, zp_l103, zp_l104, zp_l105, zp_l106, zp_l107, zp_l108, zp_l109, zp_l110, zp_l111, zp_l112, zp_l113, zp_l114, zp_l115, zp_l116, zp_l117, zp_l118, zp_l119, zp_l120, zp_l121, zp_l122, zp_l123, zp_l124, zp_l125, zp_l126, zp_l127, zp_l128, zp_l129, zp_l130, zp_l131, zp_l132, zp_l133, zp_l134]
def zp_ps : List (List (Nat × zi_T × List Nat)) := [zp_p0, zp_p1, zp_p2, zp_p3, zp_p4, zp_p5, zp_p6, zp_p7, zp_p8, zp_p9, zp_p10, zp_p11, zp_p12, zp_p13, zp_p14, zp_p15, zp_p16, zp_p17, zp_p18, zp_p19, zp_p20, zp_p21, zp_p22, zp_p23, zp_p24, zp_p25, zp_p26, zp_p27, zp_p28, zp_p29, zp_p30, zp_p31, zp_p32, zp_p33, zp_p34, zp_p35, zp_p36, zp_p37, zp_p38, zp_p39, zp_p40, zp_p41, zp_p42, zp_p43, zp_p44, zp_p45, zp_p46, zp_p47, zp_p48, zp_p49, zp_p50, zp_p51, zp_p52, zp_p53, zp_p54, zp_p55, zp_p56, zp_p57, zp_p58, zp_p59, zp_p60, zp_p61, zp_p62, zp_p63, zp_p64, zp_p65, zp_p66, zp_p67, zp_p68, zp_p69, zp_p70, zp_p71, zp_p72, zp_p73, zp_p74, zp_p75, zp_p76, zp_p77, zp_p78, zp_p79, zp_p80, zp_p81, zp_p82, zp_p83, zp_p84, zp_p85, zp_p86, zp_p87, zp_p88, zp_p89, zp_p90, zp_p91, zp_p92, zp_p93, zp_p94, zp_p95, zp_p96, zp_p97, zp_p98, zp_p99, zp_p100, zp_p101, zp_p102, zp_p103, zp_p104, zp_p105, zp_p106, zp_p107, zp_p108, zp_p109, zp_p110, zp_p111, zp_p112, zp_p113, zp_p114, zp_p115, zp_p116, zp_p117, zp_p118, zp_p119, zp_p120, zp_p121, zp_p122, zp_p123, zp_p124, zp_p125, zp_p126, zp_p127, zp_p128, zp_p129, zp_p130, zp_p131, zp_p132, zp_p133, zp_p134]
def zp_ms : List (MethodName × ByteArray × Nat × Option FieldType) := [(⟨"PatienceTableLaw", "law", "([I)Z"⟩, code, 7, (some .boolean)),
  (⟨"PatienceTableLaw", "deal", "(LPatienceTable;I)I"⟩, method_3_code, 3, (some FieldType.int)),
  (⟨"PatienceTableLaw", "lay", "(LPatienceTable;II[J)I"⟩, method_4_code, 5, (some FieldType.int)),
  (⟨"PatienceTableLaw", "move", "(LPatienceTable;III[J)I"⟩, method_5_code, 6, (some FieldType.int)),
  (⟨"PatienceTableLaw", "play", "(LPatienceTable;CC[J)I"⟩, method_6_code, 5, (some FieldType.int)),
  (⟨"PatienceTableLaw", "sendHome", "(LPatienceTable;[J)I"⟩, method_7_code, 3, (some FieldType.int)),
  (⟨"PatienceTableLaw", "undo", "(LPatienceTable;[J)I"⟩, method_8_code, 3, (some FieldType.int)),
  (⟨"PatienceTableLaw", "look", "(LPatienceTable;I[J)I"⟩, method_9_code, 4, (some FieldType.int)),
  (⟨"PatienceTable", "<init>", "()V"⟩, prog_1_method_1_code, 1, none),
  (⟨"PatienceTable", "rules", "(IIII)Z"⟩, prog_1_method_2_code, 6, (some FieldType.boolean)),
  (⟨"PatienceTable", "cards", "(II)Z"⟩, prog_1_method_3_code, 3, (some FieldType.boolean)),
  (⟨"PatienceTable", "deal", "(I)V"⟩, prog_1_method_4_code, 7, none),
  (⟨"PatienceTable", "clear", "()V"⟩, prog_1_method_5_code, 1, none),
  (⟨"PatienceTable", "lay", "(II)I"⟩, prog_1_method_6_code, 3, (some FieldType.int)),
  (⟨"PatienceTable", "move", "(III)I"⟩, prog_1_method_7_code, 4, (some FieldType.int)),
  (⟨"PatienceTable", "play", "(CC)I"⟩, prog_1_method_8_code, 6, (some FieldType.int)),
  (⟨"PatienceTable", "sendHome", "()I"⟩, prog_1_method_9_code, 3, (some FieldType.int)),
  (⟨"PatienceTable", "undo", "()I"⟩, prog_1_method_10_code, 2, (some FieldType.int)),
  (⟨"PatienceTable", "log", "()I"⟩, prog_1_method_11_code, 1, (some FieldType.int)),
  (⟨"PatienceTable", "card", "(II)I"⟩, prog_1_method_12_code, 3, (some FieldType.int)),
  (⟨"PatienceTable", "size", "(I)I"⟩, prog_1_method_13_code, 2, (some FieldType.int)),
  (⟨"PatienceTable", "most", "(II)I"⟩, prog_1_method_14_code, 3, (some FieldType.int)),
  (⟨"PatienceTable", "look", "(I)I"⟩, prog_1_method_15_code, 3, (some FieldType.int)),
  (⟨"PatienceTable", "hint", "()I"⟩, prog_1_method_16_code, 1, (some FieldType.int)),
  (⟨"PatienceTable", "positions", "()I"⟩, prog_1_method_17_code, 1, (some FieldType.int)),
  (⟨"PatienceTable", "isWithin", "(III)Z"⟩, prog_1_method_18_code, 3, (some FieldType.boolean)),
  (⟨"PatienceTable", "placeTold", "(C)I"⟩, prog_1_method_19_code, 1, (some FieldType.int)),
  (⟨"PatienceTable", "bring", "(III)V"⟩, prog_1_method_20_code, 5, none),
  (⟨"PatienceTable$Game", "<init>", "()V"⟩, prog_2_method_1_code, 1, none),
  (⟨"PatienceTable$Game", "isColumn", "(I)Z"⟩, prog_2_method_2_code, 2, (some FieldType.boolean)),
  (⟨"PatienceTable$Game", "isCell", "(I)Z"⟩, prog_2_method_3_code, 2, (some FieldType.boolean)),
  (⟨"PatienceTable$Game", "isPlace", "(I)Z"⟩, prog_2_method_4_code, 2, (some FieldType.boolean)),
  (⟨"PatienceTable$Game", "cardCount", "()I"⟩, prog_2_method_5_code, 1, (some FieldType.int)),
  (⟨"PatienceTable$Game", "isCard", "(I)Z"⟩, prog_2_method_6_code, 2, (some FieldType.boolean)),
  (⟨"PatienceTable$Game", "rankOf", "(I)I"⟩, prog_2_method_7_code, 2, (some FieldType.int)),
  (⟨"PatienceTable$Game", "suitOf", "(I)I"⟩, prog_2_method_8_code, 2, (some FieldType.int)),
  (⟨"PatienceTable$Game", "isRed", "(I)Z"⟩, prog_2_method_9_code, 2, (some FieldType.boolean)),
  (⟨"PatienceTable$Game", "fitsOn", "(II)Z"⟩, prog_2_method_10_code, 3, (some FieldType.boolean)),
  (⟨"PatienceTable$Game", "fitsInEmpty", "(I)Z"⟩, prog_2_method_11_code, 2, (some FieldType.boolean)),
  (⟨"PatienceTable$Layout", "<init>", "(LPatienceTable$Game;)V"⟩, prog_3_method_1_code, 2, none),
  (⟨"PatienceTable$Layout", "takeAllUp", "()V"⟩, prog_3_method_2_code, 1, none),
  (⟨"PatienceTable$Layout", "becomeLike", "(LPatienceTable$Layout;)V"⟩, prog_3_method_3_code, 2, none),
  (⟨"PatienceTable$Layout", "isLaid", "(I)Z"⟩, prog_3_method_4_code, 2, (some FieldType.boolean)),
  (⟨"PatienceTable$Layout", "isAllLaid", "()Z"⟩, prog_3_method_5_code, 1, (some FieldType.boolean)),
  (⟨"PatienceTable$Layout", "isAllHome", "()Z"⟩, prog_3_method_6_code, 1, (some FieldType.boolean)),
  (⟨"PatienceTable$Layout", "layOn", "(II)V"⟩, prog_3_method_7_code, 3, none),
  (⟨"PatienceTable$Layout", "heightOf", "(I)I"⟩, prog_3_method_8_code, 4, (some FieldType.int)),
  (⟨"PatienceTable$Layout", "cardFromTop", "(II)I"⟩, prog_3_method_9_code, 5, (some FieldType.int)),
  (⟨"PatienceTable$Layout", "topAtHome", "(I)I"⟩, prog_3_method_10_code, 2, (some FieldType.int)),
  (⟨"PatienceTable$Layout", "allows", "(III)Z"⟩, prog_3_method_11_code, 4, (some FieldType.boolean)),
  (⟨"PatienceTable$Layout", "allowsOne", "(II)Z"⟩, prog_3_method_12_code, 4, (some FieldType.boolean)),
  (⟨"PatienceTable$Layout", "allowsRow", "(III)Z"⟩, prog_3_method_13_code, 4, (some FieldType.boolean)),
  (⟨"PatienceTable$Layout", "bears", "(II)Z"⟩, prog_3_method_14_code, 3, (some FieldType.boolean)),
  (⟨"PatienceTable$Layout", "rowOf", "(I)I"⟩, prog_3_method_15_code, 4, (some FieldType.int)),
  (⟨"PatienceTable$Layout", "mostAtOnce", "(I)I"⟩, prog_3_method_16_code, 5, (some FieldType.int)),
  (⟨"PatienceTable$Layout", "emptyAmong", "(II)I"⟩, prog_3_method_17_code, 5, (some FieldType.int)),
  (⟨"PatienceTable$Layout", "mostBetween", "(II)I"⟩, prog_3_method_18_code, 4, (some FieldType.int)),
  (⟨"PatienceTable$Layout", "mayGoHome", "(I)Z"⟩, prog_3_method_19_code, 2, (some FieldType.boolean)),
  (⟨"PatienceTable$Layout", "placeOfSafe", "()I"⟩, prog_3_method_20_code, 2, (some FieldType.int)),
  (⟨"PatienceTable$Layout", "isTopSafe", "(I)Z"⟩, prog_3_method_21_code, 3, (some FieldType.boolean)),
  (⟨"PatienceTable$Layout", "isSafe", "(I)Z"⟩, prog_3_method_22_code, 6, (some FieldType.boolean)),
  (⟨"PatienceTable$Layout", "groundAt", "(I)I"⟩, prog_3_method_23_code, 2, (some FieldType.int)),
  (⟨"PatienceTable$Layout", "carry", "(III)V"⟩, prog_3_method_24_code, 6, none),
  (⟨"PatienceTable$Log", "<init>", "()V"⟩, prog_4_method_1_code, 1, none),
  (⟨"PatienceTable$Log", "forgetAll", "()V"⟩, prog_4_method_2_code, 1, none),
  (⟨"PatienceTable$Log", "note", "(IIII)V"⟩, prog_4_method_3_code, 5, none),
  (⟨"PatienceTable$Log", "takeLatest", "()I"⟩, prog_4_method_4_code, 1, (some FieldType.int)),
  (⟨"PatienceTable$Search", "<init>", "(LPatienceTable$Game;)V"⟩, prog_5_method_1_code, 3, none),
  (⟨"PatienceTable$Search", "seek", "(LPatienceTable$Layout;I)I"⟩, prog_5_method_2_code, 6, (some FieldType.int)),
  (⟨"PatienceTable$Search", "begin", "(LPatienceTable$Layout;I)V"⟩, prog_5_method_3_code, 3, none),
  (⟨"PatienceTable$Search", "expand", "(I)V"⟩, prog_5_method_4_code, 5, none),
  (⟨"PatienceTable$Search", "reach", "(III)V"⟩, prog_5_method_5_code, 10, none),
  (⟨"PatienceTable$Search", "slotFor", "(ILPatienceTable$Layout;II)I"⟩, prog_5_method_6_code, 8, (some FieldType.int)),
  (⟨"PatienceTable$Search", "isAlike", "(LPatienceTable$Layout;LPatienceTable$Layout;II)Z"⟩, prog_5_method_7_code, 8, (some FieldType.boolean)),
  (⟨"PatienceTable$Search", "hashOf", "(LPatienceTable$Layout;)I"⟩, prog_5_method_8_code, 5, (some FieldType.int)),
  (⟨"PatienceTable$Search", "share", "(II)I"⟩, prog_5_method_9_code, 3, (some FieldType.int)),
  (⟨"PatienceTableModel", "<init>", "()V"⟩, prog_7_method_1_code, 1, none),
  (⟨"PatienceTableModel", "thrown", "()I"⟩, prog_7_method_2_code, 1, (some FieldType.int)),
  (⟨"PatienceTableModel", "refuse", "(I)I"⟩, prog_7_method_3_code, 2, (some FieldType.int)),
  (⟨"PatienceTableModel", "within", "(III)Z"⟩, prog_7_method_4_code, 3, (some FieldType.boolean)),
  (⟨"PatienceTableModel", "all", "()I"⟩, prog_7_method_5_code, 1, (some FieldType.int)),
  (⟨"PatienceTableModel", "suit", "(I)I"⟩, prog_7_method_6_code, 2, (some FieldType.int)),
  (⟨"PatienceTableModel", "rank", "(I)I"⟩, prog_7_method_7_code, 2, (some FieldType.int)),
  (⟨"PatienceTableModel", "isBlack", "(I)Z"⟩, prog_7_method_8_code, 1, (some FieldType.boolean)),
  (⟨"PatienceTableModel", "fitsOn", "(II)Z"⟩, prog_7_method_9_code, 3, (some FieldType.boolean)),
  (⟨"PatienceTableModel", "fitsEmpty", "(I)Z"⟩, prog_7_method_10_code, 2, (some FieldType.boolean)),
  (⟨"PatienceTableModel", "wipe", "()V"⟩, prog_7_method_11_code, 2, none),
  (⟨"PatienceTableModel", "rules", "(IIII)Z"⟩, prog_7_method_12_code, 5, (some FieldType.boolean)),
  (⟨"PatienceTableModel", "cards", "(II)Z"⟩, prog_7_method_13_code, 3, (some FieldType.boolean)),
  (⟨"PatienceTableModel", "clear", "()V"⟩, prog_7_method_14_code, 1, none),
  (⟨"PatienceTableModel", "push", "(II)V"⟩, prog_7_method_15_code, 3, none),
  (⟨"PatienceTableModel", "deal", "(I)V"⟩, prog_7_method_16_code, 7, none),
  (⟨"PatienceTableModel", "laid", "()I"⟩, prog_7_method_17_code, 3, (some FieldType.int)),
  (⟨"PatienceTableModel", "lay", "(II)I"⟩, prog_7_method_18_code, 3, (some FieldType.int)),
  (⟨"PatienceTableModel", "isColumn", "(I)Z"⟩, prog_7_method_19_code, 2, (some FieldType.boolean)),
  (⟨"PatienceTableModel", "isCell", "(I)Z"⟩, prog_7_method_20_code, 2, (some FieldType.boolean)),
  (⟨"PatienceTableModel", "atHome", "()I"⟩, prog_7_method_21_code, 1, (some FieldType.int)),
  (⟨"PatienceTableModel", "fromTop", "(II)I"⟩, prog_7_method_22_code, 3, (some FieldType.int)),
  (⟨"PatienceTableModel", "topOf", "(I)I"⟩, prog_7_method_23_code, 2, (some FieldType.int)),
  (⟨"PatienceTableModel", "fitsAt", "(II)Z"⟩, prog_7_method_24_code, 3, (some FieldType.boolean)),
  (⟨"PatienceTableModel", "mayOne", "(II)Z"⟩, prog_7_method_25_code, 4, (some FieldType.boolean)),
  (⟨"PatienceTableModel", "limit", "(I)I"⟩, prog_7_method_26_code, 4, (some FieldType.int)),
  (⟨"PatienceTableModel", "may", "(III)Z"⟩, prog_7_method_27_code, 5, (some FieldType.boolean)),
  (⟨"PatienceTableModel", "take", "(II)I"⟩, prog_7_method_28_code, 3, (some FieldType.int)),
  (⟨"PatienceTableModel", "give", "(II)V"⟩, prog_7_method_29_code, 3, none),
  (⟨"PatienceTableModel", "bring", "(IIII)V"⟩, prog_7_method_30_code, 6, none),
  (⟨"PatienceTableModel", "make", "(III)V"⟩, prog_7_method_31_code, 5, none),
  (⟨"PatienceTableModel", "move", "(III)I"⟩, prog_7_method_32_code, 4, (some FieldType.int)),
  (⟨"PatienceTableModel", "placeOf", "(I)I"⟩, prog_7_method_33_code, 3, (some FieldType.int)),
  (⟨"PatienceTableModel", "mostOf", "(II)I"⟩, prog_7_method_34_code, 5, (some FieldType.int)),
  (⟨"PatienceTableModel", "play", "(CC)I"⟩, prog_7_method_35_code, 6, (some FieldType.int)),
  (⟨"PatienceTableModel", "isSafe", "(I)Z"⟩, prog_7_method_36_code, 5, (some FieldType.boolean)),
  (⟨"PatienceTableModel", "safePlace", "()I"⟩, prog_7_method_37_code, 3, (some FieldType.int)),
  (⟨"PatienceTableModel", "sendHome", "()I"⟩, prog_7_method_38_code, 3, (some FieldType.int)),
  (⟨"PatienceTableModel", "undo", "()I"⟩, prog_7_method_39_code, 2, (some FieldType.int)),
  (⟨"PatienceTableModel", "log", "()I"⟩, prog_7_method_40_code, 1, (some FieldType.int)),
  (⟨"PatienceTableModel", "card", "(II)I"⟩, prog_7_method_41_code, 3, (some FieldType.int)),
  (⟨"PatienceTableModel", "size", "(I)I"⟩, prog_7_method_42_code, 2, (some FieldType.int)),
  (⟨"PatienceTableModel", "most", "(II)I"⟩, prog_7_method_43_code, 3, (some FieldType.int)),
  (⟨"PatienceTableModel", "begin", "()V"⟩, prog_7_method_44_code, 3, none),
  (⟨"PatienceTableModel", "sumOf", "(I)I"⟩, prog_7_method_45_code, 4, (some FieldType.int)),
  (⟨"PatienceTableModel", "regard", "(I)V"⟩, prog_7_method_46_code, 4, none),
  (⟨"PatienceTableModel", "mayLie", "(III)Z"⟩, prog_7_method_47_code, 6, (some FieldType.boolean)),
  (⟨"PatienceTableModel", "tried", "(III)I"⟩, prog_7_method_48_code, 7, (some FieldType.int)),
  (⟨"PatienceTableModel", "after", "(I)I"⟩, prog_7_method_49_code, 1, (some FieldType.int)),
  (⟨"PatienceTableModel", "spread", "(II)Z"⟩, prog_7_method_50_code, 6, (some FieldType.boolean)),
  (⟨"PatienceTableModel", "leads", "(IIII)Z"⟩, prog_7_method_51_code, 6, (some FieldType.boolean)),
  (⟨"PatienceTableModel", "isGood", "(II)Z"⟩, prog_7_method_52_code, 6, (some FieldType.boolean)),
  (⟨"PatienceTableModel", "onAt", "(I)I"⟩, prog_7_method_53_code, 2, (some FieldType.int)),
  (⟨"PatienceTableModel", "firstMove", "()I"⟩, prog_7_method_54_code, 5, (some FieldType.int)),
  (⟨"PatienceTableModel", "search", "(I)I"⟩, prog_7_method_55_code, 6, (some FieldType.int)),
  (⟨"PatienceTableModel", "look", "(I)I"⟩, prog_7_method_56_code, 3, (some FieldType.int)),
  (⟨"PatienceTableModel", "hint", "()I"⟩, prog_7_method_57_code, 1, (some FieldType.int)),
  (⟨"PatienceTableModel", "positions", "()I"⟩, prog_7_method_58_code, 1, (some FieldType.int)),
  (⟨"java/util/Arrays", "fill", "([II)V"⟩, prog_16_method_103_code, 4, none)]
def zp_th : List (Nat × Nat × Nat) := [(11, 11, 0), (13, 22, 0), (13, 43, 1), (14, 33, 0), (14, 66, 1), (15, 40, 0), (15, 114, 1), (16, 10, 1), (17, 10, 2), (22, 11, 0), (22, 31, 1)]
def zp_ca : List (Nat × Nat × Nat × Int32) := [(1, 2, 0, 1), (2, 5, 0, 1), (2, 5, 1, 2), (3, 7, 0, 1), (3, 7, 1, 2), (4, 5, 0, 1), (4, 5, 1, 2), (5, 3, 1, 1), (6, 3, 2, 1), (7, 4, 0, 1), (7, 4, 1, 2)]
def zp_code (k pc : Nat) : Option Jvm.ClassFile.Instr := (zp_ls.getD k []).getD pc none
def zp_pool (k x : Nat) : Option zi_T := ((zp_ps.getD k []).find? (fun q => q.1 == x)).map (fun q => q.2.1)
def zp_meth (k : Nat) : MethodName × ByteArray × Nat × Option FieldType := zp_ms.getD k (⟨"", "", ""⟩, ⟨#[]⟩, 0, none)
def zp_thr (k pc : Nat) : Option Nat := (zp_th.find? (fun q => q.1 == k && q.2.1 == pc)).map (fun q => q.2.2)
def zp_cat (k pc ex : Nat) : Option Int32 := (zp_ca.find? (fun q => q.1 == k && q.2.1 == pc && q.2.2.1 == ex)).map (fun q => q.2.2.2)
def zp : zi_P := (zp_code, zp_pool, zp_meth, zp_thr, zp_cat, zp_fty, zp_fs0)
end
section
/-! Runs, goal first: a rule an instruction. -/
set_option maxHeartbeats 1000000 in
theorem zi_run_fuel {P : zi_P} {lw L : Nat} {xs : Nat → Int32} : ∀ (n m d q k pc : Nat) (ls : zi_L) (st : List Value) (w : zi_W) (cn sn : Nat) (r : zi_R), n ≤ m → zi_run P lw L xs n d q k pc ls st w cn sn = some r → zi_run P lw L xs m d q k pc ls st w cn sn = some r := by
  intro n
  induction n with
  | zero => intro m d q k pc ls st w cn sn r _ h; cases h
  | succ n ih =>
    intro m d q k pc ls st w cn sn r hm h
    obtain ⟨m, rfl⟩ : ∃ m', m = m' + 1 := ⟨m - 1, by omega⟩
    have hm : n ≤ m := by omega
    unfold zi_run at h ⊢
    cases hthr : zi_thr P k pc with
    | some e => simp only [hthr] at h ⊢; exact h
    | none =>
      simp only [hthr] at h ⊢
      cases hcode : zi_code P k pc with
      | none => simp only [hcode] at h; cases h
      | some i =>
        simp only [hcode] at h ⊢
        cases hret : zi_ret P k i st with
        | some v => simp only [hret] at h ⊢; exact h
        | none =>
          simp only [hret] at h ⊢
          cases hsim : zi_sim P lw L xs d q k pc (zi_len i) i ls st w cn sn with
          | some c =>
            obtain ⟨pc', ls', st', w', cn', sn'⟩ := c
            simp only [hsim] at h ⊢
            split at h
            · rename_i hg
              rw [if_pos hg]
              exact ih m _ _ _ _ _ _ _ _ _ _ hm h
            · cases h
          | none =>
            simp only [hsim] at h ⊢
            cases hinv : zi_inv P k i st w with
            | none => simp only [hinv] at h; cases h
            | some t =>
              obtain ⟨j, as, r'⟩ := t
              cases d with
              | zero => simp only [hinv] at h; cases h
              | succ d' =>
                simp only [hinv] at h ⊢
                cases hent : zi_ent as (zi_n P j) with
                | none => simp only [hent] at h; cases h
                | some ls' =>
                  simp only [hent] at h ⊢
                  split at h
                  · rename_i hq
                    rw [if_pos hq]
                    cases hrun : zi_run P lw L xs n d' (q - (19 + zi_n P j)) j 0 ls' [] w cn sn with
                    | none => simp only [hrun] at h; cases h
                    | some t =>
                      have h2 := ih m _ _ _ _ _ _ _ _ _ _ hm hrun
                      obtain ⟨o, w', cn', sn'⟩ := t
                      simp only [hrun] at h
                      simp only [h2]
                      cases o with
                      | inl v => exact ih m _ _ _ _ _ _ _ _ _ _ hm h
                      | inr e => exact h
                  · cases h
/-- a run comes to an end with Q -/
def zw (L : Nat) (xs : Nat → Int32) (d q k pc : Nat) (ls : zi_L) (st : List Value) (w : zi_W) (cn sn : Nat) (Q : zi_O → zi_W → Nat → Nat → Prop) : Prop :=
  ∃ (n : Nat) (o : zi_O) (w' : zi_W) (cn' sn' : Nat), zi_run zp 0 L xs n d q k pc ls st w cn sn = some (o, w', cn', sn') ∧ Q o w' cn' sn'
/-- at pc of method k stands i, and p is the next pc; nothing is thrown there -/
def za (k pc : Nat) (i : Jvm.ClassFile.Instr) (p : Nat) : Prop := zi_code zp k pc = some i ∧ zi_thr zp k pc = none ∧ p = pc + zi_len i
/-- the same of a branch, to t -/
def zb (mk : Int → Jvm.ClassFile.Instr) (k pc t p : Nat) : Prop := ∃ off, za k pc (mk off) p ∧ zi_tgt pc off = some t
/-- fields, calls, constants by their places -/
def za_f (k pc c f p : Nat) : Prop := ∃ x tg v0, za k pc (.getfield x) p ∧ zi_pool zp k x = some (tg, c, f, v0) ∧ (tg = 0 ∨ tg = 8 ∨ tg = 9)
def za_p (k pc c f p : Nat) : Prop := ∃ x tg v0, za k pc (.putfield x) p ∧ zi_pool zp k x = some (tg, c, f, v0) ∧ (tg = 0 ∨ tg = 8)
def za_v (k pc j m ci p : Nat) : Prop := ∃ x, za k pc (.invokevirtual x) p ∧ zi_pool zp k x = some (1, j, m, .ref ci)
def za_i (k pc j m p : Nat) : Prop := ∃ x v0, za k pc (.invokespecial x) p ∧ zi_pool zp k x = some (2, j, m, v0)
def za_s (k pc j m p : Nat) : Prop := ∃ x v0, za k pc (.invokestatic x) p ∧ zi_pool zp k x = some (3, j, m, v0)
def za_c (k pc p : Nat) (v : Int32) : Prop := ∃ x a b, za k pc (.ldc x) p ∧ zi_pool zp k x = some (6, a, b, .int v)
def za_l (k pc p : Nat) (v : Int64) : Prop := ∃ x a b, za k pc (.ldc2_w x) p ∧ zi_pool zp k x = some (6, a, b, .long v)
def za_n (k pc c z p : Nat) : Prop := ∃ x v0, za k pc (.new x) p ∧ zi_pool zp k x = some (4, c, z, v0)
def za_a (k pc p : Nat) : Prop := ∃ x b v0, za k pc (.anewarray x) p ∧ zi_pool zp k x = some (5, 3, b, v0)
def za_o (k pc p : Nat) : Prop := ∃ x b v0, za k pc (.invokespecial x) p ∧ zi_pool zp k x = some (7, 0, b, v0)
def za_m (k pc p : Nat) : Prop := ∃ x b v0, za k pc (.invokestatic x) p ∧ zi_pool zp k x = some (7, 1, b, v0)
def za_y (k pc p : Nat) : Prop := ∃ x b v0, za k pc (.invokestatic x) p ∧ zi_pool zp k x = some (7, 2, b, v0)
section ZW
variable {L : Nat} {xs : Nat → Int32} {d q k pc : Nat} {ls : zi_L} {st : List Value} {w : zi_W} {cn sn : Nat} {Q : zi_O → zi_W → Nat → Nat → Prop}
theorem zw.mono {Q' : zi_O → zi_W → Nat → Nat → Prop} (h : zw L xs d q k pc ls st w cn sn Q) (hQ : ∀ o w' cn' sn', Q o w' cn' sn' → Q' o w' cn' sn') : zw L xs d q k pc ls st w cn sn Q' := by
  obtain ⟨n, o, w', cn', sn', h1, h2⟩ := h
  exact ⟨n, o, w', cn', sn', h1, hQ _ _ _ _ h2⟩
theorem zw_sim {i : Jvm.ClassFile.Instr} {pc' p : Nat} {ls' : zi_L} {st' : List Value} {w' : zi_W} {cn' sn' : Nat} (hc : za k pc i p) (hr : zi_ret zp k i st = none) (hs : zi_sim zp 0 L xs d q k pc (zi_len i) i ls st w cn sn = some (pc', ls', st', w', cn', sn')) (hg : cn ≤ cn' ∧ sn ≤ sn' ∧ ls'.length = ls.length)
    (kk : zw L xs d q k pc' ls' st' w' cn' sn' Q) : zw L xs d q k pc ls st w cn sn Q := by
  obtain ⟨n, o, w2, cn2, sn2, h1, h2⟩ := kk
  refine ⟨n + 1, o, w2, cn2, sn2, ?_, h2⟩
  unfold zi_run
  simp only [hc.2.1, hc.1, hr, hs]
  rw [if_pos hg]
  exact h1
theorem zw_ret {p : Nat} {i : Jvm.ClassFile.Instr} {r : Option Value} (hc : za k pc i p) (hr : zi_ret zp k i st = some r) (kk : Q (.inl r) w cn sn) : zw L xs d q k pc ls st w cn sn Q := by
  refine ⟨1, .inl r, w, cn, sn, ?_, kk⟩
  unfold zi_run
  simp only [hc.2.1, hc.1, hr]
theorem zw_vret {p : Nat} (hc : za k pc .return_ p) (hr : zi_r zp k = none) (kk : Q (.inl none) w cn sn) : zw L xs d q k pc ls [] w cn sn Q :=
  zw_ret hc (if_pos hr) kk
theorem zw_iret {p : Nat} {x : Int32} (hc : za k pc .ireturn p) (hr : zi_r zp k = some .int) (kk : Q (.inl (some (.int x))) w cn sn) : zw L xs d q k pc ls [.int x] w cn sn Q :=
  zw_ret hc (if_pos (Or.inl hr)) kk
theorem zw_bret {p : Nat} {x : Int32} (hc : za k pc .ireturn p) (hr : zi_r zp k = some .boolean) (hx : x = 0 ∨ x = 1) (kk : Q (.inl (some (.int x))) w cn sn) : zw L xs d q k pc ls [.int x] w cn sn Q :=
  zw_ret hc (if_pos (Or.inr ⟨hr, hx⟩)) kk
theorem zw_call0 {i : Jvm.ClassFile.Instr} {j p : Nat} {as r : List Value} {ls' : zi_L} (hc : za k pc i p) (hr : zi_ret zp k i st = none) (hs : zi_sim zp 0 L xs (d + 1) q k pc (zi_len i) i ls st w cn sn = none) (hi : zi_inv zp k i st w = some (j, as, r)) (he : zi_ent as (zi_n zp j) = some ls') (hq : 19 + zi_n zp j ≤ q)
    (kk : zw L xs d (q - (19 + zi_n zp j)) j 0 ls' [] w cn sn (fun o w' cn' sn' => (∃ v, o = .inl v ∧ zw L xs (d + 1) q k (pc + 3) ls (v.toList ++ r) w' cn' sn' Q) ∨ ∃ ex x, o = .inr ex ∧ zi_cat zp k pc ex = some x ∧ Q (.inl (some (.int x))) w' cn' sn')) : zw L xs (d + 1) q k pc ls st w cn sn Q := by
  obtain ⟨n, o, w', cn', sn', h1, h2⟩ := kk
  rcases h2 with ⟨v, rfl, n2, o2, w2, cn2, sn2, h3, h4⟩ | ⟨ex, x, rfl, h3, h4⟩
  · refine ⟨max n n2 + 1, o2, w2, cn2, sn2, ?_, h4⟩
    have h1 := zi_run_fuel n (max n n2) _ _ _ _ _ _ _ _ _ _ (Nat.le_max_left _ _) h1
    have h3 := zi_run_fuel n2 (max n n2) _ _ _ _ _ _ _ _ _ _ (Nat.le_max_right _ _) h3
    unfold zi_run
    simp only [hc.2.1, hc.1, hr, hs, hi, he]
    rw [if_pos hq, h1]
    exact h3
  · refine ⟨n + 1, _, w', cn', sn', ?_, h4⟩
    unfold zi_run
    simp only [hc.2.1, hc.1, hr, hs, hi, he]
    rw [if_pos hq, h1]
    simp only [h3]
theorem zw_thr {ex : Nat} (hc : zi_thr zp k pc = some ex) (hd : 6 ≤ d) (hq : 90 ≤ q) (kk : Q (.inr ex) w (cn + 1) (sn + 6)) : zw L xs d q k pc ls [] w cn sn Q := by
  refine ⟨1, _, w, cn + 1, sn + 6, ?_, kk⟩
  unfold zi_run
  simp only [hc]
  rw [if_pos ⟨trivial, hd, hq⟩]
end ZW
end
section
/-! Runs, goal first: a rule an instruction (by program where they are of one form). -/
section ZV
variable {L : Nat} {xs : Nat → Int32} {d q k pc p t : Nat} {ls : zi_L} {st : List Value} {w : zi_W} {cn sn : Nat} {Q : zi_O → zi_W → Nat → Nat → Prop}
theorem zw_iconst {n : Int} {v : Int32} (hc : za k pc (.iconst n) p) (hv : Int32.ofInt n = v) (kk : zw L xs d q k p ls (.int v :: st) w cn sn Q) : zw L xs d q k pc ls (st) w cn sn Q := by
  obtain ⟨a, b, rfl⟩ := hc
  exact zw_sim ⟨a, b, rfl⟩ rfl (by subst hv; rfl) ⟨Nat.le_refl _, Nat.le_refl _, rfl⟩ kk
theorem zw_bipush {n : Int} {v : Int32} (hc : za k pc (.bipush n) p) (hv : (Int8.ofInt n).toInt32 = v) (kk : zw L xs d q k p ls (.int v :: st) w cn sn Q) : zw L xs d q k pc ls (st) w cn sn Q := by
  obtain ⟨a, b, rfl⟩ := hc
  exact zw_sim ⟨a, b, rfl⟩ rfl (by subst hv; rfl) ⟨Nat.le_refl _, Nat.le_refl _, rfl⟩ kk
theorem zw_sipush {n : Int} {v : Int32} (hc : za k pc (.sipush n) p) (hv : (Int16.ofInt n).toInt32 = v) (kk : zw L xs d q k p ls (.int v :: st) w cn sn Q) : zw L xs d q k pc ls (st) w cn sn Q := by
  obtain ⟨a, b, rfl⟩ := hc
  exact zw_sim ⟨a, b, rfl⟩ rfl (by subst hv; rfl) ⟨Nat.le_refl _, Nat.le_refl _, rfl⟩ kk
theorem zw_iadd {x y : Int32} (hc : za k pc (.iadd) p) (kk : zw L xs d q k p ls (.int (x + y) :: st) w cn sn Q) : zw L xs d q k pc ls (.int y :: .int x :: st) w cn sn Q := by
  obtain ⟨a, b, rfl⟩ := hc
  exact zw_sim ⟨a, b, rfl⟩ rfl (rfl) ⟨Nat.le_refl _, Nat.le_refl _, rfl⟩ kk
theorem zw_isub {x y : Int32} (hc : za k pc (.isub) p) (kk : zw L xs d q k p ls (.int (x - y) :: st) w cn sn Q) : zw L xs d q k pc ls (.int y :: .int x :: st) w cn sn Q := by
  obtain ⟨a, b, rfl⟩ := hc
  exact zw_sim ⟨a, b, rfl⟩ rfl (rfl) ⟨Nat.le_refl _, Nat.le_refl _, rfl⟩ kk
theorem zw_imul {x y : Int32} (hc : za k pc (.imul) p) (kk : zw L xs d q k p ls (.int (x * y) :: st) w cn sn Q) : zw L xs d q k pc ls (.int y :: .int x :: st) w cn sn Q := by
  obtain ⟨a, b, rfl⟩ := hc
  exact zw_sim ⟨a, b, rfl⟩ rfl (rfl) ⟨Nat.le_refl _, Nat.le_refl _, rfl⟩ kk
theorem zw_iand {x y : Int32} (hc : za k pc (.iand) p) (kk : zw L xs d q k p ls (.int (x &&& y) :: st) w cn sn Q) : zw L xs d q k pc ls (.int y :: .int x :: st) w cn sn Q := by
  obtain ⟨a, b, rfl⟩ := hc
  exact zw_sim ⟨a, b, rfl⟩ rfl (rfl) ⟨Nat.le_refl _, Nat.le_refl _, rfl⟩ kk
theorem zw_ixor {x y : Int32} (hc : za k pc (.ixor) p) (kk : zw L xs d q k p ls (.int (x ^^^ y) :: st) w cn sn Q) : zw L xs d q k pc ls (.int y :: .int x :: st) w cn sn Q := by
  obtain ⟨a, b, rfl⟩ := hc
  exact zw_sim ⟨a, b, rfl⟩ rfl (rfl) ⟨Nat.le_refl _, Nat.le_refl _, rfl⟩ kk
theorem zw_ishl {x y : Int32} (hc : za k pc (.ishl) p) (kk : zw L xs d q k p ls (.int (x <<< (y &&& 31)) :: st) w cn sn Q) : zw L xs d q k pc ls (.int y :: .int x :: st) w cn sn Q := by
  obtain ⟨a, b, rfl⟩ := hc
  exact zw_sim ⟨a, b, rfl⟩ rfl (rfl) ⟨Nat.le_refl _, Nat.le_refl _, rfl⟩ kk
theorem zw_iushr {x y : Int32} (hc : za k pc (.iushr) p) (kk : zw L xs d q k p ls (.int ((x.toUInt32 >>> (y.toUInt32 &&& Int32.toUInt32 31)).toInt32) :: st) w cn sn Q) : zw L xs d q k pc ls (.int y :: .int x :: st) w cn sn Q := by
  obtain ⟨a, b, rfl⟩ := hc
  exact zw_sim ⟨a, b, rfl⟩ rfl (rfl) ⟨Nat.le_refl _, Nat.le_refl _, rfl⟩ kk
theorem zw_idiv {x y : Int32} (hc : za k pc (.idiv) p) (hy : ¬ y = 0) (kk : zw L xs d q k p ls (.int (x / y) :: st) w cn sn Q) : zw L xs d q k pc ls (.int y :: .int x :: st) w cn sn Q := by
  obtain ⟨a, b, rfl⟩ := hc
  exact zw_sim ⟨a, b, rfl⟩ rfl (by simp only [zi_sim, zi_or, zi_num, if_neg hy]) ⟨Nat.le_refl _, Nat.le_refl _, rfl⟩ kk
theorem zw_irem {x y : Int32} (hc : za k pc (.irem) p) (hy : ¬ y = 0) (kk : zw L xs d q k p ls (.int (x - x / y * y) :: st) w cn sn Q) : zw L xs d q k pc ls (.int y :: .int x :: st) w cn sn Q := by
  obtain ⟨a, b, rfl⟩ := hc
  exact zw_sim ⟨a, b, rfl⟩ rfl (by simp only [zi_sim, zi_or, zi_num, if_neg hy]) ⟨Nat.le_refl _, Nat.le_refl _, rfl⟩ kk
theorem zw_ladd {x y : Int64} (hc : za k pc (.ladd) p) (kk : zw L xs d q k p ls (.long (x + y) :: st) w cn sn Q) : zw L xs d q k pc ls (.long y :: .long x :: st) w cn sn Q := by
  obtain ⟨a, b, rfl⟩ := hc
  exact zw_sim ⟨a, b, rfl⟩ rfl (rfl) ⟨Nat.le_refl _, Nat.le_refl _, rfl⟩ kk
theorem zw_lmul {x y : Int64} (hc : za k pc (.lmul) p) (kk : zw L xs d q k p ls (.long (x * y) :: st) w cn sn Q) : zw L xs d q k pc ls (.long y :: .long x :: st) w cn sn Q := by
  obtain ⟨a, b, rfl⟩ := hc
  exact zw_sim ⟨a, b, rfl⟩ rfl (rfl) ⟨Nat.le_refl _, Nat.le_refl _, rfl⟩ kk
theorem zw_ldiv {x y : Int64} (hc : za k pc (.ldiv) p) (hy : ¬ y = 0) (kk : zw L xs d q k p ls (.long (x / y) :: st) w cn sn Q) : zw L xs d q k pc ls (.long y :: .long x :: st) w cn sn Q := by
  obtain ⟨a, b, rfl⟩ := hc
  exact zw_sim ⟨a, b, rfl⟩ rfl (by simp only [zi_sim, zi_or, zi_num, if_neg hy]) ⟨Nat.le_refl _, Nat.le_refl _, rfl⟩ kk
theorem zw_lrem {x y : Int64} (hc : za k pc (.lrem) p) (hy : ¬ y = 0) (kk : zw L xs d q k p ls (.long (x - x / y * y) :: st) w cn sn Q) : zw L xs d q k pc ls (.long y :: .long x :: st) w cn sn Q := by
  obtain ⟨a, b, rfl⟩ := hc
  exact zw_sim ⟨a, b, rfl⟩ rfl (by simp only [zi_sim, zi_or, zi_num, if_neg hy]) ⟨Nat.le_refl _, Nat.le_refl _, rfl⟩ kk
theorem zw_lcmp {x y : Int64} (hc : za k pc (.lcmp) p) (kk : zw L xs d q k p ls (.int (lg_cmp x y) :: st) w cn sn Q) : zw L xs d q k pc ls (.long y :: .long x :: st) w cn sn Q := by
  obtain ⟨a, b, rfl⟩ := hc
  exact zw_sim ⟨a, b, rfl⟩ rfl (rfl) ⟨Nat.le_refl _, Nat.le_refl _, rfl⟩ kk
theorem zw_i2l {x : Int32} (hc : za k pc (.i2l) p) (kk : zw L xs d q k p ls (.long x.toInt64 :: st) w cn sn Q) : zw L xs d q k pc ls (.int x :: st) w cn sn Q := by
  obtain ⟨a, b, rfl⟩ := hc
  exact zw_sim ⟨a, b, rfl⟩ rfl (rfl) ⟨Nat.le_refl _, Nat.le_refl _, rfl⟩ kk
theorem zw_l2i {x : Int64} (hc : za k pc (.l2i) p) (kk : zw L xs d q k p ls (.int x.toInt32 :: st) w cn sn Q) : zw L xs d q k pc ls (.long x :: st) w cn sn Q := by
  obtain ⟨a, b, rfl⟩ := hc
  exact zw_sim ⟨a, b, rfl⟩ rfl (rfl) ⟨Nat.le_refl _, Nat.le_refl _, rfl⟩ kk
theorem zw_i2c {x : Int32} (hc : za k pc (.i2c) p) (kk : zw L xs d q k p ls (.int (x.toUInt32 % 65536).toInt32 :: st) w cn sn Q) : zw L xs d q k pc ls (.int x :: st) w cn sn Q := by
  obtain ⟨a, b, rfl⟩ := hc
  exact zw_sim ⟨a, b, rfl⟩ rfl (rfl) ⟨Nat.le_refl _, Nat.le_refl _, rfl⟩ kk
theorem zw_dup {v : Value} (hc : za k pc (.dup) p) (hv : v.category = 1) (kk : zw L xs d q k p ls (v :: v :: st) w cn sn Q) : zw L xs d q k pc ls (v :: st) w cn sn Q := by
  obtain ⟨a, b, rfl⟩ := hc
  exact zw_sim ⟨a, b, rfl⟩ rfl (by simp only [zi_sim, zi_or, zi_num, if_pos hv]) ⟨Nat.le_refl _, Nat.le_refl _, rfl⟩ kk
theorem zw_dup2 {v u : Value} (hc : za k pc (.dup2) p) (hv : v.category = 1 ∧ u.category = 1) (kk : zw L xs d q k p ls (v :: u :: v :: u :: st) w cn sn Q) : zw L xs d q k pc ls (v :: u :: st) w cn sn Q := by
  obtain ⟨a, b, rfl⟩ := hc
  exact zw_sim ⟨a, b, rfl⟩ rfl (by simp only [zi_sim, zi_or, zi_num, if_pos hv]) ⟨Nat.le_refl _, Nat.le_refl _, rfl⟩ kk
theorem zw_iload {j : Nat} {x : Int32} (hc : za k pc (.iload j) p) (hl : zi_loc ls j = some (.int x)) (kk : zw L xs d q k p ls (.int x :: st) w cn sn Q) : zw L xs d q k pc ls (st) w cn sn Q := by
  obtain ⟨a, b, rfl⟩ := hc
  exact zw_sim ⟨a, b, rfl⟩ rfl (by simp only [zi_sim, zi_or, zi_num, zi_lcl, hl, zi_isI, zi_push1]) ⟨Nat.le_refl _, Nat.le_refl _, rfl⟩ kk
theorem zw_iload_n {j : Fin 4} {x : Int32} (hc : za k pc (.iload_n j) p) (hl : zi_loc ls j = some (.int x)) (kk : zw L xs d q k p ls (.int x :: st) w cn sn Q) : zw L xs d q k pc ls (st) w cn sn Q := by
  obtain ⟨a, b, rfl⟩ := hc
  exact zw_sim ⟨a, b, rfl⟩ rfl (by simp only [zi_sim, zi_or, zi_num, zi_lcl, hl, zi_isI, zi_push1]) ⟨Nat.le_refl _, Nat.le_refl _, rfl⟩ kk
theorem zw_lload {j : Nat} {x : Int64} (hc : za k pc (.lload j) p) (hl : zi_loc ls j = some (.long x)) (kk : zw L xs d q k p ls (.long x :: st) w cn sn Q) : zw L xs d q k pc ls (st) w cn sn Q := by
  obtain ⟨a, b, rfl⟩ := hc
  exact zw_sim ⟨a, b, rfl⟩ rfl (by simp only [zi_sim, zi_or, zi_num, zi_lcl, hl, zi_isL, zi_push1]) ⟨Nat.le_refl _, Nat.le_refl _, rfl⟩ kk
theorem zw_lload_n {j : Fin 4} {x : Int64} (hc : za k pc (.lload_n j) p) (hl : zi_loc ls j = some (.long x)) (kk : zw L xs d q k p ls (.long x :: st) w cn sn Q) : zw L xs d q k pc ls (st) w cn sn Q := by
  obtain ⟨a, b, rfl⟩ := hc
  exact zw_sim ⟨a, b, rfl⟩ rfl (by simp only [zi_sim, zi_or, zi_num, zi_lcl, hl, zi_isL, zi_push1]) ⟨Nat.le_refl _, Nat.le_refl _, rfl⟩ kk
theorem zw_aload {j : Nat} {x : Nat} (hc : za k pc (.aload j) p) (hl : zi_loc ls j = some (.ref x)) (kk : zw L xs d q k p ls (.ref x :: st) w cn sn Q) : zw L xs d q k pc ls (st) w cn sn Q := by
  obtain ⟨a, b, rfl⟩ := hc
  exact zw_sim ⟨a, b, rfl⟩ rfl (by simp only [zi_sim, zi_or, zi_num, zi_lcl, hl, zi_isR, zi_push1]) ⟨Nat.le_refl _, Nat.le_refl _, rfl⟩ kk
theorem zw_aload_n {j : Fin 4} {x : Nat} (hc : za k pc (.aload_n j) p) (hl : zi_loc ls j = some (.ref x)) (kk : zw L xs d q k p ls (.ref x :: st) w cn sn Q) : zw L xs d q k pc ls (st) w cn sn Q := by
  obtain ⟨a, b, rfl⟩ := hc
  exact zw_sim ⟨a, b, rfl⟩ rfl (by simp only [zi_sim, zi_or, zi_num, zi_lcl, hl, zi_isR, zi_push1]) ⟨Nat.le_refl _, Nat.le_refl _, rfl⟩ kk
theorem zi_len1 {ls ls' : zi_L} {i : Nat} {v : Value} (h : zi_set1 ls i v = some ls') : ls'.length = ls.length := by
  unfold zi_set1 at h
  split at h
  · cases h; exact List.length_set
  · cases h
theorem zi_len2 {ls ls' : zi_L} {i : Nat} {v : Value} (h : zi_set2 ls i v = some ls') : ls'.length = ls.length := by
  unfold zi_set2 at h
  split at h
  · cases h; rw [List.length_set, List.length_set]
  · cases h
theorem zw_istore {j : Nat} {x : Int32} {ls' : zi_L} (hc : za k pc (.istore j) p) (hs : zi_set1 ls j (.int x) = some ls') (kk : zw L xs d q k p ls' st w cn sn Q) : zw L xs d q k pc ls (.int x :: st) w cn sn Q := by
  obtain ⟨a, b, rfl⟩ := hc
  exact zw_sim ⟨a, b, rfl⟩ rfl (by simp only [zi_sim, zi_or, zi_num, zi_lcl, zi_sto1, hs]) ⟨Nat.le_refl _, Nat.le_refl _, zi_len1 hs⟩ kk
theorem zw_istore_n {j : Fin 4} {x : Int32} {ls' : zi_L} (hc : za k pc (.istore_n j) p) (hs : zi_set1 ls j (.int x) = some ls') (kk : zw L xs d q k p ls' st w cn sn Q) : zw L xs d q k pc ls (.int x :: st) w cn sn Q := by
  obtain ⟨a, b, rfl⟩ := hc
  exact zw_sim ⟨a, b, rfl⟩ rfl (by simp only [zi_sim, zi_or, zi_num, zi_lcl, zi_sto1, hs]) ⟨Nat.le_refl _, Nat.le_refl _, zi_len1 hs⟩ kk
theorem zw_astore {j : Nat} {x : Nat} {ls' : zi_L} (hc : za k pc (.astore j) p) (hs : zi_set1 ls j (.ref x) = some ls') (kk : zw L xs d q k p ls' st w cn sn Q) : zw L xs d q k pc ls (.ref x :: st) w cn sn Q := by
  obtain ⟨a, b, rfl⟩ := hc
  exact zw_sim ⟨a, b, rfl⟩ rfl (by simp only [zi_sim, zi_or, zi_num, zi_lcl, zi_sto1, hs]) ⟨Nat.le_refl _, Nat.le_refl _, zi_len1 hs⟩ kk
theorem zw_astore_n {j : Fin 4} {x : Nat} {ls' : zi_L} (hc : za k pc (.astore_n j) p) (hs : zi_set1 ls j (.ref x) = some ls') (kk : zw L xs d q k p ls' st w cn sn Q) : zw L xs d q k pc ls (.ref x :: st) w cn sn Q := by
  obtain ⟨a, b, rfl⟩ := hc
  exact zw_sim ⟨a, b, rfl⟩ rfl (by simp only [zi_sim, zi_or, zi_num, zi_lcl, zi_sto1, hs]) ⟨Nat.le_refl _, Nat.le_refl _, zi_len1 hs⟩ kk
theorem zw_lstore {j : Nat} {x : Int64} {ls' : zi_L} (hc : za k pc (.lstore j) p) (hs : zi_set2 ls j (.long x) = some ls') (kk : zw L xs d q k p ls' st w cn sn Q) : zw L xs d q k pc ls (.long x :: st) w cn sn Q := by
  obtain ⟨a, b, rfl⟩ := hc
  exact zw_sim ⟨a, b, rfl⟩ rfl (by simp only [zi_sim, zi_or, zi_num, zi_lcl, zi_sto2, hs]) ⟨Nat.le_refl _, Nat.le_refl _, zi_len2 hs⟩ kk
theorem zw_lstore_n {j : Fin 4} {x : Int64} {ls' : zi_L} (hc : za k pc (.lstore_n j) p) (hs : zi_set2 ls j (.long x) = some ls') (kk : zw L xs d q k p ls' st w cn sn Q) : zw L xs d q k pc ls (.long x :: st) w cn sn Q := by
  obtain ⟨a, b, rfl⟩ := hc
  exact zw_sim ⟨a, b, rfl⟩ rfl (by simp only [zi_sim, zi_or, zi_num, zi_lcl, zi_sto2, hs]) ⟨Nat.le_refl _, Nat.le_refl _, zi_len2 hs⟩ kk
theorem zw_iinc {j : Nat} {n : Int} {x v : Int32} {ls' : zi_L} (hc : za k pc (.iinc j n) p) (hl : zi_loc ls j = some (.int x)) (hv : x + Int32.ofInt n = v) (hs : zi_set1 ls j (.int v) = some ls') (kk : zw L xs d q k p ls' st w cn sn Q) : zw L xs d q k pc ls st w cn sn Q := by
  obtain ⟨a, b, rfl⟩ := hc
  subst hv
  exact zw_sim ⟨a, b, rfl⟩ rfl (by simp only [zi_sim, zi_or, zi_num, zi_lcl, hl, zi_sto1, hs]) ⟨Nat.le_refl _, Nat.le_refl _, zi_len1 hs⟩ kk
theorem zw_if_eq {x : Int32} (hc : zb (.ifCond .eq) k pc t p) (kt : x = 0 → zw L xs d q k t ls st w cn sn Q) (kf : ¬ (x = 0) → zw L xs d q k p ls st w cn sn Q) : zw L xs d q k pc ls (.int x :: st) w cn sn Q := by
  obtain ⟨off, ⟨a, b, rfl⟩, ht⟩ := hc
  by_cases h : x = 0
  · exact zw_sim ⟨a, b, rfl⟩ rfl (by simp only [zi_sim, zi_or, zi_num, zi_lcl, zi_br, zi_jmp, ht, decide_eq_true h]; rfl) ⟨Nat.le_refl _, Nat.le_refl _, rfl⟩ (kt h)
  · exact zw_sim ⟨a, b, rfl⟩ rfl (by simp only [zi_sim, zi_or, zi_num, zi_lcl, zi_br, zi_jmp, ht, decide_eq_false h]; rfl) ⟨Nat.le_refl _, Nat.le_refl _, rfl⟩ (kf h)
theorem zw_if_ne {x : Int32} (hc : zb (.ifCond .ne) k pc t p) (kt : ¬ x = 0 → zw L xs d q k t ls st w cn sn Q) (kf : ¬ (¬ x = 0) → zw L xs d q k p ls st w cn sn Q) : zw L xs d q k pc ls (.int x :: st) w cn sn Q := by
  obtain ⟨off, ⟨a, b, rfl⟩, ht⟩ := hc
  by_cases h : ¬ x = 0
  · exact zw_sim ⟨a, b, rfl⟩ rfl (by simp only [zi_sim, zi_or, zi_num, zi_lcl, zi_br, zi_jmp, ht, decide_eq_true h]; rfl) ⟨Nat.le_refl _, Nat.le_refl _, rfl⟩ (kt h)
  · exact zw_sim ⟨a, b, rfl⟩ rfl (by simp only [zi_sim, zi_or, zi_num, zi_lcl, zi_br, zi_jmp, ht, decide_eq_false h]; rfl) ⟨Nat.le_refl _, Nat.le_refl _, rfl⟩ (kf h)
theorem zw_if_lt {x : Int32} (hc : zb (.ifCond .lt) k pc t p) (kt : x < 0 → zw L xs d q k t ls st w cn sn Q) (kf : ¬ (x < 0) → zw L xs d q k p ls st w cn sn Q) : zw L xs d q k pc ls (.int x :: st) w cn sn Q := by
  obtain ⟨off, ⟨a, b, rfl⟩, ht⟩ := hc
  by_cases h : x < 0
  · exact zw_sim ⟨a, b, rfl⟩ rfl (by simp only [zi_sim, zi_or, zi_num, zi_lcl, zi_br, zi_jmp, ht, decide_eq_true h]; rfl) ⟨Nat.le_refl _, Nat.le_refl _, rfl⟩ (kt h)
  · exact zw_sim ⟨a, b, rfl⟩ rfl (by simp only [zi_sim, zi_or, zi_num, zi_lcl, zi_br, zi_jmp, ht, decide_eq_false h]; rfl) ⟨Nat.le_refl _, Nat.le_refl _, rfl⟩ (kf h)
theorem zw_if_ge {x : Int32} (hc : zb (.ifCond .ge) k pc t p) (kt : 0 ≤ x → zw L xs d q k t ls st w cn sn Q) (kf : ¬ (0 ≤ x) → zw L xs d q k p ls st w cn sn Q) : zw L xs d q k pc ls (.int x :: st) w cn sn Q := by
  obtain ⟨off, ⟨a, b, rfl⟩, ht⟩ := hc
  by_cases h : 0 ≤ x
  · exact zw_sim ⟨a, b, rfl⟩ rfl (by simp only [zi_sim, zi_or, zi_num, zi_lcl, zi_br, zi_jmp, ht, decide_eq_true h]; rfl) ⟨Nat.le_refl _, Nat.le_refl _, rfl⟩ (kt h)
  · exact zw_sim ⟨a, b, rfl⟩ rfl (by simp only [zi_sim, zi_or, zi_num, zi_lcl, zi_br, zi_jmp, ht, decide_eq_false h]; rfl) ⟨Nat.le_refl _, Nat.le_refl _, rfl⟩ (kf h)
theorem zw_if_gt {x : Int32} (hc : zb (.ifCond .gt) k pc t p) (kt : 0 < x → zw L xs d q k t ls st w cn sn Q) (kf : ¬ (0 < x) → zw L xs d q k p ls st w cn sn Q) : zw L xs d q k pc ls (.int x :: st) w cn sn Q := by
  obtain ⟨off, ⟨a, b, rfl⟩, ht⟩ := hc
  by_cases h : 0 < x
  · exact zw_sim ⟨a, b, rfl⟩ rfl (by simp only [zi_sim, zi_or, zi_num, zi_lcl, zi_br, zi_jmp, ht, decide_eq_true h]; rfl) ⟨Nat.le_refl _, Nat.le_refl _, rfl⟩ (kt h)
  · exact zw_sim ⟨a, b, rfl⟩ rfl (by simp only [zi_sim, zi_or, zi_num, zi_lcl, zi_br, zi_jmp, ht, decide_eq_false h]; rfl) ⟨Nat.le_refl _, Nat.le_refl _, rfl⟩ (kf h)
theorem zw_if_le {x : Int32} (hc : zb (.ifCond .le) k pc t p) (kt : x ≤ 0 → zw L xs d q k t ls st w cn sn Q) (kf : ¬ (x ≤ 0) → zw L xs d q k p ls st w cn sn Q) : zw L xs d q k pc ls (.int x :: st) w cn sn Q := by
  obtain ⟨off, ⟨a, b, rfl⟩, ht⟩ := hc
  by_cases h : x ≤ 0
  · exact zw_sim ⟨a, b, rfl⟩ rfl (by simp only [zi_sim, zi_or, zi_num, zi_lcl, zi_br, zi_jmp, ht, decide_eq_true h]; rfl) ⟨Nat.le_refl _, Nat.le_refl _, rfl⟩ (kt h)
  · exact zw_sim ⟨a, b, rfl⟩ rfl (by simp only [zi_sim, zi_or, zi_num, zi_lcl, zi_br, zi_jmp, ht, decide_eq_false h]; rfl) ⟨Nat.le_refl _, Nat.le_refl _, rfl⟩ (kf h)
theorem zw_icmp_eq {x y : Int32} (hc : zb (.if_icmp .eq) k pc t p) (kt : x = y → zw L xs d q k t ls st w cn sn Q) (kf : ¬ (x = y) → zw L xs d q k p ls st w cn sn Q) : zw L xs d q k pc ls (.int y :: .int x :: st) w cn sn Q := by
  obtain ⟨off, ⟨a, b, rfl⟩, ht⟩ := hc
  by_cases h : x = y
  · exact zw_sim ⟨a, b, rfl⟩ rfl (by simp only [zi_sim, zi_or, zi_num, zi_lcl, zi_br, zi_jmp, ht, decide_eq_true h]; rfl) ⟨Nat.le_refl _, Nat.le_refl _, rfl⟩ (kt h)
  · exact zw_sim ⟨a, b, rfl⟩ rfl (by simp only [zi_sim, zi_or, zi_num, zi_lcl, zi_br, zi_jmp, ht, decide_eq_false h]; rfl) ⟨Nat.le_refl _, Nat.le_refl _, rfl⟩ (kf h)
theorem zw_icmp_ne {x y : Int32} (hc : zb (.if_icmp .ne) k pc t p) (kt : ¬ x = y → zw L xs d q k t ls st w cn sn Q) (kf : ¬ (¬ x = y) → zw L xs d q k p ls st w cn sn Q) : zw L xs d q k pc ls (.int y :: .int x :: st) w cn sn Q := by
  obtain ⟨off, ⟨a, b, rfl⟩, ht⟩ := hc
  by_cases h : ¬ x = y
  · exact zw_sim ⟨a, b, rfl⟩ rfl (by simp only [zi_sim, zi_or, zi_num, zi_lcl, zi_br, zi_jmp, ht, decide_eq_true h]; rfl) ⟨Nat.le_refl _, Nat.le_refl _, rfl⟩ (kt h)
  · exact zw_sim ⟨a, b, rfl⟩ rfl (by simp only [zi_sim, zi_or, zi_num, zi_lcl, zi_br, zi_jmp, ht, decide_eq_false h]; rfl) ⟨Nat.le_refl _, Nat.le_refl _, rfl⟩ (kf h)
theorem zw_icmp_lt {x y : Int32} (hc : zb (.if_icmp .lt) k pc t p) (kt : x < y → zw L xs d q k t ls st w cn sn Q) (kf : ¬ (x < y) → zw L xs d q k p ls st w cn sn Q) : zw L xs d q k pc ls (.int y :: .int x :: st) w cn sn Q := by
  obtain ⟨off, ⟨a, b, rfl⟩, ht⟩ := hc
  by_cases h : x < y
  · exact zw_sim ⟨a, b, rfl⟩ rfl (by simp only [zi_sim, zi_or, zi_num, zi_lcl, zi_br, zi_jmp, ht, decide_eq_true h]; rfl) ⟨Nat.le_refl _, Nat.le_refl _, rfl⟩ (kt h)
  · exact zw_sim ⟨a, b, rfl⟩ rfl (by simp only [zi_sim, zi_or, zi_num, zi_lcl, zi_br, zi_jmp, ht, decide_eq_false h]; rfl) ⟨Nat.le_refl _, Nat.le_refl _, rfl⟩ (kf h)
theorem zw_icmp_ge {x y : Int32} (hc : zb (.if_icmp .ge) k pc t p) (kt : y ≤ x → zw L xs d q k t ls st w cn sn Q) (kf : ¬ (y ≤ x) → zw L xs d q k p ls st w cn sn Q) : zw L xs d q k pc ls (.int y :: .int x :: st) w cn sn Q := by
  obtain ⟨off, ⟨a, b, rfl⟩, ht⟩ := hc
  by_cases h : y ≤ x
  · exact zw_sim ⟨a, b, rfl⟩ rfl (by simp only [zi_sim, zi_or, zi_num, zi_lcl, zi_br, zi_jmp, ht, decide_eq_true h]; rfl) ⟨Nat.le_refl _, Nat.le_refl _, rfl⟩ (kt h)
  · exact zw_sim ⟨a, b, rfl⟩ rfl (by simp only [zi_sim, zi_or, zi_num, zi_lcl, zi_br, zi_jmp, ht, decide_eq_false h]; rfl) ⟨Nat.le_refl _, Nat.le_refl _, rfl⟩ (kf h)
theorem zw_icmp_gt {x y : Int32} (hc : zb (.if_icmp .gt) k pc t p) (kt : y < x → zw L xs d q k t ls st w cn sn Q) (kf : ¬ (y < x) → zw L xs d q k p ls st w cn sn Q) : zw L xs d q k pc ls (.int y :: .int x :: st) w cn sn Q := by
  obtain ⟨off, ⟨a, b, rfl⟩, ht⟩ := hc
  by_cases h : y < x
  · exact zw_sim ⟨a, b, rfl⟩ rfl (by simp only [zi_sim, zi_or, zi_num, zi_lcl, zi_br, zi_jmp, ht, decide_eq_true h]; rfl) ⟨Nat.le_refl _, Nat.le_refl _, rfl⟩ (kt h)
  · exact zw_sim ⟨a, b, rfl⟩ rfl (by simp only [zi_sim, zi_or, zi_num, zi_lcl, zi_br, zi_jmp, ht, decide_eq_false h]; rfl) ⟨Nat.le_refl _, Nat.le_refl _, rfl⟩ (kf h)
theorem zw_icmp_le {x y : Int32} (hc : zb (.if_icmp .le) k pc t p) (kt : x ≤ y → zw L xs d q k t ls st w cn sn Q) (kf : ¬ (x ≤ y) → zw L xs d q k p ls st w cn sn Q) : zw L xs d q k pc ls (.int y :: .int x :: st) w cn sn Q := by
  obtain ⟨off, ⟨a, b, rfl⟩, ht⟩ := hc
  by_cases h : x ≤ y
  · exact zw_sim ⟨a, b, rfl⟩ rfl (by simp only [zi_sim, zi_or, zi_num, zi_lcl, zi_br, zi_jmp, ht, decide_eq_true h]; rfl) ⟨Nat.le_refl _, Nat.le_refl _, rfl⟩ (kt h)
  · exact zw_sim ⟨a, b, rfl⟩ rfl (by simp only [zi_sim, zi_or, zi_num, zi_lcl, zi_br, zi_jmp, ht, decide_eq_false h]; rfl) ⟨Nat.le_refl _, Nat.le_refl _, rfl⟩ (kf h)
theorem zw_goto (hc : zb .goto k pc t p) (kk : zw L xs d q k t ls st w cn sn Q) : zw L xs d q k pc ls st w cn sn Q := by
  obtain ⟨off, ⟨a, b, rfl⟩, ht⟩ := hc
  exact zw_sim ⟨a, b, rfl⟩ rfl (by simp only [zi_sim, zi_or, zi_num, zi_lcl, zi_br, zi_jmp, ht]; rfl) ⟨Nat.le_refl _, Nat.le_refl _, rfl⟩ kk
/-- cells -/
theorem zw_ldc {v : Int32} (hc : za_c k pc p v) (kk : zw L xs d q k p ls (.int v :: st) w cn sn Q) : zw L xs d q k pc ls st w cn sn Q := by
  obtain ⟨x, a0, b0, ⟨a, b, rfl⟩, hp⟩ := hc
  exact zw_sim ⟨a, b, rfl⟩ rfl (by simp only [zi_sim, zi_or, zi_num, zi_lcl, zi_br, zi_cel, hp]) ⟨Nat.le_refl _, Nat.le_refl _, rfl⟩ kk
theorem zw_ldc2 {v : Int64} (hc : za_l k pc p v) (kk : zw L xs d q k p ls (.long v :: st) w cn sn Q) : zw L xs d q k pc ls st w cn sn Q := by
  obtain ⟨x, a0, b0, ⟨a, b, rfl⟩, hp⟩ := hc
  exact zw_sim ⟨a, b, rfl⟩ rfl (by simp only [zi_sim, zi_or, zi_num, zi_lcl, zi_br, zi_cel, hp]) ⟨Nat.le_refl _, Nat.le_refl _, rfl⟩ kk
theorem zw_getf {c f r : Nat} {fs : List Value} {v : Value} (hc : za_f k pc c f p) (hg : zi_get w r = some (.inr (c, fs))) (hv : fs[f]? = some v) (kk : zw L xs d q k p ls (v :: st) w cn sn Q) : zw L xs d q k pc ls (.ref r :: st) w cn sn Q := by
  obtain ⟨x, tg, v0, ⟨a, b, rfl⟩, hp, htg⟩ := hc
  rcases htg with rfl | rfl | rfl <;>
    exact zw_sim ⟨a, b, rfl⟩ rfl (by simp only [zi_sim, zi_or, zi_num, zi_lcl, zi_br, zi_cel, hp, hg, hv, zi_push1]; rfl) ⟨Nat.le_refl _, Nat.le_refl _, rfl⟩ kk
theorem zw_putf {c f r : Nat} {fs : List Value} {v : Value} (hc : za_p k pc c f p) (hg : zi_get w r = some (.inr (c, fs))) (hl : f < fs.length) (hf : zi_fit (zi_fty zp c f) v = true) (kk : zw L xs d q k p ls st (w.set r (.inr (c, fs.set f v))) cn sn Q) : zw L xs d q k pc ls (v :: .ref r :: st) w cn sn Q := by
  obtain ⟨x, tg, v0, ⟨a, b, rfl⟩, hp, htg⟩ := hc
  rcases htg with rfl | rfl <;>
    exact zw_sim ⟨a, b, rfl⟩ rfl (by simp only [zi_sim, zi_or, zi_num, zi_lcl, zi_br, zi_cel, hp, hg]; rw [if_pos ⟨trivial, hl, hf⟩]) ⟨Nat.le_refl _, Nat.le_refl _, rfl⟩ kk
theorem zi_get_X {w : zi_W} {r : Nat} {c : va_E} (h : zi_get w r = some c) : ¬ r = zi_X := by
  unfold zi_get at h
  split at h
  · cases h
  · assumption
theorem zw_iald {r n : Nat} {j : Int32} {f : Nat → Int32} (hc : za k pc .iaload p) (hg : zi_get w r = some (.inl (0, n, .inl f))) (hj : zi_in j n) (kk : zw L xs d q k p ls (.int (f j.toNatClampNeg) :: st) w cn sn Q) : zw L xs d q k pc ls (.int j :: .ref r :: st) w cn sn Q := by
  obtain ⟨a, b, rfl⟩ := hc
  exact zw_sim ⟨a, b, rfl⟩ rfl (by simp only [zi_sim, zi_or, zi_num, zi_lcl, zi_br, zi_cel]; rw [if_neg (zi_get_X hg), hg]; simp only [if_pos hj]) ⟨Nat.le_refl _, Nat.le_refl _, rfl⟩ kk
theorem zw_bald {r n : Nat} {j : Int32} {f : Nat → Int32} (hc : za k pc .baload p) (hg : zi_get w r = some (.inl (1, n, .inl f))) (hj : zi_in j n) (kk : zw L xs d q k p ls (.int (f j.toNatClampNeg) :: st) w cn sn Q) : zw L xs d q k pc ls (.int j :: .ref r :: st) w cn sn Q := by
  obtain ⟨a, b, rfl⟩ := hc
  exact zw_sim ⟨a, b, rfl⟩ rfl (by simp only [zi_sim, zi_or, zi_num, zi_lcl, zi_br, zi_cel, hg, if_pos hj]) ⟨Nat.le_refl _, Nat.le_refl _, rfl⟩ kk
theorem zw_lald {r n : Nat} {j : Int32} {f : Nat → Int64} (hc : za k pc .laload p) (hg : zi_get w r = some (.inl (2, n, .inr (.inl f)))) (hj : zi_in j n) (kk : zw L xs d q k p ls (.long (f j.toNatClampNeg) :: st) w cn sn Q) : zw L xs d q k pc ls (.int j :: .ref r :: st) w cn sn Q := by
  obtain ⟨a, b, rfl⟩ := hc
  exact zw_sim ⟨a, b, rfl⟩ rfl (by simp only [zi_sim, zi_or, zi_num, zi_lcl, zi_br, zi_cel, hg, if_pos hj]) ⟨Nat.le_refl _, Nat.le_refl _, rfl⟩ kk
theorem zw_aald {r n v : Nat} {j : Int32} {f : Nat → Option Nat} (hc : za k pc .aaload p) (hg : zi_get w r = some (.inl (3, n, .inr (.inr (.inr (.inr f)))))) (hj : zi_in j n) (hv : f j.toNatClampNeg = some v) (kk : zw L xs d q k p ls (.ref v :: st) w cn sn Q) : zw L xs d q k pc ls (.int j :: .ref r :: st) w cn sn Q := by
  obtain ⟨a, b, rfl⟩ := hc
  exact zw_sim ⟨a, b, rfl⟩ rfl (by simp only [zi_sim, zi_or, zi_num, zi_lcl, zi_br, zi_cel, hg, if_pos hj, hv, Option.map_some, zi_push1]) ⟨Nat.le_refl _, Nat.le_refl _, rfl⟩ kk
theorem zw_iast {r n : Nat} {j x : Int32} {f : Nat → Int32} (hc : za k pc .iastore p) (hg : zi_get w r = some (.inl (0, n, .inl f))) (hj : zi_in j n) (kk : zw L xs d q k p ls st (w.set r (.inl (0, n, .inl (upd f j.toNatClampNeg x)))) cn sn Q) : zw L xs d q k pc ls (.int x :: .int j :: .ref r :: st) w cn sn Q := by
  obtain ⟨a, b, rfl⟩ := hc
  exact zw_sim ⟨a, b, rfl⟩ rfl (by simp only [zi_sim, zi_or, zi_num, zi_lcl, zi_br, zi_cel, hg, if_pos hj]) ⟨Nat.le_refl _, Nat.le_refl _, rfl⟩ kk
theorem zw_bast {r n : Nat} {j x : Int32} {f : Nat → Int32} (hc : za k pc .bastore p) (hg : zi_get w r = some (.inl (1, n, .inl f))) (hj : zi_in j n) (hx : x = 0 ∨ x = 1) (kk : zw L xs d q k p ls st (w.set r (.inl (1, n, .inl (upd f j.toNatClampNeg x)))) cn sn Q) : zw L xs d q k pc ls (.int x :: .int j :: .ref r :: st) w cn sn Q := by
  obtain ⟨a, b, rfl⟩ := hc
  exact zw_sim ⟨a, b, rfl⟩ rfl (by simp only [zi_sim, zi_or, zi_num, zi_lcl, zi_br, zi_cel, hg]; rw [if_pos ⟨hj, hx⟩]) ⟨Nat.le_refl _, Nat.le_refl _, rfl⟩ kk
theorem zw_last {r n : Nat} {j : Int32} {x : Int64} {f : Nat → Int64} (hc : za k pc .lastore p) (hg : zi_get w r = some (.inl (2, n, .inr (.inl f)))) (hj : zi_in j n) (kk : zw L xs d q k p ls st (w.set r (.inl (2, n, .inr (.inl (vp_updL f j.toNatClampNeg x))))) cn sn Q) : zw L xs d q k pc ls (.long x :: .int j :: .ref r :: st) w cn sn Q := by
  obtain ⟨a, b, rfl⟩ := hc
  exact zw_sim ⟨a, b, rfl⟩ rfl (by simp only [zi_sim, zi_or, zi_num, zi_lcl, zi_br, zi_cel, hg, if_pos hj]) ⟨Nat.le_refl _, Nat.le_refl _, rfl⟩ kk
theorem zw_aast {r n v : Nat} {j : Int32} {f : Nat → Option Nat} {vs : List Value} (hc : za k pc .aastore p) (hg : zi_get w r = some (.inl (3, n, .inr (.inr (.inr (.inr f)))))) (hgv : zi_get w v = some (.inr (2, vs))) (hj : zi_in j n) (kk : zw L xs d q k p ls st (w.set r (.inl (3, n, .inr (.inr (.inr (.inr (va_up f j.toNatClampNeg (some v)))))))) cn sn Q) : zw L xs d q k pc ls (.ref v :: .int j :: .ref r :: st) w cn sn Q := by
  obtain ⟨a, b, rfl⟩ := hc
  exact zw_sim ⟨a, b, rfl⟩ rfl (by simp only [zi_sim, zi_or, zi_num, zi_lcl, zi_br, zi_cel, hg, hgv]; rw [if_pos ⟨hj, trivial⟩]) ⟨Nat.le_refl _, Nat.le_refl _, rfl⟩ kk
theorem zw_alen {r n : Nat} {f : Nat → Int32} (hc : za k pc .arraylength p) (hg : zi_get w r = some (.inl (0, n, .inl f))) (kk : zw L xs d q k p ls (.int (Int32.ofNat n) :: st) w cn sn Q) : zw L xs d q k pc ls (.ref r :: st) w cn sn Q := by
  obtain ⟨a, b, rfl⟩ := hc
  exact zw_sim ⟨a, b, rfl⟩ rfl (by simp only [zi_sim, zi_or, zi_num, zi_lcl, zi_br, zi_cel]; rw [if_neg (zi_get_X hg), hg]; rfl) ⟨Nat.le_refl _, Nat.le_refl _, rfl⟩ kk
/-- the script, in the law -/
theorem zw_sld {j : Int32} (hc : za 0 pc .iaload p) (hj : zi_in j L) (kk : zw L xs d q 0 p ls (.int (xs j.toNatClampNeg) :: st) w cn sn Q) : zw L xs d q 0 pc ls (.int j :: .ref zi_X :: st) w cn sn Q := by
  obtain ⟨a, b, rfl⟩ := hc
  exact zw_sim ⟨a, b, rfl⟩ rfl (by simp only [zi_sim, zi_or, zi_num, zi_lcl, zi_br, zi_cel]; rw [if_pos trivial, if_pos ⟨trivial, hj⟩]) ⟨Nat.le_refl _, Nat.le_refl _, rfl⟩ kk
theorem zw_slen (hc : za 0 pc .arraylength p) (kk : zw L xs d q 0 p ls (.int (Int32.ofNat L) :: st) w cn sn Q) : zw L xs d q 0 pc ls (.ref zi_X :: st) w cn sn Q := by
  obtain ⟨a, b, rfl⟩ := hc
  exact zw_sim ⟨a, b, rfl⟩ rfl (by simp only [zi_sim, zi_or, zi_num, zi_lcl, zi_br, zi_cel]; rw [if_pos trivial, if_pos trivial]) ⟨Nat.le_refl _, Nat.le_refl _, rfl⟩ kk
theorem zw_new {c z : Nat} (hc : za_n k pc c z p) (hn : cn = w.length ∧ w.length < zi_X) (kk : zw L xs d q k p ls (.ref w.length :: st) (w ++ [.inr (c, zi_fs0 zp c)]) (cn + 1) (sn + z) Q) : zw L xs d q k pc ls st w cn sn Q := by
  obtain ⟨x, v0, ⟨a, b, rfl⟩, hp⟩ := hc
  exact zw_sim ⟨a, b, rfl⟩ rfl (by simp only [zi_sim, zi_or, zi_num, zi_lcl, zi_br, zi_cel, hp]; rw [if_pos hn]) ⟨Nat.le_succ _, Nat.le_add_right _ _, rfl⟩ kk
theorem zw_newI {m : Int32} {n : Nat} (hc : za k pc (.newarray .int) p) (hm : m.toNatClampNeg = n) (hn : cn = w.length ∧ w.length < zi_X ∧ ¬ m < 0 ∧ n ≤ 65536) (kk : zw L xs d q k p ls (.ref w.length :: st) (w ++ [.inl (0, n, .inl (fun _ => 0))]) (cn + 1) (sn + n) Q) : zw L xs d q k pc ls (.int m :: st) w cn sn Q := by
  obtain ⟨a, b, rfl⟩ := hc
  subst hm
  exact zw_sim ⟨a, b, rfl⟩ rfl (by simp only [zi_sim, zi_or, zi_num, zi_lcl, zi_br, zi_cel]; rw [if_pos hn]) ⟨Nat.le_succ _, Nat.le_add_right _ _, rfl⟩ kk
theorem zw_newZ {m : Int32} {n : Nat} (hc : za k pc (.newarray .boolean) p) (hm : m.toNatClampNeg = n) (hn : cn = w.length ∧ w.length < zi_X ∧ ¬ m < 0 ∧ n ≤ 65536) (kk : zw L xs d q k p ls (.ref w.length :: st) (w ++ [.inl (1, n, .inl (fun _ => 0))]) (cn + 1) (sn + n) Q) : zw L xs d q k pc ls (.int m :: st) w cn sn Q := by
  obtain ⟨a, b, rfl⟩ := hc
  subst hm
  exact zw_sim ⟨a, b, rfl⟩ rfl (by simp only [zi_sim, zi_or, zi_num, zi_lcl, zi_br, zi_cel]; rw [if_pos hn]) ⟨Nat.le_succ _, Nat.le_add_right _ _, rfl⟩ kk
theorem zw_newJ {m : Int32} {n : Nat} (hc : za k pc (.newarray .long) p) (hm : m.toNatClampNeg = n) (hn : cn = w.length ∧ w.length < zi_X ∧ ¬ m < 0 ∧ n ≤ 65536) (kk : zw L xs d q k p ls (.ref w.length :: st) (w ++ [.inl (2, n, .inr (.inl (fun _ => 0)))]) (cn + 1) (sn + n) Q) : zw L xs d q k pc ls (.int m :: st) w cn sn Q := by
  obtain ⟨a, b, rfl⟩ := hc
  subst hm
  exact zw_sim ⟨a, b, rfl⟩ rfl (by simp only [zi_sim, zi_or, zi_num, zi_lcl, zi_br, zi_cel]; rw [if_pos hn]) ⟨Nat.le_succ _, Nat.le_add_right _ _, rfl⟩ kk
theorem zw_newA {m : Int32} {n : Nat} (hc : za_a k pc p) (hm : m.toNatClampNeg = n) (hn : cn = w.length ∧ w.length < zi_X ∧ ¬ m < 0 ∧ n ≤ 65536) (kk : zw L xs d q k p ls (.ref w.length :: st) (w ++ [.inl (3, n, .inr (.inr (.inr (.inr (fun _ => none)))))]) (cn + 1) (sn + n) Q) : zw L xs d q k pc ls (.int m :: st) w cn sn Q := by
  obtain ⟨x, b0, v0, ⟨a, b, rfl⟩, hp⟩ := hc
  subst hm
  exact zw_sim ⟨a, b, rfl⟩ rfl (by simp only [zi_sim, zi_or, zi_num, zi_lcl, zi_br, zi_cel, hp]; rw [if_pos hn]) ⟨Nat.le_succ _, Nat.le_add_right _ _, rfl⟩ kk
/-- members that are steps by themselves -/
theorem zw_obj {r : Nat} (hc : za_o k pc p) (hs : (st.map (fun v => v.category)).sum ≤ 8) (hd : 1 ≤ d) (hq : 20 ≤ q) (kk : zw L xs d q k p ls st w cn sn Q) : zw L xs d q k pc ls (.ref r :: st) w cn sn Q := by
  obtain ⟨x, b0, v0, ⟨a, b, rfl⟩, hp⟩ := hc
  exact zw_sim ⟨a, b, rfl⟩ rfl (by simp only [zi_sim, zi_or, zi_num, zi_lcl, zi_br, zi_cel, zi_pri, hp]; rw [if_pos ⟨hs, hd, hq⟩]) ⟨Nat.le_refl _, Nat.le_refl _, rfl⟩ kk
theorem zw_min {y z : Int32} (hc : za_m k pc p) (hs : (st.map (fun v => v.category)).sum ≤ 8) (hd : 1 ≤ d) (hq : 21 ≤ q) (kk : zw L xs d q k p ls (.int (if y < z then y else z) :: st) w cn sn Q) : zw L xs d q k pc ls (.int y :: .int z :: st) w cn sn Q := by
  obtain ⟨x, b0, v0, ⟨a, b, rfl⟩, hp⟩ := hc
  exact zw_sim ⟨a, b, rfl⟩ rfl (by simp only [zi_sim, zi_or, zi_num, zi_lcl, zi_br, zi_cel, zi_pri, hp]; rw [if_pos ⟨hs, hd, hq⟩]) ⟨Nat.le_refl _, Nat.le_refl _, rfl⟩ kk
theorem zw_copy {m dp sp : Int32} {r r0 n0 n1 : Nat} {f g : Nat → Int32} (hc : za_y k pc p) (hg0 : zi_get w r0 = some (.inl (0, n0, .inl f))) (hg : zi_get w r = some (.inl (0, n1, .inl g))) (hs : (st.map (fun v => v.category)).sum ≤ 8) (hd : 1 ≤ d) (hq : 26 ≤ q) (hm : ¬ sp < 0 ∧ ¬ dp < 0 ∧ ¬ m < 0 ∧ sp.toNatClampNeg + m.toNatClampNeg ≤ n0 ∧ dp.toNatClampNeg + m.toNatClampNeg ≤ n1)
    (kk : zw L xs d q k p ls st (w.set r (.inl (0, n1, .inl (va_cpy f g sp.toNatClampNeg dp.toNatClampNeg m.toNatClampNeg)))) cn sn Q) : zw L xs d q k pc ls (.int m :: .int dp :: .ref r :: .int sp :: .ref r0 :: st) w cn sn Q := by
  obtain ⟨x, b0, v0, ⟨a, b, rfl⟩, hp⟩ := hc
  exact zw_sim ⟨a, b, rfl⟩ rfl (by simp only [zi_sim, zi_or, zi_num, zi_lcl, zi_br, zi_cel, zi_pri, hp, hg0, hg]; rw [if_pos ⟨hs, hm.1, hm.2.1, hm.2.2.1, hm.2.2.2.1, hm.2.2.2.2, hd, hq⟩]) ⟨Nat.le_refl _, Nat.le_refl _, rfl⟩ kk
end ZV
end
