section
/-! An interpreter of the part of bytecode that this claim uses, over worlds of cells by their places. Later parts show: what it answers, the machine does. -/
abbrev zi_W : Type := List va_E
abbrev zi_L : Type := List (Option Value)
abbrev zi_O : Type := Option Value ⊕ Nat
abbrev zi_C : Type := Nat × zi_L × List Value × zi_W × Nat × Nat
abbrev zi_R : Type := zi_O × zi_W × Nat × Nat
/-- what a method's pool entry is: (tag, a, b, v); 0 field b of class a, 9 the same where it is final, 8 where it is final and this method its constructor; 1, 2, 3 a call (virtual, special, static) of method a with b arguments; 4 new of class a, with b slots; 5 an array of references of kind a; 6 a constant v; 7 a member that is a step by itself: a -/
abbrev zi_T : Type := Nat × Nat × Nat × Value
/-- a program: code, pool, methods (name, bytes, locals, answer), where an exception of a kind is made and thrown, where it is caught and what is answered then, fields' types, the fields that a new object has -/
abbrev zi_P : Type := (Nat → Nat → Option Jvm.ClassFile.Instr) × (Nat → Nat → Option zi_T) × (Nat → MethodName × ByteArray × Nat × Option FieldType) × (Nat → Nat → Option Nat) × (Nat → Nat → Nat → Option Int32) × (Nat → Nat → FieldType) × (Nat → List Value)
def zi_code (P : zi_P) : Nat → Nat → Option Jvm.ClassFile.Instr := P.1
def zi_pool (P : zi_P) : Nat → Nat → Option zi_T := P.2.1
def zi_meth (P : zi_P) : Nat → MethodName × ByteArray × Nat × Option FieldType := P.2.2.1
def zi_thr (P : zi_P) : Nat → Nat → Option Nat := P.2.2.2.1
def zi_cat (P : zi_P) : Nat → Nat → Nat → Option Int32 := P.2.2.2.2.1
def zi_fty (P : zi_P) : Nat → Nat → FieldType := P.2.2.2.2.2.1
def zi_fs0 (P : zi_P) : Nat → List Value := P.2.2.2.2.2.2
abbrev zi_y (P : zi_P) (k : Nat) : MethodName := (zi_meth P k).1
abbrev zi_b (P : zi_P) (k : Nat) : ByteArray := (zi_meth P k).2.1
abbrev zi_n (P : zi_P) (k : Nat) : Nat := (zi_meth P k).2.2.1
abbrev zi_r (P : zi_P) (k : Nat) : Option FieldType := (zi_meth P k).2.2.2
/-- the script's place: no cell of a world -/
def zi_X : Nat := 1099511627776
def zi_get (w : zi_W) (i : Nat) : Option va_E := if i = zi_X then none else w[i]?
def zi_loc (ls : zi_L) (i : Nat) : Option Value := match ls[i]? with
  | some (some v) => some v
  | _ => none
def zi_two (ls : zi_L) (i : Nat) : Bool := match zi_loc ls i with
  | some v => v.category == 2
  | none => false
/-- a value of one slot comes to a local; not behind a long's first half -/
def zi_set1 (ls : zi_L) (i : Nat) (v : Value) : Option zi_L :=
  if i < ls.length ∧ v.category = 1 ∧ (i = 0 ∨ zi_two ls (i - 1) = false) then some (ls.set i (some v)) else none
def zi_set2 (ls : zi_L) (i : Nat) (v : Value) : Option zi_L :=
  if i + 1 < ls.length ∧ v.category = 2 ∧ (i = 0 ∨ zi_two ls (i - 1) = false) then some ((ls.set i (some v)).set (i + 1) none) else none
/-- how long an instruction is (a switch: 0, that isn't asked) -/
def zi_len : Jvm.ClassFile.Instr → Nat
  | .bipush _ => 2
  | .ldc _ => 2
  | .iload _ => 2
  | .lload _ => 2
  | .aload _ => 2
  | .istore _ => 2
  | .lstore _ => 2
  | .astore _ => 2
  | .newarray _ => 2
  | .sipush _ => 3
  | .ldc2_w _ => 3
  | .getfield _ => 3
  | .putfield _ => 3
  | .ifCond _ _ => 3
  | .if_icmp _ _ => 3
  | .goto _ => 3
  | .iinc _ _ => 3
  | .new _ => 3
  | .anewarray _ => 3
  | .invokevirtual _ => 3
  | .invokespecial _ => 3
  | .invokestatic _ => 3
  | .tableswitch _ _ _ _ => 0
  | _ => 1
def zi_tgt (pc : Nat) (off : Int) : Option Nat := if 0 ≤ (pc : Int) + off then some ((pc : Int) + off).toNat else none
def zi_pop : Nat → List Value → List Value → Option (List Value × List Value)
  | 0, acc, st => some (acc, st)
  | n + 1, acc, v :: st => zi_pop n (v :: acc) st
  | _ + 1, _, [] => none
def zi_ent (as : List Value) (n : Nat) : Option zi_L := if as.length ≤ n ∧ as.all (fun v => v.category == 1) = true then some (as.map some ++ List.replicate (n - as.length) none) else none
def zi_fit (ty : FieldType) (v : Value) : Bool := match ty, v with
  | .int, .int _ => true
  | .boolean, .int x => x == 0 || x == 1
  | .object _, .ref _ => true
  | .array _, .ref _ => true
  | _, _ => false
abbrev zi_in (j : Int32) (m : Nat) : Prop := ¬ (j < 0 ∨ m ≤ j.toNatClampNeg)
def zi_jmp (b : Bool) (pc n : Nat) (off : Int) (ls : zi_L) (st : List Value) (w : zi_W) (cn sn : Nat) : Option zi_C :=
  match zi_tgt pc off with
  | some t => some (if b = true then t else pc + n, ls, st, w, cn, sn)
  | none => none
/-- branches -/
def zi_br (pc n : Nat) (i : Jvm.ClassFile.Instr) (ls : zi_L) (st : List Value) (w : zi_W) (cn sn : Nat) : Option zi_C := match i, st with
  | .ifCond .eq off, .int x :: r => zi_jmp (decide (x = 0)) pc n off ls r w cn sn
  | .ifCond .ne off, .int x :: r => zi_jmp (decide (¬ x = 0)) pc n off ls r w cn sn
  | .ifCond .lt off, .int x :: r => zi_jmp (decide (x < 0)) pc n off ls r w cn sn
  | .ifCond .ge off, .int x :: r => zi_jmp (decide (0 ≤ x)) pc n off ls r w cn sn
  | .ifCond .gt off, .int x :: r => zi_jmp (decide (0 < x)) pc n off ls r w cn sn
  | .ifCond .le off, .int x :: r => zi_jmp (decide (x ≤ 0)) pc n off ls r w cn sn
  | .if_icmp .eq off, .int y :: .int x :: r => zi_jmp (decide (x = y)) pc n off ls r w cn sn
  | .if_icmp .ne off, .int y :: .int x :: r => zi_jmp (decide (¬ x = y)) pc n off ls r w cn sn
  | .if_icmp .lt off, .int y :: .int x :: r => zi_jmp (decide (x < y)) pc n off ls r w cn sn
  | .if_icmp .ge off, .int y :: .int x :: r => zi_jmp (decide (y ≤ x)) pc n off ls r w cn sn
  | .if_icmp .gt off, .int y :: .int x :: r => zi_jmp (decide (y < x)) pc n off ls r w cn sn
  | .if_icmp .le off, .int y :: .int x :: r => zi_jmp (decide (x ≤ y)) pc n off ls r w cn sn
  | .goto off, r => zi_jmp true pc n off ls r w cn sn
  | .tableswitch d lo hi offs, .int x :: r =>
    if x.toInt < lo ∨ hi < x.toInt then zi_jmp true pc n d ls r w cn sn
    else match offs[(x.toInt - lo).toNat]? with
      | some off => zi_jmp true pc n off ls r w cn sn
      | none => none
  | _, _ => none
/-- numbers and the stack -/
def zi_num (pc n : Nat) (i : Jvm.ClassFile.Instr) (ls : zi_L) (st : List Value) (w : zi_W) (cn sn : Nat) : Option zi_C := match i, st with
  | .iconst c, r => some (pc + n, ls, .int (Int32.ofInt c) :: r, w, cn, sn)
  | .bipush c, r => some (pc + n, ls, .int (Int8.ofInt c).toInt32 :: r, w, cn, sn)
  | .sipush c, r => some (pc + n, ls, .int (Int16.ofInt c).toInt32 :: r, w, cn, sn)
  | .iadd, .int y :: .int x :: r => some (pc + n, ls, .int (x + y) :: r, w, cn, sn)
  | .isub, .int y :: .int x :: r => some (pc + n, ls, .int (x - y) :: r, w, cn, sn)
  | .imul, .int y :: .int x :: r => some (pc + n, ls, .int (x * y) :: r, w, cn, sn)
  | .iand, .int y :: .int x :: r => some (pc + n, ls, .int (x &&& y) :: r, w, cn, sn)
  | .ixor, .int y :: .int x :: r => some (pc + n, ls, .int (x ^^^ y) :: r, w, cn, sn)
  | .ishl, .int y :: .int x :: r => some (pc + n, ls, .int (x <<< (y &&& 31)) :: r, w, cn, sn)
  | .iushr, .int y :: .int x :: r => some (pc + n, ls, .int (x.toUInt32 >>> (y.toUInt32 &&& Int32.toUInt32 31)).toInt32 :: r, w, cn, sn)
  | .idiv, .int y :: .int x :: r => if y = 0 then none else some (pc + n, ls, .int (x / y) :: r, w, cn, sn)
  | .irem, .int y :: .int x :: r => if y = 0 then none else some (pc + n, ls, .int (x - x / y * y) :: r, w, cn, sn)
  | .i2l, .int x :: r => some (pc + n, ls, .long x.toInt64 :: r, w, cn, sn)
  | .l2i, .long x :: r => some (pc + n, ls, .int x.toInt32 :: r, w, cn, sn)
  | .i2c, .int x :: r => some (pc + n, ls, .int (x.toUInt32 % 65536).toInt32 :: r, w, cn, sn)
  | .ladd, .long y :: .long x :: r => some (pc + n, ls, .long (x + y) :: r, w, cn, sn)
  | .lmul, .long y :: .long x :: r => some (pc + n, ls, .long (x * y) :: r, w, cn, sn)
  | .ldiv, .long y :: .long x :: r => if y = 0 then none else some (pc + n, ls, .long (x / y) :: r, w, cn, sn)
  | .lrem, .long y :: .long x :: r => if y = 0 then none else some (pc + n, ls, .long (x - x / y * y) :: r, w, cn, sn)
  | .lcmp, .long y :: .long x :: r => some (pc + n, ls, .int (lg_cmp x y) :: r, w, cn, sn)
  | .dup, v :: r => if v.category = 1 then some (pc + n, ls, v :: v :: r, w, cn, sn) else none
  | .dup_x1, v :: u :: r => if v.category = 1 ∧ u.category = 1 then some (pc + n, ls, v :: u :: v :: r, w, cn, sn) else none
  | .dup_x2, v :: u :: t :: r => if v.category = 1 ∧ u.category = 1 ∧ t.category = 1 then some (pc + n, ls, v :: u :: t :: v :: r, w, cn, sn) else none
  | .dup2, v :: u :: r => if v.category = 1 ∧ u.category = 1 then some (pc + n, ls, v :: u :: v :: u :: r, w, cn, sn) else none
  | .pop, v :: r => if v.category = 1 then some (pc + n, ls, r, w, cn, sn) else none
  | _, _ => none
def zi_push1 (q : Option Value) (pc n : Nat) (ls : zi_L) (st : List Value) (w : zi_W) (cn sn : Nat) : Option zi_C := match q with
  | some v => some (pc + n, ls, v :: st, w, cn, sn)
  | none => none
def zi_isI (q : Option Value) : Option Value := match q with
  | some (.int x) => some (.int x)
  | _ => none
def zi_isL (q : Option Value) : Option Value := match q with
  | some (.long x) => some (.long x)
  | _ => none
def zi_isR (q : Option Value) : Option Value := match q with
  | some (.ref x) => some (.ref x)
  | _ => none
def zi_sto1 (i : Nat) (v : Value) (pc n : Nat) (ls : zi_L) (r : List Value) (w : zi_W) (cn sn : Nat) : Option zi_C := match zi_set1 ls i v with
  | some ls' => some (pc + n, ls', r, w, cn, sn)
  | none => none
def zi_sto2 (i : Nat) (v : Value) (pc n : Nat) (ls : zi_L) (r : List Value) (w : zi_W) (cn sn : Nat) : Option zi_C := match zi_set2 ls i v with
  | some ls' => some (pc + n, ls', r, w, cn, sn)
  | none => none
/-- locals -/
def zi_lcl (pc n : Nat) (i : Jvm.ClassFile.Instr) (ls : zi_L) (st : List Value) (w : zi_W) (cn sn : Nat) : Option zi_C := match i, st with
  | .iload j, r => zi_push1 (zi_isI (zi_loc ls j)) pc n ls r w cn sn
  | .iload_n j, r => zi_push1 (zi_isI (zi_loc ls j)) pc n ls r w cn sn
  | .lload j, r => zi_push1 (zi_isL (zi_loc ls j)) pc n ls r w cn sn
  | .lload_n j, r => zi_push1 (zi_isL (zi_loc ls j)) pc n ls r w cn sn
  | .aload j, r => zi_push1 (zi_isR (zi_loc ls j)) pc n ls r w cn sn
  | .aload_n j, r => zi_push1 (zi_isR (zi_loc ls j)) pc n ls r w cn sn
  | .istore j, .int x :: r => zi_sto1 j (.int x) pc n ls r w cn sn
  | .istore_n j, .int x :: r => zi_sto1 j (.int x) pc n ls r w cn sn
  | .astore j, .ref x :: r => zi_sto1 j (.ref x) pc n ls r w cn sn
  | .astore_n j, .ref x :: r => zi_sto1 j (.ref x) pc n ls r w cn sn
  | .lstore j, .long x :: r => zi_sto2 j (.long x) pc n ls r w cn sn
  | .lstore_n j, .long x :: r => zi_sto2 j (.long x) pc n ls r w cn sn
  | .iinc j c, r => match zi_loc ls j with
    | some (.int x) => zi_sto1 j (.int (x + Int32.ofInt c)) pc n ls r w cn sn
    | _ => none
  | _, _ => none
/-- cells -/
def zi_cel (P : zi_P) (lw L : Nat) (xs : Nat → Int32) (k pc n : Nat) (i : Jvm.ClassFile.Instr) (ls : zi_L) (st : List Value) (w : zi_W) (cn sn : Nat) : Option zi_C := match i, st with
  | .ldc x, r => match zi_pool P k x with
    | some (6, _, _, .int v) => some (pc + n, ls, .int v :: r, w, cn, sn)
    | _ => none
  | .ldc2_w x, r => match zi_pool P k x with
    | some (6, _, _, .long v) => some (pc + n, ls, .long v :: r, w, cn, sn)
    | _ => none
  | .getfield x, .ref a :: r => match zi_pool P k x, zi_get w a with
    | some (0, c, f, _), some (.inr (c', fs)) => if c = c' then zi_push1 fs[f]? pc n ls r w cn sn else none
    | some (8, c, f, _), some (.inr (c', fs)) => if c = c' then zi_push1 fs[f]? pc n ls r w cn sn else none
    | some (9, c, f, _), some (.inr (c', fs)) => if c = c' then zi_push1 fs[f]? pc n ls r w cn sn else none
    | _, _ => none
  | .putfield x, v :: .ref a :: r => match zi_pool P k x, zi_get w a with
    | some (0, c, f, _), some (.inr (c', fs)) => if c = c' ∧ f < fs.length ∧ zi_fit (zi_fty P c f) v = true then some (pc + n, ls, r, w.set a (.inr (c', fs.set f v)), cn, sn) else none
    | some (8, c, f, _), some (.inr (c', fs)) => if c = c' ∧ f < fs.length ∧ zi_fit (zi_fty P c f) v = true then some (pc + n, ls, r, w.set a (.inr (c', fs.set f v)), cn, sn) else none
    | _, _ => none
  | .iaload, .int j :: .ref a :: r =>
    if a = zi_X then (if k = lw ∧ zi_in j L then some (pc + n, ls, .int (xs j.toNatClampNeg) :: r, w, cn, sn) else none)
    else match zi_get w a with
      | some (.inl (0, m, .inl f)) => if zi_in j m then some (pc + n, ls, .int (f j.toNatClampNeg) :: r, w, cn, sn) else none
      | _ => none
  | .baload, .int j :: .ref a :: r => match zi_get w a with
    | some (.inl (1, m, .inl f)) => if zi_in j m then some (pc + n, ls, .int (f j.toNatClampNeg) :: r, w, cn, sn) else none
    | _ => none
  | .laload, .int j :: .ref a :: r => match zi_get w a with
    | some (.inl (2, m, .inr (.inl f))) => if zi_in j m then some (pc + n, ls, .long (f j.toNatClampNeg) :: r, w, cn, sn) else none
    | _ => none
  | .aaload, .int j :: .ref a :: r => match zi_get w a with
    | some (.inl (3, m, .inr (.inr (.inr (.inr f))))) => if zi_in j m then zi_push1 ((f j.toNatClampNeg).map Value.ref) pc n ls r w cn sn else none
    | _ => none
  | .iastore, .int x :: .int j :: .ref a :: r => match zi_get w a with
    | some (.inl (0, m, .inl f)) => if zi_in j m then some (pc + n, ls, r, w.set a (.inl (0, m, .inl (upd f j.toNatClampNeg x))), cn, sn) else none
    | _ => none
  | .bastore, .int x :: .int j :: .ref a :: r => match zi_get w a with
    | some (.inl (1, m, .inl f)) => if zi_in j m ∧ (x = 0 ∨ x = 1) then some (pc + n, ls, r, w.set a (.inl (1, m, .inl (upd f j.toNatClampNeg x))), cn, sn) else none
    | _ => none
  | .lastore, .long x :: .int j :: .ref a :: r => match zi_get w a with
    | some (.inl (2, m, .inr (.inl f))) => if zi_in j m then some (pc + n, ls, r, w.set a (.inl (2, m, .inr (.inl (vp_updL f j.toNatClampNeg x)))), cn, sn) else none
    | _ => none
  | .aastore, .ref v :: .int j :: .ref a :: r => match zi_get w a, zi_get w v with
    | some (.inl (3, m, .inr (.inr (.inr (.inr f))))), some (.inr (ci, _)) => if zi_in j m ∧ ci = 2 then some (pc + n, ls, r, w.set a (.inl (3, m, .inr (.inr (.inr (.inr (va_up f j.toNatClampNeg (some v))))))), cn, sn) else none
    | _, _ => none
  | .arraylength, .ref a :: r =>
    if a = zi_X then (if k = lw then some (pc + n, ls, .int (Int32.ofNat L) :: r, w, cn, sn) else none)
    else match zi_get w a with
      | some (.inl (0, m, .inl _)) => some (pc + n, ls, .int (Int32.ofNat m) :: r, w, cn, sn)
      | _ => none
  | .new x, r => match zi_pool P k x with
    | some (4, c, z, _) => if cn = w.length ∧ w.length < zi_X then some (pc + n, ls, .ref w.length :: r, w ++ [.inr (c, zi_fs0 P c)], cn + 1, sn + z) else none
    | _ => none
  | .newarray .int, .int m :: r => if cn = w.length ∧ w.length < zi_X ∧ ¬ m < 0 ∧ m.toNatClampNeg ≤ 65536 then some (pc + n, ls, .ref w.length :: r, w ++ [.inl (0, m.toNatClampNeg, .inl (fun _ => 0))], cn + 1, sn + m.toNatClampNeg) else none
  | .newarray .boolean, .int m :: r => if cn = w.length ∧ w.length < zi_X ∧ ¬ m < 0 ∧ m.toNatClampNeg ≤ 65536 then some (pc + n, ls, .ref w.length :: r, w ++ [.inl (1, m.toNatClampNeg, .inl (fun _ => 0))], cn + 1, sn + m.toNatClampNeg) else none
  | .newarray .long, .int m :: r => if cn = w.length ∧ w.length < zi_X ∧ ¬ m < 0 ∧ m.toNatClampNeg ≤ 65536 then some (pc + n, ls, .ref w.length :: r, w ++ [.inl (2, m.toNatClampNeg, .inr (.inl (fun _ => 0)))], cn + 1, sn + m.toNatClampNeg) else none
  | .anewarray x, .int m :: r => match zi_pool P k x with
    | some (5, 3, _, _) => if cn = w.length ∧ w.length < zi_X ∧ ¬ m < 0 ∧ m.toNatClampNeg ≤ 65536 then some (pc + n, ls, .ref w.length :: r, w ++ [.inl (3, m.toNatClampNeg, .inr (.inr (.inr (.inr (fun _ => none)))))], cn + 1, sn + m.toNatClampNeg) else none
    | _ => none
  | _, _ => none
/-- members that are steps by themselves: Object(), Math.min, System.arraycopy over ints -/
def zi_pri (P : zi_P) (d q k pc n : Nat) (i : Jvm.ClassFile.Instr) (ls : zi_L) (st : List Value) (w : zi_W) (cn sn : Nat) : Option zi_C := match i, st with
  | .invokespecial x, .ref _ :: r => match zi_pool P k x with
    | some (7, 0, _, _) => if (r.map (fun v => v.category)).sum ≤ 8 ∧ 1 ≤ d ∧ 20 ≤ q then some (pc + n, ls, r, w, cn, sn) else none
    | _ => none
  | .invokestatic x, .int y :: .int z :: r => match zi_pool P k x with
    | some (7, 1, _, _) => if (r.map (fun v => v.category)).sum ≤ 8 ∧ 1 ≤ d ∧ 21 ≤ q then some (pc + n, ls, .int (if y < z then y else z) :: r, w, cn, sn) else none
    | some (7, 2, _, _) => match st with
      | .int m :: .int dp :: .ref a :: .int sp :: .ref a0 :: r => match zi_get w a0, zi_get w a with
        | some (.inl (0, n0, .inl f)), some (.inl (0, n1, .inl g)) =>
          if (r.map (fun v => v.category)).sum ≤ 8 ∧ ¬ sp < 0 ∧ ¬ dp < 0 ∧ ¬ m < 0 ∧ sp.toNatClampNeg + m.toNatClampNeg ≤ n0 ∧ dp.toNatClampNeg + m.toNatClampNeg ≤ n1 ∧ 1 ≤ d ∧ 26 ≤ q then
            some (pc + n, ls, r, w.set a (.inl (0, n1, .inl (va_cpy f g sp.toNatClampNeg dp.toNatClampNeg m.toNatClampNeg))), cn, sn) else none
        | _, _ => none
      | _ => none
    | _ => none
  | _, _ => none
def zi_or (a b : Option zi_C) : Option zi_C := match a with
  | some x => some x
  | none => b
def zi_sim (P : zi_P) (lw L : Nat) (xs : Nat → Int32) (d q k pc n : Nat) (i : Jvm.ClassFile.Instr) (ls : zi_L) (st : List Value) (w : zi_W) (cn sn : Nat) : Option zi_C :=
  zi_or (zi_num pc n i ls st w cn sn) (zi_or (zi_lcl pc n i ls st w cn sn) (zi_or (zi_br pc n i ls st w cn sn) (zi_or (zi_cel P lw L xs k pc n i ls st w cn sn) (zi_pri P d q k pc n i ls st w cn sn))))
/-- a return: what is answered -/
def zi_ret (P : zi_P) (k : Nat) (i : Jvm.ClassFile.Instr) (st : List Value) : Option (Option Value) := match i, st with
  | .return_, [] => if zi_r P k = none then some none else none
  | .ireturn, [.int x] => if zi_r P k = some .int ∨ (zi_r P k = some .boolean ∧ (x = 0 ∨ x = 1)) then some (some (.int x)) else none
  | _, _ => none
/-- a call: method, its arguments in order (the receiver first), what is left of the stack -/
def zi_inv (P : zi_P) (k : Nat) (i : Jvm.ClassFile.Instr) (st : List Value) (w : zi_W) : Option (Nat × List Value × List Value) := match i with
  | .invokevirtual x => match zi_pool P k x with
    | some (1, j, m, .ref ci) => match zi_pop m [] st with
      | some (as, .ref a :: r) => match zi_get w a with
        | some (.inr (c', _)) => if c' = ci ∧ (r.map (fun v => v.category)).sum ≤ 8 then some (j, .ref a :: as, r) else none
        | _ => none
      | _ => none
    | _ => none
  | .invokespecial x => match zi_pool P k x with
    | some (2, j, m, _) => match zi_pop m [] st with
      | some (as, .ref a :: r) => if (r.map (fun v => v.category)).sum ≤ 8 then some (j, .ref a :: as, r) else none
      | _ => none
    | _ => none
  | .invokestatic x => match zi_pool P k x with
    | some (3, j, m, _) => match zi_pop m [] st with
      | some (as, r) => if (r.map (fun v => v.category)).sum ≤ 8 then some (j, as, r) else none
      | _ => none
    | _ => none
  | _ => none
/-- the run: fuel n, room for d frames more, with q words -/
def zi_run (P : zi_P) (lw L : Nat) (xs : Nat → Int32) : Nat → Nat → Nat → Nat → Nat → zi_L → List Value → zi_W → Nat → Nat → Option zi_R
  | 0, _, _, _, _, _, _, _, _, _ => none
  | n + 1, d, q, k, pc, ls, st, w, cn, sn => match zi_thr P k pc with
    | some e => if st = [] ∧ 6 ≤ d ∧ 90 ≤ q then some (.inr e, w, cn + 1, sn + 6) else none
    | none => match zi_code P k pc with
      | none => none
      | some i => match zi_ret P k i st with
        | some r => some (.inl r, w, cn, sn)
        | none => match zi_sim P lw L xs d q k pc (zi_len i) i ls st w cn sn with
          | some (pc', ls', st', w', cn', sn') => if cn ≤ cn' ∧ sn ≤ sn' ∧ ls'.length = ls.length then zi_run P lw L xs n d q k pc' ls' st' w' cn' sn' else none
          | none => match zi_inv P k i st w, d with
            | some (j, as, r), d' + 1 => match zi_ent as (zi_n P j) with
              | none => none
              | some ls' => if 19 + zi_n P j ≤ q then match zi_run P lw L xs n d' (q - (19 + zi_n P j)) j 0 ls' [] w cn sn with
                | some (.inl v, w', cn', sn') => zi_run P lw L xs n d q k (pc + 3) ls (v.toList ++ r) w' cn' sn'
                | some (.inr e, w', cn', sn') => match zi_cat P k pc e with
                  | some x => some (.inl (some (.int x)), w', cn', sn')
                  | none => none
                | none => none
                else none
            | _, _ => none
end
section
/-! What the interpreter answers, the machine does: the steps. -/
def zi_ad (h0 b i : Nat) : Nat := if i = zi_X then b else h0 + i
def zi_v (h0 b : Nat) : Value → Value
  | .ref i => .ref (zi_ad h0 b i)
  | v => v
def zi_a (h0 b : Nat) : vp_A → vp_A
  | (n, .inr (.inr (.inr (.inr f)))) => (n, .inr (.inr (.inr (.inr (fun j => (f j).map (zi_ad h0 b))))))
  | a => a
def zi_e (cA : Nat → ClassId) (h0 b : Nat) : va_E → va_E
  | .inl (t, a) => .inl (cA t, zi_a h0 b a)
  | .inr (ci, fs) => .inr (ci, fs.map (zi_v h0 b))
def zi_w (cA : Nat → ClassId) (h0 b : Nat) (w : zi_W) : va_W := w.mapIdx (fun i c => (h0 + i, zi_e cA h0 b c))
theorem zi_v_cat (h0 b : Nat) (v : Value) : (zi_v h0 b v).category = v.category := by cases v <;> rfl
theorem zi_w_get {cA : Nat → ClassId} {h0 b : Nat} {w : zi_W} {i : Nat} {c : va_E} (h : w[i]? = some c) : (zi_w cA h0 b w)[i]? = some (h0 + i, zi_e cA h0 b c) := by
  unfold zi_w
  rw [List.getElem?_mapIdx, h]
  rfl
theorem zi_w_set {cA : Nat → ClassId} {h0 b : Nat} {w : zi_W} {i : Nat} {c : va_E} : (zi_w cA h0 b w).set i (h0 + i, zi_e cA h0 b c) = zi_w cA h0 b (w.set i c) := by
  unfold zi_w
  apply List.ext_getElem?
  intro j
  rw [List.getElem?_mapIdx, List.getElem?_set, List.getElem?_set, List.length_mapIdx]
  by_cases hj : i = j
  · subst hj
    by_cases hl : i < w.length
    · simp [hl]
    · simp [hl]
  · simp [hj, List.getElem?_mapIdx]
theorem zi_w_app {cA : Nat → ClassId} {h0 b : Nat} {w : zi_W} {c : va_E} : zi_w cA h0 b (w ++ [c]) = zi_w cA h0 b w ++ [(h0 + w.length, zi_e cA h0 b c)] := by
  unfold zi_w
  exact List.mapIdx_concat
theorem zi_get_at {w : zi_W} {i : Nat} {c : va_E} (h : zi_get w i = some c) : w[i]? = some c ∧ i ≠ zi_X := by
  unfold zi_get at h
  split at h
  · cases h
  · exact ⟨h, by assumption⟩
theorem zi_ad_at {h0 b i : Nat} (h : i ≠ zi_X) : zi_ad h0 b i = h0 + i := if_neg h
/-- the machine's locals hold the interpreter's -/
def zi_ls (h0 b : Nat) (LS : Array Slot) (ls : zi_L) : Prop := LS.size = ls.length ∧ lv_wf LS ∧ ∀ (i : Nat) (v : Value), zi_loc ls i = some v → LS[i]? = some (.val (zi_v h0 b v))
def zi_al (h0 b : Nat) (ls : zi_L) : List (Nat × Value) := (List.range ls.length).filterMap (fun i => (zi_loc ls i).map (fun v => (i, zi_v h0 b v)))
theorem zi_loc_lt {ls : zi_L} {i : Nat} {v : Value} (h : zi_loc ls i = some v) : i < ls.length := by
  unfold zi_loc at h
  split at h
  · rename_i h2
    exact (List.getElem?_eq_some_iff.mp h2).1
  · cases h
theorem zi_al_mem {h0 b : Nat} {ls : zi_L} {i : Nat} {u : Value} : (i, u) ∈ zi_al h0 b ls ↔ ∃ v, zi_loc ls i = some v ∧ u = zi_v h0 b v := by
  unfold zi_al
  rw [List.mem_filterMap]
  constructor
  · rintro ⟨j, -, hj⟩
    cases hl : zi_loc ls j with
    | none => rw [hl] at hj; cases hj
    | some v =>
      rw [hl] at hj
      cases hj
      exact ⟨v, hl, rfl⟩
  · rintro ⟨v, hv, rfl⟩
    exact ⟨i, List.mem_range.mpr (zi_loc_lt hv), by rw [hv]; rfl⟩
theorem zi_ls_has {h0 b : Nat} {LS : Array Slot} {ls : zi_L} (h : zi_ls h0 b LS ls) : lv_has LS ls.length (zi_al h0 b ls) := by
  refine ⟨h.1, h.2.1, fun q hq => ?_⟩
  obtain ⟨i, u⟩ := q
  obtain ⟨v, hv, rfl⟩ := zi_al_mem.mp hq
  exact h.2.2 i v hv
theorem zi_loc_set {ls : zi_L} {i j : Nat} {x : Option Value} {v : Value} (h : zi_loc (ls.set i x) j = some v) : (i = j ∧ x = some v) ∨ (i ≠ j ∧ zi_loc ls j = some v) := by
  unfold zi_loc at h ⊢
  rw [List.getElem?_set] at h
  by_cases hij : i = j
  · subst hij
    rw [if_pos rfl] at h
    by_cases hl : i < ls.length
    · rw [if_pos hl] at h
      left
      refine ⟨rfl, ?_⟩
      cases x with
      | none => cases h
      | some u => exact h
    · rw [if_neg hl] at h
      cases h
  · rw [if_neg hij] at h
    exact Or.inr ⟨hij, h⟩
theorem zi_two_not {ls : zi_L} {i : Nat} {v : Value} (h : zi_two ls i = false) (hv : zi_loc ls i = some v) : ¬ v.category = 2 := by
  unfold zi_two at h
  rw [hv] at h
  simpa using h
theorem zi_ls_st1 {h0 b : Nat} {LS' : Array Slot} {ls ls' : zi_L} {i : Nat} {v : Value} (hs : zi_set1 ls i v = some ls')
    (h : lv_has LS' ls.length ((i, zi_v h0 b v) :: (zi_al h0 b ls).filter (fun q => !(q.1 == i) && !(q.1 + 1 == i && q.2.category == 2)))) : zi_ls h0 b LS' ls' := by
  unfold zi_set1 at hs
  split at hs
  · rename_i hc
    cases hs
    refine ⟨by rw [h.1, List.length_set], h.2.1, fun j u hj => ?_⟩
    rcases zi_loc_set hj with ⟨rfl, e⟩ | ⟨hne, hl⟩
    · cases e
      exact h.2.2 (i, zi_v h0 b v) List.mem_cons_self
    · refine h.2.2 (j, zi_v h0 b u) (List.mem_cons_of_mem _ (List.mem_filter.mpr ⟨zi_al_mem.mpr ⟨u, hl, rfl⟩, ?_⟩))
      have h2 : ¬ (j + 1 = i ∧ (zi_v h0 b u).category = 2) := by
        rintro ⟨e1, e2⟩
        rw [zi_v_cat] at e2
        rcases hc.2.2 with z | z
        · omega
        · have : i - 1 = j := by omega
          rw [this] at z
          exact zi_two_not z hl e2
      simp only [Bool.and_eq_true, Bool.not_eq_true', beq_eq_false_iff_ne, ne_eq, Bool.and_eq_false_iff]
      refine ⟨fun q => hne q.symm, ?_⟩
      by_cases q1 : j + 1 = i
      · exact Or.inr fun q2 => h2 ⟨q1, q2⟩
      · exact Or.inl q1
  · cases hs
theorem zi_ls_st2 {h0 b : Nat} {LS' : Array Slot} {ls ls' : zi_L} {i : Nat} {v : Value} (hs : zi_set2 ls i v = some ls')
    (h : lv_has LS' ls.length ((i, zi_v h0 b v) :: (zi_al h0 b ls).filter (fun q => !(q.1 == i) && (!(q.1 == i + 1) && !(q.1 + 1 == i && q.2.category == 2))))) : zi_ls h0 b LS' ls' := by
  unfold zi_set2 at hs
  split at hs
  · rename_i hc
    cases hs
    refine ⟨by rw [h.1, List.length_set, List.length_set], h.2.1, fun j u hj => ?_⟩
    rcases zi_loc_set hj with ⟨-, e⟩ | ⟨hne, hl⟩
    · cases e
    · rcases zi_loc_set hl with ⟨rfl, e⟩ | ⟨hne2, hl⟩
      · cases e
        exact h.2.2 (i, zi_v h0 b v) List.mem_cons_self
      · refine h.2.2 (j, zi_v h0 b u) (List.mem_cons_of_mem _ (List.mem_filter.mpr ⟨zi_al_mem.mpr ⟨u, hl, rfl⟩, ?_⟩))
        have h2 : ¬ (j + 1 = i ∧ (zi_v h0 b u).category = 2) := by
          rintro ⟨e1, e2⟩
          rw [zi_v_cat] at e2
          rcases hc.2.2 with z | z
          · omega
          · have : i - 1 = j := by omega
            rw [this] at z
            exact zi_two_not z hl e2
        simp only [Bool.and_eq_true, Bool.not_eq_true', beq_eq_false_iff_ne, ne_eq, Bool.and_eq_false_iff]
        refine ⟨fun q => hne2 q.symm, fun q => hne q.symm, ?_⟩
        by_cases q1 : j + 1 = i
        · exact Or.inr fun q2 => h2 ⟨q1, q2⟩
        · exact Or.inl q1
  · cases hs
section ZS
variable {p : Program} {l : Launch} {e : Env} {R : Room} {s : State} {m : MethodId} {args : Array Value} {below : List Frame} {meth : Method} {c : Code} {H : Heap} {locs : List Loc} {cells slots : Nat} {Q : State → Prop} {cc : ByteArray} {h0 b : Nat}
theorem zs_num {pc pc' : Nat} {i : Jvm.ClassFile.Instr} {ls ls' : zi_L} {st st' : List Value} {w w' : zi_W} {cn cn' sn sn' : Nat} (hx : p.tables.exec = Jvm.exec) (hb : c.code = cc) (hdg : decode cc pc = .ok (i, zi_len i))
    (h : zi_num pc (zi_len i) i ls st w cn sn = some (pc', ls', st', w', cn', sn')) : ls' = ls ∧ w' = w ∧ cn' = cn ∧ sn' = sn ∧ ∀ LS : Array Slot, W p l e R s m args below meth c H locs cells slots Q (F0 m pc' LS (st'.map (zi_v h0 b))) → W p l e R s m args below meth c H locs cells slots Q (F0 m pc LS (st.map (zi_v h0 b))) := by
  unfold zi_num at h
  split at h
  · cases h; exact ⟨rfl, rfl, rfl, rfl, fun LS k => lv_iconst hx hb hdg rfl k⟩
  · cases h; exact ⟨rfl, rfl, rfl, rfl, fun LS k => lv_bipush hx hb hdg rfl k⟩
  · cases h; exact ⟨rfl, rfl, rfl, rfl, fun LS k => lv_sipush hx hb hdg rfl k⟩
  · cases h; exact ⟨rfl, rfl, rfl, rfl, fun LS k => lv_iadd hx hb hdg k⟩
  · cases h; exact ⟨rfl, rfl, rfl, rfl, fun LS k => lv_isub hx hb hdg k⟩
  · cases h; exact ⟨rfl, rfl, rfl, rfl, fun LS k => lv_imul hx hb hdg k⟩
  · cases h; exact ⟨rfl, rfl, rfl, rfl, fun LS k => lv_iand hx hb hdg k⟩
  · cases h; exact ⟨rfl, rfl, rfl, rfl, fun LS k => lv_ixor hx hb hdg k⟩
  · cases h; exact ⟨rfl, rfl, rfl, rfl, fun LS k => lv_ishl hx hb hdg k⟩
  · cases h; exact ⟨rfl, rfl, rfl, rfl, fun LS k => lv_iushr hx hb hdg rfl k⟩
  · split at h
    · cases h
    · cases h; exact ⟨rfl, rfl, rfl, rfl, fun LS k => lv_idiv hx hb hdg (by assumption) k⟩
  · split at h
    · cases h
    · cases h; exact ⟨rfl, rfl, rfl, rfl, fun LS k => lv_irem hx hb hdg (by assumption) k⟩
  · cases h; exact ⟨rfl, rfl, rfl, rfl, fun LS k => lv_i2l hx hb hdg rfl k⟩
  · cases h; exact ⟨rfl, rfl, rfl, rfl, fun LS k => lv_l2i hx hb hdg rfl k⟩
  · cases h; exact ⟨rfl, rfl, rfl, rfl, fun LS k => lv_i2c hx hb hdg rfl k⟩
  · cases h; exact ⟨rfl, rfl, rfl, rfl, fun LS k => lv_ladd hx hb hdg k⟩
  · cases h; exact ⟨rfl, rfl, rfl, rfl, fun LS k => lv_lmul hx hb hdg k⟩
  · split at h
    · cases h
    · cases h; exact ⟨rfl, rfl, rfl, rfl, fun LS k => lv_ldiv hx hb hdg (by assumption) k⟩
  · split at h
    · cases h
    · cases h; exact ⟨rfl, rfl, rfl, rfl, fun LS k => lv_lrem hx hb hdg (by assumption) k⟩
  · cases h; exact ⟨rfl, rfl, rfl, rfl, fun LS k => W.lcmp hx hb hdg k⟩
  · split at h
    · cases h; exact ⟨rfl, rfl, rfl, rfl, fun LS k => lv_dup hx hb hdg (by rw [zi_v_cat]; assumption) k⟩
    · cases h
  · split at h
    · rename_i hc
      cases h; exact ⟨rfl, rfl, rfl, rfl, fun LS k => lv_dup_x1 hx hb hdg (by rw [zi_v_cat]; exact hc.1) (by rw [zi_v_cat]; exact hc.2) k⟩
    · cases h
  · split at h
    · rename_i hc
      cases h; exact ⟨rfl, rfl, rfl, rfl, fun LS k => lv_dup_x2 hx hb hdg (by rw [zi_v_cat]; exact hc.1) (by rw [zi_v_cat]; exact hc.2.1) (by rw [zi_v_cat]; exact hc.2.2) k⟩
    · cases h
  · split at h
    · rename_i hc
      cases h; exact ⟨rfl, rfl, rfl, rfl, fun LS k => lv_dup2_11 hx hb hdg (by rw [zi_v_cat]; exact hc.1) (by rw [zi_v_cat]; exact hc.2) k⟩
    · cases h
  · split at h
    · cases h; exact ⟨rfl, rfl, rfl, rfl, fun LS k => lv_pop hx hb hdg (by rw [zi_v_cat]; assumption) k⟩
    · cases h
  · cases h
theorem zs_tgt {pc t : Nat} {off : Int} (h : zi_tgt pc off = some t) : (pc : Int) + off = (t : Int) := by
  unfold zi_tgt at h
  split at h
  · cases h
    rw [Int.toNat_of_nonneg (by assumption)]
  · cases h
theorem zs_jmp {bb : Bool} {pc n pc' : Nat} {off : Int} {ls ls' : zi_L} {st st' : List Value} {w w' : zi_W} {cn cn' sn sn' : Nat} (h : zi_jmp bb pc n off ls st w cn sn = some (pc', ls', st', w', cn', sn')) :
    ∃ t : Nat, (pc : Int) + off = (t : Int) ∧ pc' = (if bb = true then t else pc + n) ∧ ls' = ls ∧ st' = st ∧ w' = w ∧ cn' = cn ∧ sn' = sn := by
  unfold zi_jmp at h
  split at h
  · rename_i t ht
    cases h
    exact ⟨t, zs_tgt ht, rfl, rfl, rfl, rfl, rfl, rfl⟩
  · cases h
theorem zs_br {pc pc' : Nat} {i : Jvm.ClassFile.Instr} {ls ls' : zi_L} {st st' : List Value} {w w' : zi_W} {cn cn' sn sn' len : Nat} (hx : p.tables.exec = Jvm.exec) (hb : c.code = cc) (hdg : decode cc pc = .ok (i, len)) (hlen : zi_len i = 0 ∨ len = zi_len i)
    (h : zi_br pc (zi_len i) i ls st w cn sn = some (pc', ls', st', w', cn', sn')) : ls' = ls ∧ w' = w ∧ cn' = cn ∧ sn' = sn ∧ ∀ LS : Array Slot, W p l e R s m args below meth c H locs cells slots Q (F0 m pc' LS (st'.map (zi_v h0 b))) → W p l e R s m args below meth c H locs cells slots Q (F0 m pc LS (st.map (zi_v h0 b))) := by
  unfold zi_br at h
  split at h
  · have hlen : len = 3 := hlen.resolve_left (show ¬ (3 = 0) by decide)
    subst hlen
    obtain ⟨t, ht, rfl, rfl, rfl, rfl, rfl, rfl⟩ := zs_jmp h
    exact ⟨rfl, rfl, rfl, rfl, fun LS k => lv_if_eq hx hb hdg ht (fun q => by rwa [decide_eq_true q, if_pos rfl] at k) (fun q => by rwa [decide_eq_false q, if_neg Bool.false_ne_true] at k)⟩
  · have hlen : len = 3 := hlen.resolve_left (show ¬ (3 = 0) by decide)
    subst hlen
    obtain ⟨t, ht, rfl, rfl, rfl, rfl, rfl, rfl⟩ := zs_jmp h
    exact ⟨rfl, rfl, rfl, rfl, fun LS k => lv_if_ne hx hb hdg ht (fun q => by rwa [decide_eq_true q, if_pos rfl] at k) (fun q => by rwa [decide_eq_false (fun h => h q), if_neg Bool.false_ne_true] at k)⟩
  · have hlen : len = 3 := hlen.resolve_left (show ¬ (3 = 0) by decide)
    subst hlen
    obtain ⟨t, ht, rfl, rfl, rfl, rfl, rfl, rfl⟩ := zs_jmp h
    exact ⟨rfl, rfl, rfl, rfl, fun LS k => lv_if_lt hx hb hdg ht (fun q => by rwa [decide_eq_true q, if_pos rfl] at k) (fun q => by rwa [decide_eq_false q, if_neg Bool.false_ne_true] at k)⟩
  · have hlen : len = 3 := hlen.resolve_left (show ¬ (3 = 0) by decide)
    subst hlen
    obtain ⟨t, ht, rfl, rfl, rfl, rfl, rfl, rfl⟩ := zs_jmp h
    exact ⟨rfl, rfl, rfl, rfl, fun LS k => lv_if_ge hx hb hdg ht (fun q => by rwa [decide_eq_true q, if_pos rfl] at k) (fun q => by rwa [decide_eq_false q, if_neg Bool.false_ne_true] at k)⟩
  · have hlen : len = 3 := hlen.resolve_left (show ¬ (3 = 0) by decide)
    subst hlen
    obtain ⟨t, ht, rfl, rfl, rfl, rfl, rfl, rfl⟩ := zs_jmp h
    exact ⟨rfl, rfl, rfl, rfl, fun LS k => lv_if_gt hx hb hdg ht (fun q => by rwa [decide_eq_true q, if_pos rfl] at k) (fun q => by rwa [decide_eq_false q, if_neg Bool.false_ne_true] at k)⟩
  · have hlen : len = 3 := hlen.resolve_left (show ¬ (3 = 0) by decide)
    subst hlen
    obtain ⟨t, ht, rfl, rfl, rfl, rfl, rfl, rfl⟩ := zs_jmp h
    exact ⟨rfl, rfl, rfl, rfl, fun LS k => lv_if_le hx hb hdg ht (fun q => by rwa [decide_eq_true q, if_pos rfl] at k) (fun q => by rwa [decide_eq_false q, if_neg Bool.false_ne_true] at k)⟩
  · have hlen : len = 3 := hlen.resolve_left (show ¬ (3 = 0) by decide)
    subst hlen
    obtain ⟨t, ht, rfl, rfl, rfl, rfl, rfl, rfl⟩ := zs_jmp h
    exact ⟨rfl, rfl, rfl, rfl, fun LS k => lv_icmp_eq hx hb hdg ht (fun q => by rwa [decide_eq_true q, if_pos rfl] at k) (fun q => by rwa [decide_eq_false q, if_neg Bool.false_ne_true] at k)⟩
  · have hlen : len = 3 := hlen.resolve_left (show ¬ (3 = 0) by decide)
    subst hlen
    obtain ⟨t, ht, rfl, rfl, rfl, rfl, rfl, rfl⟩ := zs_jmp h
    exact ⟨rfl, rfl, rfl, rfl, fun LS k => lv_icmp_ne hx hb hdg ht (fun q => by rwa [decide_eq_true q, if_pos rfl] at k) (fun q => by rwa [decide_eq_false (fun h => h q), if_neg Bool.false_ne_true] at k)⟩
  · have hlen : len = 3 := hlen.resolve_left (show ¬ (3 = 0) by decide)
    subst hlen
    obtain ⟨t, ht, rfl, rfl, rfl, rfl, rfl, rfl⟩ := zs_jmp h
    exact ⟨rfl, rfl, rfl, rfl, fun LS k => lv_icmp_lt hx hb hdg ht (fun q => by rwa [decide_eq_true q, if_pos rfl] at k) (fun q => by rwa [decide_eq_false q, if_neg Bool.false_ne_true] at k)⟩
  · have hlen : len = 3 := hlen.resolve_left (show ¬ (3 = 0) by decide)
    subst hlen
    obtain ⟨t, ht, rfl, rfl, rfl, rfl, rfl, rfl⟩ := zs_jmp h
    exact ⟨rfl, rfl, rfl, rfl, fun LS k => lv_icmp_ge hx hb hdg ht (fun q => by rwa [decide_eq_true q, if_pos rfl] at k) (fun q => by rwa [decide_eq_false q, if_neg Bool.false_ne_true] at k)⟩
  · have hlen : len = 3 := hlen.resolve_left (show ¬ (3 = 0) by decide)
    subst hlen
    obtain ⟨t, ht, rfl, rfl, rfl, rfl, rfl, rfl⟩ := zs_jmp h
    exact ⟨rfl, rfl, rfl, rfl, fun LS k => lv_icmp_gt hx hb hdg ht (fun q => by rwa [decide_eq_true q, if_pos rfl] at k) (fun q => by rwa [decide_eq_false q, if_neg Bool.false_ne_true] at k)⟩
  · have hlen : len = 3 := hlen.resolve_left (show ¬ (3 = 0) by decide)
    subst hlen
    obtain ⟨t, ht, rfl, rfl, rfl, rfl, rfl, rfl⟩ := zs_jmp h
    exact ⟨rfl, rfl, rfl, rfl, fun LS k => lv_icmp_le hx hb hdg ht (fun q => by rwa [decide_eq_true q, if_pos rfl] at k) (fun q => by rwa [decide_eq_false q, if_neg Bool.false_ne_true] at k)⟩
  · have hlen : len = 3 := hlen.resolve_left (show ¬ (3 = 0) by decide)
    subst hlen
    obtain ⟨t, ht, rfl, rfl, rfl, rfl, rfl, rfl⟩ := zs_jmp h
    exact ⟨rfl, rfl, rfl, rfl, fun LS k => lv_goto hx hb hdg ht k⟩
  · split at h
    · obtain ⟨t, ht, rfl, rfl, rfl, rfl, rfl, rfl⟩ := zs_jmp h
      exact ⟨rfl, rfl, rfl, rfl, fun LS k => lv_tableOut hx hb hdg (by assumption) ht k⟩
    · rename_i hlo
      split at h
      · rename_i off hoff
        obtain ⟨t, ht, rfl, rfl, rfl, rfl, rfl, rfl⟩ := zs_jmp h
        exact ⟨rfl, rfl, rfl, rfl, fun LS k => lv_tableIn hx hb hdg (fun q => hlo (Or.inl q)) (fun q => hlo (Or.inr q)) hoff ht k⟩
      · cases h
  · cases h
theorem zs_push1 {q : Option Value} {pc n pc' : Nat} {ls ls' : zi_L} {st st' : List Value} {w w' : zi_W} {cn cn' sn sn' : Nat} (h : zi_push1 q pc n ls st w cn sn = some (pc', ls', st', w', cn', sn')) :
    ∃ v, q = some v ∧ pc' = pc + n ∧ ls' = ls ∧ st' = v :: st ∧ w' = w ∧ cn' = cn ∧ sn' = sn := by
  unfold zi_push1 at h
  split at h
  · cases h; exact ⟨_, rfl, rfl, rfl, rfl, rfl, rfl, rfl⟩
  · cases h
theorem zs_isI {q : Option Value} {v : Value} (h : zi_isI q = some v) : ∃ x, v = .int x ∧ q = some (.int x) := by
  unfold zi_isI at h
  split at h
  · cases h; exact ⟨_, rfl, rfl⟩
  · cases h
theorem zs_isL {q : Option Value} {v : Value} (h : zi_isL q = some v) : ∃ x, v = .long x ∧ q = some (.long x) := by
  unfold zi_isL at h
  split at h
  · cases h; exact ⟨_, rfl, rfl⟩
  · cases h
theorem zs_isR {q : Option Value} {v : Value} (h : zi_isR q = some v) : ∃ x, v = .ref x ∧ q = some (.ref x) := by
  unfold zi_isR at h
  split at h
  · cases h; exact ⟨_, rfl, rfl⟩
  · cases h
theorem zs_sto1 {i : Nat} {v : Value} {pc n pc' : Nat} {ls ls' : zi_L} {st st' : List Value} {w w' : zi_W} {cn cn' sn sn' : Nat} (h : zi_sto1 i v pc n ls st w cn sn = some (pc', ls', st', w', cn', sn')) :
    zi_set1 ls i v = some ls' ∧ pc' = pc + n ∧ st' = st ∧ w' = w ∧ cn' = cn ∧ sn' = sn := by
  unfold zi_sto1 at h
  split at h
  · cases h; exact ⟨by assumption, rfl, rfl, rfl, rfl, rfl⟩
  · cases h
theorem zs_sto2 {i : Nat} {v : Value} {pc n pc' : Nat} {ls ls' : zi_L} {st st' : List Value} {w w' : zi_W} {cn cn' sn sn' : Nat} (h : zi_sto2 i v pc n ls st w cn sn = some (pc', ls', st', w', cn', sn')) :
    zi_set2 ls i v = some ls' ∧ pc' = pc + n ∧ st' = st ∧ w' = w ∧ cn' = cn ∧ sn' = sn := by
  unfold zi_sto2 at h
  split at h
  · cases h; exact ⟨by assumption, rfl, rfl, rfl, rfl, rfl⟩
  · cases h
theorem zs_set1_lt {ls ls' : zi_L} {i : Nat} {v : Value} (h : zi_set1 ls i v = some ls') : i < ls.length := by
  unfold zi_set1 at h
  split at h
  · rename_i hc; exact hc.1
  · cases h
theorem zs_set2_lt {ls ls' : zi_L} {i : Nat} {v : Value} (h : zi_set2 ls i v = some ls') : i + 1 < ls.length := by
  unfold zi_set2 at h
  split at h
  · rename_i hc; exact hc.1
  · cases h
theorem zs_lcl {pc pc' : Nat} {i : Jvm.ClassFile.Instr} {ls ls' : zi_L} {st st' : List Value} {w w' : zi_W} {cn cn' sn sn' : Nat} (hx : p.tables.exec = Jvm.exec) (hb : c.code = cc) (hdg : decode cc pc = .ok (i, zi_len i))
    (h : zi_lcl pc (zi_len i) i ls st w cn sn = some (pc', ls', st', w', cn', sn')) : w' = w ∧ cn' = cn ∧ sn' = sn ∧ ∀ LS : Array Slot, zi_ls h0 b LS ls → (∀ LS' : Array Slot, zi_ls h0 b LS' ls' → W p l e R s m args below meth c H locs cells slots Q (F0 m pc' LS' (st'.map (zi_v h0 b)))) → W p l e R s m args below meth c H locs cells slots Q (F0 m pc LS (st.map (zi_v h0 b))) := by
  unfold zi_lcl at h
  split at h
  · obtain ⟨v, hv, rfl, rfl, rfl, rfl, rfl, rfl⟩ := zs_push1 h
    obtain ⟨x, rfl, hq⟩ := zs_isI hv
    exact ⟨rfl, rfl, rfl, fun LS hl k => lv_iload hx hb hdg (hl.2.2 _ _ hq) (k LS hl)⟩
  · obtain ⟨v, hv, rfl, rfl, rfl, rfl, rfl, rfl⟩ := zs_push1 h
    obtain ⟨x, rfl, hq⟩ := zs_isI hv
    exact ⟨rfl, rfl, rfl, fun LS hl k => lv_iload_n hx hb hdg rfl (hl.2.2 _ _ hq) (k LS hl)⟩
  · obtain ⟨v, hv, rfl, rfl, rfl, rfl, rfl, rfl⟩ := zs_push1 h
    obtain ⟨x, rfl, hq⟩ := zs_isL hv
    exact ⟨rfl, rfl, rfl, fun LS hl k => lv_lload hx hb hdg (hl.2.2 _ _ hq) (k LS hl)⟩
  · obtain ⟨v, hv, rfl, rfl, rfl, rfl, rfl, rfl⟩ := zs_push1 h
    obtain ⟨x, rfl, hq⟩ := zs_isL hv
    exact ⟨rfl, rfl, rfl, fun LS hl k => lv_lload_n hx hb hdg rfl (hl.2.2 _ _ hq) (k LS hl)⟩
  · obtain ⟨v, hv, rfl, rfl, rfl, rfl, rfl, rfl⟩ := zs_push1 h
    obtain ⟨x, rfl, hq⟩ := zs_isR hv
    exact ⟨rfl, rfl, rfl, fun LS hl k => lv_aload hx hb hdg (hl.2.2 _ _ hq) (k LS hl)⟩
  · obtain ⟨v, hv, rfl, rfl, rfl, rfl, rfl, rfl⟩ := zs_push1 h
    obtain ⟨x, rfl, hq⟩ := zs_isR hv
    exact ⟨rfl, rfl, rfl, fun LS hl k => lv_aload_n hx hb hdg rfl (hl.2.2 _ _ hq) (k LS hl)⟩
  · obtain ⟨hs, rfl, rfl, rfl, rfl, rfl⟩ := zs_sto1 h
    exact ⟨rfl, rfl, rfl, fun LS hl k => lv_istore hx hb hdg (zi_ls_has hl) (zs_set1_lt hs) rfl fun LS' hl' => k LS' (zi_ls_st1 hs hl')⟩
  · obtain ⟨hs, rfl, rfl, rfl, rfl, rfl⟩ := zs_sto1 h
    exact ⟨rfl, rfl, rfl, fun LS hl k => lv_istore_n hx hb hdg rfl (zi_ls_has hl) (zs_set1_lt hs) rfl fun LS' hl' => k LS' (zi_ls_st1 hs hl')⟩
  · obtain ⟨hs, rfl, rfl, rfl, rfl, rfl⟩ := zs_sto1 h
    exact ⟨rfl, rfl, rfl, fun LS hl k => lv_astore hx hb hdg (zi_ls_has hl) (zs_set1_lt hs) rfl fun LS' hl' => k LS' (zi_ls_st1 hs hl')⟩
  · obtain ⟨hs, rfl, rfl, rfl, rfl, rfl⟩ := zs_sto1 h
    exact ⟨rfl, rfl, rfl, fun LS hl k => lv_astore_n hx hb hdg rfl (zi_ls_has hl) (zs_set1_lt hs) rfl fun LS' hl' => k LS' (zi_ls_st1 hs hl')⟩
  · obtain ⟨hs, rfl, rfl, rfl, rfl, rfl⟩ := zs_sto2 h
    exact ⟨rfl, rfl, rfl, fun LS hl k => lv_lstore hx hb hdg (zi_ls_has hl) (zs_set2_lt hs) rfl fun LS' hl' => k LS' (zi_ls_st2 hs hl')⟩
  · obtain ⟨hs, rfl, rfl, rfl, rfl, rfl⟩ := zs_sto2 h
    exact ⟨rfl, rfl, rfl, fun LS hl k => lv_lstore_n hx hb hdg rfl (zi_ls_has hl) (zs_set2_lt hs) rfl fun LS' hl' => k LS' (zi_ls_st2 hs hl')⟩
  · split at h
    · rename_i x hq
      obtain ⟨hs, rfl, rfl, rfl, rfl, rfl⟩ := zs_sto1 h
      refine ⟨rfl, rfl, rfl, fun LS hl k => ?_⟩
      obtain ⟨kk, hk⟩ := List.getElem?_of_mem (zi_al_mem (h0 := h0) (b := b) |>.mpr ⟨_, hq, rfl⟩)
      exact lv_iinc hx hb hdg (zi_ls_has hl) hk rfl (zs_set1_lt hs) rfl fun LS' hl' => k LS' (zi_ls_st1 hs hl')
    · cases h
  · cases h
end ZS
end
section
/-! What the interpreter answers, the machine does: cells and members that are steps by themselves. -/
/-- the facts that are asked of a pool entry; TS: words of the tables; NW: words on nest mates -/
def zi_lnk (TS NW : List Cond) (own : String) (x : Nat) (q : String × String × String × Bool) : Prop :=
  Cond.fieldLink own x q.1 q.2.1 q.2.2.1 ∈ TS ∨ ∃ host : String, Cond.fieldLinkNest own x q.1 q.2.1 q.2.2.1 host ∈ NW
def zi_cls (P : zi_P) (cl : List vw_C) (TS : List Cond) (c : Nat) (q : vw_C) : Prop :=
  cl[c]? = some q ∧ (∀ w ∈ u_ws q.1 q.2.1 q.2.2, w ∈ TS) ∧ (∀ j, j < q.2.2 → parseFieldDescriptor (q.2.1 j).2.2.1 = some (zi_fty P c j)) ∧ (∀ a, a < q.2.2 → ∀ b, b < q.2.2 → a ≠ b → (q.2.1 a).2.1 ≠ (q.2.1 b).2.1)
def zi_fld (P : zi_P) (cl : List vw_C) (TS NW : List Cond) (own : String) (x c f : Nat) (fin : Bool) : Prop :=
  ∃ q : vw_C, zi_cls P cl TS c q ∧ f < q.2.2 ∧ (q.2.1 f).2.2.2 = fin ∧ zi_lnk TS NW own x (q.2.1 f)
def zi_noR : Value → Bool
  | .ref _ => false
  | _ => true
def zi_tok (P : zi_P) (cl : List vw_C) (TS NW : List Cond) (CL : String) (k x : Nat) (t : zi_T) : Prop :=
  (t.1 = 0 → zi_fld P cl TS NW (zi_y P k).cls x t.2.1 t.2.2.1 false) ∧
  (t.1 = 9 → zi_fld P cl TS NW (zi_y P k).cls x t.2.1 t.2.2.1 true) ∧
  (t.1 = 8 → (zi_y P k).name = "<init>" ∧ ∃ q : vw_C, zi_cls P cl TS t.2.1 q ∧ t.2.2.1 < q.2.2 ∧ (q.2.1 t.2.2.1).2.2.2 = true ∧ (q.2.1 t.2.2.1).1 = (zi_y P k).cls ∧ Cond.fieldLink (zi_y P k).cls x (q.2.1 t.2.2.1).1 (q.2.1 t.2.2.1).2.1 (q.2.1 t.2.2.1).2.2.1 ∈ TS) ∧
  (t.1 = 4 → ∃ q : vw_C, zi_cls P cl TS t.2.1 q ∧ t.2.2.1 = q.2.2 ∧ Cond.classLink (zi_y P k).cls x q.1 ∈ TS ∧ Cond.instantiable q.1 q.2.2 ∈ TS ∧ Cond.initialized q.1 ∈ TS ∧ (∀ j, j < q.2.2 → defaultValue (zi_fty P t.2.1 j) = vp_V (zi_fs0 P t.2.1) j) ∧ (zi_fs0 P t.2.1).all zi_noR = true) ∧
  (t.1 = 5 → Cond.classLink (zi_y P k).cls x CL ∈ TS) ∧
  (t.1 = 6 → (∀ v, t.2.2.2 = .int v → Cond.constant (zi_y P k).cls x v ∈ TS) ∧ (∀ v, t.2.2.2 = .long v → Cond.constantLong (zi_y P k).cls x v ∈ TS)) ∧
  (t.1 = 7 → t.2.1 = 0 → Cond.methodLink (zi_y P k).cls x Lib.objectInit ∈ TS ∧ Cond.instanceMethod Lib.objectInit ∈ TS ∧ Cond.code Lib.objectInit ⟨#[0xb1]⟩ 1 none ∈ TS) ∧
  (t.1 = 7 → t.2.1 = 1 → Cond.methodLink (zi_y P k).cls x Lib.Math.min.name ∈ TS ∧ Cond.static Lib.Math.min.name ∈ TS ∧ Cond.initialized "java/lang/Math" ∈ TS ∧ Cond.code Lib.Math.min.name Lib.Math.min.code 2 (some .int) ∈ TS) ∧
  (t.1 = 7 → t.2.1 = 2 → Cond.methodLink (zi_y P k).cls x arraycopyName ∈ TS ∧ Cond.native arraycopyName ∈ TS ∧ Cond.static arraycopyName ∈ TS ∧ Cond.initialized "java/lang/System" ∈ TS)
def zi_tys (cA : Nat → ClassId) (CL : String) : List (ClassId × FieldType) := [(cA 0, .int), (cA 1, .boolean), (cA 2, .long), (cA 3, .object CL)]
theorem zi_map_noR {h0 b : Nat} {fs : List Value} (h : fs.all zi_noR = true) : fs.map (zi_v h0 b) = fs := by
  induction fs with
  | nil => rfl
  | cons v t ih =>
    simp only [List.all_cons, Bool.and_eq_true] at h
    rw [List.map_cons, ih h.2]
    congr 1
    cases v <;> first | rfl | (simp [zi_noR] at h)
theorem zi_fit_v {h0 b : Nat} {ty : FieldType} {v : Value} (h : zi_fit ty v = true) : narrow ty (zi_v h0 b v) = zi_v h0 b v ∧ fits ty (zi_v h0 b v) = true := by
  unfold zi_fit at h
  split at h
  · exact ⟨rfl, rfl⟩
  · rename_i x
    simp only [Bool.or_eq_true, beq_iff_eq] at h
    rcases h with rfl | rfl
    · exact ⟨show narrow .boolean (.int 0) = .int 0 by decide +kernel, show fits .boolean (.int 0) = true by decide +kernel⟩
    · exact ⟨show narrow .boolean (.int 1) = .int 1 by decide +kernel, show fits .boolean (.int 1) = true by decide +kernel⟩
  · exact ⟨rfl, rfl⟩
  · exact ⟨rfl, rfl⟩
  · cases h
theorem zi_map_set {h0 b : Nat} {fs : List Value} {f : Nat} {v : Value} : (fs.map (zi_v h0 b)).set f (zi_v h0 b v) = (fs.set f v).map (zi_v h0 b) := (List.map_set).symm
theorem zi_up_map {h0 b : Nat} {f : Nat → Option Nat} {i v : Nat} (hv : v ≠ zi_X) : va_up (fun j => (f j).map (zi_ad h0 b)) i (some (h0 + v)) = fun j => (va_up f i (some v) j).map (zi_ad h0 b) := by
  funext j
  unfold va_up
  by_cases h : j = i
  · rw [if_pos h, if_pos h, Option.map_some, zi_ad_at hv]
  · rw [if_neg h, if_neg h]
theorem zi_nar_b {x : Int32} (h : x = 0 ∨ x = 1) : vp_nar .boolean x = x := by
  rcases h with rfl | rfl <;> decide +kernel
section ZC
variable {p : Program} {l : Launch} {e : Env} {R : Room} {s : State} {m : MethodId} {args : Array Value} {below : List Frame} {meth : Method} {c : Code} {H : Heap} {locs : List Loc} {Q : State → Prop} {cc : ByteArray} {h0 b : Nat}
variable {P : zi_P} {cl : List vw_C} {TS NW : List Cond} {CL : String} {D : va_G} {cA : Nat → ClassId} {lw L k pc pc' : Nat} {xs : Nat → Int32} {i : Jvm.ClassFile.Instr} {ls ls' : zi_L} {st st' : List Value} {w w' : zi_W} {cn cn' sn sn' c0 s0 : Nat}
/-- what holds all through a method's run -/
def zi_Cx (P : zi_P) (cl : List vw_C) (TS NW : List Cond) (CL : String) (D : va_G) (cA : Nat → ClassId) (lw L : Nat) (xs : Nat → Int32) (h0 b c0 d rq k : Nat) (p : Program) (R : Room) (s : State) (m : MethodId) (args : Array Value) (meth : Method) (c : Code) : Prop :=
  p.tables.exec = Jvm.exec ∧ c.code = zi_b P k ∧ c.maxLocals = zi_n P k ∧ meth.sig.returnType = zi_r P k ∧ meth.locks = false ∧ s.vm.findClass (zi_y P k).cls = some m.cls ∧ (∀ w ∈ TS, w.before args s = true) ∧ (∀ w ∈ NW, va_Nw w s) ∧ va_K D cl (zi_tys cA CL) s ∧ va_AO CL s ∧
  ((zi_y P k).name = "<init>" → meth.name = "<init>") ∧ h0 ≤ s.heap.size ∧ s.heap.size ≤ h0 + c0 ∧ d ≤ R.frames ∧ rq ≤ R.locals ∧ (k = lw → va_X b L xs s s.heap ∧ b < s.heap.size ∧ b < h0)
/-- the heap holds the world -/
def zi_Hp (cl : List vw_C) (D : va_G) (cA : Nat → ClassId) (h0 b : Nat) (s : State) (w : zi_W) (H : Heap) (locs : List Loc) : Prop :=
  va_P D cl (zi_w cA h0 b w) H ∧ va_D (fun q => h0 ≤ q) (zi_w cA h0 b w) ∧ va_S (fun q => h0 ≤ q) s.heap H locs
theorem zi_bound {cells slots : Nat} {g : JFrame} (k : H.size ≤ s.heap.size + cells → W p l e R s m args below meth c H locs cells slots Q g) : W p l e R s m args below meth c H locs cells slots Q g := by
  intro T hT X
  have h := X.heapSize
  rw [hT] at h
  exact k h T hT X
/-- a new cell's address -/
theorem zi_fresh {A : Nat → Prop} {q : Nat} {x : va_E} {H1 : Heap} {n : Nat} (hA : ∀ z, A z → h0 ≤ z) (hn : n = w.length) (hP : va_P D cl (zi_w cA h0 b w ++ [(q, x)]) H1) (hD : va_D A (zi_w cA h0 b w ++ [(q, x)])) (hz : H1.size ≤ h0 + n + 1) : q = h0 + w.length := by
  have hl : (zi_w cA h0 b w).length = w.length := by unfold zi_w; rw [List.length_mapIdx]
  have hq : (zi_w cA h0 b w ++ [(q, x)])[w.length]? = some (q, x) := by
    rw [← hl, List.getElem?_append_right (Nat.le_refl _), Nat.sub_self]; rfl
  have h1 : q < H1.size := (hP _ _ hq).lt
  have h2 : h0 ≤ q := hA q (hD.2 _ _ hq)
  refine Nat.le_antisymm (by omega) (Nat.not_lt.mp fun h => ?_)
  have h3 : q - h0 < w.length := by omega
  have h4 : (zi_w cA h0 b w ++ [(q, x)])[q - h0]? = some (h0 + (q - h0), zi_e cA h0 b w[q - h0]) := by
    rw [List.getElem?_append_left (by rw [hl]; exact h3)]
    exact zi_w_get (List.getElem?_eq_getElem h3)
  have h5 := hD.1 _ _ _ _ h4 hq (by show h0 + (q - h0) = q; omega)
  omega
theorem zs_getf {cells slots x f a cj : Nat} {fin : Bool} {fs rest : List Value} {v : Value} {LS : Array Slot} {own : String} (hx : p.tables.exec = Jvm.exec) (hb : c.code = cc) (hown : s.vm.findClass own = some m.cls) (hts : ∀ w ∈ TS, w.before args s = true) (hnw : ∀ w ∈ NW, va_Nw w s) (hNW : ∀ w ∈ NW, w.onTables = true) (hK : va_K D cl (zi_tys cA CL) s)
    (hP : va_P D cl (zi_w cA h0 b w) H) (hf : zi_fld P cl TS NW own x cj f fin) (hg : zi_get w a = some (.inr (cj, fs))) (hv : fs[f]? = some v) (hdg : decode cc pc = .ok (.getfield x, 3))
    (kk : W p l e R s m args below meth c H locs cells slots Q (F0 m (pc + 3) LS (zi_v h0 b v :: rest))) : W p l e R s m args below meth c H locs cells slots Q (F0 m pc LS (.ref (zi_ad h0 b a) :: rest)) := by
  obtain ⟨ha, hne⟩ := zi_get_at hg
  obtain ⟨⟨C, T, N⟩, ⟨hc, hws, hty, hnm⟩, hlt, -, hl⟩ := hf
  rw [zi_ad_at hne]
  have he : (zi_w cA h0 b w)[a]? = some (h0 + a, .inr (cj, fs.map (zi_v h0 b))) := zi_w_get ha
  have hv' : (fs.map (zi_v h0 b))[f]? = some (zi_v h0 b v) := by rw [List.getElem?_map, hv]; rfl
  rcases hl with hl | ⟨host, hl⟩
  · exact va_get hx hb hts hws hown hK hP a he hc f hlt (hts _ hl) (fun _ h => h) hv' hdg kk
  · exact va_getN hx hb hts hws hown hK hP a he hc f hlt (va_Nw.use (hNW _ hl) (hnw _ hl)) (fun _ h => h) hv' hdg kk
theorem zs_putf {cells slots x f a cj : Nat} {fs rest : List Value} {v : Value} {LS : Array Slot} {own : String} (hx : p.tables.exec = Jvm.exec) (hb : c.code = cc) (hown : s.vm.findClass own = some m.cls) (hts : ∀ w ∈ TS, w.before args s = true) (hnw : ∀ w ∈ NW, va_Nw w s) (hNW : ∀ w ∈ NW, w.onTables = true) (hK : va_K D cl (zi_tys cA CL) s)
    (hH : zi_Hp cl D cA h0 b s w H locs) (hf : zi_fld P cl TS NW own x cj f false) (hg : zi_get w a = some (.inr (cj, fs))) (hl : f < fs.length) (hfit : zi_fit (zi_fty P cj f) v = true) (hdg : decode cc pc = .ok (.putfield x, 3))
    (kk : ∀ (H' : Heap) (locs' : List Loc), zi_Hp cl D cA h0 b s (w.set a (.inr (cj, fs.set f v))) H' locs' → W p l e R s m args below meth c H' locs' cells slots Q (F0 m (pc + 3) LS rest)) : W p l e R s m args below meth c H locs cells slots Q (F0 m pc LS (zi_v h0 b v :: .ref (zi_ad h0 b a) :: rest)) := by
  obtain ⟨hP, hD, hS⟩ := hH
  obtain ⟨ha, hne⟩ := zi_get_at hg
  obtain ⟨⟨C, T, N⟩, ⟨hc, hws, hty, hnm⟩, hlt, hfin, hlk⟩ := hf
  rw [zi_ad_at hne]
  have he : (zi_w cA h0 b w)[a]? = some (h0 + a, .inr (cj, fs.map (zi_v h0 b))) := zi_w_get ha
  have e9 : (zi_w cA h0 b w).set a (h0 + a, .inr (cj, (fs.map (zi_v h0 b)).set f (zi_v h0 b v))) = zi_w cA h0 b (w.set a (.inr (cj, fs.set f v))) := by
    rw [zi_map_set]; exact zi_w_set (c := .inr (cj, fs.set f v))
  have hl' : f < (fs.map (zi_v h0 b)).length := by rw [List.length_map]; exact hl
  rcases hlk with hlk | ⟨host, hlk⟩
  · exact va_put hx hb hts hws (zi_fty P cj) hty hnm hown hK hP hD hS a he hc f hlt (hts _ hlk) (fun _ h => h) hfin (hty f hlt) (zi_fit_v hfit).1 (zi_fit_v hfit).2 hl' hdg (fun H1 l1 a1 a2 a3 => kk H1 l1 ⟨by rw [← e9]; exact a1, by rw [← e9]; exact a2, a3⟩)
  · exact va_putN hx hb hts hws (zi_fty P cj) hty hnm hown hK hP hD hS a he hc f hlt (va_Nw.use (hNW _ hlk) (hnw _ hlk)) (fun _ h => h) hfin (hty f hlt) (zi_fit_v hfit).1 (zi_fit_v hfit).2 hl' hdg (fun H1 l1 a1 a2 a3 => kk H1 l1 ⟨by rw [← e9]; exact a1, by rw [← e9]; exact a2, a3⟩)
theorem zs_putF {cells slots x f a cj : Nat} {fs rest : List Value} {v : Value} {LS : Array Slot} {own : String} {q : vw_C} (hx : p.tables.exec = Jvm.exec) (hb : c.code = cc) (hown : s.vm.findClass own = some m.cls) (hts : ∀ w ∈ TS, w.before args s = true) (hK : va_K D cl (zi_tys cA CL) s) (hin : meth.name = "<init>")
    (hH : zi_Hp cl D cA h0 b s w H locs) (hf : zi_cls P cl TS cj q ∧ f < q.2.2 ∧ (q.2.1 f).2.2.2 = true ∧ (q.2.1 f).1 = own ∧ Cond.fieldLink own x (q.2.1 f).1 (q.2.1 f).2.1 (q.2.1 f).2.2.1 ∈ TS) (hg : zi_get w a = some (.inr (cj, fs))) (hl : f < fs.length) (hfit : zi_fit (zi_fty P cj f) v = true) (hdg : decode cc pc = .ok (.putfield x, 3))
    (kk : ∀ (H' : Heap) (locs' : List Loc), zi_Hp cl D cA h0 b s (w.set a (.inr (cj, fs.set f v))) H' locs' → W p l e R s m args below meth c H' locs' cells slots Q (F0 m (pc + 3) LS rest)) : W p l e R s m args below meth c H locs cells slots Q (F0 m pc LS (zi_v h0 b v :: .ref (zi_ad h0 b a) :: rest)) := by
  obtain ⟨hP, hD, hS⟩ := hH
  obtain ⟨ha, hne⟩ := zi_get_at hg
  obtain ⟨C, T, N⟩ := q
  obtain ⟨⟨hc, hws, hty, hnm⟩, hlt, hfin, hde, hlk⟩ := hf
  rw [zi_ad_at hne]
  have he : (zi_w cA h0 b w)[a]? = some (h0 + a, .inr (cj, fs.map (zi_v h0 b))) := zi_w_get ha
  have e9 : (zi_w cA h0 b w).set a (h0 + a, .inr (cj, (fs.map (zi_v h0 b)).set f (zi_v h0 b v))) = zi_w cA h0 b (w.set a (.inr (cj, fs.set f v))) := by
    rw [zi_map_set]; exact zi_w_set (c := .inr (cj, fs.set f v))
  have hl' : f < (fs.map (zi_v h0 b)).length := by rw [List.length_map]; exact hl
  exact va_putF hx hb hts hws (zi_fty P cj) hty hnm hown hK hP hD hS a he hc f hlt (hts _ hlk) (fun _ h => h) hfin hin hde (hty f hlt) (zi_fit_v hfit).1 (zi_fit_v hfit).2 hl' hdg (fun H1 l1 a1 a2 a3 => kk H1 l1 ⟨by rw [← e9]; exact a1, by rw [← e9]; exact a2, a3⟩)
/-- the class of an array is the known one of its kind -/
theorem zs_kind {ty : FieldType} {t : Nat} {cB cX : ClassId} (hK : va_K D cl (zi_tys cA CL) s) (hK2 : va_K D cl (zi_tys cA CL ++ [(cB, ty)]) s) (ht : (zi_tys cA CL)[t]? = some (cX, ty)) : cB = cX := by
  have h1 := (hK.2 t _ ht).2
  have h2 := (hK2.2 4 (cB, ty) rfl).2
  unfold va_RA at h1 h2
  cases ty with
  | object C =>
    obtain ⟨-, -, -, -, -, a4⟩ := h1
    obtain ⟨-, -, -, -, -, b4⟩ := h2
    exact Option.some.inj (b4.symm.trans a4)
  | _ => exact Option.some.inj (h2.symm.trans h1)
theorem zs_newa {mm : Int32} {t : Nat} {ty : FieldType} {atype : ArrayType} {rest : List Value} {LS : Array Slot} {a0 : (Nat → Int32) ⊕ (Nat → Int64) ⊕ (Nat → UInt32) ⊕ (Nat → UInt64) ⊕ (Nat → Option Nat)} (hx : p.tables.exec = Jvm.exec) (hb : c.code = cc) (harr : (Cond.arrayClass (newarray.typeOf atype)).before args s = true) (hty : newarray.typeOf atype = ty) (ht : (zi_tys cA CL)[t]? = some (cA t, ty)) (hK : va_K D cl (zi_tys cA CL) s)
    (ha : ∀ (cB : ClassId) (N : Nat), vp_cell cB (N, a0) = arrV cB N (fun _ => defaultValue ty)) (hza : ∀ (h0 N : Nat), zi_a h0 b (N, a0) = (N, a0)) (hH : zi_Hp cl D cA h0 b s w H locs) (hz1 : h0 ≤ s.heap.size) (hz2 : s.heap.size ≤ h0 + c0) (hc : cn = w.length ∧ w.length < zi_X ∧ ¬ mm < 0 ∧ mm.toNatClampNeg ≤ 65536) (hc0 : c0 ≤ cn) (hs0 : s0 ≤ sn) (hR1 : cn + 1 ≤ c0 + R.cells) (hR2 : sn + mm.toNatClampNeg ≤ s0 + R.slots) (hbt : componentBytes ty ≤ 8) (hdg : decode cc pc = .ok (.newarray atype, 2))
    (kk : ∀ (H' : Heap) (locs' : List Loc), zi_Hp cl D cA h0 b s (w ++ [.inl (t, mm.toNatClampNeg, a0)]) H' locs' → W p l e R s m args below meth c H' locs' (cn + 1 - c0) (sn + mm.toNatClampNeg - s0) Q (F0 m (pc + 2) LS (zi_v h0 b (.ref w.length) :: rest))) : W p l e R s m args below meth c H locs (cn - c0) (sn - s0) Q (F0 m pc LS (.int mm :: rest)) := by
  obtain ⟨hP, hD, hS⟩ := hH
  generalize hN : mm.toNatClampNeg = N at hc hR2 kk
  have hmul : N * componentBytes ty ≤ 65536 * 8 := Nat.mul_le_mul hc.2.2.2 hbt
  refine va_newa hx hb harr hty hK hP hD hS (fun q hq => Nat.le_trans hz1 hq) (a0 := (N, a0)) (fun cB => ha cB N) hc.2.2.1 hN (by omega) (by omega) (by omega) hdg (fun q cB H1 b0 b1 b2 b3 => zi_bound fun hsz => ?_)
  have hcB : cB = cA t := zs_kind (t := t) hK b0 ht
  subst hcB
  have hq : q = h0 + w.length := zi_fresh (fun _ hz => hz) hc.1 b1 b2 (by omega)
  subst hq
  have e9 : zi_w cA h0 b (w ++ [.inl (t, N, a0)]) = zi_w cA h0 b w ++ [(h0 + w.length, .inl (cA t, N, a0))] := by
    rw [zi_w_app]; show _ ++ [(_, Sum.inl (cA t, zi_a h0 b (N, a0)))] = _; rw [hza]
  have k2 := kk H1 locs ⟨by rw [e9]; exact b1, by rw [e9]; exact b2, b3⟩
  rw [show cn + 1 - c0 = cn - c0 + 1 by omega, show sn + N - s0 = sn - s0 + N by omega] at k2
  have e3 : zi_v h0 b (.ref w.length) = .ref (h0 + w.length) := by show Value.ref (zi_ad h0 b w.length) = _; rw [zi_ad_at (by omega)]
  rw [e3] at k2
  exact k2
set_option maxHeartbeats 4000000 in
theorem zs_cel {d rq : Nat} (hC : zi_Cx P cl TS NW CL D cA lw L xs h0 b c0 d rq k p R s m args meth c) (hpool : ∀ x t, zi_pool P k x = some t → zi_tok P cl TS NW CL k x t) (hCL : ∃ q : vw_C, cl[2]? = some q ∧ q.1 = CL) (harr : Cond.arrayClass .int ∈ TS ∧ Cond.arrayClass .boolean ∈ TS ∧ Cond.arrayClass .long ∈ TS)
    (hNW : ∀ w ∈ NW, w.onTables = true) (hH : zi_Hp cl D cA h0 b s w H locs) (hc0 : c0 ≤ cn) (hs0 : s0 ≤ sn) (hdg : decode (zi_b P k) pc = .ok (i, zi_len i))
    (h : zi_cel P lw L xs k pc (zi_len i) i ls st w cn sn = some (pc', ls', st', w', cn', sn')) : ls' = ls ∧ cn ≤ cn' ∧ sn ≤ sn' ∧ (cn' ≤ c0 + R.cells → sn' ≤ s0 + R.slots → ∀ LS : Array Slot,
      (∀ (H' : Heap) (locs' : List Loc), zi_Hp cl D cA h0 b s w' H' locs' → W p l e R s m args below meth c H' locs' (cn' - c0) (sn' - s0) Q (F0 m pc' LS (st'.map (zi_v h0 b)))) → W p l e R s m args below meth c H locs (cn - c0) (sn - s0) Q (F0 m pc LS (st.map (zi_v h0 b)))) := by
  obtain ⟨hx, hb, hml, hr, hlk, hown, hts, hnw, hK, hAO, hin, hz1, hz2, hRf, hRl, hX⟩ := hC
  obtain ⟨hP, hD, hS⟩ := hH
  unfold zi_cel at h
  split at h
  · -- ldc
    split at h
    · rename_i v hp
      cases h
      exact ⟨rfl, Nat.le_refl _, Nat.le_refl _, fun _ _ LS kk => lv_ldc hx hb hown (hts _ ((hpool _ _ hp).2.2.2.2.2.1 rfl |>.1 _ rfl)) hdg (kk H locs ⟨hP, hD, hS⟩)⟩
    · cases h
  · -- ldc2_w
    split at h
    · rename_i v hp
      cases h
      exact ⟨rfl, Nat.le_refl _, Nat.le_refl _, fun _ _ LS kk => lv_ldc2 hx hb hown (hts _ ((hpool _ _ hp).2.2.2.2.2.1 rfl |>.2 _ rfl)) hdg (kk H locs ⟨hP, hD, hS⟩)⟩
    · cases h
  · -- getfield
    split at h
    · rename_i cj f _ c' fs hp hg
      split at h
      · rename_i hcc
        subst hcc
        obtain ⟨v, hv, rfl, rfl, rfl, rfl, rfl, rfl⟩ := zs_push1 h
        exact ⟨rfl, Nat.le_refl _, Nat.le_refl _, fun _ _ LS kk => zs_getf hx hb hown hts hnw hNW hK hP ((hpool _ _ hp).1 rfl) hg hv hdg (kk H locs ⟨hP, hD, hS⟩)⟩
      · cases h
    · rename_i cj f _ c' fs hp hg
      split at h
      · rename_i hcc
        subst hcc
        obtain ⟨v, hv, rfl, rfl, rfl, rfl, rfl, rfl⟩ := zs_push1 h
        obtain ⟨-, q, a1, a2, a3, a4, a5⟩ := (hpool _ _ hp).2.2.1 rfl
        exact ⟨rfl, Nat.le_refl _, Nat.le_refl _, fun _ _ LS kk => zs_getf hx hb hown hts hnw hNW hK hP ⟨q, a1, a2, a3, Or.inl a5⟩ hg hv hdg (kk H locs ⟨hP, hD, hS⟩)⟩
      · cases h
    · rename_i cj f _ c' fs hp hg
      split at h
      · rename_i hcc
        subst hcc
        obtain ⟨v, hv, rfl, rfl, rfl, rfl, rfl, rfl⟩ := zs_push1 h
        exact ⟨rfl, Nat.le_refl _, Nat.le_refl _, fun _ _ LS kk => zs_getf hx hb hown hts hnw hNW hK hP ((hpool _ _ hp).2.1 rfl) hg hv hdg (kk H locs ⟨hP, hD, hS⟩)⟩
      · cases h
    · cases h
  · -- putfield
    split at h
    · rename_i cj f _ c' fs hp hg
      split at h
      · rename_i hcc
        obtain ⟨hcc, hl, hfit⟩ := hcc
        subst hcc
        cases h
        exact ⟨rfl, Nat.le_refl _, Nat.le_refl _, fun _ _ LS kk => zs_putf hx hb hown hts hnw hNW hK ⟨hP, hD, hS⟩ ((hpool _ _ hp).1 rfl) hg hl hfit hdg kk⟩
      · cases h
    · rename_i cj f _ c' fs hp hg
      split at h
      · rename_i hcc
        obtain ⟨hcc, hl, hfit⟩ := hcc
        subst hcc
        cases h
        obtain ⟨hn, q, hq⟩ := (hpool _ _ hp).2.2.1 rfl
        exact ⟨rfl, Nat.le_refl _, Nat.le_refl _, fun _ _ LS kk => zs_putF hx hb hown hts hK (hin hn) ⟨hP, hD, hS⟩ hq hg hl hfit hdg kk⟩
      · cases h
    · cases h
  · -- iaload
    split at h
    · rename_i hax
      subst hax
      split at h
      · rename_i hc
        cases h
        obtain ⟨x1, x2, x3⟩ := hX hc.1
        exact ⟨rfl, Nat.le_refl _, Nat.le_refl _, fun _ _ LS kk => va_sld hx hb x1 x2 (Nat.not_le.mpr x3) hS hc.2 hdg (kk H locs ⟨hP, hD, hS⟩)⟩
      · cases h
    · split at h
      · rename_i m1 f hg
        obtain ⟨ha, hne⟩ := zi_get_at hg
        split at h
        · rename_i hin2
          cases h
          refine ⟨rfl, Nat.le_refl _, Nat.le_refl _, fun _ _ LS kk => ?_⟩
          rw [List.map_cons, List.map_cons]
          show W p l e R s m args below meth c H locs _ _ Q (F0 m pc LS (.int _ :: .ref (zi_ad h0 b _) :: _))
          rw [zi_ad_at hne]
          exact va_iald hx hb hK hP _ 0 (zi_w_get ha) rfl hin2 hdg (kk H locs ⟨hP, hD, hS⟩)
        · cases h
      · cases h
  · -- baload
    split at h
    · rename_i m1 f hg
      obtain ⟨ha, hne⟩ := zi_get_at hg
      split at h
      · rename_i hin2
        cases h
        refine ⟨rfl, Nat.le_refl _, Nat.le_refl _, fun _ _ LS kk => ?_⟩
        show W p l e R s m args below meth c H locs _ _ Q (F0 m pc LS (.int _ :: .ref (zi_ad h0 b _) :: _))
        rw [zi_ad_at hne]
        exact va_zald hx hb hK hP _ 1 (zi_w_get ha) rfl hin2 hdg (kk H locs ⟨hP, hD, hS⟩)
      · cases h
    · cases h
  · -- laload
    split at h
    · rename_i m1 f hg
      obtain ⟨ha, hne⟩ := zi_get_at hg
      split at h
      · rename_i hin2
        cases h
        refine ⟨rfl, Nat.le_refl _, Nat.le_refl _, fun _ _ LS kk => ?_⟩
        show W p l e R s m args below meth c H locs _ _ Q (F0 m pc LS (.int _ :: .ref (zi_ad h0 b _) :: _))
        rw [zi_ad_at hne]
        exact va_lald hx hb hK hP _ 2 (zi_w_get ha) rfl hin2 hdg (kk H locs ⟨hP, hD, hS⟩)
      · cases h
    · cases h
  · -- aaload
    split at h
    · rename_i m1 f hg
      obtain ⟨ha, hne⟩ := zi_get_at hg
      split at h
      · rename_i hin2
        obtain ⟨v, hv, rfl, rfl, rfl, rfl, rfl, rfl⟩ := zs_push1 h
        refine ⟨rfl, Nat.le_refl _, Nat.le_refl _, fun _ _ LS kk => ?_⟩
        show W p l e R s m args below meth c H locs _ _ Q (F0 m pc LS (.int _ :: .ref (zi_ad h0 b _) :: _))
        rw [zi_ad_at hne]
        refine va_aldq hx hb hK hP _ 3 (zi_w_get ha) rfl hin2 hdg ?_
        rw [Option.map_eq_some_iff] at hv
        obtain ⟨z, hz, rfl⟩ := hv
        have e1 : ∀ y, f y = some z → va_rf ((f y).map (zi_ad h0 b)) = zi_v h0 b (.ref z) := fun y hy => by rw [hy]; rfl
        have k2 := kk H locs ⟨hP, hD, hS⟩
        rw [List.map_cons, ← e1 _ hz] at k2
        exact k2
      · cases h
    · cases h
  · -- iastore
    split at h
    · rename_i m1 f hg
      obtain ⟨ha, hne⟩ := zi_get_at hg
      split at h
      · rename_i hin2
        cases h
        refine ⟨rfl, Nat.le_refl _, Nat.le_refl _, fun _ _ LS kk => ?_⟩
        show W p l e R s m args below meth c H locs _ _ Q (F0 m pc LS (.int _ :: .int _ :: .ref (zi_ad h0 b _) :: _))
        rw [zi_ad_at hne]
        exact va_iast hx hb hK hP hD hS _ 0 (zi_w_get ha) rfl hin2 hdg (fun H1 l1 a1 a2 a3 => kk H1 l1 ⟨by rw [← zi_w_set]; exact a1, by rw [← zi_w_set]; exact a2, a3⟩)
      · cases h
    · cases h
  · -- bastore
    split at h
    · rename_i m1 f hg
      obtain ⟨ha, hne⟩ := zi_get_at hg
      split at h
      · rename_i hin2
        cases h
        refine ⟨rfl, Nat.le_refl _, Nat.le_refl _, fun _ _ LS kk => ?_⟩
        show W p l e R s m args below meth c H locs _ _ Q (F0 m pc LS (.int _ :: .int _ :: .ref (zi_ad h0 b _) :: _))
        rw [zi_ad_at hne]
        refine va_zast hx hb hK hP hD hS _ 1 (zi_w_get ha) rfl hin2.1 hdg ?_
        rw [zi_nar_b hin2.2]
        exact (fun H1 l1 a1 a2 a3 => kk H1 l1 ⟨by rw [← zi_w_set]; exact a1, by rw [← zi_w_set]; exact a2, a3⟩)
      · cases h
    · cases h
  · -- lastore
    split at h
    · rename_i m1 f hg
      obtain ⟨ha, hne⟩ := zi_get_at hg
      split at h
      · rename_i hin2
        cases h
        refine ⟨rfl, Nat.le_refl _, Nat.le_refl _, fun _ _ LS kk => ?_⟩
        show W p l e R s m args below meth c H locs _ _ Q (F0 m pc LS (.long _ :: .int _ :: .ref (zi_ad h0 b _) :: _))
        rw [zi_ad_at hne]
        exact va_last hx hb hK hP hD hS _ 2 (zi_w_get ha) rfl hin2 hdg (fun H1 l1 a1 a2 a3 => kk H1 l1 ⟨by rw [← zi_w_set]; exact a1, by rw [← zi_w_set]; exact a2, a3⟩)
      · cases h
    · cases h
  · -- aastore
    split at h
    · rename_i m1 f ci vs hg hgv
      obtain ⟨ha, hne⟩ := zi_get_at hg
      obtain ⟨hav, hnev⟩ := zi_get_at hgv
      split at h
      · rename_i hin2
        obtain ⟨hin2, rfl⟩ := hin2
        cases h
        refine ⟨rfl, Nat.le_refl _, Nat.le_refl _, fun _ _ LS kk => ?_⟩
        show W p l e R s m args below meth c H locs _ _ Q (F0 m pc LS (.ref (zi_ad h0 b _) :: .int _ :: .ref (zi_ad h0 b _) :: _))
        rw [zi_ad_at hne, zi_ad_at hnev]
        obtain ⟨q, hq, rfl⟩ := hCL
        refine va_astq hx hb hK hP hD hS _ 3 _ 2 (zi_w_get ha) rfl (zi_w_get hav) hq hin2 hdg ?_
        rw [zi_up_map hnev]
        exact (fun H1 l1 a1 a2 a3 => kk H1 l1 ⟨by rw [← zi_w_set]; exact a1, by rw [← zi_w_set]; exact a2, a3⟩)
      · cases h
    · cases h
  · -- arraylength
    split at h
    · rename_i hax
      subst hax
      split at h
      · rename_i hc
        cases h
        obtain ⟨x1, x2, x3⟩ := hX hc
        exact ⟨rfl, Nat.le_refl _, Nat.le_refl _, fun _ _ LS kk => va_slen hx hb x1 x2 (Nat.not_le.mpr x3) hS hdg (kk H locs ⟨hP, hD, hS⟩)⟩
      · cases h
    · split at h
      · rename_i m1 f hg
        obtain ⟨ha, hne⟩ := zi_get_at hg
        cases h
        refine ⟨rfl, Nat.le_refl _, Nat.le_refl _, fun _ _ LS kk => ?_⟩
        show W p l e R s m args below meth c H locs _ _ Q (F0 m pc LS (.ref (zi_ad h0 b _) :: _))
        rw [zi_ad_at hne]
        exact va_alen hx hb hK hP _ 0 (zi_w_get ha) rfl rfl hdg (kk H locs ⟨hP, hD, hS⟩)
      · cases h
  · -- new
    split at h
    · rename_i cj z _ hp
      split at h
      · rename_i hc
        cases h
        obtain ⟨⟨C, T, N⟩, ⟨hcl, hws, hty, hnm⟩, hz, g1, g2, g3, g4, g5⟩ := (hpool _ _ hp).2.2.2.1 rfl
        change z = N at hz
        subst hz
        refine ⟨rfl, Nat.le_succ _, Nat.le_add_right _ _, fun hR1 hR2 LS kk => ?_⟩
        refine va_new hx hb hts hws (zi_fty P cj) hty hown (hts _ g1) (hts _ g2) (hts _ g3) hK hP hD hS (fun q hq => Nat.le_trans hz1 hq) hcl (C := C) (T := T) (N := z) (fs := zi_fs0 P cj) g4 (by omega) (by omega) hdg (fun q H1 a1 a2 a3 => zi_bound fun hsz => ?_)
        have hq : q = h0 + w.length := zi_fresh (fun _ hz => hz) hc.1 a1 a2 (by omega)
        subst hq
        have e9 : zi_w cA h0 b (w ++ [.inr (cj, zi_fs0 P cj)]) = zi_w cA h0 b w ++ [(h0 + w.length, .inr (cj, zi_fs0 P cj))] := by
          rw [zi_w_app]; show _ ++ [(_, Sum.inr (cj, (zi_fs0 P cj).map (zi_v h0 b)))] = _; rw [zi_map_noR g5]
        have k2 := kk H1 locs ⟨by rw [e9]; exact a1, by rw [e9]; exact a2, a3⟩
        have e1 : cn + 1 - c0 = cn - c0 + 1 := by omega
        have e2 : sn + z - s0 = sn - s0 + z := by omega
        rw [e1, e2] at k2
        have e3 : zi_v h0 b (.ref w.length) = .ref (h0 + w.length) := by show Value.ref (zi_ad h0 b w.length) = _; rw [zi_ad_at (by omega)]
        rw [List.map_cons, e3] at k2
        exact k2
      · cases h
    · cases h
  · -- newarray int
    split at h
    · rename_i hc
      cases h
      exact ⟨rfl, Nat.le_succ _, Nat.le_add_right _ _, fun hR1 hR2 LS kk => zs_newa (atype := .int) (t := 0) (a0 := .inl (fun _ => 0)) hx hb (hts _ harr.1) rfl rfl hK (fun _ _ => rfl) (fun _ _ => rfl) ⟨hP, hD, hS⟩ hz1 hz2 hc hc0 hs0 hR1 hR2 (by decide) hdg kk⟩
    · cases h
  · -- newarray boolean
    split at h
    · rename_i hc
      cases h
      exact ⟨rfl, Nat.le_succ _, Nat.le_add_right _ _, fun hR1 hR2 LS kk => zs_newa (atype := .boolean) (t := 1) (a0 := .inl (fun _ => 0)) hx hb (hts _ harr.2.1) rfl rfl hK (fun _ _ => rfl) (fun _ _ => rfl) ⟨hP, hD, hS⟩ hz1 hz2 hc hc0 hs0 hR1 hR2 (by decide) hdg kk⟩
    · cases h
  · -- newarray long
    split at h
    · rename_i hc
      cases h
      exact ⟨rfl, Nat.le_succ _, Nat.le_add_right _ _, fun hR1 hR2 LS kk => zs_newa (atype := .long) (t := 2) (a0 := .inr (.inl (fun _ => 0))) hx hb (hts _ harr.2.2) rfl rfl hK (fun _ _ => rfl) (fun _ _ => rfl) ⟨hP, hD, hS⟩ hz1 hz2 hc hc0 hs0 hR1 hR2 (by decide) hdg kk⟩
    · cases h
  · -- anewarray
    split at h
    · rename_i _ _ hp
      split at h
      · rename_i hc
        cases h
        refine ⟨rfl, Nat.le_succ _, Nat.le_add_right _ _, fun hR1 hR2 LS kk => ?_⟩
        refine va_newq hx hb hown (hts _ ((hpool _ _ hp).2.2.2.2.1 rfl)) hAO hK hP hD hS (fun q hq => Nat.le_trans hz1 hq) hc.2.2.1 (Eq.refl (Int32.toNatClampNeg _)) (by omega) (by omega) (by omega) hdg (fun q cB H1 a0 a1 a2 a3 => zi_bound fun hsz => ?_)
        have hcB : cB = cA 3 := zs_kind (t := 3) hK a0 rfl
        subst hcB
        have hq : q = h0 + w.length := zi_fresh (fun _ hz => hz) hc.1 a1 a2 (by omega)
        subst hq
        have k2 := kk H1 locs ⟨by rw [zi_w_app]; exact a1, by rw [zi_w_app]; exact a2, a3⟩
        rw [show cn + 1 - c0 = cn - c0 + 1 by omega, show ∀ z, sn + z - s0 = sn - s0 + z from fun z => by omega] at k2
        have e3 : zi_v h0 b (.ref w.length) = .ref (h0 + w.length) := by show Value.ref (zi_ad h0 b w.length) = _; rw [zi_ad_at (by omega)]
        rw [List.map_cons, e3] at k2
        exact k2
      · cases h
    · cases h
  · cases h
set_option maxHeartbeats 4000000 in
theorem zs_pri {d rq : Nat} (hC : zi_Cx P cl TS NW CL D cA lw L xs h0 b c0 d rq k p R s m args meth c) (hpool : ∀ x t, zi_pool P k x = some t → zi_tok P cl TS NW CL k x t) (hH : zi_Hp cl D cA h0 b s w H locs) (hdg : decode (zi_b P k) pc = .ok (i, zi_len i))
    (h : zi_pri P d rq k pc (zi_len i) i ls st w cn sn = some (pc', ls', st', w', cn', sn')) : ls' = ls ∧ cn' = cn ∧ sn' = sn ∧ (cn ≤ c0 + R.cells → sn ≤ s0 + R.slots → ∀ LS : Array Slot, zi_ls h0 b LS ls → ls.length = zi_n P k →
      (∀ (H' : Heap) (locs' : List Loc), zi_Hp cl D cA h0 b s w' H' locs' → W p l e R s m args below meth c H' locs' (cn - c0) (sn - s0) Q (F0 m pc' LS (st'.map (zi_v h0 b)))) → W p l e R s m args below meth c H locs (cn - c0) (sn - s0) Q (F0 m pc LS (st.map (zi_v h0 b)))) := by
  obtain ⟨hx, hb, hml, hr, hlk, hown, hts, hnw, hK, hAO, hin, hz1, hz2, hRf, hRl, hX⟩ := hC
  obtain ⟨hP, hD, hS⟩ := hH
  have hcat : ∀ r : List Value, ((r.map (zi_v h0 b)).map fun v => v.category) = r.map fun v => v.category := fun r => by
    rw [List.map_map]
    exact List.map_congr_left fun v _ => zi_v_cat h0 b v
  unfold zi_pri at h
  split at h
  · split at h
    · rename_i hp
      split at h
      · rename_i hc
        cases h
        obtain ⟨g1, g2, g3⟩ := (hpool _ _ hp).2.2.2.2.2.2.1 rfl rfl
        refine ⟨rfl, rfl, rfl, fun _ _ LS hl hn kk => ?_⟩
        exact W.objInit hx hb hown (hts _ g1) (hts _ g2) (hts _ g3) rfl (by rw [hml, ← hn]; exact hl.1) rfl hdg (by omega) (by show 2 * 0 + _ + 12 ≤ _; rw [hcat]; omega) (kk H locs ⟨hP, hD, hS⟩)
      · cases h
    · cases h
  · split at h
    · rename_i hp
      split at h
      · rename_i hc
        cases h
        obtain ⟨g1, g2, g3, g4⟩ := (hpool _ _ hp).2.2.2.2.2.2.2.1 rfl rfl
        refine ⟨rfl, rfl, rfl, fun q1 q2 LS hl hn kk => ?_⟩
        exact va_mmin hx hb (by rw [hml, ← hn]; exact hl.1.symm) hown (hts _ g1) (hts _ g2) (hts _ g3) (hts _ g4) (by omega) (by rw [hcat]; omega) (by omega) (by omega) hdg (kk H locs ⟨hP, hD, hS⟩)
      · cases h
    · rename_i hp
      split at h
      · rename_i hh
        split at h
        · rename_i n0 f n1 g hg0 hg1
          split at h
          · rename_i hc
            cases h
            cases hh
            obtain ⟨g1, g2, g3, g4⟩ := (hpool _ _ hp).2.2.2.2.2.2.2.2 rfl rfl
            obtain ⟨ha0, hne0⟩ := zi_get_at hg0
            obtain ⟨ha1, hne1⟩ := zi_get_at hg1
            refine ⟨rfl, rfl, rfl, fun q1 q2 LS hl hn kk => ?_⟩
            show W p l e R s m args below meth c H locs _ _ Q (F0 m pc LS (.int _ :: .int _ :: .ref (zi_ad h0 b _) :: .int _ :: .ref (zi_ad h0 b _) :: _))
            rw [zi_ad_at hne0, zi_ad_at hne1]
            exact va_copyi hx hb (by rw [hml, ← hn]; exact hl.1.symm) hown (hts _ g1) (hts _ g2) (hts _ g3) (hts _ g4) hK hP hD hS _ _ 0 0 (zi_w_get ha0) (zi_w_get ha1) rfl rfl rfl hc.2.1 hc.2.2.1 hc.2.2.2.1 hc.2.2.2.2.1 hc.2.2.2.2.2.1 (fun _ _ => rfl) (by omega) (by rw [hcat, show nativeFrameWords "java/lang/System" "arraycopy" 5 = 7 by decide +kernel]; omega) hdg
              (fun H1 l1 a1 a2 a3 => kk H1 l1 ⟨by rw [← zi_w_set]; exact a1, by rw [← zi_w_set]; exact a2, a3⟩)
          · cases h
        · cases h
      · cases h
    · cases h
  · cases h
end ZC
end
section
/-! What the interpreter answers, the machine does: calls, and a whole run. -/
theorem zi_run_mono {P : zi_P} {lw L : Nat} {xs : Nat → Int32} : ∀ (n d q k pc : Nat) (ls : zi_L) (st : List Value) (w : zi_W) (cn sn : Nat) (o : zi_O) (w' : zi_W) (cn' sn' : Nat), zi_run P lw L xs n d q k pc ls st w cn sn = some (o, w', cn', sn') → cn ≤ cn' ∧ sn ≤ sn' := by
  intro n
  induction n with
  | zero => intro d q k pc ls st w cn sn o w' cn' sn' h; cases h
  | succ n ih =>
    intro d q k pc ls st w cn sn o w' cn' sn' h
    unfold zi_run at h
    split at h
    · split at h
      · cases h; exact ⟨Nat.le_succ _, Nat.le_add_right _ _⟩
      · cases h
    · split at h
      · cases h
      · split at h
        · cases h; exact ⟨Nat.le_refl _, Nat.le_refl _⟩
        · split at h
          · split at h
            · rename_i hc
              have h2 := ih _ _ _ _ _ _ _ _ _ _ _ _ _ h
              exact ⟨Nat.le_trans hc.1 h2.1, Nat.le_trans hc.2.1 h2.2⟩
            · cases h
          · split at h
            · split at h
              · cases h
              · split at h
                rotate_left
                · cases h
                split at h
                · rename_i hr
                  have h1 := ih _ _ _ _ _ _ _ _ _ _ _ _ _ hr
                  have h2 := ih _ _ _ _ _ _ _ _ _ _ _ _ _ h
                  exact ⟨Nat.le_trans h1.1 h2.1, Nat.le_trans h1.2 h2.2⟩
                · rename_i hr
                  have h1 := ih _ _ _ _ _ _ _ _ _ _ _ _ _ hr
                  split at h
                  · cases h; exact h1
                  · cases h
                · cases h
            · cases h
theorem zi_pop_spec : ∀ (n : Nat) (acc st as r : List Value), zi_pop n acc st = some (as, r) → ∃ ys : List Value, ys.length = n ∧ as = ys.reverse ++ acc ∧ st = ys ++ r
  | 0, acc, st, as, r, h => by
    unfold zi_pop at h
    cases h
    exact ⟨[], rfl, rfl, rfl⟩
  | n + 1, acc, [], as, r, h => by
    unfold zi_pop at h
    cases h
  | n + 1, acc, v :: st, as, r, h => by
    unfold zi_pop at h
    obtain ⟨ys, h1, h2, h3⟩ := zi_pop_spec n (v :: acc) st as r h
    exact ⟨v :: ys, by rw [List.length_cons, h1], by rw [h2]; simp, by rw [h3]; rfl⟩
theorem zi_pop_at {n : Nat} {st as r : List Value} (h : zi_pop n [] st = some (as, r)) : as.length = n ∧ st = as.reverse ++ r := by
  obtain ⟨ys, h1, h2, h3⟩ := zi_pop_spec n [] st as r h
  rw [List.append_nil] at h2
  subst h2
  exact ⟨by rw [List.length_reverse, h1], by rw [List.reverse_reverse]; exact h3⟩
theorem zi_args_mem {h0 b : Nat} : ∀ (as : List Value) (k : Nat), as.all (fun v => v.category == 1) = true → ∀ (i : Nat) (v : Value), as[i]? = some v → (k + i, zi_v h0 b v) ∈ lv_args k (as.map (zi_v h0 b))
  | [], k, _, i, v, h => by simp at h
  | a :: as, k, hc, i, v, h => by
    simp only [List.all_cons, Bool.and_eq_true, beq_iff_eq] at hc
    show (k + i, zi_v h0 b v) ∈ (k, zi_v h0 b a) :: lv_args (if (zi_v h0 b a).category = 2 then k + 2 else k + 1) (as.map (zi_v h0 b))
    rw [if_neg (by rw [zi_v_cat, hc.1]; decide)]
    cases i with
    | zero =>
      cases h
      exact List.mem_cons_self
    | succ i =>
      have h2 := zi_args_mem (h0 := h0) (b := b) as (k + 1) hc.2 i v h
      rw [show k + (i + 1) = k + 1 + i by omega]
      exact List.mem_cons_of_mem _ h2
theorem zi_sl_len {h0 b : Nat} : ∀ (as : List Value), as.all (fun v => v.category == 1) = true → (lg_sl (as.map (zi_v h0 b))).length = as.length
  | [], _ => rfl
  | a :: as, hc => by
    simp only [List.all_cons, Bool.and_eq_true, beq_iff_eq] at hc
    show (List.flatMap (fun v => if v.category = 2 then [Slot.val v, .second] else [.val v]) (zi_v h0 b a :: as.map (zi_v h0 b))).length = _
    rw [List.flatMap_cons, if_neg (by rw [zi_v_cat, hc.1]; decide), List.length_append, List.length_cons, List.length_cons]
    have h := zi_sl_len (h0 := h0) (b := b) as hc.2
    unfold lg_sl at h
    rw [h]
    simp; omega
theorem zi_ent_ls {h0 b n : Nat} {as : List Value} {ls : zi_L} (h : zi_ent as n = some ls) : ls.length = n ∧ zi_ls h0 b ((lg_sl (as.map (zi_v h0 b)) ++ List.replicate (n - (lg_sl (as.map (zi_v h0 b))).length) Slot.unset).toArray) ls := by
  unfold zi_ent at h
  split at h
  · rename_i hc
    cases h
    have hlen : (as.map some ++ List.replicate (n - as.length) (none : Option Value)).length = n := by
      rw [List.length_append, List.length_map, List.length_replicate]; omega
    have hE := lv_entry (as.map (zi_v h0 b)) (n := n) (by rw [zi_sl_len as hc.2]; exact hc.1)
    refine ⟨hlen, by rw [hlen]; exact hE.1, hE.2.1, fun i v hi => ?_⟩
    have h1 : as[i]? = some v := by
      unfold zi_loc at hi
      by_cases hl : i < as.length
      · rw [List.getElem?_append_left (by rw [List.length_map]; exact hl), List.getElem?_map] at hi
        cases ha : as[i]? with
        | none => rw [ha] at hi; cases hi
        | some u => rw [ha] at hi; exact hi
      · rw [List.getElem?_append_right (by rw [List.length_map]; omega)] at hi
        split at hi
        · rename_i h3
          rw [List.getElem?_replicate] at h3
          split at h3 <;> cases h3
        · cases hi
    have h2 := hE.2.2 (0 + i, zi_v h0 b v) (zi_args_mem as 0 hc.2 i v h1)
    rw [Nat.zero_add] at h2
    exact h2
  · cases h
/-- the facts that are asked of a call -/
def zi_cok (P : zi_P) (cl : List vw_C) (TS NW : List Cond) (lw k x : Nat) (t : zi_T) : Prop :=
  (t.1 = 1 ∨ t.1 = 2 ∨ t.1 = 3 → plainFor (zi_y P t.2.1) = true ∧ Cond.initialized (zi_y P t.2.1).cls ∈ TS ∧ ((zi_y P t.2.1).cls ≠ "java/lang/invoke/MethodHandle" ∧ (zi_y P t.2.1).cls ≠ "java/lang/invoke/VarHandle" ∧ (parseMethodDescriptor (zi_y P t.2.1).desc).map (fun d => d.parameters.length) = some t.2.2.1) ∧ t.2.1 ≠ lw ∧ (Cond.methodLink (zi_y P k).cls x (zi_y P t.2.1) ∈ TS ∨ ∃ host : String, Cond.methodLinkNest (zi_y P k).cls x (zi_y P t.2.1) host ∈ NW)) ∧
  (t.1 = 1 → Cond.code (zi_y P t.2.1) (zi_b P t.2.1) (zi_n P t.2.1) (zi_r P t.2.1) ∈ TS ∧ Cond.instanceMethod (zi_y P t.2.1) ∈ TS ∧ Cond.selects (zi_y P t.2.1).cls (zi_y P t.2.1) (zi_y P t.2.1) ∈ TS ∧ ∀ ci, t.2.2.2 = .ref ci → ∃ q : vw_C, cl[ci]? = some q ∧ q.1 = (zi_y P t.2.1).cls) ∧
  (t.1 = 2 → Cond.code (zi_y P t.2.1) (zi_b P t.2.1) (zi_n P t.2.1) (zi_r P t.2.1) ∈ TS ∧ Cond.instanceMethod (zi_y P t.2.1) ∈ TS ∧ (zi_y P t.2.1).name = "<init>" ∧ zi_r P t.2.1 = none) ∧
  (t.1 = 3 → Cond.static (zi_y P t.2.1) ∈ TS ∧ (Cond.code (zi_y P t.2.1) (zi_b P t.2.1) (zi_n P t.2.1) (zi_r P t.2.1) ∈ TS ∨ (Jvm.plainName (zi_y P t.2.1).cls = true ∧ Cond.methodLink (zi_y P k).cls x (zi_y P t.2.1) ∈ TS ∧ ∃ hh : List (Nat × Nat × Nat × Nat), Cond.codeWith (zi_y P t.2.1) (zi_b P t.2.1) (zi_n P t.2.1) (zi_r P t.2.1) hh ∈ TS)))
/-- what is asked of the end of a run -/
def zi_End (P : zi_P) (cl : List vw_C) (D : va_G) (cA : Nat → ClassId) (h0 b k : Nat) (p : Program) (l : Launch) (e : Env) (R : Room) (s : State) (m : MethodId) (args : Array Value) (below : List Frame) (meth : Method) (c : Code) (Q : State → Prop) (cells slots : Nat) (o : zi_O) (w' : zi_W) : Prop :=
  (o = .inl none → zi_r P k = none → ∀ (H' : Heap) (locs' : List Loc) (LS' : Array Slot) (pc' : Nat), zi_Hp cl D cA h0 b s w' H' locs' → decode (zi_b P k) pc' = .ok (.return_, 1) → W p l e R s m args below meth c H' locs' cells slots Q (F0 m pc' LS' [])) ∧
  (∀ (x : Int32) (ty : FieldType), o = .inl (some (.int x)) → zi_r P k = some ty → narrow ty (.int x) = .int x → ∀ (H' : Heap) (locs' : List Loc) (LS' : Array Slot) (pc' : Nat), zi_Hp cl D cA h0 b s w' H' locs' → decode (zi_b P k) pc' = .ok (.ireturn, 1) → W p l e R s m args below meth c H' locs' cells slots Q (F0 m pc' LS' [.int x]))
/-- a method has thrown -/
def zi_Thrn (exc : Nat → String) (cl : List vw_C) (D : va_G) (cA : Nat → ClassId) (h0 b : Nat) (s : State) (below : List Frame) (w' : zi_W) (mc ms ex : Nat) (t : State) : Prop :=
  ∃ a : Addr, t.status = .running ∧ Ended t below (.threw a) ∧ s.WarmedH t.vm ∧ (∃ L : List Loc, s.sameButNew ({ t with vm := s.vm } : State) L mc ms ∧ ∀ q ∈ L, h0 ≤ q.base) ∧ va_P D cl (zi_w cA h0 b w') t.heap ∧ va_D (fun q => h0 ≤ q) (zi_w cA h0 b w') ∧ va_F (fun q => h0 ≤ q) s t ∧
    ∃ ce : Cell, t.heap[a]? = some ce ∧ ce.vm.isStatics = false ∧ s.vm.findClass (exc ex) = some ce.cls
def zi_Snd (exc : Nat → String) (P : zi_P) (cl : List vw_C) (TS NW : List Cond) (CL : String) (lw n : Nat) : Prop :=
  ∀ (L : Nat) (xs : Nat → Int32) (d rq k pc : Nat) (ls : zi_L) (st : List Value) (w : zi_W) (cn sn : Nat) (o : zi_O) (w' : zi_W) (cn' sn' : Nat), zi_run P lw L xs n d rq k pc ls st w cn sn = some (o, w', cn', sn') → ls.length = zi_n P k →
  ∀ (l : Launch) (p : Program) (e : Env) (R : Room) (s : State) (m : MethodId) (args : Array Value) (below : List Frame) (meth : Method) (c : Code) (H : Heap) (locs : List Loc) (Q : State → Prop) (LS : Array Slot) (D : va_G) (cA : Nat → ClassId) (h0 b c0 s0 : Nat),
    zi_Cx P cl TS NW CL D cA lw L xs h0 b c0 d rq k p R s m args meth c → zi_ls h0 b LS ls → zi_Hp cl D cA h0 b s w H locs → c0 ≤ cn → s0 ≤ sn → cn' ≤ c0 + R.cells → sn' ≤ s0 + R.slots →
    zi_End P cl D cA h0 b k p l e R s m args below meth c Q (cn' - c0) (sn' - s0) o w' → (∀ ex, o = .inr ex → ∀ t, zi_Thrn exc cl D cA h0 b s below w' (cn' - c0) (sn' - s0) ex t → Q t) →
    W p l e R s m args below meth c H locs (cn - c0) (sn - s0) Q (F0 m pc LS (st.map (zi_v h0 b)))
/-- a contract's start and end -/
def zi_Pc (cl : List vw_C) (NW : List Cond) (CL : String) (D : va_G) (cA : Nat → ClassId) (h0 b cn : Nat) (as : List Value) (w : zi_W) : Array Value → State → Prop := va_Pc (as.map (zi_v h0 b)) (fun U => va_P D cl (zi_w cA h0 b w) U.heap ∧ va_D (fun q => h0 ≤ q) (zi_w cA h0 b w) ∧ va_K D cl (zi_tys cA CL) U ∧ va_AO CL U ∧ (∀ w ∈ NW, va_Nw w U) ∧ h0 ≤ U.heap.size ∧ U.heap.size ≤ h0 + cn)
def zi_Qc (cl : List vw_C) (D : va_G) (cA : Nat → ClassId) (h0 b : Nat) (r : Option Value) (w' : zi_W) : Array Value → State → Outcome → State → Prop := fun _ st oc t => oc = .returned (r.map (zi_v h0 b)) ∧ va_P D cl (zi_w cA h0 b w') t.heap ∧ va_D (fun q => h0 ≤ q) (zi_w cA h0 b w') ∧ va_F (fun q => h0 ≤ q) st t
def zi_rm (d rq mc ms : Nat) : Room := { frames := d, cells := mc, slots := ms, locals := rq }
theorem zi_blind {cl : List vw_C} {NW : List Cond} {CL : String} {D : va_G} {cA : Nat → ClassId} {h0 b cn : Nat} {as : List Value} {w : zi_W} (hNW : ∀ w ∈ NW, w.onTables = true) : FrameBlind (zi_Pc cl NW CL D cA h0 b cn as w) := by
  intro a U g mk q
  obtain ⟨q0, q1, q2, q3, q4, q5, q6, q7⟩ := q
  exact ⟨q0, q1, q2, va_K.moved (u := U) (U := U.calling g mk a) (Vm.Alike.refl U.vm) q3, va_AO.moved (u := U) (U := U.calling g mk a) (Vm.Alike.refl U.vm) q4, fun w hw => va_Nw.same (hNW w hw) (u := U) (U := U.calling g mk a) rfl (q5 w hw), q6, q7⟩
section ZM
variable {exc : Nat → String} {P : zi_P} {cl : List vw_C} {TS NW : List Cond} {CL : String} {lw n : Nat}
set_option maxHeartbeats 1000000 in
theorem zs_body (ih : zi_Snd exc P cl TS NW CL lw n) {L d rq j cn sn cn' sn' : Nat} {xs : Nat → Int32} {as : List Value} {ls : zi_L} {w w' : zi_W} {r : Option Value} (hj : j ≠ lw) (hrun : zi_run P lw L xs n d rq j 0 ls [] w cn sn = some (.inl r, w', cn', sn')) (hent : zi_ent as (zi_n P j) = some ls) (D : va_G) (cA : Nat → ClassId) (h0 b : Nat) (l : Launch) {ws : List Cond} (hsub : ∀ w ∈ TS, w ∈ ws) :
    ∀ p e s m args below meth c s₁, BodyLoose p l (zi_y P j) (headSpec ws (zi_rm d rq (cn' - cn) (sn' - sn))) (zi_b P j) (zi_n P j) (zi_r P j) e s m args below meth c s₁ → c.maxLocals = zi_n P j → zi_Pc cl NW CL D cA h0 b cn as w args s →
      W p l e (headSpec ws (zi_rm d rq (cn' - cn) (sn' - sn))).room s m args below meth c s.heap [] 0 0 (MQ below (zi_Qc cl D cA h0 b r w') args s (cn' - cn) (sn' - sn) (fun q => h0 ≤ q)) (entryFrame m args (zi_n P j)) := by
  intro p e s m args below meth c s₁ B hml hv
  obtain ⟨rfl, hP, hD, hK, hAO, hnw, z1, z2⟩ := hv
  have hmo := zi_run_mono _ _ _ _ _ _ _ _ _ _ _ _ _ _ hrun
  have hts : ∀ w ∈ TS, w.before (as.map (zi_v h0 b)).toArray s = true := fun w hw => atoms_spec (ws := ws) B.pre w (hsub w hw)
  obtain ⟨hlen, hls⟩ := zi_ent_ls (h0 := h0) (b := b) hent
  rw [lg_entry_eq]
  have key := ih L xs d rq j 0 ls [] w cn sn (.inl r) w' cn' sn' hrun hlen l p e (zi_rm d rq (cn' - cn) (sn' - sn)) s m _ below meth c s.heap [] (MQ below (zi_Qc cl D cA h0 b r w') (as.map (zi_v h0 b)).toArray s (cn' - cn) (sn' - sn) (fun q => h0 ≤ q)) _ D cA h0 b cn sn
    ⟨B.exec, B.bytes, hml, B.returns, B.notSynchronized, findClass_of_methodNamed B.named, hts, hnw, hK, hAO, fun q => (name_of_methodNamed B.named B.method).1.trans q, z1, z2, Nat.le_refl _, Nat.le_refl _, fun q => absurd q hj⟩ hls ⟨hP, hD, va_S.rf⟩ (Nat.le_refl _) (Nat.le_refl _)
    (by show cn' ≤ cn + (cn' - cn); omega) (by show sn' ≤ sn + (sn' - sn); omega)
    ⟨fun ho hr H' locs' LS' pc' hH' hdg => ?_, fun x ty ho hr hn H' locs' LS' pc' hH' hdg => ?_⟩ (fun ex ho => by cases ho)
  · rw [Nat.sub_self, Nat.sub_self] at key
    exact key
  · cases ho
    exact W.vret B.exec B.bytes (B.returns.trans hr) (fun t ht hW => ⟨rfl, by rw [ht]; exact hH'.1, hH'.2.1, hH'.2.2.F ht⟩) hH'.2.2.2.2 hdg B.notSynchronized
  · cases ho
    exact W.zret B.exec B.bytes (B.returns.trans hr) hn (fun t ht hW => ⟨rfl, by rw [ht]; exact hH'.1, hH'.2.1, hH'.2.2.F ht⟩) hH'.2.2.2.2 hdg B.notSynchronized
end ZM
end
section
/-! What the interpreter answers, the machine does: calls in a run, and the run. -/
section ZR
variable {p : Program} {l : Launch} {e : Env} {R : Room} {s : State} {m : MethodId} {args : Array Value} {below : List Frame} {meth : Method} {c : Code} {H : Heap} {locs : List Loc} {cells slots : Nat} {Q : State → Prop}
variable {cl : List vw_C} {D : va_G} {cA : Nat → ClassId} {h0 b : Nat}
theorem zs_after {mc ms pc : Nat} {LS : Array Slot} {st0 rest : List Value} {r : Option Value} {w' : zi_W} {a : Array Value} (hr : va_Run p l e R s m args below meth c H locs cells slots mc ms (F0 m pc LS st0) rest (zi_Qc cl D cA h0 b r w' a) (fun q => h0 ≤ q)) (hS : va_S (fun q => h0 ≤ q) s.heap H locs)
    (kk : ∀ (H' : Heap) (locs' : List Loc), zi_Hp cl D cA h0 b s w' H' locs' → W p l e R s m args below meth c H' locs' (cells + mc) (slots + ms) Q (F0 m (pc + 3) LS ((r.map (zi_v h0 b)).toList ++ rest))) : W p l e R s m args below meth c H locs cells slots Q (F0 m pc LS st0) := by
  intro T hT X
  obtain ⟨v, st₀, t, T', L, g0, X', hL, e1, e2, ⟨hv, hP, hD, hz, hk⟩, stp⟩ := hr T hT X
  cases hv
  rw [g0] at hz hk
  obtain ⟨t2, a1, b1⟩ := kk T'.heap (locs ++ L) ⟨by rw [e1]; exact hP, hD, Nat.le_trans hS.1 (by rw [e1]; exact hz), fun q h1 h2 => by rw [e1, hk q (Nat.lt_of_lt_of_le h1 hS.1) h2]; exact hS.2.1 q h1 h2, fun q hq => by
      rcases List.mem_append.mp hq with h | h
      · exact hS.2.2 q h
      · exact hL q h⟩ T' rfl X'
  exact ⟨t2, stp t2 a1, b1⟩
/-- a static call of a method that has handlers -/
theorem zs_runSW {y : MethodName} {bytes cc : ByteArray} {maxL nL mc ms n index : Nat} {ret : Option FieldType} {hh : List (Nat × Nat × Nat × Nat)} {ws : List Cond} {rm : Room} {Pc : Array Value → State → Prop} {Qc : Array Value → State → Outcome → State → Prop} {free : Addr → Prop} {own : String} {As rest : List Value} {g : JFrame}
    (hx : p.tables.exec = Jvm.exec) (hb : c.code = cc) (hml : c.maxLocals = nL) (ho : s.vm.findClass own = some m.cls) (hM : Met l y ws rm Pc Qc mc ms free) (hrc : rm.cells = mc) (hrs : rm.slots = ms) (hfr : rm.frames + 1 ≤ R.frames) (hlo : 8 + (maxL + 11) + rm.locals ≤ R.locals) (hws : ∀ w ∈ ws, ∀ (a' : Array Value) (U : State), s.WarmedH U.vm → w.before a' U = true) (hcw : Cond.codeWith y bytes maxL ret hh ∈ ws)
    (hcode : (Cond.codeWith y bytes maxL ret hh).before args s = true) (hini : (Cond.initialized y.cls).before args s = true) (hy : y.cls ≠ "java/lang/invoke/MethodHandle" ∧ y.cls ≠ "java/lang/invoke/VarHandle") (hlen : ∀ sig, parseMethodDescriptor y.desc = some sig → n = sig.parameters.length) (hl : (Cond.methodLink own index y).before args s = true) (hstt : (Cond.static y).before args s = true) (hp : PreS s H Pc As)
    (hg : g.method = m) (hn : As.length = n) (hsize : g.locals.size = nL) (hstack : g.stack = As.reverse ++ rest) (hW : 2 * g.monitorRoom + (rest.map fun v => v.category).sum ≤ 8) (hdg : decode cc g.pc = .ok (.invokestatic index, 3)) (hf : cells + mc ≤ R.cells ∧ slots + ms ≤ R.slots) :
    va_Run p l e R s m args below meth c H locs cells slots mc ms g rest (Qc As.toArray) free := by
  have hK : Back l R p e below s args y 3 8 (PreOf R mc ms Pc) (PostOf Qc mc ms free) := va_backW (hh := hh) (bytes := bytes) (maxL := maxL) (ret := ret) hM hp.1 hrc hrs hfr hlo hws hcw (fun a' U hW => word_at hW (Or.inl (by first | rfl | simp [Cond.onTables, Cond.keeps, Cond.steady])) hini)
  intro T hT X
  obtain ⟨mk, methM, cM, hnamed, hmethM, -, -, -, -, -, -, hsigM⟩ := Cond.codeWith_spec hcode
  have hstatic : methM.isStatic = true := Cond.static_spec hnamed hmethM hstt
  obtain ⟨kP, hkP, -⟩ := className_of_methodNamed hnamed
  have hinitP : kP.init = .initialized := Cond.initialized_spec (findClass_of_methodNamed hnamed) hkP hini
  obtain ⟨vm₁, X₁, hstep₁⟩ := X.invokestatic hx ho hl hnamed hmethM hstatic hkP hinitP hy (g := g) hg (argsL := As) (rest := rest) (hn.trans (hlen _ hsigM)) hstack (by rw [hb]; exact hdg)
  obtain ⟨v, ⟨U', l2, c2, s2⟩, X', ⟨g', mk', t, L, e1, e2, hq, h1, hL, h2, h3⟩, hsteps⟩ := hK m meth c ⟨T.setVm vm₁, locs, cells, slots⟩ { g with stack := rest } (.invokestatic index) mk As.toArray X₁ hg (hsize.trans hml.symm) (by rw [hb]; exact hdg) hW (X₁.named hnamed) ⟨hf.1, hf.2, hp.2 (T.setVm vm₁) hT X₁.warmed⟩
  dsimp only [Pt.U, Pt.locs, Pt.cells, Pt.slots] at X' e1 e2 h1 h2 h3 hsteps
  subst h1; subst h2; subst h3
  exact ⟨v, (T.setVm vm₁).calling g' mk' As.toArray, t, U', L, hT, X', hL, e1, e2, hq, fun target h => hstep₁ _ fun acts => by rw [doInvoke_state]; exact hsteps.trans h⟩
end ZR
/-- what is asked of a program -/
def zi_Ok (P : zi_P) (cl : List vw_C) (TS NW : List Cond) (CL : String) (lw : Nat) : Prop :=
  (∀ k pc i, zi_code P k pc = some i → ∃ len, decode (zi_b P k) pc = .ok (i, len) ∧ (zi_len i = 0 ∨ len = zi_len i)) ∧ (∀ k x t, zi_pool P k x = some t → zi_tok P cl TS NW CL k x t ∧ zi_cok P cl TS NW lw k x t) ∧ (∃ q : vw_C, cl[2]? = some q ∧ q.1 = CL) ∧ (Cond.arrayClass .int ∈ TS ∧ Cond.arrayClass .boolean ∈ TS ∧ Cond.arrayClass .long ∈ TS) ∧
  (∀ w ∈ NW, w.onTables = true ∧ ((∃ a i b n d h, w = .fieldLinkNest a i b n d h) ∨ ∃ a i x h, w = .methodLinkNest a i x h)) ∧ (∀ w ∈ TS, (w.onTables && w.keeps) = true ∨ ∃ ty, w = .arrayClass ty)
theorem zi_Nw_warm {NW : List Cond} {s U : State} (hNW : ∀ w ∈ NW, w.onTables = true ∧ ((∃ a i b n d h, w = .fieldLinkNest a i b n d h) ∨ ∃ a i x h, w = .methodLinkNest a i x h)) (hW : s.WarmedH U.vm) (h : ∀ w ∈ NW, va_Nw w s) : ∀ w ∈ NW, va_Nw w U := by
  intro w hw
  rcases (hNW w hw).2 with ⟨a, i, b, n, d, hh, rfl⟩ | ⟨a, i, x, hh, rfl⟩
  · exact va_Nw.warmF hW (h _ hw)
  · exact va_Nw.warmM hW (h _ hw)
section ZQ
variable {exc : Nat → String} {P : zi_P} {cl : List vw_C} {TS NW : List Cond} {CL : String} {lw n : Nat}
theorem zs_pre {cA : Nat → ClassId} {D : va_G} {h0 b c0 cn L d rq k : Nat} {xs : Nat → Int32} {p : Program} {R : Room} {s : State} {m : MethodId} {args : Array Value} {meth : Method} {c : Code} {H : Heap} {locs : List Loc} {w : zi_W} {as : List Value} {av : Array Value} (hO : zi_Ok P cl TS NW CL lw) (hC : zi_Cx P cl TS NW CL D cA lw L xs h0 b c0 d rq k p R s m args meth c) (hH : zi_Hp cl D cA h0 b s w H locs) (hc0 : c0 ≤ cn) (hz : H.size ≤ s.heap.size + (cn - c0)) (hav : av = (as.map (zi_v h0 b)).toArray) :
    ∀ U : State, U.heap = H → s.WarmedH U.vm → zi_Pc cl NW CL D cA h0 b cn as w av U := by
  obtain ⟨hx, hb, hml, hr, hlk, hown, hts, hnw, hK, hAO, hin, hz1, hz2, hRf, hRl, hX⟩ := hC
  intro U hU hW
  have h1 := hH.2.2.1
  exact ⟨hav, by rw [hU]; exact hH.1, hH.2.1, va_K.moved hW.alike hK, va_AO.moved hW.alike hAO, zi_Nw_warm hO.2.2.2.2.1 hW hnw, by rw [hU]; omega, by rw [hU]; omega⟩
theorem zs_good {j : Nat} (hO : zi_Ok P cl TS NW CL lw) {w0 : Cond} (h : w0 ∈ TS) : GoodIn TS (w0 :: TS) := by
  intro w hw
  rcases List.mem_cons.mp hw with rfl | hw
  · exact ⟨h, hO.2.2.2.2.2 _ h⟩
  · exact ⟨hw, hO.2.2.2.2.2 _ hw⟩
theorem zs_cats {h0 b : Nat} (r : List Value) : ((r.map (zi_v h0 b)).map fun v => v.category) = r.map fun v => v.category := by
  rw [List.map_map]
  exact List.map_congr_left fun v _ => zi_v_cat h0 b v
theorem zs_optmap {h0 b : Nat} (v : Option Value) (r : List Value) : (v.map (zi_v h0 b)).toList ++ r.map (zi_v h0 b) = (v.toList ++ r).map (zi_v h0 b) := by
  cases v <;> simp
set_option maxHeartbeats 4000000 in
theorem zs_call (hO : zi_Ok P cl TS NW CL lw) (ih : zi_Snd exc P cl TS NW CL lw n) {cA : Nat → ClassId} {D : va_G} {h0 b c0 s0 cn sn cn1 sn1 L d rq k pc j : Nat} {xs : Nat → Int32} {l : Launch} {p : Program} {e : Env} {R : Room} {s : State} {m : MethodId} {args : Array Value} {below : List Frame} {meth : Method} {c : Code} {H : Heap} {locs : List Loc} {Q : State → Prop} {w w1 : zi_W} {as st r : List Value} {ls ls' : zi_L} {LS : Array Slot} {i : Jvm.ClassFile.Instr} {v : Option Value}
    (hC : zi_Cx P cl TS NW CL D cA lw L xs h0 b c0 (d + 1) rq k p R s m args meth c) (hH : zi_Hp cl D cA h0 b s w H locs) (hl : zi_ls h0 b LS ls) (hlen : ls.length = zi_n P k) (hc0 : c0 ≤ cn) (hs0 : s0 ≤ sn) (hdg : decode (zi_b P k) pc = .ok (i, zi_len i)) (hinv : zi_inv P k i st w = some (j, as, r)) (hent : zi_ent as (zi_n P j) = some ls') (hq : 19 + zi_n P j ≤ rq) (hrun : zi_run P lw L xs n d (rq - (19 + zi_n P j)) j 0 ls' [] w cn sn = some (.inl v, w1, cn1, sn1)) (hR1 : cn1 ≤ c0 + R.cells) (hR2 : sn1 ≤ s0 + R.slots)
    (kk : ∀ (H' : Heap) (locs' : List Loc), zi_Hp cl D cA h0 b s w1 H' locs' → W p l e R s m args below meth c H' locs' (cn1 - c0) (sn1 - s0) Q (F0 m (pc + 3) LS ((v.toList ++ r).map (zi_v h0 b)))) : W p l e R s m args below meth c H locs (cn - c0) (sn - s0) Q (F0 m pc LS (st.map (zi_v h0 b))) := by
  have hmo := zi_run_mono _ _ _ _ _ _ _ _ _ _ _ _ _ _ hrun
  refine zi_bound fun hz => ?_
  have hC0 := hC
  obtain ⟨hx, hb, hml, hr, hlk, hown, hts, hnw, hK, hAO, hin, hz1, hz2, hRf, hRl, hX⟩ := hC
  have e1 : cn - c0 + (cn1 - cn) = cn1 - c0 := by omega
  have e2 : sn - s0 + (sn1 - sn) = sn1 - s0 := by omega
  have kk2 : ∀ (H' : Heap) (locs' : List Loc), zi_Hp cl D cA h0 b s w1 H' locs' → W p l e R s m args below meth c H' locs' (cn - c0 + (cn1 - cn)) (sn - s0 + (sn1 - sn)) Q (F0 m (pc + 3) LS ((v.map (zi_v h0 b)).toList ++ r.map (zi_v h0 b))) := by
    intro H' locs' hH'
    rw [e1, e2, zs_optmap]
    exact kk H' locs' hH'
  have hsz : LS.size = zi_n P k := hl.1.trans hlen
  have hfit : cn - c0 + (cn1 - cn) ≤ R.cells ∧ sn - s0 + (sn1 - sn) ≤ R.slots := ⟨by omega, by omega⟩
  unfold zi_inv at hinv
  split at hinv
  · rename_i x
    split at hinv
    · rename_i j' mm ci hp
      split at hinv
      · rename_i as1 a r' hpop
        split at hinv
        · rename_i c' fs hg
          split at hinv
          · rename_i hcc
            cases hinv
            obtain ⟨rfl, hsum⟩ := hcc
            obtain ⟨hk0, hk1, -, -⟩ := (hO.2.1 _ _ _ hp).2
            obtain ⟨f1, f3, f4, f5, f6⟩ := hk0 (Or.inl rfl)
            obtain ⟨g1, g2, g3, g4⟩ := hk1 rfl
            obtain ⟨q, hq1, hq2⟩ := g4 _ rfl
            obtain ⟨ha, hne⟩ := zi_get_at hg
            obtain ⟨hn1, hst⟩ := zi_pop_at hpop
            have he : (zi_w cA h0 b w)[a]? = some (h0 + a, .inr (c', fs.map (zi_v h0 b))) := zi_w_get ha
            have hM : Met l (zi_y P j) (Cond.code (zi_y P j) (zi_b P j) (zi_n P j) (zi_r P j) :: TS) (zi_rm d (rq - (19 + zi_n P j)) (cn1 - cn) (sn1 - sn)) (zi_Pc cl NW CL D cA h0 b cn (.ref a :: as1) w) (zi_Qc cl D cA h0 b v w1) (cn1 - cn) (sn1 - sn) (fun q => h0 ≤ q) :=
              va_MetF f1 rfl (zs_body ih f5 hrun hent D cA h0 b l (fun w hw => List.mem_cons_of_mem _ hw))
            have hpre : PreV s H q.1 (h0 + a) (zi_Pc cl NW CL D cA h0 b cn (.ref a :: as1) w) (as1.map (zi_v h0 b)) :=
              ⟨zi_blind fun w hw => (hO.2.2.2.2.1 w hw).1, va_recv hK hH.1 hq1 he, zs_pre hO hC0 hH hc0 hz (by rw [List.map_cons]; show _ = (Value.ref (zi_ad h0 b a) :: _).toArray; rw [zi_ad_at hne])⟩
            have hstk : (F0 m pc LS (st.map (zi_v h0 b))).stack = (as1.map (zi_v h0 b)).reverse ++ .ref (h0 + a) :: r.map (zi_v h0 b) := by
              show st.map (zi_v h0 b) = _
              rw [hst, List.map_append, List.map_reverse, List.map_cons]
              show _ ++ Value.ref (zi_ad h0 b a) :: _ = _
              rw [zi_ad_at hne]
            have hrm : (zi_rm d (rq - (19 + zi_n P j)) (cn1 - cn) (sn1 - sn)).frames + 1 ≤ R.frames ∧ 8 + (zi_n P j + 11) + (zi_rm d (rq - (19 + zi_n P j)) (cn1 - cn) (sn1 - sn)).locals ≤ R.locals := ⟨by show d + 1 ≤ _; omega, by show 8 + (zi_n P j + 11) + (rq - (19 + zi_n P j)) ≤ _; omega⟩
            rcases f6 with f6 | ⟨host, f6⟩
            · exact zs_after (va_runV ⟨hx, hb, hml, hown, hts⟩ hM ⟨callB_of mm hts (zs_good (j := j) hO g1) rfl rfl rfl (hts _ f3) (hts _ f6) f4 hrm, hts _ g2, by rw [hq2]; exact hts _ g3⟩ hpre rfl (by rw [List.length_map]; exact hn1) hsz hstk (lv_room (by rw [zs_cats]; exact hsum)) hdg hfit) hH.2.2 kk2
            · exact zs_after (va_runVN ⟨hx, hb, hml, hown, hts⟩ hM ⟨va_cnB mm hts (zs_good (j := j) hO g1) rfl rfl rfl (hnw _ f6) (hts _ f3) f4 hrm, hts _ g2, by rw [hq2]; exact hts _ g3⟩ hpre rfl (by rw [List.length_map]; exact hn1) hsz hstk (lv_room (by rw [zs_cats]; exact hsum)) hdg hfit) hH.2.2 kk2
          · cases hinv
        · cases hinv
      · cases hinv
    · cases hinv
  · rename_i x
    split at hinv
    · rename_i j' mm _ hp
      split at hinv
      · rename_i as1 a r' hpop
        split at hinv
        · rename_i hsum
          cases hinv
          obtain ⟨hk0, -, hk2, -⟩ := (hO.2.1 _ _ _ hp).2
          obtain ⟨f1, f3, f4, f5, f6⟩ := hk0 (Or.inr (Or.inl rfl))
          obtain ⟨g1, g2, g3, g4⟩ := hk2 rfl
          obtain ⟨hn1, hst⟩ := zi_pop_at hpop
          have hM : Met l (zi_y P j) (Cond.code (zi_y P j) (zi_b P j) (zi_n P j) (zi_r P j) :: TS) (zi_rm d (rq - (19 + zi_n P j)) (cn1 - cn) (sn1 - sn)) (zi_Pc cl NW CL D cA h0 b cn (.ref a :: as1) w) (zi_Qc cl D cA h0 b v w1) (cn1 - cn) (sn1 - sn) (fun q => h0 ≤ q) :=
            va_MetF f1 rfl (zs_body ih f5 hrun hent D cA h0 b l (fun w hw => List.mem_cons_of_mem _ hw))
          have hpre : PreS s H (zi_Pc cl NW CL D cA h0 b cn (.ref a :: as1) w) (.ref (zi_ad h0 b a) :: as1.map (zi_v h0 b)) :=
            ⟨zi_blind fun w hw => (hO.2.2.2.2.1 w hw).1, zs_pre hO hC0 hH hc0 hz rfl⟩
          have hstk : (F0 m pc LS (st.map (zi_v h0 b))).stack = (as1.map (zi_v h0 b)).reverse ++ .ref (zi_ad h0 b a) :: r.map (zi_v h0 b) := by
            show st.map (zi_v h0 b) = _
            rw [hst, List.map_append, List.map_reverse, List.map_cons]
            rfl
          have hrm : (zi_rm d (rq - (19 + zi_n P j)) (cn1 - cn) (sn1 - sn)).frames + 1 ≤ R.frames ∧ 8 + (zi_n P j + 11) + (zi_rm d (rq - (19 + zi_n P j)) (cn1 - cn) (sn1 - sn)).locals ≤ R.locals := ⟨by show d + 1 ≤ _; omega, by show 8 + (zi_n P j + 11) + (rq - (19 + zi_n P j)) ≤ _; omega⟩
          rw [g4] at hM g1
          rcases f6 with f6 | ⟨host, f6⟩
          · exact zs_after (va_runI ⟨hx, hb, hml, hown, hts⟩ hM ⟨callB_of mm hts (zs_good (j := j) hO g1) rfl rfl rfl (hts _ f3) (hts _ f6) f4 hrm, g3, hts _ g2⟩ hpre rfl (by rw [List.length_map]; exact hn1) hsz hstk (lv_room (by rw [zs_cats]; exact hsum)) hdg hfit) hH.2.2 kk2
          · exact zs_after (va_runIN ⟨hx, hb, hml, hown, hts⟩ hM ⟨va_cnB mm hts (zs_good (j := j) hO g1) rfl rfl rfl (hnw _ f6) (hts _ f3) f4 hrm, g3, hts _ g2⟩ hpre rfl (by rw [List.length_map]; exact hn1) hsz hstk (lv_room (by rw [zs_cats]; exact hsum)) hdg hfit) hH.2.2 kk2
        · cases hinv
      · cases hinv
    · cases hinv
  · rename_i x
    split at hinv
    · rename_i j' mm _ hp
      split at hinv
      · rename_i as1 r' hpop
        split at hinv
        · rename_i hsum
          cases hinv
          obtain ⟨hk0, -, -, hk3⟩ := (hO.2.1 _ _ _ hp).2
          obtain ⟨f1, f3, f4, f5, f6⟩ := hk0 (Or.inr (Or.inr rfl))
          obtain ⟨g1, g2⟩ := hk3 rfl
          obtain ⟨hn1, hst⟩ := zi_pop_at hpop
          have hpre : PreS s H (zi_Pc cl NW CL D cA h0 b cn as w) (as.map (zi_v h0 b)) :=
            ⟨zi_blind fun w hw => (hO.2.2.2.2.1 w hw).1, zs_pre hO hC0 hH hc0 hz rfl⟩
          have hstk : (F0 m pc LS (st.map (zi_v h0 b))).stack = (as.map (zi_v h0 b)).reverse ++ r.map (zi_v h0 b) := by
            show st.map (zi_v h0 b) = _
            rw [hst, List.map_append, List.map_reverse]
          have hrm : (zi_rm d (rq - (19 + zi_n P j)) (cn1 - cn) (sn1 - sn)).frames + 1 ≤ R.frames ∧ 8 + (zi_n P j + 11) + (zi_rm d (rq - (19 + zi_n P j)) (cn1 - cn) (sn1 - sn)).locals ≤ R.locals := ⟨by show d + 1 ≤ _; omega, by show 8 + (zi_n P j + 11) + (rq - (19 + zi_n P j)) ≤ _; omega⟩
          rcases g2 with g2 | ⟨g3, g4, hh, g2⟩
          · have hM : Met l (zi_y P j) (Cond.code (zi_y P j) (zi_b P j) (zi_n P j) (zi_r P j) :: TS) (zi_rm d (rq - (19 + zi_n P j)) (cn1 - cn) (sn1 - sn)) (zi_Pc cl NW CL D cA h0 b cn as w) (zi_Qc cl D cA h0 b v w1) (cn1 - cn) (sn1 - sn) (fun q => h0 ≤ q) :=
              va_MetF f1 rfl (zs_body ih f5 hrun hent D cA h0 b l (fun w hw => List.mem_cons_of_mem _ hw))
            rcases f6 with f6 | ⟨host, f6⟩
            · exact zs_after (va_runS ⟨hx, hb, hml, hown, hts⟩ hM ⟨callB_of mm hts (zs_good (j := j) hO g2) rfl rfl rfl (hts _ f3) (hts _ f6) f4 hrm, hts _ g1⟩ hpre rfl (by rw [List.length_map]; exact hn1) hsz hstk (lv_room (by rw [zs_cats]; exact hsum)) hdg hfit) hH.2.2 kk2
            · exact zs_after (va_runSN ⟨hx, hb, hml, hown, hts⟩ hM ⟨va_cnB mm hts (zs_good (j := j) hO g2) rfl rfl rfl (hnw _ f6) (hts _ f3) f4 hrm, hts _ g1, trivial⟩ hpre rfl (by rw [List.length_map]; exact hn1) hsz hstk (lv_room (by rw [zs_cats]; exact hsum)) hdg hfit) hH.2.2 kk2
          · have hM : Met l (zi_y P j) (Cond.codeWith (zi_y P j) (zi_b P j) (zi_n P j) (zi_r P j) hh :: TS) (zi_rm d (rq - (19 + zi_n P j)) (cn1 - cn) (sn1 - sn)) (zi_Pc cl NW CL D cA h0 b cn as w) (zi_Qc cl D cA h0 b v w1) (cn1 - cn) (sn1 - sn) (fun q => h0 ≤ q) :=
              va_MetW g3 rfl (zs_body ih f5 hrun hent D cA h0 b l (fun w hw => List.mem_cons_of_mem _ hw))
            exact zs_after (zs_runSW hx hb hml hown hM rfl rfl hrm.1 hrm.2 (pay_in hts (zs_good (j := j) hO g2)) List.mem_cons_self (hts _ g2) (hts _ f3) ⟨f4.1, f4.2.1⟩ (fun sig hs => by have h2 := f4.2.2; rw [hs] at h2; exact (Option.some.inj h2).symm) (hts _ g4) (hts _ g1) hpre rfl (by rw [List.length_map]; exact hn1) hsz hstk (lv_room (by rw [zs_cats]; exact hsum)) hdg hfit) hH.2.2 kk2
        · cases hinv
      · cases hinv
    · cases hinv
  · cases hinv
/-- the two pieces where something is thrown, as premises of the run -/
def zi_ThrOk (exc : Nat → String) (P : zi_P) (cl : List vw_C) (TS NW : List Cond) (CL : String) (lw : Nat) : Prop :=
  ∀ (L : Nat) (xs : Nat → Int32) (d rq k pc ex : Nat) (ls : zi_L) (w : zi_W) (cn sn : Nat), zi_thr P k pc = some ex → 6 ≤ d → 90 ≤ rq → ls.length = zi_n P k →
  ∀ (l : Launch) (p : Program) (e : Env) (R : Room) (s : State) (m : MethodId) (args : Array Value) (below : List Frame) (meth : Method) (c : Code) (H : Heap) (locs : List Loc) (Q : State → Prop) (LS : Array Slot) (D : va_G) (cA : Nat → ClassId) (h0 b c0 s0 : Nat),
    zi_Cx P cl TS NW CL D cA lw L xs h0 b c0 d rq k p R s m args meth c → zi_ls h0 b LS ls → zi_Hp cl D cA h0 b s w H locs → c0 ≤ cn → s0 ≤ sn → cn + 1 ≤ c0 + R.cells → sn + 6 ≤ s0 + R.slots →
    (∀ t, zi_Thrn exc cl D cA h0 b s below w (cn + 1 - c0) (sn + 6 - s0) ex t → Q t) →
    W p l e R s m args below meth c H locs (cn - c0) (sn - s0) Q (F0 m pc LS [])
def zi_CatOk (exc : Nat → String) (P : zi_P) (cl : List vw_C) (TS NW : List Cond) (CL : String) (lw n : Nat) : Prop :=
  ∀ (L : Nat) (xs : Nat → Int32) (d rq k pc j ex : Nat) (ls ls' : zi_L) (st as r : List Value) (w w' : zi_W) (cn sn cn' sn' : Nat) (i : Jvm.ClassFile.Instr) (x : Int32), zi_code P k pc = some i → zi_inv P k i st w = some (j, as, r) → zi_ent as (zi_n P j) = some ls' → 19 + zi_n P j ≤ rq → zi_run P lw L xs n d (rq - (19 + zi_n P j)) j 0 ls' [] w cn sn = some (.inr ex, w', cn', sn') → zi_cat P k pc ex = some x → ls.length = zi_n P k →
  ∀ (l : Launch) (p : Program) (e : Env) (R : Room) (s : State) (m : MethodId) (args : Array Value) (below : List Frame) (meth : Method) (c : Code) (H : Heap) (locs : List Loc) (Q : State → Prop) (LS : Array Slot) (D : va_G) (cA : Nat → ClassId) (h0 b c0 s0 : Nat),
    zi_Cx P cl TS NW CL D cA lw L xs h0 b c0 (d + 1) rq k p R s m args meth c → zi_ls h0 b LS ls → zi_Hp cl D cA h0 b s w H locs → c0 ≤ cn → s0 ≤ sn → cn' ≤ c0 + R.cells → sn' ≤ s0 + R.slots →
    zi_End P cl D cA h0 b k p l e R s m args below meth c Q (cn' - c0) (sn' - s0) (.inl (some (.int x))) w' →
    W p l e R s m args below meth c H locs (cn - c0) (sn - s0) Q (F0 m pc LS (st.map (zi_v h0 b)))
theorem zi_or_some {a b : Option zi_C} {x : zi_C} (h : zi_or a b = some x) : a = some x ∨ b = some x := by
  unfold zi_or at h
  split at h
  · exact Or.inl h
  · exact Or.inr h
set_option maxHeartbeats 4000000 in
theorem zi_sound (hO : zi_Ok P cl TS NW CL lw) (hT : zi_ThrOk exc P cl TS NW CL lw) (hCt : ∀ n, zi_Snd exc P cl TS NW CL lw n → zi_CatOk exc P cl TS NW CL lw n) : ∀ n, zi_Snd exc P cl TS NW CL lw n := by
  intro n
  induction n with
  | zero => intro L xs d rq k pc ls st w cn sn o w' cn' sn' h; cases h
  | succ n ih =>
    intro L xs d rq k pc ls st w cn sn o w' cn' sn' h hlen l p e R s m args below meth c H locs Q LS D cA h0 b c0 s0 hC hl hH hc0 hs0 hR1 hR2 hE hEt
    have hmo := zi_run_mono _ _ _ _ _ _ _ _ _ _ _ _ _ _ h
    unfold zi_run at h
    split at h
    · rename_i ex hthr
      split at h
      rotate_left
      · cases h
      rename_i hth
      obtain ⟨rfl, hth1, hth2⟩ := hth
      cases h
      exact hT L xs d rq k pc ex ls w cn sn hthr hth1 hth2 hlen l p e R s m args below meth c H locs Q LS D cA h0 b c0 s0 hC hl hH hc0 hs0 hR1 hR2 (hEt ex rfl)
    · split at h
      · cases h
      · rename_i i hcode
        obtain ⟨len, hdg, hlen2⟩ := hO.1 _ _ _ hcode
        split at h
        · rename_i r hret
          cases h
          unfold zi_ret at hret
          split at hret
          · split at hret
            · rename_i hr
              cases hret
              have e1 : len = 1 := hlen2.resolve_left (by decide)
              subst e1
              exact hE.1 rfl hr H locs LS pc hH hdg
            · cases hret
          · rename_i x
            split at hret
            · rename_i hr
              cases hret
              have e1 : len = 1 := hlen2.resolve_left (by decide)
              subst e1
              rcases hr with hr | ⟨hr, h01⟩
              · exact hE.2 x .int rfl hr rfl H locs LS pc hH hdg
              · exact hE.2 x .boolean rfl hr (by rcases h01 with rfl | rfl <;> decide +kernel) H locs LS pc hH hdg
            · cases hret
          · cases hret
        · split at h
          · rename_i pc1 ls1 st1 w1 cn1 sn1 hsim
            split at h
            · rename_i hg
              have h1 := ih L xs d rq k pc1 ls1 st1 w1 cn1 sn1 o w' cn' sn' h (hg.2.2.trans hlen) l p e R s m args below meth c
              have hmo1 := zi_run_mono _ _ _ _ _ _ _ _ _ _ _ _ _ _ h
              have hx := hC.1
              have hb := hC.2.1
              unfold zi_sim at hsim
              by_cases hz : zi_len i = 0
              · have hno : zi_br pc (zi_len i) i ls st w cn sn = some (pc1, ls1, st1, w1, cn1, sn1) := by
                  unfold zi_len at hz
                  split at hz <;> first | (exact absurd hz (by decide)) | skip
                  rcases zi_or_some hsim with q | q
                  · unfold zi_num at q; cases q
                  · rcases zi_or_some q with q | q
                    · unfold zi_lcl at q; cases q
                    · rcases zi_or_some q with q | q
                      · exact q
                      · rcases zi_or_some q with q | q
                        · unfold zi_cel at q; cases q
                        · unfold zi_pri at q; cases q
                obtain ⟨rfl, rfl, rfl, rfl, hk⟩ := zs_br (h0 := h0) (b := b) hx hb hdg hlen2 hno
                exact hk LS (h1 H locs Q LS D cA h0 b c0 s0 hC hl hH hc0 hs0 hR1 hR2 hE hEt)
              · have hdg' : decode (zi_b P k) pc = .ok (i, zi_len i) := by rw [← hlen2.resolve_left hz]; exact hdg
                rcases zi_or_some hsim with q | q
                · obtain ⟨rfl, rfl, rfl, rfl, hk⟩ := zs_num (h0 := h0) (b := b) hx hb hdg' q
                  exact hk LS (h1 H locs Q LS D cA h0 b c0 s0 hC hl hH hc0 hs0 hR1 hR2 hE hEt)
                · rcases zi_or_some q with q | q
                  · obtain ⟨rfl, rfl, rfl, hk⟩ := zs_lcl (h0 := h0) (b := b) hx hb hdg' q
                    exact hk LS hl fun LS' hl' => h1 H locs Q LS' D cA h0 b c0 s0 hC hl' hH hc0 hs0 hR1 hR2 hE hEt
                  · rcases zi_or_some q with q | q
                    · obtain ⟨rfl, rfl, rfl, rfl, hk⟩ := zs_br (h0 := h0) (b := b) hx hb hdg hlen2 q
                      exact hk LS (h1 H locs Q LS D cA h0 b c0 s0 hC hl hH hc0 hs0 hR1 hR2 hE hEt)
                    · rcases zi_or_some q with q | q
                      · obtain ⟨rfl, m1, m2, hk⟩ := zs_cel (l := l) (e := e) (below := below) (Q := Q) hC (fun x t ht => (hO.2.1 k x t ht).1) hO.2.2.1 hO.2.2.2.1 (fun w hw => (hO.2.2.2.2.1 w hw).1) hH hc0 hs0 hdg' q
                        exact hk (by omega) (by omega) LS fun H' locs' hH' => h1 H' locs' Q LS D cA h0 b c0 s0 hC hl hH' (by omega) (by omega) hR1 hR2 hE hEt
                      · obtain ⟨rfl, rfl, rfl, hk⟩ := zs_pri (l := l) (e := e) (below := below) (Q := Q) (s0 := s0) hC (fun x t ht => (hO.2.1 k x t ht).1) hH hdg' q
                        exact hk (by omega) (by omega) LS hl hlen fun H' locs' hH' => h1 H' locs' Q LS D cA h0 b c0 s0 hC hl hH' hc0 hs0 hR1 hR2 hE hEt
            · cases h
          · split at h
            · rename_i j as r d' hinv hsn
              have hdg' : decode (zi_b P k) pc = .ok (i, zi_len i) := by
                rcases hlen2 with q | q
                · unfold zi_len at q
                  split at q <;> first | (exact absurd q (by decide)) | skip
                  unfold zi_inv at hinv
                  cases hinv
                · rw [← q]; exact hdg
              split at h
              · cases h
              · rename_i ls' hent
                split at h
                rotate_left
                · cases h
                rename_i hq
                split at h
                · rename_i v w1 cn1 sn1 hrun
                  have hmo1 := zi_run_mono _ _ _ _ _ _ _ _ _ _ _ _ _ _ h
                  have hmo2 := zi_run_mono _ _ _ _ _ _ _ _ _ _ _ _ _ _ hrun
                  exact zs_call hO ih hC hH hl hlen hc0 hs0 hdg' hinv hent hq hrun (by omega) (by omega) fun H' locs' hH' => ih L xs _ rq k _ ls _ w1 cn1 sn1 o w' cn' sn' h hlen l p e R s m args below meth c H' locs' Q LS D cA h0 b c0 s0 hC hl hH' (by omega) (by omega) hR1 hR2 hE hEt
                · rename_i ex w1 cn1 sn1 hrun
                  split at h
                  · rename_i x hcat
                    cases h
                    exact hCt n ih L xs d' rq k pc j ex ls ls' st as r w _ cn sn _ _ i x hcode hinv hent hq hrun hcat hlen l p e R s m args below meth c H locs Q LS D cA h0 b c0 s0 hC hl hH hc0 hs0 hR1 hR2 hE
                  · cases h
                · cases h
            · cases h
end ZQ
end
section
-- ===== PART A: goes FIRST, ahead of the names: the tables' words, and 'selects' of the private methods out of them =====
/-- a private method of a class that the tables say can be made, by its rows of tables_1 -/
def lw_okq (q : MethodName × Nat) : Prop := (q.1.cls ≠ "java/lang/invoke/MethodHandle" ∧ q.1.cls ≠ "java/lang/invoke/VarHandle") ∧ Cond.instantiable q.1.cls q.2 ∈ tables_1 ∧ Cond.privateMethod q.1 ∈ tables_1 ∧ Cond.instanceMethod q.1 ∈ tables_1
theorem lw_p0 : lw_okq (⟨"PatienceTable$Layout", "rowOf", "(I)I"⟩, 6) := ⟨⟨by decide +kernel, by decide +kernel⟩, List.mem_of_getElem? (i := 61) (by decide +kernel), List.mem_of_getElem? (i := 264) (by decide +kernel), List.mem_of_getElem? (i := 265) (by decide +kernel)⟩
theorem lw_p1 : lw_okq (⟨"PatienceTable$Layout", "bears", "(II)Z"⟩, 6) := ⟨⟨by decide +kernel, by decide +kernel⟩, List.mem_of_getElem? (i := 61) (by decide +kernel), List.mem_of_getElem? (i := 293) (by decide +kernel), List.mem_of_getElem? (i := 294) (by decide +kernel)⟩
theorem lw_p2 : lw_okq (⟨"PatienceTable$Layout", "mayGoHome", "(I)Z"⟩, 6) := ⟨⟨by decide +kernel, by decide +kernel⟩, List.mem_of_getElem? (i := 61) (by decide +kernel), List.mem_of_getElem? (i := 302) (by decide +kernel), List.mem_of_getElem? (i := 303) (by decide +kernel)⟩
theorem lw_p3 : lw_okq (⟨"PatienceTable$Layout", "allowsRow", "(III)Z"⟩, 6) := ⟨⟨by decide +kernel, by decide +kernel⟩, List.mem_of_getElem? (i := 61) (by decide +kernel), List.mem_of_getElem? (i := 308) (by decide +kernel), List.mem_of_getElem? (i := 309) (by decide +kernel)⟩
theorem lw_p4 : lw_okq (⟨"PatienceTable$Layout", "mostAtOnce", "(I)I"⟩, 6) := ⟨⟨by decide +kernel, by decide +kernel⟩, List.mem_of_getElem? (i := 61) (by decide +kernel), List.mem_of_getElem? (i := 312) (by decide +kernel), List.mem_of_getElem? (i := 313) (by decide +kernel)⟩
theorem lw_p5 : lw_okq (⟨"PatienceTable$Layout", "emptyAmong", "(II)I"⟩, 6) := ⟨⟨by decide +kernel, by decide +kernel⟩, List.mem_of_getElem? (i := 61) (by decide +kernel), List.mem_of_getElem? (i := 316) (by decide +kernel), List.mem_of_getElem? (i := 317) (by decide +kernel)⟩
theorem lw_p6 : lw_okq (⟨"java/lang/Throwable", "fillInStackTrace", "(I)Ljava/lang/Throwable;"⟩, 6) := ⟨⟨by decide +kernel, by decide +kernel⟩, List.mem_of_getElem? (i := 375) (by decide +kernel), List.mem_of_getElem? (i := 373) (by decide +kernel), List.mem_of_getElem? (i := 374) (by decide +kernel)⟩
theorem lw_p7 : lw_okq (⟨"PatienceTable", "bring", "(III)V"⟩, 6) := ⟨⟨by decide +kernel, by decide +kernel⟩, List.mem_of_getElem? (i := 17) (by decide +kernel), List.mem_of_getElem? (i := 458) (by decide +kernel), List.mem_of_getElem? (i := 459) (by decide +kernel)⟩
theorem lw_p8 : lw_okq (⟨"PatienceTable$Layout", "isTopSafe", "(I)Z"⟩, 6) := ⟨⟨by decide +kernel, by decide +kernel⟩, List.mem_of_getElem? (i := 61) (by decide +kernel), List.mem_of_getElem? (i := 499) (by decide +kernel), List.mem_of_getElem? (i := 500) (by decide +kernel)⟩
theorem lw_p9 : lw_okq (⟨"PatienceTable$Layout", "isSafe", "(I)Z"⟩, 6) := ⟨⟨by decide +kernel, by decide +kernel⟩, List.mem_of_getElem? (i := 61) (by decide +kernel), List.mem_of_getElem? (i := 503) (by decide +kernel), List.mem_of_getElem? (i := 504) (by decide +kernel)⟩
theorem lw_p10 : lw_okq (⟨"PatienceTable$Search", "begin", "(LPatienceTable$Layout;I)V"⟩, 10) := ⟨⟨by decide +kernel, by decide +kernel⟩, List.mem_of_getElem? (i := 129) (by decide +kernel), List.mem_of_getElem? (i := 548) (by decide +kernel), List.mem_of_getElem? (i := 549) (by decide +kernel)⟩
theorem lw_p11 : lw_okq (⟨"PatienceTable$Search", "hashOf", "(LPatienceTable$Layout;)I"⟩, 10) := ⟨⟨by decide +kernel, by decide +kernel⟩, List.mem_of_getElem? (i := 129) (by decide +kernel), List.mem_of_getElem? (i := 560) (by decide +kernel), List.mem_of_getElem? (i := 561) (by decide +kernel)⟩
theorem lw_p12 : lw_okq (⟨"PatienceTable$Search", "expand", "(I)V"⟩, 10) := ⟨⟨by decide +kernel, by decide +kernel⟩, List.mem_of_getElem? (i := 129) (by decide +kernel), List.mem_of_getElem? (i := 574) (by decide +kernel), List.mem_of_getElem? (i := 575) (by decide +kernel)⟩
theorem lw_p13 : lw_okq (⟨"PatienceTable$Search", "reach", "(III)V"⟩, 10) := ⟨⟨by decide +kernel, by decide +kernel⟩, List.mem_of_getElem? (i := 129) (by decide +kernel), List.mem_of_getElem? (i := 579) (by decide +kernel), List.mem_of_getElem? (i := 580) (by decide +kernel)⟩
theorem lw_p14 : lw_okq (⟨"PatienceTable$Search", "slotFor", "(ILPatienceTable$Layout;II)I"⟩, 10) := ⟨⟨by decide +kernel, by decide +kernel⟩, List.mem_of_getElem? (i := 129) (by decide +kernel), List.mem_of_getElem? (i := 584) (by decide +kernel), List.mem_of_getElem? (i := 585) (by decide +kernel)⟩
theorem lw_p15 : lw_okq (⟨"PatienceTable$Search", "isAlike", "(LPatienceTable$Layout;LPatienceTable$Layout;II)Z"⟩, 10) := ⟨⟨by decide +kernel, by decide +kernel⟩, List.mem_of_getElem? (i := 129) (by decide +kernel), List.mem_of_getElem? (i := 588) (by decide +kernel), List.mem_of_getElem? (i := 589) (by decide +kernel)⟩
def lw_privs_1 : List (MethodName × Nat) := [(⟨"PatienceTable$Layout", "rowOf", "(I)I"⟩, 6), (⟨"PatienceTable$Layout", "bears", "(II)Z"⟩, 6), (⟨"PatienceTable$Layout", "mayGoHome", "(I)Z"⟩, 6), (⟨"PatienceTable$Layout", "allowsRow", "(III)Z"⟩, 6), (⟨"PatienceTable$Layout", "mostAtOnce", "(I)I"⟩, 6), (⟨"PatienceTable$Layout", "emptyAmong", "(II)I"⟩, 6), (⟨"java/lang/Throwable", "fillInStackTrace", "(I)Ljava/lang/Throwable;"⟩, 6), (⟨"PatienceTable", "bring", "(III)V"⟩, 6), (⟨"PatienceTable$Layout", "isTopSafe", "(I)Z"⟩, 6), (⟨"PatienceTable$Layout", "isSafe", "(I)Z"⟩, 6), (⟨"PatienceTable$Search", "begin", "(LPatienceTable$Layout;I)V"⟩, 10), (⟨"PatienceTable$Search", "hashOf", "(LPatienceTable$Layout;)I"⟩, 10), (⟨"PatienceTable$Search", "expand", "(I)V"⟩, 10), (⟨"PatienceTable$Search", "reach", "(III)V"⟩, 10), (⟨"PatienceTable$Search", "slotFor", "(ILPatienceTable$Layout;II)I"⟩, 10), (⟨"PatienceTable$Search", "isAlike", "(LPatienceTable$Layout;LPatienceTable$Layout;II)Z"⟩, 10)]
theorem lw_r1 : ∀ q ∈ lw_privs_1, lw_okq q := List.forall_mem_cons.mpr ⟨lw_p0, List.forall_mem_cons.mpr ⟨lw_p1, List.forall_mem_cons.mpr ⟨lw_p2, List.forall_mem_cons.mpr ⟨lw_p3, List.forall_mem_cons.mpr ⟨lw_p4, List.forall_mem_cons.mpr ⟨lw_p5, List.forall_mem_cons.mpr ⟨lw_p6, List.forall_mem_cons.mpr ⟨lw_p7, List.forall_mem_cons.mpr ⟨lw_p8, List.forall_mem_cons.mpr ⟨lw_p9, List.forall_mem_cons.mpr ⟨lw_p10, List.forall_mem_cons.mpr ⟨lw_p11, List.forall_mem_cons.mpr ⟨lw_p12, List.forall_mem_cons.mpr ⟨lw_p13, List.forall_mem_cons.mpr ⟨lw_p14, List.forall_mem_cons.mpr ⟨lw_p15, fun _ h => absurd h List.not_mem_nil⟩⟩⟩⟩⟩⟩⟩⟩⟩⟩⟩⟩⟩⟩⟩⟩
theorem lw_p16 : lw_okq (⟨"PatienceTableModel", "wipe", "()V"⟩, 29) := ⟨⟨by decide +kernel, by decide +kernel⟩, List.mem_of_getElem? (i := 593) (by decide +kernel), List.mem_of_getElem? (i := 599) (by decide +kernel), List.mem_of_getElem? (i := 600) (by decide +kernel)⟩
theorem lw_p17 : lw_okq (⟨"PatienceTableModel", "all", "()I"⟩, 29) := ⟨⟨by decide +kernel, by decide +kernel⟩, List.mem_of_getElem? (i := 593) (by decide +kernel), List.mem_of_getElem? (i := 715) (by decide +kernel), List.mem_of_getElem? (i := 716) (by decide +kernel)⟩
theorem lw_p18 : lw_okq (⟨"PatienceTableModel", "push", "(II)V"⟩, 29) := ⟨⟨by decide +kernel, by decide +kernel⟩, List.mem_of_getElem? (i := 593) (by decide +kernel), List.mem_of_getElem? (i := 723) (by decide +kernel), List.mem_of_getElem? (i := 724) (by decide +kernel)⟩
theorem lw_p19 : lw_okq (⟨"PatienceTableModel", "refuse", "(I)I"⟩, 29) := ⟨⟨by decide +kernel, by decide +kernel⟩, List.mem_of_getElem? (i := 593) (by decide +kernel), List.mem_of_getElem? (i := 731) (by decide +kernel), List.mem_of_getElem? (i := 732) (by decide +kernel)⟩
theorem lw_p20 : lw_okq (⟨"PatienceTableModel", "laid", "()I"⟩, 29) := ⟨⟨by decide +kernel, by decide +kernel⟩, List.mem_of_getElem? (i := 593) (by decide +kernel), List.mem_of_getElem? (i := 735) (by decide +kernel), List.mem_of_getElem? (i := 736) (by decide +kernel)⟩
theorem lw_p21 : lw_okq (⟨"PatienceTableModel", "isColumn", "(I)Z"⟩, 29) := ⟨⟨by decide +kernel, by decide +kernel⟩, List.mem_of_getElem? (i := 593) (by decide +kernel), List.mem_of_getElem? (i := 743) (by decide +kernel), List.mem_of_getElem? (i := 744) (by decide +kernel)⟩
theorem lw_p22 : lw_okq (⟨"PatienceTableModel", "isCell", "(I)Z"⟩, 29) := ⟨⟨by decide +kernel, by decide +kernel⟩, List.mem_of_getElem? (i := 593) (by decide +kernel), List.mem_of_getElem? (i := 747) (by decide +kernel), List.mem_of_getElem? (i := 748) (by decide +kernel)⟩
theorem lw_p23 : lw_okq (⟨"PatienceTableModel", "may", "(III)Z"⟩, 29) := ⟨⟨by decide +kernel, by decide +kernel⟩, List.mem_of_getElem? (i := 593) (by decide +kernel), List.mem_of_getElem? (i := 751) (by decide +kernel), List.mem_of_getElem? (i := 752) (by decide +kernel)⟩
theorem lw_p24 : lw_okq (⟨"PatienceTableModel", "mayOne", "(II)Z"⟩, 29) := ⟨⟨by decide +kernel, by decide +kernel⟩, List.mem_of_getElem? (i := 593) (by decide +kernel), List.mem_of_getElem? (i := 755) (by decide +kernel), List.mem_of_getElem? (i := 756) (by decide +kernel)⟩
theorem lw_p25 : lw_okq (⟨"PatienceTableModel", "topOf", "(I)I"⟩, 29) := ⟨⟨by decide +kernel, by decide +kernel⟩, List.mem_of_getElem? (i := 593) (by decide +kernel), List.mem_of_getElem? (i := 759) (by decide +kernel), List.mem_of_getElem? (i := 760) (by decide +kernel)⟩
theorem lw_p26 : lw_okq (⟨"PatienceTableModel", "fromTop", "(II)I"⟩, 29) := ⟨⟨by decide +kernel, by decide +kernel⟩, List.mem_of_getElem? (i := 593) (by decide +kernel), List.mem_of_getElem? (i := 763) (by decide +kernel), List.mem_of_getElem? (i := 764) (by decide +kernel)⟩
theorem lw_p27 : lw_okq (⟨"PatienceTableModel", "suit", "(I)I"⟩, 29) := ⟨⟨by decide +kernel, by decide +kernel⟩, List.mem_of_getElem? (i := 593) (by decide +kernel), List.mem_of_getElem? (i := 767) (by decide +kernel), List.mem_of_getElem? (i := 768) (by decide +kernel)⟩
theorem lw_p28 : lw_okq (⟨"PatienceTableModel", "rank", "(I)I"⟩, 29) := ⟨⟨by decide +kernel, by decide +kernel⟩, List.mem_of_getElem? (i := 593) (by decide +kernel), List.mem_of_getElem? (i := 771) (by decide +kernel), List.mem_of_getElem? (i := 772) (by decide +kernel)⟩
theorem lw_p29 : lw_okq (⟨"PatienceTableModel", "fitsAt", "(II)Z"⟩, 29) := ⟨⟨by decide +kernel, by decide +kernel⟩, List.mem_of_getElem? (i := 593) (by decide +kernel), List.mem_of_getElem? (i := 775) (by decide +kernel), List.mem_of_getElem? (i := 776) (by decide +kernel)⟩
theorem lw_p30 : lw_okq (⟨"PatienceTableModel", "fitsEmpty", "(I)Z"⟩, 29) := ⟨⟨by decide +kernel, by decide +kernel⟩, List.mem_of_getElem? (i := 593) (by decide +kernel), List.mem_of_getElem? (i := 779) (by decide +kernel), List.mem_of_getElem? (i := 780) (by decide +kernel)⟩
theorem lw_p31 : lw_okq (⟨"PatienceTableModel", "fitsOn", "(II)Z"⟩, 29) := ⟨⟨by decide +kernel, by decide +kernel⟩, List.mem_of_getElem? (i := 593) (by decide +kernel), List.mem_of_getElem? (i := 783) (by decide +kernel), List.mem_of_getElem? (i := 784) (by decide +kernel)⟩
def lw_privs_2 : List (MethodName × Nat) := [(⟨"PatienceTableModel", "wipe", "()V"⟩, 29), (⟨"PatienceTableModel", "all", "()I"⟩, 29), (⟨"PatienceTableModel", "push", "(II)V"⟩, 29), (⟨"PatienceTableModel", "refuse", "(I)I"⟩, 29), (⟨"PatienceTableModel", "laid", "()I"⟩, 29), (⟨"PatienceTableModel", "isColumn", "(I)Z"⟩, 29), (⟨"PatienceTableModel", "isCell", "(I)Z"⟩, 29), (⟨"PatienceTableModel", "may", "(III)Z"⟩, 29), (⟨"PatienceTableModel", "mayOne", "(II)Z"⟩, 29), (⟨"PatienceTableModel", "topOf", "(I)I"⟩, 29), (⟨"PatienceTableModel", "fromTop", "(II)I"⟩, 29), (⟨"PatienceTableModel", "suit", "(I)I"⟩, 29), (⟨"PatienceTableModel", "rank", "(I)I"⟩, 29), (⟨"PatienceTableModel", "fitsAt", "(II)Z"⟩, 29), (⟨"PatienceTableModel", "fitsEmpty", "(I)Z"⟩, 29), (⟨"PatienceTableModel", "fitsOn", "(II)Z"⟩, 29)]
theorem lw_r2 : ∀ q ∈ lw_privs_2, lw_okq q := List.forall_mem_cons.mpr ⟨lw_p16, List.forall_mem_cons.mpr ⟨lw_p17, List.forall_mem_cons.mpr ⟨lw_p18, List.forall_mem_cons.mpr ⟨lw_p19, List.forall_mem_cons.mpr ⟨lw_p20, List.forall_mem_cons.mpr ⟨lw_p21, List.forall_mem_cons.mpr ⟨lw_p22, List.forall_mem_cons.mpr ⟨lw_p23, List.forall_mem_cons.mpr ⟨lw_p24, List.forall_mem_cons.mpr ⟨lw_p25, List.forall_mem_cons.mpr ⟨lw_p26, List.forall_mem_cons.mpr ⟨lw_p27, List.forall_mem_cons.mpr ⟨lw_p28, List.forall_mem_cons.mpr ⟨lw_p29, List.forall_mem_cons.mpr ⟨lw_p30, List.forall_mem_cons.mpr ⟨lw_p31, fun _ h => absurd h List.not_mem_nil⟩⟩⟩⟩⟩⟩⟩⟩⟩⟩⟩⟩⟩⟩⟩⟩
theorem lw_p32 : lw_okq (⟨"PatienceTableModel", "limit", "(I)I"⟩, 29) := ⟨⟨by decide +kernel, by decide +kernel⟩, List.mem_of_getElem? (i := 593) (by decide +kernel), List.mem_of_getElem? (i := 790) (by decide +kernel), List.mem_of_getElem? (i := 791) (by decide +kernel)⟩
theorem lw_p33 : lw_okq (⟨"PatienceTableModel", "make", "(III)V"⟩, 29) := ⟨⟨by decide +kernel, by decide +kernel⟩, List.mem_of_getElem? (i := 593) (by decide +kernel), List.mem_of_getElem? (i := 794) (by decide +kernel), List.mem_of_getElem? (i := 795) (by decide +kernel)⟩
theorem lw_p34 : lw_okq (⟨"PatienceTableModel", "bring", "(IIII)V"⟩, 29) := ⟨⟨by decide +kernel, by decide +kernel⟩, List.mem_of_getElem? (i := 593) (by decide +kernel), List.mem_of_getElem? (i := 798) (by decide +kernel), List.mem_of_getElem? (i := 799) (by decide +kernel)⟩
theorem lw_p35 : lw_okq (⟨"PatienceTableModel", "take", "(II)I"⟩, 29) := ⟨⟨by decide +kernel, by decide +kernel⟩, List.mem_of_getElem? (i := 593) (by decide +kernel), List.mem_of_getElem? (i := 802) (by decide +kernel), List.mem_of_getElem? (i := 803) (by decide +kernel)⟩
theorem lw_p36 : lw_okq (⟨"PatienceTableModel", "give", "(II)V"⟩, 29) := ⟨⟨by decide +kernel, by decide +kernel⟩, List.mem_of_getElem? (i := 593) (by decide +kernel), List.mem_of_getElem? (i := 806) (by decide +kernel), List.mem_of_getElem? (i := 807) (by decide +kernel)⟩
theorem lw_p37 : lw_okq (⟨"PatienceTableModel", "atHome", "()I"⟩, 29) := ⟨⟨by decide +kernel, by decide +kernel⟩, List.mem_of_getElem? (i := 593) (by decide +kernel), List.mem_of_getElem? (i := 810) (by decide +kernel), List.mem_of_getElem? (i := 811) (by decide +kernel)⟩
theorem lw_p38 : lw_okq (⟨"PatienceTableModel", "placeOf", "(I)I"⟩, 29) := ⟨⟨by decide +kernel, by decide +kernel⟩, List.mem_of_getElem? (i := 593) (by decide +kernel), List.mem_of_getElem? (i := 818) (by decide +kernel), List.mem_of_getElem? (i := 819) (by decide +kernel)⟩
theorem lw_p39 : lw_okq (⟨"PatienceTableModel", "mostOf", "(II)I"⟩, 29) := ⟨⟨by decide +kernel, by decide +kernel⟩, List.mem_of_getElem? (i := 593) (by decide +kernel), List.mem_of_getElem? (i := 822) (by decide +kernel), List.mem_of_getElem? (i := 823) (by decide +kernel)⟩
theorem lw_p40 : lw_okq (⟨"PatienceTableModel", "safePlace", "()I"⟩, 29) := ⟨⟨by decide +kernel, by decide +kernel⟩, List.mem_of_getElem? (i := 593) (by decide +kernel), List.mem_of_getElem? (i := 830) (by decide +kernel), List.mem_of_getElem? (i := 831) (by decide +kernel)⟩
theorem lw_p41 : lw_okq (⟨"PatienceTableModel", "isSafe", "(I)Z"⟩, 29) := ⟨⟨by decide +kernel, by decide +kernel⟩, List.mem_of_getElem? (i := 593) (by decide +kernel), List.mem_of_getElem? (i := 834) (by decide +kernel), List.mem_of_getElem? (i := 835) (by decide +kernel)⟩
theorem lw_p42 : lw_okq (⟨"PatienceTableModel", "search", "(I)I"⟩, 29) := ⟨⟨by decide +kernel, by decide +kernel⟩, List.mem_of_getElem? (i := 593) (by decide +kernel), List.mem_of_getElem? (i := 862) (by decide +kernel), List.mem_of_getElem? (i := 863) (by decide +kernel)⟩
theorem lw_p43 : lw_okq (⟨"PatienceTableModel", "begin", "()V"⟩, 29) := ⟨⟨by decide +kernel, by decide +kernel⟩, List.mem_of_getElem? (i := 593) (by decide +kernel), List.mem_of_getElem? (i := 866) (by decide +kernel), List.mem_of_getElem? (i := 867) (by decide +kernel)⟩
theorem lw_p44 : lw_okq (⟨"PatienceTableModel", "sumOf", "(I)I"⟩, 29) := ⟨⟨by decide +kernel, by decide +kernel⟩, List.mem_of_getElem? (i := 593) (by decide +kernel), List.mem_of_getElem? (i := 870) (by decide +kernel), List.mem_of_getElem? (i := 871) (by decide +kernel)⟩
theorem lw_p45 : lw_okq (⟨"PatienceTableModel", "spread", "(II)Z"⟩, 29) := ⟨⟨by decide +kernel, by decide +kernel⟩, List.mem_of_getElem? (i := 593) (by decide +kernel), List.mem_of_getElem? (i := 874) (by decide +kernel), List.mem_of_getElem? (i := 875) (by decide +kernel)⟩
theorem lw_p46 : lw_okq (⟨"PatienceTableModel", "regard", "(I)V"⟩, 29) := ⟨⟨by decide +kernel, by decide +kernel⟩, List.mem_of_getElem? (i := 593) (by decide +kernel), List.mem_of_getElem? (i := 878) (by decide +kernel), List.mem_of_getElem? (i := 879) (by decide +kernel)⟩
theorem lw_p47 : lw_okq (⟨"PatienceTableModel", "mayLie", "(III)Z"⟩, 29) := ⟨⟨by decide +kernel, by decide +kernel⟩, List.mem_of_getElem? (i := 593) (by decide +kernel), List.mem_of_getElem? (i := 882) (by decide +kernel), List.mem_of_getElem? (i := 883) (by decide +kernel)⟩
def lw_privs_3 : List (MethodName × Nat) := [(⟨"PatienceTableModel", "limit", "(I)I"⟩, 29), (⟨"PatienceTableModel", "make", "(III)V"⟩, 29), (⟨"PatienceTableModel", "bring", "(IIII)V"⟩, 29), (⟨"PatienceTableModel", "take", "(II)I"⟩, 29), (⟨"PatienceTableModel", "give", "(II)V"⟩, 29), (⟨"PatienceTableModel", "atHome", "()I"⟩, 29), (⟨"PatienceTableModel", "placeOf", "(I)I"⟩, 29), (⟨"PatienceTableModel", "mostOf", "(II)I"⟩, 29), (⟨"PatienceTableModel", "safePlace", "()I"⟩, 29), (⟨"PatienceTableModel", "isSafe", "(I)Z"⟩, 29), (⟨"PatienceTableModel", "search", "(I)I"⟩, 29), (⟨"PatienceTableModel", "begin", "()V"⟩, 29), (⟨"PatienceTableModel", "sumOf", "(I)I"⟩, 29), (⟨"PatienceTableModel", "spread", "(II)Z"⟩, 29), (⟨"PatienceTableModel", "regard", "(I)V"⟩, 29), (⟨"PatienceTableModel", "mayLie", "(III)Z"⟩, 29)]
theorem lw_r3 : ∀ q ∈ lw_privs_3, lw_okq q := List.forall_mem_cons.mpr ⟨lw_p32, List.forall_mem_cons.mpr ⟨lw_p33, List.forall_mem_cons.mpr ⟨lw_p34, List.forall_mem_cons.mpr ⟨lw_p35, List.forall_mem_cons.mpr ⟨lw_p36, List.forall_mem_cons.mpr ⟨lw_p37, List.forall_mem_cons.mpr ⟨lw_p38, List.forall_mem_cons.mpr ⟨lw_p39, List.forall_mem_cons.mpr ⟨lw_p40, List.forall_mem_cons.mpr ⟨lw_p41, List.forall_mem_cons.mpr ⟨lw_p42, List.forall_mem_cons.mpr ⟨lw_p43, List.forall_mem_cons.mpr ⟨lw_p44, List.forall_mem_cons.mpr ⟨lw_p45, List.forall_mem_cons.mpr ⟨lw_p46, List.forall_mem_cons.mpr ⟨lw_p47, fun _ h => absurd h List.not_mem_nil⟩⟩⟩⟩⟩⟩⟩⟩⟩⟩⟩⟩⟩⟩⟩⟩
theorem lw_p48 : lw_okq (⟨"PatienceTableModel", "tried", "(III)I"⟩, 29) := ⟨⟨by decide +kernel, by decide +kernel⟩, List.mem_of_getElem? (i := 593) (by decide +kernel), List.mem_of_getElem? (i := 886) (by decide +kernel), List.mem_of_getElem? (i := 887) (by decide +kernel)⟩
theorem lw_p49 : lw_okq (⟨"PatienceTableModel", "firstMove", "()I"⟩, 29) := ⟨⟨by decide +kernel, by decide +kernel⟩, List.mem_of_getElem? (i := 593) (by decide +kernel), List.mem_of_getElem? (i := 893) (by decide +kernel), List.mem_of_getElem? (i := 894) (by decide +kernel)⟩
theorem lw_p50 : lw_okq (⟨"PatienceTableModel", "isGood", "(II)Z"⟩, 29) := ⟨⟨by decide +kernel, by decide +kernel⟩, List.mem_of_getElem? (i := 593) (by decide +kernel), List.mem_of_getElem? (i := 897) (by decide +kernel), List.mem_of_getElem? (i := 898) (by decide +kernel)⟩
theorem lw_p51 : lw_okq (⟨"PatienceTableModel", "leads", "(IIII)Z"⟩, 29) := ⟨⟨by decide +kernel, by decide +kernel⟩, List.mem_of_getElem? (i := 593) (by decide +kernel), List.mem_of_getElem? (i := 901) (by decide +kernel), List.mem_of_getElem? (i := 902) (by decide +kernel)⟩
theorem lw_p52 : lw_okq (⟨"PatienceTableModel", "onAt", "(I)I"⟩, 29) := ⟨⟨by decide +kernel, by decide +kernel⟩, List.mem_of_getElem? (i := 593) (by decide +kernel), List.mem_of_getElem? (i := 905) (by decide +kernel), List.mem_of_getElem? (i := 906) (by decide +kernel)⟩
def lw_privs_4 : List (MethodName × Nat) := [(⟨"PatienceTableModel", "tried", "(III)I"⟩, 29), (⟨"PatienceTableModel", "firstMove", "()I"⟩, 29), (⟨"PatienceTableModel", "isGood", "(II)Z"⟩, 29), (⟨"PatienceTableModel", "leads", "(IIII)Z"⟩, 29), (⟨"PatienceTableModel", "onAt", "(I)I"⟩, 29)]
theorem lw_r4 : ∀ q ∈ lw_privs_4, lw_okq q := List.forall_mem_cons.mpr ⟨lw_p48, List.forall_mem_cons.mpr ⟨lw_p49, List.forall_mem_cons.mpr ⟨lw_p50, List.forall_mem_cons.mpr ⟨lw_p51, List.forall_mem_cons.mpr ⟨lw_p52, fun _ h => absurd h List.not_mem_nil⟩⟩⟩⟩⟩
def lw_privs : List (MethodName × Nat) := lw_privs_1 ++ (lw_privs_2 ++ (lw_privs_3 ++ (lw_privs_4)))
def lw_tbl : List Cond := k2_sels lw_privs ++ tables_1
theorem lw_privs_ok : ∀ q ∈ lw_privs, lw_okq q := by
  show ∀ q ∈ lw_privs_1 ++ (lw_privs_2 ++ (lw_privs_3 ++ (lw_privs_4))), lw_okq q
  exact List.forall_mem_append.mpr ⟨lw_r1, List.forall_mem_append.mpr ⟨lw_r2, List.forall_mem_append.mpr ⟨lw_r3, lw_r4⟩⟩⟩
end
section
/-! The program as the interpreter takes it: classes, methods, code, pools. By program (wip/whole/gen/gen.py). -/
def zp_T0 : u_T := fun k => match k with
  | 0 => ("PatienceTable", "game", "LPatienceTable$Game;", true)
  | 1 => ("PatienceTable", "table", "LPatienceTable$Layout;", true)
  | 2 => ("PatienceTable", "played", "LPatienceTable$Log;", true)
  | 3 => ("PatienceTable", "search", "LPatienceTable$Search;", true)
  | 4 => ("PatienceTable", "rest", "[I", true)
  | _ => ("PatienceTable", "hinted", "I", false)
def zp_T1 : u_T := fun k => match k with
  | 0 => ("PatienceTable$Game", "columns", "I", false)
  | 1 => ("PatienceTable$Game", "cells", "I", false)
  | 2 => ("PatienceTable$Game", "build", "I", false)
  | 3 => ("PatienceTable$Game", "fill", "I", false)
  | 4 => ("PatienceTable$Game", "suits", "I", false)
  | _ => ("PatienceTable$Game", "ranks", "I", false)
def zp_T2 : u_T := fun k => match k with
  | 0 => ("PatienceTable$Layout", "game", "LPatienceTable$Game;", true)
  | 1 => ("PatienceTable$Layout", "beneath", "[I", true)
  | 2 => ("PatienceTable$Layout", "tops", "[I", true)
  | 3 => ("PatienceTable$Layout", "homeRanks", "[I", true)
  | 4 => ("PatienceTable$Layout", "laid", "I", false)
  | _ => ("PatienceTable$Layout", "atHome", "I", false)
def zp_T3 : u_T := fun k => match k with
  | 0 => ("PatienceTable$Log", "lowests", "[I", true)
  | 1 => ("PatienceTable$Log", "sources", "[I", true)
  | 2 => ("PatienceTable$Log", "targets", "[I", true)
  | 3 => ("PatienceTable$Log", "amounts", "[I", true)
  | 4 => ("PatienceTable$Log", "next", "I", false)
  | _ => ("PatienceTable$Log", "count", "I", false)
def zp_T4 : u_T := fun k => match k with
  | 0 => ("PatienceTable$Search", "game", "LPatienceTable$Game;", true)
  | 1 => ("PatienceTable$Search", "found", "[LPatienceTable$Layout;", true)
  | 2 => ("PatienceTable$Search", "hashes", "[I", true)
  | 3 => ("PatienceTable$Search", "firstSteps", "[I", true)
  | 4 => ("PatienceTable$Search", "slots", "[I", true)
  | 5 => ("PatienceTable$Search", "fuel", "I", false)
  | 6 => ("PatienceTable$Search", "count", "I", false)
  | 7 => ("PatienceTable$Search", "hasTooMany", "Z", false)
  | 8 => ("PatienceTable$Search", "firstStep", "I", false)
  | _ => ("PatienceTable$Search", "passed", "I", false)
def zp_T5 : u_T := fun k => match k with
  | 0 => ("PatienceTableModel", "thrown", "I", false)
  | 1 => ("PatienceTableModel", "columns", "I", false)
  | 2 => ("PatienceTableModel", "cells", "I", false)
  | 3 => ("PatienceTableModel", "build", "I", false)
  | 4 => ("PatienceTableModel", "fill", "I", false)
  | 5 => ("PatienceTableModel", "suits", "I", false)
  | 6 => ("PatienceTableModel", "ranks", "I", false)
  | 7 => ("PatienceTableModel", "column", "[I", true)
  | 8 => ("PatienceTableModel", "height", "[I", true)
  | 9 => ("PatienceTableModel", "cell", "[I", true)
  | 10 => ("PatienceTableModel", "home", "[I", true)
  | 11 => ("PatienceTableModel", "lies", "[Z", true)
  | 12 => ("PatienceTableModel", "rest", "[I", true)
  | 13 => ("PatienceTableModel", "logs", "I", false)
  | 14 => ("PatienceTableModel", "log", "[I", true)
  | 15 => ("PatienceTableModel", "hinted", "I", false)
  | 16 => ("PatienceTableModel", "seen", "I", false)
  | 17 => ("PatienceTableModel", "row", "[I", true)
  | 18 => ("PatienceTableModel", "sum", "[I", true)
  | 19 => ("PatienceTableModel", "good", "[Z", true)
  | 20 => ("PatienceTableModel", "begins", "[I", true)
  | 21 => ("PatienceTableModel", "count", "I", false)
  | 22 => ("PatienceTableModel", "depth", "I", false)
  | 23 => ("PatienceTableModel", "more", "Z", false)
  | 24 => ("PatienceTableModel", "won", "Z", false)
  | 25 => ("PatienceTableModel", "homeOf", "[I", true)
  | 26 => ("PatienceTableModel", "taken", "I", false)
  | 27 => ("PatienceTableModel", "grounds", "I", false)
  | _ => ("PatienceTableModel", "covered", "[Z", true)
def zp_cl : List vw_C := [("PatienceTable", zp_T0, 6), ("PatienceTable$Game", zp_T1, 6), ("PatienceTable$Layout", zp_T2, 6), ("PatienceTable$Log", zp_T3, 6), ("PatienceTable$Search", zp_T4, 10), ("PatienceTableModel", zp_T5, 29)]
def zp_fty (c f : Nat) : FieldType := match c with
  | 0 => ([(.object "PatienceTable$Game"), (.object "PatienceTable$Layout"), (.object "PatienceTable$Log"), (.object "PatienceTable$Search"), (.array .int), .int] : List FieldType).getD f .int
  | 1 => ([.int, .int, .int, .int, .int, .int] : List FieldType).getD f .int
  | 2 => ([(.object "PatienceTable$Game"), (.array .int), (.array .int), (.array .int), .int, .int] : List FieldType).getD f .int
  | 3 => ([(.array .int), (.array .int), (.array .int), (.array .int), .int, .int] : List FieldType).getD f .int
  | 4 => ([(.object "PatienceTable$Game"), (.array (.object "PatienceTable$Layout")), (.array .int), (.array .int), (.array .int), .int, .int, .boolean, .int, .int] : List FieldType).getD f .int
  | _ => ([.int, .int, .int, .int, .int, .int, .int, (.array .int), (.array .int), (.array .int), (.array .int), (.array .boolean), (.array .int), .int, (.array .int), .int, .int, (.array .int), (.array .int), (.array .boolean), (.array .int), .int, .int, .boolean, .boolean, (.array .int), .int, .int, (.array .boolean)] : List FieldType).getD f .int
def zp_fs0 (c : Nat) : List Value := match c with
  | 0 => [.null, .null, .null, .null, .null, .int 0]
  | 1 => [.int 0, .int 0, .int 0, .int 0, .int 0, .int 0]
  | 2 => [.null, .null, .null, .null, .int 0, .int 0]
  | 3 => [.null, .null, .null, .null, .int 0, .int 0]
  | 4 => [.null, .null, .null, .null, .null, .int 0, .int 0, .int 0, .int 0, .int 0]
  | _ => [.int 0, .int 0, .int 0, .int 0, .int 0, .int 0, .int 0, .null, .null, .null, .null, .null, .null, .int 0, .null, .int 0, .int 0, .null, .null, .null, .null, .int 0, .int 0, .int 0, .int 0, .null, .int 0, .int 0, .null]
/-- 0: PatienceTableLaw.law([I)Z -/
def zp_l0 : List (Option Jvm.ClassFile.Instr) := [some (.new 8), none, none, some (.dup), some (.invokespecial 42), none, none, some (.astore_n 1), some (.new 43), none, none, some (.dup), some (.invokespecial 45), none, none, some (.astore_n 2), some (.iconst 1), some (.newarray .long), none, some (.astore_n 3), some (.iconst 0), some (.istore 4), none, some (.iload 4), none, some (.aload_n 0), some (.arraylength), some (.iconst 5), some (.isub), some (.if_icmp .gt (740)), none, none, some (.aload_n 0), some (.iload 4), none, some (.iaload), some (.bipush (15)), none, some (.iand), some (.tableswitch (724) (0) (15) #[(77), (138), (175), (211), (222), (290), (370), (442), (486), (530), (543), (580), (605), (642), (698), (711)]), none, none, none, none, none, none, none, none, none, none, none, none, none, none, none, none, none, none, none, none, none, none, none, none, none, none, none, none, none, none, none, none, none, none, none, none, none, none, none, none, none, none, none, none, none, none, none, none, none, none, none, none, none, none, none, none, none, none, none, none, none, none, none, none, none, none, none, none, none, none, none, none, none, none, none, none, some (.aload_n 1), some (.aload_n 0), some (.iload 4), none, some (.iconst 1), some (.iadd), some (.iaload), some (.aload_n 0), some (.iload 4), none, some (.iconst 2), some (.iadd), some (.iaload), some (.aload_n 0), some (.iload 4), none, some (.iconst 3), some (.iadd), some (.iaload), some (.aload_n 0), some (.iload 4), none, some (.iconst 4), some (.iadd), some (.iaload), some (.invokevirtual 46), none, none, some (.aload_n 2), some (.aload_n 0), some (.iload 4), none, some (.iconst 1), some (.iadd), some (.iaload), some (.aload_n 0), some (.iload 4), none, some (.iconst 2), some (.iadd), some (.iaload), some (.aload_n 0), some (.iload 4), none, some (.iconst 3), some (.iadd), some (.iaload), some (.aload_n 0), some (.iload 4), none, some (.iconst 4), some (.iadd), some (.iaload), some (.invokevirtual 50), none, none, some (.if_icmp .eq (591)), none, none, some (.iconst 0), some (.ireturn), some (.aload_n 1), some (.aload_n 0), some (.iload 4), none, some (.iconst 1), some (.iadd), some (.iaload), some (.aload_n 0), some (.iload 4), none, some (.iconst 2), some (.iadd), some (.iaload), some (.invokevirtual 51), none, none, some (.aload_n 2), some (.aload_n 0), some (.iload 4), none, some (.iconst 1), some (.iadd), some (.iaload), some (.aload_n 0), some (.iload 4), none, some (.iconst 2), some (.iadd), some (.iaload), some (.invokevirtual 55), none, none, some (.if_icmp .eq (554)), none, none, some (.iconst 0), some (.ireturn), some (.aload_n 1), some (.aload_n 0), some (.iload 4), none, some (.iconst 1), some (.iadd), some (.iaload), some (.invokestatic 56), none, none, some (.istore 5), none, some (.aload_n 2), some (.aload_n 0), some (.iload 4), none, some (.iconst 1), some (.iadd), some (.iaload), some (.invokevirtual 61), none, none, some (.aload_n 2), some (.invokevirtual 62), none, none, some (.iload 5), none, some (.if_icmp .eq (5)), none, none, some (.iconst 0), some (.ireturn), some (.goto (516)), none, none, some (.aload_n 1), some (.invokevirtual 65), none, none, some (.aload_n 2), some (.invokevirtual 68), none, none, some (.goto (505)), none, none, some (.aload_n 1), some (.aload_n 0), some (.iload 4), none, some (.iconst 1), some (.iadd), some (.iaload), some (.aload_n 0), some (.iload 4), none, some (.iconst 2), some (.iadd), some (.iaload), some (.aload_n 3), some (.invokestatic 69), none, none, some (.istore 5), none, some (.aload_n 2), some (.aload_n 0), some (.iload 4), none, some (.iconst 1), some (.iadd), some (.iaload), some (.aload_n 0), some (.iload 4), none, some (.iconst 2), some (.iadd), some (.iaload), some (.invokevirtual 72), none, none, some (.istore 6), none, some (.aload_n 2), some (.invokevirtual 62), none, none, some (.iload 5), none, some (.if_icmp .eq (5)), none, none, some (.iconst 0), some (.ireturn), some (.iload 5), none, some (.ifCond .ne (15)), none, none, some (.aload_n 3), some (.iconst 0), some (.laload), some (.iload 6), none, some (.i2l), some (.lcmp), some (.ifCond .eq (5)), none, none, some (.iconst 0), some (.ireturn), some (.goto (437)), none, none, some (.aload_n 1), some (.aload_n 0), some (.iload 4), none, some (.iconst 1), some (.iadd), some (.iaload), some (.aload_n 0), some (.iload 4), none, some (.iconst 2), some (.iadd), some (.iaload), some (.aload_n 0), some (.iload 4), none, some (.iconst 3), some (.iadd), some (.iaload), some (.aload_n 3), some (.invokestatic 73), none, none, some (.istore 5), none, some (.aload_n 2), some (.aload_n 0), some (.iload 4), none, some (.iconst 1), some (.iadd), some (.iaload), some (.aload_n 0), some (.iload 4), none, some (.iconst 2), some (.iadd), some (.iaload), some (.aload_n 0), some (.iload 4), none, some (.iconst 3), some (.iadd), some (.iaload), some (.invokevirtual 76), none, none, some (.istore 6), none, some (.aload_n 2), some (.invokevirtual 62), none, none, some (.iload 5), none, some (.if_icmp .eq (5)), none, none, some (.iconst 0), some (.ireturn), some (.iload 5), none, some (.ifCond .ne (15)), none, none, some (.aload_n 3), some (.iconst 0), some (.laload), some (.iload 6), none, some (.i2l), some (.lcmp), some (.ifCond .eq (5)), none, none, some (.iconst 0), some (.ireturn), some (.goto (357)), none, none, some (.aload_n 1), some (.aload_n 0), some (.iload 4), none, some (.iconst 1), some (.iadd), some (.iaload), some (.i2c), some (.aload_n 0), some (.iload 4), none, some (.iconst 2), some (.iadd), some (.iaload), some (.i2c), some (.aload_n 3), some (.invokestatic 77), none, none, some (.istore 5), none, some (.aload_n 2), some (.aload_n 0), some (.iload 4), none, some (.iconst 1), some (.iadd), some (.iaload), some (.i2c), some (.aload_n 0), some (.iload 4), none, some (.iconst 2), some (.iadd), some (.iaload), some (.i2c), some (.invokevirtual 80), none, none, some (.istore 6), none, some (.aload_n 2), some (.invokevirtual 62), none, none, some (.iload 5), none, some (.if_icmp .eq (5)), none, none, some (.iconst 0), some (.ireturn), some (.iload 5), none, some (.ifCond .ne (15)), none, none, some (.aload_n 3), some (.iconst 0), some (.laload), some (.iload 6), none, some (.i2l), some (.lcmp), some (.ifCond .eq (5)), none, none, some (.iconst 0), some (.ireturn), some (.goto (285)), none, none, some (.aload_n 1), some (.aload_n 3), some (.invokestatic 81), none, none, some (.istore 5), none, some (.aload_n 2), some (.invokevirtual 84), none, none, some (.istore 6), none, some (.aload_n 2), some (.invokevirtual 62), none, none, some (.iload 5), none, some (.if_icmp .eq (5)), none, none, some (.iconst 0), some (.ireturn), some (.iload 5), none, some (.ifCond .ne (15)), none, none, some (.aload_n 3), some (.iconst 0), some (.laload), some (.iload 6), none, some (.i2l), some (.lcmp), some (.ifCond .eq (5)), none, none, some (.iconst 0), some (.ireturn), some (.goto (241)), none, none, some (.aload_n 1), some (.aload_n 3), some (.invokestatic 85), none, none, some (.istore 5), none, some (.aload_n 2), some (.invokevirtual 87), none, none, some (.istore 6), none, some (.aload_n 2), some (.invokevirtual 62), none, none, some (.iload 5), none, some (.if_icmp .eq (5)), none, none, some (.iconst 0), some (.ireturn), some (.iload 5), none, some (.ifCond .ne (15)), none, none, some (.aload_n 3), some (.iconst 0), some (.laload), some (.iload 6), none, some (.i2l), some (.lcmp), some (.ifCond .eq (5)), none, none, some (.iconst 0), some (.ireturn), some (.goto (197)), none, none, some (.aload_n 1), some (.invokevirtual 88), none, none, some (.aload_n 2), some (.invokevirtual 91), none, none, some (.if_icmp .eq (186)), none, none, some (.iconst 0), some (.ireturn), some (.aload_n 1), some (.aload_n 0), some (.iload 4), none, some (.iconst 1), some (.iadd), some (.iaload), some (.aload_n 0), some (.iload 4), none, some (.iconst 2), some (.iadd), some (.iaload), some (.invokevirtual 92), none, none, some (.aload_n 2), some (.aload_n 0), some (.iload 4), none, some (.iconst 1), some (.iadd), some (.iaload), some (.aload_n 0), some (.iload 4), none, some (.iconst 2), some (.iadd), some (.iaload), some (.invokevirtual 95), none, none, some (.if_icmp .eq (149)), none, none, some (.iconst 0), some (.ireturn), some (.aload_n 1), some (.aload_n 0), some (.iload 4), none, some (.iconst 1), some (.iadd), some (.iaload), some (.invokevirtual 96), none, none, some (.aload_n 2), some (.aload_n 0), some (.iload 4), none, some (.iconst 1), some (.iadd), some (.iaload), some (.invokevirtual 99), none, none, some (.if_icmp .eq (124)), none, none, some (.iconst 0), some (.ireturn), some (.aload_n 1), some (.aload_n 0), some (.iload 4), none, some (.iconst 1), some (.iadd), some (.iaload), some (.aload_n 0), some (.iload 4), none, some (.iconst 2), some (.iadd), some (.iaload), some (.invokevirtual 100), none, none, some (.aload_n 2), some (.aload_n 0), some (.iload 4), none, some (.iconst 1), some (.iadd), some (.iaload), some (.aload_n 0), some (.iload 4), none, some (.iconst 2), some (.iadd), some (.iaload), some (.invokevirtual 103), none, none, some (.if_icmp .eq (87)), none, none, some (.iconst 0), some (.ireturn), some (.aload_n 1), some (.aload_n 0), some (.iload 4), none, some (.iconst 1), some (.iadd), some (.iaload), some (.aload_n 3), some (.invokestatic 104), none, none, some (.istore 5), none, some (.aload_n 2), some (.aload_n 0), some (.iload 4), none, some (.iconst 1), some (.iadd), some (.iaload), some (.invokevirtual 107), none, none, some (.istore 6), none, some (.aload_n 2), some (.invokevirtual 62), none, none, some (.iload 5), none, some (.if_icmp .eq (5)), none, none, some (.iconst 0), some (.ireturn), some (.iload 5), none, some (.ifCond .ne (15)), none, none, some (.aload_n 3), some (.iconst 0), some (.laload), some (.iload 6), none, some (.i2l), some (.lcmp), some (.ifCond .eq (5)), none, none, some (.iconst 0), some (.ireturn), some (.goto (29)), none, none, some (.aload_n 1), some (.invokevirtual 108), none, none, some (.aload_n 2), some (.invokevirtual 111), none, none, some (.if_icmp .eq (18)), none, none, some (.iconst 0), some (.ireturn), some (.aload_n 1), some (.invokevirtual 112), none, none, some (.aload_n 2), some (.invokevirtual 115), none, none, some (.if_icmp .eq (5)), none, none, some (.iconst 0), some (.ireturn), some (.iinc 4 (5)), none, none, some (.goto (-743)), none, none, some (.iconst 1), some (.ireturn)]
def zp_p0 : List (Nat × zi_T × List Nat) := [(8, (4, 0, 6, .null), [69, 70, 54]), (42, (2, 8, 0, .null), [71, 54, 73, 72]), (43, (4, 5, 29, .null), [645, 646, 60]), (45, (2, 76, 0, .null), [647, 60, 649, 648]), (46, (1, 9, 4, .ref 0), [242, 54, 245, 243, 244]), (50, (1, 87, 4, .ref 5), [748, 60, 751, 749, 750]), (51, (1, 10, 2, .ref 0), [258, 54, 261, 259, 260]), (55, (1, 88, 2, .ref 5), [755, 60, 758, 756, 757]), (56, (3, 1, 2, .null), [381, 53, 383, 382]), (61, (1, 91, 1, .ref 5), [763, 60, 766, 764, 765]), (62, (1, 77, 0, .ref 5), [744, 60, 747, 745, 746]), (65, (1, 12, 0, .ref 0), [262, 54, 252, 250, 251]), (68, (1, 89, 0, .ref 5), [759, 60, 762, 760, 761]), (69, (3, 2, 4, .null), [466, 53, 468, 467]), (72, (1, 93, 2, .ref 5), [779, 60, 782, 780, 781]), (73, (3, 3, 5, .null), [500, 53, 502, 501]), (76, (1, 107, 3, .ref 5), [791, 60, 794, 792, 793]), (77, (3, 4, 4, .null), [529, 53, 531, 530]), (80, (1, 110, 2, .ref 5), [866, 60, 869, 867, 868]), (81, (3, 5, 2, .null), [539, 53, 541, 540]), (84, (1, 113, 0, .ref 5), [878, 60, 881, 879, 880]), (85, (3, 6, 2, .null), [560, 53, 562, 561]), (87, (1, 114, 0, .ref 5), [890, 60, 893, 891, 892]), (88, (1, 18, 0, .ref 0), [263, 54, 266, 264, 265]), (91, (1, 115, 0, .ref 5), [894, 60, 897, 895, 896]), (92, (1, 19, 2, .ref 0), [267, 54, 270, 268, 269]), (95, (1, 116, 2, .ref 5), [898, 60, 901, 899, 900]), (96, (1, 20, 1, .ref 0), [295, 54, 298, 296, 297]), (99, (1, 117, 1, .ref 5), [902, 60, 905, 903, 904]), (100, (1, 21, 2, .ref 0), [299, 54, 302, 300, 301]), (103, (1, 118, 2, .ref 5), [906, 60, 909, 907, 908]), (104, (3, 7, 3, .null), [588, 53, 590, 589]), (107, (1, 131, 1, .ref 5), [910, 60, 913, 911, 912]), (108, (1, 23, 0, .ref 0), [373, 54, 376, 374, 375]), (111, (1, 132, 0, .ref 5), [961, 60, 964, 962, 963]), (112, (1, 24, 0, .ref 0), [377, 54, 380, 378, 379]), (115, (1, 133, 0, .ref 5), [965, 60, 968, 966, 967])]
/-- 1: PatienceTableLaw.deal(LPatienceTable;I)I -/
def zp_l1 : List (Option Jvm.ClassFile.Instr) := [some (.aload_n 0), some (.iload_n 1), some (.invokevirtual 7), none, none, some (.goto (6)), none, none, some (.astore_n 2), some (.iconst 1), some (.ireturn), some (.iconst 0), some (.ireturn)]
def zp_p1 : List (Nat × zi_T × List Nat) := [(7, (1, 11, 1, .ref 0), [385, 54, 388, 386, 387])]
/-- 2: PatienceTableLaw.lay(LPatienceTable;II[J)I -/
def zp_l2 : List (Option Jvm.ClassFile.Instr) := [some (.aload_n 3), some (.iconst 0), some (.aload_n 0), some (.iload_n 1), some (.iload_n 2), some (.invokevirtual 15), none, none, some (.i2l), some (.lastore), some (.goto (11)), none, none, some (.astore 4), none, some (.iconst 1), some (.ireturn), some (.astore 4), none, some (.iconst 2), some (.ireturn), some (.iconst 0), some (.ireturn)]
def zp_p2 : List (Nat × zi_T × List Nat) := [(15, (1, 13, 2, .ref 0), [470, 54, 473, 471, 472])]
/-- 3: PatienceTableLaw.move(LPatienceTable;III[J)I -/
def zp_l3 : List (Option Jvm.ClassFile.Instr) := [some (.aload 4), none, some (.iconst 0), some (.aload_n 0), some (.iload_n 1), some (.iload_n 2), some (.iload_n 3), some (.invokevirtual 21), none, none, some (.i2l), some (.lastore), some (.goto (11)), none, none, some (.astore 5), none, some (.iconst 1), some (.ireturn), some (.astore 5), none, some (.iconst 2), some (.ireturn), some (.iconst 0), some (.ireturn)]
def zp_p3 : List (Nat × zi_T × List Nat) := [(21, (1, 14, 3, .ref 0), [503, 54, 506, 504, 505])]
/-- 4: PatienceTableLaw.play(LPatienceTable;CC[J)I -/
def zp_l4 : List (Option Jvm.ClassFile.Instr) := [some (.aload_n 3), some (.iconst 0), some (.aload_n 0), some (.iload_n 1), some (.iload_n 2), some (.invokevirtual 25), none, none, some (.i2l), some (.lastore), some (.goto (11)), none, none, some (.astore 4), none, some (.iconst 1), some (.ireturn), some (.astore 4), none, some (.iconst 2), some (.ireturn), some (.iconst 0), some (.ireturn)]
def zp_p4 : List (Nat × zi_T × List Nat) := [(25, (1, 15, 2, .ref 0), [532, 54, 535, 533, 534])]
/-- 5: PatienceTableLaw.sendHome(LPatienceTable;[J)I -/
def zp_l5 : List (Option Jvm.ClassFile.Instr) := [some (.aload_n 1), some (.iconst 0), some (.aload_n 0), some (.invokevirtual 29), none, none, some (.i2l), some (.lastore), some (.goto (6)), none, none, some (.astore_n 2), some (.iconst 1), some (.ireturn), some (.iconst 0), some (.ireturn)]
def zp_p5 : List (Nat × zi_T × List Nat) := [(29, (1, 16, 0, .ref 0), [542, 54, 545, 543, 544])]
/-- 6: PatienceTableLaw.undo(LPatienceTable;[J)I -/
def zp_l6 : List (Option Jvm.ClassFile.Instr) := [some (.aload_n 1), some (.iconst 0), some (.aload_n 0), some (.invokevirtual 33), none, none, some (.i2l), some (.lastore), some (.goto (6)), none, none, some (.astore_n 2), some (.iconst 1), some (.ireturn), some (.iconst 0), some (.ireturn)]
def zp_p6 : List (Nat × zi_T × List Nat) := [(33, (1, 17, 0, .ref 0), [564, 54, 567, 565, 566])]
/-- 7: PatienceTableLaw.look(LPatienceTable;I[J)I -/
def zp_l7 : List (Option Jvm.ClassFile.Instr) := [some (.aload_n 2), some (.iconst 0), some (.aload_n 0), some (.iload_n 1), some (.invokevirtual 38), none, none, some (.i2l), some (.lastore), some (.goto (9)), none, none, some (.astore_n 3), some (.iconst 1), some (.ireturn), some (.astore_n 3), some (.iconst 2), some (.ireturn), some (.iconst 0), some (.ireturn)]
def zp_p7 : List (Nat × zi_T × List Nat) := [(38, (1, 22, 1, .ref 0), [591, 54, 594, 592, 593])]
/-- 8: PatienceTable.<init>()V -/
def zp_l8 : List (Option Jvm.ClassFile.Instr) := [some (.aload_n 0), some (.invokespecial 1), none, none, some (.aload_n 0), some (.new 7), none, none, some (.dup), some (.invokespecial 9), none, none, some (.putfield 10), none, none, some (.aload_n 0), some (.new 16), none, none, some (.dup), some (.aload_n 0), some (.getfield 10), none, none, some (.invokespecial 18), none, none, some (.putfield 21), none, none, some (.aload_n 0), some (.new 25), none, none, some (.dup), some (.invokespecial 27), none, none, some (.putfield 28), none, none, some (.aload_n 0), some (.new 32), none, none, some (.dup), some (.aload_n 0), some (.getfield 10), none, none, some (.invokespecial 34), none, none, some (.putfield 35), none, none, some (.aload_n 0), some (.bipush (52)), none, some (.newarray .int), none, some (.putfield 39), none, none, some (.aload_n 0), some (.iconst (-1)), some (.putfield 43), none, none, some (.return_)]
def zp_p8 : List (Nat × zi_T × List Nat) := [(1, (7, 0, 0, .null), [74, 75, 76]), (7, (4, 1, 6, .null), [77, 78, 55]), (9, (2, 28, 0, .null), [79, 55, 81, 80]), (10, (8, 0, 0, .null), [223]), (16, (4, 2, 6, .null), [113, 114, 56]), (18, (2, 39, 1, .null), [115, 56, 117, 116]), (21, (8, 0, 1, .null), [224]), (25, (4, 3, 6, .null), [151, 152, 58]), (27, (2, 63, 0, .null), [153, 58, 155, 154]), (28, (8, 0, 2, .null), [225]), (32, (4, 4, 10, .null), [181, 182, 59]), (34, (2, 67, 1, .null), [183, 59, 185, 184]), (35, (8, 0, 3, .null), [226]), (39, (8, 0, 4, .null), [227]), (43, (0, 0, 5, .null), [228])]
/-- 9: PatienceTable.rules(IIII)Z -/
def zp_l9 : List (Option Jvm.ClassFile.Instr) := [some (.iload_n 1), some (.iconst 2), some (.bipush (8)), none, some (.invokestatic 47), none, none, some (.ifCond .eq (35)), none, none, some (.iload_n 2), some (.iconst 0), some (.iconst 4), some (.invokestatic 47), none, none, some (.ifCond .eq (26)), none, none, some (.iload_n 3), some (.iconst 0), some (.iconst 2), some (.invokestatic 47), none, none, some (.ifCond .eq (17)), none, none, some (.iload 4), none, some (.iconst 0), some (.iconst 2), some (.invokestatic 47), none, none, some (.ifCond .eq (7)), none, none, some (.iconst 1), some (.goto (4)), none, none, some (.iconst 0), some (.istore 5), none, some (.iload 5), none, some (.ifCond .ne (5)), none, none, some (.iconst 0), some (.ireturn), some (.aload_n 0), some (.getfield 10), none, none, some (.iload_n 1), some (.putfield 51), none, none, some (.aload_n 0), some (.getfield 10), none, none, some (.iload_n 2), some (.putfield 54), none, none, some (.aload_n 0), some (.getfield 10), none, none, some (.iload_n 3), some (.putfield 57), none, none, some (.aload_n 0), some (.getfield 10), none, none, some (.iload 4), none, some (.putfield 60), none, none, some (.aload_n 0), some (.invokevirtual 63), none, none, some (.iconst 1), some (.ireturn)]
def zp_p9 : List (Nat × zi_T × List Nat) := [(10, (9, 0, 0, .null), [223]), (47, (3, 25, 3, .null), [246, 54, 248, 247]), (51, (0, 1, 0, .null), [84]), (54, (0, 1, 1, .null), [87]), (57, (0, 1, 2, .null), [90]), (60, (0, 1, 3, .null), [93]), (63, (1, 12, 0, .ref 0), [249, 54, 252, 250, 251])]
/-- 10: PatienceTable.cards(II)Z -/
def zp_l10 : List (Option Jvm.ClassFile.Instr) := [some (.iload_n 1), some (.iconst 1), some (.iconst 4), some (.invokestatic 47), none, none, some (.ifCond .eq (13)), none, none, some (.iload_n 2), some (.iconst 1), some (.bipush (13)), none, some (.invokestatic 47), none, none, some (.ifCond .ne (5)), none, none, some (.iconst 0), some (.ireturn), some (.aload_n 0), some (.getfield 10), none, none, some (.iload_n 1), some (.putfield 66), none, none, some (.aload_n 0), some (.getfield 10), none, none, some (.iload_n 2), some (.putfield 69), none, none, some (.aload_n 0), some (.invokevirtual 63), none, none, some (.iconst 1), some (.ireturn)]
def zp_p10 : List (Nat × zi_T × List Nat) := [(10, (9, 0, 0, .null), [223]), (47, (3, 25, 3, .null), [246, 54, 248, 247]), (63, (1, 12, 0, .ref 0), [249, 54, 252, 250, 251]), (66, (0, 1, 4, .null), [96]), (69, (0, 1, 5, .null), [99])]
/-- 11: PatienceTable.deal(I)V -/
def zp_l11 : List (Option Jvm.ClassFile.Instr) := [some (.iload_n 1), some (.iconst 0), some (.sipush (32000)), none, none, some (.invokestatic 47), none, none, some (.ifCond .ne (13)), none, none, some (.new 72), none, none, some (.dup), some (.ldc 74), none, some (.invokespecial 76), none, none, some (.athrow), some (.aload_n 0), some (.invokevirtual 63), none, none, some (.aload_n 0), some (.getfield 10), none, none, some (.invokevirtual 79), none, none, some (.istore_n 2), some (.iconst 0), some (.istore_n 3), some (.iload_n 3), some (.iload_n 2), some (.if_icmp .ge (16)), none, none, some (.aload_n 0), some (.getfield 39), none, none, some (.iload_n 3), some (.iload_n 3), some (.iastore), some (.iinc 3 (1)), none, none, some (.goto (-15)), none, none, some (.iload_n 1), some (.istore_n 3), some (.iconst 0), some (.istore 4), none, some (.iload 4), none, some (.iload_n 2), some (.if_icmp .ge (75)), none, none, some (.iload_n 2), some (.iload 4), none, some (.isub), some (.istore 5), none, some (.ldc 83), none, some (.iload_n 3), some (.imul), some (.ldc 84), none, some (.iadd), some (.ldc 85), none, some (.iand), some (.istore_n 3), some (.iload_n 3), some (.ldc 86), none, some (.idiv), some (.iload 5), none, some (.irem), some (.istore 6), none, some (.aload_n 0), some (.getfield 21), none, none, some (.iload 4), none, some (.aload_n 0), some (.getfield 10), none, none, some (.getfield 51), none, none, some (.irem), some (.aload_n 0), some (.getfield 39), none, none, some (.iload 6), none, some (.iaload), some (.invokevirtual 87), none, none, some (.aload_n 0), some (.getfield 39), none, none, some (.iload 6), none, some (.aload_n 0), some (.getfield 39), none, none, some (.iload 5), none, some (.iconst 1), some (.isub), some (.iaload), some (.iastore), some (.iinc 4 (1)), none, none, some (.goto (-75)), none, none, some (.return_)]
def zp_p11 : List (Nat × zi_T × List Nat) := [(10, (9, 0, 0, .null), [223]), (21, (9, 0, 1, .null), [224]), (39, (9, 0, 4, .null), [227]), (47, (3, 25, 3, .null), [246, 54, 248, 247]), (51, (0, 1, 0, .null), [84]), (63, (1, 12, 0, .ref 0), [249, 54, 252, 250, 251]), (79, (1, 32, 0, .ref 1), [457, 55, 311, 309, 310]), (83, (6, 0, 0, .int (214013)), [458]), (84, (6, 0, 0, .int (2531011)), [459]), (85, (6, 0, 0, .int (2147483647)), [460]), (86, (6, 0, 0, .int (65536)), [461]), (87, (1, 45, 2, .ref 2), [462, 56, 465, 463, 464])]
/-- 12: PatienceTable.clear()V -/
def zp_l12 : List (Option Jvm.ClassFile.Instr) := [some (.aload_n 0), some (.getfield 21), none, none, some (.invokevirtual 91), none, none, some (.aload_n 0), some (.getfield 28), none, none, some (.invokevirtual 94), none, none, some (.aload_n 0), some (.iconst (-1)), some (.putfield 43), none, none, some (.return_)]
def zp_p12 : List (Nat × zi_T × List Nat) := [(21, (9, 0, 1, .null), [224]), (28, (9, 0, 2, .null), [225]), (43, (0, 0, 5, .null), [228]), (91, (1, 40, 0, .ref 2), [253, 56, 122, 120, 121]), (94, (1, 64, 0, .ref 3), [254, 58, 257, 255, 256])]
/-- 13: PatienceTable.lay(II)I -/
def zp_l13 : List (Option Jvm.ClassFile.Instr) := [some (.aload_n 0), some (.getfield 10), none, none, some (.iload_n 1), some (.invokevirtual 97), none, none, some (.ifCond .eq (14)), none, none, some (.aload_n 0), some (.getfield 10), none, none, some (.iload_n 2), some (.invokevirtual 101), none, none, some (.ifCond .ne (13)), none, none, some (.new 72), none, none, some (.dup), some (.ldc 104), none, some (.invokespecial 76), none, none, some (.athrow), some (.aload_n 0), some (.getfield 21), none, none, some (.iload_n 2), some (.invokevirtual 106), none, none, some (.ifCond .eq (13)), none, none, some (.new 109), none, none, some (.dup), some (.ldc 111), none, some (.invokespecial 113), none, none, some (.athrow), some (.aload_n 0), some (.getfield 21), none, none, some (.iload_n 1), some (.iload_n 2), some (.invokevirtual 87), none, none, some (.aload_n 0), some (.iconst (-1)), some (.putfield 43), none, none, some (.aload_n 0), some (.getfield 21), none, none, some (.getfield 114), none, none, some (.ireturn)]
def zp_p13 : List (Nat × zi_T × List Nat) := [(10, (9, 0, 0, .null), [223]), (21, (9, 0, 1, .null), [224]), (43, (0, 0, 5, .null), [228]), (87, (1, 45, 2, .ref 2), [462, 56, 465, 463, 464]), (97, (1, 29, 1, .ref 1), [303, 55, 278, 276, 277]), (101, (1, 33, 1, .ref 1), [474, 55, 477, 475, 476]), (106, (1, 42, 1, .ref 2), [480, 56, 483, 481, 482]), (114, (0, 2, 4, .null), [133])]
/-- 14: PatienceTable.move(III)I -/
def zp_l14 : List (Option Jvm.ClassFile.Instr) := [some (.aload_n 0), some (.getfield 10), none, none, some (.iload_n 1), some (.invokevirtual 117), none, none, some (.ifCond .eq (25)), none, none, some (.aload_n 0), some (.getfield 10), none, none, some (.iload_n 2), some (.invokevirtual 117), none, none, some (.ifCond .eq (14)), none, none, some (.iload_n 1), some (.bipush (12)), none, some (.if_icmp .eq (8)), none, none, some (.iload_n 3), some (.iconst 1), some (.if_icmp .ge (13)), none, none, some (.new 72), none, none, some (.dup), some (.ldc 120), none, some (.invokespecial 76), none, none, some (.athrow), some (.aload_n 0), some (.getfield 21), none, none, some (.invokevirtual 122), none, none, some (.ifCond .eq (16)), none, none, some (.aload_n 0), some (.getfield 21), none, none, some (.iload_n 1), some (.iload_n 2), some (.iload_n 3), some (.invokevirtual 126), none, none, some (.ifCond .ne (13)), none, none, some (.new 109), none, none, some (.dup), some (.ldc 129), none, some (.invokespecial 113), none, none, some (.athrow), some (.aload_n 0), some (.iload_n 1), some (.iload_n 2), some (.iload_n 3), some (.invokevirtual 131), none, none, some (.aload_n 0), some (.getfield 21), none, none, some (.getfield 135), none, none, some (.ireturn)]
def zp_p14 : List (Nat × zi_T × List Nat) := [(10, (9, 0, 0, .null), [223]), (21, (9, 0, 1, .null), [224]), (117, (1, 31, 1, .ref 1), [271, 55, 274, 272, 273]), (122, (1, 43, 0, .ref 2), [304, 56, 307, 305, 306]), (126, (1, 49, 3, .ref 2), [508, 56, 339, 337, 338]), (131, (1, 27, 3, .ref 0), [510, 54, 513, 512, 7]), (135, (0, 2, 5, .null), [136])]
/-- 15: PatienceTable.play(CC)I -/
def zp_l15 : List (Option Jvm.ClassFile.Instr) := [some (.iload_n 1), some (.invokestatic 138), none, none, some (.istore_n 3), some (.iload_n 2), some (.invokestatic 138), none, none, some (.istore 4), none, some (.aload_n 0), some (.getfield 10), none, none, some (.iload_n 3), some (.invokevirtual 117), none, none, some (.ifCond .eq (21)), none, none, some (.aload_n 0), some (.getfield 10), none, none, some (.iload 4), none, some (.invokevirtual 117), none, none, some (.ifCond .eq (9)), none, none, some (.iload_n 3), some (.bipush (12)), none, some (.if_icmp .ne (13)), none, none, some (.new 72), none, none, some (.dup), some (.ldc 120), none, some (.invokespecial 76), none, none, some (.athrow), some (.aload_n 0), some (.getfield 10), none, none, some (.iload_n 3), some (.invokevirtual 97), none, none, some (.ifCond .eq (28)), none, none, some (.aload_n 0), some (.getfield 10), none, none, some (.iload 4), none, some (.invokevirtual 97), none, none, some (.ifCond .eq (16)), none, none, some (.aload_n 0), some (.getfield 21), none, none, some (.iload_n 3), some (.iload 4), none, some (.invokevirtual 142), none, none, some (.goto (4)), none, none, some (.iconst 1), some (.istore 5), none, some (.aload_n 0), some (.getfield 21), none, none, some (.invokevirtual 122), none, none, some (.ifCond .eq (18)), none, none, some (.aload_n 0), some (.getfield 21), none, none, some (.iload_n 3), some (.iload 4), none, some (.iload 5), none, some (.invokevirtual 126), none, none, some (.ifCond .ne (13)), none, none, some (.new 109), none, none, some (.dup), some (.ldc 129), none, some (.invokespecial 113), none, none, some (.athrow), some (.aload_n 0), some (.iload_n 3), some (.iload 4), none, some (.iload 5), none, some (.invokevirtual 131), none, none, some (.iload 5), none, some (.ireturn)]
def zp_p15 : List (Nat × zi_T × List Nat) := [(10, (9, 0, 0, .null), [223]), (21, (9, 0, 1, .null), [224]), (97, (1, 29, 1, .ref 1), [303, 55, 278, 276, 277]), (117, (1, 31, 1, .ref 1), [271, 55, 274, 272, 273]), (122, (1, 43, 0, .ref 2), [304, 56, 307, 305, 306]), (126, (1, 49, 3, .ref 2), [508, 56, 339, 337, 338]), (131, (1, 27, 3, .ref 0), [510, 54, 513, 512, 7]), (138, (3, 26, 1, .null), [536, 54, 538, 537]), (142, (1, 56, 2, .ref 2), [312, 56, 315, 313, 314])]
/-- 16: PatienceTable.sendHome()I -/
def zp_l16 : List (Option Jvm.ClassFile.Instr) := [some (.aload_n 0), some (.getfield 21), none, none, some (.invokevirtual 122), none, none, some (.ifCond .ne (13)), none, none, some (.new 109), none, none, some (.dup), some (.ldc 146), none, some (.invokespecial 113), none, none, some (.athrow), some (.iconst 0), some (.istore_n 1), some (.iload_n 1), some (.bipush (52)), none, some (.if_icmp .ge (32)), none, none, some (.aload_n 0), some (.getfield 21), none, none, some (.invokevirtual 148), none, none, some (.istore_n 2), some (.iload_n 2), some (.iconst (-1)), some (.if_icmp .ne (5)), none, none, some (.iload_n 1), some (.ireturn), some (.aload_n 0), some (.iload_n 2), some (.bipush (12)), none, some (.iconst 1), some (.invokevirtual 131), none, none, some (.iinc 1 (1)), none, none, some (.goto (-32)), none, none, some (.bipush (52)), none, some (.ireturn)]
def zp_p16 : List (Nat × zi_T × List Nat) := [(21, (9, 0, 1, .null), [224]), (122, (1, 43, 0, .ref 2), [304, 56, 307, 305, 306]), (131, (1, 27, 3, .ref 0), [510, 54, 513, 512, 7]), (148, (1, 58, 0, .ref 2), [547, 56, 550, 548, 549])]
/-- 17: PatienceTable.undo()I -/
def zp_l17 : List (Option Jvm.ClassFile.Instr) := [some (.aload_n 0), some (.getfield 28), none, none, some (.getfield 151), none, none, some (.ifCond .ne (13)), none, none, some (.new 154), none, none, some (.dup), some (.ldc 156), none, some (.invokespecial 158), none, none, some (.athrow), some (.aload_n 0), some (.getfield 28), none, none, some (.invokevirtual 159), none, none, some (.istore_n 1), some (.aload_n 0), some (.getfield 21), none, none, some (.aload_n 0), some (.getfield 28), none, none, some (.getfield 162), none, none, some (.iload_n 1), some (.iaload), some (.aload_n 0), some (.getfield 28), none, none, some (.getfield 165), none, none, some (.iload_n 1), some (.iaload), some (.aload_n 0), some (.getfield 28), none, none, some (.getfield 168), none, none, some (.iload_n 1), some (.iaload), some (.invokevirtual 171), none, none, some (.aload_n 0), some (.iconst (-1)), some (.putfield 43), none, none, some (.aload_n 0), some (.getfield 28), none, none, some (.getfield 174), none, none, some (.iload_n 1), some (.iaload), some (.ireturn)]
def zp_p17 : List (Nat × zi_T × List Nat) := [(21, (9, 0, 1, .null), [224]), (28, (9, 0, 2, .null), [225]), (43, (0, 0, 5, .null), [228]), (151, (0, 3, 5, .null), [167]), (159, (1, 66, 0, .ref 3), [584, 58, 587, 585, 586]), (162, (9, 3, 0, .null), [158]), (165, (9, 3, 2, .null), [162]), (168, (9, 3, 1, .null), [160]), (171, (1, 62, 3, .ref 2), [514, 56, 517, 515, 516]), (174, (9, 3, 3, .null), [164])]
/-- 18: PatienceTable.log()I -/
def zp_l18 : List (Option Jvm.ClassFile.Instr) := [some (.aload_n 0), some (.getfield 28), none, none, some (.getfield 151), none, none, some (.ireturn)]
def zp_p18 : List (Nat × zi_T × List Nat) := [(28, (9, 0, 2, .null), [225]), (151, (0, 3, 5, .null), [167])]
/-- 19: PatienceTable.card(II)I -/
def zp_l19 : List (Option Jvm.ClassFile.Instr) := [some (.aload_n 0), some (.getfield 10), none, none, some (.iload_n 1), some (.invokevirtual 117), none, none, some (.ifCond .eq (7)), none, none, some (.iload_n 2), some (.ifCond .ge (5)), none, none, some (.iconst (-1)), some (.ireturn), some (.iload_n 1), some (.bipush (12)), none, some (.if_icmp .ne (14)), none, none, some (.aload_n 0), some (.getfield 21), none, none, some (.iload_n 2), some (.invokevirtual 177), none, none, some (.goto (23)), none, none, some (.aload_n 0), some (.getfield 21), none, none, some (.iload_n 1), some (.aload_n 0), some (.getfield 21), none, none, some (.iload_n 1), some (.invokevirtual 181), none, none, some (.iconst 1), some (.isub), some (.iload_n 2), some (.isub), some (.invokevirtual 184), none, none, some (.ireturn)]
def zp_p19 : List (Nat × zi_T × List Nat) := [(10, (9, 0, 0, .null), [223]), (21, (9, 0, 1, .null), [224]), (117, (1, 31, 1, .ref 1), [271, 55, 274, 272, 273]), (177, (1, 48, 1, .ref 2), [283, 56, 286, 284, 285]), (181, (1, 46, 1, .ref 2), [287, 56, 290, 288, 289]), (184, (1, 47, 2, .ref 2), [291, 56, 294, 292, 293])]
/-- 20: PatienceTable.size(I)I -/
def zp_l20 : List (Option Jvm.ClassFile.Instr) := [some (.aload_n 0), some (.getfield 10), none, none, some (.iload_n 1), some (.invokevirtual 117), none, none, some (.ifCond .eq (14)), none, none, some (.aload_n 0), some (.getfield 21), none, none, some (.iload_n 1), some (.invokevirtual 181), none, none, some (.goto (4)), none, none, some (.iconst (-1)), some (.ireturn)]
def zp_p20 : List (Nat × zi_T × List Nat) := [(10, (9, 0, 0, .null), [223]), (21, (9, 0, 1, .null), [224]), (117, (1, 31, 1, .ref 1), [271, 55, 274, 272, 273]), (181, (1, 46, 1, .ref 2), [287, 56, 290, 288, 289])]
/-- 21: PatienceTable.most(II)I -/
def zp_l21 : List (Option Jvm.ClassFile.Instr) := [some (.aload_n 0), some (.getfield 10), none, none, some (.iload_n 1), some (.invokevirtual 97), none, none, some (.ifCond .eq (24)), none, none, some (.aload_n 0), some (.getfield 10), none, none, some (.iload_n 2), some (.invokevirtual 97), none, none, some (.ifCond .eq (13)), none, none, some (.aload_n 0), some (.getfield 21), none, none, some (.invokevirtual 122), none, none, some (.ifCond .ne (5)), none, none, some (.iconst 0), some (.ireturn), some (.aload_n 0), some (.getfield 21), none, none, some (.iload_n 1), some (.iload_n 2), some (.invokevirtual 142), none, none, some (.ireturn)]
def zp_p21 : List (Nat × zi_T × List Nat) := [(10, (9, 0, 0, .null), [223]), (21, (9, 0, 1, .null), [224]), (97, (1, 29, 1, .ref 1), [303, 55, 278, 276, 277]), (122, (1, 43, 0, .ref 2), [304, 56, 307, 305, 306]), (142, (1, 56, 2, .ref 2), [312, 56, 315, 313, 314])]
/-- 22: PatienceTable.look(I)I -/
def zp_l22 : List (Option Jvm.ClassFile.Instr) := [some (.iload_n 1), some (.iconst 1), some (.sipush (200)), none, none, some (.invokestatic 47), none, none, some (.ifCond .ne (13)), none, none, some (.new 72), none, none, some (.dup), some (.ldc 187), none, some (.invokespecial 76), none, none, some (.athrow), some (.aload_n 0), some (.getfield 21), none, none, some (.invokevirtual 122), none, none, some (.ifCond .ne (13)), none, none, some (.new 109), none, none, some (.dup), some (.ldc 146), none, some (.invokespecial 113), none, none, some (.athrow), some (.aload_n 0), some (.getfield 35), none, none, some (.aload_n 0), some (.getfield 21), none, none, some (.iload_n 1), some (.invokevirtual 189), none, none, some (.istore_n 2), some (.aload_n 0), some (.aload_n 0), some (.getfield 35), none, none, some (.getfield 193), none, none, some (.putfield 43), none, none, some (.iload_n 2), some (.ireturn)]
def zp_p22 : List (Nat × zi_T × List Nat) := [(21, (9, 0, 1, .null), [224]), (35, (9, 0, 3, .null), [226]), (43, (0, 0, 5, .null), [228]), (47, (3, 25, 3, .null), [246, 54, 248, 247]), (122, (1, 43, 0, .ref 2), [304, 56, 307, 305, 306]), (189, (1, 68, 2, .ref 4), [596, 59, 599, 597, 598]), (193, (0, 4, 8, .null), [199])]
/-- 23: PatienceTable.hint()I -/
def zp_l23 : List (Option Jvm.ClassFile.Instr) := [some (.aload_n 0), some (.getfield 43), none, none, some (.ireturn)]
def zp_p23 : List (Nat × zi_T × List Nat) := [(43, (0, 0, 5, .null), [228])]
/-- 24: PatienceTable.positions()I -/
def zp_l24 : List (Option Jvm.ClassFile.Instr) := [some (.aload_n 0), some (.getfield 35), none, none, some (.getfield 196), none, none, some (.ireturn)]
def zp_p24 : List (Nat × zi_T × List Nat) := [(35, (9, 0, 3, .null), [226]), (196, (0, 4, 9, .null), [201])]
/-- 25: PatienceTable.isWithin(III)Z -/
def zp_l25 : List (Option Jvm.ClassFile.Instr) := [some (.iload_n 0), some (.iload_n 1), some (.if_icmp .lt (12)), none, none, some (.iload_n 0), some (.iload_n 2), some (.if_icmp .gt (7)), none, none, some (.iconst 1), some (.goto (4)), none, none, some (.iconst 0), some (.ireturn)]
def zp_p25 : List (Nat × zi_T × List Nat) := []
/-- 26: PatienceTable.placeTold(C)I -/
def zp_l26 : List (Option Jvm.ClassFile.Instr) := [some (.iload_n 0), some (.bipush (49)), none, some (.if_icmp .lt (14)), none, none, some (.iload_n 0), some (.bipush (56)), none, some (.if_icmp .gt (8)), none, none, some (.iload_n 0), some (.bipush (49)), none, some (.isub), some (.ireturn), some (.iload_n 0), some (.bipush (97)), none, some (.if_icmp .lt (17)), none, none, some (.iload_n 0), some (.bipush (100)), none, some (.if_icmp .gt (11)), none, none, some (.bipush (8)), none, some (.iload_n 0), some (.iadd), some (.bipush (97)), none, some (.isub), some (.ireturn), some (.iload_n 0), some (.bipush (104)), none, some (.if_icmp .ne (8)), none, none, some (.bipush (12)), none, some (.goto (4)), none, none, some (.iconst (-1)), some (.ireturn)]
def zp_p26 : List (Nat × zi_T × List Nat) := []
/-- 27: PatienceTable.bring(III)V -/
def zp_l27 : List (Option Jvm.ClassFile.Instr) := [some (.aload_n 0), some (.getfield 21), none, none, some (.iload_n 1), some (.iload_n 3), some (.iconst 1), some (.isub), some (.invokevirtual 184), none, none, some (.istore 4), none, some (.aload_n 0), some (.getfield 21), none, none, some (.iload 4), none, some (.iload_n 1), some (.iload_n 2), some (.invokevirtual 171), none, none, some (.aload_n 0), some (.getfield 28), none, none, some (.iload 4), none, some (.iload_n 1), some (.iload_n 2), some (.iload_n 3), some (.invokevirtual 199), none, none, some (.aload_n 0), some (.iconst (-1)), some (.putfield 43), none, none, some (.return_)]
def zp_p27 : List (Nat × zi_T × List Nat) := [(21, (9, 0, 1, .null), [224]), (28, (9, 0, 2, .null), [225]), (43, (0, 0, 5, .null), [228]), (171, (1, 62, 3, .ref 2), [514, 56, 517, 515, 516]), (184, (1, 47, 2, .ref 2), [291, 56, 294, 292, 293]), (199, (1, 65, 4, .ref 3), [522, 58, 525, 523, 524])]
/-- 28: PatienceTable$Game.<init>()V -/
def zp_l28 : List (Option Jvm.ClassFile.Instr) := [some (.aload_n 0), some (.invokespecial 3), none, none, some (.aload_n 0), some (.bipush (8)), none, some (.putfield 9), none, none, some (.aload_n 0), some (.iconst 4), some (.putfield 15), none, none, some (.aload_n 0), some (.iconst 0), some (.putfield 18), none, none, some (.aload_n 0), some (.iconst 0), some (.putfield 21), none, none, some (.aload_n 0), some (.iconst 4), some (.putfield 24), none, none, some (.aload_n 0), some (.bipush (13)), none, some (.putfield 27), none, none, some (.return_)]
def zp_p28 : List (Nat × zi_T × List Nat) := [(3, (7, 0, 0, .null), [82, 75, 76]), (9, (0, 1, 0, .null), [83]), (15, (0, 1, 1, .null), [86]), (18, (0, 1, 2, .null), [89]), (21, (0, 1, 3, .null), [92]), (24, (0, 1, 4, .null), [95]), (27, (0, 1, 5, .null), [98])]
/-- 29: PatienceTable$Game.isColumn(I)Z -/
def zp_l29 : List (Option Jvm.ClassFile.Instr) := [some (.iload_n 1), some (.ifCond .lt (15)), none, none, some (.iload_n 1), some (.aload_n 0), some (.getfield 9), none, none, some (.if_icmp .ge (7)), none, none, some (.iconst 1), some (.goto (4)), none, none, some (.iconst 0), some (.ireturn)]
def zp_p29 : List (Nat × zi_T × List Nat) := [(9, (0, 1, 0, .null), [83])]
/-- 30: PatienceTable$Game.isCell(I)Z -/
def zp_l30 : List (Option Jvm.ClassFile.Instr) := [some (.iload_n 1), some (.bipush (8)), none, some (.if_icmp .lt (18)), none, none, some (.iload_n 1), some (.bipush (8)), none, some (.aload_n 0), some (.getfield 15), none, none, some (.iadd), some (.if_icmp .ge (7)), none, none, some (.iconst 1), some (.goto (4)), none, none, some (.iconst 0), some (.ireturn)]
def zp_p30 : List (Nat × zi_T × List Nat) := [(15, (0, 1, 1, .null), [86])]
/-- 31: PatienceTable$Game.isPlace(I)Z -/
def zp_l31 : List (Option Jvm.ClassFile.Instr) := [some (.aload_n 0), some (.iload_n 1), some (.invokevirtual 30), none, none, some (.ifCond .ne (17)), none, none, some (.aload_n 0), some (.iload_n 1), some (.invokevirtual 34), none, none, some (.ifCond .ne (9)), none, none, some (.iload_n 1), some (.bipush (12)), none, some (.if_icmp .ne (7)), none, none, some (.iconst 1), some (.goto (4)), none, none, some (.iconst 0), some (.ireturn)]
def zp_p31 : List (Nat × zi_T × List Nat) := [(30, (1, 29, 1, .ref 1), [275, 55, 278, 276, 277]), (34, (1, 30, 1, .ref 1), [279, 55, 282, 280, 281])]
/-- 32: PatienceTable$Game.cardCount()I -/
def zp_l32 : List (Option Jvm.ClassFile.Instr) := [some (.aload_n 0), some (.getfield 24), none, none, some (.aload_n 0), some (.getfield 27), none, none, some (.imul), some (.ireturn)]
def zp_p32 : List (Nat × zi_T × List Nat) := [(24, (0, 1, 4, .null), [95]), (27, (0, 1, 5, .null), [98])]
/-- 33: PatienceTable$Game.isCard(I)Z -/
def zp_l33 : List (Option Jvm.ClassFile.Instr) := [some (.iload_n 1), some (.ifCond .lt (15)), none, none, some (.iload_n 1), some (.aload_n 0), some (.invokevirtual 37), none, none, some (.if_icmp .ge (7)), none, none, some (.iconst 1), some (.goto (4)), none, none, some (.iconst 0), some (.ireturn)]
def zp_p33 : List (Nat × zi_T × List Nat) := [(37, (1, 32, 0, .ref 1), [478, 55, 311, 309, 310])]
/-- 34: PatienceTable$Game.rankOf(I)I -/
def zp_l34 : List (Option Jvm.ClassFile.Instr) := [some (.iload_n 1), some (.aload_n 0), some (.getfield 24), none, none, some (.idiv), some (.iconst 1), some (.iadd), some (.ireturn)]
def zp_p34 : List (Nat × zi_T × List Nat) := [(24, (0, 1, 4, .null), [95])]
/-- 35: PatienceTable$Game.suitOf(I)I -/
def zp_l35 : List (Option Jvm.ClassFile.Instr) := [some (.iload_n 1), some (.aload_n 0), some (.getfield 24), none, none, some (.irem), some (.ireturn)]
def zp_p35 : List (Nat × zi_T × List Nat) := [(24, (0, 1, 4, .null), [95])]
/-- 36: PatienceTable$Game.isRed(I)Z -/
def zp_l36 : List (Option Jvm.ClassFile.Instr) := [some (.iload_n 1), some (.iconst 1), some (.if_icmp .eq (8)), none, none, some (.iload_n 1), some (.iconst 2), some (.if_icmp .ne (7)), none, none, some (.iconst 1), some (.goto (4)), none, none, some (.iconst 0), some (.ireturn)]
def zp_p36 : List (Nat × zi_T × List Nat) := []
/-- 37: PatienceTable$Game.fitsOn(II)Z -/
def zp_l37 : List (Option Jvm.ClassFile.Instr) := [some (.aload_n 0), some (.iload_n 1), some (.invokevirtual 41), none, none, some (.iconst 1), some (.iadd), some (.aload_n 0), some (.iload_n 2), some (.invokevirtual 41), none, none, some (.if_icmp .eq (5)), none, none, some (.iconst 0), some (.ireturn), some (.aload_n 0), some (.getfield 18), none, none, some (.ifCond .ne (30)), none, none, some (.aload_n 0), some (.aload_n 0), some (.iload_n 1), some (.invokevirtual 45), none, none, some (.invokevirtual 48), none, none, some (.aload_n 0), some (.aload_n 0), some (.iload_n 2), some (.invokevirtual 45), none, none, some (.invokevirtual 48), none, none, some (.if_icmp .eq (7)), none, none, some (.iconst 1), some (.goto (4)), none, none, some (.iconst 0), some (.ireturn), some (.aload_n 0), some (.getfield 18), none, none, some (.iconst 1), some (.if_icmp .ne (16)), none, none, some (.aload_n 0), some (.iload_n 1), some (.invokevirtual 45), none, none, some (.aload_n 0), some (.iload_n 2), some (.invokevirtual 45), none, none, some (.if_icmp .ne (7)), none, none, some (.iconst 1), some (.goto (4)), none, none, some (.iconst 0), some (.ireturn)]
def zp_p37 : List (Nat × zi_T × List Nat) := [(18, (0, 1, 2, .null), [89]), (41, (1, 34, 1, .ref 1), [324, 55, 327, 325, 326]), (45, (1, 35, 1, .ref 1), [328, 55, 331, 329, 330]), (48, (1, 36, 1, .ref 1), [332, 55, 335, 333, 334])]
/-- 38: PatienceTable$Game.fitsInEmpty(I)Z -/
def zp_l38 : List (Option Jvm.ClassFile.Instr) := [some (.aload_n 0), some (.getfield 21), none, none, some (.ifCond .eq (23)), none, none, some (.aload_n 0), some (.getfield 21), none, none, some (.iconst 1), some (.if_icmp .ne (19)), none, none, some (.aload_n 0), some (.iload_n 1), some (.invokevirtual 41), none, none, some (.aload_n 0), some (.getfield 27), none, none, some (.if_icmp .ne (7)), none, none, some (.iconst 1), some (.goto (4)), none, none, some (.iconst 0), some (.ireturn)]
def zp_p38 : List (Nat × zi_T × List Nat) := [(21, (0, 1, 3, .null), [92]), (27, (0, 1, 5, .null), [98]), (41, (1, 34, 1, .ref 1), [324, 55, 327, 325, 326])]
/-- 39: PatienceTable$Layout.<init>(LPatienceTable$Game;)V -/
def zp_l39 : List (Option Jvm.ClassFile.Instr) := [some (.aload_n 0), some (.invokespecial 3), none, none, some (.aload_n 0), some (.bipush (52)), none, some (.newarray .int), none, some (.putfield 9), none, none, some (.aload_n 0), some (.bipush (12)), none, some (.newarray .int), none, some (.putfield 15), none, none, some (.aload_n 0), some (.iconst 4), some (.newarray .int), none, some (.putfield 18), none, none, some (.aload_n 0), some (.aload_n 1), some (.putfield 21), none, none, some (.aload_n 0), some (.invokevirtual 25), none, none, some (.return_)]
def zp_p39 : List (Nat × zi_T × List Nat) := [(3, (7, 0, 0, .null), [118, 75, 76]), (9, (8, 2, 1, .null), [127]), (15, (8, 2, 2, .null), [129]), (18, (8, 2, 3, .null), [131]), (21, (8, 2, 0, .null), [126]), (25, (1, 40, 0, .ref 2), [119, 56, 122, 120, 121])]
/-- 40: PatienceTable$Layout.takeAllUp()V -/
def zp_l40 : List (Option Jvm.ClassFile.Instr) := [some (.aload_n 0), some (.getfield 9), none, none, some (.bipush (-4)), none, some (.invokestatic 28), none, none, some (.aload_n 0), some (.getfield 15), none, none, some (.iconst (-1)), some (.invokestatic 28), none, none, some (.aload_n 0), some (.getfield 18), none, none, some (.iconst 0), some (.invokestatic 28), none, none, some (.aload_n 0), some (.iconst 0), some (.putfield 34), none, none, some (.aload_n 0), some (.iconst 0), some (.putfield 38), none, none, some (.return_)]
def zp_p40 : List (Nat × zi_T × List Nat) := [(9, (9, 2, 1, .null), [127]), (15, (9, 2, 2, .null), [129]), (18, (9, 2, 3, .null), [131]), (28, (3, 134, 2, .null), [123, 57, 125, 124]), (34, (0, 2, 4, .null), [132]), (38, (0, 2, 5, .null), [134])]
/-- 41: PatienceTable$Layout.becomeLike(LPatienceTable$Layout;)V -/
def zp_l41 : List (Option Jvm.ClassFile.Instr) := [some (.aload_n 1), some (.getfield 9), none, none, some (.iconst 0), some (.aload_n 0), some (.getfield 9), none, none, some (.iconst 0), some (.bipush (52)), none, some (.invokestatic 41), none, none, some (.aload_n 1), some (.getfield 15), none, none, some (.iconst 0), some (.aload_n 0), some (.getfield 15), none, none, some (.iconst 0), some (.bipush (12)), none, some (.invokestatic 41), none, none, some (.aload_n 1), some (.getfield 18), none, none, some (.iconst 0), some (.aload_n 0), some (.getfield 18), none, none, some (.iconst 0), some (.iconst 4), some (.invokestatic 41), none, none, some (.aload_n 0), some (.aload_n 1), some (.getfield 34), none, none, some (.putfield 34), none, none, some (.aload_n 0), some (.aload_n 1), some (.getfield 38), none, none, some (.putfield 38), none, none, some (.return_)]
def zp_p41 : List (Nat × zi_T × List Nat) := [(9, (9, 2, 1, .null), [127]), (15, (9, 2, 2, .null), [129]), (18, (9, 2, 3, .null), [131]), (34, (0, 2, 4, .null), [132]), (38, (0, 2, 5, .null), [134]), (41, (7, 2, 0, .null), [609, 611, 610, 68])]
/-- 42: PatienceTable$Layout.isLaid(I)Z -/
def zp_l42 : List (Option Jvm.ClassFile.Instr) := [some (.aload_n 0), some (.getfield 9), none, none, some (.iload_n 1), some (.iaload), some (.bipush (-4)), none, some (.if_icmp .eq (7)), none, none, some (.iconst 1), some (.goto (4)), none, none, some (.iconst 0), some (.ireturn)]
def zp_p42 : List (Nat × zi_T × List Nat) := [(9, (9, 2, 1, .null), [127])]
/-- 43: PatienceTable$Layout.isAllLaid()Z -/
def zp_l43 : List (Option Jvm.ClassFile.Instr) := [some (.aload_n 0), some (.getfield 34), none, none, some (.aload_n 0), some (.getfield 21), none, none, some (.invokevirtual 47), none, none, some (.if_icmp .ne (7)), none, none, some (.iconst 1), some (.goto (4)), none, none, some (.iconst 0), some (.ireturn)]
def zp_p43 : List (Nat × zi_T × List Nat) := [(21, (9, 2, 0, .null), [126]), (34, (0, 2, 4, .null), [132]), (47, (1, 32, 0, .ref 1), [308, 55, 311, 309, 310])]
/-- 44: PatienceTable$Layout.isAllHome()Z -/
def zp_l44 : List (Option Jvm.ClassFile.Instr) := [some (.aload_n 0), some (.getfield 38), none, none, some (.aload_n 0), some (.getfield 21), none, none, some (.invokevirtual 47), none, none, some (.if_icmp .ne (7)), none, none, some (.iconst 1), some (.goto (4)), none, none, some (.iconst 0), some (.ireturn)]
def zp_p44 : List (Nat × zi_T × List Nat) := [(21, (9, 2, 0, .null), [126]), (38, (0, 2, 5, .null), [134]), (47, (1, 32, 0, .ref 1), [308, 55, 311, 309, 310])]
/-- 45: PatienceTable$Layout.layOn(II)V -/
def zp_l45 : List (Option Jvm.ClassFile.Instr) := [some (.aload_n 0), some (.getfield 9), none, none, some (.iload_n 2), some (.aload_n 0), some (.getfield 15), none, none, some (.iload_n 1), some (.iaload), some (.iastore), some (.aload_n 0), some (.getfield 15), none, none, some (.iload_n 1), some (.iload_n 2), some (.iastore), some (.aload_n 0), some (.dup), some (.getfield 34), none, none, some (.iconst 1), some (.iadd), some (.putfield 34), none, none, some (.return_)]
def zp_p45 : List (Nat × zi_T × List Nat) := [(9, (9, 2, 1, .null), [127]), (15, (9, 2, 2, .null), [129]), (34, (0, 2, 4, .null), [132])]
/-- 46: PatienceTable$Layout.heightOf(I)I -/
def zp_l46 : List (Option Jvm.ClassFile.Instr) := [some (.iload_n 1), some (.bipush (12)), none, some (.if_icmp .ne (8)), none, none, some (.aload_n 0), some (.getfield 38), none, none, some (.ireturn), some (.iconst 0), some (.istore_n 2), some (.aload_n 0), some (.getfield 15), none, none, some (.iload_n 1), some (.iaload), some (.istore_n 3), some (.iload_n 3), some (.ifCond .lt (22)), none, none, some (.iload_n 2), some (.bipush (52)), none, some (.if_icmp .ge (16)), none, none, some (.iinc 2 (1)), none, none, some (.aload_n 0), some (.getfield 9), none, none, some (.iload_n 3), some (.iaload), some (.istore_n 3), some (.goto (-20)), none, none, some (.iload_n 2), some (.ireturn)]
def zp_p46 : List (Nat × zi_T × List Nat) := [(9, (9, 2, 1, .null), [127]), (15, (9, 2, 2, .null), [129]), (38, (0, 2, 5, .null), [134])]
/-- 47: PatienceTable$Layout.cardFromTop(II)I -/
def zp_l47 : List (Option Jvm.ClassFile.Instr) := [some (.iload_n 2), some (.ifCond .ge (5)), none, none, some (.iconst (-1)), some (.ireturn), some (.aload_n 0), some (.getfield 15), none, none, some (.iload_n 1), some (.iaload), some (.istore_n 3), some (.iconst 0), some (.istore 4), none, some (.iload 4), none, some (.iload_n 2), some (.if_icmp .ge (20)), none, none, some (.iload_n 3), some (.ifCond .lt (16)), none, none, some (.aload_n 0), some (.getfield 9), none, none, some (.iload_n 3), some (.iaload), some (.istore_n 3), some (.iinc 4 (1)), none, none, some (.goto (-20)), none, none, some (.iload_n 3), some (.ifCond .lt (7)), none, none, some (.iload_n 3), some (.goto (4)), none, none, some (.iconst (-1)), some (.ireturn)]
def zp_p47 : List (Nat × zi_T × List Nat) := [(9, (9, 2, 1, .null), [127]), (15, (9, 2, 2, .null), [129])]
/-- 48: PatienceTable$Layout.topAtHome(I)I -/
def zp_l48 : List (Option Jvm.ClassFile.Instr) := [some (.iload_n 1), some (.aload_n 0), some (.getfield 21), none, none, some (.getfield 53), none, none, some (.if_icmp .ge (12)), none, none, some (.aload_n 0), some (.getfield 18), none, none, some (.iload_n 1), some (.iaload), some (.ifCond .ne (5)), none, none, some (.iconst (-1)), some (.ireturn), some (.aload_n 0), some (.getfield 21), none, none, some (.getfield 53), none, none, some (.aload_n 0), some (.getfield 18), none, none, some (.iload_n 1), some (.iaload), some (.iconst 1), some (.isub), some (.imul), some (.iload_n 1), some (.iadd), some (.ireturn)]
def zp_p48 : List (Nat × zi_T × List Nat) := [(18, (9, 2, 3, .null), [131]), (21, (9, 2, 0, .null), [126]), (53, (0, 1, 4, .null), [97])]
/-- 49: PatienceTable$Layout.allows(III)Z -/
def zp_l49 : List (Option Jvm.ClassFile.Instr) := [some (.iload_n 3), some (.iconst 1), some (.if_icmp .ne (12)), none, none, some (.aload_n 0), some (.iload_n 1), some (.iload_n 2), some (.invokevirtual 56), none, none, some (.goto (23)), none, none, some (.iload_n 3), some (.iconst 1), some (.if_icmp .le (17)), none, none, some (.aload_n 0), some (.iload_n 1), some (.iload_n 2), some (.iload_n 3), some (.invokevirtual 60), none, none, some (.ifCond .eq (7)), none, none, some (.iconst 1), some (.goto (4)), none, none, some (.iconst 0), some (.ireturn)]
def zp_p49 : List (Nat × zi_T × List Nat) := [(56, (1, 50, 2, .ref 2), [340, 56, 343, 341, 342]), (60, (1, 51, 3, .ref 2), [360, 56, 363, 362, 3])]
/-- 50: PatienceTable$Layout.allowsOne(II)Z -/
def zp_l50 : List (Option Jvm.ClassFile.Instr) := [some (.aload_n 0), some (.getfield 15), none, none, some (.iload_n 1), some (.iaload), some (.istore_n 3), some (.iload_n 3), some (.iconst (-1)), some (.if_icmp .eq (8)), none, none, some (.iload_n 1), some (.iload_n 2), some (.if_icmp .ne (5)), none, none, some (.iconst 0), some (.ireturn), some (.aload_n 0), some (.getfield 21), none, none, some (.iload_n 2), some (.invokevirtual 64), none, none, some (.ifCond .eq (10)), none, none, some (.aload_n 0), some (.iload_n 2), some (.iload_n 3), some (.invokevirtual 68), none, none, some (.ireturn), some (.aload_n 0), some (.getfield 21), none, none, some (.iload_n 2), some (.invokevirtual 71), none, none, some (.ifCond .eq (30)), none, none, some (.aload_n 0), some (.getfield 21), none, none, some (.iload_n 1), some (.invokevirtual 64), none, none, some (.ifCond .eq (17)), none, none, some (.aload_n 0), some (.getfield 15), none, none, some (.iload_n 2), some (.iaload), some (.iconst (-1)), some (.if_icmp .ne (7)), none, none, some (.iconst 1), some (.goto (4)), none, none, some (.iconst 0), some (.ireturn), some (.iload_n 2), some (.bipush (12)), none, some (.if_icmp .ne (15)), none, none, some (.aload_n 0), some (.iload_n 3), some (.invokevirtual 74), none, none, some (.ifCond .eq (7)), none, none, some (.iconst 1), some (.goto (4)), none, none, some (.iconst 0), some (.ireturn)]
def zp_p50 : List (Nat × zi_T × List Nat) := [(15, (9, 2, 2, .null), [129]), (21, (9, 2, 0, .null), [126]), (64, (1, 29, 1, .ref 1), [344, 55, 278, 276, 277]), (68, (1, 52, 2, .ref 2), [345, 56, 348, 347, 1]), (71, (1, 30, 1, .ref 1), [353, 55, 282, 280, 281]), (74, (1, 57, 1, .ref 2), [354, 56, 357, 356, 2])]
/-- 51: PatienceTable$Layout.allowsRow(III)Z -/
def zp_l51 : List (Option Jvm.ClassFile.Instr) := [some (.aload_n 0), some (.getfield 21), none, none, some (.iload_n 1), some (.invokevirtual 64), none, none, some (.ifCond .eq (57)), none, none, some (.aload_n 0), some (.getfield 21), none, none, some (.iload_n 2), some (.invokevirtual 64), none, none, some (.ifCond .eq (46)), none, none, some (.iload_n 1), some (.iload_n 2), some (.if_icmp .eq (41)), none, none, some (.iload_n 3), some (.aload_n 0), some (.iload_n 1), some (.invokevirtual 77), none, none, some (.if_icmp .gt (32)), none, none, some (.iload_n 3), some (.aload_n 0), some (.iload_n 2), some (.invokevirtual 81), none, none, some (.if_icmp .gt (23)), none, none, some (.aload_n 0), some (.iload_n 2), some (.aload_n 0), some (.iload_n 1), some (.iload_n 3), some (.iconst 1), some (.isub), some (.invokevirtual 84), none, none, some (.invokevirtual 68), none, none, some (.ifCond .eq (7)), none, none, some (.iconst 1), some (.goto (4)), none, none, some (.iconst 0), some (.ireturn)]
def zp_p51 : List (Nat × zi_T × List Nat) := [(21, (9, 2, 0, .null), [126]), (64, (1, 29, 1, .ref 1), [344, 55, 278, 276, 277]), (68, (1, 52, 2, .ref 2), [345, 56, 348, 347, 1]), (77, (1, 53, 1, .ref 2), [316, 56, 319, 318, 0]), (81, (1, 54, 1, .ref 2), [364, 56, 367, 366, 4]), (84, (1, 47, 2, .ref 2), [372, 56, 294, 292, 293])]
/-- 52: PatienceTable$Layout.bears(II)Z -/
def zp_l52 : List (Option Jvm.ClassFile.Instr) := [some (.aload_n 0), some (.getfield 15), none, none, some (.iload_n 1), some (.iaload), some (.iconst (-1)), some (.if_icmp .ne (14)), none, none, some (.aload_n 0), some (.getfield 21), none, none, some (.iload_n 2), some (.invokevirtual 88), none, none, some (.goto (17)), none, none, some (.aload_n 0), some (.getfield 21), none, none, some (.iload_n 2), some (.aload_n 0), some (.getfield 15), none, none, some (.iload_n 1), some (.iaload), some (.invokevirtual 91), none, none, some (.ireturn)]
def zp_p52 : List (Nat × zi_T × List Nat) := [(15, (9, 2, 2, .null), [129]), (21, (9, 2, 0, .null), [126]), (88, (1, 38, 1, .ref 1), [349, 55, 352, 350, 351]), (91, (1, 37, 2, .ref 1), [320, 55, 323, 321, 322])]
/-- 53: PatienceTable$Layout.rowOf(I)I -/
def zp_l53 : List (Option Jvm.ClassFile.Instr) := [some (.aload_n 0), some (.getfield 15), none, none, some (.iload_n 1), some (.iaload), some (.istore_n 2), some (.iload_n 2), some (.iconst (-1)), some (.if_icmp .ne (5)), none, none, some (.iconst 0), some (.ireturn), some (.iconst 1), some (.istore_n 3), some (.iload_n 3), some (.bipush (13)), none, some (.if_icmp .ge (42)), none, none, some (.aload_n 0), some (.getfield 9), none, none, some (.iload_n 2), some (.iaload), some (.ifCond .lt (33)), none, none, some (.aload_n 0), some (.getfield 21), none, none, some (.iload_n 2), some (.aload_n 0), some (.getfield 9), none, none, some (.iload_n 2), some (.iaload), some (.invokevirtual 91), none, none, some (.ifCond .eq (16)), none, none, some (.aload_n 0), some (.getfield 9), none, none, some (.iload_n 2), some (.iaload), some (.istore_n 2), some (.iinc 3 (1)), none, none, some (.goto (-42)), none, none, some (.iload_n 3), some (.ireturn)]
def zp_p53 : List (Nat × zi_T × List Nat) := [(9, (9, 2, 1, .null), [127]), (15, (9, 2, 2, .null), [129]), (21, (9, 2, 0, .null), [126]), (91, (1, 37, 2, .ref 1), [320, 55, 323, 321, 322])]
/-- 54: PatienceTable$Layout.mostAtOnce(I)I -/
def zp_l54 : List (Option Jvm.ClassFile.Instr) := [some (.aload_n 0), some (.bipush (8)), none, some (.aload_n 0), some (.getfield 21), none, none, some (.getfield 94), none, none, some (.invokevirtual 97), none, none, some (.istore_n 2), some (.aload_n 0), some (.getfield 21), none, none, some (.getfield 100), none, none, some (.ifCond .eq (7)), none, none, some (.iload_n 2), some (.iconst 1), some (.iadd), some (.ireturn), some (.aload_n 0), some (.iconst 0), some (.aload_n 0), some (.getfield 21), none, none, some (.getfield 102), none, none, some (.invokevirtual 97), none, none, some (.istore_n 3), some (.aload_n 0), some (.getfield 15), none, none, some (.iload_n 1), some (.iaload), some (.iconst (-1)), some (.if_icmp .ne (9)), none, none, some (.iload_n 3), some (.iconst 1), some (.isub), some (.goto (4)), none, none, some (.iload_n 3), some (.istore 4), none, some (.iload_n 2), some (.iconst 1), some (.iadd), some (.iload 4), none, some (.ishl), some (.ireturn)]
def zp_p54 : List (Nat × zi_T × List Nat) := [(15, (9, 2, 2, .null), [129]), (21, (9, 2, 0, .null), [126]), (94, (0, 1, 1, .null), [88]), (97, (1, 55, 2, .ref 2), [368, 56, 371, 370, 5]), (100, (0, 1, 3, .null), [94]), (102, (0, 1, 0, .null), [85])]
/-- 55: PatienceTable$Layout.emptyAmong(II)I -/
def zp_l55 : List (Option Jvm.ClassFile.Instr) := [some (.iconst 0), some (.istore_n 3), some (.iload_n 1), some (.istore 4), none, some (.iload 4), none, some (.iload_n 1), some (.iload_n 2), some (.iadd), some (.if_icmp .ge (23)), none, none, some (.aload_n 0), some (.getfield 15), none, none, some (.iload 4), none, some (.iaload), some (.iconst (-1)), some (.if_icmp .ne (6)), none, none, some (.iinc 3 (1)), none, none, some (.iinc 4 (1)), none, none, some (.goto (-25)), none, none, some (.iload_n 3), some (.ireturn)]
def zp_p55 : List (Nat × zi_T × List Nat) := [(15, (9, 2, 2, .null), [129])]
/-- 56: PatienceTable$Layout.mostBetween(II)I -/
def zp_l56 : List (Option Jvm.ClassFile.Instr) := [some (.aload_n 0), some (.iload_n 1), some (.invokevirtual 77), none, none, some (.istore_n 3), some (.iload_n 3), some (.ifCond .le (21)), none, none, some (.aload_n 0), some (.iload_n 1), some (.iload_n 2), some (.iload_n 3), some (.invokevirtual 105), none, none, some (.ifCond .eq (5)), none, none, some (.iload_n 3), some (.ireturn), some (.iinc 3 (-1)), none, none, some (.goto (-19)), none, none, some (.iconst 0), some (.ireturn)]
def zp_p56 : List (Nat × zi_T × List Nat) := [(77, (1, 53, 1, .ref 2), [316, 56, 319, 318, 0]), (105, (1, 49, 3, .ref 2), [336, 56, 339, 337, 338])]
/-- 57: PatienceTable$Layout.mayGoHome(I)Z -/
def zp_l57 : List (Option Jvm.ClassFile.Instr) := [some (.aload_n 0), some (.getfield 21), none, none, some (.iload_n 1), some (.invokevirtual 108), none, none, some (.aload_n 0), some (.getfield 18), none, none, some (.aload_n 0), some (.getfield 21), none, none, some (.iload_n 1), some (.invokevirtual 111), none, none, some (.iaload), some (.iconst 1), some (.iadd), some (.if_icmp .ne (7)), none, none, some (.iconst 1), some (.goto (4)), none, none, some (.iconst 0), some (.ireturn)]
def zp_p57 : List (Nat × zi_T × List Nat) := [(18, (9, 2, 3, .null), [131]), (21, (9, 2, 0, .null), [126]), (108, (1, 34, 1, .ref 1), [358, 55, 327, 325, 326]), (111, (1, 35, 1, .ref 1), [359, 55, 331, 329, 330])]
/-- 58: PatienceTable$Layout.placeOfSafe()I -/
def zp_l58 : List (Option Jvm.ClassFile.Instr) := [some (.bipush (8)), none, some (.istore_n 1), some (.iload_n 1), some (.bipush (12)), none, some (.if_icmp .ge (19)), none, none, some (.aload_n 0), some (.iload_n 1), some (.invokevirtual 114), none, none, some (.ifCond .eq (5)), none, none, some (.iload_n 1), some (.ireturn), some (.iinc 1 (1)), none, none, some (.goto (-19)), none, none, some (.iconst 0), some (.istore_n 1), some (.iload_n 1), some (.bipush (8)), none, some (.if_icmp .ge (19)), none, none, some (.aload_n 0), some (.iload_n 1), some (.invokevirtual 114), none, none, some (.ifCond .eq (5)), none, none, some (.iload_n 1), some (.ireturn), some (.iinc 1 (1)), none, none, some (.goto (-19)), none, none, some (.iconst (-1)), some (.ireturn)]
def zp_p58 : List (Nat × zi_T × List Nat) := [(114, (1, 59, 1, .ref 2), [551, 56, 554, 553, 8])]
/-- 59: PatienceTable$Layout.isTopSafe(I)Z -/
def zp_l59 : List (Option Jvm.ClassFile.Instr) := [some (.aload_n 0), some (.getfield 15), none, none, some (.iload_n 1), some (.iaload), some (.istore_n 2), some (.iload_n 2), some (.iconst (-1)), some (.if_icmp .eq (23)), none, none, some (.aload_n 0), some (.iload_n 2), some (.invokevirtual 74), none, none, some (.ifCond .eq (15)), none, none, some (.aload_n 0), some (.iload_n 2), some (.invokevirtual 117), none, none, some (.ifCond .eq (7)), none, none, some (.iconst 1), some (.goto (4)), none, none, some (.iconst 0), some (.ireturn)]
def zp_p59 : List (Nat × zi_T × List Nat) := [(15, (9, 2, 2, .null), [129]), (74, (1, 57, 1, .ref 2), [354, 56, 357, 356, 2]), (117, (1, 60, 1, .ref 2), [555, 56, 558, 557, 9])]
/-- 60: PatienceTable$Layout.isSafe(I)Z -/
def zp_l60 : List (Option Jvm.ClassFile.Instr) := [some (.aload_n 0), some (.getfield 21), none, none, some (.iload_n 1), some (.invokevirtual 108), none, none, some (.istore_n 2), some (.aload_n 0), some (.getfield 21), none, none, some (.getfield 120), none, none, some (.iconst 1), some (.if_icmp .eq (8)), none, none, some (.iload_n 2), some (.iconst 2), some (.if_icmp .gt (5)), none, none, some (.iconst 1), some (.ireturn), some (.aload_n 0), some (.getfield 21), none, none, some (.aload_n 0), some (.getfield 21), none, none, some (.iload_n 1), some (.invokevirtual 111), none, none, some (.invokevirtual 123), none, none, some (.istore_n 3), some (.iconst 0), some (.istore 4), none, some (.iload 4), none, some (.aload_n 0), some (.getfield 21), none, none, some (.getfield 53), none, none, some (.if_icmp .ge (59)), none, none, some (.aload_n 0), some (.getfield 21), none, none, some (.getfield 120), none, none, some (.ifCond .ne (16)), none, none, some (.aload_n 0), some (.getfield 21), none, none, some (.iload 4), none, some (.invokevirtual 123), none, none, some (.iload_n 3), some (.if_icmp .eq (7)), none, none, some (.iconst 1), some (.goto (4)), none, none, some (.iconst 0), some (.istore 5), none, some (.iload 5), none, some (.ifCond .eq (18)), none, none, some (.aload_n 0), some (.getfield 18), none, none, some (.iload 4), none, some (.iaload), some (.iload_n 2), some (.iconst 1), some (.isub), some (.if_icmp .ge (5)), none, none, some (.iconst 0), some (.ireturn), some (.iinc 4 (1)), none, none, some (.goto (-65)), none, none, some (.iconst 1), some (.ireturn)]
def zp_p60 : List (Nat × zi_T × List Nat) := [(18, (9, 2, 3, .null), [131]), (21, (9, 2, 0, .null), [126]), (53, (0, 1, 4, .null), [97]), (108, (1, 34, 1, .ref 1), [358, 55, 327, 325, 326]), (111, (1, 35, 1, .ref 1), [359, 55, 331, 329, 330]), (120, (0, 1, 2, .null), [91]), (123, (1, 36, 1, .ref 1), [559, 55, 335, 333, 334])]
/-- 61: PatienceTable$Layout.groundAt(I)I -/
def zp_l61 : List (Option Jvm.ClassFile.Instr) := [some (.iload_n 1), some (.bipush (12)), none, some (.if_icmp .ne (6)), none, none, some (.bipush (-3)), none, some (.ireturn), some (.iload_n 1), some (.bipush (8)), none, some (.if_icmp .lt (8)), none, none, some (.bipush (-2)), none, some (.goto (9)), none, none, some (.aload_n 0), some (.getfield 15), none, none, some (.iload_n 1), some (.iaload), some (.ireturn)]
def zp_p61 : List (Nat × zi_T × List Nat) := [(15, (9, 2, 2, .null), [129])]
/-- 62: PatienceTable$Layout.carry(III)V -/
def zp_l62 : List (Option Jvm.ClassFile.Instr) := [some (.iload_n 2), some (.bipush (12)), none, some (.if_icmp .ne (7)), none, none, some (.iload_n 1), some (.goto (9)), none, none, some (.aload_n 0), some (.getfield 15), none, none, some (.iload_n 2), some (.iaload), some (.istore 4), none, some (.aload_n 0), some (.getfield 9), none, none, some (.iload_n 1), some (.iaload), some (.istore 5), none, some (.aload_n 0), some (.getfield 9), none, none, some (.iload_n 1), some (.aload_n 0), some (.iload_n 3), some (.invokevirtual 126), none, none, some (.iastore), some (.iload_n 2), some (.bipush (12)), none, some (.if_icmp .ne (33)), none, none, some (.aload_n 0), some (.getfield 18), none, none, some (.aload_n 0), some (.getfield 21), none, none, some (.iload_n 1), some (.invokevirtual 111), none, none, some (.dup2), some (.iaload), some (.iconst 1), some (.isub), some (.iastore), some (.aload_n 0), some (.dup), some (.getfield 38), none, none, some (.iconst 1), some (.isub), some (.putfield 38), none, none, some (.goto (21)), none, none, some (.aload_n 0), some (.getfield 15), none, none, some (.iload_n 2), some (.iload_n 2), some (.bipush (8)), none, some (.if_icmp .lt (7)), none, none, some (.iconst (-1)), some (.goto (5)), none, none, some (.iload 5), none, some (.iastore), some (.iload_n 3), some (.bipush (12)), none, some (.if_icmp .ne (33)), none, none, some (.aload_n 0), some (.getfield 18), none, none, some (.aload_n 0), some (.getfield 21), none, none, some (.iload_n 1), some (.invokevirtual 111), none, none, some (.dup2), some (.iaload), some (.iconst 1), some (.iadd), some (.iastore), some (.aload_n 0), some (.dup), some (.getfield 38), none, none, some (.iconst 1), some (.iadd), some (.putfield 38), none, none, some (.goto (11)), none, none, some (.aload_n 0), some (.getfield 15), none, none, some (.iload_n 3), some (.iload 4), none, some (.iastore), some (.return_)]
def zp_p62 : List (Nat × zi_T × List Nat) := [(9, (9, 2, 1, .null), [127]), (15, (9, 2, 2, .null), [129]), (18, (9, 2, 3, .null), [131]), (21, (9, 2, 0, .null), [126]), (38, (0, 2, 5, .null), [134]), (111, (1, 35, 1, .ref 1), [359, 55, 331, 329, 330]), (126, (1, 61, 1, .ref 2), [518, 56, 521, 519, 520])]
/-- 63: PatienceTable$Log.<init>()V -/
def zp_l63 : List (Option Jvm.ClassFile.Instr) := [some (.aload_n 0), some (.invokespecial 3), none, none, some (.aload_n 0), some (.bipush (60)), none, some (.newarray .int), none, some (.putfield 9), none, none, some (.aload_n 0), some (.bipush (60)), none, some (.newarray .int), none, some (.putfield 15), none, none, some (.aload_n 0), some (.bipush (60)), none, some (.newarray .int), none, some (.putfield 18), none, none, some (.aload_n 0), some (.bipush (60)), none, some (.newarray .int), none, some (.putfield 21), none, none, some (.aload_n 0), some (.iconst 0), some (.putfield 24), none, none, some (.aload_n 0), some (.iconst 0), some (.putfield 28), none, none, some (.return_)]
def zp_p63 : List (Nat × zi_T × List Nat) := [(3, (7, 0, 0, .null), [156, 75, 76]), (9, (8, 3, 0, .null), [157]), (15, (8, 3, 1, .null), [159]), (18, (8, 3, 2, .null), [161]), (21, (8, 3, 3, .null), [163]), (24, (0, 3, 4, .null), [165]), (28, (0, 3, 5, .null), [166])]
/-- 64: PatienceTable$Log.forgetAll()V -/
def zp_l64 : List (Option Jvm.ClassFile.Instr) := [some (.aload_n 0), some (.iconst 0), some (.putfield 24), none, none, some (.aload_n 0), some (.iconst 0), some (.putfield 28), none, none, some (.return_)]
def zp_p64 : List (Nat × zi_T × List Nat) := [(24, (0, 3, 4, .null), [165]), (28, (0, 3, 5, .null), [166])]
/-- 65: PatienceTable$Log.note(IIII)V -/
def zp_l65 : List (Option Jvm.ClassFile.Instr) := [some (.aload_n 0), some (.getfield 9), none, none, some (.aload_n 0), some (.getfield 24), none, none, some (.iload_n 1), some (.iastore), some (.aload_n 0), some (.getfield 15), none, none, some (.aload_n 0), some (.getfield 24), none, none, some (.iload_n 2), some (.iastore), some (.aload_n 0), some (.getfield 18), none, none, some (.aload_n 0), some (.getfield 24), none, none, some (.iload_n 3), some (.iastore), some (.aload_n 0), some (.getfield 21), none, none, some (.aload_n 0), some (.getfield 24), none, none, some (.iload 4), none, some (.iastore), some (.aload_n 0), some (.aload_n 0), some (.getfield 24), none, none, some (.iconst 1), some (.iadd), some (.bipush (60)), none, some (.if_icmp .ge (12)), none, none, some (.aload_n 0), some (.getfield 24), none, none, some (.iconst 1), some (.iadd), some (.goto (4)), none, none, some (.iconst 0), some (.putfield 24), none, none, some (.aload_n 0), some (.aload_n 0), some (.getfield 28), none, none, some (.iconst 1), some (.iadd), some (.bipush (60)), none, some (.invokestatic 31), none, none, some (.putfield 28), none, none, some (.return_)]
def zp_p65 : List (Nat × zi_T × List Nat) := [(9, (9, 3, 0, .null), [157]), (15, (9, 3, 1, .null), [159]), (18, (9, 3, 2, .null), [161]), (21, (9, 3, 3, .null), [163]), (24, (0, 3, 4, .null), [165]), (28, (0, 3, 5, .null), [166]), (31, (7, 1, 0, .null), [526, 527, 66, 528])]
/-- 66: PatienceTable$Log.takeLatest()I -/
def zp_l66 : List (Option Jvm.ClassFile.Instr) := [some (.aload_n 0), some (.aload_n 0), some (.getfield 24), none, none, some (.ifCond .le (12)), none, none, some (.aload_n 0), some (.getfield 24), none, none, some (.iconst 1), some (.isub), some (.goto (5)), none, none, some (.bipush (59)), none, some (.putfield 24), none, none, some (.aload_n 0), some (.dup), some (.getfield 28), none, none, some (.iconst 1), some (.isub), some (.putfield 28), none, none, some (.aload_n 0), some (.getfield 24), none, none, some (.ireturn)]
def zp_p66 : List (Nat × zi_T × List Nat) := [(24, (0, 3, 4, .null), [165]), (28, (0, 3, 5, .null), [166])]
/-- 67: PatienceTable$Search.<init>(LPatienceTable$Game;)V -/
def zp_l67 : List (Option Jvm.ClassFile.Instr) := [some (.aload_n 0), some (.invokespecial 3), none, none, some (.aload_n 0), some (.sipush (200)), none, none, some (.anewarray 9), none, none, some (.putfield 11), none, none, some (.aload_n 0), some (.sipush (200)), none, none, some (.newarray .int), none, some (.putfield 17), none, none, some (.aload_n 0), some (.sipush (200)), none, none, some (.newarray .int), none, some (.putfield 21), none, none, some (.aload_n 0), some (.sipush (512)), none, none, some (.newarray .int), none, some (.putfield 24), none, none, some (.aload_n 0), some (.iconst 0), some (.putfield 27), none, none, some (.aload_n 0), some (.iconst 0), some (.putfield 31), none, none, some (.aload_n 0), some (.iconst 0), some (.putfield 34), none, none, some (.aload_n 0), some (.iconst (-1)), some (.putfield 38), none, none, some (.aload_n 0), some (.iconst 0), some (.putfield 41), none, none, some (.aload_n 0), some (.aload_n 1), some (.putfield 44), none, none, some (.iconst 0), some (.istore_n 2), some (.iload_n 2), some (.sipush (200)), none, none, some (.if_icmp .ge (23)), none, none, some (.aload_n 0), some (.getfield 11), none, none, some (.iload_n 2), some (.new 9), none, none, some (.dup), some (.aload_n 1), some (.invokespecial 48), none, none, some (.aastore), some (.iinc 2 (1)), none, none, some (.goto (-24)), none, none, some (.return_)]
def zp_p67 : List (Nat × zi_T × List Nat) := [(3, (7, 0, 0, .null), [186, 75, 76]), (9, (4, 2, 6, .null), [187, 114, 56]), (11, (8, 4, 1, .null), [191]), (17, (8, 4, 2, .null), [192]), (21, (8, 4, 3, .null), [193]), (24, (8, 4, 4, .null), [194]), (27, (0, 4, 5, .null), [195]), (31, (0, 4, 6, .null), [196]), (34, (0, 4, 7, .null), [197]), (38, (0, 4, 8, .null), [198]), (41, (0, 4, 9, .null), [200]), (44, (8, 4, 0, .null), [190]), (48, (2, 39, 1, .null), [189, 56, 117, 116])]
/-- 68: PatienceTable$Search.seek(LPatienceTable$Layout;I)I -/
def zp_l68 : List (Option Jvm.ClassFile.Instr) := [some (.aload_n 0), some (.aload_n 1), some (.iload_n 2), some (.invokevirtual 51), none, none, some (.aload_n 1), some (.invokevirtual 55), none, none, some (.ifCond .eq (5)), none, none, some (.iconst 0), some (.ireturn), some (.iconst 0), some (.istore_n 3), some (.iconst 1), some (.istore 4), none, some (.iload 4), none, some (.sipush (200)), none, none, some (.if_icmp .gt (89)), none, none, some (.aload_n 0), some (.aload_n 0), some (.getfield 31), none, none, some (.putfield 41), none, none, some (.iload_n 3), some (.istore 5), none, some (.iload 5), none, some (.aload_n 0), some (.getfield 41), none, none, some (.if_icmp .ge (23)), none, none, some (.aload_n 0), some (.getfield 38), none, none, some (.iconst (-1)), some (.if_icmp .ne (15)), none, none, some (.aload_n 0), some (.iload 5), none, some (.invokevirtual 59), none, none, some (.iinc 5 (1)), none, none, some (.goto (-26)), none, none, some (.aload_n 0), some (.getfield 38), none, none, some (.iconst (-1)), some (.if_icmp .eq (6)), none, none, some (.iload 4), none, some (.ireturn), some (.aload_n 0), some (.getfield 34), none, none, some (.ifCond .eq (6)), none, none, some (.bipush (-2)), none, some (.ireturn), some (.aload_n 0), some (.getfield 31), none, none, some (.aload_n 0), some (.getfield 41), none, none, some (.if_icmp .ne (6)), none, none, some (.bipush (-3)), none, some (.ireturn), some (.aload_n 0), some (.getfield 41), none, none, some (.istore_n 3), some (.iinc 4 (1)), none, none, some (.goto (-91)), none, none, some (.bipush (-2)), none, some (.ireturn)]
def zp_p68 : List (Nat × zi_T × List Nat) := [(31, (0, 4, 6, .null), [196]), (34, (0, 4, 7, .null), [197]), (38, (0, 4, 8, .null), [198]), (41, (0, 4, 9, .null), [200]), (51, (1, 69, 2, .ref 4), [600, 59, 603, 602, 10]), (55, (1, 44, 0, .ref 2), [622, 56, 625, 623, 624]), (59, (1, 70, 1, .ref 4), [626, 59, 629, 628, 12])]
/-- 69: PatienceTable$Search.begin(LPatienceTable$Layout;I)V -/
def zp_l69 : List (Option Jvm.ClassFile.Instr) := [some (.aload_n 0), some (.iload_n 2), some (.putfield 27), none, none, some (.aload_n 0), some (.iconst 0), some (.putfield 34), none, none, some (.aload_n 0), some (.iconst (-1)), some (.putfield 38), none, none, some (.aload_n 0), some (.iconst 0), some (.putfield 41), none, none, some (.aload_n 0), some (.getfield 24), none, none, some (.iconst 0), some (.invokestatic 63), none, none, some (.aload_n 0), some (.getfield 11), none, none, some (.iconst 0), some (.aaload), some (.aload_n 1), some (.invokevirtual 69), none, none, some (.aload_n 0), some (.getfield 17), none, none, some (.iconst 0), some (.aload_n 0), some (.aload_n 1), some (.invokevirtual 73), none, none, some (.iastore), some (.aload_n 0), some (.getfield 24), none, none, some (.aload_n 0), some (.getfield 17), none, none, some (.iconst 0), some (.iaload), some (.sipush (511)), none, none, some (.iand), some (.iconst 1), some (.iastore), some (.aload_n 0), some (.iconst 1), some (.putfield 31), none, none, some (.return_)]
def zp_p69 : List (Nat × zi_T × List Nat) := [(11, (9, 4, 1, .null), [191]), (17, (9, 4, 2, .null), [192]), (24, (9, 4, 4, .null), [194]), (27, (0, 4, 5, .null), [195]), (31, (0, 4, 6, .null), [196]), (34, (0, 4, 7, .null), [197]), (38, (0, 4, 8, .null), [198]), (41, (0, 4, 9, .null), [200]), (63, (3, 134, 2, .null), [604, 57, 125, 124]), (69, (1, 41, 1, .ref 2), [605, 56, 608, 606, 607]), (73, (1, 74, 1, .ref 4), [612, 59, 615, 614, 11])]
/-- 70: PatienceTable$Search.expand(I)V -/
def zp_l70 : List (Option Jvm.ClassFile.Instr) := [some (.aload_n 0), some (.getfield 11), none, none, some (.iload_n 1), some (.aaload), some (.astore_n 2), some (.iconst 0), some (.istore_n 3), some (.iload_n 3), some (.bipush (12)), none, some (.if_icmp .ge (43)), none, none, some (.iconst 0), some (.istore 4), none, some (.iload 4), none, some (.bipush (12)), none, some (.if_icmp .gt (27)), none, none, some (.aload_n 2), some (.iload_n 3), some (.iload 4), none, some (.invokevirtual 77), none, none, some (.ifCond .eq (11)), none, none, some (.aload_n 0), some (.iload_n 1), some (.iload_n 3), some (.iload 4), none, some (.invokevirtual 81), none, none, some (.iinc 4 (1)), none, none, some (.goto (-28)), none, none, some (.iinc 3 (1)), none, none, some (.goto (-43)), none, none, some (.return_)]
def zp_p70 : List (Nat × zi_T × List Nat) := [(11, (9, 4, 1, .null), [191]), (77, (1, 50, 2, .ref 2), [630, 56, 343, 341, 342]), (81, (1, 71, 3, .ref 4), [631, 59, 634, 633, 13])]
/-- 71: PatienceTable$Search.reach(III)V -/
def zp_l71 : List (Option Jvm.ClassFile.Instr) := [some (.aload_n 0), some (.getfield 11), none, none, some (.iload_n 1), some (.aaload), some (.astore 4), none, some (.iload_n 1), some (.ifCond .ne (12)), none, none, some (.bipush (16)), none, some (.iload_n 2), some (.imul), some (.iload_n 3), some (.iadd), some (.goto (9)), none, none, some (.aload_n 0), some (.getfield 21), none, none, some (.iload_n 1), some (.iaload), some (.istore 5), none, some (.iload_n 3), some (.bipush (12)), none, some (.if_icmp .ne (27)), none, none, some (.aload 4), none, some (.getfield 85), none, none, some (.iconst 1), some (.iadd), some (.aload_n 0), some (.getfield 44), none, none, some (.invokevirtual 88), none, none, some (.if_icmp .ne (10)), none, none, some (.aload_n 0), some (.iload 5), none, some (.putfield 38), none, none, some (.return_), some (.aload_n 0), some (.getfield 34), none, none, some (.ifCond .eq (4)), none, none, some (.return_), some (.aload 4), none, some (.getfield 94), none, none, some (.iload_n 2), some (.iaload), some (.istore 6), none, some (.aload 4), none, some (.iload_n 3), some (.invokevirtual 97), none, none, some (.istore 7), none, some (.aload_n 0), some (.getfield 17), none, none, some (.iload_n 1), some (.iaload), some (.iload 6), none, some (.aload 4), none, some (.getfield 101), none, none, some (.iload 6), none, some (.iaload), some (.invokestatic 104), none, none, some (.isub), some (.iload 6), none, some (.iload 7), none, some (.invokestatic 104), none, none, some (.iadd), some (.istore 8), none, some (.aload_n 0), some (.iload 8), none, some (.aload 4), none, some (.iload 6), none, some (.iload 7), none, some (.invokevirtual 108), none, none, some (.istore 9), none, some (.aload_n 0), some (.getfield 24), none, none, some (.iload 9), none, some (.iaload), some (.ifCond .eq (4)), none, none, some (.return_), some (.aload_n 0), some (.getfield 31), none, none, some (.aload_n 0), some (.getfield 27), none, none, some (.if_icmp .lt (9)), none, none, some (.aload_n 0), some (.iconst 1), some (.putfield 34), none, none, some (.return_), some (.aload_n 0), some (.getfield 11), none, none, some (.aload_n 0), some (.getfield 31), none, none, some (.aaload), some (.aload 4), none, some (.invokevirtual 69), none, none, some (.aload_n 0), some (.getfield 11), none, none, some (.aload_n 0), some (.getfield 31), none, none, some (.aaload), some (.iload 6), none, some (.iload_n 2), some (.iload_n 3), some (.invokevirtual 112), none, none, some (.aload_n 0), some (.getfield 17), none, none, some (.aload_n 0), some (.getfield 31), none, none, some (.iload 8), none, some (.iastore), some (.aload_n 0), some (.getfield 21), none, none, some (.aload_n 0), some (.getfield 31), none, none, some (.iload 5), none, some (.iastore), some (.aload_n 0), some (.dup), some (.getfield 31), none, none, some (.iconst 1), some (.iadd), some (.putfield 31), none, none, some (.aload_n 0), some (.getfield 24), none, none, some (.iload 9), none, some (.aload_n 0), some (.getfield 31), none, none, some (.iastore), some (.return_)]
def zp_p71 : List (Nat × zi_T × List Nat) := [(11, (9, 4, 1, .null), [191]), (17, (9, 4, 2, .null), [192]), (21, (9, 4, 3, .null), [193]), (24, (9, 4, 4, .null), [194]), (27, (0, 4, 5, .null), [195]), (31, (0, 4, 6, .null), [196]), (34, (0, 4, 7, .null), [197]), (38, (0, 4, 8, .null), [198]), (44, (9, 4, 0, .null), [190]), (69, (1, 41, 1, .ref 2), [605, 56, 608, 606, 607]), (85, (0, 2, 5, .null), [135]), (88, (1, 32, 0, .ref 1), [616, 55, 311, 309, 310]), (94, (9, 2, 2, .null), [130]), (97, (1, 61, 1, .ref 2), [635, 56, 521, 519, 520]), (101, (9, 2, 1, .null), [128]), (104, (3, 75, 2, .null), [617, 59, 619, 618]), (108, (1, 72, 4, .ref 4), [636, 59, 639, 638, 14]), (112, (1, 62, 3, .ref 2), [644, 56, 517, 515, 516])]
/-- 72: PatienceTable$Search.slotFor(ILPatienceTable$Layout;II)I -/
def zp_l72 : List (Option Jvm.ClassFile.Instr) := [some (.iload_n 1), some (.sipush (511)), none, none, some (.iand), some (.istore 5), none, some (.iconst 0), some (.istore 6), none, some (.iload 6), none, some (.sipush (512)), none, none, some (.if_icmp .ge (72)), none, none, some (.aload_n 0), some (.getfield 24), none, none, some (.iload 5), none, some (.iaload), some (.ifCond .eq (62)), none, none, some (.aload_n 0), some (.getfield 24), none, none, some (.iload 5), none, some (.iaload), some (.iconst 1), some (.isub), some (.istore 7), none, some (.aload_n 0), some (.getfield 17), none, none, some (.iload 7), none, some (.iaload), some (.iload_n 1), some (.if_icmp .ne (24)), none, none, some (.aload_n 0), some (.aload_n 0), some (.getfield 11), none, none, some (.iload 7), none, some (.aaload), some (.aload_n 2), some (.iload_n 3), some (.iload 4), none, some (.invokevirtual 115), none, none, some (.ifCond .eq (6)), none, none, some (.iload 5), none, some (.ireturn), some (.iload 5), none, some (.iconst 1), some (.iadd), some (.sipush (511)), none, none, some (.iand), some (.istore 5), none, some (.iinc 6 (1)), none, none, some (.goto (-74)), none, none, some (.iload 5), none, some (.ireturn)]
def zp_p72 : List (Nat × zi_T × List Nat) := [(11, (9, 4, 1, .null), [191]), (17, (9, 4, 2, .null), [192]), (24, (9, 4, 4, .null), [194]), (115, (1, 73, 4, .ref 4), [640, 59, 643, 642, 15])]
/-- 73: PatienceTable$Search.isAlike(LPatienceTable$Layout;LPatienceTable$Layout;II)Z -/
def zp_l73 : List (Option Jvm.ClassFile.Instr) := [some (.aload_n 0), some (.getfield 44), none, none, some (.invokevirtual 88), none, none, some (.istore 5), none, some (.iconst 0), some (.istore 6), none, some (.iload 6), none, some (.iload 5), none, some (.if_icmp .ge (43)), none, none, some (.iload 6), none, some (.iload_n 3), some (.if_icmp .ne (8)), none, none, some (.iload 4), none, some (.goto (10)), none, none, some (.aload_n 2), some (.getfield 101), none, none, some (.iload 6), none, some (.iaload), some (.istore 7), none, some (.aload_n 1), some (.getfield 101), none, none, some (.iload 6), none, some (.iaload), some (.iload 7), none, some (.if_icmp .eq (5)), none, none, some (.iconst 0), some (.ireturn), some (.iinc 6 (1)), none, none, some (.goto (-44)), none, none, some (.iconst 1), some (.ireturn)]
def zp_p73 : List (Nat × zi_T × List Nat) := [(44, (9, 4, 0, .null), [190]), (88, (1, 32, 0, .ref 1), [616, 55, 311, 309, 310]), (101, (9, 2, 1, .null), [128])]
/-- 74: PatienceTable$Search.hashOf(LPatienceTable$Layout;)I -/
def zp_l74 : List (Option Jvm.ClassFile.Instr) := [some (.iconst 0), some (.istore_n 2), some (.aload_n 0), some (.getfield 44), none, none, some (.invokevirtual 88), none, none, some (.istore_n 3), some (.iconst 0), some (.istore 4), none, some (.iload 4), none, some (.iload_n 3), some (.if_icmp .ge (24)), none, none, some (.iload_n 2), some (.iload 4), none, some (.aload_n 1), some (.getfield 101), none, none, some (.iload 4), none, some (.iaload), some (.invokestatic 104), none, none, some (.iadd), some (.istore_n 2), some (.iinc 4 (1)), none, none, some (.goto (-24)), none, none, some (.iload_n 2), some (.ireturn)]
def zp_p74 : List (Nat × zi_T × List Nat) := [(44, (9, 4, 0, .null), [190]), (88, (1, 32, 0, .ref 1), [616, 55, 311, 309, 310]), (101, (9, 2, 1, .null), [128]), (104, (3, 75, 2, .null), [617, 59, 619, 618])]
/-- 75: PatienceTable$Search.share(II)I -/
def zp_l75 : List (Option Jvm.ClassFile.Instr) := [some (.bipush (64)), none, some (.iload_n 0), some (.imul), some (.iload_n 1), some (.iadd), some (.bipush (-4)), none, some (.isub), some (.ldc 119), none, some (.imul), some (.istore_n 2), some (.iload_n 2), some (.iload_n 2), some (.bipush (15)), none, some (.iushr), some (.ixor), some (.ldc 120), none, some (.imul), some (.istore_n 2), some (.iload_n 2), some (.iload_n 2), some (.bipush (13)), none, some (.iushr), some (.ixor), some (.ireturn)]
def zp_p75 : List (Nat × zi_T × List Nat) := [(119, (6, 0, 0, .int (-1640531535)), [620]), (120, (6, 0, 0, .int (-2048144777)), [621])]
/-- 76: PatienceTableModel.<init>()V -/
def zp_l76 : List (Option Jvm.ClassFile.Instr) := [some (.aload_n 0), some (.invokespecial 1), none, none, some (.aload_n 0), some (.bipush (8)), none, some (.putfield 7), none, none, some (.aload_n 0), some (.iconst 4), some (.putfield 13), none, none, some (.aload_n 0), some (.iconst 4), some (.putfield 16), none, none, some (.aload_n 0), some (.bipush (13)), none, some (.putfield 19), none, none, some (.aload_n 0), some (.sipush (416)), none, none, some (.newarray .int), none, some (.putfield 22), none, none, some (.aload_n 0), some (.bipush (8)), none, some (.newarray .int), none, some (.putfield 26), none, none, some (.aload_n 0), some (.iconst 4), some (.newarray .int), none, some (.putfield 29), none, none, some (.aload_n 0), some (.iconst 4), some (.newarray .int), none, some (.putfield 32), none, none, some (.aload_n 0), some (.bipush (52)), none, some (.newarray .boolean), none, some (.putfield 35), none, none, some (.aload_n 0), some (.bipush (52)), none, some (.newarray .int), none, some (.putfield 39), none, none, some (.aload_n 0), some (.sipush (240)), none, none, some (.newarray .int), none, some (.putfield 42), none, none, some (.aload_n 0), some (.iconst (-1)), some (.putfield 45), none, none, some (.aload_n 0), some (.sipush (10504)), none, none, some (.newarray .int), none, some (.putfield 48), none, none, some (.aload_n 0), some (.sipush (202)), none, none, some (.newarray .int), none, some (.putfield 51), none, none, some (.aload_n 0), some (.sipush (202)), none, none, some (.newarray .boolean), none, some (.putfield 54), none, none, some (.aload_n 0), some (.sipush (210)), none, none, some (.newarray .int), none, some (.putfield 57), none, none, some (.aload_n 0), some (.iconst 4), some (.newarray .int), none, some (.putfield 60), none, none, some (.aload_n 0), some (.bipush (52)), none, some (.newarray .boolean), none, some (.putfield 63), none, none, some (.aload_n 0), some (.invokevirtual 66), none, none, some (.return_)]
def zp_p76 : List (Nat × zi_T × List Nat) := [(1, (7, 0, 0, .null), [650, 75, 76]), (7, (0, 5, 1, .null), [656]), (13, (0, 5, 2, .null), [657]), (16, (0, 5, 5, .null), [660]), (19, (0, 5, 6, .null), [661]), (22, (8, 5, 7, .null), [662]), (26, (8, 5, 8, .null), [663]), (29, (8, 5, 9, .null), [664]), (32, (8, 5, 10, .null), [665]), (35, (8, 5, 11, .null), [666]), (39, (8, 5, 12, .null), [667]), (42, (8, 5, 14, .null), [669]), (45, (0, 5, 15, .null), [670]), (48, (8, 5, 17, .null), [672]), (51, (8, 5, 18, .null), [673]), (54, (8, 5, 19, .null), [674]), (57, (8, 5, 20, .null), [675]), (60, (8, 5, 25, .null), [680]), (63, (8, 5, 28, .null), [683]), (66, (1, 86, 0, .ref 5), [651, 60, 654, 653, 16])]
/-- 77: PatienceTableModel.thrown()I -/
def zp_l77 : List (Option Jvm.ClassFile.Instr) := [some (.aload_n 0), some (.getfield 69), none, none, some (.ireturn)]
def zp_p77 : List (Nat × zi_T × List Nat) := [(69, (0, 5, 0, .null), [655])]
/-- 78: PatienceTableModel.refuse(I)I -/
def zp_l78 : List (Option Jvm.ClassFile.Instr) := [some (.aload_n 0), some (.iload_n 1), some (.putfield 69), none, none, some (.iconst 0), some (.ireturn)]
def zp_p78 : List (Nat × zi_T × List Nat) := [(69, (0, 5, 0, .null), [655])]
/-- 79: PatienceTableModel.within(III)Z -/
def zp_l79 : List (Option Jvm.ClassFile.Instr) := [some (.iload_n 0), some (.iload_n 1), some (.if_icmp .lt (12)), none, none, some (.iload_n 0), some (.iload_n 2), some (.if_icmp .gt (7)), none, none, some (.iconst 1), some (.goto (4)), none, none, some (.iconst 0), some (.ireturn)]
def zp_p79 : List (Nat × zi_T × List Nat) := []
/-- 80: PatienceTableModel.all()I -/
def zp_l80 : List (Option Jvm.ClassFile.Instr) := [some (.aload_n 0), some (.getfield 16), none, none, some (.aload_n 0), some (.getfield 19), none, none, some (.imul), some (.ireturn)]
def zp_p80 : List (Nat × zi_T × List Nat) := [(16, (0, 5, 5, .null), [660]), (19, (0, 5, 6, .null), [661])]
/-- 81: PatienceTableModel.suit(I)I -/
def zp_l81 : List (Option Jvm.ClassFile.Instr) := [some (.iload_n 1), some (.aload_n 0), some (.getfield 16), none, none, some (.irem), some (.ireturn)]
def zp_p81 : List (Nat × zi_T × List Nat) := [(16, (0, 5, 5, .null), [660])]
/-- 82: PatienceTableModel.rank(I)I -/
def zp_l82 : List (Option Jvm.ClassFile.Instr) := [some (.iload_n 1), some (.aload_n 0), some (.getfield 16), none, none, some (.idiv), some (.iconst 1), some (.iadd), some (.ireturn)]
def zp_p82 : List (Nat × zi_T × List Nat) := [(16, (0, 5, 5, .null), [660])]
/-- 83: PatienceTableModel.isBlack(I)Z -/
def zp_l83 : List (Option Jvm.ClassFile.Instr) := [some (.iload_n 0), some (.ifCond .eq (8)), none, none, some (.iload_n 0), some (.iconst 3), some (.if_icmp .ne (7)), none, none, some (.iconst 1), some (.goto (4)), none, none, some (.iconst 0), some (.ireturn)]
def zp_p83 : List (Nat × zi_T × List Nat) := []
/-- 84: PatienceTableModel.fitsOn(II)Z -/
def zp_l84 : List (Option Jvm.ClassFile.Instr) := [some (.aload_n 0), some (.iload_n 1), some (.invokevirtual 72), none, none, some (.aload_n 0), some (.iload_n 2), some (.invokevirtual 72), none, none, some (.iconst 1), some (.isub), some (.if_icmp .eq (5)), none, none, some (.iconst 0), some (.ireturn), some (.aload_n 0), some (.getfield 76), none, none, some (.iconst 2), some (.if_icmp .eq (46)), none, none, some (.aload_n 0), some (.getfield 76), none, none, some (.iconst 1), some (.if_icmp .ne (19)), none, none, some (.aload_n 0), some (.iload_n 1), some (.invokevirtual 79), none, none, some (.aload_n 0), some (.iload_n 2), some (.invokevirtual 79), none, none, some (.if_icmp .ne (29)), none, none, some (.goto (22)), none, none, some (.aload_n 0), some (.iload_n 1), some (.invokevirtual 79), none, none, some (.invokestatic 82), none, none, some (.aload_n 0), some (.iload_n 2), some (.invokevirtual 79), none, none, some (.invokestatic 82), none, none, some (.if_icmp .eq (7)), none, none, some (.iconst 1), some (.goto (4)), none, none, some (.iconst 0), some (.ireturn)]
def zp_p84 : List (Nat × zi_T × List Nat) := [(72, (1, 82, 1, .ref 5), [823, 60, 826, 825, 28]), (76, (0, 5, 3, .null), [658]), (79, (1, 81, 1, .ref 5), [819, 60, 822, 821, 27]), (82, (3, 83, 1, .null), [839, 60, 841, 840])]
/-- 85: PatienceTableModel.fitsEmpty(I)Z -/
def zp_l85 : List (Option Jvm.ClassFile.Instr) := [some (.aload_n 0), some (.getfield 86), none, none, some (.ifCond .eq (23)), none, none, some (.aload_n 0), some (.getfield 86), none, none, some (.iconst 1), some (.if_icmp .ne (19)), none, none, some (.aload_n 0), some (.iload_n 1), some (.invokevirtual 72), none, none, some (.aload_n 0), some (.getfield 19), none, none, some (.if_icmp .ne (7)), none, none, some (.iconst 1), some (.goto (4)), none, none, some (.iconst 0), some (.ireturn)]
def zp_p85 : List (Nat × zi_T × List Nat) := [(19, (0, 5, 6, .null), [661]), (72, (1, 82, 1, .ref 5), [823, 60, 826, 825, 28]), (86, (0, 5, 4, .null), [659])]
/-- 86: PatienceTableModel.wipe()V -/
def zp_l86 : List (Option Jvm.ClassFile.Instr) := [some (.iconst 0), some (.istore_n 1), some (.iload_n 1), some (.bipush (8)), none, some (.if_icmp .ge (16)), none, none, some (.aload_n 0), some (.getfield 26), none, none, some (.iload_n 1), some (.iconst 0), some (.iastore), some (.iinc 1 (1)), none, none, some (.goto (-16)), none, none, some (.iconst 0), some (.istore_n 1), some (.iload_n 1), some (.iconst 4), some (.if_icmp .ge (23)), none, none, some (.aload_n 0), some (.getfield 29), none, none, some (.iload_n 1), some (.iconst (-1)), some (.iastore), some (.aload_n 0), some (.getfield 32), none, none, some (.iload_n 1), some (.iconst 0), some (.iastore), some (.iinc 1 (1)), none, none, some (.goto (-22)), none, none, some (.iconst 0), some (.istore_n 1), some (.iload_n 1), some (.bipush (52)), none, some (.if_icmp .ge (16)), none, none, some (.aload_n 0), some (.getfield 35), none, none, some (.iload_n 1), some (.iconst 0), some (.bastore), some (.iinc 1 (1)), none, none, some (.goto (-16)), none, none, some (.aload_n 0), some (.iconst 0), some (.putfield 89), none, none, some (.aload_n 0), some (.iconst (-1)), some (.putfield 45), none, none, some (.return_)]
def zp_p86 : List (Nat × zi_T × List Nat) := [(26, (9, 5, 8, .null), [663]), (29, (9, 5, 9, .null), [664]), (32, (9, 5, 10, .null), [665]), (35, (9, 5, 11, .null), [666]), (45, (0, 5, 15, .null), [670]), (89, (0, 5, 13, .null), [668])]
/-- 87: PatienceTableModel.rules(IIII)Z -/
def zp_l87 : List (Option Jvm.ClassFile.Instr) := [some (.aload_n 0), some (.iconst 0), some (.putfield 69), none, none, some (.iload_n 1), some (.iconst 2), some (.bipush (8)), none, some (.invokestatic 92), none, none, some (.ifCond .eq (31)), none, none, some (.iload_n 2), some (.iconst 0), some (.iconst 4), some (.invokestatic 92), none, none, some (.ifCond .eq (22)), none, none, some (.iload_n 3), some (.iconst 0), some (.iconst 2), some (.invokestatic 92), none, none, some (.ifCond .eq (13)), none, none, some (.iload 4), none, some (.iconst 0), some (.iconst 2), some (.invokestatic 92), none, none, some (.ifCond .ne (5)), none, none, some (.iconst 0), some (.ireturn), some (.aload_n 0), some (.iload_n 1), some (.putfield 7), none, none, some (.aload_n 0), some (.iload_n 2), some (.putfield 13), none, none, some (.aload_n 0), some (.iload_n 3), some (.putfield 76), none, none, some (.aload_n 0), some (.iload 4), none, some (.putfield 86), none, none, some (.aload_n 0), some (.invokevirtual 66), none, none, some (.iconst 1), some (.ireturn)]
def zp_p87 : List (Nat × zi_T × List Nat) := [(7, (0, 5, 1, .null), [656]), (13, (0, 5, 2, .null), [657]), (66, (1, 86, 0, .ref 5), [651, 60, 654, 653, 16]), (69, (0, 5, 0, .null), [655]), (76, (0, 5, 3, .null), [658]), (86, (0, 5, 4, .null), [659]), (92, (3, 79, 3, .null), [752, 60, 754, 753])]
/-- 88: PatienceTableModel.cards(II)Z -/
def zp_l88 : List (Option Jvm.ClassFile.Instr) := [some (.aload_n 0), some (.iconst 0), some (.putfield 69), none, none, some (.iload_n 1), some (.iconst 1), some (.iconst 4), some (.invokestatic 92), none, none, some (.ifCond .eq (13)), none, none, some (.iload_n 2), some (.iconst 1), some (.bipush (13)), none, some (.invokestatic 92), none, none, some (.ifCond .ne (5)), none, none, some (.iconst 0), some (.ireturn), some (.aload_n 0), some (.iload_n 1), some (.putfield 16), none, none, some (.aload_n 0), some (.iload_n 2), some (.putfield 19), none, none, some (.aload_n 0), some (.invokevirtual 66), none, none, some (.iconst 1), some (.ireturn)]
def zp_p88 : List (Nat × zi_T × List Nat) := [(16, (0, 5, 5, .null), [660]), (19, (0, 5, 6, .null), [661]), (66, (1, 86, 0, .ref 5), [651, 60, 654, 653, 16]), (69, (0, 5, 0, .null), [655]), (92, (3, 79, 3, .null), [752, 60, 754, 753])]
/-- 89: PatienceTableModel.clear()V -/
def zp_l89 : List (Option Jvm.ClassFile.Instr) := [some (.aload_n 0), some (.iconst 0), some (.putfield 69), none, none, some (.aload_n 0), some (.invokevirtual 66), none, none, some (.return_)]
def zp_p89 : List (Nat × zi_T × List Nat) := [(66, (1, 86, 0, .ref 5), [651, 60, 654, 653, 16]), (69, (0, 5, 0, .null), [655])]
/-- 90: PatienceTableModel.push(II)V -/
def zp_l90 : List (Option Jvm.ClassFile.Instr) := [some (.aload_n 0), some (.getfield 22), none, none, some (.bipush (52)), none, some (.iload_n 1), some (.imul), some (.aload_n 0), some (.getfield 26), none, none, some (.iload_n 1), some (.iaload), some (.iadd), some (.iload_n 2), some (.iastore), some (.aload_n 0), some (.getfield 26), none, none, some (.iload_n 1), some (.dup2), some (.iaload), some (.iconst 1), some (.iadd), some (.iastore), some (.return_)]
def zp_p90 : List (Nat × zi_T × List Nat) := [(22, (9, 5, 7, .null), [662]), (26, (9, 5, 8, .null), [663])]
/-- 91: PatienceTableModel.deal(I)V -/
def zp_l91 : List (Option Jvm.ClassFile.Instr) := [some (.aload_n 0), some (.iconst 0), some (.putfield 69), none, none, some (.iload_n 1), some (.iconst 0), some (.sipush (32000)), none, none, some (.invokestatic 92), none, none, some (.ifCond .ne (9)), none, none, some (.aload_n 0), some (.iconst 1), some (.putfield 69), none, none, some (.return_), some (.aload_n 0), some (.invokevirtual 66), none, none, some (.aload_n 0), some (.invokevirtual 96), none, none, some (.istore_n 2), some (.iconst 0), some (.istore_n 3), some (.iload_n 3), some (.iload_n 2), some (.if_icmp .ge (16)), none, none, some (.aload_n 0), some (.getfield 39), none, none, some (.iload_n 3), some (.iload_n 3), some (.iastore), some (.iinc 3 (1)), none, none, some (.goto (-15)), none, none, some (.iload_n 1), some (.i2l), some (.lstore_n 3), some (.iconst 0), some (.istore 5), none, some (.iload_n 2), some (.ifCond .le (81)), none, none, some (.ldc2_w 100), none, none, some (.lload_n 3), some (.lmul), some (.ldc2_w 102), none, none, some (.ladd), some (.ldc2_w 104), none, none, some (.lrem), some (.lstore_n 3), some (.lload_n 3), some (.ldc2_w 106), none, none, some (.ldiv), some (.iload_n 2), some (.i2l), some (.lrem), some (.l2i), some (.istore 6), none, some (.aload_n 0), some (.iload 5), none, some (.aload_n 0), some (.getfield 7), none, none, some (.irem), some (.aload_n 0), some (.getfield 39), none, none, some (.iload 6), none, some (.iaload), some (.invokevirtual 108), none, none, some (.aload_n 0), some (.getfield 35), none, none, some (.aload_n 0), some (.getfield 39), none, none, some (.iload 6), none, some (.iaload), some (.iconst 1), some (.bastore), some (.iinc 2 (-1)), none, none, some (.aload_n 0), some (.getfield 39), none, none, some (.iload 6), none, some (.aload_n 0), some (.getfield 39), none, none, some (.iload_n 2), some (.iaload), some (.iastore), some (.iinc 5 (1)), none, none, some (.goto (-79)), none, none, some (.return_)]
def zp_p91 : List (Nat × zi_T × List Nat) := [(7, (0, 5, 1, .null), [656]), (35, (9, 5, 11, .null), [666]), (39, (9, 5, 12, .null), [667]), (66, (1, 86, 0, .ref 5), [651, 60, 654, 653, 16]), (69, (0, 5, 0, .null), [655]), (92, (3, 79, 3, .null), [752, 60, 754, 753]), (96, (1, 80, 0, .ref 5), [767, 60, 770, 769, 17]), (100, (6, 0, 0, .long (214013)), [771]), (102, (6, 0, 0, .long (2531011)), [772]), (104, (6, 0, 0, .long (2147483648)), [773]), (106, (6, 0, 0, .long (65536)), [774]), (108, (1, 90, 2, .ref 5), [775, 60, 778, 777, 18])]
/-- 92: PatienceTableModel.laid()I -/
def zp_l92 : List (Option Jvm.ClassFile.Instr) := [some (.iconst 0), some (.istore_n 1), some (.iconst 0), some (.istore_n 2), some (.iload_n 2), some (.bipush (52)), none, some (.if_icmp .ge (26)), none, none, some (.aload_n 0), some (.getfield 35), none, none, some (.iload_n 2), some (.baload), some (.ifCond .eq (9)), none, none, some (.iload_n 1), some (.iconst 1), some (.iadd), some (.goto (4)), none, none, some (.iload_n 1), some (.istore_n 1), some (.iinc 2 (1)), none, none, some (.goto (-26)), none, none, some (.iload_n 1), some (.ireturn)]
def zp_p92 : List (Nat × zi_T × List Nat) := [(35, (9, 5, 11, .null), [666])]
/-- 93: PatienceTableModel.lay(II)I -/
def zp_l93 : List (Option Jvm.ClassFile.Instr) := [some (.aload_n 0), some (.iconst 0), some (.putfield 69), none, none, some (.iload_n 1), some (.iconst 0), some (.aload_n 0), some (.getfield 7), none, none, some (.iconst 1), some (.isub), some (.invokestatic 92), none, none, some (.ifCond .eq (17)), none, none, some (.iload_n 2), some (.iconst 0), some (.aload_n 0), some (.invokevirtual 96), none, none, some (.iconst 1), some (.isub), some (.invokestatic 92), none, none, some (.ifCond .ne (9)), none, none, some (.aload_n 0), some (.iconst 1), some (.invokevirtual 112), none, none, some (.ireturn), some (.aload_n 0), some (.getfield 35), none, none, some (.iload_n 2), some (.baload), some (.ifCond .eq (9)), none, none, some (.aload_n 0), some (.iconst 2), some (.invokevirtual 112), none, none, some (.ireturn), some (.aload_n 0), some (.iload_n 1), some (.iload_n 2), some (.invokevirtual 108), none, none, some (.aload_n 0), some (.getfield 35), none, none, some (.iload_n 2), some (.iconst 1), some (.bastore), some (.aload_n 0), some (.iconst (-1)), some (.putfield 45), none, none, some (.aload_n 0), some (.invokevirtual 115), none, none, some (.ireturn)]
def zp_p93 : List (Nat × zi_T × List Nat) := [(7, (0, 5, 1, .null), [656]), (35, (9, 5, 11, .null), [666]), (45, (0, 5, 15, .null), [670]), (69, (0, 5, 0, .null), [655]), (92, (3, 79, 3, .null), [752, 60, 754, 753]), (96, (1, 80, 0, .ref 5), [767, 60, 770, 769, 17]), (108, (1, 90, 2, .ref 5), [775, 60, 778, 777, 18]), (112, (1, 78, 1, .ref 5), [783, 60, 786, 785, 19]), (115, (1, 92, 0, .ref 5), [787, 60, 790, 789, 20])]
/-- 94: PatienceTableModel.isColumn(I)Z -/
def zp_l94 : List (Option Jvm.ClassFile.Instr) := [some (.iload_n 1), some (.iconst 0), some (.aload_n 0), some (.getfield 7), none, none, some (.iconst 1), some (.isub), some (.invokestatic 92), none, none, some (.ireturn)]
def zp_p94 : List (Nat × zi_T × List Nat) := [(7, (0, 5, 1, .null), [656]), (92, (3, 79, 3, .null), [752, 60, 754, 753])]
/-- 95: PatienceTableModel.isCell(I)Z -/
def zp_l95 : List (Option Jvm.ClassFile.Instr) := [some (.iload_n 1), some (.bipush (8)), none, some (.bipush (7)), none, some (.aload_n 0), some (.getfield 13), none, none, some (.iadd), some (.invokestatic 92), none, none, some (.ireturn)]
def zp_p95 : List (Nat × zi_T × List Nat) := [(13, (0, 5, 2, .null), [657]), (92, (3, 79, 3, .null), [752, 60, 754, 753])]
/-- 96: PatienceTableModel.atHome()I -/
def zp_l96 : List (Option Jvm.ClassFile.Instr) := [some (.aload_n 0), some (.getfield 32), none, none, some (.iconst 0), some (.iaload), some (.aload_n 0), some (.getfield 32), none, none, some (.iconst 1), some (.iaload), some (.iadd), some (.aload_n 0), some (.getfield 32), none, none, some (.iconst 2), some (.iaload), some (.iadd), some (.aload_n 0), some (.getfield 32), none, none, some (.iconst 3), some (.iaload), some (.iadd), some (.ireturn)]
def zp_p96 : List (Nat × zi_T × List Nat) := [(32, (9, 5, 10, .null), [665])]
/-- 97: PatienceTableModel.fromTop(II)I -/
def zp_l97 : List (Option Jvm.ClassFile.Instr) := [some (.iload_n 2), some (.aload_n 0), some (.getfield 26), none, none, some (.iload_n 1), some (.iaload), some (.if_icmp .ge (26)), none, none, some (.aload_n 0), some (.getfield 22), none, none, some (.bipush (52)), none, some (.iload_n 1), some (.imul), some (.aload_n 0), some (.getfield 26), none, none, some (.iload_n 1), some (.iaload), some (.iadd), some (.iconst 1), some (.isub), some (.iload_n 2), some (.isub), some (.iaload), some (.goto (4)), none, none, some (.iconst (-1)), some (.ireturn)]
def zp_p97 : List (Nat × zi_T × List Nat) := [(22, (9, 5, 7, .null), [662]), (26, (9, 5, 8, .null), [663])]
/-- 98: PatienceTableModel.topOf(I)I -/
def zp_l98 : List (Option Jvm.ClassFile.Instr) := [some (.aload_n 0), some (.iload_n 1), some (.invokevirtual 118), none, none, some (.ifCond .eq (15)), none, none, some (.aload_n 0), some (.getfield 29), none, none, some (.iload_n 1), some (.bipush (8)), none, some (.isub), some (.iaload), some (.goto (9)), none, none, some (.aload_n 0), some (.iload_n 1), some (.iconst 0), some (.invokevirtual 121), none, none, some (.ireturn)]
def zp_p98 : List (Nat × zi_T × List Nat) := [(29, (9, 5, 9, .null), [664]), (118, (1, 95, 1, .ref 5), [799, 60, 802, 801, 22]), (121, (1, 97, 2, .ref 5), [815, 60, 818, 817, 26])]
/-- 99: PatienceTableModel.fitsAt(II)Z -/
def zp_l99 : List (Option Jvm.ClassFile.Instr) := [some (.aload_n 0), some (.getfield 26), none, none, some (.iload_n 2), some (.iaload), some (.ifCond .ne (11)), none, none, some (.aload_n 0), some (.iload_n 1), some (.invokevirtual 125), none, none, some (.goto (14)), none, none, some (.aload_n 0), some (.iload_n 1), some (.aload_n 0), some (.iload_n 2), some (.iconst 0), some (.invokevirtual 121), none, none, some (.invokevirtual 128), none, none, some (.ireturn)]
def zp_p99 : List (Nat × zi_T × List Nat) := [(26, (9, 5, 8, .null), [663]), (121, (1, 97, 2, .ref 5), [815, 60, 818, 817, 26]), (125, (1, 85, 1, .ref 5), [831, 60, 834, 833, 30]), (128, (1, 84, 2, .ref 5), [835, 60, 838, 837, 31])]
/-- 100: PatienceTableModel.mayOne(II)Z -/
def zp_l100 : List (Option Jvm.ClassFile.Instr) := [some (.aload_n 0), some (.iload_n 1), some (.invokevirtual 132), none, none, some (.istore_n 3), some (.iload_n 3), some (.ifCond .lt (8)), none, none, some (.iload_n 1), some (.iload_n 2), some (.if_icmp .ne (5)), none, none, some (.iconst 0), some (.ireturn), some (.iload_n 2), some (.bipush (12)), none, some (.if_icmp .ne (29)), none, none, some (.aload_n 0), some (.getfield 32), none, none, some (.aload_n 0), some (.iload_n 3), some (.invokevirtual 79), none, none, some (.iaload), some (.iconst 1), some (.iadd), some (.aload_n 0), some (.iload_n 3), some (.invokevirtual 72), none, none, some (.if_icmp .ne (7)), none, none, some (.iconst 1), some (.goto (4)), none, none, some (.iconst 0), some (.ireturn), some (.aload_n 0), some (.iload_n 2), some (.invokevirtual 118), none, none, some (.ifCond .eq (29)), none, none, some (.aload_n 0), some (.iload_n 1), some (.invokevirtual 135), none, none, some (.ifCond .eq (19)), none, none, some (.aload_n 0), some (.getfield 29), none, none, some (.iload_n 2), some (.bipush (8)), none, some (.isub), some (.iaload), some (.ifCond .ge (7)), none, none, some (.iconst 1), some (.goto (4)), none, none, some (.iconst 0), some (.ireturn), some (.aload_n 0), some (.iload_n 3), some (.iload_n 2), some (.invokevirtual 138), none, none, some (.ireturn)]
def zp_p100 : List (Nat × zi_T × List Nat) := [(29, (9, 5, 9, .null), [664]), (32, (9, 5, 10, .null), [665]), (72, (1, 82, 1, .ref 5), [823, 60, 826, 825, 28]), (79, (1, 81, 1, .ref 5), [819, 60, 822, 821, 27]), (118, (1, 95, 1, .ref 5), [799, 60, 802, 801, 22]), (132, (1, 98, 1, .ref 5), [811, 60, 814, 813, 25]), (135, (1, 94, 1, .ref 5), [795, 60, 798, 797, 21]), (138, (1, 99, 2, .ref 5), [827, 60, 830, 829, 29])]
/-- 101: PatienceTableModel.limit(I)I -/
def zp_l101 : List (Option Jvm.ClassFile.Instr) := [some (.iconst 1), some (.istore_n 2), some (.iconst 0), some (.istore_n 3), some (.iload_n 3), some (.aload_n 0), some (.getfield 13), none, none, some (.if_icmp .ge (26)), none, none, some (.aload_n 0), some (.getfield 29), none, none, some (.iload_n 3), some (.iaload), some (.ifCond .ge (9)), none, none, some (.iload_n 2), some (.iconst 1), some (.iadd), some (.goto (4)), none, none, some (.iload_n 2), some (.istore_n 2), some (.iinc 3 (1)), none, none, some (.goto (-28)), none, none, some (.iconst 0), some (.istore_n 3), some (.iload_n 3), some (.aload_n 0), some (.getfield 7), none, none, some (.if_icmp .ge (38)), none, none, some (.aload_n 0), some (.getfield 86), none, none, some (.ifCond .ne (23)), none, none, some (.iload_n 3), some (.iload_n 1), some (.if_icmp .eq (18)), none, none, some (.aload_n 0), some (.getfield 26), none, none, some (.iload_n 3), some (.iaload), some (.ifCond .ne (9)), none, none, some (.iconst 2), some (.iload_n 2), some (.imul), some (.goto (4)), none, none, some (.iload_n 2), some (.istore_n 2), some (.iinc 3 (1)), none, none, some (.goto (-40)), none, none, some (.iload_n 2), some (.ireturn)]
def zp_p101 : List (Nat × zi_T × List Nat) := [(7, (0, 5, 1, .null), [656]), (13, (0, 5, 2, .null), [657]), (26, (9, 5, 8, .null), [663]), (29, (9, 5, 9, .null), [664]), (86, (0, 5, 4, .null), [659])]
/-- 102: PatienceTableModel.may(III)Z -/
def zp_l102 : List (Option Jvm.ClassFile.Instr) := [some (.iload_n 3), some (.iconst 1), some (.if_icmp .ne (10)), none, none, some (.aload_n 0), some (.iload_n 1), some (.iload_n 2), some (.invokevirtual 141), none, none, some (.ireturn), some (.aload_n 0), some (.iload_n 1), some (.invokevirtual 135), none, none, some (.ifCond .eq (35)), none, none, some (.aload_n 0), some (.iload_n 2), some (.invokevirtual 135), none, none, some (.ifCond .eq (27)), none, none, some (.iload_n 1), some (.iload_n 2), some (.if_icmp .eq (22)), none, none, some (.iload_n 3), some (.aload_n 0), some (.getfield 26), none, none, some (.iload_n 1), some (.iaload), some (.if_icmp .gt (12)), none, none, some (.iload_n 3), some (.aload_n 0), some (.iload_n 2), some (.invokevirtual 144), none, none, some (.if_icmp .le (5)), none, none, some (.iconst 0), some (.ireturn), some (.iconst 0), some (.istore 4), none, some (.iload 4), none, some (.iconst 1), some (.iadd), some (.iload_n 3), some (.if_icmp .ge (34)), none, none, some (.aload_n 0), some (.aload_n 0), some (.iload_n 1), some (.iload 4), none, some (.invokevirtual 121), none, none, some (.aload_n 0), some (.iload_n 1), some (.iload 4), none, some (.iconst 1), some (.iadd), some (.invokevirtual 121), none, none, some (.invokevirtual 128), none, none, some (.ifCond .ne (5)), none, none, some (.iconst 0), some (.ireturn), some (.iinc 4 (1)), none, none, some (.goto (-36)), none, none, some (.aload_n 0), some (.aload_n 0), some (.iload_n 1), some (.iload_n 3), some (.iconst 1), some (.isub), some (.invokevirtual 121), none, none, some (.iload_n 2), some (.invokevirtual 138), none, none, some (.ireturn)]
def zp_p102 : List (Nat × zi_T × List Nat) := [(26, (9, 5, 8, .null), [663]), (121, (1, 97, 2, .ref 5), [815, 60, 818, 817, 26]), (128, (1, 84, 2, .ref 5), [835, 60, 838, 837, 31]), (135, (1, 94, 1, .ref 5), [795, 60, 798, 797, 21]), (138, (1, 99, 2, .ref 5), [827, 60, 830, 829, 29]), (141, (1, 100, 2, .ref 5), [807, 60, 810, 809, 24]), (144, (1, 101, 1, .ref 5), [842, 60, 845, 844, 32])]
/-- 103: PatienceTableModel.take(II)I -/
def zp_l103 : List (Option Jvm.ClassFile.Instr) := [some (.iload_n 1), some (.bipush (12)), none, some (.if_icmp .ne (20)), none, none, some (.aload_n 0), some (.getfield 32), none, none, some (.aload_n 0), some (.iload_n 2), some (.invokevirtual 79), none, none, some (.dup2), some (.iaload), some (.iconst 1), some (.isub), some (.iastore), some (.goto (34)), none, none, some (.aload_n 0), some (.iload_n 1), some (.invokevirtual 118), none, none, some (.ifCond .eq (16)), none, none, some (.aload_n 0), some (.getfield 29), none, none, some (.iload_n 1), some (.bipush (8)), none, some (.isub), some (.iconst (-1)), some (.iastore), some (.goto (13)), none, none, some (.aload_n 0), some (.getfield 26), none, none, some (.iload_n 1), some (.dup2), some (.iaload), some (.iconst 1), some (.isub), some (.iastore), some (.iload_n 2), some (.ireturn)]
def zp_p103 : List (Nat × zi_T × List Nat) := [(26, (9, 5, 8, .null), [663]), (29, (9, 5, 9, .null), [664]), (32, (9, 5, 10, .null), [665]), (79, (1, 81, 1, .ref 5), [819, 60, 822, 821, 27]), (118, (1, 95, 1, .ref 5), [799, 60, 802, 801, 22])]
/-- 104: PatienceTableModel.give(II)V -/
def zp_l104 : List (Option Jvm.ClassFile.Instr) := [some (.iload_n 1), some (.bipush (12)), none, some (.if_icmp .ne (20)), none, none, some (.aload_n 0), some (.getfield 32), none, none, some (.aload_n 0), some (.iload_n 2), some (.invokevirtual 79), none, none, some (.dup2), some (.iaload), some (.iconst 1), some (.iadd), some (.iastore), some (.goto (30)), none, none, some (.aload_n 0), some (.iload_n 1), some (.invokevirtual 118), none, none, some (.ifCond .eq (16)), none, none, some (.aload_n 0), some (.getfield 29), none, none, some (.iload_n 1), some (.bipush (8)), none, some (.isub), some (.iload_n 2), some (.iastore), some (.goto (9)), none, none, some (.aload_n 0), some (.iload_n 1), some (.iload_n 2), some (.invokevirtual 108), none, none, some (.return_)]
def zp_p104 : List (Nat × zi_T × List Nat) := [(29, (9, 5, 9, .null), [664]), (32, (9, 5, 10, .null), [665]), (79, (1, 81, 1, .ref 5), [819, 60, 822, 821, 27]), (108, (1, 90, 2, .ref 5), [775, 60, 778, 777, 18]), (118, (1, 95, 1, .ref 5), [799, 60, 802, 801, 22])]
/-- 105: PatienceTableModel.bring(IIII)V -/
def zp_l105 : List (Option Jvm.ClassFile.Instr) := [some (.iload_n 3), some (.iconst 1), some (.if_icmp .ne (16)), none, none, some (.aload_n 0), some (.iload_n 2), some (.aload_n 0), some (.iload_n 1), some (.iload 4), none, some (.invokevirtual 147), none, none, some (.invokevirtual 150), none, none, some (.return_), some (.iload_n 3), some (.iconst 1), some (.isub), some (.istore 5), none, some (.iload 5), none, some (.ifCond .lt (21)), none, none, some (.aload_n 0), some (.iload_n 2), some (.aload_n 0), some (.iload_n 1), some (.iload 5), none, some (.invokevirtual 121), none, none, some (.invokevirtual 108), none, none, some (.iinc 5 (-1)), none, none, some (.goto (-20)), none, none, some (.aload_n 0), some (.getfield 26), none, none, some (.iload_n 1), some (.aload_n 0), some (.getfield 26), none, none, some (.iload_n 1), some (.iaload), some (.iload_n 3), some (.isub), some (.iastore), some (.return_)]
def zp_p105 : List (Nat × zi_T × List Nat) := [(26, (9, 5, 8, .null), [663]), (108, (1, 90, 2, .ref 5), [775, 60, 778, 777, 18]), (121, (1, 97, 2, .ref 5), [815, 60, 818, 817, 26]), (147, (1, 103, 2, .ref 5), [854, 60, 857, 856, 35]), (150, (1, 104, 2, .ref 5), [858, 60, 861, 860, 36])]
/-- 106: PatienceTableModel.make(III)V -/
def zp_l106 : List (Option Jvm.ClassFile.Instr) := [some (.aload_n 0), some (.getfield 89), none, none, some (.bipush (60)), none, some (.if_icmp .ne (46)), none, none, some (.iconst 0), some (.istore 4), none, some (.iload 4), none, some (.sipush (236)), none, none, some (.if_icmp .ge (25)), none, none, some (.aload_n 0), some (.getfield 42), none, none, some (.iload 4), none, some (.aload_n 0), some (.getfield 42), none, none, some (.iload 4), none, some (.iconst 4), some (.iadd), some (.iaload), some (.iastore), some (.iinc 4 (1)), none, none, some (.goto (-27)), none, none, some (.aload_n 0), some (.dup), some (.getfield 89), none, none, some (.iconst 1), some (.isub), some (.putfield 89), none, none, some (.aload_n 0), some (.iload_n 1), some (.invokevirtual 132), none, none, some (.istore 4), none, some (.aload_n 0), some (.getfield 42), none, none, some (.iconst 4), some (.aload_n 0), some (.getfield 89), none, none, some (.imul), some (.iload_n 1), some (.iastore), some (.aload_n 0), some (.getfield 42), none, none, some (.iconst 4), some (.aload_n 0), some (.getfield 89), none, none, some (.imul), some (.iconst 1), some (.iadd), some (.iload_n 2), some (.iastore), some (.aload_n 0), some (.getfield 42), none, none, some (.iconst 4), some (.aload_n 0), some (.getfield 89), none, none, some (.imul), some (.iconst 2), some (.iadd), some (.iload_n 3), some (.iastore), some (.aload_n 0), some (.getfield 42), none, none, some (.iconst 4), some (.aload_n 0), some (.getfield 89), none, none, some (.imul), some (.iconst 3), some (.iadd), some (.iload 4), none, some (.iastore), some (.aload_n 0), some (.dup), some (.getfield 89), none, none, some (.iconst 1), some (.iadd), some (.putfield 89), none, none, some (.aload_n 0), some (.iconst (-1)), some (.putfield 45), none, none, some (.aload_n 0), some (.iload_n 1), some (.iload_n 2), some (.iload_n 3), some (.iload 4), none, some (.invokevirtual 153), none, none, some (.return_)]
def zp_p106 : List (Nat × zi_T × List Nat) := [(42, (9, 5, 14, .null), [669]), (45, (0, 5, 15, .null), [670]), (89, (0, 5, 13, .null), [668]), (132, (1, 98, 1, .ref 5), [811, 60, 814, 813, 25]), (153, (1, 105, 4, .ref 5), [850, 60, 853, 852, 34])]
/-- 107: PatienceTableModel.move(III)I -/
def zp_l107 : List (Option Jvm.ClassFile.Instr) := [some (.aload_n 0), some (.iconst 0), some (.putfield 69), none, none, some (.aload_n 0), some (.iload_n 1), some (.invokevirtual 135), none, none, some (.ifCond .ne (11)), none, none, some (.aload_n 0), some (.iload_n 1), some (.invokevirtual 118), none, none, some (.ifCond .eq (30)), none, none, some (.aload_n 0), some (.iload_n 2), some (.invokevirtual 135), none, none, some (.ifCond .ne (17)), none, none, some (.aload_n 0), some (.iload_n 2), some (.invokevirtual 118), none, none, some (.ifCond .ne (9)), none, none, some (.iload_n 2), some (.bipush (12)), none, some (.if_icmp .ne (8)), none, none, some (.iload_n 3), some (.iconst 1), some (.if_icmp .ge (9)), none, none, some (.aload_n 0), some (.iconst 1), some (.invokevirtual 112), none, none, some (.ireturn), some (.aload_n 0), some (.invokevirtual 115), none, none, some (.aload_n 0), some (.invokevirtual 96), none, none, some (.if_icmp .lt (13)), none, none, some (.aload_n 0), some (.iload_n 1), some (.iload_n 2), some (.iload_n 3), some (.invokevirtual 157), none, none, some (.ifCond .ne (9)), none, none, some (.aload_n 0), some (.iconst 2), some (.invokevirtual 112), none, none, some (.ireturn), some (.aload_n 0), some (.iload_n 1), some (.iload_n 2), some (.iload_n 3), some (.invokevirtual 160), none, none, some (.aload_n 0), some (.invokevirtual 164), none, none, some (.ireturn)]
def zp_p107 : List (Nat × zi_T × List Nat) := [(69, (0, 5, 0, .null), [655]), (96, (1, 80, 0, .ref 5), [767, 60, 770, 769, 17]), (112, (1, 78, 1, .ref 5), [783, 60, 786, 785, 19]), (115, (1, 92, 0, .ref 5), [787, 60, 790, 789, 20]), (118, (1, 95, 1, .ref 5), [799, 60, 802, 801, 22]), (135, (1, 94, 1, .ref 5), [795, 60, 798, 797, 21]), (157, (1, 102, 3, .ref 5), [803, 60, 806, 805, 23]), (160, (1, 106, 3, .ref 5), [846, 60, 849, 848, 33]), (164, (1, 96, 0, .ref 5), [862, 60, 865, 864, 37])]
/-- 108: PatienceTableModel.placeOf(I)I -/
def zp_l108 : List (Option Jvm.ClassFile.Instr) := [some (.iload_n 1), some (.bipush (104)), none, some (.if_icmp .ne (6)), none, none, some (.bipush (12)), none, some (.ireturn), some (.iload_n 1), some (.bipush (97)), none, some (.bipush (100)), none, some (.invokestatic 92), none, none, some (.ifCond .eq (13)), none, none, some (.bipush (8)), none, some (.iload_n 1), some (.iadd), some (.bipush (97)), none, some (.isub), some (.goto (22)), none, none, some (.iload_n 1), some (.bipush (49)), none, some (.bipush (56)), none, some (.invokestatic 92), none, none, some (.ifCond .eq (10)), none, none, some (.iload_n 1), some (.bipush (49)), none, some (.isub), some (.goto (4)), none, none, some (.iconst (-1)), some (.istore_n 2), some (.aload_n 0), some (.iload_n 2), some (.invokevirtual 135), none, none, some (.ifCond .ne (11)), none, none, some (.aload_n 0), some (.iload_n 2), some (.invokevirtual 118), none, none, some (.ifCond .eq (7)), none, none, some (.iload_n 2), some (.goto (4)), none, none, some (.iconst (-1)), some (.ireturn)]
def zp_p108 : List (Nat × zi_T × List Nat) := [(92, (3, 79, 3, .null), [752, 60, 754, 753]), (118, (1, 95, 1, .ref 5), [799, 60, 802, 801, 22]), (135, (1, 94, 1, .ref 5), [795, 60, 798, 797, 21])]
/-- 109: PatienceTableModel.mostOf(II)I -/
def zp_l109 : List (Option Jvm.ClassFile.Instr) := [some (.iconst 0), some (.istore_n 3), some (.iconst 1), some (.istore 4), none, some (.iload 4), none, some (.aload_n 0), some (.getfield 26), none, none, some (.iload_n 1), some (.iaload), some (.if_icmp .gt (27)), none, none, some (.aload_n 0), some (.iload_n 1), some (.iload_n 2), some (.iload 4), none, some (.invokevirtual 157), none, none, some (.ifCond .eq (8)), none, none, some (.iload 4), none, some (.goto (4)), none, none, some (.iload_n 3), some (.istore_n 3), some (.iinc 4 (1)), none, none, some (.goto (-32)), none, none, some (.iload_n 3), some (.ireturn)]
def zp_p109 : List (Nat × zi_T × List Nat) := [(26, (9, 5, 8, .null), [663]), (157, (1, 102, 3, .ref 5), [803, 60, 806, 805, 23])]
/-- 110: PatienceTableModel.play(CC)I -/
def zp_l110 : List (Option Jvm.ClassFile.Instr) := [some (.aload_n 0), some (.iconst 0), some (.putfield 69), none, none, some (.aload_n 0), some (.iload_n 1), some (.invokevirtual 167), none, none, some (.istore_n 3), some (.aload_n 0), some (.iload_n 2), some (.invokevirtual 167), none, none, some (.istore 4), none, some (.iload_n 3), some (.ifCond .lt (14)), none, none, some (.iload 4), none, some (.ifCond .lt (9)), none, none, some (.iload_n 3), some (.bipush (12)), none, some (.if_icmp .ne (9)), none, none, some (.aload_n 0), some (.iconst 1), some (.invokevirtual 112), none, none, some (.ireturn), some (.aload_n 0), some (.iload_n 3), some (.invokevirtual 135), none, none, some (.ifCond .eq (22)), none, none, some (.aload_n 0), some (.iload 4), none, some (.invokevirtual 135), none, none, some (.ifCond .eq (13)), none, none, some (.aload_n 0), some (.iload_n 3), some (.iload 4), none, some (.invokevirtual 170), none, none, some (.goto (18)), none, none, some (.aload_n 0), some (.iload_n 3), some (.iload 4), none, some (.invokevirtual 141), none, none, some (.ifCond .eq (7)), none, none, some (.iconst 1), some (.goto (4)), none, none, some (.iconst 0), some (.istore 5), none, some (.aload_n 0), some (.invokevirtual 115), none, none, some (.aload_n 0), some (.invokevirtual 96), none, none, some (.if_icmp .lt (8)), none, none, some (.iload 5), none, some (.ifCond .ne (9)), none, none, some (.aload_n 0), some (.iconst 2), some (.invokevirtual 112), none, none, some (.ireturn), some (.aload_n 0), some (.iload_n 3), some (.iload 4), none, some (.iload 5), none, some (.invokevirtual 160), none, none, some (.iload 5), none, some (.ireturn)]
def zp_p110 : List (Nat × zi_T × List Nat) := [(69, (0, 5, 0, .null), [655]), (96, (1, 80, 0, .ref 5), [767, 60, 770, 769, 17]), (112, (1, 78, 1, .ref 5), [783, 60, 786, 785, 19]), (115, (1, 92, 0, .ref 5), [787, 60, 790, 789, 20]), (135, (1, 94, 1, .ref 5), [795, 60, 798, 797, 21]), (141, (1, 100, 2, .ref 5), [807, 60, 810, 809, 24]), (160, (1, 106, 3, .ref 5), [846, 60, 849, 848, 33]), (167, (1, 108, 1, .ref 5), [870, 60, 873, 872, 38]), (170, (1, 109, 2, .ref 5), [874, 60, 877, 876, 39])]
/-- 111: PatienceTableModel.isSafe(I)Z -/
def zp_l111 : List (Option Jvm.ClassFile.Instr) := [some (.iconst 1), some (.istore_n 2), some (.iconst 0), some (.istore_n 3), some (.iload_n 3), some (.aload_n 0), some (.getfield 16), none, none, some (.if_icmp .ge (86)), none, none, some (.aload_n 0), some (.getfield 76), none, none, some (.iconst 2), some (.if_icmp .eq (25)), none, none, some (.aload_n 0), some (.getfield 76), none, none, some (.ifCond .ne (22)), none, none, some (.iload_n 3), some (.invokestatic 82), none, none, some (.aload_n 0), some (.iload_n 1), some (.invokevirtual 79), none, none, some (.invokestatic 82), none, none, some (.if_icmp .eq (7)), none, none, some (.iconst 1), some (.goto (4)), none, none, some (.iconst 0), some (.istore 4), none, some (.iload_n 2), some (.ifCond .eq (37)), none, none, some (.iload 4), none, some (.ifCond .eq (28)), none, none, some (.aload_n 0), some (.iload_n 1), some (.invokevirtual 72), none, none, some (.iconst 3), some (.if_icmp .lt (19)), none, none, some (.aload_n 0), some (.getfield 32), none, none, some (.iload_n 3), some (.iaload), some (.iconst 1), some (.iadd), some (.aload_n 0), some (.iload_n 1), some (.invokevirtual 72), none, none, some (.if_icmp .lt (7)), none, none, some (.iconst 1), some (.goto (4)), none, none, some (.iconst 0), some (.istore_n 2), some (.iinc 3 (1)), none, none, some (.goto (-88)), none, none, some (.iload_n 2), some (.ireturn)]
def zp_p111 : List (Nat × zi_T × List Nat) := [(16, (0, 5, 5, .null), [660]), (32, (9, 5, 10, .null), [665]), (72, (1, 82, 1, .ref 5), [823, 60, 826, 825, 28]), (76, (0, 5, 3, .null), [658]), (79, (1, 81, 1, .ref 5), [819, 60, 822, 821, 27]), (82, (3, 83, 1, .null), [839, 60, 841, 840])]
/-- 112: PatienceTableModel.safePlace()I -/
def zp_l112 : List (Option Jvm.ClassFile.Instr) := [some (.iconst 0), some (.istore_n 1), some (.iload_n 1), some (.bipush (12)), none, some (.if_icmp .ge (65)), none, none, some (.iload_n 1), some (.iconst 4), some (.if_icmp .ge (10)), none, none, some (.bipush (8)), none, some (.iload_n 1), some (.iadd), some (.goto (6)), none, none, some (.iload_n 1), some (.iconst 4), some (.isub), some (.istore_n 2), some (.aload_n 0), some (.iload_n 2), some (.invokevirtual 118), none, none, some (.ifCond .ne (11)), none, none, some (.aload_n 0), some (.iload_n 2), some (.invokevirtual 135), none, none, some (.ifCond .eq (27)), none, none, some (.aload_n 0), some (.iload_n 2), some (.bipush (12)), none, some (.invokevirtual 141), none, none, some (.ifCond .eq (17)), none, none, some (.aload_n 0), some (.aload_n 0), some (.iload_n 2), some (.invokevirtual 132), none, none, some (.invokevirtual 173), none, none, some (.ifCond .eq (5)), none, none, some (.iload_n 2), some (.ireturn), some (.iinc 1 (1)), none, none, some (.goto (-65)), none, none, some (.iconst (-1)), some (.ireturn)]
def zp_p112 : List (Nat × zi_T × List Nat) := [(118, (1, 95, 1, .ref 5), [799, 60, 802, 801, 22]), (132, (1, 98, 1, .ref 5), [811, 60, 814, 813, 25]), (135, (1, 94, 1, .ref 5), [795, 60, 798, 797, 21]), (141, (1, 100, 2, .ref 5), [807, 60, 810, 809, 24]), (173, (1, 111, 1, .ref 5), [886, 60, 889, 888, 41])]
/-- 113: PatienceTableModel.sendHome()I -/
def zp_l113 : List (Option Jvm.ClassFile.Instr) := [some (.aload_n 0), some (.iconst 0), some (.putfield 69), none, none, some (.aload_n 0), some (.invokevirtual 115), none, none, some (.aload_n 0), some (.invokevirtual 96), none, none, some (.if_icmp .ge (9)), none, none, some (.aload_n 0), some (.iconst 1), some (.invokevirtual 112), none, none, some (.ireturn), some (.iconst 0), some (.istore_n 1), some (.aload_n 0), some (.invokevirtual 176), none, none, some (.istore_n 2), some (.iload_n 2), some (.ifCond .lt (22)), none, none, some (.aload_n 0), some (.iload_n 2), some (.bipush (12)), none, some (.iconst 1), some (.invokevirtual 160), none, none, some (.iinc 1 (1)), none, none, some (.aload_n 0), some (.invokevirtual 176), none, none, some (.istore_n 2), some (.goto (-20)), none, none, some (.iload_n 1), some (.ireturn)]
def zp_p113 : List (Nat × zi_T × List Nat) := [(69, (0, 5, 0, .null), [655]), (96, (1, 80, 0, .ref 5), [767, 60, 770, 769, 17]), (112, (1, 78, 1, .ref 5), [783, 60, 786, 785, 19]), (115, (1, 92, 0, .ref 5), [787, 60, 790, 789, 20]), (160, (1, 106, 3, .ref 5), [846, 60, 849, 848, 33]), (176, (1, 112, 0, .ref 5), [882, 60, 885, 884, 40])]
/-- 114: PatienceTableModel.undo()I -/
def zp_l114 : List (Option Jvm.ClassFile.Instr) := [some (.aload_n 0), some (.iconst 0), some (.putfield 69), none, none, some (.aload_n 0), some (.getfield 89), none, none, some (.ifCond .ne (9)), none, none, some (.aload_n 0), some (.iconst 1), some (.invokevirtual 112), none, none, some (.ireturn), some (.aload_n 0), some (.dup), some (.getfield 89), none, none, some (.iconst 1), some (.isub), some (.putfield 89), none, none, some (.aload_n 0), some (.iconst (-1)), some (.putfield 45), none, none, some (.aload_n 0), some (.getfield 42), none, none, some (.iconst 4), some (.aload_n 0), some (.getfield 89), none, none, some (.imul), some (.iconst 2), some (.iadd), some (.iaload), some (.istore_n 1), some (.aload_n 0), some (.aload_n 0), some (.getfield 42), none, none, some (.iconst 4), some (.aload_n 0), some (.getfield 89), none, none, some (.imul), some (.iconst 1), some (.iadd), some (.iaload), some (.aload_n 0), some (.getfield 42), none, none, some (.iconst 4), some (.aload_n 0), some (.getfield 89), none, none, some (.imul), some (.iaload), some (.iload_n 1), some (.aload_n 0), some (.getfield 42), none, none, some (.iconst 4), some (.aload_n 0), some (.getfield 89), none, none, some (.imul), some (.iconst 3), some (.iadd), some (.iaload), some (.invokevirtual 153), none, none, some (.iload_n 1), some (.ireturn)]
def zp_p114 : List (Nat × zi_T × List Nat) := [(42, (9, 5, 14, .null), [669]), (45, (0, 5, 15, .null), [670]), (69, (0, 5, 0, .null), [655]), (89, (0, 5, 13, .null), [668]), (112, (1, 78, 1, .ref 5), [783, 60, 786, 785, 19]), (153, (1, 105, 4, .ref 5), [850, 60, 853, 852, 34])]
/-- 115: PatienceTableModel.log()I -/
def zp_l115 : List (Option Jvm.ClassFile.Instr) := [some (.aload_n 0), some (.iconst 0), some (.putfield 69), none, none, some (.aload_n 0), some (.getfield 89), none, none, some (.ireturn)]
def zp_p115 : List (Nat × zi_T × List Nat) := [(69, (0, 5, 0, .null), [655]), (89, (0, 5, 13, .null), [668])]
/-- 116: PatienceTableModel.card(II)I -/
def zp_l116 : List (Option Jvm.ClassFile.Instr) := [some (.aload_n 0), some (.iconst 0), some (.putfield 69), none, none, some (.iload_n 1), some (.bipush (12)), none, some (.if_icmp .ne (46)), none, none, some (.iload_n 2), some (.iconst 0), some (.aload_n 0), some (.getfield 16), none, none, some (.iconst 1), some (.isub), some (.invokestatic 92), none, none, some (.ifCond .eq (30)), none, none, some (.aload_n 0), some (.getfield 32), none, none, some (.iload_n 2), some (.iaload), some (.ifCond .le (21)), none, none, some (.aload_n 0), some (.getfield 16), none, none, some (.aload_n 0), some (.getfield 32), none, none, some (.iload_n 2), some (.iaload), some (.iconst 1), some (.isub), some (.imul), some (.iload_n 2), some (.iadd), some (.goto (4)), none, none, some (.iconst (-1)), some (.ireturn), some (.aload_n 0), some (.iload_n 1), some (.invokevirtual 118), none, none, some (.ifCond .eq (21)), none, none, some (.iload_n 2), some (.ifCond .ne (15)), none, none, some (.aload_n 0), some (.getfield 29), none, none, some (.iload_n 1), some (.bipush (8)), none, some (.isub), some (.iaload), some (.goto (4)), none, none, some (.iconst (-1)), some (.ireturn), some (.aload_n 0), some (.iload_n 1), some (.invokevirtual 135), none, none, some (.ifCond .eq (31)), none, none, some (.iload_n 2), some (.ifCond .lt (27)), none, none, some (.iload_n 2), some (.aload_n 0), some (.getfield 26), none, none, some (.iload_n 1), some (.iaload), some (.if_icmp .ge (17)), none, none, some (.aload_n 0), some (.getfield 22), none, none, some (.bipush (52)), none, some (.iload_n 1), some (.imul), some (.iload_n 2), some (.iadd), some (.iaload), some (.goto (4)), none, none, some (.iconst (-1)), some (.ireturn)]
def zp_p116 : List (Nat × zi_T × List Nat) := [(16, (0, 5, 5, .null), [660]), (22, (9, 5, 7, .null), [662]), (26, (9, 5, 8, .null), [663]), (29, (9, 5, 9, .null), [664]), (32, (9, 5, 10, .null), [665]), (69, (0, 5, 0, .null), [655]), (92, (3, 79, 3, .null), [752, 60, 754, 753]), (118, (1, 95, 1, .ref 5), [799, 60, 802, 801, 22]), (135, (1, 94, 1, .ref 5), [795, 60, 798, 797, 21])]
/-- 117: PatienceTableModel.size(I)I -/
def zp_l117 : List (Option Jvm.ClassFile.Instr) := [some (.aload_n 0), some (.iconst 0), some (.putfield 69), none, none, some (.iload_n 1), some (.bipush (12)), none, some (.if_icmp .ne (8)), none, none, some (.aload_n 0), some (.invokevirtual 164), none, none, some (.ireturn), some (.aload_n 0), some (.iload_n 1), some (.invokevirtual 118), none, none, some (.ifCond .eq (23)), none, none, some (.aload_n 0), some (.getfield 29), none, none, some (.iload_n 1), some (.bipush (8)), none, some (.isub), some (.iaload), some (.ifCond .ge (7)), none, none, some (.iconst 0), some (.goto (25)), none, none, some (.iconst 1), some (.goto (21)), none, none, some (.aload_n 0), some (.iload_n 1), some (.invokevirtual 135), none, none, some (.ifCond .eq (12)), none, none, some (.aload_n 0), some (.getfield 26), none, none, some (.iload_n 1), some (.iaload), some (.goto (4)), none, none, some (.iconst (-1)), some (.ireturn)]
def zp_p117 : List (Nat × zi_T × List Nat) := [(26, (9, 5, 8, .null), [663]), (29, (9, 5, 9, .null), [664]), (69, (0, 5, 0, .null), [655]), (118, (1, 95, 1, .ref 5), [799, 60, 802, 801, 22]), (135, (1, 94, 1, .ref 5), [795, 60, 798, 797, 21]), (164, (1, 96, 0, .ref 5), [862, 60, 865, 864, 37])]
/-- 118: PatienceTableModel.most(II)I -/
def zp_l118 : List (Option Jvm.ClassFile.Instr) := [some (.aload_n 0), some (.iconst 0), some (.putfield 69), none, none, some (.aload_n 0), some (.iload_n 1), some (.invokevirtual 135), none, none, some (.ifCond .eq (31)), none, none, some (.aload_n 0), some (.iload_n 2), some (.invokevirtual 135), none, none, some (.ifCond .eq (23)), none, none, some (.aload_n 0), some (.invokevirtual 115), none, none, some (.aload_n 0), some (.invokevirtual 96), none, none, some (.if_icmp .ne (12)), none, none, some (.aload_n 0), some (.iload_n 1), some (.iload_n 2), some (.invokevirtual 170), none, none, some (.goto (4)), none, none, some (.iconst 0), some (.ireturn)]
def zp_p118 : List (Nat × zi_T × List Nat) := [(69, (0, 5, 0, .null), [655]), (96, (1, 80, 0, .ref 5), [767, 60, 770, 769, 17]), (115, (1, 92, 0, .ref 5), [787, 60, 790, 789, 20]), (135, (1, 94, 1, .ref 5), [795, 60, 798, 797, 21]), (170, (1, 109, 2, .ref 5), [874, 60, 877, 876, 39])]
/-- 119: PatienceTableModel.begin()V -/
def zp_l119 : List (Option Jvm.ClassFile.Instr) := [some (.iconst 0), some (.istore_n 1), some (.iload_n 1), some (.bipush (52)), none, some (.if_icmp .ge (28)), none, none, some (.aload_n 0), some (.getfield 48), none, none, some (.iload_n 1), some (.iload_n 1), some (.aload_n 0), some (.invokevirtual 96), none, none, some (.if_icmp .ge (7)), none, none, some (.iconst 1), some (.goto (4)), none, none, some (.iconst 0), some (.iastore), some (.iinc 1 (1)), none, none, some (.goto (-28)), none, none, some (.iconst 0), some (.istore_n 1), some (.iload_n 1), some (.aload_n 0), some (.getfield 7), none, none, some (.if_icmp .ge (67)), none, none, some (.iconst 0), some (.istore_n 2), some (.iload_n 2), some (.aload_n 0), some (.getfield 26), none, none, some (.iload_n 1), some (.iaload), some (.if_icmp .ge (49)), none, none, some (.aload_n 0), some (.getfield 48), none, none, some (.aload_n 0), some (.getfield 22), none, none, some (.bipush (52)), none, some (.iload_n 1), some (.imul), some (.iload_n 2), some (.iadd), some (.iaload), some (.iload_n 2), some (.ifCond .ne (7)), none, none, some (.iconst 3), some (.goto (19)), none, none, some (.bipush (10)), none, some (.aload_n 0), some (.getfield 22), none, none, some (.bipush (52)), none, some (.iload_n 1), some (.imul), some (.iload_n 2), some (.iadd), some (.iconst 1), some (.isub), some (.iaload), some (.iadd), some (.iastore), some (.iinc 2 (1)), none, none, some (.goto (-53)), none, none, some (.iinc 1 (1)), none, none, some (.goto (-69)), none, none, some (.iconst 0), some (.istore_n 1), some (.iload_n 1), some (.aload_n 0), some (.getfield 13), none, none, some (.if_icmp .ge (30)), none, none, some (.aload_n 0), some (.getfield 29), none, none, some (.iload_n 1), some (.iaload), some (.ifCond .lt (15)), none, none, some (.aload_n 0), some (.getfield 48), none, none, some (.aload_n 0), some (.getfield 29), none, none, some (.iload_n 1), some (.iaload), some (.iconst 2), some (.iastore), some (.iinc 1 (1)), none, none, some (.goto (-32)), none, none, some (.return_)]
def zp_p119 : List (Nat × zi_T × List Nat) := [(7, (0, 5, 1, .null), [656]), (13, (0, 5, 2, .null), [657]), (22, (9, 5, 7, .null), [662]), (26, (9, 5, 8, .null), [663]), (29, (9, 5, 9, .null), [664]), (48, (9, 5, 17, .null), [672]), (96, (1, 80, 0, .ref 5), [767, 60, 770, 769, 17])]
/-- 120: PatienceTableModel.sumOf(I)I -/
def zp_l120 : List (Option Jvm.ClassFile.Instr) := [some (.iconst 0), some (.istore_n 2), some (.iconst 0), some (.istore_n 3), some (.iload_n 3), some (.bipush (52)), none, some (.if_icmp .ge (26)), none, none, some (.bipush (31)), none, some (.iload_n 2), some (.imul), some (.aload_n 0), some (.getfield 48), none, none, some (.bipush (52)), none, some (.iload_n 1), some (.imul), some (.iload_n 3), some (.iadd), some (.iaload), some (.iadd), some (.istore_n 2), some (.iinc 3 (1)), none, none, some (.goto (-26)), none, none, some (.iload_n 2), some (.ireturn)]
def zp_p120 : List (Nat × zi_T × List Nat) := [(48, (9, 5, 17, .null), [672])]
/-- 121: PatienceTableModel.regard(I)V -/
def zp_l121 : List (Option Jvm.ClassFile.Instr) := [some (.iconst 0), some (.istore_n 2), some (.iload_n 2), some (.iconst 4), some (.if_icmp .ge (16)), none, none, some (.aload_n 0), some (.getfield 60), none, none, some (.iload_n 2), some (.iconst 0), some (.iastore), some (.iinc 2 (1)), none, none, some (.goto (-15)), none, none, some (.aload_n 0), some (.iconst 0), some (.putfield 179), none, none, some (.aload_n 0), some (.iconst 0), some (.putfield 182), none, none, some (.iconst 0), some (.istore_n 2), some (.iload_n 2), some (.aload_n 0), some (.invokevirtual 96), none, none, some (.if_icmp .ge (16)), none, none, some (.aload_n 0), some (.getfield 63), none, none, some (.iload_n 2), some (.iconst 0), some (.bastore), some (.iinc 2 (1)), none, none, some (.goto (-18)), none, none, some (.iconst 0), some (.istore_n 2), some (.iload_n 2), some (.aload_n 0), some (.invokevirtual 96), none, none, some (.if_icmp .ge (100)), none, none, some (.aload_n 0), some (.getfield 48), none, none, some (.bipush (52)), none, some (.iload_n 1), some (.imul), some (.iload_n 2), some (.iadd), some (.iaload), some (.istore_n 3), some (.iload_n 3), some (.iconst 1), some (.if_icmp .ne (17)), none, none, some (.aload_n 0), some (.getfield 60), none, none, some (.aload_n 0), some (.iload_n 2), some (.invokevirtual 79), none, none, some (.dup2), some (.iaload), some (.iconst 1), some (.iadd), some (.iastore), some (.aload_n 0), some (.iload_n 3), some (.iconst 2), some (.if_icmp .ne (12)), none, none, some (.aload_n 0), some (.getfield 179), none, none, some (.iconst 1), some (.iadd), some (.goto (7)), none, none, some (.aload_n 0), some (.getfield 179), none, none, some (.putfield 179), none, none, some (.aload_n 0), some (.iload_n 3), some (.iconst 3), some (.if_icmp .ne (12)), none, none, some (.aload_n 0), some (.getfield 182), none, none, some (.iconst 1), some (.iadd), some (.goto (7)), none, none, some (.aload_n 0), some (.getfield 182), none, none, some (.putfield 182), none, none, some (.iload_n 3), some (.bipush (10)), none, some (.if_icmp .lt (13)), none, none, some (.aload_n 0), some (.getfield 63), none, none, some (.iload_n 3), some (.bipush (10)), none, some (.isub), some (.iconst 1), some (.bastore), some (.iinc 2 (1)), none, none, some (.goto (-102)), none, none, some (.return_)]
def zp_p121 : List (Nat × zi_T × List Nat) := [(48, (9, 5, 17, .null), [672]), (60, (9, 5, 25, .null), [680]), (63, (9, 5, 28, .null), [683]), (79, (1, 81, 1, .ref 5), [819, 60, 822, 821, 27]), (96, (1, 80, 0, .ref 5), [767, 60, 770, 769, 17]), (179, (0, 5, 26, .null), [681]), (182, (0, 5, 27, .null), [682])]
/-- 122: PatienceTableModel.mayLie(III)Z -/
def zp_l122 : List (Option Jvm.ClassFile.Instr) := [some (.aload_n 0), some (.getfield 48), none, none, some (.bipush (52)), none, some (.iload_n 1), some (.imul), some (.iload_n 2), some (.iadd), some (.iaload), some (.istore 4), none, some (.iload 4), none, some (.iconst 1), some (.if_icmp .eq (18)), none, none, some (.aload_n 0), some (.getfield 63), none, none, some (.iload_n 2), some (.baload), some (.ifCond .ne (9)), none, none, some (.iload 4), none, some (.iload_n 3), some (.if_icmp .ne (5)), none, none, some (.iconst 0), some (.ireturn), some (.iload_n 3), some (.iconst 1), some (.if_icmp .ne (29)), none, none, some (.aload_n 0), some (.getfield 60), none, none, some (.aload_n 0), some (.iload_n 2), some (.invokevirtual 79), none, none, some (.iaload), some (.iconst 1), some (.iadd), some (.aload_n 0), some (.iload_n 2), some (.invokevirtual 72), none, none, some (.if_icmp .ne (7)), none, none, some (.iconst 1), some (.goto (4)), none, none, some (.iconst 0), some (.ireturn), some (.iload_n 3), some (.iconst 2), some (.if_icmp .ne (20)), none, none, some (.aload_n 0), some (.getfield 179), none, none, some (.aload_n 0), some (.getfield 13), none, none, some (.if_icmp .ge (7)), none, none, some (.iconst 1), some (.goto (4)), none, none, some (.iconst 0), some (.ireturn), some (.iload_n 3), some (.iconst 3), some (.if_icmp .ne (28)), none, none, some (.aload_n 0), some (.getfield 182), none, none, some (.aload_n 0), some (.getfield 7), none, none, some (.if_icmp .ge (15)), none, none, some (.aload_n 0), some (.iload_n 2), some (.invokevirtual 125), none, none, some (.ifCond .eq (7)), none, none, some (.iconst 1), some (.goto (4)), none, none, some (.iconst 0), some (.ireturn), some (.iload_n 3), some (.bipush (10)), none, some (.isub), some (.istore 5), none, some (.aload_n 0), some (.getfield 48), none, none, some (.bipush (52)), none, some (.iload_n 1), some (.imul), some (.iload 5), none, some (.iadd), some (.iaload), some (.iconst 3), some (.if_icmp .lt (27)), none, none, some (.aload_n 0), some (.getfield 63), none, none, some (.iload 5), none, some (.baload), some (.ifCond .ne (17)), none, none, some (.aload_n 0), some (.iload_n 2), some (.iload 5), none, some (.invokevirtual 128), none, none, some (.ifCond .eq (7)), none, none, some (.iconst 1), some (.goto (4)), none, none, some (.iconst 0), some (.ireturn)]
def zp_p122 : List (Nat × zi_T × List Nat) := [(7, (0, 5, 1, .null), [656]), (13, (0, 5, 2, .null), [657]), (48, (9, 5, 17, .null), [672]), (60, (9, 5, 25, .null), [680]), (63, (9, 5, 28, .null), [683]), (72, (1, 82, 1, .ref 5), [823, 60, 826, 825, 28]), (79, (1, 81, 1, .ref 5), [819, 60, 822, 821, 27]), (125, (1, 85, 1, .ref 5), [831, 60, 834, 833, 30]), (128, (1, 84, 2, .ref 5), [835, 60, 838, 837, 31]), (179, (0, 5, 26, .null), [681]), (182, (0, 5, 27, .null), [682])]
/-- 123: PatienceTableModel.tried(III)I -/
def zp_l123 : List (Option Jvm.ClassFile.Instr) := [some (.aload_n 0), some (.iconst 1), some (.putfield 185), none, none, some (.iconst 0), some (.istore 4), none, some (.iload 4), none, some (.bipush (52)), none, some (.if_icmp .ge (77)), none, none, some (.iload 4), none, some (.iload_n 2), some (.if_icmp .ne (7)), none, none, some (.iload_n 3), some (.goto (15)), none, none, some (.aload_n 0), some (.getfield 48), none, none, some (.bipush (52)), none, some (.iload_n 1), some (.imul), some (.iload 4), none, some (.iadd), some (.iaload), some (.istore 5), none, some (.aload_n 0), some (.getfield 48), none, none, some (.bipush (52)), none, some (.aload_n 0), some (.getfield 189), none, none, some (.imul), some (.iload 4), none, some (.iadd), some (.iload 5), none, some (.iastore), some (.aload_n 0), some (.aload_n 0), some (.getfield 185), none, none, some (.ifCond .eq (18)), none, none, some (.iload 5), none, some (.iconst 1), some (.if_icmp .eq (8)), none, none, some (.iload 5), none, some (.ifCond .ne (7)), none, none, some (.iconst 1), some (.goto (4)), none, none, some (.iconst 0), some (.putfield 185), none, none, some (.iinc 4 (1)), none, none, some (.goto (-78)), none, none, some (.aload_n 0), some (.getfield 51), none, none, some (.aload_n 0), some (.getfield 189), none, none, some (.aload_n 0), some (.aload_n 0), some (.getfield 189), none, none, some (.invokevirtual 192), none, none, some (.iastore), some (.iconst 0), some (.istore 4), none, some (.iconst 0), some (.istore 5), none, some (.iload 4), none, some (.aload_n 0), some (.getfield 189), none, none, some (.if_icmp .ge (112)), none, none, some (.iload 5), none, some (.ifCond .ne (107)), none, none, some (.aload_n 0), some (.getfield 51), none, none, some (.iload 4), none, some (.iaload), some (.aload_n 0), some (.getfield 51), none, none, some (.aload_n 0), some (.getfield 189), none, none, some (.iaload), some (.if_icmp .ne (7)), none, none, some (.iconst 1), some (.goto (4)), none, none, some (.iconst 0), some (.istore 5), none, some (.iconst 0), some (.istore 6), none, some (.iload 6), none, some (.bipush (52)), none, some (.if_icmp .ge (52)), none, none, some (.iload 5), none, some (.ifCond .eq (47)), none, none, some (.aload_n 0), some (.getfield 48), none, none, some (.bipush (52)), none, some (.iload 4), none, some (.imul), some (.iload 6), none, some (.iadd), some (.iaload), some (.aload_n 0), some (.getfield 48), none, none, some (.bipush (52)), none, some (.aload_n 0), some (.getfield 189), none, none, some (.imul), some (.iload 6), none, some (.iadd), some (.iaload), some (.if_icmp .ne (7)), none, none, some (.iconst 1), some (.goto (4)), none, none, some (.iconst 0), some (.istore 5), none, some (.iinc 6 (1)), none, none, some (.goto (-53)), none, none, some (.iload 5), none, some (.ifCond .eq (8)), none, none, some (.iload 4), none, some (.goto (7)), none, none, some (.iload 4), none, some (.iconst 1), some (.iadd), some (.istore 4), none, some (.goto (-115)), none, none, some (.iload 4), none, some (.ireturn)]
def zp_p123 : List (Nat × zi_T × List Nat) := [(48, (9, 5, 17, .null), [672]), (51, (9, 5, 18, .null), [673]), (185, (0, 5, 24, .null), [679]), (189, (0, 5, 21, .null), [676]), (192, (1, 120, 1, .ref 5), [922, 60, 925, 924, 44])]
/-- 124: PatienceTableModel.after(I)I -/
def zp_l124 : List (Option Jvm.ClassFile.Instr) := [some (.iload_n 0), some (.iconst 3), some (.if_icmp .ne (8)), none, none, some (.bipush (10)), none, some (.goto (6)), none, none, some (.iload_n 0), some (.iconst 1), some (.iadd), some (.ireturn)]
def zp_p124 : List (Nat × zi_T × List Nat) := []
/-- 125: PatienceTableModel.spread(II)Z -/
def zp_l125 : List (Option Jvm.ClassFile.Instr) := [some (.iconst 0), some (.istore_n 3), some (.aload_n 0), some (.iload_n 1), some (.invokevirtual 195), none, none, some (.iconst 0), some (.istore 4), none, some (.iload 4), none, some (.aload_n 0), some (.invokevirtual 96), none, none, some (.if_icmp .ge (138)), none, none, some (.iconst 1), some (.istore 5), none, some (.iload 5), none, some (.bipush (10)), none, some (.aload_n 0), some (.invokevirtual 96), none, none, some (.iadd), some (.if_icmp .ge (117)), none, none, some (.aload_n 0), some (.iload_n 1), some (.iload 4), none, some (.iload 5), none, some (.invokevirtual 199), none, none, some (.ifCond .eq (95)), none, none, some (.aload_n 0), some (.iload_n 1), some (.iload 4), none, some (.iload 5), none, some (.invokevirtual 202), none, none, some (.aload_n 0), some (.getfield 189), none, none, some (.if_icmp .ne (79)), none, none, some (.iload_n 3), some (.ifCond .ne (10)), none, none, some (.aload_n 0), some (.getfield 185), none, none, some (.ifCond .eq (7)), none, none, some (.iconst 1), some (.goto (4)), none, none, some (.iconst 0), some (.istore_n 3), some (.aload_n 0), some (.aload_n 0), some (.getfield 206), none, none, some (.ifCond .ne (11)), none, none, some (.aload_n 0), some (.getfield 189), none, none, some (.iload_n 2), some (.if_icmp .lt (7)), none, none, some (.iconst 1), some (.goto (4)), none, none, some (.iconst 0), some (.putfield 206), none, none, some (.aload_n 0), some (.getfield 54), none, none, some (.aload_n 0), some (.getfield 189), none, none, some (.iconst 0), some (.bastore), some (.aload_n 0), some (.aload_n 0), some (.getfield 189), none, none, some (.iload_n 2), some (.if_icmp .ge (12)), none, none, some (.aload_n 0), some (.getfield 189), none, none, some (.iconst 1), some (.iadd), some (.goto (7)), none, none, some (.aload_n 0), some (.getfield 189), none, none, some (.putfield 189), none, none, some (.iload 5), none, some (.invokestatic 209), none, none, some (.istore 5), none, some (.goto (-123)), none, none, some (.iinc 4 (1)), none, none, some (.goto (-141)), none, none, some (.iload_n 3), some (.ireturn)]
def zp_p125 : List (Nat × zi_T × List Nat) := [(54, (9, 5, 19, .null), [674]), (96, (1, 80, 0, .ref 5), [767, 60, 770, 769, 17]), (185, (0, 5, 24, .null), [679]), (189, (0, 5, 21, .null), [676]), (195, (1, 121, 1, .ref 5), [930, 60, 933, 932, 46]), (199, (1, 122, 3, .ref 5), [934, 60, 937, 936, 47]), (202, (1, 123, 3, .ref 5), [938, 60, 941, 940, 48]), (206, (0, 5, 23, .null), [678]), (209, (3, 124, 1, .null), [942, 60, 944, 943])]
/-- 126: PatienceTableModel.leads(IIII)Z -/
def zp_l126 : List (Option Jvm.ClassFile.Instr) := [some (.aload_n 0), some (.iload_n 1), some (.iload_n 2), some (.iload_n 3), some (.invokevirtual 199), none, none, some (.ifCond .ne (5)), none, none, some (.iconst 0), some (.ireturn), some (.aload_n 0), some (.iload_n 1), some (.iload_n 2), some (.iload_n 3), some (.invokevirtual 202), none, none, some (.istore 5), none, some (.iload 4), none, some (.aload_n 0), some (.getfield 212), none, none, some (.iconst 1), some (.isub), some (.if_icmp .ne (10)), none, none, some (.aload_n 0), some (.getfield 185), none, none, some (.goto (41)), none, none, some (.iload 5), none, some (.aload_n 0), some (.getfield 57), none, none, some (.iload 4), none, some (.iconst 1), some (.iadd), some (.iaload), some (.if_icmp .lt (26)), none, none, some (.iload 5), none, some (.aload_n 0), some (.getfield 189), none, none, some (.if_icmp .ge (17)), none, none, some (.aload_n 0), some (.getfield 54), none, none, some (.iload 5), none, some (.baload), some (.ifCond .eq (7)), none, none, some (.iconst 1), some (.goto (4)), none, none, some (.iconst 0), some (.ireturn)]
def zp_p126 : List (Nat × zi_T × List Nat) := [(54, (9, 5, 19, .null), [674]), (57, (9, 5, 20, .null), [675]), (185, (0, 5, 24, .null), [679]), (189, (0, 5, 21, .null), [676]), (199, (1, 122, 3, .ref 5), [934, 60, 937, 936, 47]), (202, (1, 123, 3, .ref 5), [938, 60, 941, 940, 48]), (212, (0, 5, 22, .null), [677])]
/-- 127: PatienceTableModel.isGood(II)Z -/
def zp_l127 : List (Option Jvm.ClassFile.Instr) := [some (.iconst 0), some (.istore_n 3), some (.aload_n 0), some (.iload_n 1), some (.invokevirtual 195), none, none, some (.iconst 0), some (.istore 4), none, some (.iload 4), none, some (.aload_n 0), some (.invokevirtual 96), none, none, some (.if_icmp .ge (53)), none, none, some (.iload_n 3), some (.ifCond .ne (49)), none, none, some (.iconst 1), some (.istore 5), none, some (.iload 5), none, some (.bipush (10)), none, some (.aload_n 0), some (.invokevirtual 96), none, none, some (.iadd), some (.if_icmp .ge (28)), none, none, some (.iload_n 3), some (.ifCond .ne (24)), none, none, some (.aload_n 0), some (.iload_n 1), some (.iload 4), none, some (.iload 5), none, some (.iload_n 2), some (.invokevirtual 215), none, none, some (.istore_n 3), some (.iload 5), none, some (.invokestatic 209), none, none, some (.istore 5), none, some (.goto (-34)), none, none, some (.iinc 4 (1)), none, none, some (.goto (-56)), none, none, some (.iload_n 3), some (.ireturn)]
def zp_p127 : List (Nat × zi_T × List Nat) := [(96, (1, 80, 0, .ref 5), [767, 60, 770, 769, 17]), (195, (1, 121, 1, .ref 5), [930, 60, 933, 932, 46]), (209, (3, 124, 1, .null), [942, 60, 944, 943]), (215, (1, 126, 4, .ref 5), [953, 60, 956, 955, 51])]
/-- 128: PatienceTableModel.onAt(I)I -/
def zp_l128 : List (Option Jvm.ClassFile.Instr) := [some (.iload_n 1), some (.bipush (12)), none, some (.if_icmp .ne (7)), none, none, some (.iconst 1), some (.goto (37)), none, none, some (.aload_n 0), some (.iload_n 1), some (.invokevirtual 118), none, none, some (.ifCond .eq (7)), none, none, some (.iconst 2), some (.goto (25)), none, none, some (.aload_n 0), some (.getfield 26), none, none, some (.iload_n 1), some (.iaload), some (.ifCond .ne (7)), none, none, some (.iconst 3), some (.goto (12)), none, none, some (.bipush (10)), none, some (.aload_n 0), some (.iload_n 1), some (.iconst 0), some (.invokevirtual 121), none, none, some (.iadd), some (.ireturn)]
def zp_p128 : List (Nat × zi_T × List Nat) := [(26, (9, 5, 8, .null), [663]), (118, (1, 95, 1, .ref 5), [799, 60, 802, 801, 22]), (121, (1, 97, 2, .ref 5), [815, 60, 818, 817, 26])]
/-- 129: PatienceTableModel.firstMove()I -/
def zp_l129 : List (Option Jvm.ClassFile.Instr) := [some (.aload_n 0), some (.getfield 212), none, none, some (.iconst 1), some (.isub), some (.istore_n 1), some (.iload_n 1), some (.ifCond .le (46)), none, none, some (.aload_n 0), some (.getfield 57), none, none, some (.iload_n 1), some (.iaload), some (.istore_n 2), some (.iload_n 2), some (.aload_n 0), some (.getfield 57), none, none, some (.iload_n 1), some (.iconst 1), some (.iadd), some (.iaload), some (.if_icmp .ge (21)), none, none, some (.aload_n 0), some (.getfield 54), none, none, some (.iload_n 2), some (.aload_n 0), some (.iload_n 2), some (.iload_n 1), some (.invokevirtual 219), none, none, some (.bastore), some (.iinc 2 (1)), none, none, some (.goto (-27)), none, none, some (.iinc 1 (-1)), none, none, some (.goto (-44)), none, none, some (.aload_n 0), some (.iconst 0), some (.invokevirtual 195), none, none, some (.iconst 0), some (.istore_n 1), some (.iload_n 1), some (.sipush (208)), none, none, some (.if_icmp .ge (99)), none, none, some (.iload_n 1), some (.bipush (16)), none, some (.idiv), some (.istore_n 2), some (.iload_n 1), some (.bipush (16)), none, some (.irem), some (.istore_n 3), some (.aload_n 0), some (.iload_n 2), some (.invokevirtual 135), none, none, some (.ifCond .ne (11)), none, none, some (.aload_n 0), some (.iload_n 2), some (.invokevirtual 118), none, none, some (.ifCond .eq (29)), none, none, some (.aload_n 0), some (.iload_n 3), some (.invokevirtual 135), none, none, some (.ifCond .ne (17)), none, none, some (.aload_n 0), some (.iload_n 3), some (.invokevirtual 118), none, none, some (.ifCond .ne (9)), none, none, some (.iload_n 3), some (.bipush (12)), none, some (.if_icmp .ne (7)), none, none, some (.iconst 1), some (.goto (4)), none, none, some (.iconst 0), some (.istore 4), none, some (.iload 4), none, some (.ifCond .eq (33)), none, none, some (.aload_n 0), some (.iload_n 2), some (.iload_n 3), some (.invokevirtual 141), none, none, some (.ifCond .eq (24)), none, none, some (.aload_n 0), some (.iconst 0), some (.aload_n 0), some (.iload_n 2), some (.invokevirtual 132), none, none, some (.aload_n 0), some (.iload_n 3), some (.invokevirtual 222), none, none, some (.iconst 0), some (.invokevirtual 215), none, none, some (.ifCond .eq (5)), none, none, some (.iload_n 1), some (.ireturn), some (.iinc 1 (1)), none, none, some (.goto (-100)), none, none, some (.iconst (-1)), some (.ireturn)]
def zp_p129 : List (Nat × zi_T × List Nat) := [(54, (9, 5, 19, .null), [674]), (57, (9, 5, 20, .null), [675]), (118, (1, 95, 1, .ref 5), [799, 60, 802, 801, 22]), (132, (1, 98, 1, .ref 5), [811, 60, 814, 813, 25]), (135, (1, 94, 1, .ref 5), [795, 60, 798, 797, 21]), (141, (1, 100, 2, .ref 5), [807, 60, 810, 809, 24]), (195, (1, 121, 1, .ref 5), [930, 60, 933, 932, 46]), (212, (0, 5, 22, .null), [677]), (215, (1, 126, 4, .ref 5), [953, 60, 956, 955, 51]), (219, (1, 127, 2, .ref 5), [949, 60, 952, 951, 50]), (222, (1, 128, 1, .ref 5), [957, 60, 960, 959, 52])]
/-- 130: PatienceTableModel.search(I)I -/
def zp_l130 : List (Option Jvm.ClassFile.Instr) := [some (.aload_n 0), some (.invokevirtual 225), none, none, some (.aload_n 0), some (.getfield 51), none, none, some (.iconst 0), some (.aload_n 0), some (.iconst 0), some (.invokevirtual 192), none, none, some (.iastore), some (.aload_n 0), some (.iconst 1), some (.putfield 189), none, none, some (.aload_n 0), some (.iconst 0), some (.putfield 212), none, none, some (.aload_n 0), some (.getfield 57), none, none, some (.iconst 0), some (.iconst 0), some (.iastore), some (.aload_n 0), some (.iconst 0), some (.putfield 228), none, none, some (.aload_n 0), some (.invokevirtual 164), none, none, some (.aload_n 0), some (.invokevirtual 96), none, none, some (.if_icmp .ne (5)), none, none, some (.iconst 0), some (.ireturn), some (.aload_n 0), some (.getfield 57), none, none, some (.aload_n 0), some (.getfield 212), none, none, some (.iaload), some (.istore_n 2), some (.aload_n 0), some (.dup), some (.getfield 212), none, none, some (.iconst 1), some (.iadd), some (.putfield 212), none, none, some (.aload_n 0), some (.getfield 57), none, none, some (.aload_n 0), some (.getfield 212), none, none, some (.aload_n 0), some (.getfield 189), none, none, some (.iastore), some (.aload_n 0), some (.aload_n 0), some (.getfield 189), none, none, some (.putfield 228), none, none, some (.aload_n 0), some (.iconst 0), some (.putfield 206), none, none, some (.iconst 0), some (.istore_n 3), some (.iload_n 2), some (.istore 4), none, some (.iload 4), none, some (.aload_n 0), some (.getfield 228), none, none, some (.if_icmp .ge (33)), none, none, some (.aload_n 0), some (.iload 4), none, some (.iload_n 1), some (.invokevirtual 231), none, none, some (.istore 5), none, some (.iload_n 3), some (.ifCond .ne (8)), none, none, some (.iload 5), none, some (.ifCond .eq (7)), none, none, some (.iconst 1), some (.goto (4)), none, none, some (.iconst 0), some (.istore_n 3), some (.iinc 4 (1)), none, none, some (.goto (-36)), none, none, some (.iload_n 3), some (.ifCond .eq (8)), none, none, some (.aload_n 0), some (.getfield 212), none, none, some (.ireturn), some (.aload_n 0), some (.getfield 206), none, none, some (.ifCond .ne (14)), none, none, some (.aload_n 0), some (.getfield 189), none, none, some (.aload_n 0), some (.getfield 228), none, none, some (.if_icmp .ne (18)), none, none, some (.aload_n 0), some (.getfield 206), none, none, some (.ifCond .eq (8)), none, none, some (.bipush (-2)), none, some (.goto (5)), none, none, some (.bipush (-3)), none, some (.ireturn), some (.goto (-132))]
def zp_p130 : List (Nat × zi_T × List Nat) := [(51, (9, 5, 18, .null), [673]), (57, (9, 5, 20, .null), [675]), (96, (1, 80, 0, .ref 5), [767, 60, 770, 769, 17]), (164, (1, 96, 0, .ref 5), [862, 60, 865, 864, 37]), (189, (0, 5, 21, .null), [676]), (192, (1, 120, 1, .ref 5), [922, 60, 925, 924, 44]), (206, (0, 5, 23, .null), [678]), (212, (0, 5, 22, .null), [677]), (225, (1, 119, 0, .ref 5), [918, 60, 921, 920, 43]), (228, (0, 5, 16, .null), [671]), (231, (1, 125, 2, .ref 5), [926, 60, 929, 928, 45])]
/-- 131: PatienceTableModel.look(I)I -/
def zp_l131 : List (Option Jvm.ClassFile.Instr) := [some (.aload_n 0), some (.iconst 0), some (.putfield 69), none, none, some (.iload_n 1), some (.iconst 1), some (.sipush (200)), none, none, some (.invokestatic 92), none, none, some (.ifCond .ne (9)), none, none, some (.aload_n 0), some (.iconst 1), some (.invokevirtual 112), none, none, some (.ireturn), some (.aload_n 0), some (.invokevirtual 115), none, none, some (.aload_n 0), some (.invokevirtual 96), none, none, some (.if_icmp .ge (9)), none, none, some (.aload_n 0), some (.iconst 2), some (.invokevirtual 112), none, none, some (.ireturn), some (.aload_n 0), some (.iload_n 1), some (.invokevirtual 234), none, none, some (.istore_n 2), some (.aload_n 0), some (.iload_n 2), some (.ifCond .le (10)), none, none, some (.aload_n 0), some (.invokevirtual 237), none, none, some (.goto (4)), none, none, some (.iconst (-1)), some (.putfield 45), none, none, some (.iload_n 2), some (.ireturn)]
def zp_p131 : List (Nat × zi_T × List Nat) := [(45, (0, 5, 15, .null), [670]), (69, (0, 5, 0, .null), [655]), (92, (3, 79, 3, .null), [752, 60, 754, 753]), (96, (1, 80, 0, .ref 5), [767, 60, 770, 769, 17]), (112, (1, 78, 1, .ref 5), [783, 60, 786, 785, 19]), (115, (1, 92, 0, .ref 5), [787, 60, 790, 789, 20]), (234, (1, 130, 1, .ref 5), [914, 60, 917, 916, 42]), (237, (1, 129, 0, .ref 5), [945, 60, 948, 947, 49])]
/-- 132: PatienceTableModel.hint()I -/
def zp_l132 : List (Option Jvm.ClassFile.Instr) := [some (.aload_n 0), some (.iconst 0), some (.putfield 69), none, none, some (.aload_n 0), some (.getfield 45), none, none, some (.ireturn)]
def zp_p132 : List (Nat × zi_T × List Nat) := [(45, (0, 5, 15, .null), [670]), (69, (0, 5, 0, .null), [655])]
/-- 133: PatienceTableModel.positions()I -/
def zp_l133 : List (Option Jvm.ClassFile.Instr) := [some (.aload_n 0), some (.iconst 0), some (.putfield 69), none, none, some (.aload_n 0), some (.getfield 228), none, none, some (.ireturn)]
def zp_p133 : List (Nat × zi_T × List Nat) := [(69, (0, 5, 0, .null), [655]), (228, (0, 5, 16, .null), [671])]
/-- 134: java/util/Arrays.fill([II)V -/
def zp_l134 : List (Option Jvm.ClassFile.Instr) := [some (.iconst 0), some (.istore_n 2), some (.aload_n 0), some (.arraylength), some (.istore_n 3), some (.iload_n 2), some (.iload_n 3), some (.if_icmp .ge (13)), none, none, some (.aload_n 0), some (.iload_n 2), some (.iload_n 1), some (.iastore), some (.iinc 2 (1)), none, none, some (.goto (-12)), none, none, some (.return_)]
def zp_p134 : List (Nat × zi_T × List Nat) := []
def zp_ls : List (List (Option Jvm.ClassFile.Instr)) := [zp_l0, zp_l1, zp_l2, zp_l3, zp_l4, zp_l5, zp_l6, zp_l7, zp_l8, zp_l9, zp_l10, zp_l11, zp_l12, zp_l13, zp_l14, zp_l15, zp_l16, zp_l17, zp_l18, zp_l19, zp_l20, zp_l21, zp_l22, zp_l23, zp_l24, zp_l25, zp_l26, zp_l27, zp_l28, zp_l29, zp_l30, zp_l31, zp_l32, zp_l33, zp_l34, zp_l35, zp_l36, zp_l37, zp_l38, zp_l39, zp_l40, zp_l41, zp_l42, zp_l43, zp_l44, zp_l45, zp_l46, zp_l47, zp_l48, zp_l49, zp_l50, zp_l51, zp_l52, zp_l53, zp_l54, zp_l55, zp_l56, zp_l57, zp_l58, zp_l59, zp_l60, zp_l61, zp_l62, zp_l63, zp_l64, zp_l65, zp_l66, zp_l67, zp_l68, zp_l69, zp_l70, zp_l71, zp_l72, zp_l73, zp_l74, zp_l75, zp_l76, zp_l77, zp_l78, zp_l79, zp_l80, zp_l81, zp_l82, zp_l83, zp_l84, zp_l85, zp_l86, zp_l87, zp_l88, zp_l89, zp_l90, zp_l91, zp_l92, zp_l93, zp_l94, zp_l95, zp_l96, zp_l97, zp_l98, zp_l99, zp_l100, zp_l101, zp_l102, zp_l103, zp_l104, zp_l105, zp_l106, zp_l107, zp_l108, zp_l109, zp_l110, zp_l111, zp_l112, zp_l113, zp_l114, zp_l115, zp_l116, zp_l117, zp_l118, zp_l119, zp_l120, zp_l121, zp_l122, zp_l123, zp_l124, zp_l125, zp_l126, zp_l127, zp_l128, zp_l129, zp_l130, zp_l131, zp_l132, zp_l133, zp_l134]
def zp_ps : List (List (Nat × zi_T × List Nat)) := [zp_p0, zp_p1, zp_p2, zp_p3, zp_p4, zp_p5, zp_p6, zp_p7, zp_p8, zp_p9, zp_p10, zp_p11, zp_p12, zp_p13, zp_p14, zp_p15, zp_p16, zp_p17, zp_p18, zp_p19, zp_p20, zp_p21, zp_p22, zp_p23, zp_p24, zp_p25, zp_p26, zp_p27, zp_p28, zp_p29, zp_p30, zp_p31, zp_p32, zp_p33, zp_p34, zp_p35, zp_p36, zp_p37, zp_p38, zp_p39, zp_p40, zp_p41, zp_p42, zp_p43, zp_p44, zp_p45, zp_p46, zp_p47, zp_p48, zp_p49, zp_p50, zp_p51, zp_p52, zp_p53, zp_p54, zp_p55, zp_p56, zp_p57, zp_p58, zp_p59, zp_p60, zp_p61, zp_p62, zp_p63, zp_p64, zp_p65, zp_p66, zp_p67, zp_p68, zp_p69, zp_p70, zp_p71, zp_p72, zp_p73, zp_p74, zp_p75, zp_p76, zp_p77, zp_p78, zp_p79, zp_p80, zp_p81, zp_p82, zp_p83, zp_p84, zp_p85, zp_p86, zp_p87, zp_p88, zp_p89, zp_p90, zp_p91, zp_p92, zp_p93, zp_p94, zp_p95, zp_p96, zp_p97, zp_p98, zp_p99, zp_p100, zp_p101, zp_p102, zp_p103, zp_p104, zp_p105, zp_p106, zp_p107, zp_p108, zp_p109, zp_p110, zp_p111, zp_p112, zp_p113, zp_p114, zp_p115, zp_p116, zp_p117, zp_p118, zp_p119, zp_p120, zp_p121, zp_p122, zp_p123, zp_p124, zp_p125, zp_p126, zp_p127, zp_p128, zp_p129, zp_p130, zp_p131, zp_p132, zp_p133, zp_p134]
def zp_ms : List (MethodName × ByteArray × Nat × Option FieldType) := [(⟨"PatienceTableLaw", "law", "([I)Z"⟩, code, 7, (some .boolean)),
  (⟨"PatienceTableLaw", "deal", "(LPatienceTable;I)I"⟩, method_3_code, 3, (some FieldType.int)),
  (⟨"PatienceTableLaw", "lay", "(LPatienceTable;II[J)I"⟩, method_4_code, 5, (some FieldType.int)),
  (⟨"PatienceTableLaw", "move", "(LPatienceTable;III[J)I"⟩, method_5_code, 6, (some FieldType.int)),
  (⟨"PatienceTableLaw", "play", "(LPatienceTable;CC[J)I"⟩, method_6_code, 5, (some FieldType.int)),
  (⟨"PatienceTableLaw", "sendHome", "(LPatienceTable;[J)I"⟩, method_7_code, 3, (some FieldType.int)),
  (⟨"PatienceTableLaw", "undo", "(LPatienceTable;[J)I"⟩, method_8_code, 3, (some FieldType.int)),
  (⟨"PatienceTableLaw", "look", "(LPatienceTable;I[J)I"⟩, method_9_code, 4, (some FieldType.int)),
  (⟨"PatienceTable", "<init>", "()V"⟩, prog_1_method_1_code, 1, none),
  (⟨"PatienceTable", "rules", "(IIII)Z"⟩, prog_1_method_2_code, 6, (some FieldType.boolean)),
  (⟨"PatienceTable", "cards", "(II)Z"⟩, prog_1_method_3_code, 3, (some FieldType.boolean)),
  (⟨"PatienceTable", "deal", "(I)V"⟩, prog_1_method_4_code, 7, none),
  (⟨"PatienceTable", "clear", "()V"⟩, prog_1_method_5_code, 1, none),
  (⟨"PatienceTable", "lay", "(II)I"⟩, prog_1_method_6_code, 3, (some FieldType.int)),
  (⟨"PatienceTable", "move", "(III)I"⟩, prog_1_method_7_code, 4, (some FieldType.int)),
  (⟨"PatienceTable", "play", "(CC)I"⟩, prog_1_method_8_code, 6, (some FieldType.int)),
  (⟨"PatienceTable", "sendHome", "()I"⟩, prog_1_method_9_code, 3, (some FieldType.int)),
  (⟨"PatienceTable", "undo", "()I"⟩, prog_1_method_10_code, 2, (some FieldType.int)),
  (⟨"PatienceTable", "log", "()I"⟩, prog_1_method_11_code, 1, (some FieldType.int)),
  (⟨"PatienceTable", "card", "(II)I"⟩, prog_1_method_12_code, 3, (some FieldType.int)),
  (⟨"PatienceTable", "size", "(I)I"⟩, prog_1_method_13_code, 2, (some FieldType.int)),
  (⟨"PatienceTable", "most", "(II)I"⟩, prog_1_method_14_code, 3, (some FieldType.int)),
  (⟨"PatienceTable", "look", "(I)I"⟩, prog_1_method_15_code, 3, (some FieldType.int)),
  (⟨"PatienceTable", "hint", "()I"⟩, prog_1_method_16_code, 1, (some FieldType.int)),
  (⟨"PatienceTable", "positions", "()I"⟩, prog_1_method_17_code, 1, (some FieldType.int)),
  (⟨"PatienceTable", "isWithin", "(III)Z"⟩, prog_1_method_18_code, 3, (some FieldType.boolean)),
  (⟨"PatienceTable", "placeTold", "(C)I"⟩, prog_1_method_19_code, 1, (some FieldType.int)),
  (⟨"PatienceTable", "bring", "(III)V"⟩, prog_1_method_20_code, 5, none),
  (⟨"PatienceTable$Game", "<init>", "()V"⟩, prog_2_method_1_code, 1, none),
  (⟨"PatienceTable$Game", "isColumn", "(I)Z"⟩, prog_2_method_2_code, 2, (some FieldType.boolean)),
  (⟨"PatienceTable$Game", "isCell", "(I)Z"⟩, prog_2_method_3_code, 2, (some FieldType.boolean)),
  (⟨"PatienceTable$Game", "isPlace", "(I)Z"⟩, prog_2_method_4_code, 2, (some FieldType.boolean)),
  (⟨"PatienceTable$Game", "cardCount", "()I"⟩, prog_2_method_5_code, 1, (some FieldType.int)),
  (⟨"PatienceTable$Game", "isCard", "(I)Z"⟩, prog_2_method_6_code, 2, (some FieldType.boolean)),
  (⟨"PatienceTable$Game", "rankOf", "(I)I"⟩, prog_2_method_7_code, 2, (some FieldType.int)),
  (⟨"PatienceTable$Game", "suitOf", "(I)I"⟩, prog_2_method_8_code, 2, (some FieldType.int)),
  (⟨"PatienceTable$Game", "isRed", "(I)Z"⟩, prog_2_method_9_code, 2, (some FieldType.boolean)),
  (⟨"PatienceTable$Game", "fitsOn", "(II)Z"⟩, prog_2_method_10_code, 3, (some FieldType.boolean)),
  (⟨"PatienceTable$Game", "fitsInEmpty", "(I)Z"⟩, prog_2_method_11_code, 2, (some FieldType.boolean)),
  (⟨"PatienceTable$Layout", "<init>", "(LPatienceTable$Game;)V"⟩, prog_3_method_1_code, 2, none),
  (⟨"PatienceTable$Layout", "takeAllUp", "()V"⟩, prog_3_method_2_code, 1, none),
  (⟨"PatienceTable$Layout", "becomeLike", "(LPatienceTable$Layout;)V"⟩, prog_3_method_3_code, 2, none),
  (⟨"PatienceTable$Layout", "isLaid", "(I)Z"⟩, prog_3_method_4_code, 2, (some FieldType.boolean)),
  (⟨"PatienceTable$Layout", "isAllLaid", "()Z"⟩, prog_3_method_5_code, 1, (some FieldType.boolean)),
  (⟨"PatienceTable$Layout", "isAllHome", "()Z"⟩, prog_3_method_6_code, 1, (some FieldType.boolean)),
  (⟨"PatienceTable$Layout", "layOn", "(II)V"⟩, prog_3_method_7_code, 3, none),
  (⟨"PatienceTable$Layout", "heightOf", "(I)I"⟩, prog_3_method_8_code, 4, (some FieldType.int)),
  (⟨"PatienceTable$Layout", "cardFromTop", "(II)I"⟩, prog_3_method_9_code, 5, (some FieldType.int)),
  (⟨"PatienceTable$Layout", "topAtHome", "(I)I"⟩, prog_3_method_10_code, 2, (some FieldType.int)),
  (⟨"PatienceTable$Layout", "allows", "(III)Z"⟩, prog_3_method_11_code, 4, (some FieldType.boolean)),
  (⟨"PatienceTable$Layout", "allowsOne", "(II)Z"⟩, prog_3_method_12_code, 4, (some FieldType.boolean)),
  (⟨"PatienceTable$Layout", "allowsRow", "(III)Z"⟩, prog_3_method_13_code, 4, (some FieldType.boolean)),
  (⟨"PatienceTable$Layout", "bears", "(II)Z"⟩, prog_3_method_14_code, 3, (some FieldType.boolean)),
  (⟨"PatienceTable$Layout", "rowOf", "(I)I"⟩, prog_3_method_15_code, 4, (some FieldType.int)),
  (⟨"PatienceTable$Layout", "mostAtOnce", "(I)I"⟩, prog_3_method_16_code, 5, (some FieldType.int)),
  (⟨"PatienceTable$Layout", "emptyAmong", "(II)I"⟩, prog_3_method_17_code, 5, (some FieldType.int)),
  (⟨"PatienceTable$Layout", "mostBetween", "(II)I"⟩, prog_3_method_18_code, 4, (some FieldType.int)),
  (⟨"PatienceTable$Layout", "mayGoHome", "(I)Z"⟩, prog_3_method_19_code, 2, (some FieldType.boolean)),
  (⟨"PatienceTable$Layout", "placeOfSafe", "()I"⟩, prog_3_method_20_code, 2, (some FieldType.int)),
  (⟨"PatienceTable$Layout", "isTopSafe", "(I)Z"⟩, prog_3_method_21_code, 3, (some FieldType.boolean)),
  (⟨"PatienceTable$Layout", "isSafe", "(I)Z"⟩, prog_3_method_22_code, 6, (some FieldType.boolean)),
  (⟨"PatienceTable$Layout", "groundAt", "(I)I"⟩, prog_3_method_23_code, 2, (some FieldType.int)),
  (⟨"PatienceTable$Layout", "carry", "(III)V"⟩, prog_3_method_24_code, 6, none),
  (⟨"PatienceTable$Log", "<init>", "()V"⟩, prog_4_method_1_code, 1, none),
  (⟨"PatienceTable$Log", "forgetAll", "()V"⟩, prog_4_method_2_code, 1, none),
  (⟨"PatienceTable$Log", "note", "(IIII)V"⟩, prog_4_method_3_code, 5, none),
  (⟨"PatienceTable$Log", "takeLatest", "()I"⟩, prog_4_method_4_code, 1, (some FieldType.int)),
  (⟨"PatienceTable$Search", "<init>", "(LPatienceTable$Game;)V"⟩, prog_5_method_1_code, 3, none),
  (⟨"PatienceTable$Search", "seek", "(LPatienceTable$Layout;I)I"⟩, prog_5_method_2_code, 6, (some FieldType.int)),
  (⟨"PatienceTable$Search", "begin", "(LPatienceTable$Layout;I)V"⟩, prog_5_method_3_code, 3, none),
  (⟨"PatienceTable$Search", "expand", "(I)V"⟩, prog_5_method_4_code, 5, none),
  (⟨"PatienceTable$Search", "reach", "(III)V"⟩, prog_5_method_5_code, 10, none),
  (⟨"PatienceTable$Search", "slotFor", "(ILPatienceTable$Layout;II)I"⟩, prog_5_method_6_code, 8, (some FieldType.int)),
  (⟨"PatienceTable$Search", "isAlike", "(LPatienceTable$Layout;LPatienceTable$Layout;II)Z"⟩, prog_5_method_7_code, 8, (some FieldType.boolean)),
  (⟨"PatienceTable$Search", "hashOf", "(LPatienceTable$Layout;)I"⟩, prog_5_method_8_code, 5, (some FieldType.int)),
  (⟨"PatienceTable$Search", "share", "(II)I"⟩, prog_5_method_9_code, 3, (some FieldType.int)),
  (⟨"PatienceTableModel", "<init>", "()V"⟩, prog_7_method_1_code, 1, none),
  (⟨"PatienceTableModel", "thrown", "()I"⟩, prog_7_method_2_code, 1, (some FieldType.int)),
  (⟨"PatienceTableModel", "refuse", "(I)I"⟩, prog_7_method_3_code, 2, (some FieldType.int)),
  (⟨"PatienceTableModel", "within", "(III)Z"⟩, prog_7_method_4_code, 3, (some FieldType.boolean)),
  (⟨"PatienceTableModel", "all", "()I"⟩, prog_7_method_5_code, 1, (some FieldType.int)),
  (⟨"PatienceTableModel", "suit", "(I)I"⟩, prog_7_method_6_code, 2, (some FieldType.int)),
  (⟨"PatienceTableModel", "rank", "(I)I"⟩, prog_7_method_7_code, 2, (some FieldType.int)),
  (⟨"PatienceTableModel", "isBlack", "(I)Z"⟩, prog_7_method_8_code, 1, (some FieldType.boolean)),
  (⟨"PatienceTableModel", "fitsOn", "(II)Z"⟩, prog_7_method_9_code, 3, (some FieldType.boolean)),
  (⟨"PatienceTableModel", "fitsEmpty", "(I)Z"⟩, prog_7_method_10_code, 2, (some FieldType.boolean)),
  (⟨"PatienceTableModel", "wipe", "()V"⟩, prog_7_method_11_code, 2, none),
  (⟨"PatienceTableModel", "rules", "(IIII)Z"⟩, prog_7_method_12_code, 5, (some FieldType.boolean)),
  (⟨"PatienceTableModel", "cards", "(II)Z"⟩, prog_7_method_13_code, 3, (some FieldType.boolean)),
  (⟨"PatienceTableModel", "clear", "()V"⟩, prog_7_method_14_code, 1, none),
  (⟨"PatienceTableModel", "push", "(II)V"⟩, prog_7_method_15_code, 3, none),
  (⟨"PatienceTableModel", "deal", "(I)V"⟩, prog_7_method_16_code, 7, none),
  (⟨"PatienceTableModel", "laid", "()I"⟩, prog_7_method_17_code, 3, (some FieldType.int)),
  (⟨"PatienceTableModel", "lay", "(II)I"⟩, prog_7_method_18_code, 3, (some FieldType.int)),
  (⟨"PatienceTableModel", "isColumn", "(I)Z"⟩, prog_7_method_19_code, 2, (some FieldType.boolean)),
  (⟨"PatienceTableModel", "isCell", "(I)Z"⟩, prog_7_method_20_code, 2, (some FieldType.boolean)),
  (⟨"PatienceTableModel", "atHome", "()I"⟩, prog_7_method_21_code, 1, (some FieldType.int)),
  (⟨"PatienceTableModel", "fromTop", "(II)I"⟩, prog_7_method_22_code, 3, (some FieldType.int)),
  (⟨"PatienceTableModel", "topOf", "(I)I"⟩, prog_7_method_23_code, 2, (some FieldType.int)),
  (⟨"PatienceTableModel", "fitsAt", "(II)Z"⟩, prog_7_method_24_code, 3, (some FieldType.boolean)),
  (⟨"PatienceTableModel", "mayOne", "(II)Z"⟩, prog_7_method_25_code, 4, (some FieldType.boolean)),
  (⟨"PatienceTableModel", "limit", "(I)I"⟩, prog_7_method_26_code, 4, (some FieldType.int)),
  (⟨"PatienceTableModel", "may", "(III)Z"⟩, prog_7_method_27_code, 5, (some FieldType.boolean)),
  (⟨"PatienceTableModel", "take", "(II)I"⟩, prog_7_method_28_code, 3, (some FieldType.int)),
  (⟨"PatienceTableModel", "give", "(II)V"⟩, prog_7_method_29_code, 3, none),
  (⟨"PatienceTableModel", "bring", "(IIII)V"⟩, prog_7_method_30_code, 6, none),
  (⟨"PatienceTableModel", "make", "(III)V"⟩, prog_7_method_31_code, 5, none),
  (⟨"PatienceTableModel", "move", "(III)I"⟩, prog_7_method_32_code, 4, (some FieldType.int)),
  (⟨"PatienceTableModel", "placeOf", "(I)I"⟩, prog_7_method_33_code, 3, (some FieldType.int)),
  (⟨"PatienceTableModel", "mostOf", "(II)I"⟩, prog_7_method_34_code, 5, (some FieldType.int)),
  (⟨"PatienceTableModel", "play", "(CC)I"⟩, prog_7_method_35_code, 6, (some FieldType.int)),
  (⟨"PatienceTableModel", "isSafe", "(I)Z"⟩, prog_7_method_36_code, 5, (some FieldType.boolean)),
  (⟨"PatienceTableModel", "safePlace", "()I"⟩, prog_7_method_37_code, 3, (some FieldType.int)),
  (⟨"PatienceTableModel", "sendHome", "()I"⟩, prog_7_method_38_code, 3, (some FieldType.int)),
  (⟨"PatienceTableModel", "undo", "()I"⟩, prog_7_method_39_code, 2, (some FieldType.int)),
  (⟨"PatienceTableModel", "log", "()I"⟩, prog_7_method_40_code, 1, (some FieldType.int)),
  (⟨"PatienceTableModel", "card", "(II)I"⟩, prog_7_method_41_code, 3, (some FieldType.int)),
  (⟨"PatienceTableModel", "size", "(I)I"⟩, prog_7_method_42_code, 2, (some FieldType.int)),
  (⟨"PatienceTableModel", "most", "(II)I"⟩, prog_7_method_43_code, 3, (some FieldType.int)),
  (⟨"PatienceTableModel", "begin", "()V"⟩, prog_7_method_44_code, 3, none),
  (⟨"PatienceTableModel", "sumOf", "(I)I"⟩, prog_7_method_45_code, 4, (some FieldType.int)),
  (⟨"PatienceTableModel", "regard", "(I)V"⟩, prog_7_method_46_code, 4, none),
  (⟨"PatienceTableModel", "mayLie", "(III)Z"⟩, prog_7_method_47_code, 6, (some FieldType.boolean)),
  (⟨"PatienceTableModel", "tried", "(III)I"⟩, prog_7_method_48_code, 7, (some FieldType.int)),
  (⟨"PatienceTableModel", "after", "(I)I"⟩, prog_7_method_49_code, 1, (some FieldType.int)),
  (⟨"PatienceTableModel", "spread", "(II)Z"⟩, prog_7_method_50_code, 6, (some FieldType.boolean)),
  (⟨"PatienceTableModel", "leads", "(IIII)Z"⟩, prog_7_method_51_code, 6, (some FieldType.boolean)),
  (⟨"PatienceTableModel", "isGood", "(II)Z"⟩, prog_7_method_52_code, 6, (some FieldType.boolean)),
  (⟨"PatienceTableModel", "onAt", "(I)I"⟩, prog_7_method_53_code, 2, (some FieldType.int)),
  (⟨"PatienceTableModel", "firstMove", "()I"⟩, prog_7_method_54_code, 5, (some FieldType.int)),
  (⟨"PatienceTableModel", "search", "(I)I"⟩, prog_7_method_55_code, 6, (some FieldType.int)),
  (⟨"PatienceTableModel", "look", "(I)I"⟩, prog_7_method_56_code, 3, (some FieldType.int)),
  (⟨"PatienceTableModel", "hint", "()I"⟩, prog_7_method_57_code, 1, (some FieldType.int)),
  (⟨"PatienceTableModel", "positions", "()I"⟩, prog_7_method_58_code, 1, (some FieldType.int)),
  (⟨"java/util/Arrays", "fill", "([II)V"⟩, prog_16_method_103_code, 4, none)]
def zp_th : List (Nat × Nat × Nat) := [(11, 11, 0), (13, 22, 0), (13, 43, 1), (14, 33, 0), (14, 66, 1), (15, 40, 0), (15, 114, 1), (16, 10, 1), (17, 10, 2), (22, 11, 0), (22, 31, 1)]
def zp_ca : List (Nat × Nat × Nat × Int32) := [(1, 2, 0, 1), (2, 5, 0, 1), (2, 5, 1, 2), (3, 7, 0, 1), (3, 7, 1, 2), (4, 5, 0, 1), (4, 5, 1, 2), (5, 3, 1, 1), (6, 3, 2, 1), (7, 4, 0, 1), (7, 4, 1, 2)]
def zp_code (k pc : Nat) : Option Jvm.ClassFile.Instr := (zp_ls.getD k []).getD pc none
def zp_pool (k x : Nat) : Option zi_T := ((zp_ps.getD k []).find? (fun q => q.1 == x)).map (fun q => q.2.1)
def zp_meth (k : Nat) : MethodName × ByteArray × Nat × Option FieldType := zp_ms.getD k (⟨"", "", ""⟩, ⟨#[]⟩, 0, none)
def zp_thr (k pc : Nat) : Option Nat := (zp_th.find? (fun q => q.1 == k && q.2.1 == pc)).map (fun q => q.2.2)
def zp_cat (k pc ex : Nat) : Option Int32 := (zp_ca.find? (fun q => q.1 == k && q.2.1 == pc && q.2.2.1 == ex)).map (fun q => q.2.2.2)
def zp : zi_P := (zp_code, zp_pool, zp_meth, zp_thr, zp_cat, zp_fty, zp_fs0)
end
section
/-! The program's tables fit the Statement's words: how that is decided. -/
def zp_good : Cond → Bool
  | .code .. => true
  | .codeWith .. => true
  | .static _ => true
  | .instanceMethod _ => true
  | .native _ => true
  | .initialized _ => true
  | .methodLink .. => true
  | .fieldLink .. => true
  | .classLink .. => true
  | .selects .. => true
  | .constant .. => true
  | .constantLong .. => true
  | .lays .. => true
  | .laysFinal .. => true
  | .instantiable .. => true
  | .arrayClass _ => true
  | _ => false
def zp_nest : Cond → Bool
  | .fieldLinkNest .. => true
  | .methodLinkNest .. => true
  | _ => false
theorem zp_good_ok {w : Cond} (h : zp_good w = true) : (w.onTables && w.keeps) = true ∨ ∃ ty, w = .arrayClass ty := by
  cases w <;> first | (exact Or.inr ⟨_, rfl⟩) | (exact Or.inl rfl) | (cases h)
theorem zp_nest_ok {w : Cond} (h : zp_nest w = true) : w.onTables = true ∧ ((∃ a i b n d h, w = .fieldLinkNest a i b n d h) ∨ ∃ a i x h, w = .methodLinkNest a i x h) := by
  cases w <;> first | (exact ⟨rfl, Or.inl ⟨_, _, _, _, _, _, rfl⟩⟩) | (exact ⟨rfl, Or.inr ⟨_, _, _, _, rfl⟩⟩) | (cases h)
def zp_TS : List Cond := lw_tbl.filter zp_good
def zp_NW : List Cond := lw_tbl.filter zp_nest
def zc_at (i : Nat) (w : Cond) : Bool := decide (lw_tbl[i]? = some w) && zp_good w
def zc_nt (i : Nat) (w : Cond) : Bool := decide (lw_tbl[i]? = some w) && zp_nest w
theorem zc_at_ok {i : Nat} {w : Cond} (h : zc_at i w = true) : w ∈ zp_TS := by
  unfold zc_at at h
  rw [Bool.and_eq_true, decide_eq_true_eq] at h
  exact List.mem_filter.mpr ⟨List.mem_of_getElem? h.1, h.2⟩
theorem zc_nt_ok {i : Nat} {w : Cond} (h : zc_nt i w = true) : w ∈ zp_NW := by
  unfold zc_nt at h
  rw [Bool.and_eq_true, decide_eq_true_eq] at h
  exact List.mem_filter.mpr ⟨List.mem_of_getElem? h.1, h.2⟩
def zc_cl (c : Nat) (q : vw_C) : Bool := (u_ws q.1 q.2.1 q.2.2).all (fun w => decide (w ∈ lw_tbl) && zp_good w) && decide (∀ j, j < q.2.2 → parseFieldDescriptor (q.2.1 j).2.2.1 = some (zi_fty zp c j)) && decide (∀ a, a < q.2.2 → ∀ b, b < q.2.2 → a ≠ b → (q.2.1 a).2.1 ≠ (q.2.1 b).2.1)
theorem zc_cl_ok {c : Nat} {q : vw_C} (hc : zp_cl[c]? = some q) (h : zc_cl c q = true) : zi_cls zp zp_cl zp_TS c q := by
  unfold zc_cl at h
  rw [Bool.and_eq_true, Bool.and_eq_true, decide_eq_true_eq, decide_eq_true_eq] at h
  refine ⟨hc, fun w hw => ?_, h.1.2, h.2⟩
  have h1 := List.all_eq_true.mp h.1.1 w hw
  rw [Bool.and_eq_true, decide_eq_true_eq] at h1
  exact List.mem_filter.mpr h1
theorem zc_c0 : zc_cl 0 ("PatienceTable", zp_T0, 6) = true := by decide +kernel
theorem zc_c1 : zc_cl 1 ("PatienceTable$Game", zp_T1, 6) = true := by decide +kernel
theorem zc_c2 : zc_cl 2 ("PatienceTable$Layout", zp_T2, 6) = true := by decide +kernel
theorem zc_c3 : zc_cl 3 ("PatienceTable$Log", zp_T3, 6) = true := by decide +kernel
theorem zc_c4 : zc_cl 4 ("PatienceTable$Search", zp_T4, 10) = true := by decide +kernel
theorem zc_c5 : zc_cl 5 ("PatienceTableModel", zp_T5, 29) = true := by decide +kernel
theorem zp_cls : ∀ (c : Nat) (q : vw_C), zp_cl[c]? = some q → zi_cls zp zp_cl zp_TS c q
  | 0, q, h => by cases h; exact zc_cl_ok rfl zc_c0
  | 1, q, h => by cases h; exact zc_cl_ok rfl zc_c1
  | 2, q, h => by cases h; exact zc_cl_ok rfl zc_c2
  | 3, q, h => by cases h; exact zc_cl_ok rfl zc_c3
  | 4, q, h => by cases h; exact zc_cl_ok rfl zc_c4
  | 5, q, h => by cases h; exact zc_cl_ok rfl zc_c5
  | n + 6, q, h => by cases h
def zc_fld (own : String) (x : Nat) (t : zi_T) (i : Nat) (fin : Bool) : Bool := match zp_cl[t.2.1]? with
  | some q => decide (t.2.2.1 < q.2.2) && decide ((q.2.1 t.2.2.1).2.2.2 = fin) && (zc_at i (.fieldLink own x (q.2.1 t.2.2.1).1 (q.2.1 t.2.2.1).2.1 (q.2.1 t.2.2.1).2.2.1) || zc_nt i (.fieldLinkNest own x (q.2.1 t.2.2.1).1 (q.2.1 t.2.2.1).2.1 (q.2.1 t.2.2.1).2.2.1 "PatienceTable"))
  | none => false
theorem zc_fld_ok {own : String} {x : Nat} {t : zi_T} {i : Nat} {fin : Bool} (h : zc_fld own x t i fin = true) : zi_fld zp zp_cl zp_TS zp_NW own x t.2.1 t.2.2.1 fin := by
  unfold zc_fld at h
  split at h
  · rename_i q hq
    rw [Bool.and_eq_true, Bool.and_eq_true, decide_eq_true_eq, decide_eq_true_eq, Bool.or_eq_true] at h
    exact ⟨q, zp_cls _ q hq, h.1.1, h.1.2, h.2.elim (fun h => Or.inl (zc_at_ok h)) (fun h => Or.inr ⟨_, zc_nt_ok h⟩)⟩
  · cases h
def zc_fin (k x : Nat) (t : zi_T) (i : Nat) : Bool := match zp_cl[t.2.1]? with
  | some q => decide ((zi_y zp k).name = "<init>") && decide (t.2.2.1 < q.2.2) && decide ((q.2.1 t.2.2.1).2.2.2 = true) && decide ((q.2.1 t.2.2.1).1 = (zi_y zp k).cls) && zc_at i (.fieldLink (zi_y zp k).cls x (q.2.1 t.2.2.1).1 (q.2.1 t.2.2.1).2.1 (q.2.1 t.2.2.1).2.2.1)
  | none => false
def zc_new (k x : Nat) (t : zi_T) (hs : List Nat) : Bool := match zp_cl[t.2.1]? with
  | some q => decide (t.2.2.1 = q.2.2) && zc_at (hs.getD 0 0) (.classLink (zi_y zp k).cls x q.1) && zc_at (hs.getD 1 0) (.instantiable q.1 q.2.2) && zc_at (hs.getD 2 0) (.initialized q.1) && decide (∀ j, j < q.2.2 → defaultValue (zi_fty zp t.2.1 j) = vp_V (zi_fs0 zp t.2.1) j) && (zi_fs0 zp t.2.1).all zi_noR
  | none => false
def zc_con (k x : Nat) (t : zi_T) (i : Nat) : Bool := match t.2.2.2 with
  | .int v => zc_at i (.constant (zi_y zp k).cls x v)
  | .long v => zc_at i (.constantLong (zi_y zp k).cls x v)
  | _ => false
def zc_pri (k x : Nat) (t : zi_T) (hs : List Nat) : Bool := match t.2.1 with
  | 0 => zc_at (hs.getD 0 0) (.methodLink (zi_y zp k).cls x Lib.objectInit) && zc_at (hs.getD 1 0) (.instanceMethod Lib.objectInit) && zc_at (hs.getD 2 0) (.code Lib.objectInit ⟨#[0xb1]⟩ 1 none)
  | 1 => zc_at (hs.getD 0 0) (.methodLink (zi_y zp k).cls x Lib.Math.min.name) && zc_at (hs.getD 1 0) (.static Lib.Math.min.name) && zc_at (hs.getD 2 0) (.initialized "java/lang/Math") && zc_at (hs.getD 3 0) (.code Lib.Math.min.name Lib.Math.min.code 2 (some .int))
  | 2 => zc_at (hs.getD 0 0) (.methodLink (zi_y zp k).cls x arraycopyName) && zc_at (hs.getD 1 0) (.native arraycopyName) && zc_at (hs.getD 2 0) (.static arraycopyName) && zc_at (hs.getD 3 0) (.initialized "java/lang/System")
  | _ => false
def zc_isW : Cond → MethodName → ByteArray → Nat → Option FieldType → Bool
  | .codeWith y b n r _, y', b', n', r' => decide (y = y') && decide (b = b') && decide (n = n') && decide (r = r')
  | _, _, _, _, _ => false
def zc_wth (i : Nat) (y : MethodName) (b : ByteArray) (n : Nat) (r : Option FieldType) : Bool := match lw_tbl[i]? with
  | some w => zc_isW w y b n r
  | none => false
theorem zc_wth_ok {i : Nat} {y : MethodName} {b : ByteArray} {n : Nat} {r : Option FieldType} (h : zc_wth i y b n r = true) : ∃ hh : List (Nat × Nat × Nat × Nat), Cond.codeWith y b n r hh ∈ zp_TS := by
  unfold zc_wth at h
  split at h
  · rename_i w hw
    unfold zc_isW at h
    split at h
    · simp only [Bool.and_eq_true, decide_eq_true_eq] at h
      obtain ⟨⟨⟨rfl, rfl⟩, rfl⟩, rfl⟩ := h
      exact ⟨_, List.mem_filter.mpr ⟨List.mem_of_getElem? hw, rfl⟩⟩
    · cases h
  · cases h
def zc_call (k x : Nat) (t : zi_T) (hs : List Nat) : Bool :=
  plainFor (zi_y zp t.2.1) && zc_at (hs.getD 1 0) (.initialized (zi_y zp t.2.1).cls) && (decide ((zi_y zp t.2.1).cls ≠ "java/lang/invoke/MethodHandle") && decide ((zi_y zp t.2.1).cls ≠ "java/lang/invoke/VarHandle") && decide ((parseMethodDescriptor (zi_y zp t.2.1).desc).map (fun d => d.parameters.length) = some t.2.2.1)) && decide (t.2.1 ≠ 0) &&
  (zc_at (hs.getD 0 0) (.methodLink (zi_y zp k).cls x (zi_y zp t.2.1)) || zc_nt (hs.getD 0 0) (.methodLinkNest (zi_y zp k).cls x (zi_y zp t.2.1) "PatienceTable"))
def zc_cod (t : zi_T) (hs : List Nat) : Bool := zc_at (hs.getD 2 0) (.code (zi_y zp t.2.1) (zi_b zp t.2.1) (zi_n zp t.2.1) (zi_r zp t.2.1))
def zc_vir (t : zi_T) (hs : List Nat) : Bool := zc_cod t hs && zc_at (hs.getD 3 0) (.instanceMethod (zi_y zp t.2.1)) && zc_at (hs.getD 4 0) (.selects (zi_y zp t.2.1).cls (zi_y zp t.2.1) (zi_y zp t.2.1)) && (match t.2.2.2 with
  | .ref ci => (match zp_cl[ci]? with
    | some q => decide (q.1 = (zi_y zp t.2.1).cls)
    | none => false)
  | _ => true)
def zc_spe (t : zi_T) (hs : List Nat) : Bool := zc_cod t hs && zc_at (hs.getD 3 0) (.instanceMethod (zi_y zp t.2.1)) && decide ((zi_y zp t.2.1).name = "<init>") && decide (zi_r zp t.2.1 = none)
def zc_sta (k x : Nat) (t : zi_T) (hs : List Nat) : Bool := zc_at (hs.getD 3 0) (.static (zi_y zp t.2.1)) && (zc_cod t hs || (Jvm.plainName (zi_y zp t.2.1).cls && zc_at (hs.getD 0 0) (.methodLink (zi_y zp k).cls x (zi_y zp t.2.1)) && zc_wth (hs.getD 2 0) (zi_y zp t.2.1) (zi_b zp t.2.1) (zi_n zp t.2.1) (zi_r zp t.2.1)))
def zc_ent (k : Nat) (e : Nat × zi_T × List Nat) : Bool :=
  (decide (e.2.1.1 ≠ 0) || zc_fld (zi_y zp k).cls e.1 e.2.1 (e.2.2.getD 0 0) false) && ((decide (e.2.1.1 ≠ 9) || zc_fld (zi_y zp k).cls e.1 e.2.1 (e.2.2.getD 0 0) true) && ((decide (e.2.1.1 ≠ 8) || zc_fin k e.1 e.2.1 (e.2.2.getD 0 0)) && ((decide (e.2.1.1 ≠ 4) || zc_new k e.1 e.2.1 e.2.2) &&
  ((decide (e.2.1.1 ≠ 5) || zc_at (e.2.2.getD 0 0) (.classLink (zi_y zp k).cls e.1 "PatienceTable$Layout")) && ((decide (e.2.1.1 ≠ 6) || zc_con k e.1 e.2.1 (e.2.2.getD 0 0)) && ((decide (e.2.1.1 ≠ 7) || zc_pri k e.1 e.2.1 e.2.2) && ((decide (e.2.1.1 ≠ 1) || (zc_call k e.1 e.2.1 e.2.2 && zc_vir e.2.1 e.2.2)) && ((decide (e.2.1.1 ≠ 2) || (zc_call k e.1 e.2.1 e.2.2 && zc_spe e.2.1 e.2.2)) && (decide (e.2.1.1 ≠ 3) || (zc_call k e.1 e.2.1 e.2.2 && zc_sta k e.1 e.2.1 e.2.2))))))))))
theorem zc_or {a : Prop} [Decidable a] {b : Bool} (h : (decide (¬ a) || b) = true) (ha : a) : b = true := by
  rw [Bool.or_eq_true, decide_eq_true_eq] at h
  exact h.resolve_left (fun q => q ha)
theorem zc_call_ok {k x : Nat} {t : zi_T} {hs : List Nat} (h : zc_call k x t hs = true) : plainFor (zi_y zp t.2.1) = true ∧ Cond.initialized (zi_y zp t.2.1).cls ∈ zp_TS ∧ ((zi_y zp t.2.1).cls ≠ "java/lang/invoke/MethodHandle" ∧ (zi_y zp t.2.1).cls ≠ "java/lang/invoke/VarHandle" ∧ (parseMethodDescriptor (zi_y zp t.2.1).desc).map (fun d => d.parameters.length) = some t.2.2.1) ∧ t.2.1 ≠ 0 ∧ (Cond.methodLink (zi_y zp k).cls x (zi_y zp t.2.1) ∈ zp_TS ∨ ∃ host : String, Cond.methodLinkNest (zi_y zp k).cls x (zi_y zp t.2.1) host ∈ zp_NW) := by
  unfold zc_call at h
  simp only [Bool.and_eq_true, Bool.or_eq_true, decide_eq_true_eq] at h
  obtain ⟨⟨⟨⟨h1, h2⟩, h3⟩, h4⟩, h5⟩ := h
  exact ⟨h1, zc_at_ok h2, ⟨h3.1.1, h3.1.2, h3.2⟩, h4, h5.elim (fun h => Or.inl (zc_at_ok h)) (fun h => Or.inr ⟨_, zc_nt_ok h⟩)⟩
theorem zc_ent_ok {k : Nat} {x : Nat} {t : zi_T} {hs : List Nat} (h : zc_ent k (x, t, hs) = true) : zi_tok zp zp_cl zp_TS zp_NW "PatienceTable$Layout" k x t ∧ zi_cok zp zp_cl zp_TS zp_NW 0 k x t := by
  unfold zc_ent at h
  simp only [Bool.and_eq_true] at h
  obtain ⟨e0, e9, e8, e4, e5, e6, e7, e1, e2, e3⟩ := h
  refine ⟨⟨fun q => zc_fld_ok (zc_or e0 q), fun q => zc_fld_ok (zc_or e9 q), fun q => ?_, fun q => ?_, fun q => zc_at_ok (zc_or e5 q), fun q => ?_, fun q q2 => ?_, fun q q2 => ?_, fun q q2 => ?_⟩, fun q => ?_, fun q => ?_, fun q => ?_, fun q => ?_⟩
  · have h := zc_or e8 q
    unfold zc_fin at h
    split at h
    · rename_i c hq
      simp only [Bool.and_eq_true, decide_eq_true_eq] at h
      exact ⟨h.1.1.1.1, c, zp_cls _ c hq, h.1.1.1.2, h.1.1.2, h.1.2, zc_at_ok h.2⟩
    · cases h
  · have h := zc_or e4 q
    unfold zc_new at h
    split at h
    · rename_i c hq
      simp only [Bool.and_eq_true, decide_eq_true_eq] at h
      exact ⟨c, zp_cls _ c hq, h.1.1.1.1.1, zc_at_ok h.1.1.1.1.2, zc_at_ok h.1.1.1.2, zc_at_ok h.1.1.2, h.1.2, h.2⟩
    · cases h
  · have h := zc_or e6 q
    unfold zc_con at h
    split at h
    · rename_i v hv
      exact ⟨fun v' q2 => (by rw [hv] at q2; cases q2; exact zc_at_ok h), fun v' q2 => (by rw [hv] at q2; cases q2)⟩
    · rename_i v hv
      exact ⟨fun v' q2 => (by rw [hv] at q2; cases q2), fun v' q2 => (by rw [hv] at q2; cases q2; exact zc_at_ok h)⟩
    · cases h
  · have h := zc_or e7 q
    unfold zc_pri at h
    rw [q2] at h
    simp only [Bool.and_eq_true] at h
    exact ⟨zc_at_ok h.1.1, zc_at_ok h.1.2, zc_at_ok h.2⟩
  · have h := zc_or e7 q
    unfold zc_pri at h
    rw [q2] at h
    simp only [Bool.and_eq_true] at h
    exact ⟨zc_at_ok h.1.1.1, zc_at_ok h.1.1.2, zc_at_ok h.1.2, zc_at_ok h.2⟩
  · have h := zc_or e7 q
    unfold zc_pri at h
    rw [q2] at h
    simp only [Bool.and_eq_true] at h
    exact ⟨zc_at_ok h.1.1.1, zc_at_ok h.1.1.2, zc_at_ok h.1.2, zc_at_ok h.2⟩
  · rcases q with q | q | q
    · have h := zc_or e1 q
      rw [Bool.and_eq_true] at h
      exact zc_call_ok h.1
    · have h := zc_or e2 q
      rw [Bool.and_eq_true] at h
      exact zc_call_ok h.1
    · have h := zc_or e3 q
      rw [Bool.and_eq_true] at h
      exact zc_call_ok h.1
  · have h := zc_or e1 q
    rw [Bool.and_eq_true] at h
    have h := h.2
    unfold zc_vir zc_cod at h
    simp only [Bool.and_eq_true] at h
    refine ⟨zc_at_ok h.1.1.1, zc_at_ok h.1.1.2, zc_at_ok h.1.2, fun ci hci => ?_⟩
    have h2 := h.2
    rw [hci] at h2
    dsimp only at h2
    split at h2
    · rename_i c hq
      exact ⟨c, hq, of_decide_eq_true h2⟩
    · cases h2
  · have h := zc_or e2 q
    rw [Bool.and_eq_true] at h
    have h := h.2
    unfold zc_spe zc_cod at h
    simp only [Bool.and_eq_true, decide_eq_true_eq] at h
    exact ⟨zc_at_ok h.1.1.1, zc_at_ok h.1.1.2, h.1.2, h.2⟩
  · have h := zc_or e3 q
    rw [Bool.and_eq_true] at h
    have h := h.2
    unfold zc_sta zc_cod at h
    simp only [Bool.and_eq_true, Bool.or_eq_true] at h
    exact ⟨zc_at_ok h.1, h.2.elim (fun h => Or.inl (zc_at_ok h)) (fun h => Or.inr ⟨h.1.1, zc_at_ok h.1.2, zc_wth_ok h.2⟩)⟩
def zc_code (b : ByteArray) (l : List (Option Jvm.ClassFile.Instr)) (lo n : Nat) : Bool := (List.range n).all (fun j => match l.getD (lo + j) none with
  | none => true
  | some i => match decode b (lo + j) with
    | .ok (i', len) => decide (i' = i) && (decide (zi_len i = 0) || decide (len = zi_len i))
    | .error _ => false)
theorem zc_code_ok {b : ByteArray} {l : List (Option Jvm.ClassFile.Instr)} {lo n pc : Nat} {i : Jvm.ClassFile.Instr} (h : zc_code b l lo n = true) (h1 : lo ≤ pc) (h2 : pc < lo + n) (hi : l.getD pc none = some i) : ∃ len, decode b pc = .ok (i, len) ∧ (zi_len i = 0 ∨ len = zi_len i) := by
  have h := List.all_eq_true.mp h (pc - lo) (List.mem_range.mpr (by omega))
  rw [show lo + (pc - lo) = pc by omega, hi] at h
  dsimp only at h
  split at h
  · rename_i i' len hd
    simp only [Bool.and_eq_true, Bool.or_eq_true, decide_eq_true_eq] at h
    obtain ⟨rfl, h⟩ := h
    exact ⟨len, hd, h⟩
  · cases h
end
section
/-! The code as decoded, method by method. By program (gen.py). -/
theorem zd_0_0 : zc_code (zi_b zp 0) (zp_ls.getD 0 []) 0 96 = true := by decide +kernel
theorem zd_0_1 : zc_code (zi_b zp 0) (zp_ls.getD 0 []) 96 96 = true := by decide +kernel
theorem zd_0_2 : zc_code (zi_b zp 0) (zp_ls.getD 0 []) 192 96 = true := by decide +kernel
theorem zd_0_3 : zc_code (zi_b zp 0) (zp_ls.getD 0 []) 288 96 = true := by decide +kernel
theorem zd_0_4 : zc_code (zi_b zp 0) (zp_ls.getD 0 []) 384 96 = true := by decide +kernel
theorem zd_0_5 : zc_code (zi_b zp 0) (zp_ls.getD 0 []) 480 96 = true := by decide +kernel
theorem zd_0_6 : zc_code (zi_b zp 0) (zp_ls.getD 0 []) 576 96 = true := by decide +kernel
theorem zd_0_7 : zc_code (zi_b zp 0) (zp_ls.getD 0 []) 672 96 = true := by decide +kernel
theorem zd_0_8 : zc_code (zi_b zp 0) (zp_ls.getD 0 []) 768 3 = true := by decide +kernel
theorem zd_1 : zc_code (zi_b zp 1) (zp_ls.getD 1 []) 0 13 = true := by decide +kernel
theorem zd_2 : zc_code (zi_b zp 2) (zp_ls.getD 2 []) 0 23 = true := by decide +kernel
theorem zd_3 : zc_code (zi_b zp 3) (zp_ls.getD 3 []) 0 25 = true := by decide +kernel
theorem zd_4 : zc_code (zi_b zp 4) (zp_ls.getD 4 []) 0 23 = true := by decide +kernel
theorem zd_5 : zc_code (zi_b zp 5) (zp_ls.getD 5 []) 0 16 = true := by decide +kernel
theorem zd_6 : zc_code (zi_b zp 6) (zp_ls.getD 6 []) 0 16 = true := by decide +kernel
theorem zd_7 : zc_code (zi_b zp 7) (zp_ls.getD 7 []) 0 20 = true := by decide +kernel
theorem zd_8 : zc_code (zi_b zp 8) (zp_ls.getD 8 []) 0 70 = true := by decide +kernel
theorem zd_9 : zc_code (zi_b zp 9) (zp_ls.getD 9 []) 0 91 = true := by decide +kernel
theorem zd_10 : zc_code (zi_b zp 10) (zp_ls.getD 10 []) 0 43 = true := by decide +kernel
theorem zd_11 : zc_code (zi_b zp 11) (zp_ls.getD 11 []) 0 137 = true := by decide +kernel
theorem zd_12 : zc_code (zi_b zp 12) (zp_ls.getD 12 []) 0 20 = true := by decide +kernel
theorem zd_13 : zc_code (zi_b zp 13) (zp_ls.getD 13 []) 0 75 = true := by decide +kernel
theorem zd_14 : zc_code (zi_b zp 14) (zp_ls.getD 14 []) 0 91 = true := by decide +kernel
theorem zd_15 : zc_code (zi_b zp 15) (zp_ls.getD 15 []) 0 136 = true := by decide +kernel
theorem zd_16 : zc_code (zi_b zp 16) (zp_ls.getD 16 []) 0 60 = true := by decide +kernel
theorem zd_17 : zc_code (zi_b zp 17) (zp_ls.getD 17 []) 0 77 = true := by decide +kernel
theorem zd_18 : zc_code (zi_b zp 18) (zp_ls.getD 18 []) 0 8 = true := by decide +kernel
theorem zd_19 : zc_code (zi_b zp 19) (zp_ls.getD 19 []) 0 55 = true := by decide +kernel
theorem zd_20 : zc_code (zi_b zp 20) (zp_ls.getD 20 []) 0 24 = true := by decide +kernel
theorem zd_21 : zc_code (zi_b zp 21) (zp_ls.getD 21 []) 0 44 = true := by decide +kernel
theorem zd_22 : zc_code (zi_b zp 22) (zp_ls.getD 22 []) 0 67 = true := by decide +kernel
theorem zd_23 : zc_code (zi_b zp 23) (zp_ls.getD 23 []) 0 5 = true := by decide +kernel
theorem zd_24 : zc_code (zi_b zp 24) (zp_ls.getD 24 []) 0 8 = true := by decide +kernel
theorem zd_25 : zc_code (zi_b zp 25) (zp_ls.getD 25 []) 0 16 = true := by decide +kernel
theorem zd_26 : zc_code (zi_b zp 26) (zp_ls.getD 26 []) 0 50 = true := by decide +kernel
theorem zd_27 : zc_code (zi_b zp 27) (zp_ls.getD 27 []) 0 42 = true := by decide +kernel
theorem zd_28 : zc_code (zi_b zp 28) (zp_ls.getD 28 []) 0 37 = true := by decide +kernel
theorem zd_29 : zc_code (zi_b zp 29) (zp_ls.getD 29 []) 0 18 = true := by decide +kernel
theorem zd_30 : zc_code (zi_b zp 30) (zp_ls.getD 30 []) 0 23 = true := by decide +kernel
theorem zd_31 : zc_code (zi_b zp 31) (zp_ls.getD 31 []) 0 28 = true := by decide +kernel
theorem zd_32 : zc_code (zi_b zp 32) (zp_ls.getD 32 []) 0 10 = true := by decide +kernel
theorem zd_33 : zc_code (zi_b zp 33) (zp_ls.getD 33 []) 0 18 = true := by decide +kernel
theorem zd_34 : zc_code (zi_b zp 34) (zp_ls.getD 34 []) 0 9 = true := by decide +kernel
theorem zd_35 : zc_code (zi_b zp 35) (zp_ls.getD 35 []) 0 7 = true := by decide +kernel
theorem zd_36 : zc_code (zi_b zp 36) (zp_ls.getD 36 []) 0 16 = true := by decide +kernel
theorem zd_37 : zc_code (zi_b zp 37) (zp_ls.getD 37 []) 0 78 = true := by decide +kernel
theorem zd_38 : zc_code (zi_b zp 38) (zp_ls.getD 38 []) 0 33 = true := by decide +kernel
theorem zd_39 : zc_code (zi_b zp 39) (zp_ls.getD 39 []) 0 37 = true := by decide +kernel
theorem zd_40 : zc_code (zi_b zp 40) (zp_ls.getD 40 []) 0 36 = true := by decide +kernel
theorem zd_41 : zc_code (zi_b zp 41) (zp_ls.getD 41 []) 0 61 = true := by decide +kernel
theorem zd_42 : zc_code (zi_b zp 42) (zp_ls.getD 42 []) 0 17 = true := by decide +kernel
theorem zd_43 : zc_code (zi_b zp 43) (zp_ls.getD 43 []) 0 20 = true := by decide +kernel
theorem zd_44 : zc_code (zi_b zp 44) (zp_ls.getD 44 []) 0 20 = true := by decide +kernel
theorem zd_45 : zc_code (zi_b zp 45) (zp_ls.getD 45 []) 0 30 = true := by decide +kernel
theorem zd_46 : zc_code (zi_b zp 46) (zp_ls.getD 46 []) 0 45 = true := by decide +kernel
theorem zd_47 : zc_code (zi_b zp 47) (zp_ls.getD 47 []) 0 49 = true := by decide +kernel
theorem zd_48 : zc_code (zi_b zp 48) (zp_ls.getD 48 []) 0 41 = true := by decide +kernel
theorem zd_49 : zc_code (zi_b zp 49) (zp_ls.getD 49 []) 0 35 = true := by decide +kernel
theorem zd_50 : zc_code (zi_b zp 50) (zp_ls.getD 50 []) 0 95 = true := by decide +kernel
theorem zd_51 : zc_code (zi_b zp 51) (zp_ls.getD 51 []) 0 67 = true := by decide +kernel
theorem zd_52 : zc_code (zi_b zp 52) (zp_ls.getD 52 []) 0 36 = true := by decide +kernel
theorem zd_53 : zc_code (zi_b zp 53) (zp_ls.getD 53 []) 0 63 = true := by decide +kernel
theorem zd_54 : zc_code (zi_b zp 54) (zp_ls.getD 54 []) 0 67 = true := by decide +kernel
theorem zd_55 : zc_code (zi_b zp 55) (zp_ls.getD 55 []) 0 35 = true := by decide +kernel
theorem zd_56 : zc_code (zi_b zp 56) (zp_ls.getD 56 []) 0 30 = true := by decide +kernel
theorem zd_57 : zc_code (zi_b zp 57) (zp_ls.getD 57 []) 0 32 = true := by decide +kernel
theorem zd_58 : zc_code (zi_b zp 58) (zp_ls.getD 58 []) 0 51 = true := by decide +kernel
theorem zd_59 : zc_code (zi_b zp 59) (zp_ls.getD 59 []) 0 34 = true := by decide +kernel
theorem zd_60 : zc_code (zi_b zp 60) (zp_ls.getD 60 []) 0 116 = true := by decide +kernel
theorem zd_61 : zc_code (zi_b zp 61) (zp_ls.getD 61 []) 0 27 = true := by decide +kernel
theorem zd_62 : zc_code (zi_b zp 62) (zp_ls.getD 62 []) 0 136 = true := by decide +kernel
theorem zd_63 : zc_code (zi_b zp 63) (zp_ls.getD 63 []) 0 47 = true := by decide +kernel
theorem zd_64 : zc_code (zi_b zp 64) (zp_ls.getD 64 []) 0 11 = true := by decide +kernel
theorem zd_65 : zc_code (zi_b zp 65) (zp_ls.getD 65 []) 0 82 = true := by decide +kernel
theorem zd_66 : zc_code (zi_b zp 66) (zp_ls.getD 66 []) 0 37 = true := by decide +kernel
theorem zd_67 : zc_code (zi_b zp 67) (zp_ls.getD 67 []) 0 101 = true := by decide +kernel
theorem zd_68 : zc_code (zi_b zp 68) (zp_ls.getD 68 []) 0 117 = true := by decide +kernel
theorem zd_69 : zc_code (zi_b zp 69) (zp_ls.getD 69 []) 0 71 = true := by decide +kernel
theorem zd_70 : zc_code (zi_b zp 70) (zp_ls.getD 70 []) 0 56 = true := by decide +kernel
theorem zd_71_0 : zc_code (zi_b zp 71) (zp_ls.getD 71 []) 0 96 = true := by decide +kernel
theorem zd_71_1 : zc_code (zi_b zp 71) (zp_ls.getD 71 []) 96 96 = true := by decide +kernel
theorem zd_71_2 : zc_code (zi_b zp 71) (zp_ls.getD 71 []) 192 38 = true := by decide +kernel
theorem zd_72 : zc_code (zi_b zp 72) (zp_ls.getD 72 []) 0 90 = true := by decide +kernel
theorem zd_73 : zc_code (zi_b zp 73) (zp_ls.getD 73 []) 0 61 = true := by decide +kernel
theorem zd_74 : zc_code (zi_b zp 74) (zp_ls.getD 74 []) 0 42 = true := by decide +kernel
theorem zd_75 : zc_code (zi_b zp 75) (zp_ls.getD 75 []) 0 30 = true := by decide +kernel
theorem zd_76 : zc_code (zi_b zp 76) (zp_ls.getD 76 []) 0 143 = true := by decide +kernel
theorem zd_77 : zc_code (zi_b zp 77) (zp_ls.getD 77 []) 0 5 = true := by decide +kernel
theorem zd_78 : zc_code (zi_b zp 78) (zp_ls.getD 78 []) 0 7 = true := by decide +kernel
theorem zd_79 : zc_code (zi_b zp 79) (zp_ls.getD 79 []) 0 16 = true := by decide +kernel
theorem zd_80 : zc_code (zi_b zp 80) (zp_ls.getD 80 []) 0 10 = true := by decide +kernel
theorem zd_81 : zc_code (zi_b zp 81) (zp_ls.getD 81 []) 0 7 = true := by decide +kernel
theorem zd_82 : zc_code (zi_b zp 82) (zp_ls.getD 82 []) 0 9 = true := by decide +kernel
theorem zd_83 : zc_code (zi_b zp 83) (zp_ls.getD 83 []) 0 15 = true := by decide +kernel
theorem zd_84 : zc_code (zi_b zp 84) (zp_ls.getD 84 []) 0 74 = true := by decide +kernel
theorem zd_85 : zc_code (zi_b zp 85) (zp_ls.getD 85 []) 0 33 = true := by decide +kernel
theorem zd_86 : zc_code (zi_b zp 86) (zp_ls.getD 86 []) 0 80 = true := by decide +kernel
theorem zd_87 : zc_code (zi_b zp 87) (zp_ls.getD 87 []) 0 72 = true := by decide +kernel
theorem zd_88 : zc_code (zi_b zp 88) (zp_ls.getD 88 []) 0 42 = true := by decide +kernel
theorem zd_89 : zc_code (zi_b zp 89) (zp_ls.getD 89 []) 0 10 = true := by decide +kernel
theorem zd_90 : zc_code (zi_b zp 90) (zp_ls.getD 90 []) 0 28 = true := by decide +kernel
theorem zd_91 : zc_code (zi_b zp 91) (zp_ls.getD 91 []) 0 140 = true := by decide +kernel
theorem zd_92 : zc_code (zi_b zp 92) (zp_ls.getD 92 []) 0 35 = true := by decide +kernel
theorem zd_93 : zc_code (zi_b zp 93) (zp_ls.getD 93 []) 0 77 = true := by decide +kernel
theorem zd_94 : zc_code (zi_b zp 94) (zp_ls.getD 94 []) 0 12 = true := by decide +kernel
theorem zd_95 : zc_code (zi_b zp 95) (zp_ls.getD 95 []) 0 14 = true := by decide +kernel
theorem zd_96 : zc_code (zi_b zp 96) (zp_ls.getD 96 []) 0 28 = true := by decide +kernel
theorem zd_97 : zc_code (zi_b zp 97) (zp_ls.getD 97 []) 0 35 = true := by decide +kernel
theorem zd_98 : zc_code (zi_b zp 98) (zp_ls.getD 98 []) 0 27 = true := by decide +kernel
theorem zd_99 : zc_code (zi_b zp 99) (zp_ls.getD 99 []) 0 29 = true := by decide +kernel
theorem zd_100 : zc_code (zi_b zp 100) (zp_ls.getD 100 []) 0 90 = true := by decide +kernel
theorem zd_101 : zc_code (zi_b zp 101) (zp_ls.getD 101 []) 0 82 = true := by decide +kernel
theorem zd_102 : zc_code (zi_b zp 102) (zp_ls.getD 102 []) 0 110 = true := by decide +kernel
theorem zd_103 : zc_code (zi_b zp 103) (zp_ls.getD 103 []) 0 56 = true := by decide +kernel
theorem zd_104 : zc_code (zi_b zp 104) (zp_ls.getD 104 []) 0 51 = true := by decide +kernel
theorem zd_105 : zc_code (zi_b zp 105) (zp_ls.getD 105 []) 0 61 = true := by decide +kernel
theorem zd_106 : zc_code (zi_b zp 106) (zp_ls.getD 106 []) 0 139 = true := by decide +kernel
theorem zd_107 : zc_code (zi_b zp 107) (zp_ls.getD 107 []) 0 93 = true := by decide +kernel
theorem zd_108 : zc_code (zi_b zp 108) (zp_ls.getD 108 []) 0 72 = true := by decide +kernel
theorem zd_109 : zc_code (zi_b zp 109) (zp_ls.getD 109 []) 0 42 = true := by decide +kernel
theorem zd_110 : zc_code (zi_b zp 110) (zp_ls.getD 110 []) 0 117 = true := by decide +kernel
theorem zd_111 : zc_code (zi_b zp 111) (zp_ls.getD 111 []) 0 97 = true := by decide +kernel
theorem zd_112 : zc_code (zi_b zp 112) (zp_ls.getD 112 []) 0 72 = true := by decide +kernel
theorem zd_113 : zc_code (zi_b zp 113) (zp_ls.getD 113 []) 0 54 = true := by decide +kernel
theorem zd_114 : zc_code (zi_b zp 114) (zp_ls.getD 114 []) 0 91 = true := by decide +kernel
theorem zd_115 : zc_code (zi_b zp 115) (zp_ls.getD 115 []) 0 10 = true := by decide +kernel
theorem zd_116 : zc_code (zi_b zp 116) (zp_ls.getD 116 []) 0 118 = true := by decide +kernel
theorem zd_117 : zc_code (zi_b zp 117) (zp_ls.getD 117 []) 0 63 = true := by decide +kernel
theorem zd_118 : zc_code (zi_b zp 118) (zp_ls.getD 118 []) 0 43 = true := by decide +kernel
theorem zd_119 : zc_code (zi_b zp 119) (zp_ls.getD 119 []) 0 145 = true := by decide +kernel
theorem zd_120 : zc_code (zi_b zp 120) (zp_ls.getD 120 []) 0 35 = true := by decide +kernel
theorem zd_121_0 : zc_code (zi_b zp 121) (zp_ls.getD 121 []) 0 96 = true := by decide +kernel
theorem zd_121_1 : zc_code (zi_b zp 121) (zp_ls.getD 121 []) 96 65 = true := by decide +kernel
theorem zd_122_0 : zc_code (zi_b zp 122) (zp_ls.getD 122 []) 0 96 = true := by decide +kernel
theorem zd_122_1 : zc_code (zi_b zp 122) (zp_ls.getD 122 []) 96 71 = true := by decide +kernel
theorem zd_123_0 : zc_code (zi_b zp 123) (zp_ls.getD 123 []) 0 96 = true := by decide +kernel
theorem zd_123_1 : zc_code (zi_b zp 123) (zp_ls.getD 123 []) 96 96 = true := by decide +kernel
theorem zd_123_2 : zc_code (zi_b zp 123) (zp_ls.getD 123 []) 192 41 = true := by decide +kernel
theorem zd_124 : zc_code (zi_b zp 124) (zp_ls.getD 124 []) 0 14 = true := by decide +kernel
theorem zd_125 : zc_code (zi_b zp 125) (zp_ls.getD 125 []) 0 156 = true := by decide +kernel
theorem zd_126 : zc_code (zi_b zp 126) (zp_ls.getD 126 []) 0 78 = true := by decide +kernel
theorem zd_127 : zc_code (zi_b zp 127) (zp_ls.getD 127 []) 0 71 = true := by decide +kernel
theorem zd_128 : zc_code (zi_b zp 128) (zp_ls.getD 128 []) 0 45 = true := by decide +kernel
theorem zd_129_0 : zc_code (zi_b zp 129) (zp_ls.getD 129 []) 0 96 = true := by decide +kernel
theorem zd_129_1 : zc_code (zi_b zp 129) (zp_ls.getD 129 []) 96 70 = true := by decide +kernel
theorem zd_130_0 : zc_code (zi_b zp 130) (zp_ls.getD 130 []) 0 96 = true := by decide +kernel
theorem zd_130_1 : zc_code (zi_b zp 130) (zp_ls.getD 130 []) 96 87 = true := by decide +kernel
theorem zd_131 : zc_code (zi_b zp 131) (zp_ls.getD 131 []) 0 63 = true := by decide +kernel
theorem zd_132 : zc_code (zi_b zp 132) (zp_ls.getD 132 []) 0 10 = true := by decide +kernel
theorem zd_133 : zc_code (zi_b zp 133) (zp_ls.getD 133 []) 0 10 = true := by decide +kernel
theorem zd_134 : zc_code (zi_b zp 134) (zp_ls.getD 134 []) 0 21 = true := by decide +kernel
end
section
/-! The pools as the tables have them, method by method; the program is fit. By program (gen.py). -/
theorem zp_lt {l : List (Option Jvm.ClassFile.Instr)} {pc n : Nat} {i : Jvm.ClassFile.Instr} (h : l.getD pc none = some i) (hn : l.length ≤ n) : pc < n := by
  refine Nat.lt_of_lt_of_le (Nat.not_le.mp fun q => ?_) hn
  rw [List.getD_eq_getElem?_getD, List.getElem?_eq_none q] at h
  cases h
theorem ze_0 : (zp_ps.getD 0 []).all (zc_ent 0) = true := by decide +kernel
theorem ze_1 : (zp_ps.getD 1 []).all (zc_ent 1) = true := by decide +kernel
theorem ze_2 : (zp_ps.getD 2 []).all (zc_ent 2) = true := by decide +kernel
theorem ze_3 : (zp_ps.getD 3 []).all (zc_ent 3) = true := by decide +kernel
theorem ze_4 : (zp_ps.getD 4 []).all (zc_ent 4) = true := by decide +kernel
theorem ze_5 : (zp_ps.getD 5 []).all (zc_ent 5) = true := by decide +kernel
theorem ze_6 : (zp_ps.getD 6 []).all (zc_ent 6) = true := by decide +kernel
theorem ze_7 : (zp_ps.getD 7 []).all (zc_ent 7) = true := by decide +kernel
theorem ze_8 : (zp_ps.getD 8 []).all (zc_ent 8) = true := by decide +kernel
theorem ze_9 : (zp_ps.getD 9 []).all (zc_ent 9) = true := by decide +kernel
theorem ze_10 : (zp_ps.getD 10 []).all (zc_ent 10) = true := by decide +kernel
theorem ze_11 : (zp_ps.getD 11 []).all (zc_ent 11) = true := by decide +kernel
theorem ze_12 : (zp_ps.getD 12 []).all (zc_ent 12) = true := by decide +kernel
theorem ze_13 : (zp_ps.getD 13 []).all (zc_ent 13) = true := by decide +kernel
theorem ze_14 : (zp_ps.getD 14 []).all (zc_ent 14) = true := by decide +kernel
theorem ze_15 : (zp_ps.getD 15 []).all (zc_ent 15) = true := by decide +kernel
theorem ze_16 : (zp_ps.getD 16 []).all (zc_ent 16) = true := by decide +kernel
theorem ze_17 : (zp_ps.getD 17 []).all (zc_ent 17) = true := by decide +kernel
theorem ze_18 : (zp_ps.getD 18 []).all (zc_ent 18) = true := by decide +kernel
theorem ze_19 : (zp_ps.getD 19 []).all (zc_ent 19) = true := by decide +kernel
theorem ze_20 : (zp_ps.getD 20 []).all (zc_ent 20) = true := by decide +kernel
theorem ze_21 : (zp_ps.getD 21 []).all (zc_ent 21) = true := by decide +kernel
theorem ze_22 : (zp_ps.getD 22 []).all (zc_ent 22) = true := by decide +kernel
theorem ze_23 : (zp_ps.getD 23 []).all (zc_ent 23) = true := by decide +kernel
theorem ze_24 : (zp_ps.getD 24 []).all (zc_ent 24) = true := by decide +kernel
theorem ze_25 : (zp_ps.getD 25 []).all (zc_ent 25) = true := by decide +kernel
theorem ze_26 : (zp_ps.getD 26 []).all (zc_ent 26) = true := by decide +kernel
theorem ze_27 : (zp_ps.getD 27 []).all (zc_ent 27) = true := by decide +kernel
theorem ze_28 : (zp_ps.getD 28 []).all (zc_ent 28) = true := by decide +kernel
theorem ze_29 : (zp_ps.getD 29 []).all (zc_ent 29) = true := by decide +kernel
theorem ze_30 : (zp_ps.getD 30 []).all (zc_ent 30) = true := by decide +kernel
theorem ze_31 : (zp_ps.getD 31 []).all (zc_ent 31) = true := by decide +kernel
theorem ze_32 : (zp_ps.getD 32 []).all (zc_ent 32) = true := by decide +kernel
theorem ze_33 : (zp_ps.getD 33 []).all (zc_ent 33) = true := by decide +kernel
theorem ze_34 : (zp_ps.getD 34 []).all (zc_ent 34) = true := by decide +kernel
theorem ze_35 : (zp_ps.getD 35 []).all (zc_ent 35) = true := by decide +kernel
theorem ze_36 : (zp_ps.getD 36 []).all (zc_ent 36) = true := by decide +kernel
theorem ze_37 : (zp_ps.getD 37 []).all (zc_ent 37) = true := by decide +kernel
theorem ze_38 : (zp_ps.getD 38 []).all (zc_ent 38) = true := by decide +kernel
theorem ze_39 : (zp_ps.getD 39 []).all (zc_ent 39) = true := by decide +kernel
theorem ze_40 : (zp_ps.getD 40 []).all (zc_ent 40) = true := by decide +kernel
theorem ze_41 : (zp_ps.getD 41 []).all (zc_ent 41) = true := by decide +kernel
theorem ze_42 : (zp_ps.getD 42 []).all (zc_ent 42) = true := by decide +kernel
theorem ze_43 : (zp_ps.getD 43 []).all (zc_ent 43) = true := by decide +kernel
theorem ze_44 : (zp_ps.getD 44 []).all (zc_ent 44) = true := by decide +kernel
theorem ze_45 : (zp_ps.getD 45 []).all (zc_ent 45) = true := by decide +kernel
theorem ze_46 : (zp_ps.getD 46 []).all (zc_ent 46) = true := by decide +kernel
theorem ze_47 : (zp_ps.getD 47 []).all (zc_ent 47) = true := by decide +kernel
theorem ze_48 : (zp_ps.getD 48 []).all (zc_ent 48) = true := by decide +kernel
theorem ze_49 : (zp_ps.getD 49 []).all (zc_ent 49) = true := by decide +kernel
theorem ze_50 : (zp_ps.getD 50 []).all (zc_ent 50) = true := by decide +kernel
theorem ze_51 : (zp_ps.getD 51 []).all (zc_ent 51) = true := by decide +kernel
theorem ze_52 : (zp_ps.getD 52 []).all (zc_ent 52) = true := by decide +kernel
theorem ze_53 : (zp_ps.getD 53 []).all (zc_ent 53) = true := by decide +kernel
theorem ze_54 : (zp_ps.getD 54 []).all (zc_ent 54) = true := by decide +kernel
theorem ze_55 : (zp_ps.getD 55 []).all (zc_ent 55) = true := by decide +kernel
theorem ze_56 : (zp_ps.getD 56 []).all (zc_ent 56) = true := by decide +kernel
theorem ze_57 : (zp_ps.getD 57 []).all (zc_ent 57) = true := by decide +kernel
theorem ze_58 : (zp_ps.getD 58 []).all (zc_ent 58) = true := by decide +kernel
theorem ze_59 : (zp_ps.getD 59 []).all (zc_ent 59) = true := by decide +kernel
theorem ze_60 : (zp_ps.getD 60 []).all (zc_ent 60) = true := by decide +kernel
theorem ze_61 : (zp_ps.getD 61 []).all (zc_ent 61) = true := by decide +kernel
theorem ze_62 : (zp_ps.getD 62 []).all (zc_ent 62) = true := by decide +kernel
theorem ze_63 : (zp_ps.getD 63 []).all (zc_ent 63) = true := by decide +kernel
theorem ze_64 : (zp_ps.getD 64 []).all (zc_ent 64) = true := by decide +kernel
theorem ze_65 : (zp_ps.getD 65 []).all (zc_ent 65) = true := by decide +kernel
theorem ze_66 : (zp_ps.getD 66 []).all (zc_ent 66) = true := by decide +kernel
theorem ze_67 : (zp_ps.getD 67 []).all (zc_ent 67) = true := by decide +kernel
theorem ze_68 : (zp_ps.getD 68 []).all (zc_ent 68) = true := by decide +kernel
theorem ze_69 : (zp_ps.getD 69 []).all (zc_ent 69) = true := by decide +kernel
theorem ze_70 : (zp_ps.getD 70 []).all (zc_ent 70) = true := by decide +kernel
theorem ze_71 : (zp_ps.getD 71 []).all (zc_ent 71) = true := by decide +kernel
theorem ze_72 : (zp_ps.getD 72 []).all (zc_ent 72) = true := by decide +kernel
theorem ze_73 : (zp_ps.getD 73 []).all (zc_ent 73) = true := by decide +kernel
theorem ze_74 : (zp_ps.getD 74 []).all (zc_ent 74) = true := by decide +kernel
theorem ze_75 : (zp_ps.getD 75 []).all (zc_ent 75) = true := by decide +kernel
theorem ze_76 : (zp_ps.getD 76 []).all (zc_ent 76) = true := by decide +kernel
theorem ze_77 : (zp_ps.getD 77 []).all (zc_ent 77) = true := by decide +kernel
theorem ze_78 : (zp_ps.getD 78 []).all (zc_ent 78) = true := by decide +kernel
theorem ze_79 : (zp_ps.getD 79 []).all (zc_ent 79) = true := by decide +kernel
theorem ze_80 : (zp_ps.getD 80 []).all (zc_ent 80) = true := by decide +kernel
theorem ze_81 : (zp_ps.getD 81 []).all (zc_ent 81) = true := by decide +kernel
theorem ze_82 : (zp_ps.getD 82 []).all (zc_ent 82) = true := by decide +kernel
theorem ze_83 : (zp_ps.getD 83 []).all (zc_ent 83) = true := by decide +kernel
theorem ze_84 : (zp_ps.getD 84 []).all (zc_ent 84) = true := by decide +kernel
theorem ze_85 : (zp_ps.getD 85 []).all (zc_ent 85) = true := by decide +kernel
theorem ze_86 : (zp_ps.getD 86 []).all (zc_ent 86) = true := by decide +kernel
theorem ze_87 : (zp_ps.getD 87 []).all (zc_ent 87) = true := by decide +kernel
theorem ze_88 : (zp_ps.getD 88 []).all (zc_ent 88) = true := by decide +kernel
theorem ze_89 : (zp_ps.getD 89 []).all (zc_ent 89) = true := by decide +kernel
theorem ze_90 : (zp_ps.getD 90 []).all (zc_ent 90) = true := by decide +kernel
theorem ze_91 : (zp_ps.getD 91 []).all (zc_ent 91) = true := by decide +kernel
theorem ze_92 : (zp_ps.getD 92 []).all (zc_ent 92) = true := by decide +kernel
theorem ze_93 : (zp_ps.getD 93 []).all (zc_ent 93) = true := by decide +kernel
theorem ze_94 : (zp_ps.getD 94 []).all (zc_ent 94) = true := by decide +kernel
theorem ze_95 : (zp_ps.getD 95 []).all (zc_ent 95) = true := by decide +kernel
theorem ze_96 : (zp_ps.getD 96 []).all (zc_ent 96) = true := by decide +kernel
theorem ze_97 : (zp_ps.getD 97 []).all (zc_ent 97) = true := by decide +kernel
theorem ze_98 : (zp_ps.getD 98 []).all (zc_ent 98) = true := by decide +kernel
theorem ze_99 : (zp_ps.getD 99 []).all (zc_ent 99) = true := by decide +kernel
theorem ze_100 : (zp_ps.getD 100 []).all (zc_ent 100) = true := by decide +kernel
theorem ze_101 : (zp_ps.getD 101 []).all (zc_ent 101) = true := by decide +kernel
theorem ze_102 : (zp_ps.getD 102 []).all (zc_ent 102) = true := by decide +kernel
theorem ze_103 : (zp_ps.getD 103 []).all (zc_ent 103) = true := by decide +kernel
theorem ze_104 : (zp_ps.getD 104 []).all (zc_ent 104) = true := by decide +kernel
theorem ze_105 : (zp_ps.getD 105 []).all (zc_ent 105) = true := by decide +kernel
theorem ze_106 : (zp_ps.getD 106 []).all (zc_ent 106) = true := by decide +kernel
theorem ze_107 : (zp_ps.getD 107 []).all (zc_ent 107) = true := by decide +kernel
theorem ze_108 : (zp_ps.getD 108 []).all (zc_ent 108) = true := by decide +kernel
theorem ze_109 : (zp_ps.getD 109 []).all (zc_ent 109) = true := by decide +kernel
theorem ze_110 : (zp_ps.getD 110 []).all (zc_ent 110) = true := by decide +kernel
theorem ze_111 : (zp_ps.getD 111 []).all (zc_ent 111) = true := by decide +kernel
theorem ze_112 : (zp_ps.getD 112 []).all (zc_ent 112) = true := by decide +kernel
theorem ze_113 : (zp_ps.getD 113 []).all (zc_ent 113) = true := by decide +kernel
theorem ze_114 : (zp_ps.getD 114 []).all (zc_ent 114) = true := by decide +kernel
theorem ze_115 : (zp_ps.getD 115 []).all (zc_ent 115) = true := by decide +kernel
theorem ze_116 : (zp_ps.getD 116 []).all (zc_ent 116) = true := by decide +kernel
theorem ze_117 : (zp_ps.getD 117 []).all (zc_ent 117) = true := by decide +kernel
theorem ze_118 : (zp_ps.getD 118 []).all (zc_ent 118) = true := by decide +kernel
theorem ze_119 : (zp_ps.getD 119 []).all (zc_ent 119) = true := by decide +kernel
theorem ze_120 : (zp_ps.getD 120 []).all (zc_ent 120) = true := by decide +kernel
theorem ze_121 : (zp_ps.getD 121 []).all (zc_ent 121) = true := by decide +kernel
theorem ze_122 : (zp_ps.getD 122 []).all (zc_ent 122) = true := by decide +kernel
theorem ze_123 : (zp_ps.getD 123 []).all (zc_ent 123) = true := by decide +kernel
theorem ze_124 : (zp_ps.getD 124 []).all (zc_ent 124) = true := by decide +kernel
theorem ze_125 : (zp_ps.getD 125 []).all (zc_ent 125) = true := by decide +kernel
theorem ze_126 : (zp_ps.getD 126 []).all (zc_ent 126) = true := by decide +kernel
theorem ze_127 : (zp_ps.getD 127 []).all (zc_ent 127) = true := by decide +kernel
theorem ze_128 : (zp_ps.getD 128 []).all (zc_ent 128) = true := by decide +kernel
theorem ze_129 : (zp_ps.getD 129 []).all (zc_ent 129) = true := by decide +kernel
theorem ze_130 : (zp_ps.getD 130 []).all (zc_ent 130) = true := by decide +kernel
theorem ze_131 : (zp_ps.getD 131 []).all (zc_ent 131) = true := by decide +kernel
theorem ze_132 : (zp_ps.getD 132 []).all (zc_ent 132) = true := by decide +kernel
theorem ze_133 : (zp_ps.getD 133 []).all (zc_ent 133) = true := by decide +kernel
theorem ze_134 : (zp_ps.getD 134 []).all (zc_ent 134) = true := by decide +kernel
theorem zp_pools : ∀ k : Nat, (zp_ps.getD k []).all (zc_ent k) = true
  | 0 => ze_0
  | 1 => ze_1
  | 2 => ze_2
  | 3 => ze_3
  | 4 => ze_4
  | 5 => ze_5
  | 6 => ze_6
  | 7 => ze_7
  | 8 => ze_8
  | 9 => ze_9
  | 10 => ze_10
  | 11 => ze_11
  | 12 => ze_12
  | 13 => ze_13
  | 14 => ze_14
  | 15 => ze_15
  | 16 => ze_16
  | 17 => ze_17
  | 18 => ze_18
  | 19 => ze_19
  | 20 => ze_20
  | 21 => ze_21
  | 22 => ze_22
  | 23 => ze_23
  | 24 => ze_24
  | 25 => ze_25
  | 26 => ze_26
  | 27 => ze_27
  | 28 => ze_28
  | 29 => ze_29
  | 30 => ze_30
  | 31 => ze_31
  | 32 => ze_32
  | 33 => ze_33
  | 34 => ze_34
  | 35 => ze_35
  | 36 => ze_36
  | 37 => ze_37
  | 38 => ze_38
  | 39 => ze_39
  | 40 => ze_40
  | 41 => ze_41
  | 42 => ze_42
  | 43 => ze_43
  | 44 => ze_44
  | 45 => ze_45
  | 46 => ze_46
  | 47 => ze_47
  | 48 => ze_48
  | 49 => ze_49
  | 50 => ze_50
  | 51 => ze_51
  | 52 => ze_52
  | 53 => ze_53
  | 54 => ze_54
  | 55 => ze_55
  | 56 => ze_56
  | 57 => ze_57
  | 58 => ze_58
  | 59 => ze_59
  | 60 => ze_60
  | 61 => ze_61
  | 62 => ze_62
  | 63 => ze_63
  | 64 => ze_64
  | 65 => ze_65
  | 66 => ze_66
  | 67 => ze_67
  | 68 => ze_68
  | 69 => ze_69
  | 70 => ze_70
  | 71 => ze_71
  | 72 => ze_72
  | 73 => ze_73
  | 74 => ze_74
  | 75 => ze_75
  | 76 => ze_76
  | 77 => ze_77
  | 78 => ze_78
  | 79 => ze_79
  | 80 => ze_80
  | 81 => ze_81
  | 82 => ze_82
  | 83 => ze_83
  | 84 => ze_84
  | 85 => ze_85
  | 86 => ze_86
  | 87 => ze_87
  | 88 => ze_88
  | 89 => ze_89
  | 90 => ze_90
  | 91 => ze_91
  | 92 => ze_92
  | 93 => ze_93
  | 94 => ze_94
  | 95 => ze_95
  | 96 => ze_96
  | 97 => ze_97
  | 98 => ze_98
  | 99 => ze_99
  | 100 => ze_100
  | 101 => ze_101
  | 102 => ze_102
  | 103 => ze_103
  | 104 => ze_104
  | 105 => ze_105
  | 106 => ze_106
  | 107 => ze_107
  | 108 => ze_108
  | 109 => ze_109
  | 110 => ze_110
  | 111 => ze_111
  | 112 => ze_112
  | 113 => ze_113
  | 114 => ze_114
  | 115 => ze_115
  | 116 => ze_116
  | 117 => ze_117
  | 118 => ze_118
  | 119 => ze_119
  | 120 => ze_120
  | 121 => ze_121
  | 122 => ze_122
  | 123 => ze_123
  | 124 => ze_124
  | 125 => ze_125
  | 126 => ze_126
  | 127 => ze_127
  | 128 => ze_128
  | 129 => ze_129
  | 130 => ze_130
  | 131 => ze_131
  | 132 => ze_132
  | 133 => ze_133
  | 134 => ze_134
  | _ + 135 => rfl
end
section
theorem zp_codes : ∀ (k pc : Nat) (i : Jvm.ClassFile.Instr), zp_code k pc = some i → ∃ len, decode (zi_b zp k) pc = .ok (i, len) ∧ (zi_len i = 0 ∨ len = zi_len i)
  | 0, pc, i, h => by
    have hl : pc < 771 := zp_lt (l := zp_l0) h (by decide +kernel)
    by_cases h0 : pc < 96
    · exact zc_code_ok zd_0_0 (by omega) (by omega) h
    by_cases h1 : pc < 192
    · exact zc_code_ok zd_0_1 (by omega) (by omega) h
    by_cases h2 : pc < 288
    · exact zc_code_ok zd_0_2 (by omega) (by omega) h
    by_cases h3 : pc < 384
    · exact zc_code_ok zd_0_3 (by omega) (by omega) h
    by_cases h4 : pc < 480
    · exact zc_code_ok zd_0_4 (by omega) (by omega) h
    by_cases h5 : pc < 576
    · exact zc_code_ok zd_0_5 (by omega) (by omega) h
    by_cases h6 : pc < 672
    · exact zc_code_ok zd_0_6 (by omega) (by omega) h
    by_cases h7 : pc < 768
    · exact zc_code_ok zd_0_7 (by omega) (by omega) h
    exact zc_code_ok zd_0_8 (by omega) (by omega) h
  | 1, pc, i, h => zc_code_ok zd_1 (Nat.zero_le _) (by rw [Nat.zero_add]; exact zp_lt h (Nat.le_refl _)) h
  | 2, pc, i, h => zc_code_ok zd_2 (Nat.zero_le _) (by rw [Nat.zero_add]; exact zp_lt h (Nat.le_refl _)) h
  | 3, pc, i, h => zc_code_ok zd_3 (Nat.zero_le _) (by rw [Nat.zero_add]; exact zp_lt h (Nat.le_refl _)) h
  | 4, pc, i, h => zc_code_ok zd_4 (Nat.zero_le _) (by rw [Nat.zero_add]; exact zp_lt h (Nat.le_refl _)) h
  | 5, pc, i, h => zc_code_ok zd_5 (Nat.zero_le _) (by rw [Nat.zero_add]; exact zp_lt h (Nat.le_refl _)) h
  | 6, pc, i, h => zc_code_ok zd_6 (Nat.zero_le _) (by rw [Nat.zero_add]; exact zp_lt h (Nat.le_refl _)) h
  | 7, pc, i, h => zc_code_ok zd_7 (Nat.zero_le _) (by rw [Nat.zero_add]; exact zp_lt h (Nat.le_refl _)) h
  | 8, pc, i, h => zc_code_ok zd_8 (Nat.zero_le _) (by rw [Nat.zero_add]; exact zp_lt h (Nat.le_refl _)) h
  | 9, pc, i, h => zc_code_ok zd_9 (Nat.zero_le _) (by rw [Nat.zero_add]; exact zp_lt h (Nat.le_refl _)) h
  | 10, pc, i, h => zc_code_ok zd_10 (Nat.zero_le _) (by rw [Nat.zero_add]; exact zp_lt h (Nat.le_refl _)) h
  | 11, pc, i, h => zc_code_ok zd_11 (Nat.zero_le _) (by rw [Nat.zero_add]; exact zp_lt h (Nat.le_refl _)) h
  | 12, pc, i, h => zc_code_ok zd_12 (Nat.zero_le _) (by rw [Nat.zero_add]; exact zp_lt h (Nat.le_refl _)) h
  | 13, pc, i, h => zc_code_ok zd_13 (Nat.zero_le _) (by rw [Nat.zero_add]; exact zp_lt h (Nat.le_refl _)) h
  | 14, pc, i, h => zc_code_ok zd_14 (Nat.zero_le _) (by rw [Nat.zero_add]; exact zp_lt h (Nat.le_refl _)) h
  | 15, pc, i, h => zc_code_ok zd_15 (Nat.zero_le _) (by rw [Nat.zero_add]; exact zp_lt h (Nat.le_refl _)) h
  | 16, pc, i, h => zc_code_ok zd_16 (Nat.zero_le _) (by rw [Nat.zero_add]; exact zp_lt h (Nat.le_refl _)) h
  | 17, pc, i, h => zc_code_ok zd_17 (Nat.zero_le _) (by rw [Nat.zero_add]; exact zp_lt h (Nat.le_refl _)) h
  | 18, pc, i, h => zc_code_ok zd_18 (Nat.zero_le _) (by rw [Nat.zero_add]; exact zp_lt h (Nat.le_refl _)) h
  | 19, pc, i, h => zc_code_ok zd_19 (Nat.zero_le _) (by rw [Nat.zero_add]; exact zp_lt h (Nat.le_refl _)) h
  | 20, pc, i, h => zc_code_ok zd_20 (Nat.zero_le _) (by rw [Nat.zero_add]; exact zp_lt h (Nat.le_refl _)) h
  | 21, pc, i, h => zc_code_ok zd_21 (Nat.zero_le _) (by rw [Nat.zero_add]; exact zp_lt h (Nat.le_refl _)) h
  | 22, pc, i, h => zc_code_ok zd_22 (Nat.zero_le _) (by rw [Nat.zero_add]; exact zp_lt h (Nat.le_refl _)) h
  | 23, pc, i, h => zc_code_ok zd_23 (Nat.zero_le _) (by rw [Nat.zero_add]; exact zp_lt h (Nat.le_refl _)) h
  | 24, pc, i, h => zc_code_ok zd_24 (Nat.zero_le _) (by rw [Nat.zero_add]; exact zp_lt h (Nat.le_refl _)) h
  | 25, pc, i, h => zc_code_ok zd_25 (Nat.zero_le _) (by rw [Nat.zero_add]; exact zp_lt h (Nat.le_refl _)) h
  | 26, pc, i, h => zc_code_ok zd_26 (Nat.zero_le _) (by rw [Nat.zero_add]; exact zp_lt h (Nat.le_refl _)) h
  | 27, pc, i, h => zc_code_ok zd_27 (Nat.zero_le _) (by rw [Nat.zero_add]; exact zp_lt h (Nat.le_refl _)) h
  | 28, pc, i, h => zc_code_ok zd_28 (Nat.zero_le _) (by rw [Nat.zero_add]; exact zp_lt h (Nat.le_refl _)) h
  | 29, pc, i, h => zc_code_ok zd_29 (Nat.zero_le _) (by rw [Nat.zero_add]; exact zp_lt h (Nat.le_refl _)) h
  | 30, pc, i, h => zc_code_ok zd_30 (Nat.zero_le _) (by rw [Nat.zero_add]; exact zp_lt h (Nat.le_refl _)) h
  | 31, pc, i, h => zc_code_ok zd_31 (Nat.zero_le _) (by rw [Nat.zero_add]; exact zp_lt h (Nat.le_refl _)) h
  | 32, pc, i, h => zc_code_ok zd_32 (Nat.zero_le _) (by rw [Nat.zero_add]; exact zp_lt h (Nat.le_refl _)) h
  | 33, pc, i, h => zc_code_ok zd_33 (Nat.zero_le _) (by rw [Nat.zero_add]; exact zp_lt h (Nat.le_refl _)) h
  | 34, pc, i, h => zc_code_ok zd_34 (Nat.zero_le _) (by rw [Nat.zero_add]; exact zp_lt h (Nat.le_refl _)) h
  | 35, pc, i, h => zc_code_ok zd_35 (Nat.zero_le _) (by rw [Nat.zero_add]; exact zp_lt h (Nat.le_refl _)) h
  | 36, pc, i, h => zc_code_ok zd_36 (Nat.zero_le _) (by rw [Nat.zero_add]; exact zp_lt h (Nat.le_refl _)) h
  | 37, pc, i, h => zc_code_ok zd_37 (Nat.zero_le _) (by rw [Nat.zero_add]; exact zp_lt h (Nat.le_refl _)) h
  | 38, pc, i, h => zc_code_ok zd_38 (Nat.zero_le _) (by rw [Nat.zero_add]; exact zp_lt h (Nat.le_refl _)) h
  | 39, pc, i, h => zc_code_ok zd_39 (Nat.zero_le _) (by rw [Nat.zero_add]; exact zp_lt h (Nat.le_refl _)) h
  | 40, pc, i, h => zc_code_ok zd_40 (Nat.zero_le _) (by rw [Nat.zero_add]; exact zp_lt h (Nat.le_refl _)) h
  | 41, pc, i, h => zc_code_ok zd_41 (Nat.zero_le _) (by rw [Nat.zero_add]; exact zp_lt h (Nat.le_refl _)) h
  | 42, pc, i, h => zc_code_ok zd_42 (Nat.zero_le _) (by rw [Nat.zero_add]; exact zp_lt h (Nat.le_refl _)) h
  | 43, pc, i, h => zc_code_ok zd_43 (Nat.zero_le _) (by rw [Nat.zero_add]; exact zp_lt h (Nat.le_refl _)) h
  | 44, pc, i, h => zc_code_ok zd_44 (Nat.zero_le _) (by rw [Nat.zero_add]; exact zp_lt h (Nat.le_refl _)) h
  | 45, pc, i, h => zc_code_ok zd_45 (Nat.zero_le _) (by rw [Nat.zero_add]; exact zp_lt h (Nat.le_refl _)) h
  | 46, pc, i, h => zc_code_ok zd_46 (Nat.zero_le _) (by rw [Nat.zero_add]; exact zp_lt h (Nat.le_refl _)) h
  | 47, pc, i, h => zc_code_ok zd_47 (Nat.zero_le _) (by rw [Nat.zero_add]; exact zp_lt h (Nat.le_refl _)) h
  | 48, pc, i, h => zc_code_ok zd_48 (Nat.zero_le _) (by rw [Nat.zero_add]; exact zp_lt h (Nat.le_refl _)) h
  | 49, pc, i, h => zc_code_ok zd_49 (Nat.zero_le _) (by rw [Nat.zero_add]; exact zp_lt h (Nat.le_refl _)) h
  | 50, pc, i, h => zc_code_ok zd_50 (Nat.zero_le _) (by rw [Nat.zero_add]; exact zp_lt h (Nat.le_refl _)) h
  | 51, pc, i, h => zc_code_ok zd_51 (Nat.zero_le _) (by rw [Nat.zero_add]; exact zp_lt h (Nat.le_refl _)) h
  | 52, pc, i, h => zc_code_ok zd_52 (Nat.zero_le _) (by rw [Nat.zero_add]; exact zp_lt h (Nat.le_refl _)) h
  | 53, pc, i, h => zc_code_ok zd_53 (Nat.zero_le _) (by rw [Nat.zero_add]; exact zp_lt h (Nat.le_refl _)) h
  | 54, pc, i, h => zc_code_ok zd_54 (Nat.zero_le _) (by rw [Nat.zero_add]; exact zp_lt h (Nat.le_refl _)) h
  | 55, pc, i, h => zc_code_ok zd_55 (Nat.zero_le _) (by rw [Nat.zero_add]; exact zp_lt h (Nat.le_refl _)) h
  | 56, pc, i, h => zc_code_ok zd_56 (Nat.zero_le _) (by rw [Nat.zero_add]; exact zp_lt h (Nat.le_refl _)) h
  | 57, pc, i, h => zc_code_ok zd_57 (Nat.zero_le _) (by rw [Nat.zero_add]; exact zp_lt h (Nat.le_refl _)) h
  | 58, pc, i, h => zc_code_ok zd_58 (Nat.zero_le _) (by rw [Nat.zero_add]; exact zp_lt h (Nat.le_refl _)) h
  | 59, pc, i, h => zc_code_ok zd_59 (Nat.zero_le _) (by rw [Nat.zero_add]; exact zp_lt h (Nat.le_refl _)) h
  | 60, pc, i, h => zc_code_ok zd_60 (Nat.zero_le _) (by rw [Nat.zero_add]; exact zp_lt h (Nat.le_refl _)) h
  | 61, pc, i, h => zc_code_ok zd_61 (Nat.zero_le _) (by rw [Nat.zero_add]; exact zp_lt h (Nat.le_refl _)) h
  | 62, pc, i, h => zc_code_ok zd_62 (Nat.zero_le _) (by rw [Nat.zero_add]; exact zp_lt h (Nat.le_refl _)) h
  | 63, pc, i, h => zc_code_ok zd_63 (Nat.zero_le _) (by rw [Nat.zero_add]; exact zp_lt h (Nat.le_refl _)) h
  | 64, pc, i, h => zc_code_ok zd_64 (Nat.zero_le _) (by rw [Nat.zero_add]; exact zp_lt h (Nat.le_refl _)) h
  | 65, pc, i, h => zc_code_ok zd_65 (Nat.zero_le _) (by rw [Nat.zero_add]; exact zp_lt h (Nat.le_refl _)) h
  | 66, pc, i, h => zc_code_ok zd_66 (Nat.zero_le _) (by rw [Nat.zero_add]; exact zp_lt h (Nat.le_refl _)) h
  | 67, pc, i, h => zc_code_ok zd_67 (Nat.zero_le _) (by rw [Nat.zero_add]; exact zp_lt h (Nat.le_refl _)) h
  | 68, pc, i, h => zc_code_ok zd_68 (Nat.zero_le _) (by rw [Nat.zero_add]; exact zp_lt h (Nat.le_refl _)) h
  | 69, pc, i, h => zc_code_ok zd_69 (Nat.zero_le _) (by rw [Nat.zero_add]; exact zp_lt h (Nat.le_refl _)) h
  | 70, pc, i, h => zc_code_ok zd_70 (Nat.zero_le _) (by rw [Nat.zero_add]; exact zp_lt h (Nat.le_refl _)) h
  | 71, pc, i, h => by
    have hl : pc < 230 := zp_lt (l := zp_l71) h (by decide +kernel)
    by_cases h0 : pc < 96
    · exact zc_code_ok zd_71_0 (by omega) (by omega) h
    by_cases h1 : pc < 192
    · exact zc_code_ok zd_71_1 (by omega) (by omega) h
    exact zc_code_ok zd_71_2 (by omega) (by omega) h
  | 72, pc, i, h => zc_code_ok zd_72 (Nat.zero_le _) (by rw [Nat.zero_add]; exact zp_lt h (Nat.le_refl _)) h
  | 73, pc, i, h => zc_code_ok zd_73 (Nat.zero_le _) (by rw [Nat.zero_add]; exact zp_lt h (Nat.le_refl _)) h
  | 74, pc, i, h => zc_code_ok zd_74 (Nat.zero_le _) (by rw [Nat.zero_add]; exact zp_lt h (Nat.le_refl _)) h
  | 75, pc, i, h => zc_code_ok zd_75 (Nat.zero_le _) (by rw [Nat.zero_add]; exact zp_lt h (Nat.le_refl _)) h
  | 76, pc, i, h => zc_code_ok zd_76 (Nat.zero_le _) (by rw [Nat.zero_add]; exact zp_lt h (Nat.le_refl _)) h
  | 77, pc, i, h => zc_code_ok zd_77 (Nat.zero_le _) (by rw [Nat.zero_add]; exact zp_lt h (Nat.le_refl _)) h
  | 78, pc, i, h => zc_code_ok zd_78 (Nat.zero_le _) (by rw [Nat.zero_add]; exact zp_lt h (Nat.le_refl _)) h
  | 79, pc, i, h => zc_code_ok zd_79 (Nat.zero_le _) (by rw [Nat.zero_add]; exact zp_lt h (Nat.le_refl _)) h
  | 80, pc, i, h => zc_code_ok zd_80 (Nat.zero_le _) (by rw [Nat.zero_add]; exact zp_lt h (Nat.le_refl _)) h
  | 81, pc, i, h => zc_code_ok zd_81 (Nat.zero_le _) (by rw [Nat.zero_add]; exact zp_lt h (Nat.le_refl _)) h
  | 82, pc, i, h => zc_code_ok zd_82 (Nat.zero_le _) (by rw [Nat.zero_add]; exact zp_lt h (Nat.le_refl _)) h
  | 83, pc, i, h => zc_code_ok zd_83 (Nat.zero_le _) (by rw [Nat.zero_add]; exact zp_lt h (Nat.le_refl _)) h
  | 84, pc, i, h => zc_code_ok zd_84 (Nat.zero_le _) (by rw [Nat.zero_add]; exact zp_lt h (Nat.le_refl _)) h
  | 85, pc, i, h => zc_code_ok zd_85 (Nat.zero_le _) (by rw [Nat.zero_add]; exact zp_lt h (Nat.le_refl _)) h
  | 86, pc, i, h => zc_code_ok zd_86 (Nat.zero_le _) (by rw [Nat.zero_add]; exact zp_lt h (Nat.le_refl _)) h
  | 87, pc, i, h => zc_code_ok zd_87 (Nat.zero_le _) (by rw [Nat.zero_add]; exact zp_lt h (Nat.le_refl _)) h
  | 88, pc, i, h => zc_code_ok zd_88 (Nat.zero_le _) (by rw [Nat.zero_add]; exact zp_lt h (Nat.le_refl _)) h
  | 89, pc, i, h => zc_code_ok zd_89 (Nat.zero_le _) (by rw [Nat.zero_add]; exact zp_lt h (Nat.le_refl _)) h
  | 90, pc, i, h => zc_code_ok zd_90 (Nat.zero_le _) (by rw [Nat.zero_add]; exact zp_lt h (Nat.le_refl _)) h
  | 91, pc, i, h => zc_code_ok zd_91 (Nat.zero_le _) (by rw [Nat.zero_add]; exact zp_lt h (Nat.le_refl _)) h
  | 92, pc, i, h => zc_code_ok zd_92 (Nat.zero_le _) (by rw [Nat.zero_add]; exact zp_lt h (Nat.le_refl _)) h
  | 93, pc, i, h => zc_code_ok zd_93 (Nat.zero_le _) (by rw [Nat.zero_add]; exact zp_lt h (Nat.le_refl _)) h
  | 94, pc, i, h => zc_code_ok zd_94 (Nat.zero_le _) (by rw [Nat.zero_add]; exact zp_lt h (Nat.le_refl _)) h
  | 95, pc, i, h => zc_code_ok zd_95 (Nat.zero_le _) (by rw [Nat.zero_add]; exact zp_lt h (Nat.le_refl _)) h
  | 96, pc, i, h => zc_code_ok zd_96 (Nat.zero_le _) (by rw [Nat.zero_add]; exact zp_lt h (Nat.le_refl _)) h
  | 97, pc, i, h => zc_code_ok zd_97 (Nat.zero_le _) (by rw [Nat.zero_add]; exact zp_lt h (Nat.le_refl _)) h
  | 98, pc, i, h => zc_code_ok zd_98 (Nat.zero_le _) (by rw [Nat.zero_add]; exact zp_lt h (Nat.le_refl _)) h
  | 99, pc, i, h => zc_code_ok zd_99 (Nat.zero_le _) (by rw [Nat.zero_add]; exact zp_lt h (Nat.le_refl _)) h
  | 100, pc, i, h => zc_code_ok zd_100 (Nat.zero_le _) (by rw [Nat.zero_add]; exact zp_lt h (Nat.le_refl _)) h
  | 101, pc, i, h => zc_code_ok zd_101 (Nat.zero_le _) (by rw [Nat.zero_add]; exact zp_lt h (Nat.le_refl _)) h
  | 102, pc, i, h => zc_code_ok zd_102 (Nat.zero_le _) (by rw [Nat.zero_add]; exact zp_lt h (Nat.le_refl _)) h
  | 103, pc, i, h => zc_code_ok zd_103 (Nat.zero_le _) (by rw [Nat.zero_add]; exact zp_lt h (Nat.le_refl _)) h
  | 104, pc, i, h => zc_code_ok zd_104 (Nat.zero_le _) (by rw [Nat.zero_add]; exact zp_lt h (Nat.le_refl _)) h
  | 105, pc, i, h => zc_code_ok zd_105 (Nat.zero_le _) (by rw [Nat.zero_add]; exact zp_lt h (Nat.le_refl _)) h
  | 106, pc, i, h => zc_code_ok zd_106 (Nat.zero_le _) (by rw [Nat.zero_add]; exact zp_lt h (Nat.le_refl _)) h
  | 107, pc, i, h => zc_code_ok zd_107 (Nat.zero_le _) (by rw [Nat.zero_add]; exact zp_lt h (Nat.le_refl _)) h
  | 108, pc, i, h => zc_code_ok zd_108 (Nat.zero_le _) (by rw [Nat.zero_add]; exact zp_lt h (Nat.le_refl _)) h
  | 109, pc, i, h => zc_code_ok zd_109 (Nat.zero_le _) (by rw [Nat.zero_add]; exact zp_lt h (Nat.le_refl _)) h
  | 110, pc, i, h => zc_code_ok zd_110 (Nat.zero_le _) (by rw [Nat.zero_add]; exact zp_lt h (Nat.le_refl _)) h
  | 111, pc, i, h => zc_code_ok zd_111 (Nat.zero_le _) (by rw [Nat.zero_add]; exact zp_lt h (Nat.le_refl _)) h
  | 112, pc, i, h => zc_code_ok zd_112 (Nat.zero_le _) (by rw [Nat.zero_add]; exact zp_lt h (Nat.le_refl _)) h
  | 113, pc, i, h => zc_code_ok zd_113 (Nat.zero_le _) (by rw [Nat.zero_add]; exact zp_lt h (Nat.le_refl _)) h
  | 114, pc, i, h => zc_code_ok zd_114 (Nat.zero_le _) (by rw [Nat.zero_add]; exact zp_lt h (Nat.le_refl _)) h
  | 115, pc, i, h => zc_code_ok zd_115 (Nat.zero_le _) (by rw [Nat.zero_add]; exact zp_lt h (Nat.le_refl _)) h
  | 116, pc, i, h => zc_code_ok zd_116 (Nat.zero_le _) (by rw [Nat.zero_add]; exact zp_lt h (Nat.le_refl _)) h
  | 117, pc, i, h => zc_code_ok zd_117 (Nat.zero_le _) (by rw [Nat.zero_add]; exact zp_lt h (Nat.le_refl _)) h
  | 118, pc, i, h => zc_code_ok zd_118 (Nat.zero_le _) (by rw [Nat.zero_add]; exact zp_lt h (Nat.le_refl _)) h
  | 119, pc, i, h => zc_code_ok zd_119 (Nat.zero_le _) (by rw [Nat.zero_add]; exact zp_lt h (Nat.le_refl _)) h
  | 120, pc, i, h => zc_code_ok zd_120 (Nat.zero_le _) (by rw [Nat.zero_add]; exact zp_lt h (Nat.le_refl _)) h
  | 121, pc, i, h => by
    have hl : pc < 161 := zp_lt (l := zp_l121) h (by decide +kernel)
    by_cases h0 : pc < 96
    · exact zc_code_ok zd_121_0 (by omega) (by omega) h
    exact zc_code_ok zd_121_1 (by omega) (by omega) h
  | 122, pc, i, h => by
    have hl : pc < 167 := zp_lt (l := zp_l122) h (by decide +kernel)
    by_cases h0 : pc < 96
    · exact zc_code_ok zd_122_0 (by omega) (by omega) h
    exact zc_code_ok zd_122_1 (by omega) (by omega) h
  | 123, pc, i, h => by
    have hl : pc < 233 := zp_lt (l := zp_l123) h (by decide +kernel)
    by_cases h0 : pc < 96
    · exact zc_code_ok zd_123_0 (by omega) (by omega) h
    by_cases h1 : pc < 192
    · exact zc_code_ok zd_123_1 (by omega) (by omega) h
    exact zc_code_ok zd_123_2 (by omega) (by omega) h
  | 124, pc, i, h => zc_code_ok zd_124 (Nat.zero_le _) (by rw [Nat.zero_add]; exact zp_lt h (Nat.le_refl _)) h
  | 125, pc, i, h => zc_code_ok zd_125 (Nat.zero_le _) (by rw [Nat.zero_add]; exact zp_lt h (Nat.le_refl _)) h
  | 126, pc, i, h => zc_code_ok zd_126 (Nat.zero_le _) (by rw [Nat.zero_add]; exact zp_lt h (Nat.le_refl _)) h
  | 127, pc, i, h => zc_code_ok zd_127 (Nat.zero_le _) (by rw [Nat.zero_add]; exact zp_lt h (Nat.le_refl _)) h
  | 128, pc, i, h => zc_code_ok zd_128 (Nat.zero_le _) (by rw [Nat.zero_add]; exact zp_lt h (Nat.le_refl _)) h
  | 129, pc, i, h => by
    have hl : pc < 166 := zp_lt (l := zp_l129) h (by decide +kernel)
    by_cases h0 : pc < 96
    · exact zc_code_ok zd_129_0 (by omega) (by omega) h
    exact zc_code_ok zd_129_1 (by omega) (by omega) h
  | 130, pc, i, h => by
    have hl : pc < 183 := zp_lt (l := zp_l130) h (by decide +kernel)
    by_cases h0 : pc < 96
    · exact zc_code_ok zd_130_0 (by omega) (by omega) h
    exact zc_code_ok zd_130_1 (by omega) (by omega) h
  | 131, pc, i, h => zc_code_ok zd_131 (Nat.zero_le _) (by rw [Nat.zero_add]; exact zp_lt h (Nat.le_refl _)) h
  | 132, pc, i, h => zc_code_ok zd_132 (Nat.zero_le _) (by rw [Nat.zero_add]; exact zp_lt h (Nat.le_refl _)) h
  | 133, pc, i, h => zc_code_ok zd_133 (Nat.zero_le _) (by rw [Nat.zero_add]; exact zp_lt h (Nat.le_refl _)) h
  | 134, pc, i, h => zc_code_ok zd_134 (Nat.zero_le _) (by rw [Nat.zero_add]; exact zp_lt h (Nat.le_refl _)) h
  | _ + 135, pc, i, h => by cases h
theorem zp_ok : zi_Ok zp zp_cl zp_TS zp_NW "PatienceTable$Layout" 0 := by
  refine ⟨fun k pc i h => zp_codes k pc i h, fun k x t h => ?_, ⟨_, rfl, rfl⟩, ⟨zc_at_ok (i := 150) (by decide +kernel), zc_at_ok (i := 743) (by decide +kernel), zc_at_ok (i := 969) (by decide +kernel)⟩, fun w hw => zp_nest_ok (List.mem_filter.mp hw).2, fun w hw => zp_good_ok (List.mem_filter.mp hw).2⟩
  have h : zp_pool k x = some t := h
  unfold zp_pool at h
  rw [Option.map_eq_some_iff] at h
  obtain ⟨e, he, rfl⟩ := h
  have h1 := List.find?_some he
  have h2 := List.mem_of_find?_eq_some he
  have h3 := List.all_eq_true.mp (zp_pools k) e h2
  obtain ⟨x', t, hs⟩ := e
  have hx : x' = x := by simpa using h1
  subst hx
  exact zc_ent_ok h3
end
