/-! What the interpreter answers, the machine does: cells and members that are steps by themselves. -/
/-- the facts that are asked of a pool entry; TS: words of the tables; NW: words on nest mates -/
def zi_lnk (TS NW : List Cond) (own : String) (x : Nat) (q : String × String × String × Bool) : Prop :=
  Cond.fieldLink own x q.1 q.2.1 q.2.2.1 ∈ TS ∨ ∃ host : String, Cond.fieldLinkNest own x q.1 q.2.1 q.2.2.1 host ∈ NW
def zi_cls (P : zi_P) (cl : List vw_C) (TS : List Cond) (c : Nat) (q : vw_C) : Prop :=
  cl[c]? = some q ∧ (∀ w ∈ u_ws q.1 q.2.1 q.2.2, w ∈ TS) ∧ (∀ j, j < q.2.2 → parseFieldDescriptor (q.2.1 j).2.2.1 = some (zi_fty P c j)) ∧ (∀ a, a < q.2.2 → ∀ b, b < q.2.2 → a ≠ b → (q.2.1 a).2.1 ≠ (q.2.1 b).2.1)
def zi_fld (P : zi_P) (cl : List vw_C) (TS NW : List Cond) (own : String) (x c f : Nat) (fin : Bool) : Prop :=
  ∃ q : vw_C, zi_cls P cl TS c q ∧ f < q.2.2 ∧ (q.2.1 f).2.2.2 = fin ∧ zi_lnk TS NW own x (q.2.1 f)
def zi_noR : Value → Bool
  | .ref _ => false
  | _ => true
def zi_tok (P : zi_P) (cl : List vw_C) (TS NW : List Cond) (CL : String) (k x : Nat) (t : zi_T) : Prop :=
  (t.1 = 0 → zi_fld P cl TS NW (zi_y P k).cls x t.2.1 t.2.2.1 false) ∧
  (t.1 = 9 → zi_fld P cl TS NW (zi_y P k).cls x t.2.1 t.2.2.1 true) ∧
  (t.1 = 8 → (zi_y P k).name = "<init>" ∧ ∃ q : vw_C, zi_cls P cl TS t.2.1 q ∧ t.2.2.1 < q.2.2 ∧ (q.2.1 t.2.2.1).2.2.2 = true ∧ (q.2.1 t.2.2.1).1 = (zi_y P k).cls ∧ Cond.fieldLink (zi_y P k).cls x (q.2.1 t.2.2.1).1 (q.2.1 t.2.2.1).2.1 (q.2.1 t.2.2.1).2.2.1 ∈ TS) ∧
  (t.1 = 4 → ∃ q : vw_C, zi_cls P cl TS t.2.1 q ∧ t.2.2.1 = q.2.2 ∧ Cond.classLink (zi_y P k).cls x q.1 ∈ TS ∧ Cond.instantiable q.1 q.2.2 ∈ TS ∧ Cond.initialized q.1 ∈ TS ∧ (∀ j, j < q.2.2 → defaultValue (zi_fty P t.2.1 j) = vp_V (zi_fs0 P t.2.1) j) ∧ (zi_fs0 P t.2.1).all zi_noR = true) ∧
  (t.1 = 5 → Cond.classLink (zi_y P k).cls x CL ∈ TS) ∧
  (t.1 = 6 → (∀ v, t.2.2.2 = .int v → Cond.constant (zi_y P k).cls x v ∈ TS) ∧ (∀ v, t.2.2.2 = .long v → Cond.constantLong (zi_y P k).cls x v ∈ TS)) ∧
  (t.1 = 7 → t.2.1 = 0 → Cond.methodLink (zi_y P k).cls x Lib.objectInit ∈ TS ∧ Cond.instanceMethod Lib.objectInit ∈ TS ∧ Cond.code Lib.objectInit ⟨#[0xb1]⟩ 1 none ∈ TS) ∧
  (t.1 = 7 → t.2.1 = 1 → Cond.methodLink (zi_y P k).cls x Lib.Math.min.name ∈ TS ∧ Cond.static Lib.Math.min.name ∈ TS ∧ Cond.initialized "java/lang/Math" ∈ TS ∧ Cond.code Lib.Math.min.name Lib.Math.min.code 2 (some .int) ∈ TS) ∧
  (t.1 = 7 → t.2.1 = 2 → Cond.methodLink (zi_y P k).cls x arraycopyName ∈ TS ∧ Cond.native arraycopyName ∈ TS ∧ Cond.static arraycopyName ∈ TS ∧ Cond.initialized "java/lang/System" ∈ TS)
def zi_tys (cA : Nat → ClassId) (CL : String) : List (ClassId × FieldType) := [(cA 0, .int), (cA 1, .boolean), (cA 2, .long), (cA 3, .object CL)]
theorem zi_map_noR {h0 b : Nat} {fs : List Value} (h : fs.all zi_noR = true) : fs.map (zi_v h0 b) = fs := by
  induction fs with
  | nil => rfl
  | cons v t ih =>
    simp only [List.all_cons, Bool.and_eq_true] at h
    rw [List.map_cons, ih h.2]
    congr 1
    cases v <;> first | rfl | (simp [zi_noR] at h)
theorem zi_fit_v {h0 b : Nat} {ty : FieldType} {v : Value} (h : zi_fit ty v = true) : narrow ty (zi_v h0 b v) = zi_v h0 b v ∧ fits ty (zi_v h0 b v) = true := by
  unfold zi_fit at h
  split at h
  · exact ⟨rfl, rfl⟩
  · rename_i x
    simp only [Bool.or_eq_true, beq_iff_eq] at h
    rcases h with rfl | rfl
    · exact ⟨show narrow .boolean (.int 0) = .int 0 by decide +kernel, show fits .boolean (.int 0) = true by decide +kernel⟩
    · exact ⟨show narrow .boolean (.int 1) = .int 1 by decide +kernel, show fits .boolean (.int 1) = true by decide +kernel⟩
  · exact ⟨rfl, rfl⟩
  · exact ⟨rfl, rfl⟩
  · cases h
theorem zi_map_set {h0 b : Nat} {fs : List Value} {f : Nat} {v : Value} : (fs.map (zi_v h0 b)).set f (zi_v h0 b v) = (fs.set f v).map (zi_v h0 b) := (List.map_set).symm
theorem zi_up_map {h0 b : Nat} {f : Nat → Option Nat} {i v : Nat} (hv : v ≠ zi_X) : va_up (fun j => (f j).map (zi_ad h0 b)) i (some (h0 + v)) = fun j => (va_up f i (some v) j).map (zi_ad h0 b) := by
  funext j
  unfold va_up
  by_cases h : j = i
  · rw [if_pos h, if_pos h, Option.map_some, zi_ad_at hv]
  · rw [if_neg h, if_neg h]
theorem zi_nar_b {x : Int32} (h : x = 0 ∨ x = 1) : vp_nar .boolean x = x := by
  rcases h with rfl | rfl <;> decide +kernel
/-- the launch is one without traces -/
def zx_fl (l : Launch) : Prop := l.flags = flags0
/-- words that look at the heap of the law's start: the texts, and Throwable's two statics -/
def zx_ws : List Cond := [.stringRef "PatienceTable" 74 "no such deal", .stringRef "PatienceTable" 104 "no such column or card", .stringRef "PatienceTable" 111 "the card lies somewhere", .stringRef "PatienceTable" 120 "no such move", .stringRef "PatienceTable" 129 "not allowed now", .stringRef "PatienceTable" 146 "not all cards are laid", .stringRef "PatienceTable" 156 "the log is empty", .stringRef "PatienceTable" 187 "no such fuel", .isRef (.static "java/lang/Throwable" "UNASSIGNED_STACK" "[Ljava/lang/StackTraceElement;"), .isRef (.static "java/lang/Throwable" "SUPPRESSED_SENTINEL" "Ljava/util/List;"), .not (.castable "java/lang/IllegalStateException" "java/lang/IllegalArgumentException"),
  .laysStatic "java/lang/Throwable" "UNASSIGNED_STACK" "[Ljava/lang/StackTraceElement;", .laysStatic "java/lang/Throwable" "SUPPRESSED_SENTINEL" "Ljava/util/List;",
  .declares ⟨"java/lang/RuntimeException", "<init>", "(Ljava/lang/String;)V"⟩, .declares ⟨"java/lang/Exception", "<init>", "(Ljava/lang/String;)V"⟩, .declares ⟨"java/lang/Throwable", "<init>", "(Ljava/lang/String;)V"⟩,
  .castable "java/lang/IllegalArgumentException" "java/lang/IllegalArgumentException", .castable "java/lang/IllegalStateException" "java/lang/IllegalStateException", .castable "java/util/NoSuchElementException" "java/util/NoSuchElementException"]
def zx_O (h0 : Nat) (s : State) : Prop := ∃ s0 : State, s0.WarmedH s.vm ∧ s0.heap.size ≤ h0 ∧ (∀ q, q < s0.heap.size → s.heap[q]? = s0.heap[q]?) ∧ ∀ w ∈ zx_ws, w.before #[] s0 = true
theorem zx_O.move {h0 : Nat} {s U : State} (h : zx_O h0 s) (hW : s.WarmedH U.vm) (hH : ∀ q, q < h0 → U.heap[q]? = s.heap[q]?) : zx_O h0 U := by
  obtain ⟨s0, h1, h2, h3, h4⟩ := h
  exact ⟨s0, h1.trans hW, h2, fun q hq => (hH q (by omega)).trans (h3 q hq), h4⟩
def zi_AO (CL : String) (h0 : Nat) (s : State) : Prop := va_AO CL s ∧ zx_O h0 s
section ZC
variable {p : Program} {l : Launch} {e : Env} {R : Room} {s : State} {m : MethodId} {args : Array Value} {below : List Frame} {meth : Method} {c : Code} {H : Heap} {locs : List Loc} {Q : State → Prop} {cc : ByteArray} {h0 b : Nat}
variable {P : zi_P} {cl : List vw_C} {TS NW : List Cond} {CL : String} {D : va_G} {cA : Nat → ClassId} {lw L k pc pc' : Nat} {xs : Nat → Int32} {i : Jvm.ClassFile.Instr} {ls ls' : zi_L} {st st' : List Value} {w w' : zi_W} {cn cn' sn sn' c0 s0 : Nat}
/-- what holds all through a method's run -/
def zi_Cx (P : zi_P) (cl : List vw_C) (TS NW : List Cond) (CL : String) (D : va_G) (cA : Nat → ClassId) (lw L : Nat) (xs : Nat → Int32) (h0 b c0 d rq k : Nat) (p : Program) (R : Room) (s : State) (m : MethodId) (args : Array Value) (meth : Method) (c : Code) : Prop :=
  p.tables.exec = Jvm.exec ∧ c.code = zi_b P k ∧ c.maxLocals = zi_n P k ∧ meth.sig.returnType = zi_r P k ∧ meth.locks = false ∧ (s.vm.findClass (zi_y P k).cls = some m.cls ∧ s.methodNamed? (zi_y P k) = some m) ∧ (∀ w ∈ TS, w.before args s = true) ∧ (∀ w ∈ NW, va_Nw w s) ∧ va_K D cl (zi_tys cA CL) s ∧ zi_AO CL h0 s ∧
  ((zi_y P k).name = "<init>" → meth.name = "<init>") ∧ h0 ≤ s.heap.size ∧ s.heap.size ≤ h0 + c0 ∧ d ≤ R.frames ∧ rq ≤ R.locals ∧ (k = lw → va_X b L xs s s.heap ∧ b < s.heap.size ∧ b < h0)
/-- the heap holds the world -/
def zi_Hp (cl : List vw_C) (D : va_G) (cA : Nat → ClassId) (h0 b : Nat) (s : State) (w : zi_W) (H : Heap) (locs : List Loc) : Prop :=
  va_P D cl (zi_w cA h0 b w) H ∧ va_D (fun q => h0 ≤ q) (zi_w cA h0 b w) ∧ va_S (fun q => h0 ≤ q) s.heap H locs
theorem zi_bound {cells slots : Nat} {g : JFrame} (k : H.size ≤ s.heap.size + cells → W p l e R s m args below meth c H locs cells slots Q g) : W p l e R s m args below meth c H locs cells slots Q g := by
  intro T hT X
  have h := X.heapSize
  rw [hT] at h
  exact k h T hT X
/-- a new cell's address -/
theorem zi_fresh {A : Nat → Prop} {q : Nat} {x : va_E} {H1 : Heap} {n : Nat} (hA : ∀ z, A z → h0 ≤ z) (hn : n = w.length) (hP : va_P D cl (zi_w cA h0 b w ++ [(q, x)]) H1) (hD : va_D A (zi_w cA h0 b w ++ [(q, x)])) (hz : H1.size ≤ h0 + n + 1) : q = h0 + w.length := by
  have hl : (zi_w cA h0 b w).length = w.length := by unfold zi_w; rw [List.length_mapIdx]
  have hq : (zi_w cA h0 b w ++ [(q, x)])[w.length]? = some (q, x) := by
    rw [← hl, List.getElem?_append_right (Nat.le_refl _), Nat.sub_self]; rfl
  have h1 : q < H1.size := (hP _ _ hq).lt
  have h2 : h0 ≤ q := hA q (hD.2 _ _ hq)
  refine Nat.le_antisymm (by omega) (Nat.not_lt.mp fun h => ?_)
  have h3 : q - h0 < w.length := by omega
  have h4 : (zi_w cA h0 b w ++ [(q, x)])[q - h0]? = some (h0 + (q - h0), zi_e cA h0 b w[q - h0]) := by
    rw [List.getElem?_append_left (by rw [hl]; exact h3)]
    exact zi_w_get (List.getElem?_eq_getElem h3)
  have h5 := hD.1 _ _ _ _ h4 hq (by show h0 + (q - h0) = q; omega)
  omega
theorem zs_getf {cells slots x f a cj : Nat} {fin : Bool} {fs rest : List Value} {v : Value} {LS : Array Slot} {own : String} (hx : p.tables.exec = Jvm.exec) (hb : c.code = cc) (hown : s.vm.findClass own = some m.cls) (hts : ∀ w ∈ TS, w.before args s = true) (hnw : ∀ w ∈ NW, va_Nw w s) (hNW : ∀ w ∈ NW, w.onTables = true) (hK : va_K D cl (zi_tys cA CL) s)
    (hP : va_P D cl (zi_w cA h0 b w) H) (hf : zi_fld P cl TS NW own x cj f fin) (hg : zi_get w a = some (.inr (cj, fs))) (hv : fs[f]? = some v) (hdg : decode cc pc = .ok (.getfield x, 3))
    (kk : W p l e R s m args below meth c H locs cells slots Q (F0 m (pc + 3) LS (zi_v h0 b v :: rest))) : W p l e R s m args below meth c H locs cells slots Q (F0 m pc LS (.ref (zi_ad h0 b a) :: rest)) := by
  obtain ⟨ha, hne⟩ := zi_get_at hg
  obtain ⟨⟨C, T, N⟩, ⟨hc, hws, hty, hnm⟩, hlt, -, hl⟩ := hf
  rw [zi_ad_at hne]
  have he : (zi_w cA h0 b w)[a]? = some (h0 + a, .inr (cj, fs.map (zi_v h0 b))) := zi_w_get ha
  have hv' : (fs.map (zi_v h0 b))[f]? = some (zi_v h0 b v) := by rw [List.getElem?_map, hv]; rfl
  rcases hl with hl | ⟨host, hl⟩
  · exact va_get hx hb hts hws hown hK hP a he hc f hlt (hts _ hl) (fun _ h => h) hv' hdg kk
  · exact va_getN hx hb hts hws hown hK hP a he hc f hlt (va_Nw.use (hNW _ hl) (hnw _ hl)) (fun _ h => h) hv' hdg kk
theorem zs_putf {cells slots x f a cj : Nat} {fs rest : List Value} {v : Value} {LS : Array Slot} {own : String} (hx : p.tables.exec = Jvm.exec) (hb : c.code = cc) (hown : s.vm.findClass own = some m.cls) (hts : ∀ w ∈ TS, w.before args s = true) (hnw : ∀ w ∈ NW, va_Nw w s) (hNW : ∀ w ∈ NW, w.onTables = true) (hK : va_K D cl (zi_tys cA CL) s)
    (hH : zi_Hp cl D cA h0 b s w H locs) (hf : zi_fld P cl TS NW own x cj f false) (hg : zi_get w a = some (.inr (cj, fs))) (hl : f < fs.length) (hfit : zi_fit (zi_fty P cj f) v = true) (hdg : decode cc pc = .ok (.putfield x, 3))
    (kk : ∀ (H' : Heap) (locs' : List Loc), zi_Hp cl D cA h0 b s (w.set a (.inr (cj, fs.set f v))) H' locs' → W p l e R s m args below meth c H' locs' cells slots Q (F0 m (pc + 3) LS rest)) : W p l e R s m args below meth c H locs cells slots Q (F0 m pc LS (zi_v h0 b v :: .ref (zi_ad h0 b a) :: rest)) := by
  obtain ⟨hP, hD, hS⟩ := hH
  obtain ⟨ha, hne⟩ := zi_get_at hg
  obtain ⟨⟨C, T, N⟩, ⟨hc, hws, hty, hnm⟩, hlt, hfin, hlk⟩ := hf
  rw [zi_ad_at hne]
  have he : (zi_w cA h0 b w)[a]? = some (h0 + a, .inr (cj, fs.map (zi_v h0 b))) := zi_w_get ha
  have e9 : (zi_w cA h0 b w).set a (h0 + a, .inr (cj, (fs.map (zi_v h0 b)).set f (zi_v h0 b v))) = zi_w cA h0 b (w.set a (.inr (cj, fs.set f v))) := by
    rw [zi_map_set]; exact zi_w_set (c := .inr (cj, fs.set f v))
  have hl' : f < (fs.map (zi_v h0 b)).length := by rw [List.length_map]; exact hl
  rcases hlk with hlk | ⟨host, hlk⟩
  · exact va_put hx hb hts hws (zi_fty P cj) hty hnm hown hK hP hD hS a he hc f hlt (hts _ hlk) (fun _ h => h) hfin (hty f hlt) (zi_fit_v hfit).1 (zi_fit_v hfit).2 hl' hdg (fun H1 l1 a1 a2 a3 => kk H1 l1 ⟨by rw [← e9]; exact a1, by rw [← e9]; exact a2, a3⟩)
  · exact va_putN hx hb hts hws (zi_fty P cj) hty hnm hown hK hP hD hS a he hc f hlt (va_Nw.use (hNW _ hlk) (hnw _ hlk)) (fun _ h => h) hfin (hty f hlt) (zi_fit_v hfit).1 (zi_fit_v hfit).2 hl' hdg (fun H1 l1 a1 a2 a3 => kk H1 l1 ⟨by rw [← e9]; exact a1, by rw [← e9]; exact a2, a3⟩)
theorem zs_putF {cells slots x f a cj : Nat} {fs rest : List Value} {v : Value} {LS : Array Slot} {own : String} {q : vw_C} (hx : p.tables.exec = Jvm.exec) (hb : c.code = cc) (hown : s.vm.findClass own = some m.cls) (hts : ∀ w ∈ TS, w.before args s = true) (hK : va_K D cl (zi_tys cA CL) s) (hin : meth.name = "<init>")
    (hH : zi_Hp cl D cA h0 b s w H locs) (hf : zi_cls P cl TS cj q ∧ f < q.2.2 ∧ (q.2.1 f).2.2.2 = true ∧ (q.2.1 f).1 = own ∧ Cond.fieldLink own x (q.2.1 f).1 (q.2.1 f).2.1 (q.2.1 f).2.2.1 ∈ TS) (hg : zi_get w a = some (.inr (cj, fs))) (hl : f < fs.length) (hfit : zi_fit (zi_fty P cj f) v = true) (hdg : decode cc pc = .ok (.putfield x, 3))
    (kk : ∀ (H' : Heap) (locs' : List Loc), zi_Hp cl D cA h0 b s (w.set a (.inr (cj, fs.set f v))) H' locs' → W p l e R s m args below meth c H' locs' cells slots Q (F0 m (pc + 3) LS rest)) : W p l e R s m args below meth c H locs cells slots Q (F0 m pc LS (zi_v h0 b v :: .ref (zi_ad h0 b a) :: rest)) := by
  obtain ⟨hP, hD, hS⟩ := hH
  obtain ⟨ha, hne⟩ := zi_get_at hg
  obtain ⟨C, T, N⟩ := q
  obtain ⟨⟨hc, hws, hty, hnm⟩, hlt, hfin, hde, hlk⟩ := hf
  rw [zi_ad_at hne]
  have he : (zi_w cA h0 b w)[a]? = some (h0 + a, .inr (cj, fs.map (zi_v h0 b))) := zi_w_get ha
  have e9 : (zi_w cA h0 b w).set a (h0 + a, .inr (cj, (fs.map (zi_v h0 b)).set f (zi_v h0 b v))) = zi_w cA h0 b (w.set a (.inr (cj, fs.set f v))) := by
    rw [zi_map_set]; exact zi_w_set (c := .inr (cj, fs.set f v))
  have hl' : f < (fs.map (zi_v h0 b)).length := by rw [List.length_map]; exact hl
  exact va_putF hx hb hts hws (zi_fty P cj) hty hnm hown hK hP hD hS a he hc f hlt (hts _ hlk) (fun _ h => h) hfin hin hde (hty f hlt) (zi_fit_v hfit).1 (zi_fit_v hfit).2 hl' hdg (fun H1 l1 a1 a2 a3 => kk H1 l1 ⟨by rw [← e9]; exact a1, by rw [← e9]; exact a2, a3⟩)
/-- the class of an array is the known one of its kind -/
theorem zs_kind {ty : FieldType} {t : Nat} {cB cX : ClassId} (hK : va_K D cl (zi_tys cA CL) s) (hK2 : va_K D cl (zi_tys cA CL ++ [(cB, ty)]) s) (ht : (zi_tys cA CL)[t]? = some (cX, ty)) : cB = cX := by
  have h1 := (hK.2 t _ ht).2
  have h2 := (hK2.2 4 (cB, ty) rfl).2
  unfold va_RA at h1 h2
  cases ty with
  | object C =>
    obtain ⟨-, -, -, -, -, a4⟩ := h1
    obtain ⟨-, -, -, -, -, b4⟩ := h2
    exact Option.some.inj (b4.symm.trans a4)
  | _ => exact Option.some.inj (h2.symm.trans h1)
theorem zs_newa {mm : Int32} {t : Nat} {ty : FieldType} {atype : ArrayType} {rest : List Value} {LS : Array Slot} {a0 : (Nat → Int32) ⊕ (Nat → Int64) ⊕ (Nat → UInt32) ⊕ (Nat → UInt64) ⊕ (Nat → Option Nat)} (hx : p.tables.exec = Jvm.exec) (hb : c.code = cc) (harr : (Cond.arrayClass (newarray.typeOf atype)).before args s = true) (hty : newarray.typeOf atype = ty) (ht : (zi_tys cA CL)[t]? = some (cA t, ty)) (hK : va_K D cl (zi_tys cA CL) s)
    (ha : ∀ (cB : ClassId) (N : Nat), vp_cell cB (N, a0) = arrV cB N (fun _ => defaultValue ty)) (hza : ∀ (h0 N : Nat), zi_a h0 b (N, a0) = (N, a0)) (hH : zi_Hp cl D cA h0 b s w H locs) (hz1 : h0 ≤ s.heap.size) (hz2 : s.heap.size ≤ h0 + c0) (hc : cn = w.length ∧ w.length < zi_X ∧ ¬ mm < 0 ∧ mm.toNatClampNeg ≤ 65536) (hc0 : c0 ≤ cn) (hs0 : s0 ≤ sn) (hR1 : cn + 1 ≤ c0 + R.cells) (hR2 : sn + mm.toNatClampNeg ≤ s0 + R.slots) (hbt : componentBytes ty ≤ 8) (hdg : decode cc pc = .ok (.newarray atype, 2))
    (kk : ∀ (H' : Heap) (locs' : List Loc), zi_Hp cl D cA h0 b s (w ++ [.inl (t, mm.toNatClampNeg, a0)]) H' locs' → W p l e R s m args below meth c H' locs' (cn + 1 - c0) (sn + mm.toNatClampNeg - s0) Q (F0 m (pc + 2) LS (zi_v h0 b (.ref w.length) :: rest))) : W p l e R s m args below meth c H locs (cn - c0) (sn - s0) Q (F0 m pc LS (.int mm :: rest)) := by
  obtain ⟨hP, hD, hS⟩ := hH
  generalize hN : mm.toNatClampNeg = N at hc hR2 kk
  have hmul : N * componentBytes ty ≤ 65536 * 8 := Nat.mul_le_mul hc.2.2.2 hbt
  refine va_newa hx hb harr hty hK hP hD hS (fun q hq => Nat.le_trans hz1 hq) (a0 := (N, a0)) (fun cB => ha cB N) hc.2.2.1 hN (by omega) (by omega) (by omega) hdg (fun q cB H1 b0 b1 b2 b3 => zi_bound fun hsz => ?_)
  have hcB : cB = cA t := zs_kind (t := t) hK b0 ht
  subst hcB
  have hq : q = h0 + w.length := zi_fresh (fun _ hz => hz) hc.1 b1 b2 (by omega)
  subst hq
  have e9 : zi_w cA h0 b (w ++ [.inl (t, N, a0)]) = zi_w cA h0 b w ++ [(h0 + w.length, .inl (cA t, N, a0))] := by
    rw [zi_w_app]; show _ ++ [(_, Sum.inl (cA t, zi_a h0 b (N, a0)))] = _; rw [hza]
  have k2 := kk H1 locs ⟨by rw [e9]; exact b1, by rw [e9]; exact b2, b3⟩
  rw [show cn + 1 - c0 = cn - c0 + 1 by omega, show sn + N - s0 = sn - s0 + N by omega] at k2
  have e3 : zi_v h0 b (.ref w.length) = .ref (h0 + w.length) := by show Value.ref (zi_ad h0 b w.length) = _; rw [zi_ad_at (by omega)]
  rw [e3] at k2
  exact k2
set_option maxHeartbeats 4000000 in
theorem zs_cel {d rq : Nat} (hC : zi_Cx P cl TS NW CL D cA lw L xs h0 b c0 d rq k p R s m args meth c) (hpool : ∀ x t, zi_pool P k x = some t → zi_tok P cl TS NW CL k x t) (hCL : ∃ q : vw_C, cl[2]? = some q ∧ q.1 = CL) (harr : Cond.arrayClass .int ∈ TS ∧ Cond.arrayClass .boolean ∈ TS ∧ Cond.arrayClass .long ∈ TS)
    (hNW : ∀ w ∈ NW, w.onTables = true) (hH : zi_Hp cl D cA h0 b s w H locs) (hc0 : c0 ≤ cn) (hs0 : s0 ≤ sn) (hdg : decode (zi_b P k) pc = .ok (i, zi_len i))
    (h : zi_cel P lw L xs k pc (zi_len i) i ls st w cn sn = some (pc', ls', st', w', cn', sn')) : ls' = ls ∧ cn ≤ cn' ∧ sn ≤ sn' ∧ (cn' ≤ c0 + R.cells → sn' ≤ s0 + R.slots → ∀ LS : Array Slot,
      (∀ (H' : Heap) (locs' : List Loc), zi_Hp cl D cA h0 b s w' H' locs' → W p l e R s m args below meth c H' locs' (cn' - c0) (sn' - s0) Q (F0 m pc' LS (st'.map (zi_v h0 b)))) → W p l e R s m args below meth c H locs (cn - c0) (sn - s0) Q (F0 m pc LS (st.map (zi_v h0 b)))) := by
  obtain ⟨hx, hb, hml, hr, hlk, ⟨hown, hnamed⟩, hts, hnw, hK, hAO, hin, hz1, hz2, hRf, hRl, hX⟩ := hC
  obtain ⟨hP, hD, hS⟩ := hH
  unfold zi_cel at h
  split at h
  · -- ldc
    split at h
    · rename_i v hp
      cases h
      exact ⟨rfl, Nat.le_refl _, Nat.le_refl _, fun _ _ LS kk => lv_ldc hx hb hown (hts _ ((hpool _ _ hp).2.2.2.2.2.1 rfl |>.1 _ rfl)) hdg (kk H locs ⟨hP, hD, hS⟩)⟩
    · cases h
  · -- ldc2_w
    split at h
    · rename_i v hp
      cases h
      exact ⟨rfl, Nat.le_refl _, Nat.le_refl _, fun _ _ LS kk => lv_ldc2 hx hb hown (hts _ ((hpool _ _ hp).2.2.2.2.2.1 rfl |>.2 _ rfl)) hdg (kk H locs ⟨hP, hD, hS⟩)⟩
    · cases h
  · -- getfield
    split at h
    · rename_i cj f _ c' fs hp hg
      split at h
      · rename_i hcc
        subst hcc
        obtain ⟨v, hv, rfl, rfl, rfl, rfl, rfl, rfl⟩ := zs_push1 h
        exact ⟨rfl, Nat.le_refl _, Nat.le_refl _, fun _ _ LS kk => zs_getf hx hb hown hts hnw hNW hK hP ((hpool _ _ hp).1 rfl) hg hv hdg (kk H locs ⟨hP, hD, hS⟩)⟩
      · cases h
    · rename_i cj f _ c' fs hp hg
      split at h
      · rename_i hcc
        subst hcc
        obtain ⟨v, hv, rfl, rfl, rfl, rfl, rfl, rfl⟩ := zs_push1 h
        obtain ⟨-, q, a1, a2, a3, a4, a5⟩ := (hpool _ _ hp).2.2.1 rfl
        exact ⟨rfl, Nat.le_refl _, Nat.le_refl _, fun _ _ LS kk => zs_getf hx hb hown hts hnw hNW hK hP ⟨q, a1, a2, a3, Or.inl a5⟩ hg hv hdg (kk H locs ⟨hP, hD, hS⟩)⟩
      · cases h
    · rename_i cj f _ c' fs hp hg
      split at h
      · rename_i hcc
        subst hcc
        obtain ⟨v, hv, rfl, rfl, rfl, rfl, rfl, rfl⟩ := zs_push1 h
        exact ⟨rfl, Nat.le_refl _, Nat.le_refl _, fun _ _ LS kk => zs_getf hx hb hown hts hnw hNW hK hP ((hpool _ _ hp).2.1 rfl) hg hv hdg (kk H locs ⟨hP, hD, hS⟩)⟩
      · cases h
    · cases h
  · -- putfield
    split at h
    · rename_i cj f _ c' fs hp hg
      split at h
      · rename_i hcc
        obtain ⟨hcc, hl, hfit⟩ := hcc
        subst hcc
        cases h
        exact ⟨rfl, Nat.le_refl _, Nat.le_refl _, fun _ _ LS kk => zs_putf hx hb hown hts hnw hNW hK ⟨hP, hD, hS⟩ ((hpool _ _ hp).1 rfl) hg hl hfit hdg kk⟩
      · cases h
    · rename_i cj f _ c' fs hp hg
      split at h
      · rename_i hcc
        obtain ⟨hcc, hl, hfit⟩ := hcc
        subst hcc
        cases h
        obtain ⟨hn, q, hq⟩ := (hpool _ _ hp).2.2.1 rfl
        exact ⟨rfl, Nat.le_refl _, Nat.le_refl _, fun _ _ LS kk => zs_putF hx hb hown hts hK (hin hn) ⟨hP, hD, hS⟩ hq hg hl hfit hdg kk⟩
      · cases h
    · cases h
  · -- iaload
    split at h
    · rename_i hax
      subst hax
      split at h
      · rename_i hc
        cases h
        obtain ⟨x1, x2, x3⟩ := hX hc.1
        exact ⟨rfl, Nat.le_refl _, Nat.le_refl _, fun _ _ LS kk => va_sld hx hb x1 x2 (Nat.not_le.mpr x3) hS hc.2 hdg (kk H locs ⟨hP, hD, hS⟩)⟩
      · cases h
    · split at h
      · rename_i m1 f hg
        obtain ⟨ha, hne⟩ := zi_get_at hg
        split at h
        · rename_i hin2
          cases h
          refine ⟨rfl, Nat.le_refl _, Nat.le_refl _, fun _ _ LS kk => ?_⟩
          rw [List.map_cons, List.map_cons]
          show W p l e R s m args below meth c H locs _ _ Q (F0 m pc LS (.int _ :: .ref (zi_ad h0 b _) :: _))
          rw [zi_ad_at hne]
          exact va_iald hx hb hK hP _ 0 (zi_w_get ha) rfl hin2 hdg (kk H locs ⟨hP, hD, hS⟩)
        · cases h
      · cases h
  · -- baload
    split at h
    · rename_i m1 f hg
      obtain ⟨ha, hne⟩ := zi_get_at hg
      split at h
      · rename_i hin2
        cases h
        refine ⟨rfl, Nat.le_refl _, Nat.le_refl _, fun _ _ LS kk => ?_⟩
        show W p l e R s m args below meth c H locs _ _ Q (F0 m pc LS (.int _ :: .ref (zi_ad h0 b _) :: _))
        rw [zi_ad_at hne]
        exact va_zald hx hb hK hP _ 1 (zi_w_get ha) rfl hin2 hdg (kk H locs ⟨hP, hD, hS⟩)
      · cases h
    · cases h
  · -- laload
    split at h
    · rename_i m1 f hg
      obtain ⟨ha, hne⟩ := zi_get_at hg
      split at h
      · rename_i hin2
        cases h
        refine ⟨rfl, Nat.le_refl _, Nat.le_refl _, fun _ _ LS kk => ?_⟩
        show W p l e R s m args below meth c H locs _ _ Q (F0 m pc LS (.int _ :: .ref (zi_ad h0 b _) :: _))
        rw [zi_ad_at hne]
        exact va_lald hx hb hK hP _ 2 (zi_w_get ha) rfl hin2 hdg (kk H locs ⟨hP, hD, hS⟩)
      · cases h
    · cases h
  · -- aaload
    split at h
    · rename_i m1 f hg
      obtain ⟨ha, hne⟩ := zi_get_at hg
      split at h
      · rename_i hin2
        obtain ⟨v, hv, rfl, rfl, rfl, rfl, rfl, rfl⟩ := zs_push1 h
        refine ⟨rfl, Nat.le_refl _, Nat.le_refl _, fun _ _ LS kk => ?_⟩
        show W p l e R s m args below meth c H locs _ _ Q (F0 m pc LS (.int _ :: .ref (zi_ad h0 b _) :: _))
        rw [zi_ad_at hne]
        refine va_aldq hx hb hK hP _ 3 (zi_w_get ha) rfl hin2 hdg ?_
        rw [Option.map_eq_some_iff] at hv
        obtain ⟨z, hz, rfl⟩ := hv
        have e1 : ∀ y, f y = some z → va_rf ((f y).map (zi_ad h0 b)) = zi_v h0 b (.ref z) := fun y hy => by rw [hy]; rfl
        have k2 := kk H locs ⟨hP, hD, hS⟩
        rw [List.map_cons, ← e1 _ hz] at k2
        exact k2
      · cases h
    · cases h
  · -- iastore
    split at h
    · rename_i m1 f hg
      obtain ⟨ha, hne⟩ := zi_get_at hg
      split at h
      · rename_i hin2
        cases h
        refine ⟨rfl, Nat.le_refl _, Nat.le_refl _, fun _ _ LS kk => ?_⟩
        show W p l e R s m args below meth c H locs _ _ Q (F0 m pc LS (.int _ :: .int _ :: .ref (zi_ad h0 b _) :: _))
        rw [zi_ad_at hne]
        exact va_iast hx hb hK hP hD hS _ 0 (zi_w_get ha) rfl hin2 hdg (fun H1 l1 a1 a2 a3 => kk H1 l1 ⟨by rw [← zi_w_set]; exact a1, by rw [← zi_w_set]; exact a2, a3⟩)
      · cases h
    · cases h
  · -- bastore
    split at h
    · rename_i m1 f hg
      obtain ⟨ha, hne⟩ := zi_get_at hg
      split at h
      · rename_i hin2
        cases h
        refine ⟨rfl, Nat.le_refl _, Nat.le_refl _, fun _ _ LS kk => ?_⟩
        show W p l e R s m args below meth c H locs _ _ Q (F0 m pc LS (.int _ :: .int _ :: .ref (zi_ad h0 b _) :: _))
        rw [zi_ad_at hne]
        refine va_zast hx hb hK hP hD hS _ 1 (zi_w_get ha) rfl hin2.1 hdg ?_
        rw [zi_nar_b hin2.2]
        exact (fun H1 l1 a1 a2 a3 => kk H1 l1 ⟨by rw [← zi_w_set]; exact a1, by rw [← zi_w_set]; exact a2, a3⟩)
      · cases h
    · cases h
  · -- lastore
    split at h
    · rename_i m1 f hg
      obtain ⟨ha, hne⟩ := zi_get_at hg
      split at h
      · rename_i hin2
        cases h
        refine ⟨rfl, Nat.le_refl _, Nat.le_refl _, fun _ _ LS kk => ?_⟩
        show W p l e R s m args below meth c H locs _ _ Q (F0 m pc LS (.long _ :: .int _ :: .ref (zi_ad h0 b _) :: _))
        rw [zi_ad_at hne]
        exact va_last hx hb hK hP hD hS _ 2 (zi_w_get ha) rfl hin2 hdg (fun H1 l1 a1 a2 a3 => kk H1 l1 ⟨by rw [← zi_w_set]; exact a1, by rw [← zi_w_set]; exact a2, a3⟩)
      · cases h
    · cases h
  · -- aastore
    split at h
    · rename_i m1 f ci vs hg hgv
      obtain ⟨ha, hne⟩ := zi_get_at hg
      obtain ⟨hav, hnev⟩ := zi_get_at hgv
      split at h
      · rename_i hin2
        obtain ⟨hin2, rfl⟩ := hin2
        cases h
        refine ⟨rfl, Nat.le_refl _, Nat.le_refl _, fun _ _ LS kk => ?_⟩
        show W p l e R s m args below meth c H locs _ _ Q (F0 m pc LS (.ref (zi_ad h0 b _) :: .int _ :: .ref (zi_ad h0 b _) :: _))
        rw [zi_ad_at hne, zi_ad_at hnev]
        obtain ⟨q, hq, rfl⟩ := hCL
        refine va_astq hx hb hK hP hD hS _ 3 _ 2 (zi_w_get ha) rfl (zi_w_get hav) hq hin2 hdg ?_
        rw [zi_up_map hnev]
        exact (fun H1 l1 a1 a2 a3 => kk H1 l1 ⟨by rw [← zi_w_set]; exact a1, by rw [← zi_w_set]; exact a2, a3⟩)
      · cases h
    · cases h
  · -- arraylength
    split at h
    · rename_i hax
      subst hax
      split at h
      · rename_i hc
        cases h
        obtain ⟨x1, x2, x3⟩ := hX hc
        exact ⟨rfl, Nat.le_refl _, Nat.le_refl _, fun _ _ LS kk => va_slen hx hb x1 x2 (Nat.not_le.mpr x3) hS hdg (kk H locs ⟨hP, hD, hS⟩)⟩
      · cases h
    · split at h
      · rename_i m1 f hg
        obtain ⟨ha, hne⟩ := zi_get_at hg
        cases h
        refine ⟨rfl, Nat.le_refl _, Nat.le_refl _, fun _ _ LS kk => ?_⟩
        show W p l e R s m args below meth c H locs _ _ Q (F0 m pc LS (.ref (zi_ad h0 b _) :: _))
        rw [zi_ad_at hne]
        exact va_alen hx hb hK hP _ 0 (zi_w_get ha) rfl rfl hdg (kk H locs ⟨hP, hD, hS⟩)
      · cases h
  · -- new
    split at h
    · rename_i cj z _ hp
      split at h
      · rename_i hc
        cases h
        obtain ⟨⟨C, T, N⟩, ⟨hcl, hws, hty, hnm⟩, hz, g1, g2, g3, g4, g5⟩ := (hpool _ _ hp).2.2.2.1 rfl
        change z = N at hz
        subst hz
        refine ⟨rfl, Nat.le_succ _, Nat.le_add_right _ _, fun hR1 hR2 LS kk => ?_⟩
        refine va_new hx hb hts hws (zi_fty P cj) hty hown (hts _ g1) (hts _ g2) (hts _ g3) hK hP hD hS (fun q hq => Nat.le_trans hz1 hq) hcl (C := C) (T := T) (N := z) (fs := zi_fs0 P cj) g4 (by omega) (by omega) hdg (fun q H1 a1 a2 a3 => zi_bound fun hsz => ?_)
        have hq : q = h0 + w.length := zi_fresh (fun _ hz => hz) hc.1 a1 a2 (by omega)
        subst hq
        have e9 : zi_w cA h0 b (w ++ [.inr (cj, zi_fs0 P cj)]) = zi_w cA h0 b w ++ [(h0 + w.length, .inr (cj, zi_fs0 P cj))] := by
          rw [zi_w_app]; show _ ++ [(_, Sum.inr (cj, (zi_fs0 P cj).map (zi_v h0 b)))] = _; rw [zi_map_noR g5]
        have k2 := kk H1 locs ⟨by rw [e9]; exact a1, by rw [e9]; exact a2, a3⟩
        have e1 : cn + 1 - c0 = cn - c0 + 1 := by omega
        have e2 : sn + z - s0 = sn - s0 + z := by omega
        rw [e1, e2] at k2
        have e3 : zi_v h0 b (.ref w.length) = .ref (h0 + w.length) := by show Value.ref (zi_ad h0 b w.length) = _; rw [zi_ad_at (by omega)]
        rw [List.map_cons, e3] at k2
        exact k2
      · cases h
    · cases h
  · -- newarray int
    split at h
    · rename_i hc
      cases h
      exact ⟨rfl, Nat.le_succ _, Nat.le_add_right _ _, fun hR1 hR2 LS kk => zs_newa (atype := .int) (t := 0) (a0 := .inl (fun _ => 0)) hx hb (hts _ harr.1) rfl rfl hK (fun _ _ => rfl) (fun _ _ => rfl) ⟨hP, hD, hS⟩ hz1 hz2 hc hc0 hs0 hR1 hR2 (by decide) hdg kk⟩
    · cases h
  · -- newarray boolean
    split at h
    · rename_i hc
      cases h
      exact ⟨rfl, Nat.le_succ _, Nat.le_add_right _ _, fun hR1 hR2 LS kk => zs_newa (atype := .boolean) (t := 1) (a0 := .inl (fun _ => 0)) hx hb (hts _ harr.2.1) rfl rfl hK (fun _ _ => rfl) (fun _ _ => rfl) ⟨hP, hD, hS⟩ hz1 hz2 hc hc0 hs0 hR1 hR2 (by decide) hdg kk⟩
    · cases h
  · -- newarray long
    split at h
    · rename_i hc
      cases h
      exact ⟨rfl, Nat.le_succ _, Nat.le_add_right _ _, fun hR1 hR2 LS kk => zs_newa (atype := .long) (t := 2) (a0 := .inr (.inl (fun _ => 0))) hx hb (hts _ harr.2.2) rfl rfl hK (fun _ _ => rfl) (fun _ _ => rfl) ⟨hP, hD, hS⟩ hz1 hz2 hc hc0 hs0 hR1 hR2 (by decide) hdg kk⟩
    · cases h
  · -- anewarray
    split at h
    · rename_i _ _ hp
      split at h
      · rename_i hc
        cases h
        refine ⟨rfl, Nat.le_succ _, Nat.le_add_right _ _, fun hR1 hR2 LS kk => ?_⟩
        obtain ⟨q0, hq0, -, g1, -⟩ := (hpool _ _ hp).2.2.2.1 rfl
        obtain ⟨q1, hq1, hq2⟩ := hCL
        have hqq : q0 = q1 := Option.some.inj (hq0.1.symm.trans hq1)
        subst hqq
        rw [hq2] at g1
        refine va_newq hx hb hown (hts _ g1) hAO.1 hK hP hD hS (fun q hq => Nat.le_trans hz1 hq) hc.2.2.1 (Eq.refl (Int32.toNatClampNeg _)) (by omega) (by omega) (by omega) hdg (fun q cB H1 a0 a1 a2 a3 => zi_bound fun hsz => ?_)
        have hcB : cB = cA 3 := zs_kind (t := 3) hK a0 rfl
        subst hcB
        have hq : q = h0 + w.length := zi_fresh (fun _ hz => hz) hc.1 a1 a2 (by omega)
        subst hq
        have k2 := kk H1 locs ⟨by rw [zi_w_app]; exact a1, by rw [zi_w_app]; exact a2, a3⟩
        rw [show cn + 1 - c0 = cn - c0 + 1 by omega, show ∀ z, sn + z - s0 = sn - s0 + z from fun z => by omega] at k2
        have e3 : zi_v h0 b (.ref w.length) = .ref (h0 + w.length) := by show Value.ref (zi_ad h0 b w.length) = _; rw [zi_ad_at (by omega)]
        rw [List.map_cons, e3] at k2
        exact k2
      · cases h
    · cases h
  · cases h
set_option maxHeartbeats 4000000 in
theorem zs_pri {d rq : Nat} (hC : zi_Cx P cl TS NW CL D cA lw L xs h0 b c0 d rq k p R s m args meth c) (hpool : ∀ x t, zi_pool P k x = some t → zi_tok P cl TS NW CL k x t) (hH : zi_Hp cl D cA h0 b s w H locs) (hdg : decode (zi_b P k) pc = .ok (i, zi_len i))
    (h : zi_pri P d rq k pc (zi_len i) i ls st w cn sn = some (pc', ls', st', w', cn', sn')) : ls' = ls ∧ cn' = cn ∧ sn' = sn ∧ (cn ≤ c0 + R.cells → sn ≤ s0 + R.slots → ∀ LS : Array Slot, zi_ls h0 b LS ls → ls.length = zi_n P k →
      (∀ (H' : Heap) (locs' : List Loc), zi_Hp cl D cA h0 b s w' H' locs' → W p l e R s m args below meth c H' locs' (cn - c0) (sn - s0) Q (F0 m pc' LS (st'.map (zi_v h0 b)))) → W p l e R s m args below meth c H locs (cn - c0) (sn - s0) Q (F0 m pc LS (st.map (zi_v h0 b)))) := by
  obtain ⟨hx, hb, hml, hr, hlk, ⟨hown, hnamed⟩, hts, hnw, hK, hAO, hin, hz1, hz2, hRf, hRl, hX⟩ := hC
  obtain ⟨hP, hD, hS⟩ := hH
  have hcat : ∀ r : List Value, ((r.map (zi_v h0 b)).map fun v => v.category) = r.map fun v => v.category := fun r => by
    rw [List.map_map]
    exact List.map_congr_left fun v _ => zi_v_cat h0 b v
  unfold zi_pri at h
  split at h
  · split at h
    · rename_i hp
      split at h
      · rename_i hc
        cases h
        obtain ⟨g1, g2, g3⟩ := (hpool _ _ hp).2.2.2.2.2.2.1 rfl rfl
        refine ⟨rfl, rfl, rfl, fun _ _ LS hl hn kk => ?_⟩
        exact W.objInit hx hb hown (hts _ g1) (hts _ g2) (hts _ g3) rfl (by rw [hml, ← hn]; exact hl.1) rfl hdg (by omega) (by show 2 * 0 + _ + 12 ≤ _; rw [hcat]; omega) (kk H locs ⟨hP, hD, hS⟩)
      · cases h
    · cases h
  · split at h
    · rename_i hp
      split at h
      · rename_i hc
        cases h
        obtain ⟨g1, g2, g3, g4⟩ := (hpool _ _ hp).2.2.2.2.2.2.2.1 rfl rfl
        refine ⟨rfl, rfl, rfl, fun q1 q2 LS hl hn kk => ?_⟩
        exact va_mmin hx hb (by rw [hml, ← hn]; exact hl.1.symm) hown (hts _ g1) (hts _ g2) (hts _ g3) (hts _ g4) (by omega) (by rw [hcat]; omega) (by omega) (by omega) hdg (kk H locs ⟨hP, hD, hS⟩)
      · cases h
    · rename_i hp
      split at h
      · rename_i hh
        split at h
        · rename_i n0 f n1 g hg0 hg1
          split at h
          · rename_i hc
            cases h
            cases hh
            obtain ⟨g1, g2, g3, g4⟩ := (hpool _ _ hp).2.2.2.2.2.2.2.2 rfl rfl
            obtain ⟨ha0, hne0⟩ := zi_get_at hg0
            obtain ⟨ha1, hne1⟩ := zi_get_at hg1
            refine ⟨rfl, rfl, rfl, fun q1 q2 LS hl hn kk => ?_⟩
            show W p l e R s m args below meth c H locs _ _ Q (F0 m pc LS (.int _ :: .int _ :: .ref (zi_ad h0 b _) :: .int _ :: .ref (zi_ad h0 b _) :: _))
            rw [zi_ad_at hne0, zi_ad_at hne1]
            exact va_copyi hx hb (by rw [hml, ← hn]; exact hl.1.symm) hown (hts _ g1) (hts _ g2) (hts _ g3) (hts _ g4) hK hP hD hS _ _ 0 0 (zi_w_get ha0) (zi_w_get ha1) rfl rfl rfl hc.2.1 hc.2.2.1 hc.2.2.2.1 hc.2.2.2.2.1 hc.2.2.2.2.2.1 (fun _ _ => rfl) (by omega) (by rw [hcat, show nativeFrameWords "java/lang/System" "arraycopy" 5 = 7 by decide +kernel]; omega) hdg
              (fun H1 l1 a1 a2 a3 => kk H1 l1 ⟨by rw [← zi_w_set]; exact a1, by rw [← zi_w_set]; exact a2, a3⟩)
          · cases h
        · cases h
      · cases h
    · cases h
  · cases h
end ZC
