/-! Throwing: a new exception is made and thrown out of the method. -/
section ZTH
variable {p : Program} {l : Launch} {e : Env} {R : Room} {s : State} {m : MethodId} {args : Array Value} {below : List Frame} {meth : Method} {c : Code} {T : State} {locs : List Loc} {cells slots : Nat}
theorem zx_self (X : Stand p l e R s m args below meth c T locs cells slots) : T.setFrames T.frames = T := by
  have h2 : T = { s.setFrames T.frames with heap := T.heap, slotsUsed := T.slotsUsed, vm := T.vm } := congrArg (fun U : State => U.setVm T.vm) X.same.1
  have key : ∀ (F : List Frame) (hp : Heap) (u : Nat) (v : Vm), ({ s.setFrames F with heap := hp, slotsUsed := u, vm := v } : State).setFrames F = { s.setFrames F with heap := hp, slotsUsed := u, vm := v } := fun F hp u v => by
    have h := State.setFrames_setFrames s F F
    show ({ (s.setFrames F).setFrames F with heap := hp, slotsUsed := u, vm := v } : State) = _
    rw [h]
  have e1 := key T.frames T.heap T.slotsUsed T.vm
  rw [← h2] at e1
  exact e1
/-- where we stand, taken as a start -/
theorem zx_rebase (X : Stand p l e R s m args below meth c T locs cells slots) {R' : Room} (hf : R'.frames ≤ R.frames) (hl : R'.locals ≤ R.locals) (hc : cells + R'.cells ≤ R.cells) (hs : slots + R'.slots ≤ R.slots) :
    Stand p l e R' (T.setFrames (.invoking m args :: below)) m args below meth c T [] 0 0 := by
  have hcur : T.cur < T.threads.size := State.cur_lt_of_top X.here.top
  have hF : (T.setFrames (.invoking m args :: below)).frames = .invoking m args :: below := State.frames_setFrames _ hcur
  have hm : (T.setFrames (.invoking m args :: below)).vm.method? m = some meth := X.method'
  have hA : ∀ x, T.vm.method? x = s.vm.method? x := fun x => X.warmed.alike.method? x
  refine ⟨X.admits, X.cas, X.clock, hF, ?_, ?_, hm, X.code, X.here, X.tail, State.WarmedH.refl (T.setFrames (.invoking m args :: below)), (State.stackLimits_setFrames ..).symm, (State.stackBytes_setFrames ..).symm, ?_⟩
  · have h := X.room
    have hb := X.book
    have hz := X.heapSize
    have hu := X.used
    simp only [State.hasRoom, Bool.and_eq_true, decide_eq_true_eq, X.frames, List.length_cons, State.localsInUse_invoking X.frames X.method X.code] at h
    simp only [State.hasRoom, Bool.and_eq_true, decide_eq_true_eq, hF, State.localsInUse_invoking hF hm X.code, List.length_cons, State.stackLimits_setFrames, State.stackBytes_setFrames, X.limits, X.bytes]
    obtain ⟨⟨⟨⟨h1, h2, h3, h4, h5, h6⟩, h7⟩, h8⟩, h9⟩ := h
    refine ⟨⟨⟨⟨by omega, by omega, by omega, by omega, by omega, h6⟩, ?_⟩, ?_⟩, hb⟩
    · show T.heap.size + R'.cells ≤ _
      omega
    · show T.slotsUsed + R'.slots ≤ _
      omega
  · have h := X.hears
    cases below with
    | nil => simpa [State.hears, hA] using h
    | cons f r => cases f <;> simpa [State.hears, State.code?_eq, hA] using h
  · have ht : ∃ t, (T.setFrames (.invoking m args :: below)).frames = t := ⟨_, rfl⟩
    have e1 : (T.setFrames (.invoking m args :: below)).setFrames T.frames = T := by rw [State.setFrames_setFrames]; exact zx_self X
    refine ⟨?_, Nat.le_refl _, Nat.le_refl _, ?_, ?_, fun a cc h => ⟨cc, h, rfl, rfl, fun _ _ => rfl⟩⟩
    · show T = { (T.setFrames (.invoking m args :: below)).setFrames T.frames with heap := T.heap, slotsUsed := T.slotsUsed }
      rw [e1]
    · show T.slotsUsed = T.slotsUsed + ((T.heap.toList.drop T.heap.size).map (·.slots.size)).sum
      rw [List.drop_eq_nil_of_le (by rw [Array.length_toList]; exact Nat.le_refl _)]
      rfl
    · show ((T.heap.toList.drop T.heap.size).map (·.slots.size)).sum ≤ 0
      rw [List.drop_eq_nil_of_le (by rw [Array.length_toList]; exact Nat.le_refl _)]
      exact Nat.le_refl _
theorem zx_tab {w : Cond} {U : State} (hW : s.WarmedH U.vm) (hg : (w.onTables && w.keeps) = true) (h : w.before args s = true) : w.before args U = true := by
  rw [Bool.and_eq_true] at hg
  exact Cond.onTables_warm (T := U) (args' := args) hW hg.1 hg.2 h
theorem zx_static {s0 U : State} {A : Array Value} {C f d : String} (hW : s0.WarmedH U.vm) (hH : ∀ q, q < s0.heap.size → U.heap[q]? = s0.heap[q]?) (h : (Cond.isRef (.static C f d)).before #[] s0 = true) : (Cond.isRef (.static C f d)).before A U = true := by
  have h1 : (Cond.isRef (.static C f d)).holds #[] (s0.setVm U.vm) none (s0.setVm U.vm) [] = true := Cond.holds_shifted (State.Shifted.of_warmed hW) _ [] rfl h
  have ef : U.fieldNamed? C f d true = (s0.setVm U.vm).fieldNamed? C f d true := rfl
  unfold Cond.before
  unfold Cond.holds Cond.value at h1 ⊢
  simp only [Term.eval] at h1 ⊢
  rw [ef]
  cases hfn : (s0.setVm U.vm).fieldNamed? C f d true with
  | none => rw [hfn] at h1; simp at h1
  | some t =>
    obtain ⟨c', k', sl⟩ := t
    rw [hfn] at h1
    cases hks : k'.statics with
    | none => simp [hks] at h1
    | some aS =>
      cases hc : s0.heap[aS]? with
      | none =>
        simp [hks, hc] at h1
      | some cell =>
        have hu : U.heap[aS]? = some cell := (hH aS (Array.getElem?_eq_some_iff.mp hc).1).trans hc
        simp [hks, hc, hu] at h1 ⊢
        exact h1
theorem zx_lays {s0 U : State} {A : Array Value} {C f d : String} (hW : s0.WarmedH U.vm) (hH : ∀ q, q < s0.heap.size → U.heap[q]? = s0.heap[q]?) (h : (Cond.laysStatic C f d).before #[] s0 = true) : (Cond.laysStatic C f d).before A U = true := by
  have h1 : (Cond.laysStatic C f d).holds #[] (s0.setVm U.vm) none (s0.setVm U.vm) [] = true := Cond.holds_shifted (State.Shifted.of_warmed hW) _ [] rfl h
  obtain ⟨c, k, i, fd, a, cell, e1, e2, e3, e4, e5, e6, e7, e8, e9⟩ := Cond.laysStatic_spec h1
  have e1 : U.vm.findClass C = some c := e1
  have e2 : U.fieldFound? C f d = some (c, k, i, fd) := e2
  have e5 : s0.heap[a]? = some cell := e5
  have hu : U.heap[a]? = some cell := (hH a (Array.getElem?_eq_some_iff.mp e5).1).trans e5
  unfold Cond.before Cond.holds Cond.value
  simp [e1, e2, e3, e4, hu, e6, e7, e8, e9]
theorem zx_face {s0 U : State} {A : Array Value} {w : Cond} (hW : s0.WarmedH U.vm) (hg : (w.onTables && w.keepsFace) = true) (h : w.before #[] s0 = true) : w.before A U = true := by
  rw [Bool.and_eq_true] at hg
  have h1 := Cond.before_shiftedFace (State.Shifted.of_warmed hW) w hg.2 h
  rw [Cond.onTables_vm (A' := A) (U' := U) U.vm w hg.1] at h1
  exact h1
/-- which words of the start go on to hold, and why -/
def zx_kind : Cond → Bool
  | .isRef (.static _ _ _) => true
  | .laysStatic _ _ _ => true
  | w => w.onTables && w.keepsFace
theorem zx_goes {s0 U : State} {A : Array Value} {w : Cond} (hW : s0.WarmedH U.vm) (hH : ∀ q, q < s0.heap.size → U.heap[q]? = s0.heap[q]?) (hk : zx_kind w = true) (h : w.before #[] s0 = true) : w.before A U = true := by
  unfold zx_kind at hk
  split at hk
  · exact zx_static hW hH h
  · exact zx_lays hW hH h
  · exact zx_face hW hk h
/-- the words for an exception whose own constructor passes its text on by a link of any number -/
def zx_last (own : String) (ic : Nat) (C : String) : List Cond :=
  [.methodLink own ic (Bundle.initS C), .instantiable C 6, .selects C Bundle.tFill0 Bundle.tFill0, .selects C Bundle.tFill Bundle.tFill, .isRef (.static Bundle.tN "UNASSIGNED_STACK" Bundle.steD), .isRef (.static Bundle.tN "SUPPRESSED_SENTINEL" Bundle.listD), .fieldLink Bundle.tN 198 Bundle.tN "backtrace" "Ljava/lang/Object;", .lays Bundle.tN Bundle.tN "backtrace" "Ljava/lang/Object;"]
def zx_lay (C : String) : List Cond :=
  [.lays C Bundle.tN "cause" "Ljava/lang/Throwable;", .lays C Bundle.tN "stackTrace" Bundle.steD, .lays C Bundle.tN "suppressedExceptions" Bundle.listD, .lays C Bundle.tN "detailMessage" "Ljava/lang/String;", .lays C Bundle.tN "backtrace" "Ljava/lang/Object;"]
def zx_own (own : String) (ic : Nat) (C Y : String) (r : List String) (i1 : Nat) (b1 : ByteArray) : List Cond := Bundle.throwableAtoms ++ (Bundle.throwableSAtoms ++ (Bundle.passSAtoms C Y i1 b1 ++ (Bundle.chainSAtoms Y r ++ (zx_last own ic C ++ zx_lay C))))
set_option maxHeartbeats 1000000 in
theorem zx_ctor (X : Stand p l e R s m args below meth c T locs cells slots) (hexec : p.tables.exec = Jvm.exec) (htr : e.platform.stackTraces = false) {own C Y : String} {r : List String} {ic i1 : Nat} {b1 : ByteArray} (hown : s.vm.findClass own = some m.cls) (hC : Bundle.fit C = true) (hY : Bundle.fit Y = true) (hr : ∀ n ∈ r, Bundle.fit n = true)
    (b0 : decode b1 0 = .ok (.aload_n 0, 1)) (b2 : decode b1 1 = .ok (.aload_n 1, 1)) (b3 : decode b1 2 = .ok (.invokespecial i1, 3)) (b4 : decode b1 5 = .ok (.return_, 1)) (h : ∀ a ∈ zx_own own ic C Y r i1 b1, a.before args s = true) (hlocs : ∀ x ∈ locs, ∀ cell, s.heap[x.base]? = some cell → cell.vm.isStatics = false)
    {a : Addr} {cX : ClassId} {kX : Class} (hfX : s.vm.findClass C = some cX) (hkX : s.vm.classes[cX]? = some kX) (hcell : T.heap[a]? = some (freshCell cX kX)) (hnew : s.heap.size ≤ a) {msg : Value} (hmsg : msg.isRef = true)
    {g : JFrame} (hg : g.method = m) (hsize : g.locals.size = c.maxLocals) (hlocked : g.locked = none) (hent : g.entered = []) {rest : List Value} (hstack : g.stack = msg :: .ref a :: .ref a :: rest) (hd6 : decode c.code g.pc = .ok (.invokespecial ic, 3)) (hd9 : decode c.code (g.pc + 3) = .ok (.athrow, 1)) (hout : ∀ x ∈ c.exceptionTable.toList, covers x (g.pc + 3) = false)
    (hRf : r.length + 4 < R.frames) (hRl : 2 * g.monitorRoom + ((Value.ref a :: rest).map fun v => v.category).sum + (13 * (r.length + 2) + 42) ≤ R.locals) (hlocks : meth.locks = false) :
    ∃ U : State, Steps p.tables e below (T.setTop g) U ∧ U.status = .running ∧ Ended U below (.threw a) ∧ s.WarmedH U.vm ∧ s.sameButNew ({ U with vm := s.vm } : State) locs cells slots ∧ ∃ ce : Cell, U.heap[a]? = some ce ∧ s.vm.findClass C = some ce.cls ∧ ce.vm = .none := by
  have k1 : e.platform.frameOwnsMonitors = true := by rw [X.admits.platform]
  have k2 : e.platform.finalization = false := by rw [X.admits.platform]
  have k3 : e.platform.magicAccessors = ({} : Platform).magicAccessors := by rw [X.admits.platform]
  have w1 : ∀ q ∈ Bundle.throwableAtoms, q.before args s = true := fun q hq => h q (List.mem_append_left _ hq)
  have w2 : ∀ q ∈ Bundle.throwableSAtoms, q.before args s = true := fun q hq => h q (List.mem_append_right _ (List.mem_append_left _ hq))
  have w3 : ∀ q ∈ Bundle.passSAtoms C Y i1 b1, q.before args s = true := fun q hq => h q (List.mem_append_right _ (List.mem_append_right _ (List.mem_append_left _ hq)))
  have w4 : ∀ q ∈ Bundle.chainSAtoms Y r, q.before args s = true := fun q hq => h q (List.mem_append_right _ (List.mem_append_right _ (List.mem_append_right _ (List.mem_append_left _ hq))))
  have w5 : ∀ q ∈ zx_last own ic C ++ zx_lay C, q.holds args s none s [] = true := fun q hq => h q (List.mem_append_right _ (List.mem_append_right _ (List.mem_append_right _ (List.mem_append_right _ hq))))
  obtain ⟨Th, Z0, L, -, ty⟩ := ThrowableC.of_atoms (args := args) k1 k2 k3 w1
  obtain ⟨Z, M, LZ, LM, hnZ⟩ := Init0T.ofS_atoms (args := args) k3 L ty w2
  obtain ⟨P', Ps, hlen, L', hL, hm', hsup, hpass⟩ := Bundle.chainS (args := args) k3 hnZ r Y hY hr w4
  obtain ⟨P1, L1, hP1, hP1s⟩ := PassC.ofS_atoms (args := args) (s := s) k3 (X := C) (Y := Y) (Bundle.fit_spec hC).1 (Bundle.fit_spec hY).2 b0 b2 b3 b4 w3
  have hs1 : P1.sup = P'.m := Option.some.inj (hP1s.symm.trans hm')
  have hf : s.vm.findClass C = some P1.m.cls := findClass_of_methodNamed hP1
  cases Option.some.inj (hfX.symm.trans hf)
  obtain ⟨c1, kX', hc1, hk, hord, -, -, hn6⟩ := Cond.instantiable_spec (w5 (.instantiable C 6) (by simp [zx_last]))
  cases Option.some.inj (hc1.symm.trans hf)
  cases Option.some.inj (hkX.symm.trans hk)
  have sel : ∀ (y : MethodName) (my : MethodId), s.methodNamed? y = some my → y.cls ≠ "java/lang/invoke/MethodHandle" ∧ y.cls ≠ "java/lang/invoke/VarHandle" → (Cond.selects C y y).holds args s none s [] = true → selectMethod e.platform s.vm P1.m.cls my = .method my := by
    intro y my hy hne hw
    obtain ⟨c2, r2, m2, q1, q2, q3, q4, -⟩ := Cond.selects_spec hw
    cases Option.some.inj (q1.symm.trans hf)
    cases Option.some.inj (q2.symm.trans (State.methodFound?_of_named hy hne))
    cases Option.some.inj (q3.symm.trans hy)
    rw [Launch.admits_selectMethod X.admits]
    exact q4
  obtain ⟨cS0, hcS0, hiss⟩ := ty.statics
  obtain ⟨u0, hu0⟩ := Cond.staticRefV ty.unassigned L.unassignedStatic L.statics hcS0 hiss (w5 (.isRef (.static Bundle.tN "UNASSIGNED_STACK" Bundle.steD)) (by simp [zx_last]))
  obtain ⟨sen, hsen⟩ := Cond.staticRefV ty.sentinel L.sentinelStatic L.statics hcS0 hiss (w5 (.isRef (.static Bundle.tN "SUPPRESSED_SENTINEL" Bundle.listD)) (by simp [zx_last]))
  obtain ⟨cB, iB, fB, j1, j2, j3, j4, -, j5, j6, j7⟩ := Cond.ownField (t := .object "java/lang/Object") ty.found L.cls (by decide +kernel) (w5 (.fieldLink Bundle.tN 198 Bundle.tN "backtrace" "Ljava/lang/Object;") (by simp [zx_last])) (w5 (.lays Bundle.tN Bundle.tN "backtrace" "Ljava/lang/Object;") (by simp [zx_last])) e.platform k3
  obtain ⟨cS, hcS, heS, -, hkeep⟩ := X.same.2.2.2.2.2 Th.aS cS0 hcS0
  have hcS : T.heap[Th.aS]? = some cS := hcS
  have hnin : ∀ i, (⟨Th.aS, i⟩ : Loc) ∉ locs := fun i hi => by
    have q := hlocs _ hi cS0 hcS0
    rw [hiss] at q
    cases q
  have hkn : cS.vm ≠ .unknown := by
    rw [heS]
    intro q
    rw [show cS0.vm = .unknown from q] at hiss
    cases hiss
  have hne : Th.aS ≠ a := Nat.ne_of_lt (Nat.lt_of_lt_of_le (Array.getElem?_eq_some_iff.mp hcS0).1 hnew)
  obtain ⟨iM, hfM⟩ := ty.msg
  obtain ⟨tC, dC, eC, nC⟩ := Cond.laysAt hf hk ty.cause (w5 (.lays C Bundle.tN "cause" "Ljava/lang/Throwable;") (by simp [zx_lay]))
  obtain ⟨tS, dS, eS, nS⟩ := Cond.laysAt hf hk ty.stack (w5 (.lays C Bundle.tN "stackTrace" Bundle.steD) (by simp [zx_lay]))
  obtain ⟨tP, dP, eP, nP⟩ := Cond.laysAt hf hk ty.supp (w5 (.lays C Bundle.tN "suppressedExceptions" Bundle.listD) (by simp [zx_lay]))
  obtain ⟨tM, dM, eM, nM⟩ := Cond.laysAt hf hk hfM (w5 (.lays C Bundle.tN "detailMessage" "Ljava/lang/String;") (by simp [zx_lay]))
  obtain ⟨tB, dB, eB, nB⟩ := Cond.laysAt hf hk j7 (w5 (.lays C Bundle.tN "backtrace" "Ljava/lang/Object;") (by simp [zx_lay]))
  have x1 := Cond.laysApart eB eC nB nC (by rw [j5, ty.causeName]; decide)
  have x2 := Cond.laysApart eB eS nB nS (by rw [j5, ty.stackName]; decide)
  have x3 := Cond.laysApart eB eP nB nP (by rw [j5, ty.suppName]; decide)
  have hskip : SkipFacts Th e.platform s (fun u => u) u0 ((preparedCellV Th.toThrowableT (freshCell P1.m.cls kX) a u0 sen).withEntry T.cur) := by
    refine ⟨{ ci198 := cB, i198 := iB, fBack := fB }, ⟨j1, j2, j3, j4⟩, ?_, fun _ _ => rfl⟩
    have q := fresh_default (c := P1.m.cls) tB
    rw [j6] at q
    simpa [preparedCellV, Cell.setSlot, Cell.withEntry, Array.getElem?_setIfInBounds, x1, x2, x3, x1.symm, x2.symm, x3.symm, defaultValue] using q
  obtain ⟨tm, methC, cdC, kC, vm₁, hnC, -, -, -, -, -, -, -, hW₁, st1⟩ := Steps.initColdS (tb := p.tables) (e := e) (below := below) (s := s) (U := T) X.here hexec X.warmed k3 hown (t := Bundle.initS C) rfl rfl (Bundle.fit_spec hC).2 (w5 (.methodLink own ic (Bundle.initS C)) (by simp [zx_last])) (w3 (.instanceMethod (Bundle.initS C)) (by simp [Bundle.passSAtoms])) (bytes := b1) (maxL := 2) (w3 (.code (Bundle.initS C) b1 2 none) (by simp [Bundle.passSAtoms])) (f := g) hg (a := a) (msg := msg) (rest := .ref a :: rest) hstack hd6
  cases Option.some.inj (hnC.symm.trans hP1)
  have X₁ := X.noted hW₁
  obtain ⟨vm₂, X₂, st2⟩ := X₁.ctorMessageOffV hexec (g := { g with stack := .ref a :: rest }) hg hsize Th L Z LZ M LM (P1 :: P' :: Ps)
    (fun q hq => by
      rcases List.mem_cons.mp hq with rfl | hq
      · exact L1
      · rcases List.mem_cons.mp hq with rfl | hq
        · exact L'
        · exact hL q hq) ⟨hs1, hsup, hpass⟩ (u0 := u0) (sen := sen) (self := a) hmsg (cell := freshCell P1.m.cls kX) (cellS := cS) hcell (fun _ => by simp) (by simp) rfl rfl
    (sel _ _ ty.fill0 (by decide) (w5 _ (by simp [zx_last]))) (sel _ _ ty.fill (by decide) (w5 _ (by simp [zx_last]))) hcS hne hkn (by rw [hkeep _ (hnin _)]; exact hu0) (by rw [hkeep _ (hnin _)]; exact hsen)
    (Takes.of_laid hk hord tC (by rw [ty.causeType]; rfl)) (Takes.of_laid hk hord tS (by rw [ty.stackType]; exact fits_refV_array _ u0)) (Takes.of_laid hk hord tP (by rw [ty.suppType]; exact fits_refV_object _ sen)) (Takes.of_laid hk hord tM (by rw [ty.msgType]; exact fits_refV_object _ ⟨msg, hmsg⟩)) ty.objLocals hskip htr [] hd6
    (by simp only [List.length_cons, hlen]; omega) (by simp only [List.length_cons, hlen]; exact hRl)
  obtain ⟨hwalk, hrun, hended, hWU, hsame⟩ := X₂.athrowLeaves hexec (g := { g with stack := .ref a :: rest, pc := g.pc + 3 }) hg hlocked hent hout (a := a) (rest := rest) rfl hd9
  have hlt : a < ((T.setVm vm₁).setVm vm₂).heap.size := (Array.getElem?_eq_some_iff.mp hcell).1
  have hU := heapAt_setCell_self (s := (T.setVm vm₁).setVm vm₂) (plainBareV Th.toThrowableT (freshCell P1.m.cls kX) a u0 sen msg) hlt
  refine ⟨_, st1 _ (fun acts => ?_), hrun, hended, hWU, hsame.weaken (fun y hy hlt' => ?_) (Nat.le_refl _) (Nat.le_refl _), _, hU, hf, rfl⟩
  · rw [doInvoke_state]
    exact st2 _ hwalk
  · rcases List.mem_append.mp hy with q | q
    · exact q
    · exfalso
      have hb : y.base = a := by
        simp only [List.mem_cons, List.not_mem_nil, or_false] at q
        rcases q with rfl | rfl | rfl | rfl | rfl <;> rfl
      rw [hb] at hlt'
      exact Nat.not_lt.mpr hnew hlt'
/-- a place where an exception is made and thrown -/
theorem zx_throw {exc : Nat → String} {P : zi_P} {cl : List vw_C} {TS NW : List Cond} {CL : String} {lw : Nat} {L : Nat} {xs : Nat → Int32} {d rq k pc ex : Nat} {ls : zi_L} {w : zi_W} {cn sn : Nat} {C tx : String} {ix iS ic i1 : Nat} {b1 : ByteArray} {Y : String} {r : List String} (h6 : 6 ≤ d) (h90 : 90 ≤ rq) (hlen : ls.length = zi_n P k) (hnm : r.length = 1) (hC : exc ex = C)
    (e0 : decode b1 0 = .ok (.aload_n 0, 1)) (e2 : decode b1 1 = .ok (.aload_n 1, 1)) (e3 : decode b1 2 = .ok (.invokespecial i1, 3)) (e4 : decode b1 5 = .ok (.return_, 1))
    (hd0 : decode (zi_b P k) pc = .ok (.new ix, 3)) (hd3 : decode (zi_b P k) (pc + 3) = .ok (.dup, 1)) (hd4 : decode (zi_b P k) (pc + 3 + 1) = .ok (.ldc iS, 2)) (hd6 : decode (zi_b P k) (pc + 3 + 1 + 2) = .ok (.invokespecial ic, 3)) (hd9 : decode (zi_b P k) (pc + 3 + 1 + 2 + 3) = .ok (.athrow, 1))
    (hcd : Cond.code (zi_y P k) (zi_b P k) (zi_n P k) (zi_r P k) ∈ TS) (hown : (zi_y P k).cls = "PatienceTable") (w1 : Cond.classLink "PatienceTable" ix C ∈ TS) (w2 : Cond.instantiable C 6 ∈ TS) (w3 : Cond.initialized C ∈ TS)
    (hat : ∀ a ∈ zx_own "PatienceTable" ic C Y r i1 b1, (a ∈ TS ∧ (a.onTables && a.keeps) = true) ∨ (a ∈ zx_ws ∧ zx_kind a = true))
    (hstr : Cond.stringRef "PatienceTable" iS tx ∈ zx_ws) (hf1 : Bundle.fit C = true) (hfY : Bundle.fit Y = true) (hf2 : ∀ n ∈ r, Bundle.fit n = true) :
    ∀ (l : Launch), zx_fl l → ∀ (p : Program) (e : Env) (R : Room) (s : State) (m : MethodId) (args : Array Value) (below : List Frame) (meth : Method) (c : Code) (H : Heap) (locs : List Loc) (Q : State → Prop) (LS : Array Slot) (D : va_G) (cA : Nat → ClassId) (h0 b c0 s0 : Nat),
    zi_Cx P cl TS NW CL D cA lw L xs h0 b c0 d rq k p R s m args meth c → zi_ls h0 b LS ls → zi_Hp cl D cA h0 b s w H locs → c0 ≤ cn → s0 ≤ sn → cn + 1 ≤ c0 + R.cells → sn + 6 ≤ s0 + R.slots →
    (∀ t, zi_Thrn exc cl D cA h0 b s below w (cn + 1 - c0) (sn + 6 - s0) ex t → Q t) →
    W p l e R s m args below meth c H locs (cn - c0) (sn - s0) Q (F0 m pc LS []) := by
  intro l hfl p e R s m args below meth c H locs Q LS D cA h0 b c0 s0 hCx hls hH hc0 hs0 hR1 hR2 hQ
  obtain ⟨hx, hb, hml, hr, hlk, ⟨hfc, hnamed⟩, hts, hnw, hK, hAO, hin, hz1, hz2, hRf, hRl, hX⟩ := hCx
  obtain ⟨-, s00, o1, o2, o3, o4⟩ := hAO
  rw [hown] at hfc
  intro T hT X
  have htr : e.platform.stackTraces = false := Launch.traces_off hfl X.admits
  have Xb := zx_rebase X (R' := { R with cells := R.cells - (cn - c0), slots := R.slots - (sn - s0) }) (Nat.le_refl _) (Nat.le_refl _) (by show cn - c0 + (R.cells - (cn - c0)) ≤ R.cells; omega) (by show sn - s0 + (R.slots - (sn - s0)) ≤ R.slots; omega)
  have hempty : c.exceptionTable.isEmpty = true := by
    obtain ⟨meth', c', q1, q2, -, -, -, -, q3, -⟩ := Cond.code_spec hnamed (hts _ hcd)
    cases X.method.symm.trans q1
    cases X.code.symm.trans q2
    exact q3
  generalize hS : T.setFrames (.invoking m args :: below) = S at Xb
  have Svm : S.vm = T.vm := by rw [← hS]; rfl
  have Sh : S.heap = T.heap := by rw [← hS]; rfl
  have hW : s.WarmedH S.vm := by rw [Svm]; exact X.warmed
  have tab : ∀ a ∈ TS, (a.onTables && a.keeps) = true → a.before args S = true := fun a ha hg => zx_tab hW hg (hts a ha)
  have hW0 : s00.WarmedH S.vm := State.WarmedH.trans o1 hW
  have hH0 : ∀ q, q < s00.heap.size → S.heap[q]? = s00.heap[q]? := fun q hq => by
    rw [Sh, hT]
    exact (hH.2.2.2.1 q (by omega) (by omega)).trans (o3 q hq)
  have hownS : S.vm.findClass "PatienceTable" = some m.cls := by rw [hW.alike.findClass]; exact hfc
  have hats : ∀ a ∈ zx_own "PatienceTable" ic C Y r i1 b1, a.before args S = true := fun a ha => by
    rcases hat a ha with q | q
    · exact tab a q.1 q.2
    · exact zx_goes hW0 hH0 q.2 (o4 _ q.1)
  have hcur0 : s00.vm.findClass "PatienceTable" = some m.cls := by rw [← hW0.alike.findClass]; exact hownS
  obtain ⟨-, -, -, sa, -, -, -, -, -, hev⟩ := Cond.stringRef_spec (args := #[]) (first := s00) (o := none) (idx := []) hcur0 (o4 _ hstr)
  have Z : vk_R "PatienceTable" iS tx sa S := vk_R.warm hW0 ⟨o4 _ hstr, hev⟩
  obtain ⟨vm₁, cX, kX, hfX, hkX, -, -, X₁, st1⟩ := Xb.newCold hx (own := "PatienceTable") (C := C) (index := ix) (n := 6) hownS (tab _ w1 rfl) (tab _ w2 rfl) (tab _ w3 rfl) (g := F0 m pc LS []) rfl (by rw [hb]; exact hd0) (by show 0 + 1 ≤ R.cells - (cn - c0); omega) (by show 0 + 6 ≤ R.slots - (sn - s0); omega)
  generalize hT1 : (T.setVm vm₁).pushCell { cls := cX, slots := kX.instanceTypes.map defaultValue, vm := .none } = T1 at X₁ st1
  have hcellA : T1.heap[T.heap.size]? = some (freshCell cX kX) := by rw [← hT1]; exact State.heap_pushCell_size _ _
  have key : W p l e { R with cells := R.cells - (cn - c0), slots := R.slots - (sn - s0) } S m args below meth c T1.heap [] (0 + 1) (0 + 6) Q (F0 m (pc + 3) LS [.ref T.heap.size]) := by
    refine lv_dup hx hb hd3 rfl ?_
    refine va_ldcS hx hb hownS Z hd4 ?_
    intro T2 hT2 X2
    obtain ⟨U, hsteps, hrun, hend, hWU, hsame, ce, hce, K1, K2⟩ := zx_ctor X2 hx htr (own := "PatienceTable") (C := C) (Y := Y) (r := r) (ic := ic) hownS hf1 hfY hf2 e0 e2 e3 e4 hats (fun y hy => by cases hy) hfX hkX (a := T.heap.size) (by rw [hT2]; exact hcellA) (by rw [Sh]; exact Nat.le_refl _) (msg := .ref sa) rfl (g := F0 m (pc + 3 + 1 + 2) LS [.ref sa, .ref T.heap.size, .ref T.heap.size]) rfl (by show LS.size = c.maxLocals; rw [hls.1, hlen, hml]) rfl rfl (rest := []) rfl (by rw [hb]; exact hd6) (by rw [hb]; exact hd9) (covers_of_empty hempty _) (by show r.length + 4 < R.frames; omega) (by
        show 2 * (F0 m (pc + 3 + 1 + 2) LS [.ref sa, .ref T.heap.size, .ref T.heap.size]).monitorRoom + 1 + (13 * (r.length + 2) + 42) ≤ R.locals
        have hmr : (F0 m (pc + 3 + 1 + 2) LS [.ref sa, .ref T.heap.size, .ref T.heap.size]).monitorRoom = 0 := rfl
        rw [hmr, hnm]; omega) hlk
    refine ⟨U, hsteps, hQ U ?_⟩
    have hsT : T.sameButNew (U.setVm T.vm) [] (0 + 1) (0 + 6) := by
      rw [← hS] at hsame
      have q1 := hsame.1
      rw [State.setFrames_setFrames] at q1
      exact ⟨q1, hsame.2⟩
    have keep : ∀ q, q < T.heap.size → U.heap[q]? = T.heap[q]? := fun q hq => by
      have hg := Array.getElem?_eq_getElem hq
      obtain ⟨c', e1, e2, e3, e4⟩ := hsT.2.2.2.2.2 q _ hg
      have e1 : U.heap[q]? = some c' := e1
      have e5 : c'.slots = (T.heap[q]).slots := Array.ext_getElem? fun i => e4 i (by simp)
      rw [e1, hg, e2, e5]
    have full := X.same.trans (hsT.setVm s.vm)
    rw [show cn - c0 + (0 + 1) = cn + 1 - c0 by omega, show sn - s0 + (0 + 6) = sn + 6 - s0 by omega] at full
    have hsz := hH.2.2.1
    have hszU : T.heap.size ≤ U.heap.size := hsT.2.1
    refine ⟨T.heap.size, hrun, hend, State.WarmedH.trans hW hWU, ⟨_, full, fun q hq => ?_⟩, ?_, hH.2.1, ?_, ce, hce, by rw [K2]; rfl, ?_⟩
    · rw [List.append_nil] at hq
      exact hH.2.2.2.2 q hq
    · refine hH.1.kept fun k q hk => ?_
      have lt := (hH.1 k q hk).lt
      rw [keep _ (by rw [hT]; exact lt), hT]
    · refine ⟨by rw [hT] at hszU; omega, fun q h1 h2 => ?_⟩
      rw [keep q (by rw [hT]; omega), hT]
      exact hH.2.2.2.1 q h1 h2
    · rw [hC, ← hW.alike.findClass]
      exact K1
  obtain ⟨t, a1, b1⟩ := key T1 rfl X₁
  exact ⟨t, st1 t a1, b1⟩
end ZTH
