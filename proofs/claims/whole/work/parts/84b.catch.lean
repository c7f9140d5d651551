/-! Catching: what a called method throws is caught in the caller. -/
section ZCT
variable {p : Program} {l : Launch} {e : Env} {R : Room} {s : State} {m : MethodId} {args : Array Value} {below : List Frame} {meth : Method} {c : Code} {T : State} {locs : List Loc} {cells slots : Nat}
/-- what the search for a handler gives, and the state that it leaves -/
def zx_Finds (e : Env) (s : State) (f : JFrame) (a : Addr) (h : Handler) (s' : State) : Prop := ∀ (Q : Handler → Pre) (E : CtlPost) (d : Bool) (acts : List Action), wp (findHandler f a) Q E e d acts s ↔ Q h d acts s'
theorem zx_go {E : CtlPost} {d : Bool} {acts : List Action} {Q : Handler → Pre} {f : JFrame} {a : Addr} {x : ExceptionTableEntry} {t : List ExceptionTableEntry} {ct : ClassId} {cell : Cell} {vm' : Vm} (hx : covers x f.pc = true) (h0 : x.catchType ≠ 0)
    (hg : (Jvm.resolveClass f.method.cls x.catchType).Gives e.toSetting s.vm (.ok ct) vm') (hsz : vm'.classes.size ≤ s.vm.classes.size) (hcell : s.heap[a]? = some cell) (hobj : ∀ k, cell.vm ≠ .statics k)
    (hk : ∃ k, vm'.classes[cell.cls]? = some k) (hc : ∃ k, vm'.classes[ct]? = some k) :
    wp (findHandler.go f a (x :: t)) Q E e d acts s ↔ if vm'.assignable cell.cls ct = true then Q (.found x.handlerPc) d acts (s.setVm vm') else wp (findHandler.go f a t) Q E e d acts (s.setVm vm') := by
  simp only [covers] at hx
  obtain ⟨ha, ht⟩ := hg.op (op := VmOp.resolveClass f.method.cls x.catchType) rfl
  cases hfit : vm'.assignable cell.cls ct <;>
    simp [findHandler.go, hx, h0, ha, ht, hsz, hcell, hobj, hk, hc, hfit, VmOp.dirties, VmOp.acts]
theorem zx_stepCatch {a : Addr} {f : JFrame} {r : List Frame} {pc : Nat} {s' : State} (hfind : zx_Finds e s f a (.found pc) s') :
    (stepThrowing e s a (.java f :: r)).Is (s'.setFrames (.java { f with pc := pc, stack := [.ref a] } :: r)) [] := by
  simp only [stepThrowing, searchFrame, vmDo]
  generalize hr : Sem.go _ e false [] s = res
  obtain ⟨as, rfl, ha⟩ := Sem.eq_ok_of hr (a := Handler.found pc) (s' := s') (acts' := []) (by simp [hfind _ _ _ _])
  exact ⟨rfl, ha⟩
theorem zx_pushed (X : Stand p l e R s m args below meth c T locs cells slots) (g : JFrame) (a : Addr) : (T.setTop g).pushFrame (.throwing a) = T.setFrames (.throwing a :: .java g :: below) := by
  obtain ⟨g₀, hg⟩ := Option.isSome_iff_exists.mp X.here.top
  obtain ⟨r, hr⟩ := State.topJava?_eq_some.mp hg
  have ht := X.tail
  rw [hr] at ht
  have ht : r = below := ht
  rw [State.pushFrame, State.frames_setTop' g X.here.top, State.setTop_of_frames _ hr, State.setFrames_setFrames, hr, ht]
  rfl
theorem zx_topped (X : Stand p l e R s m args below meth c T locs cells slots) (g : JFrame) : T.setTop g = T.setFrames (.java g :: below) := by
  obtain ⟨g₀, hg⟩ := Option.isSome_iff_exists.mp X.here.top
  obtain ⟨r, hr⟩ := State.topJava?_eq_some.mp hg
  have ht := X.tail
  rw [hr] at ht
  have ht : r = below := ht
  rw [State.setTop_of_frames _ hr, ht]
/-- the walk goes on at the handler -/
theorem zx_caught {target : State} {vm' : Vm} (X : Stand p l e R s m args below meth c T locs cells slots) (a : Addr) {g : JFrame} (hg : g.method = m) {pc : Nat}
    (hfind : zx_Finds e (T.setFrames (.throwing a :: .java g :: below)) g a (.found pc) ((T.setVm vm').setFrames (.throwing a :: .java g :: below)))
    (hrest : Steps p.tables e below ((T.setVm vm').setFrames (.java { g with pc := pc, stack := [.ref a] } :: below)) target) :
    Steps p.tables e below (T.setFrames (.throwing a :: .java g :: below)) target := by
  have h : At T g.method c below := by rw [hg]; exact X.here
  obtain ⟨hgo, hw⟩ := h.throwing a
  have hf := frames_entered (g := g) h.top (.throwing a)
  rw [zx_pushed X g a] at hgo hw hf
  rw [X.tail] at hf
  refine Steps.head hgo hw ?_
  rw [stepThread_throwing hf, (zx_stepCatch hfind).1, State.setFrames_setFrames]
  exact hrest
end ZCT
section ZCU
variable {p : Program} {l : Launch} {e : Env} {R : Room} {s : State} {m : MethodId} {args : Array Value} {below : List Frame} {meth : Method} {c : Code} {T : State} {locs : List Loc} {cells slots : Nat}
theorem zx_link (X : Stand p l e R s m args below meth c T locs cells slots) {vm0 : Vm} (hW : s.WarmedH vm0) {C own : String} {i0 : Nat} (hown : s.vm.findClass own = some m.cls) (hl : (Cond.classLink own i0 C).before args s = true) (hin : (Cond.instantiable C 6).before args s = true) :
    ∃ (ct : ClassId) (vm' : Vm), s.vm.findClass C = some ct ∧ (Jvm.resolveClass m.cls i0).Gives e.toSetting vm0 (.ok ct) vm' ∧ s.WarmedH vm' ∧ vm'.classes.size ≤ vm0.classes.size ∧ ∀ vm'' : Vm, s.WarmedH vm'' → ∃ k, vm''.classes[ct]? = some k := by
  have hpl : e.platform.magicAccessors = ({} : Platform).magicAccessors := by rw [X.admits.platform]
  obtain ⟨ct, hfc, hcl⟩ := Cond.classLink_spec hown hl e.platform hpl
  obtain ⟨hg₁, hw₁, -⟩ := State.classEntry (e := e) hW hcl
  obtain ⟨cC, kC, hfc2, hk, -⟩ := Cond.instantiable_spec hin
  cases hfc.symm.trans hfc2
  refine ⟨ct, _, hfc, hg₁, hw₁, ?_, fun vm'' hW'' => ?_⟩
  · rw [hw₁.2.1, hW.2.1]
    exact Nat.le_refl _
  · obtain ⟨k₁, hk₁, -⟩ := hW''.alike.2.2 _ _ hk
    exact ⟨k₁, hk₁⟩
theorem zx_find1 (X : Stand p l e R s m args below meth c T locs cells slots) {g : JFrame} (hg : g.method = m) {a : Addr} {cell : Cell} (hcell : T.heap[a]? = some cell) (hobj : cell.vm.isStatics = false) {C own : String} {st en hp0 i0 : Nat} {rest : List (Nat × Nat × Nat × Nat)} (hcls : s.vm.findClass C = some cell.cls) (hown : s.vm.findClass own = some m.cls)
    (htab : c.exceptionTable.toList.map (fun h => (h.startPc, h.endPc, h.handlerPc, h.catchType)) = (st, en, hp0, i0) :: rest) (hcov : st ≤ g.pc ∧ g.pc < en) (hi0 : i0 ≠ 0) (hl : (Cond.classLink own i0 C).before args s = true) (hca : (Cond.castable C C).before args s = true) (hin : (Cond.instantiable C 6).before args s = true) :
    ∃ vm', s.WarmedH vm' ∧ zx_Finds e (T.setFrames (.throwing a :: .java g :: below)) g a (.found hp0) ((T.setVm vm').setFrames (.throwing a :: .java g :: below)) := by
  obtain ⟨ct, vm₁, hfc, hg₁, hw₁, hsz₁, hkk⟩ := zx_link X X.warmed hown hl hin
  cases hcls.symm.trans hfc
  obtain ⟨c3, c4, e3, e4, hasg⟩ := Cond.castable_spec hca
  cases hcls.symm.trans e3
  cases hcls.symm.trans e4
  cases hT : c.exceptionTable.toList with
  | nil => rw [hT] at htab; cases htab
  | cons x t =>
    rw [hT] at htab
    have h1 := (List.cons.inj htab).1
    have x1 : x.startPc = st := congrArg (fun q => q.1) h1
    have x2 : x.endPc = en := congrArg (fun q => q.2.1) h1
    have x3 : x.handlerPc = hp0 := congrArg (fun q => q.2.2.1) h1
    have x4 : x.catchType = i0 := congrArg (fun q => q.2.2.2) h1
    refine ⟨vm₁, hw₁, fun Q E d acts => ?_⟩
    rw [Jvm.W.findHandler_eq (s := T.setFrames (.throwing a :: .java g :: below)) (f := g) (by rw [hg]; exact X.method') X.code, hT, zx_go (s := T.setFrames (.throwing a :: .java g :: below)) (cell := cell) (ct := cell.cls) (vm' := vm₁) (by simp [covers, x1, x2, hcov]) (by rw [x4]; exact hi0) (by rw [hg, x4]; exact hg₁) hsz₁ hcell (fun z h => by rw [h] at hobj; cases hobj) (hkk vm₁ hw₁) (hkk vm₁ hw₁), if_pos ((hw₁.alike.assignable _ _).trans hasg), x3]
    exact Iff.rfl
theorem zx_find2 (X : Stand p l e R s m args below meth c T locs cells slots) {g : JFrame} (hg : g.method = m) {a : Addr} {cell : Cell} (hcell : T.heap[a]? = some cell) (hobj : cell.vm.isStatics = false) {C C0 own : String} {st en hp0 i0 st1 en1 hp1 i1 : Nat} {rest : List (Nat × Nat × Nat × Nat)} (hcls : s.vm.findClass C = some cell.cls) (hown : s.vm.findClass own = some m.cls)
    (htab : c.exceptionTable.toList.map (fun h => (h.startPc, h.endPc, h.handlerPc, h.catchType)) = (st, en, hp0, i0) :: (st1, en1, hp1, i1) :: rest) (hcov : st ≤ g.pc ∧ g.pc < en) (hcov1 : st1 ≤ g.pc ∧ g.pc < en1) (hi0 : i0 ≠ 0) (hi1 : i1 ≠ 0) (hl0 : (Cond.classLink own i0 C0).before args s = true) (hin0 : (Cond.instantiable C0 6).before args s = true) (hl : (Cond.classLink own i1 C).before args s = true) (hca : (Cond.castable C C).before args s = true) (hin : (Cond.instantiable C 6).before args s = true)
    (hno : ∀ c t, s.vm.findClass C = some c → s.vm.findClass C0 = some t → s.vm.assignable c t = false) :
    ∃ vm', s.WarmedH vm' ∧ zx_Finds e (T.setFrames (.throwing a :: .java g :: below)) g a (.found hp1) ((T.setVm vm').setFrames (.throwing a :: .java g :: below)) := by
  obtain ⟨ct0, vm₀, hfc0, hg₀, hw₀, hsz₀, hkk0⟩ := zx_link X X.warmed hown hl0 hin0
  obtain ⟨ct, vm₁, hfc, hg₁, hw₁, hsz₁, hkk⟩ := zx_link X hw₀ hown hl hin
  cases hcls.symm.trans hfc
  obtain ⟨c3, c4, e3, e4, hasg⟩ := Cond.castable_spec hca
  cases hcls.symm.trans e3
  cases hcls.symm.trans e4
  have hn := hno _ _ hcls hfc0
  cases hT : c.exceptionTable.toList with
  | nil => rw [hT] at htab; cases htab
  | cons x t =>
    cases t with
    | nil => rw [hT] at htab; cases (List.cons.inj htab).2
    | cons x' t =>
      rw [hT] at htab
      have h1 := (List.cons.inj htab).1
      have h2 := (List.cons.inj (List.cons.inj htab).2).1
      have x1 : x.startPc = st := congrArg (fun q => q.1) h1
      have x2 : x.endPc = en := congrArg (fun q => q.2.1) h1
      have x4 : x.catchType = i0 := congrArg (fun q => q.2.2.2) h1
      have y1 : x'.startPc = st1 := congrArg (fun q => q.1) h2
      have y2 : x'.endPc = en1 := congrArg (fun q => q.2.1) h2
      have y3 : x'.handlerPc = hp1 := congrArg (fun q => q.2.2.1) h2
      have y4 : x'.catchType = i1 := congrArg (fun q => q.2.2.2) h2
      refine ⟨vm₁, hw₁, fun Q E d acts => ?_⟩
      rw [Jvm.W.findHandler_eq (s := T.setFrames (.throwing a :: .java g :: below)) (f := g) (by rw [hg]; exact X.method') X.code, hT, zx_go (s := T.setFrames (.throwing a :: .java g :: below)) (cell := cell) (ct := ct0) (vm' := vm₀) (by simp [covers, x1, x2, hcov]) (by rw [x4]; exact hi0) (by rw [hg, x4]; exact hg₀) hsz₀ hcell (fun z h => by rw [h] at hobj; cases hobj) (hkk vm₀ hw₀) (hkk0 vm₀ hw₀), if_neg (by rw [hw₀.alike.assignable, hn]; decide),
        zx_go (s := (T.setFrames (.throwing a :: .java g :: below)).setVm vm₀) (cell := cell) (ct := cell.cls) (vm' := vm₁) (by simp [covers, y1, y2, hcov1]) (by rw [y4]; exact hi1) (by rw [hg, y4]; exact hg₁) hsz₁ hcell (fun z h => by rw [h] at hobj; cases hobj) (hkk vm₁ hw₁) (hkk vm₁ hw₁), if_pos ((hw₁.alike.assignable _ _).trans hasg), y3]
      exact Iff.rfl
theorem zx_notcast {s0 U : State} {A B : String} (hW : s0.WarmedH U.vm) (h : (Cond.not (.castable A B)).before #[] s0 = true) : ∀ c t, U.vm.findClass A = some c → U.vm.findClass B = some t → U.vm.assignable c t = false := by
  intro c t h1 h2
  rw [hW.alike.findClass] at h1 h2
  rw [hW.alike.assignable]
  simp only [Cond.before, Cond.holds, Cond.value] at h
  cases ha : s0.vm.assignable c t with
  | false => rfl
  | true => simp [h1, h2, ha] at h
end ZCU
