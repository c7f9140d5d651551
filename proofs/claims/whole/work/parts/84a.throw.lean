/-! Throwing: a new exception is made and thrown out of the method. -/
section ZTH
variable {p : Program} {l : Launch} {e : Env} {R : Room} {s : State} {m : MethodId} {args : Array Value} {below : List Frame} {meth : Method} {c : Code} {T : State} {locs : List Loc} {cells slots : Nat}
theorem zx_self (X : Stand p l e R s m args below meth c T locs cells slots) : T.setFrames T.frames = T := by
  have h2 : T = { s.setFrames T.frames with heap := T.heap, slotsUsed := T.slotsUsed, vm := T.vm } := congrArg (fun U : State => U.setVm T.vm) X.same.1
  have key : ∀ (F : List Frame) (hp : Heap) (u : Nat) (v : Vm), ({ s.setFrames F with heap := hp, slotsUsed := u, vm := v } : State).setFrames F = { s.setFrames F with heap := hp, slotsUsed := u, vm := v } := fun F hp u v => by
    have h := State.setFrames_setFrames s F F
    show ({ (s.setFrames F).setFrames F with heap := hp, slotsUsed := u, vm := v } : State) = _
    rw [h]
  have e1 := key T.frames T.heap T.slotsUsed T.vm
  rw [← h2] at e1
  exact e1
/-- where we stand, taken as a start -/
theorem zx_rebase (X : Stand p l e R s m args below meth c T locs cells slots) {R' : Room} (hf : R'.frames ≤ R.frames) (hl : R'.locals ≤ R.locals) (hc : cells + R'.cells ≤ R.cells) (hs : slots + R'.slots ≤ R.slots) :
    Stand p l e R' (T.setFrames (.invoking m args :: below)) m args below meth c T [] 0 0 := by
  have hcur : T.cur < T.threads.size := State.cur_lt_of_top X.here.top
  have hF : (T.setFrames (.invoking m args :: below)).frames = .invoking m args :: below := State.frames_setFrames _ hcur
  have hm : (T.setFrames (.invoking m args :: below)).vm.method? m = some meth := X.method'
  have hA : ∀ x, T.vm.method? x = s.vm.method? x := fun x => X.warmed.alike.method? x
  refine ⟨X.admits, X.cas, X.clock, hF, ?_, ?_, hm, X.code, X.here, X.tail, State.WarmedH.refl (T.setFrames (.invoking m args :: below)), (State.stackLimits_setFrames ..).symm, (State.stackBytes_setFrames ..).symm, ?_⟩
  · have h := X.room
    have hb := X.book
    have hz := X.heapSize
    have hu := X.used
    simp only [State.hasRoom, Bool.and_eq_true, decide_eq_true_eq, X.frames, List.length_cons, State.localsInUse_invoking X.frames X.method X.code] at h
    simp only [State.hasRoom, Bool.and_eq_true, decide_eq_true_eq, hF, State.localsInUse_invoking hF hm X.code, List.length_cons, State.stackLimits_setFrames, State.stackBytes_setFrames, X.limits, X.bytes]
    obtain ⟨⟨⟨⟨h1, h2, h3, h4, h5, h6⟩, h7⟩, h8⟩, h9⟩ := h
    refine ⟨⟨⟨⟨by omega, by omega, by omega, by omega, by omega, h6⟩, ?_⟩, ?_⟩, hb⟩
    · show T.heap.size + R'.cells ≤ _
      omega
    · show T.slotsUsed + R'.slots ≤ _
      omega
  · have h := X.hears
    cases below with
    | nil => simpa [State.hears, hA] using h
    | cons f r => cases f <;> simpa [State.hears, State.code?_eq, hA] using h
  · have ht : ∃ t, (T.setFrames (.invoking m args :: below)).frames = t := ⟨_, rfl⟩
    have e1 : (T.setFrames (.invoking m args :: below)).setFrames T.frames = T := by rw [State.setFrames_setFrames]; exact zx_self X
    refine ⟨?_, Nat.le_refl _, Nat.le_refl _, ?_, ?_, fun a cc h => ⟨cc, h, rfl, rfl, fun _ _ => rfl⟩⟩
    · show T = { (T.setFrames (.invoking m args :: below)).setFrames T.frames with heap := T.heap, slotsUsed := T.slotsUsed }
      rw [e1]
    · show T.slotsUsed = T.slotsUsed + ((T.heap.toList.drop T.heap.size).map (·.slots.size)).sum
      rw [List.drop_eq_nil_of_le (by rw [Array.length_toList]; exact Nat.le_refl _)]
      rfl
    · show ((T.heap.toList.drop T.heap.size).map (·.slots.size)).sum ≤ 0
      rw [List.drop_eq_nil_of_le (by rw [Array.length_toList]; exact Nat.le_refl _)]
      exact Nat.le_refl _
theorem zx_tab {w : Cond} {U : State} (hW : s.WarmedH U.vm) (hg : (w.onTables && w.keeps) = true) (h : w.before args s = true) : w.before args U = true := by
  rw [Bool.and_eq_true] at hg
  exact Cond.onTables_warm (T := U) (args' := args) hW hg.1 hg.2 h
theorem zx_static {s0 U : State} {A : Array Value} {C f d : String} (hW : s0.WarmedH U.vm) (hH : ∀ q, q < s0.heap.size → U.heap[q]? = s0.heap[q]?) (h : (Cond.isRef (.static C f d)).before #[] s0 = true) : (Cond.isRef (.static C f d)).before A U = true := by
  have h1 : (Cond.isRef (.static C f d)).holds #[] (s0.setVm U.vm) none (s0.setVm U.vm) [] = true := Cond.holds_shifted (State.Shifted.of_warmed hW) _ [] rfl h
  have ef : U.fieldNamed? C f d true = (s0.setVm U.vm).fieldNamed? C f d true := rfl
  unfold Cond.before
  unfold Cond.holds Cond.value at h1 ⊢
  simp only [Term.eval] at h1 ⊢
  rw [ef]
  cases hfn : (s0.setVm U.vm).fieldNamed? C f d true with
  | none => rw [hfn] at h1; simp at h1
  | some t =>
    obtain ⟨c', k', sl⟩ := t
    rw [hfn] at h1
    cases hks : k'.statics with
    | none => simp [hks] at h1
    | some aS =>
      cases hc : s0.heap[aS]? with
      | none =>
        simp [hks, hc] at h1
      | some cell =>
        have hu : U.heap[aS]? = some cell := (hH aS (Array.getElem?_eq_some_iff.mp hc).1).trans hc
        simp [hks, hc, hu] at h1 ⊢
        exact h1
theorem zx_lays {s0 U : State} {A : Array Value} {C f d : String} (hW : s0.WarmedH U.vm) (hH : ∀ q, q < s0.heap.size → U.heap[q]? = s0.heap[q]?) (h : (Cond.laysStatic C f d).before #[] s0 = true) : (Cond.laysStatic C f d).before A U = true := by
  have h1 : (Cond.laysStatic C f d).holds #[] (s0.setVm U.vm) none (s0.setVm U.vm) [] = true := Cond.holds_shifted (State.Shifted.of_warmed hW) _ [] rfl h
  obtain ⟨c, k, i, fd, a, cell, e1, e2, e3, e4, e5, e6, e7, e8, e9⟩ := Cond.laysStatic_spec h1
  have e1 : U.vm.findClass C = some c := e1
  have e2 : U.fieldFound? C f d = some (c, k, i, fd) := e2
  have e5 : s0.heap[a]? = some cell := e5
  have hu : U.heap[a]? = some cell := (hH a (Array.getElem?_eq_some_iff.mp e5).1).trans e5
  unfold Cond.before Cond.holds Cond.value
  simp [e1, e2, e3, e4, hu, e6, e7, e8, e9]
theorem zx_face {s0 U : State} {A : Array Value} {w : Cond} (hW : s0.WarmedH U.vm) (hg : (w.onTables && w.keepsFace) = true) (h : w.before #[] s0 = true) : w.before A U = true := by
  rw [Bool.and_eq_true] at hg
  have h1 := Cond.before_shiftedFace (State.Shifted.of_warmed hW) w hg.2 h
  rw [Cond.onTables_vm (A' := A) (U' := U) U.vm w hg.1] at h1
  exact h1
/-- which words of the start go on to hold, and why -/
def zx_kind : Cond → Bool
  | .isRef (.static _ _ _) => true
  | .laysStatic _ _ _ => true
  | w => w.onTables && w.keepsFace
theorem zx_goes {s0 U : State} {A : Array Value} {w : Cond} (hW : s0.WarmedH U.vm) (hH : ∀ q, q < s0.heap.size → U.heap[q]? = s0.heap[q]?) (hk : zx_kind w = true) (h : w.before #[] s0 = true) : w.before A U = true := by
  unfold zx_kind at hk
  split at hk
  · exact zx_static hW hH h
  · exact zx_lays hW hH h
  · exact zx_face hW hk h
/-- a place where an exception is made and thrown -/
theorem zx_throw {exc : Nat → String} {P : zi_P} {cl : List vw_C} {TS NW : List Cond} {CL : String} {lw : Nat} {L : Nat} {xs : Nat → Int32} {d rq k pc ex : Nat} {ls : zi_L} {w : zi_W} {cn sn : Nat} {C tx : String} {ix iS ic : Nat} {names : List String} (h6 : 6 ≤ d) (h90 : 90 ≤ rq) (hlen : ls.length = zi_n P k) (hnm : names.length = 2) (hC : exc ex = C)
    (hd0 : decode (zi_b P k) pc = .ok (.new ix, 3)) (hd3 : decode (zi_b P k) (pc + 3) = .ok (.dup, 1)) (hd4 : decode (zi_b P k) (pc + 3 + 1) = .ok (.ldc iS, 2)) (hd6 : decode (zi_b P k) (pc + 3 + 1 + 2) = .ok (.invokespecial ic, 3)) (hd9 : decode (zi_b P k) (pc + 3 + 1 + 2 + 3) = .ok (.athrow, 1))
    (hcd : Cond.code (zi_y P k) (zi_b P k) (zi_n P k) (zi_r P k) ∈ TS) (hown : (zi_y P k).cls = "PatienceTable") (w1 : Cond.classLink "PatienceTable" ix C ∈ TS) (w2 : Cond.instantiable C 6 ∈ TS) (w3 : Cond.initialized C ∈ TS)
    (hat : ∀ a ∈ Bundle.ownAtoms "PatienceTable" ic C names, (a ∈ TS ∧ (a.onTables && a.keeps) = true) ∨ (a ∈ zx_ws ∧ zx_kind a = true))
    (hstr : Cond.stringRef "PatienceTable" iS tx ∈ zx_ws) (hf1 : Bundle.fit C = true) (hf2 : ∀ n ∈ names, Bundle.fit n = true) :
    ∀ (l : Launch), zx_fl l → ∀ (p : Program) (e : Env) (R : Room) (s : State) (m : MethodId) (args : Array Value) (below : List Frame) (meth : Method) (c : Code) (H : Heap) (locs : List Loc) (Q : State → Prop) (LS : Array Slot) (D : va_G) (cA : Nat → ClassId) (h0 b c0 s0 : Nat),
    zi_Cx P cl TS NW CL D cA lw L xs h0 b c0 d rq k p R s m args meth c → zi_ls h0 b LS ls → zi_Hp cl D cA h0 b s w H locs → c0 ≤ cn → s0 ≤ sn → cn + 1 ≤ c0 + R.cells → sn + 6 ≤ s0 + R.slots →
    (∀ t, zi_Thrn exc cl D cA h0 b s below w (cn + 1 - c0) (sn + 6 - s0) ex t → Q t) →
    W p l e R s m args below meth c H locs (cn - c0) (sn - s0) Q (F0 m pc LS []) := by
  intro l hfl p e R s m args below meth c H locs Q LS D cA h0 b c0 s0 hCx hls hH hc0 hs0 hR1 hR2 hQ
  obtain ⟨hx, hb, hml, hr, hlk, ⟨hfc, hnamed⟩, hts, hnw, hK, hAO, hin, hz1, hz2, hRf, hRl, hX⟩ := hCx
  obtain ⟨-, s00, o1, o2, o3, o4⟩ := hAO
  rw [hown] at hfc
  intro T hT X
  have htr : e.platform.stackTraces = false := Launch.traces_off hfl X.admits
  have Xb := zx_rebase X (R' := { R with cells := R.cells - (cn - c0), slots := R.slots - (sn - s0) }) (Nat.le_refl _) (Nat.le_refl _) (by show cn - c0 + (R.cells - (cn - c0)) ≤ R.cells; omega) (by show sn - s0 + (R.slots - (sn - s0)) ≤ R.slots; omega)
  have hempty : c.exceptionTable.isEmpty = true := by
    obtain ⟨meth', c', q1, q2, -, -, -, -, q3, -⟩ := Cond.code_spec hnamed (hts _ hcd)
    cases X.method.symm.trans q1
    cases X.code.symm.trans q2
    exact q3
  generalize hS : T.setFrames (.invoking m args :: below) = S at Xb
  have Svm : S.vm = T.vm := by rw [← hS]; rfl
  have Sh : S.heap = T.heap := by rw [← hS]; rfl
  have hW : s.WarmedH S.vm := by rw [Svm]; exact X.warmed
  have tab : ∀ a ∈ TS, (a.onTables && a.keeps) = true → a.before args S = true := fun a ha hg => zx_tab hW hg (hts a ha)
  have hW0 : s00.WarmedH S.vm := State.WarmedH.trans o1 hW
  have hH0 : ∀ q, q < s00.heap.size → S.heap[q]? = s00.heap[q]? := fun q hq => by
    rw [Sh, hT]
    exact (hH.2.2.2.1 q (by omega) (by omega)).trans (o3 q hq)
  have hownS : S.vm.findClass "PatienceTable" = some m.cls := by rw [hW.alike.findClass]; exact hfc
  have hats : ∀ a ∈ Bundle.ownAtoms "PatienceTable" ic C names, a.before args S = true := fun a ha => by
    rcases hat a ha with q | q
    · exact tab a q.1 q.2
    · exact zx_goes hW0 hH0 q.2 (o4 _ q.1)
  have hcur0 : s00.vm.findClass "PatienceTable" = some m.cls := by rw [← hW0.alike.findClass]; exact hownS
  obtain ⟨-, -, -, sa, -, -, -, -, -, hev⟩ := Cond.stringRef_spec (args := #[]) (first := s00) (o := none) (idx := []) hcur0 (o4 _ hstr)
  have Z : vk_R "PatienceTable" iS tx sa S := vk_R.warm hW0 ⟨o4 _ hstr, hev⟩
  obtain ⟨vm₁, cX, kX, hfX, hkX, -, -, X₁, st1⟩ := Xb.newCold hx (own := "PatienceTable") (C := C) (index := ix) (n := 6) hownS (tab _ w1 rfl) (tab _ w2 rfl) (tab _ w3 rfl) (g := F0 m pc LS []) rfl (by rw [hb]; exact hd0) (by show 0 + 1 ≤ R.cells - (cn - c0); omega) (by show 0 + 6 ≤ R.slots - (sn - s0); omega)
  generalize hT1 : (T.setVm vm₁).pushCell { cls := cX, slots := kX.instanceTypes.map defaultValue, vm := .none } = T1 at X₁ st1
  have hcellA : T1.heap[T.heap.size]? = some (freshCell cX kX) := by rw [← hT1]; exact State.heap_pushCell_size _ _
  have key : W p l e { R with cells := R.cells - (cn - c0), slots := R.slots - (sn - s0) } S m args below meth c T1.heap [] (0 + 1) (0 + 6) Q (F0 m (pc + 3) LS [.ref T.heap.size]) := by
    refine lv_dup hx hb hd3 rfl ?_
    refine va_ldcS hx hb hownS Z hd4 ?_
    intro T2 hT2 X2
    obtain ⟨U, hsteps, hrun, hend, hWU, hsame, ce, hce, K⟩ := X2.ctorThrowS hx htr (own := "PatienceTable") (cls := C) (names := names) (ic := ic) hownS hf1 hf2 hats (fun y hy => by cases hy) hfX hkX (a := T.heap.size) (by rw [hT2]; exact hcellA) (by rw [Sh]; exact Nat.le_refl _) (msg := .ref sa) rfl (g := F0 m (pc + 3 + 1 + 2) LS [.ref sa, .ref T.heap.size, .ref T.heap.size]) rfl (by show LS.size = c.maxLocals; rw [hls.1, hlen, hml]) rfl rfl (rest := []) rfl (by rw [hb]; exact hd6) (by rw [hb]; exact hd9) (covers_of_empty hempty _) (by show names.length + 3 < R.frames; omega) (by
        show 2 * (F0 m (pc + 3 + 1 + 2) LS [.ref sa, .ref T.heap.size, .ref T.heap.size]).monitorRoom + 1 + (13 * (names.length + 1) + 42) ≤ R.locals
        have hmr : (F0 m (pc + 3 + 1 + 2) LS [.ref sa, .ref T.heap.size, .ref T.heap.size]).monitorRoom = 0 := rfl
        rw [hmr, hnm]; omega) hlk
    refine ⟨U, hsteps, hQ U ?_⟩
    have hsT : T.sameButNew (U.setVm T.vm) [] (0 + 1) (0 + 6) := by
      rw [← hS] at hsame
      have q1 := hsame.1
      rw [State.setFrames_setFrames] at q1
      exact ⟨q1, hsame.2⟩
    have keep : ∀ q, q < T.heap.size → U.heap[q]? = T.heap[q]? := fun q hq => by
      have hg := Array.getElem?_eq_getElem hq
      obtain ⟨c', e1, e2, e3, e4⟩ := hsT.2.2.2.2.2 q _ hg
      have e1 : U.heap[q]? = some c' := e1
      have e5 : c'.slots = (T.heap[q]).slots := Array.ext_getElem? fun i => e4 i (by simp)
      rw [e1, hg, e2, e5]
    have full := X.same.trans (hsT.setVm s.vm)
    rw [show cn - c0 + (0 + 1) = cn + 1 - c0 by omega, show sn - s0 + (0 + 6) = sn + 6 - s0 by omega] at full
    have hsz := hH.2.2.1
    have hszU : T.heap.size ≤ U.heap.size := hsT.2.1
    refine ⟨T.heap.size, hrun, hend, State.WarmedH.trans hW hWU, ⟨_, full, fun q hq => ?_⟩, ?_, hH.2.1, ?_, ce, hce, by rw [K.vm]; rfl, ?_⟩
    · rw [List.append_nil] at hq
      exact hH.2.2.2.2 q hq
    · refine hH.1.kept fun k q hk => ?_
      have lt := (hH.1 k q hk).lt
      rw [keep _ (by rw [hT]; exact lt), hT]
    · refine ⟨by rw [hT] at hszU; omega, fun q h1 h2 => ?_⟩
      rw [keep q (by rw [hT]; omega), hT]
      exact hH.2.2.2.1 q h1 h2
    · rw [hC, ← hW.alike.findClass]
      exact K.cls
  obtain ⟨t, a1, b1⟩ := key T1 rfl X₁
  exact ⟨t, st1 t a1, b1⟩
end ZTH
