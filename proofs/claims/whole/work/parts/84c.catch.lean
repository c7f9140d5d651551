/-! Catching: the call that throws, and the handler. -/
section ZCV
variable {exc : Nat → String} {P : zi_P} {cl : List vw_C} {TS NW : List Cond} {CL : String} {lw n : Nat}
/-- how a called method has thrown -/
def zx_T (exc : Nat → String) (cl : List vw_C) (D : va_G) (cA : Nat → ClassId) (h0 b : Nat) (w' : zi_W) (mc ms ex : Nat) (st : State) (a : Addr) (t : State) : Prop :=
  st.WarmedH t.vm ∧ (∃ L : List Loc, st.sameButNew ({ t with vm := st.vm } : State) L mc ms ∧ ∀ q ∈ L, h0 ≤ q.base) ∧ va_P D cl (zi_w cA h0 b w') t.heap ∧ va_D (fun q => h0 ≤ q) (zi_w cA h0 b w') ∧ va_F (fun q => h0 ≤ q) st t ∧
    ∃ ce : Cell, t.heap[a]? = some ce ∧ ce.vm.isStatics = false ∧ st.vm.findClass (exc ex) = some ce.cls
set_option maxHeartbeats 1000000 in
theorem zx_met (ih : zi_Snd exc P cl TS NW CL lw n) {L d rq j cn sn cn' sn' ex : Nat} {xs : Nat → Int32} {as : List Value} {ls : zi_L} {w w' : zi_W} (hj : j ≠ lw) (hrun : zi_run P lw L xs n d rq j 0 ls [] w cn sn = some (.inr ex, w', cn', sn')) (hent : zi_ent as (zi_n P j) = some ls) (D : va_G) (cA : Nat → ClassId) (h0 b : Nat) (l : Launch) (hfl : zx_fl l) (hy : plainFor (zi_y P j) = true) :
    MetFree l (zi_y P j) (headSpec (Cond.code (zi_y P j) (zi_b P j) (zi_n P j) (zi_r P j) :: TS) (zi_rm d rq (cn' - cn) (sn' - sn))) (zi_Pc cl NW CL D cA h0 b cn as w) (fun _ _ _ _ _ => True) (fun _ st o t => ∃ a, o = .threw a ∧ zx_T exc cl D cA h0 b w' (cn' - cn) (sn' - sn) ex st a t) := by
  refine MetFree.of_bodySF (code := zi_b P j) (maxLocals := zi_n P j) (ret := zi_r P j) hy ?_ ?_
  · intro args s m h hn
    obtain ⟨meth, c, h1, h2, h3, h4, h5, h6, -, -⟩ := Cond.code_spec hn (atoms_spec (ws := Cond.code (zi_y P j) (zi_b P j) (zi_n P j) (zi_r P j) :: TS) h _ List.mem_cons_self)
    exact ⟨meth, c, h1, h2, h3, h4, h5, h6⟩
  · intro p e s m args below meth c s₁ B hml hv _
    have hh0 : s₁.heap = s.heap := by rw [B.state]; rfl
    obtain ⟨rfl, hP, hD, hK, hAO, hnw, z1, z2⟩ := hv
    have hmo := zi_run_mono _ _ _ _ _ _ _ _ _ _ _ _ _ _ hrun
    have hts : ∀ w ∈ TS, w.before (as.map (zi_v h0 b)).toArray s = true := fun w hw => atoms_spec (ws := Cond.code (zi_y P j) (zi_b P j) (zi_n P j) (zi_r P j) :: TS) B.pre w (List.mem_cons_of_mem _ hw)
    obtain ⟨hlen, hls⟩ := zi_ent_ls (h0 := h0) (b := b) hent
    have key := ih L xs d rq j 0 ls [] w cn sn (.inr ex) w' cn' sn' hrun hlen l hfl p e (zi_rm d rq (cn' - cn) (sn' - sn)) s m _ below meth c s.heap [] (fun t => zi_Thrn exc cl D cA h0 b s below w' (cn' - cn) (sn' - sn) ex t) _ D cA h0 b cn sn
      ⟨B.exec, B.bytes, hml, B.returns, B.notSynchronized, ⟨findClass_of_methodNamed B.named, B.named⟩, hts, hnw, hK, hAO, fun q => (name_of_methodNamed B.named B.method).1.trans q, z1, z2, Nat.le_refl _, Nat.le_refl _, fun q => absurd q hj⟩ hls ⟨hP, hD, va_S.rf⟩ (Nat.le_refl _) (Nat.le_refl _)
      (by show cn' ≤ cn + (cn' - cn); omega) (by show sn' ≤ sn + (sn' - sn); omega)
      ⟨(fun ho => by cases ho), (fun x ty ho => by cases ho)⟩ (fun ex' ho t ht => by cases ho; exact ht)
    rw [Nat.sub_self, Nat.sub_self] at key
    have key2 : W p l e (zi_rm d rq (cn' - cn) (sn' - sn)) s m (as.map (zi_v h0 b)).toArray below meth c s.heap [] 0 0 (fun t => zi_Thrn exc cl D cA h0 b s below w' (cn' - cn) (sn' - sn) ex t) (entryFrame m (as.map (zi_v h0 b)).toArray (zi_n P j)) := by
      rw [lg_entry_eq]
      exact key
    obtain ⟨t, a1, a, b1, b2, b3⟩ := key2 s₁ hh0 (Stand.of_body B)
    exact ⟨t, .threw a, a1, b1, b2, a, rfl, b3⟩
set_option maxHeartbeats 4000000 in
/-- a call whose exception is caught -/
theorem zx_catch (hO : zi_Ok P cl TS NW CL lw) (ih : zi_Snd exc P cl TS NW CL lw n) {L : Nat} {xs : Nat → Int32} {d rq k pc j ex hpc pcR ix mm ci : Nat} {ls ls' : zi_L} {st as r : List Value} {w w' : zi_W} {cn sn cn' sn' : Nat} {xv : Int32} {hh : List (Nat × Nat × Nat × Nat)}
    (hpool : zi_pool P k ix = some (1, j, mm, .ref ci)) (hdg : decode (zi_b P k) pc = .ok (.invokevirtual ix, 3)) (hinv : zi_inv P k (.invokevirtual ix) st w = some (j, as, r)) (hent : zi_ent as (zi_n P j) = some ls') (hq : 19 + zi_n P j ≤ rq) (hrun : zi_run P lw L xs n d (rq - (19 + zi_n P j)) j 0 ls' [] w cn sn = some (.inr ex, w', cn', sn')) (hlen : ls.length = zi_n P k)
    (hcw : Cond.codeWith (zi_y P k) (zi_b P k) (zi_n P k) (zi_r P k) hh ∈ TS) (hmlk : Cond.methodLink (zi_y P k).cls ix (zi_y P j) ∈ TS) (hret : zi_r P k = some .int)
    (hF : ∀ (p : Program) (l : Launch) (e : Env) (R : Room) (s : State) (m : MethodId) (args : Array Value) (below : List Frame) (meth : Method) (c : Code) (T : State) (locs : List Loc) (cells slots h0' : Nat), Stand p l e R s m args below meth c T locs cells slots → (∀ w ∈ TS, w.before args s = true) → zx_O h0' s → s.vm.findClass (zi_y P k).cls = some m.cls → c.exceptionTable.toList.map (fun h => (h.startPc, h.endPc, h.handlerPc, h.catchType)) = hh →
      ∀ (g : JFrame) (a : Addr) (cell : Cell), g.method = m → g.pc = pc → T.heap[a]? = some cell → cell.vm.isStatics = false → s.vm.findClass (exc ex) = some cell.cls →
      ∃ vm', s.WarmedH vm' ∧ zx_Finds e (T.setFrames (.throwing a :: .java g :: below)) g a (.found hpc) ((T.setVm vm').setFrames (.throwing a :: .java g :: below)))
    (hdR : decode (zi_b P k) pcR = .ok (.ireturn, 1))
    (hgo : ∀ (p : Program) (l : Launch) (e : Env) (R : Room) (s : State) (m : MethodId) (args : Array Value) (below : List Frame) (meth : Method) (c : Code) (H : Heap) (locs : List Loc) (cells slots : Nat) (Q : State → Prop) (h0 b : Nat) (LS : Array Slot) (a : Nat), p.tables.exec = Jvm.exec → c.code = zi_b P k → zi_ls h0 b LS ls → (∀ LS', W p l e R s m args below meth c H locs cells slots Q (F0 m pcR LS' [.int xv])) → W p l e R s m args below meth c H locs cells slots Q (F0 m hpc LS [.ref a])) :
    ∀ (l : Launch), zx_fl l → ∀ (p : Program) (e : Env) (R : Room) (s : State) (m : MethodId) (args : Array Value) (below : List Frame) (meth : Method) (c : Code) (H : Heap) (locs : List Loc) (Q : State → Prop) (LS : Array Slot) (D : va_G) (cA : Nat → ClassId) (h0 b c0 s0 : Nat),
    zi_Cx P cl TS NW CL D cA lw L xs h0 b c0 (d + 1) rq k p R s m args meth c → zi_ls h0 b LS ls → zi_Hp cl D cA h0 b s w H locs → c0 ≤ cn → s0 ≤ sn → cn' ≤ c0 + R.cells → sn' ≤ s0 + R.slots →
    zi_End P cl D cA h0 b k p l e R s m args below meth c Q (cn' - c0) (sn' - s0) (.inl (some (.int xv))) w' →
    W p l e R s m args below meth c H locs (cn - c0) (sn - s0) Q (F0 m pc LS (st.map (zi_v h0 b))) := by
  intro l hfl p e R s m args below meth c H locs Q LS D cA h0 b c0 s0 hC hl hH hc0 hs0 hR1 hR2 hE
  have hmo := zi_run_mono _ _ _ _ _ _ _ _ _ _ _ _ _ _ hrun
  refine zi_bound fun hz => ?_
  have hC0 := hC
  obtain ⟨hx, hb, hml, hr, hlk, ⟨hown, hnamed⟩, hts, hnw, hK, hAO, hin, hz1, hz2, hRf, hRl, hX⟩ := hC
  have hsz : LS.size = zi_n P k := hl.1.trans hlen
  unfold zi_inv at hinv
  simp only [hpool] at hinv
  split at hinv
  · rename_i as1 a r' hpop
    split at hinv
    · rename_i c' fs hg
      split at hinv
      · rename_i hcc
        cases hinv
        obtain ⟨rfl, hsum⟩ := hcc
        obtain ⟨hk0, hk1, -, -⟩ := (hO.2.1 _ _ _ hpool).2
        obtain ⟨f1, f3, f4, f5, f6⟩ := hk0 (Or.inl rfl)
        obtain ⟨g1, g2, g3, g4⟩ := hk1 rfl
        obtain ⟨q, hq1, hq2⟩ := g4 _ rfl
        obtain ⟨ha, hne⟩ := zi_get_at hg
        obtain ⟨hn1, hst⟩ := zi_pop_at hpop
        have he : (zi_w cA h0 b w)[a]? = some (h0 + a, .inr (c', fs.map (zi_v h0 b))) := zi_w_get ha
        obtain ⟨cellB, hB1, hB2, hB3⟩ := va_recv hK hH.1 hq1 he
        rw [hq2] at hB3
        have hM := zx_met ih f5 hrun hent D cA h0 b l hfl f1
        have hstk : (F0 m pc LS (st.map (zi_v h0 b))).stack = (as1.map (zi_v h0 b)).reverse ++ .ref (h0 + a) :: r.map (zi_v h0 b) := by
          show st.map (zi_v h0 b) = _
          rw [hst, List.map_append, List.map_reverse, List.map_cons]
          show _ ++ Value.ref (zi_ad h0 b a) :: _ = _
          rw [zi_ad_at hne]
        intro T hT X
        -- the called method
        obtain ⟨mk, methM, hnM, hmethM, hstM, habM⟩ := Cond.instanceMethod_spec (hts _ g2)
        obtain ⟨methM', cM, hmethM', hcM, -, hlM, -, -, -, hsigM⟩ := Cond.code_spec hnM (hts _ g1)
        cases hmethM.symm.trans hmethM'
        obtain ⟨c2, r2, m2, q1, q2, q3, q4, kP, hkP, hkPi⟩ := Cond.selects_spec (hts _ g3)
        cases hB3.symm.trans q1
        cases (State.methodFound?_of_named hnM ⟨f4.1, f4.2.1⟩).symm.trans q2
        cases hnM.symm.trans q3
        have hselP : selectMethod e.platform s.vm cellB.cls mk = .method mk := by rw [Launch.admits_selectMethod X.admits]; exact q4
        obtain ⟨vm₁, X₁, hstep₁⟩ := X.invokevirtual hx hown (hts _ hmlk) hnM hmethM hstM hkP hkPi ⟨f4.1, f4.2.1⟩ (a := h0 + a) (cell := cellB) (by rw [hT]; exact hB1)
          (fun z h => by rw [h] at hB2; cases hB2) hselP hmethM habM hkP hkPi (g := F0 m pc LS (st.map (zi_v h0 b))) rfl (argsL := as1.map (zi_v h0 b)) (rest := r.map (zi_v h0 b)) (by
            rw [List.length_map, hn1]
            have h2 := f4.2.2
            rw [hsigM] at h2
            exact (Option.some.inj h2).symm) hstk (by rw [hb]; exact hdg)
        have hws := pay_in hts (zs_good (j := j) hO g1)
        have h1 : At (T.setVm vm₁) (F0 m pc LS (r.map (zi_v h0 b))).method c below := X₁.here
        have hroom := X₁.room_calling (g := F0 m pc LS (r.map (zi_v h0 b))) (m' := mk) (args' := (Value.ref (h0 + a) :: as1.map (zi_v h0 b)).toArray) (R' := zi_rm d (rq - (19 + zi_n P j)) (cn' - cn) (sn' - sn)) (hsz.trans hml.symm) (meth' := methM) (code' := cM) (by rw [X₁.warmed.alike.method?]; exact hmethM) hcM (by show d + 1 ≤ R.frames; omega) (by
          have := lv_room (m := m) (pc := pc) (ls := LS) (rest := r.map (zi_v h0 b)) (st := r.map (zi_v h0 b)) (by rw [zs_cats]; exact hsum)
          show 2 * (F0 m pc LS (r.map (zi_v h0 b))).monitorRoom + ((r.map (zi_v h0 b)).map fun v => v.category).sum + (cM.maxLocals + 11) + (rq - (19 + zi_n P j)) ≤ R.locals
          have hlM' : cM.maxLocals = zi_n P j := hlM
          rw [hlM']
          omega) (by show cn - c0 + (cn' - cn) ≤ R.cells; omega) (by show sn - s0 + (sn' - sn) ≤ R.slots; omega)
        obtain ⟨kY, hkY, -⟩ := className_of_methodNamed hnM
        have hinitY : kY.init = .initialized := Cond.initialized_spec (findClass_of_methodNamed hnM) hkY (hts _ f3)
        obtain ⟨kY1, hkY1, heY⟩ := X₁.warmed.alike.2.2 _ _ hkY
        have happ := Spec.appliesLoose_calling (S := headSpec (Cond.code (zi_y P j) (zi_b P j) (zi_n P j) (zi_r P j) :: TS) (zi_rm d (rq - (19 + zi_n P j)) (cn' - cn) (sn' - sn))) (x := zi_y P j) (e := e) (args := (Value.ref (h0 + a) :: as1.map (zi_v h0 b)).toArray) h1 (by rw [hb]; exact hdg) (X₁.named hnM) hkY1 (by rw [heY]; exact hinitY) hroom (atoms_intro fun w hw => hws w hw _ _ X₁.warmed)
        have hpre : zi_Pc cl NW CL D cA h0 b cn (.ref a :: as1) w (Value.ref (h0 + a) :: as1.map (zi_v h0 b)).toArray ((T.setVm vm₁).calling (F0 m pc LS (r.map (zi_v h0 b))) mk (Value.ref (h0 + a) :: as1.map (zi_v h0 b)).toArray) :=
          zi_blind (fun w hw => (hO.2.2.2.2.1 w hw).1) _ _ _ _ (zs_pre hO hC0 hH hc0 hz (by rw [List.map_cons]; show _ = (Value.ref (zi_ad h0 b a) :: _).toArray; rw [zi_ad_at hne]) (T.setVm vm₁) hT X₁.warmed)
        have hfr : ((T.setVm vm₁).setTop (F0 m pc LS (r.map (zi_v h0 b)))).frames = [.java (F0 m pc LS (r.map (zi_v h0 b)))] ++ below := by
          rw [State.frames_setTop' _ h1.top]
          show _ :: (T.setVm vm₁).frames.tail = _
          rw [X₁.tail]
          rfl
        obtain ⟨o, t, hsteps, hrunT, hend, aT, rfl, hT1, ⟨L1, hsame, hL1⟩, hP', hD', hF', ce, hce, hce2, hce3⟩ := Steps.callFree hM p X.admits X.cas X.clock (acts := []) hfr happ hpre trivial
        -- the state behind it, without the note
        have hWt : (T.setVm vm₁).WarmedH t.vm := hT1
        have hsT : (T.setVm vm₁).sameButNew (t.setVm vm₁) L1 (cn' - cn) (sn' - sn) := by
          have h2 : ((T.setVm vm₁).calling (F0 m pc LS (r.map (zi_v h0 b))) mk (Value.ref (h0 + a) :: as1.map (zi_v h0 b)).toArray) = (T.setVm vm₁).setFrames (.invoking mk (Value.ref (h0 + a) :: as1.map (zi_v h0 b)).toArray :: .java (F0 m pc LS (r.map (zi_v h0 b))) :: (T.setVm vm₁).frames.tail) := State.calling_eq h1.top _ _ _
          have hs2 : ((T.setVm vm₁).calling (F0 m pc LS (r.map (zi_v h0 b))) mk (Value.ref (h0 + a) :: as1.map (zi_v h0 b)).toArray).sameButNew (t.setVm vm₁) L1 (cn' - cn) (sn' - sn) := hsame
          rw [h2] at hs2
          have q1 := hs2.1
          rw [State.setFrames_setFrames] at q1
          exact ⟨q1, hs2.2⟩
        have hfT : t.frames = .throwing aT :: .java (F0 m pc LS (r.map (zi_v h0 b))) :: below := by
          have h2 : t.frames = .throwing aT :: ((T.setVm vm₁).setTop (F0 m pc LS (r.map (zi_v h0 b)))).frames := hend
          rw [h2, hfr]
          rfl
        have htq : t = (({ (T.setVm vm₁) with heap := t.heap, slotsUsed := t.slotsUsed } : State).setVm t.vm).setFrames (.throwing aT :: .java (F0 m pc LS (r.map (zi_v h0 b))) :: below) := by
          have q1 := congrArg (fun U : State => U.setVm t.vm) hsT.1
          have q2 : t = (({ (T.setVm vm₁).setFrames t.frames with heap := t.heap, slotsUsed := t.slotsUsed } : State).setVm t.vm) := q1
          rw [hfT] at q2
          exact q2
        have X2 : Stand p l e R s m args below meth c (({ (T.setVm vm₁) with heap := t.heap, slotsUsed := t.slotsUsed } : State).setVm t.vm) (locs ++ L1) (cn - c0 + (cn' - cn)) (sn - s0 + (sn' - sn)) := by
          refine ⟨X.admits, X.cas, X.clock, X.frames, X.room, X.hears, X.method, X.code, (X₁.here.setHeapUsed t.heap t.slotsUsed).setVm hWt.alike, X₁.tail, State.WarmedH.trans X₁.warmed hWt, X₁.limits, X₁.bytes, ?_⟩
          have q3 : (T.setVm vm₁).sameButNew ((({ (T.setVm vm₁) with heap := t.heap, slotsUsed := t.slotsUsed } : State).setVm t.vm).setVm vm₁) L1 (cn' - cn) (sn' - sn) := by
            obtain ⟨-, q⟩ := hsT
            refine ⟨?_, q⟩
            have hself := zx_self X₁
            show ({ (T.setVm vm₁) with heap := t.heap, slotsUsed := t.slotsUsed } : State) = { (T.setVm vm₁).setFrames (T.setVm vm₁).frames with heap := t.heap, slotsUsed := t.slotsUsed }
            rw [hself]
          exact X₁.same.trans (q3.setVm s.vm)
        obtain ⟨mC, methC, cC, hnC, hmC, hcC, -, -, htabC, -, -, -⟩ := Cond.codeWith_spec (hts _ hcw)
        cases hnamed.symm.trans hnC
        cases X.method.symm.trans hmC
        cases X.code.symm.trans hcC
        have hce3' : s.vm.findClass (exc ex) = some ce.cls := by
          rw [← hce3]
          exact (X₁.warmed.alike.findClass (exc ex) _).symm
        obtain ⟨vm', hWv, hfind⟩ := hF p l e R s m args below meth c _ _ _ _ h0 X2 hts hAO.2 hown htabC (F0 m pc LS (r.map (zi_v h0 b))) aT ce rfl rfl hce hce2 hce3'
        -- on at the handler
        have X3 := X2.noted hWv
        have hHp : zi_Hp cl D cA h0 b s w' t.heap (locs ++ L1) := by
          refine ⟨hP', hD', ?_, fun q h3 h4 => ?_, fun q hq => ?_⟩
          · have := hF'.1
            have h5 : T.heap.size ≤ t.heap.size := this
            have := hH.2.2.1
            rw [hT] at h5
            omega
          · have h5 : t.heap[q]? = T.heap[q]? := hF'.2 q (by show q < T.heap.size; have := hH.2.2.1; rw [hT]; omega) h4
            rw [h5, hT]
            exact hH.2.2.2.1 q h3 h4
          · rcases List.mem_append.mp hq with h | h
            · exact hH.2.2.2.2 q h
            · exact hL1 q h
        have key : W p l e R s m args below meth c t.heap (locs ++ L1) (cn - c0 + (cn' - cn)) (sn - s0 + (sn' - sn)) Q (F0 m hpc LS [.ref aT]) := by
          refine hgo p l e R s m args below meth c t.heap _ _ _ Q h0 b LS aT hx hb hl fun LS' => ?_
          rw [show cn - c0 + (cn' - cn) = cn' - c0 by omega, show sn - s0 + (sn' - sn) = sn' - s0 by omega]
          exact hE.2 xv .int rfl hret rfl t.heap (locs ++ L1) LS' pcR hHp hdR
        obtain ⟨tt, a1, b1⟩ := key ((({ (T.setVm vm₁) with heap := t.heap, slotsUsed := t.slotsUsed } : State).setVm t.vm).setVm vm') rfl X3
        refine ⟨tt, hstep₁ _ fun acts => ?_, b1⟩
        rw [doInvoke_state]
        rw [zx_topped X3] at a1
        have a2 := zx_caught X2 aT (g := F0 m pc LS (r.map (zi_v h0 b))) rfl hfind a1
        rw [← htq] at a2
        exact hsteps.trans a2
      · cases hinv
    · cases hinv
  · cases hinv
end ZCV
