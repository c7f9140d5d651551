/-! The claim: the law's own walk, from the interpreter's answer. -/
def R_law : String := "PatienceTableLaw"
def lw_P (b : Addr) (xs : List Int32) (args : Array Value) (s : State) : Prop := args = #[.ref b] ∧ s.IntsAt b xs ∧ xs.length ≤ 2560 ∧ (Jvm.Cond.and given_1 narrow_1).before args s = true
def lw_Q (_ : Array Value) (s : State) (o : Outcome) (t : State) : Prop := o = .returned (some (.int 1)) ∧ Framed s o t [] 601024 7293034
def lw_Z (below : List Frame) (a : Array Value) (s : State) : State → Prop := fun t => ∃ o, t.status = .running ∧ Ended t below o ∧ lw_Q a s o t
/-- the law's end: what it wrote is new, and it kept to its room -/
theorem zl_ret {p : Program} {l : Launch} {e : Env} {s : State} {m : MethodId} {below : List Frame} {meth : Method} {c : Code} {b : Nat} (hx : p.tables.exec = Jvm.exec) (hb : c.code = code) (hr : meth.sig.returnType = ret) (hlocks : meth.locks = false) {pc cells slots : Nat} {H : Heap} {locs : List Loc} {ls : Array Slot} (hl : ∀ q ∈ locs, s.heap.size ≤ q.base) (hc : cells ≤ 601024) (hs : slots ≤ 7293034) (hdg : decode code pc = .ok (.ireturn, 1)) :
    W p l e room_1 s m #[Value.ref b] below meth c H locs cells slots (lw_Z below #[Value.ref b] s) (F0 m pc ls [.int 1]) := by
  intro T hT X
  obtain ⟨fs, hret, hrun, hended, hW, hframe⟩ := X.leave (v := some (.int 1)) (hlocks := hlocks) (fun h => by rw [hr] at h; cases h)
  have hmeth' : T.vm.method? m = some meth := X.method'
  refine ⟨T.setFrames fs, ?_, .returned (some (.int 1)), hrun, hended, rfl, ⟨_, rfl⟩, hW, hframe.weaken (fun y hy hlt => absurd hlt (Nat.not_lt.mpr (hl y hy))) hc hs⟩
  jvm_step X.here [X.here.top, hx, hb, hdg, hmeth', hr, ret, narrow_b1]
  (try refine ⟨rfl, ?_⟩); (try refine ⟨rfl, ?_⟩)
  first | (intro acts; rw [hret _ acts rfl rfl rfl]) | rw [hret _ _ rfl rfl rfl]
  exact Steps.refl _
def lw_At (p : Program) (s : State) (m : MethodId) (meth : Method) (c : Code) (b L : Nat) (xs : Nat → Int32) : Prop :=
  p.tables.exec = Jvm.exec ∧ c.code = code ∧ meth.sig.returnType = ret ∧ c.maxLocals = 7 ∧ s.vm.findClass R_law = some m.cls ∧ (∀ w ∈ lw_tbl, w.before #[Value.ref b] s = true) ∧ va_X b L xs s s.heap ∧ b < s.heap.size ∧ meth.locks = false ∧ (Jvm.Cond.and given_1 narrow_1).before #[Value.ref b] s = true
def zc_lw (w : Cond) : Bool := decide (w ∈ lw_tbl)
theorem zc_lw_ok {w : Cond} (h : zc_lw w = true) : w ∈ lw_tbl := by
  unfold zc_lw at h
  rwa [decide_eq_true_eq] at h
/-- the words of the start -/
def zc_nar (w : Cond) : Bool := match w with
  | .isRef _ => true
  | .not _ => true
  | _ => false
theorem zc_wsT : zx_ws.all (fun w => zc_nar w || zc_lw w) = true := by decide +kernel
theorem zc_wsN : ∀ w ∈ zx_ws, zc_nar w = true → w ∈ flatC (Jvm.Cond.and given_1 narrow_1) := by
  have h : zx_ws.all (fun w => !(zc_nar w) || decide (w ∈ flatC (Jvm.Cond.and given_1 narrow_1))) = true := by decide +kernel
  intro w hw hn
  have h1 := List.all_eq_true.mp h w hw
  rw [hn] at h1
  simpa using h1
def zc_noarg : Cond → Bool
  | .stringRef _ _ _ => true
  | .isRef (.static _ _ _) => true
  | .not (.castable _ _) => true
  | .laysStatic _ _ _ => true
  | .declares _ => true
  | .castable _ _ => true
  | _ => false
theorem zc_noarg_ok {w : Cond} {A B : Array Value} {s : State} (h : zc_noarg w = true) (hb : w.before A s = true) : w.before B s = true := by
  unfold zc_noarg at h
  split at h <;> first | exact hb | (cases h)
theorem zc_wsA : zx_ws.all zc_noarg = true := by decide +kernel
theorem zl_O {s : State} {A : Array Value} (hts : ∀ w ∈ lw_tbl, w.before A s = true) (hgv : (Jvm.Cond.and given_1 narrow_1).before A s = true) : zx_O s.heap.size s := by
  refine ⟨s, State.WarmedH.refl s, Nat.le_refl _, fun _ _ => rfl, fun w hw => ?_⟩
  refine zc_noarg_ok (A := A) (List.all_eq_true.mp zc_wsA w hw) ?_
  have h1 := List.all_eq_true.mp zc_wsT w hw
  rw [Bool.or_eq_true] at h1
  rcases h1 with q | q
  · exact flat_of_before _ hgv w (zc_wsN w hw q)
  · exact hts w (zc_lw_ok q)
theorem zl_inst : ∀ (c : Nat) (q : vw_C), zp_cl[c]? = some q → ∃ n, Cond.instantiable q.1 n ∈ zp_TS
  | 0, q, h => by cases h; exact ⟨6, zc_mem_ok (by decide +kernel)⟩
  | 1, q, h => by cases h; exact ⟨6, zc_mem_ok (by decide +kernel)⟩
  | 2, q, h => by cases h; exact ⟨6, zc_mem_ok (by decide +kernel)⟩
  | 3, q, h => by cases h; exact ⟨6, zc_mem_ok (by decide +kernel)⟩
  | 4, q, h => by cases h; exact ⟨10, zc_mem_ok (by decide +kernel)⟩
  | 5, q, h => by cases h; exact ⟨29, zc_mem_ok (by decide +kernel)⟩
  | n + 6, q, h => by cases h
theorem zl_K {s : State} {A : Array Value} (hts : ∀ w ∈ zp_TS, w.before A s = true) (hao : va_AO "PatienceTable$Layout" s) : ∃ (D : va_G) (cA : Nat → ClassId), va_K D zp_cl (zi_tys cA "PatienceTable$Layout") s := by
  have hall : ∀ c : Nat, ∃ (cC : ClassId) (iS : Nat → Nat), ∀ q : vw_C, zp_cl[c]? = some q → u_Kn s q.1 q.2.1 q.2.2 cC iS := by
    intro c
    cases hc : zp_cl[c]? with
    | none => exact ⟨0, fun _ => 0, fun q h => by cases h⟩
    | some q =>
      obtain ⟨-, hws, -, -⟩ := zp_cls c q hc
      obtain ⟨n, hn⟩ := zl_inst c q hc
      obtain ⟨cC, iS, h⟩ := u_known hts hws (hts _ hn)
      exact ⟨cC, iS, fun q' hq' => by cases hq'; exact h⟩
  obtain ⟨-, -, -, ⟨t0, t1, t2⟩, -, -⟩ := zp_ok
  obtain ⟨c0, k0, m0, a0, b0, d0⟩ := Cond.arrayClass_spec (hts _ t0)
  obtain ⟨c1, k1, m1, a1, b1, d1⟩ := Cond.arrayClass_spec (hts _ t1)
  obtain ⟨c2, k2, m2, a2, b2, d2⟩ := Cond.arrayClass_spec (hts _ t2)
  obtain ⟨m3, c3, k3, e3, -, b3, d3, a3⟩ := Cond.arrayOver_spec hao
  refine ⟨(fun c => Classical.choose (hall c), fun c => Classical.choose (Classical.choose_spec (hall c))), fun i => match i with | 0 => c0 | 1 => c1 | 2 => c2 | _ => c3, fun c q hc => Classical.choose_spec (Classical.choose_spec (hall c)) q hc, fun k q hk => ?_⟩
  match k, hk with
  | 0, hk => cases hk; exact ⟨fun n z => ⟨fun j h => (by cases h), k0, b0, m0, d0⟩, a0⟩
  | 1, hk => cases hk; exact ⟨fun n z => ⟨fun j h => (by cases h), k1, b1, m1, d1⟩, a1⟩
  | 2, hk => cases hk; exact ⟨fun n z => ⟨fun j h => (by cases h), k2, b2, m2, d2⟩, a2⟩
  | 3, hk => cases hk; exact ⟨fun n z => ⟨fun j h => (by cases h), k3, b3, m3, d3⟩, k3, m3, b3, d3, e3, a3⟩
  | n + 4, hk => cases hk
theorem zl_snd (n : Nat) : zi_Snd zx_exc zp zp_cl zp_TS zp_NW "PatienceTable$Layout" 0 n := zi_sound zp_ok zp_throws (zp_catches zp_ok) n
set_option maxHeartbeats 1000000 in
theorem whole_start {p : Program} {e : Env} {s : State} {m : MethodId} {below : List Frame} {meth : Method} {c : Code} (l : Launch) (hfl : zx_fl l) {b L : Nat} {xs : Nat → Int32} (hL : L ≤ 2560) (C0 : lw_At p s m meth c b L xs) (hn : s.methodNamed? x = some m) : W p l e room_1 s m #[Value.ref b] below meth c s.heap [] 0 0 (lw_Z below #[Value.ref b] s) (entryFrame m ([Value.ref b] : List Value).toArray 7) := by
  obtain ⟨hx, hb, hr, hml, hown, hts, hX, hbl, hlk, hgv⟩ := C0
  have htT : ∀ w ∈ zp_TS, w.before #[Value.ref b] s = true := fun w hw => hts w (List.mem_filter.mp hw).1
  have htN : ∀ w ∈ zp_NW, va_Nw w s := fun w hw => va_tabs (zp_nest_ok (List.mem_filter.mp hw).2).1 rfl (hts w (List.mem_filter.mp hw).1)
  have hao : va_AO "PatienceTable$Layout" s := va_AO.of (hts _ (zc_lw_ok (by decide +kernel)))
  obtain ⟨D, cA, hK⟩ := zl_K htT hao
  have hO := zl_O hts hgv
  obtain ⟨ls, hent, n, o, w', cn', sn', hrun, v, rfl, rfl, hcn, hsn⟩ := law_all (L := L) (xs := xs) (by omega)
  obtain ⟨hlen, hls⟩ := zi_ent_ls (h0 := s.heap.size) (b := b) hent
  have hmap : ([Value.ref zi_X] : List Value).map (zi_v s.heap.size b) = [.ref b] := by
    show [Value.ref (zi_ad s.heap.size b zi_X)] = _
    unfold zi_ad
    rw [if_pos rfl]
  rw [hmap] at hls
  have key := zl_snd n L xs 10 394 0 0 ls [] [] 0 0 (.inl (some (.int 1))) w' cn' sn' hrun hlen l hfl p e room_1 s m #[Value.ref b] below meth c s.heap [] (lw_Z below #[Value.ref b] s) _ D cA s.heap.size b 0 0
    ⟨hx, hb, hml, hr, hlk, ⟨hown, hn⟩, htT, htN, hK, ⟨hao, hO⟩, (fun q => absurd q (by decide +kernel)), Nat.le_refl _, Nat.le_refl _, Nat.le_refl _, Nat.le_refl _, fun _ => ⟨hX, hbl, hbl⟩⟩ hls
    ⟨(fun k q hq => by cases hq), ⟨(fun i j p q hp => by cases hp), (fun k q hq => by cases hq)⟩, va_S.rf⟩ (Nat.le_refl _) (Nat.le_refl _)
    (by show cn' ≤ 0 + 601024; omega) (by show sn' ≤ 0 + 7293034; omega)
    ⟨(fun ho => by cases ho), (fun y ty ho hr' hn' H' locs' LS' pc' hH' hdg => by
      cases ho
      exact zl_ret hx hb hr hlk (fun q hq => hH'.2.2.2.2 q hq) (by omega) (by omega) hdg)⟩ (fun ex ho => by cases ho)
  rw [lg_entry_eq]
  exact key
set_option maxHeartbeats 4000000 in
theorem lw_walk (l : Launch) (hfl : zx_fl l) (b : Addr) (xs : List Int32) : MetFree l x (headSpec (Jvm.Cond.code x code maxLocals ret :: tables_1) room_1) (lw_P b xs) (fun _ _ _ _ _ => True) lw_Q := by
  refine MetFree.of_bodyS (code := code) (maxLocals := maxLocals) (ret := ret) (by decide) ?_ ?_
  · intro args s m h hn
    obtain ⟨meth, c, h1, h2, h3, h4, h5, h6, -, -⟩ := Cond.code_spec hn (atoms_spec (ws := Jvm.Cond.code x code maxLocals ret :: tables_1) h _ List.mem_cons_self)
    exact ⟨meth, c, h1, h2, h3, h4, h5, h6⟩
  · intro p e s m args below meth c s₁ B hml0 hP _
    obtain ⟨rfl, hx, hbd, hgv⟩ := hP
    obtain ⟨scr, harrAt, hlist, hof, hsmall⟩ := hx
    obtain ⟨hcb, hkn, -, -⟩ := State.arrayAt?_spec harrAt
    have hown : s.vm.findClass R_law = some m.cls := findClass_of_methodNamed B.named
    have hts0 : ∀ c ∈ (Jvm.Cond.code x code maxLocals ret :: tables_1), c.before #[Value.ref b] s = true := atoms_spec (ws := Jvm.Cond.code x code maxLocals ret :: tables_1) B.pre
    have hts : ∀ w ∈ lw_tbl, w.before #[Value.ref b] s = true := k2_hts_sels lw_privs (fun w hw => hts0 w (List.mem_cons_of_mem _ hw)) lw_privs_ok
    have hml : c.maxLocals = 7 := B.maxLocals_eq (hts0 _ List.mem_cons_self)
    have X₀ : Stand p l e room_1 s m #[Value.ref b] below meth c s₁ [] 0 0 := Stand.of_body B
    have hh0 : s₁.heap = s.heap := by rw [B.state]; rfl
    have hsz : scr.slots.size = xs.length := by rw [← Array.length_toList, hlist, List.length_map]
    have hval : ∀ j : Nat, j < xs.length → scr.slots[j]? = some (.int (xs.getD j 0)) := fun j hj => by
      rw [← Array.getElem?_toList, hlist]
      simp [hj]
    have hbl : b < s.heap.size := (Array.getElem?_eq_some_iff.mp hcb).1
    have hX : va_X b xs.length (fun j => xs.getD j 0) s s.heap := ⟨scr, hcb, hof, hkn, hsz, hval⟩
    have K : W p l e room_1 s m #[Value.ref b] below meth c s₁.heap [] 0 0 (lw_Z below #[Value.ref b] s) (entryFrame m ([Value.ref b] : List Value).toArray 7) := by
      rw [hh0]
      exact whole_start l hfl hbd ⟨B.exec, B.bytes, B.returns, hml, hown, hts, hX, hbl, B.notSynchronized, hgv⟩ B.named
    obtain ⟨t, a1, o, b1, b2, b3⟩ := K s₁ rfl X₀
    exact ⟨t, o, a1, b1, b2, b3⟩
theorem lw_pre_spec {args : Array Value} {s : State} (h : (Jvm.Cond.and given_1 narrow_1).before args s = true) (hr : rest_1_c.before args s = true) : ∃ (b : Addr) (xs : List Int32), lw_P b xs args s := by
  have hs := flat_of_before _ h
  have hq := flat_of_before _ hr
  have hc : (Cond.count 1).before args s = true := hs _ (by decide +kernel)
  have harr : (Cond.arrayOf (.arg 0) .int).before args s = true := hs _ (by decide +kernel)
  have hle : (Cond.le (.length (.arg 0)) (.int 2560)).before args s = true := hs _ (by decide +kernel)
  have hlen : (Cond.isInt (.length (.arg 0))).before args s = true := hq _ (by decide +kernel)
  have hall : (Cond.all (.arg 0) (.isInt (.elem (.arg 0) (.index 0)))).before args s = true := hq _ (by decide +kernel)
  obtain ⟨b, xs, hb, hx⟩ := State.ints_of_pre rfl harr hlen hall
  have hsm : xs.length < 2 ^ 31 := hx.choose_spec.2.2.2
  have hev : (Term.length (.arg 0)).eval args s none [] s = some (.int xs.length.toInt32) := hx.length_eval hb
  have hv := Cond.le_ints hev (show (Term.int 2560).eval args s none [] s = some (.int 2560) from rfl)
  have hd : xs.length.toInt32 ≤ 2560 := by
    simpa [Cond.before, Cond.holds, hv] using hle
  have hN : xs.length ≤ 2560 := (Int32.ofNat_le_ofNat hsm (by decide)).mp (show Int32.ofNat xs.length ≤ Int32.ofNat 2560 from hd)
  exact ⟨b, xs, Cond.one_arg hc (show args[0]? = some (.ref b) from hb), hx, hN, h⟩
theorem lw_comes (l : Launch) (hfl : zx_fl l) : Comes l x (Jvm.Cond.code x code maxLocals ret :: tables_1) room_1 (fun tb e args s => Calls_1 tb e args s ∧ rest_1 tb e args s ∧ Pre_1 tb e args s)
    (fun _ _ args s o t => lw_Q args s o t) := by
  intro p e ha hc hk s m args below hf hfit hheap happ hpre
  obtain ⟨b, xs, hP⟩ := lw_pre_spec hpre.2.2 hpre.2.1
  obtain ⟨k, o, h1, h2, h3, hQ⟩ := lw_walk l hfl b xs p e ha hc hk s m args below hf ((Spec.applies_iff_loose hf).mp happ).1 hP trivial
  exact ⟨k, o, h1, h2, h3, hQ⟩
theorem lw_frame {s t : State} {o : Outcome} {args : Array Value} (h : Framed s o t [] 601024 7293034) :
    Framed s o t (fieldLocs frame_1_writes args s ++ arrayLocs frame_1_arrays args s ++ staticLocs frame_1_statics s) 601024 7293034 := h
theorem lw_limb (L : Cond) (hL : ∀ (args : Array Value) (s t : State), L.after args s (.returned (some (.int 1))) t = true) :
    ArmFor flags0 classFile x code maxLocals ret World_1 tables_1 room_1 Calls_1 rest_1 Pre_1
      (fun tb e a s o t => postC L tb e a s o t ∧ Framed s o t (fieldLocs frame_1_writes a s ++ arrayLocs frame_1_arrays a s ++ staticLocs frame_1_statics s) 601024 7293034) := by
  intro l hfl _ _ p e ha hc hk s m args below hf hfit hheap happ hpre
  obtain ⟨k, o, h1, h2, h3, rfl, hF⟩ := lw_comes l hfl p e ha hc hk s m args below hf hfit hheap happ hpre
  exact ⟨k, _, h1, h2, h3, hL args s _, lw_frame hF⟩
theorem i_vc : Claimed_1_1 ∧ Claimed_1_2 := ⟨lw_limb limb_1_1 (fun args s t => by simp [limb_1_1, Cond.after, Cond.holds, Cond.value]), lw_limb limb_1_2 (fun args s t => Cond.after_iff.mpr (by
  first | (rw [show limb_1_2 = Cond.eq .result (.int 1) from rfl, Cond.eq_ints (x := 1) (y := 1) rfl rfl]; simp; done) | (simp [limb_1_2, Cond.value, Term.eval]; done)))⟩
