/-! What the interpreter answers, the machine does: calls, and a whole run. -/
theorem zi_run_mono {P : zi_P} {lw L : Nat} {xs : Nat → Int32} : ∀ (n d q k pc : Nat) (ls : zi_L) (st : List Value) (w : zi_W) (cn sn : Nat) (o : zi_O) (w' : zi_W) (cn' sn' : Nat), zi_run P lw L xs n d q k pc ls st w cn sn = some (o, w', cn', sn') → cn ≤ cn' ∧ sn ≤ sn' := by
  intro n
  induction n with
  | zero => intro d q k pc ls st w cn sn o w' cn' sn' h; cases h
  | succ n ih =>
    intro d q k pc ls st w cn sn o w' cn' sn' h
    unfold zi_run at h
    split at h
    · split at h
      · cases h; exact ⟨Nat.le_succ _, Nat.le_add_right _ _⟩
      · cases h
    · split at h
      · cases h
      · split at h
        · cases h; exact ⟨Nat.le_refl _, Nat.le_refl _⟩
        · split at h
          · split at h
            · rename_i hc
              have h2 := ih _ _ _ _ _ _ _ _ _ _ _ _ _ h
              exact ⟨Nat.le_trans hc.1 h2.1, Nat.le_trans hc.2.1 h2.2⟩
            · cases h
          · split at h
            · split at h
              · cases h
              · split at h
                rotate_left
                · cases h
                split at h
                · rename_i hr
                  have h1 := ih _ _ _ _ _ _ _ _ _ _ _ _ _ hr
                  have h2 := ih _ _ _ _ _ _ _ _ _ _ _ _ _ h
                  exact ⟨Nat.le_trans h1.1 h2.1, Nat.le_trans h1.2 h2.2⟩
                · rename_i hr
                  have h1 := ih _ _ _ _ _ _ _ _ _ _ _ _ _ hr
                  split at h
                  · cases h; exact h1
                  · cases h
                · cases h
            · cases h
theorem zi_pop_spec : ∀ (n : Nat) (acc st as r : List Value), zi_pop n acc st = some (as, r) → ∃ ys : List Value, ys.length = n ∧ as = ys.reverse ++ acc ∧ st = ys ++ r
  | 0, acc, st, as, r, h => by
    unfold zi_pop at h
    cases h
    exact ⟨[], rfl, rfl, rfl⟩
  | n + 1, acc, [], as, r, h => by
    unfold zi_pop at h
    cases h
  | n + 1, acc, v :: st, as, r, h => by
    unfold zi_pop at h
    obtain ⟨ys, h1, h2, h3⟩ := zi_pop_spec n (v :: acc) st as r h
    exact ⟨v :: ys, by rw [List.length_cons, h1], by rw [h2]; simp, by rw [h3]; rfl⟩
theorem zi_pop_at {n : Nat} {st as r : List Value} (h : zi_pop n [] st = some (as, r)) : as.length = n ∧ st = as.reverse ++ r := by
  obtain ⟨ys, h1, h2, h3⟩ := zi_pop_spec n [] st as r h
  rw [List.append_nil] at h2
  subst h2
  exact ⟨by rw [List.length_reverse, h1], by rw [List.reverse_reverse]; exact h3⟩
theorem zi_args_mem {h0 b : Nat} : ∀ (as : List Value) (k : Nat), as.all (fun v => v.category == 1) = true → ∀ (i : Nat) (v : Value), as[i]? = some v → (k + i, zi_v h0 b v) ∈ lv_args k (as.map (zi_v h0 b))
  | [], k, _, i, v, h => by simp at h
  | a :: as, k, hc, i, v, h => by
    simp only [List.all_cons, Bool.and_eq_true, beq_iff_eq] at hc
    show (k + i, zi_v h0 b v) ∈ (k, zi_v h0 b a) :: lv_args (if (zi_v h0 b a).category = 2 then k + 2 else k + 1) (as.map (zi_v h0 b))
    rw [if_neg (by rw [zi_v_cat, hc.1]; decide)]
    cases i with
    | zero =>
      cases h
      exact List.mem_cons_self
    | succ i =>
      have h2 := zi_args_mem (h0 := h0) (b := b) as (k + 1) hc.2 i v h
      rw [show k + (i + 1) = k + 1 + i by omega]
      exact List.mem_cons_of_mem _ h2
theorem zi_sl_len {h0 b : Nat} : ∀ (as : List Value), as.all (fun v => v.category == 1) = true → (lg_sl (as.map (zi_v h0 b))).length = as.length
  | [], _ => rfl
  | a :: as, hc => by
    simp only [List.all_cons, Bool.and_eq_true, beq_iff_eq] at hc
    show (List.flatMap (fun v => if v.category = 2 then [Slot.val v, .second] else [.val v]) (zi_v h0 b a :: as.map (zi_v h0 b))).length = _
    rw [List.flatMap_cons, if_neg (by rw [zi_v_cat, hc.1]; decide), List.length_append, List.length_cons, List.length_cons]
    have h := zi_sl_len (h0 := h0) (b := b) as hc.2
    unfold lg_sl at h
    rw [h]
    simp; omega
theorem zi_ent_ls {h0 b n : Nat} {as : List Value} {ls : zi_L} (h : zi_ent as n = some ls) : ls.length = n ∧ zi_ls h0 b ((lg_sl (as.map (zi_v h0 b)) ++ List.replicate (n - (lg_sl (as.map (zi_v h0 b))).length) Slot.unset).toArray) ls := by
  unfold zi_ent at h
  split at h
  · rename_i hc
    cases h
    have hlen : (as.map some ++ List.replicate (n - as.length) (none : Option Value)).length = n := by
      rw [List.length_append, List.length_map, List.length_replicate]; omega
    have hE := lv_entry (as.map (zi_v h0 b)) (n := n) (by rw [zi_sl_len as hc.2]; exact hc.1)
    refine ⟨hlen, by rw [hlen]; exact hE.1, hE.2.1, fun i v hi => ?_⟩
    have h1 : as[i]? = some v := by
      unfold zi_loc at hi
      by_cases hl : i < as.length
      · rw [List.getElem?_append_left (by rw [List.length_map]; exact hl), List.getElem?_map] at hi
        cases ha : as[i]? with
        | none => rw [ha] at hi; cases hi
        | some u => rw [ha] at hi; exact hi
      · rw [List.getElem?_append_right (by rw [List.length_map]; omega)] at hi
        split at hi
        · rename_i h3
          rw [List.getElem?_replicate] at h3
          split at h3 <;> cases h3
        · cases hi
    have h2 := hE.2.2 (0 + i, zi_v h0 b v) (zi_args_mem as 0 hc.2 i v h1)
    rw [Nat.zero_add] at h2
    exact h2
  · cases h
/-- the facts that are asked of a call -/
def zi_cok (P : zi_P) (cl : List vw_C) (TS NW : List Cond) (lw k x : Nat) (t : zi_T) : Prop :=
  (t.1 = 1 ∨ t.1 = 2 ∨ t.1 = 3 → plainFor (zi_y P t.2.1) = true ∧ Cond.initialized (zi_y P t.2.1).cls ∈ TS ∧ ((zi_y P t.2.1).cls ≠ "java/lang/invoke/MethodHandle" ∧ (zi_y P t.2.1).cls ≠ "java/lang/invoke/VarHandle" ∧ (parseMethodDescriptor (zi_y P t.2.1).desc).map (fun d => d.parameters.length) = some t.2.2.1) ∧ t.2.1 ≠ lw ∧ (Cond.methodLink (zi_y P k).cls x (zi_y P t.2.1) ∈ TS ∨ ∃ host : String, Cond.methodLinkNest (zi_y P k).cls x (zi_y P t.2.1) host ∈ NW)) ∧
  (t.1 = 1 → Cond.code (zi_y P t.2.1) (zi_b P t.2.1) (zi_n P t.2.1) (zi_r P t.2.1) ∈ TS ∧ Cond.instanceMethod (zi_y P t.2.1) ∈ TS ∧ Cond.selects (zi_y P t.2.1).cls (zi_y P t.2.1) (zi_y P t.2.1) ∈ TS ∧ ∀ ci, t.2.2.2 = .ref ci → ∃ q : vw_C, cl[ci]? = some q ∧ q.1 = (zi_y P t.2.1).cls) ∧
  (t.1 = 2 → Cond.code (zi_y P t.2.1) (zi_b P t.2.1) (zi_n P t.2.1) (zi_r P t.2.1) ∈ TS ∧ Cond.instanceMethod (zi_y P t.2.1) ∈ TS ∧ (zi_y P t.2.1).name = "<init>" ∧ zi_r P t.2.1 = none) ∧
  (t.1 = 3 → Cond.static (zi_y P t.2.1) ∈ TS ∧ (Cond.code (zi_y P t.2.1) (zi_b P t.2.1) (zi_n P t.2.1) (zi_r P t.2.1) ∈ TS ∨ (Jvm.plainName (zi_y P t.2.1).cls = true ∧ Cond.methodLink (zi_y P k).cls x (zi_y P t.2.1) ∈ TS ∧ ∃ hh : List (Nat × Nat × Nat × Nat), Cond.codeWith (zi_y P t.2.1) (zi_b P t.2.1) (zi_n P t.2.1) (zi_r P t.2.1) hh ∈ TS)))
/-- what is asked of the end of a run -/
def zi_End (P : zi_P) (cl : List vw_C) (D : va_G) (cA : Nat → ClassId) (h0 b k : Nat) (p : Program) (l : Launch) (e : Env) (R : Room) (s : State) (m : MethodId) (args : Array Value) (below : List Frame) (meth : Method) (c : Code) (Q : State → Prop) (cells slots : Nat) (o : zi_O) (w' : zi_W) : Prop :=
  (o = .inl none → zi_r P k = none → ∀ (H' : Heap) (locs' : List Loc) (LS' : Array Slot) (pc' : Nat), zi_Hp cl D cA h0 b s w' H' locs' → decode (zi_b P k) pc' = .ok (.return_, 1) → W p l e R s m args below meth c H' locs' cells slots Q (F0 m pc' LS' [])) ∧
  (∀ (x : Int32) (ty : FieldType), o = .inl (some (.int x)) → zi_r P k = some ty → narrow ty (.int x) = .int x → ∀ (H' : Heap) (locs' : List Loc) (LS' : Array Slot) (pc' : Nat), zi_Hp cl D cA h0 b s w' H' locs' → decode (zi_b P k) pc' = .ok (.ireturn, 1) → W p l e R s m args below meth c H' locs' cells slots Q (F0 m pc' LS' [.int x]))
/-- a method has thrown -/
def zi_Thrn (exc : Nat → String) (cl : List vw_C) (D : va_G) (cA : Nat → ClassId) (h0 b : Nat) (s : State) (below : List Frame) (w' : zi_W) (mc ms ex : Nat) (t : State) : Prop :=
  ∃ a : Addr, t.status = .running ∧ Ended t below (.threw a) ∧ s.WarmedH t.vm ∧ (∃ L : List Loc, s.sameButNew ({ t with vm := s.vm } : State) L mc ms ∧ ∀ q ∈ L, h0 ≤ q.base) ∧ va_P D cl (zi_w cA h0 b w') t.heap ∧ va_D (fun q => h0 ≤ q) (zi_w cA h0 b w') ∧ va_F (fun q => h0 ≤ q) s t ∧
    ∃ ce : Cell, t.heap[a]? = some ce ∧ ce.vm.isStatics = false ∧ s.vm.findClass (exc ex) = some ce.cls
def zi_Snd (exc : Nat → String) (P : zi_P) (cl : List vw_C) (TS NW : List Cond) (CL : String) (lw n : Nat) : Prop :=
  ∀ (L : Nat) (xs : Nat → Int32) (d rq k pc : Nat) (ls : zi_L) (st : List Value) (w : zi_W) (cn sn : Nat) (o : zi_O) (w' : zi_W) (cn' sn' : Nat), zi_run P lw L xs n d rq k pc ls st w cn sn = some (o, w', cn', sn') → ls.length = zi_n P k →
  ∀ (l : Launch), zx_fl l → ∀ (p : Program) (e : Env) (R : Room) (s : State) (m : MethodId) (args : Array Value) (below : List Frame) (meth : Method) (c : Code) (H : Heap) (locs : List Loc) (Q : State → Prop) (LS : Array Slot) (D : va_G) (cA : Nat → ClassId) (h0 b c0 s0 : Nat),
    zi_Cx P cl TS NW CL D cA lw L xs h0 b c0 d rq k p R s m args meth c → zi_ls h0 b LS ls → zi_Hp cl D cA h0 b s w H locs → c0 ≤ cn → s0 ≤ sn → cn' ≤ c0 + R.cells → sn' ≤ s0 + R.slots →
    zi_End P cl D cA h0 b k p l e R s m args below meth c Q (cn' - c0) (sn' - s0) o w' → (∀ ex, o = .inr ex → ∀ t, zi_Thrn exc cl D cA h0 b s below w' (cn' - c0) (sn' - s0) ex t → Q t) →
    W p l e R s m args below meth c H locs (cn - c0) (sn - s0) Q (F0 m pc LS (st.map (zi_v h0 b)))
/-- a contract's start and end -/
def zi_Pc (cl : List vw_C) (NW : List Cond) (CL : String) (D : va_G) (cA : Nat → ClassId) (h0 b cn : Nat) (as : List Value) (w : zi_W) : Array Value → State → Prop := va_Pc (as.map (zi_v h0 b)) (fun U => va_P D cl (zi_w cA h0 b w) U.heap ∧ va_D (fun q => h0 ≤ q) (zi_w cA h0 b w) ∧ va_K D cl (zi_tys cA CL) U ∧ zi_AO CL h0 U ∧ (∀ w ∈ NW, va_Nw w U) ∧ h0 ≤ U.heap.size ∧ U.heap.size ≤ h0 + cn)
def zi_Qc (cl : List vw_C) (D : va_G) (cA : Nat → ClassId) (h0 b : Nat) (r : Option Value) (w' : zi_W) : Array Value → State → Outcome → State → Prop := fun _ st oc t => oc = .returned (r.map (zi_v h0 b)) ∧ va_P D cl (zi_w cA h0 b w') t.heap ∧ va_D (fun q => h0 ≤ q) (zi_w cA h0 b w') ∧ va_F (fun q => h0 ≤ q) st t
def zi_rm (d rq mc ms : Nat) : Room := { frames := d, cells := mc, slots := ms, locals := rq }
theorem zi_blind {cl : List vw_C} {NW : List Cond} {CL : String} {D : va_G} {cA : Nat → ClassId} {h0 b cn : Nat} {as : List Value} {w : zi_W} (hNW : ∀ w ∈ NW, w.onTables = true) : FrameBlind (zi_Pc cl NW CL D cA h0 b cn as w) := by
  intro a U g mk q
  obtain ⟨q0, q1, q2, q3, q4, q5, q6, q7⟩ := q
  exact ⟨q0, q1, q2, va_K.moved (u := U) (U := U.calling g mk a) (Vm.Alike.refl U.vm) q3, ⟨va_AO.moved (u := U) (U := U.calling g mk a) (Vm.Alike.refl U.vm) q4.1, zx_O.move (U := U.calling g mk a) q4.2 (State.WarmedH.refl U) (fun _ _ => rfl)⟩, fun w hw => va_Nw.same (hNW w hw) (u := U) (U := U.calling g mk a) rfl (q5 w hw), q6, q7⟩
section ZM
variable {exc : Nat → String} {P : zi_P} {cl : List vw_C} {TS NW : List Cond} {CL : String} {lw n : Nat}
set_option maxHeartbeats 1000000 in
theorem zs_body (ih : zi_Snd exc P cl TS NW CL lw n) {L d rq j cn sn cn' sn' : Nat} {xs : Nat → Int32} {as : List Value} {ls : zi_L} {w w' : zi_W} {r : Option Value} (hj : j ≠ lw) (hrun : zi_run P lw L xs n d rq j 0 ls [] w cn sn = some (.inl r, w', cn', sn')) (hent : zi_ent as (zi_n P j) = some ls) (D : va_G) (cA : Nat → ClassId) (h0 b : Nat) (l : Launch) (hfl : zx_fl l) {ws : List Cond} (hsub : ∀ w ∈ TS, w ∈ ws) :
    ∀ p e s m args below meth c s₁, BodyLoose p l (zi_y P j) (headSpec ws (zi_rm d rq (cn' - cn) (sn' - sn))) (zi_b P j) (zi_n P j) (zi_r P j) e s m args below meth c s₁ → c.maxLocals = zi_n P j → zi_Pc cl NW CL D cA h0 b cn as w args s →
      W p l e (headSpec ws (zi_rm d rq (cn' - cn) (sn' - sn))).room s m args below meth c s.heap [] 0 0 (MQ below (zi_Qc cl D cA h0 b r w') args s (cn' - cn) (sn' - sn) (fun q => h0 ≤ q)) (entryFrame m args (zi_n P j)) := by
  intro p e s m args below meth c s₁ B hml hv
  obtain ⟨rfl, hP, hD, hK, hAO, hnw, z1, z2⟩ := hv
  have hmo := zi_run_mono _ _ _ _ _ _ _ _ _ _ _ _ _ _ hrun
  have hts : ∀ w ∈ TS, w.before (as.map (zi_v h0 b)).toArray s = true := fun w hw => atoms_spec (ws := ws) B.pre w (hsub w hw)
  obtain ⟨hlen, hls⟩ := zi_ent_ls (h0 := h0) (b := b) hent
  rw [lg_entry_eq]
  have key := ih L xs d rq j 0 ls [] w cn sn (.inl r) w' cn' sn' hrun hlen l hfl p e (zi_rm d rq (cn' - cn) (sn' - sn)) s m _ below meth c s.heap [] (MQ below (zi_Qc cl D cA h0 b r w') (as.map (zi_v h0 b)).toArray s (cn' - cn) (sn' - sn) (fun q => h0 ≤ q)) _ D cA h0 b cn sn
    ⟨B.exec, B.bytes, hml, B.returns, B.notSynchronized, ⟨findClass_of_methodNamed B.named, B.named⟩, hts, hnw, hK, hAO, fun q => (name_of_methodNamed B.named B.method).1.trans q, z1, z2, Nat.le_refl _, Nat.le_refl _, fun q => absurd q hj⟩ hls ⟨hP, hD, va_S.rf⟩ (Nat.le_refl _) (Nat.le_refl _)
    (by show cn' ≤ cn + (cn' - cn); omega) (by show sn' ≤ sn + (sn' - sn); omega)
    ⟨fun ho hr H' locs' LS' pc' hH' hdg => ?_, fun x ty ho hr hn H' locs' LS' pc' hH' hdg => ?_⟩ (fun ex ho => by cases ho)
  · rw [Nat.sub_self, Nat.sub_self] at key
    exact key
  · cases ho
    exact W.vret B.exec B.bytes (B.returns.trans hr) (fun t ht hW => ⟨rfl, by rw [ht]; exact hH'.1, hH'.2.1, hH'.2.2.F ht⟩) hH'.2.2.2.2 hdg B.notSynchronized
  · cases ho
    exact W.zret B.exec B.bytes (B.returns.trans hr) hn (fun t ht hW => ⟨rfl, by rw [ht]; exact hH'.1, hH'.2.1, hH'.2.2.F ht⟩) hH'.2.2.2.2 hdg B.notSynchronized
end ZM
