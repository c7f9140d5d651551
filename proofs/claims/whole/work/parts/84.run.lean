/-! What the interpreter answers, the machine does: calls in a run, and the run. -/
section ZR
variable {p : Program} {l : Launch} {e : Env} {R : Room} {s : State} {m : MethodId} {args : Array Value} {below : List Frame} {meth : Method} {c : Code} {H : Heap} {locs : List Loc} {cells slots : Nat} {Q : State → Prop}
variable {cl : List vw_C} {D : va_G} {cA : Nat → ClassId} {h0 b : Nat}
theorem zs_after {mc ms pc : Nat} {LS : Array Slot} {st0 rest : List Value} {r : Option Value} {w' : zi_W} {a : Array Value} (hr : va_Run p l e R s m args below meth c H locs cells slots mc ms (F0 m pc LS st0) rest (zi_Qc cl D cA h0 b r w' a) (fun q => h0 ≤ q)) (hS : va_S (fun q => h0 ≤ q) s.heap H locs)
    (kk : ∀ (H' : Heap) (locs' : List Loc), zi_Hp cl D cA h0 b s w' H' locs' → W p l e R s m args below meth c H' locs' (cells + mc) (slots + ms) Q (F0 m (pc + 3) LS ((r.map (zi_v h0 b)).toList ++ rest))) : W p l e R s m args below meth c H locs cells slots Q (F0 m pc LS st0) := by
  intro T hT X
  obtain ⟨v, st₀, t, T', L, g0, X', hL, e1, e2, ⟨hv, hP, hD, hz, hk⟩, stp⟩ := hr T hT X
  cases hv
  rw [g0] at hz hk
  obtain ⟨t2, a1, b1⟩ := kk T'.heap (locs ++ L) ⟨by rw [e1]; exact hP, hD, Nat.le_trans hS.1 (by rw [e1]; exact hz), fun q h1 h2 => by rw [e1, hk q (Nat.lt_of_lt_of_le h1 hS.1) h2]; exact hS.2.1 q h1 h2, fun q hq => by
      rcases List.mem_append.mp hq with h | h
      · exact hS.2.2 q h
      · exact hL q h⟩ T' rfl X'
  exact ⟨t2, stp t2 a1, b1⟩
/-- a static call of a method that has handlers -/
theorem zs_runSW {y : MethodName} {bytes cc : ByteArray} {maxL nL mc ms n index : Nat} {ret : Option FieldType} {hh : List (Nat × Nat × Nat × Nat)} {ws : List Cond} {rm : Room} {Pc : Array Value → State → Prop} {Qc : Array Value → State → Outcome → State → Prop} {free : Addr → Prop} {own : String} {As rest : List Value} {g : JFrame}
    (hx : p.tables.exec = Jvm.exec) (hb : c.code = cc) (hml : c.maxLocals = nL) (ho : s.vm.findClass own = some m.cls) (hM : Met l y ws rm Pc Qc mc ms free) (hrc : rm.cells = mc) (hrs : rm.slots = ms) (hfr : rm.frames + 1 ≤ R.frames) (hlo : 8 + (maxL + 11) + rm.locals ≤ R.locals) (hws : ∀ w ∈ ws, ∀ (a' : Array Value) (U : State), s.WarmedH U.vm → w.before a' U = true) (hcw : Cond.codeWith y bytes maxL ret hh ∈ ws)
    (hcode : (Cond.codeWith y bytes maxL ret hh).before args s = true) (hini : (Cond.initialized y.cls).before args s = true) (hy : y.cls ≠ "java/lang/invoke/MethodHandle" ∧ y.cls ≠ "java/lang/invoke/VarHandle") (hlen : ∀ sig, parseMethodDescriptor y.desc = some sig → n = sig.parameters.length) (hl : (Cond.methodLink own index y).before args s = true) (hstt : (Cond.static y).before args s = true) (hp : PreS s H Pc As)
    (hg : g.method = m) (hn : As.length = n) (hsize : g.locals.size = nL) (hstack : g.stack = As.reverse ++ rest) (hW : 2 * g.monitorRoom + (rest.map fun v => v.category).sum ≤ 8) (hdg : decode cc g.pc = .ok (.invokestatic index, 3)) (hf : cells + mc ≤ R.cells ∧ slots + ms ≤ R.slots) :
    va_Run p l e R s m args below meth c H locs cells slots mc ms g rest (Qc As.toArray) free := by
  have hK : Back l R p e below s args y 3 8 (PreOf R mc ms Pc) (PostOf Qc mc ms free) := va_backW (hh := hh) (bytes := bytes) (maxL := maxL) (ret := ret) hM hp.1 hrc hrs hfr hlo hws hcw (fun a' U hW => word_at hW (Or.inl (by first | rfl | simp [Cond.onTables, Cond.keeps, Cond.steady])) hini)
  intro T hT X
  obtain ⟨mk, methM, cM, hnamed, hmethM, -, -, -, -, -, -, hsigM⟩ := Cond.codeWith_spec hcode
  have hstatic : methM.isStatic = true := Cond.static_spec hnamed hmethM hstt
  obtain ⟨kP, hkP, -⟩ := className_of_methodNamed hnamed
  have hinitP : kP.init = .initialized := Cond.initialized_spec (findClass_of_methodNamed hnamed) hkP hini
  obtain ⟨vm₁, X₁, hstep₁⟩ := X.invokestatic hx ho hl hnamed hmethM hstatic hkP hinitP hy (g := g) hg (argsL := As) (rest := rest) (hn.trans (hlen _ hsigM)) hstack (by rw [hb]; exact hdg)
  obtain ⟨v, ⟨U', l2, c2, s2⟩, X', ⟨g', mk', t, L, e1, e2, hq, h1, hL, h2, h3⟩, hsteps⟩ := hK m meth c ⟨T.setVm vm₁, locs, cells, slots⟩ { g with stack := rest } (.invokestatic index) mk As.toArray X₁ hg (hsize.trans hml.symm) (by rw [hb]; exact hdg) hW (X₁.named hnamed) ⟨hf.1, hf.2, hp.2 (T.setVm vm₁) hT X₁.warmed⟩
  dsimp only [Pt.U, Pt.locs, Pt.cells, Pt.slots] at X' e1 e2 h1 h2 h3 hsteps
  subst h1; subst h2; subst h3
  exact ⟨v, (T.setVm vm₁).calling g' mk' As.toArray, t, U', L, hT, X', hL, e1, e2, hq, fun target h => hstep₁ _ fun acts => by rw [doInvoke_state]; exact hsteps.trans h⟩
end ZR
/-- what is asked of a program -/
def zi_Ok (P : zi_P) (cl : List vw_C) (TS NW : List Cond) (CL : String) (lw : Nat) : Prop :=
  (∀ k pc i, zi_code P k pc = some i → ∃ len, decode (zi_b P k) pc = .ok (i, len) ∧ (zi_len i = 0 ∨ len = zi_len i)) ∧ (∀ k x t, zi_pool P k x = some t → zi_tok P cl TS NW CL k x t ∧ zi_cok P cl TS NW lw k x t) ∧ (∃ q : vw_C, cl[2]? = some q ∧ q.1 = CL) ∧ (Cond.arrayClass .int ∈ TS ∧ Cond.arrayClass .boolean ∈ TS ∧ Cond.arrayClass .long ∈ TS) ∧
  (∀ w ∈ NW, w.onTables = true ∧ ((∃ a i b n d h, w = .fieldLinkNest a i b n d h) ∨ ∃ a i x h, w = .methodLinkNest a i x h)) ∧ (∀ w ∈ TS, (w.onTables && w.keeps) = true ∨ ∃ ty, w = .arrayClass ty)
theorem zi_Nw_warm {NW : List Cond} {s U : State} (hNW : ∀ w ∈ NW, w.onTables = true ∧ ((∃ a i b n d h, w = .fieldLinkNest a i b n d h) ∨ ∃ a i x h, w = .methodLinkNest a i x h)) (hW : s.WarmedH U.vm) (h : ∀ w ∈ NW, va_Nw w s) : ∀ w ∈ NW, va_Nw w U := by
  intro w hw
  rcases (hNW w hw).2 with ⟨a, i, b, n, d, hh, rfl⟩ | ⟨a, i, x, hh, rfl⟩
  · exact va_Nw.warmF hW (h _ hw)
  · exact va_Nw.warmM hW (h _ hw)
section ZQ
variable {exc : Nat → String} {P : zi_P} {cl : List vw_C} {TS NW : List Cond} {CL : String} {lw n : Nat}
theorem zs_pre {cA : Nat → ClassId} {D : va_G} {h0 b c0 cn L d rq k : Nat} {xs : Nat → Int32} {p : Program} {R : Room} {s : State} {m : MethodId} {args : Array Value} {meth : Method} {c : Code} {H : Heap} {locs : List Loc} {w : zi_W} {as : List Value} {av : Array Value} (hO : zi_Ok P cl TS NW CL lw) (hC : zi_Cx P cl TS NW CL D cA lw L xs h0 b c0 d rq k p R s m args meth c) (hH : zi_Hp cl D cA h0 b s w H locs) (hc0 : c0 ≤ cn) (hz : H.size ≤ s.heap.size + (cn - c0)) (hav : av = (as.map (zi_v h0 b)).toArray) :
    ∀ U : State, U.heap = H → s.WarmedH U.vm → zi_Pc cl NW CL D cA h0 b cn as w av U := by
  obtain ⟨hx, hb, hml, hr, hlk, ⟨hown, hnamed⟩, hts, hnw, hK, hAO, hin, hz1, hz2, hRf, hRl, hX⟩ := hC
  intro U hU hW
  have h1 := hH.2.2.1
  exact ⟨hav, by rw [hU]; exact hH.1, hH.2.1, va_K.moved hW.alike hK, ⟨va_AO.moved hW.alike hAO.1, hAO.2.move hW (fun q hq => by rw [hU]; exact hH.2.2.2.1 q (by omega) (by omega))⟩, zi_Nw_warm hO.2.2.2.2.1 hW hnw, by rw [hU]; omega, by rw [hU]; omega⟩
theorem zs_good {j : Nat} (hO : zi_Ok P cl TS NW CL lw) {w0 : Cond} (h : w0 ∈ TS) : GoodIn TS (w0 :: TS) := by
  intro w hw
  rcases List.mem_cons.mp hw with rfl | hw
  · exact ⟨h, hO.2.2.2.2.2 _ h⟩
  · exact ⟨hw, hO.2.2.2.2.2 _ hw⟩
theorem zs_cats {h0 b : Nat} (r : List Value) : ((r.map (zi_v h0 b)).map fun v => v.category) = r.map fun v => v.category := by
  rw [List.map_map]
  exact List.map_congr_left fun v _ => zi_v_cat h0 b v
theorem zs_optmap {h0 b : Nat} (v : Option Value) (r : List Value) : (v.map (zi_v h0 b)).toList ++ r.map (zi_v h0 b) = (v.toList ++ r).map (zi_v h0 b) := by
  cases v <;> simp
set_option maxHeartbeats 4000000 in
theorem zs_call (hO : zi_Ok P cl TS NW CL lw) (ih : zi_Snd exc P cl TS NW CL lw n) {cA : Nat → ClassId} {D : va_G} {h0 b c0 s0 cn sn cn1 sn1 L d rq k pc j : Nat} {xs : Nat → Int32} {l : Launch} (hfl : zx_fl l) {p : Program} {e : Env} {R : Room} {s : State} {m : MethodId} {args : Array Value} {below : List Frame} {meth : Method} {c : Code} {H : Heap} {locs : List Loc} {Q : State → Prop} {w w1 : zi_W} {as st r : List Value} {ls ls' : zi_L} {LS : Array Slot} {i : Jvm.ClassFile.Instr} {v : Option Value}
    (hC : zi_Cx P cl TS NW CL D cA lw L xs h0 b c0 (d + 1) rq k p R s m args meth c) (hH : zi_Hp cl D cA h0 b s w H locs) (hl : zi_ls h0 b LS ls) (hlen : ls.length = zi_n P k) (hc0 : c0 ≤ cn) (hs0 : s0 ≤ sn) (hdg : decode (zi_b P k) pc = .ok (i, zi_len i)) (hinv : zi_inv P k i st w = some (j, as, r)) (hent : zi_ent as (zi_n P j) = some ls') (hq : 19 + zi_n P j ≤ rq) (hrun : zi_run P lw L xs n d (rq - (19 + zi_n P j)) j 0 ls' [] w cn sn = some (.inl v, w1, cn1, sn1)) (hR1 : cn1 ≤ c0 + R.cells) (hR2 : sn1 ≤ s0 + R.slots)
    (kk : ∀ (H' : Heap) (locs' : List Loc), zi_Hp cl D cA h0 b s w1 H' locs' → W p l e R s m args below meth c H' locs' (cn1 - c0) (sn1 - s0) Q (F0 m (pc + 3) LS ((v.toList ++ r).map (zi_v h0 b)))) : W p l e R s m args below meth c H locs (cn - c0) (sn - s0) Q (F0 m pc LS (st.map (zi_v h0 b))) := by
  have hmo := zi_run_mono _ _ _ _ _ _ _ _ _ _ _ _ _ _ hrun
  refine zi_bound fun hz => ?_
  have hC0 := hC
  obtain ⟨hx, hb, hml, hr, hlk, ⟨hown, hnamed⟩, hts, hnw, hK, hAO, hin, hz1, hz2, hRf, hRl, hX⟩ := hC
  have e1 : cn - c0 + (cn1 - cn) = cn1 - c0 := by omega
  have e2 : sn - s0 + (sn1 - sn) = sn1 - s0 := by omega
  have kk2 : ∀ (H' : Heap) (locs' : List Loc), zi_Hp cl D cA h0 b s w1 H' locs' → W p l e R s m args below meth c H' locs' (cn - c0 + (cn1 - cn)) (sn - s0 + (sn1 - sn)) Q (F0 m (pc + 3) LS ((v.map (zi_v h0 b)).toList ++ r.map (zi_v h0 b))) := by
    intro H' locs' hH'
    rw [e1, e2, zs_optmap]
    exact kk H' locs' hH'
  have hsz : LS.size = zi_n P k := hl.1.trans hlen
  have hfit : cn - c0 + (cn1 - cn) ≤ R.cells ∧ sn - s0 + (sn1 - sn) ≤ R.slots := ⟨by omega, by omega⟩
  unfold zi_inv at hinv
  split at hinv
  · rename_i x
    split at hinv
    · rename_i j' mm ci hp
      split at hinv
      · rename_i as1 a r' hpop
        split at hinv
        · rename_i c' fs hg
          split at hinv
          · rename_i hcc
            cases hinv
            obtain ⟨rfl, hsum⟩ := hcc
            obtain ⟨hk0, hk1, -, -⟩ := (hO.2.1 _ _ _ hp).2
            obtain ⟨f1, f3, f4, f5, f6⟩ := hk0 (Or.inl rfl)
            obtain ⟨g1, g2, g3, g4⟩ := hk1 rfl
            obtain ⟨q, hq1, hq2⟩ := g4 _ rfl
            obtain ⟨ha, hne⟩ := zi_get_at hg
            obtain ⟨hn1, hst⟩ := zi_pop_at hpop
            have he : (zi_w cA h0 b w)[a]? = some (h0 + a, .inr (c', fs.map (zi_v h0 b))) := zi_w_get ha
            have hM : Met l (zi_y P j) (Cond.code (zi_y P j) (zi_b P j) (zi_n P j) (zi_r P j) :: TS) (zi_rm d (rq - (19 + zi_n P j)) (cn1 - cn) (sn1 - sn)) (zi_Pc cl NW CL D cA h0 b cn (.ref a :: as1) w) (zi_Qc cl D cA h0 b v w1) (cn1 - cn) (sn1 - sn) (fun q => h0 ≤ q) :=
              va_MetF f1 rfl (zs_body ih f5 hrun hent D cA h0 b l hfl (fun w hw => List.mem_cons_of_mem _ hw))
            have hpre : PreV s H q.1 (h0 + a) (zi_Pc cl NW CL D cA h0 b cn (.ref a :: as1) w) (as1.map (zi_v h0 b)) :=
              ⟨zi_blind fun w hw => (hO.2.2.2.2.1 w hw).1, va_recv hK hH.1 hq1 he, zs_pre hO hC0 hH hc0 hz (by rw [List.map_cons]; show _ = (Value.ref (zi_ad h0 b a) :: _).toArray; rw [zi_ad_at hne])⟩
            have hstk : (F0 m pc LS (st.map (zi_v h0 b))).stack = (as1.map (zi_v h0 b)).reverse ++ .ref (h0 + a) :: r.map (zi_v h0 b) := by
              show st.map (zi_v h0 b) = _
              rw [hst, List.map_append, List.map_reverse, List.map_cons]
              show _ ++ Value.ref (zi_ad h0 b a) :: _ = _
              rw [zi_ad_at hne]
            have hrm : (zi_rm d (rq - (19 + zi_n P j)) (cn1 - cn) (sn1 - sn)).frames + 1 ≤ R.frames ∧ 8 + (zi_n P j + 11) + (zi_rm d (rq - (19 + zi_n P j)) (cn1 - cn) (sn1 - sn)).locals ≤ R.locals := ⟨by show d + 1 ≤ _; omega, by show 8 + (zi_n P j + 11) + (rq - (19 + zi_n P j)) ≤ _; omega⟩
            rcases f6 with f6 | ⟨host, f6⟩
            · exact zs_after (va_runV ⟨hx, hb, hml, hown, hts⟩ hM ⟨callB_of mm hts (zs_good (j := j) hO g1) rfl rfl rfl (hts _ f3) (hts _ f6) f4 hrm, hts _ g2, by rw [hq2]; exact hts _ g3⟩ hpre rfl (by rw [List.length_map]; exact hn1) hsz hstk (lv_room (by rw [zs_cats]; exact hsum)) hdg hfit) hH.2.2 kk2
            · exact zs_after (va_runVN ⟨hx, hb, hml, hown, hts⟩ hM ⟨va_cnB mm hts (zs_good (j := j) hO g1) rfl rfl rfl (hnw _ f6) (hts _ f3) f4 hrm, hts _ g2, by rw [hq2]; exact hts _ g3⟩ hpre rfl (by rw [List.length_map]; exact hn1) hsz hstk (lv_room (by rw [zs_cats]; exact hsum)) hdg hfit) hH.2.2 kk2
          · cases hinv
        · cases hinv
      · cases hinv
    · cases hinv
  · rename_i x
    split at hinv
    · rename_i j' mm _ hp
      split at hinv
      · rename_i as1 a r' hpop
        split at hinv
        · rename_i hsum
          cases hinv
          obtain ⟨hk0, -, hk2, -⟩ := (hO.2.1 _ _ _ hp).2
          obtain ⟨f1, f3, f4, f5, f6⟩ := hk0 (Or.inr (Or.inl rfl))
          obtain ⟨g1, g2, g3, g4⟩ := hk2 rfl
          obtain ⟨hn1, hst⟩ := zi_pop_at hpop
          have hM : Met l (zi_y P j) (Cond.code (zi_y P j) (zi_b P j) (zi_n P j) (zi_r P j) :: TS) (zi_rm d (rq - (19 + zi_n P j)) (cn1 - cn) (sn1 - sn)) (zi_Pc cl NW CL D cA h0 b cn (.ref a :: as1) w) (zi_Qc cl D cA h0 b v w1) (cn1 - cn) (sn1 - sn) (fun q => h0 ≤ q) :=
            va_MetF f1 rfl (zs_body ih f5 hrun hent D cA h0 b l hfl (fun w hw => List.mem_cons_of_mem _ hw))
          have hpre : PreS s H (zi_Pc cl NW CL D cA h0 b cn (.ref a :: as1) w) (.ref (zi_ad h0 b a) :: as1.map (zi_v h0 b)) :=
            ⟨zi_blind fun w hw => (hO.2.2.2.2.1 w hw).1, zs_pre hO hC0 hH hc0 hz rfl⟩
          have hstk : (F0 m pc LS (st.map (zi_v h0 b))).stack = (as1.map (zi_v h0 b)).reverse ++ .ref (zi_ad h0 b a) :: r.map (zi_v h0 b) := by
            show st.map (zi_v h0 b) = _
            rw [hst, List.map_append, List.map_reverse, List.map_cons]
            rfl
          have hrm : (zi_rm d (rq - (19 + zi_n P j)) (cn1 - cn) (sn1 - sn)).frames + 1 ≤ R.frames ∧ 8 + (zi_n P j + 11) + (zi_rm d (rq - (19 + zi_n P j)) (cn1 - cn) (sn1 - sn)).locals ≤ R.locals := ⟨by show d + 1 ≤ _; omega, by show 8 + (zi_n P j + 11) + (rq - (19 + zi_n P j)) ≤ _; omega⟩
          rw [g4] at hM g1
          rcases f6 with f6 | ⟨host, f6⟩
          · exact zs_after (va_runI ⟨hx, hb, hml, hown, hts⟩ hM ⟨callB_of mm hts (zs_good (j := j) hO g1) rfl rfl rfl (hts _ f3) (hts _ f6) f4 hrm, g3, hts _ g2⟩ hpre rfl (by rw [List.length_map]; exact hn1) hsz hstk (lv_room (by rw [zs_cats]; exact hsum)) hdg hfit) hH.2.2 kk2
          · exact zs_after (va_runIN ⟨hx, hb, hml, hown, hts⟩ hM ⟨va_cnB mm hts (zs_good (j := j) hO g1) rfl rfl rfl (hnw _ f6) (hts _ f3) f4 hrm, g3, hts _ g2⟩ hpre rfl (by rw [List.length_map]; exact hn1) hsz hstk (lv_room (by rw [zs_cats]; exact hsum)) hdg hfit) hH.2.2 kk2
        · cases hinv
      · cases hinv
    · cases hinv
  · rename_i x
    split at hinv
    · rename_i j' mm _ hp
      split at hinv
      · rename_i as1 r' hpop
        split at hinv
        · rename_i hsum
          cases hinv
          obtain ⟨hk0, -, -, hk3⟩ := (hO.2.1 _ _ _ hp).2
          obtain ⟨f1, f3, f4, f5, f6⟩ := hk0 (Or.inr (Or.inr rfl))
          obtain ⟨g1, g2⟩ := hk3 rfl
          obtain ⟨hn1, hst⟩ := zi_pop_at hpop
          have hpre : PreS s H (zi_Pc cl NW CL D cA h0 b cn as w) (as.map (zi_v h0 b)) :=
            ⟨zi_blind fun w hw => (hO.2.2.2.2.1 w hw).1, zs_pre hO hC0 hH hc0 hz rfl⟩
          have hstk : (F0 m pc LS (st.map (zi_v h0 b))).stack = (as.map (zi_v h0 b)).reverse ++ r.map (zi_v h0 b) := by
            show st.map (zi_v h0 b) = _
            rw [hst, List.map_append, List.map_reverse]
          have hrm : (zi_rm d (rq - (19 + zi_n P j)) (cn1 - cn) (sn1 - sn)).frames + 1 ≤ R.frames ∧ 8 + (zi_n P j + 11) + (zi_rm d (rq - (19 + zi_n P j)) (cn1 - cn) (sn1 - sn)).locals ≤ R.locals := ⟨by show d + 1 ≤ _; omega, by show 8 + (zi_n P j + 11) + (rq - (19 + zi_n P j)) ≤ _; omega⟩
          rcases g2 with g2 | ⟨g3, g4, hh, g2⟩
          · have hM : Met l (zi_y P j) (Cond.code (zi_y P j) (zi_b P j) (zi_n P j) (zi_r P j) :: TS) (zi_rm d (rq - (19 + zi_n P j)) (cn1 - cn) (sn1 - sn)) (zi_Pc cl NW CL D cA h0 b cn as w) (zi_Qc cl D cA h0 b v w1) (cn1 - cn) (sn1 - sn) (fun q => h0 ≤ q) :=
              va_MetF f1 rfl (zs_body ih f5 hrun hent D cA h0 b l hfl (fun w hw => List.mem_cons_of_mem _ hw))
            rcases f6 with f6 | ⟨host, f6⟩
            · exact zs_after (va_runS ⟨hx, hb, hml, hown, hts⟩ hM ⟨callB_of mm hts (zs_good (j := j) hO g2) rfl rfl rfl (hts _ f3) (hts _ f6) f4 hrm, hts _ g1⟩ hpre rfl (by rw [List.length_map]; exact hn1) hsz hstk (lv_room (by rw [zs_cats]; exact hsum)) hdg hfit) hH.2.2 kk2
            · exact zs_after (va_runSN ⟨hx, hb, hml, hown, hts⟩ hM ⟨va_cnB mm hts (zs_good (j := j) hO g2) rfl rfl rfl (hnw _ f6) (hts _ f3) f4 hrm, hts _ g1, trivial⟩ hpre rfl (by rw [List.length_map]; exact hn1) hsz hstk (lv_room (by rw [zs_cats]; exact hsum)) hdg hfit) hH.2.2 kk2
          · have hM : Met l (zi_y P j) (Cond.codeWith (zi_y P j) (zi_b P j) (zi_n P j) (zi_r P j) hh :: TS) (zi_rm d (rq - (19 + zi_n P j)) (cn1 - cn) (sn1 - sn)) (zi_Pc cl NW CL D cA h0 b cn as w) (zi_Qc cl D cA h0 b v w1) (cn1 - cn) (sn1 - sn) (fun q => h0 ≤ q) :=
              va_MetW g3 rfl (zs_body ih f5 hrun hent D cA h0 b l hfl (fun w hw => List.mem_cons_of_mem _ hw))
            exact zs_after (zs_runSW hx hb hml hown hM rfl rfl hrm.1 hrm.2 (pay_in hts (zs_good (j := j) hO g2)) List.mem_cons_self (hts _ g2) (hts _ f3) ⟨f4.1, f4.2.1⟩ (fun sig hs => by have h2 := f4.2.2; rw [hs] at h2; exact (Option.some.inj h2).symm) (hts _ g4) (hts _ g1) hpre rfl (by rw [List.length_map]; exact hn1) hsz hstk (lv_room (by rw [zs_cats]; exact hsum)) hdg hfit) hH.2.2 kk2
        · cases hinv
      · cases hinv
    · cases hinv
  · cases hinv
/-- the two pieces where something is thrown, as premises of the run -/
def zi_ThrOk (exc : Nat → String) (P : zi_P) (cl : List vw_C) (TS NW : List Cond) (CL : String) (lw : Nat) : Prop :=
  ∀ (L : Nat) (xs : Nat → Int32) (d rq k pc ex : Nat) (ls : zi_L) (w : zi_W) (cn sn : Nat), zi_thr P k pc = some ex → 6 ≤ d → 90 ≤ rq → ls.length = zi_n P k →
  ∀ (l : Launch), zx_fl l → ∀ (p : Program) (e : Env) (R : Room) (s : State) (m : MethodId) (args : Array Value) (below : List Frame) (meth : Method) (c : Code) (H : Heap) (locs : List Loc) (Q : State → Prop) (LS : Array Slot) (D : va_G) (cA : Nat → ClassId) (h0 b c0 s0 : Nat),
    zi_Cx P cl TS NW CL D cA lw L xs h0 b c0 d rq k p R s m args meth c → zi_ls h0 b LS ls → zi_Hp cl D cA h0 b s w H locs → c0 ≤ cn → s0 ≤ sn → cn + 1 ≤ c0 + R.cells → sn + 6 ≤ s0 + R.slots →
    (∀ t, zi_Thrn exc cl D cA h0 b s below w (cn + 1 - c0) (sn + 6 - s0) ex t → Q t) →
    W p l e R s m args below meth c H locs (cn - c0) (sn - s0) Q (F0 m pc LS [])
def zi_CatOk (exc : Nat → String) (P : zi_P) (cl : List vw_C) (TS NW : List Cond) (CL : String) (lw n : Nat) : Prop :=
  ∀ (L : Nat) (xs : Nat → Int32) (d rq k pc j ex : Nat) (ls ls' : zi_L) (st as r : List Value) (w w' : zi_W) (cn sn cn' sn' : Nat) (i : Jvm.ClassFile.Instr) (x : Int32), zi_code P k pc = some i → zi_inv P k i st w = some (j, as, r) → zi_ent as (zi_n P j) = some ls' → 19 + zi_n P j ≤ rq → zi_run P lw L xs n d (rq - (19 + zi_n P j)) j 0 ls' [] w cn sn = some (.inr ex, w', cn', sn') → zi_cat P k pc ex = some x → ls.length = zi_n P k →
  ∀ (l : Launch), zx_fl l → ∀ (p : Program) (e : Env) (R : Room) (s : State) (m : MethodId) (args : Array Value) (below : List Frame) (meth : Method) (c : Code) (H : Heap) (locs : List Loc) (Q : State → Prop) (LS : Array Slot) (D : va_G) (cA : Nat → ClassId) (h0 b c0 s0 : Nat),
    zi_Cx P cl TS NW CL D cA lw L xs h0 b c0 (d + 1) rq k p R s m args meth c → zi_ls h0 b LS ls → zi_Hp cl D cA h0 b s w H locs → c0 ≤ cn → s0 ≤ sn → cn' ≤ c0 + R.cells → sn' ≤ s0 + R.slots →
    zi_End P cl D cA h0 b k p l e R s m args below meth c Q (cn' - c0) (sn' - s0) (.inl (some (.int x))) w' →
    W p l e R s m args below meth c H locs (cn - c0) (sn - s0) Q (F0 m pc LS (st.map (zi_v h0 b)))
theorem zi_or_some {a b : Option zi_C} {x : zi_C} (h : zi_or a b = some x) : a = some x ∨ b = some x := by
  unfold zi_or at h
  split at h
  · exact Or.inl h
  · exact Or.inr h
set_option maxHeartbeats 4000000 in
theorem zi_sound (hO : zi_Ok P cl TS NW CL lw) (hT : zi_ThrOk exc P cl TS NW CL lw) (hCt : ∀ n, zi_Snd exc P cl TS NW CL lw n → zi_CatOk exc P cl TS NW CL lw n) : ∀ n, zi_Snd exc P cl TS NW CL lw n := by
  intro n
  induction n with
  | zero => intro L xs d rq k pc ls st w cn sn o w' cn' sn' h; cases h
  | succ n ih =>
    intro L xs d rq k pc ls st w cn sn o w' cn' sn' h hlen l hfl p e R s m args below meth c H locs Q LS D cA h0 b c0 s0 hC hl hH hc0 hs0 hR1 hR2 hE hEt
    have hmo := zi_run_mono _ _ _ _ _ _ _ _ _ _ _ _ _ _ h
    unfold zi_run at h
    split at h
    · rename_i ex hthr
      split at h
      rotate_left
      · cases h
      rename_i hth
      obtain ⟨rfl, hth1, hth2⟩ := hth
      cases h
      exact hT L xs d rq k pc ex ls w cn sn hthr hth1 hth2 hlen l hfl p e R s m args below meth c H locs Q LS D cA h0 b c0 s0 hC hl hH hc0 hs0 hR1 hR2 (hEt ex rfl)
    · split at h
      · cases h
      · rename_i i hcode
        obtain ⟨len, hdg, hlen2⟩ := hO.1 _ _ _ hcode
        split at h
        · rename_i r hret
          cases h
          unfold zi_ret at hret
          split at hret
          · split at hret
            · rename_i hr
              cases hret
              have e1 : len = 1 := hlen2.resolve_left (by decide)
              subst e1
              exact hE.1 rfl hr H locs LS pc hH hdg
            · cases hret
          · rename_i x
            split at hret
            · rename_i hr
              cases hret
              have e1 : len = 1 := hlen2.resolve_left (by decide)
              subst e1
              rcases hr with hr | ⟨hr, h01⟩
              · exact hE.2 x .int rfl hr rfl H locs LS pc hH hdg
              · exact hE.2 x .boolean rfl hr (by rcases h01 with rfl | rfl <;> decide +kernel) H locs LS pc hH hdg
            · cases hret
          · cases hret
        · split at h
          · rename_i pc1 ls1 st1 w1 cn1 sn1 hsim
            split at h
            · rename_i hg
              have h1 := ih L xs d rq k pc1 ls1 st1 w1 cn1 sn1 o w' cn' sn' h (hg.2.2.trans hlen) l hfl p e R s m args below meth c
              have hmo1 := zi_run_mono _ _ _ _ _ _ _ _ _ _ _ _ _ _ h
              have hx := hC.1
              have hb := hC.2.1
              unfold zi_sim at hsim
              by_cases hz : zi_len i = 0
              · have hno : zi_br pc (zi_len i) i ls st w cn sn = some (pc1, ls1, st1, w1, cn1, sn1) := by
                  unfold zi_len at hz
                  split at hz <;> first | (exact absurd hz (by decide)) | skip
                  rcases zi_or_some hsim with q | q
                  · unfold zi_num at q; cases q
                  · rcases zi_or_some q with q | q
                    · unfold zi_lcl at q; cases q
                    · rcases zi_or_some q with q | q
                      · exact q
                      · rcases zi_or_some q with q | q
                        · unfold zi_cel at q; cases q
                        · unfold zi_pri at q; cases q
                obtain ⟨rfl, rfl, rfl, rfl, hk⟩ := zs_br (h0 := h0) (b := b) hx hb hdg hlen2 hno
                exact hk LS (h1 H locs Q LS D cA h0 b c0 s0 hC hl hH hc0 hs0 hR1 hR2 hE hEt)
              · have hdg' : decode (zi_b P k) pc = .ok (i, zi_len i) := by rw [← hlen2.resolve_left hz]; exact hdg
                rcases zi_or_some hsim with q | q
                · obtain ⟨rfl, rfl, rfl, rfl, hk⟩ := zs_num (h0 := h0) (b := b) hx hb hdg' q
                  exact hk LS (h1 H locs Q LS D cA h0 b c0 s0 hC hl hH hc0 hs0 hR1 hR2 hE hEt)
                · rcases zi_or_some q with q | q
                  · obtain ⟨rfl, rfl, rfl, hk⟩ := zs_lcl (h0 := h0) (b := b) hx hb hdg' q
                    exact hk LS hl fun LS' hl' => h1 H locs Q LS' D cA h0 b c0 s0 hC hl' hH hc0 hs0 hR1 hR2 hE hEt
                  · rcases zi_or_some q with q | q
                    · obtain ⟨rfl, rfl, rfl, rfl, hk⟩ := zs_br (h0 := h0) (b := b) hx hb hdg hlen2 q
                      exact hk LS (h1 H locs Q LS D cA h0 b c0 s0 hC hl hH hc0 hs0 hR1 hR2 hE hEt)
                    · rcases zi_or_some q with q | q
                      · obtain ⟨rfl, m1, m2, hk⟩ := zs_cel (l := l) (e := e) (below := below) (Q := Q) hC (fun x t ht => (hO.2.1 k x t ht).1) hO.2.2.1 hO.2.2.2.1 (fun w hw => (hO.2.2.2.2.1 w hw).1) hH hc0 hs0 hdg' q
                        exact hk (by omega) (by omega) LS fun H' locs' hH' => h1 H' locs' Q LS D cA h0 b c0 s0 hC hl hH' (by omega) (by omega) hR1 hR2 hE hEt
                      · obtain ⟨rfl, rfl, rfl, hk⟩ := zs_pri (l := l) (e := e) (below := below) (Q := Q) (s0 := s0) hC (fun x t ht => (hO.2.1 k x t ht).1) hH hdg' q
                        exact hk (by omega) (by omega) LS hl hlen fun H' locs' hH' => h1 H' locs' Q LS D cA h0 b c0 s0 hC hl hH' hc0 hs0 hR1 hR2 hE hEt
            · cases h
          · split at h
            · rename_i j as r d' hinv hsn
              have hdg' : decode (zi_b P k) pc = .ok (i, zi_len i) := by
                rcases hlen2 with q | q
                · unfold zi_len at q
                  split at q <;> first | (exact absurd q (by decide)) | skip
                  unfold zi_inv at hinv
                  cases hinv
                · rw [← q]; exact hdg
              split at h
              · cases h
              · rename_i ls' hent
                split at h
                rotate_left
                · cases h
                rename_i hq
                split at h
                · rename_i v w1 cn1 sn1 hrun
                  have hmo1 := zi_run_mono _ _ _ _ _ _ _ _ _ _ _ _ _ _ h
                  have hmo2 := zi_run_mono _ _ _ _ _ _ _ _ _ _ _ _ _ _ hrun
                  exact zs_call hO ih hfl hC hH hl hlen hc0 hs0 hdg' hinv hent hq hrun (by omega) (by omega) fun H' locs' hH' => ih L xs _ rq k _ ls _ w1 cn1 sn1 o w' cn' sn' h hlen l hfl p e R s m args below meth c H' locs' Q LS D cA h0 b c0 s0 hC hl hH' (by omega) (by omega) hR1 hR2 hE hEt
                · rename_i ex w1 cn1 sn1 hrun
                  split at h
                  · rename_i x hcat
                    cases h
                    exact hCt n ih L xs d' rq k pc j ex ls ls' st as r w _ cn sn _ _ i x hcode hinv hent hq hrun hcat hlen l hfl p e R s m args below meth c H locs Q LS D cA h0 b c0 s0 hC hl hH hc0 hs0 hR1 hR2 hE
                  · cases h
                · cases h
            · cases h
end ZQ
