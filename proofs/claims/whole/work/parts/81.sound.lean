/-! What the interpreter answers, the machine does: the steps. -/
def zi_ad (h0 b i : Nat) : Nat := if i = zi_X then b else h0 + i
def zi_v (h0 b : Nat) : Value → Value
  | .ref i => .ref (zi_ad h0 b i)
  | v => v
def zi_a (h0 b : Nat) : vp_A → vp_A
  | (n, .inr (.inr (.inr (.inr f)))) => (n, .inr (.inr (.inr (.inr (fun j => (f j).map (zi_ad h0 b))))))
  | a => a
def zi_e (cA : Nat → ClassId) (h0 b : Nat) : va_E → va_E
  | .inl (t, a) => .inl (cA t, zi_a h0 b a)
  | .inr (ci, fs) => .inr (ci, fs.map (zi_v h0 b))
def zi_w (cA : Nat → ClassId) (h0 b : Nat) (w : zi_W) : va_W := w.mapIdx (fun i c => (h0 + i, zi_e cA h0 b c))
theorem zi_v_cat (h0 b : Nat) (v : Value) : (zi_v h0 b v).category = v.category := by cases v <;> rfl
theorem zi_w_get {cA : Nat → ClassId} {h0 b : Nat} {w : zi_W} {i : Nat} {c : va_E} (h : w[i]? = some c) : (zi_w cA h0 b w)[i]? = some (h0 + i, zi_e cA h0 b c) := by
  unfold zi_w
  rw [List.getElem?_mapIdx, h]
  rfl
theorem zi_w_set {cA : Nat → ClassId} {h0 b : Nat} {w : zi_W} {i : Nat} {c : va_E} : (zi_w cA h0 b w).set i (h0 + i, zi_e cA h0 b c) = zi_w cA h0 b (w.set i c) := by
  unfold zi_w
  apply List.ext_getElem?
  intro j
  rw [List.getElem?_mapIdx, List.getElem?_set, List.getElem?_set, List.length_mapIdx]
  by_cases hj : i = j
  · subst hj
    by_cases hl : i < w.length
    · simp [hl]
    · simp [hl]
  · simp [hj, List.getElem?_mapIdx]
theorem zi_w_app {cA : Nat → ClassId} {h0 b : Nat} {w : zi_W} {c : va_E} : zi_w cA h0 b (w ++ [c]) = zi_w cA h0 b w ++ [(h0 + w.length, zi_e cA h0 b c)] := by
  unfold zi_w
  exact List.mapIdx_concat
theorem zi_get_at {w : zi_W} {i : Nat} {c : va_E} (h : zi_get w i = some c) : w[i]? = some c ∧ i ≠ zi_X := by
  unfold zi_get at h
  split at h
  · cases h
  · exact ⟨h, by assumption⟩
theorem zi_ad_at {h0 b i : Nat} (h : i ≠ zi_X) : zi_ad h0 b i = h0 + i := if_neg h
/-- the machine's locals hold the interpreter's -/
def zi_ls (h0 b : Nat) (LS : Array Slot) (ls : zi_L) : Prop := LS.size = ls.length ∧ lv_wf LS ∧ ∀ (i : Nat) (v : Value), zi_loc ls i = some v → LS[i]? = some (.val (zi_v h0 b v))
def zi_al (h0 b : Nat) (ls : zi_L) : List (Nat × Value) := (List.range ls.length).filterMap (fun i => (zi_loc ls i).map (fun v => (i, zi_v h0 b v)))
theorem zi_loc_lt {ls : zi_L} {i : Nat} {v : Value} (h : zi_loc ls i = some v) : i < ls.length := by
  unfold zi_loc at h
  split at h
  · rename_i h2
    exact (List.getElem?_eq_some_iff.mp h2).1
  · cases h
theorem zi_al_mem {h0 b : Nat} {ls : zi_L} {i : Nat} {u : Value} : (i, u) ∈ zi_al h0 b ls ↔ ∃ v, zi_loc ls i = some v ∧ u = zi_v h0 b v := by
  unfold zi_al
  rw [List.mem_filterMap]
  constructor
  · rintro ⟨j, -, hj⟩
    cases hl : zi_loc ls j with
    | none => rw [hl] at hj; cases hj
    | some v =>
      rw [hl] at hj
      cases hj
      exact ⟨v, hl, rfl⟩
  · rintro ⟨v, hv, rfl⟩
    exact ⟨i, List.mem_range.mpr (zi_loc_lt hv), by rw [hv]; rfl⟩
theorem zi_ls_has {h0 b : Nat} {LS : Array Slot} {ls : zi_L} (h : zi_ls h0 b LS ls) : lv_has LS ls.length (zi_al h0 b ls) := by
  refine ⟨h.1, h.2.1, fun q hq => ?_⟩
  obtain ⟨i, u⟩ := q
  obtain ⟨v, hv, rfl⟩ := zi_al_mem.mp hq
  exact h.2.2 i v hv
theorem zi_loc_set {ls : zi_L} {i j : Nat} {x : Option Value} {v : Value} (h : zi_loc (ls.set i x) j = some v) : (i = j ∧ x = some v) ∨ (i ≠ j ∧ zi_loc ls j = some v) := by
  unfold zi_loc at h ⊢
  rw [List.getElem?_set] at h
  by_cases hij : i = j
  · subst hij
    rw [if_pos rfl] at h
    by_cases hl : i < ls.length
    · rw [if_pos hl] at h
      left
      refine ⟨rfl, ?_⟩
      cases x with
      | none => cases h
      | some u => exact h
    · rw [if_neg hl] at h
      cases h
  · rw [if_neg hij] at h
    exact Or.inr ⟨hij, h⟩
theorem zi_two_not {ls : zi_L} {i : Nat} {v : Value} (h : zi_two ls i = false) (hv : zi_loc ls i = some v) : ¬ v.category = 2 := by
  unfold zi_two at h
  rw [hv] at h
  simpa using h
theorem zi_ls_st1 {h0 b : Nat} {LS' : Array Slot} {ls ls' : zi_L} {i : Nat} {v : Value} (hs : zi_set1 ls i v = some ls')
    (h : lv_has LS' ls.length ((i, zi_v h0 b v) :: (zi_al h0 b ls).filter (fun q => !(q.1 == i) && !(q.1 + 1 == i && q.2.category == 2)))) : zi_ls h0 b LS' ls' := by
  unfold zi_set1 at hs
  split at hs
  · rename_i hc
    cases hs
    refine ⟨by rw [h.1, List.length_set], h.2.1, fun j u hj => ?_⟩
    rcases zi_loc_set hj with ⟨rfl, e⟩ | ⟨hne, hl⟩
    · cases e
      exact h.2.2 (i, zi_v h0 b v) List.mem_cons_self
    · refine h.2.2 (j, zi_v h0 b u) (List.mem_cons_of_mem _ (List.mem_filter.mpr ⟨zi_al_mem.mpr ⟨u, hl, rfl⟩, ?_⟩))
      have h2 : ¬ (j + 1 = i ∧ (zi_v h0 b u).category = 2) := by
        rintro ⟨e1, e2⟩
        rw [zi_v_cat] at e2
        rcases hc.2.2 with z | z
        · omega
        · have : i - 1 = j := by omega
          rw [this] at z
          exact zi_two_not z hl e2
      simp only [Bool.and_eq_true, Bool.not_eq_true', beq_eq_false_iff_ne, ne_eq, Bool.and_eq_false_iff]
      refine ⟨fun q => hne q.symm, ?_⟩
      by_cases q1 : j + 1 = i
      · exact Or.inr fun q2 => h2 ⟨q1, q2⟩
      · exact Or.inl q1
  · cases hs
theorem zi_ls_st2 {h0 b : Nat} {LS' : Array Slot} {ls ls' : zi_L} {i : Nat} {v : Value} (hs : zi_set2 ls i v = some ls')
    (h : lv_has LS' ls.length ((i, zi_v h0 b v) :: (zi_al h0 b ls).filter (fun q => !(q.1 == i) && (!(q.1 == i + 1) && !(q.1 + 1 == i && q.2.category == 2))))) : zi_ls h0 b LS' ls' := by
  unfold zi_set2 at hs
  split at hs
  · rename_i hc
    cases hs
    refine ⟨by rw [h.1, List.length_set, List.length_set], h.2.1, fun j u hj => ?_⟩
    rcases zi_loc_set hj with ⟨-, e⟩ | ⟨hne, hl⟩
    · cases e
    · rcases zi_loc_set hl with ⟨rfl, e⟩ | ⟨hne2, hl⟩
      · cases e
        exact h.2.2 (i, zi_v h0 b v) List.mem_cons_self
      · refine h.2.2 (j, zi_v h0 b u) (List.mem_cons_of_mem _ (List.mem_filter.mpr ⟨zi_al_mem.mpr ⟨u, hl, rfl⟩, ?_⟩))
        have h2 : ¬ (j + 1 = i ∧ (zi_v h0 b u).category = 2) := by
          rintro ⟨e1, e2⟩
          rw [zi_v_cat] at e2
          rcases hc.2.2 with z | z
          · omega
          · have : i - 1 = j := by omega
            rw [this] at z
            exact zi_two_not z hl e2
        simp only [Bool.and_eq_true, Bool.not_eq_true', beq_eq_false_iff_ne, ne_eq, Bool.and_eq_false_iff]
        refine ⟨fun q => hne2 q.symm, fun q => hne q.symm, ?_⟩
        by_cases q1 : j + 1 = i
        · exact Or.inr fun q2 => h2 ⟨q1, q2⟩
        · exact Or.inl q1
  · cases hs
section ZS
variable {p : Program} {l : Launch} {e : Env} {R : Room} {s : State} {m : MethodId} {args : Array Value} {below : List Frame} {meth : Method} {c : Code} {H : Heap} {locs : List Loc} {cells slots : Nat} {Q : State → Prop} {cc : ByteArray} {h0 b : Nat}
theorem zs_num {pc pc' : Nat} {i : Jvm.ClassFile.Instr} {ls ls' : zi_L} {st st' : List Value} {w w' : zi_W} {cn cn' sn sn' : Nat} (hx : p.tables.exec = Jvm.exec) (hb : c.code = cc) (hdg : decode cc pc = .ok (i, zi_len i))
    (h : zi_num pc (zi_len i) i ls st w cn sn = some (pc', ls', st', w', cn', sn')) : ls' = ls ∧ w' = w ∧ cn' = cn ∧ sn' = sn ∧ ∀ LS : Array Slot, W p l e R s m args below meth c H locs cells slots Q (F0 m pc' LS (st'.map (zi_v h0 b))) → W p l e R s m args below meth c H locs cells slots Q (F0 m pc LS (st.map (zi_v h0 b))) := by
  unfold zi_num at h
  split at h
  · cases h; exact ⟨rfl, rfl, rfl, rfl, fun LS k => lv_iconst hx hb hdg rfl k⟩
  · cases h; exact ⟨rfl, rfl, rfl, rfl, fun LS k => lv_bipush hx hb hdg rfl k⟩
  · cases h; exact ⟨rfl, rfl, rfl, rfl, fun LS k => lv_sipush hx hb hdg rfl k⟩
  · cases h; exact ⟨rfl, rfl, rfl, rfl, fun LS k => lv_iadd hx hb hdg k⟩
  · cases h; exact ⟨rfl, rfl, rfl, rfl, fun LS k => lv_isub hx hb hdg k⟩
  · cases h; exact ⟨rfl, rfl, rfl, rfl, fun LS k => lv_imul hx hb hdg k⟩
  · cases h; exact ⟨rfl, rfl, rfl, rfl, fun LS k => lv_iand hx hb hdg k⟩
  · cases h; exact ⟨rfl, rfl, rfl, rfl, fun LS k => lv_ixor hx hb hdg k⟩
  · cases h; exact ⟨rfl, rfl, rfl, rfl, fun LS k => lv_ishl hx hb hdg k⟩
  · cases h; exact ⟨rfl, rfl, rfl, rfl, fun LS k => lv_iushr hx hb hdg rfl k⟩
  · split at h
    · cases h
    · cases h; exact ⟨rfl, rfl, rfl, rfl, fun LS k => lv_idiv hx hb hdg (by assumption) k⟩
  · split at h
    · cases h
    · cases h; exact ⟨rfl, rfl, rfl, rfl, fun LS k => lv_irem hx hb hdg (by assumption) k⟩
  · cases h; exact ⟨rfl, rfl, rfl, rfl, fun LS k => lv_i2l hx hb hdg rfl k⟩
  · cases h; exact ⟨rfl, rfl, rfl, rfl, fun LS k => lv_l2i hx hb hdg rfl k⟩
  · cases h; exact ⟨rfl, rfl, rfl, rfl, fun LS k => lv_i2c hx hb hdg rfl k⟩
  · cases h; exact ⟨rfl, rfl, rfl, rfl, fun LS k => lv_ladd hx hb hdg k⟩
  · cases h; exact ⟨rfl, rfl, rfl, rfl, fun LS k => lv_lmul hx hb hdg k⟩
  · split at h
    · cases h
    · cases h; exact ⟨rfl, rfl, rfl, rfl, fun LS k => lv_ldiv hx hb hdg (by assumption) k⟩
  · split at h
    · cases h
    · cases h; exact ⟨rfl, rfl, rfl, rfl, fun LS k => lv_lrem hx hb hdg (by assumption) k⟩
  · cases h; exact ⟨rfl, rfl, rfl, rfl, fun LS k => W.lcmp hx hb hdg k⟩
  · split at h
    · cases h; exact ⟨rfl, rfl, rfl, rfl, fun LS k => lv_dup hx hb hdg (by rw [zi_v_cat]; assumption) k⟩
    · cases h
  · split at h
    · rename_i hc
      cases h; exact ⟨rfl, rfl, rfl, rfl, fun LS k => lv_dup_x1 hx hb hdg (by rw [zi_v_cat]; exact hc.1) (by rw [zi_v_cat]; exact hc.2) k⟩
    · cases h
  · split at h
    · rename_i hc
      cases h; exact ⟨rfl, rfl, rfl, rfl, fun LS k => lv_dup_x2 hx hb hdg (by rw [zi_v_cat]; exact hc.1) (by rw [zi_v_cat]; exact hc.2.1) (by rw [zi_v_cat]; exact hc.2.2) k⟩
    · cases h
  · split at h
    · rename_i hc
      cases h; exact ⟨rfl, rfl, rfl, rfl, fun LS k => lv_dup2_11 hx hb hdg (by rw [zi_v_cat]; exact hc.1) (by rw [zi_v_cat]; exact hc.2) k⟩
    · cases h
  · split at h
    · cases h; exact ⟨rfl, rfl, rfl, rfl, fun LS k => lv_pop hx hb hdg (by rw [zi_v_cat]; assumption) k⟩
    · cases h
  · cases h
theorem zs_tgt {pc t : Nat} {off : Int} (h : zi_tgt pc off = some t) : (pc : Int) + off = (t : Int) := by
  unfold zi_tgt at h
  split at h
  · cases h
    rw [Int.toNat_of_nonneg (by assumption)]
  · cases h
theorem zs_jmp {bb : Bool} {pc n pc' : Nat} {off : Int} {ls ls' : zi_L} {st st' : List Value} {w w' : zi_W} {cn cn' sn sn' : Nat} (h : zi_jmp bb pc n off ls st w cn sn = some (pc', ls', st', w', cn', sn')) :
    ∃ t : Nat, (pc : Int) + off = (t : Int) ∧ pc' = (if bb = true then t else pc + n) ∧ ls' = ls ∧ st' = st ∧ w' = w ∧ cn' = cn ∧ sn' = sn := by
  unfold zi_jmp at h
  split at h
  · rename_i t ht
    cases h
    exact ⟨t, zs_tgt ht, rfl, rfl, rfl, rfl, rfl, rfl⟩
  · cases h
theorem zs_br {pc pc' : Nat} {i : Jvm.ClassFile.Instr} {ls ls' : zi_L} {st st' : List Value} {w w' : zi_W} {cn cn' sn sn' len : Nat} (hx : p.tables.exec = Jvm.exec) (hb : c.code = cc) (hdg : decode cc pc = .ok (i, len)) (hlen : zi_len i = 0 ∨ len = zi_len i)
    (h : zi_br pc (zi_len i) i ls st w cn sn = some (pc', ls', st', w', cn', sn')) : ls' = ls ∧ w' = w ∧ cn' = cn ∧ sn' = sn ∧ ∀ LS : Array Slot, W p l e R s m args below meth c H locs cells slots Q (F0 m pc' LS (st'.map (zi_v h0 b))) → W p l e R s m args below meth c H locs cells slots Q (F0 m pc LS (st.map (zi_v h0 b))) := by
  unfold zi_br at h
  split at h
  · have hlen : len = 3 := hlen.resolve_left (show ¬ (3 = 0) by decide)
    subst hlen
    obtain ⟨t, ht, rfl, rfl, rfl, rfl, rfl, rfl⟩ := zs_jmp h
    exact ⟨rfl, rfl, rfl, rfl, fun LS k => lv_if_eq hx hb hdg ht (fun q => by rwa [decide_eq_true q, if_pos rfl] at k) (fun q => by rwa [decide_eq_false q, if_neg Bool.false_ne_true] at k)⟩
  · have hlen : len = 3 := hlen.resolve_left (show ¬ (3 = 0) by decide)
    subst hlen
    obtain ⟨t, ht, rfl, rfl, rfl, rfl, rfl, rfl⟩ := zs_jmp h
    exact ⟨rfl, rfl, rfl, rfl, fun LS k => lv_if_ne hx hb hdg ht (fun q => by rwa [decide_eq_true q, if_pos rfl] at k) (fun q => by rwa [decide_eq_false (fun h => h q), if_neg Bool.false_ne_true] at k)⟩
  · have hlen : len = 3 := hlen.resolve_left (show ¬ (3 = 0) by decide)
    subst hlen
    obtain ⟨t, ht, rfl, rfl, rfl, rfl, rfl, rfl⟩ := zs_jmp h
    exact ⟨rfl, rfl, rfl, rfl, fun LS k => lv_if_lt hx hb hdg ht (fun q => by rwa [decide_eq_true q, if_pos rfl] at k) (fun q => by rwa [decide_eq_false q, if_neg Bool.false_ne_true] at k)⟩
  · have hlen : len = 3 := hlen.resolve_left (show ¬ (3 = 0) by decide)
    subst hlen
    obtain ⟨t, ht, rfl, rfl, rfl, rfl, rfl, rfl⟩ := zs_jmp h
    exact ⟨rfl, rfl, rfl, rfl, fun LS k => lv_if_ge hx hb hdg ht (fun q => by rwa [decide_eq_true q, if_pos rfl] at k) (fun q => by rwa [decide_eq_false q, if_neg Bool.false_ne_true] at k)⟩
  · have hlen : len = 3 := hlen.resolve_left (show ¬ (3 = 0) by decide)
    subst hlen
    obtain ⟨t, ht, rfl, rfl, rfl, rfl, rfl, rfl⟩ := zs_jmp h
    exact ⟨rfl, rfl, rfl, rfl, fun LS k => lv_if_gt hx hb hdg ht (fun q => by rwa [decide_eq_true q, if_pos rfl] at k) (fun q => by rwa [decide_eq_false q, if_neg Bool.false_ne_true] at k)⟩
  · have hlen : len = 3 := hlen.resolve_left (show ¬ (3 = 0) by decide)
    subst hlen
    obtain ⟨t, ht, rfl, rfl, rfl, rfl, rfl, rfl⟩ := zs_jmp h
    exact ⟨rfl, rfl, rfl, rfl, fun LS k => lv_if_le hx hb hdg ht (fun q => by rwa [decide_eq_true q, if_pos rfl] at k) (fun q => by rwa [decide_eq_false q, if_neg Bool.false_ne_true] at k)⟩
  · have hlen : len = 3 := hlen.resolve_left (show ¬ (3 = 0) by decide)
    subst hlen
    obtain ⟨t, ht, rfl, rfl, rfl, rfl, rfl, rfl⟩ := zs_jmp h
    exact ⟨rfl, rfl, rfl, rfl, fun LS k => lv_icmp_eq hx hb hdg ht (fun q => by rwa [decide_eq_true q, if_pos rfl] at k) (fun q => by rwa [decide_eq_false q, if_neg Bool.false_ne_true] at k)⟩
  · have hlen : len = 3 := hlen.resolve_left (show ¬ (3 = 0) by decide)
    subst hlen
    obtain ⟨t, ht, rfl, rfl, rfl, rfl, rfl, rfl⟩ := zs_jmp h
    exact ⟨rfl, rfl, rfl, rfl, fun LS k => lv_icmp_ne hx hb hdg ht (fun q => by rwa [decide_eq_true q, if_pos rfl] at k) (fun q => by rwa [decide_eq_false (fun h => h q), if_neg Bool.false_ne_true] at k)⟩
  · have hlen : len = 3 := hlen.resolve_left (show ¬ (3 = 0) by decide)
    subst hlen
    obtain ⟨t, ht, rfl, rfl, rfl, rfl, rfl, rfl⟩ := zs_jmp h
    exact ⟨rfl, rfl, rfl, rfl, fun LS k => lv_icmp_lt hx hb hdg ht (fun q => by rwa [decide_eq_true q, if_pos rfl] at k) (fun q => by rwa [decide_eq_false q, if_neg Bool.false_ne_true] at k)⟩
  · have hlen : len = 3 := hlen.resolve_left (show ¬ (3 = 0) by decide)
    subst hlen
    obtain ⟨t, ht, rfl, rfl, rfl, rfl, rfl, rfl⟩ := zs_jmp h
    exact ⟨rfl, rfl, rfl, rfl, fun LS k => lv_icmp_ge hx hb hdg ht (fun q => by rwa [decide_eq_true q, if_pos rfl] at k) (fun q => by rwa [decide_eq_false q, if_neg Bool.false_ne_true] at k)⟩
  · have hlen : len = 3 := hlen.resolve_left (show ¬ (3 = 0) by decide)
    subst hlen
    obtain ⟨t, ht, rfl, rfl, rfl, rfl, rfl, rfl⟩ := zs_jmp h
    exact ⟨rfl, rfl, rfl, rfl, fun LS k => lv_icmp_gt hx hb hdg ht (fun q => by rwa [decide_eq_true q, if_pos rfl] at k) (fun q => by rwa [decide_eq_false q, if_neg Bool.false_ne_true] at k)⟩
  · have hlen : len = 3 := hlen.resolve_left (show ¬ (3 = 0) by decide)
    subst hlen
    obtain ⟨t, ht, rfl, rfl, rfl, rfl, rfl, rfl⟩ := zs_jmp h
    exact ⟨rfl, rfl, rfl, rfl, fun LS k => lv_icmp_le hx hb hdg ht (fun q => by rwa [decide_eq_true q, if_pos rfl] at k) (fun q => by rwa [decide_eq_false q, if_neg Bool.false_ne_true] at k)⟩
  · have hlen : len = 3 := hlen.resolve_left (show ¬ (3 = 0) by decide)
    subst hlen
    obtain ⟨t, ht, rfl, rfl, rfl, rfl, rfl, rfl⟩ := zs_jmp h
    exact ⟨rfl, rfl, rfl, rfl, fun LS k => lv_goto hx hb hdg ht k⟩
  · split at h
    · obtain ⟨t, ht, rfl, rfl, rfl, rfl, rfl, rfl⟩ := zs_jmp h
      exact ⟨rfl, rfl, rfl, rfl, fun LS k => lv_tableOut hx hb hdg (by assumption) ht k⟩
    · rename_i hlo
      split at h
      · rename_i off hoff
        obtain ⟨t, ht, rfl, rfl, rfl, rfl, rfl, rfl⟩ := zs_jmp h
        exact ⟨rfl, rfl, rfl, rfl, fun LS k => lv_tableIn hx hb hdg (fun q => hlo (Or.inl q)) (fun q => hlo (Or.inr q)) hoff ht k⟩
      · cases h
  · cases h
theorem zs_push1 {q : Option Value} {pc n pc' : Nat} {ls ls' : zi_L} {st st' : List Value} {w w' : zi_W} {cn cn' sn sn' : Nat} (h : zi_push1 q pc n ls st w cn sn = some (pc', ls', st', w', cn', sn')) :
    ∃ v, q = some v ∧ pc' = pc + n ∧ ls' = ls ∧ st' = v :: st ∧ w' = w ∧ cn' = cn ∧ sn' = sn := by
  unfold zi_push1 at h
  split at h
  · cases h; exact ⟨_, rfl, rfl, rfl, rfl, rfl, rfl, rfl⟩
  · cases h
theorem zs_isI {q : Option Value} {v : Value} (h : zi_isI q = some v) : ∃ x, v = .int x ∧ q = some (.int x) := by
  unfold zi_isI at h
  split at h
  · cases h; exact ⟨_, rfl, rfl⟩
  · cases h
theorem zs_isL {q : Option Value} {v : Value} (h : zi_isL q = some v) : ∃ x, v = .long x ∧ q = some (.long x) := by
  unfold zi_isL at h
  split at h
  · cases h; exact ⟨_, rfl, rfl⟩
  · cases h
theorem zs_isR {q : Option Value} {v : Value} (h : zi_isR q = some v) : ∃ x, v = .ref x ∧ q = some (.ref x) := by
  unfold zi_isR at h
  split at h
  · cases h; exact ⟨_, rfl, rfl⟩
  · cases h
theorem zs_sto1 {i : Nat} {v : Value} {pc n pc' : Nat} {ls ls' : zi_L} {st st' : List Value} {w w' : zi_W} {cn cn' sn sn' : Nat} (h : zi_sto1 i v pc n ls st w cn sn = some (pc', ls', st', w', cn', sn')) :
    zi_set1 ls i v = some ls' ∧ pc' = pc + n ∧ st' = st ∧ w' = w ∧ cn' = cn ∧ sn' = sn := by
  unfold zi_sto1 at h
  split at h
  · cases h; exact ⟨by assumption, rfl, rfl, rfl, rfl, rfl⟩
  · cases h
theorem zs_sto2 {i : Nat} {v : Value} {pc n pc' : Nat} {ls ls' : zi_L} {st st' : List Value} {w w' : zi_W} {cn cn' sn sn' : Nat} (h : zi_sto2 i v pc n ls st w cn sn = some (pc', ls', st', w', cn', sn')) :
    zi_set2 ls i v = some ls' ∧ pc' = pc + n ∧ st' = st ∧ w' = w ∧ cn' = cn ∧ sn' = sn := by
  unfold zi_sto2 at h
  split at h
  · cases h; exact ⟨by assumption, rfl, rfl, rfl, rfl, rfl⟩
  · cases h
theorem zs_set1_lt {ls ls' : zi_L} {i : Nat} {v : Value} (h : zi_set1 ls i v = some ls') : i < ls.length := by
  unfold zi_set1 at h
  split at h
  · rename_i hc; exact hc.1
  · cases h
theorem zs_set2_lt {ls ls' : zi_L} {i : Nat} {v : Value} (h : zi_set2 ls i v = some ls') : i + 1 < ls.length := by
  unfold zi_set2 at h
  split at h
  · rename_i hc; exact hc.1
  · cases h
theorem zs_lcl {pc pc' : Nat} {i : Jvm.ClassFile.Instr} {ls ls' : zi_L} {st st' : List Value} {w w' : zi_W} {cn cn' sn sn' : Nat} (hx : p.tables.exec = Jvm.exec) (hb : c.code = cc) (hdg : decode cc pc = .ok (i, zi_len i))
    (h : zi_lcl pc (zi_len i) i ls st w cn sn = some (pc', ls', st', w', cn', sn')) : w' = w ∧ cn' = cn ∧ sn' = sn ∧ ∀ LS : Array Slot, zi_ls h0 b LS ls → (∀ LS' : Array Slot, zi_ls h0 b LS' ls' → W p l e R s m args below meth c H locs cells slots Q (F0 m pc' LS' (st'.map (zi_v h0 b)))) → W p l e R s m args below meth c H locs cells slots Q (F0 m pc LS (st.map (zi_v h0 b))) := by
  unfold zi_lcl at h
  split at h
  · obtain ⟨v, hv, rfl, rfl, rfl, rfl, rfl, rfl⟩ := zs_push1 h
    obtain ⟨x, rfl, hq⟩ := zs_isI hv
    exact ⟨rfl, rfl, rfl, fun LS hl k => lv_iload hx hb hdg (hl.2.2 _ _ hq) (k LS hl)⟩
  · obtain ⟨v, hv, rfl, rfl, rfl, rfl, rfl, rfl⟩ := zs_push1 h
    obtain ⟨x, rfl, hq⟩ := zs_isI hv
    exact ⟨rfl, rfl, rfl, fun LS hl k => lv_iload_n hx hb hdg rfl (hl.2.2 _ _ hq) (k LS hl)⟩
  · obtain ⟨v, hv, rfl, rfl, rfl, rfl, rfl, rfl⟩ := zs_push1 h
    obtain ⟨x, rfl, hq⟩ := zs_isL hv
    exact ⟨rfl, rfl, rfl, fun LS hl k => lv_lload hx hb hdg (hl.2.2 _ _ hq) (k LS hl)⟩
  · obtain ⟨v, hv, rfl, rfl, rfl, rfl, rfl, rfl⟩ := zs_push1 h
    obtain ⟨x, rfl, hq⟩ := zs_isL hv
    exact ⟨rfl, rfl, rfl, fun LS hl k => lv_lload_n hx hb hdg rfl (hl.2.2 _ _ hq) (k LS hl)⟩
  · obtain ⟨v, hv, rfl, rfl, rfl, rfl, rfl, rfl⟩ := zs_push1 h
    obtain ⟨x, rfl, hq⟩ := zs_isR hv
    exact ⟨rfl, rfl, rfl, fun LS hl k => lv_aload hx hb hdg (hl.2.2 _ _ hq) (k LS hl)⟩
  · obtain ⟨v, hv, rfl, rfl, rfl, rfl, rfl, rfl⟩ := zs_push1 h
    obtain ⟨x, rfl, hq⟩ := zs_isR hv
    exact ⟨rfl, rfl, rfl, fun LS hl k => lv_aload_n hx hb hdg rfl (hl.2.2 _ _ hq) (k LS hl)⟩
  · obtain ⟨hs, rfl, rfl, rfl, rfl, rfl⟩ := zs_sto1 h
    exact ⟨rfl, rfl, rfl, fun LS hl k => lv_istore hx hb hdg (zi_ls_has hl) (zs_set1_lt hs) rfl fun LS' hl' => k LS' (zi_ls_st1 hs hl')⟩
  · obtain ⟨hs, rfl, rfl, rfl, rfl, rfl⟩ := zs_sto1 h
    exact ⟨rfl, rfl, rfl, fun LS hl k => lv_istore_n hx hb hdg rfl (zi_ls_has hl) (zs_set1_lt hs) rfl fun LS' hl' => k LS' (zi_ls_st1 hs hl')⟩
  · obtain ⟨hs, rfl, rfl, rfl, rfl, rfl⟩ := zs_sto1 h
    exact ⟨rfl, rfl, rfl, fun LS hl k => lv_astore hx hb hdg (zi_ls_has hl) (zs_set1_lt hs) rfl fun LS' hl' => k LS' (zi_ls_st1 hs hl')⟩
  · obtain ⟨hs, rfl, rfl, rfl, rfl, rfl⟩ := zs_sto1 h
    exact ⟨rfl, rfl, rfl, fun LS hl k => lv_astore_n hx hb hdg rfl (zi_ls_has hl) (zs_set1_lt hs) rfl fun LS' hl' => k LS' (zi_ls_st1 hs hl')⟩
  · obtain ⟨hs, rfl, rfl, rfl, rfl, rfl⟩ := zs_sto2 h
    exact ⟨rfl, rfl, rfl, fun LS hl k => lv_lstore hx hb hdg (zi_ls_has hl) (zs_set2_lt hs) rfl fun LS' hl' => k LS' (zi_ls_st2 hs hl')⟩
  · obtain ⟨hs, rfl, rfl, rfl, rfl, rfl⟩ := zs_sto2 h
    exact ⟨rfl, rfl, rfl, fun LS hl k => lv_lstore_n hx hb hdg rfl (zi_ls_has hl) (zs_set2_lt hs) rfl fun LS' hl' => k LS' (zi_ls_st2 hs hl')⟩
  · split at h
    · rename_i x hq
      obtain ⟨hs, rfl, rfl, rfl, rfl, rfl⟩ := zs_sto1 h
      refine ⟨rfl, rfl, rfl, fun LS hl k => ?_⟩
      obtain ⟨kk, hk⟩ := List.getElem?_of_mem (zi_al_mem (h0 := h0) (b := b) |>.mpr ⟨_, hq, rfl⟩)
      exact lv_iinc hx hb hdg (zi_ls_has hl) hk rfl (zs_set1_lt hs) rfl fun LS' hl' => k LS' (zi_ls_st1 hs hl')
    · cases h
  · cases h
end ZS
