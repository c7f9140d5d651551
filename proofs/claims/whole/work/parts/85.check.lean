/-! The program's tables fit the Statement's words: how that is decided. -/
def zp_good : Cond → Bool
  | .code .. => true
  | .codeWith .. => true
  | .static _ => true
  | .instanceMethod _ => true
  | .native _ => true
  | .initialized _ => true
  | .methodLink .. => true
  | .fieldLink .. => true
  | .classLink .. => true
  | .selects .. => true
  | .constant .. => true
  | .constantLong .. => true
  | .lays .. => true
  | .laysFinal .. => true
  | .instantiable .. => true
  | .arrayClass _ => true
  | .superclass .. => true
  | .codeSync .. => true
  | _ => false
def zp_nest : Cond → Bool
  | .fieldLinkNest .. => true
  | .methodLinkNest .. => true
  | _ => false
theorem zp_good_ok {w : Cond} (h : zp_good w = true) : (w.onTables && w.keeps) = true ∨ ∃ ty, w = .arrayClass ty := by
  cases w <;> first | (exact Or.inr ⟨_, rfl⟩) | (exact Or.inl rfl) | (cases h)
theorem zp_nest_ok {w : Cond} (h : zp_nest w = true) : w.onTables = true ∧ ((∃ a i b n d h, w = .fieldLinkNest a i b n d h) ∨ ∃ a i x h, w = .methodLinkNest a i x h) := by
  cases w <;> first | (exact ⟨rfl, Or.inl ⟨_, _, _, _, _, _, rfl⟩⟩) | (exact ⟨rfl, Or.inr ⟨_, _, _, _, rfl⟩⟩) | (cases h)
def zp_TS : List Cond := lw_tbl.filter zp_good
def zp_NW : List Cond := lw_tbl.filter zp_nest
def zc_at (i : Nat) (w : Cond) : Bool := decide (lw_tbl[i]? = some w) && zp_good w
def zc_nt (i : Nat) (w : Cond) : Bool := decide (lw_tbl[i]? = some w) && zp_nest w
theorem zc_at_ok {i : Nat} {w : Cond} (h : zc_at i w = true) : w ∈ zp_TS := by
  unfold zc_at at h
  rw [Bool.and_eq_true, decide_eq_true_eq] at h
  exact List.mem_filter.mpr ⟨List.mem_of_getElem? h.1, h.2⟩
theorem zc_nt_ok {i : Nat} {w : Cond} (h : zc_nt i w = true) : w ∈ zp_NW := by
  unfold zc_nt at h
  rw [Bool.and_eq_true, decide_eq_true_eq] at h
  exact List.mem_filter.mpr ⟨List.mem_of_getElem? h.1, h.2⟩
def zc_cl (c : Nat) (q : vw_C) : Bool := (u_ws q.1 q.2.1 q.2.2).all (fun w => decide (w ∈ lw_tbl) && zp_good w) && decide (∀ j, j < q.2.2 → parseFieldDescriptor (q.2.1 j).2.2.1 = some (zi_fty zp c j)) && decide (∀ a, a < q.2.2 → ∀ b, b < q.2.2 → a ≠ b → (q.2.1 a).2.1 ≠ (q.2.1 b).2.1)
theorem zc_cl_ok {c : Nat} {q : vw_C} (hc : zp_cl[c]? = some q) (h : zc_cl c q = true) : zi_cls zp zp_cl zp_TS c q := by
  unfold zc_cl at h
  rw [Bool.and_eq_true, Bool.and_eq_true, decide_eq_true_eq, decide_eq_true_eq] at h
  refine ⟨hc, fun w hw => ?_, h.1.2, h.2⟩
  have h1 := List.all_eq_true.mp h.1.1 w hw
  rw [Bool.and_eq_true, decide_eq_true_eq] at h1
  exact List.mem_filter.mpr h1
theorem zc_c0 : zc_cl 0 ("PatienceTable", zp_T0, 6) = true := by decide +kernel
theorem zc_c1 : zc_cl 1 ("PatienceTable$Game", zp_T1, 6) = true := by decide +kernel
theorem zc_c2 : zc_cl 2 ("PatienceTable$Layout", zp_T2, 6) = true := by decide +kernel
theorem zc_c3 : zc_cl 3 ("PatienceTable$Log", zp_T3, 6) = true := by decide +kernel
theorem zc_c4 : zc_cl 4 ("PatienceTable$Search", zp_T4, 10) = true := by decide +kernel
theorem zc_c5 : zc_cl 5 ("PatienceTableModel", zp_T5, 29) = true := by decide +kernel
theorem zp_cls : ∀ (c : Nat) (q : vw_C), zp_cl[c]? = some q → zi_cls zp zp_cl zp_TS c q
  | 0, q, h => by cases h; exact zc_cl_ok rfl zc_c0
  | 1, q, h => by cases h; exact zc_cl_ok rfl zc_c1
  | 2, q, h => by cases h; exact zc_cl_ok rfl zc_c2
  | 3, q, h => by cases h; exact zc_cl_ok rfl zc_c3
  | 4, q, h => by cases h; exact zc_cl_ok rfl zc_c4
  | 5, q, h => by cases h; exact zc_cl_ok rfl zc_c5
  | n + 6, q, h => by cases h
def zc_fld (own : String) (x : Nat) (t : zi_T) (i : Nat) (fin : Bool) : Bool := match zp_cl[t.2.1]? with
  | some q => decide (t.2.2.1 < q.2.2) && decide ((q.2.1 t.2.2.1).2.2.2 = fin) && (zc_at i (.fieldLink own x (q.2.1 t.2.2.1).1 (q.2.1 t.2.2.1).2.1 (q.2.1 t.2.2.1).2.2.1) || zc_nt i (.fieldLinkNest own x (q.2.1 t.2.2.1).1 (q.2.1 t.2.2.1).2.1 (q.2.1 t.2.2.1).2.2.1 "PatienceTable"))
  | none => false
theorem zc_fld_ok {own : String} {x : Nat} {t : zi_T} {i : Nat} {fin : Bool} (h : zc_fld own x t i fin = true) : zi_fld zp zp_cl zp_TS zp_NW own x t.2.1 t.2.2.1 fin := by
  unfold zc_fld at h
  split at h
  · rename_i q hq
    rw [Bool.and_eq_true, Bool.and_eq_true, decide_eq_true_eq, decide_eq_true_eq, Bool.or_eq_true] at h
    exact ⟨q, zp_cls _ q hq, h.1.1, h.1.2, h.2.elim (fun h => Or.inl (zc_at_ok h)) (fun h => Or.inr ⟨_, zc_nt_ok h⟩)⟩
  · cases h
def zc_fin (k x : Nat) (t : zi_T) (i : Nat) : Bool := match zp_cl[t.2.1]? with
  | some q => decide ((zi_y zp k).name = "<init>") && decide (t.2.2.1 < q.2.2) && decide ((q.2.1 t.2.2.1).2.2.2 = true) && decide ((q.2.1 t.2.2.1).1 = (zi_y zp k).cls) && zc_at i (.fieldLink (zi_y zp k).cls x (q.2.1 t.2.2.1).1 (q.2.1 t.2.2.1).2.1 (q.2.1 t.2.2.1).2.2.1)
  | none => false
def zc_new (k x : Nat) (t : zi_T) (hs : List Nat) : Bool := match zp_cl[t.2.1]? with
  | some q => decide (t.2.2.1 = q.2.2) && zc_at (hs.getD 0 0) (.classLink (zi_y zp k).cls x q.1) && zc_at (hs.getD 1 0) (.instantiable q.1 q.2.2) && zc_at (hs.getD 2 0) (.initialized q.1) && decide (∀ j, j < q.2.2 → defaultValue (zi_fty zp t.2.1 j) = vp_V (zi_fs0 zp t.2.1) j) && (zi_fs0 zp t.2.1).all zi_noR
  | none => false
def zc_con (k x : Nat) (t : zi_T) (i : Nat) : Bool := match t.2.2.2 with
  | .int v => zc_at i (.constant (zi_y zp k).cls x v)
  | .long v => zc_at i (.constantLong (zi_y zp k).cls x v)
  | _ => false
def zc_pri (k x : Nat) (t : zi_T) (hs : List Nat) : Bool := match t.2.1 with
  | 0 => zc_at (hs.getD 0 0) (.methodLink (zi_y zp k).cls x Lib.objectInit) && zc_at (hs.getD 1 0) (.instanceMethod Lib.objectInit) && zc_at (hs.getD 2 0) (.code Lib.objectInit ⟨#[0xb1]⟩ 1 none)
  | 1 => zc_at (hs.getD 0 0) (.methodLink (zi_y zp k).cls x Lib.Math.min.name) && zc_at (hs.getD 1 0) (.static Lib.Math.min.name) && zc_at (hs.getD 2 0) (.initialized "java/lang/Math") && zc_at (hs.getD 3 0) (.code Lib.Math.min.name Lib.Math.min.code 2 (some .int))
  | 2 => zc_at (hs.getD 0 0) (.methodLink (zi_y zp k).cls x arraycopyName) && zc_at (hs.getD 1 0) (.native arraycopyName) && zc_at (hs.getD 2 0) (.static arraycopyName) && zc_at (hs.getD 3 0) (.initialized "java/lang/System")
  | _ => false
def zc_isW : Cond → MethodName → ByteArray → Nat → Option FieldType → Bool
  | .codeWith y b n r _, y', b', n', r' => decide (y = y') && decide (b = b') && decide (n = n') && decide (r = r')
  | _, _, _, _, _ => false
def zc_wth (i : Nat) (y : MethodName) (b : ByteArray) (n : Nat) (r : Option FieldType) : Bool := match lw_tbl[i]? with
  | some w => zc_isW w y b n r
  | none => false
theorem zc_wth_ok {i : Nat} {y : MethodName} {b : ByteArray} {n : Nat} {r : Option FieldType} (h : zc_wth i y b n r = true) : ∃ hh : List (Nat × Nat × Nat × Nat), Cond.codeWith y b n r hh ∈ zp_TS := by
  unfold zc_wth at h
  split at h
  · rename_i w hw
    unfold zc_isW at h
    split at h
    · simp only [Bool.and_eq_true, decide_eq_true_eq] at h
      obtain ⟨⟨⟨rfl, rfl⟩, rfl⟩, rfl⟩ := h
      exact ⟨_, List.mem_filter.mpr ⟨List.mem_of_getElem? hw, rfl⟩⟩
    · cases h
  · cases h
def zc_call (k x : Nat) (t : zi_T) (hs : List Nat) : Bool :=
  plainFor (zi_y zp t.2.1) && zc_at (hs.getD 1 0) (.initialized (zi_y zp t.2.1).cls) && (decide ((zi_y zp t.2.1).cls ≠ "java/lang/invoke/MethodHandle") && decide ((zi_y zp t.2.1).cls ≠ "java/lang/invoke/VarHandle") && decide ((parseMethodDescriptor (zi_y zp t.2.1).desc).map (fun d => d.parameters.length) = some t.2.2.1)) && decide (t.2.1 ≠ 0) &&
  (zc_at (hs.getD 0 0) (.methodLink (zi_y zp k).cls x (zi_y zp t.2.1)) || zc_nt (hs.getD 0 0) (.methodLinkNest (zi_y zp k).cls x (zi_y zp t.2.1) "PatienceTable"))
def zc_cod (t : zi_T) (hs : List Nat) : Bool := zc_at (hs.getD 2 0) (.code (zi_y zp t.2.1) (zi_b zp t.2.1) (zi_n zp t.2.1) (zi_r zp t.2.1))
def zc_vir (t : zi_T) (hs : List Nat) : Bool := zc_cod t hs && zc_at (hs.getD 3 0) (.instanceMethod (zi_y zp t.2.1)) && zc_at (hs.getD 4 0) (.selects (zi_y zp t.2.1).cls (zi_y zp t.2.1) (zi_y zp t.2.1)) && (match t.2.2.2 with
  | .ref ci => (match zp_cl[ci]? with
    | some q => decide (q.1 = (zi_y zp t.2.1).cls)
    | none => false)
  | _ => true)
def zc_spe (t : zi_T) (hs : List Nat) : Bool := zc_cod t hs && zc_at (hs.getD 3 0) (.instanceMethod (zi_y zp t.2.1)) && decide ((zi_y zp t.2.1).name = "<init>") && decide (zi_r zp t.2.1 = none)
def zc_sta (k x : Nat) (t : zi_T) (hs : List Nat) : Bool := zc_at (hs.getD 3 0) (.static (zi_y zp t.2.1)) && (zc_cod t hs || (Jvm.plainName (zi_y zp t.2.1).cls && zc_at (hs.getD 0 0) (.methodLink (zi_y zp k).cls x (zi_y zp t.2.1)) && zc_wth (hs.getD 2 0) (zi_y zp t.2.1) (zi_b zp t.2.1) (zi_n zp t.2.1) (zi_r zp t.2.1)))
def zc_ent (k : Nat) (e : Nat × zi_T × List Nat) : Bool :=
  (decide (e.2.1.1 ≠ 0) || zc_fld (zi_y zp k).cls e.1 e.2.1 (e.2.2.getD 0 0) false) && ((decide (e.2.1.1 ≠ 9) || zc_fld (zi_y zp k).cls e.1 e.2.1 (e.2.2.getD 0 0) true) && ((decide (e.2.1.1 ≠ 8) || zc_fin k e.1 e.2.1 (e.2.2.getD 0 0)) && ((decide (e.2.1.1 ≠ 4) || zc_new k e.1 e.2.1 e.2.2) &&
  ((decide (e.2.1.1 ≠ 5) || zc_at (e.2.2.getD 0 0) (.classLink (zi_y zp k).cls e.1 "PatienceTable$Layout")) && ((decide (e.2.1.1 ≠ 6) || zc_con k e.1 e.2.1 (e.2.2.getD 0 0)) && ((decide (e.2.1.1 ≠ 7) || zc_pri k e.1 e.2.1 e.2.2) && ((decide (e.2.1.1 ≠ 1) || (zc_call k e.1 e.2.1 e.2.2 && zc_vir e.2.1 e.2.2)) && ((decide (e.2.1.1 ≠ 2) || (zc_call k e.1 e.2.1 e.2.2 && zc_spe e.2.1 e.2.2)) && (decide (e.2.1.1 ≠ 3) || (zc_call k e.1 e.2.1 e.2.2 && zc_sta k e.1 e.2.1 e.2.2))))))))))
theorem zc_or {a : Prop} [Decidable a] {b : Bool} (h : (decide (¬ a) || b) = true) (ha : a) : b = true := by
  rw [Bool.or_eq_true, decide_eq_true_eq] at h
  exact h.resolve_left (fun q => q ha)
theorem zc_call_ok {k x : Nat} {t : zi_T} {hs : List Nat} (h : zc_call k x t hs = true) : plainFor (zi_y zp t.2.1) = true ∧ Cond.initialized (zi_y zp t.2.1).cls ∈ zp_TS ∧ ((zi_y zp t.2.1).cls ≠ "java/lang/invoke/MethodHandle" ∧ (zi_y zp t.2.1).cls ≠ "java/lang/invoke/VarHandle" ∧ (parseMethodDescriptor (zi_y zp t.2.1).desc).map (fun d => d.parameters.length) = some t.2.2.1) ∧ t.2.1 ≠ 0 ∧ (Cond.methodLink (zi_y zp k).cls x (zi_y zp t.2.1) ∈ zp_TS ∨ ∃ host : String, Cond.methodLinkNest (zi_y zp k).cls x (zi_y zp t.2.1) host ∈ zp_NW) := by
  unfold zc_call at h
  simp only [Bool.and_eq_true, Bool.or_eq_true, decide_eq_true_eq] at h
  obtain ⟨⟨⟨⟨h1, h2⟩, h3⟩, h4⟩, h5⟩ := h
  exact ⟨h1, zc_at_ok h2, ⟨h3.1.1, h3.1.2, h3.2⟩, h4, h5.elim (fun h => Or.inl (zc_at_ok h)) (fun h => Or.inr ⟨_, zc_nt_ok h⟩)⟩
theorem zc_ent_ok {k : Nat} {x : Nat} {t : zi_T} {hs : List Nat} (h : zc_ent k (x, t, hs) = true) : zi_tok zp zp_cl zp_TS zp_NW "PatienceTable$Layout" k x t ∧ zi_cok zp zp_cl zp_TS zp_NW 0 k x t := by
  unfold zc_ent at h
  simp only [Bool.and_eq_true] at h
  obtain ⟨e0, e9, e8, e4, e5, e6, e7, e1, e2, e3⟩ := h
  refine ⟨⟨fun q => zc_fld_ok (zc_or e0 q), fun q => zc_fld_ok (zc_or e9 q), fun q => ?_, fun q => ?_, fun q => zc_at_ok (zc_or e5 q), fun q => ?_, fun q q2 => ?_, fun q q2 => ?_, fun q q2 => ?_⟩, fun q => ?_, fun q => ?_, fun q => ?_, fun q => ?_⟩
  · have h := zc_or e8 q
    unfold zc_fin at h
    split at h
    · rename_i c hq
      simp only [Bool.and_eq_true, decide_eq_true_eq] at h
      exact ⟨h.1.1.1.1, c, zp_cls _ c hq, h.1.1.1.2, h.1.1.2, h.1.2, zc_at_ok h.2⟩
    · cases h
  · have h := zc_or e4 q
    unfold zc_new at h
    split at h
    · rename_i c hq
      simp only [Bool.and_eq_true, decide_eq_true_eq] at h
      exact ⟨c, zp_cls _ c hq, h.1.1.1.1.1, zc_at_ok h.1.1.1.1.2, zc_at_ok h.1.1.1.2, zc_at_ok h.1.1.2, h.1.2, h.2⟩
    · cases h
  · have h := zc_or e6 q
    unfold zc_con at h
    split at h
    · rename_i v hv
      exact ⟨fun v' q2 => (by rw [hv] at q2; cases q2; exact zc_at_ok h), fun v' q2 => (by rw [hv] at q2; cases q2)⟩
    · rename_i v hv
      exact ⟨fun v' q2 => (by rw [hv] at q2; cases q2), fun v' q2 => (by rw [hv] at q2; cases q2; exact zc_at_ok h)⟩
    · cases h
  · have h := zc_or e7 q
    unfold zc_pri at h
    rw [q2] at h
    simp only [Bool.and_eq_true] at h
    exact ⟨zc_at_ok h.1.1, zc_at_ok h.1.2, zc_at_ok h.2⟩
  · have h := zc_or e7 q
    unfold zc_pri at h
    rw [q2] at h
    simp only [Bool.and_eq_true] at h
    exact ⟨zc_at_ok h.1.1.1, zc_at_ok h.1.1.2, zc_at_ok h.1.2, zc_at_ok h.2⟩
  · have h := zc_or e7 q
    unfold zc_pri at h
    rw [q2] at h
    simp only [Bool.and_eq_true] at h
    exact ⟨zc_at_ok h.1.1.1, zc_at_ok h.1.1.2, zc_at_ok h.1.2, zc_at_ok h.2⟩
  · rcases q with q | q | q
    · have h := zc_or e1 q
      rw [Bool.and_eq_true] at h
      exact zc_call_ok h.1
    · have h := zc_or e2 q
      rw [Bool.and_eq_true] at h
      exact zc_call_ok h.1
    · have h := zc_or e3 q
      rw [Bool.and_eq_true] at h
      exact zc_call_ok h.1
  · have h := zc_or e1 q
    rw [Bool.and_eq_true] at h
    have h := h.2
    unfold zc_vir zc_cod at h
    simp only [Bool.and_eq_true] at h
    refine ⟨zc_at_ok h.1.1.1, zc_at_ok h.1.1.2, zc_at_ok h.1.2, fun ci hci => ?_⟩
    have h2 := h.2
    rw [hci] at h2
    dsimp only at h2
    split at h2
    · rename_i c hq
      exact ⟨c, hq, of_decide_eq_true h2⟩
    · cases h2
  · have h := zc_or e2 q
    rw [Bool.and_eq_true] at h
    have h := h.2
    unfold zc_spe zc_cod at h
    simp only [Bool.and_eq_true, decide_eq_true_eq] at h
    exact ⟨zc_at_ok h.1.1.1, zc_at_ok h.1.1.2, h.1.2, h.2⟩
  · have h := zc_or e3 q
    rw [Bool.and_eq_true] at h
    have h := h.2
    unfold zc_sta zc_cod at h
    simp only [Bool.and_eq_true, Bool.or_eq_true] at h
    exact ⟨zc_at_ok h.1, h.2.elim (fun h => Or.inl (zc_at_ok h)) (fun h => Or.inr ⟨h.1.1, zc_at_ok h.1.2, zc_wth_ok h.2⟩)⟩
def zc_code (b : ByteArray) (l : List (Option Jvm.ClassFile.Instr)) (lo n : Nat) : Bool := (List.range n).all (fun j => match l.getD (lo + j) none with
  | none => true
  | some i => match decode b (lo + j) with
    | .ok (i', len) => decide (i' = i) && (decide (zi_len i = 0) || decide (len = zi_len i))
    | .error _ => false)
theorem zc_code_ok {b : ByteArray} {l : List (Option Jvm.ClassFile.Instr)} {lo n pc : Nat} {i : Jvm.ClassFile.Instr} (h : zc_code b l lo n = true) (h1 : lo ≤ pc) (h2 : pc < lo + n) (hi : l.getD pc none = some i) : ∃ len, decode b pc = .ok (i, len) ∧ (zi_len i = 0 ∨ len = zi_len i) := by
  have h := List.all_eq_true.mp h (pc - lo) (List.mem_range.mpr (by omega))
  rw [show lo + (pc - lo) = pc by omega, hi] at h
  dsimp only at h
  split at h
  · rename_i i' len hd
    simp only [Bool.and_eq_true, Bool.or_eq_true, decide_eq_true_eq] at h
    obtain ⟨rfl, h⟩ := h
    exact ⟨len, hd, h⟩
  · cases h
