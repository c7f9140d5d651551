/-! Runs, goal first: a rule an instruction (by program where they are of one form). -/
section ZV
variable {L : Nat} {xs : Nat → Int32} {d q k pc p t : Nat} {ls : zi_L} {st : List Value} {w : zi_W} {cn sn : Nat} {Q : zi_O → zi_W → Nat → Nat → Prop}
theorem zw_iconst {n : Int} {v : Int32} (hc : za k pc (.iconst n) p) (hv : Int32.ofInt n = v) (kk : zw L xs d q k p ls (.int v :: st) w cn sn Q) : zw L xs d q k pc ls (st) w cn sn Q := by
  obtain ⟨a, b, rfl⟩ := hc
  exact zw_sim ⟨a, b, rfl⟩ rfl (by subst hv; rfl) ⟨Nat.le_refl _, Nat.le_refl _, rfl⟩ kk
theorem zw_bipush {n : Int} {v : Int32} (hc : za k pc (.bipush n) p) (hv : (Int8.ofInt n).toInt32 = v) (kk : zw L xs d q k p ls (.int v :: st) w cn sn Q) : zw L xs d q k pc ls (st) w cn sn Q := by
  obtain ⟨a, b, rfl⟩ := hc
  exact zw_sim ⟨a, b, rfl⟩ rfl (by subst hv; rfl) ⟨Nat.le_refl _, Nat.le_refl _, rfl⟩ kk
theorem zw_sipush {n : Int} {v : Int32} (hc : za k pc (.sipush n) p) (hv : (Int16.ofInt n).toInt32 = v) (kk : zw L xs d q k p ls (.int v :: st) w cn sn Q) : zw L xs d q k pc ls (st) w cn sn Q := by
  obtain ⟨a, b, rfl⟩ := hc
  exact zw_sim ⟨a, b, rfl⟩ rfl (by subst hv; rfl) ⟨Nat.le_refl _, Nat.le_refl _, rfl⟩ kk
theorem zw_iadd {x y : Int32} (hc : za k pc (.iadd) p) (kk : zw L xs d q k p ls (.int (x + y) :: st) w cn sn Q) : zw L xs d q k pc ls (.int y :: .int x :: st) w cn sn Q := by
  obtain ⟨a, b, rfl⟩ := hc
  exact zw_sim ⟨a, b, rfl⟩ rfl (rfl) ⟨Nat.le_refl _, Nat.le_refl _, rfl⟩ kk
theorem zw_isub {x y : Int32} (hc : za k pc (.isub) p) (kk : zw L xs d q k p ls (.int (x - y) :: st) w cn sn Q) : zw L xs d q k pc ls (.int y :: .int x :: st) w cn sn Q := by
  obtain ⟨a, b, rfl⟩ := hc
  exact zw_sim ⟨a, b, rfl⟩ rfl (rfl) ⟨Nat.le_refl _, Nat.le_refl _, rfl⟩ kk
theorem zw_imul {x y : Int32} (hc : za k pc (.imul) p) (kk : zw L xs d q k p ls (.int (x * y) :: st) w cn sn Q) : zw L xs d q k pc ls (.int y :: .int x :: st) w cn sn Q := by
  obtain ⟨a, b, rfl⟩ := hc
  exact zw_sim ⟨a, b, rfl⟩ rfl (rfl) ⟨Nat.le_refl _, Nat.le_refl _, rfl⟩ kk
theorem zw_iand {x y : Int32} (hc : za k pc (.iand) p) (kk : zw L xs d q k p ls (.int (x &&& y) :: st) w cn sn Q) : zw L xs d q k pc ls (.int y :: .int x :: st) w cn sn Q := by
  obtain ⟨a, b, rfl⟩ := hc
  exact zw_sim ⟨a, b, rfl⟩ rfl (rfl) ⟨Nat.le_refl _, Nat.le_refl _, rfl⟩ kk
theorem zw_ixor {x y : Int32} (hc : za k pc (.ixor) p) (kk : zw L xs d q k p ls (.int (x ^^^ y) :: st) w cn sn Q) : zw L xs d q k pc ls (.int y :: .int x :: st) w cn sn Q := by
  obtain ⟨a, b, rfl⟩ := hc
  exact zw_sim ⟨a, b, rfl⟩ rfl (rfl) ⟨Nat.le_refl _, Nat.le_refl _, rfl⟩ kk
theorem zw_ishl {x y : Int32} (hc : za k pc (.ishl) p) (kk : zw L xs d q k p ls (.int (x <<< (y &&& 31)) :: st) w cn sn Q) : zw L xs d q k pc ls (.int y :: .int x :: st) w cn sn Q := by
  obtain ⟨a, b, rfl⟩ := hc
  exact zw_sim ⟨a, b, rfl⟩ rfl (rfl) ⟨Nat.le_refl _, Nat.le_refl _, rfl⟩ kk
theorem zw_iushr {x y : Int32} (hc : za k pc (.iushr) p) (kk : zw L xs d q k p ls (.int ((x.toUInt32 >>> (y.toUInt32 &&& Int32.toUInt32 31)).toInt32) :: st) w cn sn Q) : zw L xs d q k pc ls (.int y :: .int x :: st) w cn sn Q := by
  obtain ⟨a, b, rfl⟩ := hc
  exact zw_sim ⟨a, b, rfl⟩ rfl (rfl) ⟨Nat.le_refl _, Nat.le_refl _, rfl⟩ kk
theorem zw_idiv {x y : Int32} (hc : za k pc (.idiv) p) (hy : ¬ y = 0) (kk : zw L xs d q k p ls (.int (x / y) :: st) w cn sn Q) : zw L xs d q k pc ls (.int y :: .int x :: st) w cn sn Q := by
  obtain ⟨a, b, rfl⟩ := hc
  exact zw_sim ⟨a, b, rfl⟩ rfl (by simp only [zi_sim, zi_or, zi_num, if_neg hy]) ⟨Nat.le_refl _, Nat.le_refl _, rfl⟩ kk
theorem zw_irem {x y : Int32} (hc : za k pc (.irem) p) (hy : ¬ y = 0) (kk : zw L xs d q k p ls (.int (x - x / y * y) :: st) w cn sn Q) : zw L xs d q k pc ls (.int y :: .int x :: st) w cn sn Q := by
  obtain ⟨a, b, rfl⟩ := hc
  exact zw_sim ⟨a, b, rfl⟩ rfl (by simp only [zi_sim, zi_or, zi_num, if_neg hy]) ⟨Nat.le_refl _, Nat.le_refl _, rfl⟩ kk
theorem zw_ladd {x y : Int64} (hc : za k pc (.ladd) p) (kk : zw L xs d q k p ls (.long (x + y) :: st) w cn sn Q) : zw L xs d q k pc ls (.long y :: .long x :: st) w cn sn Q := by
  obtain ⟨a, b, rfl⟩ := hc
  exact zw_sim ⟨a, b, rfl⟩ rfl (rfl) ⟨Nat.le_refl _, Nat.le_refl _, rfl⟩ kk
theorem zw_lmul {x y : Int64} (hc : za k pc (.lmul) p) (kk : zw L xs d q k p ls (.long (x * y) :: st) w cn sn Q) : zw L xs d q k pc ls (.long y :: .long x :: st) w cn sn Q := by
  obtain ⟨a, b, rfl⟩ := hc
  exact zw_sim ⟨a, b, rfl⟩ rfl (rfl) ⟨Nat.le_refl _, Nat.le_refl _, rfl⟩ kk
theorem zw_ldiv {x y : Int64} (hc : za k pc (.ldiv) p) (hy : ¬ y = 0) (kk : zw L xs d q k p ls (.long (x / y) :: st) w cn sn Q) : zw L xs d q k pc ls (.long y :: .long x :: st) w cn sn Q := by
  obtain ⟨a, b, rfl⟩ := hc
  exact zw_sim ⟨a, b, rfl⟩ rfl (by simp only [zi_sim, zi_or, zi_num, if_neg hy]) ⟨Nat.le_refl _, Nat.le_refl _, rfl⟩ kk
theorem zw_lrem {x y : Int64} (hc : za k pc (.lrem) p) (hy : ¬ y = 0) (kk : zw L xs d q k p ls (.long (x - x / y * y) :: st) w cn sn Q) : zw L xs d q k pc ls (.long y :: .long x :: st) w cn sn Q := by
  obtain ⟨a, b, rfl⟩ := hc
  exact zw_sim ⟨a, b, rfl⟩ rfl (by simp only [zi_sim, zi_or, zi_num, if_neg hy]) ⟨Nat.le_refl _, Nat.le_refl _, rfl⟩ kk
theorem zw_lcmp {x y : Int64} (hc : za k pc (.lcmp) p) (kk : zw L xs d q k p ls (.int (lg_cmp x y) :: st) w cn sn Q) : zw L xs d q k pc ls (.long y :: .long x :: st) w cn sn Q := by
  obtain ⟨a, b, rfl⟩ := hc
  exact zw_sim ⟨a, b, rfl⟩ rfl (rfl) ⟨Nat.le_refl _, Nat.le_refl _, rfl⟩ kk
theorem zw_i2l {x : Int32} (hc : za k pc (.i2l) p) (kk : zw L xs d q k p ls (.long x.toInt64 :: st) w cn sn Q) : zw L xs d q k pc ls (.int x :: st) w cn sn Q := by
  obtain ⟨a, b, rfl⟩ := hc
  exact zw_sim ⟨a, b, rfl⟩ rfl (rfl) ⟨Nat.le_refl _, Nat.le_refl _, rfl⟩ kk
theorem zw_l2i {x : Int64} (hc : za k pc (.l2i) p) (kk : zw L xs d q k p ls (.int x.toInt32 :: st) w cn sn Q) : zw L xs d q k pc ls (.long x :: st) w cn sn Q := by
  obtain ⟨a, b, rfl⟩ := hc
  exact zw_sim ⟨a, b, rfl⟩ rfl (rfl) ⟨Nat.le_refl _, Nat.le_refl _, rfl⟩ kk
theorem zw_i2c {x : Int32} (hc : za k pc (.i2c) p) (kk : zw L xs d q k p ls (.int (x.toUInt32 % 65536).toInt32 :: st) w cn sn Q) : zw L xs d q k pc ls (.int x :: st) w cn sn Q := by
  obtain ⟨a, b, rfl⟩ := hc
  exact zw_sim ⟨a, b, rfl⟩ rfl (rfl) ⟨Nat.le_refl _, Nat.le_refl _, rfl⟩ kk
theorem zw_dup {v : Value} (hc : za k pc (.dup) p) (hv : v.category = 1) (kk : zw L xs d q k p ls (v :: v :: st) w cn sn Q) : zw L xs d q k pc ls (v :: st) w cn sn Q := by
  obtain ⟨a, b, rfl⟩ := hc
  exact zw_sim ⟨a, b, rfl⟩ rfl (by simp only [zi_sim, zi_or, zi_num, if_pos hv]) ⟨Nat.le_refl _, Nat.le_refl _, rfl⟩ kk
theorem zw_dup2 {v u : Value} (hc : za k pc (.dup2) p) (hv : v.category = 1 ∧ u.category = 1) (kk : zw L xs d q k p ls (v :: u :: v :: u :: st) w cn sn Q) : zw L xs d q k pc ls (v :: u :: st) w cn sn Q := by
  obtain ⟨a, b, rfl⟩ := hc
  exact zw_sim ⟨a, b, rfl⟩ rfl (by simp only [zi_sim, zi_or, zi_num, if_pos hv]) ⟨Nat.le_refl _, Nat.le_refl _, rfl⟩ kk
theorem zw_iload {j : Nat} {x : Int32} (hc : za k pc (.iload j) p) (hl : zi_loc ls j = some (.int x)) (kk : zw L xs d q k p ls (.int x :: st) w cn sn Q) : zw L xs d q k pc ls (st) w cn sn Q := by
  obtain ⟨a, b, rfl⟩ := hc
  exact zw_sim ⟨a, b, rfl⟩ rfl (by simp only [zi_sim, zi_or, zi_num, zi_lcl, hl, zi_isI, zi_push1]) ⟨Nat.le_refl _, Nat.le_refl _, rfl⟩ kk
theorem zw_iload_n {j : Fin 4} {x : Int32} (hc : za k pc (.iload_n j) p) (hl : zi_loc ls j = some (.int x)) (kk : zw L xs d q k p ls (.int x :: st) w cn sn Q) : zw L xs d q k pc ls (st) w cn sn Q := by
  obtain ⟨a, b, rfl⟩ := hc
  exact zw_sim ⟨a, b, rfl⟩ rfl (by simp only [zi_sim, zi_or, zi_num, zi_lcl, hl, zi_isI, zi_push1]) ⟨Nat.le_refl _, Nat.le_refl _, rfl⟩ kk
theorem zw_lload {j : Nat} {x : Int64} (hc : za k pc (.lload j) p) (hl : zi_loc ls j = some (.long x)) (kk : zw L xs d q k p ls (.long x :: st) w cn sn Q) : zw L xs d q k pc ls (st) w cn sn Q := by
  obtain ⟨a, b, rfl⟩ := hc
  exact zw_sim ⟨a, b, rfl⟩ rfl (by simp only [zi_sim, zi_or, zi_num, zi_lcl, hl, zi_isL, zi_push1]) ⟨Nat.le_refl _, Nat.le_refl _, rfl⟩ kk
theorem zw_lload_n {j : Fin 4} {x : Int64} (hc : za k pc (.lload_n j) p) (hl : zi_loc ls j = some (.long x)) (kk : zw L xs d q k p ls (.long x :: st) w cn sn Q) : zw L xs d q k pc ls (st) w cn sn Q := by
  obtain ⟨a, b, rfl⟩ := hc
  exact zw_sim ⟨a, b, rfl⟩ rfl (by simp only [zi_sim, zi_or, zi_num, zi_lcl, hl, zi_isL, zi_push1]) ⟨Nat.le_refl _, Nat.le_refl _, rfl⟩ kk
theorem zw_aload {j : Nat} {x : Nat} (hc : za k pc (.aload j) p) (hl : zi_loc ls j = some (.ref x)) (kk : zw L xs d q k p ls (.ref x :: st) w cn sn Q) : zw L xs d q k pc ls (st) w cn sn Q := by
  obtain ⟨a, b, rfl⟩ := hc
  exact zw_sim ⟨a, b, rfl⟩ rfl (by simp only [zi_sim, zi_or, zi_num, zi_lcl, hl, zi_isR, zi_push1]) ⟨Nat.le_refl _, Nat.le_refl _, rfl⟩ kk
theorem zw_aload_n {j : Fin 4} {x : Nat} (hc : za k pc (.aload_n j) p) (hl : zi_loc ls j = some (.ref x)) (kk : zw L xs d q k p ls (.ref x :: st) w cn sn Q) : zw L xs d q k pc ls (st) w cn sn Q := by
  obtain ⟨a, b, rfl⟩ := hc
  exact zw_sim ⟨a, b, rfl⟩ rfl (by simp only [zi_sim, zi_or, zi_num, zi_lcl, hl, zi_isR, zi_push1]) ⟨Nat.le_refl _, Nat.le_refl _, rfl⟩ kk
theorem zi_len1 {ls ls' : zi_L} {i : Nat} {v : Value} (h : zi_set1 ls i v = some ls') : ls'.length = ls.length := by
  unfold zi_set1 at h
  split at h
  · cases h; exact List.length_set
  · cases h
theorem zi_len2 {ls ls' : zi_L} {i : Nat} {v : Value} (h : zi_set2 ls i v = some ls') : ls'.length = ls.length := by
  unfold zi_set2 at h
  split at h
  · cases h; rw [List.length_set, List.length_set]
  · cases h
theorem zw_istore {j : Nat} {x : Int32} {ls' : zi_L} (hc : za k pc (.istore j) p) (hs : zi_set1 ls j (.int x) = some ls') (kk : zw L xs d q k p ls' st w cn sn Q) : zw L xs d q k pc ls (.int x :: st) w cn sn Q := by
  obtain ⟨a, b, rfl⟩ := hc
  exact zw_sim ⟨a, b, rfl⟩ rfl (by simp only [zi_sim, zi_or, zi_num, zi_lcl, zi_sto1, hs]) ⟨Nat.le_refl _, Nat.le_refl _, zi_len1 hs⟩ kk
theorem zw_istore_n {j : Fin 4} {x : Int32} {ls' : zi_L} (hc : za k pc (.istore_n j) p) (hs : zi_set1 ls j (.int x) = some ls') (kk : zw L xs d q k p ls' st w cn sn Q) : zw L xs d q k pc ls (.int x :: st) w cn sn Q := by
  obtain ⟨a, b, rfl⟩ := hc
  exact zw_sim ⟨a, b, rfl⟩ rfl (by simp only [zi_sim, zi_or, zi_num, zi_lcl, zi_sto1, hs]) ⟨Nat.le_refl _, Nat.le_refl _, zi_len1 hs⟩ kk
theorem zw_astore {j : Nat} {x : Nat} {ls' : zi_L} (hc : za k pc (.astore j) p) (hs : zi_set1 ls j (.ref x) = some ls') (kk : zw L xs d q k p ls' st w cn sn Q) : zw L xs d q k pc ls (.ref x :: st) w cn sn Q := by
  obtain ⟨a, b, rfl⟩ := hc
  exact zw_sim ⟨a, b, rfl⟩ rfl (by simp only [zi_sim, zi_or, zi_num, zi_lcl, zi_sto1, hs]) ⟨Nat.le_refl _, Nat.le_refl _, zi_len1 hs⟩ kk
theorem zw_astore_n {j : Fin 4} {x : Nat} {ls' : zi_L} (hc : za k pc (.astore_n j) p) (hs : zi_set1 ls j (.ref x) = some ls') (kk : zw L xs d q k p ls' st w cn sn Q) : zw L xs d q k pc ls (.ref x :: st) w cn sn Q := by
  obtain ⟨a, b, rfl⟩ := hc
  exact zw_sim ⟨a, b, rfl⟩ rfl (by simp only [zi_sim, zi_or, zi_num, zi_lcl, zi_sto1, hs]) ⟨Nat.le_refl _, Nat.le_refl _, zi_len1 hs⟩ kk
theorem zw_lstore {j : Nat} {x : Int64} {ls' : zi_L} (hc : za k pc (.lstore j) p) (hs : zi_set2 ls j (.long x) = some ls') (kk : zw L xs d q k p ls' st w cn sn Q) : zw L xs d q k pc ls (.long x :: st) w cn sn Q := by
  obtain ⟨a, b, rfl⟩ := hc
  exact zw_sim ⟨a, b, rfl⟩ rfl (by simp only [zi_sim, zi_or, zi_num, zi_lcl, zi_sto2, hs]) ⟨Nat.le_refl _, Nat.le_refl _, zi_len2 hs⟩ kk
theorem zw_lstore_n {j : Fin 4} {x : Int64} {ls' : zi_L} (hc : za k pc (.lstore_n j) p) (hs : zi_set2 ls j (.long x) = some ls') (kk : zw L xs d q k p ls' st w cn sn Q) : zw L xs d q k pc ls (.long x :: st) w cn sn Q := by
  obtain ⟨a, b, rfl⟩ := hc
  exact zw_sim ⟨a, b, rfl⟩ rfl (by simp only [zi_sim, zi_or, zi_num, zi_lcl, zi_sto2, hs]) ⟨Nat.le_refl _, Nat.le_refl _, zi_len2 hs⟩ kk
theorem zw_iinc {j : Nat} {n : Int} {x v : Int32} {ls' : zi_L} (hc : za k pc (.iinc j n) p) (hl : zi_loc ls j = some (.int x)) (hv : x + Int32.ofInt n = v) (hs : zi_set1 ls j (.int v) = some ls') (kk : zw L xs d q k p ls' st w cn sn Q) : zw L xs d q k pc ls st w cn sn Q := by
  obtain ⟨a, b, rfl⟩ := hc
  subst hv
  exact zw_sim ⟨a, b, rfl⟩ rfl (by simp only [zi_sim, zi_or, zi_num, zi_lcl, hl, zi_sto1, hs]) ⟨Nat.le_refl _, Nat.le_refl _, zi_len1 hs⟩ kk
theorem zw_if_eq {x : Int32} (hc : zb (.ifCond .eq) k pc t p) (kt : x = 0 → zw L xs d q k t ls st w cn sn Q) (kf : ¬ (x = 0) → zw L xs d q k p ls st w cn sn Q) : zw L xs d q k pc ls (.int x :: st) w cn sn Q := by
  obtain ⟨off, ⟨a, b, rfl⟩, ht⟩ := hc
  by_cases h : x = 0
  · exact zw_sim ⟨a, b, rfl⟩ rfl (by simp only [zi_sim, zi_or, zi_num, zi_lcl, zi_br, zi_jmp, ht, decide_eq_true h]; rfl) ⟨Nat.le_refl _, Nat.le_refl _, rfl⟩ (kt h)
  · exact zw_sim ⟨a, b, rfl⟩ rfl (by simp only [zi_sim, zi_or, zi_num, zi_lcl, zi_br, zi_jmp, ht, decide_eq_false h]; rfl) ⟨Nat.le_refl _, Nat.le_refl _, rfl⟩ (kf h)
theorem zw_if_ne {x : Int32} (hc : zb (.ifCond .ne) k pc t p) (kt : ¬ x = 0 → zw L xs d q k t ls st w cn sn Q) (kf : ¬ (¬ x = 0) → zw L xs d q k p ls st w cn sn Q) : zw L xs d q k pc ls (.int x :: st) w cn sn Q := by
  obtain ⟨off, ⟨a, b, rfl⟩, ht⟩ := hc
  by_cases h : ¬ x = 0
  · exact zw_sim ⟨a, b, rfl⟩ rfl (by simp only [zi_sim, zi_or, zi_num, zi_lcl, zi_br, zi_jmp, ht, decide_eq_true h]; rfl) ⟨Nat.le_refl _, Nat.le_refl _, rfl⟩ (kt h)
  · exact zw_sim ⟨a, b, rfl⟩ rfl (by simp only [zi_sim, zi_or, zi_num, zi_lcl, zi_br, zi_jmp, ht, decide_eq_false h]; rfl) ⟨Nat.le_refl _, Nat.le_refl _, rfl⟩ (kf h)
theorem zw_if_lt {x : Int32} (hc : zb (.ifCond .lt) k pc t p) (kt : x < 0 → zw L xs d q k t ls st w cn sn Q) (kf : ¬ (x < 0) → zw L xs d q k p ls st w cn sn Q) : zw L xs d q k pc ls (.int x :: st) w cn sn Q := by
  obtain ⟨off, ⟨a, b, rfl⟩, ht⟩ := hc
  by_cases h : x < 0
  · exact zw_sim ⟨a, b, rfl⟩ rfl (by simp only [zi_sim, zi_or, zi_num, zi_lcl, zi_br, zi_jmp, ht, decide_eq_true h]; rfl) ⟨Nat.le_refl _, Nat.le_refl _, rfl⟩ (kt h)
  · exact zw_sim ⟨a, b, rfl⟩ rfl (by simp only [zi_sim, zi_or, zi_num, zi_lcl, zi_br, zi_jmp, ht, decide_eq_false h]; rfl) ⟨Nat.le_refl _, Nat.le_refl _, rfl⟩ (kf h)
theorem zw_if_ge {x : Int32} (hc : zb (.ifCond .ge) k pc t p) (kt : 0 ≤ x → zw L xs d q k t ls st w cn sn Q) (kf : ¬ (0 ≤ x) → zw L xs d q k p ls st w cn sn Q) : zw L xs d q k pc ls (.int x :: st) w cn sn Q := by
  obtain ⟨off, ⟨a, b, rfl⟩, ht⟩ := hc
  by_cases h : 0 ≤ x
  · exact zw_sim ⟨a, b, rfl⟩ rfl (by simp only [zi_sim, zi_or, zi_num, zi_lcl, zi_br, zi_jmp, ht, decide_eq_true h]; rfl) ⟨Nat.le_refl _, Nat.le_refl _, rfl⟩ (kt h)
  · exact zw_sim ⟨a, b, rfl⟩ rfl (by simp only [zi_sim, zi_or, zi_num, zi_lcl, zi_br, zi_jmp, ht, decide_eq_false h]; rfl) ⟨Nat.le_refl _, Nat.le_refl _, rfl⟩ (kf h)
theorem zw_if_gt {x : Int32} (hc : zb (.ifCond .gt) k pc t p) (kt : 0 < x → zw L xs d q k t ls st w cn sn Q) (kf : ¬ (0 < x) → zw L xs d q k p ls st w cn sn Q) : zw L xs d q k pc ls (.int x :: st) w cn sn Q := by
  obtain ⟨off, ⟨a, b, rfl⟩, ht⟩ := hc
  by_cases h : 0 < x
  · exact zw_sim ⟨a, b, rfl⟩ rfl (by simp only [zi_sim, zi_or, zi_num, zi_lcl, zi_br, zi_jmp, ht, decide_eq_true h]; rfl) ⟨Nat.le_refl _, Nat.le_refl _, rfl⟩ (kt h)
  · exact zw_sim ⟨a, b, rfl⟩ rfl (by simp only [zi_sim, zi_or, zi_num, zi_lcl, zi_br, zi_jmp, ht, decide_eq_false h]; rfl) ⟨Nat.le_refl _, Nat.le_refl _, rfl⟩ (kf h)
theorem zw_if_le {x : Int32} (hc : zb (.ifCond .le) k pc t p) (kt : x ≤ 0 → zw L xs d q k t ls st w cn sn Q) (kf : ¬ (x ≤ 0) → zw L xs d q k p ls st w cn sn Q) : zw L xs d q k pc ls (.int x :: st) w cn sn Q := by
  obtain ⟨off, ⟨a, b, rfl⟩, ht⟩ := hc
  by_cases h : x ≤ 0
  · exact zw_sim ⟨a, b, rfl⟩ rfl (by simp only [zi_sim, zi_or, zi_num, zi_lcl, zi_br, zi_jmp, ht, decide_eq_true h]; rfl) ⟨Nat.le_refl _, Nat.le_refl _, rfl⟩ (kt h)
  · exact zw_sim ⟨a, b, rfl⟩ rfl (by simp only [zi_sim, zi_or, zi_num, zi_lcl, zi_br, zi_jmp, ht, decide_eq_false h]; rfl) ⟨Nat.le_refl _, Nat.le_refl _, rfl⟩ (kf h)
theorem zw_icmp_eq {x y : Int32} (hc : zb (.if_icmp .eq) k pc t p) (kt : x = y → zw L xs d q k t ls st w cn sn Q) (kf : ¬ (x = y) → zw L xs d q k p ls st w cn sn Q) : zw L xs d q k pc ls (.int y :: .int x :: st) w cn sn Q := by
  obtain ⟨off, ⟨a, b, rfl⟩, ht⟩ := hc
  by_cases h : x = y
  · exact zw_sim ⟨a, b, rfl⟩ rfl (by simp only [zi_sim, zi_or, zi_num, zi_lcl, zi_br, zi_jmp, ht, decide_eq_true h]; rfl) ⟨Nat.le_refl _, Nat.le_refl _, rfl⟩ (kt h)
  · exact zw_sim ⟨a, b, rfl⟩ rfl (by simp only [zi_sim, zi_or, zi_num, zi_lcl, zi_br, zi_jmp, ht, decide_eq_false h]; rfl) ⟨Nat.le_refl _, Nat.le_refl _, rfl⟩ (kf h)
theorem zw_icmp_ne {x y : Int32} (hc : zb (.if_icmp .ne) k pc t p) (kt : ¬ x = y → zw L xs d q k t ls st w cn sn Q) (kf : ¬ (¬ x = y) → zw L xs d q k p ls st w cn sn Q) : zw L xs d q k pc ls (.int y :: .int x :: st) w cn sn Q := by
  obtain ⟨off, ⟨a, b, rfl⟩, ht⟩ := hc
  by_cases h : ¬ x = y
  · exact zw_sim ⟨a, b, rfl⟩ rfl (by simp only [zi_sim, zi_or, zi_num, zi_lcl, zi_br, zi_jmp, ht, decide_eq_true h]; rfl) ⟨Nat.le_refl _, Nat.le_refl _, rfl⟩ (kt h)
  · exact zw_sim ⟨a, b, rfl⟩ rfl (by simp only [zi_sim, zi_or, zi_num, zi_lcl, zi_br, zi_jmp, ht, decide_eq_false h]; rfl) ⟨Nat.le_refl _, Nat.le_refl _, rfl⟩ (kf h)
theorem zw_icmp_lt {x y : Int32} (hc : zb (.if_icmp .lt) k pc t p) (kt : x < y → zw L xs d q k t ls st w cn sn Q) (kf : ¬ (x < y) → zw L xs d q k p ls st w cn sn Q) : zw L xs d q k pc ls (.int y :: .int x :: st) w cn sn Q := by
  obtain ⟨off, ⟨a, b, rfl⟩, ht⟩ := hc
  by_cases h : x < y
  · exact zw_sim ⟨a, b, rfl⟩ rfl (by simp only [zi_sim, zi_or, zi_num, zi_lcl, zi_br, zi_jmp, ht, decide_eq_true h]; rfl) ⟨Nat.le_refl _, Nat.le_refl _, rfl⟩ (kt h)
  · exact zw_sim ⟨a, b, rfl⟩ rfl (by simp only [zi_sim, zi_or, zi_num, zi_lcl, zi_br, zi_jmp, ht, decide_eq_false h]; rfl) ⟨Nat.le_refl _, Nat.le_refl _, rfl⟩ (kf h)
theorem zw_icmp_ge {x y : Int32} (hc : zb (.if_icmp .ge) k pc t p) (kt : y ≤ x → zw L xs d q k t ls st w cn sn Q) (kf : ¬ (y ≤ x) → zw L xs d q k p ls st w cn sn Q) : zw L xs d q k pc ls (.int y :: .int x :: st) w cn sn Q := by
  obtain ⟨off, ⟨a, b, rfl⟩, ht⟩ := hc
  by_cases h : y ≤ x
  · exact zw_sim ⟨a, b, rfl⟩ rfl (by simp only [zi_sim, zi_or, zi_num, zi_lcl, zi_br, zi_jmp, ht, decide_eq_true h]; rfl) ⟨Nat.le_refl _, Nat.le_refl _, rfl⟩ (kt h)
  · exact zw_sim ⟨a, b, rfl⟩ rfl (by simp only [zi_sim, zi_or, zi_num, zi_lcl, zi_br, zi_jmp, ht, decide_eq_false h]; rfl) ⟨Nat.le_refl _, Nat.le_refl _, rfl⟩ (kf h)
theorem zw_icmp_gt {x y : Int32} (hc : zb (.if_icmp .gt) k pc t p) (kt : y < x → zw L xs d q k t ls st w cn sn Q) (kf : ¬ (y < x) → zw L xs d q k p ls st w cn sn Q) : zw L xs d q k pc ls (.int y :: .int x :: st) w cn sn Q := by
  obtain ⟨off, ⟨a, b, rfl⟩, ht⟩ := hc
  by_cases h : y < x
  · exact zw_sim ⟨a, b, rfl⟩ rfl (by simp only [zi_sim, zi_or, zi_num, zi_lcl, zi_br, zi_jmp, ht, decide_eq_true h]; rfl) ⟨Nat.le_refl _, Nat.le_refl _, rfl⟩ (kt h)
  · exact zw_sim ⟨a, b, rfl⟩ rfl (by simp only [zi_sim, zi_or, zi_num, zi_lcl, zi_br, zi_jmp, ht, decide_eq_false h]; rfl) ⟨Nat.le_refl _, Nat.le_refl _, rfl⟩ (kf h)
theorem zw_icmp_le {x y : Int32} (hc : zb (.if_icmp .le) k pc t p) (kt : x ≤ y → zw L xs d q k t ls st w cn sn Q) (kf : ¬ (x ≤ y) → zw L xs d q k p ls st w cn sn Q) : zw L xs d q k pc ls (.int y :: .int x :: st) w cn sn Q := by
  obtain ⟨off, ⟨a, b, rfl⟩, ht⟩ := hc
  by_cases h : x ≤ y
  · exact zw_sim ⟨a, b, rfl⟩ rfl (by simp only [zi_sim, zi_or, zi_num, zi_lcl, zi_br, zi_jmp, ht, decide_eq_true h]; rfl) ⟨Nat.le_refl _, Nat.le_refl _, rfl⟩ (kt h)
  · exact zw_sim ⟨a, b, rfl⟩ rfl (by simp only [zi_sim, zi_or, zi_num, zi_lcl, zi_br, zi_jmp, ht, decide_eq_false h]; rfl) ⟨Nat.le_refl _, Nat.le_refl _, rfl⟩ (kf h)
theorem zw_goto (hc : zb .goto k pc t p) (kk : zw L xs d q k t ls st w cn sn Q) : zw L xs d q k pc ls st w cn sn Q := by
  obtain ⟨off, ⟨a, b, rfl⟩, ht⟩ := hc
  exact zw_sim ⟨a, b, rfl⟩ rfl (by simp only [zi_sim, zi_or, zi_num, zi_lcl, zi_br, zi_jmp, ht]; rfl) ⟨Nat.le_refl _, Nat.le_refl _, rfl⟩ kk
/-- cells -/
theorem zw_ldc {v : Int32} (hc : za_c k pc p v) (kk : zw L xs d q k p ls (.int v :: st) w cn sn Q) : zw L xs d q k pc ls st w cn sn Q := by
  obtain ⟨x, a0, b0, ⟨a, b, rfl⟩, hp⟩ := hc
  exact zw_sim ⟨a, b, rfl⟩ rfl (by simp only [zi_sim, zi_or, zi_num, zi_lcl, zi_br, zi_cel, hp]) ⟨Nat.le_refl _, Nat.le_refl _, rfl⟩ kk
theorem zw_ldc2 {v : Int64} (hc : za_l k pc p v) (kk : zw L xs d q k p ls (.long v :: st) w cn sn Q) : zw L xs d q k pc ls st w cn sn Q := by
  obtain ⟨x, a0, b0, ⟨a, b, rfl⟩, hp⟩ := hc
  exact zw_sim ⟨a, b, rfl⟩ rfl (by simp only [zi_sim, zi_or, zi_num, zi_lcl, zi_br, zi_cel, hp]) ⟨Nat.le_refl _, Nat.le_refl _, rfl⟩ kk
theorem zw_getf {c f r : Nat} {fs : List Value} {v : Value} (hc : za_f k pc c f p) (hg : zi_get w r = some (.inr (c, fs))) (hv : fs[f]? = some v) (kk : zw L xs d q k p ls (v :: st) w cn sn Q) : zw L xs d q k pc ls (.ref r :: st) w cn sn Q := by
  obtain ⟨x, tg, v0, ⟨a, b, rfl⟩, hp, htg⟩ := hc
  rcases htg with rfl | rfl | rfl <;>
    exact zw_sim ⟨a, b, rfl⟩ rfl (by simp only [zi_sim, zi_or, zi_num, zi_lcl, zi_br, zi_cel, hp, hg, hv, zi_push1]; rfl) ⟨Nat.le_refl _, Nat.le_refl _, rfl⟩ kk
theorem zw_putf {c f r : Nat} {fs : List Value} {v : Value} (hc : za_p k pc c f p) (hg : zi_get w r = some (.inr (c, fs))) (hl : f < fs.length) (hf : zi_fit (zi_fty zp c f) v = true) (kk : zw L xs d q k p ls st (w.set r (.inr (c, fs.set f v))) cn sn Q) : zw L xs d q k pc ls (v :: .ref r :: st) w cn sn Q := by
  obtain ⟨x, tg, v0, ⟨a, b, rfl⟩, hp, htg⟩ := hc
  rcases htg with rfl | rfl <;>
    exact zw_sim ⟨a, b, rfl⟩ rfl (by simp only [zi_sim, zi_or, zi_num, zi_lcl, zi_br, zi_cel, hp, hg]; rw [if_pos ⟨trivial, hl, hf⟩]) ⟨Nat.le_refl _, Nat.le_refl _, rfl⟩ kk
theorem zi_get_X {w : zi_W} {r : Nat} {c : va_E} (h : zi_get w r = some c) : ¬ r = zi_X := by
  unfold zi_get at h
  split at h
  · cases h
  · assumption
theorem zw_iald {r n : Nat} {j : Int32} {f : Nat → Int32} (hc : za k pc .iaload p) (hg : zi_get w r = some (.inl (0, n, .inl f))) (hj : zi_in j n) (kk : zw L xs d q k p ls (.int (f j.toNatClampNeg) :: st) w cn sn Q) : zw L xs d q k pc ls (.int j :: .ref r :: st) w cn sn Q := by
  obtain ⟨a, b, rfl⟩ := hc
  exact zw_sim ⟨a, b, rfl⟩ rfl (by simp only [zi_sim, zi_or, zi_num, zi_lcl, zi_br, zi_cel]; rw [if_neg (zi_get_X hg), hg]; simp only [if_pos hj]) ⟨Nat.le_refl _, Nat.le_refl _, rfl⟩ kk
theorem zw_bald {r n : Nat} {j : Int32} {f : Nat → Int32} (hc : za k pc .baload p) (hg : zi_get w r = some (.inl (1, n, .inl f))) (hj : zi_in j n) (kk : zw L xs d q k p ls (.int (f j.toNatClampNeg) :: st) w cn sn Q) : zw L xs d q k pc ls (.int j :: .ref r :: st) w cn sn Q := by
  obtain ⟨a, b, rfl⟩ := hc
  exact zw_sim ⟨a, b, rfl⟩ rfl (by simp only [zi_sim, zi_or, zi_num, zi_lcl, zi_br, zi_cel, hg, if_pos hj]) ⟨Nat.le_refl _, Nat.le_refl _, rfl⟩ kk
theorem zw_lald {r n : Nat} {j : Int32} {f : Nat → Int64} (hc : za k pc .laload p) (hg : zi_get w r = some (.inl (2, n, .inr (.inl f)))) (hj : zi_in j n) (kk : zw L xs d q k p ls (.long (f j.toNatClampNeg) :: st) w cn sn Q) : zw L xs d q k pc ls (.int j :: .ref r :: st) w cn sn Q := by
  obtain ⟨a, b, rfl⟩ := hc
  exact zw_sim ⟨a, b, rfl⟩ rfl (by simp only [zi_sim, zi_or, zi_num, zi_lcl, zi_br, zi_cel, hg, if_pos hj]) ⟨Nat.le_refl _, Nat.le_refl _, rfl⟩ kk
theorem zw_aald {r n v : Nat} {j : Int32} {f : Nat → Option Nat} (hc : za k pc .aaload p) (hg : zi_get w r = some (.inl (3, n, .inr (.inr (.inr (.inr f)))))) (hj : zi_in j n) (hv : f j.toNatClampNeg = some v) (kk : zw L xs d q k p ls (.ref v :: st) w cn sn Q) : zw L xs d q k pc ls (.int j :: .ref r :: st) w cn sn Q := by
  obtain ⟨a, b, rfl⟩ := hc
  exact zw_sim ⟨a, b, rfl⟩ rfl (by simp only [zi_sim, zi_or, zi_num, zi_lcl, zi_br, zi_cel, hg, if_pos hj, hv, Option.map_some, zi_push1]) ⟨Nat.le_refl _, Nat.le_refl _, rfl⟩ kk
theorem zw_iast {r n : Nat} {j x : Int32} {f : Nat → Int32} (hc : za k pc .iastore p) (hg : zi_get w r = some (.inl (0, n, .inl f))) (hj : zi_in j n) (kk : zw L xs d q k p ls st (w.set r (.inl (0, n, .inl (upd f j.toNatClampNeg x)))) cn sn Q) : zw L xs d q k pc ls (.int x :: .int j :: .ref r :: st) w cn sn Q := by
  obtain ⟨a, b, rfl⟩ := hc
  exact zw_sim ⟨a, b, rfl⟩ rfl (by simp only [zi_sim, zi_or, zi_num, zi_lcl, zi_br, zi_cel, hg, if_pos hj]) ⟨Nat.le_refl _, Nat.le_refl _, rfl⟩ kk
theorem zw_bast {r n : Nat} {j x : Int32} {f : Nat → Int32} (hc : za k pc .bastore p) (hg : zi_get w r = some (.inl (1, n, .inl f))) (hj : zi_in j n) (hx : x = 0 ∨ x = 1) (kk : zw L xs d q k p ls st (w.set r (.inl (1, n, .inl (upd f j.toNatClampNeg x)))) cn sn Q) : zw L xs d q k pc ls (.int x :: .int j :: .ref r :: st) w cn sn Q := by
  obtain ⟨a, b, rfl⟩ := hc
  exact zw_sim ⟨a, b, rfl⟩ rfl (by simp only [zi_sim, zi_or, zi_num, zi_lcl, zi_br, zi_cel, hg]; rw [if_pos ⟨hj, hx⟩]) ⟨Nat.le_refl _, Nat.le_refl _, rfl⟩ kk
theorem zw_last {r n : Nat} {j : Int32} {x : Int64} {f : Nat → Int64} (hc : za k pc .lastore p) (hg : zi_get w r = some (.inl (2, n, .inr (.inl f)))) (hj : zi_in j n) (kk : zw L xs d q k p ls st (w.set r (.inl (2, n, .inr (.inl (vp_updL f j.toNatClampNeg x))))) cn sn Q) : zw L xs d q k pc ls (.long x :: .int j :: .ref r :: st) w cn sn Q := by
  obtain ⟨a, b, rfl⟩ := hc
  exact zw_sim ⟨a, b, rfl⟩ rfl (by simp only [zi_sim, zi_or, zi_num, zi_lcl, zi_br, zi_cel, hg, if_pos hj]) ⟨Nat.le_refl _, Nat.le_refl _, rfl⟩ kk
theorem zw_aast {r n v : Nat} {j : Int32} {f : Nat → Option Nat} {vs : List Value} (hc : za k pc .aastore p) (hg : zi_get w r = some (.inl (3, n, .inr (.inr (.inr (.inr f)))))) (hgv : zi_get w v = some (.inr (2, vs))) (hj : zi_in j n) (kk : zw L xs d q k p ls st (w.set r (.inl (3, n, .inr (.inr (.inr (.inr (va_up f j.toNatClampNeg (some v)))))))) cn sn Q) : zw L xs d q k pc ls (.ref v :: .int j :: .ref r :: st) w cn sn Q := by
  obtain ⟨a, b, rfl⟩ := hc
  exact zw_sim ⟨a, b, rfl⟩ rfl (by simp only [zi_sim, zi_or, zi_num, zi_lcl, zi_br, zi_cel, hg, hgv]; rw [if_pos ⟨hj, trivial⟩]) ⟨Nat.le_refl _, Nat.le_refl _, rfl⟩ kk
theorem zw_alen {r n : Nat} {f : Nat → Int32} (hc : za k pc .arraylength p) (hg : zi_get w r = some (.inl (0, n, .inl f))) (kk : zw L xs d q k p ls (.int (Int32.ofNat n) :: st) w cn sn Q) : zw L xs d q k pc ls (.ref r :: st) w cn sn Q := by
  obtain ⟨a, b, rfl⟩ := hc
  exact zw_sim ⟨a, b, rfl⟩ rfl (by simp only [zi_sim, zi_or, zi_num, zi_lcl, zi_br, zi_cel]; rw [if_neg (zi_get_X hg), hg]; rfl) ⟨Nat.le_refl _, Nat.le_refl _, rfl⟩ kk
/-- the script, in the law -/
theorem zw_sld {j : Int32} (hc : za 0 pc .iaload p) (hj : zi_in j L) (kk : zw L xs d q 0 p ls (.int (xs j.toNatClampNeg) :: st) w cn sn Q) : zw L xs d q 0 pc ls (.int j :: .ref zi_X :: st) w cn sn Q := by
  obtain ⟨a, b, rfl⟩ := hc
  exact zw_sim ⟨a, b, rfl⟩ rfl (by simp only [zi_sim, zi_or, zi_num, zi_lcl, zi_br, zi_cel]; rw [if_pos trivial, if_pos ⟨trivial, hj⟩]) ⟨Nat.le_refl _, Nat.le_refl _, rfl⟩ kk
theorem zw_slen (hc : za 0 pc .arraylength p) (kk : zw L xs d q 0 p ls (.int (Int32.ofNat L) :: st) w cn sn Q) : zw L xs d q 0 pc ls (.ref zi_X :: st) w cn sn Q := by
  obtain ⟨a, b, rfl⟩ := hc
  exact zw_sim ⟨a, b, rfl⟩ rfl (by simp only [zi_sim, zi_or, zi_num, zi_lcl, zi_br, zi_cel]; rw [if_pos trivial, if_pos trivial]) ⟨Nat.le_refl _, Nat.le_refl _, rfl⟩ kk
theorem zw_new {c z : Nat} (hc : za_n k pc c z p) (hn : cn = w.length ∧ w.length < zi_X) (kk : zw L xs d q k p ls (.ref w.length :: st) (w ++ [.inr (c, zi_fs0 zp c)]) (cn + 1) (sn + z) Q) : zw L xs d q k pc ls st w cn sn Q := by
  obtain ⟨x, v0, ⟨a, b, rfl⟩, hp⟩ := hc
  exact zw_sim ⟨a, b, rfl⟩ rfl (by simp only [zi_sim, zi_or, zi_num, zi_lcl, zi_br, zi_cel, hp]; rw [if_pos hn]) ⟨Nat.le_succ _, Nat.le_add_right _ _, rfl⟩ kk
theorem zw_newI {m : Int32} {n : Nat} (hc : za k pc (.newarray .int) p) (hm : m.toNatClampNeg = n) (hn : cn = w.length ∧ w.length < zi_X ∧ ¬ m < 0 ∧ n ≤ 65536) (kk : zw L xs d q k p ls (.ref w.length :: st) (w ++ [.inl (0, n, .inl (fun _ => 0))]) (cn + 1) (sn + n) Q) : zw L xs d q k pc ls (.int m :: st) w cn sn Q := by
  obtain ⟨a, b, rfl⟩ := hc
  subst hm
  exact zw_sim ⟨a, b, rfl⟩ rfl (by simp only [zi_sim, zi_or, zi_num, zi_lcl, zi_br, zi_cel]; rw [if_pos hn]) ⟨Nat.le_succ _, Nat.le_add_right _ _, rfl⟩ kk
theorem zw_newZ {m : Int32} {n : Nat} (hc : za k pc (.newarray .boolean) p) (hm : m.toNatClampNeg = n) (hn : cn = w.length ∧ w.length < zi_X ∧ ¬ m < 0 ∧ n ≤ 65536) (kk : zw L xs d q k p ls (.ref w.length :: st) (w ++ [.inl (1, n, .inl (fun _ => 0))]) (cn + 1) (sn + n) Q) : zw L xs d q k pc ls (.int m :: st) w cn sn Q := by
  obtain ⟨a, b, rfl⟩ := hc
  subst hm
  exact zw_sim ⟨a, b, rfl⟩ rfl (by simp only [zi_sim, zi_or, zi_num, zi_lcl, zi_br, zi_cel]; rw [if_pos hn]) ⟨Nat.le_succ _, Nat.le_add_right _ _, rfl⟩ kk
theorem zw_newJ {m : Int32} {n : Nat} (hc : za k pc (.newarray .long) p) (hm : m.toNatClampNeg = n) (hn : cn = w.length ∧ w.length < zi_X ∧ ¬ m < 0 ∧ n ≤ 65536) (kk : zw L xs d q k p ls (.ref w.length :: st) (w ++ [.inl (2, n, .inr (.inl (fun _ => 0)))]) (cn + 1) (sn + n) Q) : zw L xs d q k pc ls (.int m :: st) w cn sn Q := by
  obtain ⟨a, b, rfl⟩ := hc
  subst hm
  exact zw_sim ⟨a, b, rfl⟩ rfl (by simp only [zi_sim, zi_or, zi_num, zi_lcl, zi_br, zi_cel]; rw [if_pos hn]) ⟨Nat.le_succ _, Nat.le_add_right _ _, rfl⟩ kk
theorem zw_newA {m : Int32} {n : Nat} (hc : za_a k pc p) (hm : m.toNatClampNeg = n) (hn : cn = w.length ∧ w.length < zi_X ∧ ¬ m < 0 ∧ n ≤ 65536) (kk : zw L xs d q k p ls (.ref w.length :: st) (w ++ [.inl (3, n, .inr (.inr (.inr (.inr (fun _ => none)))))]) (cn + 1) (sn + n) Q) : zw L xs d q k pc ls (.int m :: st) w cn sn Q := by
  obtain ⟨x, b0, v0, ⟨a, b, rfl⟩, hp⟩ := hc
  subst hm
  exact zw_sim ⟨a, b, rfl⟩ rfl (by simp only [zi_sim, zi_or, zi_num, zi_lcl, zi_br, zi_cel, hp]; rw [if_pos hn]) ⟨Nat.le_succ _, Nat.le_add_right _ _, rfl⟩ kk
/-- members that are steps by themselves -/
theorem zw_obj {r : Nat} (hc : za_o k pc p) (hs : (st.map (fun v => v.category)).sum ≤ 8) (hd : 1 ≤ d) (hq : 20 ≤ q) (kk : zw L xs d q k p ls st w cn sn Q) : zw L xs d q k pc ls (.ref r :: st) w cn sn Q := by
  obtain ⟨x, b0, v0, ⟨a, b, rfl⟩, hp⟩ := hc
  exact zw_sim ⟨a, b, rfl⟩ rfl (by simp only [zi_sim, zi_or, zi_num, zi_lcl, zi_br, zi_cel, zi_pri, hp]; rw [if_pos ⟨hs, hd, hq⟩]) ⟨Nat.le_refl _, Nat.le_refl _, rfl⟩ kk
theorem zw_min {y z : Int32} (hc : za_m k pc p) (hs : (st.map (fun v => v.category)).sum ≤ 8) (hd : 1 ≤ d) (hq : 21 ≤ q) (kk : zw L xs d q k p ls (.int (if y < z then y else z) :: st) w cn sn Q) : zw L xs d q k pc ls (.int y :: .int z :: st) w cn sn Q := by
  obtain ⟨x, b0, v0, ⟨a, b, rfl⟩, hp⟩ := hc
  exact zw_sim ⟨a, b, rfl⟩ rfl (by simp only [zi_sim, zi_or, zi_num, zi_lcl, zi_br, zi_cel, zi_pri, hp]; rw [if_pos ⟨hs, hd, hq⟩]) ⟨Nat.le_refl _, Nat.le_refl _, rfl⟩ kk
theorem zw_copy {m dp sp : Int32} {r r0 n0 n1 : Nat} {f g : Nat → Int32} (hc : za_y k pc p) (hg0 : zi_get w r0 = some (.inl (0, n0, .inl f))) (hg : zi_get w r = some (.inl (0, n1, .inl g))) (hs : (st.map (fun v => v.category)).sum ≤ 8) (hd : 1 ≤ d) (hq : 26 ≤ q) (hm : ¬ sp < 0 ∧ ¬ dp < 0 ∧ ¬ m < 0 ∧ sp.toNatClampNeg + m.toNatClampNeg ≤ n0 ∧ dp.toNatClampNeg + m.toNatClampNeg ≤ n1)
    (kk : zw L xs d q k p ls st (w.set r (.inl (0, n1, .inl (va_cpy f g sp.toNatClampNeg dp.toNatClampNeg m.toNatClampNeg)))) cn sn Q) : zw L xs d q k pc ls (.int m :: .int dp :: .ref r :: .int sp :: .ref r0 :: st) w cn sn Q := by
  obtain ⟨x, b0, v0, ⟨a, b, rfl⟩, hp⟩ := hc
  exact zw_sim ⟨a, b, rfl⟩ rfl (by simp only [zi_sim, zi_or, zi_num, zi_lcl, zi_br, zi_cel, zi_pri, hp, hg0, hg]; rw [if_pos ⟨hs, hm.1, hm.2.1, hm.2.2.1, hm.2.2.2.1, hm.2.2.2.2, hd, hq⟩]) ⟨Nat.le_refl _, Nat.le_refl _, rfl⟩ kk
end ZV
