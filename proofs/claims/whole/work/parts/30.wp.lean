/-! Runs, goal first: a rule an instruction. -/
set_option maxHeartbeats 1000000 in
theorem zi_run_fuel {P : zi_P} {lw L : Nat} {xs : Nat → Int32} : ∀ (n m d q k pc : Nat) (ls : zi_L) (st : List Value) (w : zi_W) (cn sn : Nat) (r : zi_R), n ≤ m → zi_run P lw L xs n d q k pc ls st w cn sn = some r → zi_run P lw L xs m d q k pc ls st w cn sn = some r := by
  intro n
  induction n with
  | zero => intro m d q k pc ls st w cn sn r _ h; cases h
  | succ n ih =>
    intro m d q k pc ls st w cn sn r hm h
    obtain ⟨m, rfl⟩ : ∃ m', m = m' + 1 := ⟨m - 1, by omega⟩
    have hm : n ≤ m := by omega
    unfold zi_run at h ⊢
    cases hthr : zi_thr P k pc with
    | some e => simp only [hthr] at h ⊢; exact h
    | none =>
      simp only [hthr] at h ⊢
      cases hcode : zi_code P k pc with
      | none => simp only [hcode] at h; cases h
      | some i =>
        simp only [hcode] at h ⊢
        cases hret : zi_ret P k i st with
        | some v => simp only [hret] at h ⊢; exact h
        | none =>
          simp only [hret] at h ⊢
          cases hsim : zi_sim P lw L xs d q k pc (zi_len i) i ls st w cn sn with
          | some c =>
            obtain ⟨pc', ls', st', w', cn', sn'⟩ := c
            simp only [hsim] at h ⊢
            split at h
            · rename_i hg
              rw [if_pos hg]
              exact ih m _ _ _ _ _ _ _ _ _ _ hm h
            · cases h
          | none =>
            simp only [hsim] at h ⊢
            cases hinv : zi_inv P k i st w with
            | none => simp only [hinv] at h; cases h
            | some t =>
              obtain ⟨j, as, r'⟩ := t
              cases d with
              | zero => simp only [hinv] at h; cases h
              | succ d' =>
                simp only [hinv] at h ⊢
                cases hent : zi_ent as (zi_n P j) with
                | none => simp only [hent] at h; cases h
                | some ls' =>
                  simp only [hent] at h ⊢
                  split at h
                  · rename_i hq
                    rw [if_pos hq]
                    cases hrun : zi_run P lw L xs n d' (q - (19 + zi_n P j)) j 0 ls' [] w cn sn with
                    | none => simp only [hrun] at h; cases h
                    | some t =>
                      have h2 := ih m _ _ _ _ _ _ _ _ _ _ hm hrun
                      obtain ⟨o, w', cn', sn'⟩ := t
                      simp only [hrun] at h
                      simp only [h2]
                      cases o with
                      | inl v => exact ih m _ _ _ _ _ _ _ _ _ _ hm h
                      | inr e => exact h
                  · cases h
/-- a run comes to an end with Q -/
def zw (L : Nat) (xs : Nat → Int32) (d q k pc : Nat) (ls : zi_L) (st : List Value) (w : zi_W) (cn sn : Nat) (Q : zi_O → zi_W → Nat → Nat → Prop) : Prop :=
  ∃ (n : Nat) (o : zi_O) (w' : zi_W) (cn' sn' : Nat), zi_run zp 0 L xs n d q k pc ls st w cn sn = some (o, w', cn', sn') ∧ Q o w' cn' sn'
/-- at pc of method k stands i, and p is the next pc; nothing is thrown there -/
def za (k pc : Nat) (i : Jvm.ClassFile.Instr) (p : Nat) : Prop := zi_code zp k pc = some i ∧ zi_thr zp k pc = none ∧ p = pc + zi_len i
/-- the same of a branch, to t -/
def zb (mk : Int → Jvm.ClassFile.Instr) (k pc t p : Nat) : Prop := ∃ off, za k pc (mk off) p ∧ zi_tgt pc off = some t
/-- fields, calls, constants by their places -/
def za_f (k pc c f p : Nat) : Prop := ∃ x tg v0, za k pc (.getfield x) p ∧ zi_pool zp k x = some (tg, c, f, v0) ∧ (tg = 0 ∨ tg = 8 ∨ tg = 9)
def za_p (k pc c f p : Nat) : Prop := ∃ x tg v0, za k pc (.putfield x) p ∧ zi_pool zp k x = some (tg, c, f, v0) ∧ (tg = 0 ∨ tg = 8)
def za_v (k pc j m ci p : Nat) : Prop := ∃ x, za k pc (.invokevirtual x) p ∧ zi_pool zp k x = some (1, j, m, .ref ci)
def za_i (k pc j m p : Nat) : Prop := ∃ x v0, za k pc (.invokespecial x) p ∧ zi_pool zp k x = some (2, j, m, v0)
def za_s (k pc j m p : Nat) : Prop := ∃ x v0, za k pc (.invokestatic x) p ∧ zi_pool zp k x = some (3, j, m, v0)
def za_c (k pc p : Nat) (v : Int32) : Prop := ∃ x a b, za k pc (.ldc x) p ∧ zi_pool zp k x = some (6, a, b, .int v)
def za_l (k pc p : Nat) (v : Int64) : Prop := ∃ x a b, za k pc (.ldc2_w x) p ∧ zi_pool zp k x = some (6, a, b, .long v)
def za_n (k pc c z p : Nat) : Prop := ∃ x v0, za k pc (.new x) p ∧ zi_pool zp k x = some (4, c, z, v0)
def za_a (k pc p : Nat) : Prop := ∃ x b v0, za k pc (.anewarray x) p ∧ zi_pool zp k x = some (4, 2, b, v0)
def za_o (k pc p : Nat) : Prop := ∃ x b v0, za k pc (.invokespecial x) p ∧ zi_pool zp k x = some (7, 0, b, v0)
def za_m (k pc p : Nat) : Prop := ∃ x b v0, za k pc (.invokestatic x) p ∧ zi_pool zp k x = some (7, 1, b, v0)
def za_y (k pc p : Nat) : Prop := ∃ x b v0, za k pc (.invokestatic x) p ∧ zi_pool zp k x = some (7, 2, b, v0)
section ZW
variable {L : Nat} {xs : Nat → Int32} {d q k pc : Nat} {ls : zi_L} {st : List Value} {w : zi_W} {cn sn : Nat} {Q : zi_O → zi_W → Nat → Nat → Prop}
theorem zw.mono {Q' : zi_O → zi_W → Nat → Nat → Prop} (h : zw L xs d q k pc ls st w cn sn Q) (hQ : ∀ o w' cn' sn', Q o w' cn' sn' → Q' o w' cn' sn') : zw L xs d q k pc ls st w cn sn Q' := by
  obtain ⟨n, o, w', cn', sn', h1, h2⟩ := h
  exact ⟨n, o, w', cn', sn', h1, hQ _ _ _ _ h2⟩
theorem zw_sim {i : Jvm.ClassFile.Instr} {pc' p : Nat} {ls' : zi_L} {st' : List Value} {w' : zi_W} {cn' sn' : Nat} (hc : za k pc i p) (hr : zi_ret zp k i st = none) (hs : zi_sim zp 0 L xs d q k pc (zi_len i) i ls st w cn sn = some (pc', ls', st', w', cn', sn')) (hg : cn ≤ cn' ∧ sn ≤ sn' ∧ ls'.length = ls.length)
    (kk : zw L xs d q k pc' ls' st' w' cn' sn' Q) : zw L xs d q k pc ls st w cn sn Q := by
  obtain ⟨n, o, w2, cn2, sn2, h1, h2⟩ := kk
  refine ⟨n + 1, o, w2, cn2, sn2, ?_, h2⟩
  unfold zi_run
  simp only [hc.2.1, hc.1, hr, hs]
  rw [if_pos hg]
  exact h1
theorem zw_ret {p : Nat} {i : Jvm.ClassFile.Instr} {r : Option Value} (hc : za k pc i p) (hr : zi_ret zp k i st = some r) (kk : Q (.inl r) w cn sn) : zw L xs d q k pc ls st w cn sn Q := by
  refine ⟨1, .inl r, w, cn, sn, ?_, kk⟩
  unfold zi_run
  simp only [hc.2.1, hc.1, hr]
theorem zw_vret {p : Nat} (hc : za k pc .return_ p) (hr : zi_r zp k = none) (kk : Q (.inl none) w cn sn) : zw L xs d q k pc ls [] w cn sn Q :=
  zw_ret hc (if_pos hr) kk
theorem zw_iret {p : Nat} {x : Int32} (hc : za k pc .ireturn p) (hr : zi_r zp k = some .int) (kk : Q (.inl (some (.int x))) w cn sn) : zw L xs d q k pc ls [.int x] w cn sn Q :=
  zw_ret hc (if_pos (Or.inl hr)) kk
theorem zw_bret {p : Nat} {x : Int32} (hc : za k pc .ireturn p) (hr : zi_r zp k = some .boolean) (hx : x = 0 ∨ x = 1) (kk : Q (.inl (some (.int x))) w cn sn) : zw L xs d q k pc ls [.int x] w cn sn Q :=
  zw_ret hc (if_pos (Or.inr ⟨hr, hx⟩)) kk
theorem zw_call0 {i : Jvm.ClassFile.Instr} {j p : Nat} {as r : List Value} {ls' : zi_L} (hc : za k pc i p) (hr : zi_ret zp k i st = none) (hs : zi_sim zp 0 L xs (d + 1) q k pc (zi_len i) i ls st w cn sn = none) (hi : zi_inv zp k i st w = some (j, as, r)) (he : zi_ent as (zi_n zp j) = some ls') (hq : 19 + zi_n zp j ≤ q)
    (kk : zw L xs d (q - (19 + zi_n zp j)) j 0 ls' [] w cn sn (fun o w' cn' sn' => (∃ v, o = .inl v ∧ zw L xs (d + 1) q k (pc + 3) ls (v.toList ++ r) w' cn' sn' Q) ∨ ∃ ex x, o = .inr ex ∧ zi_cat zp k pc ex = some x ∧ Q (.inl (some (.int x))) w' cn' sn')) : zw L xs (d + 1) q k pc ls st w cn sn Q := by
  obtain ⟨n, o, w', cn', sn', h1, h2⟩ := kk
  rcases h2 with ⟨v, rfl, n2, o2, w2, cn2, sn2, h3, h4⟩ | ⟨ex, x, rfl, h3, h4⟩
  · refine ⟨max n n2 + 1, o2, w2, cn2, sn2, ?_, h4⟩
    have h1 := zi_run_fuel n (max n n2) _ _ _ _ _ _ _ _ _ _ (Nat.le_max_left _ _) h1
    have h3 := zi_run_fuel n2 (max n n2) _ _ _ _ _ _ _ _ _ _ (Nat.le_max_right _ _) h3
    unfold zi_run
    simp only [hc.2.1, hc.1, hr, hs, hi, he]
    rw [if_pos hq, h1]
    exact h3
  · refine ⟨n + 1, _, w', cn', sn', ?_, h4⟩
    unfold zi_run
    simp only [hc.2.1, hc.1, hr, hs, hi, he]
    rw [if_pos hq, h1]
    simp only [h3]
theorem zw_thr {ex : Nat} (hc : zi_thr zp k pc = some ex) (hd : 6 ≤ d) (hq : 90 ≤ q) (kk : Q (.inr ex) w (cn + 1) (sn + 6)) : zw L xs d q k pc ls [] w cn sn Q := by
  refine ⟨1, _, w, cn + 1, sn + 6, ?_, kk⟩
  unfold zi_run
  simp only [hc]
  rw [if_pos ⟨trivial, hd, hq⟩]
end ZW
