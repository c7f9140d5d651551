/-! Calls in runs. -/
/-- method j, called with as, comes back; R says with what -/
def zr (L : Nat) (xs : Nat → Int32) (d q j : Nat) (as : List Value) (w : zi_W) (cn sn : Nat) (R : Option Value → zi_W → Nat → Nat → Prop) : Prop :=
  ∃ ls', zi_ent as (zi_n zp j) = some ls' ∧ zw L xs d q j 0 ls' [] w cn sn (fun o w' cn' sn' => ∃ v, o = .inl v ∧ R v w' cn' sn')
/-- method j, called with as in the world w, answers v and changes nothing -/
def zv (d q j : Nat) (as : List Value) (w : zi_W) (v : Int32) : Prop := ∀ (L : Nat) (xs : Nat → Int32) (cn sn : Nat), zr L xs d q j as w cn sn (fun r w' cn' sn' => r = some (.int v) ∧ w' = w ∧ cn' = cn ∧ sn' = sn)
theorem zi_pri_i {P : zi_P} {d q k pc n x j m : Nat} {v0 : Value} {ls : zi_L} {st : List Value} {w : zi_W} {cn sn : Nat} (hp : zi_pool P k x = some (2, j, m, v0)) : zi_pri P d q k pc n (.invokespecial x) ls st w cn sn = none := by
  unfold zi_pri
  split
  · rename_i h
    cases h
    simp only [hp]
  · rename_i h
    cases h
  · rfl
theorem zi_pri_s {P : zi_P} {d q k pc n x j m : Nat} {v0 : Value} {ls : zi_L} {st : List Value} {w : zi_W} {cn sn : Nat} (hp : zi_pool P k x = some (3, j, m, v0)) : zi_pri P d q k pc n (.invokestatic x) ls st w cn sn = none := by
  unfold zi_pri
  split
  · rename_i h
    cases h
  · rename_i h
    cases h
    simp only [hp]
  · rfl
section ZCA
variable {L : Nat} {xs : Nat → Int32} {d q k pc p j m : Nat} {ls : zi_L} {st as rest : List Value} {w : zi_W} {cn sn : Nat} {Q : zi_O → zi_W → Nat → Nat → Prop} {R : Option Value → zi_W → Nat → Nat → Prop}
theorem zr.mono {R' : Option Value → zi_W → Nat → Nat → Prop} (h : zr L xs d q j as w cn sn R) (hR : ∀ v w' cn' sn', R v w' cn' sn' → R' v w' cn' sn') : zr L xs d q j as w cn sn R' := by
  obtain ⟨ls', h1, h2⟩ := h
  refine ⟨ls', h1, h2.mono fun o w' cn' sn' h => ?_⟩
  obtain ⟨v, rfl, h⟩ := h
  exact ⟨v, rfl, hR _ _ _ _ h⟩
theorem zw_cv {ci r n : Nat} {fs : List Value} (hc : za_v k pc j m ci p) (hn : zi_n zp j = n) (hpop : zi_pop m [] st = some (as, .ref r :: rest)) (hg : zi_get w r = some (.inr (ci, fs))) (hsum : (rest.map (fun v => v.category)).sum ≤ 8) (hq : 19 + n ≤ q) (hs : zr L xs d (q - (19 + n)) j (.ref r :: as) w cn sn R)
    (kk : ∀ v w' cn' sn', R v w' cn' sn' → zw L xs (d + 1) q k p ls (v.toList ++ rest) w' cn' sn' Q) : zw L xs (d + 1) q k pc ls st w cn sn Q := by
  obtain ⟨x, ⟨a, b, rfl⟩, hp⟩ := hc
  obtain ⟨ls', he, hs⟩ := hs
  subst hn
  refine zw_call0 ⟨a, b, rfl⟩ rfl (by simp only [zi_sim, zi_or, zi_num, zi_lcl, zi_br, zi_cel, zi_pri]) (j := j) (as := .ref r :: as) (r := rest) ?_ he hq (hs.mono fun o w' cn' sn' h => ?_)
  · simp only [zi_inv, hp, hpop, hg]
    rw [if_pos ⟨trivial, hsum⟩]
  · obtain ⟨v, rfl, h⟩ := h
    exact Or.inl ⟨v, rfl, kk v w' cn' sn' h⟩
theorem zw_ci {r n : Nat} (hc : za_i k pc j m p) (hn : zi_n zp j = n) (hpop : zi_pop m [] st = some (as, .ref r :: rest)) (hsum : (rest.map (fun v => v.category)).sum ≤ 8) (hq : 19 + n ≤ q) (hs : zr L xs d (q - (19 + n)) j (.ref r :: as) w cn sn R)
    (kk : ∀ v w' cn' sn', R v w' cn' sn' → zw L xs (d + 1) q k p ls (v.toList ++ rest) w' cn' sn' Q) : zw L xs (d + 1) q k pc ls st w cn sn Q := by
  obtain ⟨x, v0, ⟨a, b, rfl⟩, hp⟩ := hc
  obtain ⟨ls', he, hs⟩ := hs
  subst hn
  refine zw_call0 ⟨a, b, rfl⟩ rfl ?_ (j := j) (as := .ref r :: as) (r := rest) ?_ he hq (hs.mono fun o w' cn' sn' h => ?_)
  · simp only [zi_sim, zi_or, zi_num, zi_lcl, zi_br, zi_cel, zi_pri_i hp]
  · simp only [zi_inv, hp, hpop]
    rw [if_pos hsum]
  · obtain ⟨v, rfl, h⟩ := h
    exact Or.inl ⟨v, rfl, kk v w' cn' sn' h⟩
theorem zw_cs {n : Nat} (hc : za_s k pc j m p) (hn : zi_n zp j = n) (hpop : zi_pop m [] st = some (as, rest)) (hsum : (rest.map (fun v => v.category)).sum ≤ 8) (hq : 19 + n ≤ q) (hs : zr L xs d (q - (19 + n)) j as w cn sn R)
    (kk : ∀ v w' cn' sn', R v w' cn' sn' → zw L xs (d + 1) q k p ls (v.toList ++ rest) w' cn' sn' Q) : zw L xs (d + 1) q k pc ls st w cn sn Q := by
  obtain ⟨x, v0, ⟨a, b, rfl⟩, hp⟩ := hc
  obtain ⟨ls', he, hs⟩ := hs
  subst hn
  refine zw_call0 ⟨a, b, rfl⟩ rfl ?_ (j := j) (as := as) (r := rest) ?_ he hq (hs.mono fun o w' cn' sn' h => ?_)
  · simp only [zi_sim, zi_or, zi_num, zi_lcl, zi_br, zi_cel, zi_pri_s hp]
  · simp only [zi_inv, hp, hpop]
    rw [if_pos hsum]
  · obtain ⟨v, rfl, h⟩ := h
    exact Or.inl ⟨v, rfl, kk v w' cn' sn' h⟩
theorem zw_vv {ci r n : Nat} {fs : List Value} {v : Int32} (hc : za_v k pc j m ci p) (hn : zi_n zp j = n) (hpop : zi_pop m [] st = some (as, .ref r :: rest)) (hg : zi_get w r = some (.inr (ci, fs))) (hsum : (rest.map (fun v => v.category)).sum ≤ 8) (hq : 19 + n ≤ q) (hs : zv d (q - (19 + n)) j (.ref r :: as) w v)
    (kk : zw L xs (d + 1) q k p ls (.int v :: rest) w cn sn Q) : zw L xs (d + 1) q k pc ls st w cn sn Q :=
  zw_cv hc hn hpop hg hsum hq (hs L xs cn sn) fun r w' cn' sn' h => by
    obtain ⟨rfl, rfl, rfl, rfl⟩ := h
    exact kk
theorem zw_vs {n : Nat} {v : Int32} (hc : za_s k pc j m p) (hn : zi_n zp j = n) (hpop : zi_pop m [] st = some (as, rest)) (hsum : (rest.map (fun v => v.category)).sum ≤ 8) (hq : 19 + n ≤ q) (hs : zv d (q - (19 + n)) j as w v)
    (kk : zw L xs (d + 1) q k p ls (.int v :: rest) w cn sn Q) : zw L xs (d + 1) q k pc ls st w cn sn Q :=
  zw_cs hc hn hpop hsum hq (hs L xs cn sn) fun r w' cn' sn' h => by
    obtain ⟨rfl, rfl, rfl, rfl⟩ := h
    exact kk
end ZCA
