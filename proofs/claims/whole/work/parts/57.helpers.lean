/-! The law's helpers. (Laid out by gen/tpl.py from tpl/57.helpers.tpl, which gen/mk57.py writes.) -/
section ZHP
variable {L : Nat} {xs : Nat → Int32} {d q : Nat} {w : zi_W} {cn sn : Nat} {Q : zi_O → zi_W → Nat → Nat → Prop} {z y m c u v : Int} {r : zi_O × TT} {g : Nat → Int64}
theorem zt.mono {j : Nat} {as : List Value} {R R' : zi_O → zi_W → Nat → Nat → Prop} (h : zt L xs d q j as w cn sn R) (hR : ∀ o w' cn' sn', R o w' cn' sn' → R' o w' cn' sn') : zt L xs d q j as w cn sn R' := by
  obtain ⟨ls', h1, h2⟩ := h
  exact ⟨ls', h1, h2.mono hR⟩
theorem zw_ct {k pc p j m ci r n : Nat} {ls : zi_L} {st as rest fs : List Value} {R : zi_O → zi_W → Nat → Nat → Prop} (hc : za_v k pc j m ci p) (hn : zi_n zp j = n) (hpop : zi_pop m [] st = some (as, .ref r :: rest)) (hg : zi_get w r = some (.inr (ci, fs))) (hsum : (rest.map (fun v => v.category)).sum ≤ 8) (hq : 19 + n ≤ q) (hs : zt L xs d (q - (19 + n)) j (.ref r :: as) w cn sn R)
    (kk : ∀ v w' cn' sn', R (.inl v) w' cn' sn' → zw L xs (d + 1) q k p ls (v.toList ++ rest) w' cn' sn' Q) (kx : ∀ ex w' cn' sn', R (.inr ex) w' cn' sn' → ∃ x, zi_cat zp k pc ex = some x ∧ Q (.inl (some (.int x))) w' cn' sn') : zw L xs (d + 1) q k pc ls st w cn sn Q := by
  obtain ⟨x, ⟨a, b, rfl⟩, hp⟩ := hc
  obtain ⟨ls', he, hs⟩ := hs
  subst hn
  refine zw_call0 ⟨a, b, rfl⟩ rfl (by simp only [zi_sim, zi_or, zi_num, zi_lcl, zi_br, zi_cel, zi_pri]) (j := j) (as := .ref r :: as) (r := rest) ?_ he hq (hs.mono fun o w' cn' sn' h => ?_)
  · simp only [zi_inv, hp, hpop, hg]
    rw [if_pos ⟨trivial, hsum⟩]
  · cases o with
    | inl v => exact Or.inl ⟨v, rfl, kk v w' cn' sn' h⟩
    | inr ex =>
      obtain ⟨x, h1, h2⟩ := kx ex w' cn' sn' h
      exact Or.inr ⟨ex, x, rfl, h1, h2⟩
abbrev ouA (w : zi_W) (g : Nat → Int64) : Prop := zi_get w 831 = some (.inl (2, 1, .inr (.inl g)))
/-- how a helper ends: r is what the table's call does, cd the code of what it throws -/
def hR (w : zi_W) (cn sn : Nat) (r : zi_O × TT) (cd : Nat → Int) : Option Value → zi_W → Nat → Nat → Prop := fun v w' cn' sn' => (∃ k : Int, v = some (iV k) ∧ (∀ b, r.1 = .inl b → k = 0) ∧ (∀ ex, r.1 = .inr ex → k = cd ex)) ∧ cn' = cn + tC r.1 ∧ sn' = sn + 6 * tC r.1 ∧ ptA w' r.2 ∧ zF (fun j => j ≤ 816 ∨ j = 831) w w' ∧ ∃ g', ouA w' g' ∧ ∀ x : Int32, r.1 = .inl (some (.int x)) → g' 0 = x.toInt64
theorem iI_1' : (1 : Int32) = iI 1 := by decide +kernel
theorem iI_2' : (2 : Int32) = iI 2 := by decide +kernel
abbrev cd1 (ex : Nat) : Int := if ex = 0 then 1 else 2
theorem ptA.keep {w w' : zi_W} {T : TT} (h : ptA w T) (hk : ∀ j, j ≤ 816 → zi_get w' j = zi_get w j) : ptA w' T :=
  ⟨(hk 0 (by omega)).trans h.1, (hk 1 (by omega)).trans h.2.1, h.2.2.1.keep fun j h1 h2 => hk j (by omega), h.2.2.2.1.keep fun j h1 h2 => hk j (by omega), seT_keep h.2.2.2.2.1 fun j h1 h2 => hk j (by omega), (hk 816 (by omega)).trans h.2.2.2.2.2⟩
theorem hp_lay (h0 : ptO w u) (ho : ouA w g) (hs : zt L xs d (q - (19 + 3)) 13 [.ref 0, iV z, iV c] w cn sn (tO w cn sn r)) (hr : (∃ x : Int32, r.1 = .inl (some (.int x))) ∨ r.1 = .inr 0 ∨ r.1 = .inr 1) (hq : 22 ≤ q) : zr L xs (d + 1) q 2 [.ref 0, iV z, iV c, .ref 831] w cn sn (hR w cn sn r cd1) := by
  unfold ptO at h0
  refine ⟨_, rfl, ?_⟩
  show zw _ _ _ _ 2 0 [some (.ref 0), some (iV z), some (iV c), some (.ref 831), none] [] _ _ _ _
  refine zw_aload_n z2_0 rfl ?_
  refine zw_iconst z2_1 (v := iI 0) rfl ?_
  refine zw_aload_n z2_2 rfl ?_
  refine zw_iload_n z2_3 rfl ?_
  refine zw_iload_n z2_4 rfl ?_
  refine zw_ct (n := 3) z2_5 rfl rfl h0 (Nat.le_of_ble_eq_true rfl) hq hs (fun v w1 cn1 sn1 h => ?_) (fun ex w1 cn1 sn1 h => ?_)
  · obtain ⟨h1, h2, h3, h4, h5⟩ := h
    obtain ⟨x, hx⟩ : ∃ x : Int32, r.1 = .inl (some (.int x)) := by
      rcases hr with h | h | h
      · exact h
      · rw [h] at h1; cases h1
      · rw [h] at h1; cases h1
    rw [hx] at h1
    cases h1
    have o1 : ouA w1 g := (h5.2 831 (by omega)).trans ho
    refine zw_i2l z2_8 ?_
    refine zw_last z2_9 o1 (iI_in (z := 0) (by omega) (by decide)) ?_
    refine zw_goto z2_10 ?_
    refine zw_iconst z2_21 (v := iI 0) rfl ?_
    refine zw_iret z2_22 rfl ⟨_, rfl, ⟨0, rfl, fun _ _ => rfl, fun ex he => (by rw [hx] at he; cases he)⟩, h2, h3, ?_, ?_, _, zi_get_self o1, fun y hy => ?_⟩
    · exact ptA.keep h4 fun j hj => zG.of.2 j (by omega)
    · exact (h5.sub fun j hj => Or.inl hj).step zG.of (Or.inr rfl)
    · rw [hx] at hy
      cases hy
      exact if_pos rfl
  · obtain ⟨h1, h2, h3, h4, h5⟩ := h
    have o1 : ouA w1 g := (h5.2 831 (by omega)).trans ho
    rcases hr with ⟨x, hx⟩ | hx | hx
    · rw [hx] at h1; cases h1
    · rw [hx] at h1
      cases h1
      exact ⟨_, rfl, _, rfl, ⟨1, congrArg (fun x => some (Value.int x)) iI_1', fun b hb => (by rw [hx] at hb; cases hb), fun ex he => (by rw [hx] at he; cases he; decide)⟩, h2, h3, h4, h5.sub fun j hj => Or.inl hj, g, o1, fun y hy => (by rw [hx] at hy; cases hy)⟩
    · rw [hx] at h1
      cases h1
      exact ⟨_, rfl, _, rfl, ⟨2, congrArg (fun x => some (Value.int x)) iI_2', fun b hb => (by rw [hx] at hb; cases hb), fun ex he => (by rw [hx] at he; cases he; decide)⟩, h2, h3, h4, h5.sub fun j hj => Or.inl hj, g, o1, fun y hy => (by rw [hx] at hy; cases hy)⟩
theorem hp_move (h0 : ptO w u) (ho : ouA w g) (hs : zt L xs d (q - (19 + 4)) 14 [.ref 0, iV z, iV y, iV m] w cn sn (tO w cn sn r)) (hr : (∃ x : Int32, r.1 = .inl (some (.int x))) ∨ r.1 = .inr 0 ∨ r.1 = .inr 1) (hq : 23 ≤ q) : zr L xs (d + 1) q 3 [.ref 0, iV z, iV y, iV m, .ref 831] w cn sn (hR w cn sn r cd1) := by
  unfold ptO at h0
  refine ⟨_, rfl, ?_⟩
  show zw _ _ _ _ 3 0 [some (.ref 0), some (iV z), some (iV y), some (iV m), some (.ref 831), none] [] _ _ _ _
  refine zw_aload z3_0 rfl ?_
  refine zw_iconst z3_2 (v := iI 0) rfl ?_
  refine zw_aload_n z3_3 rfl ?_
  refine zw_iload_n z3_4 rfl ?_
  refine zw_iload_n z3_5 rfl ?_
  refine zw_iload_n z3_6 rfl ?_
  refine zw_ct (n := 4) z3_7 rfl rfl h0 (Nat.le_of_ble_eq_true rfl) hq hs (fun v w1 cn1 sn1 h => ?_) (fun ex w1 cn1 sn1 h => ?_)
  · obtain ⟨h1, h2, h3, h4, h5⟩ := h
    obtain ⟨x, hx⟩ : ∃ x : Int32, r.1 = .inl (some (.int x)) := by
      rcases hr with h | h | h
      · exact h
      · rw [h] at h1; cases h1
      · rw [h] at h1; cases h1
    rw [hx] at h1
    cases h1
    have o1 : ouA w1 g := (h5.2 831 (by omega)).trans ho
    refine zw_i2l z3_10 ?_
    refine zw_last z3_11 o1 (iI_in (z := 0) (by omega) (by decide)) ?_
    refine zw_goto z3_12 ?_
    refine zw_iconst z3_23 (v := iI 0) rfl ?_
    refine zw_iret z3_24 rfl ⟨_, rfl, ⟨0, rfl, fun _ _ => rfl, fun ex he => (by rw [hx] at he; cases he)⟩, h2, h3, ?_, ?_, _, zi_get_self o1, fun y hy => ?_⟩
    · exact ptA.keep h4 fun j hj => zG.of.2 j (by omega)
    · exact (h5.sub fun j hj => Or.inl hj).step zG.of (Or.inr rfl)
    · rw [hx] at hy
      cases hy
      exact if_pos rfl
  · obtain ⟨h1, h2, h3, h4, h5⟩ := h
    have o1 : ouA w1 g := (h5.2 831 (by omega)).trans ho
    rcases hr with ⟨x, hx⟩ | hx | hx
    · rw [hx] at h1; cases h1
    · rw [hx] at h1
      cases h1
      exact ⟨_, rfl, _, rfl, ⟨1, congrArg (fun x => some (Value.int x)) iI_1', fun b hb => (by rw [hx] at hb; cases hb), fun ex he => (by rw [hx] at he; cases he; decide)⟩, h2, h3, h4, h5.sub fun j hj => Or.inl hj, g, o1, fun y hy => (by rw [hx] at hy; cases hy)⟩
    · rw [hx] at h1
      cases h1
      exact ⟨_, rfl, _, rfl, ⟨2, congrArg (fun x => some (Value.int x)) iI_2', fun b hb => (by rw [hx] at hb; cases hb), fun ex he => (by rw [hx] at he; cases he; decide)⟩, h2, h3, h4, h5.sub fun j hj => Or.inl hj, g, o1, fun y hy => (by rw [hx] at hy; cases hy)⟩
theorem hp_play (h0 : ptO w u) (ho : ouA w g) (hs : zt L xs d (q - (19 + 6)) 15 [.ref 0, iV z, iV y] w cn sn (tO w cn sn r)) (hr : (∃ x : Int32, r.1 = .inl (some (.int x))) ∨ r.1 = .inr 0 ∨ r.1 = .inr 1) (hq : 25 ≤ q) : zr L xs (d + 1) q 4 [.ref 0, iV z, iV y, .ref 831] w cn sn (hR w cn sn r cd1) := by
  unfold ptO at h0
  refine ⟨_, rfl, ?_⟩
  show zw _ _ _ _ 4 0 [some (.ref 0), some (iV z), some (iV y), some (.ref 831), none] [] _ _ _ _
  refine zw_aload_n z4_0 rfl ?_
  refine zw_iconst z4_1 (v := iI 0) rfl ?_
  refine zw_aload_n z4_2 rfl ?_
  refine zw_iload_n z4_3 rfl ?_
  refine zw_iload_n z4_4 rfl ?_
  refine zw_ct (n := 6) z4_5 rfl rfl h0 (Nat.le_of_ble_eq_true rfl) hq hs (fun v w1 cn1 sn1 h => ?_) (fun ex w1 cn1 sn1 h => ?_)
  · obtain ⟨h1, h2, h3, h4, h5⟩ := h
    obtain ⟨x, hx⟩ : ∃ x : Int32, r.1 = .inl (some (.int x)) := by
      rcases hr with h | h | h
      · exact h
      · rw [h] at h1; cases h1
      · rw [h] at h1; cases h1
    rw [hx] at h1
    cases h1
    have o1 : ouA w1 g := (h5.2 831 (by omega)).trans ho
    refine zw_i2l z4_8 ?_
    refine zw_last z4_9 o1 (iI_in (z := 0) (by omega) (by decide)) ?_
    refine zw_goto z4_10 ?_
    refine zw_iconst z4_21 (v := iI 0) rfl ?_
    refine zw_iret z4_22 rfl ⟨_, rfl, ⟨0, rfl, fun _ _ => rfl, fun ex he => (by rw [hx] at he; cases he)⟩, h2, h3, ?_, ?_, _, zi_get_self o1, fun y hy => ?_⟩
    · exact ptA.keep h4 fun j hj => zG.of.2 j (by omega)
    · exact (h5.sub fun j hj => Or.inl hj).step zG.of (Or.inr rfl)
    · rw [hx] at hy
      cases hy
      exact if_pos rfl
  · obtain ⟨h1, h2, h3, h4, h5⟩ := h
    have o1 : ouA w1 g := (h5.2 831 (by omega)).trans ho
    rcases hr with ⟨x, hx⟩ | hx | hx
    · rw [hx] at h1; cases h1
    · rw [hx] at h1
      cases h1
      exact ⟨_, rfl, _, rfl, ⟨1, congrArg (fun x => some (Value.int x)) iI_1', fun b hb => (by rw [hx] at hb; cases hb), fun ex he => (by rw [hx] at he; cases he; decide)⟩, h2, h3, h4, h5.sub fun j hj => Or.inl hj, g, o1, fun y hy => (by rw [hx] at hy; cases hy)⟩
    · rw [hx] at h1
      cases h1
      exact ⟨_, rfl, _, rfl, ⟨2, congrArg (fun x => some (Value.int x)) iI_2', fun b hb => (by rw [hx] at hb; cases hb), fun ex he => (by rw [hx] at he; cases he; decide)⟩, h2, h3, h4, h5.sub fun j hj => Or.inl hj, g, o1, fun y hy => (by rw [hx] at hy; cases hy)⟩
theorem hp_send (h0 : ptO w u) (ho : ouA w g) (hs : zt L xs d (q - (19 + 3)) 16 [.ref 0] w cn sn (tO w cn sn r)) (hr : (∃ x : Int32, r.1 = .inl (some (.int x))) ∨ r.1 = .inr 1) (hq : 22 ≤ q) : zr L xs (d + 1) q 5 [.ref 0, .ref 831] w cn sn (hR w cn sn r (fun _ => 1)) := by
  unfold ptO at h0
  refine ⟨_, rfl, ?_⟩
  show zw _ _ _ _ 5 0 [some (.ref 0), some (.ref 831), none] [] _ _ _ _
  refine zw_aload_n z5_0 rfl ?_
  refine zw_iconst z5_1 (v := iI 0) rfl ?_
  refine zw_aload_n z5_2 rfl ?_
  refine zw_ct (n := 3) z5_3 rfl rfl h0 (Nat.le_of_ble_eq_true rfl) hq hs (fun v w1 cn1 sn1 h => ?_) (fun ex w1 cn1 sn1 h => ?_)
  · obtain ⟨h1, h2, h3, h4, h5⟩ := h
    obtain ⟨x, hx⟩ : ∃ x : Int32, r.1 = .inl (some (.int x)) := by
      rcases hr with h | h
      · exact h
      · rw [h] at h1; cases h1
    rw [hx] at h1
    cases h1
    have o1 : ouA w1 g := (h5.2 831 (by omega)).trans ho
    refine zw_i2l z5_6 ?_
    refine zw_last z5_7 o1 (iI_in (z := 0) (by omega) (by decide)) ?_
    refine zw_goto z5_8 ?_
    refine zw_iconst z5_14 (v := iI 0) rfl ?_
    refine zw_iret z5_15 rfl ⟨_, rfl, ⟨0, rfl, fun _ _ => rfl, fun ex he => (by rw [hx] at he; cases he)⟩, h2, h3, ?_, ?_, _, zi_get_self o1, fun y hy => ?_⟩
    · exact ptA.keep h4 fun j hj => zG.of.2 j (by omega)
    · exact (h5.sub fun j hj => Or.inl hj).step zG.of (Or.inr rfl)
    · rw [hx] at hy
      cases hy
      exact if_pos rfl
  · obtain ⟨h1, h2, h3, h4, h5⟩ := h
    have o1 : ouA w1 g := (h5.2 831 (by omega)).trans ho
    rcases hr with ⟨x, hx⟩ | hx
    · rw [hx] at h1; cases h1
    · rw [hx] at h1
      cases h1
      exact ⟨_, rfl, _, rfl, ⟨1, congrArg (fun x => some (Value.int x)) iI_1', fun b hb => (by rw [hx] at hb; cases hb), fun ex he => rfl⟩, h2, h3, h4, h5.sub fun j hj => Or.inl hj, g, o1, fun y hy => (by rw [hx] at hy; cases hy)⟩
theorem hp_undo (h0 : ptO w u) (ho : ouA w g) (hs : zt L xs d (q - (19 + 2)) 17 [.ref 0] w cn sn (tO w cn sn r)) (hr : (∃ x : Int32, r.1 = .inl (some (.int x))) ∨ r.1 = .inr 2) (hq : 21 ≤ q) : zr L xs (d + 1) q 6 [.ref 0, .ref 831] w cn sn (hR w cn sn r (fun _ => 1)) := by
  unfold ptO at h0
  refine ⟨_, rfl, ?_⟩
  show zw _ _ _ _ 6 0 [some (.ref 0), some (.ref 831), none] [] _ _ _ _
  refine zw_aload_n z6_0 rfl ?_
  refine zw_iconst z6_1 (v := iI 0) rfl ?_
  refine zw_aload_n z6_2 rfl ?_
  refine zw_ct (n := 2) z6_3 rfl rfl h0 (Nat.le_of_ble_eq_true rfl) hq hs (fun v w1 cn1 sn1 h => ?_) (fun ex w1 cn1 sn1 h => ?_)
  · obtain ⟨h1, h2, h3, h4, h5⟩ := h
    obtain ⟨x, hx⟩ : ∃ x : Int32, r.1 = .inl (some (.int x)) := by
      rcases hr with h | h
      · exact h
      · rw [h] at h1; cases h1
    rw [hx] at h1
    cases h1
    have o1 : ouA w1 g := (h5.2 831 (by omega)).trans ho
    refine zw_i2l z6_6 ?_
    refine zw_last z6_7 o1 (iI_in (z := 0) (by omega) (by decide)) ?_
    refine zw_goto z6_8 ?_
    refine zw_iconst z6_14 (v := iI 0) rfl ?_
    refine zw_iret z6_15 rfl ⟨_, rfl, ⟨0, rfl, fun _ _ => rfl, fun ex he => (by rw [hx] at he; cases he)⟩, h2, h3, ?_, ?_, _, zi_get_self o1, fun y hy => ?_⟩
    · exact ptA.keep h4 fun j hj => zG.of.2 j (by omega)
    · exact (h5.sub fun j hj => Or.inl hj).step zG.of (Or.inr rfl)
    · rw [hx] at hy
      cases hy
      exact if_pos rfl
  · obtain ⟨h1, h2, h3, h4, h5⟩ := h
    have o1 : ouA w1 g := (h5.2 831 (by omega)).trans ho
    rcases hr with ⟨x, hx⟩ | hx
    · rw [hx] at h1; cases h1
    · rw [hx] at h1
      cases h1
      exact ⟨_, rfl, _, rfl, ⟨1, congrArg (fun x => some (Value.int x)) iI_1', fun b hb => (by rw [hx] at hb; cases hb), fun ex he => rfl⟩, h2, h3, h4, h5.sub fun j hj => Or.inl hj, g, o1, fun y hy => (by rw [hx] at hy; cases hy)⟩
theorem hp_look (h0 : ptO w u) (ho : ouA w g) (hs : zt L xs d (q - (19 + 3)) 22 [.ref 0, iV z] w cn sn (tO w cn sn r)) (hr : (∃ x : Int32, r.1 = .inl (some (.int x))) ∨ r.1 = .inr 0 ∨ r.1 = .inr 1) (hq : 22 ≤ q) : zr L xs (d + 1) q 7 [.ref 0, iV z, .ref 831] w cn sn (hR w cn sn r cd1) := by
  unfold ptO at h0
  refine ⟨_, rfl, ?_⟩
  show zw _ _ _ _ 7 0 [some (.ref 0), some (iV z), some (.ref 831), none] [] _ _ _ _
  refine zw_aload_n z7_0 rfl ?_
  refine zw_iconst z7_1 (v := iI 0) rfl ?_
  refine zw_aload_n z7_2 rfl ?_
  refine zw_iload_n z7_3 rfl ?_
  refine zw_ct (n := 3) z7_4 rfl rfl h0 (Nat.le_of_ble_eq_true rfl) hq hs (fun v w1 cn1 sn1 h => ?_) (fun ex w1 cn1 sn1 h => ?_)
  · obtain ⟨h1, h2, h3, h4, h5⟩ := h
    obtain ⟨x, hx⟩ : ∃ x : Int32, r.1 = .inl (some (.int x)) := by
      rcases hr with h | h | h
      · exact h
      · rw [h] at h1; cases h1
      · rw [h] at h1; cases h1
    rw [hx] at h1
    cases h1
    have o1 : ouA w1 g := (h5.2 831 (by omega)).trans ho
    refine zw_i2l z7_7 ?_
    refine zw_last z7_8 o1 (iI_in (z := 0) (by omega) (by decide)) ?_
    refine zw_goto z7_9 ?_
    refine zw_iconst z7_18 (v := iI 0) rfl ?_
    refine zw_iret z7_19 rfl ⟨_, rfl, ⟨0, rfl, fun _ _ => rfl, fun ex he => (by rw [hx] at he; cases he)⟩, h2, h3, ?_, ?_, _, zi_get_self o1, fun y hy => ?_⟩
    · exact ptA.keep h4 fun j hj => zG.of.2 j (by omega)
    · exact (h5.sub fun j hj => Or.inl hj).step zG.of (Or.inr rfl)
    · rw [hx] at hy
      cases hy
      exact if_pos rfl
  · obtain ⟨h1, h2, h3, h4, h5⟩ := h
    have o1 : ouA w1 g := (h5.2 831 (by omega)).trans ho
    rcases hr with ⟨x, hx⟩ | hx | hx
    · rw [hx] at h1; cases h1
    · rw [hx] at h1
      cases h1
      exact ⟨_, rfl, _, rfl, ⟨1, congrArg (fun x => some (Value.int x)) iI_1', fun b hb => (by rw [hx] at hb; cases hb), fun ex he => (by rw [hx] at he; cases he; decide)⟩, h2, h3, h4, h5.sub fun j hj => Or.inl hj, g, o1, fun y hy => (by rw [hx] at hy; cases hy)⟩
    · rw [hx] at h1
      cases h1
      exact ⟨_, rfl, _, rfl, ⟨2, congrArg (fun x => some (Value.int x)) iI_2', fun b hb => (by rw [hx] at hb; cases hb), fun ex he => (by rw [hx] at he; cases he; decide)⟩, h2, h3, h4, h5.sub fun j hj => Or.inl hj, g, o1, fun y hy => (by rw [hx] at hy; cases hy)⟩
theorem hp_deal (h0 : ptO w u) (ho : ouA w g) (hs : zt L xs d (q - (19 + 7)) 11 [.ref 0, iV z] w cn sn (tO w cn sn r)) (hr : r.1 = .inl none ∨ r.1 = .inr 0) (hq : 26 ≤ q) : zr L xs (d + 1) q 1 [.ref 0, iV z] w cn sn (hR w cn sn r (fun _ => 1)) := by
  unfold ptO at h0
  refine ⟨_, rfl, ?_⟩
  show zw _ _ _ _ 1 0 [some (.ref 0), some (iV z), none] [] _ _ _ _
  refine zw_aload_n z1_0 rfl ?_
  refine zw_iload_n z1_1 rfl ?_
  refine zw_ct (n := 7) z1_2 rfl rfl h0 (Nat.le_of_ble_eq_true rfl) hq hs (fun v w1 cn1 sn1 h => ?_) (fun ex w1 cn1 sn1 h => ?_)
  · obtain ⟨h1, h2, h3, h4, h5⟩ := h
    have o1 : ouA w1 g := (h5.2 831 (by omega)).trans ho
    rcases hr with hx | hx
    · rw [hx] at h1
      cases h1
      refine zw_goto z1_5 ?_
      refine zw_iconst z1_11 (v := iI 0) rfl ?_
      exact zw_iret z1_12 rfl ⟨_, rfl, ⟨0, rfl, fun _ _ => rfl, fun ex he => (by rw [hx] at he; cases he)⟩, h2, h3, h4, h5.sub fun j hj => Or.inl hj, g, o1, fun y hy => (by rw [hx] at hy; cases hy)⟩
    · rw [hx] at h1; cases h1
  · obtain ⟨h1, h2, h3, h4, h5⟩ := h
    have o1 : ouA w1 g := (h5.2 831 (by omega)).trans ho
    rcases hr with hx | hx
    · rw [hx] at h1; cases h1
    · rw [hx] at h1
      cases h1
      exact ⟨_, rfl, _, rfl, ⟨1, congrArg (fun x => some (Value.int x)) iI_1', fun b hb => (by rw [hx] at hb; cases hb), fun ex he => rfl⟩, h2, h3, h4, h5.sub fun j hj => Or.inl hj, g, o1, fun y hy => (by rw [hx] at hy; cases hy)⟩
end ZHP
