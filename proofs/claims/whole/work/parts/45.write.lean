/-! Writes: how a world changes; the class Layout's methods that write. (Laid out by gen/tpl.py from tpl/45.write.tpl.) -/
/-- one cell has changed -/
def zG (r : Nat) (w w' : zi_W) : Prop := w'.length = w.length ∧ ∀ j, j ≠ r → zi_get w' j = zi_get w j
/-- the cells of S may have changed, no others -/
def zF (S : Nat → Prop) (w w' : zi_W) : Prop := w'.length = w.length ∧ ∀ j, ¬ S j → zi_get w' j = zi_get w j
theorem zF.rf {S : Nat → Prop} {w : zi_W} : zF S w w := ⟨rfl, fun _ _ => rfl⟩
theorem zF.step {S : Nat → Prop} {w w1 w2 : zi_W} {r : Nat} (h : zF S w w1) (g : zG r w1 w2) (hr : S r) : zF S w w2 := ⟨g.1.trans h.1, fun j hj => (g.2 j (fun e => hj (e ▸ hr))).trans (h.2 j hj)⟩
theorem zF.trans {S : Nat → Prop} {w w1 w2 : zi_W} (h : zF S w w1) (g : zF S w1 w2) : zF S w w2 := ⟨g.1.trans h.1, fun j hj => (g.2 j hj).trans (h.2 j hj)⟩
theorem zF.sub {S S' : Nat → Prop} {w w' : zi_W} (h : zF S w w') (hs : ∀ j, S j → S' j) : zF S' w w' := ⟨h.1, fun j hj => h.2 j (fun q => hj (hs j q))⟩
theorem zG.of {w : zi_W} {r : Nat} {c : va_E} : zG r w (w.set r c) := ⟨List.length_set, fun _ hj => zi_get_set hj⟩
theorem iU_rng {f : Nat → Int} {n : Nat} {x lo hi : Int} (hf : ∀ j, lo ≤ f j ∧ f j ≤ hi) (hx : lo ≤ x ∧ x ≤ hi) : ∀ j, lo ≤ iU f n x j ∧ iU f n x j ≤ hi := by
  intro j
  unfold iU
  split
  · exact hx
  · exact hf j
section ZWR
variable {L : Nat} {xs : Nat → Int32} {d q k pc p t : Nat} {ls : zi_L} {st : List Value} {w : zi_W} {cn sn : Nat} {Q : zi_O → zi_W → Nat → Nat → Prop}
theorem zj_astB {r n : Nat} {z x lo hi : Int} {f : Nat → Int} (hc : za k pc .iastore p) (hg : zi_get w r = some (.inl (0, n, .inl (iA f)))) (hj : 0 ≤ z ∧ z < n) (hn : n ≤ 2147483647) (hB : ∀ j, lo ≤ f j ∧ f j ≤ hi) (hx : lo ≤ x ∧ x ≤ hi) (kk : ∀ w', zi_get w' r = some (.inl (0, n, .inl (iA (iU f z.toNat x)))) → zG r w w' → (∀ j, lo ≤ iU f z.toNat x j ∧ iU f z.toNat x j ≤ hi) → zw L xs d q k p ls st w' cn sn Q) : zw L xs d q k pc ls (iV x :: iV z :: .ref r :: st) w cn sn Q :=
  zj_ast hc hg hj hn (kk _ (zi_get_self hg) zG.of (iU_rng hB hx))
theorem zj_putf {c f r : Nat} {fs : List Value} {v : Value} (hc : za_p k pc c f p) (hg : zi_get w r = some (.inr (c, fs))) (hl : f < fs.length) (hf : zi_fit (zi_fty zp c f) v = true) (kk : ∀ w', zi_get w' r = some (.inr (c, fs.set f v)) → zG r w w' → zw L xs d q k p ls st w' cn sn Q) : zw L xs d q k pc ls (v :: .ref r :: st) w cn sn Q :=
  zw_putf hc hg hl hf (kk _ (zi_get_self hg) zG.of)
end ZWR
section ZLW
variable {L : Nat} {xs : Nat → Int32} {d q a : Nat} {w : zi_W} {cn sn : Nat} {G b t h : Nat → Int} {la ah z y c : Int}
abbrev lyS (a : Nat) : Nat → Prop := fun j => a ≤ j ∧ j ≤ a + 3
theorem sp_layOn (hy : lyA w a b t h la ah) (hV : lyV b t h la ah) (hz : 0 ≤ z ∧ z < 12) (hc : 0 ≤ c ∧ c < 52) : zr L xs d q 45 [.ref a, iV z, iV c] w cn sn (fun r w' cn' sn' => r = none ∧ cn' = cn ∧ sn' = sn ∧ lyA w' a (iU b c.toNat (t z.toNat)) (iU t z.toNat c) h (la + 1) ah ∧ zF (lyS a) w w') := by
  obtain ⟨y0, y1, y2, y3⟩ := hy
  obtain ⟨hV1, hV2, hV3, hV4, hV5⟩ := hV
  have F : zF (lyS a) w w := zF.rf
  refine ⟨_, rfl, ?_⟩
  show zw _ _ _ _ 45 0 [some (.ref a), some (iV z), some (iV c)] [] _ _ _ _
  refine zw_aload_n z45_0 rfl ?_
  refine zw_getf z45_1 (by assumption) (by rfl) ?_
  refine zw_iload_n z45_4 rfl ?_
  refine zw_aload_n z45_5 rfl ?_
  refine zw_getf z45_6 (by assumption) (by rfl) ?_
  refine zw_iload_n z45_9 rfl ?_
  refine zj_aldB z45_10 (by assumption) (by omega) (by decide) hV2 (fun v10 e10 r10 => ?_)
  refine zj_astB z45_11 (by assumption) (by omega) (by decide) hV1 (by omega) (fun w11 n11 f11 b11 => ?_)
  have y0_11 := (f11.2 a (by omega)).trans y0
  have y2_11 := (f11.2 (a+2) (by omega)).trans y2
  have y3_11 := (f11.2 (a+3) (by omega)).trans y3
  have F_11 := F.step f11 (by omega)
  refine zw_aload_n z45_12 rfl ?_
  refine zw_getf z45_13 (by assumption) (by rfl) ?_
  refine zw_iload_n z45_16 rfl ?_
  refine zw_iload_n z45_17 rfl ?_
  refine zj_astB z45_18 (by assumption) (by omega) (by decide) hV2 (by omega) (fun w18 n18 f18 b18 => ?_)
  have y0_18 := (f18.2 a (by omega)).trans y0_11
  have y1_18 := (f18.2 (a+1) (by omega)).trans n11
  have y3_18 := (f18.2 (a+3) (by omega)).trans y3_11
  have F_18 := F_11.step f18 (by omega)
  refine zw_aload_n z45_19 rfl ?_
  refine zw_dup z45_20 rfl ?_
  refine zw_getf z45_21 (by assumption) (by rfl) ?_
  refine zw_iconst z45_24 (v := iI 1) rfl ?_
  refine zj_add z45_25 ?_
  refine zj_putf z45_26 (by assumption) (Nat.le_of_ble_eq_true rfl) (by rfl) (fun w26 n26 f26 => ?_)
  have y1_26 := (f26.2 (a+1) (by omega)).trans y1_18
  have y2_26 := (f26.2 (a+2) (by omega)).trans n18
  have y3_26 := (f26.2 (a+3) (by omega)).trans y3_18
  have F_26 := F_18.step f26 (by omega)
  refine zw_vret z45_29 rfl ?_
  subst e10
  exact ⟨_, rfl, rfl, rfl, rfl, ⟨n26, y1_26, y2_26, y3_26⟩, F_26⟩
end ZLW
