/-! The class Layout: methods that only read, without loops. (Laid out by gen/tpl.py from tpl/41.layout.tpl.) -/
section ZJB
variable {L : Nat} {xs : Nat → Int32} {d q k pc p t : Nat} {ls : zi_L} {st : List Value} {w : zi_W} {cn sn : Nat} {Q : zi_O → zi_W → Nat → Nat → Prop}
theorem zj_aldB {r n : Nat} {z lo hi : Int} {f : Nat → Int} (hc : za k pc .iaload p) (hg : zi_get w r = some (.inl (0, n, .inl (iA f)))) (hj : 0 ≤ z ∧ z < n) (hn : n ≤ 2147483647) (hB : ∀ j, lo ≤ f j ∧ f j ≤ hi) (kk : ∀ v, v = f z.toNat → lo ≤ v ∧ v ≤ hi → zw L xs d q k p ls (iV v :: st) w cn sn Q) : zw L xs d q k pc ls (iV z :: .ref r :: st) w cn sn Q :=
  zj_ald hc hg hj hn (kk _ rfl (hB _))
end ZJB
/-- the layout at place a: what cards lie on, tops, ranks at home, how many are laid, how many are at home -/
def lyA (w : zi_W) (a : Nat) (b t h : Nat → Int) (la ah : Int) : Prop := zi_get w a = some (.inr (2, [.ref 1, .ref (a + 1), .ref (a + 2), .ref (a + 3), iV la, iV ah])) ∧ zi_get w (a + 1) = some (.inl (0, 52, .inl (iA b))) ∧ zi_get w (a + 2) = some (.inl (0, 12, .inl (iA t))) ∧ zi_get w (a + 3) = some (.inl (0, 4, .inl (iA h)))
def lyV (b t h : Nat → Int) (la ah : Int) : Prop := (∀ j, -4 ≤ b j ∧ b j ≤ 51) ∧ (∀ j, -1 ≤ t j ∧ t j ≤ 51) ∧ (∀ j, 0 ≤ h j ∧ h j ≤ 13) ∧ (0 ≤ la ∧ la ≤ 52) ∧ (0 ≤ ah ∧ ah ≤ 52)
section ZLY
variable {d q a : Nat} {w : zi_W} {G b t h : Nat → Int} {la ah z c : Int}
theorem sp_isLaid (hy : lyA w a b t h la ah) (hV : lyV b t h la ah) (hc : 0 ≤ c ∧ c < 52) : zv d q 42 [.ref a, iV c] w (iI (b2 (b c.toNat ≠ -4))) := by
  intro L xs cn sn
  obtain ⟨y0, y1, y2, y3⟩ := hy
  obtain ⟨hV1, hV2, hV3, hV4, hV5⟩ := hV
  refine ⟨_, rfl, ?_⟩
  show zw _ _ _ _ 42 0 [some (.ref a), some (iV c)] [] _ _ _ _
  refine zw_aload_n z42_0 rfl ?_
  refine zw_getf z42_1 (by assumption) (by rfl) ?_
  refine zw_iload_n z42_4 rfl ?_
  refine zj_aldB z42_5 (by assumption) (by omega) (by decide) hV1 (fun v5 e5 r5 => ?_)
  refine zw_bipush z42_6 (v := iI (-4)) (by decide +kernel) ?_
  refine zj_icmp_eq z42_8 (by omega) (by omega) (fun h8 => ?_) (fun h8 => ?_)
  · refine zw_iconst z42_15 (v := iI 0) rfl ?_
    refine zj_bret z42_16 rfl (by first | exact b2_r | omega) ?_
    exact zv_end (by first | rw [b2_t (by omega)] | rw [b2_f (by omega)])
  · refine zw_iconst z42_11 (v := iI 1) rfl ?_
    refine zw_goto z42_12 ?_
    refine zj_bret z42_16 rfl (by first | exact b2_r | omega) ?_
    exact zv_end (by first | rw [b2_t (by omega)] | rw [b2_f (by omega)])
theorem sp_isAllLaid (hg : gmA w 1 G) (hG : gmV G) (hy : lyA w a b t h la ah) (hV : lyV b t h la ah) (hd : 1 ≤ d) (hq : 20 ≤ q) : zv d q 43 [.ref a] w (iI (b2 (la = gAll G))) := by
  intro L xs cn sn
  obtain ⟨d, rfl⟩ : ∃ e, d = e + 1 := ⟨d - 1, by omega⟩
  have hg' := hg
  unfold gmA at hg'
  have hA := gAll_rng hG
  obtain ⟨y0, y1, y2, y3⟩ := hy
  obtain ⟨hV1, hV2, hV3, hV4, hV5⟩ := hV
  refine ⟨_, rfl, ?_⟩
  show zw _ _ _ _ 43 0 [some (.ref a)] [] _ _ _ _
  refine zw_aload_n z43_0 rfl ?_
  refine zw_getf z43_1 (by assumption) (by rfl) ?_
  refine zw_aload_n z43_4 rfl ?_
  refine zw_getf z43_5 (by assumption) (by rfl) ?_
  refine zw_vv (n := 1) z43_8 rfl rfl (by assumption) (Nat.le_of_ble_eq_true rfl) (by omega) (sp_cardCount hg) ?_
  refine zj_icmp_ne z43_11 (by omega) (by omega) (fun h11 => ?_) (fun h11 => ?_)
  · refine zw_iconst z43_18 (v := iI 0) rfl ?_
    refine zj_bret z43_19 rfl (by first | exact b2_r | omega) ?_
    exact zv_end (by first | rw [b2_t (by omega)] | rw [b2_f (by omega)])
  · refine zw_iconst z43_14 (v := iI 1) rfl ?_
    refine zw_goto z43_15 ?_
    refine zj_bret z43_19 rfl (by first | exact b2_r | omega) ?_
    exact zv_end (by first | rw [b2_t (by omega)] | rw [b2_f (by omega)])
theorem sp_isAllHome (hg : gmA w 1 G) (hG : gmV G) (hy : lyA w a b t h la ah) (hV : lyV b t h la ah) (hd : 1 ≤ d) (hq : 20 ≤ q) : zv d q 44 [.ref a] w (iI (b2 (ah = gAll G))) := by
  intro L xs cn sn
  obtain ⟨d, rfl⟩ : ∃ e, d = e + 1 := ⟨d - 1, by omega⟩
  have hg' := hg
  unfold gmA at hg'
  have hA := gAll_rng hG
  obtain ⟨y0, y1, y2, y3⟩ := hy
  obtain ⟨hV1, hV2, hV3, hV4, hV5⟩ := hV
  refine ⟨_, rfl, ?_⟩
  show zw _ _ _ _ 44 0 [some (.ref a)] [] _ _ _ _
  refine zw_aload_n z44_0 rfl ?_
  refine zw_getf z44_1 (by assumption) (by rfl) ?_
  refine zw_aload_n z44_4 rfl ?_
  refine zw_getf z44_5 (by assumption) (by rfl) ?_
  refine zw_vv (n := 1) z44_8 rfl rfl (by assumption) (Nat.le_of_ble_eq_true rfl) (by omega) (sp_cardCount hg) ?_
  refine zj_icmp_ne z44_11 (by omega) (by omega) (fun h11 => ?_) (fun h11 => ?_)
  · refine zw_iconst z44_18 (v := iI 0) rfl ?_
    refine zj_bret z44_19 rfl (by first | exact b2_r | omega) ?_
    exact zv_end (by first | rw [b2_t (by omega)] | rw [b2_f (by omega)])
  · refine zw_iconst z44_14 (v := iI 1) rfl ?_
    refine zw_goto z44_15 ?_
    refine zj_bret z44_19 rfl (by first | exact b2_r | omega) ?_
    exact zv_end (by first | rw [b2_t (by omega)] | rw [b2_f (by omega)])
/-- the top card of suit z at home -/
abbrev lTop (G h : Nat → Int) (z : Int) : Int := if z < G 4 ∧ h z.toNat ≠ 0 then G 4 * (h z.toNat - 1) + z else -1
theorem sp_topAtHome (hg : gmA w 1 G) (hG : gmV G) (hy : lyA w a b t h la ah) (hV : lyV b t h la ah) (hz : 0 ≤ z ∧ z < 2147483648) : zv d q 48 [.ref a, iV z] w (iI (lTop G h z)) := by
  intro L xs cn sn
  have hg' := hg
  unfold gmA at hg'
  unfold gmV at hG
  obtain ⟨y0, y1, y2, y3⟩ := hy
  obtain ⟨hV1, hV2, hV3, hV4, hV5⟩ := hV
  refine ⟨_, rfl, ?_⟩
  show zw _ _ _ _ 48 0 [some (.ref a), some (iV z)] [] _ _ _ _
  refine zw_iload_n z48_0 rfl ?_
  refine zw_aload_n z48_1 rfl ?_
  refine zw_getf z48_2 (by assumption) (by rfl) ?_
  refine zw_getf z48_5 (by assumption) (by rfl) ?_
  refine zj_icmp_ge z48_8 (by omega) (by omega) (fun h8 => ?_) (fun h8 => ?_)
  · refine zw_iconst z48_20 (v := iI (-1)) rfl ?_
    refine zw_iret z48_21 rfl ?_
    exact zv_end (by first | rw [show lTop G h z = _ from if_neg (by omega)] | (rw [show lTop G h z = _ from if_pos (by omega), ← e34]))
  · refine zw_aload_n z48_11 rfl ?_
    refine zw_getf z48_12 (by assumption) (by rfl) ?_
    refine zw_iload_n z48_15 rfl ?_
    refine zj_aldB z48_16 (by assumption) (by omega) (by decide) hV3 (fun v16 e16 r16 => ?_)
    refine zj_if_ne z48_17 (by omega) (fun h17 => ?_) (fun h17 => ?_)
    · refine zw_aload_n z48_22 rfl ?_
      refine zw_getf z48_23 (by assumption) (by rfl) ?_
      refine zw_getf z48_26 (by assumption) (by rfl) ?_
      refine zw_aload_n z48_29 rfl ?_
      refine zw_getf z48_30 (by assumption) (by rfl) ?_
      refine zw_iload_n z48_33 rfl ?_
      refine zj_aldB z48_34 (by assumption) (by omega) (by decide) hV3 (fun v34 e34 r34 => ?_)
      refine zw_iconst z48_35 (v := iI 1) rfl ?_
      refine zj_sub z48_36 ?_
      refine zj_mul z48_37 ?_
      refine zw_iload_n z48_38 rfl ?_
      refine zj_add z48_39 ?_
      refine zw_iret z48_40 rfl ?_
      exact zv_end (by first | rw [show lTop G h z = _ from if_neg (by omega)] | (rw [show lTop G h z = _ from if_pos (by omega), ← e34]))
    · refine zw_iconst z48_20 (v := iI (-1)) rfl ?_
      refine zw_iret z48_21 rfl ?_
      exact zv_end (by first | rw [show lTop G h z = _ from if_neg (by omega)] | (rw [show lTop G h z = _ from if_pos (by omega), ← e34]))
abbrev lBears (G t : Nat → Int) (z c : Int) : Prop := if t z.toNat = -1 then gEmp G c else gFit G c (t z.toNat)
theorem sp_bears (hg : gmA w 1 G) (hG : gmV G) (hy : lyA w a b t h la ah) (hV : lyV b t h la ah) (hz : 0 ≤ z ∧ z < 12) (hc : 0 ≤ c ∧ c < 52) (hd : 2 ≤ d) (hq : 43 ≤ q) : zv d q 52 [.ref a, iV z, iV c] w (iI (b2 (lBears G t z c))) := by
  intro L xs cn sn
  obtain ⟨d, rfl⟩ : ∃ e, d = e + 1 := ⟨d - 1, by omega⟩
  have hg' := hg
  unfold gmA at hg'
  obtain ⟨y0, y1, y2, y3⟩ := hy
  obtain ⟨hV1, hV2, hV3, hV4, hV5⟩ := hV
  refine ⟨_, rfl, ?_⟩
  show zw _ _ _ _ 52 0 [some (.ref a), some (iV z), some (iV c)] [] _ _ _ _
  refine zw_aload_n z52_0 rfl ?_
  refine zw_getf z52_1 (by assumption) (by rfl) ?_
  refine zw_iload_n z52_4 rfl ?_
  refine zj_aldB z52_5 (by assumption) (by omega) (by decide) hV2 (fun v5 e5 r5 => ?_)
  refine zw_iconst z52_6 (v := iI (-1)) rfl ?_
  refine zj_icmp_ne z52_7 (by omega) (by omega) (fun h7 => ?_) (fun h7 => ?_)
  · refine zw_aload_n z52_21 rfl ?_
    refine zw_getf z52_22 (by assumption) (by rfl) ?_
    refine zw_iload_n z52_25 rfl ?_
    refine zw_aload_n z52_26 rfl ?_
    refine zw_getf z52_27 (by assumption) (by rfl) ?_
    refine zw_iload_n z52_30 rfl ?_
    refine zj_aldB z52_31 (by assumption) (by omega) (by decide) hV2 (fun v31 e31 r31 => ?_)
    refine zw_vv (n := 3) z52_32 rfl rfl (by assumption) (Nat.le_of_ble_eq_true rfl) (by omega) (sp_fitsOn hg hG (by omega) (by omega) (by omega) (by omega)) ?_
    refine zj_bret z52_35 rfl (by first | exact b2_r | omega) ?_
    exact zv_end (by congr 1; apply b2_c; unfold lBears; first | (rw [if_pos (by omega)]) | (rw [if_neg (by omega), ← e31]))
  · refine zw_aload_n z52_10 rfl ?_
    refine zw_getf z52_11 (by assumption) (by rfl) ?_
    refine zw_iload_n z52_14 rfl ?_
    refine zw_vv (n := 2) z52_15 rfl rfl (by assumption) (Nat.le_of_ble_eq_true rfl) (by omega) (sp_fitsInEmpty hg hG (by omega) (by omega) (by omega)) ?_
    refine zw_goto z52_18 ?_
    refine zj_bret z52_35 rfl (by first | exact b2_r | omega) ?_
    exact zv_end (by congr 1; apply b2_c; unfold lBears; first | (rw [if_pos (by omega)]) | (rw [if_neg (by omega), ← e31]))
abbrev lMay (G h : Nat → Int) (c : Int) : Prop := gRank G c = h (gSuit G c).toNat + 1
theorem sp_mayGoHome (hg : gmA w 1 G) (hG : gmV G) (hy : lyA w a b t h la ah) (hV : lyV b t h la ah) (hc : 0 ≤ c ∧ c < 52) (hd : 1 ≤ d) (hq : 21 ≤ q) : zv d q 57 [.ref a, iV c] w (iI (b2 (lMay G h c))) := by
  intro L xs cn sn
  obtain ⟨d, rfl⟩ : ∃ e, d = e + 1 := ⟨d - 1, by omega⟩
  have hg' := hg
  unfold gmA at hg'
  have r1 := gRank_rng hG hc
  have s1 := gSuit_rng (c := c) hG
  obtain ⟨y0, y1, y2, y3⟩ := hy
  obtain ⟨hV1, hV2, hV3, hV4, hV5⟩ := hV
  refine ⟨_, rfl, ?_⟩
  show zw _ _ _ _ 57 0 [some (.ref a), some (iV c)] [] _ _ _ _
  refine zw_aload_n z57_0 rfl ?_
  refine zw_getf z57_1 (by assumption) (by rfl) ?_
  refine zw_iload_n z57_4 rfl ?_
  refine zw_vv (n := 2) z57_5 rfl rfl (by assumption) (Nat.le_of_ble_eq_true rfl) (by omega) (sp_rankOf hg hG (by omega)) ?_
  refine zw_aload_n z57_8 rfl ?_
  refine zw_getf z57_9 (by assumption) (by rfl) ?_
  refine zw_aload_n z57_12 rfl ?_
  refine zw_getf z57_13 (by assumption) (by rfl) ?_
  refine zw_iload_n z57_16 rfl ?_
  refine zw_vv (n := 2) z57_17 rfl rfl (by assumption) (Nat.le_of_ble_eq_true rfl) (by omega) (sp_suitOf hg hG (by omega)) ?_
  refine zj_aldB z57_20 (by assumption) (by omega) (by decide) hV3 (fun v20 e20 r20 => ?_)
  refine zw_iconst z57_21 (v := iI 1) rfl ?_
  refine zj_add z57_22 ?_
  refine zj_icmp_ne z57_23 (by omega) (by omega) (fun h23 => ?_) (fun h23 => ?_)
  · refine zw_iconst z57_30 (v := iI 0) rfl ?_
    refine zj_bret z57_31 rfl (by first | exact b2_r | omega) ?_
    exact zv_end (by first | rw [b2_t (by omega)] | rw [b2_f (by omega)])
  · refine zw_iconst z57_26 (v := iI 1) rfl ?_
    refine zw_goto z57_27 ?_
    refine zj_bret z57_31 rfl (by first | exact b2_r | omega) ?_
    exact zv_end (by first | rw [b2_t (by omega)] | rw [b2_f (by omega)])
abbrev lGrd (t : Nat → Int) (z : Int) : Int := if z = 12 then -3 else if 8 ≤ z then -2 else t z.toNat
theorem sp_groundAt (hy : lyA w a b t h la ah) (hV : lyV b t h la ah) (hz : 0 ≤ z ∧ z ≤ 12) : zv d q 61 [.ref a, iV z] w (iI (lGrd t z)) := by
  intro L xs cn sn
  obtain ⟨y0, y1, y2, y3⟩ := hy
  obtain ⟨hV1, hV2, hV3, hV4, hV5⟩ := hV
  refine ⟨_, rfl, ?_⟩
  show zw _ _ _ _ 61 0 [some (.ref a), some (iV z)] [] _ _ _ _
  refine zw_iload_n z61_0 rfl ?_
  refine zw_bipush z61_1 (v := iI (12)) (by decide +kernel) ?_
  refine zj_icmp_ne z61_3 (by omega) (by omega) (fun h3 => ?_) (fun h3 => ?_)
  · refine zw_iload_n z61_9 rfl ?_
    refine zw_bipush z61_10 (v := iI (8)) (by decide +kernel) ?_
    refine zj_icmp_lt z61_12 (by omega) (by omega) (fun h12 => ?_) (fun h12 => ?_)
    · refine zw_aload_n z61_20 rfl ?_
      refine zw_getf z61_21 (by assumption) (by rfl) ?_
      refine zw_iload_n z61_24 rfl ?_
      refine zj_aldB z61_25 (by assumption) (by omega) (by decide) hV2 (fun v25 e25 r25 => ?_)
      refine zw_iret z61_26 rfl ?_
      exact zv_end (by unfold lGrd; first | rw [if_pos (by omega)] | rw [if_neg (by omega), if_pos (by omega)] | (rw [if_neg (by omega), if_neg (by omega), e25]))
    · refine zw_bipush z61_15 (v := iI (-2)) (by decide +kernel) ?_
      refine zw_goto z61_17 ?_
      refine zw_iret z61_26 rfl ?_
      exact zv_end (by unfold lGrd; first | rw [if_pos (by omega)] | rw [if_neg (by omega), if_pos (by omega)] | (rw [if_neg (by omega), if_neg (by omega), e25]))
  · refine zw_bipush z61_6 (v := iI (-3)) (by decide +kernel) ?_
    refine zw_iret z61_8 rfl ?_
    exact zv_end (by unfold lGrd; first | rw [if_pos (by omega)] | rw [if_neg (by omega), if_pos (by omega)] | (rw [if_neg (by omega), if_neg (by omega), e25]))
end ZLY
