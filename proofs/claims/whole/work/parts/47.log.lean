/-! Layout's other writers; the class Log. (Laid out by gen/tpl.py from tpl/47.log.tpl.) -/
section ZLG
variable {L : Nat} {xs : Nat → Int32} {d q a o l : Nat} {w : zi_W} {cn sn : Nat} {G b t h b1 t1 h1 : Nat → Int} {la ah la1 ah1 z y c m : Int}
theorem sp_takeAllUp (hy : lyA w a b t h la ah) (hd : 1 ≤ d) (hq : 23 ≤ q) : zr L xs d q 40 [.ref a] w cn sn (fun r w' cn' sn' => r = none ∧ cn' = cn ∧ sn' = sn ∧ lyA w' a (iFi b 52 (-4)) (iFi t 12 (-1)) (iFi h 4 0) 0 0 ∧ zF (lyS a) w w') := by
  obtain ⟨d, rfl⟩ : ∃ e, d = e + 1 := ⟨d - 1, by omega⟩
  obtain ⟨y0, y1, y2, y3⟩ := hy
  have F : zF (lyS a) w w := zF.rf
  refine ⟨_, rfl, ?_⟩
  show zw _ _ _ _ 40 0 [some (.ref a)] [] _ _ _ _
  refine zw_aload_n z40_0 rfl ?_
  refine zw_getf z40_1 (by assumption) (by rfl) ?_
  refine zw_bipush z40_4 (v := iI (-4)) (by decide +kernel) ?_
  refine zw_cs (n := 4) z40_6 rfl rfl (Nat.le_of_ble_eq_true rfl) (by omega) (sp_fill (by decide) y1) (fun v w1 cn1 sn1 h => ?_)
  obtain ⟨rfl, rfl, rfl, n1, g1⟩ := h
  have y0 := (g1.2 a (by omega)).trans y0
  have y2 := (g1.2 (a + 2) (by omega)).trans y2
  have y3 := (g1.2 (a + 3) (by omega)).trans y3
  have F := F.step g1 (by omega)
  refine zw_aload_n z40_9 rfl ?_
  refine zw_getf z40_10 (by assumption) (by rfl) ?_
  refine zw_iconst z40_13 (v := iI (-1)) rfl ?_
  refine zw_cs (n := 4) z40_14 rfl rfl (Nat.le_of_ble_eq_true rfl) (by omega) (sp_fill (by decide) y2) (fun v w2 cn2 sn2 h => ?_)
  obtain ⟨rfl, rfl, rfl, n2, g2⟩ := h
  have y0 := (g2.2 a (by omega)).trans y0
  have n1 := (g2.2 (a + 1) (by omega)).trans n1
  have y3 := (g2.2 (a + 3) (by omega)).trans y3
  have F := F.step g2 (by omega)
  refine zw_aload_n z40_17 rfl ?_
  refine zw_getf z40_18 (by assumption) (by rfl) ?_
  refine zw_iconst z40_21 (v := iI 0) rfl ?_
  refine zw_cs (n := 4) z40_22 rfl rfl (Nat.le_of_ble_eq_true rfl) (by omega) (sp_fill (by decide) y3) (fun v w3 cn3 sn3 h => ?_)
  obtain ⟨rfl, rfl, rfl, n3, g3⟩ := h
  have y0 := (g3.2 a (by omega)).trans y0
  have n1 := (g3.2 (a + 1) (by omega)).trans n1
  have n2 := (g3.2 (a + 2) (by omega)).trans n2
  have F := F.step g3 (by omega)
  refine zw_aload_n z40_25 rfl ?_
  refine zw_iconst z40_26 (v := iI 0) rfl ?_
  refine zj_putf z40_27 (by assumption) (Nat.le_of_ble_eq_true rfl) (by rfl) (fun w27 n27 f27 => ?_)
  have n1_27 := (f27.2 (a+1) (by omega)).trans n1
  have n2_27 := (f27.2 (a+2) (by omega)).trans n2
  have n3_27 := (f27.2 (a+3) (by omega)).trans n3
  have F_27 := F.step f27 (by omega)
  refine zw_aload_n z40_30 rfl ?_
  refine zw_iconst z40_31 (v := iI 0) rfl ?_
  refine zj_putf z40_32 (by assumption) (Nat.le_of_ble_eq_true rfl) (by rfl) (fun w32 n32 f32 => ?_)
  have n1_32 := (f32.2 (a+1) (by omega)).trans n1_27
  have n2_32 := (f32.2 (a+2) (by omega)).trans n2_27
  have n3_32 := (f32.2 (a+3) (by omega)).trans n3_27
  have F_32 := F_27.step f32 (by omega)
  refine zw_vret z40_35 rfl ?_
  exact ⟨_, rfl, rfl, rfl, rfl, ⟨n32, n1_32, n2_32, n3_32⟩, F_32⟩
theorem sp_becomeLike (hy : lyA w a b t h la ah) (hx : lyA w o b1 t1 h1 la1 ah1) (ho : a + 3 < o ∨ o + 3 < a) (hd : 1 ≤ d) (hq : 26 ≤ q) : zr L xs d q 41 [.ref a, .ref o] w cn sn (fun r w' cn' sn' => r = none ∧ cn' = cn ∧ sn' = sn ∧ lyA w' a (iCp b1 b 52) (iCp t1 t 12) (iCp h1 h 4) la1 ah1 ∧ zF (lyS a) w w') := by
  obtain ⟨y0, y1, y2, y3⟩ := hy
  obtain ⟨x0, x1, x2, x3⟩ := hx
  have F : zF (lyS a) w w := zF.rf
  refine ⟨_, rfl, ?_⟩
  show zw _ _ _ _ 41 0 [some (.ref a), some (.ref o)] [] _ _ _ _
  refine zw_aload_n z41_0 rfl ?_
  refine zw_getf z41_1 (by assumption) (by rfl) ?_
  refine zw_iconst z41_4 (v := iI 0) rfl ?_
  refine zw_aload_n z41_5 rfl ?_
  refine zw_getf z41_6 (by assumption) (by rfl) ?_
  refine zw_iconst z41_9 (v := iI 0) rfl ?_
  refine zw_bipush z41_10 (v := iI (52)) (by decide +kernel) ?_
  refine zj_copy z41_12 (by assumption) (by assumption) (Nat.le_of_ble_eq_true rfl) (by omega) (by omega) (by omega) (fun w12 n12 f12 => ?_)
  have y0_12 := (f12.2 a (by omega)).trans y0
  have y2_12 := (f12.2 (a+2) (by omega)).trans y2
  have y3_12 := (f12.2 (a+3) (by omega)).trans y3
  have x0_12 := (f12.2 o (by omega)).trans x0
  have x1_12 := (f12.2 (o+1) (by omega)).trans x1
  have x2_12 := (f12.2 (o+2) (by omega)).trans x2
  have x3_12 := (f12.2 (o+3) (by omega)).trans x3
  have F_12 := F.step f12 (by omega)
  refine zw_aload_n z41_15 rfl ?_
  refine zw_getf z41_16 (by assumption) (by rfl) ?_
  refine zw_iconst z41_19 (v := iI 0) rfl ?_
  refine zw_aload_n z41_20 rfl ?_
  refine zw_getf z41_21 (by assumption) (by rfl) ?_
  refine zw_iconst z41_24 (v := iI 0) rfl ?_
  refine zw_bipush z41_25 (v := iI (12)) (by decide +kernel) ?_
  refine zj_copy z41_27 (by assumption) (by assumption) (Nat.le_of_ble_eq_true rfl) (by omega) (by omega) (by omega) (fun w27 n27 f27 => ?_)
  have y0_27 := (f27.2 a (by omega)).trans y0_12
  have y1_27 := (f27.2 (a+1) (by omega)).trans n12
  have y3_27 := (f27.2 (a+3) (by omega)).trans y3_12
  have x0_27 := (f27.2 o (by omega)).trans x0_12
  have x1_27 := (f27.2 (o+1) (by omega)).trans x1_12
  have x2_27 := (f27.2 (o+2) (by omega)).trans x2_12
  have x3_27 := (f27.2 (o+3) (by omega)).trans x3_12
  have F_27 := F_12.step f27 (by omega)
  refine zw_aload_n z41_30 rfl ?_
  refine zw_getf z41_31 (by assumption) (by rfl) ?_
  refine zw_iconst z41_34 (v := iI 0) rfl ?_
  refine zw_aload_n z41_35 rfl ?_
  refine zw_getf z41_36 (by assumption) (by rfl) ?_
  refine zw_iconst z41_39 (v := iI 0) rfl ?_
  refine zw_iconst z41_40 (v := iI 4) rfl ?_
  refine zj_copy z41_41 (by assumption) (by assumption) (Nat.le_of_ble_eq_true rfl) (by omega) (by omega) (by omega) (fun w41 n41 f41 => ?_)
  have y0_41 := (f41.2 a (by omega)).trans y0_27
  have y1_41 := (f41.2 (a+1) (by omega)).trans y1_27
  have y2_41 := (f41.2 (a+2) (by omega)).trans n27
  have x0_41 := (f41.2 o (by omega)).trans x0_27
  have x1_41 := (f41.2 (o+1) (by omega)).trans x1_27
  have x2_41 := (f41.2 (o+2) (by omega)).trans x2_27
  have x3_41 := (f41.2 (o+3) (by omega)).trans x3_27
  have F_41 := F_27.step f41 (by omega)
  refine zw_aload_n z41_44 rfl ?_
  refine zw_aload_n z41_45 rfl ?_
  refine zw_getf z41_46 (by assumption) (by rfl) ?_
  refine zj_putf z41_49 (by assumption) (Nat.le_of_ble_eq_true rfl) (by rfl) (fun w49 n49 f49 => ?_)
  have y1_49 := (f49.2 (a+1) (by omega)).trans y1_41
  have y2_49 := (f49.2 (a+2) (by omega)).trans y2_41
  have y3_49 := (f49.2 (a+3) (by omega)).trans n41
  have x0_49 := (f49.2 o (by omega)).trans x0_41
  have x1_49 := (f49.2 (o+1) (by omega)).trans x1_41
  have x2_49 := (f49.2 (o+2) (by omega)).trans x2_41
  have x3_49 := (f49.2 (o+3) (by omega)).trans x3_41
  have F_49 := F_41.step f49 (by omega)
  refine zw_aload_n z41_52 rfl ?_
  refine zw_aload_n z41_53 rfl ?_
  refine zw_getf z41_54 (by assumption) (by rfl) ?_
  refine zj_putf z41_57 (by assumption) (Nat.le_of_ble_eq_true rfl) (by rfl) (fun w57 n57 f57 => ?_)
  have y1_57 := (f57.2 (a+1) (by omega)).trans y1_49
  have y2_57 := (f57.2 (a+2) (by omega)).trans y2_49
  have y3_57 := (f57.2 (a+3) (by omega)).trans y3_49
  have x0_57 := (f57.2 o (by omega)).trans x0_49
  have x1_57 := (f57.2 (o+1) (by omega)).trans x1_49
  have x2_57 := (f57.2 (o+2) (by omega)).trans x2_49
  have x3_57 := (f57.2 (o+3) (by omega)).trans x3_49
  have F_57 := F_49.step f57 (by omega)
  refine zw_vret z41_60 rfl ?_
  exact ⟨_, rfl, rfl, rfl, rfl, ⟨n57, y1_57, y2_57, y3_57⟩, F_57⟩
/-- the log at place l: lowest cards, sources, targets, amounts, the next place, how many -/
def lgA (w : zi_W) (l : Nat) (lo so ta am : Nat → Int) (nx ct : Int) : Prop := zi_get w l = some (.inr (3, [.ref (l + 1), .ref (l + 2), .ref (l + 3), .ref (l + 4), iV nx, iV ct])) ∧ zi_get w (l + 1) = some (.inl (0, 60, .inl (iA lo))) ∧ zi_get w (l + 2) = some (.inl (0, 60, .inl (iA so))) ∧ zi_get w (l + 3) = some (.inl (0, 60, .inl (iA ta))) ∧ zi_get w (l + 4) = some (.inl (0, 60, .inl (iA am)))
def lgV (lo so ta am : Nat → Int) (nx ct : Int) : Prop := (∀ j, 0 ≤ lo j ∧ lo j ≤ 51) ∧ (∀ j, 0 ≤ so j ∧ so j ≤ 12) ∧ (∀ j, 0 ≤ ta j ∧ ta j ≤ 12) ∧ (∀ j, 0 ≤ am j ∧ am j ≤ 13) ∧ (0 ≤ nx ∧ nx < 60) ∧ (0 ≤ ct ∧ ct ≤ 60)
abbrev lgS (l : Nat) : Nat → Prop := fun j => l ≤ j ∧ j ≤ l + 4
variable {lo so ta am : Nat → Int} {nx ct : Int}
theorem sp_forgetAll (hy : lgA w l lo so ta am nx ct) : zr L xs d q 64 [.ref l] w cn sn (fun r w' cn' sn' => r = none ∧ cn' = cn ∧ sn' = sn ∧ lgA w' l lo so ta am 0 0 ∧ zF (lgS l) w w') := by
  obtain ⟨y0, y1, y2, y3, y4⟩ := hy
  have F : zF (lgS l) w w := zF.rf
  refine ⟨_, rfl, ?_⟩
  show zw _ _ _ _ 64 0 [some (.ref l)] [] _ _ _ _
  refine zw_aload_n z64_0 rfl ?_
  refine zw_iconst z64_1 (v := iI 0) rfl ?_
  refine zj_putf z64_2 (by assumption) (Nat.le_of_ble_eq_true rfl) (by rfl) (fun w2 n2 f2 => ?_)
  have y1_2 := (f2.2 (l+1) (by omega)).trans y1
  have y2_2 := (f2.2 (l+2) (by omega)).trans y2
  have y3_2 := (f2.2 (l+3) (by omega)).trans y3
  have y4_2 := (f2.2 (l+4) (by omega)).trans y4
  have F_2 := F.step f2 (by omega)
  refine zw_aload_n z64_5 rfl ?_
  refine zw_iconst z64_6 (v := iI 0) rfl ?_
  refine zj_putf z64_7 (by assumption) (Nat.le_of_ble_eq_true rfl) (by rfl) (fun w7 n7 f7 => ?_)
  have y1_7 := (f7.2 (l+1) (by omega)).trans y1_2
  have y2_7 := (f7.2 (l+2) (by omega)).trans y2_2
  have y3_7 := (f7.2 (l+3) (by omega)).trans y3_2
  have y4_7 := (f7.2 (l+4) (by omega)).trans y4_2
  have F_7 := F_2.step f7 (by omega)
  refine zw_vret z64_10 rfl ?_
  exact ⟨_, rfl, rfl, rfl, rfl, ⟨n7, y1_7, y2_7, y3_7, y4_7⟩, F_7⟩
abbrev lgNx (nx : Int) : Int := if nx + 1 < 60 then nx + 1 else 0
abbrev lgCt (ct : Int) : Int := if 60 < ct + 1 then 60 else ct + 1
theorem lg_fin {w' : zi_W} {lo so ta am : Nat → Int} {nx nx' ct : Int} (y0 : zi_get w' l = some (.inr (3, [.ref (l + 1), .ref (l + 2), .ref (l + 3), .ref (l + 4), iV nx, iV ct]))) (y1 : zi_get w' (l + 1) = some (.inl (0, 60, .inl (iA lo)))) (y2 : zi_get w' (l + 2) = some (.inl (0, 60, .inl (iA so)))) (y3 : zi_get w' (l + 3) = some (.inl (0, 60, .inl (iA ta)))) (y4 : zi_get w' (l + 4) = some (.inl (0, 60, .inl (iA am)))) (e : nx = nx') : lgA w' l lo so ta am nx' ct := by
  subst e
  exact ⟨y0, y1, y2, y3, y4⟩
theorem sp_note (hy : lgA w l lo so ta am nx ct) (hV : lgV lo so ta am nx ct) (hc : 0 ≤ c ∧ c ≤ 51) (hz : 0 ≤ z ∧ z ≤ 12) (hz2 : 0 ≤ y ∧ y ≤ 12) (hm : 0 ≤ m ∧ m ≤ 13) (hd : 1 ≤ d) (hq : 21 ≤ q) : zr L xs d q 65 [.ref l, iV c, iV z, iV y, iV m] w cn sn (fun r w' cn' sn' => r = none ∧ cn' = cn ∧ sn' = sn ∧ lgA w' l (iU lo nx.toNat c) (iU so nx.toNat z) (iU ta nx.toNat y) (iU am nx.toNat m) (lgNx nx) (lgCt ct) ∧ zF (lgS l) w w') := by
  obtain ⟨y0, y1, y2, y3, y4⟩ := hy
  obtain ⟨hV1, hV2, hV3, hV4, hV5, hV6⟩ := hV
  have F : zF (lgS l) w w := zF.rf
  refine ⟨_, rfl, ?_⟩
  show zw _ _ _ _ 65 0 [some (.ref l), some (iV c), some (iV z), some (iV y), some (iV m)] [] _ _ _ _
  refine zw_aload_n z65_0 rfl ?_
  refine zw_getf z65_1 (by assumption) (by rfl) ?_
  refine zw_aload_n z65_4 rfl ?_
  refine zw_getf z65_5 (by assumption) (by rfl) ?_
  refine zw_iload_n z65_8 rfl ?_
  refine zj_astB z65_9 (by assumption) (by omega) (by decide) hV1 (by omega) (fun w9 n9 f9 b9 => ?_)
  have y0_9 := (f9.2 l (by omega)).trans y0
  have y2_9 := (f9.2 (l+2) (by omega)).trans y2
  have y3_9 := (f9.2 (l+3) (by omega)).trans y3
  have y4_9 := (f9.2 (l+4) (by omega)).trans y4
  have F_9 := F.step f9 (by omega)
  refine zw_aload_n z65_10 rfl ?_
  refine zw_getf z65_11 (by assumption) (by rfl) ?_
  refine zw_aload_n z65_14 rfl ?_
  refine zw_getf z65_15 (by assumption) (by rfl) ?_
  refine zw_iload_n z65_18 rfl ?_
  refine zj_astB z65_19 (by assumption) (by omega) (by decide) hV2 (by omega) (fun w19 n19 f19 b19 => ?_)
  have y0_19 := (f19.2 l (by omega)).trans y0_9
  have y1_19 := (f19.2 (l+1) (by omega)).trans n9
  have y3_19 := (f19.2 (l+3) (by omega)).trans y3_9
  have y4_19 := (f19.2 (l+4) (by omega)).trans y4_9
  have F_19 := F_9.step f19 (by omega)
  refine zw_aload_n z65_20 rfl ?_
  refine zw_getf z65_21 (by assumption) (by rfl) ?_
  refine zw_aload_n z65_24 rfl ?_
  refine zw_getf z65_25 (by assumption) (by rfl) ?_
  refine zw_iload_n z65_28 rfl ?_
  refine zj_astB z65_29 (by assumption) (by omega) (by decide) hV3 (by omega) (fun w29 n29 f29 b29 => ?_)
  have y0_29 := (f29.2 l (by omega)).trans y0_19
  have y1_29 := (f29.2 (l+1) (by omega)).trans y1_19
  have y2_29 := (f29.2 (l+2) (by omega)).trans n19
  have y4_29 := (f29.2 (l+4) (by omega)).trans y4_19
  have F_29 := F_19.step f29 (by omega)
  refine zw_aload_n z65_30 rfl ?_
  refine zw_getf z65_31 (by assumption) (by rfl) ?_
  refine zw_aload_n z65_34 rfl ?_
  refine zw_getf z65_35 (by assumption) (by rfl) ?_
  refine zw_iload z65_38 rfl ?_
  refine zj_astB z65_40 (by assumption) (by omega) (by decide) hV4 (by omega) (fun w40 n40 f40 b40 => ?_)
  have y0_40 := (f40.2 l (by omega)).trans y0_29
  have y1_40 := (f40.2 (l+1) (by omega)).trans y1_29
  have y2_40 := (f40.2 (l+2) (by omega)).trans y2_29
  have y3_40 := (f40.2 (l+3) (by omega)).trans n29
  have F_40 := F_29.step f40 (by omega)
  refine zw_aload_n z65_41 rfl ?_
  refine zw_aload_n z65_42 rfl ?_
  refine zw_getf z65_43 (by assumption) (by rfl) ?_
  refine zw_iconst z65_46 (v := iI 1) rfl ?_
  refine zj_add z65_47 ?_
  refine zw_bipush z65_48 (v := iI (60)) (by decide +kernel) ?_
  refine zj_icmp_ge z65_50 (by omega) (by omega) (fun h50 => ?_) (fun h50 => ?_)
  · refine zw_iconst z65_62 (v := iI 0) rfl ?_
    refine zj_putf z65_63 (by assumption) (Nat.le_of_ble_eq_true rfl) (by rfl) (fun w63 n63 f63 => ?_)
    have y1_63 := (f63.2 (l+1) (by omega)).trans y1_40
    have y2_63 := (f63.2 (l+2) (by omega)).trans y2_40
    have y3_63 := (f63.2 (l+3) (by omega)).trans y3_40
    have y4_63 := (f63.2 (l+4) (by omega)).trans n40
    have F_63 := F_40.step f63 (by omega)
    refine zw_aload_n z65_66 rfl ?_
    refine zw_aload_n z65_67 rfl ?_
    refine zw_getf z65_68 (by assumption) (by rfl) ?_
    refine zw_iconst z65_71 (v := iI 1) rfl ?_
    refine zj_add z65_72 ?_
    refine zw_bipush z65_73 (v := iI (60)) (by decide +kernel) ?_
    refine zj_min z65_75 (Nat.le_of_ble_eq_true rfl) (by omega) (by omega) (by omega) (by omega) ?_
    refine zj_putf z65_78 (by assumption) (Nat.le_of_ble_eq_true rfl) (by rfl) (fun w78 n78 f78 => ?_)
    have y1_78 := (f78.2 (l+1) (by omega)).trans y1_63
    have y2_78 := (f78.2 (l+2) (by omega)).trans y2_63
    have y3_78 := (f78.2 (l+3) (by omega)).trans y3_63
    have y4_78 := (f78.2 (l+4) (by omega)).trans y4_63
    have F_78 := F_63.step f78 (by omega)
    refine zw_vret z65_81 rfl ?_
    exact ⟨_, rfl, rfl, rfl, rfl, lg_fin n78 y1_78 y2_78 y3_78 y4_78 (by unfold lgNx; first | rw [if_pos (by omega)] | rw [if_neg (by omega)]), F_78⟩
  · refine zw_aload_n z65_53 rfl ?_
    refine zw_getf z65_54 (by assumption) (by rfl) ?_
    refine zw_iconst z65_57 (v := iI 1) rfl ?_
    refine zj_add z65_58 ?_
    refine zw_goto z65_59 ?_
    refine zj_putf z65_63 (by assumption) (Nat.le_of_ble_eq_true rfl) (by rfl) (fun w63 n63 f63 => ?_)
    have y1_63 := (f63.2 (l+1) (by omega)).trans y1_40
    have y2_63 := (f63.2 (l+2) (by omega)).trans y2_40
    have y3_63 := (f63.2 (l+3) (by omega)).trans y3_40
    have y4_63 := (f63.2 (l+4) (by omega)).trans n40
    have F_63 := F_40.step f63 (by omega)
    refine zw_aload_n z65_66 rfl ?_
    refine zw_aload_n z65_67 rfl ?_
    refine zw_getf z65_68 (by assumption) (by rfl) ?_
    refine zw_iconst z65_71 (v := iI 1) rfl ?_
    refine zj_add z65_72 ?_
    refine zw_bipush z65_73 (v := iI (60)) (by decide +kernel) ?_
    refine zj_min z65_75 (Nat.le_of_ble_eq_true rfl) (by omega) (by omega) (by omega) (by omega) ?_
    refine zj_putf z65_78 (by assumption) (Nat.le_of_ble_eq_true rfl) (by rfl) (fun w78 n78 f78 => ?_)
    have y1_78 := (f78.2 (l+1) (by omega)).trans y1_63
    have y2_78 := (f78.2 (l+2) (by omega)).trans y2_63
    have y3_78 := (f78.2 (l+3) (by omega)).trans y3_63
    have y4_78 := (f78.2 (l+4) (by omega)).trans y4_63
    have F_78 := F_63.step f78 (by omega)
    refine zw_vret z65_81 rfl ?_
    exact ⟨_, rfl, rfl, rfl, rfl, lg_fin n78 y1_78 y2_78 y3_78 y4_78 (by unfold lgNx; first | rw [if_pos (by omega)] | rw [if_neg (by omega)]), F_78⟩
abbrev lgPv (nx : Int) : Int := if 0 < nx then nx - 1 else 59
theorem sp_takeLatest (hy : lgA w l lo so ta am nx ct) (hV : lgV lo so ta am nx ct) : zr L xs d q 66 [.ref l] w cn sn (fun r w' cn' sn' => r = some (iV (lgPv nx)) ∧ cn' = cn ∧ sn' = sn ∧ lgA w' l lo so ta am (lgPv nx) (ct - 1) ∧ zF (lgS l) w w') := by
  obtain ⟨y0, y1, y2, y3, y4⟩ := hy
  obtain ⟨hV1, hV2, hV3, hV4, hV5, hV6⟩ := hV
  have F : zF (lgS l) w w := zF.rf
  refine ⟨_, rfl, ?_⟩
  show zw _ _ _ _ 66 0 [some (.ref l)] [] _ _ _ _
  refine zw_aload_n z66_0 rfl ?_
  refine zw_aload_n z66_1 rfl ?_
  refine zw_getf z66_2 (by assumption) (by rfl) ?_
  refine zj_if_le z66_5 (by omega) (fun h5 => ?_) (fun h5 => ?_)
  · refine zw_bipush z66_17 (v := iI (59)) (by decide +kernel) ?_
    refine zj_putf z66_19 (by assumption) (Nat.le_of_ble_eq_true rfl) (by rfl) (fun w19 n19 f19 => ?_)
    have y1_19 := (f19.2 (l+1) (by omega)).trans y1
    have y2_19 := (f19.2 (l+2) (by omega)).trans y2
    have y3_19 := (f19.2 (l+3) (by omega)).trans y3
    have y4_19 := (f19.2 (l+4) (by omega)).trans y4
    have F_19 := F.step f19 (by omega)
    refine zw_aload_n z66_22 rfl ?_
    refine zw_dup z66_23 rfl ?_
    refine zw_getf z66_24 (by assumption) (by rfl) ?_
    refine zw_iconst z66_27 (v := iI 1) rfl ?_
    refine zj_sub z66_28 ?_
    refine zj_putf z66_29 (by assumption) (Nat.le_of_ble_eq_true rfl) (by rfl) (fun w29 n29 f29 => ?_)
    have y1_29 := (f29.2 (l+1) (by omega)).trans y1_19
    have y2_29 := (f29.2 (l+2) (by omega)).trans y2_19
    have y3_29 := (f29.2 (l+3) (by omega)).trans y3_19
    have y4_29 := (f29.2 (l+4) (by omega)).trans y4_19
    have F_29 := F_19.step f29 (by omega)
    refine zw_aload_n z66_32 rfl ?_
    refine zw_getf z66_33 (by assumption) (by rfl) ?_
    refine zw_iret z66_36 rfl ?_
    first | (have e9 : lgPv nx = nx - 1 := if_pos (by omega)) | (have e9 : lgPv nx = 59 := if_neg (by omega))
    exact ⟨_, rfl, by rw [e9], rfl, rfl, by rw [e9]; exact ⟨n29, y1_29, y2_29, y3_29, y4_29⟩, F_29⟩
  · refine zw_aload_n z66_8 rfl ?_
    refine zw_getf z66_9 (by assumption) (by rfl) ?_
    refine zw_iconst z66_12 (v := iI 1) rfl ?_
    refine zj_sub z66_13 ?_
    refine zw_goto z66_14 ?_
    refine zj_putf z66_19 (by assumption) (Nat.le_of_ble_eq_true rfl) (by rfl) (fun w19 n19 f19 => ?_)
    have y1_19 := (f19.2 (l+1) (by omega)).trans y1
    have y2_19 := (f19.2 (l+2) (by omega)).trans y2
    have y3_19 := (f19.2 (l+3) (by omega)).trans y3
    have y4_19 := (f19.2 (l+4) (by omega)).trans y4
    have F_19 := F.step f19 (by omega)
    refine zw_aload_n z66_22 rfl ?_
    refine zw_dup z66_23 rfl ?_
    refine zw_getf z66_24 (by assumption) (by rfl) ?_
    refine zw_iconst z66_27 (v := iI 1) rfl ?_
    refine zj_sub z66_28 ?_
    refine zj_putf z66_29 (by assumption) (Nat.le_of_ble_eq_true rfl) (by rfl) (fun w29 n29 f29 => ?_)
    have y1_29 := (f29.2 (l+1) (by omega)).trans y1_19
    have y2_29 := (f29.2 (l+2) (by omega)).trans y2_19
    have y3_29 := (f29.2 (l+3) (by omega)).trans y3_19
    have y4_29 := (f29.2 (l+4) (by omega)).trans y4_19
    have F_29 := F_19.step f29 (by omega)
    refine zw_aload_n z66_32 rfl ?_
    refine zw_getf z66_33 (by assumption) (by rfl) ?_
    refine zw_iret z66_36 rfl ?_
    first | (have e9 : lgPv nx = nx - 1 := if_pos (by omega)) | (have e9 : lgPv nx = 59 := if_neg (by omega))
    exact ⟨_, rfl, by rw [e9], rfl, rfl, by rw [e9]; exact ⟨n29, y1_29, y2_29, y3_29, y4_29⟩, F_29⟩
end ZLG
