/-! The reference: its state, its readers. (Laid out by gen/tpl.py from tpl/60.model.tpl.) -/
/-- G rules and cards; N 0 thrown, 1 logs, 2 hinted, 3 seen, 4 count, 5 depth, 6 more, 7 won, 8 taken, 9 grounds; A 0 column, 1 height, 2 cell, 3 home, 4 lies, 5 rest, 6 log, 7 row, 8 sum, 9 good, 10 begins, 11 homeOf, 12 covered -/
def moA (w : zi_W) (G N : Nat → Int) (A : Nat → Nat → Int) : Prop := zi_get w 817 = some (.inr (5, [iV (N 0), iV (G 0), iV (G 1), iV (G 2), iV (G 3), iV (G 4), iV (G 5), .ref 818, .ref 819, .ref 820, .ref 821, .ref 822, .ref 823, iV (N 1), .ref 824, iV (N 2), iV (N 3), .ref 825, .ref 826, .ref 827, .ref 828, iV (N 4), iV (N 5), iV (N 6), iV (N 7), .ref 829, iV (N 8), iV (N 9), .ref 830])) ∧ zi_get w 818 = some (.inl (0, 416, .inl (iA (A 0)))) ∧ zi_get w 819 = some (.inl (0, 8, .inl (iA (A 1)))) ∧ zi_get w 820 = some (.inl (0, 4, .inl (iA (A 2)))) ∧ zi_get w 821 = some (.inl (0, 4, .inl (iA (A 3)))) ∧ zi_get w 822 = some (.inl (1, 52, .inl (iA (A 4)))) ∧ zi_get w 823 = some (.inl (0, 52, .inl (iA (A 5)))) ∧ zi_get w 824 = some (.inl (0, 240, .inl (iA (A 6)))) ∧ zi_get w 825 = some (.inl (0, 10504, .inl (iA (A 7)))) ∧ zi_get w 826 = some (.inl (0, 202, .inl (iA (A 8)))) ∧ zi_get w 827 = some (.inl (1, 202, .inl (iA (A 9)))) ∧ zi_get w 828 = some (.inl (0, 210, .inl (iA (A 10)))) ∧ zi_get w 829 = some (.inl (0, 4, .inl (iA (A 11)))) ∧ zi_get w 830 = some (.inl (1, 52, .inl (iA (A 12))))
def mtV (A : Nat → Nat → Int) : Prop := (∀ j, 0 ≤ A 0 j ∧ A 0 j ≤ 51) ∧ (∀ j, 0 ≤ A 1 j ∧ A 1 j ≤ 52) ∧ (∀ j, -1 ≤ A 2 j ∧ A 2 j ≤ 51) ∧ (∀ j, 0 ≤ A 3 j ∧ A 3 j ≤ 13) ∧ (∀ j, 0 ≤ A 4 j ∧ A 4 j ≤ 1) ∧ (∀ j, 0 ≤ A 5 j ∧ A 5 j ≤ 51)
abbrev moS : Nat → Prop := fun j => 817 ≤ j ∧ j ≤ 830
section ZMO
variable {L : Nat} {xs : Nat → Int32} {d q : Nat} {w : zi_W} {cn sn : Nat} {Q : zi_O → zi_W → Nat → Nat → Prop} {G N : Nat → Int} {A : Nat → Nat → Int} {z y m c o a b e k : Int}
theorem sp_mWithin (hz : iR z) (ha : iR a) (hb : iR b) : zv d q 79 [iV z, iV a, iV b] w (iI (b2 (a ≤ z ∧ z ≤ b))) := by
  intro L xs cn sn
  refine ⟨_, rfl, ?_⟩
  show zw _ _ _ _ 79 0 [some (iV z), some (iV a), some (iV b)] [] _ _ _ _
  refine zw_iload_n z79_0 rfl ?_
  refine zw_iload_n z79_1 rfl ?_
  refine zj_icmp_lt z79_2 (by omega) (by omega) (fun h2 => ?_) (fun h2 => ?_)
  · refine zw_iconst z79_14 (v := iI 0) rfl ?_
    refine zj_bret z79_15 rfl (by first | exact b2_r | omega) ?_
    exact zv_end (by first | rw [b2_t (by omega)] | rw [b2_f (by omega)])
  · refine zw_iload_n z79_5 rfl ?_
    refine zw_iload_n z79_6 rfl ?_
    refine zj_icmp_gt z79_7 (by omega) (by omega) (fun h7 => ?_) (fun h7 => ?_)
    · refine zw_iconst z79_14 (v := iI 0) rfl ?_
      refine zj_bret z79_15 rfl (by first | exact b2_r | omega) ?_
      exact zv_end (by first | rw [b2_t (by omega)] | rw [b2_f (by omega)])
    · refine zw_iconst z79_10 (v := iI 1) rfl ?_
      refine zw_goto z79_11 ?_
      refine zj_bret z79_15 rfl (by first | exact b2_r | omega) ?_
      exact zv_end (by first | rw [b2_t (by omega)] | rw [b2_f (by omega)])
theorem sp_mThrown (hm : moA w G N A) : zv d q 77 [.ref 817] w (iI (N 0)) := by
  intro L xs cn sn
  have hm9 := hm
  obtain ⟨m0, a0, a1, a2, a3, a4, a5, a6, a7, a8, a9, a10, a11, a12⟩ := hm9
  refine ⟨_, rfl, ?_⟩
  show zw _ _ _ _ 77 0 [some (.ref 817)] [] _ _ _ _
  refine zw_aload_n z77_0 rfl ?_
  refine zw_getf z77_1 (by assumption) (by rfl) ?_
  refine zw_iret z77_4 rfl ?_
  exact zv_end rfl
theorem sp_mAll (hm : moA w G N A) : zv d q 80 [.ref 817] w (iI (gAll G)) := by
  intro L xs cn sn
  have hm9 := hm
  obtain ⟨m0, a0, a1, a2, a3, a4, a5, a6, a7, a8, a9, a10, a11, a12⟩ := hm9
  refine ⟨_, rfl, ?_⟩
  show zw _ _ _ _ 80 0 [some (.ref 817)] [] _ _ _ _
  refine zw_aload_n z80_0 rfl ?_
  refine zw_getf z80_1 (by assumption) (by rfl) ?_
  refine zw_aload_n z80_4 rfl ?_
  refine zw_getf z80_5 (by assumption) (by rfl) ?_
  refine zj_mul z80_8 ?_
  refine zw_iret z80_9 rfl ?_
  exact zv_end rfl
theorem sp_mSuit (hm : moA w G N A) (hG : gmV G) (hc : 0 ≤ c ∧ c < 52) : zv d q 81 [.ref 817, iV c] w (iI (gSuit G c)) := by
  intro L xs cn sn
  have hm9 := hm
  obtain ⟨m0, a0, a1, a2, a3, a4, a5, a6, a7, a8, a9, a10, a11, a12⟩ := hm9
  have hG' := hG
  unfold gmV at hG'
  refine ⟨_, rfl, ?_⟩
  show zw _ _ _ _ 81 0 [some (.ref 817), some (iV c)] [] _ _ _ _
  refine zw_iload_n z81_0 rfl ?_
  refine zw_aload_n z81_1 rfl ?_
  refine zw_getf z81_2 (by assumption) (by rfl) ?_
  refine zj_rem z81_5 (by omega) (by omega) ?_
  refine zw_iret z81_6 rfl ?_
  exact zv_end rfl
theorem sp_mRank (hm : moA w G N A) (hG : gmV G) (hc : 0 ≤ c ∧ c < 52) : zv d q 82 [.ref 817, iV c] w (iI (gRank G c)) := by
  intro L xs cn sn
  have hm9 := hm
  obtain ⟨m0, a0, a1, a2, a3, a4, a5, a6, a7, a8, a9, a10, a11, a12⟩ := hm9
  have hG' := hG
  unfold gmV at hG'
  refine ⟨_, rfl, ?_⟩
  show zw _ _ _ _ 82 0 [some (.ref 817), some (iV c)] [] _ _ _ _
  refine zw_iload_n z82_0 rfl ?_
  refine zw_aload_n z82_1 rfl ?_
  refine zw_getf z82_2 (by assumption) (by rfl) ?_
  refine zj_div z82_5 (by omega) (by omega) ?_
  refine zw_iconst z82_6 (v := iI 1) rfl ?_
  refine zj_add z82_7 ?_
  refine zw_iret z82_8 rfl ?_
  exact zv_end rfl
abbrev gBlk (s : Int) : Prop := s = 0 ∨ s = 3
theorem sp_mBlack (hz : iR z) : zv d q 83 [iV z] w (iI (b2 (gBlk z))) := by
  intro L xs cn sn
  refine ⟨_, rfl, ?_⟩
  show zw _ _ _ _ 83 0 [some (iV z)] [] _ _ _ _
  refine zw_iload_n z83_0 rfl ?_
  refine zj_if_eq z83_1 (by omega) (fun h1 => ?_) (fun h1 => ?_)
  · refine zw_iconst z83_9 (v := iI 1) rfl ?_
    refine zw_goto z83_10 ?_
    refine zj_bret z83_14 rfl (by first | exact b2_r | omega) ?_
    exact zv_end (by first | rw [b2_t (by omega)] | rw [b2_f (by omega)])
  · refine zw_iload_n z83_4 rfl ?_
    refine zw_iconst z83_5 (v := iI 3) rfl ?_
    refine zj_icmp_ne z83_6 (by omega) (by omega) (fun h6 => ?_) (fun h6 => ?_)
    · refine zw_iconst z83_13 (v := iI 0) rfl ?_
      refine zj_bret z83_14 rfl (by first | exact b2_r | omega) ?_
      exact zv_end (by first | rw [b2_t (by omega)] | rw [b2_f (by omega)])
    · refine zw_iconst z83_9 (v := iI 1) rfl ?_
      refine zw_goto z83_10 ?_
      refine zj_bret z83_14 rfl (by first | exact b2_r | omega) ?_
      exact zv_end (by first | rw [b2_t (by omega)] | rw [b2_f (by omega)])
theorem sp_mFitsOn (hm : moA w G N A) (hG : gmV G) (hc : 0 ≤ c ∧ c < 52) (ho : 0 ≤ o ∧ o < 52) (hd : 1 ≤ d) (hq : 21 ≤ q) : zv d q 84 [.ref 817, iV c, iV o] w (iI (b2 (gFit G c o))) := by
  intro L xs cn sn
  obtain ⟨d, rfl⟩ : ∃ e, d = e + 1 := ⟨d - 1, by omega⟩
  have hm9 := hm
  obtain ⟨m0, a0, a1, a2, a3, a4, a5, a6, a7, a8, a9, a10, a11, a12⟩ := hm9
  have hG' := hG
  unfold gmV at hG'
  have rc := gRank_rng (c := c) hG hc
  have ro := gRank_rng (c := o) hG ho
  have sc := gSuit_rng (c := c) hG
  have so := gSuit_rng (c := o) hG
  have e1 : gBlk (gSuit G c) ↔ ¬ gRed (gSuit G c) := by unfold gBlk gRed; omega
  have e2 : gBlk (gSuit G o) ↔ ¬ gRed (gSuit G o) := by unfold gBlk gRed; omega
  refine ⟨_, rfl, ?_⟩
  show zw _ _ _ _ 84 0 [some (.ref 817), some (iV c), some (iV o)] [] _ _ _ _
  refine zw_aload_n z84_0 rfl ?_
  refine zw_iload_n z84_1 rfl ?_
  refine zw_vv (n := 2) z84_2 rfl rfl (by assumption) (Nat.le_of_ble_eq_true rfl) (by omega) (sp_mRank hm hG (by omega)) ?_
  refine zw_aload_n z84_5 rfl ?_
  refine zw_iload_n z84_6 rfl ?_
  refine zw_vv (n := 2) z84_7 rfl rfl (by assumption) (Nat.le_of_ble_eq_true rfl) (by omega) (sp_mRank hm hG (by omega)) ?_
  refine zw_iconst z84_10 (v := iI 1) rfl ?_
  refine zj_sub z84_11 ?_
  refine zj_icmp_eq z84_12 (by omega) (by omega) (fun h12 => ?_) (fun h12 => ?_)
  · refine zw_aload_n z84_17 rfl ?_
    refine zw_getf z84_18 (by assumption) (by rfl) ?_
    refine zw_iconst z84_21 (v := iI 2) rfl ?_
    refine zj_icmp_eq z84_22 (by omega) (by omega) (fun h22 => ?_) (fun h22 => ?_)
    · refine zw_iconst z84_68 (v := iI 1) rfl ?_
      refine zw_goto z84_69 ?_
      refine zj_bret z84_73 rfl (by first | exact b2_r | omega) ?_
      exact zv_end (by first | rw [b2_t (by unfold gFit; grind)] | rw [b2_f (by unfold gFit; grind)])
    · refine zw_aload_n z84_25 rfl ?_
      refine zw_getf z84_26 (by assumption) (by rfl) ?_
      refine zw_iconst z84_29 (v := iI 1) rfl ?_
      refine zj_icmp_ne z84_30 (by omega) (by omega) (fun h30 => ?_) (fun h30 => ?_)
      · refine zw_aload_n z84_49 rfl ?_
        refine zw_iload_n z84_50 rfl ?_
        refine zw_vv (n := 2) z84_51 rfl rfl (by assumption) (Nat.le_of_ble_eq_true rfl) (by omega) (sp_mSuit hm hG (by omega)) ?_
        refine zw_vs (n := 1) z84_54 rfl rfl (Nat.le_of_ble_eq_true rfl) (by omega) (sp_mBlack (by omega)) ?_
        refine zw_aload_n z84_57 rfl ?_
        refine zw_iload_n z84_58 rfl ?_
        refine zw_vv (n := 2) z84_59 rfl rfl (by assumption) (Nat.le_of_ble_eq_true rfl) (by omega) (sp_mSuit hm hG (by omega)) ?_
        refine zw_vs (n := 1) z84_62 rfl rfl (Nat.le_of_ble_eq_true rfl) (by omega) (sp_mBlack (by omega)) ?_
        refine zj_bb_eq z84_65 (fun h65 => ?_) (fun h65 => ?_)
        · refine zw_iconst z84_72 (v := iI 0) rfl ?_
          refine zj_bret z84_73 rfl (by first | exact b2_r | omega) ?_
          exact zv_end (by first | rw [b2_t (by unfold gFit; grind)] | rw [b2_f (by unfold gFit; grind)])
        · refine zw_iconst z84_68 (v := iI 1) rfl ?_
          refine zw_goto z84_69 ?_
          refine zj_bret z84_73 rfl (by first | exact b2_r | omega) ?_
          exact zv_end (by first | rw [b2_t (by unfold gFit; grind)] | rw [b2_f (by unfold gFit; grind)])
      · refine zw_aload_n z84_33 rfl ?_
        refine zw_iload_n z84_34 rfl ?_
        refine zw_vv (n := 2) z84_35 rfl rfl (by assumption) (Nat.le_of_ble_eq_true rfl) (by omega) (sp_mSuit hm hG (by omega)) ?_
        refine zw_aload_n z84_38 rfl ?_
        refine zw_iload_n z84_39 rfl ?_
        refine zw_vv (n := 2) z84_40 rfl rfl (by assumption) (Nat.le_of_ble_eq_true rfl) (by omega) (sp_mSuit hm hG (by omega)) ?_
        refine zj_icmp_ne z84_43 (by omega) (by omega) (fun h43 => ?_) (fun h43 => ?_)
        · refine zw_iconst z84_72 (v := iI 0) rfl ?_
          refine zj_bret z84_73 rfl (by first | exact b2_r | omega) ?_
          exact zv_end (by first | rw [b2_t (by unfold gFit; grind)] | rw [b2_f (by unfold gFit; grind)])
        · refine zw_goto z84_46 ?_
          refine zw_iconst z84_68 (v := iI 1) rfl ?_
          refine zw_goto z84_69 ?_
          refine zj_bret z84_73 rfl (by first | exact b2_r | omega) ?_
          exact zv_end (by first | rw [b2_t (by unfold gFit; grind)] | rw [b2_f (by unfold gFit; grind)])
  · refine zw_iconst z84_15 (v := iI 0) rfl ?_
    refine zj_bret z84_16 rfl (by first | exact b2_r | omega) ?_
    exact zv_end (by first | rw [b2_t (by unfold gFit; grind)] | rw [b2_f (by unfold gFit; grind)])
theorem sp_mFitsEmpty (hm : moA w G N A) (hG : gmV G) (hc : 0 ≤ c ∧ c < 52) (hd : 1 ≤ d) (hq : 21 ≤ q) : zv d q 85 [.ref 817, iV c] w (iI (b2 (gEmp G c))) := by
  intro L xs cn sn
  obtain ⟨d, rfl⟩ : ∃ e, d = e + 1 := ⟨d - 1, by omega⟩
  have hm9 := hm
  obtain ⟨m0, a0, a1, a2, a3, a4, a5, a6, a7, a8, a9, a10, a11, a12⟩ := hm9
  have hG' := hG
  unfold gmV at hG'
  have rc := gRank_rng (c := c) hG hc
  refine ⟨_, rfl, ?_⟩
  show zw _ _ _ _ 85 0 [some (.ref 817), some (iV c)] [] _ _ _ _
  refine zw_aload_n z85_0 rfl ?_
  refine zw_getf z85_1 (by assumption) (by rfl) ?_
  refine zj_if_eq z85_4 (by omega) (fun h4 => ?_) (fun h4 => ?_)
  · refine zw_iconst z85_27 (v := iI 1) rfl ?_
    refine zw_goto z85_28 ?_
    refine zj_bret z85_32 rfl (by first | exact b2_r | omega) ?_
    exact zv_end (by first | rw [b2_t (by unfold gEmp; omega)] | rw [b2_f (by unfold gEmp; omega)])
  · refine zw_aload_n z85_7 rfl ?_
    refine zw_getf z85_8 (by assumption) (by rfl) ?_
    refine zw_iconst z85_11 (v := iI 1) rfl ?_
    refine zj_icmp_ne z85_12 (by omega) (by omega) (fun h12 => ?_) (fun h12 => ?_)
    · refine zw_iconst z85_31 (v := iI 0) rfl ?_
      refine zj_bret z85_32 rfl (by first | exact b2_r | omega) ?_
      exact zv_end (by first | rw [b2_t (by unfold gEmp; omega)] | rw [b2_f (by unfold gEmp; omega)])
    · refine zw_aload_n z85_15 rfl ?_
      refine zw_iload_n z85_16 rfl ?_
      refine zw_vv (n := 2) z85_17 rfl rfl (by assumption) (Nat.le_of_ble_eq_true rfl) (by omega) (sp_mRank hm hG (by omega)) ?_
      refine zw_aload_n z85_20 rfl ?_
      refine zw_getf z85_21 (by assumption) (by rfl) ?_
      refine zj_icmp_ne z85_24 (by omega) (by omega) (fun h24 => ?_) (fun h24 => ?_)
      · refine zw_iconst z85_31 (v := iI 0) rfl ?_
        refine zj_bret z85_32 rfl (by first | exact b2_r | omega) ?_
        exact zv_end (by first | rw [b2_t (by unfold gEmp; omega)] | rw [b2_f (by unfold gEmp; omega)])
      · refine zw_iconst z85_27 (v := iI 1) rfl ?_
        refine zw_goto z85_28 ?_
        refine zj_bret z85_32 rfl (by first | exact b2_r | omega) ?_
        exact zv_end (by first | rw [b2_t (by unfold gEmp; omega)] | rw [b2_f (by unfold gEmp; omega)])
theorem sp_mIsColumn (hm : moA w G N A) (hG : gmV G) (hz : iR z) (hd : 1 ≤ d) (hq : 22 ≤ q) : zv d q 94 [.ref 817, iV z] w (iI (b2 (gCol G z))) := by
  intro L xs cn sn
  obtain ⟨d, rfl⟩ : ∃ e, d = e + 1 := ⟨d - 1, by omega⟩
  have hm9 := hm
  obtain ⟨m0, a0, a1, a2, a3, a4, a5, a6, a7, a8, a9, a10, a11, a12⟩ := hm9
  have hG' := hG
  unfold gmV at hG'
  refine ⟨_, rfl, ?_⟩
  show zw _ _ _ _ 94 0 [some (.ref 817), some (iV z)] [] _ _ _ _
  refine zw_iload_n z94_0 rfl ?_
  refine zw_iconst z94_1 (v := iI 0) rfl ?_
  refine zw_aload_n z94_2 rfl ?_
  refine zw_getf z94_3 (by assumption) (by rfl) ?_
  refine zw_iconst z94_6 (v := iI 1) rfl ?_
  refine zj_sub z94_7 ?_
  refine zw_vs (n := 3) z94_8 rfl rfl (Nat.le_of_ble_eq_true rfl) (by omega) (sp_mWithin (by omega) (by omega) (by omega)) ?_
  refine zj_bret z94_11 rfl (by first | exact b2_r | omega) ?_
  exact zv_end (by congr 1; apply b2_c; omega)
theorem sp_mIsCell (hm : moA w G N A) (hG : gmV G) (hz : iR z) (hd : 1 ≤ d) (hq : 22 ≤ q) : zv d q 95 [.ref 817, iV z] w (iI (b2 (gCel G z))) := by
  intro L xs cn sn
  obtain ⟨d, rfl⟩ : ∃ e, d = e + 1 := ⟨d - 1, by omega⟩
  have hm9 := hm
  obtain ⟨m0, a0, a1, a2, a3, a4, a5, a6, a7, a8, a9, a10, a11, a12⟩ := hm9
  have hG' := hG
  unfold gmV at hG'
  refine ⟨_, rfl, ?_⟩
  show zw _ _ _ _ 95 0 [some (.ref 817), some (iV z)] [] _ _ _ _
  refine zw_iload_n z95_0 rfl ?_
  refine zw_bipush z95_1 (v := iI (8)) (by decide +kernel) ?_
  refine zw_bipush z95_3 (v := iI (7)) (by decide +kernel) ?_
  refine zw_aload_n z95_5 rfl ?_
  refine zw_getf z95_6 (by assumption) (by rfl) ?_
  refine zj_add z95_9 ?_
  refine zw_vs (n := 3) z95_10 rfl rfl (Nat.le_of_ble_eq_true rfl) (by omega) (sp_mWithin (by omega) (by omega) (by omega)) ?_
  refine zj_bret z95_13 rfl (by first | exact b2_r | omega) ?_
  exact zv_end (by congr 1; apply b2_c; omega)
abbrev mAH (A : Nat → Nat → Int) : Int := A 3 0 + A 3 1 + A 3 2 + A 3 3
theorem sp_mAtHome (hm : moA w G N A) (hV : mtV A) : zv d q 96 [.ref 817] w (iI (mAH A)) := by
  intro L xs cn sn
  have hm9 := hm
  obtain ⟨m0, a0, a1, a2, a3, a4, a5, a6, a7, a8, a9, a10, a11, a12⟩ := hm9
  obtain ⟨v0, v1, v2, v3, v4, v5⟩ := hV
  refine ⟨_, rfl, ?_⟩
  show zw _ _ _ _ 96 0 [some (.ref 817)] [] _ _ _ _
  refine zw_aload_n z96_0 rfl ?_
  refine zw_getf z96_1 (by assumption) (by rfl) ?_
  refine zw_iconst z96_4 (v := iI 0) rfl ?_
  refine zj_aldB z96_5 (by assumption) (by omega) (by decide) v3 (fun v5 e5 r5 => ?_)
  refine zw_aload_n z96_6 rfl ?_
  refine zw_getf z96_7 (by assumption) (by rfl) ?_
  refine zw_iconst z96_10 (v := iI 1) rfl ?_
  refine zj_aldB z96_11 (by assumption) (by omega) (by decide) v3 (fun v11 e11 r11 => ?_)
  refine zj_add z96_12 ?_
  refine zw_aload_n z96_13 rfl ?_
  refine zw_getf z96_14 (by assumption) (by rfl) ?_
  refine zw_iconst z96_17 (v := iI 2) rfl ?_
  refine zj_aldB z96_18 (by assumption) (by omega) (by decide) v3 (fun v18 e18 r18 => ?_)
  refine zj_add z96_19 ?_
  refine zw_aload_n z96_20 rfl ?_
  refine zw_getf z96_21 (by assumption) (by rfl) ?_
  refine zw_iconst z96_24 (v := iI 3) rfl ?_
  refine zj_aldB z96_25 (by assumption) (by omega) (by decide) v3 (fun v25 e25 r25 => ?_)
  refine zj_add z96_26 ?_
  refine zw_iret z96_27 rfl ?_
  exact zv_end (by subst e5 e11 e18 e25; rfl)
abbrev mFT (A : Nat → Nat → Int) (p k : Int) : Int := if k < A 1 p.toNat then A 0 (52 * p + A 1 p.toNat - 1 - k).toNat else -1
theorem mFT_rng (hV : mtV A) : -1 ≤ mFT A z k ∧ mFT A z k ≤ 51 := by
  have := hV.1 (52 * z + A 1 z.toNat - 1 - k).toNat
  unfold mFT
  split <;> omega
theorem sp_mFromTop (hm : moA w G N A) (hV : mtV A) (hz : 0 ≤ z ∧ z < 8) (hk : 0 ≤ k ∧ k < 2147483648) : zv d q 97 [.ref 817, iV z, iV k] w (iI (mFT A z k)) := by
  intro L xs cn sn
  have hm9 := hm
  obtain ⟨m0, a0, a1, a2, a3, a4, a5, a6, a7, a8, a9, a10, a11, a12⟩ := hm9
  obtain ⟨v0, v1, v2, v3, v4, v5⟩ := hV
  refine ⟨_, rfl, ?_⟩
  show zw _ _ _ _ 97 0 [some (.ref 817), some (iV z), some (iV k)] [] _ _ _ _
  refine zw_iload_n z97_0 rfl ?_
  refine zw_aload_n z97_1 rfl ?_
  refine zw_getf z97_2 (by assumption) (by rfl) ?_
  refine zw_iload_n z97_5 rfl ?_
  refine zj_aldB z97_6 (by assumption) (by omega) (by decide) v1 (fun v6 e6 r6 => ?_)
  refine zj_icmp_ge z97_7 (by omega) (by omega) (fun h7 => ?_) (fun h7 => ?_)
  · refine zw_iconst z97_33 (v := iI (-1)) rfl ?_
    refine zw_iret z97_34 rfl ?_
    exact zv_end (by unfold mFT; first | (rw [if_neg (by omega)]) | (rw [if_pos (by omega)]; subst e29 e23; rfl))
  · refine zw_aload_n z97_10 rfl ?_
    refine zw_getf z97_11 (by assumption) (by rfl) ?_
    refine zw_bipush z97_14 (v := iI (52)) (by decide +kernel) ?_
    refine zw_iload_n z97_16 rfl ?_
    refine zj_mul z97_17 ?_
    refine zw_aload_n z97_18 rfl ?_
    refine zw_getf z97_19 (by assumption) (by rfl) ?_
    refine zw_iload_n z97_22 rfl ?_
    refine zj_aldB z97_23 (by assumption) (by omega) (by decide) v1 (fun v23 e23 r23 => ?_)
    refine zj_add z97_24 ?_
    refine zw_iconst z97_25 (v := iI 1) rfl ?_
    refine zj_sub z97_26 ?_
    refine zw_iload_n z97_27 rfl ?_
    refine zj_sub z97_28 ?_
    refine zj_aldB z97_29 (by assumption) (by omega) (by decide) v0 (fun v29 e29 r29 => ?_)
    refine zw_goto z97_30 ?_
    refine zw_iret z97_34 rfl ?_
    exact zv_end (by unfold mFT; first | (rw [if_neg (by omega)]) | (rw [if_pos (by omega)]; subst e29 e23; rfl))
abbrev mTp (G : Nat → Int) (A : Nat → Nat → Int) (z : Int) : Int := if gCel G z then A 2 (z - 8).toNat else mFT A z 0
theorem mTp_rng (hV : mtV A) : -1 ≤ mTp G A z ∧ mTp G A z ≤ 51 := by
  have h1 := hV.2.2.1 (z - 8).toNat
  have h2 := mFT_rng (z := z) (k := 0) hV
  unfold mTp
  split <;> omega
theorem sp_mTopOf (hm : moA w G N A) (hG : gmV G) (hV : mtV A) (hz : gCel G z ∨ (0 ≤ z ∧ z < 8)) (hd : 2 ≤ d) (hq : 43 ≤ q) : zv d q 98 [.ref 817, iV z] w (iI (mTp G A z)) := by
  intro L xs cn sn
  obtain ⟨d, rfl⟩ : ∃ e, d = e + 1 := ⟨d - 1, by omega⟩
  have hm9 := hm
  obtain ⟨m0, a0, a1, a2, a3, a4, a5, a6, a7, a8, a9, a10, a11, a12⟩ := hm9
  have hG' := hG
  unfold gmV at hG'
  have hV' := hV
  obtain ⟨v0, v1, v2, v3, v4, v5⟩ := hV'
  refine ⟨_, rfl, ?_⟩
  show zw _ _ _ _ 98 0 [some (.ref 817), some (iV z)] [] _ _ _ _
  refine zw_aload_n z98_0 rfl ?_
  refine zw_iload_n z98_1 rfl ?_
  refine zw_vv (n := 2) z98_2 rfl rfl (by assumption) (Nat.le_of_ble_eq_true rfl) (by omega) (sp_mIsCell hm hG (by omega) (by omega) (by omega)) ?_
  refine zj_b_eq z98_5 (fun h5 => ?_) (fun h5 => ?_)
  · refine zw_aload_n z98_20 rfl ?_
    refine zw_iload_n z98_21 rfl ?_
    refine zw_iconst z98_22 (v := iI 0) rfl ?_
    refine zw_vv (n := 3) z98_23 rfl rfl (by assumption) (Nat.le_of_ble_eq_true rfl) (by omega) (sp_mFromTop hm hV (by omega) (by omega)) ?_
    refine zw_iret z98_26 rfl ?_
    exact zv_end (by unfold mTp; first | (rw [if_neg (by omega)]) | (rw [if_pos (by omega)]; subst e16; rfl))
  · refine zw_aload_n z98_8 rfl ?_
    refine zw_getf z98_9 (by assumption) (by rfl) ?_
    refine zw_iload_n z98_12 rfl ?_
    refine zw_bipush z98_13 (v := iI (8)) (by decide +kernel) ?_
    refine zj_sub z98_15 ?_
    refine zj_aldB z98_16 (by assumption) (by omega) (by decide) v2 (fun v16 e16 r16 => ?_)
    refine zw_goto z98_17 ?_
    refine zw_iret z98_26 rfl ?_
    exact zv_end (by unfold mTp; first | (rw [if_neg (by omega)]) | (rw [if_pos (by omega)]; subst e16; rfl))
abbrev mFA (G : Nat → Int) (A : Nat → Nat → Int) (c p : Int) : Prop := if A 1 p.toNat = 0 then gEmp G c else gFit G c (mFT A p 0)
theorem sp_mFitsAt (hm : moA w G N A) (hG : gmV G) (hV : mtV A) (hc : 0 ≤ c ∧ c < 52) (hz : 0 ≤ z ∧ z < 8) (hd : 2 ≤ d) (hq : 43 ≤ q) : zv d q 99 [.ref 817, iV c, iV z] w (iI (b2 (mFA G A c z))) := by
  intro L xs cn sn
  obtain ⟨d, rfl⟩ : ∃ e, d = e + 1 := ⟨d - 1, by omega⟩
  have hm9 := hm
  obtain ⟨m0, a0, a1, a2, a3, a4, a5, a6, a7, a8, a9, a10, a11, a12⟩ := hm9
  have hV' := hV
  obtain ⟨v0, v1, v2, v3, v4, v5⟩ := hV'
  refine ⟨_, rfl, ?_⟩
  show zw _ _ _ _ 99 0 [some (.ref 817), some (iV c), some (iV z)] [] _ _ _ _
  refine zw_aload_n z99_0 rfl ?_
  refine zw_getf z99_1 (by assumption) (by rfl) ?_
  refine zw_iload_n z99_4 rfl ?_
  refine zj_aldB z99_5 a1 (by omega) (by decide) v1 (fun v5 e5 r5 => ?_)
  refine zj_if_ne z99_6 (by omega) (fun h6 => ?_) (fun h6 => ?_)
  · have hf : 0 ≤ mFT A z 0 ∧ mFT A z 0 < 52 := by
      have h1 := v0 (52 * z + A 1 z.toNat - 1 - 0).toNat
      have h2 := v1 z.toNat
      unfold mFT
      rw [if_pos (by omega)]
      omega
    refine zw_aload_n z99_17 rfl ?_
    refine zw_iload_n z99_18 rfl ?_
    refine zw_aload_n z99_19 rfl ?_
    refine zw_iload_n z99_20 rfl ?_
    refine zw_iconst z99_21 (v := iI 0) rfl ?_
    refine zw_vv (n := 3) z99_22 rfl rfl (by assumption) (Nat.le_of_ble_eq_true rfl) (by omega) (sp_mFromTop hm hV (by omega) (by omega)) ?_
    refine zw_vv (n := 3) z99_25 rfl rfl (by assumption) (Nat.le_of_ble_eq_true rfl) (by omega) (sp_mFitsOn hm hG hc hf (by omega) (by omega)) ?_
    refine zj_bret z99_28 rfl b2_r ?_
    exact zv_end (by congr 1; apply b2_c; unfold mFA; rw [if_neg (by omega)])
  · refine zw_aload_n z99_9 rfl ?_
    refine zw_iload_n z99_10 rfl ?_
    refine zw_vv (n := 2) z99_11 rfl rfl (by assumption) (Nat.le_of_ble_eq_true rfl) (by omega) (sp_mFitsEmpty hm hG hc (by omega) (by omega)) ?_
    refine zw_goto z99_14 ?_
    refine zj_bret z99_28 rfl b2_r ?_
    exact zv_end (by congr 1; apply b2_c; unfold mFA; rw [if_pos (by omega)])
abbrev mOn (G : Nat → Int) (A : Nat → Nat → Int) (z y c : Int) : Prop := 0 ≤ c ∧ z ≠ y ∧ (if y = 12 then A 3 (gSuit G c).toNat + 1 = gRank G c else if gCel G y then gCol G z ∧ A 2 (y - 8).toNat < 0 else mFA G A c y)
abbrev mOne (G : Nat → Int) (A : Nat → Nat → Int) (z y : Int) : Prop := mOn G A z y (mTp G A z)
theorem sp_mMayOne (hm : moA w G N A) (hG : gmV G) (hV : mtV A) (hz : gCol G z ∨ gCel G z) (hy : gPla G y) (hd : 3 ≤ d) (hq : 65 ≤ q) : zv d q 100 [.ref 817, iV z, iV y] w (iI (b2 (mOne G A z y))) := by
  intro L xs cn sn
  obtain ⟨d, rfl⟩ : ∃ e, d = e + 1 := ⟨d - 1, by omega⟩
  have hm9 := hm
  obtain ⟨m0, a0, a1, a2, a3, a4, a5, a6, a7, a8, a9, a10, a11, a12⟩ := hm9
  have hG' := hG
  unfold gmV at hG'
  have hV' := hV
  obtain ⟨v0, v1, v2, v3, v4, v5⟩ := hV'
  have ht := mTp_rng (G := G) (z := z) hV
  unfold mOne
  refine ⟨_, rfl, ?_⟩
  show zw _ _ _ _ 100 0 [some (.ref 817), some (iV z), some (iV y), none] [] _ _ _ _
  refine zw_aload_n z100_0 rfl ?_
  refine zw_iload_n z100_1 rfl ?_
  refine zw_vv (n := 2) z100_2 rfl rfl (by assumption) (Nat.le_of_ble_eq_true rfl) (by omega) (sp_mTopOf hm hG hV (by omega) (by omega) (by omega)) ?_
  generalize mTp G A z = c at *
  refine zw_istore_n z100_5 rfl ?_
  refine zw_iload_n z100_6 rfl ?_
  refine zj_if_lt z100_7 (by omega) (fun h1 => ?_) (fun h1 => ?_)
  · refine zw_iconst z100_15 (v := iI 0) rfl ?_
    refine zj_bret z100_16 rfl (by omega) ?_
    exact zv_end (by rw [b2_f (fun h => by have := h.1; omega)])
  refine zw_iload_n z100_10 rfl ?_
  refine zw_iload_n z100_11 rfl ?_
  refine zj_icmp_ne z100_12 (by omega) (by omega) (fun h2 => ?_) (fun h2 => ?_)
  rotate_left
  · refine zw_iconst z100_15 (v := iI 0) rfl ?_
    refine zj_bret z100_16 rfl (by omega) ?_
    exact zv_end (by rw [b2_f (fun h => by have := h.2.1; omega)])
  have rc := gRank_rng (c := c) hG (by omega)
  have sc := gSuit_rng (c := c) hG
  refine zw_iload_n z100_17 rfl ?_
  refine zw_bipush z100_18 (v := iI (12)) (by decide +kernel) ?_
  refine zj_icmp_ne z100_20 (by omega) (by omega) (fun h3 => ?_) (fun h3 => ?_)
  rotate_left
  · refine zw_aload_n z100_23 rfl ?_
    refine zw_getf z100_24 (by assumption) (by rfl) ?_
    refine zw_aload_n z100_27 rfl ?_
    refine zw_iload_n z100_28 rfl ?_
    refine zw_vv (n := 2) z100_29 rfl rfl (by assumption) (Nat.le_of_ble_eq_true rfl) (by omega) (sp_mSuit hm hG (by omega)) ?_
    refine zj_aldB z100_32 a3 (by omega) (by decide) v3 (fun v32 e32 r32 => ?_)
    refine zw_iconst z100_33 (v := iI 1) rfl ?_
    refine zj_add z100_34 ?_
    refine zw_aload_n z100_35 rfl ?_
    refine zw_iload_n z100_36 rfl ?_
    refine zw_vv (n := 2) z100_37 rfl rfl (by assumption) (Nat.le_of_ble_eq_true rfl) (by omega) (sp_mRank hm hG (by omega)) ?_
    refine zj_icmp_ne z100_40 (by omega) (by omega) (fun h4 => ?_) (fun h4 => ?_)
    · refine zw_iconst z100_47 (v := iI 0) rfl ?_
      refine zj_bret z100_48 rfl (by omega) ?_
      exact zv_end (by rw [b2_f (fun h => by have := h.2.2; rw [if_pos (by omega)] at this; omega)])
    · refine zw_iconst z100_43 (v := iI 1) rfl ?_
      refine zw_goto z100_44 ?_
      refine zj_bret z100_48 rfl (by omega) ?_
      exact zv_end (by rw [b2_t ⟨by omega, by omega, by rw [if_pos (by omega)]; omega⟩])
  refine zw_aload_n z100_49 rfl ?_
  refine zw_iload_n z100_50 rfl ?_
  refine zw_vv (n := 2) z100_51 rfl rfl (by assumption) (Nat.le_of_ble_eq_true rfl) (by omega) (sp_mIsCell hm hG (by omega) (by omega) (by omega)) ?_
  refine zj_b_eq z100_54 (fun h5 => ?_) (fun h5 => ?_)
  · refine zw_aload_n z100_83 rfl ?_
    refine zw_iload_n z100_84 rfl ?_
    refine zw_iload_n z100_85 rfl ?_
    refine zw_vv (n := 3) z100_86 rfl rfl (by assumption) (Nat.le_of_ble_eq_true rfl) (by omega) (sp_mFitsAt hm hG hV (by omega) (by omega) (by omega) (by omega)) ?_
    refine zj_bret z100_89 rfl b2_r ?_
    exact zv_end (by congr 1; apply b2_c; rw [show mOn G A z y c = (0 ≤ c ∧ z ≠ y ∧ _) from rfl, if_neg h3, if_neg h5]; exact ⟨fun h => ⟨by omega, by omega, h⟩, fun h => h.2.2⟩)
  refine zw_aload_n z100_57 rfl ?_
  refine zw_iload_n z100_58 rfl ?_
  refine zw_vv (n := 2) z100_59 rfl rfl (by assumption) (Nat.le_of_ble_eq_true rfl) (by omega) (sp_mIsColumn hm hG (by omega) (by omega) (by omega)) ?_
  refine zj_b_eq z100_62 (fun h6 => ?_) (fun h6 => ?_)
  · refine zw_iconst z100_81 (v := iI 0) rfl ?_
    refine zj_bret z100_82 rfl (by omega) ?_
    exact zv_end (by rw [b2_f (fun h => by have := h.2.2; rw [if_neg h3, if_pos h5] at this; exact h6 this.1)])
  refine zw_aload_n z100_65 rfl ?_
  refine zw_getf z100_66 (by assumption) (by rfl) ?_
  refine zw_iload_n z100_69 rfl ?_
  refine zw_bipush z100_70 (v := iI (8)) (by decide +kernel) ?_
  refine zj_sub z100_72 ?_
  refine zj_aldB z100_73 a2 (by omega) (by decide) v2 (fun v73 e73 r73 => ?_)
  refine zj_if_ge z100_74 (by omega) (fun h7 => ?_) (fun h7 => ?_)
  · refine zw_iconst z100_81 (v := iI 0) rfl ?_
    refine zj_bret z100_82 rfl (by omega) ?_
    exact zv_end (by rw [b2_f (fun h => by have := h.2.2; rw [if_neg h3, if_pos h5] at this; omega)])
  · refine zw_iconst z100_77 (v := iI 1) rfl ?_
    refine zw_goto z100_78 ?_
    refine zj_bret z100_82 rfl (by omega) ?_
    exact zv_end (by rw [b2_t ⟨by omega, by omega, by rw [if_neg h3, if_pos h5]; exact ⟨h6, by omega⟩⟩])
end ZMO
