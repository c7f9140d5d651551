/-! The reference: its calls, but for lay, deal and look. (Laid out by gen/tpl.py from tpl/64.model.tpl.) -/
abbrev MO : Type := Int × (Nat → Int) × (Nat → Nat → Int)
section ZMC
variable {L : Nat} {xs : Nat → Int32} {d q : Nat} {w w' : zi_W} {cn sn : Nat} {Q : zi_O → zi_W → Nat → Nat → Prop} {G N : Nat → Int} {A : Nat → Nat → Int} {z y m c o a b e k : Int}
abbrev mRO (w : zi_W) (cn sn : Nat) (G : Nat → Int) (r : MO) : Option Value → zi_W → Nat → Nat → Prop := mR w cn sn (some (iV r.1)) G r.2.1 r.2.2
def mMv (G N : Nat → Int) (A : Nat → Nat → Int) (z y m : Int) : MO := if (gCol G z ∨ gCel G z) ∧ gPla G y ∧ 1 ≤ m then (if gAll G ≤ mLaid A ∧ mMay G A z y m then (mAH (mMkA G (nT N) A z y m), mMkN (nT N), mMkA G (nT N) A z y m) else (0, iU (nT N) 0 2, A)) else (0, iU (nT N) 0 1, A)
theorem mMay_le (hV : mtV A) (h : mMay G A z y m) : m ≤ 52 := by
  have := hV.2.1 z.toNat
  unfold mMay at h
  split at h
  · omega
  · have := h.2.2.2.1; omega
theorem mLaid_rng : 0 ≤ mLaid A ∧ mLaid A ≤ 52 := by
  have := mLd_rng (f := A 4) 52 0 0
  unfold mLaid
  omega
theorem sp_mMove (hm : moA w G N A) (hG : gmV G) (hV : mtV A) (hl : 0 ≤ N 1 ∧ N 1 ≤ 60) (hz : iR z) (hy : iR y) (hm1 : iR m) (hB : gCol G z ∨ gCel G z → gPla G y → 1 ≤ m → gAll G ≤ mLaid A → mMay G A z y m → okR G A z y m (mTp G A z) ∧ mtV (mMkA G (nT N) A z y m)) (hd : 5 ≤ d) (hq : 114 ≤ q) : zr L xs d q 107 [.ref 817, iV z, iV y, iV m] w cn sn (mRO w cn sn G (mMv G N A z y m)) := by
  obtain ⟨d, rfl⟩ : ∃ e, d = e + 1 := ⟨d - 1, by omega⟩
  have m0 := hm.1
  have hA := gAll_rng hG
  have hL := mLaid_rng (A := A)
  refine ⟨_, rfl, ?_⟩
  show zw _ _ _ _ 107 0 [some (.ref 817), some (iV z), some (iV y), some (iV m)] [] _ _ _ _
  refine zw_aload_n z107_0 rfl ?_
  refine zw_iconst z107_1 (v := iI 0) rfl ?_
  refine zj_putf z107_2 m0 (Nat.le_of_ble_eq_true rfl) (by rfl) (fun w1 n1 f1 => ?_)
  have hmA := mo_put (N' := nT N) (G' := G) hm n1 f1
  have F1 : zF moS w w1 := zF.rf.step f1 (by omega)
  have m0 := hmA.1
  have kf : ¬ ((gCol G z ∨ gCel G z) ∧ gPla G y ∧ 1 ≤ m) → zw L xs (d + 1) q 107 48 [some (.ref 817), some (iV z), some (iV y), some (iV m)] [] w1 cn sn (fun o w' cn' sn' => ∃ v, o = .inl v ∧ mRO w cn sn G (mMv G N A z y m) v w' cn' sn') := by
    intro hn
    rw [show mMv G N A z y m = _ from if_neg hn]
    refine zw_aload_n z107_48 rfl ?_
    refine zw_iconst z107_49 (v := iI 1) rfl ?_
    refine zw_cv (n := 2) z107_50 rfl rfl m0 (Nat.le_of_ble_eq_true rfl) (by omega) (sp_mRefuse hmA) (fun v w2 cn2 sn2 h => ?_)
    obtain ⟨rfl, rfl, rfl, hmB, f2⟩ := h
    exact zw_iret z107_53 rfl ⟨_, rfl, rfl, rfl, rfl, hmB, F1.trans f2⟩
  have k43 : (gCol G z ∨ gCel G z) → gPla G y → zw L xs (d + 1) q 107 43 [some (.ref 817), some (iV z), some (iV y), some (iV m)] [] w1 cn sn (fun o w' cn' sn' => ∃ v, o = .inl v ∧ mRO w cn sn G (mMv G N A z y m) v w' cn' sn') := by
    intro h1 h2
    refine zw_iload_n z107_43 rfl ?_
    refine zw_iconst z107_44 (v := iI 1) rfl ?_
    refine zj_icmp_ge z107_45 (by omega) (by omega) (fun h3 => ?_) (fun h3 => ?_)
    rotate_left
    · exact kf (fun h => h3 h.2.2)
    have kg : ¬ (gAll G ≤ mLaid A ∧ mMay G A z y m) → zw L xs (d + 1) q 107 75 [some (.ref 817), some (iV z), some (iV y), some (iV m)] [] w1 cn sn (fun o w' cn' sn' => ∃ v, o = .inl v ∧ mRO w cn sn G (mMv G N A z y m) v w' cn' sn') := by
      intro hn
      rw [show mMv G N A z y m = _ from (if_pos ⟨h1, h2, h3⟩).trans (if_neg hn)]
      refine zw_aload_n z107_75 rfl ?_
      refine zw_iconst z107_76 (v := iI 2) rfl ?_
      refine zw_cv (n := 2) z107_77 rfl rfl m0 (Nat.le_of_ble_eq_true rfl) (by omega) (sp_mRefuse hmA) (fun v w2 cn2 sn2 h => ?_)
      obtain ⟨rfl, rfl, rfl, hmB, f2⟩ := h
      exact zw_iret z107_80 rfl ⟨_, rfl, rfl, rfl, rfl, hmB, F1.trans f2⟩
    refine zw_aload_n z107_54 rfl ?_
    refine zw_vv (n := 3) z107_55 rfl rfl (by assumption) (Nat.le_of_ble_eq_true rfl) (by omega) (sp_mLaid hmA hV) ?_
    refine zw_aload_n z107_58 rfl ?_
    refine zw_vv (n := 1) z107_59 rfl rfl (by assumption) (Nat.le_of_ble_eq_true rfl) (by omega) (sp_mAll hmA) ?_
    refine zj_icmp_lt z107_62 (by omega) (by omega) (fun h4 => ?_) (fun h4 => ?_)
    · exact kg (fun h => by have := h.1; omega)
    refine zw_aload_n z107_65 rfl ?_
    refine zw_iload_n z107_66 rfl ?_
    refine zw_iload_n z107_67 rfl ?_
    refine zw_iload_n z107_68 rfl ?_
    refine zw_vv (n := 5) z107_69 rfl rfl (by assumption) (Nat.le_of_ble_eq_true rfl) (by omega) (sp_mMay hmA hG hV h1 h2 (by omega) (by omega) (by omega)) ?_
    refine zj_b_ne z107_72 (fun h5 => ?_) (fun h5 => ?_)
    rotate_left
    · exact kg (fun h => h5 h.2)
    obtain ⟨o1, o2⟩ := hB h1 h2 h3 (by omega) h5
    rw [show mMv G N A z y m = _ from (if_pos ⟨h1, h2, h3⟩).trans (if_pos ⟨by omega, h5⟩)]
    refine zw_aload_n z107_81 rfl ?_
    refine zw_iload_n z107_82 rfl ?_
    refine zw_iload_n z107_83 rfl ?_
    refine zw_iload_n z107_84 rfl ?_
    refine zw_cv (n := 5) z107_85 rfl rfl m0 (Nat.le_of_ble_eq_true rfl) (by omega) (sp_mMake hmA hG hV hl h1 ⟨h3, mMay_le hV h5⟩ o1 (by omega) (by omega)) (fun v w2 cn2 sn2 h => ?_)
    obtain ⟨rfl, rfl, rfl, hmB, f2⟩ := h
    have m0 := hmB.1
    refine zw_aload_n z107_88 rfl ?_
    refine zw_vv (n := 1) z107_89 rfl rfl (by assumption) (Nat.le_of_ble_eq_true rfl) (by omega) (sp_mAtHome hmB o2) ?_
    exact zw_iret z107_92 rfl ⟨_, rfl, rfl, rfl, rfl, hmB, F1.trans f2⟩
  have k21 : (gCol G z ∨ gCel G z) → zw L xs (d + 1) q 107 21 [some (.ref 817), some (iV z), some (iV y), some (iV m)] [] w1 cn sn (fun o w' cn' sn' => ∃ v, o = .inl v ∧ mRO w cn sn G (mMv G N A z y m) v w' cn' sn') := by
    intro h1
    refine zw_aload_n z107_21 rfl ?_
    refine zw_iload_n z107_22 rfl ?_
    refine zw_vv (n := 2) z107_23 rfl rfl (by assumption) (Nat.le_of_ble_eq_true rfl) (by omega) (sp_mIsColumn hmA hG hy (by omega) (by omega)) ?_
    refine zj_b_ne z107_26 (fun h2 => ?_) (fun h2 => ?_)
    · exact k43 h1 (Or.inl h2)
    refine zw_aload_n z107_29 rfl ?_
    refine zw_iload_n z107_30 rfl ?_
    refine zw_vv (n := 2) z107_31 rfl rfl (by assumption) (Nat.le_of_ble_eq_true rfl) (by omega) (sp_mIsCell hmA hG hy (by omega) (by omega)) ?_
    refine zj_b_ne z107_34 (fun h3 => ?_) (fun h3 => ?_)
    · exact k43 h1 (Or.inr (Or.inl h3))
    refine zw_iload_n z107_37 rfl ?_
    refine zw_bipush z107_38 (v := iI (12)) (by decide +kernel) ?_
    refine zj_icmp_ne z107_40 (by omega) (by omega) (fun h4 => ?_) (fun h4 => ?_)
    · exact kf (fun h => by rcases h.2.1 with h | h | h; exact h2 h; exact h3 h; exact h4 h)
    · exact k43 h1 (Or.inr (Or.inr (by omega)))
  refine zw_aload_n z107_5 rfl ?_
  refine zw_iload_n z107_6 rfl ?_
  refine zw_vv (n := 2) z107_7 rfl rfl (by assumption) (Nat.le_of_ble_eq_true rfl) (by omega) (sp_mIsColumn hmA hG hz (by omega) (by omega)) ?_
  refine zj_b_ne z107_10 (fun h1 => ?_) (fun h1 => ?_)
  · exact k21 (Or.inl h1)
  refine zw_aload_n z107_13 rfl ?_
  refine zw_iload_n z107_14 rfl ?_
  refine zw_vv (n := 2) z107_15 rfl rfl (by assumption) (Nat.le_of_ble_eq_true rfl) (by omega) (sp_mIsCell hmA hG hz (by omega) (by omega)) ?_
  refine zj_b_eq z107_18 (fun h2 => ?_) (fun h2 => ?_)
  · exact kf (fun h => by rcases h.1 with h | h; exact h1 h; exact h2 h)
  · exact k21 (Or.inr h2)
abbrev mAm (G : Nat → Int) (A : Nat → Nat → Int) (z y : Int) : Int := if gCol G z ∧ gCol G y then mMost G A z y else if mOne G A z y then 1 else 0
def mPl (G N : Nat → Int) (A : Nat → Nat → Int) (z y m : Int) : MO := if 0 ≤ z ∧ 0 ≤ y ∧ z ≠ 12 then (if gAll G ≤ mLaid A ∧ m ≠ 0 then (m, mMkN (nT N), mMkA G (nT N) A z y m) else (0, iU (nT N) 0 2, A)) else (0, iU (nT N) 0 1, A)
abbrev mPlay (G N : Nat → Int) (A : Nat → Nat → Int) (a b : Int) : MO := mPl G N A (mPlc G a) (mPlc G b) (mAm G A (mPlc G a) (mPlc G b))
theorem mPlc_rng (hG : gmV G) : mPlc G a = -1 ∨ gPla G (mPlc G a) := by
  unfold mPlc
  split
  · rename_i h; exact Or.inr h
  · exact Or.inl rfl
theorem sp_mPlay (hm : moA w G N A) (hG : gmV G) (hV : mtV A) (hl : 0 ≤ N 1 ∧ N 1 ≤ 60) (ha : 0 ≤ a ∧ a ≤ 65535) (hb : 0 ≤ b ∧ b ≤ 65535) (hB : ∀ z y, gCol G z ∨ gCel G z → gPla G y → gAll G ≤ mLaid A → ¬ mAm G A z y = 0 → okR G A z y (mAm G A z y) (mTp G A z)) (hd : 6 ≤ d) (hq : 136 ≤ q) : zr L xs d q 110 [.ref 817, iV a, iV b] w cn sn (mRO w cn sn G (mPlay G N A a b)) := by
  obtain ⟨d, rfl⟩ : ∃ e, d = e + 1 := ⟨d - 1, by omega⟩
  have m0 := hm.1
  have hA := gAll_rng hG
  have hL := mLaid_rng (A := A)
  have hG' := hG
  unfold gmV at hG'
  unfold mPlay
  have pz := mPlc_rng (a := a) hG
  have py := mPlc_rng (a := b) hG
  refine ⟨_, rfl, ?_⟩
  show zw _ _ _ _ 110 0 [some (.ref 817), some (iV a), some (iV b), none, none, none] [] _ _ _ _
  refine zw_aload_n z110_0 rfl ?_
  refine zw_iconst z110_1 (v := iI 0) rfl ?_
  refine zj_putf z110_2 m0 (Nat.le_of_ble_eq_true rfl) (by rfl) (fun w1 n1 f1 => ?_)
  have hmA := mo_put (N' := nT N) (G' := G) hm n1 f1
  have F1 : zF moS w w1 := zF.rf.step f1 (by omega)
  have m0 := hmA.1
  refine zw_aload_n z110_5 rfl ?_
  refine zw_iload_n z110_6 rfl ?_
  refine zw_vv (n := 3) z110_7 rfl rfl (by assumption) (Nat.le_of_ble_eq_true rfl) (by omega) (sp_mPlaceOf hmA hG ha (by omega) (by omega)) ?_
  refine zw_istore_n z110_10 rfl ?_
  refine zw_aload_n z110_11 rfl ?_
  refine zw_iload_n z110_12 rfl ?_
  refine zw_vv (n := 3) z110_13 rfl rfl (by assumption) (Nat.le_of_ble_eq_true rfl) (by omega) (sp_mPlaceOf hmA hG hb (by omega) (by omega)) ?_
  generalize mPlc G a = z at *
  generalize mPlc G b = y at *
  refine zw_istore z110_16 rfl ?_
  have kf : ¬ (0 ≤ z ∧ 0 ≤ y ∧ z ≠ 12) → zw L xs (d + 1) q 110 33 [some (.ref 817), some (iV a), some (iV b), some (iV z), some (iV y), none] [] w1 cn sn (fun o w' cn' sn' => ∃ v, o = .inl v ∧ mRO w cn sn G (mPl G N A z y (mAm G A z y)) v w' cn' sn') := by
    intro hn
    rw [show mPl G N A z y (mAm G A z y) = _ from if_neg hn]
    refine zw_aload_n z110_33 rfl ?_
    refine zw_iconst z110_34 (v := iI 1) rfl ?_
    refine zw_cv (n := 2) z110_35 rfl rfl m0 (Nat.le_of_ble_eq_true rfl) (by omega) (sp_mRefuse hmA) (fun v w2 cn2 sn2 h => ?_)
    obtain ⟨rfl, rfl, rfl, hmB, f2⟩ := h
    exact zw_iret z110_38 rfl ⟨_, rfl, rfl, rfl, rfl, hmB, F1.trans f2⟩
  refine zw_iload_n z110_18 rfl ?_
  refine zj_if_lt z110_19 (by omega) (fun h1 => ?_) (fun h1 => ?_)
  · exact kf (fun h => by omega)
  refine zw_iload z110_22 rfl ?_
  refine zj_if_lt z110_24 (by omega) (fun h2 => ?_) (fun h2 => ?_)
  · exact kf (fun h => by omega)
  refine zw_iload_n z110_27 rfl ?_
  refine zw_bipush z110_28 (v := iI (12)) (by decide +kernel) ?_
  refine zj_icmp_ne z110_30 (by omega) (by omega) (fun h3 => ?_) (fun h3 => ?_)
  rotate_left
  · exact kf (fun h => by omega)
  have gz : gCol G z ∨ gCel G z := by omega
  have gy : gPla G y := by omega
  have k81 : ∀ m, m = mAm G A z y → zw L xs (d + 1) q 110 81 [some (.ref 817), some (iV a), some (iV b), some (iV z), some (iV y), none] [iV m] w1 cn sn (fun o w' cn' sn' => ∃ v, o = .inl v ∧ mRO w cn sn G (mPl G N A z y (mAm G A z y)) v w' cn' sn') := by
    intro m hme
    have hmr : 0 ≤ m ∧ m ≤ 52 := by
      rw [hme]
      unfold mAm
      split
      · have h1 := hV.2.1 z.toNat
        have := mMo_rng (G := G) (A := A) (z := z) (y := y) (A 1 z.toNat).toNat 1 0 (by omega)
        unfold mMost
        omega
      · split <;> omega
    have hB := hB z y gz gy
    rw [← hme] at hB
    rw [← hme]
    have kg : ¬ (gAll G ≤ mLaid A ∧ m ≠ 0) → zw L xs (d + 1) q 110 99 [some (.ref 817), some (iV a), some (iV b), some (iV z), some (iV y), some (iV m)] [] w1 cn sn (fun o w' cn' sn' => ∃ v, o = .inl v ∧ mRO w cn sn G (mPl G N A z y m) v w' cn' sn') := by
      intro hn
      rw [show mPl G N A z y m = _ from (if_pos ⟨by omega, by omega, h3⟩).trans (if_neg hn)]
      refine zw_aload_n z110_99 rfl ?_
      refine zw_iconst z110_100 (v := iI 2) rfl ?_
      refine zw_cv (n := 2) z110_101 rfl rfl m0 (Nat.le_of_ble_eq_true rfl) (by omega) (sp_mRefuse hmA) (fun v w2 cn2 sn2 h => ?_)
      obtain ⟨rfl, rfl, rfl, hmB, f2⟩ := h
      exact zw_iret z110_104 rfl ⟨_, rfl, rfl, rfl, rfl, hmB, F1.trans f2⟩
    refine zw_istore z110_81 rfl ?_
    refine zw_aload_n z110_83 rfl ?_
    refine zw_vv (n := 3) z110_84 rfl rfl (by assumption) (Nat.le_of_ble_eq_true rfl) (by omega) (sp_mLaid hmA hV) ?_
    refine zw_aload_n z110_87 rfl ?_
    refine zw_vv (n := 1) z110_88 rfl rfl (by assumption) (Nat.le_of_ble_eq_true rfl) (by omega) (sp_mAll hmA) ?_
    refine zj_icmp_lt z110_91 (by omega) (by omega) (fun h4 => ?_) (fun h4 => ?_)
    · exact kg (fun h => by have := h.1; omega)
    refine zw_iload z110_94 rfl ?_
    refine zj_if_ne z110_96 (by omega) (fun h5 => ?_) (fun h5 => ?_)
    rotate_left
    · exact kg (fun h => h5 h.2)
    rw [show mPl G N A z y m = _ from (if_pos ⟨by omega, by omega, h3⟩).trans (if_pos ⟨by omega, h5⟩)]
    refine zw_aload_n z110_105 rfl ?_
    refine zw_iload_n z110_106 rfl ?_
    refine zw_iload z110_107 rfl ?_
    refine zw_iload z110_109 rfl ?_
    refine zw_cv (n := 5) z110_111 rfl rfl m0 (Nat.le_of_ble_eq_true rfl) (by omega) (sp_mMake hmA hG hV hl gz (by omega) (hB (by omega) h5) (by omega) (by omega)) (fun v w2 cn2 sn2 h => ?_)
    obtain ⟨rfl, rfl, rfl, hmB, f2⟩ := h
    refine zw_iload z110_114 rfl ?_
    exact zw_iret z110_116 rfl ⟨_, rfl, rfl, rfl, rfl, hmB, F1.trans f2⟩
  have k66 : ¬ (gCol G z ∧ gCol G y) → zw L xs (d + 1) q 110 66 [some (.ref 817), some (iV a), some (iV b), some (iV z), some (iV y), none] [] w1 cn sn (fun o w' cn' sn' => ∃ v, o = .inl v ∧ mRO w cn sn G (mPl G N A z y (mAm G A z y)) v w' cn' sn') := by
    intro hn
    refine zw_aload_n z110_66 rfl ?_
    refine zw_iload_n z110_67 rfl ?_
    refine zw_iload z110_68 rfl ?_
    refine zw_vv (n := 4) z110_70 rfl rfl (by assumption) (Nat.le_of_ble_eq_true rfl) (by omega) (sp_mMayOne hmA hG hV gz gy (by omega) (by omega)) ?_
    refine zj_b_eq z110_73 (fun h6 => ?_) (fun h6 => ?_)
    · refine zw_iconst z110_80 (v := iI 0) rfl ?_
      exact k81 0 ((if_neg hn).trans (if_neg h6)).symm
    · refine zw_iconst z110_76 (v := iI 1) rfl ?_
      refine zw_goto z110_77 ?_
      exact k81 1 ((if_neg hn).trans (if_pos h6)).symm
  refine zw_aload_n z110_39 rfl ?_
  refine zw_iload_n z110_40 rfl ?_
  refine zw_vv (n := 2) z110_41 rfl rfl (by assumption) (Nat.le_of_ble_eq_true rfl) (by omega) (sp_mIsColumn hmA hG (by omega) (by omega) (by omega)) ?_
  refine zj_b_eq z110_44 (fun h7 => ?_) (fun h7 => ?_)
  · exact k66 (fun h => h7 h.1)
  refine zw_aload_n z110_47 rfl ?_
  refine zw_iload z110_48 rfl ?_
  refine zw_vv (n := 2) z110_50 rfl rfl (by assumption) (Nat.le_of_ble_eq_true rfl) (by omega) (sp_mIsColumn hmA hG (by omega) (by omega) (by omega)) ?_
  refine zj_b_eq z110_53 (fun h8 => ?_) (fun h8 => ?_)
  · exact k66 (fun h => h8 h.2)
  refine zw_aload_n z110_56 rfl ?_
  refine zw_iload_n z110_57 rfl ?_
  refine zw_iload z110_58 rfl ?_
  refine zw_vv (n := 5) z110_60 rfl rfl (by assumption) (Nat.le_of_ble_eq_true rfl) (by omega) (sp_mMostOf hmA hG hV h7 h8 (by omega) (by omega)) ?_
  refine zw_goto z110_63 ?_
  exact k81 _ (if_pos ⟨h7, h8⟩).symm
def mUn (G N : Nat → Int) (A : Nat → Nat → Int) : MO := if N 1 = 0 then (0, iU (nT N) 0 1, A) else (A 6 (4 * (N 1 - 1) + 2).toNat, iU (iU (nT N) 1 (N 1 - 1)) 2 (-1), mBr G A (A 6 (4 * (N 1 - 1) + 1).toNat) (A 6 (4 * (N 1 - 1)).toNat) (A 6 (4 * (N 1 - 1) + 2).toNat) (A 6 (4 * (N 1 - 1) + 3).toNat))
theorem sp_mUndo (hm : moA w G N A) (hG : gmV G) (hV : mtV A) (hl : 0 ≤ N 1 ∧ N 1 ≤ 60) (hB : ¬ N 1 = 0 → (1 ≤ A 6 (4 * (N 1 - 1) + 2).toNat ∧ A 6 (4 * (N 1 - 1) + 2).toNat ≤ 52) ∧ okR G A (A 6 (4 * (N 1 - 1) + 1).toNat) (A 6 (4 * (N 1 - 1)).toNat) (A 6 (4 * (N 1 - 1) + 2).toNat) (A 6 (4 * (N 1 - 1) + 3).toNat)) (hd : 4 ≤ d) (hq : 90 ≤ q) : zr L xs d q 114 [.ref 817] w cn sn (mRO w cn sn G (mUn G N A)) := by
  obtain ⟨d, rfl⟩ : ∃ e, d = e + 1 := ⟨d - 1, by omega⟩
  have m0 := hm.1
  refine ⟨_, rfl, ?_⟩
  show zw _ _ _ _ 114 0 [some (.ref 817), none] [] _ _ _ _
  refine zw_aload_n z114_0 rfl ?_
  refine zw_iconst z114_1 (v := iI 0) rfl ?_
  refine zj_putf z114_2 m0 (Nat.le_of_ble_eq_true rfl) (by rfl) (fun w1 n1 f1 => ?_)
  have hmA := mo_put (N' := nT N) (G' := G) hm n1 f1
  have F1 : zF moS w w1 := zF.rf.step f1 (by omega)
  have m0 := hmA.1
  refine zw_aload_n z114_5 rfl ?_
  refine zw_getf z114_6 (by assumption) (by rfl) ?_
  rw [show nT N 1 = N 1 from rfl]
  refine zj_if_ne z114_9 (by omega) (fun h1 => ?_) (fun h1 => ?_)
  rotate_left
  · rw [show mUn G N A = _ from if_pos (by omega)]
    refine zw_aload_n z114_12 rfl ?_
    refine zw_iconst z114_13 (v := iI 1) rfl ?_
    refine zw_cv (n := 2) z114_14 rfl rfl m0 (Nat.le_of_ble_eq_true rfl) (by omega) (sp_mRefuse hmA) (fun v w2 cn2 sn2 h => ?_)
    obtain ⟨rfl, rfl, rfl, hmB, f2⟩ := h
    exact zw_iret z114_17 rfl ⟨_, rfl, rfl, rfl, rfl, hmB, F1.trans f2⟩
  rw [show mUn G N A = _ from if_neg h1]
  obtain ⟨o1, o2⟩ := hB h1
  refine zw_aload_n z114_18 rfl ?_
  refine zw_dup z114_19 rfl ?_
  refine zw_getf z114_20 (by assumption) (by rfl) ?_
  refine zw_iconst z114_23 (v := iI 1) rfl ?_
  refine zj_sub z114_24 ?_
  refine zj_putf z114_25 m0 (Nat.le_of_ble_eq_true rfl) (by rfl) (fun w2 n2 f2 => ?_)
  refine zw_aload_n z114_28 rfl ?_
  refine zw_iconst z114_29 (v := iI (-1)) rfl ?_
  refine zj_putf z114_30 n2 (Nat.le_of_ble_eq_true rfl) (by rfl) (fun w3 n3 f3 => ?_)
  have hmB := mo_put (N' := iU (iU (nT N) 1 (N 1 - 1)) 2 (-1)) (G' := G) hmA n3 ⟨f3.1.trans f2.1, fun j hj => (f3.2 j hj).trans (f2.2 j hj)⟩
  have m0 := hmB.1
  have b6 := hmB.2.2.2.2.2.2.2.1
  have e1 : iU (iU (nT N) 1 (N 1 - 1)) 2 (-1) 1 = N 1 - 1 := rfl
  refine zw_aload_n z114_33 rfl ?_
  refine zw_getf z114_34 (by assumption) (by rfl) ?_
  refine zw_iconst z114_37 (v := iI 4) rfl ?_
  refine zw_aload_n z114_38 rfl ?_
  refine zw_getf z114_39 (by assumption) (by rfl) ?_
  refine zj_mul z114_42 ?_
  refine zw_iconst z114_43 (v := iI 2) rfl ?_
  refine zj_add z114_44 ?_
  rw [e1]
  refine zj_ald z114_45 b6 (by omega) (by decide) ?_
  refine zw_istore_n z114_46 rfl ?_
  refine zw_aload_n z114_47 rfl ?_
  refine zw_aload_n z114_48 rfl ?_
  refine zw_getf z114_49 (by assumption) (by rfl) ?_
  refine zw_iconst z114_52 (v := iI 4) rfl ?_
  refine zw_aload_n z114_53 rfl ?_
  refine zw_getf z114_54 (by assumption) (by rfl) ?_
  refine zj_mul z114_57 ?_
  refine zw_iconst z114_58 (v := iI 1) rfl ?_
  refine zj_add z114_59 ?_
  rw [e1]
  refine zj_ald z114_60 b6 (by omega) (by decide) ?_
  refine zw_aload_n z114_61 rfl ?_
  refine zw_getf z114_62 (by assumption) (by rfl) ?_
  refine zw_iconst z114_65 (v := iI 4) rfl ?_
  refine zw_aload_n z114_66 rfl ?_
  refine zw_getf z114_67 (by assumption) (by rfl) ?_
  refine zj_mul z114_70 ?_
  rw [e1]
  refine zj_ald z114_71 b6 (by omega) (by decide) ?_
  refine zw_iload_n z114_72 rfl ?_
  refine zw_aload_n z114_73 rfl ?_
  refine zw_getf z114_74 (by assumption) (by rfl) ?_
  refine zw_iconst z114_77 (v := iI 4) rfl ?_
  refine zw_aload_n z114_78 rfl ?_
  refine zw_getf z114_79 (by assumption) (by rfl) ?_
  refine zj_mul z114_82 ?_
  refine zw_iconst z114_83 (v := iI 3) rfl ?_
  refine zj_add z114_84 ?_
  rw [e1]
  refine zj_ald z114_85 b6 (by omega) (by decide) ?_
  refine zw_cv (n := 6) z114_86 rfl rfl m0 (Nat.le_of_ble_eq_true rfl) (by omega) (sp_mBring hmB hG hV o1 o2 (by omega) (by omega)) (fun v w4 cn4 sn4 h => ?_)
  obtain ⟨rfl, rfl, rfl, hmC, f4⟩ := h
  refine zw_iload_n z114_89 rfl ?_
  exact zw_iret z114_90 rfl ⟨_, rfl, rfl, rfl, rfl, hmC, ((F1.step f2 (by omega)).step f3 (by omega)).trans f4⟩
theorem sp_mLog (hm : moA w G N A) : zr L xs d q 115 [.ref 817] w cn sn (mRO w cn sn G (N 1, nT N, A)) := by
  have m0 := hm.1
  refine ⟨_, rfl, ?_⟩
  show zw _ _ _ _ 115 0 [some (.ref 817)] [] _ _ _ _
  refine zw_aload_n z115_0 rfl ?_
  refine zw_iconst z115_1 (v := iI 0) rfl ?_
  refine zj_putf z115_2 m0 (Nat.le_of_ble_eq_true rfl) (by rfl) (fun w1 n1 f1 => ?_)
  have hmA := mo_put (N' := nT N) (G' := G) hm n1 f1
  have m0 := hmA.1
  refine zw_aload_n z115_5 rfl ?_
  refine zw_getf z115_6 (by assumption) (by rfl) ?_
  exact zw_iret z115_9 rfl ⟨_, rfl, rfl, rfl, rfl, hmA, zF.rf.step f1 (by omega)⟩
theorem sp_mHint (hm : moA w G N A) : zr L xs d q 132 [.ref 817] w cn sn (mRO w cn sn G (N 2, nT N, A)) := by
  have m0 := hm.1
  refine ⟨_, rfl, ?_⟩
  show zw _ _ _ _ 132 0 [some (.ref 817)] [] _ _ _ _
  refine zw_aload_n z132_0 rfl ?_
  refine zw_iconst z132_1 (v := iI 0) rfl ?_
  refine zj_putf z132_2 m0 (Nat.le_of_ble_eq_true rfl) (by rfl) (fun w1 n1 f1 => ?_)
  have hmA := mo_put (N' := nT N) (G' := G) hm n1 f1
  have m0 := hmA.1
  refine zw_aload_n z132_5 rfl ?_
  refine zw_getf z132_6 (by assumption) (by rfl) ?_
  exact zw_iret z132_9 rfl ⟨_, rfl, rfl, rfl, rfl, hmA, zF.rf.step f1 (by omega)⟩
theorem sp_mPositions (hm : moA w G N A) : zr L xs d q 133 [.ref 817] w cn sn (mRO w cn sn G (N 3, nT N, A)) := by
  have m0 := hm.1
  refine ⟨_, rfl, ?_⟩
  show zw _ _ _ _ 133 0 [some (.ref 817)] [] _ _ _ _
  refine zw_aload_n z133_0 rfl ?_
  refine zw_iconst z133_1 (v := iI 0) rfl ?_
  refine zj_putf z133_2 m0 (Nat.le_of_ble_eq_true rfl) (by rfl) (fun w1 n1 f1 => ?_)
  have hmA := mo_put (N' := nT N) (G' := G) hm n1 f1
  have m0 := hmA.1
  refine zw_aload_n z133_5 rfl ?_
  refine zw_getf z133_6 (by assumption) (by rfl) ?_
  exact zw_iret z133_9 rfl ⟨_, rfl, rfl, rfl, rfl, hmA, zF.rf.step f1 (by omega)⟩
abbrev mSz (G : Nat → Int) (A : Nat → Nat → Int) (z : Int) : Int := if z = 12 then mAH A else if gCel G z then (if A 2 (z - 8).toNat < 0 then 0 else 1) else if gCol G z then A 1 z.toNat else -1
theorem sp_mSize (hm : moA w G N A) (hG : gmV G) (hV : mtV A) (hz : iR z) (hd : 2 ≤ d) (hq : 43 ≤ q) : zr L xs d q 117 [.ref 817, iV z] w cn sn (mRO w cn sn G (mSz G A z, nT N, A)) := by
  obtain ⟨d, rfl⟩ : ∃ e, d = e + 1 := ⟨d - 1, by omega⟩
  have m0 := hm.1
  have hG' := hG
  unfold gmV at hG'
  have hV' := hV
  obtain ⟨v0, v1, v2, v3, v4, v5⟩ := hV'
  refine ⟨_, rfl, ?_⟩
  show zw _ _ _ _ 117 0 [some (.ref 817), some (iV z)] [] _ _ _ _
  refine zw_aload_n z117_0 rfl ?_
  refine zw_iconst z117_1 (v := iI 0) rfl ?_
  refine zj_putf z117_2 m0 (Nat.le_of_ble_eq_true rfl) (by rfl) (fun w1 n1 f1 => ?_)
  have hmA := mo_put (N' := nT N) (G' := G) hm n1 f1
  have F1 : zF moS w w1 := zF.rf.step f1 (by omega)
  have hm9 := hmA
  obtain ⟨m0, a0, a1, a2, a3, a4, a5, a6, a7, a8, a9, a10, a11, a12⟩ := hm9
  unfold mSz
  refine zw_iload_n z117_5 rfl ?_
  refine zw_bipush z117_6 (v := iI (12)) (by decide +kernel) ?_
  refine zj_icmp_ne z117_8 (by omega) (by omega) (fun h1 => ?_) (fun h1 => ?_)
  rotate_left
  · rw [if_pos (by omega)]
    refine zw_aload_n z117_11 rfl ?_
    refine zw_vv (n := 1) z117_12 rfl rfl (by assumption) (Nat.le_of_ble_eq_true rfl) (by omega) (sp_mAtHome hmA hV) ?_
    exact zw_iret z117_15 rfl ⟨_, rfl, rfl, rfl, rfl, hmA, F1⟩
  rw [if_neg h1]
  refine zw_aload_n z117_16 rfl ?_
  refine zw_iload_n z117_17 rfl ?_
  refine zw_vv (n := 2) z117_18 rfl rfl (by assumption) (Nat.le_of_ble_eq_true rfl) (by omega) (sp_mIsCell hmA hG hz (by omega) (by omega)) ?_
  refine zj_b_eq z117_21 (fun h2 => ?_) (fun h2 => ?_)
  rotate_left
  · rw [if_pos h2]
    refine zw_aload_n z117_24 rfl ?_
    refine zw_getf z117_25 (by assumption) (by rfl) ?_
    refine zw_iload_n z117_28 rfl ?_
    refine zw_bipush z117_29 (v := iI (8)) (by decide +kernel) ?_
    refine zj_sub z117_31 ?_
    refine zj_aldB z117_32 a2 (by omega) (by decide) v2 (fun v32 e32 r32 => ?_)
    refine zj_if_ge z117_33 (by omega) (fun h3 => ?_) (fun h3 => ?_)
    · rw [if_neg (by omega)]
      refine zw_iconst z117_40 (v := iI 1) rfl ?_
      refine zw_goto z117_41 ?_
      exact zw_iret z117_62 rfl ⟨_, rfl, rfl, rfl, rfl, hmA, F1⟩
    · rw [if_pos (by omega)]
      refine zw_iconst z117_36 (v := iI 0) rfl ?_
      refine zw_goto z117_37 ?_
      exact zw_iret z117_62 rfl ⟨_, rfl, rfl, rfl, rfl, hmA, F1⟩
  rw [if_neg h2]
  refine zw_aload_n z117_44 rfl ?_
  refine zw_iload_n z117_45 rfl ?_
  refine zw_vv (n := 2) z117_46 rfl rfl (by assumption) (Nat.le_of_ble_eq_true rfl) (by omega) (sp_mIsColumn hmA hG hz (by omega) (by omega)) ?_
  refine zj_b_eq z117_49 (fun h4 => ?_) (fun h4 => ?_)
  · rw [if_neg h4]
    refine zw_iconst z117_61 (v := iI (-1)) rfl ?_
    exact zw_iret z117_62 rfl ⟨_, rfl, rfl, rfl, rfl, hmA, F1⟩
  · rw [if_pos h4]
    refine zw_aload_n z117_52 rfl ?_
    refine zw_getf z117_53 (by assumption) (by rfl) ?_
    refine zw_iload_n z117_56 rfl ?_
    refine zj_ald z117_57 a1 (by omega) (by decide) ?_
    refine zw_goto z117_58 ?_
    exact zw_iret z117_62 rfl ⟨_, rfl, rfl, rfl, rfl, hmA, F1⟩
abbrev mCd (G : Nat → Int) (A : Nat → Nat → Int) (z k : Int) : Int := if z = 12 then (if (0 ≤ k ∧ k ≤ G 4 - 1) ∧ 0 < A 3 k.toNat then G 4 * (A 3 k.toNat - 1) + k else -1) else if gCel G z then (if k = 0 then A 2 (z - 8).toNat else -1) else if gCol G z ∧ 0 ≤ k ∧ k < A 1 z.toNat then A 0 (52 * z + k).toNat else -1
theorem sp_mCard (hm : moA w G N A) (hG : gmV G) (hV : mtV A) (hz : iR z) (hk : iR k) (hd : 2 ≤ d) (hq : 43 ≤ q) : zr L xs d q 116 [.ref 817, iV z, iV k] w cn sn (mRO w cn sn G (mCd G A z k, nT N, A)) := by
  obtain ⟨d, rfl⟩ : ∃ e, d = e + 1 := ⟨d - 1, by omega⟩
  have m0 := hm.1
  have hG' := hG
  unfold gmV at hG'
  have hV' := hV
  obtain ⟨v0, v1, v2, v3, v4, v5⟩ := hV'
  refine ⟨_, rfl, ?_⟩
  show zw _ _ _ _ 116 0 [some (.ref 817), some (iV z), some (iV k)] [] _ _ _ _
  refine zw_aload_n z116_0 rfl ?_
  refine zw_iconst z116_1 (v := iI 0) rfl ?_
  refine zj_putf z116_2 m0 (Nat.le_of_ble_eq_true rfl) (by rfl) (fun w1 n1 f1 => ?_)
  have hmA := mo_put (N' := nT N) (G' := G) hm n1 f1
  have F1 : zF moS w w1 := zF.rf.step f1 (by omega)
  have hm9 := hmA
  obtain ⟨m0, a0, a1, a2, a3, a4, a5, a6, a7, a8, a9, a10, a11, a12⟩ := hm9
  unfold mCd
  refine zw_iload_n z116_5 rfl ?_
  refine zw_bipush z116_6 (v := iI (12)) (by decide +kernel) ?_
  refine zj_icmp_ne z116_8 (by omega) (by omega) (fun h1 => ?_) (fun h1 => ?_)
  rotate_left
  · rw [if_pos (show z = 12 by omega)]
    refine zw_iload_n z116_11 rfl ?_
    refine zw_iconst z116_12 (v := iI 0) rfl ?_
    refine zw_aload_n z116_13 rfl ?_
    refine zw_getf z116_14 (by assumption) (by rfl) ?_
    refine zw_iconst z116_17 (v := iI 1) rfl ?_
    refine zj_sub z116_18 ?_
    refine zw_vs (n := 3) z116_19 rfl rfl (Nat.le_of_ble_eq_true rfl) (by omega) (sp_mWithin hk (by omega) (by omega)) ?_
    refine zj_b_eq z116_22 (fun h2 => ?_) (fun h2 => ?_)
    · rw [if_neg (fun h => h2 h.1)]
      refine zw_iconst z116_52 (v := iI (-1)) rfl ?_
      exact zw_iret z116_53 rfl ⟨_, rfl, rfl, rfl, rfl, hmA, F1⟩
    refine zw_aload_n z116_25 rfl ?_
    refine zw_getf z116_26 (by assumption) (by rfl) ?_
    refine zw_iload_n z116_29 rfl ?_
    refine zj_aldB z116_30 a3 (by omega) (by decide) v3 (fun v30 e30 r30 => ?_)
    refine zj_if_le z116_31 (by omega) (fun h3 => ?_) (fun h3 => ?_)
    · rw [if_neg (fun h => by omega)]
      refine zw_iconst z116_52 (v := iI (-1)) rfl ?_
      exact zw_iret z116_53 rfl ⟨_, rfl, rfl, rfl, rfl, hmA, F1⟩
    · rw [if_pos ⟨h2, by omega⟩]
      refine zw_aload_n z116_34 rfl ?_
      refine zw_getf z116_35 (by assumption) (by rfl) ?_
      refine zw_aload_n z116_38 rfl ?_
      refine zw_getf z116_39 (by assumption) (by rfl) ?_
      refine zw_iload_n z116_42 rfl ?_
      refine zj_ald z116_43 a3 (by omega) (by decide) ?_
      refine zw_iconst z116_44 (v := iI 1) rfl ?_
      refine zj_sub z116_45 ?_
      refine zj_mul z116_46 ?_
      refine zw_iload_n z116_47 rfl ?_
      refine zj_add z116_48 ?_
      refine zw_goto z116_49 ?_
      exact zw_iret z116_53 rfl ⟨_, rfl, rfl, rfl, rfl, hmA, F1⟩
  rw [if_neg h1]
  refine zw_aload_n z116_54 rfl ?_
  refine zw_iload_n z116_55 rfl ?_
  refine zw_vv (n := 2) z116_56 rfl rfl (by assumption) (Nat.le_of_ble_eq_true rfl) (by omega) (sp_mIsCell hmA hG hz (by omega) (by omega)) ?_
  refine zj_b_eq z116_59 (fun h2 => ?_) (fun h2 => ?_)
  rotate_left
  · rw [if_pos h2]
    refine zw_iload_n z116_62 rfl ?_
    refine zj_if_ne z116_63 (by omega) (fun h3 => ?_) (fun h3 => ?_)
    · rw [if_neg h3]
      refine zw_iconst z116_78 (v := iI (-1)) rfl ?_
      exact zw_iret z116_79 rfl ⟨_, rfl, rfl, rfl, rfl, hmA, F1⟩
    · rw [if_pos (show k = 0 by omega)]
      refine zw_aload_n z116_66 rfl ?_
      refine zw_getf z116_67 (by assumption) (by rfl) ?_
      refine zw_iload_n z116_70 rfl ?_
      refine zw_bipush z116_71 (v := iI (8)) (by decide +kernel) ?_
      refine zj_sub z116_73 ?_
      refine zj_ald z116_74 a2 (by omega) (by decide) ?_
      refine zw_goto z116_75 ?_
      exact zw_iret z116_79 rfl ⟨_, rfl, rfl, rfl, rfl, hmA, F1⟩
  rw [if_neg h2]
  have kf : ¬ (gCol G z ∧ 0 ≤ k ∧ k < A 1 z.toNat) → zw L xs (d + 1) q 116 116 [some (.ref 817), some (iV z), some (iV k)] [] w1 cn sn (fun o w' cn' sn' => ∃ v, o = .inl v ∧ mRO w cn sn G (if gCol G z ∧ 0 ≤ k ∧ k < A 1 z.toNat then A 0 (52 * z + k).toNat else -1, nT N, A) v w' cn' sn') := by
    intro hn
    rw [if_neg hn]
    refine zw_iconst z116_116 (v := iI (-1)) rfl ?_
    exact zw_iret z116_117 rfl ⟨_, rfl, rfl, rfl, rfl, hmA, F1⟩
  refine zw_aload_n z116_80 rfl ?_
  refine zw_iload_n z116_81 rfl ?_
  refine zw_vv (n := 2) z116_82 rfl rfl (by assumption) (Nat.le_of_ble_eq_true rfl) (by omega) (sp_mIsColumn hmA hG hz (by omega) (by omega)) ?_
  refine zj_b_eq z116_85 (fun h4 => ?_) (fun h4 => ?_)
  · exact kf (fun h => h4 h.1)
  refine zw_iload_n z116_88 rfl ?_
  refine zj_if_lt z116_89 (by omega) (fun h5 => ?_) (fun h5 => ?_)
  · exact kf (fun h => by omega)
  refine zw_iload_n z116_92 rfl ?_
  refine zw_aload_n z116_93 rfl ?_
  refine zw_getf z116_94 (by assumption) (by rfl) ?_
  refine zw_iload_n z116_97 rfl ?_
  refine zj_aldB z116_98 a1 (by omega) (by decide) v1 (fun v98 e98 r98 => ?_)
  refine zj_icmp_ge z116_99 (by omega) (by omega) (fun h6 => ?_) (fun h6 => ?_)
  · exact kf (fun h => by omega)
  rw [if_pos ⟨h4, by omega, by omega⟩]
  refine zw_aload_n z116_102 rfl ?_
  refine zw_getf z116_103 (by assumption) (by rfl) ?_
  refine zw_bipush z116_106 (v := iI (52)) (by decide +kernel) ?_
  refine zw_iload_n z116_108 rfl ?_
  refine zj_mul z116_109 ?_
  refine zw_iload_n z116_110 rfl ?_
  refine zj_add z116_111 ?_
  refine zj_ald z116_112 a0 (by omega) (by decide) ?_
  refine zw_goto z116_113 ?_
  exact zw_iret z116_117 rfl ⟨_, rfl, rfl, rfl, rfl, hmA, F1⟩
abbrev mMs (G : Nat → Int) (A : Nat → Nat → Int) (z y : Int) : Int := if gCol G z ∧ gCol G y ∧ mLaid A = gAll G then mMost G A z y else 0
theorem sp_mMost (hm : moA w G N A) (hG : gmV G) (hV : mtV A) (hz : iR z) (hy : iR y) (hd : 6 ≤ d) (hq : 136 ≤ q) : zr L xs d q 118 [.ref 817, iV z, iV y] w cn sn (mRO w cn sn G (mMs G A z y, nT N, A)) := by
  obtain ⟨d, rfl⟩ : ∃ e, d = e + 1 := ⟨d - 1, by omega⟩
  have m0 := hm.1
  have hA := gAll_rng hG
  have hL := mLaid_rng (A := A)
  refine ⟨_, rfl, ?_⟩
  show zw _ _ _ _ 118 0 [some (.ref 817), some (iV z), some (iV y)] [] _ _ _ _
  refine zw_aload_n z118_0 rfl ?_
  refine zw_iconst z118_1 (v := iI 0) rfl ?_
  refine zj_putf z118_2 m0 (Nat.le_of_ble_eq_true rfl) (by rfl) (fun w1 n1 f1 => ?_)
  have hmA := mo_put (N' := nT N) (G' := G) hm n1 f1
  have F1 : zF moS w w1 := zF.rf.step f1 (by omega)
  have m0 := hmA.1
  unfold mMs
  have kf : ¬ (gCol G z ∧ gCol G y ∧ mLaid A = gAll G) → zw L xs (d + 1) q 118 41 [some (.ref 817), some (iV z), some (iV y)] [] w1 cn sn (fun o w' cn' sn' => ∃ v, o = .inl v ∧ mRO w cn sn G (if gCol G z ∧ gCol G y ∧ mLaid A = gAll G then mMost G A z y else 0, nT N, A) v w' cn' sn') := by
    intro hn
    rw [if_neg hn]
    refine zw_iconst z118_41 (v := iI 0) rfl ?_
    exact zw_iret z118_42 rfl ⟨_, rfl, rfl, rfl, rfl, hmA, F1⟩
  refine zw_aload_n z118_5 rfl ?_
  refine zw_iload_n z118_6 rfl ?_
  refine zw_vv (n := 2) z118_7 rfl rfl (by assumption) (Nat.le_of_ble_eq_true rfl) (by omega) (sp_mIsColumn hmA hG hz (by omega) (by omega)) ?_
  refine zj_b_eq z118_10 (fun h1 => ?_) (fun h1 => ?_)
  · exact kf (fun h => h1 h.1)
  refine zw_aload_n z118_13 rfl ?_
  refine zw_iload_n z118_14 rfl ?_
  refine zw_vv (n := 2) z118_15 rfl rfl (by assumption) (Nat.le_of_ble_eq_true rfl) (by omega) (sp_mIsColumn hmA hG hy (by omega) (by omega)) ?_
  refine zj_b_eq z118_18 (fun h2 => ?_) (fun h2 => ?_)
  · exact kf (fun h => h2 h.2.1)
  refine zw_aload_n z118_21 rfl ?_
  refine zw_vv (n := 3) z118_22 rfl rfl (by assumption) (Nat.le_of_ble_eq_true rfl) (by omega) (sp_mLaid hmA hV) ?_
  refine zw_aload_n z118_25 rfl ?_
  refine zw_vv (n := 1) z118_26 rfl rfl (by assumption) (Nat.le_of_ble_eq_true rfl) (by omega) (sp_mAll hmA) ?_
  refine zj_icmp_ne z118_29 (by omega) (by omega) (fun h3 => ?_) (fun h3 => ?_)
  · exact kf (fun h => h3 h.2.2)
  rw [if_pos ⟨h1, h2, by omega⟩]
  refine zw_aload_n z118_32 rfl ?_
  refine zw_iload_n z118_33 rfl ?_
  refine zw_iload_n z118_34 rfl ?_
  refine zw_vv (n := 5) z118_35 rfl rfl (by assumption) (Nat.le_of_ble_eq_true rfl) (by omega) (sp_mMostOf hmA hG hV h1 h2 (by omega) (by omega)) ?_
  refine zw_goto z118_38 ?_
  exact zw_iret z118_42 rfl ⟨_, rfl, rfl, rfl, rfl, hmA, F1⟩
/-- sendHome -/
def mSl (G : Nat → Int) : Nat → Int → (Nat → Int) → (Nat → Nat → Int) → MO
  | 0, s, N, A => (s, N, A)
  | j + 1, s, N, A => if mSp G A 12 0 = -1 then (s, N, A) else mSl G j (s + 1) (mMkN N) (mMkA G N A (mSp G A 12 0) 12 1)
abbrev mSend (G N : Nat → Int) (A : Nat → Nat → Int) : MO := if gAll G ≤ mLaid A then mSl G 52 0 (nT N) A else (0, iU (nT N) 0 1, A)
theorem mSp_rng (hG : gmV G) : ∀ (j : Nat) (k : Int), 0 ≤ k → k + j ≤ 12 → mSp G A j k = -1 ∨ ((0 ≤ mSp G A j k ∧ mSp G A j k < 12) ∧ mSpC G A (mSp G A j k)) := by
  intro j
  induction j with
  | zero => intro k _ _; exact Or.inl rfl
  | succ j ih =>
    intro k h1 h2
    by_cases h : mSpC G A (mSpP k)
    · rw [show mSp G A (j + 1) k = mSpP k from if_pos h]
      exact Or.inr ⟨by unfold mSpP; split <;> omega, h⟩
    · rw [show mSp G A (j + 1) k = mSp G A j (k + 1) from if_neg h]
      exact ih (k + 1) (by omega) (by omega)
theorem lp_mSend {I : (Nat → Int) → (Nat → Nat → Int) → Nat → Prop} (hG : gmV G) (hI1 : ∀ N A u, I N A u → mtV A ∧ (0 ≤ N 1 ∧ N 1 ≤ 60)) (hI2 : ∀ N A u, I N A u → ¬ mSp G A 12 0 = -1 → okR G A (mSp G A 12 0) 12 1 (mTp G A (mSp G A 12 0)) ∧ ∃ v, u = v + 1 ∧ I (mMkN N) (mMkA G N A (mSp G A 12 0) 12 1) v) (hd : 5 ≤ d) (hq : 114 ≤ q) {R : MO} (kk : ∀ w', moA w' G R.2.1 R.2.2 → zF moS w w' → Q (oI R.1) w' cn sn) : ∀ (j : Nat) (s : Int) (N : Nat → Int) (A : Nat → Nat → Int) (w' : zi_W), moA w' G N A → I N A j → zF moS w w' → R = mSl G j s N A → zw L xs d q 113 29 [some (.ref 817), some (iV s), some (iV (mSp G A 12 0))] [] w' cn sn Q := by
  obtain ⟨d, rfl⟩ : ∃ e, d = e + 1 := ⟨d - 1, by omega⟩
  intro j
  induction j with
  | zero =>
    intro s N A w' hm hI hF he
    have hr := mSp_rng (A := A) hG 12 0 (by omega) (by omega)
    refine zw_iload_n z113_29 rfl ?_
    refine zj_if_lt z113_30 (by omega) (fun h3 => ?_) (fun h3 => ?_)
    · have he : R = (s, N, A) := he
      subst he
      refine zw_iload_n z113_52 rfl ?_
      exact zw_iret z113_53 rfl (kk w' hm hF)
    · obtain ⟨-, v, hv, -⟩ := hI2 N A 0 hI (by omega)
      exfalso; omega
  | succ j ih =>
    intro s N A w' hm hI hF he
    have hr := mSp_rng (A := A) hG 12 0 (by omega) (by omega)
    obtain ⟨i1, i2⟩ := hI1 N A _ hI
    have m0 := hm.1
    refine zw_iload_n z113_29 rfl ?_
    refine zj_if_lt z113_30 (by omega) (fun h3 => ?_) (fun h3 => ?_)
    · have he : R = (s, N, A) := he.trans (if_pos (by omega))
      subst he
      refine zw_iload_n z113_52 rfl ?_
      exact zw_iret z113_53 rfl (kk w' hm hF)
    obtain ⟨o1, v, hv, o2⟩ := hI2 N A _ hI (by omega)
    obtain rfl : v = j := by omega
    have hc : mSpC G A (mSp G A 12 0) := by
      rcases hr with h | h
      · exfalso; omega
      · exact h.2
    have he : R = mSl G v (s + 1) (mMkN N) (mMkA G N A (mSp G A 12 0) 12 1) := he.trans (if_neg (by omega))
    generalize mSp G A 12 0 = p at *
    refine zw_aload_n z113_33 rfl ?_
    refine zw_iload_n z113_34 rfl ?_
    refine zw_bipush z113_35 (v := iI (12)) (by decide +kernel) ?_
    refine zw_iconst z113_37 (v := iI 1) rfl ?_
    refine zw_cv (n := 5) z113_38 rfl rfl m0 (Nat.le_of_ble_eq_true rfl) (by omega) (sp_mMake hm hG i1 i2 (by have := hc.1; omega) (by omega) o1 (by omega) (by omega)) (fun v w1 cn1 sn1 h => ?_)
    obtain ⟨rfl, rfl, rfl, hm1, f1⟩ := h
    have m0 := hm1.1
    refine zj_iinc z113_41 rfl rfl ?_
    refine zw_aload_n z113_44 rfl ?_
    refine zw_vv (n := 3) z113_45 rfl rfl (by assumption) (Nat.le_of_ble_eq_true rfl) (by omega) (sp_mSafePlace hm1 hG (hI1 _ _ _ o2).1 (by omega) (by omega)) ?_
    refine zw_istore_n z113_48 rfl ?_
    refine zw_goto z113_49 ?_
    exact ih (s + 1) _ _ w1 hm1 o2 (hF.trans f1) he
theorem sp_mSendHome {I : (Nat → Int) → (Nat → Nat → Int) → Nat → Prop} (hm : moA w G N A) (hG : gmV G) (hV : mtV A) (hI : gAll G ≤ mLaid A → I (nT N) A 52) (hI1 : ∀ N A u, I N A u → mtV A ∧ (0 ≤ N 1 ∧ N 1 ≤ 60)) (hI2 : ∀ N A u, I N A u → ¬ mSp G A 12 0 = -1 → okR G A (mSp G A 12 0) 12 1 (mTp G A (mSp G A 12 0)) ∧ ∃ v, u = v + 1 ∧ I (mMkN N) (mMkA G N A (mSp G A 12 0) 12 1) v) (hd : 5 ≤ d) (hq : 114 ≤ q) : zr L xs d q 113 [.ref 817] w cn sn (mRO w cn sn G (mSend G N A)) := by
  have hd0 := hd
  obtain ⟨d, rfl⟩ : ∃ e, d = e + 1 := ⟨d - 1, by omega⟩
  have m0 := hm.1
  have hA := gAll_rng hG
  have hL := mLaid_rng (A := A)
  refine ⟨_, rfl, ?_⟩
  show zw _ _ _ _ 113 0 [some (.ref 817), none, none] [] _ _ _ _
  refine zw_aload_n z113_0 rfl ?_
  refine zw_iconst z113_1 (v := iI 0) rfl ?_
  refine zj_putf z113_2 m0 (Nat.le_of_ble_eq_true rfl) (by rfl) (fun w1 n1 f1 => ?_)
  have hmA := mo_put (N' := nT N) (G' := G) hm n1 f1
  have F1 : zF moS w w1 := zF.rf.step f1 (by omega)
  have m0 := hmA.1
  unfold mSend
  refine zw_aload_n z113_5 rfl ?_
  refine zw_vv (n := 3) z113_6 rfl rfl (by assumption) (Nat.le_of_ble_eq_true rfl) (by omega) (sp_mLaid hmA hV) ?_
  refine zw_aload_n z113_9 rfl ?_
  refine zw_vv (n := 1) z113_10 rfl rfl (by assumption) (Nat.le_of_ble_eq_true rfl) (by omega) (sp_mAll hmA) ?_
  refine zj_icmp_ge z113_13 (by omega) (by omega) (fun h1 => ?_) (fun h1 => ?_)
  rotate_left
  · rw [if_neg (by omega)]
    refine zw_aload_n z113_16 rfl ?_
    refine zw_iconst z113_17 (v := iI 1) rfl ?_
    refine zw_cv (n := 2) z113_18 rfl rfl m0 (Nat.le_of_ble_eq_true rfl) (by omega) (sp_mRefuse hmA) (fun v w2 cn2 sn2 h => ?_)
    obtain ⟨rfl, rfl, rfl, hmB, f2⟩ := h
    exact zw_iret z113_21 rfl ⟨_, rfl, rfl, rfl, rfl, hmB, F1.trans f2⟩
  rw [if_pos (by omega)]
  refine zw_iconst z113_22 (v := iI 0) rfl ?_
  refine zw_istore_n z113_23 rfl ?_
  refine zw_aload_n z113_24 rfl ?_
  refine zw_vv (n := 3) z113_25 rfl rfl (by assumption) (Nat.le_of_ble_eq_true rfl) (by omega) (sp_mSafePlace hmA hG hV (by omega) (by omega)) ?_
  refine zw_istore_n z113_28 rfl ?_
  exact lp_mSend (w := w) hG hI1 hI2 hd0 hq (R := mSl G 52 0 (nT N) A) (fun w2 g1 g2 => ⟨_, rfl, rfl, rfl, rfl, g1, g2⟩) 52 0 (nT N) A w1 hmA (hI (by omega)) F1 rfl
end ZMC
