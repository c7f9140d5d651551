/-! The reference's search: sums, what may lie where, regard. (Laid out by gen/tpl.py from tpl/66.msearch.tpl.) -/
section ZMS
variable {L : Nat} {xs : Nat → Int32} {d q : Nat} {w w' : zi_W} {cn sn : Nat} {Q : zi_O → zi_W → Nat → Nat → Prop} {G N : Nat → Int} {A : Nat → Nat → Int} {z y m c o a b e k u : Int} {r : Nat}
abbrev mAf (o : Int) : Int := if o = 3 then 10 else o + 1
theorem sp_mAfter (ho : 0 ≤ o ∧ o ≤ 100) : zv d q 124 [iV o] w (iI (mAf o)) := by
  intro L xs cn sn
  refine ⟨_, rfl, ?_⟩
  show zw _ _ _ _ 124 0 [some (iV o)] [] _ _ _ _
  refine zw_iload_n z124_0 rfl ?_
  refine zw_iconst z124_1 (v := iI 3) rfl ?_
  refine zj_icmp_ne z124_2 (by omega) (by omega) (fun h2 => ?_) (fun h2 => ?_)
  · refine zw_iload_n z124_10 rfl ?_
    refine zw_iconst z124_11 (v := iI 1) rfl ?_
    refine zj_add z124_12 ?_
    refine zw_iret z124_13 rfl ?_
    exact zv_end (by unfold mAf; first | rw [if_pos (by omega)] | rw [if_neg (by omega)])
  · refine zw_bipush z124_5 (v := iI (10)) (by decide +kernel) ?_
    refine zw_goto z124_7 ?_
    refine zw_iret z124_13 rfl ?_
    exact zv_end (by unfold mAf; first | rw [if_pos (by omega)] | rw [if_neg (by omega)])
abbrev mOa (G : Nat → Int) (A : Nat → Nat → Int) (y : Int) : Int := if y = 12 then 1 else if gCel G y then 2 else if A 1 y.toNat = 0 then 3 else 10 + mFT A y 0
theorem sp_mOnAt (hm : moA w G N A) (hG : gmV G) (hV : mtV A) (hy : gPla G y) (hd : 2 ≤ d) (hq : 43 ≤ q) : zv d q 128 [.ref 817, iV y] w (iI (mOa G A y)) := by
  intro L xs cn sn
  obtain ⟨d, rfl⟩ : ∃ e, d = e + 1 := ⟨d - 1, by omega⟩
  have hm9 := hm
  obtain ⟨m0, a0, a1, a2, a3, a4, a5, a6, a7, a8, a9, a10, a11, a12⟩ := hm9
  have hG' := hG
  unfold gmV at hG'
  have hV' := hV
  obtain ⟨v0, v1, v2, v3, v4, v5⟩ := hV'
  unfold mOa
  refine ⟨_, rfl, ?_⟩
  show zw _ _ _ _ 128 0 [some (.ref 817), some (iV y)] [] _ _ _ _
  refine zw_iload_n z128_0 rfl ?_
  refine zw_bipush z128_1 (v := iI (12)) (by decide +kernel) ?_
  refine zj_icmp_ne z128_3 (by omega) (by omega) (fun h1 => ?_) (fun h1 => ?_)
  rotate_left
  · rw [if_pos (by omega)]
    refine zw_iconst z128_6 (v := iI 1) rfl ?_
    refine zw_goto z128_7 ?_
    refine zw_iret z128_44 rfl ?_
    exact zv_end rfl
  rw [if_neg h1]
  refine zw_aload_n z128_10 rfl ?_
  refine zw_iload_n z128_11 rfl ?_
  refine zw_vv (n := 2) z128_12 rfl rfl (by assumption) (Nat.le_of_ble_eq_true rfl) (by omega) (sp_mIsCell hm hG (by omega) (by omega) (by omega)) ?_
  refine zj_b_eq z128_15 (fun h2 => ?_) (fun h2 => ?_)
  rotate_left
  · rw [if_pos h2]
    refine zw_iconst z128_18 (v := iI 2) rfl ?_
    refine zw_goto z128_19 ?_
    refine zw_iret z128_44 rfl ?_
    exact zv_end rfl
  rw [if_neg h2]
  refine zw_aload_n z128_22 rfl ?_
  refine zw_getf z128_23 (by assumption) (by rfl) ?_
  refine zw_iload_n z128_26 rfl ?_
  refine zj_aldB z128_27 a1 (by omega) (by decide) v1 (fun v27 e27 r27 => ?_)
  refine zj_if_ne z128_28 (by omega) (fun h3 => ?_) (fun h3 => ?_)
  · rw [if_neg (by omega)]
    refine zw_bipush z128_35 (v := iI (10)) (by decide +kernel) ?_
    refine zw_aload_n z128_37 rfl ?_
    refine zw_iload_n z128_38 rfl ?_
    refine zw_iconst z128_39 (v := iI 0) rfl ?_
    refine zw_vv (n := 3) z128_40 rfl rfl (by assumption) (Nat.le_of_ble_eq_true rfl) (by omega) (sp_mFromTop hm hV (by omega) (by omega)) ?_
    refine zj_add z128_43 ?_
    refine zw_iret z128_44 rfl ?_
    exact zv_end rfl
  · rw [if_pos (by omega)]
    refine zw_iconst z128_31 (v := iI 3) rfl ?_
    refine zw_goto z128_32 ?_
    refine zw_iret z128_44 rfl ?_
    exact zv_end rfl
/-- the sum of row r -/
def smO (f : Nat → Int) (r : Nat) : Nat → Int → Int → Int
  | 0, _, s => s
  | j + 1, c, s => smO f r j (c + 1) (nm (31 * s + f (52 * (r : Int) + c).toNat))
abbrev mSm (f : Nat → Int) (r : Nat) : Int := smO f r 52 0 0
theorem smO_rng {f : Nat → Int} : ∀ (j : Nat) (c s : Int), iR s → iR (smO f r j c s) := by
  intro j
  induction j with
  | zero => intro c s h; exact h
  | succ j ih => intro c s h; exact ih _ _ (nm_rng _)
theorem sp_mSumOf (hm : moA w G N A) (hr : r ≤ 201) : zv d q 120 [.ref 817, iV r] w (iI (mSm (A 7) r)) := by
  intro L xs cn sn
  have hm9 := hm
  obtain ⟨m0, a0, a1, a2, a3, a4, a5, a6, a7, a8, a9, a10, a11, a12⟩ := hm9
  have lp : ∀ (j : Nat) (c s : Int), c + j = 52 → 0 ≤ c → smO (A 7) r j c s = mSm (A 7) r → zw L xs d q 120 4 [some (.ref 817), some (iV r), some (iV s), some (iV c)] [] w cn sn (fun o w' cn' sn' => ∃ v, o = .inl v ∧ (v = some (.int (iI (mSm (A 7) r))) ∧ w' = w ∧ cn' = cn ∧ sn' = sn)) := by
    generalize mSm (A 7) r = res
    intro j
    induction j with
    | zero =>
      intro c s h1 h2 h4
      refine zw_iload_n z120_4 rfl ?_
      refine zw_bipush z120_5 (v := iI (52)) (by decide +kernel) ?_
      refine zj_icmp_ge z120_7 (by omega) (by omega) (fun h7 => ?_) (fun h7 => ?_)
      · refine zw_iload_n z120_33 rfl ?_
        refine zw_iret z120_34 rfl ?_
        exact zv_end (congrArg iI h4)
      · exfalso; omega
    | succ j ih =>
      intro c s h1 h2 h4
      refine zw_iload_n z120_4 rfl ?_
      refine zw_bipush z120_5 (v := iI (52)) (by decide +kernel) ?_
      refine zj_icmp_ge z120_7 (by omega) (by omega) (fun h7 => ?_) (fun h7 => ?_)
      · exfalso; omega
      refine zw_bipush z120_10 (v := iI (31)) (by decide +kernel) ?_
      refine zw_iload_n z120_12 rfl ?_
      refine zj_mul z120_13 ?_
      refine zw_aload_n z120_14 rfl ?_
      refine zw_getf z120_15 (by assumption) (by rfl) ?_
      refine zw_bipush z120_18 (v := iI (52)) (by decide +kernel) ?_
      refine zw_iload_n z120_20 rfl ?_
      refine zj_mul z120_21 ?_
      refine zw_iload_n z120_22 rfl ?_
      refine zj_add z120_23 ?_
      refine zj_ald z120_24 a7 (by omega) (by decide) ?_
      refine zj_add z120_25 ?_
      rw [show iV (31 * s + A 7 (52 * (r : Int) + c).toNat) = iV (nm (31 * s + A 7 (52 * (r : Int) + c).toNat)) from congrArg Value.int (nm_of _).symm]
      refine zw_istore_n z120_26 rfl ?_
      refine zj_iinc z120_27 rfl rfl ?_
      refine zw_goto z120_30 ?_
      exact ih (c + 1) _ (by omega) (by omega) h4
  refine ⟨_, rfl, ?_⟩
  show zw _ _ _ _ 120 0 [some (.ref 817), some (iV r), none, none] [] _ _ _ _
  refine zw_iconst z120_0 (v := iI 0) rfl ?_
  refine zw_istore_n z120_1 rfl ?_
  refine zw_iconst z120_2 (v := iI 0) rfl ?_
  refine zw_istore_n z120_3 rfl ?_
  exact lp 52 0 0 (by omega) (by omega) rfl
/-- what holds of the search's numbers and arrays -/
def msV (N : Nat → Int) (A : Nat → Nat → Int) : Prop := (∀ j, 0 ≤ A 7 j ∧ A 7 j ≤ 61) ∧ (∀ j, iR (A 8 j)) ∧ (∀ j, 0 ≤ A 9 j ∧ A 9 j ≤ 1) ∧ (∀ j, 0 ≤ A 10 j ∧ A 10 j ≤ 202) ∧ (∀ j, 0 ≤ A 11 j ∧ A 11 j ≤ 52) ∧ (∀ j, 0 ≤ A 12 j ∧ A 12 j ≤ 1) ∧ (0 ≤ N 8 ∧ N 8 ≤ 52) ∧ (0 ≤ N 9 ∧ N 9 ≤ 52)
abbrev onR (G : Nat → Int) (o : Int) : Prop := (1 ≤ o ∧ o ≤ 3) ∨ (10 ≤ o ∧ o < 10 + gAll G)
abbrev mMl (G N : Nat → Int) (A : Nat → Nat → Int) (r : Nat) (c o : Int) : Prop := (A 7 (52 * (r : Int) + c).toNat ≠ 1 ∧ A 12 c.toNat = 0 ∧ A 7 (52 * (r : Int) + c).toNat ≠ o) ∧ (if o = 1 then A 11 (gSuit G c).toNat + 1 = gRank G c else if o = 2 then N 8 < G 1 else if o = 3 then N 9 < G 0 ∧ gEmp G c else 3 ≤ A 7 (52 * (r : Int) + (o - 10)).toNat ∧ A 12 (o - 10).toNat = 0 ∧ gFit G c (o - 10))
theorem sp_mMayLie (hm : moA w G N A) (hG : gmV G) (hV : msV N A) (hr : r ≤ 201) (hc : 0 ≤ c ∧ c < gAll G) (ho : onR G o) (hd : 2 ≤ d) (hq : 43 ≤ q) : zv d q 122 [.ref 817, iV r, iV c, iV o] w (iI (b2 (mMl G N A r c o))) := by
  intro L xs cn sn
  obtain ⟨d, rfl⟩ : ∃ e, d = e + 1 := ⟨d - 1, by omega⟩
  have hm9 := hm
  obtain ⟨m0, a0, a1, a2, a3, a4, a5, a6, a7, a8, a9, a10, a11, a12⟩ := hm9
  have hG' := hG
  unfold gmV at hG'
  have hA := gAll_rng hG
  obtain ⟨s7, s8, s9, s10, s11, s12, t8, t9⟩ := hV
  have rc := gRank_rng (c := c) hG (by omega)
  have sc := gSuit_rng (c := c) hG
  have b7 := s7 (52 * (r : Int) + c).toNat
  have b12 := s12 c.toNat
  have kf : ¬ (A 7 (52 * (r : Int) + c).toNat ≠ 1 ∧ A 12 c.toNat = 0 ∧ A 7 (52 * (r : Int) + c).toNat ≠ o) → zw L xs (d + 1) q 122 34 [some (.ref 817), some (iV r), some (iV c), some (iV o), some (iV (A 7 (52 * (r : Int) + c).toNat)), none] [] w cn sn (fun o' w' cn' sn' => ∃ v, o' = .inl v ∧ (v = some (.int (iI (b2 (mMl G N A r c o)))) ∧ w' = w ∧ cn' = cn ∧ sn' = sn)) := by
    intro hn
    refine zw_iconst z122_34 (v := iI 0) rfl ?_
    refine zj_bret z122_35 rfl (by omega) ?_
    exact zv_end (by rw [b2_f (fun h => hn h.1)])
  refine ⟨_, rfl, ?_⟩
  show zw _ _ _ _ 122 0 [some (.ref 817), some (iV r), some (iV c), some (iV o), none, none] [] _ _ _ _
  refine zw_aload_n z122_0 rfl ?_
  refine zw_getf z122_1 (by assumption) (by rfl) ?_
  refine zw_bipush z122_4 (v := iI (52)) (by decide +kernel) ?_
  refine zw_iload_n z122_6 rfl ?_
  refine zj_mul z122_7 ?_
  refine zw_iload_n z122_8 rfl ?_
  refine zj_add z122_9 ?_
  refine zj_ald z122_10 a7 (by omega) (by decide) ?_
  refine zw_istore z122_11 rfl ?_
  refine zw_iload z122_13 rfl ?_
  refine zw_iconst z122_15 (v := iI 1) rfl ?_
  refine zj_icmp_eq z122_16 (by omega) (by omega) (fun h1 => ?_) (fun h1 => ?_)
  · exact kf (fun h => h.1 h1)
  refine zw_aload_n z122_19 rfl ?_
  refine zw_getf z122_20 (by assumption) (by rfl) ?_
  refine zw_iload_n z122_23 rfl ?_
  refine zj_bld z122_24 (by assumption) (by omega) (by decide) ?_
  refine zj_if_ne z122_25 (by omega) (fun h2 => ?_) (fun h2 => ?_)
  · exact kf (fun h => h2 h.2.1)
  refine zw_iload z122_28 rfl ?_
  refine zw_iload_n z122_30 rfl ?_
  refine zj_icmp_ne z122_31 (by omega) (by omega) (fun h3 => ?_) (fun h3 => ?_)
  rotate_left
  · exact kf (fun h => h.2.2 (by omega))
  have hw : A 7 (52 * (r : Int) + c).toNat ≠ 1 ∧ A 12 c.toNat = 0 ∧ A 7 (52 * (r : Int) + c).toNat ≠ o := ⟨h1, by omega, h3⟩
  refine zw_iload_n z122_36 rfl ?_
  refine zw_iconst z122_37 (v := iI 1) rfl ?_
  refine zj_icmp_ne z122_38 (by omega) (by omega) (fun h4 => ?_) (fun h4 => ?_)
  rotate_left
  · refine zw_aload_n z122_41 rfl ?_
    refine zw_getf z122_42 (by assumption) (by rfl) ?_
    refine zw_aload_n z122_45 rfl ?_
    refine zw_iload_n z122_46 rfl ?_
    refine zw_vv (n := 2) z122_47 rfl rfl (by assumption) (Nat.le_of_ble_eq_true rfl) (by omega) (sp_mSuit hm hG (by omega)) ?_
    refine zj_aldB z122_50 a11 (by omega) (by decide) s11 (fun v50 e50 r50 => ?_)
    refine zw_iconst z122_51 (v := iI 1) rfl ?_
    refine zj_add z122_52 ?_
    refine zw_aload_n z122_53 rfl ?_
    refine zw_iload_n z122_54 rfl ?_
    refine zw_vv (n := 2) z122_55 rfl rfl (by assumption) (Nat.le_of_ble_eq_true rfl) (by omega) (sp_mRank hm hG (by omega)) ?_
    refine zj_icmp_ne z122_58 (by omega) (by omega) (fun h5 => ?_) (fun h5 => ?_)
    · refine zw_iconst z122_65 (v := iI 0) rfl ?_
      refine zj_bret z122_66 rfl (by omega) ?_
      exact zv_end (by rw [b2_f (fun h => by have := h.2; rw [if_pos (by omega)] at this; omega)])
    · refine zw_iconst z122_61 (v := iI 1) rfl ?_
      refine zw_goto z122_62 ?_
      refine zj_bret z122_66 rfl (by omega) ?_
      exact zv_end (by rw [b2_t ⟨hw, by rw [if_pos (by omega)]; omega⟩])
  refine zw_iload_n z122_67 rfl ?_
  refine zw_iconst z122_68 (v := iI 2) rfl ?_
  refine zj_icmp_ne z122_69 (by omega) (by omega) (fun h5 => ?_) (fun h5 => ?_)
  rotate_left
  · refine zw_aload_n z122_72 rfl ?_
    refine zw_getf z122_73 (by assumption) (by rfl) ?_
    refine zw_aload_n z122_76 rfl ?_
    refine zw_getf z122_77 (by assumption) (by rfl) ?_
    refine zj_icmp_ge z122_80 (by omega) (by omega) (fun h6 => ?_) (fun h6 => ?_)
    · refine zw_iconst z122_87 (v := iI 0) rfl ?_
      refine zj_bret z122_88 rfl (by omega) ?_
      exact zv_end (by rw [b2_f (fun h => by have := h.2; rw [if_neg h4, if_pos (by omega)] at this; omega)])
    · refine zw_iconst z122_83 (v := iI 1) rfl ?_
      refine zw_goto z122_84 ?_
      refine zj_bret z122_88 rfl (by omega) ?_
      exact zv_end (by rw [b2_t ⟨hw, by rw [if_neg h4, if_pos (by omega)]; omega⟩])
  refine zw_iload_n z122_89 rfl ?_
  refine zw_iconst z122_90 (v := iI 3) rfl ?_
  refine zj_icmp_ne z122_91 (by omega) (by omega) (fun h6 => ?_) (fun h6 => ?_)
  rotate_left
  · refine zw_aload_n z122_94 rfl ?_
    refine zw_getf z122_95 (by assumption) (by rfl) ?_
    refine zw_aload_n z122_98 rfl ?_
    refine zw_getf z122_99 (by assumption) (by rfl) ?_
    refine zj_icmp_ge z122_102 (by omega) (by omega) (fun h7 => ?_) (fun h7 => ?_)
    · refine zw_iconst z122_117 (v := iI 0) rfl ?_
      refine zj_bret z122_118 rfl (by omega) ?_
      exact zv_end (by rw [b2_f (fun h => by have := h.2; rw [if_neg h4, if_neg h5, if_pos (by omega)] at this; omega)])
    refine zw_aload_n z122_105 rfl ?_
    refine zw_iload_n z122_106 rfl ?_
    refine zw_vv (n := 2) z122_107 rfl rfl (by assumption) (Nat.le_of_ble_eq_true rfl) (by omega) (sp_mFitsEmpty hm hG (by omega) (by omega) (by omega)) ?_
    refine zj_b_eq z122_110 (fun h8 => ?_) (fun h8 => ?_)
    · refine zw_iconst z122_117 (v := iI 0) rfl ?_
      refine zj_bret z122_118 rfl (by omega) ?_
      exact zv_end (by rw [b2_f (fun h => by have := h.2; rw [if_neg h4, if_neg h5, if_pos (by omega)] at this; exact h8 this.2)])
    · refine zw_iconst z122_113 (v := iI 1) rfl ?_
      refine zw_goto z122_114 ?_
      refine zj_bret z122_118 rfl (by omega) ?_
      exact zv_end (by rw [b2_t ⟨hw, by rw [if_neg h4, if_neg h5, if_pos (by omega)]; exact ⟨by omega, h8⟩⟩])
  have k165 : ¬ (3 ≤ A 7 (52 * (r : Int) + (o - 10)).toNat ∧ A 12 (o - 10).toNat = 0 ∧ gFit G c (o - 10)) → zw L xs (d + 1) q 122 165 [some (.ref 817), some (iV r), some (iV c), some (iV o), some (iV (A 7 (52 * (r : Int) + c).toNat)), some (iV (o - 10))] [] w cn sn (fun o' w' cn' sn' => ∃ v, o' = .inl v ∧ (v = some (.int (iI (b2 (mMl G N A r c o)))) ∧ w' = w ∧ cn' = cn ∧ sn' = sn)) := by
    intro hn
    refine zw_iconst z122_165 (v := iI 0) rfl ?_
    refine zj_bret z122_166 rfl (by omega) ?_
    exact zv_end (by rw [b2_f (fun h => by have := h.2; rw [if_neg h4, if_neg h5, if_neg h6] at this; exact hn this)])
  have b12 := s12 (o - 10).toNat
  refine zw_iload_n z122_119 rfl ?_
  refine zw_bipush z122_120 (v := iI (10)) (by decide +kernel) ?_
  refine zj_sub z122_122 ?_
  refine zw_istore z122_123 rfl ?_
  refine zw_aload_n z122_125 rfl ?_
  refine zw_getf z122_126 (by assumption) (by rfl) ?_
  refine zw_bipush z122_129 (v := iI (52)) (by decide +kernel) ?_
  refine zw_iload_n z122_131 rfl ?_
  refine zj_mul z122_132 ?_
  refine zw_iload z122_133 rfl ?_
  refine zj_add z122_135 ?_
  refine zj_aldB z122_136 a7 (by omega) (by decide) s7 (fun v136 e136 r136 => ?_)
  refine zw_iconst z122_137 (v := iI 3) rfl ?_
  refine zj_icmp_lt z122_138 (by omega) (by omega) (fun h7 => ?_) (fun h7 => ?_)
  · exact k165 (fun h => by omega)
  refine zw_aload_n z122_141 rfl ?_
  refine zw_getf z122_142 (by assumption) (by rfl) ?_
  refine zw_iload z122_145 rfl ?_
  refine zj_bld z122_147 (by assumption) (by omega) (by decide) ?_
  refine zj_if_ne z122_148 (by omega) (fun h8 => ?_) (fun h8 => ?_)
  · exact k165 (fun h => h8 h.2.1)
  refine zw_aload_n z122_151 rfl ?_
  refine zw_iload_n z122_152 rfl ?_
  refine zw_iload z122_153 rfl ?_
  refine zw_vv (n := 3) z122_155 rfl rfl (by assumption) (Nat.le_of_ble_eq_true rfl) (by omega) (sp_mFitsOn hm hG (by omega) (by omega) (by omega) (by omega)) ?_
  refine zj_b_eq z122_158 (fun h9 => ?_) (fun h9 => ?_)
  · exact k165 (fun h => h9 h.2.2)
  refine zw_iconst z122_161 (v := iI 1) rfl ?_
  refine zw_goto z122_162 ?_
  refine zj_bret z122_166 rfl (by omega) ?_
  exact zv_end (by rw [b2_t ⟨hw, by rw [if_neg h4, if_neg h5, if_neg h6]; exact ⟨by omega, by omega, h9⟩⟩])
/-- regard: what lies at home by suits, how many lie in cells and on the ground, which cards are covered -/
abbrev RG : Type := (Nat → Int) × Int × Int × (Nat → Int)
def rgS (G f : Nat → Int) (r : Nat) (c : Int) (s : RG) : RG := (if f (52 * (r : Int) + c).toNat = 1 then iU s.1 (gSuit G c).toNat (s.1 (gSuit G c).toNat + 1) else s.1, if f (52 * (r : Int) + c).toNat = 2 then s.2.1 + 1 else s.2.1, if f (52 * (r : Int) + c).toNat = 3 then s.2.2.1 + 1 else s.2.2.1, if 10 ≤ f (52 * (r : Int) + c).toNat then iU s.2.2.2 (f (52 * (r : Int) + c).toNat - 10).toNat 1 else s.2.2.2)
def rgL (G f : Nat → Int) (r : Nat) : Nat → Int → RG → RG
  | 0, _, s => s
  | j + 1, c, s => rgL G f r j (c + 1) (rgS G f r c s)
abbrev rg0 (G : Nat → Int) (A : Nat → Nat → Int) : RG := (iFi (A 11) 4 0, 0, 0, iFi (A 12) (gAll G).toNat 0)
abbrev rg (G : Nat → Int) (A : Nat → Nat → Int) (r : Nat) : RG := rgL G (A 7) r (gAll G).toNat 0 (rg0 G A)
abbrev rgN (N : Nat → Int) (s : RG) : Nat → Int := iU (iU N 8 s.2.1) 9 s.2.2.1
abbrev rgA (A : Nat → Nat → Int) (s : RG) : Nat → Nat → Int := fU (fU A 11 s.1) 12 s.2.2.2
theorem iU_iU (f : Nat → Int) (n : Nat) (x y : Int) : iU (iU f n x) n y = iU f n y := by
  funext j
  unfold iU
  split <;> rfl
theorem rg_N (s : RG) (t g : Int) : iU (iU (rgN N s) 8 t) 9 g = iU (iU N 8 t) 9 g := by
  funext j
  unfold rgN iU
  split
  · rfl
  · split <;> rfl
theorem rg_A (s : RG) (h c : Nat → Int) : fU (fU (rgA A s) 11 h) 12 c = fU (fU A 11 h) 12 c := by
  funext j
  unfold rgA fU
  split
  · rfl
  · split <;> rfl
end ZMS
