/-! The reference: lay and deal. (Laid out by gen/tpl.py from tpl/65.model.tpl.) -/
def jL (z : Int) : Int64 := Int64.ofInt z
abbrev jR (z : Int) : Prop := -9223372036854775808 ≤ z ∧ z < 9223372036854775808
theorem jL_toInt {z : Int} (h : jR z) : (jL z).toInt = z := Int64.toInt_ofInt_of_le (by omega) (by omega)
theorem jL_mul (a b : Int) : jL a * jL b = jL (a * b) := (Int64.ofInt_mul a b).symm
theorem jL_add (a b : Int) : jL a + jL b = jL (a + b) := (Int64.ofInt_add a b).symm
theorem jL_sub (a b : Int) : jL a - jL b = jL (a - b) := (Int64.ofInt_sub a b).symm
theorem jL_i2l {z : Int} (h : iR z) : (iI z).toInt64 = jL z := by
  apply Int64.toInt_inj.mp
  rw [Int32.toInt_toInt64, iI_toInt h, jL_toInt (by omega)]
theorem jL_l2i (z : Int) : (jL z).toInt32 = iI z := Int64.toInt32_ofInt
theorem jL_div {a b : Int} (ha : 0 ≤ a ∧ a < 9223372036854775808) (hb : 0 < b ∧ b < 9223372036854775808) : jL a / jL b = jL (a / b) := by
  apply Int64.toInt_inj.mp
  have h1 : 0 ≤ a / b := Int.ediv_nonneg ha.1 (by omega)
  have h2 : a / b ≤ a := Int.ediv_le_self b ha.1
  rw [Int64.toInt_div_of_ne_left _ _ (fun q => by have := congrArg Int64.toInt q; rw [jL_toInt (by omega)] at this; rw [show Int64.minValue.toInt = -9223372036854775808 by decide +kernel] at this; omega), jL_toInt (by omega), jL_toInt (by omega), jL_toInt (by omega), Int.tdiv_eq_ediv_of_nonneg ha.1]
theorem jL_rem {a b : Int} (ha : 0 ≤ a ∧ a < 9223372036854775808) (hb : 0 < b ∧ b < 9223372036854775808) : jL a - jL a / jL b * jL b = jL (a % b) := by
  rw [jL_div ha hb, jL_mul, jL_sub, Int.mul_comm, ← Int.emod_def]
theorem jL_ne {b : Int} (hb : 0 < b ∧ b < 9223372036854775808) : ¬ jL b = 0 := by
  intro h
  have := congrArg Int64.toInt h
  rw [jL_toInt (by omega), show (0 : Int64).toInt = 0 by decide +kernel] at this
  omega
section ZMD
variable {L : Nat} {xs : Nat → Int32} {d q : Nat} {w w' : zi_W} {cn sn : Nat} {Q : zi_O → zi_W → Nat → Nat → Prop} {G N : Nat → Int} {A : Nat → Nat → Int} {z y m c o a b e k u : Int}
abbrev mLyA (A : Nat → Nat → Int) (z c : Int) : Nat → Nat → Int := fU (mPu A z c) 4 (iU (A 4) c.toNat 1)
def mLy (G N : Nat → Int) (A : Nat → Nat → Int) (z c : Int) : MO := if gCol G z ∧ 0 ≤ c ∧ c < gAll G then (if A 4 c.toNat = 0 then (mLaid (mLyA A z c), iU (nT N) 2 (-1), mLyA A z c) else (0, iU (nT N) 0 2, A)) else (0, iU (nT N) 0 1, A)
theorem sp_mLay (hm : moA w G N A) (hG : gmV G) (hV : mtV A) (hz : iR z) (hc : iR c) (hh : gCol G z → 0 ≤ c ∧ c < gAll G → A 4 c.toNat = 0 → A 1 z.toNat ≤ 51) (hd : 2 ≤ d) (hq : 43 ≤ q) : zr L xs d q 93 [.ref 817, iV z, iV c] w cn sn (mRO w cn sn G (mLy G N A z c)) := by
  obtain ⟨d, rfl⟩ : ∃ e, d = e + 1 := ⟨d - 1, by omega⟩
  have m0 := hm.1
  have hA := gAll_rng hG
  have hG' := hG
  unfold gmV at hG'
  have hV' := hV
  obtain ⟨v0, v1, v2, v3, v4, v5⟩ := hV'
  refine ⟨_, rfl, ?_⟩
  show zw _ _ _ _ 93 0 [some (.ref 817), some (iV z), some (iV c)] [] _ _ _ _
  refine zw_aload_n z93_0 rfl ?_
  refine zw_iconst z93_1 (v := iI 0) rfl ?_
  refine zj_putf z93_2 m0 (Nat.le_of_ble_eq_true rfl) (by rfl) (fun w1 n1 f1 => ?_)
  have hmA := mo_put (N' := nT N) (G' := G) hm n1 f1
  have F1 : zF moS w w1 := zF.rf.step f1 (by omega)
  have hm9 := hmA
  obtain ⟨m0, a0, a1, a2, a3, a4, a5, a6, a7, a8, a9, a10, a11, a12⟩ := hm9
  have kf : ¬ (gCol G z ∧ 0 ≤ c ∧ c < gAll G) → zw L xs (d + 1) q 93 33 [some (.ref 817), some (iV z), some (iV c)] [] w1 cn sn (fun o w' cn' sn' => ∃ v, o = .inl v ∧ mRO w cn sn G (mLy G N A z c) v w' cn' sn') := by
    intro hn
    rw [show mLy G N A z c = _ from if_neg hn]
    refine zw_aload_n z93_33 rfl ?_
    refine zw_iconst z93_34 (v := iI 1) rfl ?_
    refine zw_cv (n := 2) z93_35 rfl rfl m0 (Nat.le_of_ble_eq_true rfl) (by omega) (sp_mRefuse hmA) (fun v w2 cn2 sn2 h => ?_)
    obtain ⟨rfl, rfl, rfl, hmB, f2⟩ := h
    exact zw_iret z93_38 rfl ⟨_, rfl, rfl, rfl, rfl, hmB, F1.trans f2⟩
  refine zw_iload_n z93_5 rfl ?_
  refine zw_iconst z93_6 (v := iI 0) rfl ?_
  refine zw_aload_n z93_7 rfl ?_
  refine zw_getf z93_8 (by assumption) (by rfl) ?_
  refine zw_iconst z93_11 (v := iI 1) rfl ?_
  refine zj_sub z93_12 ?_
  refine zw_vs (n := 3) z93_13 rfl rfl (Nat.le_of_ble_eq_true rfl) (by omega) (sp_mWithin hz (by omega) (by omega)) ?_
  refine zj_b_eq z93_16 (fun h1 => ?_) (fun h1 => ?_)
  · exact kf (fun h => h1 (by have := h.1; omega))
  refine zw_iload_n z93_19 rfl ?_
  refine zw_iconst z93_20 (v := iI 0) rfl ?_
  refine zw_aload_n z93_21 rfl ?_
  refine zw_vv (n := 1) z93_22 rfl rfl (by assumption) (Nat.le_of_ble_eq_true rfl) (by omega) (sp_mAll hmA) ?_
  refine zw_iconst z93_25 (v := iI 1) rfl ?_
  refine zj_sub z93_26 ?_
  refine zw_vs (n := 3) z93_27 rfl rfl (Nat.le_of_ble_eq_true rfl) (by omega) (sp_mWithin hc (by omega) (by omega)) ?_
  refine zj_b_ne z93_30 (fun h2 => ?_) (fun h2 => ?_)
  rotate_left
  · exact kf (fun h => h2 (by omega))
  have hcc : gCol G z ∧ 0 ≤ c ∧ c < gAll G := by omega
  have hb := v4 c.toNat
  refine zw_aload_n z93_39 rfl ?_
  refine zw_getf z93_40 (by assumption) (by rfl) ?_
  refine zw_iload_n z93_43 rfl ?_
  refine zj_bld z93_44 (by assumption) (by omega) (by decide) ?_
  refine zj_if_eq z93_45 (by omega) (fun h3 => ?_) (fun h3 => ?_)
  rotate_left
  · rw [show mLy G N A z c = _ from (if_pos hcc).trans (if_neg h3)]
    refine zw_aload_n z93_48 rfl ?_
    refine zw_iconst z93_49 (v := iI 2) rfl ?_
    refine zw_cv (n := 2) z93_50 rfl rfl m0 (Nat.le_of_ble_eq_true rfl) (by omega) (sp_mRefuse hmA) (fun v w2 cn2 sn2 h => ?_)
    obtain ⟨rfl, rfl, rfl, hmB, f2⟩ := h
    exact zw_iret z93_53 rfl ⟨_, rfl, rfl, rfl, rfl, hmB, F1.trans f2⟩
  rw [show mLy G N A z c = (mLaid (mLyA A z c), iU (nT N) 2 (-1), mLyA A z c) from (if_pos hcc).trans (if_pos h3)]
  generalize hl9 : mLaid (mLyA A z c) = l9
  have hh1 := hh hcc.1 hcc.2 h3
  refine zw_aload_n z93_54 rfl ?_
  refine zw_iload_n z93_55 rfl ?_
  refine zw_iload_n z93_56 rfl ?_
  refine zw_cv (n := 3) z93_57 rfl rfl m0 (Nat.le_of_ble_eq_true rfl) (by omega) (sp_mPush hmA (by omega) ⟨(v1 _).1, hh1⟩) (fun v w2 cn2 sn2 h => ?_)
  obtain ⟨rfl, rfl, rfl, hmB, f2⟩ := h
  have m0 := hmB.1
  have b4 : zi_get w2 822 = some (.inl (1, 52, .inl (iA (A 4)))) := hmB.2.2.2.2.2.1
  refine zw_aload_n z93_60 rfl ?_
  refine zw_getf z93_61 (by assumption) (by rfl) ?_
  refine zw_iload_n z93_64 rfl ?_
  refine zw_iconst z93_65 (v := iI 1) rfl ?_
  refine zj_bstG z93_66 b4 (by omega) (by decide) (by omega) (fun w3 n3 f3 => ?_)
  have hmC := mo_a4 hmB n3 f3
  have m0 := hmC.1
  refine zw_aload_n z93_67 rfl ?_
  refine zw_iconst z93_68 (v := iI (-1)) rfl ?_
  refine zj_putf z93_69 m0 (Nat.le_of_ble_eq_true rfl) (by rfl) (fun w4 n4 f4 => ?_)
  have hmD := mo_put (N' := iU (nT N) 2 (-1)) (G' := G) hmC n4 f4
  have m0 := hmD.1
  have hVD : mtV (mLyA A z c) := by
    obtain ⟨u0, u1, u2, u3, u4, u5⟩ := mPu_V (c := c) hV (by omega) hh1
    exact ⟨u0, u1, u2, u3, iU_rng v4 (by omega), u5⟩
  refine zw_aload_n z93_72 rfl ?_
  have hv9 := sp_mLaid (d := d) (q := q - (19 + 3)) hmD hVD
  rw [hl9] at hv9
  refine zw_vv (n := 3) z93_73 rfl rfl (by assumption) (Nat.le_of_ble_eq_true rfl) (by omega) (hv9) ?_
  exact zw_iret z93_76 rfl ⟨_, rfl, rfl, rfl, rfl, hmD, ((F1.trans f2).step f3 (by omega)).step f4 (by omega)⟩
/-- one card is dealt -/
def mD1 (G : Nat → Int) (A : Nat → Nat → Int) (i dr : Int) (k : Nat) : Nat → Nat → Int := fU (fU (mPu A (i % G 0) (A 5 dr.toNat)) 4 (iU (A 4) (A 5 dr.toNat).toNat 1)) 5 (iU (A 5) dr.toNat (A 5 k))
def mDl (G : Nat → Int) : Nat → Int → Int → (Nat → Nat → Int) → Nat → Nat → Int
  | 0, _, _, A => A
  | k + 1, i, x, A => mDl G k (i + 1) (dX x) (mD1 G A i (dD x ((k : Int) + 1)) k)
theorem lp_mD1 (hG : gmV G) (kk : ∀ w', moA w' G N (fU A 5 (iCp (fun j => (j : Int)) (A 5) (gAll G).toNat)) → zF moS w w' → zw L xs d q 91 51 [some (.ref 817), some (iV u), some (iV (gAll G)), some (iV (gAll G)), none, none, none] [] w' cn sn Q) : ∀ (k n : Nat) (w' : zi_W), (n : Int) + k = gAll G → moA w' G N (fU A 5 (iCp (fun j => (j : Int)) (A 5) n)) → zF moS w w' → zw L xs d q 91 33 [some (.ref 817), some (iV u), some (iV (gAll G)), some (iV n), none, none, none] [] w' cn sn Q := by
  have hA := gAll_rng hG
  intro k
  induction k with
  | zero =>
    intro n w' hk hm hF
    have e1 : (n : Int) = gAll G := by omega
    refine zw_iload_n z91_33 rfl ?_
    refine zw_iload_n z91_34 rfl ?_
    refine zj_icmp_ge z91_35 (by omega) (by omega) (fun h1 => ?_) (fun h1 => ?_)
    · have := kk w'
      rw [← e1] at this ⊢
      exact this hm hF
    · exfalso; omega
  | succ k ih =>
    intro n w' hk hm hF
    have hm9 := hm
    obtain ⟨m0, a0, a1, a2, a3, a4, a5, a6, a7, a8, a9, a10, a11, a12⟩ := hm9
    refine zw_iload_n z91_33 rfl ?_
    refine zw_iload_n z91_34 rfl ?_
    refine zj_icmp_ge z91_35 (by omega) (by omega) (fun h1 => ?_) (fun h1 => ?_)
    · exfalso; omega
    refine zw_aload_n z91_38 rfl ?_
    refine zw_getf z91_39 (by assumption) (by rfl) ?_
    refine zw_iload_n z91_42 rfl ?_
    refine zw_iload_n z91_43 rfl ?_
    refine zj_astG z91_44 a5 (by omega) (by decide) (fun w1 n1 f1 => ?_)
    refine zj_iinc z91_45 rfl rfl ?_
    refine zw_goto z91_48 ?_
    have hc : iU (iCp (fun j => (j : Int)) (A 5) n) n (n : Int) = iCp (fun j => (j : Int)) (A 5) (n + 1) := by
      funext j
      unfold iU iCp
      by_cases hj : j = n
      · subst hj
        rw [if_pos rfl, if_pos (by omega)]
      · rw [if_neg hj]
        by_cases hj2 : j < n
        · rw [if_pos hj2, if_pos (by omega)]
        · rw [if_neg hj2, if_neg (by omega)]
    have hm1 := mo_a5 hm n1 f1
    rw [fU_fU, show (n : Int).toNat = n by omega, show fU A 5 (iCp (fun j => (j : Int)) (A 5) n) 5 = iCp (fun j => (j : Int)) (A 5) n from rfl, hc] at hm1
    have := ih (n + 1) w1 (by omega) hm1 (hF.step f1 (by omega))
    rwa [show ((n + 1 : Nat) : Int) = (n : Int) + 1 by omega] at this
theorem lp_mD2 (hG : gmV G) (hd : 1 ≤ d) (hq : 22 ≤ q) {R : Nat → Nat → Int} (kk : ∀ w', moA w' G N R → zF moS w w' → Q (.inl none) w' cn sn) : ∀ (k : Nat) (i x : Int) (A : Nat → Nat → Int) (w' : zi_W) (x6 : Option Value), i + k = gAll G → 0 ≤ i → 0 ≤ x ∧ x < 2147483648 → moA w' G N A → mtV A → (∀ j, A 1 j ≤ i) → zF moS w w' → R = mDl G k i x A → zw L xs d q 91 57 [some (.ref 817), some (iV u), some (iV k), some (.long (jL x)), none, some (iV i), x6] [] w' cn sn Q := by
  have hA := gAll_rng hG
  obtain ⟨d, rfl⟩ : ∃ e, d = e + 1 := ⟨d - 1, by omega⟩
  have hG' := hG
  unfold gmV at hG'
  intro k
  induction k with
  | zero =>
    intro i x A w' x6 hk hi hx hm hV hh hF he
    refine zw_iload_n z91_57 rfl ?_
    refine zj_if_le z91_58 (by omega) (fun h1 => ?_) (fun h1 => ?_)
    · have he : R = A := he
      subst he
      exact zw_vret z91_139 rfl (kk w' hm hF)
    · exfalso; omega
  | succ k ih =>
    intro i x A w' x6 hk hi hx hm hV hh hF he
    have hm9 := hm
    obtain ⟨m0, a0, a1, a2, a3, a4, a5, a6, a7, a8, a9, a10, a11, a12⟩ := hm9
    have hV' := hV
    obtain ⟨v0, v1, v2, v3, v4, v5⟩ := hV'
    refine zw_iload_n z91_57 rfl ?_
    refine zj_if_le z91_58 (by omega) (fun h1 => ?_) (fun h1 => ?_)
    · exfalso; omega
    have hx1 : 0 ≤ dX x ∧ dX x < 2147483648 := by unfold dX; omega
    have he : R = mDl G k (i + 1) (dX x) (mD1 G A i (dD x ((k : Int) + 1)) k) := he
    refine zw_ldc2 z91_61 ?_
    rw [show (214013 : Int64) = jL 214013 by decide +kernel]
    refine zw_lload_n z91_64 rfl ?_
    refine zw_lmul z91_65 ?_
    rw [jL_mul]
    refine zw_ldc2 z91_66 ?_
    rw [show (2531011 : Int64) = jL 2531011 by decide +kernel]
    refine zw_ladd z91_69 ?_
    rw [jL_add]
    refine zw_ldc2 z91_70 ?_
    rw [show (2147483648 : Int64) = jL 2147483648 by decide +kernel]
    refine zw_lrem z91_73 (jL_ne (by omega)) ?_
    rw [jL_rem (by omega) (by omega), show (214013 * x + 2531011) % 2147483648 = dX x from rfl]
    unfold dD at he
    generalize dX x = x1 at *
    refine zw_lstore_n z91_74 rfl ?_
    refine zw_lload_n z91_75 rfl ?_
    refine zw_ldc2 z91_76 ?_
    rw [show (65536 : Int64) = jL 65536 by decide +kernel]
    refine zw_ldiv z91_79 (jL_ne (by omega)) ?_
    rw [jL_div (by omega) (by omega)]
    have hq1 : 0 ≤ x1 / 65536 ∧ x1 / 65536 < 32768 := by omega
    refine zw_iload_n z91_80 rfl ?_
    refine zw_i2l z91_81 ?_
    rw [jL_i2l (by omega), show (((k + 1 : Nat) : Nat) : Int) = (k : Int) + 1 by omega]
    refine zw_lrem z91_82 (jL_ne (by omega)) ?_
    rw [jL_rem (by omega) (by omega)]
    refine zw_l2i z91_83 ?_
    rw [jL_l2i]
    have hdr : 0 ≤ x1 / 65536 % ((k : Int) + 1) ∧ x1 / 65536 % ((k : Int) + 1) < (k : Int) + 1 := ⟨Int.emod_nonneg _ (by omega), Int.emod_lt_of_pos _ (by omega)⟩
    have hic : 0 ≤ i % G 0 ∧ i % G 0 < G 0 := ⟨Int.emod_nonneg _ (by omega), Int.emod_lt_of_pos _ (by omega)⟩
    generalize x1 / 65536 % ((k : Int) + 1) = dr at *
    have hRd := v5 dr.toNat
    refine zw_istore z91_84 rfl ?_
    refine zw_aload_n z91_86 rfl ?_
    refine zw_iload z91_87 rfl ?_
    refine zw_aload_n z91_89 rfl ?_
    refine zw_getf z91_90 (by assumption) (by rfl) ?_
    refine zj_rem z91_93 (by omega) (by omega) ?_
    unfold mD1 at he
    generalize i % G 0 = ic at *
    have hhi := hh ic.toNat
    have hhv := v1 ic.toNat
    refine zw_aload_n z91_94 rfl ?_
    refine zw_getf z91_95 (by assumption) (by rfl) ?_
    refine zw_iload z91_98 rfl ?_
    refine zj_ald z91_100 a5 (by omega) (by decide) ?_
    refine zw_cv (n := 3) z91_101 rfl rfl m0 (Nat.le_of_ble_eq_true rfl) (by omega) (sp_mPush hm (by omega) (by omega)) (fun v w1 cn1 sn1 h => ?_)
    obtain ⟨rfl, rfl, rfl, hm1, f1⟩ := h
    have m1 := hm1.1
    have b4 : zi_get w1 822 = some (.inl (1, 52, .inl (iA (A 4)))) := hm1.2.2.2.2.2.1
    have b5 : zi_get w1 823 = some (.inl (0, 52, .inl (iA (A 5)))) := hm1.2.2.2.2.2.2.1
    refine zw_aload_n z91_104 rfl ?_
    refine zw_getf z91_105 (by assumption) (by rfl) ?_
    refine zw_aload_n z91_108 rfl ?_
    refine zw_getf z91_109 (by assumption) (by rfl) ?_
    refine zw_iload z91_112 rfl ?_
    refine zj_ald z91_114 b5 (by omega) (by decide) ?_
    refine zw_iconst z91_115 (v := iI 1) rfl ?_
    refine zj_bstG z91_116 b4 (by omega) (by decide) (by omega) (fun w2 n2 f2 => ?_)
    have hm2 := mo_a4 hm1 n2 f2
    have m2 := hm2.1
    have b5 : zi_get w2 823 = some (.inl (0, 52, .inl (iA (A 5)))) := hm2.2.2.2.2.2.2.1
    refine zj_iinc z91_117 rfl rfl ?_
    refine zw_aload_n z91_120 rfl ?_
    refine zw_getf z91_121 (by assumption) (by rfl) ?_
    refine zw_iload z91_124 rfl ?_
    refine zw_aload_n z91_126 rfl ?_
    refine zw_getf z91_127 (by assumption) (by rfl) ?_
    refine zw_iload_n z91_130 rfl ?_
    rw [show (k : Int) + 1 + -1 = (k : Int) by omega]
    refine zj_ald z91_131 b5 (by omega) (by decide) ?_
    refine zj_astG z91_132 b5 (by omega) (by decide) (fun w3 n3 f3 => ?_)
    have hm3 := mo_a5 hm2 n3 f3
    refine zj_iinc z91_133 rfl rfl ?_
    refine zw_goto z91_136 ?_
    have hV3 := mPu_V (z := ic) (c := A 5 dr.toNat) hV (by omega) (by omega)
    obtain ⟨u0, u1, u2, u3, u4, u5⟩ := hV3
    refine ih (i + 1) x1 _ w3 _ (by omega) (by omega) hx1 hm3 ⟨u0, u1, u2, u3, iU_rng v4 (by omega), iU_rng v5 (v5 _)⟩ (fun j => ?_) (((hF.trans f1).step f2 (by omega)).step f3 (by omega)) he
    show iU (A 1) ic.toNat (A 1 ic.toNat + 1) j ≤ i + 1
    unfold iU
    split
    · omega
    · have := hh j; omega
abbrev mDlA (G : Nat → Int) (A : Nat → Nat → Int) (u : Int) : Nat → Nat → Int := mDl G (gAll G).toNat 0 u (fU (mWA A) 5 (iCp (fun j => (j : Int)) (A 5) (gAll G).toNat))
def mDe (G N : Nat → Int) (A : Nat → Nat → Int) (u : Int) : (Nat → Int) × (Nat → Nat → Int) := if 0 ≤ u ∧ u ≤ 32000 then (mWN (nT N), mDlA G A u) else (iU (nT N) 0 1, A)
theorem mWA_V (hV : mtV A) : mtV (mWA A) := by
  obtain ⟨v0, v1, v2, v3, v4, v5⟩ := hV
  exact ⟨v0, iFi_rng v1 (by omega), iFi_rng v2 (by omega), iFi_rng v3 (by omega), iFi_rng v4 (by omega), v5⟩
theorem sp_mDeal (hm : moA w G N A) (hG : gmV G) (hV : mtV A) (h8 : ∀ j, 8 ≤ j → A 1 j ≤ 0) (hu : iR u) (hd : 2 ≤ d) (hq : 43 ≤ q) : zr L xs d q 91 [.ref 817, iV u] w cn sn (mR w cn sn none G (mDe G N A u).1 (mDe G N A u).2) := by
  obtain ⟨d, rfl⟩ : ∃ e, d = e + 1 := ⟨d - 1, by omega⟩
  have m0 := hm.1
  have hA := gAll_rng hG
  refine ⟨_, rfl, ?_⟩
  show zw _ _ _ _ 91 0 [some (.ref 817), some (iV u), none, none, none, none, none] [] _ _ _ _
  refine zw_aload_n z91_0 rfl ?_
  refine zw_iconst z91_1 (v := iI 0) rfl ?_
  refine zj_putf z91_2 m0 (Nat.le_of_ble_eq_true rfl) (by rfl) (fun w1 n1 f1 => ?_)
  have hmA := mo_put (N' := nT N) (G' := G) hm n1 f1
  have F1 : zF moS w w1 := zF.rf.step f1 (by omega)
  have m0 := hmA.1
  refine zw_iload_n z91_5 rfl ?_
  refine zw_iconst z91_6 (v := iI 0) rfl ?_
  refine zw_sipush z91_7 (v := iI (32000)) (by decide +kernel) ?_
  refine zw_vs (n := 3) z91_10 rfl rfl (Nat.le_of_ble_eq_true rfl) (by omega) (sp_mWithin hu (by omega) (by omega)) ?_
  refine zj_b_ne z91_13 (fun h1 => ?_) (fun h1 => ?_)
  rotate_left
  · rw [show mDe G N A u = _ from if_neg h1]
    refine zw_aload_n z91_16 rfl ?_
    refine zw_iconst z91_17 (v := iI 1) rfl ?_
    refine zj_putf z91_18 m0 (Nat.le_of_ble_eq_true rfl) (by rfl) (fun w2 n2 f2 => ?_)
    have hmB := mo_put (N' := iU (nT N) 0 1) (G' := G) hmA n2 f2
    exact zw_vret z91_21 rfl ⟨_, rfl, rfl, rfl, rfl, hmB, F1.step f2 (by omega)⟩
  rw [show mDe G N A u = _ from if_pos h1]
  refine zw_aload_n z91_22 rfl ?_
  refine zw_cv (n := 2) z91_23 rfl rfl m0 (Nat.le_of_ble_eq_true rfl) (by omega) (sp_mWipe hmA) (fun v w2 cn2 sn2 h => ?_)
  obtain ⟨rfl, rfl, rfl, hmB, f2⟩ := h
  have m0 := hmB.1
  refine zw_aload_n z91_26 rfl ?_
  refine zw_vv (n := 1) z91_27 rfl rfl (by assumption) (Nat.le_of_ble_eq_true rfl) (by omega) (sp_mAll hmB) ?_
  refine zw_istore_n z91_30 rfl ?_
  refine zw_iconst z91_31 (v := iI 0) rfl ?_
  refine zw_istore_n z91_32 rfl ?_
  refine lp_mD1 (w := w) (A := mWA A) hG (fun w3 hmC f3 => ?_) (gAll G).toNat 0 w2 (by omega) (by rw [show iCp (fun j => (j : Int)) (mWA A 5) 0 = mWA A 5 from funext fun j => if_neg (by omega), fU_id]; exact hmB) (F1.trans f2)
  refine zw_iload_n z91_51 rfl ?_
  refine zw_i2l z91_52 ?_
  rw [jL_i2l (by omega)]
  refine zw_lstore_n z91_53 rfl ?_
  refine zw_iconst z91_54 (v := iI 0) rfl ?_
  refine zw_istore z91_55 rfl ?_
  have := lp_mD2 (w := w) (L := L) (xs := xs) (cn := cn2) (sn := sn2) (u := u) (N := mWN (nT N)) (Q := fun o w' cn' sn' => ∃ v, o = .inl v ∧ mR w cn2 sn2 none G (mWN (nT N)) (mDlA G A u) v w' cn' sn') hG (Nat.succ_le_of_lt (Nat.succ_pos d)) (by omega : 22 ≤ q) (R := mDlA G A u) (fun w4 hmD f4 => ⟨_, rfl, rfl, rfl, rfl, hmD, f4⟩) (gAll G).toNat 0 u _ w3 none (by omega) (by omega) (by omega) hmC (by
    obtain ⟨v0, v1, v2, v3, v4, v5⟩ := mWA_V hV
    refine ⟨v0, v1, v2, v3, v4, fun j => ?_⟩
    show 0 ≤ iCp (fun j => (j : Int)) (A 5) (gAll G).toNat j ∧ iCp (fun j => (j : Int)) (A 5) (gAll G).toNat j ≤ 51
    unfold iCp
    split
    · show 0 ≤ (j : Int) ∧ (j : Int) ≤ 51
      omega
    · exact hV.2.2.2.2.2 j) (fun j => by
    show iFi (A 1) 8 0 j ≤ 0
    unfold iFi
    split
    · omega
    · exact h8 j (by omega)) f3 rfl
  rwa [show (((gAll G).toNat : Nat) : Int) = gAll G by omega] at this
end ZMD
