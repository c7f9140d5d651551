/-! The reference: counts, limits, rows, what is safe. (Laid out by gen/tpl.py from tpl/61.model.tpl.) -/
section ZMP
variable {L : Nat} {xs : Nat → Int32} {d q : Nat} {w : zi_W} {cn sn : Nat} {Q : zi_O → zi_W → Nat → Nat → Prop} {G N : Nat → Int} {A : Nat → Nat → Int} {z y m c o a b e k : Int}
def mLd (f : Nat → Int) : Nat → Int → Int → Int
  | 0, _, n => n
  | j + 1, c, n => mLd f j (c + 1) (if f c.toNat = 0 then n else n + 1)
abbrev mLaid (A : Nat → Nat → Int) : Int := mLd (A 4) 52 0 0
theorem mLd_rng {f : Nat → Int} : ∀ (j : Nat) (c n : Int), n ≤ mLd f j c n ∧ mLd f j c n ≤ n + j := by
  intro j
  induction j with
  | zero => intro c n; exact ⟨Int.le_refl _, by show n ≤ n + 0; omega⟩
  | succ j ih =>
    intro c n
    have := ih (c + 1) (if f c.toNat = 0 then n else n + 1)
    unfold mLd
    split at this <;> rename_i h <;> simp only [h, if_true, if_false] <;> omega
theorem sp_mLaid (hm : moA w G N A) (hV : mtV A) : zv d q 92 [.ref 817] w (iI (mLaid A)) := by
  intro L xs cn sn
  have hm9 := hm
  obtain ⟨m0, a0, a1, a2, a3, a4, a5, a6, a7, a8, a9, a10, a11, a12⟩ := hm9
  obtain ⟨v0, v1, v2, v3, v4, v5⟩ := hV
  have lp : ∀ (j : Nat) (c n : Int), c + j = 52 → 0 ≤ c → 0 ≤ n ∧ n ≤ c → mLd (A 4) j c n = mLaid A → zw L xs d q 92 4 [some (.ref 817), some (iV n), some (iV c)] [] w cn sn (fun o w' cn' sn' => ∃ v, o = .inl v ∧ (v = some (.int (iI (mLaid A))) ∧ w' = w ∧ cn' = cn ∧ sn' = sn)) := by
    intro j
    induction j with
    | zero =>
      intro c n h1 h2 h3 h4
      refine zw_iload_n z92_4 rfl ?_
      refine zw_bipush z92_5 (v := iI (52)) (by decide +kernel) ?_
      refine zj_icmp_ge z92_7 (by omega) (by omega) (fun h7 => ?_) (fun h7 => ?_)
      · refine zw_iload_n z92_33 rfl ?_
        refine zw_iret z92_34 rfl ?_
        exact zv_end (congrArg iI h4)
      · exfalso; omega
    | succ j ih =>
      intro c n h1 h2 h3 h4
      have hb := v4 c.toNat
      refine zw_iload_n z92_4 rfl ?_
      refine zw_bipush z92_5 (v := iI (52)) (by decide +kernel) ?_
      refine zj_icmp_ge z92_7 (by omega) (by omega) (fun h7 => ?_) (fun h7 => ?_)
      · exfalso; omega
      refine zw_aload_n z92_10 rfl ?_
      refine zw_getf z92_11 (by assumption) (by rfl) ?_
      refine zw_iload_n z92_14 rfl ?_
      refine zj_bld z92_15 (by assumption) (by omega) (by decide) ?_
      refine zj_if_eq z92_16 (by omega) (fun h16 => ?_) (fun h16 => ?_)
      · refine zw_iload_n z92_25 rfl ?_
        refine zw_istore_n z92_26 rfl ?_
        refine zj_iinc z92_27 rfl rfl ?_
        refine zw_goto z92_30 ?_
        exact ih (c + 1) n (by omega) (by omega) (by omega) (by rw [← h4]; show _ = mLd (A 4) j (c + 1) (if _ then _ else _); rw [if_pos h16])
      · refine zw_iload_n z92_19 rfl ?_
        refine zw_iconst z92_20 (v := iI 1) rfl ?_
        refine zj_add z92_21 ?_
        refine zw_goto z92_22 ?_
        refine zw_istore_n z92_26 rfl ?_
        refine zj_iinc z92_27 rfl rfl ?_
        refine zw_goto z92_30 ?_
        exact ih (c + 1) (n + 1) (by omega) (by omega) (by omega) (by rw [← h4]; show _ = mLd (A 4) j (c + 1) (if _ then _ else _); rw [if_neg h16])
  refine ⟨_, rfl, ?_⟩
  show zw _ _ _ _ 92 0 [some (.ref 817), none, none] [] _ _ _ _
  refine zw_iconst z92_0 (v := iI 0) rfl ?_
  refine zw_istore_n z92_1 rfl ?_
  refine zw_iconst z92_2 (v := iI 0) rfl ?_
  refine zw_istore_n z92_3 rfl ?_
  exact lp 52 0 0 (by omega) (by omega) (by omega) rfl
def mL1 (A : Nat → Nat → Int) : Nat → Int → Int → Int
  | 0, _, n => n
  | j + 1, k, n => mL1 A j (k + 1) (if A 2 k.toNat < 0 then n + 1 else n)
def mL2 (G : Nat → Int) (A : Nat → Nat → Int) (y : Int) : Nat → Int → Int → Int
  | 0, _, n => n
  | j + 1, p, n => mL2 G A y j (p + 1) (if G 3 = 0 ∧ p ≠ y ∧ A 1 p.toNat = 0 then 2 * n else n)
abbrev mLim (G : Nat → Int) (A : Nat → Nat → Int) (y : Int) : Int := mL2 G A y (G 0).toNat 0 (mL1 A (G 1).toNat 0 1)
theorem mL1_rng : ∀ (j : Nat) (k n : Int), n ≤ mL1 A j k n ∧ mL1 A j k n ≤ n + j := by
  intro j
  induction j with
  | zero => intro c n; exact ⟨Int.le_refl _, by show n ≤ n + 0; omega⟩
  | succ j ih =>
    intro c n
    have := ih (c + 1) (if A 2 c.toNat < 0 then n + 1 else n)
    unfold mL1
    split at this <;> rename_i h <;> simp only [h, if_true, if_false] <;> omega
theorem mL2_rng : ∀ (j : Nat) (k n : Int), 0 ≤ n → n ≤ mL2 G A y j k n ∧ mL2 G A y j k n ≤ n * 2 ^ j := by
  intro j
  induction j with
  | zero => intro c n _; exact ⟨Int.le_refl _, by show n ≤ n * 1; omega⟩
  | succ j ih =>
    intro c n hn
    have hp : (2 : Int) ^ (j + 1) = 2 * 2 ^ j := by rw [Int.pow_succ]; omega
    have h0 : (0 : Int) ≤ n * 2 ^ j := Int.mul_nonneg hn (Int.le_of_lt (Int.pow_pos (by omega)))
    have e1 : n * 2 ^ (j + 1) = 2 * (n * 2 ^ j) := by rw [hp, Int.mul_left_comm]
    have e2 : 2 * n * 2 ^ j = 2 * (n * 2 ^ j) := by rw [Int.mul_assoc]
    unfold mL2
    rw [e1]
    split
    · have := ih (c + 1) (2 * n) (by omega)
      rw [e2] at this
      omega
    · have := ih (c + 1) n hn
      omega
theorem mLim_rng (hG : gmV G) : 1 ≤ mLim G A y ∧ mLim G A y ≤ 1280 := by
  unfold gmV at hG
  have h1 := mL1_rng (A := A) (G 1).toNat 0 1
  have h2 := mL2_rng (G := G) (A := A) (y := y) (G 0).toNat 0 (mL1 A (G 1).toNat 0 1) (by omega)
  have h3 := pw2 (G 0).toNat (by omega)
  have h4 : mL1 A (G 1).toNat 0 1 * 2 ^ (G 0).toNat ≤ 5 * 256 := Int.mul_le_mul (by omega) h3.2 (by omega) (by omega)
  unfold mLim
  omega
theorem sp_mLimit (hm : moA w G N A) (hG : gmV G) (hV : mtV A) (hy : iR y) : zv d q 101 [.ref 817, iV y] w (iI (mLim G A y)) := by
  intro L xs cn sn
  have hm9 := hm
  obtain ⟨m0, a0, a1, a2, a3, a4, a5, a6, a7, a8, a9, a10, a11, a12⟩ := hm9
  have hG' := hG
  unfold gmV at hG'
  obtain ⟨v0, v1, v2, v3, v4, v5⟩ := hV
  have lp2 : ∀ (j : Nat) (p n : Int), p + j = G 0 → 0 ≤ p → mL2 G A y j p n = mLim G A y → zw L xs d q 101 37 [some (.ref 817), some (iV y), some (iV n), some (iV p)] [] w cn sn (fun o w' cn' sn' => ∃ v, o = .inl v ∧ (v = some (.int (iI (mLim G A y))) ∧ w' = w ∧ cn' = cn ∧ sn' = sn)) := by
    intro j
    induction j with
    | zero =>
      intro p n h1 h2 h4
      refine zw_iload_n z101_37 rfl ?_
      refine zw_aload_n z101_38 rfl ?_
      refine zw_getf z101_39 (by assumption) (by rfl) ?_
      refine zj_icmp_ge z101_42 (by omega) (by omega) (fun h7 => ?_) (fun h7 => ?_)
      · refine zw_iload_n z101_80 rfl ?_
        refine zw_iret z101_81 rfl ?_
        exact zv_end (congrArg iI h4)
      · exfalso; omega
    | succ j ih =>
      intro p n h1 h2 h4
      have hb := v1 p.toNat
      have h4 : mL2 G A y j (p + 1) (if G 3 = 0 ∧ p ≠ y ∧ A 1 p.toNat = 0 then 2 * n else n) = mLim G A y := h4
      have kf : ¬ (G 3 = 0 ∧ p ≠ y ∧ A 1 p.toNat = 0) → zw L xs d q 101 72 [some (.ref 817), some (iV y), some (iV n), some (iV p)] [] w cn sn (fun o w' cn' sn' => ∃ v, o = .inl v ∧ (v = some (.int (iI (mLim G A y))) ∧ w' = w ∧ cn' = cn ∧ sn' = sn)) := by
        intro hn
        rw [if_neg hn] at h4
        refine zw_iload_n z101_72 rfl ?_
        refine zw_istore_n z101_73 rfl ?_
        refine zj_iinc z101_74 rfl rfl ?_
        refine zw_goto z101_77 ?_
        exact ih (p + 1) n (by omega) (by omega) h4
      refine zw_iload_n z101_37 rfl ?_
      refine zw_aload_n z101_38 rfl ?_
      refine zw_getf z101_39 (by assumption) (by rfl) ?_
      refine zj_icmp_ge z101_42 (by omega) (by omega) (fun h7 => ?_) (fun h7 => ?_)
      · exfalso; omega
      refine zw_aload_n z101_45 rfl ?_
      refine zw_getf z101_46 (by assumption) (by rfl) ?_
      refine zj_if_ne z101_49 (by omega) (fun h8 => ?_) (fun h8 => ?_)
      · exact kf (fun h => h8 h.1)
      refine zw_iload_n z101_52 rfl ?_
      refine zw_iload_n z101_53 rfl ?_
      refine zj_icmp_eq z101_54 (by omega) (by omega) (fun h9 => ?_) (fun h9 => ?_)
      · exact kf (fun h => h.2.1 h9)
      refine zw_aload_n z101_57 rfl ?_
      refine zw_getf z101_58 (by assumption) (by rfl) ?_
      refine zw_iload_n z101_61 rfl ?_
      refine zj_ald z101_62 (by assumption) (by omega) (by decide) ?_
      refine zj_if_ne z101_63 (by omega) (fun h10 => ?_) (fun h10 => ?_)
      · exact kf (fun h => h10 h.2.2)
      rw [if_pos ⟨by omega, by omega, by omega⟩] at h4
      refine zw_iconst z101_66 (v := iI 2) rfl ?_
      refine zw_iload_n z101_67 rfl ?_
      refine zj_mul z101_68 ?_
      refine zw_goto z101_69 ?_
      refine zw_istore_n z101_73 rfl ?_
      refine zj_iinc z101_74 rfl rfl ?_
      refine zw_goto z101_77 ?_
      exact ih (p + 1) (2 * n) (by omega) (by omega) h4
  have lp1 : ∀ (j : Nat) (p n : Int), p + j = G 1 → 0 ≤ p → mL1 A j p n = mL1 A (G 1).toNat 0 1 → zw L xs d q 101 4 [some (.ref 817), some (iV y), some (iV n), some (iV p)] [] w cn sn (fun o w' cn' sn' => ∃ v, o = .inl v ∧ (v = some (.int (iI (mLim G A y))) ∧ w' = w ∧ cn' = cn ∧ sn' = sn)) := by
    intro j
    induction j with
    | zero =>
      intro p n h1 h2 h4
      have h4 : n = mL1 A (G 1).toNat 0 1 := h4
      refine zw_iload_n z101_4 rfl ?_
      refine zw_aload_n z101_5 rfl ?_
      refine zw_getf z101_6 (by assumption) (by rfl) ?_
      refine zj_icmp_ge z101_9 (by omega) (by omega) (fun h7 => ?_) (fun h7 => ?_)
      · refine zw_iconst z101_35 (v := iI 0) rfl ?_
        refine zw_istore_n z101_36 rfl ?_
        exact lp2 (G 0).toNat 0 n (by omega) (by omega) (by rw [h4])
      · exfalso; omega
    | succ j ih =>
      intro p n h1 h2 h4
      have hb := v2 p.toNat
      have h4 : mL1 A j (p + 1) (if A 2 p.toNat < 0 then n + 1 else n) = mL1 A (G 1).toNat 0 1 := h4
      refine zw_iload_n z101_4 rfl ?_
      refine zw_aload_n z101_5 rfl ?_
      refine zw_getf z101_6 (by assumption) (by rfl) ?_
      refine zj_icmp_ge z101_9 (by omega) (by omega) (fun h7 => ?_) (fun h7 => ?_)
      · exfalso; omega
      refine zw_aload_n z101_12 rfl ?_
      refine zw_getf z101_13 (by assumption) (by rfl) ?_
      refine zw_iload_n z101_16 rfl ?_
      refine zj_ald z101_17 (by assumption) (by omega) (by decide) ?_
      refine zj_if_ge z101_18 (by omega) (fun h8 => ?_) (fun h8 => ?_)
      · rw [if_neg (by omega)] at h4
        refine zw_iload_n z101_27 rfl ?_
        refine zw_istore_n z101_28 rfl ?_
        refine zj_iinc z101_29 rfl rfl ?_
        refine zw_goto z101_32 ?_
        exact ih (p + 1) n (by omega) (by omega) h4
      · rw [if_pos (by omega)] at h4
        refine zw_iload_n z101_21 rfl ?_
        refine zw_iconst z101_22 (v := iI 1) rfl ?_
        refine zj_add z101_23 ?_
        refine zw_goto z101_24 ?_
        refine zw_istore_n z101_28 rfl ?_
        refine zj_iinc z101_29 rfl rfl ?_
        refine zw_goto z101_32 ?_
        exact ih (p + 1) (n + 1) (by omega) (by omega) h4
  refine ⟨_, rfl, ?_⟩
  show zw _ _ _ _ 101 0 [some (.ref 817), some (iV y), none, none] [] _ _ _ _
  refine zw_iconst z101_0 (v := iI 1) rfl ?_
  refine zw_istore_n z101_1 rfl ?_
  refine zw_iconst z101_2 (v := iI 0) rfl ?_
  refine zw_istore_n z101_3 rfl ?_
  exact lp1 (G 1).toNat 0 1 (by omega) (by omega) rfl
/-- the cards of column z from k on, j of them, fit on those beneath -/
def mRw (G : Nat → Int) (A : Nat → Nat → Int) (z : Int) : Nat → Int → Int
  | 0, _ => 1
  | j + 1, k => if gFit G (mFT A z k) (mFT A z (k + 1)) then mRw G A z j (k + 1) else 0
abbrev mRws (G : Nat → Int) (A : Nat → Nat → Int) (z y m : Int) : Prop := gCol G z ∧ gCol G y ∧ z ≠ y ∧ m ≤ A 1 z.toNat ∧ m ≤ mLim G A y ∧ mRw G A z (m - 1).toNat 0 = 1 ∧ mFA G A (mFT A z (m - 1)) y
abbrev mMay (G : Nat → Int) (A : Nat → Nat → Int) (z y m : Int) : Prop := if m = 1 then mOne G A z y else mRws G A z y m
theorem mFT_in (hV : mtV A) (hk : k < A 1 z.toNat) : 0 ≤ mFT A z k ∧ mFT A z k < 52 := by
  have h1 := hV.1 (52 * z + A 1 z.toNat - 1 - k).toNat
  unfold mFT
  rw [if_pos hk]
  omega
theorem sp_mMay (hm : moA w G N A) (hG : gmV G) (hV : mtV A) (hz : gCol G z ∨ gCel G z) (hy : gPla G y) (hm1 : 1 ≤ m ∧ m < 2147483648) (hd : 4 ≤ d) (hq : 88 ≤ q) : zv d q 102 [.ref 817, iV z, iV y, iV m] w (iI (b2 (mMay G A z y m))) := by
  intro L xs cn sn
  obtain ⟨d, rfl⟩ : ∃ e, d = e + 1 := ⟨d - 1, by omega⟩
  have hm9 := hm
  obtain ⟨m0, a0, a1, a2, a3, a4, a5, a6, a7, a8, a9, a10, a11, a12⟩ := hm9
  have hG' := hG
  unfold gmV at hG'
  have hV' := hV
  obtain ⟨v0, v1, v2, v3, v4, v5⟩ := hV'
  have hl := mLim_rng (A := A) (y := y) hG
  have hh := v1 z.toNat
  refine ⟨_, rfl, ?_⟩
  show zw _ _ _ _ 102 0 [some (.ref 817), some (iV z), some (iV y), some (iV m), none] [] _ _ _ _
  refine zw_iload_n z102_0 rfl ?_
  refine zw_iconst z102_1 (v := iI 1) rfl ?_
  refine zj_icmp_ne z102_2 (by omega) (by omega) (fun h1 => ?_) (fun h1 => ?_)
  rotate_left
  · refine zw_aload_n z102_5 rfl ?_
    refine zw_iload_n z102_6 rfl ?_
    refine zw_iload_n z102_7 rfl ?_
    refine zw_vv (n := 4) z102_8 rfl rfl (by assumption) (Nat.le_of_ble_eq_true rfl) (by omega) (sp_mMayOne hm hG hV hz hy (by omega) (by omega)) ?_
    refine zj_bret z102_11 rfl b2_r ?_
    exact zv_end (by congr 1; apply b2_c; unfold mMay; rw [if_pos (by omega)])
  have kf : ¬ mRws G A z y m → ∀ x4, zw L xs (d + 1) q 102 52 [some (.ref 817), some (iV z), some (iV y), some (iV m), x4] [] w cn sn (fun o w' cn' sn' => ∃ v, o = .inl v ∧ (v = some (.int (iI (b2 (mMay G A z y m)))) ∧ w' = w ∧ cn' = cn ∧ sn' = sn)) := by
    intro hn x4
    refine zw_iconst z102_52 (v := iI 0) rfl ?_
    refine zj_bret z102_53 rfl (by omega) ?_
    exact zv_end (by rw [b2_f (by unfold mMay; rw [if_neg h1]; exact hn)])
  refine zw_aload_n z102_12 rfl ?_
  refine zw_iload_n z102_13 rfl ?_
  refine zw_vv (n := 2) z102_14 rfl rfl (by assumption) (Nat.le_of_ble_eq_true rfl) (by omega) (sp_mIsColumn hm hG (by omega) (by omega) (by omega)) ?_
  refine zj_b_eq z102_17 (fun h2 => ?_) (fun h2 => ?_)
  · exact kf (fun h => h2 h.1) _
  refine zw_aload_n z102_20 rfl ?_
  refine zw_iload_n z102_21 rfl ?_
  refine zw_vv (n := 2) z102_22 rfl rfl (by assumption) (Nat.le_of_ble_eq_true rfl) (by omega) (sp_mIsColumn hm hG (by omega) (by omega) (by omega)) ?_
  refine zj_b_eq z102_25 (fun h3 => ?_) (fun h3 => ?_)
  · exact kf (fun h => h3 h.2.1) _
  refine zw_iload_n z102_28 rfl ?_
  refine zw_iload_n z102_29 rfl ?_
  refine zj_icmp_eq z102_30 (by omega) (by omega) (fun h4 => ?_) (fun h4 => ?_)
  · exact kf (fun h => h.2.2.1 h4) _
  refine zw_iload_n z102_33 rfl ?_
  refine zw_aload_n z102_34 rfl ?_
  refine zw_getf z102_35 (by assumption) (by rfl) ?_
  refine zw_iload_n z102_38 rfl ?_
  refine zj_ald z102_39 (by assumption) (by omega) (by decide) ?_
  refine zj_icmp_gt z102_40 (by omega) (by omega) (fun h5 => ?_) (fun h5 => ?_)
  · exact kf (fun h => by have := h.2.2.2.1; omega) _
  refine zw_iload_n z102_43 rfl ?_
  refine zw_aload_n z102_44 rfl ?_
  refine zw_iload_n z102_45 rfl ?_
  refine zw_vv (n := 4) z102_46 rfl rfl (by assumption) (Nat.le_of_ble_eq_true rfl) (by omega) (sp_mLimit hm hG hV (by omega)) ?_
  refine zj_icmp_le z102_49 (by omega) (by omega) (fun h6 => ?_) (fun h6 => ?_)
  rotate_left
  · exact kf (fun h => by have := h.2.2.2.2.1; omega) _
  refine zw_iconst z102_54 (v := iI 0) rfl ?_
  refine zw_istore z102_55 rfl ?_
  have lp : ∀ (j : Nat) (k : Int), k + j = m - 1 → 0 ≤ k → mRw G A z j k = mRw G A z (m - 1).toNat 0 → zw L xs (d + 1) q 102 57 [some (.ref 817), some (iV z), some (iV y), some (iV m), some (iV k)] [] w cn sn (fun o w' cn' sn' => ∃ v, o = .inl v ∧ (v = some (.int (iI (b2 (mMay G A z y m)))) ∧ w' = w ∧ cn' = cn ∧ sn' = sn)) := by
    intro j
    induction j with
    | zero =>
      intro k e1 e2 e3
      have e3 : 1 = mRw G A z (m - 1).toNat 0 := e3
      have hf := mFT_in (z := z) (k := m - 1) hV (by omega)
      refine zw_iload z102_57 rfl ?_
      refine zw_iconst z102_59 (v := iI 1) rfl ?_
      refine zj_add z102_60 ?_
      refine zw_iload_n z102_61 rfl ?_
      refine zj_icmp_ge z102_62 (by omega) (by omega) (fun h7 => ?_) (fun h7 => ?_)
      · refine zw_aload_n z102_96 rfl ?_
        refine zw_aload_n z102_97 rfl ?_
        refine zw_iload_n z102_98 rfl ?_
        refine zw_iload_n z102_99 rfl ?_
        refine zw_iconst z102_100 (v := iI 1) rfl ?_
        refine zj_sub z102_101 ?_
        refine zw_vv (n := 3) z102_102 rfl rfl (by assumption) (Nat.le_of_ble_eq_true rfl) (by omega) (sp_mFromTop hm hV (by omega) (by omega)) ?_
        refine zw_iload_n z102_105 rfl ?_
        refine zw_vv (n := 3) z102_106 rfl rfl (by assumption) (Nat.le_of_ble_eq_true rfl) (by omega) (sp_mFitsAt hm hG hV hf (by omega) (by omega) (by omega)) ?_
        refine zj_bret z102_109 rfl b2_r ?_
        exact zv_end (by congr 1; apply b2_c; unfold mMay; rw [if_neg h1]; exact ⟨fun h => ⟨h2, h3, by omega, by omega, by omega, e3.symm, h⟩, fun h => h.2.2.2.2.2.2⟩)
      · exfalso; omega
    | succ j ih =>
      intro k e1 e2 e3
      have f1 := mFT_in (z := z) (k := k) hV (by omega)
      have f2 := mFT_in (z := z) (k := k + 1) hV (by omega)
      have e3 : (if gFit G (mFT A z k) (mFT A z (k + 1)) then mRw G A z j (k + 1) else 0) = mRw G A z (m - 1).toNat 0 := e3
      refine zw_iload z102_57 rfl ?_
      refine zw_iconst z102_59 (v := iI 1) rfl ?_
      refine zj_add z102_60 ?_
      refine zw_iload_n z102_61 rfl ?_
      refine zj_icmp_ge z102_62 (by omega) (by omega) (fun h7 => ?_) (fun h7 => ?_)
      · exfalso; omega
      refine zw_aload_n z102_65 rfl ?_
      refine zw_aload_n z102_66 rfl ?_
      refine zw_iload_n z102_67 rfl ?_
      refine zw_iload z102_68 rfl ?_
      refine zw_vv (n := 3) z102_70 rfl rfl (by assumption) (Nat.le_of_ble_eq_true rfl) (by omega) (sp_mFromTop hm hV (by omega) (by omega)) ?_
      refine zw_aload_n z102_73 rfl ?_
      refine zw_iload_n z102_74 rfl ?_
      refine zw_iload z102_75 rfl ?_
      refine zw_iconst z102_77 (v := iI 1) rfl ?_
      refine zj_add z102_78 ?_
      refine zw_vv (n := 3) z102_79 rfl rfl (by assumption) (Nat.le_of_ble_eq_true rfl) (by omega) (sp_mFromTop hm hV (by omega) (by omega)) ?_
      refine zw_vv (n := 3) z102_82 rfl rfl (by assumption) (Nat.le_of_ble_eq_true rfl) (by omega) (sp_mFitsOn hm hG f1 f2 (by omega) (by omega)) ?_
      refine zj_b_ne z102_85 (fun h8 => ?_) (fun h8 => ?_)
      · rw [if_pos h8] at e3
        refine zj_iinc z102_90 rfl rfl ?_
        refine zw_goto z102_93 ?_
        exact ih (k + 1) (by omega) (by omega) e3
      · rw [if_neg h8] at e3
        refine zw_iconst z102_88 (v := iI 0) rfl ?_
        refine zj_bret z102_89 rfl (by omega) ?_
        exact zv_end (by rw [b2_f (by unfold mMay; rw [if_neg h1]; exact fun h => by have := h.2.2.2.2.2.1; omega)])
  exact lp (m - 1).toNat 0 (by omega) (by omega) rfl
def mMo (G : Nat → Int) (A : Nat → Nat → Int) (z y : Int) : Nat → Int → Int → Int
  | 0, _, b => b
  | j + 1, m, b => mMo G A z y j (m + 1) (if mMay G A z y m then m else b)
abbrev mMost (G : Nat → Int) (A : Nat → Nat → Int) (z y : Int) : Int := mMo G A z y (A 1 z.toNat).toNat 1 0
theorem mMo_rng : ∀ (j : Nat) (m b : Int), 0 ≤ b ∧ b < m → 0 ≤ mMo G A z y j m b ∧ mMo G A z y j m b < m + j := by
  intro j
  induction j with
  | zero => intro m b h; exact ⟨h.1, by show b < m + 0; omega⟩
  | succ j ih =>
    intro m b h
    unfold mMo
    split
    · have := ih (m + 1) m (by omega); omega
    · have := ih (m + 1) b (by omega); omega
theorem sp_mMostOf (hm : moA w G N A) (hG : gmV G) (hV : mtV A) (hz : gCol G z) (hy : gCol G y) (hd : 5 ≤ d) (hq : 112 ≤ q) : zv d q 109 [.ref 817, iV z, iV y] w (iI (mMost G A z y)) := by
  intro L xs cn sn
  obtain ⟨d, rfl⟩ : ∃ e, d = e + 1 := ⟨d - 1, by omega⟩
  have hm9 := hm
  obtain ⟨m0, a0, a1, a2, a3, a4, a5, a6, a7, a8, a9, a10, a11, a12⟩ := hm9
  have hG' := hG
  unfold gmV at hG'
  have hV' := hV
  obtain ⟨v0, v1, v2, v3, v4, v5⟩ := hV'
  have hh := v1 z.toNat
  have lp : ∀ (j : Nat) (m b : Int), m + j = A 1 z.toNat + 1 → 1 ≤ m → mMo G A z y j m b = mMost G A z y → zw L xs (d + 1) q 109 5 [some (.ref 817), some (iV z), some (iV y), some (iV b), some (iV m)] [] w cn sn (fun o w' cn' sn' => ∃ v, o = .inl v ∧ (v = some (.int (iI (mMost G A z y))) ∧ w' = w ∧ cn' = cn ∧ sn' = sn)) := by
    intro j
    induction j with
    | zero =>
      intro m b h1 h2 h4
      refine zw_iload z109_5 rfl ?_
      refine zw_aload_n z109_7 rfl ?_
      refine zw_getf z109_8 (by assumption) (by rfl) ?_
      refine zw_iload_n z109_11 rfl ?_
      refine zj_ald z109_12 (by assumption) (by omega) (by decide) ?_
      refine zj_icmp_gt z109_13 (by omega) (by omega) (fun h7 => ?_) (fun h7 => ?_)
      · refine zw_iload_n z109_40 rfl ?_
        refine zw_iret z109_41 rfl ?_
        exact zv_end (congrArg iI h4)
      · exfalso; omega
    | succ j ih =>
      intro m b h1 h2 h4
      have h4 : mMo G A z y j (m + 1) (if mMay G A z y m then m else b) = mMost G A z y := h4
      refine zw_iload z109_5 rfl ?_
      refine zw_aload_n z109_7 rfl ?_
      refine zw_getf z109_8 (by assumption) (by rfl) ?_
      refine zw_iload_n z109_11 rfl ?_
      refine zj_ald z109_12 (by assumption) (by omega) (by decide) ?_
      refine zj_icmp_gt z109_13 (by omega) (by omega) (fun h7 => ?_) (fun h7 => ?_)
      · exfalso; omega
      refine zw_aload_n z109_16 rfl ?_
      refine zw_iload_n z109_17 rfl ?_
      refine zw_iload_n z109_18 rfl ?_
      refine zw_iload z109_19 rfl ?_
      refine zw_vv (n := 5) z109_21 rfl rfl (by assumption) (Nat.le_of_ble_eq_true rfl) (by omega) (sp_mMay hm hG hV (Or.inl hz) (Or.inl hy) (by omega) (by omega) (by omega)) ?_
      refine zj_b_eq z109_24 (fun h8 => ?_) (fun h8 => ?_)
      · rw [if_neg h8] at h4
        refine zw_iload_n z109_32 rfl ?_
        refine zw_istore_n z109_33 rfl ?_
        refine zj_iinc z109_34 rfl rfl ?_
        refine zw_goto z109_37 ?_
        exact ih (m + 1) b (by omega) (by omega) h4
      · rw [if_pos h8] at h4
        refine zw_iload z109_27 rfl ?_
        refine zw_goto z109_29 ?_
        refine zw_istore_n z109_33 rfl ?_
        refine zj_iinc z109_34 rfl rfl ?_
        refine zw_goto z109_37 ?_
        exact ih (m + 1) m (by omega) (by omega) h4
  refine ⟨_, rfl, ?_⟩
  show zw _ _ _ _ 109 0 [some (.ref 817), some (iV z), some (iV y), none, none] [] _ _ _ _
  refine zw_iconst z109_0 (v := iI 0) rfl ?_
  refine zw_istore_n z109_1 rfl ?_
  refine zw_iconst z109_2 (v := iI 1) rfl ?_
  refine zw_istore z109_3 rfl ?_
  exact lp (A 1 z.toNat).toNat 1 0 (by omega) (by omega) rfl
abbrev mPlc (G : Nat → Int) (c : Int) : Int := if gPla G (lTold c) then lTold c else -1
theorem sp_mPlaceOf (hm : moA w G N A) (hG : gmV G) (hc : 0 ≤ c ∧ c ≤ 65535) (hd : 2 ≤ d) (hq : 43 ≤ q) : zv d q 108 [.ref 817, iV c] w (iI (mPlc G c)) := by
  intro L xs cn sn
  obtain ⟨d, rfl⟩ : ∃ e, d = e + 1 := ⟨d - 1, by omega⟩
  have hm9 := hm
  obtain ⟨m0, a0, a1, a2, a3, a4, a5, a6, a7, a8, a9, a10, a11, a12⟩ := hm9
  have hG' := hG
  unfold gmV at hG'
  refine ⟨_, rfl, ?_⟩
  show zw _ _ _ _ 108 0 [some (.ref 817), some (iV c), none] [] _ _ _ _
  refine zw_iload_n z108_0 rfl ?_
  refine zw_bipush z108_1 (v := iI (104)) (by decide +kernel) ?_
  refine zj_icmp_ne z108_3 (by omega) (by omega) (fun h3 => ?_) (fun h3 => ?_)
  · refine zw_iload_n z108_9 rfl ?_
    refine zw_bipush z108_10 (v := iI (97)) (by decide +kernel) ?_
    refine zw_bipush z108_12 (v := iI (100)) (by decide +kernel) ?_
    refine zw_vs (n := 3) z108_14 rfl rfl (Nat.le_of_ble_eq_true rfl) (by omega) (sp_mWithin (by omega) (by omega) (by omega)) ?_
    refine zj_b_eq z108_17 (fun h17 => ?_) (fun h17 => ?_)
    · refine zw_iload_n z108_30 rfl ?_
      refine zw_bipush z108_31 (v := iI (49)) (by decide +kernel) ?_
      refine zw_bipush z108_33 (v := iI (56)) (by decide +kernel) ?_
      refine zw_vs (n := 3) z108_35 rfl rfl (Nat.le_of_ble_eq_true rfl) (by omega) (sp_mWithin (by omega) (by omega) (by omega)) ?_
      refine zj_b_eq z108_38 (fun h38 => ?_) (fun h38 => ?_)
      · refine zw_iconst z108_48 (v := iI (-1)) rfl ?_
        refine zw_istore_n z108_49 rfl ?_
        refine zw_aload_n z108_50 rfl ?_
        refine zw_iload_n z108_51 rfl ?_
        refine zw_vv (n := 2) z108_52 rfl rfl (by assumption) (Nat.le_of_ble_eq_true rfl) (by omega) (sp_mIsColumn hm hG (by omega) (by omega) (by omega)) ?_
        refine zj_b_ne z108_55 (fun h55 => ?_) (fun h55 => ?_)
        · refine zw_iload_n z108_66 rfl ?_
          refine zw_goto z108_67 ?_
          refine zw_iret z108_71 rfl ?_
          exact zv_end (by congr 1; unfold mPlc lTold; grind)
        · refine zw_aload_n z108_58 rfl ?_
          refine zw_iload_n z108_59 rfl ?_
          refine zw_vv (n := 2) z108_60 rfl rfl (by assumption) (Nat.le_of_ble_eq_true rfl) (by omega) (sp_mIsCell hm hG (by omega) (by omega) (by omega)) ?_
          refine zj_b_eq z108_63 (fun h63 => ?_) (fun h63 => ?_)
          · refine zw_iconst z108_70 (v := iI (-1)) rfl ?_
            refine zw_iret z108_71 rfl ?_
            exact zv_end (by congr 1; unfold mPlc lTold; grind)
          · refine zw_iload_n z108_66 rfl ?_
            refine zw_goto z108_67 ?_
            refine zw_iret z108_71 rfl ?_
            exact zv_end (by congr 1; unfold mPlc lTold; grind)
      · refine zw_iload_n z108_41 rfl ?_
        refine zw_bipush z108_42 (v := iI (49)) (by decide +kernel) ?_
        refine zj_sub z108_44 ?_
        refine zw_goto z108_45 ?_
        refine zw_istore_n z108_49 rfl ?_
        refine zw_aload_n z108_50 rfl ?_
        refine zw_iload_n z108_51 rfl ?_
        refine zw_vv (n := 2) z108_52 rfl rfl (by assumption) (Nat.le_of_ble_eq_true rfl) (by omega) (sp_mIsColumn hm hG (by omega) (by omega) (by omega)) ?_
        refine zj_b_ne z108_55 (fun h55 => ?_) (fun h55 => ?_)
        · refine zw_iload_n z108_66 rfl ?_
          refine zw_goto z108_67 ?_
          refine zw_iret z108_71 rfl ?_
          exact zv_end (by congr 1; unfold mPlc lTold; grind)
        · refine zw_aload_n z108_58 rfl ?_
          refine zw_iload_n z108_59 rfl ?_
          refine zw_vv (n := 2) z108_60 rfl rfl (by assumption) (Nat.le_of_ble_eq_true rfl) (by omega) (sp_mIsCell hm hG (by omega) (by omega) (by omega)) ?_
          refine zj_b_eq z108_63 (fun h63 => ?_) (fun h63 => ?_)
          · refine zw_iconst z108_70 (v := iI (-1)) rfl ?_
            refine zw_iret z108_71 rfl ?_
            exact zv_end (by congr 1; unfold mPlc lTold; grind)
          · refine zw_iload_n z108_66 rfl ?_
            refine zw_goto z108_67 ?_
            refine zw_iret z108_71 rfl ?_
            exact zv_end (by congr 1; unfold mPlc lTold; grind)
    · refine zw_bipush z108_20 (v := iI (8)) (by decide +kernel) ?_
      refine zw_iload_n z108_22 rfl ?_
      refine zj_add z108_23 ?_
      refine zw_bipush z108_24 (v := iI (97)) (by decide +kernel) ?_
      refine zj_sub z108_26 ?_
      refine zw_goto z108_27 ?_
      refine zw_istore_n z108_49 rfl ?_
      refine zw_aload_n z108_50 rfl ?_
      refine zw_iload_n z108_51 rfl ?_
      refine zw_vv (n := 2) z108_52 rfl rfl (by assumption) (Nat.le_of_ble_eq_true rfl) (by omega) (sp_mIsColumn hm hG (by omega) (by omega) (by omega)) ?_
      refine zj_b_ne z108_55 (fun h55 => ?_) (fun h55 => ?_)
      · refine zw_iload_n z108_66 rfl ?_
        refine zw_goto z108_67 ?_
        refine zw_iret z108_71 rfl ?_
        exact zv_end (by congr 1; unfold mPlc lTold; grind)
      · refine zw_aload_n z108_58 rfl ?_
        refine zw_iload_n z108_59 rfl ?_
        refine zw_vv (n := 2) z108_60 rfl rfl (by assumption) (Nat.le_of_ble_eq_true rfl) (by omega) (sp_mIsCell hm hG (by omega) (by omega) (by omega)) ?_
        refine zj_b_eq z108_63 (fun h63 => ?_) (fun h63 => ?_)
        · refine zw_iconst z108_70 (v := iI (-1)) rfl ?_
          refine zw_iret z108_71 rfl ?_
          exact zv_end (by congr 1; unfold mPlc lTold; grind)
        · refine zw_iload_n z108_66 rfl ?_
          refine zw_goto z108_67 ?_
          refine zw_iret z108_71 rfl ?_
          exact zv_end (by congr 1; unfold mPlc lTold; grind)
  · refine zw_bipush z108_6 (v := iI (12)) (by decide +kernel) ?_
    refine zw_iret z108_8 rfl ?_
    exact zv_end (by congr 1; unfold mPlc lTold; grind)
/-- none of the suits that matter lacks a card that could lie on c -/
abbrev mMat (G : Nat → Int) (c s : Int) : Prop := G 2 = 2 ∨ (G 2 = 0 ∧ ¬ (gBlk s ↔ gBlk (gSuit G c)))
def mSf (G : Nat → Int) (A : Nat → Nat → Int) (c : Int) : Nat → Int → Int → Int
  | 0, _, b => b
  | j + 1, s, b => mSf G A c j (s + 1) (if b = 1 ∧ (mMat G c s → gRank G c < 3 ∨ gRank G c ≤ A 3 s.toNat + 1) then 1 else 0)
abbrev mSafe (G : Nat → Int) (A : Nat → Nat → Int) (c : Int) : Prop := mSf G A c (G 4).toNat 0 1 = 1
theorem mSf_rng : ∀ (j : Nat) (s b : Int), b = 0 ∨ b = 1 → mSf G A c j s b = 0 ∨ mSf G A c j s b = 1 := by
  intro j
  induction j with
  | zero => intro s b h; exact h
  | succ j ih =>
    intro s b h
    unfold mSf
    refine ih _ _ ?_
    split <;> omega
theorem sp_mIsSafe (hm : moA w G N A) (hG : gmV G) (hV : mtV A) (hc : 0 ≤ c ∧ c < 52) (hd : 1 ≤ d) (hq : 21 ≤ q) : zv d q 111 [.ref 817, iV c] w (iI (b2 (mSafe G A c))) := by
  intro L xs cn sn
  obtain ⟨d, rfl⟩ : ∃ e, d = e + 1 := ⟨d - 1, by omega⟩
  have hm9 := hm
  obtain ⟨m0, a0, a1, a2, a3, a4, a5, a6, a7, a8, a9, a10, a11, a12⟩ := hm9
  have hG' := hG
  unfold gmV at hG'
  have hV' := hV
  obtain ⟨v0, v1, v2, v3, v4, v5⟩ := hV'
  have rc := gRank_rng (c := c) hG hc
  have sc := gSuit_rng (c := c) hG
  have lp : ∀ (j : Nat) (s b : Int) (x4 : Option Value), s + j = G 4 → 0 ≤ s → b = 0 ∨ b = 1 → mSf G A c j s b = mSf G A c (G 4).toNat 0 1 → zw L xs (d + 1) q 111 4 [some (.ref 817), some (iV c), some (iV b), some (iV s), x4] [] w cn sn (fun o w' cn' sn' => ∃ v, o = .inl v ∧ (v = some (.int (iI (b2 (mSafe G A c)))) ∧ w' = w ∧ cn' = cn ∧ sn' = sn)) := by
    intro j
    induction j with
    | zero =>
      intro s b x4 h1 h2 h3 h4
      have h4 : b = mSf G A c (G 4).toNat 0 1 := h4
      refine zw_iload_n z111_4 rfl ?_
      refine zw_aload_n z111_5 rfl ?_
      refine zw_getf z111_6 (by assumption) (by rfl) ?_
      refine zj_icmp_ge z111_9 (by omega) (by omega) (fun h7 => ?_) (fun h7 => ?_)
      · refine zw_iload_n z111_95 rfl ?_
        refine zj_bret z111_96 rfl h3 ?_
        exact zv_end (congrArg iI (by unfold mSafe b2; rw [← h4]; rcases h3 with rfl | rfl <;> decide))
      · exfalso; omega
    | succ j ih =>
      intro s b x4 h1 h2 h3 h4
      have hb := v3 s.toNat
      have h4 : mSf G A c j (s + 1) (if b = 1 ∧ (mMat G c s → gRank G c < 3 ∨ gRank G c ≤ A 3 s.toNat + 1) then 1 else 0) = mSf G A c (G 4).toNat 0 1 := h4
      have kt : (b = 1 ∧ (mMat G c s → gRank G c < 3 ∨ gRank G c ≤ A 3 s.toNat + 1)) → ∀ x4, zw L xs (d + 1) q 111 88 [some (.ref 817), some (iV c), some (iV b), some (iV s), x4] [iV 1] w cn sn (fun o w' cn' sn' => ∃ v, o = .inl v ∧ (v = some (.int (iI (b2 (mSafe G A c)))) ∧ w' = w ∧ cn' = cn ∧ sn' = sn)) := by
        intro h x4
        rw [if_pos h] at h4
        refine zw_istore_n z111_88 rfl ?_
        refine zj_iinc z111_89 rfl rfl ?_
        refine zw_goto z111_92 ?_
        exact ih (s + 1) 1 x4 (by omega) (by omega) (by omega) h4
      have kf : ¬ (b = 1 ∧ (mMat G c s → gRank G c < 3 ∨ gRank G c ≤ A 3 s.toNat + 1)) → ∀ x4, zw L xs (d + 1) q 111 87 [some (.ref 817), some (iV c), some (iV b), some (iV s), x4] [] w cn sn (fun o w' cn' sn' => ∃ v, o = .inl v ∧ (v = some (.int (iI (b2 (mSafe G A c)))) ∧ w' = w ∧ cn' = cn ∧ sn' = sn)) := by
        intro h x4
        rw [if_neg h] at h4
        refine zw_iconst z111_87 (v := iI 0) rfl ?_
        refine zw_istore_n z111_88 rfl ?_
        refine zj_iinc z111_89 rfl rfl ?_
        refine zw_goto z111_92 ?_
        exact ih (s + 1) 0 x4 (by omega) (by omega) (by omega) h4
      have k47 : ∀ t : Int, (t = 0 ∧ ¬ mMat G c s) ∨ (t = 1 ∧ mMat G c s) → ∀ x4, zw L xs (d + 1) q 111 47 [some (.ref 817), some (iV c), some (iV b), some (iV s), x4] [iV t] w cn sn (fun o w' cn' sn' => ∃ v, o = .inl v ∧ (v = some (.int (iI (b2 (mSafe G A c)))) ∧ w' = w ∧ cn' = cn ∧ sn' = sn)) := by
        intro t ht x4
        refine zw_istore z111_47 rfl ?_
        refine zw_iload_n z111_49 rfl ?_
        refine zj_if_eq z111_50 (by omega) (fun g1 => ?_) (fun g1 => ?_)
        · exact kf (fun h => by omega) _
        refine zw_iload z111_53 rfl ?_
        refine zj_if_eq z111_55 (by omega) (fun g2 => ?_) (fun g2 => ?_)
        · refine zw_iconst z111_83 (v := iI 1) rfl ?_
          refine zw_goto z111_84 ?_
          exact kt ⟨by omega, fun h => absurd h (by rcases ht with h | h; exact h.2; exfalso; omega)⟩ _
        have hmt : mMat G c s := by
          rcases ht with h | h
          · exfalso; omega
          · exact h.2
        refine zw_aload_n z111_58 rfl ?_
        refine zw_iload_n z111_59 rfl ?_
        refine zw_vv (n := 2) z111_60 rfl rfl (by assumption) (Nat.le_of_ble_eq_true rfl) (by omega) (sp_mRank hm hG hc) ?_
        refine zw_iconst z111_63 (v := iI 3) rfl ?_
        refine zj_icmp_lt z111_64 (by omega) (by omega) (fun g3 => ?_) (fun g3 => ?_)
        · refine zw_iconst z111_83 (v := iI 1) rfl ?_
          refine zw_goto z111_84 ?_
          exact kt ⟨by omega, fun _ => Or.inl g3⟩ _
        refine zw_aload_n z111_67 rfl ?_
        refine zw_getf z111_68 (by assumption) (by rfl) ?_
        refine zw_iload_n z111_71 rfl ?_
        refine zj_ald z111_72 (by assumption) (by omega) (by decide) ?_
        refine zw_iconst z111_73 (v := iI 1) rfl ?_
        refine zj_add z111_74 ?_
        refine zw_aload_n z111_75 rfl ?_
        refine zw_iload_n z111_76 rfl ?_
        refine zw_vv (n := 2) z111_77 rfl rfl (by assumption) (Nat.le_of_ble_eq_true rfl) (by omega) (sp_mRank hm hG hc) ?_
        refine zj_icmp_lt z111_80 (by omega) (by omega) (fun g4 => ?_) (fun g4 => ?_)
        · exact kf (fun h => by have := h.2 hmt; omega) _
        · refine zw_iconst z111_83 (v := iI 1) rfl ?_
          refine zw_goto z111_84 ?_
          exact kt ⟨by omega, fun _ => Or.inr (by omega)⟩ _
      refine zw_iload_n z111_4 rfl ?_
      refine zw_aload_n z111_5 rfl ?_
      refine zw_getf z111_6 (by assumption) (by rfl) ?_
      refine zj_icmp_ge z111_9 (by omega) (by omega) (fun h7 => ?_) (fun h7 => ?_)
      · exfalso; omega
      refine zw_aload_n z111_12 rfl ?_
      refine zw_getf z111_13 (by assumption) (by rfl) ?_
      refine zw_iconst z111_16 (v := iI 2) rfl ?_
      refine zj_icmp_eq z111_17 (by omega) (by omega) (fun h8 => ?_) (fun h8 => ?_)
      · refine zw_iconst z111_42 (v := iI 1) rfl ?_
        refine zw_goto z111_43 ?_
        exact k47 1 (Or.inr ⟨rfl, Or.inl h8⟩) _
      refine zw_aload_n z111_20 rfl ?_
      refine zw_getf z111_21 (by assumption) (by rfl) ?_
      refine zj_if_ne z111_24 (by omega) (fun h9 => ?_) (fun h9 => ?_)
      · refine zw_iconst z111_46 (v := iI 0) rfl ?_
        exact k47 0 (Or.inl ⟨rfl, fun h => by rcases h with h | h; exact h8 h; exact h9 h.1⟩) _
      refine zw_iload_n z111_27 rfl ?_
      refine zw_vs (n := 1) z111_28 rfl rfl (Nat.le_of_ble_eq_true rfl) (by omega) (sp_mBlack (by omega)) ?_
      refine zw_aload_n z111_31 rfl ?_
      refine zw_iload_n z111_32 rfl ?_
      refine zw_vv (n := 2) z111_33 rfl rfl (by assumption) (Nat.le_of_ble_eq_true rfl) (by omega) (sp_mSuit hm hG hc) ?_
      refine zw_vs (n := 1) z111_36 rfl rfl (Nat.le_of_ble_eq_true rfl) (by omega) (sp_mBlack (by omega)) ?_
      refine zj_bb_eq z111_39 (fun g => ?_) (fun g => ?_)
      · refine zw_iconst z111_46 (v := iI 0) rfl ?_
        exact k47 0 (Or.inl ⟨rfl, fun h => by rcases h with h | h; exact h8 h; exact h.2 g⟩) _
      · refine zw_iconst z111_42 (v := iI 1) rfl ?_
        refine zw_goto z111_43 ?_
        exact k47 1 (Or.inr ⟨rfl, Or.inr ⟨by omega, g⟩⟩) _
  refine ⟨_, rfl, ?_⟩
  show zw _ _ _ _ 111 0 [some (.ref 817), some (iV c), none, none, none] [] _ _ _ _
  refine zw_iconst z111_0 (v := iI 1) rfl ?_
  refine zw_istore_n z111_1 rfl ?_
  refine zw_iconst z111_2 (v := iI 0) rfl ?_
  refine zw_istore_n z111_3 rfl ?_
  exact lp (G 4).toNat 0 1 none (by omega) (by omega) (by omega) rfl
abbrev mSpP (k : Int) : Int := if k < 4 then 8 + k else k - 4
abbrev mSpC (G : Nat → Int) (A : Nat → Nat → Int) (p : Int) : Prop := (gCel G p ∨ gCol G p) ∧ mOne G A p 12 ∧ mSafe G A (mTp G A p)
def mSp (G : Nat → Int) (A : Nat → Nat → Int) : Nat → Int → Int
  | 0, _ => -1
  | j + 1, k => if mSpC G A (mSpP k) then mSpP k else mSp G A j (k + 1)
theorem sp_mSafePlace (hm : moA w G N A) (hG : gmV G) (hV : mtV A) (hd : 4 ≤ d) (hq : 88 ≤ q) : zv d q 112 [.ref 817] w (iI (mSp G A 12 0)) := by
  intro L xs cn sn
  obtain ⟨d, rfl⟩ : ∃ e, d = e + 1 := ⟨d - 1, by omega⟩
  have hm9 := hm
  obtain ⟨m0, a0, a1, a2, a3, a4, a5, a6, a7, a8, a9, a10, a11, a12⟩ := hm9
  have hG' := hG
  unfold gmV at hG'
  have lp : ∀ (j : Nat) (k : Int) (x2 : Option Value), k + j = 12 → 0 ≤ k → mSp G A j k = mSp G A 12 0 → zw L xs (d + 1) q 112 2 [some (.ref 817), some (iV k), x2] [] w cn sn (fun o w' cn' sn' => ∃ v, o = .inl v ∧ (v = some (.int (iI (mSp G A 12 0))) ∧ w' = w ∧ cn' = cn ∧ sn' = sn)) := by
    intro j
    induction j with
    | zero =>
      intro k x2 h1 h2 h4
      refine zw_iload_n z112_2 rfl ?_
      refine zw_bipush z112_3 (v := iI (12)) (by decide +kernel) ?_
      refine zj_icmp_ge z112_5 (by omega) (by omega) (fun h7 => ?_) (fun h7 => ?_)
      · refine zw_iconst z112_70 (v := iI (-1)) rfl ?_
        refine zw_iret z112_71 rfl ?_
        exact zv_end (congrArg iI h4)
      · exfalso; omega
    | succ j ih =>
      intro k x2 h1 h2 h4
      have h4 : (if mSpC G A (mSpP k) then mSpP k else mSp G A j (k + 1)) = mSp G A 12 0 := h4
      have k23 : ∀ p, p = mSpP k → ∀ x2, zw L xs (d + 1) q 112 23 [some (.ref 817), some (iV k), x2] [iV p] w cn sn (fun o w' cn' sn' => ∃ v, o = .inl v ∧ (v = some (.int (iI (mSp G A 12 0))) ∧ w' = w ∧ cn' = cn ∧ sn' = sn)) := by
        intro p hp x2
        have hp1 : 0 ≤ p ∧ p < 12 := by rw [hp]; unfold mSpP; split <;> omega
        rw [← hp] at h4
        have kf : ¬ mSpC G A p → zw L xs (d + 1) q 112 64 [some (.ref 817), some (iV k), some (iV p)] [] w cn sn (fun o w' cn' sn' => ∃ v, o = .inl v ∧ (v = some (.int (iI (mSp G A 12 0))) ∧ w' = w ∧ cn' = cn ∧ sn' = sn)) := by
          intro hn
          rw [if_neg hn] at h4
          refine zj_iinc z112_64 rfl rfl ?_
          refine zw_goto z112_67 ?_
          exact ih (k + 1) _ (by omega) (by omega) h4
        have k40 : (gCel G p ∨ gCol G p) → zw L xs (d + 1) q 112 40 [some (.ref 817), some (iV k), some (iV p)] [] w cn sn (fun o w' cn' sn' => ∃ v, o = .inl v ∧ (v = some (.int (iI (mSp G A 12 0))) ∧ w' = w ∧ cn' = cn ∧ sn' = sn)) := by
          intro hpl
          refine zw_aload_n z112_40 rfl ?_
          refine zw_iload_n z112_41 rfl ?_
          refine zw_bipush z112_42 (v := iI (12)) (by decide +kernel) ?_
          refine zw_vv (n := 4) z112_44 rfl rfl (by assumption) (Nat.le_of_ble_eq_true rfl) (by omega) (sp_mMayOne hm hG hV (by omega) (Or.inr (Or.inr rfl)) (by omega) (by omega)) ?_
          refine zj_b_eq z112_47 (fun g1 => ?_) (fun g1 => ?_)
          · exact kf (fun h => g1 h.2.1)
          have ht := mTp_rng (G := G) (z := p) hV
          have ht0 := g1.1
          refine zw_aload_n z112_50 rfl ?_
          refine zw_aload_n z112_51 rfl ?_
          refine zw_iload_n z112_52 rfl ?_
          refine zw_vv (n := 2) z112_53 rfl rfl (by assumption) (Nat.le_of_ble_eq_true rfl) (by omega) (sp_mTopOf hm hG hV (by omega) (by omega) (by omega)) ?_
          refine zw_vv (n := 5) z112_56 rfl rfl (by assumption) (Nat.le_of_ble_eq_true rfl) (by omega) (sp_mIsSafe hm hG hV (by omega) (by omega) (by omega)) ?_
          refine zj_b_eq z112_59 (fun g2 => ?_) (fun g2 => ?_)
          · exact kf (fun h => g2 h.2.2)
          rw [if_pos ⟨hpl, g1, g2⟩] at h4
          refine zw_iload_n z112_62 rfl ?_
          refine zw_iret z112_63 rfl ?_
          exact zv_end (congrArg iI h4)
        refine zw_istore_n z112_23 rfl ?_
        refine zw_aload_n z112_24 rfl ?_
        refine zw_iload_n z112_25 rfl ?_
        refine zw_vv (n := 2) z112_26 rfl rfl (by assumption) (Nat.le_of_ble_eq_true rfl) (by omega) (sp_mIsCell hm hG (by omega) (by omega) (by omega)) ?_
        refine zj_b_ne z112_29 (fun g1 => ?_) (fun g1 => ?_)
        · exact k40 (Or.inl g1)
        refine zw_aload_n z112_32 rfl ?_
        refine zw_iload_n z112_33 rfl ?_
        refine zw_vv (n := 2) z112_34 rfl rfl (by assumption) (Nat.le_of_ble_eq_true rfl) (by omega) (sp_mIsColumn hm hG (by omega) (by omega) (by omega)) ?_
        refine zj_b_eq z112_37 (fun g2 => ?_) (fun g2 => ?_)
        · exact kf (fun h => by rcases h.1 with h | h; exact g1 h; exact g2 h)
        · exact k40 (Or.inr g2)
      refine zw_iload_n z112_2 rfl ?_
      refine zw_bipush z112_3 (v := iI (12)) (by decide +kernel) ?_
      refine zj_icmp_ge z112_5 (by omega) (by omega) (fun h7 => ?_) (fun h7 => ?_)
      · exfalso; omega
      refine zw_iload_n z112_8 rfl ?_
      refine zw_iconst z112_9 (v := iI 4) rfl ?_
      refine zj_icmp_ge z112_10 (by omega) (by omega) (fun h8 => ?_) (fun h8 => ?_)
      · refine zw_iload_n z112_20 rfl ?_
        refine zw_iconst z112_21 (v := iI 4) rfl ?_
        refine zj_sub z112_22 ?_
        exact k23 (k - 4) (by unfold mSpP; rw [if_neg (by omega)]) _
      · refine zw_bipush z112_13 (v := iI (8)) (by decide +kernel) ?_
        refine zw_iload_n z112_15 rfl ?_
        refine zj_add z112_16 ?_
        refine zw_goto z112_17 ?_
        exact k23 (8 + k) (by unfold mSpP; rw [if_pos (by omega)]) _
  refine ⟨_, rfl, ?_⟩
  show zw _ _ _ _ 112 0 [some (.ref 817), none, none] [] _ _ _ _
  refine zw_iconst z112_0 (v := iI 0) rfl ?_
  refine zw_istore_n z112_1 rfl ?_
  exact lp 12 0 none (by omega) (by omega) rfl
end ZMP
