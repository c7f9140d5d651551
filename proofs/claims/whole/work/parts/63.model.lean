/-! The reference: its moves and its log. (Laid out by gen/tpl.py from tpl/63.model.tpl.) -/
section ZMV2
variable {L : Nat} {xs : Nat → Int32} {d q : Nat} {w w' : zi_W} {cn sn : Nat} {Q : zi_O → zi_W → Nat → Nat → Prop} {G N : Nat → Int} {A : Nat → Nat → Int} {z y m c o a b e k : Int}
theorem mPu_V (hV : mtV A) (hc : 0 ≤ c ∧ c < 52) (hh : A 1 z.toNat ≤ 51) : mtV (mPu A z c) := by
  obtain ⟨v0, v1, v2, v3, v4, v5⟩ := hV
  have := v1 z.toNat
  exact ⟨iU_rng v0 (by omega), iU_rng v1 (by omega), v2, v3, v4, v5⟩
theorem mTk_V (hV : mtV A) (h1 : z = 12 → 1 ≤ A 3 (gSuit G c).toNat) (h2 : gCol G z → 1 ≤ A 1 z.toNat) (hz : gPla G z) : mtV (mTk G A z c) := by
  obtain ⟨v0, v1, v2, v3, v4, v5⟩ := hV
  unfold mTk
  split
  · have := v3 (gSuit G c).toNat
    exact ⟨v0, v1, v2, iU_rng v3 (by omega), v4, v5⟩
  · split
    · exact ⟨v0, v1, iU_rng v2 (by omega), v3, v4, v5⟩
    · have := v1 z.toNat
      have := h2 (by omega)
      exact ⟨v0, iU_rng v1 (by omega), v2, v3, v4, v5⟩
theorem mGv_V (hV : mtV A) (hc : 0 ≤ c ∧ c < 52) (h1 : y = 12 → A 3 (gSuit G c).toNat ≤ 12) (h2 : gCol G y → A 1 y.toNat ≤ 51) (hy : gPla G y) : mtV (mGv G A y c) := by
  unfold mGv
  split
  · obtain ⟨v0, v1, v2, v3, v4, v5⟩ := hV
    have := v3 (gSuit G c).toNat
    exact ⟨v0, v1, v2, iU_rng v3 (by omega), v4, v5⟩
  · split
    · obtain ⟨v0, v1, v2, v3, v4, v5⟩ := hV
      exact ⟨v0, v1, iU_rng v2 (by omega), v3, v4, v5⟩
    · exact mPu_V hV hc (h2 (by omega))
/-- the k uppermost cards of column z are put on column y, the lowest of them first -/
def mBl (z y : Int) : Nat → (Nat → Nat → Int) → Nat → Nat → Int
  | 0, A => A
  | k + 1, A => mBl z y k (mPu A y (mFT A z k))
abbrev mBs (A : Nat → Nat → Int) (z m : Int) : Nat → Nat → Int := fU A 1 (iU (A 1) z.toNat (A 1 z.toNat - m))
def mBr (G : Nat → Int) (A : Nat → Nat → Int) (z y m c : Int) : Nat → Nat → Int := if m = 1 then mGv G (mTk G A z c) y c else mBs (mBl z y m.toNat A) z m
/-- what must hold so that m cards can be brought from z to y -/
def okR (G : Nat → Int) (A : Nat → Nat → Int) (z y m c : Int) : Prop := gPla G z ∧ gPla G y ∧ (m = 1 → 0 ≤ c ∧ c < 52 ∧ (gCol G y → 0 ≤ mTk G A z c 1 y.toNat ∧ mTk G A z c 1 y.toNat ≤ 51)) ∧ (m ≠ 1 → 2 ≤ m ∧ gCol G z ∧ gCol G y ∧ z ≠ y ∧ m ≤ A 1 z.toNat ∧ A 1 y.toNat + m ≤ 52)
theorem lp_mBring (hG : gmV G) (hz : gCol G z) (hy : gCol G y) (hzy : z ≠ y) (hd : 1 ≤ d) (hq : 22 ≤ q) {R : Nat → Nat → Int} (kk : ∀ w' x5, moA w' G N R → zF moS w w' → zw L xs d q 105 46 [some (.ref 817), some (iV z), some (iV y), some (iV m), some (iV c), x5] [] w' cn sn Q) : ∀ (k : Nat) (A : Nat → Nat → Int) (w' : zi_W), moA w' G N A → mtV A → (k : Int) ≤ A 1 z.toNat → A 1 y.toNat + k ≤ 52 → zF moS w w' → R = mBl z y k A → zw L xs d q 105 23 [some (.ref 817), some (iV z), some (iV y), some (iV m), some (iV c), some (iV ((k : Int) - 1))] [] w' cn sn Q := by
  obtain ⟨d, rfl⟩ : ∃ e, d = e + 1 := ⟨d - 1, by omega⟩
  have hG' := hG
  unfold gmV at hG'
  intro k
  induction k with
  | zero =>
    intro A w' hm hV h1 h2 hF he
    refine zw_iload z105_23 rfl ?_
    refine zj_if_lt z105_25 (by omega) (fun h3 => ?_) (fun h3 => ?_)
    · have he : R = A := he
      subst he
      exact kk w' _ hm hF
    · exfalso; omega
  | succ k ih =>
    intro A w' hm hV h1 h2 hF he
    have m0 := hm.1
    have hf := mFT_in (z := z) (k := k) hV (by omega)
    have hv := hV.2.1 y.toNat
    refine zw_iload z105_23 rfl ?_
    refine zj_if_lt z105_25 (by omega) (fun h3 => ?_) (fun h3 => ?_)
    · exfalso; omega
    rw [show ((k + 1 : Nat) : Int) - 1 = (k : Int) by omega]
    refine zw_aload_n z105_28 rfl ?_
    refine zw_iload_n z105_29 rfl ?_
    refine zw_aload_n z105_30 rfl ?_
    refine zw_iload_n z105_31 rfl ?_
    refine zw_iload z105_32 rfl ?_
    refine zw_vv (n := 3) z105_34 rfl rfl (by assumption) (Nat.le_of_ble_eq_true rfl) (by omega) (sp_mFromTop hm hV (by omega) (by omega)) ?_
    refine zw_cv (n := 3) z105_37 rfl rfl m0 (Nat.le_of_ble_eq_true rfl) (by omega) (sp_mPush hm (by omega) (by omega)) (fun v w1 cn1 sn1 h => ?_)
    obtain ⟨rfl, rfl, rfl, hm1, f1⟩ := h
    refine zj_iinc z105_40 rfl rfl ?_
    refine zw_goto z105_43 ?_
    refine ih (mPu A y (mFT A z k)) w1 hm1 (mPu_V hV hf (by omega)) ?_ ?_ (hF.trans f1) he
    · show (k : Int) ≤ iU (A 1) y.toNat (A 1 y.toNat + 1) z.toNat
      rw [iU_ne _ _ (by omega)]
      omega
    · show iU (A 1) y.toNat (A 1 y.toNat + 1) y.toNat + (k : Int) ≤ 52
      rw [iU_same]
      omega
theorem sp_mBring (hm : moA w G N A) (hG : gmV G) (hV : mtV A) (hm1 : 1 ≤ m ∧ m ≤ 52) (hB : okR G A z y m c) (hd : 3 ≤ d) (hq : 65 ≤ q) : zr L xs d q 105 [.ref 817, iV z, iV y, iV m, iV c] w cn sn (mR w cn sn none G N (mBr G A z y m c)) := by
  obtain ⟨d, rfl⟩ : ∃ e, d = e + 1 := ⟨d - 1, by omega⟩
  have m0 := hm.1
  obtain ⟨o1, o2, o3, o4⟩ := hB
  have hG' := hG
  unfold gmV at hG'
  refine ⟨_, rfl, ?_⟩
  show zw _ _ _ _ 105 0 [some (.ref 817), some (iV z), some (iV y), some (iV m), some (iV c), none] [] _ _ _ _
  refine zw_iload_n z105_0 rfl ?_
  refine zw_iconst z105_1 (v := iI 1) rfl ?_
  refine zj_icmp_ne z105_2 (by omega) (by omega) (fun h1 => ?_) (fun h1 => ?_)
  rotate_left
  · rw [show mBr G A z y m c = _ from if_pos (by omega)]
    obtain ⟨p1, p2, p3⟩ := o3 (by omega)
    refine zw_aload_n z105_5 rfl ?_
    refine zw_iload_n z105_6 rfl ?_
    refine zw_aload_n z105_7 rfl ?_
    refine zw_iload_n z105_8 rfl ?_
    refine zw_iload z105_9 rfl ?_
    refine zw_cv (n := 3) z105_11 rfl rfl m0 (Nat.le_of_ble_eq_true rfl) (by omega) (sp_mTake hm hG o1 ⟨p1, p2⟩ (by omega) (by omega)) (fun v w1 cn1 sn1 h => ?_)
    obtain ⟨rfl, rfl, rfl, hmA, f1⟩ := h
    have m0 := hmA.1
    refine zw_cv (n := 3) z105_14 rfl rfl m0 (Nat.le_of_ble_eq_true rfl) (by omega) (sp_mGive hmA hG o2 ⟨p1, p2⟩ p3 (by omega) (by omega)) (fun v w2 cn2 sn2 h => ?_)
    obtain ⟨rfl, rfl, rfl, hmB, f2⟩ := h
    exact zw_vret z105_17 rfl ⟨_, rfl, rfl, rfl, rfl, hmB, f1.trans f2⟩
  rw [show mBr G A z y m c = _ from if_neg h1]
  obtain ⟨p1, p2, p3, p4, p5, p6⟩ := o4 h1
  refine zw_iload_n z105_18 rfl ?_
  refine zw_iconst z105_19 (v := iI 1) rfl ?_
  refine zj_sub z105_20 ?_
  refine zw_istore z105_21 rfl ?_
  have e1 : m - 1 = ((m.toNat : Nat) : Int) - 1 := by omega
  rw [e1]
  refine lp_mBring (w := w) (R := mBl z y m.toNat A) hG p2 p3 p4 (by omega) (by omega) (fun w1 x5 hmA f1 => ?_) m.toNat A w hm hV (by omega) (by omega) zF.rf rfl
  have m0 := hmA.1
  have b1 := hmA.2.2.1
  refine zw_aload_n z105_46 rfl ?_
  refine zw_getf z105_47 (by assumption) (by rfl) ?_
  refine zw_iload_n z105_50 rfl ?_
  refine zw_aload_n z105_51 rfl ?_
  refine zw_getf z105_52 (by assumption) (by rfl) ?_
  refine zw_iload_n z105_55 rfl ?_
  refine zj_ald z105_56 b1 (by omega) (by decide) ?_
  refine zw_iload_n z105_57 rfl ?_
  refine zj_sub z105_58 ?_
  refine zj_astG z105_59 b1 (by omega) (by decide) (fun w2 n2 f2 => ?_)
  exact zw_vret z105_60 rfl ⟨_, rfl, rfl, rfl, rfl, mo_a1 hmA n2 f2, f1.step f2 (by omega)⟩
theorem mTk_6 {f : Nat → Int} : mTk G (fU A 6 f) z c 1 = mTk G A z c 1 := by
  unfold mTk
  split
  · rfl
  · split <;> rfl
theorem okR_6 {f : Nat → Int} (h : okR G A z y m c) : okR G (fU A 6 f) z y m c := by
  obtain ⟨o1, o2, o3, o4⟩ := h
  exact ⟨o1, o2, fun h => by rw [mTk_6]; exact o3 h, o4⟩
/-- the log's rows move down by one -/
def mSh (f : Nat → Int) (n : Nat) : Nat → Int := fun j => if j < n then f (j + 4) else f j
theorem mSh_s (f : Nat → Int) (n : Nat) : iU (mSh f n) n (f (n + 4)) = mSh f (n + 1) := by
  funext j
  unfold iU mSh
  by_cases h : j = n
  · subst h; rw [if_pos rfl, if_pos (by omega)]
  · rw [if_neg h]
    by_cases h2 : j < n
    · rw [if_pos h2, if_pos (by omega)]
    · rw [if_neg h2, if_neg (by omega)]
theorem lp_mShift (kk : ∀ w', moA w' G N (fU A 6 (mSh (A 6) 236)) → zF moS w w' → zw L xs d q 106 42 [some (.ref 817), some (iV z), some (iV y), some (iV m), some (iV 236)] [] w' cn sn Q) : ∀ (j n : Nat) (w' : zi_W), n + j = 236 → moA w' G N (fU A 6 (mSh (A 6) n)) → zF moS w w' → zw L xs d q 106 12 [some (.ref 817), some (iV z), some (iV y), some (iV m), some (iV n)] [] w' cn sn Q := by
  intro j
  induction j with
  | zero =>
    intro n w' h1 hm hF
    obtain rfl : n = 236 := by omega
    refine zw_iload z106_12 rfl ?_
    refine zw_sipush z106_14 (v := iI (236)) (by decide +kernel) ?_
    refine zj_icmp_ge z106_17 (by omega) (by omega) (fun h5 => ?_) (fun h5 => ?_)
    · exact kk w' hm hF
    · exfalso; omega
  | succ j ih =>
    intro n w' h1 hm hF
    have hm9 := hm
    obtain ⟨m0, a0, a1, a2, a3, a4, a5, a6, a7, a8, a9, a10, a11, a12⟩ := hm9
    refine zw_iload z106_12 rfl ?_
    refine zw_sipush z106_14 (v := iI (236)) (by decide +kernel) ?_
    refine zj_icmp_ge z106_17 (by omega) (by omega) (fun h5 => ?_) (fun h5 => ?_)
    · exfalso; omega
    refine zw_aload_n z106_20 rfl ?_
    refine zw_getf z106_21 (by assumption) (by rfl) ?_
    refine zw_iload z106_24 rfl ?_
    refine zw_aload_n z106_26 rfl ?_
    refine zw_getf z106_27 (by assumption) (by rfl) ?_
    refine zw_iload z106_30 rfl ?_
    refine zw_iconst z106_32 (v := iI 4) rfl ?_
    refine zj_add z106_33 ?_
    refine zj_ald z106_34 a6 (by omega) (by decide) ?_
    refine zj_astG z106_35 a6 (by omega) (by decide) (fun w1 n1 f1 => ?_)
    refine zj_iinc z106_36 rfl rfl ?_
    refine zw_goto z106_39 ?_
    have hm1 := mo_a6 hm n1 f1
    rw [fU_fU, show (n : Int).toNat = n by omega, show fU A 6 (mSh (A 6) n) 6 = mSh (A 6) n from rfl, show mSh (A 6) n ((n : Int) + 4).toNat = A 6 (n + 4) from (if_neg (by omega)).trans (congrArg (A 6) (by omega)), mSh_s] at hm1
    have := ih (n + 1) w1 (by omega) hm1 (hF.step f1 (by omega))
    rwa [show ((n + 1 : Nat) : Int) = (n : Int) + 1 by omega] at this
abbrev mLg (N : Nat → Int) : Int := if N 1 = 60 then 59 else N 1
abbrev mLr (N : Nat → Int) (A : Nat → Nat → Int) : Nat → Int := if N 1 = 60 then mSh (A 6) 236 else A 6
/-- a row in the log -/
def mLa (f : Nat → Int) (g z y m c : Int) : Nat → Int := iU (iU (iU (iU f (4 * g).toNat z) (4 * g + 1).toNat y) (4 * g + 2).toNat m) (4 * g + 3).toNat c
abbrev mMkN (N : Nat → Int) : Nat → Int := iU (iU N 1 (mLg N + 1)) 2 (-1)
abbrev mMkA (G N : Nat → Int) (A : Nat → Nat → Int) (z y m : Int) : Nat → Nat → Int := mBr G (fU A 6 (mLa (mLr N A) (mLg N) z y m (mTp G A z))) z y m (mTp G A z)
theorem sp_mMake (hm : moA w G N A) (hG : gmV G) (hV : mtV A) (hl : 0 ≤ N 1 ∧ N 1 ≤ 60) (hz : gCol G z ∨ gCel G z) (hm1 : 1 ≤ m ∧ m ≤ 52) (hB : okR G A z y m (mTp G A z)) (hd : 4 ≤ d) (hq : 90 ≤ q) : zr L xs d q 106 [.ref 817, iV z, iV y, iV m] w cn sn (mR w cn sn none G (mMkN N) (mMkA G N A z y m)) := by
  obtain ⟨d, rfl⟩ : ∃ e, d = e + 1 := ⟨d - 1, by omega⟩
  have m0 := hm.1
  have hG' := hG
  unfold gmV at hG'
  have ht := mTp_rng (G := G) (z := z) hV
  have k52 : ∀ (w1 : zi_W) (N1 lr : Nat → Int) (x4 : Option Value), moA w1 G N1 (fU A 6 lr) → zF moS w w1 → N1 1 = mLg N → lr = mLr N A → iU (iU N1 1 (mLg N + 1)) 2 (-1) = mMkN N → zw L xs (d + 1) q 106 52 [some (.ref 817), some (iV z), some (iV y), some (iV m), x4] [] w1 cn sn (fun o w' cn' sn' => ∃ v, o = .inl v ∧ mR w cn sn none G (mMkN N) (mMkA G N A z y m) v w' cn' sn') := by
    intro w1 N1 lr x4 hmA F1 e1 e2 e3
    have hg : 0 ≤ mLg N ∧ mLg N ≤ 59 := by unfold mLg; split <;> omega
    unfold mMkA
    rw [← e3, ← e2]
    generalize mLg N = g at *
    have hVA : mtV (fU A 6 lr) := hV
    have m0 := hmA.1
    refine zw_aload_n z106_52 rfl ?_
    refine zw_iload_n z106_53 rfl ?_
    refine zw_vv (n := 2) z106_54 rfl rfl (by assumption) (Nat.le_of_ble_eq_true rfl) (by omega) (sp_mTopOf hmA hG hVA (by omega) (by omega) (by omega)) ?_
    rw [show mTp G (fU A 6 lr) z = mTp G A z from rfl]
    generalize htp : mTp G A z = t at *
    have b6 : zi_get w1 824 = some (.inl (0, 240, .inl (iA lr))) := hmA.2.2.2.2.2.2.2.1
    refine zw_istore z106_57 rfl ?_
    refine zw_aload_n z106_59 rfl ?_
    refine zw_getf z106_60 (by assumption) (by rfl) ?_
    refine zw_iconst z106_63 (v := iI 4) rfl ?_
    refine zw_aload_n z106_64 rfl ?_
    refine zw_getf z106_65 (by assumption) (by rfl) ?_
    refine zj_mul z106_68 ?_
    refine zw_iload_n z106_69 rfl ?_
    rw [e1]
    refine zj_astG z106_70 b6 (by omega) (by decide) (fun w2 n2 f2 => ?_)
    have m2 := (f2.2 817 (by omega)).trans m0
    refine zw_aload_n z106_71 rfl ?_
    refine zw_getf z106_72 (by assumption) (by rfl) ?_
    refine zw_iconst z106_75 (v := iI 4) rfl ?_
    refine zw_aload_n z106_76 rfl ?_
    refine zw_getf z106_77 (by assumption) (by rfl) ?_
    refine zj_mul z106_80 ?_
    refine zw_iconst z106_81 (v := iI 1) rfl ?_
    refine zj_add z106_82 ?_
    refine zw_iload_n z106_83 rfl ?_
    rw [e1]
    refine zj_astG z106_84 n2 (by omega) (by decide) (fun w3 n3 f3 => ?_)
    have m3 := (f3.2 817 (by omega)).trans m2
    refine zw_aload_n z106_85 rfl ?_
    refine zw_getf z106_86 (by assumption) (by rfl) ?_
    refine zw_iconst z106_89 (v := iI 4) rfl ?_
    refine zw_aload_n z106_90 rfl ?_
    refine zw_getf z106_91 (by assumption) (by rfl) ?_
    refine zj_mul z106_94 ?_
    refine zw_iconst z106_95 (v := iI 2) rfl ?_
    refine zj_add z106_96 ?_
    refine zw_iload_n z106_97 rfl ?_
    rw [e1]
    refine zj_astG z106_98 n3 (by omega) (by decide) (fun w4 n4 f4 => ?_)
    have m4 := (f4.2 817 (by omega)).trans m3
    refine zw_aload_n z106_99 rfl ?_
    refine zw_getf z106_100 (by assumption) (by rfl) ?_
    refine zw_iconst z106_103 (v := iI 4) rfl ?_
    refine zw_aload_n z106_104 rfl ?_
    refine zw_getf z106_105 (by assumption) (by rfl) ?_
    refine zj_mul z106_108 ?_
    refine zw_iconst z106_109 (v := iI 3) rfl ?_
    refine zj_add z106_110 ?_
    refine zw_iload z106_111 rfl ?_
    rw [e1]
    refine zj_astG z106_113 n4 (by omega) (by decide) (fun w5 n5 f5 => ?_)
    have g5 : zG 824 w1 w5 := ⟨f5.1.trans (f4.1.trans (f3.1.trans f2.1)), fun j hj => (f5.2 j hj).trans ((f4.2 j hj).trans ((f3.2 j hj).trans (f2.2 j hj)))⟩
    have hmB := mo_a6 hmA n5 g5
    rw [fU_fU] at hmB
    have m0 := hmB.1
    refine zw_aload_n z106_114 rfl ?_
    refine zw_dup z106_115 rfl ?_
    refine zw_getf z106_116 (by assumption) (by rfl) ?_
    refine zw_iconst z106_119 (v := iI 1) rfl ?_
    refine zj_add z106_120 ?_
    rw [e1]
    refine zj_putf z106_121 m0 (Nat.le_of_ble_eq_true rfl) (by rfl) (fun w6 n6 f6 => ?_)
    refine zw_aload_n z106_124 rfl ?_
    refine zw_iconst z106_125 (v := iI (-1)) rfl ?_
    refine zj_putf z106_126 n6 (Nat.le_of_ble_eq_true rfl) (by rfl) (fun w7 n7 f7 => ?_)
    have hmC := mo_put (N' := iU (iU N1 1 (g + 1)) 2 (-1)) (G' := G) hmB n7 ⟨f7.1.trans f6.1, fun j hj => (f7.2 j hj).trans (f6.2 j hj)⟩
    have m0 := hmC.1
    refine zw_aload_n z106_129 rfl ?_
    refine zw_iload_n z106_130 rfl ?_
    refine zw_iload_n z106_131 rfl ?_
    refine zw_iload_n z106_132 rfl ?_
    refine zw_iload z106_133 rfl ?_
    refine zw_cv (n := 6) z106_135 rfl rfl m0 (Nat.le_of_ble_eq_true rfl) (by omega) (sp_mBring hmC hG hV hm1 (okR_6 hB) (by omega) (by omega)) (fun v w8 cn8 sn8 h => ?_)
    obtain ⟨rfl, rfl, rfl, hmD, f8⟩ := h
    exact zw_vret z106_138 rfl ⟨_, rfl, rfl, rfl, rfl, hmD, (((F1.trans ⟨g5.1, fun j hj => g5.2 j (by omega)⟩).step f6 (by omega)).step f7 (by omega)).trans f8⟩
  refine ⟨_, rfl, ?_⟩
  show zw _ _ _ _ 106 0 [some (.ref 817), some (iV z), some (iV y), some (iV m), none] [] _ _ _ _
  refine zw_aload_n z106_0 rfl ?_
  refine zw_getf z106_1 (by assumption) (by rfl) ?_
  refine zw_bipush z106_4 (v := iI (60)) (by decide +kernel) ?_
  refine zj_icmp_ne z106_6 (by omega) (by omega) (fun h1 => ?_) (fun h1 => ?_)
  · exact k52 w N (A 6) none (by rw [fU_id]; exact hm) zF.rf (if_neg h1).symm (if_neg h1).symm rfl
  · refine zw_iconst z106_9 (v := iI 0) rfl ?_
    refine zw_istore z106_10 rfl ?_
    refine lp_mShift (w := w) (fun w1 hmA F1 => ?_) 236 0 w rfl (by rw [show mSh (A 6) 0 = A 6 from funext fun j => if_neg (by omega), fU_id]; exact hm) zF.rf
    have m0 := hmA.1
    refine zw_aload_n z106_42 rfl ?_
    refine zw_dup z106_43 rfl ?_
    refine zw_getf z106_44 (by assumption) (by rfl) ?_
    refine zw_iconst z106_47 (v := iI 1) rfl ?_
    refine zj_sub z106_48 ?_
    refine zj_putf z106_49 m0 (Nat.le_of_ble_eq_true rfl) (by rfl) (fun w2 n2 f2 => ?_)
    have hmB := mo_put (N' := iU N 1 (N 1 - 1)) (G' := G) hmA n2 f2
    have e6 : N 1 = 60 := by omega
    refine k52 w2 (iU N 1 (N 1 - 1)) (mSh (A 6) 236) _ hmB (F1.step f2 (by omega)) ?_ (if_pos e6).symm ?_
    · show N 1 - 1 = mLg N
      unfold mLg
      rw [if_pos e6]
      omega
    · funext j
      unfold mMkN iU
      split
      · rfl
      · split <;> rfl
end ZMV2
