/-! The reference's search: begin. (Laid out by gen/tpl.py from tpl/74.msearch.tpl.) -/
section ZNA
variable {L : Nat} {xs : Nat → Int32} {d q : Nat} {w w' : zi_W} {cn sn : Nat} {Q : zi_O → zi_W → Nat → Nat → Prop} {G N f : Nat → Int} {A : Nat → Nat → Int} {z y m c o a b e k p u n l : Int} {r ct : Nat}
abbrev bgH (G : Nat → Int) : Nat → Int := fun j => if (j : Int) < gAll G then 1 else 0
def bgK (A : Nat → Nat → Int) (p : Int) : Nat → Int → (Nat → Int) → Nat → Int
  | 0, _, f => f
  | j + 1, k, f => bgK A p j (k + 1) (iU f (A 0 (52 * p + k).toNat).toNat (if k = 0 then 3 else 10 + A 0 (52 * p + k - 1).toNat))
def bgP (A : Nat → Nat → Int) : Nat → Int → (Nat → Int) → Nat → Int
  | 0, _, f => f
  | j + 1, p, f => bgP A j (p + 1) (bgK A p (A 1 p.toNat).toNat 0 f)
def bgE (A : Nat → Nat → Int) : Nat → Int → (Nat → Int) → Nat → Int
  | 0, _, f => f
  | j + 1, k, f => bgE A j (k + 1) (if A 2 k.toNat < 0 then f else iU f (A 2 k.toNat).toNat 2)
abbrev bgF (G : Nat → Int) (A : Nat → Nat → Int) : Nat → Int := bgE A (G 1).toNat 0 (bgP A (G 0).toNat 0 (iCp (bgH G) (A 7) 52))
theorem bgK_rng (hV : mtV A) : ∀ (j : Nat) (k : Int) (f : Nat → Int), (∀ i, 0 ≤ f i ∧ f i ≤ 61) → ∀ i, 0 ≤ bgK A p j k f i ∧ bgK A p j k f i ≤ 61 := by
  intro j
  induction j with
  | zero => intro k f h; exact h
  | succ j ih =>
    intro k f h
    refine ih _ _ (iU_rng h ?_)
    have := hV.1 (52 * p + k - 1).toNat
    split <;> omega
theorem bgP_rng (hV : mtV A) : ∀ (j : Nat) (p : Int) (f : Nat → Int), (∀ i, 0 ≤ f i ∧ f i ≤ 61) → ∀ i, 0 ≤ bgP A j p f i ∧ bgP A j p f i ≤ 61 := by
  intro j
  induction j with
  | zero => intro k f h; exact h
  | succ j ih => intro k f h; exact ih _ _ (bgK_rng hV _ _ _ h)
theorem bgE_rng : ∀ (j : Nat) (k : Int) (f : Nat → Int), (∀ i, 0 ≤ f i ∧ f i ≤ 61) → ∀ i, 0 ≤ bgE A j k f i ∧ bgE A j k f i ≤ 61 := by
  intro j
  induction j with
  | zero => intro k f h; exact h
  | succ j ih =>
    intro k f h
    refine ih _ _ ?_
    split
    · exact h
    · exact iU_rng h (by omega)
theorem bgF_rng (hV : mtV A) (h7 : ∀ i, 0 ≤ A 7 i ∧ A 7 i ≤ 61) : ∀ i, 0 ≤ bgF G A i ∧ bgF G A i ≤ 61 := by
  refine bgE_rng _ _ _ (bgP_rng hV _ _ _ (iCp_rng (fun i => ?_) h7))
  show 0 ≤ (if (i : Int) < gAll G then (1 : Int) else 0) ∧ (if (i : Int) < gAll G then (1 : Int) else 0) ≤ 61
  split <;> omega
theorem lp_bg1 (hG : gmV G) (hd : 1 ≤ d) (hq : 20 ≤ q) (kk : ∀ w', moA w' G N (fU A 7 (iCp (bgH G) (A 7) 52)) → zF moS w w' → zw L xs d q 119 33 [some (.ref 817), some (iV 52), none] [] w' cn sn Q) : ∀ (j n : Nat) (w' : zi_W), n + j = 52 → moA w' G N (fU A 7 (iCp (bgH G) (A 7) n)) → zF moS w w' → zw L xs d q 119 2 [some (.ref 817), some (iV n), none] [] w' cn sn Q := by
  obtain ⟨d, rfl⟩ : ∃ e, d = e + 1 := ⟨d - 1, by omega⟩
  have hA := gAll_rng hG
  intro j
  induction j with
  | zero =>
    intro n w' h1 hm hF
    obtain rfl : n = 52 := by omega
    refine zw_iload_n z119_2 rfl ?_
    refine zw_bipush z119_3 (v := iI (52)) (by decide +kernel) ?_
    refine zj_icmp_ge z119_5 (by omega) (by omega) (fun h5 => ?_) (fun h5 => ?_)
    · exact kk w' hm hF
    · exfalso; omega
  | succ j ih =>
    intro n w' h1 hm hF
    have m0 := hm.1
    have a7 : zi_get w' 825 = some (.inl (0, 10504, .inl (iA (iCp (bgH G) (A 7) n)))) := hm.2.2.2.2.2.2.2.2.1
    have hc : iU (iCp (bgH G) (A 7) n) n (bgH G n) = iCp (bgH G) (A 7) (n + 1) := by
      funext j
      unfold iU iCp
      by_cases hj : j = n
      · subst hj
        rw [if_pos rfl, if_pos (by omega)]
      · rw [if_neg hj]
        by_cases hj2 : j < n
        · rw [if_pos hj2, if_pos (by omega)]
        · rw [if_neg hj2, if_neg (by omega)]
    have k26 : ∀ x, x = bgH G n → zw L xs (d + 1) q 119 26 [some (.ref 817), some (iV n), none] [iV x, iV n, .ref 825] w' cn sn Q := by
      intro x hx
      refine zj_astG z119_26 a7 (by omega) (by decide) (fun w1 n1 f1 => ?_)
      have hm1 := mo_a7 hm n1 f1
      rw [fU_fU, show (n : Int).toNat = n by omega, hx, hc] at hm1
      refine zj_iinc z119_27 rfl rfl ?_
      refine zw_goto z119_30 ?_
      have := ih (n + 1) w1 (by omega) hm1 (hF.step f1 (by omega))
      rwa [show ((n + 1 : Nat) : Int) = (n : Int) + 1 by omega] at this
    refine zw_iload_n z119_2 rfl ?_
    refine zw_bipush z119_3 (v := iI (52)) (by decide +kernel) ?_
    refine zj_icmp_ge z119_5 (by omega) (by omega) (fun h5 => ?_) (fun h5 => ?_)
    · exfalso; omega
    refine zw_aload_n z119_8 rfl ?_
    refine zw_getf z119_9 (by assumption) (by rfl) ?_
    refine zw_iload_n z119_12 rfl ?_
    refine zw_iload_n z119_13 rfl ?_
    refine zw_aload_n z119_14 rfl ?_
    refine zw_vv (n := 1) z119_15 rfl rfl (by assumption) (Nat.le_of_ble_eq_true rfl) (by omega) (sp_mAll hm) ?_
    refine zj_icmp_ge z119_18 (by omega) (by omega) (fun h6 => ?_) (fun h6 => ?_)
    · refine zw_iconst z119_25 (v := iI 0) rfl ?_
      exact k26 0 (if_neg (by omega)).symm
    · refine zw_iconst z119_21 (v := iI 1) rfl ?_
      refine zw_goto z119_22 ?_
      exact k26 1 (if_pos (by omega)).symm
theorem lp_bg2 (hV : mtV A) (hp : 0 ≤ p ∧ p < 8) {R : Nat → Int} (kk : ∀ w' x2, moA w' G N (fU A 7 R) → zF moS w w' → zw L xs d q 119 101 [some (.ref 817), some (iV p), x2] [] w' cn sn Q) : ∀ (j : Nat) (k : Int) (f : Nat → Int) (w' : zi_W), k + j = A 1 p.toNat → 0 ≤ k → moA w' G N (fU A 7 f) → zF moS w w' → R = bgK A p j k f → zw L xs d q 119 45 [some (.ref 817), some (iV p), some (iV k)] [] w' cn sn Q := by
  have hh := hV.2.1 p.toNat
  intro j
  induction j with
  | zero =>
    intro k f w' h1 h2 hm hF he
    have m0 := hm.1
    have a1 : zi_get w' 819 = some (.inl (0, 8, .inl (iA (A 1)))) := hm.2.2.1
    refine zw_iload_n z119_45 rfl ?_
    refine zw_aload_n z119_46 rfl ?_
    refine zw_getf z119_47 (by assumption) (by rfl) ?_
    refine zw_iload_n z119_50 rfl ?_
    refine zj_ald z119_51 a1 (by omega) (by decide) ?_
    refine zj_icmp_ge z119_52 (by omega) (by omega) (fun h5 => ?_) (fun h5 => ?_)
    · have he : R = f := he
      subst he
      exact kk w' _ hm hF
    · exfalso; omega
  | succ j ih =>
    intro k f w' h1 h2 hm hF he
    have m0 := hm.1
    have a0 : zi_get w' 818 = some (.inl (0, 416, .inl (iA (A 0)))) := hm.2.1
    have a1 : zi_get w' 819 = some (.inl (0, 8, .inl (iA (A 1)))) := hm.2.2.1
    have a7 : zi_get w' 825 = some (.inl (0, 10504, .inl (iA f))) := hm.2.2.2.2.2.2.2.2.1
    have he : R = bgK A p j (k + 1) (iU f (A 0 (52 * p + k).toNat).toNat (if k = 0 then 3 else 10 + A 0 (52 * p + k - 1).toNat)) := he
    have hc := hV.1 (52 * p + k).toNat
    have k94 : ∀ x, x = (if k = 0 then 3 else 10 + A 0 (52 * p + k - 1).toNat) → zw L xs d q 119 94 [some (.ref 817), some (iV p), some (iV k)] [iV x, iV (A 0 (52 * p + k).toNat), .ref 825] w' cn sn Q := by
      intro x hx
      rw [← hx] at he
      refine zj_astG z119_94 a7 (by omega) (by decide) (fun w1 n1 f1 => ?_)
      have hm1 := mo_a7 hm n1 f1
      rw [fU_fU] at hm1
      refine zj_iinc z119_95 rfl rfl ?_
      refine zw_goto z119_98 ?_
      exact ih (k + 1) _ w1 (by omega) (by omega) hm1 (hF.step f1 (by omega)) he
    refine zw_iload_n z119_45 rfl ?_
    refine zw_aload_n z119_46 rfl ?_
    refine zw_getf z119_47 (by assumption) (by rfl) ?_
    refine zw_iload_n z119_50 rfl ?_
    refine zj_ald z119_51 a1 (by omega) (by decide) ?_
    refine zj_icmp_ge z119_52 (by omega) (by omega) (fun h5 => ?_) (fun h5 => ?_)
    · exfalso; omega
    refine zw_aload_n z119_55 rfl ?_
    refine zw_getf z119_56 (by assumption) (by rfl) ?_
    refine zw_aload_n z119_59 rfl ?_
    refine zw_getf z119_60 (by assumption) (by rfl) ?_
    refine zw_bipush z119_63 (v := iI (52)) (by decide +kernel) ?_
    refine zw_iload_n z119_65 rfl ?_
    refine zj_mul z119_66 ?_
    refine zw_iload_n z119_67 rfl ?_
    refine zj_add z119_68 ?_
    refine zj_ald z119_69 a0 (by omega) (by decide) ?_
    refine zw_iload_n z119_70 rfl ?_
    refine zj_if_ne z119_71 (by omega) (fun h6 => ?_) (fun h6 => ?_)
    · refine zw_bipush z119_78 (v := iI (10)) (by decide +kernel) ?_
      refine zw_aload_n z119_80 rfl ?_
      refine zw_getf z119_81 (by assumption) (by rfl) ?_
      refine zw_bipush z119_84 (v := iI (52)) (by decide +kernel) ?_
      refine zw_iload_n z119_86 rfl ?_
      refine zj_mul z119_87 ?_
      refine zw_iload_n z119_88 rfl ?_
      refine zj_add z119_89 ?_
      refine zw_iconst z119_90 (v := iI 1) rfl ?_
      refine zj_sub z119_91 ?_
      refine zj_ald z119_92 a0 (by omega) (by decide) ?_
      refine zj_add z119_93 ?_
      exact k94 _ (if_neg h6).symm
    · refine zw_iconst z119_74 (v := iI 3) rfl ?_
      refine zw_goto z119_75 ?_
      exact k94 _ (if_pos (by omega)).symm
theorem lp_bg3 (hG : gmV G) (hV : mtV A) {R : Nat → Int} (kk : ∀ w' x1 x2, moA w' G N (fU A 7 R) → zF moS w w' → zw L xs d q 119 107 [some (.ref 817), x1, x2] [] w' cn sn Q) : ∀ (j : Nat) (p : Int) (f : Nat → Int) (w' : zi_W) (x2 : Option Value), p + j = G 0 → 0 ≤ p → moA w' G N (fU A 7 f) → zF moS w w' → R = bgP A j p f → zw L xs d q 119 35 [some (.ref 817), some (iV p), x2] [] w' cn sn Q := by
  have hG' := hG
  unfold gmV at hG'
  intro j
  induction j with
  | zero =>
    intro p f w' x2 h1 h2 hm hF he
    have m0 := hm.1
    refine zw_iload_n z119_35 rfl ?_
    refine zw_aload_n z119_36 rfl ?_
    refine zw_getf z119_37 (by assumption) (by rfl) ?_
    refine zj_icmp_ge z119_40 (by omega) (by omega) (fun h5 => ?_) (fun h5 => ?_)
    · have he : R = f := he
      subst he
      exact kk w' _ _ hm hF
    · exfalso; omega
  | succ j ih =>
    intro p f w' x2 h1 h2 hm hF he
    have m0 := hm.1
    have he : R = bgP A j (p + 1) (bgK A p (A 1 p.toNat).toNat 0 f) := he
    have hh := hV.2.1 p.toNat
    refine zw_iload_n z119_35 rfl ?_
    refine zw_aload_n z119_36 rfl ?_
    refine zw_getf z119_37 (by assumption) (by rfl) ?_
    refine zj_icmp_ge z119_40 (by omega) (by omega) (fun h5 => ?_) (fun h5 => ?_)
    · exfalso; omega
    refine zw_iconst z119_43 (v := iI 0) rfl ?_
    refine zw_istore_n z119_44 rfl ?_
    refine lp_bg2 (w := w) (R := bgK A p (A 1 p.toNat).toNat 0 f) hV (by omega) (fun w1 x2 hm1 f1 => ?_) (A 1 p.toNat).toNat 0 f w' (by omega) (by omega) hm hF rfl
    refine zj_iinc z119_101 rfl rfl ?_
    refine zw_goto z119_104 ?_
    exact ih (p + 1) _ w1 _ (by omega) (by omega) hm1 f1 he
theorem lp_bg4 (hG : gmV G) (hV : mtV A) {R : Nat → Int} (kk : ∀ w', moA w' G N (fU A 7 R) → zF moS w w' → Q (.inl none) w' cn sn) : ∀ (j : Nat) (k : Int) (f : Nat → Int) (w' : zi_W) (x2 : Option Value), k + j = G 1 → 0 ≤ k → moA w' G N (fU A 7 f) → zF moS w w' → R = bgE A j k f → zw L xs d q 119 109 [some (.ref 817), some (iV k), x2] [] w' cn sn Q := by
  have hG' := hG
  unfold gmV at hG'
  intro j
  induction j with
  | zero =>
    intro k f w' x2 h1 h2 hm hF he
    have m0 := hm.1
    refine zw_iload_n z119_109 rfl ?_
    refine zw_aload_n z119_110 rfl ?_
    refine zw_getf z119_111 (by assumption) (by rfl) ?_
    refine zj_icmp_ge z119_114 (by omega) (by omega) (fun h5 => ?_) (fun h5 => ?_)
    · have he : R = f := he
      subst he
      exact zw_vret z119_144 rfl (kk w' hm hF)
    · exfalso; omega
  | succ j ih =>
    intro k f w' x2 h1 h2 hm hF he
    have m0 := hm.1
    have a2 : zi_get w' 820 = some (.inl (0, 4, .inl (iA (A 2)))) := hm.2.2.2.1
    have a7 : zi_get w' 825 = some (.inl (0, 10504, .inl (iA f))) := hm.2.2.2.2.2.2.2.2.1
    have he : R = bgE A j (k + 1) (if A 2 k.toNat < 0 then f else iU f (A 2 k.toNat).toNat 2) := he
    have hc := hV.2.2.1 k.toNat
    refine zw_iload_n z119_109 rfl ?_
    refine zw_aload_n z119_110 rfl ?_
    refine zw_getf z119_111 (by assumption) (by rfl) ?_
    refine zj_icmp_ge z119_114 (by omega) (by omega) (fun h5 => ?_) (fun h5 => ?_)
    · exfalso; omega
    refine zw_aload_n z119_117 rfl ?_
    refine zw_getf z119_118 (by assumption) (by rfl) ?_
    refine zw_iload_n z119_121 rfl ?_
    refine zj_ald z119_122 a2 (by omega) (by decide) ?_
    refine zj_if_lt z119_123 (by omega) (fun h6 => ?_) (fun h6 => ?_)
    · rw [if_pos h6] at he
      refine zj_iinc z119_138 rfl rfl ?_
      refine zw_goto z119_141 ?_
      exact ih (k + 1) f w' _ (by omega) (by omega) hm hF he
    · rw [if_neg h6] at he
      refine zw_aload_n z119_126 rfl ?_
      refine zw_getf z119_127 (by assumption) (by rfl) ?_
      refine zw_aload_n z119_130 rfl ?_
      refine zw_getf z119_131 (by assumption) (by rfl) ?_
      refine zw_iload_n z119_134 rfl ?_
      refine zj_ald z119_135 a2 (by omega) (by decide) ?_
      refine zw_iconst z119_136 (v := iI 2) rfl ?_
      refine zj_astG z119_137 a7 (by omega) (by decide) (fun w1 n1 f1 => ?_)
      have hm1 := mo_a7 hm n1 f1
      rw [fU_fU] at hm1
      refine zj_iinc z119_138 rfl rfl ?_
      refine zw_goto z119_141 ?_
      exact ih (k + 1) _ w1 _ (by omega) (by omega) hm1 (hF.step f1 (by omega)) he
theorem sp_mBegin (hm : moA w G N A) (hG : gmV G) (hV : mtV A) (hd : 1 ≤ d) (hq : 20 ≤ q) : zr L xs d q 119 [.ref 817] w cn sn (mR w cn sn none G N (fU A 7 (bgF G A))) := by
  have hG' := hG
  unfold gmV at hG'
  refine ⟨_, rfl, ?_⟩
  show zw _ _ _ _ 119 0 [some (.ref 817), none, none] [] _ _ _ _
  refine zw_iconst z119_0 (v := iI 0) rfl ?_
  refine zw_istore_n z119_1 rfl ?_
  refine lp_bg1 (w := w) (A := A) hG hd hq (fun w1 hm1 f1 => ?_) 52 0 w rfl (by rw [show iCp (bgH G) (A 7) 0 = A 7 from funext fun j => if_neg (by omega), fU_id]; exact hm) zF.rf
  refine zw_iconst z119_33 (v := iI 0) rfl ?_
  refine zw_istore_n z119_34 rfl ?_
  refine lp_bg3 (w := w) (A := A) (R := bgP A (G 0).toNat 0 (iCp (bgH G) (A 7) 52)) hG hV (fun w2 x1 x2 hm2 f2 => ?_) (G 0).toNat 0 _ w1 none (by omega) (by omega) hm1 f1 rfl
  refine zw_iconst z119_107 (v := iI 0) rfl ?_
  refine zw_istore_n z119_108 rfl ?_
  exact lp_bg4 (w := w) (A := A) (R := bgF G A) hG hV (fun w3 hm3 f3 => ⟨_, rfl, rfl, rfl, rfl, hm3, f3⟩) (G 1).toNat 0 _ w2 _ (by omega) (by omega) hm2 f2 rfl
end ZNA
