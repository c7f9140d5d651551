/-! The reference's search: regard. (Laid out by gen/tpl.py from tpl/67.msearch.tpl.) -/
section ZMR
variable {L : Nat} {xs : Nat → Int32} {d q : Nat} {w w' : zi_W} {cn sn : Nat} {Q : zi_O → zi_W → Nat → Nat → Prop} {G N : Nat → Int} {A : Nat → Nat → Int} {z y m c o a b e k u : Int} {r : Nat}
theorem lp_rg1 (kk : ∀ w', moA w' G N (fU A 11 (iFi (A 11) 4 0)) → zF moS w w' → zw L xs d q 121 20 [some (.ref 817), some (iV r), some (iV 4), none] [] w' cn sn Q) : ∀ (j n : Nat) (w' : zi_W), n + j = 4 → moA w' G N (fU A 11 (iFi (A 11) n 0)) → zF moS w w' → zw L xs d q 121 2 [some (.ref 817), some (iV r), some (iV n), none] [] w' cn sn Q := by
  intro j
  induction j with
  | zero =>
    intro n w' h1 hm hF
    obtain rfl : n = 4 := by omega
    refine zw_iload_n z121_2 rfl ?_
    refine zw_iconst z121_3 (v := iI 4) rfl ?_
    refine zj_icmp_ge z121_4 (by omega) (by omega) (fun h5 => ?_) (fun h5 => ?_)
    · exact kk w' hm hF
    · exfalso; omega
  | succ j ih =>
    intro n w' h1 hm hF
    have hm9 := hm
    obtain ⟨m0, a0, a1, a2, a3, a4, a5, a6, a7, a8, a9, a10, a11, a12⟩ := hm9
    refine zw_iload_n z121_2 rfl ?_
    refine zw_iconst z121_3 (v := iI 4) rfl ?_
    refine zj_icmp_ge z121_4 (by omega) (by omega) (fun h5 => ?_) (fun h5 => ?_)
    · exfalso; omega
    refine zw_aload_n z121_7 rfl ?_
    refine zw_getf z121_8 (by assumption) (by rfl) ?_
    refine zw_iload_n z121_11 rfl ?_
    refine zw_iconst z121_12 (v := iI 0) rfl ?_
    refine zj_astG z121_13 a11 (by omega) (by decide) (fun w1 n1 f1 => ?_)
    refine zj_iinc z121_14 rfl rfl ?_
    refine zw_goto z121_17 ?_
    have hm1 := mo_a11 hm n1 f1
    rw [fU_fU, show (n : Int).toNat = n by omega, show fU A 11 (iFi (A 11) n 0) 11 = iFi (A 11) n 0 from rfl, iFi_s] at hm1
    have := ih (n + 1) w1 (by omega) hm1 (hF.step f1 (by omega))
    rwa [show ((n + 1 : Nat) : Int) = (n : Int) + 1 by omega] at this
theorem lp_rg2 (hG : gmV G) (hd : 1 ≤ d) (hq : 20 ≤ q) (kk : ∀ w' (n : Nat), moA w' G N (fU A 12 (iFi (A 12) (gAll G).toNat 0)) → zF moS w w' → zw L xs d q 121 53 [some (.ref 817), some (iV r), some (iV n), none] [] w' cn sn Q) : ∀ (j n : Nat) (w' : zi_W), (n : Int) + j = gAll G → moA w' G N (fU A 12 (iFi (A 12) n 0)) → zF moS w w' → zw L xs d q 121 32 [some (.ref 817), some (iV r), some (iV n), none] [] w' cn sn Q := by
  obtain ⟨d, rfl⟩ : ∃ e, d = e + 1 := ⟨d - 1, by omega⟩
  have hA := gAll_rng hG
  intro j
  induction j with
  | zero =>
    intro n w' h1 hm hF
    have m0 := hm.1
    refine zw_iload_n z121_32 rfl ?_
    refine zw_aload_n z121_33 rfl ?_
    refine zw_vv (n := 1) z121_34 rfl rfl (by assumption) (Nat.le_of_ble_eq_true rfl) (by omega) (sp_mAll hm) ?_
    refine zj_icmp_ge z121_37 (by omega) (by omega) (fun h5 => ?_) (fun h5 => ?_)
    · exact kk w' n (by rw [show (gAll G).toNat = n by omega]; exact hm) hF
    · exfalso; omega
  | succ j ih =>
    intro n w' h1 hm hF
    have hm9 := hm
    obtain ⟨m0, a0, a1, a2, a3, a4, a5, a6, a7, a8, a9, a10, a11, a12⟩ := hm9
    refine zw_iload_n z121_32 rfl ?_
    refine zw_aload_n z121_33 rfl ?_
    refine zw_vv (n := 1) z121_34 rfl rfl (by assumption) (Nat.le_of_ble_eq_true rfl) (by omega) (sp_mAll hm) ?_
    refine zj_icmp_ge z121_37 (by omega) (by omega) (fun h5 => ?_) (fun h5 => ?_)
    · exfalso; omega
    refine zw_aload_n z121_40 rfl ?_
    refine zw_getf z121_41 (by assumption) (by rfl) ?_
    refine zw_iload_n z121_44 rfl ?_
    refine zw_iconst z121_45 (v := iI 0) rfl ?_
    refine zj_bstG z121_46 a12 (by omega) (by decide) (by omega) (fun w1 n1 f1 => ?_)
    refine zj_iinc z121_47 rfl rfl ?_
    refine zw_goto z121_50 ?_
    have hm1 := mo_a12 hm n1 f1
    rw [fU_fU, show (n : Int).toNat = n by omega, show fU A 12 (iFi (A 12) n 0) 12 = iFi (A 12) n 0 from rfl, iFi_s] at hm1
    have := ih (n + 1) w1 (by omega) hm1 (hF.step f1 (by omega))
    rwa [show ((n + 1 : Nat) : Int) = (n : Int) + 1 by omega] at this
theorem lp_rg3 (hG : gmV G) (s7 : ∀ j, 0 ≤ A 7 j ∧ A 7 j ≤ 61) (hr : r ≤ 201) (hd : 1 ≤ d) (hq : 21 ≤ q) {R : RG} (kk : ∀ w', moA w' G (rgN N R) (rgA A R) → zF moS w w' → Q (.inl none) w' cn sn) : ∀ (j : Nat) (c : Int) (s : RG) (w' : zi_W) (x3 : Option Value), c + j = gAll G → 0 ≤ c → moA w' G (rgN N s) (rgA A s) → zF moS w w' → R = rgL G (A 7) r j c s → zw L xs d q 121 55 [some (.ref 817), some (iV r), some (iV c), x3] [] w' cn sn Q := by
  obtain ⟨d, rfl⟩ : ∃ e, d = e + 1 := ⟨d - 1, by omega⟩
  have hA := gAll_rng hG
  intro j
  induction j with
  | zero =>
    intro c s w' x3 h1 h2 hm hF he
    have m0 := hm.1
    refine zw_iload_n z121_55 rfl ?_
    refine zw_aload_n z121_56 rfl ?_
    refine zw_vv (n := 1) z121_57 rfl rfl (by assumption) (Nat.le_of_ble_eq_true rfl) (by omega) (sp_mAll hm) ?_
    refine zj_icmp_ge z121_60 (by omega) (by omega) (fun h5 => ?_) (fun h5 => ?_)
    · have he : R = s := he
      subst he
      exact zw_vret z121_160 rfl (kk w' hm hF)
    · exfalso; omega
  | succ j ih =>
    intro c s w' x3 h1 h2 hm hF he
    have hm0 := hm
    have he : R = rgL G (A 7) r j (c + 1) (rgS G (A 7) r c s) := he
    unfold rgS at he
    have b7 := s7 (52 * (r : Int) + c).toNat
    have sc := gSuit_rng (c := c) hG
    have m0 := hm.1
    have a7 : zi_get w' 825 = some (.inl (0, 10504, .inl (iA (A 7)))) := hm.2.2.2.2.2.2.2.2.1
    have a11 : zi_get w' 829 = some (.inl (0, 4, .inl (iA s.1))) := hm.2.2.2.2.2.2.2.2.2.2.2.2.1
    refine zw_iload_n z121_55 rfl ?_
    refine zw_aload_n z121_56 rfl ?_
    refine zw_vv (n := 1) z121_57 rfl rfl (by assumption) (Nat.le_of_ble_eq_true rfl) (by omega) (sp_mAll hm) ?_
    refine zj_icmp_ge z121_60 (by omega) (by omega) (fun h5 => ?_) (fun h5 => ?_)
    · exfalso; omega
    refine zw_aload_n z121_63 rfl ?_
    refine zw_getf z121_64 (by assumption) (by rfl) ?_
    refine zw_bipush z121_67 (v := iI (52)) (by decide +kernel) ?_
    refine zw_iload_n z121_69 rfl ?_
    refine zj_mul z121_70 ?_
    refine zw_iload_n z121_71 rfl ?_
    refine zj_add z121_72 ?_
    refine zj_ald z121_73 a7 (by omega) (by decide) ?_
    generalize A 7 (52 * (r : Int) + c).toNat = on at *
    refine zw_istore_n z121_74 rfl ?_
    refine zw_iload_n z121_75 rfl ?_
    refine zw_iconst z121_76 (v := iI 1) rfl ?_
    have k94 : ∀ (w1 : zi_W) (H : Nat → Int), moA w1 G (rgN N s) (fU (fU A 11 H) 12 s.2.2.2) → zF moS w w1 → H = (if on = 1 then iU s.1 (gSuit G c).toNat (s.1 (gSuit G c).toNat + 1) else s.1) → zw L xs (d + 1) q 121 94 [some (.ref 817), some (iV r), some (iV c), some (iV on)] [] w1 cn sn Q := by
      intro w1 H hm1 F1 eH
      rw [← eH] at he
      have m1 := hm1.1
      have k113 : ∀ t, t = (if on = 2 then s.2.1 + 1 else s.2.1) → zw L xs (d + 1) q 121 113 [some (.ref 817), some (iV r), some (iV c), some (iV on)] [iV t, .ref 817] w1 cn sn Q := by
        intro t et
        rw [← et] at he
        refine zj_putf z121_113 m1 (Nat.le_of_ble_eq_true rfl) (by rfl) (fun w2 n2 f2 => ?_)
        have hm2 := mo_put (N' := iU (rgN N s) 8 t) (G' := G) hm1 n2 f2
        have m2 := hm2.1
        have k135 : ∀ g, g = (if on = 3 then s.2.2.1 + 1 else s.2.2.1) → zw L xs (d + 1) q 121 135 [some (.ref 817), some (iV r), some (iV c), some (iV on)] [iV g, .ref 817] w2 cn sn Q := by
          intro g eg
          rw [← eg] at he
          refine zj_putf z121_135 m2 (Nat.le_of_ble_eq_true rfl) (by rfl) (fun w3 n3 f3 => ?_)
          have hm3 := mo_put (N' := iU (iU (rgN N s) 8 t) 9 g) (G' := G) hm2 n3 f3
          rw [rg_N] at hm3
          have m3 := hm3.1
          have F3 := (F1.step f2 (by omega)).step f3 (by omega)
          refine zw_iload_n z121_138 rfl ?_
          refine zw_bipush z121_139 (v := iI (10)) (by decide +kernel) ?_
          refine zj_icmp_lt z121_141 (by omega) (by omega) (fun h6 => ?_) (fun h6 => ?_)
          · rw [if_neg (by omega)] at he
            refine zj_iinc z121_154 rfl rfl ?_
            refine zw_goto z121_157 ?_
            exact ih (c + 1) _ w3 _ (by omega) (by omega) hm3 F3 he
          · rw [if_pos (by omega)] at he
            have c12 : zi_get w3 830 = some (.inl (1, 52, .inl (iA s.2.2.2))) := hm3.2.2.2.2.2.2.2.2.2.2.2.2.2
            refine zw_aload_n z121_144 rfl ?_
            refine zw_getf z121_145 (by assumption) (by rfl) ?_
            refine zw_iload_n z121_148 rfl ?_
            refine zw_bipush z121_149 (v := iI (10)) (by decide +kernel) ?_
            refine zj_sub z121_151 ?_
            refine zw_iconst z121_152 (v := iI 1) rfl ?_
            refine zj_bstG z121_153 c12 (by omega) (by decide) (by omega) (fun w4 n4 f4 => ?_)
            have hm4 := mo_a12 hm3 n4 f4
            rw [fU_fU] at hm4
            refine zj_iinc z121_154 rfl rfl ?_
            refine zw_goto z121_157 ?_
            exact ih (c + 1) _ w4 _ (by omega) (by omega) hm4 (F3.step f4 (by omega)) he
        refine zw_aload_n z121_116 rfl ?_
        refine zw_iload_n z121_117 rfl ?_
        refine zw_iconst z121_118 (v := iI 3) rfl ?_
        refine zj_icmp_ne z121_119 (by omega) (by omega) (fun h7 => ?_) (fun h7 => ?_)
        · refine zw_aload_n z121_131 rfl ?_
          refine zw_getf z121_132 (by assumption) (by rfl) ?_
          exact k135 _ (if_neg h7).symm
        · refine zw_aload_n z121_122 rfl ?_
          refine zw_getf z121_123 (by assumption) (by rfl) ?_
          refine zw_iconst z121_126 (v := iI 1) rfl ?_
          refine zj_add z121_127 ?_
          refine zw_goto z121_128 ?_
          exact k135 _ (if_pos (by omega)).symm
      refine zw_aload_n z121_94 rfl ?_
      refine zw_iload_n z121_95 rfl ?_
      refine zw_iconst z121_96 (v := iI 2) rfl ?_
      refine zj_icmp_ne z121_97 (by omega) (by omega) (fun h8 => ?_) (fun h8 => ?_)
      · refine zw_aload_n z121_109 rfl ?_
        refine zw_getf z121_110 (by assumption) (by rfl) ?_
        exact k113 _ (if_neg h8).symm
      · refine zw_aload_n z121_100 rfl ?_
        refine zw_getf z121_101 (by assumption) (by rfl) ?_
        refine zw_iconst z121_104 (v := iI 1) rfl ?_
        refine zj_add z121_105 ?_
        refine zw_goto z121_106 ?_
        exact k113 _ (if_pos (by omega)).symm
    refine zj_icmp_ne z121_77 (by omega) (by omega) (fun h9 => ?_) (fun h9 => ?_)
    · exact k94 w' s.1 hm hF (if_neg h9).symm
    · refine zw_aload_n z121_80 rfl ?_
      refine zw_getf z121_81 (by assumption) (by rfl) ?_
      refine zw_aload_n z121_84 rfl ?_
      refine zw_iload_n z121_85 rfl ?_
      refine zw_vv (n := 2) z121_86 rfl rfl (by assumption) (Nat.le_of_ble_eq_true rfl) (by omega) (sp_mSuit hm hG (by omega)) ?_
      refine zw_dup2 z121_89 ⟨rfl, rfl⟩ ?_
      refine zj_ald z121_90 a11 (by omega) (by decide) ?_
      refine zw_iconst z121_91 (v := iI 1) rfl ?_
      refine zj_add z121_92 ?_
      refine zj_astG z121_93 a11 (by omega) (by decide) (fun w1 n1 f1 => ?_)
      have hm1 := mo_a11 hm n1 f1
      refine k94 w1 _ ?_ (hF.step f1 (by omega)) (if_pos (by omega)).symm
      have e2 : fU (rgA A s) 11 (iU s.1 (gSuit G c).toNat (s.1 (gSuit G c).toNat + 1)) = fU (fU A 11 (iU s.1 (gSuit G c).toNat (s.1 (gSuit G c).toNat + 1))) 12 s.2.2.2 := by
        funext i
        unfold rgA fU
        by_cases hi : i = 11
        · subst hi; rfl
        · rw [if_neg hi]
          split <;> rfl
      rw [← e2]
      exact hm1
theorem sp_mRegard (hm : moA w G N A) (hG : gmV G) (s7 : ∀ j, 0 ≤ A 7 j ∧ A 7 j ≤ 61) (hr : r ≤ 201) (hd : 1 ≤ d) (hq : 21 ≤ q) : zr L xs d q 121 [.ref 817, iV r] w cn sn (mR w cn sn none G (rgN N (rg G A r)) (rgA A (rg G A r))) := by
  have hA := gAll_rng hG
  refine ⟨_, rfl, ?_⟩
  show zw _ _ _ _ 121 0 [some (.ref 817), some (iV r), none, none] [] _ _ _ _
  refine zw_iconst z121_0 (v := iI 0) rfl ?_
  refine zw_istore_n z121_1 rfl ?_
  refine lp_rg1 (w := w) (A := A) (fun w1 hm1 F1 => ?_) 4 0 w rfl (by rw [iFi_0, fU_id]; exact hm) zF.rf
  have m0 := hm1.1
  refine zw_aload_n z121_20 rfl ?_
  refine zw_iconst z121_21 (v := iI 0) rfl ?_
  refine zj_putf z121_22 m0 (Nat.le_of_ble_eq_true rfl) (by rfl) (fun w2 n2 f2 => ?_)
  refine zw_aload_n z121_25 rfl ?_
  refine zw_iconst z121_26 (v := iI 0) rfl ?_
  refine zj_putf z121_27 n2 (Nat.le_of_ble_eq_true rfl) (by rfl) (fun w3 n3 f3 => ?_)
  have hm3 := mo_put (N' := iU (iU N 8 0) 9 0) (G' := G) hm1 n3 ⟨f3.1.trans f2.1, fun j hj => (f3.2 j hj).trans (f2.2 j hj)⟩
  refine zw_iconst z121_30 (v := iI 0) rfl ?_
  refine zw_istore_n z121_31 rfl ?_
  refine lp_rg2 (w := w) (A := fU A 11 (iFi (A 11) 4 0)) hG hd (by omega) (fun w4 n hm4 F4 => ?_) (gAll G).toNat 0 w3 (by omega) (by rw [iFi_0, fU_id]; exact hm3) ((F1.step f2 (by omega)).step f3 (by omega))
  refine zw_iconst z121_53 (v := iI 0) rfl ?_
  refine zw_istore_n z121_54 rfl ?_
  exact lp_rg3 (w := w) (N := N) (A := A) (R := rg G A r) hG s7 hr hd hq (fun w5 hm5 F5 => ⟨_, rfl, rfl, rfl, rfl, hm5, F5⟩) (gAll G).toNat 0 (rg0 G A) w4 none (by omega) (by omega) hm4 F4 rfl
/-- what regard leaves is in its bounds -/
theorem rgL_rng {f : Nat → Int} (hG : gmV G) : ∀ (j : Nat) (c : Int) (s : RG), (∀ i, 0 ≤ s.1 i ∧ (s.1 i ≤ c ∨ (4 ≤ i ∧ s.1 i ≤ 52))) → (0 ≤ s.2.1 ∧ s.2.1 ≤ c) → (0 ≤ s.2.2.1 ∧ s.2.2.1 ≤ c) → (∀ i, 0 ≤ s.2.2.2 i ∧ s.2.2.2 i ≤ 1) → (∀ i, 0 ≤ (rgL G f r j c s).1 i ∧ ((rgL G f r j c s).1 i ≤ c + j ∨ (4 ≤ i ∧ (rgL G f r j c s).1 i ≤ 52))) ∧ (0 ≤ (rgL G f r j c s).2.1 ∧ (rgL G f r j c s).2.1 ≤ c + j) ∧ (0 ≤ (rgL G f r j c s).2.2.1 ∧ (rgL G f r j c s).2.2.1 ≤ c + j) ∧ (∀ i, 0 ≤ (rgL G f r j c s).2.2.2 i ∧ (rgL G f r j c s).2.2.2 i ≤ 1) := by
  intro j
  induction j with
  | zero =>
    intro c s h1 h2 h3 h4
    exact ⟨fun i => by have := h1 i; show 0 ≤ s.1 i ∧ (s.1 i ≤ c + ((0 : Nat) : Int) ∨ (4 ≤ i ∧ s.1 i ≤ 52)); omega, by show 0 ≤ s.2.1 ∧ s.2.1 ≤ c + ((0 : Nat) : Int); omega, by show 0 ≤ s.2.2.1 ∧ s.2.2.1 ≤ c + ((0 : Nat) : Int); omega, h4⟩
  | succ j ih =>
    intro c s h1 h2 h3 h4
    have sc := gSuit_rng (c := c) hG
    have := ih (c + 1) (rgS G f r c s) (fun i => by
      unfold rgS
      dsimp only
      have g1 := h1 i
      have g2 := h1 (gSuit G c).toNat
      split
      · unfold iU; split <;> omega
      · omega) (by unfold rgS; dsimp only; split <;> omega) (by unfold rgS; dsimp only; split <;> omega) (fun i => by
      unfold rgS
      dsimp only
      split
      · exact iU_rng h4 (by omega) i
      · exact h4 i)
    obtain ⟨k1, k2, k3, k4⟩ := this
    exact ⟨fun i => by have := k1 i; show 0 ≤ (rgL G f r j (c + 1) (rgS G f r c s)).1 i ∧ ((rgL G f r j (c + 1) (rgS G f r c s)).1 i ≤ c + ((j + 1 : Nat) : Int) ∨ (4 ≤ i ∧ (rgL G f r j (c + 1) (rgS G f r c s)).1 i ≤ 52)); omega, by show 0 ≤ (rgL G f r j (c + 1) (rgS G f r c s)).2.1 ∧ (rgL G f r j (c + 1) (rgS G f r c s)).2.1 ≤ c + ((j + 1 : Nat) : Int); omega, by show 0 ≤ (rgL G f r j (c + 1) (rgS G f r c s)).2.2.1 ∧ (rgL G f r j (c + 1) (rgS G f r c s)).2.2.1 ≤ c + ((j + 1 : Nat) : Int); omega, k4⟩
end ZMR
