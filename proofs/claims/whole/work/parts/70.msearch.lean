/-! The reference's search: spread's loops, leads, isGood. (Laid out by gen/tpl.py from tpl/70.msearch.tpl.) -/
section ZMW3
variable {L : Nat} {xs : Nat → Int32} {d q : Nat} {w w' : zi_W} {cn sn : Nat} {Q : zi_O → zi_W → Nat → Nat → Prop} {G N : Nat → Int} {A : Nat → Nat → Int} {z y m c o a b e k u n l : Int} {r ct : Nat} {τ τ0 : MO}
theorem lp_spT (hG : gmV G) (hn : n ≤ 200) (hc : 0 ≤ c ∧ c < gAll G) (hd : 3 ≤ d) (hq : 68 ≤ q) {R : MO} (kk : ∀ w' x5, moA w' G R.2.1 R.2.2 → zF moS w w' → spW L xs d q 148 r n w' cn sn Q R.1 c x5) : ∀ (j : Nat) (o : Int) (τ : MO) (w' : zi_W), (j : Int) = onF G o → onW G o → moA w' G τ.2.1 τ.2.2 → spI r n τ → zF moS w w' → R = spT G r n c j o τ → spW L xs d q 22 r n w' cn sn Q τ.1 c (some (iV o)) := by
  have hd0 := hd
  obtain ⟨d, rfl⟩ : ∃ e, d = e + 1 := ⟨d - 1, by omega⟩
  have hA := gAll_rng hG
  intro j
  induction j with
  | zero =>
    intro o τ w' h1 h2 hm hI hF he
    have m0 := hm.1
    have ho := onF_s hG h2
    have ho3 : 10 + gAll G ≤ o := by unfold onF at h1; split at h1 <;> omega
    refine zw_iload z125_22 rfl ?_
    refine zw_bipush z125_24 (v := iI (10)) (by decide +kernel) ?_
    refine zw_aload_n z125_26 rfl ?_
    refine zw_vv (n := 1) z125_27 rfl rfl (by assumption) (Nat.le_of_ble_eq_true rfl) (by omega) (sp_mAll hm) ?_
    refine zj_add z125_30 ?_
    refine zj_icmp_ge z125_31 (by omega) (by omega) (fun h5 => ?_) (fun h5 => ?_)
    · have he : R = τ := he
      subst he
      exact kk w' _ hm hF
    · exfalso; omega
  | succ j ih =>
    intro o τ w' h1 h2 hm hI hF he
    have m0 := hm.1
    have ho := onF_s hG h2
    have ho2 := ho.2.1 (by omega)
    have hor := ho2.2
    refine zw_iload z125_22 rfl ?_
    refine zw_bipush z125_24 (v := iI (10)) (by decide +kernel) ?_
    refine zw_aload_n z125_26 rfl ?_
    refine zw_vv (n := 1) z125_27 rfl rfl (by assumption) (Nat.le_of_ble_eq_true rfl) (by omega) (sp_mAll hm) ?_
    refine zj_add z125_30 ?_
    refine zj_icmp_ge z125_31 (by omega) (by omega) (fun h5 => ?_) (fun h5 => ?_)
    · exfalso; omega
    refine sp_spO hG hm hI hn hc hor hd0 hq (fun w1 hm1 f1 => ?_)
    have he : R = spT G r n c j (mAf o) (spO G r n c o τ) := he
    have hI1 : spI r n (spO G r n c o τ) := hI.one (by omega)
    refine zw_iload z125_138 rfl ?_
    refine zw_vs (n := 1) z125_140 rfl rfl (Nat.le_of_ble_eq_true rfl) (by omega) (sp_mAfter (by omega)) ?_
    refine zw_istore z125_143 rfl ?_
    refine zw_goto z125_145 ?_
    exact ih (mAf o) _ w1 (by omega) ho2.1 hm1 hI1 (hF.trans f1) he
theorem lp_spC (hG : gmV G) (hn : n ≤ 200) (hd : 3 ≤ d) (hq : 68 ≤ q) {R : MO} (kk : ∀ w' , moA w' G R.2.1 R.2.2 → spI r n R → zF moS w w' → Q (oI R.1) w' cn sn) : ∀ (j : Nat) (c : Int) (τ : MO) (w' : zi_W) (x5 : Option Value), c + j = gAll G → 0 ≤ c → moA w' G τ.2.1 τ.2.2 → spI r n τ → zF moS w w' → R = spC G r n j c τ → spW L xs d q 10 r n w' cn sn Q τ.1 c x5 := by
  have hd0 := hd
  obtain ⟨d, rfl⟩ : ∃ e, d = e + 1 := ⟨d - 1, by omega⟩
  have hA := gAll_rng hG
  intro j
  induction j with
  | zero =>
    intro c τ w' x5 h1 h2 hm hI hF he
    have m0 := hm.1
    have hb := hI.2.2.2.1
    refine zw_iload z125_10 rfl ?_
    refine zw_aload_n z125_12 rfl ?_
    refine zw_vv (n := 1) z125_13 rfl rfl (by assumption) (Nat.le_of_ble_eq_true rfl) (by omega) (sp_mAll hm) ?_
    refine zj_icmp_ge z125_16 (by omega) (by omega) (fun h5 => ?_) (fun h5 => ?_)
    · have he : R = τ := he
      subst he
      refine zw_iload_n z125_154 rfl ?_
      exact zj_bret z125_155 rfl hb (kk w' hm hI hF)
    · exfalso; omega
  | succ j ih =>
    intro c τ w' x5 h1 h2 hm hI hF he
    have m0 := hm.1
    have he : R = spC G r n j (c + 1) (spT G r n c (gAll G + 3).toNat 1 τ) := he
    have hf : (((gAll G + 3).toNat : Nat) : Int) = onF G 1 := by unfold onF; rw [if_pos (by omega)]; omega
    refine zw_iload z125_10 rfl ?_
    refine zw_aload_n z125_12 rfl ?_
    refine zw_vv (n := 1) z125_13 rfl rfl (by assumption) (Nat.le_of_ble_eq_true rfl) (by omega) (sp_mAll hm) ?_
    refine zj_icmp_ge z125_16 (by omega) (by omega) (fun h5 => ?_) (fun h5 => ?_)
    · exfalso; omega
    refine zw_iconst z125_19 (v := iI 1) rfl ?_
    refine zw_istore z125_20 rfl ?_
    refine lp_spT (w := w') (R := spT G r n c (gAll G + 3).toNat 1 τ) hG hn (by omega) hd0 hq (fun w1 x5 hm1 f1 => ?_) (gAll G + 3).toNat 1 τ w' hf (by unfold onW; omega) hm hI zF.rf rfl
    refine zj_iinc z125_148 rfl rfl ?_
    refine zw_goto z125_151 ?_
    exact ih (c + 1) _ w1 _ (by omega) (by omega) hm1 (spI.all hG _ _ _ hI (by unfold onW; omega) hf) (hF.trans f1) he
theorem rg_V (hG : gmV G) (hV : msV N A) : msV (rgN N (rg G A r)) (rgA A (rg G A r)) := by
  obtain ⟨s7, s8, s9, s10, s11, s12, t8, t9⟩ := hV
  have hA := gAll_rng hG
  obtain ⟨k1, k2, k3, k4⟩ := rgL_rng (G := G) (r := r) (f := A 7) hG (gAll G).toNat 0 (rg0 G A) (fun i => by
    show 0 ≤ iFi (A 11) 4 0 i ∧ (iFi (A 11) 4 0 i ≤ 0 ∨ (4 ≤ i ∧ iFi (A 11) 4 0 i ≤ 52))
    have := s11 i
    unfold iFi
    split <;> omega) (by show (0 : Int) ≤ 0 ∧ (0 : Int) ≤ 0; omega) (by show (0 : Int) ≤ 0 ∧ (0 : Int) ≤ 0; omega) (iFi_rng s12 (by omega))
  exact ⟨s7, s8, s9, s10, fun i => by have := k1 i; show 0 ≤ (rgL G (A 7) r (gAll G).toNat 0 (rg0 G A)).1 i ∧ (rgL G (A 7) r (gAll G).toNat 0 (rg0 G A)).1 i ≤ 52; omega, k4, by show 0 ≤ (rgL G (A 7) r (gAll G).toNat 0 (rg0 G A)).2.1 ∧ (rgL G (A 7) r (gAll G).toNat 0 (rg0 G A)).2.1 ≤ 52; omega, by show 0 ≤ (rgL G (A 7) r (gAll G).toNat 0 (rg0 G A)).2.2.1 ∧ (rgL G (A 7) r (gAll G).toNat 0 (rg0 G A)).2.2.1 ≤ 52; omega⟩
abbrev sprd (G : Nat → Int) (r : Nat) (n : Int) (N : Nat → Int) (A : Nat → Nat → Int) : MO := spC G r n (gAll G).toNat 0 (sp0 G r 0 N A)
theorem sp_mSpread (hm : moA w G N A) (hG : gmV G) (hn : n ≤ 200) (hV : msV N A) (hr : (r : Int) < N 4 ∧ N 4 ≤ n) (h6 : N 6 = 0 ∨ N 6 = 1) (h7 : N 7 = 0 ∨ N 7 = 1) (hd : 3 ≤ d) (hq : 68 ≤ q) : zr L xs d q 125 [.ref 817, iV r, iV n] w cn sn (fun v w' cn' sn' => mRO w cn sn G (sprd G r n N A) v w' cn' sn' ∧ spI r n (sprd G r n N A)) := by
  have hd0 := hd
  obtain ⟨d, rfl⟩ : ∃ e, d = e + 1 := ⟨d - 1, by omega⟩
  have hA := gAll_rng hG
  have m0 := hm.1
  refine ⟨_, rfl, ?_⟩
  show zw _ _ _ _ 125 0 [some (.ref 817), some (iV r), some (iV n), none, none, none] [] _ _ _ _
  refine zw_iconst z125_0 (v := iI 0) rfl ?_
  refine zw_istore_n z125_1 rfl ?_
  refine zw_aload_n z125_2 rfl ?_
  refine zw_iload_n z125_3 rfl ?_
  refine zw_cv (n := 4) z125_4 rfl rfl m0 (Nat.le_of_ble_eq_true rfl) (by omega) (sp_mRegard hm hG hV.1 (by omega) (by omega) (by omega)) (fun v w1 cn1 sn1 h => ?_)
  obtain ⟨rfl, rfl, rfl, hm1, f1⟩ := h
  refine zw_iconst z125_7 (v := iI 0) rfl ?_
  refine zw_istore z125_8 rfl ?_
  exact lp_spC (w := w) (R := sprd G r n N A) hG hn hd0 hq (fun w2 hm2 hI2 f2 => ⟨_, rfl, ⟨rfl, rfl, rfl, hm2, f2⟩, hI2⟩) (gAll G).toNat 0 (sp0 G r 0 N A) w1 none (by omega) (by omega) hm1 ⟨rg_V hG hV, hr, h6, Or.inl rfl, h7⟩ f1 rfl
/-- leads: the answer, the state -/
abbrev ldV (τ : MO) (r : Nat) (c o l : Int) : Int := if l = τ.2.1 5 - 1 then sW τ r c o else if τ.2.2 10 (l + 1).toNat ≤ (sTn τ r c o : Int) ∧ (sTn τ r c o : Int) < τ.2.1 4 ∧ τ.2.2 9 (sTn τ r c o) ≠ 0 then 1 else 0
def ld (G : Nat → Int) (r : Nat) (c o l : Int) (τ : MO) : MO := if mMl G τ.2.1 τ.2.2 r c o then (ldV τ r c o l, (sTr τ r c o).2.1, (sTr τ r c o).2.2) else (0, τ.2.1, τ.2.2)
theorem ldV_b : ldV τ r c o l = 0 ∨ ldV τ r c o l = 1 := by
  unfold ldV
  split
  · exact tnW_b _
  · split <;> omega
theorem spI_ld (h : spI r n τ) (ho : 0 ≤ o ∧ o ≤ 61) : spI r n (ld G r c o l τ) := by
  unfold ld
  split
  · have hh := h.tr (c := c) ho
    have hb := ldV_b (τ := τ) (r := r) (c := c) (o := o) (l := l)
    generalize sTr τ r c o = σ at hh ⊢
    generalize ldV τ r c o l = x at hb ⊢
    obtain ⟨h1, h2, h3, h4, h5⟩ := hh
    exact ⟨h1, h2, h3, hb, h5⟩
  · obtain ⟨h1, h2, h3, h4, h5⟩ := h
    exact ⟨h1, h2, h3, Or.inl rfl, h5⟩
theorem sp_mLeads (hG : gmV G) (hm : moA w G τ.2.1 τ.2.2) (hI : spI r n τ) (hn : n ≤ 200) (hc : 0 ≤ c ∧ c < gAll G) (ho : onR G o) (hl : 0 ≤ l ∧ l ≤ 205) (h5 : 0 ≤ τ.2.1 5 ∧ τ.2.1 5 ≤ 205) (hd : 3 ≤ d) (hq : 68 ≤ q) : zr L xs d q 126 [.ref 817, iV r, iV c, iV o, iV l] w cn sn (mRO w cn sn G (ld G r c o l τ)) := by
  obtain ⟨d, rfl⟩ : ∃ e, d = e + 1 := ⟨d - 1, by omega⟩
  have hA := gAll_rng hG
  have hI0 := hI
  obtain ⟨hV, h2, h3, h4, h6⟩ := hI
  have m0 := hm.1
  have ho1 : 0 ≤ o ∧ o ≤ 61 := by omega
  refine ⟨_, rfl, ?_⟩
  show zw _ _ _ _ 126 0 [some (.ref 817), some (iV r), some (iV c), some (iV o), some (iV l), none] [] _ _ _ _
  refine zw_aload_n z126_0 rfl ?_
  refine zw_iload_n z126_1 rfl ?_
  refine zw_iload_n z126_2 rfl ?_
  refine zw_iload_n z126_3 rfl ?_
  refine zw_vv (n := 6) z126_4 rfl rfl (by assumption) (Nat.le_of_ble_eq_true rfl) (by omega) (sp_mMayLie hm hG hV (by omega) hc ho (by omega) (by omega)) ?_
  refine zj_b_ne z126_7 (fun g1 => ?_) (fun g1 => ?_)
  rotate_left
  · rw [show ld G r c o l τ = _ from if_neg g1]
    refine zw_iconst z126_10 (v := iI 0) rfl ?_
    exact zj_bret z126_11 rfl (by omega) ⟨_, rfl, rfl, rfl, rfl, hm, zF.rf⟩
  rw [show ld G r c o l τ = _ from if_pos g1]
  have hct : τ.2.1 4 = ((sCt τ : Nat) : Int) := by unfold sCt; omega
  refine zw_aload_n z126_12 rfl ?_
  refine zw_iload_n z126_13 rfl ?_
  refine zw_iload_n z126_14 rfl ?_
  refine zw_iload_n z126_15 rfl ?_
  refine zw_cv (n := 7) z126_16 rfl rfl m0 (Nat.le_of_ble_eq_true rfl) (by omega) (sp_mTried (ct := sCt τ) hm hV.1 hV.2.1 (by omega) (by omega) (by omega) ho1 hct (by omega) (by omega)) (fun v w1 cn1 sn1 h => ?_)
  obtain ⟨rfl, rfl, rfl, hm1, f1⟩ := h
  replace hm1 : moA w1 G (sTr τ r c o).2.1 (sTr τ r c o).2.2 := hm1
  have hI1 := hI0.tr (c := c) ho1
  have e4 : (sTr τ r c o).2.1 4 = τ.2.1 4 := rfl
  have e5 : (sTr τ r c o).2.1 5 = τ.2.1 5 := rfl
  have e7 := sTr_7 τ r c o
  have e9 : (sTr τ r c o).2.2 9 = τ.2.2 9 := rfl
  have e10 : (sTr τ r c o).2.2 10 = τ.2.2 10 := rfl
  have hle := tnI_le (f := tnF τ.2.2 r (sCt τ) c o) (S := tnS τ.2.2 r (sCt τ) c o) (ct := sCt τ) (n := 52) (sCt τ) 0
  have ht : tnI (tnF τ.2.2 r (sCt τ) c o) (tnS τ.2.2 r (sCt τ) c o) (sCt τ) 52 (sCt τ) 0 = sTn τ r c o := rfl
  rw [ht] at hle
  rw [show tn τ.2.2 r (sCt τ) c o = sTn τ r c o from rfl]
  have hW : sW τ r c o = 0 ∨ sW τ r c o = 1 := tnW_b _
  unfold ldV
  generalize sTr τ r c o = σ at *
  generalize sTn τ r c o = t at *
  generalize sW τ r c o = x at *
  obtain ⟨hV1, i2, i3, i4, i5⟩ := hI1
  have m1 := hm1.1
  have a9 : zi_get w1 827 = some (.inl (1, 202, .inl (iA (τ.2.2 9)))) := e9 ▸ hm1.2.2.2.2.2.2.2.2.2.2.1
  have a10 : zi_get w1 828 = some (.inl (0, 210, .inl (iA (τ.2.2 10)))) := e10 ▸ hm1.2.2.2.2.2.2.2.2.2.2.2.1
  have b10 := hV.2.2.2.1 (l + 1).toNat
  have b9 := hV.2.2.1 t
  refine zw_istore z126_19 rfl ?_
  refine zw_iload z126_21 rfl ?_
  refine zw_aload_n z126_23 rfl ?_
  refine zw_getf z126_24 (by assumption) (by rfl) ?_
  refine zw_iconst z126_27 (v := iI 1) rfl ?_
  refine zj_sub z126_28 ?_
  rw [e5]
  refine zj_icmp_ne z126_29 (by omega) (by omega) (fun g2 => ?_) (fun g2 => ?_)
  rotate_left
  · rw [if_pos (by omega)]
    refine zw_aload_n z126_32 rfl ?_
    refine zw_getf z126_33 (by assumption) (by rfl) ?_
    refine zw_goto z126_36 ?_
    rw [e7]
    exact zj_bret z126_77 rfl hW ⟨_, rfl, rfl, rfl, rfl, hm1, f1⟩
  rw [if_neg g2]
  have kf : ¬ (τ.2.2 10 (l + 1).toNat ≤ (t : Int) ∧ (t : Int) < τ.2.1 4 ∧ τ.2.2 9 t ≠ 0) → zw L xs (d + 1) q 126 76 [some (.ref 817), some (iV r), some (iV c), some (iV o), some (iV l), some (iV t)] [] w1 cn1 sn1 (fun o' w' cn' sn' => ∃ v, o' = .inl v ∧ mRO w cn1 sn1 G (if τ.2.2 10 (l + 1).toNat ≤ (t : Int) ∧ (t : Int) < τ.2.1 4 ∧ τ.2.2 9 t ≠ 0 then 1 else 0, σ.2.1, σ.2.2) v w' cn' sn') := by
    intro hn
    rw [if_neg hn]
    refine zw_iconst z126_76 (v := iI 0) rfl ?_
    exact zj_bret z126_77 rfl (by omega) ⟨_, rfl, rfl, rfl, rfl, hm1, f1⟩
  refine zw_iload z126_39 rfl ?_
  refine zw_aload_n z126_41 rfl ?_
  refine zw_getf z126_42 (by assumption) (by rfl) ?_
  refine zw_iload z126_45 rfl ?_
  refine zw_iconst z126_47 (v := iI 1) rfl ?_
  refine zj_add z126_48 ?_
  refine zj_ald z126_49 a10 (by omega) (by decide) ?_
  refine zj_icmp_lt z126_50 (by omega) (by omega) (fun g3 => ?_) (fun g3 => ?_)
  · exact kf (fun h => by omega)
  refine zw_iload z126_53 rfl ?_
  refine zw_aload_n z126_55 rfl ?_
  refine zw_getf z126_56 (by assumption) (by rfl) ?_
  rw [e4]
  refine zj_icmp_ge z126_59 (by omega) (by omega) (fun g4 => ?_) (fun g4 => ?_)
  · exact kf (fun h => by omega)
  refine zw_aload_n z126_62 rfl ?_
  refine zw_getf z126_63 (by assumption) (by rfl) ?_
  refine zw_iload z126_66 rfl ?_
  refine zj_bld z126_68 a9 (by omega) (by decide) ?_
  rw [show (t : Int).toNat = t by omega]
  refine zj_if_eq z126_69 (by omega) (fun g5 => ?_) (fun g5 => ?_)
  · exact kf (fun h => h.2.2 g5)
  rw [if_pos ⟨by omega, by omega, g5⟩]
  refine zw_iconst z126_72 (v := iI 1) rfl ?_
  refine zw_goto z126_73 ?_
  exact zj_bret z126_77 rfl (by omega) ⟨_, rfl, rfl, rfl, rfl, hm1, f1⟩
end ZMW3
