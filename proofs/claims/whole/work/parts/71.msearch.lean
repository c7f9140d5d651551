/-! The reference's search: isGood. (Laid out by gen/tpl.py from tpl/71.msearch.tpl.) -/
section ZMX
variable {L : Nat} {xs : Nat → Int32} {d q : Nat} {w w' : zi_W} {cn sn : Nat} {Q : zi_O → zi_W → Nat → Nat → Prop} {G N : Nat → Int} {A : Nat → Nat → Int} {z y m c o a b e k u n l : Int} {r ct : Nat} {τ τ0 τ1 : MO}
/-- what the search's trials leave as it was -/
def kp (τ0 τ : MO) : Prop := (∀ i, i ≤ 6 → τ.2.2 i = τ0.2.2 i) ∧ τ.2.2 10 = τ0.2.2 10 ∧ τ.2.2 9 = τ0.2.2 9 ∧ (∀ i, i ≤ 5 → τ.2.1 i = τ0.2.1 i)
theorem kp.rf : kp τ τ := ⟨fun _ _ => rfl, rfl, rfl, fun _ _ => rfl⟩
theorem kp.trans (h : kp τ0 τ) (g : kp τ τ1) : kp τ0 τ1 := ⟨fun i hi => (g.1 i hi).trans (h.1 i hi), g.2.1.trans h.2.1, g.2.2.1.trans h.2.2.1, fun i hi => (g.2.2.2 i hi).trans (h.2.2.2 i hi)⟩
theorem kp_tr : kp τ (sTr τ r c o) := by
  unfold sTr kp
  dsimp only
  refine ⟨fun i hi => ?_, rfl, rfl, fun i hi => ?_⟩
  · unfold tnA
    rw [fU_ne _ _ (by omega), fU_ne _ _ (by omega)]
  · unfold tnN
    rw [iU_ne _ _ (by omega)]
theorem kp_ld : kp τ (ld G r c o l τ) := by
  unfold ld
  split
  · have h := kp_tr (τ := τ) (r := r) (c := c) (o := o)
    generalize sTr τ r c o = σ at h ⊢
    generalize ldV τ r c o l = x at *
    exact h
  · exact kp.rf
theorem kp_rg {x y : Int} {s : RG} : kp (x, N, A) (y, rgN N s, rgA A s) := by
  unfold kp
  dsimp only
  refine ⟨fun i hi => ?_, rfl, rfl, fun i hi => ?_⟩
  · unfold rgA
    rw [fU_ne _ _ (by omega), fU_ne _ _ (by omega)]
  · unfold rgN
    rw [iU_ne _ _ (by omega), iU_ne _ _ (by omega)]
def igT (G : Nat → Int) (r : Nat) (l c : Int) : Nat → Int → MO → MO
  | 0, _, τ => τ
  | j + 1, o, τ => if τ.1 = 0 then igT G r l c j (mAf o) (ld G r c o l τ) else τ
def igC (G : Nat → Int) (r : Nat) (l : Int) : Nat → Int → MO → MO
  | 0, _, τ => τ
  | j + 1, c, τ => if τ.1 = 0 then igC G r l j (c + 1) (igT G r l c (gAll G + 3).toNat 1 τ) else τ
def igI (r : Nat) (n : Int) (τ0 τ : MO) : Prop := spI r n τ ∧ kp τ0 τ
theorem igI.all (hG : gmV G) : ∀ (j : Nat) (o : Int) (τ : MO), igI r n τ0 τ → onW G o → (j : Int) = onF G o → igI r n τ0 (igT G r l c j o τ) := by
  intro j
  induction j with
  | zero => intro o τ h _ _; exact h
  | succ j ih =>
    intro o τ h h1 h2
    have hA := gAll_rng hG
    have h3 := onF_s hG h1
    have h4 := h3.2.1 (by omega)
    unfold igT
    split
    · exact ih _ _ ⟨spI_ld h.1 (by have := h4.2; omega), h.2.trans kp_ld⟩ h4.1 (by omega)
    · exact h
abbrev igW (L : Nat) (xs : Nat → Int32) (d q pc r : Nat) (l : Int) (w : zi_W) (cn sn : Nat) (Q : zi_O → zi_W → Nat → Nat → Prop) (x c : Int) (x5 : Option Value) : Prop := zw L xs d q 127 pc [some (.ref 817), some (iV r), some (iV l), some (iV x), some (iV c), x5] [] w cn sn Q
theorem lp_igT (hG : gmV G) (hn : n ≤ 200) (hc : 0 ≤ c ∧ c < gAll G) (hl : 0 ≤ l ∧ l ≤ 205) (h5 : 0 ≤ τ0.2.1 5 ∧ τ0.2.1 5 ≤ 205) (hd : 4 ≤ d) (hq : 93 ≤ q) {R : MO} (kk : ∀ w' x5, moA w' G R.2.1 R.2.2 → zF moS w w' → igW L xs d q 63 r l w' cn sn Q R.1 c x5) : ∀ (j : Nat) (o : Int) (τ : MO) (w' : zi_W), (j : Int) = onF G o → onW G o → moA w' G τ.2.1 τ.2.2 → igI r n τ0 τ → zF moS w w' → R = igT G r l c j o τ → igW L xs d q 26 r l w' cn sn Q τ.1 c (some (iV o)) := by
  obtain ⟨d, rfl⟩ : ∃ e, d = e + 1 := ⟨d - 1, by omega⟩
  have hA := gAll_rng hG
  intro j
  induction j with
  | zero =>
    intro o τ w' h1 h2 hm hI hF he
    have m0 := hm.1
    have ho3 : 10 + gAll G ≤ o := by unfold onF at h1; split at h1 <;> omega
    refine zw_iload z127_26 rfl ?_
    refine zw_bipush z127_28 (v := iI (10)) (by decide +kernel) ?_
    refine zw_aload_n z127_30 rfl ?_
    refine zw_vv (n := 1) z127_31 rfl rfl (by assumption) (Nat.le_of_ble_eq_true rfl) (by omega) (sp_mAll hm) ?_
    refine zj_add z127_34 ?_
    refine zj_icmp_ge z127_35 (by omega) (by omega) (fun h6 => ?_) (fun h6 => ?_)
    · have he : R = τ := he
      subst he
      exact kk w' _ hm hF
    · exfalso; omega
  | succ j ih =>
    intro o τ w' h1 h2 hm hI hF he
    have m0 := hm.1
    have ho := onF_s hG h2
    have ho2 := ho.2.1 (by omega)
    have hor := ho2.2
    have hb := hI.1.2.2.2.1
    have e5 := hI.2.2.2.2 5 (by omega)
    have he : R = if τ.1 = 0 then igT G r l c j (mAf o) (ld G r c o l τ) else τ := he
    refine zw_iload z127_26 rfl ?_
    refine zw_bipush z127_28 (v := iI (10)) (by decide +kernel) ?_
    refine zw_aload_n z127_30 rfl ?_
    refine zw_vv (n := 1) z127_31 rfl rfl (by assumption) (Nat.le_of_ble_eq_true rfl) (by omega) (sp_mAll hm) ?_
    refine zj_add z127_34 ?_
    refine zj_icmp_ge z127_35 (by omega) (by omega) (fun h6 => ?_) (fun h6 => ?_)
    · exfalso; omega
    refine zw_iload_n z127_38 rfl ?_
    refine zj_if_ne z127_39 (by omega) (fun h7 => ?_) (fun h7 => ?_)
    · rw [if_neg h7] at he
      subst he
      exact kk w' _ hm hF
    rw [if_pos (by omega)] at he
    refine zw_aload_n z127_42 rfl ?_
    refine zw_iload_n z127_43 rfl ?_
    refine zw_iload z127_44 rfl ?_
    refine zw_iload z127_46 rfl ?_
    refine zw_iload_n z127_48 rfl ?_
    refine zw_cv (n := 6) z127_49 rfl rfl m0 (Nat.le_of_ble_eq_true rfl) (by omega) (sp_mLeads hG hm hI.1 hn hc hor hl (by omega) (by omega) (by omega)) (fun v w1 cn1 sn1 h => ?_)
    obtain ⟨rfl, rfl, rfl, hm1, f1⟩ := h
    have hI1 : igI r n τ0 (ld G r c o l τ) := ⟨spI_ld hI.1 (by omega), hI.2.trans kp_ld⟩
    generalize ld G r c o l τ = σ at *
    refine zw_istore_n z127_52 rfl ?_
    refine zw_iload z127_53 rfl ?_
    refine zw_vs (n := 1) z127_55 rfl rfl (Nat.le_of_ble_eq_true rfl) (by omega) (sp_mAfter (by omega)) ?_
    refine zw_istore z127_58 rfl ?_
    refine zw_goto z127_60 ?_
    exact ih (mAf o) σ w1 (by omega) ho2.1 hm1 hI1 (hF.trans f1) he
theorem lp_igC (hG : gmV G) (hn : n ≤ 200) (hl : 0 ≤ l ∧ l ≤ 205) (h5 : 0 ≤ τ0.2.1 5 ∧ τ0.2.1 5 ≤ 205) (hd : 4 ≤ d) (hq : 93 ≤ q) {R : MO} (kk : ∀ w' , moA w' G R.2.1 R.2.2 → igI r n τ0 R → zF moS w w' → Q (oI R.1) w' cn sn) : ∀ (j : Nat) (c : Int) (τ : MO) (w' : zi_W) (x5 : Option Value), c + j = gAll G → 0 ≤ c → moA w' G τ.2.1 τ.2.2 → igI r n τ0 τ → zF moS w w' → R = igC G r l j c τ → igW L xs d q 10 r l w' cn sn Q τ.1 c x5 := by
  have hd0 := hd
  obtain ⟨d, rfl⟩ : ∃ e, d = e + 1 := ⟨d - 1, by omega⟩
  have hA := gAll_rng hG
  intro j
  induction j with
  | zero =>
    intro c τ w' x5 h1 h2 hm hI hF he
    have m0 := hm.1
    have hb := hI.1.2.2.2.1
    refine zw_iload z127_10 rfl ?_
    refine zw_aload_n z127_12 rfl ?_
    refine zw_vv (n := 1) z127_13 rfl rfl (by assumption) (Nat.le_of_ble_eq_true rfl) (by omega) (sp_mAll hm) ?_
    refine zj_icmp_ge z127_16 (by omega) (by omega) (fun h6 => ?_) (fun h6 => ?_)
    · have he : R = τ := he
      subst he
      refine zw_iload_n z127_69 rfl ?_
      exact zj_bret z127_70 rfl hb (kk w' hm hI hF)
    · exfalso; omega
  | succ j ih =>
    intro c τ w' x5 h1 h2 hm hI hF he
    have m0 := hm.1
    have hb := hI.1.2.2.2.1
    have he : R = if τ.1 = 0 then igC G r l j (c + 1) (igT G r l c (gAll G + 3).toNat 1 τ) else τ := he
    have hf : (((gAll G + 3).toNat : Nat) : Int) = onF G 1 := by unfold onF; rw [if_pos (by omega)]; omega
    refine zw_iload z127_10 rfl ?_
    refine zw_aload_n z127_12 rfl ?_
    refine zw_vv (n := 1) z127_13 rfl rfl (by assumption) (Nat.le_of_ble_eq_true rfl) (by omega) (sp_mAll hm) ?_
    refine zj_icmp_ge z127_16 (by omega) (by omega) (fun h6 => ?_) (fun h6 => ?_)
    · exfalso; omega
    refine zw_iload_n z127_19 rfl ?_
    refine zj_if_ne z127_20 (by omega) (fun h7 => ?_) (fun h7 => ?_)
    · rw [if_neg h7] at he
      subst he
      refine zw_iload_n z127_69 rfl ?_
      exact zj_bret z127_70 rfl hb (kk w' hm hI hF)
    rw [if_pos (by omega)] at he
    refine zw_iconst z127_23 (v := iI 1) rfl ?_
    refine zw_istore z127_24 rfl ?_
    refine lp_igT (w := w') (τ0 := τ0) (R := igT G r l c (gAll G + 3).toNat 1 τ) hG hn (by omega) hl h5 hd0 hq (fun w1 x5 hm1 f1 => ?_) (gAll G + 3).toNat 1 τ w' hf (by unfold onW; omega) hm hI zF.rf rfl
    refine zj_iinc z127_63 rfl rfl ?_
    refine zw_goto z127_66 ?_
    exact ih (c + 1) _ w1 _ (by omega) (by omega) hm1 (igI.all hG _ _ _ hI (by unfold onW; omega) hf) (hF.trans f1) he
abbrev ig (G : Nat → Int) (r : Nat) (l : Int) (N : Nat → Int) (A : Nat → Nat → Int) : MO := igC G r l (gAll G).toNat 0 (sp0 G r 0 N A)
theorem sp_mIsGood {x0 : Int} (hm : moA w G N A) (hG : gmV G) (hn : n ≤ 200) (hV : msV N A) (hr : (r : Int) < N 4 ∧ N 4 ≤ n) (h6 : N 6 = 0 ∨ N 6 = 1) (h7 : N 7 = 0 ∨ N 7 = 1) (hl : 0 ≤ l ∧ l ≤ 205) (h5 : 0 ≤ N 5 ∧ N 5 ≤ 205) (hd : 4 ≤ d) (hq : 93 ≤ q) : zr L xs d q 127 [.ref 817, iV r, iV l] w cn sn (fun v w' cn' sn' => mRO w cn sn G (ig G r l N A) v w' cn' sn' ∧ igI r n (x0, N, A) (ig G r l N A)) := by
  have hd0 := hd
  obtain ⟨d, rfl⟩ : ∃ e, d = e + 1 := ⟨d - 1, by omega⟩
  have hA := gAll_rng hG
  have m0 := hm.1
  refine ⟨_, rfl, ?_⟩
  show zw _ _ _ _ 127 0 [some (.ref 817), some (iV r), some (iV l), none, none, none] [] _ _ _ _
  refine zw_iconst z127_0 (v := iI 0) rfl ?_
  refine zw_istore_n z127_1 rfl ?_
  refine zw_aload_n z127_2 rfl ?_
  refine zw_iload_n z127_3 rfl ?_
  refine zw_cv (n := 4) z127_4 rfl rfl m0 (Nat.le_of_ble_eq_true rfl) (by omega) (sp_mRegard hm hG hV.1 (by omega) (by omega) (by omega)) (fun v w1 cn1 sn1 h => ?_)
  obtain ⟨rfl, rfl, rfl, hm1, f1⟩ := h
  refine zw_iconst z127_7 (v := iI 0) rfl ?_
  refine zw_istore z127_8 rfl ?_
  exact lp_igC (w := w) (τ0 := (x0, N, A)) (n := n) (R := ig G r l N A) hG hn hl h5 hd0 hq (fun w2 hm2 hI2 f2 => ⟨_, rfl, ⟨rfl, rfl, rfl, hm2, f2⟩, hI2⟩) (gAll G).toNat 0 (sp0 G r 0 N A) w1 none (by omega) (by omega) hm1 ⟨⟨rg_V hG hV, hr, h6, Or.inl rfl, h7⟩, kp_rg⟩ f1 rfl
end ZMX
