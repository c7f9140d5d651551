/-! The class Search: expand. (Laid out by gen/tpl.py from tpl/51.expand.tpl.) -/
/-- what must hold of a layout so that its moves can be carried out -/
def okL (G : Nat → Int) (Y : Nat → Nat → Int) : Prop := ∀ z y : Int, 0 ≤ z ∧ z < 12 → 0 ≤ y ∧ y ≤ 12 → lOne G (Y 1) (Y 2) z y → (z < 8 → -1 ≤ Y 0 (Y 1 z.toNat).toNat) ∧ (y = 12 → Y 2 (gSuit G (Y 1 z.toNat)).toNat ≤ 12 ∧ Y 3 1 ≤ 51)
abbrev seT (w : zi_W) (σ : SS) : Prop := seA w σ.1 σ.2.1 σ.2.2
abbrev seU (σ : SS) : Prop := seV σ.1 σ.2.1 σ.2.2
theorem fU_all {α : Type} {P : α → Prop} {f : Nat → α} {n : Nat} {v : α} (hf : ∀ j, P (f j)) (hv : P v) : ∀ j, P (fU f n v j) := by
  intro j
  unfold fU
  split
  · exact hv
  · exact hf j
theorem iU_all {P : Int → Prop} {f : Nat → Int} {n : Nat} {v : Int} (hf : ∀ j, P (f j)) (hv : P v) : ∀ j, P (iU f n v j) := by
  intro j
  unfold iU
  split
  · exact hv
  · exact hf j
section ZEX
variable {G : Nat → Int} {Y : Nat → Nat → Int} {σ : SS} {n : Nat} {c z y : Int}
theorem cY_V (hY : lyW Y) (hz : 0 ≤ z ∧ z < 12) (hc : 0 ≤ c ∧ c ≤ 51) (h1 : z < 8 → -1 ≤ Y 0 c.toNat) (h2 : y = 12 → Y 2 (gSuit G c).toNat ≤ 12 ∧ Y 3 1 ≤ 51) : lyW (cY G Y c z y) := by
  obtain ⟨a1, a2, a3, a4, a5⟩ := hY
  refine ⟨?_, ?_, ?_, a4, ?_⟩
  · refine iU_rng a1 ?_
    have := a2 y.toNat
    unfold lGrd
    split
    · omega
    · split <;> omega
  · show ∀ j, -1 ≤ cT (Y 0) (Y 1) c z y j ∧ cT (Y 0) (Y 1) c z y j ≤ 51
    have b1 := a1 c.toNat
    have b2 := a2 z.toNat
    have k1 : ∀ j, -1 ≤ iU (Y 1) z.toNat (if 8 ≤ z then -1 else Y 0 c.toNat) j ∧ iU (Y 1) z.toNat (if 8 ≤ z then -1 else Y 0 c.toNat) j ≤ 51 := iU_rng a2 (by split <;> omega)
    unfold cT
    split
    · split
      · exact a2
      · exact k1
    · split
      · exact iU_rng a2 (by omega)
      · exact iU_rng k1 (by omega)
  · show ∀ j, 0 ≤ cH G (Y 2) c z y j ∧ cH G (Y 2) c z y j ≤ 13
    have b3 := a3 (gSuit G c).toNat
    unfold cH
    split
    · omega
    · split
      · exact iU_rng a3 (by have := h2 (by omega); omega)
      · exact a3
  · show 0 ≤ cA (Y 3 1) z y ∧ cA (Y 3 1) z y ≤ 52
    unfold cA
    split
    · omega
    · split
      · have := h2 (by omega); omega
      · exact a5
theorem rc_V (hG : gmV G) (hV : seU σ) (hn : (n : Int) < σ.1 1) (hz : 0 ≤ z ∧ z < 12) (hy : 0 ≤ y ∧ y ≤ 12) (hc : 0 ≤ rCd σ.2.2 n z) (hb : z < 8 → -1 ≤ σ.2.2 n 0 (rCd σ.2.2 n z).toNat) (hh : y = 12 → σ.2.2 n 2 (gSuit G (rCd σ.2.2 n z)).toNat ≤ 12 ∧ σ.2.2 n 3 1 ≤ 51) : seU (rc G σ n z y) := by
  obtain ⟨N, A, F⟩ := σ
  have hV0 := hV
  obtain ⟨v0, v1, v2, v3, v4, v5, v6, v7, v8⟩ := hV
  dsimp only at v0 v1 v2 v3 v4 v5 v6 v7 v8 hn hc hb hh
  have hst : 0 ≤ rSt A n z y ∧ rSt A n z y ≤ 300 := by
    have := v6 n
    unfold rSt
    split <;> omega
  by_cases h1 : y = 12 ∧ F n 3 1 + 1 = gAll G
  · rw [rc_1 h1]
    exact ⟨v0, v1, v2, by show -1 ≤ rSt A n z y ∧ rSt A n z y ≤ 300; omega, v4, v5, v6, v7, v8⟩
  by_cases h2 : N 2 = 1
  · rw [rc_2 h1 h2]; exact hV0
  by_cases h3 : A 2 (rSl G A F n z y).toNat ≠ 0
  · rw [rc_3 h1 h2 h3]; exact hV0
  by_cases h4 : N 0 ≤ N 1
  · rw [rc_4 h1 h2 h3 h4]
    exact ⟨v0, v1, Or.inr rfl, v3, v4, v5, v6, v7, v8⟩
  rw [rc_5 h1 h2 h3 h4]
  have hcd : 0 ≤ rCd F n z ∧ rCd F n z ≤ 51 := ⟨hc, ((v8 n).2.1 _).2⟩
  have hss := gSuit_rng (c := rCd F n z) hG
  refine ⟨v0, ⟨by show 1 ≤ N 1 + 1; omega, by show N 1 + 1 ≤ N 0; omega⟩, v2, v3, v4, iU_all v5 (nm_rng _), iU_rng v6 hst, iU_rng v7 (by show 0 ≤ N 1 + 1 ∧ N 1 + 1 ≤ 200; omega), fU_all v8 (cY_V (yCp_V (v8 n) (v8 _)) hz hcd (fun q => ?_) (fun q => ?_))⟩
  · show -1 ≤ yCp (F n) (F (N 1).toNat) 0 (rCd F n z).toNat
    rw [show yCp (F n) (F (N 1).toNat) 0 (rCd F n z).toNat = _ from iCp_lt (by omega)]
    exact hb q
  · show yCp (F n) (F (N 1).toNat) 2 (gSuit G (rCd F n z)).toNat ≤ 12 ∧ _
    rw [show yCp (F n) (F (N 1).toNat) 2 (gSuit G (rCd F n z)).toNat = _ from iCp_lt (by omega)]
    exact hh q
/-- what reach leaves: fuel, the positions found before, their steps and hashes; the count doesn't fall -/
theorem rc_keep (hV : seU σ) : (rc G σ n z y).1 0 = σ.1 0 ∧ (rc G σ n z y).1 4 = σ.1 4 ∧ σ.1 1 ≤ (rc G σ n z y).1 1 ∧ ∀ j : Nat, (j : Int) < σ.1 1 → (rc G σ n z y).2.2 j = σ.2.2 j ∧ (rc G σ n z y).2.1 1 j = σ.2.1 1 j ∧ (rc G σ n z y).2.1 0 j = σ.2.1 0 j := by
  obtain ⟨N, A, F⟩ := σ
  obtain ⟨v0, v1, -⟩ := hV
  dsimp only at v0 v1
  by_cases h1 : y = 12 ∧ F n 3 1 + 1 = gAll G
  · rw [rc_1 h1]; exact ⟨rfl, rfl, Int.le_refl _, fun j _ => ⟨rfl, rfl, rfl⟩⟩
  by_cases h2 : N 2 = 1
  · rw [rc_2 h1 h2]; exact ⟨rfl, rfl, Int.le_refl _, fun j _ => ⟨rfl, rfl, rfl⟩⟩
  by_cases h3 : A 2 (rSl G A F n z y).toNat ≠ 0
  · rw [rc_3 h1 h2 h3]; exact ⟨rfl, rfl, Int.le_refl _, fun j _ => ⟨rfl, rfl, rfl⟩⟩
  by_cases h4 : N 0 ≤ N 1
  · rw [rc_4 h1 h2 h3 h4]; exact ⟨rfl, rfl, Int.le_refl _, fun j _ => ⟨rfl, rfl, rfl⟩⟩
  rw [rc_5 h1 h2 h3 h4]
  refine ⟨rfl, rfl, by show N 1 ≤ N 1 + 1; omega, fun j hj => ?_⟩
  have hj : (j : Int) < N 1 := hj
  exact ⟨fU_ne _ _ (by show j ≠ (N 1).toNat; omega), iU_ne _ _ (by show j ≠ (N 1).toNat; omega), iU_ne _ _ (by show j ≠ (N 1).toNat; omega)⟩
/-- one target, all targets, all sources -/
def exO (G : Nat → Int) (n : Nat) (z y : Int) (σ : SS) : SS := if lOne G (σ.2.2 n 1) (σ.2.2 n 2) z y then rc G σ n z y else σ
def exT (G : Nat → Int) (n : Nat) (z : Int) : Nat → Int → SS → SS
  | 0, _, σ => σ
  | k + 1, y, σ => exT G n z k (y + 1) (exO G n z y σ)
def exF (G : Nat → Int) (n : Nat) : Nat → Int → SS → SS
  | 0, _, σ => σ
  | k + 1, z, σ => exF G n k (z + 1) (exT G n z 13 0 σ)
/-- what holds between the states of one expansion -/
def exI (G : Nat → Int) (n : Nat) (σ0 σ : SS) : Prop := seU σ ∧ (n : Int) < σ.1 1 ∧ okL G (σ.2.2 n) ∧ σ.1 0 = σ0.1 0 ∧ σ.1 4 = σ0.1 4 ∧ σ0.1 1 ≤ σ.1 1 ∧ ∀ j : Nat, (j : Int) < σ0.1 1 → σ.2.2 j = σ0.2.2 j ∧ σ.2.1 1 j = σ0.2.1 1 j ∧ σ.2.1 0 j = σ0.2.1 0 j
theorem exI.rf {σ : SS} (hV : seU σ) (hn : (n : Int) < σ.1 1) (hO : okL G (σ.2.2 n)) : exI G n σ σ := ⟨hV, hn, hO, rfl, rfl, Int.le_refl _, fun _ _ => ⟨rfl, rfl, rfl⟩⟩
theorem exI.one {σ0 σ : SS} (hG : gmV G) (h : exI G n σ0 σ) (hz : 0 ≤ z ∧ z < 12) (hy : 0 ≤ y ∧ y ≤ 12) : exI G n σ0 (exO G n z y σ) := by
  unfold exO
  split
  · rename_i h1
    obtain ⟨a1, a2, a3, a4, a5, a6, a7⟩ := h
    obtain ⟨b1, b2⟩ := a3 z y hz hy h1
    have hc : 0 ≤ rCd σ.2.2 n z := by
      have := ((a1.2.2.2.2.2.2.2.2 n).2.1 z.toNat).1
      have h2 := h1.1
      show 0 ≤ σ.2.2 n 1 z.toNat
      omega
    obtain ⟨k1, k2, k3, k4⟩ := rc_keep (G := G) (n := n) (z := z) (y := y) a1
    refine ⟨rc_V hG a1 a2 hz hy hc b1 b2, by omega, ?_, k1.trans a4, k2.trans a5, by omega, fun j hj => ?_⟩
    · rw [(k4 n a2).1]; exact a3
    · obtain ⟨c1, c2, c3⟩ := k4 j (by omega)
      obtain ⟨d1, d2, d3⟩ := a7 j hj
      exact ⟨c1.trans d1, c2.trans d2, c3.trans d3⟩
  · exact h
theorem exI.all {σ0 : SS} (hG : gmV G) (hz : 0 ≤ z ∧ z < 12) : ∀ (k : Nat) (y : Int) (σ : SS), exI G n σ0 σ → 0 ≤ y → y + k ≤ 13 → exI G n σ0 (exT G n z k y σ) := by
  intro k
  induction k with
  | zero => intro y σ h _ _; exact h
  | succ k ih => intro y σ h h1 h2; exact ih _ _ (h.one hG hz (by omega)) (by omega) (by omega)
theorem exI.every {σ0 : SS} (hG : gmV G) : ∀ (k : Nat) (z : Int) (σ : SS), exI G n σ0 σ → 0 ≤ z → z + k ≤ 12 → exI G n σ0 (exF G n k z σ) := by
  intro k
  induction k with
  | zero => intro z σ h _ _; exact h
  | succ k ih => intro z σ h h1 h2; exact ih _ _ (exI.all (z := z) hG (by omega) 13 0 σ h (by omega) (by omega)) (by omega) (by omega)
end ZEX
section ZEY
variable {L : Nat} {xs : Nat → Int32} {d q : Nat} {w : zi_W} {cn sn : Nat} {Q : zi_O → zi_W → Nat → Nat → Prop} {G : Nat → Int} {σ0 : SS} {n : Nat} {z : Int}
abbrev exW (L : Nat) (xs : Nat → Int32) (d q pc n : Nat) (w : zi_W) (cn sn : Nat) (Q : zi_O → zi_W → Nat → Nat → Prop) (z : Int) (x4 : Option Value) : Prop := zw L xs d q 70 pc [some (.ref 11), some (iV n), some (.ref (16 + 4 * n)), some (iV z), x4] [] w cn sn Q
theorem lp_exT (hG : gmV G) (hz : 0 ≤ z ∧ z < 12) (hd : 4 ≤ d) (hq : 103 ≤ q) (kk : ∀ (w' : zi_W) (σ : SS) (x4 : Option Value), gmA w' 1 G → seT w' σ → exI G n σ0 σ → zF seS w w' → σ = exT G n z 13 0 σ0 → exW L xs d q 49 n w' cn sn Q z x4) : ∀ (k : Nat) (y : Int) (σ : SS) (w' : zi_W), y + k = 13 → 0 ≤ y → gmA w' 1 G → seT w' σ → exI G n σ0 σ → zF seS w w' → exT G n z 13 0 σ0 = exT G n z k y σ → exW L xs d q 18 n w' cn sn Q z (some (iV y)) := by
  obtain ⟨d, rfl⟩ : ∃ e, d = e + 1 := ⟨d - 1, by omega⟩
  intro k
  induction k with
  | zero =>
    intro y σ w' h1 h2 hg hs hI hF he
    refine zw_iload z70_18 rfl ?_
    refine zw_bipush z70_20 (v := iI (12)) (by decide +kernel) ?_
    refine zj_icmp_gt z70_22 (by omega) (by omega) (fun h22 => ?_) (fun h22 => ?_)
    · exact kk w' σ _ hg hs hI hF he.symm
    · exfalso; omega
  | succ k ih =>
    intro y σ w' h1 h2 hg hs hI hF he
    have hI0 := hI
    obtain ⟨a1, a2, a3, a4, a5, a6, a7⟩ := hI
    have hN0 := a1.1
    have hN1 := a1.2.1
    have hyn := hs.2 n (by omega)
    have y0 := hyn.1
    have hV2 := ((a1.2.2.2.2.2.2.2.2 n).2.1 z.toNat).1
    have s0 := hs.1.1
    refine zw_iload z70_18 rfl ?_
    refine zw_bipush z70_20 (v := iI (12)) (by decide +kernel) ?_
    refine zj_icmp_gt z70_22 (by omega) (by omega) (fun h22 => ?_) (fun h22 => ?_)
    · exfalso; omega
    refine zw_aload_n z70_25 rfl ?_
    refine zw_iload_n z70_26 rfl ?_
    refine zw_iload z70_27 rfl ?_
    refine zw_vv (n := 4) z70_29 rfl rfl (by assumption) (Nat.le_of_ble_eq_true rfl) (by omega) (sp_allowsOne hg hG hyn (a1.2.2.2.2.2.2.2.2 n) hz (by omega) (by omega) (by omega)) ?_
    refine zj_b_eq z70_32 (fun h32 => ?_) (fun h32 => ?_)
    · refine zj_iinc z70_43 rfl rfl ?_
      refine zw_goto z70_46 ?_
      exact ih (y + 1) σ w' (by omega) (by omega) hg hs hI0 hF (by rw [he]; show exT G n z k (y + 1) (exO G n z y σ) = _; rw [show exO G n z y σ = σ from if_neg h32])
    · obtain ⟨b1, b2⟩ := a3 z y hz (by omega) h32
      have hc : 0 ≤ rCd σ.2.2 n z := by
        have h2 := h32.1
        show 0 ≤ σ.2.2 n 1 z.toNat
        omega
      refine zw_aload_n z70_35 rfl ?_
      refine zw_iload_n z70_36 rfl ?_
      refine zw_iload_n z70_37 rfl ?_
      refine zw_iload z70_38 rfl ?_
      refine zw_cv (n := 10) z70_40 rfl rfl s0 (Nat.le_of_ble_eq_true rfl) (by omega) (sp_reach hg hG hs a1 a2 hz (by omega) hc b1 (fun q => (b2 q).1) (by omega) (by omega)) (fun v w1 cn1 sn1 h => ?_)
      obtain ⟨rfl, rfl, rfl, hs1, hF1⟩ := h
      refine zj_iinc z70_43 rfl rfl ?_
      refine zw_goto z70_46 ?_
      exact ih (y + 1) (exO G n z y σ) w1 (by omega) (by omega) ((hF1.2 1 (by omega)).trans hg) (by rw [show exO G n z y σ = rc G σ n z y from if_pos h32]; exact hs1) (hI0.one hG hz (by omega)) (hF.trans hF1) (by rw [he]; rfl)
theorem lp_exF (hG : gmV G) (hd : 4 ≤ d) (hq : 103 ≤ q) (kk : ∀ (w' : zi_W), gmA w' 1 G → seT w' (exF G n 12 0 σ0) → exI G n σ0 (exF G n 12 0 σ0) → zF seS w w' → Q (.inl none) w' cn sn) : ∀ (k : Nat) (z : Int) (σ : SS) (w' : zi_W) (x4 : Option Value), z + k = 12 → 0 ≤ z → gmA w' 1 G → seT w' σ → exI G n σ0 σ → zF seS w w' → exF G n 12 0 σ0 = exF G n k z σ → exW L xs d q 9 n w' cn sn Q z x4 := by
  intro k
  induction k with
  | zero =>
    intro z σ w' x4 h1 h2 hg hs hI hF he
    refine zw_iload_n z70_9 rfl ?_
    refine zw_bipush z70_10 (v := iI (12)) (by decide +kernel) ?_
    refine zj_icmp_ge z70_12 (by omega) (by omega) (fun h12 => ?_) (fun h12 => ?_)
    · refine zw_vret z70_55 rfl ?_
      have he : exF G n 12 0 σ0 = σ := he
      exact kk w' hg (by rw [he]; exact hs) (by rw [he]; exact hI) hF
    · exfalso; omega
  | succ k ih =>
    intro z σ w' x4 h1 h2 hg hs hI hF he
    refine zw_iload_n z70_9 rfl ?_
    refine zw_bipush z70_10 (v := iI (12)) (by decide +kernel) ?_
    refine zj_icmp_ge z70_12 (by omega) (by omega) (fun h12 => ?_) (fun h12 => ?_)
    · exfalso; omega
    refine zw_iconst z70_15 (v := iI 0) rfl ?_
    refine zw_istore z70_16 rfl ?_
    obtain ⟨a1, a2, a3, a4, a5, a6, a7⟩ := hI
    refine lp_exT (w := w') (σ0 := σ) hG (by omega) hd hq (fun w2 σ2 x5 hg2 hs2 hI2 hF2 he2 => ?_) 13 0 σ w' (by omega) (by omega) hg hs (exI.rf a1 a2 a3) zF.rf rfl
    refine zj_iinc z70_49 rfl rfl ?_
    refine zw_goto z70_52 ?_
    obtain ⟨c1, c2, c3, c4, c5, c6, c7⟩ := hI2
    exact ih (z + 1) σ2 w2 x5 (by omega) (by omega) hg2 hs2 ⟨c1, c2, c3, c4.trans a4, c5.trans a5, by omega, fun j hj => by
      obtain ⟨e1, e2, e3⟩ := c7 j (by omega)
      obtain ⟨f1, f2, f3⟩ := a7 j hj
      exact ⟨e1.trans f1, e2.trans f2, e3.trans f3⟩⟩ (hF.trans hF2) (by rw [he, he2]; rfl)
theorem sp_expand (hg : gmA w 1 G) (hG : gmV G) (hs : seT w σ0) (hV : seU σ0) (hn : (n : Int) < σ0.1 1) (hO : okL G (σ0.2.2 n)) (hd : 4 ≤ d) (hq : 103 ≤ q) : zr L xs d q 70 [.ref 11, iV n] w cn sn (fun r w' cn' sn' => r = none ∧ cn' = cn ∧ sn' = sn ∧ gmA w' 1 G ∧ seT w' (exF G n 12 0 σ0) ∧ exI G n σ0 (exF G n 12 0 σ0) ∧ zF seS w w') := by
  have s0 := hs.1.1
  have hN0 := hV.1
  have hN1 := hV.2.1
  refine ⟨_, rfl, ?_⟩
  show zw _ _ _ _ 70 0 [some (.ref 11), some (iV n), none, none, none] [] _ _ _ _
  refine zw_aload_n z70_0 rfl ?_
  refine zw_getf z70_1 (by assumption) (by rfl) ?_
  refine zw_iload_n z70_4 rfl ?_
  refine zj_ald3 z70_5 hs.1.2.1 (by omega) (by decide) (v := 16 + 4 * n) (zfd_at (by omega) (by omega)) ?_
  refine zw_astore_n z70_6 rfl ?_
  refine zw_iconst z70_7 (v := iI 0) rfl ?_
  refine zw_istore_n z70_8 rfl ?_
  exact lp_exF hG hd hq (fun w' g1 g2 g3 g4 => ⟨_, rfl, rfl, rfl, rfl, g1, g2, g3, g4⟩) 12 0 σ0 w none (by omega) (by omega) hg hs (exI.rf hV hn hO) zF.rf rfl
end ZEY
