/-! The reference's search: spread. (Laid out by gen/tpl.py from tpl/69.msearch.tpl.) -/
section ZMU
variable {L : Nat} {xs : Nat → Int32} {d q : Nat} {w w' : zi_W} {cn sn : Nat} {Q : zi_O → zi_W → Nat → Nat → Prop} {G N : Nat → Int} {A : Nat → Nat → Int} {z y m c o a b e k u n l : Int} {r ct : Nat} {τ τ0 : MO}
abbrev sCt (τ : MO) : Nat := (τ.2.1 4).toNat
abbrev sW (τ : MO) (r : Nat) (c o : Int) : Int := tnW (tnV (τ.2.2 7) r c o) 52
abbrev sTn (τ : MO) (r : Nat) (c o : Int) : Nat := tn τ.2.2 r (sCt τ) c o
/-- the new row is tried -/
def sTr (τ : MO) (r : Nat) (c o : Int) : MO := (τ.1, tnN τ.2.1 τ.2.2 r c o, tnA τ.2.2 r (sCt τ) c o)
def sNw (n x : Int) (τ : MO) : MO := (if τ.1 = 0 ∧ x = 0 then 0 else 1, iU (iU τ.2.1 6 (if τ.2.1 6 = 0 ∧ τ.2.1 4 < n then 0 else 1)) 4 (if τ.2.1 4 < n then τ.2.1 4 + 1 else τ.2.1 4), fU τ.2.2 9 (iU (τ.2.2 9) (sCt τ) 0))
def spO (G : Nat → Int) (r : Nat) (n c o : Int) (τ : MO) : MO := if mMl G τ.2.1 τ.2.2 r c o then (if sTn τ r c o = sCt τ then sNw n (sW τ r c o) (sTr τ r c o) else sTr τ r c o) else τ
def spT (G : Nat → Int) (r : Nat) (n c : Int) : Nat → Int → MO → MO
  | 0, _, τ => τ
  | j + 1, o, τ => spT G r n c j (mAf o) (spO G r n c o τ)
abbrev onF (G : Nat → Int) (o : Int) : Int := if o < 10 then gAll G + 4 - o else 10 + gAll G - o
abbrev onW (G : Nat → Int) (o : Int) : Prop := (1 ≤ o ∧ o ≤ 3) ∨ (10 ≤ o ∧ o ≤ 10 + gAll G)
def spC (G : Nat → Int) (r : Nat) (n : Int) : Nat → Int → MO → MO
  | 0, _, τ => τ
  | j + 1, c, τ => spC G r n j (c + 1) (spT G r n c (gAll G + 3).toNat 1 τ)
abbrev sp0 (G : Nat → Int) (r : Nat) (x : Int) (N : Nat → Int) (A : Nat → Nat → Int) : MO := (x, rgN N (rg G A r), rgA A (rg G A r))
def spI (r : Nat) (n : Int) (τ : MO) : Prop := msV τ.2.1 τ.2.2 ∧ ((r : Int) < τ.2.1 4 ∧ τ.2.1 4 ≤ n) ∧ (τ.2.1 6 = 0 ∨ τ.2.1 6 = 1) ∧ (τ.1 = 0 ∨ τ.1 = 1) ∧ (τ.2.1 7 = 0 ∨ τ.2.1 7 = 1)
theorem onF_s (hG : gmV G) (h : onW G o) : onF G (mAf o) = onF G o - 1 ∧ (0 < onF G o → onW G (mAf o) ∧ onR G o) ∧ 0 ≤ onF G o := by
  have hA := gAll_rng hG
  unfold onF mAf
  by_cases h3 : o = 3
  · rw [if_pos h3, if_neg (by omega), if_pos (by omega)]; unfold onW onR; omega
  · rw [if_neg h3]
    by_cases h9 : o < 10
    · rw [if_pos h9, if_pos (by omega)]; unfold onW onR; omega
    · rw [if_neg h9, if_neg (by omega)]; unfold onW onR; omega
theorem sTr_N (τ : MO) (r : Nat) (c o : Int) : (sTr τ r c o).2.1 = tnN τ.2.1 τ.2.2 r c o := by
  unfold sTr
  rfl
theorem sTr_7 (τ : MO) (r : Nat) (c o : Int) : (sTr τ r c o).2.1 7 = sW τ r c o := by
  rw [sTr_N]
  exact iU_same _ _ _
theorem sTr_V {A : Nat → Nat → Int} {o : Int} (hV : ∀ j, 0 ≤ A 7 j ∧ A 7 j ≤ 61) (ho : 0 ≤ o ∧ o ≤ 61) : ∀ j, 0 ≤ tnF A r ct c o j ∧ tnF A r ct c o j ≤ 61 := by
  intro j
  unfold tnF tnR tnV
  have g1 := hV j
  have g2 := hV (52 * r + (j - 52 * ct))
  split
  · split <;> omega
  · exact g1
theorem spI.tr (h : spI r n τ) (ho : 0 ≤ o ∧ o ≤ 61) : spI r n (sTr τ r c o) := by
  obtain ⟨⟨s7, s8, s9, s10, s11, s12, t8, t9⟩, h2, h3, h4, h5⟩ := h
  exact ⟨⟨sTr_V s7 ho, iU_all s8 (smO_rng _ _ _ (by decide)), s9, s10, s11, s12, t8, t9⟩, h2, h3, h4, by
    rw [sTr_7]
    exact tnW_b _⟩
theorem spI.nw {x : Int} (h : spI r n τ) : spI r n (sNw n x τ) := by
  obtain ⟨⟨s7, s8, s9, s10, s11, s12, t8, t9⟩, h2, h3, h4, h5⟩ := h
  refine ⟨⟨s7, s8, iU_rng s9 (by omega), s10, s11, s12, t8, t9⟩, ?_, ?_, ?_, h5⟩
  · show (r : Int) < (if τ.2.1 4 < n then τ.2.1 4 + 1 else τ.2.1 4) ∧ (if τ.2.1 4 < n then τ.2.1 4 + 1 else τ.2.1 4) ≤ n
    split <;> omega
  · show (if τ.2.1 6 = 0 ∧ τ.2.1 4 < n then (0 : Int) else 1) = 0 ∨ (if τ.2.1 6 = 0 ∧ τ.2.1 4 < n then (0 : Int) else 1) = 1
    split <;> omega
  · show (if τ.1 = 0 ∧ x = 0 then (0 : Int) else 1) = 0 ∨ (if τ.1 = 0 ∧ x = 0 then (0 : Int) else 1) = 1
    split <;> omega
theorem spI.one (h : spI r n τ) (ho : 0 ≤ o ∧ o ≤ 61) : spI r n (spO G r n c o τ) := by
  unfold spO
  split
  · split
    · exact (h.tr ho).nw
    · exact h.tr ho
  · exact h
theorem spI.all (hG : gmV G) : ∀ (j : Nat) (o : Int) (τ : MO), spI r n τ → onW G o → (j : Int) = onF G o → spI r n (spT G r n c j o τ) := by
  intro j
  induction j with
  | zero => intro o τ h _ _; exact h
  | succ j ih =>
    intro o τ h h1 h2
    have hA := gAll_rng hG
    have h3 := onF_s hG h1
    have h4 := h3.2.1 (by omega)
    exact ih _ _ (h.one (by have := h4.2; omega)) h4.1 (by omega)
/-- spread, one card on one thing -/
abbrev spW (L : Nat) (xs : Nat → Int32) (d q pc r : Nat) (n : Int) (w : zi_W) (cn sn : Nat) (Q : zi_O → zi_W → Nat → Nat → Prop) (x c : Int) (x5 : Option Value) : Prop := zw L xs d q 125 pc [some (.ref 817), some (iV r), some (iV n), some (iV x), some (iV c), x5] [] w cn sn Q
theorem sp_spO (hG : gmV G) (hm : moA w G τ.2.1 τ.2.2) (hI : spI r n τ) (hn : n ≤ 200) (hc : 0 ≤ c ∧ c < gAll G) (ho : onR G o) (hd : 3 ≤ d) (hq : 68 ≤ q) (kk : ∀ w', moA w' G (spO G r n c o τ).2.1 (spO G r n c o τ).2.2 → zF moS w w' → spW L xs d q 138 r n w' cn sn Q (spO G r n c o τ).1 c (some (iV o))) : spW L xs d q 34 r n w cn sn Q τ.1 c (some (iV o)) := by
  obtain ⟨d, rfl⟩ : ∃ e, d = e + 1 := ⟨d - 1, by omega⟩
  have hA := gAll_rng hG
  have hI0 := hI
  obtain ⟨hV, h2, h3, h4, h5⟩ := hI
  have m0 := hm.1
  have ho1 : 0 ≤ o ∧ o ≤ 61 := by omega
  refine zw_aload_n z125_34 rfl ?_
  refine zw_iload_n z125_35 rfl ?_
  refine zw_iload z125_36 rfl ?_
  refine zw_iload z125_38 rfl ?_
  refine zw_vv (n := 6) z125_40 rfl rfl (by assumption) (Nat.le_of_ble_eq_true rfl) (by omega) (sp_mMayLie hm hG hV (by omega) hc ho (by omega) (by omega)) ?_
  refine zj_b_eq z125_43 (fun g1 => ?_) (fun g1 => ?_)
  · rw [show spO G r n c o τ = τ from if_neg g1] at kk
    exact kk w hm zF.rf
  rw [show spO G r n c o τ = _ from if_pos g1] at kk
  have hct : τ.2.1 4 = ((sCt τ : Nat) : Int) := by unfold sCt; omega
  refine zw_aload_n z125_46 rfl ?_
  refine zw_iload_n z125_47 rfl ?_
  refine zw_iload z125_48 rfl ?_
  refine zw_iload z125_50 rfl ?_
  refine zw_cv (n := 7) z125_52 rfl rfl m0 (Nat.le_of_ble_eq_true rfl) (by omega) (sp_mTried (ct := sCt τ) hm hV.1 hV.2.1 (by omega) (by omega) (by omega) ho1 hct (by omega) (by omega)) (fun v w1 cn1 sn1 h => ?_)
  obtain ⟨rfl, rfl, rfl, hm1, f1⟩ := h
  replace hm1 : moA w1 G (sTr τ r c o).2.1 (sTr τ r c o).2.2 := hm1
  have hI1 := hI0.tr (c := c) ho1
  have e4 : (sTr τ r c o).2.1 4 = τ.2.1 4 := rfl
  have e7 := sTr_7 τ r c o
  have e1 : (sTr τ r c o).1 = τ.1 := rfl
  have hle := tnI_le (f := tnF τ.2.2 r (sCt τ) c o) (S := tnS τ.2.2 r (sCt τ) c o) (ct := sCt τ) (n := 52) (sCt τ) 0
  have ht : tnI (tnF τ.2.2 r (sCt τ) c o) (tnS τ.2.2 r (sCt τ) c o) (sCt τ) 52 (sCt τ) 0 = sTn τ r c o := rfl
  rw [ht] at hle
  rw [show tn τ.2.2 r (sCt τ) c o = sTn τ r c o from rfl]
  have ec : sCt (sTr τ r c o) = sCt τ := rfl
  generalize sTr τ r c o = σ at *
  generalize sTn τ r c o = t at *
  generalize sW τ r c o = x at *
  obtain ⟨hV1, i2, i3, i4, i5⟩ := hI1
  rw [← e1]
  generalize τ.1 = t1 at *
  have m1 := hm1.1
  refine zw_aload_n z125_55 rfl ?_
  refine zw_getf z125_56 (by assumption) (by rfl) ?_
  rw [e4, hct]
  generalize hcn : sCt τ = kt at *
  refine zj_icmp_ne z125_59 (by omega) (by omega) (fun g2 => ?_) (fun g2 => ?_)
  · rw [if_neg (by omega)] at kk
    exact kk w1 hm1 f1
  rw [if_pos (by omega)] at kk
  have a9 : zi_get w1 827 = some (.inl (1, 202, .inl (iA (σ.2.2 9)))) := hm1.2.2.2.2.2.2.2.2.2.2.1
  have k78 : ∀ x1, x1 = (if σ.1 = 0 ∧ x = 0 then (0 : Int) else 1) → zw L xs (d + 1) q 125 78 [some (.ref 817), some (iV r), some (iV n), some (iV σ.1), some (iV c), some (iV o)] [iV x1] w1 cn1 sn1 Q := by
    intro x1 ex1
    refine zw_istore_n z125_78 rfl ?_
    refine zw_aload_n z125_79 rfl ?_
    have k100 : ∀ x2, x2 = (if σ.2.1 6 = 0 ∧ σ.2.1 4 < n then (0 : Int) else 1) → zw L xs (d + 1) q 125 100 [some (.ref 817), some (iV r), some (iV n), some (iV x1), some (iV c), some (iV o)] [iV x2, .ref 817] w1 cn1 sn1 Q := by
      intro x2 ex2
      refine zj_putf z125_100 m1 (Nat.le_of_ble_eq_true rfl) (zi_fitB (by rw [ex2]; split <;> omega)) (fun w2 n2 f2 => ?_)
      have hm2 := mo_put (N' := iU σ.2.1 6 x2) (G' := G) hm1 n2 f2
      have m2 := hm2.1
      have b9 := (f2.2 827 (by omega)).trans a9
      refine zw_aload_n z125_103 rfl ?_
      refine zw_getf z125_104 (by assumption) (by rfl) ?_
      refine zw_aload_n z125_107 rfl ?_
      refine zw_getf z125_108 (by assumption) (by rfl) ?_
      rw [show iU σ.2.1 6 x2 4 = (kt : Int) from e4.trans hct]
      refine zw_iconst z125_111 (v := iI 0) rfl ?_
      refine zj_bstG z125_112 b9 (by omega) (by decide) (by omega) (fun w3 n3 f3 => ?_)
      have hm3 := mo_a9 hm2 n3 f3
      rw [show (kt : Int).toNat = kt by omega] at hm3
      have m3 := hm3.1
      have k135 : ∀ x3, x3 = (if σ.2.1 4 < n then σ.2.1 4 + 1 else σ.2.1 4) → zw L xs (d + 1) q 125 135 [some (.ref 817), some (iV r), some (iV n), some (iV x1), some (iV c), some (iV o)] [iV x3, .ref 817] w3 cn1 sn1 Q := by
        intro x3 ex3
        refine zj_putf z125_135 m3 (Nat.le_of_ble_eq_true rfl) (by rfl) (fun w4 n4 f4 => ?_)
        have hm4 := mo_put (N' := iU (iU σ.2.1 6 x2) 4 x3) (G' := G) hm3 n4 f4
        have kk := kk w4
        unfold sNw at kk
        rw [ec, ← ex1, ← ex2, ← ex3] at kk
        exact kk hm4 (((f1.step f2 (by omega)).step f3 (by omega)).step f4 (by omega))
      refine zw_aload_n z125_113 rfl ?_
      refine zw_aload_n z125_114 rfl ?_
      refine zw_getf z125_115 (by assumption) (by rfl) ?_
      refine zw_iload_n z125_118 rfl ?_
      rw [show iU σ.2.1 6 x2 4 = σ.2.1 4 from rfl]
      refine zj_icmp_ge z125_119 (by omega) (by omega) (fun g6 => ?_) (fun g6 => ?_)
      · refine zw_aload_n z125_131 rfl ?_
        refine zw_getf z125_132 (by assumption) (by rfl) ?_
        exact k135 _ (if_neg (by omega)).symm
      · refine zw_aload_n z125_122 rfl ?_
        refine zw_getf z125_123 (by assumption) (by rfl) ?_
        refine zw_iconst z125_126 (v := iI 1) rfl ?_
        refine zj_add z125_127 ?_
        refine zw_goto z125_128 ?_
        exact k135 _ (if_pos (by omega)).symm
    refine zw_aload_n z125_80 rfl ?_
    refine zw_getf z125_81 (by assumption) (by rfl) ?_
    refine zj_if_ne z125_84 (by omega) (fun g4 => ?_) (fun g4 => ?_)
    · refine zw_iconst z125_95 (v := iI 1) rfl ?_
      refine zw_goto z125_96 ?_
      exact k100 1 (if_neg (by omega)).symm
    refine zw_aload_n z125_87 rfl ?_
    refine zw_getf z125_88 (by assumption) (by rfl) ?_
    refine zw_iload_n z125_91 rfl ?_
    refine zj_icmp_lt z125_92 (by omega) (by omega) (fun g5 => ?_) (fun g5 => ?_)
    · refine zw_iconst z125_99 (v := iI 0) rfl ?_
      exact k100 0 (if_pos (by omega)).symm
    · refine zw_iconst z125_95 (v := iI 1) rfl ?_
      refine zw_goto z125_96 ?_
      exact k100 1 (if_neg (by omega)).symm
  refine zw_iload_n z125_62 rfl ?_
  refine zj_if_ne z125_63 (by omega) (fun g3 => ?_) (fun g3 => ?_)
  · refine zw_iconst z125_73 (v := iI 1) rfl ?_
    refine zw_goto z125_74 ?_
    exact k78 1 (if_neg (by omega)).symm
  refine zw_aload_n z125_66 rfl ?_
  refine zw_getf z125_67 (by assumption) (by rfl) ?_
  refine zj_if_eq z125_70 (by omega) (fun g7 => ?_) (fun g7 => ?_)
  · refine zw_iconst z125_77 (v := iI 0) rfl ?_
    exact k78 0 (if_pos (by omega)).symm
  · refine zw_iconst z125_73 (v := iI 1) rfl ?_
    refine zw_goto z125_74 ?_
    exact k78 1 (if_neg (by omega)).symm
end ZMU
