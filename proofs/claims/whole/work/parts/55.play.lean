/-! The class PatienceTable: moves, log, look. (Laid out by gen/tpl.py from tpl/55.play.tpl.) -/
def pNt (P : Nat → Nat → Int) (c z y m : Int) : Nat → Nat → Int
  | 0 => iU (P 0) (P 4 0).toNat c
  | 1 => iU (P 1) (P 4 0).toNat z
  | 2 => iU (P 2) (P 4 0).toNat y
  | 3 => iU (P 3) (P 4 0).toNat m
  | _ => fun i => if i = 0 then lgNx (P 4 0) else lgCt (P 4 1)
abbrev tLow (T : TT) (z m : Int) : Int := lCard (T.Y 0) (T.Y 1) z (m - 1)
def tBring (T : TT) (z y m : Int) : TT := TT.mk T.G (cY T.G T.Y (tLow T z m) z y) (pNt T.P (tLow T z m) z y m) T.S T.R (-1)
/-- what must hold so that m cards can be carried from z to y -/
def okB (T : TT) (z y m : Int) : Prop := 0 ≤ tLow T z m ∧ (z < 8 → -1 ≤ T.Y 0 (tLow T z m).toNat) ∧ (y = 12 → T.Y 2 (gSuit T.G (tLow T z m)).toNat ≤ 12 ∧ T.Y 3 1 ≤ 51)
section ZPL
variable {L : Nat} {xs : Nat → Int32} {d q : Nat} {w : zi_W} {cn sn : Nat} {T : TT} {z y m c a b e f u : Int}
theorem tLow_le (hV : lyW T.Y) : tLow T z m ≤ 51 := by
  have := lDn_rng hV.1 (m - 1).toNat (T.Y 1 z.toNat) (by have := hV.2.1 z.toNat; omega)
  show (if m - 1 < 0 then -1 else if lDn (T.Y 0) (m - 1).toNat (T.Y 1 z.toNat) < 0 then -1 else lDn (T.Y 0) (m - 1).toNat (T.Y 1 z.toNat)) ≤ 51
  split
  · omega
  · split <;> omega
theorem sp_bring (h : ptA w T) (hV : ptV T) (hz : 0 ≤ z ∧ z < 12) (hy2 : 0 ≤ y ∧ y ≤ 12) (hm : 1 ≤ m ∧ m ≤ 13) (hB : okB T z y m) (hd : 2 ≤ d) (hq : 46 ≤ q) : zr L xs d q 27 [.ref 0, iV z, iV y, iV m] w cn sn (fun r w' cn' sn' => r = none ∧ cn' = cn ∧ sn' = sn ∧ ptA w' (tBring T z y m) ∧ zF ptS w w') := by
  obtain ⟨d, rfl⟩ : ∃ e, d = e + 1 := ⟨d - 1, by omega⟩
  obtain ⟨h0, hg, hy, hp, hs, hr⟩ := h
  unfold ptO at h0
  have y0 := hy.1
  have p0 := hp.1
  have hG := hV.1
  have hl := tLow_le (z := z) (m := m) hV.2.1
  obtain ⟨b1, b2, b3⟩ := hB
  refine ⟨_, rfl, ?_⟩
  show zw _ _ _ _ 27 0 [some (.ref 0), some (iV z), some (iV y), some (iV m), none] [] _ _ _ _
  refine zw_aload_n z27_0 rfl ?_
  refine zw_getf z27_1 (by assumption) (by rfl) ?_
  refine zw_iload_n z27_4 rfl ?_
  refine zw_iload_n z27_5 rfl ?_
  refine zw_iconst z27_6 (v := iI 1) rfl ?_
  refine zj_sub z27_7 ?_
  refine zw_vv (n := 5) z27_8 rfl rfl (by assumption) (Nat.le_of_ble_eq_true rfl) (by omega) (sp_cardFromTop hy hV.2.1 hz (by omega)) ?_
  rw [show iI (lCard (T.Y 0) (T.Y 1) z (m - 1)) = iI (tLow T z m) from rfl]
  generalize hlo : tLow T z m = c at *
  refine zw_istore z27_11 rfl ?_
  refine zw_aload_n z27_13 rfl ?_
  refine zw_getf z27_14 (by assumption) (by rfl) ?_
  refine zw_iload z27_17 rfl ?_
  refine zw_iload_n z27_19 rfl ?_
  refine zw_iload_n z27_20 rfl ?_
  refine zw_cv (n := 6) z27_21 rfl rfl y0 (Nat.le_of_ble_eq_true rfl) (by omega) (sp_carry hg hG hy hV.2.1 (by omega) (by omega) (by omega) hy2 (by omega) b2 (by omega) (fun h => (b3 h).1) (by omega) (by omega)) (fun v w1 cn1 sn1 h => ?_)
  obtain ⟨rfl, rfl, rfl, n1, f1⟩ := h
  have h0 := (f1.2 0 (by omega)).trans h0
  have p0 := (f1.2 6 (by omega)).trans p0
  have hp1 := hp.keep (w' := w1) fun j h1 h2 => f1.2 j (by omega)
  refine zw_aload_n z27_24 rfl ?_
  refine zw_getf z27_25 (by assumption) (by rfl) ?_
  refine zw_iload z27_28 rfl ?_
  refine zw_iload_n z27_30 rfl ?_
  refine zw_iload_n z27_31 rfl ?_
  refine zw_iload_n z27_32 rfl ?_
  refine zw_cv (n := 5) z27_33 rfl rfl p0 (Nat.le_of_ble_eq_true rfl) (by omega) (sp_note hp1 hV.2.2.1 (by omega) (by omega) hy2 (by omega) (by omega) (by omega)) (fun v w2 cn2 sn2 h => ?_)
  obtain ⟨rfl, rfl, rfl, n2, f2⟩ := h
  have h0 := (f2.2 0 (by omega)).trans h0
  refine zw_aload_n z27_36 rfl ?_
  refine zw_iconst z27_37 (v := iI (-1)) rfl ?_
  refine zj_putf z27_38 h0 (Nat.le_of_ble_eq_true rfl) (by rfl) (fun w3 n3 f3 => ?_)
  have k3 : ∀ j, 11 ≤ j → zi_get w3 j = zi_get w j := fun j hj => (f3.2 j (by omega)).trans ((f2.2 j (by omega)).trans (f1.2 j (by omega)))
  refine zw_vret z27_41 rfl ⟨_, rfl, rfl, rfl, rfl, ?_, ((f1.sub fun j hj => by omega).trans (f2.sub fun j hj => by omega)).step f3 (by omega)⟩
  unfold tBring
  rw [hlo]
  exact ⟨n3, (f3.2 1 (by omega)).trans ((f2.2 1 (by omega)).trans ((f1.2 1 (by omega)).trans hg)), lyA.keep n1 fun j h1 h2 => (f3.2 j (by omega)).trans (f2.2 j (by omega)), lgA.keep n2 fun j h1 h2 => f3.2 j (by omega), seT_keep hs fun j h1 h2 => k3 j (by omega), (k3 816 (by omega)).trans hr⟩
abbrev tAlw (T : TT) (z y m : Int) : Prop := lAlw T.G (T.Y 0) (T.Y 1) (T.Y 2) z y m
theorem alw_le {G b t h : Nat → Int} (h : lAlw G b t h z y m) : 1 ≤ m ∧ m ≤ 13 := by
  unfold lAlw at h
  split at h
  · omega
  · have := lRow_rng (G := G) (b := b) (t := t) (z := z)
    obtain ⟨h1, h2, h3, h4, h5, h6⟩ := h
    omega
def tMove (T : TT) (z y m : Int) : zi_O × TT := if gPla T.G z ∧ gPla T.G y ∧ z ≠ 12 ∧ 1 ≤ m then (if T.Y 3 0 = gAll T.G ∧ tAlw T z y m then (oI ((tBring T z y m).Y 3 1), tBring T z y m) else (.inr 1, T)) else (.inr 0, T)
theorem sp_move (h : ptA w T) (hV : ptV T) (hz : iR z) (hy2 : iR y) (hm : iR m) (hB : gPla T.G z → z ≠ 12 → gPla T.G y → T.Y 3 0 = gAll T.G → tAlw T z y m → okB T z y m) (hd : 6 ≤ d) (hq : 112 ≤ q) : zt L xs d q 14 [.ref 0, iV z, iV y, iV m] w cn sn (tO w cn sn (tMove T z y m)) := by
  obtain ⟨d, rfl⟩ : ∃ e, d = e + 1 := ⟨d - 1, by omega⟩
  have hT := h
  obtain ⟨h0, hg, hy, hp, hs, hr⟩ := h
  unfold ptO at h0
  have hg' := hg
  unfold gmA at hg'
  have y0 := hy.1
  have hG := hV.1
  have hG' := hG
  unfold gmV at hG'
  refine ⟨_, rfl, ?_⟩
  show zw _ _ _ _ 14 0 [some (.ref 0), some (iV z), some (iV y), some (iV m)] [] _ _ _ _
  have kf : ¬ (gPla T.G z ∧ gPla T.G y ∧ z ≠ 12 ∧ 1 ≤ m) → zw L xs (d + 1) q 14 33 [some (.ref 0), some (iV z), some (iV y), some (iV m)] [] w cn sn (tO w cn sn (tMove T z y m)) := by
    intro hn
    refine zw_thr (ex := 0) rfl (by omega) (by omega) ?_
    rw [show tMove T z y m = (.inr 0, T) from if_neg hn]
    exact ⟨rfl, rfl, rfl, hT, zF.rf⟩
  refine zw_aload_n z14_0 rfl ?_
  refine zw_getf z14_1 (by assumption) (by rfl) ?_
  refine zw_iload_n z14_4 rfl ?_
  refine zw_vv (n := 2) z14_5 rfl rfl (by assumption) (Nat.le_of_ble_eq_true rfl) (by omega) (sp_isPlace hg hG hz (by omega) (by omega)) ?_
  refine zj_b_eq z14_8 (fun h1 => ?_) (fun h1 => ?_)
  · exact kf (fun h => h1 h.1)
  refine zw_aload_n z14_11 rfl ?_
  refine zw_getf z14_12 (by assumption) (by rfl) ?_
  refine zw_iload_n z14_15 rfl ?_
  refine zw_vv (n := 2) z14_16 rfl rfl (by assumption) (Nat.le_of_ble_eq_true rfl) (by omega) (sp_isPlace hg hG hy2 (by omega) (by omega)) ?_
  refine zj_b_eq z14_19 (fun h2 => ?_) (fun h2 => ?_)
  · exact kf (fun h => h2 h.2.1)
  refine zw_iload_n z14_22 rfl ?_
  refine zw_bipush z14_23 (v := iI (12)) (by decide +kernel) ?_
  refine zj_icmp_eq z14_25 (by omega) (by omega) (fun h3 => ?_) (fun h3 => ?_)
  · exact kf (fun h => h.2.2.1 h3)
  refine zw_iload_n z14_28 rfl ?_
  refine zw_iconst z14_29 (v := iI 1) rfl ?_
  refine zj_icmp_ge z14_30 (by omega) (by omega) (fun h4 => ?_) (fun h4 => ?_)
  rotate_left
  · exact kf (fun h => by omega)
  have kg : ¬ (T.Y 3 0 = gAll T.G ∧ tAlw T z y m) → zw L xs (d + 1) q 14 66 [some (.ref 0), some (iV z), some (iV y), some (iV m)] [] w cn sn (tO w cn sn (tMove T z y m)) := by
    intro hn
    refine zw_thr (ex := 1) rfl (by omega) (by omega) ?_
    rw [show tMove T z y m = (.inr 1, T) from (if_pos ⟨h1, h2, h3, h4⟩).trans (if_neg hn)]
    exact ⟨rfl, rfl, rfl, hT, zF.rf⟩
  refine zw_aload_n z14_43 rfl ?_
  refine zw_getf z14_44 (by assumption) (by rfl) ?_
  refine zw_vv (n := 1) z14_47 rfl rfl (by assumption) (Nat.le_of_ble_eq_true rfl) (by omega) (sp_isAllLaid hg hG hy hV.2.1 (by omega) (by omega)) ?_
  refine zj_b_eq z14_50 (fun h5 => ?_) (fun h5 => ?_)
  · exact kg (fun h => h5 h.1)
  refine zw_aload_n z14_53 rfl ?_
  refine zw_getf z14_54 (by assumption) (by rfl) ?_
  refine zw_iload_n z14_57 rfl ?_
  refine zw_iload_n z14_58 rfl ?_
  refine zw_iload_n z14_59 rfl ?_
  refine zw_vv (n := 4) z14_60 rfl rfl (by assumption) (Nat.le_of_ble_eq_true rfl) (by omega) (sp_allows hg hG hy hV.2.1 (by omega) (by omega) hm (by omega) (by omega)) ?_
  refine zj_b_ne z14_63 (fun h6 => ?_) (fun h6 => ?_)
  rotate_left
  · exact kg (fun h => h6 h.2)
  refine zw_aload_n z14_76 rfl ?_
  refine zw_iload_n z14_77 rfl ?_
  refine zw_iload_n z14_78 rfl ?_
  refine zw_iload_n z14_79 rfl ?_
  refine zw_cv (n := 5) z14_80 rfl rfl h0 (Nat.le_of_ble_eq_true rfl) (by omega) (sp_bring hT hV (by omega) (by omega) (alw_le h6) (hB h1 h3 h2 h5 h6) (by omega) (by omega)) (fun v w1 cn1 sn1 h => ?_)
  obtain ⟨rfl, rfl, rfl, n1, f1⟩ := h
  have m0 : zi_get w1 0 = some (.inr (0, [.ref 1, .ref 2, .ref 6, .ref 11, .ref 816, iV (tBring T z y m).hi])) := n1.1
  have m2 := n1.2.2.1.1
  refine zw_aload_n z14_83 rfl ?_
  refine zw_getf z14_84 (by assumption) (by rfl) ?_
  refine zw_getf z14_87 (by assumption) (by rfl) ?_
  refine zw_iret z14_90 rfl ?_
  rw [show tMove T z y m = _ from (if_pos ⟨h1, h2, h3, h4⟩).trans (if_pos ⟨h5, h6⟩)]
  exact ⟨rfl, rfl, rfl, n1, f1⟩
abbrev tAm (T : TT) (z y : Int) : Int := if gCol T.G z ∧ gCol T.G y then lMB T.G (T.Y 0) (T.Y 1) (T.Y 2) z y else 1
def tPl (T : TT) (z y m : Int) : zi_O × TT := if gPla T.G z ∧ gPla T.G y ∧ z ≠ 12 then (if T.Y 3 0 = gAll T.G ∧ tAlw T z y m then (oI m, tBring T z y m) else (.inr 1, T)) else (.inr 0, T)
abbrev tPlay (T : TT) (a b : Int) : zi_O × TT := tPl T (lTold a) (lTold b) (tAm T (lTold a) (lTold b))
theorem lMb_rng {G b t h : Nat → Int} : ∀ n : Nat, 0 ≤ lMb G b t h z y n ∧ lMb G b t h z y n ≤ n := by
  intro n
  induction n with
  | zero => exact ⟨Int.le_refl _, Int.le_refl _⟩
  | succ n ih =>
    unfold lMb
    split <;> omega
theorem lTold_rng : -1 ≤ lTold z ∧ lTold z ≤ 12 := by
  unfold lTold
  split
  · omega
  · split
    · omega
    · split <;> omega
theorem sp_play (h : ptA w T) (hV : ptV T) (ha : 0 ≤ a ∧ a ≤ 65535) (hb : 0 ≤ b ∧ b ≤ 65535) (hB : ∀ z y m, gPla T.G z → z ≠ 12 → gPla T.G y → T.Y 3 0 = gAll T.G → tAlw T z y m → okB T z y m) (hd : 6 ≤ d) (hq : 135 ≤ q) : zt L xs d q 15 [.ref 0, iV a, iV b] w cn sn (tO w cn sn (tPlay T a b)) := by
  obtain ⟨d, rfl⟩ : ∃ e, d = e + 1 := ⟨d - 1, by omega⟩
  have hT := h
  obtain ⟨h0, hg, hy, hp, hs, hr⟩ := h
  unfold ptO at h0
  have hg' := hg
  unfold gmA at hg'
  have y0 := hy.1
  have hG := hV.1
  have hG' := hG
  unfold gmV at hG'
  unfold tPlay
  refine ⟨_, rfl, ?_⟩
  show zw _ _ _ _ 15 0 [some (.ref 0), some (iV a), some (iV b), none, none, none] [] _ _ _ _
  refine zw_iload_n z15_0 rfl ?_
  refine zw_vs (n := 1) z15_1 rfl rfl (Nat.le_of_ble_eq_true rfl) (by omega) (sp_placeTold ha) ?_
  refine zw_istore_n z15_4 rfl ?_
  refine zw_iload_n z15_5 rfl ?_
  refine zw_vs (n := 1) z15_6 rfl rfl (Nat.le_of_ble_eq_true rfl) (by omega) (sp_placeTold hb) ?_
  have hz := lTold_rng (z := a)
  have hy2 := lTold_rng (z := b)
  generalize lTold a = z at *
  generalize lTold b = y at *
  refine zw_istore z15_9 rfl ?_
  have kf : ¬ (gPla T.G z ∧ gPla T.G y ∧ z ≠ 12) → zw L xs (d + 1) q 15 40 [some (.ref 0), some (iV a), some (iV b), some (iV z), some (iV y), none] [] w cn sn (tO w cn sn (tPl T z y (tAm T z y))) := by
    intro hn
    refine zw_thr (ex := 0) rfl (by omega) (by omega) ?_
    rw [show tPl T z y (tAm T z y) = (.inr 0, T) from if_neg hn]
    exact ⟨rfl, rfl, rfl, hT, zF.rf⟩
  refine zw_aload_n z15_11 rfl ?_
  refine zw_getf z15_12 (by assumption) (by rfl) ?_
  refine zw_iload_n z15_15 rfl ?_
  refine zw_vv (n := 2) z15_16 rfl rfl (by assumption) (Nat.le_of_ble_eq_true rfl) (by omega) (sp_isPlace hg hG (by omega) (by omega) (by omega)) ?_
  refine zj_b_eq z15_19 (fun h1 => ?_) (fun h1 => ?_)
  · exact kf (fun h => h1 h.1)
  refine zw_aload_n z15_22 rfl ?_
  refine zw_getf z15_23 (by assumption) (by rfl) ?_
  refine zw_iload z15_26 rfl ?_
  refine zw_vv (n := 2) z15_28 rfl rfl (by assumption) (Nat.le_of_ble_eq_true rfl) (by omega) (sp_isPlace hg hG (by omega) (by omega) (by omega)) ?_
  refine zj_b_eq z15_31 (fun h2 => ?_) (fun h2 => ?_)
  · exact kf (fun h => h2 h.2.1)
  refine zw_iload_n z15_34 rfl ?_
  refine zw_bipush z15_35 (v := iI (12)) (by decide +kernel) ?_
  refine zj_icmp_ne z15_37 (by omega) (by omega) (fun h3 => ?_) (fun h3 => ?_)
  rotate_left
  · exact kf (fun h => h.2.2 (by omega))
  have km : ∀ m, m = tAm T z y → zw L xs (d + 1) q 15 87 [some (.ref 0), some (iV a), some (iV b), some (iV z), some (iV y), none] [iV m] w cn sn (tO w cn sn (tPl T z y (tAm T z y))) := by
    intro m hm
    have hmr : 0 ≤ m ∧ m ≤ 13 := by
      rw [hm]
      unfold tAm
      split
      · have r1 := lMb_rng (G := T.G) (b := T.Y 0) (t := T.Y 1) (h := T.Y 2) (z := z) (y := y) (lRow T.G (T.Y 0) (T.Y 1) z).toNat
        have r2 := lRow_rng (G := T.G) (b := T.Y 0) (t := T.Y 1) (z := z)
        unfold lMB
        omega
      · omega
    rw [← hm]
    have kg : ¬ (T.Y 3 0 = gAll T.G ∧ tAlw T z y m) → zw L xs (d + 1) q 15 114 [some (.ref 0), some (iV a), some (iV b), some (iV z), some (iV y), some (iV m)] [] w cn sn (tO w cn sn (tPl T z y m)) := by
      intro hn
      refine zw_thr (ex := 1) rfl (by omega) (by omega) ?_
      rw [show tPl T z y m = (.inr 1, T) from (if_pos ⟨h1, h2, h3⟩).trans (if_neg hn)]
      exact ⟨rfl, rfl, rfl, hT, zF.rf⟩
    refine zw_istore z15_87 rfl ?_
    refine zw_aload_n z15_89 rfl ?_
    refine zw_getf z15_90 (by assumption) (by rfl) ?_
    refine zw_vv (n := 1) z15_93 rfl rfl (by assumption) (Nat.le_of_ble_eq_true rfl) (by omega) (sp_isAllLaid hg hG hy hV.2.1 (by omega) (by omega)) ?_
    refine zj_b_eq z15_96 (fun h5 => ?_) (fun h5 => ?_)
    · exact kg (fun h => h5 h.1)
    refine zw_aload_n z15_99 rfl ?_
    refine zw_getf z15_100 (by assumption) (by rfl) ?_
    refine zw_iload_n z15_103 rfl ?_
    refine zw_iload z15_104 rfl ?_
    refine zw_iload z15_106 rfl ?_
    refine zw_vv (n := 4) z15_108 rfl rfl (by assumption) (Nat.le_of_ble_eq_true rfl) (by omega) (sp_allows hg hG hy hV.2.1 (by omega) (by omega) (by omega) (by omega) (by omega)) ?_
    refine zj_b_ne z15_111 (fun h6 => ?_) (fun h6 => ?_)
    rotate_left
    · exact kg (fun h => h6 h.2)
    refine zw_aload_n z15_124 rfl ?_
    refine zw_iload_n z15_125 rfl ?_
    refine zw_iload z15_126 rfl ?_
    refine zw_iload z15_128 rfl ?_
    refine zw_cv (n := 5) z15_130 rfl rfl h0 (Nat.le_of_ble_eq_true rfl) (by omega) (sp_bring hT hV (by omega) (by omega) (alw_le h6) (hB z y m h1 h3 h2 h5 h6) (by omega) (by omega)) (fun v w1 cn1 sn1 h => ?_)
    obtain ⟨rfl, rfl, rfl, n1, f1⟩ := h
    refine zw_iload z15_133 rfl ?_
    refine zw_iret z15_135 rfl ?_
    rw [show tPl T z y m = _ from (if_pos ⟨h1, h2, h3⟩).trans (if_pos ⟨h5, h6⟩)]
    exact ⟨rfl, rfl, rfl, n1, f1⟩
  refine zw_aload_n z15_50 rfl ?_
  refine zw_getf z15_51 (by assumption) (by rfl) ?_
  refine zw_iload_n z15_54 rfl ?_
  refine zw_vv (n := 2) z15_55 rfl rfl (by assumption) (Nat.le_of_ble_eq_true rfl) (by omega) (sp_isColumn hg hG (by omega)) ?_
  refine zj_b_eq z15_58 (fun h7 => ?_) (fun h7 => ?_)
  · refine zw_iconst z15_86 (v := iI 1) rfl ?_
    exact km 1 (if_neg fun h => h7 h.1).symm
  refine zw_aload_n z15_61 rfl ?_
  refine zw_getf z15_62 (by assumption) (by rfl) ?_
  refine zw_iload z15_65 rfl ?_
  refine zw_vv (n := 2) z15_67 rfl rfl (by assumption) (Nat.le_of_ble_eq_true rfl) (by omega) (sp_isColumn hg hG (by omega)) ?_
  refine zj_b_eq z15_70 (fun h8 => ?_) (fun h8 => ?_)
  · refine zw_iconst z15_86 (v := iI 1) rfl ?_
    exact km 1 (if_neg fun h => h8 h.2).symm
  refine zw_aload_n z15_73 rfl ?_
  refine zw_getf z15_74 (by assumption) (by rfl) ?_
  refine zw_iload_n z15_77 rfl ?_
  refine zw_iload z15_78 rfl ?_
  refine zw_vv (n := 4) z15_80 rfl rfl (by assumption) (Nat.le_of_ble_eq_true rfl) (by omega) (sp_mostBetween hg hG hy hV.2.1 (by omega) (by omega) (by omega) (by omega)) ?_
  refine zw_goto z15_83 ?_
  exact km _ (if_pos ⟨h7, h8⟩).symm
def tUndo (T : TT) : zi_O × TT := if T.P 4 1 = 0 then (.inr 2, T) else (oI (T.P 3 (lgPv (T.P 4 0)).toNat), TT.mk T.G (cY T.G T.Y (T.P 0 (lgPv (T.P 4 0)).toNat) (T.P 2 (lgPv (T.P 4 0)).toNat) (T.P 1 (lgPv (T.P 4 0)).toNat)) (pN T.P (lgPv (T.P 4 0)) (T.P 4 1 - 1)) T.S T.R (-1))
/-- what must hold so that the latest move can be taken back -/
def okU (T : TT) (l : Nat) : Prop := ¬ (T.P 2 l = 12 ∧ T.P 1 l = 12) ∧ (T.P 2 l < 8 → -1 ≤ T.Y 0 (T.P 0 l).toNat) ∧ (T.P 2 l = 12 → 1 ≤ T.Y 2 (gSuit T.G (T.P 0 l)).toNat) ∧ (T.P 1 l = 12 → T.Y 2 (gSuit T.G (T.P 0 l)).toNat ≤ 12)
theorem sp_undo (h : ptA w T) (hV : ptV T) (hB : ¬ T.P 4 1 = 0 → okU T (lgPv (T.P 4 0)).toNat) (hd : 6 ≤ d) (hq : 90 ≤ q) : zt L xs d q 17 [.ref 0] w cn sn (tO w cn sn (tUndo T)) := by
  obtain ⟨d, rfl⟩ : ∃ e, d = e + 1 := ⟨d - 1, by omega⟩
  have hT := h
  obtain ⟨h0, hg, hy, hp, hs, hr⟩ := h
  unfold ptO at h0
  have y0 := hy.1
  have p0 := hp.1
  have hG := hV.1
  have hPV := hV.2.2.1
  obtain ⟨r1, r2, r3, r4, r5, r6⟩ := hPV
  have hl : 0 ≤ lgPv (T.P 4 0) ∧ lgPv (T.P 4 0) < 60 := by
    unfold lgPv
    split <;> omega
  refine ⟨_, rfl, ?_⟩
  show zw _ _ _ _ 17 0 [some (.ref 0), none] [] _ _ _ _
  refine zw_aload_n z17_0 rfl ?_
  refine zw_getf z17_1 (by assumption) (by rfl) ?_
  refine zw_getf z17_4 (by assumption) (by rfl) ?_
  refine zj_if_ne z17_7 (by omega) (fun h1 => ?_) (fun h1 => ?_)
  rotate_left
  · refine zw_thr (ex := 2) rfl (by omega) (by omega) ?_
    rw [show tUndo T = (.inr 2, T) from if_pos (by omega)]
    exact ⟨rfl, rfl, rfl, hT, zF.rf⟩
  rw [show tUndo T = _ from if_neg h1]
  obtain ⟨o1, o2, o3, o4⟩ := hB h1
  refine zw_aload_n z17_20 rfl ?_
  refine zw_getf z17_21 (by assumption) (by rfl) ?_
  refine zw_cv (n := 1) z17_24 rfl rfl p0 (Nat.le_of_ble_eq_true rfl) (by omega) (sp_takeLatest hp hV.2.2.1) (fun v w1 cn1 sn1 h => ?_)
  obtain ⟨rfl, rfl, rfl, n1, f1⟩ := h
  generalize hpv : lgPv (T.P 4 0) = l at *
  have h0 := (f1.2 0 (by omega)).trans h0
  have y0 := (f1.2 2 (by omega)).trans y0
  have hy1 := lyA.keep (w' := w1) hy fun j h1 h2 => f1.2 j (by omega)
  have hg1 : gmA w1 1 T.G := (f1.2 1 (by omega)).trans hg
  obtain ⟨p0, p1, p2, p3, p4⟩ := n1
  have c1 := r1 l.toNat
  have c2 := r2 l.toNat
  have c3 := r3 l.toNat
  refine zw_istore_n z17_27 rfl ?_
  refine zw_aload_n z17_28 rfl ?_
  refine zw_getf z17_29 (by assumption) (by rfl) ?_
  refine zw_aload_n z17_32 rfl ?_
  refine zw_getf z17_33 (by assumption) (by rfl) ?_
  refine zw_getf z17_36 (by assumption) (by rfl) ?_
  refine zw_iload_n z17_39 rfl ?_
  refine zj_ald z17_40 p1 hl (by decide) ?_
  refine zw_aload_n z17_41 rfl ?_
  refine zw_getf z17_42 (by assumption) (by rfl) ?_
  refine zw_getf z17_45 (by assumption) (by rfl) ?_
  refine zw_iload_n z17_48 rfl ?_
  refine zj_ald z17_49 p3 hl (by decide) ?_
  refine zw_aload_n z17_50 rfl ?_
  refine zw_getf z17_51 (by assumption) (by rfl) ?_
  refine zw_getf z17_54 (by assumption) (by rfl) ?_
  refine zw_iload_n z17_57 rfl ?_
  refine zj_ald z17_58 p2 hl (by decide) ?_
  refine zw_cv (n := 6) z17_59 rfl rfl y0 (Nat.le_of_ble_eq_true rfl) (by omega) (sp_carry hg1 hG hy1 hV.2.1 (by omega) (by omega) (by omega) (by omega) o1 o2 o3 o4 (by omega) (by omega)) (fun v w2 cn2 sn2 h => ?_)
  obtain ⟨rfl, rfl, rfl, n2, f2⟩ := h
  have h0 := (f2.2 0 (by omega)).trans h0
  refine zw_aload_n z17_62 rfl ?_
  refine zw_iconst z17_63 (v := iI (-1)) rfl ?_
  refine zj_putf z17_64 h0 (Nat.le_of_ble_eq_true rfl) (by rfl) (fun w3 n3 f3 => ?_)
  have k3 : ∀ j, 6 ≤ j → zi_get w3 j = zi_get w1 j := fun j hj => (f3.2 j (by omega)).trans (f2.2 j (by omega))
  have p0 := (k3 6 (by omega)).trans p0
  have p1 := (k3 7 (by omega)).trans p1
  have p2 := (k3 8 (by omega)).trans p2
  have p3 := (k3 9 (by omega)).trans p3
  have p4 := (k3 10 (by omega)).trans p4
  refine zw_aload_n z17_67 rfl ?_
  refine zw_getf z17_68 (by assumption) (by rfl) ?_
  refine zw_getf z17_71 (by assumption) (by rfl) ?_
  refine zw_iload_n z17_74 rfl ?_
  refine zj_ald z17_75 p4 hl (by decide) ?_
  refine zw_iret z17_76 rfl ⟨rfl, rfl, rfl, ⟨n3, (f3.2 1 (by omega)).trans ((f2.2 1 (by omega)).trans hg1), lyA.keep n2 fun j h1 h2 => f3.2 j (by omega), ⟨p0, p1, p2, p3, p4⟩, seT_keep hs fun j h1 h2 => (k3 j (by omega)).trans (f1.2 j (by omega)), (k3 816 (by omega)).trans ((f1.2 816 (by omega)).trans hr)⟩, ((f1.sub fun j hj => by omega).trans (f2.sub fun j hj => by omega)).step f3 (by omega)⟩
theorem sp_log (h : ptA w T) : zv d q 18 [.ref 0] w (iI (T.P 4 1)) := by
  intro L xs cn sn
  obtain ⟨h0, hg, hy, hp, hs, hr⟩ := h
  unfold ptO at h0
  have p0 := hp.1
  refine ⟨_, rfl, ?_⟩
  show zw _ _ _ _ 18 0 [some (.ref 0)] [] _ _ _ _
  refine zw_aload_n z18_0 rfl ?_
  refine zw_getf z18_1 (by assumption) (by rfl) ?_
  refine zw_getf z18_4 (by assumption) (by rfl) ?_
  refine zw_iret z18_7 rfl ?_
  exact zv_end rfl
theorem sp_hint (h : ptA w T) : zv d q 23 [.ref 0] w (iI T.hi) := by
  intro L xs cn sn
  have h0 := h.1
  unfold ptO at h0
  refine ⟨_, rfl, ?_⟩
  show zw _ _ _ _ 23 0 [some (.ref 0)] [] _ _ _ _
  refine zw_aload_n z23_0 rfl ?_
  refine zw_getf z23_1 (by assumption) (by rfl) ?_
  refine zw_iret z23_4 rfl ?_
  exact zv_end rfl
theorem sp_positions (h : ptA w T) : zv d q 24 [.ref 0] w (iI (T.S.1 4)) := by
  intro L xs cn sn
  obtain ⟨h0, hg, hy, hp, hs, hr⟩ := h
  unfold ptO at h0
  have s0 := hs.1.1
  refine ⟨_, rfl, ?_⟩
  show zw _ _ _ _ 24 0 [some (.ref 0)] [] _ _ _ _
  refine zw_aload_n z24_0 rfl ?_
  refine zw_getf z24_1 (by assumption) (by rfl) ?_
  refine zw_getf z24_4 (by assumption) (by rfl) ?_
  refine zw_iret z24_7 rfl ?_
  exact zv_end rfl
end ZPL
