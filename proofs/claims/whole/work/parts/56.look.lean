/-! The class PatienceTable: sendHome, card, size, most, look, deal. (Laid out by gen/tpl.py from tpl/56.look.tpl.) -/
section ZPK
variable {L : Nat} {xs : Nat → Int32} {d q : Nat} {w : zi_W} {cn sn : Nat} {Q : zi_O → zi_W → Nat → Nat → Prop} {T : TT} {z y m c a b e f u : Int}
abbrev tSize (T : TT) (z : Int) : Int := if gPla T.G z then lHei (T.Y 0) (T.Y 1) (T.Y 3 1) z else -1
abbrev tCard (T : TT) (z k : Int) : Int := if gPla T.G z ∧ 0 ≤ k then (if z = 12 then lTop T.G (T.Y 2) k else lCard (T.Y 0) (T.Y 1) z (lHei (T.Y 0) (T.Y 1) (T.Y 3 1) z - 1 - k)) else -1
abbrev tMost (T : TT) (z y : Int) : Int := if gCol T.G z ∧ gCol T.G y ∧ T.Y 3 0 = gAll T.G then lMB T.G (T.Y 0) (T.Y 1) (T.Y 2) z y else 0
theorem lHt_rng {b : Nat → Int} : ∀ (n : Nat) (c : Int), 0 ≤ lHt b n c ∧ lHt b n c ≤ n := by
  intro n
  induction n with
  | zero => intro c; exact ⟨Int.le_refl _, Int.le_refl _⟩
  | succ n ih =>
    intro c
    have := ih (b c.toNat)
    by_cases h : c < 0
    · rw [lHt_e h]; omega
    · rw [lHt_s h]; omega
theorem lHei_rng {b t h : Nat → Int} {la ah : Int} (hV : lyV b t h la ah) : 0 ≤ lHei b t ah z ∧ lHei b t ah z ≤ 52 := by
  have := lHt_rng (b := b) 52 (t z.toNat)
  have := hV.2.2.2.2
  unfold lHei
  split <;> omega
theorem sp_size (h : ptA w T) (hV : ptV T) (hz : iR z) (hd : 3 ≤ d) (hq : 45 ≤ q) : zv d q 20 [.ref 0, iV z] w (iI (tSize T z)) := by
  intro L xs cn sn
  obtain ⟨d, rfl⟩ : ∃ e, d = e + 1 := ⟨d - 1, by omega⟩
  obtain ⟨h0, hg, hy, hp, hs, hr⟩ := h
  unfold ptO at h0
  have hg' := hg
  unfold gmA at hg'
  have y0 := hy.1
  have hG := hV.1
  have hG' := hG
  unfold gmV at hG'
  refine ⟨_, rfl, ?_⟩
  show zw _ _ _ _ 20 0 [some (.ref 0), some (iV z)] [] _ _ _ _
  refine zw_aload_n z20_0 rfl ?_
  refine zw_getf z20_1 (by assumption) (by rfl) ?_
  refine zw_iload_n z20_4 rfl ?_
  refine zw_vv (n := 2) z20_5 rfl rfl (by assumption) (Nat.le_of_ble_eq_true rfl) (by omega) (sp_isPlace hg hG hz (by omega) (by omega)) ?_
  refine zj_b_eq z20_8 (fun h1 => ?_) (fun h1 => ?_)
  · refine zw_iconst z20_22 (v := iI (-1)) rfl ?_
    refine zw_iret z20_23 rfl ?_
    exact zv_end (by unfold tSize; rw [if_neg h1])
  · refine zw_aload_n z20_11 rfl ?_
    refine zw_getf z20_12 (by assumption) (by rfl) ?_
    refine zw_iload_n z20_15 rfl ?_
    refine zw_vv (n := 4) z20_16 rfl rfl (by assumption) (Nat.le_of_ble_eq_true rfl) (by omega) (sp_heightOf hy hV.2.1 (by omega)) ?_
    refine zw_goto z20_19 ?_
    refine zw_iret z20_23 rfl ?_
    exact zv_end (by unfold tSize; rw [if_pos h1])
theorem sp_card {k : Int} (h : ptA w T) (hV : ptV T) (hz : iR z) (hk : iR k) (hd : 3 ≤ d) (hq : 45 ≤ q) : zv d q 19 [.ref 0, iV z, iV k] w (iI (tCard T z k)) := by
  intro L xs cn sn
  obtain ⟨d, rfl⟩ : ∃ e, d = e + 1 := ⟨d - 1, by omega⟩
  obtain ⟨h0, hg, hy, hp, hs, hr⟩ := h
  unfold ptO at h0
  have hg' := hg
  unfold gmA at hg'
  have y0 := hy.1
  have hG := hV.1
  have hG' := hG
  unfold gmV at hG'
  have r1 := lHei_rng (z := z) hV.2.1
  refine ⟨_, rfl, ?_⟩
  show zw _ _ _ _ 19 0 [some (.ref 0), some (iV z), some (iV k)] [] _ _ _ _
  refine zw_aload_n z19_0 rfl ?_
  refine zw_getf z19_1 (by assumption) (by rfl) ?_
  refine zw_iload_n z19_4 rfl ?_
  refine zw_vv (n := 2) z19_5 rfl rfl (by assumption) (Nat.le_of_ble_eq_true rfl) (by omega) (sp_isPlace hg hG hz (by omega) (by omega)) ?_
  refine zj_b_eq z19_8 (fun h1 => ?_) (fun h1 => ?_)
  · refine zw_iconst z19_15 (v := iI (-1)) rfl ?_
    refine zw_iret z19_16 rfl ?_
    exact zv_end (by unfold tCard; rw [if_neg fun h => h1 h.1])
  refine zw_iload_n z19_11 rfl ?_
  refine zj_if_ge z19_12 (by omega) (fun h2 => ?_) (fun h2 => ?_)
  rotate_left
  · refine zw_iconst z19_15 (v := iI (-1)) rfl ?_
    refine zw_iret z19_16 rfl ?_
    exact zv_end (by unfold tCard; rw [if_neg fun h => h2 h.2])
  refine zw_iload_n z19_17 rfl ?_
  refine zw_bipush z19_18 (v := iI (12)) (by decide +kernel) ?_
  refine zj_icmp_ne z19_20 (by omega) (by omega) (fun h3 => ?_) (fun h3 => ?_)
  · refine zw_aload_n z19_34 rfl ?_
    refine zw_getf z19_35 (by assumption) (by rfl) ?_
    refine zw_iload_n z19_38 rfl ?_
    refine zw_aload_n z19_39 rfl ?_
    refine zw_getf z19_40 (by assumption) (by rfl) ?_
    refine zw_iload_n z19_43 rfl ?_
    refine zw_vv (n := 4) z19_44 rfl rfl (by assumption) (Nat.le_of_ble_eq_true rfl) (by omega) (sp_heightOf hy hV.2.1 (by omega)) ?_
    refine zw_iconst z19_47 (v := iI 1) rfl ?_
    refine zj_sub z19_48 ?_
    refine zw_iload_n z19_49 rfl ?_
    refine zj_sub z19_50 ?_
    refine zw_vv (n := 5) z19_51 rfl rfl (by assumption) (Nat.le_of_ble_eq_true rfl) (by omega) (sp_cardFromTop hy hV.2.1 (by omega) (by omega)) ?_
    refine zw_iret z19_54 rfl ?_
    exact zv_end (by unfold tCard; rw [if_pos ⟨h1, h2⟩, if_neg h3])
  · refine zw_aload_n z19_23 rfl ?_
    refine zw_getf z19_24 (by assumption) (by rfl) ?_
    refine zw_iload_n z19_27 rfl ?_
    refine zw_vv (n := 2) z19_28 rfl rfl (by assumption) (Nat.le_of_ble_eq_true rfl) (by omega) (sp_topAtHome hg hG hy hV.2.1 (by omega)) ?_
    refine zw_goto z19_31 ?_
    refine zw_iret z19_54 rfl ?_
    exact zv_end (by unfold tCard; rw [if_pos ⟨h1, h2⟩, if_pos (show z = 12 by omega)])
theorem sp_most (h : ptA w T) (hV : ptV T) (hz : iR z) (hy2 : iR y) (hd : 6 ≤ d) (hq : 135 ≤ q) : zv d q 21 [.ref 0, iV z, iV y] w (iI (tMost T z y)) := by
  intro L xs cn sn
  obtain ⟨d, rfl⟩ : ∃ e, d = e + 1 := ⟨d - 1, by omega⟩
  obtain ⟨h0, hg, hy, hp, hs, hr⟩ := h
  unfold ptO at h0
  have hg' := hg
  unfold gmA at hg'
  have y0 := hy.1
  have hG := hV.1
  have hG' := hG
  unfold gmV at hG'
  refine ⟨_, rfl, ?_⟩
  show zw _ _ _ _ 21 0 [some (.ref 0), some (iV z), some (iV y)] [] _ _ _ _
  have kf : ¬ (gCol T.G z ∧ gCol T.G y ∧ T.Y 3 0 = gAll T.G) → zw L xs (d + 1) q 21 32 [some (.ref 0), some (iV z), some (iV y)] [] w cn sn (fun o w' cn' sn' => ∃ v, o = .inl v ∧ (v = some (.int (iI (tMost T z y))) ∧ w' = w ∧ cn' = cn ∧ sn' = sn)) := by
    intro hn
    refine zw_iconst z21_32 (v := iI 0) rfl ?_
    refine zw_iret z21_33 rfl ?_
    exact zv_end (by unfold tMost; rw [if_neg hn])
  refine zw_aload_n z21_0 rfl ?_
  refine zw_getf z21_1 (by assumption) (by rfl) ?_
  refine zw_iload_n z21_4 rfl ?_
  refine zw_vv (n := 2) z21_5 rfl rfl (by assumption) (Nat.le_of_ble_eq_true rfl) (by omega) (sp_isColumn hg hG hz) ?_
  refine zj_b_eq z21_8 (fun h1 => ?_) (fun h1 => ?_)
  · exact kf (fun h => h1 h.1)
  refine zw_aload_n z21_11 rfl ?_
  refine zw_getf z21_12 (by assumption) (by rfl) ?_
  refine zw_iload_n z21_15 rfl ?_
  refine zw_vv (n := 2) z21_16 rfl rfl (by assumption) (Nat.le_of_ble_eq_true rfl) (by omega) (sp_isColumn hg hG hy2) ?_
  refine zj_b_eq z21_19 (fun h2 => ?_) (fun h2 => ?_)
  · exact kf (fun h => h2 h.2.1)
  refine zw_aload_n z21_22 rfl ?_
  refine zw_getf z21_23 (by assumption) (by rfl) ?_
  refine zw_vv (n := 1) z21_26 rfl rfl (by assumption) (Nat.le_of_ble_eq_true rfl) (by omega) (sp_isAllLaid hg hG hy hV.2.1 (by omega) (by omega)) ?_
  refine zj_b_ne z21_29 (fun h3 => ?_) (fun h3 => ?_)
  rotate_left
  · exact kf (fun h => h3 h.2.2)
  refine zw_aload_n z21_34 rfl ?_
  refine zw_getf z21_35 (by assumption) (by rfl) ?_
  refine zw_iload_n z21_38 rfl ?_
  refine zw_iload_n z21_39 rfl ?_
  refine zw_vv (n := 4) z21_40 rfl rfl (by assumption) (Nat.le_of_ble_eq_true rfl) (by omega) (sp_mostBetween hg hG hy hV.2.1 (by omega) (by omega) (by omega) (by omega)) ?_
  refine zw_iret z21_43 rfl ?_
  exact zv_end (by unfold tMost; rw [if_pos ⟨h1, h2, h3⟩])
def tLook (T : TT) (u : Int) : zi_O × TT := if 1 ≤ u ∧ u ≤ 200 then (if T.Y 3 0 = gAll T.G then (oI (sk T.G T.S T.Y u).1, TT.mk T.G T.Y T.P (sk T.G T.S T.Y u).2 T.R ((sk T.G T.S T.Y u).2.1 3)) else (.inr 1, T)) else (.inr 0, T)
theorem sp_look {J : (Nat → Nat → Int) → Prop} (h : ptA w T) (hV : ptV T) (hu : iR u) (h1 : ∀ Y, J Y → lyW Y → okL T.G Y) (h2 : stJ T.G J) (h3 : T.Y 3 0 = gAll T.G → J (yCp T.Y (T.S.2.2 0))) (hd : 6 ≤ d) (hq : 152 ≤ q) : zt L xs d q 22 [.ref 0, iV u] w cn sn (fun o w' cn' sn' => tO w cn sn (tLook T u) o w' cn' sn' ∧ (1 ≤ u ∧ u ≤ 200 → T.Y 3 0 = gAll T.G → skI J (sk T.G T.S T.Y u).2)) := by
  obtain ⟨d, rfl⟩ : ∃ e, d = e + 1 := ⟨d - 1, by omega⟩
  have hT := h
  obtain ⟨h0, hg, hy, hp, hs, hr⟩ := h
  unfold ptO at h0
  have y0 := hy.1
  have s0 := hs.1.1
  have hG := hV.1
  refine ⟨_, rfl, ?_⟩
  show zw _ _ _ _ 22 0 [some (.ref 0), some (iV u), none] [] _ _ _ _
  refine zw_iload_n z22_0 rfl ?_
  refine zw_iconst z22_1 (v := iI 1) rfl ?_
  refine zw_sipush z22_2 (v := iI (200)) (by decide +kernel) ?_
  refine zw_vs (n := 3) z22_5 rfl rfl (Nat.le_of_ble_eq_true rfl) (by omega) (sp_isWithin hu (by omega) (by omega)) ?_
  refine zj_b_ne z22_8 (fun k1 => ?_) (fun k1 => ?_)
  rotate_left
  · refine zw_thr (ex := 0) rfl (by omega) (by omega) ?_
    rw [show tLook T u = (.inr 0, T) from if_neg k1]
    exact ⟨⟨rfl, rfl, rfl, hT, zF.rf⟩, fun h => absurd h k1⟩
  refine zw_aload_n z22_21 rfl ?_
  refine zw_getf z22_22 (by assumption) (by rfl) ?_
  refine zw_vv (n := 1) z22_25 rfl rfl (by assumption) (Nat.le_of_ble_eq_true rfl) (by omega) (sp_isAllLaid hg hG hy hV.2.1 (by omega) (by omega)) ?_
  refine zj_b_ne z22_28 (fun k2 => ?_) (fun k2 => ?_)
  rotate_left
  · refine zw_thr (ex := 1) rfl (by omega) (by omega) ?_
    rw [show tLook T u = (.inr 1, T) from (if_pos k1).trans (if_neg k2)]
    exact ⟨⟨rfl, rfl, rfl, hT, zF.rf⟩, fun _ h => absurd h k2⟩
  rw [show tLook T u = _ from (if_pos k1).trans (if_pos k2)]
  refine zw_aload_n z22_41 rfl ?_
  refine zw_getf z22_42 (by assumption) (by rfl) ?_
  refine zw_aload_n z22_45 rfl ?_
  refine zw_getf z22_46 (by assumption) (by rfl) ?_
  refine zw_iload_n z22_49 rfl ?_
  refine zw_cv (n := 6) z22_50 rfl rfl s0 (Nat.le_of_ble_eq_true rfl) (by omega) (sp_seek (J := J) hg hG hs hV.2.2.2.1 hy hV.2.1 k1 h1 h2 (h3 k2) (by omega) (by omega)) (fun v w1 cn1 sn1 h => ?_)
  obtain ⟨rfl, rfl, rfl, g1, g2, g3, g4, f1⟩ := h
  have h0 := (f1.2 0 (by omega)).trans h0
  have s1 := g2.1.1
  refine zw_istore_n z22_53 rfl ?_
  refine zw_aload_n z22_54 rfl ?_
  refine zw_aload_n z22_55 rfl ?_
  refine zw_getf z22_56 (by assumption) (by rfl) ?_
  refine zw_getf z22_59 (by assumption) (by rfl) ?_
  refine zj_putf z22_62 h0 (Nat.le_of_ble_eq_true rfl) (by rfl) (fun w2 n2 f2 => ?_)
  refine zw_iload_n z22_65 rfl ?_
  refine zw_iret z22_66 rfl ⟨⟨rfl, rfl, rfl, ⟨n2, (f2.2 1 (by omega)).trans g1, lyA.keep g4 fun j h1 h2 => f2.2 j (by omega), hp.keep fun j h1 h2 => (f2.2 j (by omega)).trans (f1.2 j (by omega)), seT_keep g2 fun j h1 h2 => f2.2 j (by omega), (f2.2 816 (by omega)).trans ((f1.2 816 (by omega)).trans hr)⟩, (f1.sub fun j hj => by omega).step f2 (by omega)⟩, fun _ _ => g3⟩
/-- sendHome: safe cards go home one by one -/
abbrev tPos (T : TT) : Int := lPos T.G (T.Y 1) (T.Y 2)
def tS : Nat → Int → TT → Int × TT
  | 0, s, T => (s, T)
  | k + 1, s, T => if tPos T = -1 then (s, T) else tS k (s + 1) (tBring T (tPos T) 12 1)
def tSend (T : TT) : zi_O × TT := if T.Y 3 0 = gAll T.G then (oI (tS 52 0 T).1, (tS 52 0 T).2) else (.inr 1, T)
theorem lFp_rng {G t h : Nat → Int} : ∀ (n : Nat) (p : Int), lFp G t h n p = -1 ∨ (p ≤ lFp G t h n p ∧ lFp G t h n p < p + n ∧ lTS G t h (lFp G t h n p)) := by
  intro n
  induction n with
  | zero => intro p; exact Or.inl rfl
  | succ n ih =>
    intro p
    by_cases h : lTS G t h p
    · rw [lFp_t h]; exact Or.inr ⟨by omega, by omega, h⟩
    · rw [lFp_f h]
      rcases ih (p + 1) with h1 | ⟨h1, h2, h3⟩
      · exact Or.inl h1
      · exact Or.inr ⟨by omega, by omega, h3⟩
theorem lPos_rng {G t h : Nat → Int} : lPos G t h = -1 ∨ (0 ≤ lPos G t h ∧ lPos G t h < 12 ∧ lTS G t h (lPos G t h)) := by
  unfold lPos
  split
  · rcases lFp_rng (G := G) (t := t) (h := h) 8 0 with h1 | ⟨h1, h2, h3⟩
    · exact Or.inl h1
    · exact Or.inr ⟨by omega, by omega, h3⟩
  · rcases lFp_rng (G := G) (t := t) (h := h) 4 8 with h1 | ⟨h1, h2, h3⟩
    · exact Or.inl h1
    · exact Or.inr ⟨by omega, by omega, h3⟩
theorem sp_sendLoop {I : TT → Prop} (hI1 : ∀ T, I T → ptV T) (hI2 : ∀ T, I T → ¬ tPos T = -1 → okB T (tPos T) 12 1 ∧ I (tBring T (tPos T) 12 1)) (hd : 6 ≤ d) (hq : 90 ≤ q) {R : Int × TT} (kk : ∀ w', ptA w' R.2 → I R.2 → zF ptS w w' → Q (oI R.1) w' cn sn) : ∀ (k : Nat) (s : Int) (T : TT) (w' : zi_W) (x2 : Option Value), s + k = 52 → 0 ≤ s → ptA w' T → I T → zF ptS w w' → R = tS k s T → zw L xs d q 16 22 [some (.ref 0), some (iV s), x2] [] w' cn sn Q := by
  obtain ⟨d, rfl⟩ : ∃ e, d = e + 1 := ⟨d - 1, by omega⟩
  intro k
  induction k with
  | zero =>
    intro s T w' x2 hk hs0 h hI hF he
    refine zw_iload_n z16_22 rfl ?_
    refine zw_bipush z16_23 (v := iI (52)) (by decide +kernel) ?_
    refine zj_icmp_ge z16_25 (by omega) (by omega) (fun h1 => ?_) (fun h1 => ?_)
    · refine zw_bipush z16_57 (v := iI (52)) (by decide +kernel) ?_
      refine zw_iret z16_59 rfl ?_
      have he : R = (s, T) := he
      obtain rfl : s = 52 := by omega
      subst he
      exact kk w' h hI hF
    · exfalso; omega
  | succ k ih =>
    intro s T w' x2 hk hs0 h hI hF he
    have hT := h
    obtain ⟨h0, hg, hy, hp, hs, hr⟩ := h
    unfold ptO at h0
    have y0 := hy.1
    have hV := hI1 T hI
    have hr1 := lPos_rng (G := T.G) (t := T.Y 1) (h := T.Y 2)
    refine zw_iload_n z16_22 rfl ?_
    refine zw_bipush z16_23 (v := iI (52)) (by decide +kernel) ?_
    refine zj_icmp_ge z16_25 (by omega) (by omega) (fun h1 => ?_) (fun h1 => ?_)
    · exfalso; omega
    refine zw_aload_n z16_28 rfl ?_
    refine zw_getf z16_29 (by assumption) (by rfl) ?_
    refine zw_vv (n := 2) z16_32 rfl rfl (by assumption) (Nat.le_of_ble_eq_true rfl) (by omega) (sp_placeOfSafe hg hV.1 hy hV.2.1 (by omega) (by omega)) ?_
    rw [show lPos T.G (T.Y 1) (T.Y 2) = tPos T from rfl] at hr1 ⊢
    refine zw_istore_n z16_35 rfl ?_
    refine zw_iload_n z16_36 rfl ?_
    refine zw_iconst z16_37 (v := iI (-1)) rfl ?_
    refine zj_icmp_ne z16_38 (by omega) (by omega) (fun h2 => ?_) (fun h2 => ?_)
    rotate_left
    · refine zw_iload_n z16_41 rfl ?_
      refine zw_iret z16_42 rfl ?_
      have he : R = (s, T) := he.trans (if_pos (by omega))
      subst he
      exact kk w' hT hI hF
    obtain ⟨o1, o2⟩ := hI2 T hI h2
    have he : R = tS k (s + 1) (tBring T (tPos T) 12 1) := he.trans (if_neg h2)
    refine zw_aload_n z16_43 rfl ?_
    refine zw_iload_n z16_44 rfl ?_
    refine zw_bipush z16_45 (v := iI (12)) (by decide +kernel) ?_
    refine zw_iconst z16_47 (v := iI 1) rfl ?_
    refine zw_cv (n := 5) z16_48 rfl rfl h0 (Nat.le_of_ble_eq_true rfl) (by omega) (sp_bring hT hV (by omega) (by omega) (by omega) o1 (by omega) (by omega)) (fun v w1 cn1 sn1 h => ?_)
    obtain ⟨rfl, rfl, rfl, n1, f1⟩ := h
    refine zj_iinc z16_51 rfl rfl ?_
    refine zw_goto z16_54 ?_
    exact ih (s + 1) _ w1 _ (by omega) (by omega) n1 o2 (hF.trans f1) he
theorem sp_sendHome {I : TT → Prop} (h : ptA w T) (hV : ptV T) (hI : T.Y 3 0 = gAll T.G → I T) (hI1 : ∀ T, I T → ptV T) (hI2 : ∀ T, I T → ¬ tPos T = -1 → okB T (tPos T) 12 1 ∧ I (tBring T (tPos T) 12 1)) (hd : 6 ≤ d) (hq : 90 ≤ q) : zt L xs d q 16 [.ref 0] w cn sn (tO w cn sn (tSend T)) := by
  obtain ⟨d, rfl⟩ : ∃ e, d = e + 1 := ⟨d - 1, by omega⟩
  have hT := h
  obtain ⟨h0, hg, hy, hp, hs, hr⟩ := h
  unfold ptO at h0
  have y0 := hy.1
  refine ⟨_, rfl, ?_⟩
  show zw _ _ _ _ 16 0 [some (.ref 0), none, none] [] _ _ _ _
  refine zw_aload_n z16_0 rfl ?_
  refine zw_getf z16_1 (by assumption) (by rfl) ?_
  refine zw_vv (n := 1) z16_4 rfl rfl (by assumption) (Nat.le_of_ble_eq_true rfl) (by omega) (sp_isAllLaid hg hV.1 hy hV.2.1 (by omega) (by omega)) ?_
  refine zj_b_ne z16_7 (fun k1 => ?_) (fun k1 => ?_)
  rotate_left
  · refine zw_thr (ex := 1) rfl (by omega) (by omega) ?_
    rw [show tSend T = (.inr 1, T) from if_neg k1]
    exact ⟨rfl, rfl, rfl, hT, zF.rf⟩
  rw [show tSend T = _ from if_pos k1]
  refine zw_iconst z16_20 (v := iI 0) rfl ?_
  refine zw_istore_n z16_21 rfl ?_
  exact sp_sendLoop (w := w) hI1 hI2 hd hq (R := tS 52 0 T) (fun w' g1 _ g2 => ⟨rfl, rfl, rfl, g1, g2⟩) 52 0 T w none (by omega) (by omega) hT (hI k1) zF.rf rfl
/-- the deal -/
theorem iI_and31 (z : Int) : iI z &&& iI 2147483647 = iI (z % 2147483648) := by
  apply Int32.toBitVec_inj.1
  show BitVec.ofInt 32 z &&& BitVec.ofInt 32 2147483647 = BitVec.ofInt 32 (z % 2147483648)
  apply BitVec.eq_of_toNat_eq
  rw [BitVec.toNat_and, show (BitVec.ofInt 32 2147483647).toNat = 2 ^ 31 - 1 from rfl, Nat.and_two_pow_sub_one_eq_mod, BitVec.toNat_ofInt, BitVec.toNat_ofInt]
  omega
abbrev dX (x : Int) : Int := (214013 * x + 2531011) % 2147483648
abbrev dD (x l : Int) : Int := dX x / 65536 % l
def dl (G : Nat → Int) : Nat → Int → Int → (Nat → Nat → Int) → (Nat → Int) → (Nat → Nat → Int) × (Nat → Int)
  | 0, _, _, Y, R => (Y, R)
  | k + 1, i, x, Y, R => dl G k (i + 1) (dX x) (yLay Y (i % G 0) (R (dD x ((k : Int) + 1)).toNat)) (iU R (dD x ((k : Int) + 1)).toNat (R k))
abbrev tDl (T : TT) (n : Int) : (Nat → Nat → Int) × (Nat → Int) := dl T.G (gAll T.G).toNat 0 n (yCl T.Y) (iCp (fun j => (j : Int)) T.R (gAll T.G).toNat)
def tDeal (T : TT) (n : Int) : zi_O × TT := if 0 ≤ n ∧ n ≤ 32000 then (.inl none, TT.mk T.G (tDl T n).1 (pN T.P 0 0) T.S (tDl T n).2 (-1)) else (.inr 0, T)
theorem yLay_V {Y : Nat → Nat → Int} (hV : lyW Y) (hc : 0 ≤ c ∧ c ≤ 51) (hl : Y 3 0 ≤ 51) : lyW (yLay Y z c) := by
  obtain ⟨a1, a2, a3, a4, a5⟩ := hV
  refine ⟨iU_rng a1 ?_, iU_rng a2 (by omega), a3, ?_, a5⟩
  · have := a2 z.toNat
    omega
  · show 0 ≤ Y 3 0 + 1 ∧ Y 3 0 + 1 ≤ 52
    omega
theorem iFi_rng {f : Nat → Int} {n : Nat} {v lo hi : Int} (hf : ∀ j, lo ≤ f j ∧ f j ≤ hi) (hv : lo ≤ v ∧ v ≤ hi) : ∀ j, lo ≤ iFi f n v j ∧ iFi f n v j ≤ hi := by
  intro j
  unfold iFi
  split
  · exact hv
  · exact hf j
theorem yCl_V {Y : Nat → Nat → Int} (hV : lyW Y) : lyW (yCl Y) := ⟨iFi_rng hV.1 (by omega), iFi_rng hV.2.1 (by omega), iFi_rng hV.2.2.1 (by omega), ⟨by show (0 : Int) ≤ 0; omega, by show (0 : Int) ≤ 52; omega⟩, ⟨by show (0 : Int) ≤ 0; omega, by show (0 : Int) ≤ 52; omega⟩⟩
theorem lp_dl1 {T : TT} (hG : gmV T.G) (kk : ∀ w', ptA w' (TT.mk T.G T.Y T.P T.S (iCp (fun j => (j : Int)) T.R (gAll T.G).toNat) T.hi) → zF ptS w w' → zw L xs d q 11 53 [some (.ref 0), some (iV u), some (iV (gAll T.G)), some (iV (gAll T.G)), none, none, none] [] w' cn sn Q) : ∀ (k n : Nat) (w' : zi_W), (n : Int) + k = gAll T.G → ptA w' (TT.mk T.G T.Y T.P T.S (iCp (fun j => (j : Int)) T.R n) T.hi) → zF ptS w w' → zw L xs d q 11 35 [some (.ref 0), some (iV u), some (iV (gAll T.G)), some (iV n), none, none, none] [] w' cn sn Q := by
  have hA := gAll_rng hG
  intro k
  induction k with
  | zero =>
    intro n w' hk h hF
    have e1 : (n : Int) = gAll T.G := by omega
    refine zw_iload_n z11_35 rfl ?_
    refine zw_iload_n z11_36 rfl ?_
    refine zj_icmp_ge z11_37 (by omega) (by omega) (fun h1 => ?_) (fun h1 => ?_)
    · have := kk w'
      rw [← e1] at this ⊢
      exact this h hF
    · exfalso; omega
  | succ k ih =>
    intro n w' hk h hF
    have hT := h
    obtain ⟨h0, hg, hy, hp, hs, hr⟩ := h
    unfold ptO at h0
    refine zw_iload_n z11_35 rfl ?_
    refine zw_iload_n z11_36 rfl ?_
    refine zj_icmp_ge z11_37 (by omega) (by omega) (fun h1 => ?_) (fun h1 => ?_)
    · exfalso; omega
    refine zw_aload_n z11_40 rfl ?_
    refine zw_getf z11_41 (by assumption) (by rfl) ?_
    refine zw_iload_n z11_44 rfl ?_
    refine zw_iload_n z11_45 rfl ?_
    refine zj_astG z11_46 hr (by omega) (by decide) (fun w1 n1 f1 => ?_)
    refine zj_iinc z11_47 rfl rfl ?_
    refine zw_goto z11_50 ?_
    have hc : iU (iCp (fun j => (j : Int)) T.R n) n (n : Int) = iCp (fun j => (j : Int)) T.R (n + 1) := by
      funext j
      unfold iU iCp
      by_cases hj : j = n
      · subst hj
        rw [if_pos rfl, if_pos (by omega)]
      · rw [if_neg hj]
        by_cases hj2 : j < n
        · rw [if_pos hj2, if_pos (by omega)]
        · rw [if_neg hj2, if_neg (by omega)]
    have n1 : zi_get w1 816 = some (.inl (0, 52, .inl (iA (iCp (fun j => (j : Int)) T.R (n + 1))))) := by
      rw [← hc]; exact n1
    have := ih (n + 1) w1 (by omega) ⟨(f1.2 0 (by omega)).trans h0, (f1.2 1 (by omega)).trans hg, lyA.keep hy fun j h1 h2 => f1.2 j (by omega), lgA.keep hp fun j h1 h2 => f1.2 j (by omega), seT_keep hs fun j h1 h2 => f1.2 j (by omega), n1⟩ (hF.step f1 (by omega))
    rwa [show ((n + 1 : Nat) : Int) = (n : Int) + 1 by omega] at this
theorem lp_dl2 {G : Nat → Int} {P : Nat → Nat → Int} {S : SS} {h9 : Int} (hG : gmV G) {D : (Nat → Nat → Int) × (Nat → Int)} (hq : 22 ≤ q) (hd : 1 ≤ d) (kk : ∀ w', ptA w' (TT.mk G D.1 P S D.2 h9) → zF ptS w w' → Q (.inl none) w' cn sn) : ∀ (k : Nat) (i x : Int) (Y : Nat → Nat → Int) (R : Nat → Int) (w' : zi_W) (x5 x6 : Option Value), i + k = gAll G → 0 ≤ i → 0 ≤ x ∧ x < 2147483648 → lyW Y → Y 3 0 = i → (∀ j, 0 ≤ R j ∧ R j ≤ 51) → ptA w' (TT.mk G Y P S R h9) → zF ptS w w' → D = dl G k i x Y R → zw L xs d q 11 58 [some (.ref 0), some (iV u), some (iV (gAll G)), some (iV x), some (iV i), x5, x6] [] w' cn sn Q := by
  have hA := gAll_rng hG
  obtain ⟨d, rfl⟩ : ∃ e, d = e + 1 := ⟨d - 1, by omega⟩
  intro k
  induction k with
  | zero =>
    intro i x Y R w' x5 x6 hk hi hx hV hl hR h hF he
    refine zw_iload z11_58 rfl ?_
    refine zw_iload_n z11_60 rfl ?_
    refine zj_icmp_ge z11_61 (by omega) (by omega) (fun h1 => ?_) (fun h1 => ?_)
    · refine zw_vret z11_136 rfl ?_
      have he : D = (Y, R) := he
      subst he
      exact kk w' h hF
    · exfalso; omega
  | succ k ih =>
    intro i x Y R w' x5 x6 hk hi hx hV hl hR h hF he
    have hT := h
    obtain ⟨h0, hg, hy, hp, hs, hr⟩ := h
    unfold ptO at h0
    have hg : gmA w' 1 G := hg
    have hg' := hg
    unfold gmA at hg'
    have y0 := hy.1
    have hG' := hG
    unfold gmV at hG'
    refine zw_iload z11_58 rfl ?_
    refine zw_iload_n z11_60 rfl ?_
    refine zj_icmp_ge z11_61 (by omega) (by omega) (fun h1 => ?_) (fun h1 => ?_)
    · exfalso; omega
    refine zw_iload_n z11_64 rfl ?_
    refine zw_iload z11_65 rfl ?_
    refine zj_sub z11_67 ?_
    refine zw_istore z11_68 rfl ?_
    refine zj_ldc z11_70 (z := (214013)) (by decide +kernel) ?_
    refine zw_iload_n z11_72 rfl ?_
    refine zj_mul z11_73 ?_
    refine zj_ldc z11_74 (z := (2531011)) (by decide +kernel) ?_
    refine zj_add z11_76 ?_
    refine zj_ldc z11_77 (z := (2147483647)) (by decide +kernel) ?_
    refine zw_iand z11_79 ?_
    rw [iI_and31]
    have hx1 : 0 ≤ dX x ∧ dX x < 2147483648 := by unfold dX; omega
    have he : D = dl G k (i + 1) (dX x) (yLay Y (i % G 0) (R (dD x ((k : Int) + 1)).toNat)) (iU R (dD x ((k : Int) + 1)).toNat (R k)) := he
    rw [show (214013 * x + 2531011) % 2147483648 = dX x from rfl]
    unfold dD at he
    generalize dX x = x1 at *
    have hlk : gAll G - i = (k : Int) + 1 := by omega
    have hq1 : 0 ≤ x1 / 65536 ∧ x1 / 65536 < 32768 := by omega
    rw [hlk]
    have hdr : 0 ≤ x1 / 65536 % ((k : Int) + 1) ∧ x1 / 65536 % ((k : Int) + 1) < (k : Int) + 1 := ⟨Int.emod_nonneg _ (by omega), Int.emod_lt_of_pos _ (by omega)⟩
    have hic : 0 ≤ i % G 0 ∧ i % G 0 < G 0 := ⟨Int.emod_nonneg _ (by omega), Int.emod_lt_of_pos _ (by omega)⟩
    refine zw_istore_n z11_80 rfl ?_
    refine zw_iload_n z11_81 rfl ?_
    refine zj_ldc z11_82 (z := (65536)) (by decide +kernel) ?_
    refine zj_div z11_84 (by omega) (by omega) ?_
    refine zw_iload z11_85 rfl ?_
    refine zj_rem z11_87 (by omega) (by omega) ?_
    generalize x1 / 65536 % ((k : Int) + 1) = dr at *
    have hRd := hR dr.toNat
    refine zw_istore z11_88 rfl ?_
    refine zw_aload_n z11_90 rfl ?_
    refine zw_getf z11_91 (by assumption) (by rfl) ?_
    refine zw_iload z11_94 rfl ?_
    refine zw_aload_n z11_96 rfl ?_
    refine zw_getf z11_97 (by assumption) (by rfl) ?_
    refine zw_getf z11_100 (by assumption) (by rfl) ?_
    refine zj_rem z11_103 (by omega) (by omega) ?_
    generalize i % G 0 = ic at *
    refine zw_aload_n z11_104 rfl ?_
    refine zw_getf z11_105 (by assumption) (by rfl) ?_
    refine zw_iload z11_108 rfl ?_
    refine zj_ald z11_110 hr (by omega) (by decide) ?_
    refine zw_cv (n := 3) z11_111 rfl rfl y0 (Nat.le_of_ble_eq_true rfl) (by omega) (sp_layOn hy hV (by omega) (show 0 ≤ R dr.toNat ∧ R dr.toNat < 52 by omega)) (fun v w1 cn1 sn1 h => ?_)
    obtain ⟨rfl, rfl, rfl, n1, f1⟩ := h
    have h0 := (f1.2 0 (by omega)).trans h0
    have hr := (f1.2 816 (by omega)).trans hr
    refine zw_aload_n z11_114 rfl ?_
    refine zw_getf z11_115 (by assumption) (by rfl) ?_
    refine zw_iload z11_118 rfl ?_
    refine zw_aload_n z11_120 rfl ?_
    refine zw_getf z11_121 (by assumption) (by rfl) ?_
    refine zw_iload z11_124 rfl ?_
    refine zw_iconst z11_126 (v := iI 1) rfl ?_
    refine zj_sub z11_127 ?_
    refine zj_ald z11_128 hr (by omega) (by decide) ?_
    refine zj_astG z11_129 hr (by omega) (by decide) (fun w2 n2 f2 => ?_)
    refine zj_iinc z11_130 rfl rfl ?_
    refine zw_goto z11_133 ?_
    have n2 : zi_get w2 816 = some (.inl (0, 52, .inl (iA (iU R dr.toNat (R k))))) := by
      rw [show R k = (TT.mk G Y P S R h9).R ((k : Int) + 1 - 1).toNat from congrArg R (by omega)]
      exact n2
    have f3 : ∀ j, 6 ≤ j → j ≠ 816 → zi_get w2 j = zi_get w' j := fun j h1 h2 => (f2.2 j (by omega)).trans (f1.2 j (by omega))
    exact ih (i + 1) x1 (yLay Y ic (R dr.toNat)) (iU R dr.toNat (R k)) w2 _ _ (by omega) (by omega) hx1 (yLay_V hV hRd (by omega)) (show Y 3 0 + 1 = i + 1 by omega) (iU_rng hR (hR k)) ⟨(f2.2 0 (by omega)).trans h0, (f2.2 1 (by omega)).trans ((f1.2 1 (by omega)).trans hg), lyA.keep n1 fun j h1 h2 => f2.2 j (by omega), lgA.keep hp fun j h1 h2 => f3 j (by omega) (by omega), seT_keep hs fun j h1 h2 => f3 j (by omega) (by omega), n2⟩ ((hF.trans (f1.sub fun j hj => by omega)).step f2 (by omega)) he
theorem sp_deal (h : ptA w T) (hV : ptV T) (hu : iR u) (hd : 6 ≤ d) (hq : 90 ≤ q) : zt L xs d q 11 [.ref 0, iV u] w cn sn (tO w cn sn (tDeal T u)) := by
  obtain ⟨d, rfl⟩ : ∃ e, d = e + 1 := ⟨d - 1, by omega⟩
  have hT := h
  obtain ⟨h0, hg, hy, hp, hs, hr⟩ := h
  unfold ptO at h0
  have hG := hV.1
  have hA := gAll_rng hG
  refine ⟨_, rfl, ?_⟩
  show zw _ _ _ _ 11 0 [some (.ref 0), some (iV u), none, none, none, none, none] [] _ _ _ _
  refine zw_iload_n z11_0 rfl ?_
  refine zw_iconst z11_1 (v := iI 0) rfl ?_
  refine zw_sipush z11_2 (v := iI (32000)) (by decide +kernel) ?_
  refine zw_vs (n := 3) z11_5 rfl rfl (Nat.le_of_ble_eq_true rfl) (by omega) (sp_isWithin hu (by omega) (by omega)) ?_
  refine zj_b_ne z11_8 (fun k1 => ?_) (fun k1 => ?_)
  rotate_left
  · refine zw_thr (ex := 0) rfl (by omega) (by omega) ?_
    rw [show tDeal T u = (.inr 0, T) from if_neg k1]
    exact ⟨rfl, rfl, rfl, hT, zF.rf⟩
  rw [show tDeal T u = _ from if_pos k1]
  refine zw_aload_n z11_21 rfl ?_
  refine zw_cv (n := 1) z11_22 rfl rfl h0 (Nat.le_of_ble_eq_true rfl) (by omega) (sp_clear hT (by omega) (by omega)) (fun v w1 cn1 sn1 h => ?_)
  obtain ⟨rfl, rfl, rfl, h1, f1⟩ := h
  have m0 : zi_get w1 0 = some (.inr (0, [.ref 1, .ref 2, .ref 6, .ref 11, .ref 816, iV (-1)])) := h1.1
  have m1 : gmA w1 1 T.G := h1.2.1
  have m1' := m1
  unfold gmA at m1'
  refine zw_aload_n z11_25 rfl ?_
  refine zw_getf z11_26 (by assumption) (by rfl) ?_
  refine zw_vv (n := 1) z11_29 rfl rfl (by assumption) (Nat.le_of_ble_eq_true rfl) (by omega) (sp_cardCount m1) ?_
  refine zw_istore_n z11_32 rfl ?_
  refine zw_iconst z11_33 (v := iI 0) rfl ?_
  refine zw_istore_n z11_34 rfl ?_
  refine lp_dl1 (T := tClr T) (w := w) hG (fun w2 g1 g2 => ?_) (gAll T.G).toNat 0 w1 (by show ((0 : Nat) : Int) + _ = gAll T.G; omega) (by
    rw [show iCp (fun j => (j : Int)) (tClr T).R 0 = (tClr T).R from funext fun j => if_neg (by omega)]
    exact h1) f1
  refine zw_iload_n z11_53 rfl ?_
  refine zw_istore_n z11_54 rfl ?_
  refine zw_iconst z11_55 (v := iI 0) rfl ?_
  refine zw_istore z11_56 rfl ?_
  exact lp_dl2 (w := w) (G := T.G) (D := tDl T u) hG (by omega) (by omega) (fun w3 e1 e2 => ⟨rfl, rfl, rfl, e1, e2⟩) (gAll T.G).toNat 0 u (yCl T.Y) _ w2 none none (by omega) (by omega) (by omega) (yCl_V hV.2.1) rfl (fun j => by
    unfold iCp
    split
    · show 0 ≤ (j : Int) ∧ (j : Int) ≤ 51; rename_i hj; have hj : j < (gAll T.G).toNat := hj; omega
    · exact hV.2.2.2.2 j) g1 g2 rfl
end ZPK
