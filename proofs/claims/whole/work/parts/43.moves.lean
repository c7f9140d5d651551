/-! The class Layout: which moves are allowed, what is safe. (Laid out by gen/tpl.py from tpl/43.moves.tpl.) -/
section ZMV
variable {d q a : Nat} {w : zi_W} {G b t h : Nat → Int} {la ah z y m c : Int}
theorem lEm_rng : ∀ (n : Nat) (p : Int), 0 ≤ lEm t n p ∧ lEm t n p ≤ n := by
  intro n
  induction n with
  | zero => intro p; exact ⟨Int.le_refl _, Int.le_refl _⟩
  | succ n ih =>
    intro p
    have h1 := ih (p + 1)
    by_cases hp : t p.toNat = -1
    · rw [lEm_1 hp]; omega
    · rw [lEm_0 hp]; omega
theorem lRw_rng : ∀ (n : Nat) (c : Int), 0 ≤ lRw G b n c ∧ lRw G b n c ≤ n := by
  intro n
  induction n with
  | zero => intro p; exact ⟨Int.le_refl _, Int.le_refl _⟩
  | succ n ih =>
    intro c
    have h1 := ih (b c.toNat)
    by_cases hp : 0 ≤ b c.toNat ∧ gFit G c (b c.toNat)
    · rw [lRw_s hp]; omega
    · rw [lRw_e hp]; omega
theorem lRow_rng : 0 ≤ lRow G b t z ∧ lRow G b t z ≤ 13 := by
  have h1 := lRw_rng (G := G) (b := b) 12 (t z.toNat)
  unfold lRow
  split <;> omega
/-- one card from z to y -/
abbrev lOne (G t h : Nat → Int) (z y : Int) : Prop := t z.toNat ≠ -1 ∧ z ≠ y ∧ (if gCol G y then lBears G t y (t z.toNat) else if gCel G y then gCol G z ∧ t y.toNat = -1 else y = 12 ∧ lMay G h (t z.toNat))
theorem sp_allowsOne (hg : gmA w 1 G) (hG : gmV G) (hy : lyA w a b t h la ah) (hV : lyV b t h la ah) (hz : 0 ≤ z ∧ z < 12) (hz2 : 0 ≤ y ∧ y ≤ 12) (hd : 3 ≤ d) (hq : 65 ≤ q) : zv d q 50 [.ref a, iV z, iV y] w (iI (b2 (lOne G t h z y))) := by
  intro L xs cn sn
  obtain ⟨d, rfl⟩ : ∃ e, d = e + 1 := ⟨d - 1, by omega⟩
  have hg' := hg
  unfold gmA at hg'
  obtain ⟨y0, y1, y2, y3⟩ := hy
  have hy : lyA w a b t h la ah := ⟨y0, y1, y2, y3⟩
  have hV' := hV
  obtain ⟨hV1, hV2, hV3, hV4, hV5⟩ := hV'
  have hG' := hG
  unfold gmV at hG'
  refine ⟨_, rfl, ?_⟩
  show zw _ _ _ _ 50 0 [some (.ref a), some (iV z), some (iV y), none] [] _ _ _ _
  refine zw_aload_n z50_0 rfl ?_
  refine zw_getf z50_1 (by assumption) (by rfl) ?_
  refine zw_iload_n z50_4 rfl ?_
  refine zj_aldB z50_5 (by assumption) (by omega) (by decide) hV2 (fun v5 e5 r5 => ?_)
  refine zw_istore_n z50_6 rfl ?_
  refine zw_iload_n z50_7 rfl ?_
  refine zw_iconst z50_8 (v := iI (-1)) rfl ?_
  refine zj_icmp_eq z50_9 (by omega) (by omega) (fun h9 => ?_) (fun h9 => ?_)
  · refine zw_iconst z50_17 (v := iI 0) rfl ?_
    refine zj_bret z50_18 rfl (by first | exact b2_r | omega) ?_
    exact zv_end (by unfold lOne; first | rw [b2_f (by omega)] | (congr 1; apply b2_c; subst e5; grind) | (rw [b2_f (by subst e5; grind)]) | (rw [b2_t (by subst e5; grind)]))
  · refine zw_iload_n z50_12 rfl ?_
    refine zw_iload_n z50_13 rfl ?_
    refine zj_icmp_ne z50_14 (by omega) (by omega) (fun h14 => ?_) (fun h14 => ?_)
    · refine zw_aload_n z50_19 rfl ?_
      refine zw_getf z50_20 (by assumption) (by rfl) ?_
      refine zw_iload_n z50_23 rfl ?_
      refine zw_vv (n := 2) z50_24 rfl rfl (by assumption) (Nat.le_of_ble_eq_true rfl) (by omega) (sp_isColumn hg hG (by omega)) ?_
      refine zj_b_eq z50_27 (fun h27 => ?_) (fun h27 => ?_)
      · refine zw_aload_n z50_37 rfl ?_
        refine zw_getf z50_38 (by assumption) (by rfl) ?_
        refine zw_iload_n z50_41 rfl ?_
        refine zw_vv (n := 2) z50_42 rfl rfl (by assumption) (Nat.le_of_ble_eq_true rfl) (by omega) (sp_isCell hg hG (by omega)) ?_
        refine zj_b_eq z50_45 (fun h45 => ?_) (fun h45 => ?_)
        · refine zw_iload_n z50_75 rfl ?_
          refine zw_bipush z50_76 (v := iI (12)) (by decide +kernel) ?_
          refine zj_icmp_ne z50_78 (by omega) (by omega) (fun h78 => ?_) (fun h78 => ?_)
          · refine zw_iconst z50_93 (v := iI 0) rfl ?_
            refine zj_bret z50_94 rfl (by first | exact b2_r | omega) ?_
            exact zv_end (by unfold lOne; first | rw [b2_f (by omega)] | (congr 1; apply b2_c; subst e5; grind) | (rw [b2_f (by subst e5; grind)]) | (rw [b2_t (by subst e5; grind)]))
          · refine zw_aload_n z50_81 rfl ?_
            refine zw_iload_n z50_82 rfl ?_
            refine zw_vv (n := 2) z50_83 rfl rfl (by assumption) (Nat.le_of_ble_eq_true rfl) (by omega) (sp_mayGoHome hg hG hy hV (by omega) (by omega) (by omega)) ?_
            refine zj_b_eq z50_86 (fun h86 => ?_) (fun h86 => ?_)
            · refine zw_iconst z50_93 (v := iI 0) rfl ?_
              refine zj_bret z50_94 rfl (by first | exact b2_r | omega) ?_
              exact zv_end (by unfold lOne; first | rw [b2_f (by omega)] | (congr 1; apply b2_c; subst e5; grind) | (rw [b2_f (by subst e5; grind)]) | (rw [b2_t (by subst e5; grind)]))
            · refine zw_iconst z50_89 (v := iI 1) rfl ?_
              refine zw_goto z50_90 ?_
              refine zj_bret z50_94 rfl (by first | exact b2_r | omega) ?_
              exact zv_end (by unfold lOne; first | rw [b2_f (by omega)] | (congr 1; apply b2_c; subst e5; grind) | (rw [b2_f (by subst e5; grind)]) | (rw [b2_t (by subst e5; grind)]))
        · refine zw_aload_n z50_48 rfl ?_
          refine zw_getf z50_49 (by assumption) (by rfl) ?_
          refine zw_iload_n z50_52 rfl ?_
          refine zw_vv (n := 2) z50_53 rfl rfl (by assumption) (Nat.le_of_ble_eq_true rfl) (by omega) (sp_isColumn hg hG (by omega)) ?_
          refine zj_b_eq z50_56 (fun h56 => ?_) (fun h56 => ?_)
          · refine zw_iconst z50_73 (v := iI 0) rfl ?_
            refine zj_bret z50_74 rfl (by first | exact b2_r | omega) ?_
            exact zv_end (by unfold lOne; first | rw [b2_f (by omega)] | (congr 1; apply b2_c; subst e5; grind) | (rw [b2_f (by subst e5; grind)]) | (rw [b2_t (by subst e5; grind)]))
          · refine zw_aload_n z50_59 rfl ?_
            refine zw_getf z50_60 (by assumption) (by rfl) ?_
            refine zw_iload_n z50_63 rfl ?_
            refine zj_aldB z50_64 (by assumption) (by omega) (by decide) hV2 (fun v64 e64 r64 => ?_)
            refine zw_iconst z50_65 (v := iI (-1)) rfl ?_
            refine zj_icmp_ne z50_66 (by omega) (by omega) (fun h66 => ?_) (fun h66 => ?_)
            · refine zw_iconst z50_73 (v := iI 0) rfl ?_
              refine zj_bret z50_74 rfl (by first | exact b2_r | omega) ?_
              exact zv_end (by unfold lOne; first | rw [b2_f (by omega)] | (congr 1; apply b2_c; subst e5; grind) | (rw [b2_f (by subst e5; grind)]) | (rw [b2_t (by subst e5; grind)]))
            · refine zw_iconst z50_69 (v := iI 1) rfl ?_
              refine zw_goto z50_70 ?_
              refine zj_bret z50_74 rfl (by first | exact b2_r | omega) ?_
              exact zv_end (by unfold lOne; first | rw [b2_f (by omega)] | (congr 1; apply b2_c; subst e5; grind) | (rw [b2_f (by subst e5; grind)]) | (rw [b2_t (by subst e5; grind)]))
      · refine zw_aload_n z50_30 rfl ?_
        refine zw_iload_n z50_31 rfl ?_
        refine zw_iload_n z50_32 rfl ?_
        refine zw_vv (n := 3) z50_33 rfl rfl (by assumption) (Nat.le_of_ble_eq_true rfl) (by omega) (sp_bears hg hG hy hV (by omega) (by omega) (by omega) (by omega)) ?_
        refine zj_bret z50_36 rfl (by first | exact b2_r | omega) ?_
        exact zv_end (by unfold lOne; first | rw [b2_f (by omega)] | (congr 1; apply b2_c; subst e5; grind) | (rw [b2_f (by subst e5; grind)]) | (rw [b2_t (by subst e5; grind)]))
    · refine zw_iconst z50_17 (v := iI 0) rfl ?_
      refine zj_bret z50_18 rfl (by first | exact b2_r | omega) ?_
      exact zv_end (by unfold lOne; first | rw [b2_f (by omega)] | (congr 1; apply b2_c; subst e5; grind) | (rw [b2_f (by subst e5; grind)]) | (rw [b2_t (by subst e5; grind)]))
theorem iI_shl : ∀ a : Nat, a < 6 → ∀ n : Nat, n < 9 → iI (a : Int) <<< (iI (n : Int) &&& 31) = iI ((a : Int) * 2 ^ n) := by decide +kernel
theorem zj_shl {L : Nat} {xs : Nat → Int32} {k pc p : Nat} {ls : zi_L} {st : List Value} {cn sn : Nat} {Q : zi_O → zi_W → Nat → Nat → Prop} {e f : Int} (hc : za k pc .ishl p) (he : 0 ≤ e ∧ e < 6) (hf : 0 ≤ f ∧ f < 9) (kk : zw L xs d q k p ls (iV (e * 2 ^ f.toNat) :: st) w cn sn Q) : zw L xs d q k pc ls (iV f :: iV e :: st) w cn sn Q := by
  refine zw_ishl hc ?_
  have h1 := iI_shl e.toNat (by omega) f.toNat (by omega)
  rw [show ((e.toNat : Nat) : Int) = e by omega, show ((f.toNat : Nat) : Int) = f by omega] at h1
  rw [h1]
  exact kk
theorem lEm_pos : ∀ (n : Nat) (p y : Int), 0 ≤ p → p ≤ y → y < p + n → t y.toNat = -1 → 1 ≤ lEm t n p := by
  intro n
  induction n with
  | zero => intro p y h0 h1 h2; omega
  | succ n ih =>
    intro p y h0 h1 h2 h3
    have r := lEm_rng (t := t) n (p + 1)
    by_cases hp : t p.toNat = -1
    · rw [lEm_1 hp]; omega
    · rw [lEm_0 hp]
      refine ih (p + 1) y (by omega) (Int.not_lt.mp fun h => ?_) (by omega) h3
      have : p = y := by omega
      rw [this] at hp
      exact hp h3
/-- how many cards may go to column y at once -/
abbrev lHlp (G t : Nat → Int) (y : Int) : Int := if t y.toNat = -1 then lEm t (G 0).toNat 0 - 1 else lEm t (G 0).toNat 0
abbrev lMst (G t : Nat → Int) (y : Int) : Int := if G 3 = 0 then (lEm t (G 1).toNat 8 + 1) * 2 ^ (lHlp G t y).toNat else lEm t (G 1).toNat 8 + 1
theorem lHlp_rng (hG : gmV G) (hy : gCol G y) : 0 ≤ lHlp G t y ∧ lHlp G t y ≤ 8 := by
  unfold gmV at hG
  have r := lEm_rng (t := t) (G 0).toNat 0
  unfold lHlp
  split
  · rename_i h
    have := lEm_pos (t := t) (G 0).toNat 0 y (by omega) (by omega) (by omega) h
    omega
  · omega
theorem pw2 : ∀ n : Nat, n < 9 → (1 : Int) ≤ 2 ^ n ∧ (2 : Int) ^ n ≤ 256 := by decide
theorem lMst_rng (hG : gmV G) (hy : gCol G y) : 1 ≤ lMst G t y ∧ lMst G t y ≤ 1280 := by
  have r1 := lHlp_rng (t := t) hG hy
  unfold gmV at hG
  have r2 := lEm_rng (t := t) (G 1).toNat 8
  unfold lMst
  split
  · obtain ⟨h2, h1⟩ := pw2 (lHlp G t y).toNat (by omega)
    have h3 : (lEm t (G 1).toNat 8 + 1) * 2 ^ (lHlp G t y).toNat ≤ 5 * 256 := Int.mul_le_mul (by omega) h1 (by omega) (by omega)
    have h4 : 1 * 1 ≤ (lEm t (G 1).toNat 8 + 1) * 2 ^ (lHlp G t y).toNat := Int.mul_le_mul (by omega) h2 (by omega) (by omega)
    omega
  · omega
theorem sp_mostAtOnce (hg : gmA w 1 G) (hG : gmV G) (hy : lyA w a b t h la ah) (hV : lyV b t h la ah) (hz : gCol G y) (hd : 1 ≤ d) (hq : 24 ≤ q) : zv d q 54 [.ref a, iV y] w (iI (lMst G t y)) := by
  intro L xs cn sn
  obtain ⟨d, rfl⟩ : ∃ e, d = e + 1 := ⟨d - 1, by omega⟩
  have hg' := hg
  unfold gmA at hg'
  obtain ⟨y0, y1, y2, y3⟩ := hy
  have hy : lyA w a b t h la ah := ⟨y0, y1, y2, y3⟩
  have hV' := hV
  obtain ⟨hV1, hV2, hV3, hV4, hV5⟩ := hV'
  have rh := lHlp_rng (t := t) hG hz
  have hG' := hG
  unfold gmV at hG'
  have r1 := lEm_rng (t := t) (G 1).toNat 8
  have r2 := lEm_rng (t := t) (G 0).toNat 0
  refine ⟨_, rfl, ?_⟩
  show zw _ _ _ _ 54 0 [some (.ref a), some (iV y), none, none, none] [] _ _ _ _
  refine zw_aload_n z54_0 rfl ?_
  refine zw_bipush z54_1 (v := iI (8)) (by decide +kernel) ?_
  refine zw_aload_n z54_3 rfl ?_
  refine zw_getf z54_4 (by assumption) (by rfl) ?_
  refine zw_getf z54_7 (by assumption) (by rfl) ?_
  refine zw_vv (n := 5) z54_10 rfl rfl (by assumption) (Nat.le_of_ble_eq_true rfl) (by omega) (sp_emptyAmong hy hV (by omega)) ?_
  refine zw_istore_n z54_13 rfl ?_
  refine zw_aload_n z54_14 rfl ?_
  refine zw_getf z54_15 (by assumption) (by rfl) ?_
  refine zw_getf z54_18 (by assumption) (by rfl) ?_
  refine zj_if_eq z54_21 (by omega) (fun h21 => ?_) (fun h21 => ?_)
  · refine zw_aload_n z54_28 rfl ?_
    refine zw_iconst z54_29 (v := iI 0) rfl ?_
    refine zw_aload_n z54_30 rfl ?_
    refine zw_getf z54_31 (by assumption) (by rfl) ?_
    refine zw_getf z54_34 (by assumption) (by rfl) ?_
    refine zw_vv (n := 5) z54_37 rfl rfl (by assumption) (Nat.le_of_ble_eq_true rfl) (by omega) (sp_emptyAmong hy hV (by omega)) ?_
    refine zw_istore_n z54_40 rfl ?_
    refine zw_aload_n z54_41 rfl ?_
    refine zw_getf z54_42 (by assumption) (by rfl) ?_
    refine zw_iload_n z54_45 rfl ?_
    refine zj_aldB z54_46 (by assumption) (by omega) (by decide) hV2 (fun v46 e46 r46 => ?_)
    refine zw_iconst z54_47 (v := iI (-1)) rfl ?_
    refine zj_icmp_ne z54_48 (by omega) (by omega) (fun h48 => ?_) (fun h48 => ?_)
    · refine zw_iload_n z54_57 rfl ?_
      refine zw_istore z54_58 rfl ?_
      refine zw_iload_n z54_60 rfl ?_
      refine zw_iconst z54_61 (v := iI 1) rfl ?_
      refine zj_add z54_62 ?_
      refine zw_iload z54_63 rfl ?_
      unfold lHlp at rh
      first | (rw [if_pos (by omega)] at rh) | (rw [if_neg (by omega)] at rh)
      refine zj_shl z54_65 (by omega) (by omega) ?_
      refine zw_iret z54_66 rfl ?_
      exact zv_end (by unfold lMst lHlp; rw [if_pos (by omega)]; first | (rw [if_pos (by omega)]) | (rw [if_neg (by omega)]))
    · refine zw_iload_n z54_51 rfl ?_
      refine zw_iconst z54_52 (v := iI 1) rfl ?_
      refine zj_sub z54_53 ?_
      refine zw_goto z54_54 ?_
      refine zw_istore z54_58 rfl ?_
      refine zw_iload_n z54_60 rfl ?_
      refine zw_iconst z54_61 (v := iI 1) rfl ?_
      refine zj_add z54_62 ?_
      refine zw_iload z54_63 rfl ?_
      unfold lHlp at rh
      first | (rw [if_pos (by omega)] at rh) | (rw [if_neg (by omega)] at rh)
      refine zj_shl z54_65 (by omega) (by omega) ?_
      refine zw_iret z54_66 rfl ?_
      exact zv_end (by unfold lMst lHlp; rw [if_pos (by omega)]; first | (rw [if_pos (by omega)]) | (rw [if_neg (by omega)]))
  · refine zw_iload_n z54_24 rfl ?_
    refine zw_iconst z54_25 (v := iI 1) rfl ?_
    refine zj_add z54_26 ?_
    refine zw_iret z54_27 rfl ?_
    exact zv_end (by unfold lMst; rw [if_neg (by omega)])
theorem lDn_row : ∀ (n j : Nat) (c : Int), 0 ≤ c → (j : Int) ≤ lRw G b n c → 0 ≤ lDn b j c := by
  intro n
  induction n with
  | zero =>
    intro j c hc hj
    have : j = 0 := by have : lRw G b 0 c = 0 := rfl; omega
    subst this
    exact hc
  | succ n ih =>
    intro j c hc hj
    cases j with
    | zero => exact hc
    | succ j =>
      by_cases hp : 0 ≤ b c.toNat ∧ gFit G c (b c.toNat)
      · rw [lRw_s hp] at hj
        rw [lDn_s (by omega)]
        exact ih j _ hp.1 (by omega)
      · rw [lRw_e hp] at hj
        omega
theorem lCard_row (hV : lyV b t h la ah) (h1 : 1 ≤ m) (h2 : m ≤ lRow G b t z) : 0 ≤ lCard b t z (m - 1) ∧ lCard b t z (m - 1) ≤ 51 := by
  have hV2 := hV.2.1 z.toNat
  unfold lRow at h2
  split at h2
  · omega
  · have h3 := lDn_row (G := G) (b := b) 12 (m - 1).toNat (t z.toNat) (by omega) (by omega)
    have h4 := lDn_rng hV.1 (m - 1).toNat (t z.toNat) (by omega)
    unfold lCard
    rw [if_neg (by omega), if_neg (by omega)]
    omega
abbrev lRws (G b t : Nat → Int) (z y m : Int) : Prop := gCol G z ∧ gCol G y ∧ z ≠ y ∧ m ≤ lRow G b t z ∧ m ≤ lMst G t y ∧ lBears G t y (lCard b t z (m - 1))
theorem sp_allowsRow (hg : gmA w 1 G) (hG : gmV G) (hy : lyA w a b t h la ah) (hV : lyV b t h la ah) (hz : 0 ≤ z ∧ z < 12) (hz2 : 0 ≤ y ∧ y ≤ 12) (hm : 1 ≤ m ∧ m < 2147483648) (hd : 3 ≤ d) (hq : 66 ≤ q) : zv d q 51 [.ref a, iV z, iV y, iV m] w (iI (b2 (lRws G b t z y m))) := by
  intro L xs cn sn
  obtain ⟨d, rfl⟩ : ∃ e, d = e + 1 := ⟨d - 1, by omega⟩
  have hg' := hg
  unfold gmA at hg'
  obtain ⟨y0, y1, y2, y3⟩ := hy
  have hy : lyA w a b t h la ah := ⟨y0, y1, y2, y3⟩
  have hG' := hG
  unfold gmV at hG'
  have r1 := lRow_rng (G := G) (b := b) (t := t) (z := z)
  refine ⟨_, rfl, ?_⟩
  show zw _ _ _ _ 51 0 [some (.ref a), some (iV z), some (iV y), some (iV m)] [] _ _ _ _
  refine zw_aload_n z51_0 rfl ?_
  refine zw_getf z51_1 (by assumption) (by rfl) ?_
  refine zw_iload_n z51_4 rfl ?_
  refine zw_vv (n := 2) z51_5 rfl rfl (by assumption) (Nat.le_of_ble_eq_true rfl) (by omega) (sp_isColumn hg hG (by omega)) ?_
  refine zj_b_eq z51_8 (fun h8 => ?_) (fun h8 => ?_)
  · refine zw_iconst z51_65 (v := iI 0) rfl ?_
    refine zj_bret z51_66 rfl (by first | exact b2_r | omega) ?_
    exact zv_end (by rw [b2_f (fun h => h8 h.1)])
  refine zw_aload_n z51_11 rfl ?_
  refine zw_getf z51_12 (by assumption) (by rfl) ?_
  refine zw_iload_n z51_15 rfl ?_
  refine zw_vv (n := 2) z51_16 rfl rfl (by assumption) (Nat.le_of_ble_eq_true rfl) (by omega) (sp_isColumn hg hG (by omega)) ?_
  refine zj_b_eq z51_19 (fun h19 => ?_) (fun h19 => ?_)
  · refine zw_iconst z51_65 (v := iI 0) rfl ?_
    refine zj_bret z51_66 rfl (by first | exact b2_r | omega) ?_
    exact zv_end (by rw [b2_f (fun h => h19 h.2.1)])
  have r2 := lMst_rng (t := t) hG h19
  refine zw_iload_n z51_22 rfl ?_
  refine zw_iload_n z51_23 rfl ?_
  refine zj_icmp_eq z51_24 (by omega) (by omega) (fun h24 => ?_) (fun h24 => ?_)
  · refine zw_iconst z51_65 (v := iI 0) rfl ?_
    refine zj_bret z51_66 rfl (by first | exact b2_r | omega) ?_
    exact zv_end (by first | rw [b2_f (by unfold lRws; grind)] | rw [b2_t (by unfold lRws; grind)])
  · refine zw_iload_n z51_27 rfl ?_
    refine zw_aload_n z51_28 rfl ?_
    refine zw_iload_n z51_29 rfl ?_
    refine zw_vv (n := 4) z51_30 rfl rfl (by assumption) (Nat.le_of_ble_eq_true rfl) (by omega) (sp_rowOf hg hG hy hV (by omega) (by omega) (by omega)) ?_
    refine zj_icmp_gt z51_33 (by omega) (by omega) (fun h33 => ?_) (fun h33 => ?_)
    · refine zw_iconst z51_65 (v := iI 0) rfl ?_
      refine zj_bret z51_66 rfl (by first | exact b2_r | omega) ?_
      exact zv_end (by first | rw [b2_f (by unfold lRws; grind)] | rw [b2_t (by unfold lRws; grind)])
    · refine zw_iload_n z51_36 rfl ?_
      refine zw_aload_n z51_37 rfl ?_
      refine zw_iload_n z51_38 rfl ?_
      refine zw_vv (n := 5) z51_39 rfl rfl (by assumption) (Nat.le_of_ble_eq_true rfl) (by omega) (sp_mostAtOnce hg hG hy hV h19 (by omega) (by omega)) ?_
      refine zj_icmp_gt z51_42 (by omega) (by omega) (fun h42 => ?_) (fun h42 => ?_)
      · refine zw_iconst z51_65 (v := iI 0) rfl ?_
        refine zj_bret z51_66 rfl (by first | exact b2_r | omega) ?_
        exact zv_end (by first | rw [b2_f (by unfold lRws; grind)] | rw [b2_t (by unfold lRws; grind)])
      · refine zw_aload_n z51_45 rfl ?_
        refine zw_iload_n z51_46 rfl ?_
        refine zw_aload_n z51_47 rfl ?_
        refine zw_iload_n z51_48 rfl ?_
        refine zw_iload_n z51_49 rfl ?_
        refine zw_iconst z51_50 (v := iI 1) rfl ?_
        refine zj_sub z51_51 ?_
        refine zw_vv (n := 5) z51_52 rfl rfl (by assumption) (Nat.le_of_ble_eq_true rfl) (by omega) (sp_cardFromTop hy hV (by omega) (by omega)) ?_
        refine zw_vv (n := 3) z51_55 rfl rfl (by assumption) (Nat.le_of_ble_eq_true rfl) (by omega) (sp_bears hg hG hy hV (by omega) (by have := lCard_row (z := z) (m := m) (G := G) hV (by omega) (by omega); omega) (by omega) (by omega)) ?_
        refine zj_b_eq z51_58 (fun h58 => ?_) (fun h58 => ?_)
        · refine zw_iconst z51_65 (v := iI 0) rfl ?_
          refine zj_bret z51_66 rfl (by first | exact b2_r | omega) ?_
          exact zv_end (by first | rw [b2_f (by unfold lRws; grind)] | rw [b2_t (by unfold lRws; grind)])
        · refine zw_iconst z51_61 (v := iI 1) rfl ?_
          refine zw_goto z51_62 ?_
          refine zj_bret z51_66 rfl (by first | exact b2_r | omega) ?_
          exact zv_end (by first | rw [b2_f (by unfold lRws; grind)] | rw [b2_t (by unfold lRws; grind)])
/-- m cards from z to y -/
abbrev lAlw (G b t h : Nat → Int) (z y m : Int) : Prop := if m = 1 then lOne G t h z y else 1 < m ∧ lRws G b t z y m
theorem sp_allows (hg : gmA w 1 G) (hG : gmV G) (hy : lyA w a b t h la ah) (hV : lyV b t h la ah) (hz : 0 ≤ z ∧ z < 12) (hz2 : 0 ≤ y ∧ y ≤ 12) (hm : iR m) (hd : 4 ≤ d) (hq : 89 ≤ q) : zv d q 49 [.ref a, iV z, iV y, iV m] w (iI (b2 (lAlw G b t h z y m))) := by
  intro L xs cn sn
  obtain ⟨d, rfl⟩ : ∃ e, d = e + 1 := ⟨d - 1, by omega⟩
  have hg' := hg
  unfold gmA at hg'
  obtain ⟨y0, y1, y2, y3⟩ := hy
  have hy : lyA w a b t h la ah := ⟨y0, y1, y2, y3⟩
  refine ⟨_, rfl, ?_⟩
  show zw _ _ _ _ 49 0 [some (.ref a), some (iV z), some (iV y), some (iV m)] [] _ _ _ _
  refine zw_iload_n z49_0 rfl ?_
  refine zw_iconst z49_1 (v := iI 1) rfl ?_
  refine zj_icmp_ne z49_2 (by omega) (by omega) (fun h2 => ?_) (fun h2 => ?_)
  · refine zw_iload_n z49_14 rfl ?_
    refine zw_iconst z49_15 (v := iI 1) rfl ?_
    refine zj_icmp_le z49_16 (by omega) (by omega) (fun h16 => ?_) (fun h16 => ?_)
    · refine zw_iconst z49_33 (v := iI 0) rfl ?_
      refine zj_bret z49_34 rfl (by first | exact b2_r | omega) ?_
      exact zv_end (by unfold lAlw; first | (congr 1; apply b2_c; rw [if_pos (by omega)]) | (rw [b2_f (by rw [if_neg (by omega)]; grind)]) | (rw [b2_t (by rw [if_neg (by omega)]; grind)]))
    · refine zw_aload_n z49_19 rfl ?_
      refine zw_iload_n z49_20 rfl ?_
      refine zw_iload_n z49_21 rfl ?_
      refine zw_iload_n z49_22 rfl ?_
      refine zw_vv (n := 4) z49_23 rfl rfl (by assumption) (Nat.le_of_ble_eq_true rfl) (by omega) (sp_allowsRow hg hG hy hV (by omega) (by omega) (by omega) (by omega) (by omega)) ?_
      refine zj_b_eq z49_26 (fun h26 => ?_) (fun h26 => ?_)
      · refine zw_iconst z49_33 (v := iI 0) rfl ?_
        refine zj_bret z49_34 rfl (by first | exact b2_r | omega) ?_
        exact zv_end (by unfold lAlw; first | (congr 1; apply b2_c; rw [if_pos (by omega)]) | (rw [b2_f (by rw [if_neg (by omega)]; grind)]) | (rw [b2_t (by rw [if_neg (by omega)]; grind)]))
      · refine zw_iconst z49_29 (v := iI 1) rfl ?_
        refine zw_goto z49_30 ?_
        refine zj_bret z49_34 rfl (by first | exact b2_r | omega) ?_
        exact zv_end (by unfold lAlw; first | (congr 1; apply b2_c; rw [if_pos (by omega)]) | (rw [b2_f (by rw [if_neg (by omega)]; grind)]) | (rw [b2_t (by rw [if_neg (by omega)]; grind)]))
  · refine zw_aload_n z49_5 rfl ?_
    refine zw_iload_n z49_6 rfl ?_
    refine zw_iload_n z49_7 rfl ?_
    refine zw_vv (n := 4) z49_8 rfl rfl (by assumption) (Nat.le_of_ble_eq_true rfl) (by omega) (sp_allowsOne hg hG hy hV (by omega) (by omega) (by omega) (by omega)) ?_
    refine zw_goto z49_11 ?_
    refine zj_bret z49_34 rfl (by first | exact b2_r | omega) ?_
    exact zv_end (by unfold lAlw; first | (congr 1; apply b2_c; rw [if_pos (by omega)]) | (rw [b2_f (by rw [if_neg (by omega)]; grind)]) | (rw [b2_t (by rw [if_neg (by omega)]; grind)]))
/-- the most that may go from z to y, of at most n -/
def lMb (G b t h : Nat → Int) (z y : Int) : Nat → Int
  | 0 => 0
  | n + 1 => if lAlw G b t h z y ((n : Int) + 1) then (n : Int) + 1 else lMb G b t h z y n
theorem lp_mostBetween {L : Nat} {xs : Nat → Int32} {cn sn : Nat} {Q : zi_O → zi_W → Nat → Nat → Prop} (hg : gmA w 1 G) (hG : gmV G) (hy : lyA w a b t h la ah) (hV : lyV b t h la ah) (hz : 0 ≤ z ∧ z < 12) (hz2 : 0 ≤ y ∧ y ≤ 12) (hd : 5 ≤ d) (hq : 112 ≤ q) : ∀ (n : Nat) (i : Int), i = n ∧ n ≤ 13 → (∀ r, r = lMb G b t h z y n → Q (.inl (some (iV r))) w cn sn) → zw L xs d q 56 6 [some (.ref a), some (iV z), some (iV y), some (iV i)] [] w cn sn Q := by
  obtain ⟨d, rfl⟩ : ∃ e, d = e + 1 := ⟨d - 1, by omega⟩
  have hg' := hg
  unfold gmA at hg'
  obtain ⟨y0, y1, y2, y3⟩ := hy
  have hy : lyA w a b t h la ah := ⟨y0, y1, y2, y3⟩
  intro n
  induction n with
  | zero =>
    intro i hi hQ
    refine zw_iload_n z56_6 rfl ?_
    refine zj_if_le z56_7 (by omega) (fun h7 => ?_) (fun h7 => ?_)
    · refine zw_iconst z56_28 (v := iI 0) rfl ?_
      refine zw_iret z56_29 rfl ?_
      first | (exfalso; omega) | exact hQ _ rfl
    · refine zw_aload_n z56_10 rfl ?_
      refine zw_iload_n z56_11 rfl ?_
      refine zw_iload_n z56_12 rfl ?_
      refine zw_iload_n z56_13 rfl ?_
      refine zw_vv (n := 4) z56_14 rfl rfl (by assumption) (Nat.le_of_ble_eq_true rfl) (by omega) (sp_allows hg hG hy hV (by omega) (by omega) (by omega) (by omega) (by omega)) ?_
      refine zj_b_eq z56_17 (fun h17 => ?_) (fun h17 => ?_)
      · refine zj_iinc z56_22 rfl rfl ?_
        refine zw_goto z56_25 ?_
        first | (exfalso; omega) | exact ih (i - 1) (by omega) (fun r hr => hQ r (by rw [hr]; exact (if_neg (by rw [show (n : Int) + 1 = i by omega]; exact h17)).symm))
      · refine zw_iload_n z56_20 rfl ?_
        refine zw_iret z56_21 rfl ?_
        first | (exfalso; omega) | exact hQ _ rfl
  | succ n ih =>
    intro i hi hQ
    refine zw_iload_n z56_6 rfl ?_
    refine zj_if_le z56_7 (by omega) (fun h7 => ?_) (fun h7 => ?_)
    · refine zw_iconst z56_28 (v := iI 0) rfl ?_
      refine zw_iret z56_29 rfl ?_
      first | (exfalso; omega) | exact hQ _ (by rw [show lMb G b t h z y (n + 1) = _ from if_pos (by rw [show (n : Int) + 1 = i by omega]; exact h17)]; omega)
    · refine zw_aload_n z56_10 rfl ?_
      refine zw_iload_n z56_11 rfl ?_
      refine zw_iload_n z56_12 rfl ?_
      refine zw_iload_n z56_13 rfl ?_
      refine zw_vv (n := 4) z56_14 rfl rfl (by assumption) (Nat.le_of_ble_eq_true rfl) (by omega) (sp_allows hg hG hy hV (by omega) (by omega) (by omega) (by omega) (by omega)) ?_
      refine zj_b_eq z56_17 (fun h17 => ?_) (fun h17 => ?_)
      · refine zj_iinc z56_22 rfl rfl ?_
        refine zw_goto z56_25 ?_
        first | (exfalso; omega) | exact ih (i - 1) (by omega) (fun r hr => hQ r (by rw [hr]; exact (if_neg (by rw [show (n : Int) + 1 = i by omega]; exact h17)).symm))
      · refine zw_iload_n z56_20 rfl ?_
        refine zw_iret z56_21 rfl ?_
        first | (exfalso; omega) | exact hQ _ (by rw [show lMb G b t h z y (n + 1) = _ from if_pos (by rw [show (n : Int) + 1 = i by omega]; exact h17)]; omega)
abbrev lMB (G b t h : Nat → Int) (z y : Int) : Int := lMb G b t h z y (lRow G b t z).toNat
theorem sp_mostBetween (hg : gmA w 1 G) (hG : gmV G) (hy : lyA w a b t h la ah) (hV : lyV b t h la ah) (hz : 0 ≤ z ∧ z < 12) (hz2 : 0 ≤ y ∧ y ≤ 12) (hd : 5 ≤ d) (hq : 112 ≤ q) : zv d q 56 [.ref a, iV z, iV y] w (iI (lMB G b t h z y)) := by
  intro L xs cn sn
  obtain ⟨d, rfl⟩ : ∃ e, d = e + 1 := ⟨d - 1, by omega⟩
  obtain ⟨y0, y1, y2, y3⟩ := hy
  have hy : lyA w a b t h la ah := ⟨y0, y1, y2, y3⟩
  have r1 := lRow_rng (G := G) (b := b) (t := t) (z := z)
  refine ⟨_, rfl, ?_⟩
  show zw _ _ _ _ 56 0 [some (.ref a), some (iV z), some (iV y), none] [] _ _ _ _
  refine zw_aload_n z56_0 rfl ?_
  refine zw_iload_n z56_1 rfl ?_
  refine zw_vv (n := 4) z56_2 rfl rfl (by assumption) (Nat.le_of_ble_eq_true rfl) (by omega) (sp_rowOf hg hG hy hV (by omega) (by omega) (by omega)) ?_
  refine zw_istore_n z56_5 rfl ?_
  exact lp_mostBetween hg hG hy hV hz hz2 (by omega) (by omega) (lRow G b t z).toNat _ (by omega) (fun r hr => zv_end (by rw [hr]))
end ZMV
