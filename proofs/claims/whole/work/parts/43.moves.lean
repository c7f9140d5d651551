/-! The class Layout: which moves are allowed, what is safe. (Laid out by gen/tpl.py from tpl/43.moves.tpl.) -/
section ZMV
variable {d q a : Nat} {w : zi_W} {G b t h : Nat → Int} {la ah z y m c : Int}
theorem lEm_rng : ∀ (n : Nat) (p : Int), 0 ≤ lEm t n p ∧ lEm t n p ≤ n := by
  intro n
  induction n with
  | zero => intro p; exact ⟨Int.le_refl _, Int.le_refl _⟩
  | succ n ih =>
    intro p
    have h1 := ih (p + 1)
    by_cases hp : t p.toNat = -1
    · rw [lEm_1 hp]; omega
    · rw [lEm_0 hp]; omega
theorem lRw_rng : ∀ (n : Nat) (c : Int), 0 ≤ lRw G b n c ∧ lRw G b n c ≤ n := by
  intro n
  induction n with
  | zero => intro p; exact ⟨Int.le_refl _, Int.le_refl _⟩
  | succ n ih =>
    intro c
    have h1 := ih (b c.toNat)
    by_cases hp : 0 ≤ b c.toNat ∧ gFit G c (b c.toNat)
    · rw [lRw_s hp]; omega
    · rw [lRw_e hp]; omega
theorem lRow_rng : 0 ≤ lRow G b t z ∧ lRow G b t z ≤ 13 := by
  have h1 := lRw_rng (G := G) (b := b) 12 (t z.toNat)
  unfold lRow
  split <;> omega
/-- one card from z to y -/
abbrev lOne (G t h : Nat → Int) (z y : Int) : Prop := t z.toNat ≠ -1 ∧ z ≠ y ∧ (if gCol G y then lBears G t y (t z.toNat) else if gCel G y then gCol G z ∧ t y.toNat = -1 else y = 12 ∧ lMay G h (t z.toNat))
theorem sp_allowsOne (hg : gmA w 1 G) (hG : gmV G) (hy : lyA w a b t h la ah) (hV : lyV b t h la ah) (hz : 0 ≤ z ∧ z < 12) (hz2 : 0 ≤ y ∧ y ≤ 12) (hd : 3 ≤ d) (hq : 65 ≤ q) : zv d q 50 [.ref a, iV z, iV y] w (iI (b2 (lOne G t h z y))) := by
  intro L xs cn sn
  obtain ⟨d, rfl⟩ : ∃ e, d = e + 1 := ⟨d - 1, by omega⟩
  have hg' := hg
  unfold gmA at hg'
  obtain ⟨y0, y1, y2, y3⟩ := hy
  have hy : lyA w a b t h la ah := ⟨y0, y1, y2, y3⟩
  have hV' := hV
  obtain ⟨hV1, hV2, hV3, hV4, hV5⟩ := hV'
  have hG' := hG
  unfold gmV at hG'
  refine ⟨_, rfl, ?_⟩
  show zw _ _ _ _ 50 0 [some (.ref a), some (iV z), some (iV y), none] [] _ _ _ _
  refine zw_aload_n z50_0 rfl ?_
  refine zw_getf z50_1 (by assumption) (by rfl) ?_
  refine zw_iload_n z50_4 rfl ?_
  refine zj_aldB z50_5 (by assumption) (by omega) (by decide) hV2 (fun v5 e5 r5 => ?_)
  refine zw_istore_n z50_6 rfl ?_
  refine zw_iload_n z50_7 rfl ?_
  refine zw_iconst z50_8 (v := iI (-1)) rfl ?_
  refine zj_icmp_eq z50_9 (by omega) (by omega) (fun h9 => ?_) (fun h9 => ?_)
  · refine zw_iconst z50_17 (v := iI 0) rfl ?_
    refine zj_bret z50_18 rfl (by first | exact b2_r | omega) ?_
    exact zv_end (by unfold lOne; first | rw [b2_f (by omega)] | (congr 1; apply b2_c; subst e5; grind) | (rw [b2_f (by subst e5; grind)]) | (rw [b2_t (by subst e5; grind)]))
  · refine zw_iload_n z50_12 rfl ?_
    refine zw_iload_n z50_13 rfl ?_
    refine zj_icmp_ne z50_14 (by omega) (by omega) (fun h14 => ?_) (fun h14 => ?_)
    · refine zw_aload_n z50_19 rfl ?_
      refine zw_getf z50_20 (by assumption) (by rfl) ?_
      refine zw_iload_n z50_23 rfl ?_
      refine zw_vv (n := 2) z50_24 rfl rfl (by assumption) (Nat.le_of_ble_eq_true rfl) (by omega) (sp_isColumn hg hG (by omega)) ?_
      refine zj_b_eq z50_27 (fun h27 => ?_) (fun h27 => ?_)
      · refine zw_aload_n z50_37 rfl ?_
        refine zw_getf z50_38 (by assumption) (by rfl) ?_
        refine zw_iload_n z50_41 rfl ?_
        refine zw_vv (n := 2) z50_42 rfl rfl (by assumption) (Nat.le_of_ble_eq_true rfl) (by omega) (sp_isCell hg hG (by omega)) ?_
        refine zj_b_eq z50_45 (fun h45 => ?_) (fun h45 => ?_)
        · refine zw_iload_n z50_75 rfl ?_
          refine zw_bipush z50_76 (v := iI (12)) (by decide +kernel) ?_
          refine zj_icmp_ne z50_78 (by omega) (by omega) (fun h78 => ?_) (fun h78 => ?_)
          · refine zw_iconst z50_93 (v := iI 0) rfl ?_
            refine zj_bret z50_94 rfl (by first | exact b2_r | omega) ?_
            exact zv_end (by unfold lOne; first | rw [b2_f (by omega)] | (congr 1; apply b2_c; subst e5; grind) | (rw [b2_f (by subst e5; grind)]) | (rw [b2_t (by subst e5; grind)]))
          · refine zw_aload_n z50_81 rfl ?_
            refine zw_iload_n z50_82 rfl ?_
            refine zw_vv (n := 2) z50_83 rfl rfl (by assumption) (Nat.le_of_ble_eq_true rfl) (by omega) (sp_mayGoHome hg hG hy hV (by omega) (by omega) (by omega)) ?_
            refine zj_b_eq z50_86 (fun h86 => ?_) (fun h86 => ?_)
            · refine zw_iconst z50_93 (v := iI 0) rfl ?_
              refine zj_bret z50_94 rfl (by first | exact b2_r | omega) ?_
              exact zv_end (by unfold lOne; first | rw [b2_f (by omega)] | (congr 1; apply b2_c; subst e5; grind) | (rw [b2_f (by subst e5; grind)]) | (rw [b2_t (by subst e5; grind)]))
            · refine zw_iconst z50_89 (v := iI 1) rfl ?_
              refine zw_goto z50_90 ?_
              refine zj_bret z50_94 rfl (by first | exact b2_r | omega) ?_
              exact zv_end (by unfold lOne; first | rw [b2_f (by omega)] | (congr 1; apply b2_c; subst e5; grind) | (rw [b2_f (by subst e5; grind)]) | (rw [b2_t (by subst e5; grind)]))
        · refine zw_aload_n z50_48 rfl ?_
          refine zw_getf z50_49 (by assumption) (by rfl) ?_
          refine zw_iload_n z50_52 rfl ?_
          refine zw_vv (n := 2) z50_53 rfl rfl (by assumption) (Nat.le_of_ble_eq_true rfl) (by omega) (sp_isColumn hg hG (by omega)) ?_
          refine zj_b_eq z50_56 (fun h56 => ?_) (fun h56 => ?_)
          · refine zw_iconst z50_73 (v := iI 0) rfl ?_
            refine zj_bret z50_74 rfl (by first | exact b2_r | omega) ?_
            exact zv_end (by unfold lOne; first | rw [b2_f (by omega)] | (congr 1; apply b2_c; subst e5; grind) | (rw [b2_f (by subst e5; grind)]) | (rw [b2_t (by subst e5; grind)]))
          · refine zw_aload_n z50_59 rfl ?_
            refine zw_getf z50_60 (by assumption) (by rfl) ?_
            refine zw_iload_n z50_63 rfl ?_
            refine zj_aldB z50_64 (by assumption) (by omega) (by decide) hV2 (fun v64 e64 r64 => ?_)
            refine zw_iconst z50_65 (v := iI (-1)) rfl ?_
            refine zj_icmp_ne z50_66 (by omega) (by omega) (fun h66 => ?_) (fun h66 => ?_)
            · refine zw_iconst z50_73 (v := iI 0) rfl ?_
              refine zj_bret z50_74 rfl (by first | exact b2_r | omega) ?_
              exact zv_end (by unfold lOne; first | rw [b2_f (by omega)] | (congr 1; apply b2_c; subst e5; grind) | (rw [b2_f (by subst e5; grind)]) | (rw [b2_t (by subst e5; grind)]))
            · refine zw_iconst z50_69 (v := iI 1) rfl ?_
              refine zw_goto z50_70 ?_
              refine zj_bret z50_74 rfl (by first | exact b2_r | omega) ?_
              exact zv_end (by unfold lOne; first | rw [b2_f (by omega)] | (congr 1; apply b2_c; subst e5; grind) | (rw [b2_f (by subst e5; grind)]) | (rw [b2_t (by subst e5; grind)]))
      · refine zw_aload_n z50_30 rfl ?_
        refine zw_iload_n z50_31 rfl ?_
        refine zw_iload_n z50_32 rfl ?_
        refine zw_vv (n := 3) z50_33 rfl rfl (by assumption) (Nat.le_of_ble_eq_true rfl) (by omega) (sp_bears hg hG hy hV (by omega) (by omega) (by omega) (by omega)) ?_
        refine zj_bret z50_36 rfl (by first | exact b2_r | omega) ?_
        exact zv_end (by unfold lOne; first | rw [b2_f (by omega)] | (congr 1; apply b2_c; subst e5; grind) | (rw [b2_f (by subst e5; grind)]) | (rw [b2_t (by subst e5; grind)]))
    · refine zw_iconst z50_17 (v := iI 0) rfl ?_
      refine zj_bret z50_18 rfl (by first | exact b2_r | omega) ?_
      exact zv_end (by unfold lOne; first | rw [b2_f (by omega)] | (congr 1; apply b2_c; subst e5; grind) | (rw [b2_f (by subst e5; grind)]) | (rw [b2_t (by subst e5; grind)]))
end ZMV
