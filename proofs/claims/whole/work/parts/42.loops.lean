/-! The class Layout: methods that read, with a loop. (Laid out by gen/tpl.py from tpl/42.loops.tpl.) -/
/-- how many cards lie from c downwards, at most n -/
def lHt (b : Nat → Int) : Nat → Int → Int
  | 0, _ => 0
  | n + 1, c => if c < 0 then 0 else 1 + lHt b n (b c.toNat)
/-- the card that lies n below c -/
def lDn (b : Nat → Int) : Nat → Int → Int
  | 0, c => c
  | n + 1, c => if c < 0 then c else lDn b n (b c.toNat)
/-- how many of the n places from p on are empty -/
def lEm (t : Nat → Int) : Nat → Int → Int
  | 0, _ => 0
  | n + 1, p => (if t p.toNat = -1 then 1 else 0) + lEm t n (p + 1)
/-- how many cards below c go on with the built row, at most n -/
def lRw (G b : Nat → Int) : Nat → Int → Int
  | 0, _ => 0
  | n + 1, c => if 0 ≤ b c.toNat ∧ gFit G c (b c.toNat) then 1 + lRw G b n (b c.toNat) else 0
theorem lHt_s {b : Nat → Int} {n : Nat} {c : Int} (h : ¬ c < 0) : lHt b (n + 1) c = 1 + lHt b n (b c.toNat) := if_neg h
theorem lHt_e {b : Nat → Int} {n : Nat} {c : Int} (h : c < 0) : lHt b n c = 0 := by
  cases n with
  | zero => rfl
  | succ n => exact if_pos h
theorem lDn_s {b : Nat → Int} {n : Nat} {c : Int} (h : ¬ c < 0) : lDn b (n + 1) c = lDn b n (b c.toNat) := if_neg h
theorem lDn_e {b : Nat → Int} {n : Nat} {c : Int} (h : c < 0) : lDn b n c = c := by
  cases n with
  | zero => rfl
  | succ n => exact if_pos h
theorem lEm_1 {t : Nat → Int} {n : Nat} {p : Int} (h : t p.toNat = -1) : lEm t (n + 1) p = 1 + lEm t n (p + 1) := by
  show (if t p.toNat = -1 then (1 : Int) else 0) + _ = _
  rw [if_pos h]
theorem lEm_0 {t : Nat → Int} {n : Nat} {p : Int} (h : ¬ t p.toNat = -1) : lEm t (n + 1) p = lEm t n (p + 1) := by
  show (if t p.toNat = -1 then (1 : Int) else 0) + _ = _
  rw [if_neg h, Int.zero_add]
theorem lRw_s {G b : Nat → Int} {n : Nat} {c : Int} (h : 0 ≤ b c.toNat ∧ gFit G c (b c.toNat)) : lRw G b (n + 1) c = 1 + lRw G b n (b c.toNat) := if_pos h
theorem lRw_e {G b : Nat → Int} {n : Nat} {c : Int} (h : ¬ (0 ≤ b c.toNat ∧ gFit G c (b c.toNat))) : lRw G b n c = 0 := by
  cases n with
  | zero => rfl
  | succ n => exact if_neg h
section ZLO
variable {L : Nat} {xs : Nat → Int32} {d q a : Nat} {w : zi_W} {cn sn : Nat} {Q : zi_O → zi_W → Nat → Nat → Prop} {G b t h : Nat → Int} {la ah z c : Int}
theorem lp_heightOf (hy : lyA w a b t h la ah) (hV1 : ∀ j, -4 ≤ b j ∧ b j ≤ 51) : ∀ (n : Nat) (i c : Int), i + n = 52 → 0 ≤ i → -4 ≤ c ∧ c ≤ 51 → (∀ r, r = i + lHt b n c → Q (.inl (some (iV r))) w cn sn) → zw L xs d q 46 20 [some (.ref a), some (iV z), some (iV i), some (iV c)] [] w cn sn Q := by
  obtain ⟨y0, y1, y2, y3⟩ := hy
  intro n
  induction n with
  | zero =>
    intro i c h1 h2 h3 hQ
    refine zw_iload_n z46_20 rfl ?_
    refine zj_if_lt z46_21 (by omega) (fun h21 => ?_) (fun h21 => ?_)
    · refine zw_iload_n z46_43 rfl ?_
      refine zw_iret z46_44 rfl ?_
      exact hQ _ (by show i = i + 0; omega)
    · refine zw_iload_n z46_24 rfl ?_
      refine zw_bipush z46_25 (v := iI (52)) (by decide +kernel) ?_
      refine zj_icmp_ge z46_27 (by omega) (by omega) (fun h27 => ?_) (fun h27 => ?_)
      · refine zw_iload_n z46_43 rfl ?_
        refine zw_iret z46_44 rfl ?_
        exact hQ _ (by show i = i + 0; omega)
      · refine zj_iinc z46_30 rfl rfl ?_
        refine zw_aload_n z46_33 rfl ?_
        refine zw_getf z46_34 (by assumption) (by rfl) ?_
        refine zw_iload_n z46_37 rfl ?_
        refine zj_aldB z46_38 (by assumption) (by omega) (by decide) hV1 (fun v38 e38 r38 => ?_)
        refine zw_istore_n z46_39 rfl ?_
        refine zw_goto z46_40 ?_
        first | (exfalso; omega) | exact ih (i + 1) v38 (by omega) (by omega) (by omega) (fun r hr => hQ r (by rw [hr, lHt_s (by omega), ← e38]; omega))
  | succ n ih =>
    intro i c h1 h2 h3 hQ
    refine zw_iload_n z46_20 rfl ?_
    refine zj_if_lt z46_21 (by omega) (fun h21 => ?_) (fun h21 => ?_)
    · refine zw_iload_n z46_43 rfl ?_
      refine zw_iret z46_44 rfl ?_
      exact hQ _ (by first | (rw [lHt_e (by omega)]; omega) | (exfalso; omega))
    · refine zw_iload_n z46_24 rfl ?_
      refine zw_bipush z46_25 (v := iI (52)) (by decide +kernel) ?_
      refine zj_icmp_ge z46_27 (by omega) (by omega) (fun h27 => ?_) (fun h27 => ?_)
      · refine zw_iload_n z46_43 rfl ?_
        refine zw_iret z46_44 rfl ?_
        exact hQ _ (by first | (rw [lHt_e (by omega)]; omega) | (exfalso; omega))
      · refine zj_iinc z46_30 rfl rfl ?_
        refine zw_aload_n z46_33 rfl ?_
        refine zw_getf z46_34 (by assumption) (by rfl) ?_
        refine zw_iload_n z46_37 rfl ?_
        refine zj_aldB z46_38 (by assumption) (by omega) (by decide) hV1 (fun v38 e38 r38 => ?_)
        refine zw_istore_n z46_39 rfl ?_
        refine zw_goto z46_40 ?_
        first | (exfalso; omega) | exact ih (i + 1) v38 (by omega) (by omega) (by omega) (fun r hr => hQ r (by rw [hr, lHt_s (by omega), ← e38]; omega))
abbrev lHei (b t : Nat → Int) (ah z : Int) : Int := if z = 12 then ah else lHt b 52 (t z.toNat)
theorem sp_heightOf (hy : lyA w a b t h la ah) (hV : lyV b t h la ah) (hz : 0 ≤ z ∧ z ≤ 12) : zv d q 46 [.ref a, iV z] w (iI (lHei b t ah z)) := by
  intro L xs cn sn
  obtain ⟨y0, y1, y2, y3⟩ := hy
  obtain ⟨hV1, hV2, hV3, hV4, hV5⟩ := hV
  refine ⟨_, rfl, ?_⟩
  show zw _ _ _ _ 46 0 [some (.ref a), some (iV z), none, none] [] _ _ _ _
  refine zw_iload_n z46_0 rfl ?_
  refine zw_bipush z46_1 (v := iI (12)) (by decide +kernel) ?_
  refine zj_icmp_ne z46_3 (by omega) (by omega) (fun h3 => ?_) (fun h3 => ?_)
  · refine zw_iconst z46_11 (v := iI 0) rfl ?_
    refine zw_istore_n z46_12 rfl ?_
    refine zw_aload_n z46_13 rfl ?_
    refine zw_getf z46_14 (by assumption) (by rfl) ?_
    refine zw_iload_n z46_17 rfl ?_
    refine zj_aldB z46_18 (by assumption) (by omega) (by decide) hV2 (fun v18 e18 r18 => ?_)
    refine zw_istore_n z46_19 rfl ?_
    exact lp_heightOf ⟨y0, y1, y2, y3⟩ hV1 52 0 v18 (by omega) (by omega) (by omega) (fun r hr => zv_end (by rw [hr, show lHei b t ah z = _ from if_neg (by omega), e18]; congr 1; omega))
  · refine zw_aload_n z46_6 rfl ?_
    refine zw_getf z46_7 (by assumption) (by rfl) ?_
    refine zw_iret z46_10 rfl ?_
    exact zv_end (by rw [show lHei b t ah z = _ from if_pos (by omega)])
theorem lp_cardFromTop {e : Int} (hy : lyA w a b t h la ah) (hV1 : ∀ j, -4 ≤ b j ∧ b j ≤ 51) (he : iR e) : ∀ (n : Nat) (c s : Int), s + n = e → 0 ≤ s → -4 ≤ c ∧ c ≤ 51 → (∀ r, r = lDn b n c → ∀ s', zw L xs d q 47 39 [some (.ref a), some (iV z), some (iV e), some (iV r), some (iV s')] [] w cn sn Q) → zw L xs d q 47 16 [some (.ref a), some (iV z), some (iV e), some (iV c), some (iV s)] [] w cn sn Q := by
  obtain ⟨y0, y1, y2, y3⟩ := hy
  intro n
  induction n with
  | zero =>
    intro c s h1 h2 h3 hQ
    refine zw_iload z47_16 rfl ?_
    refine zw_iload_n z47_18 rfl ?_
    refine zj_icmp_ge z47_19 (by omega) (by omega) (fun h19 => ?_) (fun h19 => ?_)
    · exact hQ _ rfl s
    · refine zw_iload_n z47_22 rfl ?_
      refine zj_if_lt z47_23 (by omega) (fun h23 => ?_) (fun h23 => ?_)
      · exact hQ _ rfl s
      · refine zw_aload_n z47_26 rfl ?_
        refine zw_getf z47_27 (by assumption) (by rfl) ?_
        refine zw_iload_n z47_30 rfl ?_
        refine zj_aldB z47_31 (by assumption) (by omega) (by decide) hV1 (fun v31 e31 r31 => ?_)
        refine zw_istore_n z47_32 rfl ?_
        refine zj_iinc z47_33 rfl rfl ?_
        refine zw_goto z47_36 ?_
        first | (exfalso; omega) | exact ih v31 (s + 1) (by omega) (by omega) (by omega) (fun r hr => hQ r (by rw [hr, lDn_s (by omega), ← e31]))
  | succ n ih =>
    intro c s h1 h2 h3 hQ
    refine zw_iload z47_16 rfl ?_
    refine zw_iload_n z47_18 rfl ?_
    refine zj_icmp_ge z47_19 (by omega) (by omega) (fun h19 => ?_) (fun h19 => ?_)
    · first | (exfalso; omega) | exact hQ c (by rw [lDn_e (by omega)]) s
    · refine zw_iload_n z47_22 rfl ?_
      refine zj_if_lt z47_23 (by omega) (fun h23 => ?_) (fun h23 => ?_)
      · first | (exfalso; omega) | exact hQ c (by rw [lDn_e (by omega)]) s
      · refine zw_aload_n z47_26 rfl ?_
        refine zw_getf z47_27 (by assumption) (by rfl) ?_
        refine zw_iload_n z47_30 rfl ?_
        refine zj_aldB z47_31 (by assumption) (by omega) (by decide) hV1 (fun v31 e31 r31 => ?_)
        refine zw_istore_n z47_32 rfl ?_
        refine zj_iinc z47_33 rfl rfl ?_
        refine zw_goto z47_36 ?_
        first | (exfalso; omega) | exact ih v31 (s + 1) (by omega) (by omega) (by omega) (fun r hr => hQ r (by rw [hr, lDn_s (by omega), ← e31]))
theorem lDn_rng (hV1 : ∀ j, -4 ≤ b j ∧ b j ≤ 51) : ∀ (n : Nat) (c : Int), -4 ≤ c ∧ c ≤ 51 → -4 ≤ lDn b n c ∧ lDn b n c ≤ 51 := by
  intro n
  induction n with
  | zero => intro c h; exact h
  | succ n ih =>
    intro c h
    unfold lDn
    split
    · exact h
    · exact ih _ (hV1 _)
abbrev lCard (b t : Nat → Int) (z e : Int) : Int := if e < 0 then -1 else if lDn b e.toNat (t z.toNat) < 0 then -1 else lDn b e.toNat (t z.toNat)
theorem sp_cardFromTop {e : Int} (hy : lyA w a b t h la ah) (hV : lyV b t h la ah) (hz : 0 ≤ z ∧ z < 12) (he : iR e) : zv d q 47 [.ref a, iV z, iV e] w (iI (lCard b t z e)) := by
  intro L xs cn sn
  obtain ⟨y0, y1, y2, y3⟩ := hy
  obtain ⟨hV1, hV2, hV3, hV4, hV5⟩ := hV
  have hr9 := lDn_rng hV1 e.toNat (t z.toNat) (by have := hV2 z.toNat; omega)
  refine ⟨_, rfl, ?_⟩
  show zw _ _ _ _ 47 0 [some (.ref a), some (iV z), some (iV e), none, none] [] _ _ _ _
  refine zw_iload_n z47_0 rfl ?_
  refine zj_if_ge z47_1 (by omega) (fun h1 => ?_) (fun h1 => ?_)
  · refine zw_aload_n z47_6 rfl ?_
    refine zw_getf z47_7 (by assumption) (by rfl) ?_
    refine zw_iload_n z47_10 rfl ?_
    refine zj_aldB z47_11 (by assumption) (by omega) (by decide) hV2 (fun v11 e11 r11 => ?_)
    refine zw_istore_n z47_12 rfl ?_
    refine zw_iconst z47_13 (v := iI 0) rfl ?_
    refine zw_istore z47_14 rfl ?_
    refine lp_cardFromTop ⟨y0, y1, y2, y3⟩ hV1 he e.toNat v11 0 (by omega) (by omega) (by omega) (fun r hr s' => ?_)
    rw [e11] at hr
    refine zw_iload_n z47_39 rfl ?_
    refine zj_if_lt z47_40 (by omega) (fun h40 => ?_) (fun h40 => ?_)
    · refine zw_iconst z47_47 (v := iI (-1)) rfl ?_
      refine zw_iret z47_48 rfl ?_
      exact zv_end (by unfold lCard; rw [if_neg (by omega)]; first | rw [if_pos (by omega)] | (rw [if_neg (by omega), hr]))
    · refine zw_iload_n z47_43 rfl ?_
      refine zw_goto z47_44 ?_
      refine zw_iret z47_48 rfl ?_
      exact zv_end (by unfold lCard; rw [if_neg (by omega)]; first | rw [if_pos (by omega)] | (rw [if_neg (by omega), hr]))
  · refine zw_iconst z47_4 (v := iI (-1)) rfl ?_
    refine zw_iret z47_5 rfl ?_
    exact zv_end (by unfold lCard; rw [if_pos (by omega)])
theorem lp_emptyAmong {f m : Int} (hy : lyA w a b t h la ah) (hV2 : ∀ j, -1 ≤ t j ∧ t j ≤ 51) (hf : 0 ≤ f ∧ 0 ≤ m ∧ f + m ≤ 12) : ∀ (n : Nat) (p i : Int), p + n = f + m → 0 ≤ p → 0 ≤ i ∧ i ≤ p → (∀ r, r = i + lEm t n p → Q (.inl (some (iV r))) w cn sn) → zw L xs d q 55 5 [some (.ref a), some (iV f), some (iV m), some (iV i), some (iV p)] [] w cn sn Q := by
  obtain ⟨y0, y1, y2, y3⟩ := hy
  intro n
  induction n with
  | zero =>
    intro p i h1 h2 h3 hQ
    refine zw_iload z55_5 rfl ?_
    refine zw_iload_n z55_7 rfl ?_
    refine zw_iload_n z55_8 rfl ?_
    refine zj_add z55_9 ?_
    refine zj_icmp_ge z55_10 (by omega) (by omega) (fun h10 => ?_) (fun h10 => ?_)
    · refine zw_iload_n z55_33 rfl ?_
      refine zw_iret z55_34 rfl ?_
      exact hQ _ (by show i = i + 0; omega)
    · refine zw_aload_n z55_13 rfl ?_
      refine zw_getf z55_14 (by assumption) (by rfl) ?_
      refine zw_iload z55_17 rfl ?_
      refine zj_aldB z55_19 (by assumption) (by omega) (by decide) hV2 (fun v19 e19 r19 => ?_)
      refine zw_iconst z55_20 (v := iI (-1)) rfl ?_
      refine zj_icmp_ne z55_21 (by omega) (by omega) (fun h21 => ?_) (fun h21 => ?_)
      · refine zj_iinc z55_27 rfl rfl ?_
        refine zw_goto z55_30 ?_
        first | (exfalso; omega) | exact ih (p + 1) (i + 1) (by omega) (by omega) (by omega) (fun r hr => hQ r (by rw [hr, lEm_1 (by omega)]; omega)) | exact ih (p + 1) i (by omega) (by omega) (by omega) (fun r hr => hQ r (by rw [hr, lEm_0 (by omega)]))
      · refine zj_iinc z55_24 rfl rfl ?_
        refine zj_iinc z55_27 rfl rfl ?_
        refine zw_goto z55_30 ?_
        first | (exfalso; omega) | exact ih (p + 1) (i + 1) (by omega) (by omega) (by omega) (fun r hr => hQ r (by rw [hr, lEm_1 (by omega)]; omega)) | exact ih (p + 1) i (by omega) (by omega) (by omega) (fun r hr => hQ r (by rw [hr, lEm_0 (by omega)]))
  | succ n ih =>
    intro p i h1 h2 h3 hQ
    refine zw_iload z55_5 rfl ?_
    refine zw_iload_n z55_7 rfl ?_
    refine zw_iload_n z55_8 rfl ?_
    refine zj_add z55_9 ?_
    refine zj_icmp_ge z55_10 (by omega) (by omega) (fun h10 => ?_) (fun h10 => ?_)
    · refine zw_iload_n z55_33 rfl ?_
      refine zw_iret z55_34 rfl ?_
      (exfalso; omega)
    · refine zw_aload_n z55_13 rfl ?_
      refine zw_getf z55_14 (by assumption) (by rfl) ?_
      refine zw_iload z55_17 rfl ?_
      refine zj_aldB z55_19 (by assumption) (by omega) (by decide) hV2 (fun v19 e19 r19 => ?_)
      refine zw_iconst z55_20 (v := iI (-1)) rfl ?_
      refine zj_icmp_ne z55_21 (by omega) (by omega) (fun h21 => ?_) (fun h21 => ?_)
      · refine zj_iinc z55_27 rfl rfl ?_
        refine zw_goto z55_30 ?_
        first | (exfalso; omega) | exact ih (p + 1) (i + 1) (by omega) (by omega) (by omega) (fun r hr => hQ r (by rw [hr, lEm_1 (by omega)]; omega)) | exact ih (p + 1) i (by omega) (by omega) (by omega) (fun r hr => hQ r (by rw [hr, lEm_0 (by omega)]))
      · refine zj_iinc z55_24 rfl rfl ?_
        refine zj_iinc z55_27 rfl rfl ?_
        refine zw_goto z55_30 ?_
        first | (exfalso; omega) | exact ih (p + 1) (i + 1) (by omega) (by omega) (by omega) (fun r hr => hQ r (by rw [hr, lEm_1 (by omega)]; omega)) | exact ih (p + 1) i (by omega) (by omega) (by omega) (fun r hr => hQ r (by rw [hr, lEm_0 (by omega)]))
theorem sp_emptyAmong {f m : Int} (hy : lyA w a b t h la ah) (hV : lyV b t h la ah) (hf : 0 ≤ f ∧ 0 ≤ m ∧ f + m ≤ 12) : zv d q 55 [.ref a, iV f, iV m] w (iI (lEm t m.toNat f)) := by
  intro L xs cn sn
  obtain ⟨y0, y1, y2, y3⟩ := hy
  obtain ⟨hV1, hV2, hV3, hV4, hV5⟩ := hV
  refine ⟨_, rfl, ?_⟩
  show zw _ _ _ _ 55 0 [some (.ref a), some (iV f), some (iV m), none, none] [] _ _ _ _
  refine zw_iconst z55_0 (v := iI 0) rfl ?_
  refine zw_istore_n z55_1 rfl ?_
  refine zw_iload_n z55_2 rfl ?_
  refine zw_istore z55_3 rfl ?_
  exact lp_emptyAmong ⟨y0, y1, y2, y3⟩ hV2 hf m.toNat f 0 (by omega) (by omega) (by omega) (fun r hr => zv_end (by rw [hr]; congr 1; omega))
theorem lp_rowOf (hg : gmA w 1 G) (hG : gmV G) (hy : lyA w a b t h la ah) (hV1 : ∀ j, -4 ≤ b j ∧ b j ≤ 51) (hd : 2 ≤ d) (hq : 43 ≤ q) : ∀ (n : Nat) (c i : Int), i + n = 13 → 0 ≤ i → 0 ≤ c ∧ c ≤ 51 → (∀ r, r = i + lRw G b n c → Q (.inl (some (iV r))) w cn sn) → zw L xs d q 53 16 [some (.ref a), some (iV z), some (iV c), some (iV i)] [] w cn sn Q := by
  obtain ⟨d, rfl⟩ : ∃ e, d = e + 1 := ⟨d - 1, by omega⟩
  obtain ⟨y0, y1, y2, y3⟩ := hy
  have hg' := hg
  unfold gmA at hg'
  intro n
  induction n with
  | zero =>
    intro c i h1 h2 h3 hQ
    refine zw_iload_n z53_16 rfl ?_
    refine zw_bipush z53_17 (v := iI (13)) (by decide +kernel) ?_
    refine zj_icmp_ge z53_19 (by omega) (by omega) (fun h19 => ?_) (fun h19 => ?_)
    · refine zw_iload_n z53_61 rfl ?_
      refine zw_iret z53_62 rfl ?_
      first | (exfalso; omega) | exact hQ _ (by show i = i + 0; omega)
    · refine zw_aload_n z53_22 rfl ?_
      refine zw_getf z53_23 (by assumption) (by rfl) ?_
      refine zw_iload_n z53_26 rfl ?_
      refine zj_aldB z53_27 (by assumption) (by omega) (by decide) hV1 (fun v27 e27 r27 => ?_)
      refine zj_if_lt z53_28 (by omega) (fun h28 => ?_) (fun h28 => ?_)
      · refine zw_iload_n z53_61 rfl ?_
        refine zw_iret z53_62 rfl ?_
        first | (exfalso; omega) | exact hQ _ (by show i = i + 0; omega)
      · refine zw_aload_n z53_31 rfl ?_
        refine zw_getf z53_32 (by assumption) (by rfl) ?_
        refine zw_iload_n z53_35 rfl ?_
        refine zw_aload_n z53_36 rfl ?_
        refine zw_getf z53_37 (by assumption) (by rfl) ?_
        refine zw_iload_n z53_40 rfl ?_
        refine zj_aldB z53_41 (by assumption) (by omega) (by decide) hV1 (fun v41 e41 r41 => ?_)
        refine zw_vv (n := 3) z53_42 rfl rfl (by assumption) (Nat.le_of_ble_eq_true rfl) (by omega) (sp_fitsOn hg hG (by omega) (by omega) (by omega) (by omega)) ?_
        refine zj_b_eq z53_45 (fun h45 => ?_) (fun h45 => ?_)
        · refine zw_iload_n z53_61 rfl ?_
          refine zw_iret z53_62 rfl ?_
          first | (exfalso; omega) | exact hQ _ (by show i = i + 0; omega)
        · refine zw_aload_n z53_48 rfl ?_
          refine zw_getf z53_49 (by assumption) (by rfl) ?_
          refine zw_iload_n z53_52 rfl ?_
          refine zj_aldB z53_53 (by assumption) (by omega) (by decide) hV1 (fun v53 e53 r53 => ?_)
          refine zw_istore_n z53_54 rfl ?_
          refine zj_iinc z53_55 rfl rfl ?_
          refine zw_goto z53_58 ?_
          first | (exfalso; omega) | exact ih v53 (i + 1) (by omega) (by omega) (by omega) (fun r hr => hQ r (by rw [hr, lRw_s ⟨by omega, by rw [← e41]; exact h45⟩, ← e53]; omega))
  | succ n ih =>
    intro c i h1 h2 h3 hQ
    refine zw_iload_n z53_16 rfl ?_
    refine zw_bipush z53_17 (v := iI (13)) (by decide +kernel) ?_
    refine zj_icmp_ge z53_19 (by omega) (by omega) (fun h19 => ?_) (fun h19 => ?_)
    · refine zw_iload_n z53_61 rfl ?_
      refine zw_iret z53_62 rfl ?_
      first | (exfalso; omega) | exact hQ _ (by rw [lRw_e (by rintro ⟨q1, q2⟩; first | omega | exact h45 (by rw [e41]; exact q2))]; omega)
    · refine zw_aload_n z53_22 rfl ?_
      refine zw_getf z53_23 (by assumption) (by rfl) ?_
      refine zw_iload_n z53_26 rfl ?_
      refine zj_aldB z53_27 (by assumption) (by omega) (by decide) hV1 (fun v27 e27 r27 => ?_)
      refine zj_if_lt z53_28 (by omega) (fun h28 => ?_) (fun h28 => ?_)
      · refine zw_iload_n z53_61 rfl ?_
        refine zw_iret z53_62 rfl ?_
        first | (exfalso; omega) | exact hQ _ (by rw [lRw_e (by rintro ⟨q1, q2⟩; first | omega | exact h45 (by rw [e41]; exact q2))]; omega)
      · refine zw_aload_n z53_31 rfl ?_
        refine zw_getf z53_32 (by assumption) (by rfl) ?_
        refine zw_iload_n z53_35 rfl ?_
        refine zw_aload_n z53_36 rfl ?_
        refine zw_getf z53_37 (by assumption) (by rfl) ?_
        refine zw_iload_n z53_40 rfl ?_
        refine zj_aldB z53_41 (by assumption) (by omega) (by decide) hV1 (fun v41 e41 r41 => ?_)
        refine zw_vv (n := 3) z53_42 rfl rfl (by assumption) (Nat.le_of_ble_eq_true rfl) (by omega) (sp_fitsOn hg hG (by omega) (by omega) (by omega) (by omega)) ?_
        refine zj_b_eq z53_45 (fun h45 => ?_) (fun h45 => ?_)
        · refine zw_iload_n z53_61 rfl ?_
          refine zw_iret z53_62 rfl ?_
          first | (exfalso; omega) | exact hQ _ (by rw [lRw_e (by rintro ⟨q1, q2⟩; first | omega | exact h45 (by rw [e41]; exact q2))]; omega)
        · refine zw_aload_n z53_48 rfl ?_
          refine zw_getf z53_49 (by assumption) (by rfl) ?_
          refine zw_iload_n z53_52 rfl ?_
          refine zj_aldB z53_53 (by assumption) (by omega) (by decide) hV1 (fun v53 e53 r53 => ?_)
          refine zw_istore_n z53_54 rfl ?_
          refine zj_iinc z53_55 rfl rfl ?_
          refine zw_goto z53_58 ?_
          first | (exfalso; omega) | exact ih v53 (i + 1) (by omega) (by omega) (by omega) (fun r hr => hQ r (by rw [hr, lRw_s ⟨by omega, by rw [← e41]; exact h45⟩, ← e53]; omega))
abbrev lRow (G b t : Nat → Int) (z : Int) : Int := if t z.toNat = -1 then 0 else 1 + lRw G b 12 (t z.toNat)
theorem sp_rowOf (hg : gmA w 1 G) (hG : gmV G) (hy : lyA w a b t h la ah) (hV : lyV b t h la ah) (hz : 0 ≤ z ∧ z < 12) (hd : 2 ≤ d) (hq : 43 ≤ q) : zv d q 53 [.ref a, iV z] w (iI (lRow G b t z)) := by
  intro L xs cn sn
  obtain ⟨y0, y1, y2, y3⟩ := hy
  obtain ⟨hV1, hV2, hV3, hV4, hV5⟩ := hV
  refine ⟨_, rfl, ?_⟩
  show zw _ _ _ _ 53 0 [some (.ref a), some (iV z), none, none] [] _ _ _ _
  refine zw_aload_n z53_0 rfl ?_
  refine zw_getf z53_1 (by assumption) (by rfl) ?_
  refine zw_iload_n z53_4 rfl ?_
  refine zj_aldB z53_5 (by assumption) (by omega) (by decide) hV2 (fun v5 e5 r5 => ?_)
  refine zw_istore_n z53_6 rfl ?_
  refine zw_iload_n z53_7 rfl ?_
  refine zw_iconst z53_8 (v := iI (-1)) rfl ?_
  refine zj_icmp_ne z53_9 (by omega) (by omega) (fun h9 => ?_) (fun h9 => ?_)
  · refine zw_iconst z53_14 (v := iI 1) rfl ?_
    refine zw_istore_n z53_15 rfl ?_
    exact lp_rowOf hg hG ⟨y0, y1, y2, y3⟩ hV1 (by omega) (by omega) 12 v5 1 (by omega) (by omega) (by omega) (fun r hr => zv_end (by rw [hr, show lRow G b t z = _ from if_neg (by omega), e5]))
  · refine zw_iconst z53_12 (v := iI 0) rfl ?_
    refine zw_iret z53_13 rfl ?_
    exact zv_end (by rw [show lRow G b t z = _ from if_pos (by omega)])
end ZLO
