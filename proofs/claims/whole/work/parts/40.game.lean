/-! The class Game: what its methods answer. (Laid out by gen/tpl.py from tpl/40.game.tpl.) -/
theorem zj_ldc {L : Nat} {xs : Nat → Int32} {d q k pc p : Nat} {ls : zi_L} {st : List Value} {w : zi_W} {cn sn : Nat} {Q : zi_O → zi_W → Nat → Nat → Prop} {v : Int32} {z : Int} (hc : za_c k pc p v) (hv : v = iI z) (kk : zw L xs d q k p ls (iV z :: st) w cn sn Q) : zw L xs d q k pc ls st w cn sn Q := by
  subst hv
  exact zw_ldc hc kk
/-- the game at place g: columns, cells, build, fill, suits, ranks -/
def gmA (w : zi_W) (g : Nat) (G : Nat → Int) : Prop := zi_get w g = some (.inr (1, [iV (G 0), iV (G 1), iV (G 2), iV (G 3), iV (G 4), iV (G 5)]))
def gmV (G : Nat → Int) : Prop := (2 ≤ G 0 ∧ G 0 ≤ 8) ∧ (0 ≤ G 1 ∧ G 1 ≤ 4) ∧ (0 ≤ G 2 ∧ G 2 ≤ 2) ∧ (0 ≤ G 3 ∧ G 3 ≤ 2) ∧ (1 ≤ G 4 ∧ G 4 ≤ 4) ∧ (1 ≤ G 5 ∧ G 5 ≤ 13)
abbrev b2 (P : Prop) [Decidable P] : Int := if P then 1 else 0
abbrev gCol (G : Nat → Int) (z : Int) : Prop := 0 ≤ z ∧ z < G 0
abbrev gCel (G : Nat → Int) (z : Int) : Prop := 8 ≤ z ∧ z < 8 + G 1
abbrev gPla (G : Nat → Int) (z : Int) : Prop := gCol G z ∨ gCel G z ∨ z = 12
abbrev gAll (G : Nat → Int) : Int := G 4 * G 5
abbrev gRank (G : Nat → Int) (c : Int) : Int := c / G 4 + 1
abbrev gSuit (G : Nat → Int) (c : Int) : Int := c % G 4
abbrev gRed (s : Int) : Prop := s = 1 ∨ s = 2
section ZGM
variable {d q g : Nat} {w : zi_W} {G : Nat → Int} {z c : Int}
theorem b2_t {P : Prop} [Decidable P] (h : P) : b2 P = 1 := if_pos h
theorem b2_f {P : Prop} [Decidable P] (h : ¬ P) : b2 P = 0 := if_neg h
theorem b2_r {P : Prop} [Decidable P] : b2 P = 0 ∨ b2 P = 1 := by
  by_cases h : P
  · exact Or.inr (if_pos h)
  · exact Or.inl (if_neg h)
theorem zj_b_eq {L : Nat} {xs : Nat → Int32} {k pc p t : Nat} {ls : zi_L} {st : List Value} {cn sn : Nat} {Q : zi_O → zi_W → Nat → Nat → Prop} {P : Prop} [Decidable P] (hc : zb (.ifCond .eq) k pc t p) (kt : ¬ P → zw L xs d q k t ls st w cn sn Q) (kf : P → zw L xs d q k p ls st w cn sn Q) : zw L xs d q k pc ls (iV (b2 P) :: st) w cn sn Q := by
  by_cases h : P
  · rw [b2_t h]
    exact zj_if_eq hc (by decide) (fun z => absurd z (by decide)) (fun _ => kf h)
  · rw [b2_f h]
    exact zj_if_eq hc (by decide) (fun _ => kt h) (fun z => absurd rfl z)
theorem zj_b_ne {L : Nat} {xs : Nat → Int32} {k pc p t : Nat} {ls : zi_L} {st : List Value} {cn sn : Nat} {Q : zi_O → zi_W → Nat → Nat → Prop} {P : Prop} [Decidable P] (hc : zb (.ifCond .ne) k pc t p) (kt : P → zw L xs d q k t ls st w cn sn Q) (kf : ¬ P → zw L xs d q k p ls st w cn sn Q) : zw L xs d q k pc ls (iV (b2 P) :: st) w cn sn Q := by
  by_cases h : P
  · rw [b2_t h]
    exact zj_if_ne hc (by decide) (fun _ => kt h) (fun z => absurd (by decide) z)
  · rw [b2_f h]
    exact zj_if_ne hc (by decide) (fun z => absurd rfl z) (fun _ => kf h)
theorem b2_inj {P P' : Prop} [Decidable P] [Decidable P'] : b2 P = b2 P' ↔ (P ↔ P') := by
  by_cases h : P <;> by_cases h' : P' <;> simp [b2, h, h']
theorem b2_rng {P : Prop} [Decidable P] : iR (b2 P) := by
  rcases b2_r (P := P) with h | h <;> rw [h] <;> decide
theorem zj_bb_eq {L : Nat} {xs : Nat → Int32} {k pc p t : Nat} {ls : zi_L} {st : List Value} {cn sn : Nat} {Q : zi_O → zi_W → Nat → Nat → Prop} {P P' : Prop} [Decidable P] [Decidable P'] (hc : zb (.if_icmp .eq) k pc t p) (kt : (P ↔ P') → zw L xs d q k t ls st w cn sn Q) (kf : ¬ (P ↔ P') → zw L xs d q k p ls st w cn sn Q) : zw L xs d q k pc ls (iV (b2 P') :: iV (b2 P) :: st) w cn sn Q :=
  zj_icmp_eq hc b2_rng b2_rng (fun h => kt (b2_inj.mp h)) (fun h => kf (fun z => h (b2_inj.mpr z)))
theorem zj_bb_ne {L : Nat} {xs : Nat → Int32} {k pc p t : Nat} {ls : zi_L} {st : List Value} {cn sn : Nat} {Q : zi_O → zi_W → Nat → Nat → Prop} {P P' : Prop} [Decidable P] [Decidable P'] (hc : zb (.if_icmp .ne) k pc t p) (kt : ¬ (P ↔ P') → zw L xs d q k t ls st w cn sn Q) (kf : (P ↔ P') → zw L xs d q k p ls st w cn sn Q) : zw L xs d q k pc ls (iV (b2 P') :: iV (b2 P) :: st) w cn sn Q :=
  zj_icmp_ne hc b2_rng b2_rng (fun h => kt (fun z => h (b2_inj.mpr z))) (fun h => kf (b2_inj.mp (Classical.not_not.mp h)))
theorem b2_c {P P' : Prop} [Decidable P] [Decidable P'] (h : P ↔ P') : b2 P = b2 P' := by
  by_cases q : P
  · rw [b2_t q, b2_t (h.mp q)]
  · rw [b2_f q, b2_f (fun z => q (h.mpr z))]
theorem zv_end {v v' : Int32} {w' : zi_W} {cn sn : Nat} (h : v = v') : ∃ u : Option Value, (Sum.inl (some (.int v)) : zi_O) = .inl u ∧ (u = some (.int v') ∧ w' = w' ∧ cn = cn ∧ sn = sn) := ⟨_, rfl, by rw [h], rfl, rfl, rfl⟩
theorem sp_isColumn (hg : gmA w g G) (hG : gmV G) (hz : iR z) : zv d q 29 [.ref g, iV z] w (iI (b2 (gCol G z))) := by
  intro L xs cn sn
  unfold gmA at hg
  unfold gmV at hG
  refine ⟨_, rfl, ?_⟩
  show zw _ _ _ _ 29 0 [some (.ref g), some (iV z)] [] _ _ _ _
  refine zw_iload_n z29_0 rfl ?_
  refine zj_if_lt z29_1 (by omega) (fun h1 => ?_) (fun h1 => ?_)
  · refine zw_iconst z29_16 (v := iI 0) rfl ?_
    refine zj_bret z29_17 rfl (by first | exact b2_r | omega) ?_
    exact zv_end (by first | rw [b2_t (by omega)] | rw [b2_f (by omega)])
  · refine zw_iload_n z29_4 rfl ?_
    refine zw_aload_n z29_5 rfl ?_
    refine zw_getf z29_6 (by assumption) (by rfl) ?_
    refine zj_icmp_ge z29_9 (by omega) (by omega) (fun h9 => ?_) (fun h9 => ?_)
    · refine zw_iconst z29_16 (v := iI 0) rfl ?_
      refine zj_bret z29_17 rfl (by first | exact b2_r | omega) ?_
      exact zv_end (by first | rw [b2_t (by omega)] | rw [b2_f (by omega)])
    · refine zw_iconst z29_12 (v := iI 1) rfl ?_
      refine zw_goto z29_13 ?_
      refine zj_bret z29_17 rfl (by first | exact b2_r | omega) ?_
      exact zv_end (by first | rw [b2_t (by omega)] | rw [b2_f (by omega)])
theorem sp_isCell (hg : gmA w g G) (hG : gmV G) (hz : iR z) : zv d q 30 [.ref g, iV z] w (iI (b2 (gCel G z))) := by
  intro L xs cn sn
  unfold gmA at hg
  unfold gmV at hG
  refine ⟨_, rfl, ?_⟩
  show zw _ _ _ _ 30 0 [some (.ref g), some (iV z)] [] _ _ _ _
  refine zw_iload_n z30_0 rfl ?_
  refine zw_bipush z30_1 (v := iI (8)) (by decide +kernel) ?_
  refine zj_icmp_lt z30_3 (by omega) (by omega) (fun h3 => ?_) (fun h3 => ?_)
  · refine zw_iconst z30_21 (v := iI 0) rfl ?_
    refine zj_bret z30_22 rfl (by first | exact b2_r | omega) ?_
    exact zv_end (by first | rw [b2_t (by omega)] | rw [b2_f (by omega)])
  · refine zw_iload_n z30_6 rfl ?_
    refine zw_bipush z30_7 (v := iI (8)) (by decide +kernel) ?_
    refine zw_aload_n z30_9 rfl ?_
    refine zw_getf z30_10 (by assumption) (by rfl) ?_
    refine zj_add z30_13 ?_
    refine zj_icmp_ge z30_14 (by omega) (by omega) (fun h14 => ?_) (fun h14 => ?_)
    · refine zw_iconst z30_21 (v := iI 0) rfl ?_
      refine zj_bret z30_22 rfl (by first | exact b2_r | omega) ?_
      exact zv_end (by first | rw [b2_t (by omega)] | rw [b2_f (by omega)])
    · refine zw_iconst z30_17 (v := iI 1) rfl ?_
      refine zw_goto z30_18 ?_
      refine zj_bret z30_22 rfl (by first | exact b2_r | omega) ?_
      exact zv_end (by first | rw [b2_t (by omega)] | rw [b2_f (by omega)])
theorem sp_isPlace (hg : gmA w g G) (hG : gmV G) (hz : iR z) (hd : 1 ≤ d) (hq : 21 ≤ q) : zv d q 31 [.ref g, iV z] w (iI (b2 (gPla G z))) := by
  intro L xs cn sn
  obtain ⟨d, rfl⟩ : ∃ e, d = e + 1 := ⟨d - 1, by omega⟩
  have hg' := hg
  unfold gmA at hg'
  refine ⟨_, rfl, ?_⟩
  show zw _ _ _ _ 31 0 [some (.ref g), some (iV z)] [] _ _ _ _
  refine zw_aload_n z31_0 rfl ?_
  refine zw_iload_n z31_1 rfl ?_
  refine zw_vv (n := 2) z31_2 rfl rfl (by assumption) (Nat.le_of_ble_eq_true rfl) (by omega) (sp_isColumn hg hG (by omega)) ?_
  refine zj_b_ne z31_5 (fun h5 => ?_) (fun h5 => ?_)
  · refine zw_iconst z31_22 (v := iI 1) rfl ?_
    refine zw_goto z31_23 ?_
    refine zj_bret z31_27 rfl (by first | exact b2_r | omega) ?_
    exact zv_end (by first | rw [b2_t (by omega)] | rw [b2_f (by omega)])
  · refine zw_aload_n z31_8 rfl ?_
    refine zw_iload_n z31_9 rfl ?_
    refine zw_vv (n := 2) z31_10 rfl rfl (by assumption) (Nat.le_of_ble_eq_true rfl) (by omega) (sp_isCell hg hG (by omega)) ?_
    refine zj_b_ne z31_13 (fun h13 => ?_) (fun h13 => ?_)
    · refine zw_iconst z31_22 (v := iI 1) rfl ?_
      refine zw_goto z31_23 ?_
      refine zj_bret z31_27 rfl (by first | exact b2_r | omega) ?_
      exact zv_end (by first | rw [b2_t (by omega)] | rw [b2_f (by omega)])
    · refine zw_iload_n z31_16 rfl ?_
      refine zw_bipush z31_17 (v := iI (12)) (by decide +kernel) ?_
      refine zj_icmp_ne z31_19 (by omega) (by omega) (fun h19 => ?_) (fun h19 => ?_)
      · refine zw_iconst z31_26 (v := iI 0) rfl ?_
        refine zj_bret z31_27 rfl (by first | exact b2_r | omega) ?_
        exact zv_end (by first | rw [b2_t (by omega)] | rw [b2_f (by omega)])
      · refine zw_iconst z31_22 (v := iI 1) rfl ?_
        refine zw_goto z31_23 ?_
        refine zj_bret z31_27 rfl (by first | exact b2_r | omega) ?_
        exact zv_end (by first | rw [b2_t (by omega)] | rw [b2_f (by omega)])
theorem sp_cardCount (hg : gmA w g G) : zv d q 32 [.ref g] w (iI (gAll G)) := by
  intro L xs cn sn
  unfold gmA at hg
  refine ⟨_, rfl, ?_⟩
  show zw _ _ _ _ 32 0 [some (.ref g)] [] _ _ _ _
  refine zw_aload_n z32_0 rfl ?_
  refine zw_getf z32_1 (by assumption) (by rfl) ?_
  refine zw_aload_n z32_4 rfl ?_
  refine zw_getf z32_5 (by assumption) (by rfl) ?_
  refine zj_mul z32_8 ?_
  refine zw_iret z32_9 rfl ?_
  exact zv_end rfl
theorem gAll_rng (hG : gmV G) : 1 ≤ gAll G ∧ gAll G ≤ 52 := by
  obtain ⟨-, -, -, -, h4, h5⟩ := hG
  have h1 : 1 * 1 ≤ G 4 * G 5 := Int.mul_le_mul (by omega) (by omega) (by omega) (by omega)
  have h2 : G 4 * G 5 ≤ 4 * 13 := Int.mul_le_mul (by omega) (by omega) (by omega) (by omega)
  exact ⟨by show 1 ≤ G 4 * G 5; omega, by show G 4 * G 5 ≤ 52; omega⟩
theorem sp_isCard (hg : gmA w g G) (hG : gmV G) (hz : iR z) (hd : 1 ≤ d) (hq : 20 ≤ q) : zv d q 33 [.ref g, iV z] w (iI (b2 (0 ≤ z ∧ z < gAll G))) := by
  intro L xs cn sn
  obtain ⟨d, rfl⟩ : ∃ e, d = e + 1 := ⟨d - 1, by omega⟩
  have hg' := hg
  unfold gmA at hg'
  have hA := gAll_rng hG
  refine ⟨_, rfl, ?_⟩
  show zw _ _ _ _ 33 0 [some (.ref g), some (iV z)] [] _ _ _ _
  refine zw_iload_n z33_0 rfl ?_
  refine zj_if_lt z33_1 (by omega) (fun h1 => ?_) (fun h1 => ?_)
  · refine zw_iconst z33_16 (v := iI 0) rfl ?_
    refine zj_bret z33_17 rfl (by first | exact b2_r | omega) ?_
    exact zv_end (by first | rw [b2_t (by omega)] | rw [b2_f (by omega)])
  · refine zw_iload_n z33_4 rfl ?_
    refine zw_aload_n z33_5 rfl ?_
    refine zw_vv (n := 1) z33_6 rfl rfl (by assumption) (Nat.le_of_ble_eq_true rfl) (by omega) (sp_cardCount hg) ?_
    refine zj_icmp_ge z33_9 (by omega) (by omega) (fun h9 => ?_) (fun h9 => ?_)
    · refine zw_iconst z33_16 (v := iI 0) rfl ?_
      refine zj_bret z33_17 rfl (by first | exact b2_r | omega) ?_
      exact zv_end (by first | rw [b2_t (by omega)] | rw [b2_f (by omega)])
    · refine zw_iconst z33_12 (v := iI 1) rfl ?_
      refine zw_goto z33_13 ?_
      refine zj_bret z33_17 rfl (by first | exact b2_r | omega) ?_
      exact zv_end (by first | rw [b2_t (by omega)] | rw [b2_f (by omega)])
theorem sp_rankOf (hg : gmA w g G) (hG : gmV G) (hc : 0 ≤ c ∧ c < 52) : zv d q 34 [.ref g, iV c] w (iI (gRank G c)) := by
  intro L xs cn sn
  unfold gmA at hg
  unfold gmV at hG
  refine ⟨_, rfl, ?_⟩
  show zw _ _ _ _ 34 0 [some (.ref g), some (iV c)] [] _ _ _ _
  refine zw_iload_n z34_0 rfl ?_
  refine zw_aload_n z34_1 rfl ?_
  refine zw_getf z34_2 (by assumption) (by rfl) ?_
  refine zj_div z34_5 (by omega) (by omega) ?_
  refine zw_iconst z34_6 (v := iI 1) rfl ?_
  refine zj_add z34_7 ?_
  refine zw_iret z34_8 rfl ?_
  exact zv_end rfl
theorem sp_suitOf (hg : gmA w g G) (hG : gmV G) (hc : 0 ≤ c ∧ c < 52) : zv d q 35 [.ref g, iV c] w (iI (gSuit G c)) := by
  intro L xs cn sn
  unfold gmA at hg
  unfold gmV at hG
  refine ⟨_, rfl, ?_⟩
  show zw _ _ _ _ 35 0 [some (.ref g), some (iV c)] [] _ _ _ _
  refine zw_iload_n z35_0 rfl ?_
  refine zw_aload_n z35_1 rfl ?_
  refine zw_getf z35_2 (by assumption) (by rfl) ?_
  refine zj_rem z35_5 (by omega) (by omega) ?_
  refine zw_iret z35_6 rfl ?_
  exact zv_end rfl
theorem sp_isRed (hz : iR z) : zv d q 36 [.ref g, iV z] w (iI (b2 (gRed z))) := by
  intro L xs cn sn
  refine ⟨_, rfl, ?_⟩
  show zw _ _ _ _ 36 0 [some (.ref g), some (iV z)] [] _ _ _ _
  refine zw_iload_n z36_0 rfl ?_
  refine zw_iconst z36_1 (v := iI 1) rfl ?_
  refine zj_icmp_eq z36_2 (by omega) (by omega) (fun h2 => ?_) (fun h2 => ?_)
  · refine zw_iconst z36_10 (v := iI 1) rfl ?_
    refine zw_goto z36_11 ?_
    refine zj_bret z36_15 rfl (by first | exact b2_r | omega) ?_
    exact zv_end (by first | rw [b2_t (by omega)] | rw [b2_f (by omega)])
  · refine zw_iload_n z36_5 rfl ?_
    refine zw_iconst z36_6 (v := iI 2) rfl ?_
    refine zj_icmp_ne z36_7 (by omega) (by omega) (fun h7 => ?_) (fun h7 => ?_)
    · refine zw_iconst z36_14 (v := iI 0) rfl ?_
      refine zj_bret z36_15 rfl (by first | exact b2_r | omega) ?_
      exact zv_end (by first | rw [b2_t (by omega)] | rw [b2_f (by omega)])
    · refine zw_iconst z36_10 (v := iI 1) rfl ?_
      refine zw_goto z36_11 ?_
      refine zj_bret z36_15 rfl (by first | exact b2_r | omega) ?_
      exact zv_end (by first | rw [b2_t (by omega)] | rw [b2_f (by omega)])
theorem gRank_rng (hG : gmV G) (hc : 0 ≤ c ∧ c < 52) : 1 ≤ gRank G c ∧ gRank G c ≤ 52 := by
  unfold gmV at hG
  have h1 : 0 ≤ c / G 4 := Int.ediv_nonneg (by omega) (by omega)
  have h2 : c / G 4 ≤ c := Int.ediv_le_self _ (by omega)
  exact ⟨by show 1 ≤ c / G 4 + 1; omega, by show c / G 4 + 1 ≤ 52; omega⟩
theorem gSuit_rng (hG : gmV G) : 0 ≤ gSuit G c ∧ gSuit G c < 4 := by
  unfold gmV at hG
  have h1 : 0 ≤ c % G 4 := Int.emod_nonneg _ (by omega)
  have h2 : c % G 4 < G 4 := Int.emod_lt_of_pos _ (by omega)
  exact ⟨h1, by show c % G 4 < 4; omega⟩
abbrev gFit (G : Nat → Int) (c o : Int) : Prop := gRank G c + 1 = gRank G o ∧ (G 2 = 0 → ¬ (gRed (gSuit G c) ↔ gRed (gSuit G o))) ∧ (G 2 = 1 → gSuit G c = gSuit G o)
abbrev gEmp (G : Nat → Int) (c : Int) : Prop := G 3 = 0 ∨ (G 3 = 1 ∧ gRank G c = G 5)
theorem sp_fitsOn {o : Int} (hg : gmA w g G) (hG : gmV G) (hc : 0 ≤ c ∧ c < 52) (ho : 0 ≤ o ∧ o < 52) (hd : 1 ≤ d) (hq : 21 ≤ q) : zv d q 37 [.ref g, iV c, iV o] w (iI (b2 (gFit G c o))) := by
  intro L xs cn sn
  obtain ⟨d, rfl⟩ : ∃ e, d = e + 1 := ⟨d - 1, by omega⟩
  have hg' := hg
  unfold gmA at hg'
  have r1 := gRank_rng hG hc
  have r2 := gRank_rng hG ho
  have s1 := gSuit_rng (c := c) hG
  have s2 := gSuit_rng (c := o) hG
  have hG' := hG
  unfold gmV at hG'
  refine ⟨_, rfl, ?_⟩
  show zw _ _ _ _ 37 0 [some (.ref g), some (iV c), some (iV o)] [] _ _ _ _
  refine zw_aload_n z37_0 rfl ?_
  refine zw_iload_n z37_1 rfl ?_
  refine zw_vv (n := 2) z37_2 rfl rfl (by assumption) (Nat.le_of_ble_eq_true rfl) (by omega) (sp_rankOf hg hG (by omega)) ?_
  refine zw_iconst z37_5 (v := iI 1) rfl ?_
  refine zj_add z37_6 ?_
  refine zw_aload_n z37_7 rfl ?_
  refine zw_iload_n z37_8 rfl ?_
  refine zw_vv (n := 2) z37_9 rfl rfl (by assumption) (Nat.le_of_ble_eq_true rfl) (by omega) (sp_rankOf hg hG (by omega)) ?_
  refine zj_icmp_eq z37_12 (by omega) (by omega) (fun h12 => ?_) (fun h12 => ?_)
  · refine zw_aload_n z37_17 rfl ?_
    refine zw_getf z37_18 (by assumption) (by rfl) ?_
    refine zj_if_ne z37_21 (by omega) (fun h21 => ?_) (fun h21 => ?_)
    · refine zw_aload_n z37_51 rfl ?_
      refine zw_getf z37_52 (by assumption) (by rfl) ?_
      refine zw_iconst z37_55 (v := iI 1) rfl ?_
      refine zj_icmp_ne z37_56 (by omega) (by omega) (fun h56 => ?_) (fun h56 => ?_)
      · refine zw_iconst z37_72 (v := iI 1) rfl ?_
        refine zw_goto z37_73 ?_
        refine zj_bret z37_77 rfl (by first | exact b2_r | omega) ?_
        exact zv_end (by first | rw [b2_t (by first | omega | grind)] | rw [b2_f (by first | omega | grind)])
      · refine zw_aload_n z37_59 rfl ?_
        refine zw_iload_n z37_60 rfl ?_
        refine zw_vv (n := 2) z37_61 rfl rfl (by assumption) (Nat.le_of_ble_eq_true rfl) (by omega) (sp_suitOf hg hG (by omega)) ?_
        refine zw_aload_n z37_64 rfl ?_
        refine zw_iload_n z37_65 rfl ?_
        refine zw_vv (n := 2) z37_66 rfl rfl (by assumption) (Nat.le_of_ble_eq_true rfl) (by omega) (sp_suitOf hg hG (by omega)) ?_
        refine zj_icmp_ne z37_69 (by omega) (by omega) (fun h69 => ?_) (fun h69 => ?_)
        · refine zw_iconst z37_76 (v := iI 0) rfl ?_
          refine zj_bret z37_77 rfl (by first | exact b2_r | omega) ?_
          exact zv_end (by first | rw [b2_t (by first | omega | grind)] | rw [b2_f (by first | omega | grind)])
        · refine zw_iconst z37_72 (v := iI 1) rfl ?_
          refine zw_goto z37_73 ?_
          refine zj_bret z37_77 rfl (by first | exact b2_r | omega) ?_
          exact zv_end (by first | rw [b2_t (by first | omega | grind)] | rw [b2_f (by first | omega | grind)])
    · refine zw_aload_n z37_24 rfl ?_
      refine zw_aload_n z37_25 rfl ?_
      refine zw_iload_n z37_26 rfl ?_
      refine zw_vv (n := 2) z37_27 rfl rfl (by assumption) (Nat.le_of_ble_eq_true rfl) (by omega) (sp_suitOf hg hG (by omega)) ?_
      refine zw_vv (n := 2) z37_30 rfl rfl (by assumption) (Nat.le_of_ble_eq_true rfl) (by omega) (sp_isRed (by omega)) ?_
      refine zw_aload_n z37_33 rfl ?_
      refine zw_aload_n z37_34 rfl ?_
      refine zw_iload_n z37_35 rfl ?_
      refine zw_vv (n := 2) z37_36 rfl rfl (by assumption) (Nat.le_of_ble_eq_true rfl) (by omega) (sp_suitOf hg hG (by omega)) ?_
      refine zw_vv (n := 2) z37_39 rfl rfl (by assumption) (Nat.le_of_ble_eq_true rfl) (by omega) (sp_isRed (by omega)) ?_
      refine zj_bb_eq z37_42 (fun h42 => ?_) (fun h42 => ?_)
      · refine zw_iconst z37_49 (v := iI 0) rfl ?_
        refine zj_bret z37_50 rfl (by first | exact b2_r | omega) ?_
        exact zv_end (by first | rw [b2_t (by first | omega | grind)] | rw [b2_f (by first | omega | grind)])
      · refine zw_iconst z37_45 (v := iI 1) rfl ?_
        refine zw_goto z37_46 ?_
        refine zj_bret z37_50 rfl (by first | exact b2_r | omega) ?_
        exact zv_end (by first | rw [b2_t (by first | omega | grind)] | rw [b2_f (by first | omega | grind)])
  · refine zw_iconst z37_15 (v := iI 0) rfl ?_
    refine zj_bret z37_16 rfl (by first | exact b2_r | omega) ?_
    exact zv_end (by first | rw [b2_t (by first | omega | grind)] | rw [b2_f (by first | omega | grind)])
theorem sp_fitsInEmpty (hg : gmA w g G) (hG : gmV G) (hc : 0 ≤ c ∧ c < 52) (hd : 1 ≤ d) (hq : 21 ≤ q) : zv d q 38 [.ref g, iV c] w (iI (b2 (gEmp G c))) := by
  intro L xs cn sn
  obtain ⟨d, rfl⟩ : ∃ e, d = e + 1 := ⟨d - 1, by omega⟩
  have hg' := hg
  unfold gmA at hg'
  have r1 := gRank_rng hG hc
  have hG' := hG
  unfold gmV at hG'
  refine ⟨_, rfl, ?_⟩
  show zw _ _ _ _ 38 0 [some (.ref g), some (iV c)] [] _ _ _ _
  refine zw_aload_n z38_0 rfl ?_
  refine zw_getf z38_1 (by assumption) (by rfl) ?_
  refine zj_if_eq z38_4 (by omega) (fun h4 => ?_) (fun h4 => ?_)
  · refine zw_iconst z38_27 (v := iI 1) rfl ?_
    refine zw_goto z38_28 ?_
    refine zj_bret z38_32 rfl (by first | exact b2_r | omega) ?_
    exact zv_end (by first | rw [b2_t (by first | omega | grind)] | rw [b2_f (by first | omega | grind)])
  · refine zw_aload_n z38_7 rfl ?_
    refine zw_getf z38_8 (by assumption) (by rfl) ?_
    refine zw_iconst z38_11 (v := iI 1) rfl ?_
    refine zj_icmp_ne z38_12 (by omega) (by omega) (fun h12 => ?_) (fun h12 => ?_)
    · refine zw_iconst z38_31 (v := iI 0) rfl ?_
      refine zj_bret z38_32 rfl (by first | exact b2_r | omega) ?_
      exact zv_end (by first | rw [b2_t (by first | omega | grind)] | rw [b2_f (by first | omega | grind)])
    · refine zw_aload_n z38_15 rfl ?_
      refine zw_iload_n z38_16 rfl ?_
      refine zw_vv (n := 2) z38_17 rfl rfl (by assumption) (Nat.le_of_ble_eq_true rfl) (by omega) (sp_rankOf hg hG (by omega)) ?_
      refine zw_aload_n z38_20 rfl ?_
      refine zw_getf z38_21 (by assumption) (by rfl) ?_
      refine zj_icmp_ne z38_24 (by omega) (by omega) (fun h24 => ?_) (fun h24 => ?_)
      · refine zw_iconst z38_31 (v := iI 0) rfl ?_
        refine zj_bret z38_32 rfl (by first | exact b2_r | omega) ?_
        exact zv_end (by first | rw [b2_t (by first | omega | grind)] | rw [b2_f (by first | omega | grind)])
      · refine zw_iconst z38_27 (v := iI 1) rfl ?_
        refine zw_goto z38_28 ?_
        refine zj_bret z38_32 rfl (by first | exact b2_r | omega) ?_
        exact zv_end (by first | rw [b2_t (by first | omega | grind)] | rw [b2_f (by first | omega | grind)])
end ZGM
