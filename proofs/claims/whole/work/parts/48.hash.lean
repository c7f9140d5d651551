/-! The class Search: shares, hashes, likeness, slots. (Laid out by gen/tpl.py from tpl/48.hash.tpl.) -/
def shX (x : Int32) : Int32 := ((x ^^^ (x.toUInt32 >>> ((iI 15).toUInt32 &&& Int32.toUInt32 31)).toInt32) * iI (-2048144777)) ^^^ (((x ^^^ (x.toUInt32 >>> ((iI 15).toUInt32 &&& Int32.toUInt32 31)).toInt32) * iI (-2048144777)).toUInt32 >>> ((iI 13).toUInt32 &&& Int32.toUInt32 31)).toInt32
/-- the share of card c on ground g -/
def sh (c g : Int) : Int := (shX (iI ((64 * c + g - (-4)) * (-1640531535)))).toInt
theorem sh_rng (c g : Int) : iR (sh c g) := iI_rng _
theorem sh_of (c g : Int) : iI (sh c g) = shX (iI ((64 * c + g - (-4)) * (-1640531535))) := iI_of _
/-- a number as an int holds it -/
def nm (z : Int) : Int := (iI z).toInt
theorem nm_rng (z : Int) : iR (nm z) := iI_rng _
theorem nm_of (z : Int) : iI (nm z) = iI z := iI_of _
theorem nm_eq {a b : Int} : nm a = nm b ↔ iI a = iI b := Int32.toInt_inj
theorem nm_id {z : Int} (h : iR z) : nm z = z := iI_toInt h
/-- a hash: the shares of the n cards from c on, added to z -/
def hsm (b : Nat → Int) : Nat → Nat → Int → Int
  | 0, _, z => z
  | n + 1, c, z => hsm b n (c + 1) (nm (z + sh c (b c)))
/-- the search at place 11: its numbers and arrays -/
def zfd : Nat → Option Nat := fun j => if j < 200 then some (16 + 4 * j) else none
theorem zfd_at {j n : Nat} (h : j = n) (hn : n < 200) : zfd j = some (16 + 4 * n) := by
  subst h
  exact if_pos hn
def srA (w : zi_W) (fu ct tm fs ps : Int) (H S1 S2 : Nat → Int) : Prop := zi_get w 11 = some (.inr (4, [.ref 1, .ref 12, .ref 13, .ref 14, .ref 15, iV fu, iV ct, iV tm, iV fs, iV ps])) ∧ zi_get w 12 = some (.inl (3, 200, .inr (.inr (.inr (.inr zfd))))) ∧ zi_get w 13 = some (.inl (0, 200, .inl (iA H))) ∧ zi_get w 14 = some (.inl (0, 200, .inl (iA S1))) ∧ zi_get w 15 = some (.inl (0, 512, .inl (iA S2)))
section ZHS
variable {L : Nat} {xs : Nat → Int32} {d q a o : Nat} {w : zi_W} {cn sn : Nat} {Q : zi_O → zi_W → Nat → Nat → Prop} {G b t h b1 t1 h1 H S1 S2 : Nat → Int} {la ah la1 ah1 z y c g mv gr fu ct tm fs ps : Int}
theorem sp_share : zv d q 75 [iV c, iV g] w (iI (sh c g)) := by
  intro L xs cn sn
  refine ⟨_, rfl, ?_⟩
  show zw _ _ _ _ 75 0 [some (iV c), some (iV g), none] [] _ _ _ _
  refine zw_bipush z75_0 (v := iI (64)) (by decide +kernel) ?_
  refine zw_iload_n z75_2 rfl ?_
  refine zj_mul z75_3 ?_
  refine zw_iload_n z75_4 rfl ?_
  refine zj_add z75_5 ?_
  refine zw_bipush z75_6 (v := iI (-4)) (by decide +kernel) ?_
  refine zj_sub z75_8 ?_
  refine zj_ldc z75_9 (z := (-1640531535)) (by decide +kernel) ?_
  refine zj_mul z75_11 ?_
  refine zw_istore_n z75_12 rfl ?_
  refine zw_iload_n z75_13 rfl ?_
  refine zw_iload_n z75_14 rfl ?_
  refine zw_bipush z75_15 (v := iI (15)) (by decide +kernel) ?_
  refine zw_iushr z75_17 ?_
  refine zw_ixor z75_18 ?_
  refine zj_ldc z75_19 (z := -2048144777) (by decide +kernel) ?_
  refine zw_imul z75_21 ?_
  refine zw_istore_n z75_22 rfl ?_
  refine zw_iload_n z75_23 rfl ?_
  refine zw_iload_n z75_24 rfl ?_
  refine zw_bipush z75_25 (v := iI (13)) (by decide +kernel) ?_
  refine zw_iushr z75_27 ?_
  refine zw_ixor z75_28 ?_
  refine zw_iret z75_29 rfl ?_
  exact zv_end (by rw [sh_of]; rfl)
/-- alike but for one card's ground, for the cards from i on -/
abbrev lAk (b1 b : Nat → Int) (mv gr : Int) (i n : Nat) : Prop := ∀ j, j < n → i ≤ j → b1 j = (if (j : Int) = mv then gr else b j)
theorem lp_isAlike {N : Nat} (hN : N ≤ 52) (hy : lyA w a b1 t1 h1 la1 ah1) (hx : lyA w o b t h la ah) (hB1 : ∀ j, -4 ≤ b1 j ∧ b1 j ≤ 51) (hB2 : ∀ j, -4 ≤ b j ∧ b j ≤ 51) (hm : 0 ≤ mv ∧ mv ≤ 51) (hr : -4 ≤ gr ∧ gr ≤ 51) : ∀ (n : Nat) (i : Int) (x7 : Option Value), i + n = N → 0 ≤ i → (∀ u, u = b2 (lAk b1 b mv gr i.toNat N) → Q (.inl (some (iV u))) w cn sn) → zw L xs d q 73 12 [some (.ref 11), some (.ref a), some (.ref o), some (iV mv), some (iV gr), some (iV N), some (iV i), x7] [] w cn sn Q := by
  obtain ⟨y0, y1, y2, y3⟩ := hy
  obtain ⟨x0, x1, x2, x3⟩ := hx
  intro n
  induction n with
  | zero =>
    intro i x7 h1 h2 hQ
    refine zw_iload z73_12 rfl ?_
    refine zw_iload z73_14 rfl ?_
    refine zj_icmp_ge z73_16 (by omega) (by omega) (fun h16 => ?_) (fun h16 => ?_)
    · refine zw_iconst z73_59 (v := iI 1) rfl ?_
      refine zj_bret z73_60 rfl (by first | exact b2_r | omega) ?_
      first | (exfalso; omega) | exact hQ _ (b2_t (P := lAk b1 b mv gr i.toNat N) (fun j q1 q2 => by omega)).symm
    · refine zw_iload z73_19 rfl ?_
      refine zw_iload_n z73_21 rfl ?_
      refine zj_icmp_ne z73_22 (by omega) (by omega) (fun h22 => ?_) (fun h22 => ?_)
      · refine zw_aload_n z73_30 rfl ?_
        refine zw_getf z73_31 (by assumption) (by rfl) ?_
        refine zw_iload z73_34 rfl ?_
        refine zj_aldB z73_36 (by assumption) (by omega) (by decide) hB2 (fun v36 e36 r36 => ?_)
        refine zw_istore z73_37 rfl ?_
        refine zw_aload_n z73_39 rfl ?_
        refine zw_getf z73_40 (by assumption) (by rfl) ?_
        refine zw_iload z73_43 rfl ?_
        refine zj_aldB z73_45 (by assumption) (by omega) (by decide) hB1 (fun v45 e45 r45 => ?_)
        refine zw_iload z73_46 rfl ?_
        refine zj_icmp_eq z73_48 (by omega) (by omega) (fun h48 => ?_) (fun h48 => ?_)
        · refine zj_iinc z73_53 rfl rfl ?_
          refine zw_goto z73_56 ?_
          first | (exfalso; omega) | exact ih (i + 1) _ (by omega) (by omega) (fun u hu => hQ u (by rw [hu]; apply b2_c; constructor; (intro q j h1 h2; by_cases h3 : j = i.toNat; (subst h3; first | (rw [if_pos (by omega)]; omega) | (rw [if_neg (by omega)]; omega)); exact q j h1 (by omega)); (intro q j h1 h2; exact q j h1 (by omega))))
        · refine zw_iconst z73_51 (v := iI 0) rfl ?_
          refine zj_bret z73_52 rfl (by first | exact b2_r | omega) ?_
          first | (exfalso; omega) | exact hQ _ (b2_t (P := lAk b1 b mv gr i.toNat N) (fun j q1 q2 => by omega)).symm
      · refine zw_iload z73_25 rfl ?_
        refine zw_goto z73_27 ?_
        refine zw_istore z73_37 rfl ?_
        refine zw_aload_n z73_39 rfl ?_
        refine zw_getf z73_40 (by assumption) (by rfl) ?_
        refine zw_iload z73_43 rfl ?_
        refine zj_aldB z73_45 (by assumption) (by omega) (by decide) hB1 (fun v45 e45 r45 => ?_)
        refine zw_iload z73_46 rfl ?_
        refine zj_icmp_eq z73_48 (by omega) (by omega) (fun h48 => ?_) (fun h48 => ?_)
        · refine zj_iinc z73_53 rfl rfl ?_
          refine zw_goto z73_56 ?_
          first | (exfalso; omega) | exact ih (i + 1) _ (by omega) (by omega) (fun u hu => hQ u (by rw [hu]; apply b2_c; constructor; (intro q j h1 h2; by_cases h3 : j = i.toNat; (subst h3; first | (rw [if_pos (by omega)]; omega) | (rw [if_neg (by omega)]; omega)); exact q j h1 (by omega)); (intro q j h1 h2; exact q j h1 (by omega))))
        · refine zw_iconst z73_51 (v := iI 0) rfl ?_
          refine zj_bret z73_52 rfl (by first | exact b2_r | omega) ?_
          first | (exfalso; omega) | exact hQ _ (b2_t (P := lAk b1 b mv gr i.toNat N) (fun j q1 q2 => by omega)).symm
  | succ n ih =>
    intro i x7 h1 h2 hQ
    refine zw_iload z73_12 rfl ?_
    refine zw_iload z73_14 rfl ?_
    refine zj_icmp_ge z73_16 (by omega) (by omega) (fun h16 => ?_) (fun h16 => ?_)
    · refine zw_iconst z73_59 (v := iI 1) rfl ?_
      refine zj_bret z73_60 rfl (by first | exact b2_r | omega) ?_
      first | (exfalso; omega) | exact hQ _ (b2_f (P := lAk b1 b mv gr i.toNat N) (fun q => by have := q i.toNat (by omega) (by omega); first | (rw [if_pos (by omega)] at this; omega) | (rw [if_neg (by omega)] at this; omega))).symm
    · refine zw_iload z73_19 rfl ?_
      refine zw_iload_n z73_21 rfl ?_
      refine zj_icmp_ne z73_22 (by omega) (by omega) (fun h22 => ?_) (fun h22 => ?_)
      · refine zw_aload_n z73_30 rfl ?_
        refine zw_getf z73_31 (by assumption) (by rfl) ?_
        refine zw_iload z73_34 rfl ?_
        refine zj_aldB z73_36 (by assumption) (by omega) (by decide) hB2 (fun v36 e36 r36 => ?_)
        refine zw_istore z73_37 rfl ?_
        refine zw_aload_n z73_39 rfl ?_
        refine zw_getf z73_40 (by assumption) (by rfl) ?_
        refine zw_iload z73_43 rfl ?_
        refine zj_aldB z73_45 (by assumption) (by omega) (by decide) hB1 (fun v45 e45 r45 => ?_)
        refine zw_iload z73_46 rfl ?_
        refine zj_icmp_eq z73_48 (by omega) (by omega) (fun h48 => ?_) (fun h48 => ?_)
        · refine zj_iinc z73_53 rfl rfl ?_
          refine zw_goto z73_56 ?_
          first | (exfalso; omega) | exact ih (i + 1) _ (by omega) (by omega) (fun u hu => hQ u (by rw [hu]; apply b2_c; constructor; (intro q j h1 h2; by_cases h3 : j = i.toNat; (subst h3; first | (rw [if_pos (by omega)]; omega) | (rw [if_neg (by omega)]; omega)); exact q j h1 (by omega)); (intro q j h1 h2; exact q j h1 (by omega))))
        · refine zw_iconst z73_51 (v := iI 0) rfl ?_
          refine zj_bret z73_52 rfl (by first | exact b2_r | omega) ?_
          first | (exfalso; omega) | exact hQ _ (b2_f (P := lAk b1 b mv gr i.toNat N) (fun q => by have := q i.toNat (by omega) (by omega); first | (rw [if_pos (by omega)] at this; omega) | (rw [if_neg (by omega)] at this; omega))).symm
      · refine zw_iload z73_25 rfl ?_
        refine zw_goto z73_27 ?_
        refine zw_istore z73_37 rfl ?_
        refine zw_aload_n z73_39 rfl ?_
        refine zw_getf z73_40 (by assumption) (by rfl) ?_
        refine zw_iload z73_43 rfl ?_
        refine zj_aldB z73_45 (by assumption) (by omega) (by decide) hB1 (fun v45 e45 r45 => ?_)
        refine zw_iload z73_46 rfl ?_
        refine zj_icmp_eq z73_48 (by omega) (by omega) (fun h48 => ?_) (fun h48 => ?_)
        · refine zj_iinc z73_53 rfl rfl ?_
          refine zw_goto z73_56 ?_
          first | (exfalso; omega) | exact ih (i + 1) _ (by omega) (by omega) (fun u hu => hQ u (by rw [hu]; apply b2_c; constructor; (intro q j h1 h2; by_cases h3 : j = i.toNat; (subst h3; first | (rw [if_pos (by omega)]; omega) | (rw [if_neg (by omega)]; omega)); exact q j h1 (by omega)); (intro q j h1 h2; exact q j h1 (by omega))))
        · refine zw_iconst z73_51 (v := iI 0) rfl ?_
          refine zj_bret z73_52 rfl (by first | exact b2_r | omega) ?_
          first | (exfalso; omega) | exact hQ _ (b2_f (P := lAk b1 b mv gr i.toNat N) (fun q => by have := q i.toNat (by omega) (by omega); first | (rw [if_pos (by omega)] at this; omega) | (rw [if_neg (by omega)] at this; omega))).symm
theorem sp_isAlike (hg : gmA w 1 G) (hG : gmV G) (hs : srA w fu ct tm fs ps H S1 S2) (hy : lyA w a b1 t1 h1 la1 ah1) (hx : lyA w o b t h la ah) (hB1 : ∀ j, -4 ≤ b1 j ∧ b1 j ≤ 51) (hB2 : ∀ j, -4 ≤ b j ∧ b j ≤ 51) (hm : 0 ≤ mv ∧ mv ≤ 51) (hr : -4 ≤ gr ∧ gr ≤ 51) (hd : 1 ≤ d) (hq : 20 ≤ q) : zv d q 73 [.ref 11, .ref a, .ref o, iV mv, iV gr] w (iI (b2 (lAk b1 b mv gr 0 (gAll G).toNat))) := by
  intro L xs cn sn
  obtain ⟨d, rfl⟩ : ∃ e, d = e + 1 := ⟨d - 1, by omega⟩
  have hg' := hg
  unfold gmA at hg'
  have hA := gAll_rng hG
  obtain ⟨s0, s1, s2, s3, s4⟩ := hs
  refine ⟨_, rfl, ?_⟩
  show zw _ _ _ _ 73 0 [some (.ref 11), some (.ref a), some (.ref o), some (iV mv), some (iV gr), none, none, none] [] _ _ _ _
  refine zw_aload_n z73_0 rfl ?_
  refine zw_getf z73_1 (by assumption) (by rfl) ?_
  refine zw_vv (n := 1) z73_4 rfl rfl (by assumption) (Nat.le_of_ble_eq_true rfl) (by omega) (sp_cardCount hg) ?_
  refine zw_istore z73_7 rfl ?_
  refine zw_iconst z73_9 (v := iI 0) rfl ?_
  refine zw_istore z73_10 rfl ?_
  have e9 : gAll G = (((gAll G).toNat : Nat) : Int) := by omega
  rw [e9]
  exact lp_isAlike (N := (gAll G).toNat) (by omega) hy hx hB1 hB2 hm hr (gAll G).toNat 0 none (by omega) (by omega) (fun u hu => zv_end (by rw [hu]; rfl))
theorem lp_hashOf {N : Nat} (hN : N ≤ 52) (hx : lyA w o b t h la ah) (hB1 : ∀ j, -4 ≤ b j ∧ b j ≤ 51) (hd : 1 ≤ d) (hq : 22 ≤ q) : ∀ (n : Nat) (i u : Int), i + n = N → 0 ≤ i → iR u → (∀ r, r = hsm b n i.toNat u → Q (.inl (some (iV r))) w cn sn) → zw L xs d q 74 13 [some (.ref 11), some (.ref o), some (iV u), some (iV N), some (iV i)] [] w cn sn Q := by
  obtain ⟨d, rfl⟩ : ∃ e, d = e + 1 := ⟨d - 1, by omega⟩
  obtain ⟨x0, x1, x2, x3⟩ := hx
  intro n
  induction n with
  | zero =>
    intro i u h1 h2 h3 hQ
    refine zw_iload z74_13 rfl ?_
    refine zw_iload_n z74_15 rfl ?_
    refine zj_icmp_ge z74_16 (by omega) (by omega) (fun h16 => ?_) (fun h16 => ?_)
    · refine zw_iload_n z74_40 rfl ?_
      refine zw_iret z74_41 rfl ?_
      first | (exfalso; omega) | exact hQ _ rfl
    · refine zw_iload_n z74_19 rfl ?_
      refine zw_iload z74_20 rfl ?_
      refine zw_aload_n z74_22 rfl ?_
      refine zw_getf z74_23 (by assumption) (by rfl) ?_
      refine zw_iload z74_26 rfl ?_
      refine zj_aldB z74_28 (by assumption) (by omega) (by decide) hB1 (fun v28 e28 r28 => ?_)
      refine zw_vs (n := 3) z74_29 rfl rfl (Nat.le_of_ble_eq_true rfl) (by omega) (sp_share) ?_
      refine zj_add z74_32 ?_
      refine zw_istore_n z74_33 rfl ?_
      refine zj_iinc z74_34 rfl rfl ?_
      refine zw_goto z74_37 ?_
      first | (exfalso; omega) | exact ih (i + 1) (nm (u + sh i v28)) (by omega) (by omega) (nm_rng _) (fun r hr => hQ r (by rw [hr]; show _ = hsm b n (i.toNat + 1) _; rw [show (i + 1).toNat = i.toNat + 1 by omega, show ((i.toNat : Nat) : Int) = i by omega, e28]))
  | succ n ih =>
    intro i u h1 h2 h3 hQ
    refine zw_iload z74_13 rfl ?_
    refine zw_iload_n z74_15 rfl ?_
    refine zj_icmp_ge z74_16 (by omega) (by omega) (fun h16 => ?_) (fun h16 => ?_)
    · exfalso; omega
    · refine zw_iload_n z74_19 rfl ?_
      refine zw_iload z74_20 rfl ?_
      refine zw_aload_n z74_22 rfl ?_
      refine zw_getf z74_23 (by assumption) (by rfl) ?_
      refine zw_iload z74_26 rfl ?_
      refine zj_aldB z74_28 (by assumption) (by omega) (by decide) hB1 (fun v28 e28 r28 => ?_)
      refine zw_vs (n := 3) z74_29 rfl rfl (Nat.le_of_ble_eq_true rfl) (by omega) (sp_share) ?_
      refine zj_add z74_32 ?_
      rw [show iV (u + sh i v28) = iV (nm (u + sh i v28)) from congrArg Value.int (nm_of _).symm]
      refine zw_istore_n z74_33 rfl ?_
      refine zj_iinc z74_34 rfl rfl ?_
      refine zw_goto z74_37 ?_
      exact ih (i + 1) (nm (u + sh i v28)) (by omega) (by omega) (nm_rng _) (fun r hr => hQ r (by rw [hr]; show _ = hsm b n (i.toNat + 1) _; rw [show (i + 1).toNat = i.toNat + 1 by omega, show ((i.toNat : Nat) : Int) = i by omega, e28]))
theorem sp_hashOf (hg : gmA w 1 G) (hG : gmV G) (hs : srA w fu ct tm fs ps H S1 S2) (hx : lyA w o b t h la ah) (hB1 : ∀ j, -4 ≤ b j ∧ b j ≤ 51) (hd : 1 ≤ d) (hq : 22 ≤ q) : zv d q 74 [.ref 11, .ref o] w (iI (hsm b (gAll G).toNat 0 0)) := by
  intro L xs cn sn
  obtain ⟨d, rfl⟩ : ∃ e, d = e + 1 := ⟨d - 1, by omega⟩
  have hg' := hg
  unfold gmA at hg'
  have hA := gAll_rng hG
  obtain ⟨s0, s1, s2, s3, s4⟩ := hs
  refine ⟨_, rfl, ?_⟩
  show zw _ _ _ _ 74 0 [some (.ref 11), some (.ref o), none, none, none] [] _ _ _ _
  refine zw_iconst z74_0 (v := iI 0) rfl ?_
  refine zw_istore_n z74_1 rfl ?_
  refine zw_aload_n z74_2 rfl ?_
  refine zw_getf z74_3 (by assumption) (by rfl) ?_
  refine zw_vv (n := 1) z74_6 rfl rfl (by assumption) (Nat.le_of_ble_eq_true rfl) (by omega) (sp_cardCount hg) ?_
  refine zw_istore_n z74_9 rfl ?_
  refine zw_iconst z74_10 (v := iI 0) rfl ?_
  refine zw_istore z74_11 rfl ?_
  have e9 : gAll G = (((gAll G).toNat : Nat) : Int) := by omega
  rw [e9]
  exact lp_hashOf (N := (gAll G).toNat) (by omega) hx hB1 (by omega) (by omega) (gAll G).toNat 0 0 (by omega) (by omega) (by decide) (fun r hr => zv_end (by rw [hr]; rfl))
end ZHS
