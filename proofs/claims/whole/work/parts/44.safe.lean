/-! The class Layout: what may go home without harm. (Laid out by gen/tpl.py from tpl/44.safe.tpl.) -/
/-- no suit of the n from s on still wants card c -/
def lSf (G h : Nat → Int) (c : Int) : Nat → Int → Bool
  | 0, _ => true
  | n + 1, s => if (G 2 ≠ 0 ∨ ¬ (gRed s ↔ gRed (gSuit G c))) ∧ h s.toNat < gRank G c - 1 then false else lSf G h c n (s + 1)
theorem lSf_t {G h : Nat → Int} {c s : Int} {n : Nat} (q : ¬ ((G 2 ≠ 0 ∨ ¬ (gRed s ↔ gRed (gSuit G c))) ∧ h s.toNat < gRank G c - 1)) : lSf G h c (n + 1) s = lSf G h c n (s + 1) := if_neg q
theorem lSf_f {G h : Nat → Int} {c s : Int} {n : Nat} (q : (G 2 ≠ 0 ∨ ¬ (gRed s ↔ gRed (gSuit G c))) ∧ h s.toNat < gRank G c - 1) : lSf G h c (n + 1) s = false := if_pos q
abbrev lSafe (G h : Nat → Int) (c : Int) : Prop := G 2 = 1 ∨ gRank G c ≤ 2 ∨ lSf G h c (G 4).toNat 0 = true
section ZSF
variable {d q a : Nat} {w : zi_W} {G b t h : Nat → Int} {la ah z c : Int}
theorem lp_isSafe {L : Nat} {xs : Nat → Int32} {cn sn : Nat} {Q : zi_O → zi_W → Nat → Nat → Prop} (hg : gmA w 1 G) (hG : gmV G) (hy : lyA w a b t h la ah) (hV : lyV b t h la ah) (hc : 0 ≤ c ∧ c < 52) (hd : 1 ≤ d) (hq : 21 ≤ q) : ∀ (n : Nat) (s : Int) (x5 : Option Value), s + n = G 4 → 0 ≤ s → (∀ u, u = b2 (lSf G h c n s = true) → Q (.inl (some (iV u))) w cn sn) → zw L xs d q 60 46 [some (.ref a), some (iV c), some (iV (gRank G c)), some (iV (b2 (gRed (gSuit G c)))), some (iV s), x5] [] w cn sn Q := by
  obtain ⟨d, rfl⟩ : ∃ e, d = e + 1 := ⟨d - 1, by omega⟩
  have hg' := hg
  unfold gmA at hg'
  have hG' := hG
  unfold gmV at hG'
  obtain ⟨y0, y1, y2, y3⟩ := hy
  obtain ⟨hV1, hV2, hV3, hV4, hV5⟩ := hV
  have r1 := gRank_rng hG hc
  intro n
  induction n with
  | zero =>
    intro s x5 h1 h2 hQ
    refine zw_iload z60_46 rfl ?_
    refine zw_aload_n z60_48 rfl ?_
    refine zw_getf z60_49 (by assumption) (by rfl) ?_
    refine zw_getf z60_52 (by assumption) (by rfl) ?_
    refine zj_icmp_ge z60_55 (by omega) (by omega) (fun h55 => ?_) (fun h55 => ?_)
    · refine zw_iconst z60_114 (v := iI 1) rfl ?_
      refine zj_bret z60_115 rfl (by first | exact b2_r | omega) ?_
      first | (exfalso; omega) | exact hQ _ (b2_t (P := lSf G h c 0 s = true) rfl).symm
    · refine zw_aload_n z60_58 rfl ?_
      refine zw_getf z60_59 (by assumption) (by rfl) ?_
      refine zw_getf z60_62 (by assumption) (by rfl) ?_
      refine zj_if_ne z60_65 (by omega) (fun h65 => ?_) (fun h65 => ?_)
      · refine zw_iconst z60_81 (v := iI 1) rfl ?_
        refine zw_goto z60_82 ?_
        refine zw_istore z60_86 rfl ?_
        refine zw_iload z60_88 rfl ?_
        refine zj_if_eq z60_90 (by omega) (fun h90 => ?_) (fun h90 => ?_)
        · refine zj_iinc z60_108 rfl rfl ?_
          refine zw_goto z60_111 ?_
          first | (exfalso; omega) | exact ih (s + 1) _ (by omega) (by omega) (fun u hu => hQ u (by rw [hu, lSf_t (by grind)]))
        · refine zw_aload_n z60_93 rfl ?_
          refine zw_getf z60_94 (by assumption) (by rfl) ?_
          refine zw_iload z60_97 rfl ?_
          refine zj_aldB z60_99 (by assumption) (by omega) (by decide) hV3 (fun v99 e99 r99 => ?_)
          refine zw_iload_n z60_100 rfl ?_
          refine zw_iconst z60_101 (v := iI 1) rfl ?_
          refine zj_sub z60_102 ?_
          refine zj_icmp_ge z60_103 (by omega) (by omega) (fun h103 => ?_) (fun h103 => ?_)
          · refine zj_iinc z60_108 rfl rfl ?_
            refine zw_goto z60_111 ?_
            first | (exfalso; omega) | exact ih (s + 1) _ (by omega) (by omega) (fun u hu => hQ u (by rw [hu, lSf_t (by grind)]))
          · refine zw_iconst z60_106 (v := iI 0) rfl ?_
            refine zj_bret z60_107 rfl (by first | exact b2_r | omega) ?_
            first | (exfalso; omega) | exact hQ _ (b2_t (P := lSf G h c 0 s = true) rfl).symm
      · refine zw_aload_n z60_68 rfl ?_
        refine zw_getf z60_69 (by assumption) (by rfl) ?_
        refine zw_iload z60_72 rfl ?_
        refine zw_vv (n := 2) z60_74 rfl rfl (by assumption) (Nat.le_of_ble_eq_true rfl) (by omega) (sp_isRed (by omega)) ?_
        refine zw_iload_n z60_77 rfl ?_
        refine zj_bb_eq z60_78 (fun h78 => ?_) (fun h78 => ?_)
        · refine zw_iconst z60_85 (v := iI 0) rfl ?_
          refine zw_istore z60_86 rfl ?_
          refine zw_iload z60_88 rfl ?_
          refine zj_if_eq z60_90 (by omega) (fun h90 => ?_) (fun h90 => ?_)
          · refine zj_iinc z60_108 rfl rfl ?_
            refine zw_goto z60_111 ?_
            first | (exfalso; omega) | exact ih (s + 1) _ (by omega) (by omega) (fun u hu => hQ u (by rw [hu, lSf_t (by grind)]))
          · refine zw_aload_n z60_93 rfl ?_
            refine zw_getf z60_94 (by assumption) (by rfl) ?_
            refine zw_iload z60_97 rfl ?_
            refine zj_aldB z60_99 (by assumption) (by omega) (by decide) hV3 (fun v99 e99 r99 => ?_)
            refine zw_iload_n z60_100 rfl ?_
            refine zw_iconst z60_101 (v := iI 1) rfl ?_
            refine zj_sub z60_102 ?_
            refine zj_icmp_ge z60_103 (by omega) (by omega) (fun h103 => ?_) (fun h103 => ?_)
            · refine zj_iinc z60_108 rfl rfl ?_
              refine zw_goto z60_111 ?_
              first | (exfalso; omega) | exact ih (s + 1) _ (by omega) (by omega) (fun u hu => hQ u (by rw [hu, lSf_t (by grind)]))
            · refine zw_iconst z60_106 (v := iI 0) rfl ?_
              refine zj_bret z60_107 rfl (by first | exact b2_r | omega) ?_
              first | (exfalso; omega) | exact hQ _ (b2_t (P := lSf G h c 0 s = true) rfl).symm
        · refine zw_iconst z60_81 (v := iI 1) rfl ?_
          refine zw_goto z60_82 ?_
          refine zw_istore z60_86 rfl ?_
          refine zw_iload z60_88 rfl ?_
          refine zj_if_eq z60_90 (by omega) (fun h90 => ?_) (fun h90 => ?_)
          · refine zj_iinc z60_108 rfl rfl ?_
            refine zw_goto z60_111 ?_
            first | (exfalso; omega) | exact ih (s + 1) _ (by omega) (by omega) (fun u hu => hQ u (by rw [hu, lSf_t (by grind)]))
          · refine zw_aload_n z60_93 rfl ?_
            refine zw_getf z60_94 (by assumption) (by rfl) ?_
            refine zw_iload z60_97 rfl ?_
            refine zj_aldB z60_99 (by assumption) (by omega) (by decide) hV3 (fun v99 e99 r99 => ?_)
            refine zw_iload_n z60_100 rfl ?_
            refine zw_iconst z60_101 (v := iI 1) rfl ?_
            refine zj_sub z60_102 ?_
            refine zj_icmp_ge z60_103 (by omega) (by omega) (fun h103 => ?_) (fun h103 => ?_)
            · refine zj_iinc z60_108 rfl rfl ?_
              refine zw_goto z60_111 ?_
              first | (exfalso; omega) | exact ih (s + 1) _ (by omega) (by omega) (fun u hu => hQ u (by rw [hu, lSf_t (by grind)]))
            · refine zw_iconst z60_106 (v := iI 0) rfl ?_
              refine zj_bret z60_107 rfl (by first | exact b2_r | omega) ?_
              first | (exfalso; omega) | exact hQ _ (b2_t (P := lSf G h c 0 s = true) rfl).symm
  | succ n ih =>
    intro s x5 h1 h2 hQ
    refine zw_iload z60_46 rfl ?_
    refine zw_aload_n z60_48 rfl ?_
    refine zw_getf z60_49 (by assumption) (by rfl) ?_
    refine zw_getf z60_52 (by assumption) (by rfl) ?_
    refine zj_icmp_ge z60_55 (by omega) (by omega) (fun h55 => ?_) (fun h55 => ?_)
    · refine zw_iconst z60_114 (v := iI 1) rfl ?_
      refine zj_bret z60_115 rfl (by first | exact b2_r | omega) ?_
      first | (exfalso; omega) | exact hQ _ (by rw [lSf_f (by grind), b2_f (by decide)])
    · refine zw_aload_n z60_58 rfl ?_
      refine zw_getf z60_59 (by assumption) (by rfl) ?_
      refine zw_getf z60_62 (by assumption) (by rfl) ?_
      refine zj_if_ne z60_65 (by omega) (fun h65 => ?_) (fun h65 => ?_)
      · refine zw_iconst z60_81 (v := iI 1) rfl ?_
        refine zw_goto z60_82 ?_
        refine zw_istore z60_86 rfl ?_
        refine zw_iload z60_88 rfl ?_
        refine zj_if_eq z60_90 (by omega) (fun h90 => ?_) (fun h90 => ?_)
        · refine zj_iinc z60_108 rfl rfl ?_
          refine zw_goto z60_111 ?_
          first | (exfalso; omega) | exact ih (s + 1) _ (by omega) (by omega) (fun u hu => hQ u (by rw [hu, lSf_t (by grind)]))
        · refine zw_aload_n z60_93 rfl ?_
          refine zw_getf z60_94 (by assumption) (by rfl) ?_
          refine zw_iload z60_97 rfl ?_
          refine zj_aldB z60_99 (by assumption) (by omega) (by decide) hV3 (fun v99 e99 r99 => ?_)
          refine zw_iload_n z60_100 rfl ?_
          refine zw_iconst z60_101 (v := iI 1) rfl ?_
          refine zj_sub z60_102 ?_
          refine zj_icmp_ge z60_103 (by omega) (by omega) (fun h103 => ?_) (fun h103 => ?_)
          · refine zj_iinc z60_108 rfl rfl ?_
            refine zw_goto z60_111 ?_
            first | (exfalso; omega) | exact ih (s + 1) _ (by omega) (by omega) (fun u hu => hQ u (by rw [hu, lSf_t (by grind)]))
          · refine zw_iconst z60_106 (v := iI 0) rfl ?_
            refine zj_bret z60_107 rfl (by first | exact b2_r | omega) ?_
            first | (exfalso; omega) | exact hQ _ (by rw [lSf_f (by grind), b2_f (by decide)])
      · refine zw_aload_n z60_68 rfl ?_
        refine zw_getf z60_69 (by assumption) (by rfl) ?_
        refine zw_iload z60_72 rfl ?_
        refine zw_vv (n := 2) z60_74 rfl rfl (by assumption) (Nat.le_of_ble_eq_true rfl) (by omega) (sp_isRed (by omega)) ?_
        refine zw_iload_n z60_77 rfl ?_
        refine zj_bb_eq z60_78 (fun h78 => ?_) (fun h78 => ?_)
        · refine zw_iconst z60_85 (v := iI 0) rfl ?_
          refine zw_istore z60_86 rfl ?_
          refine zw_iload z60_88 rfl ?_
          refine zj_if_eq z60_90 (by omega) (fun h90 => ?_) (fun h90 => ?_)
          · refine zj_iinc z60_108 rfl rfl ?_
            refine zw_goto z60_111 ?_
            first | (exfalso; omega) | exact ih (s + 1) _ (by omega) (by omega) (fun u hu => hQ u (by rw [hu, lSf_t (by grind)]))
          · refine zw_aload_n z60_93 rfl ?_
            refine zw_getf z60_94 (by assumption) (by rfl) ?_
            refine zw_iload z60_97 rfl ?_
            refine zj_aldB z60_99 (by assumption) (by omega) (by decide) hV3 (fun v99 e99 r99 => ?_)
            refine zw_iload_n z60_100 rfl ?_
            refine zw_iconst z60_101 (v := iI 1) rfl ?_
            refine zj_sub z60_102 ?_
            refine zj_icmp_ge z60_103 (by omega) (by omega) (fun h103 => ?_) (fun h103 => ?_)
            · refine zj_iinc z60_108 rfl rfl ?_
              refine zw_goto z60_111 ?_
              first | (exfalso; omega) | exact ih (s + 1) _ (by omega) (by omega) (fun u hu => hQ u (by rw [hu, lSf_t (by grind)]))
            · refine zw_iconst z60_106 (v := iI 0) rfl ?_
              refine zj_bret z60_107 rfl (by first | exact b2_r | omega) ?_
              first | (exfalso; omega) | exact hQ _ (by rw [lSf_f (by grind), b2_f (by decide)])
        · refine zw_iconst z60_81 (v := iI 1) rfl ?_
          refine zw_goto z60_82 ?_
          refine zw_istore z60_86 rfl ?_
          refine zw_iload z60_88 rfl ?_
          refine zj_if_eq z60_90 (by omega) (fun h90 => ?_) (fun h90 => ?_)
          · refine zj_iinc z60_108 rfl rfl ?_
            refine zw_goto z60_111 ?_
            first | (exfalso; omega) | exact ih (s + 1) _ (by omega) (by omega) (fun u hu => hQ u (by rw [hu, lSf_t (by grind)]))
          · refine zw_aload_n z60_93 rfl ?_
            refine zw_getf z60_94 (by assumption) (by rfl) ?_
            refine zw_iload z60_97 rfl ?_
            refine zj_aldB z60_99 (by assumption) (by omega) (by decide) hV3 (fun v99 e99 r99 => ?_)
            refine zw_iload_n z60_100 rfl ?_
            refine zw_iconst z60_101 (v := iI 1) rfl ?_
            refine zj_sub z60_102 ?_
            refine zj_icmp_ge z60_103 (by omega) (by omega) (fun h103 => ?_) (fun h103 => ?_)
            · refine zj_iinc z60_108 rfl rfl ?_
              refine zw_goto z60_111 ?_
              first | (exfalso; omega) | exact ih (s + 1) _ (by omega) (by omega) (fun u hu => hQ u (by rw [hu, lSf_t (by grind)]))
            · refine zw_iconst z60_106 (v := iI 0) rfl ?_
              refine zj_bret z60_107 rfl (by first | exact b2_r | omega) ?_
              first | (exfalso; omega) | exact hQ _ (by rw [lSf_f (by grind), b2_f (by decide)])
theorem sp_isSafe (hg : gmA w 1 G) (hG : gmV G) (hy : lyA w a b t h la ah) (hV : lyV b t h la ah) (hc : 0 ≤ c ∧ c < 52) (hd : 1 ≤ d) (hq : 21 ≤ q) : zv d q 60 [.ref a, iV c] w (iI (b2 (lSafe G h c))) := by
  intro L xs cn sn
  obtain ⟨d, rfl⟩ : ∃ e, d = e + 1 := ⟨d - 1, by omega⟩
  have hg' := hg
  unfold gmA at hg'
  have hG' := hG
  unfold gmV at hG'
  obtain ⟨y0, y1, y2, y3⟩ := hy
  have hy : lyA w a b t h la ah := ⟨y0, y1, y2, y3⟩
  have r1 := gRank_rng hG hc
  have s1 := gSuit_rng (c := c) hG
  refine ⟨_, rfl, ?_⟩
  show zw _ _ _ _ 60 0 [some (.ref a), some (iV c), none, none, none, none] [] _ _ _ _
  refine zw_aload_n z60_0 rfl ?_
  refine zw_getf z60_1 (by assumption) (by rfl) ?_
  refine zw_iload_n z60_4 rfl ?_
  refine zw_vv (n := 2) z60_5 rfl rfl (by assumption) (Nat.le_of_ble_eq_true rfl) (by omega) (sp_rankOf hg hG (by omega)) ?_
  refine zw_istore_n z60_8 rfl ?_
  refine zw_aload_n z60_9 rfl ?_
  refine zw_getf z60_10 (by assumption) (by rfl) ?_
  refine zw_getf z60_13 (by assumption) (by rfl) ?_
  refine zw_iconst z60_16 (v := iI 1) rfl ?_
  refine zj_icmp_eq z60_17 (by omega) (by omega) (fun h17 => ?_) (fun h17 => ?_)
  · refine zw_iconst z60_25 (v := iI 1) rfl ?_
    refine zj_bret z60_26 rfl (by first | exact b2_r | omega) ?_
    exact zv_end (by rw [b2_t (by unfold lSafe; omega)])
  · refine zw_iload_n z60_20 rfl ?_
    refine zw_iconst z60_21 (v := iI 2) rfl ?_
    refine zj_icmp_gt z60_22 (by omega) (by omega) (fun h22 => ?_) (fun h22 => ?_)
    · refine zw_aload_n z60_27 rfl ?_
      refine zw_getf z60_28 (by assumption) (by rfl) ?_
      refine zw_aload_n z60_31 rfl ?_
      refine zw_getf z60_32 (by assumption) (by rfl) ?_
      refine zw_iload_n z60_35 rfl ?_
      refine zw_vv (n := 2) z60_36 rfl rfl (by assumption) (Nat.le_of_ble_eq_true rfl) (by omega) (sp_suitOf hg hG (by omega)) ?_
      refine zw_vv (n := 2) z60_39 rfl rfl (by assumption) (Nat.le_of_ble_eq_true rfl) (by omega) (sp_isRed (by omega)) ?_
      refine zw_istore_n z60_42 rfl ?_
      refine zw_iconst z60_43 (v := iI 0) rfl ?_
      refine zw_istore z60_44 rfl ?_
      exact lp_isSafe hg hG hy hV hc (by omega) (by omega) (G 4).toNat 0 _ (by omega) (by omega) (fun u hu => zv_end (by rw [hu]; congr 1; apply b2_c; unfold lSafe; grind))
    · refine zw_iconst z60_25 (v := iI 1) rfl ?_
      refine zj_bret z60_26 rfl (by first | exact b2_r | omega) ?_
      exact zv_end (by rw [b2_t (by unfold lSafe; omega)])
/-- the top card at place z may go home without harm -/
abbrev lTS (G t h : Nat → Int) (z : Int) : Prop := t z.toNat ≠ -1 ∧ lMay G h (t z.toNat) ∧ lSafe G h (t z.toNat)
theorem sp_isTopSafe (hg : gmA w 1 G) (hG : gmV G) (hy : lyA w a b t h la ah) (hV : lyV b t h la ah) (hz : 0 ≤ z ∧ z < 12) (hd : 2 ≤ d) (hq : 46 ≤ q) : zv d q 59 [.ref a, iV z] w (iI (b2 (lTS G t h z))) := by
  intro L xs cn sn
  obtain ⟨d, rfl⟩ : ∃ e, d = e + 1 := ⟨d - 1, by omega⟩
  obtain ⟨y0, y1, y2, y3⟩ := hy
  have hy : lyA w a b t h la ah := ⟨y0, y1, y2, y3⟩
  have hV' := hV
  obtain ⟨hV1, hV2, hV3, hV4, hV5⟩ := hV'
  refine ⟨_, rfl, ?_⟩
  show zw _ _ _ _ 59 0 [some (.ref a), some (iV z), none] [] _ _ _ _
  refine zw_aload_n z59_0 rfl ?_
  refine zw_getf z59_1 (by assumption) (by rfl) ?_
  refine zw_iload_n z59_4 rfl ?_
  refine zj_aldB z59_5 (by assumption) (by omega) (by decide) hV2 (fun v5 e5 r5 => ?_)
  refine zw_istore_n z59_6 rfl ?_
  refine zw_iload_n z59_7 rfl ?_
  refine zw_iconst z59_8 (v := iI (-1)) rfl ?_
  refine zj_icmp_eq z59_9 (by omega) (by omega) (fun h9 => ?_) (fun h9 => ?_)
  · refine zw_iconst z59_32 (v := iI 0) rfl ?_
    refine zj_bret z59_33 rfl (by first | exact b2_r | omega) ?_
    exact zv_end (by subst e5; first | rw [b2_f (by unfold lTS; grind)] | rw [b2_t (by unfold lTS; grind)])
  · refine zw_aload_n z59_12 rfl ?_
    refine zw_iload_n z59_13 rfl ?_
    refine zw_vv (n := 2) z59_14 rfl rfl (by assumption) (Nat.le_of_ble_eq_true rfl) (by omega) (sp_mayGoHome hg hG hy hV (by omega) (by omega) (by omega)) ?_
    refine zj_b_eq z59_17 (fun h17 => ?_) (fun h17 => ?_)
    · refine zw_iconst z59_32 (v := iI 0) rfl ?_
      refine zj_bret z59_33 rfl (by first | exact b2_r | omega) ?_
      exact zv_end (by subst e5; first | rw [b2_f (by unfold lTS; grind)] | rw [b2_t (by unfold lTS; grind)])
    · refine zw_aload_n z59_20 rfl ?_
      refine zw_iload_n z59_21 rfl ?_
      refine zw_vv (n := 6) z59_22 rfl rfl (by assumption) (Nat.le_of_ble_eq_true rfl) (by omega) (sp_isSafe hg hG hy hV (by omega) (by omega) (by omega)) ?_
      refine zj_b_eq z59_25 (fun h25 => ?_) (fun h25 => ?_)
      · refine zw_iconst z59_32 (v := iI 0) rfl ?_
        refine zj_bret z59_33 rfl (by first | exact b2_r | omega) ?_
        exact zv_end (by subst e5; first | rw [b2_f (by unfold lTS; grind)] | rw [b2_t (by unfold lTS; grind)])
      · refine zw_iconst z59_28 (v := iI 1) rfl ?_
        refine zw_goto z59_29 ?_
        refine zj_bret z59_33 rfl (by first | exact b2_r | omega) ?_
        exact zv_end (by subst e5; first | rw [b2_f (by unfold lTS; grind)] | rw [b2_t (by unfold lTS; grind)])
/-- the first of the n places from p on whose top card may go home -/
def lFp (G t h : Nat → Int) : Nat → Int → Int
  | 0, _ => -1
  | n + 1, p => if lTS G t h p then p else lFp G t h n (p + 1)
theorem lFp_t {n : Nat} {p : Int} (q : lTS G t h p) : lFp G t h (n + 1) p = p := if_pos q
theorem lFp_f {n : Nat} {p : Int} (q : ¬ lTS G t h p) : lFp G t h (n + 1) p = lFp G t h n (p + 1) := if_neg q
abbrev lPos (G t h : Nat → Int) : Int := if lFp G t h 4 8 = -1 then lFp G t h 8 0 else lFp G t h 4 8
theorem lp_placeOfSafe1 {L : Nat} {xs : Nat → Int32} {cn sn : Nat} {Q : zi_O → zi_W → Nat → Nat → Prop} (hg : gmA w 1 G) (hG : gmV G) (hy : lyA w a b t h la ah) (hV : lyV b t h la ah) (hd : 3 ≤ d) (hq : 68 ≤ q) (hE : lFp G t h 4 8 = -1 → ∀ x, zw L xs d q 58 25 [some (.ref a), x] [] w cn sn Q) : ∀ (n : Nat) (p : Int), p + n = 12 → 8 ≤ p → (∀ r, r = lFp G t h n p → r ≠ -1 → Q (.inl (some (iV r))) w cn sn) → (lFp G t h n p = -1 → zw L xs d q 58 25 [some (.ref a), some (iV 12)] [] w cn sn Q) → zw L xs d q 58 3 [some (.ref a), some (iV p)] [] w cn sn Q := by
  obtain ⟨d, rfl⟩ : ∃ e, d = e + 1 := ⟨d - 1, by omega⟩
  obtain ⟨y0, y1, y2, y3⟩ := hy
  have hy : lyA w a b t h la ah := ⟨y0, y1, y2, y3⟩
  intro n
  induction n with
  | zero =>
    intro p h1 h2 hQ hE
    have : p = 12 := by omega
    subst this
    refine zw_iload_n z58_3 rfl ?_
    refine zw_bipush z58_4 (v := iI (12)) (by decide +kernel) ?_
    refine zj_icmp_ge z58_6 (by omega) (by omega) (fun h6 => ?_) (fun h6 => ?_)
    · first | (exfalso; omega) | exact hE rfl
    · refine zw_aload_n z58_9 rfl ?_
      refine zw_iload_n z58_10 rfl ?_
      refine zw_vv (n := 3) z58_11 rfl rfl (by assumption) (Nat.le_of_ble_eq_true rfl) (by omega) (sp_isTopSafe hg hG hy hV (by omega) (by omega) (by omega)) ?_
      refine zj_b_eq z58_14 (fun h14 => ?_) (fun h14 => ?_)
      · refine zj_iinc z58_19 rfl rfl ?_
        refine zw_goto z58_22 ?_
        first | (exfalso; omega) | exact ih (p + 1) (by omega) (by omega) (fun r hr h9 => hQ r (by rw [hr, lFp_f h14]) h9) (fun h9 => hE (by rw [lFp_f h14]; exact h9))
      · refine zw_iload_n z58_17 rfl ?_
        refine zw_iret z58_18 rfl ?_
        (exfalso; omega)
  | succ n ih =>
    intro p h1 h2 hQ hE
    refine zw_iload_n z58_3 rfl ?_
    refine zw_bipush z58_4 (v := iI (12)) (by decide +kernel) ?_
    refine zj_icmp_ge z58_6 (by omega) (by omega) (fun h6 => ?_) (fun h6 => ?_)
    · first | (exfalso; omega) | exact hE rfl
    · refine zw_aload_n z58_9 rfl ?_
      refine zw_iload_n z58_10 rfl ?_
      refine zw_vv (n := 3) z58_11 rfl rfl (by assumption) (Nat.le_of_ble_eq_true rfl) (by omega) (sp_isTopSafe hg hG hy hV (by omega) (by omega) (by omega)) ?_
      refine zj_b_eq z58_14 (fun h14 => ?_) (fun h14 => ?_)
      · refine zj_iinc z58_19 rfl rfl ?_
        refine zw_goto z58_22 ?_
        first | (exfalso; omega) | exact ih (p + 1) (by omega) (by omega) (fun r hr h9 => hQ r (by rw [hr, lFp_f h14]) h9) (fun h9 => hE (by rw [lFp_f h14]; exact h9))
      · refine zw_iload_n z58_17 rfl ?_
        refine zw_iret z58_18 rfl ?_
        first | (exfalso; omega) | exact hQ _ (by rw [lFp_t h14]) (by omega)
theorem lp_placeOfSafe2 {L : Nat} {xs : Nat → Int32} {cn sn : Nat} {Q : zi_O → zi_W → Nat → Nat → Prop} (hg : gmA w 1 G) (hG : gmV G) (hy : lyA w a b t h la ah) (hV : lyV b t h la ah) (hd : 3 ≤ d) (hq : 68 ≤ q) : ∀ (n : Nat) (p : Int), p + n = 8 → 0 ≤ p → (∀ r, r = lFp G t h n p → Q (.inl (some (iV r))) w cn sn) → zw L xs d q 58 27 [some (.ref a), some (iV p)] [] w cn sn Q := by
  obtain ⟨d, rfl⟩ : ∃ e, d = e + 1 := ⟨d - 1, by omega⟩
  obtain ⟨y0, y1, y2, y3⟩ := hy
  have hy : lyA w a b t h la ah := ⟨y0, y1, y2, y3⟩
  intro n
  induction n with
  | zero =>
    intro p h1 h2 hQ
    refine zw_iload_n z58_27 rfl ?_
    refine zw_bipush z58_28 (v := iI (8)) (by decide +kernel) ?_
    refine zj_icmp_ge z58_30 (by omega) (by omega) (fun h30 => ?_) (fun h30 => ?_)
    · refine zw_iconst z58_49 (v := iI (-1)) rfl ?_
      refine zw_iret z58_50 rfl ?_
      first | (exfalso; omega) | exact hQ _ rfl
    · refine zw_aload_n z58_33 rfl ?_
      refine zw_iload_n z58_34 rfl ?_
      refine zw_vv (n := 3) z58_35 rfl rfl (by assumption) (Nat.le_of_ble_eq_true rfl) (by omega) (sp_isTopSafe hg hG hy hV (by omega) (by omega) (by omega)) ?_
      refine zj_b_eq z58_38 (fun h38 => ?_) (fun h38 => ?_)
      · refine zj_iinc z58_43 rfl rfl ?_
        refine zw_goto z58_46 ?_
        first | (exfalso; omega) | exact ih (p + 1) (by omega) (by omega) (fun r hr => hQ r (by rw [hr, lFp_f h38]))
      · refine zw_iload_n z58_41 rfl ?_
        refine zw_iret z58_42 rfl ?_
        first | (exfalso; omega) | exact hQ _ rfl
  | succ n ih =>
    intro p h1 h2 hQ
    refine zw_iload_n z58_27 rfl ?_
    refine zw_bipush z58_28 (v := iI (8)) (by decide +kernel) ?_
    refine zj_icmp_ge z58_30 (by omega) (by omega) (fun h30 => ?_) (fun h30 => ?_)
    · refine zw_iconst z58_49 (v := iI (-1)) rfl ?_
      refine zw_iret z58_50 rfl ?_
      first | (exfalso; omega) | exact hQ _ (by rw [lFp_t h38])
    · refine zw_aload_n z58_33 rfl ?_
      refine zw_iload_n z58_34 rfl ?_
      refine zw_vv (n := 3) z58_35 rfl rfl (by assumption) (Nat.le_of_ble_eq_true rfl) (by omega) (sp_isTopSafe hg hG hy hV (by omega) (by omega) (by omega)) ?_
      refine zj_b_eq z58_38 (fun h38 => ?_) (fun h38 => ?_)
      · refine zj_iinc z58_43 rfl rfl ?_
        refine zw_goto z58_46 ?_
        first | (exfalso; omega) | exact ih (p + 1) (by omega) (by omega) (fun r hr => hQ r (by rw [hr, lFp_f h38]))
      · refine zw_iload_n z58_41 rfl ?_
        refine zw_iret z58_42 rfl ?_
        first | (exfalso; omega) | exact hQ _ (by rw [lFp_t h38])
theorem sp_placeOfSafe (hg : gmA w 1 G) (hG : gmV G) (hy : lyA w a b t h la ah) (hV : lyV b t h la ah) (hd : 3 ≤ d) (hq : 68 ≤ q) : zv d q 58 [.ref a] w (iI (lPos G t h)) := by
  intro L xs cn sn
  refine ⟨_, rfl, ?_⟩
  show zw _ _ _ _ 58 0 [some (.ref a), none] [] _ _ _ _
  refine zw_bipush z58_0 (v := iI (8)) (by decide +kernel) ?_
  refine zw_istore_n z58_2 rfl ?_
  refine lp_placeOfSafe1 hg hG hy hV hd hq (fun h9 x => ?_) 4 8 (by omega) (by omega) (fun r hr h9 => zv_end (by rw [hr, show lPos G t h = _ from if_neg (by rw [← hr]; exact h9)])) (fun h9 => ?_)
  · refine zw_iconst z58_25 (v := iI 0) rfl ?_
    refine zw_istore_n z58_26 rfl ?_
    exact lp_placeOfSafe2 hg hG hy hV hd hq 8 0 (by omega) (by omega) (fun r hr => zv_end (by rw [hr, show lPos G t h = _ from if_pos h9]))
  · refine zw_iconst z58_25 (v := iI 0) rfl ?_
    refine zw_istore_n z58_26 rfl ?_
    exact lp_placeOfSafe2 hg hG hy hV hd hq 8 0 (by omega) (by omega) (fun r hr => zv_end (by rw [hr, show lPos G t h = _ from if_pos h9]))
end ZSF
