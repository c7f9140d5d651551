/-! Writes: how a world changes; the class Layout's methods that write. (Laid out by gen/tpl.py from tpl/45.write.tpl.) -/
/-- one cell has changed -/
def zG (r : Nat) (w w' : zi_W) : Prop := w'.length = w.length ∧ ∀ j, j ≠ r → zi_get w' j = zi_get w j
/-- the cells of S may have changed, no others -/
def zF (S : Nat → Prop) (w w' : zi_W) : Prop := w'.length = w.length ∧ ∀ j, ¬ S j → zi_get w' j = zi_get w j
theorem zF.rf {S : Nat → Prop} {w : zi_W} : zF S w w := ⟨rfl, fun _ _ => rfl⟩
theorem zF.step {S : Nat → Prop} {w w1 w2 : zi_W} {r : Nat} (h : zF S w w1) (g : zG r w1 w2) (hr : S r) : zF S w w2 := ⟨g.1.trans h.1, fun j hj => (g.2 j (fun e => hj (e ▸ hr))).trans (h.2 j hj)⟩
theorem zF.trans {S : Nat → Prop} {w w1 w2 : zi_W} (h : zF S w w1) (g : zF S w1 w2) : zF S w w2 := ⟨g.1.trans h.1, fun j hj => (g.2 j hj).trans (h.2 j hj)⟩
theorem zF.sub {S S' : Nat → Prop} {w w' : zi_W} (h : zF S w w') (hs : ∀ j, S j → S' j) : zF S' w w' := ⟨h.1, fun j hj => h.2 j (fun q => hj (hs j q))⟩
theorem zG.of {w : zi_W} {r : Nat} {c : va_E} : zG r w (w.set r c) := ⟨List.length_set, fun _ hj => zi_get_set hj⟩
theorem iU_rng {f : Nat → Int} {n : Nat} {x lo hi : Int} (hf : ∀ j, lo ≤ f j ∧ f j ≤ hi) (hx : lo ≤ x ∧ x ≤ hi) : ∀ j, lo ≤ iU f n x j ∧ iU f n x j ≤ hi := by
  intro j
  unfold iU
  split
  · exact hx
  · exact hf j
section ZWR
variable {L : Nat} {xs : Nat → Int32} {d q k pc p t : Nat} {ls : zi_L} {st : List Value} {w : zi_W} {cn sn : Nat} {Q : zi_O → zi_W → Nat → Nat → Prop}
theorem zj_astB {r n : Nat} {z x lo hi : Int} {f : Nat → Int} (hc : za k pc .iastore p) (hg : zi_get w r = some (.inl (0, n, .inl (iA f)))) (hj : 0 ≤ z ∧ z < n) (hn : n ≤ 2147483647) (hB : ∀ j, lo ≤ f j ∧ f j ≤ hi) (hx : lo ≤ x ∧ x ≤ hi) (kk : ∀ w', zi_get w' r = some (.inl (0, n, .inl (iA (iU f z.toNat x)))) → zG r w w' → (∀ j, lo ≤ iU f z.toNat x j ∧ iU f z.toNat x j ≤ hi) → zw L xs d q k p ls st w' cn sn Q) : zw L xs d q k pc ls (iV x :: iV z :: .ref r :: st) w cn sn Q :=
  zj_ast hc hg hj hn (kk _ (zi_get_self hg) zG.of (iU_rng hB hx))
theorem zj_putf {c f r : Nat} {fs : List Value} {v : Value} (hc : za_p k pc c f p) (hg : zi_get w r = some (.inr (c, fs))) (hl : f < fs.length) (hf : zi_fit (zi_fty zp c f) v = true) (kk : ∀ w', zi_get w' r = some (.inr (c, fs.set f v)) → zG r w w' → zw L xs d q k p ls st w' cn sn Q) : zw L xs d q k pc ls (v :: .ref r :: st) w cn sn Q :=
  zw_putf hc hg hl hf (kk _ (zi_get_self hg) zG.of)
end ZWR
section ZLW
variable {L : Nat} {xs : Nat → Int32} {d q a : Nat} {w : zi_W} {cn sn : Nat} {G b t h : Nat → Int} {la ah z y c : Int}
abbrev lyS (a : Nat) : Nat → Prop := fun j => a ≤ j ∧ j ≤ a + 3
theorem sp_layOn (hy : lyA w a b t h la ah) (hV : lyV b t h la ah) (hz : 0 ≤ z ∧ z < 12) (hc : 0 ≤ c ∧ c < 52) : zr L xs d q 45 [.ref a, iV z, iV c] w cn sn (fun r w' cn' sn' => r = none ∧ cn' = cn ∧ sn' = sn ∧ lyA w' a (iU b c.toNat (t z.toNat)) (iU t z.toNat c) h (la + 1) ah ∧ zF (lyS a) w w') := by
  obtain ⟨y0, y1, y2, y3⟩ := hy
  obtain ⟨hV1, hV2, hV3, hV4, hV5⟩ := hV
  have F : zF (lyS a) w w := zF.rf
  refine ⟨_, rfl, ?_⟩
  show zw _ _ _ _ 45 0 [some (.ref a), some (iV z), some (iV c)] [] _ _ _ _
  refine zw_aload_n z45_0 rfl ?_
  refine zw_getf z45_1 (by assumption) (by rfl) ?_
  refine zw_iload_n z45_4 rfl ?_
  refine zw_aload_n z45_5 rfl ?_
  refine zw_getf z45_6 (by assumption) (by rfl) ?_
  refine zw_iload_n z45_9 rfl ?_
  refine zj_aldB z45_10 (by assumption) (by omega) (by decide) hV2 (fun v10 e10 r10 => ?_)
  refine zj_astB z45_11 (by assumption) (by omega) (by decide) hV1 (by omega) (fun w11 n11 f11 b11 => ?_)
  have y0_11 := (f11.2 a (by omega)).trans y0
  have y2_11 := (f11.2 (a+2) (by omega)).trans y2
  have y3_11 := (f11.2 (a+3) (by omega)).trans y3
  have F_11 := F.step f11 (by omega)
  refine zw_aload_n z45_12 rfl ?_
  refine zw_getf z45_13 (by assumption) (by rfl) ?_
  refine zw_iload_n z45_16 rfl ?_
  refine zw_iload_n z45_17 rfl ?_
  refine zj_astB z45_18 (by assumption) (by omega) (by decide) hV2 (by omega) (fun w18 n18 f18 b18 => ?_)
  have y0_18 := (f18.2 a (by omega)).trans y0_11
  have y1_18 := (f18.2 (a+1) (by omega)).trans n11
  have y3_18 := (f18.2 (a+3) (by omega)).trans y3_11
  have F_18 := F_11.step f18 (by omega)
  refine zw_aload_n z45_19 rfl ?_
  refine zw_dup z45_20 rfl ?_
  refine zw_getf z45_21 (by assumption) (by rfl) ?_
  refine zw_iconst z45_24 (v := iI 1) rfl ?_
  refine zj_add z45_25 ?_
  refine zj_putf z45_26 (by assumption) (Nat.le_of_ble_eq_true rfl) (by rfl) (fun w26 n26 f26 => ?_)
  have y1_26 := (f26.2 (a+1) (by omega)).trans y1_18
  have y2_26 := (f26.2 (a+2) (by omega)).trans n18
  have y3_26 := (f26.2 (a+3) (by omega)).trans y3_18
  have F_26 := F_18.step f26 (by omega)
  refine zw_vret z45_29 rfl ?_
  subst e10
  exact ⟨_, rfl, rfl, rfl, rfl, ⟨n26, y1_26, y2_26, y3_26⟩, F_26⟩
/-- what carry does: card c, the lowest of what goes, from place z to place y -/
abbrev cB (b t : Nat → Int) (c y : Int) : Nat → Int := iU b c.toNat (lGrd t y)
abbrev cT (b t : Nat → Int) (c z y : Int) : Nat → Int := if y = 12 then (if z = 12 then t else iU t z.toNat (if 8 ≤ z then -1 else b c.toNat)) else (if z = 12 then iU t y.toNat c else iU (iU t z.toNat (if 8 ≤ z then -1 else b c.toNat)) y.toNat (t z.toNat))
abbrev cH (G h : Nat → Int) (c z y : Int) : Nat → Int := if z = 12 then iU h (gSuit G c).toNat (h (gSuit G c).toNat - 1) else if y = 12 then iU h (gSuit G c).toNat (h (gSuit G c).toNat + 1) else h
abbrev cA (ah z y : Int) : Int := if z = 12 then ah - 1 else if y = 12 then ah + 1 else ah
theorem cr_fin {w' : zi_W} {b' t' t'' h' h'' : Nat → Int} {ah' ah'' : Int} (y0 : zi_get w' a = some (.inr (2, [.ref 1, .ref (a + 1), .ref (a + 2), .ref (a + 3), iV la, iV ah']))) (y1 : zi_get w' (a + 1) = some (.inl (0, 52, .inl (iA b')))) (y2 : zi_get w' (a + 2) = some (.inl (0, 12, .inl (iA t')))) (y3 : zi_get w' (a + 3) = some (.inl (0, 4, .inl (iA h')))) (e1 : t' = t'') (e2 : h' = h'') (e3 : ah' = ah'') : lyA w' a b' t'' h'' la ah'' := by
  subst e1 e2 e3
  exact ⟨y0, y1, y2, y3⟩
theorem sp_carry (hg : gmA w 1 G) (hG : gmV G) (hy : lyA w a b t h la ah) (hV : lyV b t h la ah) (ha : 1 < a) (hc : 0 ≤ c ∧ c < 52) (hz : 0 ≤ z ∧ z ≤ 12) (hz2 : 0 ≤ y ∧ y ≤ 12) (hn : ¬ (z = 12 ∧ y = 12)) (hb : z < 8 → -1 ≤ b c.toNat) (hh1 : z = 12 → 1 ≤ h (gSuit G c).toNat) (hh2 : y = 12 → h (gSuit G c).toNat ≤ 12) (hd : 1 ≤ d) (hq : 21 ≤ q) :
    zr L xs d q 62 [.ref a, iV c, iV z, iV y] w cn sn (fun r w' cn' sn' => r = none ∧ cn' = cn ∧ sn' = sn ∧ lyA w' a (cB b t c y) (cT b t c z y) (cH G h c z y) la (cA ah z y) ∧ zF (lyS a) w w') := by
  obtain ⟨d, rfl⟩ : ∃ e, d = e + 1 := ⟨d - 1, by omega⟩
  have hg' := hg
  unfold gmA at hg'
  obtain ⟨y0, y1, y2, y3⟩ := hy
  have hV' := hV
  obtain ⟨hV1, hV2, hV3, hV4, hV5⟩ := hV'
  have s1 := gSuit_rng (c := c) hG
  have g9 : -3 ≤ lGrd t y ∧ lGrd t y ≤ 51 := by
    have := hV2 y.toNat
    unfold lGrd
    split
    · omega
    · split <;> omega
  have F : zF (lyS a) w w := zF.rf
  refine ⟨_, rfl, ?_⟩
  show zw _ _ _ _ 62 0 [some (.ref a), some (iV c), some (iV z), some (iV y), none, none] [] _ _ _ _
  refine zw_iload_n z62_0 rfl ?_
  refine zw_bipush z62_1 (v := iI (12)) (by decide +kernel) ?_
  refine zj_icmp_ne z62_3 (by omega) (by omega) (fun h3 => ?_) (fun h3 => ?_)
  · refine zw_aload_n z62_10 rfl ?_
    refine zw_getf z62_11 (by assumption) (by rfl) ?_
    refine zw_iload_n z62_14 rfl ?_
    refine zj_aldB z62_15 (by assumption) (by omega) (by decide) hV2 (fun v15 e15 r15 => ?_)
    refine zw_istore z62_16 rfl ?_
    refine zw_aload_n z62_18 rfl ?_
    refine zw_getf z62_19 (by assumption) (by rfl) ?_
    refine zw_iload_n z62_22 rfl ?_
    refine zj_aldB z62_23 (by assumption) (by omega) (by decide) hV1 (fun v23 e23 r23 => ?_)
    refine zw_istore z62_24 rfl ?_
    refine zw_aload_n z62_26 rfl ?_
    refine zw_getf z62_27 (by assumption) (by rfl) ?_
    refine zw_iload_n z62_30 rfl ?_
    refine zw_aload_n z62_31 rfl ?_
    refine zw_iload_n z62_32 rfl ?_
    refine zw_vv (n := 2) z62_33 rfl rfl (by assumption) (Nat.le_of_ble_eq_true rfl) (by omega) (sp_groundAt ⟨y0, y1, y2, y3⟩ hV (by omega)) ?_
    refine zj_astB z62_36 (by assumption) (by omega) (by decide) hV1 (by omega) (fun w36 n36 f36 b36 => ?_)
    have y0_36 := (f36.2 a (by omega)).trans y0
    have y2_36 := (f36.2 (a+2) (by omega)).trans y2
    have y3_36 := (f36.2 (a+3) (by omega)).trans y3
    have hg'_36 := (f36.2 1 (by omega)).trans hg'
    have F_36 := F.step f36 (by omega)
    refine zw_iload_n z62_37 rfl ?_
    refine zw_bipush z62_38 (v := iI (12)) (by decide +kernel) ?_
    refine zj_icmp_ne z62_40 (by omega) (by omega) (fun h40 => ?_) (fun h40 => ?_)
    · refine zw_aload_n z62_73 rfl ?_
      refine zw_getf z62_74 (by assumption) (by rfl) ?_
      refine zw_iload_n z62_77 rfl ?_
      refine zw_iload_n z62_78 rfl ?_
      refine zw_bipush z62_79 (v := iI (8)) (by decide +kernel) ?_
      refine zj_icmp_lt z62_81 (by omega) (by omega) (fun h81 => ?_) (fun h81 => ?_)
      · refine zw_iload z62_88 rfl ?_
        refine zj_astB z62_90 (by assumption) (by omega) (by decide) hV2 (by omega) (fun w90 n90 f90 b90 => ?_)
        have y0_90 := (f90.2 a (by omega)).trans y0_36
        have y1_90 := (f90.2 (a+1) (by omega)).trans n36
        have y3_90 := (f90.2 (a+3) (by omega)).trans y3_36
        have hg'_90 := (f90.2 1 (by omega)).trans hg'_36
        have F_90 := F_36.step f90 (by omega)
        refine zw_iload_n z62_91 rfl ?_
        refine zw_bipush z62_92 (v := iI (12)) (by decide +kernel) ?_
        refine zj_icmp_ne z62_94 (by omega) (by omega) (fun h94 => ?_) (fun h94 => ?_)
        · refine zw_aload_n z62_127 rfl ?_
          refine zw_getf z62_128 (by assumption) (by rfl) ?_
          refine zw_iload_n z62_131 rfl ?_
          refine zw_iload z62_132 rfl ?_
          refine zj_astB z62_134 (by assumption) (by omega) (by decide) b90 (by omega) (fun w134 n134 f134 b134 => ?_)
          have y0_134 := (f134.2 a (by omega)).trans y0_90
          have y1_134 := (f134.2 (a+1) (by omega)).trans y1_90
          have y3_134 := (f134.2 (a+3) (by omega)).trans y3_90
          have hg'_134 := (f134.2 1 (by omega)).trans hg'_90
          have F_134 := F_90.step f134 (by omega)
          refine zw_vret z62_135 rfl ?_
          first | (exfalso; omega) | exact ⟨_, rfl, rfl, rfl, rfl, cr_fin y0_134 y1_134 n134 y3_134 (by subst_vars; unfold cT; (repeat' split) <;> first | rfl | (exfalso; omega)) (by subst_vars; unfold cH; (repeat' split) <;> first | rfl | (exfalso; omega)) (by subst_vars; unfold cA; (repeat' split) <;> first | rfl | (exfalso; omega)), F_134⟩
        · refine zw_aload_n z62_97 rfl ?_
          refine zw_getf z62_98 (by assumption) (by rfl) ?_
          refine zw_aload_n z62_101 rfl ?_
          refine zw_getf z62_102 (by assumption) (by rfl) ?_
          refine zw_iload_n z62_105 rfl ?_
          refine zw_vv (n := 2) z62_106 rfl rfl (by assumption) (Nat.le_of_ble_eq_true rfl) (by omega) (sp_suitOf (by unfold gmA; assumption) hG (by omega)) ?_
          refine zw_dup2 z62_109 ⟨rfl, rfl⟩ ?_
          refine zj_aldB z62_110 (by assumption) (by omega) (by decide) hV3 (fun v110 e110 r110 => ?_)
          refine zw_iconst z62_111 (v := iI 1) rfl ?_
          refine zj_add z62_112 ?_
          refine zj_astB z62_113 (by assumption) (by omega) (by decide) hV3 (by omega) (fun w113 n113 f113 b113 => ?_)
          have y0_113 := (f113.2 a (by omega)).trans y0_90
          have y1_113 := (f113.2 (a+1) (by omega)).trans y1_90
          have y2_113 := (f113.2 (a+2) (by omega)).trans n90
          have hg'_113 := (f113.2 1 (by omega)).trans hg'_90
          have F_113 := F_90.step f113 (by omega)
          refine zw_aload_n z62_114 rfl ?_
          refine zw_dup z62_115 rfl ?_
          refine zw_getf z62_116 (by assumption) (by rfl) ?_
          refine zw_iconst z62_119 (v := iI 1) rfl ?_
          refine zj_add z62_120 ?_
          refine zj_putf z62_121 (by assumption) (Nat.le_of_ble_eq_true rfl) (by rfl) (fun w121 n121 f121 => ?_)
          have y1_121 := (f121.2 (a+1) (by omega)).trans y1_113
          have y2_121 := (f121.2 (a+2) (by omega)).trans y2_113
          have y3_121 := (f121.2 (a+3) (by omega)).trans n113
          have hg'_121 := (f121.2 1 (by omega)).trans hg'_113
          have F_121 := F_113.step f121 (by omega)
          refine zw_goto z62_124 ?_
          refine zw_vret z62_135 rfl ?_
          first | (exfalso; omega) | exact ⟨_, rfl, rfl, rfl, rfl, cr_fin n121 y1_121 y2_121 y3_121 (by subst_vars; unfold cT; (repeat' split) <;> first | rfl | (exfalso; omega)) (by subst_vars; unfold cH; (repeat' split) <;> first | rfl | (exfalso; omega)) (by subst_vars; unfold cA; (repeat' split) <;> first | rfl | (exfalso; omega)), F_121⟩
      · refine zw_iconst z62_84 (v := iI (-1)) rfl ?_
        refine zw_goto z62_85 ?_
        refine zj_astB z62_90 (by assumption) (by omega) (by decide) hV2 (by omega) (fun w90 n90 f90 b90 => ?_)
        have y0_90 := (f90.2 a (by omega)).trans y0_36
        have y1_90 := (f90.2 (a+1) (by omega)).trans n36
        have y3_90 := (f90.2 (a+3) (by omega)).trans y3_36
        have hg'_90 := (f90.2 1 (by omega)).trans hg'_36
        have F_90 := F_36.step f90 (by omega)
        refine zw_iload_n z62_91 rfl ?_
        refine zw_bipush z62_92 (v := iI (12)) (by decide +kernel) ?_
        refine zj_icmp_ne z62_94 (by omega) (by omega) (fun h94 => ?_) (fun h94 => ?_)
        · refine zw_aload_n z62_127 rfl ?_
          refine zw_getf z62_128 (by assumption) (by rfl) ?_
          refine zw_iload_n z62_131 rfl ?_
          refine zw_iload z62_132 rfl ?_
          refine zj_astB z62_134 (by assumption) (by omega) (by decide) b90 (by omega) (fun w134 n134 f134 b134 => ?_)
          have y0_134 := (f134.2 a (by omega)).trans y0_90
          have y1_134 := (f134.2 (a+1) (by omega)).trans y1_90
          have y3_134 := (f134.2 (a+3) (by omega)).trans y3_90
          have hg'_134 := (f134.2 1 (by omega)).trans hg'_90
          have F_134 := F_90.step f134 (by omega)
          refine zw_vret z62_135 rfl ?_
          first | (exfalso; omega) | exact ⟨_, rfl, rfl, rfl, rfl, cr_fin y0_134 y1_134 n134 y3_134 (by subst_vars; unfold cT; (repeat' split) <;> first | rfl | (exfalso; omega)) (by subst_vars; unfold cH; (repeat' split) <;> first | rfl | (exfalso; omega)) (by subst_vars; unfold cA; (repeat' split) <;> first | rfl | (exfalso; omega)), F_134⟩
        · refine zw_aload_n z62_97 rfl ?_
          refine zw_getf z62_98 (by assumption) (by rfl) ?_
          refine zw_aload_n z62_101 rfl ?_
          refine zw_getf z62_102 (by assumption) (by rfl) ?_
          refine zw_iload_n z62_105 rfl ?_
          refine zw_vv (n := 2) z62_106 rfl rfl (by assumption) (Nat.le_of_ble_eq_true rfl) (by omega) (sp_suitOf (by unfold gmA; assumption) hG (by omega)) ?_
          refine zw_dup2 z62_109 ⟨rfl, rfl⟩ ?_
          refine zj_aldB z62_110 (by assumption) (by omega) (by decide) hV3 (fun v110 e110 r110 => ?_)
          refine zw_iconst z62_111 (v := iI 1) rfl ?_
          refine zj_add z62_112 ?_
          refine zj_astB z62_113 (by assumption) (by omega) (by decide) hV3 (by omega) (fun w113 n113 f113 b113 => ?_)
          have y0_113 := (f113.2 a (by omega)).trans y0_90
          have y1_113 := (f113.2 (a+1) (by omega)).trans y1_90
          have y2_113 := (f113.2 (a+2) (by omega)).trans n90
          have hg'_113 := (f113.2 1 (by omega)).trans hg'_90
          have F_113 := F_90.step f113 (by omega)
          refine zw_aload_n z62_114 rfl ?_
          refine zw_dup z62_115 rfl ?_
          refine zw_getf z62_116 (by assumption) (by rfl) ?_
          refine zw_iconst z62_119 (v := iI 1) rfl ?_
          refine zj_add z62_120 ?_
          refine zj_putf z62_121 (by assumption) (Nat.le_of_ble_eq_true rfl) (by rfl) (fun w121 n121 f121 => ?_)
          have y1_121 := (f121.2 (a+1) (by omega)).trans y1_113
          have y2_121 := (f121.2 (a+2) (by omega)).trans y2_113
          have y3_121 := (f121.2 (a+3) (by omega)).trans n113
          have hg'_121 := (f121.2 1 (by omega)).trans hg'_113
          have F_121 := F_113.step f121 (by omega)
          refine zw_goto z62_124 ?_
          refine zw_vret z62_135 rfl ?_
          first | (exfalso; omega) | exact ⟨_, rfl, rfl, rfl, rfl, cr_fin n121 y1_121 y2_121 y3_121 (by subst_vars; unfold cT; (repeat' split) <;> first | rfl | (exfalso; omega)) (by subst_vars; unfold cH; (repeat' split) <;> first | rfl | (exfalso; omega)) (by subst_vars; unfold cA; (repeat' split) <;> first | rfl | (exfalso; omega)), F_121⟩
    · refine zw_aload_n z62_43 rfl ?_
      refine zw_getf z62_44 (by assumption) (by rfl) ?_
      refine zw_aload_n z62_47 rfl ?_
      refine zw_getf z62_48 (by assumption) (by rfl) ?_
      refine zw_iload_n z62_51 rfl ?_
      refine zw_vv (n := 2) z62_52 rfl rfl (by assumption) (Nat.le_of_ble_eq_true rfl) (by omega) (sp_suitOf (by unfold gmA; assumption) hG (by omega)) ?_
      refine zw_dup2 z62_55 ⟨rfl, rfl⟩ ?_
      refine zj_aldB z62_56 (by assumption) (by omega) (by decide) hV3 (fun v56 e56 r56 => ?_)
      refine zw_iconst z62_57 (v := iI 1) rfl ?_
      refine zj_sub z62_58 ?_
      refine zj_astB z62_59 (by assumption) (by omega) (by decide) hV3 (by omega) (fun w59 n59 f59 b59 => ?_)
      have y0_59 := (f59.2 a (by omega)).trans y0_36
      have y1_59 := (f59.2 (a+1) (by omega)).trans n36
      have y2_59 := (f59.2 (a+2) (by omega)).trans y2_36
      have hg'_59 := (f59.2 1 (by omega)).trans hg'_36
      have F_59 := F_36.step f59 (by omega)
      refine zw_aload_n z62_60 rfl ?_
      refine zw_dup z62_61 rfl ?_
      refine zw_getf z62_62 (by assumption) (by rfl) ?_
      refine zw_iconst z62_65 (v := iI 1) rfl ?_
      refine zj_sub z62_66 ?_
      refine zj_putf z62_67 (by assumption) (Nat.le_of_ble_eq_true rfl) (by rfl) (fun w67 n67 f67 => ?_)
      have y1_67 := (f67.2 (a+1) (by omega)).trans y1_59
      have y2_67 := (f67.2 (a+2) (by omega)).trans y2_59
      have y3_67 := (f67.2 (a+3) (by omega)).trans n59
      have hg'_67 := (f67.2 1 (by omega)).trans hg'_59
      have F_67 := F_59.step f67 (by omega)
      refine zw_goto z62_70 ?_
      refine zw_iload_n z62_91 rfl ?_
      refine zw_bipush z62_92 (v := iI (12)) (by decide +kernel) ?_
      refine zj_icmp_ne z62_94 (by omega) (by omega) (fun h94 => ?_) (fun h94 => ?_)
      · refine zw_aload_n z62_127 rfl ?_
        refine zw_getf z62_128 (by assumption) (by rfl) ?_
        refine zw_iload_n z62_131 rfl ?_
        refine zw_iload z62_132 rfl ?_
        refine zj_astB z62_134 (by assumption) (by omega) (by decide) hV2 (by omega) (fun w134 n134 f134 b134 => ?_)
        have y0_134 := (f134.2 a (by omega)).trans n67
        have y1_134 := (f134.2 (a+1) (by omega)).trans y1_67
        have y3_134 := (f134.2 (a+3) (by omega)).trans y3_67
        have hg'_134 := (f134.2 1 (by omega)).trans hg'_67
        have F_134 := F_67.step f134 (by omega)
        refine zw_vret z62_135 rfl ?_
        first | (exfalso; omega) | exact ⟨_, rfl, rfl, rfl, rfl, cr_fin y0_134 y1_134 n134 y3_134 (by subst_vars; unfold cT; (repeat' split) <;> first | rfl | (exfalso; omega)) (by subst_vars; unfold cH; (repeat' split) <;> first | rfl | (exfalso; omega)) (by subst_vars; unfold cA; (repeat' split) <;> first | rfl | (exfalso; omega)), F_134⟩
      · refine zw_aload_n z62_97 rfl ?_
        refine zw_getf z62_98 (by assumption) (by rfl) ?_
        refine zw_aload_n z62_101 rfl ?_
        refine zw_getf z62_102 (by assumption) (by rfl) ?_
        refine zw_iload_n z62_105 rfl ?_
        refine zw_vv (n := 2) z62_106 rfl rfl (by assumption) (Nat.le_of_ble_eq_true rfl) (by omega) (sp_suitOf (by unfold gmA; assumption) hG (by omega)) ?_
        refine zw_dup2 z62_109 ⟨rfl, rfl⟩ ?_
        refine zj_aldB z62_110 (by assumption) (by omega) (by decide) b59 (fun v110 e110 r110 => ?_)
        refine zw_iconst z62_111 (v := iI 1) rfl ?_
        refine zj_add z62_112 ?_
        refine zj_astB z62_113 (by assumption) (by omega) (by decide) b59 (by omega) (fun w113 n113 f113 b113 => ?_)
        have y0_113 := (f113.2 a (by omega)).trans n67
        have y1_113 := (f113.2 (a+1) (by omega)).trans y1_67
        have y2_113 := (f113.2 (a+2) (by omega)).trans y2_67
        have hg'_113 := (f113.2 1 (by omega)).trans hg'_67
        have F_113 := F_67.step f113 (by omega)
        refine zw_aload_n z62_114 rfl ?_
        refine zw_dup z62_115 rfl ?_
        refine zw_getf z62_116 (by assumption) (by rfl) ?_
        refine zw_iconst z62_119 (v := iI 1) rfl ?_
        refine zj_add z62_120 ?_
        refine zj_putf z62_121 (by assumption) (Nat.le_of_ble_eq_true rfl) (by rfl) (fun w121 n121 f121 => ?_)
        have y1_121 := (f121.2 (a+1) (by omega)).trans y1_113
        have y2_121 := (f121.2 (a+2) (by omega)).trans y2_113
        have y3_121 := (f121.2 (a+3) (by omega)).trans n113
        have hg'_121 := (f121.2 1 (by omega)).trans hg'_113
        have F_121 := F_113.step f121 (by omega)
        refine zw_goto z62_124 ?_
        refine zw_vret z62_135 rfl ?_
        first | (exfalso; omega) | exact ⟨_, rfl, rfl, rfl, rfl, cr_fin n121 y1_121 y2_121 y3_121 (by subst_vars; unfold cT; (repeat' split) <;> first | rfl | (exfalso; omega)) (by subst_vars; unfold cH; (repeat' split) <;> first | rfl | (exfalso; omega)) (by subst_vars; unfold cA; (repeat' split) <;> first | rfl | (exfalso; omega)), F_121⟩
  · refine zw_iload_n z62_6 rfl ?_
    refine zw_goto z62_7 ?_
    refine zw_istore z62_16 rfl ?_
    refine zw_aload_n z62_18 rfl ?_
    refine zw_getf z62_19 (by assumption) (by rfl) ?_
    refine zw_iload_n z62_22 rfl ?_
    refine zj_aldB z62_23 (by assumption) (by omega) (by decide) hV1 (fun v23 e23 r23 => ?_)
    refine zw_istore z62_24 rfl ?_
    refine zw_aload_n z62_26 rfl ?_
    refine zw_getf z62_27 (by assumption) (by rfl) ?_
    refine zw_iload_n z62_30 rfl ?_
    refine zw_aload_n z62_31 rfl ?_
    refine zw_iload_n z62_32 rfl ?_
    refine zw_vv (n := 2) z62_33 rfl rfl (by assumption) (Nat.le_of_ble_eq_true rfl) (by omega) (sp_groundAt ⟨y0, y1, y2, y3⟩ hV (by omega)) ?_
    refine zj_astB z62_36 (by assumption) (by omega) (by decide) hV1 (by omega) (fun w36 n36 f36 b36 => ?_)
    have y0_36 := (f36.2 a (by omega)).trans y0
    have y2_36 := (f36.2 (a+2) (by omega)).trans y2
    have y3_36 := (f36.2 (a+3) (by omega)).trans y3
    have hg'_36 := (f36.2 1 (by omega)).trans hg'
    have F_36 := F.step f36 (by omega)
    refine zw_iload_n z62_37 rfl ?_
    refine zw_bipush z62_38 (v := iI (12)) (by decide +kernel) ?_
    refine zj_icmp_ne z62_40 (by omega) (by omega) (fun h40 => ?_) (fun h40 => ?_)
    · refine zw_aload_n z62_73 rfl ?_
      refine zw_getf z62_74 (by assumption) (by rfl) ?_
      refine zw_iload_n z62_77 rfl ?_
      refine zw_iload_n z62_78 rfl ?_
      refine zw_bipush z62_79 (v := iI (8)) (by decide +kernel) ?_
      refine zj_icmp_lt z62_81 (by omega) (by omega) (fun h81 => ?_) (fun h81 => ?_)
      · refine zw_iload z62_88 rfl ?_
        refine zj_astB z62_90 (by assumption) (by omega) (by decide) hV2 (by omega) (fun w90 n90 f90 b90 => ?_)
        have y0_90 := (f90.2 a (by omega)).trans y0_36
        have y1_90 := (f90.2 (a+1) (by omega)).trans n36
        have y3_90 := (f90.2 (a+3) (by omega)).trans y3_36
        have hg'_90 := (f90.2 1 (by omega)).trans hg'_36
        have F_90 := F_36.step f90 (by omega)
        refine zw_iload_n z62_91 rfl ?_
        refine zw_bipush z62_92 (v := iI (12)) (by decide +kernel) ?_
        refine zj_icmp_ne z62_94 (by omega) (by omega) (fun h94 => ?_) (fun h94 => ?_)
        · refine zw_aload_n z62_127 rfl ?_
          refine zw_getf z62_128 (by assumption) (by rfl) ?_
          refine zw_iload_n z62_131 rfl ?_
          refine zw_iload z62_132 rfl ?_
          refine zj_astB z62_134 (by assumption) (by omega) (by decide) b90 (by omega) (fun w134 n134 f134 b134 => ?_)
          have y0_134 := (f134.2 a (by omega)).trans y0_90
          have y1_134 := (f134.2 (a+1) (by omega)).trans y1_90
          have y3_134 := (f134.2 (a+3) (by omega)).trans y3_90
          have hg'_134 := (f134.2 1 (by omega)).trans hg'_90
          have F_134 := F_90.step f134 (by omega)
          refine zw_vret z62_135 rfl ?_
          first | (exfalso; omega) | exact ⟨_, rfl, rfl, rfl, rfl, cr_fin y0_134 y1_134 n134 y3_134 (by subst_vars; unfold cT; (repeat' split) <;> first | rfl | (exfalso; omega)) (by subst_vars; unfold cH; (repeat' split) <;> first | rfl | (exfalso; omega)) (by subst_vars; unfold cA; (repeat' split) <;> first | rfl | (exfalso; omega)), F_134⟩
        · refine zw_aload_n z62_97 rfl ?_
          refine zw_getf z62_98 (by assumption) (by rfl) ?_
          refine zw_aload_n z62_101 rfl ?_
          refine zw_getf z62_102 (by assumption) (by rfl) ?_
          refine zw_iload_n z62_105 rfl ?_
          refine zw_vv (n := 2) z62_106 rfl rfl (by assumption) (Nat.le_of_ble_eq_true rfl) (by omega) (sp_suitOf (by unfold gmA; assumption) hG (by omega)) ?_
          refine zw_dup2 z62_109 ⟨rfl, rfl⟩ ?_
          refine zj_aldB z62_110 (by assumption) (by omega) (by decide) hV3 (fun v110 e110 r110 => ?_)
          refine zw_iconst z62_111 (v := iI 1) rfl ?_
          refine zj_add z62_112 ?_
          refine zj_astB z62_113 (by assumption) (by omega) (by decide) hV3 (by omega) (fun w113 n113 f113 b113 => ?_)
          have y0_113 := (f113.2 a (by omega)).trans y0_90
          have y1_113 := (f113.2 (a+1) (by omega)).trans y1_90
          have y2_113 := (f113.2 (a+2) (by omega)).trans n90
          have hg'_113 := (f113.2 1 (by omega)).trans hg'_90
          have F_113 := F_90.step f113 (by omega)
          refine zw_aload_n z62_114 rfl ?_
          refine zw_dup z62_115 rfl ?_
          refine zw_getf z62_116 (by assumption) (by rfl) ?_
          refine zw_iconst z62_119 (v := iI 1) rfl ?_
          refine zj_add z62_120 ?_
          refine zj_putf z62_121 (by assumption) (Nat.le_of_ble_eq_true rfl) (by rfl) (fun w121 n121 f121 => ?_)
          have y1_121 := (f121.2 (a+1) (by omega)).trans y1_113
          have y2_121 := (f121.2 (a+2) (by omega)).trans y2_113
          have y3_121 := (f121.2 (a+3) (by omega)).trans n113
          have hg'_121 := (f121.2 1 (by omega)).trans hg'_113
          have F_121 := F_113.step f121 (by omega)
          refine zw_goto z62_124 ?_
          refine zw_vret z62_135 rfl ?_
          first | (exfalso; omega) | exact ⟨_, rfl, rfl, rfl, rfl, cr_fin n121 y1_121 y2_121 y3_121 (by subst_vars; unfold cT; (repeat' split) <;> first | rfl | (exfalso; omega)) (by subst_vars; unfold cH; (repeat' split) <;> first | rfl | (exfalso; omega)) (by subst_vars; unfold cA; (repeat' split) <;> first | rfl | (exfalso; omega)), F_121⟩
      · refine zw_iconst z62_84 (v := iI (-1)) rfl ?_
        refine zw_goto z62_85 ?_
        refine zj_astB z62_90 (by assumption) (by omega) (by decide) hV2 (by omega) (fun w90 n90 f90 b90 => ?_)
        have y0_90 := (f90.2 a (by omega)).trans y0_36
        have y1_90 := (f90.2 (a+1) (by omega)).trans n36
        have y3_90 := (f90.2 (a+3) (by omega)).trans y3_36
        have hg'_90 := (f90.2 1 (by omega)).trans hg'_36
        have F_90 := F_36.step f90 (by omega)
        refine zw_iload_n z62_91 rfl ?_
        refine zw_bipush z62_92 (v := iI (12)) (by decide +kernel) ?_
        refine zj_icmp_ne z62_94 (by omega) (by omega) (fun h94 => ?_) (fun h94 => ?_)
        · refine zw_aload_n z62_127 rfl ?_
          refine zw_getf z62_128 (by assumption) (by rfl) ?_
          refine zw_iload_n z62_131 rfl ?_
          refine zw_iload z62_132 rfl ?_
          refine zj_astB z62_134 (by assumption) (by omega) (by decide) b90 (by omega) (fun w134 n134 f134 b134 => ?_)
          have y0_134 := (f134.2 a (by omega)).trans y0_90
          have y1_134 := (f134.2 (a+1) (by omega)).trans y1_90
          have y3_134 := (f134.2 (a+3) (by omega)).trans y3_90
          have hg'_134 := (f134.2 1 (by omega)).trans hg'_90
          have F_134 := F_90.step f134 (by omega)
          refine zw_vret z62_135 rfl ?_
          first | (exfalso; omega) | exact ⟨_, rfl, rfl, rfl, rfl, cr_fin y0_134 y1_134 n134 y3_134 (by subst_vars; unfold cT; (repeat' split) <;> first | rfl | (exfalso; omega)) (by subst_vars; unfold cH; (repeat' split) <;> first | rfl | (exfalso; omega)) (by subst_vars; unfold cA; (repeat' split) <;> first | rfl | (exfalso; omega)), F_134⟩
        · refine zw_aload_n z62_97 rfl ?_
          refine zw_getf z62_98 (by assumption) (by rfl) ?_
          refine zw_aload_n z62_101 rfl ?_
          refine zw_getf z62_102 (by assumption) (by rfl) ?_
          refine zw_iload_n z62_105 rfl ?_
          refine zw_vv (n := 2) z62_106 rfl rfl (by assumption) (Nat.le_of_ble_eq_true rfl) (by omega) (sp_suitOf (by unfold gmA; assumption) hG (by omega)) ?_
          refine zw_dup2 z62_109 ⟨rfl, rfl⟩ ?_
          refine zj_aldB z62_110 (by assumption) (by omega) (by decide) hV3 (fun v110 e110 r110 => ?_)
          refine zw_iconst z62_111 (v := iI 1) rfl ?_
          refine zj_add z62_112 ?_
          refine zj_astB z62_113 (by assumption) (by omega) (by decide) hV3 (by omega) (fun w113 n113 f113 b113 => ?_)
          have y0_113 := (f113.2 a (by omega)).trans y0_90
          have y1_113 := (f113.2 (a+1) (by omega)).trans y1_90
          have y2_113 := (f113.2 (a+2) (by omega)).trans n90
          have hg'_113 := (f113.2 1 (by omega)).trans hg'_90
          have F_113 := F_90.step f113 (by omega)
          refine zw_aload_n z62_114 rfl ?_
          refine zw_dup z62_115 rfl ?_
          refine zw_getf z62_116 (by assumption) (by rfl) ?_
          refine zw_iconst z62_119 (v := iI 1) rfl ?_
          refine zj_add z62_120 ?_
          refine zj_putf z62_121 (by assumption) (Nat.le_of_ble_eq_true rfl) (by rfl) (fun w121 n121 f121 => ?_)
          have y1_121 := (f121.2 (a+1) (by omega)).trans y1_113
          have y2_121 := (f121.2 (a+2) (by omega)).trans y2_113
          have y3_121 := (f121.2 (a+3) (by omega)).trans n113
          have hg'_121 := (f121.2 1 (by omega)).trans hg'_113
          have F_121 := F_113.step f121 (by omega)
          refine zw_goto z62_124 ?_
          refine zw_vret z62_135 rfl ?_
          first | (exfalso; omega) | exact ⟨_, rfl, rfl, rfl, rfl, cr_fin n121 y1_121 y2_121 y3_121 (by subst_vars; unfold cT; (repeat' split) <;> first | rfl | (exfalso; omega)) (by subst_vars; unfold cH; (repeat' split) <;> first | rfl | (exfalso; omega)) (by subst_vars; unfold cA; (repeat' split) <;> first | rfl | (exfalso; omega)), F_121⟩
    · refine zw_aload_n z62_43 rfl ?_
      refine zw_getf z62_44 (by assumption) (by rfl) ?_
      refine zw_aload_n z62_47 rfl ?_
      refine zw_getf z62_48 (by assumption) (by rfl) ?_
      refine zw_iload_n z62_51 rfl ?_
      refine zw_vv (n := 2) z62_52 rfl rfl (by assumption) (Nat.le_of_ble_eq_true rfl) (by omega) (sp_suitOf (by unfold gmA; assumption) hG (by omega)) ?_
      refine zw_dup2 z62_55 ⟨rfl, rfl⟩ ?_
      refine zj_aldB z62_56 (by assumption) (by omega) (by decide) hV3 (fun v56 e56 r56 => ?_)
      refine zw_iconst z62_57 (v := iI 1) rfl ?_
      refine zj_sub z62_58 ?_
      refine zj_astB z62_59 (by assumption) (by omega) (by decide) hV3 (by omega) (fun w59 n59 f59 b59 => ?_)
      have y0_59 := (f59.2 a (by omega)).trans y0_36
      have y1_59 := (f59.2 (a+1) (by omega)).trans n36
      have y2_59 := (f59.2 (a+2) (by omega)).trans y2_36
      have hg'_59 := (f59.2 1 (by omega)).trans hg'_36
      have F_59 := F_36.step f59 (by omega)
      refine zw_aload_n z62_60 rfl ?_
      refine zw_dup z62_61 rfl ?_
      refine zw_getf z62_62 (by assumption) (by rfl) ?_
      refine zw_iconst z62_65 (v := iI 1) rfl ?_
      refine zj_sub z62_66 ?_
      refine zj_putf z62_67 (by assumption) (Nat.le_of_ble_eq_true rfl) (by rfl) (fun w67 n67 f67 => ?_)
      have y1_67 := (f67.2 (a+1) (by omega)).trans y1_59
      have y2_67 := (f67.2 (a+2) (by omega)).trans y2_59
      have y3_67 := (f67.2 (a+3) (by omega)).trans n59
      have hg'_67 := (f67.2 1 (by omega)).trans hg'_59
      have F_67 := F_59.step f67 (by omega)
      refine zw_goto z62_70 ?_
      refine zw_iload_n z62_91 rfl ?_
      refine zw_bipush z62_92 (v := iI (12)) (by decide +kernel) ?_
      refine zj_icmp_ne z62_94 (by omega) (by omega) (fun h94 => ?_) (fun h94 => ?_)
      · refine zw_aload_n z62_127 rfl ?_
        refine zw_getf z62_128 (by assumption) (by rfl) ?_
        refine zw_iload_n z62_131 rfl ?_
        refine zw_iload z62_132 rfl ?_
        refine zj_astB z62_134 (by assumption) (by omega) (by decide) hV2 (by omega) (fun w134 n134 f134 b134 => ?_)
        have y0_134 := (f134.2 a (by omega)).trans n67
        have y1_134 := (f134.2 (a+1) (by omega)).trans y1_67
        have y3_134 := (f134.2 (a+3) (by omega)).trans y3_67
        have hg'_134 := (f134.2 1 (by omega)).trans hg'_67
        have F_134 := F_67.step f134 (by omega)
        refine zw_vret z62_135 rfl ?_
        first | (exfalso; omega) | exact ⟨_, rfl, rfl, rfl, rfl, cr_fin y0_134 y1_134 n134 y3_134 (by subst_vars; unfold cT; (repeat' split) <;> first | rfl | (exfalso; omega)) (by subst_vars; unfold cH; (repeat' split) <;> first | rfl | (exfalso; omega)) (by subst_vars; unfold cA; (repeat' split) <;> first | rfl | (exfalso; omega)), F_134⟩
      · refine zw_aload_n z62_97 rfl ?_
        refine zw_getf z62_98 (by assumption) (by rfl) ?_
        refine zw_aload_n z62_101 rfl ?_
        refine zw_getf z62_102 (by assumption) (by rfl) ?_
        refine zw_iload_n z62_105 rfl ?_
        refine zw_vv (n := 2) z62_106 rfl rfl (by assumption) (Nat.le_of_ble_eq_true rfl) (by omega) (sp_suitOf (by unfold gmA; assumption) hG (by omega)) ?_
        refine zw_dup2 z62_109 ⟨rfl, rfl⟩ ?_
        refine zj_aldB z62_110 (by assumption) (by omega) (by decide) b59 (fun v110 e110 r110 => ?_)
        refine zw_iconst z62_111 (v := iI 1) rfl ?_
        refine zj_add z62_112 ?_
        refine zj_astB z62_113 (by assumption) (by omega) (by decide) b59 (by omega) (fun w113 n113 f113 b113 => ?_)
        have y0_113 := (f113.2 a (by omega)).trans n67
        have y1_113 := (f113.2 (a+1) (by omega)).trans y1_67
        have y2_113 := (f113.2 (a+2) (by omega)).trans y2_67
        have hg'_113 := (f113.2 1 (by omega)).trans hg'_67
        have F_113 := F_67.step f113 (by omega)
        refine zw_aload_n z62_114 rfl ?_
        refine zw_dup z62_115 rfl ?_
        refine zw_getf z62_116 (by assumption) (by rfl) ?_
        refine zw_iconst z62_119 (v := iI 1) rfl ?_
        refine zj_add z62_120 ?_
        refine zj_putf z62_121 (by assumption) (Nat.le_of_ble_eq_true rfl) (by rfl) (fun w121 n121 f121 => ?_)
        have y1_121 := (f121.2 (a+1) (by omega)).trans y1_113
        have y2_121 := (f121.2 (a+2) (by omega)).trans y2_113
        have y3_121 := (f121.2 (a+3) (by omega)).trans n113
        have hg'_121 := (f121.2 1 (by omega)).trans hg'_113
        have F_121 := F_113.step f121 (by omega)
        refine zw_goto z62_124 ?_
        refine zw_vret z62_135 rfl ?_
        first | (exfalso; omega) | exact ⟨_, rfl, rfl, rfl, rfl, cr_fin n121 y1_121 y2_121 y3_121 (by subst_vars; unfold cT; (repeat' split) <;> first | rfl | (exfalso; omega)) (by subst_vars; unfold cH; (repeat' split) <;> first | rfl | (exfalso; omega)) (by subst_vars; unfold cA; (repeat' split) <;> first | rfl | (exfalso; omega)), F_121⟩
end ZLW
