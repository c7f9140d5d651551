/-! The class PatienceTable: its state, its readers, rules, cards, clear, lay. (Laid out by gen/tpl.py from tpl/54.table.tpl.) -/
/-- the table: rules G, layout Y, log P (0 lowest, 1 sources, 2 targets, 3 amounts, 4: next, count), search S, the rest R, the hint -/
def TT : Type := (Nat → Int) × (Nat → Nat → Int) × (Nat → Nat → Int) × SS × (Nat → Int) × Int
abbrev TT.mk (G : Nat → Int) (Y P : Nat → Nat → Int) (S : SS) (R : Nat → Int) (h : Int) : TT := (G, Y, P, S, R, h)
abbrev TT.G (T : TT) : Nat → Int := T.1
abbrev TT.Y (T : TT) : Nat → Nat → Int := T.2.1
abbrev TT.P (T : TT) : Nat → Nat → Int := T.2.2.1
abbrev TT.S (T : TT) : SS := T.2.2.2.1
abbrev TT.R (T : TT) : Nat → Int := T.2.2.2.2.1
abbrev TT.hi (T : TT) : Int := T.2.2.2.2.2
abbrev lgP (w : zi_W) (P : Nat → Nat → Int) : Prop := lgA w 6 (P 0) (P 1) (P 2) (P 3) (P 4 0) (P 4 1)
abbrev lgW (P : Nat → Nat → Int) : Prop := lgV (P 0) (P 1) (P 2) (P 3) (P 4 0) (P 4 1)
def ptO (w : zi_W) (h : Int) : Prop := zi_get w 0 = some (.inr (0, [.ref 1, .ref 2, .ref 6, .ref 11, .ref 816, iV h]))
def ptA (w : zi_W) (T : TT) : Prop := ptO w T.hi ∧ gmA w 1 T.G ∧ lyY w 2 T.Y ∧ lgP w T.P ∧ seT w T.S ∧ zi_get w 816 = some (.inl (0, 52, .inl (iA T.R)))
def ptV (T : TT) : Prop := gmV T.G ∧ lyW T.Y ∧ lgW T.P ∧ seV0 T.S.2.1 T.S.2.2 ∧ (∀ j, 0 ≤ T.R j ∧ T.R j ≤ 51)
abbrev ptS : Nat → Prop := fun j => j ≤ 816
abbrev oI (z : Int) : zi_O := .inl (some (iV z))
def tC : zi_O → Nat
  | .inl _ => 0
  | .inr _ => 1
/-- method j, called with as, ends; R says how -/
def zt (L : Nat) (xs : Nat → Int32) (d q j : Nat) (as : List Value) (w : zi_W) (cn sn : Nat) (R : zi_O → zi_W → Nat → Nat → Prop) : Prop := ∃ ls', zi_ent as (zi_n zp j) = some ls' ∧ zw L xs d q j 0 ls' [] w cn sn R
/-- it ends with o, and the table is then T -/
def tO (w : zi_W) (cn sn : Nat) (r : zi_O × TT) : zi_O → zi_W → Nat → Nat → Prop := fun o w' cn' sn' => o = r.1 ∧ cn' = cn + tC r.1 ∧ sn' = sn + 6 * tC r.1 ∧ ptA w' r.2 ∧ zF ptS w w'
theorem lgA.keep {w w' : zi_W} {l : Nat} {lo so ta am : Nat → Int} {nx ct : Int} (h : lgA w l lo so ta am nx ct) (hk : ∀ j, l ≤ j → j ≤ l + 4 → zi_get w' j = zi_get w j) : lgA w' l lo so ta am nx ct :=
  ⟨(hk l (by omega) (by omega)).trans h.1, (hk (l + 1) (by omega) (by omega)).trans h.2.1, (hk (l + 2) (by omega) (by omega)).trans h.2.2.1, (hk (l + 3) (by omega) (by omega)).trans h.2.2.2.1, (hk (l + 4) (by omega) (by omega)).trans h.2.2.2.2⟩
theorem seT_keep {w w' : zi_W} {σ : SS} (h : seT w σ) (hk : ∀ j, 11 ≤ j → j ≤ 815 → zi_get w' j = zi_get w j) : seT w' σ :=
  ⟨⟨(hk 11 (by omega) (by omega)).trans h.1.1, (hk 12 (by omega) (by omega)).trans h.1.2.1, (hk 13 (by omega) (by omega)).trans h.1.2.2.1, (hk 14 (by omega) (by omega)).trans h.1.2.2.2.1, (hk 15 (by omega) (by omega)).trans h.1.2.2.2.2⟩, fun j hj => (h.2 j hj).keep fun i h1 h2 => hk i (by omega) (by omega)⟩
def yCl (Y : Nat → Nat → Int) : Nat → Nat → Int
  | 0 => iFi (Y 0) 52 (-4)
  | 1 => iFi (Y 1) 12 (-1)
  | 2 => iFi (Y 2) 4 0
  | _ => fun _ => 0
def pN (P : Nat → Nat → Int) (a b : Int) : Nat → Nat → Int
  | 0 => P 0
  | 1 => P 1
  | 2 => P 2
  | 3 => P 3
  | _ => fun i => if i = 0 then a else b
def tClr (T : TT) : TT := TT.mk T.G (yCl T.Y) (pN T.P 0 0) T.S T.R (-1)
section ZPT
variable {L : Nat} {xs : Nat → Int32} {d q : Nat} {w : zi_W} {cn sn : Nat} {T : TT} {z y m c a b e f u : Int}
theorem zt_of_zr {j : Nat} {as : List Value} {R : Option Value → zi_W → Nat → Nat → Prop} {R' : zi_O → zi_W → Nat → Nat → Prop} (h : zr L xs d q j as w cn sn R) (hR : ∀ v w' cn' sn', R v w' cn' sn' → R' (.inl v) w' cn' sn') : zt L xs d q j as w cn sn R' := by
  obtain ⟨ls', h1, h2⟩ := h
  refine ⟨ls', h1, h2.mono fun o w' cn' sn' h => ?_⟩
  obtain ⟨v, rfl, h⟩ := h
  exact hR _ _ _ _ h
theorem sp_isWithin (hz : iR z) (ha : iR a) (hb : iR b) : zv d q 25 [iV z, iV a, iV b] w (iI (b2 (a ≤ z ∧ z ≤ b))) := by
  intro L xs cn sn
  refine ⟨_, rfl, ?_⟩
  show zw _ _ _ _ 25 0 [some (iV z), some (iV a), some (iV b)] [] _ _ _ _
  refine zw_iload_n z25_0 rfl ?_
  refine zw_iload_n z25_1 rfl ?_
  refine zj_icmp_lt z25_2 (by omega) (by omega) (fun h2 => ?_) (fun h2 => ?_)
  · refine zw_iconst z25_14 (v := iI 0) rfl ?_
    refine zj_bret z25_15 rfl (by first | exact b2_r | omega) ?_
    exact zv_end (by first | rw [b2_t (by omega)] | rw [b2_f (by omega)])
  · refine zw_iload_n z25_5 rfl ?_
    refine zw_iload_n z25_6 rfl ?_
    refine zj_icmp_gt z25_7 (by omega) (by omega) (fun h7 => ?_) (fun h7 => ?_)
    · refine zw_iconst z25_14 (v := iI 0) rfl ?_
      refine zj_bret z25_15 rfl (by first | exact b2_r | omega) ?_
      exact zv_end (by first | rw [b2_t (by omega)] | rw [b2_f (by omega)])
    · refine zw_iconst z25_10 (v := iI 1) rfl ?_
      refine zw_goto z25_11 ?_
      refine zj_bret z25_15 rfl (by first | exact b2_r | omega) ?_
      exact zv_end (by first | rw [b2_t (by omega)] | rw [b2_f (by omega)])
abbrev lTold (z : Int) : Int := if 49 ≤ z ∧ z ≤ 56 then z - 49 else if 97 ≤ z ∧ z ≤ 100 then z - 89 else if z = 104 then 12 else -1
theorem sp_placeTold (hz : 0 ≤ z ∧ z ≤ 65535) : zv d q 26 [iV z] w (iI (lTold z)) := by
  intro L xs cn sn
  refine ⟨_, rfl, ?_⟩
  show zw _ _ _ _ 26 0 [some (iV z)] [] _ _ _ _
  refine zw_iload_n z26_0 rfl ?_
  refine zw_bipush z26_1 (v := iI (49)) (by decide +kernel) ?_
  refine zj_icmp_lt z26_3 (by omega) (by omega) (fun h3 => ?_) (fun h3 => ?_)
  · refine zw_iload_n z26_17 rfl ?_
    refine zw_bipush z26_18 (v := iI (97)) (by decide +kernel) ?_
    refine zj_icmp_lt z26_20 (by omega) (by omega) (fun h20 => ?_) (fun h20 => ?_)
    · refine zw_iload_n z26_37 rfl ?_
      refine zw_bipush z26_38 (v := iI (104)) (by decide +kernel) ?_
      refine zj_icmp_ne z26_40 (by omega) (by omega) (fun h40 => ?_) (fun h40 => ?_)
      · refine zw_iconst z26_48 (v := iI (-1)) rfl ?_
        refine zw_iret z26_49 rfl ?_
        exact zv_end (by congr 1; unfold lTold; grind)
      · refine zw_bipush z26_43 (v := iI (12)) (by decide +kernel) ?_
        refine zw_goto z26_45 ?_
        refine zw_iret z26_49 rfl ?_
        exact zv_end (by congr 1; unfold lTold; grind)
    · refine zw_iload_n z26_23 rfl ?_
      refine zw_bipush z26_24 (v := iI (100)) (by decide +kernel) ?_
      refine zj_icmp_gt z26_26 (by omega) (by omega) (fun h26 => ?_) (fun h26 => ?_)
      · refine zw_iload_n z26_37 rfl ?_
        refine zw_bipush z26_38 (v := iI (104)) (by decide +kernel) ?_
        refine zj_icmp_ne z26_40 (by omega) (by omega) (fun h40 => ?_) (fun h40 => ?_)
        · refine zw_iconst z26_48 (v := iI (-1)) rfl ?_
          refine zw_iret z26_49 rfl ?_
          exact zv_end (by congr 1; unfold lTold; grind)
        · refine zw_bipush z26_43 (v := iI (12)) (by decide +kernel) ?_
          refine zw_goto z26_45 ?_
          refine zw_iret z26_49 rfl ?_
          exact zv_end (by congr 1; unfold lTold; grind)
      · refine zw_bipush z26_29 (v := iI (8)) (by decide +kernel) ?_
        refine zw_iload_n z26_31 rfl ?_
        refine zj_add z26_32 ?_
        refine zw_bipush z26_33 (v := iI (97)) (by decide +kernel) ?_
        refine zj_sub z26_35 ?_
        refine zw_iret z26_36 rfl ?_
        exact zv_end (by congr 1; unfold lTold; grind)
  · refine zw_iload_n z26_6 rfl ?_
    refine zw_bipush z26_7 (v := iI (56)) (by decide +kernel) ?_
    refine zj_icmp_gt z26_9 (by omega) (by omega) (fun h9 => ?_) (fun h9 => ?_)
    · refine zw_iload_n z26_17 rfl ?_
      refine zw_bipush z26_18 (v := iI (97)) (by decide +kernel) ?_
      refine zj_icmp_lt z26_20 (by omega) (by omega) (fun h20 => ?_) (fun h20 => ?_)
      · refine zw_iload_n z26_37 rfl ?_
        refine zw_bipush z26_38 (v := iI (104)) (by decide +kernel) ?_
        refine zj_icmp_ne z26_40 (by omega) (by omega) (fun h40 => ?_) (fun h40 => ?_)
        · refine zw_iconst z26_48 (v := iI (-1)) rfl ?_
          refine zw_iret z26_49 rfl ?_
          exact zv_end (by congr 1; unfold lTold; grind)
        · refine zw_bipush z26_43 (v := iI (12)) (by decide +kernel) ?_
          refine zw_goto z26_45 ?_
          refine zw_iret z26_49 rfl ?_
          exact zv_end (by congr 1; unfold lTold; grind)
      · refine zw_iload_n z26_23 rfl ?_
        refine zw_bipush z26_24 (v := iI (100)) (by decide +kernel) ?_
        refine zj_icmp_gt z26_26 (by omega) (by omega) (fun h26 => ?_) (fun h26 => ?_)
        · refine zw_iload_n z26_37 rfl ?_
          refine zw_bipush z26_38 (v := iI (104)) (by decide +kernel) ?_
          refine zj_icmp_ne z26_40 (by omega) (by omega) (fun h40 => ?_) (fun h40 => ?_)
          · refine zw_iconst z26_48 (v := iI (-1)) rfl ?_
            refine zw_iret z26_49 rfl ?_
            exact zv_end (by congr 1; unfold lTold; grind)
          · refine zw_bipush z26_43 (v := iI (12)) (by decide +kernel) ?_
            refine zw_goto z26_45 ?_
            refine zw_iret z26_49 rfl ?_
            exact zv_end (by congr 1; unfold lTold; grind)
        · refine zw_bipush z26_29 (v := iI (8)) (by decide +kernel) ?_
          refine zw_iload_n z26_31 rfl ?_
          refine zj_add z26_32 ?_
          refine zw_bipush z26_33 (v := iI (97)) (by decide +kernel) ?_
          refine zj_sub z26_35 ?_
          refine zw_iret z26_36 rfl ?_
          exact zv_end (by congr 1; unfold lTold; grind)
    · refine zw_iload_n z26_12 rfl ?_
      refine zw_bipush z26_13 (v := iI (49)) (by decide +kernel) ?_
      refine zj_sub z26_15 ?_
      refine zw_iret z26_16 rfl ?_
      exact zv_end (by congr 1; unfold lTold; grind)
theorem sp_clear (h : ptA w T) (hd : 2 ≤ d) (hq : 43 ≤ q) : zr L xs d q 12 [.ref 0] w cn sn (fun r w' cn' sn' => r = none ∧ cn' = cn ∧ sn' = sn ∧ ptA w' (tClr T) ∧ zF ptS w w') := by
  obtain ⟨d, rfl⟩ : ∃ e, d = e + 1 := ⟨d - 1, by omega⟩
  obtain ⟨h0, hg, hy, hp, hs, hr⟩ := h
  unfold ptO at h0
  have y0 := hy.1
  have p0 := hp.1
  refine ⟨_, rfl, ?_⟩
  show zw _ _ _ _ 12 0 [some (.ref 0)] [] _ _ _ _
  refine zw_aload_n z12_0 rfl ?_
  refine zw_getf z12_1 (by assumption) (by rfl) ?_
  refine zw_cv (n := 1) z12_4 rfl rfl y0 (Nat.le_of_ble_eq_true rfl) (by omega) (sp_takeAllUp hy (by omega) (by omega)) (fun v w1 cn1 sn1 h => ?_)
  obtain ⟨rfl, rfl, rfl, n1, f1⟩ := h
  have h0 := (f1.2 0 (by omega)).trans h0
  have p0 := (f1.2 6 (by omega)).trans p0
  have hp1 := hp.keep (w' := w1) fun j h1 h2 => f1.2 j (by omega)
  refine zw_aload_n z12_7 rfl ?_
  refine zw_getf z12_8 (by assumption) (by rfl) ?_
  refine zw_cv (n := 1) z12_11 rfl rfl p0 (Nat.le_of_ble_eq_true rfl) (by omega) (sp_forgetAll hp1) (fun v w2 cn2 sn2 h => ?_)
  obtain ⟨rfl, rfl, rfl, n2, f2⟩ := h
  have h0 := (f2.2 0 (by omega)).trans h0
  refine zw_aload_n z12_14 rfl ?_
  refine zw_iconst z12_15 (v := iI (-1)) rfl ?_
  refine zj_putf z12_16 h0 (Nat.le_of_ble_eq_true rfl) (by rfl) (fun w3 n3 f3 => ?_)
  have k3 : ∀ j, 11 ≤ j → zi_get w3 j = zi_get w j := fun j hj => (f3.2 j (by omega)).trans ((f2.2 j (by omega)).trans (f1.2 j (by omega)))
  refine zw_vret z12_19 rfl ⟨_, rfl, rfl, rfl, rfl, ⟨n3, (f3.2 1 (by omega)).trans ((f2.2 1 (by omega)).trans ((f1.2 1 (by omega)).trans hg)), lyA.keep n1 fun j h1 h2 => (f3.2 j (by omega)).trans (f2.2 j (by omega)), lgA.keep n2 fun j h1 h2 => f3.2 j (by omega), seT_keep hs fun j h1 h2 => k3 j (by omega), (k3 816 (by omega)).trans hr⟩, ((f1.sub fun j hj => by omega).trans (f2.sub fun j hj => by omega)).step f3 (by omega)⟩
def tRules (T : TT) (z y m c : Int) : zi_O × TT := if (2 ≤ z ∧ z ≤ 8) ∧ (0 ≤ y ∧ y ≤ 4) ∧ (0 ≤ m ∧ m ≤ 2) ∧ (0 ≤ c ∧ c ≤ 2) then (oI 1, tClr (TT.mk (iU (iU (iU (iU T.G 0 z) 1 y) 2 m) 3 c) T.Y T.P T.S T.R T.hi)) else (oI 0, T)
theorem sp_rules (h : ptA w T) (hz : iR z) (hy : iR y) (hm : iR m) (hc : iR c) (hd : 3 ≤ d) (hq : 63 ≤ q) : zt L xs d q 9 [.ref 0, iV z, iV y, iV m, iV c] w cn sn (tO w cn sn (tRules T z y m c)) := by
  obtain ⟨d, rfl⟩ : ∃ e, d = e + 1 := ⟨d - 1, by omega⟩
  have hT := h
  obtain ⟨h0, hg, -⟩ := h
  unfold ptO at h0
  unfold gmA at hg
  refine ⟨_, rfl, ?_⟩
  show zw _ _ _ _ 9 0 [some (.ref 0), some (iV z), some (iV y), some (iV m), some (iV c), none] [] _ _ _ _
  have kf : ¬ ((2 ≤ z ∧ z ≤ 8) ∧ (0 ≤ y ∧ y ≤ 4) ∧ (0 ≤ m ∧ m ≤ 2) ∧ (0 ≤ c ∧ c ≤ 2)) → zw L xs (d + 1) q 9 42 [some (.ref 0), some (iV z), some (iV y), some (iV m), some (iV c), none] [] w cn sn (tO w cn sn (tRules T z y m c)) := by
    intro hn
    refine zw_iconst z9_42 (v := iI 0) rfl ?_
    refine zw_istore z9_43 rfl ?_
    refine zw_iload z9_45 rfl ?_
    refine zj_if_ne z9_47 (by omega) (fun h => ?_) (fun h => ?_)
    · exfalso; omega
    refine zw_iconst z9_50 (v := iI 0) rfl ?_
    refine zj_bret z9_51 rfl (by omega) ?_
    rw [show tRules T z y m c = (oI 0, T) from if_neg hn]
    exact ⟨rfl, rfl, rfl, hT, zF.rf⟩
  refine zw_iload_n z9_0 rfl ?_
  refine zw_iconst z9_1 (v := iI 2) rfl ?_
  refine zw_bipush z9_2 (v := iI (8)) (by decide +kernel) ?_
  refine zw_vs (n := 3) z9_4 rfl rfl (Nat.le_of_ble_eq_true rfl) (by omega) (sp_isWithin hz (by omega) (by omega)) ?_
  refine zj_b_eq z9_7 (fun h7 => ?_) (fun h7 => ?_)
  · exact kf (by omega)
  refine zw_iload_n z9_10 rfl ?_
  refine zw_iconst z9_11 (v := iI 0) rfl ?_
  refine zw_iconst z9_12 (v := iI 4) rfl ?_
  refine zw_vs (n := 3) z9_13 rfl rfl (Nat.le_of_ble_eq_true rfl) (by omega) (sp_isWithin hy (by omega) (by omega)) ?_
  refine zj_b_eq z9_16 (fun h16 => ?_) (fun h16 => ?_)
  · exact kf (by omega)
  refine zw_iload_n z9_19 rfl ?_
  refine zw_iconst z9_20 (v := iI 0) rfl ?_
  refine zw_iconst z9_21 (v := iI 2) rfl ?_
  refine zw_vs (n := 3) z9_22 rfl rfl (Nat.le_of_ble_eq_true rfl) (by omega) (sp_isWithin hm (by omega) (by omega)) ?_
  refine zj_b_eq z9_25 (fun h25 => ?_) (fun h25 => ?_)
  · exact kf (by omega)
  refine zw_iload z9_28 rfl ?_
  refine zw_iconst z9_30 (v := iI 0) rfl ?_
  refine zw_iconst z9_31 (v := iI 2) rfl ?_
  refine zw_vs (n := 3) z9_32 rfl rfl (Nat.le_of_ble_eq_true rfl) (by omega) (sp_isWithin hc (by omega) (by omega)) ?_
  refine zj_b_eq z9_35 (fun h35 => ?_) (fun h35 => ?_)
  · exact kf (by omega)
  refine zw_iconst z9_38 (v := iI 1) rfl ?_
  refine zw_goto z9_39 ?_
  refine zw_istore z9_43 rfl ?_
  refine zw_iload z9_45 rfl ?_
  refine zj_if_ne z9_47 (by omega) (fun h => ?_) (fun h => ?_)
  rotate_left
  · exfalso; omega
  refine zw_aload_n z9_52 rfl ?_
  refine zw_getf z9_53 (by assumption) (by rfl) ?_
  refine zw_iload_n z9_56 rfl ?_
  refine zj_putf z9_57 hg (Nat.le_of_ble_eq_true rfl) (by rfl) (fun w1 hg f1 => ?_)
  have h0 := (f1.2 0 (by omega)).trans h0
  refine zw_aload_n z9_60 rfl ?_
  refine zw_getf z9_61 (by assumption) (by rfl) ?_
  refine zw_iload_n z9_64 rfl ?_
  refine zj_putf z9_65 hg (Nat.le_of_ble_eq_true rfl) (by rfl) (fun w2 hg f2 => ?_)
  have h0 := (f2.2 0 (by omega)).trans h0
  refine zw_aload_n z9_68 rfl ?_
  refine zw_getf z9_69 (by assumption) (by rfl) ?_
  refine zw_iload_n z9_72 rfl ?_
  refine zj_putf z9_73 hg (Nat.le_of_ble_eq_true rfl) (by rfl) (fun w3 hg f3 => ?_)
  have h0 := (f3.2 0 (by omega)).trans h0
  refine zw_aload_n z9_76 rfl ?_
  refine zw_getf z9_77 (by assumption) (by rfl) ?_
  refine zw_iload z9_80 rfl ?_
  refine zj_putf z9_82 hg (Nat.le_of_ble_eq_true rfl) (by rfl) (fun w4 hg f4 => ?_)
  have h0 := (f4.2 0 (by omega)).trans h0
  have k4 : ∀ j, 2 ≤ j → zi_get w4 j = zi_get w j := fun j hj => (f4.2 j (by omega)).trans ((f3.2 j (by omega)).trans ((f2.2 j (by omega)).trans (f1.2 j (by omega))))
  have h4 : ptA w4 (TT.mk (iU (iU (iU (iU T.G 0 z) 1 y) 2 m) 3 c) T.Y T.P T.S T.R T.hi) := ⟨h0, hg, hT.2.2.1.keep fun j h1 h2 => k4 j (by omega), hT.2.2.2.1.keep fun j h1 h2 => k4 j (by omega), seT_keep hT.2.2.2.2.1 fun j h1 h2 => k4 j (by omega), (k4 816 (by omega)).trans hT.2.2.2.2.2⟩
  refine zw_aload_n z9_85 rfl ?_
  refine zw_cv (n := 1) z9_86 rfl rfl h0 (Nat.le_of_ble_eq_true rfl) (by omega) (sp_clear h4 (by omega) (by omega)) (fun v w5 cn5 sn5 h => ?_)
  obtain ⟨rfl, rfl, rfl, h5, f5⟩ := h
  refine zw_iconst z9_89 (v := iI 1) rfl ?_
  refine zj_bret z9_90 rfl (by omega) ?_
  rw [show tRules T z y m c = _ from if_pos (by omega)]
  exact ⟨rfl, rfl, rfl, h5, ((((zF.rf.step f1 (by omega)).step f2 (by omega)).step f3 (by omega)).step f4 (by omega)).trans f5⟩
def tCards (T : TT) (z y : Int) : zi_O × TT := if (1 ≤ z ∧ z ≤ 4) ∧ (1 ≤ y ∧ y ≤ 13) then (oI 1, tClr (TT.mk (iU (iU T.G 4 z) 5 y) T.Y T.P T.S T.R T.hi)) else (oI 0, T)
theorem sp_cards (h : ptA w T) (hz : iR z) (hy : iR y) (hd : 3 ≤ d) (hq : 63 ≤ q) : zt L xs d q 10 [.ref 0, iV z, iV y] w cn sn (tO w cn sn (tCards T z y)) := by
  obtain ⟨d, rfl⟩ : ∃ e, d = e + 1 := ⟨d - 1, by omega⟩
  have hT := h
  obtain ⟨h0, hg, -⟩ := h
  unfold ptO at h0
  unfold gmA at hg
  refine ⟨_, rfl, ?_⟩
  show zw _ _ _ _ 10 0 [some (.ref 0), some (iV z), some (iV y)] [] _ _ _ _
  have kf : ¬ ((1 ≤ z ∧ z ≤ 4) ∧ (1 ≤ y ∧ y ≤ 13)) → zw L xs (d + 1) q 10 19 [some (.ref 0), some (iV z), some (iV y)] [] w cn sn (tO w cn sn (tCards T z y)) := by
    intro hn
    refine zw_iconst z10_19 (v := iI 0) rfl ?_
    refine zj_bret z10_20 rfl (by omega) ?_
    rw [show tCards T z y = (oI 0, T) from if_neg hn]
    exact ⟨rfl, rfl, rfl, hT, zF.rf⟩
  refine zw_iload_n z10_0 rfl ?_
  refine zw_iconst z10_1 (v := iI 1) rfl ?_
  refine zw_iconst z10_2 (v := iI 4) rfl ?_
  refine zw_vs (n := 3) z10_3 rfl rfl (Nat.le_of_ble_eq_true rfl) (by omega) (sp_isWithin hz (by omega) (by omega)) ?_
  refine zj_b_eq z10_6 (fun h7 => ?_) (fun h7 => ?_)
  · exact kf (by omega)
  refine zw_iload_n z10_9 rfl ?_
  refine zw_iconst z10_10 (v := iI 1) rfl ?_
  refine zw_bipush z10_11 (v := iI (13)) (by decide +kernel) ?_
  refine zw_vs (n := 3) z10_13 rfl rfl (Nat.le_of_ble_eq_true rfl) (by omega) (sp_isWithin hy (by omega) (by omega)) ?_
  refine zj_b_ne z10_16 (fun h16 => ?_) (fun h16 => ?_)
  rotate_left
  · exact kf (by omega)
  refine zw_aload_n z10_21 rfl ?_
  refine zw_getf z10_22 (by assumption) (by rfl) ?_
  refine zw_iload_n z10_25 rfl ?_
  refine zj_putf z10_26 hg (Nat.le_of_ble_eq_true rfl) (by rfl) (fun w1 hg f1 => ?_)
  have h0 := (f1.2 0 (by omega)).trans h0
  refine zw_aload_n z10_29 rfl ?_
  refine zw_getf z10_30 (by assumption) (by rfl) ?_
  refine zw_iload_n z10_33 rfl ?_
  refine zj_putf z10_34 hg (Nat.le_of_ble_eq_true rfl) (by rfl) (fun w2 hg f2 => ?_)
  have h0 := (f2.2 0 (by omega)).trans h0
  have k4 : ∀ j, 2 ≤ j → zi_get w2 j = zi_get w j := fun j hj => (f2.2 j (by omega)).trans (f1.2 j (by omega))
  have h4 : ptA w2 (TT.mk (iU (iU T.G 4 z) 5 y) T.Y T.P T.S T.R T.hi) := ⟨h0, hg, hT.2.2.1.keep fun j h1 h2 => k4 j (by omega), hT.2.2.2.1.keep fun j h1 h2 => k4 j (by omega), seT_keep hT.2.2.2.2.1 fun j h1 h2 => k4 j (by omega), (k4 816 (by omega)).trans hT.2.2.2.2.2⟩
  refine zw_aload_n z10_37 rfl ?_
  refine zw_cv (n := 1) z10_38 rfl rfl h0 (Nat.le_of_ble_eq_true rfl) (by omega) (sp_clear h4 (by omega) (by omega)) (fun v w5 cn5 sn5 h => ?_)
  obtain ⟨rfl, rfl, rfl, h5, f5⟩ := h
  refine zw_iconst z10_41 (v := iI 1) rfl ?_
  refine zj_bret z10_42 rfl (by omega) ?_
  rw [show tCards T z y = _ from if_pos (by omega)]
  exact ⟨rfl, rfl, rfl, h5, ((zF.rf.step f1 (by omega)).step f2 (by omega)).trans f5⟩
def yLay (Y : Nat → Nat → Int) (z c : Int) : Nat → Nat → Int
  | 0 => iU (Y 0) c.toNat (Y 1 z.toNat)
  | 1 => iU (Y 1) z.toNat c
  | 2 => Y 2
  | _ => fun i => if i = 0 then Y 3 0 + 1 else Y 3 1
def tLay (T : TT) (z c : Int) : zi_O × TT := if gCol T.G z ∧ 0 ≤ c ∧ c < gAll T.G then (if T.Y 0 c.toNat ≠ -4 then (.inr 1, T) else (oI (T.Y 3 0 + 1), TT.mk T.G (yLay T.Y z c) T.P T.S T.R (-1))) else (.inr 0, T)
theorem sp_lay (h : ptA w T) (hV : ptV T) (hz : iR z) (hc : iR c) (hd : 6 ≤ d) (hq : 90 ≤ q) : zt L xs d q 13 [.ref 0, iV z, iV c] w cn sn (tO w cn sn (tLay T z c)) := by
  obtain ⟨d, rfl⟩ : ∃ e, d = e + 1 := ⟨d - 1, by omega⟩
  have hT := h
  obtain ⟨h0, hg, hy, hp, hs, hr⟩ := h
  unfold ptO at h0
  have hg' := hg
  unfold gmA at hg'
  have y0 := hy.1
  have hG := hV.1
  have hA := gAll_rng hG
  have hG' := hG
  unfold gmV at hG'
  refine ⟨_, rfl, ?_⟩
  show zw _ _ _ _ 13 0 [some (.ref 0), some (iV z), some (iV c)] [] _ _ _ _
  have kf : ¬ (gCol T.G z ∧ 0 ≤ c ∧ c < gAll T.G) → zw L xs (d + 1) q 13 22 [some (.ref 0), some (iV z), some (iV c)] [] w cn sn (tO w cn sn (tLay T z c)) := by
    intro hn
    refine zw_thr (ex := 0) rfl (by omega) (by omega) ?_
    rw [show tLay T z c = (.inr 0, T) from if_neg hn]
    exact ⟨rfl, rfl, rfl, hT, zF.rf⟩
  refine zw_aload_n z13_0 rfl ?_
  refine zw_getf z13_1 (by assumption) (by rfl) ?_
  refine zw_iload_n z13_4 rfl ?_
  refine zw_vv (n := 2) z13_5 rfl rfl (by assumption) (Nat.le_of_ble_eq_true rfl) (by omega) (sp_isColumn hg hG hz) ?_
  refine zj_b_eq z13_8 (fun h7 => ?_) (fun h7 => ?_)
  · exact kf (by omega)
  refine zw_aload_n z13_11 rfl ?_
  refine zw_getf z13_12 (by assumption) (by rfl) ?_
  refine zw_iload_n z13_15 rfl ?_
  refine zw_vv (n := 2) z13_16 rfl rfl (by assumption) (Nat.le_of_ble_eq_true rfl) (by omega) (sp_isCard hg hG hc (by omega) (by omega)) ?_
  refine zj_b_ne z13_19 (fun h16 => ?_) (fun h16 => ?_)
  rotate_left
  · exact kf (fun h => h16 h.2)
  refine zw_aload_n z13_32 rfl ?_
  refine zw_getf z13_33 (by assumption) (by rfl) ?_
  refine zw_iload_n z13_36 rfl ?_
  refine zw_vv (n := 2) z13_37 rfl rfl (by assumption) (Nat.le_of_ble_eq_true rfl) (by omega) (sp_isLaid hy hV.2.1 (by omega)) ?_
  refine zj_b_eq z13_40 (fun h40 => ?_) (fun h40 => ?_)
  rotate_left
  · refine zw_thr (ex := 1) rfl (by omega) (by omega) ?_
    rw [show tLay T z c = (.inr 1, T) from (if_pos ⟨h7, h16⟩).trans (if_pos h40)]
    exact ⟨rfl, rfl, rfl, hT, zF.rf⟩
  refine zw_aload_n z13_53 rfl ?_
  refine zw_getf z13_54 (by assumption) (by rfl) ?_
  refine zw_iload_n z13_57 rfl ?_
  refine zw_iload_n z13_58 rfl ?_
  refine zw_cv (n := 3) z13_59 rfl rfl y0 (Nat.le_of_ble_eq_true rfl) (by omega) (sp_layOn hy hV.2.1 (by omega) (by omega)) (fun v w1 cn1 sn1 h => ?_)
  obtain ⟨rfl, rfl, rfl, n1, f1⟩ := h
  have h0 := (f1.2 0 (by omega)).trans h0
  refine zw_aload_n z13_62 rfl ?_
  refine zw_iconst z13_63 (v := iI (-1)) rfl ?_
  refine zj_putf z13_64 h0 (Nat.le_of_ble_eq_true rfl) (by rfl) (fun w2 n2 f2 => ?_)
  have y2 := (f2.2 2 (by omega)).trans n1.1
  have k2 : ∀ j, 6 ≤ j → zi_get w2 j = zi_get w j := fun j hj => (f2.2 j (by omega)).trans (f1.2 j (by omega))
  refine zw_aload_n z13_67 rfl ?_
  refine zw_getf z13_68 (by assumption) (by rfl) ?_
  refine zw_getf z13_71 (by assumption) (by rfl) ?_
  refine zw_iret z13_74 rfl ?_
  rw [show tLay T z c = _ from (if_pos ⟨h7, h16⟩).trans (if_neg h40)]
  exact ⟨rfl, rfl, rfl, ⟨n2, (f2.2 1 (by omega)).trans ((f1.2 1 (by omega)).trans hg), lyA.keep n1 fun j h1 h2 => f2.2 j (by omega), hp.keep fun j h1 h2 => k2 j (by omega), seT_keep hs fun j h1 h2 => k2 j (by omega), (k2 816 (by omega)).trans hr⟩, (f1.sub fun j hj => by omega).step f2 (by omega)⟩
end ZPT
