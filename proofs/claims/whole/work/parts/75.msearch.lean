/-! The reference's search: search, look. (Laid out by gen/tpl.py from tpl/75.msearch.tpl.) -/
section ZNB
variable {L : Nat} {xs : Nat → Int32} {d q : Nat} {w w' : zi_W} {cn sn : Nat} {Q : zi_O → zi_W → Nat → Nat → Prop} {G N f : Nat → Int} {A : Nat → Nat → Int} {z y m c o a b e k p u n l : Int} {r ct : Nat} {τ τ0 τ1 : MO}
/-- what spread leaves as it was -/
def ks (τ0 τ : MO) : Prop := (∀ i, i ≤ 6 → τ.2.2 i = τ0.2.2 i) ∧ τ.2.2 10 = τ0.2.2 10 ∧ (∀ i, i ≤ 3 → τ.2.1 i = τ0.2.1 i) ∧ τ.2.1 5 = τ0.2.1 5 ∧ τ0.2.1 4 ≤ τ.2.1 4
theorem ks.rf : ks τ τ := ⟨fun _ _ => rfl, rfl, fun _ _ => rfl, rfl, Int.le_refl _⟩
theorem ks.trans (h : ks τ0 τ) (g : ks τ τ1) : ks τ0 τ1 := ⟨fun i hi => (g.1 i hi).trans (h.1 i hi), g.2.1.trans h.2.1, fun i hi => (g.2.2.1 i hi).trans (h.2.2.1 i hi), g.2.2.2.1.trans h.2.2.2.1, Int.le_trans h.2.2.2.2 g.2.2.2.2⟩
theorem kp.ks (h : kp τ0 τ) : ks τ0 τ := ⟨h.1, h.2.1, fun i hi => h.2.2.2 i (by omega), h.2.2.2 5 (by omega), by rw [h.2.2.2 4 (by omega)]; exact Int.le_refl _⟩
theorem ks_nw {x : Int} : ks τ (sNw n x τ) := by
  unfold sNw ks
  dsimp only
  refine ⟨fun i hi => fU_ne _ _ (by omega), rfl, fun i hi => ?_, rfl, ?_⟩
  · rw [iU_ne _ _ (by omega), iU_ne _ _ (by omega)]
  · rw [iU_same]
    split <;> omega
theorem ks_spO : ks τ (spO G r n c o τ) := by
  unfold spO
  split
  · split
    · exact (kp_tr.ks).trans ks_nw
    · exact kp_tr.ks
  · exact ks.rf
theorem ks_spT : ∀ (j : Nat) (o : Int) (τ : MO), ks τ (spT G r n c j o τ) := by
  intro j
  induction j with
  | zero => intro o τ; exact ks.rf
  | succ j ih => intro o τ; exact ks_spO.trans (ih _ _)
theorem ks_spC : ∀ (j : Nat) (c : Int) (τ : MO), ks τ (spC G r n j c τ) := by
  intro j
  induction j with
  | zero => intro o τ; exact ks.rf
  | succ j ih => intro o τ; exact (ks_spT _ _ _).trans (ih _ _)
theorem ks_sprd {x : Int} : ks (x, N, A) (sprd G r n N A) := (kp_rg (x := x) (y := 0) (N := N) (A := A) (s := rg G A r)).ks.trans (ks_spC _ _ _)
/-- a level begins; its rows; the levels -/
def lvS (τ : MO) : MO := (0, iU (iU (iU τ.2.1 5 (τ.2.1 5 + 1)) 3 (τ.2.1 4)) 6 0, fU τ.2.2 10 (iU (τ.2.2 10) (τ.2.1 5 + 1).toNat (τ.2.1 4)))
def lvO (x : Int) (s : MO) : MO := (if x = 0 ∧ s.1 = 0 then 0 else 1, s.2.1, s.2.2)
def lvR (G : Nat → Int) (n : Int) : Nat → Nat → MO → MO
  | 0, _, τ => τ
  | j + 1, r, τ => lvR G n j (r + 1) (lvO τ.1 (sprd G r n τ.2.1 τ.2.2))
abbrev lvF (τ : MO) : Nat := (τ.2.2 10 (τ.2.1 5).toNat).toNat
abbrev lv (G : Nat → Int) (n : Int) (τ : MO) : MO := lvR G n ((τ.2.1 4).toNat - lvF τ) (lvF τ) (lvS τ)
def seL (G : Nat → Int) (n : Int) : Nat → MO → MO
  | 0, τ => τ
  | k + 1, τ => if (lv G n τ).1 ≠ 0 then ((lv G n τ).2.1 5, (lv G n τ).2.1, (lv G n τ).2.2) else if (lv G n τ).2.1 6 ≠ 0 then (-2, (lv G n τ).2.1, (lv G n τ).2.2) else if (lv G n τ).2.1 4 = (lv G n τ).2.1 3 then (-3, (lv G n τ).2.1, (lv G n τ).2.2) else seL G n k (lv G n τ)
def lvI (n : Int) (τ0 τ : MO) : Prop := msV τ.2.1 τ.2.2 ∧ (1 ≤ τ.2.1 4 ∧ τ.2.1 4 ≤ n) ∧ (τ.2.1 6 = 0 ∨ τ.2.1 6 = 1) ∧ (τ.2.1 7 = 0 ∨ τ.2.1 7 = 1) ∧ (τ.1 = 0 ∨ τ.1 = 1) ∧ ks τ0 τ
theorem lp_lvR {fr : Nat} (hG : gmV G) (hn : n ≤ 200) (h3 : τ0.2.1 3 = τ0.2.1 4 ∧ 1 ≤ τ0.2.1 4) (hd : 4 ≤ d) (hq : 93 ≤ q) {R : MO} (kk : ∀ w' x4 x5, moA w' G R.2.1 R.2.2 → lvI n τ0 R → zF moS w w' → zw L xs d q 130 140 [some (.ref 817), some (iV n), some (iV fr), some (iV R.1), x4, x5] [] w' cn sn Q) : ∀ (j r : Nat) (τ : MO) (w' : zi_W) (x5 : Option Value), ((r : Int) + j = τ0.2.1 3 ∨ (j = 0 ∧ τ0.2.1 3 ≤ r)) ∧ r ≤ 205 → moA w' G τ.2.1 τ.2.2 → lvI n τ0 τ → zF moS w w' → R = lvR G n j r τ → zw L xs d q 130 101 [some (.ref 817), some (iV n), some (iV fr), some (iV τ.1), some (iV r), x5] [] w' cn sn Q := by
  obtain ⟨d, rfl⟩ : ∃ e, d = e + 1 := ⟨d - 1, by omega⟩
  intro j
  induction j with
  | zero =>
    intro r τ w' x5 h1 hm hI hF he
    have m0 := hm.1
    have hI0 := hI
    obtain ⟨i1, i2, i3, i4, i5, i6⟩ := hI
    have e3 := i6.2.2.1 3 (by omega)
    have e4 := i6.2.2.2.2
    refine zw_iload z130_101 rfl ?_
    refine zw_aload_n z130_103 rfl ?_
    refine zw_getf z130_104 (by assumption) (by rfl) ?_
    refine zj_icmp_ge z130_107 (by omega) (by omega) (fun h6 => ?_) (fun h6 => ?_)
    · have he : R = τ := he
      subst he
      exact kk w' _ _ hm hI0 hF
    · exfalso; omega
  | succ j ih =>
    intro r τ w' x5 h1 hm hI hF he
    have m0 := hm.1
    have hI0 := hI
    obtain ⟨i1, i2, i3, i4, i5, i6⟩ := hI
    have e3 := i6.2.2.1 3 (by omega)
    have e4 := i6.2.2.2.2
    have he : R = lvR G n j (r + 1) (lvO τ.1 (sprd G r n τ.2.1 τ.2.2)) := he
    refine zw_iload z130_101 rfl ?_
    refine zw_aload_n z130_103 rfl ?_
    refine zw_getf z130_104 (by assumption) (by rfl) ?_
    refine zj_icmp_ge z130_107 (by omega) (by omega) (fun h6 => ?_) (fun h6 => ?_)
    · exfalso; omega
    refine zw_aload_n z130_110 rfl ?_
    refine zw_iload z130_111 rfl ?_
    refine zw_iload_n z130_113 rfl ?_
    refine zw_cv (n := 6) z130_114 rfl rfl m0 (Nat.le_of_ble_eq_true rfl) (by omega) (sp_mSpread hm hG hn i1 (by omega) i3 i4 (by omega) (by omega)) (fun v w1 cn1 sn1 h => ?_)
    obtain ⟨⟨rfl, rfl, rfl, hm1, f1⟩, hg⟩ := h
    have hks := ks_sprd (x := τ.1) (G := G) (r := r) (n := n) (N := τ.2.1) (A := τ.2.2)
    generalize sprd G r n τ.2.1 τ.2.2 = σ at *
    obtain ⟨g1, g2, g3, g4, g5⟩ := hg
    have k133 : ∀ x, x = (if τ.1 = 0 ∧ σ.1 = 0 then (0 : Int) else 1) → zw L xs (d + 1) q 130 133 [some (.ref 817), some (iV n), some (iV fr), some (iV τ.1), some (iV r), some (iV σ.1)] [iV x] w1 cn1 sn1 Q := by
      intro x hx
      unfold lvO at he
      rw [← hx] at he
      have hI1 : lvI n τ0 (x, σ.2.1, σ.2.2) := ⟨g1, ⟨by have := hks.2.2.2.2; show 1 ≤ σ.2.1 4; have : τ.2.1 4 ≤ σ.2.1 4 := this; omega, g2.2⟩, g3, g5, by rw [hx]; split <;> omega, i6.trans hks⟩
      refine zw_istore_n z130_133 rfl ?_
      refine zj_iinc z130_134 rfl rfl ?_
      refine zw_goto z130_137 ?_
      have := ih (r + 1) (x, σ.2.1, σ.2.2) w1 (some (iV σ.1)) (by omega) hm1 hI1 (hF.trans f1) he
      rwa [show ((r + 1 : Nat) : Int) = (r : Int) + 1 by omega] at this
    refine zw_istore z130_117 rfl ?_
    refine zw_iload_n z130_119 rfl ?_
    refine zj_if_ne z130_120 (by omega) (fun h7 => ?_) (fun h7 => ?_)
    · refine zw_iconst z130_128 (v := iI 1) rfl ?_
      refine zw_goto z130_129 ?_
      exact k133 1 (if_neg (by omega)).symm
    refine zw_iload z130_123 rfl ?_
    refine zj_if_eq z130_125 (by omega) (fun h8 => ?_) (fun h8 => ?_)
    · refine zw_iconst z130_132 (v := iI 0) rfl ?_
      exact k133 0 (if_pos (by omega)).symm
    · refine zw_iconst z130_128 (v := iI 1) rfl ?_
      refine zw_goto z130_129 ?_
      exact k133 1 (if_neg (by omega)).symm
def kt (τ0 τ : MO) : Prop := (∀ i, i ≤ 6 → τ.2.2 i = τ0.2.2 i) ∧ ∀ i, i ≤ 2 → τ.2.1 i = τ0.2.1 i
theorem kt.trans (h : kt τ0 τ) (g : kt τ τ1) : kt τ0 τ1 := ⟨fun i hi => (g.1 i hi).trans (h.1 i hi), fun i hi => (g.2 i hi).trans (h.2 i hi)⟩
def seF (n : Int) (τ0 τ : MO) : Prop := msV τ.2.1 τ.2.2 ∧ (1 ≤ τ.2.1 4 ∧ τ.2.1 4 ≤ n) ∧ (τ.2.1 6 = 0 ∨ τ.2.1 6 = 1) ∧ (τ.2.1 7 = 0 ∨ τ.2.1 7 = 1) ∧ (0 ≤ τ.2.1 5 ∧ τ.2.1 5 ≤ τ.2.1 4) ∧ (∀ j : Nat, (j : Int) ≤ τ.2.1 5 → 0 ≤ τ.2.2 10 j ∧ τ.2.2 10 j ≤ τ.2.1 4) ∧ kt τ0 τ
theorem kt_lvS : kt τ (lvS τ) := by
  unfold lvS kt
  dsimp only
  refine ⟨fun i hi => fU_ne _ _ (by omega), fun i hi => ?_⟩
  rw [iU_ne _ _ (by omega), iU_ne _ _ (by omega), iU_ne _ _ (by omega)]
theorem lvS_I (hn : n ≤ 200) (h : seF n τ0 τ) : lvI n (lvS τ) (lvS τ) := by
  obtain ⟨⟨s7, s8, s9, s10, s11, s12, t8, t9⟩, h2, h3, h4, h5, h6, h7⟩ := h
  exact ⟨⟨s7, s8, s9, iU_rng s10 (by omega), s11, s12, t8, t9⟩, h2, Or.inl rfl, h4, Or.inl rfl, ks.rf⟩
/-- after a level -/
theorem seF.next (h : seF n τ0 τ) (h51 : τ.2.1 5 + 1 ≤ τ.2.1 4) {R : MO} (hR : lvI n (lvS τ) R) : seF n τ0 R ∧ R.2.1 5 = τ.2.1 5 + 1 ∧ R.2.1 3 = τ.2.1 4 ∧ τ.2.1 4 ≤ R.2.1 4 := by
  obtain ⟨h1, h2, h3, h4, h5, h6, h7⟩ := h
  obtain ⟨g1, g2, g3, g4, g5, g6⟩ := hR
  have e5 : R.2.1 5 = τ.2.1 5 + 1 := g6.2.2.2.1
  have e3 : R.2.1 3 = τ.2.1 4 := g6.2.2.1 3 (by omega)
  have e4 : τ.2.1 4 ≤ R.2.1 4 := g6.2.2.2.2
  have e10 : R.2.2 10 = iU (τ.2.2 10) (τ.2.1 5 + 1).toNat (τ.2.1 4) := g6.2.1
  refine ⟨⟨g1, g2, g3, g4, by omega, fun j hj => ?_, h7.trans (kt_lvS.trans ⟨g6.1, fun i hi => g6.2.2.1 i (by omega)⟩)⟩, e5, e3, e4⟩
  rw [e10]
  unfold iU
  split
  · omega
  · have := h6 j (by omega)
    omega
theorem lp_seL (hG : gmV G) (hn : n ≤ 200) (hd : 4 ≤ d) (hq : 93 ≤ q) {R : MO} (kk : ∀ w', moA w' G R.2.1 R.2.2 → seF n τ0 R → ((0 < R.1 → R.1 = R.2.1 5) ∧ -3 ≤ R.1) → zF moS w w' → Q (oI R.1) w' cn sn) : ∀ (k : Nat) (τ : MO) (w' : zi_W) (x2 x3 x4 x5 : Option Value), n < τ.2.1 4 + k → τ.2.1 5 + 1 ≤ τ.2.1 4 → moA w' G τ.2.1 τ.2.2 → seF n τ0 τ → zF moS w w' → R = seL G n k τ → zw L xs d q 130 50 [some (.ref 817), some (iV n), x2, x3, x4, x5] [] w' cn sn Q := by
  intro k
  induction k with
  | zero =>
    intro τ w' x2 x3 x4 x5 h1 h51 hm hI hF he
    have := hI.2.1
    exfalso; omega
  | succ k ih =>
    intro τ w' x2 x3 x4 x5 h1 h51 hm hI hF he
    have he : R = if (lv G n τ).1 ≠ 0 then ((lv G n τ).2.1 5, (lv G n τ).2.1, (lv G n τ).2.2) else if (lv G n τ).2.1 6 ≠ 0 then (-2, (lv G n τ).2.1, (lv G n τ).2.2) else if (lv G n τ).2.1 4 = (lv G n τ).2.1 3 then (-3, (lv G n τ).2.1, (lv G n τ).2.2) else seL G n k (lv G n τ) := he
    have hI0 := hI
    obtain ⟨i1, i2, i3, i4, i5, i6, i7⟩ := hI
    have m0 := hm.1
    have a10 : zi_get w' 828 = some (.inl (0, 210, .inl (iA (τ.2.2 10)))) := hm.2.2.2.2.2.2.2.2.2.2.2.1
    have hb := i6 (τ.2.1 5).toNat (by omega)
    refine zw_aload_n z130_50 rfl ?_
    refine zw_getf z130_51 (by assumption) (by rfl) ?_
    refine zw_aload_n z130_54 rfl ?_
    refine zw_getf z130_55 (by assumption) (by rfl) ?_
    refine zj_ald z130_58 a10 (by omega) (by decide) ?_
    refine zw_istore_n z130_59 rfl ?_
    refine zw_aload_n z130_60 rfl ?_
    refine zw_dup z130_61 rfl ?_
    refine zw_getf z130_62 (by assumption) (by rfl) ?_
    refine zw_iconst z130_65 (v := iI 1) rfl ?_
    refine zj_add z130_66 ?_
    refine zj_putf z130_67 m0 (Nat.le_of_ble_eq_true rfl) (by rfl) (fun w1 n1 f1 => ?_)
    have b10 := (f1.2 828 (by omega)).trans a10
    refine zw_aload_n z130_70 rfl ?_
    refine zw_getf z130_71 (by assumption) (by rfl) ?_
    refine zw_aload_n z130_74 rfl ?_
    refine zw_getf z130_75 (by assumption) (by rfl) ?_
    refine zw_aload_n z130_78 rfl ?_
    refine zw_getf z130_79 (by assumption) (by rfl) ?_
    refine zj_astG z130_82 b10 (by omega) (by decide) (fun w2 n2 f2 => ?_)
    have m2 := (f2.2 817 (by omega)).trans n1
    refine zw_aload_n z130_83 rfl ?_
    refine zw_aload_n z130_84 rfl ?_
    refine zw_getf z130_85 (by assumption) (by rfl) ?_
    refine zj_putf z130_88 m2 (Nat.le_of_ble_eq_true rfl) (by rfl) (fun w3 n3 f3 => ?_)
    refine zw_aload_n z130_91 rfl ?_
    refine zw_iconst z130_92 (v := iI 0) rfl ?_
    refine zj_putf z130_93 n3 (Nat.le_of_ble_eq_true rfl) (zi_fitB (by omega)) (fun w4 n4 f4 => ?_)
    have hm1 := mo_put (N' := iU τ.2.1 5 (τ.2.1 5 + 1)) (G' := G) hm n1 f1
    have hm2 := mo_a10 hm1 n2 f2
    have hm4 := mo_put (N' := iU (iU (iU τ.2.1 5 (τ.2.1 5 + 1)) 3 (τ.2.1 4)) 6 0) (G' := G) hm2 n4 ⟨f4.1.trans f3.1, fun j hj => (f4.2 j hj).trans (f3.2 j hj)⟩
    have hm4 : moA w4 G (lvS τ).2.1 (lvS τ).2.2 := hm4
    have F4 := (((hF.step f1 (by omega)).step f2 (by omega)).step f3 (by omega)).step f4 (by omega)
    refine zw_iconst z130_96 (v := iI 0) rfl ?_
    refine zw_istore_n z130_97 rfl ?_
    refine zw_iload_n z130_98 rfl ?_
    refine zw_istore z130_99 rfl ?_
    have hx : τ.2.2 10 (τ.2.1 5).toNat = ((lvF τ : Nat) : Int) := by unfold lvF; omega
    rw [hx]
    have hs3 : (lvS τ).2.1 3 = τ.2.1 4 := rfl
    have hs4 : (lvS τ).2.1 4 = τ.2.1 4 := rfl
    refine lp_lvR (w := w) (τ0 := lvS τ) (fr := lvF τ) (R := lv G n τ) hG hn ⟨by rw [hs3, hs4], by rw [hs4]; omega⟩ hd hq (fun w5 x4 x5 hm5 hI5 f5 => ?_) ((τ.2.1 4).toNat - lvF τ) (lvF τ) (lvS τ) w4 _ (by rw [hs3]; omega) hm4 (lvS_I hn hI0) F4 rfl
    have hnx := hI0.next h51 hI5
    have hbit := hI5.2.2.2.2.1
    generalize lv G n τ = σ at *
    obtain ⟨hS, e5, e3, e4⟩ := hnx
    have m5 := hm5.1
    have hS0 := hS
    obtain ⟨q1, q2, q3, q4, q5, q6, q7⟩ := hS
    refine zw_iload_n z130_140 rfl ?_
    refine zj_if_eq z130_141 (by omega) (fun h6 => ?_) (fun h6 => ?_)
    rotate_left
    · rw [if_pos h6] at he
      subst he
      refine zw_aload_n z130_144 rfl ?_
      refine zw_getf z130_145 (by assumption) (by rfl) ?_
      exact zw_iret z130_148 rfl (kk w5 hm5 hS0 ⟨fun _ => rfl, by show -3 ≤ σ.2.1 5; omega⟩ f5)
    rw [if_neg (by omega)] at he
    have k167 : (σ.2.1 6 ≠ 0 ∨ σ.2.1 4 = σ.2.1 3) → zw L xs d q 130 167 [some (.ref 817), some (iV n), some (iV (lvF τ)), some (iV σ.1), x4, x5] [] w5 cn sn Q := by
      intro hor
      refine zw_aload_n z130_167 rfl ?_
      refine zw_getf z130_168 (by assumption) (by rfl) ?_
      refine zj_if_eq z130_171 (by omega) (fun h8 => ?_) (fun h8 => ?_)
      · rw [if_neg (by omega), if_pos (by omega)] at he
        subst he
        refine zw_bipush z130_179 (v := iI (-3)) (by decide +kernel) ?_
        exact zw_iret z130_181 rfl (kk w5 hm5 hS0 ⟨fun h => absurd h (by show ¬ (0 : Int) < -3; omega), by show (-3 : Int) ≤ -3; omega⟩ f5)
      · rw [if_pos h8] at he
        subst he
        refine zw_bipush z130_174 (v := iI (-2)) (by decide +kernel) ?_
        refine zw_goto z130_176 ?_
        exact zw_iret z130_181 rfl (kk w5 hm5 hS0 ⟨fun h => absurd h (by show ¬ (0 : Int) < -2; omega), by show (-3 : Int) ≤ -2; omega⟩ f5)
    refine zw_aload_n z130_149 rfl ?_
    refine zw_getf z130_150 (by assumption) (by rfl) ?_
    refine zj_if_ne z130_153 (by omega) (fun h7 => ?_) (fun h7 => ?_)
    · exact k167 (Or.inl h7)
    refine zw_aload_n z130_156 rfl ?_
    refine zw_getf z130_157 (by assumption) (by rfl) ?_
    refine zw_aload_n z130_160 rfl ?_
    refine zw_getf z130_161 (by assumption) (by rfl) ?_
    refine zj_icmp_ne z130_164 (by omega) (by omega) (fun h9 => ?_) (fun h9 => ?_)
    rotate_left
    · exact k167 (Or.inr (by omega))
    rw [if_neg (by omega), if_neg h9] at he
    refine zw_goto z130_182 ?_
    exact ih σ w5 _ _ _ _ (by omega) (by omega) hm5 hS0 f5 he
end ZNB
