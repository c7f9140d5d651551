/-! The class Search: seek. (Laid out by gen/tpl.py from tpl/53.seek.tpl.) -/
/-- all positions found keep J -/
def alJ (J : (Nat → Nat → Int) → Prop) (σ : SS) : Prop := ∀ j : Nat, (j : Int) < σ.1 1 → J (σ.2.2 j)
/-- J is kept by a move that the rules allow -/
def stJ (G : Nat → Int) (J : (Nat → Nat → Int) → Prop) : Prop := ∀ (Y X : Nat → Nat → Int) (z y : Int), J Y → lyW Y → 0 ≤ z ∧ z < 12 → 0 ≤ y ∧ y ≤ 12 → lOne G (Y 1) (Y 2) z y → J (cY G (yCp Y X) (Y 1 z.toNat) z y)
section ZSJ
variable {G : Nat → Int} {J : (Nat → Nat → Int) → Prop} {σ : SS} {n : Nat} {z y : Int}
theorem rc_J (h2 : stJ G J) (hV : seU σ) (hn : (n : Int) < σ.1 1) (hz : 0 ≤ z ∧ z < 12) (hy : 0 ≤ y ∧ y ≤ 12) (ho : lOne G (σ.2.2 n 1) (σ.2.2 n 2) z y) (hA : alJ J σ) : alJ J (rc G σ n z y) := by
  obtain ⟨N, A, F⟩ := σ
  have hV0 := hV
  obtain ⟨v0, v1, v2, v3, v4, v5, v6, v7, v8⟩ := hV
  dsimp only at v0 v1 v2 v3 v4 v5 v6 v7 v8 hn ho
  by_cases h1 : y = 12 ∧ F n 3 1 + 1 = gAll G
  · rw [rc_1 h1]; exact hA
  by_cases h2 : N 2 = 1
  · rw [rc_2 h1 h2]; exact hA
  by_cases h3 : A 2 (rSl G A F n z y).toNat ≠ 0
  · rw [rc_3 h1 h2 h3]; exact hA
  by_cases h4 : N 0 ≤ N 1
  · rw [rc_4 h1 h2 h3 h4]; exact hA
  rw [rc_5 h1 h2 h3 h4]
  intro j hj
  have hj : (j : Int) < N 1 + 1 := hj
  show J (fU F (N 1).toNat (cY G (yCp (F n) (F (N 1).toNat)) (rCd F n z) z y) j)
  by_cases hjm : j = (N 1).toNat
  · rw [hjm, fU_same]
    exact ‹stJ G J› (F n) (F (N 1).toNat) z y (hA n hn) (v8 n) hz hy ho
  · rw [fU_ne _ _ hjm]
    exact hA j (by show (j : Int) < N 1; omega)
theorem exO_J {σ0 : SS} (hJ : stJ G J) (hI : exI G n σ0 σ) (hz : 0 ≤ z ∧ z < 12) (hy : 0 ≤ y ∧ y ≤ 12) (hA : alJ J σ) : alJ J (exO G n z y σ) := by
  unfold exO
  split
  · rename_i h
    exact rc_J hJ hI.1 hI.2.1 hz hy h hA
  · exact hA
theorem exT_J {σ0 : SS} (hG : gmV G) (hJ : stJ G J) (hz : 0 ≤ z ∧ z < 12) : ∀ (k : Nat) (y : Int) (σ : SS), exI G n σ0 σ → 0 ≤ y → y + k ≤ 13 → alJ J σ → alJ J (exT G n z k y σ) := by
  intro k
  induction k with
  | zero => intro y σ h _ _ hA; exact hA
  | succ k ih => intro y σ h h1 h2 hA; exact ih _ _ (h.one hG hz (by omega)) (by omega) (by omega) (exO_J hJ h hz (by omega) hA)
theorem exF_J {σ0 : SS} (hG : gmV G) (hJ : stJ G J) : ∀ (k : Nat) (z : Int) (σ : SS), exI G n σ0 σ → 0 ≤ z → z + k ≤ 12 → alJ J σ → alJ J (exF G n k z σ) := by
  intro k
  induction k with
  | zero => intro z σ h _ _ hA; exact hA
  | succ k ih => intro z σ h h1 h2 hA; exact ih _ _ (exI.all (z := z) hG (by omega) 13 0 σ h (by omega) (by omega)) (by omega) (by omega) (exT_J hG hJ (by omega) 13 0 σ h (by omega) (by omega) hA)
/-- the positions of one level, in order, till a way to the end is found -/
def skN (G : Nat → Int) : Nat → Nat → SS → SS
  | 0, _, σ => σ
  | k + 1, n, σ => if σ.1 3 = -1 then skN G k (n + 1) (exF G n 12 0 σ) else σ
def skP (σ : SS) : SS := (iU σ.1 4 (σ.1 1), σ.2.1, σ.2.2)
abbrev skM (G : Nat → Int) (f : Nat) (σ : SS) : SS := skN G ((σ.1 1).toNat - f) f (skP σ)
def skL (G : Nat → Int) : Nat → Nat → Int → SS → Int × SS
  | 0, _, _, σ => (-2, σ)
  | k + 1, f, l, σ => if (skM G f σ).1 3 ≠ -1 then (l, skM G f σ) else if (skM G f σ).1 2 = 1 then (-2, skM G f σ) else if (skM G f σ).1 1 = (skM G f σ).1 4 then (-3, skM G f σ) else skL G k ((skM G f σ).1 4).toNat (l + 1) (skM G f σ)
/-- seek: the answer and the state it leaves -/
def sk (G : Nat → Int) (σ : SS) (Y : Nat → Nat → Int) (u : Int) : Int × SS := if Y 3 1 = gAll G then (0, bg G σ Y u) else skL G 200 0 1 (bg G σ Y u)
end ZSJ
section ZSQ
variable {L : Nat} {xs : Nat → Int32} {d q : Nat} {w : zi_W} {cn sn : Nat} {Q : zi_O → zi_W → Nat → Nat → Prop} {G : Nat → Int} {J : (Nat → Nat → Int) → Prop} {Y : Nat → Nat → Int} {u : Int}
abbrev skW (L : Nat) (xs : Nat → Int32) (d q pc : Nat) (w : zi_W) (cn sn : Nat) (Q : zi_O → zi_W → Nat → Nat → Prop) (u f l : Int) (x5 : Option Value) : Prop := zw L xs d q 68 pc [some (.ref 11), some (.ref 2), some (iV u), some (iV f), some (iV l), x5] [] w cn sn Q
/-- what holds in the loops of seek -/
def skI (J : (Nat → Nat → Int) → Prop) (σ : SS) : Prop := seU σ ∧ alJ J σ ∧ σ.1 4 ≤ σ.1 1
theorem skI.exp {n : Nat} {σ : SS} (hG : gmV G) (h1 : ∀ Y, J Y → lyW Y → okL G Y) (h2 : stJ G J) (h : skI J σ) (hn : (n : Int) < σ.1 1) : skI J (exF G n 12 0 σ) ∧ (exF G n 12 0 σ).1 4 = σ.1 4 := by
  obtain ⟨a1, a2, a3⟩ := h
  have hI := exI.rf a1 hn (h1 _ (a2 n hn) (a1.2.2.2.2.2.2.2.2 n))
  obtain ⟨b1, b2, b3, b4, b5, b6, b7⟩ := exI.every hG 12 0 σ hI (by omega) (by omega)
  exact ⟨⟨b1, exF_J hG h2 12 0 σ hI (by omega) (by omega) a2, by omega⟩, b5⟩
theorem lp_skN {l f : Int} (hG : gmV G) (h1 : ∀ Y, J Y → lyW Y → okL G Y) (h2 : stJ G J) (hd : 5 ≤ d) (hq : 127 ≤ q) {σf : SS} (kk : ∀ (w' : zi_W) (x5 : Option Value), gmA w' 1 G → seT w' σf → skI J σf → zF seS w w' → skW L xs d q 68 w' cn sn Q u f l x5) : ∀ (k : Nat) (n : Nat) (σ : SS) (w' : zi_W), (n : Int) + k = σ.1 4 → gmA w' 1 G → seT w' σ → skI J σ → zF seS w w' → σf = skN G k n σ → skW L xs d q 39 w' cn sn Q u f l (some (iV n)) := by
  obtain ⟨d, rfl⟩ : ∃ e, d = e + 1 := ⟨d - 1, by omega⟩
  intro k
  induction k with
  | zero =>
    intro n σ w' hk hg hs hI hF he
    have s0 := hs.1.1
    have v4 := hI.1.2.2.2.2.1
    have v3 := hI.1.2.2.2.1
    refine zw_iload z68_39 rfl ?_
    refine zw_aload_n z68_41 rfl ?_
    refine zw_getf z68_42 (by assumption) (by rfl) ?_
    refine zj_icmp_ge z68_45 (by omega) (by omega) (fun h45 => ?_) (fun h45 => ?_)
    · have he : σf = σ := he
      subst he
      exact kk w' _ hg hs hI hF
    · exfalso; omega
  | succ k ih =>
    intro n σ w' hk hg hs hI hF he
    have s0 := hs.1.1
    have v4 := hI.1.2.2.2.2.1
    have v3 := hI.1.2.2.2.1
    have v1 := hI.1.2.1
    have v0 := hI.1.1
    have w4 := hI.2.2
    refine zw_iload z68_39 rfl ?_
    refine zw_aload_n z68_41 rfl ?_
    refine zw_getf z68_42 (by assumption) (by rfl) ?_
    refine zj_icmp_ge z68_45 (by omega) (by omega) (fun h45 => ?_) (fun h45 => ?_)
    · exfalso; omega
    refine zw_aload_n z68_48 rfl ?_
    refine zw_getf z68_49 (by assumption) (by rfl) ?_
    refine zw_iconst z68_52 (v := iI (-1)) rfl ?_
    refine zj_icmp_ne z68_53 (by omega) (by omega) (fun h53 => ?_) (fun h53 => ?_)
    · have he : σf = σ := he.trans (if_neg (by omega))
      subst he
      exact kk w' _ hg hs hI hF
    have he : σf = skN G k (n + 1) (exF G n 12 0 σ) := he.trans (if_pos (by omega))
    have hn : (n : Int) < σ.1 1 := by omega
    refine zw_aload_n z68_56 rfl ?_
    refine zw_iload z68_57 rfl ?_
    refine zw_cv (n := 5) z68_59 rfl rfl s0 (Nat.le_of_ble_eq_true rfl) (by omega) (sp_expand hg hG hs hI.1 hn (h1 _ (hI.2.1 n hn) (hI.1.2.2.2.2.2.2.2.2 n)) (by omega) (by omega)) (fun v w1 cn1 sn1 h => ?_)
    obtain ⟨rfl, rfl, rfl, g1, g2, g3, g4⟩ := h
    refine zj_iinc z68_62 rfl rfl ?_
    refine zw_goto z68_65 ?_
    have hx := hI.exp hG h1 h2 hn
    have := ih (n + 1) (exF G n 12 0 σ) w1 (by rw [hx.2]; omega) g1 g2 hx.1 (hF.trans g4) he
    rwa [show ((n + 1 : Nat) : Int) = (n : Int) + 1 by omega] at this
theorem skI_N (hG : gmV G) (h1 : ∀ Y, J Y → lyW Y → okL G Y) (h2 : stJ G J) : ∀ (k n : Nat) (σ : SS), skI J σ → (n : Int) + k = σ.1 4 → skI J (skN G k n σ) ∧ (skN G k n σ).1 4 = σ.1 4 := by
  intro k
  induction k with
  | zero => intro n σ h _; exact ⟨h, rfl⟩
  | succ k ih =>
    intro n σ h hk
    by_cases h3 : σ.1 3 = -1
    · rw [show skN G (k + 1) n σ = skN G k (n + 1) (exF G n 12 0 σ) from if_pos h3]
      have w4 := h.2.2
      have hx := h.exp (n := n) hG h1 h2 (by omega)
      have := ih (n + 1) _ hx.1 (by rw [hx.2]; omega)
      exact ⟨this.1, this.2.trans hx.2⟩
    · rw [show skN G (k + 1) n σ = σ from if_neg h3]; exact ⟨h, rfl⟩
theorem skI_P {σ : SS} (h : skI J σ) : skI J (skP σ) := by
  obtain ⟨⟨v0, v1, v2, v3, v4, v5⟩, a2, a3⟩ := h
  exact ⟨⟨v0, v1, v2, v3, by show 0 ≤ σ.1 1 ∧ σ.1 1 ≤ 200; omega, v5⟩, a2, Int.le_refl _⟩
theorem skI_M {σ : SS} {f : Nat} (hG : gmV G) (h1 : ∀ Y, J Y → lyW Y → okL G Y) (h2 : stJ G J) (h : skI J σ) (hf : (f : Int) ≤ σ.1 1) : skI J (skM G f σ) ∧ (skM G f σ).1 4 = σ.1 1 := by
  have v1 := h.1.2.1
  have := skI_N hG h1 h2 ((σ.1 1).toNat - f) f (skP σ) (skI_P h) (by show (f : Int) + _ = σ.1 1; omega)
  exact this
theorem lp_skL (hG : gmV G) (h1 : ∀ Y, J Y → lyW Y → okL G Y) (h2 : stJ G J) (hd : 5 ≤ d) (hq : 127 ≤ q) {R : Int × SS} (kk : ∀ (w' : zi_W), gmA w' 1 G → seT w' R.2 → skI J R.2 → zF seS w w' → Q (.inl (some (iV R.1))) w' cn sn) : ∀ (k f : Nat) (l : Int) (σ : SS) (w' : zi_W) (x5 : Option Value), l + k = 201 → 1 ≤ l → (f : Int) ≤ σ.1 1 → gmA w' 1 G → seT w' σ → skI J σ → zF seS w w' → R = skL G k f l σ → skW L xs d q 20 w' cn sn Q u f l x5 := by
  intro k
  induction k with
  | zero =>
    intro f l σ w' x5 hk hl hf hg hs hI hF he
    refine zw_iload z68_20 rfl ?_
    refine zw_sipush z68_22 (v := iI (200)) (by decide +kernel) ?_
    refine zj_icmp_gt z68_25 (by omega) (by omega) (fun h25 => ?_) (fun h25 => ?_)
    · refine zw_bipush z68_114 (v := iI (-2)) (by decide +kernel) ?_
      refine zw_iret z68_116 rfl ?_
      have he : R = (-2, σ) := he
      subst he
      exact kk w' hg hs hI hF
    · exfalso; omega
  | succ k ih =>
    intro f l σ w' x5 hk hl hf hg hs hI hF he
    have s0 := hs.1.1
    have v1 := hI.1.2.1
    have v0 := hI.1.1
    refine zw_iload z68_20 rfl ?_
    refine zw_sipush z68_22 (v := iI (200)) (by decide +kernel) ?_
    refine zj_icmp_gt z68_25 (by omega) (by omega) (fun h25 => ?_) (fun h25 => ?_)
    · exfalso; omega
    refine zw_aload_n z68_28 rfl ?_
    refine zw_aload_n z68_29 rfl ?_
    refine zw_getf z68_30 (by assumption) (by rfl) ?_
    refine zj_putf z68_33 s0 (Nat.le_of_ble_eq_true rfl) (by rfl) (fun w1 s1 f1 => ?_)
    refine zw_iload_n z68_36 rfl ?_
    refine zw_istore z68_37 rfl ?_
    have hs1 : seT w1 (skP σ) := ⟨⟨s1, (f1.2 12 (by omega)).trans hs.1.2.1, (f1.2 13 (by omega)).trans hs.1.2.2.1, (f1.2 14 (by omega)).trans hs.1.2.2.2.1, (f1.2 15 (by omega)).trans hs.1.2.2.2.2⟩, seA.found (fun j hj => f1.2 j (by omega)) hs.2⟩
    have hg1 : gmA w1 1 G := (f1.2 1 (by omega)).trans hg
    have hM := skI_M (f := f) hG h1 h2 hI hf
    refine lp_skN (σf := skM G f σ) (w := w) hG h1 h2 hd hq (fun w2 x5 g1 g2 g3 g4 => ?_) ((σ.1 1).toNat - f) f (skP σ) w1 (by show (f : Int) + _ = σ.1 1; omega) hg1 hs1 (skI_P hI) (hF.step f1 (by omega)) rfl
    have he : R = if (skM G f σ).1 3 ≠ -1 then (l, skM G f σ) else if (skM G f σ).1 2 = 1 then (-2, skM G f σ) else if (skM G f σ).1 1 = (skM G f σ).1 4 then (-3, skM G f σ) else skL G k ((skM G f σ).1 4).toNat (l + 1) (skM G f σ) := he
    have hM2 := hM.2
    generalize skM G f σ = τ at *
    have t0 := g2.1.1
    have t1 := g3.1.1
    have t2 := g3.1.2.1
    have t3 := g3.1.2.2.1
    have t4 := g3.1.2.2.2.1
    have t5 := g3.2.2
    refine zw_aload_n z68_68 rfl ?_
    refine zw_getf z68_69 (by assumption) (by rfl) ?_
    refine zw_iconst z68_72 (v := iI (-1)) rfl ?_
    refine zj_icmp_eq z68_73 (by omega) (by omega) (fun h73 => ?_) (fun h73 => ?_)
    rotate_left
    · refine zw_iload z68_76 rfl ?_
      refine zw_iret z68_78 rfl ?_
      rw [if_pos (by omega)] at he
      subst he
      exact kk w2 g1 g2 g3 g4
    rw [if_neg (by omega)] at he
    refine zw_aload_n z68_79 rfl ?_
    refine zw_getf z68_80 (by assumption) (by rfl) ?_
    refine zj_if_eq z68_83 (by omega) (fun h83 => ?_) (fun h83 => ?_)
    rotate_left
    · refine zw_bipush z68_86 (v := iI (-2)) (by decide +kernel) ?_
      refine zw_iret z68_88 rfl ?_
      rw [if_pos (by omega)] at he
      subst he
      exact kk w2 g1 g2 g3 g4
    rw [if_neg (by omega)] at he
    refine zw_aload_n z68_89 rfl ?_
    refine zw_getf z68_90 (by assumption) (by rfl) ?_
    refine zw_aload_n z68_93 rfl ?_
    refine zw_getf z68_94 (by assumption) (by rfl) ?_
    refine zj_icmp_ne z68_97 (by omega) (by omega) (fun h97 => ?_) (fun h97 => ?_)
    rotate_left
    · refine zw_bipush z68_100 (v := iI (-3)) (by decide +kernel) ?_
      refine zw_iret z68_102 rfl ?_
      rw [if_pos (by omega)] at he
      subst he
      exact kk w2 g1 g2 g3 g4
    rw [if_neg (by omega)] at he
    refine zw_aload_n z68_103 rfl ?_
    refine zw_getf z68_104 (by assumption) (by rfl) ?_
    refine zw_istore_n z68_107 rfl ?_
    refine zj_iinc z68_108 rfl rfl ?_
    refine zw_goto z68_111 ?_
    have := ih (τ.1 4).toNat (l + 1) τ w2 x5 (by omega) (by omega) (by omega) g1 g2 g3 g4 he
    rwa [show (((τ.1 4).toNat : Nat) : Int) = τ.1 4 by omega] at this
theorem sp_seek {σ : SS} (hg : gmA w 1 G) (hG : gmV G) (hs : seT w σ) (hV : seV0 σ.2.1 σ.2.2) (hY : lyY w 2 Y) (hYV : lyW Y) (hu : 1 ≤ u ∧ u ≤ 200) (h1 : ∀ Y, J Y → lyW Y → okL G Y) (h2 : stJ G J) (h3 : J (yCp Y (σ.2.2 0))) (hd : 5 ≤ d) (hq : 127 ≤ q) : zr L xs d q 68 [.ref 11, .ref 2, iV u] w cn sn (fun r w' cn' sn' => r = some (iV (sk G σ Y u).1) ∧ cn' = cn ∧ sn' = sn ∧ gmA w' 1 G ∧ seT w' (sk G σ Y u).2 ∧ skI J (sk G σ Y u).2 ∧ lyY w' 2 Y ∧ zF seS w w') := by
  obtain ⟨d, rfl⟩ : ∃ e, d = e + 1 := ⟨d - 1, by omega⟩
  have s0 := hs.1.1
  refine ⟨_, rfl, ?_⟩
  show zw _ _ _ _ 68 0 [some (.ref 11), some (.ref 2), some (iV u), none, none, none] [] _ _ _ _
  refine zw_aload_n z68_0 rfl ?_
  refine zw_aload_n z68_1 rfl ?_
  refine zw_iload_n z68_2 rfl ?_
  refine zw_cv (n := 3) z68_3 rfl rfl s0 (Nat.le_of_ble_eq_true rfl) (by omega) (sp_begin hg hG hs hV hY hYV (by omega) (by omega)) (fun v w1 cn1 sn1 h => ?_)
  obtain ⟨rfl, rfl, rfl, g1, g2, g3, g4⟩ := h
  have y0 := g3.1
  have hI : skI J (bg G σ Y u) := ⟨bg_V hV hYV hu, fun j hj => by
    have hj : (j : Int) < 1 := hj
    obtain rfl : j = 0 := by omega
    show J (fU σ.2.2 0 (yCp Y (σ.2.2 0)) 0)
    rw [fU_same]
    exact h3, by show (0 : Int) ≤ 1; omega⟩
  refine zw_aload_n z68_6 rfl ?_
  refine zw_vv (n := 1) z68_7 rfl rfl (by assumption) (Nat.le_of_ble_eq_true rfl) (by omega) (sp_isAllHome g1 hG g3 hYV (by omega) (by omega)) ?_
  refine zj_b_eq z68_10 (fun h10 => ?_) (fun h10 => ?_)
  · refine zw_iconst z68_15 (v := iI 0) rfl ?_
    refine zw_istore_n z68_16 rfl ?_
    refine zw_iconst z68_17 (v := iI 1) rfl ?_
    refine zw_istore z68_18 rfl ?_
    have he : sk G σ Y u = skL G 200 0 1 (bg G σ Y u) := if_neg h10
    rw [he]
    refine lp_skL (f := 0) (w := w) hG h1 h2 hd hq (R := skL G 200 0 1 (bg G σ Y u)) (fun w2 k1 k2 k3 k4 => ⟨_, rfl, rfl, rfl, rfl, k1, k2, k3, hY.keep fun i h1 h2 => k4.2 i (by omega), k4⟩) 200 1 (bg G σ Y u) w1 none (by omega) (by omega) (by show (0 : Int) ≤ 1; omega) g1 g2 hI g4 rfl
  · refine zw_iconst z68_13 (v := iI 0) rfl ?_
    refine zw_iret z68_14 rfl ⟨_, rfl, ?_⟩
    rw [show sk G σ Y u = (0, bg G σ Y u) from if_pos h10]
    exact ⟨rfl, rfl, rfl, g1, g2, hI, g3, g4⟩
end ZSQ
