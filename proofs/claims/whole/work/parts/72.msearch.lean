/-! The reference's search: firstMove. (Laid out by gen/tpl.py from tpl/72.msearch.tpl.) -/
section ZMY
variable {L : Nat} {xs : Nat → Int32} {d q : Nat} {w w' : zi_W} {cn sn : Nat} {Q : zi_O → zi_W → Nat → Nat → Prop} {G N : Nat → Int} {A : Nat → Nat → Int} {z y m c o a b e k u n l : Int} {r ct : Nat} {τ τ0 τ1 : MO}
/-- what firstMove leaves as it was -/
def kq (τ0 τ : MO) : Prop := (∀ i, i ≤ 6 → τ.2.2 i = τ0.2.2 i) ∧ τ.2.2 10 = τ0.2.2 10 ∧ (∀ i, i ≤ 5 → τ.2.1 i = τ0.2.1 i)
theorem kq.rf : kq τ τ := ⟨fun _ _ => rfl, rfl, fun _ _ => rfl⟩
theorem kq.trans (h : kq τ0 τ) (g : kq τ τ1) : kq τ0 τ1 := ⟨fun i hi => (g.1 i hi).trans (h.1 i hi), g.2.1.trans h.2.1, fun i hi => (g.2.2 i hi).trans (h.2.2 i hi)⟩
theorem kp.kq (h : kp τ0 τ) : kq τ0 τ := ⟨h.1, h.2.1, h.2.2.2⟩
def fmI (n : Int) (τ0 τ : MO) : Prop := msV τ.2.1 τ.2.2 ∧ (1 ≤ τ.2.1 4 ∧ τ.2.1 4 ≤ n) ∧ (τ.2.1 6 = 0 ∨ τ.2.1 6 = 1) ∧ (τ.2.1 7 = 0 ∨ τ.2.1 7 = 1) ∧ kq τ0 τ
def gdS (G : Nat → Int) (l : Int) (r : Nat) (τ : MO) : MO := (τ.1, (ig G r l τ.2.1 τ.2.2).2.1, fU (ig G r l τ.2.1 τ.2.2).2.2 9 (iU ((ig G r l τ.2.1 τ.2.2).2.2 9) r (ig G r l τ.2.1 τ.2.2).1))
def gdR (G : Nat → Int) (l : Int) : Nat → Nat → MO → MO
  | 0, _, τ => τ
  | j + 1, r, τ => gdR G l j (r + 1) (gdS G l r τ)
abbrev gdN (τ : MO) (l : Nat) : Nat := (τ.2.2 10 (l + 1)).toNat - (τ.2.2 10 l).toNat
def gdL (G : Nat → Int) : Nat → MO → MO
  | 0, τ => τ
  | l + 1, τ => gdL G l (gdR G ((l : Int) + 1) (gdN τ (l + 1)) (τ.2.2 10 (l + 1)).toNat τ)
theorem fmI.one {x0 : Int} (h : fmI n τ0 τ) (hr : (r : Int) < τ.2.1 4) (g : igI r n (x0, τ.2.1, τ.2.2) (ig G r l τ.2.1 τ.2.2)) : fmI n τ0 (gdS G l r τ) := by
  unfold gdS
  obtain ⟨h1, h2, h3, h4, h5⟩ := h
  generalize ig G r l τ.2.1 τ.2.2 = σ at g ⊢
  obtain ⟨⟨⟨s7, s8, s9, s10, s11, s12, t8, t9⟩, g2, g3, g4, g5⟩, gk⟩ := g
  have hk : kq τ0 (τ.1, σ.2.1, fU σ.2.2 9 (iU (σ.2.2 9) r σ.1)) := by
    refine h5.trans ⟨fun i hi => ?_, gk.2.1, gk.2.2.2⟩
    show fU σ.2.2 9 _ i = τ.2.2 i
    rw [fU_ne _ _ (by omega)]
    exact gk.1 i hi
  exact ⟨⟨s7, s8, iU_rng s9 (by omega), s10, s11, s12, t8, t9⟩, ⟨by have := gk.2.2.2 4 (by omega); show 1 ≤ σ.2.1 4; omega, g2.2⟩, g3, g5, hk⟩
abbrev fmW (L : Nat) (xs : Nat → Int32) (d q pc : Nat) (w : zi_W) (cn sn : Nat) (Q : zi_O → zi_W → Nat → Nat → Prop) (x1 : Int) (x2 : Option Value) : Prop := zw L xs d q 129 pc [some (.ref 817), some (iV x1), x2, none, none] [] w cn sn Q
theorem lp_gdR {l : Nat} {e1 : Int} (hG : gmV G) (hn : n ≤ 200) (hl : 1 ≤ l ∧ (l : Int) < τ0.2.1 5) (h5 : τ0.2.1 5 ≤ 205) (hB : ∀ j : Nat, (j : Int) ≤ τ0.2.1 5 → 0 ≤ τ0.2.2 10 j ∧ τ0.2.2 10 j ≤ τ0.2.1 4) (hd : 5 ≤ d) (hq : 118 ≤ q) {R : MO} (kk : ∀ w' x2, moA w' G R.2.1 R.2.2 → fmI n τ0 R → zF moS w w' → fmW L xs d q 48 w' cn sn Q l x2) : ∀ (j r : Nat) (τ : MO) (w' : zi_W), ((j : Int) = (τ0.2.2 10 (l + 1)).toNat - r ∨ (j = 0 ∧ τ0.2.2 10 (l + 1) ≤ r)) ∧ r ≤ 205 → moA w' G τ.2.1 τ.2.2 → fmI n τ0 τ → zF moS w w' → R = gdR G l j r τ → fmW L xs d q 18 w' cn sn Q l (some (iV r)) := by
  obtain ⟨d, rfl⟩ : ∃ e, d = e + 1 := ⟨d - 1, by omega⟩
  intro j
  induction j with
  | zero =>
    intro r τ w' h1 hm hI hF he
    have m0 := hm.1
    have hb := hB (l + 1) (by omega)
    have e10 : τ.2.2 10 = τ0.2.2 10 := hI.2.2.2.2.2.1
    have a10 : zi_get w' 828 = some (.inl (0, 210, .inl (iA (τ0.2.2 10)))) := e10 ▸ hm.2.2.2.2.2.2.2.2.2.2.2.1
    have b10 := hI.1.2.2.2.1 (l + 1)
    rw [e10] at b10
    refine zw_iload_n z129_18 rfl ?_
    refine zw_aload_n z129_19 rfl ?_
    refine zw_getf z129_20 (by assumption) (by rfl) ?_
    refine zw_iload_n z129_23 rfl ?_
    refine zw_iconst z129_24 (v := iI 1) rfl ?_
    refine zj_add z129_25 ?_
    refine zj_ald z129_26 a10 (by omega) (by decide) ?_
    rw [show ((l : Int) + 1).toNat = l + 1 by omega]
    have hbr := b10
    refine zj_icmp_ge z129_27 (by omega) (by omega) (fun h6 => ?_) (fun h6 => ?_)
    · have he : R = τ := he
      subst he
      exact kk w' _ hm hI hF
    · exfalso; omega
  | succ j ih =>
    intro r τ w' h1 hm hI hF he
    have m0 := hm.1
    have hb := hB (l + 1) (by omega)
    have b10 := hI.1.2.2.2.1 (l + 1)
    have e10 : τ.2.2 10 = τ0.2.2 10 := hI.2.2.2.2.2.1
    rw [e10] at b10
    have e4 : τ.2.1 4 = τ0.2.1 4 := hI.2.2.2.2.2.2 4 (by omega)
    have e5 : τ.2.1 5 = τ0.2.1 5 := hI.2.2.2.2.2.2 5 (by omega)
    have a10 : zi_get w' 828 = some (.inl (0, 210, .inl (iA (τ0.2.2 10)))) := e10 ▸ hm.2.2.2.2.2.2.2.2.2.2.2.1
    have hI0 := hI
    obtain ⟨i1, i2, i3, i4, i5⟩ := hI
    refine zw_iload_n z129_18 rfl ?_
    refine zw_aload_n z129_19 rfl ?_
    refine zw_getf z129_20 (by assumption) (by rfl) ?_
    refine zw_iload_n z129_23 rfl ?_
    refine zw_iconst z129_24 (v := iI 1) rfl ?_
    refine zj_add z129_25 ?_
    refine zj_ald z129_26 a10 (by omega) (by decide) ?_
    rw [show ((l : Int) + 1).toNat = l + 1 by omega]
    refine zj_icmp_ge z129_27 (by omega) (by omega) (fun h6 => ?_) (fun h6 => ?_)
    · exfalso; omega
    refine zw_aload_n z129_30 rfl ?_
    refine zw_getf z129_31 (by assumption) (by rfl) ?_
    refine zw_iload_n z129_34 rfl ?_
    refine zw_aload_n z129_35 rfl ?_
    refine zw_iload_n z129_36 rfl ?_
    refine zw_iload_n z129_37 rfl ?_
    refine zw_cv (n := 6) z129_38 rfl rfl m0 (Nat.le_of_ble_eq_true rfl) (by omega) (sp_mIsGood (x0 := 0) (n := n) hm hG hn i1 (by omega) i3 i4 (by omega) (by omega) (by omega) (by omega)) (fun v w1 cn1 sn1 h => ?_)
    obtain ⟨⟨rfl, rfl, rfl, hm1, f1⟩, hg⟩ := h
    have hI1 := hI0.one (by omega) hg
    have he : R = gdR G l j (r + 1) (gdS G l r τ) := he
    have es : gdS G l r τ = (τ.1, (ig G r l τ.2.1 τ.2.2).2.1, fU (ig G r l τ.2.1 τ.2.2).2.2 9 (iU ((ig G r l τ.2.1 τ.2.2).2.2 9) r (ig G r l τ.2.1 τ.2.2).1)) := rfl
    rw [es] at hI1 he
    have hgb := hg.1.2.2.2.1
    generalize ig G r l τ.2.1 τ.2.2 = σ at *
    have a9 : zi_get w1 827 = some (.inl (1, 202, .inl (iA (σ.2.2 9)))) := hm1.2.2.2.2.2.2.2.2.2.2.1
    refine zj_bstG z129_41 a9 (by omega) (by decide) hgb (fun w2 n2 f2 => ?_)
    have hm2 := mo_a9 hm1 n2 f2
    rw [show (r : Int).toNat = r by omega] at hm2
    refine zj_iinc z129_42 rfl rfl ?_
    refine zw_goto z129_45 ?_
    have := ih (r + 1) _ w2 (by omega) hm2 hI1 ((hF.trans f1).step f2 (by omega)) he
    rwa [show ((r + 1 : Nat) : Int) = (r : Int) + 1 by omega] at this
theorem lp_gdL (hG : gmV G) (hn : n ≤ 200) (h5 : τ0.2.1 5 ≤ 205) (hB : ∀ j : Nat, (j : Int) ≤ τ0.2.1 5 → 0 ≤ τ0.2.2 10 j ∧ τ0.2.2 10 j ≤ τ0.2.1 4) (hd : 5 ≤ d) (hq : 118 ≤ q) {R : MO} (kk : ∀ w' x2, moA w' G R.2.1 R.2.2 → fmI n τ0 R → zF moS w w' → fmW L xs d q 54 w' cn sn Q 0 x2) : ∀ (l : Nat) (τ : MO) (w' : zi_W) (x2 : Option Value), (l : Int) < τ0.2.1 5 → moA w' G τ.2.1 τ.2.2 → fmI n τ0 τ → zF moS w w' → R = gdL G l τ → fmW L xs d q 7 w' cn sn Q l x2 := by
  intro l
  induction l with
  | zero =>
    intro τ w' x2 h1 hm hI hF he
    refine zw_iload_n z129_7 rfl ?_
    refine zj_if_le z129_8 (by omega) (fun h6 => ?_) (fun h6 => ?_)
    · have he : R = τ := he
      subst he
      exact kk w' _ hm hI hF
    · exfalso; omega
  | succ l ih =>
    intro τ w' x2 h1 hm hI hF he
    have m0 := hm.1
    have he : R = gdL G l (gdR G ((l : Int) + 1) (gdN τ (l + 1)) (τ.2.2 10 (l + 1)).toNat τ) := he
    have e10 : τ.2.2 10 = τ0.2.2 10 := hI.2.2.2.2.2.1
    have a10 : zi_get w' 828 = some (.inl (0, 210, .inl (iA (τ.2.2 10)))) := hm.2.2.2.2.2.2.2.2.2.2.2.1
    have hb := hB (l + 1) (by omega)
    have hb2 := hB (l + 1 + 1) (by omega)
    refine zw_iload_n z129_7 rfl ?_
    refine zj_if_le z129_8 (by omega) (fun h6 => ?_) (fun h6 => ?_)
    · exfalso; omega
    refine zw_aload_n z129_11 rfl ?_
    refine zw_getf z129_12 (by assumption) (by rfl) ?_
    refine zw_iload_n z129_15 rfl ?_
    refine zj_ald z129_16 a10 (by omega) (by decide) ?_
    rw [show (((l + 1 : Nat) : Nat) : Int).toNat = l + 1 by omega]
    refine zw_istore_n z129_17 rfl ?_
    have hx : τ.2.2 10 (l + 1) = (((τ.2.2 10 (l + 1)).toNat : Nat) : Int) := by rw [e10]; omega
    rw [hx]
    refine lp_gdR (w := w) (τ0 := τ0) (l := l + 1) (e1 := 0) (R := gdR G ((l : Int) + 1) (gdN τ (l + 1)) (τ.2.2 10 (l + 1)).toNat τ) hG hn (by omega) h5 hB hd hq (fun w1 x2 hm1 hI1 f1 => ?_) (gdN τ (l + 1)) (τ.2.2 10 (l + 1)).toNat τ w' ?_ hm hI hF (by rw [show (((l + 1 : Nat) : Nat) : Int) = (l : Int) + 1 by omega])
    · refine zj_iinc z129_48 rfl rfl ?_
      refine zw_goto z129_51 ?_
      have := ih _ w1 x2 (by omega) hm1 hI1 f1 he
      rwa [show (l : Int) = ((l + 1 : Nat) : Int) + -1 by omega] at this
    · have b10 := hI.1.2.2.2.1 (l + 1)
      unfold gdN
      rw [e10] at b10 ⊢
      omega
end ZMY
