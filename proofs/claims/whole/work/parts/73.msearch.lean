/-! The reference's search: firstMove, the codes. (Laid out by gen/tpl.py from tpl/73.msearch.tpl.) -/
section ZMZ
variable {L : Nat} {xs : Nat → Int32} {d q : Nat} {w w' : zi_W} {cn sn : Nat} {Q : zi_O → zi_W → Nat → Nat → Prop} {G N : Nat → Int} {A : Nat → Nat → Int} {z y m c o a b e k u n l : Int} {r ct : Nat} {τ τ0 τ1 : MO}
abbrev fmT (G : Nat → Int) (z y : Int) : Prop := (gCol G z ∨ gCel G z) ∧ gPla G y
abbrev fmL (G : Nat → Int) (τ : MO) (z y : Int) : MO := ld G 0 (mTp G τ.2.2 z) (mOa G τ.2.2 y) 0 τ
def fmC (G : Nat → Int) : Nat → Int → MO → MO
  | 0, _, τ => (-1, τ.2.1, τ.2.2)
  | j + 1, k, τ => if fmT G (k / 16) (k % 16) ∧ mOne G τ.2.2 (k / 16) (k % 16) then (if (fmL G τ (k / 16) (k % 16)).1 = 0 then fmC G j (k + 1) (fmL G τ (k / 16) (k % 16)) else (k, (fmL G τ (k / 16) (k % 16)).2.1, (fmL G τ (k / 16) (k % 16)).2.2)) else fmC G j (k + 1) τ
/-- the tops are cards of the game -/
def topsIn (G : Nat → Int) (A : Nat → Nat → Int) : Prop := ∀ A' : Nat → Nat → Int, (∀ i, i ≤ 6 → A' i = A i) → mtV A' ∧ ∀ z y, fmT G z y → mOne G A' z y → (0 ≤ mTp G A' z ∧ mTp G A' z < gAll G) ∧ onR G (mOa G A' y)
theorem lp_fmC (hG : gmV G) (hn : n ≤ 200) (h5 : 0 ≤ τ0.2.1 5 ∧ τ0.2.1 5 ≤ 205) (hT : topsIn G τ0.2.2) (hd : 5 ≤ d) (hq : 118 ≤ q) {R : MO} (kk : ∀ w', moA w' G R.2.1 R.2.2 → zF moS w w' → Q (oI R.1) w' cn sn) : ∀ (j : Nat) (k : Int) (τ : MO) (w' : zi_W) (x2 x3 x4 : Option Value), k + j = 208 → 0 ≤ k → moA w' G τ.2.1 τ.2.2 → spI 0 n τ → kq τ0 τ → zF moS w w' → R = fmC G j k τ → zw L xs d q 129 61 [some (.ref 817), some (iV k), x2, x3, x4] [] w' cn sn Q := by
  obtain ⟨d, rfl⟩ : ∃ e, d = e + 1 := ⟨d - 1, by omega⟩
  have hG' := hG
  unfold gmV at hG'
  intro j
  induction j with
  | zero =>
    intro k τ w' x2 x3 x4 h1 h2 hm hI hk hF he
    refine zw_iload_n z129_61 rfl ?_
    refine zw_sipush z129_62 (v := iI (208)) (by decide +kernel) ?_
    refine zj_icmp_ge z129_65 (by omega) (by omega) (fun h6 => ?_) (fun h6 => ?_)
    · have he : R = (-1, τ.2.1, τ.2.2) := he
      subst he
      refine zw_iconst z129_164 (v := iI (-1)) rfl ?_
      exact zw_iret z129_165 rfl (kk w' hm hF)
    · exfalso; omega
  | succ j ih =>
    intro k τ w' x2 x3 x4 h1 h2 hm hI hk hF he
    have m0 := hm.1
    have he : R = if fmT G (k / 16) (k % 16) ∧ mOne G τ.2.2 (k / 16) (k % 16) then (if (fmL G τ (k / 16) (k % 16)).1 = 0 then fmC G j (k + 1) (fmL G τ (k / 16) (k % 16)) else (k, (fmL G τ (k / 16) (k % 16)).2.1, (fmL G τ (k / 16) (k % 16)).2.2)) else fmC G j (k + 1) τ := he
    obtain ⟨hV, hTA⟩ := hT τ.2.2 hk.1
    have e5 := hk.2.2 5 (by omega)
    refine zw_iload_n z129_61 rfl ?_
    refine zw_sipush z129_62 (v := iI (208)) (by decide +kernel) ?_
    refine zj_icmp_ge z129_65 (by omega) (by omega) (fun h6 => ?_) (fun h6 => ?_)
    · exfalso; omega
    refine zw_iload_n z129_68 rfl ?_
    refine zw_bipush z129_69 (v := iI (16)) (by decide +kernel) ?_
    refine zj_div z129_71 (by omega) (by omega) ?_
    refine zw_istore_n z129_72 rfl ?_
    refine zw_iload_n z129_73 rfl ?_
    refine zw_bipush z129_74 (v := iI (16)) (by decide +kernel) ?_
    refine zj_rem z129_76 (by omega) (by omega) ?_
    refine zw_istore_n z129_77 rfl ?_
    have hz : 0 ≤ k / 16 ∧ k / 16 ≤ 12 := by omega
    have hy : 0 ≤ k % 16 ∧ k % 16 ≤ 15 := by omega
    generalize k / 16 = z at *
    generalize k % 16 = y at *
    have kf : ¬ (fmT G z y ∧ mOne G τ.2.2 z y) → ∀ x4, zw L xs (d + 1) q 129 158 [some (.ref 817), some (iV k), some (iV z), some (iV y), x4] [] w' cn sn Q := by
      intro hn x4
      rw [if_neg hn] at he
      refine zj_iinc z129_158 rfl rfl ?_
      refine zw_goto z129_161 ?_
      exact ih (k + 1) τ w' _ _ _ (by omega) (by omega) hm hI hk hF he
    have k121 : ∀ t : Int, (t = 0 ∧ ¬ fmT G z y) ∨ (t = 1 ∧ fmT G z y) → zw L xs (d + 1) q 129 121 [some (.ref 817), some (iV k), some (iV z), some (iV y), x4] [iV t] w' cn sn Q := by
      intro t ht
      refine zw_istore z129_121 rfl ?_
      refine zw_iload z129_123 rfl ?_
      refine zj_if_eq z129_125 (by omega) (fun g1 => ?_) (fun g1 => ?_)
      · exact kf (fun h => by rcases ht with g | g; exact g.2 h.1; omega) _
      have hft : fmT G z y := by
        rcases ht with g | g
        · omega
        · exact g.2
      refine zw_aload_n z129_128 rfl ?_
      refine zw_iload_n z129_129 rfl ?_
      refine zw_iload_n z129_130 rfl ?_
      refine zw_vv (n := 4) z129_131 rfl rfl (by assumption) (Nat.le_of_ble_eq_true rfl) (by omega) (sp_mMayOne hm hG hV hft.1 hft.2 (by omega) (by omega)) ?_
      refine zj_b_eq z129_134 (fun g2 => ?_) (fun g2 => ?_)
      · exact kf (fun h => g2 h.2) _
      rw [if_pos ⟨hft, g2⟩] at he
      obtain ⟨q1, q2⟩ := hTA z y hft g2
      have hlI := spI_ld (G := G) (c := mTp G τ.2.2 z) (l := 0) hI (show 0 ≤ mOa G τ.2.2 y ∧ mOa G τ.2.2 y ≤ 61 by have hA := gAll_rng hG; omega)
      have hlk := kp_ld (G := G) (r := 0) (c := mTp G τ.2.2 z) (o := mOa G τ.2.2 y) (l := 0) (τ := τ)
      refine zw_aload_n z129_137 rfl ?_
      refine zw_iconst z129_138 (v := iI 0) rfl ?_
      refine zw_aload_n z129_139 rfl ?_
      refine zw_iload_n z129_140 rfl ?_
      refine zw_vv (n := 2) z129_141 rfl rfl (by assumption) (Nat.le_of_ble_eq_true rfl) (by omega) (sp_mTopOf hm hG hV (by omega) (by omega) (by omega)) ?_
      refine zw_aload_n z129_144 rfl ?_
      refine zw_iload_n z129_145 rfl ?_
      refine zw_vv (n := 2) z129_146 rfl rfl (by assumption) (Nat.le_of_ble_eq_true rfl) (by omega) (sp_mOnAt hm hG hV hft.2 (by omega) (by omega)) ?_
      refine zw_iconst z129_149 (v := iI 0) rfl ?_
      refine zw_cv (n := 6) z129_150 rfl rfl m0 (Nat.le_of_ble_eq_true rfl) (by omega) (sp_mLeads (r := 0) (n := n) (l := 0) hG hm hI hn q1 q2 (by omega) (by omega) (by omega) (by omega)) (fun v w1 cn1 sn1 h => ?_)
      obtain ⟨rfl, rfl, rfl, hm1, f1⟩ := h
      rw [show fmL G τ z y = ld G 0 (mTp G τ.2.2 z) (mOa G τ.2.2 y) 0 τ from rfl] at he
      generalize ld G 0 (mTp G τ.2.2 z) (mOa G τ.2.2 y) 0 τ = σ at *
      have hb := hlI.2.2.2.1
      refine zj_if_eq z129_153 (by omega) (fun g3 => ?_) (fun g3 => ?_)
      · rw [if_pos g3] at he
        refine zj_iinc z129_158 rfl rfl ?_
        refine zw_goto z129_161 ?_
        exact ih (k + 1) σ w1 _ _ _ (by omega) (by omega) hm1 hlI (hk.trans hlk.kq) (hF.trans f1) he
      · rw [if_neg g3] at he
        subst he
        refine zw_iload_n z129_156 rfl ?_
        exact zw_iret z129_157 rfl (kk w1 hm1 (hF.trans f1))
    have k94 : (gCol G z ∨ gCel G z) → zw L xs (d + 1) q 129 94 [some (.ref 817), some (iV k), some (iV z), some (iV y), x4] [] w' cn sn Q := by
      intro g1
      refine zw_aload_n z129_94 rfl ?_
      refine zw_iload_n z129_95 rfl ?_
      refine zw_vv (n := 2) z129_96 rfl rfl (by assumption) (Nat.le_of_ble_eq_true rfl) (by omega) (sp_mIsColumn hm hG (by omega) (by omega) (by omega)) ?_
      refine zj_b_ne z129_99 (fun g2 => ?_) (fun g2 => ?_)
      · refine zw_iconst z129_116 (v := iI 1) rfl ?_
        refine zw_goto z129_117 ?_
        exact k121 1 (Or.inr ⟨rfl, g1, Or.inl g2⟩)
      refine zw_aload_n z129_102 rfl ?_
      refine zw_iload_n z129_103 rfl ?_
      refine zw_vv (n := 2) z129_104 rfl rfl (by assumption) (Nat.le_of_ble_eq_true rfl) (by omega) (sp_mIsCell hm hG (by omega) (by omega) (by omega)) ?_
      refine zj_b_ne z129_107 (fun g3 => ?_) (fun g3 => ?_)
      · refine zw_iconst z129_116 (v := iI 1) rfl ?_
        refine zw_goto z129_117 ?_
        exact k121 1 (Or.inr ⟨rfl, g1, Or.inr (Or.inl g3)⟩)
      refine zw_iload_n z129_110 rfl ?_
      refine zw_bipush z129_111 (v := iI (12)) (by decide +kernel) ?_
      refine zj_icmp_ne z129_113 (by omega) (by omega) (fun g4 => ?_) (fun g4 => ?_)
      · refine zw_iconst z129_120 (v := iI 0) rfl ?_
        exact k121 0 (Or.inl ⟨rfl, fun h => by rcases h.2 with g | g | g; exact g2 g; exact g3 g; exact g4 g⟩)
      · refine zw_iconst z129_116 (v := iI 1) rfl ?_
        refine zw_goto z129_117 ?_
        exact k121 1 (Or.inr ⟨rfl, g1, Or.inr (Or.inr (by omega))⟩)
    refine zw_aload_n z129_78 rfl ?_
    refine zw_iload_n z129_79 rfl ?_
    refine zw_vv (n := 2) z129_80 rfl rfl (by assumption) (Nat.le_of_ble_eq_true rfl) (by omega) (sp_mIsColumn hm hG (by omega) (by omega) (by omega)) ?_
    refine zj_b_ne z129_83 (fun g1 => ?_) (fun g1 => ?_)
    · exact k94 (Or.inl g1)
    refine zw_aload_n z129_86 rfl ?_
    refine zw_iload_n z129_87 rfl ?_
    refine zw_vv (n := 2) z129_88 rfl rfl (by assumption) (Nat.le_of_ble_eq_true rfl) (by omega) (sp_mIsCell hm hG (by omega) (by omega) (by omega)) ?_
    refine zj_b_eq z129_91 (fun g2 => ?_) (fun g2 => ?_)
    · refine zw_iconst z129_120 (v := iI 0) rfl ?_
      exact k121 0 (Or.inl ⟨rfl, fun h => by rcases h.1 with g | g; exact g1 g; exact g2 g⟩)
    · exact k94 (Or.inr g2)
abbrev fmG (G N : Nat → Int) (A : Nat → Nat → Int) : MO := gdL G (N 5 - 1).toNat (0, N, A)
abbrev fm (G N : Nat → Int) (A : Nat → Nat → Int) : MO := fmC G 208 0 (sp0 G 0 0 (fmG G N A).2.1 (fmG G N A).2.2)
theorem sp_mFirstMove (hm : moA w G N A) (hG : gmV G) (hn : n ≤ 200) (hV : msV N A) (h4 : 1 ≤ N 4 ∧ N 4 ≤ n) (h6 : N 6 = 0 ∨ N 6 = 1) (h7 : N 7 = 0 ∨ N 7 = 1) (h5 : 1 ≤ N 5 ∧ N 5 ≤ 205) (hB : ∀ j : Nat, (j : Int) ≤ N 5 → 0 ≤ A 10 j ∧ A 10 j ≤ N 4) (hT : topsIn G A) (hd : 5 ≤ d) (hq : 118 ≤ q) : zr L xs d q 129 [.ref 817] w cn sn (mRO w cn sn G (fm G N A)) := by
  have hd0 := hd
  obtain ⟨d, rfl⟩ : ∃ e, d = e + 1 := ⟨d - 1, by omega⟩
  have m0 := hm.1
  refine ⟨_, rfl, ?_⟩
  show zw _ _ _ _ 129 0 [some (.ref 817), none, none, none, none] [] _ _ _ _
  refine zw_aload_n z129_0 rfl ?_
  refine zw_getf z129_1 (by assumption) (by rfl) ?_
  refine zw_iconst z129_4 (v := iI 1) rfl ?_
  refine zj_sub z129_5 ?_
  refine zw_istore_n z129_6 rfl ?_
  rw [show N 5 - 1 = (((N 5 - 1).toNat : Nat) : Int) by omega]
  refine lp_gdL (w := w) (τ0 := (0, N, A)) (R := fmG G N A) hG hn h5.2 hB hd0 hq (fun w1 x2 hm1 hI1 f1 => ?_) (N 5 - 1).toNat (0, N, A) w none (by show _ < N 5; omega) hm ⟨hV, h4, h6, h7, kq.rf⟩ zF.rf rfl
  unfold fm
  generalize fmG G N A = σ at *
  obtain ⟨i1, i2, i3, i4, i5⟩ := hI1
  have m1 := hm1.1
  have e5 := i5.2.2 5 (by omega)
  refine zw_aload_n z129_54 rfl ?_
  refine zw_iconst z129_55 (v := iI 0) rfl ?_
  refine zw_cv (n := 4) z129_56 rfl rfl m1 (Nat.le_of_ble_eq_true rfl) (by omega) (sp_mRegard (r := 0) hm1 hG i1.1 (by omega) (by omega) (by omega)) (fun v w2 cn2 sn2 h => ?_)
  obtain ⟨rfl, rfl, rfl, hm2, f2⟩ := h
  refine zw_iconst z129_59 (v := iI 0) rfl ?_
  refine zw_istore_n z129_60 rfl ?_
  have hkr := kp_rg (N := σ.2.1) (A := σ.2.2) (x := σ.1) (y := 0) (s := rg G σ.2.2 0)
  exact lp_fmC (w := w) (τ0 := (0, N, A)) (n := n) (R := fmC G 208 0 (sp0 G 0 0 σ.2.1 σ.2.2)) hG hn (by show 0 ≤ N 5 ∧ N 5 ≤ 205; omega) hT hd0 hq (fun w3 hm3 f3 => ⟨_, rfl, rfl, rfl, rfl, hm3, f3⟩) 208 0 (sp0 G 0 0 σ.2.1 σ.2.2) w2 _ none none (by omega) (by omega) hm2 ⟨rg_V hG i1, ⟨by have := i2.1; show ((0 : Nat) : Int) < σ.2.1 4; omega, i2.2⟩, i3, Or.inl rfl, i4⟩ (i5.trans hkr.kq) (f1.trans f2) rfl
end ZMZ
