section ZSB
variable {G N : Nat → Int} {τ : MO} {s n o : Int} {u i r L c : Nat} {p0 p q : List Int} {Y A : Nat → Nat → Int} {C : Nat → List Int} {beg : Nat → Nat} {b0 : Nat → Int}
theorem RW.num (h : RW G p0 L beg τ) : ∀ l, l ≤ L → beg l ≤ sCt τ := fun l hl => by
  have := h.2.2.2.2.2.1.mono l L hl (by have := h.2.2.2.2.1; omega)
  have := h.2.1.2
  omega
/-- like lk, but good may change -/
def lg (G : Nat → Int) (τ τ' : MO) : Prop := sCt τ' = sCt τ ∧ τ'.2.1 4 = τ.2.1 4 ∧ τ'.2.1 5 = τ.2.1 5 ∧ τ'.2.2 10 = τ.2.2 10 ∧ (∀ j k, j < sCt τ → k < 52 → τ'.2.2 7 (52 * j + k) = τ.2.2 7 (52 * j + k)) ∧ (∀ j, j < sCt τ → τ'.2.2 8 j = τ.2.2 8 j) ∧ ∀ i, i ≤ 6 → τ'.2.2 i = τ.2.2 i
theorem lk.lg {τ' : MO} (h : lk G τ τ') : lg G τ τ' := ⟨h.1, h.2.1, h.2.2.1, h.2.2.2.1, h.2.2.2.2.2⟩
theorem lg.rf : lg G τ τ := ⟨rfl, rfl, rfl, rfl, fun _ _ _ _ => rfl, fun _ _ => rfl, fun _ _ => rfl⟩
theorem lg.trans {τ' τ'' : MO} (h : lg G τ τ') (g : lg G τ' τ'') : lg G τ τ'' := by
  obtain ⟨h1, h2, h3, h4, h6, h7, h8⟩ := h
  obtain ⟨g1, g2, g3, g4, g6, g7, g8⟩ := g
  exact ⟨g1.trans h1, g2.trans h2, g3.trans h3, g4.trans h4, fun j k hj hk => (g6 j k (by omega) hk).trans (h6 j k hj hk), fun j hj => (g7 j (by omega)).trans (h7 j hj), fun i hi => (g8 i hi).trans (h8 i hi)⟩
theorem lg.pos {τ' : MO} (hG : gmV G) (h : lg G τ τ') : ∀ j, j < sCt τ → rPos G (τ'.2.2 7) j = rPos G (τ.2.2 7) j := fun j hj => pos_eq.2 fun x hx => by
  have := gAll_rng hG
  have := nC_eq hG
  show dec _ = dec _
  rw [h.2.2.2.2.1 j x hj (by omega)]
theorem lg.rw {τ' : MO} (hG : gmV G) (h : lg G τ τ') (g : RW G p0 L beg τ) : RW G p0 L beg τ' := by
  have hp := h.pos hG
  have := gAll_rng hG
  have := nC_eq hG
  obtain ⟨h1, h2, h3, h4, h6, h7, h8⟩ := h
  obtain ⟨⟨g1, g1'⟩, ⟨g2, g3⟩, g4, g5, g6, g7, g8, g9⟩ := g
  unfold RW
  rw [h1, h2, h3, h4]
  refine ⟨⟨fun j hj => ?_, fun j hj => ?_⟩, ⟨g2, g3⟩, fun a b ha hb e => ?_, fun j hj => ?_, g6, g7.cong fun k hk => ?_, g8, g9⟩
  · exact ⟨fun x hx => by rw [h6 j x hj (by omega)]; exact (g1 j hj).1 x hx, fun x a b => by rw [h6 j x hj b]; exact (g1 j hj).2 x a b⟩
  · rw [h7 j hj, g1' j hj]
    exact mSm_c fun k hk => (h6 j k hj hk).symm
  · rw [hp a ha, hp b hb] at e; exact g4 a b ha hb e
  · rw [hp j (by omega)]; exact g5 j hj
  · exact hp k (by rw [show L - 1 + 1 = L by omega] at hk; omega)
theorem gdR_spec (hG : gmV G) (hl : i + 1 ≤ L) : ∀ (j r : Nat) (τ : MO), RW G p0 L beg τ → GO G p0 L beg (i + 1) τ → beg i ≤ r → r + j = beg (i + 1) → (∀ k, beg i ≤ k → k < r → (τ.2.2 9 k ≠ 0 ↔ GD G p0 L (L - 1 - i) (rPos G (τ.2.2 7) k))) →
    lg G τ (gdR G i j r τ) ∧ GO G p0 L beg i (gdR G i j r τ) := by
  intro j
  induction j with
  | zero =>
    intro r τ hR hg hr hj hd
    refine ⟨lg.rf, fun l a b k c d => ?_⟩
    by_cases e : l = i
    · subst e; exact hd k c (by omega)
    · exact hg l (by omega) b k c d
  | succ j ih =>
    intro r τ hR hg hr hj hd
    obtain ⟨s1, s2⟩ := ig_spec hG hl ⟨hr, by omega⟩ hR hg
    have rl : r < sCt τ := by have := hR.num (i + 1) hl; omega
    have e9 : ∀ k, k < sCt τ → (gdS G i r τ).2.2 9 k = if k = r then (ig G r i τ.2.1 τ.2.2).1 else τ.2.2 9 k := fun k hk => by
      show iU ((ig G r i τ.2.1 τ.2.2).2.2 9) r (ig G r i τ.2.1 τ.2.2).1 k = _
      unfold iU
      by_cases e : k = r
      · rw [if_pos e, if_pos e]
      · rw [if_neg e, if_neg e]; exact s1.2.2.2.2.1 k hk
    have kk : lg G τ (gdS G i r τ) := by
      obtain ⟨h1, h2, h3, h4, h5, h6, h7, h8⟩ := s1
      refine ⟨h1, h2, h3, h4, h6, h7, fun i hi => ?_⟩
      show fU _ 9 _ i = _
      rw [fUn _ (by omega)]
      exact h8 i hi
    have hp := kk.pos hG
    have := ih (r + 1) (gdS G i r τ) (kk.rw hG hR) (fun l a b k c d => by
      have kl : k < sCt τ := by have := hR.num (l + 1) b; omega
      have mo := hR.2.2.2.2.2.1.mono (i + 1) l (by omega) (by omega)
      rw [e9 k kl, if_neg (by omega), hp k kl]
      exact hg l a b k c d) (by omega) (by omega) (fun k a b => by
      rw [e9 k (by omega), hp k (by omega)]
      by_cases e : k = r
      · rw [if_pos e, e]; exact s2
      · rw [if_neg e]; exact hd k a (by omega))
    exact ⟨kk.trans this.1, this.2⟩
theorem gdL_spec (hG : gmV G) : ∀ (l : Nat) (τ : MO), RW G p0 L beg τ → l + 1 ≤ L → GO G p0 L beg (l + 1) τ → lg G τ (gdL G l τ) ∧ GO G p0 L beg 1 (gdL G l τ) := by
  intro l
  induction l with
  | zero => intro τ hR hl hg; exact ⟨lg.rf, hg⟩
  | succ l ih =>
    intro τ hR hl hg
    have b1 : τ.2.2 10 (l + 1) = beg (l + 1) := hR.2.2.2.2.2.2.2 (l + 1) (by omega)
    have b2 : τ.2.2 10 (l + 2) = beg (l + 2) := hR.2.2.2.2.2.2.2 (l + 2) (by omega)
    have gn : gdN τ (l + 1) = beg (l + 2) - beg (l + 1) := by
      show (τ.2.2 10 (l + 2)).toNat - (τ.2.2 10 (l + 1)).toNat = _
      rw [b1, b2]; omega
    have mo := hR.2.2.2.2.2.1.mono (l + 1) (l + 2) (by omega) (by omega)
    have s := gdR_spec (i := l + 1) hG (by omega) (gdN τ (l + 1)) (τ.2.2 10 (l + 1)).toNat τ hR hg (by rw [b1]; omega) (by rw [gn, b1]; show _ = beg (l + 2); omega) (fun k a b => by rw [b1] at b; omega)
    obtain ⟨s1, s2⟩ := s
    have e : gdL G (l + 1) τ = gdL G l (gdR G ((l : Int) + 1) (gdN τ (l + 1)) (τ.2.2 10 (l + 1)).toNat τ) := rfl
    rw [e]
    rw [show ((l + 1 : Nat) : Int) = (l : Int) + 1 by omega] at s1 s2
    have := ih _ (s1.rw hG hR) (by omega) s2
    exact ⟨s1.trans this.1, this.2⟩
/-- what the reference asks of a first move -/
def fmK (G : Nat → Int) (p0 : List Int) (L : Nat) (Y : Nat → Nat → Int) (k : Int) : Prop := ∃ q, KC G Y k q ∧ TG G p0 L 0 q
theorem fm_cond (hG : gmV G) (hW : lyW Y) (hS : SR G Y A C) (hp : pos (nC G) (Y 0) = p0) (hw : p0 ≠ wnP (nC G)) (hR : RW G p0 L beg τ) (hA : ∀ i, i ≤ 6 → τ.2.2 i = A i) (hg : GO G p0 L beg 1 τ) (hk : rwK G (Y 0) 0 τ) {k : Int} (k0 : 0 ≤ k ∧ k < 208) :
    ((fmT G (k / 16) (k % 16) ∧ mOne G τ.2.2 (k / 16) (k % 16)) → lk G τ (fmL G τ (k / 16) (k % 16)) ∧ rwK G (Y 0) 0 (fmL G τ (k / 16) (k % 16)) ∧ ((fmL G τ (k / 16) (k % 16)).1 ≠ 0 ↔ fmK G p0 L Y k)) ∧
    (fmK G p0 L Y k → fmT G (k / 16) (k % 16) ∧ mOne G τ.2.2 (k / 16) (k % 16)) := by
  have hG' := hG
  unfold gmV at hG'
  have hAl := gAll_rng hG
  have hn := nC_eq hG
  have a0 := hA 0 (by omega)
  have a1 := hA 1 (by omega)
  have a2 := hA 2 (by omega)
  have a3 := hA 3 (by omega)
  have eOne : ∀ z y, mOne G τ.2.2 z y ↔ mOne G A z y := fun z y => by
    unfold mOne mOn mTp mFA mFT
    rw [a0, a1, a2, a3]
  have eTp : ∀ z, mTp G τ.2.2 z = mTp G A z := fun z => by unfold mTp mFT; rw [a0, a1, a2]
  have eOa : ∀ y, mOa G τ.2.2 y = mOa G A y := fun y => by unfold mOa mFT; rw [a0, a1]
  have grd : ∀ y, gPla G y → onR G (mOa G A y) ∧ dec (mOa G A y) = lGrd (Y 1) y := fun y hy => by
    rcases hy with hy | hy | hy
    · have hm : mOa G A y = if A 1 y.toNat = 0 then 3 else 10 + mFT A y 0 := by unfold mOa; rw [if_neg (by omega), if_neg (by omega)]
      have hgr : lGrd (Y 1) y = Y 1 y.toNat := by unfold lGrd; rw [if_neg (by omega), if_neg (by omega)]
      rw [hm, hgr]
      obtain ⟨b1, b2, b3⟩ := hS.bare (p := y.toNat) (by omega)
      rw [show ((y.toNat : Nat) : Int) = y by omega] at b3
      by_cases e : C y.toNat = []
      · rw [if_pos (b2.2 e), b1.2 e]
        exact ⟨by unfold onR; omega, rfl⟩
      · rw [if_neg (fun w => e (b2.1 w)), b3]
        have tn : Y 1 y.toNat ≠ -1 := fun w => e (b1.1 w)
        have t0 := (hW.2.1 y.toNat).1
        have tl : Y 1 y.toNat < gAll G := by
          cases hl : C y.toNat with
          | nil => exact absurd hl e
          | cons a l =>
            have pl := (hS.1 y.toNat (by omega)).1
            rw [hl] at pl
            rw [pl.1]
            exact (hS.mem hG (p := y.toNat) (by omega) a (by rw [hl]; exact List.mem_cons_self ..)).2
        refine ⟨by unfold onR; omega, ?_⟩
        unfold dec
        rw [if_neg (by omega), if_neg (by omega), if_neg (by omega)]
        omega
    · have hm : mOa G A y = 2 := by unfold mOa; rw [if_neg (by omega), if_pos hy]
      have hgr : lGrd (Y 1) y = -2 := by unfold lGrd; rw [if_neg (by omega), if_pos (by omega)]
      rw [hm, hgr]
      exact ⟨by unfold onR; omega, rfl⟩
    · have hm : mOa G A y = 1 := by unfold mOa; rw [if_pos hy]
      have hgr : lGrd (Y 1) y = -3 := by unfold lGrd; rw [if_pos hy]
      rw [hm, hgr]
      exact ⟨by unfold onR; omega, rfl⟩
  have b0b : beg 0 = 0 := hR.2.2.2.2.2.1.1
  have b1b : beg 1 = 1 := hR.2.2.2.2.2.1.2.1
  constructor
  · rintro ⟨⟨f1, f2⟩, f3⟩
    have f3 := (eOne _ _).1 f3
    have lo := (hS.one hG hW f1 f2).2 f3
    have tp := hS.top hG f1
    have hz : 0 ≤ k / 16 ∧ k / 16 < 12 := by rcases f1 with f1 | f1 <;> omega
    have hy : 0 ≤ k % 16 ∧ k % 16 ≤ 12 := by rcases f2 with f2 | f2 | f2 <;> omega
    obtain ⟨c1, c2⟩ := hS.may1 hG hW hz hy lo
    obtain ⟨o1, o2⟩ := grd _ f2
    have L1 := hR.2.2.2.2.1
    have ls := ld_spec (c := (Y 1 (k / 16).toNat).toNat) (o := mOa G A (k % 16)) (i := 0) (r := 0) hG hR (by omega) hg ⟨by rw [b0b]; exact Nat.le_refl _, by show 0 < beg 1; rw [b1b]; exact Nat.one_pos⟩ hk (by omega) o1
    have ef : fmL G τ (k / 16) (k % 16) = ld G 0 ((Y 1 (k / 16).toNat).toNat : Nat) (mOa G A (k % 16)) ((0 : Nat) : Int) τ := by
      unfold fmL
      rw [eTp, eOa, tp, show (((Y 1 (k / 16).toNat).toNat : Nat) : Int) = Y 1 (k / 16).toNat by omega]
      rfl
    rw [ef]
    refine ⟨ls.1, ls.2.1, ls.2.2.trans ?_⟩
    rw [o2]
    constructor
    · rintro ⟨m1, m2⟩
      exact ⟨_, ⟨k / 16, k % 16, hz.1, hz.2, hy.1, hy.2, lo, by omega, rfl⟩, m2⟩
    · rintro ⟨q, ⟨z, y, z1, z2, y1, y2, l1, e1, e2⟩, t⟩
      have ez : z = k / 16 := by omega
      have ey : y = k % 16 := by omega
      subst ez
      subst ey
      rw [e2] at t
      refine ⟨?_, t⟩
      rcases c2 with c2 | c2
      · exfalso
        have self : nxP G Y (k / 16) (k % 16) = p0 := by
          rw [← hp]
          refine pos_eq.2 fun x hx => ?_
          by_cases w : x = (Y 1 (k / 16).toNat).toNat
          · rw [w, iU_same]; exact c2.symm
          · rw [iU_ne _ _ w]
        rw [self] at t
        unfold TG at t
        by_cases e : 0 + 1 = L
        · rw [if_pos e] at t; exact hw t
        · rw [if_neg e] at t
          exact t.1.2 rfl
      · exact c2
  · rintro ⟨q, ⟨z, y, z1, z2, y1, y2, l1, e1, e2⟩, t⟩
    have ez : z = k / 16 := by omega
    have ey : y = k % 16 := by omega
    subst ez
    subst ey
    obtain ⟨g1, g2, -⟩ := hS.go hG hW ⟨z1, z2⟩ ⟨y1, y2⟩ l1
    exact ⟨⟨g1, g2⟩, (eOne _ _).2 ((hS.one hG hW g1 g2).1 l1)⟩
theorem fmC_spec (hG : gmV G) (hW : lyW Y) (hS : SR G Y A C) (hp : pos (nC G) (Y 0) = p0) (hw : p0 ≠ wnP (nC G)) : ∀ (j : Nat) (k : Int) (τ : MO), RW G p0 L beg τ → (∀ i, i ≤ 6 → τ.2.2 i = A i) → GO G p0 L beg 1 τ → rwK G (Y 0) 0 τ → 0 ≤ k → k + j = 208 →
    (fmK G p0 L Y (fmC G j k τ).1 ∧ k ≤ (fmC G j k τ).1 ∧ ∀ k', k ≤ k' → k' < (fmC G j k τ).1 → ¬ fmK G p0 L Y k') ∨ ((fmC G j k τ).1 = -1 ∧ ∀ k', k ≤ k' → k' < 208 → ¬ fmK G p0 L Y k') := by
  intro j
  induction j with
  | zero =>
    intro k τ _ _ _ _ _ hk
    exact Or.inr ⟨rfl, fun k' a b => by omega⟩
  | succ j ih =>
    intro k τ hR hA hg hk h0 hj
    obtain ⟨f1, f2⟩ := fm_cond hG hW hS hp hw hR hA hg hk (k := k) (by omega)
    have nxt : ¬ fmK G p0 L Y k → ∀ τ' : MO, ((fmK G p0 L Y (fmC G j (k + 1) τ').1 ∧ k + 1 ≤ (fmC G j (k + 1) τ').1 ∧ ∀ k', k + 1 ≤ k' → k' < (fmC G j (k + 1) τ').1 → ¬ fmK G p0 L Y k') ∨ ((fmC G j (k + 1) τ').1 = -1 ∧ ∀ k', k + 1 ≤ k' → k' < 208 → ¬ fmK G p0 L Y k')) → (fmK G p0 L Y (fmC G j (k + 1) τ').1 ∧ k ≤ (fmC G j (k + 1) τ').1 ∧ ∀ k', k ≤ k' → k' < (fmC G j (k + 1) τ').1 → ¬ fmK G p0 L Y k') ∨ ((fmC G j (k + 1) τ').1 = -1 ∧ ∀ k', k ≤ k' → k' < 208 → ¬ fmK G p0 L Y k') := fun nk τ' w => by
      have st : ∀ k', k ≤ k' → ¬ (k + 1 ≤ k') → k' = k := fun k' a b => by omega
      rcases w with ⟨a, b, c⟩ | ⟨a, b⟩
      · refine Or.inl ⟨a, by omega, fun k' d e => ?_⟩
        by_cases q : k + 1 ≤ k'
        · exact c k' q e
        · rw [st k' d q]; exact nk
      · refine Or.inr ⟨a, fun k' d e => ?_⟩
        by_cases q : k + 1 ≤ k'
        · exact b k' q e
        · rw [st k' d q]; exact nk
    by_cases q : fmT G (k / 16) (k % 16) ∧ mOne G τ.2.2 (k / 16) (k % 16)
    · obtain ⟨a1, a2, a3⟩ := f1 q
      by_cases x : (fmL G τ (k / 16) (k % 16)).1 = 0
      · have e : fmC G (j + 1) k τ = fmC G j (k + 1) (fmL G τ (k / 16) (k % 16)) := (if_pos q).trans (if_pos x)
        rw [e]
        exact nxt (fun w => a3.2 w x) _ (ih (k + 1) _ (a1.rw hG hR) (fun i hi => (a1.2.2.2.2.2.2.2 i hi).trans (hA i hi)) (a1.go hG hR hg) a2 (by omega) (by omega))
      · have e : (fmC G (j + 1) k τ).1 = k := by
          have : fmC G (j + 1) k τ = (k, (fmL G τ (k / 16) (k % 16)).2.1, (fmL G τ (k / 16) (k % 16)).2.2) := (if_pos q).trans (if_neg x)
          rw [this]
        rw [e]
        exact Or.inl ⟨a3.1 x, Int.le_refl _, fun k' a b => by omega⟩
    · have e : fmC G (j + 1) k τ = fmC G j (k + 1) τ := if_neg q
      rw [e]
      exact nxt (fun w => q (f2 w)) _ (ih (k + 1) _ hR hA hg hk (by omega) (by omega))
end ZSB
