section ZRZ
variable {G : Nat → Int} {σ : SS} {τ : MO} {s n : Int} {u i : Nat} {p0 p q : List Int} {Y : Nat → Nat → Int} {beg : Nat → Nat}
/-- the reference after i levels -/
def RS (G : Nat → Int) (p0 : List Int) (n : Int) (i : Nat) (beg : Nat → Nat) (τ : MO) : Prop :=
  rws G τ.2.2 (sCt τ) ∧ (0 ≤ τ.2.1 4 ∧ τ.2.1 4 ≤ n ∧ sCt τ = beg (i + 1)) ∧ (∀ a b, a < sCt τ → b < sCt τ → rPos G (τ.2.2 7) a = rPos G (τ.2.2 7) b → a = b) ∧
  (∀ j, j < sCt τ → rPos G (τ.2.2 7) j ≠ wnP (nC G)) ∧ Enu G p0 i beg (rPos G (τ.2.2 7)) ∧ τ.2.1 5 = i ∧ ∀ l, l ≤ i → τ.2.2 10 l = beg l
/-- the reference when the end is found after L moves -/
def RW (G : Nat → Int) (p0 : List Int) (L : Nat) (beg : Nat → Nat) (τ : MO) : Prop :=
  rws G τ.2.2 (sCt τ) ∧ (0 ≤ τ.2.1 4 ∧ beg L ≤ sCt τ) ∧ (∀ a b, a < sCt τ → b < sCt τ → rPos G (τ.2.2 7) a = rPos G (τ.2.2 7) b → a = b) ∧
  (∀ j, j < beg L → rPos G (τ.2.2 7) j ≠ wnP (nC G)) ∧ 1 ≤ L ∧ Enu G p0 (L - 1) beg (rPos G (τ.2.2 7)) ∧ τ.2.1 5 = L ∧ ∀ l, l ≤ L → τ.2.2 10 l = beg l
theorem ks_lvR : ∀ (j r : Nat) (τ : MO), ks τ (lvR G n j r τ) := by
  intro j
  induction j with
  | zero => intro r τ; exact ks.rf
  | succ j ih =>
    intro r τ
    have a : ks τ (sprd G r n τ.2.1 τ.2.2) := ks_sprd (x := τ.1)
    have b : ks τ (lvO τ.1 (sprd G r n τ.2.1 τ.2.2)) := a
    exact b.trans (ih (r + 1) _)
theorem RS.step (hG : gmV G) (h : RS G p0 n i beg τ) :
    (lv G n τ).2.1 3 = τ.2.1 4 ∧ (lv G n τ).2.1 5 = ((i + 1 : Nat) : Int) ∧
    ((wnL G p0 i ∧ (lv G n τ).1 ≠ 0 ∧ RW G p0 (i + 1) beg (lv G n τ)) ∨
     (¬ wnL G p0 i ∧ (lv G n τ).1 = 0 ∧ (lv G n τ).2.1 6 ≠ 0 ∧ tooM (Al G p0 (i + 1)) n.toNat) ∨
     (¬ wnL G p0 i ∧ (lv G n τ).1 = 0 ∧ (lv G n τ).2.1 6 = 0 ∧ beg (i + 1) ≤ sCt (lv G n τ) ∧ RS G p0 n (i + 1) (fU beg (i + 2) (sCt (lv G n τ))) (lv G n τ))) := by
  obtain ⟨h1, ⟨h2, h2', h2c⟩, h3, h4, h5, h6, h7⟩ := h
  have bi : beg i ≤ beg (i + 1) := h5.2.2.1 i (Nat.le_refl _)
  have ef : lvF τ = beg i := by
    show (τ.2.2 10 (τ.2.1 5).toNat).toNat = _
    rw [h6, show ((i : Int)).toNat = i by omega, h7 i (Nat.le_refl _)]
    omega
  have K := ks_lvR (G := G) (n := n) ((τ.2.1 4).toNat - lvF τ) (lvF τ) (lvS τ)
  have sp := lv_spec (n := n) hG h1 ⟨h2, h2'⟩ h3 h4 (by omega)
  have K : ks (lvS τ) (lv G n τ) := K
  have ct4 : ((sCt τ : Nat) : Int) = τ.2.1 4 := by show (((τ.2.1 4).toNat : Nat) : Int) = _; omega
  have k3 : (lv G n τ).2.1 3 = τ.2.1 4 := by
    rw [K.2.2.1 3 (by omega)]
    show iU (iU (iU τ.2.1 5 (τ.2.1 5 + 1)) 3 (τ.2.1 4)) 6 0 3 = _
    rw [iU_ne _ _ (by omega), iU_same]
  have k5 : (lv G n τ).2.1 5 = ((i + 1 : Nat) : Int) := by
    rw [K.2.2.2.1]
    show iU (iU (iU τ.2.1 5 (τ.2.1 5 + 1)) 3 (τ.2.1 4)) 6 0 5 = _
    rw [iU_ne _ _ (by omega), iU_ne _ _ (by omega), iU_same, h6]
    omega
  have k10 : ∀ l, l ≤ i + 1 → (lv G n τ).2.2 10 l = beg l := fun l hl => by
    rw [K.2.1]
    show iU (τ.2.2 10) (τ.2.1 5 + 1).toNat (τ.2.1 4) l = _
    rw [h6, show ((i : Int) + 1).toNat = i + 1 by omega]
    by_cases e : l = i + 1
    · rw [e, iU_same, ← h2c, ct4]
    · rw [iU_ne _ _ e]; exact h7 l (by omega)
  generalize lv G n τ = τ' at *
  rw [ef] at sp
  obtain ⟨r1, r2, r3, r4, r5, r6, r7, r8, r9⟩ := sp
  have lvj : ∀ j, beg i ≤ j → j < sCt τ → Lv G p0 i (rPos G (τ.2.2 7) j) := fun j a b => (h5.2.2.2 i (Nat.le_refl _) _).2 ⟨j, a, by omega, rfl⟩
  have wl : wnL G p0 i ↔ τ'.1 ≠ 0 := by
    constructor
    · rintro ⟨p, a, b⟩
      obtain ⟨j, j1, j2, j3⟩ := (h5.2.2.2 i (Nat.le_refl _) p).1 a
      rw [← j3] at b
      rcases r9.2 ⟨_, ⟨j, j1, by omega, b⟩, rfl⟩ with w | w
      · exact absurd rfl w
      · exact w
    · intro w
      obtain ⟨q, ⟨j, a, b, c⟩, d⟩ := r9.1 (Or.inr w)
      rw [d] at c
      exact ⟨_, lvj j a b, c⟩
  have e5 : Enu G p0 i beg (rPos G (τ'.2.2 7)) := h5.cong fun k hk => r5 k (by omega)
  have allI : ∀ q, Al G p0 i q ↔ ∃ k, k < sCt τ ∧ rPos G (τ.2.2 7) k = q := fun q => by rw [h2c]; exact h5.all q
  refine ⟨k3, k5, ?_⟩
  by_cases w : wnL G p0 i
  · refine Or.inl ⟨w, wl.1 w, r1, ⟨r2.1, by omega⟩, r4, fun j hj => ?_, by omega, e5, k5, k10⟩
    rw [r5 j (by omega)]
    exact h4 j (by omega)
  · right
    have x0 : τ'.1 = 0 := Classical.byContradiction fun q => w (wl.2 q)
    have newL : ∀ q, (∃ j, beg i ≤ j ∧ j < sCt τ ∧ Sc G (rPos G (τ.2.2 7) j) q) → (∀ j, j < sCt τ → rPos G (τ.2.2 7) j ≠ q) → Lv G p0 (i + 1) q := fun q ⟨j, j1, j2, e⟩ hn =>
      ⟨⟨_, lvj j j1 j2, e⟩, fun a => by obtain ⟨k, k1, k2⟩ := (allI q).1 a; exact hn k k1 k2⟩
    have newR : ∀ j, sCt τ ≤ j → j < sCt τ' → Lv G p0 (i + 1) (rPos G (τ'.2.2 7) j) := fun j a b => newL _ (r6 j a b) fun k hk e => by
      rw [← r5 k hk] at e
      have := r4 k j (by omega) b e
      omega
    have hall : ∀ j, j < sCt τ' → Al G p0 (i + 1) (rPos G (τ'.2.2 7) j) := fun j hj => by
      by_cases e : j < sCt τ
      · exact Or.inl ((allI _).2 ⟨j, e, (r5 j e).symm⟩)
      · exact Or.inr (newR j (by omega) hj)
    by_cases tm : τ'.2.1 6 ≠ 0
    · left
      obtain ⟨d1, q, d2, d3⟩ := r8 tm
      refine ⟨w, x0, tm, ?_⟩
      have en : n.toNat = sCt τ' := by show _ = (τ'.2.1 4).toNat; rw [d1]
      rw [en]
      exact tooM_of r4 hall (Or.inr (newL q d2 fun j hj => by rw [← r5 j hj]; exact d3 j (by omega))) d3
    · right
      have t0 : τ'.2.1 6 = 0 := Classical.byContradiction tm
      have lvn : ∀ q, Lv G p0 (i + 1) q ↔ ∃ k, beg (i + 1) ≤ k ∧ k < sCt τ' ∧ rPos G (τ'.2.2 7) k = q := fun q => by
        constructor
        · rintro ⟨⟨p, a, b⟩, c⟩
          obtain ⟨j, j1, j2, j3⟩ := (h5.2.2.2 i (Nat.le_refl _) p).1 a
          rw [← j3] at b
          obtain ⟨k, k1, k2⟩ := r7 t0 q ⟨j, j1, by omega, b⟩
          refine ⟨k, ?_, k1, k2⟩
          apply Classical.byContradiction
          intro lt
          exact c ((allI q).2 ⟨k, by omega, by rw [← r5 k (by omega)]; exact k2⟩)
        · rintro ⟨k, a, b, c⟩
          rw [← c]
          exact newR k (by omega) b
      refine ⟨w, x0, t0, by omega, r1, ⟨r2.1, r2.2, by rw [fU_same]⟩, r4, fun j hj => ?_, e5.add (by omega) lvn, k5, fun l hl => ?_⟩
      · by_cases e : j < sCt τ
        · rw [r5 j e]; exact h4 j e
        · obtain ⟨k, k1, k2, k3⟩ := r6 j (by omega) hj
          intro e2
          rw [e2] at k3
          exact w ⟨_, lvj k k1 k2, k3⟩
      · rw [fUn _ (by omega)]; exact k10 l hl
theorem lvl_ne {R : Nat → List Int} (h : Enu G p0 i beg R) (hc : ∀ a, a ≤ i → beg a < beg (a + 1)) : i + 1 ≤ beg (i + 1) := by
  have : ∀ a, a ≤ i + 1 → a ≤ beg a := by
    intro a
    induction a with
    | zero => intro _; omega
    | succ a ih =>
      intro ha
      have := ih (by omega)
      have := hc a (by omega)
      omega
  exact this (i + 1) (Nat.le_refl _)
/-- class and reference look alike -/
theorem look_sim (hG : gmV G) : ∀ (d i k k' : Nat) (beg : Nat → Nat) (σ : SS) (τ : MO), CS G p0 Y n i beg σ → RS G p0 n i beg τ → (∀ a, a ≤ i → beg a < beg (a + 1)) → (i : Int) + d = n → d ≤ k → d ≤ k' →
    (skL G k (beg i) ((i : Int) + 1) σ).1 = (seL G n k' τ).1 ∧ (skL G k (beg i) ((i : Int) + 1) σ).2.1 4 = (seL G n k' τ).2.1 3 ∧ CB G (skL G k (beg i) ((i : Int) + 1) σ).2 ∧
    (((seL G n k' τ).1 ≤ 0 ∧ (skL G k (beg i) ((i : Int) + 1) σ).2.1 3 = -1) ∨ ∃ L beg', (seL G n k' τ).1 = ((L + 1 : Nat) : Int) ∧ fsP G p0 Y L ((skL G k (beg i) ((i : Int) + 1) σ).2.1 3) ∧ RW G p0 (L + 1) beg' (seL G n k' τ)) := by
  intro d
  induction d with
  | zero =>
    intro i k k' beg σ τ hC hR hb hd _ _
    exfalso
    have e := lvl_ne hC.2.2.2.2.2.1 hb
    have a := hR.2.1
    have b : sCt τ = (τ.2.1 4).toNat := rfl
    omega
  | succ d ih =>
    intro i k k' beg σ τ hC hR hb hd hk hk'
    obtain ⟨k, rfl⟩ : ∃ m, k = m + 1 := ⟨k - 1, by omega⟩
    obtain ⟨k', rfl⟩ : ∃ m, k' = m + 1 := ⟨k' - 1, by omega⟩
    obtain ⟨c1, c2, c3⟩ := hC.step hG
    obtain ⟨r1, r2, r3⟩ := hR.step hG
    have cnt4 : σ.1 1 = τ.2.1 4 := by
      have a := hC.2.1.2.2.2
      have b := hR.2.1
      have v1 := hC.1.1.2.1
      have e1 : cC σ = (σ.1 1).toNat := rfl
      have e2 : sCt τ = (τ.2.1 4).toNat := rfl
      omega
    have eC : skL G (k + 1) (beg i) ((i : Int) + 1) σ = if (skM G (beg i) σ).1 3 ≠ -1 then ((i : Int) + 1, skM G (beg i) σ) else if (skM G (beg i) σ).1 2 = 1 then (-2, skM G (beg i) σ) else if (skM G (beg i) σ).1 1 = (skM G (beg i) σ).1 4 then (-3, skM G (beg i) σ) else skL G k ((skM G (beg i) σ).1 4).toNat ((i : Int) + 1 + 1) (skM G (beg i) σ) := rfl
    have eR : seL G n (k' + 1) τ = if (lv G n τ).1 ≠ 0 then ((lv G n τ).2.1 5, (lv G n τ).2.1, (lv G n τ).2.2) else if (lv G n τ).2.1 6 ≠ 0 then (-2, (lv G n τ).2.1, (lv G n τ).2.2) else if (lv G n τ).2.1 4 = (lv G n τ).2.1 3 then (-3, (lv G n τ).2.1, (lv G n τ).2.2) else seL G n k' (lv G n τ) := rfl
    rw [eC, eR]
    generalize skM G (beg i) σ = σ' at *
    generalize lv G n τ = τ' at *
    rcases c3 with ⟨c3, c4, c5⟩ | ⟨c3, c4, c5, c6⟩ | ⟨c3, c4, c5, c6, c7⟩
    · rcases r3 with ⟨r3, r4, r5⟩ | ⟨r3, -⟩ | ⟨r3, -⟩
      · rw [if_pos c4, if_pos r4]
        refine ⟨?_, ?_, c1, Or.inr ⟨i, beg, ?_, c5, r5⟩⟩
        · show (i : Int) + 1 = τ'.2.1 5
          rw [r2]; omega
        · show σ'.1 4 = τ'.2.1 3
          rw [c2, r1]; exact cnt4
        · show τ'.2.1 5 = _
          rw [r2]
      · exact absurd c3 r3
      · exact absurd c3 r3
    · rcases r3 with ⟨r3, -⟩ | ⟨r3, r4, r5, r6⟩ | ⟨r3, r4, r5, r6, r7⟩
      · exact absurd r3 c3
      · rw [if_neg (fun w => w c4), if_pos c5, if_neg (fun w => w r4), if_pos r5]
        refine ⟨rfl, ?_, c1, Or.inl ⟨by show (-2 : Int) ≤ 0; omega, c4⟩⟩
        show σ'.1 4 = τ'.2.1 3
        rw [c2, r1]; exact cnt4
      · exfalso
        have E := r7.2.2.2.2.1.all
        rw [fU_same] at E
        have b := r7.2.1
        have e2 : sCt τ' = (τ'.2.1 4).toNat := rfl
        exact tooM_no (n := n.toNat) (fun q hq => (E q).1 hq) (by omega) c6
    · rcases r3 with ⟨r3, -⟩ | ⟨r3, r4, r5, r6⟩ | ⟨r3, r4, r5, r6, r7⟩
      · exact absurd r3 c3
      · exfalso
        have E := c7.2.2.2.2.2.1.all
        rw [fU_same] at E
        have b := c7.2.1
        have v1 := c1.1.2.1
        have e2 : cC σ' = (σ'.1 1).toNat := rfl
        exact tooM_no (n := n.toNat) (fun q hq => (E q).1 hq) (by omega) r6
      · rw [if_neg (show ¬ (σ'.1 3 ≠ -1) from fun w => w c4), if_neg (show ¬ (σ'.1 2 = 1) from c5), if_neg (show ¬ (τ'.1 ≠ 0) from fun w => w r4), if_neg (show ¬ (τ'.2.1 6 ≠ 0) from fun w => w r5)]
        -- both have the same number
        have E1 := c7.2.2.2.2.2.1.all
        have E2 := r7.2.2.2.2.1.all
        rw [fU_same] at E1 E2
        have m1 := rows_le (P := Al G p0 (i + 1)) (fun q hq => (E1 q).1 hq) r7.2.2.1 (fun k hk => (E2 _).2 ⟨k, hk, rfl⟩)
        have m2 := rows_le (P := Al G p0 (i + 1)) (fun q hq => (E2 q).1 hq) c7.2.2.1 (fun k hk => (E1 _).2 ⟨k, hk, rfl⟩)
        have mm : cC σ' = sCt τ' := by omega
        have v1 := c1.1.2.1
        have e1 : cC σ' = (σ'.1 1).toNat := rfl
        have e2 : sCt τ' = (τ'.2.1 4).toNat := rfl
        have b := r7.2.1
        have c4' : σ'.1 1 = τ'.2.1 4 := by omega
        have p4 : σ'.1 4 = τ'.2.1 3 := by rw [c2, r1]; exact cnt4
        by_cases q : σ'.1 1 = σ'.1 4
        · rw [if_pos q, if_pos (show τ'.2.1 4 = τ'.2.1 3 by omega)]
          exact ⟨rfl, p4, c1, Or.inl ⟨by show (-3 : Int) ≤ 0; omega, c4⟩⟩
        · rw [if_neg q, if_neg (show ¬ τ'.2.1 4 = τ'.2.1 3 by omega)]
          have pb : (σ'.1 4).toNat = fU beg (i + 2) (cC σ') (i + 1) := by
            rw [fUn _ (by omega), c2, ← hC.2.1.2.2.2]
          have R2 : RS G p0 n (i + 1) (fU beg (i + 2) (cC σ')) τ' := by rw [mm]; exact r7
          have := ih (i + 1) k k' (fU beg (i + 2) (cC σ')) σ' τ' c7 R2 (fun a ha => by
            by_cases e : a = i + 1
            · rw [e, fU_same, fUn _ (by omega)]
              have : beg (i + 1) = (σ.1 1).toNat := hC.2.1.2.2.2.symm
              have v2 := hC.1.1.2.1
              omega
            · rw [fUn _ (by omega), fUn _ (by omega)]
              exact hb a (by omega)) (by omega) (by omega) (by omega)
          rw [← pb, show (((i + 1 : Nat) : Int) + 1) = (i : Int) + 1 + 1 by omega] at this
          exact this
end ZRZ
