section ZSC
variable {G N : Nat → Int} {A : Nat → Nat → Int} {τ τ0 : MO} {n l u : Int} {r : Nat}
/-- the reference's numbers are in range, its table stays -/
def MV (n : Int) (τ0 τ : MO) : Prop := spI 0 n τ ∧ kt τ0 τ
theorem spI.up (h : spI 0 n τ) (hr : (r : Int) < τ.2.1 4) : spI r n τ := ⟨h.1, ⟨hr, h.2.1.2⟩, h.2.2⟩
theorem spI.dn (h : spI r n τ) : spI 0 n τ := ⟨h.1, ⟨by have := h.2.1.1; show ((0 : Nat) : Int) < _; omega, h.2.1.2⟩, h.2.2⟩
theorem ks.kt (h : ks τ0 τ) : kt τ0 τ := ⟨h.1, fun i hi => h.2.2.1 i (by omega)⟩
theorem kq.kt (h : kq τ0 τ) : kt τ0 τ := ⟨h.1, fun i hi => h.2.2 i (by omega)⟩
theorem onW_1 (hG : gmV G) : onW G 1 ∧ (((gAll G + 3).toNat : Nat) : Int) = onF G 1 := by
  have := gAll_rng hG
  refine ⟨by unfold onW; omega, ?_⟩
  unfold onF
  rw [if_pos (by omega)]
  omega
theorem spC_I (hG : gmV G) : ∀ (j : Nat) (c : Int) (τ : MO), spI r n τ → spI r n (spC G r n j c τ) := by
  intro j
  induction j with
  | zero => intro c τ h; exact h
  | succ j ih => intro c τ h; exact ih _ _ (spI.all hG _ 1 τ h (onW_1 hG).1 (onW_1 hG).2)
theorem sp0_I (hG : gmV G) (h : spI r n τ) : spI r n (sp0 G r 0 τ.2.1 τ.2.2) := ⟨rg_V hG h.1, h.2.1, h.2.2.1, Or.inl rfl, h.2.2.2.2⟩
theorem lvR_I (hG : gmV G) : ∀ (j r : Nat) (τ : MO), spI 0 n τ → (r : Int) + j ≤ τ.2.1 4 → spI 0 n (lvR G n j r τ) := by
  intro j
  induction j with
  | zero => intro r τ h _; exact h
  | succ j ih =>
    intro r τ h hr
    have a : spI r n (sprd G r n τ.2.1 τ.2.2) := spC_I hG _ 0 _ (sp0_I hG (h.up (by omega)))
    have k : ks τ (sprd G r n τ.2.1 τ.2.2) := ks_sprd (x := τ.1)
    refine ih (r + 1) _ ⟨a.1, a.dn.2.1, a.2.2.1, ?_, a.2.2.2.2⟩ ?_
    · show (if τ.1 = 0 ∧ (sprd G r n τ.2.1 τ.2.2).1 = 0 then (0 : Int) else 1) = 0 ∨ (if τ.1 = 0 ∧ (sprd G r n τ.2.1 τ.2.2).1 = 0 then (0 : Int) else 1) = 1
      split
      · exact Or.inl rfl
      · exact Or.inr rfl
    · have := k.2.2.2.2
      show ((r + 1 : Nat) : Int) + j ≤ (sprd G r n τ.2.1 τ.2.2).2.1 4
      omega
theorem lv_I (hG : gmV G) (hn : n ≤ 200) (h : spI 0 n τ) (hf : lvF τ ≤ sCt τ) : spI 0 n (lv G n τ) := by
  refine lvR_I hG _ _ _ ⟨?_, h.2.1, Or.inl rfl, Or.inl rfl, h.2.2.2.2⟩ ?_
  · obtain ⟨⟨a, b, c, d, e⟩, f⟩ := h
    have f1 := f.1
    exact ⟨a, b, c, iU_rng d (by omega), e⟩
  · have : 0 ≤ τ.2.1 4 := by have := h.2.1.1; omega
    show ((lvF τ : Nat) : Int) + (((τ.2.1 4).toNat - lvF τ : Nat) : Int) ≤ τ.2.1 4
    have : lvF τ ≤ (τ.2.1 4).toNat := hf
    omega
theorem lv_kt : kt τ (lv G n τ) := by
  have a : ks (lvS τ) (lv G n τ) := ks_lvR _ _ _
  exact kt_lvS.trans a.kt
theorem igC_I (hG : gmV G) : ∀ (j : Nat) (c : Int) (τ : MO), spI r n τ → spI r n (igC G r l j c τ) := by
  intro j
  induction j with
  | zero => intro c τ h; exact h
  | succ j ih =>
    intro c τ h
    unfold igC
    split
    · exact ih _ _ (igI.all (τ0 := τ) (l := l) (c := c) hG _ 1 τ ⟨h, kp.rf⟩ (onW_1 hG).1 (onW_1 hG).2).1
    · exact h
theorem gdS_I (hG : gmV G) (h : spI 0 n τ) (hr : (r : Int) < τ.2.1 4) : spI 0 n (gdS G l r τ) := by
  have a : spI r n (ig G r l τ.2.1 τ.2.2) := igC_I hG _ 0 _ (sp0_I hG (h.up hr))
  obtain ⟨⟨b1, b2, b3, b4, b5⟩, c1, c2, c3, c4⟩ := a
  exact ⟨⟨b1, b2, iU_rng b3 (by omega), b4, b5⟩, ⟨by show ((0 : Nat) : Int) < (ig G r l τ.2.1 τ.2.2).2.1 4; omega, c1.2⟩, c2, h.2.2.2.1, c4⟩
end ZSC
section ZSD
variable {G N : Nat → Int} {A : Nat → Nat → Int} {τ τ0 : MO} {n l u : Int} {i r L : Nat} {p0 : List Int} {beg : Nat → Nat} {Y : Nat → Nat → Int} {C : Nat → List Int}
theorem gdR_I (hG : gmV G) : ∀ (j r : Nat) (τ : MO), spI 0 n τ → (r : Int) + j ≤ τ.2.1 4 → spI 0 n (gdR G l j r τ) ∧ (gdR G l j r τ).2.1 4 = τ.2.1 4 ∧ kq τ (gdR G l j r τ) := by
  intro j
  induction j with
  | zero => intro r τ h _; exact ⟨h, rfl, kq.rf⟩
  | succ j ih =>
    intro r τ h hr
    have k1 : kp τ (sp0 G r 0 τ.2.1 τ.2.2) := kp_rg (x := τ.1)
    have kT : ∀ (j : Nat) (c o : Int) (τ : MO), kp τ (igT G r l c j o τ) := by
      intro j
      induction j with
      | zero => intro c o τ; exact kp.rf
      | succ j ih2 =>
        intro c o τ
        unfold igT
        split
        · exact kp_ld.trans (ih2 _ _ _)
        · exact kp.rf
    have kC : ∀ (j : Nat) (c : Int) (τ : MO), kp τ (igC G r l j c τ) := by
      intro j
      induction j with
      | zero => intro c τ; exact kp.rf
      | succ j ih2 =>
        intro c τ
        unfold igC
        split
        · exact (kT _ _ _ _).trans (ih2 _ _)
        · exact kp.rf
    have k2 : kp τ (ig G r l τ.2.1 τ.2.2) := k1.trans (kC _ _ _)
    have k3 : kq τ (gdS G l r τ) := by
      refine ⟨fun i hi => ?_, k2.2.1, k2.2.2.2⟩
      show fU _ 9 _ i = _
      rw [fUn _ (by omega)]
      exact k2.1 i hi
    have e4 : (gdS G l r τ).2.1 4 = τ.2.1 4 := k3.2.2 4 (by omega)
    obtain ⟨a, b, c⟩ := ih (r + 1) (gdS G l r τ) (gdS_I hG h (by omega)) (by rw [e4]; omega)
    exact ⟨a, b.trans e4, k3.trans c⟩
theorem gdL_I (hG : gmV G) : ∀ (l : Nat) (τ : MO), spI 0 n τ → (∀ j, j ≤ l + 1 → 0 ≤ τ.2.2 10 j ∧ τ.2.2 10 j ≤ τ.2.1 4) → (∀ j, j ≤ l → τ.2.2 10 j ≤ τ.2.2 10 (j + 1)) → spI 0 n (gdL G l τ) ∧ kq τ (gdL G l τ) := by
  intro l
  induction l with
  | zero => intro τ h _ _; exact ⟨h, kq.rf⟩
  | succ l ih =>
    intro τ h hb hm
    have b1 := hb (l + 1) (by omega)
    have b2 := hb (l + 2) (by omega)
    have m1 := hm (l + 1) (by omega)
    obtain ⟨s1, s2, s3⟩ := gdR_I (l := (l : Int) + 1) hG (gdN τ (l + 1)) (τ.2.2 10 (l + 1)).toNat τ h (by
      show (((τ.2.2 10 (l + 1)).toNat : Nat) : Int) + (((τ.2.2 10 (l + 2)).toNat - (τ.2.2 10 (l + 1)).toNat : Nat) : Int) ≤ τ.2.1 4
      have m1 : τ.2.2 10 (l + 1) ≤ τ.2.2 10 (l + 2) := m1
      omega)
    have e : gdL G (l + 1) τ = gdL G l (gdR G ((l : Int) + 1) (gdN τ (l + 1)) (τ.2.2 10 (l + 1)).toNat τ) := rfl
    rw [e]
    obtain ⟨i1, i2⟩ := ih _ s1 (fun j hj => by rw [s3.2.1, s2]; exact hb j (by omega)) (fun j hj => by rw [s3.2.1]; exact hm j (by omega))
    exact ⟨i1, s3.trans i2⟩
theorem fmC_I (hG : gmV G) (hT : topsIn G A) : ∀ (j : Nat) (k : Int) (τ : MO), spI 0 n τ → (∀ i, i ≤ 6 → τ.2.2 i = A i) → 0 ≤ k → msV (fmC G j k τ).2.1 (fmC G j k τ).2.2 ∧ ((fmC G j k τ).2.1 6 = 0 ∨ (fmC G j k τ).2.1 6 = 1) ∧ ((fmC G j k τ).2.1 7 = 0 ∨ (fmC G j k τ).2.1 7 = 1) ∧ kp τ (fmC G j k τ) := by
  intro j
  induction j with
  | zero => intro k τ h hA _; exact ⟨h.1, h.2.2.1, h.2.2.2.2, kp.rf (τ := τ)⟩
  | succ j ih =>
    intro k τ h hA hk
    by_cases q : fmT G (k / 16) (k % 16) ∧ mOne G τ.2.2 (k / 16) (k % 16)
    · have t := ((hT τ.2.2 hA).2 _ _ q.1 q.2)
      have o1 : 0 ≤ mOa G τ.2.2 (k % 16) ∧ mOa G τ.2.2 (k % 16) ≤ 61 := by
        have := gAll_rng hG
        have := t.2
        unfold onR at this
        omega
      have s := spI_ld (G := G) (l := 0) (c := mTp G τ.2.2 (k / 16)) h o1
      have kk : kp τ (fmL G τ (k / 16) (k % 16)) := kp_ld
      by_cases x : (fmL G τ (k / 16) (k % 16)).1 = 0
      · have e : fmC G (j + 1) k τ = fmC G j (k + 1) (fmL G τ (k / 16) (k % 16)) := (if_pos q).trans (if_pos x)
        rw [e]
        obtain ⟨a, b, c, d⟩ := ih (k + 1) (fmL G τ (k / 16) (k % 16)) s (fun i hi => (kk.1 i hi).trans (hA i hi)) (by omega)
        exact ⟨a, b, c, kk.trans d⟩
      · have e : fmC G (j + 1) k τ = (k, (fmL G τ (k / 16) (k % 16)).2.1, (fmL G τ (k / 16) (k % 16)).2.2) := (if_pos q).trans (if_neg x)
        rw [e]
        exact ⟨s.1, s.2.2.1, s.2.2.2.2, kk⟩
    · have e : fmC G (j + 1) k τ = fmC G j (k + 1) τ := if_neg q
      rw [e]
      exact ih (k + 1) τ h hA (by omega)
/-- the uppermost cards are cards -/
theorem SR.topsIn (hG : gmV G) (hV : mtV A) (h : SR G Y A C) : topsIn G A := by
  have hG' := hG
  unfold gmV at hG'
  have hAl := gAll_rng hG
  intro A' hA
  have a0 := hA 0 (by omega)
  have a1 := hA 1 (by omega)
  have a2 := hA 2 (by omega)
  have a3 := hA 3 (by omega)
  have a4 := hA 4 (by omega)
  have a5 := hA 5 (by omega)
  refine ⟨by unfold mtV at hV ⊢; rw [a0, a1, a2, a3, a4, a5]; exact hV, fun z y hf hm => ?_⟩
  have eTp : mTp G A' z = Y 1 z.toNat := by
    rw [← h.top hG hf.1]
    unfold mTp mFT; rw [a0, a1, a2]
  have c0 : 0 ≤ mTp G A' z := hm.1
  rw [eTp] at c0 ⊢
  have tlt : ∀ p : Nat, p < 8 → Y 1 p < gAll G := fun p hp => by
    have pl := (h.1 p hp).1
    cases hl : C p with
    | nil => rw [hl] at pl; have pl : Y 1 p = -1 := pl; omega
    | cons a l =>
      rw [hl] at pl
      rw [pl.1]
      exact (h.mem hG hp a (by rw [hl]; exact List.mem_cons_self ..)).2
  refine ⟨⟨c0, ?_⟩, ?_⟩
  · rcases hf.1 with q | q
    · exact tlt z.toNat (by omega)
    · have a := h.2.2.1 (z - 8).toNat (by omega)
      rw [show 8 + (z - 8).toNat = z.toNat by omega] at a
      omega
  · rcases hf.2 with q | q | q
    · have e : mOa G A' y = if A 1 y.toNat = 0 then 3 else 10 + Y 1 y.toNat := by
        have b := (h.bare (p := y.toNat) (by omega)).2.2
        rw [show ((y.toNat : Nat) : Int) = y by omega] at b
        unfold mOa
        rw [if_neg (by omega), if_neg (by omega), ← b]
        unfold mFT; rw [a0, a1]
      rw [e]
      have b := h.bare (p := y.toNat) (by omega)
      by_cases w : A 1 y.toNat = 0
      · rw [if_pos w]; unfold onR; omega
      · rw [if_neg w]
        have := tlt y.toNat (by omega)
        have n1 : Y 1 y.toNat ≠ -1 := fun v => w (b.2.1.2 (b.1.1 v))
        have pl := (h.1 y.toNat (by omega)).1
        have g0 : 0 ≤ Y 1 y.toNat := by
          cases hl : C y.toNat with
          | nil => exact absurd (b.1.2 hl) n1
          | cons a l => rw [hl] at pl; have e1 := pl.1; have e2 := pl.2.1; omega
        unfold onR
        omega
    · have e : mOa G A' y = 2 := by unfold mOa; rw [if_neg (by omega), if_pos q]
      rw [e]; unfold onR; omega
    · have e : mOa G A' y = 1 := by unfold mOa; rw [if_pos q]
      rw [e]; unfold onR; omega
end ZSD
