section ZRS
variable {G : Nat → Int} {τ : MO} {n o x0 : Int} {r m0 c : Nat} {R0 : Nat → List Int} {D D' : List Int → Prop} {b0 : Nat → Int}
abbrev rwK (G : Nat → Int) (b0 : Nat → Int) (r : Nat) (τ : MO) : Prop := rgd G τ.2.1 τ.2.2 r ∧ ∀ x, x < nC G → rowB (τ.2.2 7) r x = b0 x
theorem RI.one' (hG : gmV G) (hw : ∀ i, i < m0 → R0 i ≠ wnP (nC G)) (h : RI G n m0 R0 x0 D τ) (hr : r < m0) (hg : rwK G b0 r τ) (hc : c < nC G) (ho : onR G o) :
    RI G n m0 R0 x0 (fun q => D q ∨ (mayB G b0 c (dec o) ∧ q = pos (nC G) (iU b0 c (dec o)))) (spO G r n c o τ) ∧ rwK G b0 r (spO G r n c o τ) := by
  obtain ⟨a1, a2, a3⟩ := h.one hG hw hr hg.1 hc ho
  refine ⟨a1.cong fun q => or_congr Iff.rfl ?_, a2, fun x hx => (a3 x hx).trans (hg.2 x hx)⟩
  have e : nwP G (τ.2.2 7) r c o = pos (nC G) (iU b0 c (dec o)) := pos_eq.2 fun x hx => by
    unfold iU
    split
    · rfl
    · exact hg.2 x hx
  rw [e]
  exact and_congr ⟨mayB_c hg.2, mayB_c fun x hx => (hg.2 x hx).symm⟩ Iff.rfl
theorem RI.sT (hG : gmV G) (hw : ∀ i, i < m0 → R0 i ≠ wnP (nC G)) (hr : r < m0) (hc : c < nC G) : ∀ (j : Nat) (o : Int) (τ : MO) (D : List Int → Prop), RI G n m0 R0 x0 D τ → rwK G b0 r τ → onW G o → (j : Int) = onF G o →
    RI G n m0 R0 x0 (fun q => D q ∨ ∃ o', o ≤ o' ∧ onR G o' ∧ mayB G b0 c (dec o') ∧ q = pos (nC G) (iU b0 c (dec o'))) (spT G r n c j o τ) ∧ rwK G b0 r (spT G r n c j o τ) := by
  have hA := gAll_rng hG
  intro j
  induction j with
  | zero =>
    intro o τ D h hg hw hj
    have : o = 10 + gAll G := by unfold onF at hj; unfold onW at hw; split at hj <;> omega
    refine ⟨h.cong fun q => ⟨Or.inl, fun w => ?_⟩, hg⟩
    rcases w with w | ⟨o', h1, h2, -⟩
    · exact w
    · unfold onR at h2; omega
  | succ j ih =>
    intro o τ D h hg hw' hj
    have ho : onR G o := by unfold onF at hj; unfold onW at hw'; unfold onR; split at hj <;> omega
    obtain ⟨s1, s2⟩ := h.one' hG hw hr hg hc ho
    have w2 : onW G (mAf o) := by unfold mAf onW; unfold onR at ho; split <;> omega
    have j2 : (j : Int) = onF G (mAf o) := by
      unfold mAf onF at *
      unfold onR at ho
      split at hj <;> split <;> split <;> omega
    obtain ⟨i1, i2⟩ := ih (mAf o) _ _ s1 s2 w2 j2
    refine ⟨RI.cong i1 fun q => ?_, i2⟩
    constructor
    · rintro ((w | w) | ⟨o', h1, h2⟩)
      · exact Or.inl w
      · exact Or.inr ⟨o, Int.le_refl _, ho, w.1, w.2⟩
      · refine Or.inr ⟨o', ?_, h2⟩
        unfold mAf at h1
        split at h1 <;> omega
    · rintro (w | ⟨o', h1, h2, h3⟩)
      · exact Or.inl (Or.inl w)
      · by_cases e : o' = o
        · rw [e] at h3
          exact Or.inl (Or.inr h3)
        · refine Or.inr ⟨o', ?_, h2, h3⟩
          unfold mAf
          unfold onR at h2 ho
          split <;> omega
theorem RI.sC (hG : gmV G) (hw : ∀ i, i < m0 → R0 i ≠ wnP (nC G)) (hr : r < m0) : ∀ (j c : Nat) (τ : MO) (D : List Int → Prop), RI G n m0 R0 x0 D τ → rwK G b0 r τ → c + j = nC G →
    RI G n m0 R0 x0 (fun q => D q ∨ ∃ c' o', c ≤ c' ∧ c' < nC G ∧ onR G o' ∧ mayB G b0 c' (dec o') ∧ q = pos (nC G) (iU b0 c' (dec o'))) (spC G r n j c τ) ∧ rwK G b0 r (spC G r n j c τ) := by
  have hA := gAll_rng hG
  intro j
  induction j with
  | zero =>
    intro c τ D h hg hj
    refine ⟨h.cong fun q => ⟨Or.inl, fun w => ?_⟩, hg⟩
    rcases w with w | ⟨c', o', h1, h2, -⟩
    · exact w
    · omega
  | succ j ih =>
    intro c τ D h hg hj
    obtain ⟨s1, s2⟩ := RI.sT (c := c) hG hw hr (by omega) (gAll G + 3).toNat 1 τ D h hg (by unfold onW; omega) (by unfold onF; rw [if_pos (by omega)]; omega)
    obtain ⟨i1, i2⟩ := ih (c + 1) _ _ s1 s2 (by omega)
    rw [show ((c + 1 : Nat) : Int) = (c : Int) + 1 by omega] at i1 i2
    refine ⟨RI.cong i1 fun q => ?_, i2⟩
    constructor
    · rintro ((w | ⟨o', h1, h2, h3⟩) | ⟨c', o', h1, h2⟩)
      · exact Or.inl w
      · exact Or.inr ⟨c, o', Nat.le_refl _, by omega, h2, h3⟩
      · exact Or.inr ⟨c', o', by omega, h2⟩
    · rintro (w | ⟨c', o', h1, h2, h3, h4⟩)
      · exact Or.inl (Or.inl w)
      · by_cases e : c' = c
        · rw [e] at h4
          exact Or.inl (Or.inr ⟨o', by unfold onR at h3; omega, h3, h4⟩)
        · exact Or.inr ⟨c', o', by omega, h2, h3, h4⟩
/-- every ground has its sign -/
theorem dec_ex (hG : gmV G) {c : Nat} (h : mayB G b0 c o) : ∃ o', onR G o' ∧ dec o' = o := by
  have hA := gAll_rng hG
  obtain ⟨-, -, -, -, h⟩ := h
  rcases h with ⟨h, -⟩ | ⟨h, -⟩ | ⟨h, -⟩ | ⟨h, h2, -⟩
  · exact ⟨1, by unfold onR; omega, by rw [h]; rfl⟩
  · exact ⟨2, by unfold onR; omega, by rw [h]; rfl⟩
  · exact ⟨3, by unfold onR; omega, by rw [h]; rfl⟩
  · refine ⟨10 + o, by unfold onR; omega, ?_⟩
    unfold dec
    rw [if_neg (by omega), if_neg (by omega), if_neg (by omega)]
    omega
theorem RI.spr (hG : gmV G) (hw : ∀ i, i < m0 → R0 i ≠ wnP (nC G)) (hr : r < m0) (h : RI G n m0 R0 0 D τ) : RI G n m0 R0 0 (fun q => D q ∨ Sc G (R0 r) q) (lvO τ.1 (sprd G r n τ.2.1 τ.2.2)) := by
  have hA := gAll_rng hG
  obtain ⟨h1, h2, h3, h4, h5, h6, h7, h8, h9⟩ := h
  have e4 : rgN τ.2.1 (rg G τ.2.2 r) 4 = τ.2.1 4 := rfl
  have e6 : rgN τ.2.1 (rg G τ.2.2 r) 6 = τ.2.1 6 := rfl
  have s0 : RI G n m0 R0 τ.1 D (sp0 G r 0 τ.2.1 τ.2.2) := by
    refine ⟨h1, h2, h3, h4, h5, h6, h7, h8, ?_⟩
    rw [← h9]
    exact ⟨fun w => w.elim (fun a => Or.inr a) (fun a => absurd rfl a), fun w => w.elim (fun a => absurd rfl a) (fun a => Or.inl a)⟩
  have k0 : rwK G (rowB (τ.2.2 7) r) r (sp0 G r 0 τ.2.1 τ.2.2) := ⟨rg_I hG, fun x hx => rfl⟩
  obtain ⟨s1, -⟩ := RI.sC hG hw hr (nC G) 0 _ D s0 k0 (by omega)
  have s1 := s1.cong (D' := fun q => D q ∨ Sc G (R0 r) q) fun q => or_congr Iff.rfl (by
    rw [← h5 r hr, Sc_of]
    constructor
    · rintro ⟨c', o', -, -, a3, a4, a5⟩
      exact ⟨c', dec o', a4, a5⟩
    · rintro ⟨c', o, a4, a5⟩
      obtain ⟨o', b1, b2⟩ := dec_ex hG a4
      rw [← b2] at a4 a5
      exact ⟨c', o', by omega, a4.1, b1, a4, a5⟩)
  obtain ⟨g1, g2, g3, g4, g5, g6, g7, g8, g9⟩ := s1
  refine ⟨g1, g2, g3, g4, g5, g6, g7, g8, ?_⟩
  rw [← g9]
  show ((0 : Int) ≠ 0 ∨ (if τ.1 = 0 ∧ (sprd G r n τ.2.1 τ.2.2).1 = 0 then (0 : Int) else 1) ≠ 0) ↔ τ.1 ≠ 0 ∨ (sprd G r n τ.2.1 τ.2.2).1 ≠ 0
  by_cases q : τ.1 = 0 ∧ (sprd G r n τ.2.1 τ.2.2).1 = 0
  · rw [if_pos q]
    exact ⟨fun w => by rcases w with w | w <;> exact absurd rfl w, fun w => by rcases w with w | w; exact absurd q.1 w; exact absurd q.2 w⟩
  · rw [if_neg q]
    refine ⟨fun _ => ?_, fun _ => Or.inr (by decide)⟩
    by_cases a : τ.1 = 0
    · exact Or.inr fun b => q ⟨a, b⟩
    · exact Or.inl a
theorem RI.lvA (hG : gmV G) (hw : ∀ i, i < m0 → R0 i ≠ wnP (nC G)) : ∀ (j r : Nat) (τ : MO) (D : List Int → Prop), RI G n m0 R0 0 D τ → r + j = m0 →
    RI G n m0 R0 0 (fun q => D q ∨ ∃ i, r ≤ i ∧ i < m0 ∧ Sc G (R0 i) q) (lvR G n j r τ) := by
  intro j
  induction j with
  | zero =>
    intro r τ D h hj
    refine h.cong fun q => ⟨Or.inl, fun w => ?_⟩
    rcases w with w | ⟨i, h1, h2, -⟩
    · exact w
    · omega
  | succ j ih =>
    intro r τ D h hj
    refine RI.cong (ih (r + 1) _ _ (h.spr hG hw (r := r) (by omega)) (by omega)) fun q => ?_
    constructor
    · rintro ((w | w) | ⟨i, h1, h2⟩)
      · exact Or.inl w
      · exact Or.inr ⟨r, Nat.le_refl _, by omega, w⟩
      · exact Or.inr ⟨i, by omega, h2⟩
    · rintro (w | ⟨i, h1, h2, h3⟩)
      · exact Or.inl (Or.inl w)
      · by_cases e : i = r
        · rw [e] at h3; exact Or.inl (Or.inr h3)
        · exact Or.inr ⟨i, by omega, h2, h3⟩
/-- a level of the reference -/
theorem lv_spec (hG : gmV G) (h1 : rws G τ.2.2 (sCt τ)) (h2 : 0 ≤ τ.2.1 4 ∧ τ.2.1 4 ≤ n) (h3 : ∀ i j, i < sCt τ → j < sCt τ → rPos G (τ.2.2 7) i = rPos G (τ.2.2 7) j → i = j) (hw : ∀ i, i < sCt τ → rPos G (τ.2.2 7) i ≠ wnP (nC G)) (hf : lvF τ ≤ sCt τ) :
    RI G n (sCt τ) (rPos G (τ.2.2 7)) 0 (fun q => ∃ i, lvF τ ≤ i ∧ i < sCt τ ∧ Sc G (rPos G (τ.2.2 7) i) q) (lv G n τ) := by
  have s0 : RI G n (sCt τ) (rPos G (τ.2.2 7)) 0 (fun _ => False) (lvS τ) := by
    refine ⟨h1, h2, Nat.le_refl _, h3, fun i _ => rfl, fun i a b => ?_, fun _ q w => w.elim, fun w => absurd rfl w, ⟨fun w => ?_, fun ⟨q, w, _⟩ => w.elim⟩⟩
    · have b : i < sCt τ := b
      omega
    · rcases w with w | w <;> exact absurd rfl w
  have := RI.lvA hG hw ((τ.2.1 4).toNat - lvF τ) (lvF τ) _ _ s0 (by show lvF τ + (sCt τ - lvF τ) = sCt τ; omega)
  exact this.cong fun q => ⟨fun w => w.elim (fun a => a.elim) id, Or.inr⟩
end ZRS
