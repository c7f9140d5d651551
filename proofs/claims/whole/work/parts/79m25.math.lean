section ZSG
variable {G N : Nat → Int} {A Y : Nat → Nat → Int} {C : Nat → List Int} {σ : SS} {τ : MO} {n u s k : Int} {L : Nat} {p0 : List Int} {beg : Nat → Nat}
/-- the hint of the reference -/
theorem fm_eq (hG : gmV G) (hW : lyW Y) (h : SR G Y A C) (hp : pos (nC G) (Y 0) = p0) (hw : p0 ≠ wnP (nC G)) (hR : RW G p0 (L + 1) beg τ) (hA : ∀ i, i ≤ 6 → τ.2.2 i = A i) (hs : fsP G p0 Y L s) : (fm G τ.2.1 τ.2.2).1 = s := by
  have e5 : (τ.2.1 5 - 1).toNat = L := by have := hR.2.2.2.2.2.2.1; omega
  have K := hR
  obtain ⟨g1, g2⟩ := gdL_spec hG L (0, τ.2.1, τ.2.2) (show RW G p0 (L + 1) beg (0, τ.2.1, τ.2.2) from hR) (by omega) (fun l a b => by omega)
  have R1 : RW G p0 (L + 1) beg (fmG G τ.2.1 τ.2.2) := by
    unfold fmG
    rw [e5]
    exact g1.rw hG (show RW G p0 (L + 1) beg (0, τ.2.1, τ.2.2) from hR)
  have G1 : GO G p0 (L + 1) beg 1 (fmG G τ.2.1 τ.2.2) := by unfold fmG; rw [e5]; exact g2
  have A1 : ∀ i, i ≤ 6 → (fmG G τ.2.1 τ.2.2).2.2 i = A i := fun i hi => by
    unfold fmG
    rw [e5]
    exact (g1.2.2.2.2.2.2 i hi).trans (hA i hi)
  unfold fm
  generalize fmG G τ.2.1 τ.2.2 = τ1 at *
  have k0 : lk G τ1 (sp0 G 0 0 τ1.2.1 τ1.2.2) := lk_rg
  have R2 := k0.rw hG R1
  have G2 := k0.go hG R1 G1
  have r0 : rPos G (τ1.2.2 7) 0 = p0 := by
    have E := R1.2.2.2.2.2.1
    obtain ⟨k, a, b, c⟩ := (E.2.2.2 0 (by omega) p0).1 rfl
    rw [E.2.1] at b
    have : k = 0 := by omega
    rw [this] at c
    exact c
  have rk : rwK G (Y 0) 0 (sp0 G 0 0 τ1.2.1 τ1.2.2) := ⟨rg_I hG, fun x hx => by
    have := pos_eq.1 (r0.trans hp.symm) x hx
    exact this⟩
  have F := fmC_spec hG hW h hp hw 208 0 (sp0 G 0 0 τ1.2.1 τ1.2.2) R2 (fun i hi => (k0.2.2.2.2.2.2.2 i hi).trans (A1 i hi)) G2 rk (by omega) (by omega)
  obtain ⟨s1, s2⟩ := fs_fm hG hW h hs
  have sb : 0 ≤ s ∧ s < 208 := by
    obtain ⟨q, ⟨z, y, a, b, c, d, -, e, -⟩, -⟩ := s1
    omega
  rcases F with ⟨a, b, c⟩ | ⟨a, b⟩
  · have l1 := s2 _ a
    have l2 : ¬ s < (fmC G 208 0 (sp0 G 0 0 τ1.2.1 τ1.2.2)).1 := fun w => c s sb.1 w s1
    omega
  · exact absurd s1 (b s sb.1 sb.2)
/-- the reference's numbers after the levels -/
theorem seL_V (hG : gmV G) (hn : n ≤ 200) : ∀ (k i : Nat) (beg : Nat → Nat) (τ : MO), RS G p0 n i beg τ → spI 0 n τ → spI 0 n (0, (seL G n k τ).2.1, (seL G n k τ).2.2) ∧ kt τ (seL G n k τ) := by
  intro k
  induction k with
  | zero => intro i beg τ _ h; exact ⟨⟨h.1, h.2.1, h.2.2.1, Or.inl rfl, h.2.2.2.2⟩, fun _ _ => rfl, fun _ _ => rfl⟩
  | succ k ih =>
    intro i beg τ hR h
    have ef : lvF τ ≤ sCt τ := by
      have e : lvF τ = beg i := by
        show (τ.2.2 10 (τ.2.1 5).toNat).toNat = _
        rw [hR.2.2.2.2.2.1, show ((i : Int)).toNat = i by omega, hR.2.2.2.2.2.2 i (Nat.le_refl _)]
        omega
      rw [e, hR.2.1.2.2]
      exact hR.2.2.2.2.1.2.2.1 i (Nat.le_refl _)
    have a := lv_I (G := G) hG hn h ef
    have b := lv_kt (G := G) (n := n) (τ := τ)
    have st := (hR.step hG).2.2
    have e : seL G n (k + 1) τ = if (lv G n τ).1 ≠ 0 then ((lv G n τ).2.1 5, (lv G n τ).2.1, (lv G n τ).2.2) else if (lv G n τ).2.1 6 ≠ 0 then (-2, (lv G n τ).2.1, (lv G n τ).2.2) else if (lv G n τ).2.1 4 = (lv G n τ).2.1 3 then (-3, (lv G n τ).2.1, (lv G n τ).2.2) else seL G n k (lv G n τ) := rfl
    rw [e]
    generalize lv G n τ = τ' at *
    have a' : spI 0 n (0, τ'.2.1, τ'.2.2) := ⟨a.1, a.2.1, a.2.2.1, Or.inl rfl, a.2.2.2.2⟩
    by_cases c1 : τ'.1 ≠ 0
    · rw [if_pos c1]; exact ⟨a', b⟩
    · rw [if_neg c1]
      by_cases c2 : τ'.2.1 6 ≠ 0
      · rw [if_pos c2]; exact ⟨a', b⟩
      · rw [if_neg c2]
        by_cases c3 : τ'.2.1 4 = τ'.2.1 3
        · rw [if_pos c3]; exact ⟨a', b⟩
        · rw [if_neg c3]
          rcases st with w | w | w
          · exact absurd w.2.1 c1
          · exact absurd w.2.2.1 c2
          · obtain ⟨i1, i2⟩ := ih (i + 1) _ τ' w.2.2.2.2 a
            exact ⟨i1, b.trans i2⟩
theorem se0_I (hV : mtV A) (hM : msV N A) (h6 : N 6 = 0 ∨ N 6 = 1) (h7 : N 7 = 0 ∨ N 7 = 1) (hu : 1 ≤ u) : spI 0 u (se0 G N A) ∧ kt (0, N, A) (se0 G N A) := by
  have F := se0_F (G := G) (x := 0) hV hM h6 h7 hu
  exact ⟨⟨F.1, ⟨by have := F.2.1.1; show ((0 : Nat) : Int) < _; omega, F.2.1.2⟩, F.2.2.1, Or.inl rfl, F.2.2.2.1⟩, F.2.2.2.2.2.2⟩
theorem fm_V (hG : gmV G) (hT : topsIn G A) (hR : RW G p0 (L + 1) beg τ) (h : spI 0 n (0, τ.2.1, τ.2.2)) (hA : ∀ i, i ≤ 6 → τ.2.2 i = A i) :
    msV (fm G τ.2.1 τ.2.2).2.1 (fm G τ.2.1 τ.2.2).2.2 ∧ ((fm G τ.2.1 τ.2.2).2.1 6 = 0 ∨ (fm G τ.2.1 τ.2.2).2.1 6 = 1) ∧ ((fm G τ.2.1 τ.2.2).2.1 7 = 0 ∨ (fm G τ.2.1 τ.2.2).2.1 7 = 1) ∧ (∀ i, i ≤ 6 → (fm G τ.2.1 τ.2.2).2.2 i = A i) ∧ ∀ i, i ≤ 5 → (fm G τ.2.1 τ.2.2).2.1 i = τ.2.1 i := by
  have e5 : (τ.2.1 5 - 1).toNat = L := by have := hR.2.2.2.2.2.2.1; omega
  have b10 := hR.2.2.2.2.2.2.2
  have g := gdL_I hG L (0, τ.2.1, τ.2.2) h (fun j hj => by
    show 0 ≤ τ.2.2 10 j ∧ τ.2.2 10 j ≤ τ.2.1 4
    have := b10 j hj
    have m := hR.num j hj
    have e : sCt τ = (τ.2.1 4).toNat := rfl
    have := hR.2.1.1
    omega) (fun j hj => by
    show τ.2.2 10 j ≤ τ.2.2 10 (j + 1)
    have := b10 j (by omega)
    have := b10 (j + 1) (by omega)
    have := hR.2.2.2.2.2.1.mono j (j + 1) (by omega) (by omega)
    omega)
  unfold fm fmG
  rw [e5]
  obtain ⟨g1, g2⟩ := g
  generalize gdL G L (0, τ.2.1, τ.2.2) = τ1 at *
  have g2A : ∀ i, i ≤ 6 → τ1.2.2 i = A i := fun i hi => (g2.1 i hi).trans (hA i hi)
  have g2N : ∀ i, i ≤ 5 → τ1.2.1 i = τ.2.1 i := g2.2.2
  have k1 : kp τ1 (sp0 G 0 0 τ1.2.1 τ1.2.2) := kp_rg (x := τ1.1)
  obtain ⟨f1, f2, f3, f4⟩ := fmC_I (n := n) hG hT 208 0 (sp0 G 0 0 τ1.2.1 τ1.2.2) (sp0_I hG g1) (fun i hi => (k1.1 i hi).trans (g2A i hi)) (by omega)
  have k2 := k1.trans f4
  exact ⟨f1, f2, f3, fun i hi => (k2.1 i hi).trans (g2A i hi), fun i hi => (k2.2.2.2 i hi).trans (g2N i hi)⟩
theorem skL_rng : ∀ (k f : Nat) (l : Int) (σ : SS), 0 ≤ l → -3 ≤ (skL G k f l σ).1 ∧ (skL G k f l σ).1 ≤ l + k := by
  intro k
  induction k with
  | zero => intro f l σ hl; show (-3 : Int) ≤ -2 ∧ (-2 : Int) ≤ l + ((0 : Nat) : Int); omega
  | succ k ih =>
    intro f l σ hl
    have e : skL G (k + 1) f l σ = if (skM G f σ).1 3 ≠ -1 then (l, skM G f σ) else if (skM G f σ).1 2 = 1 then (-2, skM G f σ) else if (skM G f σ).1 1 = (skM G f σ).1 4 then (-3, skM G f σ) else skL G k ((skM G f σ).1 4).toNat (l + 1) (skM G f σ) := rfl
    rw [e]
    generalize skM G f σ = σ'
    by_cases c1 : σ'.1 3 ≠ -1
    · rw [if_pos c1]; show -3 ≤ l ∧ l ≤ l + ((k + 1 : Nat) : Int); omega
    · rw [if_neg c1]
      by_cases c2 : σ'.1 2 = 1
      · rw [if_pos c2]; show (-3 : Int) ≤ -2 ∧ (-2 : Int) ≤ l + ((k + 1 : Nat) : Int); omega
      · rw [if_neg c2]
        by_cases c3 : σ'.1 1 = σ'.1 4
        · rw [if_pos c3]; show (-3 : Int) ≤ -3 ∧ (-3 : Int) ≤ l + ((k + 1 : Nat) : Int); omega
        · rw [if_neg c3]
          have := ih (σ'.1 4).toNat (l + 1) σ' (by omega)
          omega
/-- the answers of look -/
theorem look_eq (hG : gmV G) (hW : lyW Y) (h : SR G Y A C) (hf : fullB G (Y 0)) (hσ : seV0 σ.2.1 σ.2.2) (hV : mtV A) (hM : msV N A) (h6 : N 6 = 0 ∨ N 6 = 1) (h7 : N 7 = 0 ∨ N 7 = 1) (hu : 1 ≤ u ∧ u ≤ 200) :
    ((sk G σ Y u).1 = (lkS G (se G u N A)).1 ∧ (sk G σ Y u).2.1 3 = (lkS G (se G u N A)).2.1 2 ∧ (sk G σ Y u).2.1 4 = (lkS G (se G u N A)).2.1 3) ∧ seV0 (sk G σ Y u).2.2.1 (sk G σ Y u).2.2.2 ∧ ((-1 ≤ (sk G σ Y u).2.1 3 ∧ (sk G σ Y u).2.1 3 ≤ 300) ∧ (0 ≤ (sk G σ Y u).2.1 4 ∧ (sk G σ Y u).2.1 4 ≤ 200) ∧ -3 ≤ (sk G σ Y u).1 ∧ (sk G σ Y u).1 ≤ 201) ∧
    (msV (lkS G (se G u N A)).2.1 (lkS G (se G u N A)).2.2 ∧ ((lkS G (se G u N A)).2.1 6 = 0 ∨ (lkS G (se G u N A)).2.1 6 = 1) ∧ ((lkS G (se G u N A)).2.1 7 = 0 ∨ (lkS G (se G u N A)).2.1 7 = 1) ∧ (∀ i, i ≤ 6 → (lkS G (se G u N A)).2.2 i = A i) ∧ ∀ i, i ≤ 1 → (lkS G (se G u N A)).2.1 i = N i) := by
  have eAH := h.2.2.2.2.2.2.2.2
  obtain ⟨i0, i1⟩ := se0_I (G := G) hV hM h6 h7 hu.1
  by_cases q : Y 3 1 = gAll G
  · have e1 : sk G σ Y u = (0, bg G σ Y u) := if_pos q
    have e2 : se G u N A = se0 G N A := if_pos (by rw [← eAH]; exact q)
    have V := bg_V (G := G) hσ hW hu
    have e3 : lkS G (se0 G N A) = (0, iU (se0 G N A).2.1 2 (-1), (se0 G N A).2.2) := if_neg (by show ¬ (0 : Int) < 0; omega)
    have e4 : (se0 G N A).2.1 3 = 0 := iU_same (iU (iU N 4 1) 5 0) 3 0
    rw [e1, e2, e3]
    generalize se0 G N A = τ at *
    refine ⟨⟨rfl, rfl, ?_⟩, ⟨V.2.2.2.2.2.1, V.2.2.2.2.2.2.1, V.2.2.2.2.2.2.2.1, V.2.2.2.2.2.2.2.2⟩, ⟨V.2.2.2.1, V.2.2.2.2.1, by show (-3 : Int) ≤ 0 ∧ (0 : Int) ≤ 201; omega⟩, i0.1, i0.2.2.1, i0.2.2.2.2, i1.1, fun i hi => ?_⟩
    · show (0 : Int) = iU τ.2.1 2 (-1) 3
      rw [iU_ne _ _ (by omega), e4]
    · show iU τ.2.1 2 (-1) i = N i
      rw [iU_ne _ _ (by omega)]
      exact i1.2 i (by omega)
  · have e1 : sk G σ Y u = skL G 200 0 1 (bg G σ Y u) := if_neg q
    have e2 : se G u N A = seL G u u.toNat (se0 G N A) := if_neg (by rw [← eAH]; exact q)
    have hb : ∀ a, a ≤ 0 → beg0 a < beg0 (a + 1) := fun a ha => by
      have : a = 0 := by omega
      subst this
      exact Nat.one_pos
    have R0 := RS0 (N := N) hG hW h hf hu q
    have K := look_sim hG u.toNat 0 200 u.toNat beg0 (bg G σ Y u) (se0 G N A) (CS0 hG hW h hf hσ hu q) R0 hb (by omega) (by omega) (by omega)
    have eb : skL G 200 (beg0 0) (((0 : Nat) : Int) + 1) (bg G σ Y u) = skL G 200 0 1 (bg G σ Y u) := rfl
    rw [eb] at K
    obtain ⟨v1, v2⟩ := seL_V hG hu.2 u.toNat 0 beg0 (se0 G N A) R0 i0
    have v3 := i1.trans v2
    have ar := skL_rng (G := G) 200 0 1 (bg G σ Y u) (by omega)
    rw [e1, e2]
    generalize skL G 200 0 1 (bg G σ Y u) = c at *
    generalize seL G u u.toNat (se0 G N A) = r at *
    have kA : ∀ i, i ≤ 6 → r.2.2 i = A i := v3.1
    obtain ⟨k1, k2, k3, k4⟩ := K
    have V := k3.1
    have sv : seV0 c.2.2.1 c.2.2.2 := ⟨V.2.2.2.2.2.1, V.2.2.2.2.2.2.1, V.2.2.2.2.2.2.2.1, V.2.2.2.2.2.2.2.2⟩
    have rr : (-1 ≤ c.2.1 3 ∧ c.2.1 3 ≤ 300) ∧ (0 ≤ c.2.1 4 ∧ c.2.1 4 ≤ 200) ∧ -3 ≤ c.1 ∧ c.1 ≤ 201 := ⟨V.2.2.2.1, V.2.2.2.2.1, by omega⟩
    rcases k4 with ⟨a, b⟩ | ⟨L, beg', a, b, d⟩
    · have e3 : lkS G r = (r.1, iU r.2.1 2 (-1), r.2.2) := if_neg (by omega)
      rw [e3]
      refine ⟨⟨k1, ?_, ?_⟩, sv, rr, v1.1, v1.2.2.1, v1.2.2.2.2, kA, fun i hi => ?_⟩
      · show c.2.1 3 = iU r.2.1 2 (-1) 2
        rw [iU_same]; exact b
      · show c.2.1 4 = iU r.2.1 2 (-1) 3
        rw [iU_ne _ _ (by omega)]; exact k2
      · show iU r.2.1 2 (-1) i = N i
        rw [iU_ne _ _ (by omega)]
        exact v3.2 i (by omega)
    · have e3 : lkS G r = (r.1, iU (fm G r.2.1 r.2.2).2.1 2 (fm G r.2.1 r.2.2).1, (fm G r.2.1 r.2.2).2.2) := if_pos (by omega)
      have hWc : lyW (yCp Y (σ.2.2 0)) := yCp_V hW (hσ.2.2.2 0)
      have hSc : SR G (yCp Y (σ.2.2 0)) A C := h.cp hG
      have hpc : pos (nC G) (yCp Y (σ.2.2 0) 0) = pos (nC G) (Y 0) := pos_eq.2 fun x hx => iCp_lt (by have := gAll_rng hG; have := nC_eq hG; omega)
      have hwn : pos (nC G) (Y 0) ≠ wnP (nC G) := fun w => q ((srWon hG h).2 w)
      have F := fm_eq hG hWc hSc hpc hwn d kA b
      obtain ⟨w1, w2, w3, w4, w5⟩ := fm_V hG (h.topsIn hG hV) d v1 kA
      rw [e3]
      generalize fm G r.2.1 r.2.2 = m at *
      refine ⟨⟨k1, ?_, ?_⟩, sv, rr, w1, w2, w3, w4, fun i hi => ?_⟩
      · show c.2.1 3 = iU m.2.1 2 m.1 2
        rw [iU_same, F]
      · show c.2.1 4 = iU m.2.1 2 m.1 3
        rw [iU_ne _ _ (by omega), w5 3 (by omega)]; exact k2
      · show iU m.2.1 2 m.1 i = N i
        rw [iU_ne _ _ (by omega), w5 i (by omega)]
        exact v3.2 i (by omega)
end ZSG
