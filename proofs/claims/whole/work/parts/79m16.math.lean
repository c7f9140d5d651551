section ZRW
variable {G : Nat → Int} {σ : SS} {z y s fu ps w0 : Int} {u m0 f : Nat} {F0 : Nat → Nat → Nat → Int} {f0 : Nat → Int} {D D' : Int → List Int → Prop} {W W' : Int → Prop}
def CI (G : Nat → Int) (fu ps : Int) (m0 : Nat) (F0 : Nat → Nat → Nat → Int) (f0 : Nat → Int) (w0 : Int) (D : Int → List Int → Prop) (W : Int → Prop) (σ : SS) : Prop :=
  CB G σ ∧ (σ.1 0 = fu ∧ σ.1 4 = ps) ∧ m0 ≤ cC σ ∧ (∀ i j, i < cC σ → j < cC σ → cPos G σ i = cPos G σ j → i = j) ∧
  (∀ j, j < m0 → σ.2.2 j = F0 j ∧ σ.2.1 1 j = f0 j) ∧
  (∀ j, m0 ≤ j → j < cC σ → D (σ.2.1 1 j) (cPos G σ j) ∧ ∀ s, D s (cPos G σ j) → σ.2.1 1 j ≤ s) ∧
  (∀ i j, m0 ≤ i → i ≤ j → j < cC σ → σ.2.1 1 i ≤ σ.2.1 1 j) ∧
  (σ.1 2 ≠ 1 → ∀ s q, D s q → ∃ j, j < cC σ ∧ cPos G σ j = q) ∧
  (σ.1 2 = 1 → σ.1 1 = fu ∧ ∃ s q, D s q ∧ ∀ j, j < cC σ → cPos G σ j ≠ q) ∧
  (((∀ s, ¬ W s) ∧ σ.1 3 = w0) ∨ W (σ.1 3))
theorem CI.cong (h : CI G fu ps m0 F0 f0 w0 D W σ) (hD : ∀ s q, D s q ↔ D' s q) (hW : ∀ s, W s ↔ W' s) : CI G fu ps m0 F0 f0 w0 D' W' σ := by
  have e1 : D = D' := funext fun s => funext fun q => propext (hD s q)
  have e2 : W = W' := funext fun s => propext (hW s)
  rw [← e1, ← e2]; exact h
/-- the step that a move is found by -/
abbrev stp (f0 : Nat → Int) (u : Nat) (z y : Int) : Int := if u = 0 then 16 * z + y else f0 u
theorem CI.one (hG : gmV G) (hw : ∀ j, j < m0 → pos (nC G) (F0 j 0) ≠ wnP (nC G)) (h : CI G fu ps m0 F0 f0 w0 D W σ) (hu : u < m0) (hz : 0 ≤ z ∧ z < 12) (hy : 0 ≤ y ∧ y ≤ 12) (hb : ∀ s' q', D s' q' → s' ≤ stp f0 u z y) :
    CI G fu ps m0 F0 f0 w0 (fun s' q' => D s' q' ∨ (lOne G (F0 u 1) (F0 u 2) z y ∧ s' = stp f0 u z y ∧ q' = nxP G (F0 u) z y ∧ q' ≠ wnP (nC G))) (fun s' => W s' ∨ (lOne G (F0 u 1) (F0 u 2) z y ∧ s' = stp f0 u z y ∧ nxP G (F0 u) z y = wnP (nC G))) (exO G u z y σ) := by
  obtain ⟨h1, ⟨h2, h2'⟩, h3, h4, h5, h6, h7, h8, h9, h10⟩ := h
  have eF := (h5 u hu).1
  have eS : rSt σ.2.1 u z y = stp f0 u z y := by
    unfold rSt stp
    rw [(h5 u hu).2]
  unfold exO
  rw [eF]
  by_cases q : lOne G (F0 u 1) (F0 u 2) z y
  · rw [if_pos q]
    have hu2 : u < cC σ := by omega
    obtain ⟨r1, r2⟩ := rc_spec hG h1 hu2 (by show pos (nC G) (σ.2.2 u 0) ≠ _; rw [eF]; exact hw u hu) hz hy (by rw [eF]; exact q)
    rw [eF, eS] at r1
    rw [eF, eS] at r2
    have kp := rc_keep (G := G) (n := u) (z := z) (y := y) h1.1
    by_cases w : nxP G (F0 u) z y = wnP (nC G)
    · have e := r1 w
      have V' : seU (rc G σ u z y) := by
        obtain ⟨v0, v1, v2, v3, v4, v5, v6, v7, v8⟩ := h1.1
        rw [e]
        refine ⟨v0, v1, v2, ?_, v4, v5, v6, v7, v8⟩
        show -1 ≤ stp f0 u z y ∧ stp f0 u z y ≤ 300
        rw [← eS]
        unfold rSt
        have := v6 u
        split <;> omega
      rw [e] at V' ⊢
      refine CI.cong (D := D) (W := fun s' => W s' ∨ (lOne G (F0 u 1) (F0 u 2) z y ∧ s' = stp f0 u z y ∧ nxP G (F0 u) z y = wnP (nC G))) ⟨⟨V', h1.2.1, h1.2.2.1, h1.2.2.2⟩, ⟨h2, h2'⟩, h3, h4, h5, h6, h7, h8, h9, Or.inr (Or.inr ⟨q, iU_same σ.1 3 (stp f0 u z y), w⟩)⟩ (fun s' q' => ⟨Or.inl, fun v => ?_⟩) fun _ => Iff.rfl
      rcases v with v | v
      · exact v
      · exact absurd (v.2.2.1.trans w) v.2.2.2
    · obtain ⟨a1, a2, a3⟩ := r2 w
      have W10 : ((∀ s, ¬ (W s ∨ (lOne G (F0 u 1) (F0 u 2) z y ∧ s = stp f0 u z y ∧ nxP G (F0 u) z y = wnP (nC G)))) ∧ (rc G σ u z y).1 3 = w0) ∨ (W ((rc G σ u z y).1 3) ∨ (lOne G (F0 u 1) (F0 u 2) z y ∧ (rc G σ u z y).1 3 = stp f0 u z y ∧ nxP G (F0 u) z y = wnP (nC G))) := by
        rw [a2]
        rcases h10 with v | v
        · exact Or.inl ⟨fun s t => t.elim (v.1 s) fun t => w t.2.2, v.2⟩
        · exact Or.inr (Or.inl v)
      rcases a3 with ⟨b1, b2⟩ | ⟨b1, b2, b3, b4⟩ | ⟨b1, b2, b3, b4, b5, b6, b7, b8⟩
      · rw [b2] at W10 ⊢
        refine ⟨h1, ⟨h2, h2'⟩, h3, h4, h5, fun j j1 j2 => ⟨Or.inl (h6 j j1 j2).1, fun s' v => ?_⟩, h7, fun v s' q' t => ?_, fun v => ?_, W10⟩
        · rcases v with v | v
          · exact (h6 j j1 j2).2 s' v
          · rw [v.2.1]; exact hb _ _ (h6 j j1 j2).1
        · rcases t with t | t
          · exact h8 v s' q' t
          · rcases b1 with b1 | b1
            · exact absurd b1 v
            · rw [t.2.2.1]; exact b1
        · obtain ⟨c1, s', q', c2, c3⟩ := h9 v
          exact ⟨c1, s', q', Or.inl c2, c3⟩
      · rw [b4] at a1 W10 ⊢
        refine ⟨a1, ⟨h2, h2'⟩, h3, h4, h5, fun j j1 j2 => ⟨Or.inl (h6 j j1 j2).1, fun s' v => ?_⟩, h7, fun v => absurd rfl v, fun v => ⟨by show σ.1 1 = fu; omega, stp f0 u z y, _, Or.inr ⟨q, rfl, rfl, w⟩, b2⟩, W10⟩
        rcases v with v | v
        · exact (h6 j j1 j2).2 s' v
        · rw [v.2.1]; exact hb _ _ (h6 j j1 j2).1
      · have ct : cC (rc G σ u z y) = cC σ + 1 := by
          have := h1.1.2.1
          show ((rc G σ u z y).1 1).toNat = (σ.1 1).toNat + 1
          rw [b4]; omega
        have kJ : ∀ j, j < m0 → (rc G σ u z y).2.2 j = F0 j ∧ (rc G σ u z y).2.1 1 j = f0 j := fun j hj => by
          have := h1.1.2.1
          have e : j < (σ.1 1).toNat := Nat.lt_of_lt_of_le hj h3
          have k := kp.2.2.2 j (by omega)
          rw [k.1, k.2.1]
          exact h5 j hj
        unfold CI
        rw [ct]
        refine ⟨a1, ⟨kp.1.trans h2, kp.2.1.trans h2'⟩, by omega, fun i j hi hj e => ?_, kJ, fun j j1 j2 => ?_, fun i j i1 i2 i3 => ?_, fun v s' q' t => ?_, fun v => ?_, W10⟩
        · by_cases ei : i = cC σ
          · by_cases ej : j = cC σ
            · omega
            · rw [ei, b7, (b6 j (by omega)).1] at e
              exact absurd e.symm (b2 j (by omega))
          · rw [(b6 i (by omega)).1] at e
            by_cases ej : j = cC σ
            · rw [ej, b7] at e
              exact absurd e (b2 i (by omega))
            · rw [(b6 j (by omega)).1] at e
              exact h4 i j (by omega) (by omega) e
        · by_cases ej : j = cC σ
          · rw [ej, b7, b8]
            refine ⟨Or.inr ⟨q, rfl, rfl, w⟩, fun s' v => ?_⟩
            rcases v with v | v
            · obtain ⟨i, i1, i2⟩ := h8 b1 s' _ v
              exact absurd i2 (b2 i i1)
            · rw [v.2.1]; exact Int.le_refl _
          · rw [(b6 j (by omega)).1, (b6 j (by omega)).2]
            refine ⟨Or.inl (h6 j j1 (by omega)).1, fun s' v => ?_⟩
            rcases v with v | v
            · exact (h6 j j1 (by omega)).2 s' v
            · rw [v.2.1]; exact hb _ _ (h6 j j1 (by omega)).1
        · by_cases ej : j = cC σ
          · rw [ej, b8]
            by_cases ei : i = cC σ
            · rw [ei, b8]; exact Int.le_refl _
            · rw [(b6 i (by omega)).2]
              exact hb _ _ (h6 i i1 (by omega)).1
          · rw [(b6 i (by omega)).2, (b6 j (by omega)).2]
            exact h7 i j i1 i2 (by omega)
        · rcases t with t | t
          · obtain ⟨i, i1, i2⟩ := h8 b1 s' q' t
            exact ⟨i, by omega, by rw [(b6 i i1).1]; exact i2⟩
          · exact ⟨cC σ, by omega, by rw [b7, t.2.2.1]⟩
        · rw [b5] at v
          exact absurd v b1
  · rw [if_neg q]
    refine CI.cong ⟨h1, ⟨h2, h2'⟩, h3, h4, h5, h6, h7, h8, h9, h10⟩ (fun s' q' => ⟨Or.inl, fun v => v.elim id fun v => absurd v.1 q⟩) fun s' => ⟨Or.inl, fun v => v.elim id fun v => absurd v.1 q⟩
abbrev cdD (G : Nat → Int) (Y : Nat → Nat → Int) (f0 : Nat → Int) (u : Nat) (z y s : Int) (q : List Int) : Prop := lOne G (Y 1) (Y 2) z y ∧ s = stp f0 u z y ∧ q = nxP G Y z y ∧ q ≠ wnP (nC G)
abbrev cdW (G : Nat → Int) (Y : Nat → Nat → Int) (f0 : Nat → Int) (u : Nat) (z y s : Int) : Prop := lOne G (Y 1) (Y 2) z y ∧ s = stp f0 u z y ∧ nxP G Y z y = wnP (nC G)
theorem stp_le {y' : Int} (h : y ≤ y') : stp f0 u z y ≤ stp f0 u z y' := by unfold stp; split <;> omega
theorem stp_up (h : y ≤ 16) : stp f0 u z y ≤ stp f0 u (z + 1) 0 := by unfold stp; split <;> omega
theorem CI.eT (hG : gmV G) (hw : ∀ j, j < m0 → pos (nC G) (F0 j 0) ≠ wnP (nC G)) (hu : u < m0) (hz : 0 ≤ z ∧ z < 12) : ∀ (k : Nat) (y : Int) (σ : SS) (D : Int → List Int → Prop) (W : Int → Prop), CI G fu ps m0 F0 f0 w0 D W σ → 0 ≤ y → y + k = 13 → (∀ s' q', D s' q' → s' ≤ stp f0 u z y) →
    CI G fu ps m0 F0 f0 w0 (fun s' q' => D s' q' ∨ ∃ y', y ≤ y' ∧ y' ≤ 12 ∧ cdD G (F0 u) f0 u z y' s' q') (fun s' => W s' ∨ ∃ y', y ≤ y' ∧ y' ≤ 12 ∧ cdW G (F0 u) f0 u z y' s') (exT G u z k y σ) := by
  intro k
  induction k with
  | zero =>
    intro y σ D W h hy hk hb
    refine h.cong (fun s' q' => ⟨Or.inl, fun v => v.elim id ?_⟩) fun s' => ⟨Or.inl, fun v => v.elim id ?_⟩
    · rintro ⟨y', a, b, -⟩; omega
    · rintro ⟨y', a, b, -⟩; omega
  | succ k ih =>
    intro y σ D W h hy hk hb
    have s1 := h.one hG hw hu hz (y := y) (by omega) hb
    have s2 := ih (y + 1) _ _ _ s1 (by omega) (by omega) (fun s' q' v => by
      have := stp_le (f0 := f0) (u := u) (z := z) (y := y) (y' := y + 1) (by omega)
      rcases v with v | v
      · have := hb s' q' v; omega
      · rw [v.2.1]; exact this)
    refine CI.cong s2 (fun s' q' => ?_) fun s' => ?_
    · constructor
      · rintro ((v | v) | ⟨y', a, b⟩)
        · exact Or.inl v
        · exact Or.inr ⟨y, Int.le_refl _, by omega, v⟩
        · exact Or.inr ⟨y', by omega, b⟩
      · rintro (v | ⟨y', a, b, c⟩)
        · exact Or.inl (Or.inl v)
        · by_cases e : y' = y
          · rw [e] at c; exact Or.inl (Or.inr c)
          · exact Or.inr ⟨y', by omega, b, c⟩
    · constructor
      · rintro ((v | v) | ⟨y', a, b⟩)
        · exact Or.inl v
        · exact Or.inr ⟨y, Int.le_refl _, by omega, v⟩
        · exact Or.inr ⟨y', by omega, b⟩
      · rintro (v | ⟨y', a, b, c⟩)
        · exact Or.inl (Or.inl v)
        · by_cases e : y' = y
          · rw [e] at c; exact Or.inl (Or.inr c)
          · exact Or.inr ⟨y', by omega, b, c⟩
theorem CI.eF (hG : gmV G) (hw : ∀ j, j < m0 → pos (nC G) (F0 j 0) ≠ wnP (nC G)) (hu : u < m0) : ∀ (k : Nat) (z : Int) (σ : SS) (D : Int → List Int → Prop) (W : Int → Prop), CI G fu ps m0 F0 f0 w0 D W σ → 0 ≤ z → z + k = 12 → (∀ s' q', D s' q' → s' ≤ stp f0 u z 0) →
    CI G fu ps m0 F0 f0 w0 (fun s' q' => D s' q' ∨ ∃ z' y', z ≤ z' ∧ z' < 12 ∧ 0 ≤ y' ∧ y' ≤ 12 ∧ cdD G (F0 u) f0 u z' y' s' q') (fun s' => W s' ∨ ∃ z' y', z ≤ z' ∧ z' < 12 ∧ 0 ≤ y' ∧ y' ≤ 12 ∧ cdW G (F0 u) f0 u z' y' s') (exF G u k z σ) := by
  intro k
  induction k with
  | zero =>
    intro z σ D W h hz hk hb
    refine h.cong (fun s' q' => ⟨Or.inl, fun v => v.elim id ?_⟩) fun s' => ⟨Or.inl, fun v => v.elim id ?_⟩
    · rintro ⟨z', y', a, b, -⟩; omega
    · rintro ⟨z', y', a, b, -⟩; omega
  | succ k ih =>
    intro z σ D W h hz hk hb
    have s1 := CI.eT hG hw hu (z := z) (by omega) 13 0 σ D W h (by omega) (by omega) hb
    have s2 := ih (z + 1) _ _ _ s1 (by omega) (by omega) (fun s' q' v => by
      rcases v with v | ⟨y', a, b, c⟩
      · have := hb s' q' v
        have := stp_up (f0 := f0) (u := u) (z := z) (y := 0) (by omega)
        omega
      · have := stp_up (f0 := f0) (u := u) (z := z) (y := y') (by omega)
        rw [c.2.1]; exact this)
    refine CI.cong s2 (fun s' q' => ?_) fun s' => ?_
    · constructor
      · rintro ((v | ⟨y', a, b, c⟩) | ⟨z', y', a, b⟩)
        · exact Or.inl v
        · exact Or.inr ⟨z, y', Int.le_refl _, by omega, a, b, c⟩
        · exact Or.inr ⟨z', y', by omega, b⟩
      · rintro (v | ⟨z', y', a, b, c, d, e⟩)
        · exact Or.inl (Or.inl v)
        · by_cases q : z' = z
          · rw [q] at e; exact Or.inl (Or.inr ⟨y', c, d, e⟩)
          · exact Or.inr ⟨z', y', by omega, b, c, d, e⟩
    · constructor
      · rintro ((v | ⟨y', a, b, c⟩) | ⟨z', y', a, b⟩)
        · exact Or.inl v
        · exact Or.inr ⟨z, y', Int.le_refl _, by omega, a, b, c⟩
        · exact Or.inr ⟨z', y', by omega, b⟩
      · rintro (v | ⟨z', y', a, b, c, d, e⟩)
        · exact Or.inl (Or.inl v)
        · by_cases q : z' = z
          · rw [q] at e; exact Or.inl (Or.inr ⟨y', c, d, e⟩)
          · exact Or.inr ⟨z', y', by omega, b, c, d, e⟩
/-- what node u leads to, and by which step -/
def ndD (G : Nat → Int) (Y : Nat → Nat → Int) (f0 : Nat → Int) (u : Nat) (s : Int) (q : List Int) : Prop := ∃ z y, 0 ≤ z ∧ z < 12 ∧ 0 ≤ y ∧ y ≤ 12 ∧ cdD G Y f0 u z y s q
def ndW (G : Nat → Int) (Y : Nat → Nat → Int) (f0 : Nat → Int) (u : Nat) (s : Int) : Prop := ∃ z y, 0 ≤ z ∧ z < 12 ∧ 0 ≤ y ∧ y ≤ 12 ∧ cdW G Y f0 u z y s
theorem CI.eF' (hG : gmV G) (hw : ∀ j, j < m0 → pos (nC G) (F0 j 0) ≠ wnP (nC G)) (hu : u < m0) (h : CI G fu ps m0 F0 f0 w0 D W σ) (hb : ∀ s' q', D s' q' → s' ≤ stp f0 u 0 0) :
    CI G fu ps m0 F0 f0 w0 (fun s' q' => D s' q' ∨ ndD G (F0 u) f0 u s' q') (fun s' => W s' ∨ ndW G (F0 u) f0 u s') (exF G u 12 0 σ) :=
  CI.eF hG hw hu 12 0 σ D W h (by omega) (by omega) hb
/-- the nodes of a level -/
theorem CI.kN (hG : gmV G) (hw : ∀ j, j < m0 → pos (nC G) (F0 j 0) ≠ wnP (nC G)) (hf0 : ∀ j, 0 ≤ f0 j) (hs : ∀ i j, f ≤ i → i ≤ j → j < m0 → 1 ≤ i → f0 i ≤ f0 j) (h1 : f = 0 → m0 = 1) : ∀ (k u : Nat) (σ : SS) (D : Int → List Int → Prop), CI G fu ps m0 F0 f0 (-1) D (fun _ => False) σ → f ≤ u → u + k = m0 → (∀ s' q', D s' q' ↔ ∃ i, f ≤ i ∧ i < u ∧ ndD G (F0 i) f0 i s' q') → (∀ i, f ≤ i → i < u → ∀ s, ¬ ndW G (F0 i) f0 i s) →
    (CI G fu ps m0 F0 f0 (-1) (fun s' q' => ∃ i, f ≤ i ∧ i < m0 ∧ ndD G (F0 i) f0 i s' q') (fun _ => False) (skN G k u σ) ∧ (skN G k u σ).1 3 = -1 ∧ ∀ i, f ≤ i → i < m0 → ∀ s, ¬ ndW G (F0 i) f0 i s) ∨
    (∃ v, f ≤ v ∧ v < m0 ∧ ndW G (F0 v) f0 v ((skN G k u σ).1 3) ∧ (∀ i, f ≤ i → i < v → ∀ s, ¬ ndW G (F0 i) f0 i s) ∧ (skN G k u σ).1 3 ≠ -1 ∧ ∃ D' W', CI G fu ps m0 F0 f0 (-1) D' W' (skN G k u σ)) := by
  intro k
  induction k with
  | zero =>
    intro u σ D h hu hk hD hW
    have : u = m0 := by omega
    subst this
    have n3 : σ.1 3 = -1 := by
      rcases h.2.2.2.2.2.2.2.2.2 with v | v
      · exact v.2
      · exact v.elim
    exact Or.inl ⟨h.cong hD fun _ => Iff.rfl, n3, hW⟩
  | succ k ih =>
    intro u σ D h hu hk hD hW
    have n3 : σ.1 3 = -1 := by
      rcases h.2.2.2.2.2.2.2.2.2 with v | v
      · exact v.2
      · exact v.elim
    have e : skN G (k + 1) u σ = skN G k (u + 1) (exF G u 12 0 σ) := if_pos n3
    rw [e]
    have hb : ∀ s' q', D s' q' → s' ≤ stp f0 u 0 0 := fun s' q' v => by
      obtain ⟨i, i1, i2, z, y, -, -, -, -, c⟩ := (hD s' q').1 v
      have u0 : f ≠ 0 := fun q => by have := h1 q; omega
      rw [c.2.1]
      unfold stp
      rw [if_neg (by omega), if_neg (by omega)]
      exact hs i u i1 (by omega) (by omega) (by omega)
    have s1 := h.eF' hG hw (u := u) (by omega) hb
    by_cases w : ∃ s, ndW G (F0 u) f0 u s
    · right
      have v3 : ndW G (F0 u) f0 u ((exF G u 12 0 σ).1 3) := by
        rcases s1.2.2.2.2.2.2.2.2.2 with v | v
        · obtain ⟨s, hs⟩ := w
          exact absurd (Or.inr hs) (v.1 s)
        · exact v.elim (fun q => q.elim) id
      have nn : (exF G u 12 0 σ).1 3 ≠ -1 := by
        obtain ⟨z, y, a, b, c, d, e⟩ := v3
        rw [e.2.1]
        have := hf0 u
        unfold stp
        split <;> omega
      have st : skN G k (u + 1) (exF G u 12 0 σ) = exF G u 12 0 σ := by
        cases k with
        | zero => rfl
        | succ k => exact if_neg nn
      rw [st]
      exact ⟨u, hu, by omega, v3, hW, nn, _, _, s1⟩
    · have s2 := CI.cong (W' := fun _ => False) s1 (fun s' q' => Iff.rfl) fun s' => ⟨fun v => v.elim id fun v => w ⟨s', v⟩, Or.inl⟩
      refine ih (u + 1) _ _ s2 (by omega) (by omega) (fun s' q' => ?_) (fun i i1 i2 s v => ?_)
      · rw [hD]
        constructor
        · rintro (⟨i, a, b, c⟩ | v)
          · exact ⟨i, a, by omega, c⟩
          · exact ⟨u, hu, by omega, v⟩
        · rintro ⟨i, a, b, c⟩
          by_cases q : i = u
          · rw [q] at c; exact Or.inr c
          · exact Or.inl ⟨i, a, by omega, c⟩
      · by_cases q : i = u
        · rw [q] at v; exact w ⟨s, v⟩
        · exact hW i i1 (by omega) s v
end ZRW
