section ZRY
variable {G : Nat → Int} {σ : SS} {τ : MO} {s n : Int} {u i : Nat} {p0 p q : List Int} {Y : Nat → Nat → Int} {beg : Nat → Nat}
abbrev wnL (G : Nat → Int) (p0 : List Int) (i : Nat) : Prop := ∃ p, Lv G p0 i p ∧ Sc G p (wnP (nC G))
/-- the step that the class tells -/
def fsP (G : Nat → Int) (p0 : List Int) (Y : Nat → Nat → Int) : Nat → Int → Prop
  | 0, s => KC G Y s (wnP (nC G))
  | l + 1, s => (∃ p, PT G p0 Y l s p ∧ Sc G p (wnP (nC G))) ∧ ∀ k p, PT G p0 Y l k p → Sc G p (wnP (nC G)) → s ≤ k
theorem CS.step (hG : gmV G) (h : CS G p0 Y n i beg σ) :
    CB G (skM G (beg i) σ) ∧ (skM G (beg i) σ).1 4 = σ.1 1 ∧
    ((wnL G p0 i ∧ (skM G (beg i) σ).1 3 ≠ -1 ∧ fsP G p0 Y i ((skM G (beg i) σ).1 3)) ∨
     (¬ wnL G p0 i ∧ (skM G (beg i) σ).1 3 = -1 ∧ (skM G (beg i) σ).1 2 = 1 ∧ tooM (Al G p0 (i + 1)) n.toNat) ∨
     (¬ wnL G p0 i ∧ (skM G (beg i) σ).1 3 = -1 ∧ (skM G (beg i) σ).1 2 ≠ 1 ∧ beg (i + 1) ≤ cC (skM G (beg i) σ) ∧ CS G p0 Y n (i + 1) (fU beg (i + 2) (cC (skM G (beg i) σ))) (skM G (beg i) σ))) := by
  obtain ⟨h1, ⟨h2, h2', h2'', h2c⟩, h3, h4, h5, h6, h7, h8⟩ := h
  have hA := gAll_rng hG
  have hV := h1.1
  have v1 := hV.2.1
  have v6 := hV.2.2.2.2.2.2.1
  have v8 := hV.2.2.2.2.2.2.2.2
  have bi : beg i ≤ beg (i + 1) := h6.2.2.1 i (Nat.le_refl _)
  have jj : ∀ j, j < cC σ → JJ G (σ.2.2 j) := fun j hj => h1.2.1 j (by have : j < (σ.1 1).toNat := hj; omega)
  have init : CI G n (σ.1 1) (cC σ) σ.2.2 (σ.2.1 1) (-1) (fun _ _ => False) (fun _ => False) (skP σ) := by
    have V' : seU (skP σ) := by
      obtain ⟨w0, w1, w2, w3, w4, w5, w6, w7, w8⟩ := hV
      exact ⟨w0, w1, w2, w3, by show 0 ≤ σ.1 1 ∧ σ.1 1 ≤ 200; omega, w5, w6, w7, w8⟩
    refine ⟨⟨V', h1.2.1, h1.2.2.1, h1.2.2.2⟩, ⟨h2, rfl⟩, Nat.le_refl _, h3, fun j _ => ⟨rfl, rfl⟩, fun j a b => ?_, fun a b c d e => ?_, fun _ s q w => w.elim, fun w => absurd w h2', Or.inl ⟨fun _ w => w, h2''⟩⟩
    · have b : j < cC σ := b
      omega
    · have e : b < cC σ := e
      omega
  have sort : ∀ a b, beg i ≤ a → a ≤ b → b < cC σ → 1 ≤ a → σ.2.1 1 a ≤ σ.2.1 1 b := fun a b h1 h2 h3 h4 => by
    cases i with
    | zero => rw [h2c, h6.2.1] at h3; omega
    | succ i => exact h8 i (Nat.le_refl _) a b h1 h2 (by rw [← h2c]; exact h3)
  have one : beg i = 0 → cC σ = 1 := fun e => by
    cases i with
    | zero => rw [h2c]; exact h6.2.1
    | succ i =>
      have := h6.mono 1 (i + 1) (by omega) (by omega)
      rw [h6.2.1] at this
      omega
  have N := CI.kN hG (f := beg i) h4 (fun j => (v6 j).1) sort one ((σ.1 1).toNat - beg i) (beg i) (skP σ) (fun _ _ => False) init (Nat.le_refl _) (by
    show beg i + (cC σ - beg i) = cC σ
    omega) (fun s' q' => ⟨fun w => w.elim, fun ⟨j, a, b, _⟩ => by omega⟩) (fun j a b => by omega)
  have lvj : ∀ j, beg i ≤ j → j < cC σ → Lv G p0 i (cPos G σ j) := fun j a b => (h6.2.2.2 i (Nat.le_refl _) _).2 ⟨j, a, by omega, rfl⟩
  have wl : wnL G p0 i ↔ ∃ v, beg i ≤ v ∧ v < cC σ ∧ ∃ s, ndW G (σ.2.2 v) (σ.2.1 1) v s := by
    constructor
    · rintro ⟨p, a, b⟩
      obtain ⟨j, j1, j2, j3⟩ := (h6.2.2.2 i (Nat.le_refl _) p).1 a
      rw [← j3] at b
      exact ⟨j, j1, by omega, (sc_nd hG (jj j (by omega)) (v8 j) b).2 rfl⟩
    · rintro ⟨v, a, b, s, w⟩
      exact ⟨_, lvj v a b, (nw_sc hG (jj v b) (v8 v) (h4 v b) w).1⟩
  rcases N with ⟨N1, N2, N3⟩ | ⟨v, N1, N2, N3, N4, N5, D', W', N6⟩
  · have nwl : ¬ wnL G p0 i := fun w => by
      obtain ⟨v, a, b, s, c⟩ := wl.1 w
      exact N3 v a b s c
    have N1 : CI G n (σ.1 1) (cC σ) σ.2.2 (σ.2.1 1) (-1) (fun s' q' => ∃ j, beg i ≤ j ∧ j < cC σ ∧ ndD G (σ.2.2 j) (σ.2.1 1) j s' q') (fun _ => False) (skM G (beg i) σ) := N1
    have N2 : (skM G (beg i) σ).1 3 = -1 := N2
    generalize skM G (beg i) σ = σ' at *
    obtain ⟨c1, ⟨c2, c2'⟩, c3, c4, c5, c6, c7, c8, c9, c10⟩ := N1
    refine ⟨c1, c2', Or.inr ?_⟩
    have oldp : ∀ j, j < cC σ → cPos G σ' j = cPos G σ j := fun j hj => by show pos _ (σ'.2.2 j 0) = _; rw [(c5 j hj).1]
    have allI : ∀ q, Al G p0 i q ↔ ∃ k, k < cC σ ∧ cPos G σ k = q := fun q => by rw [h2c]; exact h6.all q
    -- what is new is of the next level
    have newL : ∀ s q, (∃ j, beg i ≤ j ∧ j < cC σ ∧ ndD G (σ.2.2 j) (σ.2.1 1) j s q) → (∀ j, j < cC σ → cPos G σ j ≠ q) → Lv G p0 (i + 1) q := fun s q ⟨j, j1, j2, w⟩ hn => by
      have g := nd_sc hG (jj j j2) (v8 j) w
      rcases g.1 with e | e
      · exact absurd e.symm (hn j j2)
      · exact ⟨⟨_, lvj j j1 j2, e⟩, fun a => by obtain ⟨k, k1, k2⟩ := (allI q).1 a; exact hn k k1 k2⟩
    have newR : ∀ j, cC σ ≤ j → j < cC σ' → Lv G p0 (i + 1) (cPos G σ' j) := fun j a b => newL _ _ (c6 j a b).1 fun k hk e => by
      rw [← oldp k hk] at e
      have := c4 k j (by omega) b e
      omega
    have hall : ∀ j, j < cC σ' → Al G p0 (i + 1) (cPos G σ' j) := fun j hj => by
      by_cases e : j < cC σ
      · exact Or.inl ((allI _).2 ⟨j, e, (oldp j e).symm⟩)
      · exact Or.inr (newR j (by omega) hj)
    by_cases tm : σ'.1 2 = 1
    · left
      refine ⟨nwl, N2, tm, ?_⟩
      obtain ⟨d1, s, q, d2, d3⟩ := c9 tm
      have en : n.toNat = cC σ' := by show _ = (σ'.1 1).toNat; rw [d1]
      rw [en]
      exact tooM_of c4 hall (Or.inr (newL s q d2 fun j hj => by rw [← oldp j hj]; exact d3 j (by omega))) d3
    · right
      have e6 : Enu G p0 i beg (cPos G σ') := h6.cong fun k hk => oldp k (by omega)
      have lvn : ∀ q, Lv G p0 (i + 1) q ↔ ∃ k, beg (i + 1) ≤ k ∧ k < cC σ' ∧ cPos G σ' k = q := fun q => by
        constructor
        · rintro ⟨⟨p, a, b⟩, c⟩
          obtain ⟨j, j1, j2, j3⟩ := (h6.2.2.2 i (Nat.le_refl _) p).1 a
          rw [← j3] at b
          have qn : q ≠ wnP (nC G) := fun e => nwl ⟨_, lvj j j1 (by omega), by rw [← e]; exact b⟩
          obtain ⟨s, w⟩ := (sc_nd (f0 := σ.2.1 1) (u := j) hG (jj j (by omega)) (v8 j) b).1 qn
          obtain ⟨k, k1, k2⟩ := c8 tm s q ⟨j, j1, by omega, w⟩
          refine ⟨k, ?_, k1, k2⟩
          apply Classical.byContradiction
          intro lt
          exact c ((allI q).2 ⟨k, by omega, by rw [← oldp k (by omega)]; exact k2⟩)
        · rintro ⟨k, a, b, c⟩
          rw [← c]
          exact newR k (by omega) b
      refine ⟨nwl, N2, tm, by omega, c1, ⟨c2, tm, N2, by rw [fU_same]⟩, c4, fun j hj => ?_, ?_, e6.add (by omega) lvn, fun l hl j j1 j2 => ?_, fun l hl a b a1 a2 a3 => ?_⟩
      · by_cases e : j < cC σ
        · rw [oldp j e]; exact h4 j e
        · obtain ⟨⟨j', -, -, w⟩, -⟩ := c6 j (by omega) hj
          obtain ⟨z, y, -, -, -, -, e1, e2, e3, e4⟩ := w
          exact e4
      · rw [(c5 0 (by have := h6.mono 1 (i + 1) (by omega) (by omega); rw [h6.2.1] at this; omega)).1]; exact h5
      · rw [fUn _ (by omega)] at j1
        by_cases e : l = i
        · subst e
          rw [fU_same] at j2
          obtain ⟨⟨j', f1, f2, w⟩, mn⟩ := c6 j (by omega) j2
          have g := nd_sc hG (jj j' f2) (v8 j') w
          have sc : Sc G (cPos G σ j') (cPos G σ' j) := by
            rcases g.1 with e | e
            · exfalso
              have e2 : cPos G σ' j' = cPos G σ' j := (oldp j' f2).trans e.symm
              have := c4 j' j (by omega) j2 e2
              omega
            · exact e
          have L := newR j (by omega) j2
          cases l with
          | zero =>
            have j0 : j' = 0 := by rw [h2c, h6.2.1] at f2; omega
            refine ⟨⟨L, ?_⟩, fun k pk => mn k ⟨j', f1, f2, ?_⟩⟩
            · have := g.2.2.1 j0
              rw [j0, h5] at this
              exact this
            · obtain ⟨-, z, y, a, b, c, d, e1, e2, e3⟩ := pk
              rw [j0, h5]
              exact ⟨z, y, a, b, c, d, e1, by rw [e2]; rfl, e3, g.2.1⟩
          | succ l =>
            have j0 : j' ≠ 0 := fun e => by
              have := h6.mono 1 (l + 1) (by omega) (by omega)
              rw [h6.2.1] at this
              omega
            have es := g.2.2.2 j0
            have PJ := h7 l (Nat.le_refl _) j' f1 (by show j' < beg (l + 1 + 1); omega)
            refine ⟨⟨L, cPos G σ j', by rw [es]; exact PJ.1, sc⟩, fun k pk => ?_⟩
            obtain ⟨-, p, pk1, pk2⟩ := pk
            obtain ⟨j2', k1, k2, k3⟩ := (h6.2.2.2 (l + 1) (Nat.le_refl _) p).1 (PT_lv pk1)
            have j20 : j2' ≠ 0 := fun e => by
              have := h6.mono 1 (l + 1) (by omega) (by omega)
              rw [h6.2.1] at this
              omega
            have le := (h7 l (Nat.le_refl _) j2' k1 k2).2 k (by rw [k3]; exact pk1)
            rw [← k3] at pk2
            obtain ⟨s2, w2⟩ := (sc_nd (f0 := σ.2.1 1) (u := j2') hG (jj j2' (by omega)) (v8 j2') pk2).1 g.2.1
            have es2 := (nd_sc hG (jj j2' (by omega)) (v8 j2') w2).2.2.2 j20
            have := mn s2 ⟨j2', k1, by omega, w2⟩
            omega
        · rw [fUn _ (by omega)] at j2
          have jl : j < cC σ := by
            have := h6.mono (l + 2) (i + 1) (by omega) (by omega)
            omega
          rw [oldp j jl, (c5 j jl).2]
          exact h7 l (by omega) j j1 j2
      · rw [fUn _ (by omega)] at a1
        by_cases e : l = i
        · subst e
          rw [fU_same] at a3
          exact c7 a b (by omega) a2 a3
        · rw [fUn _ (by omega)] at a3
          have jl : b < cC σ := by
            have := h6.mono (l + 2) (i + 1) (by omega) (by omega)
            omega
          rw [(c5 a (by omega)).2, (c5 b jl).2]
          exact h8 l (by omega) a b a1 a2 a3
  · have N3 : ndW G (σ.2.2 v) (σ.2.1 1) v ((skM G (beg i) σ).1 3) := N3
    have N5 : (skM G (beg i) σ).1 3 ≠ -1 := N5
    have N6 : CI G n (σ.1 1) (cC σ) σ.2.2 (σ.2.1 1) (-1) D' W' (skM G (beg i) σ) := N6
    generalize skM G (beg i) σ = σ' at *
    refine ⟨N6.1, N6.2.1.2, Or.inl ⟨wl.2 ⟨v, N1, N2, _, N3⟩, N5, ?_⟩⟩
    have g := nw_sc hG (jj v N2) (v8 v) (h4 v N2) N3
    cases i with
    | zero =>
      have v0 : v = 0 := by rw [h2c, h6.2.1] at N2; omega
      have := g.2.1 v0
      rw [v0, h5] at this
      exact this
    | succ l =>
      have v0 : v ≠ 0 := fun e => by
        have := h6.mono 1 (l + 1) (by omega) (by omega)
        rw [h6.2.1] at this
        omega
      have es := g.2.2 v0
      rw [es]
      have PJ := h7 l (Nat.le_refl _) v N1 (by show v < beg (l + 1 + 1); omega)
      refine ⟨⟨_, PJ.1, g.1⟩, fun k p pk sc => ?_⟩
      obtain ⟨u, u1, u2, u3⟩ := (h6.2.2.2 (l + 1) (Nat.le_refl _) p).1 (PT_lv pk)
      have le := (h7 l (Nat.le_refl _) u u1 u2).2 k (by rw [u3]; exact pk)
      rw [← u3] at sc
      obtain ⟨s2, w2⟩ := (sc_nd (f0 := σ.2.1 1) (u := u) hG (jj u (by omega)) (v8 u) sc).2 rfl
      have uv : v ≤ u := by
        apply Classical.byContradiction
        intro lt
        exact N4 u u1 (by omega) s2 w2
      have := sort v u N1 uv (by omega) (by omega)
      omega
end ZRY
