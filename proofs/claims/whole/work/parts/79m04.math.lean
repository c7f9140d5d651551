section ZRJ
variable {G : Nat → Int} {Y A Y' A' : Nat → Nat → Int} {C : Nat → List Int} {z y m c : Int} {k p : Nat}
theorem SH.cell (hG : gmV G) (h : SH G Y A C c) (hk : (k : Int) < G 1) (he : A 2 k = -1)
    (y0 : Y' 0 = iU (Y 0) c.toNat (-2)) (y1 : Y' 1 = iU (Y 1) (8 + k) c) (y2 : Y' 2 = Y 2)
    (a0 : A' 0 = A 0) (a1 : A' 1 = A 1) (a2 : A' 2 = iU (A 2) k c) (a3 : A' 3 = A 3) (a4 : ∀ x : Nat, x < 52 → (A' 4 x = 0 ↔ (A 4 x = 0 ∧ (x : Int) ≠ c)))
    (n0 : Y' 3 0 = mLaid A') (n1 : Y' 3 1 = mAH A') : SR G Y' A' C := by
  have hG' := hG
  unfold gmV at hG'
  have hA := gAll_rng hG
  obtain ⟨b1, b2, b3, b4, b5, b6, b7, b8, b9, b10, b11⟩ := h
  refine ⟨fun q hq => ?_, b3, fun j hj => ?_, fun j j' hj hj' h1 h2 => ?_, fun s hs => ?_, fun x hx => ?_, ⟨b8.1, fun j h1 h2 => ?_⟩, n0, n1⟩
  · obtain ⟨g1, g2, g3, g4⟩ := b2 q hq
    rw [y0, y1, iU_ne _ _ (by omega)]
    refine ⟨pile_keep _ _ g1 fun x hx => iU_ne _ _ (fun e => b9 q hq ?_), ?_, g3, g4⟩
    · have := pile_pos _ _ g1 x hx
      rw [show c = x by omega]; exact hx
    · unfold mcol at g2 ⊢
      rw [a0, a1]; exact g2
  · rw [y1, a2]
    by_cases e : j = k
    · subst e
      rw [iU_same, iU_same]
      exact ⟨rfl, by omega, by omega⟩
    · rw [iU_ne _ _ (by omega), iU_ne _ _ e]
      exact b4 j hj
  · rw [a2] at h1 h2
    by_cases e : j = k
    · by_cases e' : j' = k
      · omega
      · subst e
        rw [iU_same, iU_ne _ _ e'] at h2
        exact absurd h2.symm (b10 j' hj')
    · rw [iU_ne _ _ e] at h1 h2
      by_cases e' : j' = k
      · subst e'
        rw [iU_same] at h2
        exact absurd h2 (b10 j hj)
      · rw [iU_ne _ _ e'] at h2
        exact b5 j j' hj hj' h1 h2
  · rw [y2, a3]; exact b6 s hs
  · rw [y0, a2, a3, a4 x hx]
    by_cases e : (x : Int) = c
    · have e' : x = c.toNat := by omega
      subst e'
      rw [iU_same]
      refine ⟨fun _ => ⟨⟨fun q => by omega, fun ⟨r, hr, q⟩ => absurd (by rw [← e]; exact q) (b9 r hr)⟩, ⟨fun _ => ⟨k, by omega, by rw [iU_same, e]⟩, fun _ => rfl⟩, ⟨fun q => by omega, fun q => ?_⟩⟩, fun q => by omega, ⟨fun q => absurd e q.2, fun q => by omega⟩⟩
      rw [e] at q; omega
    · have e' : x ≠ c.toNat := by omega
      rw [iU_ne _ _ e']
      obtain ⟨g1, g2, g3⟩ := b7 x hx e
      refine ⟨fun q => ?_, g2, ⟨fun q => g3.1 q.1, fun q => ⟨g3.2 q, e⟩⟩⟩
      obtain ⟨f1, f2, f3⟩ := g1 q
      refine ⟨f1, f2.trans ⟨fun ⟨r, hr, hx⟩ => ⟨r, hr, ?_⟩, fun ⟨r, hr, hx⟩ => ⟨r, hr, ?_⟩⟩, f3⟩
      · rw [iU_ne _ _ (fun er => by rw [er, he] at hx; omega)]; exact hx
      · by_cases er : r = k
        · rw [er, iU_same] at hx; exact absurd hx.symm e
        · rw [iU_ne _ _ er] at hx; exact hx
  · rw [a2, iU_ne _ _ (by omega)]
    exact b8.2 j h1 h2
theorem suit_rank (hG : gmV G) {x c : Int} (hs : gSuit G x = gSuit G c) (hr : gRank G x = gRank G c) : x = c := by
  have hG' := hG
  unfold gmV at hG'
  have h1 := Int.mul_ediv_add_emod x (G 4)
  have h2 := Int.mul_ediv_add_emod c (G 4)
  have hs : x % G 4 = c % G 4 := hs
  have hr : x / G 4 = c / G 4 := by have hr : x / G 4 + 1 = c / G 4 + 1 := hr; omega
  rw [← h1, ← h2, hs, hr]
theorem SH.home (hG : gmV G) (h : SH G Y A C c) (he : A 3 (gSuit G c).toNat + 1 = gRank G c)
    (y0 : Y' 0 = iU (Y 0) c.toNat (-3)) (y1 : Y' 1 = Y 1) (y2 : Y' 2 = iU (Y 2) (gSuit G c).toNat (Y 2 (gSuit G c).toNat + 1))
    (a0 : A' 0 = A 0) (a1 : A' 1 = A 1) (a2 : A' 2 = A 2) (a3 : A' 3 = iU (A 3) (gSuit G c).toNat (A 3 (gSuit G c).toNat + 1)) (a4 : ∀ x : Nat, x < 52 → (A' 4 x = 0 ↔ (A 4 x = 0 ∧ (x : Int) ≠ c)))
    (n0 : Y' 3 0 = mLaid A') (n1 : Y' 3 1 = mAH A') : SR G Y' A' C := by
  have hG' := hG
  unfold gmV at hG'
  have hA := gAll_rng hG
  obtain ⟨b1, b2, b3, b4, b5, b6, b7, b8, b9, b10, b11⟩ := h
  have hs := gSuit_rng (c := c) hG
  have hs4 : gSuit G c < G 4 := Int.emod_lt_of_pos _ (by omega)
  refine ⟨fun q hq => ?_, b3, fun j hj => ?_, ?_, fun s hs => ?_, fun x hx => ?_, ⟨b8.1, ?_⟩, n0, n1⟩
  · obtain ⟨g1, g2, g3, g4⟩ := b2 q hq
    rw [y0, y1]
    refine ⟨pile_keep _ _ g1 fun x hx => iU_ne _ _ (fun e => b9 q hq ?_), ?_, g3, g4⟩
    · have := pile_pos _ _ g1 x hx
      rw [show c = x by omega]; exact hx
    · unfold mcol at g2 ⊢
      rw [a0, a1]; exact g2
  · rw [y1, a2]; exact b4 j hj
  · rw [a2]; exact b5
  · rw [y2, a3]
    obtain ⟨g1, g2, g3, g4⟩ := b6 s hs
    by_cases e : s = (gSuit G c).toNat
    · subst e
      rw [iU_same, iU_same, g1]
      have := gRank_le hG b1
      exact ⟨rfl, by omega, by omega, fun q => by omega⟩
    · rw [iU_ne _ _ e, iU_ne _ _ e]
      exact ⟨g1, g2, g3, g4⟩
  · rw [y0, a2, a3, a4 x hx]
    by_cases e : (x : Int) = c
    · have e' : x = c.toNat := by omega
      subst e'
      rw [iU_same]
      refine ⟨fun _ => ⟨⟨fun q => by omega, fun ⟨r, hr, q⟩ => absurd (by rw [← e]; exact q) (b9 r hr)⟩, ⟨fun q => by omega, fun ⟨k, hk, q⟩ => absurd (q.trans e) (b10 k hk)⟩, ⟨fun q => ?_, fun _ => rfl⟩⟩, fun q => by omega, ⟨fun q => absurd e q.2, fun q => by omega⟩⟩
      rw [e, iU_same]; omega
    · have e' : x ≠ c.toNat := by omega
      rw [iU_ne _ _ e']
      obtain ⟨g1, g2, g3⟩ := b7 x hx e
      refine ⟨fun q => ?_, g2, ⟨fun q => g3.1 q.1, fun q => ⟨g3.2 q, e⟩⟩⟩
      obtain ⟨f1, f2, f3⟩ := g1 q
      refine ⟨f1, f2, f3.trans ?_⟩
      by_cases es : (gSuit G x).toNat = (gSuit G c).toNat
      · rw [es, iU_same]
        have hsx := gSuit_rng (c := (x : Int)) hG
        have : gRank G x ≠ gRank G c := fun q => e (suit_rank hG (by omega) q)
        omega
      · rw [iU_ne _ _ es]
  · rw [a2]; exact b8.2
/-- nothing but one of these four -/
theorem SR.c7 (h : SR G Y A C) {x : Nat} (hx : x < 52) (hxa : (x : Int) < gAll G) : (-1 ≤ Y 0 x ↔ ∃ p, p < 8 ∧ (x : Int) ∈ C p) ∧ (Y 0 x = -2 ↔ ∃ k, k < 4 ∧ A 2 k = x) ∧ (Y 0 x = -3 ↔ gRank G x ≤ A 3 (gSuit G x).toNat) := (h.2.2.2.2.2.1 x hx).1 hxa
/-- a card that isn't laid may be taken into the hand -/
theorem SR.hand (hG : gmV G) (h : SR G Y A C) (hc : 0 ≤ c ∧ c < gAll G) (hn : Y 0 c.toNat = -4) : SH G Y A C c := by
  have hA := gAll_rng hG
  obtain ⟨f1, f2, f3⟩ := h.c7 (x := c.toNat) (by omega) (by omega)
  rw [show ((c.toNat : Nat) : Int) = c by omega] at f1 f2 f3
  refine ⟨hc, h.1, h.2.1, h.2.2.1, h.2.2.2.1, h.2.2.2.2.1, fun x hx _ => h.2.2.2.2.2.1 x hx, h.2.2.2.2.2.2.1, fun p hp q => ?_, fun k hk q => ?_, ?_⟩
  · have := f1.2 ⟨p, hp, q⟩; omega
  · have := f2.2 ⟨k, hk, q⟩; omega
  · have : ¬ gRank G c ≤ A 3 (gSuit G c).toNat := fun q => by have := f3.2 q; omega
    omega
/-- the uppermost card of a column is taken -/
theorem SR.tcol (hG : gmV G) (h : SR G Y A C) (hp : p < 8) {l : List Int} (hl : C p = c :: l)
    (y0 : Y' 0 = Y 0) (y1 : Y' 1 = iU (Y 1) p (Y 0 c.toNat)) (y2 : Y' 2 = Y 2)
    (a0 : A' 0 = A 0) (a1 : A' 1 = iU (A 1) p (A 1 p - 1)) (a2 : A' 2 = A 2) (a3 : A' 3 = A 3) (a4 : A' 4 = A 4) : SH G Y' A' (fU C p l) c := by
  have hG' := hG
  unfold gmV at hG'
  have hA := gAll_rng hG
  have hm : c ∈ C p := by rw [hl]; exact List.mem_cons_self ..
  have hc := h.mem hG hp c hm
  obtain ⟨f1, f2, f3⟩ := h.c7 (x := c.toNat) (by omega) (by omega)
  rw [show ((c.toNat : Nat) : Int) = c by omega] at f1 f2 f3
  have hb := f1.2 ⟨p, hp, hm⟩
  have sub : ∀ q x, x ∈ fU C p l q → x ∈ C q := fun q x hx => by
    by_cases e : q = p
    · subst e; rw [fU_same] at hx; rw [hl]; exact List.mem_cons_of_mem _ hx
    · rw [fUn _ e] at hx; exact hx
  have nin : ∀ q, q < 8 → c ∉ fU C p l q := fun q hq hx => by
    by_cases e : q = p
    · subst e
      rw [fU_same] at hx
      have := (h.1 q hq).2.2.1
      rw [hl] at this
      exact (List.nodup_cons.1 this).1 hx
    · rw [fUn _ e] at hx
      exact e (h.2.1 q p c hq hp hx hm)
  refine ⟨hc, fun q hq => ?_, fun q q' x hq hq' hx hx' => h.2.1 q q' x hq hq' (sub q x hx) (sub q' x hx'), fun k hk => ?_, ?_, fun s hs => ?_, fun x hx e => ?_, ⟨fun q h1 h2 => ?_, ?_⟩, nin, fun k hk q => ?_, ?_⟩
  · obtain ⟨g1, g2, g3, g4⟩ := h.1 q hq
    rw [y0, y1]
    by_cases e : q = p
    · subst e
      rw [hl] at g1 g2 g3
      rw [iU_same, fU_same]
      refine ⟨g1.2.2, ?_, (List.nodup_cons.1 g3).2, fun x hx => g4 x (by rw [hl]; exact List.mem_cons_of_mem _ hx)⟩
      have := mcol_pop g2
      unfold mcol at this ⊢
      rw [a0, a1]
      exact this
    · rw [iU_ne _ _ e, fUn _ e]
      refine ⟨g1, ?_, g3, g4⟩
      unfold mcol at g2 ⊢
      rw [a0, a1, iU_ne _ _ e]
      exact g2
  · rw [y1, a2, iU_ne _ _ (by omega)]; exact h.2.2.1 k hk
  · rw [a2]; exact h.2.2.2.1
  · rw [y2, a3]; exact h.2.2.2.2.1 s hs
  · rw [y0, a2, a3, a4]
    obtain ⟨g1, g2, g3⟩ := h.2.2.2.2.2.1 x hx
    refine ⟨fun q => ?_, g2, g3⟩
    obtain ⟨e1, e2, e3⟩ := g1 q
    refine ⟨e1.trans ⟨fun ⟨r, hr, hx⟩ => ⟨r, hr, ?_⟩, fun ⟨r, hr, hx⟩ => ⟨r, hr, sub r _ hx⟩⟩, e2, e3⟩
    by_cases er : r = p
    · subst er
      rw [hl] at hx
      rw [fU_same]
      rcases List.mem_cons.1 hx with q | q
      · exact absurd q e
      · exact q
    · rw [fUn _ er]; exact hx
  · by_cases e : q = p
    · subst e
      have := h.2.2.2.2.2.2.1.1 q h1 h2
      rw [hl] at this
      cases this
    · rw [fUn _ e]; exact h.2.2.2.2.2.2.1.1 q h1 h2
  · rw [a2]; exact h.2.2.2.2.2.2.1.2
  · rw [a2] at q
    have := f2.2 ⟨k, hk, q⟩
    omega
  · rw [a3]
    have : ¬ gRank G c ≤ A 3 (gSuit G c).toNat := fun q => by have := f3.2 q; omega
    omega
theorem SR.tcell (hG : gmV G) (h : SR G Y A C) (hk : k < 4) (hl : A 2 k = c) (hc0 : 0 ≤ c)
    (y0 : Y' 0 = Y 0) (y1 : Y' 1 = iU (Y 1) (8 + k) (-1)) (y2 : Y' 2 = Y 2)
    (a0 : A' 0 = A 0) (a1 : A' 1 = A 1) (a2 : A' 2 = iU (A 2) k (-1)) (a3 : A' 3 = A 3) (a4 : A' 4 = A 4) : SH G Y' A' C c := by
  have hG' := hG
  unfold gmV at hG'
  have hA := gAll_rng hG
  have hc : 0 ≤ c ∧ c < gAll G := ⟨hc0, by rw [← hl]; exact (h.2.2.1 k hk).2.1⟩
  obtain ⟨f1, f2, f3⟩ := h.c7 (x := c.toNat) (by omega) (by omega)
  rw [show ((c.toNat : Nat) : Int) = c by omega] at f1 f2 f3
  have hb := f2.2 ⟨k, hk, hl⟩
  refine ⟨hc, fun q hq => ?_, h.2.1, fun j hj => ?_, fun j j' hj hj' h1 h2 => ?_, fun s hs => ?_, fun x hx e => ?_, ⟨h.2.2.2.2.2.2.1.1, fun j h1 h2 => ?_⟩, fun q hq hx => ?_, fun j hj q => ?_, ?_⟩
  · obtain ⟨g1, g2, g3, g4⟩ := h.1 q hq
    rw [y0, y1, iU_ne _ _ (by omega)]
    refine ⟨g1, ?_, g3, g4⟩
    unfold mcol at g2 ⊢
    rw [a0, a1]; exact g2
  · rw [y1, a2]
    by_cases e : j = k
    · subst e; rw [iU_same, iU_same]; exact ⟨rfl, by omega, by omega⟩
    · rw [iU_ne _ _ (by omega), iU_ne _ _ e]; exact h.2.2.1 j hj
  · rw [a2] at h1 h2
    by_cases e : j = k
    · subst e; rw [iU_same] at h1; omega
    · rw [iU_ne _ _ e] at h1 h2
      by_cases e' : j' = k
      · subst e'; rw [iU_same] at h2; omega
      · rw [iU_ne _ _ e'] at h2; exact h.2.2.2.1 j j' hj hj' h1 h2
  · rw [y2, a3]; exact h.2.2.2.2.1 s hs
  · rw [y0, a2, a3, a4]
    obtain ⟨g1, g2, g3⟩ := h.2.2.2.2.2.1 x hx
    refine ⟨fun q => ?_, g2, g3⟩
    obtain ⟨e1, e2, e3⟩ := g1 q
    refine ⟨e1, e2.trans ⟨fun ⟨r, hr, hx⟩ => ⟨r, hr, ?_⟩, fun ⟨r, hr, hx⟩ => ⟨r, hr, ?_⟩⟩, e3⟩
    · rw [iU_ne _ _ (fun er => by rw [er] at hx; omega)]; exact hx
    · by_cases er : r = k
      · rw [er, iU_same] at hx; omega
      · rw [iU_ne _ _ er] at hx; exact hx
  · rw [a2]
    by_cases e : j = k
    · subst e; rw [iU_same]
    · rw [iU_ne _ _ e]; exact h.2.2.2.2.2.2.1.2 j h1 h2
  · have := f1.2 ⟨q, hq, hx⟩; omega
  · rw [a2] at q
    by_cases e : j = k
    · subst e; rw [iU_same] at q; omega
    · rw [iU_ne _ _ e] at q
      exact e (h.2.2.2.1 j k hj hk (by omega) (by omega))
  · rw [a3]
    have : ¬ gRank G c ≤ A 3 (gSuit G c).toNat := fun q => by have := f3.2 q; omega
    omega
theorem SR.thome (hG : gmV G) (h : SR G Y A C) (hc : 0 ≤ c ∧ c < gAll G) (hl : A 3 (gSuit G c).toNat = gRank G c)
    (y0 : Y' 0 = Y 0) (y1 : Y' 1 = Y 1) (y2 : Y' 2 = iU (Y 2) (gSuit G c).toNat (Y 2 (gSuit G c).toNat - 1))
    (a0 : A' 0 = A 0) (a1 : A' 1 = A 1) (a2 : A' 2 = A 2) (a3 : A' 3 = iU (A 3) (gSuit G c).toNat (A 3 (gSuit G c).toNat - 1)) (a4 : A' 4 = A 4) : SH G Y' A' C c := by
  have hG' := hG
  unfold gmV at hG'
  have hA := gAll_rng hG
  obtain ⟨f1, f2, f3⟩ := h.c7 (x := c.toNat) (by omega) (by omega)
  rw [show ((c.toNat : Nat) : Int) = c by omega] at f1 f2 f3
  have hb := f3.2 (by omega)
  have hs := gSuit_rng (c := c) hG
  have hr := gRank_rng hG (c := c) (by omega)
  refine ⟨hc, fun q hq => ?_, h.2.1, fun j hj => ?_, ?_, fun s hs => ?_, fun x hx e => ?_, ⟨h.2.2.2.2.2.2.1.1, ?_⟩, fun q hq hx => ?_, fun j hj q => ?_, ?_⟩
  · obtain ⟨g1, g2, g3, g4⟩ := h.1 q hq
    rw [y0, y1]
    refine ⟨g1, ?_, g3, g4⟩
    unfold mcol at g2 ⊢
    rw [a0, a1]; exact g2
  · rw [y1, a2]; exact h.2.2.1 j hj
  · rw [a2]; exact h.2.2.2.1
  · rw [y2, a3]
    obtain ⟨g1, g2, g3, g4⟩ := h.2.2.2.2.1 s hs
    by_cases e : s = (gSuit G c).toNat
    · subst e
      rw [iU_same, iU_same, g1]
      exact ⟨rfl, by omega, by omega, fun q => by have := g4 q; omega⟩
    · rw [iU_ne _ _ e, iU_ne _ _ e]; exact ⟨g1, g2, g3, g4⟩
  · rw [y0, a2, a3, a4]
    obtain ⟨g1, g2, g3⟩ := h.2.2.2.2.2.1 x hx
    refine ⟨fun q => ?_, g2, g3⟩
    obtain ⟨e1, e2, e3⟩ := g1 q
    refine ⟨e1, e2, e3.trans ?_⟩
    by_cases es : (gSuit G x).toNat = (gSuit G c).toNat
    · rw [es, iU_same]
      have hsx := gSuit_rng (c := (x : Int)) hG
      have : gRank G x ≠ gRank G c := fun q => e (suit_rank hG (by omega) q)
      omega
    · rw [iU_ne _ _ es]
  · rw [a2]; exact h.2.2.2.2.2.2.1.2
  · have := f1.2 ⟨q, hq, hx⟩; omega
  · rw [a2] at q
    have := f2.2 ⟨j, hj, q⟩; omega
  · rw [a3, iU_same]; omega
end ZRJ
