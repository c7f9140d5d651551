section ZRH
variable {G : Nat → Int} {Y A : Nat → Nat → Int} {C : Nat → List Int} {z y m c k : Int}
theorem lSf_all {h : Nat → Int} : ∀ (n : Nat) (s : Int), 0 ≤ s → (lSf G h c n s = true ↔ ∀ j : Nat, s ≤ j → (j : Int) < s + n → ¬ ((G 2 ≠ 0 ∨ ¬ (gRed j ↔ gRed (gSuit G c))) ∧ h j < gRank G c - 1)) := by
  intro n
  induction n with
  | zero => intro s hs; exact ⟨fun _ j h1 h2 => by omega, fun _ => rfl⟩
  | succ n ih =>
    intro s hs
    by_cases g : (G 2 ≠ 0 ∨ ¬ (gRed s ↔ gRed (gSuit G c))) ∧ h s.toNat < gRank G c - 1
    · rw [lSf_f g]
      constructor
      · intro q; cases q
      · intro q
        have := q s.toNat (by omega) (by omega)
        rw [show ((s.toNat : Nat) : Int) = s by omega] at this
        exact absurd g this
    · rw [lSf_t g, ih (s + 1) (by omega)]
      constructor
      · intro q j h1 h2
        by_cases e : (j : Int) = s
        · have : j = s.toNat := by omega
          rw [e, this]
          exact g
        · exact q j (by omega) (by omega)
      · intro q j h1 h2
        exact q j (by omega) (by omega)
theorem mSf_all : ∀ (n : Nat) (s b : Int), 0 ≤ s → (mSf G A c n s b = 1 ↔ b = 1 ∧ ∀ j : Nat, s ≤ j → (j : Int) < s + n → (mMat G c j → gRank G c < 3 ∨ gRank G c ≤ A 3 j + 1)) := by
  intro n
  induction n with
  | zero => intro s b hs; exact ⟨fun q => ⟨q, fun j h1 h2 => by omega⟩, fun q => q.1⟩
  | succ n ih =>
    intro s b hs
    show mSf G A c n (s + 1) (if b = 1 ∧ (mMat G c s → gRank G c < 3 ∨ gRank G c ≤ A 3 s.toNat + 1) then 1 else 0) = 1 ↔ _
    rw [ih (s + 1) _ (by omega)]
    constructor
    · intro ⟨q1, q2⟩
      by_cases g : b = 1 ∧ (mMat G c s → gRank G c < 3 ∨ gRank G c ≤ A 3 s.toNat + 1)
      · refine ⟨g.1, fun j h1 h2 => ?_⟩
        by_cases e : (j : Int) = s
        · have : j = s.toNat := by omega
          rw [e, this]
          exact g.2
        · exact q2 j (by omega) (by omega)
      · rw [if_neg g] at q1; cases q1
    · intro ⟨q1, q2⟩
      have := q2 s.toNat (by omega) (by omega)
      rw [show ((s.toNat : Nat) : Int) = s by omega] at this
      exact ⟨if_pos ⟨q1, this⟩, fun j h1 h2 => q2 j (by omega) (by omega)⟩
theorem gBR (s : Int) (h : 0 ≤ s ∧ s < 4) : gBlk s ↔ ¬ gRed s := by
  unfold gBlk gRed
  omega
theorem SR.safe (hG : gmV G) (h : SR G Y A C) : lSafe G (Y 2) c ↔ mSafe G A c := by
  have hG' := hG
  unfold gmV at hG'
  have hs := gSuit_rng (c := c) hG
  unfold lSafe mSafe
  rw [lSf_all _ _ (by omega), mSf_all _ _ _ (by omega)]
  have e : ∀ j : Nat, (j : Int) < 4 → Y 2 j = A 3 j := fun j hj => (h.2.2.2.2.1 j (by omega)).1
  constructor
  · intro q
    refine ⟨rfl, fun j h1 h2 hm => ?_⟩
    unfold mMat at hm
    rcases q with q | q | q
    · omega
    · omega
    · have := q j h1 h2
      rw [e j (by omega)] at this
      rw [gBR j (by omega), gBR _ hs] at hm
      have hx : G 2 ≠ 0 ∨ ¬ (gRed j ↔ gRed (gSuit G c)) := by
        rcases hm with hm | hm
        · left; omega
        · right; intro i; exact hm.2 (by rw [i])
      have : ¬ A 3 j < gRank G c - 1 := fun g => this ⟨hx, g⟩
      omega
  · rintro ⟨-, q⟩
    by_cases g1 : G 2 = 1
    · exact Or.inl g1
    · by_cases g2 : gRank G c ≤ 2
      · exact Or.inr (Or.inl g2)
      · refine Or.inr (Or.inr fun j h1 h2 hm => ?_)
        have := q j h1 h2 (by
          unfold mMat
          rw [gBR j (by omega), gBR _ hs]
          by_cases g3 : G 2 = 2
          · exact Or.inl g3
          · right
            refine ⟨by omega, fun i => ?_⟩
            rcases hm.1 with hm | hm
            · omega
            · exact hm ⟨fun a => Classical.byContradiction fun b => (i.2 b) a, fun a => Classical.byContradiction fun b => (i.1 b) a⟩)
        rw [e j (by omega)] at hm
        omega
theorem SR.none (hG : gmV G) (h : SR G Y A C) {p : Nat} (hp : p < 12) (hn : ¬ (gCol G p ∨ gCel G p)) : Y 1 p = -1 := by
  have hG' := hG
  unfold gmV at hG'
  by_cases g : p < 8
  · have := h.2.2.2.2.2.2.1.1 p (by omega) g
    exact (h.bare g).1.2 this
  · have a := h.2.2.2.2.2.2.1.2 (p - 8) (by omega) (by omega)
    have b := (h.2.2.1 (p - 8) (by omega)).1
    rw [show 8 + (p - 8) = p by omega] at b
    rw [b, a]
theorem SR.spC (hG : gmV G) (hW : lyW Y) (h : SR G Y A C) {p : Nat} (hp : p < 12) : lTS G (Y 1) (Y 2) p ↔ mSpC G A p := by
  have hG' := hG
  unfold gmV at hG'
  unfold lTS mSpC
  by_cases g : gCol G p ∨ gCel G p
  · have o := h.one hG hW g (y := 12) (Or.inr (Or.inr rfl))
    rw [← o, h.top hG g, ← h.safe hG]
    unfold lOne
    rw [if_neg (by omega), if_neg (by omega)]
    constructor
    · intro ⟨a, b, c⟩
      exact ⟨Or.symm g, ⟨a, by omega, rfl, b⟩, c⟩
    · intro ⟨_, ⟨a, _, _, b⟩, c⟩
      exact ⟨a, b, c⟩
  · have := h.none hG hp g
    constructor
    · intro q; exact absurd this q.1
    · intro q; exact absurd (Or.symm q.1) g
theorem SR.pos (hG : gmV G) (hW : lyW Y) (h : SR G Y A C) : lPos G (Y 1) (Y 2) = mSp G A 12 0 := by
  have f : ∀ (n : Nat) (p : Nat), p + n ≤ 12 → ∀ (j : Nat) (k : Int), (∀ i : Nat, i < n → mSpP (k + i) = p + i) → mSp G A (n + j) k = if lFp G (Y 1) (Y 2) n p = -1 then mSp G A j (k + n) else lFp G (Y 1) (Y 2) n p := by
    intro n
    induction n with
    | zero =>
      intro p hp j k hk
      rw [show lFp G (Y 1) (Y 2) 0 p = -1 from rfl, if_pos rfl, Nat.zero_add, show k + ((0 : Nat) : Int) = k by omega]
    | succ n ih =>
      intro p hp j k hk
      have e0 := hk 0 (by omega)
      rw [show k + ((0 : Nat) : Int) = k by omega, show (p : Int) + ((0 : Nat) : Int) = p by omega] at e0
      have s := h.spC hG hW (p := p) (by omega)
      rw [show n + 1 + j = (n + j) + 1 by omega]
      show (if mSpC G A (mSpP k) then mSpP k else mSp G A (n + j) (k + 1)) = _
      rw [e0]
      by_cases g : lTS G (Y 1) (Y 2) p
      · rw [if_pos (s.1 g), lFp_t g, if_neg (by omega)]
      · rw [if_neg (fun q => g (s.2 q)), lFp_f g]
        have := ih (p + 1) (by omega) j (k + 1) (fun i hi => by
          have := hk (i + 1) (by omega)
          rw [show k + 1 + (i : Int) = k + ((i + 1 : Nat) : Int) by omega, this]
          omega)
        rw [show ((p + 1 : Nat) : Int) = (p : Int) + 1 by omega, show k + 1 + (n : Int) = k + ((n + 1 : Nat) : Int) by omega] at this
        exact this
  have a := f 4 8 (by omega) 8 0 (fun i hi => by unfold mSpP; rw [if_pos (by omega)]; omega)
  have b := f 8 0 (by omega) 0 4 (fun i hi => by unfold mSpP; rw [if_neg (by omega)]; omega)
  rw [show (0 : Int) + ((4 : Nat) : Int) = 4 by omega, show ((8 : Nat) : Int) = 8 by omega] at a
  rw [show ((0 : Nat) : Int) = 0 by omega] at b
  unfold lPos
  rw [show (12 : Nat) = 4 + 8 by omega, a]
  rw [show (8 : Nat) + 0 = 8 by omega] at b
  rw [b]
  by_cases g : lFp G (Y 1) (Y 2) 4 8 = -1
  · rw [if_pos g, if_pos g]
    by_cases g2 : lFp G (Y 1) (Y 2) 8 0 = -1
    · rw [if_pos g2, g2]
      rfl
    · rw [if_neg g2]
  · rw [if_neg g, if_neg g]
/-- the card of a cell lies on nothing -/
theorem SR.cell (hG : gmV G) (h : SR G Y A C) {k : Nat} (hk : k < 4) (hc : 0 ≤ A 2 k) : Y 0 (A 2 k).toNat = -2 := by
  have hA := gAll_rng hG
  obtain ⟨g1, g2, g3⟩ := h.2.2.1 k hk
  exact ((h.2.2.2.2.2.1 (A 2 k).toNat (by omega)).1 (by omega)).2.1.2 ⟨k, hk, by omega⟩
theorem SR.size (hG : gmV G) (h : SR G Y A C) (hz : gPla G z) : lHei (Y 0) (Y 1) (Y 3 1) z = mSz G A z := by
  have hG' := hG
  unfold gmV at hG'
  unfold lHei mSz
  by_cases e : z = 12
  · rw [if_pos e, if_pos e]
    exact h.2.2.2.2.2.2.2.2
  · rw [if_neg e, if_neg e]
    by_cases g : gCel G z
    · rw [if_pos g]
      obtain ⟨g1, g2, g3⟩ := h.2.2.1 (z - 8).toNat (by omega)
      rw [show 8 + (z - 8).toNat = z.toNat by omega] at g1
      rw [g1]
      by_cases q : A 2 (z - 8).toNat < 0
      · rw [if_pos q, lHt_e q]
      · rw [if_neg q, lHt_s q, lHt_e (by rw [h.cell hG (by omega) (by omega)]; omega)]
        rfl
    · have gc : gCol G z := by rcases hz with q | q | q; exact q; exact absurd q g; exact absurd q e
      rw [if_neg g, if_pos gc]
      obtain ⟨h1, h2, -⟩ := h.1 z.toNat (by omega)
      rw [lHt_pile _ _ _ h1 (h.len hG (by omega)), h2.1]
theorem SR.card (hG : gmV G) (h : SR G Y A C) : (if gPla G z ∧ 0 ≤ k then (if z = 12 then lTop G (Y 2) k else lCard (Y 0) (Y 1) z (lHei (Y 0) (Y 1) (Y 3 1) z - 1 - k)) else -1) = mCd G A z k := by
  have hG' := hG
  unfold gmV at hG'
  unfold mCd
  by_cases e : z = 12
  · conv => rhs; rw [if_pos e]
    by_cases hk : 0 ≤ k
    · rw [if_pos ⟨Or.inr (Or.inr e), hk⟩, if_pos e]
      unfold lTop
      by_cases k4 : k < G 4
      · obtain ⟨g1, g2, -⟩ := h.2.2.2.2.1 k.toNat (by omega)
        rw [g1]
        by_cases q : A 3 k.toNat = 0
        · rw [if_neg (by omega), if_neg (by omega)]
        · rw [if_pos ⟨k4, q⟩, if_pos (by omega)]
      · rw [if_neg (by omega), if_neg (by omega)]
    · rw [if_neg (fun q => hk q.2), if_neg (fun q => hk q.1.1)]
  · conv => rhs; rw [if_neg e]
    by_cases g : gCel G z
    · conv => rhs; rw [if_pos g]
      obtain ⟨g1, g2, g3⟩ := h.2.2.1 (z - 8).toNat (by omega)
      rw [show 8 + (z - 8).toNat = z.toNat by omega] at g1
      by_cases hk : 0 ≤ k
      · rw [if_pos ⟨Or.inr (Or.inl g), hk⟩, if_neg e, h.size hG (Or.inr (Or.inl g))]
        unfold mSz
        rw [if_neg e, if_pos g]
        by_cases q : A 2 (z - 8).toNat < 0
        · rw [if_pos q]
          unfold lCard
          rw [if_pos (by omega)]
          by_cases k0 : k = 0
          · rw [if_pos k0]; omega
          · rw [if_neg k0]
        · rw [if_neg q]
          unfold lCard
          by_cases k0 : k = 0
          · rw [if_pos k0, if_neg (by omega), show (1 - 1 - k).toNat = 0 by omega]
            show (if Y 1 z.toNat < 0 then -1 else Y 1 z.toNat) = _
            rw [g1, if_neg q]
          · rw [if_neg k0, if_pos (by omega)]
      · rw [if_neg (fun q => hk q.2), if_neg (fun q => hk (by omega))]
    · conv => rhs; rw [if_neg g]
      by_cases gc : gCol G z
      · by_cases hk : 0 ≤ k
        · rw [if_pos ⟨Or.inl gc, hk⟩, if_neg e, h.size hG (Or.inl gc)]
          unfold mSz
          rw [if_neg e, if_neg g, if_pos gc]
          by_cases q : k < A 1 z.toNat
          · have n := h.nth (p := z.toNat) (k := A 1 z.toNat - 1 - k) (by omega) (by omega)
            rw [show ((z.toNat : Nat) : Int) = z by omega] at n
            rw [n, if_pos ⟨gc, hk, q⟩]
            unfold mFT
            rw [if_pos (by omega)]
            congr 1
            omega
          · rw [if_neg (by omega)]
            unfold lCard
            rw [if_pos (by omega)]
        · rw [if_neg (fun q => hk q.2), if_neg (fun q => hk q.2.1)]
      · rw [if_neg (fun q => by rcases q.1 with q | q | q; exact gc q; exact g q; exact e q), if_neg (fun q => gc q.1)]
end ZRH
