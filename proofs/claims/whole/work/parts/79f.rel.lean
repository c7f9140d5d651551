/-! The relation of the table and the reference: which moves are allowed. (Laid out by gen/tpl.py from tpl/79f.rel.tpl.) -/
section ZRF
variable {G : Nat → Int} {Y A : Nat → Nat → Int} {C : Nat → List Int} {z y m c k : Int}
theorem SR.bare (h : SR G Y A C) {p : Nat} (hp : p < 8) : (Y 1 p = -1 ↔ C p = []) ∧ (A 1 p = 0 ↔ C p = []) ∧ mFT A p 0 = Y 1 p := by
  obtain ⟨h1, h2, -⟩ := h.1 p hp
  refine ⟨pile_lt h1, ?_, ?_⟩
  · rw [h2.1]
    constructor
    · intro q
      exact List.length_eq_zero_iff.1 (by omega)
    · intro q
      rw [q]
      rfl
  · rw [mFT_mcol (k := 0) h2 (by omega)]
    cases hl : C p with
    | nil => rw [hl] at h1; exact h1.symm
    | cons a l => rw [hl] at h1; exact h1.1.symm
theorem SR.bears (hG : gmV G) (h : SR G Y A C) (hy : gCol G y) : lBears G (Y 1) y c ↔ mFA G A c y := by
  have hG' := hG
  unfold gmV at hG'
  obtain ⟨h1, h2, h3⟩ := h.bare (p := y.toNat) (by omega)
  rw [show ((y.toNat : Nat) : Int) = y by omega] at h3
  unfold lBears mFA
  rw [h3]
  by_cases g : C y.toNat = []
  · rw [if_pos (h1.2 g), if_pos (h2.2 g)]
  · rw [if_neg (fun q => g (h1.1 q)), if_neg (fun q => g (h2.1 q))]
theorem SR.one (hG : gmV G) (hW : lyW Y) (h : SR G Y A C) (hz : gCol G z ∨ gCel G z) (hy : gPla G y) : lOne G (Y 1) (Y 2) z y ↔ mOne G A z y := by
  have hG' := hG
  unfold gmV at hG'
  have hb := hW.2.1 z.toNat
  unfold lOne mOne mOn
  rw [h.top hG hz]
  have e1 : Y 1 z.toNat ≠ -1 ↔ 0 ≤ Y 1 z.toNat := by omega
  rw [e1]
  refine and_congr Iff.rfl (and_congr Iff.rfl ?_)
  generalize Y 1 z.toNat = c
  rcases hy with hy | hy | hy
  · rw [if_pos hy, if_neg (by omega), if_neg (by omega)]
    exact h.bears hG hy
  · rw [if_neg (by omega), if_pos hy, if_neg (by omega), if_pos hy]
    obtain ⟨g1, g2, g3⟩ := h.2.2.1 (y - 8).toNat (by omega)
    rw [show 8 + (y - 8).toNat = y.toNat by omega] at g1
    rw [g1]
    refine and_congr Iff.rfl ?_
    omega
  · rw [if_neg (by omega), if_neg (by omega), if_pos hy]
    have sc := gSuit_rng (c := c) hG
    have := (h.2.2.2.2.1 (gSuit G c).toNat (by omega)).1
    unfold lMay
    rw [this]
    omega
/-- the empty places -/
theorem lEm_L1 {t : Nat → Int} {A : Nat → Nat → Int} : ∀ (n : Nat) (k i : Int), 0 ≤ k → (∀ j : Nat, k ≤ j → (j : Int) < k + n → (t (8 + j) = -1 ↔ A 2 j < 0)) → mL1 A n k i = i + lEm t n (8 + k) := by
  intro n
  induction n with
  | zero => intro k i _ _; show i = i + 0; omega
  | succ n ih =>
    intro k i hk h
    have h0 := h k.toNat (by omega) (by omega)
    have ih1 := ih (k + 1) (if A 2 k.toNat < 0 then i + 1 else i) (by omega) (fun j h1 h2 => h j (by omega) (by omega))
    show mL1 A n (k + 1) (if A 2 k.toNat < 0 then i + 1 else i) = _
    rw [ih1, show 8 + (k + 1) = 8 + k + 1 by omega]
    have e : (8 + k).toNat = 8 + k.toNat := by omega
    by_cases g : A 2 k.toNat < 0
    · rw [if_pos g, lEm_1 (by rw [e]; exact h0.2 g)]; omega
    · rw [if_neg g, lEm_0 (by rw [e]; exact fun q => g (h0.1 q))]
theorem lEm_L2 {t : Nat → Int} {A : Nat → Nat → Int} (hf : G 3 = 0) (y : Int) : ∀ (n : Nat) (p i : Int), 0 ≤ p → (∀ j : Nat, p ≤ j → (j : Int) < p + n → (t j = -1 ↔ A 1 j = 0)) → mL2 G A y n p i = i * 2 ^ (lEm t n p - (if p ≤ y ∧ y < p + n ∧ t y.toNat = -1 then 1 else 0)).toNat := by
  intro n
  induction n with
  | zero =>
    intro p i _ _
    rw [if_neg (by omega)]
    show i = i * 2 ^ (0 - 0 : Int).toNat
    rw [show (0 - 0 : Int).toNat = 0 by omega]
    omega
  | succ n ih =>
    intro p i hp h
    have h0 := h p.toNat (by omega) (by omega)
    have r := lEm_rng (t := t) n (p + 1)
    have ih1 := ih (p + 1) (if G 3 = 0 ∧ p ≠ y ∧ A 1 p.toNat = 0 then 2 * i else i) (by omega) (fun j h1 h2 => h j (by omega) (by omega))
    show mL2 G A y n (p + 1) (if G 3 = 0 ∧ p ≠ y ∧ A 1 p.toNat = 0 then 2 * i else i) = _
    rw [ih1]
    by_cases g : A 1 p.toNat = 0
    · have gt := h0.2 g
      rw [lEm_1 gt]
      by_cases gy : p = y
      · subst gy
        rw [if_neg (by omega), if_neg (by omega), if_pos (by omega)]
        congr 2
        omega
      · rw [if_pos ⟨hf, gy, g⟩]
        have hpos : (if p + 1 ≤ y ∧ y < p + 1 + n ∧ t y.toNat = -1 then (1 : Int) else 0) = (if p ≤ y ∧ y < p + ((n + 1 : Nat) : Int) ∧ t y.toNat = -1 then (1 : Int) else 0) := by
          by_cases q : p + 1 ≤ y ∧ y < p + 1 + n ∧ t y.toNat = -1
          · rw [if_pos q, if_pos (by omega)]
          · rw [if_neg q, if_neg (by omega)]
        rw [← hpos]
        have hle : (if p + 1 ≤ y ∧ y < p + 1 + n ∧ t y.toNat = -1 then (1 : Int) else 0) ≤ lEm t n (p + 1) := by
          split
          · rename_i q
            exact lEm_pos n (p + 1) y (by omega) q.1 q.2.1 q.2.2
          · exact r.1
        generalize (if p + 1 ≤ y ∧ y < p + 1 + n ∧ t y.toNat = -1 then (1 : Int) else 0) = d at *
        rw [show (1 + lEm t n (p + 1) - d).toNat = (lEm t n (p + 1) - d).toNat + 1 by omega, Int.pow_succ]
        rw [Int.mul_comm 2 i, Int.mul_assoc, Int.mul_comm 2]
    · have gt : ¬ t p.toNat = -1 := fun q => g (h0.1 q)
      rw [lEm_0 gt, if_neg (fun q => g q.2.2)]
      congr 2
      by_cases q : p + 1 ≤ y ∧ y < p + 1 + n ∧ t y.toNat = -1
      · rw [if_pos q, if_pos (by omega)]
      · rw [if_neg q, if_neg (fun q2 => q ⟨by
          have : p ≠ y := fun e => gt (by rw [e]; exact q2.2.2)
          omega, by omega, q2.2.2⟩)]
end ZRF
