/-! The relation of the table and the reference: what it says. (Laid out by gen/tpl.py from tpl/79e.rel.tpl.) -/
/-- C p: the cards of column p, the uppermost first -/
def SR (G : Nat → Int) (Y A : Nat → Nat → Int) (C : Nat → List Int) : Prop :=
  (∀ p, p < 8 → pile (Y 0) (Y 1 p) (C p) ∧ mcol A p (C p) ∧ (C p).Nodup ∧ ∀ c ∈ C p, c < gAll G) ∧
  (∀ p p' c, p < 8 → p' < 8 → c ∈ C p → c ∈ C p' → p = p') ∧
  (∀ k, k < 4 → Y 1 (8 + k) = A 2 k ∧ A 2 k < gAll G ∧ -1 ≤ A 2 k) ∧
  (∀ k k', k < 4 → k' < 4 → 0 ≤ A 2 k → A 2 k = A 2 k' → k = k') ∧
  (∀ s, s < 4 → Y 2 s = A 3 s ∧ 0 ≤ A 3 s ∧ A 3 s ≤ G 5 ∧ (G 4 ≤ s → A 3 s = 0)) ∧
  (∀ c : Nat, c < 52 → ((c : Int) < gAll G → ((-1 ≤ Y 0 c ↔ ∃ p, p < 8 ∧ (c : Int) ∈ C p) ∧ (Y 0 c = -2 ↔ ∃ k, k < 4 ∧ A 2 k = c) ∧ (Y 0 c = -3 ↔ gRank G c ≤ A 3 (gSuit G c).toNat))) ∧ (gAll G ≤ c → Y 0 c = -4) ∧ (A 4 c = 0 ↔ Y 0 c = -4)) ∧
  ((∀ p : Nat, G 0 ≤ p → p < 8 → C p = []) ∧ ∀ k : Nat, G 1 ≤ k → k < 4 → A 2 k = -1) ∧
  Y 3 0 = mLaid A ∧ Y 3 1 = mAH A
section ZRE
variable {G : Nat → Int} {Y A : Nat → Nat → Int} {C : Nat → List Int} {z y m c k : Int}
theorem nd_f (n : Int) : ∀ l : List Int, l.Nodup → l.length ≤ (l.filter (fun x => decide (x ≠ n))).length + 1 := by
  intro l
  induction l with
  | nil => intro _; exact Nat.zero_le _
  | cons a l ih =>
    intro h
    obtain ⟨h1, h2⟩ := List.nodup_cons.1 h
    by_cases ha : a = n
    · have e : l.filter (fun x => decide (x ≠ n)) = l := List.filter_eq_self.2 fun x hx => decide_eq_true fun q => h1 (by rw [ha, ← q]; exact hx)
      rw [List.filter_cons_of_neg (by simp [ha]), e]
      exact Nat.le_refl _
    · rw [List.filter_cons_of_pos (by simp [ha])]
      have := ih h2
      show l.length + 1 ≤ (l.filter (fun x => decide (x ≠ n))).length + 1 + 1
      omega
theorem nd_len : ∀ (n : Nat) (l : List Int), l.Nodup → (∀ c ∈ l, 0 ≤ c ∧ c < n) → l.length ≤ n := by
  intro n
  induction n with
  | zero =>
    intro l _ h
    cases l with
    | nil => exact Nat.le_refl _
    | cons a l => have := h a (List.mem_cons_self ..); omega
  | succ n ih =>
    intro l h1 h2
    have h3 := nd_f n l h1
    have h4 := ih (l.filter (fun x => decide (x ≠ (n : Int)))) (h1.filter _) (fun c hc => by
      obtain ⟨g1, g2⟩ := List.mem_filter.1 hc
      have := h2 c g1
      have := of_decide_eq_true g2
      omega)
    omega
theorem SR.len (hG : gmV G) (h : SR G Y A C) {p : Nat} (hp : p < 8) : (C p).length ≤ 52 := by
  obtain ⟨h1, -, h3, h4⟩ := h.1 p hp
  have hA := gAll_rng hG
  have hpos := pile_pos _ _ h1
  exact nd_len 52 _ h3 fun c hc => ⟨hpos c hc, by have := h4 c hc; omega⟩
/-- a card that doesn't lie there finds room -/
theorem SR.room (hG : gmV G) (h : SR G Y A C) {p : Nat} (hp : p < 8) (hc : 0 ≤ c ∧ c < gAll G) (hn : c ∉ C p) : (C p).length ≤ 51 := by
  obtain ⟨h1, -, h3, h4⟩ := h.1 p hp
  have hA := gAll_rng hG
  have hpos := pile_pos _ _ h1
  have := nd_len 52 (c :: C p) (List.nodup_cons.2 ⟨hn, h3⟩) fun x hx => by
    rcases List.mem_cons.1 hx with rfl | hx
    · omega
    · have := hpos x hx; have := h4 x hx; omega
  have e : (c :: C p).length = (C p).length + 1 := rfl
  omega
/-- the uppermost card of a place -/
theorem SR.top (hG : gmV G) (h : SR G Y A C) (hz : gCol G z ∨ gCel G z) : mTp G A z = Y 1 z.toNat := by
  have hG' := hG
  unfold gmV at hG'
  unfold mTp
  split
  · rename_i hc
    have := (h.2.2.1 (z - 8).toNat (by omega)).1
    rw [← this]
    congr 1
    omega
  · rename_i hc
    obtain ⟨h1, h2, -⟩ := h.1 z.toNat (by omega)
    have := mFT_mcol (k := 0) h2 (by omega)
    rw [show ((z.toNat : Nat) : Int) = z by omega] at this
    rw [this]
    cases hl : C z.toNat with
    | nil => rw [hl] at h1; exact h1.symm
    | cons a l => rw [hl] at h1; exact h1.1.symm
end ZRE
