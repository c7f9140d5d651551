/-! The relation of the table and the reference. (Laid out by gen/tpl.py from tpl/79d.rel.tpl.) -/
/-- column p of the reference holds the cards l, the uppermost first -/
def mcol (A : Nat → Nat → Int) (p : Nat) (l : List Int) : Prop := A 1 p = l.length ∧ ∀ i, i < l.length → A 0 (52 * p + (l.length - 1 - i)) = (l[i]?).getD (-1)
section ZRL
variable {G : Nat → Int} {A : Nat → Nat → Int} {l : List Int} {p : Nat} {k : Int}
theorem mFT_mcol (h : mcol A p l) (hk : 0 ≤ k) : mFT A p k = (l[k.toNat]?).getD (-1) := by
  obtain ⟨h1, h2⟩ := h
  unfold mFT
  rw [show (p : Int).toNat = p by omega]
  split
  · rename_i hlt
    have := h2 k.toNat (by omega)
    rw [← this]
    congr 1
    omega
  · rename_i hlt
    rw [List.getElem?_eq_none (by omega)]
    rfl
/-- a card is put on -/
theorem mcol_push (h : mcol A p l) (hl : l.length ≤ 51) (c : Int) : mcol (mPu A p c) p (c :: l) := by
  obtain ⟨h1, h2⟩ := h
  constructor
  · show iU (A 1) (p : Int).toNat (A 1 (p : Int).toNat + 1) p = ((l.length + 1 : Nat) : Int)
    rw [show (p : Int).toNat = p by omega, iU_same, h1]
    omega
  · intro i hi
    have hi : i < l.length + 1 := hi
    show iU (A 0) (52 * (p : Int) + A 1 (p : Int).toNat).toNat c (52 * p + (l.length + 1 - 1 - i)) = ((c :: l)[i]?).getD (-1)
    rw [show (p : Int).toNat = p by omega, h1, show (52 * (p : Int) + (l.length : Int)).toNat = 52 * p + l.length by omega]
    cases i with
    | zero =>
      rw [show 52 * p + (l.length + 1 - 1 - 0) = 52 * p + l.length by omega, iU_same]
      rfl
    | succ i =>
      rw [iU_ne _ _ (by omega), show l.length + 1 - 1 - (i + 1) = l.length - 1 - i by omega]
      exact h2 i (by omega)
/-- the uppermost is taken -/
theorem mcol_pop {c : Int} (h : mcol A p (c :: l)) : mcol (fU A 1 (iU (A 1) p (A 1 p - 1))) p l := by
  obtain ⟨h1, h2⟩ := h
  have h1 : A 1 p = ((l.length + 1 : Nat) : Int) := h1
  constructor
  · show iU (A 1) p (A 1 p - 1) p = (l.length : Int)
    rw [iU_same, h1]
    omega
  · intro i hi
    show A 0 (52 * p + (l.length - 1 - i)) = (l[i]?).getD (-1)
    have := h2 (i + 1) (by show i + 1 < l.length + 1; omega)
    have e : ((c :: l)[i + 1]?).getD (-1) = (l[i]?).getD (-1) := rfl
    rw [← e, ← this]
    congr 1
    show 52 * p + (l.length - 1 - i) = 52 * p + (l.length + 1 - 1 - (i + 1))
    omega
/-- other columns stay -/
theorem mcol_keep {A' : Nat → Nat → Int} (h : mcol A p l) (hl : l.length ≤ 52) (h1 : A' 1 p = A 1 p) (h0 : ∀ j, 52 * p ≤ j → j < 52 * p + l.length → A' 0 j = A 0 j) : mcol A' p l := by
  refine ⟨h1.trans h.1, fun i hi => ?_⟩
  rw [h0 _ (by omega) (by omega)]
  exact h.2 i hi
end ZRL
