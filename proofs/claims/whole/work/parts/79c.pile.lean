/-! Piles as lists. (Laid out by gen/tpl.py from tpl/79c.pile.tpl.) -/
/-- from t down by b lie the cards l, the uppermost first, and then the bare ground -/
def pile (b : Nat → Int) : Int → List Int → Prop
  | t, [] => t = -1
  | t, c :: l => t = c ∧ 0 ≤ c ∧ pile b (b c.toNat) l
theorem pile_lt {b : Nat → Int} {t : Int} {l : List Int} (h : pile b t l) : t = -1 ↔ l = [] := by
  cases l with
  | nil => exact ⟨fun _ => rfl, fun _ => h⟩
  | cons c l =>
    obtain ⟨h1, h2, h3⟩ := h
    exact ⟨fun q => by omega, fun q => by cases q⟩
theorem lHt_pile {b : Nat → Int} : ∀ (l : List Int) (t : Int) (n : Nat), pile b t l → l.length ≤ n → lHt b n t = l.length := by
  intro l
  induction l with
  | nil =>
    intro t n h hn
    have h : t = -1 := h
    rw [lHt_e (by omega)]
    rfl
  | cons c l ih =>
    intro t n h hn
    obtain ⟨h1, h2, h3⟩ := h
    obtain ⟨m, rfl⟩ : ∃ m, n = m + 1 := ⟨n - 1, by have : (c :: l).length = l.length + 1 := rfl; omega⟩
    subst h1
    rw [lHt_s (by omega), ih _ m h3 (by have : (t :: l).length = l.length + 1 := rfl; omega)]
    show 1 + (l.length : Int) = ((l.length + 1 : Nat) : Int)
    omega
theorem lDn_pile {b : Nat → Int} : ∀ (l : List Int) (t : Int) (n : Nat), pile b t l → lDn b n t = (l[n]?).getD (-1) := by
  intro l
  induction l with
  | nil =>
    intro t n h
    have h : t = -1 := h
    rw [lDn_e (by omega)]
    exact h
  | cons c l ih =>
    intro t n h
    obtain ⟨h1, h2, h3⟩ := h
    subst h1
    cases n with
    | zero => rfl
    | succ n =>
      rw [lDn_s (by omega), ih _ n h3]
      rfl
theorem pile_pos {b : Nat → Int} : ∀ (l : List Int) (t : Int), pile b t l → ∀ c ∈ l, 0 ≤ c := by
  intro l
  induction l with
  | nil => intro t h c hc; cases hc
  | cons x l ih =>
    intro t h c hc
    obtain ⟨h1, h2, h3⟩ := h
    rcases List.mem_cons.1 hc with rfl | hc
    · exact h2
    · exact ih _ h3 c hc
/-- b may change at cards that don't lie in the pile -/
theorem pile_keep {b b' : Nat → Int} : ∀ (l : List Int) (t : Int), pile b t l → (∀ c ∈ l, b' c.toNat = b c.toNat) → pile b' t l := by
  intro l
  induction l with
  | nil => intro t h _; exact h
  | cons x l ih =>
    intro t h hk
    obtain ⟨h1, h2, h3⟩ := h
    refine ⟨h1, h2, ?_⟩
    rw [hk x (List.mem_cons_self ..)]
    exact ih _ h3 fun c hc => hk c (List.mem_cons_of_mem _ hc)
