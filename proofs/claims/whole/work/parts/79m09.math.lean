section ZRO
variable {G : Nat → Int} {Y A Y' A' P : Nat → Nat → Int} {N : Nat → Int} {C : Nat → List Int} {z y m c lo : Int} {k p : Nat}
/-! counting -/
theorem nd_sub {α : Type} : ∀ (l l' : List α), l.Nodup → (∀ x ∈ l, x ∈ l') → l.length ≤ l'.length := by
  intro l
  induction l with
  | nil => intro l' _ _; exact Nat.zero_le _
  | cons a l ih =>
    intro l' h1 h2
    obtain ⟨s, t, e⟩ := List.append_of_mem (h2 a (List.mem_cons_self ..))
    obtain ⟨n1, n2⟩ := List.nodup_cons.1 h1
    have := ih (s ++ t) n2 fun x hx => by
      have := h2 x (List.mem_cons_of_mem _ hx)
      rw [e] at this
      rcases List.mem_append.1 this with q | q
      · exact List.mem_append_left _ q
      · rcases List.mem_cons.1 q with q | q
        · exact absurd (by rw [← q]; exact hx) n1
        · exact List.mem_append_right _ q
    rw [e, List.length_append]
    rw [List.length_append] at this
    show l.length + 1 ≤ s.length + (t.length + 1)
    omega
def cnt (p : Nat → Bool) (n : Nat) : Nat := ((List.range n).filter p).length
theorem cnt_s (p : Nat → Bool) (n : Nat) : cnt p (n + 1) = cnt p n + if p n then 1 else 0 := by
  unfold cnt
  rw [List.range_succ, List.filter_append, List.length_append]
  cases h : p n
  · simp [h]
  · simp [h]
theorem cnt_le (p : Nat → Bool) : ∀ n, cnt p n ≤ n := by
  intro n
  induction n with
  | zero => exact Nat.le_refl _
  | succ n ih => rw [cnt_s]; split <;> omega
theorem cnt_lt {p : Nat → Bool} : ∀ n, cnt p n < n ↔ ∃ k, k < n ∧ p k = false := by
  intro n
  induction n with
  | zero => exact ⟨fun q => by omega, fun ⟨k, hk, _⟩ => by omega⟩
  | succ n ih =>
    have := cnt_le p n
    rw [cnt_s]
    cases h : p n
    · rw [if_neg (by decide)]
      exact ⟨fun _ => ⟨n, by omega, h⟩, fun _ => by omega⟩
    · rw [if_pos rfl]
      constructor
      · intro q
        obtain ⟨k, hk, e⟩ := ih.1 (by omega)
        exact ⟨k, by omega, e⟩
      · intro ⟨k, hk, e⟩
        have : k ≠ n := fun q => by rw [q, h] at e; cases e
        have := ih.2 ⟨k, by omega, e⟩
        omega
theorem cnt_c {p q : Nat → Bool} {n : Nat} (h : ∀ k, k < n → p k = q k) : cnt p n = cnt q n := by
  unfold cnt
  congr 1
  exact List.filter_congr fun x hx => h x (List.mem_range.1 hx)
theorem cnt_up {p : Nat → Bool} {n : Nat} : ∀ m, (∀ k, n ≤ k → k < n + m → p k = false) → cnt p (n + m) = cnt p n := by
  intro m
  induction m with
  | zero => intro _; rfl
  | succ m ih =>
    intro h
    rw [← Nat.add_assoc, cnt_s, h (n + m) (by omega) (by omega), ih fun k h1 h2 => h k h1 (by omega)]
    rfl
theorem cnt_bij {p q : Nat → Bool} {n m : Nat} (f : Nat → Nat) (h1 : ∀ k, k < m → q k = true → f k < n ∧ p (f k) = true) (h2 : ∀ k k', k < m → k' < m → q k = true → q k' = true → f k = f k' → k = k') (h3 : ∀ c, c < n → p c = true → ∃ k, k < m ∧ q k = true ∧ f k = c) : cnt p n = cnt q m := by
  unfold cnt
  have mem : ∀ (p : Nat → Bool) n x, x ∈ (List.range n).filter p ↔ x < n ∧ p x = true := fun p n x => by rw [List.mem_filter, List.mem_range]
  apply Nat.le_antisymm
  · have := nd_sub ((List.range n).filter p) (((List.range m).filter q).map f) (List.nodup_range.filter _) fun x hx => by
      obtain ⟨a, b⟩ := (mem p n x).1 hx
      obtain ⟨k, hk, e1, e2⟩ := h3 x a b
      exact List.mem_map.2 ⟨k, (mem q m k).2 ⟨hk, e1⟩, e2⟩
    rw [List.length_map] at this
    exact this
  · have := nd_sub (((List.range m).filter q).map f) ((List.range n).filter p) (by
      unfold List.Nodup
      rw [List.pairwise_map]
      refine List.Pairwise.imp_of_mem ?_ (List.nodup_range.filter q)
      intro a b ha hb hab e
      obtain ⟨a1, a2⟩ := (mem q m a).1 ha
      obtain ⟨b1, b2⟩ := (mem q m b).1 hb
      exact hab (h2 a b a1 b1 a2 b2 e)) fun x hx => by
      obtain ⟨k, hk, e⟩ := List.mem_map.1 hx
      obtain ⟨a1, a2⟩ := (mem q m k).1 hk
      rw [← e]
      exact (mem p n _).2 (h1 k a1 a2)
    rw [List.length_map] at this
    exact this
/-- cards of a suit up to a rank -/
theorem cnt_suit {g s : Nat} {h : Int} (hg : 0 < g) (hs : s < g) (hh : 0 ≤ h) : ∀ r : Nat, (cnt (fun x => decide (x % g = s ∧ ((x / g : Nat) : Int) + 1 ≤ h)) (g * r) : Int) = if h ≤ r then h else r := by
  intro r
  induction r with
  | zero =>
    rw [Nat.mul_zero]
    show ((0 : Nat) : Int) = _
    split <;> omega
  | succ r ih =>
    have blk : ∀ k, k ≤ g → (cnt (fun x => decide (x % g = s ∧ ((x / g : Nat) : Int) + 1 ≤ h)) (g * r + k) : Int) = (cnt (fun x => decide (x % g = s ∧ ((x / g : Nat) : Int) + 1 ≤ h)) (g * r) : Int) + if s < k ∧ (r : Int) + 1 ≤ h then 1 else 0 := by
      intro k
      induction k with
      | zero => intro _; rw [Nat.add_zero, if_neg (by omega)]; omega
      | succ k ih2 =>
        intro hk
        rw [← Nat.add_assoc, cnt_s]
        have := ih2 (by omega)
        have e1 : (g * r + k) % g = k := by rw [Nat.mul_add_mod]; exact Nat.mod_eq_of_lt (by omega)
        have e2 : (g * r + k) / g = r := by rw [Nat.mul_add_div hg, Nat.div_eq_of_lt (by omega)]; rfl
        rw [e1, e2]
        by_cases q : k = s ∧ (r : Int) + 1 ≤ h
        · rw [decide_eq_true q, if_pos rfl, if_pos ⟨by omega, q.2⟩]
          rw [if_neg (by omega)] at this
          omega
        · rw [decide_eq_false q, if_neg (by decide)]
          by_cases q2 : s < k ∧ (r : Int) + 1 ≤ h
          · rw [if_pos q2] at this
            rw [if_pos (by omega)]
            omega
          · rw [if_neg q2] at this
            rw [if_neg (by omega)]
            omega
    have := blk g (Nat.le_refl _)
    rw [Nat.mul_succ, this, ih]
    split <;> split <;> split <;> omega
end ZRO
