/-! The relation of the table and the reference: rows, the most, safe cards. -/
section ZRG
variable {G : Nat → Int} {Y A : Nat → Nat → Int} {C : Nat → List Int} {z y m c k : Int}
theorem mL2_no (hf : G 3 ≠ 0) : ∀ (n : Nat) (p i : Int), mL2 G A y n p i = i := by
  intro n
  induction n with
  | zero => intro p i; rfl
  | succ n ih =>
    intro p i
    show mL2 G A y n (p + 1) (if G 3 = 0 ∧ p ≠ y ∧ A 1 p.toNat = 0 then 2 * i else i) = i
    rw [if_neg (fun q => hf q.1), ih]
theorem SR.lim (hG : gmV G) (h : SR G Y A C) (hy : gCol G y) : lMst G (Y 1) y = mLim G A y := by
  have hG' := hG
  unfold gmV at hG'
  have e1 : mL1 A (G 1).toNat 0 1 = 1 + lEm (Y 1) (G 1).toNat (8 + 0) := lEm_L1 _ 0 1 (by omega) fun j h1 h2 => by
    obtain ⟨g1, g2, g3⟩ := h.2.2.1 j (by omega)
    rw [g1]
    omega
  rw [show (8 : Int) + 0 = 8 by omega] at e1
  unfold lMst mLim
  rw [e1]
  by_cases hf : G 3 = 0
  · have hb := h.bare (p := y.toNat) (by omega)
    have r := lEm_rng (t := Y 1) (G 0).toNat 0
    rw [if_pos hf, lEm_L2 (t := Y 1) hf y (G 0).toNat 0 _ (by omega) fun j h1 h2 => by
      have := h.bare (p := j) (by omega)
      rw [this.1, this.2.1]]
    rw [Int.add_comm 1]
    congr 2
    unfold lHlp
    by_cases g : Y 1 y.toNat = -1
    · rw [if_pos g, if_pos ⟨by omega, by omega, g⟩]
    · rw [if_neg g, if_neg (fun q => g q.2.2)]
      omega
  · rw [if_neg hf, mL2_no hf]
    omega
/-- n cards from the i-th on each fit on the next -/
def fitN (G : Nat → Int) (l : List Int) (i n : Nat) : Prop := ∀ j, j < n → gFit G ((l[i + j]?).getD (-1)) ((l[i + j + 1]?).getD (-1))
theorem mRw_fit {p : Nat} {l : List Int} (h : mcol A p l) : ∀ (n k : Nat), mRw G A p n k = 1 ↔ fitN G l k n := by
  intro n
  induction n with
  | zero => intro k; exact ⟨fun _ j hj => by omega, fun _ => rfl⟩
  | succ n ih =>
    intro k
    have e1 := mFT_mcol (k := (k : Int)) h (by omega)
    have e2 := mFT_mcol (k := (k : Int) + 1) h (by omega)
    rw [show ((k : Int)).toNat = k by omega] at e1
    rw [show ((k : Int) + 1).toNat = k + 1 by omega] at e2
    show (if gFit G (mFT A p k) (mFT A p (k + 1)) then mRw G A p n (k + 1) else 0) = 1 ↔ _
    rw [e1, e2]
    have ih1 := ih (k + 1)
    rw [show ((k + 1 : Nat) : Int) = (k : Int) + 1 by omega] at ih1
    constructor
    · intro q j hj
      by_cases g : gFit G ((l[k]?).getD (-1)) ((l[k + 1]?).getD (-1))
      · rw [if_pos g] at q
        cases j with
        | zero => exact g
        | succ j =>
          have := ih1.1 q j (by omega)
          rw [show k + (j + 1) = k + 1 + j by omega]
          exact this
      · rw [if_neg g] at q; cases q
    · intro q
      have q0 := q 0 (by omega)
      rw [Nat.add_zero] at q0
      rw [if_pos q0]
      exact ih1.2 fun j hj => by
        have := q (j + 1) (by omega)
        rw [show k + (j + 1) = k + 1 + j by omega] at this
        exact this
theorem lRw_fit {b : Nat → Int} : ∀ (n : Nat) (l : List Int) (c : Int) (j : Nat), pile b c (c :: l) → ((j : Int) ≤ lRw G b n c ↔ j ≤ n ∧ j ≤ l.length ∧ fitN G (c :: l) 0 j) := by
  intro n
  induction n with
  | zero =>
    intro l c j h
    show (j : Int) ≤ 0 ↔ _
    constructor
    · intro q
      exact ⟨by omega, by omega, fun i hi => by omega⟩
    · intro q
      omega
  | succ n ih =>
    intro l c j h
    obtain ⟨-, h2, h3⟩ := h
    cases l with
    | nil =>
      have h3 : b c.toNat = -1 := h3
      rw [lRw_e (by omega)]
      constructor
      · intro q
        exact ⟨by omega, by omega, fun i hi => by omega⟩
      · intro q
        have : ([] : List Int).length = 0 := rfl
        omega
    | cons d l =>
      obtain ⟨g1, g2, g3⟩ := h3
      by_cases g : gFit G c d
      · rw [lRw_s (by rw [g1]; exact ⟨g2, g⟩), g1]
        cases j with
        | zero => 
          have := (lRw_rng (G := G) (b := b) n d).1
          exact ⟨fun _ => ⟨by omega, by omega, fun i hi => by omega⟩, fun _ => by omega⟩
        | succ j =>
          have := ih l d j ⟨rfl, g2, g3⟩
          have e : (d :: l).length = l.length + 1 := rfl
          constructor
          · intro q
            obtain ⟨q1, q2, q3⟩ := this.1 (by omega)
            refine ⟨by omega, by omega, fun i hi => ?_⟩
            cases i with
            | zero => exact g
            | succ i =>
              have := q3 i (by omega)
              rw [Nat.zero_add] at this ⊢
              exact this
          · intro ⟨q1, q2, q3⟩
            have := this.2 ⟨by omega, by omega, fun i hi => by
              have := q3 (i + 1) (by omega)
              rw [Nat.zero_add] at this ⊢
              exact this⟩
            omega
      · rw [lRw_e (by rw [g1]; exact fun q => g q.2)]
        constructor
        · intro q
          exact ⟨by omega, by omega, fun i hi => by omega⟩
        · intro ⟨q1, q2, q3⟩
          rcases Nat.eq_zero_or_pos j with q | q
          · omega
          · exact absurd (q3 0 q) g
theorem gRank_le (hG : gmV G) (hc : 0 ≤ c ∧ c < gAll G) : gRank G c ≤ G 5 := by
  have hG' := hG
  unfold gmV at hG'
  unfold gRank
  have : c / G 4 < G 5 := Int.ediv_lt_of_lt_mul (by omega) (by rw [Int.mul_comm]; exact hc.2)
  omega
/-- a built row has no more cards than there are ranks -/
theorem fit_le (hG : gmV G) {l : List Int} (hl : ∀ c ∈ l, 0 ≤ c ∧ c < gAll G) {n : Nat} (hn : n < l.length) (hf : fitN G l 0 n) : n ≤ 12 := by
  have hG' := hG
  unfold gmV at hG'
  have key : ∀ j, j ≤ n → gRank G ((l[j]?).getD (-1)) = gRank G ((l[0]?).getD (-1)) + j := by
    intro j
    induction j with
    | zero => intro _; omega
    | succ j ih =>
      intro hj
      have h1 := ih (by omega)
      have h2 := (hf j (by omega)).1
      rw [Nat.zero_add] at h2
      rw [← h2, h1]
      omega
  have k := key n (Nat.le_refl _)
  have hi : ∀ j, j < l.length → (l[j]?).getD (-1) ∈ l := fun j hj => by
    rw [List.getElem?_eq_getElem hj]
    exact List.getElem_mem hj
  have a := gRank_le hG (hl _ (hi n hn))
  have b := (gRank_rng hG (c := (l[0]?).getD (-1)) (by have := hl _ (hi 0 (by omega)); have := gAll_rng hG; omega)).1
  omega
theorem SR.mem (hG : gmV G) (h : SR G Y A C) {p : Nat} (hp : p < 8) : ∀ c ∈ C p, 0 ≤ c ∧ c < gAll G := by
  obtain ⟨h1, -, -, h4⟩ := h.1 p hp
  exact fun c hc => ⟨pile_pos _ _ h1 c hc, h4 c hc⟩
/-- a row of m cards -/
theorem SR.row (hG : gmV G) (h : SR G Y A C) {p : Nat} (hp : p < 8) {j : Nat} : ((j : Int) + 1 ≤ lRow G (Y 0) (Y 1) p ↔ (j : Int) + 1 ≤ A 1 p ∧ mRw G A p j 0 = 1) := by
  obtain ⟨h1, h2, h3, h4⟩ := h.1 p hp
  have hm := h.mem hG hp
  have e := mRw_fit (G := G) h2 j 0
  rw [show ((0 : Nat) : Int) = 0 from rfl] at e
  rw [e, h2.1]
  unfold lRow
  rw [show ((p : Int)).toNat = p by omega]
  cases hl : C p with
  | nil =>
    rw [hl] at h1
    have h1 : Y 1 p = -1 := h1
    rw [if_pos h1]
    have : ([] : List Int).length = 0 := rfl
    constructor
    · intro q; omega
    · intro q; omega
  | cons c l =>
    rw [hl] at h1 hm
    have ht : Y 1 p = c := h1.1
    rw [ht, if_neg (by have := h1.2.1; omega)]
    have k := lRw_fit (G := G) 12 l c j (by rw [ht] at h1; exact h1)
    have e2 : (c :: l).length = l.length + 1 := rfl
    constructor
    · intro q
      obtain ⟨q1, q2, q3⟩ := k.1 (by omega)
      exact ⟨by omega, q3⟩
    · intro ⟨q1, q2⟩
      have := fit_le hG hm (n := j) (by omega) q2
      have := k.2 ⟨by omega, by omega, q2⟩
      omega
theorem SR.nth (h : SR G Y A C) {p : Nat} (hp : p < 8) (hk : 0 ≤ k) : lCard (Y 0) (Y 1) p k = mFT A p k := by
  obtain ⟨h1, h2, -⟩ := h.1 p hp
  have hpos := pile_pos _ _ h1
  unfold lCard
  rw [if_neg (by omega), mFT_mcol h2 hk, show ((p : Int)).toNat = p by omega, lDn_pile _ _ _ h1]
  split
  · rename_i g
    cases hg : (C p)[k.toNat]? with
    | none => rfl
    | some x =>
      rw [hg] at g
      have := hpos x (List.mem_of_getElem? hg)
      have g : x < 0 := g
      omega
  · rfl
theorem SR.may (hG : gmV G) (hW : lyW Y) (h : SR G Y A C) (hz : gCol G z ∨ gCel G z) (hy : gPla G y) (hm : 1 ≤ m) : lAlw G (Y 0) (Y 1) (Y 2) z y m ↔ mMay G A z y m := by
  have hG' := hG
  unfold gmV at hG'
  unfold lAlw mMay
  by_cases e : m = 1
  · rw [if_pos e, if_pos e]
    exact h.one hG hW hz hy
  · rw [if_neg e, if_neg e]
    unfold lRws mRws
    constructor
    · rintro ⟨-, q1, q2, q3, q4, q5, q6⟩
      have r := h.row hG (p := z.toNat) (by omega) (j := (m - 1).toNat)
      rw [show ((z.toNat : Nat) : Int) = z by omega, show (((m - 1).toNat : Nat) : Int) + 1 = m by omega] at r
      obtain ⟨r1, r2⟩ := r.1 q4
      have n := h.nth (p := z.toNat) (k := m - 1) (by omega) (by omega)
      rw [show ((z.toNat : Nat) : Int) = z by omega] at n
      rw [n] at q6
      exact ⟨q1, q2, q3, r1, by rw [← h.lim hG q2]; exact q5, r2, (h.bears hG q2).1 q6⟩
    · rintro ⟨q1, q2, q3, r1, q5, r2, q6⟩
      have r := h.row hG (p := z.toNat) (by omega) (j := (m - 1).toNat)
      rw [show ((z.toNat : Nat) : Int) = z by omega, show (((m - 1).toNat : Nat) : Int) + 1 = m by omega] at r
      have n := h.nth (p := z.toNat) (k := m - 1) (by omega) (by omega)
      rw [show ((z.toNat : Nat) : Int) = z by omega] at n
      exact ⟨by omega, q1, q2, q3, r.2 ⟨r1, r2⟩, by rw [h.lim hG q2]; exact q5, (h.bears hG q2).2 (by rw [n]; exact q6)⟩
/-- the greatest number up to n with P -/
def gre (P : Int → Prop) : Nat → Int → Prop
  | 0, x => x = 0
  | n + 1, x => (P ((n : Int) + 1) ∧ x = (n : Int) + 1) ∨ (¬ P ((n : Int) + 1) ∧ gre P n x)
theorem gre_u {P : Int → Prop} : ∀ {n : Nat} {x x' : Int}, gre P n x → gre P n x' → x = x' := by
  intro n
  induction n with
  | zero => intro x x' h h'; exact h.trans h'.symm
  | succ n ih =>
    intro x x' h h'
    rcases h with ⟨h, e⟩ | ⟨h1, h2⟩
    · rcases h' with ⟨h', e'⟩ | ⟨h1, h2⟩
      · rw [e, e']
      · exact absurd h h1
    · rcases h' with ⟨h', e'⟩ | ⟨h3, h4⟩
      · exact absurd h' h1
      · exact ih h2 h4
theorem gre_up {P : Int → Prop} {n : Nat} {x : Int} : ∀ k : Nat, (∀ m : Int, (n : Int) < m → ¬ P m) → gre P n x → gre P (n + k) x := by
  intro k
  induction k with
  | zero => intro _ h; exact h
  | succ k ih => intro h1 h2; exact Or.inr ⟨h1 _ (by show (n : Int) < ((n + k : Nat) : Int) + 1; omega), ih h1 h2⟩
theorem gre_c {P P' : Int → Prop} (hc : ∀ m : Int, 1 ≤ m → (P m ↔ P' m)) : ∀ {n : Nat} {x : Int}, gre P n x → gre P' n x := by
  intro n
  induction n with
  | zero => intro x h; exact h
  | succ n ih =>
    intro x h
    rcases h with ⟨h, e⟩ | ⟨h1, h2⟩
    · exact Or.inl ⟨(hc _ (by omega)).1 h, e⟩
    · exact Or.inr ⟨fun q => h1 ((hc _ (by omega)).2 q), ih h2⟩
theorem lMb_gre {b t h : Nat → Int} : ∀ n : Nat, gre (fun m => lAlw G b t h z y m) n (lMb G b t h z y n) := by
  intro n
  induction n with
  | zero => exact rfl
  | succ n ih =>
    show gre _ _ (if lAlw G b t h z y ((n : Int) + 1) then (n : Int) + 1 else lMb G b t h z y n)
    by_cases g : lAlw G b t h z y ((n : Int) + 1)
    · rw [if_pos g]; exact Or.inl ⟨g, rfl⟩
    · rw [if_neg g]; exact Or.inr ⟨g, ih⟩
theorem mMo_gre : ∀ (j k : Nat) (x : Int), gre (fun m => mMay G A z y m) k x → gre (fun m => mMay G A z y m) (k + j) (mMo G A z y j ((k : Int) + 1) x) := by
  intro j
  induction j with
  | zero => intro k x h; exact h
  | succ j ih =>
    intro k x h
    show gre _ _ (mMo G A z y j ((k : Int) + 1 + 1) (if mMay G A z y ((k : Int) + 1) then (k : Int) + 1 else x))
    have := ih (k + 1) (if mMay G A z y ((k : Int) + 1) then (k : Int) + 1 else x) (by
      by_cases g : mMay G A z y ((k : Int) + 1)
      · rw [if_pos g]; exact Or.inl ⟨g, rfl⟩
      · rw [if_neg g]; exact Or.inr ⟨g, h⟩)
    rw [show (((k + 1 : Nat) : Int) + 1) = (k : Int) + 1 + 1 by omega, show k + 1 + j = k + (j + 1) by omega] at this
    exact this
theorem SR.most (hG : gmV G) (hW : lyW Y) (h : SR G Y A C) (hz : gCol G z) (hy : gCol G y) : lMB G (Y 0) (Y 1) (Y 2) z y = mMost G A z y := by
  have hG' := hG
  unfold gmV at hG'
  unfold lMB mMost
  have e := mMo_gre (G := G) (A := A) (z := z) (y := y) (A 1 z.toNat).toNat 0 0 rfl
  rw [Nat.zero_add] at e
  have e' : gre (fun m => mMay G A z y m) (A 1 z.toNat).toNat (mMo G A z y (A 1 z.toNat).toNat 1 0) := e
  have hc : ∀ m : Int, 1 ≤ m → (lAlw G (Y 0) (Y 1) (Y 2) z y m ↔ mMay G A z y m) := fun m hm => h.may hG hW (Or.inl hz) (Or.inl hy) hm
  have e2 := gre_c hc (lMb_gre (G := G) (b := Y 0) (t := Y 1) (h := Y 2) (z := z) (y := y) (lRow G (Y 0) (Y 1) z).toNat)
  have hr : ∀ j : Nat, ((j : Int) + 1 ≤ lRow G (Y 0) (Y 1) z → (j : Int) + 1 ≤ A 1 z.toNat) := fun j hj => by
    have r := h.row hG (p := z.toNat) (by omega) (j := j)
    rw [show ((z.toNat : Nat) : Int) = z by omega] at r
    exact (r.1 hj).1
  have rr := lRow_rng (G := G) (b := Y 0) (t := Y 1) (z := z)
  have ha : lRow G (Y 0) (Y 1) z ≤ A 1 z.toNat := by
    by_cases g : lRow G (Y 0) (Y 1) z = 0
    · have := ((h.1 z.toNat (by omega)).2.1).1; omega
    · have := hr (lRow G (Y 0) (Y 1) z - 1).toNat (by omega)
      omega
  have hno : ∀ m : Int, ((lRow G (Y 0) (Y 1) z).toNat : Int) < m → ¬ mMay G A z y m := fun m hm q => by
    have q := (hc m (by omega)).2 q
    unfold lAlw at q
    by_cases e : m = 1
    · rw [if_pos e] at q
      unfold lOne at q
      have : lRow G (Y 0) (Y 1) z = 1 + lRw G (Y 0) 12 (Y 1 z.toNat) := if_neg q.1
      have := (lRw_rng (G := G) (b := Y 0) 12 (Y 1 z.toNat)).1
      omega
    · rw [if_neg e] at q
      have := q.2.2.2.2.1
      omega
  have u := gre_up (P := fun m => mMay G A z y m) (n := (lRow G (Y 0) (Y 1) z).toNat) ((A 1 z.toNat).toNat - (lRow G (Y 0) (Y 1) z).toNat) hno e2
  rw [show (lRow G (Y 0) (Y 1) z).toNat + ((A 1 z.toNat).toNat - (lRow G (Y 0) (Y 1) z).toNat) = (A 1 z.toNat).toNat by omega] at u
  exact gre_u u e'
end ZRG
