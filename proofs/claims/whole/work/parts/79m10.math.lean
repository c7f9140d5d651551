section ZRP
variable {G b : Nat → Int} {Y A Y' A' P : Nat → Nat → Int} {N : Nat → Int} {C : Nat → List Int} {z y m lo o : Int} {k p c : Nat}
abbrev nC (G : Nat → Int) : Nat := (gAll G).toNat
/-- nothing lies on c -/
def frC (n : Nat) (b : Nat → Int) (c : Int) : Prop := ∀ x, x < n → b x ≠ c
abbrev cHm (G b : Nat → Int) (s : Int) : Nat := cnt (fun x => decide (b x = -3 ∧ gSuit G x = s)) (nC G)
abbrev cOn (G b : Nat → Int) (v : Int) : Nat := cnt (fun x => decide (b x = v)) (nC G)
/-- card c may be moved onto o -/
def mayB (G b : Nat → Int) (c : Nat) (o : Int) : Prop := c < nC G ∧ b c ≠ -3 ∧ frC (nC G) b c ∧ b c ≠ o ∧
  ((o = -3 ∧ (cHm G b (gSuit G c) : Int) + 1 = gRank G c) ∨ (o = -2 ∧ (cOn G b (-2) : Int) < G 1) ∨ (o = -1 ∧ (cOn G b (-1) : Int) < G 0 ∧ gEmp G c) ∨ (0 ≤ o ∧ o < gAll G ∧ -1 ≤ b o.toNat ∧ frC (nC G) b o ∧ gFit G c o))
theorem pile_up {t : Int} : ∀ (l : List Int) (t : Int), pile b t l → ∀ x ∈ l, t = x ∨ ∃ y ∈ l, b y.toNat = x := by
  intro l
  induction l with
  | nil => intro t _ x hx; cases hx
  | cons a l ih =>
    intro t h x hx
    obtain ⟨h1, h2, h3⟩ := h
    rcases List.mem_cons.1 hx with q | q
    · left; rw [h1, q]
    · right
      rcases ih _ h3 x q with r | ⟨y, hy, r⟩
      · exact ⟨a, List.mem_cons_self .., r⟩
      · exact ⟨y, List.mem_cons_of_mem _ hy, r⟩
theorem pile_next : ∀ (l : List Int) (t : Int), pile b t l → ∀ y ∈ l, 0 ≤ b y.toNat → b y.toNat ∈ l.tail := by
  intro l
  induction l with
  | nil => intro t _ y hy; cases hy
  | cons a l ih =>
    intro t h y hy h0
    obtain ⟨h1, h2, h3⟩ := h
    show b y.toNat ∈ l
    rcases List.mem_cons.1 hy with q | q
    · subst q
      cases l with
      | nil => have h3 : b y.toNat = -1 := h3; omega
      | cons d l => rw [h3.1]; exact List.mem_cons_self ..
    · exact List.mem_of_mem_tail (ih _ h3 y q h0)
theorem pile_end : ∀ (l : List Int) (t : Int), pile b t l → ∀ y ∈ l, b y.toNat = -1 → l.getLast? = some y := by
  intro l
  induction l with
  | nil => intro t _ y hy; cases hy
  | cons a l ih =>
    intro t h y hy h0
    obtain ⟨h1, h2, h3⟩ := h
    rcases List.mem_cons.1 hy with q | q
    · subst q
      rw [h0] at h3
      have : l = [] := (pile_lt h3).1 rfl
      rw [this]; rfl
    · have e := ih _ h3 y q h0
      cases l with
      | nil => cases q
      | cons d l => rw [List.getLast?_cons_cons]; exact e
theorem pile_last : ∀ (l : List Int) (t : Int), pile b t l → ∀ y, l.getLast? = some y → b y.toNat = -1 ∧ y ∈ l := by
  intro l
  induction l with
  | nil => intro t _ y hy; cases hy
  | cons a l ih =>
    intro t h y hy
    obtain ⟨h1, h2, h3⟩ := h
    cases l with
    | nil =>
      have : a = y := by simpa using hy
      subst this
      exact ⟨h3, List.mem_cons_self ..⟩
    | cons d l =>
      rw [List.getLast?_cons_cons] at hy
      obtain ⟨e1, e2⟩ := ih _ h3 y hy
      exact ⟨e1, List.mem_cons_of_mem _ e2⟩
theorem nC_eq (hG : gmV G) : ((nC G : Nat) : Int) = gAll G := by
  have := gAll_rng hG
  show ((gAll G).toNat : Int) = gAll G
  omega
theorem SR.num (hG : gmV G) (h : SR G Y A C) (hp : p < 8) : ∀ x ∈ C p, ∃ i : Nat, x = i ∧ i < nC G := fun x hx => by
  have := h.mem hG hp x hx
  have hn := nC_eq hG
  exact ⟨x.toNat, by omega, by omega⟩
/-- the uppermost card of a column is free -/
theorem SR.freeC (hG : gmV G) (h : SR G Y A C) (hp : p < 8) {x : Int} {l : List Int} (hl : C p = x :: l) : frC (nC G) (Y 0) x := by
  intro i hi e
  have hA := gAll_rng hG
  have hn := nC_eq hG
  have hx := (h.mem hG hp x (by rw [hl]; exact List.mem_cons_self ..)).1
  obtain ⟨q, hq, hm⟩ := (h.c7 (x := i) (by omega) (by omega)).1.1 (by omega)
  have t := pile_next _ _ (h.1 q hq).1 i hm (by rw [show ((i : Int)).toNat = i by omega]; omega)
  rw [show ((i : Int)).toNat = i by omega, e] at t
  have e2 := h.2.1 q p x hq hp (List.mem_of_mem_tail t) (by rw [hl]; exact List.mem_cons_self ..)
  rw [e2, hl] at t
  have nd := (h.1 p hp).2.2.1
  rw [hl] at nd
  exact (List.nodup_cons.1 nd).1 t
theorem SR.freeE (hG : gmV G) (h : SR G Y A C) (hk : k < 4) (hx : 0 ≤ A 2 k) : frC (nC G) (Y 0) (A 2 k) := by
  intro i hi e
  have hA := gAll_rng hG
  have hn := nC_eq hG
  obtain ⟨q, hq, hm⟩ := (h.c7 (x := i) (by omega) (by omega)).1.1 (by omega)
  have t := pile_next _ _ (h.1 q hq).1 i hm (by rw [show ((i : Int)).toNat = i by omega]; omega)
  rw [show ((i : Int)).toNat = i by omega, e] at t
  have a2 := h.2.2.1 k hk
  have f1 := (h.c7 (x := (A 2 k).toNat) (by omega) (by omega)).1.2 ⟨q, hq, by rw [show (((A 2 k).toNat : Nat) : Int) = A 2 k by omega]; exact List.mem_of_mem_tail t⟩
  have := h.cell hG hk hx
  omega
/-- a free card of a column is uppermost -/
theorem SR.topC (hG : gmV G) (h : SR G Y A C) (hp : p < 8) {x : Int} (hm : x ∈ C p) (hf : frC (nC G) (Y 0) x) : ∃ l, C p = x :: l := by
  rcases pile_up (t := 0) _ _ (h.1 p hp).1 x hm with q | ⟨y, hy, q⟩
  · cases hl : C p with
    | nil => rw [hl] at hm; cases hm
    | cons a l =>
      have := (h.1 p hp).1
      rw [hl, q] at this
      rw [this.1]
      exact ⟨l, rfl⟩
  · obtain ⟨i, e, hi⟩ := h.num hG hp y hy
    rw [e, show ((i : Int)).toNat = i by omega] at q
    exact absurd q (hf i hi)
theorem SR.cntE (hG : gmV G) (h : SR G Y A C) : (cOn G (Y 0) (-2) : Int) < G 1 ↔ ∃ k : Nat, (k : Int) < G 1 ∧ A 2 k = -1 := by
  have hG' := hG
  unfold gmV at hG'
  have hA := gAll_rng hG
  have hn := nC_eq hG
  have a2 := fun k hk => h.2.2.1 k hk
  have e : cOn G (Y 0) (-2) = cnt (fun k => decide (0 ≤ A 2 k)) 4 := by
    refine cnt_bij (fun k => (A 2 k).toNat) (fun k hk hq => ?_) (fun k k' hk hk' hq hq' he => ?_) (fun x hx hq => ?_)
    · have hq := of_decide_eq_true hq
      have := a2 k hk
      exact ⟨by omega, decide_eq_true (h.cell hG hk hq)⟩
    · have hq := of_decide_eq_true hq
      have hq' := of_decide_eq_true hq'
      exact h.2.2.2.1 k k' hk hk' hq (by have he : (A 2 k).toNat = (A 2 k').toNat := he; omega)
    · have hq := of_decide_eq_true hq
      obtain ⟨k, hk, e⟩ := (h.c7 (x := x) (by omega) (by omega)).2.1.1 hq
      exact ⟨k, hk, decide_eq_true (by omega), by show (A 2 k).toNat = x; omega⟩
  have e2 : cnt (fun k => decide (0 ≤ A 2 k)) 4 = cnt (fun k => decide (0 ≤ A 2 k)) (G 1).toNat := by
    have := cnt_up (p := fun k => decide (0 ≤ A 2 k)) (n := (G 1).toNat) (4 - (G 1).toNat) fun k h1 h2 => decide_eq_false (by
      have := h.2.2.2.2.2.2.1.2 k (by omega) (by omega)
      omega)
    rw [show (G 1).toNat + (4 - (G 1).toNat) = 4 by omega] at this
    exact this
  rw [e, e2]
  have := cnt_lt (p := fun k => decide (0 ≤ A 2 k)) (G 1).toNat
  constructor
  · intro q
    obtain ⟨k, hk, e⟩ := this.1 (by omega)
    have e := of_decide_eq_false e
    have := (a2 k (by omega)).2.2
    exact ⟨k, by omega, by omega⟩
  · intro ⟨k, hk, e⟩
    have := this.2 ⟨k, by omega, decide_eq_false (by omega)⟩
    omega
theorem SR.cntC (hG : gmV G) (h : SR G Y A C) : (cOn G (Y 0) (-1) : Int) < G 0 ↔ ∃ p : Nat, (p : Int) < G 0 ∧ C p = [] := by
  have hG' := hG
  unfold gmV at hG'
  have hA := gAll_rng hG
  have hn := nC_eq hG
  have lastof : ∀ p, p < 8 → C p ≠ [] → ∃ x, (C p).getLast? = some x := fun p hp hn => by
    cases hl : (C p).getLast? with
    | none => exact absurd (List.getLast?_eq_none_iff.1 hl) hn
    | some x => exact ⟨x, rfl⟩
  have e : cOn G (Y 0) (-1) = cnt (fun p => decide (C p ≠ [])) 8 := by
    refine cnt_bij (fun p => (((C p).getLast?).getD 0).toNat) (fun p hp hq => ?_) (fun p p' hp hp' hq hq' he => ?_) (fun x hx hq => ?_)
    · have hq := of_decide_eq_true hq
      obtain ⟨x, hx⟩ := lastof p hp hq
      obtain ⟨e1, e2⟩ := pile_last _ _ (h.1 p hp).1 x hx
      have := h.mem hG hp x e2
      show (((C p).getLast?).getD 0).toNat < nC G ∧ decide (Y 0 (((C p).getLast?).getD 0).toNat = -1) = true
      rw [hx]
      exact ⟨by show x.toNat < nC G; omega, decide_eq_true e1⟩
    · have hq := of_decide_eq_true hq
      have hq' := of_decide_eq_true hq'
      obtain ⟨x, hx⟩ := lastof p hp hq
      obtain ⟨x', hx'⟩ := lastof p' hp' hq'
      obtain ⟨e1, e2⟩ := pile_last _ _ (h.1 p hp).1 x hx
      obtain ⟨e1', e2'⟩ := pile_last _ _ (h.1 p' hp').1 x' hx'
      have m1 := h.mem hG hp x e2
      have m2 := h.mem hG hp' x' e2'
      have he : (((C p).getLast?).getD 0).toNat = (((C p').getLast?).getD 0).toNat := he
      rw [hx, hx'] at he
      have he : x.toNat = x'.toNat := he
      have : x = x' := by omega
      rw [this] at e2
      exact h.2.1 p p' x' hp hp' e2 e2'
    · have hq := of_decide_eq_true hq
      obtain ⟨p, hp, hm⟩ := (h.c7 (x := x) (by omega) (by omega)).1.1 (by omega)
      refine ⟨p, hp, decide_eq_true (fun q => by rw [q] at hm; cases hm), ?_⟩
      have := pile_end _ _ (h.1 p hp).1 x hm (by rw [show ((x : Int)).toNat = x by omega]; exact hq)
      show (((C p).getLast?).getD 0).toNat = x
      rw [this]
      show ((x : Int)).toNat = x
      omega
  have e2 : cnt (fun p => decide (C p ≠ [])) 8 = cnt (fun p => decide (C p ≠ [])) (G 0).toNat := by
    have := cnt_up (p := fun p => decide (C p ≠ [])) (n := (G 0).toNat) (8 - (G 0).toNat) fun k h1 h2 => decide_eq_false (fun q => q (h.2.2.2.2.2.2.1.1 k (by omega) (by omega)))
    rw [show (G 0).toNat + (8 - (G 0).toNat) = 8 by omega] at this
    exact this
  rw [e, e2]
  have := cnt_lt (p := fun p => decide (C p ≠ [])) (G 0).toNat
  constructor
  · intro q
    obtain ⟨k, hk, e⟩ := this.1 (by omega)
    have e := of_decide_eq_false e
    exact ⟨k, by omega, Classical.byContradiction fun q => e q⟩
  · intro ⟨k, hk, e⟩
    have := this.2 ⟨k, by omega, decide_eq_false (fun q => q e)⟩
    omega
theorem SR.cntH (hG : gmV G) (h : SR G Y A C) {s : Int} (hs : 0 ≤ s ∧ s < G 4) : (cHm G (Y 0) s : Int) = A 3 s.toNat := by
  have hG' := hG
  unfold gmV at hG'
  have hA := gAll_rng hG
  have hn := nC_eq hG
  obtain ⟨-, a1, a2, -⟩ := h.2.2.2.2.1 s.toNat (by omega)
  have e : cHm G (Y 0) s = cnt (fun x => decide (x % (G 4).toNat = s.toNat ∧ ((x / (G 4).toNat : Nat) : Int) + 1 ≤ A 3 s.toNat)) (nC G) := cnt_c fun x hx => by
    have f3 := (h.c7 (x := x) (by omega) (by omega)).2.2
    have m1 : gSuit G x = ((x % (G 4).toNat : Nat) : Int) := by
      show (x : Int) % G 4 = _
      rw [Int.natCast_emod, show (((G 4).toNat : Nat) : Int) = G 4 by omega]
    have m2 : gRank G x = ((x / (G 4).toNat : Nat) : Int) + 1 := by
      show (x : Int) / G 4 + 1 = _
      rw [Int.natCast_ediv, show (((G 4).toNat : Nat) : Int) = G 4 by omega]
    rw [m2, m1] at f3
    generalize ((x / (G 4).toNat : Nat) : Int) = d at *
    refine decide_eq_decide.2 ⟨fun q => ?_, fun q => ?_⟩
    · have e : ((x % (G 4).toNat : Nat) : Int) = s := m1.symm.trans q.2
      have r := f3.1 q.1
      rw [e] at r
      exact ⟨by omega, r⟩
    · have e : ((x % (G 4).toNat : Nat) : Int) = s := by omega
      rw [e] at f3
      exact ⟨f3.2 q.2, m1.trans e⟩
  have en : nC G = (G 4).toNat * (G 5).toNat := by
    show (G 4 * G 5).toNat = _
    have := Int.toNat_mul (a := G 4) (b := G 5) (by omega) (by omega)
    exact this
  rw [e, en, cnt_suit (by omega) (by omega) a1]
  split <;> omega
/-- no card is wanting -/
def fullB (G b : Nat → Int) : Prop := ∀ x, x < nC G → -3 ≤ b x
/-- the class's moves are those of the row -/
theorem SR.may1 (hG : gmV G) (hW : lyW Y) (h : SR G Y A C) (hz : 0 ≤ z ∧ z < 12) (hy : 0 ≤ y ∧ y ≤ 12) (ho : lOne G (Y 1) (Y 2) z y) : (0 ≤ Y 1 z.toNat ∧ Y 1 z.toNat < gAll G) ∧ (Y 0 (Y 1 z.toNat).toNat = lGrd (Y 1) y ∨ mayB G (Y 0) (Y 1 z.toNat).toNat (lGrd (Y 1) y)) := by
  have hG' := hG
  unfold gmV at hG'
  have hA := gAll_rng hG
  have hn := nC_eq hG
  have zP : gCol G z ∨ gCel G z := Classical.byContradiction fun q => ho.1 (h.none hG (p := z.toNat) (by omega) (by rw [show ((z.toNat : Nat) : Int) = z by omega]; exact q))
  obtain ⟨o1, o2, o3⟩ := ho
  have yP : gPla G y := by
    by_cases q : gCol G y
    · exact Or.inl q
    · rw [if_neg q] at o3
      by_cases q2 : gCel G y
      · exact Or.inr (Or.inl q2)
      · rw [if_neg q2] at o3; exact Or.inr (Or.inr o3.1)
  have hc : (0 ≤ Y 1 z.toNat ∧ Y 1 z.toNat < gAll G) ∧ frC (nC G) (Y 0) (Y 1 z.toNat) ∧ (Y 0 (Y 1 z.toNat).toNat ≠ -3) ∧ (gCol G z → -1 ≤ Y 0 (Y 1 z.toNat).toNat) := by
    rcases zP with q | q
    · have pl := (h.1 z.toNat (by omega)).1
      cases hl : C z.toNat with
      | nil => rw [hl] at pl; exact absurd pl o1
      | cons a l =>
        rw [hl] at pl
        rw [pl.1]
        have hm := h.mem hG (p := z.toNat) (by omega) a (by rw [hl]; exact List.mem_cons_self ..)
        have f1 := (h.c7 (x := a.toNat) (by omega) (by omega)).1.2 ⟨z.toNat, by omega, by rw [hl, show ((a.toNat : Nat) : Int) = a by omega]; exact List.mem_cons_self ..⟩
        exact ⟨hm, h.freeC hG (p := z.toNat) (by omega) hl, by omega, fun _ => f1⟩
    · have a := h.2.2.1 (z - 8).toNat (by omega)
      rw [show 8 + (z - 8).toNat = z.toNat by omega] at a
      have a0 : 0 ≤ A 2 (z - 8).toNat := by omega
      rw [a.1]
      have := h.cell hG (k := (z - 8).toNat) (by omega) a0
      exact ⟨⟨a0, a.2.1⟩, h.freeE hG (by omega) a0, by omega, fun q => by omega⟩
  obtain ⟨c1, c2, c3, c4⟩ := hc
  refine ⟨c1, ?_⟩
  by_cases e : Y 0 (Y 1 z.toNat).toNat = lGrd (Y 1) y
  · exact Or.inl e
  · right
    refine ⟨by omega, c3, by rw [show (((Y 1 z.toNat).toNat : Nat) : Int) = Y 1 z.toNat by omega]; exact c2, e, ?_⟩
    rw [show (((Y 1 z.toNat).toNat : Nat) : Int) = Y 1 z.toNat by omega]
    unfold lGrd
    rcases yP with q | q | q
    · rw [if_pos q] at o3
      rw [if_neg (by omega), if_neg (by omega)]
      have pl := (h.1 y.toNat (by omega)).1
      cases hl : C y.toNat with
      | nil =>
        rw [hl] at pl
        have pl : Y 1 y.toNat = -1 := pl
        unfold lBears at o3
        rw [if_pos pl] at o3
        exact Or.inr (Or.inr (Or.inl ⟨pl, (h.cntC hG).2 ⟨y.toNat, by omega, hl⟩, o3⟩))
      | cons a l =>
        rw [hl] at pl
        have e1 := pl.1
        have e2 := pl.2.1
        unfold lBears at o3
        rw [if_neg (by omega)] at o3
        have hm := h.mem hG (p := y.toNat) (by omega) a (by rw [hl]; exact List.mem_cons_self ..)
        have f1 := (h.c7 (x := a.toNat) (by omega) (by omega)).1.2 ⟨y.toNat, by omega, by rw [hl, show ((a.toNat : Nat) : Int) = a by omega]; exact List.mem_cons_self ..⟩
        rw [e1] at o3 ⊢
        exact Or.inr (Or.inr (Or.inr ⟨e2, hm.2, f1, h.freeC hG (p := y.toNat) (by omega) hl, o3⟩))
    · rw [if_neg (by omega), if_pos q] at o3
      rw [if_neg (by omega), if_pos (by omega)]
      have a := h.2.2.1 (y - 8).toNat (by omega)
      rw [show 8 + (y - 8).toNat = y.toNat by omega] at a
      exact Or.inr (Or.inl ⟨rfl, (h.cntE hG).2 ⟨(y - 8).toNat, by omega, by omega⟩⟩)
    · rw [if_neg (by omega), if_neg (by omega)] at o3
      rw [if_pos q]
      have sr : 0 ≤ gSuit G (Y 1 z.toNat) ∧ gSuit G (Y 1 z.toNat) < G 4 := ⟨(gSuit_rng hG).1, Int.emod_lt_of_pos _ (by omega)⟩
      have := h.cntH hG sr
      refine Or.inl ⟨rfl, ?_⟩
      rw [this]
      have e2 := (h.2.2.2.2.1 (gSuit G (Y 1 z.toNat)).toNat (by omega)).1
      have o4 := o3.2
      unfold lMay at o4
      omega
/-- and the row's are the class's -/
theorem SR.may2 (hG : gmV G) (hW : lyW Y) (h : SR G Y A C) (hf : fullB G (Y 0)) (hm : mayB G (Y 0) c o) : ∃ z y : Int, (0 ≤ z ∧ z < 12) ∧ (0 ≤ y ∧ y ≤ 12) ∧ (gCol G z ∨ gCel G z) ∧ gPla G y ∧ lOne G (Y 1) (Y 2) z y ∧ Y 1 z.toNat = c ∧ lGrd (Y 1) y = o := by
  have hG' := hG
  unfold gmV at hG'
  have hA := gAll_rng hG
  have hn := nC_eq hG
  obtain ⟨m1, m2, m3, m4, m5⟩ := hm
  have c7 := h.c7 (x := c) (by omega) (by omega)
  have fl := hf c m1
  have zz : ∃ z : Int, (gCol G z ∨ gCel G z) ∧ Y 1 z.toNat = c ∧ (gCel G z → Y 0 c = -2) := by
    by_cases q : Y 0 c = -2
    · obtain ⟨k, hk, e⟩ := c7.2.1.1 q
      have a := h.2.2.1 k hk
      have kk : (k : Int) < G 1 := Classical.byContradiction fun r => by
        have := h.2.2.2.2.2.2.1.2 k (by omega) hk
        omega
      refine ⟨8 + k, Or.inr (by omega), ?_, fun _ => q⟩
      rw [show (8 + (k : Int)).toNat = 8 + k by omega, a.1, e]
    · obtain ⟨p, hp, hx⟩ := c7.1.1 (by omega)
      obtain ⟨l, hl⟩ := h.topC hG hp hx m3
      have pp : (p : Int) < G 0 := Classical.byContradiction fun r => by
        have := h.2.2.2.2.2.2.1.1 p (by omega) hp
        rw [this] at hl; cases hl
      have pl := (h.1 p hp).1
      rw [hl] at pl
      exact ⟨p, Or.inl ⟨by omega, pp⟩, by rw [show ((p : Int)).toNat = p by omega]; exact pl.1, fun r => by omega⟩
  obtain ⟨z, z1, z2, z3⟩ := zz
  rcases m5 with ⟨q, r⟩ | ⟨q, r⟩ | ⟨q, r, r2⟩ | ⟨q, r, r2, r3, r4⟩
  · refine ⟨z, 12, by omega, by omega, z1, Or.inr (Or.inr rfl), ⟨by omega, by omega, ?_⟩, z2, ?_⟩
    · rw [if_neg (by omega), if_neg (by omega)]
      refine ⟨rfl, ?_⟩
      have sr : 0 ≤ gSuit G c ∧ gSuit G c < G 4 := ⟨(gSuit_rng hG).1, Int.emod_lt_of_pos _ (by omega)⟩
      rw [h.cntH hG sr] at r
      have e2 := (h.2.2.2.2.1 (gSuit G c).toNat (by omega)).1
      unfold lMay
      rw [z2, e2]
      omega
    · unfold lGrd; rw [if_pos rfl, q]
  · obtain ⟨k, hk, e⟩ := (h.cntE hG).1 r
    have a := (h.2.2.1 k (by omega)).1
    have zc : gCol G z := by
      rcases z1 with z1 | z1
      · exact z1
      · exact absurd (z3 z1) (by rw [← q]; exact m4)
    refine ⟨z, 8 + k, by omega, by omega, z1, Or.inr (Or.inl (by omega)), ⟨by omega, by omega, ?_⟩, z2, ?_⟩
    · rw [if_neg (by omega), if_pos (by omega)]
      refine ⟨zc, ?_⟩
      rw [show (8 + (k : Int)).toNat = 8 + k by omega, a, e]
    · unfold lGrd; rw [if_neg (by omega), if_pos (by omega), q]
  · obtain ⟨p, hp, e⟩ := (h.cntC hG).1 r
    have t := (h.bare (p := p) (by omega)).1.2 e
    have ne : z ≠ p := fun w => by
      rw [w, show ((p : Int)).toNat = p by omega] at z2
      omega
    refine ⟨z, p, by omega, by omega, z1, Or.inl ⟨by omega, hp⟩, ⟨by omega, ne, ?_⟩, z2, ?_⟩
    · rw [if_pos ⟨by omega, hp⟩]
      unfold lBears
      rw [show ((p : Int)).toNat = p by omega, if_pos t, z2]
      exact r2
    · unfold lGrd; rw [if_neg (by omega), if_neg (by omega), show ((p : Int)).toNat = p by omega, t, q]
  · obtain ⟨p, hp, hx⟩ := (h.c7 (x := o.toNat) (by omega) (by omega)).1.1 r2
    rw [show ((o.toNat : Nat) : Int) = o by omega] at hx
    obtain ⟨l, hl⟩ := h.topC hG hp hx r3
    have pp : (p : Int) < G 0 := Classical.byContradiction fun r => by
      have := h.2.2.2.2.2.2.1.1 p (by omega) hp
      rw [this] at hl; cases hl
    have pl := (h.1 p hp).1
    rw [hl] at pl
    have t := pl.1
    have ne : z ≠ p := fun w => by
      rw [w, show ((p : Int)).toNat = p by omega] at z2
      have : o = c := by omega
      have f := r4.1
      rw [this] at f
      omega
    refine ⟨z, p, by omega, by omega, z1, Or.inl ⟨by omega, pp⟩, ⟨by omega, ne, ?_⟩, z2, ?_⟩
    · rw [if_pos ⟨by omega, pp⟩]
      unfold lBears
      rw [show ((p : Int)).toNat = p by omega, if_neg (by omega), z2, t]
      exact r4
    · unfold lGrd; rw [if_neg (by omega), if_neg (by omega), show ((p : Int)).toNat = p by omega, t]
end ZRP
