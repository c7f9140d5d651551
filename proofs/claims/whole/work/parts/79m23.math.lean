section ZSE
variable {G N b : Nat → Int} {A Y : Nat → Nat → Int} {C : Nat → List Int} {n u : Int} {p : Nat}
theorem pile_get : ∀ (l : List Int) (t : Int), pile b t l → ∀ i (hi : i < l.length), b (l[i]).toNat = (l[i + 1]?).getD (-1) := by
  intro l
  induction l with
  | nil => intro t _ i hi; cases hi
  | cons a l ih =>
    intro t h i hi
    obtain ⟨h1, h2, h3⟩ := h
    cases i with
    | zero =>
      show b a.toNat = _
      cases l with
      | nil => exact h3
      | cons d l => exact h3.1
    | succ i =>
      have := ih _ h3 i (by have : (a :: l).length = l.length + 1 := rfl; omega)
      rw [List.getElem_cons_succ, List.getElem?_cons_succ]
      exact this
def cod (o : Int) : Int := if o = -3 then 1 else if o = -2 then 2 else if o = -1 then 3 else 10 + o
theorem cod_dec {o : Int} (h : -3 ≤ o) : dec (cod o) = o := by
  unfold cod
  split
  · rename_i q; rw [q]; rfl
  · split
    · rename_i q; rw [q]; rfl
    · split
      · rename_i q; rw [q]; rfl
      · unfold dec
        rw [if_neg (by omega), if_neg (by omega), if_neg (by omega)]
        omega
theorem cod_on (hG : gmV G) {o : Int} (h : -3 ≤ o ∧ o < gAll G) : onR G (cod o) := by
  have := gAll_rng hG
  unfold cod onR
  split
  · omega
  · split
    · omega
    · split <;> omega
theorem bgK_spec {v : Nat → Int} (hv : ∀ k, v k = A 0 (52 * p + k)) : ∀ (j k : Nat) (f : Nat → Int) (x : Nat), ((∀ k', k ≤ k' → k' < k + j → (v k').toNat ≠ x) → bgK A p j k f x = f x) ∧
    ((∀ a b, k ≤ a → a < k + j → k ≤ b → b < k + j → (v a).toNat = (v b).toNat → a = b) → ∀ k', k ≤ k' → k' < k + j → (v k').toNat = x → bgK A p j k f x = if k' = 0 then 3 else 10 + v (k' - 1)) := by
  intro j
  induction j with
  | zero => intro k f x; exact ⟨fun _ => rfl, fun _ k' h1 h2 => by omega⟩
  | succ j ih =>
    intro k f x
    have e : bgK A p (j + 1) k f = bgK A p j ((k : Int) + 1) (iU f (A 0 (52 * (p : Int) + k).toNat).toNat (if (k : Int) = 0 then 3 else 10 + A 0 (52 * (p : Int) + k - 1).toNat)) := rfl
    rw [e]
    have e1 : A 0 (52 * (p : Int) + k).toNat = v k := by rw [hv, show (52 * (p : Int) + (k : Int)).toNat = 52 * p + k by omega]
    have e2 : (if (k : Int) = 0 then (3 : Int) else 10 + A 0 (52 * (p : Int) + k - 1).toNat) = if k = 0 then 3 else 10 + v (k - 1) := by
      by_cases q : k = 0
      · rw [if_pos q, if_pos (by omega)]
      · rw [if_neg q, if_neg (by omega), hv, show (52 * (p : Int) + (k : Int) - 1).toNat = 52 * p + (k - 1) by omega]
    rw [e1, e2, show (k : Int) + 1 = ((k + 1 : Nat) : Int) by omega]
    obtain ⟨i1, i2⟩ := ih (k + 1) (iU f (v k).toNat (if k = 0 then 3 else 10 + v (k - 1))) x
    constructor
    · intro h
      rw [i1 fun k' h1 h2 => h k' (by omega) (by omega)]
      exact iU_ne _ _ (fun q => h k (Nat.le_refl _) (by omega) q.symm)
    · intro hd k' h1 h2 hx
      by_cases q : k' = k
      · subst q
        rw [i1 fun a h3 h4 w => by have := hd a k' (by omega) (by omega) (by omega) (by omega) (w.trans hx.symm); omega, ← hx, iU_same]
      · exact i2 (fun a b h3 h4 h5 h6 => hd a b (by omega) (by omega) (by omega) (by omega)) k' (by omega) (by omega) hx
/-- a column in the first row -/
theorem bgK_col (hp : pile (Y 0) (Y 1 p) (C p)) (hm : mcol A p (C p)) (hn : (C p).Nodup) (f : Nat → Int) (x : Nat) : ((x : Int) ∉ C p → bgK A p (A 1 p).toNat 0 f x = f x) ∧ ((x : Int) ∈ C p → bgK A p (A 1 p).toNat 0 f x = cod (Y 0 x)) := by
  have pos := pile_pos _ _ hp
  have h1 : (A 1 p).toNat = (C p).length := by rw [hm.1]; omega
  have sp := bgK_spec (A := A) (p := p) (v := fun k => A 0 (52 * p + k)) (fun _ => rfl) (C p).length 0 f x
  have vi : ∀ k, k < (C p).length → ∃ hi : (C p).length - 1 - k < (C p).length, A 0 (52 * p + k) = (C p)[(C p).length - 1 - k] := fun k hk => by
    have := hm.2 ((C p).length - 1 - k) (by omega)
    rw [show (C p).length - 1 - ((C p).length - 1 - k) = k by omega, List.getElem?_eq_getElem (by omega)] at this
    exact ⟨by omega, this⟩
  rw [h1]
  constructor
  · intro hx
    refine sp.1 fun k _ hk => ?_
    obtain ⟨hi, e⟩ := vi k (by omega)
    show (A 0 (52 * p + k)).toNat ≠ x
    rw [e]
    intro q
    have m := List.getElem_mem hi
    have := pos _ m
    exact hx (by rw [← q, show ((((C p)[(C p).length - 1 - k]).toNat : Nat) : Int) = (C p)[(C p).length - 1 - k] by omega]; exact m)
  · intro hx
    obtain ⟨i, hi, e⟩ := List.getElem_of_mem hx
    have e1 := vi ((C p).length - 1 - i) (by omega)
    obtain ⟨hj, e1⟩ := e1
    have e1 : A 0 (52 * p + ((C p).length - 1 - i)) = (C p)[i] := by
      rw [e1]
      congr 1
      omega
    have dist : ∀ a b, 0 ≤ a → a < 0 + (C p).length → 0 ≤ b → b < 0 + (C p).length → (A 0 (52 * p + a)).toNat = (A 0 (52 * p + b)).toNat → a = b := fun a b _ ha _ hb q => by
      obtain ⟨ha', ea⟩ := vi a (by omega)
      obtain ⟨hb', eb⟩ := vi b (by omega)
      rw [ea, eb] at q
      have p1 := pos _ (List.getElem_mem ha')
      have p2 := pos _ (List.getElem_mem hb')
      have := (List.getElem_inj hn).1 (show (C p)[(C p).length - 1 - a] = (C p)[(C p).length - 1 - b] by omega)
      omega
    have r := sp.2 dist ((C p).length - 1 - i) (by omega) (by omega) (by show (A 0 _).toNat = x; rw [e1, e]; omega)
    refine r.trans ?_
    have pg := pile_get _ _ hp i hi
    rw [e, show ((x : Int)).toNat = x by omega] at pg
    rw [pg]
    by_cases q : (C p).length - 1 - i = 0
    · rw [if_pos q, List.getElem?_eq_none (by omega)]
      rfl
    · rw [if_neg q, List.getElem?_eq_getElem (by omega)]
      have e2 := hm.2 (i + 1) (by omega)
      rw [List.getElem?_eq_getElem (by omega)] at e2
      have e2 : A 0 (52 * p + ((C p).length - 1 - (i + 1))) = (C p)[i + 1] := e2
      show 10 + A 0 (52 * p + ((C p).length - 1 - i - 1)) = cod ((C p)[i + 1])
      rw [show (C p).length - 1 - i - 1 = (C p).length - 1 - (i + 1) by omega, e2]
      have := pos _ (List.getElem_mem (show i + 1 < (C p).length by omega))
      unfold cod
      rw [if_neg (by omega), if_neg (by omega), if_neg (by omega)]
theorem bgP_spec (h : ∀ q, q < 8 → pile (Y 0) (Y 1 q) (C q) ∧ mcol A q (C q) ∧ (C q).Nodup) : ∀ (j p : Nat) (f : Nat → Int) (x : Nat), p + j ≤ 8 → ((∀ q, p ≤ q → q < p + j → (x : Int) ∉ C q) → bgP A j p f x = f x) ∧ ((∃ q, p ≤ q ∧ q < p + j ∧ (x : Int) ∈ C q) → bgP A j p f x = cod (Y 0 x)) := by
  intro j
  induction j with
  | zero => intro p f x _; exact ⟨fun _ => rfl, fun ⟨q, a, b, _⟩ => by omega⟩
  | succ j ih =>
    intro p f x hp
    have e : bgP A (j + 1) p f = bgP A j ((p : Int) + 1) (bgK A p (A 1 ((p : Int)).toNat).toNat 0 f) := rfl
    rw [e, show ((p : Int)).toNat = p by omega, show (p : Int) + 1 = ((p + 1 : Nat) : Int) by omega]
    obtain ⟨h1, h2, h3⟩ := h p (by omega)
    obtain ⟨k1, k2⟩ := bgK_col h1 h2 h3 f x
    obtain ⟨i1, i2⟩ := ih (p + 1) (bgK A p (A 1 p).toNat 0 f) x (by omega)
    constructor
    · intro hx
      rw [i1 fun q a b => hx q (by omega) (by omega)]
      exact k1 (hx p (Nat.le_refl _) (by omega))
    · rintro ⟨q, a, b, c⟩
      by_cases w : ∃ q, p + 1 ≤ q ∧ q < p + 1 + j ∧ (x : Int) ∈ C q
      · exact i2 w
      · rw [i1 fun q a b c => w ⟨q, a, b, c⟩]
        have : q = p := Classical.byContradiction fun v => w ⟨q, by omega, by omega, c⟩
        rw [this] at c
        exact k2 c
theorem bgE_spec : ∀ (j k : Nat) (f : Nat → Int) (x : Nat), ((∀ q, k ≤ q → q < k + j → A 2 q ≠ x) → bgE A j k f x = f x) ∧ ((∃ q, k ≤ q ∧ q < k + j ∧ A 2 q = x) → bgE A j k f x = 2) := by
  intro j
  induction j with
  | zero => intro k f x; exact ⟨fun _ => rfl, fun ⟨q, a, b, _⟩ => by omega⟩
  | succ j ih =>
    intro k f x
    have e : bgE A (j + 1) k f = bgE A j ((k : Int) + 1) (if A 2 ((k : Int)).toNat < 0 then f else iU f (A 2 ((k : Int)).toNat).toNat 2) := rfl
    rw [e, show ((k : Int)).toNat = k by omega, show (k : Int) + 1 = ((k + 1 : Nat) : Int) by omega]
    obtain ⟨i1, i2⟩ := ih (k + 1) (if A 2 k < 0 then f else iU f (A 2 k).toNat 2) x
    constructor
    · intro hx
      rw [i1 fun q a b => hx q (by omega) (by omega)]
      have := hx k (Nat.le_refl _) (by omega)
      split
      · rfl
      · exact iU_ne _ _ (by omega)
    · rintro ⟨q, a, b, c⟩
      by_cases w : ∃ q, k + 1 ≤ q ∧ q < k + 1 + j ∧ A 2 q = x
      · exact i2 w
      · rw [i1 fun q a b c => w ⟨q, a, b, c⟩]
        have : q = k := Classical.byContradiction fun v => w ⟨q, by omega, by omega, c⟩
        rw [this] at c
        rw [if_neg (by omega), c, show ((x : Int)).toNat = x by omega, iU_same]
/-- the first row is the table -/
theorem srBgF (hG : gmV G) (hW : lyW Y) (h : SR G Y A C) (hf : fullB G (Y 0)) : vRow G (bgF G A) 0 ∧ ∀ x, x < nC G → rowB (bgF G A) 0 x = Y 0 x := by
  have hG' := hG
  unfold gmV at hG'
  have hA := gAll_rng hG
  have hn := nC_eq hG
  have base : ∀ x : Nat, x < 52 → iCp (bgH G) (A 7) 52 x = if x < nC G then 1 else 0 := fun x hx => by
    rw [iCp_lt hx]
    show (if (x : Int) < gAll G then (1 : Int) else 0) = _
    by_cases q : x < nC G
    · rw [if_pos q, if_pos (by omega)]
    · rw [if_neg q, if_neg (by omega)]
  have P := bgP_spec (A := A) (C := C) (Y := Y) (fun q hq => ⟨(h.1 q hq).1, (h.1 q hq).2.1, (h.1 q hq).2.2.1⟩) (G 0).toNat 0
  have E := bgE_spec (A := A) (G 1).toNat 0
  have g0 : ((G 0).toNat : Int) = G 0 := by omega
  have colp : ∀ (q : Nat) (x : Int), q < 8 → x ∈ C q → (q : Int) < G 0 := fun q x hq hx => Classical.byContradiction fun w => by
    have := h.2.2.2.2.2.2.1.1 q (by omega) hq
    rw [this] at hx; cases hx
  have celp : ∀ (k : Nat), k < 4 → 0 ≤ A 2 k → (k : Int) < G 1 := fun k hk hx => Classical.byContradiction fun w => by
    have := h.2.2.2.2.2.2.1.2 k (by omega) hk
    omega
  have val : ∀ x, x < nC G → bgF G A x = cod (Y 0 x) := fun x hx => by
    have c7 := h.c7 (x := x) (by omega) (by omega)
    have fl := hf x hx
    by_cases q1 : -1 ≤ Y 0 x
    · obtain ⟨p, hp, hm⟩ := c7.1.1 q1
      have e1 := (E (bgP A (G 0).toNat 0 (iCp (bgH G) (A 7) 52)) x).1 fun k _ hk e => by
        have := c7.2.1.2 ⟨k, by omega, e⟩
        omega
      have e2 := (P (iCp (bgH G) (A 7) 52) x (by omega)).2 ⟨p, by omega, by have := colp p x hp hm; omega, hm⟩
      exact e1.trans e2
    · have nc : ∀ q, 0 ≤ q → q < 0 + (G 0).toNat → (x : Int) ∉ C q := fun q _ hq hm => q1 (c7.1.2 ⟨q, by omega, hm⟩)
      by_cases q2 : Y 0 x = -2
      · obtain ⟨k, hk, e⟩ := c7.2.1.1 q2
        have := (E (bgP A (G 0).toNat 0 (iCp (bgH G) (A 7) 52)) x).2 ⟨k, by omega, by have := celp k hk (by omega); omega, e⟩
        rw [q2]
        exact this
      · have e1 := (E (bgP A (G 0).toNat 0 (iCp (bgH G) (A 7) 52)) x).1 fun k _ hk e => q2 (c7.2.1.2 ⟨k, by omega, e⟩)
        have e2 := (P (iCp (bgH G) (A 7) 52) x (by omega)).1 nc
        have e3 := base x (by omega)
        rw [if_pos hx] at e3
        have : Y 0 x = -3 := by omega
        rw [this]
        exact e1.trans (e2.trans e3)
  have zer : ∀ x, nC G ≤ x → x < 52 → bgF G A x = 0 := fun x h1 h2 => by
    have e1 := (E (bgP A (G 0).toNat 0 (iCp (bgH G) (A 7) 52)) x).1 fun k _ hk e => by
      have := (h.2.2.1 k (by omega)).2.1
      omega
    have e2 := (P (iCp (bgH G) (A 7) 52) x (by omega)).1 fun q _ hq hm => by
      have := (h.mem hG (p := q) (by omega) x hm).2
      omega
    have e3 := base x h2
    rw [if_neg (by omega)] at e3
    exact e1.trans (e2.trans e3)
  have lt : ∀ x, x < nC G → Y 0 x < gAll G := fun x hx => by
    have c7 := h.c7 (x := x) (by omega) (by omega)
    by_cases q1 : -1 ≤ Y 0 x
    · obtain ⟨p, hp, hm⟩ := c7.1.1 q1
      by_cases q2 : 0 ≤ Y 0 x
      · have t := pile_next _ _ (h.1 p hp).1 x hm (by rw [show ((x : Int)).toNat = x by omega]; exact q2)
        rw [show ((x : Int)).toNat = x by omega] at t
        exact (h.mem hG hp _ (List.mem_of_mem_tail t)).2
      · omega
    · omega
  refine ⟨⟨fun x hx => ?_, fun x h1 h2 => ?_⟩, fun x hx => ?_⟩
  · rw [show 52 * 0 + x = x by omega, val x hx]
    exact cod_on hG ⟨hf x hx, lt x hx⟩
  · rw [show 52 * 0 + x = x by omega]; exact zer x h1 h2
  · show dec (bgF G A (52 * 0 + x)) = _
    rw [show 52 * 0 + x = x by omega, val x hx]
    exact cod_dec (hf x hx)
end ZSE
