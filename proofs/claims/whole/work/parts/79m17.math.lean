section ZRX
variable {G : Nat → Int} {σ : SS} {s n : Int} {u i : Nat} {p0 p q : List Int} {F00 : Nat → Nat → Int} {beg : Nat → Nat}
/-- the levels: the newest, and all so far -/
def Lev (G : Nat → Int) (p0 : List Int) : Nat → (List Int → Prop) × (List Int → Prop)
  | 0 => (fun q => q = p0, fun q => q = p0)
  | i + 1 => (fun q => (∃ p, (Lev G p0 i).1 p ∧ Sc G p q) ∧ ¬ (Lev G p0 i).2 q, fun q => (Lev G p0 i).2 q ∨ ((∃ p, (Lev G p0 i).1 p ∧ Sc G p q) ∧ ¬ (Lev G p0 i).2 q))
abbrev Lv (G : Nat → Int) (p0 : List Int) (i : Nat) : List Int → Prop := (Lev G p0 i).1
abbrev Al (G : Nat → Int) (p0 : List Int) (i : Nat) : List Int → Prop := (Lev G p0 i).2
theorem Lv_s : Lv G p0 (i + 1) q ↔ (∃ p, Lv G p0 i p ∧ Sc G p q) ∧ ¬ Al G p0 i q := Iff.rfl
theorem Al_s : Al G p0 (i + 1) q ↔ Al G p0 i q ∨ Lv G p0 (i + 1) q := Iff.rfl
theorem Al_sc (h : Lv G p0 i p) (hs : Sc G p q) : Al G p0 (i + 1) q := by
  by_cases a : Al G p0 i q
  · exact Or.inl a
  · exact Or.inr ⟨⟨p, h, hs⟩, a⟩
/-- rows R of the levels up to i, cut at beg -/
def Enu (G : Nat → Int) (p0 : List Int) (i : Nat) (beg : Nat → Nat) (R : Nat → List Int) : Prop := beg 0 = 0 ∧ beg 1 = 1 ∧ (∀ j, j ≤ i → beg j ≤ beg (j + 1)) ∧ ∀ j, j ≤ i → ∀ q, Lv G p0 j q ↔ ∃ k, beg j ≤ k ∧ k < beg (j + 1) ∧ R k = q
theorem Enu.all {R : Nat → List Int} : ∀ {i : Nat}, Enu G p0 i beg R → ∀ q, Al G p0 i q ↔ ∃ k, k < beg (i + 1) ∧ R k = q := by
  intro i
  induction i with
  | zero =>
    intro h q
    have := h.2.2.2 0 (Nat.le_refl _) q
    refine (show Al G p0 0 q ↔ Lv G p0 0 q from Iff.rfl).trans (this.trans ⟨fun ⟨k, _, b, c⟩ => ⟨k, b, c⟩, fun ⟨k, b, c⟩ => ⟨k, by rw [h.1]; omega, b, c⟩⟩)
  | succ i ih =>
    intro h q
    have m := h.2.2.1
    rw [Al_s, ih ⟨h.1, h.2.1, fun j hj => h.2.2.1 j (by omega), fun j hj => h.2.2.2 j (by omega)⟩ q, h.2.2.2 (i + 1) (Nat.le_refl _) q]
    constructor
    · rintro (⟨k, a, b⟩ | ⟨k, a, b, c⟩)
      · exact ⟨k, Nat.lt_of_lt_of_le a (m (i + 1) (Nat.le_refl _)), b⟩
      · exact ⟨k, b, c⟩
    · rintro ⟨k, a, b⟩
      by_cases e : k < beg (i + 1)
      · exact Or.inl ⟨k, e, b⟩
      · exact Or.inr ⟨k, by omega, a, b⟩
theorem Enu.cong {R R' : Nat → List Int} (h : Enu G p0 i beg R) (hr : ∀ k, k < beg (i + 1) → R' k = R k) : Enu G p0 i beg R' := by
  refine ⟨h.1, h.2.1, h.2.2.1, fun j hj q => (h.2.2.2 j hj q).trans ?_⟩
  have mono : ∀ a b, a ≤ b → b ≤ i + 1 → beg a ≤ beg b := by
    intro a b hab
    induction b with
    | zero => intro _; have : a = 0 := by omega
              rw [this]; exact Nat.le_refl _
    | succ b ih =>
      intro hb
      by_cases e : a = b + 1
      · rw [e]; exact Nat.le_refl _
      · exact Nat.le_trans (ih (by omega) (by omega)) (h.2.2.1 b (by omega))
  have m := mono (j + 1) (i + 1) (by omega) (Nat.le_refl _)
  exact ⟨fun ⟨k, a, b, c⟩ => ⟨k, a, b, by rw [hr k (by omega)]; exact c⟩, fun ⟨k, a, b, c⟩ => ⟨k, a, b, by rw [← hr k (by omega)]; exact c⟩⟩
theorem Enu.mono {R : Nat → List Int} (h : Enu G p0 i beg R) : ∀ a b, a ≤ b → b ≤ i + 1 → beg a ≤ beg b := by
  intro a b hab
  induction b with
  | zero => intro _; have : a = 0 := by omega
            rw [this]; exact Nat.le_refl _
  | succ b ih =>
    intro hb
    by_cases e : a = b + 1
    · rw [e]; exact Nat.le_refl _
    · exact Nat.le_trans (ih (by omega) (by omega)) (h.2.2.1 b (by omega))
/-- one more level -/
theorem Enu.add {R : Nat → List Int} {m : Nat} (h : Enu G p0 i beg R) (hm : beg (i + 1) ≤ m) (hn : ∀ q, Lv G p0 (i + 1) q ↔ ∃ k, beg (i + 1) ≤ k ∧ k < m ∧ R k = q) : Enu G p0 (i + 1) (fU beg (i + 2) m) R := by
  have e : ∀ j, j ≤ i + 1 → fU beg (i + 2) m j = beg j := fun j hj => fUn _ (by omega)
  refine ⟨by rw [e 0 (by omega)]; exact h.1, by rw [e 1 (by omega)]; exact h.2.1, fun j hj => ?_, fun j hj q => ?_⟩
  · rw [e j (by omega)]
    by_cases q : j = i + 1
    · rw [q, fU_same]; exact hm
    · rw [e (j + 1) (by omega)]; exact h.2.2.1 j (by omega)
  · rw [e j (by omega)]
    by_cases w : j = i + 1
    · rw [w, fU_same]; exact hn q
    · rw [e (j + 1) (by omega)]; exact h.2.2.2 j (by omega) q
/-- many different rows of a set that is counted -/
theorem rows_le {P : List Int → Prop} {R R' : Nat → List Int} {m m' : Nat} (h : ∀ q, P q → ∃ k, k < m ∧ R k = q) (hi : ∀ a b, a < m' → b < m' → R' a = R' b → a = b) (hp : ∀ k, k < m' → P (R' k)) : m' ≤ m := by
  have := nd_sub ((List.range m').map R') ((List.range m).map R) (by
    unfold List.Nodup
    rw [List.pairwise_map]
    refine List.Pairwise.imp_of_mem ?_ List.nodup_range
    intro a b ha hb hab e
    exact hab (hi a b (List.mem_range.1 ha) (List.mem_range.1 hb) e)) fun x hx => by
    obtain ⟨k, hk, e⟩ := List.mem_map.1 hx
    obtain ⟨k', h1, h2⟩ := h _ (hp k (List.mem_range.1 hk))
    rw [← e, ← h2]
    exact List.mem_map.2 ⟨k', List.mem_range.2 h1, rfl⟩
  rw [List.length_map, List.length_map, List.length_range, List.length_range] at this
  exact this
/-- more rows than n -/
def tooM (P : List Int → Prop) (n : Nat) : Prop := ∃ R : Nat → List Int, (∀ a b, a < n + 1 → b < n + 1 → R a = R b → a = b) ∧ ∀ k, k < n + 1 → P (R k)
theorem tooM_of {P : List Int → Prop} {R : Nat → List Int} {m : Nat} (hi : ∀ a b, a < m → b < m → R a = R b → a = b) (hp : ∀ k, k < m → P (R k)) (hq : P q) (hn : ∀ k, k < m → R k ≠ q) : tooM P m := by
  refine ⟨fU R m q, fun a b ha hb e => ?_, fun k hk => ?_⟩
  · by_cases ea : a = m
    · by_cases eb : b = m
      · omega
      · rw [ea, fU_same, fUn _ eb] at e
        exact absurd e.symm (hn b (by omega))
    · rw [fUn _ ea] at e
      by_cases eb : b = m
      · rw [eb, fU_same] at e
        exact absurd e (hn a (by omega))
      · rw [fUn _ eb] at e
        exact hi a b (by omega) (by omega) e
  · by_cases ek : k = m
    · rw [ek, fU_same]; exact hq
    · rw [fUn _ ek]; exact hp k (by omega)
theorem tooM_no {P : List Int → Prop} {R : Nat → List Int} {m n : Nat} (h : ∀ q, P q → ∃ k, k < m ∧ R k = q) (hm : m ≤ n) : ¬ tooM P n := fun ⟨R', h1, h2⟩ => by
  have := rows_le h h1 h2
  omega
/-- a first move by its number, and the ways that it begins -/
def KC (G : Nat → Int) (Y : Nat → Nat → Int) (k : Int) (q : List Int) : Prop := ∃ z y, 0 ≤ z ∧ z < 12 ∧ 0 ≤ y ∧ y ≤ 12 ∧ lOne G (Y 1) (Y 2) z y ∧ k = 16 * z + y ∧ q = nxP G Y z y
def PT (G : Nat → Int) (p0 : List Int) (Y : Nat → Nat → Int) : Nat → Int → List Int → Prop
  | 0, k, q => Lv G p0 1 q ∧ KC G Y k q
  | i + 1, k, q => Lv G p0 (i + 2) q ∧ ∃ p, PT G p0 Y i k p ∧ Sc G p q
theorem PT_lv {Y : Nat → Nat → Int} {k : Int} (h : PT G p0 Y i k q) : Lv G p0 (i + 1) q := by
  cases i with
  | zero => exact h.1
  | succ i => exact h.1
/-- nodes and steps -/
theorem nd_sc (hG : gmV G) {Y : Nat → Nat → Int} {f0 : Nat → Int} (hJ : JJ G Y) (hW : lyW Y) (h : ndD G Y f0 u s q) : (q = pos (nC G) (Y 0) ∨ Sc G (pos (nC G) (Y 0)) q) ∧ q ≠ wnP (nC G) ∧ (u = 0 → KC G Y s q) ∧ (u ≠ 0 → s = f0 u) := by
  obtain ⟨z, y, a, b, c, d, e1, e2, e3, e4⟩ := h
  obtain ⟨A, C, hS, hf⟩ := hJ
  obtain ⟨c1, c2⟩ := hS.may1 hG hW ⟨a, b⟩ ⟨c, d⟩ e1
  refine ⟨?_, e4, fun u0 => ⟨z, y, a, b, c, d, e1, by rw [e2]; exact if_pos u0, e3⟩, fun u0 => by rw [e2]; exact if_neg u0⟩
  rcases c2 with c2 | c2
  · left
    rw [e3]
    refine pos_eq.2 fun x hx => ?_
    by_cases w : x = (Y 1 z.toNat).toNat
    · rw [w, iU_same]; exact c2.symm
    · rw [iU_ne _ _ w]
  · right
    exact Sc_of.2 ⟨_, _, c2, e3⟩
theorem sc_nd (hG : gmV G) {Y : Nat → Nat → Int} {f0 : Nat → Int} (hJ : JJ G Y) (hW : lyW Y) (h : Sc G (pos (nC G) (Y 0)) q) : (q ≠ wnP (nC G) → ∃ s, ndD G Y f0 u s q) ∧ (q = wnP (nC G) → ∃ s, ndW G Y f0 u s) := by
  obtain ⟨A, C, hS, hf⟩ := hJ
  obtain ⟨c, o, m, e⟩ := Sc_of.1 h
  obtain ⟨z, y, hz, hy, -, -, ho, e1, e2⟩ := hS.may2 hG hW hf m
  have eq : nxP G Y z y = q := by
    rw [e]
    show pos (nC G) (iU (Y 0) (Y 1 z.toNat).toNat (lGrd (Y 1) y)) = _
    rw [e1, e2]
    rfl
  exact ⟨fun w => ⟨_, z, y, hz.1, hz.2, hy.1, hy.2, ho, rfl, eq.symm, w⟩, fun w => ⟨_, z, y, hz.1, hz.2, hy.1, hy.2, ho, rfl, by rw [eq]; exact w⟩⟩
theorem nw_sc (hG : gmV G) {Y : Nat → Nat → Int} {f0 : Nat → Int} (hJ : JJ G Y) (hW : lyW Y) (hn : pos (nC G) (Y 0) ≠ wnP (nC G)) (h : ndW G Y f0 u s) : Sc G (pos (nC G) (Y 0)) (wnP (nC G)) ∧ (u = 0 → KC G Y s (wnP (nC G))) ∧ (u ≠ 0 → s = f0 u) := by
  obtain ⟨z, y, a, b, c, d, e1, e2, e3⟩ := h
  obtain ⟨A, C, hS, hf⟩ := hJ
  obtain ⟨c1, c2⟩ := hS.may1 hG hW ⟨a, b⟩ ⟨c, d⟩ e1
  refine ⟨?_, fun u0 => ⟨z, y, a, b, c, d, e1, by rw [e2]; exact if_pos u0, e3.symm⟩, fun u0 => by rw [e2]; exact if_neg u0⟩
  rcases c2 with c2 | c2
  · exfalso
    refine hn ?_
    rw [← e3]
    refine pos_eq.2 fun x hx => ?_
    by_cases w : x = (Y 1 z.toNat).toNat
    · rw [w, iU_same]; exact c2
    · rw [iU_ne _ _ w]
  · exact Sc_of.2 ⟨_, _, c2, e3.symm⟩
/-- the class after i levels -/
def CS (G : Nat → Int) (p0 : List Int) (Y : Nat → Nat → Int) (n : Int) (i : Nat) (beg : Nat → Nat) (σ : SS) : Prop :=
  CB G σ ∧ (σ.1 0 = n ∧ σ.1 2 ≠ 1 ∧ σ.1 3 = -1 ∧ cC σ = beg (i + 1)) ∧ (∀ a b, a < cC σ → b < cC σ → cPos G σ a = cPos G σ b → a = b) ∧ (∀ j, j < cC σ → cPos G σ j ≠ wnP (nC G)) ∧ σ.2.2 0 = Y ∧
  Enu G p0 i beg (cPos G σ) ∧ (∀ l, l + 1 ≤ i → ∀ j, beg (l + 1) ≤ j → j < beg (l + 2) → PT G p0 Y l (σ.2.1 1 j) (cPos G σ j) ∧ ∀ k, PT G p0 Y l k (cPos G σ j) → σ.2.1 1 j ≤ k) ∧
  (∀ l, l + 1 ≤ i → ∀ a b, beg (l + 1) ≤ a → a ≤ b → b < beg (l + 2) → σ.2.1 1 a ≤ σ.2.1 1 b)
end ZRX
