section ZRT
variable {G b : Nat → Int} {Y A X Y' : Nat → Nat → Int} {C : Nat → List Int} {z y o : Int} {c : Nat}
theorem SR.ext (hG : gmV G) (h : SR G Y A C) (h0 : ∀ j, j < 52 → Y' 0 j = Y 0 j) (h1 : ∀ j, j < 12 → Y' 1 j = Y 1 j) (h2 : ∀ j, j < 4 → Y' 2 j = Y 2 j) (h3 : Y' 3 = Y 3) : SR G Y' A C := by
  have hA := gAll_rng hG
  have hm := fun (p : Nat) hp => h.mem hG (p := p) hp
  obtain ⟨a1, a2, a3, a4, a5, a6, a7, a8, a9⟩ := h
  refine ⟨fun p hp => ?_, a2, fun k hk => ?_, a4, fun s hs => ?_, fun x hx => ?_, a7, by rw [h3]; exact a8, by rw [h3]; exact a9⟩
  · obtain ⟨g1, g2⟩ := a1 p hp
    rw [h1 p (by omega)]
    exact ⟨pile_keep _ _ g1 fun x hx => h0 _ (by have := hm p hp x hx; omega), g2⟩
  · rw [h1 _ (by omega)]; exact a3 k hk
  · rw [h2 s hs]; exact a5 s hs
  · rw [h0 x hx]; exact a6 x hx
theorem SR.cp (hG : gmV G) (h : SR G Y A C) : SR G (yCp Y X) A C := h.ext hG (fun j hj => iCp_lt hj) (fun j hj => iCp_lt hj) (fun j hj => iCp_lt hj) rfl
/-- a layout with all cards -/
def JJ (G : Nat → Int) (Y : Nat → Nat → Int) : Prop := ∃ A C, SR G Y A C ∧ fullB G (Y 0)
theorem lGrd_ge (hW : lyW Y) : -3 ≤ lGrd (Y 1) y := by
  unfold lGrd
  have := (hW.2.1 y.toNat).1
  split
  · omega
  · split <;> omega
theorem SR.go (hG : gmV G) (hW : lyW Y) (h : SR G Y A C) (hz : 0 ≤ z ∧ z < 12) (hy : 0 ≤ y ∧ y ≤ 12) (ho : lOne G (Y 1) (Y 2) z y) : (gCol G z ∨ gCel G z) ∧ gPla G y ∧ mvP G z y 1 (Y 1 z.toNat) (Y 1 z.toNat) (C, A 2, A 3) := by
  have hG' := hG
  unfold gmV at hG'
  have zP : gCol G z ∨ gCel G z := Classical.byContradiction fun q => ho.1 (h.none hG (p := z.toNat) (by omega) (by rw [show ((z.toNat : Nat) : Int) = z by omega]; exact q))
  have yP : gPla G y := by
    have o3 := ho.2.2
    by_cases q : gCol G y
    · exact Or.inl q
    · rw [if_neg q] at o3
      by_cases q2 : gCel G y
      · exact Or.inr (Or.inl q2)
      · rw [if_neg q2] at o3; exact Or.inr (Or.inr o3.1)
  have m := (h.one hG hW zP yP).1 ho
  have p := h.mvp hG hW zP yP (m := 1) (by omega) (by unfold mMay; rw [if_pos rfl]; exact m)
  rw [h.top hG zP] at p
  have e : lCard (Y 0) (Y 1) z (1 - 1) = Y 1 z.toNat := (p.2.2.2.2.1 rfl).2.2.2
  rw [e] at p
  exact ⟨zP, yP, p⟩
theorem stJ_JJ (hG : gmV G) : stJ G (JJ G) := by
  intro Y X z y hJ hW hz hy ho
  obtain ⟨A, C, h, hf⟩ := hJ
  obtain ⟨zP, yP, p⟩ := h.go hG hW hz hy ho
  have s := (h.cp hG (X := X)).mv hG p
  refine ⟨_, _, s, fun x hx => ?_⟩
  have hA := gAll_rng hG
  have hn := nC_eq hG
  show -3 ≤ iU (iCp (Y 0) (X 0) 52) _ (lGrd (iCp (Y 1) (X 1) 12) y) x
  by_cases e : x = (Y 1 z.toNat).toNat
  · rw [e, iU_same]
    unfold lGrd
    by_cases q : y = 12
    · rw [if_pos q]; omega
    · rw [if_neg q]
      by_cases q2 : 8 ≤ y
      · rw [if_pos q2]; omega
      · rw [if_neg q2, iCp_lt (by omega)]
        have := (hW.2.1 y.toNat).1
        omega
  · rw [iU_ne _ _ e, iCp_lt (by omega)]
    exact hf x hx
theorem okL_JJ (hG : gmV G) : ∀ Y, JJ G Y → lyW Y → okL G Y := by
  intro Y hJ hW z y hz hy ho
  obtain ⟨A, C, h, hf⟩ := hJ
  obtain ⟨zP, yP, p⟩ := h.go hG hW hz hy ho
  have k := h.mvok hG p
  exact ⟨k.2.1, k.2.2.2.1⟩
/-- all home -/
theorem srWon (hG : gmV G) (h : SR G Y A C) : Y 3 1 = gAll G ↔ pos (nC G) (Y 0) = wnP (nC G) := by
  have hG' := hG
  unfold gmV at hG'
  have hA := gAll_rng hG
  have hn := nC_eq hG
  have a := fun s hs => h.2.2.2.2.1 s hs
  have a0 := a 0 (by omega)
  have a1 := a 1 (by omega)
  have a2 := a 2 (by omega)
  have a3 := a 3 (by omega)
  have key : Y 3 1 = gAll G ↔ ∀ s : Nat, (s : Int) < G 4 → A 3 s = G 5 := by
    rw [h.2.2.2.2.2.2.2.2]
    unfold mAH
    have g4 : G 4 = 1 ∨ G 4 = 2 ∨ G 4 = 3 ∨ G 4 = 4 := by omega
    have e : gAll G = G 4 * G 5 := rfl
    rw [e]
    constructor
    · intro w s hs
      have sv : s = 0 ∨ s = 1 ∨ s = 2 ∨ s = 3 := by omega
      rcases g4 with g | g | g | g <;> rw [g] at w hs a0 a1 a2 a3 <;> rcases sv with v | v | v | v <;> rw [v] at hs ⊢ <;> omega
    · intro w
      rcases g4 with g | g | g | g <;> rw [g] at w a0 a1 a2 a3 ⊢
      · have w0 := w 0 (by omega); omega
      · have w0 := w 0 (by omega); have w1 := w 1 (by omega); omega
      · have w0 := w 0 (by omega); have w1 := w 1 (by omega); have w2 := w 2 (by omega); omega
      · have w0 := w 0 (by omega); have w1 := w 1 (by omega); have w2 := w 2 (by omega); have w3 := w 3 (by omega); omega
  rw [key, pos_eq]
  constructor
  · intro w x hx
    have sr := gSuit_rng (c := (x : Int)) hG
    have s4 : gSuit G x < G 4 := Int.emod_lt_of_pos _ (by omega)
    refine (h.c7 (x := x) (by omega) (by omega)).2.2.2 ?_
    rw [w (gSuit G x).toNat (by omega)]
    exact gRank_le hG (by omega)
  · intro w s hs
    have ss := a s (by omega)
    -- the greatest card of the suit
    have g5 : 0 ≤ (G 5 - 1) := by omega
    have mp : 0 ≤ G 4 * (G 5 - 1) := Int.mul_nonneg (by omega) g5
    have me : G 4 * (G 5 - 1) = G 4 * G 5 - G 4 := by rw [Int.mul_sub, Int.mul_one]
    have e : gAll G = G 4 * G 5 := rfl
    have xv : (((s : Int) + G 4 * (G 5 - 1)).toNat : Int) = (s : Int) + G 4 * (G 5 - 1) := by omega
    have xl : ((s : Int) + G 4 * (G 5 - 1)).toNat < nC G := by omega
    have f3 := (h.c7 (x := ((s : Int) + G 4 * (G 5 - 1)).toNat) (by omega) (by omega)).2.2.1 (w _ xl)
    rw [xv] at f3
    have d1 : ((s : Int) + G 4 * (G 5 - 1)) / G 4 = G 5 - 1 := by
      rw [Int.add_mul_ediv_left _ _ (by omega), Int.ediv_eq_zero_of_lt (by omega) hs]; omega
    have d2 : ((s : Int) + G 4 * (G 5 - 1)) % G 4 = s := by
      rw [Int.add_mul_emod_self_left, Int.emod_eq_of_lt (by omega) hs]
    unfold gRank gSuit at f3
    rw [d1, d2, show ((s : Int)).toNat = s by omega] at f3
    omega
/-! sums -/
def sS (b : Nat → Int) : Nat → Int
  | 0 => 0
  | k + 1 => sS b k + sh k (b k)
theorem nm_l (a b : Int) : nm (nm a + b) = nm (a + b) := by rw [nm_eq, ← iI_add, nm_of, iI_add]
theorem hsm_z {k : Nat} {v : Int} : hsm b 0 k v = v := rfl
theorem hsm_n {j k : Nat} {v : Int} : hsm b (j + 1) k v = hsm b j (k + 1) (nm (v + sh k (b k))) := rfl
theorem sS_n {k : Nat} : sS b (k + 1) = sS b k + sh k (b k) := rfl
theorem hsm_sS : ∀ (j k : Nat), hsm b j k (nm (sS b k)) = nm (sS b (k + j)) := by
  intro j
  induction j with
  | zero => intro k; rw [hsm_z, Nat.add_zero]
  | succ j ih =>
    intro k
    rw [hsm_n, nm_l, ← sS_n, ih (k + 1), show k + 1 + j = k + (j + 1) by omega]
theorem hsm_0 (n : Nat) : hsm b n 0 0 = nm (sS b n) := by
  have := hsm_sS (b := b) n 0
  have e : nm (sS b 0) = 0 := nm_id (z := 0) (by omega)
  rw [Nat.zero_add, e] at this
  exact this
theorem sS_c {b' : Nat → Int} : ∀ n, (∀ x, x < n → b x = b' x) → sS b n = sS b' n := by
  intro n
  induction n with
  | zero => intro _; rfl
  | succ n ih =>
    intro h
    rw [sS_n, sS_n, ih fun x hx => h x (by omega), h n (by omega)]
theorem sS_u : ∀ n, c < n → sS (iU b c o) n = sS b n - sh c (b c) + sh c o := by
  intro n
  induction n with
  | zero => intro h; omega
  | succ n ih =>
    intro h
    rw [sS_n, sS_n]
    by_cases e : c = n
    · subst e
      rw [iU_same, sS_c (b := iU b c o) (b' := b) c fun x hx => iU_ne _ _ (by omega)]
      omega
    · rw [ih (by omega), iU_ne _ _ (fun q => e q.symm)]
      omega
end ZRT
