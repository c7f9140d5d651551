section ZRU
variable {G b S2 H : Nat → Int} {Fb : Nat → Nat → Int} {mv gr hs : Int} {N : Nat}
/-- the i-th slot from s on -/
abbrev sAt (s i : Nat) : Nat := (s + i) % 512
abbrev sMt (S2 H : Nat → Int) (Fb : Nat → Nat → Int) (b : Nat → Int) (mv gr hs : Int) (N s : Nat) : Prop := H (S2 s - 1).toNat = hs ∧ lAk (Fb (S2 s - 1).toNat) b mv gr 0 N
theorem slF_spec : ∀ (m s : Nat), s < 512 → ∃ i, i ≤ m ∧ slF S2 H Fb b mv gr hs N m s = (sAt s i : Nat) ∧ (∀ i', i' < i → S2 (sAt s i') ≠ 0 ∧ ¬ sMt S2 H Fb b mv gr hs N (sAt s i')) ∧ (i < m → S2 (sAt s i) = 0 ∨ sMt S2 H Fb b mv gr hs N (sAt s i)) := by
  intro m
  induction m with
  | zero => intro s hs'; exact ⟨0, Nat.le_refl _, by show (s : Int) = ((s + 0) % 512 : Nat); rw [Nat.add_zero, Nat.mod_eq_of_lt hs'], fun i' h => by omega, fun h => by omega⟩
  | succ m ih =>
    intro s hs'
    have e0 : sAt s 0 = s := by show (s + 0) % 512 = s; rw [Nat.add_zero, Nat.mod_eq_of_lt hs']
    have et : ((s : Int)).toNat = s := by omega
    by_cases q : S2 s = 0
    · refine ⟨0, by omega, ?_, fun i' h => by omega, fun _ => Or.inl (by rw [e0]; exact q)⟩
      rw [slF_0 (by rw [et]; exact q), e0]
    · by_cases q2 : sMt S2 H Fb b mv gr hs N s
      · refine ⟨0, by omega, ?_, fun i' h => by omega, fun _ => Or.inr (by rw [e0]; exact q2)⟩
        rw [slF_1 (by rw [et]; exact q2), e0]
      · have s1 : sl0 ((s : Int) + 1) = (sAt s 1 : Nat) := by
          rw [sl0_in (by omega)]
          show _ = (((s + 1) % 512 : Nat) : Int)
          split <;> omega
        obtain ⟨i, i1, i2, i3, i4⟩ := ih (sAt s 1) (Nat.mod_lt _ (by omega))
        have sh : ∀ k, sAt (sAt s 1) k = sAt s (k + 1) := fun k => by
          show ((s + 1) % 512 + k) % 512 = (s + (k + 1)) % 512
          omega
        refine ⟨i + 1, by omega, ?_, fun i' h => ?_, fun h => ?_⟩
        · rw [slF_s (by rw [et]; exact q) (by rw [et]; exact q2), s1, i2, sh]
        · cases i' with
          | zero => rw [e0]; exact ⟨q, q2⟩
          | succ k =>
            have := i3 k (by omega)
            rw [sh] at this
            exact this
        · have := i4 (by omega)
          rw [sh] at this
          exact this
/-- the table of slots is in order -/
def tbl (S2 H : Nat → Int) (ct : Nat) : Prop :=
  (∀ s, s < 512 → 0 ≤ S2 s ∧ S2 s ≤ ct) ∧ (∀ s s', s < 512 → s' < 512 → S2 s ≠ 0 → S2 s = S2 s' → s = s') ∧
  ∀ j, j < ct → ∃ i, i < 512 ∧ S2 (sAt (sl0 (H j)).toNat i) = (j : Int) + 1 ∧ ∀ i', i' < i → S2 (sAt (sl0 (H j)).toNat i') ≠ 0
theorem tbl_free {ct : Nat} (h : tbl S2 H ct) (hc : ct ≤ 200) : ∃ s, s < 512 ∧ S2 s = 0 := by
  apply Classical.byContradiction
  intro q
  have nz : ∀ s, s < 512 → S2 s ≠ 0 := fun s hs e => q ⟨s, hs, e⟩
  have nd : ((List.range 512).map S2).Nodup := by
    unfold List.Nodup
    rw [List.pairwise_map]
    refine List.Pairwise.imp_of_mem ?_ (List.nodup_range (n := 512))
    intro a b' ha hb hab e
    exact hab (h.2.1 a b' (List.mem_range.1 ha) (List.mem_range.1 hb) (nz a (List.mem_range.1 ha)) e)
  have := nd_len 201 _ nd fun v hv => by
    obtain ⟨s, hs, e⟩ := List.mem_map.1 hv
    have := h.1 s (List.mem_range.1 hs)
    rw [← e]
    omega
  rw [List.length_map, List.length_range] at this
  omega
theorem sAt_all {s t : Nat} (hs : s < 512) (ht : t < 512) : ∃ i, i < 512 ∧ sAt s i = t := by
  refine ⟨(t + 512 - s) % 512, Nat.mod_lt _ (by omega), ?_⟩
  show (s + (t + 512 - s) % 512) % 512 = t
  omega
/-- the slot that is found -/
theorem slot_spec {ct : Nat} (h : tbl S2 H ct) (hc : ct ≤ 200) (hK : ∀ j, j < ct → lAk (Fb j) b mv gr 0 N → H j = hs) :
    ∃ i, i < 512 ∧ slF S2 H Fb b mv gr hs N 512 (sl0 hs) = (sAt (sl0 hs).toNat i : Nat) ∧ (∀ i', i' < i → S2 (sAt (sl0 hs).toNat i') ≠ 0) ∧
      (S2 (sAt (sl0 hs).toNat i) ≠ 0 ↔ ∃ j, j < ct ∧ lAk (Fb j) b mv gr 0 N) := by
  have r := sl0_rng hs
  obtain ⟨i, i1, i2, i3, i4⟩ := slF_spec (S2 := S2) (H := H) (Fb := Fb) (b := b) (mv := mv) (gr := gr) (hs := hs) (N := N) 512 (sl0 hs).toNat (by omega)
  rw [show (((sl0 hs).toNat : Nat) : Int) = sl0 hs by omega] at i2
  have lt : i < 512 := by
    apply Classical.byContradiction
    intro q
    obtain ⟨t, ht, e⟩ := tbl_free h hc
    obtain ⟨k, hk, ek⟩ := sAt_all (s := (sl0 hs).toNat) (by omega) ht
    have := (i3 k (by omega)).1
    rw [ek] at this
    exact this e
  refine ⟨i, lt, i2, fun i' h' => (i3 i' h').1, fun q => ?_, fun ⟨j, j1, j2⟩ q => ?_⟩
  · rcases i4 lt with w | w
    · exact absurd w q
    · have := h.1 (sAt (sl0 hs).toNat i) (Nat.mod_lt _ (by omega))
      exact ⟨_, by omega, w.2⟩
  · have hj := hK j j1 j2
    obtain ⟨k, k1, k2, k3⟩ := h.2.2 j j1
    rw [hj] at k2 k3
    have n0 : S2 (sAt (sl0 hs).toNat k) ≠ 0 := by omega
    have m : sMt S2 H Fb b mv gr hs N (sAt (sl0 hs).toNat k) := by
      unfold sMt
      rw [k2, show ((j : Int) + 1 - 1).toNat = j by omega]
      exact ⟨hj, j2⟩
    by_cases c1 : k < i
    · exact (i3 k c1).2 m
    · by_cases c2 : k = i
      · rw [c2] at n0; exact n0 q
      · exact k3 i (by omega) q
theorem tbl_add {ct : Nat} {t : Nat} {i : Nat} (h : tbl S2 H ct) (hi : i < 512) (ht : t = sAt (sl0 hs).toNat i) (h0 : S2 t = 0) (hp : ∀ i', i' < i → S2 (sAt (sl0 hs).toNat i') ≠ 0) : tbl (iU S2 t ((ct : Int) + 1)) (iU H ct hs) (ct + 1) := by
  obtain ⟨a1, a2, a3⟩ := h
  have tl : t < 512 := by rw [ht]; exact Nat.mod_lt _ (by omega)
  refine ⟨fun s hs' => ?_, fun s s' hs1 hs2 n0 e => ?_, fun j hj => ?_⟩
  · by_cases q : s = t
    · rw [q, iU_same]; omega
    · rw [iU_ne _ _ q]
      have := a1 s hs'
      omega
  · by_cases q : s = t
    · by_cases q' : s' = t
      · omega
      · rw [q, iU_same, iU_ne _ _ q'] at e
        have := a1 s' hs2
        omega
    · rw [iU_ne _ _ q] at n0 e
      by_cases q' : s' = t
      · rw [q', iU_same] at e
        have := a1 s hs1
        omega
      · rw [iU_ne _ _ q'] at e
        exact a2 s s' hs1 hs2 n0 e
  · by_cases q : j = ct
    · rw [q, iU_same]
      refine ⟨i, hi, by rw [← ht, iU_same], fun i' h' => ?_⟩
      by_cases e : sAt (sl0 hs).toNat i' = t
      · rw [e, iU_same]; omega
      · rw [iU_ne _ _ e]; exact hp i' h'
    · rw [iU_ne _ _ q]
      obtain ⟨k, k1, k2, k3⟩ := a3 j (by omega)
      refine ⟨k, k1, ?_, fun i' h' => ?_⟩
      · rw [iU_ne _ _ (fun e => by rw [e, h0] at k2; omega)]; exact k2
      · by_cases e : sAt (sl0 (H j)).toNat i' = t
        · rw [e, iU_same]; omega
        · rw [iU_ne _ _ e]; exact k3 i' h'
end ZRU
section ZRV
variable {G : Nat → Int} {σ : SS} {z y s : Int} {u m0 : Nat} {R0 : Nat → List Int} {f0 : Nat → Int} {D D' : Int → List Int → Prop}
abbrev cC (σ : SS) : Nat := (σ.1 1).toNat
abbrev cPos (G : Nat → Int) (σ : SS) (j : Nat) : List Int := pos (nC G) (σ.2.2 j 0)
/-- what the class keeps in order -/
def CB (G : Nat → Int) (σ : SS) : Prop := seU σ ∧ alJ (JJ G) σ ∧ (∀ j, j < cC σ → σ.2.1 0 j = nm (sS (σ.2.2 j 0) (nC G))) ∧ tbl (σ.2.1 2) (σ.2.1 0) (cC σ)
/-- the position that a move leads to -/
abbrev nxP (G : Nat → Int) (Y : Nat → Nat → Int) (z y : Int) : List Int := pos (nC G) (iU (Y 0) (Y 1 z.toNat).toNat (lGrd (Y 1) y))
theorem rHs_eq (h : σ.2.1 0 u = nm (sS (σ.2.2 u 0) (nC G))) (hc : (0 : Int) ≤ rCd σ.2.2 u z ∧ (rCd σ.2.2 u z).toNat < nC G) : rHs σ.2.1 σ.2.2 u z y = nm (sS (iU (σ.2.2 u 0) (σ.2.2 u 1 z.toNat).toNat (lGrd (σ.2.2 u 1) y)) (nC G)) := by
  have hc1 : (0 : Int) ≤ σ.2.2 u 1 z.toNat := hc.1
  have hc2 : (σ.2.2 u 1 z.toNat).toNat < nC G := hc.2
  unfold rHs rCd
  rw [h, sS_u _ hc2]
  generalize e : (σ.2.2 u 1 z.toNat) = cc at *
  rw [show (((cc.toNat : Nat)) : Int) = cc by omega]
  generalize sh cc (σ.2.2 u 0 cc.toNat) = a
  generalize sh cc (lGrd (σ.2.2 u 1) y) = d
  generalize sS (σ.2.2 u 0) (nC G) = v
  rw [show nm v - a + d = nm v + (d - a) by omega, nm_l]
  congr 1
  omega
theorem lAk_pos {b1 b : Nat → Int} {c n : Nat} {o : Int} : lAk b1 b c o 0 n ↔ pos n b1 = pos n (iU b c o) := by
  rw [pos_eq]
  refine ⟨fun w x hx => ?_, fun w x hx _ => ?_⟩
  · have := w x hx (by omega)
    rw [this]
    unfold iU
    by_cases q : x = c
    · rw [if_pos q, if_pos (by omega)]
    · rw [if_neg q, if_neg (by omega)]
  · rw [w x hx]
    unfold iU
    by_cases q : x = c
    · rw [if_pos q, if_pos (by omega)]
    · rw [if_neg q, if_neg (by omega)]
/-- what a move does to the search -/
theorem rc_spec (hG : gmV G) (h : CB G σ) (hu : u < cC σ) (hw : cPos G σ u ≠ wnP (nC G)) (hz : 0 ≤ z ∧ z < 12) (hy : 0 ≤ y ∧ y ≤ 12) (ho : lOne G (σ.2.2 u 1) (σ.2.2 u 2) z y) :
    (nxP G (σ.2.2 u) z y = wnP (nC G) → rc G σ u z y = (iU σ.1 3 (rSt σ.2.1 u z y), σ.2.1, σ.2.2)) ∧
    (nxP G (σ.2.2 u) z y ≠ wnP (nC G) → CB G (rc G σ u z y) ∧ (rc G σ u z y).1 3 = σ.1 3 ∧
      (((σ.1 2 = 1 ∨ ∃ j, j < cC σ ∧ cPos G σ j = nxP G (σ.2.2 u) z y) ∧ rc G σ u z y = σ) ∨
       (σ.1 2 ≠ 1 ∧ (∀ j, j < cC σ → cPos G σ j ≠ nxP G (σ.2.2 u) z y) ∧ σ.1 1 = σ.1 0 ∧ rc G σ u z y = (iU σ.1 2 1, σ.2.1, σ.2.2)) ∨
       (σ.1 2 ≠ 1 ∧ (∀ j, j < cC σ → cPos G σ j ≠ nxP G (σ.2.2 u) z y) ∧ σ.1 1 < σ.1 0 ∧ (rc G σ u z y).1 1 = σ.1 1 + 1 ∧ (rc G σ u z y).1 2 = σ.1 2 ∧
        (∀ j, j < cC σ → cPos G (rc G σ u z y) j = cPos G σ j ∧ (rc G σ u z y).2.1 1 j = σ.2.1 1 j) ∧ cPos G (rc G σ u z y) (cC σ) = nxP G (σ.2.2 u) z y ∧ (rc G σ u z y).2.1 1 (cC σ) = rSt σ.2.1 u z y))) := by
  have hA := gAll_rng hG
  have hn := nC_eq hG
  obtain ⟨h1, h2, h3, h4⟩ := h
  have hV := h1
  obtain ⟨v0, v1, v2, v3, v4, v5, v6, v7, v8⟩ := h1
  have ul : (u : Int) < σ.1 1 := by have : u < (σ.1 1).toNat := hu; omega
  obtain ⟨A, C, hS, hf⟩ := h2 u ul
  have hW : lyW (σ.2.2 u) := v8 u
  obtain ⟨c1, -⟩ := hS.may1 hG hW hz hy ho
  have sm := (hS.go hG hW hz hy ho).2.2
  have sr := hS.mv hG sm
  -- the end
  have cb : cY G (σ.2.2 u) (σ.2.2 u 1 z.toNat) z y 0 = iU (σ.2.2 u 0) (σ.2.2 u 1 z.toNat).toNat (lGrd (σ.2.2 u 1) y) := rfl
  have ca : cY G (σ.2.2 u) (σ.2.2 u 1 z.toNat) z y 3 1 = if y = 12 then σ.2.2 u 3 1 + 1 else σ.2.2 u 3 1 := by
    show cA (σ.2.2 u 3 1) z y = _
    unfold cA
    rw [if_neg (by omega)]
  have wn1 := srWon hG sr
  rw [ca] at wn1
  have wn0 := srWon hG hS
  have wn : (y = 12 ∧ σ.2.2 u 3 1 + 1 = gAll G) ↔ nxP G (σ.2.2 u) z y = wnP (nC G) := by
    show _ ↔ pos (nC G) (cY G (σ.2.2 u) (σ.2.2 u 1 z.toNat) z y 0) = wnP (nC G)
    rw [← wn1]
    by_cases q : y = 12
    · rw [if_pos q]; exact ⟨fun w => w.2, fun w => ⟨q, w⟩⟩
    · rw [if_neg q]
      exact ⟨fun w => absurd w.1 q, fun w => absurd (wn0.1 w) hw⟩
  refine ⟨fun q => rc_1 (wn.2 q), fun q => ?_⟩
  have nw : ¬ (y = 12 ∧ σ.2.2 u 3 1 + 1 = gAll G) := fun w => q (wn.1 w)
  have ok := okL_JJ hG _ (h2 u ul) hW z y hz hy ho
  have V' : seU (rc G σ u z y) := rc_V hG hV ul hz hy c1.1 ok.1 ok.2
  have J' : alJ (JJ G) (rc G σ u z y) := rc_J (stJ_JJ hG) hV ul hz hy ho h2
  have cc : (0 : Int) ≤ rCd σ.2.2 u z ∧ (rCd σ.2.2 u z).toNat < nC G := ⟨c1.1, by show (σ.2.2 u 1 z.toNat).toNat < nC G; omega⟩
  have hs := rHs_eq (y := y) (h3 u hu) cc
  -- the slot
  have K : ∀ j, j < cC σ → (lAk (σ.2.2 j 0) (σ.2.2 u 0) (rCd σ.2.2 u z) (lGrd (σ.2.2 u 1) y) 0 (nC G) ↔ cPos G σ j = nxP G (σ.2.2 u) z y) := fun j hj => by
    have e : rCd σ.2.2 u z = ((σ.2.2 u 1 z.toNat).toNat : Nat) := by show σ.2.2 u 1 z.toNat = _; omega
    rw [e]
    exact lAk_pos
  obtain ⟨i, i1, i2, i3, i4⟩ := slot_spec (Fb := fun j => σ.2.2 j 0) (b := σ.2.2 u 0) (mv := rCd σ.2.2 u z) (gr := lGrd (σ.2.2 u 1) y) (hs := rHs σ.2.1 σ.2.2 u z y) (N := nC G) h4 (by show (σ.1 1).toNat ≤ 200; omega) (fun j hj w => by
    rw [h3 j hj, hs]
    congr 1
    exact sS_c _ (pos_eq.1 ((K j hj).1 w)))
  have i2 : rSl G σ.2.1 σ.2.2 u z y = (sAt (sl0 (rHs σ.2.1 σ.2.2 u z y)).toNat i : Nat) := i2
  have i5 : σ.2.1 2 (rSl G σ.2.1 σ.2.2 u z y).toNat ≠ 0 ↔ ∃ j, j < cC σ ∧ cPos G σ j = nxP G (σ.2.2 u) z y := by
    rw [i2, show (((sAt (sl0 (rHs σ.2.1 σ.2.2 u z y)).toNat i : Nat)) : Int).toNat = sAt (sl0 (rHs σ.2.1 σ.2.2 u z y)).toNat i by omega, i4]
    exact ⟨fun ⟨j, a, d⟩ => ⟨j, a, (K j a).1 d⟩, fun ⟨j, a, d⟩ => ⟨j, a, (K j a).2 d⟩⟩
  by_cases t1 : σ.1 2 = 1
  · rw [rc_2 nw t1]
    exact ⟨⟨hV, h2, h3, h4⟩, rfl, Or.inl ⟨Or.inl t1, rfl⟩⟩
  by_cases t2 : σ.2.1 2 (rSl G σ.2.1 σ.2.2 u z y).toNat ≠ 0
  · rw [rc_3 nw t1 t2]
    exact ⟨⟨hV, h2, h3, h4⟩, rfl, Or.inl ⟨Or.inr (i5.1 t2), rfl⟩⟩
  have nk : ∀ j, j < cC σ → cPos G σ j ≠ nxP G (σ.2.2 u) z y := fun j hj e => t2 (i5.2 ⟨j, hj, e⟩)
  by_cases t3 : σ.1 0 ≤ σ.1 1
  · rw [rc_4 nw t1 t2 t3] at V' J' ⊢
    exact ⟨⟨V', J', h3, h4⟩, rfl, Or.inr (Or.inl ⟨t1, nk, by omega, rfl⟩)⟩
  · rw [rc_5 nw t1 t2 t3] at V' J' ⊢
    have cct : (σ.1 1).toNat = cC σ := rfl
    have ctI : (((cC σ) : Nat) : Int) = σ.1 1 := by show (((σ.1 1).toNat : Nat) : Int) = _; omega
    have c1' : ∀ (X : Nat → Nat → Nat → Int) (B : Nat → Nat → Int), cC (iU σ.1 1 (σ.1 1 + 1), B, X) = cC σ + 1 := fun X B => by
      show (iU σ.1 1 (σ.1 1 + 1) 1).toNat = (σ.1 1).toNat + 1
      rw [iU_same]; omega
    have nb : pos (nC G) (cY G (yCp (σ.2.2 u) (σ.2.2 (σ.1 1).toNat)) (rCd σ.2.2 u z) z y 0) = nxP G (σ.2.2 u) z y := pos_eq.2 fun x hx => by
      show iU (iCp (σ.2.2 u 0) (σ.2.2 (σ.1 1).toNat 0) 52) (σ.2.2 u 1 z.toNat).toNat (lGrd (iCp (σ.2.2 u 1) (σ.2.2 (σ.1 1).toNat 1) 12) y) x = iU (σ.2.2 u 0) (σ.2.2 u 1 z.toNat).toNat (lGrd (σ.2.2 u 1) y) x
      have eg : lGrd (iCp (σ.2.2 u 1) (σ.2.2 (σ.1 1).toNat 1) 12) y = lGrd (σ.2.2 u 1) y := by
        unfold lGrd
        by_cases q1 : y = 12
        · rw [if_pos q1, if_pos q1]
        · rw [if_neg q1, if_neg q1]
          by_cases q2 : 8 ≤ y
          · rw [if_pos q2, if_pos q2]
          · rw [if_neg q2, if_neg q2, iCp_lt (by omega)]
      rw [eg]
      by_cases e : x = (σ.2.2 u 1 z.toNat).toNat
      · rw [e, iU_same, iU_same]
      · rw [iU_ne _ _ e, iU_ne _ _ e, iCp_lt (by omega)]
    refine ⟨⟨V', J', fun j hj => ?_, ?_⟩, rfl, Or.inr (Or.inr ⟨t1, nk, by omega, iU_same σ.1 1 (σ.1 1 + 1), rfl, fun j hj => ⟨?_, ?_⟩, ?_, ?_⟩)⟩
    · rw [c1'] at hj
      show iU (σ.2.1 0) (σ.1 1).toNat (rHs σ.2.1 σ.2.2 u z y) j = nm (sS (fU σ.2.2 (σ.1 1).toNat _ j 0) (nC G))
      by_cases e : j = (σ.1 1).toNat
      · rw [e, iU_same, fU_same, hs]
        congr 1
        exact sS_c _ (pos_eq.1 nb.symm)
      · rw [iU_ne _ _ e, fUn _ e]
        exact h3 j (by omega)
    · rw [c1']
      have := tbl_add (t := (rSl G σ.2.1 σ.2.2 u z y).toNat) (hs := rHs σ.2.1 σ.2.2 u z y) h4 i1 (by rw [i2]; omega) (Classical.byContradiction t2) i3
      rw [ctI] at this
      exact this
    · show pos (nC G) (fU σ.2.2 (σ.1 1).toNat _ j 0) = _
      rw [fUn _ (by omega)]
    · show iU (σ.2.1 1) (σ.1 1).toNat _ j = _
      rw [iU_ne _ _ (by omega)]
    · show pos (nC G) (fU σ.2.2 (σ.1 1).toNat _ (σ.1 1).toNat 0) = _
      rw [fU_same]
      exact nb
    · exact iU_same (σ.2.1 1) (σ.1 1).toNat (rSt σ.2.1 u z y)
end ZRV
