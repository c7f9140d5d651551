section ZRM
variable {G : Nat → Int} {Y A Y' A' : Nat → Nat → Int} {C : Nat → List Int} {z y m c lo : Int} {k p : Nat}
/-- columns, cells, home -/
abbrev XX : Type := (Nat → List Int) × (Nat → Int) × (Nat → Int)
def tkE (G : Nat → Int) (z : Int) (E : Nat → Int) : Nat → Int := if gCel G z then iU E (z - 8).toNat (-1) else E
def gvE (G : Nat → Int) (y c : Int) (E : Nat → Int) : Nat → Int := if gCel G y then iU E (y - 8).toNat c else E
def tkH (G : Nat → Int) (z c : Int) (H : Nat → Int) : Nat → Int := if z = 12 then iU H (gSuit G c).toNat (H (gSuit G c).toNat - 1) else H
def gvH (G : Nat → Int) (y c : Int) (H : Nat → Int) : Nat → Int := if y = 12 then iU H (gSuit G c).toNat (H (gSuit G c).toNat + 1) else H
def mvX (G : Nat → Int) (z y m c : Int) (X : XX) : XX := if m = 1 then (gvC y c (tkC z X.1), gvE G y c (tkE G z X.2.1), gvH G y c (tkH G z c X.2.2)) else (rowC z y m X.1, X.2)
def mvP (G : Nat → Int) (z y m c lo : Int) (X : XX) : Prop := gPla G z ∧ gPla G y ∧ z ≠ y ∧ 1 ≤ m ∧ (m = 1 → (0 ≤ c ∧ c < gAll G) ∧ tkP G X.1 X.2.1 X.2.2 z c ∧ gvP G X.2.1 X.2.2 y c ∧ lo = c) ∧ (m ≠ 1 → gCol G z ∧ gCol G y ∧ m ≤ (X.1 z.toNat).length ∧ lo = ((X.1 z.toNat)[(m - 1).toNat]?).getD (-1))
theorem SR.tops (h : SR G Y A C) (hz : gPla G z) (hG : gmV G) (ht : tkP G C (A 2) (A 3) z c) : z = 12 ∨ Y 1 z.toNat = c := by
  have hG' := hG
  unfold gmV at hG'
  rcases hz with hz | hz | hz
  · obtain ⟨l, hl⟩ := ht.2.2 hz
    have := (h.1 z.toNat (by omega)).1
    rw [hl] at this
    exact Or.inr this.1
  · have a := (h.2.2.1 (z - 8).toNat (by omega)).1
    rw [show 8 + (z - 8).toNat = z.toNat by omega] at a
    exact Or.inr (a.trans (ht.2.1 hz).1)
  · exact Or.inl hz
theorem split_at {l : List Int} {n : Nat} (h : n < l.length) : l = l.take n ++ l[n] :: l.drop (n + 1) := by
  rw [← List.drop_eq_getElem_cons h, List.take_append_drop]
theorem mBr_23 (hG : gmV G) (hz : gPla G z) (hy : gPla G y) (hm : 1 ≤ m) (hc : m ≠ 1 → gCol G z ∧ gCol G y ∧ z ≠ y) : mBr G A z y m c 2 = (mvX G z y m c (C, A 2, A 3)).2.1 ∧ mBr G A z y m c 3 = (mvX G z y m c (C, A 2, A 3)).2.2 := by
  have hG' := hG
  unfold gmV at hG'
  unfold mBr mvX
  by_cases e : m = 1
  · rw [if_pos e, if_pos e]
    show mGv G (mTk G A z c) y c 2 = gvE G y c (tkE G z (A 2)) ∧ mGv G (mTk G A z c) y c 3 = gvH G y c (tkH G z c (A 3))
    have t2 : mTk G A z c 2 = tkE G z (A 2) := by
      unfold mTk tkE
      by_cases q : z = 12
      · rw [if_pos q, if_neg (by omega)]; rfl
      · rw [if_neg q]
        by_cases q2 : gCel G z
        · rw [if_pos q2, if_pos q2]; rfl
        · rw [if_neg q2, if_neg q2]; rfl
    have t3 : mTk G A z c 3 = tkH G z c (A 3) := by
      unfold mTk tkH
      by_cases q : z = 12
      · rw [if_pos q, if_pos q]; rfl
      · rw [if_neg q, if_neg q]
        split <;> rfl
    rw [← t2, ← t3]
    generalize mTk G A z c = B
    constructor
    · unfold mGv gvE
      by_cases q : y = 12
      · rw [if_pos q, if_neg (by omega)]; rfl
      · rw [if_neg q]
        by_cases q2 : gCel G y
        · rw [if_pos q2, if_pos q2]; rfl
        · rw [if_neg q2, if_neg q2]; rfl
    · unfold mGv gvH
      by_cases q : y = 12
      · rw [if_pos q, if_pos q]; rfl
      · rw [if_neg q, if_neg q]
        split <;> rfl
  · rw [if_neg e, if_neg e]
    have bl : ∀ (k : Nat) (B : Nat → Nat → Int) (i : Nat), 2 ≤ i → mBl z y k B i = B i := by
      intro k
      induction k with
      | zero => intro B i _; rfl
      | succ k ih =>
        intro B i hi
        show mBl z y k (mPu B y (mFT B z k)) i = B i
        rw [ih _ i hi]
        show fU (fU B 0 _) 1 _ i = B i
        rw [fUn _ (by omega), fUn _ (by omega)]
    exact ⟨bl _ _ 2 (by omega), bl _ _ 3 (by omega)⟩
/-- a move keeps the relation -/
theorem SR.mv (hG : gmV G) (h : SR G Y A C) (hP : mvP G z y m c lo (C, A 2, A 3)) : SR G (cY G Y lo z y) (mBr G A z y m c) (mvX G z y m c (C, A 2, A 3)).1 := by
  have hG' := hG
  unfold gmV at hG'
  obtain ⟨h1, h2, h3, h4, h5, h6⟩ := hP
  unfold mBr mvX
  by_cases e : m = 1
  · rw [if_pos e, if_pos e]
    obtain ⟨g1, g2, g3, g4⟩ := h5 e
    subst g4
    exact h.single hG h1 h2 h3 g2 g3 (h.tops h1 hG g2)
  · rw [if_neg e, if_neg e]
    obtain ⟨g1, g2, g3, g4⟩ := h6 e
    have g3 : m ≤ (C z.toNat).length := g3
    have hn : (m - 1).toNat < (C z.toNat).length := by omega
    have s := split_at hn
    have el : lo = (C z.toNat)[(m - 1).toNat] := by
      rw [g4]
      show ((C z.toNat)[(m - 1).toNat]?).getD (-1) = _
      rw [List.getElem?_eq_getElem hn]; rfl
    rw [← el] at s
    exact h.rowm hG g1 g2 h3 s (by rw [List.length_take]; omega)
theorem iU_back {f : Nat → Int} {n : Nat} {v : Int} (h : f n = v) (u : Int) : iU (iU f n u) n v = f := by
  funext j
  by_cases e : j = n
  · subst e; rw [iU_same, h]
  · rw [iU_ne _ _ e, iU_ne _ _ e]
theorem iU_sw {f : Nat → Int} {n n' : Nat} {u v : Int} (h : n ≠ n') : iU (iU f n u) n' v = iU (iU f n' v) n u := by
  funext j
  by_cases e : j = n
  · subst e; rw [iU_ne _ _ h, iU_same, iU_same]
  · by_cases e' : j = n'
    · subst e'; rw [iU_same, iU_ne _ _ e, iU_same]
    · rw [iU_ne _ _ e', iU_ne _ _ e, iU_ne _ _ e, iU_ne _ _ e']
/-- a move can be taken back -/
theorem mv_back (hG : gmV G) {X : XX} (hP : mvP G z y m c lo X) : mvP G y z m c lo (mvX G z y m c X) ∧ mvX G y z m c (mvX G z y m c X) = X := by
  have hG' := hG
  unfold gmV at hG'
  obtain ⟨C, E, H⟩ := X
  obtain ⟨h1, h2, h3, h4, h5, h6⟩ := hP
  unfold mvX
  by_cases e : m = 1
  · rw [if_pos e, if_pos e]
    obtain ⟨g1, ⟨g2, g3, g4⟩, ⟨g5, g6⟩, g7⟩ := h5 e
    have g2 : z = 12 → (0 ≤ c ∧ c < gAll G) ∧ H (gSuit G c).toNat = gRank G c := g2
    have g3 : gCel G z → E (z - 8).toNat = c ∧ 0 ≤ c := g3
    have g4 : gCol G z → ∃ l, C z.toNat = c :: l := g4
    have g5 : y = 12 → H (gSuit G c).toNat + 1 = gRank G c := g5
    have g6 : gCel G y → E (y - 8).toNat = -1 := g6
    refine ⟨⟨h2, h1, fun q => h3 q.symm, h4, fun _ => ⟨g1, ⟨fun q => ⟨g1, ?_⟩, fun q => ⟨?_, g1.1⟩, fun q => ?_⟩, ⟨fun q => ?_, fun q => ?_⟩, g7⟩, fun q => absurd e q⟩, ?_⟩
    · show gvH G y c (tkH G z c H) (gSuit G c).toNat = _
      unfold gvH tkH
      rw [if_pos q, iU_same, if_neg (by omega)]
      exact g5 q
    · show gvE G y c (tkE G z E) (y - 8).toNat = _
      unfold gvE
      rw [if_pos q, iU_same]
    · show ∃ l, gvC y c (tkC z C) y.toNat = c :: l
      unfold gvC
      rw [if_pos (by omega), fU_same]
      exact ⟨_, rfl⟩
    · show gvH G y c (tkH G z c H) (gSuit G c).toNat + 1 = _
      unfold gvH tkH
      rw [if_neg (by omega), if_pos q, iU_same, (g2 q).2]
      omega
    · show gvE G y c (tkE G z E) (z - 8).toNat = -1
      unfold gvE tkE
      rw [if_pos q]
      split
      · rw [iU_ne _ _ (by omega), iU_same]
      · rw [iU_same]
    · show (gvC z c (tkC y (gvC y c (tkC z C))), gvE G z c (tkE G y (gvE G y c (tkE G z E))), gvH G z c (tkH G y c (gvH G y c (tkH G z c H)))) = (C, E, H)
      have eC : gvC z c (tkC y (gvC y c (tkC z C))) = C := by
        have a : tkC y (gvC y c (tkC z C)) = tkC z C := by
          generalize tkC z C = D
          unfold tkC gvC
          by_cases q : y < 8
          · rw [if_pos q, if_pos q, fU_same]
            show fU (fU D y.toNat (c :: D y.toNat)) y.toNat (D y.toNat) = D
            rw [fU_fU, fU_id]
          · rw [if_neg q, if_neg q]
        rw [a]
        unfold tkC gvC
        by_cases q : z < 8
        · obtain ⟨l, hl⟩ := g4 (by rcases h1 with h1 | h1 | h1; exact h1; omega; omega)
          rw [if_pos q, if_pos q, fU_same, hl]
          show fU (fU C z.toNat l) z.toNat (c :: l) = C
          rw [fU_fU, ← hl, fU_id]
        · rw [if_neg q, if_neg q]
      have eE : gvE G z c (tkE G y (gvE G y c (tkE G z E))) = E := by
        have a : tkE G y (gvE G y c (tkE G z E)) = tkE G z E := by
          have : gCel G y → tkE G z E (y - 8).toNat = -1 := fun q => by
            unfold tkE
            split
            · rw [iU_ne _ _ (by omega)]; exact g6 q
            · exact g6 q
          generalize tkE G z E = D at *
          unfold tkE gvE
          by_cases q : gCel G y
          · rw [if_pos q, if_pos q, iU_back (this q)]
          · rw [if_neg q, if_neg q]
        rw [a]
        unfold tkE gvE
        by_cases q : gCel G z
        · rw [if_pos q, if_pos q, iU_back (g3 q).1]
        · rw [if_neg q, if_neg q]
      have eH : gvH G z c (tkH G y c (gvH G y c (tkH G z c H))) = H := by
        have a : tkH G y c (gvH G y c (tkH G z c H)) = tkH G z c H := by
          generalize tkH G z c H = D
          unfold tkH gvH
          by_cases q : y = 12
          · rw [if_pos q, if_pos q, iU_same]
            exact iU_back (by omega) _
          · rw [if_neg q, if_neg q]
        rw [a]
        unfold tkH gvH
        by_cases q : z = 12
        · rw [if_pos q, if_pos q, iU_same]
          exact iU_back (by omega) _
        · rw [if_neg q, if_neg q]
      rw [eC, eE, eH]
  · rw [if_neg e, if_neg e]
    obtain ⟨g1, g2, g3, g4⟩ := h6 e
    have g3 : m ≤ (C z.toNat).length := g3
    have g4 : lo = ((C z.toNat)[(m - 1).toNat]?).getD (-1) := g4
    have ey : rowC z y m C y.toNat = (C z.toNat).take m.toNat ++ C y.toNat := by unfold rowC; rw [fU_same]
    have ez : rowC z y m C z.toNat = (C z.toNat).drop m.toNat := by unfold rowC; rw [fUn _ (by omega), fU_same]
    have tl : ((C z.toNat).take m.toNat).length = m.toNat := by rw [List.length_take]; omega
    refine ⟨⟨h2, h1, fun q => h3 q.symm, h4, fun q => absurd q e, fun _ => ⟨g2, g1, ?_, ?_⟩⟩, ?_⟩
    · show m ≤ ((rowC z y m C y.toNat).length : Int)
      rw [ey, List.length_append, tl]
      omega
    · show lo = ((rowC z y m C y.toNat)[(m - 1).toNat]?).getD (-1)
      rw [ey, List.getElem?_append_left (by omega), List.getElem?_take, if_pos (by omega)]
      exact g4
    · show (rowC y z m (rowC z y m C), E, H) = (C, E, H)
      have : rowC y z m (rowC z y m C) = C := by
        have e0 : rowC y z m (rowC z y m C) = fU (fU (rowC z y m C) y.toNat ((rowC z y m C y.toNat).drop m.toNat)) z.toNat ((rowC z y m C y.toNat).take m.toNat ++ rowC z y m C z.toNat) := rfl
        rw [e0, ey, ez, List.drop_left' tl, List.take_left' tl, List.take_append_drop]
        funext j
        by_cases q : j = z.toNat
        · rw [q, fU_same]
        · rw [fUn _ q]
          by_cases q2 : j = y.toNat
          · rw [q2, fU_same]
          · rw [fUn _ q2]
            unfold rowC
            rw [fUn _ q2, fUn _ q]
      rw [this]
end ZRM
