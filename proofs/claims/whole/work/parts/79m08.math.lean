section ZRN
variable {G : Nat → Int} {Y A Y' A' P : Nat → Nat → Int} {N : Nat → Int} {C : Nat → List Int} {z y m c lo : Int} {k p : Nat}
/-- an allowed move is one -/
theorem SR.mvp (hG : gmV G) (hW : lyW Y) (h : SR G Y A C) (hz : gCol G z ∨ gCel G z) (hy : gPla G y) (hm : 1 ≤ m) (ha : mMay G A z y m) : mvP G z y m (mTp G A z) (lCard (Y 0) (Y 1) z (m - 1)) (C, A 2, A 3) := by
  have hG' := hG
  unfold gmV at hG'
  have hA := gAll_rng hG
  have hz' : gPla G z := by rcases hz with q | q; exact Or.inl q; exact Or.inr (Or.inl q)
  have tp := h.top hG hz
  unfold mMay at ha
  by_cases e : m = 1
  · rw [if_pos e] at ha
    have ha : mOn G A z y (mTp G A z) := ha
    unfold mOn at ha
    obtain ⟨a1, a2, a3⟩ := ha
    rw [tp] at a1 a3 ⊢
    have hcol : gCol G z → ∃ l, C z.toNat = Y 1 z.toNat :: l := fun q => by
      have := (h.1 z.toNat (by omega)).1
      cases hl : C z.toNat with
      | nil => rw [hl] at this; have this : Y 1 z.toNat = -1 := this; omega
      | cons a l => rw [hl] at this; rw [this.1]; exact ⟨l, rfl⟩
    have hcel : gCel G z → A 2 (z - 8).toNat = Y 1 z.toNat := fun q => by
      have a := (h.2.2.1 (z - 8).toNat (by omega)).1
      rw [show 8 + (z - 8).toNat = z.toNat by omega] at a
      exact a.symm
    have ca : Y 1 z.toNat < gAll G := by
      rcases hz with q | q
      · obtain ⟨l, hl⟩ := hcol q
        exact (h.mem hG (p := z.toNat) (by omega) _ (by rw [hl]; exact List.mem_cons_self ..)).2
      · rw [← hcel q]; exact (h.2.2.1 (z - 8).toNat (by omega)).2.1
    refine ⟨hz', hy, a2, hm, fun _ => ⟨⟨a1, ca⟩, ⟨fun q => by omega, fun q => ⟨hcel q, a1⟩, hcol⟩, ⟨fun q => ?_, fun q => ?_⟩, ?_⟩, fun q => absurd e q⟩
    · rw [if_pos q] at a3; exact a3
    · rw [if_neg (by omega), if_pos q] at a3
      have := (h.2.2.1 (y - 8).toNat (by omega)).2.2
      show A 2 (y - 8).toNat = -1
      omega
    · unfold lCard
      rw [if_neg (by omega), show (m - 1).toNat = 0 by omega]
      show (if Y 1 z.toNat < 0 then -1 else Y 1 z.toNat) = _
      rw [if_neg (by omega)]
  · rw [if_neg e] at ha
    obtain ⟨q1, q2, q3, r1, q5, r2, q6⟩ := ha
    obtain ⟨h1, h2, -⟩ := h.1 z.toNat (by omega)
    refine ⟨hz', hy, q3, hm, fun q => absurd q e, fun _ => ⟨q1, q2, by show m ≤ ((C z.toNat).length : Int); rw [← h2.1]; exact r1, ?_⟩⟩
    have n := h.nth (p := z.toNat) (k := m - 1) (by omega) (by omega)
    rw [show ((z.toNat : Nat) : Int) = z by omega] at n
    rw [n]
    have n2 := mFT_mcol (k := m - 1) h2 (by omega)
    rw [show ((z.toNat : Nat) : Int) = z by omega] at n2
    exact n2
theorem SR.ah (hG : gmV G) (h : SR G Y A C) {s : Nat} (hs : s < 4) : Y 3 1 ≤ 39 + A 3 s := by
  have hG' := hG
  unfold gmV at hG'
  rw [h.2.2.2.2.2.2.2.2]
  have a0 := h.2.2.2.2.1 0 (by omega)
  have a1 := h.2.2.2.2.1 1 (by omega)
  have a2 := h.2.2.2.2.1 2 (by omega)
  have a3 := h.2.2.2.2.1 3 (by omega)
  unfold mAH
  have : s = 0 ∨ s = 1 ∨ s = 2 ∨ s = 3 := by omega
  rcases this with rfl | rfl | rfl | rfl <;> omega
/-- what a move needs -/
theorem SR.mvok (hG : gmV G) (h : SR G Y A C) (hP : mvP G z y m c lo (C, A 2, A 3)) : (0 ≤ lo ∧ lo < gAll G) ∧ (z < 8 → -1 ≤ Y 0 lo.toNat) ∧ (z = 12 → 1 ≤ Y 2 (gSuit G lo).toNat) ∧ (y = 12 → Y 2 (gSuit G lo).toNat ≤ 12 ∧ Y 3 1 ≤ 51) ∧ okR G A z y m c ∧ m ≤ 52 ∧ 1 ≤ m := by
  have hG' := hG
  unfold gmV at hG'
  have hA := gAll_rng hG
  obtain ⟨h1, h2, h3, h4, h5, h6⟩ := hP
  by_cases e : m = 1
  · obtain ⟨g1, g2, g3, g4⟩ := h5 e
    subst g4
    have hs := gSuit_rng (c := lo) hG
    have e2 := (h.2.2.2.2.1 (gSuit G lo).toNat (by omega)).1
    have hcol : gCol G z → lo ∈ C z.toNat := fun q => by
      obtain ⟨l, hl⟩ := g2.2.2 q
      have hl : C z.toNat = lo :: l := hl
      rw [hl]; exact List.mem_cons_self ..
    have hS := (h.take hG h1 g2).1
    refine ⟨g1, fun q => ?_, fun q => ?_, fun q => ?_, ⟨h1, h2, fun _ => ⟨g1.1, by omega, fun q => ?_⟩, fun q => absurd e q⟩, by omega, by omega⟩
    · have zc : gCol G z := by rcases h1 with r | r | r; exact r; omega; omega
      obtain ⟨f1, -⟩ := h.c7 (x := lo.toNat) (by omega) (by omega)
      rw [show ((lo.toNat : Nat) : Int) = lo by omega] at f1
      exact f1.2 ⟨z.toNat, by omega, hcol zc⟩
    · have a := (g2.1 q).2
      have a : A 3 (gSuit G lo).toNat = gRank G lo := a
      have b := gRank_rng hG (c := lo) (by omega)
      omega
    · have a := g3.1 q
      have a : A 3 (gSuit G lo).toNat + 1 = gRank G lo := a
      have b := gRank_le hG g1
      have c := h.ah hG (s := (gSuit G lo).toNat) (by omega)
      omega
    · have l := hS.len hG (p := y.toNat) (by omega)
      have m := (hS.2.1 y.toNat (by omega)).2.1.1
      omega
  · obtain ⟨g1, g2, g3, g4⟩ := h6 e
    have g3 : m ≤ (C z.toNat).length := g3
    have hn : (m - 1).toNat < (C z.toNat).length := by omega
    have el : lo = (C z.toNat)[(m - 1).toNat] := by
      rw [g4]
      show ((C z.toNat)[(m - 1).toNat]?).getD (-1) = _
      rw [List.getElem?_eq_getElem hn]; rfl
    have hm : lo ∈ C z.toNat := by rw [el]; exact List.getElem_mem hn
    have hl := h.mem hG (p := z.toNat) (by omega) lo hm
    have two := h.two hG (p := z.toNat) (q := y.toNat) (by omega) (by omega) (by omega)
    have a1 := (h.1 z.toNat (by omega)).2.1.1
    have a2 := (h.1 y.toNat (by omega)).2.1.1
    refine ⟨hl, fun q => ?_, fun q => by omega, fun q => by omega, ⟨h1, h2, fun q => absurd q e, fun _ => ⟨by omega, g1, g2, h3, by omega, by omega⟩⟩, by omega, by omega⟩
    obtain ⟨f1, -⟩ := h.c7 (x := lo.toNat) (by omega) (by omega)
    rw [show ((lo.toNat : Nat) : Int) = lo by omega] at f1
    exact f1.2 ⟨z.toNat, by omega, hm⟩
/-- source, target, amount, uppermost, lowest -/
abbrev EE : Type := Int × Int × Int × Int × Int
/-- the moves that can be taken back, the latest first -/
def HX (G : Nat → Int) : List EE → XX → Prop
  | [], _ => True
  | e :: es, X => mvP G e.2.1 e.1 e.2.2.1 e.2.2.2.1 e.2.2.2.2 X ∧ HX G es (mvX G e.2.1 e.1 e.2.2.1 e.2.2.2.1 X)
theorem HX_take : ∀ (es : List EE) (n : Nat) (X : XX), HX G es X → HX G (es.take n) X := by
  intro es
  induction es with
  | nil => intro n X _; rw [List.take_nil]; trivial
  | cons e es ih =>
    intro n X h
    cases n with
    | zero => trivial
    | succ n => exact ⟨h.1, ih n _ h.2⟩
/-- where the k-th latest lies in the ring -/
abbrev ixR (P : Nat → Nat → Int) (k : Nat) : Nat := ((P 4 0).toNat + 59 - k) % 60
def LR (P : Nat → Nat → Int) (N : Nat → Int) (A : Nat → Nat → Int) (es : List EE) : Prop :=
  (P 4 1 = es.length ∧ N 1 = es.length ∧ es.length ≤ 60 ∧ 0 ≤ P 4 0 ∧ P 4 0 < 60) ∧
  ∀ k (hk : k < es.length), (P 1 (ixR P k) = es[k].1 ∧ P 2 (ixR P k) = es[k].2.1 ∧ P 3 (ixR P k) = es[k].2.2.1 ∧ P 0 (ixR P k) = es[k].2.2.2.2) ∧
    (A 6 (4 * (es.length - 1 - k)) = es[k].1 ∧ A 6 (4 * (es.length - 1 - k) + 1) = es[k].2.1 ∧ A 6 (4 * (es.length - 1 - k) + 2) = es[k].2.2.1 ∧ A 6 (4 * (es.length - 1 - k) + 3) = es[k].2.2.2.1)
theorem LR.nil {P : Nat → Nat → Int} (h1 : P 4 0 = 0) (h2 : P 4 1 = 0) (h3 : N 1 = 0) : LR P N A [] :=
  ⟨⟨h2, h3, by show 0 ≤ 60; omega, by omega, by omega⟩, fun k hk => by cases hk⟩
theorem LR.keep {N' : Nat → Int} {es : List EE} (h : LR P N A es) (hN : N' 1 = N 1) (hA : A' 6 = A 6) : LR P N' A' es := by
  obtain ⟨⟨h1, h2, h3, h4, h5⟩, h6⟩ := h
  refine ⟨⟨h1, hN.trans h2, h3, h4, h5⟩, ?_⟩
  rw [hA]
  exact h6
theorem LR.back {es : List EE} {e : EE} {N' : Nat → Int} (h : LR P N A (e :: es)) (hN : N' 1 = N 1 - 1) (hA : A' 6 = A 6) : LR (pN P (lgPv (P 4 0)) (P 4 1 - 1)) N' A' es := by
  obtain ⟨⟨h1, h2, h3, h4, h5⟩, h6⟩ := h
  have el : (e :: es).length = es.length + 1 := rfl
  have p0 : pN P (lgPv (P 4 0)) (P 4 1 - 1) 4 0 = lgPv (P 4 0) := rfl
  have pv : lgPv (P 4 0) = if 0 < P 4 0 then P 4 0 - 1 else 59 := rfl
  refine ⟨⟨?_, by omega, by omega, ?_, ?_⟩, fun k hk => ?_⟩
  · show P 4 1 - 1 = _
    omega
  · rw [p0, pv]; split <;> omega
  · rw [p0, pv]; split <;> omega
  · have := h6 (k + 1) (by omega)
    have ei : ixR (pN P (lgPv (P 4 0)) (P 4 1 - 1)) k = ixR P (k + 1) := by
      show ((lgPv (P 4 0)).toNat + 59 - k) % 60 = ((P 4 0).toNat + 59 - (k + 1)) % 60
      rw [pv]
      split <;> omega
    rw [ei, hA]
    have e2 : (e :: es).length - 1 - (k + 1) = es.length - 1 - k := by omega
    rw [e2] at this
    exact this
theorem LR.first {es : List EE} {e : EE} (h : LR P N A (e :: es)) : ixR P 0 = (lgPv (P 4 0)).toNat := by
  obtain ⟨⟨h1, h2, h3, h4, h5⟩, h6⟩ := h
  show ((P 4 0).toNat + 59 - 0) % 60 = (if 0 < P 4 0 then P 4 0 - 1 else 59 : Int).toNat
  split <;> omega
/-- a move is noted -/
theorem LR.note {es : List EE} {N' : Nat → Int} (h : LR P N A es) (hN : N' 1 = mLg N + 1) (hA : A' 6 = mLa (mLr N A) (mLg N) z y m c) : LR (pNt P lo z y m) N' A' ((z, y, m, c, lo) :: es.take 59) := by
  obtain ⟨⟨h1, h2, h3, h4, h5⟩, h6⟩ := h
  have tl : (es.take 59).length = if es.length = 60 then 59 else es.length := by rw [List.length_take]; split <;> omega
  have el : ((z, y, m, c, lo) :: es.take 59).length = (es.take 59).length + 1 := rfl
  have lg : mLg N = (es.take 59).length := by
    show (if N 1 = 60 then 59 else N 1) = _
    rw [tl]
    split <;> split <;> omega
  have tb : (es.take 59).length ≤ 59 := by rw [tl]; split <;> omega
  have nx : pNt P lo z y m 4 0 = lgNx (P 4 0) := rfl
  have nxe : lgNx (P 4 0) = if P 4 0 + 1 < 60 then P 4 0 + 1 else 0 := rfl
  have ct : pNt P lo z y m 4 1 = lgCt (P 4 1) := rfl
  have cte : lgCt (P 4 1) = if 60 < P 4 1 + 1 then 60 else P 4 1 + 1 := rfl
  refine ⟨⟨?_, by omega, by omega, ?_, ?_⟩, fun k hk => ?_⟩
  · rw [ct, cte, el, tl]
    split <;> split <;> omega
  · rw [nx, nxe]; split <;> omega
  · rw [nx, nxe]; split <;> omega
  · have wr : ∀ j (f : Nat → Int), mLa f (mLg N) z y m c j = if j = 4 * (es.take 59).length then z else if j = 4 * (es.take 59).length + 1 then y else if j = 4 * (es.take 59).length + 2 then m else if j = 4 * (es.take 59).length + 3 then c else f j := fun j f => by
      unfold mLa
      rw [lg]
      generalize (es.take 59).length = n
      rw [show (4 * (n : Int)).toNat = 4 * n by omega, show (4 * (n : Int) + 1).toNat = 4 * n + 1 by omega, show (4 * (n : Int) + 2).toNat = 4 * n + 2 by omega, show (4 * (n : Int) + 3).toNat = 4 * n + 3 by omega]
      by_cases e3 : j = 4 * n + 3
      · rw [e3, iU_same, if_neg (by omega), if_neg (by omega), if_neg (by omega), if_pos rfl]
      · rw [iU_ne _ _ e3]
        by_cases e2 : j = 4 * n + 2
        · rw [e2, iU_same, if_neg (by omega), if_neg (by omega), if_pos rfl]
        · rw [iU_ne _ _ e2]
          by_cases e1 : j = 4 * n + 1
          · rw [e1, iU_same, if_neg (by omega), if_pos rfl]
          · rw [iU_ne _ _ e1]
            by_cases e0 : j = 4 * n
            · rw [e0, iU_same, if_pos rfl]
            · rw [iU_ne _ _ e0, if_neg e0, if_neg e1, if_neg e2, if_neg e3]
    rw [hA]
    cases k with
    | zero =>
      have ei : ixR (pNt P lo z y m) 0 = (P 4 0).toNat := by
        show ((lgNx (P 4 0)).toNat + 59 - 0) % 60 = _
        rw [nxe]
        split <;> omega
      rw [ei]
      have ei2 : ((z, y, m, c, lo) :: es.take 59).length - 1 - 0 = (es.take 59).length := by omega
      rw [ei2, wr, wr, wr, wr]
      refine ⟨⟨iU_same .., iU_same .., iU_same .., iU_same ..⟩, if_pos rfl, ?_, ?_, ?_⟩
      · rw [if_neg (by omega), if_pos rfl]; rfl
      · rw [if_neg (by omega), if_neg (by omega), if_pos rfl]; rfl
      · rw [if_neg (by omega), if_neg (by omega), if_neg (by omega), if_pos rfl]; rfl
    | succ k =>
      have hk1 : k < (es.take 59).length := by omega
      have hk2 : k < es.length := by rw [tl] at hk1; split at hk1 <;> omega
      have ek : ((z, y, m, c, lo) :: es.take 59)[k + 1] = es[k] := by
        rw [List.getElem_cons_succ, List.getElem_take]
      have ei : ixR (pNt P lo z y m) (k + 1) = ixR P k := by
        show ((lgNx (P 4 0)).toNat + 59 - (k + 1)) % 60 = ((P 4 0).toNat + 59 - k) % 60
        rw [nxe]
        split <;> omega
      have en : ixR P k ≠ (P 4 0).toNat := by
        show ((P 4 0).toNat + 59 - k) % 60 ≠ _
        omega
      obtain ⟨g1, g2⟩ := h6 k hk2
      rw [ek, ei]
      have e2 : ((z, y, m, c, lo) :: es.take 59).length - 1 - (k + 1) = (es.take 59).length - 1 - k := by omega
      rw [e2]
      refine ⟨⟨?_, ?_, ?_, ?_⟩, ?_⟩
      · show iU (P 1) _ _ _ = _
        rw [iU_ne _ _ en]; exact g1.1
      · show iU (P 2) _ _ _ = _
        rw [iU_ne _ _ en]; exact g1.2.1
      · show iU (P 3) _ _ _ = _
        rw [iU_ne _ _ en]; exact g1.2.2.1
      · show iU (P 0) _ _ _ = _
        rw [iU_ne _ _ en]; exact g1.2.2.2
      · have sh : ∀ r, r < 4 → mLr N A (4 * ((es.take 59).length - 1 - k) + r) = A 6 (4 * (es.length - 1 - k) + r) := fun r hr => by
          unfold mLr
          by_cases q : N 1 = 60
          · rw [if_pos q]
            rw [if_pos (by omega)] at tl
            unfold mSh
            rw [if_pos (by omega)]
            congr 1
            omega
          · rw [if_neg q]
            rw [if_neg (by omega)] at tl
            rw [tl]
        have nw : ∀ r, r < 4 → mLa (mLr N A) (mLg N) z y m c (4 * ((es.take 59).length - 1 - k) + r) = A 6 (4 * (es.length - 1 - k) + r) := fun r hr => by
          rw [wr, if_neg (by omega), if_neg (by omega), if_neg (by omega), if_neg (by omega)]
          exact sh r hr
        exact ⟨(nw 0 (by omega)).trans g2.1, (nw 1 (by omega)).trans g2.2.1, (nw 2 (by omega)).trans g2.2.2.1, (nw 3 (by omega)).trans g2.2.2.2⟩
end ZRN
