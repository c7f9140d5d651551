section ZSH
variable {G N N' : Nat → Int} {A A' Y : Nat → Nat → Int} {C : Nat → List Int} {T : TT} {z y m c k u lo : Int} {es : List EE}
/-- table and reference stand alike -/
def RT (T : TT) (N : Nat → Int) (A : Nat → Nat → Int) : Prop := ptV T ∧ (mtV A ∧ msV N A ∧ (N 6 = 0 ∨ N 6 = 1) ∧ (N 7 = 0 ∨ N 7 = 1) ∧ ∀ j, 8 ≤ j → A 1 j ≤ 0) ∧
  ((-1 ≤ T.hi ∧ T.hi ≤ 300) ∧ (0 ≤ T.S.1 4 ∧ T.S.1 4 ≤ 200) ∧ T.hi = N 2 ∧ T.S.1 4 = N 3) ∧ ∃ C es, SR T.G T.Y A C ∧ LR T.P N A es ∧ HX T.G es (C, A 2, A 3) ∧ (es ≠ [] → T.Y 3 0 = gAll T.G)
theorem msV_N (h : msV N A) (h8 : N' 8 = N 8) (h9 : N' 9 = N 9) (hA : ∀ i, 7 ≤ i → A' i = A i) : msV N' A' := by
  unfold msV at h ⊢
  rw [h8, h9, hA 7 (by omega), hA 8 (by omega), hA 9 (by omega), hA 10 (by omega), hA 11 (by omega), hA 12 (by omega)]
  exact h
theorem RT.n0 {v : Int} (h : RT T N A) : RT T (iU N 0 v) A := by
  obtain ⟨h1, ⟨a1, a2, a3, a4, a5⟩, h3, C, es, b1, b2, b3⟩ := h
  exact ⟨h1, ⟨a1, msV_N a2 rfl rfl fun _ _ => rfl, a3, a4, a5⟩, h3, C, es, b1, b2.keep rfl rfl, b3⟩
/-- ranges after a move -/
theorem cY_W (hW : lyW Y) (hc : 0 ≤ c ∧ c ≤ 51) (h1 : z < 8 → -1 ≤ Y 0 c.toNat) (h2 : z = 12 → 1 ≤ Y 2 (gSuit G c).toNat ∧ 1 ≤ Y 3 1) (h3 : y = 12 → Y 2 (gSuit G c).toNat ≤ 12 ∧ Y 3 1 ≤ 51) : lyW (cY G Y c z y) := by
  obtain ⟨v1, v2, v3, v4, v5⟩ := hW
  refine ⟨iU_rng v1 ?_, ?_, ?_, v4, ?_⟩
  · have := v2 y.toNat
    unfold lGrd
    split
    · omega
    · split <;> omega
  · have b : (-1 : Int) ≤ (if 8 ≤ z then -1 else Y 0 c.toNat) ∧ (if 8 ≤ z then -1 else Y 0 c.toNat) ≤ 51 := by
      have := v1 c.toNat
      split <;> omega
    show ∀ j, -1 ≤ cT (Y 0) (Y 1) c z y j ∧ cT (Y 0) (Y 1) c z y j ≤ 51
    unfold cT
    by_cases e : y = 12
    · rw [if_pos e]
      by_cases e2 : z = 12
      · rw [if_pos e2]; exact v2
      · rw [if_neg e2]; exact iU_rng v2 b
    · rw [if_neg e]
      by_cases e2 : z = 12
      · rw [if_pos e2]; exact iU_rng v2 (by omega)
      · rw [if_neg e2]; exact iU_rng (iU_rng v2 b) (v2 _)
  · have := v3 (gSuit G c).toNat
    show ∀ j, 0 ≤ cH G (Y 2) c z y j ∧ cH G (Y 2) c z y j ≤ 13
    unfold cH
    by_cases e : z = 12
    · rw [if_pos e]; exact iU_rng v3 (by have := h2 e; omega)
    · rw [if_neg e]
      by_cases e2 : y = 12
      · rw [if_pos e2]; exact iU_rng v3 (by have := h3 e2; omega)
      · rw [if_neg e2]; exact v3
  · show 0 ≤ cA (Y 3 1) z y ∧ cA (Y 3 1) z y ≤ 52
    unfold cA
    by_cases e : z = 12
    · rw [if_pos e]; have := h2 e; omega
    · rw [if_neg e]
      by_cases e2 : y = 12
      · rw [if_pos e2]; have := h3 e2; omega
      · rw [if_neg e2]; omega
theorem mBl_V : ∀ (k : Nat) (A : Nat → Nat → Int), mtV A → (∀ j, j < k → (j : Int) < A 1 z.toNat) → A 1 y.toNat + k ≤ 52 → z.toNat ≠ y.toNat → mtV (mBl z y k A) ∧ ∀ j, j ≠ y.toNat → mBl z y k A 1 j = A 1 j := by
  intro k
  induction k with
  | zero => intro A h _ _ _; exact ⟨h, fun _ _ => rfl⟩
  | succ k ih =>
    intro A h h1 h2 h3
    have e1 : ∀ j, j ≠ y.toNat → mPu A y (mFT A z k) 1 j = A 1 j := fun j hj => by
      show iU (A 1) y.toNat _ j = _
      exact iU_ne _ _ hj
    have e2 : mPu A y (mFT A z k) 1 y.toNat = A 1 y.toNat + 1 := by
      show iU (A 1) y.toNat _ y.toNat = _
      rw [iU_same]
    have f := mFT_in (z := z) (k := (k : Int)) h (h1 k (by omega))
    have V := mPu_V (z := y) (c := mFT A z k) h f (by omega)
    obtain ⟨i1, i2⟩ := ih (mPu A y (mFT A z k)) V (fun j hj => by rw [e1 _ h3]; exact h1 j (by omega)) (by rw [e2]; omega) h3
    exact ⟨i1, fun j hj => (i2 j hj).trans (e1 j hj)⟩
theorem mBr_V (hG : gmV G) (hV : mtV A) (h8 : ∀ j, 8 ≤ j → A 1 j ≤ 0) (h : SR G Y A C) (hP : mvP G z y m c lo (C, A 2, A 3)) : mtV (mBr G A z y m c) ∧ ∀ j, 8 ≤ j → mBr G A z y m c 1 j ≤ 0 := by
  have hG' := hG
  unfold gmV at hG'
  have hAl := gAll_rng hG
  obtain ⟨o0, o1, o2, o3, o4, o5, o6⟩ := h.mvok hG hP
  obtain ⟨p1, p2, p3, p4, p5, p6⟩ := hP
  unfold mBr
  by_cases e : m = 1
  · rw [if_pos e]
    obtain ⟨q1, q2, q3, q4⟩ := p5 e
    subst q4
    have sr := gSuit_rng (c := lo) hG
    have e2 := (h.2.2.2.2.1 (gSuit G lo).toNat (by omega)).1
    have V1 : mtV (mTk G A z lo) := mTk_V hV (fun w => by have := o2 w; omega) (fun w => by
      obtain ⟨l, hl⟩ := q2.2.2 w
      have hl : C z.toNat = lo :: l := hl
      have := (h.1 z.toNat (by omega)).2.1.1
      rw [hl] at this
      have e3 : (lo :: l).length = l.length + 1 := rfl
      omega) p1
    have t3 : y = 12 → mTk G A z lo 3 = A 3 := fun w => by
      unfold mTk
      rw [if_neg (by omega)]
      split <;> rfl
    have ok := o4.2.2.1 e
    have V2 := mGv_V (G := G) (y := y) (c := lo) V1 (by omega) (fun w => by rw [t3 w]; have := o3 w; omega) (fun w => (ok.2.2 w).2) p2
    refine ⟨V2, fun j hj => ?_⟩
    have k1 : mTk G A z lo 1 j ≤ 0 := by
      unfold mTk
      split
      · exact h8 j hj
      · split
        · exact h8 j hj
        · rename_i w1 w2
          show iU (A 1) z.toNat _ j ≤ 0
          rw [iU_ne _ _ (by rcases p1 with p1 | p1 | p1; omega; exact absurd p1 w2; exact absurd p1 w1)]
          exact h8 j hj
    unfold mGv
    split
    · exact k1
    · split
      · exact k1
      · rename_i w1 w2
        show iU (mTk G A z lo 1) y.toNat _ j ≤ 0
        rw [iU_ne _ _ (by rcases p2 with p2 | p2 | p2; omega; exact absurd p2 w2; exact absurd p2 w1)]
        exact k1
  · rw [if_neg e]
    obtain ⟨r1, r2, r3, r4, r5, r6⟩ := o4.2.2.2 e
    have hne : z.toNat ≠ y.toNat := by omega
    obtain ⟨b1, b2⟩ := mBl_V (z := z) (y := y) m.toNat A hV (fun j hj => by omega) (by omega) hne
    obtain ⟨v1, v2, v3⟩ := b1
    refine ⟨⟨v1, iU_rng v2 ?_, v3⟩, fun j hj => ?_⟩
    · have := hV.2.1 z.toNat
      rw [b2 _ hne]; omega
    · show iU (mBl z y m.toNat A 1) z.toNat _ j ≤ 0
      rw [iU_ne _ _ (by omega), b2 j (by omega)]
      exact h8 j hj
theorem mBr_hi (i : Nat) (hi : 4 ≤ i) : mBr G A z y m c i = A i := by
  unfold mBr
  have bl : ∀ (k : Nat) (B : Nat → Nat → Int), mBl z y k B i = B i := by
    intro k
    induction k with
    | zero => intro B; rfl
    | succ k ih =>
      intro B
      show mBl z y k (mPu B y (mFT B z k)) i = B i
      rw [ih]
      show fU (fU B 0 _) 1 _ i = B i
      rw [fUn _ (by omega), fUn _ (by omega)]
  have tk : ∀ B : Nat → Nat → Int, mTk G B z c i = B i := fun B => by
    unfold mTk
    split
    · exact fUn _ (by omega)
    · split
      · exact fUn _ (by omega)
      · exact fUn _ (by omega)
  have gv : ∀ B : Nat → Nat → Int, mGv G B y c i = B i := fun B => by
    unfold mGv
    split
    · exact fUn _ (by omega)
    · split
      · exact fUn _ (by omega)
      · show fU (fU B 0 _) 1 _ i = B i
        rw [fUn _ (by omega), fUn _ (by omega)]
  by_cases e : m = 1
  · rw [if_pos e, gv, tk]
  · rw [if_neg e]
    show fU _ 1 _ i = _
    rw [fUn _ (by omega), bl]
/-- one move of both -/
theorem RT.bring (h : RT T N A) (hL : T.Y 3 0 = gAll T.G) (hm : 1 ≤ m ∧ m ≤ 13) (hP : ∀ C, SR T.G T.Y A C → mvP T.G z y m (mTp T.G A z) (tLow T z m) (C, A 2, A 3)) (hz : 0 ≤ z ∧ z ≤ 12) (hy : 0 ≤ y ∧ y ≤ 12) :
    okB T z y m ∧ okR T.G A z y m (mTp T.G A z) ∧ mtV (mMkA T.G N A z y m) ∧ RT (tBring T z y m) (mMkN N) (mMkA T.G N A z y m) := by
  obtain ⟨⟨v1, v2, v3, v4, v5⟩, ⟨a1, a2, a3, a4, a5⟩, ⟨h1, h2, h3, h4⟩, C, es, b1, b2, b3, b4⟩ := h
  have P := hP C b1
  obtain ⟨o0, o1, o2, o3, o4, o5, o6⟩ := b1.mvok v1 P
  have hAl := gAll_rng v1
  have s6 : ∀ f, SR T.G T.Y (fU A 6 f) C := fun f => b1
  have P6 : ∀ f, mvP T.G z y m (mTp T.G A z) (tLow T z m) (C, fU A 6 f 2, fU A 6 f 3) := fun f => P
  generalize hf : mLa (mLr N A) (mLg N) z y m (mTp T.G A z) = f
  have eA : mMkA T.G N A z y m = mBr T.G (fU A 6 f) z y m (mTp T.G A z) := by unfold mMkA; rw [hf]
  have V6 : mtV (fU A 6 f) := a1
  obtain ⟨w1, w2⟩ := mBr_V v1 V6 a5 (s6 f) (P6 f)
  have sr := (s6 f).mv v1 (P6 f)
  have e23 := mBr_23 (A := fU A 6 f) (C := C) (c := mTp T.G A z) v1 P.1 P.2.1 P.2.2.2.1 (fun q => ⟨(P.2.2.2.2.2 q).1, (P.2.2.2.2.2 q).2.1, P.2.2.1⟩)
  have bk := mv_back v1 P
  refine ⟨⟨o0.1, o1, o3⟩, o4, by rw [eA]; exact w1, ?_⟩
  rw [eA]
  refine ⟨⟨v1, ?_, ?_, v4, v5⟩, ⟨w1, msV_N a2 rfl rfl fun i hi => ?_, a3, a4, w2⟩, ⟨by show (-1 : Int) ≤ -1 ∧ (-1 : Int) ≤ 300; omega, h2, rfl, h4⟩, _, (z, y, m, mTp T.G A z, tLow T z m) :: es.take 59, sr, ?_, ?_, fun _ => hL⟩
  · refine cY_W v2 (by omega) o1 (fun q => ⟨o2 q, ?_⟩) o3
    have := o2 q
    have sg := gSuit_rng (c := tLow T z m) v1
    have e2 := (b1.2.2.2.2.1 (gSuit T.G (tLow T z m)).toNat (by omega)).1
    have a := b1.2.2.2.2.2.2.2.2
    have p0 := (b1.2.2.2.2.1 0 (by omega)).2.1
    have p1 := (b1.2.2.2.2.1 1 (by omega)).2.1
    have p2 := (b1.2.2.2.2.1 2 (by omega)).2.1
    have p3 := (b1.2.2.2.2.1 3 (by omega)).2.1
    rw [a]
    show 1 ≤ A 3 0 + A 3 1 + A 3 2 + A 3 3
    have sv : (gSuit T.G (tLow T z m)).toNat = 0 ∨ (gSuit T.G (tLow T z m)).toNat = 1 ∨ (gSuit T.G (tLow T z m)).toNat = 2 ∨ (gSuit T.G (tLow T z m)).toNat = 3 := by omega
    rcases sv with v | v | v | v <;> rw [v] at this e2 <;> omega
  · obtain ⟨l1, l2, l3, l4, l5, l6⟩ := v3
    refine ⟨iU_rng l1 (by omega), iU_rng l2 (by omega), iU_rng l3 (by omega), iU_rng l4 (by omega), ?_, ?_⟩
    · show 0 ≤ lgNx (T.P 4 0) ∧ lgNx (T.P 4 0) < 60
      unfold lgNx
      split <;> omega
    · show 0 ≤ lgCt (T.P 4 1) ∧ lgCt (T.P 4 1) ≤ 60
      unfold lgCt
      split <;> omega
  · rw [mBr_hi i (by omega)]
    exact fUn _ (by omega)
  · refine b2.note ?_ ?_
    · show iU (iU N 1 (mLg N + 1)) 2 (-1) 1 = _
      rw [iU_ne _ _ (by omega), iU_same]
    · rw [mBr_hi 6 (by omega), hf]
      exact fU_same ..
  · have e : ((mvX T.G z y m (mTp T.G A z) (C, fU A 6 f 2, fU A 6 f 3)).1, mBr T.G (fU A 6 f) z y m (mTp T.G A z) 2, mBr T.G (fU A 6 f) z y m (mTp T.G A z) 3) = mvX T.G z y m (mTp T.G A z) (C, A 2, A 3) := by
      rw [e23.1, e23.2]
      rfl
    rw [e]
    refine ⟨bk.1, ?_⟩
    show HX T.G (es.take 59) (mvX T.G y z m (mTp T.G A z) (mvX T.G z y m (mTp T.G A z) (C, A 2, A 3)))
    rw [bk.2]
    exact HX_take es 59 _ b3
end ZSH
