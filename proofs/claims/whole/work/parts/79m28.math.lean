section ZSJ
variable {G N N' : Nat → Int} {A A' Y : Nat → Nat → Int} {C : Nat → List Int} {T : TT} {z y m c k u lo : Int} {es : List EE}
theorem RT.cnt (h : RT T N A) : T.P 4 1 = N 1 ∧ 0 ≤ N 1 ∧ N 1 ≤ 60 := by
  obtain ⟨-, -, -, C, es, b1, b2, b3, b4⟩ := h
  obtain ⟨⟨c1, c2, c3, -⟩, -⟩ := b2
  omega
theorem RT.undo (h : RT T N A) : agr (T := T) (tUndo T) (mUn T.G N A) (fun _ => 1) ∧ (¬ T.P 4 1 = 0 → okU T (lgPv (T.P 4 0)).toNat) ∧ (¬ N 1 = 0 → (1 ≤ A 6 (4 * (N 1 - 1) + 2).toNat ∧ A 6 (4 * (N 1 - 1) + 2).toNat ≤ 52) ∧ okR T.G A (A 6 (4 * (N 1 - 1) + 1).toNat) (A 6 (4 * (N 1 - 1)).toNat) (A 6 (4 * (N 1 - 1) + 2).toNat) (A 6 (4 * (N 1 - 1) + 3).toNat)) := by
  have h0 := h
  have hc := h.cnt
  obtain ⟨⟨v1, v2, v3, v4, v5⟩, ⟨a1, a2, a3, a4, a5⟩, ⟨h1, h2, h3, h4⟩, C, es, b1, b2, b3, b4⟩ := h
  have hAl := gAll_rng v1
  cases es with
  | nil =>
    have n0 : N 1 = 0 := b2.1.2.1
    have p0 : T.P 4 1 = 0 := by omega
    refine ⟨?_, fun w => absurd p0 w, fun w => absurd n0 w⟩
    unfold tUndo mUn
    rw [if_pos p0, if_pos n0]
    exact agr_no h0 rfl
  | cons e es =>
    obtain ⟨z, y, m, c, lo⟩ := e
    have L1 := b2.1
    have el : ((z, y, m, c, lo) :: es).length = es.length + 1 := rfl
    have fst := b2.first
    obtain ⟨⟨k1, k2, k3, k4⟩, k5, k6, k7, k8⟩ := b2.2 0 (by omega)
    rw [fst] at k1 k2 k3 k4
    rw [show ((z, y, m, c, lo) :: es).length - 1 - 0 = es.length by omega] at k5 k6 k7 k8
    have k1 : T.P 1 (lgPv (T.P 4 0)).toNat = z := k1
    have k2 : T.P 2 (lgPv (T.P 4 0)).toNat = y := k2
    have k3 : T.P 3 (lgPv (T.P 4 0)).toNat = m := k3
    have k4 : T.P 0 (lgPv (T.P 4 0)).toNat = lo := k4
    have n1 : N 1 - 1 = es.length := by omega
    have k5 : A 6 (4 * (N 1 - 1)).toNat = z := by rw [n1, show (4 * (es.length : Int)).toNat = 4 * es.length by omega]; exact k5
    have k6 : A 6 (4 * (N 1 - 1) + 1).toNat = y := by rw [n1, show (4 * (es.length : Int) + 1).toNat = 4 * es.length + 1 by omega]; exact k6
    have k7 : A 6 (4 * (N 1 - 1) + 2).toNat = m := by rw [n1, show (4 * (es.length : Int) + 2).toNat = 4 * es.length + 2 by omega]; exact k7
    have k8 : A 6 (4 * (N 1 - 1) + 3).toNat = c := by rw [n1, show (4 * (es.length : Int) + 3).toNat = 4 * es.length + 3 by omega]; exact k8
    obtain ⟨P, H⟩ := b3
    have P : mvP T.G y z m c lo (C, A 2, A 3) := P
    obtain ⟨o0, o1, o2, o3, o4, o5, o6⟩ := b1.mvok v1 P
    have nz : ¬ N 1 = 0 := by omega
    have pz : ¬ T.P 4 1 = 0 := by omega
    refine ⟨?_, fun _ => ?_, fun _ => ?_⟩
    · have eT : tUndo T = (oI (T.P 3 (lgPv (T.P 4 0)).toNat), TT.mk T.G (cY T.G T.Y (T.P 0 (lgPv (T.P 4 0)).toNat) (T.P 2 (lgPv (T.P 4 0)).toNat) (T.P 1 (lgPv (T.P 4 0)).toNat)) (pN T.P (lgPv (T.P 4 0)) (T.P 4 1 - 1)) T.S T.R (-1)) := if_neg pz
      have eM : mUn T.G N A = (A 6 (4 * (N 1 - 1) + 2).toNat, iU (iU (nT N) 1 (N 1 - 1)) 2 (-1), mBr T.G A (A 6 (4 * (N 1 - 1) + 1).toNat) (A 6 (4 * (N 1 - 1)).toNat) (A 6 (4 * (N 1 - 1) + 2).toNat) (A 6 (4 * (N 1 - 1) + 3).toNat)) := if_neg nz
      rw [eT, eM, k1, k2, k3, k4, k5, k6, k7, k8]
      have sr := b1.mv v1 P
      have e23 := mBr_23 (A := A) (C := C) (c := c) v1 P.1 P.2.1 P.2.2.2.1 (fun q => ⟨(P.2.2.2.2.2 q).1, (P.2.2.2.2.2 q).2.1, P.2.2.1⟩)
      obtain ⟨w1, w2⟩ := mBr_V v1 a1 a5 b1 P
      refine agr_yes rfl ?_ ⟨⟨v1, ?_, ?_, v4, v5⟩, ⟨w1, msV_N a2 rfl rfl fun i hi => mBr_hi i (by omega), a3, a4, w2⟩, ⟨by show (-1 : Int) ≤ -1 ∧ (-1 : Int) ≤ 300; omega, h2, rfl, h4⟩, _, es, sr, ?_, ?_, fun _ => b4 (by simp)⟩ (by omega) rfl
      · show iU (iU (nT N) 1 (N 1 - 1)) 2 (-1) 0 = 0
        rw [iU_ne _ _ (by omega), iU_ne _ _ (by omega)]
        exact iU_same N 0 0
      · refine cY_W v2 (by omega) o1 (fun q => ⟨o2 q, ?_⟩) o3
        have := o2 q
        have sg := gSuit_rng (c := lo) v1
        have e2 := (b1.2.2.2.2.1 (gSuit T.G lo).toNat (by omega)).1
        have a := b1.2.2.2.2.2.2.2.2
        have p0 := (b1.2.2.2.2.1 0 (by omega)).2.1
        have p1 := (b1.2.2.2.2.1 1 (by omega)).2.1
        have p2 := (b1.2.2.2.2.1 2 (by omega)).2.1
        have p3 := (b1.2.2.2.2.1 3 (by omega)).2.1
        rw [a]
        show 1 ≤ A 3 0 + A 3 1 + A 3 2 + A 3 3
        have sv : (gSuit T.G lo).toNat = 0 ∨ (gSuit T.G lo).toNat = 1 ∨ (gSuit T.G lo).toNat = 2 ∨ (gSuit T.G lo).toNat = 3 := by omega
        rcases sv with v | v | v | v <;> rw [v] at this e2 <;> omega
      · obtain ⟨l1, l2, l3, l4, l5, l6⟩ := v3
        refine ⟨l1, l2, l3, l4, ?_, ?_⟩
        · show 0 ≤ lgPv (T.P 4 0) ∧ lgPv (T.P 4 0) < 60
          unfold lgPv
          split <;> omega
        · show 0 ≤ T.P 4 1 - 1 ∧ T.P 4 1 - 1 ≤ 60
          omega
      · refine b2.back ?_ (mBr_hi 6 (by omega))
        show iU (iU (nT N) 1 (N 1 - 1)) 2 (-1) 1 = _
        rw [iU_ne _ _ (by omega), iU_same]
      · have e : ((mvX T.G y z m c (C, A 2, A 3)).1, mBr T.G A y z m c 2, mBr T.G A y z m c 3) = mvX T.G y z m c (C, A 2, A 3) := by
          rw [e23.1, e23.2]
        show HX T.G es ((mvX T.G y z m c (C, A 2, A 3)).1, mBr T.G A y z m c 2, mBr T.G A y z m c 3)
        rw [e]
        exact H
    · unfold okU
      rw [k1, k2, k4]
      exact ⟨fun w => P.2.2.1 (w.1.trans w.2.symm), o1, o2, fun w => (o3 w).1⟩
    · rw [k5, k6, k7, k8]
      exact ⟨⟨o6, o5⟩, o4⟩
/-- the safe card that is sent -/
theorem RT.safe (h : RT T N A) : tPos T = mSp T.G A 12 0 := by
  obtain ⟨⟨v1, v2, -⟩, -, -, C, es, b1, -⟩ := h
  exact b1.pos v1 v2
theorem RT.sent (h : RT T N A) (hL : T.Y 3 0 = gAll T.G) (hn : ¬ mSp T.G A 12 0 = -1) : okB T (mSp T.G A 12 0) 12 1 ∧ okR T.G A (mSp T.G A 12 0) 12 1 (mTp T.G A (mSp T.G A 12 0)) ∧ RT (tBring T (mSp T.G A 12 0) 12 1) (mMkN N) (mMkA T.G N A (mSp T.G A 12 0) 12 1) ∧ T.Y 3 1 ≤ 51 ∧ (tBring T (mSp T.G A 12 0) 12 1).Y 3 1 = T.Y 3 1 + 1 := by
  have hG := h.gm
  have r := mSp_rng (A := A) hG 12 0 (by omega) (by omega)
  rcases r with r | ⟨r1, r2⟩
  · exact absurd r hn
  · have c := r2.2.1
    have g := RT.go h hL (Or.symm r2.1) (y := 12) (Or.inr (Or.inr rfl)) (m := 1) (by omega) (by unfold mMay; rw [if_pos rfl]; exact c)
    refine ⟨g.1, g.2.1, g.2.2.2.1, (g.1.2.2 rfl).2, ?_⟩
    show cA (T.Y 3 1) (mSp T.G A 12 0) 12 = _
    unfold cA
    rw [if_neg (by omega), if_pos rfl]
theorem RT.sendL : ∀ (k : Nat) (s : Int) (T : TT) (N : Nat → Int) (A : Nat → Nat → Int), RT T N A → T.Y 3 0 = gAll T.G → N 0 = 0 → (tS k s T).1 = (mSl T.G k s N A).1 ∧ RT (tS k s T).2 (mSl T.G k s N A).2.1 (mSl T.G k s N A).2.2 ∧ (mSl T.G k s N A).2.1 0 = 0 ∧ (tS k s T).2.G = T.G ∧ (s ≤ (tS k s T).1 ∧ (tS k s T).1 ≤ s + k) := by
  intro k
  induction k with
  | zero => intro s T N A h _ h0; exact ⟨rfl, h, h0, rfl, by show s ≤ s ∧ s ≤ s + ((0 : Nat) : Int); omega⟩
  | succ k ih =>
    intro s T N A h hL h0
    have e1 : tS (k + 1) s T = if tPos T = -1 then (s, T) else tS k (s + 1) (tBring T (tPos T) 12 1) := rfl
    have e2 : mSl T.G (k + 1) s N A = if mSp T.G A 12 0 = -1 then (s, N, A) else mSl T.G k (s + 1) (mMkN N) (mMkA T.G N A (mSp T.G A 12 0) 12 1) := rfl
    rw [e1, e2, h.safe]
    by_cases q : mSp T.G A 12 0 = -1
    · rw [if_pos q, if_pos q]
      exact ⟨rfl, h, h0, rfl, by show s ≤ s ∧ s ≤ s + ((k + 1 : Nat) : Int); omega⟩
    · rw [if_neg q, if_neg q]
      obtain ⟨s1, s2, s3, s4, s5⟩ := h.sent hL q
      have := ih (s + 1) _ _ _ s3 hL (mMkN_0 h0)
      exact ⟨this.1, this.2.1, this.2.2.1, this.2.2.2.1, by omega⟩
theorem RT.send (h : RT T N A) : agr (T := T) (tSend T) (mSend T.G N A) (fun _ => 1) := by
  unfold tSend mSend
  by_cases q : T.Y 3 0 = gAll T.G
  · rw [if_pos q, if_pos (h.laid.1.2 q)]
    have K := RT.sendL 52 0 T (nT N) A h.n0 q (iU_same N 0 0)
    generalize tS 52 0 T = r at *
    generalize mSl T.G 52 0 (nT N) A = m at *
    exact agr_yes K.1 K.2.2.1 K.2.1 (by omega) K.2.2.2.1
  · rw [if_neg q, if_neg (fun w => q (h.laid.1.1 w))]
    exact agr_no h rfl
theorem RT.look (h : RT T N A) : agr (T := T) (tLook T u) (mLk T.G N A u) cd1 ∧ (T.Y 3 0 = gAll T.G → JJ T.G (yCp T.Y (T.S.2.2 0))) ∧ (gAll T.G ≤ mLaid A → topsIn T.G A) := by
  have h0 := h
  have hl := h.laid
  obtain ⟨⟨v1, v2, v3, v4, v5⟩, ⟨a1, a2, a3, a4, a5⟩, ⟨h1, h2, h3, h4⟩, C, es, b1, b2, b3, b4⟩ := h
  have hAl := gAll_rng v1
  have hn := nC_eq v1
  refine ⟨?_, fun q => ⟨A, C, b1.cp v1, fun x hx => ?_⟩, fun _ => b1.topsIn v1 a1⟩
  · unfold tLook mLk
    by_cases q : 1 ≤ u ∧ u ≤ 200
    · rw [if_pos q, if_pos q]
      by_cases e : T.Y 3 0 = gAll T.G
      · rw [if_pos e, if_pos (hl.1.2 e)]
        have K := look_eq (σ := T.S) (N := nT N) (u := u) v1 v2 b1 (b1.full v1 v2 e) v4 a1 (msV_N a2 rfl rfl fun _ _ => rfl) a3 a4 q
        generalize sk T.G T.S T.Y u = c at *
        generalize lkS T.G (se T.G u (nT N) A) = r at *
        obtain ⟨⟨k1, k2, k3⟩, k4, ⟨k5, k6, k7⟩, k8, k9, k10, k11, k12⟩ := K
        refine agr_yes k1 ?_ ⟨⟨v1, v2, v3, k4, v5⟩, ⟨?_, k8, k9, k10, ?_⟩, ⟨k5, k6, k2, k3⟩, C, es, ?_, ?_, ?_, b4⟩ (by omega) rfl
        · rw [k12 0 (by omega)]; exact iU_same N 0 0
        · unfold mtV
          rw [k11 0 (by omega), k11 1 (by omega), k11 2 (by omega), k11 3 (by omega), k11 4 (by omega), k11 5 (by omega)]
          exact a1
        · rw [k11 1 (by omega)]; exact a5
        · have e : SR T.G T.Y r.2.2 C := by
            unfold SR mcol mLaid mAH
            rw [k11 0 (by omega), k11 1 (by omega), k11 2 (by omega), k11 3 (by omega), k11 4 (by omega)]
            exact b1
          exact e
        · refine b2.keep ?_ (k11 6 (by omega))
          rw [k12 1 (by omega)]
          exact iU_ne N 0 (by omega)
        · show HX T.G es (C, r.2.2 2, r.2.2 3)
          rw [k11 2 (by omega), k11 3 (by omega)]
          exact b3
      · rw [if_neg e, if_neg (fun w => e (hl.1.1 w))]
        exact agr_no h0 rfl
    · rw [if_neg q, if_neg q]
      exact agr_no h0 rfl
  · show -3 ≤ iCp (T.Y 0) (T.S.2.2 0 0) 52 x
    rw [iCp_lt (by omega)]
    exact b1.full v1 v2 q x hx
theorem mDl_hi : ∀ (k : Nat) (i x : Int) (A : Nat → Nat → Int) (j : Nat), 6 ≤ j → mDl G k i x A j = A j := by
  intro k
  induction k with
  | zero => intro i x A j _; rfl
  | succ k ih =>
    intro i x A j hj
    show mDl G k (i + 1) (dX x) (mD1 G A i (dD x ((k : Int) + 1)) k) j = A j
    rw [ih _ _ _ j hj]
    show fU (fU (fU (fU A 0 _) 1 _) 4 _) 5 _ j = A j
    rw [fUn _ (by omega), fUn _ (by omega), fUn _ (by omega), fUn _ (by omega)]
/-- ranges of a deal -/
theorem deal_V (hG : gmV G) : ∀ (k : Nat) (i x : Int) (Y : Nat → Nat → Int) (R : Nat → Int) (A : Nat → Nat → Int) (C : Nat → List Int), SR G Y A C → lyW Y → mtV A → (∀ j, 8 ≤ j → A 1 j ≤ 0) → (∀ j, 0 ≤ R j ∧ R j ≤ 51) → 0 ≤ i → (∀ j, j < k → R j = A 5 j ∧ (0 ≤ R j ∧ R j < gAll G) ∧ Y 0 (R j).toNat = -4) → (∀ j j', j < k → j' < k → R j = R j' → j = j') →
    lyW (dl G k i x Y R).1 ∧ (∀ j, 0 ≤ (dl G k i x Y R).2 j ∧ (dl G k i x Y R).2 j ≤ 51) ∧ mtV (mDl G k i x A) ∧ (∀ j, 8 ≤ j → mDl G k i x A 1 j ≤ 0) := by
  have hG' := hG
  unfold gmV at hG'
  have hAl := gAll_rng hG
  intro k
  induction k with
  | zero => intro i x Y R A C _ a b c d _ _ _; exact ⟨a, d, b, c⟩
  | succ k ih =>
    intro i x Y R A C h hW hV h8 hRr hi hR hd
    show lyW (dl G k (i + 1) (dX x) (yLay Y (i % G 0) (R (dD x ((k : Int) + 1)).toNat)) (iU R (dD x ((k : Int) + 1)).toNat (R k))).1 ∧ (∀ j, 0 ≤ (dl G k (i + 1) (dX x) (yLay Y (i % G 0) (R (dD x ((k : Int) + 1)).toNat)) (iU R (dD x ((k : Int) + 1)).toNat (R k))).2 j ∧ (dl G k (i + 1) (dX x) (yLay Y (i % G 0) (R (dD x ((k : Int) + 1)).toNat)) (iU R (dD x ((k : Int) + 1)).toNat (R k))).2 j ≤ 51) ∧ mtV (mDl G k (i + 1) (dX x) (mD1 G A i (dD x ((k : Int) + 1)) k)) ∧ ∀ j, 8 ≤ j → mDl G k (i + 1) (dX x) (mD1 G A i (dD x ((k : Int) + 1)) k) 1 j ≤ 0
    have d1 : 0 ≤ dD x ((k : Int) + 1) := Int.emod_nonneg _ (by omega)
    have d2 : dD x ((k : Int) + 1) < (k : Int) + 1 := Int.emod_lt_of_pos _ (by omega)
    generalize hdr : dD x ((k : Int) + 1) = dr at *
    have i1 : 0 ≤ i % G 0 := Int.emod_nonneg _ (by omega)
    have i2 : i % G 0 < G 0 := Int.emod_lt_of_pos _ (by omega)
    obtain ⟨r1, r2, r3⟩ := hR dr.toNat (by omega)
    have L := h.lay hG (p := (i % G 0).toNat) (c := R dr.toNat) (by omega) r2 r3
    rw [show (((i % G 0).toNat : Nat) : Int) = i % G 0 by omega] at L
    have rk := hR k (by omega)
    have el : Y 3 0 + 1 = mLaid (mLyA A (i % G 0) (R dr.toNat)) := L.2.2.2.2.2.2.2.1
    have mr := mLaid_rng (A := mLyA A (i % G 0) (R dr.toNat))
    have ht : A 1 (i % G 0).toNat ≤ 51 := by
      have l := (h.hand hG r2 r3).len hG (p := (i % G 0).toNat) (by omega)
      have := (h.1 (i % G 0).toNat (by omega)).2.1.1
      omega
    have V := mPu_V (z := i % G 0) (c := A 5 dr.toNat) hV (by rw [← r1]; omega) ht
    refine ih (i + 1) (dX x) _ _ (mD1 G A i dr k) (fU C (i % G 0).toNat (R dr.toNat :: C (i % G 0).toNat)) ?_ (yLay_V hW (by omega) (by omega)) ?_ (fun j hj => ?_) (iU_rng hRr (by omega)) (by omega) (fun j hj => ?_) (fun j j' hj hj' e => ?_)
    · rw [r1] at L ⊢
      exact L
    · exact ⟨V.1, V.2.1, V.2.2.1, V.2.2.2.1, iU_rng V.2.2.2.2.1 (by omega), iU_rng V.2.2.2.2.2 (V.2.2.2.2.2 _)⟩
    · show iU (A 1) (i % G 0).toNat _ j ≤ 0
      rw [iU_ne _ _ (by omega)]
      exact h8 j hj
    · show iU R dr.toNat (R k) j = iU (A 5) dr.toNat (A 5 k) j ∧ _
      by_cases e : j = dr.toNat
      · rw [e, iU_same, iU_same, rk.1]
        refine ⟨rfl, by rw [← rk.1]; exact rk.2.1, ?_⟩
        show iU (Y 0) (R dr.toNat).toNat _ (A 5 k).toNat = -4
        rw [← rk.1, iU_ne _ _ (fun q => by have := hd k dr.toNat (by omega) (by omega) (by omega); omega)]
        exact rk.2.2
      · rw [iU_ne _ _ e, iU_ne _ _ e]
        have rj := hR j (by omega)
        refine ⟨rj.1, rj.2.1, ?_⟩
        show iU (Y 0) (R dr.toNat).toNat _ (R j).toNat = -4
        rw [iU_ne _ _ (fun q => by have := hd j dr.toNat (by omega) (by omega) (by omega); omega)]
        exact rj.2.2
    · by_cases e1 : j = dr.toNat
      · by_cases e2 : j' = dr.toNat
        · omega
        · rw [e1, iU_same, iU_ne _ _ e2] at e
          have := hd k j' (by omega) (by omega) e
          omega
      · rw [iU_ne _ _ e1] at e
        by_cases e2 : j' = dr.toNat
        · rw [e2, iU_same] at e
          have := hd j k (by omega) (by omega) e
          omega
        · rw [iU_ne _ _ e2] at e
          exact hd j j' (by omega) (by omega) e
theorem mWA_8 (h : ∀ j, 8 ≤ j → A 1 j ≤ 0) : ∀ j, 8 ≤ j → mWA A 1 j ≤ 0 := fun j hj => by
  show iFi (A 1) 8 0 j ≤ 0
  unfold iFi
  rw [if_neg (by omega)]
  exact h j hj
theorem pN_W {P : Nat → Nat → Int} (h : lgW P) : lgW (pN P 0 0) := by
  obtain ⟨l1, l2, l3, l4, l5, l6⟩ := h
  exact ⟨l1, l2, l3, l4, by show (0 : Int) ≤ 0 ∧ (0 : Int) < 60; omega, by show (0 : Int) ≤ 0 ∧ (0 : Int) ≤ 60; omega⟩
theorem RT.wipe {G' : Nat → Int} (h : RT T N A) (hG : gmV G') : RT (tClr (TT.mk G' T.Y T.P T.S T.R T.hi)) (mWN (nT N)) (mWA A) := by
  obtain ⟨⟨v1, v2, v3, v4, v5⟩, ⟨a1, a2, a3, a4, a5⟩, ⟨h1, h2, h3, h4⟩, C, es, b1, b2, b3, b4⟩ := h
  refine ⟨⟨hG, yCl_V v2, pN_W v3, v4, v5⟩, ⟨mWA_V a1, msV_N a2 rfl rfl fun i hi => ?_, a3, a4, mWA_8 a5⟩, ⟨by show (-1 : Int) ≤ -1 ∧ (-1 : Int) ≤ 300; omega, h2, rfl, h4⟩, _, [], SR.wipe hG, LR.nil rfl rfl rfl, trivial, fun w => absurd rfl w⟩
  show fU (fU (fU (fU A 1 _) 2 _) 3 _) 4 _ i = _
  rw [fUn _ (by omega), fUn _ (by omega), fUn _ (by omega), fUn _ (by omega)]
theorem RT.deal (h : RT T N A) : RT (tDeal T u).2 (mDe T.G N A u).1 (mDe T.G N A u).2 ∧ ((tDeal T u).1 = .inl none ∧ (mDe T.G N A u).1 0 = 0 ∨ (tDeal T u).1 = .inr 0 ∧ (mDe T.G N A u).1 0 = 1) ∧ (tDeal T u).2.G = T.G := by
  unfold tDeal mDe
  by_cases q : 0 ≤ u ∧ u ≤ 32000
  · rw [if_pos q, if_pos q]
    refine ⟨?_, Or.inl ⟨rfl, ?_⟩, rfl⟩
    · obtain ⟨⟨v1, v2, v3, v4, v5⟩, ⟨a1, a2, a3, a4, a5⟩, ⟨h1, h2, h3, h4⟩, C, es, b1, b2, b3, b4⟩ := h
      have hAl := gAll_rng v1
      have W : SR T.G (yCl T.Y) (mWA A) (fun _ => []) := SR.wipe v1
      have W5 : SR T.G (yCl T.Y) (fU (mWA A) 5 (iCp (fun j => (j : Int)) (A 5) (gAll T.G).toNat)) (fun _ => []) := W
      have V5 : mtV (fU (mWA A) 5 (iCp (fun j => (j : Int)) (A 5) (gAll T.G).toNat)) := by
        obtain ⟨w1, w2, w3, w4, w5, w6⟩ := mWA_V a1
        refine ⟨w1, w2, w3, w4, w5, fun j => ?_⟩
        show 0 ≤ iCp (fun j => (j : Int)) (A 5) (gAll T.G).toNat j ∧ iCp (fun j => (j : Int)) (A 5) (gAll T.G).toNat j ≤ 51
        unfold iCp
        split
        · show 0 ≤ (j : Int) ∧ (j : Int) ≤ 51; omega
        · exact a1.2.2.2.2.2 j
      have Rr : ∀ j, 0 ≤ iCp (fun j => (j : Int)) T.R (gAll T.G).toNat j ∧ iCp (fun j => (j : Int)) T.R (gAll T.G).toNat j ≤ 51 := fun j => by
        unfold iCp
        split
        · show 0 ≤ (j : Int) ∧ (j : Int) ≤ 51; omega
        · exact v5 j
      have hR : ∀ j, j < (gAll T.G).toNat → iCp (fun j => (j : Int)) T.R (gAll T.G).toNat j = fU (mWA A) 5 (iCp (fun j => (j : Int)) (A 5) (gAll T.G).toNat) 5 j ∧ (0 ≤ iCp (fun j => (j : Int)) T.R (gAll T.G).toNat j ∧ iCp (fun j => (j : Int)) T.R (gAll T.G).toNat j < gAll T.G) ∧ yCl T.Y 0 (iCp (fun j => (j : Int)) T.R (gAll T.G).toNat j).toNat = -4 := fun j hj => by
        rw [iCp_lt hj]
        refine ⟨?_, by show 0 ≤ (j : Int) ∧ (j : Int) < gAll T.G; omega, ?_⟩
        · show (j : Int) = iCp (fun j => (j : Int)) (A 5) (gAll T.G).toNat j
          rw [iCp_lt hj]
        · show iFi (T.Y 0) 52 (-4) ((j : Int)).toNat = -4
          exact iFi_in (by omega)
      have hd : ∀ j j', j < (gAll T.G).toNat → j' < (gAll T.G).toNat → iCp (fun j => (j : Int)) T.R (gAll T.G).toNat j = iCp (fun j => (j : Int)) T.R (gAll T.G).toNat j' → j = j' := fun j j' h1 h2 e => by
        rw [iCp_lt h1, iCp_lt h2] at e
        have e : (j : Int) = j' := e
        omega
      obtain ⟨C', D⟩ := SR.deal v1 (gAll T.G).toNat 0 u _ _ _ _ W5 (by omega) hR hd
      obtain ⟨w1, w2, w3, w4⟩ := deal_V v1 (gAll T.G).toNat 0 u _ _ _ _ W5 (yCl_V v2) V5 (mWA_8 a5) Rr (by omega) hR hd
      refine ⟨⟨v1, w1, pN_W v3, v4, w2⟩, ⟨w3, msV_N a2 rfl rfl fun i hi => ?_, a3, a4, w4⟩, ⟨by show (-1 : Int) ≤ -1 ∧ (-1 : Int) ≤ 300; omega, h2, rfl, h4⟩, C', [], D, LR.nil rfl rfl rfl, trivial, fun w => absurd rfl w⟩
      show mDl T.G _ 0 u _ i = _
      rw [mDl_hi _ _ _ _ i (by omega)]
      show fU (fU (fU (fU (fU A 1 _) 2 _) 3 _) 4 _) 5 _ i = _
      rw [fUn _ (by omega), fUn _ (by omega), fUn _ (by omega), fUn _ (by omega), fUn _ (by omega)]
    · show iU (iU (nT N) 1 0) 2 (-1) 0 = 0
      rw [iU_ne _ _ (by omega), iU_ne _ _ (by omega)]
      exact iU_same N 0 0
  · rw [if_neg q, if_neg q]
    exact ⟨h.n0.n0, Or.inr ⟨rfl, iU_same (nT N) 0 1⟩, rfl⟩
/-- what is only read -/
theorem RT.reads (h : RT T N A) : (∀ z, tSize T z = mSz T.G A z ∧ iR (tSize T z)) ∧ (∀ z k, tCard T z k = mCd T.G A z k ∧ iR (tCard T z k)) ∧ (∀ z y, tMost T z y = mMs T.G A z y ∧ iR (tMost T z y)) := by
  have hl := h.laid
  obtain ⟨⟨v1, v2, v3, v4, v5⟩, ⟨a1, a2, a3, a4, a5⟩, ⟨h1, h2, h3, h4⟩, C, es, b1, b2, b3, b4⟩ := h
  have hG' := v1
  unfold gmV at hG'
  have hAl := gAll_rng v1
  refine ⟨fun z => ?_, fun z k => ?_, fun z y => ?_⟩
  · unfold tSize
    by_cases g : gPla T.G z
    · rw [if_pos g]
      have r := lHei_rng (z := z) v2
      exact ⟨b1.size v1 g, by omega⟩
    · rw [if_neg g]
      refine ⟨?_, by omega⟩
      unfold mSz
      rw [if_neg (fun w => g (Or.inr (Or.inr w))), if_neg (fun w => g (Or.inr (Or.inl w))), if_neg (fun w => g (Or.inl w))]
  · have e := b1.card (z := z) (k := k) v1
    refine ⟨e, ?_⟩
    have e' : tCard T z k = mCd T.G A z k := e
    rw [e']
    unfold mCd
    split
    · split
      · rename_i w
        have := (b1.2.2.2.2.1 k.toNat (by omega)).2.2.1
        have m1 : T.G 4 * (A 3 k.toNat - 1) ≤ 4 * 12 := by
          have : 0 ≤ A 3 k.toNat - 1 := by omega
          calc T.G 4 * (A 3 k.toNat - 1) ≤ 4 * (A 3 k.toNat - 1) := Int.mul_le_mul_of_nonneg_right (by omega) this
            _ ≤ 4 * 12 := by omega
        have m2 : 0 ≤ T.G 4 * (A 3 k.toNat - 1) := Int.mul_nonneg (by omega) (by omega)
        omega
      · omega
    · split
      · split
        · have := a1.2.2.1 (z - 8).toNat; omega
        · omega
      · split
        · have := a1.1 (52 * z + k).toNat; omega
        · omega
  · unfold tMost mMs
    by_cases g : gCol T.G z ∧ gCol T.G y ∧ T.Y 3 0 = gAll T.G
    · have g2 : gCol T.G z ∧ gCol T.G y ∧ mLaid A = gAll T.G := ⟨g.1, g.2.1, by rw [← hl.2]; exact g.2.2⟩
      rw [if_pos g, if_pos g2]
      have e := b1.most v1 v2 g.1 g.2.1
      have r := lMb_rng (G := T.G) (b := T.Y 0) (t := T.Y 1) (h := T.Y 2) (z := z) (y := y) (lRow T.G (T.Y 0) (T.Y 1) z).toNat
      have r2 := lRow_rng (G := T.G) (b := T.Y 0) (t := T.Y 1) (z := z)
      refine ⟨e, ?_⟩
      show iR (lMb T.G (T.Y 0) (T.Y 1) (T.Y 2) z y (lRow T.G (T.Y 0) (T.Y 1) z).toNat)
      omega
    · rw [if_neg g, if_neg (fun w => g ⟨w.1, w.2.1, by rw [hl.2]; exact w.2.2⟩)]
      exact ⟨rfl, by omega⟩
end ZSJ
