section ZRK
variable {G : Nat → Int} {Y A Y' A' : Nat → Nat → Int} {C : Nat → List Int} {z y m c : Int} {k p : Nat}
theorem SR.lay (hG : gmV G) (h : SR G Y A C) (hp : (p : Int) < G 0) (hc : 0 ≤ c ∧ c < gAll G) (hn : Y 0 c.toNat = -4) : SR G (yLay Y p c) (mLyA A p c) (fU C p (c :: C p)) := by
  have hA := gAll_rng hG
  have a4 := ((h.2.2.2.2.2.1 c.toNat (by omega)).2.2).2 hn
  refine (h.hand hG hc hn).col hG hp ?_ ?_ rfl rfl rfl rfl rfl (fun x hx => ?_) ?_ ?_
  · show iU (Y 0) c.toNat (Y 1 ((p : Int)).toNat) = _
    rw [show ((p : Int)).toNat = p by omega]
  · show iU (Y 1) ((p : Int)).toNat c = _
    rw [show ((p : Int)).toNat = p by omega]
  · show iU (A 4) c.toNat 1 x = 0 ↔ _
    by_cases e : x = c.toNat
    · subst e
      rw [iU_same]
      exact ⟨fun q => by omega, fun q => absurd (show ((c.toNat : Nat) : Int) = c by omega) q.2⟩
    · rw [iU_ne _ _ e]
      exact ⟨fun q => ⟨q, by omega⟩, fun q => q.1⟩
  · show Y 3 0 + 1 = mLd (iU (A 4) c.toNat 1) 52 0 0
    rw [mLd_1 a4 52 0 0 (by omega) (by omega) (by omega)]
    have := h.2.2.2.2.2.2.2.1
    rw [this]
  · exact h.2.2.2.2.2.2.2.2
theorem SR.deal (hG : gmV G) : ∀ (k : Nat) (i x : Int) (Y : Nat → Nat → Int) (R : Nat → Int) (A : Nat → Nat → Int) (C : Nat → List Int), SR G Y A C → 0 ≤ i → (∀ j, j < k → R j = A 5 j ∧ (0 ≤ R j ∧ R j < gAll G) ∧ Y 0 (R j).toNat = -4) → (∀ j j', j < k → j' < k → R j = R j' → j = j') → ∃ C', SR G (dl G k i x Y R).1 (mDl G k i x A) C' := by
  have hG' := hG
  unfold gmV at hG'
  intro k
  induction k with
  | zero => intro i x Y R A C h _ _ _; exact ⟨C, h⟩
  | succ k ih =>
    intro i x Y R A C h hi hR hd
    show ∃ C', SR G (dl G k (i + 1) (dX x) (yLay Y (i % G 0) (R (dD x ((k : Int) + 1)).toNat)) (iU R (dD x ((k : Int) + 1)).toNat (R k))).1 (mDl G k (i + 1) (dX x) (mD1 G A i (dD x ((k : Int) + 1)) k)) C'
    have d1 : 0 ≤ dD x ((k : Int) + 1) := Int.emod_nonneg _ (by omega)
    have d2 : dD x ((k : Int) + 1) < (k : Int) + 1 := Int.emod_lt_of_pos _ (by omega)
    generalize hdr : dD x ((k : Int) + 1) = dr at *
    have i1 : 0 ≤ i % G 0 := Int.emod_nonneg _ (by omega)
    have i2 : i % G 0 < G 0 := Int.emod_lt_of_pos _ (by omega)
    obtain ⟨r1, r2, r3⟩ := hR dr.toNat (by omega)
    have L := h.lay hG (p := (i % G 0).toNat) (c := R dr.toNat) (by omega) r2 r3
    rw [show (((i % G 0).toNat : Nat) : Int) = i % G 0 by omega] at L
    have rk := hR k (by omega)
    refine ih (i + 1) (dX x) _ _ (mD1 G A i dr k) (fU C (i % G 0).toNat (R dr.toNat :: C (i % G 0).toNat)) ?_ (by omega) (fun j hj => ?_) (fun j j' hj hj' e => ?_)
    · rw [r1] at L ⊢
      exact L
    · show iU R dr.toNat (R k) j = iU (A 5) dr.toNat (A 5 k) j ∧ _
      by_cases e : j = dr.toNat
      · rw [e, iU_same, iU_same, rk.1]
        refine ⟨rfl, by rw [← rk.1]; exact rk.2.1, ?_⟩
        show iU (Y 0) (R dr.toNat).toNat _ (A 5 k).toNat = -4
        rw [← rk.1, iU_ne _ _ (fun q => by have := hd k dr.toNat (by omega) (by omega) (by omega); omega)]
        exact rk.2.2
      · rw [iU_ne _ _ e, iU_ne _ _ e]
        have rj := hR j (by omega)
        refine ⟨rj.1, rj.2.1, ?_⟩
        show iU (Y 0) (R dr.toNat).toNat _ (R j).toNat = -4
        rw [iU_ne _ _ (fun q => by have := hd j dr.toNat (by omega) (by omega) (by omega); omega)]
        exact rj.2.2
    · by_cases e1 : j = dr.toNat
      · by_cases e2 : j' = dr.toNat
        · omega
        · rw [e1, iU_same, iU_ne _ _ e2] at e
          have := hd k j' (by omega) (by omega) e
          omega
      · rw [iU_ne _ _ e1] at e
        by_cases e2 : j' = dr.toNat
        · rw [e2, iU_same] at e
          have := hd j k (by omega) (by omega) e
          omega
        · rw [iU_ne _ _ e2] at e
          exact hd j j' (by omega) (by omega) e
def tkC (z : Int) (C : Nat → List Int) : Nat → List Int := if z < 8 then fU C z.toNat (C z.toNat).tail else C
def gvC (y c : Int) (C : Nat → List Int) : Nat → List Int := if y < 8 then fU C y.toNat (c :: C y.toNat) else C
/-- c may be taken from z -/
def tkP (G : Nat → Int) (C : Nat → List Int) (E H : Nat → Int) (z c : Int) : Prop := (z = 12 → (0 ≤ c ∧ c < gAll G) ∧ H (gSuit G c).toNat = gRank G c) ∧ (gCel G z → E (z - 8).toNat = c ∧ 0 ≤ c) ∧ (gCol G z → ∃ l, C z.toNat = c :: l)
/-- c may be brought to y -/
def gvP (G E H : Nat → Int) (y c : Int) : Prop := (y = 12 → H (gSuit G c).toNat + 1 = gRank G c) ∧ (gCel G y → E (y - 8).toNat = -1)
def tkY (G : Nat → Int) (Y : Nat → Nat → Int) (z c : Int) : Nat → Nat → Int
  | 0 => Y 0
  | 1 => if z = 12 then Y 1 else iU (Y 1) z.toNat (if 8 ≤ z then -1 else Y 0 c.toNat)
  | 2 => if z = 12 then iU (Y 2) (gSuit G c).toNat (Y 2 (gSuit G c).toNat - 1) else Y 2
  | _ => Y 3
theorem mTk_0 : mTk G A z c 0 = A 0 := by unfold mTk; (repeat' split) <;> rfl
theorem mTk_4 : mTk G A z c 4 = A 4 := by unfold mTk; (repeat' split) <;> rfl
theorem mGv_4 : mGv G A y c 4 = A 4 := by unfold mGv; (repeat' split) <;> rfl
theorem SR.take (hG : gmV G) (h : SR G Y A C) (hz : gPla G z) (ht : tkP G C (A 2) (A 3) z c) : SH G (tkY G Y z c) (mTk G A z c) (tkC z C) c ∧ A 4 c.toNat ≠ 0 := by
  have hG' := hG
  unfold gmV at hG'
  have hA := gAll_rng hG
  have no4 : (0 ≤ c ∧ c < gAll G) → -3 ≤ Y 0 c.toNat → A 4 c.toNat ≠ 0 := fun hc h3 q => by
    have := ((h.2.2.2.2.2.1 c.toNat (by omega)).2.2).1 q
    omega
  rcases hz with hz | hz | hz
  · obtain ⟨l, hl⟩ := ht.2.2 hz
    have hm : c ∈ C z.toNat := by rw [hl]; exact List.mem_cons_self ..
    have hc := h.mem hG (p := z.toNat) (by omega) c hm
    obtain ⟨f1, -⟩ := h.c7 (x := c.toNat) (by omega) (by omega)
    rw [show ((c.toNat : Nat) : Int) = c by omega] at f1
    have hb := f1.2 ⟨z.toNat, by omega, hm⟩
    have e : tkC z C = fU C z.toNat l := by unfold tkC; rw [if_pos (by omega), hl]; rfl
    have eA : mTk G A z c = fU A 1 (iU (A 1) z.toNat (A 1 z.toNat - 1)) := by unfold mTk; rw [if_neg (by omega), if_neg (by omega)]
    rw [e, eA]
    refine ⟨h.tcol hG (by omega) hl rfl ?_ ?_ rfl rfl rfl rfl rfl, no4 hc (by omega)⟩
    · show (if z = 12 then _ else _) = _
      rw [if_neg (by omega), if_neg (by omega)]
    · show (if z = 12 then _ else _) = _
      rw [if_neg (by omega)]
  · obtain ⟨hl, hc0⟩ := ht.2.1 hz
    have e : tkC z C = C := by unfold tkC; rw [if_neg (by omega)]
    have eA : mTk G A z c = fU A 2 (iU (A 2) (z - 8).toNat (-1)) := by unfold mTk; rw [if_neg (by omega), if_pos hz]
    have hb := h.cell hG (k := (z - 8).toNat) (by omega) (by omega)
    have hx := h.2.2.1 (z - 8).toNat (by omega)
    rw [hl] at hb hx
    rw [e, eA]
    refine ⟨h.tcell hG (k := (z - 8).toNat) (by omega) hl hc0 rfl ?_ ?_ rfl rfl rfl rfl rfl, no4 ⟨hc0, hx.2.1⟩ (by omega)⟩
    · show (if z = 12 then _ else _) = _
      rw [if_neg (by omega), if_pos (by omega), show 8 + (z - 8).toNat = z.toNat by omega]
    · show (if z = 12 then _ else _) = _
      rw [if_neg (by omega)]
  · obtain ⟨hc, hl⟩ := ht.1 hz
    have e : tkC z C = C := by unfold tkC; rw [if_neg (by omega)]
    have eA : mTk G A z c = fU A 3 (iU (A 3) (gSuit G c).toNat (A 3 (gSuit G c).toNat - 1)) := by unfold mTk; rw [if_pos hz]
    obtain ⟨-, -, f3⟩ := h.c7 (x := c.toNat) (by omega) (by omega)
    rw [show ((c.toNat : Nat) : Int) = c by omega] at f3
    have hb := f3.2 (by omega)
    rw [e, eA]
    refine ⟨h.thome hG hc hl rfl ?_ ?_ rfl rfl rfl rfl rfl, no4 hc (by omega)⟩
    · show (if z = 12 then _ else _) = _
      rw [if_pos hz]
    · show (if z = 12 then _ else _) = _
      rw [if_pos hz]
theorem sum4 {f : Nat → Int} {s : Nat} (hs : s < 4) (v : Int) : iU f s v 0 + iU f s v 1 + iU f s v 2 + iU f s v 3 = f 0 + f 1 + f 2 + f 3 + (v - f s) := by
  have : s = 0 ∨ s = 1 ∨ s = 2 ∨ s = 3 := by omega
  rcases this with rfl | rfl | rfl | rfl
  · rw [iU_same, iU_ne _ _ (by omega), iU_ne _ _ (by omega), iU_ne _ _ (by omega)]; omega
  · rw [iU_same, iU_ne _ _ (by omega), iU_ne _ _ (by omega), iU_ne _ _ (by omega)]; omega
  · rw [iU_same, iU_ne _ _ (by omega), iU_ne _ _ (by omega), iU_ne _ _ (by omega)]; omega
  · rw [iU_same, iU_ne _ _ (by omega), iU_ne _ _ (by omega), iU_ne _ _ (by omega)]; omega
theorem mAH_tk (hG : gmV G) : mAH (mTk G A z c) = if z = 12 then mAH A - 1 else mAH A := by
  have hs := gSuit_rng (c := c) hG
  unfold mTk
  by_cases e : z = 12
  · rw [if_pos e, if_pos e]
    show iU (A 3) _ _ 0 + iU (A 3) _ _ 1 + iU (A 3) _ _ 2 + iU (A 3) _ _ 3 = _
    rw [sum4 (by omega)]
    unfold mAH
    omega
  · rw [if_neg e, if_neg e]
    split <;> rfl
theorem mAH_gv (hG : gmV G) : mAH (mGv G A y c) = if y = 12 then mAH A + 1 else mAH A := by
  have hs := gSuit_rng (c := c) hG
  unfold mGv
  by_cases e : y = 12
  · rw [if_pos e, if_pos e]
    show iU (A 3) _ _ 0 + iU (A 3) _ _ 1 + iU (A 3) _ _ 2 + iU (A 3) _ _ 3 = _
    rw [sum4 (by omega)]
    unfold mAH
    omega
  · rw [if_neg e, if_neg e]
    split <;> rfl
/-- one card is moved -/
theorem SR.single (hG : gmV G) (h : SR G Y A C) (hz : gPla G z) (hy : gPla G y) (hzy : z ≠ y) (ht : tkP G C (A 2) (A 3) z c) (hg : gvP G (A 2) (A 3) y c) (htop : z = 12 ∨ Y 1 z.toNat = c) : SR G (cY G Y c z y) (mGv G (mTk G A z c) y c) (gvC y c (tkC z C)) := by
  have hG' := hG
  unfold gmV at hG'
  obtain ⟨hS, h4⟩ := h.take hG hz ht
  have n0 : cY G Y c z y 3 0 = mLaid (mGv G (mTk G A z c) y c) := by
    show Y 3 0 = mLd (mGv G (mTk G A z c) y c 4) 52 0 0
    rw [mGv_4, mTk_4]
    exact h.2.2.2.2.2.2.2.1
  have n1 : cY G Y c z y 3 1 = mAH (mGv G (mTk G A z c) y c) := by
    have e := h.2.2.2.2.2.2.2.2
    show cA (Y 3 1) z y = _
    rw [mAH_gv hG, mAH_tk hG, e]
    unfold cA
    by_cases q : z = 12
    · rw [if_pos q, if_pos q, if_neg (by omega)]
    · rw [if_neg q, if_neg q]
  have a4 : ∀ x : Nat, x < 52 → (mGv G (mTk G A z c) y c 4 x = 0 ↔ (mTk G A z c 4 x = 0 ∧ (x : Int) ≠ c)) := fun x hx => by
    rw [mGv_4, mTk_4]
    exact ⟨fun q => ⟨q, fun e => h4 (by rw [← e, show ((x : Int)).toNat = x by omega]; exact q)⟩, fun q => q.1⟩
  have t1 : cY G Y c z y 1 = if y = 12 then tkY G Y z c 1 else iU (tkY G Y z c 1) y.toNat c := by
    show cT (Y 0) (Y 1) c z y = if y = 12 then (if z = 12 then Y 1 else _) else iU (if z = 12 then Y 1 else _) y.toNat c
    unfold cT
    by_cases q : y = 12
    · rw [if_pos q, if_pos q]
    · rw [if_neg q, if_neg q]
      by_cases q2 : z = 12
      · rw [if_pos q2, if_pos q2]
      · rw [if_neg q2, if_neg q2]
        rcases htop with r | r
        · exact absurd r q2
        · rw [r]
  have t2 : cY G Y c z y 2 = if y = 12 then iU (tkY G Y z c 2) (gSuit G c).toNat (tkY G Y z c 2 (gSuit G c).toNat + 1) else tkY G Y z c 2 := by
    show cH G (Y 2) c z y = if y = 12 then iU (if z = 12 then _ else Y 2) (gSuit G c).toNat ((if z = 12 then _ else Y 2) (gSuit G c).toNat + 1) else (if z = 12 then _ else Y 2)
    unfold cH
    by_cases q : y = 12
    · rw [if_pos q, if_neg (by omega), if_pos q, if_neg (by omega)]
    · rw [if_neg q, if_neg q]
  have ty : y < 8 → tkY G Y z c 1 y.toNat = Y 1 y.toNat := fun q => by
    show (if z = 12 then Y 1 else iU (Y 1) z.toNat (if 8 ≤ z then -1 else Y 0 c.toNat)) y.toNat = _
    by_cases q2 : z = 12
    · rw [if_pos q2]
    · rw [if_neg q2, iU_ne _ _ (by omega)]
  rcases hy with hy | hy | hy
  · have eC : gvC y c (tkC z C) = fU (tkC z C) y.toNat (c :: tkC z C y.toNat) := by unfold gvC; rw [if_pos (by omega)]
    have eA : mGv G (mTk G A z c) y c = mPu (mTk G A z c) ((y.toNat : Nat) : Int) c := by unfold mGv; rw [if_neg (by omega), if_neg (by omega), show ((y.toNat : Nat) : Int) = y by omega]
    rw [eC]
    refine hS.col hG (p := y.toNat) (by omega) ?_ ?_ ?_ (by rw [eA]) (by rw [eA]) (by rw [eA]; rfl) (by rw [eA]; rfl) a4 n0 n1
    · show iU (Y 0) c.toNat (lGrd (Y 1) y) = iU (Y 0) c.toNat _
      unfold lGrd
      rw [if_neg (by omega), if_neg (by omega), ty (by omega)]
    · rw [t1, if_neg (by omega)]
    · rw [t2, if_neg (by omega)]
  · have eC : gvC y c (tkC z C) = tkC z C := by unfold gvC; rw [if_neg (by omega)]
    have eA : mGv G (mTk G A z c) y c = fU (mTk G A z c) 2 (iU (mTk G A z c 2) (y - 8).toNat c) := by unfold mGv; rw [if_neg (by omega), if_pos hy]
    rw [eC]
    refine hS.cell hG (k := (y - 8).toNat) (by omega) ?_ ?_ ?_ ?_ (by rw [eA]; rfl) (by rw [eA]; rfl) (by rw [eA]; rfl) (by rw [eA]; rfl) a4 n0 n1
    · have := hg.2 hy
      unfold mTk
      split
      · exact this
      · split
        · show iU (A 2) (z - 8).toNat (-1) (y - 8).toNat = -1
          rw [iU_ne _ _ (by omega)]; exact this
        · exact this
    · show iU (Y 0) c.toNat (lGrd (Y 1) y) = iU (Y 0) c.toNat _
      unfold lGrd
      rw [if_neg (by omega), if_pos (by omega)]
    · rw [t1, if_neg (by omega), show 8 + (y - 8).toNat = y.toNat by omega]
    · rw [t2, if_neg (by omega)]
  · have eC : gvC y c (tkC z C) = tkC z C := by unfold gvC; rw [if_neg (by omega)]
    have eA : mGv G (mTk G A z c) y c = fU (mTk G A z c) 3 (iU (mTk G A z c 3) (gSuit G c).toNat (mTk G A z c 3 (gSuit G c).toNat + 1)) := by unfold mGv; rw [if_pos hy]
    rw [eC]
    refine hS.home hG ?_ ?_ ?_ ?_ (by rw [eA]; rfl) (by rw [eA]; rfl) (by rw [eA]; rfl) (by rw [eA]; rfl) a4 n0 n1
    · have := hg.1 hy
      unfold mTk
      rw [if_neg (by omega)]
      split
      · exact this
      · exact this
    · show iU (Y 0) c.toNat (lGrd (Y 1) y) = iU (Y 0) c.toNat _
      unfold lGrd
      rw [if_pos hy]
    · rw [t1, if_pos hy]
    · rw [t2, if_pos hy]
end ZRK
