section ZSI
variable {G N N' : Nat → Int} {A A' Y : Nat → Nat → Int} {C : Nat → List Int} {T : TT} {z y m c k u lo : Int} {es : List EE}
/-- both answer alike and stand alike after it -/
def agr (r : zi_O × TT) (m : MO) (cd : Nat → Int) : Prop := (∀ b, r.1 = .inl b → m.2.1 0 = 0 ∧ b = some (iV m.1)) ∧ (∀ ex, r.1 = .inr ex → m.2.1 0 = cd ex) ∧ RT r.2 m.2.1 m.2.2 ∧ iR m.1 ∧ r.2.G = T.G
theorem agr_no {ex : Nat} {v : Int} {cd : Nat → Int} (h : RT T N A) (hc : v = cd ex) : agr (T := T) (.inr ex, T) (0, iU (nT N) 0 v, A) cd := by
  refine ⟨fun b hb => ?_, fun e he => ?_, h.n0.n0, by show iR 0; omega, rfl⟩
  · cases hb
  · cases he
    show iU (nT N) 0 v 0 = _
    rw [iU_same, hc]
theorem RT.gm (h : RT T N A) : gmV T.G := h.1.1
theorem RT.laid (h : RT T N A) : (gAll T.G ≤ mLaid A ↔ T.Y 3 0 = gAll T.G) ∧ T.Y 3 0 = mLaid A := by
  obtain ⟨⟨v1, -⟩, -, -, C, es, b1, -⟩ := h
  have e := b1.2.2.2.2.2.2.2.1
  have hA := gAll_rng v1
  have hn := nC_eq v1
  have a6 := fun (c : Nat) hc => b1.2.2.2.2.2.1 c hc
  have m : mLaid A = cnt (fun x => decide (A 4 x ≠ 0)) 52 := by
    have := mLd_cnt (f := A 4) 52 0
    rw [Nat.zero_add] at this
    exact this
  have c2 := cnt_up (p := fun x => decide (A 4 x ≠ 0)) (n := nC T.G) (52 - nC T.G) fun k h1 h2 => decide_eq_false fun w => w ((a6 k (by omega)).2.2.2 ((a6 k (by omega)).2.1 (by omega)))
  rw [show nC T.G + (52 - nC T.G) = 52 by omega] at c2
  have le := cnt_le (fun x => decide (A 4 x ≠ 0)) (nC T.G)
  refine ⟨?_, e⟩
  rw [e, m, c2]
  omega
theorem RT.lay (h : RT T N A) (hz : iR z) (hc : iR c) : agr (T := T) (tLay T z c) (mLy T.G N A z c) cd1 ∧ (gCol T.G z → 0 ≤ c ∧ c < gAll T.G → A 4 c.toNat = 0 → A 1 z.toNat ≤ 51) := by
  have h0 := h
  obtain ⟨⟨v1, v2, v3, v4, v5⟩, ⟨a1, a2, a3, a4, a5⟩, ⟨h1, h2, h3, h4⟩, C, es, b1, b2, b3, b4⟩ := h
  have hG' := v1
  unfold gmV at hG'
  have hA := gAll_rng v1
  have y4 : 0 ≤ c ∧ c < gAll T.G → (A 4 c.toNat = 0 ↔ T.Y 0 c.toNat = -4) := fun q => (b1.2.2.2.2.2.1 c.toNat (by omega)).2.2
  have hh : gCol T.G z → 0 ≤ c ∧ c < gAll T.G → A 4 c.toNat = 0 → A 1 z.toNat ≤ 51 := fun g q e => by
    have l := (b1.hand v1 q ((y4 q).1 e)).len v1 (p := z.toNat) (by omega)
    have := (b1.1 z.toNat (by omega)).2.1.1
    omega
  refine ⟨?_, hh⟩
  unfold tLay mLy
  by_cases g : gCol T.G z ∧ 0 ≤ c ∧ c < gAll T.G
  · rw [if_pos g, if_pos g]
    by_cases e : A 4 c.toNat = 0
    · have n4 := (y4 g.2).1 e
      rw [if_neg (fun w => w n4), if_pos e]
      have L := b1.lay v1 (p := z.toNat) (c := c) (by omega) g.2 n4
      rw [show ((z.toNat : Nat) : Int) = z by omega] at L
      have el := L.2.2.2.2.2.2.2.1
      have el : T.Y 3 0 + 1 = mLaid (mLyA A z c) := el
      have mr := mLaid_rng (A := mLyA A z c)
      have enil : es = [] := Classical.byContradiction fun w => by
        have := b1.full v1 v2 (b4 w) c.toNat (by have := nC_eq v1; omega)
        omega
      refine ⟨fun b hb => ⟨rfl, ?_⟩, (fun ex hx => by cases hx), ⟨⟨v1, yLay_V v2 (by omega) (by omega), v3, v4, v5⟩, ⟨?_, msV_N a2 rfl rfl fun i hi => ?_, a3, a4, fun j hj => ?_⟩, ⟨by show (-1 : Int) ≤ -1 ∧ (-1 : Int) ≤ 300; omega, h2, rfl, h4⟩, _, [], L, ?_, trivial, fun w => absurd rfl w⟩, by show iR (mLaid (mLyA A z c)); omega, rfl⟩
      · cases hb
        show some (iV (T.Y 3 0 + 1)) = some (iV (mLaid (mLyA A z c)))
        rw [el]
      · have V := mPu_V (z := z) (c := c) a1 (by omega) (hh g.1 g.2 e)
        exact ⟨V.1, V.2.1, V.2.2.1, V.2.2.2.1, iU_rng V.2.2.2.2.1 (by omega), V.2.2.2.2.2⟩
      · show fU (fU (fU A 0 _) 1 _) 4 _ i = _
        rw [fUn _ (by omega), fUn _ (by omega), fUn _ (by omega)]
      · show iU (A 1) z.toNat _ j ≤ 0
        rw [iU_ne _ _ (by omega)]
        exact a5 j hj
      · rw [enil] at b2
        exact b2.keep rfl rfl
    · have n4 : T.Y 0 c.toNat ≠ -4 := fun w => e ((y4 g.2).2 w)
      rw [if_pos n4, if_neg e]
      exact agr_no h0 rfl
  · rw [if_neg g, if_neg g]
    exact agr_no h0 rfl
theorem gPla_r (hG : gmV G) (h : gPla G z) : 0 ≤ z ∧ z ≤ 12 := by
  unfold gmV at hG
  rcases h with h | h | h <;> omega
/-- a move that the rules allow -/
theorem RT.go (h : RT T N A) (hL : T.Y 3 0 = gAll T.G) (hz : gCol T.G z ∨ gCel T.G z) (hy : gPla T.G y) (hm : 1 ≤ m) (ha : mMay T.G A z y m) :
    okB T z y m ∧ okR T.G A z y m (mTp T.G A z) ∧ mtV (mMkA T.G N A z y m) ∧ RT (tBring T z y m) (mMkN N) (mMkA T.G N A z y m) ∧ m ≤ 13 ∧ tAlw T z y m := by
  have h0 := h
  obtain ⟨⟨v1, v2, -⟩, -, -, C, es, b1, -⟩ := h
  have al : tAlw T z y m := (b1.may v1 v2 hz hy hm).2 ha
  have le := alw_le al
  have hz' : gPla T.G z := by rcases hz with q | q; exact Or.inl q; exact Or.inr (Or.inl q)
  have := RT.bring h0 hL le (fun C' s => s.mvp v1 v2 hz hy hm ha) (gPla_r v1 hz') (gPla_r v1 hy)
  exact ⟨this.1, this.2.1, this.2.2.1, this.2.2.2, le.2, al⟩
theorem SR.mayC (h : RT T N A) (hz : gCol T.G z ∨ gCel T.G z) (hy : gPla T.G y) (hm : 1 ≤ m) : tAlw T z y m ↔ mMay T.G A z y m := by
  obtain ⟨⟨v1, v2, -⟩, -, -, C, es, b1, -⟩ := h
  exact b1.may v1 v2 hz hy hm
theorem agr_yes {m' : MO} {cd : Nat → Int} {v : Int} {T' : TT} (e : v = m'.1) (h0 : m'.2.1 0 = 0) (h : RT T' m'.2.1 m'.2.2) (hr : iR v) (hg : T'.G = T.G) : agr (T := T) (oI v, T') m' cd := by
  refine ⟨fun b hb => ⟨h0, ?_⟩, (fun ex hx => by cases hx), h, by rw [← e]; exact hr, hg⟩
  cases hb
  rw [e]
theorem RT.ah (h : RT T N A) : T.Y 3 1 = mAH A ∧ 0 ≤ T.Y 3 1 ∧ T.Y 3 1 ≤ 52 := by
  obtain ⟨⟨v1, v2, -⟩, -, -, C, es, b1, -⟩ := h
  exact ⟨b1.2.2.2.2.2.2.2.2, v2.2.2.2.2⟩
theorem mMkN_0 {N : Nat → Int} (h : N 0 = 0) : mMkN N 0 = 0 := by
  show iU (iU N 1 _) 2 _ 0 = 0
  rw [iU_ne _ _ (by omega), iU_ne _ _ (by omega)]; exact h
theorem RT.move (h : RT T N A) (hz : iR z) (hy : iR y) (hm : iR m) : agr (T := T) (tMove T z y m) (mMv T.G N A z y m) cd1 := by
  have hG := h.gm
  have hG' := hG
  unfold gmV at hG'
  unfold tMove mMv
  by_cases g : (gCol T.G z ∨ gCel T.G z) ∧ gPla T.G y ∧ 1 ≤ m
  · have g1 : gPla T.G z ∧ gPla T.G y ∧ z ≠ 12 ∧ 1 ≤ m := ⟨by rcases g.1 with q | q; exact Or.inl q; exact Or.inr (Or.inl q), g.2.1, by rcases g.1 with q | q <;> omega, g.2.2⟩
    rw [if_pos g1, if_pos g]
    by_cases e : T.Y 3 0 = gAll T.G ∧ tAlw T z y m
    · have e2 := (SR.mayC h g.1 g.2.1 g.2.2).1 e.2
      rw [if_pos e, if_pos ⟨h.laid.1.2 e.1, e2⟩]
      have K := RT.go (h.n0 (v := 0)) e.1 g.1 g.2.1 g.2.2 e2
      have R := K.2.2.2.1
      have ah := R.ah
      exact agr_yes ah.1 (mMkN_0 (N := nT N) (iU_same N 0 0)) R (by omega) rfl
    · rw [if_neg e, if_neg (fun w => e ⟨h.laid.1.1 w.1, (SR.mayC h g.1 g.2.1 g.2.2).2 w.2⟩)]
      exact agr_no h rfl
  · rw [if_neg (fun w => g ⟨by rcases w.1 with q | q | q; exact Or.inl q; exact Or.inr q; exact absurd q w.2.2.1, w.2.1, w.2.2.2⟩), if_neg g]
    exact agr_no h rfl
theorem mPlc_eq (hG : gmV G) (a : Int) : (0 ≤ mPlc G a ↔ gPla G (lTold a)) ∧ (gPla G (lTold a) → mPlc G a = lTold a) := by
  unfold mPlc
  by_cases q : gPla G (lTold a)
  · rw [if_pos q]; exact ⟨⟨fun _ => q, fun _ => (gPla_r hG q).1⟩, fun _ => rfl⟩
  · rw [if_neg q]; exact ⟨⟨fun w => by omega, fun w => absurd w q⟩, fun w => absurd w q⟩
theorem RT.am (h : RT T N A) (hz : gCol T.G z ∨ gCel T.G z) (hy : gPla T.G y) : (¬ mAm T.G A z y = 0 → 1 ≤ mAm T.G A z y ∧ mMay T.G A z y (mAm T.G A z y) ∧ tAm T z y = mAm T.G A z y) ∧ (mAm T.G A z y = 0 → ¬ tAlw T z y (tAm T z y)) := by
  have hG := h.gm
  obtain ⟨⟨v1, v2, -⟩, -, -, C, es, b1, -⟩ := h
  unfold mAm tAm
  by_cases g : gCol T.G z ∧ gCol T.G y
  · rw [if_pos g, if_pos g]
    have em := b1.most v1 v2 g.1 g.2
    rw [em]
    have gr := lMb_gre (G := T.G) (b := T.Y 0) (t := T.Y 1) (h := T.Y 2) (z := z) (y := y) (lRow T.G (T.Y 0) (T.Y 1) z).toNat
    have em' : lMb T.G (T.Y 0) (T.Y 1) (T.Y 2) z y (lRow T.G (T.Y 0) (T.Y 1) z).toNat = mMost T.G A z y := em
    rw [em'] at gr
    have rng := (lMb_rng (G := T.G) (b := T.Y 0) (t := T.Y 1) (h := T.Y 2) (z := z) (y := y) (lRow T.G (T.Y 0) (T.Y 1) z).toNat).1
    rw [em'] at rng
    refine ⟨fun w => ⟨by omega, ?_, rfl⟩, fun w => ?_⟩
    · have key : ∀ (n : Nat) (x : Int), gre (fun m => lAlw T.G (T.Y 0) (T.Y 1) (T.Y 2) z y m) n x → x ≠ 0 → lAlw T.G (T.Y 0) (T.Y 1) (T.Y 2) z y x := by
        intro n
        induction n with
        | zero => intro x hx h0; exact absurd hx h0
        | succ n ih =>
          intro x hx h0
          rcases hx with ⟨a, b⟩ | ⟨a, b⟩
          · rw [b]; exact a
          · exact ih x b h0
      exact (b1.may v1 v2 hz hy (by omega)).1 (key _ _ gr w)
    · rw [w]
      intro q
      have := alw_le q
      omega
  · rw [if_neg g, if_neg g]
    have o := b1.may v1 v2 hz hy (m := 1) (by omega)
    unfold mMay at o
    rw [if_pos rfl] at o
    by_cases q : mOne T.G A z y
    · rw [if_pos q]
      refine ⟨fun _ => ⟨by omega, by unfold mMay; rw [if_pos rfl]; exact q, rfl⟩, fun w => by omega⟩
    · rw [if_neg q]
      exact ⟨fun w => absurd rfl w, fun _ w => q (o.1 w)⟩
theorem RT.play (h : RT T N A) (a b : Int) : agr (T := T) (tPlay T a b) (mPlay T.G N A a b) cd1 := by
  have hG := h.gm
  have hG' := hG
  unfold gmV at hG'
  obtain ⟨p1, p2⟩ := mPlc_eq hG a
  obtain ⟨q1, q2⟩ := mPlc_eq hG b
  unfold tPlay mPlay
  by_cases g : gPla T.G (lTold a) ∧ gPla T.G (lTold b) ∧ lTold a ≠ 12
  · rw [p2 g.1, q2 g.2.1]
    generalize lTold a = z at *
    generalize lTold b = y at *
    have hz : gCol T.G z ∨ gCel T.G z := by rcases g.1 with q | q | q; exact Or.inl q; exact Or.inr q; exact absurd q g.2.2
    have am := h.am hz g.2.1
    rw [show tPl T z y (tAm T z y) = (if T.Y 3 0 = gAll T.G ∧ tAlw T z y (tAm T z y) then (oI (tAm T z y), tBring T z y (tAm T z y)) else (.inr 1, T)) from if_pos g, show mPl T.G N A z y (mAm T.G A z y) = (if gAll T.G ≤ mLaid A ∧ mAm T.G A z y ≠ 0 then (mAm T.G A z y, mMkN (nT N), mMkA T.G (nT N) A z y (mAm T.G A z y)) else (0, iU (nT N) 0 2, A)) from if_pos ⟨(gPla_r hG g.1).1, (gPla_r hG g.2.1).1, g.2.2⟩]
    by_cases m0 : mAm T.G A z y = 0
    · rw [if_neg (show ¬ (T.Y 3 0 = gAll T.G ∧ tAlw T z y (tAm T z y)) from fun w => am.2 m0 w.2), if_neg (show ¬ (gAll T.G ≤ mLaid A ∧ mAm T.G A z y ≠ 0) from fun w => w.2 m0)]
      exact agr_no h rfl
    · obtain ⟨m1, m2, m3⟩ := am.1 m0
      rw [m3]
      have al := (SR.mayC h hz g.2.1 m1).2 m2
      by_cases e : T.Y 3 0 = gAll T.G
      · rw [if_pos (show T.Y 3 0 = gAll T.G ∧ tAlw T z y (mAm T.G A z y) from ⟨e, al⟩), if_pos (show gAll T.G ≤ mLaid A ∧ mAm T.G A z y ≠ 0 from ⟨h.laid.1.2 e, m0⟩)]
        have K := RT.go (h.n0 (v := 0)) e hz g.2.1 m1 m2
        exact agr_yes rfl (mMkN_0 (N := nT N) (iU_same N 0 0)) K.2.2.2.1 (by have := K.2.2.2.2.1; omega) rfl
      · rw [if_neg (show ¬ (T.Y 3 0 = gAll T.G ∧ tAlw T z y (mAm T.G A z y)) from fun w => e w.1), if_neg (show ¬ (gAll T.G ≤ mLaid A ∧ mAm T.G A z y ≠ 0) from fun w => e (h.laid.1.1 w.1))]
        exact agr_no h rfl
  · unfold tPl mPl
    rw [if_neg g, if_neg (fun w => g ⟨p1.1 w.1, q1.1 w.2.1, by rw [← p2 (p1.1 w.1)]; exact w.2.2⟩)]
    exact agr_no h rfl
end ZSI
