section ZRL6
variable {G : Nat → Int} {Y A Y' A' : Nat → Nat → Int} {C : Nat → List Int} {z y m c : Int} {k p : Nat}
theorem pile_split {b : Nat → Int} {lo : Int} {r : List Int} : ∀ (ini : List Int) (t : Int), pile b t (ini ++ lo :: r) → pile b (b lo.toNat) r ∧ 0 ≤ lo ∧ ∀ (b' : Nat → Int) (q : List Int), (∀ c ∈ ini, b' c.toNat = b c.toNat) → pile b' (b' lo.toNat) q → pile b' t (ini ++ lo :: q) := by
  intro ini
  induction ini with
  | nil => intro t h; exact ⟨h.2.2, h.2.1, fun b' q _ hq => ⟨h.1, h.2.1, hq⟩⟩
  | cons a ini ih =>
    intro t h
    obtain ⟨h1, h2, h3⟩ := h
    obtain ⟨g1, g2, g3⟩ := ih _ h3
    refine ⟨g1, g2, fun b' q hb hq => ⟨h1, h2, ?_⟩⟩
    rw [hb a (List.mem_cons_self ..)]
    exact g3 b' q (fun c hc => hb c (List.mem_cons_of_mem _ hc)) hq
theorem mcol_at {l : List Int} (h : mcol A p l) (hk : k < l.length) : mFT A p k = l[k] := by
  rw [mFT_mcol h (by omega), show ((k : Int)).toNat = k by omega, List.getElem?_eq_getElem hk]
  rfl
/-- cards are put on y one by one -/
theorem mBl_col {l : List Int} {q z y : Nat} (hz : z < 8) (hy : y < 8) (hzy : z ≠ y) : ∀ (k : Nat) (A : Nat → Nat → Int) (ys : List Int), mcol A z l → l.length ≤ 52 → mcol A y ys → k ≤ l.length → ys.length + k ≤ 52 →
    mcol (mBl z y k A) y (l.take k ++ ys) ∧ (∀ q l', q < 8 → q ≠ y → mcol A q l' → l'.length ≤ 52 → mcol (mBl z y k A) q l') ∧ ∀ i, 2 ≤ i → mBl z y k A i = A i := by
  intro k
  induction k with
  | zero => intro A ys h1 _ h2 _ _; exact ⟨h2, fun q l' _ _ h _ => h, fun i _ => rfl⟩
  | succ k ih =>
    intro A ys h1 hl h2 hk hy2
    have e := mcol_at h1 (k := k) (by omega)
    have keep : ∀ q l', q < 8 → q ≠ y → mcol A q l' → l'.length ≤ 52 → mcol (mPu A y (mFT A z k)) q l' := fun q l' hq hqy h hl' => mcol_keep h hl' (by
      show iU (A 1) (y : Int).toNat _ q = A 1 q
      rw [iU_ne _ _ (by omega)]) fun j hj1 hj2 => by
      show iU (A 0) (52 * (y : Int) + A 1 (y : Int).toNat).toNat _ j = A 0 j
      rw [show (y : Int).toNat = y by omega, h2.1]
      exact iU_ne _ _ (by omega)
    have p2 := mcol_push h2 (by omega) (mFT A z k)
    obtain ⟨g1, g2, g3⟩ := ih (mPu A y (mFT A z k)) (mFT A z k :: ys) (keep z l hz hzy h1 hl) hl p2 (by omega) (by
      have : (mFT A z k :: ys).length = ys.length + 1 := rfl
      omega)
    refine ⟨?_, fun q l' hq hqy h hl' => g2 q l' hq hqy (keep q l' hq hqy h hl') hl', fun i hi => ?_⟩
    · show mcol (mBl z y k (mPu A y (mFT A z k))) y _
      rw [List.take_succ_eq_append_getElem (by omega), List.append_assoc, ← e]
      exact g1
    · show mBl z y k (mPu A y (mFT A z k)) i = A i
      rw [g3 i hi]
      show fU (fU A 0 _) 1 _ i = A i
      rw [fUn _ (by omega), fUn _ (by omega)]
theorem nd_app {l l' : List Int} (h1 : l.Nodup) (h2 : l'.Nodup) (hd : ∀ x, x ∈ l → x ∉ l') : (l ++ l').Nodup := by
  rw [List.nodup_append]
  exact ⟨h1, h2, fun a ha b hb e => hd a ha (by rw [e]; exact hb)⟩
theorem SR.two (hG : gmV G) (h : SR G Y A C) {p q : Nat} (hp : p < 8) (hq : q < 8) (hpq : p ≠ q) : (C p).length + (C q).length ≤ 52 := by
  have hA := gAll_rng hG
  have := nd_len 52 (C p ++ C q) (nd_app (h.1 p hp).2.2.1 (h.1 q hq).2.2.1 fun x h1 h2 => hpq (h.2.1 p q x hp hq h1 h2)) fun x hx => by
    rcases List.mem_append.1 hx with hx | hx
    · have := h.mem hG hp x hx; omega
    · have := h.mem hG hq x hx; omega
  rw [List.length_append] at this
  exact this
def rowC (z y m : Int) (C : Nat → List Int) : Nat → List Int := fU (fU C z.toNat ((C z.toNat).drop m.toNat)) y.toNat ((C z.toNat).take m.toNat ++ C y.toNat)
/-- a row is moved -/
theorem SR.rowm (hG : gmV G) (h : SR G Y A C) (hz : gCol G z) (hy : gCol G y) (hzy : z ≠ y) {ini r : List Int} {lo : Int} (hl : C z.toNat = ini ++ lo :: r) (hm : m = ini.length + 1) : SR G (cY G Y lo z y) (mBs (mBl z y m.toNat A) z m) (rowC z y m C) := by
  have hG' := hG
  unfold gmV at hG'
  have hA := gAll_rng hG
  have hz8 : z.toNat < 8 := by omega
  have hy8 : y.toNat < 8 := by omega
  have hne : z.toNat ≠ y.toNat := by omega
  have two := h.two hG hz8 hy8 hne
  have hlen : (C z.toNat).length = ini.length + 1 + r.length := by
    rw [hl, List.length_append]
    show ini.length + (r.length + 1) = _
    omega
  have etk : (C z.toNat).take m.toNat = ini ++ [lo] := by
    rw [hl, show m.toNat = ini.length + 1 by omega]
    rw [show ini ++ lo :: r = (ini ++ [lo]) ++ r by simp]
    exact List.take_left' (by simp)
  have edr : (C z.toNat).drop m.toNat = r := by
    rw [hl, show m.toNat = ini.length + 1 by omega]
    rw [show ini ++ lo :: r = (ini ++ [lo]) ++ r by simp]
    exact List.drop_left' (by simp)
  have eC : rowC z y m C = fU (fU C z.toNat r) y.toNat (ini ++ lo :: C y.toNat) := by
    unfold rowC
    rw [etk, edr]
    simp
  obtain ⟨z1, z2, z3, z4⟩ := h.1 z.toNat hz8
  obtain ⟨w1, w2, w3, w4⟩ := h.1 y.toNat hy8
  rw [hl] at z1 z3
  obtain ⟨s1, s2, s3⟩ := pile_split ini _ z1
  have bl := mBl_col (q := 0) hz8 hy8 hne m.toNat A (C y.toNat) z2 (h.len hG hz8) w2 (by omega) (by omega)
  rw [show ((z.toNat : Nat) : Int) = z by omega, show ((y.toNat : Nat) : Int) = y by omega, etk] at bl
  obtain ⟨l1, l2, l3⟩ := bl
  have mz := l2 z.toNat _ hz8 hne z2 (h.len hG hz8)
  have nd := List.nodup_append.1 z3
  have lo_ini : lo ∉ ini := fun q => nd.2.2 lo q lo (List.mem_cons_self ..) rfl
  have lo_r : lo ∉ r := (List.nodup_cons.1 nd.2.1).1
  have lomem : lo ∈ C z.toNat := by rw [hl]; exact List.mem_append_right _ (List.mem_cons_self ..)
  have y0 : cY G Y lo z y 0 = iU (Y 0) lo.toNat (Y 1 y.toNat) := by
    show iU (Y 0) lo.toNat (lGrd (Y 1) y) = _
    unfold lGrd
    rw [if_neg (by omega), if_neg (by omega)]
  have y1 : cY G Y lo z y 1 = iU (iU (Y 1) z.toNat (Y 0 lo.toNat)) y.toNat (Y 1 z.toNat) := by
    show cT (Y 0) (Y 1) lo z y = _
    unfold cT
    rw [if_neg (by omega), if_neg (by omega), if_neg (by omega)]
  have y2 : cY G Y lo z y 2 = Y 2 := by
    show cH G (Y 2) lo z y = _
    unfold cH
    rw [if_neg (by omega), if_neg (by omega)]
  have y3 : cY G Y lo z y 3 1 = Y 3 1 := by
    show cA (Y 3 1) z y = _
    unfold cA
    rw [if_neg (by omega), if_neg (by omega)]
  have a2 : ∀ i, 2 ≤ i → mBs (mBl z y m.toNat A) z m i = A i := fun i hi => by
    show fU _ 1 _ i = _
    rw [fUn _ (by omega)]
    exact l3 i hi
  have a0 : mBs (mBl z y m.toNat A) z m 0 = mBl z y m.toNat A 0 := rfl
  have a1 : mBs (mBl z y m.toNat A) z m 1 = iU (mBl z y m.toNat A 1) z.toNat (mBl z y m.toNat A 1 z.toNat - m) := rfl
  have mem' : ∀ x : Int, x ∈ C z.toNat ↔ x ∈ ini ∨ x = lo ∨ x ∈ r := fun x => by rw [hl]; simp
  have memC : ∀ x : Int, (∃ p, p < 8 ∧ x ∈ rowC z y m C p) ↔ ∃ p, p < 8 ∧ x ∈ C p := fun x => by
    rw [eC]
    constructor
    · intro ⟨q, hq, hx⟩
      by_cases e : q = y.toNat
      · subst e
        rw [fU_same] at hx
        rcases List.mem_append.1 hx with hx | hx
        · exact ⟨z.toNat, hz8, (mem' x).2 (Or.inl hx)⟩
        · rcases List.mem_cons.1 hx with hx | hx
          · exact ⟨z.toNat, hz8, (mem' x).2 (Or.inr (Or.inl hx))⟩
          · exact ⟨y.toNat, hq, hx⟩
      · rw [fUn _ e] at hx
        by_cases e2 : q = z.toNat
        · subst e2
          rw [fU_same] at hx
          exact ⟨z.toNat, hz8, (mem' x).2 (Or.inr (Or.inr hx))⟩
        · rw [fUn _ e2] at hx
          exact ⟨q, hq, hx⟩
    · intro ⟨q, hq, hx⟩
      by_cases e2 : q = z.toNat
      · subst e2
        rcases (mem' x).1 hx with hx | hx | hx
        · exact ⟨y.toNat, hy8, by rw [fU_same]; exact List.mem_append_left _ hx⟩
        · exact ⟨y.toNat, hy8, by rw [fU_same, hx]; exact List.mem_append_right _ (List.mem_cons_self ..)⟩
        · exact ⟨z.toNat, hz8, by rw [fUn _ hne, fU_same]; exact hx⟩
      · by_cases e : q = y.toNat
        · subst e
          exact ⟨y.toNat, hy8, by rw [fU_same]; exact List.mem_append_right _ (List.mem_cons_of_mem _ hx)⟩
        · exact ⟨q, hq, by rw [fUn _ e, fUn _ e2]; exact hx⟩
  have hzy' : ∀ x : Int, x ∈ C z.toNat → x ∉ C y.toNat := fun x h1 h2 => hne (h.2.1 _ _ x hz8 hy8 h1 h2)
  have ndz : (ini ++ lo :: C y.toNat).Nodup := by
    refine nd_app nd.1 (List.nodup_cons.2 ⟨hzy' lo lomem, w3⟩) fun x hx hx2 => ?_
    rcases List.mem_cons.1 hx2 with q | q
    · exact lo_ini (by rw [← q]; exact hx)
    · exact hzy' x ((mem' x).2 (Or.inl hx)) q
  have kp : ∀ l u, (∀ x ∈ l, 0 ≤ x) → lo ∉ l → pile (Y 0) u l → pile (iU (Y 0) lo.toNat (Y 1 y.toNat)) u l := fun l u hp hn hpl => pile_keep _ _ hpl fun x hx => iU_ne _ _ fun e => hn (by
    have := hp x hx
    rw [show lo = x by omega]; exact hx)
  refine ⟨fun q hq => ?_, fun q q' x hq hq' hx hx' => ?_, fun k hk => ?_, ?_, fun s hs => ?_, fun x hx => ?_, ⟨fun q h1 h2 => ?_, ?_⟩, ?_, ?_⟩
  · rw [y0, y1, eC]
    by_cases e : q = y.toNat
    · subst e
      rw [fU_same, iU_same]
      refine ⟨s3 _ _ (fun x hx => iU_ne _ _ fun e => lo_ini ?_) ?_, ?_, ndz, fun x hx => ?_⟩
      · have := (h.mem hG hz8 x ((mem' x).2 (Or.inl hx))).1
        rw [show lo = x by omega]; exact hx
      · rw [iU_same]
        exact kp _ _ (pile_pos _ _ w1) (hzy' lo lomem) w1
      · rw [show ini ++ lo :: C y.toNat = (ini ++ [lo]) ++ C y.toNat by simp]
        unfold mcol at l1 ⊢
        rw [a0, a1, iU_ne _ _ (by omega)]
        exact l1
      · rcases List.mem_append.1 hx with hx | hx
        · exact z4 x ((mem' x).2 (Or.inl hx))
        · rcases List.mem_cons.1 hx with hx | hx
          · exact z4 x ((mem' x).2 (Or.inr (Or.inl hx)))
          · exact w4 x hx
    · rw [fUn _ e, iU_ne _ _ e]
      by_cases e2 : q = z.toNat
      · subst e2
        rw [fU_same, iU_same]
        refine ⟨kp _ _ (pile_pos _ _ s1) lo_r s1, ?_, (List.nodup_cons.1 nd.2.1).2, fun x hx => z4 x ((mem' x).2 (Or.inr (Or.inr hx)))⟩
        unfold mcol at mz ⊢
        rw [a0, a1, iU_same, mz.1]
        refine ⟨by omega, fun i hi => ?_⟩
        have := mz.2 (i + m.toNat) (by omega)
        rw [show (C z.toNat).length - 1 - (i + m.toNat) = r.length - 1 - i by omega] at this
        rw [this, ← edr, List.getElem?_drop, Nat.add_comm]
      · rw [fUn _ e2, iU_ne _ _ e2]
        obtain ⟨g1, g2, g3, g4⟩ := h.1 q hq
        refine ⟨kp _ _ (pile_pos _ _ g1) (fun hx => e2 (h.2.1 q z.toNat lo hq hz8 hx lomem)) g1, ?_, g3, g4⟩
        have := l2 q _ hq e g2 (h.len hG hq)
        unfold mcol at this ⊢
        rw [a0, a1, iU_ne _ _ e2]
        exact this
  · rw [eC] at hx hx'
    have cl : ∀ q, q < 8 → x ∈ fU (fU C z.toNat r) y.toNat (ini ++ lo :: C y.toNat) q → (q = y.toNat ∧ (x ∈ ini ∨ x = lo ∨ x ∈ C y.toNat)) ∨ (q = z.toNat ∧ x ∈ r) ∨ (q ≠ y.toNat ∧ q ≠ z.toNat ∧ x ∈ C q) := fun q hq hx => by
      by_cases e : q = y.toNat
      · subst e
        rw [fU_same] at hx
        left
        refine ⟨rfl, ?_⟩
        rcases List.mem_append.1 hx with hx | hx
        · exact Or.inl hx
        · rcases List.mem_cons.1 hx with hx | hx
          · exact Or.inr (Or.inl hx)
          · exact Or.inr (Or.inr hx)
      · rw [fUn _ e] at hx
        by_cases e2 : q = z.toNat
        · subst e2
          rw [fU_same] at hx
          exact Or.inr (Or.inl ⟨rfl, hx⟩)
        · rw [fUn _ e2] at hx
          exact Or.inr (Or.inr ⟨e, e2, hx⟩)
    have noz : x ∈ r → ¬ (x ∈ ini ∨ x = lo ∨ x ∈ C y.toNat) := fun hr q => by
      rcases q with q | q | q
      · exact nd.2.2 x q x (List.mem_cons_of_mem _ hr) rfl
      · exact lo_r (by rw [← q]; exact hr)
      · exact hzy' x ((mem' x).2 (Or.inr (Or.inr hr))) q
    have noq : ∀ q, q < 8 → q ≠ y.toNat → q ≠ z.toNat → x ∈ C q → ¬ (x ∈ ini ∨ x = lo ∨ x ∈ C y.toNat) := fun q hq h1 h2 hx o => by
      rcases o with o | o | o
      · exact h2 (h.2.1 q _ x hq hz8 hx ((mem' x).2 (Or.inl o)))
      · exact h2 (h.2.1 q _ x hq hz8 hx ((mem' x).2 (Or.inr (Or.inl o))))
      · exact h1 (h.2.1 q _ x hq hy8 hx o)
    rcases cl q hq hx with ⟨e1, a⟩ | ⟨e1, a⟩ | ⟨e1, e2, a⟩
    · rcases cl q' hq' hx' with ⟨f1, b⟩ | ⟨f1, b⟩ | ⟨f1, f2, b⟩
      · omega
      · exact absurd a (noz b)
      · exact absurd a (noq q' hq' f1 f2 b)
    · rcases cl q' hq' hx' with ⟨f1, b⟩ | ⟨f1, b⟩ | ⟨f1, f2, b⟩
      · exact absurd b (noz a)
      · omega
      · exact absurd (h.2.1 q' _ x hq' hz8 b ((mem' x).2 (Or.inr (Or.inr a)))) f2
    · rcases cl q' hq' hx' with ⟨f1, b⟩ | ⟨f1, b⟩ | ⟨f1, f2, b⟩
      · exact absurd b (noq q hq e1 e2 a)
      · exact absurd (h.2.1 q _ x hq hz8 a ((mem' x).2 (Or.inr (Or.inr b)))) e2
      · exact h.2.1 q q' x hq hq' a b
  · rw [y1, a2 2 (by omega), iU_ne _ _ (by omega), iU_ne _ _ (by omega)]
    exact h.2.2.1 k hk
  · rw [a2 2 (by omega)]; exact h.2.2.2.1
  · rw [y2, a2 3 (by omega)]; exact h.2.2.2.2.1 s hs
  · rw [y0, a2 2 (by omega), a2 3 (by omega), a2 4 (by omega)]
    obtain ⟨g1, g2, g3⟩ := h.2.2.2.2.2.1 x hx
    by_cases e : x = lo.toNat
    · have hxl : (x : Int) = lo := by omega
      have hxa : (x : Int) < gAll G := by rw [hxl]; exact z4 lo lomem
      obtain ⟨f1, f2, f3⟩ := g1 hxa
      have b1 := f1.2 ⟨z.toNat, hz8, by rw [hxl]; exact lomem⟩
      have t1 : -1 ≤ Y 1 y.toNat := by
        have w1' := w1
        cases hq : C y.toNat with
        | nil => rw [hq] at w1'; have w1' : Y 1 y.toNat = -1 := w1'; omega
        | cons a l => rw [hq] at w1'; have e1 := w1'.1; have e2 := w1'.2.1; omega
      rw [e, iU_same]
      rw [e] at f1 f2 f3 g3 b1 hxa
      refine ⟨fun _ => ⟨⟨fun _ => (memC _).2 ⟨z.toNat, hz8, by rw [← e, hxl]; exact lomem⟩, fun _ => t1⟩, ⟨fun q => by omega, fun q => by have := f2.2 q; omega⟩, ⟨fun q => by omega, fun q => by have := f3.2 q; omega⟩⟩, fun q => by omega, ⟨fun q => by have := g3.1 q; omega, fun q => by omega⟩⟩
    · rw [iU_ne _ _ e]
      refine ⟨fun q => ?_, g2, g3⟩
      obtain ⟨f1, f2, f3⟩ := g1 q
      exact ⟨f1.trans (memC _).symm, f2, f3⟩
  · rw [eC, fUn _ (by omega), fUn _ (by omega)]
    exact h.2.2.2.2.2.2.1.1 q h1 h2
  · rw [a2 2 (by omega)]; exact h.2.2.2.2.2.2.1.2
  · show Y 3 0 = mLd (mBs (mBl z y m.toNat A) z m 4) 52 0 0
    rw [a2 4 (by omega)]
    exact h.2.2.2.2.2.2.2.1
  · rw [y3]
    show _ = mBs (mBl z y m.toNat A) z m 3 0 + mBs (mBl z y m.toNat A) z m 3 1 + mBs (mBl z y m.toNat A) z m 3 2 + mBs (mBl z y m.toNat A) z m 3 3
    rw [a2 3 (by omega)]
    exact h.2.2.2.2.2.2.2.2
end ZRL6
