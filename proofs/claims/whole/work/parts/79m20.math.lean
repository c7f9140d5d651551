section ZSA
variable {G N : Nat → Int} {τ : MO} {s n o l : Int} {u i r L ld' c : Nat} {p0 p q : List Int} {Y A : Nat → Nat → Int} {beg : Nat → Nat} {b0 : Nat → Int}
/-- d more moves and one lead to the end -/
def GD (G : Nat → Int) (p0 : List Int) (L : Nat) : Nat → List Int → Prop
  | 0, q => Sc G q (wnP (nC G))
  | d + 1, q => ∃ q', Sc G q q' ∧ Lv G p0 (L - 1 - d) q' ∧ GD G p0 L d q'
/-- where a move from level l must lead to -/
def TG (G : Nat → Int) (p0 : List Int) (L l : Nat) (q : List Int) : Prop := if l + 1 = L then q = wnP (nC G) else Lv G p0 (l + 1) q ∧ GD G p0 L (L - 2 - l) q
theorem GD_TG {l' : Nat} (hl : l' + 1 ≤ L) : GD G p0 L (L - 1 - l') p ↔ ∃ q, Sc G p q ∧ TG G p0 L l' q := by
  unfold TG
  by_cases e : l' + 1 = L
  · rw [show L - 1 - l' = 0 by omega]
    constructor
    · intro w; exact ⟨_, w, by rw [if_pos e]⟩
    · rintro ⟨q, a, b⟩
      rw [if_pos e] at b
      rw [b] at a; exact a
  · rw [show L - 1 - l' = (L - 2 - l') + 1 by omega]
    show (∃ q', Sc G p q' ∧ Lv G p0 (L - 1 - (L - 2 - l')) q' ∧ GD G p0 L (L - 2 - l') q') ↔ _
    rw [show L - 1 - (L - 2 - l') = l' + 1 by omega]
    constructor
    · rintro ⟨q, a, b⟩; exact ⟨q, a, by rw [if_neg e]; exact b⟩
    · rintro ⟨q, a, b⟩; rw [if_neg e] at b; exact ⟨q, a, b⟩
/-- good is told for the levels from l0 on -/
def GO (G : Nat → Int) (p0 : List Int) (L : Nat) (beg : Nat → Nat) (l0 : Nat) (τ : MO) : Prop := ∀ l, l0 ≤ l → l + 1 ≤ L → ∀ j, beg l ≤ j → j < beg (l + 1) → (τ.2.2 9 j ≠ 0 ↔ GD G p0 L (L - 1 - l) (rPos G (τ.2.2 7) j))
/-- τ' is τ but for the row that is tried -/
def lk (G : Nat → Int) (τ τ' : MO) : Prop := sCt τ' = sCt τ ∧ τ'.2.1 4 = τ.2.1 4 ∧ τ'.2.1 5 = τ.2.1 5 ∧ τ'.2.2 10 = τ.2.2 10 ∧ (∀ j, j < sCt τ → τ'.2.2 9 j = τ.2.2 9 j) ∧ (∀ j k, j < sCt τ → k < 52 → τ'.2.2 7 (52 * j + k) = τ.2.2 7 (52 * j + k)) ∧ (∀ j, j < sCt τ → τ'.2.2 8 j = τ.2.2 8 j) ∧ ∀ i, i ≤ 6 → τ'.2.2 i = τ.2.2 i
theorem lk.rf : lk G τ τ := ⟨rfl, rfl, rfl, rfl, fun _ _ => rfl, fun _ _ _ _ => rfl, fun _ _ => rfl, fun _ _ => rfl⟩
theorem lk.trans {τ' τ'' : MO} (h : lk G τ τ') (g : lk G τ' τ'') : lk G τ τ'' := by
  obtain ⟨h1, h2, h3, h4, h5, h6, h7, h8⟩ := h
  obtain ⟨g1, g2, g3, g4, g5, g6, g7, g8⟩ := g
  exact ⟨g1.trans h1, g2.trans h2, g3.trans h3, g4.trans h4, fun j hj => (g5 j (by omega)).trans (h5 j hj), fun j k hj hk => (g6 j k (by omega) hk).trans (h6 j k hj hk), fun j hj => (g7 j (by omega)).trans (h7 j hj), fun i hi => (g8 i hi).trans (h8 i hi)⟩
theorem lk.pos {τ' : MO} (hG : gmV G) (h : lk G τ τ') : ∀ j, j < sCt τ → rPos G (τ'.2.2 7) j = rPos G (τ.2.2 7) j := fun j hj => pos_eq.2 fun x hx => by
  have := gAll_rng hG
  have := nC_eq hG
  show dec _ = dec _
  rw [h.2.2.2.2.2.1 j x hj (by omega)]
theorem lk.rw {τ' : MO} (hG : gmV G) (h : lk G τ τ') (g : RW G p0 L beg τ) : RW G p0 L beg τ' := by
  have hp := h.pos hG
  have := gAll_rng hG
  have := nC_eq hG
  obtain ⟨h1, h2, h3, h4, h5, h6, h7, h8⟩ := h
  obtain ⟨⟨g1, g1'⟩, ⟨g2, g3⟩, g4, g5, g6, g7, g8, g9⟩ := g
  unfold RW
  rw [h1, h2, h3, h4]
  refine ⟨⟨fun j hj => ?_, fun j hj => ?_⟩, ⟨g2, g3⟩, fun a b ha hb e => ?_, fun j hj => ?_, g6, g7.cong fun k hk => ?_, g8, g9⟩
  · exact ⟨fun x hx => by rw [h6 j x hj (by omega)]; exact (g1 j hj).1 x hx, fun x a b => by rw [h6 j x hj b]; exact (g1 j hj).2 x a b⟩
  · rw [h7 j hj, g1' j hj]
    exact mSm_c fun k hk => (h6 j k hj hk).symm
  · rw [hp a ha, hp b hb] at e; exact g4 a b ha hb e
  · rw [hp j (by omega)]; exact g5 j hj
  · exact hp k (by rw [show L - 1 + 1 = L by omega] at hk; omega)
theorem lk.go {τ' : MO} (hG : gmV G) (h : lk G τ τ') (g : RW G p0 L beg τ) {l0 : Nat} (hg : GO G p0 L beg l0 τ) : GO G p0 L beg l0 τ' := by
  intro l a b j c d
  have m := g.2.2.2.2.2.1.mono (l + 1) L (by omega) (by have := g.2.2.2.2.1; omega)
  have jl : j < sCt τ := by have := g.2.1.2; omega
  rw [h.2.2.2.2.1 j jl, h.pos hG j jl]
  exact hg l a b j c d
theorem lk_tr (hG : gmV G) {c : Int} : lk G τ (sTr τ r c o) := by
  refine ⟨sTr_ct, sTr_4, ?_, rfl, fun _ _ => rfl, fun j k hj hk => ?_, fun j hj => ?_, fun i hi => ?_⟩
  · rw [sTr_N]; unfold tnN; rw [iU_ne _ _ (by omega)]
  · show tnR (τ.2.2 7) r (sCt τ) c o 52 (52 * j + k) = _
    exact tnR_oth (by omega)
  · show iU (τ.2.2 8) (sCt τ) _ j = _
    exact iU_ne _ _ (by omega)
  · show fU (fU τ.2.2 7 _) 8 _ i = _
    rw [fUn _ (by omega), fUn _ (by omega)]
theorem lk_rg {x : Int} {s : RG} : lk G τ (x, rgN τ.2.1 s, rgA τ.2.2 s) := by
  refine ⟨rfl, rfl, rfl, rfl, fun _ _ => rfl, fun _ _ _ _ => rfl, fun _ _ => rfl, fun i hi => ?_⟩
  show fU (fU τ.2.2 11 _) 12 _ i = _
  rw [fUn _ (by omega), fUn _ (by omega)]
theorem rgd_tr (hG : gmV G) (hr : r < sCt τ) {c : Int} (h : rgd G τ.2.1 τ.2.2 r) : rgd G (sTr τ r c o).2.1 (sTr τ r c o).2.2 r := by
  have := gAll_rng hG
  have := nC_eq hG
  have same : ∀ k, k < 52 → tnF τ.2.2 r (sCt τ) c o (52 * r + k) = τ.2.2 7 (52 * r + k) := fun k hk => tnR_oth (by omega)
  unfold rgd at h ⊢
  rw [sTr_8, sTr_9, sTr_A7]
  obtain ⟨g1, g2, g3, g4⟩ := h
  have cc : ∀ (P : Int → Nat → Prop) [∀ v x, Decidable (P v x)], cnt (fun x => decide (P (tnF τ.2.2 r (sCt τ) c o (52 * r + x)) x)) (nC G) = cnt (fun x => decide (P (τ.2.2 7 (52 * r + x)) x)) (nC G) := fun P _ => cnt_c fun x hx => by rw [same x (by omega)]
  refine ⟨fun u hu => ?_, ?_, ?_, fun d hd => ?_⟩
  · rw [cc (fun v x => v = 1 ∧ gSuit G x = u)]; exact g1 u hu
  · rw [cc (fun v x => v = 2)]; exact g2
  · rw [cc (fun v x => v = 3)]; exact g3
  · refine (g4 d hd).trans ⟨fun w x hx => by rw [same x (by omega)]; exact w x hx, fun w x hx => by have := w x hx; rw [same x (by omega)] at this; exact this⟩
/-- does a move lead on? -/
theorem ld_spec (hG : gmV G) (hR : RW G p0 L beg τ) (hl : i + 1 ≤ L) (hg : GO G p0 L beg (i + 1) τ) (hr : beg i ≤ r ∧ r < beg (i + 1)) (hk : rwK G b0 r τ) (hc : c < nC G) (ho : onR G o) :
    lk G τ (ld G r c o i τ) ∧ rwK G b0 r (ld G r c o i τ) ∧ ((ld G r c o i τ).1 ≠ 0 ↔ mayB G b0 c (dec o) ∧ TG G p0 L i (pos (nC G) (iU b0 c (dec o)))) := by
  have hA := gAll_rng hG
  have hn := nC_eq hG
  obtain ⟨g1, ⟨g2, g3⟩, g4, g5, g6, g7, g8, g9⟩ := hR
  have hR : RW G p0 L beg τ := ⟨g1, ⟨g2, g3⟩, g4, g5, g6, g7, g8, g9⟩
  have m := g7.mono (i + 1) L (by omega) (by omega)
  have rlt : r < sCt τ := by omega
  have ml := mMl_may hG hk.1 (g1.1 r rlt) hc ho
  have e0 : rPos G (τ.2.2 7) r = pos (nC G) b0 := pos_eq.2 hk.2
  have em : mayB G (rowB (τ.2.2 7) r) c (dec o) ↔ mayB G b0 c (dec o) := ⟨mayB_c hk.2, mayB_c fun x hx => (hk.2 x hx).symm⟩
  have en : pos (nC G) (iU (rowB (τ.2.2 7) r) c (dec o)) = pos (nC G) (iU b0 c (dec o)) := pos_eq.2 fun x hx => by
    unfold iU
    split
    · rfl
    · exact hk.2 x hx
  unfold ld
  by_cases q : mMl G τ.2.1 τ.2.2 r c o
  · rw [if_pos q]
    have mb := em.1 (ml.1 q)
    have kk : lk G τ (sTr τ r c o) := lk_tr hG
    refine ⟨kk, ⟨rgd_tr hG rlt hk.1, fun x hx => ?_⟩, ?_⟩
    · show dec (tnR (τ.2.2 7) r (sCt τ) c o 52 (52 * r + x)) = b0 x
      rw [tnR_oth (by omega)]
      exact hk.2 x hx
    · show ldV τ r c o i ≠ 0 ↔ _
      obtain ⟨t1, t2, t3, t4, t5⟩ := tn_spec (A := τ.2.2) (ct := sCt τ) hG g1 rlt hc ho
      rw [en] at t4 t5
      unfold ldV TG
      by_cases e : i + 1 = L
      · rw [if_pos (show (i : Int) = τ.2.1 5 - 1 by omega), if_pos e]
        have wv : sW τ r c o = 0 ∨ sW τ r c o = 1 := tnW_b 52
        have t5 : sW τ r c o = 1 ↔ _ := t5
        rw [← t5]
        exact ⟨fun w => ⟨mb, by omega⟩, fun w => by omega⟩
      · rw [if_neg (show ¬ (i : Int) = τ.2.1 5 - 1 by omega), if_neg e]
        have b1 : τ.2.2 10 ((i : Int) + 1).toNat = beg (i + 1) := by
          rw [show ((i : Int) + 1).toNat = i + 1 by omega]
          exact g9 (i + 1) (by omega)
        rw [b1]
        have sc : Sc G (rPos G (τ.2.2 7) r) (pos (nC G) (iU b0 c (dec o))) := by rw [e0]; exact Sc_of.2 ⟨c, dec o, mb, rfl⟩
        have lr : Lv G p0 i (rPos G (τ.2.2 7) r) := (g7.2.2.2 i (by omega) _).2 ⟨r, hr.1, hr.2, rfl⟩
        have al := Al_sc lr sc
        have g7i : Enu G p0 (i + 1) beg (rPos G (τ.2.2 7)) := ⟨g7.1, g7.2.1, fun j hj => g7.2.2.1 j (by omega), fun j hj => g7.2.2.2 j (by omega)⟩
        obtain ⟨k, k1, k2⟩ := (g7i.all _).1 al
        have k1 : k < beg (i + 2) := k1
        have m2 := g7.mono (i + 2) L (by omega) (by omega)
        have st : sTn τ r c o = k := by
          rcases t4 with ⟨k', a1, a2, a3⟩ | ⟨a1, a2⟩
          · have : k' = k := g4 k' k a1 (by omega) (a3.trans k2.symm)
            rw [← this]; exact a2
          · exact absurd k2 (a2 k (by omega))
        rw [st]
        have ct4 : ((sCt τ : Nat) : Int) = τ.2.1 4 := by show (((τ.2.1 4).toNat : Nat) : Int) = _; omega
        have lv : Lv G p0 (i + 1) (pos (nC G) (iU b0 c (dec o))) ↔ beg (i + 1) ≤ k := by
          rw [g7.2.2.2 (i + 1) (by omega)]
          constructor
          · rintro ⟨k', a1, a2, a3⟩
            have : k' = k := g4 k' k (by have : beg (i + 1 + 1) = beg (i + 2) := rfl; omega) (by omega) (a3.trans k2.symm)
            omega
          · intro w; exact ⟨k, w, k1, k2⟩
        rw [lv]
        by_cases w : beg (i + 1) ≤ k
        · have gg := hg (i + 1) (Nat.le_refl _) (by omega) k w k1
          rw [k2, show L - 1 - (i + 1) = L - 2 - i by omega] at gg
          by_cases gd : τ.2.2 9 k ≠ 0
          · rw [if_pos ⟨by omega, by omega, gd⟩]
            exact ⟨fun _ => ⟨mb, w, gg.1 gd⟩, fun _ => by decide⟩
          · rw [if_neg (fun t => gd t.2.2)]
            exact ⟨fun t => absurd rfl t, fun t => absurd (gg.2 t.2.2) gd⟩
        · rw [if_neg (fun t => w (by omega))]
          exact ⟨fun t => absurd rfl t, fun t => absurd t.2.1 w⟩
  · rw [if_neg q]
    refine ⟨(lk.rf (G := G) : lk G τ τ), hk, ⟨fun w => absurd rfl w, fun w => absurd (ml.2 (em.2 w.1)) q⟩⟩
theorem igT_spec (hG : gmV G) (hl : i + 1 ≤ L) (hr : beg i ≤ r ∧ r < beg (i + 1)) (hc : c < nC G) : ∀ (j : Nat) (o : Int) (τ : MO) (P : Prop), RW G p0 L beg τ → GO G p0 L beg (i + 1) τ → rwK G b0 r τ → onW G o → (j : Int) = onF G o → (τ.1 ≠ 0 ↔ P) →
    lk G τ (igT G r i c j o τ) ∧ rwK G b0 r (igT G r i c j o τ) ∧ ((igT G r i c j o τ).1 ≠ 0 ↔ P ∨ ∃ o', o ≤ o' ∧ onR G o' ∧ mayB G b0 c (dec o') ∧ TG G p0 L i (pos (nC G) (iU b0 c (dec o')))) := by
  have hA := gAll_rng hG
  intro j
  induction j with
  | zero =>
    intro o τ P hR hg hk hw hj hP
    have : o = 10 + gAll G := by unfold onF at hj; unfold onW at hw; split at hj <;> omega
    refine ⟨lk.rf, hk, hP.trans ⟨Or.inl, fun w => ?_⟩⟩
    rcases w with w | ⟨o', h1, h2, -⟩
    · exact w
    · unfold onR at h2; omega
  | succ j ih =>
    intro o τ P hR hg hk hw hj hP
    by_cases x : τ.1 = 0
    · have e : igT G r i c (j + 1) o τ = igT G r i c j (mAf o) (ld G r c o i τ) := if_pos x
      rw [e]
      have ho : onR G o := by unfold onF at hj; unfold onW at hw; unfold onR; split at hj <;> omega
      obtain ⟨s1, s2, s3⟩ := ld_spec hG hR hl hg hr hk hc ho
      have w2 : onW G (mAf o) := by unfold mAf onW; unfold onR at ho; split <;> omega
      have j2 : (j : Int) = onF G (mAf o) := by
        unfold mAf onF at *
        unfold onR at ho
        split at hj <;> split <;> split <;> omega
      obtain ⟨i1, i2, i3⟩ := ih (mAf o) _ _ (s1.rw hG hR) (s1.go hG hR hg) s2 w2 j2 s3
      refine ⟨s1.trans i1, i2, i3.trans ?_⟩
      have nP : ¬ P := fun w => hP.2 w x
      constructor
      · rintro (w | ⟨o', h1, h2⟩)
        · exact Or.inr ⟨o, Int.le_refl _, ho, w⟩
        · refine Or.inr ⟨o', ?_, h2⟩
          unfold mAf at h1
          split at h1 <;> omega
      · rintro (w | ⟨o', h1, h2, h3⟩)
        · exact absurd w nP
        · by_cases e : o' = o
          · rw [e] at h3; exact Or.inl h3
          · refine Or.inr ⟨o', ?_, h2, h3⟩
            unfold mAf
            unfold onR at h2 ho
            split <;> omega
    · have e : igT G r i c (j + 1) o τ = τ := if_neg x
      rw [e]
      exact ⟨lk.rf, hk, ⟨fun w => Or.inl (hP.1 w), fun _ => x⟩⟩
theorem igC_spec (hG : gmV G) (hl : i + 1 ≤ L) (hr : beg i ≤ r ∧ r < beg (i + 1)) : ∀ (j c : Nat) (τ : MO) (P : Prop), RW G p0 L beg τ → GO G p0 L beg (i + 1) τ → rwK G b0 r τ → c + j = nC G → (τ.1 ≠ 0 ↔ P) →
    lk G τ (igC G r i j c τ) ∧ ((igC G r i j c τ).1 ≠ 0 ↔ P ∨ ∃ c' o', c ≤ c' ∧ c' < nC G ∧ onR G o' ∧ mayB G b0 c' (dec o') ∧ TG G p0 L i (pos (nC G) (iU b0 c' (dec o')))) := by
  have hA := gAll_rng hG
  intro j
  induction j with
  | zero =>
    intro c τ P hR hg hk hj hP
    refine ⟨lk.rf, hP.trans ⟨Or.inl, fun w => ?_⟩⟩
    rcases w with w | ⟨c', o', h1, h2, -⟩
    · exact w
    · omega
  | succ j ih =>
    intro c τ P hR hg hk hj hP
    by_cases x : τ.1 = 0
    · have e : igC G r i (j + 1) c τ = igC G r i j ((c : Int) + 1) (igT G r i c (gAll G + 3).toNat 1 τ) := if_pos x
      rw [e]
      obtain ⟨s1, s2, s3⟩ := igT_spec (c := c) hG hl hr (by omega) (gAll G + 3).toNat 1 τ P hR hg hk (by unfold onW; omega) (by unfold onF; rw [if_pos (by omega)]; omega) hP
      obtain ⟨i1, i2⟩ := ih (c + 1) _ _ (s1.rw hG hR) (s1.go hG hR hg) s2 (by omega) s3
      rw [show ((c + 1 : Nat) : Int) = (c : Int) + 1 by omega] at i1 i2
      refine ⟨s1.trans i1, i2.trans ?_⟩
      constructor
      · rintro ((w | ⟨o', h1, h2, h3⟩) | ⟨c', o', h1, h2⟩)
        · exact Or.inl w
        · exact Or.inr ⟨c, o', Nat.le_refl _, by omega, h2, h3⟩
        · exact Or.inr ⟨c', o', by omega, h2⟩
      · rintro (w | ⟨c', o', h1, h2, h3, h4⟩)
        · exact Or.inl (Or.inl w)
        · by_cases e : c' = c
          · rw [e] at h4
            exact Or.inl (Or.inr ⟨o', by unfold onR at h3; omega, h3, h4⟩)
          · exact Or.inr ⟨c', o', by omega, h2, h3, h4⟩
    · have e : igC G r i (j + 1) c τ = τ := if_neg x
      rw [e]
      exact ⟨lk.rf, ⟨fun w => Or.inl (hP.1 w), fun _ => x⟩⟩
theorem ig_spec (hG : gmV G) (hl : i + 1 ≤ L) (hr : beg i ≤ r ∧ r < beg (i + 1)) (hR : RW G p0 L beg τ) (hg : GO G p0 L beg (i + 1) τ) :
    lk G τ (ig G r i τ.2.1 τ.2.2) ∧ ((ig G r i τ.2.1 τ.2.2).1 ≠ 0 ↔ GD G p0 L (L - 1 - i) (rPos G (τ.2.2 7) r)) := by
  have k0 : lk G τ (sp0 G r 0 τ.2.1 τ.2.2) := lk_rg
  obtain ⟨s1, s2⟩ := igC_spec (b0 := rowB (τ.2.2 7) r) hG hl hr (nC G) 0 (sp0 G r 0 τ.2.1 τ.2.2) False (k0.rw hG hR) (k0.go hG hR hg) ⟨rg_I hG, fun x hx => rfl⟩ (by omega) ⟨fun w => absurd rfl w, fun w => w.elim⟩
  refine ⟨k0.trans s1, s2.trans ?_⟩
  rw [GD_TG hl]
  constructor
  · rintro (w | ⟨c', o', -, -, -, a, b⟩)
    · exact w.elim
    · exact ⟨_, Sc_of.2 ⟨c', dec o', a, rfl⟩, b⟩
  · rintro ⟨q, a, b⟩
    obtain ⟨c', o, a1, a2⟩ := Sc_of.1 a
    obtain ⟨o', b1, b2⟩ := dec_ex hG a1
    rw [← b2] at a1 a2
    rw [a2] at b
    exact Or.inr ⟨c', o', by omega, a1.1, b1, a1, b⟩
end ZSA
