section ZSF
variable {G N : Nat → Int} {A Y : Nat → Nat → Int} {C : Nat → List Int} {σ : SS} {τ : MO} {n u s k : Int} {L : Nat} {p0 : List Int}
theorem mLd_cnt {f : Nat → Int} : ∀ (j k : Nat), mLd f j k (cnt (fun x => decide (f x ≠ 0)) k) = cnt (fun x => decide (f x ≠ 0)) (k + j) := by
  intro j
  induction j with
  | zero => intro k; rfl
  | succ j ih =>
    intro k
    show mLd f j ((k : Int) + 1) (if f ((k : Int)).toNat = 0 then _ else _) = _
    rw [show ((k : Int)).toNat = k by omega]
    have := ih (k + 1)
    rw [show ((k + 1 : Nat) : Int) = (k : Int) + 1 by omega, show k + 1 + j = k + (j + 1) by omega, cnt_s] at this
    rw [← this]
    congr 1
    by_cases q : f k = 0
    · rw [if_pos q, decide_eq_false (fun w => w q), if_neg (by decide)]; rfl
    · rw [if_neg q, decide_eq_true q, if_pos rfl]; rfl
theorem SR.full (hG : gmV G) (hW : lyW Y) (h : SR G Y A C) (hl : Y 3 0 = gAll G) : fullB G (Y 0) := by
  have hA := gAll_rng hG
  have hn := nC_eq hG
  intro x hx
  have a6 := fun (c : Nat) hc => h.2.2.2.2.2.1 c hc
  have e := h.2.2.2.2.2.2.2.1
  have m : mLaid A = cnt (fun x => decide (A 4 x ≠ 0)) 52 := by
    have := mLd_cnt (f := A 4) 52 0
    rw [Nat.zero_add] at this
    exact this
  have c2 := cnt_up (p := fun x => decide (A 4 x ≠ 0)) (n := nC G) (52 - nC G) fun k h1 h2 => decide_eq_false fun w => w ((a6 k (by omega)).2.2.2 ((a6 k (by omega)).2.1 (by omega)))
  rw [show nC G + (52 - nC G) = 52 by omega] at c2
  have w := hW.1 x
  apply Classical.byContradiction
  intro q
  have y4 : Y 0 x = -4 := by omega
  have := (cnt_lt (p := fun x => decide (A 4 x ≠ 0)) (nC G)).2 ⟨x, hx, decide_eq_false fun w => w ((a6 x (by omega)).2.2.2 y4)⟩
  rw [hl, m, c2] at e
  omega
abbrev beg0 : Nat → Nat := fun j => if j = 0 then 0 else 1
theorem Enu0 {R : Nat → List Int} (h : R 0 = p0) : Enu G p0 0 beg0 R := by
  refine ⟨rfl, rfl, fun j hj => ?_, fun j hj q => ?_⟩
  · have : j = 0 := by omega
    subst this; exact Nat.zero_le _
  · have : j = 0 := by omega
    subst this
    show q = p0 ↔ ∃ k, 0 ≤ k ∧ k < 1 ∧ R k = q
    constructor
    · intro e; exact ⟨0, by omega, by omega, by rw [h, e]⟩
    · rintro ⟨k, -, b, c⟩
      have : k = 0 := by omega
      subst this
      rw [← c, h]
theorem CS0 (hG : gmV G) (hW : lyW Y) (h : SR G Y A C) (hf : fullB G (Y 0)) (hσ : seV0 σ.2.1 σ.2.2) (hu : 1 ≤ u ∧ u ≤ 200) (hn : Y 3 1 ≠ gAll G) : CS G (pos (nC G) (Y 0)) (yCp Y (σ.2.2 0)) u 0 beg0 (bg G σ Y u) := by
  have hA := gAll_rng hG
  have hnC := nC_eq hG
  have V := bg_V (G := G) hσ hW hu
  have c1 : cC (bg G σ Y u) = 1 := rfl
  have f0 : (bg G σ Y u).2.2 0 = yCp Y (σ.2.2 0) := rfl
  have p0 : cPos G (bg G σ Y u) 0 = pos (nC G) (Y 0) := by
    show pos (nC G) ((bg G σ Y u).2.2 0 0) = _
    rw [f0]
    exact pos_eq.2 fun x hx => iCp_lt (by omega)
  have j0 : ∀ j, j < cC (bg G σ Y u) → j = 0 := fun j hj => by rw [c1] at hj; omega
  have r := sl0_rng (bHs G Y)
  have h0 : (bg G σ Y u).2.1 0 0 = bHs G Y := iU_same (σ.2.1 0) 0 (bHs G Y)
  have s2 : (bg G σ Y u).2.1 2 = iU (iFi (σ.2.1 2) 512 0) (sl0 (bHs G Y)).toNat 1 := rfl
  have hs : bHs G Y = nm (sS (Y 0) (nC G)) := hsm_0 (b := Y 0) (nC G)
  refine ⟨⟨V, fun j hj => ?_, fun j hj => ?_, ?_⟩, ⟨rfl, by show (0 : Int) ≠ 1; decide, rfl, rfl⟩, fun a b ha hb _ => by rw [j0 a ha, j0 b hb], fun j hj => ?_, f0, Enu0 p0, fun l hl => by omega, fun l hl => by omega⟩
  · have : j = 0 := by have hj : (j : Int) < 1 := hj; omega
    subst this
    rw [f0]
    exact ⟨A, C, h.cp hG, fun x hx => by show -3 ≤ iCp (Y 0) (σ.2.2 0 0) 52 x; rw [iCp_lt (by omega)]; exact hf x hx⟩
  · rw [j0 j hj, h0, f0, hs]
    congr 1
    exact sS_c _ fun x hx => (iCp_lt (by omega)).symm
  · rw [c1, s2]
    have at0 : ∀ s, s < 512 → iU (iFi (σ.2.1 2) 512 0) (sl0 (bHs G Y)).toNat 1 s = if s = (sl0 (bHs G Y)).toNat then 1 else 0 := fun s hs => by
      by_cases q : s = (sl0 (bHs G Y)).toNat
      · rw [if_pos q, q, iU_same]
      · rw [if_neg q, iU_ne _ _ q, iFi_in hs]
    refine ⟨fun s hs => ?_, fun a b ha hb h1 h2 => ?_, fun j hj => ?_⟩
    · rw [at0 s hs]; split <;> omega
    · rw [at0 a ha] at h1 h2
      rw [at0 b hb] at h2
      by_cases q : a = (sl0 (bHs G Y)).toNat
      · by_cases q2 : b = (sl0 (bHs G Y)).toNat
        · omega
        · rw [if_pos q, if_neg q2] at h2; omega
      · rw [if_neg q] at h1; exact absurd rfl h1
    · have : j = 0 := by omega
      subst this
      rw [h0]
      have e : sAt (sl0 (bHs G Y)).toNat 0 = (sl0 (bHs G Y)).toNat := by
        show ((sl0 (bHs G Y)).toNat + 0) % 512 = _
        omega
      exact ⟨0, by omega, by rw [e, iU_same]; rfl, fun i' hi => by omega⟩
  · rw [j0 j hj, p0]
    exact fun w => hn ((srWon hG h).2 w)
theorem RS0 (hG : gmV G) (hW : lyW Y) (h : SR G Y A C) (hf : fullB G (Y 0)) (hu : 1 ≤ u ∧ u ≤ 200) (hn : Y 3 1 ≠ gAll G) : RS G (pos (nC G) (Y 0)) u 0 beg0 (se0 G N A) := by
  obtain ⟨b1, b2⟩ := srBgF hG hW h hf
  have c1 : sCt (se0 G N A) = 1 := rfl
  have a7 : (se0 G N A).2.2 7 = bgF G A := rfl
  have a8 : (se0 G N A).2.2 8 0 = mSm (bgF G A) 0 := by
    unfold se0
    generalize mSm (bgF G A) 0 = v
    exact iU_same (A 8) 0 v
  have p0 : rPos G ((se0 G N A).2.2 7) 0 = pos (nC G) (Y 0) := by rw [a7]; exact pos_eq.2 b2
  have j0 : ∀ j, j < sCt (se0 G N A) → j = 0 := fun j hj => by rw [c1] at hj; omega
  refine ⟨⟨fun j hj => by rw [j0 j hj, a7]; exact b1, fun j hj => by rw [j0 j hj, a7]; exact a8⟩, ⟨by show (0 : Int) ≤ 1; omega, hu.1, rfl⟩, fun a b ha hb _ => by rw [j0 a ha, j0 b hb], fun j hj => ?_, Enu0 p0, rfl, fun l hl => ?_⟩
  · rw [j0 j hj, p0]
    exact fun w => hn ((srWon hG h).2 w)
  · have : l = 0 := by omega
    subst this
    exact iU_same (A 10) 0 0
/-- ways cut at any level -/
theorem PT_GD {l : Nat} (hL : L = l + 2) : ∀ d a : Nat, a + d = l → ((∃ p, PT G p0 Y a k p ∧ GD G p0 L d p) ↔ ∃ p, PT G p0 Y l k p ∧ GD G p0 L 0 p) := by
  intro d
  induction d with
  | zero => intro a ha; rw [show a = l by omega]
  | succ d ih =>
    intro a ha
    rw [← ih (a + 1) (by omega)]
    constructor
    · rintro ⟨p, h1, q, h2, h3, h4⟩
      rw [show L - 1 - d = a + 2 by omega] at h3
      exact ⟨q, ⟨h3, p, h1, h2⟩, h4⟩
    · rintro ⟨q, ⟨h3, p, h1, h2⟩, h4⟩
      exact ⟨p, h1, q, h2, by rw [show L - 1 - d = a + 2 by omega]; exact h3, h4⟩
/-- the last card goes home from one place only -/
theorem KC_one (hG : gmV G) (hW : lyW Y) (h : SR G Y A C) {k' : Int} (h1 : KC G Y k (wnP (nC G))) (h2 : KC G Y k' (wnP (nC G))) : k = k' := by
  have hG' := hG
  unfold gmV at hG'
  have hA := gAll_rng hG
  have hn := nC_eq hG
  obtain ⟨z, y, a1, a2, a3, a4, a5, a6, a7⟩ := h1
  obtain ⟨z', y', b1, b2, b3, b4, b5, b6, b7⟩ := h2
  have grd : ∀ y, 0 ≤ y → y ≤ 12 → lGrd (Y 1) y = -3 → y = 12 := fun y h1 h2 h3 => by
    have := (hW.2.1 y.toNat).1
    unfold lGrd at h3
    by_cases q : y = 12
    · exact q
    · rw [if_neg q] at h3
      by_cases q2 : 8 ≤ y
      · rw [if_pos q2] at h3; omega
      · rw [if_neg q2] at h3; omega
  have key : ∀ z y, 0 ≤ z → z < 12 → 0 ≤ y → y ≤ 12 → lOne G (Y 1) (Y 2) z y → wnP (nC G) = nxP G Y z y → y = 12 ∧ (0 ≤ Y 1 z.toNat ∧ Y 1 z.toNat < gAll G) ∧ Y 0 (Y 1 z.toNat).toNat ≠ -3 ∧ ∀ x, x < nC G → x ≠ (Y 1 z.toNat).toNat → Y 0 x = -3 := fun z y h1 h2 h3 h4 h5 h6 => by
    obtain ⟨c1, c2⟩ := h.may1 hG hW ⟨h1, h2⟩ ⟨h3, h4⟩ h5
    have e := pos_eq.1 h6
    have e1 := e (Y 1 z.toNat).toNat (by omega)
    rw [iU_same] at e1
    have k := h.mvok hG (h.go hG hW ⟨h1, h2⟩ ⟨h3, h4⟩ h5).2.2
    have gg := (h.go hG hW ⟨h1, h2⟩ ⟨h3, h4⟩ h5).1
    refine ⟨grd y h3 h4 e1.symm, c1, ?_, fun x hx hne => ?_⟩
    · rcases gg with g | g
      · have := k.2.1 (by omega); omega
      · have a := h.2.2.1 (z - 8).toNat (by omega)
        rw [show 8 + (z - 8).toNat = z.toNat by omega] at a
        have := h.cell hG (k := (z - 8).toNat) (by omega) (by omega)
        rw [← a.1] at this
        omega
    · have := e x hx
      rw [iU_ne _ _ hne] at this
      exact this.symm
  obtain ⟨c1, c2, c3, c4⟩ := key z y a1 a2 a3 a4 a5 a7
  obtain ⟨d1, d2, d3, d4⟩ := key z' y' b1 b2 b3 b4 b5 b7
  have ee : Y 1 z.toNat = Y 1 z'.toNat := by
    apply Classical.byContradiction
    intro q
    exact c3 (d4 _ (by omega) (by omega))
  have zz : z = z' := by
    have g1 := (h.go hG hW ⟨a1, a2⟩ ⟨a3, a4⟩ a5).1
    have g2 := (h.go hG hW ⟨b1, b2⟩ ⟨b3, b4⟩ b5).1
    have inC : ∀ z, gCol G z → 0 ≤ Y 1 z.toNat → Y 1 z.toNat ∈ C z.toNat := fun z hz h0 => by
      have pl := (h.1 z.toNat (by omega)).1
      cases hl : C z.toNat with
      | nil => rw [hl] at pl; have pl : Y 1 z.toNat = -1 := pl; omega
      | cons a l => rw [hl] at pl; rw [pl.1]; exact List.mem_cons_self ..
    have inE : ∀ z, gCel G z → A 2 (z - 8).toNat = Y 1 z.toNat := fun z hz => by
      have a := (h.2.2.1 (z - 8).toNat (by omega)).1
      rw [show 8 + (z - 8).toNat = z.toNat by omega] at a
      exact a.symm
    have no : ∀ z z', gCol G z → gCel G z' → Y 1 z.toNat = Y 1 z'.toNat → 0 ≤ Y 1 z.toNat → Y 1 z.toNat < gAll G → False := fun z z' h1 h2 h3 h4 h5 => by
      have f1 := (h.c7 (x := (Y 1 z.toNat).toNat) (by omega) (by omega)).1.2 ⟨z.toNat, by omega, by rw [show (((Y 1 z.toNat).toNat : Nat) : Int) = Y 1 z.toNat by omega]; exact inC z h1 h4⟩
      have f2 := h.cell hG (k := (z' - 8).toNat) (by omega) (by rw [inE z' h2, ← h3]; exact h4)
      rw [inE z' h2, ← h3] at f2
      omega
    rcases g1 with g1 | g1
    · rcases g2 with g2 | g2
      · have := h.2.1 z.toNat z'.toNat _ (by omega) (by omega) (inC z g1 c2.1) (by rw [ee]; exact inC z' g2 d2.1)
        omega
      · exact (no z z' g1 g2 ee c2.1 c2.2).elim
    · rcases g2 with g2 | g2
      · exact (no z' z g2 g1 ee.symm d2.1 d2.2).elim
      · have := h.2.2.2.1 (z - 8).toNat (z' - 8).toNat (by omega) (by omega) (by rw [inE z g1]; exact c2.1) (by rw [inE z g1, inE z' g2]; exact ee)
        omega
  rw [a6, b6, c1, d1, zz]
/-- the step of the class is the least number of the reference -/
theorem fs_fm (hG : gmV G) (hW : lyW Y) (h : SR G Y A C) (hs : fsP G p0 Y L s) : fmK G p0 (L + 1) Y s ∧ ∀ k, fmK G p0 (L + 1) Y k → s ≤ k := by
  cases L with
  | zero =>
    have tg : ∀ q, TG G p0 (0 + 1) 0 q ↔ q = wnP (nC G) := fun q => by unfold TG; rw [if_pos rfl]
    refine ⟨⟨_, hs, (tg _).2 rfl⟩, fun k ⟨q, h1, h2⟩ => ?_⟩
    rw [(tg q).1 h2] at h1
    have := KC_one hG hW h hs h1
    omega
  | succ l =>
    have tg : ∀ k, fmK G p0 (l + 1 + 1) Y k ↔ ∃ p, PT G p0 Y l k p ∧ GD G p0 (l + 2) 0 p := fun k => by
      rw [← PT_GD rfl l 0 (by omega)]
      unfold fmK TG
      constructor
      · rintro ⟨q, h1, h2⟩
        rw [if_neg (by omega)] at h2
        have h3 := h2.2
        rw [show l + 1 + 1 - 2 - 0 = l by omega] at h3
        exact ⟨q, ⟨h2.1, h1⟩, h3⟩
      · rintro ⟨q, ⟨h1, h2⟩, h3⟩
        refine ⟨q, h2, ?_⟩
        rw [if_neg (by omega), show l + 1 + 1 - 2 - 0 = l by omega]
        exact ⟨h1, h3⟩
    obtain ⟨s1, s2⟩ := hs
    refine ⟨(tg s).2 s1, fun k hk => ?_⟩
    obtain ⟨p, h1, h2⟩ := (tg k).1 hk
    exact s2 k p h1 h2
end ZSF
