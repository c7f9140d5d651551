section ZRI
variable {G : Nat → Int} {Y A : Nat → Nat → Int} {C : Nat → List Int} {z y m c k : Int}
theorem mLd_0 {f : Nat → Int} : ∀ (j : Nat) (c n : Int), 0 ≤ c → (∀ i : Nat, c ≤ i → (i : Int) < c + j → f i = 0) → mLd f j c n = n := by
  intro j
  induction j with
  | zero => intro c n _ _; rfl
  | succ j ih =>
    intro c n hc h
    show mLd f j (c + 1) (if f c.toNat = 0 then n else n + 1) = n
    rw [if_pos (h c.toNat (by omega) (by omega)), ih _ _ (by omega) fun i h1 h2 => h i (by omega) (by omega)]
theorem mLd_a {f : Nat → Int} : ∀ (j : Nat) (c n d : Int), mLd f j c (n + d) = mLd f j c n + d := by
  intro j
  induction j with
  | zero => intro c n d; rfl
  | succ j ih =>
    intro c n d
    show mLd f j (c + 1) (if f c.toNat = 0 then n + d else n + d + 1) = mLd f j (c + 1) (if f c.toNat = 0 then n else n + 1) + d
    rw [← ih]
    congr 1
    split
    · rfl
    · omega
theorem mLd_c {f g : Nat → Int} : ∀ (j : Nat) (c n : Int), 0 ≤ c → (∀ i : Nat, c ≤ i → (i : Int) < c + j → (f i = 0 ↔ g i = 0)) → mLd f j c n = mLd g j c n := by
  intro j
  induction j with
  | zero => intro c n _ _; rfl
  | succ j ih =>
    intro c n hc h
    show mLd f j (c + 1) (if f c.toNat = 0 then n else n + 1) = mLd g j (c + 1) (if g c.toNat = 0 then n else n + 1)
    have h0 := h c.toNat (by omega) (by omega)
    by_cases q : f c.toNat = 0
    · rw [if_pos q, if_pos (h0.1 q)]
      exact ih _ _ (by omega) fun i h1 h2 => h i (by omega) (by omega)
    · rw [if_neg q, if_neg (fun r => q (h0.2 r))]
      exact ih _ _ (by omega) fun i h1 h2 => h i (by omega) (by omega)
theorem mLd_1 {f : Nat → Int} {x : Nat} (h0 : f x = 0) : ∀ (j : Nat) (c n : Int), 0 ≤ c → c ≤ x → (x : Int) < c + j → mLd (iU f x 1) j c n = mLd f j c n + 1 := by
  intro j
  induction j with
  | zero => intro c n _ _ _; omega
  | succ j ih =>
    intro c n hc h1 h2
    show mLd (iU f x 1) j (c + 1) (if iU f x 1 c.toNat = 0 then n else n + 1) = mLd f j (c + 1) (if f c.toNat = 0 then n else n + 1) + 1
    by_cases q : c = x
    · have e : c.toNat = x := by omega
      rw [e, iU_same, if_neg (by omega), if_pos h0, ← mLd_a]
      exact mLd_c _ _ _ (by omega) fun i h3 h4 => by rw [iU_ne _ _ (by omega)]
    · rw [iU_ne _ _ (by omega), ih _ _ (by omega) (by omega) (by omega)]
theorem iFi_in {f : Nat → Int} {n j : Nat} {v : Int} (h : j < n) : iFi f n v j = v := if_pos h
/-- all is taken up -/
theorem SR.wipe (hG : gmV G) : SR G (yCl Y) (mWA A) (fun _ => []) := by
  have hG' := hG
  unfold gmV at hG'
  have e1 : mWA A 1 = iFi (A 1) 8 0 := rfl
  have e2 : mWA A 2 = iFi (A 2) 4 (-1) := rfl
  have e3 : mWA A 3 = iFi (A 3) 4 0 := rfl
  have e4 : mWA A 4 = iFi (A 4) 52 0 := rfl
  have y0 : yCl Y 0 = iFi (Y 0) 52 (-4) := rfl
  have y1 : yCl Y 1 = iFi (Y 1) 12 (-1) := rfl
  have y2 : yCl Y 2 = iFi (Y 2) 4 0 := rfl
  refine ⟨fun p hp => ⟨?_, ?_, List.nodup_nil, fun c hc => by cases hc⟩, fun p p' c _ _ hc => (by cases hc), fun k hk => ?_, fun k k' hk hk' h => ?_, fun s hs => ?_, fun c hc => ?_, ⟨fun p _ _ => rfl, fun k _ hk => ?_⟩, ?_, ?_⟩
  · show yCl Y 1 p = -1
    rw [y1, iFi_in (by omega)]
  · refine ⟨?_, fun i hi => by cases hi⟩
    rw [e1, iFi_in (by omega)]
    rfl
  · rw [y1, e2, iFi_in (by omega), iFi_in (by omega)]
    have := gAll_rng hG
    exact ⟨rfl, by omega, by omega⟩
  · rw [e2, iFi_in (by omega)] at h; omega
  · rw [y2, e3, iFi_in (by omega), iFi_in (by omega)]
    exact ⟨rfl, by omega, by omega, fun _ => rfl⟩
  · rw [y0, e4, iFi_in (by omega), iFi_in (by omega)]
    have hs := gSuit_rng (c := (c : Int)) hG
    have hr := gRank_rng hG (c := (c : Int)) (by omega)
    refine ⟨fun _ => ⟨⟨fun q => by omega, fun ⟨p, _, q⟩ => by cases q⟩, ⟨fun q => by omega, fun ⟨k, hk, q⟩ => ?_⟩, ⟨fun q => by omega, fun q => ?_⟩⟩, fun _ => rfl, ⟨fun _ => rfl, fun _ => rfl⟩⟩
    · rw [e2, iFi_in hk] at q; omega
    · rw [e3, iFi_in (by omega)] at q; omega
  · rw [e2, iFi_in hk]
  · show (0 : Int) = mLd (mWA A 4) 52 0 0
    rw [mLd_0 52 0 0 (by omega) (fun i _ hi => by rw [e4, iFi_in (by omega)])]
  · show (0 : Int) = mWA A 3 0 + mWA A 3 1 + mWA A 3 2 + mWA A 3 3
    rw [e3, iFi_in (by omega), iFi_in (by omega), iFi_in (by omega), iFi_in (by omega)]
    rfl
theorem fUn {α : Type} (f : Nat → α) {n j : Nat} {v : α} (h : j ≠ n) : fU f n v j = f j := if_neg h
/-- a card is put on column p: both pictures of the columns -/
theorem push_cols {G : Nat → Int} {b t : Nat → Int} {C : Nat → List Int} {p : Nat} {c : Int} (hp : p < 8) (hc : 0 ≤ c ∧ c < gAll G)
    (hn : ∀ q, q < 8 → c ∉ C q) (h1 : ∀ q, q < 8 → pile b (t q) (C q) ∧ mcol A q (C q) ∧ (C q).Nodup ∧ ∀ x ∈ C q, x < gAll G)
    (h2 : ∀ q q' x, q < 8 → q' < 8 → x ∈ C q → x ∈ C q' → q = q') (hl : (C p).length ≤ 51) (hl2 : ∀ q, q < 8 → (C q).length ≤ 52) :
    (∀ q, q < 8 → pile (iU b c.toNat (t p)) (iU t p c q) (fU C p (c :: C p) q) ∧ mcol (mPu A p c) q (fU C p (c :: C p) q) ∧ (fU C p (c :: C p) q).Nodup ∧ ∀ x ∈ fU C p (c :: C p) q, x < gAll G) ∧
    (∀ q q' x, q < 8 → q' < 8 → x ∈ fU C p (c :: C p) q → x ∈ fU C p (c :: C p) q' → q = q') := by
  have keep : ∀ q, q < 8 → ∀ u, pile b u (C q) → pile (iU b c.toNat (t p)) u (C q) := fun q hq u hu => pile_keep _ _ hu fun x hx => by
    have := pile_pos _ _ hu x hx
    exact iU_ne _ _ (fun e => hn q hq (by rw [show c = x by omega]; exact hx))
  constructor
  · intro q hq
    obtain ⟨g1, g2, g3, g4⟩ := h1 q hq
    by_cases e : q = p
    · subst e
      rw [fU_same, iU_same]
      refine ⟨⟨rfl, hc.1, ?_⟩, mcol_push g2 hl c, List.nodup_cons.2 ⟨hn q hq, g3⟩, fun x hx => ?_⟩
      · rw [iU_same]
        exact keep q hq _ g1
      · rcases List.mem_cons.1 hx with rfl | hx
        · exact hc.2
        · exact g4 x hx
    · rw [fUn _ e, iU_ne _ _ e]
      refine ⟨keep q hq _ g1, mcol_keep g2 (hl2 q hq) ?_ ?_, g3, g4⟩
      · show iU (A 1) (p : Int).toNat _ q = A 1 q
        rw [iU_ne _ _ (by omega)]
      · intro j hj1 hj2
        show iU (A 0) (52 * (p : Int) + A 1 (p : Int).toNat).toNat c j = A 0 j
        have a := (h1 p hp).2.1.1
        have b := hl2 q hq
        rw [show (p : Int).toNat = p by omega, a]
        exact iU_ne _ _ (by omega)
  · intro q q' x hq hq' hx hx'
    by_cases e : q = p
    · by_cases e' : q' = p
      · omega
      · subst e
        rw [fU_same] at hx
        rw [fUn _ e'] at hx'
        rcases List.mem_cons.1 hx with rfl | hx
        · exact absurd hx' (hn q' hq')
        · exact h2 q q' x hq hq' hx hx'
    · rw [fUn _ e] at hx
      by_cases e' : q' = p
      · subst e'
        rw [fU_same] at hx'
        rcases List.mem_cons.1 hx' with rfl | hx'
        · exact absurd hx (hn q hq)
        · exact h2 q q' x hq hq' hx hx'
      · rw [fUn _ e'] at hx'
        exact h2 q q' x hq hq' hx hx'
/-- c is in the hand: it lies nowhere -/
def SH (G : Nat → Int) (Y A : Nat → Nat → Int) (C : Nat → List Int) (c : Int) : Prop :=
  (0 ≤ c ∧ c < gAll G) ∧
  (∀ p, p < 8 → pile (Y 0) (Y 1 p) (C p) ∧ mcol A p (C p) ∧ (C p).Nodup ∧ ∀ x ∈ C p, x < gAll G) ∧
  (∀ p p' x, p < 8 → p' < 8 → x ∈ C p → x ∈ C p' → p = p') ∧
  (∀ k, k < 4 → Y 1 (8 + k) = A 2 k ∧ A 2 k < gAll G ∧ -1 ≤ A 2 k) ∧
  (∀ k k', k < 4 → k' < 4 → 0 ≤ A 2 k → A 2 k = A 2 k' → k = k') ∧
  (∀ s, s < 4 → Y 2 s = A 3 s ∧ 0 ≤ A 3 s ∧ A 3 s ≤ G 5 ∧ (G 4 ≤ s → A 3 s = 0)) ∧
  (∀ x : Nat, x < 52 → (x : Int) ≠ c → ((x : Int) < gAll G → ((-1 ≤ Y 0 x ↔ ∃ p, p < 8 ∧ (x : Int) ∈ C p) ∧ (Y 0 x = -2 ↔ ∃ k, k < 4 ∧ A 2 k = x) ∧ (Y 0 x = -3 ↔ gRank G x ≤ A 3 (gSuit G x).toNat))) ∧ (gAll G ≤ x → Y 0 x = -4) ∧ (A 4 x = 0 ↔ Y 0 x = -4)) ∧
  ((∀ p : Nat, G 0 ≤ p → p < 8 → C p = []) ∧ ∀ k : Nat, G 1 ≤ k → k < 4 → A 2 k = -1) ∧
  (∀ p, p < 8 → c ∉ C p) ∧ (∀ k, k < 4 → A 2 k ≠ c) ∧ A 3 (gSuit G c).toNat < gRank G c
theorem SH.len (hG : gmV G) (h : SH G Y A C c) {p : Nat} (hp : p < 8) : (C p).length ≤ 51 := by
  obtain ⟨h1, -, h3, h4⟩ := h.2.1 p hp
  have hA := gAll_rng hG
  have hpos := pile_pos _ _ h1
  have := nd_len 52 (c :: C p) (List.nodup_cons.2 ⟨h.2.2.2.2.2.2.2.2.1 p hp, h3⟩) fun x hx => by
    rcases List.mem_cons.1 hx with rfl | hx
    · have := h.1; omega
    · have := hpos x hx; have := h4 x hx; omega
  have e : (c :: C p).length = (C p).length + 1 := rfl
  omega
/-- the hand's card is put on column p -/
theorem SH.col {Y' A' : Nat → Nat → Int} (hG : gmV G) (h : SH G Y A C c) {p : Nat} (hp : (p : Int) < G 0)
    (y0 : Y' 0 = iU (Y 0) c.toNat (Y 1 p)) (y1 : Y' 1 = iU (Y 1) p c) (y2 : Y' 2 = Y 2)
    (a0 : A' 0 = mPu A p c 0) (a1 : A' 1 = mPu A p c 1) (a2 : A' 2 = A 2) (a3 : A' 3 = A 3) (a4 : ∀ x : Nat, x < 52 → (A' 4 x = 0 ↔ (A 4 x = 0 ∧ (x : Int) ≠ c)))
    (n0 : Y' 3 0 = mLaid A') (n1 : Y' 3 1 = mAH A') : SR G Y' A' (fU C p (c :: C p)) := by
  have hG' := hG
  unfold gmV at hG'
  have hA := gAll_rng hG
  obtain ⟨b1, b2, b3, b4, b5, b6, b7, b8, b9, b10, b11⟩ := h
  have hh : SH G Y A C c := ⟨b1, b2, b3, b4, b5, b6, b7, b8, b9, b10, b11⟩
  have hp8 : p < 8 := by omega
  obtain ⟨p1, p2⟩ := push_cols (A := A) hp8 b1 b9 b2 b3 (hh.len hG hp8) fun q hq => Nat.le_succ_of_le (hh.len hG hq)
  have pm : ∀ q, mcol (mPu A p c) q (fU C p (c :: C p) q) → mcol A' q (fU C p (c :: C p) q) := fun q hq => by
    unfold mcol at hq ⊢
    rw [a0, a1]
    exact hq
  refine ⟨fun q hq => ?_, p2, fun k hk => ?_, ?_, fun s hs => ?_, fun x hx => ?_, ⟨fun q h1 h2 => ?_, ?_⟩, n0, n1⟩
  · obtain ⟨g1, g2, g3, g4⟩ := p1 q hq
    rw [y0, y1]
    exact ⟨g1, pm q g2, g3, g4⟩
  · rw [y1, a2, iU_ne _ _ (by omega)]
    exact b4 k hk
  · rw [a2]; exact b5
  · rw [y2, a3]; exact b6 s hs
  · rw [y0, a2, a3, a4 x hx]
    by_cases e : (x : Int) = c
    · have e' : x = c.toNat := by omega
      subst e'
      rw [iU_same]
      have t1 : -1 ≤ Y 1 p := by
        have := (b2 p hp8).1
        cases hl : C p with
        | nil => rw [hl] at this; have this : Y 1 p = -1 := this; omega
        | cons a l => rw [hl] at this; have := this.1; have := this; have t := (by assumption : pile (Y 0) (Y 1 p) (a :: l)).2.1; omega
      refine ⟨fun _ => ⟨⟨fun _ => ⟨p, hp8, ?_⟩, fun _ => t1⟩, ⟨fun q => by omega, fun ⟨k, hk, q⟩ => absurd (q.trans e) (b10 k hk)⟩, ⟨fun q => by omega, fun q => ?_⟩⟩, fun q => by omega, ⟨fun q => absurd e q.2, fun q => by omega⟩⟩
      · rw [fU_same, e]; exact List.mem_cons_self ..
      · rw [e] at q; omega
    · have e' : x ≠ c.toNat := by omega
      rw [iU_ne _ _ e']
      obtain ⟨g1, g2, g3⟩ := b7 x hx e
      refine ⟨fun q => ?_, g2, ⟨fun q => g3.1 q.1, fun q => ⟨g3.2 q, e⟩⟩⟩
      obtain ⟨f1, f2, f3⟩ := g1 q
      refine ⟨f1.trans ⟨fun ⟨r, hr, hx⟩ => ⟨r, hr, ?_⟩, fun ⟨r, hr, hx⟩ => ⟨r, hr, ?_⟩⟩, f2, f3⟩
      · by_cases er : r = p
        · subst er; rw [fU_same]; exact List.mem_cons_of_mem _ hx
        · rw [fUn _ er]; exact hx
      · by_cases er : r = p
        · subst er
          rw [fU_same] at hx
          rcases List.mem_cons.1 hx with q | q
          · exact absurd q e
          · exact q
        · rw [fUn _ er] at hx; exact hx
  · rw [fUn _ (by omega)]
    exact b8.1 q h1 h2
  · rw [a2]; exact b8.2
end ZRI
