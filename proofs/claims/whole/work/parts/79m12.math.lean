section ZRR
variable {G : Nat → Int} {τ : MO} {n o x0 : Int} {r m0 c : Nat} {R0 : Nat → List Int} {D D' : List Int → Prop}
def RI (G : Nat → Int) (n : Int) (m0 : Nat) (R0 : Nat → List Int) (x0 : Int) (D : List Int → Prop) (τ : MO) : Prop :=
  rws G τ.2.2 (sCt τ) ∧ (0 ≤ τ.2.1 4 ∧ τ.2.1 4 ≤ n) ∧ m0 ≤ sCt τ ∧
  (∀ i j, i < sCt τ → j < sCt τ → rPos G (τ.2.2 7) i = rPos G (τ.2.2 7) j → i = j) ∧
  (∀ i, i < m0 → rPos G (τ.2.2 7) i = R0 i) ∧ (∀ i, m0 ≤ i → i < sCt τ → D (rPos G (τ.2.2 7) i)) ∧
  (τ.2.1 6 = 0 → ∀ q, D q → ∃ i, i < sCt τ ∧ rPos G (τ.2.2 7) i = q) ∧
  (τ.2.1 6 ≠ 0 → τ.2.1 4 = n ∧ ∃ q, D q ∧ ∀ i, i < sCt τ → rPos G (τ.2.2 7) i ≠ q) ∧
  ((x0 ≠ 0 ∨ τ.1 ≠ 0) ↔ ∃ q, D q ∧ q = wnP (nC G))
theorem RI.cong (h : RI G n m0 R0 x0 D τ) (hD : ∀ q, D q ↔ D' q) : RI G n m0 R0 x0 D' τ := by
  have : D = D' := funext fun q => propext (hD q)
  rw [← this]; exact h
theorem sTr_ct {c : Int} : sCt (sTr τ r c o) = sCt τ := by
  show ((sTr τ r c o).2.1 4).toNat = (τ.2.1 4).toNat
  rw [sTr_N]; unfold tnN; rw [iU_ne _ _ (by omega)]
theorem sTr_4 {c : Int} : (sTr τ r c o).2.1 4 = τ.2.1 4 := by rw [sTr_N]; unfold tnN; rw [iU_ne _ _ (by omega)]
theorem sTr_6 {c : Int} : (sTr τ r c o).2.1 6 = τ.2.1 6 := by rw [sTr_N]; unfold tnN; rw [iU_ne _ _ (by omega)]
theorem sTr_8 {c : Int} : (sTr τ r c o).2.1 8 = τ.2.1 8 := by rw [sTr_N]; unfold tnN; rw [iU_ne _ _ (by omega)]
theorem sTr_9 {c : Int} : (sTr τ r c o).2.1 9 = τ.2.1 9 := by rw [sTr_N]; unfold tnN; rw [iU_ne _ _ (by omega)]
theorem sTr_A {c : Int} : (sTr τ r c o).2.2 = tnA τ.2.2 r (sCt τ) c o := rfl
theorem sTr_A7 {c : Int} : (sTr τ r c o).2.2 7 = tnF τ.2.2 r (sCt τ) c o := rfl
theorem sNw_N {x : Int} : (sNw n x τ).2.1 = iU (iU τ.2.1 6 (if τ.2.1 6 = 0 ∧ τ.2.1 4 < n then 0 else 1)) 4 (if τ.2.1 4 < n then τ.2.1 4 + 1 else τ.2.1 4) := rfl
/-- the successor tried -/
abbrev nwP (G : Nat → Int) (f : Nat → Int) (r c : Nat) (o : Int) : List Int := pos (nC G) (iU (rowB f r) c (dec o))
theorem RI.one (hG : gmV G) (hw : ∀ i, i < m0 → R0 i ≠ wnP (nC G)) (h : RI G n m0 R0 x0 D τ) (hr : r < m0) (hg : rgd G τ.2.1 τ.2.2 r) (hc : c < nC G) (ho : onR G o) :
    RI G n m0 R0 x0 (fun q => D q ∨ (mayB G (rowB (τ.2.2 7) r) c (dec o) ∧ q = nwP G (τ.2.2 7) r c o)) (spO G r n c o τ) ∧ rgd G (spO G r n c o τ).2.1 (spO G r n c o τ).2.2 r ∧ ∀ x, x < nC G → rowB ((spO G r n c o τ).2.2 7) r x = rowB (τ.2.2 7) r x := by
  obtain ⟨h1, h2, h3, h4, h5, h6, h7, h8, h9⟩ := h
  have hA := gAll_rng hG
  have hn := nC_eq hG
  have rlt : r < sCt τ := by omega
  obtain ⟨t1, t2, t3, t4, t5⟩ := tn_spec (A := τ.2.2) (ct := sCt τ) hG h1 rlt hc ho
  have ml := mMl_may hG hg (h1.1 r rlt) hc ho
  by_cases q : mMl G τ.2.1 τ.2.2 r c o
  · have mb := ml.1 q
    -- the row r stays
    have same : ∀ k, k < 52 → tnF τ.2.2 r (sCt τ) c o (52 * r + k) = τ.2.2 7 (52 * r + k) := fun k hk => tnR_oth (by omega)
    have rg' : ∀ N' : Nat → Int, ∀ A' : Nat → Nat → Int, N' 8 = τ.2.1 8 → N' 9 = τ.2.1 9 → A' 11 = τ.2.2 11 → A' 12 = τ.2.2 12 → A' 7 = tnF τ.2.2 r (sCt τ) c o → rgd G N' A' r := fun N' A' e1 e2 e3 e4 e5 => by
      unfold rgd at hg ⊢
      rw [e1, e2, e3, e4, e5]
      obtain ⟨g1, g2, g3, g4⟩ := hg
      have cc : ∀ (P : Int → Nat → Prop) [∀ v x, Decidable (P v x)], cnt (fun x => decide (P (tnF τ.2.2 r (sCt τ) c o (52 * r + x)) x)) (nC G) = cnt (fun x => decide (P (τ.2.2 7 (52 * r + x)) x)) (nC G) := fun P _ => cnt_c fun x hx => by rw [same x (by omega)]
      refine ⟨fun u hu => ?_, ?_, ?_, fun d hd => ?_⟩
      · rw [cc (fun v x => v = 1 ∧ gSuit G x = u)]; exact g1 u hu
      · rw [cc (fun v x => v = 2)]; exact g2
      · rw [cc (fun v x => v = 3)]; exact g3
      · refine (g4 d hd).trans ⟨fun w x hx => by rw [same x (by omega)]; exact w x hx, fun w x hx => by have := w x hx; rw [same x (by omega)] at this; exact this⟩
    have rb : ∀ x, x < nC G → rowB (tnF τ.2.2 r (sCt τ) c o) r x = rowB (τ.2.2 7) r x := fun x hx => by
      show dec _ = dec _
      rw [same x (by omega)]
    by_cases e : sTn τ r c o = sCt τ
    · -- a new position
      have nw : ∀ k, k < sCt τ → rPos G (τ.2.2 7) k ≠ nwP G (τ.2.2 7) r c o := by
        rcases t4 with ⟨k, k1, k2, k3⟩ | ⟨k1, k2⟩
        · have k2 : sTn τ r c o = k := k2
          omega
        · exact k2
      have eq : spO G r n c o τ = sNw n (sW τ r c o) (sTr τ r c o) := by
        unfold spO
        rw [if_pos q, if_pos e]
      rw [eq]
      have e7 : (sNw n (sW τ r c o) (sTr τ r c o)).2.2 7 = tnF τ.2.2 r (sCt τ) c o := rfl
      have e8 : (sNw n (sW τ r c o) (sTr τ r c o)).2.2 8 = tnS τ.2.2 r (sCt τ) c o := rfl
      have e4 : (sNw n (sW τ r c o) (sTr τ r c o)).2.1 4 = if τ.2.1 4 < n then τ.2.1 4 + 1 else τ.2.1 4 := by
        rw [sNw_N, iU_same, sTr_4]
      have e6 : (sNw n (sW τ r c o) (sTr τ r c o)).2.1 6 = if τ.2.1 6 = 0 ∧ τ.2.1 4 < n then 0 else 1 := by
        rw [sNw_N, iU_ne _ _ (by omega), iU_same, sTr_4, sTr_6]
      have ex : (sNw n (sW τ r c o) (sTr τ r c o)).1 = if τ.1 = 0 ∧ sW τ r c o = 0 then 0 else 1 := rfl
      have wv : sW τ r c o = 0 ∨ sW τ r c o = 1 := tnW_b 52
      have wq : sW τ r c o = 1 ↔ nwP G (τ.2.2 7) r c o = wnP (nC G) := t5
      have rg2 : rgd G (sNw n (sW τ r c o) (sTr τ r c o)).2.1 (sNw n (sW τ r c o) (sTr τ r c o)).2.2 r := by
        refine rg' _ _ ?_ ?_ rfl rfl rfl
        · rw [sNw_N, iU_ne _ _ (by omega), iU_ne _ _ (by omega), sTr_8]
        · rw [sNw_N, iU_ne _ _ (by omega), iU_ne _ _ (by omega), sTr_9]
      refine ⟨?_, rg2, rb⟩
      have fx : (x0 ≠ 0 ∨ (sNw n (sW τ r c o) (sTr τ r c o)).1 ≠ 0) ↔ ∃ q, (D q ∨ (mayB G (rowB (τ.2.2 7) r) c (dec o) ∧ q = nwP G (τ.2.2 7) r c o)) ∧ q = wnP (nC G) := by
        rw [ex]
        constructor
        · intro w
          by_cases a : x0 ≠ 0 ∨ τ.1 ≠ 0
          · obtain ⟨q, q1, q2⟩ := h9.1 a
            exact ⟨q, Or.inl q1, q2⟩
          · have b : sW τ r c o = 1 := by
              rcases wv with v | v
              · rw [if_pos ⟨Classical.byContradiction fun t => a (Or.inr t), v⟩] at w
                rcases w with w | w
                · exact absurd (Or.inl w) a
                · exact absurd rfl w
              · exact v
            exact ⟨_, Or.inr ⟨mb, rfl⟩, wq.1 b⟩
        · rintro ⟨q, q1 | q1, q2⟩
          · rcases h9.2 ⟨q, q1, q2⟩ with a | a
            · exact Or.inl a
            · right
              rw [if_neg (fun t => a t.1)]
              decide
          · right
            have : sW τ r c o = 1 := wq.2 (by rw [← q1.2]; exact q2)
            rw [if_neg (fun t => by rw [t.2] at this; exact absurd this (by decide))]
            decide
      by_cases lt : τ.2.1 4 < n
      · rw [if_pos lt] at e4
        have ct' : sCt (sNw n (sW τ r c o) (sTr τ r c o)) = sCt τ + 1 := by
          show ((sNw n (sW τ r c o) (sTr τ r c o)).2.1 4).toNat = (τ.2.1 4).toNat + 1
          rw [e4]; omega
        unfold RI
        rw [ct', e7, e4, e6]
        have old : ∀ i, i < sCt τ → rPos G (tnF τ.2.2 r (sCt τ) c o) i = rPos G (τ.2.2 7) i := t2
        refine ⟨t1, by omega, by omega, fun i j hi hj hij => ?_, fun i hi => ?_, fun i h1 h2 => ?_, fun w q' hq => ?_, fun w => ?_, fx⟩
        · by_cases ei : i = sCt τ
          · by_cases ej : j = sCt τ
            · omega
            · rw [ei, t3, old j (by omega)] at hij
              exact absurd hij.symm (nw j (by omega))
          · rw [old i (by omega)] at hij
            by_cases ej : j = sCt τ
            · rw [ej, t3] at hij
              exact absurd hij (nw i (by omega))
            · rw [old j (by omega)] at hij
              exact h4 i j (by omega) (by omega) hij
        · rw [old i (by omega)]; exact h5 i hi
        · by_cases ei : i = sCt τ
          · rw [ei, t3]; exact Or.inr ⟨mb, rfl⟩
          · rw [old i (by omega)]; exact Or.inl (h6 i h1 (by omega))
        · have w6 : τ.2.1 6 = 0 := Classical.byContradiction fun t => by
            rw [if_neg (fun s => t s.1)] at w; omega
          rcases hq with hq | hq
          · obtain ⟨i, i1, i2⟩ := h7 w6 q' hq
            exact ⟨i, by omega, by rw [old i i1]; exact i2⟩
          · exact ⟨sCt τ, by omega, by rw [t3]; exact hq.2.symm⟩
        · exfalso
          have w6 : τ.2.1 6 ≠ 0 := fun t => w (if_pos ⟨t, lt⟩)
          have := (h8 w6).1
          omega
      · rw [if_neg lt] at e4
        have ct' : sCt (sNw n (sW τ r c o) (sTr τ r c o)) = sCt τ := by
          show ((sNw n (sW τ r c o) (sTr τ r c o)).2.1 4).toNat = (τ.2.1 4).toNat
          rw [e4]
        unfold RI
        rw [ct', e7, e4, e6]
        have old : ∀ i, i < sCt τ → rPos G (tnF τ.2.2 r (sCt τ) c o) i = rPos G (τ.2.2 7) i := t2
        refine ⟨⟨fun i hi => t1.1 i (by omega), fun i hi => t1.2 i (by omega)⟩, h2, h3, fun i j hi hj hij => ?_, fun i hi => ?_, fun i h1 h2 => ?_, fun w => ?_, fun w => ⟨by omega, nwP G (τ.2.2 7) r c o, Or.inr ⟨mb, rfl⟩, fun i hi => ?_⟩, fx⟩
        · rw [old i hi, old j hj] at hij
          exact h4 i j hi hj hij
        · rw [old i (by omega)]; exact h5 i hi
        · rw [old i h2]; exact Or.inl (h6 i h1 h2)
        · rw [if_neg (fun t => lt t.2)] at w; omega
        · rw [old i hi]; exact nw i hi
    · -- known
      have kn : ∃ k, k < sCt τ ∧ rPos G (τ.2.2 7) k = nwP G (τ.2.2 7) r c o := by
        rcases t4 with ⟨k, k1, k2, k3⟩ | ⟨k1, k2⟩
        · exact ⟨k, k1, k3⟩
        · exact absurd k1 e
      have eq : spO G r n c o τ = sTr τ r c o := by
        unfold spO
        rw [if_pos q, if_neg e]
      rw [eq]
      refine ⟨?_, rg' _ _ sTr_8 sTr_9 rfl rfl rfl, rb⟩
      unfold RI
      rw [sTr_ct, sTr_4, sTr_6, sTr_A7]
      have old : ∀ i, i < sCt τ → rPos G (tnF τ.2.2 r (sCt τ) c o) i = rPos G (τ.2.2 7) i := t2
      refine ⟨⟨fun i hi => t1.1 i (by omega), fun i hi => t1.2 i (by omega)⟩, h2, h3, fun i j hi hj hij => ?_, fun i hi => ?_, fun i h1 h2 => ?_, fun w q' hq => ?_, fun w => ?_, ?_⟩
      · rw [old i hi, old j hj] at hij
        exact h4 i j hi hj hij
      · rw [old i (by omega)]; exact h5 i hi
      · rw [old i h2]; exact Or.inl (h6 i h1 h2)
      · rcases hq with hq | hq
        · obtain ⟨i, i1, i2⟩ := h7 w q' hq
          exact ⟨i, i1, by rw [old i i1]; exact i2⟩
        · obtain ⟨k, k1, k2⟩ := kn
          exact ⟨k, k1, by rw [old k k1, k2]; exact hq.2.symm⟩
      · obtain ⟨w1, q', w2, w3⟩ := h8 w
        exact ⟨w1, q', Or.inl w2, fun i hi => by rw [old i hi]; exact w3 i hi⟩
      · show (x0 ≠ 0 ∨ τ.1 ≠ 0) ↔ _
        constructor
        · intro w
          obtain ⟨q, q1, q2⟩ := h9.1 w
          exact ⟨q, Or.inl q1, q2⟩
        · rintro ⟨q, q1 | q1, q2⟩
          · exact h9.2 ⟨q, q1, q2⟩
          · obtain ⟨k, k1, k2⟩ := kn
            rw [← q1.2, q2] at k2
            by_cases km : k < m0
            · exact absurd ((h5 k km).symm.trans k2) (hw k km)
            · exact h9.2 ⟨_, h6 k (by omega) k1, k2⟩
  · have eq : spO G r n c o τ = τ := by
      unfold spO
      rw [if_neg q]
    rw [eq]
    refine ⟨RI.cong ⟨h1, h2, h3, h4, h5, h6, h7, h8, h9⟩ fun q' => ⟨fun w => Or.inl w, fun w => ?_⟩, hg, fun x hx => rfl⟩
    rcases w with w | w
    · exact w
    · exact absurd (ml.2 w.1) q
end ZRR
