section ZRQ
variable {G b f S : Nat → Int} {Y A A' P : Nat → Nat → Int} {N : Nat → Int} {z y m lo o : Int} {k r ct : Nat} {c : Int}
/-- a position: what each card lies on -/
def pos (n : Nat) (b : Nat → Int) : List Int := (List.range n).map b
theorem pos_eq {n : Nat} {b b' : Nat → Int} : pos n b = pos n b' ↔ ∀ x, x < n → b x = b' x := by
  unfold pos
  rw [List.map_inj_left]
  exact ⟨fun h x hx => h x (List.mem_range.2 hx), fun h x hx => h x (List.mem_range.1 hx)⟩
abbrev wnP (n : Nat) : List Int := pos n (fun _ => -3)
def Sc (G : Nat → Int) (p q : List Int) : Prop := ∃ b c o, p = pos (nC G) b ∧ mayB G b c o ∧ q = pos (nC G) (iU b c o)
theorem mayB_c {b b' : Nat → Int} {c : Nat} (h : ∀ x, x < nC G → b x = b' x) (hm : mayB G b c o) : mayB G b' c o := by
  obtain ⟨m1, m2, m3, m4, m5⟩ := hm
  have fr : ∀ v, frC (nC G) b v → frC (nC G) b' v := fun v hv x hx => by rw [← h x hx]; exact hv x hx
  have c1 : ∀ v, cOn G b v = cOn G b' v := fun v => cnt_c fun x hx => by
    show decide (b x = v) = decide (b' x = v)
    rw [h x hx]
  have c2 : ∀ s, cHm G b s = cHm G b' s := fun s => cnt_c fun x hx => by
    show decide (b x = -3 ∧ gSuit G x = s) = decide (b' x = -3 ∧ gSuit G x = s)
    rw [h x hx]
  refine ⟨m1, by rw [← h c m1]; exact m2, fr _ m3, by rw [← h c m1]; exact m4, ?_⟩
  rw [c1, c1, c2] at m5
  rcases m5 with q | q | q | q
  · exact Or.inl q
  · exact Or.inr (Or.inl q)
  · exact Or.inr (Or.inr (Or.inl q))
  · refine Or.inr (Or.inr (Or.inr ⟨q.1, q.2.1, ?_, fr _ q.2.2.2.1, q.2.2.2.2⟩))
    by_cases hx : o.toNat < nC G
    · rw [← h _ hx]; exact q.2.2.1
    · exfalso
      have : o < gAll G := q.2.1
      have e : nC G = (gAll G).toNat := rfl
      omega
theorem Sc_of {b : Nat → Int} {q : List Int} : Sc G (pos (nC G) b) q ↔ ∃ c o, mayB G b c o ∧ q = pos (nC G) (iU b c o) := by
  constructor
  · rintro ⟨b', c, o, h1, h2, h3⟩
    have e := pos_eq.1 h1.symm
    refine ⟨c, o, mayB_c e h2, ?_⟩
    rw [h3, pos_eq]
    intro x hx
    unfold iU
    split
    · rfl
    · exact e x hx
  · rintro ⟨c, o, h1, h2⟩
    exact ⟨b, c, o, rfl, h1, h2⟩
/-- the reference's signs -/
def dec (v : Int) : Int := if v = 1 then -3 else if v = 2 then -2 else if v = 3 then -1 else v - 10
abbrev rowB (f : Nat → Int) (r : Nat) : Nat → Int := fun c => dec (f (52 * r + c))
def vRow (G f : Nat → Int) (r : Nat) : Prop := (∀ c, c < nC G → onR G (f (52 * r + c))) ∧ ∀ c, nC G ≤ c → c < 52 → f (52 * r + c) = 0
abbrev rPos (G f : Nat → Int) (r : Nat) : List Int := pos (nC G) (rowB f r)
theorem dec_1 {v : Int} (h : onR G v) : dec v = -3 ↔ v = 1 := by unfold dec; split; simp_all; split; omega; split <;> omega
theorem dec_2 {v : Int} (h : onR G v) : dec v = -2 ↔ v = 2 := by unfold dec; split; omega; split; simp_all; split <;> omega
theorem dec_3 {v : Int} (h : onR G v) : dec v = -1 ↔ v = 3 := by unfold dec; split; omega; split; omega; split <;> omega
theorem dec_d {v d : Int} (h : onR G v) (hd : 0 ≤ d) : dec v = d ↔ v = 10 + d := by unfold dec; split; omega; split; omega; split <;> omega
theorem dec_i {v v' : Int} (h : onR G v) (h' : onR G v') : dec v = dec v' ↔ v = v' := by
  unfold dec
  split <;> split <;> (try split) <;> (try split) <;> (try split) <;> (try split) <;> omega
theorem dec_ge {v : Int} (h : onR G v) : -1 ≤ dec v ↔ 3 ≤ v := by unfold dec; split; omega; split; omega; split <;> omega
theorem dec_r (hG : gmV G) {v : Int} (h : onR G v) : -3 ≤ dec v ∧ dec v < gAll G ∧ (0 ≤ dec v → v = 10 + dec v) := by
  have := gAll_rng hG
  unfold onR at h
  unfold dec
  split; omega; split; omega; split <;> omega
/-- what the reference regards before it tries -/
def rgI (G f : Nat → Int) (r k : Nat) (s : RG) : Prop :=
  (∀ u : Nat, u < 4 → s.1 u = cnt (fun x => decide (f (52 * r + x) = 1 ∧ gSuit G x = u)) k) ∧
  s.2.1 = cnt (fun x => decide (f (52 * r + x) = 2)) k ∧ s.2.2.1 = cnt (fun x => decide (f (52 * r + x) = 3)) k ∧
  ∀ d : Nat, d < nC G → (s.2.2.2 d = 0 ↔ ∀ x, x < k → f (52 * r + x) ≠ 10 + d)
theorem rgI_s (hG : gmV G) {s : RG} (h : rgI G f r k s) : rgI G f r (k + 1) (rgS G f r k s) := by
  obtain ⟨h1, h2, h3, h4⟩ := h
  have e : (52 * (r : Int) + (k : Int)).toNat = 52 * r + k := by omega
  have sr := gSuit_rng (c := (k : Int)) hG
  unfold rgS
  rw [e]
  refine ⟨fun u hu => ?_, ?_, ?_, fun d hd => ?_⟩
  · show (if f (52 * r + k) = 1 then iU s.1 (gSuit G k).toNat (s.1 (gSuit G k).toNat + 1) else s.1) u = _
    rw [cnt_s]
    by_cases q : f (52 * r + k) = 1
    · rw [if_pos q]
      by_cases q2 : u = (gSuit G k).toNat
      · subst q2
        rw [iU_same, h1 _ hu, decide_eq_true (show f (52 * r + k) = 1 ∧ gSuit G k = ((gSuit G k).toNat : Int) from ⟨q, by omega⟩), if_pos rfl]
        rfl
      · rw [iU_ne _ _ q2, h1 _ hu, decide_eq_false (show ¬ (f (52 * r + k) = 1 ∧ gSuit G k = (u : Int)) from fun w => q2 (by omega)), if_neg (by decide)]
        rfl
    · rw [if_neg q, h1 _ hu, decide_eq_false (show ¬ (f (52 * r + k) = 1 ∧ gSuit G k = (u : Int)) from fun w => q w.1), if_neg (by decide)]
      rfl
  · show (if f (52 * r + k) = 2 then s.2.1 + 1 else s.2.1) = _
    rw [cnt_s, h2]
    by_cases q : f (52 * r + k) = 2
    · rw [if_pos q, decide_eq_true q, if_pos rfl]; rfl
    · rw [if_neg q, decide_eq_false q, if_neg (by decide)]; rfl
  · show (if f (52 * r + k) = 3 then s.2.2.1 + 1 else s.2.2.1) = _
    rw [cnt_s, h3]
    by_cases q : f (52 * r + k) = 3
    · rw [if_pos q, decide_eq_true q, if_pos rfl]; rfl
    · rw [if_neg q, decide_eq_false q, if_neg (by decide)]; rfl
  · show (if 10 ≤ f (52 * r + k) then iU s.2.2.2 (f (52 * r + k) - 10).toNat 1 else s.2.2.2) d = 0 ↔ _
    by_cases q : 10 ≤ f (52 * r + k)
    · rw [if_pos q]
      by_cases q2 : d = (f (52 * r + k) - 10).toNat
      · rw [q2, iU_same]
        exact ⟨fun w => by omega, fun w => absurd (show f (52 * r + k) = 10 + (((f (52 * r + k) - 10).toNat : Nat) : Int) by omega) (w k (by omega))⟩
      · rw [iU_ne _ _ q2, h4 d hd]
        refine ⟨fun w x hx => ?_, fun w x hx => w x (by omega)⟩
        by_cases e : x = k
        · rw [e]; omega
        · exact w x (by omega)
    · rw [if_neg q, h4 d hd]
      refine ⟨fun w x hx => ?_, fun w x hx => w x (by omega)⟩
      by_cases e : x = k
      · rw [e]; omega
      · exact w x (by omega)
theorem rgI_L (hG : gmV G) : ∀ (j k : Nat) (s : RG), rgI G f r k s → rgI G f r (k + j) (rgL G f r j k s) := by
  intro j
  induction j with
  | zero => intro k s h; exact h
  | succ j ih =>
    intro k s h
    have := ih (k + 1) _ (rgI_s hG h)
    rw [show k + 1 + j = k + (j + 1) by omega, show ((k + 1 : Nat) : Int) = (k : Int) + 1 by omega] at this
    exact this
theorem rgI_0 : rgI G f r 0 (rg0 G A) := by
  refine ⟨fun u hu => ?_, rfl, rfl, fun d hd => ⟨fun _ x hx => by omega, fun _ => ?_⟩⟩
  · show iFi (A 11) 4 0 u = _
    rw [iFi_in hu]; rfl
  · show iFi (A 12) (gAll G).toNat 0 d = 0
    rw [iFi_in hd]
theorem rg_I (hG : gmV G) : rgI G (A 7) r (nC G) (rg G A r) := by
  have := rgI_L hG (nC G) 0 _ (rgI_0 (G := G) (f := A 7) (r := r) (A := A))
  rw [Nat.zero_add] at this
  exact this
/-- row r is regarded -/
def rgd (G N : Nat → Int) (A : Nat → Nat → Int) (r : Nat) : Prop := rgI G (A 7) r (nC G) (A 11, N 8, N 9, A 12)
theorem mMl_may (hG : gmV G) (hr : rgd G N A r) (hv : vRow G (A 7) r) {c : Nat} (hc : c < nC G) (ho : onR G o) : mMl G N A r c o ↔ mayB G (rowB (A 7) r) c (dec o) := by
  have hG' := hG
  unfold gmV at hG'
  have hA := gAll_rng hG
  have hn := nC_eq hG
  obtain ⟨r1, r2, r3, r4⟩ := hr
  have r2 : N 8 = _ := r2
  have r3 : N 9 = _ := r3
  have ec : (52 * (r : Int) + (c : Int)).toNat = 52 * r + c := by omega
  have vc := hv.1 c hc
  have sr := gSuit_rng (c := (c : Int)) hG
  have fr : ∀ d : Nat, d < nC G → (A 12 d = 0 ↔ frC (nC G) (rowB (A 7) r) d) := fun d hd => by
    refine (r4 d hd).trans ⟨fun w x hx q => w x hx ((dec_d (hv.1 x hx) (by omega)).1 q), fun w x hx q => w x hx ((dec_d (hv.1 x hx) (by omega)).2 q)⟩
  have k2 : cnt (fun x => decide (A 7 (52 * r + x) = 2)) (nC G) = cOn G (rowB (A 7) r) (-2) := cnt_c fun x hx => decide_eq_decide.2 (dec_2 (hv.1 x hx)).symm
  have k3 : cnt (fun x => decide (A 7 (52 * r + x) = 3)) (nC G) = cOn G (rowB (A 7) r) (-1) := cnt_c fun x hx => decide_eq_decide.2 (dec_3 (hv.1 x hx)).symm
  have k1 : cnt (fun x => decide (A 7 (52 * r + x) = 1 ∧ gSuit G x = ((gSuit G c).toNat : Int))) (nC G) = cHm G (rowB (A 7) r) (gSuit G c) := cnt_c fun x hx => decide_eq_decide.2 (by
    rw [show (((gSuit G c).toNat : Nat) : Int) = gSuit G c by omega]
    exact and_congr (dec_1 (hv.1 x hx)).symm Iff.rfl)
  have e1 : A 11 (gSuit G c).toNat = cHm G (rowB (A 7) r) (gSuit G c) := by rw [← k1]; exact r1 _ (by omega)
  rw [k2] at r2
  rw [k3] at r3
  unfold mMl mayB
  rw [ec, show ((c : Int)).toNat = c by omega, fr c hc]
  have n1 : A 7 (52 * r + c) ≠ 1 ↔ rowB (A 7) r c ≠ -3 := not_congr (dec_1 vc).symm
  have n2 : A 7 (52 * r + c) ≠ o ↔ rowB (A 7) r c ≠ dec o := not_congr (dec_i vc ho).symm
  rw [n1, n2]
  constructor
  · rintro ⟨⟨a1, a2, a3⟩, a4⟩
    refine ⟨hc, a1, a2, a3, ?_⟩
    by_cases q1 : o = 1
    · rw [if_pos q1] at a4
      exact Or.inl ⟨(dec_1 ho).2 q1, by omega⟩
    · rw [if_neg q1] at a4
      by_cases q2 : o = 2
      · rw [if_pos q2] at a4
        exact Or.inr (Or.inl ⟨(dec_2 ho).2 q2, by omega⟩)
      · rw [if_neg q2] at a4
        by_cases q3 : o = 3
        · rw [if_pos q3] at a4
          exact Or.inr (Or.inr (Or.inl ⟨(dec_3 ho).2 q3, by omega, a4.2⟩))
        · rw [if_neg q3] at a4
          have od : dec o = o - 10 := by unfold dec; rw [if_neg q1, if_neg q2, if_neg q3]
          have ob : 10 ≤ o ∧ o < 10 + gAll G := by unfold onR at ho; omega
          have eo : (52 * (r : Int) + (o - 10)).toNat = 52 * r + (o - 10).toNat := by omega
          rw [eo] at a4
          rw [od]
          have f2 := (fr (o - 10).toNat (by omega)).1 a4.2.1
          rw [show (((o - 10).toNat : Nat) : Int) = o - 10 by omega] at f2
          exact Or.inr (Or.inr (Or.inr ⟨by omega, by omega, (dec_ge (hv.1 _ (by omega))).2 a4.1, f2, a4.2.2⟩))
  · rintro ⟨-, a1, a2, a3, a4⟩
    refine ⟨⟨a1, a2, a3⟩, ?_⟩
    have ob : o = 1 ∨ o = 2 ∨ o = 3 ∨ (10 ≤ o ∧ o < 10 + gAll G) := by
      clear vc a1 a2 a3 a4 n1 n2 hn hA
      unfold onR at ho; omega
    have no : ∀ x y : Int, x ≠ y → ∀ {Q : Prop}, x = y → Q := fun x y h Q e => absurd e h
    rcases ob with q | q | q | q
    · rw [if_pos q]
      have d := (dec_1 ho).2 q
      rw [d] at a4
      rcases a4 with a4 | a4 | a4 | a4
      · rw [e1]; exact a4.2
      · exact absurd a4.1 (by decide)
      · exact absurd a4.1 (by decide)
      · exact absurd a4.1 (by decide)
    · rw [if_neg (by rw [q]; decide), if_pos q]
      have d := (dec_2 ho).2 q
      rw [d] at a4
      rcases a4 with a4 | a4 | a4 | a4
      · exact absurd a4.1 (by decide)
      · rw [r2]; exact a4.2
      · exact absurd a4.1 (by decide)
      · exact absurd a4.1 (by decide)
    · rw [if_neg (by rw [q]; decide), if_neg (by rw [q]; decide), if_pos q]
      have d := (dec_3 ho).2 q
      rw [d] at a4
      rcases a4 with a4 | a4 | a4 | a4
      · exact absurd a4.1 (by decide)
      · exact absurd a4.1 (by decide)
      · rw [r3]; exact ⟨a4.2.1, a4.2.2⟩
      · exact absurd a4.1 (by decide)
    · clear vc ho n1 n2 r1 r2 r3 r4 k1 k2 k3 e1
      rw [if_neg (by omega), if_neg (by omega), if_neg (by omega)]
      have od : dec o = o - 10 := by unfold dec; rw [if_neg (by omega), if_neg (by omega), if_neg (by omega)]
      have eo : (52 * (r : Int) + (o - 10)).toNat = 52 * r + (o - 10).toNat := by omega
      rw [od] at a4
      rw [eo]
      rcases a4 with a4 | a4 | a4 | a4
      · omega
      · omega
      · omega
      · have lt : (o - 10).toNat < nC G := by omega
        refine ⟨(dec_ge (hv.1 _ lt)).1 a4.2.2.1, (fr (o - 10).toNat lt).2 ?_, a4.2.2.2.2⟩
        rw [show (((o - 10).toNat : Nat) : Int) = o - 10 by omega]
        exact a4.2.2.2.1
/-! trying a row -/
theorem eqL_all {i ct : Nat} : ∀ n, eqL f i ct n = 1 ↔ ∀ k, k < n → f (52 * i + k) = f (52 * ct + k) := by
  intro n
  induction n with
  | zero => exact ⟨fun _ k hk => by omega, fun _ => rfl⟩
  | succ n ih =>
    show (if eqL f i ct n = 1 ∧ f (52 * i + n) = f (52 * ct + n) then (1 : Int) else 0) = 1 ↔ _
    constructor
    · intro h k hk
      by_cases q : eqL f i ct n = 1 ∧ f (52 * i + n) = f (52 * ct + n)
      · by_cases e : k = n
        · rw [e]; exact q.2
        · exact ih.1 q.1 k (by omega)
      · rw [if_neg q] at h; omega
    · intro h
      rw [if_pos ⟨ih.2 fun k hk => h k (by omega), h n (by omega)⟩]
theorem tnW_all {v : Nat → Int} : ∀ n, tnW v n = 1 ↔ ∀ k, k < n → v k = 1 ∨ v k = 0 := by
  intro n
  induction n with
  | zero => exact ⟨fun _ k hk => by omega, fun _ => rfl⟩
  | succ n ih =>
    show (if tnW v n = 1 ∧ (v n = 1 ∨ v n = 0) then (1 : Int) else 0) = 1 ↔ _
    constructor
    · intro h k hk
      by_cases q : tnW v n = 1 ∧ (v n = 1 ∨ v n = 0)
      · by_cases e : k = n
        · rw [e]; exact q.2
        · exact ih.1 q.1 k (by omega)
      · rw [if_neg q] at h; omega
    · intro h
      rw [if_pos ⟨ih.2 fun k hk => h k (by omega), h n (by omega)⟩]
theorem smO_c {f g : Nat → Int} {r r' : Nat} : ∀ (j k : Nat) (s : Int), (∀ i, k ≤ i → i < k + j → f (52 * r + i) = g (52 * r' + i)) → smO f r j k s = smO g r' j k s := by
  intro j
  induction j with
  | zero => intro k s _; rfl
  | succ j ih =>
    intro k s h
    show smO f r j ((k : Int) + 1) (nm (31 * s + f (52 * (r : Int) + k).toNat)) = smO g r' j ((k : Int) + 1) (nm (31 * s + g (52 * (r' : Int) + k).toNat))
    have e := h k (by omega) (by omega)
    rw [show (52 * (r : Int) + (k : Int)).toNat = 52 * r + k by omega, show (52 * (r' : Int) + (k : Int)).toNat = 52 * r' + k by omega, e]
    have := ih (k + 1) (nm (31 * s + g (52 * r' + k))) fun i h1 h2 => h i (by omega) (by omega)
    rw [show ((k + 1 : Nat) : Int) = (k : Int) + 1 by omega] at this
    exact this
theorem mSm_c {f g : Nat → Int} {r r' : Nat} (h : ∀ i, i < 52 → f (52 * r + i) = g (52 * r' + i)) : mSm f r = mSm g r' := smO_c 52 0 0 fun i _ hi => h i (by omega)
theorem tnI_spec {n : Nat} : ∀ (j i : Nat), (∃ k, i ≤ k ∧ k < i + j ∧ tnI f S ct n j i = k ∧ eqC f S k ct n) ∨ (tnI f S ct n j i = i + j ∧ ∀ k, i ≤ k → k < i + j → ¬ eqC f S k ct n) := by
  intro j
  induction j with
  | zero => intro i; exact Or.inr ⟨rfl, fun k h1 h2 => by omega⟩
  | succ j ih =>
    intro i
    by_cases q : eqC f S i ct n
    · left
      exact ⟨i, by omega, by omega, if_pos q, q⟩
    · have e : tnI f S ct n (j + 1) i = tnI f S ct n j (i + 1) := if_neg q
      rw [e]
      rcases ih (i + 1) with ⟨k, h1, h2, h3, h4⟩ | ⟨h1, h2⟩
      · exact Or.inl ⟨k, by omega, by omega, h3, h4⟩
      · refine Or.inr ⟨by omega, fun k h3 h4 => ?_⟩
        by_cases e : k = i
        · rw [e]; exact q
        · exact h2 k (by omega) (by omega)
theorem vRow_eq {i j : Nat} (hi : vRow G f i) (hj : vRow G f j) (h52 : nC G ≤ 52) : (∀ k, k < 52 → f (52 * i + k) = f (52 * j + k)) ↔ rPos G f i = rPos G f j := by
  rw [pos_eq]
  constructor
  · intro h x hx
    show dec _ = dec _
    rw [h x (by omega)]
  · intro h k hk
    by_cases q : k < nC G
    · exact (dec_i (hi.1 k q) (hj.1 k q)).1 (h k q)
    · rw [hi.2 k (by omega) hk, hj.2 k (by omega) hk]
theorem tnR_new {k : Nat} (hk : k < 52) : tnR f r ct c o 52 (52 * ct + k) = tnV f r c o k := by
  unfold tnR
  rw [if_pos (by omega), show 52 * ct + k - 52 * ct = k by omega]
theorem tnR_oth {j : Nat} (hj : j < 52 * ct) : tnR f r ct c o 52 j = f j := if_neg (by omega)
/-- the rows and their sums -/
def rws (G : Nat → Int) (A : Nat → Nat → Int) (ct : Nat) : Prop := (∀ i, i < ct → vRow G (A 7) i) ∧ ∀ i, i < ct → A 8 i = mSm (A 7) i
theorem tn_spec (hG : gmV G) (hR : rws G A ct) (hr : r < ct) {c : Nat} (hc : c < nC G) (ho : onR G o) :
    rws G (tnA A r ct c o) (ct + 1) ∧ (∀ i, i < ct → rPos G (tnF A r ct c o) i = rPos G (A 7) i) ∧ rPos G (tnF A r ct c o) ct = pos (nC G) (iU (rowB (A 7) r) c (dec o)) ∧
    ((∃ k, k < ct ∧ tn A r ct c o = k ∧ rPos G (A 7) k = pos (nC G) (iU (rowB (A 7) r) c (dec o))) ∨ (tn A r ct c o = ct ∧ ∀ k, k < ct → rPos G (A 7) k ≠ pos (nC G) (iU (rowB (A 7) r) c (dec o)))) ∧
    (tnW (tnV (A 7) r c o) 52 = 1 ↔ pos (nC G) (iU (rowB (A 7) r) c (dec o)) = wnP (nC G)) := by
  have hA := gAll_rng hG
  have hn := nC_eq hG
  have new : ∀ k, k < 52 → tnF A r ct c o (52 * ct + k) = if k = c then o else A 7 (52 * r + k) := fun k hk => by
    show tnR (A 7) r ct c o 52 (52 * ct + k) = _
    rw [tnR_new hk]
    show (if (k : Int) = (c : Int) then o else A 7 (52 * r + k)) = _
    by_cases q : k = c
    · rw [if_pos q, if_pos (by omega)]
    · rw [if_neg q, if_neg (by omega)]
  have old : ∀ i k, i < ct → k < 52 → tnF A r ct c o (52 * i + k) = A 7 (52 * i + k) := fun i k hi hk => tnR_oth (by omega)
  have vo : ∀ i, i < ct → vRow G (tnF A r ct c o) i := fun i hi => ⟨fun k hk => by rw [old i k hi (by omega)]; exact (hR.1 i hi).1 k hk, fun k h1 h2 => by rw [old i k hi h2]; exact (hR.1 i hi).2 k h1 h2⟩
  have vn : vRow G (tnF A r ct c o) ct := by
    refine ⟨fun k hk => ?_, fun k h1 h2 => ?_⟩
    · rw [new k (by omega)]
      split
      · exact ho
      · exact (hR.1 r hr).1 k hk
    · rw [new k h2, if_neg (by omega)]
      exact (hR.1 r hr).2 k h1 h2
  have po : ∀ i, i < ct → rPos G (tnF A r ct c o) i = rPos G (A 7) i := fun i hi => pos_eq.2 fun x hx => by
    show dec _ = dec _
    rw [old i x hi (by omega)]
  have pn : rPos G (tnF A r ct c o) ct = pos (nC G) (iU (rowB (A 7) r) c (dec o)) := pos_eq.2 fun x hx => by
    show dec _ = iU (rowB (A 7) r) c (dec o) x
    rw [new x (by omega)]
    by_cases q : x = c
    · rw [if_pos q, q, iU_same]
    · rw [if_neg q, iU_ne _ _ q]
  have so : ∀ i, i < ct → tnS A r ct c o i = mSm (tnF A r ct c o) i := fun i hi => by
    show iU (A 8) ct _ i = _
    rw [iU_ne _ _ (by omega), hR.2 i hi]
    exact mSm_c fun k hk => (old i k hi hk).symm
  have sn : tnS A r ct c o ct = mSm (tnF A r ct c o) ct := iU_same ..
  have ec : ∀ i, i < ct → (eqC (tnF A r ct c o) (tnS A r ct c o) i ct 52 ↔ rPos G (A 7) i = pos (nC G) (iU (rowB (A 7) r) c (dec o))) := fun i hi => by
    rw [← po i hi, ← pn, ← vRow_eq (vo i hi) vn (by omega)]
    unfold eqC
    rw [eqL_all]
    refine ⟨fun w => w.2, fun w => ⟨?_, w⟩⟩
    rw [so i hi, sn]
    exact mSm_c w
  refine ⟨⟨fun i hi => ?_, fun i hi => ?_⟩, po, pn, ?_, ?_⟩
  · show vRow G (tnF A r ct c o) i
    by_cases q : i = ct
    · rw [q]; exact vn
    · exact vo i (by omega)
  · show tnS A r ct c o i = mSm (tnF A r ct c o) i
    by_cases q : i = ct
    · rw [q]; exact sn
    · exact so i (by omega)
  · rcases tnI_spec (f := tnF A r ct c o) (S := tnS A r ct c o) (ct := ct) (n := 52) ct 0 with ⟨k, h1, h2, h3, h4⟩ | ⟨h1, h2⟩
    · exact Or.inl ⟨k, by omega, h3, (ec k (by omega)).1 h4⟩
    · refine Or.inr ⟨by rw [Nat.zero_add] at h1; exact h1, fun k hk q => h2 k (by omega) (by omega) ((ec k hk).2 q)⟩
  · rw [tnW_all, ← pn, pos_eq]
    have nv : ∀ k, k < 52 → tnV (A 7) r c o k = tnF A r ct c o (52 * ct + k) := fun k hk => (tnR_new hk).symm
    constructor
    · intro w x hx
      have := w x (by omega)
      rw [nv x (by omega)] at this
      have v := vn.1 x hx
      refine (dec_1 v).2 ?_
      rcases this with q | q
      · exact q
      · unfold onR at v; omega
    · intro w k hk
      rw [nv k hk]
      by_cases q : k < nC G
      · exact Or.inl ((dec_1 (vn.1 k q)).1 (w k q))
      · exact Or.inr (vn.2 k (by omega) hk)
end ZRQ
