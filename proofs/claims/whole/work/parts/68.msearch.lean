/-! The reference's search: tried. (Laid out by gen/tpl.py from tpl/68.msearch.tpl.) -/
section ZMT
variable {L : Nat} {xs : Nat → Int32} {d q : Nat} {w w' : zi_W} {cn sn : Nat} {Q : zi_O → zi_W → Nat → Nat → Prop} {G N : Nat → Int} {A : Nat → Nat → Int} {z y m c o a b e k u : Int} {r ct : Nat}
/-- row r with card c on o -/
abbrev tnV (f : Nat → Int) (r : Nat) (c o : Int) (k : Nat) : Int := if (k : Int) = c then o else f (52 * r + k)
/-- it stands, as far as its first n cards, as row ct -/
def tnR (f : Nat → Int) (r ct : Nat) (c o : Int) (n : Nat) : Nat → Int := fun j => if 52 * ct ≤ j ∧ j < 52 * ct + n then tnV f r c o (j - 52 * ct) else f j
theorem tnR_s {f : Nat → Int} {n : Nat} (hr : r < ct) (hn : n < 52) : iU (tnR f r ct c o n) (52 * ct + n) (tnV f r c o n) = tnR f r ct c o (n + 1) := by
  funext j
  unfold iU tnR
  by_cases h : j = 52 * ct + n
  · rw [if_pos h, if_pos (by omega), show j - 52 * ct = n by omega]
  · rw [if_neg h]
    by_cases h2 : 52 * ct ≤ j ∧ j < 52 * ct + n
    · rw [if_pos h2, if_pos (by omega)]
    · rw [if_neg h2, if_neg (by omega)]
theorem tnR_old {f : Nat → Int} {n k : Nat} (hr : r < ct) (hk : k < 52) : tnR f r ct c o n (52 * r + k) = f (52 * r + k) := if_neg (by omega)
/-- all of its first n cards are at home, or don't belong to the game -/
def tnW (v : Nat → Int) : Nat → Int
  | 0 => 1
  | n + 1 => if tnW v n = 1 ∧ (v n = 1 ∨ v n = 0) then 1 else 0
theorem tnW_b {v : Nat → Int} : ∀ n, tnW v n = 0 ∨ tnW v n = 1 := by
  intro n
  cases n with
  | zero => exact Or.inr rfl
  | succ n =>
    unfold tnW
    split <;> omega
theorem zi_fitB {x : Int} (h : x = 0 ∨ x = 1) : zi_fit .boolean (iV x) = true := by
  rcases h with rfl | rfl <;> decide +kernel
/-- are the rows i and ct alike, n cards -/
def eqL (f : Nat → Int) (i ct : Nat) : Nat → Int
  | 0 => 1
  | n + 1 => if eqL f i ct n = 1 ∧ f (52 * i + n) = f (52 * ct + n) then 1 else 0
theorem eqL_b {f : Nat → Int} {i : Nat} : ∀ n, eqL f i ct n = 0 ∨ eqL f i ct n = 1 := by
  intro n
  cases n with
  | zero => exact Or.inr rfl
  | succ n =>
    unfold eqL
    split <;> omega
abbrev eqC (f S : Nat → Int) (i ct n : Nat) : Prop := S i = S ct ∧ eqL f i ct n = 1
def tnI (f S : Nat → Int) (ct n : Nat) : Nat → Nat → Nat
  | 0, i => i
  | j + 1, i => if eqC f S i ct n then i else tnI f S ct n j (i + 1)
theorem tnI_le {f S : Nat → Int} {n : Nat} : ∀ (j i : Nat), i ≤ tnI f S ct n j i ∧ tnI f S ct n j i ≤ i + j := by
  intro j
  induction j with
  | zero => intro i; exact ⟨Nat.le_refl _, Nat.le_refl _⟩
  | succ j ih =>
    intro i
    have := ih (i + 1)
    unfold tnI
    split <;> omega
abbrev tnF (A : Nat → Nat → Int) (r ct : Nat) (c o : Int) : Nat → Int := tnR (A 7) r ct c o 52
abbrev tnS (A : Nat → Nat → Int) (r ct : Nat) (c o : Int) : Nat → Int := iU (A 8) ct (mSm (tnF A r ct c o) ct)
abbrev tnN (N : Nat → Int) (A : Nat → Nat → Int) (r : Nat) (c o : Int) : Nat → Int := iU N 7 (tnW (tnV (A 7) r c o) 52)
abbrev tnA (A : Nat → Nat → Int) (r ct : Nat) (c o : Int) : Nat → Nat → Int := fU (fU A 7 (tnF A r ct c o)) 8 (tnS A r ct c o)
abbrev tn (A : Nat → Nat → Int) (r ct : Nat) (c o : Int) : Nat := tnI (tnF A r ct c o) (tnS A r ct c o) ct 52 ct 0
theorem lp_tn1 (hV : ∀ j, 0 ≤ A 7 j ∧ A 7 j ≤ 61) (hr : r < ct) (hct : ct ≤ 201) (hc : 0 ≤ c ∧ c < 52) (ho : 0 ≤ o ∧ o ≤ 61) (hN : N 4 = ct) (kk : ∀ w' x5, moA w' G (iU N 7 (tnW (tnV (A 7) r c o) 52)) (fU A 7 (tnR (A 7) r ct c o 52)) → zF moS w w' → zw L xs d q 123 89 [some (.ref 817), some (iV r), some (iV c), some (iV o), some (iV 52), x5, none] [] w' cn sn Q) : ∀ (j n : Nat) (w' : zi_W) (x5 : Option Value), n + j = 52 → moA w' G (iU N 7 (tnW (tnV (A 7) r c o) n)) (fU A 7 (tnR (A 7) r ct c o n)) → zF moS w w' → zw L xs d q 123 8 [some (.ref 817), some (iV r), some (iV c), some (iV o), some (iV n), x5, none] [] w' cn sn Q := by
  intro j
  induction j with
  | zero =>
    intro n w' x5 h1 hm hF
    obtain rfl : n = 52 := by omega
    refine zw_iload z123_8 rfl ?_
    refine zw_bipush z123_10 (v := iI (52)) (by decide +kernel) ?_
    refine zj_icmp_ge z123_12 (by omega) (by omega) (fun h5 => ?_) (fun h5 => ?_)
    · exact kk w' x5 hm hF
    · exfalso; omega
  | succ j ih =>
    intro n w' x5 h1 hm hF
    have m0 := hm.1
    have a7 : zi_get w' 825 = some (.inl (0, 10504, .inl (iA (tnR (A 7) r ct c o n)))) := hm.2.2.2.2.2.2.2.2.1
    have hb := tnW_b (v := tnV (A 7) r c o) n
    have hv : 0 ≤ tnV (A 7) r c o n ∧ tnV (A 7) r c o n ≤ 61 := by
      have := hV (52 * r + n)
      unfold tnV
      split <;> omega
    have k37 : zw L xs d q 123 37 [some (.ref 817), some (iV r), some (iV c), some (iV o), some (iV n), x5, none] [iV (tnV (A 7) r c o n)] w' cn sn Q := by
      have eW : tnW (tnV (A 7) r c o) (n + 1) = if tnW (tnV (A 7) r c o) n = 1 ∧ (tnV (A 7) r c o n = 1 ∨ tnV (A 7) r c o n = 0) then 1 else 0 := rfl
      have eR := tnR_s (f := A 7) (c := c) (o := o) (n := n) hr (by omega)
      generalize tnV (A 7) r c o n = v at *
      refine zw_istore z123_37 rfl ?_
      refine zw_aload_n z123_39 rfl ?_
      refine zw_getf z123_40 (by assumption) (by rfl) ?_
      refine zw_bipush z123_43 (v := iI (52)) (by decide +kernel) ?_
      refine zw_aload_n z123_45 rfl ?_
      refine zw_getf z123_46 (by assumption) (by rfl) ?_
      rw [show iU N 7 (tnW (tnV (A 7) r c o) n) 4 = (ct : Int) from hN]
      refine zj_mul z123_49 ?_
      refine zw_iload z123_50 rfl ?_
      refine zj_add z123_52 ?_
      refine zw_iload z123_53 rfl ?_
      refine zj_astG z123_55 a7 (by omega) (by decide) (fun w1 n1 f1 => ?_)
      have hm1 := mo_a7 hm n1 f1
      rw [fU_fU, show (52 * (ct : Int) + (n : Int)).toNat = 52 * ct + n by omega, eR] at hm1
      have m1 := hm1.1
      have k80 : ∀ x, x = tnW (tnV (A 7) r c o) (n + 1) → zw L xs d q 123 80 [some (.ref 817), some (iV r), some (iV c), some (iV o), some (iV n), some (iV v), none] [iV x, .ref 817] w1 cn sn Q := by
        intro x hx
        refine zj_putf z123_80 m1 (Nat.le_of_ble_eq_true rfl) (zi_fitB (hx ▸ tnW_b _)) (fun w2 n2 f2 => ?_)
        have hm2 := mo_put (N' := iU N 7 x) (G' := G) hm1 n2 f2
        rw [hx] at hm2
        refine zj_iinc z123_83 rfl rfl ?_
        refine zw_goto z123_86 ?_
        have := ih (n + 1) w2 (some (iV v)) (by omega) hm2 ((hF.step f1 (by omega)).step f2 (by omega))
        rwa [show ((n + 1 : Nat) : Int) = (n : Int) + 1 by omega] at this
      refine zw_aload_n z123_56 rfl ?_
      refine zw_aload_n z123_57 rfl ?_
      refine zw_getf z123_58 (by assumption) (by rfl) ?_
      rw [show iU N 7 (tnW (tnV (A 7) r c o) n) 7 = tnW (tnV (A 7) r c o) n from rfl]
      refine zj_if_eq z123_61 (by omega) (fun h6 => ?_) (fun h6 => ?_)
      · refine zw_iconst z123_79 (v := iI 0) rfl ?_
        exact k80 0 (by rw [eW, if_neg (by omega)])
      refine zw_iload z123_64 rfl ?_
      refine zw_iconst z123_66 (v := iI 1) rfl ?_
      refine zj_icmp_eq z123_67 (by omega) (by omega) (fun h7 => ?_) (fun h7 => ?_)
      · refine zw_iconst z123_75 (v := iI 1) rfl ?_
        refine zw_goto z123_76 ?_
        exact k80 1 (by rw [eW, if_pos (by omega)])
      refine zw_iload z123_70 rfl ?_
      refine zj_if_ne z123_72 (by omega) (fun h8 => ?_) (fun h8 => ?_)
      · refine zw_iconst z123_79 (v := iI 0) rfl ?_
        exact k80 0 (by rw [eW, if_neg (by omega)])
      · refine zw_iconst z123_75 (v := iI 1) rfl ?_
        refine zw_goto z123_76 ?_
        exact k80 1 (by rw [eW, if_pos (by omega)])
    refine zw_iload z123_8 rfl ?_
    refine zw_bipush z123_10 (v := iI (52)) (by decide +kernel) ?_
    refine zj_icmp_ge z123_12 (by omega) (by omega) (fun h5 => ?_) (fun h5 => ?_)
    · exfalso; omega
    refine zw_iload z123_15 rfl ?_
    refine zw_iload_n z123_17 rfl ?_
    refine zj_icmp_ne z123_18 (by omega) (by omega) (fun h9 => ?_) (fun h9 => ?_)
    · refine zw_aload_n z123_25 rfl ?_
      refine zw_getf z123_26 (by assumption) (by rfl) ?_
      refine zw_bipush z123_29 (v := iI (52)) (by decide +kernel) ?_
      refine zw_iload_n z123_31 rfl ?_
      refine zj_mul z123_32 ?_
      refine zw_iload z123_33 rfl ?_
      refine zj_add z123_35 ?_
      refine zj_ald z123_36 a7 (by omega) (by decide) ?_
      rw [show (52 * (r : Int) + (n : Int)).toNat = 52 * r + n by omega, tnR_old hr (by omega), show A 7 (52 * r + n) = tnV (A 7) r c o n from (if_neg h9).symm]
      exact k37
    · refine zw_iload_n z123_21 rfl ?_
      refine zw_goto z123_22 ?_
      rw [show tnV (A 7) r c o n = o from if_pos (by omega)] at k37
      exact k37
theorem eqL_z {f : Nat → Int} {i n : Nat} (h : ¬ eqL f i ct n = 1) : ∀ j, ¬ eqL f i ct (n + j) = 1 := by
  intro j
  induction j with
  | zero => exact h
  | succ j ih =>
    show ¬ eqL f i ct (n + j + 1) = 1
    unfold eqL
    rw [if_neg (fun g => ih g.1)]
    omega
abbrev eqV (f S : Nat → Int) (i ct n : Nat) : Int := if eqC f S i ct n then 1 else 0
theorem eqV_b {f S : Nat → Int} {i n : Nat} : eqV f S i ct n = 0 ∨ eqV f S i ct n = 1 := by
  unfold eqV
  split <;> omega
theorem lp_tn2 {i : Nat} (hm : moA w G N A) (hV : ∀ j, 0 ≤ A 7 j ∧ A 7 j ≤ 61) (hct : ct ≤ 201) (hi : i < ct) (hN : N 4 = ct) (kk : ∀ x6, zw L xs d q 123 211 [some (.ref 817), some (iV r), some (iV c), some (iV o), some (iV i), some (iV (eqV (A 7) (A 8) i ct 52)), x6] [] w cn sn Q) : ∀ (j n : Nat), n + j = 52 → zw L xs d q 123 155 [some (.ref 817), some (iV r), some (iV c), some (iV o), some (iV i), some (iV (eqV (A 7) (A 8) i ct n)), some (iV n)] [] w cn sn Q := by
  have hm9 := hm
  obtain ⟨m0, a0, a1, a2, a3, a4, a5, a6, a7, a8, a9, a10, a11, a12⟩ := hm9
  intro j
  induction j with
  | zero =>
    intro n h1
    obtain rfl : n = 52 := by omega
    have hb := eqV_b (f := A 7) (S := A 8) (i := i) (ct := ct) (n := 52)
    generalize eqV (A 7) (A 8) i ct 52 = v at *
    refine zw_iload z123_155 rfl ?_
    refine zw_bipush z123_157 (v := iI (52)) (by decide +kernel) ?_
    refine zj_icmp_ge z123_159 (by omega) (by omega) (fun h5 => ?_) (fun h5 => ?_)
    · exact kk _
    · exfalso; omega
  | succ j ih =>
    intro n h1
    have hb := eqV_b (f := A 7) (S := A 8) (i := i) (ct := ct) (n := n)
    have ih := ih (n + 1) (by omega)
    have d7 := hV (52 * i + n)
    have d8 := hV (52 * ct + n)
    have e0 : ¬ eqC (A 7) (A 8) i ct n → eqV (A 7) (A 8) i ct 52 = 0 := by
      intro hn
      refine if_neg (fun h => hn ⟨h.1, ?_⟩)
      by_cases g : eqL (A 7) i ct n = 1
      · exact g
      · have := eqL_z g (j + 1)
        rw [h1] at this
        exact absurd h.2 this
    have e1 : eqC (A 7) (A 8) i ct n → eqV (A 7) (A 8) i ct (n + 1) = if A 7 (52 * i + n) = A 7 (52 * ct + n) then 1 else 0 := by
      intro hn
      have eL : eqL (A 7) i ct (n + 1) = if eqL (A 7) i ct n = 1 ∧ A 7 (52 * i + n) = A 7 (52 * ct + n) then 1 else 0 := rfl
      by_cases g : A 7 (52 * i + n) = A 7 (52 * ct + n)
      · rw [if_pos g]
        exact if_pos ⟨hn.1, by rw [eL, if_pos ⟨hn.2, g⟩]⟩
      · rw [if_neg g]
        exact if_neg (fun h => by have := h.2; rw [eL, if_neg (fun h => g h.2)] at this; omega)
    generalize eqV (A 7) (A 8) i ct 52 = vf at *
    generalize eqV (A 7) (A 8) i ct (n + 1) = vn at *
    have hv : (eqV (A 7) (A 8) i ct n = 1 ∧ eqC (A 7) (A 8) i ct n) ∨ (eqV (A 7) (A 8) i ct n = 0 ∧ ¬ eqC (A 7) (A 8) i ct n) := by
      unfold eqV
      by_cases g : eqC (A 7) (A 8) i ct n
      · rw [if_pos g]; exact Or.inl ⟨rfl, g⟩
      · rw [if_neg g]; exact Or.inr ⟨rfl, g⟩
    generalize eqV (A 7) (A 8) i ct n = v at *
    refine zw_iload z123_155 rfl ?_
    refine zw_bipush z123_157 (v := iI (52)) (by decide +kernel) ?_
    refine zj_icmp_ge z123_159 (by omega) (by omega) (fun h5 => ?_) (fun h5 => ?_)
    · exfalso; omega
    refine zw_iload z123_162 rfl ?_
    refine zj_if_eq z123_164 (by omega) (fun h6 => ?_) (fun h6 => ?_)
    · have hc0 : ¬ eqC (A 7) (A 8) i ct n := by
        rcases hv with h | h
        · exfalso; omega
        · exact h.2
      have := kk (some (iV n))
      rw [e0 hc0] at this
      rw [h6]
      exact this
    have hc1 : eqC (A 7) (A 8) i ct n := by
      rcases hv with h | h
      · exact h.2
      · exfalso; omega
    refine zw_aload_n z123_167 rfl ?_
    refine zw_getf z123_168 (by assumption) (by rfl) ?_
    refine zw_bipush z123_171 (v := iI (52)) (by decide +kernel) ?_
    refine zw_iload z123_173 rfl ?_
    refine zj_mul z123_175 ?_
    refine zw_iload z123_176 rfl ?_
    refine zj_add z123_178 ?_
    refine zj_ald z123_179 a7 (by omega) (by decide) ?_
    refine zw_aload_n z123_180 rfl ?_
    refine zw_getf z123_181 (by assumption) (by rfl) ?_
    refine zw_bipush z123_184 (v := iI (52)) (by decide +kernel) ?_
    refine zw_aload_n z123_186 rfl ?_
    refine zw_getf z123_187 (by assumption) (by rfl) ?_
    rw [hN]
    refine zj_mul z123_190 ?_
    refine zw_iload z123_191 rfl ?_
    refine zj_add z123_193 ?_
    refine zj_ald z123_194 a7 (by omega) (by decide) ?_
    rw [show (52 * (i : Int) + (n : Int)).toNat = 52 * i + n by omega, show (52 * (ct : Int) + (n : Int)).toNat = 52 * ct + n by omega]
    rw [show ((n + 1 : Nat) : Int) = (n : Int) + 1 by omega] at ih
    refine zj_icmp_ne z123_195 (by omega) (by omega) (fun h7 => ?_) (fun h7 => ?_)
    · rw [e1 hc1, if_neg h7] at ih
      refine zw_iconst z123_202 (v := iI 0) rfl ?_
      refine zw_istore z123_203 rfl ?_
      refine zj_iinc z123_205 rfl rfl ?_
      refine zw_goto z123_208 ?_
      exact ih
    · rw [e1 hc1, if_pos (by omega)] at ih
      refine zw_iconst z123_198 (v := iI 1) rfl ?_
      refine zw_goto z123_199 ?_
      refine zw_istore z123_203 rfl ?_
      refine zj_iinc z123_205 rfl rfl ?_
      refine zw_goto z123_208 ?_
      exact ih
theorem lp_tn3 (hm : moA w G N A) (hV : ∀ j, 0 ≤ A 7 j ∧ A 7 j ≤ 61) (hS : ∀ j, iR (A 8 j)) (hct : ct ≤ 201) (hN : N 4 = ct) {R : Nat} (kk : Q (oI R) w cn sn) : ∀ (j i : Nat) (x6 : Option Value), i + j = ct → R = tnI (A 7) (A 8) ct 52 j i → zw L xs d q 123 112 [some (.ref 817), some (iV r), some (iV c), some (iV o), some (iV i), some (iV 0), x6] [] w cn sn Q := by
  have hm9 := hm
  obtain ⟨m0, a0, a1, a2, a3, a4, a5, a6, a7, a8, a9, a10, a11, a12⟩ := hm9
  intro j
  induction j with
  | zero =>
    intro i x6 h1 he
    have he : R = i := he
    subst he
    refine zw_iload z123_112 rfl ?_
    refine zw_aload_n z123_114 rfl ?_
    refine zw_getf z123_115 (by assumption) (by rfl) ?_
    rw [hN]
    refine zj_icmp_ge z123_118 (by omega) (by omega) (fun h5 => ?_) (fun h5 => ?_)
    · refine zw_iload z123_230 rfl ?_
      exact zw_iret z123_232 rfl kk
    · exfalso; omega
  | succ j ih =>
    intro i x6 h1 he
    have he : R = if eqC (A 7) (A 8) i ct 52 then i else tnI (A 7) (A 8) ct 52 j (i + 1) := he
    have q1 := hS i
    have q2 := hS ct
    refine zw_iload z123_112 rfl ?_
    refine zw_aload_n z123_114 rfl ?_
    refine zw_getf z123_115 (by assumption) (by rfl) ?_
    rw [hN]
    refine zj_icmp_ge z123_118 (by omega) (by omega) (fun h5 => ?_) (fun h5 => ?_)
    · exfalso; omega
    refine zw_iload z123_121 rfl ?_
    refine zj_if_ne z123_123 (by omega) (fun h6 => ?_) (fun h6 => ?_)
    · exfalso; omega
    refine zw_aload_n z123_126 rfl ?_
    refine zw_getf z123_127 (by assumption) (by rfl) ?_
    refine zw_iload z123_130 rfl ?_
    refine zj_ald z123_132 a8 (by omega) (by decide) ?_
    refine zw_aload_n z123_133 rfl ?_
    refine zw_getf z123_134 (by assumption) (by rfl) ?_
    refine zw_aload_n z123_137 rfl ?_
    refine zw_getf z123_138 (by assumption) (by rfl) ?_
    rw [hN]
    refine zj_ald z123_141 a8 (by omega) (by decide) ?_
    rw [show (i : Int).toNat = i by omega, show (ct : Int).toNat = ct by omega]
    have k211 : ∀ x6, zw L xs d q 123 211 [some (.ref 817), some (iV r), some (iV c), some (iV o), some (iV i), some (iV (eqV (A 7) (A 8) i ct 52)), x6] [] w cn sn Q := by
      intro x6
      have hv : (eqV (A 7) (A 8) i ct 52 = 1 ∧ eqC (A 7) (A 8) i ct 52) ∨ (eqV (A 7) (A 8) i ct 52 = 0 ∧ ¬ eqC (A 7) (A 8) i ct 52) := by
        generalize 52 = n52
        unfold eqV
        by_cases g : eqC (A 7) (A 8) i ct n52
        · rw [if_pos g]; exact Or.inl ⟨rfl, g⟩
        · rw [if_neg g]; exact Or.inr ⟨rfl, g⟩
      generalize eqV (A 7) (A 8) i ct 52 = v at *
      refine zw_iload z123_211 rfl ?_
      refine zj_if_eq z123_213 (by omega) (fun h7 => ?_) (fun h7 => ?_)
      · have hc0 : ¬ eqC (A 7) (A 8) i ct 52 := by
          rcases hv with h | h
          · exfalso; omega
          · exact h.2
        rw [if_neg hc0] at he
        refine zw_iload z123_221 rfl ?_
        refine zw_iconst z123_223 (v := iI 1) rfl ?_
        refine zj_add z123_224 ?_
        refine zw_istore z123_225 rfl ?_
        refine zw_goto z123_227 ?_
        have := ih (i + 1) x6 (by omega) he
        rw [show ((i + 1 : Nat) : Int) = (i : Int) + 1 by omega] at this
        rw [h7]
        exact this
      · have hc1 : eqC (A 7) (A 8) i ct 52 := by
          rcases hv with h | h
          · exact h.2
          · exfalso; omega
        rw [if_pos hc1] at he
        subst he
        obtain rfl : v = 1 := by omega
        refine zw_iload z123_216 rfl ?_
        refine zw_goto z123_218 ?_
        refine zw_istore z123_225 rfl ?_
        refine zw_goto z123_227 ?_
        refine zw_iload z123_112 rfl ?_
        refine zw_aload_n z123_114 rfl ?_
        refine zw_getf z123_115 (by assumption) (by rfl) ?_
        rw [hN]
        refine zj_icmp_ge z123_118 (by omega) (by omega) (fun h8 => ?_) (fun h8 => ?_)
        · exfalso; omega
        refine zw_iload z123_121 rfl ?_
        refine zj_if_ne z123_123 (by omega) (fun h9 => ?_) (fun h9 => ?_)
        · refine zw_iload z123_230 rfl ?_
          exact zw_iret z123_232 rfl kk
        · exfalso; omega
    have l2 := lp_tn2 (L := L) (xs := xs) (d := d) (q := q) (cn := cn) (sn := sn) (Q := Q) (r := r) (c := c) (o := o) hm hV hct (show i < ct by omega) hN k211 52 0 (by omega)
    have e0 : eqV (A 7) (A 8) i ct 0 = if A 8 i = A 8 ct then 1 else 0 := by
      unfold eqV
      by_cases g : A 8 i = A 8 ct
      · rw [if_pos ⟨g, rfl⟩, if_pos g]
      · rw [if_neg (fun h => g h.1), if_neg g]
    rw [e0] at l2
    refine zj_icmp_ne z123_142 (by omega) (by omega) (fun h10 => ?_) (fun h10 => ?_)
    · rw [if_neg h10] at l2
      refine zw_iconst z123_149 (v := iI 0) rfl ?_
      refine zw_istore z123_150 rfl ?_
      refine zw_iconst z123_152 (v := iI 0) rfl ?_
      refine zw_istore z123_153 rfl ?_
      exact l2
    · rw [if_pos (by omega)] at l2
      refine zw_iconst z123_145 (v := iI 1) rfl ?_
      refine zw_goto z123_146 ?_
      refine zw_istore z123_150 rfl ?_
      refine zw_iconst z123_152 (v := iI 0) rfl ?_
      refine zw_istore z123_153 rfl ?_
      exact l2
theorem sp_mTried (hm : moA w G N A) (hV : ∀ j, 0 ≤ A 7 j ∧ A 7 j ≤ 61) (hS : ∀ j, iR (A 8 j)) (hr : r < ct) (hct : ct ≤ 201) (hc : 0 ≤ c ∧ c < 52) (ho : 0 ≤ o ∧ o ≤ 61) (hN : N 4 = ct) (hd : 1 ≤ d) (hq : 23 ≤ q) : zr L xs d q 123 [.ref 817, iV r, iV c, iV o] w cn sn (mR w cn sn (some (iV (tn A r ct c o))) G (tnN N A r c o) (tnA A r ct c o)) := by
  obtain ⟨d, rfl⟩ : ∃ e, d = e + 1 := ⟨d - 1, by omega⟩
  have m0 := hm.1
  refine ⟨_, rfl, ?_⟩
  show zw _ _ _ _ 123 0 [some (.ref 817), some (iV r), some (iV c), some (iV o), none, none, none] [] _ _ _ _
  refine zw_aload_n z123_0 rfl ?_
  refine zw_iconst z123_1 (v := iI 1) rfl ?_
  refine zj_putf z123_2 m0 (Nat.le_of_ble_eq_true rfl) (zi_fitB (by omega)) (fun w1 n1 f1 => ?_)
  have hm1 := mo_put (N' := iU N 7 1) (G' := G) hm n1 f1
  refine zw_iconst z123_5 (v := iI 0) rfl ?_
  refine zw_istore z123_6 rfl ?_
  refine lp_tn1 (w := w) (G := G) (N := N) (A := A) (ct := ct) hV hr hct hc ho hN (fun w2 x5 hm2 F2 => ?_) 52 0 w1 none rfl (by
    rw [show tnR (A 7) r ct c o 0 = A 7 from funext fun j => if_neg (by omega), fU_id]
    exact hm1) (zF.rf.step f1 (by omega))
  have hVR : ∀ j, 0 ≤ tnF A r ct c o j ∧ tnF A r ct c o j ≤ 61 := by
    intro j
    unfold tnF tnR tnV
    have g1 := hV j
    have g2 := hV (52 * r + (j - 52 * ct))
    split
    · split <;> omega
    · exact g1
  generalize hW : tnW (tnV (A 7) r c o) 52 = W at *
  have m0 := hm2.1
  have a8 : zi_get w2 826 = some (.inl (0, 202, .inl (iA (A 8)))) := hm2.2.2.2.2.2.2.2.2.2.1
  have e4 : iU N 7 W 4 = (ct : Int) := hN
  refine zw_aload_n z123_89 rfl ?_
  refine zw_getf z123_90 (by assumption) (by rfl) ?_
  refine zw_aload_n z123_93 rfl ?_
  refine zw_getf z123_94 (by assumption) (by rfl) ?_
  refine zw_aload_n z123_97 rfl ?_
  refine zw_aload_n z123_98 rfl ?_
  refine zw_getf z123_99 (by assumption) (by rfl) ?_
  rw [e4]
  refine zw_vv (n := 4) z123_102 rfl rfl (by assumption) (Nat.le_of_ble_eq_true rfl) (by omega) (sp_mSumOf hm2 (by omega)) ?_
  refine zj_astG z123_105 a8 (by omega) (by decide) (fun w3 n3 f3 => ?_)
  have hm3 := mo_a8 hm2 n3 f3
  rw [show (ct : Int).toNat = ct by omega] at hm3
  have hm3 : moA w3 G (iU N 7 W) (tnA A r ct c o) := hm3
  refine zw_iconst z123_106 (v := iI 0) rfl ?_
  refine zw_istore z123_107 rfl ?_
  refine zw_iconst z123_109 (v := iI 0) rfl ?_
  refine zw_istore z123_110 rfl ?_
  refine lp_tn3 (A := tnA A r ct c o) (N := iU N 7 W) (R := tn A r ct c o) hm3 hVR (iU_all hS (smO_rng _ _ _ (by decide))) hct hN ⟨_, rfl, rfl, rfl, rfl, ?_, F2.step f3 (by omega)⟩ ct 0 none (by omega) rfl
  unfold tnN
  rw [hW]
  exact hm3
end ZMT
