/-! Filling and copying arrays; Layout's other writers; the class Log. (Laid out by gen/tpl.py from tpl/46.log.tpl.) -/
def iFi (f : Nat → Int) (n : Nat) (v : Int) : Nat → Int := fun j => if j < n then v else f j
def iCp (f g : Nat → Int) (n : Nat) : Nat → Int := fun j => if j < n then f j else g j
theorem iFi_s (f : Nat → Int) (n : Nat) (v : Int) : iU (iFi f n v) n v = iFi f (n + 1) v := by
  funext j
  unfold iU iFi
  by_cases h1 : j = n
  · rw [if_pos h1, if_pos (by omega)]
  · rw [if_neg h1]
    by_cases h2 : j < n
    · rw [if_pos h2, if_pos (by omega)]
    · rw [if_neg h2, if_neg (by omega)]
theorem iFi_0 (f : Nat → Int) (v : Int) : iFi f 0 v = f := by
  funext j
  exact if_neg (by omega)
section ZFL
variable {L : Nat} {xs : Nat → Int32} {d q k pc p : Nat} {ls : zi_L} {st : List Value} {w : zi_W} {cn sn : Nat} {Q : zi_O → zi_W → Nat → Nat → Prop}
theorem zj_min {a b : Int} (hc : za_m k pc p) (hs : (st.map (fun v => v.category)).sum ≤ 8) (hd : 1 ≤ d) (hq : 21 ≤ q) (ha : iR a) (hb : iR b) (kk : zw L xs d q k p ls (iV (if b < a then b else a) :: st) w cn sn Q) : zw L xs d q k pc ls (iV b :: iV a :: st) w cn sn Q := by
  refine zw_min hc hs hd hq ?_
  by_cases h : b < a
  · rw [if_pos ((iI_lt hb ha).mpr h)]
    rw [if_pos h] at kk
    exact kk
  · rw [if_neg (fun z => h ((iI_lt hb ha).mp z))]
    rw [if_neg h] at kk
    exact kk
theorem zj_copy {m : Int} {r r0 n0 n1 : Nat} {f g : Nat → Int} (hc : za_y k pc p) (hg0 : zi_get w r0 = some (.inl (0, n0, .inl (iA f)))) (hg : zi_get w r = some (.inl (0, n1, .inl (iA g)))) (hs : (st.map (fun v => v.category)).sum ≤ 8) (hd : 1 ≤ d) (hq : 26 ≤ q) (hm : 0 ≤ m ∧ m ≤ n0 ∧ m ≤ n1 ∧ m < 65536)
    (kk : ∀ w', zi_get w' r = some (.inl (0, n1, .inl (iA (iCp f g m.toNat)))) → zG r w w' → zw L xs d q k p ls st w' cn sn Q) : zw L xs d q k pc ls (iV m :: iV 0 :: .ref r :: iV 0 :: .ref r0 :: st) w cn sn Q := by
  have h0 : (iI 0).toNatClampNeg = 0 := by decide +kernel
  have h1 : (iI m).toNatClampNeg = m.toNat := iI_clamp (by omega)
  refine zw_copy hc hg0 hg hs hd hq ⟨by decide +kernel, by decide +kernel, fun z => ?_, by rw [h0, h1]; omega, by rw [h0, h1]; omega⟩ ?_
  · rw [← iI_0, iI_lt (by omega) (by omega)] at z; omega
  · have e : va_cpy (iA f) (iA g) (iI 0).toNatClampNeg (iI 0).toNatClampNeg (iI m).toNatClampNeg = iA (iCp f g m.toNat) := by
      rw [h0, h1]
      funext j
      unfold va_cpy iA iCp
      by_cases h : j < m.toNat
      · rw [if_pos ⟨Nat.zero_le _, by omega⟩, if_pos h]
        congr 1
        congr 1
        omega
      · rw [if_neg (by omega), if_neg h]
    rw [e]
    exact kk _ (zi_get_self hg) zG.of
theorem lp_fill {r n : Nat} {v : Int} {f : Nat → Int} (hn : n ≤ 65536) : ∀ (m : Nat) (i : Int) (w' : zi_W), i + m = n → 0 ≤ i → zi_get w' r = some (.inl (0, n, .inl (iA (iFi f i.toNat v)))) → zG r w w' → (∀ w'', zi_get w'' r = some (.inl (0, n, .inl (iA (iFi f n v)))) → zG r w w'' → Q (.inl none) w'' cn sn) → zw L xs d q 134 5 [some (.ref r), some (iV v), some (iV i), some (iV n)] [] w' cn sn Q := by
  intro m
  induction m with
  | zero =>
    intro i w' h1 h2 y1 g1 hQ
    have h3 : i = (n : Int) := by omega
    subst h3
    refine zw_iload_n z134_5 rfl ?_
    refine zw_iload_n z134_6 rfl ?_
    refine zj_icmp_ge z134_7 (by omega) (by omega) (fun h => ?_) (fun h => ?_)
    · refine zw_vret z134_20 rfl ?_
      exact hQ _ (by rw [Int.toNat_natCast] at y1; exact y1) g1
    · exact absurd (Int.le_refl _) h
  | succ m ih =>
    intro i w' h1 h2 y1 g1 hQ
    refine zw_iload_n z134_5 rfl ?_
    refine zw_iload_n z134_6 rfl ?_
    refine zj_icmp_ge z134_7 (by omega) (by omega) (fun h => ?_) (fun h => ?_)
    · exfalso; omega
    · refine zw_aload_n z134_10 rfl ?_
      refine zw_iload_n z134_11 rfl ?_
      refine zw_iload_n z134_12 rfl ?_
      refine zj_ast z134_13 y1 (by omega) (by omega) ?_
      refine zj_iinc z134_14 rfl rfl ?_
      refine zw_goto z134_17 ?_
      refine ih (i + 1) _ (by omega) (by omega) ?_ ⟨List.length_set.trans g1.1, fun j hj => (zi_get_set hj).trans (g1.2 j hj)⟩ hQ
      rw [show (i + 1).toNat = i.toNat + 1 by omega, ← iFi_s]
      exact zi_get_self y1
theorem sp_fill {r n : Nat} {v : Int} {f : Nat → Int} (hn : n ≤ 65536) (y1 : zi_get w r = some (.inl (0, n, .inl (iA f)))) : zr L xs d q 134 [.ref r, iV v] w cn sn (fun u w' cn' sn' => u = none ∧ cn' = cn ∧ sn' = sn ∧ zi_get w' r = some (.inl (0, n, .inl (iA (iFi f n v)))) ∧ zG r w w') := by
  refine ⟨_, rfl, ?_⟩
  show zw _ _ _ _ 134 0 [some (.ref r), some (iV v), none, none] [] _ _ _ _
  refine zw_iconst z134_0 (v := iI 0) rfl ?_
  refine zw_istore_n z134_1 rfl ?_
  refine zw_aload_n z134_2 rfl ?_
  refine zj_alen z134_3 y1 ?_
  refine zw_istore_n z134_4 rfl ?_
  exact lp_fill hn n 0 w (by omega) (by omega) (by rw [show (0 : Int).toNat = 0 from rfl, iFi_0]; exact y1) ⟨rfl, fun _ _ => rfl⟩ (fun w'' z1 z2 => ⟨_, rfl, rfl, rfl, rfl, z1, z2⟩)
end ZFL
