/-! The class Search: slots. (Laid out by gen/tpl.py from tpl/49.slots.tpl.) -/
/-- the place in the table of slots -/
def sl0 (z : Int) : Int := (iI z &&& iI 511).toInt
theorem sl0_of (z : Int) : iI z &&& iI 511 = iI (sl0 z) := (iI_of _).symm
theorem sl0_rng (z : Int) : 0 ≤ sl0 z ∧ sl0 z < 512 := by
  obtain ⟨j, hj, e⟩ := pk_andE (iI z) (m := iI 511) 9 (by decide +kernel)
  unfold sl0
  rw [e, nI_toInt (by omega)]
  omega
theorem sl0_in {z : Int} (h : 0 ≤ z ∧ z ≤ 512) : sl0 z = if z = 512 then 0 else z := by
  have h1 : ∀ n : Nat, n < 513 → sl0 (n : Int) = if (n : Int) = 512 then 0 else (n : Int) := by decide +kernel
  have h2 := h1 z.toNat (by omega)
  rw [show ((z.toNat : Nat) : Int) = z by omega] at h2
  exact h2
/-- the layouts that were found -/
def fdA (w : zi_W) (Fb Ft Fh : Nat → Nat → Int) (Fl Fa : Nat → Int) : Prop := ∀ j, j < 200 → lyA w (16 + 4 * j) (Fb j) (Ft j) (Fh j) (Fl j) (Fa j)
def fdV (Fb Ft Fh : Nat → Nat → Int) (Fl Fa : Nat → Int) : Prop := ∀ j, lyV (Fb j) (Ft j) (Fh j) (Fl j) (Fa j)
/-- the slot of a position like b but for card mv on gr, or the free one where it belongs -/
def slF (S2 H : Nat → Int) (Fb : Nat → Nat → Int) (b : Nat → Int) (mv gr hs : Int) (N : Nat) : Nat → Int → Int
  | 0, s => s
  | n + 1, s => if S2 s.toNat = 0 then s else if H (S2 s.toNat - 1).toNat = hs ∧ lAk (Fb (S2 s.toNat - 1).toNat) b mv gr 0 N then s else slF S2 H Fb b mv gr hs N n (sl0 (s + 1))
theorem slF_0 {S2 H : Nat → Int} {Fb : Nat → Nat → Int} {b : Nat → Int} {mv gr hs s : Int} {N n : Nat} (h : S2 s.toNat = 0) : slF S2 H Fb b mv gr hs N n s = s := by
  cases n with
  | zero => rfl
  | succ n => exact if_pos h
theorem slF_1 {S2 H : Nat → Int} {Fb : Nat → Nat → Int} {b : Nat → Int} {mv gr hs s : Int} {N n : Nat} (h : H (S2 s.toNat - 1).toNat = hs ∧ lAk (Fb (S2 s.toNat - 1).toNat) b mv gr 0 N) : slF S2 H Fb b mv gr hs N n s = s := by
  cases n with
  | zero => rfl
  | succ n =>
    by_cases h0 : S2 s.toNat = 0
    · exact if_pos h0
    · exact (if_neg h0).trans (if_pos h)
theorem slF_s {S2 H : Nat → Int} {Fb : Nat → Nat → Int} {b : Nat → Int} {mv gr hs s : Int} {N n : Nat} (h0 : ¬ S2 s.toNat = 0) (h : ¬ (H (S2 s.toNat - 1).toNat = hs ∧ lAk (Fb (S2 s.toNat - 1).toNat) b mv gr 0 N)) : slF S2 H Fb b mv gr hs N (n + 1) s = slF S2 H Fb b mv gr hs N n (sl0 (s + 1)) := (if_neg h0).trans (if_neg h)
section ZSL
variable {L : Nat} {xs : Nat → Int32} {d q a o : Nat} {w : zi_W} {cn sn : Nat} {Q : zi_O → zi_W → Nat → Nat → Prop} {G b t h H S1 S2 : Nat → Int} {Fb Ft Fh : Nat → Nat → Int} {Fl Fa : Nat → Int} {la ah mv gr fu ct tm fs ps hs : Int}
theorem zj_and {k pc p : Nat} {ls : zi_L} {st : List Value} {z : Int} (hc : za k pc .iand p) (kk : zw L xs d q k p ls (iV (sl0 z) :: st) w cn sn Q) : zw L xs d q k pc ls (iV 511 :: iV z :: st) w cn sn Q := zw_iand hc (by rw [sl0_of]; exact kk)
theorem zj_aldR {k pc p r n : Nat} {ls : zi_L} {st : List Value} {z : Int} {f : Nat → Int} (hc : za k pc .iaload p) (hg : zi_get w r = some (.inl (0, n, .inl (iA f)))) (hj : 0 ≤ z ∧ z < n) (hn : n ≤ 2147483647) (hB : ∀ j, iR (f j)) (kk : ∀ v, v = f z.toNat → iR v → zw L xs d q k p ls (iV v :: st) w cn sn Q) : zw L xs d q k pc ls (iV z :: .ref r :: st) w cn sn Q :=
  zj_ald hc hg hj hn (kk _ rfl (hB _))
theorem lp_slotFor (hg : gmA w 1 G) (hG : gmV G) (hs0 : srA w fu ct tm fs ps H S1 S2) (hF : fdA w Fb Ft Fh Fl Fa) (hFV : fdV Fb Ft Fh Fl Fa) (hx : lyA w o b t h la ah) (hB2 : ∀ j, -4 ≤ b j ∧ b j ≤ 51) (hm : 0 ≤ mv ∧ mv ≤ 51) (hr : -4 ≤ gr ∧ gr ≤ 51) (hh : iR hs) (hS : ∀ j, 0 ≤ S2 j ∧ S2 j ≤ 200) (hH : ∀ j, iR (H j)) (hd : 2 ≤ d) (hq : 47 ≤ q) : ∀ (n : Nat) (s i : Int) (x7 : Option Value), i + n = 512 → 0 ≤ i → 0 ≤ s ∧ s < 512 → (∀ u, u = slF S2 H Fb b mv gr hs (gAll G).toNat n s → Q (.inl (some (iV u))) w cn sn) → zw L xs d q 72 10 [some (.ref 11), some (iV hs), some (.ref o), some (iV mv), some (iV gr), some (iV s), some (iV i), x7] [] w cn sn Q := by
  obtain ⟨d, rfl⟩ : ∃ e, d = e + 1 := ⟨d - 1, by omega⟩
  have hs1 := hs0
  obtain ⟨s0, s1, s2, s3, s4⟩ := hs0
  intro n
  induction n with
  | zero =>
    intro s i x7 h1 h2 h3 hQ
    refine zw_iload z72_10 rfl ?_
    refine zw_sipush z72_12 (v := iI (512)) (by decide +kernel) ?_
    refine zj_icmp_ge z72_15 (by omega) (by omega) (fun h15 => ?_) (fun h15 => ?_)
    · refine zw_iload z72_87 rfl ?_
      refine zw_iret z72_89 rfl ?_
      exact hQ _ rfl
    · exfalso; omega
  | succ n ih =>
    intro s i x7 h1 h2 h3 hQ
    have k71 : ¬ S2 s.toNat = 0 → ¬ (H (S2 s.toNat - 1).toNat = hs ∧ lAk (Fb (S2 s.toNat - 1).toNat) b mv gr 0 (gAll G).toNat) → ∀ x7, zw L xs (d + 1) q 72 71 [some (.ref 11), some (iV hs), some (.ref o), some (iV mv), some (iV gr), some (iV s), some (iV i), x7] [] w cn sn Q := by
      intro g1 g2 x7
      refine zw_iload z72_71 rfl ?_
      refine zw_iconst z72_73 (v := iI 1) rfl ?_
      refine zj_add z72_74 ?_
      refine zw_sipush z72_75 (v := iI (511)) (by decide +kernel) ?_
      refine zj_and z72_78 ?_
      refine zw_istore z72_79 rfl ?_
      refine zj_iinc z72_81 rfl rfl ?_
      refine zw_goto z72_84 ?_
      exact ih (sl0 (s + 1)) (i + 1) x7 (by omega) (by omega) (sl0_rng _) (fun u hu => hQ u (by rw [hu, slF_s g1 g2]))
    refine zw_iload z72_10 rfl ?_
    refine zw_sipush z72_12 (v := iI (512)) (by decide +kernel) ?_
    refine zj_icmp_ge z72_15 (by omega) (by omega) (fun h15 => ?_) (fun h15 => ?_)
    · exfalso; omega
    refine zw_aload_n z72_18 rfl ?_
    refine zw_getf z72_19 (by assumption) (by rfl) ?_
    refine zw_iload z72_22 rfl ?_
    refine zj_aldB z72_24 s4 (by omega) (by decide) hS (fun v24 e24 r24 => ?_)
    refine zj_if_eq z72_25 (by omega) (fun h25 => ?_) (fun h25 => ?_)
    · refine zw_iload z72_87 rfl ?_
      refine zw_iret z72_89 rfl ?_
      exact hQ _ (by rw [slF_0 (by omega)])
    refine zw_aload_n z72_28 rfl ?_
    refine zw_getf z72_29 (by assumption) (by rfl) ?_
    refine zw_iload z72_32 rfl ?_
    refine zj_aldB z72_34 s4 (by omega) (by decide) hS (fun v34 e34 r34 => ?_)
    refine zw_iconst z72_35 (v := iI 1) rfl ?_
    refine zj_sub z72_36 ?_
    refine zw_istore z72_37 rfl ?_
    refine zw_aload_n z72_39 rfl ?_
    refine zw_getf z72_40 (by assumption) (by rfl) ?_
    refine zw_iload z72_43 rfl ?_
    refine zj_aldR z72_45 s2 (by omega) (by decide) hH (fun v45 e45 r45 => ?_)
    refine zw_iload_n z72_46 rfl ?_
    refine zj_icmp_ne z72_47 (by omega) (by omega) (fun h47 => ?_) (fun h47 => ?_)
    · exact k71 (by omega) (fun q => h47 (by rw [e45, ← q.1, e34])) _
    refine zw_aload_n z72_50 rfl ?_
    refine zw_aload_n z72_51 rfl ?_
    refine zw_getf z72_52 (by assumption) (by rfl) ?_
    refine zw_iload z72_55 rfl ?_
    refine zj_ald3 z72_57 s1 (by omega) (by decide) (zfd_at rfl (by omega)) ?_
    refine zw_aload_n z72_58 rfl ?_
    refine zw_iload_n z72_59 rfl ?_
    refine zw_iload z72_60 rfl ?_
    refine zw_vv (n := 8) z72_62 rfl rfl (by assumption) (Nat.le_of_ble_eq_true rfl) (by omega) (sp_isAlike hg hG hs1 (hF (v34 - 1).toNat (by omega)) hx (hFV _).1 hB2 hm hr (by omega) (by omega)) ?_
    refine zj_b_eq z72_65 (fun h65 => ?_) (fun h65 => ?_)
    · exact k71 (by omega) (fun q => h65 (by rw [e34]; exact q.2)) _
    · refine zw_iload z72_68 rfl ?_
      refine zw_iret z72_70 rfl ?_
      exact hQ _ (by rw [slF_1 ⟨by rw [← e34, ← e45]; omega, by rw [← e34]; exact h65⟩])
abbrev lSlot (G S2 H : Nat → Int) (Fb : Nat → Nat → Int) (b : Nat → Int) (mv gr hs : Int) : Int := slF S2 H Fb b mv gr hs (gAll G).toNat 512 (sl0 hs)
theorem sp_slotFor (hg : gmA w 1 G) (hG : gmV G) (hs0 : srA w fu ct tm fs ps H S1 S2) (hF : fdA w Fb Ft Fh Fl Fa) (hFV : fdV Fb Ft Fh Fl Fa) (hx : lyA w o b t h la ah) (hB2 : ∀ j, -4 ≤ b j ∧ b j ≤ 51) (hm : 0 ≤ mv ∧ mv ≤ 51) (hr : -4 ≤ gr ∧ gr ≤ 51) (hh : iR hs) (hS : ∀ j, 0 ≤ S2 j ∧ S2 j ≤ 200) (hH : ∀ j, iR (H j)) (hd : 2 ≤ d) (hq : 47 ≤ q) : zv d q 72 [.ref 11, iV hs, .ref o, iV mv, iV gr] w (iI (lSlot G S2 H Fb b mv gr hs)) := by
  intro L xs cn sn
  refine ⟨_, rfl, ?_⟩
  show zw _ _ _ _ 72 0 [some (.ref 11), some (iV hs), some (.ref o), some (iV mv), some (iV gr), none, none, none] [] _ _ _ _
  refine zw_iload_n z72_0 rfl ?_
  refine zw_sipush z72_1 (v := iI (511)) (by decide +kernel) ?_
  refine zj_and z72_4 ?_
  refine zw_istore z72_5 rfl ?_
  refine zw_iconst z72_7 (v := iI 0) rfl ?_
  refine zw_istore z72_8 rfl ?_
  exact lp_slotFor hg hG hs0 hF hFV hx hB2 hm hr hh hS hH hd hq 512 (sl0 hs) 0 none (by omega) (by omega) (sl0_rng _) (fun u hu => zv_end (by rw [hu]))
end ZSL
