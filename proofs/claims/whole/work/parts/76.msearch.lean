/-! The reference's search: search, look. (Laid out by gen/tpl.py from tpl/76.msearch.tpl.) -/
section ZNC
variable {L : Nat} {xs : Nat → Int32} {d q : Nat} {w w' : zi_W} {cn sn : Nat} {Q : zi_O → zi_W → Nat → Nat → Prop} {G N f : Nat → Int} {A : Nat → Nat → Int} {z y m c o a b e k p u n l : Int} {r ct : Nat} {τ τ0 τ1 : MO}
def se0 (G N : Nat → Int) (A : Nat → Nat → Int) : MO := (0, iU (iU (iU N 4 1) 5 0) 3 0, fU (fU (fU A 7 (bgF G A)) 8 (iU (A 8) 0 (mSm (bgF G A) 0))) 10 (iU (A 10) 0 0))
def se (G : Nat → Int) (n : Int) (N : Nat → Int) (A : Nat → Nat → Int) : MO := if mAH A = gAll G then se0 G N A else seL G n n.toNat (se0 G N A)
theorem se0_F {x : Int} (hV : mtV A) (hS : msV N A) (h6 : N 6 = 0 ∨ N 6 = 1) (h7 : N 7 = 0 ∨ N 7 = 1) (hn : 1 ≤ n) : seF n (x, N, A) (se0 G N A) := by
  obtain ⟨s7, s8, s9, s10, s11, s12, t8, t9⟩ := hS
  unfold se0
  have hsm : iR (mSm (bgF G A) 0) := smO_rng _ _ _ (by decide)
  have hbr := bgF_rng (G := G) hV s7
  generalize mSm (bgF G A) 0 = sm at *
  generalize bgF G A = g at *
  refine ⟨⟨hbr, iU_all s8 hsm, s9, iU_rng s10 (by omega), s11, s12, t8, t9⟩, ⟨by show (1 : Int) ≤ 1; omega, hn⟩, h6, h7, ⟨by show (0 : Int) ≤ 0; omega, by show (0 : Int) ≤ 1; omega⟩, fun j hj => ?_, fun i hi => ?_, fun i hi => ?_⟩
  · have hj : (j : Int) ≤ 0 := hj
    obtain rfl : j = 0 := by omega
    show 0 ≤ iU (A 10) 0 0 0 ∧ iU (A 10) 0 0 0 ≤ 1
    rw [iU_same]
    omega
  · dsimp only
    rw [fU_ne _ _ (by omega), fU_ne _ _ (by omega), fU_ne _ _ (by omega)]
  · dsimp only
    rw [iU_ne _ _ (by omega), iU_ne _ _ (by omega), iU_ne _ _ (by omega)]
theorem sp_mSearch {x : Int} (hm : moA w G N A) (hG : gmV G) (hV : mtV A) (hS : msV N A) (h6 : N 6 = 0 ∨ N 6 = 1) (h7 : N 7 = 0 ∨ N 7 = 1) (hn : 1 ≤ n ∧ n ≤ 200) (hd : 4 ≤ d) (hq : 93 ≤ q) : zr L xs d q 130 [.ref 817, iV n] w cn sn (fun v w' cn' sn' => mRO w cn sn G (se G n N A) v w' cn' sn' ∧ seF n (x, N, A) (se G n N A) ∧ (0 < (se G n N A).1 → (se G n N A).1 = (se G n N A).2.1 5) ∧ -3 ≤ (se G n N A).1) := by
  have hd0 := hd
  obtain ⟨d, rfl⟩ : ∃ e, d = e + 1 := ⟨d - 1, by omega⟩
  have m0 := hm.1
  have hA := gAll_rng hG
  have hh := hV.2.2.2.1
  have g0 := hh 0
  have g1 := hh 1
  have g2 := hh 2
  have g3 := hh 3
  have hF0 := se0_F (x := x) (G := G) hV hS h6 h7 hn.1
  refine ⟨_, rfl, ?_⟩
  show zw _ _ _ _ 130 0 [some (.ref 817), some (iV n), none, none, none, none] [] _ _ _ _
  refine zw_aload_n z130_0 rfl ?_
  refine zw_cv (n := 3) z130_1 rfl rfl m0 (Nat.le_of_ble_eq_true rfl) (by omega) (sp_mBegin hm hG hV (by omega) (by omega)) (fun v w1 cn1 sn1 h => ?_)
  obtain ⟨rfl, rfl, rfl, hm1, f1⟩ := h
  have m1 := hm1.1
  have a8 : zi_get w1 826 = some (.inl (0, 202, .inl (iA (A 8)))) := hm1.2.2.2.2.2.2.2.2.2.1
  refine zw_aload_n z130_4 rfl ?_
  refine zw_getf z130_5 (by assumption) (by rfl) ?_
  refine zw_iconst z130_8 (v := iI 0) rfl ?_
  refine zw_aload_n z130_9 rfl ?_
  refine zw_iconst z130_10 (v := iI 0) rfl ?_
  have hsp := sp_mSumOf (r := 0) (d := d) (q := q - (19 + 4)) hm1 (by omega)
  rw [show fU A 7 (bgF G A) 7 = bgF G A from fU_same _ _ _] at hsp
  have es : se0 G N A = (0, iU (iU (iU N 4 1) 5 0) 3 0, fU (fU (fU A 7 (bgF G A)) 8 (iU (A 8) 0 (mSm (bgF G A) 0))) 10 (iU (A 10) 0 0)) := rfl
  have hse : se G n N A = if mAH A = gAll G then se0 G N A else seL G n n.toNat (se0 G N A) := rfl
  generalize se G n N A = rs at *
  generalize se0 G N A = s0 at *
  generalize mSm (bgF G A) 0 = sm at *
  generalize bgF G A = bf at *
  refine zw_vv (n := 4) z130_11 rfl rfl m1 (Nat.le_of_ble_eq_true rfl) (by omega) hsp ?_
  refine zj_astG z130_14 a8 (by omega) (by decide) (fun w2 n2 f2 => ?_)
  have hm2 := mo_a8 hm1 n2 f2
  have m2 := hm2.1
  refine zw_aload_n z130_15 rfl ?_
  refine zw_iconst z130_16 (v := iI 1) rfl ?_
  refine zj_putf z130_17 m2 (Nat.le_of_ble_eq_true rfl) (by rfl) (fun w3 n3 f3 => ?_)
  refine zw_aload_n z130_20 rfl ?_
  refine zw_iconst z130_21 (v := iI 0) rfl ?_
  refine zj_putf z130_22 n3 (Nat.le_of_ble_eq_true rfl) (by rfl) (fun w4 n4 f4 => ?_)
  have hm4 := mo_put (N' := iU (iU N 4 1) 5 0) (G' := G) hm2 n4 ⟨f4.1.trans f3.1, fun j hj => (f4.2 j hj).trans (f3.2 j hj)⟩
  have a10 : zi_get w4 828 = some (.inl (0, 210, .inl (iA (A 10)))) := hm4.2.2.2.2.2.2.2.2.2.2.2.1
  have m4 := hm4.1
  refine zw_aload_n z130_25 rfl ?_
  refine zw_getf z130_26 (by assumption) (by rfl) ?_
  refine zw_iconst z130_29 (v := iI 0) rfl ?_
  refine zw_iconst z130_30 (v := iI 0) rfl ?_
  refine zj_astG z130_31 a10 (by omega) (by decide) (fun w5 n5 f5 => ?_)
  have hm5 := mo_a10 hm4 n5 f5
  have m5 := hm5.1
  refine zw_aload_n z130_32 rfl ?_
  refine zw_iconst z130_33 (v := iI 0) rfl ?_
  refine zj_putf z130_34 m5 (Nat.le_of_ble_eq_true rfl) (by rfl) (fun w6 n6 f6 => ?_)
  have hm6 := mo_put (N' := iU (iU (iU N 4 1) 5 0) 3 0) (G' := G) hm5 n6 f6
  have hm6 : moA w6 G s0.2.1 s0.2.2 := by rw [es]; exact hm6
  have F6 := ((((f1.step f2 (by omega)).step f3 (by omega)).step f4 (by omega)).step f5 (by omega)).step f6 (by omega)
  have hV6 : mtV s0.2.2 := by rw [es]; exact hV
  have hAH : mAH s0.2.2 = mAH A := by rw [es]; rfl
  have e4 : s0.2.1 4 = 1 := by rw [es]; rfl
  have e5 : s0.2.1 5 = 0 := by rw [es]; rfl
  have e1 : s0.1 = 0 := by rw [es]
  have m6 := hm6.1
  refine zw_aload_n z130_37 rfl ?_
  refine zw_vv (n := 1) z130_38 rfl rfl (by assumption) (Nat.le_of_ble_eq_true rfl) (by omega) (sp_mAtHome hm6 hV6) ?_
  rw [hAH]
  refine zw_aload_n z130_41 rfl ?_
  refine zw_vv (n := 1) z130_42 rfl rfl (by assumption) (Nat.le_of_ble_eq_true rfl) (by omega) (sp_mAll hm6) ?_
  have hahr : iR (mAH A) := by unfold mAH; omega
  refine zj_icmp_ne z130_45 hahr (by omega) (fun h8 => ?_) (fun h8 => ?_)
  · rw [if_neg h8] at hse
    exact lp_seL (w := w) (τ0 := (x, N, A)) (R := rs) hG hn.2 hd0 hq (fun w7 hm7 q1 q2 f7 => ⟨_, rfl, ⟨rfl, rfl, rfl, hm7, f7⟩, q1, q2⟩) n.toNat s0 w6 _ _ _ _ (by omega) (by omega) hm6 hF0 F6 hse
  · rw [if_pos (by omega)] at hse
    subst hse
    refine zw_iconst z130_48 (v := iI 0) rfl ?_
    exact zw_iret z130_49 rfl ⟨_, rfl, ⟨by rw [e1], rfl, rfl, hm6, F6⟩, hF0, fun h => by omega, by omega⟩
theorem topsIn.of {A' : Nat → Nat → Int} (h : topsIn G A) (hk : ∀ i, i ≤ 6 → A' i = A i) : topsIn G A' := fun A'' h' => h A'' fun i hi => (h' i hi).trans (hk i hi)
def lkS (G : Nat → Int) (s : MO) : MO := if 0 < s.1 then (s.1, iU (fm G s.2.1 s.2.2).2.1 2 (fm G s.2.1 s.2.2).1, (fm G s.2.1 s.2.2).2.2) else (s.1, iU s.2.1 2 (-1), s.2.2)
def mLk (G N : Nat → Int) (A : Nat → Nat → Int) (u : Int) : MO := if 1 ≤ u ∧ u ≤ 200 then (if gAll G ≤ mLaid A then lkS G (se G u (nT N) A) else (0, iU (nT N) 0 2, A)) else (0, iU (nT N) 0 1, A)
theorem sp_mLook (hm : moA w G N A) (hG : gmV G) (hV : mtV A) (hS : msV N A) (h6 : N 6 = 0 ∨ N 6 = 1) (h7 : N 7 = 0 ∨ N 7 = 1) (hT : gAll G ≤ mLaid A → topsIn G A) (hu : iR u) (hd : 6 ≤ d) (hq : 142 ≤ q) : zr L xs d q 131 [.ref 817, iV u] w cn sn (mRO w cn sn G (mLk G N A u)) := by
  obtain ⟨d, rfl⟩ : ∃ e, d = e + 1 := ⟨d - 1, by omega⟩
  have m0 := hm.1
  have hA := gAll_rng hG
  have hL := mLaid_rng (A := A)
  refine ⟨_, rfl, ?_⟩
  show zw _ _ _ _ 131 0 [some (.ref 817), some (iV u), none] [] _ _ _ _
  refine zw_aload_n z131_0 rfl ?_
  refine zw_iconst z131_1 (v := iI 0) rfl ?_
  refine zj_putf z131_2 m0 (Nat.le_of_ble_eq_true rfl) (by rfl) (fun w1 n1 f1 => ?_)
  have hmA := mo_put (N' := nT N) (G' := G) hm n1 f1
  have F1 : zF moS w w1 := zF.rf.step f1 (by omega)
  have m0 := hmA.1
  refine zw_iload_n z131_5 rfl ?_
  refine zw_iconst z131_6 (v := iI 1) rfl ?_
  refine zw_sipush z131_7 (v := iI (200)) (by decide +kernel) ?_
  refine zw_vs (n := 3) z131_10 rfl rfl (Nat.le_of_ble_eq_true rfl) (by omega) (sp_mWithin hu (by omega) (by omega)) ?_
  refine zj_b_ne z131_13 (fun h1 => ?_) (fun h1 => ?_)
  rotate_left
  · rw [show mLk G N A u = _ from if_neg h1]
    refine zw_aload_n z131_16 rfl ?_
    refine zw_iconst z131_17 (v := iI 1) rfl ?_
    refine zw_cv (n := 2) z131_18 rfl rfl m0 (Nat.le_of_ble_eq_true rfl) (by omega) (sp_mRefuse hmA) (fun v w2 cn2 sn2 h => ?_)
    obtain ⟨rfl, rfl, rfl, hmB, f2⟩ := h
    exact zw_iret z131_21 rfl ⟨_, rfl, rfl, rfl, rfl, hmB, F1.trans f2⟩
  have el : mLk G N A u = if gAll G ≤ mLaid A then lkS G (se G u (nT N) A) else (0, iU (nT N) 0 2, A) := if_pos h1
  refine zw_aload_n z131_22 rfl ?_
  refine zw_vv (n := 3) z131_23 rfl rfl (by assumption) (Nat.le_of_ble_eq_true rfl) (by omega) (sp_mLaid hmA hV) ?_
  refine zw_aload_n z131_26 rfl ?_
  refine zw_vv (n := 1) z131_27 rfl rfl (by assumption) (Nat.le_of_ble_eq_true rfl) (by omega) (sp_mAll hmA) ?_
  generalize mLaid A = ml at *
  refine zj_icmp_ge z131_30 (by omega) (by omega) (fun h2 => ?_) (fun h2 => ?_)
  rotate_left
  · rw [el, if_neg (by omega)]
    refine zw_aload_n z131_33 rfl ?_
    refine zw_iconst z131_34 (v := iI 2) rfl ?_
    refine zw_cv (n := 2) z131_35 rfl rfl m0 (Nat.le_of_ble_eq_true rfl) (by omega) (sp_mRefuse hmA) (fun v w2 cn2 sn2 h => ?_)
    obtain ⟨rfl, rfl, rfl, hmB, f2⟩ := h
    exact zw_iret z131_38 rfl ⟨_, rfl, rfl, rfl, rfl, hmB, F1.trans f2⟩
  rw [el, if_pos (by omega)]
  have hT := hT (by omega)
  refine zw_aload_n z131_39 rfl ?_
  refine zw_iload_n z131_40 rfl ?_
  refine zw_cv (n := 6) z131_41 rfl rfl m0 (Nat.le_of_ble_eq_true rfl) (by omega) (sp_mSearch (x := 0) hmA hG hV hS h6 h7 h1 (by omega) (by omega)) (fun v w2 cn2 sn2 h => ?_)
  obtain ⟨⟨rfl, rfl, rfl, hmB, f2⟩, hF, hd5⟩ := h
  generalize se G u (nT N) A = s at *
  obtain ⟨q1, q2, q3, q4, q5, q6, q7⟩ := hF
  have m2 := hmB.1
  have hTs : topsIn G s.2.2 := hT.of q7.1
  obtain ⟨hd5, hd6⟩ := hd5
  have hs1 : s.1 ≤ 200 := by
    by_cases g : 0 < s.1
    · have := hd5 g; omega
    · omega
  have k58 : ∀ (w3 : zi_W) (v N3 : Nat → Int) (h9 : Int) (A3 : Nat → Nat → Int), moA w3 G N3 A3 → zF moS w w3 → lkS G s = (s.1, iU N3 2 h9, A3) → zw L xs (d + 1) q 131 58 [some (.ref 817), some (iV u), some (iV s.1)] [iV h9, .ref 817] w3 cn2 sn2 (fun o w' cn' sn' => ∃ v, o = .inl v ∧ mRO w cn2 sn2 G (lkS G s) v w' cn' sn') := by
    intro w3 v N3 h9 A3 hm3 F3 e3
    have m3 := hm3.1
    refine zj_putf z131_58 m3 (Nat.le_of_ble_eq_true rfl) (by rfl) (fun w4 n4 f4 => ?_)
    have hm4 := mo_put (N' := iU N3 2 h9) (G' := G) hm3 n4 f4
    rw [e3]
    refine zw_iload_n z131_61 rfl ?_
    exact zw_iret z131_62 rfl ⟨_, rfl, rfl, rfl, rfl, hm4, F3.step f4 (by omega)⟩
  refine zw_istore_n z131_44 rfl ?_
  refine zw_aload_n z131_45 rfl ?_
  refine zw_iload_n z131_46 rfl ?_
  refine zj_if_le z131_47 (by omega) (fun h3 => ?_) (fun h3 => ?_)
  · refine zw_iconst z131_57 (v := iI (-1)) rfl ?_
    exact k58 w2 N s.2.1 (-1) s.2.2 hmB (F1.trans f2) (if_neg (by omega))
  · have h5 := hd5 (by omega)
    refine zw_aload_n z131_50 rfl ?_
    refine zw_cv (n := 5) z131_51 rfl rfl m2 (Nat.le_of_ble_eq_true rfl) (by omega) (sp_mFirstMove (n := u) hmB hG h1.2 q1 q2 q3 q4 (by omega) q6 hTs (by omega) (by omega)) (fun v w3 cn3 sn3 h => ?_)
    obtain ⟨rfl, rfl, rfl, hm3, f3⟩ := h
    refine zw_goto z131_54 ?_
    exact k58 w3 N _ _ _ hm3 ((F1.trans f2).trans f3) (if_pos (by omega))
end ZNC
