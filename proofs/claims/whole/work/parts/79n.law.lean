/-! The law: its cases. (Laid out by gen/tpl.py from tpl/79n.law.tpl, which gen/mk79n.py writes.) -/
section ZLW
variable {L : Nat} {xs : Nat → Int32} {k pc p : Nat} {d q : Nat} {ls : zi_L} {st : List Value} {w : zi_W} {cn sn : Nat} {Q : zi_O → zi_W → Nat → Nat → Prop} {i : Int} {x5 x6 : Option Value} {T : TT} {z y m c u : Int}
abbrev sx (xs : Nat → Int32) (i : Int) : Int := (xs i.toNat).toInt
theorem sx_rng (j : Int) : iR (sx xs j) := iI_rng _
theorem zj_sld {j : Int} (hc : za 0 pc .iaload p) (hj : 0 ≤ j ∧ j < L) (hL : L ≤ 2147483647) (kk : zw L xs d q 0 p ls (iV (sx xs j) :: st) w cn sn Q) : zw L xs d q 0 pc ls (iV j :: .ref zi_X :: st) w cn sn Q := by
  refine zw_sld hc (iI_in hj hL) ?_
  rw [iI_clamp (by omega), show Value.int (xs j.toNat) = iV (sx xs j) from congrArg Value.int (iI_of _).symm]
  exact kk
def chr (z : Int) : Int := (((iI z).toUInt32 % 65536).toInt32).toInt
theorem chr_rng (z : Int) : 0 ≤ chr z ∧ chr z ≤ 65535 := by
  unfold chr
  generalize (iI z).toUInt32 = u
  have h : (u % 65536).toNat < 65536 := by
    rw [UInt32.toNat_mod]
    exact Nat.mod_lt _ (by decide)
  generalize u % 65536 = v at h
  have e : v.toInt32.toInt = (v.toNat : Int) := by
    show v.toBitVec.toInt = _
    rw [BitVec.toInt_eq_toNat_of_lt (by show 2 * v.toNat < 2 ^ 32; omega)]
    rfl
  rw [e]
  omega
theorem zj_i2c {a : Int} (hc : za k pc (.i2c) p) (kk : zw L xs d q k p ls (iV (chr a) :: st) w cn sn Q) : zw L xs d q k pc ls (iV a :: st) w cn sn Q := by
  refine zw_i2c hc ?_
  rw [show Value.int (((iI a).toUInt32 % 65536).toInt32) = iV (chr a) from congrArg Value.int (iI_of _).symm]
  exact kk
theorem lg_cmp_0 (x : Int64) : lg_cmp x x = iI 0 := by
  unfold lg_cmp
  rw [if_neg (fun h => Int64.lt_irrefl h), if_pos rfl]
  exact iI_0.symm
theorem moA.keep {w w' : zi_W} {G N : Nat → Int} {A : Nat → Nat → Int} (h : moA w G N A) (hk : ∀ j, 817 ≤ j → j ≤ 830 → zi_get w' j = zi_get w j) : moA w' G N A := by
  obtain ⟨h0, h1, h2, h3, h4, h5, h6, h7, h8, h9, h10, h11, h12, h13⟩ := h
  exact ⟨(hk 817 (by omega) (by omega)).trans h0, (hk 818 (by omega) (by omega)).trans h1, (hk 819 (by omega) (by omega)).trans h2, (hk 820 (by omega) (by omega)).trans h3, (hk 821 (by omega) (by omega)).trans h4, (hk 822 (by omega) (by omega)).trans h5, (hk 823 (by omega) (by omega)).trans h6, (hk 824 (by omega) (by omega)).trans h7, (hk 825 (by omega) (by omega)).trans h8, (hk 826 (by omega) (by omega)).trans h9, (hk 827 (by omega) (by omega)).trans h10, (hk 828 (by omega) (by omega)).trans h11, (hk 829 (by omega) (by omega)).trans h12, (hk 830 (by omega) (by omega)).trans h13⟩
/-- the law at the head of a case -/
abbrev lwS (L : Nat) (xs : Nat → Int32) (pc : Nat) (i : Int) (x5 x6 : Option Value) (w : zi_W) (cn sn : Nat) (Q : zi_O → zi_W → Nat → Nat → Prop) : Prop := zw L xs 10 394 0 pc [some (.ref zi_X), some (.ref 0), some (.ref 817), some (.ref 831), some (iV i), x5, x6] [] w cn sn Q
def lwI (w : zi_W) : Prop := ∃ T N A g, RT T N A ∧ ptA w T ∧ moA w T.G N A ∧ ouA w g
/-- how a case goes on -/
abbrev lwK (L : Nat) (xs : Nat → Int32) (i : Int) (cn sn : Nat) (Q : zi_O → zi_W → Nat → Nat → Prop) : Prop := ∀ w1 cn1 sn1 y5 y6, lwI w1 → cn1 ≤ cn + 1 → sn1 ≤ sn + 6 → lwS L xs 763 i y5 y6 w1 cn1 sn1 Q
theorem tLay_r : (∃ x : Int32, (tLay T z c).1 = .inl (some (.int x))) ∨ (tLay T z c).1 = .inr 0 ∨ (tLay T z c).1 = .inr 1 := by
  unfold tLay
  split
  · split
    · exact Or.inr (Or.inr rfl)
    · exact Or.inl ⟨_, rfl⟩
  · exact Or.inr (Or.inl rfl)
theorem tMove_r : (∃ x : Int32, (tMove T z y m).1 = .inl (some (.int x))) ∨ (tMove T z y m).1 = .inr 0 ∨ (tMove T z y m).1 = .inr 1 := by
  unfold tMove
  split
  · split
    · exact Or.inl ⟨_, rfl⟩
    · exact Or.inr (Or.inr rfl)
  · exact Or.inr (Or.inl rfl)
theorem tPlay_r : (∃ x : Int32, (tPlay T z y).1 = .inl (some (.int x))) ∨ (tPlay T z y).1 = .inr 0 ∨ (tPlay T z y).1 = .inr 1 := by
  unfold tPlay tPl
  generalize tAm T (lTold z) (lTold y) = m
  split
  · split
    · exact Or.inl ⟨_, rfl⟩
    · exact Or.inr (Or.inr rfl)
  · exact Or.inr (Or.inl rfl)
theorem tSend_r : (∃ x : Int32, (tSend T).1 = .inl (some (.int x))) ∨ (tSend T).1 = .inr 1 := by
  unfold tSend
  generalize tS 52 0 T = r
  split
  · exact Or.inl ⟨_, rfl⟩
  · exact Or.inr rfl
theorem tUndo_r : (∃ x : Int32, (tUndo T).1 = .inl (some (.int x))) ∨ (tUndo T).1 = .inr 2 := by
  unfold tUndo
  split
  · exact Or.inr rfl
  · exact Or.inl ⟨_, rfl⟩
theorem tLook_r : (∃ x : Int32, (tLook T u).1 = .inl (some (.int x))) ∨ (tLook T u).1 = .inr 0 ∨ (tLook T u).1 = .inr 1 := by
  unfold tLook
  generalize sk T.G T.S T.Y u = r
  split
  · split
    · exact Or.inl ⟨_, rfl⟩
    · exact Or.inr (Or.inr rfl)
  · exact Or.inr (Or.inl rfl)
theorem tC_le (o : zi_O) : tC o ≤ 1 := by cases o <;> simp [tC]
theorem law_lay (hI : lwI w) (hi : 0 ≤ i ∧ i + 4 < L) (hL : L ≤ 2147483647) (kk : lwK L xs i cn sn Q) : lwS L xs 261 i x5 x6 w cn sn Q := by
  obtain ⟨T, N, A, g, hR, hp, hm, ho⟩ := hI
  have hG := hR.gm
  have hV := hR.2.1.1
  have a1 := sx_rng (xs := xs) (i + 1)
  have a2 := sx_rng (xs := xs) (i + 2)
  have KH := (hR.lay a1 a2).2
  have K := (hR.lay a1 a2).1
  refine zw_aload_n z0_261 rfl ?_
  refine zw_aload_n z0_262 rfl ?_
  refine zw_iload z0_263 rfl ?_
  refine zw_iconst z0_265 (v := iI 1) rfl ?_
  refine zj_add z0_266 ?_
  refine zj_sld z0_267 (by omega) hL ?_
  refine zw_aload_n z0_268 rfl ?_
  refine zw_iload z0_269 rfl ?_
  refine zw_iconst z0_271 (v := iI 2) rfl ?_
  refine zj_add z0_272 ?_
  refine zj_sld z0_273 (by omega) hL ?_
  refine zw_aload_n z0_274 rfl ?_
  refine zw_cs (n := 5) z0_275 rfl rfl (Nat.le_of_ble_eq_true rfl) (by omega) (hp_lay (u := T.hi) hp.1 ho (sp_lay hp hR.1 a1 a2 (by omega) (by omega)) tLay_r (by omega)) (fun v w1 cn1 sn1 h => ?_)
  obtain ⟨⟨k, rfl, hk0, hk1⟩, rfl, rfl, h4, h5, g1, h6, h7⟩ := h
  have hm1 : moA w1 T.G N A := hm.keep fun j h1 h2 => h5.2 j (by omega)
  have m0 := hm1.1
  refine zw_istore z0_278 rfl ?_
  refine zw_aload_n z0_280 rfl ?_
  refine zw_aload_n z0_281 rfl ?_
  refine zw_iload z0_282 rfl ?_
  refine zw_iconst z0_284 (v := iI 1) rfl ?_
  refine zj_add z0_285 ?_
  refine zj_sld z0_286 (by omega) hL ?_
  refine zw_aload_n z0_287 rfl ?_
  refine zw_iload z0_288 rfl ?_
  refine zw_iconst z0_290 (v := iI 2) rfl ?_
  refine zj_add z0_291 ?_
  refine zj_sld z0_292 (by omega) hL ?_
  refine zw_cv (n := 3) z0_293 rfl rfl m0 (Nat.le_of_ble_eq_true rfl) (by omega) (sp_mLay hm1 hG hV a1 a2 KH (by omega) (by omega)) (fun v w2 cn2 sn2 h => ?_)
  obtain ⟨rfl, rfl, rfl, hm2, f2⟩ := h
  have h4 : ptA w2 (tLay T (sx xs (i + 1)) (sx xs (i + 2))).2 := h4.keep fun j hj => f2.2 j (by omega)
  have h6 : ouA w2 g1 := (f2.2 831 (by omega)).trans h6
  have tl := tC_le (tLay T (sx xs (i + 1)) (sx xs (i + 2))).1
  generalize tLay T (sx xs (i + 1)) (sx xs (i + 2)) = r at *
  generalize mLy T.G N A (sx xs (i + 1)) (sx xs (i + 2)) = mr at *
  obtain ⟨K1, K2, K3, K4, K5⟩ := K
  have kN : mr.2.1 0 = k ∧ iR k := by
    cases hr1 : r.1 with
    | inl b => rw [(K1 b hr1).1, hk0 b hr1]; exact ⟨rfl, by omega⟩
    | inr ex =>
      rw [K2 ex hr1, hk1 ex hr1]
      exact ⟨rfl, by show iR (if ex = 0 then 1 else 2); split <;> omega⟩
  have hm2 : moA w2 r.2.G mr.2.1 mr.2.2 := by rw [K5]; exact hm2
  have m0 := hm2.1
  have inv : lwI w2 := ⟨r.2, mr.2.1, mr.2.2, g1, K3, h4, hm2, h6⟩
  refine zw_istore z0_296 rfl ?_
  refine zw_aload_n z0_298 rfl ?_
  refine zw_vv (n := 1) z0_299 rfl rfl (by assumption) (Nat.le_of_ble_eq_true rfl) (by omega) (sp_mThrown hm2) ?_
  refine zw_iload z0_302 rfl ?_
  refine zj_icmp_eq z0_304 (by rw [kN.1]; exact kN.2) kN.2 (fun _ => ?_) (fun e => absurd kN.1 e)
  refine zw_iload z0_309 rfl ?_
  refine zj_if_ne z0_311 kN.2 (fun _ => ?_) (fun e => ?_)
  · refine zw_goto z0_326 ?_
    exact kk _ _ _ _ _ inv (by omega) (by omega)
  · have k0 : k = 0 := Classical.byContradiction e
    have gv : g1 0 = (iI mr.1).toInt64 := by
      cases hr1 : r.1 with
      | inl b => exact h7 _ (by rw [hr1, (K1 b hr1).2])
      | inr ex =>
        exfalso
        have := hk1 ex hr1
        rw [k0] at this
        have c : cd1 ex = 1 ∨ cd1 ex = 2 := by show (if ex = 0 then (1 : Int) else 2) = 1 ∨ (if ex = 0 then (1 : Int) else 2) = 2; split; exact Or.inl rfl; exact Or.inr rfl
        omega
    refine zw_aload_n z0_314 rfl ?_
    refine zw_iconst z0_315 (v := iI 0) rfl ?_
    refine zw_lald z0_316 h6 (iI_in (z := 0) (by omega) (by decide)) ?_
    rw [show (iI 0).toNatClampNeg = 0 by decide +kernel, gv]
    refine zw_iload z0_317 rfl ?_
    refine zw_i2l z0_319 ?_
    refine zw_lcmp z0_320 ?_
    rw [lg_cmp_0]
    refine zj_if_eq z0_321 (by omega) (fun _ => ?_) (fun e => absurd rfl e)
    refine zw_goto z0_326 ?_
    exact kk _ _ _ _ _ inv (by omega) (by omega)
theorem law_move (hI : lwI w) (hi : 0 ≤ i ∧ i + 4 < L) (hL : L ≤ 2147483647) (kk : lwK L xs i cn sn Q) : lwS L xs 329 i x5 x6 w cn sn Q := by
  obtain ⟨T, N, A, g, hR, hp, hm, ho⟩ := hI
  have hG := hR.gm
  have hV := hR.2.1.1
  have a1 := sx_rng (xs := xs) (i + 1)
  have a2 := sx_rng (xs := xs) (i + 2)
  have a3 := sx_rng (xs := xs) (i + 3)
  have hz1 : ∀ {z : Int}, gPla T.G z → z ≠ 12 → gCol T.G z ∨ gCel T.G z := fun g e => by rcases g with q | q | q; exact Or.inl q; exact Or.inr q; exact absurd q e
  have K := hR.move a1 a2 a3
  refine zw_aload_n z0_329 rfl ?_
  refine zw_aload_n z0_330 rfl ?_
  refine zw_iload z0_331 rfl ?_
  refine zw_iconst z0_333 (v := iI 1) rfl ?_
  refine zj_add z0_334 ?_
  refine zj_sld z0_335 (by omega) hL ?_
  refine zw_aload_n z0_336 rfl ?_
  refine zw_iload z0_337 rfl ?_
  refine zw_iconst z0_339 (v := iI 2) rfl ?_
  refine zj_add z0_340 ?_
  refine zj_sld z0_341 (by omega) hL ?_
  refine zw_aload_n z0_342 rfl ?_
  refine zw_iload z0_343 rfl ?_
  refine zw_iconst z0_345 (v := iI 3) rfl ?_
  refine zj_add z0_346 ?_
  refine zj_sld z0_347 (by omega) hL ?_
  refine zw_aload_n z0_348 rfl ?_
  refine zw_cs (n := 6) z0_349 rfl rfl (Nat.le_of_ble_eq_true rfl) (by omega) (hp_move (u := T.hi) hp.1 ho (sp_move hp hR.1 a1 a2 a3 (fun g1 g2 g3 g4 g5 => (RT.go hR g4 (hz1 g1 g2) g3 (alw_le g5).1 ((SR.mayC hR (hz1 g1 g2) g3 (alw_le g5).1).1 g5)).1) (by omega) (by omega)) tMove_r (by omega)) (fun v w1 cn1 sn1 h => ?_)
  obtain ⟨⟨k, rfl, hk0, hk1⟩, rfl, rfl, h4, h5, g1, h6, h7⟩ := h
  have hm1 : moA w1 T.G N A := hm.keep fun j h1 h2 => h5.2 j (by omega)
  have m0 := hm1.1
  refine zw_istore z0_352 rfl ?_
  refine zw_aload_n z0_354 rfl ?_
  refine zw_aload_n z0_355 rfl ?_
  refine zw_iload z0_356 rfl ?_
  refine zw_iconst z0_358 (v := iI 1) rfl ?_
  refine zj_add z0_359 ?_
  refine zj_sld z0_360 (by omega) hL ?_
  refine zw_aload_n z0_361 rfl ?_
  refine zw_iload z0_362 rfl ?_
  refine zw_iconst z0_364 (v := iI 2) rfl ?_
  refine zj_add z0_365 ?_
  refine zj_sld z0_366 (by omega) hL ?_
  refine zw_aload_n z0_367 rfl ?_
  refine zw_iload z0_368 rfl ?_
  refine zw_iconst z0_370 (v := iI 3) rfl ?_
  refine zj_add z0_371 ?_
  refine zj_sld z0_372 (by omega) hL ?_
  refine zw_cv (n := 4) z0_373 rfl rfl m0 (Nat.le_of_ble_eq_true rfl) (by omega) (sp_mMove hm1 hG hV hR.cnt.2 a1 a2 a3 (fun g1 g2 g3 g4 g5 => by have G1 := RT.go (hR.n0 (v := 0)) (hR.laid.1.1 g4) g1 g2 g3 g5; exact ⟨G1.2.1, G1.2.2.1⟩) (by omega) (by omega)) (fun v w2 cn2 sn2 h => ?_)
  obtain ⟨rfl, rfl, rfl, hm2, f2⟩ := h
  have h4 : ptA w2 (tMove T (sx xs (i + 1)) (sx xs (i + 2)) (sx xs (i + 3))).2 := h4.keep fun j hj => f2.2 j (by omega)
  have h6 : ouA w2 g1 := (f2.2 831 (by omega)).trans h6
  have tl := tC_le (tMove T (sx xs (i + 1)) (sx xs (i + 2)) (sx xs (i + 3))).1
  generalize tMove T (sx xs (i + 1)) (sx xs (i + 2)) (sx xs (i + 3)) = r at *
  generalize mMv T.G N A (sx xs (i + 1)) (sx xs (i + 2)) (sx xs (i + 3)) = mr at *
  obtain ⟨K1, K2, K3, K4, K5⟩ := K
  have kN : mr.2.1 0 = k ∧ iR k := by
    cases hr1 : r.1 with
    | inl b => rw [(K1 b hr1).1, hk0 b hr1]; exact ⟨rfl, by omega⟩
    | inr ex =>
      rw [K2 ex hr1, hk1 ex hr1]
      exact ⟨rfl, by show iR (if ex = 0 then 1 else 2); split <;> omega⟩
  have hm2 : moA w2 r.2.G mr.2.1 mr.2.2 := by rw [K5]; exact hm2
  have m0 := hm2.1
  have inv : lwI w2 := ⟨r.2, mr.2.1, mr.2.2, g1, K3, h4, hm2, h6⟩
  refine zw_istore z0_376 rfl ?_
  refine zw_aload_n z0_378 rfl ?_
  refine zw_vv (n := 1) z0_379 rfl rfl (by assumption) (Nat.le_of_ble_eq_true rfl) (by omega) (sp_mThrown hm2) ?_
  refine zw_iload z0_382 rfl ?_
  refine zj_icmp_eq z0_384 (by rw [kN.1]; exact kN.2) kN.2 (fun _ => ?_) (fun e => absurd kN.1 e)
  refine zw_iload z0_389 rfl ?_
  refine zj_if_ne z0_391 kN.2 (fun _ => ?_) (fun e => ?_)
  · refine zw_goto z0_406 ?_
    exact kk _ _ _ _ _ inv (by omega) (by omega)
  · have k0 : k = 0 := Classical.byContradiction e
    have gv : g1 0 = (iI mr.1).toInt64 := by
      cases hr1 : r.1 with
      | inl b => exact h7 _ (by rw [hr1, (K1 b hr1).2])
      | inr ex =>
        exfalso
        have := hk1 ex hr1
        rw [k0] at this
        have c : cd1 ex = 1 ∨ cd1 ex = 2 := by show (if ex = 0 then (1 : Int) else 2) = 1 ∨ (if ex = 0 then (1 : Int) else 2) = 2; split; exact Or.inl rfl; exact Or.inr rfl
        omega
    refine zw_aload_n z0_394 rfl ?_
    refine zw_iconst z0_395 (v := iI 0) rfl ?_
    refine zw_lald z0_396 h6 (iI_in (z := 0) (by omega) (by decide)) ?_
    rw [show (iI 0).toNatClampNeg = 0 by decide +kernel, gv]
    refine zw_iload z0_397 rfl ?_
    refine zw_i2l z0_399 ?_
    refine zw_lcmp z0_400 ?_
    rw [lg_cmp_0]
    refine zj_if_eq z0_401 (by omega) (fun _ => ?_) (fun e => absurd rfl e)
    refine zw_goto z0_406 ?_
    exact kk _ _ _ _ _ inv (by omega) (by omega)
theorem law_play (hI : lwI w) (hi : 0 ≤ i ∧ i + 4 < L) (hL : L ≤ 2147483647) (kk : lwK L xs i cn sn Q) : lwS L xs 409 i x5 x6 w cn sn Q := by
  obtain ⟨T, N, A, g, hR, hp, hm, ho⟩ := hI
  have hG := hR.gm
  have hV := hR.2.1.1
  have a1 := sx_rng (xs := xs) (i + 1)
  have a2 := sx_rng (xs := xs) (i + 2)
  have hz1 : ∀ {z : Int}, gPla T.G z → z ≠ 12 → gCol T.G z ∨ gCel T.G z := fun g e => by rcases g with q | q | q; exact Or.inl q; exact Or.inr q; exact absurd q e
  have c1 := chr_rng (sx xs (i + 1))
  have c2 := chr_rng (sx xs (i + 2))
  have K := hR.play (chr (sx xs (i + 1))) (chr (sx xs (i + 2)))
  refine zw_aload_n z0_409 rfl ?_
  refine zw_aload_n z0_410 rfl ?_
  refine zw_iload z0_411 rfl ?_
  refine zw_iconst z0_413 (v := iI 1) rfl ?_
  refine zj_add z0_414 ?_
  refine zj_sld z0_415 (by omega) hL ?_
  refine zj_i2c z0_416 ?_
  refine zw_aload_n z0_417 rfl ?_
  refine zw_iload z0_418 rfl ?_
  refine zw_iconst z0_420 (v := iI 2) rfl ?_
  refine zj_add z0_421 ?_
  refine zj_sld z0_422 (by omega) hL ?_
  refine zj_i2c z0_423 ?_
  refine zw_aload_n z0_424 rfl ?_
  refine zw_cs (n := 5) z0_425 rfl rfl (Nat.le_of_ble_eq_true rfl) (by omega) (hp_play (u := T.hi) hp.1 ho (sp_play hp hR.1 c1 c2 (fun z y m g1 g2 g3 g4 g5 => (RT.go hR g4 (hz1 g1 g2) g3 (alw_le g5).1 ((SR.mayC hR (hz1 g1 g2) g3 (alw_le g5).1).1 g5)).1) (by omega) (by omega)) tPlay_r (by omega)) (fun v w1 cn1 sn1 h => ?_)
  obtain ⟨⟨k, rfl, hk0, hk1⟩, rfl, rfl, h4, h5, g1, h6, h7⟩ := h
  have hm1 : moA w1 T.G N A := hm.keep fun j h1 h2 => h5.2 j (by omega)
  have m0 := hm1.1
  refine zw_istore z0_428 rfl ?_
  refine zw_aload_n z0_430 rfl ?_
  refine zw_aload_n z0_431 rfl ?_
  refine zw_iload z0_432 rfl ?_
  refine zw_iconst z0_434 (v := iI 1) rfl ?_
  refine zj_add z0_435 ?_
  refine zj_sld z0_436 (by omega) hL ?_
  refine zj_i2c z0_437 ?_
  refine zw_aload_n z0_438 rfl ?_
  refine zw_iload z0_439 rfl ?_
  refine zw_iconst z0_441 (v := iI 2) rfl ?_
  refine zj_add z0_442 ?_
  refine zj_sld z0_443 (by omega) hL ?_
  refine zj_i2c z0_444 ?_
  refine zw_cv (n := 6) z0_445 rfl rfl m0 (Nat.le_of_ble_eq_true rfl) (by omega) (sp_mPlay hm1 hG hV hR.cnt.2 c1 c2 (fun z y g1 g2 g3 g4 => (RT.go hR (hR.laid.1.1 g3) g1 g2 ((hR.am g1 g2).1 g4).1 ((hR.am g1 g2).1 g4).2.1).2.1) (by omega) (by omega)) (fun v w2 cn2 sn2 h => ?_)
  obtain ⟨rfl, rfl, rfl, hm2, f2⟩ := h
  have h4 : ptA w2 (tPlay T (chr (sx xs (i + 1))) (chr (sx xs (i + 2)))).2 := h4.keep fun j hj => f2.2 j (by omega)
  have h6 : ouA w2 g1 := (f2.2 831 (by omega)).trans h6
  have tl := tC_le (tPlay T (chr (sx xs (i + 1))) (chr (sx xs (i + 2)))).1
  generalize tPlay T (chr (sx xs (i + 1))) (chr (sx xs (i + 2))) = r at *
  generalize mPlay T.G N A (chr (sx xs (i + 1))) (chr (sx xs (i + 2))) = mr at *
  obtain ⟨K1, K2, K3, K4, K5⟩ := K
  have kN : mr.2.1 0 = k ∧ iR k := by
    cases hr1 : r.1 with
    | inl b => rw [(K1 b hr1).1, hk0 b hr1]; exact ⟨rfl, by omega⟩
    | inr ex =>
      rw [K2 ex hr1, hk1 ex hr1]
      exact ⟨rfl, by show iR (if ex = 0 then 1 else 2); split <;> omega⟩
  have hm2 : moA w2 r.2.G mr.2.1 mr.2.2 := by rw [K5]; exact hm2
  have m0 := hm2.1
  have inv : lwI w2 := ⟨r.2, mr.2.1, mr.2.2, g1, K3, h4, hm2, h6⟩
  refine zw_istore z0_448 rfl ?_
  refine zw_aload_n z0_450 rfl ?_
  refine zw_vv (n := 1) z0_451 rfl rfl (by assumption) (Nat.le_of_ble_eq_true rfl) (by omega) (sp_mThrown hm2) ?_
  refine zw_iload z0_454 rfl ?_
  refine zj_icmp_eq z0_456 (by rw [kN.1]; exact kN.2) kN.2 (fun _ => ?_) (fun e => absurd kN.1 e)
  refine zw_iload z0_461 rfl ?_
  refine zj_if_ne z0_463 kN.2 (fun _ => ?_) (fun e => ?_)
  · refine zw_goto z0_478 ?_
    exact kk _ _ _ _ _ inv (by omega) (by omega)
  · have k0 : k = 0 := Classical.byContradiction e
    have gv : g1 0 = (iI mr.1).toInt64 := by
      cases hr1 : r.1 with
      | inl b => exact h7 _ (by rw [hr1, (K1 b hr1).2])
      | inr ex =>
        exfalso
        have := hk1 ex hr1
        rw [k0] at this
        have c : cd1 ex = 1 ∨ cd1 ex = 2 := by show (if ex = 0 then (1 : Int) else 2) = 1 ∨ (if ex = 0 then (1 : Int) else 2) = 2; split; exact Or.inl rfl; exact Or.inr rfl
        omega
    refine zw_aload_n z0_466 rfl ?_
    refine zw_iconst z0_467 (v := iI 0) rfl ?_
    refine zw_lald z0_468 h6 (iI_in (z := 0) (by omega) (by decide)) ?_
    rw [show (iI 0).toNatClampNeg = 0 by decide +kernel, gv]
    refine zw_iload z0_469 rfl ?_
    refine zw_i2l z0_471 ?_
    refine zw_lcmp z0_472 ?_
    rw [lg_cmp_0]
    refine zj_if_eq z0_473 (by omega) (fun _ => ?_) (fun e => absurd rfl e)
    refine zw_goto z0_478 ?_
    exact kk _ _ _ _ _ inv (by omega) (by omega)
theorem law_send (hI : lwI w) (hi : 0 ≤ i ∧ i + 4 < L) (hL : L ≤ 2147483647) (kk : lwK L xs i cn sn Q) : lwS L xs 481 i x5 x6 w cn sn Q := by
  obtain ⟨T, N, A, g, hR, hp, hm, ho⟩ := hI
  have hG := hR.gm
  have hV := hR.2.1.1
  have I1 : ∀ T', (∃ N A, RT T' N A ∧ T'.Y 3 0 = gAll T'.G) → ptV T' := fun T' ⟨_, _, h, _⟩ => h.1
  have I2 : ∀ T', (∃ N A, RT T' N A ∧ T'.Y 3 0 = gAll T'.G) → ¬ tPos T' = -1 → okB T' (tPos T') 12 1 ∧ ∃ N A, RT (tBring T' (tPos T') 12 1) N A ∧ (tBring T' (tPos T') 12 1).Y 3 0 = gAll (tBring T' (tPos T') 12 1).G := fun T' ⟨N', A', h, hl⟩ hn => by
    rw [h.safe] at hn ⊢
    have s := h.sent hl hn
    exact ⟨s.1, _, _, s.2.2.1, hl⟩
  have K := hR.send
  refine zw_aload_n z0_481 rfl ?_
  refine zw_aload_n z0_482 rfl ?_
  refine zw_cs (n := 3) z0_483 rfl rfl (Nat.le_of_ble_eq_true rfl) (by omega) (hp_send (u := T.hi) hp.1 ho (sp_sendHome (I := fun T' => ∃ N A, RT T' N A ∧ T'.Y 3 0 = gAll T'.G) hp hR.1 (fun e => ⟨N, A, hR, e⟩) I1 I2 (by omega) (by omega)) tSend_r (by omega)) (fun v w1 cn1 sn1 h => ?_)
  obtain ⟨⟨k, rfl, hk0, hk1⟩, rfl, rfl, h4, h5, g1, h6, h7⟩ := h
  have hm1 : moA w1 T.G N A := hm.keep fun j h1 h2 => h5.2 j (by omega)
  have m0 := hm1.1
  refine zw_istore z0_486 rfl ?_
  refine zw_aload_n z0_488 rfl ?_
  refine zw_cv (n := 3) z0_489 rfl rfl m0 (Nat.le_of_ble_eq_true rfl) (by omega) (sp_mSendHome (I := fun N' A' u => ∃ T', RT T' N' A' ∧ T'.G = T.G ∧ T'.Y 3 0 = gAll T'.G ∧ 52 ≤ T'.Y 3 1 + u) hm1 hG hV (fun e => ⟨T, hR.n0, rfl, hR.laid.1.1 e, by have := hR.ah; omega⟩) (fun N' A' u ⟨T', h, _, _, _⟩ => ⟨h.2.1.1, h.cnt.2⟩) (fun N' A' u ⟨T', h, hg, hl, hu⟩ hn => by rw [← hg] at hn ⊢; have s := h.sent hl hn; exact ⟨s.2.1, u - 1, by have := s.2.2.2.1; omega, _, s.2.2.1, rfl, hl, by have := s.2.2.2.1; have := s.2.2.2.2; omega⟩) (by omega) (by omega)) (fun v w2 cn2 sn2 h => ?_)
  obtain ⟨rfl, rfl, rfl, hm2, f2⟩ := h
  have h4 : ptA w2 (tSend T).2 := h4.keep fun j hj => f2.2 j (by omega)
  have h6 : ouA w2 g1 := (f2.2 831 (by omega)).trans h6
  have tl := tC_le (tSend T).1
  generalize tSend T = r at *
  generalize mSend T.G N A = mr at *
  obtain ⟨K1, K2, K3, K4, K5⟩ := K
  have kN : mr.2.1 0 = k ∧ iR k := by
    cases hr1 : r.1 with
    | inl b => rw [(K1 b hr1).1, hk0 b hr1]; exact ⟨rfl, by omega⟩
    | inr ex =>
      rw [K2 ex hr1, hk1 ex hr1]
      exact ⟨rfl, by show iR 1; omega⟩
  have hm2 : moA w2 r.2.G mr.2.1 mr.2.2 := by rw [K5]; exact hm2
  have m0 := hm2.1
  have inv : lwI w2 := ⟨r.2, mr.2.1, mr.2.2, g1, K3, h4, hm2, h6⟩
  refine zw_istore z0_492 rfl ?_
  refine zw_aload_n z0_494 rfl ?_
  refine zw_vv (n := 1) z0_495 rfl rfl (by assumption) (Nat.le_of_ble_eq_true rfl) (by omega) (sp_mThrown hm2) ?_
  refine zw_iload z0_498 rfl ?_
  refine zj_icmp_eq z0_500 (by rw [kN.1]; exact kN.2) kN.2 (fun _ => ?_) (fun e => absurd kN.1 e)
  refine zw_iload z0_505 rfl ?_
  refine zj_if_ne z0_507 kN.2 (fun _ => ?_) (fun e => ?_)
  · refine zw_goto z0_522 ?_
    exact kk _ _ _ _ _ inv (by omega) (by omega)
  · have k0 : k = 0 := Classical.byContradiction e
    have gv : g1 0 = (iI mr.1).toInt64 := by
      cases hr1 : r.1 with
      | inl b => exact h7 _ (by rw [hr1, (K1 b hr1).2])
      | inr ex =>
        exfalso
        have := hk1 ex hr1
        rw [k0] at this
        have this : (0 : Int) = 1 := this
        omega
    refine zw_aload_n z0_510 rfl ?_
    refine zw_iconst z0_511 (v := iI 0) rfl ?_
    refine zw_lald z0_512 h6 (iI_in (z := 0) (by omega) (by decide)) ?_
    rw [show (iI 0).toNatClampNeg = 0 by decide +kernel, gv]
    refine zw_iload z0_513 rfl ?_
    refine zw_i2l z0_515 ?_
    refine zw_lcmp z0_516 ?_
    rw [lg_cmp_0]
    refine zj_if_eq z0_517 (by omega) (fun _ => ?_) (fun e => absurd rfl e)
    refine zw_goto z0_522 ?_
    exact kk _ _ _ _ _ inv (by omega) (by omega)
theorem law_undo (hI : lwI w) (hi : 0 ≤ i ∧ i + 4 < L) (hL : L ≤ 2147483647) (kk : lwK L xs i cn sn Q) : lwS L xs 525 i x5 x6 w cn sn Q := by
  obtain ⟨T, N, A, g, hR, hp, hm, ho⟩ := hI
  have hG := hR.gm
  have hV := hR.2.1.1
  have U := hR.undo
  have K := U.1
  refine zw_aload_n z0_525 rfl ?_
  refine zw_aload_n z0_526 rfl ?_
  refine zw_cs (n := 3) z0_527 rfl rfl (Nat.le_of_ble_eq_true rfl) (by omega) (hp_undo (u := T.hi) hp.1 ho (sp_undo hp hR.1 U.2.1 (by omega) (by omega)) tUndo_r (by omega)) (fun v w1 cn1 sn1 h => ?_)
  obtain ⟨⟨k, rfl, hk0, hk1⟩, rfl, rfl, h4, h5, g1, h6, h7⟩ := h
  have hm1 : moA w1 T.G N A := hm.keep fun j h1 h2 => h5.2 j (by omega)
  have m0 := hm1.1
  refine zw_istore z0_530 rfl ?_
  refine zw_aload_n z0_532 rfl ?_
  refine zw_cv (n := 2) z0_533 rfl rfl m0 (Nat.le_of_ble_eq_true rfl) (by omega) (sp_mUndo hm1 hG hV hR.cnt.2 U.2.2 (by omega) (by omega)) (fun v w2 cn2 sn2 h => ?_)
  obtain ⟨rfl, rfl, rfl, hm2, f2⟩ := h
  have h4 : ptA w2 (tUndo T).2 := h4.keep fun j hj => f2.2 j (by omega)
  have h6 : ouA w2 g1 := (f2.2 831 (by omega)).trans h6
  have tl := tC_le (tUndo T).1
  generalize tUndo T = r at *
  generalize mUn T.G N A = mr at *
  obtain ⟨K1, K2, K3, K4, K5⟩ := K
  have kN : mr.2.1 0 = k ∧ iR k := by
    cases hr1 : r.1 with
    | inl b => rw [(K1 b hr1).1, hk0 b hr1]; exact ⟨rfl, by omega⟩
    | inr ex =>
      rw [K2 ex hr1, hk1 ex hr1]
      exact ⟨rfl, by show iR 1; omega⟩
  have hm2 : moA w2 r.2.G mr.2.1 mr.2.2 := by rw [K5]; exact hm2
  have m0 := hm2.1
  have inv : lwI w2 := ⟨r.2, mr.2.1, mr.2.2, g1, K3, h4, hm2, h6⟩
  refine zw_istore z0_536 rfl ?_
  refine zw_aload_n z0_538 rfl ?_
  refine zw_vv (n := 1) z0_539 rfl rfl (by assumption) (Nat.le_of_ble_eq_true rfl) (by omega) (sp_mThrown hm2) ?_
  refine zw_iload z0_542 rfl ?_
  refine zj_icmp_eq z0_544 (by rw [kN.1]; exact kN.2) kN.2 (fun _ => ?_) (fun e => absurd kN.1 e)
  refine zw_iload z0_549 rfl ?_
  refine zj_if_ne z0_551 kN.2 (fun _ => ?_) (fun e => ?_)
  · refine zw_goto z0_566 ?_
    exact kk _ _ _ _ _ inv (by omega) (by omega)
  · have k0 : k = 0 := Classical.byContradiction e
    have gv : g1 0 = (iI mr.1).toInt64 := by
      cases hr1 : r.1 with
      | inl b => exact h7 _ (by rw [hr1, (K1 b hr1).2])
      | inr ex =>
        exfalso
        have := hk1 ex hr1
        rw [k0] at this
        have this : (0 : Int) = 1 := this
        omega
    refine zw_aload_n z0_554 rfl ?_
    refine zw_iconst z0_555 (v := iI 0) rfl ?_
    refine zw_lald z0_556 h6 (iI_in (z := 0) (by omega) (by decide)) ?_
    rw [show (iI 0).toNatClampNeg = 0 by decide +kernel, gv]
    refine zw_iload z0_557 rfl ?_
    refine zw_i2l z0_559 ?_
    refine zw_lcmp z0_560 ?_
    rw [lg_cmp_0]
    refine zj_if_eq z0_561 (by omega) (fun _ => ?_) (fun e => absurd rfl e)
    refine zw_goto z0_566 ?_
    exact kk _ _ _ _ _ inv (by omega) (by omega)
theorem law_look (hI : lwI w) (hi : 0 ≤ i ∧ i + 4 < L) (hL : L ≤ 2147483647) (kk : lwK L xs i cn sn Q) : lwS L xs 681 i x5 x6 w cn sn Q := by
  obtain ⟨T, N, A, g, hR, hp, hm, ho⟩ := hI
  have hG := hR.gm
  have hV := hR.2.1.1
  have a1 := sx_rng (xs := xs) (i + 1)
  have U := hR.look (u := (sx xs (i + 1)))
  have h6' := hR.2.1.2.2.1
  have h7' := hR.2.1.2.2.2.1
  have K := U.1
  refine zw_aload_n z0_681 rfl ?_
  refine zw_aload_n z0_682 rfl ?_
  refine zw_iload z0_683 rfl ?_
  refine zw_iconst z0_685 (v := iI 1) rfl ?_
  refine zj_add z0_686 ?_
  refine zj_sld z0_687 (by omega) hL ?_
  refine zw_aload_n z0_688 rfl ?_
  refine zw_cs (n := 4) z0_689 rfl rfl (Nat.le_of_ble_eq_true rfl) (by omega) (hp_look (u := T.hi) hp.1 ho ((sp_look (J := JJ T.G) hp hR.1 a1 (okL_JJ hG) (stJ_JJ hG) U.2.1 (by omega) (by omega)).mono fun o w' cn' sn' h => h.1) tLook_r (by omega)) (fun v w1 cn1 sn1 h => ?_)
  obtain ⟨⟨k, rfl, hk0, hk1⟩, rfl, rfl, h4, h5, g1, h6, h7⟩ := h
  have hm1 : moA w1 T.G N A := hm.keep fun j h1 h2 => h5.2 j (by omega)
  have m0 := hm1.1
  refine zw_istore z0_692 rfl ?_
  refine zw_aload_n z0_694 rfl ?_
  refine zw_aload_n z0_695 rfl ?_
  refine zw_iload z0_696 rfl ?_
  refine zw_iconst z0_698 (v := iI 1) rfl ?_
  refine zj_add z0_699 ?_
  refine zj_sld z0_700 (by omega) hL ?_
  refine zw_cv (n := 3) z0_701 rfl rfl m0 (Nat.le_of_ble_eq_true rfl) (by omega) (sp_mLook hm1 hG hV hR.2.1.2.1 h6' h7' U.2.2 a1 (by omega) (by omega)) (fun v w2 cn2 sn2 h => ?_)
  obtain ⟨rfl, rfl, rfl, hm2, f2⟩ := h
  have h4 : ptA w2 (tLook T (sx xs (i + 1))).2 := h4.keep fun j hj => f2.2 j (by omega)
  have h6 : ouA w2 g1 := (f2.2 831 (by omega)).trans h6
  have tl := tC_le (tLook T (sx xs (i + 1))).1
  generalize tLook T (sx xs (i + 1)) = r at *
  generalize mLk T.G N A (sx xs (i + 1)) = mr at *
  obtain ⟨K1, K2, K3, K4, K5⟩ := K
  have kN : mr.2.1 0 = k ∧ iR k := by
    cases hr1 : r.1 with
    | inl b => rw [(K1 b hr1).1, hk0 b hr1]; exact ⟨rfl, by omega⟩
    | inr ex =>
      rw [K2 ex hr1, hk1 ex hr1]
      exact ⟨rfl, by show iR (if ex = 0 then 1 else 2); split <;> omega⟩
  have hm2 : moA w2 r.2.G mr.2.1 mr.2.2 := by rw [K5]; exact hm2
  have m0 := hm2.1
  have inv : lwI w2 := ⟨r.2, mr.2.1, mr.2.2, g1, K3, h4, hm2, h6⟩
  refine zw_istore z0_704 rfl ?_
  refine zw_aload_n z0_706 rfl ?_
  refine zw_vv (n := 1) z0_707 rfl rfl (by assumption) (Nat.le_of_ble_eq_true rfl) (by omega) (sp_mThrown hm2) ?_
  refine zw_iload z0_710 rfl ?_
  refine zj_icmp_eq z0_712 (by rw [kN.1]; exact kN.2) kN.2 (fun _ => ?_) (fun e => absurd kN.1 e)
  refine zw_iload z0_717 rfl ?_
  refine zj_if_ne z0_719 kN.2 (fun _ => ?_) (fun e => ?_)
  · refine zw_goto z0_734 ?_
    exact kk _ _ _ _ _ inv (by omega) (by omega)
  · have k0 : k = 0 := Classical.byContradiction e
    have gv : g1 0 = (iI mr.1).toInt64 := by
      cases hr1 : r.1 with
      | inl b => exact h7 _ (by rw [hr1, (K1 b hr1).2])
      | inr ex =>
        exfalso
        have := hk1 ex hr1
        rw [k0] at this
        have c : cd1 ex = 1 ∨ cd1 ex = 2 := by show (if ex = 0 then (1 : Int) else 2) = 1 ∨ (if ex = 0 then (1 : Int) else 2) = 2; split; exact Or.inl rfl; exact Or.inr rfl
        omega
    refine zw_aload_n z0_722 rfl ?_
    refine zw_iconst z0_723 (v := iI 0) rfl ?_
    refine zw_lald z0_724 h6 (iI_in (z := 0) (by omega) (by decide)) ?_
    rw [show (iI 0).toNatClampNeg = 0 by decide +kernel, gv]
    refine zw_iload z0_725 rfl ?_
    refine zw_i2l z0_727 ?_
    refine zw_lcmp z0_728 ?_
    rw [lg_cmp_0]
    refine zj_if_eq z0_729 (by omega) (fun _ => ?_) (fun e => absurd rfl e)
    refine zw_goto z0_734 ?_
    exact kk _ _ _ _ _ inv (by omega) (by omega)
theorem law_deal (hI : lwI w) (hi : 0 ≤ i ∧ i + 4 < L) (hL : L ≤ 2147483647) (kk : lwK L xs i cn sn Q) : lwS L xs 214 i x5 x6 w cn sn Q := by
  obtain ⟨T, N, A, g, hR, hp, hm, ho⟩ := hI
  have hG := hR.gm
  have hV := hR.2.1.1
  have a1 := sx_rng (xs := xs) (i + 1)
  have K := hR.deal (u := (sx xs (i + 1)))
  refine zw_aload_n z0_214 rfl ?_
  refine zw_aload_n z0_215 rfl ?_
  refine zw_iload z0_216 rfl ?_
  refine zw_iconst z0_218 (v := iI 1) rfl ?_
  refine zj_add z0_219 ?_
  refine zj_sld z0_220 (by omega) hL ?_
  refine zw_cs (n := 3) z0_221 rfl rfl (Nat.le_of_ble_eq_true rfl) (by omega) (hp_deal (u := T.hi) hp.1 ho (sp_deal hp hR.1 a1 (by omega) (by omega)) (by rcases K.2.1 with q | q; exact Or.inl q.1; exact Or.inr q.1) (by omega)) (fun v w1 cn1 sn1 h => ?_)
  obtain ⟨⟨k, rfl, hk0, hk1⟩, rfl, rfl, h4, h5, g1, h6, h7⟩ := h
  have hm1 : moA w1 T.G N A := hm.keep fun j h1 h2 => h5.2 j (by omega)
  have m0 := hm1.1
  refine zw_istore z0_224 rfl ?_
  refine zw_aload_n z0_226 rfl ?_
  refine zw_aload_n z0_227 rfl ?_
  refine zw_iload z0_228 rfl ?_
  refine zw_iconst z0_230 (v := iI 1) rfl ?_
  refine zj_add z0_231 ?_
  refine zj_sld z0_232 (by omega) hL ?_
  refine zw_cv (n := 7) z0_233 rfl rfl m0 (Nat.le_of_ble_eq_true rfl) (by omega) (sp_mDeal hm1 hG hV hR.2.1.2.2.2.2 a1 (by omega) (by omega)) (fun v w2 cn2 sn2 h => ?_)
  obtain ⟨rfl, rfl, rfl, hm2, f2⟩ := h
  have h4 : ptA w2 (tDeal T (sx xs (i + 1))).2 := h4.keep fun j hj => f2.2 j (by omega)
  have h6 : ouA w2 g1 := (f2.2 831 (by omega)).trans h6
  have tl := tC_le (tDeal T (sx xs (i + 1))).1
  generalize tDeal T (sx xs (i + 1)) = r at *
  generalize mDe T.G N A (sx xs (i + 1)) = mr at *
  obtain ⟨K3, K1, K5⟩ := K
  have kN : mr.1 0 = k ∧ iR k := by
    rcases K1 with ⟨e1, e2⟩ | ⟨e1, e2⟩
    · rw [e2, hk0 _ e1]; exact ⟨rfl, by omega⟩
    · rw [e2, hk1 _ e1]; exact ⟨rfl, by show iR 1; omega⟩
  have hm2 : moA w2 r.2.G mr.1 mr.2 := by rw [K5]; exact hm2
  have m0 := hm2.1
  have inv : lwI w2 := ⟨r.2, mr.1, mr.2, g1, K3, h4, hm2, h6⟩
  refine zw_aload_n z0_236 rfl ?_
  refine zw_vv (n := 1) z0_237 rfl rfl (by assumption) (Nat.le_of_ble_eq_true rfl) (by omega) (sp_mThrown hm2) ?_
  refine zw_iload z0_240 rfl ?_
  refine zj_icmp_eq z0_242 (by rw [kN.1]; exact kN.2) kN.2 (fun _ => ?_) (fun e => absurd kN.1 e)
  refine zw_goto z0_247 ?_
  exact kk _ _ _ _ _ inv (by omega) (by omega)
theorem law_clear (hI : lwI w) (hi : 0 ≤ i ∧ i + 4 < L) (hL : L ≤ 2147483647) (kk : lwK L xs i cn sn Q) : lwS L xs 250 i x5 x6 w cn sn Q := by
  obtain ⟨T, N, A, g, hR, hp, hm, ho⟩ := hI
  have hG := hR.gm
  have hV := hR.2.1.1
  have p0 := hp.1
  unfold ptO at p0
  refine zw_aload_n z0_250 rfl ?_
  refine zw_cv (n := 1) z0_251 rfl rfl p0 (Nat.le_of_ble_eq_true rfl) (by omega) (sp_clear hp (by omega) (by omega)) (fun v w1 cn1 sn1 h => ?_)
  obtain ⟨rfl, rfl, rfl, h4, h5⟩ := h
  have hm1 : moA w1 T.G N A := hm.keep fun j h1 h2 => h5.2 j (by omega)
  have m0 := hm1.1
  refine zw_aload_n z0_254 rfl ?_
  refine zw_cv (n := 1) z0_255 rfl rfl m0 (Nat.le_of_ble_eq_true rfl) (by omega) (sp_mClear hm1 (by omega) (by omega)) (fun v w2 cn2 sn2 h => ?_)
  obtain ⟨rfl, rfl, rfl, hm2, f2⟩ := h
  refine zw_goto z0_258 ?_
  exact kk _ _ _ _ _ ⟨tClr T, _, _, g, hR.wipe hG, h4.keep fun j hj => f2.2 j (by omega), hm2, ((f2.2 831 (by omega)).trans (h5.2 831 (by omega))).trans ho⟩ (by omega) (by omega)
theorem law_rules (hI : lwI w) (hi : 0 ≤ i ∧ i + 4 < L) (hL : L ≤ 2147483647) (kk : lwK L xs i cn sn Q) : lwS L xs 116 i x5 x6 w cn sn Q := by
  obtain ⟨T, N, A, g, hR, hp, hm, ho⟩ := hI
  have hG := hR.gm
  have hV := hR.2.1.1
  have a1 := sx_rng (xs := xs) (i + 1)
  have a2 := sx_rng (xs := xs) (i + 2)
  have a3 := sx_rng (xs := xs) (i + 3)
  have a4 := sx_rng (xs := xs) (i + 4)
  have p0 := hp.1
  unfold ptO at p0
  refine zw_aload_n z0_116 rfl ?_
  refine zw_aload_n z0_117 rfl ?_
  refine zw_iload z0_118 rfl ?_
  refine zw_iconst z0_120 (v := iI 1) rfl ?_
  refine zj_add z0_121 ?_
  refine zj_sld z0_122 (by omega) hL ?_
  refine zw_aload_n z0_123 rfl ?_
  refine zw_iload z0_124 rfl ?_
  refine zw_iconst z0_126 (v := iI 2) rfl ?_
  refine zj_add z0_127 ?_
  refine zj_sld z0_128 (by omega) hL ?_
  refine zw_aload_n z0_129 rfl ?_
  refine zw_iload z0_130 rfl ?_
  refine zw_iconst z0_132 (v := iI 3) rfl ?_
  refine zj_add z0_133 ?_
  refine zj_sld z0_134 (by omega) hL ?_
  refine zw_aload_n z0_135 rfl ?_
  refine zw_iload z0_136 rfl ?_
  refine zw_iconst z0_138 (v := iI 4) rfl ?_
  refine zj_add z0_139 ?_
  refine zj_sld z0_140 (by omega) hL ?_
  refine zw_ct (n := 6) z0_141 rfl rfl p0 (Nat.le_of_ble_eq_true rfl) (by omega) (sp_rules hp a1 a2 a3 a4 (by omega) (by omega)) (fun v w1 cn1 sn1 h => ?_) (fun ex w1 cn1 sn1 h => ?_)
  rotate_left
  · have e := h.1
    unfold tRules at e
    split at e <;> cases e
  obtain ⟨h1, h2, h3, h4, h5⟩ := h
  have hm1 : moA w1 T.G N A := hm.keep fun j h1 h2 => h5.2 j (by omega)
  have ho1 : ouA w1 g := (h5.2 831 (by omega)).trans ho
  have m0 := hm1.1
  by_cases q : mRuC (sx xs (i + 1)) (sx xs (i + 2)) (sx xs (i + 3)) (sx xs (i + 4))
  · have eT : tRules T (sx xs (i + 1)) (sx xs (i + 2)) (sx xs (i + 3)) (sx xs (i + 4)) = (oI 1, tClr (TT.mk (iU (iU (iU (iU T.G 0 (sx xs (i + 1))) 1 (sx xs (i + 2))) 2 (sx xs (i + 3))) 3 (sx xs (i + 4))) T.Y T.P T.S T.R T.hi)) := if_pos q
    rw [eT] at h1 h2 h3 h4
    cases h1
    have h2 : cn1 = cn := h2
    have h3 : sn1 = sn := h3
    subst h2
    subst h3
    refine zw_aload_n z0_144 rfl ?_
    refine zw_aload_n z0_145 rfl ?_
    refine zw_iload z0_146 rfl ?_
    refine zw_iconst z0_148 (v := iI 1) rfl ?_
    refine zj_add z0_149 ?_
    refine zj_sld z0_150 (by omega) hL ?_
    refine zw_aload_n z0_151 rfl ?_
    refine zw_iload z0_152 rfl ?_
    refine zw_iconst z0_154 (v := iI 2) rfl ?_
    refine zj_add z0_155 ?_
    refine zj_sld z0_156 (by omega) hL ?_
    refine zw_aload_n z0_157 rfl ?_
    refine zw_iload z0_158 rfl ?_
    refine zw_iconst z0_160 (v := iI 3) rfl ?_
    refine zj_add z0_161 ?_
    refine zj_sld z0_162 (by omega) hL ?_
    refine zw_aload_n z0_163 rfl ?_
    refine zw_iload z0_164 rfl ?_
    refine zw_iconst z0_166 (v := iI 4) rfl ?_
    refine zj_add z0_167 ?_
    refine zj_sld z0_168 (by omega) hL ?_
    refine zw_cv (n := 5) z0_169 rfl rfl m0 (Nat.le_of_ble_eq_true rfl) (by omega) (sp_mRules hm1 a1 a2 a3 a4 (by omega) (by omega)) (fun v w2 cn2 sn2 h => ?_)
    rw [if_pos q] at h
    obtain ⟨rfl, rfl, rfl, hm2, f2⟩ := h
    refine zj_icmp_eq z0_172 (by omega) (by omega) (fun _ => ?_) (fun e => absurd rfl e)
    refine kk _ _ _ _ _ ⟨_, _, _, g, hR.wipe (G' := (iU (iU (iU (iU T.G 0 (sx xs (i + 1))) 1 (sx xs (i + 2))) 2 (sx xs (i + 3))) 3 (sx xs (i + 4)))) ?_, h4.keep fun j hj => f2.2 j (by omega), hm2, (f2.2 831 (by omega)).trans ho1⟩ (by omega) (by omega)
    have hG2 := hG
    unfold gmV at hG2 ⊢
    unfold mRuC at q
    exact ⟨q.1, q.2.1, q.2.2.1, q.2.2.2, hG2.2.2.2.2.1, hG2.2.2.2.2.2⟩
  · have eT : tRules T (sx xs (i + 1)) (sx xs (i + 2)) (sx xs (i + 3)) (sx xs (i + 4)) = (oI 0, T) := if_neg q
    rw [eT] at h1 h2 h3 h4
    cases h1
    have h2 : cn1 = cn := h2
    have h3 : sn1 = sn := h3
    subst h2
    subst h3
    refine zw_aload_n z0_144 rfl ?_
    refine zw_aload_n z0_145 rfl ?_
    refine zw_iload z0_146 rfl ?_
    refine zw_iconst z0_148 (v := iI 1) rfl ?_
    refine zj_add z0_149 ?_
    refine zj_sld z0_150 (by omega) hL ?_
    refine zw_aload_n z0_151 rfl ?_
    refine zw_iload z0_152 rfl ?_
    refine zw_iconst z0_154 (v := iI 2) rfl ?_
    refine zj_add z0_155 ?_
    refine zj_sld z0_156 (by omega) hL ?_
    refine zw_aload_n z0_157 rfl ?_
    refine zw_iload z0_158 rfl ?_
    refine zw_iconst z0_160 (v := iI 3) rfl ?_
    refine zj_add z0_161 ?_
    refine zj_sld z0_162 (by omega) hL ?_
    refine zw_aload_n z0_163 rfl ?_
    refine zw_iload z0_164 rfl ?_
    refine zw_iconst z0_166 (v := iI 4) rfl ?_
    refine zj_add z0_167 ?_
    refine zj_sld z0_168 (by omega) hL ?_
    refine zw_cv (n := 5) z0_169 rfl rfl m0 (Nat.le_of_ble_eq_true rfl) (by omega) (sp_mRules hm1 a1 a2 a3 a4 (by omega) (by omega)) (fun v w2 cn2 sn2 h => ?_)
    rw [if_neg q] at h
    obtain ⟨rfl, rfl, rfl, hm2, f2⟩ := h
    refine zj_icmp_eq z0_172 (by omega) (by omega) (fun _ => ?_) (fun e => absurd rfl e)
    exact kk _ _ _ _ _ ⟨T, _, _, g, hR.n0, h4.keep fun j hj => f2.2 j (by omega), hm2, (f2.2 831 (by omega)).trans ho1⟩ (by omega) (by omega)
theorem law_cards (hI : lwI w) (hi : 0 ≤ i ∧ i + 4 < L) (hL : L ≤ 2147483647) (kk : lwK L xs i cn sn Q) : lwS L xs 177 i x5 x6 w cn sn Q := by
  obtain ⟨T, N, A, g, hR, hp, hm, ho⟩ := hI
  have hG := hR.gm
  have hV := hR.2.1.1
  have a1 := sx_rng (xs := xs) (i + 1)
  have a2 := sx_rng (xs := xs) (i + 2)
  have p0 := hp.1
  unfold ptO at p0
  refine zw_aload_n z0_177 rfl ?_
  refine zw_aload_n z0_178 rfl ?_
  refine zw_iload z0_179 rfl ?_
  refine zw_iconst z0_181 (v := iI 1) rfl ?_
  refine zj_add z0_182 ?_
  refine zj_sld z0_183 (by omega) hL ?_
  refine zw_aload_n z0_184 rfl ?_
  refine zw_iload z0_185 rfl ?_
  refine zw_iconst z0_187 (v := iI 2) rfl ?_
  refine zj_add z0_188 ?_
  refine zj_sld z0_189 (by omega) hL ?_
  refine zw_ct (n := 3) z0_190 rfl rfl p0 (Nat.le_of_ble_eq_true rfl) (by omega) (sp_cards hp a1 a2 (by omega) (by omega)) (fun v w1 cn1 sn1 h => ?_) (fun ex w1 cn1 sn1 h => ?_)
  rotate_left
  · have e := h.1
    unfold tCards at e
    split at e <;> cases e
  obtain ⟨h1, h2, h3, h4, h5⟩ := h
  have hm1 : moA w1 T.G N A := hm.keep fun j h1 h2 => h5.2 j (by omega)
  have ho1 : ouA w1 g := (h5.2 831 (by omega)).trans ho
  have m0 := hm1.1
  by_cases q : mCaC (sx xs (i + 1)) (sx xs (i + 2))
  · have eT : tCards T (sx xs (i + 1)) (sx xs (i + 2)) = (oI 1, tClr (TT.mk (iU (iU T.G 4 (sx xs (i + 1))) 5 (sx xs (i + 2))) T.Y T.P T.S T.R T.hi)) := if_pos q
    rw [eT] at h1 h2 h3 h4
    cases h1
    have h2 : cn1 = cn := h2
    have h3 : sn1 = sn := h3
    subst h2
    subst h3
    refine zw_aload_n z0_193 rfl ?_
    refine zw_aload_n z0_194 rfl ?_
    refine zw_iload z0_195 rfl ?_
    refine zw_iconst z0_197 (v := iI 1) rfl ?_
    refine zj_add z0_198 ?_
    refine zj_sld z0_199 (by omega) hL ?_
    refine zw_aload_n z0_200 rfl ?_
    refine zw_iload z0_201 rfl ?_
    refine zw_iconst z0_203 (v := iI 2) rfl ?_
    refine zj_add z0_204 ?_
    refine zj_sld z0_205 (by omega) hL ?_
    refine zw_cv (n := 3) z0_206 rfl rfl m0 (Nat.le_of_ble_eq_true rfl) (by omega) (sp_mCards hm1 a1 a2 (by omega) (by omega)) (fun v w2 cn2 sn2 h => ?_)
    rw [if_pos q] at h
    obtain ⟨rfl, rfl, rfl, hm2, f2⟩ := h
    refine zj_icmp_eq z0_209 (by omega) (by omega) (fun _ => ?_) (fun e => absurd rfl e)
    refine kk _ _ _ _ _ ⟨_, _, _, g, hR.wipe (G' := (iU (iU T.G 4 (sx xs (i + 1))) 5 (sx xs (i + 2)))) ?_, h4.keep fun j hj => f2.2 j (by omega), hm2, (f2.2 831 (by omega)).trans ho1⟩ (by omega) (by omega)
    have hG2 := hG
    unfold gmV at hG2 ⊢
    unfold mCaC at q
    exact ⟨hG2.1, hG2.2.1, hG2.2.2.1, hG2.2.2.2.1, q.1, q.2⟩
  · have eT : tCards T (sx xs (i + 1)) (sx xs (i + 2)) = (oI 0, T) := if_neg q
    rw [eT] at h1 h2 h3 h4
    cases h1
    have h2 : cn1 = cn := h2
    have h3 : sn1 = sn := h3
    subst h2
    subst h3
    refine zw_aload_n z0_193 rfl ?_
    refine zw_aload_n z0_194 rfl ?_
    refine zw_iload z0_195 rfl ?_
    refine zw_iconst z0_197 (v := iI 1) rfl ?_
    refine zj_add z0_198 ?_
    refine zj_sld z0_199 (by omega) hL ?_
    refine zw_aload_n z0_200 rfl ?_
    refine zw_iload z0_201 rfl ?_
    refine zw_iconst z0_203 (v := iI 2) rfl ?_
    refine zj_add z0_204 ?_
    refine zj_sld z0_205 (by omega) hL ?_
    refine zw_cv (n := 3) z0_206 rfl rfl m0 (Nat.le_of_ble_eq_true rfl) (by omega) (sp_mCards hm1 a1 a2 (by omega) (by omega)) (fun v w2 cn2 sn2 h => ?_)
    rw [if_neg q] at h
    obtain ⟨rfl, rfl, rfl, hm2, f2⟩ := h
    refine zj_icmp_eq z0_209 (by omega) (by omega) (fun _ => ?_) (fun e => absurd rfl e)
    exact kk _ _ _ _ _ ⟨T, _, _, g, hR.n0, h4.keep fun j hj => f2.2 j (by omega), hm2, (f2.2 831 (by omega)).trans ho1⟩ (by omega) (by omega)
theorem law_log (hI : lwI w) (hi : 0 ≤ i ∧ i + 4 < L) (hL : L ≤ 2147483647) (kk : lwK L xs i cn sn Q) : lwS L xs 569 i x5 x6 w cn sn Q := by
  obtain ⟨T, N, A, g, hR, hp, hm, ho⟩ := hI
  have hG := hR.gm
  have hV := hR.2.1.1
  have p0 := hp.1
  unfold ptO at p0
  have m0 := hm.1
  have E : iR (T.P 4 1) := by have := hR.cnt; omega
  refine zw_aload_n z0_569 rfl ?_
  refine zw_vv (n := 1) z0_570 rfl rfl (by assumption) (Nat.le_of_ble_eq_true rfl) (by omega) (sp_log hp) ?_
  refine zw_aload_n z0_573 rfl ?_
  refine zw_cv (n := 1) z0_574 rfl rfl m0 (Nat.le_of_ble_eq_true rfl) (by omega) (sp_mLog hm) (fun v w2 cn2 sn2 h => ?_)
  obtain ⟨rfl, rfl, rfl, hm2, f2⟩ := h
  refine zj_icmp_eq z0_577 (E) (by rw [← hR.cnt.1]; exact E) (fun _ => ?_) (fun e => absurd (hR.cnt.1) e)
  exact kk _ _ _ _ _ ⟨T, _, _, g, hR.n0, hp.keep fun j hj => f2.2 j (by omega), hm2, (f2.2 831 (by omega)).trans ho⟩ (by omega) (by omega)
theorem law_card (hI : lwI w) (hi : 0 ≤ i ∧ i + 4 < L) (hL : L ≤ 2147483647) (kk : lwK L xs i cn sn Q) : lwS L xs 582 i x5 x6 w cn sn Q := by
  obtain ⟨T, N, A, g, hR, hp, hm, ho⟩ := hI
  have hG := hR.gm
  have hV := hR.2.1.1
  have a1 := sx_rng (xs := xs) (i + 1)
  have a2 := sx_rng (xs := xs) (i + 2)
  have p0 := hp.1
  unfold ptO at p0
  have m0 := hm.1
  refine zw_aload_n z0_582 rfl ?_
  refine zw_aload_n z0_583 rfl ?_
  refine zw_iload z0_584 rfl ?_
  refine zw_iconst z0_586 (v := iI 1) rfl ?_
  refine zj_add z0_587 ?_
  refine zj_sld z0_588 (by omega) hL ?_
  refine zw_aload_n z0_589 rfl ?_
  refine zw_iload z0_590 rfl ?_
  refine zw_iconst z0_592 (v := iI 2) rfl ?_
  refine zj_add z0_593 ?_
  refine zj_sld z0_594 (by omega) hL ?_
  refine zw_vv (n := 3) z0_595 rfl rfl (by assumption) (Nat.le_of_ble_eq_true rfl) (by omega) (sp_card hp hR.1 a1 a2 (by omega) (by omega)) ?_
  refine zw_aload_n z0_598 rfl ?_
  refine zw_aload_n z0_599 rfl ?_
  refine zw_iload z0_600 rfl ?_
  refine zw_iconst z0_602 (v := iI 1) rfl ?_
  refine zj_add z0_603 ?_
  refine zj_sld z0_604 (by omega) hL ?_
  refine zw_aload_n z0_605 rfl ?_
  refine zw_iload z0_606 rfl ?_
  refine zw_iconst z0_608 (v := iI 2) rfl ?_
  refine zj_add z0_609 ?_
  refine zj_sld z0_610 (by omega) hL ?_
  refine zw_cv (n := 3) z0_611 rfl rfl m0 (Nat.le_of_ble_eq_true rfl) (by omega) (sp_mCard hm hG hV a1 a2 (by omega) (by omega)) (fun v w2 cn2 sn2 h => ?_)
  obtain ⟨rfl, rfl, rfl, hm2, f2⟩ := h
  refine zj_icmp_eq z0_614 ((hR.reads.2.1 (sx xs (i + 1)) (sx xs (i + 2))).2) (by rw [← (hR.reads.2.1 (sx xs (i + 1)) (sx xs (i + 2))).1]; exact (hR.reads.2.1 (sx xs (i + 1)) (sx xs (i + 2))).2) (fun _ => ?_) (fun e => absurd ((hR.reads.2.1 (sx xs (i + 1)) (sx xs (i + 2))).1) e)
  exact kk _ _ _ _ _ ⟨T, _, _, g, hR.n0, hp.keep fun j hj => f2.2 j (by omega), hm2, (f2.2 831 (by omega)).trans ho⟩ (by omega) (by omega)
theorem law_size (hI : lwI w) (hi : 0 ≤ i ∧ i + 4 < L) (hL : L ≤ 2147483647) (kk : lwK L xs i cn sn Q) : lwS L xs 619 i x5 x6 w cn sn Q := by
  obtain ⟨T, N, A, g, hR, hp, hm, ho⟩ := hI
  have hG := hR.gm
  have hV := hR.2.1.1
  have a1 := sx_rng (xs := xs) (i + 1)
  have p0 := hp.1
  unfold ptO at p0
  have m0 := hm.1
  refine zw_aload_n z0_619 rfl ?_
  refine zw_aload_n z0_620 rfl ?_
  refine zw_iload z0_621 rfl ?_
  refine zw_iconst z0_623 (v := iI 1) rfl ?_
  refine zj_add z0_624 ?_
  refine zj_sld z0_625 (by omega) hL ?_
  refine zw_vv (n := 2) z0_626 rfl rfl (by assumption) (Nat.le_of_ble_eq_true rfl) (by omega) (sp_size hp hR.1 a1 (by omega) (by omega)) ?_
  refine zw_aload_n z0_629 rfl ?_
  refine zw_aload_n z0_630 rfl ?_
  refine zw_iload z0_631 rfl ?_
  refine zw_iconst z0_633 (v := iI 1) rfl ?_
  refine zj_add z0_634 ?_
  refine zj_sld z0_635 (by omega) hL ?_
  refine zw_cv (n := 2) z0_636 rfl rfl m0 (Nat.le_of_ble_eq_true rfl) (by omega) (sp_mSize hm hG hV a1 (by omega) (by omega)) (fun v w2 cn2 sn2 h => ?_)
  obtain ⟨rfl, rfl, rfl, hm2, f2⟩ := h
  refine zj_icmp_eq z0_639 ((hR.reads.1 (sx xs (i + 1))).2) (by rw [← (hR.reads.1 (sx xs (i + 1))).1]; exact (hR.reads.1 (sx xs (i + 1))).2) (fun _ => ?_) (fun e => absurd ((hR.reads.1 (sx xs (i + 1))).1) e)
  exact kk _ _ _ _ _ ⟨T, _, _, g, hR.n0, hp.keep fun j hj => f2.2 j (by omega), hm2, (f2.2 831 (by omega)).trans ho⟩ (by omega) (by omega)
theorem law_most (hI : lwI w) (hi : 0 ≤ i ∧ i + 4 < L) (hL : L ≤ 2147483647) (kk : lwK L xs i cn sn Q) : lwS L xs 644 i x5 x6 w cn sn Q := by
  obtain ⟨T, N, A, g, hR, hp, hm, ho⟩ := hI
  have hG := hR.gm
  have hV := hR.2.1.1
  have a1 := sx_rng (xs := xs) (i + 1)
  have a2 := sx_rng (xs := xs) (i + 2)
  have p0 := hp.1
  unfold ptO at p0
  have m0 := hm.1
  refine zw_aload_n z0_644 rfl ?_
  refine zw_aload_n z0_645 rfl ?_
  refine zw_iload z0_646 rfl ?_
  refine zw_iconst z0_648 (v := iI 1) rfl ?_
  refine zj_add z0_649 ?_
  refine zj_sld z0_650 (by omega) hL ?_
  refine zw_aload_n z0_651 rfl ?_
  refine zw_iload z0_652 rfl ?_
  refine zw_iconst z0_654 (v := iI 2) rfl ?_
  refine zj_add z0_655 ?_
  refine zj_sld z0_656 (by omega) hL ?_
  refine zw_vv (n := 3) z0_657 rfl rfl (by assumption) (Nat.le_of_ble_eq_true rfl) (by omega) (sp_most hp hR.1 a1 a2 (by omega) (by omega)) ?_
  refine zw_aload_n z0_660 rfl ?_
  refine zw_aload_n z0_661 rfl ?_
  refine zw_iload z0_662 rfl ?_
  refine zw_iconst z0_664 (v := iI 1) rfl ?_
  refine zj_add z0_665 ?_
  refine zj_sld z0_666 (by omega) hL ?_
  refine zw_aload_n z0_667 rfl ?_
  refine zw_iload z0_668 rfl ?_
  refine zw_iconst z0_670 (v := iI 2) rfl ?_
  refine zj_add z0_671 ?_
  refine zj_sld z0_672 (by omega) hL ?_
  refine zw_cv (n := 3) z0_673 rfl rfl m0 (Nat.le_of_ble_eq_true rfl) (by omega) (sp_mMost hm hG hV a1 a2 (by omega) (by omega)) (fun v w2 cn2 sn2 h => ?_)
  obtain ⟨rfl, rfl, rfl, hm2, f2⟩ := h
  refine zj_icmp_eq z0_676 ((hR.reads.2.2 (sx xs (i + 1)) (sx xs (i + 2))).2) (by rw [← (hR.reads.2.2 (sx xs (i + 1)) (sx xs (i + 2))).1]; exact (hR.reads.2.2 (sx xs (i + 1)) (sx xs (i + 2))).2) (fun _ => ?_) (fun e => absurd ((hR.reads.2.2 (sx xs (i + 1)) (sx xs (i + 2))).1) e)
  exact kk _ _ _ _ _ ⟨T, _, _, g, hR.n0, hp.keep fun j hj => f2.2 j (by omega), hm2, (f2.2 831 (by omega)).trans ho⟩ (by omega) (by omega)
theorem law_hint (hI : lwI w) (hi : 0 ≤ i ∧ i + 4 < L) (hL : L ≤ 2147483647) (kk : lwK L xs i cn sn Q) : lwS L xs 737 i x5 x6 w cn sn Q := by
  obtain ⟨T, N, A, g, hR, hp, hm, ho⟩ := hI
  have hG := hR.gm
  have hV := hR.2.1.1
  have p0 := hp.1
  unfold ptO at p0
  have m0 := hm.1
  have E : iR T.hi := by have := hR.2.2.1.1; omega
  refine zw_aload_n z0_737 rfl ?_
  refine zw_vv (n := 1) z0_738 rfl rfl (by assumption) (Nat.le_of_ble_eq_true rfl) (by omega) (sp_hint hp) ?_
  refine zw_aload_n z0_741 rfl ?_
  refine zw_cv (n := 1) z0_742 rfl rfl m0 (Nat.le_of_ble_eq_true rfl) (by omega) (sp_mHint hm) (fun v w2 cn2 sn2 h => ?_)
  obtain ⟨rfl, rfl, rfl, hm2, f2⟩ := h
  refine zj_icmp_eq z0_745 (E) (by rw [← hR.2.2.1.2.2.1]; exact E) (fun _ => ?_) (fun e => absurd (hR.2.2.1.2.2.1) e)
  exact kk _ _ _ _ _ ⟨T, _, _, g, hR.n0, hp.keep fun j hj => f2.2 j (by omega), hm2, (f2.2 831 (by omega)).trans ho⟩ (by omega) (by omega)
theorem law_positions (hI : lwI w) (hi : 0 ≤ i ∧ i + 4 < L) (hL : L ≤ 2147483647) (kk : lwK L xs i cn sn Q) : lwS L xs 750 i x5 x6 w cn sn Q := by
  obtain ⟨T, N, A, g, hR, hp, hm, ho⟩ := hI
  have hG := hR.gm
  have hV := hR.2.1.1
  have p0 := hp.1
  unfold ptO at p0
  have m0 := hm.1
  have E : iR (T.S.1 4) := by have := hR.2.2.1.2.1; omega
  refine zw_aload_n z0_750 rfl ?_
  refine zw_vv (n := 1) z0_751 rfl rfl (by assumption) (Nat.le_of_ble_eq_true rfl) (by omega) (sp_positions hp) ?_
  refine zw_aload_n z0_754 rfl ?_
  refine zw_cv (n := 1) z0_755 rfl rfl m0 (Nat.le_of_ble_eq_true rfl) (by omega) (sp_mPositions hm) (fun v w2 cn2 sn2 h => ?_)
  obtain ⟨rfl, rfl, rfl, hm2, f2⟩ := h
  refine zj_icmp_eq z0_758 (E) (by rw [← hR.2.2.1.2.2.2]; exact E) (fun _ => ?_) (fun e => absurd (hR.2.2.1.2.2.2) e)
  exact kk _ _ _ _ _ ⟨T, _, _, g, hR.n0, hp.keep fun j hj => f2.2 j (by omega), hm2, (f2.2 831 (by omega)).trans ho⟩ (by omega) (by omega)
end ZLW
