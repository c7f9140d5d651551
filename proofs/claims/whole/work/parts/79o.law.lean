/-! The law: the loop and the start. (Laid out by gen/tpl.py from tpl/79o.law.tpl.) -/
section ZLX
variable {L : Nat} {xs : Nat → Int32} {w : zi_W} {cn sn : Nat} {Q : zi_O → zi_W → Nat → Nat → Prop} {i : Int} {x5 x6 : Option Value}
theorem and15 (x : Int32) : ∃ j : Nat, j < 16 ∧ x &&& iI 15 = iI j := by
  obtain ⟨j, hj, e⟩ := pk_andE x (m := iI 15) 4 (by decide +kernel)
  exact ⟨j, by omega, by rw [e]; exact iI_nat j⟩
/-- the switch -/
theorem zj_tsw {d q k pc p t : Nat} {ls : zi_L} {st : List Value} {dd lo hi : Int} {offs : Array Int} {a off : Int} (hc : za k pc (.tableswitch dd lo hi offs) p) (ha : iR a) (h1 : ¬ (a < lo ∨ hi < a)) (ho : offs[(a - lo).toNat]? = some off) (ht : zi_tgt pc off = some t) (kk : zw L xs d q k t ls st w cn sn Q) : zw L xs d q k pc ls (iV a :: st) w cn sn Q := by
  refine zw_sim hc rfl (pc' := t) (ls' := ls) (st' := st) (w' := w) (cn' := cn) (sn' := sn) ?_ ⟨Nat.le_refl _, Nat.le_refl _, rfl⟩ kk
  have e : zi_br pc (zi_len (.tableswitch dd lo hi offs)) (.tableswitch dd lo hi offs) ls (iV a :: st) w cn sn = some (t, ls, st, w, cn, sn) := by
    show (if (iI a).toInt < lo ∨ hi < (iI a).toInt then _ else _) = _
    rw [iI_toInt ha, if_neg h1, ho]
    show zi_jmp true pc _ off ls st w cn sn = _
    unfold zi_jmp
    rw [ht]
    rfl
  unfold zi_sim
  rw [e]
  rfl
theorem law_sw {j : Nat} (hj : j < 16) (hI : lwI w) (hi : 0 ≤ i ∧ i + 4 < L) (hL : L ≤ 2147483647) (kk : lwK L xs i cn sn Q) : zw L xs 10 394 0 39 [some (.ref zi_X), some (.ref 0), some (.ref 817), some (.ref 831), some (iV i), x5, x6] [iV j] w cn sn Q := by
  have hc : j = 0 ∨ j = 1 ∨ j = 2 ∨ j = 3 ∨ j = 4 ∨ j = 5 ∨ j = 6 ∨ j = 7 ∨ j = 8 ∨ j = 9 ∨ j = 10 ∨ j = 11 ∨ j = 12 ∨ j = 13 ∨ j = 14 ∨ j = 15 := by omega
  rcases hc with rfl | rfl | rfl | rfl | rfl | rfl | rfl | rfl | rfl | rfl | rfl | rfl | rfl | rfl | rfl | rfl
  · exact zj_tsw z0_39 (by decide) (by decide) rfl rfl (law_rules hI hi hL kk)
  · exact zj_tsw z0_39 (by decide) (by decide) rfl rfl (law_cards hI hi hL kk)
  · exact zj_tsw z0_39 (by decide) (by decide) rfl rfl (law_deal hI hi hL kk)
  · exact zj_tsw z0_39 (by decide) (by decide) rfl rfl (law_clear hI hi hL kk)
  · exact zj_tsw z0_39 (by decide) (by decide) rfl rfl (law_lay hI hi hL kk)
  · exact zj_tsw z0_39 (by decide) (by decide) rfl rfl (law_move hI hi hL kk)
  · exact zj_tsw z0_39 (by decide) (by decide) rfl rfl (law_play hI hi hL kk)
  · exact zj_tsw z0_39 (by decide) (by decide) rfl rfl (law_send hI hi hL kk)
  · exact zj_tsw z0_39 (by decide) (by decide) rfl rfl (law_undo hI hi hL kk)
  · exact zj_tsw z0_39 (by decide) (by decide) rfl rfl (law_log hI hi hL kk)
  · exact zj_tsw z0_39 (by decide) (by decide) rfl rfl (law_card hI hi hL kk)
  · exact zj_tsw z0_39 (by decide) (by decide) rfl rfl (law_size hI hi hL kk)
  · exact zj_tsw z0_39 (by decide) (by decide) rfl rfl (law_most hI hi hL kk)
  · exact zj_tsw z0_39 (by decide) (by decide) rfl rfl (law_look hI hi hL kk)
  · exact zj_tsw z0_39 (by decide) (by decide) rfl rfl (law_hint hI hi hL kk)
  · exact zj_tsw z0_39 (by decide) (by decide) rfl rfl (law_positions hI hi hL kk)
/-- the loop over the script -/
theorem law_loop {Cb Sb : Nat} (hL : L ≤ 2147483000) : ∀ (n : Nat) (i : Int) (w : zi_W) (cn sn : Nat) (x5 x6 : Option Value), 0 ≤ i → (L : Int) < i + 5 * n + 5 → i ≤ L → lwI w → cn + n ≤ Cb → sn + 6 * n ≤ Sb → lwS L xs 23 i x5 x6 w cn sn (fun o w' cn' sn' => ∃ v, o = .inl v ∧ v = some (.int 1) ∧ cn' ≤ Cb ∧ sn' ≤ Sb) := by
  intro n
  induction n with
  | zero =>
    intro i w cn sn x5 x6 h0 h1 h2 hI hc hs
    refine zw_iload z0_23 rfl ?_
    refine zw_aload_n z0_25 rfl ?_
    refine zw_slen z0_26 ?_
    rw [iI_nat]
    refine zw_iconst z0_27 (v := iI 5) rfl ?_
    refine zj_sub z0_28 ?_
    refine zj_icmp_gt z0_29 (by omega) (by omega) (fun _ => ?_) (fun e => absurd (show (L : Int) - 5 < i by omega) e)
    refine zw_iconst z0_769 (v := iI 1) rfl ?_
    exact zw_bret z0_770 rfl (Or.inr (by decide +kernel)) ⟨_, rfl, by rw [iI_1'], by omega, by omega⟩
  | succ n ih =>
    intro i w cn sn x5 x6 h0 h1 h2 hI hc hs
    refine zw_iload z0_23 rfl ?_
    refine zw_aload_n z0_25 rfl ?_
    refine zw_slen z0_26 ?_
    rw [iI_nat]
    refine zw_iconst z0_27 (v := iI 5) rfl ?_
    refine zj_sub z0_28 ?_
    refine zj_icmp_gt z0_29 (by omega) (by omega) (fun _ => ?_) (fun e => ?_)
    · refine zw_iconst z0_769 (v := iI 1) rfl ?_
      exact zw_bret z0_770 rfl (Or.inr (by decide +kernel)) ⟨_, rfl, by rw [iI_1'], by omega, by omega⟩
    · have hL2 := hL
      have hL : L ≤ 2147483647 := by omega
      refine zw_aload_n z0_32 rfl ?_
      refine zw_iload z0_33 rfl ?_
      refine zj_sld z0_35 (by omega) hL ?_
      refine zw_bipush z0_36 (v := iI (15)) (by decide +kernel) ?_
      refine zw_iand z0_38 ?_
      obtain ⟨j, hj, ej⟩ := and15 (iI (sx xs i))
      rw [ej]
      refine law_sw hj hI (by omega) hL fun w1 cn1 sn1 y5 y6 hI1 hc1 hs1 => ?_
      refine zj_iinc z0_763 rfl rfl ?_
      refine zw_goto z0_766 ?_
      exact ih (i + 5) w1 cn1 sn1 y5 y6 (by omega) (by omega) (by omega) hI1 (by omega) (by omega)
/-- the law answers 1 -/
theorem law_all (hL : L ≤ 2147483000) : zr L xs 10 394 0 [.ref zi_X] [] 0 0 (fun v w' cn' sn' => v = some (.int 1) ∧ cn' ≤ 832 + L / 5 ∧ sn' ≤ 28286 + 6 * (L / 5)) := by
  have hX : (2000 : Nat) < zi_X := by decide
  refine ⟨_, rfl, ?_⟩
  show zw _ _ _ _ 0 0 [some (.ref zi_X), none, none, none, none, none, none] [] _ _ _ _
  refine zk_new (n := 0) z0_0 rfl rfl (by omega) (fun w1 n1 => ?_)
  refine zw_dup z0_3 rfl ?_
  refine zw_ci (n := 1) z0_4 rfl rfl (Nat.le_of_ble_eq_true rfl) (by omega) (sp_pInit n1.2.1 n1.1 rfl (by omega) (by omega)) (fun v w2 cn2 sn2 h => ?_)
  obtain ⟨rfl, rfl, rfl, l2, p2⟩ := h
  refine zw_astore_n z0_7 rfl ?_
  refine zk_new (n := 817) z0_8 l2 rfl (by omega) (fun w3 n3 => ?_)
  refine zw_dup z0_11 rfl ?_
  refine zw_ci (n := 1) z0_12 rfl rfl (Nat.le_of_ble_eq_true rfl) (by omega) (sp_mInit n3.2.1 n3.1 rfl (by omega) (by omega)) (fun v w4 cn4 sn4 h => ?_)
  obtain ⟨rfl, rfl, rfl, l4, m4, k4⟩ := h
  refine zw_astore_n z0_15 rfl ?_
  refine zw_iconst z0_16 (v := iI 1) rfl ?_
  refine zw_newJ (n := 1) z0_17 (by decide +kernel) ⟨l4.symm, by omega, by decide +kernel, by omega⟩ ?_
  rw [l4]
  have get : ∀ j, j < 831 → zi_get (w4 ++ [.inl (2, 1, .inr (.inl (fun _ => 0)))]) j = zi_get w4 j := fun j hj => by
    unfold zi_get
    rw [List.getElem?_append_left (by omega)]
  have p4 : ptA (w4 ++ [.inl (2, 1, .inr (.inl (fun _ => 0)))]) T0 := p2.keep fun j hj => (get j (by omega)).trans ((k4 j (by omega)).trans (n3.2.2 j (by omega)))
  have q4 : moA (w4 ++ [.inl (2, 1, .inr (.inl (fun _ => 0)))]) G0 N0 A0 := m4.keep fun j h1 h2 => get j (by omega)
  have o4 : ouA (w4 ++ [.inl (2, 1, .inr (.inl (fun _ => 0)))]) (fun _ => 0) := by
    show zi_get _ 831 = _
    unfold zi_get
    rw [List.getElem?_append_right (by omega), l4]
    rfl
  refine zw_astore_n z0_19 rfl ?_
  refine zw_iconst z0_20 (v := iI 0) rfl ?_
  refine zw_istore z0_21 rfl ?_
  refine (law_loop (Cb := 832 + L / 5) (Sb := 28286 + 6 * (L / 5)) hL (L / 5) 0 _ _ _ _ _ (by omega) (by omega) (by omega) ⟨T0, N0, A0, _, RT0, p4, q4, o4⟩ (by omega) (by omega)).mono fun o w' cn' sn' h => ?_
  obtain ⟨v, h1, h2⟩ := h
  exact ⟨v, h1, h2⟩
end ZLX
