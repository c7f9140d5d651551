/-! New objects. (Laid out by gen/tpl.py from tpl/77.init.tpl.) -/
theorem zi_get_new {w : zi_W} {n : Nat} {c : va_E} (hl : w.length = n) (hn : n < zi_X) : zi_get (w ++ [c]) n = some c := by
  subst hl
  unfold zi_get
  rw [if_neg (by omega)]
  simp
theorem zi_get_old {w : zi_W} {n j : Nat} {c : va_E} (hl : w.length = n) (hj : j < n) : zi_get (w ++ [c]) j = zi_get w j := by
  subst hl
  unfold zi_get
  split
  · rfl
  · exact List.getElem?_append_left hj
/-- a cell more: c at place n -/
def zN (n : Nat) (c : va_E) (w w' : zi_W) : Prop := w'.length = n + 1 ∧ zi_get w' n = some c ∧ ∀ j, j < n → zi_get w' j = zi_get w j
theorem iA_0 : (fun _ => (0 : Int32)) = iA (fun _ => 0) := by
  funext j
  exact iI_0.symm
section ZIN
variable {L : Nat} {xs : Nat → Int32} {d q k pc p n : Nat} {ls : zi_L} {st : List Value} {w : zi_W} {cn sn : Nat} {Q : zi_O → zi_W → Nat → Nat → Prop}
theorem zk_new {c z : Nat} (hc : za_n k pc c z p) (hl : w.length = n) (hcn : cn = n) (hn : n < zi_X) (kk : ∀ w', zN n (.inr (c, zi_fs0 zp c)) w w' → zw L xs d q k p ls (.ref n :: st) w' (n + 1) (sn + z) Q) : zw L xs d q k pc ls st w cn sn Q := by
  subst hcn
  have := kk _ ⟨by rw [List.length_append, hl]; rfl, zi_get_new hl hn, fun j hj => zi_get_old hl hj⟩
  subst hl
  exact zw_new hc ⟨rfl, hn⟩ this
theorem zk_newI {m : Nat} {z : Int} (hc : za k pc (.newarray .int) p) (hz : z = m) (hm : m ≤ 65536) (hl : w.length = n) (hcn : cn = n) (hn : n < zi_X) (kk : ∀ w', zN n (.inl (0, m, .inl (iA (fun _ => 0)))) w w' → zw L xs d q k p ls (.ref n :: st) w' (n + 1) (sn + m) Q) : zw L xs d q k pc ls (iV z :: st) w cn sn Q := by
  subst hcn
  have := kk _ ⟨by rw [List.length_append, hl]; rfl, zi_get_new hl hn, fun j hj => zi_get_old hl hj⟩
  subst hl
  rw [← iA_0] at this
  exact zw_newI hc (by rw [iI_clamp (by omega)]; omega) ⟨rfl, hn, by rw [← iI_0, iI_lt (by omega) (by omega)]; omega, hm⟩ this
theorem zk_newZ {m : Nat} {z : Int} (hc : za k pc (.newarray .boolean) p) (hz : z = m) (hm : m ≤ 65536) (hl : w.length = n) (hcn : cn = n) (hn : n < zi_X) (kk : ∀ w', zN n (.inl (1, m, .inl (iA (fun _ => 0)))) w w' → zw L xs d q k p ls (.ref n :: st) w' (n + 1) (sn + m) Q) : zw L xs d q k pc ls (iV z :: st) w cn sn Q := by
  subst hcn
  have := kk _ ⟨by rw [List.length_append, hl]; rfl, zi_get_new hl hn, fun j hj => zi_get_old hl hj⟩
  subst hl
  rw [← iA_0] at this
  exact zw_newZ hc (by rw [iI_clamp (by omega)]; omega) ⟨rfl, hn, by rw [← iI_0, iI_lt (by omega) (by omega)]; omega, hm⟩ this
abbrev G0 : Nat → Int := iU (iU (iU (iU (iU (iU (fun _ => 0) 0 8) 1 4) 2 0) 3 0) 4 4) 5 13
theorem sp_gInit {g : Nat} {fs : List Value} (h0 : zi_get w g = some (.inr (1, fs))) (hf : fs.length = 6) (hd : 1 ≤ d) (hq : 20 ≤ q) : zr L xs d q 28 [.ref g] w cn sn (fun r w' cn' sn' => r = none ∧ cn' = cn ∧ sn' = sn ∧ gmA w' g G0 ∧ zF (fun j => j = g) w w') := by
  obtain ⟨a, b, c, e, f, h, rfl⟩ : ∃ a b c e f h, fs = [a, b, c, e, f, h] := by
    match fs, hf with
    | [a, b, c, e, f, h], _ => exact ⟨a, b, c, e, f, h, rfl⟩
  have z0 : zF (fun j => j = g) w w := zF.rf
  refine ⟨_, rfl, ?_⟩
  show zw _ _ _ _ 28 0 [some (.ref g)] [] _ _ _ _
  refine zw_aload_n z28_0 rfl ?_
  refine zw_obj z28_1 (Nat.le_of_ble_eq_true rfl) hd hq ?_
  refine zw_aload_n z28_4 rfl ?_
  refine zw_bipush z28_5 (v := iI (8)) (by decide +kernel) ?_
  refine zj_putf z28_7 h0 (Nat.le_of_ble_eq_true rfl) (by rfl) (fun w1 n1 f1 => ?_)
  refine zw_aload_n z28_10 rfl ?_
  refine zw_iconst z28_11 (v := iI 4) rfl ?_
  refine zj_putf z28_12 n1 (Nat.le_of_ble_eq_true rfl) (by rfl) (fun w2 n2 f2 => ?_)
  refine zw_aload_n z28_15 rfl ?_
  refine zw_iconst z28_16 (v := iI 0) rfl ?_
  refine zj_putf z28_17 n2 (Nat.le_of_ble_eq_true rfl) (by rfl) (fun w3 n3 f3 => ?_)
  refine zw_aload_n z28_20 rfl ?_
  refine zw_iconst z28_21 (v := iI 0) rfl ?_
  refine zj_putf z28_22 n3 (Nat.le_of_ble_eq_true rfl) (by rfl) (fun w4 n4 f4 => ?_)
  refine zw_aload_n z28_25 rfl ?_
  refine zw_iconst z28_26 (v := iI 4) rfl ?_
  refine zj_putf z28_27 n4 (Nat.le_of_ble_eq_true rfl) (by rfl) (fun w5 n5 f5 => ?_)
  refine zw_aload_n z28_30 rfl ?_
  refine zw_bipush z28_31 (v := iI (13)) (by decide +kernel) ?_
  refine zj_putf z28_33 n5 (Nat.le_of_ble_eq_true rfl) (by rfl) (fun w6 n6 f6 => ?_)
  exact zw_vret z28_36 rfl ⟨_, rfl, rfl, rfl, rfl, n6, (((((z0.step f1 rfl).step f2 rfl).step f3 rfl).step f4 rfl).step f5 rfl).step f6 rfl⟩
/-- a layout that is just made: its four places are a .. a + 3, all bare -/
abbrev Y0 : Nat → Nat → Int := yCl (fun _ _ => 0)
theorem zN.get {w w' : zi_W} {c : va_E} (h : zN n c w w') {j : Nat} (hj : j < n) : zi_get w' j = zi_get w j := h.2.2 j hj
theorem sp_yInit {a : Nat} (h0 : zi_get w a = some (.inr (2, zi_fs0 zp 2))) (hl : w.length = a + 1) (hcn : cn = a + 1) (hX : a + 4 < zi_X) (hd : 2 ≤ d) (hq : 43 ≤ q) : zr L xs d q 39 [.ref a, .ref 1] w cn sn (fun r w' cn' sn' => r = none ∧ cn' = a + 4 ∧ sn' = sn + 68 ∧ w'.length = a + 4 ∧ lyY w' a Y0 ∧ ∀ j, j < a → zi_get w' j = zi_get w j) := by
  obtain ⟨d, rfl⟩ : ∃ e, d = e + 1 := ⟨d - 1, by omega⟩
  have h0 : zi_get w a = some (.inr (2, [.null, .null, .null, .null, iV 0, iV 0])) := by rw [h0, show iV 0 = Value.int 0 from congrArg Value.int iI_0]; rfl
  refine ⟨_, rfl, ?_⟩
  show zw _ _ _ _ 39 0 [some (.ref a), some (.ref 1)] [] _ _ _ _
  refine zw_aload_n z39_0 rfl ?_
  refine zw_obj z39_1 (Nat.le_of_ble_eq_true rfl) (by omega) (by omega) ?_
  refine zw_aload_n z39_4 rfl ?_
  refine zw_bipush z39_5 (v := iI (52)) (by decide +kernel) ?_
  refine zk_newI (m := 52) z39_7 rfl (by decide) hl hcn (by omega) (fun w1 n1 => ?_)
  have o1 := (n1.get (show a < a + 1 by omega)).trans h0
  refine zj_putf z39_9 o1 (Nat.le_of_ble_eq_true rfl) (by rfl) (fun w2 o2 f2 => ?_)
  refine zw_aload_n z39_12 rfl ?_
  refine zw_bipush z39_13 (v := iI (12)) (by decide +kernel) ?_
  refine zk_newI (m := 12) (n := a + 1 + 1) z39_15 rfl (by decide) (f2.1.trans n1.1) rfl (by omega) (fun w3 n3 => ?_)
  have o3 := (n3.get (show a < a + 1 + 1 by omega)).trans o2
  refine zj_putf z39_17 o3 (Nat.le_of_ble_eq_true rfl) (by rfl) (fun w4 o4 f4 => ?_)
  refine zw_aload_n z39_20 rfl ?_
  refine zw_iconst z39_21 (v := iI 4) rfl ?_
  refine zk_newI (m := 4) (n := a + 1 + 1 + 1) z39_22 rfl (by decide) (f4.1.trans n3.1) rfl (by omega) (fun w5 n5 => ?_)
  have o5 := (n5.get (show a < a + 1 + 1 + 1 by omega)).trans o4
  refine zj_putf z39_24 o5 (Nat.le_of_ble_eq_true rfl) (by rfl) (fun w6 o6 f6 => ?_)
  refine zw_aload_n z39_27 rfl ?_
  refine zw_aload_n z39_28 rfl ?_
  refine zj_putf z39_29 o6 (Nat.le_of_ble_eq_true rfl) (by rfl) (fun w7 o7 f7 => ?_)
  have k7 : ∀ j, j < a → zi_get w7 j = zi_get w j := fun j hj => (f7.2 j (by omega)).trans ((f6.2 j (by omega)).trans ((n5.get (by omega)).trans ((f4.2 j (by omega)).trans ((n3.get (by omega)).trans ((f2.2 j (by omega)).trans (n1.get (by omega)))))))
  have r1 : zi_get w7 (a + 1) = some (.inl (0, 52, .inl (iA (fun _ => 0)))) := (f7.2 _ (by omega)).trans ((f6.2 _ (by omega)).trans ((n5.get (by omega)).trans ((f4.2 _ (by omega)).trans ((n3.get (by omega)).trans ((f2.2 _ (by omega)).trans n1.2.1)))))
  have r2 : zi_get w7 (a + 2) = some (.inl (0, 12, .inl (iA (fun _ => 0)))) := (f7.2 _ (by omega)).trans ((f6.2 _ (by omega)).trans ((n5.get (by omega)).trans ((f4.2 _ (by omega)).trans n3.2.1)))
  have r3 : zi_get w7 (a + 3) = some (.inl (0, 4, .inl (iA (fun _ => 0)))) := (f7.2 _ (by omega)).trans ((f6.2 _ (by omega)).trans n5.2.1)
  have hy : lyA w7 a (fun _ => 0) (fun _ => 0) (fun _ => 0) 0 0 := ⟨o7, r1, r2, r3⟩
  refine zw_aload_n z39_32 rfl ?_
  refine zw_cv (n := 1) z39_33 rfl rfl o7 (Nat.le_of_ble_eq_true rfl) (by omega) (sp_takeAllUp hy (by omega) (by omega)) (fun v w8 cn8 sn8 h => ?_)
  obtain ⟨rfl, rfl, rfl, hy8, f8⟩ := h
  exact zw_vret z39_36 rfl ⟨_, rfl, rfl, rfl, by omega, by rw [f8.1, f7.1, f6.1, n5.1], hy8, fun j hj => (f8.2 j (by omega)).trans (k7 j hj)⟩
end ZIN
