/-! New objects: Log, Search. (Laid out by gen/tpl.py from tpl/78.init.tpl.) -/
section ZIO
variable {L : Nat} {xs : Nat → Int32} {d q k pc p n : Nat} {ls : zi_L} {st : List Value} {w : zi_W} {cn sn : Nat} {Q : zi_O → zi_W → Nat → Nat → Prop}
abbrev P0 : Nat → Nat → Int := fun _ _ => 0
theorem sp_oInit (h0 : zi_get w 6 = some (.inr (3, zi_fs0 zp 3))) (hl : w.length = 7) (hcn : cn = 7) (hd : 1 ≤ d) (hq : 20 ≤ q) : zr L xs d q 63 [.ref 6] w cn sn (fun r w' cn' sn' => r = none ∧ cn' = 11 ∧ sn' = sn + 240 ∧ w'.length = 11 ∧ lgP w' P0 ∧ ∀ j, j < 6 → zi_get w' j = zi_get w j) := by
  have hX : (20 : Nat) < zi_X := by decide
  have h0 : zi_get w 6 = some (.inr (3, [.null, .null, .null, .null, iV 0, iV 0])) := by rw [h0, show iV 0 = Value.int 0 from congrArg Value.int iI_0]; rfl
  refine ⟨_, rfl, ?_⟩
  show zw _ _ _ _ 63 0 [some (.ref 6)] [] _ _ _ _
  refine zw_aload_n z63_0 rfl ?_
  refine zw_obj z63_1 (Nat.le_of_ble_eq_true rfl) hd hq ?_
  refine zw_aload_n z63_4 rfl ?_
  refine zw_bipush z63_5 (v := iI (60)) (by decide +kernel) ?_
  refine zk_newI (m := 60) (n := 7) z63_7 rfl (by decide) hl hcn (by omega) (fun w1 n1 => ?_)
  have o1 := (n1.get (show 6 < 7 by omega)).trans h0
  refine zj_putf z63_9 o1 (Nat.le_of_ble_eq_true rfl) (by rfl) (fun w2 o2 f2 => ?_)
  refine zw_aload_n z63_12 rfl ?_
  refine zw_bipush z63_13 (v := iI (60)) (by decide +kernel) ?_
  refine zk_newI (m := 60) (n := 8) z63_15 rfl (by decide) (f2.1.trans n1.1) rfl (by omega) (fun w3 n3 => ?_)
  have o3 := (n3.get (show 6 < 8 by omega)).trans o2
  refine zj_putf z63_17 o3 (Nat.le_of_ble_eq_true rfl) (by rfl) (fun w4 o4 f4 => ?_)
  refine zw_aload_n z63_20 rfl ?_
  refine zw_bipush z63_21 (v := iI (60)) (by decide +kernel) ?_
  refine zk_newI (m := 60) (n := 9) z63_23 rfl (by decide) (f4.1.trans n3.1) rfl (by omega) (fun w5 n5 => ?_)
  have o5 := (n5.get (show 6 < 9 by omega)).trans o4
  refine zj_putf z63_25 o5 (Nat.le_of_ble_eq_true rfl) (by rfl) (fun w6 o6 f6 => ?_)
  refine zw_aload_n z63_28 rfl ?_
  refine zw_bipush z63_29 (v := iI (60)) (by decide +kernel) ?_
  refine zk_newI (m := 60) (n := 10) z63_31 rfl (by decide) (f6.1.trans n5.1) rfl (by omega) (fun w7 n7 => ?_)
  have o7 := (n7.get (show 6 < 10 by omega)).trans o6
  refine zj_putf z63_33 o7 (Nat.le_of_ble_eq_true rfl) (by rfl) (fun w8 o8 f8 => ?_)
  refine zw_aload_n z63_36 rfl ?_
  refine zw_iconst z63_37 (v := iI 0) rfl ?_
  refine zj_putf z63_38 o8 (Nat.le_of_ble_eq_true rfl) (by rfl) (fun w9 o9 f9 => ?_)
  refine zw_aload_n z63_41 rfl ?_
  refine zw_iconst z63_42 (v := iI 0) rfl ?_
  refine zj_putf z63_43 o9 (Nat.le_of_ble_eq_true rfl) (by rfl) (fun wa oa fa => ?_)
  have t7 : zi_get wa 7 = some (.inl (0, 60, .inl (iA (fun _ => 0)))) := (fa.2 _ (by omega)).trans ((f9.2 _ (by omega)).trans ((f8.2 _ (by omega)).trans ((n7.get (by omega)).trans ((f6.2 _ (by omega)).trans ((n5.get (by omega)).trans ((f4.2 _ (by omega)).trans ((n3.get (by omega)).trans ((f2.2 _ (by omega)).trans n1.2.1))))))))
  have t8 : zi_get wa 8 = some (.inl (0, 60, .inl (iA (fun _ => 0)))) := (fa.2 _ (by omega)).trans ((f9.2 _ (by omega)).trans ((f8.2 _ (by omega)).trans ((n7.get (by omega)).trans ((f6.2 _ (by omega)).trans ((n5.get (by omega)).trans ((f4.2 _ (by omega)).trans n3.2.1))))))
  have t9 : zi_get wa 9 = some (.inl (0, 60, .inl (iA (fun _ => 0)))) := (fa.2 _ (by omega)).trans ((f9.2 _ (by omega)).trans ((f8.2 _ (by omega)).trans ((n7.get (by omega)).trans ((f6.2 _ (by omega)).trans n5.2.1))))
  have t10 : zi_get wa 10 = some (.inl (0, 60, .inl (iA (fun _ => 0)))) := (fa.2 _ (by omega)).trans ((f9.2 _ (by omega)).trans ((f8.2 _ (by omega)).trans n7.2.1))
  exact zw_vret z63_46 rfl ⟨_, rfl, rfl, rfl, by omega, by rw [fa.1, f9.1, f8.1, n7.1], ⟨oa, t7, t8, t9, t10⟩, fun j hj => (fa.2 _ (by omega)).trans ((f9.2 _ (by omega)).trans ((f8.2 _ (by omega)).trans ((n7.get (by omega)).trans ((f6.2 _ (by omega)).trans ((n5.get (by omega)).trans ((f4.2 _ (by omega)).trans ((n3.get (by omega)).trans ((f2.2 _ (by omega)).trans (n1.get (by omega))))))))))⟩
end ZIO
