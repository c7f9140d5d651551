/-! New objects: the reference. (Laid out by gen/tpl.py from tpl/79b.init.tpl, which gen/mk79b.py writes.) -/
section ZIM
variable {L : Nat} {xs : Nat → Int32} {d q k pc p n : Nat} {ls : zi_L} {st : List Value} {w : zi_W} {cn sn : Nat} {Q : zi_O → zi_W → Nat → Nat → Prop}
abbrev N0 : Nat → Int := mWN (iU (fun _ => 0) 2 (-1))
abbrev A0 : Nat → Nat → Int := mWA (fun _ _ => 0)
theorem sp_mInit (h0 : zi_get w 817 = some (.inr (5, zi_fs0 zp 5))) (hl : w.length = 818) (hcn : cn = 818) (hd : 2 ≤ d) (hq : 41 ≤ q) : zr L xs d q 76 [.ref 817] w cn sn (fun r w' cn' sn' => r = none ∧ cn' = 831 ∧ sn' = sn + 11950 ∧ w'.length = 831 ∧ moA w' G0 N0 A0 ∧ ∀ j, j < 817 → zi_get w' j = zi_get w j) := by
  obtain ⟨d, rfl⟩ : ∃ e, d = e + 1 := ⟨d - 1, by omega⟩
  have hX : (2000 : Nat) < zi_X := by decide
  have h0 : zi_get w 817 = some (.inr (5, [iV 0, iV 0, iV 0, iV 0, iV 0, iV 0, iV 0, .null, .null, .null, .null, .null, .null, iV 0, .null, iV 0, iV 0, .null, .null, .null, .null, iV 0, iV 0, iV 0, iV 0, .null, iV 0, iV 0, .null])) := by rw [h0, show iV 0 = Value.int 0 from congrArg Value.int iI_0]; rfl
  refine ⟨_, rfl, ?_⟩
  show zw _ _ _ _ 76 0 [some (.ref 817)] [] _ _ _ _
  refine zw_aload_n z76_0 rfl ?_
  refine zw_obj z76_1 (Nat.le_of_ble_eq_true rfl) (by omega) (by omega) ?_
  refine zw_aload_n z76_4 rfl ?_
  refine zw_bipush z76_5 (v := iI (8)) (by decide +kernel) ?_
  refine zj_putf z76_7 h0 (Nat.le_of_ble_eq_true rfl) (by rfl) (fun w7 o7 f7 => ?_)
  refine zw_aload_n z76_10 rfl ?_
  refine zw_iconst z76_11 (v := iI 4) rfl ?_
  refine zj_putf z76_12 o7 (Nat.le_of_ble_eq_true rfl) (by rfl) (fun w12 o12 f12 => ?_)
  refine zw_aload_n z76_15 rfl ?_
  refine zw_iconst z76_16 (v := iI 4) rfl ?_
  refine zj_putf z76_17 o12 (Nat.le_of_ble_eq_true rfl) (by rfl) (fun w17 o17 f17 => ?_)
  refine zw_aload_n z76_20 rfl ?_
  refine zw_bipush z76_21 (v := iI (13)) (by decide +kernel) ?_
  refine zj_putf z76_23 o17 (Nat.le_of_ble_eq_true rfl) (by rfl) (fun w23 o23 f23 => ?_)
  refine zw_aload_n z76_26 rfl ?_
  refine zw_sipush z76_27 (v := iI (416)) (by decide +kernel) ?_
  refine zk_newI (m := 416) (n := 818) z76_30 rfl (by decide) (by rw [f23.1, f17.1, f12.1, f7.1, hl]) hcn (by omega) (fun w30 n30 => ?_)
  have o30 := (n30.get (show 817 < 818 by omega)).trans o23
  refine zj_putf z76_32 o30 (Nat.le_of_ble_eq_true rfl) (by rfl) (fun w32 o32 f32 => ?_)
  refine zw_aload_n z76_35 rfl ?_
  refine zw_bipush z76_36 (v := iI (8)) (by decide +kernel) ?_
  refine zk_newI (m := 8) (n := 819) z76_38 rfl (by decide) (by rw [f32.1, n30.1]) rfl (by omega) (fun w38 n38 => ?_)
  have o38 := (n38.get (show 817 < 819 by omega)).trans o32
  refine zj_putf z76_40 o38 (Nat.le_of_ble_eq_true rfl) (by rfl) (fun w40 o40 f40 => ?_)
  refine zw_aload_n z76_43 rfl ?_
  refine zw_iconst z76_44 (v := iI 4) rfl ?_
  refine zk_newI (m := 4) (n := 820) z76_45 rfl (by decide) (by rw [f40.1, n38.1]) rfl (by omega) (fun w45 n45 => ?_)
  have o45 := (n45.get (show 817 < 820 by omega)).trans o40
  refine zj_putf z76_47 o45 (Nat.le_of_ble_eq_true rfl) (by rfl) (fun w47 o47 f47 => ?_)
  refine zw_aload_n z76_50 rfl ?_
  refine zw_iconst z76_51 (v := iI 4) rfl ?_
  refine zk_newI (m := 4) (n := 821) z76_52 rfl (by decide) (by rw [f47.1, n45.1]) rfl (by omega) (fun w52 n52 => ?_)
  have o52 := (n52.get (show 817 < 821 by omega)).trans o47
  refine zj_putf z76_54 o52 (Nat.le_of_ble_eq_true rfl) (by rfl) (fun w54 o54 f54 => ?_)
  refine zw_aload_n z76_57 rfl ?_
  refine zw_bipush z76_58 (v := iI (52)) (by decide +kernel) ?_
  refine zk_newZ (m := 52) (n := 822) z76_60 rfl (by decide) (by rw [f54.1, n52.1]) rfl (by omega) (fun w60 n60 => ?_)
  have o60 := (n60.get (show 817 < 822 by omega)).trans o54
  refine zj_putf z76_62 o60 (Nat.le_of_ble_eq_true rfl) (by rfl) (fun w62 o62 f62 => ?_)
  refine zw_aload_n z76_65 rfl ?_
  refine zw_bipush z76_66 (v := iI (52)) (by decide +kernel) ?_
  refine zk_newI (m := 52) (n := 823) z76_68 rfl (by decide) (by rw [f62.1, n60.1]) rfl (by omega) (fun w68 n68 => ?_)
  have o68 := (n68.get (show 817 < 823 by omega)).trans o62
  refine zj_putf z76_70 o68 (Nat.le_of_ble_eq_true rfl) (by rfl) (fun w70 o70 f70 => ?_)
  refine zw_aload_n z76_73 rfl ?_
  refine zw_sipush z76_74 (v := iI (240)) (by decide +kernel) ?_
  refine zk_newI (m := 240) (n := 824) z76_77 rfl (by decide) (by rw [f70.1, n68.1]) rfl (by omega) (fun w77 n77 => ?_)
  have o77 := (n77.get (show 817 < 824 by omega)).trans o70
  refine zj_putf z76_79 o77 (Nat.le_of_ble_eq_true rfl) (by rfl) (fun w79 o79 f79 => ?_)
  refine zw_aload_n z76_82 rfl ?_
  refine zw_iconst z76_83 (v := iI (-1)) rfl ?_
  refine zj_putf z76_84 o79 (Nat.le_of_ble_eq_true rfl) (by rfl) (fun w84 o84 f84 => ?_)
  refine zw_aload_n z76_87 rfl ?_
  refine zw_sipush z76_88 (v := iI (10504)) (by decide +kernel) ?_
  refine zk_newI (m := 10504) (n := 825) z76_91 rfl (by decide) (by rw [f84.1, f79.1, n77.1]) rfl (by omega) (fun w91 n91 => ?_)
  have o91 := (n91.get (show 817 < 825 by omega)).trans o84
  refine zj_putf z76_93 o91 (Nat.le_of_ble_eq_true rfl) (by rfl) (fun w93 o93 f93 => ?_)
  refine zw_aload_n z76_96 rfl ?_
  refine zw_sipush z76_97 (v := iI (202)) (by decide +kernel) ?_
  refine zk_newI (m := 202) (n := 826) z76_100 rfl (by decide) (by rw [f93.1, n91.1]) rfl (by omega) (fun w100 n100 => ?_)
  have o100 := (n100.get (show 817 < 826 by omega)).trans o93
  refine zj_putf z76_102 o100 (Nat.le_of_ble_eq_true rfl) (by rfl) (fun w102 o102 f102 => ?_)
  refine zw_aload_n z76_105 rfl ?_
  refine zw_sipush z76_106 (v := iI (202)) (by decide +kernel) ?_
  refine zk_newZ (m := 202) (n := 827) z76_109 rfl (by decide) (by rw [f102.1, n100.1]) rfl (by omega) (fun w109 n109 => ?_)
  have o109 := (n109.get (show 817 < 827 by omega)).trans o102
  refine zj_putf z76_111 o109 (Nat.le_of_ble_eq_true rfl) (by rfl) (fun w111 o111 f111 => ?_)
  refine zw_aload_n z76_114 rfl ?_
  refine zw_sipush z76_115 (v := iI (210)) (by decide +kernel) ?_
  refine zk_newI (m := 210) (n := 828) z76_118 rfl (by decide) (by rw [f111.1, n109.1]) rfl (by omega) (fun w118 n118 => ?_)
  have o118 := (n118.get (show 817 < 828 by omega)).trans o111
  refine zj_putf z76_120 o118 (Nat.le_of_ble_eq_true rfl) (by rfl) (fun w120 o120 f120 => ?_)
  refine zw_aload_n z76_123 rfl ?_
  refine zw_iconst z76_124 (v := iI 4) rfl ?_
  refine zk_newI (m := 4) (n := 829) z76_125 rfl (by decide) (by rw [f120.1, n118.1]) rfl (by omega) (fun w125 n125 => ?_)
  have o125 := (n125.get (show 817 < 829 by omega)).trans o120
  refine zj_putf z76_127 o125 (Nat.le_of_ble_eq_true rfl) (by rfl) (fun w127 o127 f127 => ?_)
  refine zw_aload_n z76_130 rfl ?_
  refine zw_bipush z76_131 (v := iI (52)) (by decide +kernel) ?_
  refine zk_newZ (m := 52) (n := 830) z76_133 rfl (by decide) (by rw [f127.1, n125.1]) rfl (by omega) (fun w133 n133 => ?_)
  have o133 := (n133.get (show 817 < 830 by omega)).trans o127
  refine zj_putf z76_135 o133 (Nat.le_of_ble_eq_true rfl) (by rfl) (fun w135 o135 f135 => ?_)
  have t818 : zi_get w135 818 = some (.inl (0, 416, .inl (iA (fun _ => 0)))) := (f135.2 _ (by omega)).trans ((n133.get (by omega)).trans ((f127.2 _ (by omega)).trans ((n125.get (by omega)).trans ((f120.2 _ (by omega)).trans ((n118.get (by omega)).trans ((f111.2 _ (by omega)).trans ((n109.get (by omega)).trans ((f102.2 _ (by omega)).trans ((n100.get (by omega)).trans ((f93.2 _ (by omega)).trans ((n91.get (by omega)).trans ((f84.2 _ (by omega)).trans ((f79.2 _ (by omega)).trans ((n77.get (by omega)).trans ((f70.2 _ (by omega)).trans ((n68.get (by omega)).trans ((f62.2 _ (by omega)).trans ((n60.get (by omega)).trans ((f54.2 _ (by omega)).trans ((n52.get (by omega)).trans ((f47.2 _ (by omega)).trans ((n45.get (by omega)).trans ((f40.2 _ (by omega)).trans ((n38.get (by omega)).trans ((f32.2 _ (by omega)).trans (n30.2.1))))))))))))))))))))))))))
  have t819 : zi_get w135 819 = some (.inl (0, 8, .inl (iA (fun _ => 0)))) := (f135.2 _ (by omega)).trans ((n133.get (by omega)).trans ((f127.2 _ (by omega)).trans ((n125.get (by omega)).trans ((f120.2 _ (by omega)).trans ((n118.get (by omega)).trans ((f111.2 _ (by omega)).trans ((n109.get (by omega)).trans ((f102.2 _ (by omega)).trans ((n100.get (by omega)).trans ((f93.2 _ (by omega)).trans ((n91.get (by omega)).trans ((f84.2 _ (by omega)).trans ((f79.2 _ (by omega)).trans ((n77.get (by omega)).trans ((f70.2 _ (by omega)).trans ((n68.get (by omega)).trans ((f62.2 _ (by omega)).trans ((n60.get (by omega)).trans ((f54.2 _ (by omega)).trans ((n52.get (by omega)).trans ((f47.2 _ (by omega)).trans ((n45.get (by omega)).trans ((f40.2 _ (by omega)).trans (n38.2.1))))))))))))))))))))))))
  have t820 : zi_get w135 820 = some (.inl (0, 4, .inl (iA (fun _ => 0)))) := (f135.2 _ (by omega)).trans ((n133.get (by omega)).trans ((f127.2 _ (by omega)).trans ((n125.get (by omega)).trans ((f120.2 _ (by omega)).trans ((n118.get (by omega)).trans ((f111.2 _ (by omega)).trans ((n109.get (by omega)).trans ((f102.2 _ (by omega)).trans ((n100.get (by omega)).trans ((f93.2 _ (by omega)).trans ((n91.get (by omega)).trans ((f84.2 _ (by omega)).trans ((f79.2 _ (by omega)).trans ((n77.get (by omega)).trans ((f70.2 _ (by omega)).trans ((n68.get (by omega)).trans ((f62.2 _ (by omega)).trans ((n60.get (by omega)).trans ((f54.2 _ (by omega)).trans ((n52.get (by omega)).trans ((f47.2 _ (by omega)).trans (n45.2.1))))))))))))))))))))))
  have t821 : zi_get w135 821 = some (.inl (0, 4, .inl (iA (fun _ => 0)))) := (f135.2 _ (by omega)).trans ((n133.get (by omega)).trans ((f127.2 _ (by omega)).trans ((n125.get (by omega)).trans ((f120.2 _ (by omega)).trans ((n118.get (by omega)).trans ((f111.2 _ (by omega)).trans ((n109.get (by omega)).trans ((f102.2 _ (by omega)).trans ((n100.get (by omega)).trans ((f93.2 _ (by omega)).trans ((n91.get (by omega)).trans ((f84.2 _ (by omega)).trans ((f79.2 _ (by omega)).trans ((n77.get (by omega)).trans ((f70.2 _ (by omega)).trans ((n68.get (by omega)).trans ((f62.2 _ (by omega)).trans ((n60.get (by omega)).trans ((f54.2 _ (by omega)).trans (n52.2.1))))))))))))))))))))
  have t822 : zi_get w135 822 = some (.inl (1, 52, .inl (iA (fun _ => 0)))) := (f135.2 _ (by omega)).trans ((n133.get (by omega)).trans ((f127.2 _ (by omega)).trans ((n125.get (by omega)).trans ((f120.2 _ (by omega)).trans ((n118.get (by omega)).trans ((f111.2 _ (by omega)).trans ((n109.get (by omega)).trans ((f102.2 _ (by omega)).trans ((n100.get (by omega)).trans ((f93.2 _ (by omega)).trans ((n91.get (by omega)).trans ((f84.2 _ (by omega)).trans ((f79.2 _ (by omega)).trans ((n77.get (by omega)).trans ((f70.2 _ (by omega)).trans ((n68.get (by omega)).trans ((f62.2 _ (by omega)).trans (n60.2.1))))))))))))))))))
  have t823 : zi_get w135 823 = some (.inl (0, 52, .inl (iA (fun _ => 0)))) := (f135.2 _ (by omega)).trans ((n133.get (by omega)).trans ((f127.2 _ (by omega)).trans ((n125.get (by omega)).trans ((f120.2 _ (by omega)).trans ((n118.get (by omega)).trans ((f111.2 _ (by omega)).trans ((n109.get (by omega)).trans ((f102.2 _ (by omega)).trans ((n100.get (by omega)).trans ((f93.2 _ (by omega)).trans ((n91.get (by omega)).trans ((f84.2 _ (by omega)).trans ((f79.2 _ (by omega)).trans ((n77.get (by omega)).trans ((f70.2 _ (by omega)).trans (n68.2.1))))))))))))))))
  have t824 : zi_get w135 824 = some (.inl (0, 240, .inl (iA (fun _ => 0)))) := (f135.2 _ (by omega)).trans ((n133.get (by omega)).trans ((f127.2 _ (by omega)).trans ((n125.get (by omega)).trans ((f120.2 _ (by omega)).trans ((n118.get (by omega)).trans ((f111.2 _ (by omega)).trans ((n109.get (by omega)).trans ((f102.2 _ (by omega)).trans ((n100.get (by omega)).trans ((f93.2 _ (by omega)).trans ((n91.get (by omega)).trans ((f84.2 _ (by omega)).trans ((f79.2 _ (by omega)).trans (n77.2.1))))))))))))))
  have t825 : zi_get w135 825 = some (.inl (0, 10504, .inl (iA (fun _ => 0)))) := (f135.2 _ (by omega)).trans ((n133.get (by omega)).trans ((f127.2 _ (by omega)).trans ((n125.get (by omega)).trans ((f120.2 _ (by omega)).trans ((n118.get (by omega)).trans ((f111.2 _ (by omega)).trans ((n109.get (by omega)).trans ((f102.2 _ (by omega)).trans ((n100.get (by omega)).trans ((f93.2 _ (by omega)).trans (n91.2.1)))))))))))
  have t826 : zi_get w135 826 = some (.inl (0, 202, .inl (iA (fun _ => 0)))) := (f135.2 _ (by omega)).trans ((n133.get (by omega)).trans ((f127.2 _ (by omega)).trans ((n125.get (by omega)).trans ((f120.2 _ (by omega)).trans ((n118.get (by omega)).trans ((f111.2 _ (by omega)).trans ((n109.get (by omega)).trans ((f102.2 _ (by omega)).trans (n100.2.1)))))))))
  have t827 : zi_get w135 827 = some (.inl (1, 202, .inl (iA (fun _ => 0)))) := (f135.2 _ (by omega)).trans ((n133.get (by omega)).trans ((f127.2 _ (by omega)).trans ((n125.get (by omega)).trans ((f120.2 _ (by omega)).trans ((n118.get (by omega)).trans ((f111.2 _ (by omega)).trans (n109.2.1)))))))
  have t828 : zi_get w135 828 = some (.inl (0, 210, .inl (iA (fun _ => 0)))) := (f135.2 _ (by omega)).trans ((n133.get (by omega)).trans ((f127.2 _ (by omega)).trans ((n125.get (by omega)).trans ((f120.2 _ (by omega)).trans (n118.2.1)))))
  have t829 : zi_get w135 829 = some (.inl (0, 4, .inl (iA (fun _ => 0)))) := (f135.2 _ (by omega)).trans ((n133.get (by omega)).trans ((f127.2 _ (by omega)).trans (n125.2.1)))
  have t830 : zi_get w135 830 = some (.inl (1, 52, .inl (iA (fun _ => 0)))) := (f135.2 _ (by omega)).trans (n133.2.1)
  have kw : ∀ j, j < 817 → zi_get w135 j = zi_get w j := fun j hj => (f135.2 _ (by omega)).trans ((n133.get (by omega)).trans ((f127.2 _ (by omega)).trans ((n125.get (by omega)).trans ((f120.2 _ (by omega)).trans ((n118.get (by omega)).trans ((f111.2 _ (by omega)).trans ((n109.get (by omega)).trans ((f102.2 _ (by omega)).trans ((n100.get (by omega)).trans ((f93.2 _ (by omega)).trans ((n91.get (by omega)).trans ((f84.2 _ (by omega)).trans ((f79.2 _ (by omega)).trans ((n77.get (by omega)).trans ((f70.2 _ (by omega)).trans ((n68.get (by omega)).trans ((f62.2 _ (by omega)).trans ((n60.get (by omega)).trans ((f54.2 _ (by omega)).trans ((n52.get (by omega)).trans ((f47.2 _ (by omega)).trans ((n45.get (by omega)).trans ((f40.2 _ (by omega)).trans ((n38.get (by omega)).trans ((f32.2 _ (by omega)).trans ((n30.get (by omega)).trans ((f23.2 _ (by omega)).trans ((f17.2 _ (by omega)).trans ((f12.2 _ (by omega)).trans ((f7.2 _ (by omega)).trans (rfl)))))))))))))))))))))))))))))))
  have hm : moA w135 G0 (iU (fun _ => 0) 2 (-1)) (fun _ _ => 0) := ⟨o135, t818, t819, t820, t821, t822, t823, t824, t825, t826, t827, t828, t829, t830⟩
  refine zw_aload_n z76_138 rfl ?_
  refine zw_cv (n := 2) z76_139 rfl rfl o135 (Nat.le_of_ble_eq_true rfl) (by omega) (sp_mWipe hm) (fun v wz cnz snz h => ?_)
  obtain ⟨rfl, rfl, rfl, hmz, fz⟩ := h
  exact zw_vret z76_142 rfl ⟨_, rfl, rfl, rfl, by omega, by rw [fz.1]; exact (by rw [f135.1, n133.1]), hmz, fun j hj => (fz.2 j (by omega)).trans (kw j hj)⟩
end ZIM
