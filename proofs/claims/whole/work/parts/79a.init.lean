/-! New objects: the table. (Laid out by gen/tpl.py from tpl/79a.init.tpl.) -/
section ZIP
variable {L : Nat} {xs : Nat → Int32} {d q k pc p n : Nat} {ls : zi_L} {st : List Value} {w : zi_W} {cn sn : Nat} {Q : zi_O → zi_W → Nat → Nat → Prop}
abbrev T0 : TT := TT.mk G0 Y0 P0 (iU (fun _ => 0) 3 (-1), fun _ _ => 0, fun _ => Y0) (fun _ => 0) (-1)
theorem sp_pInit (h0 : zi_get w 0 = some (.inr (0, zi_fs0 zp 0))) (hl : w.length = 1) (hcn : cn = 1) (hd : 4 ≤ d) (hq : 86 ≤ q) : zr L xs d q 8 [.ref 0] w cn sn (fun r w' cn' sn' => r = none ∧ cn' = 817 ∧ sn' = sn + 6 + 6 + 68 + 6 + 240 + 10 + 1112 + 74 * 200 + 52 ∧ w'.length = 817 ∧ ptA w' T0) := by
  obtain ⟨d, rfl⟩ : ∃ e, d = e + 1 := ⟨d - 1, by omega⟩
  have hX : (2000 : Nat) < zi_X := by decide
  have h0 : zi_get w 0 = some (.inr (0, [.null, .null, .null, .null, .null, iV 0])) := by rw [h0, show iV 0 = Value.int 0 from congrArg Value.int iI_0]; rfl
  refine ⟨_, rfl, ?_⟩
  show zw _ _ _ _ 8 0 [some (.ref 0)] [] _ _ _ _
  refine zw_aload_n z8_0 rfl ?_
  refine zw_obj z8_1 (Nat.le_of_ble_eq_true rfl) (by omega) (by omega) ?_
  refine zw_aload_n z8_4 rfl ?_
  refine zk_new (n := 1) z8_5 hl hcn (by omega) (fun w1 n1 => ?_)
  have a0 := (n1.get (show 0 < 1 by omega)).trans h0
  refine zw_dup z8_8 rfl ?_
  refine zw_ci (n := 1) z8_9 rfl rfl (Nat.le_of_ble_eq_true rfl) (by omega) (sp_gInit n1.2.1 rfl (by omega) (by omega)) (fun v w2 cn2 sn2 h => ?_)
  obtain ⟨rfl, rfl, rfl, hg, f2⟩ := h
  have a0 := (f2.2 0 (by omega)).trans a0
  refine zj_putf z8_12 a0 (Nat.le_of_ble_eq_true rfl) (by rfl) (fun w3 a0 f3 => ?_)
  have hg : gmA w3 1 G0 := (f3.2 1 (by omega)).trans hg
  refine zw_aload_n z8_15 rfl ?_
  refine zk_new (n := 2) z8_16 (by rw [f3.1, f2.1, n1.1]) rfl (by omega) (fun w4 n4 => ?_)
  have a0 := (n4.get (show 0 < 2 by omega)).trans a0
  have hg : gmA w4 1 G0 := (n4.get (show 1 < 2 by omega)).trans hg
  refine zw_dup z8_19 rfl ?_
  refine zw_aload_n z8_20 rfl ?_
  refine zw_getf z8_21 (by assumption) (by rfl) ?_
  refine zw_ci (n := 2) z8_24 rfl rfl (Nat.le_of_ble_eq_true rfl) (by omega) (sp_yInit (a := 2) n4.2.1 n4.1 rfl (by omega) (by omega) (by omega)) (fun v w5 cn5 sn5 h => ?_)
  obtain ⟨rfl, rfl, rfl, l5, hy, k5⟩ := h
  have a0 := (k5 0 (by omega)).trans a0
  have hg : gmA w5 1 G0 := (k5 1 (by omega)).trans hg
  refine zj_putf z8_27 a0 (Nat.le_of_ble_eq_true rfl) (by rfl) (fun w6 a0 f6 => ?_)
  have hg : gmA w6 1 G0 := (f6.2 1 (by omega)).trans hg
  have hy : lyY w6 2 Y0 := lyA.keep hy fun j h1 h2 => f6.2 j (by omega)
  refine zw_aload_n z8_30 rfl ?_
  refine zk_new (n := 6) z8_31 (by rw [f6.1, l5]) rfl (by omega) (fun w7 n7 => ?_)
  have a0 := (n7.get (show 0 < 6 by omega)).trans a0
  have hg : gmA w7 1 G0 := (n7.get (show 1 < 6 by omega)).trans hg
  have hy : lyY w7 2 Y0 := lyA.keep hy fun j h1 h2 => n7.get (by omega)
  refine zw_dup z8_34 rfl ?_
  refine zw_ci (n := 1) z8_35 rfl rfl (Nat.le_of_ble_eq_true rfl) (by omega) (sp_oInit n7.2.1 n7.1 rfl (by omega) (by omega)) (fun v w8 cn8 sn8 h => ?_)
  obtain ⟨rfl, rfl, rfl, l8, hp, k8⟩ := h
  have a0 := (k8 0 (by omega)).trans a0
  have hg : gmA w8 1 G0 := (k8 1 (by omega)).trans hg
  have hy : lyY w8 2 Y0 := lyA.keep hy fun j h1 h2 => k8 j (by omega)
  refine zj_putf z8_38 a0 (Nat.le_of_ble_eq_true rfl) (by rfl) (fun w9 a0 f9 => ?_)
  have hg : gmA w9 1 G0 := (f9.2 1 (by omega)).trans hg
  have hy : lyY w9 2 Y0 := lyA.keep hy fun j h1 h2 => f9.2 j (by omega)
  have hp : lgP w9 P0 := lgA.keep hp fun j h1 h2 => f9.2 j (by omega)
  refine zw_aload_n z8_41 rfl ?_
  refine zk_new (n := 11) z8_42 (by rw [f9.1, l8]) rfl (by omega) (fun wa na => ?_)
  have a0 := (na.get (show 0 < 11 by omega)).trans a0
  have hg : gmA wa 1 G0 := (na.get (show 1 < 11 by omega)).trans hg
  have hy : lyY wa 2 Y0 := lyA.keep hy fun j h1 h2 => na.get (by omega)
  have hp : lgP wa P0 := lgA.keep hp fun j h1 h2 => na.get (by omega)
  refine zw_dup z8_45 rfl ?_
  refine zw_aload_n z8_46 rfl ?_
  refine zw_getf z8_47 (by assumption) (by rfl) ?_
  refine zw_ci (n := 3) z8_50 rfl rfl (Nat.le_of_ble_eq_true rfl) (by omega) (sp_sInit na.2.1 na.1 rfl (by omega) (by omega)) (fun v wb cnb snb h => ?_)
  obtain ⟨rfl, rfl, rfl, lb, hs, kb⟩ := h
  have a0 := (kb 0 (by omega)).trans a0
  have hg : gmA wb 1 G0 := (kb 1 (by omega)).trans hg
  have hy : lyY wb 2 Y0 := lyA.keep hy fun j h1 h2 => kb j (by omega)
  have hp : lgP wb P0 := lgA.keep hp fun j h1 h2 => kb j (by omega)
  refine zj_putf z8_53 a0 (Nat.le_of_ble_eq_true rfl) (by rfl) (fun wc a0 fc => ?_)
  refine zw_aload_n z8_56 rfl ?_
  refine zw_bipush z8_57 (v := iI (52)) (by decide +kernel) ?_
  refine zk_newI (m := 52) (n := 816) z8_59 rfl (by decide) (fc.1.trans lb) rfl (by omega) (fun we ne => ?_)
  have a0 := (ne.get (show 0 < 816 by omega)).trans a0
  refine zj_putf z8_61 a0 (Nat.le_of_ble_eq_true rfl) (by rfl) (fun wf a0 ff => ?_)
  refine zw_aload_n z8_64 rfl ?_
  refine zw_iconst z8_65 (v := iI (-1)) rfl ?_
  refine zj_putf z8_66 a0 (Nat.le_of_ble_eq_true rfl) (by rfl) (fun wg a0 fg => ?_)
  have kz : ∀ j, 0 < j → j < 816 → zi_get wg j = zi_get wb j := fun j h1 h2 => (fg.2 j (by omega)).trans ((ff.2 j (by omega)).trans ((ne.get h2).trans (fc.2 j (by omega))))
  exact zw_vret z8_69 rfl ⟨_, rfl, rfl, rfl, by omega, by rw [fg.1, ff.1, ne.1], a0, (kz 1 (by omega) (by omega)).trans hg, lyA.keep hy fun j h1 h2 => kz j (by omega) (by omega), lgA.keep hp fun j h1 h2 => kz j (by omega) (by omega), seT_keep hs fun j h1 h2 => kz j (by omega) (by omega), (fg.2 816 (by omega)).trans ((ff.2 816 (by omega)).trans ne.2.1)⟩
end ZIP
