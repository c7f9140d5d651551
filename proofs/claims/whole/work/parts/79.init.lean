/-! New objects: Search. (Laid out by gen/tpl.py from tpl/79.init.tpl.) -/
def zfn (n : Nat) : Nat → Option Nat := fun j => if j < n then some (16 + 4 * j) else none
theorem zfn_s (n : Nat) : va_up (zfn n) n (some (16 + 4 * n)) = zfn (n + 1) := by
  funext j
  unfold va_up zfn
  by_cases h : j = n
  · subst h; rw [if_pos rfl, if_pos (by omega)]
  · rw [if_neg h]
    by_cases h2 : j < n
    · rw [if_pos h2, if_pos (by omega)]
    · rw [if_neg h2, if_neg (by omega)]
section ZIS
variable {L : Nat} {xs : Nat → Int32} {d q k pc p n : Nat} {ls : zi_L} {st : List Value} {w : zi_W} {cn sn : Nat} {Q : zi_O → zi_W → Nat → Nat → Prop}
theorem zk_newA {m : Nat} {z : Int} (hc : za_a k pc p) (hz : z = m) (hm : m ≤ 65536) (hl : w.length = n) (hcn : cn = n) (hn : n < zi_X) (kk : ∀ w', zN n (.inl (3, m, .inr (.inr (.inr (.inr (fun _ => none)))))) w w' → zw L xs d q k p ls (.ref n :: st) w' (n + 1) (sn + m) Q) : zw L xs d q k pc ls (iV z :: st) w cn sn Q := by
  subst hcn
  have := kk _ ⟨by rw [List.length_append, hl]; rfl, zi_get_new hl hn, fun j hj => zi_get_old hl hj⟩
  subst hl
  exact zw_newA hc (by rw [iI_clamp (by omega)]; omega) ⟨rfl, hn, by rw [← iI_0, iI_lt (by omega) (by omega)]; omega, hm⟩ this
/-- the found layouts are made one after another -/
theorem lp_sInit (hd : 3 ≤ d) (hq : 64 ≤ q) {fs : List Value} (hf : fs[1]? = some (.ref 12)) (kk : ∀ w', w'.length = 816 → zi_get w' 11 = some (.inr (4, fs)) → zi_get w' 12 = some (.inl (3, 200, .inr (.inr (.inr (.inr zfd))))) → (∀ j, j < 16 → j ≠ 12 → zi_get w' j = zi_get w j) → (∀ i, i < 200 → lyY w' (16 + 4 * i) Y0) → Q (.inl none) w' 816 (sn + 74 * 200)) : ∀ (j n : Nat) (w' : zi_W) (sn' : Nat), n + j = 200 → w'.length = 16 + 4 * n → zi_get w' 11 = some (.inr (4, fs)) → zi_get w' 12 = some (.inl (3, 200, .inr (.inr (.inr (.inr (zfn n)))))) → (∀ j, j < 16 → j ≠ 12 → zi_get w' j = zi_get w j) → (∀ i, i < n → lyY w' (16 + 4 * i) Y0) → sn' = sn + 74 * n → zw L xs d q 67 73 [some (.ref 11), some (.ref 1), some (iV n)] [] w' (16 + 4 * n) sn' Q := by
  obtain ⟨d, rfl⟩ : ∃ e, d = e + 1 := ⟨d - 1, by omega⟩
  have hX : (2000 : Nat) < zi_X := by decide
  intro j
  induction j with
  | zero =>
    intro n w' sn' h1 hl s0 s1 hk hY hs
    obtain rfl : n = 200 := by omega
    subst hs
    refine zw_iload_n z67_73 rfl ?_
    refine zw_sipush z67_74 (v := iI (200)) (by decide +kernel) ?_
    refine zj_icmp_ge z67_77 (by omega) (by omega) (fun h5 => ?_) (fun h5 => ?_)
    · exact zw_vret z67_100 rfl (kk w' hl s0 s1 hk hY)
    · exfalso; omega
  | succ j ih =>
    intro n w' sn' h1 hl s0 s1 hk hY hs
    refine zw_iload_n z67_73 rfl ?_
    refine zw_sipush z67_74 (v := iI (200)) (by decide +kernel) ?_
    refine zj_icmp_ge z67_77 (by omega) (by omega) (fun h5 => ?_) (fun h5 => ?_)
    · exfalso; omega
    refine zw_aload_n z67_80 rfl ?_
    refine zw_getf z67_81 s0 hf ?_
    refine zw_iload_n z67_84 rfl ?_
    refine zk_new z67_85 hl rfl (by omega) (fun w1 n1 => ?_)
    refine zw_dup z67_88 rfl ?_
    refine zw_aload_n z67_89 rfl ?_
    refine zw_ci (n := 2) z67_90 rfl rfl (Nat.le_of_ble_eq_true rfl) (by omega) (sp_yInit (a := 16 + 4 * n) n1.2.1 n1.1 rfl (by omega) (by omega) (by omega)) (fun v w2 cn2 sn2 h => ?_)
    obtain ⟨rfl, rfl, rfl, l2, hy2, k2⟩ := h
    have t1 := (k2 12 (by omega)).trans ((n1.get (by omega)).trans s1)
    refine zw_aast z67_93 t1 hy2.1 (iI_in (z := n) (by omega) (by decide)) ?_
    rw [iI_clamp (by omega), show (n : Int).toNat = n by omega, zfn_s]
    refine zj_iinc z67_94 rfl rfl ?_
    refine zw_goto z67_97 ?_
    have g1 : zG 12 w2 (w2.set 12 (.inl (3, 200, .inr (.inr (.inr (.inr (zfn (n + 1)))))))) := zG.of
    have kA : ∀ i, i < 16 + 4 * n → i ≠ 12 → zi_get (w2.set 12 (.inl (3, 200, .inr (.inr (.inr (.inr (zfn (n + 1)))))))) i = zi_get w' i := fun i h1 h2 => (g1.2 i h2).trans ((k2 i h1).trans (n1.get (by omega)))
    have := ih (n + 1) _ (sn' + 6 + 68) (by omega) (by rw [g1.1, l2]; omega) ((kA 11 (by omega) (by omega)).trans s0) (zi_get_self t1) (fun j h1 h2 => (kA j (by omega) h2).trans (hk j h1 h2)) (fun i hi => ?_) (by omega)
    · rwa [show ((n + 1 : Nat) : Int) = (n : Int) + 1 by omega, show 16 + 4 * (n + 1) = 16 + 4 * n + 4 by omega] at this
    · by_cases hin : i = n
      · subst hin
        exact lyA.keep hy2 fun j h1 h2 => g1.2 j (by omega)
      · exact (hY i (by omega)).keep fun j h1 h2 => kA j (by omega) (by omega)
theorem sp_sInit (h0 : zi_get w 11 = some (.inr (4, zi_fs0 zp 4))) (hl : w.length = 12) (hcn : cn = 12) (hd : 3 ≤ d) (hq : 64 ≤ q) : zr L xs d q 67 [.ref 11, .ref 1] w cn sn (fun r w' cn' sn' => r = none ∧ cn' = 816 ∧ sn' = sn + 1112 + 74 * 200 ∧ w'.length = 816 ∧ seT w' (iU (fun _ => 0) 3 (-1), fun _ _ => 0, fun _ => Y0) ∧ ∀ j, j < 11 → zi_get w' j = zi_get w j) := by
  have hX : (2000 : Nat) < zi_X := by decide
  have h0 : zi_get w 11 = some (.inr (4, [.null, .null, .null, .null, .null, iV 0, iV 0, iV 0, iV 0, iV 0])) := by rw [h0, show iV 0 = Value.int 0 from congrArg Value.int iI_0]; rfl
  refine ⟨_, rfl, ?_⟩
  show zw _ _ _ _ 67 0 [some (.ref 11), some (.ref 1), none] [] _ _ _ _
  refine zw_aload_n z67_0 rfl ?_
  refine zw_obj z67_1 (Nat.le_of_ble_eq_true rfl) (by omega) (by omega) ?_
  refine zw_aload_n z67_4 rfl ?_
  refine zw_sipush z67_5 (v := iI (200)) (by decide +kernel) ?_
  refine zk_newA (m := 200) (n := 12) z67_8 rfl (by decide) hl hcn (by omega) (fun w1 n1 => ?_)
  have o1 := (n1.get (show 11 < 12 by omega)).trans h0
  refine zj_putf z67_11 o1 (Nat.le_of_ble_eq_true rfl) (by rfl) (fun w2 o2 f2 => ?_)
  refine zw_aload_n z67_14 rfl ?_
  refine zw_sipush z67_15 (v := iI (200)) (by decide +kernel) ?_
  refine zk_newI (m := 200) (n := 13) z67_18 rfl (by decide) (f2.1.trans n1.1) rfl (by omega) (fun w3 n3 => ?_)
  have o3 := (n3.get (show 11 < 13 by omega)).trans o2
  refine zj_putf z67_20 o3 (Nat.le_of_ble_eq_true rfl) (by rfl) (fun w4 o4 f4 => ?_)
  refine zw_aload_n z67_23 rfl ?_
  refine zw_sipush z67_24 (v := iI (200)) (by decide +kernel) ?_
  refine zk_newI (m := 200) (n := 14) z67_27 rfl (by decide) (f4.1.trans n3.1) rfl (by omega) (fun w5 n5 => ?_)
  have o5 := (n5.get (show 11 < 14 by omega)).trans o4
  refine zj_putf z67_29 o5 (Nat.le_of_ble_eq_true rfl) (by rfl) (fun w6 o6 f6 => ?_)
  refine zw_aload_n z67_32 rfl ?_
  refine zw_sipush z67_33 (v := iI (512)) (by decide +kernel) ?_
  refine zk_newI (m := 512) (n := 15) z67_36 rfl (by decide) (f6.1.trans n5.1) rfl (by omega) (fun w7 n7 => ?_)
  have o7 := (n7.get (show 11 < 15 by omega)).trans o6
  refine zj_putf z67_38 o7 (Nat.le_of_ble_eq_true rfl) (by rfl) (fun w8 o8 f8 => ?_)
  refine zw_aload_n z67_41 rfl ?_
  refine zw_iconst z67_42 (v := iI 0) rfl ?_
  refine zj_putf z67_43 o8 (Nat.le_of_ble_eq_true rfl) (by rfl) (fun w9 o9 f9 => ?_)
  refine zw_aload_n z67_46 rfl ?_
  refine zw_iconst z67_47 (v := iI 0) rfl ?_
  refine zj_putf z67_48 o9 (Nat.le_of_ble_eq_true rfl) (by rfl) (fun wa oa fa => ?_)
  refine zw_aload_n z67_51 rfl ?_
  refine zw_iconst z67_52 (v := iI 0) rfl ?_
  refine zj_putf z67_53 oa (Nat.le_of_ble_eq_true rfl) (by decide +kernel) (fun wb ob fb => ?_)
  refine zw_aload_n z67_56 rfl ?_
  refine zw_iconst z67_57 (v := iI (-1)) rfl ?_
  refine zj_putf z67_58 ob (Nat.le_of_ble_eq_true rfl) (by rfl) (fun wc oc fc => ?_)
  refine zw_aload_n z67_61 rfl ?_
  refine zw_iconst z67_62 (v := iI 0) rfl ?_
  refine zj_putf z67_63 oc (Nat.le_of_ble_eq_true rfl) (by rfl) (fun we oe fe => ?_)
  refine zw_aload_n z67_66 rfl ?_
  refine zw_aload_n z67_67 rfl ?_
  refine zj_putf z67_68 oe (Nat.le_of_ble_eq_true rfl) (by rfl) (fun wf of ff => ?_)
  have kf : ∀ j, j ≠ 11 → zi_get wf j = zi_get w8 j := fun j hj => (ff.2 j hj).trans ((fe.2 j hj).trans ((fc.2 j hj).trans ((fb.2 j hj).trans ((fa.2 j hj).trans (f9.2 j hj)))))
  have t12 : zi_get wf 12 = some (.inl (3, 200, .inr (.inr (.inr (.inr (zfn 0)))))) := (kf 12 (by omega)).trans ((f8.2 _ (by omega)).trans ((n7.get (by omega)).trans ((f6.2 _ (by omega)).trans ((n5.get (by omega)).trans ((f4.2 _ (by omega)).trans ((n3.get (by omega)).trans ((f2.2 _ (by omega)).trans n1.2.1)))))))
  have t13 : zi_get wf 13 = some (.inl (0, 200, .inl (iA (fun _ => 0)))) := (kf 13 (by omega)).trans ((f8.2 _ (by omega)).trans ((n7.get (by omega)).trans ((f6.2 _ (by omega)).trans ((n5.get (by omega)).trans ((f4.2 _ (by omega)).trans n3.2.1)))))
  have t14 : zi_get wf 14 = some (.inl (0, 200, .inl (iA (fun _ => 0)))) := (kf 14 (by omega)).trans ((f8.2 _ (by omega)).trans ((n7.get (by omega)).trans ((f6.2 _ (by omega)).trans n5.2.1)))
  have t15 : zi_get wf 15 = some (.inl (0, 512, .inl (iA (fun _ => 0)))) := (kf 15 (by omega)).trans ((f8.2 _ (by omega)).trans n7.2.1)
  have kw : ∀ j, j < 11 → zi_get wf j = zi_get w j := fun j hj => (kf j (by omega)).trans ((f8.2 _ (by omega)).trans ((n7.get (by omega)).trans ((f6.2 _ (by omega)).trans ((n5.get (by omega)).trans ((f4.2 _ (by omega)).trans ((n3.get (by omega)).trans ((f2.2 _ (by omega)).trans (n1.get (by omega)))))))))
  refine zw_iconst z67_71 (v := iI 0) rfl ?_
  refine zw_istore_n z67_72 rfl ?_
  exact lp_sInit (w := wf) (sn := sn + 1112) hd hq rfl (fun w' l1 q1 q2 q3 q4 => ⟨_, rfl, rfl, rfl, rfl, l1, ⟨⟨q1, q2, (q3 13 (by omega) (by omega)).trans t13, (q3 14 (by omega) (by omega)).trans t14, (q3 15 (by omega) (by omega)).trans t15⟩, q4⟩, fun j hj => (q3 j (by omega) (by omega)).trans (kw j hj)⟩) 200 0 wf _ rfl (by rw [ff.1, fe.1, fc.1, fb.1, fa.1, f9.1, f8.1, n7.1]) of t12 (fun _ _ _ => rfl) (fun i hi => by omega) (by omega)
end ZIS
