/-! The class Search: begin, seek. (Laid out by gen/tpl.py from tpl/52.seek.tpl.) -/
def seV0 (A : Nat → Nat → Int) (F : Nat → Nat → Nat → Int) : Prop := (∀ j, iR (A 0 j)) ∧ (∀ j, 0 ≤ A 1 j ∧ A 1 j ≤ 300) ∧ (∀ j, 0 ≤ A 2 j ∧ A 2 j ≤ 200) ∧ ∀ j, lyW (F j)
abbrev bHs (G : Nat → Int) (Y : Nat → Nat → Int) : Int := hsm (Y 0) (gAll G).toNat 0 0
/-- what begin does, with the layout Y and the fuel u -/
def bg (G : Nat → Int) (σ : SS) (Y : Nat → Nat → Int) (u : Int) : SS :=
  (iU (iU (iU (iU (iU σ.1 0 u) 2 0) 3 (-1)) 4 0) 1 1, fU (fU σ.2.1 0 (iU (σ.2.1 0) 0 (bHs G Y))) 2 (iU (iFi (σ.2.1 2) 512 0) (sl0 (bHs G Y)).toNat 1), fU σ.2.2 0 (yCp Y (σ.2.2 0)))
theorem hsm_rng (b : Nat → Int) : ∀ (n c : Nat) (z : Int), iR z → iR (hsm b n c z) := by
  intro n
  induction n with
  | zero => intro c z h; exact h
  | succ n ih => intro c z h; exact ih _ _ (nm_rng _)
section ZSK
variable {L : Nat} {xs : Nat → Int32} {d q : Nat} {w : zi_W} {cn sn : Nat} {Q : zi_O → zi_W → Nat → Nat → Prop} {G : Nat → Int} {σ : SS} {Y : Nat → Nat → Int} {u : Int}
theorem bg_V (hV : seV0 σ.2.1 σ.2.2) (hY : lyW Y) (hu : 1 ≤ u ∧ u ≤ 200) : seU (bg G σ Y u) := by
  obtain ⟨v5, v6, v7, v8⟩ := hV
  refine ⟨hu, ⟨by show (1 : Int) ≤ 1; omega, hu.1⟩, Or.inl rfl, by show (-1 : Int) ≤ -1 ∧ (-1 : Int) ≤ 300; omega, by show (0 : Int) ≤ 0 ∧ (0 : Int) ≤ 200; omega, iU_all v5 (hsm_rng _ _ _ _ (by decide)), v6, iU_rng (fun j => ?_) (by omega), fU_all v8 (yCp_V hY (v8 _))⟩
  unfold iFi
  split
  · omega
  · exact v7 j
theorem sp_begin (hg : gmA w 1 G) (hG : gmV G) (hs : seT w σ) (hV : seV0 σ.2.1 σ.2.2) (hY : lyY w 2 Y) (hYV : lyW Y) (hd : 2 ≤ d) (hq : 47 ≤ q) : zr L xs d q 69 [.ref 11, .ref 2, iV u] w cn sn (fun r w' cn' sn' => r = none ∧ cn' = cn ∧ sn' = sn ∧ gmA w' 1 G ∧ seT w' (bg G σ Y u) ∧ lyY w' 2 Y ∧ zF seS w w') := by
  obtain ⟨d, rfl⟩ : ∃ e, d = e + 1 := ⟨d - 1, by omega⟩
  obtain ⟨N, A, F⟩ := σ
  obtain ⟨⟨s0, s1, s2, s3, s4⟩, hF⟩ := hs
  have hg' := hg
  unfold gmA at hg'
  have z0 : zF seS w w := zF.rf
  dsimp only at s0 s1 s2 s3 s4 hF hV
  refine ⟨_, rfl, ?_⟩
  show zw _ _ _ _ 69 0 [some (.ref 11), some (.ref 2), some (iV u)] [] _ _ _ _
  refine zw_aload_n z69_0 rfl ?_
  refine zw_iload_n z69_1 rfl ?_
  refine zj_putf z69_2 s0 (Nat.le_of_ble_eq_true rfl) (by rfl) (fun w1 s0 f1 => ?_)
  have z0 := z0.step f1 (by omega)
  refine zw_aload_n z69_5 rfl ?_
  refine zw_iconst z69_6 (v := iI 0) rfl ?_
  refine zj_putf z69_7 s0 (Nat.le_of_ble_eq_true rfl) (by decide +kernel) (fun w2 s0 f2 => ?_)
  have z0 := z0.step f2 (by omega)
  refine zw_aload_n z69_10 rfl ?_
  refine zw_iconst z69_11 (v := iI (-1)) rfl ?_
  refine zj_putf z69_12 s0 (Nat.le_of_ble_eq_true rfl) (by rfl) (fun w3 s0 f3 => ?_)
  have z0 := z0.step f3 (by omega)
  refine zw_aload_n z69_15 rfl ?_
  refine zw_iconst z69_16 (v := iI 0) rfl ?_
  refine zj_putf z69_17 s0 (Nat.le_of_ble_eq_true rfl) (by rfl) (fun w4 s0 f4 => ?_)
  have z0 := z0.step f4 (by omega)
  have k4 : ∀ j, j ≠ 11 → zi_get w4 j = zi_get w j := fun j hj => (f4.2 j hj).trans ((f3.2 j hj).trans ((f2.2 j hj).trans (f1.2 j hj)))
  have s1 := (k4 12 (by omega)).trans s1
  have s2 := (k4 13 (by omega)).trans s2
  have s3 := (k4 14 (by omega)).trans s3
  have s4 := (k4 15 (by omega)).trans s4
  refine zw_aload_n z69_20 rfl ?_
  refine zw_getf z69_21 (by assumption) (by rfl) ?_
  refine zw_iconst z69_24 (v := iI 0) rfl ?_
  refine zw_cs (n := 4) z69_25 rfl rfl (Nat.le_of_ble_eq_true rfl) (by omega) (sp_fill (by decide) s4) (fun v w5 cn5 sn5 h => ?_)
  obtain ⟨rfl, rfl, rfl, s4, f5⟩ := h
  have z0 := z0.step f5 (by omega)
  have s0 := (f5.2 11 (by omega)).trans s0
  have s1 := (f5.2 12 (by omega)).trans s1
  have s2 := (f5.2 13 (by omega)).trans s2
  have s3 := (f5.2 14 (by omega)).trans s3
  have k5 : ∀ j, 16 ≤ j → zi_get w5 j = zi_get w j := fun j hj => (f5.2 j (by omega)).trans (k4 j (by omega))
  have hF5 := seA.found k5 hF
  have hY5 : lyY w5 2 Y := hY.keep fun i h1 h2 => (f5.2 i (by omega)).trans (k4 i (by omega))
  have hF50 : lyY w5 16 (F 0) := hF5 0 (by omega)
  refine zw_aload_n z69_28 rfl ?_
  refine zw_getf z69_29 (by assumption) (by rfl) ?_
  refine zw_iconst z69_32 (v := iI 0) rfl ?_
  refine zj_ald3 z69_33 s1 (by omega) (by decide) (v := 16) (zfd_at (n := 0) rfl (by omega)) ?_
  refine zw_aload_n z69_34 rfl ?_
  refine zw_cv (n := 2) z69_35 rfl rfl hF50.1 (Nat.le_of_ble_eq_true rfl) (by omega) (sp_becomeLike hF50 hY5 (Or.inr (by decide)) (by omega) (by omega)) (fun v w6 cn6 sn6 h => ?_)
  obtain ⟨rfl, rfl, rfl, c6, f6⟩ := h
  have z0 := z0.trans (f6.sub (fun j hj => Or.inr ⟨by omega, by omega⟩))
  have s0 := (f6.2 11 (by omega)).trans s0
  have s1 := (f6.2 12 (by omega)).trans s1
  have s2 := (f6.2 13 (by omega)).trans s2
  have s3 := (f6.2 14 (by omega)).trans s3
  have s4 := (f6.2 15 (by omega)).trans s4
  have hY6 : lyY w6 2 Y := hY5.keep fun i h1 h2 => f6.2 i (by omega)
  have hg6 : gmA w6 1 G := (f6.2 1 (by omega)).trans ((f5.2 1 (by omega)).trans ((k4 1 (by omega)).trans hg'))
  refine zw_aload_n z69_38 rfl ?_
  refine zw_getf z69_39 (by assumption) (by rfl) ?_
  refine zw_iconst z69_42 (v := iI 0) rfl ?_
  refine zw_aload_n z69_43 rfl ?_
  refine zw_aload_n z69_44 rfl ?_
  refine zw_vv (n := 5) z69_45 rfl rfl s0 (Nat.le_of_ble_eq_true rfl) (by omega) (sp_hashOf hg6 hG ⟨s0, s1, s2, s3, s4⟩ hY6 hYV.1 (by omega) (by omega)) ?_
  refine zj_astG z69_48 s2 (by omega) (by decide) (fun w7 s2 f7 => ?_)
  have z0 := z0.step f7 (by omega)
  have s0 := (f7.2 11 (by omega)).trans s0
  have s1 := (f7.2 12 (by omega)).trans s1
  have s3 := (f7.2 14 (by omega)).trans s3
  have s4 := (f7.2 15 (by omega)).trans s4
  refine zw_aload_n z69_49 rfl ?_
  refine zw_getf z69_50 (by assumption) (by rfl) ?_
  refine zw_aload_n z69_53 rfl ?_
  refine zw_getf z69_54 (by assumption) (by rfl) ?_
  refine zw_iconst z69_57 (v := iI 0) rfl ?_
  refine zj_ald z69_58 s2 (by omega) (by decide) ?_
  rw [show iU (A 0) (0 : Int).toNat (hsm (Y 0) (gAll G).toNat 0 0) (0 : Int).toNat = bHs G Y from iU_same _ _ _]
  refine zw_sipush z69_59 (v := iI (511)) (by decide +kernel) ?_
  refine zj_and z69_62 ?_
  refine zw_iconst z69_63 (v := iI 1) rfl ?_
  refine zj_astG z69_64 s4 (sl0_rng _) (by decide) (fun w8 s4 f8 => ?_)
  have z0 := z0.step f8 (by omega)
  have s0 := (f8.2 11 (by omega)).trans s0
  have s1 := (f8.2 12 (by omega)).trans s1
  have s2 := (f8.2 13 (by omega)).trans s2
  have s3 := (f8.2 14 (by omega)).trans s3
  refine zw_aload_n z69_65 rfl ?_
  refine zw_iconst z69_66 (v := iI 1) rfl ?_
  refine zj_putf z69_67 s0 (Nat.le_of_ble_eq_true rfl) (by rfl) (fun w9 s0 f9 => ?_)
  have z0 := z0.step f9 (by omega)
  have k9 : ∀ j, 16 ≤ j ∨ j ≤ 10 → zi_get w9 j = zi_get w6 j := fun j hj => (f9.2 j (by omega)).trans ((f8.2 j (by omega)).trans (f7.2 j (by omega)))
  refine zw_vret z69_70 rfl ⟨_, rfl, rfl, rfl, rfl, (k9 1 (by omega)).trans hg6, ⟨⟨s0, (f9.2 12 (by omega)).trans s1, (f9.2 13 (by omega)).trans s2, (f9.2 14 (by omega)).trans s3, (f9.2 15 (by omega)).trans s4⟩, fun j hj => ?_⟩, hY6.keep fun i h1 h2 => k9 i (by omega), z0⟩
  show lyY w9 (16 + 4 * j) (fU F 0 (yCp Y (F 0)) j)
  by_cases hj0 : j = 0
  · subst hj0
    rw [fU_same]
    exact lyA.keep (a := 16) c6 fun i h1 h2 => k9 i (by omega)
  · rw [fU_ne _ _ hj0]
    exact (hF5 j hj).keep fun i h1 h2 => (k9 i (by omega)).trans (f6.2 i (by omega))
end ZSK
