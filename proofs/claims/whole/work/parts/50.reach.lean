/-! The class Search: a position is reached. (Laid out by gen/tpl.py from tpl/50.reach.tpl.) -/
def fU {α : Type} (f : Nat → α) (n : Nat) (v : α) : Nat → α := fun j => if j = n then v else f j
theorem fU_same {α : Type} (f : Nat → α) (n : Nat) (v : α) : fU f n v n = v := if_pos rfl
theorem fU_ne {α : Type} (f : Nat → α) {n j : Nat} (v : α) (h : j ≠ n) : fU f n v j = f j := if_neg h
/-- a layout as one value Y: Y 0 beneath, Y 1 tops, Y 2 ranks at home, Y 3 0 laid, Y 3 1 at home -/
abbrev lyY (w : zi_W) (a : Nat) (Y : Nat → Nat → Int) : Prop := lyA w a (Y 0) (Y 1) (Y 2) (Y 3 0) (Y 3 1)
abbrev lyW (Y : Nat → Nat → Int) : Prop := lyV (Y 0) (Y 1) (Y 2) (Y 3 0) (Y 3 1)
/-- the search: numbers N (0 fuel, 1 count, 2 too many, 3 first step, 4 passed), arrays A (0 hashes, 1 first steps, 2 slots), layouts F -/
def seA (w : zi_W) (N : Nat → Int) (A : Nat → Nat → Int) (F : Nat → Nat → Nat → Int) : Prop := srA w (N 0) (N 1) (N 2) (N 3) (N 4) (A 0) (A 1) (A 2) ∧ ∀ j, j < 200 → lyY w (16 + 4 * j) (F j)
def seV (N : Nat → Int) (A : Nat → Nat → Int) (F : Nat → Nat → Nat → Int) : Prop := (1 ≤ N 0 ∧ N 0 ≤ 200) ∧ (1 ≤ N 1 ∧ N 1 ≤ N 0) ∧ (N 2 = 0 ∨ N 2 = 1) ∧ (-1 ≤ N 3 ∧ N 3 ≤ 300) ∧ (0 ≤ N 4 ∧ N 4 ≤ 200) ∧ (∀ j, iR (A 0 j)) ∧ (∀ j, 0 ≤ A 1 j ∧ A 1 j ≤ 300) ∧ (∀ j, 0 ≤ A 2 j ∧ A 2 j ≤ 200) ∧ ∀ j, lyW (F j)
abbrev seS : Nat → Prop := fun j => j = 11 ∨ (13 ≤ j ∧ j ≤ 815)
/-- card c, the lowest of what goes, is carried from z to y -/
def cY (G : Nat → Int) (Y : Nat → Nat → Int) (c z y : Int) : Nat → Nat → Int
  | 0 => cB (Y 0) (Y 1) c y
  | 1 => cT (Y 0) (Y 1) c z y
  | 2 => cH G (Y 2) c z y
  | _ => fun i => if i = 0 then Y 3 0 else cA (Y 3 1) z y
def yCp (X Y : Nat → Nat → Int) : Nat → Nat → Int
  | 0 => iCp (X 0) (Y 0) 52
  | 1 => iCp (X 1) (Y 1) 12
  | 2 => iCp (X 2) (Y 2) 4
  | _ => X 3
theorem lyA.keep {w w' : zi_W} {a : Nat} {b t h : Nat → Int} {la ah : Int} (hy : lyA w a b t h la ah) (hk : ∀ j, a ≤ j → j ≤ a + 3 → zi_get w' j = zi_get w j) : lyA w' a b t h la ah :=
  ⟨(hk a (by omega) (by omega)).trans hy.1, (hk (a + 1) (by omega) (by omega)).trans hy.2.1, (hk (a + 2) (by omega) (by omega)).trans hy.2.2.1, (hk (a + 3) (by omega) (by omega)).trans hy.2.2.2⟩
/-- what reach does -/
abbrev rSt (A : Nat → Nat → Int) (n : Nat) (z y : Int) : Int := if n = 0 then 16 * z + y else A 1 n
abbrev rCd (F : Nat → Nat → Nat → Int) (n : Nat) (z : Int) : Int := F n 1 z.toNat
abbrev rHs (A : Nat → Nat → Int) (F : Nat → Nat → Nat → Int) (n : Nat) (z y : Int) : Int := nm (A 0 n - sh (rCd F n z) (F n 0 (rCd F n z).toNat) + sh (rCd F n z) (lGrd (F n 1) y))
abbrev rSl (G : Nat → Int) (A : Nat → Nat → Int) (F : Nat → Nat → Nat → Int) (n : Nat) (z y : Int) : Int := lSlot G (A 2) (A 0) (fun j => F j 0) (F n 0) (rCd F n z) (lGrd (F n 1) y) (rHs A F n z y)
abbrev SS : Type := (Nat → Int) × (Nat → Nat → Int) × (Nat → Nat → Nat → Int)
def rc (G : Nat → Int) (σ : SS) (n : Nat) (z y : Int) : SS :=
  if y = 12 ∧ σ.2.2 n 3 1 + 1 = gAll G then (iU σ.1 3 (rSt σ.2.1 n z y), σ.2.1, σ.2.2)
  else if σ.1 2 = 1 then σ
  else if σ.2.1 2 (rSl G σ.2.1 σ.2.2 n z y).toNat ≠ 0 then σ
  else if σ.1 0 ≤ σ.1 1 then (iU σ.1 2 1, σ.2.1, σ.2.2)
  else (iU σ.1 1 (σ.1 1 + 1), fU (fU (fU σ.2.1 0 (iU (σ.2.1 0) (σ.1 1).toNat (rHs σ.2.1 σ.2.2 n z y))) 1 (iU (σ.2.1 1) (σ.1 1).toNat (rSt σ.2.1 n z y))) 2 (iU (σ.2.1 2) (rSl G σ.2.1 σ.2.2 n z y).toNat (σ.1 1 + 1)), fU σ.2.2 (σ.1 1).toNat (cY G (yCp (σ.2.2 n) (σ.2.2 (σ.1 1).toNat)) (rCd σ.2.2 n z) z y))
theorem iCp_lt {f g : Nat → Int} {n j : Nat} (h : j < n) : iCp f g n j = f j := if_pos h
theorem iCp_rng {f g : Nat → Int} {n : Nat} {lo hi : Int} (hf : ∀ j, lo ≤ f j ∧ f j ≤ hi) (hg : ∀ j, lo ≤ g j ∧ g j ≤ hi) : ∀ j, lo ≤ iCp f g n j ∧ iCp f g n j ≤ hi := by
  intro j
  unfold iCp
  split
  · exact hf j
  · exact hg j
theorem yCp_V {X Y : Nat → Nat → Int} (hX : lyW X) (hY : lyW Y) : lyW (yCp X Y) := ⟨iCp_rng hX.1 hY.1, iCp_rng hX.2.1 hY.2.1, iCp_rng hX.2.2.1 hY.2.2.1, hX.2.2.2.1, hX.2.2.2.2⟩
theorem zj_astG {L : Nat} {xs : Nat → Int32} {d q k pc p r n : Nat} {ls : zi_L} {st : List Value} {w : zi_W} {cn sn : Nat} {Q : zi_O → zi_W → Nat → Nat → Prop} {z x : Int} {f : Nat → Int} (hc : za k pc .iastore p) (hg : zi_get w r = some (.inl (0, n, .inl (iA f)))) (hj : 0 ≤ z ∧ z < n) (hn : n ≤ 2147483647) (kk : ∀ w', zi_get w' r = some (.inl (0, n, .inl (iA (iU f z.toNat x)))) → zG r w w' → zw L xs d q k p ls st w' cn sn Q) : zw L xs d q k pc ls (iV x :: iV z :: .ref r :: st) w cn sn Q :=
  zj_ast hc hg hj hn (kk _ (zi_get_self hg) zG.of)
section ZRC
variable {L : Nat} {xs : Nat → Int32} {d q : Nat} {w : zi_W} {cn sn : Nat} {Q : zi_O → zi_W → Nat → Nat → Prop} {G N : Nat → Int} {A : Nat → Nat → Int} {F : Nat → Nat → Nat → Int} {z y : Int}
theorem seA.found {w' : zi_W} (hk : ∀ j, 16 ≤ j → zi_get w' j = zi_get w j) (h : ∀ j, j < 200 → lyY w (16 + 4 * j) (F j)) : ∀ j, j < 200 → lyY w' (16 + 4 * j) (F j) := fun j hj => (h j hj).keep fun i h1 _ => hk i (by omega)
theorem rSl_rng {n : Nat} : 0 ≤ rSl G A F n z y ∧ rSl G A F n z y < 512 := by
  have key : ∀ (m : Nat) (s : Int) (S2 H : Nat → Int) (Fb : Nat → Nat → Int) (b : Nat → Int) (mv gr hs : Int) (M : Nat), 0 ≤ s ∧ s < 512 → 0 ≤ slF S2 H Fb b mv gr hs M m s ∧ slF S2 H Fb b mv gr hs M m s < 512 := by
    intro m
    induction m with
    | zero => intro s S2 H Fb b mv gr hs M h; exact h
    | succ m ih =>
      intro s S2 H Fb b mv gr hs M h
      by_cases h0 : S2 s.toNat = 0
      · rw [slF_0 h0]; exact h
      · by_cases h1 : H (S2 s.toNat - 1).toNat = hs ∧ lAk (Fb (S2 s.toNat - 1).toNat) b mv gr 0 M
        · rw [slF_1 h1]; exact h
        · rw [slF_s h0 h1]; exact ih _ _ _ _ _ _ _ _ _ (sl0_rng _)
  exact key _ _ _ _ _ _ _ _ _ _ (sl0_rng _)
theorem rc_1 {σ : SS} {n : Nat} (h : y = 12 ∧ σ.2.2 n 3 1 + 1 = gAll G) : rc G σ n z y = (iU σ.1 3 (rSt σ.2.1 n z y), σ.2.1, σ.2.2) := if_pos h
theorem rc_2 {σ : SS} {n : Nat} (h : ¬ (y = 12 ∧ σ.2.2 n 3 1 + 1 = gAll G)) (h2 : σ.1 2 = 1) : rc G σ n z y = σ := (if_neg h).trans (if_pos h2)
theorem rc_3 {σ : SS} {n : Nat} (h : ¬ (y = 12 ∧ σ.2.2 n 3 1 + 1 = gAll G)) (h2 : ¬ σ.1 2 = 1) (h3 : σ.2.1 2 (rSl G σ.2.1 σ.2.2 n z y).toNat ≠ 0) : rc G σ n z y = σ := (if_neg h).trans ((if_neg h2).trans (if_pos h3))
theorem rc_4 {σ : SS} {n : Nat} (h : ¬ (y = 12 ∧ σ.2.2 n 3 1 + 1 = gAll G)) (h2 : ¬ σ.1 2 = 1) (h3 : ¬ σ.2.1 2 (rSl G σ.2.1 σ.2.2 n z y).toNat ≠ 0) (h4 : σ.1 0 ≤ σ.1 1) : rc G σ n z y = (iU σ.1 2 1, σ.2.1, σ.2.2) := (if_neg h).trans ((if_neg h2).trans ((if_neg h3).trans (if_pos h4)))
theorem rc_5 {σ : SS} {n : Nat} (h : ¬ (y = 12 ∧ σ.2.2 n 3 1 + 1 = gAll G)) (h2 : ¬ σ.1 2 = 1) (h3 : ¬ σ.2.1 2 (rSl G σ.2.1 σ.2.2 n z y).toNat ≠ 0) (h4 : ¬ σ.1 0 ≤ σ.1 1) : rc G σ n z y = (iU σ.1 1 (σ.1 1 + 1), fU (fU (fU σ.2.1 0 (iU (σ.2.1 0) (σ.1 1).toNat (rHs σ.2.1 σ.2.2 n z y))) 1 (iU (σ.2.1 1) (σ.1 1).toNat (rSt σ.2.1 n z y))) 2 (iU (σ.2.1 2) (rSl G σ.2.1 σ.2.2 n z y).toNat (σ.1 1 + 1)), fU σ.2.2 (σ.1 1).toNat (cY G (yCp (σ.2.2 n) (σ.2.2 (σ.1 1).toNat)) (rCd σ.2.2 n z) z y)) := (if_neg h).trans ((if_neg h2).trans ((if_neg h3).trans (if_neg h4)))
theorem sp_reach {n : Nat} (hg : gmA w 1 G) (hG : gmV G) (hs : seA w N A F) (hV : seV N A F) (hn : (n : Int) < N 1) (hz : 0 ≤ z ∧ z < 12) (hy : 0 ≤ y ∧ y ≤ 12) (hc : 0 ≤ rCd F n z) (hb : z < 8 → -1 ≤ F n 0 (rCd F n z).toNat) (hh : y = 12 → F n 2 (gSuit G (rCd F n z)).toNat ≤ 12) (hd : 3 ≤ d) (hq : 74 ≤ q) : zr L xs d q 71 [.ref 11, iV n, iV z, iV y] w cn sn (fun r w' cn' sn' => r = none ∧ cn' = cn ∧ sn' = sn ∧ seA w' (rc G (N, A, F) n z y).1 (rc G (N, A, F) n z y).2.1 (rc G (N, A, F) n z y).2.2 ∧ zF seS w w') := by
  obtain ⟨d, rfl⟩ : ∃ e, d = e + 1 := ⟨d - 1, by omega⟩
  have hg' := hg
  unfold gmA at hg'
  have hA := gAll_rng hG
  have hsA := hs
  obtain ⟨⟨s0, s1, s2, s3, s4⟩, hF⟩ := hs
  have hV0 := hV
  obtain ⟨v0, v1, v2, v3, v4, v5, v6, v7, v8⟩ := hV
  have hyn := hF n (by omega)
  obtain ⟨y0, y1, y2, y3⟩ := hyn
  obtain ⟨u1, u2, u3, u4, u5⟩ := v8 n
  have hcd : 0 ≤ rCd F n z ∧ rCd F n z ≤ 51 := ⟨hc, (u2 _).2⟩
  have hgr : -3 ≤ lGrd (F n 1) y ∧ lGrd (F n 1) y ≤ 51 := by
    have := u2 y.toNat
    unfold lGrd
    split
    · omega
    · split <;> omega
  have hst : 0 ≤ rSt A n z y ∧ rSt A n z y ≤ 300 := by
    have := v6 n
    unfold rSt
    split <;> omega
  refine ⟨_, rfl, ?_⟩
  show zw _ _ _ _ 71 0 [some (.ref 11), some (iV n), some (iV z), some (iV y), none, none, none, none, none, none] [] _ _ _ _
  have k59 : ¬ (y = 12 ∧ F n 3 1 + 1 = gAll G) → zw L xs (d + 1) q 71 59 [some (.ref 11), some (iV n), some (iV z), some (iV y), some (.ref (16 + 4 * n)), some (iV (rSt A n z y)), none, none, none, none] [] w cn sn (fun o w' cn' sn' => ∃ v, o = .inl v ∧ (v = none ∧ cn' = cn ∧ sn' = sn ∧ seA w' (rc G (N, A, F) n z y).1 (rc G (N, A, F) n z y).2.1 (rc G (N, A, F) n z y).2.2 ∧ zF seS w w')) := by
    intro h1
    refine zw_aload_n z71_59 rfl ?_
    refine zw_getf z71_60 (by assumption) (by rfl) ?_
    refine zj_if_eq z71_63 (by omega) (fun h2 => ?_) (fun h2 => ?_)
    rotate_left
    · refine zw_vret z71_66 rfl ⟨_, rfl, rfl, rfl, rfl, ?_, zF.rf⟩
      rw [rc_2 h1 (by show N 2 = 1; omega)]
      exact hsA
    have h2' : ¬ (N, A, F).1 2 = 1 := by show ¬ N 2 = 1; omega
    refine zw_aload z71_67 rfl ?_
    refine zw_getf z71_69 (by assumption) (by rfl) ?_
    refine zw_iload_n z71_72 rfl ?_
    refine zj_aldB z71_73 y2 (by omega) (by decide) u2 (fun v73 e73 r73 => ?_)
    have e73 : v73 = rCd F n z := e73
    subst e73
    refine zw_istore z71_74 rfl ?_
    refine zw_aload z71_76 rfl ?_
    refine zw_iload_n z71_78 rfl ?_
    refine zw_vv (n := 2) z71_79 rfl rfl (by assumption) (Nat.le_of_ble_eq_true rfl) (by omega) (sp_groundAt (hF n (by omega)) (v8 n) (by omega)) ?_
    refine zw_istore z71_82 rfl ?_
    refine zw_aload_n z71_84 rfl ?_
    refine zw_getf z71_85 (by assumption) (by rfl) ?_
    refine zw_iload_n z71_88 rfl ?_
    refine zj_ald z71_89 s2 (by omega) (by decide) ?_
    refine zw_iload z71_90 rfl ?_
    refine zw_aload z71_92 rfl ?_
    refine zw_getf z71_94 (by assumption) (by rfl) ?_
    refine zw_iload z71_97 rfl ?_
    refine zj_ald z71_99 y1 (by omega) (by decide) ?_
    refine zw_vs (n := 3) z71_100 rfl rfl (Nat.le_of_ble_eq_true rfl) (by omega) (sp_share) ?_
    refine zj_sub z71_103 ?_
    refine zw_iload z71_104 rfl ?_
    refine zw_iload z71_106 rfl ?_
    refine zw_vs (n := 3) z71_108 rfl rfl (Nat.le_of_ble_eq_true rfl) (by omega) (sp_share) ?_
    refine zj_add z71_111 ?_
    rw [show iV (A 0 (n : Int).toNat - sh (rCd F n z) (F n 0 (rCd F n z).toNat) + sh (rCd F n z) (lGrd (F n 1) y)) = iV (rHs A F n z y) from congrArg Value.int (nm_of _).symm]
    refine zw_istore z71_112 rfl ?_
    refine zw_aload_n z71_114 rfl ?_
    refine zw_iload z71_115 rfl ?_
    refine zw_aload z71_117 rfl ?_
    refine zw_iload z71_119 rfl ?_
    refine zw_iload z71_121 rfl ?_
    refine zw_vv (n := 8) z71_123 rfl rfl (by assumption) (Nat.le_of_ble_eq_true rfl) (by omega) (sp_slotFor hg hG ⟨s0, s1, s2, s3, s4⟩ (fun j hj => hF j hj) (fun j => v8 j) (hF n (by omega)) u1 hcd (by omega) (nm_rng _) v7 v5 (by omega) (by omega)) ?_
    have hsl := rSl_rng (G := G) (A := A) (F := F) (n := n) (z := z) (y := y)
    refine zw_istore z71_126 rfl ?_
    refine zw_aload_n z71_128 rfl ?_
    refine zw_getf z71_129 (by assumption) (by rfl) ?_
    refine zw_iload z71_132 rfl ?_
    refine zj_aldB z71_134 s4 hsl (by decide) v7 (fun v134 e134 r134 => ?_)
    refine zj_if_eq z71_135 (by omega) (fun h3 => ?_) (fun h3 => ?_)
    rotate_left
    · refine zw_vret z71_138 rfl ⟨_, rfl, rfl, rfl, rfl, ?_, zF.rf⟩
      rw [rc_3 h1 h2' (by show A 2 (rSl G A F n z y).toNat ≠ 0; rw [← e134]; exact h3)]
      exact hsA
    have h3' : ¬ (N, A, F).2.1 2 (rSl G (N, A, F).2.1 (N, A, F).2.2 n z y).toNat ≠ 0 := by
      show ¬ A 2 (rSl G A F n z y).toNat ≠ 0
      rw [← e134]
      exact fun q => q h3
    refine zw_aload_n z71_139 rfl ?_
    refine zw_getf z71_140 (by assumption) (by rfl) ?_
    refine zw_aload_n z71_143 rfl ?_
    refine zw_getf z71_144 (by assumption) (by rfl) ?_
    refine zj_icmp_lt z71_147 (by omega) (by omega) (fun h4 => ?_) (fun h4 => ?_)
    rotate_left
    · refine zw_aload_n z71_150 rfl ?_
      refine zw_iconst z71_151 (v := iI 1) rfl ?_
      refine zj_putf z71_152 s0 (Nat.le_of_ble_eq_true rfl) (by decide +kernel) (fun w1 n1 f1 => ?_)
      refine zw_vret z71_155 rfl ⟨_, rfl, rfl, rfl, rfl, ?_, zF.rf.step f1 (by omega)⟩
      rw [rc_4 h1 h2' h3' (by show N 0 ≤ N 1; omega)]
      exact ⟨⟨n1, (f1.2 12 (by omega)).trans s1, (f1.2 13 (by omega)).trans s2, (f1.2 14 (by omega)).trans s3, (f1.2 15 (by omega)).trans s4⟩, seA.found (fun j hj => f1.2 j (by omega)) hF⟩
    generalize hct : (N 1).toNat = m at *
    have hm : N 1 = (m : Int) := by omega
    have hF1 := hF m (by omega)
    refine zw_aload_n z71_156 rfl ?_
    refine zw_getf z71_157 (by assumption) (by rfl) ?_
    refine zw_aload_n z71_160 rfl ?_
    refine zw_getf z71_161 (by assumption) (by rfl) ?_
    refine zj_ald3 z71_164 s1 (by omega) (by decide) (v := 16 + 4 * m) (zfd_at hct (by omega)) ?_
    refine zw_aload z71_165 rfl ?_
    refine zw_cv (n := 2) z71_167 rfl rfl hF1.1 (Nat.le_of_ble_eq_true rfl) (by omega) (sp_becomeLike hF1 (hF n (by omega)) (Or.inr (by omega)) (by omega) (by omega)) (fun v w1 cn1 sn1 h => ?_)
    obtain ⟨rfl, rfl, rfl, c1, F1⟩ := h
    have c1 : lyY w1 (16 + 4 * m) (yCp (F n) (F m)) := c1
    have p0 := (F1.2 11 (by omega)).trans s0
    have p1 := (F1.2 12 (by omega)).trans s1
    have p2 := (F1.2 13 (by omega)).trans s2
    have p3 := (F1.2 14 (by omega)).trans s3
    have p4 := (F1.2 15 (by omega)).trans s4
    have pg : gmA w1 1 G := (F1.2 1 (by omega)).trans hg'
    refine zw_aload_n z71_170 rfl ?_
    refine zw_getf z71_171 (by assumption) (by rfl) ?_
    refine zw_aload_n z71_174 rfl ?_
    refine zw_getf z71_175 (by assumption) (by rfl) ?_
    refine zj_ald3 z71_178 p1 (by omega) (by decide) (v := 16 + 4 * m) (zfd_at hct (by omega)) ?_
    refine zw_iload z71_179 rfl ?_
    refine zw_iload_n z71_181 rfl ?_
    refine zw_iload_n z71_182 rfl ?_
    have hcc : (rCd F n z).toNat < 52 := by omega
    have hss := gSuit_rng (c := rCd F n z) hG
    refine zw_cv (n := 6) z71_183 rfl rfl c1.1 (Nat.le_of_ble_eq_true rfl) (by omega) (sp_carry pg hG c1 (yCp_V (v8 n) (v8 m)) (by omega) (by omega) (by omega) hy (by omega) (fun q => by rw [show yCp (F n) (F m) 0 _ = _ from iCp_lt hcc]; exact hb q) (fun q => by omega) (fun q => by rw [show yCp (F n) (F m) 2 _ = _ from iCp_lt (by omega)]; exact hh q) (by omega) (by omega)) (fun v w2 cn2 sn2 h => ?_)
    obtain ⟨rfl, rfl, rfl, c2, F2⟩ := h
    have p0 := (F2.2 11 (by omega)).trans p0
    have p1 := (F2.2 12 (by omega)).trans p1
    have p2 := (F2.2 13 (by omega)).trans p2
    have p3 := (F2.2 14 (by omega)).trans p3
    have p4 := (F2.2 15 (by omega)).trans p4
    refine zw_aload_n z71_186 rfl ?_
    refine zw_getf z71_187 (by assumption) (by rfl) ?_
    refine zw_aload_n z71_190 rfl ?_
    refine zw_getf z71_191 (by assumption) (by rfl) ?_
    refine zw_iload z71_194 rfl ?_
    refine zj_astG z71_196 p2 (by omega) (by decide) (fun w3 n3 f3 => ?_)
    have p0 := (f3.2 11 (by omega)).trans p0
    have p1 := (f3.2 12 (by omega)).trans p1
    have p3 := (f3.2 14 (by omega)).trans p3
    have p4 := (f3.2 15 (by omega)).trans p4
    refine zw_aload_n z71_197 rfl ?_
    refine zw_getf z71_198 (by assumption) (by rfl) ?_
    refine zw_aload_n z71_201 rfl ?_
    refine zw_getf z71_202 (by assumption) (by rfl) ?_
    refine zw_iload z71_205 rfl ?_
    refine zj_astG z71_207 p3 (by omega) (by decide) (fun w4 n4 f4 => ?_)
    have p0 := (f4.2 11 (by omega)).trans p0
    have p1 := (f4.2 12 (by omega)).trans p1
    have n3 := (f4.2 13 (by omega)).trans n3
    have p4 := (f4.2 15 (by omega)).trans p4
    refine zw_aload_n z71_208 rfl ?_
    refine zw_dup z71_209 rfl ?_
    refine zw_getf z71_210 (by assumption) (by rfl) ?_
    refine zw_iconst z71_213 (v := iI 1) rfl ?_
    refine zj_add z71_214 ?_
    refine zj_putf z71_215 p0 (Nat.le_of_ble_eq_true rfl) (by rfl) (fun w5 n5 f5 => ?_)
    have p1 := (f5.2 12 (by omega)).trans p1
    have n3 := (f5.2 13 (by omega)).trans n3
    have n4 := (f5.2 14 (by omega)).trans n4
    have p4 := (f5.2 15 (by omega)).trans p4
    refine zw_aload_n z71_218 rfl ?_
    refine zw_getf z71_219 (by assumption) (by rfl) ?_
    refine zw_iload z71_222 rfl ?_
    refine zw_aload_n z71_224 rfl ?_
    refine zw_getf z71_225 (by assumption) (by rfl) ?_
    refine zj_astG z71_228 p4 hsl (by decide) (fun w6 n6 f6 => ?_)
    have n5 := (f6.2 11 (by omega)).trans n5
    have p1 := (f6.2 12 (by omega)).trans p1
    have n3 := (f6.2 13 (by omega)).trans n3
    have n4 := (f6.2 14 (by omega)).trans n4
    have keep : ∀ j, 16 ≤ j → zi_get w6 j = zi_get w2 j := fun j hj => ((f6.2 j (by omega)).trans ((f5.2 j (by omega)).trans ((f4.2 j (by omega)).trans (f3.2 j (by omega)))))
    refine zw_vret z71_229 rfl ⟨_, rfl, rfl, rfl, rfl, ?_, ((((((F1.sub (fun j hj => Or.inr ⟨by omega, by omega⟩)).trans (F2.sub (fun j hj => Or.inr ⟨by omega, by omega⟩))).step f3 (by omega)).step f4 (by omega)).step f5 (by omega)).step f6 (by omega))⟩
    rw [rc_5 h1 h2' h3' (by show ¬ N 0 ≤ N 1; omega)]
    rw [hct] at n3 n4
    refine ⟨⟨n5, p1, by rw [show (N, A, F).1 1 = N 1 from rfl, hct]; exact n3, by rw [show (N, A, F).1 1 = N 1 from rfl, hct]; exact n4, n6⟩, fun j hj => ?_⟩
    show lyY w6 (16 + 4 * j) (fU F (N 1).toNat (cY G (yCp (F n) (F (N 1).toNat)) (rCd F n z) z y) j)
    rw [hct]
    by_cases hjm : j = m
    · subst hjm
      rw [fU_same]
      exact c2.keep fun i h1 _ => keep i (by omega)
    · rw [fU_ne _ _ hjm]
      exact (hF j hj).keep fun i h1 h2 => (keep i (by omega)).trans ((F2.2 i (by omega)).trans (F1.2 i (by omega)))
  have k27 : zw L xs (d + 1) q 71 27 [some (.ref 11), some (iV n), some (iV z), some (iV y), some (.ref (16 + 4 * n)), none, none, none, none, none] [iV (rSt A n z y)] w cn sn (fun o w' cn' sn' => ∃ v, o = .inl v ∧ (v = none ∧ cn' = cn ∧ sn' = sn ∧ seA w' (rc G (N, A, F) n z y).1 (rc G (N, A, F) n z y).2.1 (rc G (N, A, F) n z y).2.2 ∧ zF seS w w')) := by
    refine zw_istore z71_27 rfl ?_
    refine zw_iload_n z71_29 rfl ?_
    refine zw_bipush z71_30 (v := iI (12)) (by decide +kernel) ?_
    refine zj_icmp_ne z71_32 (by omega) (by omega) (fun h32 => ?_) (fun h32 => ?_)
    · exact k59 (fun q => h32 q.1)
    refine zw_aload z71_35 rfl ?_
    refine zw_getf z71_37 (by assumption) (by rfl) ?_
    refine zw_iconst z71_40 (v := iI 1) rfl ?_
    refine zj_add z71_41 ?_
    refine zw_aload_n z71_42 rfl ?_
    refine zw_getf z71_43 (by assumption) (by rfl) ?_
    refine zw_vv (n := 1) z71_46 rfl rfl (by assumption) (Nat.le_of_ble_eq_true rfl) (by omega) (sp_cardCount hg) ?_
    refine zj_icmp_ne z71_49 (by omega) (by omega) (fun h49 => ?_) (fun h49 => ?_)
    · exact k59 (fun q => h49 q.2)
    refine zw_aload_n z71_52 rfl ?_
    refine zw_iload z71_53 rfl ?_
    refine zj_putf z71_55 s0 (Nat.le_of_ble_eq_true rfl) (by rfl) (fun w1 n1 f1 => ?_)
    refine zw_vret z71_58 rfl ⟨_, rfl, rfl, rfl, rfl, ?_, zF.rf.step f1 (by omega)⟩
    rw [rc_1 ⟨by omega, by show F n 3 1 + 1 = gAll G; omega⟩]
    exact ⟨⟨n1, (f1.2 12 (by omega)).trans s1, (f1.2 13 (by omega)).trans s2, (f1.2 14 (by omega)).trans s3, (f1.2 15 (by omega)).trans s4⟩, seA.found (fun j hj => f1.2 j (by omega)) hF⟩
  refine zw_aload_n z71_0 rfl ?_
  refine zw_getf z71_1 (by assumption) (by rfl) ?_
  refine zw_iload_n z71_4 rfl ?_
  refine zj_ald3 z71_5 s1 (by omega) (by decide) (v := 16 + 4 * n) (zfd_at (by omega) (by omega)) ?_
  refine zw_astore z71_6 rfl ?_
  refine zw_iload_n z71_8 rfl ?_
  refine zj_if_ne z71_9 (by omega) (fun h9 => ?_) (fun h9 => ?_)
  · refine zw_aload_n z71_21 rfl ?_
    refine zw_getf z71_22 (by assumption) (by rfl) ?_
    refine zw_iload_n z71_25 rfl ?_
    refine zj_ald z71_26 s3 (by omega) (by decide) ?_
    rw [show iV (A 1 (n : Int).toNat) = iV (rSt A n z y) from congrArg (fun v => iV v) (show A 1 n = rSt A n z y from (if_neg (by omega)).symm)]
    exact k27
  · refine zw_bipush z71_12 (v := iI (16)) (by decide +kernel) ?_
    refine zw_iload_n z71_14 rfl ?_
    refine zj_mul z71_15 ?_
    refine zw_iload_n z71_16 rfl ?_
    refine zj_add z71_17 ?_
    refine zw_goto z71_18 ?_
    rw [show iV (16 * z + y) = iV (rSt A n z y) from congrArg (fun v => iV v) (if_pos (by omega)).symm]
    exact k27
end ZRC
