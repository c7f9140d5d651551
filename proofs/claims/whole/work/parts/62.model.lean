/-! The reference: its writers. (Laid out by gen/tpl.py from tpl/62.model.tpl.) -/
abbrev moO (w : zi_W) (G N : Nat → Int) : Prop := zi_get w 817 = some (.inr (5, [iV (N 0), iV (G 0), iV (G 1), iV (G 2), iV (G 3), iV (G 4), iV (G 5), .ref 818, .ref 819, .ref 820, .ref 821, .ref 822, .ref 823, iV (N 1), .ref 824, iV (N 2), iV (N 3), .ref 825, .ref 826, .ref 827, .ref 828, iV (N 4), iV (N 5), iV (N 6), iV (N 7), .ref 829, iV (N 8), iV (N 9), .ref 830]))
section ZMW
variable {L : Nat} {xs : Nat → Int32} {d q : Nat} {w w' : zi_W} {cn sn : Nat} {Q : zi_O → zi_W → Nat → Nat → Prop} {G N : Nat → Int} {A : Nat → Nat → Int} {z y m c o a b e k : Int}
theorem mo_a0 {f : Nat → Int} (h : moA w G N A) (n : zi_get w' 818 = some (.inl (0, 416, .inl (iA f)))) (g : zG 818 w w') : moA w' G N (fU A 0 f) :=
  ⟨(g.2 817 (by omega)).trans h.1, n, (g.2 819 (by omega)).trans h.2.2.1, (g.2 820 (by omega)).trans h.2.2.2.1, (g.2 821 (by omega)).trans h.2.2.2.2.1, (g.2 822 (by omega)).trans h.2.2.2.2.2.1, (g.2 823 (by omega)).trans h.2.2.2.2.2.2.1, (g.2 824 (by omega)).trans h.2.2.2.2.2.2.2.1, (g.2 825 (by omega)).trans h.2.2.2.2.2.2.2.2.1, (g.2 826 (by omega)).trans h.2.2.2.2.2.2.2.2.2.1, (g.2 827 (by omega)).trans h.2.2.2.2.2.2.2.2.2.2.1, (g.2 828 (by omega)).trans h.2.2.2.2.2.2.2.2.2.2.2.1, (g.2 829 (by omega)).trans h.2.2.2.2.2.2.2.2.2.2.2.2.1, (g.2 830 (by omega)).trans h.2.2.2.2.2.2.2.2.2.2.2.2.2⟩
theorem mo_a1 {f : Nat → Int} (h : moA w G N A) (n : zi_get w' 819 = some (.inl (0, 8, .inl (iA f)))) (g : zG 819 w w') : moA w' G N (fU A 1 f) :=
  ⟨(g.2 817 (by omega)).trans h.1, (g.2 818 (by omega)).trans h.2.1, n, (g.2 820 (by omega)).trans h.2.2.2.1, (g.2 821 (by omega)).trans h.2.2.2.2.1, (g.2 822 (by omega)).trans h.2.2.2.2.2.1, (g.2 823 (by omega)).trans h.2.2.2.2.2.2.1, (g.2 824 (by omega)).trans h.2.2.2.2.2.2.2.1, (g.2 825 (by omega)).trans h.2.2.2.2.2.2.2.2.1, (g.2 826 (by omega)).trans h.2.2.2.2.2.2.2.2.2.1, (g.2 827 (by omega)).trans h.2.2.2.2.2.2.2.2.2.2.1, (g.2 828 (by omega)).trans h.2.2.2.2.2.2.2.2.2.2.2.1, (g.2 829 (by omega)).trans h.2.2.2.2.2.2.2.2.2.2.2.2.1, (g.2 830 (by omega)).trans h.2.2.2.2.2.2.2.2.2.2.2.2.2⟩
theorem mo_a2 {f : Nat → Int} (h : moA w G N A) (n : zi_get w' 820 = some (.inl (0, 4, .inl (iA f)))) (g : zG 820 w w') : moA w' G N (fU A 2 f) :=
  ⟨(g.2 817 (by omega)).trans h.1, (g.2 818 (by omega)).trans h.2.1, (g.2 819 (by omega)).trans h.2.2.1, n, (g.2 821 (by omega)).trans h.2.2.2.2.1, (g.2 822 (by omega)).trans h.2.2.2.2.2.1, (g.2 823 (by omega)).trans h.2.2.2.2.2.2.1, (g.2 824 (by omega)).trans h.2.2.2.2.2.2.2.1, (g.2 825 (by omega)).trans h.2.2.2.2.2.2.2.2.1, (g.2 826 (by omega)).trans h.2.2.2.2.2.2.2.2.2.1, (g.2 827 (by omega)).trans h.2.2.2.2.2.2.2.2.2.2.1, (g.2 828 (by omega)).trans h.2.2.2.2.2.2.2.2.2.2.2.1, (g.2 829 (by omega)).trans h.2.2.2.2.2.2.2.2.2.2.2.2.1, (g.2 830 (by omega)).trans h.2.2.2.2.2.2.2.2.2.2.2.2.2⟩
theorem mo_a3 {f : Nat → Int} (h : moA w G N A) (n : zi_get w' 821 = some (.inl (0, 4, .inl (iA f)))) (g : zG 821 w w') : moA w' G N (fU A 3 f) :=
  ⟨(g.2 817 (by omega)).trans h.1, (g.2 818 (by omega)).trans h.2.1, (g.2 819 (by omega)).trans h.2.2.1, (g.2 820 (by omega)).trans h.2.2.2.1, n, (g.2 822 (by omega)).trans h.2.2.2.2.2.1, (g.2 823 (by omega)).trans h.2.2.2.2.2.2.1, (g.2 824 (by omega)).trans h.2.2.2.2.2.2.2.1, (g.2 825 (by omega)).trans h.2.2.2.2.2.2.2.2.1, (g.2 826 (by omega)).trans h.2.2.2.2.2.2.2.2.2.1, (g.2 827 (by omega)).trans h.2.2.2.2.2.2.2.2.2.2.1, (g.2 828 (by omega)).trans h.2.2.2.2.2.2.2.2.2.2.2.1, (g.2 829 (by omega)).trans h.2.2.2.2.2.2.2.2.2.2.2.2.1, (g.2 830 (by omega)).trans h.2.2.2.2.2.2.2.2.2.2.2.2.2⟩
theorem mo_a4 {f : Nat → Int} (h : moA w G N A) (n : zi_get w' 822 = some (.inl (1, 52, .inl (iA f)))) (g : zG 822 w w') : moA w' G N (fU A 4 f) :=
  ⟨(g.2 817 (by omega)).trans h.1, (g.2 818 (by omega)).trans h.2.1, (g.2 819 (by omega)).trans h.2.2.1, (g.2 820 (by omega)).trans h.2.2.2.1, (g.2 821 (by omega)).trans h.2.2.2.2.1, n, (g.2 823 (by omega)).trans h.2.2.2.2.2.2.1, (g.2 824 (by omega)).trans h.2.2.2.2.2.2.2.1, (g.2 825 (by omega)).trans h.2.2.2.2.2.2.2.2.1, (g.2 826 (by omega)).trans h.2.2.2.2.2.2.2.2.2.1, (g.2 827 (by omega)).trans h.2.2.2.2.2.2.2.2.2.2.1, (g.2 828 (by omega)).trans h.2.2.2.2.2.2.2.2.2.2.2.1, (g.2 829 (by omega)).trans h.2.2.2.2.2.2.2.2.2.2.2.2.1, (g.2 830 (by omega)).trans h.2.2.2.2.2.2.2.2.2.2.2.2.2⟩
theorem mo_a5 {f : Nat → Int} (h : moA w G N A) (n : zi_get w' 823 = some (.inl (0, 52, .inl (iA f)))) (g : zG 823 w w') : moA w' G N (fU A 5 f) :=
  ⟨(g.2 817 (by omega)).trans h.1, (g.2 818 (by omega)).trans h.2.1, (g.2 819 (by omega)).trans h.2.2.1, (g.2 820 (by omega)).trans h.2.2.2.1, (g.2 821 (by omega)).trans h.2.2.2.2.1, (g.2 822 (by omega)).trans h.2.2.2.2.2.1, n, (g.2 824 (by omega)).trans h.2.2.2.2.2.2.2.1, (g.2 825 (by omega)).trans h.2.2.2.2.2.2.2.2.1, (g.2 826 (by omega)).trans h.2.2.2.2.2.2.2.2.2.1, (g.2 827 (by omega)).trans h.2.2.2.2.2.2.2.2.2.2.1, (g.2 828 (by omega)).trans h.2.2.2.2.2.2.2.2.2.2.2.1, (g.2 829 (by omega)).trans h.2.2.2.2.2.2.2.2.2.2.2.2.1, (g.2 830 (by omega)).trans h.2.2.2.2.2.2.2.2.2.2.2.2.2⟩
theorem mo_a6 {f : Nat → Int} (h : moA w G N A) (n : zi_get w' 824 = some (.inl (0, 240, .inl (iA f)))) (g : zG 824 w w') : moA w' G N (fU A 6 f) :=
  ⟨(g.2 817 (by omega)).trans h.1, (g.2 818 (by omega)).trans h.2.1, (g.2 819 (by omega)).trans h.2.2.1, (g.2 820 (by omega)).trans h.2.2.2.1, (g.2 821 (by omega)).trans h.2.2.2.2.1, (g.2 822 (by omega)).trans h.2.2.2.2.2.1, (g.2 823 (by omega)).trans h.2.2.2.2.2.2.1, n, (g.2 825 (by omega)).trans h.2.2.2.2.2.2.2.2.1, (g.2 826 (by omega)).trans h.2.2.2.2.2.2.2.2.2.1, (g.2 827 (by omega)).trans h.2.2.2.2.2.2.2.2.2.2.1, (g.2 828 (by omega)).trans h.2.2.2.2.2.2.2.2.2.2.2.1, (g.2 829 (by omega)).trans h.2.2.2.2.2.2.2.2.2.2.2.2.1, (g.2 830 (by omega)).trans h.2.2.2.2.2.2.2.2.2.2.2.2.2⟩
theorem mo_a7 {f : Nat → Int} (h : moA w G N A) (n : zi_get w' 825 = some (.inl (0, 10504, .inl (iA f)))) (g : zG 825 w w') : moA w' G N (fU A 7 f) :=
  ⟨(g.2 817 (by omega)).trans h.1, (g.2 818 (by omega)).trans h.2.1, (g.2 819 (by omega)).trans h.2.2.1, (g.2 820 (by omega)).trans h.2.2.2.1, (g.2 821 (by omega)).trans h.2.2.2.2.1, (g.2 822 (by omega)).trans h.2.2.2.2.2.1, (g.2 823 (by omega)).trans h.2.2.2.2.2.2.1, (g.2 824 (by omega)).trans h.2.2.2.2.2.2.2.1, n, (g.2 826 (by omega)).trans h.2.2.2.2.2.2.2.2.2.1, (g.2 827 (by omega)).trans h.2.2.2.2.2.2.2.2.2.2.1, (g.2 828 (by omega)).trans h.2.2.2.2.2.2.2.2.2.2.2.1, (g.2 829 (by omega)).trans h.2.2.2.2.2.2.2.2.2.2.2.2.1, (g.2 830 (by omega)).trans h.2.2.2.2.2.2.2.2.2.2.2.2.2⟩
theorem mo_a8 {f : Nat → Int} (h : moA w G N A) (n : zi_get w' 826 = some (.inl (0, 202, .inl (iA f)))) (g : zG 826 w w') : moA w' G N (fU A 8 f) :=
  ⟨(g.2 817 (by omega)).trans h.1, (g.2 818 (by omega)).trans h.2.1, (g.2 819 (by omega)).trans h.2.2.1, (g.2 820 (by omega)).trans h.2.2.2.1, (g.2 821 (by omega)).trans h.2.2.2.2.1, (g.2 822 (by omega)).trans h.2.2.2.2.2.1, (g.2 823 (by omega)).trans h.2.2.2.2.2.2.1, (g.2 824 (by omega)).trans h.2.2.2.2.2.2.2.1, (g.2 825 (by omega)).trans h.2.2.2.2.2.2.2.2.1, n, (g.2 827 (by omega)).trans h.2.2.2.2.2.2.2.2.2.2.1, (g.2 828 (by omega)).trans h.2.2.2.2.2.2.2.2.2.2.2.1, (g.2 829 (by omega)).trans h.2.2.2.2.2.2.2.2.2.2.2.2.1, (g.2 830 (by omega)).trans h.2.2.2.2.2.2.2.2.2.2.2.2.2⟩
theorem mo_a9 {f : Nat → Int} (h : moA w G N A) (n : zi_get w' 827 = some (.inl (1, 202, .inl (iA f)))) (g : zG 827 w w') : moA w' G N (fU A 9 f) :=
  ⟨(g.2 817 (by omega)).trans h.1, (g.2 818 (by omega)).trans h.2.1, (g.2 819 (by omega)).trans h.2.2.1, (g.2 820 (by omega)).trans h.2.2.2.1, (g.2 821 (by omega)).trans h.2.2.2.2.1, (g.2 822 (by omega)).trans h.2.2.2.2.2.1, (g.2 823 (by omega)).trans h.2.2.2.2.2.2.1, (g.2 824 (by omega)).trans h.2.2.2.2.2.2.2.1, (g.2 825 (by omega)).trans h.2.2.2.2.2.2.2.2.1, (g.2 826 (by omega)).trans h.2.2.2.2.2.2.2.2.2.1, n, (g.2 828 (by omega)).trans h.2.2.2.2.2.2.2.2.2.2.2.1, (g.2 829 (by omega)).trans h.2.2.2.2.2.2.2.2.2.2.2.2.1, (g.2 830 (by omega)).trans h.2.2.2.2.2.2.2.2.2.2.2.2.2⟩
theorem mo_a10 {f : Nat → Int} (h : moA w G N A) (n : zi_get w' 828 = some (.inl (0, 210, .inl (iA f)))) (g : zG 828 w w') : moA w' G N (fU A 10 f) :=
  ⟨(g.2 817 (by omega)).trans h.1, (g.2 818 (by omega)).trans h.2.1, (g.2 819 (by omega)).trans h.2.2.1, (g.2 820 (by omega)).trans h.2.2.2.1, (g.2 821 (by omega)).trans h.2.2.2.2.1, (g.2 822 (by omega)).trans h.2.2.2.2.2.1, (g.2 823 (by omega)).trans h.2.2.2.2.2.2.1, (g.2 824 (by omega)).trans h.2.2.2.2.2.2.2.1, (g.2 825 (by omega)).trans h.2.2.2.2.2.2.2.2.1, (g.2 826 (by omega)).trans h.2.2.2.2.2.2.2.2.2.1, (g.2 827 (by omega)).trans h.2.2.2.2.2.2.2.2.2.2.1, n, (g.2 829 (by omega)).trans h.2.2.2.2.2.2.2.2.2.2.2.2.1, (g.2 830 (by omega)).trans h.2.2.2.2.2.2.2.2.2.2.2.2.2⟩
theorem mo_a11 {f : Nat → Int} (h : moA w G N A) (n : zi_get w' 829 = some (.inl (0, 4, .inl (iA f)))) (g : zG 829 w w') : moA w' G N (fU A 11 f) :=
  ⟨(g.2 817 (by omega)).trans h.1, (g.2 818 (by omega)).trans h.2.1, (g.2 819 (by omega)).trans h.2.2.1, (g.2 820 (by omega)).trans h.2.2.2.1, (g.2 821 (by omega)).trans h.2.2.2.2.1, (g.2 822 (by omega)).trans h.2.2.2.2.2.1, (g.2 823 (by omega)).trans h.2.2.2.2.2.2.1, (g.2 824 (by omega)).trans h.2.2.2.2.2.2.2.1, (g.2 825 (by omega)).trans h.2.2.2.2.2.2.2.2.1, (g.2 826 (by omega)).trans h.2.2.2.2.2.2.2.2.2.1, (g.2 827 (by omega)).trans h.2.2.2.2.2.2.2.2.2.2.1, (g.2 828 (by omega)).trans h.2.2.2.2.2.2.2.2.2.2.2.1, n, (g.2 830 (by omega)).trans h.2.2.2.2.2.2.2.2.2.2.2.2.2⟩
theorem mo_a12 {f : Nat → Int} (h : moA w G N A) (n : zi_get w' 830 = some (.inl (1, 52, .inl (iA f)))) (g : zG 830 w w') : moA w' G N (fU A 12 f) :=
  ⟨(g.2 817 (by omega)).trans h.1, (g.2 818 (by omega)).trans h.2.1, (g.2 819 (by omega)).trans h.2.2.1, (g.2 820 (by omega)).trans h.2.2.2.1, (g.2 821 (by omega)).trans h.2.2.2.2.1, (g.2 822 (by omega)).trans h.2.2.2.2.2.1, (g.2 823 (by omega)).trans h.2.2.2.2.2.2.1, (g.2 824 (by omega)).trans h.2.2.2.2.2.2.2.1, (g.2 825 (by omega)).trans h.2.2.2.2.2.2.2.2.1, (g.2 826 (by omega)).trans h.2.2.2.2.2.2.2.2.2.1, (g.2 827 (by omega)).trans h.2.2.2.2.2.2.2.2.2.2.1, (g.2 828 (by omega)).trans h.2.2.2.2.2.2.2.2.2.2.2.1, (g.2 829 (by omega)).trans h.2.2.2.2.2.2.2.2.2.2.2.2.1, n⟩
theorem mo_put {G' N' : Nat → Int} (h : moA w G N A) (n : moO w' G' N') (g : zG 817 w w') : moA w' G' N' A :=
  ⟨n, (g.2 818 (by omega)).trans h.2.1, (g.2 819 (by omega)).trans h.2.2.1, (g.2 820 (by omega)).trans h.2.2.2.1, (g.2 821 (by omega)).trans h.2.2.2.2.1, (g.2 822 (by omega)).trans h.2.2.2.2.2.1, (g.2 823 (by omega)).trans h.2.2.2.2.2.2.1, (g.2 824 (by omega)).trans h.2.2.2.2.2.2.2.1, (g.2 825 (by omega)).trans h.2.2.2.2.2.2.2.2.1, (g.2 826 (by omega)).trans h.2.2.2.2.2.2.2.2.2.1, (g.2 827 (by omega)).trans h.2.2.2.2.2.2.2.2.2.2.1, (g.2 828 (by omega)).trans h.2.2.2.2.2.2.2.2.2.2.2.1, (g.2 829 (by omega)).trans h.2.2.2.2.2.2.2.2.2.2.2.2.1, (g.2 830 (by omega)).trans h.2.2.2.2.2.2.2.2.2.2.2.2.2⟩
theorem zj_bstG {pc p r n j : Nat} {ls : zi_L} {st : List Value} {z x : Int} {f : Nat → Int} (hc : za j pc .bastore p) (hg : zi_get w r = some (.inl (1, n, .inl (iA f)))) (hj : 0 ≤ z ∧ z < n) (hn : n ≤ 2147483647) (hx : x = 0 ∨ x = 1) (kk : ∀ w', zi_get w' r = some (.inl (1, n, .inl (iA (iU f z.toNat x)))) → zG r w w' → zw L xs d q j p ls st w' cn sn Q) : zw L xs d q j pc ls (iV x :: iV z :: .ref r :: st) w cn sn Q :=
  zj_bst hc hg hj hn hx (kk _ (zi_get_self hg) zG.of)
/-- a method of the reference comes back with v, and its state is then G' N' A' -/
def mR (w : zi_W) (cn sn : Nat) (v : Option Value) (G' N' : Nat → Int) (A' : Nat → Nat → Int) : Option Value → zi_W → Nat → Nat → Prop := fun r w' cn' sn' => r = v ∧ cn' = cn ∧ sn' = sn ∧ moA w' G' N' A' ∧ zF moS w w'
theorem sp_mRefuse (hm : moA w G N A) : zr L xs d q 78 [.ref 817, iV c] w cn sn (mR w cn sn (some (iV 0)) G (iU N 0 c) A) := by
  have m0 := hm.1
  refine ⟨_, rfl, ?_⟩
  show zw _ _ _ _ 78 0 [some (.ref 817), some (iV c)] [] _ _ _ _
  refine zw_aload_n z78_0 rfl ?_
  refine zw_iload_n z78_1 rfl ?_
  refine zj_putf z78_2 m0 (Nat.le_of_ble_eq_true rfl) (by rfl) (fun w1 n1 f1 => ?_)
  refine zw_iconst z78_5 (v := iI 0) rfl ?_
  exact zw_iret z78_6 rfl ⟨_, rfl, rfl, rfl, rfl, mo_put hm n1 f1, zF.rf.step f1 (by omega)⟩
abbrev mWA (A : Nat → Nat → Int) : Nat → Nat → Int := fU (fU (fU (fU A 1 (iFi (A 1) 8 0)) 2 (iFi (A 2) 4 (-1))) 3 (iFi (A 3) 4 0)) 4 (iFi (A 4) 52 0)
abbrev mWN (N : Nat → Int) : Nat → Int := iU (iU N 1 0) 2 (-1)
theorem fU_id {α : Type} (f : Nat → α) (n : Nat) : fU f n (f n) = f := by
  funext j
  unfold fU
  split
  · rename_i h; rw [h]
  · rfl
theorem fU_fU {α : Type} (f : Nat → α) (n : Nat) (x y : α) : fU (fU f n x) n y = fU f n y := by
  funext j
  unfold fU
  split <;> rfl
theorem lp_w1 (kk : ∀ w', moA w' G N (fU A 1 (iFi (A 1) 8 0)) → zF moS w w' → zw L xs d q 86 21 [some (.ref 817), some (iV 8)] [] w' cn sn Q) : ∀ (j n : Nat) (w' : zi_W), n + j = 8 → moA w' G N (fU A 1 (iFi (A 1) n 0)) → zF moS w w' → zw L xs d q 86 2 [some (.ref 817), some (iV n)] [] w' cn sn Q := by
  intro j
  induction j with
  | zero =>
    intro n w' h1 hm hF
    obtain rfl : n = 8 := by omega
    refine zw_iload_n z86_2 rfl ?_
    refine zw_bipush z86_3 (v := iI (8)) (by decide +kernel) ?_
    refine zj_icmp_ge z86_5 (by omega) (by omega) (fun h5 => ?_) (fun h5 => ?_)
    · exact kk w' hm hF
    · exfalso; omega
  | succ j ih =>
    intro n w' h1 hm hF
    have hm9 := hm
    obtain ⟨m0, a0, a1, a2, a3, a4, a5, a6, a7, a8, a9, a10, a11, a12⟩ := hm9
    refine zw_iload_n z86_2 rfl ?_
    refine zw_bipush z86_3 (v := iI (8)) (by decide +kernel) ?_
    refine zj_icmp_ge z86_5 (by omega) (by omega) (fun h5 => ?_) (fun h5 => ?_)
    · exfalso; omega
    refine zw_aload_n z86_8 rfl ?_
    refine zw_getf z86_9 (by assumption) (by rfl) ?_
    refine zw_iload_n z86_12 rfl ?_
    refine zw_iconst z86_13 (v := iI 0) rfl ?_
    refine zj_astG z86_14 a1 (by omega) (by decide) (fun w1 n1 f1 => ?_)
    refine zj_iinc z86_15 rfl rfl ?_
    refine zw_goto z86_18 ?_
    have hm1 := mo_a1 hm n1 f1
    rw [fU_fU, show (n : Int).toNat = n by omega, show fU A 1 (iFi (A 1) n 0) 1 = iFi (A 1) n 0 from rfl, iFi_s] at hm1
    have := ih (n + 1) w1 (by omega) hm1 (hF.step f1 (by omega))
    rwa [show ((n + 1 : Nat) : Int) = (n : Int) + 1 by omega] at this
theorem lp_w2 (kk : ∀ w', moA w' G N (fU (fU A 2 (iFi (A 2) 4 (-1))) 3 (iFi (A 3) 4 0)) → zF moS w w' → zw L xs d q 86 48 [some (.ref 817), some (iV 4)] [] w' cn sn Q) : ∀ (j n : Nat) (w' : zi_W), n + j = 4 → moA w' G N (fU (fU A 2 (iFi (A 2) n (-1))) 3 (iFi (A 3) n 0)) → zF moS w w' → zw L xs d q 86 23 [some (.ref 817), some (iV n)] [] w' cn sn Q := by
  intro j
  induction j with
  | zero =>
    intro n w' h1 hm hF
    obtain rfl : n = 4 := by omega
    refine zw_iload_n z86_23 rfl ?_
    refine zw_iconst z86_24 (v := iI 4) rfl ?_
    refine zj_icmp_ge z86_25 (by omega) (by omega) (fun h5 => ?_) (fun h5 => ?_)
    · exact kk w' hm hF
    · exfalso; omega
  | succ j ih =>
    intro n w' h1 hm hF
    have hm9 := hm
    obtain ⟨m0, a0, a1, a2, a3, a4, a5, a6, a7, a8, a9, a10, a11, a12⟩ := hm9
    refine zw_iload_n z86_23 rfl ?_
    refine zw_iconst z86_24 (v := iI 4) rfl ?_
    refine zj_icmp_ge z86_25 (by omega) (by omega) (fun h5 => ?_) (fun h5 => ?_)
    · exfalso; omega
    refine zw_aload_n z86_28 rfl ?_
    refine zw_getf z86_29 (by assumption) (by rfl) ?_
    refine zw_iload_n z86_32 rfl ?_
    refine zw_iconst z86_33 (v := iI (-1)) rfl ?_
    refine zj_astG z86_34 a2 (by omega) (by decide) (fun w1 n1 f1 => ?_)
    have hm1 := mo_a2 hm n1 f1
    have b0 := hm1.1
    have b3 := hm1.2.2.2.2.1
    refine zw_aload_n z86_35 rfl ?_
    refine zw_getf z86_36 (by assumption) (by rfl) ?_
    refine zw_iload_n z86_39 rfl ?_
    refine zw_iconst z86_40 (v := iI 0) rfl ?_
    refine zj_astG z86_41 b3 (by omega) (by decide) (fun w2 n2 f2 => ?_)
    have hm2 := mo_a3 hm1 n2 f2
    refine zj_iinc z86_42 rfl rfl ?_
    refine zw_goto z86_45 ?_
    have e : fU (fU (fU (fU A 2 (iFi (A 2) n (-1))) 3 (iFi (A 3) n 0)) 2 (iU (iFi (A 2) n (-1)) (n : Int).toNat (-1))) 3 (iU (iFi (A 3) n 0) (n : Int).toNat 0) = fU (fU A 2 (iFi (A 2) (n + 1) (-1))) 3 (iFi (A 3) (n + 1) 0) := by
      rw [show (n : Int).toNat = n by omega, iFi_s, iFi_s]
      funext i
      unfold fU
      split
      · rfl
      · split <;> rfl
    have hm2 : moA w2 G N (fU (fU A 2 (iFi (A 2) (n + 1) (-1))) 3 (iFi (A 3) (n + 1) 0)) := by rw [← e]; exact hm2
    have := ih (n + 1) w2 (by omega) hm2 ((hF.step f1 (by omega)).step f2 (by omega))
    rwa [show ((n + 1 : Nat) : Int) = (n : Int) + 1 by omega] at this
theorem lp_w3 (kk : ∀ w', moA w' G N (fU A 4 (iFi (A 4) 52 0)) → zF moS w w' → zw L xs d q 86 69 [some (.ref 817), some (iV 52)] [] w' cn sn Q) : ∀ (j n : Nat) (w' : zi_W), n + j = 52 → moA w' G N (fU A 4 (iFi (A 4) n 0)) → zF moS w w' → zw L xs d q 86 50 [some (.ref 817), some (iV n)] [] w' cn sn Q := by
  intro j
  induction j with
  | zero =>
    intro n w' h1 hm hF
    obtain rfl : n = 52 := by omega
    refine zw_iload_n z86_50 rfl ?_
    refine zw_bipush z86_51 (v := iI (52)) (by decide +kernel) ?_
    refine zj_icmp_ge z86_53 (by omega) (by omega) (fun h5 => ?_) (fun h5 => ?_)
    · exact kk w' hm hF
    · exfalso; omega
  | succ j ih =>
    intro n w' h1 hm hF
    have hm9 := hm
    obtain ⟨m0, a0, a1, a2, a3, a4, a5, a6, a7, a8, a9, a10, a11, a12⟩ := hm9
    refine zw_iload_n z86_50 rfl ?_
    refine zw_bipush z86_51 (v := iI (52)) (by decide +kernel) ?_
    refine zj_icmp_ge z86_53 (by omega) (by omega) (fun h5 => ?_) (fun h5 => ?_)
    · exfalso; omega
    refine zw_aload_n z86_56 rfl ?_
    refine zw_getf z86_57 (by assumption) (by rfl) ?_
    refine zw_iload_n z86_60 rfl ?_
    refine zw_iconst z86_61 (v := iI 0) rfl ?_
    refine zj_bstG z86_62 a4 (by omega) (by decide) (by omega) (fun w1 n1 f1 => ?_)
    refine zj_iinc z86_63 rfl rfl ?_
    refine zw_goto z86_66 ?_
    have hm1 := mo_a4 hm n1 f1
    rw [fU_fU, show (n : Int).toNat = n by omega, show fU A 4 (iFi (A 4) n 0) 4 = iFi (A 4) n 0 from rfl, iFi_s] at hm1
    have := ih (n + 1) w1 (by omega) hm1 (hF.step f1 (by omega))
    rwa [show ((n + 1 : Nat) : Int) = (n : Int) + 1 by omega] at this
theorem sp_mWipe (hm : moA w G N A) : zr L xs d q 86 [.ref 817] w cn sn (mR w cn sn none G (mWN N) (mWA A)) := by
  refine ⟨_, rfl, ?_⟩
  show zw _ _ _ _ 86 0 [some (.ref 817), none] [] _ _ _ _
  refine zw_iconst z86_0 (v := iI 0) rfl ?_
  refine zw_istore_n z86_1 rfl ?_
  refine lp_w1 (w := w) (A := A) (fun w1 hm1 F1 => ?_) 8 0 w rfl (by rw [iFi_0, fU_id]; exact hm) zF.rf
  refine zw_iconst z86_21 (v := iI 0) rfl ?_
  refine zw_istore_n z86_22 rfl ?_
  refine lp_w2 (w := w) (A := fU A 1 (iFi (A 1) 8 0)) (fun w2 hm2 F2 => ?_) 4 0 w1 rfl (by rw [iFi_0, iFi_0, fU_id, fU_id]; exact hm1) F1
  refine zw_iconst z86_48 (v := iI 0) rfl ?_
  refine zw_istore_n z86_49 rfl ?_
  refine lp_w3 (w := w) (A := fU (fU (fU A 1 (iFi (A 1) 8 0)) 2 (iFi (A 2) 4 (-1))) 3 (iFi (A 3) 4 0)) (fun w3 hm3 F3 => ?_) 52 0 w2 rfl (by rw [iFi_0, fU_id]; exact hm2) F2
  have m0 := hm3.1
  refine zw_aload_n z86_69 rfl ?_
  refine zw_iconst z86_70 (v := iI 0) rfl ?_
  refine zj_putf z86_71 m0 (Nat.le_of_ble_eq_true rfl) (by rfl) (fun w4 n4 f4 => ?_)
  have hm4 := mo_put (N' := iU N 1 0) (G' := G) hm3 n4 f4
  have m0 := hm4.1
  refine zw_aload_n z86_74 rfl ?_
  refine zw_iconst z86_75 (v := iI (-1)) rfl ?_
  refine zj_putf z86_76 m0 (Nat.le_of_ble_eq_true rfl) (by rfl) (fun w5 n5 f5 => ?_)
  have hm5 := mo_put (N' := mWN N) (G' := G) hm4 n5 f5
  exact zw_vret z86_79 rfl ⟨_, rfl, rfl, rfl, rfl, hm5, (F3.step f4 (by omega)).step f5 (by omega)⟩
abbrev nT (N : Nat → Int) : Nat → Int := iU N 0 0
theorem sp_mClear (hm : moA w G N A) (hd : 1 ≤ d) (hq : 21 ≤ q) : zr L xs d q 89 [.ref 817] w cn sn (mR w cn sn none G (mWN (nT N)) (mWA A)) := by
  obtain ⟨d, rfl⟩ : ∃ e, d = e + 1 := ⟨d - 1, by omega⟩
  have m0 := hm.1
  refine ⟨_, rfl, ?_⟩
  show zw _ _ _ _ 89 0 [some (.ref 817)] [] _ _ _ _
  refine zw_aload_n z89_0 rfl ?_
  refine zw_iconst z89_1 (v := iI 0) rfl ?_
  refine zj_putf z89_2 m0 (Nat.le_of_ble_eq_true rfl) (by rfl) (fun w1 n1 f1 => ?_)
  have hm1 := mo_put (N' := nT N) (G' := G) hm n1 f1
  have m0 := hm1.1
  refine zw_aload_n z89_5 rfl ?_
  refine zw_cv (n := 2) z89_6 rfl rfl m0 (Nat.le_of_ble_eq_true rfl) (by omega) (sp_mWipe hm1) (fun v w2 cn2 sn2 h => ?_)
  obtain ⟨rfl, rfl, rfl, hm2, f2⟩ := h
  exact zw_vret z89_9 rfl ⟨_, rfl, rfl, rfl, rfl, hm2, (zF.rf.step f1 (by omega)).trans f2⟩
abbrev mRuC (z y m c : Int) : Prop := (2 ≤ z ∧ z ≤ 8) ∧ (0 ≤ y ∧ y ≤ 4) ∧ (0 ≤ m ∧ m ≤ 2) ∧ (0 ≤ c ∧ c ≤ 2)
theorem sp_mRules (hm : moA w G N A) (hz : iR z) (hy : iR y) (hm1 : iR m) (hc : iR c) (hd : 2 ≤ d) (hq : 42 ≤ q) : zr L xs d q 87 [.ref 817, iV z, iV y, iV m, iV c] w cn sn (if mRuC z y m c then mR w cn sn (some (iV 1)) (iU (iU (iU (iU G 0 z) 1 y) 2 m) 3 c) (mWN (nT N)) (mWA A) else mR w cn sn (some (iV 0)) G (nT N) A) := by
  obtain ⟨d, rfl⟩ : ∃ e, d = e + 1 := ⟨d - 1, by omega⟩
  have m0 := hm.1
  refine ⟨_, rfl, ?_⟩
  show zw _ _ _ _ 87 0 [some (.ref 817), some (iV z), some (iV y), some (iV m), some (iV c)] [] _ _ _ _
  refine zw_aload_n z87_0 rfl ?_
  refine zw_iconst z87_1 (v := iI 0) rfl ?_
  refine zj_putf z87_2 m0 (Nat.le_of_ble_eq_true rfl) (by rfl) (fun w1 n1 f1 => ?_)
  have hmA := mo_put (N' := nT N) (G' := G) hm n1 f1
  have F1 : zF moS w w1 := zF.rf.step f1 (by omega)
  have kf : ¬ mRuC z y m c → zw L xs (d + 1) q 87 43 [some (.ref 817), some (iV z), some (iV y), some (iV m), some (iV c)] [] w1 cn sn (fun o w' cn' sn' => ∃ v, o = .inl v ∧ (if mRuC z y m c then mR w cn sn (some (iV 1)) (iU (iU (iU (iU G 0 z) 1 y) 2 m) 3 c) (mWN (nT N)) (mWA A) else mR w cn sn (some (iV 0)) G (nT N) A) v w' cn' sn') := by
    intro hn
    rw [if_neg hn]
    refine zw_iconst z87_43 (v := iI 0) rfl ?_
    exact zj_bret z87_44 rfl (by omega) ⟨_, rfl, rfl, rfl, rfl, hmA, F1⟩
  refine zw_iload_n z87_5 rfl ?_
  refine zw_iconst z87_6 (v := iI 2) rfl ?_
  refine zw_bipush z87_7 (v := iI (8)) (by decide +kernel) ?_
  refine zw_vs (n := 3) z87_9 rfl rfl (Nat.le_of_ble_eq_true rfl) (by omega) (sp_mWithin hz (by omega) (by omega)) ?_
  refine zj_b_eq z87_12 (fun h1 => ?_) (fun h1 => ?_)
  · exact kf (fun h => h1 h.1)
  refine zw_iload_n z87_15 rfl ?_
  refine zw_iconst z87_16 (v := iI 0) rfl ?_
  refine zw_iconst z87_17 (v := iI 4) rfl ?_
  refine zw_vs (n := 3) z87_18 rfl rfl (Nat.le_of_ble_eq_true rfl) (by omega) (sp_mWithin hy (by omega) (by omega)) ?_
  refine zj_b_eq z87_21 (fun h2 => ?_) (fun h2 => ?_)
  · exact kf (fun h => h2 h.2.1)
  refine zw_iload_n z87_24 rfl ?_
  refine zw_iconst z87_25 (v := iI 0) rfl ?_
  refine zw_iconst z87_26 (v := iI 2) rfl ?_
  refine zw_vs (n := 3) z87_27 rfl rfl (Nat.le_of_ble_eq_true rfl) (by omega) (sp_mWithin hm1 (by omega) (by omega)) ?_
  refine zj_b_eq z87_30 (fun h3 => ?_) (fun h3 => ?_)
  · exact kf (fun h => h3 h.2.2.1)
  refine zw_iload z87_33 rfl ?_
  refine zw_iconst z87_35 (v := iI 0) rfl ?_
  refine zw_iconst z87_36 (v := iI 2) rfl ?_
  refine zw_vs (n := 3) z87_37 rfl rfl (Nat.le_of_ble_eq_true rfl) (by omega) (sp_mWithin hc (by omega) (by omega)) ?_
  refine zj_b_ne z87_40 (fun h4 => ?_) (fun h4 => ?_)
  rotate_left
  · exact kf (fun h => h4 h.2.2.2)
  rw [if_pos ⟨h1, h2, h3, h4⟩]
  have m0 := hmA.1
  refine zw_aload_n z87_45 rfl ?_
  refine zw_iload_n z87_46 rfl ?_
  refine zj_putf z87_47 m0 (Nat.le_of_ble_eq_true rfl) (by rfl) (fun w2 n2 f2 => ?_)
  refine zw_aload_n z87_50 rfl ?_
  refine zw_iload_n z87_51 rfl ?_
  refine zj_putf z87_52 n2 (Nat.le_of_ble_eq_true rfl) (by rfl) (fun w3 n3 f3 => ?_)
  refine zw_aload_n z87_55 rfl ?_
  refine zw_iload_n z87_56 rfl ?_
  refine zj_putf z87_57 n3 (Nat.le_of_ble_eq_true rfl) (by rfl) (fun w4 n4 f4 => ?_)
  refine zw_aload_n z87_60 rfl ?_
  refine zw_iload z87_61 rfl ?_
  refine zj_putf z87_63 n4 (Nat.le_of_ble_eq_true rfl) (by rfl) (fun w5 n5 f5 => ?_)
  have hmB := mo_put (N' := nT N) (G' := iU (iU (iU (iU G 0 z) 1 y) 2 m) 3 c) hmA n5 ⟨f5.1.trans (f4.1.trans (f3.1.trans f2.1)), fun j hj => (f5.2 j hj).trans ((f4.2 j hj).trans ((f3.2 j hj).trans (f2.2 j hj)))⟩
  have m0 := hmB.1
  refine zw_aload_n z87_66 rfl ?_
  refine zw_cv (n := 2) z87_67 rfl rfl m0 (Nat.le_of_ble_eq_true rfl) (by omega) (sp_mWipe hmB) (fun v w6 cn6 sn6 h => ?_)
  obtain ⟨rfl, rfl, rfl, hmC, f6⟩ := h
  refine zw_iconst z87_70 (v := iI 1) rfl ?_
  exact zj_bret z87_71 rfl (by omega) ⟨_, rfl, rfl, rfl, rfl, hmC, ((((F1.step f2 (by omega)).step f3 (by omega)).step f4 (by omega)).step f5 (by omega)).trans f6⟩
abbrev mCaC (z y : Int) : Prop := (1 ≤ z ∧ z ≤ 4) ∧ (1 ≤ y ∧ y ≤ 13)
theorem sp_mCards (hm : moA w G N A) (hz : iR z) (hy : iR y) (hd : 2 ≤ d) (hq : 42 ≤ q) : zr L xs d q 88 [.ref 817, iV z, iV y] w cn sn (if mCaC z y then mR w cn sn (some (iV 1)) (iU (iU G 4 z) 5 y) (mWN (nT N)) (mWA A) else mR w cn sn (some (iV 0)) G (nT N) A) := by
  obtain ⟨d, rfl⟩ : ∃ e, d = e + 1 := ⟨d - 1, by omega⟩
  have m0 := hm.1
  refine ⟨_, rfl, ?_⟩
  show zw _ _ _ _ 88 0 [some (.ref 817), some (iV z), some (iV y)] [] _ _ _ _
  refine zw_aload_n z88_0 rfl ?_
  refine zw_iconst z88_1 (v := iI 0) rfl ?_
  refine zj_putf z88_2 m0 (Nat.le_of_ble_eq_true rfl) (by rfl) (fun w1 n1 f1 => ?_)
  have hmA := mo_put (N' := nT N) (G' := G) hm n1 f1
  have F1 : zF moS w w1 := zF.rf.step f1 (by omega)
  have kf : ¬ mCaC z y → zw L xs (d + 1) q 88 24 [some (.ref 817), some (iV z), some (iV y)] [] w1 cn sn (fun o w' cn' sn' => ∃ v, o = .inl v ∧ (if mCaC z y then mR w cn sn (some (iV 1)) (iU (iU G 4 z) 5 y) (mWN (nT N)) (mWA A) else mR w cn sn (some (iV 0)) G (nT N) A) v w' cn' sn') := by
    intro hn
    rw [if_neg hn]
    refine zw_iconst z88_24 (v := iI 0) rfl ?_
    exact zj_bret z88_25 rfl (by omega) ⟨_, rfl, rfl, rfl, rfl, hmA, F1⟩
  refine zw_iload_n z88_5 rfl ?_
  refine zw_iconst z88_6 (v := iI 1) rfl ?_
  refine zw_iconst z88_7 (v := iI 4) rfl ?_
  refine zw_vs (n := 3) z88_8 rfl rfl (Nat.le_of_ble_eq_true rfl) (by omega) (sp_mWithin hz (by omega) (by omega)) ?_
  refine zj_b_eq z88_11 (fun h1 => ?_) (fun h1 => ?_)
  · exact kf (fun h => h1 h.1)
  refine zw_iload_n z88_14 rfl ?_
  refine zw_iconst z88_15 (v := iI 1) rfl ?_
  refine zw_bipush z88_16 (v := iI (13)) (by decide +kernel) ?_
  refine zw_vs (n := 3) z88_18 rfl rfl (Nat.le_of_ble_eq_true rfl) (by omega) (sp_mWithin hy (by omega) (by omega)) ?_
  refine zj_b_ne z88_21 (fun h2 => ?_) (fun h2 => ?_)
  rotate_left
  · exact kf (fun h => h2 h.2)
  rw [if_pos ⟨h1, h2⟩]
  have m0 := hmA.1
  refine zw_aload_n z88_26 rfl ?_
  refine zw_iload_n z88_27 rfl ?_
  refine zj_putf z88_28 m0 (Nat.le_of_ble_eq_true rfl) (by rfl) (fun w2 n2 f2 => ?_)
  refine zw_aload_n z88_31 rfl ?_
  refine zw_iload_n z88_32 rfl ?_
  refine zj_putf z88_33 n2 (Nat.le_of_ble_eq_true rfl) (by rfl) (fun w3 n3 f3 => ?_)
  have hmB := mo_put (N' := nT N) (G' := iU (iU G 4 z) 5 y) hmA n3 ⟨f3.1.trans f2.1, fun j hj => (f3.2 j hj).trans (f2.2 j hj)⟩
  have m0 := hmB.1
  refine zw_aload_n z88_36 rfl ?_
  refine zw_cv (n := 2) z88_37 rfl rfl m0 (Nat.le_of_ble_eq_true rfl) (by omega) (sp_mWipe hmB) (fun v w6 cn6 sn6 h => ?_)
  obtain ⟨rfl, rfl, rfl, hmC, f6⟩ := h
  refine zw_iconst z88_40 (v := iI 1) rfl ?_
  exact zj_bret z88_41 rfl (by omega) ⟨_, rfl, rfl, rfl, rfl, hmC, ((F1.step f2 (by omega)).step f3 (by omega)).trans f6⟩
/-- card c is put on column z -/
def mPu (A : Nat → Nat → Int) (z c : Int) : Nat → Nat → Int := fU (fU A 0 (iU (A 0) (52 * z + A 1 z.toNat).toNat c)) 1 (iU (A 1) z.toNat (A 1 z.toNat + 1))
theorem sp_mPush (hm : moA w G N A) (hz : 0 ≤ z ∧ z < 8) (hh : 0 ≤ A 1 z.toNat ∧ A 1 z.toNat ≤ 51) : zr L xs d q 90 [.ref 817, iV z, iV c] w cn sn (mR w cn sn none G N (mPu A z c)) := by
  have hm9 := hm
  obtain ⟨m0, a0, a1, a2, a3, a4, a5, a6, a7, a8, a9, a10, a11, a12⟩ := hm9
  refine ⟨_, rfl, ?_⟩
  show zw _ _ _ _ 90 0 [some (.ref 817), some (iV z), some (iV c)] [] _ _ _ _
  refine zw_aload_n z90_0 rfl ?_
  refine zw_getf z90_1 (by assumption) (by rfl) ?_
  refine zw_bipush z90_4 (v := iI (52)) (by decide +kernel) ?_
  refine zw_iload_n z90_6 rfl ?_
  refine zj_mul z90_7 ?_
  refine zw_aload_n z90_8 rfl ?_
  refine zw_getf z90_9 (by assumption) (by rfl) ?_
  refine zw_iload_n z90_12 rfl ?_
  refine zj_ald z90_13 a1 (by omega) (by decide) ?_
  refine zj_add z90_14 ?_
  refine zw_iload_n z90_15 rfl ?_
  refine zj_astG z90_16 a0 (by omega) (by decide) (fun w1 n1 f1 => ?_)
  have hm1 := mo_a0 hm n1 f1
  have b0 := hm1.1
  have b1 : zi_get w1 819 = some (.inl (0, 8, .inl (iA (A 1)))) := hm1.2.2.1
  refine zw_aload_n z90_17 rfl ?_
  refine zw_getf z90_18 (by assumption) (by rfl) ?_
  refine zw_iload_n z90_21 rfl ?_
  refine zw_dup2 z90_22 ⟨rfl, rfl⟩ ?_
  refine zj_ald z90_23 b1 (by omega) (by decide) ?_
  refine zw_iconst z90_24 (v := iI 1) rfl ?_
  refine zj_add z90_25 ?_
  refine zj_astG z90_26 b1 (by omega) (by decide) (fun w2 n2 f2 => ?_)
  exact zw_vret z90_27 rfl ⟨_, rfl, rfl, rfl, rfl, mo_a1 hm1 n2 f2, (zF.rf.step f1 (by omega)).step f2 (by omega)⟩
/-- card c is taken from z; card c is given to y -/
def mTk (G : Nat → Int) (A : Nat → Nat → Int) (z c : Int) : Nat → Nat → Int := if z = 12 then fU A 3 (iU (A 3) (gSuit G c).toNat (A 3 (gSuit G c).toNat - 1)) else if gCel G z then fU A 2 (iU (A 2) (z - 8).toNat (-1)) else fU A 1 (iU (A 1) z.toNat (A 1 z.toNat - 1))
def mGv (G : Nat → Int) (A : Nat → Nat → Int) (y c : Int) : Nat → Nat → Int := if y = 12 then fU A 3 (iU (A 3) (gSuit G c).toNat (A 3 (gSuit G c).toNat + 1)) else if gCel G y then fU A 2 (iU (A 2) (y - 8).toNat c) else mPu A y c
theorem sp_mTake (hm : moA w G N A) (hG : gmV G) (hz : gPla G z) (hc : 0 ≤ c ∧ c < 52) (hd : 2 ≤ d) (hq : 43 ≤ q) : zr L xs d q 103 [.ref 817, iV z, iV c] w cn sn (mR w cn sn (some (iV c)) G N (mTk G A z c)) := by
  obtain ⟨d, rfl⟩ : ∃ e, d = e + 1 := ⟨d - 1, by omega⟩
  have hm9 := hm
  obtain ⟨m0, a0, a1, a2, a3, a4, a5, a6, a7, a8, a9, a10, a11, a12⟩ := hm9
  have hG' := hG
  unfold gmV at hG'
  have sc := gSuit_rng (c := c) hG
  refine ⟨_, rfl, ?_⟩
  show zw _ _ _ _ 103 0 [some (.ref 817), some (iV z), some (iV c)] [] _ _ _ _
  refine zw_iload_n z103_0 rfl ?_
  refine zw_bipush z103_1 (v := iI (12)) (by decide +kernel) ?_
  refine zj_icmp_ne z103_3 (by omega) (by omega) (fun h1 => ?_) (fun h1 => ?_)
  rotate_left
  · rw [show mTk G A z c = _ from if_pos (by omega)]
    refine zw_aload_n z103_6 rfl ?_
    refine zw_getf z103_7 (by assumption) (by rfl) ?_
    refine zw_aload_n z103_10 rfl ?_
    refine zw_iload_n z103_11 rfl ?_
    refine zw_vv (n := 2) z103_12 rfl rfl (by assumption) (Nat.le_of_ble_eq_true rfl) (by omega) (sp_mSuit hm hG hc) ?_
    refine zw_dup2 z103_15 ⟨rfl, rfl⟩ ?_
    refine zj_ald z103_16 a3 (by omega) (by decide) ?_
    refine zw_iconst z103_17 (v := iI 1) rfl ?_
    refine zj_sub z103_18 ?_
    refine zj_astG z103_19 a3 (by omega) (by decide) (fun w1 n1 f1 => ?_)
    refine zw_goto z103_20 ?_
    refine zw_iload_n z103_54 rfl ?_
    exact zw_iret z103_55 rfl ⟨_, rfl, rfl, rfl, rfl, mo_a3 hm n1 f1, zF.rf.step f1 (by omega)⟩
  refine zw_aload_n z103_23 rfl ?_
  refine zw_iload_n z103_24 rfl ?_
  refine zw_vv (n := 2) z103_25 rfl rfl (by assumption) (Nat.le_of_ble_eq_true rfl) (by omega) (sp_mIsCell hm hG (by omega) (by omega) (by omega)) ?_
  refine zj_b_eq z103_28 (fun h2 => ?_) (fun h2 => ?_)
  · rw [show mTk G A z c = _ from (if_neg h1).trans (if_neg h2)]
    refine zw_aload_n z103_44 rfl ?_
    refine zw_getf z103_45 (by assumption) (by rfl) ?_
    refine zw_iload_n z103_48 rfl ?_
    refine zw_dup2 z103_49 ⟨rfl, rfl⟩ ?_
    refine zj_ald z103_50 a1 (by omega) (by decide) ?_
    refine zw_iconst z103_51 (v := iI 1) rfl ?_
    refine zj_sub z103_52 ?_
    refine zj_astG z103_53 a1 (by omega) (by decide) (fun w1 n1 f1 => ?_)
    refine zw_iload_n z103_54 rfl ?_
    exact zw_iret z103_55 rfl ⟨_, rfl, rfl, rfl, rfl, mo_a1 hm n1 f1, zF.rf.step f1 (by omega)⟩
  · rw [show mTk G A z c = _ from (if_neg h1).trans (if_pos h2)]
    refine zw_aload_n z103_31 rfl ?_
    refine zw_getf z103_32 (by assumption) (by rfl) ?_
    refine zw_iload_n z103_35 rfl ?_
    refine zw_bipush z103_36 (v := iI (8)) (by decide +kernel) ?_
    refine zj_sub z103_38 ?_
    refine zw_iconst z103_39 (v := iI (-1)) rfl ?_
    refine zj_astG z103_40 a2 (by omega) (by decide) (fun w1 n1 f1 => ?_)
    refine zw_goto z103_41 ?_
    refine zw_iload_n z103_54 rfl ?_
    exact zw_iret z103_55 rfl ⟨_, rfl, rfl, rfl, rfl, mo_a2 hm n1 f1, zF.rf.step f1 (by omega)⟩
theorem sp_mGive (hm : moA w G N A) (hG : gmV G) (hy : gPla G y) (hc : 0 ≤ c ∧ c < 52) (hh : gCol G y → 0 ≤ A 1 y.toNat ∧ A 1 y.toNat ≤ 51) (hd : 2 ≤ d) (hq : 43 ≤ q) : zr L xs d q 104 [.ref 817, iV y, iV c] w cn sn (mR w cn sn none G N (mGv G A y c)) := by
  obtain ⟨d, rfl⟩ : ∃ e, d = e + 1 := ⟨d - 1, by omega⟩
  have hm9 := hm
  obtain ⟨m0, a0, a1, a2, a3, a4, a5, a6, a7, a8, a9, a10, a11, a12⟩ := hm9
  have hG' := hG
  unfold gmV at hG'
  have sc := gSuit_rng (c := c) hG
  refine ⟨_, rfl, ?_⟩
  show zw _ _ _ _ 104 0 [some (.ref 817), some (iV y), some (iV c)] [] _ _ _ _
  refine zw_iload_n z104_0 rfl ?_
  refine zw_bipush z104_1 (v := iI (12)) (by decide +kernel) ?_
  refine zj_icmp_ne z104_3 (by omega) (by omega) (fun h1 => ?_) (fun h1 => ?_)
  rotate_left
  · rw [show mGv G A y c = _ from if_pos (by omega)]
    refine zw_aload_n z104_6 rfl ?_
    refine zw_getf z104_7 (by assumption) (by rfl) ?_
    refine zw_aload_n z104_10 rfl ?_
    refine zw_iload_n z104_11 rfl ?_
    refine zw_vv (n := 2) z104_12 rfl rfl (by assumption) (Nat.le_of_ble_eq_true rfl) (by omega) (sp_mSuit hm hG hc) ?_
    refine zw_dup2 z104_15 ⟨rfl, rfl⟩ ?_
    refine zj_ald z104_16 a3 (by omega) (by decide) ?_
    refine zw_iconst z104_17 (v := iI 1) rfl ?_
    refine zj_add z104_18 ?_
    refine zj_astG z104_19 a3 (by omega) (by decide) (fun w1 n1 f1 => ?_)
    refine zw_goto z104_20 ?_
    exact zw_vret z104_50 rfl ⟨_, rfl, rfl, rfl, rfl, mo_a3 hm n1 f1, zF.rf.step f1 (by omega)⟩
  refine zw_aload_n z104_23 rfl ?_
  refine zw_iload_n z104_24 rfl ?_
  refine zw_vv (n := 2) z104_25 rfl rfl (by assumption) (Nat.le_of_ble_eq_true rfl) (by omega) (sp_mIsCell hm hG (by omega) (by omega) (by omega)) ?_
  refine zj_b_eq z104_28 (fun h2 => ?_) (fun h2 => ?_)
  · rw [show mGv G A y c = _ from (if_neg h1).trans (if_neg h2)]
    refine zw_aload_n z104_44 rfl ?_
    refine zw_iload_n z104_45 rfl ?_
    refine zw_iload_n z104_46 rfl ?_
    refine zw_cv (n := 3) z104_47 rfl rfl m0 (Nat.le_of_ble_eq_true rfl) (by omega) (sp_mPush hm (by omega) (hh (by omega))) (fun v w1 cn1 sn1 h => ?_)
    obtain ⟨rfl, rfl, rfl, hm1, f1⟩ := h
    exact zw_vret z104_50 rfl ⟨_, rfl, rfl, rfl, rfl, hm1, f1⟩
  · rw [show mGv G A y c = _ from (if_neg h1).trans (if_pos h2)]
    refine zw_aload_n z104_31 rfl ?_
    refine zw_getf z104_32 (by assumption) (by rfl) ?_
    refine zw_iload_n z104_35 rfl ?_
    refine zw_bipush z104_36 (v := iI (8)) (by decide +kernel) ?_
    refine zj_sub z104_38 ?_
    refine zw_iload_n z104_39 rfl ?_
    refine zj_astG z104_40 a2 (by omega) (by decide) (fun w1 n1 f1 => ?_)
    refine zw_goto z104_41 ?_
    exact zw_vret z104_50 rfl ⟨_, rfl, rfl, rfl, rfl, mo_a2 hm n1 f1, zF.rf.step f1 (by omega)⟩
end ZMW
