/-! Whole numbers in runs: an int by its number, and rules on them. -/
def iI (z : Int) : Int32 := Int32.ofInt z
abbrev iV (z : Int) : Value := .int (iI z)
def iA (f : Nat → Int) : Nat → Int32 := fun j => iI (f j)
def iU (f : Nat → Int) (n : Nat) (z : Int) : Nat → Int := fun j => if j = n then z else f j
abbrev iR (z : Int) : Prop := -2147483648 ≤ z ∧ z < 2147483648
theorem iI_toInt {z : Int} (h : iR z) : (iI z).toInt = z := Int32.toInt_ofInt_of_le (by omega) (by omega)
theorem iI_of (x : Int32) : iI x.toInt = x := Int32.ofInt_toInt x
theorem iI_rng (x : Int32) : iR x.toInt := ⟨Int32.le_toInt x, Int32.toInt_lt x⟩
theorem iI_ex (x : Int32) : ∃ z : Int, iR z ∧ x = iI z := ⟨x.toInt, iI_rng x, (iI_of x).symm⟩
theorem iI_lt {a b : Int} (ha : iR a) (hb : iR b) : iI a < iI b ↔ a < b := by rw [Int32.lt_iff_toInt_lt, iI_toInt ha, iI_toInt hb]
theorem iI_le {a b : Int} (ha : iR a) (hb : iR b) : iI a ≤ iI b ↔ a ≤ b := by rw [Int32.le_iff_toInt_le, iI_toInt ha, iI_toInt hb]
theorem iI_eq {a b : Int} (ha : iR a) (hb : iR b) : iI a = iI b ↔ a = b := by
  constructor
  · intro h
    rw [← iI_toInt ha, ← iI_toInt hb, h]
  · intro h; rw [h]
theorem iI_add (a b : Int) : iI a + iI b = iI (a + b) := (Int32.ofInt_add a b).symm
theorem iI_sub (a b : Int) : iI a - iI b = iI (a - b) := (Int32.ofInt_sub a b).symm
theorem iI_mul (a b : Int) : iI a * iI b = iI (a * b) := (Int32.ofInt_mul a b).symm
theorem iI_clamp {z : Int} (h : iR z) : (iI z).toNatClampNeg = z.toNat := Int32.toNatClampNeg_ofInt_of_le (by omega) (by omega)
theorem iI_0 : iI 0 = 0 := by decide +kernel
theorem iI_nat (n : Nat) : Int32.ofNat n = iI (n : Int) := Int32.ofInt_eq_ofNat.symm
theorem iI_div {a b : Int} (ha : 0 ≤ a ∧ a < 2147483648) (hb : 0 < b ∧ b < 2147483648) : iI a / iI b = iI (a / b) := by
  apply Int32.toInt_inj.mp
  have h1 : 0 ≤ a / b := Int.ediv_nonneg ha.1 (by omega)
  have h2 : a / b ≤ a := Int.ediv_le_self b ha.1
  rw [Int32.toInt_div_of_ne_left _ _ (fun q => by have := congrArg Int32.toInt q; rw [iI_toInt (by omega)] at this; rw [show Int32.minValue.toInt = -2147483648 by decide +kernel] at this; omega), iI_toInt (by omega), iI_toInt (by omega), iI_toInt (by omega), Int.tdiv_eq_ediv_of_nonneg ha.1]
theorem iI_rem {a b : Int} (ha : 0 ≤ a ∧ a < 2147483648) (hb : 0 < b ∧ b < 2147483648) : iI a - iI a / iI b * iI b = iI (a % b) := by
  rw [iI_div ha hb, iI_mul, iI_sub, Int.mul_comm, ← Int.emod_def]
theorem iI_in {z : Int} {n : Nat} (h : 0 ≤ z ∧ z < n) (hn : n ≤ 2147483647) : zi_in (iI z) n := by
  rintro (q | q)
  · rw [← iI_0, iI_lt (by omega) (by omega)] at q; omega
  · rw [iI_clamp (by omega)] at q; omega
theorem iA_upd (f : Nat → Int) (n : Nat) (z : Int) : upd (iA f) n (iI z) = iA (iU f n z) := by
  funext j
  unfold upd iA iU
  split <;> rfl
theorem iU_same (f : Nat → Int) (n : Nat) (z : Int) : iU f n z n = z := if_pos rfl
theorem iU_ne (f : Nat → Int) {n j : Nat} (z : Int) (h : j ≠ n) : iU f n z j = f j := if_neg h
theorem iA_at (f : Nat → Int) (j : Nat) : iA f j = iI (f j) := rfl
section ZJ
variable {L : Nat} {xs : Nat → Int32} {d q k pc p t : Nat} {ls : zi_L} {st : List Value} {w : zi_W} {cn sn : Nat} {Q : zi_O → zi_W → Nat → Nat → Prop}
theorem zj_add {a b : Int} (hc : za k pc .iadd p) (kk : zw L xs d q k p ls (iV (a + b) :: st) w cn sn Q) : zw L xs d q k pc ls (iV b :: iV a :: st) w cn sn Q := zw_iadd hc (by rw [iI_add]; exact kk)
theorem zj_sub {a b : Int} (hc : za k pc .isub p) (kk : zw L xs d q k p ls (iV (a - b) :: st) w cn sn Q) : zw L xs d q k pc ls (iV b :: iV a :: st) w cn sn Q := zw_isub hc (by rw [iI_sub]; exact kk)
theorem zj_mul {a b : Int} (hc : za k pc .imul p) (kk : zw L xs d q k p ls (iV (a * b) :: st) w cn sn Q) : zw L xs d q k pc ls (iV b :: iV a :: st) w cn sn Q := zw_imul hc (by rw [iI_mul]; exact kk)
theorem zj_div {a b : Int} (hc : za k pc .idiv p) (ha : 0 ≤ a ∧ a < 2147483648) (hb : 0 < b ∧ b < 2147483648) (kk : zw L xs d q k p ls (iV (a / b) :: st) w cn sn Q) : zw L xs d q k pc ls (iV b :: iV a :: st) w cn sn Q :=
  zw_idiv hc (fun h => by rw [← iI_0, iI_eq (by omega) (by omega)] at h; omega) (by rw [iI_div ha hb]; exact kk)
theorem zj_rem {a b : Int} (hc : za k pc .irem p) (ha : 0 ≤ a ∧ a < 2147483648) (hb : 0 < b ∧ b < 2147483648) (kk : zw L xs d q k p ls (iV (a % b) :: st) w cn sn Q) : zw L xs d q k pc ls (iV b :: iV a :: st) w cn sn Q :=
  zw_irem hc (fun h => by rw [← iI_0, iI_eq (by omega) (by omega)] at h; omega) (by rw [iI_rem ha hb]; exact kk)
theorem zj_iinc {j : Nat} {n z : Int} {ls' : zi_L} (hc : za k pc (.iinc j n) p) (hl : zi_loc ls j = some (iV z)) (hs : zi_set1 ls j (iV (z + n)) = some ls') (kk : zw L xs d q k p ls' st w cn sn Q) : zw L xs d q k pc ls st w cn sn Q :=
  zw_iinc hc hl (iI_add z n) hs kk
theorem zj_ald {r n : Nat} {z : Int} {f : Nat → Int} (hc : za k pc .iaload p) (hg : zi_get w r = some (.inl (0, n, .inl (iA f)))) (hj : 0 ≤ z ∧ z < n) (hn : n ≤ 2147483647) (kk : zw L xs d q k p ls (iV (f z.toNat) :: st) w cn sn Q) : zw L xs d q k pc ls (iV z :: .ref r :: st) w cn sn Q :=
  zw_iald hc hg (iI_in hj hn) (by rw [iI_clamp (by omega)]; exact kk)
theorem zj_bld {r n : Nat} {z : Int} {f : Nat → Int} (hc : za k pc .baload p) (hg : zi_get w r = some (.inl (1, n, .inl (iA f)))) (hj : 0 ≤ z ∧ z < n) (hn : n ≤ 2147483647) (kk : zw L xs d q k p ls (iV (f z.toNat) :: st) w cn sn Q) : zw L xs d q k pc ls (iV z :: .ref r :: st) w cn sn Q :=
  zw_bald hc hg (iI_in hj hn) (by rw [iI_clamp (by omega)]; exact kk)
theorem zj_ast {r n : Nat} {z x : Int} {f : Nat → Int} (hc : za k pc .iastore p) (hg : zi_get w r = some (.inl (0, n, .inl (iA f)))) (hj : 0 ≤ z ∧ z < n) (hn : n ≤ 2147483647) (kk : zw L xs d q k p ls st (w.set r (.inl (0, n, .inl (iA (iU f z.toNat x))))) cn sn Q) : zw L xs d q k pc ls (iV x :: iV z :: .ref r :: st) w cn sn Q :=
  zw_iast hc hg (iI_in hj hn) (by rw [iI_clamp (by omega), iA_upd]; exact kk)
theorem zj_bst {r n : Nat} {z x : Int} {f : Nat → Int} (hc : za k pc .bastore p) (hg : zi_get w r = some (.inl (1, n, .inl (iA f)))) (hj : 0 ≤ z ∧ z < n) (hn : n ≤ 2147483647) (hx : x = 0 ∨ x = 1) (kk : zw L xs d q k p ls st (w.set r (.inl (1, n, .inl (iA (iU f z.toNat x))))) cn sn Q) : zw L xs d q k pc ls (iV x :: iV z :: .ref r :: st) w cn sn Q :=
  zw_bast hc hg (iI_in hj hn) (by rcases hx with rfl | rfl; left; decide +kernel; right; decide +kernel) (by rw [iI_clamp (by omega), iA_upd]; exact kk)
theorem zj_ald3 {r n v : Nat} {z : Int} {f : Nat → Option Nat} (hc : za k pc .aaload p) (hg : zi_get w r = some (.inl (3, n, .inr (.inr (.inr (.inr f)))))) (hj : 0 ≤ z ∧ z < n) (hn : n ≤ 2147483647) (hv : f z.toNat = some v) (kk : zw L xs d q k p ls (.ref v :: st) w cn sn Q) : zw L xs d q k pc ls (iV z :: .ref r :: st) w cn sn Q :=
  zw_aald hc hg (iI_in hj hn) (by rw [iI_clamp (by omega)]; exact hv) kk
theorem zj_alen {r n : Nat} {f : Nat → Int32} (hc : za k pc .arraylength p) (hg : zi_get w r = some (.inl (0, n, .inl f))) (kk : zw L xs d q k p ls (iV n :: st) w cn sn Q) : zw L xs d q k pc ls (.ref r :: st) w cn sn Q :=
  zw_alen hc hg (by rw [iI_nat]; exact kk)
theorem zj_bret {z : Int} (hc : za k pc .ireturn p) (hr : zi_r zp k = some .boolean) (hx : z = 0 ∨ z = 1) (kk : Q (.inl (some (iV z))) w cn sn) : zw L xs d q k pc ls [iV z] w cn sn Q :=
  zw_bret hc hr (by rcases hx with rfl | rfl; left; decide +kernel; right; decide +kernel) kk
theorem zj_if_eq {a : Int} (hc : zb (.ifCond .eq) k pc t p) (ha : iR a) (kt : a = 0 → zw L xs d q k t ls st w cn sn Q) (kf : ¬ (a = 0) → zw L xs d q k p ls st w cn sn Q) : zw L xs d q k pc ls (iV a :: st) w cn sn Q :=
  zw_if_eq hc (fun h => kt ((iI_eq ha (by omega)).mp (by rw [iI_0]; exact h))) (fun h => kf (fun z => h (by have z2 := (iI_eq ha (by omega)).mpr z; rw [iI_0] at z2; exact z2)))
theorem zj_if_ne {a : Int} (hc : zb (.ifCond .ne) k pc t p) (ha : iR a) (kt : ¬ a = 0 → zw L xs d q k t ls st w cn sn Q) (kf : ¬ (¬ a = 0) → zw L xs d q k p ls st w cn sn Q) : zw L xs d q k pc ls (iV a :: st) w cn sn Q :=
  zw_if_ne hc (fun h => kt ((not_congr (iI_eq ha (by omega))).mp (by rw [iI_0]; exact h))) (fun h => kf (fun z => h (by have z2 := (not_congr (iI_eq ha (by omega))).mpr z; rw [iI_0] at z2; exact z2)))
theorem zj_if_lt {a : Int} (hc : zb (.ifCond .lt) k pc t p) (ha : iR a) (kt : a < 0 → zw L xs d q k t ls st w cn sn Q) (kf : ¬ (a < 0) → zw L xs d q k p ls st w cn sn Q) : zw L xs d q k pc ls (iV a :: st) w cn sn Q :=
  zw_if_lt hc (fun h => kt ((iI_lt ha (by omega)).mp (by rw [iI_0]; exact h))) (fun h => kf (fun z => h (by have z2 := (iI_lt ha (by omega)).mpr z; rw [iI_0] at z2; exact z2)))
theorem zj_if_ge {a : Int} (hc : zb (.ifCond .ge) k pc t p) (ha : iR a) (kt : 0 ≤ a → zw L xs d q k t ls st w cn sn Q) (kf : ¬ (0 ≤ a) → zw L xs d q k p ls st w cn sn Q) : zw L xs d q k pc ls (iV a :: st) w cn sn Q :=
  zw_if_ge hc (fun h => kt ((iI_le (by omega) ha).mp (by rw [iI_0]; exact h))) (fun h => kf (fun z => h (by have z2 := (iI_le (by omega) ha).mpr z; rw [iI_0] at z2; exact z2)))
theorem zj_if_gt {a : Int} (hc : zb (.ifCond .gt) k pc t p) (ha : iR a) (kt : 0 < a → zw L xs d q k t ls st w cn sn Q) (kf : ¬ (0 < a) → zw L xs d q k p ls st w cn sn Q) : zw L xs d q k pc ls (iV a :: st) w cn sn Q :=
  zw_if_gt hc (fun h => kt ((iI_lt (by omega) ha).mp (by rw [iI_0]; exact h))) (fun h => kf (fun z => h (by have z2 := (iI_lt (by omega) ha).mpr z; rw [iI_0] at z2; exact z2)))
theorem zj_if_le {a : Int} (hc : zb (.ifCond .le) k pc t p) (ha : iR a) (kt : a ≤ 0 → zw L xs d q k t ls st w cn sn Q) (kf : ¬ (a ≤ 0) → zw L xs d q k p ls st w cn sn Q) : zw L xs d q k pc ls (iV a :: st) w cn sn Q :=
  zw_if_le hc (fun h => kt ((iI_le ha (by omega)).mp (by rw [iI_0]; exact h))) (fun h => kf (fun z => h (by have z2 := (iI_le ha (by omega)).mpr z; rw [iI_0] at z2; exact z2)))
theorem zj_icmp_eq {a b : Int} (hc : zb (.if_icmp .eq) k pc t p) (ha : iR a) (hb : iR b) (kt : a = b → zw L xs d q k t ls st w cn sn Q) (kf : ¬ (a = b) → zw L xs d q k p ls st w cn sn Q) : zw L xs d q k pc ls (iV b :: iV a :: st) w cn sn Q :=
  zw_icmp_eq hc (fun h => kt ((iI_eq ha hb).mp h)) (fun h => kf (fun z => h ((iI_eq ha hb).mpr z)))
theorem zj_icmp_ne {a b : Int} (hc : zb (.if_icmp .ne) k pc t p) (ha : iR a) (hb : iR b) (kt : ¬ a = b → zw L xs d q k t ls st w cn sn Q) (kf : ¬ (¬ a = b) → zw L xs d q k p ls st w cn sn Q) : zw L xs d q k pc ls (iV b :: iV a :: st) w cn sn Q :=
  zw_icmp_ne hc (fun h => kt ((not_congr (iI_eq ha hb)).mp h)) (fun h => kf (fun z => h ((not_congr (iI_eq ha hb)).mpr z)))
theorem zj_icmp_lt {a b : Int} (hc : zb (.if_icmp .lt) k pc t p) (ha : iR a) (hb : iR b) (kt : a < b → zw L xs d q k t ls st w cn sn Q) (kf : ¬ (a < b) → zw L xs d q k p ls st w cn sn Q) : zw L xs d q k pc ls (iV b :: iV a :: st) w cn sn Q :=
  zw_icmp_lt hc (fun h => kt ((iI_lt ha hb).mp h)) (fun h => kf (fun z => h ((iI_lt ha hb).mpr z)))
theorem zj_icmp_ge {a b : Int} (hc : zb (.if_icmp .ge) k pc t p) (ha : iR a) (hb : iR b) (kt : b ≤ a → zw L xs d q k t ls st w cn sn Q) (kf : ¬ (b ≤ a) → zw L xs d q k p ls st w cn sn Q) : zw L xs d q k pc ls (iV b :: iV a :: st) w cn sn Q :=
  zw_icmp_ge hc (fun h => kt ((iI_le hb ha).mp h)) (fun h => kf (fun z => h ((iI_le hb ha).mpr z)))
theorem zj_icmp_gt {a b : Int} (hc : zb (.if_icmp .gt) k pc t p) (ha : iR a) (hb : iR b) (kt : b < a → zw L xs d q k t ls st w cn sn Q) (kf : ¬ (b < a) → zw L xs d q k p ls st w cn sn Q) : zw L xs d q k pc ls (iV b :: iV a :: st) w cn sn Q :=
  zw_icmp_gt hc (fun h => kt ((iI_lt hb ha).mp h)) (fun h => kf (fun z => h ((iI_lt hb ha).mpr z)))
theorem zj_icmp_le {a b : Int} (hc : zb (.if_icmp .le) k pc t p) (ha : iR a) (hb : iR b) (kt : a ≤ b → zw L xs d q k t ls st w cn sn Q) (kf : ¬ (a ≤ b) → zw L xs d q k p ls st w cn sn Q) : zw L xs d q k pc ls (iV b :: iV a :: st) w cn sn Q :=
  zw_icmp_le hc (fun h => kt ((iI_le ha hb).mp h)) (fun h => kf (fun z => h ((iI_le ha hb).mpr z)))
end ZJ
/-- what a world holds after one cell is set -/
theorem zi_get_set {w : zi_W} {a b : Nat} {c : va_E} (h : b ≠ a) : zi_get (w.set a c) b = zi_get w b := by
  unfold zi_get
  split
  · rfl
  · rw [List.getElem?_set_ne (Ne.symm h)]
theorem zi_get_self {w : zi_W} {a : Nat} {c c0 : va_E} (h : zi_get w a = some c0) : zi_get (w.set a c) a = some c := by
  unfold zi_get at h ⊢
  split at h
  · cases h
  · rename_i hx
    rw [if_neg hx, List.getElem?_set_self (List.getElem?_eq_some_iff.mp h).1]
