/-! The class Search: a position is reached. (Laid out by gen/tpl.py from tpl/50.reach.tpl.) -/
def fU {α : Type} (f : Nat → α) (n : Nat) (v : α) : Nat → α := fun j => if j = n then v else f j
theorem fU_same {α : Type} (f : Nat → α) (n : Nat) (v : α) : fU f n v n = v := if_pos rfl
theorem fU_ne {α : Type} (f : Nat → α) {n j : Nat} (v : α) (h : j ≠ n) : fU f n v j = f j := if_neg h
/-- a layout as one value Y: Y 0 beneath, Y 1 tops, Y 2 ranks at home, Y 3 0 laid, Y 3 1 at home -/
abbrev lyY (w : zi_W) (a : Nat) (Y : Nat → Nat → Int) : Prop := lyA w a (Y 0) (Y 1) (Y 2) (Y 3 0) (Y 3 1)
abbrev lyW (Y : Nat → Nat → Int) : Prop := lyV (Y 0) (Y 1) (Y 2) (Y 3 0) (Y 3 1)
/-- the search: numbers N (0 fuel, 1 count, 2 too many, 3 first step, 4 passed), arrays A (0 hashes, 1 first steps, 2 slots), layouts F -/
def seA (w : zi_W) (N : Nat → Int) (A : Nat → Nat → Int) (F : Nat → Nat → Nat → Int) : Prop := srA w (N 0) (N 1) (N 2) (N 3) (N 4) (A 0) (A 1) (A 2) ∧ ∀ j, j < 200 → lyY w (16 + 4 * j) (F j)
def seV (N : Nat → Int) (A : Nat → Nat → Int) (F : Nat → Nat → Nat → Int) : Prop := (1 ≤ N 0 ∧ N 0 ≤ 200) ∧ (1 ≤ N 1 ∧ N 1 ≤ N 0) ∧ (N 2 = 0 ∨ N 2 = 1) ∧ (-1 ≤ N 3 ∧ N 3 ≤ 300) ∧ (0 ≤ N 4 ∧ N 4 ≤ 200) ∧ (∀ j, iR (A 0 j)) ∧ (∀ j, 0 ≤ A 1 j ∧ A 1 j ≤ 300) ∧ (∀ j, 0 ≤ A 2 j ∧ A 2 j ≤ 200) ∧ ∀ j, lyW (F j)
abbrev seS : Nat → Prop := fun j => j = 11 ∨ (13 ≤ j ∧ j ≤ 815)
/-- card c, the lowest of what goes, is carried from z to y -/
def cY (G : Nat → Int) (Y : Nat → Nat → Int) (c z y : Int) : Nat → Nat → Int
  | 0 => cB (Y 0) (Y 1) c y
  | 1 => cT (Y 0) (Y 1) c z y
  | 2 => cH G (Y 2) c z y
  | _ => fun i => if i = 0 then Y 3 0 else cA (Y 3 1) z y
def yCp (X Y : Nat → Nat → Int) : Nat → Nat → Int
  | 0 => iCp (X 0) (Y 0) 52
  | 1 => iCp (X 1) (Y 1) 12
  | 2 => iCp (X 2) (Y 2) 4
  | _ => X 3
theorem lyA.keep {w w' : zi_W} {a : Nat} {b t h : Nat → Int} {la ah : Int} (hy : lyA w a b t h la ah) (hk : ∀ j, a ≤ j → j ≤ a + 3 → zi_get w' j = zi_get w j) : lyA w' a b t h la ah :=
  ⟨(hk a (by omega) (by omega)).trans hy.1, (hk (a + 1) (by omega) (by omega)).trans hy.2.1, (hk (a + 2) (by omega) (by omega)).trans hy.2.2.1, (hk (a + 3) (by omega) (by omega)).trans hy.2.2.2⟩
/-- what reach does -/
abbrev rSt (A : Nat → Nat → Int) (n : Nat) (z y : Int) : Int := if n = 0 then 16 * z + y else A 1 n
abbrev rCd (F : Nat → Nat → Nat → Int) (n : Nat) (z : Int) : Int := F n 1 z.toNat
abbrev rHs (A : Nat → Nat → Int) (F : Nat → Nat → Nat → Int) (n : Nat) (z y : Int) : Int := nm (A 0 n - sh (rCd F n z) (F n 0 (rCd F n z).toNat) + sh (rCd F n z) (lGrd (F n 1) y))
abbrev rSl (G : Nat → Int) (A : Nat → Nat → Int) (F : Nat → Nat → Nat → Int) (n : Nat) (z y : Int) : Int := lSlot G (A 2) (A 0) (fun j => F j 0) (F n 0) (rCd F n z) (lGrd (F n 1) y) (rHs A F n z y)
abbrev SS : Type := (Nat → Int) × (Nat → Nat → Int) × (Nat → Nat → Nat → Int)
def rc (G : Nat → Int) (σ : SS) (n : Nat) (z y : Int) : SS :=
  if y = 12 ∧ σ.2.2 n 3 1 + 1 = gAll G then (iU σ.1 3 (rSt σ.2.1 n z y), σ.2.1, σ.2.2)
  else if σ.1 2 = 1 then σ
  else if σ.2.1 2 (rSl G σ.2.1 σ.2.2 n z y).toNat ≠ 0 then σ
  else if σ.1 0 ≤ σ.1 1 then (iU σ.1 2 1, σ.2.1, σ.2.2)
  else (iU σ.1 1 (σ.1 1 + 1), fU (fU (fU σ.2.1 0 (iU (σ.2.1 0) (σ.1 1).toNat (rHs σ.2.1 σ.2.2 n z y))) 1 (iU (σ.2.1 1) (σ.1 1).toNat (rSt σ.2.1 n z y))) 2 (iU (σ.2.1 2) (rSl G σ.2.1 σ.2.2 n z y).toNat (σ.1 1 + 1)), fU σ.2.2 (σ.1 1).toNat (cY G (yCp (σ.2.2 n) (σ.2.2 (σ.1 1).toNat)) (rCd σ.2.2 n z) z y))
section ZRC
variable {L : Nat} {xs : Nat → Int32} {d q : Nat} {w : zi_W} {cn sn : Nat} {Q : zi_O → zi_W → Nat → Nat → Prop} {G N : Nat → Int} {A : Nat → Nat → Int} {F : Nat → Nat → Nat → Int} {z y : Int}
theorem seA.found {w' : zi_W} (hk : ∀ j, 16 ≤ j → zi_get w' j = zi_get w j) (h : ∀ j, j < 200 → lyY w (16 + 4 * j) (F j)) : ∀ j, j < 200 → lyY w' (16 + 4 * j) (F j) := fun j hj => (h j hj).keep fun i h1 _ => hk i (by omega)
theorem rSl_rng {n : Nat} : 0 ≤ rSl G A F n z y ∧ rSl G A F n z y < 512 := by
  have key : ∀ (m : Nat) (s : Int) (S2 H : Nat → Int) (Fb : Nat → Nat → Int) (b : Nat → Int) (mv gr hs : Int) (M : Nat), 0 ≤ s ∧ s < 512 → 0 ≤ slF S2 H Fb b mv gr hs M m s ∧ slF S2 H Fb b mv gr hs M m s < 512 := by
    intro m
    induction m with
    | zero => intro s S2 H Fb b mv gr hs M h; exact h
    | succ m ih =>
      intro s S2 H Fb b mv gr hs M h
      by_cases h0 : S2 s.toNat = 0
      · rw [slF_0 h0]; exact h
      · by_cases h1 : H (S2 s.toNat - 1).toNat = hs ∧ lAk (Fb (S2 s.toNat - 1).toNat) b mv gr 0 M
        · rw [slF_1 h1]; exact h
        · rw [slF_s h0 h1]; exact ih _ _ _ _ _ _ _ _ _ (sl0_rng _)
  exact key _ _ _ _ _ _ _ _ _ _ (sl0_rng _)
end ZRC
