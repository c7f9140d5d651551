/-! The places where the program throws. -/
def zx_exc : Nat → String
  | 0 => "java/lang/IllegalArgumentException"
  | 1 => "java/lang/IllegalStateException"
  | 2 => "java/util/NoSuchElementException"
  | _ => ""
def zx_b13 : ByteArray := ⟨#[0x2a, 0x2b, 0xb7, 0x00, 0x0d, 0xb1]⟩
def zc_mem (w : Cond) : Bool := decide (w ∈ lw_tbl) && zp_good w
theorem zc_mem_ok {w : Cond} (h : zc_mem w = true) : w ∈ zp_TS := by
  unfold zc_mem at h
  rw [Bool.and_eq_true, decide_eq_true_eq] at h
  exact List.mem_filter.mpr h
def zc_own (C : String) (ic i1 : Nat) (b1 : ByteArray) : Bool := (zx_own "PatienceTable" ic C "java/lang/RuntimeException" ["java/lang/Exception"] i1 b1).all (fun a => (zc_mem a && (a.onTables && a.keeps)) || (decide (a ∈ zx_ws) && zx_kind a))
theorem zc_own_ok {C : String} {ic i1 : Nat} {b1 : ByteArray} (h : zc_own C ic i1 b1 = true) : ∀ a ∈ zx_own "PatienceTable" ic C "java/lang/RuntimeException" ["java/lang/Exception"] i1 b1, (a ∈ zp_TS ∧ (a.onTables && a.keeps) = true) ∨ (a ∈ zx_ws ∧ zx_kind a = true) := by
  intro a ha
  have h1 := List.all_eq_true.mp h a ha
  rw [Bool.or_eq_true] at h1
  rcases h1 with q | q
  · rw [Bool.and_eq_true] at q
    exact Or.inl ⟨zc_mem_ok q.1, q.2⟩
  · rw [Bool.and_eq_true, decide_eq_true_eq] at q
    exact Or.inr q
theorem zc_own0 : zc_own "java/lang/IllegalArgumentException" 76 7 Bundle.six = true := by decide +kernel
theorem zc_own1 : zc_own "java/lang/IllegalStateException" 113 7 Bundle.six = true := by decide +kernel
theorem zc_own2 : zc_own "java/util/NoSuchElementException" 158 13 zx_b13 = true := by decide +kernel
def zc_ini (C : String) (ix : Nat) : Bool := zc_mem (.classLink "PatienceTable" ix C) && (zc_mem (.instantiable C 6) && zc_mem (.initialized C))
theorem zc_ini0 : zc_ini "java/lang/IllegalArgumentException" 72 = true := by decide +kernel
theorem zc_ini1 : zc_ini "java/lang/IllegalStateException" 109 = true := by decide +kernel
theorem zc_ini2 : zc_ini "java/util/NoSuchElementException" 154 = true := by decide +kernel
theorem zc_ini_ok {C : String} {ix : Nat} (h : zc_ini C ix = true) : Cond.classLink "PatienceTable" ix C ∈ zp_TS ∧ Cond.instantiable C 6 ∈ zp_TS ∧ Cond.initialized C ∈ zp_TS := by
  unfold zc_ini at h
  rw [Bool.and_eq_true, Bool.and_eq_true] at h
  exact ⟨zc_mem_ok h.1, zc_mem_ok h.2.1, zc_mem_ok h.2.2⟩
theorem zp_thr_mem {k pc ex : Nat} (h : zi_thr zp k pc = some ex) : (k, pc, ex) ∈ zp_th := by
  have h : zp_thr k pc = some ex := h
  unfold zp_thr at h
  rw [Option.map_eq_some_iff] at h
  obtain ⟨q, hq, rfl⟩ := h
  have h1 := List.find?_some hq
  have h2 := List.mem_of_find?_eq_some hq
  obtain ⟨a, b, c⟩ := q
  rw [Bool.and_eq_true] at h1
  have e1 : a = k := by simpa using h1.1
  have e2 : b = pc := by simpa using h1.2
  subst e1; subst e2
  exact h2
theorem zc_cd11 : zc_mem (Cond.code (zi_y zp 11) (zi_b zp 11) (zi_n zp 11) (zi_r zp 11)) = true := by decide +kernel
theorem zc_cd13 : zc_mem (Cond.code (zi_y zp 13) (zi_b zp 13) (zi_n zp 13) (zi_r zp 13)) = true := by decide +kernel
theorem zc_cd14 : zc_mem (Cond.code (zi_y zp 14) (zi_b zp 14) (zi_n zp 14) (zi_r zp 14)) = true := by decide +kernel
theorem zc_cd15 : zc_mem (Cond.code (zi_y zp 15) (zi_b zp 15) (zi_n zp 15) (zi_r zp 15)) = true := by decide +kernel
theorem zc_cd16 : zc_mem (Cond.code (zi_y zp 16) (zi_b zp 16) (zi_n zp 16) (zi_r zp 16)) = true := by decide +kernel
theorem zc_cd17 : zc_mem (Cond.code (zi_y zp 17) (zi_b zp 17) (zi_n zp 17) (zi_r zp 17)) = true := by decide +kernel
theorem zc_cd22 : zc_mem (Cond.code (zi_y zp 22) (zi_b zp 22) (zi_n zp 22) (zi_r zp 22)) = true := by decide +kernel
theorem zc_t11_11 : decode (zi_b zp 11) 11 = .ok (.new 72, 3) ∧ decode (zi_b zp 11) (11 + 3) = .ok (.dup, 1) ∧ decode (zi_b zp 11) (11 + 3 + 1) = .ok (.ldc 74, 2) ∧ decode (zi_b zp 11) (11 + 3 + 1 + 2) = .ok (.invokespecial 76, 3) ∧ decode (zi_b zp 11) (11 + 3 + 1 + 2 + 3) = .ok (.athrow, 1) := ⟨by decide +kernel, by decide +kernel, by decide +kernel, by decide +kernel, by decide +kernel⟩
theorem zc_t13_22 : decode (zi_b zp 13) 22 = .ok (.new 72, 3) ∧ decode (zi_b zp 13) (22 + 3) = .ok (.dup, 1) ∧ decode (zi_b zp 13) (22 + 3 + 1) = .ok (.ldc 104, 2) ∧ decode (zi_b zp 13) (22 + 3 + 1 + 2) = .ok (.invokespecial 76, 3) ∧ decode (zi_b zp 13) (22 + 3 + 1 + 2 + 3) = .ok (.athrow, 1) := ⟨by decide +kernel, by decide +kernel, by decide +kernel, by decide +kernel, by decide +kernel⟩
theorem zc_t13_43 : decode (zi_b zp 13) 43 = .ok (.new 109, 3) ∧ decode (zi_b zp 13) (43 + 3) = .ok (.dup, 1) ∧ decode (zi_b zp 13) (43 + 3 + 1) = .ok (.ldc 111, 2) ∧ decode (zi_b zp 13) (43 + 3 + 1 + 2) = .ok (.invokespecial 113, 3) ∧ decode (zi_b zp 13) (43 + 3 + 1 + 2 + 3) = .ok (.athrow, 1) := ⟨by decide +kernel, by decide +kernel, by decide +kernel, by decide +kernel, by decide +kernel⟩
theorem zc_t14_33 : decode (zi_b zp 14) 33 = .ok (.new 72, 3) ∧ decode (zi_b zp 14) (33 + 3) = .ok (.dup, 1) ∧ decode (zi_b zp 14) (33 + 3 + 1) = .ok (.ldc 120, 2) ∧ decode (zi_b zp 14) (33 + 3 + 1 + 2) = .ok (.invokespecial 76, 3) ∧ decode (zi_b zp 14) (33 + 3 + 1 + 2 + 3) = .ok (.athrow, 1) := ⟨by decide +kernel, by decide +kernel, by decide +kernel, by decide +kernel, by decide +kernel⟩
theorem zc_t14_66 : decode (zi_b zp 14) 66 = .ok (.new 109, 3) ∧ decode (zi_b zp 14) (66 + 3) = .ok (.dup, 1) ∧ decode (zi_b zp 14) (66 + 3 + 1) = .ok (.ldc 129, 2) ∧ decode (zi_b zp 14) (66 + 3 + 1 + 2) = .ok (.invokespecial 113, 3) ∧ decode (zi_b zp 14) (66 + 3 + 1 + 2 + 3) = .ok (.athrow, 1) := ⟨by decide +kernel, by decide +kernel, by decide +kernel, by decide +kernel, by decide +kernel⟩
theorem zc_t15_40 : decode (zi_b zp 15) 40 = .ok (.new 72, 3) ∧ decode (zi_b zp 15) (40 + 3) = .ok (.dup, 1) ∧ decode (zi_b zp 15) (40 + 3 + 1) = .ok (.ldc 120, 2) ∧ decode (zi_b zp 15) (40 + 3 + 1 + 2) = .ok (.invokespecial 76, 3) ∧ decode (zi_b zp 15) (40 + 3 + 1 + 2 + 3) = .ok (.athrow, 1) := ⟨by decide +kernel, by decide +kernel, by decide +kernel, by decide +kernel, by decide +kernel⟩
theorem zc_t15_114 : decode (zi_b zp 15) 114 = .ok (.new 109, 3) ∧ decode (zi_b zp 15) (114 + 3) = .ok (.dup, 1) ∧ decode (zi_b zp 15) (114 + 3 + 1) = .ok (.ldc 129, 2) ∧ decode (zi_b zp 15) (114 + 3 + 1 + 2) = .ok (.invokespecial 113, 3) ∧ decode (zi_b zp 15) (114 + 3 + 1 + 2 + 3) = .ok (.athrow, 1) := ⟨by decide +kernel, by decide +kernel, by decide +kernel, by decide +kernel, by decide +kernel⟩
theorem zc_t16_10 : decode (zi_b zp 16) 10 = .ok (.new 109, 3) ∧ decode (zi_b zp 16) (10 + 3) = .ok (.dup, 1) ∧ decode (zi_b zp 16) (10 + 3 + 1) = .ok (.ldc 146, 2) ∧ decode (zi_b zp 16) (10 + 3 + 1 + 2) = .ok (.invokespecial 113, 3) ∧ decode (zi_b zp 16) (10 + 3 + 1 + 2 + 3) = .ok (.athrow, 1) := ⟨by decide +kernel, by decide +kernel, by decide +kernel, by decide +kernel, by decide +kernel⟩
theorem zc_t17_10 : decode (zi_b zp 17) 10 = .ok (.new 154, 3) ∧ decode (zi_b zp 17) (10 + 3) = .ok (.dup, 1) ∧ decode (zi_b zp 17) (10 + 3 + 1) = .ok (.ldc 156, 2) ∧ decode (zi_b zp 17) (10 + 3 + 1 + 2) = .ok (.invokespecial 158, 3) ∧ decode (zi_b zp 17) (10 + 3 + 1 + 2 + 3) = .ok (.athrow, 1) := ⟨by decide +kernel, by decide +kernel, by decide +kernel, by decide +kernel, by decide +kernel⟩
theorem zc_t22_11 : decode (zi_b zp 22) 11 = .ok (.new 72, 3) ∧ decode (zi_b zp 22) (11 + 3) = .ok (.dup, 1) ∧ decode (zi_b zp 22) (11 + 3 + 1) = .ok (.ldc 187, 2) ∧ decode (zi_b zp 22) (11 + 3 + 1 + 2) = .ok (.invokespecial 76, 3) ∧ decode (zi_b zp 22) (11 + 3 + 1 + 2 + 3) = .ok (.athrow, 1) := ⟨by decide +kernel, by decide +kernel, by decide +kernel, by decide +kernel, by decide +kernel⟩
theorem zc_t22_31 : decode (zi_b zp 22) 31 = .ok (.new 109, 3) ∧ decode (zi_b zp 22) (31 + 3) = .ok (.dup, 1) ∧ decode (zi_b zp 22) (31 + 3 + 1) = .ok (.ldc 146, 2) ∧ decode (zi_b zp 22) (31 + 3 + 1 + 2) = .ok (.invokespecial 113, 3) ∧ decode (zi_b zp 22) (31 + 3 + 1 + 2 + 3) = .ok (.athrow, 1) := ⟨by decide +kernel, by decide +kernel, by decide +kernel, by decide +kernel, by decide +kernel⟩
theorem zp_throws : zi_ThrOk zx_exc zp zp_cl zp_TS zp_NW "PatienceTable$Layout" 0 := by
  intro L xs d rq k pc ex ls w cn sn hthr h6 h90 hlen
  have hm := zp_thr_mem hthr
  unfold zp_th at hm
  simp only [List.mem_cons, Prod.mk.injEq, List.not_mem_nil, or_false] at hm
  rcases hm with ⟨rfl, rfl, rfl⟩ | ⟨rfl, rfl, rfl⟩ | ⟨rfl, rfl, rfl⟩ | ⟨rfl, rfl, rfl⟩ | ⟨rfl, rfl, rfl⟩ | ⟨rfl, rfl, rfl⟩ | ⟨rfl, rfl, rfl⟩ | ⟨rfl, rfl, rfl⟩ | ⟨rfl, rfl, rfl⟩ | ⟨rfl, rfl, rfl⟩ | ⟨rfl, rfl, rfl⟩
  · obtain ⟨t0, t1, t2, t3, t4⟩ := zc_t11_11
    exact zx_throw (C := "java/lang/IllegalArgumentException") (tx := "no such deal") (ix := 72) (iS := 74) (ic := 76) (i1 := 7) (b1 := Bundle.six) (Y := "java/lang/RuntimeException") (r := ["java/lang/Exception"]) h6 h90 hlen rfl rfl (by decide +kernel) (by decide +kernel) (by decide +kernel) (by decide +kernel) t0 t1 t2 t3 t4 (zc_mem_ok zc_cd11) rfl (zc_ini_ok zc_ini0).1 (zc_ini_ok zc_ini0).2.1 (zc_ini_ok zc_ini0).2.2 (zc_own_ok zc_own0) (by simp [zx_ws]) (by decide +kernel) (by decide +kernel) (by decide +kernel)
  · obtain ⟨t0, t1, t2, t3, t4⟩ := zc_t13_22
    exact zx_throw (C := "java/lang/IllegalArgumentException") (tx := "no such column or card") (ix := 72) (iS := 104) (ic := 76) (i1 := 7) (b1 := Bundle.six) (Y := "java/lang/RuntimeException") (r := ["java/lang/Exception"]) h6 h90 hlen rfl rfl (by decide +kernel) (by decide +kernel) (by decide +kernel) (by decide +kernel) t0 t1 t2 t3 t4 (zc_mem_ok zc_cd13) rfl (zc_ini_ok zc_ini0).1 (zc_ini_ok zc_ini0).2.1 (zc_ini_ok zc_ini0).2.2 (zc_own_ok zc_own0) (by simp [zx_ws]) (by decide +kernel) (by decide +kernel) (by decide +kernel)
  · obtain ⟨t0, t1, t2, t3, t4⟩ := zc_t13_43
    exact zx_throw (C := "java/lang/IllegalStateException") (tx := "the card lies somewhere") (ix := 109) (iS := 111) (ic := 113) (i1 := 7) (b1 := Bundle.six) (Y := "java/lang/RuntimeException") (r := ["java/lang/Exception"]) h6 h90 hlen rfl rfl (by decide +kernel) (by decide +kernel) (by decide +kernel) (by decide +kernel) t0 t1 t2 t3 t4 (zc_mem_ok zc_cd13) rfl (zc_ini_ok zc_ini1).1 (zc_ini_ok zc_ini1).2.1 (zc_ini_ok zc_ini1).2.2 (zc_own_ok zc_own1) (by simp [zx_ws]) (by decide +kernel) (by decide +kernel) (by decide +kernel)
  · obtain ⟨t0, t1, t2, t3, t4⟩ := zc_t14_33
    exact zx_throw (C := "java/lang/IllegalArgumentException") (tx := "no such move") (ix := 72) (iS := 120) (ic := 76) (i1 := 7) (b1 := Bundle.six) (Y := "java/lang/RuntimeException") (r := ["java/lang/Exception"]) h6 h90 hlen rfl rfl (by decide +kernel) (by decide +kernel) (by decide +kernel) (by decide +kernel) t0 t1 t2 t3 t4 (zc_mem_ok zc_cd14) rfl (zc_ini_ok zc_ini0).1 (zc_ini_ok zc_ini0).2.1 (zc_ini_ok zc_ini0).2.2 (zc_own_ok zc_own0) (by simp [zx_ws]) (by decide +kernel) (by decide +kernel) (by decide +kernel)
  · obtain ⟨t0, t1, t2, t3, t4⟩ := zc_t14_66
    exact zx_throw (C := "java/lang/IllegalStateException") (tx := "not allowed now") (ix := 109) (iS := 129) (ic := 113) (i1 := 7) (b1 := Bundle.six) (Y := "java/lang/RuntimeException") (r := ["java/lang/Exception"]) h6 h90 hlen rfl rfl (by decide +kernel) (by decide +kernel) (by decide +kernel) (by decide +kernel) t0 t1 t2 t3 t4 (zc_mem_ok zc_cd14) rfl (zc_ini_ok zc_ini1).1 (zc_ini_ok zc_ini1).2.1 (zc_ini_ok zc_ini1).2.2 (zc_own_ok zc_own1) (by simp [zx_ws]) (by decide +kernel) (by decide +kernel) (by decide +kernel)
  · obtain ⟨t0, t1, t2, t3, t4⟩ := zc_t15_40
    exact zx_throw (C := "java/lang/IllegalArgumentException") (tx := "no such move") (ix := 72) (iS := 120) (ic := 76) (i1 := 7) (b1 := Bundle.six) (Y := "java/lang/RuntimeException") (r := ["java/lang/Exception"]) h6 h90 hlen rfl rfl (by decide +kernel) (by decide +kernel) (by decide +kernel) (by decide +kernel) t0 t1 t2 t3 t4 (zc_mem_ok zc_cd15) rfl (zc_ini_ok zc_ini0).1 (zc_ini_ok zc_ini0).2.1 (zc_ini_ok zc_ini0).2.2 (zc_own_ok zc_own0) (by simp [zx_ws]) (by decide +kernel) (by decide +kernel) (by decide +kernel)
  · obtain ⟨t0, t1, t2, t3, t4⟩ := zc_t15_114
    exact zx_throw (C := "java/lang/IllegalStateException") (tx := "not allowed now") (ix := 109) (iS := 129) (ic := 113) (i1 := 7) (b1 := Bundle.six) (Y := "java/lang/RuntimeException") (r := ["java/lang/Exception"]) h6 h90 hlen rfl rfl (by decide +kernel) (by decide +kernel) (by decide +kernel) (by decide +kernel) t0 t1 t2 t3 t4 (zc_mem_ok zc_cd15) rfl (zc_ini_ok zc_ini1).1 (zc_ini_ok zc_ini1).2.1 (zc_ini_ok zc_ini1).2.2 (zc_own_ok zc_own1) (by simp [zx_ws]) (by decide +kernel) (by decide +kernel) (by decide +kernel)
  · obtain ⟨t0, t1, t2, t3, t4⟩ := zc_t16_10
    exact zx_throw (C := "java/lang/IllegalStateException") (tx := "not all cards are laid") (ix := 109) (iS := 146) (ic := 113) (i1 := 7) (b1 := Bundle.six) (Y := "java/lang/RuntimeException") (r := ["java/lang/Exception"]) h6 h90 hlen rfl rfl (by decide +kernel) (by decide +kernel) (by decide +kernel) (by decide +kernel) t0 t1 t2 t3 t4 (zc_mem_ok zc_cd16) rfl (zc_ini_ok zc_ini1).1 (zc_ini_ok zc_ini1).2.1 (zc_ini_ok zc_ini1).2.2 (zc_own_ok zc_own1) (by simp [zx_ws]) (by decide +kernel) (by decide +kernel) (by decide +kernel)
  · obtain ⟨t0, t1, t2, t3, t4⟩ := zc_t17_10
    exact zx_throw (C := "java/util/NoSuchElementException") (tx := "the log is empty") (ix := 154) (iS := 156) (ic := 158) (i1 := 13) (b1 := zx_b13) (Y := "java/lang/RuntimeException") (r := ["java/lang/Exception"]) h6 h90 hlen rfl rfl (by decide +kernel) (by decide +kernel) (by decide +kernel) (by decide +kernel) t0 t1 t2 t3 t4 (zc_mem_ok zc_cd17) rfl (zc_ini_ok zc_ini2).1 (zc_ini_ok zc_ini2).2.1 (zc_ini_ok zc_ini2).2.2 (zc_own_ok zc_own2) (by simp [zx_ws]) (by decide +kernel) (by decide +kernel) (by decide +kernel)
  · obtain ⟨t0, t1, t2, t3, t4⟩ := zc_t22_11
    exact zx_throw (C := "java/lang/IllegalArgumentException") (tx := "no such fuel") (ix := 72) (iS := 187) (ic := 76) (i1 := 7) (b1 := Bundle.six) (Y := "java/lang/RuntimeException") (r := ["java/lang/Exception"]) h6 h90 hlen rfl rfl (by decide +kernel) (by decide +kernel) (by decide +kernel) (by decide +kernel) t0 t1 t2 t3 t4 (zc_mem_ok zc_cd22) rfl (zc_ini_ok zc_ini0).1 (zc_ini_ok zc_ini0).2.1 (zc_ini_ok zc_ini0).2.2 (zc_own_ok zc_own0) (by simp [zx_ws]) (by decide +kernel) (by decide +kernel) (by decide +kernel)
  · obtain ⟨t0, t1, t2, t3, t4⟩ := zc_t22_31
    exact zx_throw (C := "java/lang/IllegalStateException") (tx := "not all cards are laid") (ix := 109) (iS := 146) (ic := 113) (i1 := 7) (b1 := Bundle.six) (Y := "java/lang/RuntimeException") (r := ["java/lang/Exception"]) h6 h90 hlen rfl rfl (by decide +kernel) (by decide +kernel) (by decide +kernel) (by decide +kernel) t0 t1 t2 t3 t4 (zc_mem_ok zc_cd22) rfl (zc_ini_ok zc_ini1).1 (zc_ini_ok zc_ini1).2.1 (zc_ini_ok zc_ini1).2.2 (zc_own_ok zc_own1) (by simp [zx_ws]) (by decide +kernel) (by decide +kernel) (by decide +kernel)
