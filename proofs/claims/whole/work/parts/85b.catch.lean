/-! The places where the law catches. -/
theorem zp_cat_mem {k pc ex : Nat} {x : Int32} (h : zi_cat zp k pc ex = some x) : (k, pc, ex, x) ∈ zp_ca := by
  have h : zp_cat k pc ex = some x := h
  unfold zp_cat at h
  rw [Option.map_eq_some_iff] at h
  obtain ⟨q, hq, rfl⟩ := h
  have h1 := List.find?_some hq
  have h2 := List.mem_of_find?_eq_some hq
  obtain ⟨a, b, c, d⟩ := q
  rw [Bool.and_eq_true, Bool.and_eq_true] at h1
  have e1 : a = k := by simpa using h1.1.1
  have e2 : b = pc := by simpa using h1.1.2
  have e3 : c = ex := by simpa using h1.2
  subst e1; subst e2; subst e3
  exact h2
theorem zi_inv_j {P : zi_P} {k ix j j0 mm ci : Nat} {st as r : List Value} {w : zi_W} (hp : zi_pool P k ix = some (1, j0, mm, .ref ci)) (h : zi_inv P k (.invokevirtual ix) st w = some (j, as, r)) : j = j0 := by
  unfold zi_inv at h
  simp only [hp] at h
  split at h
  · split at h
    · split at h
      · cases h; rfl
      · cases h
    · cases h
  · cases h
theorem zx_O.word {h0 : Nat} {s : State} (h : zx_O h0 s) {w : Cond} (hw : w ∈ zx_ws) (hk : zx_kind w = true) (A : Array Value) : w.before A s = true := by
  obtain ⟨s0, o1, o2, o3, o4⟩ := h
  exact zx_goes o1 o3 hk (o4 _ hw)
theorem zx_O.nocast {h0 : Nat} {s : State} (h : zx_O h0 s) : ∀ c t, s.vm.findClass "java/lang/IllegalStateException" = some c → s.vm.findClass "java/lang/IllegalArgumentException" = some t → s.vm.assignable c t = false := by
  obtain ⟨s0, o1, o2, o3, o4⟩ := h
  exact zx_notcast o1 (o4 _ (by simp [zx_ws]))
theorem zc_k0 : (zc_mem (.classLink "PatienceTableLaw" 13 "java/lang/IllegalArgumentException") && zc_mem (.instantiable "java/lang/IllegalArgumentException" 6)) = true := by decide +kernel
theorem zc_k1 : (zc_mem (.classLink "PatienceTableLaw" 19 "java/lang/IllegalStateException") && zc_mem (.instantiable "java/lang/IllegalStateException" 6)) = true := by decide +kernel
theorem zc_k2 : (zc_mem (.classLink "PatienceTableLaw" 36 "java/util/NoSuchElementException") && zc_mem (.instantiable "java/util/NoSuchElementException" 6)) = true := by decide +kernel
theorem zc_w1 : (zc_mem (Cond.codeWith (zi_y zp 1) (zi_b zp 1) (zi_n zp 1) (zi_r zp 1) [(0, 5, 8, 13)]) && zc_mem (Cond.methodLink (zi_y zp 1).cls 7 (zi_y zp 11))) = true := by decide +kernel
theorem zc_v1 : zi_code zp 1 2 = some (.invokevirtual 7) ∧ decode (zi_b zp 1) 2 = .ok (.invokevirtual 7, 3) ∧ zi_pool zp 1 7 = some (1, 11, 1, .ref 0) := ⟨by decide +kernel, by decide +kernel, by decide +kernel⟩
theorem zc_w2 : (zc_mem (Cond.codeWith (zi_y zp 2) (zi_b zp 2) (zi_n zp 2) (zi_r zp 2) [(0, 10, 13, 13), (0, 10, 17, 19)]) && zc_mem (Cond.methodLink (zi_y zp 2).cls 15 (zi_y zp 13))) = true := by decide +kernel
theorem zc_v2 : zi_code zp 2 5 = some (.invokevirtual 15) ∧ decode (zi_b zp 2) 5 = .ok (.invokevirtual 15, 3) ∧ zi_pool zp 2 15 = some (1, 13, 2, .ref 0) := ⟨by decide +kernel, by decide +kernel, by decide +kernel⟩
theorem zc_w3 : (zc_mem (Cond.codeWith (zi_y zp 3) (zi_b zp 3) (zi_n zp 3) (zi_r zp 3) [(0, 12, 15, 13), (0, 12, 19, 19)]) && zc_mem (Cond.methodLink (zi_y zp 3).cls 21 (zi_y zp 14))) = true := by decide +kernel
theorem zc_v3 : zi_code zp 3 7 = some (.invokevirtual 21) ∧ decode (zi_b zp 3) 7 = .ok (.invokevirtual 21, 3) ∧ zi_pool zp 3 21 = some (1, 14, 3, .ref 0) := ⟨by decide +kernel, by decide +kernel, by decide +kernel⟩
theorem zc_w4 : (zc_mem (Cond.codeWith (zi_y zp 4) (zi_b zp 4) (zi_n zp 4) (zi_r zp 4) [(0, 10, 13, 13), (0, 10, 17, 19)]) && zc_mem (Cond.methodLink (zi_y zp 4).cls 25 (zi_y zp 15))) = true := by decide +kernel
theorem zc_v4 : zi_code zp 4 5 = some (.invokevirtual 25) ∧ decode (zi_b zp 4) 5 = .ok (.invokevirtual 25, 3) ∧ zi_pool zp 4 25 = some (1, 15, 2, .ref 0) := ⟨by decide +kernel, by decide +kernel, by decide +kernel⟩
theorem zc_w5 : (zc_mem (Cond.codeWith (zi_y zp 5) (zi_b zp 5) (zi_n zp 5) (zi_r zp 5) [(0, 8, 11, 19)]) && zc_mem (Cond.methodLink (zi_y zp 5).cls 29 (zi_y zp 16))) = true := by decide +kernel
theorem zc_v5 : zi_code zp 5 3 = some (.invokevirtual 29) ∧ decode (zi_b zp 5) 3 = .ok (.invokevirtual 29, 3) ∧ zi_pool zp 5 29 = some (1, 16, 0, .ref 0) := ⟨by decide +kernel, by decide +kernel, by decide +kernel⟩
theorem zc_w6 : (zc_mem (Cond.codeWith (zi_y zp 6) (zi_b zp 6) (zi_n zp 6) (zi_r zp 6) [(0, 8, 11, 36)]) && zc_mem (Cond.methodLink (zi_y zp 6).cls 33 (zi_y zp 17))) = true := by decide +kernel
theorem zc_v6 : zi_code zp 6 3 = some (.invokevirtual 33) ∧ decode (zi_b zp 6) 3 = .ok (.invokevirtual 33, 3) ∧ zi_pool zp 6 33 = some (1, 17, 0, .ref 0) := ⟨by decide +kernel, by decide +kernel, by decide +kernel⟩
theorem zc_w7 : (zc_mem (Cond.codeWith (zi_y zp 7) (zi_b zp 7) (zi_n zp 7) (zi_r zp 7) [(0, 9, 12, 13), (0, 9, 15, 19)]) && zc_mem (Cond.methodLink (zi_y zp 7).cls 38 (zi_y zp 22))) = true := by decide +kernel
theorem zc_v7 : zi_code zp 7 4 = some (.invokevirtual 38) ∧ decode (zi_b zp 7) 4 = .ok (.invokevirtual 38, 3) ∧ zi_pool zp 7 38 = some (1, 22, 1, .ref 0) := ⟨by decide +kernel, by decide +kernel, by decide +kernel⟩
theorem zc_two {a b : Bool} (h : (a && b) = true) : a = true ∧ b = true := by
  rw [Bool.and_eq_true] at h
  exact h
set_option maxHeartbeats 2000000 in
theorem zp_catches (hO : zi_Ok zp zp_cl zp_TS zp_NW "PatienceTable$Layout" 0) (n : Nat) (ih : zi_Snd zx_exc zp zp_cl zp_TS zp_NW "PatienceTable$Layout" 0 n) : zi_CatOk zx_exc zp zp_cl zp_TS zp_NW "PatienceTable$Layout" 0 n := by
  intro L xs d rq k pc j ex ls ls' st as r w w' cn sn cn' sn' i x hcode hinv hent hq hrun hcat hlen
  have hm := zp_cat_mem hcat
  unfold zp_ca at hm
  simp only [List.mem_cons, Prod.mk.injEq, List.not_mem_nil, or_false] at hm
  rcases hm with ⟨rfl, rfl, rfl, rfl⟩ | ⟨rfl, rfl, rfl, rfl⟩ | ⟨rfl, rfl, rfl, rfl⟩ | ⟨rfl, rfl, rfl, rfl⟩ | ⟨rfl, rfl, rfl, rfl⟩ | ⟨rfl, rfl, rfl, rfl⟩ | ⟨rfl, rfl, rfl, rfl⟩ | ⟨rfl, rfl, rfl, rfl⟩ | ⟨rfl, rfl, rfl, rfl⟩ | ⟨rfl, rfl, rfl, rfl⟩ | ⟨rfl, rfl, rfl, rfl⟩
  · obtain ⟨v1, v2, v3⟩ := zc_v1
    cases hcode.symm.trans v1
    cases zi_inv_j v3 hinv
    refine zx_catch hO ih (hpc := 8) (pcR := 10) (hh := [(0, 5, 8, 13)]) v3 v2 hinv hent hq hrun hlen (zc_mem_ok (zc_two zc_w1).1) (zc_mem_ok (zc_two zc_w1).2) rfl ?_ (by decide +kernel) ?_
    · intro p l e R s m args below meth c T locs cells slots h0' X hts hOx hown htab g a cell hg hpc hcell hobj hcls
      exact zx_find1 X hg hcell hobj (C := "java/lang/IllegalArgumentException") (own := "PatienceTableLaw") hcls hown htab (by rw [hpc]; decide) (by decide) (hts _ (zc_mem_ok (zc_two zc_k0).1)) (hOx.word (by simp [zx_ws]) rfl args) (hts _ (zc_mem_ok (zc_two zc_k0).2))
    · intro p l e R s m args below meth c H locs cells slots Q h0 b LS a hx hb hl kk
      exact lv_astore_n hx hb (show decode (zi_b zp 1) 8 = .ok (.astore_n 2, 1) by decide +kernel) rfl (zi_ls_has hl) (by rw [hlen]; decide +kernel) rfl fun LS' _ => lv_iconst hx hb (show decode (zi_b zp 1) 9 = .ok (.iconst 1, 1) by decide +kernel) (by decide +kernel) (kk LS')
  · obtain ⟨v1, v2, v3⟩ := zc_v2
    cases hcode.symm.trans v1
    cases zi_inv_j v3 hinv
    refine zx_catch hO ih (hpc := 13) (pcR := 16) (hh := [(0, 10, 13, 13), (0, 10, 17, 19)]) v3 v2 hinv hent hq hrun hlen (zc_mem_ok (zc_two zc_w2).1) (zc_mem_ok (zc_two zc_w2).2) rfl ?_ (by decide +kernel) ?_
    · intro p l e R s m args below meth c T locs cells slots h0' X hts hOx hown htab g a cell hg hpc hcell hobj hcls
      exact zx_find1 X hg hcell hobj (C := "java/lang/IllegalArgumentException") (own := "PatienceTableLaw") hcls hown htab (by rw [hpc]; decide) (by decide) (hts _ (zc_mem_ok (zc_two zc_k0).1)) (hOx.word (by simp [zx_ws]) rfl args) (hts _ (zc_mem_ok (zc_two zc_k0).2))
    · intro p l e R s m args below meth c H locs cells slots Q h0 b LS a hx hb hl kk
      exact lv_astore hx hb (show decode (zi_b zp 2) 13 = .ok (.astore 4, 2) by decide +kernel) (zi_ls_has hl) (by rw [hlen]; decide +kernel) rfl fun LS' _ => lv_iconst hx hb (show decode (zi_b zp 2) 15 = .ok (.iconst 1, 1) by decide +kernel) (by decide +kernel) (kk LS')
  · obtain ⟨v1, v2, v3⟩ := zc_v2
    cases hcode.symm.trans v1
    cases zi_inv_j v3 hinv
    refine zx_catch hO ih (hpc := 17) (pcR := 20) (hh := [(0, 10, 13, 13), (0, 10, 17, 19)]) v3 v2 hinv hent hq hrun hlen (zc_mem_ok (zc_two zc_w2).1) (zc_mem_ok (zc_two zc_w2).2) rfl ?_ (by decide +kernel) ?_
    · intro p l e R s m args below meth c T locs cells slots h0' X hts hOx hown htab g a cell hg hpc hcell hobj hcls
      exact zx_find2 X hg hcell hobj (C := "java/lang/IllegalStateException") (C0 := "java/lang/IllegalArgumentException") (own := "PatienceTableLaw") hcls hown htab (by rw [hpc]; decide) (by rw [hpc]; decide) (by decide) (by decide) (hts _ (zc_mem_ok (zc_two zc_k0).1)) (hts _ (zc_mem_ok (zc_two zc_k0).2)) (hts _ (zc_mem_ok (zc_two zc_k1).1)) (hOx.word (by simp [zx_ws]) rfl args) (hts _ (zc_mem_ok (zc_two zc_k1).2)) hOx.nocast
    · intro p l e R s m args below meth c H locs cells slots Q h0 b LS a hx hb hl kk
      exact lv_astore hx hb (show decode (zi_b zp 2) 17 = .ok (.astore 4, 2) by decide +kernel) (zi_ls_has hl) (by rw [hlen]; decide +kernel) rfl fun LS' _ => lv_iconst hx hb (show decode (zi_b zp 2) 19 = .ok (.iconst 2, 1) by decide +kernel) (by decide +kernel) (kk LS')
  · obtain ⟨v1, v2, v3⟩ := zc_v3
    cases hcode.symm.trans v1
    cases zi_inv_j v3 hinv
    refine zx_catch hO ih (hpc := 15) (pcR := 18) (hh := [(0, 12, 15, 13), (0, 12, 19, 19)]) v3 v2 hinv hent hq hrun hlen (zc_mem_ok (zc_two zc_w3).1) (zc_mem_ok (zc_two zc_w3).2) rfl ?_ (by decide +kernel) ?_
    · intro p l e R s m args below meth c T locs cells slots h0' X hts hOx hown htab g a cell hg hpc hcell hobj hcls
      exact zx_find1 X hg hcell hobj (C := "java/lang/IllegalArgumentException") (own := "PatienceTableLaw") hcls hown htab (by rw [hpc]; decide) (by decide) (hts _ (zc_mem_ok (zc_two zc_k0).1)) (hOx.word (by simp [zx_ws]) rfl args) (hts _ (zc_mem_ok (zc_two zc_k0).2))
    · intro p l e R s m args below meth c H locs cells slots Q h0 b LS a hx hb hl kk
      exact lv_astore hx hb (show decode (zi_b zp 3) 15 = .ok (.astore 5, 2) by decide +kernel) (zi_ls_has hl) (by rw [hlen]; decide +kernel) rfl fun LS' _ => lv_iconst hx hb (show decode (zi_b zp 3) 17 = .ok (.iconst 1, 1) by decide +kernel) (by decide +kernel) (kk LS')
  · obtain ⟨v1, v2, v3⟩ := zc_v3
    cases hcode.symm.trans v1
    cases zi_inv_j v3 hinv
    refine zx_catch hO ih (hpc := 19) (pcR := 22) (hh := [(0, 12, 15, 13), (0, 12, 19, 19)]) v3 v2 hinv hent hq hrun hlen (zc_mem_ok (zc_two zc_w3).1) (zc_mem_ok (zc_two zc_w3).2) rfl ?_ (by decide +kernel) ?_
    · intro p l e R s m args below meth c T locs cells slots h0' X hts hOx hown htab g a cell hg hpc hcell hobj hcls
      exact zx_find2 X hg hcell hobj (C := "java/lang/IllegalStateException") (C0 := "java/lang/IllegalArgumentException") (own := "PatienceTableLaw") hcls hown htab (by rw [hpc]; decide) (by rw [hpc]; decide) (by decide) (by decide) (hts _ (zc_mem_ok (zc_two zc_k0).1)) (hts _ (zc_mem_ok (zc_two zc_k0).2)) (hts _ (zc_mem_ok (zc_two zc_k1).1)) (hOx.word (by simp [zx_ws]) rfl args) (hts _ (zc_mem_ok (zc_two zc_k1).2)) hOx.nocast
    · intro p l e R s m args below meth c H locs cells slots Q h0 b LS a hx hb hl kk
      exact lv_astore hx hb (show decode (zi_b zp 3) 19 = .ok (.astore 5, 2) by decide +kernel) (zi_ls_has hl) (by rw [hlen]; decide +kernel) rfl fun LS' _ => lv_iconst hx hb (show decode (zi_b zp 3) 21 = .ok (.iconst 2, 1) by decide +kernel) (by decide +kernel) (kk LS')
  · obtain ⟨v1, v2, v3⟩ := zc_v4
    cases hcode.symm.trans v1
    cases zi_inv_j v3 hinv
    refine zx_catch hO ih (hpc := 13) (pcR := 16) (hh := [(0, 10, 13, 13), (0, 10, 17, 19)]) v3 v2 hinv hent hq hrun hlen (zc_mem_ok (zc_two zc_w4).1) (zc_mem_ok (zc_two zc_w4).2) rfl ?_ (by decide +kernel) ?_
    · intro p l e R s m args below meth c T locs cells slots h0' X hts hOx hown htab g a cell hg hpc hcell hobj hcls
      exact zx_find1 X hg hcell hobj (C := "java/lang/IllegalArgumentException") (own := "PatienceTableLaw") hcls hown htab (by rw [hpc]; decide) (by decide) (hts _ (zc_mem_ok (zc_two zc_k0).1)) (hOx.word (by simp [zx_ws]) rfl args) (hts _ (zc_mem_ok (zc_two zc_k0).2))
    · intro p l e R s m args below meth c H locs cells slots Q h0 b LS a hx hb hl kk
      exact lv_astore hx hb (show decode (zi_b zp 4) 13 = .ok (.astore 4, 2) by decide +kernel) (zi_ls_has hl) (by rw [hlen]; decide +kernel) rfl fun LS' _ => lv_iconst hx hb (show decode (zi_b zp 4) 15 = .ok (.iconst 1, 1) by decide +kernel) (by decide +kernel) (kk LS')
  · obtain ⟨v1, v2, v3⟩ := zc_v4
    cases hcode.symm.trans v1
    cases zi_inv_j v3 hinv
    refine zx_catch hO ih (hpc := 17) (pcR := 20) (hh := [(0, 10, 13, 13), (0, 10, 17, 19)]) v3 v2 hinv hent hq hrun hlen (zc_mem_ok (zc_two zc_w4).1) (zc_mem_ok (zc_two zc_w4).2) rfl ?_ (by decide +kernel) ?_
    · intro p l e R s m args below meth c T locs cells slots h0' X hts hOx hown htab g a cell hg hpc hcell hobj hcls
      exact zx_find2 X hg hcell hobj (C := "java/lang/IllegalStateException") (C0 := "java/lang/IllegalArgumentException") (own := "PatienceTableLaw") hcls hown htab (by rw [hpc]; decide) (by rw [hpc]; decide) (by decide) (by decide) (hts _ (zc_mem_ok (zc_two zc_k0).1)) (hts _ (zc_mem_ok (zc_two zc_k0).2)) (hts _ (zc_mem_ok (zc_two zc_k1).1)) (hOx.word (by simp [zx_ws]) rfl args) (hts _ (zc_mem_ok (zc_two zc_k1).2)) hOx.nocast
    · intro p l e R s m args below meth c H locs cells slots Q h0 b LS a hx hb hl kk
      exact lv_astore hx hb (show decode (zi_b zp 4) 17 = .ok (.astore 4, 2) by decide +kernel) (zi_ls_has hl) (by rw [hlen]; decide +kernel) rfl fun LS' _ => lv_iconst hx hb (show decode (zi_b zp 4) 19 = .ok (.iconst 2, 1) by decide +kernel) (by decide +kernel) (kk LS')
  · obtain ⟨v1, v2, v3⟩ := zc_v5
    cases hcode.symm.trans v1
    cases zi_inv_j v3 hinv
    refine zx_catch hO ih (hpc := 11) (pcR := 13) (hh := [(0, 8, 11, 19)]) v3 v2 hinv hent hq hrun hlen (zc_mem_ok (zc_two zc_w5).1) (zc_mem_ok (zc_two zc_w5).2) rfl ?_ (by decide +kernel) ?_
    · intro p l e R s m args below meth c T locs cells slots h0' X hts hOx hown htab g a cell hg hpc hcell hobj hcls
      exact zx_find1 X hg hcell hobj (C := "java/lang/IllegalStateException") (own := "PatienceTableLaw") hcls hown htab (by rw [hpc]; decide) (by decide) (hts _ (zc_mem_ok (zc_two zc_k1).1)) (hOx.word (by simp [zx_ws]) rfl args) (hts _ (zc_mem_ok (zc_two zc_k1).2))
    · intro p l e R s m args below meth c H locs cells slots Q h0 b LS a hx hb hl kk
      exact lv_astore_n hx hb (show decode (zi_b zp 5) 11 = .ok (.astore_n 2, 1) by decide +kernel) rfl (zi_ls_has hl) (by rw [hlen]; decide +kernel) rfl fun LS' _ => lv_iconst hx hb (show decode (zi_b zp 5) 12 = .ok (.iconst 1, 1) by decide +kernel) (by decide +kernel) (kk LS')
  · obtain ⟨v1, v2, v3⟩ := zc_v6
    cases hcode.symm.trans v1
    cases zi_inv_j v3 hinv
    refine zx_catch hO ih (hpc := 11) (pcR := 13) (hh := [(0, 8, 11, 36)]) v3 v2 hinv hent hq hrun hlen (zc_mem_ok (zc_two zc_w6).1) (zc_mem_ok (zc_two zc_w6).2) rfl ?_ (by decide +kernel) ?_
    · intro p l e R s m args below meth c T locs cells slots h0' X hts hOx hown htab g a cell hg hpc hcell hobj hcls
      exact zx_find1 X hg hcell hobj (C := "java/util/NoSuchElementException") (own := "PatienceTableLaw") hcls hown htab (by rw [hpc]; decide) (by decide) (hts _ (zc_mem_ok (zc_two zc_k2).1)) (hOx.word (by simp [zx_ws]) rfl args) (hts _ (zc_mem_ok (zc_two zc_k2).2))
    · intro p l e R s m args below meth c H locs cells slots Q h0 b LS a hx hb hl kk
      exact lv_astore_n hx hb (show decode (zi_b zp 6) 11 = .ok (.astore_n 2, 1) by decide +kernel) rfl (zi_ls_has hl) (by rw [hlen]; decide +kernel) rfl fun LS' _ => lv_iconst hx hb (show decode (zi_b zp 6) 12 = .ok (.iconst 1, 1) by decide +kernel) (by decide +kernel) (kk LS')
  · obtain ⟨v1, v2, v3⟩ := zc_v7
    cases hcode.symm.trans v1
    cases zi_inv_j v3 hinv
    refine zx_catch hO ih (hpc := 12) (pcR := 14) (hh := [(0, 9, 12, 13), (0, 9, 15, 19)]) v3 v2 hinv hent hq hrun hlen (zc_mem_ok (zc_two zc_w7).1) (zc_mem_ok (zc_two zc_w7).2) rfl ?_ (by decide +kernel) ?_
    · intro p l e R s m args below meth c T locs cells slots h0' X hts hOx hown htab g a cell hg hpc hcell hobj hcls
      exact zx_find1 X hg hcell hobj (C := "java/lang/IllegalArgumentException") (own := "PatienceTableLaw") hcls hown htab (by rw [hpc]; decide) (by decide) (hts _ (zc_mem_ok (zc_two zc_k0).1)) (hOx.word (by simp [zx_ws]) rfl args) (hts _ (zc_mem_ok (zc_two zc_k0).2))
    · intro p l e R s m args below meth c H locs cells slots Q h0 b LS a hx hb hl kk
      exact lv_astore_n hx hb (show decode (zi_b zp 7) 12 = .ok (.astore_n 3, 1) by decide +kernel) rfl (zi_ls_has hl) (by rw [hlen]; decide +kernel) rfl fun LS' _ => lv_iconst hx hb (show decode (zi_b zp 7) 13 = .ok (.iconst 1, 1) by decide +kernel) (by decide +kernel) (kk LS')
  · obtain ⟨v1, v2, v3⟩ := zc_v7
    cases hcode.symm.trans v1
    cases zi_inv_j v3 hinv
    refine zx_catch hO ih (hpc := 15) (pcR := 17) (hh := [(0, 9, 12, 13), (0, 9, 15, 19)]) v3 v2 hinv hent hq hrun hlen (zc_mem_ok (zc_two zc_w7).1) (zc_mem_ok (zc_two zc_w7).2) rfl ?_ (by decide +kernel) ?_
    · intro p l e R s m args below meth c T locs cells slots h0' X hts hOx hown htab g a cell hg hpc hcell hobj hcls
      exact zx_find2 X hg hcell hobj (C := "java/lang/IllegalStateException") (C0 := "java/lang/IllegalArgumentException") (own := "PatienceTableLaw") hcls hown htab (by rw [hpc]; decide) (by rw [hpc]; decide) (by decide) (by decide) (hts _ (zc_mem_ok (zc_two zc_k0).1)) (hts _ (zc_mem_ok (zc_two zc_k0).2)) (hts _ (zc_mem_ok (zc_two zc_k1).1)) (hOx.word (by simp [zx_ws]) rfl args) (hts _ (zc_mem_ok (zc_two zc_k1).2)) hOx.nocast
    · intro p l e R s m args below meth c H locs cells slots Q h0 b LS a hx hb hl kk
      exact lv_astore_n hx hb (show decode (zi_b zp 7) 15 = .ok (.astore_n 3, 1) by decide +kernel) rfl (zi_ls_has hl) (by rw [hlen]; decide +kernel) rfl fun LS' _ => lv_iconst hx hb (show decode (zi_b zp 7) 16 = .ok (.iconst 2, 1) by decide +kernel) (by decide +kernel) (kk LS')
