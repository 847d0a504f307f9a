/-! the words hold wherever the tables do; classes and methods are as told -/
theorem xo_plain : ∀ o ∈ [0, 1, 2, 3, 4, 5, 6, 7, 8, 9, 10, 11, 12, 90, 91, 92, 93, 94, 96, 99], plainName (xo o) = true ∧ xo o ≠ "java/lang/invoke/MethodHandle" ∧ xo o ≠ "java/lang/invoke/VarHandle" := by decide +kernel
theorem xq_o : ∀ j ∈ List.range 408, (xq j).1 ∈ [0, 1, 2, 3, 4, 5, 6, 7, 8, 9, 10, 11, 12, 90, 91, 92, 93, 94, 95, 96, 97, 99] := by decide +kernel
theorem xPR_ok : ∀ j ∈ xPRt, j ∈ xIMt ∧ (xq j).1 ∈ xINt ∧ (xq j).1 ∈ [0, 1, 2, 3, 4, 5, 6, 7, 8, 9, 10, 11, 12, 90, 91, 92, 93, 94, 96, 99] := by decide +kernel
def xprivs : List (MethodName × Nat) := xPRt.map fun j => ((xm j).1, xN (xq j).1)
theorem xin_tbl_IN {o : Nat} (h : o ∈ xINt) : Cond.instantiable (xo o) (xN o) ∈ tables_1 := x_sel_mem _ _ _ (xIN_eq ▸ List.mem_map_of_mem (f := xINf) h)
theorem xprivs_ok : ∀ q ∈ xprivs, (q.1.cls ≠ "java/lang/invoke/MethodHandle" ∧ q.1.cls ≠ "java/lang/invoke/VarHandle") ∧ Cond.instantiable q.1.cls q.2 ∈ tables_1 ∧ Cond.privateMethod q.1 ∈ tables_1 ∧ Cond.instanceMethod q.1 ∈ tables_1 := by
  intro q hq
  obtain ⟨j, hj, rfl⟩ := List.mem_map.mp hq
  obtain ⟨h1, h2, h3⟩ := xPR_ok j hj
  have h4 := xo_plain _ h3
  exact ⟨h4.2, xin_tbl_IN h2, x_sel_mem _ _ _ (xPR_eq ▸ List.mem_map_of_mem (f := xPRf) hj), x_sel_mem _ _ _ (xIM_eq ▸ List.mem_map_of_mem (f := xIMf) h1)⟩
theorem xt_hts {args : Array Value} {s : State} (h : ∀ w ∈ tables_1, w.before args s = true) : ∀ w ∈ xt, w.before args s = true := by
  have hs := k2_hts_sels xprivs h xprivs_ok
  intro w hw
  rcases xt_cases hw with ⟨e, he, rfl⟩ | ⟨e, he, rfl⟩ | ⟨e, he, rfl⟩ | ⟨e, he, rfl⟩ | ⟨e, he, rfl⟩ | ⟨e, he, rfl⟩ | ⟨e, he, rfl⟩ | ⟨e, he, rfl⟩ | ⟨e, he, rfl⟩ | ⟨e, he, rfl⟩ | ⟨e, he, rfl⟩ | ⟨e, he, rfl⟩ | ⟨e, he, rfl⟩ | ⟨e, he, rfl⟩ | ⟨e, he, rfl⟩ | ⟨e, he, rfl⟩
  · exact h _ (x_sel_mem _ _ _ (xFL_eq ▸ List.mem_map_of_mem (f := xFLf) he))
  · exact h _ (x_sel_mem _ _ _ (xFS_eq ▸ List.mem_map_of_mem (f := xFSf) he))
  · exact h _ (x_sel_mem _ _ _ (xFG_eq ▸ List.mem_map_of_mem (f := xFGf) he))
  · exact h _ (x_sel_mem _ _ _ (xML_eq ▸ List.mem_map_of_mem (f := xMLf) he))
  · exact h _ (x_sel_mem _ _ _ (xCD_eq ▸ List.mem_map_of_mem (f := xCDf) he))
  · exact h _ (x_sel_mem _ _ _ (xIM_eq ▸ List.mem_map_of_mem (f := xIMf) he))
  · exact h _ (x_sel_mem _ _ _ (xST_eq ▸ List.mem_map_of_mem (f := xSTf) he))
  · exact h _ (x_sel_mem _ _ _ (xSE_eq ▸ List.mem_map_of_mem (f := xSEf) he))
  · exact h _ (x_sel_mem _ _ _ (xCT_eq ▸ List.mem_map_of_mem (f := xCTf) he))
  · exact h _ (x_sel_mem _ _ _ (xCL_eq ▸ List.mem_map_of_mem (f := xCLf) he))
  · exact h _ (x_sel_mem _ _ _ (xKL_eq ▸ List.mem_map_of_mem (f := xKLf) he))
  · exact h _ (x_sel_mem _ _ _ (xIN_eq ▸ List.mem_map_of_mem (f := xINf) he))
  · exact h _ (x_sel_mem _ _ _ (xIZ_eq ▸ List.mem_map_of_mem (f := xIZf) he))
  · exact h _ (x_sel_mem _ _ _ (xAR_eq ▸ List.mem_map_of_mem (f := xARf) he))
  · exact h _ (x_sel_mem _ _ _ (xLY_eq ▸ List.mem_map_of_mem (f := xLYf) he))
  · refine hs _ (List.mem_append_left _ ?_)
    exact List.mem_map.mpr ⟨((xm e).1, xN (xq e).1), List.mem_map.mpr ⟨e, he, rfl⟩, rfl⟩
theorem xLY_all : ∀ ci ∈ List.range 13, ∀ k ∈ List.range (xN ci), ci * 100 + k ∈ xLYt := by decide +kernel
theorem xpf_0 : ∀ k, k < 13 → parseFieldDescriptor (xT 0 k).2.2.1 = some (xty 0 k) := by decide +kernel
theorem xnm_0 : ∀ b, b < 13 → ∀ a, a < b → (xT 0 a).2.1 ≠ (xT 0 b).2.1 := by decide +kernel
theorem xdv_0 : ∀ j, j < 13 → defaultValue (xty 0 j) = vp_V (xbl 0) j := by decide +kernel
theorem xpf_1 : ∀ k, k < 6 → parseFieldDescriptor (xT 1 k).2.2.1 = some (xty 1 k) := by decide +kernel
theorem xnm_1 : ∀ b, b < 6 → ∀ a, a < b → (xT 1 a).2.1 ≠ (xT 1 b).2.1 := by decide +kernel
theorem xdv_1 : ∀ j, j < 6 → defaultValue (xty 1 j) = vp_V (xbl 1) j := by decide +kernel
theorem xpf_2 : ∀ k, k < 9 → parseFieldDescriptor (xT 2 k).2.2.1 = some (xty 2 k) := by decide +kernel
theorem xnm_2 : ∀ b, b < 9 → ∀ a, a < b → (xT 2 a).2.1 ≠ (xT 2 b).2.1 := by decide +kernel
theorem xdv_2 : ∀ j, j < 9 → defaultValue (xty 2 j) = vp_V (xbl 2) j := by decide +kernel
theorem xpf_3 : ∀ k, k < 5 → parseFieldDescriptor (xT 3 k).2.2.1 = some (xty 3 k) := by decide +kernel
theorem xnm_3 : ∀ b, b < 5 → ∀ a, a < b → (xT 3 a).2.1 ≠ (xT 3 b).2.1 := by decide +kernel
theorem xdv_3 : ∀ j, j < 5 → defaultValue (xty 3 j) = vp_V (xbl 3) j := by decide +kernel
theorem xpf_4 : ∀ k, k < 7 → parseFieldDescriptor (xT 4 k).2.2.1 = some (xty 4 k) := by decide +kernel
theorem xnm_4 : ∀ b, b < 7 → ∀ a, a < b → (xT 4 a).2.1 ≠ (xT 4 b).2.1 := by decide +kernel
theorem xdv_4 : ∀ j, j < 7 → defaultValue (xty 4 j) = vp_V (xbl 4) j := by decide +kernel
theorem xpf_5 : ∀ k, k < 16 → parseFieldDescriptor (xT 5 k).2.2.1 = some (xty 5 k) := by decide +kernel
theorem xnm_5 : ∀ b, b < 16 → ∀ a, a < b → (xT 5 a).2.1 ≠ (xT 5 b).2.1 := by decide +kernel
theorem xdv_5 : ∀ j, j < 16 → defaultValue (xty 5 j) = vp_V (xbl 5) j := by decide +kernel
theorem xpf_6 : ∀ k, k < 8 → parseFieldDescriptor (xT 6 k).2.2.1 = some (xty 6 k) := by decide +kernel
theorem xnm_6 : ∀ b, b < 8 → ∀ a, a < b → (xT 6 a).2.1 ≠ (xT 6 b).2.1 := by decide +kernel
theorem xdv_6 : ∀ j, j < 8 → defaultValue (xty 6 j) = vp_V (xbl 6) j := by decide +kernel
theorem xpf_7 : ∀ k, k < 2 → parseFieldDescriptor (xT 7 k).2.2.1 = some (xty 7 k) := by decide +kernel
theorem xnm_7 : ∀ b, b < 2 → ∀ a, a < b → (xT 7 a).2.1 ≠ (xT 7 b).2.1 := by decide +kernel
theorem xdv_7 : ∀ j, j < 2 → defaultValue (xty 7 j) = vp_V (xbl 7) j := by decide +kernel
theorem xpf_8 : ∀ k, k < 8 → parseFieldDescriptor (xT 8 k).2.2.1 = some (xty 8 k) := by decide +kernel
theorem xnm_8 : ∀ b, b < 8 → ∀ a, a < b → (xT 8 a).2.1 ≠ (xT 8 b).2.1 := by decide +kernel
theorem xdv_8 : ∀ j, j < 8 → defaultValue (xty 8 j) = vp_V (xbl 8) j := by decide +kernel
theorem xpf_9 : ∀ k, k < 10 → parseFieldDescriptor (xT 9 k).2.2.1 = some (xty 9 k) := by decide +kernel
theorem xnm_9 : ∀ b, b < 10 → ∀ a, a < b → (xT 9 a).2.1 ≠ (xT 9 b).2.1 := by decide +kernel
theorem xdv_9 : ∀ j, j < 10 → defaultValue (xty 9 j) = vp_V (xbl 9) j := by decide +kernel
theorem xpf_10 : ∀ k, k < 8 → parseFieldDescriptor (xT 10 k).2.2.1 = some (xty 10 k) := by decide +kernel
theorem xnm_10 : ∀ b, b < 8 → ∀ a, a < b → (xT 10 a).2.1 ≠ (xT 10 b).2.1 := by decide +kernel
theorem xdv_10 : ∀ j, j < 8 → defaultValue (xty 10 j) = vp_V (xbl 10) j := by decide +kernel
theorem xpf_11 : ∀ k, k < 14 → parseFieldDescriptor (xT 11 k).2.2.1 = some (xty 11 k) := by decide +kernel
theorem xnm_11 : ∀ b, b < 14 → ∀ a, a < b → (xT 11 a).2.1 ≠ (xT 11 b).2.1 := by decide +kernel
theorem xdv_11 : ∀ j, j < 14 → defaultValue (xty 11 j) = vp_V (xbl 11) j := by decide +kernel
theorem xpf_12 : ∀ k, k < 68 → parseFieldDescriptor (xT 12 k).2.2.1 = some (xty 12 k) := by decide +kernel
theorem xnm_12 : ∀ b, b < 68 → ∀ a, a < b → (xT 12 a).2.1 ≠ (xT 12 b).2.1 := by decide +kernel
theorem xdv_12 : ∀ j, j < 68 → defaultValue (xty 12 j) = vp_V (xbl 12) j := by decide +kernel
theorem x_nm {T : u_T} {N : Nat} (h : ∀ b, b < N → ∀ a, a < b → (T a).2.1 ≠ (T b).2.1) : ∀ a, a < N → ∀ b, b < N → a ≠ b → (T a).2.1 ≠ (T b).2.1 := fun a ha b hb hne => by
  rcases Nat.lt_or_gt_of_ne hne with q | q
  · exact h b hb a q
  · exact fun e => h a ha b q e.symm
theorem xbl_clean : ∀ ci ∈ List.range 13, (xbl ci).length = xN ci ∧ ∀ v ∈ xbl ci, v = .null ∨ v = .int 0 ∨ v = .long 0 := by decide +kernel
theorem xIN_all : ∀ ci ∈ List.range 13, ci ∈ xINt ∧ ci ∈ xIZt := by decide +kernel
/-- the part of a class's words that is the same for all -/
theorem x_cl1 {G : xG} (h1 : G.2.1 = xty) (h2 : G.2.2.1 = xbl) {ci : Nat} (hci : ci < 13) (hN : xN ci ≤ 100) (hp : ∀ k, k < xN ci → parseFieldDescriptor (xT ci k).2.2.1 = some (xty ci k)) (hn : ∀ b, b < xN ci → ∀ a, a < b → (xT ci a).2.1 ≠ (xT ci b).2.1) (hd : ∀ j, j < xN ci → defaultValue (xty ci j) = vp_V (xbl ci) j) :
    (∀ w ∈ u_ws (xo ci) (xT ci) (xN ci), w ∈ xt) ∧ (∀ k, k < xN ci → parseFieldDescriptor (xT ci k).2.2.1 = some (G.2.1 ci k)) ∧ (∀ a, a < xN ci → ∀ b, b < xN ci → a ≠ b → (xT ci a).2.1 ≠ (xT ci b).2.1) ∧
    Cond.instantiable (xo ci) (xN ci) ∈ xt ∧ Cond.initialized (xo ci) ∈ xt ∧ (G.2.2.1 ci).length = xN ci ∧ ∀ j, j < xN ci → defaultValue (G.2.1 ci j) = vp_V ((G.2.2.1 ci)) j ∧ ∀ k, (G.2.2.1 ci)[j]? ≠ some (.ref k) ∧ (G.2.2.1 ci)[j]? ≠ some (.retAddr k) := by
  rw [h1, h2]
  have hr := List.mem_range.mpr hci
  obtain ⟨hlen, hcl⟩ := xbl_clean ci hr
  refine ⟨fun w hw => ?_, hp, x_nm hn, xt_IN (xIN_all ci hr).1, xt_IZ (xIN_all ci hr).2, hlen, fun j hj => ⟨hd j hj, fun k => ⟨fun e => ?_, fun e => ?_⟩⟩⟩
  · obtain ⟨k, hk, rfl⟩ := List.mem_map.mp hw
    have h9 := xt_LY (xLY_all ci hr k hk)
    have hk2 := List.mem_range.mp hk
    have e1 : (ci * 100 + k) / 100 = ci := by omega
    have e2 : (ci * 100 + k) % 100 = k := by omega
    unfold xLYf at h9
    rw [e1, e2] at h9
    exact h9
  · rcases hcl _ (List.mem_of_getElem? e) with q | q | q <;> cases q
  · rcases hcl _ (List.mem_of_getElem? e) with q | q | q <;> cases q
theorem x_cls_ok {G : xG} (h1 : G.2.1 = xty) (h2 : G.2.2.1 = xbl) : x_clOk xt G xcls := by
  intro ci C T N h
  have hlt : ci < 13 := (List.getElem?_eq_some_iff.mp h).1
  match ci, h, hlt with
  | 0, h, hlt => cases h; exact x_cl1 h1 h2 (ci := 0) (by decide) (by decide) xpf_0 xnm_0 xdv_0
  | 1, h, hlt => cases h; exact x_cl1 h1 h2 (ci := 1) (by decide) (by decide) xpf_1 xnm_1 xdv_1
  | 2, h, hlt => cases h; exact x_cl1 h1 h2 (ci := 2) (by decide) (by decide) xpf_2 xnm_2 xdv_2
  | 3, h, hlt => cases h; exact x_cl1 h1 h2 (ci := 3) (by decide) (by decide) xpf_3 xnm_3 xdv_3
  | 4, h, hlt => cases h; exact x_cl1 h1 h2 (ci := 4) (by decide) (by decide) xpf_4 xnm_4 xdv_4
  | 5, h, hlt => cases h; exact x_cl1 h1 h2 (ci := 5) (by decide) (by decide) xpf_5 xnm_5 xdv_5
  | 6, h, hlt => cases h; exact x_cl1 h1 h2 (ci := 6) (by decide) (by decide) xpf_6 xnm_6 xdv_6
  | 7, h, hlt => cases h; exact x_cl1 h1 h2 (ci := 7) (by decide) (by decide) xpf_7 xnm_7 xdv_7
  | 8, h, hlt => cases h; exact x_cl1 h1 h2 (ci := 8) (by decide) (by decide) xpf_8 xnm_8 xdv_8
  | 9, h, hlt => cases h; exact x_cl1 h1 h2 (ci := 9) (by decide) (by decide) xpf_9 xnm_9 xdv_9
  | 10, h, hlt => cases h; exact x_cl1 h1 h2 (ci := 10) (by decide) (by decide) xpf_10 xnm_10 xdv_10
  | 11, h, hlt => cases h; exact x_cl1 h1 h2 (ci := 11) (by decide) (by decide) xpf_11 xnm_11 xdv_11
  | 12, h, hlt => cases h; exact x_cl1 h1 h2 (ci := 12) (by decide) (by decide) xpf_12 xnm_12 xdv_12
  | n + 13, h, hlt => exact absurd hlt (by omega)
