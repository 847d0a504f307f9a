/-! THE START: constants, classes, array classes; then the claim out of a pure run -/
theorem xin_IZ {o : Nat} (h : o ∈ xIZt) : Cond.initialized (xo o) ∈ tables_1 := x_sel_mem _ _ _ (by rw [xIZ_eq]; exact List.mem_map_of_mem (f := xIZf) h)
theorem xin_LS {j : Nat} {e : String × String × String} (h : xst[j]? = some e) : Cond.laysStatic e.1 e.2.1 e.2.2 ∈ tables_1 := x_sel_mem _ _ _ (by rw [xp_ls]; exact List.mem_map_of_mem (f := fun e : String × String × String => Cond.laysStatic e.1 e.2.1 e.2.2) (List.mem_of_getElem? h))
theorem xin_SR {j : Nat} {e : String × Nat × String × Nat} (h : xtx[j]? = some e) : Cond.stringRef e.1 e.2.1 e.2.2.1 ∈ tables_1 := x_sel_mem _ _ _ (by rw [xp_sr]; exact List.mem_map_of_mem (f := fun e : String × Nat × String × Nat => Cond.stringRef e.1 e.2.1 e.2.2.1) (List.mem_of_getElem? h))
def x_acf (u : Value) (tr : Nat → Nat) : Nat → Value := fun k => if k = 0 then u else .ref (tr k)
set_option maxHeartbeats 4000000 in
set_option maxRecDepth 20000 in
theorem x_Cs0 {args : Array Value} {s : State} {b L : Nat} {xs : Nat → Int32} (htb : ∀ w ∈ tables_1, w.before args s = true) (hpre : ∀ w ∈ xpre, w.before args s = true) (hX : va_X b L xs s s.heap) (hbl : b < s.heap.size) :
    ∃ ac : Nat → Value, (∀ k, (ac k).category = 1) ∧ (∀ k, k ≠ 0 → ∃ t : Nat, ac k = .ref t) ∧ ac 1 = .ref b ∧ x_Cs (xg ((List.range L).map xs)) s.heap.size ac s := by
  have hA : ∀ a : Nat, a < s.heap.size → ¬ x_A s.heap.size a := fun a h1 h2 => Nat.not_le.mpr h1 h2
  obtain ⟨t2, et2, hT2⟩ := xk_a2 (A := x_A s.heap.size) hpre hA
  obtain ⟨t3, et3, hT3⟩ := xk_a3 (A := x_A s.heap.size) hpre hA
  obtain ⟨t4, et4, hT4⟩ := xk_a4 (A := x_A s.heap.size) hpre hA
  obtain ⟨t5, et5, hT5⟩ := xk_a5 (A := x_A s.heap.size) hpre hA
  obtain ⟨t6, et6, hT6⟩ := xk_a6 (A := x_A s.heap.size) hpre hA
  obtain ⟨a0, v0, ea0, hO0, hc0, hv0, hV0⟩ := xk_b0 (A := x_A s.heap.size) hpre hA
  obtain ⟨a1, v1, ea1, hO1, hc1, hv1, hV1⟩ := xk_b1 (A := x_A s.heap.size) hpre hA
  obtain ⟨a2, v2, ea2, hO2, hc2, hv2, hV2⟩ := xk_b2 (A := x_A s.heap.size) hpre hA
  obtain ⟨a3, v3, ea3, hO3, hc3, hv3, hV3⟩ := xk_b3 (A := x_A s.heap.size) hpre hA
  obtain ⟨a4, v4, ea4, hO4, hc4, hv4, hV4⟩ := xk_b4 (A := x_A s.heap.size) hpre hA
  obtain ⟨a5, v5, ea5, hO5, hc5, hv5, hV5⟩ := xk_b5 (A := x_A s.heap.size) hpre hA
  obtain ⟨a6, v6, ea6, hO6, hc6, hv6, hV6⟩ := xk_b6 (A := x_A s.heap.size) hpre hA
  obtain ⟨a7, v7, ea7, hO7, hc7, hv7, hV7⟩ := xk_b7 (A := x_A s.heap.size) hpre hA
  obtain ⟨a8, v8, ea8, hO8, hc8, hv8, hV8⟩ := xk_b8 (A := x_A s.heap.size) hpre hA
  obtain ⟨a9, v9, ea9, hO9, hc9, hv9, hV9⟩ := xk_b9 (A := x_A s.heap.size) hpre hA
  obtain ⟨a10, v10, ea10, hO10, hc10, hv10, hV10⟩ := xk_b10 (A := x_A s.heap.size) hpre hA
  obtain ⟨a11, v11, ea11, hO11, hc11, hv11, hV11⟩ := xk_b11 (A := x_A s.heap.size) hpre hA
  obtain ⟨a12, v12, ea12, hO12, hc12, hv12, hV12⟩ := xk_b12 (A := x_A s.heap.size) hpre hA
  obtain ⟨u, hu1, hu2⟩ : ∃ u : Value, u.category = 1 ∧ va_Z "jdk/internal/util/Preconditions" "SIOOBE_FORMATTER" "Ljava/util/function/BiFunction;" u (x_A s.heap.size) s s.heap := by
    rcases va_Zqof (A := x_A s.heap.size) (htb _ (xin_LS (j := 1) rfl)) (htb _ (xin_IZ (o := 93) (by decide +kernel))) (hpre _ xp_s1) hA with h | ⟨t, h⟩
    · exact ⟨.null, rfl, h⟩
    · exact ⟨.ref t, rfl, h⟩
  refine ⟨x_acf u (fun k => match k with | 1 => b | 2 => t2 | 3 => t3 | 4 => t4 | 5 => t5 | 6 => t6 | 20 => a0 | 21 => a1 | 22 => a2 | 23 => a3 | 24 => a4 | 25 => a5 | 26 => a6 | 27 => a7 | 28 => a8 | 29 => a9 | 30 => a10 | 31 => a11 | 32 => a12 | 60 => v0 | 61 => v1 | 62 => v2 | 63 => v3 | 64 => v4 | 65 => v5 | 66 => v6 | 67 => v7 | 68 => v8 | 69 => v9 | 70 => v10 | 71 => v11 | 72 => v12 | _ => 0), fun k => ?_, fun k hk => ⟨_, if_neg hk⟩, rfl, ?_, ?_, ?_, ?_, ?_⟩
  · unfold x_acf
    split
    · exact hu1
    · rfl
  · intro q hq
    simp only [xg, xstv, List.mem_cons, List.not_mem_nil, or_false] at hq
    rcases hq with rfl | rfl | rfl | rfl | rfl | rfl | rfl | rfl | rfl | rfl
    · exact va_Zof (htb _ (xin_LS (j := 0) rfl)) (htb _ (xin_IZ (o := 90) (by decide +kernel))) (va_eqi (hpre _ xp_s0)) hA
    · exact hu2
    · exact va_Zof (htb _ (xin_LS (j := 2) rfl)) (htb _ (xin_IZ (o := 94) (by decide +kernel))) (va_eqi (hpre _ xp_s2)) hA
    · exact va_Zof (htb _ (xin_LS (j := 3) rfl)) (htb _ (xin_IZ (o := 94) (by decide +kernel))) (va_eqi (hpre _ xp_s3)) hA
    · exact va_Zof (htb _ (xin_LS (j := 4) rfl)) (htb _ (xin_IZ (o := 94) (by decide +kernel))) (va_eqi (hpre _ xp_s4)) hA
    · exact va_Zof (htb _ (xin_LS (j := 5) rfl)) (htb _ (xin_IZ (o := 0) (by decide +kernel))) et2 hA
    · exact va_Zof (htb _ (xin_LS (j := 6) rfl)) (htb _ (xin_IZ (o := 0) (by decide +kernel))) et3 hA
    · exact va_Zof (htb _ (xin_LS (j := 7) rfl)) (htb _ (xin_IZ (o := 0) (by decide +kernel))) et4 hA
    · exact va_Zof (htb _ (xin_LS (j := 8) rfl)) (htb _ (xin_IZ (o := 0) (by decide +kernel))) et5 hA
    · exact va_Zof (htb _ (xin_LS (j := 9) rfl)) (htb _ (xin_IZ (o := 0) (by decide +kernel))) et6 hA
  · intro q hq
    simp only [xg, xca, List.mem_cons, List.not_mem_nil, or_false] at hq
    rcases hq with rfl | rfl | rfl | rfl | rfl | rfl | rfl | rfl | rfl | rfl | rfl | rfl | rfl | rfl | rfl | rfl | rfl | rfl | rfl
    · obtain ⟨cell, h1, h2, h3, h4, h5⟩ := hX
      refine ⟨b, rfl, cell, h1, h2, h3, ?_, ?_, ?_, hA b hbl⟩
      · simp [h4]
      · simp [h4]
      · intro j hj
        simp only [List.length_map, List.length_range] at hj
        rw [h5 j hj]
        simp [hj]
    · exact ⟨t2, rfl, hT2⟩
    · exact ⟨t3, rfl, hT3⟩
    · exact ⟨t4, rfl, hT4⟩
    · exact ⟨t5, rfl, hT5⟩
    · exact ⟨t6, rfl, hT6⟩
    · exact ⟨v0, rfl, hV0⟩
    · exact ⟨v1, rfl, hV1⟩
    · exact ⟨v2, rfl, hV2⟩
    · exact ⟨v3, rfl, hV3⟩
    · exact ⟨v4, rfl, hV4⟩
    · exact ⟨v5, rfl, hV5⟩
    · exact ⟨v6, rfl, hV6⟩
    · exact ⟨v7, rfl, hV7⟩
    · exact ⟨v8, rfl, hV8⟩
    · exact ⟨v9, rfl, hV9⟩
    · exact ⟨v10, rfl, hV10⟩
    · exact ⟨v11, rfl, hV11⟩
    · exact ⟨v12, rfl, hV12⟩
  · intro q hq
    simp only [xg, xsf, List.mem_cons, List.not_mem_nil, or_false] at hq
    rcases hq with rfl | rfl | rfl | rfl | rfl | rfl | rfl | rfl | rfl | rfl | rfl | rfl | rfl | rfl | rfl | rfl | rfl | rfl | rfl | rfl | rfl | rfl | rfl | rfl | rfl | rfl
    · exact ⟨a0, rfl, hv0, hO0⟩
    · exact ⟨a0, rfl, hc0, hO0⟩
    · exact ⟨a1, rfl, hv1, hO1⟩
    · exact ⟨a1, rfl, hc1, hO1⟩
    · exact ⟨a2, rfl, hv2, hO2⟩
    · exact ⟨a2, rfl, hc2, hO2⟩
    · exact ⟨a3, rfl, hv3, hO3⟩
    · exact ⟨a3, rfl, hc3, hO3⟩
    · exact ⟨a4, rfl, hv4, hO4⟩
    · exact ⟨a4, rfl, hc4, hO4⟩
    · exact ⟨a5, rfl, hv5, hO5⟩
    · exact ⟨a5, rfl, hc5, hO5⟩
    · exact ⟨a6, rfl, hv6, hO6⟩
    · exact ⟨a6, rfl, hc6, hO6⟩
    · exact ⟨a7, rfl, hv7, hO7⟩
    · exact ⟨a7, rfl, hc7, hO7⟩
    · exact ⟨a8, rfl, hv8, hO8⟩
    · exact ⟨a8, rfl, hc8, hO8⟩
    · exact ⟨a9, rfl, hv9, hO9⟩
    · exact ⟨a9, rfl, hc9, hO9⟩
    · exact ⟨a10, rfl, hv10, hO10⟩
    · exact ⟨a10, rfl, hc10, hO10⟩
    · exact ⟨a11, rfl, hv11, hO11⟩
    · exact ⟨a11, rfl, hc11, hO11⟩
    · exact ⟨a12, rfl, hv12, hO12⟩
    · exact ⟨a12, rfl, hc12, hO12⟩
  · intro q hq
    simp only [xg, xtx, List.mem_cons, List.not_mem_nil, or_false] at hq
    rcases hq with rfl | rfl | rfl | rfl | rfl | rfl | rfl | rfl | rfl | rfl | rfl | rfl | rfl
    · exact ⟨a0, rfl, vk_R.of (htb _ (xin_SR (j := 0) rfl)) ea0⟩
    · exact ⟨a1, rfl, vk_R.of (htb _ (xin_SR (j := 1) rfl)) ea1⟩
    · exact ⟨a2, rfl, vk_R.of (htb _ (xin_SR (j := 2) rfl)) ea2⟩
    · exact ⟨a3, rfl, vk_R.of (htb _ (xin_SR (j := 3) rfl)) ea3⟩
    · exact ⟨a4, rfl, vk_R.of (htb _ (xin_SR (j := 4) rfl)) ea4⟩
    · exact ⟨a5, rfl, vk_R.of (htb _ (xin_SR (j := 5) rfl)) ea5⟩
    · exact ⟨a6, rfl, vk_R.of (htb _ (xin_SR (j := 6) rfl)) ea6⟩
    · exact ⟨a7, rfl, vk_R.of (htb _ (xin_SR (j := 7) rfl)) ea7⟩
    · exact ⟨a8, rfl, vk_R.of (htb _ (xin_SR (j := 8) rfl)) ea8⟩
    · exact ⟨a9, rfl, vk_R.of (htb _ (xin_SR (j := 9) rfl)) ea9⟩
    · exact ⟨a10, rfl, vk_R.of (htb _ (xin_SR (j := 10) rfl)) ea10⟩
    · exact ⟨a11, rfl, vk_R.of (htb _ (xin_SR (j := 11) rfl)) ea11⟩
    · exact ⟨a12, rfl, vk_R.of (htb _ (xin_SR (j := 12) rfl)) ea12⟩
  · intro w hw
    have hw : w ∈ xnst := hw
    rcases List.mem_append.mp hw with h | h
    · obtain ⟨e, -, rfl⟩ := List.mem_map.mp h
      exact va_Nw.of rfl (htb _ (x_sel_mem _ _ _ (by rw [xFN_eq]; exact h)))
    · obtain ⟨e, -, rfl⟩ := List.mem_map.mp h
      exact va_Nw.of rfl (htb _ (x_sel_mem _ _ _ (by rw [xMN_eq]; exact h)))
