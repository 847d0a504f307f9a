/-! THE CHECK GIVES x_MOk -/
theorem xlt_ST : ∀ j ∈ xSTt, j < 408 := by decide +kernel
theorem xlt_IM : ∀ j ∈ xIMt, j < 408 := by decide +kernel
theorem xms_of {j : Nat} (h : j < 408) : xms j = some (xm j) := by
  unfold xms
  rw [show Nat.blt j 408 = true from Nat.ble_eq_true_of_le h]
  rfl
theorem xms_lt {j : Nat} {M : xM} (h : xms j = some M) : j < 408 ∧ M = xm j := by
  unfold xms at h
  cases hb : Nat.blt j 408 with
  | true => rw [hb] at h; cases h; exact ⟨Nat.le_of_ble_eq_true hb, rfl⟩
  | false => rw [hb] at h; cases h
theorem xpar_ST : ∀ j ∈ xSTt, (parseMethodDescriptor (xq j).2.2.1).map (fun d => d.parameters.length) = some (xq j).2.2.2.2.2.2 := by decide +kernel
theorem xpar_IM : ∀ j ∈ xIMt, 1 ≤ (xq j).2.2.2.2.2.2 ∧ (parseMethodDescriptor (xq j).2.2.1).map (fun d => d.parameters.length) = some ((xq j).2.2.2.2.2.2 - 1) := by decide +kernel
theorem xini_ok : ∀ j ∈ xINI, (xq j).2.1 = "<init>" ∧ (xq j).2.2.2.2.2.1 = none := by decide +kernel
theorem xFL_ok : ∀ e ∈ xFLt, e.2.2 / 100 < 13 ∧ e.2.2 % 100 < xN (e.2.2 / 100) := by decide +kernel
theorem xFG_ok : ∀ e ∈ xFGt, e.2.2 < 10 := by decide +kernel
theorem xFN_ok : ∀ e ∈ xFNt, e.2.2 < 10 := by decide +kernel
theorem xcls_at {o : Nat} (h : o < 13) : xcls[o]? = some (xo o, xT o, xN o) := by
  match o, h with
  | 0, _ => rfl
  | 1, _ => rfl
  | 2, _ => rfl
  | 3, _ => rfl
  | 4, _ => rfl
  | 5, _ => rfl
  | 6, _ => rfl
  | 7, _ => rfl
  | 8, _ => rfl
  | 9, _ => rfl
  | 10, _ => rfl
  | 11, _ => rfl
  | 12, _ => rfl
  | n + 13, h => exact absurd h (by omega)
theorem xstv_at {s : Nat} (h : s < 10) : ∃ v, xstv[s]? = some ((xstj s).1, (xstj s).2.1, (xstj s).2.2, v) := by
  match s, h with
  | 0, _ => exact ⟨_, rfl⟩
  | 1, _ => exact ⟨_, rfl⟩
  | 2, _ => exact ⟨_, rfl⟩
  | 3, _ => exact ⟨_, rfl⟩
  | 4, _ => exact ⟨_, rfl⟩
  | 5, _ => exact ⟨_, rfl⟩
  | 6, _ => exact ⟨_, rfl⟩
  | 7, _ => exact ⟨_, rfl⟩
  | 8, _ => exact ⟨_, rfl⟩
  | 9, _ => exact ⟨_, rfl⟩
  | n + 10, h => exact absurd h (by omega)
theorem xSR_ok : ∀ e ∈ xSRt, ∃ q, xtx[e.2.2]? = some q ∧ q.1 = xo e.1 ∧ q.2.1 = e.2.1 := by
  intro e he
  simp only [xSRt, List.mem_cons, List.not_mem_nil, or_false] at he
  rcases he with rfl | rfl | rfl | rfl | rfl | rfl | rfl | rfl | rfl | rfl | rfl | rfl | rfl <;> exact ⟨_, rfl, rfl, rfl⟩
theorem xcn_at {o : Nat} (h : o < 13 ∨ o = 90) : xcn o = o := by
  unfold xcn
  have h1 : Nat.beq o 95 = false := by
    cases hb : Nat.beq o 95 with
    | true => exact absurd (Nat.eq_of_beq_eq_true hb) (by omega)
    | false => rfl
  have h2 : Nat.beq o 97 = false := by
    cases hb : Nat.beq o 97 with
    | true => exact absurd (Nat.eq_of_beq_eq_true hb) (by omega)
    | false => rfl
  rw [h1, h2]
  rfl
theorem xT_own {o k : Nat} (ho : o < 13) (hk : k < xN o) : (xT o k).1 = xo o := by
  match o, ho with
  | 0, _ =>
    match k, hk with
    | 0, _ => rfl
    | 1, _ => rfl
    | 2, _ => rfl
    | 3, _ => rfl
    | 4, _ => rfl
    | 5, _ => rfl
    | 6, _ => rfl
    | 7, _ => rfl
    | 8, _ => rfl
    | 9, _ => rfl
    | 10, _ => rfl
    | 11, _ => rfl
    | 12, _ => rfl
    | n + 13, h => exact absurd h (by show ¬ n + 13 < 13; omega)
  | 1, _ =>
    match k, hk with
    | 0, _ => rfl
    | 1, _ => rfl
    | 2, _ => rfl
    | 3, _ => rfl
    | 4, _ => rfl
    | 5, _ => rfl
    | n + 6, h => exact absurd h (by show ¬ n + 6 < 6; omega)
  | 2, _ =>
    match k, hk with
    | 0, _ => rfl
    | 1, _ => rfl
    | 2, _ => rfl
    | 3, _ => rfl
    | 4, _ => rfl
    | 5, _ => rfl
    | 6, _ => rfl
    | 7, _ => rfl
    | 8, _ => rfl
    | n + 9, h => exact absurd h (by show ¬ n + 9 < 9; omega)
  | 3, _ =>
    match k, hk with
    | 0, _ => rfl
    | 1, _ => rfl
    | 2, _ => rfl
    | 3, _ => rfl
    | 4, _ => rfl
    | n + 5, h => exact absurd h (by show ¬ n + 5 < 5; omega)
  | 4, _ =>
    match k, hk with
    | 0, _ => rfl
    | 1, _ => rfl
    | 2, _ => rfl
    | 3, _ => rfl
    | 4, _ => rfl
    | 5, _ => rfl
    | 6, _ => rfl
    | n + 7, h => exact absurd h (by show ¬ n + 7 < 7; omega)
  | 5, _ =>
    match k, hk with
    | 0, _ => rfl
    | 1, _ => rfl
    | 2, _ => rfl
    | 3, _ => rfl
    | 4, _ => rfl
    | 5, _ => rfl
    | 6, _ => rfl
    | 7, _ => rfl
    | 8, _ => rfl
    | 9, _ => rfl
    | 10, _ => rfl
    | 11, _ => rfl
    | 12, _ => rfl
    | 13, _ => rfl
    | 14, _ => rfl
    | 15, _ => rfl
    | n + 16, h => exact absurd h (by show ¬ n + 16 < 16; omega)
  | 6, _ =>
    match k, hk with
    | 0, _ => rfl
    | 1, _ => rfl
    | 2, _ => rfl
    | 3, _ => rfl
    | 4, _ => rfl
    | 5, _ => rfl
    | 6, _ => rfl
    | 7, _ => rfl
    | n + 8, h => exact absurd h (by show ¬ n + 8 < 8; omega)
  | 7, _ =>
    match k, hk with
    | 0, _ => rfl
    | 1, _ => rfl
    | n + 2, h => exact absurd h (by show ¬ n + 2 < 2; omega)
  | 8, _ =>
    match k, hk with
    | 0, _ => rfl
    | 1, _ => rfl
    | 2, _ => rfl
    | 3, _ => rfl
    | 4, _ => rfl
    | 5, _ => rfl
    | 6, _ => rfl
    | 7, _ => rfl
    | n + 8, h => exact absurd h (by show ¬ n + 8 < 8; omega)
  | 9, _ =>
    match k, hk with
    | 0, _ => rfl
    | 1, _ => rfl
    | 2, _ => rfl
    | 3, _ => rfl
    | 4, _ => rfl
    | 5, _ => rfl
    | 6, _ => rfl
    | 7, _ => rfl
    | 8, _ => rfl
    | 9, _ => rfl
    | n + 10, h => exact absurd h (by show ¬ n + 10 < 10; omega)
  | 10, _ =>
    match k, hk with
    | 0, _ => rfl
    | 1, _ => rfl
    | 2, _ => rfl
    | 3, _ => rfl
    | 4, _ => rfl
    | 5, _ => rfl
    | 6, _ => rfl
    | 7, _ => rfl
    | n + 8, h => exact absurd h (by show ¬ n + 8 < 8; omega)
  | 11, _ =>
    match k, hk with
    | 0, _ => rfl
    | 1, _ => rfl
    | 2, _ => rfl
    | 3, _ => rfl
    | 4, _ => rfl
    | 5, _ => rfl
    | 6, _ => rfl
    | 7, _ => rfl
    | 8, _ => rfl
    | 9, _ => rfl
    | 10, _ => rfl
    | 11, _ => rfl
    | 12, _ => rfl
    | 13, _ => rfl
    | n + 14, h => exact absurd h (by show ¬ n + 14 < 14; omega)
  | 12, _ =>
    match k, hk with
    | 0, _ => rfl
    | 1, _ => rfl
    | 2, _ => rfl
    | 3, _ => rfl
    | 4, _ => rfl
    | 5, _ => rfl
    | 6, _ => rfl
    | 7, _ => rfl
    | 8, _ => rfl
    | 9, _ => rfl
    | 10, _ => rfl
    | 11, _ => rfl
    | 12, _ => rfl
    | 13, _ => rfl
    | 14, _ => rfl
    | 15, _ => rfl
    | 16, _ => rfl
    | 17, _ => rfl
    | 18, _ => rfl
    | 19, _ => rfl
    | 20, _ => rfl
    | 21, _ => rfl
    | 22, _ => rfl
    | 23, _ => rfl
    | 24, _ => rfl
    | 25, _ => rfl
    | 26, _ => rfl
    | 27, _ => rfl
    | 28, _ => rfl
    | 29, _ => rfl
    | 30, _ => rfl
    | 31, _ => rfl
    | 32, _ => rfl
    | 33, _ => rfl
    | 34, _ => rfl
    | 35, _ => rfl
    | 36, _ => rfl
    | 37, _ => rfl
    | 38, _ => rfl
    | 39, _ => rfl
    | 40, _ => rfl
    | 41, _ => rfl
    | 42, _ => rfl
    | 43, _ => rfl
    | 44, _ => rfl
    | 45, _ => rfl
    | 46, _ => rfl
    | 47, _ => rfl
    | 48, _ => rfl
    | 49, _ => rfl
    | 50, _ => rfl
    | 51, _ => rfl
    | 52, _ => rfl
    | 53, _ => rfl
    | 54, _ => rfl
    | 55, _ => rfl
    | 56, _ => rfl
    | 57, _ => rfl
    | 58, _ => rfl
    | 59, _ => rfl
    | 60, _ => rfl
    | 61, _ => rfl
    | 62, _ => rfl
    | 63, _ => rfl
    | 64, _ => rfl
    | 65, _ => rfl
    | 66, _ => rfl
    | 67, _ => rfl
    | n + 68, h => exact absurd h (by show ¬ n + 68 < 68; omega)
  | n + 13, h => exact absurd h (by omega)
set_option maxHeartbeats 4000000 in
set_option maxRecDepth 20000 in
theorem x_chk_rel {j : Nat} (xs : List Int32) {pc len : Nat} {a : Instr} (h : x_chk (xm j).2.1 (xq j).1 (x_el j xINI) (pc, a, len) = true) : x_rel xt (xg xs) xcls xms (xm j).1 (xm j).2.1 pc len a := by
  unfold x_chk at h
  split at h
  · rename_i r n hd
    simp only [Bool.and_eq_true] at h
    obtain ⟨hn, h3, h⟩ := h
    have hn := Nat.eq_of_beq_eq_true hn
    dsimp only at hn h3 h hd
    subst hn
    cases a
    case getfield k =>
      have hl := Nat.eq_of_beq_eq_true h3
      subst hl
      simp only [x_okr] at h
      split at h
      · rename_i i
        have hm := x_lk3_mem h
        obtain ⟨h1, h2⟩ := xFL_ok _ hm
        exact ⟨i, _, _, _, hd, xcls_at h1, h2, xt_FL hm⟩
      · cases h
    case instanceof f =>
      have hl := Nat.eq_of_beq_eq_true h3
      subst hl
      simp only [x_okr] at h
      split at h
      · rename_i i
        exact ⟨i, hd, xt_FS (x_lk3_mem h)⟩
      · cases h
    case putfield k =>
      have hl := Nat.eq_of_beq_eq_true h3
      subst hl
      simp only [x_okr] at h
      split at h
      · rename_i i
        simp only [Bool.and_eq_true, Bool.not_eq_true'] at h
        have hm := x_lk3_mem h.1
        obtain ⟨h1, h2⟩ := xFL_ok _ hm
        exact ⟨i, _, _, _, hd, xcls_at h1, h2, xt_FL hm, h.2⟩
      · cases h
    case putstatic k =>
      have hl := Nat.eq_of_beq_eq_true h3
      subst hl
      simp only [x_okr] at h
      split at h
      · rename_i i
        simp only [Bool.and_eq_true] at h
        have hm := x_lk3_mem h.1
        obtain ⟨h1, h2⟩ := xFL_ok _ hm
        have h5 := Nat.eq_of_beq_eq_true h.2.2.2
        refine ⟨i, _, _, _, hd, xcls_at h1, h2, xt_FL hm, h.2.1, ?_, (xini_ok _ (x_el_mem h.2.2.1)).1⟩
        show (xT (k / 100) (k % 100)).1 = xo (xq j).1
        rw [← h5]
        exact xT_own h1 h2
      · cases h
    case getstatic s =>
      have hl := Nat.eq_of_beq_eq_true h3
      subst hl
      simp only [x_okr] at h
      split at h
      · rename_i i
        rcases Bool.or_eq_true_iff.mp h with h | h
        · have hm := x_lk3_mem h
          obtain ⟨v, hv⟩ := xstv_at (xFG_ok _ hm)
          exact ⟨i, _, hd, hv, Or.inl (xt_FG hm)⟩
        · have hm := x_lk3_mem h
          obtain ⟨v, hv⟩ := xstv_at (xFN_ok _ hm)
          exact ⟨i, _, hd, hv, Or.inr ⟨_, List.mem_append_left _ (List.mem_map_of_mem (f := xFNf) hm)⟩⟩
      · cases h
    case new c =>
      have hl := Nat.eq_of_beq_eq_true h3
      subst hl
      simp only [x_okr] at h
      split at h
      · rename_i i
        simp only [Bool.and_eq_true] at h
        have h1 : c < 13 := Nat.le_of_ble_eq_true h.2
        exact ⟨i, _, _, _, hd, xcls_at h1, xt_KL (x_lk3_mem h.1)⟩
      · cases h
    case newarray t =>
      have hl := Nat.eq_of_beq_eq_true h3
      subst hl
      simp only [x_okr] at h
      split at h
      · rename_i t'
        simp only [Bool.and_eq_true] at h
        have h1 := of_decide_eq_true h.1
        subst h1
        refine ⟨hd, ?_⟩
        cases t <;> first | exact xt_AR (by decide) | exact absurd h.2 (by decide)
      · cases h
    case jsr v =>
      simp only [x_okr] at h
      split at h
      · rename_i i
        simp only [Bool.and_eq_true] at h
        have hl := Nat.eq_of_beq_eq_true h.2
        subst hl
        exact ⟨i, Or.inl ⟨hd, rfl⟩, xt_CT (x_lki_mem h.1)⟩
      · rename_i i
        simp only [Bool.and_eq_true] at h
        have hl := Nat.eq_of_beq_eq_true h.2
        subst hl
        exact ⟨i, Or.inr ⟨hd, rfl⟩, xt_CT (x_lki_mem h.1)⟩
      · cases h
    case jsr_w v =>
      have hl := Nat.eq_of_beq_eq_true h3
      subst hl
      simp only [x_okr] at h
      split at h
      · rename_i i
        exact ⟨i, hd, xt_CL (x_lki_mem h)⟩
      · cases h
    case ldc s =>
      simp only [x_okr] at h
      split at h
      · rename_i i
        simp only [Bool.and_eq_true] at h
        have hl := Nat.eq_of_beq_eq_true h.2
        subst hl
        obtain ⟨q, q1, q2, q3⟩ := xSR_ok _ (x_lk3_mem h.1)
        dsimp only at q1 q2 q3
        exact ⟨q, q1, q2, Or.inl ⟨by rw [q3]; exact hd, rfl⟩⟩
      · rename_i i
        simp only [Bool.and_eq_true] at h
        have hl := Nat.eq_of_beq_eq_true h.2
        subst hl
        obtain ⟨q, q1, q2, q3⟩ := xSR_ok _ (x_lk3_mem h.1)
        dsimp only at q1 q2 q3
        exact ⟨q, q1, q2, Or.inr ⟨by rw [q3]; exact hd, rfl⟩⟩
      · cases h
    case athrow =>
      have hl := Nat.eq_of_beq_eq_true h3
      subst hl
      simp only [x_okr] at h
      split at h
      · rename_i i
        exact ⟨i, hd, xt_ML (x_lk3_mem h), xt_IM (e := 2) (by decide +kernel), xt_CD (e := 2) (by decide +kernel)⟩
      · cases h
    case fadd =>
      have hl := Nat.eq_of_beq_eq_true h3
      subst hl
      simp only [x_okr] at h
      split at h
      · rename_i i
        exact ⟨i, hd, xt_ML (x_lk3_mem h), xt_ST (e := 56) (by decide +kernel), xt_IZ (e := 95) (by decide +kernel), xt_CD (e := 56) (by decide +kernel)⟩
      · cases h
    case fsub =>
      have hl := Nat.eq_of_beq_eq_true h3
      subst hl
      simp only [x_okr] at h
      split at h
      · rename_i i
        exact ⟨i, hd, xt_ML (x_lk3_mem h), xt_ST (e := 57) (by decide +kernel), xt_IZ (e := 95) (by decide +kernel), xt_CD (e := 57) (by decide +kernel)⟩
      · cases h
    case dadd =>
      have hl := Nat.eq_of_beq_eq_true h3
      subst hl
      simp only [x_okr] at h
      split at h
      · rename_i i
        exact ⟨i, hd, xt_ML (x_lk3_mem h), xt_ST (e := 225) (by decide +kernel), xt_IZ (e := 95) (by decide +kernel), xt_CD (e := 225) (by decide +kernel)⟩
      · cases h
    case dsub =>
      have hl := Nat.eq_of_beq_eq_true h3
      subst hl
      simp only [x_okr] at h
      split at h
      · rename_i i
        exact ⟨i, hd, xt_ML (x_lk3_mem h), xt_ST (e := 45) (by decide +kernel), xt_IZ (e := 95) (by decide +kernel), xt_CD (e := 45) (by decide +kernel)⟩
      · cases h
    case invokespecial j2 =>
      have hl := Nat.eq_of_beq_eq_true h3
      subst hl
      simp only [x_okr] at h
      split at h
      · rename_i i
        simp only [Bool.and_eq_true] at h
        have h1 := x_el_mem h.2.2
        obtain ⟨p1, p2⟩ := xpar_IM _ h1
        obtain ⟨i1, i2⟩ := xini_ok _ (x_el_mem h.2.1)
        exact ⟨i, _, _, hd, xms_of (xlt_IM _ h1), xt_ML (x_lk3_mem h.1), xt_IM h1, i1, i2, p2, Nat.sub_add_cancel p1⟩
      · cases h
    case invokeinterface j2 z2 =>
      have hl := Nat.eq_of_beq_eq_true h3
      subst hl
      simp only [x_okr] at h
      split at h
      · rename_i i
        simp only [Bool.and_eq_true] at h
        have h1 := x_el_mem h.2.2
        obtain ⟨p1, p2⟩ := xpar_IM _ h1
        obtain ⟨i1, i2⟩ := xini_ok _ (x_el_mem h.2.1)
        exact ⟨i, _, _, _, hd, xms_of (xlt_IM _ h1), List.mem_append_right _ (List.mem_map_of_mem (f := xMNf) (x_lk3_mem h.1)), xt_IM h1, i1, i2, p2, Nat.sub_add_cancel p1⟩
      · cases h
    case invokestatic j2 =>
      have hl := Nat.eq_of_beq_eq_true h3
      subst hl
      simp only [x_okr] at h
      split at h
      · rename_i i
        simp only [Bool.and_eq_true] at h
        have h1 := x_el_mem h.2
        exact ⟨i, _, hd, xms_of (xlt_ST _ h1), xt_ML (x_lk3_mem h.1), xt_ST h1, xpar_ST _ h1⟩
      · cases h
    case invokevirtual j2 =>
      have hl := Nat.eq_of_beq_eq_true h3
      subst hl
      simp only [x_okr] at h
      split at h
      · rename_i i
        simp only [Bool.and_eq_true] at h
        obtain ⟨h1, h2, h4, h5⟩ := h
        have h2 := x_el_mem h2
        obtain ⟨p1, p2⟩ := xpar_IM _ h2
        refine ⟨i, _, _, hd, xms_of (xlt_IM _ h2), xt_ML (x_lk3_mem h1), xt_IM h2, ?_, p2, Nat.sub_add_cancel p1, ?_⟩
        · rcases Bool.or_eq_true_iff.mp h4 with q | q
          · exact xt_SE (x_el_mem q)
          · exact xt_PS (x_el_mem q)
        · rcases Bool.or_eq_true_iff.mp h5 with q | q
          · have q : (xq j2).1 < 13 := Nat.le_of_ble_eq_true q
            left
            refine ⟨xT (xq j2).1, xN (xq j2).1, ?_, ?_⟩
            · show xcls[xcn (xq j2).1]? = some (xo (xq j2).1, _, _)
              rw [xcn_at (Or.inl q)]
              exact xcls_at q
            · show xcn (xq j2).1 < 90
              rw [xcn_at (Or.inl q)]
              omega
          · have q := Nat.eq_of_beq_eq_true q
            right
            refine ⟨?_, rfl, ?_⟩
            · show xcn (xq j2).1 = 90
              rw [xcn_at (Or.inr q)]
              exact q
            · show xo (xq j2).1 = _
              rw [q]
              rfl
      · cases h
    case tableswitch d lo hi offs =>
      have h1 := of_decide_eq_true h
      subst h1
      exact hd
    case lookupswitch d ps =>
      have h1 := of_decide_eq_true h
      subst h1
      exact hd
    all_goals first
      | (simp only [x_okr, x_pl, Bool.and_eq_true, decide_eq_true_eq] at h
         obtain ⟨-, h1, h2⟩ := h
         have h2 := Nat.eq_of_beq_eq_true h2
         rw [h1, h2] at hd
         exact hd)
      | (exact absurd h (by simp [x_okr, x_pl]))
  · cases h
theorem xk_all : ∀ j, j < 408 → x_chkM j = true := by
  intro j hj
  rcases Nat.lt_or_ge j 204 with h1 | h1
  · rcases Nat.lt_or_ge j 102 with h2 | h2
    · rcases Nat.lt_or_ge j 51 with h3 | h3
      · rcases Nat.lt_or_ge j 25 with h4 | h4
        · rcases Nat.lt_or_ge j 12 with h5 | h5
          · rcases Nat.lt_or_ge j 6 with h6 | h6
            · rcases Nat.lt_or_ge j 3 with h7 | h7
              · rcases Nat.lt_or_ge j 1 with h8 | h8
                · have e : j = 0 := by omega
                  subst e
                  exact xk_0
                · rcases Nat.lt_or_ge j 2 with h9 | h9
                  · have e : j = 1 := by omega
                    subst e
                    exact xk_1
                  · have e : j = 2 := by omega
                    subst e
                    exact xk_2
              · rcases Nat.lt_or_ge j 4 with h8 | h8
                · have e : j = 3 := by omega
                  subst e
                  exact xk_3
                · rcases Nat.lt_or_ge j 5 with h9 | h9
                  · have e : j = 4 := by omega
                    subst e
                    exact xk_4
                  · have e : j = 5 := by omega
                    subst e
                    exact xk_5
            · rcases Nat.lt_or_ge j 9 with h7 | h7
              · rcases Nat.lt_or_ge j 7 with h8 | h8
                · have e : j = 6 := by omega
                  subst e
                  exact xk_6
                · rcases Nat.lt_or_ge j 8 with h9 | h9
                  · have e : j = 7 := by omega
                    subst e
                    exact xk_7
                  · have e : j = 8 := by omega
                    subst e
                    exact xk_8
              · rcases Nat.lt_or_ge j 10 with h8 | h8
                · have e : j = 9 := by omega
                  subst e
                  exact xk_9
                · rcases Nat.lt_or_ge j 11 with h9 | h9
                  · have e : j = 10 := by omega
                    subst e
                    exact xk_10
                  · have e : j = 11 := by omega
                    subst e
                    exact xk_11
          · rcases Nat.lt_or_ge j 18 with h6 | h6
            · rcases Nat.lt_or_ge j 15 with h7 | h7
              · rcases Nat.lt_or_ge j 13 with h8 | h8
                · have e : j = 12 := by omega
                  subst e
                  exact xk_12
                · rcases Nat.lt_or_ge j 14 with h9 | h9
                  · have e : j = 13 := by omega
                    subst e
                    exact xk_13
                  · have e : j = 14 := by omega
                    subst e
                    exact xk_14
              · rcases Nat.lt_or_ge j 16 with h8 | h8
                · have e : j = 15 := by omega
                  subst e
                  exact xk_15
                · rcases Nat.lt_or_ge j 17 with h9 | h9
                  · have e : j = 16 := by omega
                    subst e
                    exact xk_16
                  · have e : j = 17 := by omega
                    subst e
                    exact xk_17
            · rcases Nat.lt_or_ge j 21 with h7 | h7
              · rcases Nat.lt_or_ge j 19 with h8 | h8
                · have e : j = 18 := by omega
                  subst e
                  exact xk_18
                · rcases Nat.lt_or_ge j 20 with h9 | h9
                  · have e : j = 19 := by omega
                    subst e
                    exact xk_19
                  · have e : j = 20 := by omega
                    subst e
                    exact xk_20
              · rcases Nat.lt_or_ge j 23 with h8 | h8
                · rcases Nat.lt_or_ge j 22 with h9 | h9
                  · have e : j = 21 := by omega
                    subst e
                    exact xk_21
                  · have e : j = 22 := by omega
                    subst e
                    exact xk_22
                · rcases Nat.lt_or_ge j 24 with h9 | h9
                  · have e : j = 23 := by omega
                    subst e
                    exact xk_23
                  · have e : j = 24 := by omega
                    subst e
                    exact xk_24
        · rcases Nat.lt_or_ge j 38 with h5 | h5
          · rcases Nat.lt_or_ge j 31 with h6 | h6
            · rcases Nat.lt_or_ge j 28 with h7 | h7
              · rcases Nat.lt_or_ge j 26 with h8 | h8
                · have e : j = 25 := by omega
                  subst e
                  exact xk_25
                · rcases Nat.lt_or_ge j 27 with h9 | h9
                  · have e : j = 26 := by omega
                    subst e
                    exact xk_26
                  · have e : j = 27 := by omega
                    subst e
                    exact xk_27
              · rcases Nat.lt_or_ge j 29 with h8 | h8
                · have e : j = 28 := by omega
                  subst e
                  exact xk_28
                · rcases Nat.lt_or_ge j 30 with h9 | h9
                  · have e : j = 29 := by omega
                    subst e
                    exact xk_29
                  · have e : j = 30 := by omega
                    subst e
                    exact xk_30
            · rcases Nat.lt_or_ge j 34 with h7 | h7
              · rcases Nat.lt_or_ge j 32 with h8 | h8
                · have e : j = 31 := by omega
                  subst e
                  exact xk_31
                · rcases Nat.lt_or_ge j 33 with h9 | h9
                  · have e : j = 32 := by omega
                    subst e
                    exact xk_32
                  · have e : j = 33 := by omega
                    subst e
                    exact xk_33
              · rcases Nat.lt_or_ge j 36 with h8 | h8
                · rcases Nat.lt_or_ge j 35 with h9 | h9
                  · have e : j = 34 := by omega
                    subst e
                    exact xk_34
                  · have e : j = 35 := by omega
                    subst e
                    exact xk_35
                · rcases Nat.lt_or_ge j 37 with h9 | h9
                  · have e : j = 36 := by omega
                    subst e
                    exact xk_36
                  · have e : j = 37 := by omega
                    subst e
                    exact xk_37
          · rcases Nat.lt_or_ge j 44 with h6 | h6
            · rcases Nat.lt_or_ge j 41 with h7 | h7
              · rcases Nat.lt_or_ge j 39 with h8 | h8
                · have e : j = 38 := by omega
                  subst e
                  exact xk_38
                · rcases Nat.lt_or_ge j 40 with h9 | h9
                  · have e : j = 39 := by omega
                    subst e
                    exact xk_39
                  · have e : j = 40 := by omega
                    subst e
                    exact xk_40
              · rcases Nat.lt_or_ge j 42 with h8 | h8
                · have e : j = 41 := by omega
                  subst e
                  exact xk_41
                · rcases Nat.lt_or_ge j 43 with h9 | h9
                  · have e : j = 42 := by omega
                    subst e
                    exact xk_42
                  · have e : j = 43 := by omega
                    subst e
                    exact xk_43
            · rcases Nat.lt_or_ge j 47 with h7 | h7
              · rcases Nat.lt_or_ge j 45 with h8 | h8
                · have e : j = 44 := by omega
                  subst e
                  exact xk_44
                · rcases Nat.lt_or_ge j 46 with h9 | h9
                  · have e : j = 45 := by omega
                    subst e
                    exact xk_45
                  · have e : j = 46 := by omega
                    subst e
                    exact xk_46
              · rcases Nat.lt_or_ge j 49 with h8 | h8
                · rcases Nat.lt_or_ge j 48 with h9 | h9
                  · have e : j = 47 := by omega
                    subst e
                    exact xk_47
                  · have e : j = 48 := by omega
                    subst e
                    exact xk_48
                · rcases Nat.lt_or_ge j 50 with h9 | h9
                  · have e : j = 49 := by omega
                    subst e
                    exact xk_49
                  · have e : j = 50 := by omega
                    subst e
                    exact xk_50
      · rcases Nat.lt_or_ge j 76 with h4 | h4
        · rcases Nat.lt_or_ge j 63 with h5 | h5
          · rcases Nat.lt_or_ge j 57 with h6 | h6
            · rcases Nat.lt_or_ge j 54 with h7 | h7
              · rcases Nat.lt_or_ge j 52 with h8 | h8
                · have e : j = 51 := by omega
                  subst e
                  exact xk_51
                · rcases Nat.lt_or_ge j 53 with h9 | h9
                  · have e : j = 52 := by omega
                    subst e
                    exact xk_52
                  · have e : j = 53 := by omega
                    subst e
                    exact xk_53
              · rcases Nat.lt_or_ge j 55 with h8 | h8
                · have e : j = 54 := by omega
                  subst e
                  exact xk_54
                · rcases Nat.lt_or_ge j 56 with h9 | h9
                  · have e : j = 55 := by omega
                    subst e
                    exact xk_55
                  · have e : j = 56 := by omega
                    subst e
                    exact xk_56
            · rcases Nat.lt_or_ge j 60 with h7 | h7
              · rcases Nat.lt_or_ge j 58 with h8 | h8
                · have e : j = 57 := by omega
                  subst e
                  exact xk_57
                · rcases Nat.lt_or_ge j 59 with h9 | h9
                  · have e : j = 58 := by omega
                    subst e
                    exact xk_58
                  · have e : j = 59 := by omega
                    subst e
                    exact xk_59
              · rcases Nat.lt_or_ge j 61 with h8 | h8
                · have e : j = 60 := by omega
                  subst e
                  exact xk_60
                · rcases Nat.lt_or_ge j 62 with h9 | h9
                  · have e : j = 61 := by omega
                    subst e
                    exact xk_61
                  · have e : j = 62 := by omega
                    subst e
                    exact xk_62
          · rcases Nat.lt_or_ge j 69 with h6 | h6
            · rcases Nat.lt_or_ge j 66 with h7 | h7
              · rcases Nat.lt_or_ge j 64 with h8 | h8
                · have e : j = 63 := by omega
                  subst e
                  exact xk_63
                · rcases Nat.lt_or_ge j 65 with h9 | h9
                  · have e : j = 64 := by omega
                    subst e
                    exact xk_64
                  · have e : j = 65 := by omega
                    subst e
                    exact xk_65
              · rcases Nat.lt_or_ge j 67 with h8 | h8
                · have e : j = 66 := by omega
                  subst e
                  exact xk_66
                · rcases Nat.lt_or_ge j 68 with h9 | h9
                  · have e : j = 67 := by omega
                    subst e
                    exact xk_67
                  · have e : j = 68 := by omega
                    subst e
                    exact xk_68
            · rcases Nat.lt_or_ge j 72 with h7 | h7
              · rcases Nat.lt_or_ge j 70 with h8 | h8
                · have e : j = 69 := by omega
                  subst e
                  exact xk_69
                · rcases Nat.lt_or_ge j 71 with h9 | h9
                  · have e : j = 70 := by omega
                    subst e
                    exact xk_70
                  · have e : j = 71 := by omega
                    subst e
                    exact xk_71
              · rcases Nat.lt_or_ge j 74 with h8 | h8
                · rcases Nat.lt_or_ge j 73 with h9 | h9
                  · have e : j = 72 := by omega
                    subst e
                    exact xk_72
                  · have e : j = 73 := by omega
                    subst e
                    exact xk_73
                · rcases Nat.lt_or_ge j 75 with h9 | h9
                  · have e : j = 74 := by omega
                    subst e
                    exact xk_74
                  · have e : j = 75 := by omega
                    subst e
                    exact xk_75
        · rcases Nat.lt_or_ge j 89 with h5 | h5
          · rcases Nat.lt_or_ge j 82 with h6 | h6
            · rcases Nat.lt_or_ge j 79 with h7 | h7
              · rcases Nat.lt_or_ge j 77 with h8 | h8
                · have e : j = 76 := by omega
                  subst e
                  exact xk_76
                · rcases Nat.lt_or_ge j 78 with h9 | h9
                  · have e : j = 77 := by omega
                    subst e
                    exact xk_77
                  · have e : j = 78 := by omega
                    subst e
                    exact xk_78
              · rcases Nat.lt_or_ge j 80 with h8 | h8
                · have e : j = 79 := by omega
                  subst e
                  exact xk_79
                · rcases Nat.lt_or_ge j 81 with h9 | h9
                  · have e : j = 80 := by omega
                    subst e
                    exact xk_80
                  · have e : j = 81 := by omega
                    subst e
                    exact xk_81
            · rcases Nat.lt_or_ge j 85 with h7 | h7
              · rcases Nat.lt_or_ge j 83 with h8 | h8
                · have e : j = 82 := by omega
                  subst e
                  exact xk_82
                · rcases Nat.lt_or_ge j 84 with h9 | h9
                  · have e : j = 83 := by omega
                    subst e
                    exact xk_83
                  · have e : j = 84 := by omega
                    subst e
                    exact xk_84
              · rcases Nat.lt_or_ge j 87 with h8 | h8
                · rcases Nat.lt_or_ge j 86 with h9 | h9
                  · have e : j = 85 := by omega
                    subst e
                    exact xk_85
                  · have e : j = 86 := by omega
                    subst e
                    exact xk_86
                · rcases Nat.lt_or_ge j 88 with h9 | h9
                  · have e : j = 87 := by omega
                    subst e
                    exact xk_87
                  · have e : j = 88 := by omega
                    subst e
                    exact xk_88
          · rcases Nat.lt_or_ge j 95 with h6 | h6
            · rcases Nat.lt_or_ge j 92 with h7 | h7
              · rcases Nat.lt_or_ge j 90 with h8 | h8
                · have e : j = 89 := by omega
                  subst e
                  exact xk_89
                · rcases Nat.lt_or_ge j 91 with h9 | h9
                  · have e : j = 90 := by omega
                    subst e
                    exact xk_90
                  · have e : j = 91 := by omega
                    subst e
                    exact xk_91
              · rcases Nat.lt_or_ge j 93 with h8 | h8
                · have e : j = 92 := by omega
                  subst e
                  exact xk_92
                · rcases Nat.lt_or_ge j 94 with h9 | h9
                  · have e : j = 93 := by omega
                    subst e
                    exact xk_93
                  · have e : j = 94 := by omega
                    subst e
                    exact xk_94
            · rcases Nat.lt_or_ge j 98 with h7 | h7
              · rcases Nat.lt_or_ge j 96 with h8 | h8
                · have e : j = 95 := by omega
                  subst e
                  exact xk_95
                · rcases Nat.lt_or_ge j 97 with h9 | h9
                  · have e : j = 96 := by omega
                    subst e
                    exact xk_96
                  · have e : j = 97 := by omega
                    subst e
                    exact xk_97
              · rcases Nat.lt_or_ge j 100 with h8 | h8
                · rcases Nat.lt_or_ge j 99 with h9 | h9
                  · have e : j = 98 := by omega
                    subst e
                    exact xk_98
                  · have e : j = 99 := by omega
                    subst e
                    exact xk_99
                · rcases Nat.lt_or_ge j 101 with h9 | h9
                  · have e : j = 100 := by omega
                    subst e
                    exact xk_100
                  · have e : j = 101 := by omega
                    subst e
                    exact xk_101
    · rcases Nat.lt_or_ge j 153 with h3 | h3
      · rcases Nat.lt_or_ge j 127 with h4 | h4
        · rcases Nat.lt_or_ge j 114 with h5 | h5
          · rcases Nat.lt_or_ge j 108 with h6 | h6
            · rcases Nat.lt_or_ge j 105 with h7 | h7
              · rcases Nat.lt_or_ge j 103 with h8 | h8
                · have e : j = 102 := by omega
                  subst e
                  exact xk_102
                · rcases Nat.lt_or_ge j 104 with h9 | h9
                  · have e : j = 103 := by omega
                    subst e
                    exact xk_103
                  · have e : j = 104 := by omega
                    subst e
                    exact xk_104
              · rcases Nat.lt_or_ge j 106 with h8 | h8
                · have e : j = 105 := by omega
                  subst e
                  exact xk_105
                · rcases Nat.lt_or_ge j 107 with h9 | h9
                  · have e : j = 106 := by omega
                    subst e
                    exact xk_106
                  · have e : j = 107 := by omega
                    subst e
                    exact xk_107
            · rcases Nat.lt_or_ge j 111 with h7 | h7
              · rcases Nat.lt_or_ge j 109 with h8 | h8
                · have e : j = 108 := by omega
                  subst e
                  exact xk_108
                · rcases Nat.lt_or_ge j 110 with h9 | h9
                  · have e : j = 109 := by omega
                    subst e
                    exact xk_109
                  · have e : j = 110 := by omega
                    subst e
                    exact xk_110
              · rcases Nat.lt_or_ge j 112 with h8 | h8
                · have e : j = 111 := by omega
                  subst e
                  exact xk_111
                · rcases Nat.lt_or_ge j 113 with h9 | h9
                  · have e : j = 112 := by omega
                    subst e
                    exact xk_112
                  · have e : j = 113 := by omega
                    subst e
                    exact xk_113
          · rcases Nat.lt_or_ge j 120 with h6 | h6
            · rcases Nat.lt_or_ge j 117 with h7 | h7
              · rcases Nat.lt_or_ge j 115 with h8 | h8
                · have e : j = 114 := by omega
                  subst e
                  exact xk_114
                · rcases Nat.lt_or_ge j 116 with h9 | h9
                  · have e : j = 115 := by omega
                    subst e
                    exact xk_115
                  · have e : j = 116 := by omega
                    subst e
                    exact xk_116
              · rcases Nat.lt_or_ge j 118 with h8 | h8
                · have e : j = 117 := by omega
                  subst e
                  exact xk_117
                · rcases Nat.lt_or_ge j 119 with h9 | h9
                  · have e : j = 118 := by omega
                    subst e
                    exact xk_118
                  · have e : j = 119 := by omega
                    subst e
                    exact xk_119
            · rcases Nat.lt_or_ge j 123 with h7 | h7
              · rcases Nat.lt_or_ge j 121 with h8 | h8
                · have e : j = 120 := by omega
                  subst e
                  exact xk_120
                · rcases Nat.lt_or_ge j 122 with h9 | h9
                  · have e : j = 121 := by omega
                    subst e
                    exact xk_121
                  · have e : j = 122 := by omega
                    subst e
                    exact xk_122
              · rcases Nat.lt_or_ge j 125 with h8 | h8
                · rcases Nat.lt_or_ge j 124 with h9 | h9
                  · have e : j = 123 := by omega
                    subst e
                    exact xk_123
                  · have e : j = 124 := by omega
                    subst e
                    exact xk_124
                · rcases Nat.lt_or_ge j 126 with h9 | h9
                  · have e : j = 125 := by omega
                    subst e
                    exact xk_125
                  · have e : j = 126 := by omega
                    subst e
                    exact xk_126
        · rcases Nat.lt_or_ge j 140 with h5 | h5
          · rcases Nat.lt_or_ge j 133 with h6 | h6
            · rcases Nat.lt_or_ge j 130 with h7 | h7
              · rcases Nat.lt_or_ge j 128 with h8 | h8
                · have e : j = 127 := by omega
                  subst e
                  exact xk_127
                · rcases Nat.lt_or_ge j 129 with h9 | h9
                  · have e : j = 128 := by omega
                    subst e
                    exact xk_128
                  · have e : j = 129 := by omega
                    subst e
                    exact xk_129
              · rcases Nat.lt_or_ge j 131 with h8 | h8
                · have e : j = 130 := by omega
                  subst e
                  exact xk_130
                · rcases Nat.lt_or_ge j 132 with h9 | h9
                  · have e : j = 131 := by omega
                    subst e
                    exact xk_131
                  · have e : j = 132 := by omega
                    subst e
                    exact xk_132
            · rcases Nat.lt_or_ge j 136 with h7 | h7
              · rcases Nat.lt_or_ge j 134 with h8 | h8
                · have e : j = 133 := by omega
                  subst e
                  exact xk_133
                · rcases Nat.lt_or_ge j 135 with h9 | h9
                  · have e : j = 134 := by omega
                    subst e
                    exact xk_134
                  · have e : j = 135 := by omega
                    subst e
                    exact xk_135
              · rcases Nat.lt_or_ge j 138 with h8 | h8
                · rcases Nat.lt_or_ge j 137 with h9 | h9
                  · have e : j = 136 := by omega
                    subst e
                    exact xk_136
                  · have e : j = 137 := by omega
                    subst e
                    exact xk_137
                · rcases Nat.lt_or_ge j 139 with h9 | h9
                  · have e : j = 138 := by omega
                    subst e
                    exact xk_138
                  · have e : j = 139 := by omega
                    subst e
                    exact xk_139
          · rcases Nat.lt_or_ge j 146 with h6 | h6
            · rcases Nat.lt_or_ge j 143 with h7 | h7
              · rcases Nat.lt_or_ge j 141 with h8 | h8
                · have e : j = 140 := by omega
                  subst e
                  exact xk_140
                · rcases Nat.lt_or_ge j 142 with h9 | h9
                  · have e : j = 141 := by omega
                    subst e
                    exact xk_141
                  · have e : j = 142 := by omega
                    subst e
                    exact xk_142
              · rcases Nat.lt_or_ge j 144 with h8 | h8
                · have e : j = 143 := by omega
                  subst e
                  exact xk_143
                · rcases Nat.lt_or_ge j 145 with h9 | h9
                  · have e : j = 144 := by omega
                    subst e
                    exact xk_144
                  · have e : j = 145 := by omega
                    subst e
                    exact xk_145
            · rcases Nat.lt_or_ge j 149 with h7 | h7
              · rcases Nat.lt_or_ge j 147 with h8 | h8
                · have e : j = 146 := by omega
                  subst e
                  exact xk_146
                · rcases Nat.lt_or_ge j 148 with h9 | h9
                  · have e : j = 147 := by omega
                    subst e
                    exact xk_147
                  · have e : j = 148 := by omega
                    subst e
                    exact xk_148
              · rcases Nat.lt_or_ge j 151 with h8 | h8
                · rcases Nat.lt_or_ge j 150 with h9 | h9
                  · have e : j = 149 := by omega
                    subst e
                    exact xk_149
                  · have e : j = 150 := by omega
                    subst e
                    exact xk_150
                · rcases Nat.lt_or_ge j 152 with h9 | h9
                  · have e : j = 151 := by omega
                    subst e
                    exact xk_151
                  · have e : j = 152 := by omega
                    subst e
                    exact xk_152
      · rcases Nat.lt_or_ge j 178 with h4 | h4
        · rcases Nat.lt_or_ge j 165 with h5 | h5
          · rcases Nat.lt_or_ge j 159 with h6 | h6
            · rcases Nat.lt_or_ge j 156 with h7 | h7
              · rcases Nat.lt_or_ge j 154 with h8 | h8
                · have e : j = 153 := by omega
                  subst e
                  exact xk_153
                · rcases Nat.lt_or_ge j 155 with h9 | h9
                  · have e : j = 154 := by omega
                    subst e
                    exact xk_154
                  · have e : j = 155 := by omega
                    subst e
                    exact xk_155
              · rcases Nat.lt_or_ge j 157 with h8 | h8
                · have e : j = 156 := by omega
                  subst e
                  exact xk_156
                · rcases Nat.lt_or_ge j 158 with h9 | h9
                  · have e : j = 157 := by omega
                    subst e
                    exact xk_157
                  · have e : j = 158 := by omega
                    subst e
                    exact xk_158
            · rcases Nat.lt_or_ge j 162 with h7 | h7
              · rcases Nat.lt_or_ge j 160 with h8 | h8
                · have e : j = 159 := by omega
                  subst e
                  exact xk_159
                · rcases Nat.lt_or_ge j 161 with h9 | h9
                  · have e : j = 160 := by omega
                    subst e
                    exact xk_160
                  · have e : j = 161 := by omega
                    subst e
                    exact xk_161
              · rcases Nat.lt_or_ge j 163 with h8 | h8
                · have e : j = 162 := by omega
                  subst e
                  exact xk_162
                · rcases Nat.lt_or_ge j 164 with h9 | h9
                  · have e : j = 163 := by omega
                    subst e
                    exact xk_163
                  · have e : j = 164 := by omega
                    subst e
                    exact xk_164
          · rcases Nat.lt_or_ge j 171 with h6 | h6
            · rcases Nat.lt_or_ge j 168 with h7 | h7
              · rcases Nat.lt_or_ge j 166 with h8 | h8
                · have e : j = 165 := by omega
                  subst e
                  exact xk_165
                · rcases Nat.lt_or_ge j 167 with h9 | h9
                  · have e : j = 166 := by omega
                    subst e
                    exact xk_166
                  · have e : j = 167 := by omega
                    subst e
                    exact xk_167
              · rcases Nat.lt_or_ge j 169 with h8 | h8
                · have e : j = 168 := by omega
                  subst e
                  exact xk_168
                · rcases Nat.lt_or_ge j 170 with h9 | h9
                  · have e : j = 169 := by omega
                    subst e
                    exact xk_169
                  · have e : j = 170 := by omega
                    subst e
                    exact xk_170
            · rcases Nat.lt_or_ge j 174 with h7 | h7
              · rcases Nat.lt_or_ge j 172 with h8 | h8
                · have e : j = 171 := by omega
                  subst e
                  exact xk_171
                · rcases Nat.lt_or_ge j 173 with h9 | h9
                  · have e : j = 172 := by omega
                    subst e
                    exact xk_172
                  · have e : j = 173 := by omega
                    subst e
                    exact xk_173
              · rcases Nat.lt_or_ge j 176 with h8 | h8
                · rcases Nat.lt_or_ge j 175 with h9 | h9
                  · have e : j = 174 := by omega
                    subst e
                    exact xk_174
                  · have e : j = 175 := by omega
                    subst e
                    exact xk_175
                · rcases Nat.lt_or_ge j 177 with h9 | h9
                  · have e : j = 176 := by omega
                    subst e
                    exact xk_176
                  · have e : j = 177 := by omega
                    subst e
                    exact xk_177
        · rcases Nat.lt_or_ge j 191 with h5 | h5
          · rcases Nat.lt_or_ge j 184 with h6 | h6
            · rcases Nat.lt_or_ge j 181 with h7 | h7
              · rcases Nat.lt_or_ge j 179 with h8 | h8
                · have e : j = 178 := by omega
                  subst e
                  exact xk_178
                · rcases Nat.lt_or_ge j 180 with h9 | h9
                  · have e : j = 179 := by omega
                    subst e
                    exact xk_179
                  · have e : j = 180 := by omega
                    subst e
                    exact xk_180
              · rcases Nat.lt_or_ge j 182 with h8 | h8
                · have e : j = 181 := by omega
                  subst e
                  exact xk_181
                · rcases Nat.lt_or_ge j 183 with h9 | h9
                  · have e : j = 182 := by omega
                    subst e
                    exact xk_182
                  · have e : j = 183 := by omega
                    subst e
                    exact xk_183
            · rcases Nat.lt_or_ge j 187 with h7 | h7
              · rcases Nat.lt_or_ge j 185 with h8 | h8
                · have e : j = 184 := by omega
                  subst e
                  exact xk_184
                · rcases Nat.lt_or_ge j 186 with h9 | h9
                  · have e : j = 185 := by omega
                    subst e
                    exact xk_185
                  · have e : j = 186 := by omega
                    subst e
                    exact xk_186
              · rcases Nat.lt_or_ge j 189 with h8 | h8
                · rcases Nat.lt_or_ge j 188 with h9 | h9
                  · have e : j = 187 := by omega
                    subst e
                    exact xk_187
                  · have e : j = 188 := by omega
                    subst e
                    exact xk_188
                · rcases Nat.lt_or_ge j 190 with h9 | h9
                  · have e : j = 189 := by omega
                    subst e
                    exact xk_189
                  · have e : j = 190 := by omega
                    subst e
                    exact xk_190
          · rcases Nat.lt_or_ge j 197 with h6 | h6
            · rcases Nat.lt_or_ge j 194 with h7 | h7
              · rcases Nat.lt_or_ge j 192 with h8 | h8
                · have e : j = 191 := by omega
                  subst e
                  exact xk_191
                · rcases Nat.lt_or_ge j 193 with h9 | h9
                  · have e : j = 192 := by omega
                    subst e
                    exact xk_192
                  · have e : j = 193 := by omega
                    subst e
                    exact xk_193
              · rcases Nat.lt_or_ge j 195 with h8 | h8
                · have e : j = 194 := by omega
                  subst e
                  exact xk_194
                · rcases Nat.lt_or_ge j 196 with h9 | h9
                  · have e : j = 195 := by omega
                    subst e
                    exact xk_195
                  · have e : j = 196 := by omega
                    subst e
                    exact xk_196
            · rcases Nat.lt_or_ge j 200 with h7 | h7
              · rcases Nat.lt_or_ge j 198 with h8 | h8
                · have e : j = 197 := by omega
                  subst e
                  exact xk_197
                · rcases Nat.lt_or_ge j 199 with h9 | h9
                  · have e : j = 198 := by omega
                    subst e
                    exact xk_198
                  · have e : j = 199 := by omega
                    subst e
                    exact xk_199
              · rcases Nat.lt_or_ge j 202 with h8 | h8
                · rcases Nat.lt_or_ge j 201 with h9 | h9
                  · have e : j = 200 := by omega
                    subst e
                    exact xk_200
                  · have e : j = 201 := by omega
                    subst e
                    exact xk_201
                · rcases Nat.lt_or_ge j 203 with h9 | h9
                  · have e : j = 202 := by omega
                    subst e
                    exact xk_202
                  · have e : j = 203 := by omega
                    subst e
                    exact xk_203
  · rcases Nat.lt_or_ge j 306 with h2 | h2
    · rcases Nat.lt_or_ge j 255 with h3 | h3
      · rcases Nat.lt_or_ge j 229 with h4 | h4
        · rcases Nat.lt_or_ge j 216 with h5 | h5
          · rcases Nat.lt_or_ge j 210 with h6 | h6
            · rcases Nat.lt_or_ge j 207 with h7 | h7
              · rcases Nat.lt_or_ge j 205 with h8 | h8
                · have e : j = 204 := by omega
                  subst e
                  exact xk_204
                · rcases Nat.lt_or_ge j 206 with h9 | h9
                  · have e : j = 205 := by omega
                    subst e
                    exact xk_205
                  · have e : j = 206 := by omega
                    subst e
                    exact xk_206
              · rcases Nat.lt_or_ge j 208 with h8 | h8
                · have e : j = 207 := by omega
                  subst e
                  exact xk_207
                · rcases Nat.lt_or_ge j 209 with h9 | h9
                  · have e : j = 208 := by omega
                    subst e
                    exact xk_208
                  · have e : j = 209 := by omega
                    subst e
                    exact xk_209
            · rcases Nat.lt_or_ge j 213 with h7 | h7
              · rcases Nat.lt_or_ge j 211 with h8 | h8
                · have e : j = 210 := by omega
                  subst e
                  exact xk_210
                · rcases Nat.lt_or_ge j 212 with h9 | h9
                  · have e : j = 211 := by omega
                    subst e
                    exact xk_211
                  · have e : j = 212 := by omega
                    subst e
                    exact xk_212
              · rcases Nat.lt_or_ge j 214 with h8 | h8
                · have e : j = 213 := by omega
                  subst e
                  exact xk_213
                · rcases Nat.lt_or_ge j 215 with h9 | h9
                  · have e : j = 214 := by omega
                    subst e
                    exact xk_214
                  · have e : j = 215 := by omega
                    subst e
                    exact xk_215
          · rcases Nat.lt_or_ge j 222 with h6 | h6
            · rcases Nat.lt_or_ge j 219 with h7 | h7
              · rcases Nat.lt_or_ge j 217 with h8 | h8
                · have e : j = 216 := by omega
                  subst e
                  exact xk_216
                · rcases Nat.lt_or_ge j 218 with h9 | h9
                  · have e : j = 217 := by omega
                    subst e
                    exact xk_217
                  · have e : j = 218 := by omega
                    subst e
                    exact xk_218
              · rcases Nat.lt_or_ge j 220 with h8 | h8
                · have e : j = 219 := by omega
                  subst e
                  exact xk_219
                · rcases Nat.lt_or_ge j 221 with h9 | h9
                  · have e : j = 220 := by omega
                    subst e
                    exact xk_220
                  · have e : j = 221 := by omega
                    subst e
                    exact xk_221
            · rcases Nat.lt_or_ge j 225 with h7 | h7
              · rcases Nat.lt_or_ge j 223 with h8 | h8
                · have e : j = 222 := by omega
                  subst e
                  exact xk_222
                · rcases Nat.lt_or_ge j 224 with h9 | h9
                  · have e : j = 223 := by omega
                    subst e
                    exact xk_223
                  · have e : j = 224 := by omega
                    subst e
                    exact xk_224
              · rcases Nat.lt_or_ge j 227 with h8 | h8
                · rcases Nat.lt_or_ge j 226 with h9 | h9
                  · have e : j = 225 := by omega
                    subst e
                    exact xk_225
                  · have e : j = 226 := by omega
                    subst e
                    exact xk_226
                · rcases Nat.lt_or_ge j 228 with h9 | h9
                  · have e : j = 227 := by omega
                    subst e
                    exact xk_227
                  · have e : j = 228 := by omega
                    subst e
                    exact xk_228
        · rcases Nat.lt_or_ge j 242 with h5 | h5
          · rcases Nat.lt_or_ge j 235 with h6 | h6
            · rcases Nat.lt_or_ge j 232 with h7 | h7
              · rcases Nat.lt_or_ge j 230 with h8 | h8
                · have e : j = 229 := by omega
                  subst e
                  exact xk_229
                · rcases Nat.lt_or_ge j 231 with h9 | h9
                  · have e : j = 230 := by omega
                    subst e
                    exact xk_230
                  · have e : j = 231 := by omega
                    subst e
                    exact xk_231
              · rcases Nat.lt_or_ge j 233 with h8 | h8
                · have e : j = 232 := by omega
                  subst e
                  exact xk_232
                · rcases Nat.lt_or_ge j 234 with h9 | h9
                  · have e : j = 233 := by omega
                    subst e
                    exact xk_233
                  · have e : j = 234 := by omega
                    subst e
                    exact xk_234
            · rcases Nat.lt_or_ge j 238 with h7 | h7
              · rcases Nat.lt_or_ge j 236 with h8 | h8
                · have e : j = 235 := by omega
                  subst e
                  exact xk_235
                · rcases Nat.lt_or_ge j 237 with h9 | h9
                  · have e : j = 236 := by omega
                    subst e
                    exact xk_236
                  · have e : j = 237 := by omega
                    subst e
                    exact xk_237
              · rcases Nat.lt_or_ge j 240 with h8 | h8
                · rcases Nat.lt_or_ge j 239 with h9 | h9
                  · have e : j = 238 := by omega
                    subst e
                    exact xk_238
                  · have e : j = 239 := by omega
                    subst e
                    exact xk_239
                · rcases Nat.lt_or_ge j 241 with h9 | h9
                  · have e : j = 240 := by omega
                    subst e
                    exact xk_240
                  · have e : j = 241 := by omega
                    subst e
                    exact xk_241
          · rcases Nat.lt_or_ge j 248 with h6 | h6
            · rcases Nat.lt_or_ge j 245 with h7 | h7
              · rcases Nat.lt_or_ge j 243 with h8 | h8
                · have e : j = 242 := by omega
                  subst e
                  exact xk_242
                · rcases Nat.lt_or_ge j 244 with h9 | h9
                  · have e : j = 243 := by omega
                    subst e
                    exact xk_243
                  · have e : j = 244 := by omega
                    subst e
                    exact xk_244
              · rcases Nat.lt_or_ge j 246 with h8 | h8
                · have e : j = 245 := by omega
                  subst e
                  exact xk_245
                · rcases Nat.lt_or_ge j 247 with h9 | h9
                  · have e : j = 246 := by omega
                    subst e
                    exact xk_246
                  · have e : j = 247 := by omega
                    subst e
                    exact xk_247
            · rcases Nat.lt_or_ge j 251 with h7 | h7
              · rcases Nat.lt_or_ge j 249 with h8 | h8
                · have e : j = 248 := by omega
                  subst e
                  exact xk_248
                · rcases Nat.lt_or_ge j 250 with h9 | h9
                  · have e : j = 249 := by omega
                    subst e
                    exact xk_249
                  · have e : j = 250 := by omega
                    subst e
                    exact xk_250
              · rcases Nat.lt_or_ge j 253 with h8 | h8
                · rcases Nat.lt_or_ge j 252 with h9 | h9
                  · have e : j = 251 := by omega
                    subst e
                    exact xk_251
                  · have e : j = 252 := by omega
                    subst e
                    exact xk_252
                · rcases Nat.lt_or_ge j 254 with h9 | h9
                  · have e : j = 253 := by omega
                    subst e
                    exact xk_253
                  · have e : j = 254 := by omega
                    subst e
                    exact xk_254
      · rcases Nat.lt_or_ge j 280 with h4 | h4
        · rcases Nat.lt_or_ge j 267 with h5 | h5
          · rcases Nat.lt_or_ge j 261 with h6 | h6
            · rcases Nat.lt_or_ge j 258 with h7 | h7
              · rcases Nat.lt_or_ge j 256 with h8 | h8
                · have e : j = 255 := by omega
                  subst e
                  exact xk_255
                · rcases Nat.lt_or_ge j 257 with h9 | h9
                  · have e : j = 256 := by omega
                    subst e
                    exact xk_256
                  · have e : j = 257 := by omega
                    subst e
                    exact xk_257
              · rcases Nat.lt_or_ge j 259 with h8 | h8
                · have e : j = 258 := by omega
                  subst e
                  exact xk_258
                · rcases Nat.lt_or_ge j 260 with h9 | h9
                  · have e : j = 259 := by omega
                    subst e
                    exact xk_259
                  · have e : j = 260 := by omega
                    subst e
                    exact xk_260
            · rcases Nat.lt_or_ge j 264 with h7 | h7
              · rcases Nat.lt_or_ge j 262 with h8 | h8
                · have e : j = 261 := by omega
                  subst e
                  exact xk_261
                · rcases Nat.lt_or_ge j 263 with h9 | h9
                  · have e : j = 262 := by omega
                    subst e
                    exact xk_262
                  · have e : j = 263 := by omega
                    subst e
                    exact xk_263
              · rcases Nat.lt_or_ge j 265 with h8 | h8
                · have e : j = 264 := by omega
                  subst e
                  exact xk_264
                · rcases Nat.lt_or_ge j 266 with h9 | h9
                  · have e : j = 265 := by omega
                    subst e
                    exact xk_265
                  · have e : j = 266 := by omega
                    subst e
                    exact xk_266
          · rcases Nat.lt_or_ge j 273 with h6 | h6
            · rcases Nat.lt_or_ge j 270 with h7 | h7
              · rcases Nat.lt_or_ge j 268 with h8 | h8
                · have e : j = 267 := by omega
                  subst e
                  exact xk_267
                · rcases Nat.lt_or_ge j 269 with h9 | h9
                  · have e : j = 268 := by omega
                    subst e
                    exact xk_268
                  · have e : j = 269 := by omega
                    subst e
                    exact xk_269
              · rcases Nat.lt_or_ge j 271 with h8 | h8
                · have e : j = 270 := by omega
                  subst e
                  exact xk_270
                · rcases Nat.lt_or_ge j 272 with h9 | h9
                  · have e : j = 271 := by omega
                    subst e
                    exact xk_271
                  · have e : j = 272 := by omega
                    subst e
                    exact xk_272
            · rcases Nat.lt_or_ge j 276 with h7 | h7
              · rcases Nat.lt_or_ge j 274 with h8 | h8
                · have e : j = 273 := by omega
                  subst e
                  exact xk_273
                · rcases Nat.lt_or_ge j 275 with h9 | h9
                  · have e : j = 274 := by omega
                    subst e
                    exact xk_274
                  · have e : j = 275 := by omega
                    subst e
                    exact xk_275
              · rcases Nat.lt_or_ge j 278 with h8 | h8
                · rcases Nat.lt_or_ge j 277 with h9 | h9
                  · have e : j = 276 := by omega
                    subst e
                    exact xk_276
                  · have e : j = 277 := by omega
                    subst e
                    exact xk_277
                · rcases Nat.lt_or_ge j 279 with h9 | h9
                  · have e : j = 278 := by omega
                    subst e
                    exact xk_278
                  · have e : j = 279 := by omega
                    subst e
                    exact xk_279
        · rcases Nat.lt_or_ge j 293 with h5 | h5
          · rcases Nat.lt_or_ge j 286 with h6 | h6
            · rcases Nat.lt_or_ge j 283 with h7 | h7
              · rcases Nat.lt_or_ge j 281 with h8 | h8
                · have e : j = 280 := by omega
                  subst e
                  exact xk_280
                · rcases Nat.lt_or_ge j 282 with h9 | h9
                  · have e : j = 281 := by omega
                    subst e
                    exact xk_281
                  · have e : j = 282 := by omega
                    subst e
                    exact xk_282
              · rcases Nat.lt_or_ge j 284 with h8 | h8
                · have e : j = 283 := by omega
                  subst e
                  exact xk_283
                · rcases Nat.lt_or_ge j 285 with h9 | h9
                  · have e : j = 284 := by omega
                    subst e
                    exact xk_284
                  · have e : j = 285 := by omega
                    subst e
                    exact xk_285
            · rcases Nat.lt_or_ge j 289 with h7 | h7
              · rcases Nat.lt_or_ge j 287 with h8 | h8
                · have e : j = 286 := by omega
                  subst e
                  exact xk_286
                · rcases Nat.lt_or_ge j 288 with h9 | h9
                  · have e : j = 287 := by omega
                    subst e
                    exact xk_287
                  · have e : j = 288 := by omega
                    subst e
                    exact xk_288
              · rcases Nat.lt_or_ge j 291 with h8 | h8
                · rcases Nat.lt_or_ge j 290 with h9 | h9
                  · have e : j = 289 := by omega
                    subst e
                    exact xk_289
                  · have e : j = 290 := by omega
                    subst e
                    exact xk_290
                · rcases Nat.lt_or_ge j 292 with h9 | h9
                  · have e : j = 291 := by omega
                    subst e
                    exact xk_291
                  · have e : j = 292 := by omega
                    subst e
                    exact xk_292
          · rcases Nat.lt_or_ge j 299 with h6 | h6
            · rcases Nat.lt_or_ge j 296 with h7 | h7
              · rcases Nat.lt_or_ge j 294 with h8 | h8
                · have e : j = 293 := by omega
                  subst e
                  exact xk_293
                · rcases Nat.lt_or_ge j 295 with h9 | h9
                  · have e : j = 294 := by omega
                    subst e
                    exact xk_294
                  · have e : j = 295 := by omega
                    subst e
                    exact xk_295
              · rcases Nat.lt_or_ge j 297 with h8 | h8
                · have e : j = 296 := by omega
                  subst e
                  exact xk_296
                · rcases Nat.lt_or_ge j 298 with h9 | h9
                  · have e : j = 297 := by omega
                    subst e
                    exact xk_297
                  · have e : j = 298 := by omega
                    subst e
                    exact xk_298
            · rcases Nat.lt_or_ge j 302 with h7 | h7
              · rcases Nat.lt_or_ge j 300 with h8 | h8
                · have e : j = 299 := by omega
                  subst e
                  exact xk_299
                · rcases Nat.lt_or_ge j 301 with h9 | h9
                  · have e : j = 300 := by omega
                    subst e
                    exact xk_300
                  · have e : j = 301 := by omega
                    subst e
                    exact xk_301
              · rcases Nat.lt_or_ge j 304 with h8 | h8
                · rcases Nat.lt_or_ge j 303 with h9 | h9
                  · have e : j = 302 := by omega
                    subst e
                    exact xk_302
                  · have e : j = 303 := by omega
                    subst e
                    exact xk_303
                · rcases Nat.lt_or_ge j 305 with h9 | h9
                  · have e : j = 304 := by omega
                    subst e
                    exact xk_304
                  · have e : j = 305 := by omega
                    subst e
                    exact xk_305
    · rcases Nat.lt_or_ge j 357 with h3 | h3
      · rcases Nat.lt_or_ge j 331 with h4 | h4
        · rcases Nat.lt_or_ge j 318 with h5 | h5
          · rcases Nat.lt_or_ge j 312 with h6 | h6
            · rcases Nat.lt_or_ge j 309 with h7 | h7
              · rcases Nat.lt_or_ge j 307 with h8 | h8
                · have e : j = 306 := by omega
                  subst e
                  exact xk_306
                · rcases Nat.lt_or_ge j 308 with h9 | h9
                  · have e : j = 307 := by omega
                    subst e
                    exact xk_307
                  · have e : j = 308 := by omega
                    subst e
                    exact xk_308
              · rcases Nat.lt_or_ge j 310 with h8 | h8
                · have e : j = 309 := by omega
                  subst e
                  exact xk_309
                · rcases Nat.lt_or_ge j 311 with h9 | h9
                  · have e : j = 310 := by omega
                    subst e
                    exact xk_310
                  · have e : j = 311 := by omega
                    subst e
                    exact xk_311
            · rcases Nat.lt_or_ge j 315 with h7 | h7
              · rcases Nat.lt_or_ge j 313 with h8 | h8
                · have e : j = 312 := by omega
                  subst e
                  exact xk_312
                · rcases Nat.lt_or_ge j 314 with h9 | h9
                  · have e : j = 313 := by omega
                    subst e
                    exact xk_313
                  · have e : j = 314 := by omega
                    subst e
                    exact xk_314
              · rcases Nat.lt_or_ge j 316 with h8 | h8
                · have e : j = 315 := by omega
                  subst e
                  exact xk_315
                · rcases Nat.lt_or_ge j 317 with h9 | h9
                  · have e : j = 316 := by omega
                    subst e
                    exact xk_316
                  · have e : j = 317 := by omega
                    subst e
                    exact xk_317
          · rcases Nat.lt_or_ge j 324 with h6 | h6
            · rcases Nat.lt_or_ge j 321 with h7 | h7
              · rcases Nat.lt_or_ge j 319 with h8 | h8
                · have e : j = 318 := by omega
                  subst e
                  exact xk_318
                · rcases Nat.lt_or_ge j 320 with h9 | h9
                  · have e : j = 319 := by omega
                    subst e
                    exact xk_319
                  · have e : j = 320 := by omega
                    subst e
                    exact xk_320
              · rcases Nat.lt_or_ge j 322 with h8 | h8
                · have e : j = 321 := by omega
                  subst e
                  exact xk_321
                · rcases Nat.lt_or_ge j 323 with h9 | h9
                  · have e : j = 322 := by omega
                    subst e
                    exact xk_322
                  · have e : j = 323 := by omega
                    subst e
                    exact xk_323
            · rcases Nat.lt_or_ge j 327 with h7 | h7
              · rcases Nat.lt_or_ge j 325 with h8 | h8
                · have e : j = 324 := by omega
                  subst e
                  exact xk_324
                · rcases Nat.lt_or_ge j 326 with h9 | h9
                  · have e : j = 325 := by omega
                    subst e
                    exact xk_325
                  · have e : j = 326 := by omega
                    subst e
                    exact xk_326
              · rcases Nat.lt_or_ge j 329 with h8 | h8
                · rcases Nat.lt_or_ge j 328 with h9 | h9
                  · have e : j = 327 := by omega
                    subst e
                    exact xk_327
                  · have e : j = 328 := by omega
                    subst e
                    exact xk_328
                · rcases Nat.lt_or_ge j 330 with h9 | h9
                  · have e : j = 329 := by omega
                    subst e
                    exact xk_329
                  · have e : j = 330 := by omega
                    subst e
                    exact xk_330
        · rcases Nat.lt_or_ge j 344 with h5 | h5
          · rcases Nat.lt_or_ge j 337 with h6 | h6
            · rcases Nat.lt_or_ge j 334 with h7 | h7
              · rcases Nat.lt_or_ge j 332 with h8 | h8
                · have e : j = 331 := by omega
                  subst e
                  exact xk_331
                · rcases Nat.lt_or_ge j 333 with h9 | h9
                  · have e : j = 332 := by omega
                    subst e
                    exact xk_332
                  · have e : j = 333 := by omega
                    subst e
                    exact xk_333
              · rcases Nat.lt_or_ge j 335 with h8 | h8
                · have e : j = 334 := by omega
                  subst e
                  exact xk_334
                · rcases Nat.lt_or_ge j 336 with h9 | h9
                  · have e : j = 335 := by omega
                    subst e
                    exact xk_335
                  · have e : j = 336 := by omega
                    subst e
                    exact xk_336
            · rcases Nat.lt_or_ge j 340 with h7 | h7
              · rcases Nat.lt_or_ge j 338 with h8 | h8
                · have e : j = 337 := by omega
                  subst e
                  exact xk_337
                · rcases Nat.lt_or_ge j 339 with h9 | h9
                  · have e : j = 338 := by omega
                    subst e
                    exact xk_338
                  · have e : j = 339 := by omega
                    subst e
                    exact xk_339
              · rcases Nat.lt_or_ge j 342 with h8 | h8
                · rcases Nat.lt_or_ge j 341 with h9 | h9
                  · have e : j = 340 := by omega
                    subst e
                    exact xk_340
                  · have e : j = 341 := by omega
                    subst e
                    exact xk_341
                · rcases Nat.lt_or_ge j 343 with h9 | h9
                  · have e : j = 342 := by omega
                    subst e
                    exact xk_342
                  · have e : j = 343 := by omega
                    subst e
                    exact xk_343
          · rcases Nat.lt_or_ge j 350 with h6 | h6
            · rcases Nat.lt_or_ge j 347 with h7 | h7
              · rcases Nat.lt_or_ge j 345 with h8 | h8
                · have e : j = 344 := by omega
                  subst e
                  exact xk_344
                · rcases Nat.lt_or_ge j 346 with h9 | h9
                  · have e : j = 345 := by omega
                    subst e
                    exact xk_345
                  · have e : j = 346 := by omega
                    subst e
                    exact xk_346
              · rcases Nat.lt_or_ge j 348 with h8 | h8
                · have e : j = 347 := by omega
                  subst e
                  exact xk_347
                · rcases Nat.lt_or_ge j 349 with h9 | h9
                  · have e : j = 348 := by omega
                    subst e
                    exact xk_348
                  · have e : j = 349 := by omega
                    subst e
                    exact xk_349
            · rcases Nat.lt_or_ge j 353 with h7 | h7
              · rcases Nat.lt_or_ge j 351 with h8 | h8
                · have e : j = 350 := by omega
                  subst e
                  exact xk_350
                · rcases Nat.lt_or_ge j 352 with h9 | h9
                  · have e : j = 351 := by omega
                    subst e
                    exact xk_351
                  · have e : j = 352 := by omega
                    subst e
                    exact xk_352
              · rcases Nat.lt_or_ge j 355 with h8 | h8
                · rcases Nat.lt_or_ge j 354 with h9 | h9
                  · have e : j = 353 := by omega
                    subst e
                    exact xk_353
                  · have e : j = 354 := by omega
                    subst e
                    exact xk_354
                · rcases Nat.lt_or_ge j 356 with h9 | h9
                  · have e : j = 355 := by omega
                    subst e
                    exact xk_355
                  · have e : j = 356 := by omega
                    subst e
                    exact xk_356
      · rcases Nat.lt_or_ge j 382 with h4 | h4
        · rcases Nat.lt_or_ge j 369 with h5 | h5
          · rcases Nat.lt_or_ge j 363 with h6 | h6
            · rcases Nat.lt_or_ge j 360 with h7 | h7
              · rcases Nat.lt_or_ge j 358 with h8 | h8
                · have e : j = 357 := by omega
                  subst e
                  exact xk_357
                · rcases Nat.lt_or_ge j 359 with h9 | h9
                  · have e : j = 358 := by omega
                    subst e
                    exact xk_358
                  · have e : j = 359 := by omega
                    subst e
                    exact xk_359
              · rcases Nat.lt_or_ge j 361 with h8 | h8
                · have e : j = 360 := by omega
                  subst e
                  exact xk_360
                · rcases Nat.lt_or_ge j 362 with h9 | h9
                  · have e : j = 361 := by omega
                    subst e
                    exact xk_361
                  · have e : j = 362 := by omega
                    subst e
                    exact xk_362
            · rcases Nat.lt_or_ge j 366 with h7 | h7
              · rcases Nat.lt_or_ge j 364 with h8 | h8
                · have e : j = 363 := by omega
                  subst e
                  exact xk_363
                · rcases Nat.lt_or_ge j 365 with h9 | h9
                  · have e : j = 364 := by omega
                    subst e
                    exact xk_364
                  · have e : j = 365 := by omega
                    subst e
                    exact xk_365
              · rcases Nat.lt_or_ge j 367 with h8 | h8
                · have e : j = 366 := by omega
                  subst e
                  exact xk_366
                · rcases Nat.lt_or_ge j 368 with h9 | h9
                  · have e : j = 367 := by omega
                    subst e
                    exact xk_367
                  · have e : j = 368 := by omega
                    subst e
                    exact xk_368
          · rcases Nat.lt_or_ge j 375 with h6 | h6
            · rcases Nat.lt_or_ge j 372 with h7 | h7
              · rcases Nat.lt_or_ge j 370 with h8 | h8
                · have e : j = 369 := by omega
                  subst e
                  exact xk_369
                · rcases Nat.lt_or_ge j 371 with h9 | h9
                  · have e : j = 370 := by omega
                    subst e
                    exact xk_370
                  · have e : j = 371 := by omega
                    subst e
                    exact xk_371
              · rcases Nat.lt_or_ge j 373 with h8 | h8
                · have e : j = 372 := by omega
                  subst e
                  exact xk_372
                · rcases Nat.lt_or_ge j 374 with h9 | h9
                  · have e : j = 373 := by omega
                    subst e
                    exact xk_373
                  · have e : j = 374 := by omega
                    subst e
                    exact xk_374
            · rcases Nat.lt_or_ge j 378 with h7 | h7
              · rcases Nat.lt_or_ge j 376 with h8 | h8
                · have e : j = 375 := by omega
                  subst e
                  exact xk_375
                · rcases Nat.lt_or_ge j 377 with h9 | h9
                  · have e : j = 376 := by omega
                    subst e
                    exact xk_376
                  · have e : j = 377 := by omega
                    subst e
                    exact xk_377
              · rcases Nat.lt_or_ge j 380 with h8 | h8
                · rcases Nat.lt_or_ge j 379 with h9 | h9
                  · have e : j = 378 := by omega
                    subst e
                    exact xk_378
                  · have e : j = 379 := by omega
                    subst e
                    exact xk_379
                · rcases Nat.lt_or_ge j 381 with h9 | h9
                  · have e : j = 380 := by omega
                    subst e
                    exact xk_380
                  · have e : j = 381 := by omega
                    subst e
                    exact xk_381
        · rcases Nat.lt_or_ge j 395 with h5 | h5
          · rcases Nat.lt_or_ge j 388 with h6 | h6
            · rcases Nat.lt_or_ge j 385 with h7 | h7
              · rcases Nat.lt_or_ge j 383 with h8 | h8
                · have e : j = 382 := by omega
                  subst e
                  exact xk_382
                · rcases Nat.lt_or_ge j 384 with h9 | h9
                  · have e : j = 383 := by omega
                    subst e
                    exact xk_383
                  · have e : j = 384 := by omega
                    subst e
                    exact xk_384
              · rcases Nat.lt_or_ge j 386 with h8 | h8
                · have e : j = 385 := by omega
                  subst e
                  exact xk_385
                · rcases Nat.lt_or_ge j 387 with h9 | h9
                  · have e : j = 386 := by omega
                    subst e
                    exact xk_386
                  · have e : j = 387 := by omega
                    subst e
                    exact xk_387
            · rcases Nat.lt_or_ge j 391 with h7 | h7
              · rcases Nat.lt_or_ge j 389 with h8 | h8
                · have e : j = 388 := by omega
                  subst e
                  exact xk_388
                · rcases Nat.lt_or_ge j 390 with h9 | h9
                  · have e : j = 389 := by omega
                    subst e
                    exact xk_389
                  · have e : j = 390 := by omega
                    subst e
                    exact xk_390
              · rcases Nat.lt_or_ge j 393 with h8 | h8
                · rcases Nat.lt_or_ge j 392 with h9 | h9
                  · have e : j = 391 := by omega
                    subst e
                    exact xk_391
                  · have e : j = 392 := by omega
                    subst e
                    exact xk_392
                · rcases Nat.lt_or_ge j 394 with h9 | h9
                  · have e : j = 393 := by omega
                    subst e
                    exact xk_393
                  · have e : j = 394 := by omega
                    subst e
                    exact xk_394
          · rcases Nat.lt_or_ge j 401 with h6 | h6
            · rcases Nat.lt_or_ge j 398 with h7 | h7
              · rcases Nat.lt_or_ge j 396 with h8 | h8
                · have e : j = 395 := by omega
                  subst e
                  exact xk_395
                · rcases Nat.lt_or_ge j 397 with h9 | h9
                  · have e : j = 396 := by omega
                    subst e
                    exact xk_396
                  · have e : j = 397 := by omega
                    subst e
                    exact xk_397
              · rcases Nat.lt_or_ge j 399 with h8 | h8
                · have e : j = 398 := by omega
                  subst e
                  exact xk_398
                · rcases Nat.lt_or_ge j 400 with h9 | h9
                  · have e : j = 399 := by omega
                    subst e
                    exact xk_399
                  · have e : j = 400 := by omega
                    subst e
                    exact xk_400
            · rcases Nat.lt_or_ge j 404 with h7 | h7
              · rcases Nat.lt_or_ge j 402 with h8 | h8
                · have e : j = 401 := by omega
                  subst e
                  exact xk_401
                · rcases Nat.lt_or_ge j 403 with h9 | h9
                  · have e : j = 402 := by omega
                    subst e
                    exact xk_402
                  · have e : j = 403 := by omega
                    subst e
                    exact xk_403
              · rcases Nat.lt_or_ge j 406 with h8 | h8
                · rcases Nat.lt_or_ge j 405 with h9 | h9
                  · have e : j = 404 := by omega
                    subst e
                    exact xk_404
                  · have e : j = 405 := by omega
                    subst e
                    exact xk_405
                · rcases Nat.lt_or_ge j 407 with h9 | h9
                  · have e : j = 406 := by omega
                    subst e
                    exact xk_406
                  · have e : j = 407 := by omega
                    subst e
                    exact xk_407
theorem xmeth_ok : ∀ j ∈ List.range 408, (xcn (xq j).1 = 99 ∨ ((xq j).1 ∈ [0, 1, 2, 3, 4, 5, 6, 7, 8, 9, 10, 11, 12, 90, 91, 92, 93, 94, 96, 99] ∧ j ∈ xCDt ∧ (xq j).1 ∈ xIZt ∧ (xq j).2.2.2.2.1 ≤ 29)) := by decide +kernel
theorem x_MOk_xt (xs : List Int32) : x_MOk xt (xg xs) xcls xms xcd := by
  intro y M hy
  obtain ⟨hlt, rfl⟩ := xms_lt hy
  refine ⟨?_, fun pc i len hc => ?_⟩
  · rcases xmeth_ok y (List.mem_range.mpr hlt) with h | ⟨h1, h2, h3, h4⟩
    · exact Or.inl h
    · have h5 := xo_plain _ h1
      exact Or.inr ⟨h5.1, xt_CD h2, xt_IZ h3, h5.2, h4⟩
  · obtain ⟨l, hl, hm⟩ := xcd_mem hc
    have h1 := List.all_eq_true.mp (List.all_eq_true.mp (xk_all y hlt) l hl) _ hm
    exact x_chk_rel xs h1
