/-! MEASURE: what the reference finds on the stack -/
theorem xar6_0 {q : Nat} (hq : q < 19) (h0 : ¬ q = 0) (h1 : ¬ q = 1) (h2 : ¬ q = 2) (h4 : ¬ q = 4) (h5 : ¬ q = 5) (h6 : ¬ q = 6) (h7 : ¬ q = 7) (h9 : ¬ q = 9) (h11 : ¬ q = 11) : xar_6.getD q 0 = 0 := by
  have : q = 3 ∨ q = 8 ∨ q = 10 ∨ q = 12 ∨ q = 13 ∨ q = 14 ∨ q = 15 ∨ q = 16 ∨ q = 17 ∨ q = 18 := by omega
  rcases this with rfl | rfl | rfl | rfl | rfl | rfl | rfl | rfl | rfl | rfl <;> rfl
theorem c388 (xs : List Int32) (d : Nat) {D : List IT} {S b : Nat} {m : yM} (h : RD D S b m) (hf : FW D.length D 0) (h0 : mk0 D) (hop : iOps D) : yC (xg xs) (d + 2) 388 [.ref 58, .int (nI b)] m (fun r m' => (∃ u, r = some (.int u) ∧ (u ≤ 64 ↔ ∀ i, i < D.length → rchP D D.length i = true → layP D (i + 1) ≤ 64)) ∧ K96 m m') := by
  have hS := h.1
  have hb := h.2.1
  have x1 : x_in (nI b + 1) 401 = true := by rw [nI_1]; exact x_in_nI (by omega) (by decide)
  have c1 : (nI b + 1).toNatClampNeg = b + 1 := by rw [nI_1]; exact nI_clamp (by omega)
  refine w388_0 xs (d + 1) _ m _ (yC.mono (by omega) (fun r m1 q => ⟨q.1, x_in_nI (by omega) (by decide), ?_⟩) (c389 xs d h hf h0))
  obtain ⟨-, r1, k1⟩ := q
  have hd := h.k k1
  rw [nI_clamp (by omega), hd.2.2.1]
  have lp : ∀ (k i : Nat) (u : Int32), i + k = D.length → (u ≤ 64 ↔ ∀ j, j < i → rchP D D.length j = true → layP D (j + 1) ≤ 64) → yP (xg xs) (d + 2) 388 17 [(0, .ref 58), (1, .int (nI b)), (2, .int (layP D i)), (3, .int u), (4, .int (nI (S + i)))] [] m1 (fun r m' => (∃ u, r = some (.int u) ∧ (u ≤ 64 ↔ ∀ i, i < D.length → rchP D D.length i = true → layP D (i + 1) ≤ 64)) ∧ K96 m m') := by
    intro k
    induction k with
    | zero =>
      intro i u hi hu
      have hi : i = D.length := hi
      subst hi
      refine w388_17 xs (d + 1) _ _ _ _ m1 _ ⟨x1, ?_⟩
      rw [c1, hd.2.2.2.1]
      exact ⟨fun _ => ⟨⟨u, rfl, hu⟩, k1⟩, fun z => absurd (nI_le (Nat.le_refl _) (by omega)) z⟩
    | succ k ih =>
      intro i u hi hu
      have hx : D[i]? = some (D.getD i dIT) := getD_some (by omega)
      obtain ⟨a1, -, -⟩ := hd.2.2.2.2 i _ hx
      obtain ⟨q, q1, q2⟩ := hop _ (List.mem_of_getElem? hx)
      have el : layP D (i + 1) = layP D i + xar_6.getD q 0 := by
        show layP D i + xar_6.getD ((D.getD i dIT).1).toNatClampNeg 0 = _
        rw [q2, nI_clamp (by omega)]
      have ci : (nI (S + i)).toNatClampNeg = S + i := nI_clamp (by omega)
      have ri := r1 i (by omega)
      have s119 : ∀ v, v = layP D (i + 1) → yP (xg xs) (d + 2) 388 119 [(0, .ref 58), (1, .int (nI b)), (2, .int v), (3, .int u), (4, .int (nI (S + i)))] [] m1 (fun r m' => (∃ u, r = some (.int u) ∧ (u ≤ 64 ↔ ∀ i, i < D.length → rchP D D.length i = true → layP D (i + 1) ≤ 64)) ∧ K96 m m') := by
        intro v hv
        subst hv
        have nxt : ∀ u' : Int32, (u' ≤ 64 ↔ ∀ j, j < i + 1 → rchP D D.length j = true → layP D (j + 1) ≤ 64) → yP (xg xs) (d + 2) 388 139 [(0, .ref 58), (1, .int (nI b)), (2, .int (layP D (i + 1))), (4, .int (nI (S + i)))] [.int u'] m1 (fun r m' => (∃ u, r = some (.int u) ∧ (u ≤ 64 ↔ ∀ i, i < D.length → rchP D D.length i = true → layP D (i + 1) ≤ 64)) ∧ K96 m m') := fun u' hu' => w388_139 xs (d + 1) _ _ _ _ m1 _ (by rw [nI_1]; exact ih (i + 1) u' (by omega) hu')
        have keep : (rchP D D.length i = true → layP D (i + 1) ≤ u) → (u ≤ 64 ↔ ∀ j, j < i + 1 → rchP D D.length j = true → layP D (j + 1) ≤ 64) := by
          intro hk
          rw [hu]
          refine ⟨fun w j hj hr => ?_, fun w j hj hr => w j (by omega) hr⟩
          by_cases c : j = i
          · rw [c] at hr ⊢
            exact Int32.le_trans (hk hr) (hu.mpr w)
          · exact w j (by omega) hr
        refine w388_119 xs (d + 1) _ _ _ _ m1 _ ⟨x_in_nI (by omega) (by decide), ?_⟩
        rw [ci]
        refine ⟨fun z => w388_138 xs (d + 1) _ _ _ _ m1 _ (nxt u (keep (fun y => by rw [ri.mp z] at y; cases y))), fun z => ⟨fun y => w388_138 xs (d + 1) _ _ _ _ m1 _ (nxt u (keep (fun _ => y))), fun y => nxt _ ?_⟩⟩
        have yes : rchP D D.length i = true := by
          cases hq : rchP D D.length i with
          | false => exact absurd (ri.mpr hq) z
          | true => rfl
        have ul : u ≤ layP D (i + 1) := by
          rw [Int32.le_iff_toInt_le] at y ⊢
          omega
        refine ⟨fun w j hj hr => ?_, fun w => w i (by omega) yes⟩
        by_cases c : j = i
        · rw [c]; exact w
        · exact hu.mp (Int32.le_trans ul w) j (by omega) hr
      have iq : ∀ t, t < 19 → (nI q = nI t ↔ q = t) := fun t ht => nI_eq (by omega) (by omega)
      refine w388_17 xs (d + 1) _ _ _ _ m1 _ ⟨x1, ?_⟩
      rw [c1, hd.2.2.2.1, ci, a1, q2]
      refine ⟨fun z => ?_, fun _ => ⟨x_in_nI (by omega) (by decide), fun z => s119 _ ?_, fun z => s119 _ ?_, fun z => s119 _ ?_, fun z => s119 _ ?_, fun z => s119 _ ?_, fun z => s119 _ ?_, fun z => s119 _ ?_, fun z => s119 _ ?_, fun z => s119 _ ?_, fun y0 y1 y2 y4 y5 y6 y7 y9 y11 => s119 _ ?_⟩⟩
      · have := (nI_leI (by omega) (by omega)).mp z
        omega
      · rw [el, (iq 0 (by omega)).mp z]; rfl
      · rw [el, (iq 1 (by omega)).mp z]; rfl
      · rw [el, (iq 2 (by omega)).mp z]; rfl
      · rw [el, (iq 4 (by omega)).mp z, Int32.sub_eq_add_neg]; rfl
      · rw [el, (iq 5 (by omega)).mp z]; rfl
      · rw [el, (iq 6 (by omega)).mp z]; rfl
      · rw [el, (iq 7 (by omega)).mp z]; rfl
      · rw [el, (iq 9 (by omega)).mp z, Int32.sub_eq_add_neg]; rfl
      · rw [el, (iq 11 (by omega)).mp z]; rfl
      · rw [el, xar6_0 q1 (fun w => y0 ((iq 0 (by omega)).mpr w)) (fun w => y1 ((iq 1 (by omega)).mpr w)) (fun w => y2 ((iq 2 (by omega)).mpr w)) (fun w => y4 ((iq 4 (by omega)).mpr w)) (fun w => y5 ((iq 5 (by omega)).mpr w)) (fun w => y6 ((iq 6 (by omega)).mpr w)) (fun w => y7 ((iq 7 (by omega)).mpr w)) (fun w => y9 ((iq 9 (by omega)).mpr w)) (fun w => y11 ((iq 11 (by omega)).mpr w)), Int32.add_zero]
  exact lp D.length 0 0 (by omega) ⟨fun _ j hj => absurd hj (Nat.not_lt_zero _), fun _ => by decide⟩
