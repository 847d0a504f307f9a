/-! THE REFERENCE'S RULES: how often a loop turns -/
theorem i64_r (a : Int32) : a.toInt64.toInt = a.toInt := Int32.toInt_toInt64 a
theorem i32_b (a : Int32) : -2147483648 ≤ a.toInt ∧ a.toInt < 2147483648 := ⟨Int32.le_toInt a, Int32.toInt_lt a⟩
theorem bm64 {x : Int} (h : -9223372036854775808 ≤ x) (h2 : x < 9223372036854775808) : x.bmod (2 ^ 64) = x := Int.bmod_eq_of_le (by omega) (by omega)
theorem i64_s (a b : Int32) : (a.toInt64 - b.toInt64).toInt = a.toInt - b.toInt := by
  have := i32_b a
  have := i32_b b
  rw [Int64.toInt_sub, i64_r, i64_r, bm64 (by omega) (by omega)]
theorem i64_n (a : Int32) : (-a.toInt64).toInt = -a.toInt := by
  have := i32_b a
  rw [Int64.toInt_neg, i64_r, bm64 (by omega) (by omega)]
theorem i64_d (f t s : Int32) : (f.toInt64 - t.toInt64) / (-s.toInt64) = (t.toInt64 - f.toInt64) / s.toInt64 := by
  apply Int64.toInt_inj.mp
  rw [Int64.toInt_div, Int64.toInt_div, i64_s, i64_n, i64_s, i64_r, show f.toInt - t.toInt = -(t.toInt - f.toInt) by omega, Int.neg_tdiv_neg]
def tmR (f t s : Int32) : Int64 := if lg_cmp s.toInt64 0 ≤ 0 then (if 0 ≤ lg_cmp s.toInt64 0 then 0 else if 0 ≤ lg_cmp f.toInt64 t.toInt64 then (f.toInt64 - t.toInt64) / (-s.toInt64) + 1 else 0) else if lg_cmp f.toInt64 t.toInt64 ≤ 0 then (t.toInt64 - f.toInt64) / s.toInt64 + 1 else 0
theorem z64 : (0 : Int64).toInt = 0 := rfl
theorem tmR_e (σ : RS) (n : Nat) : tms σ n = tmR (σ.2.2.2.1 (n + 1)) (σ.2.2.2.1 (n + 2)) (stp σ n) := by
  unfold tms tmR difT
  generalize σ.2.2.2.1 (n + 1) = f
  generalize σ.2.2.2.1 (n + 2) = t
  generalize stp σ n = s
  rw [i64_d]
  have bs := i32_b s
  have d0 : (t.toInt64 - f.toInt64).toInt = t.toInt - f.toInt := i64_s t f
  have e0 : (t.toInt64 - f.toInt64 = 0) ↔ t.toInt = f.toInt := by
    rw [← Int64.toInt_inj, d0, z64]
    omega
  have e1 : (0 ≤ lg_cmp (t.toInt64 - f.toInt64) 0) ↔ f.toInt ≤ t.toInt := by
    rw [lg_cmp_ge, Int64.le_iff_toInt_le, d0, z64]
    omega
  have s0 : (s.toInt64 = 0) ↔ s.toInt = 0 := by rw [← Int64.toInt_inj, i64_r, z64]
  have s1 : (0 ≤ lg_cmp s.toInt64 0) ↔ 0 ≤ s.toInt := by rw [lg_cmp_ge, Int64.le_iff_toInt_le, i64_r, z64]
  have s2 : (lg_cmp s.toInt64 0 ≤ 0) ↔ s.toInt ≤ 0 := by rw [lg_cmp_le, Int64.le_iff_toInt_le, i64_r, z64]
  have f1 : (0 ≤ lg_cmp f.toInt64 t.toInt64) ↔ t.toInt ≤ f.toInt := by rw [lg_cmp_ge, Int64.le_iff_toInt_le, i64_r, i64_r]
  have f2 : (lg_cmp f.toInt64 t.toInt64 ≤ 0) ↔ f.toInt ≤ t.toInt := by rw [lg_cmp_le, Int64.le_iff_toInt_le, i64_r, i64_r]
  by_cases q : s.toInt = 0
  · rw [if_pos (s0.mpr q), if_pos (s2.mpr (by omega)), if_pos (s1.mpr (by omega))]
  · rw [if_neg (fun z => q (s0.mp z))]
    rcases Int.lt_or_le s.toInt 0 with w | w
    · have ns : ¬ 0 ≤ lg_cmp s.toInt64 0 := fun z => by have := s1.mp z; omega
      rw [if_pos (s2.mpr (by omega)), if_neg ns]
      by_cases e : t.toInt = f.toInt
      · rw [if_pos (e0.mpr e), if_pos (f1.mpr (by omega))]
      · rw [if_neg (fun z => e (e0.mp z))]
        by_cases u : t.toInt ≤ f.toInt
        · rw [if_pos (f1.mpr u), if_pos (propext ⟨fun z => absurd (e1.mp z) (by omega), fun z => absurd (s1.mp z) (by omega)⟩)]
        · rw [if_neg (fun z => u (f1.mp z)), if_neg (fun z => by
            have : 0 ≤ lg_cmp s.toInt64 0 := by rw [← z]; exact e1.mpr (by omega)
            have := s1.mp this
            omega)]
    · have ns : ¬ lg_cmp s.toInt64 0 ≤ 0 := fun z => by have := s2.mp z; omega
      rw [if_neg ns]
      by_cases e : t.toInt = f.toInt
      · rw [if_pos (e0.mpr e), if_pos (f2.mpr (by omega))]
      · rw [if_neg (fun z => e (e0.mp z))]
        by_cases u : f.toInt ≤ t.toInt
        · rw [if_pos (f2.mpr u), if_pos (propext ⟨fun _ => s1.mpr w, fun _ => e1.mpr u⟩)]
        · rw [if_neg (fun z => u (f2.mp z)), if_neg (fun z => by
            have : 0 ≤ lg_cmp (t.toInt64 - f.toInt64) 0 := by rw [z]; exact s1.mpr w
            have := e1.mp this
            omega)]
/-- the child of that number -/
theorem c350 (xs : List Int32) (d : Nat) {J : JV} {m : yM} (hT : JT J m) {n : Nat} (hn : n < J.2.2.1.length) {i c : Nat} (hi : i < 100) (hc : (kids J.2.2.1 n)[i]? = some c) : yC (xg xs) (d + 1) 350 [.ref 58, .int (nI (J.2.2.2 n)), .int (nI i)] m (fun r m' => r = some (.int (nI (J.2.2.2 c))) ∧ m' = m) := by
  have lp : ∀ (k j : Nat), j + k = i → yP (xg xs) (d + 1) 350 10 [(0, .ref 58), (2, .int (nI i)), (3, .int (lkI J.2.2.2 (kids J.2.2.1 n)[j]?)), (4, .int (nI j))] [] m (fun r m' => r = some (.int (nI (J.2.2.2 c))) ∧ m' = m) := by
    intro k
    induction k with
    | zero =>
      intro j hj
      have : j = i := by omega
      subst this
      refine w350_10 xs d _ _ _ m _ ⟨fun _ => ⟨?_, rfl⟩, fun z => absurd (nI_le (Nat.le_refl _) (by omega)) z⟩
      rw [hc]; rfl
    | succ k ih =>
      intro j hj
      have lt := (List.getElem?_eq_some_iff.mp hc).1
      have ej := getD_some (d := 0) (show j < (kids J.2.2.1 n).length by omega)
      obtain ⟨c1, c2, c3⟩ := hT.kc hn ej
      refine w350_10 xs d _ _ _ m _ ⟨fun z => absurd ((nI_leI (by omega) (by omega)).mp z) (by omega), fun _ => ?_⟩
      have e5 : lkI J.2.2.2 (kids J.2.2.1 n)[j]? = nI (J.2.2.2 ((kids J.2.2.1 n).getD j 0)) := by rw [ej]; rfl
      rw [e5, hT.c c1, c3, nI_1]
      exact ⟨hT.x c1, ih (j + 1) (by omega)⟩
  refine w350_0 xs d _ _ m _ ⟨hT.x hn, ?_⟩
  rw [hT.c hn, (hT.2.1 n hn).2.2.2.2.2.1]
  exact lp i 0 (by omega)
/-- a constant as it was read -/
def CN (J : JV) (σ : RS) (i : Nat) : Prop := i < J.2.2.1.length ∧ cnK (kK J.2.2.1 i) ∧ σ.2.2.1 i = nI (kK J.2.2.1 i) ∧ vtF J.2.2.1 i = 0 ∧ σ.2.2.2.1 i = vF J.2.2.1 i
theorem CN.v {J : JV} {σ : RS} {m : yM} {i : Nat} (h : CN J σ i) (hT : JT J m) : m.1 64 (J.2.2.2 i) = σ.2.2.2.1 i ∧ m.1 62 (J.2.2.2 i) = σ.2.2.1 i := by
  obtain ⟨h1, h2, h3, h4, h5⟩ := h
  exact ⟨((hT.2.1 i h1).2.2.2.1 h4).trans h5.symm, (hT.2.1 i h1).2.1.trans h3.symm⟩
/-- a loop's nodes -/
def FR (J : JV) (σ : RS) (n : Nat) : Prop := CN J σ (n + 1) ∧ CN J σ (n + 2) ∧ ((kids J.2.2.1 n = [n + 1, n + 2, n + 3] ∧ σ.2.2.1 (n + 3) = 11 ∧ n + 3 < J.2.2.1.length) ∨ (kids J.2.2.1 n = [n + 1, n + 2, n + 3, n + 4] ∧ CN J σ (n + 3) ∧ n + 4 < J.2.2.1.length))
theorem c349 (xs : List Int32) (d : Nat) {J : JV} {σ : RS} {m : yM} (hT : JT J m) {n : Nat} (hn : n < J.2.2.1.length) (hF : FR J σ n) : yC (xg xs) (d + 2) 349 [.ref 58, .int (nI (J.2.2.2 n))] m (fun r m' => r = some (.int (stp σ n)) ∧ m' = m) := by
  obtain ⟨h1, h2, h3⟩ := hF
  have m69 := (hT.2.1 n hn).2.2.2.2.2.2.2.1
  unfold stp
  refine w349_0 xs (d + 1) _ m _ ⟨hT.x hn, ?_⟩
  rw [hT.c hn, m69]
  rcases h3 with ⟨k, q, l⟩ | ⟨k, q, l⟩
  · rw [k, if_pos q]
    exact ⟨fun _ => ⟨rfl, rfl⟩, fun z => absurd z (show ¬ nI 3 = 4 by decide)⟩
  · have k3 : (kids J.2.2.1 n)[2]? = some (n + 3) := by rw [k]; rfl
    have n11 : ¬ σ.2.2.1 (n + 3) = 11 := by
      rw [q.2.2.1]
      rcases q.2.1 with z | z <;> rw [z] <;> decide
    rw [if_neg n11, k]
    refine ⟨fun z => absurd rfl z, fun _ => y_ci (c350 xs d hT hn (i := 2) (by omega) k3) (by omega) ⟨hT.x q.1, ?_, rfl⟩⟩
    rw [hT.c q.1, (q.v hT).1]
theorem c351 (xs : List Int32) (d : Nat) {J : JV} {σ : RS} {m : yM} (hT : JT J m) {n : Nat} (hn : n < J.2.2.1.length) (hF : FR J σ n) : yC (xg xs) (d + 3) 351 [.ref 58, .int (nI (J.2.2.2 n))] m (fun r m' => r = some (.long (tms σ n)) ∧ m' = m) := by
  have hF0 := hF
  obtain ⟨h1, h2, h3⟩ := hF
  have k1 : (kids J.2.2.1 n)[0]? = some (n + 1) := by rcases h3 with ⟨k, -⟩ | ⟨k, -⟩ <;> rw [k] <;> rfl
  have k2 : (kids J.2.2.1 n)[1]? = some (n + 2) := by rcases h3 with ⟨k, -⟩ | ⟨k, -⟩ <;> rw [k] <;> rfl
  rw [tmR_e]
  unfold tmR
  refine w351_0 xs (d + 2) _ m _ (y_ci (c350 xs (d + 1) hT hn (i := 0) (by omega) k1) (by omega) ⟨hT.x h1.1, y_ci (c350 xs (d + 1) hT hn (i := 1) (by omega) k2) (by omega) ⟨hT.x h2.1, y_ci (c349 xs d hT hn hF0) (by omega) ?_⟩⟩)
  rw [hT.c h1.1, hT.c h2.1, (h1.v hT).1, (h2.v hT).1]
  generalize σ.2.2.2.1 (n + 1) = f
  generalize σ.2.2.2.1 (n + 2) = t
  generalize stp σ n = s
  have bs := i32_b s
  refine ⟨fun z => ⟨fun w => ⟨?_, rfl⟩, fun w => ⟨fun v => ⟨?_, ?_, rfl⟩, fun v => ⟨?_, rfl⟩⟩⟩, fun z => ⟨fun v => ⟨?_, ?_, rfl⟩, fun v => ⟨?_, rfl⟩⟩⟩
  · rw [if_pos z, if_pos w]
  · intro e
    rw [← Int64.toInt_inj, i64_n, z64] at e
    exact w (by rw [lg_cmp_ge, Int64.le_iff_toInt_le, i64_r, z64]; omega)
  · rw [if_pos z, if_neg w, if_pos v]
  · rw [if_pos z, if_neg w, if_neg v]
  · intro e
    rw [← Int64.toInt_inj, i64_r, z64] at e
    exact z (by rw [lg_cmp_le, Int64.le_iff_toInt_le, i64_r, z64]; omega)
  · rw [if_neg z, if_pos v]
  · rw [if_neg z, if_neg v]
