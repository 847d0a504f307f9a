/-! THE READER: what stands between operands; wrap -/
theorem y_fin {G : xG} {d d' j : Nat} {as : List Value} {m : yM} {P : yM → Prop} (h : yC G d j as m (fun r m1 => r = none ∧ P m1)) (hd : d ≤ d') : yC G d' j as m (fun v m1 => v = none ∧ ((none : Option Value) = none ∧ P m1)) := yC.mono hd (fun _ _ q => ⟨q.1, rfl, q.2⟩) h
theorem y_nx {G : xG} {d d' j : Nat} {as : List Value} {m : yM} {P R : yM → Prop} (h : yC G d j as m (fun r m1 => r = none ∧ P m1)) (hd : d ≤ d') (k : ∀ m1, P m1 → R m1) : yC G d' j as m (fun v m1 => v = none ∧ R m1) := yC.mono hd (fun _ m1 q => ⟨q.1, k m1 q.2⟩) h
def opO (x : Int32) : Int32 := if x = 30 then 0 else if x = 31 then 1 else if x = 32 then 2 else if x = 33 then 13 else if x = 72 then 7 else if x = 73 then 8 else if x = 74 then 4 else if x = 166 then 2 else if x = 170 then 11 else if x = 171 then 9 else if x = 173 then 10 else if x = 175 then 12 else if x = 188 then 5 else if x = 189 then 3 else if x = 190 then 6 else -1
def clO (u : Int32) : Int32 := if 3 ≤ u then (if 4 < u then (if 8 < u then (if 11 ≤ u then 6 else 5) else 4) else 3) else u
theorem c102 (xs : List Int32) (d : Nat) (m : yM) (x : Int32) : yC (xg xs) (d + 1) 102 [.int x] m (fun r m' => r = some (.int (opO x)) ∧ m' = m) := by
  refine w102_0 xs d _ m _ ⟨?_, ?_, ?_, ?_, ?_, ?_, ?_, ?_, ?_, ?_, ?_, ?_, ?_, ?_, ?_, ?_⟩
  all_goals first | (intro h; subst h; exact ⟨rfl, rfl⟩) | skip
  intro h1 h2 h3 h4 h5 h6 h7 h8 h9 h10 h11 h12 h13 h14 h15
  refine ⟨?_, rfl⟩
  unfold opO
  rw [if_neg h1, if_neg h2, if_neg h3, if_neg h4, if_neg h5, if_neg h6, if_neg h7, if_neg h8, if_neg h9, if_neg h10, if_neg h11, if_neg h12, if_neg h13, if_neg h14, if_neg h15]
theorem c101 (xs : List Int32) (d : Nat) (m : yM) (x : Int32) : yC (xg xs) (d + 2) 101 [.int x] m (fun r m' => r = some (.int (clO (opO x))) ∧ m' = m) := by
  refine w101_0 xs (d + 1) _ m _ ?_
  refine y_ci (c102 xs d m x) (by omega) ?_
  unfold clO
  refine ⟨fun h1 => ⟨fun h2 => ⟨fun h3 => ⟨fun h4 => ⟨?_, rfl⟩, fun h4 => ⟨?_, rfl⟩⟩, fun h3 => ⟨?_, rfl⟩⟩, fun h2 => ⟨?_, rfl⟩⟩, fun h1 => ⟨?_, rfl⟩⟩
  · rw [if_pos h1, if_pos h2, if_pos h3, if_pos h4]
  · rw [if_pos h1, if_pos h2, if_pos h3, if_neg h4]
  · rw [if_pos h1, if_pos h2, if_neg h3]
  · rw [if_pos h1, if_neg h2]
  · rw [if_neg h1]
theorem c91 (xs : List Int32) (d : Nat) {m0 m : yM} {T t o : Nat} {F : List ND} (hT : TKok m0 T) (h : RCo m0 T t o F m) (ht : t < T) : yC (xg xs) (d + 1) 91 [.ref 17] m (fun r m' => r = some (.int (m0.1 9 (t + 1))) ∧ m' = m) := by
  have hT1 := hT.1
  obtain ⟨kd, g4, gT, -⟩ := h
  refine w91_0 xs d m _ ⟨fun z => absurd z (by rw [g4]; exact nI_ge (b := 8192) (by omega) (by decide)), fun _ => ?_⟩
  rw [g4, nI_1, nI_clamp (by omega), kd.1 9 (by decide)]
  exact ⟨x_in_nI (by omega) (by decide), rfl, rfl⟩
/-- nodes from behind i on, up to e, moved by one -/
def shM (M : yM) (i e : Nat) : yM := (fun a j => if (a = 3 ∨ a = 4 ∨ a = 5) ∧ i < j ∧ j < e then M.1 a (j - 1) else if a = 7 ∧ i < j ∧ j < e then M.1 7 (j - 1) + 1 else M.1 a j, M.2)
theorem shM_at (M : yM) (i e a j : Nat) : (shM M i e).1 a j = if (a = 3 ∨ a = 4 ∨ a = 5) ∧ i < j ∧ j < e then M.1 a (j - 1) else if a = 7 ∧ i < j ∧ j < e then M.1 7 (j - 1) + 1 else M.1 a j := rfl
theorem shM_0 (M : yM) (i e : Nat) (h : e ≤ i + 1) : shM M i e = M := by
  refine Prod.ext (funext fun a => funext fun j => ?_) rfl
  rw [shM_at, if_neg (by omega), if_neg (by omega)]
theorem shM_s (M : yM) (i e : Nat) (h1 : i + 1 < e) : y_si (y_si (y_si (y_si (shM M (i + 1) e) 3 (i + 1) (M.1 3 i)) 4 (i + 1) (M.1 4 i)) 5 (i + 1) (M.1 5 i)) 7 (i + 1) (M.1 7 i + 1) = shM M i e := by
  refine Prod.ext (funext fun a => funext fun j => ?_) rfl
  simp only [y_si_at, shM_at]
  by_cases hj : j = i + 1
  · subst hj
    by_cases a7 : a = 7
    · subst a7; simp [h1]
    · by_cases a5 : a = 5
      · subst a5; simp [h1]
      · by_cases a4 : a = 4
        · subst a4; simp [h1]
        · by_cases a3 : a = 3
          · subst a3; simp [h1]
          · simp [a7, a5, a4, a3]
  · have e1 : (i + 1 < j) ↔ (i < j) := by omega
    simp [hj, e1]
theorem c103L (xs : List Int32) (d : Nat) (M : yM) (n e : Nat) (he : e ≤ 16400) (l2 l3 l4 : Int32) (Q : Option Value → yM → Prop) (K : yP (xg xs) (d + 1) 103 17 [(0, .ref 2), (1, .int (nI n)), (2, .int l2), (3, .int l3), (4, .int l4), (5, .int (nI n))] [] (shM M n e) Q) : ∀ q i : Nat, i = n + q → i + 1 ≤ e ∨ q = 0 → yP (xg xs) (d + 1) 103 17 [(0, .ref 2), (1, .int (nI n)), (2, .int l2), (3, .int l3), (4, .int l4), (5, .int (nI i))] [] (shM M i e) Q := by
  intro q
  induction q with
  | zero =>
    intro i hi _
    rw [hi, Nat.add_zero]
    exact K
  | succ q ih =>
    intro i hi hie
    obtain ⟨u, rfl⟩ : ∃ u, i = u + 1 := ⟨i - 1, by omega⟩
    have hu : u + 1 < e := by omega
    refine w103_17 xs d _ _ _ _ _ _ _ ⟨fun z => absurd z (nI_ge (by omega) (by omega)), fun _ => ?_⟩
    have e1 : nI (u + 1) - (1 : Int32) = nI u := nI_pred u
    have e2 : nI (u + 1) + (-1 : Int32) = nI u := pk_m1 u
    have s3 : (shM M (u + 1) e).1 3 u = M.1 3 u := by rw [shM_at, if_neg (by omega), if_neg (by omega)]
    have s4 : (shM M (u + 1) e).1 4 u = M.1 4 u := by rw [shM_at, if_neg (by omega), if_neg (by omega)]
    have s5 : (shM M (u + 1) e).1 5 u = M.1 5 u := by rw [shM_at, if_neg (by omega), if_neg (by omega)]
    have s7 : (shM M (u + 1) e).1 7 u = M.1 7 u := by rw [shM_at, if_neg (by omega), if_neg (by omega)]
    rw [e1, e2, nI_clamp (by omega), nI_clamp (by omega), s3, s4, s5, s7, shM_s M u e hu]
    have i1 : x_in (nI u) 16401 = true := x_in_nI (by omega) (by decide)
    have i2 : x_in (nI (u + 1)) 16401 = true := x_in_nI (by omega) (by decide)
    exact ⟨i1, i2, i1, i2, i1, i2, i1, i2, ih u (by omega) (Or.inl (by omega))⟩
/-- where an expression's first node is (if they are not too many) -/
def lfI (F : List ND) (i : Nat) : Prop := i ≤ 16400 ∧ (F.length ≤ 16400 → i = F.length)
theorem c103 (xs : List Int32) (d : Nat) {m0 m : yM} {T t o : Nat} {F L : List ND} (h : RCo m0 T t o (F ++ L) m) {n : Nat} (hn : lfI F n) (k p v : Int32) : yC (xg xs) (d + 2) 103 [.ref 2, .int (nI n), .int k, .int p, .int v] m (fun r m' => r = none ∧ RCo m0 T t o (F ++ (k, p, v, 0, L.length + 1) :: L) m') := by
  obtain ⟨kd, g4, gT, g5, g68, g6, go, g3, z, z1, z2, z3⟩ := h
  obtain ⟨n1, n2⟩ := hn
  refine w103_0 xs (d + 1) _ _ _ _ m _ ?_
  have z20 := z2.1
  refine y_ci (c72g xs d m k p v z z1 z2.1) (by omega) ?_
  have hm : min z 16399 ≤ 16399 := Nat.min_le_right _ _
  have hmz : min z 16399 ≤ z := Nat.min_le_left _ _
  have eM : (trAdd m (min z 16399) k p v).1 2 5 = nI (min z 16399 + 1) := by rw [trAdd_at, if_pos ⟨rfl, rfl⟩]
  rw [eM, nI_pred]
  -- the end
  have fin : ∀ i : Nat, i ≤ n → yP (xg xs) (d + 1 + 1) 103 17 [(0, .ref 2), (1, .int (nI n)), (2, .int k), (3, .int p), (4, .int v), (5, .int (nI i))] [] (shM (trAdd m (min z 16399) k p v) n (min z 16399 + 1)) (fun r m' => r = none ∧ RCo m0 T t o (F ++ (k, p, v, 0, L.length + 1) :: L) m') := by
    intro i hi
    refine w103_17 xs (d + 1) _ _ _ _ _ _ _ ⟨fun _ => ?_, fun y => absurd (nI_le hi (by omega)) y⟩
    have i1 : x_in (nI n) 16401 = true := x_in_nI (by omega) (by decide)
    rw [nI_clamp (by omega)]
    have o : ∀ a j, a ≠ 3 → a ≠ 4 → a ≠ 5 → a ≠ 7 → a ≠ 6 → ¬ (a = 2 ∧ j = 5) → (y_si (y_si (y_si (y_si (shM (trAdd m (min z 16399) k p v) n (min z 16399 + 1)) 3 n k) 4 n p) 5 n v) 7 n ((shM (trAdd m (min z 16399) k p v) n (min z 16399 + 1)).1 2 5)).1 a j = m.1 a j := by
      intro a j a3 a4 a5 a7 a6 a2
      simp only [y_si_at, shM_at, trAdd_at]
      simp [a3, a4, a5, a6, a7, a2]
    have o2 : (y_si (y_si (y_si (y_si (shM (trAdd m (min z 16399) k p v) n (min z 16399 + 1)) 3 n k) 4 n p) 5 n v) 7 n ((shM (trAdd m (min z 16399) k p v) n (min z 16399 + 1)).1 2 5)).1 2 5 = nI (min z 16399 + 1) := by
      simp only [y_si_at, shM_at, trAdd_at]
      simp
    refine ⟨i1, i1, i1, i1, rfl, ⟨fun a ha => ?_, kd.2⟩, ?_, gT, ?_, g68, ?_, go, ?_, min z 16399 + 1, o2, ⟨by omega, fun j hj => ?_⟩, fun hF => ?_⟩
    · funext j
      rw [o a j (by omega) (by omega) (by omega) (by omega) (by omega) (by omega), kd.1 a ha]
    · rw [o 17 4 (by omega) (by omega) (by omega) (by omega) (by omega) (by omega)]; exact g4
    · rw [o 17 5 (by omega) (by omega) (by omega) (by omega) (by omega) (by omega)]; exact g5
    · rw [o 17 6 (by omega) (by omega) (by omega) (by omega) (by omega) (by omega)]; exact g6
    · rw [o 17 3 (by omega) (by omega) (by omega) (by omega) (by omega) (by omega)]; exact g3
    · simp only [y_si_at, shM_at, trAdd_at]
      by_cases y : j = min z 16399
      · simp [y]
      · have := z2.2 j (by omega)
        simp [y, this]
    · simp only [List.length_append, List.length_cons] at hF
      obtain ⟨e1, e2⟩ := z3 (by simp only [List.length_append]; omega)
      simp only [List.length_append] at e1
      have en := n2 (by omega)
      have em : min z 16399 = z := by omega
      rw [em]
      refine ⟨by simp only [List.length_append, List.length_cons]; omega, fun j q hq => ?_⟩
      simp only [y_si_at, shM_at, trAdd_at]
      rcases Nat.lt_trichotomy j n with u | u | u
      · have hq2 : (F ++ L)[j]? = some q := by
          rw [List.getElem?_append_left (by omega)] at hq ⊢
          exact hq
        obtain ⟨q1, q2, q3, q4⟩ := e2 j q hq2
        have c1 : ¬ j = n := by omega
        have c2 : ¬ n < j := by omega
        have c3 : ¬ j = z := by omega
        simp [c1, c2, c3, q1, q2, q3, q4]
      · subst u
        rw [List.getElem?_append_right (by omega), show j - F.length = 0 by omega] at hq
        simp only [List.getElem?_cons_zero, Option.some.injEq] at hq
        subst hq
        simp
        congr 1
        omega
      · obtain ⟨w, rfl⟩ : ∃ w, j = w + 1 := ⟨j - 1, by omega⟩
        have hq2 : (F ++ L)[w]? = some q := by
          rw [List.getElem?_append_right (by omega), show w + 1 - F.length = (w - F.length) + 1 by omega, List.getElem?_cons_succ] at hq
          rw [List.getElem?_append_right (by omega)]
          exact hq
        have hw : w < F.length + L.length := by
          have := (List.getElem?_eq_some_iff.mp hq2).1
          simp only [List.length_append] at this
          exact this
        obtain ⟨q1, q2, q3, q4⟩ := e2 w q hq2
        have c1 : ¬ w + 1 = n := by omega
        have c3 : ¬ w = z := by omega
        have c4 : w < z := by omega
        simp [c1, u, c3, c4, q1, q2, q3, q4, nI_1]
        congr 1
        omega
  by_cases hh : n ≤ min z 16399
  · have l := c103L xs (d + 1) (trAdd m (min z 16399) k p v) n (min z 16399 + 1) (by omega) k p v _ (fin n (Nat.le_refl _)) (min z 16399 - n) (min z 16399) (by omega) (Or.inl (Nat.le_refl _))
    rw [shM_0 _ _ _ (Nat.le_refl _)] at l
    exact l
  · have l := fin (min z 16399) (by omega)
    rw [shM_0 _ _ _ (by omega)] at l
    exact l
