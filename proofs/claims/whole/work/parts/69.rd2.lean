/-! THE READER: nodes -/
theorem c72g (xs : List Int32) (d : Nat) (m : yM) (a b c : Int32) (z : Nat) (hz : m.1 2 5 = nI z) (h : z ≤ 16400) : yC (xg xs) (d + 1) 72 [.ref 2, .int a, .int b, .int c] m (fun r m' => r = some (.int (nI (min z 16399))) ∧ m' = trAdd m (min z 16399) a b c) := by
  have e : (if (16399 : Int32) < m.1 2 5 then (16399 : Int32) else m.1 2 5) = nI (min z 16399) := by
    rw [hz]
    show (if nI 16399 < nI z then nI 16399 else nI z) = nI (min z 16399)
    by_cases y : z ≤ 16399
    · rw [if_neg (nI_nlt (a := 16399) y (by decide)), Nat.min_eq_left y]
    · rw [if_pos (nI_lt (a := 16399) (b := z) (by omega) (by omega)), Nat.min_eq_right (by omega)]
  have hm : min z 16399 ≤ 16399 := Nat.min_le_right _ _
  refine w72_0 xs d _ _ _ m _ ?_
  rw [e]
  generalize min z 16399 = k at *
  have i1 : x_in (nI k) 16401 = true := x_in_nI (by omega) (by decide)
  rw [nI_1, nI_clamp (by omega)]
  exact ⟨i1, i1, i1, i1, i1, rfl, rfl⟩
theorem trAdd_at {m : yM} {k : Nat} {a b c : Int32} {x i : Nat} : (trAdd m k a b c).1 x i = if x = 2 ∧ i = 5 then nI (k + 1) else if x = 7 ∧ i = k then nI (k + 1) else if x = 6 ∧ i = k then 0 else if x = 5 ∧ i = k then c else if x = 4 ∧ i = k then b else if x = 3 ∧ i = k then a else m.1 x i := by
  unfold trAdd
  simp only [y_si_at]
theorem Kd.tr {m0 m : yM} (h : Kd m0 m) {k : Nat} {a b c : Int32} : Kd m0 (trAdd m k a b c) := (((((h.si (by omega)).si (by omega)).si (by omega)).si (by omega)).si (by omega)).si (by omega)
theorem TF.add {F : List ND} {m : yM} {z : Nat} (h2 : z ≤ 16400 ∧ ∀ i, i < z → m.1 6 i = 0) (h3 : F.length ≤ 16400 → z = F.length ∧ ∀ i q, F[i]? = some q → m.1 3 i = q.1 ∧ m.1 4 i = q.2.1 ∧ m.1 5 i = q.2.2.1 ∧ m.1 7 i = nI (i + q.2.2.2.2)) (k p v : Int32) (vt : Nat) : TF (F ++ [(k, p, v, vt, 1)]) (trAdd m (min z 16399) k p v) := by
  have hm : min z 16399 ≤ 16399 := Nat.min_le_right _ _
  have h20 := h2.1
  refine ⟨min z 16399 + 1, by rw [trAdd_at, if_pos ⟨rfl, rfl⟩], ⟨by omega, fun i hi => ?_⟩, fun hF => ?_⟩
  · rw [trAdd_at, if_neg (by omega), if_neg (by omega)]
    by_cases y : i = min z 16399
    · rw [if_pos ⟨rfl, y⟩]
    · rw [if_neg (fun u => y u.2), if_neg (by omega), if_neg (by omega), if_neg (by omega)]
      exact h2.2 i (by omega)
  simp only [List.length_append, List.length_cons, List.length_nil] at hF
  obtain ⟨e1, e2⟩ := h3 (by omega)
  have em : min z 16399 = F.length := by omega
  rw [em]
  refine ⟨by simp, fun i q hq => ?_⟩
  simp only [trAdd_at]
  rcases Nat.lt_or_ge i F.length with y | y
  · rw [List.getElem?_append_left y] at hq
    obtain ⟨q1, q2, q3, q4⟩ := e2 i q hq
    have ne : ∀ a : Nat, ¬ (a = i ∧ i = F.length) := fun a u => by omega
    refine ⟨?_, ?_, ?_, ?_⟩
    · rw [if_neg (by omega), if_neg (by omega), if_neg (by omega), if_neg (by omega), if_neg (by omega), if_neg (by omega)]; exact q1
    · rw [if_neg (by omega), if_neg (by omega), if_neg (by omega), if_neg (by omega), if_neg (by omega), if_neg (by omega)]; exact q2
    · rw [if_neg (by omega), if_neg (by omega), if_neg (by omega), if_neg (by omega), if_neg (by omega), if_neg (by omega)]; exact q3
    · rw [if_neg (by omega), if_neg (by omega), if_neg (by omega), if_neg (by omega), if_neg (by omega), if_neg (by omega)]; exact q4
  · rw [List.getElem?_append_right y] at hq
    have ei : i - F.length = 0 := by
      rcases Nat.eq_zero_or_pos (i - F.length) with u | u
      · exact u
      · rw [List.getElem?_eq_none (by simp; omega)] at hq
        exact absurd hq (by simp)
    rw [ei] at hq
    simp only [List.getElem?_cons_zero, Option.some.injEq] at hq
    subst hq
    have e : i = F.length := by omega
    subst e
    refine ⟨?_, ?_, ?_, ?_⟩
    · rw [if_neg (by omega), if_neg (by omega), if_neg (by omega), if_neg (by omega), if_neg (by omega), if_pos (by simp)]
    · rw [if_neg (by omega), if_neg (by omega), if_neg (by omega), if_neg (by omega), if_pos (by simp)]
    · rw [if_neg (by omega), if_neg (by omega), if_neg (by omega), if_pos (by simp)]
    · rw [if_neg (by omega), if_pos (by simp)]
/-- a new node: its number (if they are not too many) -/
def ndI (F : List ND) (i : Nat) : Prop := i ≤ 16399 ∧ (F.length ≤ 16399 → i = F.length)
theorem c72o (xs : List Int32) (d : Nat) {m0 m : yM} {T t o : Nat} {F : List ND} (h : RCo m0 T t o F m) (k p v : Int32) (vt : Nat) : yC (xg xs) (d + 1) 72 [.ref 2, .int k, .int p, .int v] m (fun r m' => ∃ i, r = some (.int (nI i)) ∧ ndI F i ∧ RCo m0 T t o (F ++ [(k, p, v, vt, 1)]) m') := by
  obtain ⟨kd, g4, gT, g5, g68, g6, go, g3, z, z1, z2, z3⟩ := h
  refine yC.mono (Nat.le_refl _) ?_ (c72g xs d m k p v z z1 z2.1)
  rintro r m1 ⟨rfl, rfl⟩
  refine ⟨_, rfl, ⟨Nat.min_le_right _ _, fun hF => by have := (z3 (by omega)).1; omega⟩, kd.tr, ?_, gT, ?_, g68, ?_, go, ?_, TF.add z2 z3 k p v vt⟩
  · simp [trAdd_at, g4]
  · simp [trAdd_at, g5]
  · simp [trAdd_at, g6]
  · simp [trAdd_at, g3]
theorem c72e (xs : List Int32) (d : Nat) {m0 m : yM} {T : Nat} {c q : Int32} (h : RCe m0 T c q m) (k p v : Int32) : yC (xg xs) (d + 1) 72 [.ref 2, .int k, .int p, .int v] m (fun r m' => ∃ i, r = some (.int (nI i)) ∧ i ≤ 16399 ∧ RCe m0 T c q m') := by
  obtain ⟨kd, ⟨t, t1, t2⟩, hc, hs, z, z1, z2⟩ := h
  refine yC.mono (Nat.le_refl _) ?_ (c72g xs d m k p v z z1 z2)
  rintro r m1 ⟨rfl, rfl⟩
  have hm : min z 16399 ≤ 16399 := Nat.min_le_right _ _
  refine ⟨_, rfl, hm, kd.tr, ⟨t, t1, by simp [trAdd_at, t2]⟩, hc, ?_, min z 16399 + 1, by simp [trAdd_at], by omega⟩
  rcases hs with ⟨s1, s2, s3⟩ | ⟨s1, s2, s3, s4⟩
  · exact Or.inl ⟨by simp [trAdd_at, s1], by simp [trAdd_at, s2], by simp [trAdd_at, s3]⟩
  · exact Or.inr ⟨by simp [trAdd_at, s1], by simp [trAdd_at, s2], by simp [trAdd_at, s3], s4⟩
theorem RCe.at {m0 m : yM} {T : Nat} {c p : Int32} (hT : TKok m0 T) (h : RCe m0 T c p m) : ∃ t, t ≤ T ∧ m.1 17 4 = nI t ∧ x_in (m.1 17 4) 8193 = true := by
  obtain ⟨kd, ⟨t, t1, t2⟩, -⟩ := h
  have := hT.1
  exact ⟨t, t1, t2, by rw [t2]; exact x_in_nI (by omega) (by decide)⟩
theorem RCo.at {m0 m : yM} {T t o : Nat} {F : List ND} (hT : TKok m0 T) (h : RCo m0 T t o F m) : x_in (m.1 17 4) 8193 = true ∧ m.1 10 (m.1 17 4).toNatClampNeg = m0.1 10 t ∧ m.1 11 (m.1 17 4).toNatClampNeg = m0.1 11 t ∧ m.1 9 (m.1 17 4).toNatClampNeg = m0.1 9 t := by
  obtain ⟨kd, g4, gT, -⟩ := h
  have := hT.1
  rw [g4, nI_clamp (by omega), kd.1 10 (by decide), kd.1 11 (by decide), kd.1 9 (by decide)]
  exact ⟨x_in_nI (by omega) (by decide), rfl, rfl, rfl⟩
/-- addHere -/
theorem c75o (xs : List Int32) (d : Nat) {m0 m : yM} {T t o : Nat} {F : List ND} (hT : TKok m0 T) (h : RCo m0 T t o F m) (k v : Int32) (vt : Nat) : yC (xg xs) (d + 2) 75 [.ref 17, .int k, .int v] m (fun r m' => ∃ i, r = some (.int (nI i)) ∧ ndI F i ∧ RCo m0 T t o (F ++ [(k, m0.1 10 t, v, vt, 1)]) m') := by
  obtain ⟨a1, a2, -, -⟩ := h.at hT
  refine w75_0 xs (d + 1) _ _ m _ ⟨a1, ?_⟩
  rw [a2]
  refine yC.mono (Nat.le_refl _) ?_ (c72o xs d h k (m0.1 10 t) v vt)
  rintro r m1 ⟨i, rfl, q⟩
  exact ⟨_, rfl, i, rfl, q⟩
theorem c75e (xs : List Int32) (d : Nat) {m0 m : yM} {T : Nat} {c p : Int32} (hT : TKok m0 T) (h : RCe m0 T c p m) (k v : Int32) : yC (xg xs) (d + 2) 75 [.ref 17, .int k, .int v] m (fun r m' => ∃ i, r = some (.int (nI i)) ∧ i ≤ 16399 ∧ RCe m0 T c p m') := by
  obtain ⟨t, a1, a2, a3⟩ := h.at hT
  refine w75_0 xs (d + 1) _ _ m _ ⟨a3, ?_⟩
  refine yC.mono (Nat.le_refl _) ?_ (c72e xs d h k _ v)
  rintro r m1 ⟨i, rfl, q⟩
  exact ⟨_, rfl, i, rfl, q⟩
/-- finish: a node gets all that came since -/
theorem c85o (xs : List Int32) (d : Nat) {m0 m : yM} {T t o : Nat} {F G : List ND} {k p v : Int32} {vt s : Nat} (h : RCo m0 T t o (F ++ (k, p, v, vt, s) :: G) m) {i : Nat} (hi : ndI F i) : yC (xg xs) (d + 1) 85 [.ref 2, .int (nI i)] m (fun r m' => r = none ∧ RCo m0 T t o (F ++ (k, p, v, vt, G.length + 1) :: G) m') := by
  obtain ⟨kd, g4, gT, g5, g68, g6, go, g3, z, z1, z2, z3⟩ := h
  obtain ⟨i1, i2⟩ := hi
  refine w85_0 xs d _ m _ ?_
  rw [nI_clamp (by omega)]
  refine ⟨x_in_nI (by omega) (by decide), rfl, kd.si (by omega), ?_, gT, ?_, g68, ?_, go, ?_, z, ?_, ⟨z2.1, fun i hi => by rw [y_si_at, if_neg (by omega)]; exact z2.2 i hi⟩, fun hF => ?_⟩
  · rw [y_si_at, if_neg (by omega)]; exact g4
  · rw [y_si_at, if_neg (by omega)]; exact g5
  · rw [y_si_at, if_neg (by omega)]; exact g6
  · rw [y_si_at, if_neg (by omega)]; exact g3
  · rw [y_si_at, if_neg (by omega)]; exact z1
  · simp only [List.length_append, List.length_cons] at hF
    obtain ⟨e1, e2⟩ := z3 (by simp only [List.length_append, List.length_cons]; exact hF)
    have ei := i2 (by omega)
    subst ei
    simp only [List.length_append, List.length_cons] at e1 ⊢
    refine ⟨e1, fun j q hq => ?_⟩
    rw [y_si_at, if_neg (by omega), y_si_at, if_neg (by omega), y_si_at, if_neg (by omega), y_si_at]
    by_cases y : j = F.length
    · subst y
      rw [List.getElem?_append_right (Nat.le_refl _), Nat.sub_self] at hq
      simp only [List.getElem?_cons_zero, Option.some.injEq] at hq
      subst hq
      obtain ⟨q1, q2, q3, q4⟩ := e2 F.length (k, p, v, vt, s) (by rw [List.getElem?_append_right (Nat.le_refl _), Nat.sub_self]; rfl)
      refine ⟨q1, q2, q3, ?_⟩
      rw [if_pos ⟨rfl, rfl⟩, z1, e1]
    · have hq2 : (F ++ (k, p, v, vt, s) :: G)[j]? = some q := by
        rcases Nat.lt_or_ge j F.length with u | u
        · rw [List.getElem?_append_left u] at hq ⊢; exact hq
        · rw [List.getElem?_append_right u] at hq ⊢
          obtain ⟨w, hw⟩ : ∃ w, j - F.length = w + 1 := ⟨j - F.length - 1, by omega⟩
          rw [hw, List.getElem?_cons_succ] at hq ⊢
          exact hq
      rw [if_neg (fun u => y u.2)]
      exact e2 j q hq2
theorem c85e (xs : List Int32) (d : Nat) {m0 m : yM} {T : Nat} {c p : Int32} (h : RCe m0 T c p m) {i : Nat} (hi : i ≤ 16399) : yC (xg xs) (d + 1) 85 [.ref 2, .int (nI i)] m (fun r m' => r = none ∧ RCe m0 T c p m') := by
  obtain ⟨kd, ⟨t, t1, t2⟩, hc, hs, z, z1, z2⟩ := h
  refine w85_0 xs d _ m _ ?_
  rw [nI_clamp (by omega)]
  have o : ∀ a b, a ≠ 7 → (y_si m 7 i (m.1 2 5)).1 a b = m.1 a b := fun a b ha => by rw [y_si_at, if_neg (fun u => ha u.1)]
  refine ⟨x_in_nI (by omega) (by decide), rfl, kd.si (by omega), ⟨t, t1, by rw [o _ _ (by decide)]; exact t2⟩, hc, ?_, z, by rw [o _ _ (by decide)]; exact z1, z2⟩
  rw [o 17 5 (by decide), o 17 3 (by decide), o 17 0 (by decide), o 17 4 (by decide)]
  exact hs
/-- the node that was added, its nodes behind it, then finish -/
theorem c85n (xs : List Int32) (d : Nat) {m0 m : yM} {T t o : Nat} {F : List ND} {k p v : Int32} {vt : Nat} {body : Nat → Nat → PX} (h : RC m0 T (p_bind (.inl (t, o, F ++ [(k, p, v, vt, 1)])) body) m) {i : Nat} (hi : ndI F i) : yC (xg xs) (d + 1) 85 [.ref 2, .int (nI i)] m (fun r m' => r = none ∧ RC m0 T (p_bind (.inl (t, o, F)) (fun t o => p_node k p v vt (body t o))) m') := by
  unfold p_bind at h ⊢
  dsimp only at h ⊢
  rcases hb : body t o with ⟨t', o', G⟩ | e
  · rw [hb] at h
    dsimp only [p_node] at h ⊢
    have h1 : RCo m0 T t' o' (F ++ (k, p, v, vt, 1) :: G) m := by
      have h2 : RCo m0 T t' o' (F ++ [(k, p, v, vt, 1)] ++ G) m := h
      rw [List.append_assoc] at h2
      exact h2
    exact c85o xs d h1 hi
  · rw [hb] at h
    dsimp only [p_node] at h ⊢
    exact c85e xs d h hi.1
