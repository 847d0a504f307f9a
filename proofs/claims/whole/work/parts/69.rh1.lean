/-! THE READER: ladders of the class -/
def wyC (k : Int32) : Int32 := if k = 175 then 1 else if k = 171 then 2 else if k = 173 then 3 else 0
def wyK (k : Int32) : Int32 := if k = 175 then 1 else if k = 190 then 2 else if k = 188 then 3 else 0
abbrev stL (k : Int32) : Prop := k = 64 ∨ k = 175 ∨ k = 190 ∨ k = 188 ∨ k = 173 ∨ k = 170 ∨ k = 168
theorem c89 (xs : List Int32) (d : Nat) (m : yM) : yC (xg xs) (d + 1) 89 [.ref 17] m (fun r m' => r = some (.int (wyC (m.1 17 5))) ∧ m' = m) := by
  refine w89_0 xs d m _ ?_
  unfold wyC
  generalize m.1 17 5 = k
  refine ⟨fun h1 => ⟨fun h2 => ⟨fun h3 => ⟨?_, rfl⟩, fun h3 => ⟨?_, rfl⟩⟩, fun h2 => ⟨?_, rfl⟩⟩, fun h1 => ⟨?_, rfl⟩⟩
  · rw [if_neg h1, if_neg h2, if_neg h3]
  · rw [if_neg h1, if_neg h2, if_pos h3]
  · rw [if_neg h1, if_pos h2]
  · rw [if_pos h1]
theorem c90 (xs : List Int32) (d : Nat) (m : yM) : yC (xg xs) (d + 1) 90 [.ref 17] m (fun r m' => r = some (.int (wyK (m.1 17 5))) ∧ m' = m) := by
  refine w90_0 xs d m _ ?_
  unfold wyK
  generalize m.1 17 5 = k
  refine ⟨fun h1 => ⟨fun h2 => ⟨fun h3 => ⟨?_, rfl⟩, fun h3 => ⟨?_, rfl⟩⟩, fun h2 => ⟨?_, rfl⟩⟩, fun h1 => ⟨?_, rfl⟩⟩
  · rw [if_neg h1, if_neg h2, if_neg h3]
  · rw [if_neg h1, if_neg h2, if_pos h3]
  · rw [if_neg h1, if_pos h2]
  · rw [if_pos h1]
theorem c92 (xs : List Int32) (d : Nat) (m : yM) : yC (xg xs) (d + 1) 92 [.ref 17] m (fun r m' => r = some (.int (if stL (m.1 17 5) then 1 else 0)) ∧ m' = m) := by
  refine w92_0 xs d m _ ?_
  generalize m.1 17 5 = k
  refine ⟨fun h => ⟨?_, rfl⟩, fun h1 => ⟨fun h => ⟨?_, rfl⟩, fun h2 => ⟨fun h => ⟨?_, rfl⟩, fun h3 => ⟨fun h => ⟨?_, rfl⟩, fun h4 => ⟨fun h => ⟨?_, rfl⟩, fun h5 => ⟨fun h => ⟨?_, rfl⟩, fun h6 => ⟨fun h => ⟨?_, rfl⟩, fun h => ⟨?_, rfl⟩⟩⟩⟩⟩⟩⟩⟩
  all_goals first | (simp [stL, h]; done) | (simp [stL, h, h1, h2, h3, h4, h5, h6]; done)
theorem RCe.nl {m0 m : yM} {T : Nat} {c p : Int32} (h : RCe m0 T c p m) : ¬ stL (m.1 17 5) := by
  rcases h.now with y | y <;> rw [y] <;> decide
theorem stL_gk {k : Int32} (h : stL k) : gk k := by
  rcases h with h | h | h | h | h | h | h <;> rw [h] <;> decide
theorem wyC_gk {k : Int32} (h : ¬ wyC k = 0) : gk k := by
  unfold wyC at h
  by_cases h1 : k = 175
  · rw [h1]; decide
  · by_cases h2 : k = 171
    · rw [h2]; decide
    · by_cases h3 : k = 173
      · rw [h3]; decide
      · rw [if_neg h1, if_neg h2, if_neg h3] at h; exact absurd rfl h
theorem wyK_gk {k : Int32} (h : ¬ wyK k = 0) : gk k := by
  unfold wyK at h
  by_cases h1 : k = 175
  · rw [h1]; decide
  · by_cases h2 : k = 190
    · rw [h2]; decide
    · by_cases h3 : k = 188
      · rw [h3]; decide
      · rw [if_neg h1, if_neg h2, if_neg h3] at h; exact absurd rfl h
def p_nm (m0 : yM) (t o : Nat) : PX := p_leaf m0 64 6 (m0.1 11 t) (t + 1) t o
def p_out (m0 : yM) (t o : Nat) : PX := if m0.1 9 t = 64 ∧ m0.1 9 (t + 1) = 174 then p_node 33 (m0.1 10 t) (m0.1 11 t) (t + 1) (p_bind (p_bind (p_step m0 t o) (p_step m0)) (p_nm m0)) else p_nm m0 t o
def p_wst (m0 : yM) (w : Int32) (t o : Nat) : PX := if w = 0 then .inl (t, o, []) else p_step m0 t o
def p_cell (m0 : yM) (t o : Nat) : PX := if m0.1 9 t = 173 then p_leaf m0 173 26 0 0 t o else if m0.1 9 t = 170 then p_leaf m0 170 27 0 0 t o else if m0.1 9 t = 168 then (match p_step m0 t o with
    | .inr e => .inr e
    | .inl (u, o1, _) => p_node 28 (m0.1 10 t) (wyC (m0.1 9 u)) 0 (p_bind (p_bind (p_wst m0 (wyC (m0.1 9 u)) u o1) (p_nm m0)) (p_exp m0 169)))
  else p_node 25 (m0.1 10 t) (wyK (m0.1 9 t)) 0 (p_bind (p_wst m0 (wyK (m0.1 9 t)) t o) (p_out m0))
/-- finish, at a place that was the size -/
theorem c85l (xs : List Int32) (d : Nat) {m0 m : yM} {T t o : Nat} {F G : List ND} {k p v : Int32} {vt s : Nat} (h : RCo m0 T t o (F ++ (k, p, v, vt, s) :: G) m) {i : Nat} (hi : lfI F i) : yC (xg xs) (d + 1) 85 [.ref 2, .int (nI i)] m (fun r m' => r = none ∧ RCo m0 T t o (F ++ (k, p, v, vt, G.length + 1) :: G) m') := by
  obtain ⟨kd, g4, gT, g5, g68, g6, go, g3, z, z1, z2, z3⟩ := h
  obtain ⟨i1, i2⟩ := hi
  have o7 : ∀ a b, a ≠ 7 → (y_si m 7 i (m.1 2 5)).1 a b = m.1 a b := fun a b ha => by rw [y_si_at, if_neg (fun u => ha u.1)]
  refine w85_0 xs d _ m _ ?_
  rw [nI_clamp (by omega)]
  refine ⟨x_in_nI (by omega) (by decide), rfl, kd.si (by omega), by rw [o7 _ _ (by decide)]; exact g4, gT, by rw [o7 _ _ (by decide)]; exact g5, g68, by rw [o7 _ _ (by decide)]; exact g6, go, by rw [o7 _ _ (by decide)]; exact g3, z, by rw [o7 _ _ (by decide)]; exact z1, ⟨z2.1, fun i hi => by rw [o7 _ _ (by decide)]; exact z2.2 i hi⟩, fun hF => ?_⟩
  simp only [List.length_append, List.length_cons] at hF
  obtain ⟨e1, e2⟩ := z3 (by simp only [List.length_append, List.length_cons]; exact hF)
  have ei := i2 (by omega)
  subst ei
  simp only [List.length_append, List.length_cons] at e1 ⊢
  refine ⟨e1, fun j q hq => ?_⟩
  rw [o7 3 j (by decide), o7 4 j (by decide), o7 5 j (by decide), y_si_at]
  by_cases y : j = F.length
  · subst y
    rw [getE_at] at hq
    simp only [Option.some.injEq] at hq
    subst hq
    obtain ⟨q1, q2, q3, q4⟩ := e2 F.length _ getE_at
    refine ⟨q1, q2, q3, ?_⟩
    rw [if_pos ⟨rfl, rfl⟩, z1, e1]
  · rw [getE_mid (y := (k, p, v, vt, s)) y] at hq
    obtain ⟨q1, q2, q3, q4⟩ := e2 j q hq
    rw [if_neg (fun u => y u.2)]
    exact ⟨q1, q2, q3, q4⟩
theorem c85x (xs : List Int32) (d : Nat) {m0 m : yM} {T : Nat} {c p : Int32} (h : RCe m0 T c p m) {i : Nat} (hi : i ≤ 16400) : yC (xg xs) (d + 1) 85 [.ref 2, .int (nI i)] m (fun r m' => r = none ∧ RC m0 T (.inr (c, p)) m') := by
  refine w85_0 xs d _ m _ ?_
  rw [nI_clamp (by omega)]
  exact ⟨x_in_nI (by omega) (by decide), rfl, h.tr _ (by omega)⟩
theorem c85q (xs : List Int32) (d : Nat) {m0 m : yM} {T : Nat} {F : List ND} {k p v : Int32} {vt : Nat} {r : PX} (h : RC m0 T (aft (F ++ [(k, p, v, vt, 1)]) r) m) {i : Nat} (hi : lfI F i) : yC (xg xs) (d + 1) 85 [.ref 2, .int (nI i)] m (fun r' m' => r' = none ∧ RC m0 T (aft F (p_node k p v vt r)) m') := by
  rcases r with ⟨t, o, G⟩ | ⟨c, q⟩
  · have h1 : RCo m0 T t o (F ++ [(k, p, v, vt, 1)] ++ G) m := h
    rw [List.append_assoc] at h1
    exact c85l xs d h1 hi
  · exact c85x xs d h hi.1
theorem RCo.sz {m0 m : yM} {T t o : Nat} {F : List ND} (h : RCo m0 T t o F m) : ∃ z, m.1 2 5 = nI z ∧ lfI F z := by
  obtain ⟨kd, g4, gT, g5, g68, g6, go, g3, z, z1, z2, z3⟩ := h
  exact ⟨z, z1, z2.1, fun hF => (z3 hF).1⟩
/-- from the name on: a name, or an output -/
theorem c88n (xs : List Int32) (d : Nat) {m0 m : yM} {T : Nat} {F : List ND} {X : PX} (hT : TKok m0 T) (h : RC m0 T (aft F X) m) (l1 l2 : Int32) (Q : Option Value → yM → Prop) (K : ∀ m', RC m0 T (aft F (p_bind X (if l1 = 0 then p_out m0 else p_nm m0))) m' → yP (xg xs) (d + 4) 88 227 [(0, .ref 17), (1, .int l1), (2, .int l2)] [] m' Q) : yP (xg xs) (d + 4) 88 122 [(0, .ref 17), (1, .int l1), (2, .int l2)] [] m Q := by
  -- a plain name
  have e193 : (if l1 = 0 then p_bind X (p_out m0) = p_bind X (p_nm m0) else True) → ∀ l5, yP (xg xs) (d + 3 + 1) 88 193 [(0, .ref 17), (1, .int l1), (2, .int l2), (4, .int 0), (5, .int l5)] [] m Q := by
    intro he l5
    refine w88_193 xs (d + 3) _ _ _ _ m _ ⟨h.x4 hT, ?_⟩
    refine y_nx (c82v xs d hT h 64 6 (fun t => t + 1) (by decide)) (by omega) (fun m1 q1 => ?_)
    refine ⟨fun _ => K m1 ?_, fun z => absurd rfl z⟩
    rw [p_bind_F] at q1
    by_cases z : l1 = 0
    · rw [if_pos z] at he ⊢
      rw [he]
      exact q1
    · rw [if_neg z]
      exact q1
  have e149 : (if l1 = 0 then p_bind X (p_out m0) = p_bind X (p_nm m0) else True) → yP (xg xs) (d + 3 + 1) 88 149 [(0, .ref 17), (1, .int l1), (2, .int l2)] [] m Q := by
    intro he
    refine w88_149 xs (d + 3) _ _ m _ ?_
    exact w88_150 xs (d + 3) _ _ _ m _ ⟨fun _ => e193 he _, fun z => absurd rfl z⟩
  refine w88_122 xs (d + 3) _ _ m _ ⟨fun z => e149 (by rw [if_neg z]; trivial), fun z => ⟨fun y => e149 ?_, fun y => ?_⟩⟩
  · rw [if_pos z]
    rcases X with ⟨t, o, G⟩ | e
    · have h1 : RCo m0 T t o (F ++ G) m := h
      have y2 : ¬ m0.1 9 t = 64 := fun u => y (h1.now.trans u)
      rw [p_bind_aft, p_bind_aft]
      unfold p_out
      rw [if_neg (fun u => y2 u.1)]
    · rfl
  · rcases X with ⟨t, o, G⟩ | ⟨c, p⟩
    · have h1 : RCo m0 T t o (F ++ G) m := h
      have y2 : m0.1 9 t = 64 := h1.now.symm.trans y
      have lt := h1.lt hT (by decide) y2
      refine y_ci (c91 xs d hT h1 lt) (by omega) ?_
      refine ⟨fun w => e149 ?_, fun w => ?_⟩
      · rw [if_pos z, p_bind_aft, p_bind_aft]
        unfold p_out
        rw [if_neg (fun u => w u.2)]
      · obtain ⟨sz, sz1, sz2⟩ := h1.sz
        refine w88_150 xs (d + 3) _ _ _ m _ ⟨fun u => absurd u (by decide), fun _ => ⟨h.x4 hT, ?_⟩⟩
        rw [(h1.at hT).2.2.1, sz1]
        refine y_ex (c75o xs d hT h1 33 (m0.1 11 t) (t + 1)) (by omega) (fun i m1 q1 => ?_)
        obtain ⟨hi, q1⟩ := q1
        refine y_nx (c76 xs d hT q1 lt) (by omega) (fun m2 q2 => ?_)
        have st : p_step m0 t o = .inl (t + 1, o, []) := by unfold p_step; rw [if_neg (fun y => absurd (w.symm.trans y) (by decide))]
        rw [p_bind_aft, st] at q2
        have q2 : RCo m0 T (t + 1) o (F ++ G ++ [(33, m0.1 10 t, m0.1 11 t, t + 1, 1)] ++ []) m2 := q2
        rw [List.append_nil] at q2
        refine y_nx (c76 xs d hT q2 (q2.lt hT (k := 174) (by decide) w)) (by omega) (fun m3 q3 => ?_)
        rw [p_bind_aft] at q3
        refine w88_193 xs (d + 3) _ _ _ _ m3 _ ⟨q3.x4 hT, ?_⟩
        refine y_nx (c82v xs d hT q3 64 6 (fun t => t + 1) (by decide)) (by omega) (fun m4 q4 => ?_)
        refine ⟨fun u => absurd u (by decide), fun _ => ?_⟩
        rw [p_bind_F] at q4
        refine y_nx (c85q xs d q4 sz2) (by omega) (fun m5 q5 => K m5 ?_)
        rw [if_pos z, p_bind_aft]
        unfold p_out
        rw [if_pos ⟨y2, w⟩, st, p_bind_aft (t + 1) o [] (p_step m0), aft_nil, aft_aft]
        exact q5
    · exact absurd y (RCe.ne h (by decide))
theorem c88e (xs : List Int32) (d : Nat) {m0 m : yM} {T : Nat} {c p : Int32} (hT : TKok m0 T) (h : RCe m0 T c p m) : yC (xg xs) (d + 4) 88 [.ref 17] m (fun r' m' => r' = none ∧ RC m0 T (.inr (c, p)) m') := by
  have w0 : wyK (m.1 17 5) = 0 := by rcases h.now with y | y <;> rw [y] <;> decide
  refine w88_0 xs (d + 3) m _ ⟨fun z => absurd z (h.ne (by decide)), fun _ => ⟨fun _ => ⟨fun _ => ?_, fun z => absurd z (h.ne (by decide))⟩, fun z => absurd z (h.ne (by decide))⟩⟩
  refine w88_62 xs (d + 3) _ m _ ⟨fun _ => ?_, fun z => absurd rfl z⟩
  refine w88_75 xs (d + 3) _ _ m _ ?_
  refine y_ex (c75e xs d hT h 25 0) (by omega) (fun i m1 q1 => ?_)
  obtain ⟨hi, q1⟩ := q1
  refine ⟨fun _ => ?_, fun z => absurd rfl z⟩
  refine w88_88 xs (d + 3) _ _ m1 _ ⟨fun _ => ?_, fun z => absurd rfl z⟩
  have w1 : wyK (m1.1 17 5) = 0 := by rcases q1.now with y | y <;> rw [y] <;> decide
  refine y_ci (c90 xs d m1) (by omega) ?_
  rw [w1]
  refine w88_103 xs (d + 3) _ _ _ m1 _ ⟨x_in_nI (by omega) (by decide), fun _ => ?_, fun z => absurd rfl z⟩
  rw [nI_clamp (by omega)]
  have q2 : RC m0 T (aft [] (.inr (c, p))) (y_si m1 5 i 0) := q1.tr _ (by omega)
  refine c88n xs d hT q2 _ _ _ (fun m2 q3 => ?_)
  have q3 : RCe m0 T c p m2 := q3
  refine w88_227 xs (d + 3) _ _ m2 _ ⟨fun _ => ?_, fun z => absurd rfl z⟩
  refine w88_238 xs (d + 3) _ m2 _ ?_
  exact y_fin (c85e xs d q3 hi) (by omega)
theorem c88 (xs : List Int32) (d : Nat) {m0 m : yM} {T : Nat} {X : PX} (hT : TKok m0 T) (hX : RC m0 T X m) : yC (xg xs) (d + 4) 88 [.ref 17] m (fun r' m' => r' = none ∧ RC m0 T (p_bind X (p_cell m0)) m') := by
  rcases X with ⟨t, o, F⟩ | ⟨c, p⟩
  · have h : RCo m0 T t o F m := hX
    rw [p_bind_aft]
    unfold p_cell
    refine w88_0 xs (d + 3) m _ ?_
    rw [h.now]
    refine ⟨fun z => ?_, fun n1 => ⟨fun n2 => ⟨fun n3 => ?_, fun z => ?_⟩, fun z => ?_⟩⟩
    · rw [if_pos z]
      refine w88_20 xs (d + 3) m _ ⟨fun y => absurd (h.now.trans z) y, fun _ => ?_⟩
      rw [h.now, z]
      refine w88_42 xs (d + 3) _ _ m _ ?_
      have q := c82 xs d hT (X := .inl (t, o, F)) h 173 26 0 0 (by decide)
      rw [p_bind_aft] at q
      exact y_fin q (by omega)
    · rw [if_neg n1, if_neg n2, if_neg n3]
      refine w88_62 xs (d + 3) _ m _ ⟨fun _ => ?_, fun z => absurd rfl z⟩
      refine w88_75 xs (d + 3) _ _ m _ ?_
      refine y_ex (c75o xs d hT h 25 0 0) (by omega) (fun i m1 q1 => ?_)
      obtain ⟨hi, q1⟩ := q1
      have hi1 := hi.1
      refine ⟨fun _ => ?_, fun z => absurd rfl z⟩
      refine w88_88 xs (d + 3) _ _ m1 _ ⟨fun _ => ?_, fun z => absurd rfl z⟩
      refine y_ci (c90 xs d m1) (by omega) ?_
      rw [q1.now]
      have q2 := q1.vl hi (wyK (m0.1 9 t)) 0
      have fin : ∀ m', RC m0 T (aft (F ++ [(25, m0.1 10 t, wyK (m0.1 9 t), 0, 1)]) (p_bind (p_wst m0 (wyK (m0.1 9 t)) t o) (p_out m0))) m' → yP (xg xs) (d + 3 + 1) 88 227 [(0, .ref 17), (1, .int 0), (2, .int (nI i))] [] m' (fun r' m' => r' = none ∧ RC m0 T (aft F (p_node 25 (m0.1 10 t) (wyK (m0.1 9 t)) 0 (p_bind (p_wst m0 (wyK (m0.1 9 t)) t o) (p_out m0)))) m') := by
        intro m' q
        refine w88_227 xs (d + 3) _ _ m' _ ⟨fun _ => ?_, fun z => absurd rfl z⟩
        refine w88_238 xs (d + 3) _ m' _ ?_
        exact y_fin (c85r xs d q hi) (by omega)
      refine w88_103 xs (d + 3) _ _ _ m1 _ ⟨x_in_nI (by omega) (by decide), fun w => ?_, fun w => ?_⟩
      · rw [nI_clamp (by omega)]
        refine c88n xs d hT (X := p_wst m0 (wyK (m0.1 9 t)) t o) (F := F ++ [(25, m0.1 10 t, wyK (m0.1 9 t), 0, 1)]) ?_ _ _ _ (fun m2 q3 => fin m2 q3)
        unfold p_wst
        rw [if_pos w]
        exact q2.nil
      · rw [nI_clamp (by omega)]
        refine y_nx (c76 xs d hT q2 (h.lt hT (wyK_gk w) rfl)) (by omega) (fun m2 q3 => ?_)
        refine c88n xs d hT (X := p_wst m0 (wyK (m0.1 9 t)) t o) (F := F ++ [(25, m0.1 10 t, wyK (m0.1 9 t), 0, 1)]) ?_ _ _ _ (fun m3 q4 => fin m3 q4)
        unfold p_wst
        rw [if_neg w]
        rw [p_bind_aft] at q3
        exact q3
    · rw [if_neg n1, if_neg n2, if_pos z]
      refine w88_62 xs (d + 3) _ m _ ⟨fun y => absurd y (by decide), fun _ => ?_⟩
      refine w88_75 xs (d + 3) _ _ m _ ?_
      refine y_ex (c75o xs d hT h 28 0 0) (by omega) (fun i m1 q1 => ?_)
      obtain ⟨hi, q1⟩ := q1
      have hi1 := hi.1
      refine ⟨fun y => absurd y (by decide), fun _ => ?_⟩
      refine y_nx (c76 xs d hT q1 (h.lt hT (by decide) z)) (by omega) (fun m2 q2 => ?_)
      refine w88_88 xs (d + 3) _ _ m2 _ ⟨fun y => absurd y (by decide), fun _ => ?_⟩
      refine y_ci (c89 xs d m2) (by omega) ?_
      rw [p_bind_aft] at q2
      rcases hs : p_step m0 t o with ⟨u, o1, G⟩ | ⟨c, p⟩
      · obtain ⟨j1, j2, j3⟩ := p_step_o hs
        subst j3
        rw [hs] at q2
        have q2 : RCo m0 T u o1 (F ++ [(28, m0.1 10 t, 0, 0, 1)] ++ []) m2 := q2
        rw [List.append_nil] at q2
        rw [q2.now]
        dsimp only
        have q3 := q2.vl hi (wyC (m0.1 9 u)) 0
        have fin : ∀ m', RC m0 T (aft (F ++ [(28, m0.1 10 t, wyC (m0.1 9 u), 0, 1)]) (p_bind (p_wst m0 (wyC (m0.1 9 u)) u o1) (p_nm m0))) m' → yP (xg xs) (d + 3 + 1) 88 227 [(0, .ref 17), (1, .int 1), (2, .int (nI i))] [] m' (fun r' m' => r' = none ∧ RC m0 T (aft F (p_node 28 (m0.1 10 t) (wyC (m0.1 9 u)) 0 (p_bind (p_bind (p_wst m0 (wyC (m0.1 9 u)) u o1) (p_nm m0)) (p_exp m0 169)))) m') := by
          intro m' q
          refine w88_227 xs (d + 3) _ _ m' _ ⟨fun y => absurd y (by decide), fun _ => ?_⟩
          refine y_nx (c77 xs d hT q 169 (by decide)) (by omega) (fun m3 q3 => ?_)
          rw [p_bind_F] at q3
          refine w88_238 xs (d + 3) _ m3 _ ?_
          exact y_fin (c85r xs d q3 hi) (by omega)
        refine w88_103 xs (d + 3) _ _ _ m2 _ ⟨x_in_nI (by omega) (by decide), fun w => ?_, fun w => ?_⟩
        · rw [nI_clamp (by omega)]
          refine c88n xs d hT (X := p_wst m0 (wyC (m0.1 9 u)) u o1) (F := F ++ [(28, m0.1 10 t, wyC (m0.1 9 u), 0, 1)]) ?_ _ _ _ (fun m3 q4 => fin m3 q4)
          unfold p_wst
          rw [if_pos w]
          exact q3.nil
        · rw [nI_clamp (by omega)]
          refine y_nx (c76 xs d hT q3 (q2.lt hT (wyC_gk w) rfl)) (by omega) (fun m3 q4 => ?_)
          refine c88n xs d hT (X := p_wst m0 (wyC (m0.1 9 u)) u o1) (F := F ++ [(28, m0.1 10 t, wyC (m0.1 9 u), 0, 1)]) ?_ _ _ _ (fun m4 q5 => fin m4 q5)
          unfold p_wst
          rw [if_neg w]
          rw [p_bind_aft] at q4
          exact q4
      · rw [hs] at q2
        have q2 : RCe m0 T c p m2 := q2
        have w1 : wyC (m2.1 17 5) = 0 := by rcases q2.now with y | y <;> rw [y] <;> decide
        rw [w1]
        refine w88_103 xs (d + 3) _ _ _ m2 _ ⟨x_in_nI (by omega) (by decide), fun _ => ?_, fun z => absurd rfl z⟩
        rw [nI_clamp (by omega)]
        have q3 : RC m0 T (aft [] (.inr (c, p))) (y_si m2 5 i 0) := q2.tr _ (by omega)
        refine c88n xs d hT q3 _ _ _ (fun m3 q4 => ?_)
        have q4 : RCe m0 T c p m3 := q4
        refine w88_227 xs (d + 3) _ _ m3 _ ⟨fun y => absurd y (by decide), fun _ => ?_⟩
        refine y_nx (c77 xs d hT (X := .inr (c, p)) q4 169 (by decide)) (by omega) (fun m4 q5 => ?_)
        refine w88_238 xs (d + 3) _ m4 _ ?_
        exact y_fin (c85e xs d q5 hi1) (by omega)
    · rw [if_neg n1, if_pos z]
      refine w88_20 xs (d + 3) m _ ⟨fun y => ?_, fun y => absurd (h.now.symm.trans y) n1⟩
      rw [h.now, z]
      refine w88_42 xs (d + 3) _ _ m _ ?_
      have q := c82 xs d hT (X := .inl (t, o, F)) h 170 27 0 0 (by decide)
      rw [p_bind_aft] at q
      exact y_fin q (by omega)
  · exact c88e xs d hT hX
