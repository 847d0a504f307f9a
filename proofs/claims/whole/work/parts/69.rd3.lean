/-! THE READER: leaves, types, constants -/
theorem p_bind_i (t o : Nat) (F : List ND) (k : Nat → Nat → PX) : p_bind (.inl (t, o, F)) k = match k t o with | .inr e => .inr e | .inl (t', o', G') => .inl (t', o', F ++ G') := rfl
/-- a node, then step -/
theorem nd_step (xs : List Int32) (d : Nat) {m0 m : yM} {T t o : Nat} {F : List ND} (hT : TKok m0 T) {k p v : Int32} {vt : Nat} (h : RCo m0 T t o (F ++ [(k, p, v, vt, 1)]) m) (ht : t < T) : yC (xg xs) (d + 1) 76 [.ref 17] m (fun r m' => r = none ∧ RC m0 T (p_bind (.inl (t, o, F)) (fun t o => p_node k p v vt (p_step m0 t o))) m') := by
  refine yC.mono (Nat.le_refl _) ?_ (c76 xs d hT h ht)
  rintro r m1 ⟨rfl, q⟩
  refine ⟨rfl, ?_⟩
  have e : p_bind (.inl (t, o, F ++ [(k, p, v, vt, 1)])) (p_step m0) = p_bind (.inl (t, o, F)) (fun t o => p_node k p v vt (p_step m0 t o)) := by
    rw [p_bind_i, p_bind_i]
    by_cases hb : m0.1 9 (t + 1) = 68
    · simp [p_step, hb, p_node]
    · simp [p_step, hb, p_node]
  rw [← e]
  exact q
theorem c82 (xs : List Int32) (d : Nat) {m0 m : yM} {T : Nat} {X : PX} (hT : TKok m0 T) (h : RC m0 T X m) (tok k v : Int32) (vt : Nat) (hk : gk tok) : yC (xg xs) (d + 2) 82 [.ref 17, .int tok, .int k, .int v] m (fun r m' => r = none ∧ RC m0 T (p_bind X (p_leaf m0 tok k v vt)) m') := by
  rcases X with ⟨t, o, F⟩ | ⟨c, p⟩
  · have h1 : RCo m0 T t o F m := h
    obtain ⟨a1, a2, -, -⟩ := h1.at hT
    refine w82_0 xs (d + 1) _ _ _ m _ ⟨fun z => ?_, fun z => ⟨a1, ?_⟩⟩
    · have z2 : ¬ m0.1 9 t = tok := fun y => z (h1.now.trans y)
      have e : p_bind (.inl (t, o, F)) (p_leaf m0 tok k v vt) = p_ref m0 6 t := by simp [p_bind, p_leaf, z2, p_ref]
      rw [e]
      exact yC.mono (by omega) (fun r m1 q => ⟨q.1, rfl, q.2⟩) (c78o xs d hT h1 6 (by decide))
    · have z2 : m0.1 9 t = tok := h1.now.symm.trans z
      rw [a2]
      refine yC.mono (by omega) ?_ (c72o xs d h1 k (m0.1 10 t) v vt)
      rintro r m1 ⟨i, rfl, -, q⟩
      refine ⟨_, rfl, ?_⟩
      have e : p_bind (.inl (t, o, F)) (p_leaf m0 tok k v vt) = p_bind (.inl (t, o, F)) (fun t o => p_node k (m0.1 10 t) v vt (p_step m0 t o)) := by
        rw [p_bind_i, p_bind_i]
        unfold p_leaf
        rw [if_pos z2]
      rw [e]
      refine yC.mono (by omega) (fun r m1 q => ⟨q.1, rfl, ?_⟩) (nd_step xs d hT q (h1.lt hT hk z2))
      have q2 := q.2
      rw [p_bind_i] at q2 ⊢
      exact q2
  · have h1 : RCe m0 T c p m := h
    obtain ⟨t, a1, a2, a3⟩ := h1.at hT
    refine w82_0 xs (d + 1) _ _ _ m _ ⟨fun _ => ?_, fun z => absurd z (h1.ne hk)⟩
    exact yC.mono (by omega) (fun r m1 q => ⟨q.1, rfl, q.2⟩) (c78e xs d hT h1 6)
/-- simpleType -/
def p_simple (m0 : yM) (t o : Nat) : PX := if m0.1 9 t < 11 ∨ 13 < m0.1 9 t then p_ref m0 6 t else p_node 8 (m0.1 10 t) (m0.1 9 t - 11) 0 (p_step m0 t o)
theorem gk_of {x : Int32} (h : ¬ 66 < x) : gk x := ⟨fun z => h (by rw [z]; decide), fun z => h (by rw [z]; decide), fun z => h (by rw [z]; decide)⟩
theorem c79 (xs : List Int32) (d : Nat) {m0 m : yM} {T : Nat} {X : PX} (hT : TKok m0 T) (h : RC m0 T X m) : yC (xg xs) (d + 2) 79 [.ref 17] m (fun r m' => r = none ∧ RC m0 T (p_bind X (p_simple m0)) m') := by
  rcases X with ⟨t, o, F⟩ | ⟨c, p⟩
  · have h1 : RCo m0 T t o F m := h
    obtain ⟨a1, a2, -, -⟩ := h1.at hT
    have bad : (m0.1 9 t < 11 ∨ 13 < m0.1 9 t) → yP (xg xs) (d + 1 + 1) 79 54 [(0, .ref 17)] [] m (fun r m' => r = none ∧ RC m0 T (p_bind (.inl (t, o, F)) (p_simple m0)) m') := by
      intro z
      have e : p_bind (.inl (t, o, F)) (p_simple m0) = p_ref m0 6 t := by
        rw [p_bind_i]
        unfold p_simple
        rw [if_pos z]
        rfl
      rw [e]
      exact w79_54 xs (d + 1) m _ (yC.mono (by omega) (fun r m1 q => ⟨q.1, rfl, q.2⟩) (c78o xs d hT h1 6 (by decide)))
    refine w79_0 xs (d + 1) m _ ?_
    rw [h1.now]
    refine ⟨fun z => bad (Or.inl z), fun z => ⟨fun y => bad (Or.inr y), fun y => ⟨a1, ?_⟩⟩⟩
    rw [a2]
    refine yC.mono (by omega) ?_ (c72o xs d h1 8 (m0.1 10 t) (m0.1 9 t - 11) 0)
    rintro r m1 ⟨i, rfl, -, q⟩
    refine ⟨_, rfl, ?_⟩
    have e : p_bind (.inl (t, o, F)) (p_simple m0) = p_bind (.inl (t, o, F)) (fun t o => p_node 8 (m0.1 10 t) (m0.1 9 t - 11) 0 (p_step m0 t o)) := by
      rw [p_bind_i, p_bind_i]
      unfold p_simple
      rw [if_neg (fun u => u.elim z y)]
    rw [e]
    have hk : gk (m0.1 9 t) := gk_of (fun u => y (by have := Int32.lt_iff_toInt_lt.mp u; rw [Int32.lt_iff_toInt_lt]; have e1 : (66 : Int32).toInt = 66 := rfl; have e2 : (13 : Int32).toInt = 13 := rfl; omega))
    refine yC.mono (by omega) (fun r m1 q => ⟨q.1, rfl, ?_⟩) (nd_step xs d hT q (h1.lt hT hk rfl))
    have q2 := q.2
    rw [p_bind_i] at q2 ⊢
    exact q2
  · have h1 : RCe m0 T c p m := h
    have bad : yP (xg xs) (d + 1 + 1) 79 54 [(0, .ref 17)] [] m (fun r m' => r = none ∧ RC m0 T (p_bind (.inr (c, p)) (p_simple m0)) m') := w79_54 xs (d + 1) m _ (yC.mono (by omega) (fun r m1 q => ⟨q.1, rfl, q.2⟩) (c78e xs d hT h1 6))
    refine w79_0 xs (d + 1) m _ ⟨fun _ => bad, fun _ => ⟨fun _ => bad, fun y => absurd ?_ y⟩⟩
    rcases h1.now with u | u <;> rw [u] <;> decide
/-- constant -/
def p_const (m0 : yM) (t o : Nat) : PX := if m0.1 9 t = 173 then p_bind (p_step m0 t o) (fun u o => if m0.1 9 u = 65 then p_node 30 (m0.1 10 t) (-1 * m0.1 11 u) 0 (p_step m0 u o) else p_ref m0 6 u) else if m0.1 9 t = 65 then p_node 30 (m0.1 10 t) (1 * m0.1 11 t) 0 (p_step m0 t o) else if m0.1 9 t = 35 ∨ m0.1 9 t = 36 then p_node 31 (m0.1 10 t) (if m0.1 9 t = 35 then 1 else 0) 0 (p_step m0 t o) else p_ref m0 6 t
theorem c84t (xs : List Int32) (d : Nat) {m0 m : yM} {T : Nat} (hT : TKok m0 T) {t o : Nat} {F : List ND} (h1 : RCo m0 T t o F m) (b : Nat) (hb : b ≤ T) : yP (xg xs) (d + 3) 84 29 [(0, .ref 17), (1, .int (-1)), (2, .int (nI b))] [] m (fun r m' => r = none ∧ RC m0 T (p_bind (.inl (t, o, F)) (fun u o => if m0.1 9 u = 65 then p_node 30 (m0.1 10 b) (-1 * m0.1 11 u) 0 (p_step m0 u o) else p_ref m0 6 u)) m') := by
  have hT1 := hT.1
  obtain ⟨a1, a2, a3, -⟩ := h1.at hT
  refine w84_29 xs (d + 2) _ _ m _ ⟨fun z => ⟨fun _ => ?_, fun y => absurd (by decide) y⟩, fun z => ?_⟩
  · have z2 : ¬ m0.1 9 t = 65 := fun y => z (h1.now.trans y)
    have e : p_bind (.inl (t, o, F)) (fun u o => if m0.1 9 u = 65 then p_node 30 (m0.1 10 b) (-1 * m0.1 11 u) 0 (p_step m0 u o) else p_ref m0 6 u) = p_ref m0 6 t := by
      rw [p_bind_i]
      (try dsimp only)
      rw [if_neg z2]
      rfl
    rw [e]
    exact w84_143 xs (d + 2) m _ (yC.mono (by omega) (fun r m1 q => ⟨q.1, rfl, q.2⟩) (c78o xs d hT h1 6 (by decide)))
  · have z2 : m0.1 9 t = 65 := h1.now.symm.trans z
    have e10 : m.1 10 = m0.1 10 := h1.1.1 10 (by decide)
    rw [a3, nI_clamp (by omega), e10]
    refine ⟨x_in_nI (by omega) (by decide), a1, ?_⟩
    refine yC.mono (by omega) ?_ (c72o xs d h1 30 (m0.1 10 b) (-1 * m0.1 11 t) 0)
    rintro r m1 ⟨i, rfl, -, q⟩
    refine ⟨_, rfl, ?_⟩
    refine yC.mono (by omega) (fun r m1 q => ⟨q.1, rfl, ?_⟩) (nd_step xs d hT q (h1.lt hT (k := 65) (by decide) z2))
    have q2 := q.2
    rw [p_bind_i] at q2 ⊢
    (try dsimp only at q2 ⊢)
    rw [if_pos z2]
    exact q2
theorem c84 (xs : List Int32) (d : Nat) {m0 m : yM} {T : Nat} {X : PX} (hT : TKok m0 T) (h : RC m0 T X m) : yC (xg xs) (d + 3) 84 [.ref 17] m (fun r m' => r = none ∧ RC m0 T (p_bind X (p_const m0)) m') := by
  have hT1 := hT.1
  rcases X with ⟨t, o, F⟩ | ⟨c, p⟩
  · have h1 : RCo m0 T t o F m := h
    have g4 := h1.2.1
    have gT := h1.2.2.1
    obtain ⟨a1, a2, a3, -⟩ := h1.at hT
    refine w84_0 xs (d + 2) m _ ⟨fun z => ?_, fun z => ?_⟩
    · have z2 : ¬ m0.1 9 t = 173 := fun y => z (h1.now.trans y)
      have e : p_bind (.inl (t, o, F)) (p_const m0) = p_bind (.inl (t, o, F)) (fun t o => if m0.1 9 t = 65 then p_node 30 (m0.1 10 t) (1 * m0.1 11 t) 0 (p_step m0 t o) else if m0.1 9 t = 35 ∨ m0.1 9 t = 36 then p_node 31 (m0.1 10 t) (if m0.1 9 t = 35 then 1 else 0) 0 (p_step m0 t o) else p_ref m0 6 t) := by
        rw [p_bind_i, p_bind_i]
        unfold p_const
        rw [if_neg z2]
      rw [e]
      refine w84_15 xs (d + 2) _ m _ ⟨fun _ => ?_, fun y => absurd (by decide) y⟩
      have ref : ¬ m0.1 9 t = 65 → ¬ (m0.1 9 t = 35 ∨ m0.1 9 t = 36) → yP (xg xs) (d + 2 + 1) 84 143 [(0, .ref 17)] [] m (fun r m' => r = none ∧ RC m0 T (p_bind (.inl (t, o, F)) (fun t o => if m0.1 9 t = 65 then p_node 30 (m0.1 10 t) (1 * m0.1 11 t) 0 (p_step m0 t o) else if m0.1 9 t = 35 ∨ m0.1 9 t = 36 then p_node 31 (m0.1 10 t) (if m0.1 9 t = 35 then 1 else 0) 0 (p_step m0 t o) else p_ref m0 6 t)) m') := by
        intro y1 y2
        rw [p_bind_i]
        (try dsimp only)
        rw [if_neg y1, if_neg y2]
        exact w84_143 xs (d + 2) m _ (yC.mono (by omega) (fun r m1 q => ⟨q.1, rfl, q.2⟩) (c78o xs d hT h1 6 (by decide)))
      have tru : (m0.1 9 t = 35 ∨ m0.1 9 t = 36) → yP (xg xs) (d + 2 + 1) 84 100 [(0, .ref 17)] [] m (fun r m' => r = none ∧ RC m0 T (p_bind (.inl (t, o, F)) (fun t o => if m0.1 9 t = 65 then p_node 30 (m0.1 10 t) (1 * m0.1 11 t) 0 (p_step m0 t o) else if m0.1 9 t = 35 ∨ m0.1 9 t = 36 then p_node 31 (m0.1 10 t) (if m0.1 9 t = 35 then 1 else 0) 0 (p_step m0 t o) else p_ref m0 6 t)) m') := by
        intro y1
        have n65 : ¬ m0.1 9 t = 65 := fun u => by rw [u] at y1; exact absurd y1 (by decide)
        have fin : ∀ v : Int32, v = (if m0.1 9 t = 35 then 1 else 0) → yP (xg xs) (d + 2 + 1) 84 132 [(0, .ref 17)] [.int v, .int (m0.1 10 t), .int (31 : Int32), .ref 2] m (fun r m' => r = none ∧ RC m0 T (p_bind (.inl (t, o, F)) (fun t o => if m0.1 9 t = 65 then p_node 30 (m0.1 10 t) (1 * m0.1 11 t) 0 (p_step m0 t o) else if m0.1 9 t = 35 ∨ m0.1 9 t = 36 then p_node 31 (m0.1 10 t) (if m0.1 9 t = 35 then 1 else 0) 0 (p_step m0 t o) else p_ref m0 6 t)) m') := by
          intro v hv
          refine w84_132 xs (d + 2) _ _ _ m _ ?_
          refine yC.mono (by omega) ?_ (c72o xs d h1 31 (m0.1 10 t) v 0)
          rintro r m1 ⟨i, rfl, -, q⟩
          refine ⟨_, rfl, ?_⟩
          have lt : t < T := y1.elim (fun u => h1.lt hT (k := 35) (by decide) u) (fun u => h1.lt hT (k := 36) (by decide) u)
          refine yC.mono (by omega) (fun r m1 q => ⟨q.1, rfl, ?_⟩) (nd_step xs d hT q lt)
          have q2 := q.2
          rw [p_bind_i] at q2 ⊢
          (try dsimp only at q2 ⊢)
          rw [if_neg n65, if_pos y1, ← hv]
          exact q2
        refine w84_100 xs (d + 2) m _ ⟨a1, ?_⟩
        rw [a2, h1.now]
        exact ⟨fun u => fin 0 (by rw [if_neg u]), fun u => fin 1 (by rw [if_pos u])⟩
      refine w84_29 xs (d + 2) _ _ m _ ?_
      rw [h1.now]
      refine ⟨fun y => ⟨fun u => absurd u (by decide), fun _ => ⟨fun u => tru (Or.inl u), fun u => ⟨fun v => ref y (fun w => w.elim u v), fun v => tru (Or.inr v)⟩⟩⟩, fun y => ?_⟩
      refine ⟨a1, a1, ?_⟩
      rw [a2, a3]
      refine yC.mono (by omega) ?_ (c72o xs d h1 30 (m0.1 10 t) (1 * m0.1 11 t) 0)
      rintro r m1 ⟨i, rfl, -, q⟩
      refine ⟨_, rfl, ?_⟩
      refine yC.mono (by omega) (fun r m1 q => ⟨q.1, rfl, ?_⟩) (nd_step xs d hT q (h1.lt hT (k := 65) (by decide) y))
      have q2 := q.2
      rw [p_bind_i] at q2 ⊢
      (try dsimp only at q2 ⊢)
      rw [if_pos y]
      exact q2
    · have z2 : m0.1 9 t = 173 := h1.now.symm.trans z
      refine w84_15 xs (d + 2) _ m _ ⟨fun y => absurd y (by decide), fun _ => ?_⟩
      refine yC.mono (by omega) ?_ (c76 xs d hT h1 (h1.lt hT (k := 173) (by decide) z2))
      rintro r m1 ⟨rfl, q⟩
      refine ⟨rfl, ?_⟩
      have e : p_bind (.inl (t, o, F)) (p_const m0) = p_bind (p_bind (.inl (t, o, F)) (p_step m0)) (fun u o => if m0.1 9 u = 65 then p_node 30 (m0.1 10 t) (-1 * m0.1 11 u) 0 (p_step m0 u o) else p_ref m0 6 u) := by
        rw [p_bind_a, p_bind_i, p_bind_i]
        unfold p_const
        rw [if_pos z2]
      rw [e, g4]
      rcases hX : p_bind (.inl (t, o, F)) (p_step m0) with ⟨t1, o1, F1⟩ | ⟨c, p⟩
      · rw [hX] at q
        exact c84t xs d hT q t gT
      · rw [hX] at q
        have q1 : RCe m0 T c p m1 := q
        refine w84_29 xs (d + 2) _ _ m1 _ ⟨fun _ => ⟨fun _ => ?_, fun y => absurd (by decide) y⟩, fun y => absurd y (q1.ne (by decide))⟩
        exact w84_143 xs (d + 2) m1 _ (yC.mono (by omega) (fun r m1 q => ⟨q.1, rfl, q.2⟩) (c78e xs d hT q1 6))
  · have h1 : RCe m0 T c p m := h
    have bad : ∀ l1 : Int32, yP (xg xs) (d + 2 + 1) 84 143 [(0, .ref 17)] [] m (fun r m' => r = none ∧ RC m0 T (p_bind (.inr (c, p)) (p_const m0)) m') := fun _ => w84_143 xs (d + 2) m _ (yC.mono (by omega) (fun r m1 q => ⟨q.1, rfl, q.2⟩) (c78e xs d hT h1 6))
    refine w84_0 xs (d + 2) m _ ⟨fun _ => ?_, fun y => absurd y (h1.ne (by decide))⟩
    refine w84_15 xs (d + 2) _ m _ ⟨fun _ => ?_, fun y => absurd (by decide) y⟩
    refine w84_29 xs (d + 2) _ _ m _ ⟨fun _ => ⟨fun _ => bad 0, fun _ => ⟨fun u => absurd u (h1.ne (by decide)), fun _ => ⟨fun _ => bad 0, fun u => absurd u (h1.ne (by decide))⟩⟩⟩, fun u => absurd u (h1.ne (by decide))⟩
