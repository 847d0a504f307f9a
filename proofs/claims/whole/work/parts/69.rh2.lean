/-! THE READER: rows, ladders of the class -/
theorem p_bind_u {y : PX} {f : Nat → Nat → PX} (h : ∀ t o G, y = .inl (t, o, G) → f t o = .inl (t, o, [])) : p_bind y f = y := by
  rcases y with ⟨t, o, G⟩ | e
  · rw [p_bind_aft, h t o G rfl]
    simp [aft]
  · rfl
def p_cells (m0 : yM) : Nat → Nat → Nat → PX
  | 0 => fun t o => .inl (t, o, [])
  | n + 1 => fun t o => if m0.1 9 t = 252 then p_bind (p_bind (p_node 29 (m0.1 10 t) 0 0 (p_step m0 t o)) (p_cell m0)) (p_cells m0 n) else if stL (m0.1 9 t) then p_bind (p_cell m0 t o) (p_cells m0 n) else .inl (t, o, [])
def p_row (m0 : yM) (t o : Nat) : PX := p_node 24 (m0.1 10 t) 0 0 (p_bind (p_bind (p_cell m0 t o) (p_cells m0 8192)) (p_exp m0 187))
theorem RC.nowA {m0 m : yM} {T : Nat} {P : List ND} {y : PX} (q : RC m0 T (aft P y) m) {t o : Nat} {G : List ND} (e : y = .inl (t, o, G)) : m.1 17 5 = m0.1 9 t := by
  subst e
  exact RCo.now (F := P ++ G) q
theorem c87e (xs : List Int32) (d : Nat) {m0 m : yM} {T : Nat} {c p : Int32} (hT : TKok m0 T) (h : RCe m0 T c p m) : yC (xg xs) (d + 5) 87 [.ref 17] m (fun r' m' => r' = none ∧ RC m0 T (.inr (c, p)) m') := by
  refine w87_0 xs (d + 4) m _ ?_
  refine y_ex (c75e xs d hT h 24 0) (by omega) (fun i m1 q1 => ?_)
  obtain ⟨hi, q1⟩ := q1
  refine y_nx (c88e xs d hT q1) (by omega) (fun m2 q2 => ?_)
  have q2 : RCe m0 T c p m2 := q2
  have e70 : yP (xg xs) (d + 4 + 1) 87 70 [(0, .ref 17), (1, .int (nI i))] [] m2 (fun r' m' => r' = none ∧ RC m0 T (.inr (c, p)) m') := by
    refine w87_70 xs (d + 4) _ m2 _ ?_
    refine y_nx (c77 xs d hT (X := .inr (c, p)) q2 187 (by decide)) (by omega) (fun m3 q3 => ?_)
    exact y_fin (c85e xs d q3 hi) (by omega)
  refine w87_14 xs (d + 4) _ _ m2 _ ⟨fun _ => e70, fun _ => ⟨fun z => absurd z (q2.ne (by decide)), fun _ => ?_⟩⟩
  refine y_ci (c92 xs d m2) (by omega) ?_
  rw [if_neg q2.nl]
  exact ⟨fun _ => e70, fun z => absurd rfl z⟩
theorem c87 (xs : List Int32) (d : Nat) {m0 m : yM} {T : Nat} {X : PX} (hT : TKok m0 T) (hX : RC m0 T X m) : yC (xg xs) (d + 5) 87 [.ref 17] m (fun r' m' => r' = none ∧ RC m0 T (p_bind X (p_row m0)) m') := by
  rcases X with ⟨t, o, F⟩ | ⟨c, p⟩
  · have h : RCo m0 T t o F m := hX
    rw [p_bind_aft]
    unfold p_row
    refine w87_0 xs (d + 4) m _ ?_
    refine y_ex (c75o xs d hT h 24 0 0) (by omega) (fun i m1 q1 => ?_)
    obtain ⟨hi, q1⟩ := q1
    refine y_nx (c88 xs d hT (X := .inl (t, o, F ++ [(24, m0.1 10 t, 0, 0, 1)])) q1) (by omega) (fun m2 q2 => ?_)
    rw [p_bind_aft] at q2
    have e70 : ∀ m', RC m0 T (aft (F ++ [(24, m0.1 10 t, 0, 0, 1)]) (p_bind (p_cell m0 t o) (p_cells m0 8192))) m' → yP (xg xs) (d + 4 + 1) 87 70 [(0, .ref 17), (1, .int (nI i))] [] m' (fun r' m' => r' = none ∧ RC m0 T (aft F (p_node 24 (m0.1 10 t) 0 0 (p_bind (p_bind (p_cell m0 t o) (p_cells m0 8192)) (p_exp m0 187)))) m') := by
      intro m' q
      refine w87_70 xs (d + 4) _ m' _ ?_
      refine y_nx (c77 xs d hT q 187 (by decide)) (by omega) (fun m3 q3 => ?_)
      rw [p_bind_F] at q3
      exact y_fin (c85r xs d q3 hi) (by omega)
    have lp : ∀ (n j : Nat) (y : PX) (m' : yM), j + n = 8192 → p_bind y (p_cells m0 n) = p_bind (p_cell m0 t o) (p_cells m0 8192) → RC m0 T (aft (F ++ [(24, m0.1 10 t, 0, 0, 1)]) y) m' → yP (xg xs) (d + 4 + 1) 87 14 [(0, .ref 17), (1, .int (nI i)), (2, .int (nI j))] [] m' (fun r' m' => r' = none ∧ RC m0 T (aft F (p_node 24 (m0.1 10 t) 0 0 (p_bind (p_bind (p_cell m0 t o) (p_cells m0 8192)) (p_exp m0 187)))) m') := by
      intro n
      induction n with
      | zero =>
        intro j y m' hj hy q
        have e0 : p_bind y (p_cells m0 0) = y := p_bind_0 y
        rw [e0] at hy
        exact w87_14 xs (d + 4) _ _ m' _ ⟨fun _ => e70 m' (hy ▸ q), fun z => absurd (nI_le (a := 8192) (by omega) (by omega)) z⟩
      | succ n ih =>
        intro j y m' hj hy q
        refine w87_14 xs (d + 4) _ _ m' _ ⟨fun z => absurd z (nI_ge (b := 8192) (by omega) (by decide)), fun _ => ⟨fun z => ?_, fun z => ?_⟩⟩
        · obtain ⟨t1, o1, G, rfl, e1, lt1, h1, -⟩ := q.yes hT (k := 252) (by decide) z
          refine w87_38 xs (d + 4) _ _ m' _ ⟨fun w => absurd z w, fun _ => ?_⟩
          refine y_ex (c75o xs d hT h1 29 0 0) (by omega) (fun i2 m3 q3 => ?_)
          obtain ⟨hi2, q3⟩ := q3
          refine y_nx (nd_step xs d hT q3 lt1) (by omega) (fun m4 q4 => ?_)
          refine w87_60 xs (d + 4) _ _ m4 _ ?_
          refine y_nx (c88 xs d hT q4) (by omega) (fun m5 q5 => ?_)
          rw [nI_1]
          refine ih (j + 1) (aft G (p_bind (p_node 29 (m0.1 10 t1) 0 0 (p_step m0 t1 o1)) (p_cell m0))) m5 (by omega) ?_ ?_
          · rw [← hy, p_bind_F, p_bind_aft]
            show _ = aft G (if m0.1 9 t1 = 252 then _ else _)
            rw [if_pos e1]
          · rw [aft_aft]
            rw [p_bind_aft, p_bind_F] at q5
            exact q5
        · refine y_ci (c92 xs d m') (by omega) ?_
          by_cases hs : stL (m'.1 17 5)
          · rw [if_pos hs]
            refine ⟨fun w => absurd w (by decide), fun _ => ?_⟩
            obtain ⟨t1, o1, G, rfl, e1, lt1, h1, -⟩ := q.yes hT (stL_gk hs) rfl
            refine w87_38 xs (d + 4) _ _ m' _ ⟨fun _ => ?_, fun w => absurd w z⟩
            refine w87_60 xs (d + 4) _ _ m' _ ?_
            refine y_nx (c88 xs d hT (X := .inl (t1, o1, F ++ [(24, m0.1 10 t, 0, 0, 1)] ++ G)) h1) (by omega) (fun m5 q5 => ?_)
            rw [nI_1]
            refine ih (j + 1) (aft G (p_cell m0 t1 o1)) m5 (by omega) ?_ ?_
            · rw [← hy, p_bind_F, p_bind_aft]
              show _ = aft G (if m0.1 9 t1 = 252 then _ else if stL (m0.1 9 t1) then _ else _)
              rw [e1, if_neg z, if_pos hs]
            · rw [aft_aft]
              rw [p_bind_aft] at q5
              exact q5
          · rw [if_neg hs]
            refine ⟨fun _ => e70 m' ?_, fun w => absurd rfl w⟩
            have e1 : p_bind y (p_cells m0 (n + 1)) = y := p_bind_u (fun t1 o1 G e => by
              have e2 := q.nowA e
              show (if m0.1 9 t1 = 252 then _ else if stL (m0.1 9 t1) then _ else _) = _
              rw [← e2, if_neg z, if_neg hs])
            rw [e1] at hy
            exact hy ▸ q
    exact lp 8192 0 _ m2 (by omega) rfl q2
  · exact c87e xs d hT hX
def p_rows (m0 : yM) : Nat → Nat → Nat → PX
  | 0 => fun t o => .inl (t, o, [])
  | n + 1 => fun t o => if stL (m0.1 9 t) then p_bind (p_row m0 t o) (p_rows m0 n) else .inl (t, o, [])
def p_rung (m0 : yM) (t o : Nat) : PX := p_node 23 (m0.1 10 t) 0 0 (p_bind (p_bind (p_bind (p_step m0 t o) (p_row m0)) (p_rows m0 8192)) (p_exp m0 40))
def p_rungs (m0 : yM) : Nat → Nat → Nat → PX
  | 0 => fun t o => .inl (t, o, [])
  | n + 1 => p_if m0 39 (fun t o => p_bind (p_rung m0 t o) (p_rungs m0 n))
def p_lad (m0 : yM) (t o : Nat) : PX := p_node 22 (m0.1 10 t) 0 0 (p_bind (p_bind (p_step m0 t o) (p_rungs m0 8192)) (p_exp m0 38))
theorem c86I (xs : List Int32) (d : Nat) {m0 : yM} {T : Nat} (hT : TKok m0 T) (P : List ND) (Y : PX) (l1 l2 l3 : Int32) (Q : Option Value → yM → Prop) (K : ∀ m', RC m0 T (aft P Y) m' → yP (xg xs) (d + 6) 86 74 [(0, .ref 17), (1, .int l1), (2, .int l2), (3, .int l3)] [] m' Q) : ∀ (n j : Nat) (y : PX) (m' : yM), j + n = 8192 → p_bind y (p_rows m0 n) = Y → RC m0 T (aft P y) m' → yP (xg xs) (d + 6) 86 49 [(0, .ref 17), (1, .int l1), (2, .int l2), (3, .int l3), (4, .int (nI j))] [] m' Q := by
  intro n
  induction n with
  | zero =>
    intro j y m' hj hy q
    have e0 : p_bind y (p_rows m0 0) = y := p_bind_0 y
    rw [e0] at hy
    exact w86_49 xs (d + 5) _ _ _ _ m' _ ⟨fun _ => K m' (hy ▸ q), fun z => absurd (nI_le (a := 8192) (by omega) (by omega)) z⟩
  | succ n ih =>
    intro j y m' hj hy q
    refine w86_49 xs (d + 5) _ _ _ _ m' _ ⟨fun z => absurd z (nI_ge (b := 8192) (by omega) (by decide)), fun _ => ?_⟩
    refine y_ci (c92 xs d m') (by omega) ?_
    by_cases hs : stL (m'.1 17 5)
    · rw [if_pos hs]
      refine ⟨fun w => absurd w (by decide), fun _ => ?_⟩
      obtain ⟨t1, o1, G, rfl, e1, lt1, h1, -⟩ := q.yes hT (stL_gk hs) rfl
      refine y_nx (c87 xs d hT (X := .inl (t1, o1, P ++ G)) h1) (by omega) (fun m5 q5 => ?_)
      rw [nI_1]
      refine ih (j + 1) (aft G (p_row m0 t1 o1)) m5 (by omega) ?_ ?_
      · rw [← hy, p_bind_F, p_bind_aft]
        show _ = aft G (if stL (m0.1 9 t1) then _ else _)
        rw [e1, if_pos hs]
      · rw [aft_aft]
        rw [p_bind_aft] at q5
        exact q5
    · rw [if_neg hs]
      refine ⟨fun _ => K m' ?_, fun w => absurd rfl w⟩
      have e1 : p_bind y (p_rows m0 (n + 1)) = y := p_bind_u (fun t1 o1 G e => by
        have e2 := q.nowA e
        show (if stL (m0.1 9 t1) then _ else _) = _
        rw [← e2, if_neg hs])
      rw [e1] at hy
      exact hy ▸ q
theorem c86 (xs : List Int32) (d : Nat) {m0 m : yM} {T t o : Nat} {F : List ND} (hT : TKok m0 T) (h : RCo m0 T t o F m) (lt : t < T) : yC (xg xs) (d + 6) 86 [.ref 17] m (fun r m' => r = none ∧ RC m0 T (aft F (p_lad m0 t o)) m') := by
  unfold p_lad
  refine w86_0 xs (d + 5) m _ ?_
  refine y_ex (c75o xs d hT h 22 0 0) (by omega) (fun i m1 q1 => ?_)
  obtain ⟨hi, q1⟩ := q1
  refine y_nx (c76 xs d hT q1 lt) (by omega) (fun m2 q2 => ?_)
  rw [p_bind_aft] at q2
  have e94 : ∀ m', RC m0 T (aft (F ++ [(22, m0.1 10 t, 0, 0, 1)]) (p_bind (p_step m0 t o) (p_rungs m0 8192))) m' → yP (xg xs) (d + 5 + 1) 86 94 [(0, .ref 17), (1, .int (nI i))] [] m' (fun r' m' => r' = none ∧ RC m0 T (aft F (p_node 22 (m0.1 10 t) 0 0 (p_bind (p_bind (p_step m0 t o) (p_rungs m0 8192)) (p_exp m0 38)))) m') := by
    intro m' q
    refine w86_94 xs (d + 5) _ m' _ ?_
    refine y_nx (c77 xs d hT q 38 (by decide)) (by omega) (fun m3 q3 => ?_)
    rw [p_bind_F] at q3
    exact y_fin (c85r xs d q3 hi) (by omega)
  have lp : ∀ (n j : Nat) (y : PX) (m' : yM), j + n = 8192 → p_bind y (p_rungs m0 n) = p_bind (p_step m0 t o) (p_rungs m0 8192) → RC m0 T (aft (F ++ [(22, m0.1 10 t, 0, 0, 1)]) y) m' → yP (xg xs) (d + 5 + 1) 86 14 [(0, .ref 17), (1, .int (nI i)), (2, .int (nI j))] [] m' (fun r' m' => r' = none ∧ RC m0 T (aft F (p_node 22 (m0.1 10 t) 0 0 (p_bind (p_bind (p_step m0 t o) (p_rungs m0 8192)) (p_exp m0 38)))) m') := by
    intro n
    induction n with
    | zero =>
      intro j y m' hj hy q
      have e0 : p_bind y (p_rungs m0 0) = y := p_bind_0 y
      rw [e0] at hy
      exact w86_14 xs (d + 5) _ _ m' _ ⟨fun _ => e94 m' (hy ▸ q), fun z => absurd (nI_le (a := 8192) (by omega) (by omega)) z⟩
    | succ n ih =>
      intro j y m' hj hy q
      refine w86_14 xs (d + 5) _ _ m' _ ⟨fun z => absurd z (nI_ge (b := 8192) (by omega) (by decide)), fun _ => ⟨fun z => e94 m' ?_, fun z => ?_⟩⟩
      · have e1 : p_bind y (p_rungs m0 (n + 1)) = y := q.no z _
        rw [e1] at hy
        exact hy ▸ q
      · obtain ⟨t1, o1, G, rfl, e1, lt1, h1, ef⟩ := q.yes hT (by decide) z
        refine y_ex (c75o xs d hT h1 23 0 0) (by omega) (fun i2 m3 q3 => ?_)
        obtain ⟨hi2, q3⟩ := q3
        refine y_nx (c76 xs d hT q3 lt1) (by omega) (fun m4 q4 => ?_)
        refine y_nx (c87 xs d hT q4) (by omega) (fun m5 q5 => ?_)
        rw [p_bind_aft, p_bind_F] at q5
        refine c86I xs d hT _ (p_bind (p_bind (p_step m0 t1 o1) (p_row m0)) (p_rows m0 8192)) _ _ _ _ (fun m6 q6 => ?_) 8192 0 _ m5 (by omega) rfl q5
        refine w86_74 xs (d + 5) _ _ _ m6 _ ?_
        refine y_nx (c77 xs d hT q6 40 (by decide)) (by omega) (fun m7 q7 => ?_)
        rw [p_bind_F] at q7
        refine y_nx (c85r xs d q7 hi2) (by omega) (fun m8 q8 => ?_)
        rw [nI_1]
        refine ih (j + 1) (aft G (p_rung m0 t1 o1)) m8 (by omega) ?_ ?_
        · rw [← hy, p_bind_F]
          exact (ef (fun t o => p_bind (p_rung m0 t o) (p_rungs m0 n))).symm
        · rw [aft_aft]
          exact q8
  exact lp 8192 0 _ m2 (by omega) rfl q2
