/-! THE READER: types, declarations, sections of the class -/
theorem RC.x4 {m0 m : yM} {T : Nat} {X : PX} (hT : TKok m0 T) (h : RC m0 T X m) : x_in (m.1 17 4) 8193 = true := by
  rcases X with ⟨t, o, F⟩ | ⟨c, p⟩
  · exact (RCo.at hT h).1
  · obtain ⟨t, -, -, b⟩ := RCe.at hT h
    exact b
/-- a leaf whose value is the token's -/
theorem c82v (xs : List Int32) (d : Nat) {m0 m : yM} {T : Nat} {X : PX} (hT : TKok m0 T) (h : RC m0 T X m) (tok k : Int32) (vt : Nat → Nat) (hk : gk tok) : yC (xg xs) (d + 2) 82 [.ref 17, .int tok, .int k, .int (m.1 11 (m.1 17 4).toNatClampNeg)] m (fun r m' => r = none ∧ RC m0 T (p_bind X (fun t o => p_leaf m0 tok k (m0.1 11 t) (vt t) t o)) m') := by
  rcases X with ⟨t, o, F⟩ | ⟨c, p⟩
  · rw [(RCo.at hT h).2.2.1]
    exact c82 xs d hT (X := .inl (t, o, F)) h tok k (m0.1 11 t) (vt t) hk
  · exact c82 xs d hT (X := .inr (c, p)) h tok k _ 0 hk
/-- whether the token is of this kind -/
theorem RC.is {m0 m : yM} {T : Nat} {X : PX} (hT : TKok m0 T) (h : RC m0 T X m) {k : Int32} (hk : gk k) (e : m.1 17 5 = k) : ∃ t o F, X = .inl (t, o, F) ∧ m0.1 9 t = k ∧ t < T ∧ RCo m0 T t o F m := by
  rcases X with ⟨t, o, F⟩ | ⟨c, p⟩
  · have h1 : RCo m0 T t o F m := h
    have e1 : m0.1 9 t = k := h1.now.symm.trans e
    exact ⟨t, o, F, rfl, e1, h1.lt hT hk e1, h1⟩
  · exact absurd e (RCe.ne h hk)
theorem RC.isnt {m0 m : yM} {T : Nat} {X : PX} (h : RC m0 T X m) {k : Int32} (e : ¬ m.1 17 5 = k) (f : Nat → Nat → PX) : p_bind X (fun t o => if m0.1 9 t = k then f t o else .inl (t, o, [])) = X := by
  rcases X with ⟨t, o, F⟩ | ⟨c, p⟩
  · have h1 : RCo m0 T t o F m := h
    have e1 : ¬ m0.1 9 t = k := fun u => e (h1.now.trans u)
    rw [p_bind_aft, if_neg e1]
    simp [aft]
  · rfl
def p_type (m0 : yM) (t o : Nat) : PX := if m0.1 9 t = 14 then p_node 9 (m0.1 10 t) 0 0 (p_bind (p_bind (p_bind (p_bind (p_bind (p_bind (p_bind (p_step m0 t o) (p_exp m0 219)) (p_const m0)) (p_exp m0 71)) (p_const m0)) (p_exp m0 221)) (p_exp m0 15)) (p_simple m0)) else if m0.1 9 t = 64 then p_leaf m0 64 10 (m0.1 11 t) (t + 1) t o else p_simple m0 t o
theorem c83 (xs : List Int32) (d : Nat) {m0 m : yM} {T : Nat} {X : PX} (hT : TKok m0 T) (h : RC m0 T X m) : yC (xg xs) (d + 4) 83 [.ref 17] m (fun r m' => r = none ∧ RC m0 T (p_bind X (p_type m0)) m') := by
  refine w83_0 xs (d + 3) m _ ⟨fun z => ⟨fun y => ?_, fun y => ?_⟩, fun z => ?_⟩
  · have e : p_bind X (p_type m0) = p_bind X (p_simple m0) := by
      rcases X with ⟨t, o, F⟩ | ⟨c, p⟩
      · have h1 : RCo m0 T t o F m := h
        rw [p_bind_aft, p_bind_aft]
        unfold p_type
        rw [if_neg (fun u => z (h1.now.trans u)), if_neg (fun u => y (h1.now.trans u))]
      · rfl
    rw [e]
    exact y_fin (c79 xs d hT h) (by omega)
  · obtain ⟨t, o, F, rfl, e1, lt, h1⟩ := h.is hT (by decide) y
    refine ⟨h.x4 hT, ?_⟩
    have e : p_bind (.inl (t, o, F)) (p_type m0) = p_bind (.inl (t, o, F)) (fun t o => p_leaf m0 64 10 (m0.1 11 t) (t + 1) t o) := by
      rw [p_bind_aft, p_bind_aft]
      unfold p_type
      rw [if_neg (fun u => z (h1.now.trans u)), if_pos e1]
    rw [e]
    exact y_fin (c82v xs d hT h 64 10 (fun t => t + 1) (by decide)) (by omega)
  · obtain ⟨t, o, F, rfl, e1, lt, h1⟩ := h.is hT (by decide) z
    have e : p_bind (.inl (t, o, F)) (p_type m0) = aft F (p_node 9 (m0.1 10 t) 0 0 (p_bind (p_bind (p_bind (p_bind (p_bind (p_bind (p_bind (p_step m0 t o) (p_exp m0 219)) (p_const m0)) (p_exp m0 71)) (p_const m0)) (p_exp m0 221)) (p_exp m0 15)) (p_simple m0))) := by
      rw [p_bind_aft]
      unfold p_type
      rw [if_pos e1]
    rw [e]
    refine yC.mono (by omega) ?_ (c75o xs d hT h1 9 0 0)
    rintro r m1 ⟨i, rfl, hi, q⟩
    refine ⟨_, rfl, ?_⟩
    refine y_nx (c76 xs d hT q lt) (by omega) (fun m2 q => ?_)
    rw [p_bind_aft] at q
    refine y_nx (c77 xs d hT q 219 (by decide)) (by omega) (fun m3 q => ?_)
    refine y_nx (c84 xs d hT q) (by omega) (fun m4 q => ?_)
    refine y_nx (c77 xs d hT q 71 (by decide)) (by omega) (fun m5 q => ?_)
    refine y_nx (c84 xs d hT q) (by omega) (fun m6 q => ?_)
    refine y_nx (c77 xs d hT q 221 (by decide)) (by omega) (fun m7 q => ?_)
    refine y_nx (c77 xs d hT q 15 (by decide)) (by omega) (fun m8 q => ?_)
    refine y_nx (c79 xs d hT q) (by omega) (fun m9 q => ?_)
    rw [p_bind_F, p_bind_F, p_bind_F, p_bind_F, p_bind_F, p_bind_F, p_bind_F] at q
    exact y_fin (c85r xs d q hi) (by omega)
/-- further names of a declaration -/
def p_names (m0 : yM) : Nat → Nat → Nat → PX
  | 0 => fun t o => .inl (t, o, [])
  | n + 1 => fun t o => if m0.1 9 t = 172 then p_bind (p_bind (p_step m0 t o) (fun t o => p_leaf m0 64 6 (m0.1 11 t) (t + 1) t o)) (p_names m0 n) else .inl (t, o, [])
def p_at (m0 : yM) (t o : Nat) : PX := if m0.1 9 t = 10 then p_bind (p_step m0 t o) (fun t o => p_leaf m0 66 7 (m0.1 11 t) 0 t o) else .inl (t, o, [])
def p_init (m0 : yM) (t o : Nat) : PX := if m0.1 9 t = 70 then p_bind (p_step m0 t o) (p_const m0) else .inl (t, o, [])
def p_decl (m0 : yM) (t o : Nat) : PX := p_node 5 (m0.1 10 t) 0 0 (p_bind (p_bind (p_bind (p_bind (p_bind (p_bind (p_leaf m0 64 6 (m0.1 11 t) (t + 1) t o) (p_names m0 8192)) (p_at m0)) (p_exp m0 186)) (p_type m0)) (p_init m0)) (p_exp m0 187))
theorem c81 (xs : List Int32) (d : Nat) {m0 m : yM} {T t o : Nat} {F : List ND} (hT : TKok m0 T) (h : RCo m0 T t o F m) : yC (xg xs) (d + 5) 81 [.ref 17] m (fun r m' => r = none ∧ RC m0 T (p_bind (.inl (t, o, F)) (p_decl m0)) m') := by
  refine w81_0 xs (d + 4) m _ ?_
  refine yC.mono (by omega) ?_ (c75o xs d hT h 5 0 0)
  rintro r m1 ⟨i, rfl, hi, q⟩
  refine ⟨_, rfl, RC.x4 (X := .inl (t, o, F ++ [(5, m0.1 10 t, 0, 0, 1)])) hT q, ?_⟩
  refine y_nx (c82v xs d (X := .inl (t, o, F ++ [(5, m0.1 10 t, 0, 0, 1)])) hT q 64 6 (fun t => t + 1) (by decide)) (by omega) (fun m2 q => ?_)
  rw [p_bind_aft] at q
  -- the ends
  have e137 : ∀ (y : PX) (m' : yM), p_node 5 (m0.1 10 t) 0 0 (p_bind y (p_exp m0 187)) = p_decl m0 t o → RC m0 T (aft (F ++ [(5, m0.1 10 t, 0, 0, 1)]) y) m' → yP (xg xs) (d + 4 + 1) 81 137 [(0, .ref 17), (1, .int (nI i))] [] m' (fun r m' => r = none ∧ RC m0 T (p_bind (.inl (t, o, F)) (p_decl m0)) m') := by
    intro y m' hy q
    refine w81_137 xs (d + 4) _ m' _ ?_
    refine y_nx (c77 xs d hT q 187 (by decide)) (by omega) (fun m2 q => ?_)
    rw [p_bind_F] at q
    rw [p_bind_aft, ← hy]
    exact y_fin (c85r xs d q hi) (by omega)
  have e109 : ∀ (y : PX) (m' : yM), p_node 5 (m0.1 10 t) 0 0 (p_bind (p_bind (p_bind (p_bind y (p_exp m0 186)) (p_type m0)) (p_init m0)) (p_exp m0 187)) = p_decl m0 t o → RC m0 T (aft (F ++ [(5, m0.1 10 t, 0, 0, 1)]) y) m' → yP (xg xs) (d + 4 + 1) 81 109 [(0, .ref 17), (1, .int (nI i))] [] m' (fun r m' => r = none ∧ RC m0 T (p_bind (.inl (t, o, F)) (p_decl m0)) m') := by
    intro y m' hy q
    refine w81_109 xs (d + 4) _ m' _ ?_
    refine y_nx (c77 xs d hT q 186 (by decide)) (by omega) (fun m2 q => ?_)
    refine y_nx (c83 xs d hT q) (by omega) (fun m3 q => ?_)
    rw [p_bind_F, p_bind_F] at q
    refine ⟨fun z => ?_, fun z => ?_⟩
    · refine e137 (p_bind (p_bind y (p_exp m0 186)) (p_type m0)) m3 ?_ q
      have e1 : p_bind (p_bind (p_bind y (p_exp m0 186)) (p_type m0)) (p_init m0) = p_bind (p_bind y (p_exp m0 186)) (p_type m0) := by
        generalize p_bind (p_bind y (p_exp m0 186)) (p_type m0) = w at q ⊢
        rcases w with ⟨t1, o1, G1⟩ | u
        · have e2 : p_bind (.inl (t1, o1, G1)) (p_init m0) = .inl (t1, o1, G1) := by
            have e3 : ¬ m0.1 9 t1 = 70 := fun v => z ((RCo.now (F := F ++ [(5, m0.1 10 t, 0, 0, 1)] ++ G1) q).trans v)
            rw [p_bind_aft]
            unfold p_init
            rw [if_neg e3]
            simp [aft]
          exact e2
        · rfl
      rw [← hy, e1]
    · obtain ⟨t1, o1, F1, eX, e1, lt1, h1⟩ := q.is hT (by decide) z
      refine y_nx (c76 xs d hT h1 lt1) (by omega) (fun m4 q4 => ?_)
      refine y_nx (c84 xs d hT q4) (by omega) (fun m5 q5 => ?_)
      refine e137 (p_bind (p_bind (p_bind y (p_exp m0 186)) (p_type m0)) (p_init m0)) m5 hy ?_
      rw [← p_bind_F, eX, p_bind_aft]
      unfold p_init
      rw [if_pos e1]
      rw [p_bind_aft, p_bind_F] at q5
      exact q5
  have e76 : ∀ (y : PX) (m' : yM), p_node 5 (m0.1 10 t) 0 0 (p_bind (p_bind (p_bind (p_bind (p_bind y (p_at m0)) (p_exp m0 186)) (p_type m0)) (p_init m0)) (p_exp m0 187)) = p_decl m0 t o → RC m0 T (aft (F ++ [(5, m0.1 10 t, 0, 0, 1)]) y) m' → yP (xg xs) (d + 4 + 1) 81 76 [(0, .ref 17), (1, .int (nI i))] [] m' (fun r m' => r = none ∧ RC m0 T (p_bind (.inl (t, o, F)) (p_decl m0)) m') := by
    intro y m' hy q
    refine w81_76 xs (d + 4) _ m' _ ⟨fun z => ?_, fun z => ?_⟩
    · refine e109 y m' ?_ q
      have e1 : p_bind y (p_at m0) = y := by
        rcases y with ⟨t1, o1, G1⟩ | u
        · have e3 : ¬ m0.1 9 t1 = 10 := fun v => z ((RCo.now (F := F ++ [(5, m0.1 10 t, 0, 0, 1)] ++ G1) q).trans v)
          rw [p_bind_aft]
          unfold p_at
          rw [if_neg e3]
          simp [aft]
        · rfl
      rw [← hy, e1]
    · obtain ⟨t1, o1, F1, eX, e1, lt1, h1⟩ := q.is hT (by decide) z
      refine y_nx (c76 xs d hT h1 lt1) (by omega) (fun m4 q4 => ?_)
      refine ⟨q4.x4 hT, ?_⟩
      refine y_nx (c82v xs d hT q4 66 7 (fun _ => 0) (by decide)) (by omega) (fun m5 q5 => ?_)
      refine e109 (p_bind y (p_at m0)) m5 hy ?_
      rw [← p_bind_F, eX, p_bind_aft]
      unfold p_at
      rw [if_pos e1]
      rw [p_bind_aft, p_bind_F] at q5
      exact q5
  -- the names
  have lp : ∀ (n j : Nat) (y : PX) (m' : yM), j + n = 8192 → p_bind y (p_names m0 n) = p_bind (p_leaf m0 64 6 (m0.1 11 t) (t + 1) t o) (p_names m0 8192) → RC m0 T (aft (F ++ [(5, m0.1 10 t, 0, 0, 1)]) y) m' → yP (xg xs) (d + 4 + 1) 81 29 [(0, .ref 17), (1, .int (nI i)), (2, .int (nI j))] [] m' (fun r m' => r = none ∧ RC m0 T (p_bind (.inl (t, o, F)) (p_decl m0)) m') := by
    intro n
    induction n with
    | zero =>
      intro j y m' hj hy q
      refine w81_29 xs (d + 4) _ _ m' _ ⟨fun _ => ?_, fun z => absurd (nI_le (a := 8192) (by omega) (by omega)) z⟩
      refine e76 y m' ?_ q
      have e0 : p_bind y (p_names m0 0) = y := p_bind_0 y
      rw [e0] at hy
      rw [hy]
      rfl
    | succ n ih =>
      intro j y m' hj hy q
      have ps : ∀ t o, p_names m0 (n + 1) t o = if m0.1 9 t = 172 then p_bind (p_bind (p_step m0 t o) (fun t o => p_leaf m0 64 6 (m0.1 11 t) (t + 1) t o)) (p_names m0 n) else .inl (t, o, []) := fun _ _ => rfl
      refine w81_29 xs (d + 4) _ _ m' _ ⟨fun z => absurd z (nI_ge (b := 8192) (by omega) (by decide)), fun _ => ⟨fun z => ?_, fun z => ?_⟩⟩
      · refine e76 y m' ?_ q
        have e1 : p_bind y (p_names m0 (n + 1)) = y := by
          rcases y with ⟨t1, o1, G1⟩ | u
          · have e3 : ¬ m0.1 9 t1 = 172 := fun v => z ((RCo.now (F := F ++ [(5, m0.1 10 t, 0, 0, 1)] ++ G1) q).trans v)
            rw [p_bind_aft, ps, if_neg e3]
            simp [aft]
          · rfl
        rw [e1] at hy
        rw [hy]
        rfl
      · obtain ⟨t1, o1, F1, eX, e1, lt1, h1⟩ := q.is hT (by decide) z
        refine y_nx (c76 xs d hT h1 lt1) (by omega) (fun m4 q4 => ?_)
        refine ⟨q4.x4 hT, ?_⟩
        refine y_nx (c82v xs d hT q4 64 6 (fun t => t + 1) (by decide)) (by omega) (fun m5 q5 => ?_)
        rw [nI_1]
        rcases y with ⟨t2, o2, G2⟩ | u
        · have eX : (Sum.inl (t2, o2, F ++ [(5, m0.1 10 t, 0, 0, 1)] ++ G2) : PX) = .inl (t1, o1, F1) := eX
          simp only [Sum.inl.injEq, Prod.mk.injEq] at eX
          obtain ⟨rfl, rfl, rfl⟩ := eX
          refine ih (j + 1) (aft G2 (p_bind (p_step m0 t2 o2) (fun t o => p_leaf m0 64 6 (m0.1 11 t) (t + 1) t o))) m5 (by omega) ?_ ?_
          · rw [← hy, p_bind_aft, ps, if_pos e1, p_bind_F]
          · rw [aft_aft]
            rw [p_bind_aft, p_bind_F] at q5
            exact q5
        · cases eX
  exact lp 8192 0 _ m2 (by omega) rfl q
