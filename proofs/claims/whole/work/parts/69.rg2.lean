/-! THE READER: sections; parts that may be missing -/
def p_if (m0 : yM) (k : Int32) (f : Nat → Nat → PX) (t o : Nat) : PX := if m0.1 9 t = k then f t o else .inl (t, o, [])
theorem RC.no {m0 m : yM} {T : Nat} {P : List ND} {y : PX} (q : RC m0 T (aft P y) m) {k : Int32} (z : ¬ m.1 17 5 = k) (f : Nat → Nat → PX) : p_bind y (p_if m0 k f) = y := by
  rcases y with ⟨t, o, G⟩ | u
  · have e3 : ¬ m0.1 9 t = k := fun v => z ((RCo.now (F := P ++ G) q).trans v)
    rw [p_bind_aft]
    unfold p_if
    rw [if_neg e3]
    simp [aft]
  · rfl
theorem RC.yes {m0 m : yM} {T : Nat} {P : List ND} {y : PX} (hT : TKok m0 T) (q : RC m0 T (aft P y) m) {k : Int32} (hk : gk k) (z : m.1 17 5 = k) : ∃ t o G, y = .inl (t, o, G) ∧ m0.1 9 t = k ∧ t < T ∧ RCo m0 T t o (P ++ G) m ∧ ∀ f, p_bind y (p_if m0 k f) = aft G (f t o) := by
  rcases y with ⟨t, o, G⟩ | ⟨c, p⟩
  · have h1 : RCo m0 T t o (P ++ G) m := q
    have e1 : m0.1 9 t = k := h1.now.symm.trans z
    refine ⟨t, o, G, rfl, e1, h1.lt hT hk e1, h1, fun f => ?_⟩
    rw [p_bind_aft]
    unfold p_if
    rw [if_pos e1]
  · exact absurd z (RCe.ne q hk)
def p_decls (m0 : yM) : Nat → Nat → Nat → PX
  | 0 => fun t o => .inl (t, o, [])
  | n + 1 => p_if m0 64 (fun t o => p_bind (p_decl m0 t o) (p_decls m0 n))
def p_sect (m0 : yM) (t o : Nat) : PX := p_node 4 (m0.1 10 t) (m0.1 9 t - 6) 0 (p_bind (p_bind (p_step m0 t o) (p_decls m0 8192)) (p_exp m0 9))
theorem c80 (xs : List Int32) (d : Nat) {m0 m : yM} {T t o : Nat} {F : List ND} (hT : TKok m0 T) (h : RCo m0 T t o F m) (lt : t < T) : yC (xg xs) (d + 6) 80 [.ref 17] m (fun r m' => r = none ∧ RC m0 T (p_bind (.inl (t, o, F)) (p_sect m0)) m') := by
  refine w80_0 xs (d + 5) m _ ?_
  rw [h.now]
  refine yC.mono (by omega) ?_ (c75o xs d hT h 4 (m0.1 9 t - 6) 0)
  rintro r m1 ⟨i, rfl, hi, q⟩
  refine ⟨_, rfl, ?_⟩
  refine y_nx (c76 xs d hT q lt) (by omega) (fun m2 q => ?_)
  rw [p_bind_aft] at q
  have e45 : ∀ (y : PX) (m' : yM), p_node 4 (m0.1 10 t) (m0.1 9 t - 6) 0 (p_bind y (p_exp m0 9)) = p_sect m0 t o → RC m0 T (aft (F ++ [(4, m0.1 10 t, m0.1 9 t - 6, 0, 1)]) y) m' → yP (xg xs) (d + 5 + 1) 80 45 [(0, .ref 17), (1, .int (nI i))] [] m' (fun r m' => r = none ∧ RC m0 T (p_bind (.inl (t, o, F)) (p_sect m0)) m') := by
    intro y m' hy q
    refine w80_45 xs (d + 5) _ m' _ ?_
    refine y_nx (c77 xs d hT q 9 (by decide)) (by omega) (fun m2 q => ?_)
    rw [p_bind_F] at q
    rw [p_bind_aft, ← hy]
    exact y_fin (c85r xs d q hi) (by omega)
  have lp : ∀ (n j : Nat) (y : PX) (m' : yM), j + n = 8192 → p_bind y (p_decls m0 n) = p_bind (p_step m0 t o) (p_decls m0 8192) → RC m0 T (aft (F ++ [(4, m0.1 10 t, m0.1 9 t - 6, 0, 1)]) y) m' → yP (xg xs) (d + 5 + 1) 80 19 [(0, .ref 17), (1, .int (nI i)), (2, .int (nI j))] [] m' (fun r m' => r = none ∧ RC m0 T (p_bind (.inl (t, o, F)) (p_sect m0)) m') := by
    intro n
    induction n with
    | zero =>
      intro j y m' hj hy q
      refine w80_19 xs (d + 5) _ _ m' _ ⟨fun _ => ?_, fun z => absurd (nI_le (a := 8192) (by omega) (by omega)) z⟩
      refine e45 y m' ?_ q
      have e0 : p_bind y (p_decls m0 0) = y := p_bind_0 y
      rw [e0] at hy
      rw [hy]
      rfl
    | succ n ih =>
      intro j y m' hj hy q
      refine w80_19 xs (d + 5) _ _ m' _ ⟨fun z => absurd z (nI_ge (b := 8192) (by omega) (by decide)), fun _ => ⟨fun z => ?_, fun z => ?_⟩⟩
      · refine e45 y m' ?_ q
        have e1 : p_bind y (p_decls m0 (n + 1)) = y := q.no z _
        rw [e1] at hy
        rw [hy]
        rfl
      · obtain ⟨t1, o1, G, rfl, e1, lt1, h1, ef⟩ := q.yes hT (by decide) z
        refine y_nx (c81 xs d hT h1) (by omega) (fun m4 q4 => ?_)
        rw [nI_1]
        refine ih (j + 1) (aft G (p_decl m0 t1 o1)) m4 (by omega) ?_ ?_
        · rw [← hy, p_bind_F]
          exact (ef (fun t o => p_bind (p_decl m0 t o) (p_decls m0 n))).symm
        · rw [aft_aft]
          rw [p_bind_aft] at q4
          exact q4
  exact lp 8192 0 _ m2 (by omega) rfl q
/-- an outermost expression, of a state -/
def exO (m0 : yM) (N : Nat) (t o : Nat) : Option PX := (pR m0 N 1 0 0 [] t o).map (rst o)
theorem c98O (xs : List Int32) (d : Nat) {m0 m : yM} {T N : Nat} (hT : TKok m0 T) {X r : PX} {om : Nat} (hl : lb om X) (e : po (some X) (exO m0 N) = some r) (hm : RC m0 T X m) : yC (xg xs) (d + dA om + 1) 98 [.ref 17, .int 0, .int 1] m (fun r' m' => r' = none ∧ RC m0 T r m') := by
  rcases X with ⟨t, o, F⟩ | ⟨k, p⟩
  · have ho := hl t o F rfl
    unfold po at e
    dsimp only at e
    unfold exO at e
    rcases hr : pR m0 N 1 0 0 [] t o with _ | y
    · rw [hr] at e; cases e
    · rw [hr] at e
      simp only [Option.map_some, Option.some.injEq] at e
      rw [← e]
      have q := (okE xs d hT N).2.1 0 1 t o F m y (by decide) hr hm
      rw [if_neg (by decide)] at q
      exact yC.mono (by unfold dA; omega) (fun _ _ q => q) q
  · cases e
    exact yC.mono (by unfold dA; omega) (fun _ _ q => q) (c98e xs d hT hm 0 1 (by decide))
theorem exO_o {m0 : yM} {N t o t' o' : Nat} {G : List ND} (h : exO m0 N t o = some (.inl (t', o', G))) : o' = o := by
  unfold exO at h
  rcases hr : pR m0 N 1 0 0 [] t o with _ | ⟨⟨t1, o1, G1⟩ | e⟩
  · rw [hr] at h; cases h
  · rw [hr] at h
    simp only [Option.map_some, rst, Option.some.injEq, Sum.inl.injEq, Prod.mk.injEq] at h
    exact h.2.1.symm
  · rw [hr] at h; simp [rst] at h
