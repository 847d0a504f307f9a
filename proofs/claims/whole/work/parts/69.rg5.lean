/-! THE READER: invocations, ranges, what begins a statement -/
theorem c108 (xs : List Int32) (d : Nat) {m0 m : yM} {T N t o : Nat} {F : List ND} {r : PX} (hT : TKok m0 T) (h : RCo m0 T t o F m) (lt : t < T) (z : m0.1 9 (t + 1) = 168) (e : p_inv m0 N t o = some r) : yC (xg xs) (d + dA o + 2) 108 [.ref 17] m (fun r' m' => r' = none ∧ RC m0 T (aft F r) m') := by
  have go := h.2.2.2.2.2.2.1
  obtain ⟨a1, a2, a3, -⟩ := h.at hT
  have st : p_step m0 t o = .inl (t + 1, o, []) := by unfold p_step; rw [if_neg (fun y => absurd (z.symm.trans y) (by decide))]
  unfold p_inv at e
  rw [st, po_inl] at e
  obtain ⟨y, e1, hr⟩ := pnode_ex e
  have e2 : po (po (po (some (p_into m0 (t + 1) o)) (p_par m0 N 8192)) (fun t o => some (p_exp m0 169 t o))) pdec = some y := by
    rw [po_a, po_a]
    exact e1
  obtain ⟨x3, e3⟩ := po_ex e2
  obtain ⟨x2, e4⟩ := po_ex e3
  rw [e4, po_t, pdec_t, po_t] at e2
  have e2 := Option.some.inj e2
  refine w108_0 xs (d + dA o + 1) m _ ⟨a1, ?_⟩
  rw [a3]
  refine y_ex (c75o xs d hT h 13 (m0.1 11 t) (t + 1)) (by unfold dA; omega) (fun i m1 q1 => ?_)
  obtain ⟨hi, q1⟩ := q1
  refine y_nx (c76 xs d hT q1 lt) (by unfold dA; omega) (fun m2 q2 => ?_)
  rw [p_bind_aft, st] at q2
  have q2 : RCo m0 T (t + 1) o (F ++ [(13, m0.1 10 t, m0.1 11 t, t + 1, 1)] ++ []) m2 := q2
  rw [List.append_nil] at q2
  have lt2 : t + 1 < T := q2.lt hT (k := 168) (by decide) z
  refine y_nx (c97 xs d hT q2 lt2) (by unfold dA; omega) (fun m3 q3 => ?_)
  rw [p_bind_aft] at q3
  have after : ∀ m', RC m0 T (aft (F ++ [(13, m0.1 10 t, m0.1 11 t, t + 1, 1)]) x2) m' → lb (o + 1) x2 → yP (xg xs) (d + dA o + 2) 108 117 [(0, .ref 17), (1, .int (nI i))] [] m' (fun r' m' => r' = none ∧ RC m0 T (aft F r) m') := by
    intro m' q4 l2
    refine w108_117 xs (d + dA o + 1) _ m' _ ?_
    refine y_nx (c77 xs d hT q4 169 (by decide)) (by unfold dA; omega) (fun m5 q5 => ?_)
    have l3 := (lb.af (F ++ [(13, m0.1 10 t, m0.1 11 t, t + 1, 1)]) l2).bind (g := p_exp m0 169) (fun t o t' o' G u => by have := p_exp_o u; omega)
    have q6 := q5.dec (l3.mono (by omega))
    rw [p_bind_F, p_bind_F, e2] at q6
    rw [hr]
    exact y_fin (c85r xs d q6 hi) (by unfold dA; omega)
  rcases hx : p_into m0 (t + 1) o with ⟨t1, o1, G1⟩ | ⟨k, p⟩
  · obtain ⟨i1, i2, i3, i4⟩ := p_into_o hx
    subst i1 i2 i3
    rw [hx, po_inl] at e4
    rw [hx] at q3
    have q3 : RCo m0 T (t + 1 + 1) (o + 1) (F ++ [(13, m0.1 10 t, m0.1 11 t, t + 1, 1)] ++ []) m3 := q3
    rw [List.append_nil] at q3
    have l2 : lb (o + 1) x2 := fun t' o' G' u => by subst u; have := p_par_o e4; omega
    have q := c108L xs d hT o (nI i) (fun r' m' => r' = none ∧ RC m0 T (aft F r) m') 8192 (t + 1 + 1) (o + 1) _ m3 x2 (Nat.le_refl _) (by omega) e4 q3 (fun m' q4 => after m' q4 l2)
    exact q
  · rw [hx] at e4 q3
    have e4 := Option.some.inj e4
    subst e4
    obtain ⟨D2, hD2⟩ : ∃ D2, d + dA o + 2 = D2 + 4 := ⟨d + dA o - 2, by unfold dA; omega⟩
    rw [hD2] at after
    show yP (xg xs) (d + dA o + 2) _ _ _ _ _ _
    rw [hD2]
    exact c108x xs D2 hT q3 (nI i) _ (fun m' q' => after m' q' (lb.e _ _)) _
theorem p_inv_o {m0 : yM} {N t o t' o' : Nat} {G : List ND} (h : p_inv m0 N t o = some (.inl (t', o', G))) : o' = o := by
  obtain ⟨G1, h, -⟩ := pnode_some h
  obtain ⟨t1, o1, _, _, e1, h, -⟩ := po_some h
  obtain ⟨t2, o2, _, _, e2, h, -⟩ := po_some h
  obtain ⟨t3, o3, _, _, e3, h, -⟩ := po_some h
  obtain ⟨t4, o4, _, _, e4, h, -⟩ := po_some h
  have a1 := p_step_o (Option.some.inj e1)
  have a2 := p_into_o (Option.some.inj e2)
  have a3 := p_par_o e3
  have a4 := p_exp_o (Option.some.inj e4)
  simp only [pdec, Option.some.injEq, Sum.inl.injEq, Prod.mk.injEq] at h
  omega
theorem p_asgn_o {m0 : yM} {N t o t' o' : Nat} {G : List ND} (h : p_asgn m0 N t o = some (.inl (t', o', G))) : o' = o := by
  unfold p_asgn at h
  rcases ht : p_tgt m0 N t o with _ | ⟨⟨t1, o1, G1⟩ | e⟩
  · rw [ht] at h; cases h
  · rw [ht] at h
    dsimp only at h
    obtain ⟨G2, h, -⟩ := pnode_some h
    rcases hz : po (some (p_exp m0 70 t1 o1)) (exO m0 N) with _ | ⟨⟨t2, o2, G3⟩ | e⟩
    · rw [hz] at h; cases h
    · rw [hz] at h
      simp only [Option.map_some, aft, Option.some.injEq, Sum.inl.injEq, Prod.mk.injEq] at h
      obtain ⟨t3, o3, _, _, e3, e4, -⟩ := po_some hz
      have a3 := p_exp_o (Option.some.inj e3)
      have a4 := exO_o e4
      have a1 : o1 = o := by
        unfold p_tgt at ht
        split at ht
        · obtain ⟨G5, ht, -⟩ := pnode_some ht
          obtain ⟨t6, o6, _, _, f1, ht, -⟩ := po_some ht
          obtain ⟨t7, o7, _, _, f2, ht, -⟩ := po_some ht
          obtain ⟨t8, o8, _, _, f3, ht, -⟩ := po_some ht
          obtain ⟨t9, o9, _, _, f4, ht, -⟩ := po_some ht
          have b1 := p_step_o (Option.some.inj f1)
          have b2 := p_into_o (Option.some.inj f2)
          have b3 := exO_o f3
          have b4 := p_exp_o (Option.some.inj f4)
          simp only [pdec, Option.some.injEq, Sum.inl.injEq, Prod.mk.injEq] at ht
          omega
        · exact (p_leaf_o (Option.some.inj ht)).2
      omega
    · rw [hz] at h; simp [aft] at h
  · rw [ht] at h; cases (Option.some.inj h)
abbrev stS (k : Int32) : Prop := k = 187 ∨ k = 64 ∨ k = 16 ∨ k = 21 ∨ k = 23 ∨ k = 28 ∨ k = 29
abbrev stC (k : Int32) : Prop := k = 173 ∨ k = 65 ∨ k = 35 ∨ k = 36
theorem c94 (xs : List Int32) (d : Nat) (m : yM) : yC (xg xs) (d + 1) 94 [.ref 17] m (fun r m' => r = some (.int (if stS (m.1 17 5) then 1 else 0)) ∧ m' = m) := by
  refine w94_0 xs d m _ ?_
  generalize m.1 17 5 = k
  refine ⟨fun h => ⟨?_, rfl⟩, fun h1 => ⟨fun h => ⟨?_, rfl⟩, fun h2 => ⟨fun h => ⟨?_, rfl⟩, fun h3 => ⟨fun h => ⟨?_, rfl⟩, fun h4 => ⟨fun h => ⟨?_, rfl⟩, fun h5 => ⟨fun h => ⟨?_, rfl⟩, fun h6 => ⟨fun h => ⟨?_, rfl⟩, fun h => ⟨?_, rfl⟩⟩⟩⟩⟩⟩⟩⟩
  all_goals first | (simp [stS, h]; done) | (simp [stS, h, h1, h2, h3, h4, h5, h6]; done)
theorem c105 (xs : List Int32) (d : Nat) (m : yM) : yC (xg xs) (d + 1) 105 [.ref 17] m (fun r m' => r = some (.int (if stC (m.1 17 5) then 1 else 0)) ∧ m' = m) := by
  refine w105_0 xs d m _ ?_
  generalize m.1 17 5 = k
  refine ⟨fun h => ⟨?_, rfl⟩, fun h1 => ⟨fun h => ⟨?_, rfl⟩, fun h2 => ⟨fun h => ⟨?_, rfl⟩, fun h3 => ⟨fun h => ⟨?_, rfl⟩, fun h => ⟨?_, rfl⟩⟩⟩⟩⟩
  all_goals first | (simp [stC, h]; done) | (simp [stC, h, h1, h2, h3]; done)
/-- ranges of a choice -/
def p_rng (m0 : yM) : Nat → Nat → Nat → PX
  | 0 => fun t o => .inl (t, o, [])
  | n + 1 => fun t o => p_bind (p_node 18 (m0.1 10 t) 0 0 (p_bind (p_const m0 t o) (p_if m0 71 (fun t o => p_bind (p_step m0 t o) (p_const m0))))) (p_if m0 172 (fun t o => p_bind (p_step m0 t o) (p_rng m0 n)))
theorem c106x (xs : List Int32) (d : Nat) {m0 m : yM} {T : Nat} {c p : Int32} (hT : TKok m0 T) (h : RCe m0 T c p m) (l1 l2 : Int32) : yP (xg xs) (d + 4) 106 4 [(0, .ref 17), (1, .int l1), (2, .int l2)] [] m (fun r m' => r = none ∧ RC m0 T (.inr (c, p)) m') := by
  refine w106_4 xs (d + 3) _ _ m _ ⟨fun _ => ⟨rfl, h⟩, fun _ => ⟨fun _ => ⟨rfl, h⟩, fun _ => ?_⟩⟩
  refine y_ex (c75e xs d hT h 18 0) (by omega) (fun i m1 q => ?_)
  obtain ⟨hi, q⟩ := q
  refine y_nx (c84 xs d hT (X := .inr (c, p)) q) (by omega) (fun m2 q => ?_)
  have q : RCe m0 T c p m2 := q
  refine ⟨fun _ => ?_, fun z => absurd z (q.ne (by decide))⟩
  refine w106_44 xs (d + 3) _ _ m2 _ ?_
  refine y_nx (c85e xs d q hi) (by omega) (fun m3 q => ?_)
  refine ⟨fun _ => ?_, fun z => absurd z (q.ne (by decide))⟩
  refine w106_67 xs (d + 3) _ _ m3 _ ⟨fun _ => ?_, fun z => absurd rfl z⟩
  refine w106_76 xs (d + 3) _ _ m3 _ ?_
  exact w106_4 xs (d + 3) _ _ m3 _ ⟨fun _ => ⟨rfl, q⟩, fun _ => ⟨fun _ => ⟨rfl, q⟩, fun z => absurd rfl z⟩⟩
theorem c106L (xs : List Int32) (d : Nat) {m0 : yM} {T : Nat} (hT : TKok m0 T) : ∀ (n t o : Nat) (F : List ND) (m : yM), n ≤ 8192 → RCo m0 T t o F m → yP (xg xs) (d + 4) 106 4 [(0, .ref 17), (1, .int 1), (2, .int (nI (8192 - n)))] [] m (fun r m' => r = none ∧ RC m0 T (aft F (p_rng m0 n t o)) m') := by
  intro n
  induction n with
  | zero =>
    intro t o F m hn h
    refine w106_4 xs (d + 3) _ _ m _ ⟨fun _ => ⟨rfl, ?_⟩, fun z => absurd (Int32.le_refl _) z⟩
    show RCo m0 T t o (F ++ []) m
    rw [List.append_nil]
    exact h
  | succ n ih =>
    intro t o F m hn h
    refine w106_4 xs (d + 3) _ _ m _ ⟨fun z => absurd z (nI_ge (b := 8192) (by omega) (by decide)), fun _ => ⟨fun z => absurd z (by decide), fun _ => ?_⟩⟩
    refine y_ex (c75o xs d hT h 18 0 0) (by omega) (fun i m1 q => ?_)
    obtain ⟨hi, q⟩ := q
    refine y_nx (c84 xs d hT (X := .inl (t, o, F ++ [(18, m0.1 10 t, 0, 0, 1)])) q) (by omega) (fun m2 q => ?_)
    rw [p_bind_aft] at q
    have e44 : ∀ m', RC m0 T (aft (F ++ [(18, m0.1 10 t, 0, 0, 1)]) (p_bind (p_const m0 t o) (p_if m0 71 (fun t o => p_bind (p_step m0 t o) (p_const m0))))) m' → yP (xg xs) (d + 3 + 1) 106 44 [(0, .ref 17), (2, .int (nI (8192 - (n + 1)))), (3, .int (nI i))] [] m' (fun r m' => r = none ∧ RC m0 T (aft F (p_rng m0 (n + 1) t o)) m') := by
      intro m' q
      have ps : p_rng m0 (n + 1) t o = p_bind (p_node 18 (m0.1 10 t) 0 0 (p_bind (p_const m0 t o) (p_if m0 71 (fun t o => p_bind (p_step m0 t o) (p_const m0))))) (p_if m0 172 (fun t o => p_bind (p_step m0 t o) (p_rng m0 n))) := rfl
      rw [ps]
      refine w106_44 xs (d + 3) _ _ m' _ ?_
      refine y_nx (c85r xs d q hi) (by omega) (fun m3 q3 => ?_)
      refine ⟨fun z => ?_, fun z => ?_⟩
      · rw [q3.no z]
        refine w106_67 xs (d + 3) _ _ m3 _ ⟨fun _ => ?_, fun z => absurd rfl z⟩
        refine w106_76 xs (d + 3) _ _ m3 _ ?_
        exact w106_4 xs (d + 3) _ _ m3 _ ⟨fun _ => ⟨rfl, q3⟩, fun _ => ⟨fun _ => ⟨rfl, q3⟩, fun z => absurd rfl z⟩⟩
      · obtain ⟨t1, o1, G, ey, e1, lt1, h1, ef⟩ := q3.yes hT (by decide) z
        rw [ef, aft_aft]
        refine w106_67 xs (d + 3) _ _ m3 _ ⟨fun z => absurd z (by decide), fun _ => ?_⟩
        refine y_nx (c76 xs d hT h1 lt1) (by omega) (fun m4 q4 => ?_)
        rw [p_bind_aft] at q4
        refine w106_76 xs (d + 3) _ _ m4 _ ?_
        rw [nI_1, show 8192 - (n + 1) + 1 = 8192 - n by omega]
        rcases hs : p_step m0 t1 o1 with ⟨t2, o2, G2⟩ | ⟨k, p⟩
        · rw [hs] at q4
          have q4 : RCo m0 T t2 o2 (F ++ G ++ G2) m4 := q4
          have := ih t2 o2 (F ++ G ++ G2) m4 (by omega) q4
          rw [p_bind_aft, aft_aft]
          exact this
        · rw [hs] at q4
          exact c106x xs d hT q4 _ _
    refine ⟨fun z => ?_, fun z => ?_⟩
    · refine e44 m2 ?_
      rw [q.no z]
      exact q
    · obtain ⟨t1, o1, G, ey, e1, lt1, h1, ef⟩ := q.yes hT (by decide) z
      refine y_nx (c76 xs d hT h1 lt1) (by omega) (fun m3 q3 => ?_)
      refine y_nx (c84 xs d hT q3) (by omega) (fun m4 q4 => ?_)
      refine e44 m4 ?_
      rw [ef, aft_aft]
      rw [p_bind_aft, p_bind_F] at q4
      exact q4
theorem c106 (xs : List Int32) (d : Nat) {m0 m : yM} {T t o : Nat} {F : List ND} (hT : TKok m0 T) (h : RCo m0 T t o F m) : yC (xg xs) (d + 4) 106 [.ref 17] m (fun r m' => r = none ∧ RC m0 T (aft F (p_rng m0 8192 t o)) m') := w106_0 xs (d + 3) m _ (c106L xs d hT 8192 t o F m (Nat.le_refl _) h)
