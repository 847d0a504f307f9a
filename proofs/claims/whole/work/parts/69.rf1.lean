/-! THE READER: names that are operands; expressions, all -/
theorem po_inl (t o : Nat) (k : Nat → Nat → Option PX) : po (some (.inl (t, o, []))) k = k t o := by
  unfold po
  dsimp only
  rcases k t o with _ | y
  · rfl
  · simp [aft_nil]
theorem stepN {xs : List Int32} {d : Nat} {m0 : yM} {T : Nat} (hT : TKok m0 T) {rc : Nat → Int32 → Nat → List ND → Nat → Nat → Option PX} (hM : moP m0 rc) (hB : okB xs d m0 T rc) (hD : okD xs d m0 T rc) : ∀ t o F m r, m0.1 9 t = 64 → t < T → pNm m0 rc t o = some r → RCo m0 T t o F m → yC (xg xs) (d + dA o - 1) 100 [.ref 17] m (fun r' m' => r' = none ∧ RC m0 T (aft F r) m') := by
  intro t o F m r h64 lt e h
  have go := h.2.2.2.2.2.2.1
  obtain ⟨a1, a2, a3, -⟩ := h.at hT
  obtain ⟨D, hDD⟩ : ∃ D, d + dA o - 1 = D + 1 := ⟨d + dA o - 2, by unfold dA; omega⟩
  have hD3 : d + 3 ≤ D := by unfold dA at hDD; omega
  rw [hDD]
  -- the end of all: finish
  have fin : ∀ (k : Int32) (i : Nat) (y : PX) (m' : yM), ndI F i → r = p_node k (m0.1 10 t) (m0.1 11 t) (t + 1) y → RC m0 T (aft (F ++ [(k, m0.1 10 t, m0.1 11 t, t + 1, 1)]) y) m' → yP (xg xs) (D + 1) 100 232 [(0, .ref 17), (2, .int (nI i))] [] m' (fun r' m' => r' = none ∧ RC m0 T (aft F r) m') := by
    intro k i y m' hi hr q
    refine w100_232 xs D _ m' _ ?_
    rw [hr]
    exact y_fin (c85r xs d q hi) (by omega)
  have st : ∀ k : Int32, gk k → m0.1 9 (t + 1) = k → p_step m0 t o = .inl (t + 1, o, []) := by
    intro k hk z
    unfold p_step
    rw [if_neg (fun y => hk.2.1 (z.symm.trans y))]
  -- step, with a node before it
  have stp : ∀ (k kk : Int32) (m1 : yM), gk k → m0.1 9 (t + 1) = k → RCo m0 T t o (F ++ [(kk, m0.1 10 t, m0.1 11 t, t + 1, 1)]) m1 → yC (xg xs) (d + 1) 76 [.ref 17] m1 (fun r m' => r = none ∧ RCo m0 T (t + 1) o (F ++ [(kk, m0.1 10 t, m0.1 11 t, t + 1, 1)]) m') := by
    intro k kk m1 hk z q1
    refine yC.mono (Nat.le_refl _) ?_ (c76 xs d hT q1 lt)
    rintro r' m2 ⟨rfl, q2⟩
    rw [p_bind_aft, st k hk z] at q2
    refine ⟨rfl, ?_⟩
    have q2 : RCo m0 T (t + 1) o (F ++ [(kk, m0.1 10 t, m0.1 11 t, t + 1, 1)] ++ []) m2 := q2
    rw [List.append_nil] at q2
    exact q2
  unfold pNm at e
  refine w100_0 xs D m _ ⟨a1, ?_⟩
  rw [a3]
  refine y_ci (c91 xs d hT h lt) (by omega) ?_
  refine ⟨fun z => ?_, fun z => ?_, fun z => ?_, fun n168 n174 n219 => ?_⟩
  · -- a call
    rw [if_pos z, st 168 (by decide) z, po_inl] at e
    obtain ⟨y, e1, hr⟩ := pnode_ex e
    have e2 : po (po (po (some (p_into m0 (t + 1) o)) (fun t o => rc 3 0 0 [] t o)) (fun t o => some (p_exp m0 169 t o))) pdec = some y := by
      rw [po_a, po_a]
      exact e1
    obtain ⟨x3, e3⟩ := po_ex e2
    obtain ⟨x2, e4⟩ := po_ex e3
    rw [e4, po_t, pdec_t, po_t] at e2
    have e2 := Option.some.inj e2
    refine yC.mono (by omega) ?_ (c75o xs d hT h 34 (m0.1 11 t) (t + 1))
    rintro r' m1 ⟨i, rfl, hi, q1⟩
    refine ⟨_, rfl, ?_⟩
    refine y_nx (stp 168 34 m1 (by decide) z q1) (by omega) (fun m2 q2 => ?_)
    have lt2 : t + 1 < T := q2.lt hT (k := 168) (by decide) z
    refine y_nx (c97 xs d hT q2 lt2) (by omega) (fun m3 q3 => ?_)
    rw [p_bind_aft] at q3
    -- behind the operands
    have after : ∀ m', RC m0 T (aft (F ++ [(34, m0.1 10 t, m0.1 11 t, t + 1, 1)]) x2) m' → lb (o + 1) x2 → yP (xg xs) (D + 1) 100 200 [(0, .ref 17), (2, .int (nI i))] [] m' (fun r' m' => r' = none ∧ RC m0 T (aft F r) m') := by
      intro m' q4 l2
      refine w100_200 xs D _ m' _ ?_
      refine y_nx (c77 xs d hT q4 169 (by decide)) (by omega) (fun m5 q5 => ?_)
      have l3 := (lb.af (F ++ [(34, m0.1 10 t, m0.1 11 t, t + 1, 1)]) l2).bind (g := p_exp m0 169) (fun t o t' o' G u => by have := p_exp_o u; omega)
      have q6 := q5.dec (l3.mono (by omega))
      rw [p_bind_F, p_bind_F, e2] at q6
      exact fin 34 i y _ hi hr q6
    rcases hx : p_into m0 (t + 1) o with ⟨t1, o1, G1⟩ | ⟨k, p⟩
    · obtain ⟨i1, i2, i3, i4⟩ := p_into_o hx
      subst i1 i2 i3
      rw [hx, po_inl] at e4
      rw [hx] at q3
      have q3 : RCo m0 T (t + 1 + 1) (o + 1) (F ++ [(34, m0.1 10 t, m0.1 11 t, t + 1, 1)] ++ []) m3 := q3
      rw [List.append_nil] at q3
      have l2 : lb (o + 1) x2 := fun t' o' G' u => by subst u; exact (hM _ _ _ _ _ _ _ _ _ e4).1
      rw [← hDD]
      exact hD 0 (t + 1 + 1) (o + 1) o _ m3 x2 (nI i) _ (by omega) (Nat.le_refl _) e4 q3 (fun m' q4 => by rw [hDD]; exact after m' q4 l2)
    · rw [hx] at e4 q3
      have e4 := Option.some.inj e4
      subst e4
      obtain ⟨D2, hD2⟩ : ∃ D2, D + 1 = D2 + 4 := ⟨D - 3, by omega⟩
      rw [hD2] at after ⊢
      exact c100x xs D2 hT q3 (nI i) _ (fun m' q' => after m' q' (lb.e _ _)) _
  · -- an output
    have n168 : ¬ m0.1 9 (t + 1) = 168 := fun y => absurd (z.symm.trans y) (by decide)
    rw [if_neg n168, if_pos z, st 174 (by decide) z, po_inl] at e
    obtain ⟨y, e1, hr⟩ := pnode_ex e
    refine yC.mono (by omega) ?_ (c75o xs d hT h 33 (m0.1 11 t) (t + 1))
    rintro r' m1 ⟨i, rfl, hi, q1⟩
    refine ⟨_, rfl, ?_⟩
    refine y_nx (stp 174 33 m1 (by decide) z q1) (by omega) (fun m2 q2 => ?_)
    have lt2 : t + 1 < T := q2.lt hT (k := 174) (by decide) z
    refine y_nx (c76 xs d hT q2 lt2) (by omega) (fun m3 q3 => ?_)
    rw [p_bind_aft] at q3
    rcases hx : p_step m0 (t + 1) o with ⟨t1, o1, G1⟩ | ⟨k, p⟩
    · obtain ⟨i1, i2, i3⟩ := p_step_o hx
      have i2 : o = o1 := i2.symm
      subst i1 i2 i3
      rw [hx, po_inl] at e1
      have e1 := Option.some.inj e1
      rw [hx] at q3
      have q3 : RCo m0 T (t + 1 + 1) o (F ++ [(33, m0.1 10 t, m0.1 11 t, t + 1, 1)] ++ []) m3 := q3
      rw [List.append_nil] at q3
      obtain ⟨b1, b2, b3, -⟩ := q3.at hT
      refine ⟨b1, ?_⟩
      rw [b3]
      refine y_nx (c82 xs d hT (X := .inl (t + 1 + 1, o, F ++ [(33, m0.1 10 t, m0.1 11 t, t + 1, 1)])) q3 64 6 (m0.1 11 (t + 1 + 1)) (t + 1 + 1 + 1) (by decide)) (by omega) (fun m4 q4 => ?_)
      rw [p_bind_aft, e1] at q4
      exact fin 33 i y m4 hi hr q4
    · rw [hx] at e1 q3
      have e1 := Option.some.inj e1
      subst e1
      have q3 : RCe m0 T k p m3 := q3
      obtain ⟨u, -, -, b1⟩ := q3.at hT
      refine ⟨b1, ?_⟩
      refine y_nx (c82 xs d hT (X := .inr (k, p)) q3 64 6 _ 0 (by decide)) (by omega) (fun m4 q4 => ?_)
      exact fin 33 i _ m4 hi hr q4
  · -- an element
    have n168 : ¬ m0.1 9 (t + 1) = 168 := fun y => absurd (z.symm.trans y) (by decide)
    have n174 : ¬ m0.1 9 (t + 1) = 174 := fun y => absurd (z.symm.trans y) (by decide)
    rw [if_neg n168, if_neg n174, if_pos z, st 219 (by decide) z, po_inl] at e
    obtain ⟨y, e1, hr⟩ := pnode_ex e
    have e2 : po (po (po (some (p_into m0 (t + 1) o)) (fun t o => rc 1 0 0 [] t o)) (fun t o => some (p_exp m0 221 t o))) pdec = some y := by
      rw [po_a, po_a]
      exact e1
    obtain ⟨x3, e3⟩ := po_ex e2
    obtain ⟨x2, e4⟩ := po_ex e3
    rw [e4, po_t, pdec_t, po_t] at e2
    have e2 := Option.some.inj e2
    refine yC.mono (by omega) ?_ (c75o xs d hT h 32 (m0.1 11 t) (t + 1))
    rintro r' m1 ⟨i, rfl, hi, q1⟩
    refine ⟨_, rfl, ?_⟩
    refine y_nx (stp 219 32 m1 (by decide) z q1) (by omega) (fun m2 q2 => ?_)
    have lt2 : t + 1 < T := q2.lt hT (k := 219) (by decide) z
    refine y_nx (c97 xs d hT q2 lt2) (by omega) (fun m3 q3 => ?_)
    rw [p_bind_aft] at q3
    have after : ∀ m', RC m0 T (aft (F ++ [(32, m0.1 10 t, m0.1 11 t, t + 1, 1)]) x2) m' → lb (o + 1) x2 → yC (xg xs) D 77 [.ref 17, .int (221 : Int32)] m' (fun v13 m13 => v13 = none ∧ yP (xg xs) (D + 1) 100 232 [(0, .ref 17), (2, .int (nI i))] [] (y_si m13 17 6 (m13.1 17 6 - 1)) (fun r' m' => r' = none ∧ RC m0 T (aft F r) m')) := by
      intro m' q4 l2
      refine y_nx (c77 xs d hT q4 221 (by decide)) (by omega) (fun m5 q5 => ?_)
      have l3 := (lb.af (F ++ [(32, m0.1 10 t, m0.1 11 t, t + 1, 1)]) l2).bind (g := p_exp m0 221) (fun t o t' o' G u => by have := p_exp_o u; omega)
      have q6 := q5.dec (l3.mono (by omega))
      rw [p_bind_F, p_bind_F, e2] at q6
      exact fin 32 i y _ hi hr q6
    rcases hx : p_into m0 (t + 1) o with ⟨t1, o1, G1⟩ | ⟨k, p⟩
    · obtain ⟨i1, i2, i3, i4⟩ := p_into_o hx
      have l1 : lb (o + 1) (aft (F ++ [(32, m0.1 10 t, m0.1 11 t, t + 1, 1)]) (p_into m0 (t + 1) o)) := lb.af _ (fun t' o' G' u => by have := p_into_o u; omega)
      have e5 : po (some (aft (F ++ [(32, m0.1 10 t, m0.1 11 t, t + 1, 1)]) (p_into m0 (t + 1) o))) (fun t o => rc 1 0 0 [] t o) = some (aft (F ++ [(32, m0.1 10 t, m0.1 11 t, t + 1, 1)]) x2) := by rw [po_F, e4]; rfl
      have l2 : lb (o + 1) x2 := by
        have l0 : lb (o + 1) (p_into m0 (t + 1) o) := fun t' o' G' u => by have := p_into_o u; omega
        exact l0.pk (fun t o t' o' G u => (hM _ _ _ _ _ _ _ _ _ u).1) e4
      refine y_nx (hB.x hT l1 (by decide) e5 q3) (by unfold dA at *; omega) (fun m4 q4 => ?_)
      exact after m4 q4 l2
    · rw [hx] at e4 q3
      have e4 := Option.some.inj e4
      subst e4
      refine y_nx (c98e xs d hT q3 0 0 (by decide)) (by omega) (fun m4 q4 => ?_)
      exact after m4 q4 (lb.e _ _)
  · rw [if_neg n168, if_neg n174, if_neg n219] at e
    obtain ⟨y, e1, hr⟩ := pnode_ex e
    have e1 := Option.some.inj e1
    refine yC.mono (by omega) ?_ (c75o xs d hT h 6 (m0.1 11 t) (t + 1))
    rintro r' m1 ⟨i, rfl, hi, q1⟩
    refine ⟨_, rfl, ?_⟩
    refine y_nx (c76 xs d hT q1 lt) (by omega) (fun m2 q2 => ?_)
    rw [p_bind_aft, e1] at q2
    exact fin 6 i y m2 hi hr q2
/-- expressions: whatever the pure reader says with enough turns, the class's reader does -/
theorem okE (xs : List Int32) (d : Nat) {m0 : yM} {T : Nat} (hT : TKok m0 T) : ∀ N, okA xs d m0 T (pR m0 N) ∧ okB xs d m0 T (pR m0 N) ∧ okC xs d m0 T (pR m0 N) ∧ okD xs d m0 T (pR m0 N)
  | 0 => by
    refine ⟨?_, ?_, ?_, ?_⟩
    · intro t o F m r e; cases e
    · intro c b t o F m r _ e; cases e
    · intro c b q L t o oe lf F m r _ _ _ _ e; cases e
    · intro q t o oe F m r l2 Q _ _ e; cases e
  | N + 1 => by
    obtain ⟨hA, hB, hC, hD⟩ := okE xs d hT N
    have hM := moR m0 N
    exact ⟨stepA hT hM hA hB (stepN hT hM hB hD), stepB hT hM hA hC, stepC hT hM hB hC, stepD hT hM hB hD⟩
