/-! THE READER: FOR of the class; all statements -/
theorem stepFr {xs : List Int32} {d : Nat} {m0 : yM} {T N : Nat} (hT : TKok m0 T) {rc : SR} (hq : eqP rc) (hB : okBd xs d m0 T rc) : okCp xs d m0 T (pS m0 N rc) 7 107 23 := by
  intro t o F m r h23 e0 h
  have e : (match p_into m0 t o with
    | .inr e => some (.inr e)
    | .inl (t1, o1, _) => pnode 19 (m0.1 10 t) (m0.1 11 t1) (t1 + 1) (po (po (po (some (p_bind (p_bind (p_bind (p_bind (p_bind (p_bind (p_exp m0 64 t1 o1) (p_exp m0 70)) (p_const m0)) (p_exp m0 24)) (p_const m0)) (p_if m0 25 (fun t o => p_bind (p_step m0 t o) (p_const m0)))) (p_exp m0 26))) (rc 0 0)) (fun t o => some (p_exp m0 27 t o))) pdec)) = some r := e0
  clear e0
  have lt : t < T := h.lt hT (by decide) h23
  have d5 := dA_5 o
  have hd1 : o + 1 ≤ 60 → d + dA (o + 1) + 7 ≤ d + dA o + 4 := fun u => by have := dA_s u; omega
  refine w107_0 xs (d + dA o + 4) m _ ?_
  refine y_ex (c75o xs d hT h 19 0 0) (by omega) (fun i m1 q1 => ?_)
  obtain ⟨hi, q1⟩ := q1
  refine y_nx (c97 xs d hT q1 lt) (by omega) (fun m2 q2 => ?_)
  rw [p_bind_aft] at q2
  have hi1 := hi.1
  refine ⟨q2.x4 hT, x_in_nI (by omega) (by decide), ?_⟩
  rw [nI_clamp (by omega)]
  rcases hx : p_into m0 t o with ⟨t1, o1, G1⟩ | ⟨c, p⟩
  · obtain ⟨i1, i2, i3, i4⟩ := p_into_o hx
    subst i1 i2 i3
    rw [hx] at e q2
    dsimp only at e
    have q2 : RCo m0 T (t + 1) (o + 1) (F ++ [(19, m0.1 10 t, 0, 0, 1)] ++ []) m2 := q2
    rw [List.append_nil] at q2
    rw [(q2.at hT).2.2.1]
    have q3 := q2.vl hi (m0.1 11 (t + 1)) (t + 1 + 1)
    obtain ⟨y, e1, hr⟩ := pnode_ex e
    obtain ⟨x6, h6⟩ := po_ex e1
    obtain ⟨x5, h5⟩ := po_ex h6
    rw [h6, pdec_t, po_t] at e1
    rw [h5, po_t] at h6
    have e1 := Option.some.inj e1
    have h6 := Option.some.inj h6
    have i0 : opn (o + 1) (p_bind (p_bind (p_bind (p_bind (p_bind (p_bind (p_exp m0 64 (t + 1) (o + 1)) (p_exp m0 70)) (p_const m0)) (p_exp m0 24)) (p_const m0)) (p_if m0 25 (fun t o => p_bind (p_step m0 t o) (p_const m0)))) (p_exp m0 26)) := by
      have j0 : opn (o + 1) (p_exp m0 64 (t + 1) (o + 1)) := fun t' o' G' u => by have := p_exp_o u; omega
      refine opn.bind (opn.bind (opn.bind (opn.bind (opn.bind (j0.bind (exq m0 70)) (fun _ _ _ _ _ u => p_const_o u)) (exq m0 24)) (fun _ _ _ _ _ u => p_const_o u)) (fun t o t' o' G u => ?_)) (exq m0 26)
      unfold p_if at u
      split at u
      · obtain ⟨_, _, _, _, g13, g14⟩ := p_bind_ex u
        have := p_step_o g13
        have := p_const_o g14
        omega
      · simp only [Sum.inl.injEq, Prod.mk.injEq] at u
        omega
    have i5 : opn (o + 1) x5 := i0.pk (fun _ _ _ _ _ u => hq _ _ _ _ _ _ _ u) h5
    have i6 : opn (o + 1) x6 := by rw [← h6]; exact i5.bind (exq m0 27)
    have K76 : ∀ m', RC m0 T (aft (F ++ [(19, m0.1 10 t, m0.1 11 (t + 1), t + 1 + 1, 1)]) (p_bind (p_bind (p_bind (p_bind (p_bind (p_exp m0 64 (t + 1) (o + 1)) (p_exp m0 70)) (p_const m0)) (p_exp m0 24)) (p_const m0)) (p_if m0 25 (fun t o => p_bind (p_step m0 t o) (p_const m0))))) m' → yP (xg xs) (d + dA o + 4 + 1) 107 76 [(0, .ref 17), (1, .int (nI i))] [] m' (fun r' m' => r' = none ∧ RC m0 T (aft F r) m') := by
      intro m' q
      refine w107_76 xs (d + dA o + 4) _ m' _ ?_
      refine y_nx (c77 xs d hT q 26 (by decide)) (by omega) (fun m3 q3 => ?_)
      rw [p_bind_F] at q3
      refine y_nx (hB.x hT (i0.af _) hd1 (by omega) (pomap _ h5) q3) (Nat.le_refl _) (fun m4 q4 => ?_)
      refine y_nx (c77 xs d hT q4 27 (by decide)) (by omega) (fun m5 q5 => ?_)
      rw [p_bind_F, h6] at q5
      have q6 := q5.dec ((i6.af _).lb.mono (by omega))
      rw [p_bind_F, e1] at q6
      rw [hr]
      exact y_fin (c85r xs d q6 hi) (by omega)
    refine y_nx (c77 xs d hT (X := .inl (t + 1, o + 1, F ++ [(19, m0.1 10 t, m0.1 11 (t + 1), t + 1 + 1, 1)])) q3 64 (by decide)) (by omega) (fun m3 q3 => ?_)
    rw [p_bind_aft] at q3
    refine y_nx (c77 xs d hT q3 70 (by decide)) (by omega) (fun m4 q4 => ?_)
    refine y_nx (c84 xs d hT q4) (by omega) (fun m5 q5 => ?_)
    refine y_nx (c77 xs d hT q5 24 (by decide)) (by omega) (fun m6 q6 => ?_)
    refine y_nx (c84 xs d hT q6) (by omega) (fun m7 q7 => ?_)
    rw [p_bind_F, p_bind_F, p_bind_F, p_bind_F] at q7
    refine ⟨fun z => K76 m7 ?_, fun z => ?_⟩
    · rw [q7.no z]
      exact q7
    · obtain ⟨t2, o2, G, ey, z1, lt1, h1, ef⟩ := q7.yes hT (by decide) z
      refine y_nx (c76 xs d hT h1 lt1) (by omega) (fun m8 q8 => ?_)
      refine y_nx (c84 xs d hT q8) (by omega) (fun m9 q9 => ?_)
      refine K76 m9 ?_
      rw [ef, aft_aft]
      rw [p_bind_aft, p_bind_F] at q9
      exact q9
  · rw [hx] at e q2
    have e := Option.some.inj e
    subst e
    have q2 : RCe m0 T c p m2 := q2
    have q3 : RC m0 T (.inr (c, p)) (y_si m2 5 i (m2.1 11 (m2.1 17 4).toNatClampNeg)) := q2.tr _ (by omega)
    refine y_nx (c77 xs d hT q3 64 (by decide)) (by omega) (fun m3 q3 => ?_)
    refine y_nx (c77 xs d hT q3 70 (by decide)) (by omega) (fun m4 q4 => ?_)
    refine y_nx (c84 xs d hT q4) (by omega) (fun m5 q5 => ?_)
    refine y_nx (c77 xs d hT q5 24 (by decide)) (by omega) (fun m6 q6 => ?_)
    refine y_nx (c84 xs d hT q6) (by omega) (fun m7 q7 => ?_)
    have q7 : RCe m0 T c p m7 := q7
    refine ⟨fun _ => ?_, fun z => absurd z (q7.ne (by decide))⟩
    refine w107_76 xs (d + dA o + 4) _ m7 _ ?_
    refine y_nx (c77 xs d hT (X := .inr (c, p)) q7 26 (by decide)) (by omega) (fun m8 q8 => ?_)
    refine y_nx (c93e xs d hT q8) (by omega) (fun m9 q9 => ?_)
    refine y_nx (c77 xs d hT q9 27 (by decide)) (by omega) (fun m10 q10 => ?_)
    have q10 : RCe m0 T c p m10 := q10
    exact y_fin (c85e xs d (q10.op _) hi1) (by omega)
/-- statements: whatever the pure reader says with enough turns, the class's reader does -/
theorem okT (xs : List Int32) (d : Nat) {m0 : yM} {T : Nat} (hT : TKok m0 T) (N : Nat) : ∀ n, okBd xs d m0 T (pT m0 N n) ∧ okSs xs d m0 T (pT m0 N n) ∧ okSt xs d m0 T (pT m0 N n) ∧ okCp xs d m0 T (pT m0 N n) 3 96 16 ∧ okLp xs d m0 T (pT m0 N n) 4 96 30 72 ∧ okCp xs d m0 T (pT m0 N n) 5 104 21 ∧ okLp xs d m0 T (pT m0 N n) 6 104 26 77 ∧ okCp xs d m0 T (pT m0 N n) 7 107 23
  | 0 => by
    refine ⟨?_, ?_, ?_, ?_, ?_, ?_, ?_, ?_⟩
    · intro t o F m r e; cases e
    · intro q t o F m r l1 Q _ e; cases e
    · intro t o F m r _ e; cases e
    · intro t o F m r _ e; cases e
    · intro q t o F m r l1 Q _ e; cases e
    · intro t o F m r _ e; cases e
    · intro q t o F m r l1 Q _ e; cases e
    · intro t o F m r _ e; cases e
  | n + 1 => by
    obtain ⟨h0, h1, h2, h3, h4, h5, h6, h7⟩ := okT xs d hT N n
    have hq := eqT m0 N n
    exact ⟨stepBd hT h1, stepSs hT hq h1 h2, stepSt hT h3 h5 h7, stepIf hT hq h0 h4, stepJ hT hq h0 h4, stepCs hT hq h0 h6, stepK hT hq h0 h6, stepFr hT hq h0⟩
