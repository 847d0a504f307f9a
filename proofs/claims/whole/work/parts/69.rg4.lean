/-! THE READER: invocations and ranges of the class -/
theorem y_ex {G : xG} {d d' j : Nat} {as : List Value} {m : yM} {P : Int32 → yM → Prop} {R : Nat → yM → Prop} (h : yC G d j as m (fun r m1 => ∃ i, r = some (.int (nI i)) ∧ R i m1)) (hd : d ≤ d') (k : ∀ i m1, R i m1 → P (nI i) m1) : yC G d' j as m (fun r m1 => ∃ u, r = some (Value.int u) ∧ P u m1) :=
  yC.mono hd (fun _ m1 q => by obtain ⟨i, e, q2⟩ := q; exact ⟨nI i, e, k i m1 q2⟩) h
/-- a parameter -/
def p_par1 (m0 : yM) (N t o : Nat) : Option PX := pnode 14 (m0.1 10 t) (m0.1 11 t) (t + 1) (po (some (p_exp m0 64 t o)) (fun t o => po (some (p_exp m0 70 t o)) (exO m0 N)))
def p_par (m0 : yM) (N : Nat) : Nat → Nat → Nat → Option PX
  | 0 => fun t o => some (.inl (t, o, []))
  | n + 1 => fun t o => if m0.1 9 t = 169 then some (.inl (t, o, [])) else po (some (if n + 1 = 8192 then .inl (t, o, []) else p_exp m0 172 t o)) (fun t o => po (p_par1 m0 N t o) (p_par m0 N n))
def p_inv (m0 : yM) (N t o : Nat) : Option PX := pnode 13 (m0.1 10 t) (m0.1 11 t) (t + 1) (po (some (p_step m0 t o)) (fun t o => po (some (p_into m0 t o)) (fun t o => po (p_par m0 N 8192 t o) (fun t o => po (some (p_exp m0 169 t o)) pdec))))
theorem p_par1_o {m0 : yM} {N t o t' o' : Nat} {G : List ND} (h : p_par1 m0 N t o = some (.inl (t', o', G))) : o' = o := by
  obtain ⟨G1, h, -⟩ := pnode_some h
  obtain ⟨t1, o1, _, _, e1, h, -⟩ := po_some h
  obtain ⟨t2, o2, _, _, e2, h, -⟩ := po_some h
  have a1 := p_exp_o (Option.some.inj e1)
  have a2 := p_exp_o (Option.some.inj e2)
  have a3 := exO_o h
  omega
theorem p_par_o {m0 : yM} {N : Nat} : ∀ {n t o t' o' : Nat} {G : List ND}, p_par m0 N n t o = some (.inl (t', o', G)) → o' = o
  | 0, t, o, t', o', G, h => by
    have h := Option.some.inj h
    simp only [Sum.inl.injEq, Prod.mk.injEq] at h
    omega
  | n + 1, t, o, t', o', G, h => by
    have h : (if m0.1 9 t = 169 then some (.inl (t, o, [])) else po (some (if n + 1 = 8192 then .inl (t, o, []) else p_exp m0 172 t o)) (fun t o => po (p_par1 m0 N t o) (p_par m0 N n))) = some (.inl (t', o', G)) := h
    split at h
    · have h := Option.some.inj h
      simp only [Sum.inl.injEq, Prod.mk.injEq] at h
      omega
    · obtain ⟨t1, o1, _, _, e1, h, -⟩ := po_some h
      obtain ⟨t2, o2, _, _, e2, h, -⟩ := po_some h
      have a2 := p_par1_o e2
      have a3 := p_par_o h
      have e1 := Option.some.inj e1
      split at e1
      · simp only [Sum.inl.injEq, Prod.mk.injEq] at e1; omega
      · have := p_exp_o e1; omega
/-- refused tokens leave the reader stopped -/
theorem c77s (xs : List Int32) (d : Nat) {m0 m : yM} {T : Nat} {c p : Int32} (hT : TKok m0 T) (h : RCe m0 T c p m) (k : Int32) (hk : gk k) : yC (xg xs) (d + 2) 77 [.ref 17, .int k] m (fun r m' => r = none ∧ (RCe m0 T c p m' ∧ m'.1 17 5 = 69)) := by
  refine w77_0 xs (d + 1) _ m _ ⟨fun _ => ?_, fun z => absurd z (h.ne hk)⟩
  exact y_fin (c78s xs d hT h 6) (by omega)
theorem c108x (xs : List Int32) (d : Nat) {m0 m : yM} {T : Nat} {c p : Int32} (hT : TKok m0 T) (h : RCe m0 T c p m) (l1 : Int32) (Q : Option Value → yM → Prop) (K : ∀ m', RCe m0 T c p m' → yP (xg xs) (d + 4) 108 117 [(0, .ref 17), (1, .int l1)] [] m' Q) (l2 : Int32) : yP (xg xs) (d + 4) 108 29 [(0, .ref 17), (1, .int l1), (2, .int l2)] [] m Q := by
  have st : ∀ (l2 : Int32) (m : yM), RCe m0 T c p m → m.1 17 5 = 69 → yP (xg xs) (d + 3 + 1) 108 29 [(0, .ref 17), (1, .int l1), (2, .int l2)] [] m Q := by
    intro l2 m h h69
    exact w108_29 xs (d + 3) _ _ m _ ⟨fun _ => K m h, fun _ => ⟨fun _ => K m h, fun _ => ⟨fun _ => K m h, fun z => absurd h69 z⟩⟩⟩
  have ex : ∀ (l2 : Int32) (m : yM), RCe m0 T c p m → yP (xg xs) (d + 3 + 1) 108 66 [(0, .ref 17), (1, .int l1), (2, .int l2)] [] m Q := by
    intro l2 m h
    refine w108_66 xs (d + 3) _ _ m _ ⟨RC.x4 (X := .inr (c, p)) hT h, ?_⟩
    refine y_ex (c75e xs d hT h 14 _) (by omega) (fun i m1 q => ?_)
    obtain ⟨hi, q⟩ := q
    refine y_nx (c77 xs d hT (X := .inr (c, p)) q 64 (by decide)) (by omega) (fun m2 q => ?_)
    refine y_nx (c77 xs d hT (X := .inr (c, p)) q 70 (by decide)) (by omega) (fun m3 q => ?_)
    have q : RCe m0 T c p m3 := q
    have h98 : yC (xg xs) (d + 3) 98 [.ref 17, .int 0, .int 1] m3 (fun r m' => r = none ∧ (RCe m0 T c p m' ∧ m'.1 17 5 = 69)) := by
      refine w98_0 xs (d + 2) _ _ m3 _ ?_
      have h99 : yC (xg xs) (d + 2) 99 [.ref 17] m3 (fun r m' => r = none ∧ (RCe m0 T c p m' ∧ m'.1 17 5 = 69)) := by
        refine w99_0 xs (d + 1) m3 _ ⟨fun z => absurd z (q.ne (by decide)), fun z => absurd z (q.ne (by decide)), fun z => absurd z (q.ne (by decide)), fun z => absurd z (q.ne (by decide)), fun z => absurd z (q.ne (by decide)), fun z => absurd z (q.ne (by decide)), fun z => absurd z (q.ne (by decide)), fun _ _ _ _ _ _ _ => ?_⟩
        exact y_fin (c78s xs d hT q 6) (by omega)
      refine y_nx h99 (Nat.le_refl _) (fun m4 q4 => ?_)
      have e106 : yP (xg xs) (d + 2 + 1) 98 106 [(0, .ref 17), (2, .int (1 : Int32)), (3, .int (m3.1 17 6))] [] m4 (fun r m' => r = none ∧ (RCe m0 T c p m' ∧ m'.1 17 5 = 69)) := w98_106 xs (d + 2) _ _ m4 _ ⟨fun z => absurd z (by decide), fun _ => ⟨rfl, q4.1.op _, by rw [y_si_at, if_neg (by decide)]; exact q4.2⟩⟩
      refine w98_21 xs (d + 2) _ _ _ _ _ m4 _ ⟨fun _ => e106, fun _ => ?_⟩
      refine y_ci (c101 xs d m4 _) (by omega) ?_
      exact ⟨fun _ => e106, fun z => absurd (cl_e q4.1 (by decide)) z⟩
    refine y_nx h98 (Nat.le_refl _) (fun m4 q4 => ?_)
    have h85 : yC (xg xs) (d + 1) 85 [.ref 2, .int (nI i)] m4 (fun r m' => r = none ∧ (RCe m0 T c p m' ∧ m'.1 17 5 = 69)) := by
      refine w85_0 xs d _ m4 _ ?_
      rw [nI_clamp (by omega)]
      exact ⟨x_in_nI (by omega) (by decide), rfl, q4.1.tr _ (by omega), by rw [y_si_at, if_neg (by omega)]; exact q4.2⟩
    exact y_nx h85 (by omega) (fun m5 q5 => st _ m5 q5.1 q5.2)
  refine w108_29 xs (d + 3) _ _ m _ ⟨fun _ => K m h, fun _ => ⟨fun _ => K m h, fun _ => ⟨fun _ => K m h, fun _ => ⟨fun _ => ex _ m h, fun _ => ?_⟩⟩⟩⟩
  exact y_nx (c77 xs d hT (X := .inr (c, p)) h 172 (by decide)) (by omega) (fun m1 q => ex _ m1 q)
theorem not69 {m0 m : yM} {T t o : Nat} {F : List ND} (hT : TKok m0 T) (h : RCo m0 T t o F m) : ¬ m0.1 9 t = 69 := fun x => by
  rcases Nat.lt_or_ge t T with u | u
  · exact (hT.2.2 t u).2.2 x
  · have eT : t = T := by have := h.2.2.1; omega
    rw [eT] at x
    rcases hT.2.1 with v | v
    · rw [v] at x; exact absurd x (by decide)
    · rw [v.1] at x; exact absurd x (by decide)
theorem c108L (xs : List Int32) (d : Nat) {m0 : yM} {T N : Nat} (hT : TKok m0 T) (oe : Nat) (l1 : Int32) (Q : Option Value → yM → Prop) : ∀ (n t o : Nat) (F : List ND) (m : yM) (r : PX), n ≤ 8192 → oe ≤ o → p_par m0 N n t o = some r → RCo m0 T t o F m → (∀ m', RC m0 T (aft F r) m' → yP (xg xs) (d + dA oe + 2) 108 117 [(0, .ref 17), (1, .int l1)] [] m' Q) → yP (xg xs) (d + dA oe + 2) 108 29 [(0, .ref 17), (1, .int l1), (2, .int (nI (8192 - n)))] [] m Q := by
  intro n
  induction n with
  | zero =>
    intro t o F m r hn ho e h K
    have e := Option.some.inj e
    subst e
    refine w108_29 xs (d + dA oe + 1) _ _ m _ ⟨fun _ => K m ?_, fun z => absurd (Int32.le_refl _) z⟩
    show RCo m0 T t o (F ++ []) m
    rw [List.append_nil]
    exact h
  | succ n ih =>
    intro t o F m r hn ho e h K
    have go := h.2.2.2.2.2.2.1
    have e : (if m0.1 9 t = 169 then some (.inl (t, o, [])) else po (some (if n + 1 = 8192 then .inl (t, o, []) else p_exp m0 172 t o)) (fun t o => po (p_par1 m0 N t o) (p_par m0 N n))) = some r := e
    refine w108_29 xs (d + dA oe + 1) _ _ m _ ?_
    rw [h.now]
    refine ⟨fun z => absurd z (nI_ge (b := 8192) (by omega) (by decide)), fun _ => ⟨fun z => ?_, fun z => ⟨fun y => absurd y (not69 hT h), fun _ => ?_⟩⟩⟩
    · rw [if_pos z] at e
      have e := Option.some.inj e
      subst e
      refine K m ?_
      show RCo m0 T t o (F ++ []) m
      rw [List.append_nil]
      exact h
    · rw [if_neg z] at e
      have main : ∀ (X : PX) (m1 : yM), X = (if n + 1 = 8192 then .inl (t, o, []) else p_exp m0 172 t o) → RC m0 T (aft F X) m1 → yP (xg xs) (d + dA oe + 1 + 1) 108 66 [(0, .ref 17), (1, .int l1), (2, .int (nI (8192 - (n + 1))))] [] m1 Q := by
        intro X m1 hX q1
        rw [← hX] at e
        have lX : lb o X := by
          rw [hX]
          intro t' o' G' u
          split at u
          · simp only [Sum.inl.injEq, Prod.mk.injEq] at u; omega
          · have := p_exp_o u; omega
        rcases X with ⟨t1, o1, G1⟩ | ⟨k, p⟩
        · have q1 : RCo m0 T t1 o1 (F ++ G1) m1 := q1
          have ho1 := lX t1 o1 G1 rfl
          rw [← po_a] at e
          obtain ⟨x2, e2⟩ := po_ex e
          have e2' := e2
          unfold po at e2'
          dsimp only at e2'
          obtain ⟨x1, e3⟩ : ∃ x1, p_par1 m0 N t1 o1 = some x1 := by
            rcases hz : p_par1 m0 N t1 o1 with _ | x1
            · rw [hz] at e2'; cases e2'
            · exact ⟨x1, rfl⟩
          rw [e3] at e2'
          simp only [Option.map_some, Option.some.injEq] at e2'
          obtain ⟨y, e4, hy⟩ := pnode_ex e3
          have e5 : po (po (some (p_exp m0 64 t1 o1)) (fun t o => some (p_exp m0 70 t o))) (exO m0 N) = some y := by
            rw [po_a]
            exact e4
          rw [po_t] at e5
          obtain ⟨a1, a2, a3, -⟩ := q1.at hT
          refine w108_66 xs (d + dA oe + 1) _ _ m1 _ ⟨a1, ?_⟩
          rw [a3]
          refine y_ex (c75o xs d hT q1 14 (m0.1 11 t1) (t1 + 1)) (by unfold dA; omega) (fun i m2 q2 => ?_)
          obtain ⟨hi, q2⟩ := q2
          refine y_nx (c77 xs d hT (X := .inl (t1, o1, F ++ G1 ++ [(14, m0.1 10 t1, m0.1 11 t1, t1 + 1, 1)])) q2 64 (by decide)) (by unfold dA; omega) (fun m3 q3 => ?_)
          refine y_nx (c77 xs d hT q3 70 (by decide)) (by unfold dA; omega) (fun m4 q4 => ?_)
          rw [p_bind_aft, p_bind_F] at q4
          have l1' : lb oe (p_bind (p_exp m0 64 t1 o1) (p_exp m0 70)) := by
            have l0 : lb oe (p_exp m0 64 t1 o1) := fun t' o' G' u => by have := p_exp_o u; omega
            exact l0.bind (fun t o t' o' G u => by have := p_exp_o u; omega)
          have e6 : po (some (aft (F ++ G1 ++ [(14, m0.1 10 t1, m0.1 11 t1, t1 + 1, 1)]) (p_bind (p_exp m0 64 t1 o1) (p_exp m0 70)))) (exO m0 N) = some (aft (F ++ G1 ++ [(14, m0.1 10 t1, m0.1 11 t1, t1 + 1, 1)]) y) := by rw [po_F, e5]; rfl
          refine y_nx (c98O xs d hT (lb.af _ l1') e6 q4) (Nat.le_refl _) (fun m5 q5 => ?_)
          refine y_nx (c85r xs d q5 hi) (by unfold dA; omega) (fun m6 q6 => ?_)
          rw [← hy] at q6
          rw [nI_1, show 8192 - (n + 1) + 1 = 8192 - n by omega]
          rw [e2] at e
          rw [← e2'] at e
          rw [po_F] at e
          rcases x1 with ⟨t2, o2, G2⟩ | ⟨k, p⟩
          · have q6 : RCo m0 T t2 o2 (F ++ G1 ++ G2) m6 := q6
            have ho2 := p_par1_o e3
            unfold po at e
            dsimp only at e
            rcases hr : p_par m0 N n t2 o2 with _ | r2
            · rw [hr] at e; cases e
            · rw [hr] at e
              simp only [Option.map_some, Option.some.injEq] at e
              refine ih t2 o2 (F ++ G1 ++ G2) m6 r2 (by omega) (by omega) hr q6 (fun m' q' => K m' ?_)
              rw [← e, aft_aft, aft_aft]
              exact q'
          · have e := Option.some.inj e
            subst e
            obtain ⟨D2, hD2⟩ : ∃ D2, d + dA oe + 2 = D2 + 4 := ⟨d + dA oe - 2, by unfold dA; omega⟩
            rw [hD2] at K
            show yP (xg xs) (d + dA oe + 2) _ _ _ _ _ _
            rw [hD2]
            exact c108x xs D2 hT q6 l1 Q (fun m' q' => K m' q') _
        · have e := Option.some.inj e
          subst e
          have q1 : RCe m0 T k p m1 := q1
          -- as in a fault
          refine w108_66 xs (d + dA oe + 1) _ _ m1 _ ⟨RC.x4 (X := .inr (k, p)) hT q1, ?_⟩
          refine y_ex (c75e xs d hT q1 14 _) (by unfold dA; omega) (fun i m2 q2 => ?_)
          obtain ⟨hi, q2⟩ := q2
          refine y_nx (c77 xs d hT (X := .inr (k, p)) q2 64 (by decide)) (by unfold dA; omega) (fun m3 q3 => ?_)
          refine y_nx (c77 xs d hT (X := .inr (k, p)) q3 70 (by decide)) (by unfold dA; omega) (fun m4 q4 => ?_)
          refine y_nx (c98e xs d hT q4 0 1 (by decide)) (by unfold dA; omega) (fun m5 q5 => ?_)
          refine y_nx (c85e xs d q5 hi) (by unfold dA; omega) (fun m6 q6 => ?_)
          obtain ⟨D2, hD2⟩ : ∃ D2, d + dA oe + 2 = D2 + 4 := ⟨d + dA oe - 2, by unfold dA; omega⟩
          rw [hD2] at K
          show yP (xg xs) (d + dA oe + 2) _ _ _ _ _ _
          rw [hD2]
          exact c108x xs D2 hT q6 l1 Q (fun m' q' => K m' q') _
      by_cases q0 : n + 1 = 8192
      · refine ⟨fun _ => main (.inl (t, o, [])) m (by rw [if_pos q0]) ?_, fun u => absurd (by rw [q0]; decide) u⟩
        show RCo m0 T t o (F ++ []) m
        rw [List.append_nil]
        exact h
      · refine ⟨fun u => absurd u (nI_nle (by omega) (by omega)), fun _ => ?_⟩
        refine y_nx (c77 xs d hT (X := .inl (t, o, F)) h 172 (by decide)) (by unfold dA; omega) (fun m1 q1 => ?_)
        rw [p_bind_aft] at q1
        exact main (p_exp m0 172 t o) m1 (by rw [if_neg q0]) q1
