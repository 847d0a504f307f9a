/-! THE READER: IF, CASE, FOR of the class; all statements -/
theorem elsx {xs : List Int32} {d : Nat} {m0 : yM} {T : Nat} (hT : TKok m0 T) {rc : SR} (hB : okBd xs d m0 T rc) {P : List ND} {x4 x5 : PX} {m : yM} {O D : Nat} (R : yM → Prop) (ho : opn O x4) (h1 : O ≤ 60 → d + dA O + 7 ≤ D) (h2 : d + 2 ≤ D) (e : po (some x4) (p_else m0 rc) = some x5) (q : RC m0 T (aft P x4) m) (K : ∀ m', RC m0 T (aft P x5) m' → R m') : (¬ m.1 17 5 = 19 → R m) ∧ (m.1 17 5 = 19 → yC (xg xs) D 76 [.ref 17] m (fun v1 m1 => v1 = none ∧ yC (xg xs) D 93 [.ref 17] m1 (fun v2 m2 => v2 = none ∧ R m2))) := by
  refine ⟨fun z => K m ?_, fun z => ?_⟩
  · rcases x4 with ⟨t, o, G⟩ | ⟨c, p⟩
    · have q1 : RCo m0 T t o (P ++ G) m := q
      have z2 : ¬ m0.1 9 t = 19 := fun y => z (q1.now.trans y)
      have e : (p_else m0 rc t o).map (aft G) = some x5 := e
      unfold p_else at e
      rw [if_neg z2] at e
      simp only [unit_, Option.map_some, Option.some.injEq] at e
      rw [← e]
      simp only [aft, List.append_nil]
      exact q1
    · have e := Option.some.inj e
      subst e
      exact q
  · rcases x4 with ⟨t, o, G⟩ | ⟨c, p⟩
    · have q1 : RCo m0 T t o (P ++ G) m := q
      have z2 : m0.1 9 t = 19 := q1.now.symm.trans z
      have oo := ho t o G rfl
      have e : (p_else m0 rc t o).map (aft G) = some x5 := e
      unfold p_else at e
      rw [if_pos z2] at e
      refine y_nx (c76 xs d hT q1 (q1.lt hT (by decide) z2)) (by omega) (fun m1 q2 => ?_)
      rw [p_bind_aft] at q2
      have os : opn O (p_step m0 t o) := fun t' o' G' u => by have := p_step_o u; omega
      obtain ⟨y, hy⟩ : ∃ y, po (some (p_step m0 t o)) (rc 0 0) = some y := by
        rcases hz : po (some (p_step m0 t o)) (rc 0 0) with _ | y
        · rw [hz] at e; cases e
        · exact ⟨y, rfl⟩
      rw [hy] at e
      simp only [Option.map_some, Option.some.injEq] at e
      have e2 : po (some (aft (P ++ G) (p_step m0 t o))) (rc 0 0) = some (aft (P ++ G) y) := by rw [po_F, hy]; rfl
      refine y_nx (hB.x hT (os.af _) h1 h2 e2 q2) (Nat.le_refl _) (fun m2 q3 => K m2 ?_)
      rw [← e, aft_aft]
      exact q3
    · exact absurd z (RCe.ne q (by decide))
theorem pomap {x : PX} {k : Nat → Nat → Option PX} {y : PX} (P : List ND) (h : po (some x) k = some y) : po (some (aft P x)) k = some (aft P y) := by rw [po_F, h]; rfl
theorem dA_s {o : Nat} (h : o + 1 ≤ 60) : dA o = dA (o + 1) + 3 := by unfold dA; omega
theorem dA_5 (o : Nat) : 5 ≤ dA o := by unfold dA; omega
theorem dA_m {a b : Nat} (h : a ≤ b) : dA b ≤ dA a := by unfold dA; omega
theorem stepJ {xs : List Int32} {d : Nat} {m0 : yM} {T N : Nat} (hT : TKok m0 T) {rc : SR} (hq : eqP rc) (hB : okBd xs d m0 T rc) (hJ : okLp xs d m0 T rc 4 96 30 72) : okLp xs d m0 T (pS m0 N rc) 4 96 30 72 := by
  intro q t o F m r l1 Q hq1 e0 h K
  have e : (if q = 0 then unit_ t o else if m0.1 9 t = 18 then po (po (po (po (some (p_step m0 t o)) (exO m0 N)) (fun t o => some (p_exp m0 17 t o))) (rc 0 0)) (rc 4 (q - 1)) else unit_ t o) = some r := e0
  clear e0
  have go := h.2.2.2.2.2.2.1
  have d5 := dA_5 o
  rcases q with _ | n
  · rw [if_pos rfl] at e
    have e := Option.some.inj e
    subst e
    exact w96_30 xs (d + dA o + 7) _ _ m _ ⟨fun _ => K m h.nil, fun z => absurd (Int32.le_refl _) z⟩
  · rw [if_neg (by omega)] at e
    refine w96_30 xs (d + dA o + 7) _ _ m _ ⟨fun z => absurd z (nI_ge (b := 8192) (by omega) (by decide)), fun _ => ?_⟩
    rw [h.now]
    refine ⟨fun z => ?_, fun z => ?_⟩
    · rw [if_neg z] at e
      have e := Option.some.inj e
      subst e
      exact K m h.nil
    · rw [if_pos z] at e
      obtain ⟨x3, h3⟩ := po_ex e
      obtain ⟨x2, h2⟩ := po_ex h3
      obtain ⟨x1, h1⟩ := po_ex h2
      rw [h1, po_t] at h2
      have h2' := Option.some.inj h2
      rw [h1, po_t, h2'] at h3
      rw [h1, po_t, h2', h3] at e
      refine y_nx (c76 xs d hT h (h.lt hT (by decide) z)) (by omega) (fun m1 q1 => ?_)
      rw [p_bind_aft] at q1
      have i0 : opn o (p_step m0 t o) := fun t' o' G' u => by have := p_step_o u; omega
      have i1 : opn o x1 := i0.pk (fun _ _ _ _ _ u => exO_o u) h1
      have i2 : opn o x2 := by rw [← h2']; exact i1.bind (exq m0 17)
      have i3 : opn o x3 := i2.pk (fun _ _ _ _ _ u => hq _ _ _ _ _ _ _ u) h3
      refine y_nx (c98O xs d hT (i0.af F).lb (pomap F h1) q1) (by omega) (fun m2 q2 => ?_)
      refine y_nx (c77 xs d hT q2 17 (by decide)) (by omega) (fun m3 q3 => ?_)
      rw [p_bind_F, h2'] at q3
      refine y_nx (hB.x hT (i2.af F) (fun _ => Nat.le_refl _) (by omega) (pomap F h3) q3) (Nat.le_refl _) (fun m4 q4 => ?_)
      rw [nI_1, show 8192 - (n + 1) + 1 = 8192 - n by omega]
      rcases x3 with ⟨t1, o1, G⟩ | ⟨c, p⟩
      · have q4 : RCo m0 T t1 o1 (F ++ G) m4 := q4
        have ho := (i3 t1 o1 G rfl).1
        subst ho
        have e : (rc 4 n t1 o1).map (aft G) = some r := e
        rcases hr : rc 4 n t1 o1 with _ | y
        · rw [hr] at e; cases e
        · rw [hr] at e
          simp only [Option.map_some, Option.some.injEq] at e
          refine hJ n t1 o1 (F ++ G) m4 y l1 Q (by omega) hr q4 (fun m2 q2 => K m2 ?_)
          rw [← e, aft_aft]
          exact q2
      · have e := Option.some.inj e
        subst e
        have K := K m4 q4
        exact w96_30 xs (d + dA o + 7) _ _ m4 _ ⟨fun _ => K, fun _ => ⟨fun _ => K, fun y => absurd y (RCe.ne q4 (by decide))⟩⟩
theorem stepIf {xs : List Int32} {d : Nat} {m0 : yM} {T N : Nat} (hT : TKok m0 T) {rc : SR} (hq : eqP rc) (hB : okBd xs d m0 T rc) (hJ : okLp xs d m0 T rc 4 96 30 72) : okCp xs d m0 T (pS m0 N rc) 3 96 16 := by
  intro t o F m r h16 e0 h
  have e : pnode 15 (m0.1 10 t) 0 0 (po (po (po (po (po (po (po (some (p_into m0 t o)) (exO m0 N)) (fun t o => some (p_exp m0 17 t o))) (rc 0 0)) (rc 4 8192)) (p_else m0 rc)) (fun t o => some (p_exp m0 20 t o))) pdec) = some r := e0
  clear e0
  have lt : t < T := h.lt hT (by decide) h16
  have d5 := dA_5 o
  obtain ⟨y, e1, hr⟩ := pnode_ex e
  clear e
  obtain ⟨x6, h6⟩ := po_ex e1
  obtain ⟨x5, h5⟩ := po_ex h6
  obtain ⟨x4, h4⟩ := po_ex h5
  obtain ⟨x3, h3⟩ := po_ex h4
  obtain ⟨x2, h2⟩ := po_ex h3
  obtain ⟨x1, h1⟩ := po_ex h2
  rw [h6, pdec_t, po_t] at e1
  rw [h5, po_t] at h6
  rw [h4] at h5
  rw [h3] at h4
  rw [h2] at h3
  rw [h1, po_t] at h2
  have e1 := Option.some.inj e1
  have h6 := Option.some.inj h6
  have h2 := Option.some.inj h2
  have i0 : opn (o + 1) (p_into m0 t o) := fun t' o' G' u => by have := p_into_o u; omega
  have i1 : opn (o + 1) x1 := i0.pk (fun _ _ _ _ _ u => exO_o u) h1
  have i2 : opn (o + 1) x2 := by rw [← h2]; exact i1.bind (exq m0 17)
  have i3 : opn (o + 1) x3 := i2.pk (fun _ _ _ _ _ u => hq _ _ _ _ _ _ _ u) h3
  have i4 : opn (o + 1) x4 := i3.pk (fun _ _ _ _ _ u => hq _ _ _ _ _ _ _ u) h4
  have i5 : opn (o + 1) x5 := i4.pk (fun _ _ _ _ _ u => p_else_o hq u) h5
  have i6 : opn (o + 1) x6 := by rw [← h6]; exact i5.bind (exq m0 20)
  have hd1 : o + 1 ≤ 60 → d + dA (o + 1) + 7 ≤ d + dA o + 4 := fun u => by have := dA_s u; omega
  refine w96_0 xs (d + dA o + 4) m _ ?_
  refine y_ex (c75o xs d hT h 15 0 0) (by omega) (fun i m1 q1 => ?_)
  obtain ⟨hi, q1⟩ := q1
  have K89 : ∀ m', RC m0 T (aft (F ++ [(15, m0.1 10 t, 0, 0, 1)]) x5) m' → yP (xg xs) (d + dA o + 4 + 1) 96 89 [(0, .ref 17), (1, .int (nI i))] [] m' (fun r' m' => r' = none ∧ RC m0 T (aft F r) m') := by
    intro m' q
    refine w96_89 xs (d + dA o + 4) _ m' _ ?_
    refine y_nx (c77 xs d hT q 20 (by decide)) (by omega) (fun m2 q2 => ?_)
    rw [p_bind_F, h6] at q2
    have q3 := q2.dec ((i6.af _).lb.mono (by omega))
    rw [p_bind_F, e1] at q3
    rw [hr]
    exact y_fin (c85r xs d q3 hi) (by omega)
  have K72 : ∀ m', RC m0 T (aft (F ++ [(15, m0.1 10 t, 0, 0, 1)]) x4) m' → yP (xg xs) (d + dA o + 4 + 1) 96 72 [(0, .ref 17), (1, .int (nI i))] [] m' (fun r' m' => r' = none ∧ RC m0 T (aft F r) m') := by
    intro m' q
    exact w96_72 xs (d + dA o + 4) _ m' _ (elsx hT hB (fun m' => yP (xg xs) (d + dA o + 4 + 1) 96 89 [(0, .ref 17), (1, .int (nI i))] [] m' (fun r' m' => r' = none ∧ RC m0 T (aft F r) m')) i4 hd1 (by omega) h5 q K89)
  refine y_nx (c97 xs d hT q1 lt) (by omega) (fun m2 q2 => ?_)
  rw [p_bind_aft] at q2
  refine y_nx (c98O xs d hT (i0.af (F ++ [(15, m0.1 10 t, 0, 0, 1)])).lb (pomap _ h1) q2) (by have := dA_m (show o ≤ o + 1 by omega); omega) (fun m3 q3 => ?_)
  refine y_nx (c77 xs d hT q3 17 (by decide)) (by omega) (fun m4 q4 => ?_)
  rw [p_bind_F, h2] at q4
  refine y_nx (hB.x hT (i2.af _) hd1 (by omega) (pomap _ h3) q4) (Nat.le_refl _) (fun m5 q5 => ?_)
  rcases x3 with ⟨t3, o3, G3⟩ | ⟨c, p⟩
  · have q5 : RCo m0 T t3 o3 (F ++ [(15, m0.1 10 t, 0, 0, 1)] ++ G3) m5 := q5
    obtain ⟨ho, h60⟩ := i3 t3 o3 G3 rfl
    subst ho
    have hd : d + dA (o + 1) + 8 = d + dA o + 4 + 1 := by have := dA_s h60; omega
    have h4 : (rc 4 8192 t3 (o + 1)).map (aft G3) = some x4 := h4
    rcases hz : rc 4 8192 t3 (o + 1) with _ | z
    · rw [hz] at h4; cases h4
    · rw [hz] at h4
      simp only [Option.map_some, Option.some.injEq] at h4
      have := hJ 8192 t3 (o + 1) _ m5 z (nI i) (fun r' m' => r' = none ∧ RC m0 T (aft F r) m') (Nat.le_refl _) hz q5 (fun m' q' => by
        rw [hd]
        refine K72 m' ?_
        rw [← h4, aft_aft]
        exact q')
      rw [hd] at this
      exact this
  · have h4 := Option.some.inj h4
    subst h4
    have K := K72 m5 q5
    exact w96_30 xs (d + dA o + 4) _ _ m5 _ ⟨fun _ => K, fun _ => ⟨fun _ => K, fun y => absurd y (RCe.ne q5 (by decide))⟩⟩
theorem c104x (xs : List Int32) (d : Nat) {m0 m : yM} {T : Nat} {c p : Int32} (h : RCe m0 T c p m) (l1 : Int32) (Q : Option Value → yM → Prop) (K : yP (xg xs) (d + 2) 104 77 [(0, .ref 17), (1, .int l1)] [] m Q) (l2 : Int32) : yP (xg xs) (d + 2) 104 26 [(0, .ref 17), (1, .int l1), (2, .int l2)] [] m Q := by
  refine w104_26 xs (d + 1) _ _ m _ ⟨fun _ => K, fun _ => ?_⟩
  refine y_ci (c105 xs d m) (by omega) ?_
  rw [if_neg h.nc]
  exact ⟨fun _ => K, fun z => absurd rfl z⟩
theorem stepK {xs : List Int32} {d : Nat} {m0 : yM} {T N : Nat} (hT : TKok m0 T) {rc : SR} (hq : eqP rc) (hB : okBd xs d m0 T rc) (hJ : okLp xs d m0 T rc 6 104 26 77) : okLp xs d m0 T (pS m0 N rc) 6 104 26 77 := by
  intro q t o F m r l1 Q hq1 e0 h K
  have e : (if q = 0 then unit_ t o else if stC (m0.1 9 t) then po (pnode 17 (m0.1 10 t) 0 0 (po (po (some (p_rng m0 8192 t o)) (fun t o => some (p_exp m0 186 t o))) (rc 0 0))) (rc 6 (q - 1)) else unit_ t o) = some r := e0
  clear e0
  have go := h.2.2.2.2.2.2.1
  have d5 := dA_5 o
  rcases q with _ | n
  · rw [if_pos rfl] at e
    have e := Option.some.inj e
    subst e
    exact w104_26 xs (d + dA o + 7) _ _ m _ ⟨fun _ => K m h.nil, fun z => absurd (Int32.le_refl _) z⟩
  · rw [if_neg (by omega)] at e
    refine w104_26 xs (d + dA o + 7) _ _ m _ ⟨fun z => absurd z (nI_ge (b := 8192) (by omega) (by decide)), fun _ => ?_⟩
    refine y_ci (c105 xs d m) (by omega) ?_
    rw [h.now]
    by_cases hs : stC (m0.1 9 t)
    · rw [if_pos hs] at e ⊢
      refine ⟨fun z => absurd z (by decide), fun _ => ?_⟩
      obtain ⟨x3, h3⟩ := po_ex e
      rw [h3] at e
      obtain ⟨y, h2, hy⟩ := pnode_ex h3
      obtain ⟨x1, h1⟩ := po_ex h2
      rw [h1] at h2
      rw [po_t] at h1
      have h1 := Option.some.inj h1
      have i0 : opn o (p_rng m0 8192 t o) := fun t' o' G' u => by have := p_rng_o u; omega
      have i1 : opn o x1 := by rw [← h1]; exact i0.bind (exq m0 186)
      have i2 : opn o y := i1.pk (fun _ _ _ _ _ u => hq _ _ _ _ _ _ _ u) h2
      refine y_ex (c75o xs d hT h 17 0 0) (by omega) (fun i m1 q1 => ?_)
      obtain ⟨hi, q1⟩ := q1
      refine y_nx (c106 xs d hT q1) (by omega) (fun m2 q2 => ?_)
      refine y_nx (c77 xs d hT q2 186 (by decide)) (by omega) (fun m3 q3 => ?_)
      rw [p_bind_F, h1] at q3
      refine y_nx (hB.x hT (i1.af _) (fun _ => Nat.le_refl _) (by omega) (pomap _ h2) q3) (Nat.le_refl _) (fun m4 q4 => ?_)
      refine y_nx (c85r xs d q4 hi) (by omega) (fun m5 q5 => ?_)
      rw [← hy] at q5
      rw [nI_1, show 8192 - (n + 1) + 1 = 8192 - n by omega]
      rcases x3 with ⟨t1, o1, G⟩ | ⟨c, p⟩
      · have q5 : RCo m0 T t1 o1 (F ++ G) m5 := q5
        have ho : o1 = o := by
          obtain ⟨_, u, -⟩ := p_node_o hy.symm
          exact (i2 _ _ _ u).1
        subst ho
        have e : (rc 6 n t1 o1).map (aft G) = some r := e
        rcases hr : rc 6 n t1 o1 with _ | y
        · rw [hr] at e; cases e
        · rw [hr] at e
          simp only [Option.map_some, Option.some.injEq] at e
          refine hJ n t1 o1 (F ++ G) m5 y l1 Q (by omega) hr q5 (fun m2 q2 => K m2 ?_)
          rw [← e, aft_aft]
          exact q2
      · have e := Option.some.inj e
        subst e
        obtain ⟨D2, hD2⟩ : ∃ D2, d + dA o + 8 = D2 + 2 := ⟨d + dA o + 6, by omega⟩
        have K := K m5 q5
        show yP (xg xs) (d + dA o + 8) _ _ _ _ _ _
        rw [hD2] at K ⊢
        exact c104x xs D2 q5 l1 Q K _
    · rw [if_neg hs] at e ⊢
      have e := Option.some.inj e
      subst e
      exact ⟨fun _ => K m h.nil, fun z => absurd rfl z⟩
theorem stepCs {xs : List Int32} {d : Nat} {m0 : yM} {T N : Nat} (hT : TKok m0 T) {rc : SR} (hq : eqP rc) (hB : okBd xs d m0 T rc) (hJ : okLp xs d m0 T rc 6 104 26 77) : okCp xs d m0 T (pS m0 N rc) 5 104 21 := by
  intro t o F m r h16 e0 h
  have e : pnode 16 (m0.1 10 t) 0 0 (po (po (po (po (po (po (some (p_into m0 t o)) (exO m0 N)) (fun t o => some (p_exp m0 15 t o))) (rc 6 8192)) (p_else m0 rc)) (fun t o => some (p_exp m0 22 t o))) pdec) = some r := e0
  clear e0
  have lt : t < T := h.lt hT (by decide) h16
  have d5 := dA_5 o
  obtain ⟨y, e1, hr⟩ := pnode_ex e
  clear e
  obtain ⟨x6, h6⟩ := po_ex e1
  obtain ⟨x5, h5⟩ := po_ex h6
  obtain ⟨x4, h4⟩ := po_ex h5
  obtain ⟨x2, h2⟩ := po_ex h4
  obtain ⟨x1, h1⟩ := po_ex h2
  rw [h6, pdec_t, po_t] at e1
  rw [h5, po_t] at h6
  rw [h4] at h5
  rw [h2] at h4
  rw [h1, po_t] at h2
  have e1 := Option.some.inj e1
  have h6 := Option.some.inj h6
  have h2 := Option.some.inj h2
  have i0 : opn (o + 1) (p_into m0 t o) := fun t' o' G' u => by have := p_into_o u; omega
  have i1 : opn (o + 1) x1 := i0.pk (fun _ _ _ _ _ u => exO_o u) h1
  have i2 : opn (o + 1) x2 := by rw [← h2]; exact i1.bind (exq m0 15)
  have i4 : opn (o + 1) x4 := i2.pk (fun _ _ _ _ _ u => hq _ _ _ _ _ _ _ u) h4
  have i5 : opn (o + 1) x5 := i4.pk (fun _ _ _ _ _ u => p_else_o hq u) h5
  have i6 : opn (o + 1) x6 := by rw [← h6]; exact i5.bind (exq m0 22)
  have hd1 : o + 1 ≤ 60 → d + dA (o + 1) + 7 ≤ d + dA o + 4 := fun u => by have := dA_s u; omega
  refine w104_0 xs (d + dA o + 4) m _ ?_
  refine y_ex (c75o xs d hT h 16 0 0) (by omega) (fun i m1 q1 => ?_)
  obtain ⟨hi, q1⟩ := q1
  have K94 : ∀ m', RC m0 T (aft (F ++ [(16, m0.1 10 t, 0, 0, 1)]) x5) m' → yP (xg xs) (d + dA o + 4 + 1) 104 94 [(0, .ref 17), (1, .int (nI i))] [] m' (fun r' m' => r' = none ∧ RC m0 T (aft F r) m') := by
    intro m' q
    refine w104_94 xs (d + dA o + 4) _ m' _ ?_
    refine y_nx (c77 xs d hT q 22 (by decide)) (by omega) (fun m2 q2 => ?_)
    rw [p_bind_F, h6] at q2
    have q3 := q2.dec ((i6.af _).lb.mono (by omega))
    rw [p_bind_F, e1] at q3
    rw [hr]
    exact y_fin (c85r xs d q3 hi) (by omega)
  have K77 : ∀ m', RC m0 T (aft (F ++ [(16, m0.1 10 t, 0, 0, 1)]) x4) m' → yP (xg xs) (d + dA o + 4 + 1) 104 77 [(0, .ref 17), (1, .int (nI i))] [] m' (fun r' m' => r' = none ∧ RC m0 T (aft F r) m') := by
    intro m' q
    exact w104_77 xs (d + dA o + 4) _ m' _ (elsx hT hB (fun m' => yP (xg xs) (d + dA o + 4 + 1) 104 94 [(0, .ref 17), (1, .int (nI i))] [] m' (fun r' m' => r' = none ∧ RC m0 T (aft F r) m')) i4 hd1 (by omega) h5 q K94)
  refine y_nx (c97 xs d hT q1 lt) (by omega) (fun m2 q2 => ?_)
  rw [p_bind_aft] at q2
  refine y_nx (c98O xs d hT (i0.af (F ++ [(16, m0.1 10 t, 0, 0, 1)])).lb (pomap _ h1) q2) (by have := dA_m (show o ≤ o + 1 by omega); omega) (fun m3 q3 => ?_)
  refine y_nx (c77 xs d hT q3 15 (by decide)) (by omega) (fun m4 q4 => ?_)
  rw [p_bind_F, h2] at q4
  rcases x2 with ⟨t3, o3, G3⟩ | ⟨c, p⟩
  · have q5 : RCo m0 T t3 o3 (F ++ [(16, m0.1 10 t, 0, 0, 1)] ++ G3) m4 := q4
    obtain ⟨ho, h60⟩ := i2 t3 o3 G3 rfl
    subst ho
    have hd : d + dA (o + 1) + 8 = d + dA o + 4 + 1 := by have := dA_s h60; omega
    have h4 : (rc 6 8192 t3 (o + 1)).map (aft G3) = some x4 := h4
    rcases hz : rc 6 8192 t3 (o + 1) with _ | z
    · rw [hz] at h4; cases h4
    · rw [hz] at h4
      simp only [Option.map_some, Option.some.injEq] at h4
      have := hJ 8192 t3 (o + 1) _ m4 z (nI i) (fun r' m' => r' = none ∧ RC m0 T (aft F r) m') (Nat.le_refl _) hz q5 (fun m' q' => by
        rw [hd]
        refine K77 m' ?_
        rw [← h4, aft_aft]
        exact q')
      rw [hd] at this
      exact this
  · have h4 := Option.some.inj h4
    subst h4
    have K := K77 m4 q4
    obtain ⟨D2, hD2⟩ : ∃ D2, d + dA o + 4 + 1 = D2 + 2 := ⟨d + dA o + 3, by omega⟩
    rw [hD2] at K ⊢
    exact c104x xs D2 q4 _ _ K _
