/-! THE READER: assignments of the class -/
theorem getE_mid {F G : List ND} {x y : ND} {j : Nat} (h : ¬ j = F.length) : (F ++ x :: G)[j]? = (F ++ y :: G)[j]? := by
  rcases Nat.lt_or_ge j F.length with u | u
  · rw [List.getElem?_append_left u, List.getElem?_append_left u]
  · rw [List.getElem?_append_right u, List.getElem?_append_right u]
    obtain ⟨w, hw⟩ : ∃ w, j - F.length = w + 1 := ⟨j - F.length - 1, by omega⟩
    rw [hw, List.getElem?_cons_succ, List.getElem?_cons_succ]
theorem getE_at {F G : List ND} {x : ND} : (F ++ x :: G)[F.length]? = some x := by
  rw [List.getElem?_append_right (Nat.le_refl _), Nat.sub_self]
  rfl
/-- a node's place is set -/
theorem RCo.pl {m0 m : yM} {T t o : Nat} {F G : List ND} {k p v : Int32} {vt s : Nat} (h : RCo m0 T t o (F ++ (k, p, v, vt, s) :: G) m) {i : Nat} (hi : ndI F i) (p' : Int32) : RCo m0 T t o (F ++ (k, p', v, vt, s) :: G) (y_si m 4 i p') := by
  obtain ⟨kd, g4, gT, g5, g68, g6, go, g3, z, z1, z2, z3⟩ := h
  obtain ⟨i1, i2⟩ := hi
  have o7 : ∀ a b, a ≠ 4 → (y_si m 4 i p').1 a b = m.1 a b := fun a b ha => by rw [y_si_at, if_neg (fun u => ha u.1)]
  refine ⟨kd.si (by omega), by rw [o7 _ _ (by decide)]; exact g4, gT, by rw [o7 _ _ (by decide)]; exact g5, g68, by rw [o7 _ _ (by decide)]; exact g6, go, by rw [o7 _ _ (by decide)]; exact g3, z, by rw [o7 _ _ (by decide)]; exact z1, ⟨z2.1, fun i hi => by rw [o7 _ _ (by decide)]; exact z2.2 i hi⟩, fun hF => ?_⟩
  simp only [List.length_append, List.length_cons] at hF
  obtain ⟨e1, e2⟩ := z3 (by simp only [List.length_append, List.length_cons]; exact hF)
  have ei := i2 (by omega)
  subst ei
  simp only [List.length_append, List.length_cons] at e1 ⊢
  refine ⟨e1, fun j q hq => ?_⟩
  rw [o7 3 j (by decide), o7 5 j (by decide), o7 7 j (by decide), y_si_at]
  by_cases y : j = F.length
  · subst y
    rw [getE_at] at hq
    simp only [Option.some.injEq] at hq
    subst hq
    obtain ⟨q1, q2, q3, q4⟩ := e2 F.length _ getE_at
    exact ⟨q1, if_pos ⟨rfl, rfl⟩, q3, q4⟩
  · rw [getE_mid (y := (k, p, v, vt, s)) y] at hq
    obtain ⟨q1, q2, q3, q4⟩ := e2 j q hq
    rw [if_neg (fun u => y u.2)]
    exact ⟨q1, q2, q3, q4⟩
/-- a node's value is set -/
theorem RCo.vl {m0 m : yM} {T t o : Nat} {F G : List ND} {k p v : Int32} {vt s : Nat} (h : RCo m0 T t o (F ++ (k, p, v, vt, s) :: G) m) {i : Nat} (hi : ndI F i) (v' : Int32) (vt' : Nat) : RCo m0 T t o (F ++ (k, p, v', vt', s) :: G) (y_si m 5 i v') := by
  obtain ⟨kd, g4, gT, g5, g68, g6, go, g3, z, z1, z2, z3⟩ := h
  obtain ⟨i1, i2⟩ := hi
  have o7 : ∀ a b, a ≠ 5 → (y_si m 5 i v').1 a b = m.1 a b := fun a b ha => by rw [y_si_at, if_neg (fun u => ha u.1)]
  refine ⟨kd.si (by omega), by rw [o7 _ _ (by decide)]; exact g4, gT, by rw [o7 _ _ (by decide)]; exact g5, g68, by rw [o7 _ _ (by decide)]; exact g6, go, by rw [o7 _ _ (by decide)]; exact g3, z, by rw [o7 _ _ (by decide)]; exact z1, ⟨z2.1, fun i hi => by rw [o7 _ _ (by decide)]; exact z2.2 i hi⟩, fun hF => ?_⟩
  simp only [List.length_append, List.length_cons] at hF
  obtain ⟨e1, e2⟩ := z3 (by simp only [List.length_append, List.length_cons]; exact hF)
  have ei := i2 (by omega)
  subst ei
  simp only [List.length_append, List.length_cons] at e1 ⊢
  refine ⟨e1, fun j q hq => ?_⟩
  rw [o7 3 j (by decide), o7 4 j (by decide), o7 7 j (by decide), y_si_at]
  by_cases y : j = F.length
  · subst y
    rw [getE_at] at hq
    simp only [Option.some.injEq] at hq
    subst hq
    obtain ⟨q1, q2, q3, q4⟩ := e2 F.length _ getE_at
    exact ⟨q1, q2, if_pos ⟨rfl, rfl⟩, q4⟩
  · rw [getE_mid (y := (k, p, v, vt, s)) y] at hq
    obtain ⟨q1, q2, q3, q4⟩ := e2 j q hq
    rw [if_neg (fun u => y u.2)]
    exact ⟨q1, q2, q3, q4⟩
theorem RCe.tr {m0 m : yM} {T : Nat} {c p : Int32} (h : RCe m0 T c p m) {k i : Nat} (v : Int32) (hk : 3 ≤ k ∧ k ≤ 7) : RCe m0 T c p (y_si m k i v) := by
  obtain ⟨kd, ⟨t, t1, t2⟩, hc, hs, z, z1, z2⟩ := h
  have o : ∀ a b, a = 17 ∨ a = 2 → (y_si m k i v).1 a b = m.1 a b := fun a b ha => by rw [y_si_at, if_neg (by omega)]
  refine ⟨kd.si (by omega), ⟨t, t1, by rw [o _ _ (by decide)]; exact t2⟩, hc, ?_, z, by rw [o _ _ (by decide)]; exact z1, z2⟩
  rw [o 17 5 (by decide), o 17 3 (by decide), o 17 0 (by decide), o 17 4 (by decide)]
  exact hs
/-- what is assigned to -/
def p_tgt (m0 : yM) (N t o : Nat) : Option PX := if m0.1 9 (t + 1) = 219 then pnode 32 (m0.1 10 t) (m0.1 11 t) (t + 1) (po (some (p_step m0 t o)) (fun t o => po (some (p_into m0 t o)) (fun t o => po (exO m0 N t o) (fun t o => po (some (p_exp m0 221 t o)) pdec)))) else some (p_leaf m0 64 6 (m0.1 11 t) (t + 1) t o)
/-- the node of an assignment: its place is that of the token behind what is assigned to -/
def p_asgn (m0 : yM) (N t o : Nat) : Option PX := match p_tgt m0 N t o with
  | none => none
  | some (.inr e) => some (.inr e)
  | some (.inl (t1, o1, G1)) => pnode 12 (m0.1 10 t1) 0 0 ((po (some (p_exp m0 70 t1 o1)) (exO m0 N)).map (aft G1))
theorem c109 (xs : List Int32) (d : Nat) {m0 m : yM} {T N t o : Nat} {F : List ND} {r : PX} (hT : TKok m0 T) (h : RCo m0 T t o F m) (h64 : m0.1 9 t = 64) (lt : t < T) (e : p_asgn m0 N t o = some r) : yC (xg xs) (d + dA o + 2) 109 [.ref 17] m (fun r' m' => r' = none ∧ RC m0 T (aft F r) m') := by
  have hT1 := hT.1
  have go := h.2.2.2.2.2.2.1
  -- behind what is assigned to
  have tail : ∀ (i : Nat) (x : PX) (m' : yM), ndI F i → p_tgt m0 N t o = some x → RC m0 T (aft (F ++ [(12, m0.1 10 t, 0, 0, 1)]) x) m' → lb o x → yP (xg xs) (d + dA o + 1 + 1) 109 99 [(0, .ref 17), (1, .int (nI i))] [] m' (fun r' m' => r' = none ∧ RC m0 T (aft F r) m') := by
    intro i x m' hi ex q l
    have i1 := hi.1
    refine w109_99 xs (d + dA o + 1) _ m' _ ⟨q.x4 hT, x_in_nI (by omega) (by decide), ?_⟩
    rw [nI_clamp (by omega)]
    unfold p_asgn at e
    rw [ex] at e
    rcases x with ⟨t1, o1, G1⟩ | ⟨k, p⟩
    · have q1 : RCo m0 T t1 o1 (F ++ [(12, m0.1 10 t, 0, 0, 1)] ++ G1) m' := q
      rw [(q1.at hT).2.1]
      rw [List.append_assoc] at q1
      have q2 := q1.pl hi (m0.1 10 t1)
      have q2 : RC m0 T (.inl (t1, o1, F ++ (12, m0.1 10 t1, 0, 0, 1) :: G1)) (y_si m' 4 i (m0.1 10 t1)) := q2
      dsimp only at e
      obtain ⟨y, e1, hr⟩ := pnode_ex e
      obtain ⟨y2, e2⟩ : ∃ y2, po (some (p_exp m0 70 t1 o1)) (exO m0 N) = some y2 := by
        rcases hz : po (some (p_exp m0 70 t1 o1)) (exO m0 N) with _ | y2
        · rw [hz] at e1; cases e1
        · exact ⟨y2, rfl⟩
      rw [e2] at e1
      have e1 := Option.some.inj e1
      refine y_nx (c77 xs d hT q2 70 (by decide)) (by unfold dA; omega) (fun m2 q3 => ?_)
      rw [p_bind_aft] at q3
      have e3 : po (some (aft (F ++ (12, m0.1 10 t1, 0, 0, 1) :: G1) (p_exp m0 70 t1 o1))) (exO m0 N) = some (aft (F ++ (12, m0.1 10 t1, 0, 0, 1) :: G1) y2) := by rw [po_F, e2]; rfl
      have l1 : lb o (aft (F ++ (12, m0.1 10 t1, 0, 0, 1) :: G1) (p_exp m0 70 t1 o1)) := lb.af _ (fun t' o' G' u => by have u1 := p_exp_o u; have u2 := l t1 o1 G1 rfl; omega)
      refine y_nx (c98O xs d hT l1 e3 q3) (Nat.le_refl _) (fun m3 q4 => ?_)
      have q5 : RC m0 T (aft (F ++ [(12, m0.1 10 t1, 0, 0, 1)]) y) m3 := by
        rw [← e1, aft_aft, List.append_assoc]
        exact q4
      rw [hr]
      exact y_fin (c85r xs d q5 hi) (by unfold dA; omega)
    · have q1 : RCe m0 T k p m' := q
      have e := Option.some.inj e
      subst e
      refine y_nx (c77 xs d hT (X := .inr (k, p)) (q1.tr _ (by omega)) 70 (by decide)) (by unfold dA; omega) (fun m2 q3 => ?_)
      refine y_nx (c98e xs d hT q3 0 1 (by decide)) (by unfold dA; omega) (fun m3 q4 => ?_)
      exact y_fin (c85e xs d q4 hi.1) (by unfold dA; omega)
  refine w109_0 xs (d + dA o + 1) m _ ?_
  refine yC.mono (by unfold dA; omega) ?_ (c75o xs d hT h 12 0 0)
  rintro r' m1 ⟨i, rfl, hi, q⟩
  refine ⟨_, rfl, ?_⟩
  refine y_ci (c91 xs d hT q lt) (by unfold dA; omega) ?_
  obtain ⟨a1, a2, a3, -⟩ := q.at hT
  refine ⟨fun z => ⟨a1, ?_⟩, fun z => ⟨a1, ?_⟩⟩
  · have et : p_tgt m0 N t o = some (p_leaf m0 64 6 (m0.1 11 t) (t + 1) t o) := by unfold p_tgt; rw [if_neg z]
    refine y_nx (c82v xs d hT (X := .inl (t, o, F ++ [(12, m0.1 10 t, 0, 0, 1)])) q 64 6 (fun t => t + 1) (by decide)) (by unfold dA; omega) (fun m2 q2 => ?_)
    rw [p_bind_aft] at q2
    exact tail i _ m2 hi et q2 (fun t' o' G' u => by have := p_leaf_o u; omega)
  · rw [a3]
    have st : p_step m0 t o = .inl (t + 1, o, []) := by unfold p_step; rw [if_neg (fun y => absurd (z.symm.trans y) (by decide))]
    have et : p_tgt m0 N t o = pnode 32 (m0.1 10 t) (m0.1 11 t) (t + 1) (po (some (p_into m0 (t + 1) o)) (fun t o => po (exO m0 N t o) (fun t o => po (some (p_exp m0 221 t o)) pdec))) := by unfold p_tgt; rw [if_pos z, st, po_inl]
    -- it is known, else there would be no r
    obtain ⟨x, ex⟩ : ∃ x, p_tgt m0 N t o = some x := by
      rcases hz : p_tgt m0 N t o with _ | x
      · unfold p_asgn at e; rw [hz] at e; cases e
      · exact ⟨x, rfl⟩
    rw [et] at ex
    obtain ⟨y, e1, hx⟩ := pnode_ex ex
    have e2 : po (po (po (some (p_into m0 (t + 1) o)) (exO m0 N)) (fun t o => some (p_exp m0 221 t o))) pdec = some y := by
      rw [po_a, po_a]
      exact e1
    obtain ⟨x3, e3⟩ := po_ex e2
    obtain ⟨x2, e4⟩ := po_ex e3
    rw [e4, po_t, pdec_t, po_t] at e2
    have e2 := Option.some.inj e2
    refine yC.mono (by unfold dA; omega) ?_ (c75o xs d hT q 32 (m0.1 11 t) (t + 1))
    rintro r2 m2 ⟨i2, rfl, hi2, q2⟩
    refine ⟨_, rfl, ?_⟩
    refine y_nx (c76 xs d hT q2 lt) (by unfold dA; omega) (fun m3 q3 => ?_)
    rw [p_bind_aft, st] at q3
    have q3 : RCo m0 T (t + 1) o (F ++ [(12, m0.1 10 t, 0, 0, 1)] ++ [(32, m0.1 10 t, m0.1 11 t, t + 1, 1)] ++ []) m3 := q3
    rw [List.append_nil] at q3
    have lt2 : t + 1 < T := q3.lt hT (k := 219) (by decide) z
    refine y_nx (c97 xs d hT q3 lt2) (by unfold dA; omega) (fun m4 q4 => ?_)
    rw [p_bind_aft] at q4
    have l0 : lb (o + 1) (p_into m0 (t + 1) o) := fun t' o' G' u => by have := p_into_o u; omega
    have e5 : po (some (aft (F ++ [(12, m0.1 10 t, 0, 0, 1)] ++ [(32, m0.1 10 t, m0.1 11 t, t + 1, 1)]) (p_into m0 (t + 1) o))) (exO m0 N) = some (aft (F ++ [(12, m0.1 10 t, 0, 0, 1)] ++ [(32, m0.1 10 t, m0.1 11 t, t + 1, 1)]) x2) := by rw [po_F, e4]; rfl
    have l2 : lb (o + 1) x2 := l0.pk (fun t o t' o' G u => by have := exO_o u; omega) e4
    refine y_nx (c98O xs d hT ((lb.af _ l0).mono (Nat.le_succ o)) e5 q4) (Nat.le_refl _) (fun m5 q5 => ?_)
    refine y_nx (c77 xs d hT q5 221 (by decide)) (by unfold dA; omega) (fun m6 q6 => ?_)
    have l3 := (lb.af (F ++ [(12, m0.1 10 t, 0, 0, 1)] ++ [(32, m0.1 10 t, m0.1 11 t, t + 1, 1)]) l2).bind (g := p_exp m0 221) (fun t o t' o' G u => by have := p_exp_o u; omega)
    have q7 := q6.dec (l3.mono (by omega))
    rw [p_bind_F, p_bind_F, e2] at q7
    refine y_nx (c85r xs d q7 hi2) (by unfold dA; omega) (fun m7 q8 => ?_)
    rw [← hx] at q8
    refine tail i x m7 hi (et.trans ex) q8 ?_
    rw [hx]
    intro t' o' G' u
    obtain ⟨G1, u1, -⟩ := p_node_o u
    rw [← e2] at u1
    have l4 : lb (o + 1) (p_bind x2 (p_exp m0 221)) := l2.bind (fun t o t' o' G u => by have := p_exp_o u; omega)
    rcases hw : p_bind x2 (p_exp m0 221) with ⟨t9, o9, G9⟩ | e9
    · rw [hw, p_bind_aft] at u1
      simp only [ddec, aft, Sum.inl.injEq, Prod.mk.injEq] at u1
      have := l4 t9 o9 G9 hw
      omega
    · rw [hw] at u1; cases u1
