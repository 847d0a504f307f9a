/-! THE READER: expressions of the class, the turns -/
theorem pnode_ex {k p v : Int32} {vt : Nat} {x : Option PX} {r : PX} (h : pnode k p v vt x = some r) : ∃ y, x = some y ∧ r = p_node k p v vt y := by
  rcases x with _ | y
  · cases h
  · exact ⟨y, rfl, (Option.some.inj h).symm⟩
theorem pdec_t : pdec = fun t o => some (ddec t o) := rfl
theorem stepA {xs : List Int32} {d : Nat} {m0 : yM} {T : Nat} (hT : TKok m0 T) {rc : Nat → Int32 → Nat → List ND → Nat → Nat → Option PX} (hM : moP m0 rc) (hA : okA xs d m0 T rc) (hB : okB xs d m0 T rc) (hN : ∀ t o F m r, m0.1 9 t = 64 → t < T → pNm m0 rc t o = some r → RCo m0 T t o F m → yC (xg xs) (d + dA o - 1) 100 [.ref 17] m (fun r' m' => r' = none ∧ RC m0 T (aft F r) m')) : okA xs d m0 T (pE m0 rc) := by
  intro t o F m r e h
  have go := h.2.2.2.2.2.2.1
  have nw := h.now
  obtain ⟨a1, a2, a3, -⟩ := h.at hT
  obtain ⟨D, hD⟩ : ∃ D, d + dA o = D + 1 := ⟨d + dA o - 1, by unfold dA; omega⟩
  have hD4 : d + 4 ≤ D := by unfold dA at hD; omega
  rw [hD]
  -- a sign or NOT
  have un : (m0.1 9 t = 34 ∨ m0.1 9 t = 173) → ∀ v : Int32, v = (if m0.1 9 t = 34 then 1 else 0) → yP (xg xs) (D + 1) 99 89 [(0, .ref 17)] [.int v, .int (36 : Int32), .ref 17] m (fun r' m' => r' = none ∧ RC m0 T (aft F r) m') := by
    intro z v hv
    have lt : t < T := z.elim (fun y => h.lt hT (k := 34) (by decide) y) (fun y => h.lt hT (k := 173) (by decide) y)
    have e1 : pnode 36 (m0.1 10 t) v 0 (po (some (p_into m0 t o)) (fun t o => po (rc 0 0 0 [] t o) pdec)) = some r := by
      rw [← e, hv]
      show _ = (if m0.1 9 t = 34 ∨ m0.1 9 t = 173 then _ else _)
      rw [if_pos z]
    obtain ⟨y, e2, rfl⟩ := pnode_ex e1
    rw [← po_a] at e2
    obtain ⟨x2, e3⟩ := po_ex e2
    rw [e3, pdec_t, po_t] at e2
    have e2 := Option.some.inj e2
    subst e2
    refine w99_89 xs D _ _ m _ ?_
    refine yC.mono (by omega) ?_ (c75o xs d hT h 36 v 0)
    rintro r' m1 ⟨i, rfl, hi, q⟩
    refine ⟨_, rfl, ?_⟩
    refine y_nx (c97 xs d hT q lt) (by omega) (fun m2 q2 => ?_)
    rw [p_bind_aft] at q2
    have l1 : lb (o + 1) (aft (F ++ [(36, m0.1 10 t, v, 0, 1)]) (p_into m0 t o)) := lb.af _ (fun t' o' G' u => by have := p_into_o u; omega)
    by_cases o60 : o < 60
    · have e4 : po (some (aft (F ++ [(36, m0.1 10 t, v, 0, 1)]) (p_into m0 t o))) (fun t o => rc 0 0 0 [] t o) = some (aft (F ++ [(36, m0.1 10 t, v, 0, 1)]) x2) := by rw [po_F, e3]; rfl
      refine y_nx (hA.x hT l1 e4 q2) (by unfold dA at *; omega) (fun m3 q3 => ?_)
      have l2 := l1.pk (fun t o t' o' G u => (hM _ _ _ _ _ _ _ _ _ u).1) e4
      have q4 := q3.dec (l2.mono (by omega))
      rw [p_bind_F] at q4
      exact y_fin (c85r xs d q4 hi) (by omega)
    · have ei : p_into m0 t o = p_ref m0 7 t := by unfold p_into; rw [if_neg o60]
      rw [ei] at e3 q2
      have e3 := Option.some.inj e3
      subst e3
      refine y_nx (c99e xs d hT q2) (by omega) (fun m3 q3 => ?_)
      have q4 : RC m0 T (aft (F ++ [(36, m0.1 10 t, v, 0, 1)]) (p_bind (Sum.inr (7, m0.1 10 t)) ddec)) (y_si m3 17 6 (m3.1 17 6 - 1)) := RCe.op q3 _
      exact y_fin (c85r xs d q4 hi) (by omega)
  refine w99_0 xs D m _ ?_
  rw [nw, a3]
  have e0 : (if m0.1 9 t = 34 ∨ m0.1 9 t = 173 then pnode 36 (m0.1 10 t) (if m0.1 9 t = 34 then 1 else 0) 0 (po (some (p_into m0 t o)) (fun t o => po (rc 0 0 0 [] t o) pdec)) else if m0.1 9 t = 168 then po (some (p_into m0 t o)) (fun t o => po (rc 1 0 0 [] t o) (fun t o => po (some (p_exp m0 169 t o)) pdec)) else if m0.1 9 t = 65 then some (p_leaf m0 65 30 (m0.1 11 t) 0 t o) else if m0.1 9 t = 35 then some (p_leaf m0 35 31 1 0 t o) else if m0.1 9 t = 36 then some (p_leaf m0 36 31 0 0 t o) else if m0.1 9 t = 64 then pNm m0 rc t o else some (p_ref m0 6 t)) = some r := e
  refine ⟨fun z => ⟨fun y => absurd z y, fun _ => un (Or.inl z) 1 (by rw [if_pos z])⟩, fun z => ?_, fun z => ?_, fun z => ?_, fun z => ⟨a1, ?_⟩, fun z => ?_, fun z => ⟨fun y => un (Or.inr z) 0 (by rw [if_neg y]), fun y => absurd (y.symm.trans z) (by decide)⟩, fun n34 n35 n36 n64 n65 n168 n173 => ?_⟩
  · have er : r = p_leaf m0 35 31 1 0 t o := by
      rw [z] at e0
      exact (Option.some.inj e0).symm
    rw [er, ← p_bind_aft]
    exact y_fin (c82 xs d hT (X := .inl (t, o, F)) h 35 31 1 0 (by decide)) (by omega)
  · have er : r = p_leaf m0 36 31 0 0 t o := by
      rw [z] at e0
      exact (Option.some.inj e0).symm
    rw [er, ← p_bind_aft]
    exact y_fin (c82 xs d hT (X := .inl (t, o, F)) h 36 31 0 0 (by decide)) (by omega)
  · have e64 : pNm m0 rc t o = some r := by
      rw [z] at e0
      exact e0
    exact y_fin (hN t o F m r z (h.lt hT (k := 64) (by decide) z) e64 h) (by omega)
  · have er : r = p_leaf m0 65 30 (m0.1 11 t) 0 t o := by
      rw [z] at e0
      exact (Option.some.inj e0).symm
    rw [er, ← p_bind_aft]
    exact y_fin (c82 xs d hT (X := .inl (t, o, F)) h 65 30 (m0.1 11 t) 0 (by decide)) (by omega)
  · have e1 : po (some (p_into m0 t o)) (fun t o => po (rc 1 0 0 [] t o) (fun t o => po (some (p_exp m0 169 t o)) pdec)) = some r := by
      rw [z] at e0
      exact e0
    have lt : t < T := h.lt hT (k := 168) (by decide) z
    have e2 : po (po (po (some (p_into m0 t o)) (fun t o => rc 1 0 0 [] t o)) (fun t o => some (p_exp m0 169 t o))) pdec = some r := by
      rw [po_a, po_a]
      exact e1
    obtain ⟨x3, e3⟩ := po_ex e2
    obtain ⟨x2, e4⟩ := po_ex e3
    rw [e4, po_t] at e3
    have e3 := Option.some.inj e3
    rw [e4, po_t, pdec_t, po_t] at e2
    have e2 := Option.some.inj e2
    subst e2
    refine y_nx (c97 xs d hT h lt) (by omega) (fun m2 q2 => ?_)
    rw [p_bind_aft] at q2
    have l1 : lb (o + 1) (aft F (p_into m0 t o)) := lb.af _ (fun t' o' G' u => by have := p_into_o u; omega)
    have tail : ∀ m3, RC m0 T (aft F x2) m3 → lb (o + 1) (aft F x2) → yC (xg xs) D 77 [.ref 17, .int (169 : Int32)] m3 (fun v7 m7 => v7 = none ∧ ((none : Option Value) = none ∧ RC m0 T (aft F (p_bind (p_bind x2 (p_exp m0 169)) ddec)) (y_si m7 17 6 (m7.1 17 6 - 1)))) := by
      intro m3 q3 l2
      refine y_nx (c77 xs d hT q3 169 (by decide)) (by omega) (fun m4 q4 => ?_)
      have l3 := l2.bind (g := p_exp m0 169) (fun t o t' o' G u => by have := p_exp_o u; omega)
      have q5 := q4.dec (l3.mono (by omega))
      rw [p_bind_F, p_bind_F] at q5
      exact ⟨rfl, q5⟩
    by_cases o60 : o < 60
    · have e5 : po (some (aft F (p_into m0 t o))) (fun t o => rc 1 0 0 [] t o) = some (aft F x2) := by rw [po_F, e4]; rfl
      have l2 := l1.pk (fun t o t' o' G u => (hM _ _ _ _ _ _ _ _ _ u).1) e5
      refine y_nx (hB.x hT l1 (by decide) e5 q2) (by unfold dA at *; omega) (fun m3 q3 => ?_)
      exact tail m3 q3 l2
    · have ei : p_into m0 t o = p_ref m0 7 t := by unfold p_into; rw [if_neg o60]
      rw [ei] at e4 q2
      have e4 := Option.some.inj e4
      subst e4
      refine y_nx (c98e xs d hT q2 0 0 (by decide)) (by omega) (fun m3 q3 => ?_)
      exact tail m3 q3 (fun _ _ _ u => by cases u)
  · have er : r = p_ref m0 6 t := by
      rw [if_neg (fun u => u.elim n34 n173), if_neg n168, if_neg n65, if_neg n35, if_neg n36, if_neg n64] at e0
      exact (Option.some.inj e0).symm
    rw [er]
    exact y_fin (c78o xs d hT h 6 (by decide)) (by omega)
