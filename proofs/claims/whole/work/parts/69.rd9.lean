/-! THE READER: expressions of the class: calls and names -/
/-- refuse leaves the reader stopped -/
theorem c78s (xs : List Int32) (d : Nat) {m0 m : yM} {T : Nat} {c p : Int32} (hT : TKok m0 T) (h : RCe m0 T c p m) (why : Int32) : yC (xg xs) (d + 1) 78 [.ref 17, .int why] m (fun r m' => r = none ∧ (RCe m0 T c p m' ∧ m'.1 17 5 = 69)) := by
  obtain ⟨kd, ⟨t, t1, t2⟩, hc, hs, z, z1, z2⟩ := h
  have hT1 := hT.1
  rcases hs with ⟨s1, s2, s3⟩ | ⟨s1, s2, s3, s4, s5, s6⟩
  · refine w78_0 xs d _ m _ ⟨fun _ => ⟨rfl, ⟨kd.si (Or.inr rfl), ⟨t, t1, by simp [y_si_at, t2]⟩, hc, Or.inl ⟨by simp [y_si_at], by simp [y_si_at, s2], by simp [y_si_at, s3]⟩, z, by simp [y_si_at, z1], z2⟩, y_si_same _ _ _ _⟩, fun y => absurd (s2.symm.trans y) hc⟩
  · refine w78_0 xs d _ m _ ⟨fun y => absurd s2 y, fun _ => ⟨fun y => absurd s1 y, fun _ => ?_⟩⟩
    have e10 : m.1 10 = m0.1 10 := kd.1 10 (by decide)
    have e11 : m.1 11 = m0.1 11 := kd.1 11 (by decide)
    rw [s3, nI_clamp (by omega), e11]
    refine ⟨x_in_nI (by omega) (by decide), ?_⟩
    refine w78_33 xs d _ m _ ?_
    rw [s3, nI_clamp (by omega), e10]
    exact ⟨x_in_nI (by omega) (by decide), rfl, ⟨((kd.si (Or.inr rfl)).si (Or.inr rfl)).si (Or.inr rfl), ⟨T, Nat.le_refl _, by simp [y_si_at, s3]⟩, hc, Or.inl ⟨by simp [y_si_at], by simp [y_si_at, s5], by simp [y_si_at, s6]⟩, z, by simp [y_si_at, z1], z2⟩, y_si_same _ _ _ _⟩
/-- the loop over a call's operands, in a fault -/
theorem c100x (xs : List Int32) (d : Nat) {m0 m : yM} {T : Nat} {c p : Int32} (hT : TKok m0 T) (h : RCe m0 T c p m) (l2 : Int32) (Q : Option Value → yM → Prop) (K : ∀ m', RCe m0 T c p m' → yP (xg xs) (d + 4) 100 200 [(0, .ref 17), (2, .int l2)] [] m' Q) (l3 : Int32) : yP (xg xs) (d + 4) 100 151 [(0, .ref 17), (2, .int l2), (3, .int l3)] [] m Q := by
  -- once more when the token is a bad one; then it has stopped
  have st : ∀ (l3 : Int32) (m : yM), RCe m0 T c p m → m.1 17 5 = 69 → yP (xg xs) (d + 3 + 1) 100 151 [(0, .ref 17), (2, .int l2), (3, .int l3)] [] m Q := by
    intro l3 m h h69
    exact w100_151 xs (d + 3) _ _ m _ ⟨fun _ => K m h, fun _ => ⟨fun _ => K m h, fun _ => ⟨fun _ => K m h, fun z => absurd h69 z⟩⟩⟩
  -- an expression in a fault stops
  have ex : ∀ (l3 : Int32) (m : yM), RCe m0 T c p m → yP (xg xs) (d + 3 + 1) 100 188 [(0, .ref 17), (2, .int l2), (3, .int l3)] [] m Q := by
    intro l3 m h
    refine w100_188 xs (d + 3) _ _ m _ ?_
    have h98 : yC (xg xs) (d + 3) 98 [.ref 17, .int 0, .int 0] m (fun r m' => r = none ∧ (RCe m0 T c p m' ∧ m'.1 17 5 = 69)) := by
      refine w98_0 xs (d + 2) _ _ m _ ?_
      have h99 : yC (xg xs) (d + 2) 99 [.ref 17] m (fun r m' => r = none ∧ (RCe m0 T c p m' ∧ m'.1 17 5 = 69)) := by
        refine w99_0 xs (d + 1) m _ ⟨fun z => absurd z (h.ne (by decide)), fun z => absurd z (h.ne (by decide)), fun z => absurd z (h.ne (by decide)), fun z => absurd z (h.ne (by decide)), fun z => absurd z (h.ne (by decide)), fun z => absurd z (h.ne (by decide)), fun z => absurd z (h.ne (by decide)), fun _ _ _ _ _ _ _ => ?_⟩
        exact y_fin (c78s xs d hT h 6) (by omega)
      refine y_nx h99 (Nat.le_refl _) (fun m1 q => ?_)
      have e106 : yP (xg xs) (d + 2 + 1) 98 106 [(0, .ref 17), (2, .int (0 : Int32)), (3, .int (m.1 17 6))] [] m1 (fun r m' => r = none ∧ (RCe m0 T c p m' ∧ m'.1 17 5 = 69)) := w98_106 xs (d + 2) _ _ m1 _ ⟨fun _ => ⟨rfl, q⟩, fun z => absurd rfl z⟩
      refine w98_21 xs (d + 2) _ _ _ _ _ m1 _ ⟨fun _ => e106, fun _ => ?_⟩
      refine y_ci (c101 xs d m1 _) (by omega) ?_
      exact ⟨fun _ => e106, fun z => absurd (cl_e q.1 (by decide)) z⟩
    exact y_nx h98 (Nat.le_refl _) (fun m1 q => st _ m1 q.1 q.2)
  refine w100_151 xs (d + 3) _ _ m _ ⟨fun _ => K m h, fun _ => ⟨fun _ => K m h, fun _ => ⟨fun _ => K m h, fun _ => ⟨fun _ => ex _ m h, fun _ => ?_⟩⟩⟩⟩
  exact y_nx (c77 xs d hT (X := .inr (c, p)) h 172 (by decide)) (by omega) (fun m1 q => ex _ m1 q)
theorem stepD {xs : List Int32} {d : Nat} {m0 : yM} {T : Nat} (hT : TKok m0 T) {rc : Nat → Int32 → Nat → List ND → Nat → Nat → Option PX} (hM : moP m0 rc) (hB : okB xs d m0 T rc) (hD : okD xs d m0 T rc) : okD xs d m0 T (pE m0 rc) := by
  intro q t o oe F m r l2 Q hq ho e h K
  have go := h.2.2.2.2.2.2.1
  have nw := h.now
  obtain ⟨D, hDD⟩ : ∃ D, d + dA oe - 1 = D + 1 := ⟨d + dA oe - 2, by unfold dA; omega⟩
  have hD4 : d + 4 ≤ D := by unfold dA at hDD; omega
  rw [hDD] at K ⊢
  have e0 : (if 8192 ≤ q ∨ m0.1 9 t = 169 then some (.inl (t, o, [])) else po (some (if q = 0 then .inl (t, o, []) else p_exp m0 172 t o)) (fun t o => po (rc 1 0 0 [] t o) (fun t o => rc 3 0 (q + 1) [] t o))) = some r := e
  have stop : (8192 ≤ q ∨ m0.1 9 t = 169) → yP (xg xs) (D + 1) 100 200 [(0, .ref 17), (2, .int l2)] [] m Q := by
    intro z
    rw [if_pos z] at e0
    have e0 := Option.some.inj e0
    subst e0
    refine K m ?_
    show RCo m0 T t o (F ++ []) m
    rw [List.append_nil]
    exact h
  refine w100_151 xs D _ _ m _ ?_
  rw [show ((8192 : Int32) ≤ nI q) ↔ 8192 ≤ q from nI_leI (a := 8192) (by decide) (by omega), nw]
  refine ⟨fun z => stop (Or.inl z), fun z => ⟨fun y => stop (Or.inr y), fun y => ⟨fun x => ?_, fun x => ?_⟩⟩⟩
  · -- no token has stopped
    exfalso
    rcases Nat.lt_or_ge t T with u | u
    · exact (hT.2.2 t u).2.2 x
    · have eT : t = T := by have := h.2.2.1; omega
      rw [eT] at x
      rcases hT.2.1 with v | v
      · rw [v] at x; exact absurd x (by decide)
      · rw [v.1] at x; exact absurd x (by decide)
  · rw [if_neg (fun u => u.elim z y)] at e0
    -- the comma's state X, then an expression, then the rest
    have main : ∀ (X : PX) (m1 : yM), X = (if q = 0 then .inl (t, o, []) else p_exp m0 172 t o) → RC m0 T (aft F X) m1 → yP (xg xs) (D + 1) 100 188 [(0, .ref 17), (2, .int l2), (3, .int (nI q))] [] m1 Q := by
      intro X m1 hX q1
      rw [← hX, ← po_a] at e0
      obtain ⟨x2, e2⟩ := po_ex e0
      have lX : lb o X := by
        rw [hX]
        intro t' o' G' u
        split at u
        · simp only [Sum.inl.injEq, Prod.mk.injEq] at u; omega
        · have := p_exp_o u; omega
      have lX2 : lb (oe + 1) (aft F X) := (lb.af F lX).mono ho
      have e3 : po (some (aft F X)) (fun t o => rc 1 0 0 [] t o) = some (aft F x2) := by rw [po_F, e2]; rfl
      refine w100_188 xs D _ _ m1 _ ?_
      have dep : d + dA (oe + 1) + 1 ≤ D := by unfold dA at *; omega
      refine y_nx (hB.x hT lX2 (by decide) e3 q1) dep (fun m2 q2 => ?_)
      have l2' := lX2.pk (fun t o t' o' G u => (hM _ _ _ _ _ _ _ _ _ u).1) e3
      rw [e2] at e0
      rw [nI_1]
      rcases x2 with ⟨t2, o2, G2⟩ | ⟨k, p⟩
      · unfold po at e0
        dsimp only at e0
        rcases hr : rc 3 0 (q + 1) [] t2 o2 with _ | r2
        · rw [hr] at e0; cases e0
        · rw [hr] at e0
          simp only [Option.map_some, Option.some.injEq] at e0
          have ho2 := l2' t2 o2 (F ++ G2) rfl
          rw [← hDD]
          refine hD (q + 1) t2 o2 oe (F ++ G2) m2 r2 l2 Q (by omega) ho2 hr q2 (fun m' q' => ?_)
          rw [hDD]
          refine K m' ?_
          rw [← e0, aft_aft]
          exact q'
      · have e0 := Option.some.inj e0
        subst e0
        have q2 : RCe m0 T k p m2 := q2
        obtain ⟨D2, hD2⟩ : ∃ D2, D + 1 = D2 + 4 := ⟨D - 3, by omega⟩
        rw [hD2] at K ⊢
        exact c100x xs D2 hT q2 l2 Q (fun m' q' => K m' q') _
    by_cases q0 : q = 0
    · refine ⟨fun _ => main (.inl (t, o, [])) m (by rw [if_pos q0]) ?_, fun u => absurd (by rw [q0]; decide) u⟩
      show RCo m0 T t o (F ++ []) m
      rw [List.append_nil]
      exact h
    · refine ⟨fun u => absurd u (nI_nle (by omega) (by omega)), fun _ => ?_⟩
      refine y_nx (c77 xs d hT (X := .inl (t, o, F)) h 172 (by decide)) (by omega) (fun m1 q1 => ?_)
      rw [p_bind_aft] at q1
      exact main (p_exp m0 172 t o) m1 (by rw [if_neg q0]) q1
