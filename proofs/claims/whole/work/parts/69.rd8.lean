/-! THE READER: expressions of the class, the other turns -/
theorem aft_rst (F : List ND) (o : Nat) (r : PX) : aft F (rst o r) = rst o (aft F r) := by rcases r with ⟨t, o1, G⟩ | e <;> rfl
theorem stepB {xs : List Int32} {d : Nat} {m0 : yM} {T : Nat} (hT : TKok m0 T) {rc : Nat → Int32 → Nat → List ND → Nat → Nat → Option PX} (hM : moP m0 rc) (hA : okA xs d m0 T rc) (hC : okC xs d m0 T rc) : okB xs d m0 T (pE m0 rc) := by
  intro c b t o F m r hc e h
  have g6 := h.2.2.2.2.2.1
  obtain ⟨z, z1, z2, z3⟩ := h.2.2.2.2.2.2.2.2
  refine w98_0 xs (d + dA o) _ _ m _ ?_
  rw [g6, z1]
  have e0 : (match rc 0 0 0 [] t o with | none => none | some (.inr e) => some (.inr e) | some (.inl (t1, o1, G)) => rc 2 c 0 G t1 o1) = some r := e
  rcases hr : rc 0 0 0 [] t o with _ | ⟨⟨t1, o1, G⟩ | ⟨k, p⟩⟩
  · rw [hr] at e0; cases e0
  · rw [hr] at e0
    have mo := (hM _ _ _ _ _ _ _ _ _ hr).1
    refine y_nx (hA t o F m _ hr h) (Nat.le_refl _) (fun m1 q => ?_)
    exact hC c b 0 G t1 o1 o z F m1 r hc (by omega) mo ⟨z2.1, fun y => (z3 y).1⟩ e0 q
  · rw [hr] at e0
    have e0 := Option.some.inj e0
    subst e0
    refine y_nx (hA t o F m _ hr h) (Nat.le_refl _) (fun m1 q => ?_)
    have w : (if b = 0 then (.inr (k, p) : PX) else rst o (.inr (k, p))) = .inr (k, p) := by split <;> rfl
    rw [w]
    exact yP.mono (by unfold dA; omega) (fun _ _ u => u) (c98x xs d (m := m1) q c b _ _ _ hc)
theorem cl_le6 (u : Int32) : clO u ≤ 6 := by
  unfold clO
  by_cases h1 : 3 ≤ u
  · rw [if_pos h1]
    by_cases h2 : 4 < u
    · rw [if_pos h2]
      by_cases h3 : 8 < u
      · rw [if_pos h3]
        by_cases h4 : 11 ≤ u
        · rw [if_pos h4]; decide
        · rw [if_neg h4]; decide
      · rw [if_neg h3]; decide
    · rw [if_neg h2]; decide
  · rw [if_neg h1]
    exact Int32.le_of_lt (Int32.lt_of_lt_of_le (Int32.not_le.mp h1) (by decide))
theorem cl_le (x : Int32) : clO (opO x) ≤ 6 := cl_le6 _
theorem cl_lt {x : Int32} (h : ¬ clO (opO x) < 0) : gk x := by
  refine ⟨fun z => h ?_, fun z => h ?_, fun z => h ?_⟩ <;> (rw [z]; decide)
theorem stepC {xs : List Int32} {d : Nat} {m0 : yM} {T : Nat} (hT : TKok m0 T) {rc : Nat → Int32 → Nat → List ND → Nat → Nat → Option PX} (hM : moP m0 rc) (hB : okB xs d m0 T rc) (hC : okC xs d m0 T rc) : okC xs d m0 T (pE m0 rc) := by
  intro c b q L t o oe lf F m r hc hq hoe hlf e h
  have go := h.2.2.2.2.2.2.1
  have nw := h.now
  obtain ⟨a1, a2, -, -⟩ := h.at hT
  have e0 : (if 60 < q ∨ clO (opO (m0.1 9 t)) < c then some (.inl (t, o, L)) else match p_into m0 t o with | .inr e => some (.inr e) | .inl (t1, o1, _) => match rc 1 (clO (opO (m0.1 9 t)) + 1) 0 [] t1 o1 with | none => none | some (.inr e) => some (.inr e) | some (.inl (t2, o2, R)) => rc 2 c (q + 1) ((35, m0.1 10 t, opO (m0.1 9 t), 0, L.length + R.length + 1) :: (L ++ R)) t2 o2) = some r := e
  have stop : (60 < q ∨ clO (opO (m0.1 9 t)) < c) → yP (xg xs) (d + dA oe + 1) 98 106 [(0, .ref 17), (2, .int b), (3, .int (nI oe))] [] m (fun r' m' => r' = none ∧ RC m0 T (aft F (if b = 0 then r else rst oe r)) m') := by
    intro z
    rw [if_pos z] at e0
    have e0 := Option.some.inj e0
    subst e0
    refine w98_106 xs (d + dA oe) _ _ m _ ⟨fun y => ⟨rfl, ?_⟩, fun y => ⟨rfl, ?_⟩⟩
    · rw [if_pos y]; exact h
    · rw [if_neg y]; exact h.op (by omega) rfl
  refine w98_21 xs (d + dA oe) _ _ _ _ _ m _ ?_
  rw [show ((60 : Int32) < nI q) ↔ 60 < q from nI_ltI (a := 60) (by decide) (by omega)]
  refine ⟨fun z => stop (Or.inl z), fun z => ?_⟩
  refine y_ci (c101 xs d m _) (by unfold dA; omega) ?_
  rw [nw]
  refine ⟨fun y => stop (Or.inr y), fun y => ?_⟩
  refine y_ci (c101 xs d m _) (by unfold dA; omega) ?_
  rw [nw, a2]
  refine ⟨a1, ?_⟩
  refine y_ci (c102 xs d m _) (by unfold dA; omega) ?_
  rw [if_neg (fun u => u.elim z y)] at e0
  have c0 : ¬ clO (opO (m0.1 9 t)) < 0 := fun u => y (Int32.lt_of_lt_of_le u hc)
  have lt : t < T := h.lt hT (cl_lt c0) rfl
  have c1 : 0 ≤ clO (opO (m0.1 9 t)) + 1 := by
    have u1 := Int32.le_iff_toInt_le.mp (cl_le (m0.1 9 t))
    have u2 := Int32.le_iff_toInt_le.mp (Int32.not_lt.mp c0)
    have u3 : (6 : Int32).toInt = 6 := rfl
    have u4 : (0 : Int32).toInt = 0 := rfl
    rw [u3] at u1
    rw [u4] at u2
    rw [Int32.le_iff_toInt_le, u4, Int32.toInt_add]
    have u5 : (1 : Int32).toInt = 1 := rfl
    rw [u5, Int.bmod_eq_of_le (by omega) (by omega)]
    omega
  refine y_nx (c103 xs d h hlf 35 (m0.1 10 t) (opO (m0.1 9 t))) (by unfold dA; omega) (fun m1 q1 => ?_)
  refine y_nx (c97 xs d hT q1 lt) (by unfold dA; omega) (fun m2 q2 => ?_)
  rw [p_bind_aft] at q2
  have err : ∀ (k p : Int32), r = .inr (k, p) → ∀ m3, RCe m0 T k p m3 → yC (xg xs) (d + dA oe) 85 [.ref 2, .int (nI lf)] m3 (fun v7 m7 => v7 = none ∧ yP (xg xs) (d + dA oe + 1) 98 21 [(0, .ref 17), (1, .int c), (2, .int b), (3, .int (nI oe)), (4, .int (nI lf)), (5, .int (nI q + 1))] [] m7 (fun r' m' => r' = none ∧ RC m0 T (aft F (if b = 0 then r else rst oe r)) m')) := by
    intro k p er m3 q3
    have fe : ∀ m', RCe m0 T k p m' → yP (xg xs) (d + dA oe + 1) 98 21 [(0, .ref 17), (1, .int c), (2, .int b), (3, .int (nI oe)), (4, .int (nI lf)), (5, .int (nI q + 1))] [] m' (fun r' m' => r' = none ∧ RC m0 T (aft F (if b = 0 then r else rst oe r)) m') := by
      intro m' q'
      have w : (if b = 0 then r else rst oe r) = .inr (k, p) := by rw [er]; split <;> rfl
      rw [w]
      exact yP.mono (by unfold dA; omega) (fun _ _ u => u) (c98x xs d q' c b _ _ _ hc)
    -- the node may be one behind the last
    obtain ⟨kd, ⟨t', t1, t2⟩, hcc, hs, zz, z1, z2⟩ := q3
    have lf1 := hlf.1
    have ex : yC (xg xs) (d + 1) 85 [.ref 2, .int (nI lf)] m3 (fun r m' => r = none ∧ RCe m0 T k p m') := by
      refine w85_0 xs d _ m3 _ ?_
      rw [nI_clamp (by omega)]
      have ov : ∀ a b, a ≠ 7 → (y_si m3 7 lf (m3.1 2 5)).1 a b = m3.1 a b := fun a b ha => by rw [y_si_at, if_neg (fun u => ha u.1)]
      refine ⟨x_in_nI (by omega) (by decide), rfl, kd.si (by omega), ⟨t', t1, by rw [ov _ _ (by decide)]; exact t2⟩, hcc, ?_, zz, by rw [ov _ _ (by decide)]; exact z1, z2⟩
      rw [ov 17 5 (by decide), ov 17 3 (by decide), ov 17 0 (by decide), ov 17 4 (by decide)]
      exact hs
    exact y_nx ex (by unfold dA; omega) fe
  rcases hi : p_into m0 t o with ⟨t1, o1, G1⟩ | ⟨k, p⟩
  · rw [hi] at e0 q2
    obtain ⟨i1, i2, i3, i4⟩ := p_into_o hi
    subst i1 i2 i3
    have q2 : RCo m0 T (t + 1) (o + 1) (F ++ (35, m0.1 10 t, opO (m0.1 9 t), 0, L.length + 1) :: L ++ []) m2 := q2
    rw [List.append_nil] at q2
    dsimp only at e0
    rcases hr : rc 1 (clO (opO (m0.1 9 t)) + 1) 0 [] (t + 1) (o + 1) with _ | ⟨⟨t2, o2, R⟩ | ⟨k, p⟩⟩
    · rw [hr] at e0; cases e0
    · rw [hr] at e0
      have mo := (hM _ _ _ _ _ _ _ _ _ hr).1
      refine y_nx (hB _ 0 _ _ _ m2 _ c1 hr q2) (by unfold dA; omega) (fun m3 q3 => ?_)
      rw [if_pos rfl] at q3
      have q3 : RCo m0 T t2 o2 (F ++ (35, m0.1 10 t, opO (m0.1 9 t), 0, L.length + 1) :: L ++ R) m3 := q3
      rw [List.append_assoc, List.cons_append] at q3
      by_cases small : F.length ≤ 16399
      · have hn : ndI F lf := ⟨by have := hlf.2 (by omega); omega, fun _ => hlf.2 (by omega)⟩
        refine y_nx (c85o xs d q3 hn) (by unfold dA; omega) (fun m4 q4 => ?_)
        rw [nI_1]
        rw [show (L ++ R).length = L.length + R.length from List.length_append] at q4
        exact hC c b (q + 1) _ t2 o2 oe lf F m4 r hc (by omega) (by omega) hlf e0 q4
      · -- too many nodes: what the tree holds says nothing
        have lf1 := hlf.1
        obtain ⟨kd, g4, gT, g5, g68, g6, go2, g3, zz, z1, z2, z3⟩ := q3
        have ex : yC (xg xs) (d + 1) 85 [.ref 2, .int (nI lf)] m3 (fun r m' => r = none ∧ RCo m0 T t2 o2 (F ++ (35, m0.1 10 t, opO (m0.1 9 t), 0, L.length + R.length + 1) :: (L ++ R)) m') := by
          refine w85_0 xs d _ m3 _ ?_
          rw [nI_clamp (by omega)]
          have ov : ∀ a b, a ≠ 7 → (y_si m3 7 lf (m3.1 2 5)).1 a b = m3.1 a b := fun a b ha => by rw [y_si_at, if_neg (fun u => ha u.1)]
          refine ⟨x_in_nI (by omega) (by decide), rfl, kd.si (by omega), by rw [ov _ _ (by decide)]; exact g4, gT, by rw [ov _ _ (by decide)]; exact g5, g68, by rw [ov _ _ (by decide)]; exact g6, go2, by rw [ov _ _ (by decide)]; exact g3, zz, by rw [ov _ _ (by decide)]; exact z1, ⟨z2.1, fun i hi => by rw [ov _ _ (by decide)]; exact z2.2 i hi⟩, fun hF => absurd hF ?_⟩
          simp only [List.length_append, List.length_cons]
          omega
        refine y_nx ex (by unfold dA; omega) (fun m4 q4 => ?_)
        rw [nI_1]
        exact hC c b (q + 1) _ t2 o2 oe lf F m4 r hc (by omega) (by omega) hlf e0 q4
    · rw [hr] at e0
      have e0 := Option.some.inj e0
      refine y_nx (hB _ 0 _ _ _ m2 _ c1 hr q2) (by unfold dA; omega) (fun m3 q3 => ?_)
      rw [if_pos rfl] at q3
      exact err k p e0.symm m3 q3
  · rw [hi] at e0 q2
    have e0 := Option.some.inj e0
    refine y_nx (c98e xs d hT q2 _ 0 c1) (by unfold dA; omega) (fun m3 q3 => ?_)
    exact err k p e0.symm m3 q3
