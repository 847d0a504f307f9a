/-! THE REFERENCE'S READER: cells of a ladder -/
theorem RM.pre2 {E : EV} {z : Nat} {Rs Rs' : List (List Int32)} {m m1 m' : yM} {X : PX} {r : Option Value} (h : RM E z Rs' m1 X r m') (hp : Rs <+: Rs') (hf : z ≤ 19999 → FM m m1) : RM E z Rs m X r m' := by
  obtain ⟨id, i1, i2, i3⟩ := h
  refine ⟨id, i1, i2, ?_⟩
  rcases X with ⟨t, o, G⟩ | e
  · obtain ⟨R2, p2, r2, T2⟩ := i3
    refine ⟨R2, hp.trans p2, r2, fun hz R3 m3 p3 f3 => ?_⟩
    obtain ⟨b1, b2⟩ := T2 hz R3 m3 p3 f3
    exact ⟨fun a x h1 h2 h3 => by rw [b1 a x h1 h2 h3]; exact hf (by omega) a x h1, b2⟩
  · exact i3
/-- a state with no node of its own, at a token -/
theorem US.at {E : EV} {z t o : Nat} {Rs : List (List Int32)} {m0 m : yM} (h : US E z Rs m0 (.inl (t, o, [])) m) : ∃ Rs', Rs <+: Rs' ∧ RRo E t o (min z 19999) Rs' m ∧ (z ≤ 19999 → FM m0 m) := by
  obtain ⟨Rs', hp, hR, hT⟩ := h
  exact ⟨Rs', hp, hR, fun hz => hT (by simp only [List.length_nil]; omega) Rs' m (List.prefix_refl _) (FM.re m)⟩
/-- how a cell is meant: the sign behind it passed -/
theorem US.wst {xs : List Int32} {D : Nat} (hD : 6 ≤ D) {E : EV} (hE : EOk E) {z t o : Nat} {Rs : List (List Int32)} {m0 m : yM} {w : Int32} {K : yM → Prop} (h : US E z Rs m0 (.inl (t, o, [])) m) (hw : w = 0 ∨ w = 1 ∨ w = 2 ∨ w = 3) (h67 : ¬ w = 0 → ¬ E.1.1 9 t = 67) (k : ∀ m', US E z Rs m0 (p_wst E.1 w t o) m' → K m') : (w ≤ 0 → K m) ∧ (¬ w ≤ 0 → yC (xg xs) D 272 [.ref 58] m (fun v1 m1 => v1 = none ∧ K m1)) := by
  refine ⟨fun u => k m ?_, fun u => ?_⟩
  · have e : w = 0 := by
      rcases hw with e | e | e | e
      · exact e
      · rw [e] at u; exact absurd u (by decide)
      · rw [e] at u; exact absurd u (by decide)
      · rw [e] at u; exact absurd u (by decide)
    unfold p_wst
    rw [if_pos e]
    exact h
  · have ne : ¬ w = 0 := fun y => u (by rw [y]; decide)
    refine GS.next hD hE h (fun t' o' G' e3 => ?_) (fun m1 p => k m1 ?_)
    · simp only [Sum.inl.injEq, Prod.mk.injEq] at e3
      rw [← e3.1]
      exact h67 ne
    · rw [p_bind_n] at p
      unfold p_wst
      rw [if_neg ne]
      exact p
theorem c320b (xs : List Int32) {E : EV} {D z : Nat} (hD : 7 ≤ D) {Rs : List (List Int32)} {m0 m : yM} {c f : Int32} (l1 l2 : Int32) (h : RRe E c f m) : yP (xg xs) (D + 1) 320 114 [(0, .ref 58), (1, .int l1), (2, .int l2)] [] m (RM E z Rs m0 (.inr (c, f))) := by
  refine w320_114 xs D _ _ m _ (RRe.mk (by omega) h (fun i1 m1 hi1 h1 => ?_))
  refine y_ci (c293x xs (D - 1) h1 _) (by omega) ?_
  refine y_cv (c291 xs (D - 2) m1 _) (by omega) ?_
  rw [if_pos rfl, h1.fail]
  refine RRe.mk (by omega) h1 (fun i2 m2 hi2 h2 => ?_)
  refine y_cv (c297 xs (D - 1) h2.2.2.2.2.2.1 hi1 hi2) (by omega) ?_
  refine y_nx (c272x xs (D - 6) (h2.ad hi2)) (by omega) (fun m4 h4 => ?_)
  exact y_nx (c294x xs (D - 7) h4 _) (by omega) (fun m5 h5 => ⟨i1, hi1, rfl, h5⟩)
theorem c320c (xs : List Int32) {E : EV} {D z : Nat} (hD : 7 ≤ D) {Rs : List (List Int32)} {m0 m : yM} {c f : Int32} (l1 l2 : Int32) (h : RRe E c f m) : yP (xg xs) (D + 1) 320 212 [(0, .ref 58), (1, .int l1), (2, .int l2)] [] m (RM E z Rs m0 (.inr (c, f))) := by
  refine w320_212 xs D _ _ m _ (RRe.mk (by omega) h (fun i1 m1 hi1 h1 => ?_))
  refine y_ci (c293x xs (D - 1) h1 _) (by omega) ?_
  refine y_cv (c291 xs (D - 2) m1 _) (by omega) ?_
  rw [if_pos rfl, h1.fail]
  refine y_nx (c272x xs (D - 6) h1) (by omega) (fun m4 h4 => ?_)
  refine y_ci (c295x xs (D - 1) h4 _) (by omega) ⟨fun _ => ?_, fun u => absurd rfl u⟩
  refine RRe.mk (by omega) h4 (fun i2 m2 hi2 h2 => ?_)
  exact y_cv (c297 xs (D - 1) h2.2.2.2.2.2.1 hi1 hi2) (by omega) ⟨i1, hi1, rfl, h2.ad hi2⟩
theorem c320x (xs : List Int32) {E : EV} {D z : Nat} (hD : 8 ≤ D) {Rs : List (List Int32)} {m0 m : yM} {c f : Int32} (h : RRe E c f m) : yC (xg xs) D 320 [.ref 58] m (RM E z Rs m0 (.inr (c, f))) := by
  obtain ⟨d, rfl⟩ : ∃ d, D = d + 1 := ⟨D - 1, by omega⟩
  refine w320_0 xs d m _ (y_ci (c295x xs (d - 1) h _) (by omega) ⟨fun u => absurd rfl u, fun _ => ?_⟩)
  refine y_ci (c295x xs (d - 1) h _) (by omega) ⟨fun _ => ?_, fun u => absurd rfl u⟩
  refine y_ci (c295x xs (d - 1) h _) (by omega) ⟨fun _ => ?_, fun u => absurd rfl u⟩
  refine y_ci (c295x xs (d - 1) h _) (by omega) ⟨fun _ => ?_, fun u => absurd rfl u⟩
  refine y_ci (c295x xs (d - 1) h _) (by omega) ⟨fun _ => ?_, fun u => absurd rfl u⟩
  refine y_ci (c295x xs (d - 1) h _) (by omega) ⟨fun _ => ?_, fun u => absurd rfl u⟩
  refine w320_203 xs d _ _ m _ ⟨fun _ => c320c xs (by omega) _ _ h, fun u => absurd (by decide) u⟩
/-- a coil, behind its way -/
theorem c320k (xs : List Int32) {E : EV} (hE : EOk E) {D z : Nat} (hD : 7 ≤ D) {Rs : List (List Int32)} {m0 m : yM} {X : PX} {p w l1 : Int32} (hp : l1 = p) (h : US E z Rs m0 X m) (hG : ∀ t o G, X = .inl (t, o, G) → G = []) : yP (xg xs) (D + 1) 320 114 [(0, .ref 58), (1, .int l1), (2, .int w)] [] m (RM E z Rs m0 (p_node 28 p w 0 (p_bind (p_bind X (p_nm E.1)) (p_exp E.1 169)))) := by
  rcases X with ⟨t, o, G⟩ | ⟨c, f⟩
  · have eG := hG t o G rfl
    subst eG
    obtain ⟨R1, hp1, hR, hf⟩ := US.at h
    refine w320_114 xs D _ _ m _ (PS.mk (by omega) hR (28, p, w, 0) rfl hp ⟨fun _ => rfl, fun y => absurd rfl y⟩ (fun m1 q => ?_))
    refine PS.leaf (by omega) hE q rfl 2 64 (by decide) 6 (p_nm E.1) (fun _ _ => rfl) (fun m2 q => ?_)
    refine GS.sign (by omega) hE q 41 169 (by decide) (fun m3 q => ?_)
    exact (PS.fin q rfl).pre2 hp1 hf
  · exact c320b xs hD _ _ h
/-- a contact, behind its way -/
theorem c320n (xs : List Int32) {E : EV} (hE : EOk E) {D z : Nat} (hD : 7 ≤ D) {Rs : List (List Int32)} {m0 m : yM} {X : PX} {p w l1 : Int32} (hp : l1 = p) (h : US E z Rs m0 X m) (hG : ∀ t o G, X = .inl (t, o, G) → G = []) : yP (xg xs) (D + 1) 320 212 [(0, .ref 58), (1, .int l1), (2, .int w)] [] m (RM E z Rs m0 (p_node 25 p w 0 (p_bind X (p_out E.1)))) := by
  rcases X with ⟨t, o, G⟩ | ⟨c, f⟩
  · have eG := hG t o G rfl
    subst eG
    obtain ⟨R1, hp1, hR, hf⟩ := US.at h
    rw [p_bind_n]
    refine w320_212 xs D _ _ m _ (PS.mk (by omega) hR (25, p, w, 0) rfl hp ⟨fun _ => rfl, fun y => absurd rfl y⟩ (fun m1 q => ?_))
    refine GS.isK (by omega) q 2 64 64 (by decide) ?_
    refine GS.must (by omega) q 64 (fun m3 q => ?_)
    rw [p_bind_n] at q
    unfold p_chk at q
    by_cases k64 : E.1.1 9 t = 64
    · rw [if_pos k64] at q
      obtain ⟨R3, hp3, hR3, hT3⟩ := q
      have pl3 := hR3.pl
      have vn3 := hR3.vn k64
      have q : PS E z z (25, p, w, 0) R3 m (.inl (t, o, [])) m3 := ⟨R3, List.prefix_refl _, hR3, hT3⟩
      refine GS.next (by omega) hE q (fun t' o' G' e3 => ?_) (fun m4 q => ?_)
      · simp only [Sum.inl.injEq, Prod.mk.injEq] at e3
        rw [← e3.1, k64]
        decide
      rw [p_bind_n] at q
      rcases hst : p_step E.1 t o with ⟨t1, o1, G1⟩ | ⟨c, f⟩
      · rw [hst] at q
        have so := p_step_o hst
        obtain ⟨rfl, e2, rfl⟩ := so
        rw [e2] at hst q
        have q' := q
        obtain ⟨R4, hp4, hR4, hT4⟩ := q'
        have nv4 : ∀ kd : Int32, nvO E R4 (kd, E.1.1 10 t, E.1.1 11 t, t + 1) (m3.1 58 7) := fun kd => ⟨fun y => absurd y (by simp), fun _ => vn3.mono hp4⟩
        refine GS.isS (by omega) q 46 174 (by decide) ⟨fun u => ?_, fun u => ?_⟩
        · have n174 := tkx_n u _ _ _ rfl
          refine PS.mk (by omega) hR4 (6, E.1.1 10 t, E.1.1 11 t, t + 1) rfl pl3 (nv4 6) (fun m6 q6 => ?_)
          refine y_cv (c297 xs (D - 1) (PW.gi q6) (by omega) (by omega)) (by omega) ?_
          have q7 := PS.ad hp4 hT4 (by omega) (PS.finq q6)
          have eo : p_out E.1 t o = aft [] (p_node 6 (E.1.1 10 t) (E.1.1 11 t) (t + 1) (.inl (t + 1, o, []))) := by
            unfold p_out p_nm p_leaf
            rw [if_neg (fun y => n174 y.2), if_pos k64, hst, aft_nil]
          rw [eo]
          exact (PS.fin q7 rfl).pre2 (hp1.trans hp3) hf
        · obtain ⟨t5, o5, G5, e5, k174⟩ := tkx_y u
          simp only [Sum.inl.injEq, Prod.mk.injEq] at e5
          obtain ⟨rfl, rfl, rfl⟩ := e5
          refine PS.mk (by omega) hR4 (33, E.1.1 10 t, E.1.1 11 t, t + 1) rfl pl3 (nv4 33) (fun m6 q6 => ?_)
          refine GS.next (by omega) hE q6 (fun t' o' G' e3 => ?_) (fun m9 q9 => ?_)
          · simp only [Sum.inl.injEq, Prod.mk.injEq] at e3
            rw [← e3.1, k174]
            decide
          rw [p_bind_n] at q9
          refine PS.leaf (by omega) hE q9 rfl 2 64 (by decide) 6 (p_nm E.1) (fun _ _ => rfl) (fun m14 q14 => ?_)
          refine y_cv (c297 xs (D - 1) (PW.gi q14) (by omega) (by omega)) (by omega) ?_
          have q7 := PS.ad hp4 hT4 (by omega) (PS.finq q14)
          have eo : p_out E.1 t o = aft [] (p_node 33 (E.1.1 10 t) (E.1.1 11 t) (t + 1) (p_bind (p_step E.1 (t + 1) o) (p_nm E.1))) := by
            unfold p_out
            rw [if_pos ⟨k64, k174⟩, hst, aft_nil, p_bind_n]
          rw [eo]
          exact (PS.fin q7 rfl).pre2 (hp1.trans hp3) hf
      · rw [hst] at q
        have q : RRe E c f m4 := q
        have k68 : E.1.1 9 (t + 1) = 68 := by
          unfold p_step at hst
          by_cases y : E.1.1 9 (t + 1) = 68
          · exact y
          · rw [if_neg y] at hst; cases hst
        have eo : p_out E.1 t o = .inr (c, f) := by
          unfold p_out p_nm p_leaf
          rw [if_neg (fun y => by rw [k68] at y; exact absurd y.2 (by decide)), if_pos k64, hst]
          rfl
        rw [eo]
        refine y_ci (c295x xs (D - 1) q _) (by omega) ⟨fun _ => ?_, fun u => absurd rfl u⟩
        refine RRe.mk (by omega) q (fun i2 m2 hi2 h2 => ?_)
        exact y_cv (c297 xs (D - 1) h2.2.2.2.2.2.1 (by omega) hi2) (by omega) ⟨min z 19999, by omega, rfl, h2.ad hi2⟩
    · rw [if_neg k64] at q
      have q : RRe E 6 (E.1.1 10 t) m3 := q
      have eo : p_out E.1 t o = .inr (6, E.1.1 10 t) := by
        unfold p_out p_nm p_leaf
        rw [if_neg (fun y => k64 y.1), if_neg k64]
        rfl
      rw [eo]
      refine y_nx (c272x xs (D - 6) q) (by omega) (fun m4 h4 => ?_)
      refine y_ci (c295x xs (D - 1) h4 _) (by omega) ⟨fun _ => ?_, fun u => absurd rfl u⟩
      refine RRe.mk (by omega) h4 (fun i2 m2 hi2 h2 => ?_)
      exact y_cv (c297 xs (D - 1) h2.2.2.2.2.2.1 (by omega) hi2) (by omega) ⟨min z 19999, by omega, rfl, h2.ad hi2⟩
  · exact c320c xs hD _ _ h
theorem c320 (xs : List Int32) {E : EV} (hE : EOk E) {t o z D : Nat} {Rs : List (List Int32)} {m : yM} (hD : 8 ≤ D) (h : RRo E t o (min z 19999) Rs m) : yC (xg xs) D 320 [.ref 58] m (RM E z Rs m (p_cell E.1 t o)) := by
  obtain ⟨d, rfl⟩ : ∃ d, D = d + 1 := ⟨D - 1, by omega⟩
  have pl := h.pl
  have wire : E.1.1 9 t = 173 ∨ E.1.1 9 t = 170 → yP (xg xs) (d + 1) 320 23 [(0, .ref 58), (1, .int (m.1 58 8))] [] m (RM E z Rs m (p_cell E.1 t o)) := by
    intro k
    refine w320_23 xs d _ m _ (y_ci (c295 xs (d - 1) h 45 (by decide)) (by omega) ⟨fun u => ?_, fun u => ?_⟩)
    · have n173 : ¬ E.1.1 9 t = 173 := if0 u
      have k170 := k.resolve_left n173
      unfold p_cell p_leaf
      rw [if_neg n173, if_pos k170, if_pos k170]
      exact w320_40 xs d _ _ m _ (lfR (by omega) hE h (27, E.1.1 10 t, 0, 0) rfl pl ⟨fun _ => rfl, fun y => absurd rfl y⟩ (by rw [k170]; decide))
    · have k173 : E.1.1 9 t = 173 := if1 u
      unfold p_cell p_leaf
      rw [if_pos k173, if_pos k173]
      exact w320_40 xs d _ _ m _ (lfR (by omega) hE h (26, E.1.1 10 t, 0, 0) rfl pl ⟨fun _ => rfl, fun y => absurd rfl y⟩ (by rw [k173]; decide))
  refine w320_0 xs d m _ (y_ci (c295 xs (d - 1) h 45 (by decide)) (by omega) ⟨fun u => wire (Or.inl (if1 u)), fun u => ?_⟩)
  have n173 : ¬ E.1.1 9 t = 173 := if0 u
  refine y_ci (c295 xs (d - 1) h 42 (by decide)) (by omega) ⟨fun u => ?_, fun u => wire (Or.inr (if1 u))⟩
  have n170 : ¬ E.1.1 9 t = 170 := if0 u
  refine y_ci (c295 xs (d - 1) h 40 (by decide)) (by omega) ⟨fun u => ?_, fun u => ?_⟩
  · -- a contact
    have n168 : ¬ E.1.1 9 t = 168 := if0 u
    unfold p_cell
    rw [if_neg n173, if_neg n170, if_neg n168]
    have go : ∀ w : Int32, w = wyK (E.1.1 9 t) → (w = 0 ∨ w = 1 ∨ w = 2 ∨ w = 3) → (¬ w = 0 → ¬ E.1.1 9 t = 67) → yP (xg xs) (d + 1) 320 203 [(0, .ref 58), (1, .int (m.1 58 8))] [.int w] m (RM E z Rs m (p_node 25 (E.1.1 10 t) (wyK (E.1.1 9 t)) 0 (p_bind (p_wst E.1 (wyK (E.1.1 9 t)) t o) (p_out E.1)))) := by
      intro w hw h03 h67
      subst hw
      refine w320_203 xs d _ _ m _ (US.wst (D := d) (by omega) hE (US.mk h) h03 h67 (fun m' p => c320n xs hE (by omega) pl p (fun t' o' G' e3 => ?_)))
      unfold p_wst at e3
      split at e3
      · simp only [Sum.inl.injEq, Prod.mk.injEq] at e3; exact e3.2.2.symm
      · exact (p_step_o e3).2.2
    refine y_ci (c295 xs (d - 1) h 47 (by decide)) (by omega) ⟨fun u => ?_, fun u => ?_⟩
    · have n175 : ¬ E.1.1 9 t = 175 := if0 u
      refine y_ci (c295 xs (d - 1) h 62 (by decide)) (by omega) ⟨fun u => ?_, fun u => ?_⟩
      · have n190 : ¬ E.1.1 9 t = 190 := if0 u
        refine y_ci (c295 xs (d - 1) h 60 (by decide)) (by omega) ⟨fun u => ?_, fun u => ?_⟩
        · have n188 : ¬ E.1.1 9 t = 188 := if0 u
          exact go 0 (by unfold wyK; rw [if_neg n175, if_neg n190, if_neg n188]) (Or.inl rfl) (fun y => absurd rfl y)
        · have k : E.1.1 9 t = 188 := if1 u
          exact go 3 (by rw [k]; decide) (by decide) (fun _ => by rw [k]; decide)
      · have k : E.1.1 9 t = 190 := if1 u
        exact go 2 (by rw [k]; decide) (by decide) (fun _ => by rw [k]; decide)
    · have k : E.1.1 9 t = 175 := if1 u
      exact go 1 (by rw [k]; decide) (by decide) (fun _ => by rw [k]; decide)
  · -- a coil
    have k168 : E.1.1 9 t = 168 := if1 u
    unfold p_cell
    rw [if_neg n173, if_neg n170, if_pos k168]
    refine GS.next (by omega) hE (US.mk h) (fun t' o' G' e3 => ?_) (fun m1 p => ?_)
    · simp only [Sum.inl.injEq, Prod.mk.injEq] at e3
      rw [← e3.1, k168]
      decide
    rw [p_bind_n] at p
    rcases hst : p_step E.1 t o with ⟨t1, o1, G1⟩ | ⟨c, f⟩
    · rw [hst] at p
      have so := p_step_o hst
      obtain ⟨rfl, e2, rfl⟩ := so
      rw [e2] at hst p
      rw [e2]
      dsimp only
      have go : ∀ w : Int32, w = wyC (E.1.1 9 (t + 1)) → (w = 0 ∨ w = 1 ∨ w = 2 ∨ w = 3) → (¬ w = 0 → ¬ E.1.1 9 (t + 1) = 67) → yP (xg xs) (d + 1) 320 105 [(0, .ref 58), (1, .int (m.1 58 8))] [.int w] m1 (RM E z Rs m (p_node 28 (E.1.1 10 t) (wyC (E.1.1 9 (t + 1))) 0 (p_bind (p_bind (p_wst E.1 (wyC (E.1.1 9 (t + 1))) (t + 1) o) (p_nm E.1)) (p_exp E.1 169)))) := by
        intro w hw h03 h67
        subst hw
        refine w320_105 xs d _ _ m1 _ (US.wst (D := d) (by omega) hE p h03 h67 (fun m' p => c320k xs hE (by omega) pl p (fun t' o' G' e3 => ?_)))
        unfold p_wst at e3
        split at e3
        · simp only [Sum.inl.injEq, Prod.mk.injEq] at e3; exact e3.2.2.symm
        · exact (p_step_o e3).2.2
      refine GS.isS (by omega) p 47 175 (by decide) ⟨fun u => ?_, fun u => ?_⟩
      · have n175 := tkx_n u _ _ _ rfl
        refine GS.isS (by omega) p 43 171 (by decide) ⟨fun u => ?_, fun u => ?_⟩
        · have n171 := tkx_n u _ _ _ rfl
          refine GS.isS (by omega) p 45 173 (by decide) ⟨fun u => ?_, fun u => ?_⟩
          · have n173 := tkx_n u _ _ _ rfl
            exact go 0 (by unfold wyC; rw [if_neg n175, if_neg n171, if_neg n173]) (Or.inl rfl) (fun y => absurd rfl y)
          · obtain ⟨t5, o5, G5, e5, k⟩ := tkx_y u
            simp only [Sum.inl.injEq, Prod.mk.injEq] at e5
            obtain ⟨rfl, rfl, rfl⟩ := e5
            exact go 3 (by rw [k]; decide) (by decide) (fun _ => by rw [k]; decide)
        · obtain ⟨t5, o5, G5, e5, k⟩ := tkx_y u
          simp only [Sum.inl.injEq, Prod.mk.injEq] at e5
          obtain ⟨rfl, rfl, rfl⟩ := e5
          exact go 2 (by rw [k]; decide) (by decide) (fun _ => by rw [k]; decide)
      · obtain ⟨t5, o5, G5, e5, k⟩ := tkx_y u
        simp only [Sum.inl.injEq, Prod.mk.injEq] at e5
        obtain ⟨rfl, rfl, rfl⟩ := e5
        exact go 1 (by rw [k]; decide) (by decide) (fun _ => by rw [k]; decide)
    · rw [hst] at p
      have p : RRe E c f m1 := p
      dsimp only
      refine y_ci (c295x xs (d - 1) p _) (by omega) ⟨fun _ => ?_, fun u => absurd rfl u⟩
      refine y_ci (c295x xs (d - 1) p _) (by omega) ⟨fun _ => ?_, fun u => absurd rfl u⟩
      refine y_ci (c295x xs (d - 1) p _) (by omega) ⟨fun _ => ?_, fun u => absurd rfl u⟩
      exact w320_105 xs d _ _ m1 _ ⟨fun _ => c320b xs (by omega) _ _ p, fun u => absurd (by decide) u⟩
