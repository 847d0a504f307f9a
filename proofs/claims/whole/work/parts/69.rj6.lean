/-! THE REFERENCE'S READER: targets, assignments, invocations -/
theorem PS.val {E : EV} {z a : Nat} {q : NQ} {Rs : List (List Int32)} {m0 m : yM} {X : PX} (h : PS E z a q Rs m0 X m) {v v' : Int32} {vt' : Nat} (hv : ∀ t o G Rs', X = .inl (t, o, G) → RRo E t o (min (z + 1 + G.length) 19999) Rs' m → nvO E Rs' (q.1, q.2.1, v', vt') v) : PS E z a (q.1, q.2.1, v', vt') Rs m0 X (y_si m 64 (min a 19999) v) := by
  rcases X with ⟨t, o, G⟩ | ⟨c, p⟩
  · obtain ⟨Rs', hp, hR, hT⟩ := h
    have nv := hv t o G Rs' rfl hR
    refine ⟨Rs', hp, ?_, fun hz R2 m2 p2 f2 => ?_⟩
    · refine hR.eq (fun k i hk _ => ?_) (fun k i hk => ?_) rfl ?_ hR.z9.2 (hR.gi.si (by decide))
      · rw [y_si_at, if_neg (by omega)]
      · rw [y_si_at, if_neg (by omega)]
      · rw [y_si_at, if_neg (by omega)]; exact hR.z9.1
    · refine PT.st ?_ p2 f2
      obtain ⟨a1, a2, a3, Cs, a4, t1, t2, t3, t4, t5, t6⟩ := hT hz Rs' m (List.prefix_refl _) (FM.re m)
      rw [show min a 19999 = a from by omega]
      have oth : ∀ k x, ¬ (k = 64 ∧ x = a) → (y_si m 64 a v).1 k x = m.1 k x := fun k x u => by rw [y_si_at, if_neg u]
      refine ⟨fun k x k1 k2 k3 => ?_, ?_, ?_, Cs, a4, t1, t2, ⟨?_, ?_, fun u => ?_, fun u => ?_⟩, ⟨?_, ?_, ?_, fun j c hc => ?_⟩, t5, fun j c hc => ?_⟩
      · rw [oth _ _ (by omega)]; exact a1 k x k1 k2 k3
      · rw [oth _ _ (by omega)]; exact a2
      · rw [oth _ _ (by omega)]; exact a3
      · rw [oth _ _ (by omega)]; exact t3.1
      · rw [oth _ _ (by omega)]; exact t3.2.1
      · rw [y_si_at, if_pos ⟨rfl, rfl⟩]; exact nv.1 u
      · rw [y_si_at, if_pos ⟨rfl, rfl⟩]; exact nv.2 u
      · rw [oth _ _ (by omega)]; exact t4.1
      · rw [oth _ _ (by omega)]; exact t4.2.1
      · rw [oth _ _ (by omega)]; exact t4.2.2.1
      · rw [oth _ _ (by omega), oth _ _ (by omega)]; exact t4.2.2.2 j c hc
      · have o5 := t5.1 j c hc
        exact RT.fr (List.prefix_refl _) _ c (t6 j c hc) (fun k x k1 k2 k3 k4 _ => oth _ _ (by omega))
  · exact RRe.si h (by omega)
theorem exO_m {m0 : yM} {N t o t' o' : Nat} {G : List ND} (h : exO m0 N t o = some (.inl (t', o', G))) : o' = o := by
  unfold exO at h
  rcases hr : pR m0 N 1 0 0 [] t o with _ | ⟨⟨t1, o1, G1⟩ | e⟩
  · rw [hr] at h; cases h
  · rw [hr] at h
    simp only [Option.map_some, rst, Option.some.injEq, Sum.inl.injEq, Prod.mk.injEq] at h
    omega
  · rw [hr] at h
    simp [rst] at h
/-- a whole expression, with all its depth -/
theorem c308r (xs : List Int32) (d : Nat) {E : EV} (hE : EOk E) {N : Nat} {t o z D : Nat} {Rs : List (List Int32)} {m : yM} {r : PX} (hD : d + dR o + 9 ≤ D) (h : exO E.1 N t o = some r) (hR : RRo E t o (min z 19999) Rs m) : yC (xg xs) D 308 [.ref 58] m (RM E z Rs m r) :=
  yC.mono hD (fun _ _ q => q) (c308 xs d ((okX xs d hE N).2 N (by omega)) h hR)
theorem c308e (xs : List Int32) {D : Nat} (hD : 17 ≤ D) {E : EV} {c f : Int32} {z : Nat} {Rs : List (List Int32)} {m m0 : yM} (h : RRe E c f m) : yC (xg xs) D 308 [.ref 58] m (RM E z Rs m0 (.inr (c, f))) := yC.mono (by omega) (fun _ _ q => q) (c308x xs 0 h)
theorem c301r (xs : List Int32) {E : EV} (hE : EOk E) {t o z D : Nat} {Rs : List (List Int32)} {m : yM} (hD : 7 ≤ D) (hR : RRo E t o (min z 19999) Rs m) : yC (xg xs) D 301 [.ref 58] m (RM E z Rs m (p_const E.1 t o)) := yC.mono (by omega) (fun _ _ q => q) (c301 xs 0 hE hR)
theorem c301e (xs : List Int32) {E : EV} {D : Nat} (hD : 7 ≤ D) {c f : Int32} {z : Nat} {Rs : List (List Int32)} {m m0 : yM} (h : RRe E c f m) : yC (xg xs) D 301 [.ref 58] m (RM E z Rs m0 (.inr (c, f))) := yC.mono (by omega) (fun _ _ q => q) (c301x xs 0 h)
/-- behind what is assigned to -/
theorem c305a (xs : List Int32) (d : Nat) {E : EV} (hE : EOk E) {N z D id : Nat} {Rs : List (List Int32)} {m0 m : yM} {X r : PX} (hX : ∀ t o G, X = .inl (t, o, G) → d + dR o + 9 ≤ D) (hD : 30 ≤ D) (h : RQ E z Rs m0 X id m) (hid : id < 20000) (e : (match X with | .inr e => some (.inr e) | .inl (t1, o1, G1) => pnode 12 (E.1.1 10 t1) 0 0 ((po (some (p_exp E.1 70 t1 o1)) (exO E.1 N)).map (aft G1))) = some r) : yP (xg xs) (D + 1) 305 139 [(0, .ref 58)] [.int (nI id)] m (RM E z Rs m0 r) := by
  refine w305_139 xs D _ m _ ?_
  have er : ∀ (c f : Int32) (m2 : yM), RRe E c f m2 → yC (xg xs) D 271 [.ref 58, .int (12 : Int32), .int (m2.1 58 8), .int (0 : Int32)] m2 (fun v3 m3 => ∃ u3, v3 = some (Value.int u3) ∧ (yC (xg xs) D 297 [.ref 58, .int u3, .int (nI id)] m3 (fun v4 m4 => v4 = none ∧ (yC (xg xs) D 272 [.ref 58] m4 (fun v5 m5 => v5 = none ∧ (yC (xg xs) D 308 [.ref 58] m5 (fun v6 m6 => ∃ u6, v6 = some (Value.int u6) ∧ (yC (xg xs) D 297 [.ref 58, .int u3, .int u6] m6 (fun v7 m7 => v7 = none ∧ RM E z Rs m0 (.inr (c, f)) (some (.int u3)) m7))))))))) := by
    intro c f m2 h
    refine RRe.mk (by omega) h (fun i3 m3 hi3 h3 => ?_)
    refine y_cv (c297 xs (D - 1) h3.2.2.2.2.2.1 hi3 hid) (by omega) ?_
    refine y_nx (c272x xs (D - 6) (h3.ad hid)) (by omega) (fun m5 h5 => ?_)
    refine yC.mono (Nat.le_refl _) (fun v m6 q => ?_) (c308e xs (z := 0) (Rs := []) (m0 := m5) (by omega) h5)
    obtain ⟨i6, j1, j2, j3⟩ := q
    have j3 : RRe E c f m6 := j3
    exact ⟨nI i6, j2, y_cv (c297 xs (D - 1) j3.2.2.2.2.2.1 hi3 j1) (by omega) ⟨i3, hi3, rfl, j3.ad j1⟩⟩
  refine GS.isS (by omega) h 1 70 (by decide) ?_
  refine GS.must (by omega) h 70 (fun m2 p => ?_)
  rcases X with ⟨t, o, G⟩ | ⟨c, f⟩
  · rw [p_bind_aft] at p
    have hd := hX t o G rfl
    dsimp only at e
    obtain ⟨y, e1, rfl⟩ := pnode_ex e
    unfold p_chk at p
    by_cases k70 : E.1.1 9 t = 70
    · rw [if_pos k70] at p
      simp only [aft, List.append_nil] at p
      have pl : m2.1 58 8 = E.1.1 10 t := by
        obtain ⟨_, _, r2, _⟩ := p
        exact r2.pl
      refine PW.mk (by omega) p (12, E.1.1 10 t, 0, 0) rfl pl ⟨rfl, rfl⟩ (fun m3 p => ?_)
      refine y_cv (c297 xs (D - 1) (PW.gi p) (by omega) hid) (by omega) ?_
      have p4 := PW.add p (fun t' o' G' e3 => by simp only [Sum.inl.injEq, Prod.mk.injEq] at e3; exact e3.2.2.symm) hid
      rw [p_bind_n] at p4
      refine GS.next (by omega) hE p4 (fun t' o' G' e3 => ?_) (fun m5 p5 => ?_)
      · simp only [Sum.inl.injEq, Prod.mk.injEq] at e3
        rw [← e3.1, k70]
        decide
      have ee : p_exp E.1 70 t o = p_step E.1 t o := by unfold p_exp; rw [if_pos k70]
      rw [ee] at e1
      have e2 : po (some (p_bind (.inl (t, o, G)) (p_step E.1))) (exO E.1 N) = some y := by
        rw [p_bind_aft, po_F]
        exact e1
      refine PS.cadd (by omega) p5 e2 rfl (fun t' o' G' Rs' Y' e3 e4 hR' => c308r xs d hE ?_ e4 hR') (fun c f he => c308e xs (by omega) he) (fun m6 p => PS.fin p rfl)
      obtain ⟨t2, o2, G2, _, f1, f2, _⟩ := p_bind_il e3
      simp only [Sum.inl.injEq, Prod.mk.injEq] at f1
      have := p_step_o f2
      rw [this.2.1, ← f1.2.1]
      exact hd
    · rw [if_neg k70] at p
      have p : RRe E 6 (E.1.1 10 t) m2 := p
      have ey : y = .inr (6, E.1.1 10 t) := by
        unfold p_exp at e1
        rw [if_neg k70] at e1
        exact (Option.some.inj e1).symm
      rw [ey]
      exact er 6 (E.1.1 10 t) m2 p
  · have p : RRe E c f m2 := p
    dsimp only at e
    rw [← Option.some.inj e]
    exact er c f m2 p
