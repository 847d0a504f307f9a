/-! THE REFERENCE'S READER: calls, elements, operands -/
theorem dR_s {o : Nat} (h : o < 60) : dR o = dR (o + 1) + 11 := by unfold dR; omega
theorem dR_26 (o : Nat) : 30 ≤ dR o := by unfold dR; omega
theorem dR_m {o o' : Nat} (h : o ≤ o') : dR o' ≤ dR o := by unfold dR; omega
theorem po_il {t o : Nat} {G : List ND} {k : Nat → Nat → Option PX} {Z : PX} (h : po (some (.inl (t, o, G))) k = some Z) : ∃ Y, k t o = some Y ∧ Z = aft G Y := by
  unfold po at h
  dsimp only at h
  rcases hk : k t o with _ | Y
  · rw [hk] at h; cases h
  · rw [hk] at h
    exact ⟨Y, rfl, (Option.some.inj h).symm⟩
theorem po_li {t o : Nat} {G : List ND} {k : Nat → Nat → Option PX} {Y : PX} (h : k t o = some Y) : po (some (.inl (t, o, G))) k = some (aft G Y) := by
  unfold po
  dsimp only
  rw [h]
  rfl
theorem pR3 (m0 : yM) (N : Nat) (q t o : Nat) : pR m0 (N + 1) 3 0 q [] t o = if 8192 ≤ q ∨ m0.1 9 t = 169 then some (.inl (t, o, [])) else po (some (if q = 0 then .inl (t, o, []) else p_exp m0 172 t o)) (fun t o => po (pR m0 N 1 0 0 [] t o) (fun t o => pR m0 N 3 0 (q + 1) [] t o)) := rfl
/-- an operand of a call, and the rest of them -/
def pA (m0 : yM) (M q : Nat) (t o : Nat) : Option PX := po (pR m0 M 1 0 0 [] t o) (fun t o => po (pR m0 M 3 0 (q + 1) [] t o) (fun t o => some (p_exp m0 169 t o)))
theorem c312L (xs : List Int32) (d : Nat) {E : EV} (hE : EOk E) (B oe D : Nat) (hD : d + dR oe + 8 ≤ D) (hL : ∀ M, M < B → okL xs d E M) {z a : Nat} {nq : NQ} {Rs : List (List Int32)} {m0 : yM} {l : Int32} (hl : l = nI (min a 19999)) {Z : PX} {Q : Option Value → yM → Prop} (kk : ∀ m', PS E z a nq Rs m0 Z m' → Q (some (.int l)) (y_si m' 58 22 (m'.1 58 22 - 1))) : ∀ (M q : Nat) (X : PX) (m : yM) (l4 : Int32), M < B → ¬ l4 = 0 → (∀ t o G, X = .inl (t, o, G) → oe ≤ o ∧ q ≤ t) → PS E z a nq Rs m0 X m → po (some X) (pA E.1 M q) = some Z → yP (xg xs) (D + 1) 312 33 [(0, .ref 58), (3, .int l), (4, .int l4)] [] m Q := by
  have fin : ∀ (X : PX) (m : yM), PS E z a nq Rs m0 X m → Z = p_bind X (p_exp E.1 169) → yP (xg xs) (D + 1) 312 75 [(0, .ref 58), (3, .int l)] [] m Q := by
    intro X m h e
    refine w312_75 xs D _ m _ ?_
    refine GS.sign (by have := dR_26 oe; omega) hE h 41 169 (by decide) (fun m' p => kk m' ?_)
    rw [e]
    exact p
  intro M
  induction M with
  | zero =>
    intro q X m l4 _ hl4 _ h e
    refine w312_33 xs D _ _ m _ ⟨fun u => absurd u hl4, fun _ => ⟨fun u => ?_, fun u => ?_⟩⟩
    · rcases X with ⟨t, o, G⟩ | ⟨c, f⟩
      · obtain ⟨_, _, r, _⟩ := h
        exact absurd r.f0 u
      · refine fin _ m h ?_
        exact (Option.some.inj e).symm
    · rcases X with ⟨t, o, G⟩ | ⟨c, f⟩
      · obtain ⟨Y, e1, _⟩ := po_il e
        unfold pA at e1
        cases e1
      · exact absurd u (GS.re h).ne
  | succ M ih =>
    intro q X m l4 hM hl4 hX h e
    refine w312_33 xs D _ _ m _ ⟨fun u => absurd u hl4, fun _ => ⟨fun u => ?_, fun u => ?_⟩⟩
    · rcases X with ⟨t, o, G⟩ | ⟨c, f⟩
      · obtain ⟨_, _, r, _⟩ := h
        exact absurd r.f0 u
      · refine fin _ m h ?_
        exact (Option.some.inj e).symm
    · rcases X with ⟨t, o, G⟩ | ⟨c, f⟩
      · have hb := dR_26 oe
        obtain ⟨ho, hq⟩ := hX t o G rfl
        have hRR : RRo E t o (min (z + 1 + G.length) 19999) _ m := h.choose_spec.2.1
        unfold pA at e
        rw [← po_a] at e
        obtain ⟨X', e1⟩ := po_ex e
        rw [e1] at e
        refine PS.cadd (by omega) h e1 hl (fun t' o' G' Rs' Y' e3 e2 hR => ?_) (fun c f he => ?_) (fun m1 p => ?_)
        · simp only [Sum.inl.injEq, Prod.mk.injEq] at e3
          obtain ⟨rfl, rfl, rfl⟩ := e3
          refine yC.mono ?_ (fun _ _ q => q) (hL (M + 1) hM 7 0 _ _ _ _ _ _ (by omega) e2 hR)
          have := dR_m ho
          omega
        · exact absurd u he.ne
        · refine GS.isS (by omega) p 44 172 (by decide) ⟨fun v => ?_, fun v => ?_⟩
          · rw [v]
            refine w312_33 xs D _ _ m1 _ ⟨fun _ => fin X' m1 p ?_, fun w => absurd rfl w⟩
            rcases X' with ⟨t1, o1, G1⟩ | ⟨c, f⟩
            · have n172 := tkx_n v t1 o1 G1 rfl
              obtain ⟨Y, e4, e5⟩ := po_il e
              rw [e5, p_bind_aft]
              congr 1
              rw [pR3] at e4
              by_cases z1 : 8192 ≤ q + 1 ∨ E.1.1 9 t1 = 169
              · rw [if_pos z1, po_inl] at e4
                exact (Option.some.inj e4).symm
              · rw [if_neg z1, if_neg (by omega)] at e4
                have n169 : ¬ E.1.1 9 t1 = 169 := fun y => z1 (Or.inr y)
                unfold p_exp at e4 ⊢
                rw [if_neg n172] at e4
                rw [if_neg n169]
                exact (Option.some.inj e4).symm
            · exact (Option.some.inj e).symm
          · obtain ⟨t1, o1, G1, rfl, k172⟩ := tkx_y v
            have e1' := po_il e1
            obtain ⟨Y, e6, e7⟩ := e1'
            obtain ⟨t9, o9, G9, e8⟩ : ∃ t9 o9 G9, Y = .inl (t9, o9, G9) := by
              rcases Y with ⟨t9, o9, G9⟩ | ⟨c, f⟩
              · exact ⟨_, _, _, rfl⟩
              · simp [aft] at e7
            subst e8
            simp only [aft, Sum.inl.injEq, Prod.mk.injEq] at e7
            obtain ⟨rfl, rfl, -⟩ := e7
            have mv1 := (mvRR hE.1 (M + 1)).2.1 0 0 [] t o (by decide) _ e6 hRR.2.2.2.2.2.1 _ _ _ rfl
            have mo1 := moR E.1 (M + 1) _ _ _ _ _ _ _ _ _ e6
            have lt1 : t1 < E.2.2.2.2 := by
              obtain ⟨_, _, r1, _⟩ := p
              exact r1.lt hE (by rw [k172]; decide)
            have T8 := hE.1.1
            refine GS.next (by omega) hE p (fun t' o' G' e3 => ?_) (fun m2 p2 => ?_)
            · simp only [Sum.inl.injEq, Prod.mk.injEq] at e3
              rw [← e3.1, k172]
              decide
            refine ih (q + 1) _ m2 _ (by omega) v (fun t' o' G' e3 => ?_) p2 ?_
            · obtain ⟨t5, o5, G5, _, f1, f2, _⟩ := p_bind_il e3
              simp only [Sum.inl.injEq, Prod.mk.injEq] at f1
              have := p_step_o f2
              omega
            · obtain ⟨Y2, e4, e5⟩ := po_il e
              rw [pR3, if_neg (fun y => y.elim (fun y => by omega) (fun y => by rw [k172] at y; exact absurd y (by decide))), if_neg (by omega), po_a] at e4
              rw [e5, ← po_t, po_a]
              refine po_li ?_
              have ee : p_exp E.1 172 t1 o1 = p_step E.1 t1 o1 := by unfold p_exp; rw [if_pos k172]
              rw [ee] at e4
              rw [← e4]
              congr 1
              funext t o
              unfold pA
              rw [po_a]
      · exact absurd u (GS.re h).ne
theorem c312 (xs : List Int32) (d : Nat) {E : EV} (hE : EOk E) (K D : Nat) (hL : ∀ M, M < K → okL xs d E M) {t o z : Nat} {Rs : List (List Int32)} {m : yM} (hD : d + dR o ≤ D + 2) (h : RRo E t o (min z 19999) Rs m) (k168 : E.1.1 9 t = 168) (nq : NQ) (hk : nq.1 = 34) {f n : Int32} (hp : f = nq.2.1) (hv : nvO E Rs nq n) {y : PX} (e : po (some (p_into E.1 t o)) (fun t o => po (pR E.1 K 3 0 0 [] t o) (fun t o => po (some (p_exp E.1 169 t o)) pdec)) = some y) : yC (xg xs) (D + 1) 312 [.ref 58, .int f, .int n] m (RM E z Rs m (p_node nq.1 nq.2.1 nq.2.2.1 nq.2.2.2 y)) := by
  have hb := dR_26 o
  refine w312_0 xs D _ _ m _ ?_
  refine PS.mk (by omega) h nq hk.symm hp hv (fun m1 p => ?_)
  refine GS.opens (by omega) p (fun m2 p => ?_)
  rw [p_bind_n] at p
  refine GS.next (by omega) hE p (fun t' o' G' e3 => ?_) (fun m3 p => ?_)
  · have : t' = t := by
      unfold p_opn at e3
      split at e3
      · simp only [Sum.inl.injEq, Prod.mk.injEq] at e3; exact e3.1.symm
      · simp [p_ref] at e3
    rw [this, k168]
    decide
  rw [← p_into_b] at p
  -- the sign behind them, then one less open
  obtain ⟨Z, eZ, ey⟩ : ∃ Z, po (some (p_into E.1 t o)) (fun t o => po (pR E.1 K 3 0 0 [] t o) (fun t o => some (p_exp E.1 169 t o))) = some Z ∧ y = p_bind Z ddec := by
    rw [show (fun t o => po (pR E.1 K 3 0 0 [] t o) (fun t o => po (some (p_exp E.1 169 t o)) pdec)) = (fun t o => po (po (pR E.1 K 3 0 0 [] t o) (fun t o => some (p_exp E.1 169 t o))) pdec) from by funext t o; rw [po_a], ← po_a] at e
    obtain ⟨Z, eZ⟩ := po_ex e
    rw [eZ, pdec_t, po_t] at e
    exact ⟨Z, eZ, (Option.some.inj e).symm⟩
  have lbZ : ∀ t' o' G', Z = .inl (t', o', G') → 1 ≤ o' := by
    intro t' o' G' u
    rw [u] at eZ
    obtain ⟨t1, o1, _, _, e1, e2, -⟩ := po_some eZ
    obtain ⟨t2, o2, _, _, e3, e4, -⟩ := po_some e2
    have a1 := p_into_o (Option.some.inj e1)
    have a2 := moR E.1 K _ _ _ _ _ _ _ _ _ e3
    have a3 := p_exp_o (Option.some.inj e4)
    omega
  have kk : ∀ m', PS E z z nq Rs m Z m' → RM E z Rs m (p_node nq.1 nq.2.1 nq.2.2.1 nq.2.2.2 y) (some (.int (nI (min z 19999)))) (y_si m' 58 22 (m'.1 58 22 - 1)) := by
    intro m' p
    rw [ey]
    exact PS.fin (GS.dec p lbZ) rfl
  refine GS.isS (by omega) p 41 169 (by decide) ⟨fun u => ?_, fun u => ?_⟩
  · obtain ⟨t1, o1, G1, e1, k169⟩ := tkx_y u
    refine w312_31 xs D _ _ m3 _ (w312_33 xs D _ _ m3 _ ⟨fun _ => ?_, fun w => absurd rfl w⟩)
    refine w312_75 xs D _ m3 _ ?_
    refine GS.sign (by omega) hE p 41 169 (by decide) (fun m' p => kk m' ?_)
    rw [e1] at eZ p
    obtain ⟨Y, e4, e5⟩ := po_il eZ
    have eG := (p_into_o e1).2.2.1
    cases K with
    | zero => cases e4
    | succ K =>
      rw [pR3, if_pos (Or.inr k169), po_inl] at e4
      rw [e5, ← Option.some.inj e4, ← p_bind_aft]
      exact p
  · have n169 := tkx_n u
    refine w312_31 xs D _ _ m3 _ ?_
    rcases hi : p_into E.1 t o with ⟨t1, o1, G1⟩ | ⟨c, f⟩
    · have ai := p_into_o hi
      have eG := ai.2.2.1
      subst eG
      rw [hi] at eZ p
      rw [po_inl] at eZ
      cases K with
      | zero => cases eZ
      | succ K =>
        rw [pR3, if_neg (fun y => y.elim (fun y => by omega) (n169 t1 o1 [] hi)), if_pos rfl, po_inl, po_a] at eZ
        refine c312L xs d hE (K + 1) (o + 1) D ?_ hL rfl kk K 0 _ m3 1 (by omega) (by decide) (fun t' o' G' e3 => ?_) p ?_
        · have := dR_s ai.2.2.2
          omega
        · simp only [Sum.inl.injEq, Prod.mk.injEq] at e3
          omega
        · rw [po_inl]
          exact eZ
    · rw [hi] at eZ p
      refine w312_33 xs D _ _ m3 _ ⟨fun w => absurd w (by decide), fun _ => ⟨fun _ => ?_, fun w => absurd w (GS.re p).ne⟩⟩
      refine w312_75 xs D _ m3 _ ?_
      refine GS.sign (by omega) hE p 41 169 (by decide) (fun m' p => kk m' ?_)
      rw [← Option.some.inj eZ]
      exact p
