/-! THE REFERENCE'S READER: invocations -/
def pB (m0 : yM) (N n : Nat) (t o : Nat) : Option PX := po (p_par1 m0 N t o) (fun t o => po (p_par m0 N n t o) (fun t o => some (p_exp m0 169 t o)))
theorem p_par_s (m0 : yM) (N n t o : Nat) : p_par m0 N (n + 1) t o = if m0.1 9 t = 169 then some (.inl (t, o, [])) else po (some (if n + 1 = 8192 then .inl (t, o, []) else p_exp m0 172 t o)) (fun t o => po (p_par1 m0 N t o) (p_par m0 N n)) := rfl
/-- a parameter, added -/
theorem c317p (xs : List Int32) (d : Nat) {E : EV} (hE : EOk E) {N z a t o D : Nat} {nq : NQ} {Rs : List (List Int32)} {m0 m : yM} {G : List ND} {Y : PX} {l3 : Int32} {K : yM → Prop} (hD : d + dR o + 9 ≤ D) (h : PS E z a nq Rs m0 (.inl (t, o, G)) m) (hl : l3 = nI (min a 19999)) (e : p_par1 E.1 N t o = some Y) (k : ∀ m', PS E z a nq Rs m0 (aft G Y) m' → K m') : yC (xg xs) D 293 [.ref 58, .int (2 : Int32)] m (fun v1 m1 => ∃ u1, v1 = some (Value.int u1) ∧ (yC (xg xs) D 291 [.ref 58, .int u1] m1 (fun v2 m2 => v2 = none ∧ (yC (xg xs) D 271 [.ref 58, .int (14 : Int32), .int (m2.1 58 8), .int (m2.1 58 7)] m2 (fun v3 m3 => ∃ u3, v3 = some (Value.int u3) ∧ (yC (xg xs) D 272 [.ref 58] m3 (fun v4 m4 => v4 = none ∧ (yC (xg xs) D 294 [.ref 58, .int (1 : Int32)] m4 (fun v5 m5 => v5 = none ∧ (yC (xg xs) D 308 [.ref 58] m5 (fun v6 m6 => ∃ u6, v6 = some (Value.int u6) ∧ (yC (xg xs) D 297 [.ref 58, .int u3, .int u6] m6 (fun v7 m7 => v7 = none ∧ (yC (xg xs) D 297 [.ref 58, .int l3, .int u3] m7 (fun v8 m8 => v8 = none ∧ K m8))))))))))))))) := by
  subst hl
  have hb := dR_26 o
  obtain ⟨y, e1, rfl⟩ := pnode_ex e
  refine GS.isK (by omega) h 2 64 64 (by decide) ?_
  refine GS.must (by omega) h 64 (fun m2 p => ?_)
  rw [p_bind_aft] at p
  unfold p_chk at p
  by_cases k64 : E.1.1 9 t = 64
  · rw [if_pos k64] at p
    simp only [aft, List.append_nil] at p
    obtain ⟨R2, hp, hR, hT⟩ := p
    have ee : p_exp E.1 64 t o = p_step E.1 t o := by unfold p_exp; rw [if_pos k64]
    rw [ee] at e1
    refine PS.mk (by omega) hR (14, E.1.1 10 t, E.1.1 11 t, t + 1) rfl hR.pl ⟨fun y => absurd y (by simp), fun _ => hR.vn k64⟩ (fun m3 p => ?_)
    refine GS.next (by omega) hE p (fun t' o' G' e3 => ?_) (fun m4 p => ?_)
    · simp only [Sum.inl.injEq, Prod.mk.injEq] at e3
      rw [← e3.1, k64]
      decide
    rw [p_bind_n] at p
    refine GS.sign (by omega) hE p 1 70 (by decide) (fun m5 p => ?_)
    rw [← po_a, po_t] at e1
    refine PS.cadd (by omega) p e1 rfl (fun t' o' G' Rs' Y' e3 e4 hR' => c308r xs d hE ?_ e4 hR') (fun c f he => c308e xs (by omega) he) (fun m7 p => ?_)
    · obtain ⟨t2, o2, G2, _, f1, f2, _⟩ := p_bind_il e3
      have a1 := p_step_o f1
      have a2 := p_exp_o f2
      rw [a2.2.1, a1.2.1]
      exact hD
    · refine y_cv (c297 xs (D - 1) (PW.gi p) (by omega) (by omega)) (by omega) (k _ ?_)
      exact PS.ad hp hT (by omega) (PS.finq p)
  · rw [if_neg k64] at p
    have p : RRe E 6 (E.1.1 10 t) m2 := p
    have ey : y = .inr (6, E.1.1 10 t) := by
      unfold p_exp at e1
      rw [if_neg k64] at e1
      exact (Option.some.inj e1).symm
    rw [ey] at k
    refine RRe.mk (by omega) p (fun i3 m3 hi3 h3 => ?_)
    refine y_nx (c272x xs (D - 6) h3) (by omega) (fun m4 h4 => ?_)
    refine y_nx (c294x xs (D - 7) h4 _) (by omega) (fun m5 h5 => ?_)
    refine yC.mono (Nat.le_refl _) (fun v m6 q => ?_) (c308e xs (z := 0) (Rs := []) (m0 := m5) (by omega) h5)
    obtain ⟨i6, j1, j2, j3⟩ := q
    have j3 : RRe E 6 (E.1.1 10 t) m6 := j3
    refine ⟨nI i6, j2, y_cv (c297 xs (D - 1) j3.2.2.2.2.2.1 hi3 j1) (by omega) ?_⟩
    have j4 := j3.ad (a := i3) j1
    exact y_cv (c297 xs (D - 1) j4.2.2.2.2.2.1 (by omega) hi3) (by omega) (k _ (j4.ad hi3))
theorem c317L (xs : List Int32) (d : Nat) {E : EV} (hE : EOk E) (N oe D : Nat) (hD : d + dR oe + 9 ≤ D) {z a : Nat} {nq : NQ} {Rs : List (List Int32)} {m0 : yM} {l : Int32} (hl : l = nI (min a 19999)) {Z : PX} {Q : Option Value → yM → Prop} (kk : ∀ m', PS E z a nq Rs m0 Z m' → Q (some (.int l)) (y_si m' 58 22 (m'.1 58 22 - 1))) : ∀ (n : Nat) (X : PX) (m : yM) (l4 : Int32), n < 8192 → ¬ l4 = 0 → (∀ t o G, X = .inl (t, o, G) → oe ≤ o ∧ 8192 ≤ n + 1 + t) → PS E z a nq Rs m0 X m → po (some X) (pB E.1 N n) = some Z → yP (xg xs) (D + 1) 317 33 [(0, .ref 58), (3, .int l), (4, .int l4)] [] m Q := by
  have hb := dR_26 oe
  have T8 := hE.1.1
  have fin : ∀ (X : PX) (m : yM), PS E z a nq Rs m0 X m → Z = p_bind X (p_exp E.1 169) → yP (xg xs) (D + 1) 317 116 [(0, .ref 58), (3, .int l)] [] m Q := by
    intro X m h e
    refine w317_116 xs D _ m _ ?_
    refine GS.sign (by omega) hE h 41 169 (by decide) (fun m' p => kk m' ?_)
    rw [e]
    exact p
  intro n
  induction n with
  | zero =>
    intro X m l4 _ hl4 hX h e
    refine w317_33 xs D _ _ m _ ⟨fun u => absurd u hl4, fun _ => ⟨fun u => ?_, fun u => ?_⟩⟩
    · rcases X with ⟨t, o, G⟩ | ⟨c, f⟩
      · obtain ⟨_, _, r, _⟩ := h
        exact absurd r.f0 u
      · exact fin _ m h (Option.some.inj e).symm
    · rcases X with ⟨t, o, G⟩ | ⟨c, f⟩
      · obtain ⟨ho, hq⟩ := hX t o G rfl
        have tT : t ≤ E.2.2.2.2 := by
          obtain ⟨_, _, r, _⟩ := h
          exact r.2.2.2.2.2.1
        unfold pB at e
        rw [← po_a] at e
        obtain ⟨X', e1⟩ := po_ex e
        rw [e1] at e
        obtain ⟨Y, e2, rfl⟩ := po_il e1
        refine c317p xs d hE (by have := dR_m ho; omega) h hl e2 (fun m1 p => ?_)
        refine GS.isS (by omega) p 44 172 (by decide) ⟨fun v => ?_, fun v => ?_⟩
        · rw [v]
          refine w317_113 xs D _ _ m1 _ (w317_33 xs D _ _ m1 _ ⟨fun _ => fin _ m1 p ?_, fun w => absurd rfl w⟩)
          rw [show (fun t o => po (p_par E.1 N 0 t o) (fun t o => some (p_exp E.1 169 t o))) = (fun t o => some (p_exp E.1 169 t o)) from by funext t o; exact po_inl t o _, po_t] at e
          exact (Option.some.inj e).symm
        · obtain ⟨t1, o1, G1, eX, k172⟩ := tkx_y v
          exfalso
          rcases Y with ⟨t9, o9, G9⟩ | ⟨c, f⟩
          · simp only [aft, Sum.inl.injEq, Prod.mk.injEq] at eX
            obtain ⟨rfl, rfl, -⟩ := eX
            have mv1 := mvo.par1 hE.1 _ e2 tT _ _ _ rfl
            obtain ⟨_, _, r1, _⟩ := p
            have := r1.lt hE (by rw [k172]; decide)
            omega
          · simp [aft] at eX
      · exact absurd u (GS.re h).ne
  | succ n ih =>
    intro X m l4 hn hl4 hX h e
    refine w317_33 xs D _ _ m _ ⟨fun u => absurd u hl4, fun _ => ⟨fun u => ?_, fun u => ?_⟩⟩
    · rcases X with ⟨t, o, G⟩ | ⟨c, f⟩
      · obtain ⟨_, _, r, _⟩ := h
        exact absurd r.f0 u
      · exact fin _ m h (Option.some.inj e).symm
    · rcases X with ⟨t, o, G⟩ | ⟨c, f⟩
      · obtain ⟨ho, hq⟩ := hX t o G rfl
        have tT : t ≤ E.2.2.2.2 := by
          obtain ⟨_, _, r, _⟩ := h
          exact r.2.2.2.2.2.1
        unfold pB at e
        rw [← po_a] at e
        obtain ⟨X', e1⟩ := po_ex e
        rw [e1] at e
        obtain ⟨Y, e2, e7⟩ := po_il e1
        refine c317p xs d hE (by have := dR_m ho; omega) h hl e2 (fun m1 p => ?_)
        rw [← e7] at p
        refine GS.isS (by omega) p 44 172 (by decide) ⟨fun v => ?_, fun v => ?_⟩
        · rw [v]
          refine w317_113 xs D _ _ m1 _ (w317_33 xs D _ _ m1 _ ⟨fun _ => fin X' m1 p ?_, fun w => absurd rfl w⟩)
          rcases X' with ⟨t1, o1, G1⟩ | ⟨c, f⟩
          · have n172 := tkx_n v t1 o1 G1 rfl
            obtain ⟨Y2, e4, e5⟩ := po_il e
            rw [e5, p_bind_aft]
            congr 1
            rw [p_par_s] at e4
            by_cases z1 : E.1.1 9 t1 = 169
            · rw [if_pos z1, po_inl] at e4
              exact (Option.some.inj e4).symm
            · rw [if_neg z1, if_neg (by omega)] at e4
              unfold p_exp at e4 ⊢
              rw [if_neg n172] at e4
              rw [if_neg z1]
              exact (Option.some.inj e4).symm
          · exact (Option.some.inj e).symm
        · obtain ⟨t1, o1, G1, rfl, k172⟩ := tkx_y v
          obtain ⟨t9, o9, G9, e8⟩ : ∃ t9 o9 G9, Y = .inl (t9, o9, G9) := by
            rcases Y with ⟨t9, o9, G9⟩ | ⟨c, f⟩
            · exact ⟨_, _, _, rfl⟩
            · simp [aft] at e7
          subst e8
          simp only [aft, Sum.inl.injEq, Prod.mk.injEq] at e7
          obtain ⟨rfl, rfl, -⟩ := e7
          have mv1 := mvo.par1 hE.1 _ e2 tT _ _ _ rfl
          have mo1 := p_par1_o e2
          refine GS.next (by omega) hE p (fun t' o' G' e3 => ?_) (fun m2 p2 => ?_)
          · simp only [Sum.inl.injEq, Prod.mk.injEq] at e3
            rw [← e3.1, k172]
            decide
          refine w317_113 xs D _ _ m2 _ (ih _ m2 _ (by omega) v (fun t' o' G' e3 => ?_) p2 ?_)
          · obtain ⟨t5, o5, G5, _, f1, f2, _⟩ := p_bind_il e3
            simp only [Sum.inl.injEq, Prod.mk.injEq] at f1
            have := p_step_o f2
            omega
          · obtain ⟨Y2, e4, e5⟩ := po_il e
            rw [p_par_s, if_neg (by rw [k172]; decide), if_neg (by omega), po_a] at e4
            rw [e5, ← po_t, po_a]
            refine po_li ?_
            have ee : p_exp E.1 172 t1 o1 = p_step E.1 t1 o1 := by unfold p_exp; rw [if_pos k172]
            rw [ee] at e4
            rw [← e4]
            congr 1
            funext t o
            unfold pB
            rw [po_a]
      · exact absurd u (GS.re h).ne
theorem c317 (xs : List Int32) (d : Nat) {E : EV} (hE : EOk E) (N D : Nat) {t o z : Nat} {Rs : List (List Int32)} {m : yM} (hD : d + dR o ≤ D) (h : RRo E t o (min z 19999) Rs m) (k168 : E.1.1 9 t = 168) (nq : NQ) (hk : nq.1 = 13) {f n : Int32} (hp : f = nq.2.1) (hv : nvO E Rs nq n) {y : PX} (e : po (some (p_into E.1 t o)) (fun t o => po (p_par E.1 N 8192 t o) (fun t o => po (some (p_exp E.1 169 t o)) pdec)) = some y) : yC (xg xs) (D + 1) 317 [.ref 58, .int f, .int n] m (RM E z Rs m (p_node nq.1 nq.2.1 nq.2.2.1 nq.2.2.2 y)) := by
  have hb := dR_26 o
  refine w317_0 xs D _ _ m _ ?_
  refine PS.mk (by omega) h nq hk.symm hp hv (fun m1 p => ?_)
  refine GS.opens (by omega) p (fun m2 p => ?_)
  rw [p_bind_n] at p
  refine GS.next (by omega) hE p (fun t' o' G' e3 => ?_) (fun m3 p => ?_)
  · have : t' = t := by
      unfold p_opn at e3
      split at e3
      · simp only [Sum.inl.injEq, Prod.mk.injEq] at e3; exact e3.1.symm
      · simp [p_ref] at e3
    rw [this, k168]
    decide
  rw [← p_into_b] at p
  obtain ⟨Z, eZ, ey⟩ : ∃ Z, po (some (p_into E.1 t o)) (fun t o => po (p_par E.1 N 8192 t o) (fun t o => some (p_exp E.1 169 t o))) = some Z ∧ y = p_bind Z ddec := by
    rw [show (fun t o => po (p_par E.1 N 8192 t o) (fun t o => po (some (p_exp E.1 169 t o)) pdec)) = (fun t o => po (po (p_par E.1 N 8192 t o) (fun t o => some (p_exp E.1 169 t o))) pdec) from by funext t o; rw [po_a], ← po_a] at e
    obtain ⟨Z, eZ⟩ := po_ex e
    rw [eZ, pdec_t, po_t] at e
    exact ⟨Z, eZ, (Option.some.inj e).symm⟩
  have lbZ : ∀ t' o' G', Z = .inl (t', o', G') → 1 ≤ o' := by
    intro t' o' G' u
    rw [u] at eZ
    obtain ⟨t1, o1, _, _, e1, e2, -⟩ := po_some eZ
    obtain ⟨t2, o2, _, _, e3, e4, -⟩ := po_some e2
    have a1 := p_into_o (Option.some.inj e1)
    have a2 := p_par_o e3
    have a3 := p_exp_o (Option.some.inj e4)
    omega
  have kk : ∀ m', PS E z z nq Rs m Z m' → RM E z Rs m (p_node nq.1 nq.2.1 nq.2.2.1 nq.2.2.2 y) (some (.int (nI (min z 19999)))) (y_si m' 58 22 (m'.1 58 22 - 1)) := by
    intro m' p
    rw [ey]
    exact PS.fin (GS.dec p lbZ) rfl
  refine GS.isS (by omega) p 41 169 (by decide) ⟨fun u => ?_, fun u => ?_⟩
  · obtain ⟨t1, o1, G1, e1, k169⟩ := tkx_y u
    refine w317_31 xs D _ _ m3 _ (w317_33 xs D _ _ m3 _ ⟨fun _ => ?_, fun w => absurd rfl w⟩)
    refine w317_116 xs D _ m3 _ ?_
    refine GS.sign (by omega) hE p 41 169 (by decide) (fun m' p => kk m' ?_)
    rw [e1] at eZ p
    obtain ⟨Y, e4, e5⟩ := po_il eZ
    rw [p_par_s, if_pos k169, po_inl] at e4
    rw [e5, ← Option.some.inj e4, ← p_bind_aft]
    exact p
  · have n169 := tkx_n u
    refine w317_31 xs D _ _ m3 _ ?_
    rcases hi : p_into E.1 t o with ⟨t1, o1, G1⟩ | ⟨c, f⟩
    · have ai := p_into_o hi
      have eG := ai.2.2.1
      subst eG
      rw [hi] at eZ p
      rw [po_inl, p_par_s, if_neg (n169 t1 o1 [] hi), if_pos rfl, po_inl, po_a] at eZ
      refine c317L xs d hE N (o + 1) D ?_ rfl kk 8191 _ m3 1 (by omega) (by decide) (fun t' o' G' e3 => ?_) p ?_
      · have := dR_s ai.2.2.2
        omega
      · simp only [Sum.inl.injEq, Prod.mk.injEq] at e3
        omega
      · rw [po_inl]
        exact eZ
    · rw [hi] at eZ p
      refine w317_33 xs D _ _ m3 _ ⟨fun w => absurd w (by decide), fun _ => ⟨fun _ => ?_, fun w => absurd w (GS.re p).ne⟩⟩
      refine w317_116 xs D _ m3 _ ?_
      refine GS.sign (by omega) hE p 41 169 (by decide) (fun m' p => kk m' ?_)
      rw [← Option.some.inj eZ]
      exact p
