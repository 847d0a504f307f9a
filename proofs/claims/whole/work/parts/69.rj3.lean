/-! THE REFERENCE'S READER: levels -/
def okO (xs : List Int32) (d : Nat) (E : EV) (N : Nat) : Prop := ∀ t o z Rs m r, pR E.1 N 0 0 0 [] t o = some r → RRo E t o (min z 19999) Rs m → yC (xg xs) (d + dR o) 310 [.ref 58] m (RM E z Rs m r)
def okL (xs : List Int32) (d : Nat) (E : EV) (N : Nat) : Prop := ∀ k c t o z Rs m r, c + k = 7 → pR E.1 N 1 (nI c) 0 [] t o = some r → RRo E t o (min z 19999) Rs m → yC (xg xs) (d + dR o + 1 + k) 309 [.ref 58, .int (nI c)] m (RM E z Rs m r)
theorem RRo.o60 {E : EV} {t o z : Nat} {Rs : List (List Int32)} {m : yM} (h : RRo E t o z Rs m) : o ≤ 60 := h.2.2.2.2.2.2.2.2.2.2.2.2.1
theorem op_m1 {k : Int32} {c : Nat} (hc : c ≤ 6) (h : clO (opO k) = nI c) : ¬ opO k = -1 := by
  intro u
  rw [u] at h
  exact nI_m1 (n := c) (by omega) h.symm
/-- the turns of one level -/
theorem lvLoop (xs : List Int32) (d : Nat) {E : EV} (hE : EOk E) (B c k oe : Nat) (hc : c + (k + 1) = 7) (hL : ∀ M, M < B → okL xs d E M) {z : Nat} {Rs : List (List Int32)} {m0 : yM} : ∀ (N q : Nat) (G : List ND) (t o id : Nat) (m : yM) (r : PX) (l3 : Int32), N ≤ B → q ≤ o → oe ≤ o → clT E.1 t < nI (c + 1) → pR E.1 N 2 (nI c) q G t o = some r → RQ E z Rs m0 (.inl (t, o, G)) id m → id < 20000 → l3 = (if clT E.1 t = nI c then opO (E.1.1 9 t) else -1) → yP (xg xs) (d + dR oe + 1 + (k + 1)) 309 25 [(0, .ref 58), (1, .int (nI c)), (2, .int (nI id)), (3, .int l3)] [] m (RM E z Rs m0 r) := by
  have er : ∀ (e f l3 : Int32) (id : Nat) (m : yM), id < 20000 → RRe E e f m → l3 = -1 → yP (xg xs) (d + dR oe + 1 + (k + 1)) 309 25 [(0, .ref 58), (1, .int (nI c)), (2, .int (nI id)), (3, .int l3)] [] m (RM E z Rs m0 (.inr (e, f))) := by
    intro e f l3 id m hid h hl
    exact w309_25 xs (d + dR oe + 1 + k) _ _ _ m _ ⟨fun _ => ⟨id, hid, rfl, h⟩, fun u => absurd hl u⟩
  intro N
  induction N with
  | zero => intro q G t o id m r l3 _ _ _ _ h; cases h
  | succ N ih =>
    intro q G t o id m r l3 hN hq ho hcl h hQ hid hl
    have hQ' := hQ
    obtain ⟨R0, hp0, hR0, hT0⟩ := hQ'
    have o60 := hR0.o60
    by_cases z1 : clT E.1 t < nI c
    · rw [pR2, if_pos (Or.inr z1)] at h
      have ne : ¬ clT E.1 t = nI c := fun u => by rw [u] at z1; exact Int32.lt_irrefl z1
      rw [if_neg ne] at hl
      rw [← Option.some.inj h]
      exact w309_25 xs (d + dR oe + 1 + k) _ _ _ m _ ⟨fun _ => ⟨id, hid, rfl, hQ⟩, fun u => absurd hl u⟩
    · have ce : clT E.1 t = nI c := i32_at (by omega) hcl z1
      rw [pR2, if_neg (fun u => u.elim (fun v => by omega) z1), ce, nI_1] at h
      rw [if_pos ce] at hl
      have h67 : ¬ E.1.1 9 t = 67 := fun u => by
        have ce' : clO (opO (E.1.1 9 t)) = nI c := ce
        rw [u] at ce'
        exact nI_m1 (n := c) (by omega) (ce'.symm.trans (by decide))
      refine w309_25 xs (d + dR oe + 1 + k) _ _ _ m _ ⟨fun u => absurd (hl.symm.trans u) (op_m1 (by omega) ce), fun _ => ?_⟩
      have hd : 26 ≤ dR oe := by unfold dR; omega
      refine GS.opens (by omega) hQ (fun m1 p => ?_)
      rw [p_bind_aft] at p
      unfold p_opn at p
      by_cases o6 : o < 60
      · rw [if_pos o6] at p
        simp only [aft, List.append_nil] at p
        have pl1 : m1.1 58 8 = E.1.1 10 t := by
          obtain ⟨_, _, r1, _⟩ := p
          exact r1.pl
        have hi : p_into E.1 t o = p_step E.1 t (o + 1) := by unfold p_into; rw [if_pos o6]
        rw [hi] at h
        refine PW.mk (by omega) p (35, E.1.1 10 t, opO (E.1.1 9 t), 0) rfl pl1 ⟨rfl, hl⟩ (fun m2 p => ?_)
        refine GS.next (by omega) hE p (fun t' o' G' e => ?_) (fun m3 p => ?_)
        · simp only [Sum.inl.injEq, Prod.mk.injEq] at e
          rw [← e.1]
          exact h67
        rw [p_bind_n] at p
        refine y_cv (c297 xs (d + dR oe + k) (PW.gi p) (by omega) hid) (by omega) ?_
        have p4 := PW.add p (fun t' o' G' e => (p_step_o e).2.2) hid
        generalize adM m3 (min (z + G.length) 19999) id = m4 at p4 ⊢
        rw [nI_1]
        rcases hs : p_step E.1 t (o + 1) with ⟨t2, o2, G2⟩ | ⟨e, f⟩
        · rw [hs] at h p4
          have so := p_step_o hs
          dsimp only at h
          rw [so.2.2, p_bind_n] at p4
          rcases hr : pR E.1 N 1 (nI (c + 1)) 0 [] t2 o2 with _ | Y
          · rw [hr] at h; cases h
          · have hY : po (some (.inl (t2, o2, G))) (fun t o => pR E.1 N 1 (nI (c + 1)) 0 [] t o) = some (aft G Y) := by
              unfold po
              dsimp only
              rw [hr]
              rfl
            refine PS.cadd (by omega) p4 hY rfl (fun t' o' G' Rs' Y' e e2 hR => ?_) (fun e f he => ?_) (fun m5 p5 => ?_)
            · simp only [Sum.inl.injEq, Prod.mk.injEq] at e
              obtain ⟨rfl, rfl, rfl⟩ := e
              refine yC.mono ?_ (fun _ _ q => q) (hL N (by omega) k (c + 1) _ _ _ _ _ _ (by omega) e2 hR)
              have : dR o2 ≤ dR oe := by unfold dR; omega
              omega
            · exact yC.mono (by omega) (fun _ _ q => q) (c309x xs d k (c + 1) _ _ _ _ (by omega) he)
            · have q5 := PS.finq p5
              rcases Y with ⟨t3, o3, R⟩ | ⟨e, f⟩
              · rw [hr] at h
                dsimp only at h
                have a1 := moR E.1 N _ _ _ _ _ _ _ _ _ hr
                obtain ⟨_, _, r5, _⟩ := p5
                refine y_ci (c313 xs (d + dR oe + k - 1) r5 c (by omega)) (by omega) ?_
                have q5 : RQ E z Rs m0 (.inl (t3, o3, (35, E.1.1 10 t, opO (E.1.1 9 t), 0, G.length + R.length + 1) :: (G ++ R))) (min (z + G.length) 19999) m5 := by
                  have e9 : (G ++ R).length = G.length + R.length := List.length_append
                  rw [← e9]
                  exact q5
                exact ih (q + 1) _ t3 o3 _ m5 r _ (by omega) (by omega) (by omega) (lvB1 E.1 _ N t2 o2 t3 o3 R (by omega) hr) h q5 (by omega) rfl
              · rw [hr] at h
                dsimp only at h
                have p5 : RRe E e f m5 := p5
                refine y_ci (c313x xs (d + dR oe + k - 1) p5 c (by omega)) (by omega) ?_
                rw [← Option.some.inj h]
                exact er e f _ _ m5 (by omega) p5 rfl
        · rw [hs] at h p4
          dsimp only at h
          rw [← Option.some.inj h]
          have p4 : RRe E e f m4 := p4
          refine yC.mono (by omega) (fun r m5 q => ?_) (c309x xs d k (c + 1) 0 [] m4 m4 (by omega) p4)
          obtain ⟨i5, j1, j2, j3⟩ := q
          have j3 : RRe E e f m5 := j3
          refine ⟨nI i5, j2, y_cv (c297 xs (d + dR oe + k) j3.2.2.2.2.2.1 (by omega) j1) (by omega) ?_⟩
          have j4 := j3.ad (a := min (z + G.length) 19999) j1
          refine y_ci (c313x xs (d + dR oe + k - 1) j4 c (by omega)) (by omega) ?_
          exact er e f _ _ _ (by omega) j4 rfl
      · rw [if_neg o6] at p
        have p : RRe E 7 (E.1.1 10 t) m1 := p
        have hi : p_into E.1 t o = .inr (7, E.1.1 10 t) := by unfold p_into; rw [if_neg o6]; rfl
        rw [hi] at h
        dsimp only at h
        rw [← Option.some.inj h]
        refine RRe.mk (by omega) p (fun i2 m2 hi2 h2 => ?_)
        refine y_nx (c272x xs (d + dR oe + k - 5) h2) (by omega) (fun m3 h3 => ?_)
        refine y_cv (c297 xs (d + dR oe + k) h3.2.2.2.2.2.1 hi2 hid) (by omega) ?_
        have h4 := h3.ad (a := i2) hid
        generalize adM m3 i2 id = m4 at h4 ⊢
        rw [nI_1]
        refine yC.mono (by omega) (fun r m5 q => ?_) (c309x xs d k (c + 1) 0 [] m4 m4 (by omega) h4)
        obtain ⟨i5, j1, j2, j3⟩ := q
        have j3 : RRe E 7 (E.1.1 10 t) m5 := j3
        refine ⟨nI i5, j2, y_cv (c297 xs (d + dR oe + k) j3.2.2.2.2.2.1 hi2 j1) (by omega) ?_⟩
        have j4 := j3.ad (a := i2) j1
        refine y_ci (c313x xs (d + dR oe + k - 1) j4 c (by omega)) (by omega) ?_
        exact er _ _ _ _ _ hi2 j4 rfl
theorem stepL (xs : List Int32) (d : Nat) {E : EV} (hE : EOk E) (K : Nat) (hO : okO xs d E K) (hL : ∀ M, M < K → okL xs d E M) : okL xs d E (K + 1) := by
  intro k
  induction k with
  | zero =>
    intro c t o z Rs m r hc h hR
    have e7 : c = 7 := by omega
    subst e7
    have hr : pR E.1 K 0 0 0 [] t o = some r := by
      rw [pR1] at h
      rcases hr : pR E.1 K 0 0 0 [] t o with _ | ⟨⟨t1, o1, G⟩ | e⟩
      · rw [hr] at h; cases h
      · rw [hr] at h
        dsimp only at h
        cases K with
        | zero => cases h
        | succ K =>
          have lt : clT E.1 t1 < nI 7 := Int32.lt_of_le_of_lt (cl_le _) (show (6 : Int32) < nI 7 by decide)
          rw [pR2, if_pos (Or.inr lt)] at h
          exact h
      · rw [hr] at h
        exact h
    refine w309_0 xs (d + dR o) _ m _ ⟨fun u => absurd rfl u, fun _ => ?_⟩
    exact y_rm (hO t o z Rs m r hr hR) (Nat.le_refl _)
  | succ k ih =>
    intro c t o z Rs m r hc h hR
    have o60 := hR.o60
    have hd : 26 ≤ dR o := by unfold dR; omega
    refine w309_0 xs (d + dR o + 1 + k) _ m _ ⟨fun _ => ?_, fun u => absurd ((nI_eq (a := c) (b := 7) (by omega) (by decide)).mp u) (by omega)⟩
    rw [nI_1]
    -- what binds closer
    have ex : ∃ x, pR E.1 (K + 1) 1 (nI (c + 1)) 0 [] t o = some x ∧ (∀ e, x = .inr e → r = .inr e) ∧ (∀ t1 o1 G, x = .inl (t1, o1, G) → o ≤ o1 ∧ clT E.1 t1 < nI (c + 1) ∧ ∃ N' q', N' ≤ K ∧ q' ≤ o1 ∧ pR E.1 N' 2 (nI c) q' G t1 o1 = some r) := by
      rw [pR1] at h ⊢
      rcases hr : pR E.1 K 0 0 0 [] t o with _ | ⟨⟨t1, o1, G⟩ | e⟩
      · rw [hr] at h; cases h
      · rw [hr] at h
        dsimp only at h ⊢
        have a1 := moR E.1 K _ _ _ _ _ _ _ _ _ hr
        have a2 := ubR E.1 K _ _ _ _ _ _ _ _ _ hr o60
        obtain ⟨x, x1, x2, x3⟩ := lvA E.1 c (by omega) K 0 G t1 o1 r (by omega) a2 h
        refine ⟨x, x1, x2, fun t2 o2 G2 u => ?_⟩
        rw [u] at x1
        have a3 := moR E.1 K _ _ _ _ _ _ _ _ _ x1
        exact ⟨by omega, x3 t2 o2 G2 u⟩
      · rw [hr] at h
        refine ⟨.inr e, rfl, fun e' u => ?_, fun _ _ _ u => (by cases u)⟩
        rw [← Option.some.inj h]
        exact u
    obtain ⟨x, x1, x2, x3⟩ := ex
    refine yC.mono (Nat.le_refl _) (fun v m1 q => ?_) (ih (c + 1) t o z Rs m x (by omega) x1 hR)
    obtain ⟨id, i1, i2, i3⟩ := q
    refine ⟨nI id, i2, ?_⟩
    rcases x with ⟨t1, o1, G⟩ | ⟨e, f⟩
    · obtain ⟨y0, y1, N', q', y2, y3, y4⟩ := x3 t1 o1 G rfl
      have i3' := i3
      obtain ⟨_, _, r1, _⟩ := i3'
      refine y_ci (c313 xs (d + dR o + k - 1) r1 c (by omega)) (by omega) ?_
      exact lvLoop xs d hE K c k o hc hL N' q' G t1 o1 id m1 r _ y2 y3 y0 y1 y4 i3 i1 rfl
    · have i3 : RRe E e f m1 := i3
      rw [x2 _ rfl]
      refine y_ci (c313x xs (d + dR o + k - 1) i3 c (by omega)) (by omega) ?_
      exact w309_25 xs (d + dR o + 1 + k) _ _ _ m1 _ ⟨fun _ => ⟨id, i1, rfl, i3⟩, fun u => absurd rfl u⟩
