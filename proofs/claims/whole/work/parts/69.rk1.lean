/-! THE REFERENCE'S READER: CASE, FOR, statements -/
theorem p_rng_s (m0 : yM) (n t o : Nat) : p_rng m0 (n + 1) t o = p_bind (p_node 18 (m0.1 10 t) 0 0 (p_bind (p_const m0 t o) (p_if m0 71 (fun t o => p_bind (p_step m0 t o) (p_const m0))))) (p_if m0 172 (fun t o => p_bind (p_step m0 t o) (p_rng m0 n))) := rfl
theorem p_if_n {m0 : yM} {k : Int32} {f : Nat → Nat → PX} {X : PX} (u : tkx m0 X k = 0) : p_bind X (p_if m0 k f) = X :=
  pb_u (fun t o G e => by unfold p_if; rw [if_neg (tkx_n u t o G e)])
theorem p_if_y {m0 : yM} {k : Int32} {f : Nat → Nat → PX} {X : PX} (u : ¬ tkx m0 X k = 0) : p_bind X (p_if m0 k f) = p_bind X f := by
  obtain ⟨t, o, G, rfl, e⟩ := tkx_y u
  exact pb_c (by unfold p_if; rw [if_pos e])
theorem p_const_t {m0 : yM} {T t o t' o' : Nat} {G : List ND} (hT : TKok m0 T) (ht : t ≤ T) (h : p_const m0 t o = .inl (t', o', G)) : t + 1 ≤ t' ∧ t' ≤ T := by
  have := mv.const (o := o) hT ht t' o' G h
  omega
/-- the ranges of a choice -/
theorem c315L (xs : List Int32) {E : EV} (hE : EOk E) (D : Nat) (hD : 26 ≤ D) {z a : Nat} {nq : NQ} {Rs : List (List Int32)} {m0 : yM} {l : Int32} (hl : l = nI (min a 19999)) {Q : Option Value → yM → Prop} : ∀ (n : Nat) (X : PX) (m : yM) (l2 : Int32), ¬ l2 = 0 → (∀ t o G, X = .inl (t, o, G) → n = 8192 ∨ 8193 ≤ n + t) → PS E z a nq Rs m0 X m → (∀ m', PS E z a nq Rs m0 (p_bind X (p_rng E.1 n)) m' → yP (xg xs) (D + 1) 315 91 [(0, .ref 58), (1, .int l)] [] m' Q) → yP (xg xs) (D + 1) 315 14 [(0, .ref 58), (1, .int l), (2, .int l2)] [] m Q := by
  have T8 := hE.1.1
  intro n
  induction n with
  | zero =>
    intro X m l2 hl2 hX h K
    rcases X with ⟨t, o, G⟩ | ⟨c, f⟩
    · exfalso
      obtain ⟨_, _, r, _⟩ := h
      have := r.2.2.2.2.2.1
      have := hX t o G rfl
      omega
    · exact w315_14 xs D _ _ m _ ⟨fun u => absurd u hl2, fun _ => ⟨fun _ => K m h, fun u => absurd u (GS.re h).ne⟩⟩
  | succ n ih =>
    intro X m l2 hl2 hX h K
    rcases X with ⟨t, o, G⟩ | ⟨c, f⟩
    · obtain ⟨R1, hp, hR, hT⟩ := h
      have tT := hR.2.2.2.2.2.1
      refine w315_14 xs D _ _ m _ ⟨fun u => absurd u hl2, fun _ => ⟨fun u => absurd hR.f0 u, fun _ => ?_⟩⟩
      refine PS.mk (by omega) hR (18, E.1.1 10 t, 0, 0) rfl hR.pl ⟨fun _ => rfl, fun y => absurd rfl y⟩ (fun m1 p => ?_)
      refine PS.cadd (by omega) p (po_t _ (p_const E.1)) rfl (fun t' o' G' Rs' Y _ hY hR' => by rw [← Option.some.inj hY]; exact c301r xs hE (by omega) hR') (fun c f he => c301e xs (by omega) he) (fun m2 p => ?_)
      rw [p_bind_n] at p
      -- behind the range
      have tail : ∀ m3, PS E (z + 1 + G.length) (z + 1 + G.length) (18, E.1.1 10 t, 0, 0) R1 m (p_bind (p_const E.1 t o) (p_if E.1 71 (fun t o => p_bind (p_step E.1 t o) (p_const E.1)))) m3 → yP (xg xs) (D + 1) 315 67 [(0, .ref 58), (1, .int l), (3, .int (nI (min (z + 1 + G.length) 19999)))] [] m3 Q := by
        intro m3 p
        refine w315_67 xs D _ _ m3 _ ?_
        rw [hl]
        refine y_cv (c297 xs (D - 1) (PW.gi p) (by omega) (by omega)) (by omega) ?_
        have p4 := PS.ad hp hT (by omega) (PS.finq p)
        generalize adM m3 (min a 19999) (min (z + 1 + G.length) 19999) = m4 at p4 ⊢
        dsimp only at p4
        generalize hW : p_node 18 (E.1.1 10 t) 0 0 (p_bind (p_const E.1 t o) (p_if E.1 71 (fun t o => p_bind (p_step E.1 t o) (p_const E.1)))) = W at p4
        have eK : p_bind (.inl (t, o, G)) (p_rng E.1 (n + 1)) = p_bind (aft G W) (p_if E.1 172 (fun t o => p_bind (p_step E.1 t o) (p_rng E.1 n))) := by
          rw [p_bind_aft, p_rng_s, hW, p_bind_F]
        have W1 : ∀ t' o' G', W = .inl (t', o', G') → t + 1 ≤ t' := by
          intro t' o' G' u
          rw [← hW] at u
          obtain ⟨G1, u1, _⟩ := p_node_o u
          obtain ⟨t5, o5, G5, G6, f1, f2, _⟩ := p_bind_il u1
          have a1 := p_const_t hE.1 tT f1
          unfold p_if at f2
          split at f2
          · rename_i k71
            obtain ⟨t7, o7, G7, G8, f3, f4, _⟩ := p_bind_il f2
            have a2 := p_step_o f3
            have lt7 : t7 ≤ E.2.2.2.2 := by
              have : t5 < E.2.2.2.2 := by
                rcases Nat.lt_or_ge t5 E.2.2.2.2 with y | y
                · exact y
                · have e5 : t5 = E.2.2.2.2 := by omega
                  rcases hE.1.2.1 with v | v
                  · rw [← e5, k71] at v; exact absurd v (by decide)
                  · rw [← e5, k71] at v; exact absurd v.1 (by decide)
              omega
            have a3 := p_const_t hE.1 lt7 f4
            omega
          · simp only [Sum.inl.injEq, Prod.mk.injEq] at f2
            omega
        refine GS.isS (by omega) p4 44 172 (by decide) ⟨fun u => ?_, fun u => ?_⟩
        · refine w315_88 xs D _ _ m4 _ (w315_14 xs D _ _ m4 _ ⟨fun _ => ?_, fun y => absurd u y⟩)
          rw [← hl]
          refine K m4 ?_
          rw [eK, p_if_n u]
          exact p4
        · refine GS.next (by omega) hE p4 (fun t' o' G' e3 => ?_) (fun m5 p5 => ?_)
          · obtain ⟨t1, o1, G1, e4, k172⟩ := tkx_y u
            rw [e4] at e3
            simp only [Sum.inl.injEq, Prod.mk.injEq] at e3
            rw [← e3.1, k172]
            decide
          refine w315_88 xs D _ _ m5 _ ?_
          rw [← hl]
          refine ih _ m5 _ u (fun t' o' G' e3 => ?_) p5 (fun m' p => K m' ?_)
          · obtain ⟨t5, o5, G5, G6, f1, f2, _⟩ := p_bind_il e3
            have a2 := p_step_o f2
            obtain ⟨G7, f3, _⟩ := aft_il f1
            have a3 := W1 _ _ _ f3
            have := hX t o G rfl
            omega
          · rw [eK, p_if_y u, ← p_bind_a]
            exact p
      refine GS.isS (by omega) p 2 71 (by decide) ⟨fun u => tail m2 ?_, fun u => ?_⟩
      · rw [p_if_n u]
        exact p
      · refine GS.next (by omega) hE p (fun t' o' G' e3 => ?_) (fun m3 p => ?_)
        · obtain ⟨t1, o1, G1, e4, k71⟩ := tkx_y u
          rw [e4] at e3
          simp only [Sum.inl.injEq, Prod.mk.injEq] at e3
          rw [← e3.1, k71]
          decide
        refine PS.cadd (by omega) p (po_t _ (p_const E.1)) rfl (fun t' o' G' Rs' Y _ hY hR' => by rw [← Option.some.inj hY]; exact c301r xs hE (by omega) hR') (fun c f he => c301e xs (by omega) he) (fun m4 p => tail m4 ?_)
        rw [p_if_y u, ← p_bind_a]
        exact p
    · exact w315_14 xs D _ _ m _ ⟨fun u => absurd u hl2, fun _ => ⟨fun _ => K m h, fun u => absurd u (GS.re h).ne⟩⟩
/-- a choice -/
theorem c315 (xs : List Int32) (d : Nat) {E : EV} (hE : EOk E) {N n : Nat} (hB : kBd xs d E N n) {t o z D : Nat} {Rs : List (List Int32)} {m : yM} {r : PX} (hD : d + dR o + 20 ≤ D) (e : pnode 17 (E.1.1 10 t) 0 0 (po (po (some (p_rng E.1 8192 t o)) (fun t o => some (p_exp E.1 186 t o))) (pT E.1 N n 0 0)) = some r) (hR : RRo E t o (min z 19999) Rs m) : yC (xg xs) (D + 1) 315 [.ref 58] m (RM E z Rs m r) := by
  have hb := dR_26 o
  obtain ⟨y, e1, rfl⟩ := pnode_ex e
  rw [po_t] at e1
  refine w315_0 xs D m _ ?_
  refine PS.mk (by omega) hR (17, E.1.1 10 t, 0, 0) rfl hR.pl ⟨fun _ => rfl, fun y => absurd rfl y⟩ (fun m1 p => ?_)
  refine c315L xs hE D (by omega) rfl 8192 _ m1 1 (by decide) (fun _ _ _ _ => Or.inl rfl) p (fun m2 p => ?_)
  rw [p_bind_n] at p
  refine w315_91 xs D _ m2 _ ?_
  refine GS.sign (by omega) hE p 58 186 (by decide) (fun m3 p => ?_)
  refine PS.cadd (by omega) p e1 rfl (fun t' o' G' Rs' Y' e3 e4 hR' => ?_) (fun c f he => c304x xs (by omega) he) (fun m6 p => PS.fin p rfl)
  refine yC.mono ?_ (fun _ _ q => q) (hB t' o' _ _ _ _ e4 hR')
  obtain ⟨t5, o5, G5, _, f1, f2, _⟩ := p_bind_il e3
  have a1 := p_exp_o f2
  have a2 := p_rng_o f1
  rw [a1.2.1, a2]
  exact hD
def k6 (xs : List Int32) (d : Nat) (E : EV) (N n : Nat) : Prop := ∀ (oe D z a : Nat) (nq : NQ) (Rs : List (List Int32)) (m0 : yM) (l : Int32) (Q : Option Value → yM → Prop) (q : Nat) (X Z : PX) (m : yM), d + dR oe + 21 ≤ D → l = nI (min a 19999) → opn oe X → tn q X → PS E z a nq Rs m0 X m → po (some X) (pT E.1 N n 6 q) = some Z → (∀ m', PS E z a nq Rs m0 Z m' → yP (xg xs) (D + 1) 314 89 [(0, .ref 58), (1, .int l)] [] m' Q) → yP (xg xs) (D + 1) 314 35 [(0, .ref 58), (1, .int l)] [] m Q
theorem pT6 (m0 : yM) (N n q t o : Nat) : pT m0 N (n + 1) 6 q t o = if q = 0 then unit_ t o else if stC (m0.1 9 t) then po (pnode 17 (m0.1 10 t) 0 0 (po (po (some (p_rng m0 8192 t o)) (fun t o => some (p_exp m0 186 t o))) (pT m0 N n 0 0))) (pT m0 N n 6 (q - 1)) else unit_ t o := rfl
theorem step6 (xs : List Int32) (d : Nat) {E : EV} (hE : EOk E) (N n : Nat) (hB : kBd xs d E N n) (hJ : k6 xs d E N n) : k6 xs d E N (n + 1) := by
  intro oe D z a nq Rs m0 l Q q X Z m hD hl ho ht h e K
  have hb := dR_26 oe
  rcases X with ⟨t, o, G⟩ | ⟨c, f⟩
  · have h' := h
    obtain ⟨R1, _, hR, _⟩ := h'
    have T8 := hE.1.1
    have hq := ht t o G rfl
    have oo := ho t o G rfl
    obtain ⟨Y, e1, rfl⟩ := po_il e
    rw [pT6] at e1
    have no : ¬ stC (E.1.1 9 t) → yP (xg xs) (D + 1) 314 89 [(0, .ref 58), (1, .int l)] [] m Q := by
      intro s
      have e2 : Y = .inl (t, o, []) := by
        by_cases q0 : q = 0
        · rw [if_pos q0] at e1; exact (Option.some.inj e1).symm
        · rw [if_neg q0, if_neg s] at e1; exact (Option.some.inj e1).symm
      refine K m ?_
      rw [e2]
      simp only [aft, List.append_nil]
      exact h
    have yes : stC (E.1.1 9 t) → yP (xg xs) (D + 1) 314 77 [(0, .ref 58), (1, .int l)] [] m Q := by
      intro s
      have h67 : ¬ E.1.1 9 t = 67 := by
        intro u
        rw [u] at s
        exact absurd s (by decide)
      have lt := hR.lt hE h67
      rw [if_neg (by omega), if_pos s] at e1
      obtain ⟨Y1, e2⟩ := po_ex e1
      rw [e2] at e1
      refine w314_77 xs D _ m _ ?_
      refine PS.cadd (g := fun t o => pnode 17 (E.1.1 10 t) 0 0 (po (po (some (p_rng E.1 8192 t o)) (fun t o => some (p_exp E.1 186 t o))) (pT E.1 N n 0 0))) (by omega) h (po_li (G := G) e2) hl (fun t' o' G' Rs' Y' e5 e4 hR' => ?_) (fun c f he => absurd hR.f0 he.ne) (fun m1 p => ?_)
      · simp only [Sum.inl.injEq, Prod.mk.injEq] at e5
        obtain ⟨rfl, rfl, rfl⟩ := e5
        obtain ⟨D', rfl⟩ : ∃ D', D = D' + 1 := ⟨D - 1, by omega⟩
        exact c315 xs d hE hB (by rw [oo.1]; omega) e4 hR'
      · have e7 : pT E.1 N (n + 1) 6 1 t o = po (some Y1) (pT E.1 N n 6 0) := by rw [pT6, if_neg (by omega), if_pos s, e2]
        refine hJ oe D z a nq Rs m0 l Q (q - 1) _ _ m1 hD hl ?_ (fun t' o' G' e3 => ?_) p (pomap G e1) K
        · have i : opn oe Y1 := by
            intro t' o' G' u
            obtain ⟨y, f1, f2⟩ := pnode_ex e2
            rw [u] at f2
            obtain ⟨G1, f3, _⟩ := p_node_o f2.symm
            rw [f3, po_t] at f1
            obtain ⟨t1, o1, _, _, g1, g2, _⟩ := po_some f1
            obtain ⟨t5, o5, G5, _, k1, k2, _⟩ := p_bind_il (Option.some.inj g1)
            have a1 := p_exp_o k2
            have a2 := p_rng_o k1
            have a3 := eqT E.1 N n _ _ _ _ _ _ _ g2
            omega
          exact i.af G
        · obtain ⟨G2, e5, -⟩ := aft_il e3
          have m1 : mvo E.2.2.2.2 t 1 0 0 (pnode 17 (E.1.1 10 t) 0 0 (po (po (some (p_rng E.1 8192 t o)) (fun t o => some (p_exp E.1 186 t o))) (pT E.1 N n 0 0))) := by
            have mm := mvo.pp (mvo.pp (mvo.s ((mv.rng hE.1 8191 t o).2)) (fun t o => mvo.s (mv.exp (o := o) (k := 186) hE.1 (by decide)))) (fun t o => (mvT (N := N) hE.1 n).1 t o)
            exact mvo.node (mm.w (by omega) (by omega)) _ _ _ _
          have := m1 _ e2 hR.2.2.2.2.2.1 _ _ _ e5
          omega
    have kn := hR.rk.kind.2.1
    refine w314_35 xs D _ m _ ⟨fun u => absurd hR.f0 u, fun _ => ⟨fun u => yes (Or.inr (Or.inl (kn.mp u))), fun u => ?_⟩⟩
    have n65 : ¬ E.1.1 9 t = 65 := fun y => u (kn.mpr y)
    refine y_ci (c295 xs (D - 1) hR 45 (by decide)) (by omega) ⟨fun u => yes (Or.inl (if1 u)), fun u => ?_⟩
    have n1 : ¬ E.1.1 9 t = 173 := if0 u
    refine y_ci (c290 xs (D - 1) hR 35 (by decide)) (by omega) ⟨fun u => yes (Or.inr (Or.inr (Or.inl (if1 u)))), fun u => ?_⟩
    have n2 : ¬ E.1.1 9 t = 35 := if0 u
    refine y_ci (c290 xs (D - 1) hR 36 (by decide)) (by omega) ⟨fun u => no ?_, fun u => yes (Or.inr (Or.inr (Or.inr (if1 u))))⟩
    have n3 : ¬ E.1.1 9 t = 36 := if0 u
    rintro (y | y | y | y)
    · exact n1 y
    · exact n65 y
    · exact n2 y
    · exact n3 y
  · refine w314_35 xs D _ m _ ⟨fun _ => K m ?_, fun u => absurd u (GS.re h).ne⟩
    rw [← Option.some.inj e]
    exact h
theorem stepCs' (xs : List Int32) (d : Nat) {E : EV} (hE : EOk E) (N n : Nat) (hB : kBd xs d E N n) (hJ : k6 xs d E N n) : kCp xs d E N (n + 1) 5 314 21 := by
  intro t o z Rs m r k21 e0 hR
  have e : pnode 16 (E.1.1 10 t) 0 0 (po (po (po (po (po (po (some (p_into E.1 t o)) (exO E.1 N)) (fun t o => some (p_exp E.1 15 t o))) (pT E.1 N n 6 8192)) (p_else E.1 (pT E.1 N n))) (fun t o => some (p_exp E.1 22 t o))) pdec) = some r := e0
  clear e0
  have hb := dR_26 o
  obtain ⟨y, e1, rfl⟩ := pnode_ex e
  clear e
  obtain ⟨x6, h6⟩ := po_ex e1
  obtain ⟨x5, h5⟩ := po_ex h6
  obtain ⟨x4, h4⟩ := po_ex h5
  obtain ⟨x2, h2⟩ := po_ex h4
  obtain ⟨x1, h1⟩ := po_ex h2
  rw [h6, pdec_t, po_t] at e1
  rw [h5, po_t] at h6
  rw [h4] at h5
  rw [h2] at h4
  rw [h1, po_t] at h2
  have e1 := Option.some.inj e1
  have h6 := Option.some.inj h6
  have h2 := Option.some.inj h2
  have hq := eqT E.1 N n
  have i0 : opn (o + 1) (p_into E.1 t o) := fun t' o' G' u => by have := p_into_o u; omega
  have i1 : opn (o + 1) x1 := i0.pk (fun _ _ _ _ _ u => exO_o u) h1
  have i2 : opn (o + 1) x2 := by rw [← h2]; exact i1.bind (exq E.1 15)
  have i4 : opn (o + 1) x4 := i2.pk (fun _ _ _ _ _ u => hq _ _ _ _ _ _ _ u) h4
  have i5 : opn (o + 1) x5 := i4.pk (fun _ _ _ _ _ u => p_else_o hq u) h5
  have i6 : opn (o + 1) x6 := by rw [← h6]; exact i5.bind (exq E.1 22)
  refine w314_0 xs (d + dR o + 17) m _ ?_
  refine PS.mk (by omega) hR (16, E.1.1 10 t, 0, 0) rfl hR.pl ⟨fun _ => rfl, fun y => absurd rfl y⟩ (fun m1 p => ?_)
  have K111 : ∀ m', PS E z z (16, E.1.1 10 t, 0, 0) Rs m x5 m' → yP (xg xs) (d + dR o + 17 + 1) 314 111 [(0, .ref 58), (1, .int (nI (min z 19999)))] [] m' (RM E z Rs m (p_node 16 (E.1.1 10 t) 0 0 y)) := by
    intro m' p
    refine w314_111 xs (d + dR o + 17) _ m' _ ?_
    refine GS.word (by omega) hE p 22 (by decide) (fun m2 p => ?_)
    rw [h6] at p
    rw [← e1]
    exact PS.fin (GS.dec p (fun t' o' G' u => by have := i6 t' o' G' u; omega)) rfl
  refine GS.opens (by omega) p (fun m2 p => ?_)
  rw [p_bind_n] at p
  refine GS.next (by omega) hE p (fun t' o' G' e3 => ?_) (fun m3 p => ?_)
  · have : t' = t := by
      unfold p_opn at e3
      split at e3
      · simp only [Sum.inl.injEq, Prod.mk.injEq] at e3; exact e3.1.symm
      · simp [p_ref] at e3
    rw [this, k21]
    decide
  rw [← p_into_b] at p
  refine PS.cadd (by omega) p h1 rfl (fun t' o' G' Rs' Y' e3 e4 hR' => c308r xs d hE ?_ e4 hR') (fun c f he => c308e xs (by omega) he) (fun m4 p => ?_)
  · rw [(i0 _ _ _ e3).1]
    have := dR_m (show o ≤ o + 1 by omega)
    omega
  refine GS.word (by omega) hE p 15 (by decide) (fun m5 p => ?_)
  rw [h2] at p
  by_cases o6 : o < 60
  · have hD : d + dR (o + 1) + 21 ≤ d + dR o + 17 := by have := dR_s o6; omega
    refine hJ (o + 1) (d + dR o + 17) z z _ Rs m _ _ 8192 x2 x4 m5 hD rfl i2 (fun _ _ _ _ => by omega) p h4 (fun m' p => ?_)
    exact w314_89 xs (d + dR o + 17) _ m' _ (elsR hE hB (by omega) rfl i4 h5 p K111)
  · have ei : p_into E.1 t o = .inr (7, E.1.1 10 t) := by unfold p_into; rw [if_neg o6]; rfl
    rw [ei] at h1
    have h1 : (.inr (7, E.1.1 10 t) : PX) = x1 := Option.some.inj h1
    rw [← h1] at h2
    have h2 : (.inr (7, E.1.1 10 t) : PX) = x2 := h2
    rw [← h2] at h4 p
    have h4 : (.inr (7, E.1.1 10 t) : PX) = x4 := Option.some.inj h4
    rw [← h4] at h5
    have h5 : (.inr (7, E.1.1 10 t) : PX) = x5 := Option.some.inj h5
    have p : RRe E 7 (E.1.1 10 t) m5 := p
    refine w314_35 xs (d + dR o + 17) _ m5 _ ⟨fun _ => ?_, fun u => absurd u p.ne⟩
    refine w314_89 xs (d + dR o + 17) _ m5 _ (y_ci (c290x xs (d + dR o + 16) p _) (by omega) ⟨fun _ => K111 m5 ?_, fun u => absurd rfl u⟩)
    rw [← h5]
    exact p
