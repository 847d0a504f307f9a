/-! THE REFERENCE'S READER: IF, CASE, FOR -/
theorem elsR {xs : List Int32} {d : Nat} {E : EV} (hE : EOk E) {N n oe D z a : Nat} {nq : NQ} {Rs : List (List Int32)} {m0 m : yM} {l : Int32} {X4 X5 : PX} {R : yM → Prop} (hB : kBd xs d E N n) (hD : d + dR oe + 20 ≤ D) (hl : l = nI (min a 19999)) (ho : opn oe X4) (e : po (some X4) (p_else E.1 (pT E.1 N n)) = some X5) (h : PS E z a nq Rs m0 X4 m) (K : ∀ m', PS E z a nq Rs m0 X5 m' → R m') : yC (xg xs) D 290 [.ref 58, .int (19 : Int32)] m (fun v1 m1 => ∃ u1, v1 = some (Value.int u1) ∧ ((u1 = 0 → R m1) ∧ (¬ u1 = 0 → (yC (xg xs) D 272 [.ref 58] m1 (fun v2 m2 => v2 = none ∧ (yC (xg xs) D 304 [.ref 58] m2 (fun v3 m3 => ∃ u3, v3 = some (Value.int u3) ∧ (yC (xg xs) D 297 [.ref 58, .int l, .int u3] m3 (fun v4 m4 => v4 = none ∧ R m4))))))))) := by
  have hb := dR_26 oe
  refine GS.isW (by omega) h 19 (by decide) ⟨fun u => K m ?_, fun u => ?_⟩
  · have u2 := tkx_n u
    rcases X4 with ⟨t, o, G⟩ | ⟨c, f⟩
    · obtain ⟨Y, e1, rfl⟩ := po_il e
      unfold p_else at e1
      rw [if_neg (u2 t o G rfl)] at e1
      have e1 : (.inl (t, o, []) : PX) = Y := Option.some.inj e1
      rw [← e1]
      simp only [aft, List.append_nil]
      exact h
    · rw [← Option.some.inj e]
      exact h
  · obtain ⟨t, o, G, rfl, k19⟩ := tkx_y u
    obtain ⟨Y, e1, rfl⟩ := po_il e
    unfold p_else at e1
    rw [if_pos k19] at e1
    have oo := ho t o G rfl
    refine GS.next (by omega) hE h (fun t' o' G' e3 => ?_) (fun m2 p => ?_)
    · simp only [Sum.inl.injEq, Prod.mk.injEq] at e3
      rw [← e3.1, k19]
      decide
    rw [p_bind_aft] at p
    refine PS.cadd (by omega) p (pomap G e1) hl (fun t' o' G' Rs' Y' e3 e4 hR' => ?_) (fun c f he => c304x xs (by omega) he) K
    obtain ⟨G2, e5, -⟩ := aft_il e3
    have a1 := p_step_o e5
    refine yC.mono ?_ (fun _ _ q => q) (hB t' o' _ _ _ _ e4 hR')
    rw [a1.2.1, oo.1]
    exact hD
def k4 (xs : List Int32) (d : Nat) (E : EV) (N n : Nat) : Prop := ∀ (oe D z a : Nat) (nq : NQ) (Rs : List (List Int32)) (m0 : yM) (l l2 : Int32) (Q : Option Value → yM → Prop) (q : Nat) (X Z : PX) (m : yM), d + dR oe + 20 ≤ D → l = nI (min a 19999) → opn oe X → tn q X → PS E z a nq Rs m0 X m → po (some X) (pT E.1 N n 4 q) = some Z → (∀ m', PS E z a nq Rs m0 Z m' → yP (xg xs) (D + 1) 306 67 [(0, .ref 58), (1, .int l)] [] m' Q) → l2 = tkx E.1 X 18 → yP (xg xs) (D + 1) 306 18 [(0, .ref 58), (1, .int l), (2, .int l2)] [] m Q
theorem pT4 (m0 : yM) (N n q t o : Nat) : pT m0 N (n + 1) 4 q t o = if q = 0 then unit_ t o else if m0.1 9 t = 18 then po (po (po (po (some (p_step m0 t o)) (exO m0 N)) (fun t o => some (p_exp m0 17 t o))) (pT m0 N n 0 0)) (pT m0 N n 4 (q - 1)) else unit_ t o := rfl
theorem step4 (xs : List Int32) (d : Nat) {E : EV} (hE : EOk E) (N n : Nat) (hB : kBd xs d E N n) (hJ : k4 xs d E N n) : k4 xs d E N (n + 1) := by
  intro oe D z a nq Rs m0 l l2 Q q X Z m hD hl ho ht h e K h2
  have hb := dR_26 oe
  have out : (∀ t o G, X = .inl (t, o, G) → pT E.1 N (n + 1) 4 q t o = unit_ t o) → l2 = 0 → yP (xg xs) (D + 1) 306 18 [(0, .ref 58), (1, .int l), (2, .int l2)] [] m Q := by
    intro u w
    refine w306_18 xs D _ _ m _ ⟨fun _ => K m ?_, fun y => absurd w y⟩
    rcases X with ⟨t, o, G⟩ | ⟨c, f⟩
    · obtain ⟨Y, e1, rfl⟩ := po_il e
      rw [u t o G rfl] at e1
      have e1 : (.inl (t, o, []) : PX) = Y := Option.some.inj e1
      rw [← e1]
      simp only [aft, List.append_nil]
      exact h
    · rw [← Option.some.inj e]
      exact h
  by_cases w : l2 = 0
  · refine out (fun t o G eX => ?_) w
    rw [h2] at w
    rw [pT4, if_neg (tkx_n w t o G eX)]
    split <;> rfl
  · have w' := w
    rw [h2] at w'
    obtain ⟨t, o, G, rfl, k18⟩ := tkx_y w'
    have h' := h
    obtain ⟨R1, _, hR, _⟩ := h'
    have lt := hR.lt hE (by rw [k18]; decide)
    have T8 := hE.1.1
    have hq := ht t o G rfl
    obtain ⟨Y, e1, rfl⟩ := po_il e
    rw [pT4, if_neg (by omega), if_pos k18] at e1
    obtain ⟨x3, h3⟩ := po_ex e1
    obtain ⟨x2, g2⟩ := po_ex h3
    obtain ⟨x1, g1⟩ := po_ex g2
    have all3 := h3
    rw [h3] at e1
    rw [g2] at h3
    rw [g1, po_t] at g2
    have g2 := Option.some.inj g2
    have oo := ho t o G rfl
    have i0 : opn oe (p_step E.1 t o) := fun t' o' G' u => by have := p_step_o u; omega
    have i1 : opn oe x1 := i0.pk (fun _ _ _ _ _ u => exO_o u) g1
    have i2 : opn oe x2 := by rw [← g2]; exact i1.bind (exq E.1 17)
    have i3 : opn oe x3 := i2.pk (fun _ _ _ _ _ u => eqT E.1 N n _ _ _ _ _ _ _ u) h3
    refine w306_18 xs D _ _ m _ ⟨fun y => absurd y w, fun _ => ⟨fun y => absurd hR.f0 y, fun _ => ?_⟩⟩
    refine GS.next (by omega) hE h (fun t' o' G' e3 => ?_) (fun m2 p => ?_)
    · simp only [Sum.inl.injEq, Prod.mk.injEq] at e3
      rw [← e3.1, k18]
      decide
    rw [p_bind_aft] at p
    refine PS.cadd (by omega) p (pomap G g1) hl (fun t' o' G' Rs' Y' e3 e4 hR' => c308r xs d hE ?_ e4 hR') (fun c f he => c308e xs (by omega) he) (fun m3 p => ?_)
    · obtain ⟨G2, e5, -⟩ := aft_il e3
      rw [(i0 _ _ _ e5).1]
      omega
    refine GS.word (by omega) hE p 17 (by decide) (fun m4 p => ?_)
    rw [p_bind_F, g2] at p
    refine PS.cadd (by omega) p (pomap G h3) hl (fun t' o' G' Rs' Y' e3 e4 hR' => ?_) (fun c f he => c304x xs (by omega) he) (fun m5 p => ?_)
    · obtain ⟨G2, e5, -⟩ := aft_il e3
      refine yC.mono ?_ (fun _ _ q => q) (hB t' o' _ _ _ _ e4 hR')
      rw [(i2 _ _ _ e5).1]
      exact hD
    refine GS.isW (by omega) p 18 (by decide) ?_
    refine hJ oe D z a nq Rs m0 l _ Q (q - 1) _ _ m5 hD hl (i3.af G) (fun t' o' G' e3 => ?_) p (pomap G e1) K rfl
    obtain ⟨G2, e5, -⟩ := aft_il e3
    rw [e5] at all3
    have mm := mvo.pp (mvo.pp (mvo.pp (mvo.s (mv.step (o := o) hE.1 (show gk (E.1.1 9 t) by rw [k18]; decide))) (fun t o => mvo.ex (N := N) (o := o) hE.1)) (fun t o => mvo.s (mv.exp (o := o) (k := 17) hE.1 (by decide)))) (fun t o => (mvT (N := N) hE.1 n).1 t o)
    have := mm _ all3 (by omega) _ _ _ rfl
    omega
theorem stepIf' (xs : List Int32) (d : Nat) {E : EV} (hE : EOk E) (N n : Nat) (hB : kBd xs d E N n) (hJ : k4 xs d E N n) : kCp xs d E N (n + 1) 3 306 16 := by
  intro t o z Rs m r k16 e0 hR
  have e : pnode 15 (E.1.1 10 t) 0 0 (po (po (po (po (po (po (po (some (p_into E.1 t o)) (exO E.1 N)) (fun t o => some (p_exp E.1 17 t o))) (pT E.1 N n 0 0)) (pT E.1 N n 4 8192)) (p_else E.1 (pT E.1 N n))) (fun t o => some (p_exp E.1 20 t o))) pdec) = some r := e0
  clear e0
  have hb := dR_26 o
  obtain ⟨y, e1, rfl⟩ := pnode_ex e
  clear e
  obtain ⟨x6, h6⟩ := po_ex e1
  obtain ⟨x5, h5⟩ := po_ex h6
  obtain ⟨x4, h4⟩ := po_ex h5
  obtain ⟨x3, h3⟩ := po_ex h4
  obtain ⟨x2, h2⟩ := po_ex h3
  obtain ⟨x1, h1⟩ := po_ex h2
  rw [h6, pdec_t, po_t] at e1
  rw [h5, po_t] at h6
  rw [h4] at h5
  rw [h3] at h4
  rw [h2] at h3
  rw [h1, po_t] at h2
  have e1 := Option.some.inj e1
  have h6 := Option.some.inj h6
  have h2 := Option.some.inj h2
  have hq := eqT E.1 N n
  have i0 : opn (o + 1) (p_into E.1 t o) := fun t' o' G' u => by have := p_into_o u; omega
  have i1 : opn (o + 1) x1 := i0.pk (fun _ _ _ _ _ u => exO_o u) h1
  have i2 : opn (o + 1) x2 := by rw [← h2]; exact i1.bind (exq E.1 17)
  have i3 : opn (o + 1) x3 := i2.pk (fun _ _ _ _ _ u => hq _ _ _ _ _ _ _ u) h3
  have i4 : opn (o + 1) x4 := i3.pk (fun _ _ _ _ _ u => hq _ _ _ _ _ _ _ u) h4
  have i5 : opn (o + 1) x5 := i4.pk (fun _ _ _ _ _ u => p_else_o hq u) h5
  have i6 : opn (o + 1) x6 := by rw [← h6]; exact i5.bind (exq E.1 20)
  have hDx : ∀ t' o' G', p_into E.1 t o = .inl (t', o', G') → d + dR (o + 1) + 20 ≤ d + dR o + 17 := fun t' o' G' u => by have := dR_s (p_into_o u).2.2.2; omega
  refine w306_0 xs (d + dR o + 17) m _ ?_
  refine PS.mk (by omega) hR (15, E.1.1 10 t, 0, 0) rfl hR.pl ⟨fun _ => rfl, fun y => absurd rfl y⟩ (fun m1 p => ?_)
  have K89 : ∀ m', PS E z z (15, E.1.1 10 t, 0, 0) Rs m x5 m' → yP (xg xs) (d + dR o + 17 + 1) 306 89 [(0, .ref 58), (1, .int (nI (min z 19999)))] [] m' (RM E z Rs m (p_node 15 (E.1.1 10 t) 0 0 y)) := by
    intro m' p
    refine w306_89 xs (d + dR o + 17) _ m' _ ?_
    refine GS.word (by omega) hE p 20 (by decide) (fun m2 p => ?_)
    rw [h6] at p
    rw [← e1]
    exact PS.fin (GS.dec p (fun t' o' G' u => by have := i6 t' o' G' u; omega)) rfl
  refine GS.opens (by omega) p (fun m2 p => ?_)
  rw [p_bind_n] at p
  by_cases o6 : o < 60
  · have hD : d + dR (o + 1) + 20 ≤ d + dR o + 17 := by have := dR_s o6; omega
    have K67 : ∀ m', PS E z z (15, E.1.1 10 t, 0, 0) Rs m x4 m' → yP (xg xs) (d + dR o + 17 + 1) 306 67 [(0, .ref 58), (1, .int (nI (min z 19999)))] [] m' (RM E z Rs m (p_node 15 (E.1.1 10 t) 0 0 y)) := by
      intro m' p
      exact w306_67 xs (d + dR o + 17) _ m' _ (elsR hE hB hD rfl i4 h5 p K89)
    have ep : p_opn E.1 t o = .inl (t, o + 1, []) := by unfold p_opn; rw [if_pos o6]
    have f2 : m2.1 58 3 = 0 := by
      rw [ep] at p
      obtain ⟨_, _, r2, _⟩ := p
      exact r2.f0
    refine w306_18 xs (d + dR o + 17) _ _ m2 _ ⟨fun u => absurd u (by decide), fun _ => ⟨fun u => absurd f2 u, fun _ => ?_⟩⟩
    refine GS.next (by omega) hE p (fun t' o' G' e3 => ?_) (fun m3 p => ?_)
    · rw [ep] at e3
      simp only [Sum.inl.injEq, Prod.mk.injEq] at e3
      rw [← e3.1, k16]
      decide
    rw [← p_into_b] at p
    refine PS.cadd (by omega) p h1 rfl (fun t' o' G' Rs' Y' e3 e4 hR' => c308r xs d hE ?_ e4 hR') (fun c f he => c308e xs (by omega) he) (fun m4 p => ?_)
    · rw [(i0 _ _ _ e3).1]
      omega
    refine GS.word (by omega) hE p 17 (by decide) (fun m5 p => ?_)
    rw [h2] at p
    refine PS.cadd (by omega) p h3 rfl (fun t' o' G' Rs' Y' e3 e4 hR' => ?_) (fun c f he => c304x xs (by omega) he) (fun m6 p => ?_)
    · refine yC.mono ?_ (fun _ _ q => q) (hB t' o' _ _ _ _ e4 hR')
      rw [(i2 _ _ _ e3).1]
      exact hD
    refine GS.isW (by omega) p 18 (by decide) ?_
    exact hJ (o + 1) (d + dR o + 17) z z _ Rs m _ _ _ 8192 x3 x4 m6 hD rfl i3 (fun _ _ _ _ => by omega) p h4 K67 rfl
  · have ep : p_opn E.1 t o = p_ref E.1 7 t := by unfold p_opn; rw [if_neg o6]
    have ei : p_into E.1 t o = .inr (7, E.1.1 10 t) := by unfold p_into; rw [if_neg o6]; rfl
    rw [ep] at p
    have p : RRe E 7 (E.1.1 10 t) m2 := p
    rw [ei] at h1
    have h1 : (.inr (7, E.1.1 10 t) : PX) = x1 := Option.some.inj h1
    rw [← h1] at h2
    have h2 : (.inr (7, E.1.1 10 t) : PX) = x2 := h2
    rw [← h2] at h3
    have h3 : (.inr (7, E.1.1 10 t) : PX) = x3 := Option.some.inj h3
    rw [← h3] at h4
    have h4 : (.inr (7, E.1.1 10 t) : PX) = x4 := Option.some.inj h4
    rw [← h4] at h5
    have h5 : (.inr (7, E.1.1 10 t) : PX) = x5 := Option.some.inj h5
    refine w306_18 xs (d + dR o + 17) _ _ m2 _ ⟨fun u => absurd u (by decide), fun _ => ⟨fun _ => ?_, fun u => absurd u p.ne⟩⟩
    refine w306_67 xs (d + dR o + 17) _ m2 _ (y_ci (c290x xs (d + dR o + 16) p _) (by omega) ⟨fun _ => K89 m2 ?_, fun u => absurd rfl u⟩)
    rw [← h5]
    exact p
