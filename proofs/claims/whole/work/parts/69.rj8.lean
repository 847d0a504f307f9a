/-! THE REFERENCE'S READER: bodies and statements -/
def kBd (xs : List Int32) (d : Nat) (E : EV) (N n : Nat) : Prop := ∀ t o z Rs m r, pT E.1 N n 0 0 t o = some r → RRo E t o (min z 19999) Rs m → yC (xg xs) (d + dR o + 20) 304 [.ref 58] m (RM E z Rs m r)
def kSt (xs : List Int32) (d : Nat) (E : EV) (N n : Nat) : Prop := ∀ t o z Rs m r, stS (E.1.1 9 t) → ¬ E.1.1 9 t = 187 → p_st E.1 N (pT E.1 N n) t o = some r → RRo E t o (min z 19999) Rs m → yC (xg xs) (d + dR o + 19) 305 [.ref 58] m (RM E z Rs m r)
def kCp (xs : List Int32) (d : Nat) (E : EV) (N n md j : Nat) (k : Int32) : Prop := ∀ t o z Rs m r, E.1.1 9 t = k → pT E.1 N n md 0 t o = some r → RRo E t o (min z 19999) Rs m → yC (xg xs) (d + dR o + 18) j [.ref 58] m (RM E z Rs m r)
def kSs (xs : List Int32) (d : Nat) (E : EV) (N n : Nat) : Prop := ∀ (oe z a : Nat) (nq : NQ) (Rs : List (List Int32)) (m0 : yM) (l l2 : Int32) (Q : Option Value → yM → Prop) (q : Nat) (X Z : PX) (m : yM), l = nI (min a 19999) → ¬ l2 = 0 → (∀ t o G, X = .inl (t, o, G) → o = oe ∧ 8192 ≤ q + t) → PS E z a nq Rs m0 X m → po (some X) (pT E.1 N n 1 q) = some Z → (∀ m', PS E z a nq Rs m0 Z m' → Q (some (.int l)) m') → yP (xg xs) (d + dR oe + 20) 304 14 [(0, .ref 58), (1, .int l), (2, .int l2)] [] m Q
theorem c304q (xs : List Int32) (D : Nat) {l : Int32} {m : yM} {Q : Option Value → yM → Prop} (h : Q (some (.int l)) m) : yP (xg xs) (D + 1) 304 91 [(0, .ref 58), (1, .int l)] [] m Q := by
  refine w304_91 xs D _ m _ (w304_92 xs D _ _ m _ ⟨fun _ => ?_, fun u => absurd rfl u⟩)
  refine w304_113 xs D _ _ m _ ⟨fun _ => ?_, fun u => absurd rfl u⟩
  exact w304_14 xs D _ _ m _ ⟨fun _ => h, fun u => absurd rfl u⟩
theorem c304x (xs : List Int32) {D : Nat} (hD : 2 ≤ D) {E : EV} {c f : Int32} {z : Nat} {Rs : List (List Int32)} {m m0 : yM} (h : RRe E c f m) : yC (xg xs) D 304 [.ref 58] m (RM E z Rs m0 (.inr (c, f))) := by
  obtain ⟨d, rfl⟩ : ∃ d, D = d + 1 := ⟨D - 1, by omega⟩
  refine w304_0 xs d m _ (RRe.mk (by omega) h (fun id m1 hid h1 => ?_))
  refine w304_14 xs d _ _ m1 _ ⟨fun u => absurd u (by decide), fun _ => ⟨fun _ => ?_, fun u => absurd u h1.ne⟩⟩
  exact c304q xs d ⟨id, hid, rfl, h1⟩
theorem pT1 (m0 : yM) (N n q t o : Nat) : pT m0 N (n + 1) 1 q t o = if q = 0 then unit_ t o else if stS (m0.1 9 t) then po (pT m0 N n 2 0 t o) (pT m0 N n 1 (q - 1)) else unit_ t o := rfl
theorem pT2 (m0 : yM) (N n t o : Nat) : pT m0 N (n + 1) 2 0 t o = po (p_st m0 N (pT m0 N n) t o) (fun t o => some (p_exp m0 187 t o)) := rfl
theorem aft_il {G : List ND} {Y : PX} {t o : Nat} {G' : List ND} (h : aft G Y = .inl (t, o, G')) : ∃ G2, Y = .inl (t, o, G2) ∧ G' = G ++ G2 := by
  rcases Y with ⟨t1, o1, G1⟩ | e
  · simp only [aft, Sum.inl.injEq, Prod.mk.injEq] at h
    obtain ⟨rfl, rfl, rfl⟩ := h
    exact ⟨G1, rfl, rfl⟩
  · simp [aft] at h
theorem stepSs' (xs : List Int32) (d : Nat) {E : EV} (hE : EOk E) (N n : Nat) (hS : kSs xs d E N n) (hT : ∀ k, n = k + 1 → kSt xs d E N k) : kSs xs d E N (n + 1) := by
  intro oe z a nq Rs m0 l l2 Q q X Z m hl hl2 hX h e K
  have hb := dR_26 oe
  obtain ⟨D, hD⟩ : ∃ D, d + dR oe + 20 = D + 1 := ⟨d + dR oe + 19, by omega⟩
  rw [hD]
  rcases X with ⟨t, o, G⟩ | ⟨c, f⟩
  · obtain ⟨rfl, hq⟩ := hX t o G rfl
    have h' := h
    obtain ⟨R1, hp1, hR, hT1⟩ := h'
    obtain ⟨Y, e1, rfl⟩ := po_il e
    rw [pT1] at e1
    have no : ¬ stS (E.1.1 9 t) → yP (xg xs) (D + 1) 304 91 [(0, .ref 58), (1, .int l)] [] m Q := by
      intro s
      have e2 : Y = .inl (t, o, []) := by
        by_cases q0 : q = 0
        · rw [if_pos q0] at e1; exact (Option.some.inj e1).symm
        · rw [if_neg q0, if_neg s] at e1; exact (Option.some.inj e1).symm
      refine c304q xs D (K m ?_)
      rw [e2]
      simp only [aft, List.append_nil]
      exact h
    have yes : stS (E.1.1 9 t) → yP (xg xs) (D + 1) 304 87 [(0, .ref 58), (1, .int l)] [] m Q := by
      intro s
      have h67 : ¬ E.1.1 9 t = 67 := by
        intro u
        rw [u] at s
        exact absurd s (by decide)
      have lt := hR.lt hE h67
      have T8 := hE.1.1
      rw [if_neg (by omega), if_pos s] at e1
      refine w304_87 xs D _ m _ (w304_92 xs D _ _ m _ ⟨fun u => absurd u (by decide), fun _ => ?_⟩)
      cases n with
      | zero => cases e1
      | succ n =>
        rw [pT2] at e1
        refine GS.isS (by omega) h 59 187 (by decide) ⟨fun u => ?_, fun u => ?_⟩
        · have n187 := tkx_n u t o G rfl
          refine w304_113 xs D _ _ m _ ⟨fun u => absurd u (by decide), fun _ => ?_⟩
          obtain ⟨Y2, e2⟩ := po_ex e1
          rw [e2] at e1
          obtain ⟨Y1, e3⟩ := po_ex e2
          rw [e3, po_t] at e2
          refine PS.cadd (by omega) h (po_li (G := G) e3) hl (fun t' o' G' Rs' Y' e5 e4 hR' => ?_) (fun c f he => absurd hR.f0 he.ne) (fun m1 p => ?_)
          · simp only [Sum.inl.injEq, Prod.mk.injEq] at e5
            obtain ⟨rfl, rfl, rfl⟩ := e5
            exact yC.mono (by omega) (fun _ _ q => q) (hT n rfl t o _ _ _ _ s n187 e4 hR')
          · refine GS.sign (by omega) hE p 59 187 (by decide) (fun m2 p => ?_)
            rw [← hD]
            refine hS o z a nq Rs m0 l _ Q (q - 1) _ _ m2 hl (by decide) (fun t' o' G' e5 => ?_) p ?_ K
            · rw [p_bind_F] at e5
              obtain ⟨G2, e6, -⟩ := aft_il e5
              have e7 : pT E.1 N (n + 1) 2 0 t o = some (.inl (t', o', G2)) := by rw [pT2, e3, po_t, e6]
              have a1 := eqT E.1 N (n + 1) _ _ _ _ _ _ _ e7
              have a3 := (mvT (N := N) hE.1 (n + 1)).2.2.1 t o _ e7 hR.2.2.2.2.2.1 _ _ _ rfl
              omega
            · rw [p_bind_F, po_F]
              have e2 := Option.some.inj e2
              rw [e2, e1]
              rfl
        · obtain ⟨t1, o1, G1, e5, k187⟩ := tkx_y u
          simp only [Sum.inl.injEq, Prod.mk.injEq] at e5
          obtain ⟨rfl, rfl, rfl⟩ := e5
          refine GS.next (by omega) hE h (fun t' o' G' e3 => ?_) (fun m2 p => ?_)
          · simp only [Sum.inl.injEq, Prod.mk.injEq] at e3
            rw [← e3.1, k187]
            decide
          have es : p_st E.1 N (pT E.1 N n) t o = unit_ t o := by
            unfold p_st
            rw [if_neg (by rw [k187]; decide), if_neg (by rw [k187]; decide), if_neg (by rw [k187]; decide), if_neg (by rw [k187]; decide), if_neg (by rw [k187]; decide), if_neg (by rw [k187]; decide)]
          have ee : p_exp E.1 187 t o = p_step E.1 t o := by unfold p_exp; rw [if_pos k187]
          rw [es, show po (unit_ t o) (fun t o => some (p_exp E.1 187 t o)) = some (p_exp E.1 187 t o) from po_inl _ _ _, ee] at e1
          rw [← hD]
          refine hS o z a nq Rs m0 l _ Q (q - 1) _ _ m2 hl (by decide) (fun t' o' G' e5 => ?_) p ?_ K
          · obtain ⟨t6, o6, G6, _, f1, f2, _⟩ := p_bind_il e5
            simp only [Sum.inl.injEq, Prod.mk.injEq] at f1
            have := p_step_o f2
            omega
          · rw [p_bind_aft, po_F, e1]
            rfl
    have kn := hR.rk.kind.1
    refine w304_14 xs D _ _ m _ ⟨fun u => absurd u hl2, fun _ => ⟨fun u => absurd hR.f0 u, fun _ => ⟨fun u => yes (Or.inr (Or.inl (kn.mp u))), fun u => ?_⟩⟩⟩
    have n64 : ¬ E.1.1 9 t = 64 := fun y => u (kn.mpr y)
    refine y_ci (c295 xs (D - 1) hR 59 (by decide)) (by omega) ⟨fun u => yes (Or.inl (if1 u)), fun u => ?_⟩
    have n1 : ¬ E.1.1 9 t = 187 := if0 u
    refine y_ci (c290 xs (D - 1) hR 16 (by decide)) (by omega) ⟨fun u => yes (Or.inr (Or.inr (Or.inl (if1 u)))), fun u => ?_⟩
    have n2 : ¬ E.1.1 9 t = 16 := if0 u
    refine y_ci (c290 xs (D - 1) hR 21 (by decide)) (by omega) ⟨fun u => yes (Or.inr (Or.inr (Or.inr (Or.inl (if1 u))))), fun u => ?_⟩
    have n3 : ¬ E.1.1 9 t = 21 := if0 u
    refine y_ci (c290 xs (D - 1) hR 23 (by decide)) (by omega) ⟨fun u => yes (Or.inr (Or.inr (Or.inr (Or.inr (Or.inl (if1 u)))))), fun u => ?_⟩
    have n4 : ¬ E.1.1 9 t = 23 := if0 u
    refine y_ci (c290 xs (D - 1) hR 28 (by decide)) (by omega) ⟨fun u => yes (Or.inr (Or.inr (Or.inr (Or.inr (Or.inr (Or.inl (if1 u))))))), fun u => ?_⟩
    have n5 : ¬ E.1.1 9 t = 28 := if0 u
    refine y_ci (c290 xs (D - 1) hR 29 (by decide)) (by omega) ⟨fun u => no ?_, fun u => yes (Or.inr (Or.inr (Or.inr (Or.inr (Or.inr (Or.inr (if1 u)))))))⟩
    have n6 : ¬ E.1.1 9 t = 29 := if0 u
    rintro (y | y | y | y | y | y | y)
    · exact n1 y
    · exact n64 y
    · exact n2 y
    · exact n3 y
    · exact n4 y
    · exact n5 y
    · exact n6 y
  · refine w304_14 xs D _ _ m _ ⟨fun u => absurd u hl2, fun _ => ⟨fun _ => ?_, fun u => absurd u (GS.re h).ne⟩⟩
    refine c304q xs D (K m ?_)
    rw [← Option.some.inj e]
    exact h
theorem stepBd' (xs : List Int32) (d : Nat) {E : EV} (N n : Nat) (hS : kSs xs d E N n) : kBd xs d E N (n + 1) := by
  intro t o z Rs m r e hR
  have e : pnode 11 (if t = 0 then 0 else E.1.1 10 (t - 1)) 0 0 (pT E.1 N n 1 8192 t o) = some r := e
  obtain ⟨y, e1, rfl⟩ := pnode_ex e
  refine w304_0 xs (d + dR o + 19) m _ ?_
  refine PS.mk (by omega) hR (11, if t = 0 then 0 else E.1.1 10 (t - 1), 0, 0) rfl hR.2.2.2.2.2.2.2.2.2.1 ⟨fun _ => rfl, fun y => absurd rfl y⟩ (fun m1 p => ?_)
  refine hS o z z _ Rs m _ _ _ 8192 _ y m1 rfl (by decide) (fun t' o' G' e5 => ?_) p (by rw [po_inl]; exact e1) (fun m' p => PS.fin p rfl)
  simp only [Sum.inl.injEq, Prod.mk.injEq] at e5
  omega
