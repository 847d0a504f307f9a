/-! THE REFERENCE'S READER: ladders -/
theorem PS.leafG {xs : List Int32} {D : Nat} (hD : 6 ≤ D) {E : EV} (hE : EOk E) {z a : Nat} {q : NQ} {Rs : List (List Int32)} {m0 m : yM} {t o : Nat} {G : List ND} {l : Int32} {K : yM → Prop} (h : PS E z a q Rs m0 (.inl (t, o, G)) m) (hl : l = nI (min a 19999)) (q' : NQ) {kd p v : Int32} (hk : kd = q'.1) (hp : p = q'.2.1) (hv : q'.2.2.2 = 0 ∧ v = q'.2.2.1) (h67 : ¬ E.1.1 9 t = 67) (k : ∀ m', PS E z a q Rs m0 (aft G (p_node q'.1 q'.2.1 q'.2.2.1 q'.2.2.2 (p_step E.1 t o))) m' → K m') : yC (xg xs) D 271 [.ref 58, .int kd, .int p, .int v] m (fun v m3 => ∃ u, v = some (Value.int u) ∧ yC (xg xs) D 297 [.ref 58, .int l, .int u] m3 (fun v m4 => v = none ∧ yC (xg xs) D 272 [.ref 58] m4 (fun v m5 => v = none ∧ K m5))) := by
  subst hl
  obtain ⟨Rs', hp', hR, hT⟩ := h
  refine PS.mk (by omega) hR q' hk hp ⟨fun _ => hv.2, fun u => absurd hv.1 u⟩ (fun m3 p3 => ?_)
  have p4 := PS.ad hp' hT (by omega) (PS.finq p3)
  refine y_cv (c297 xs (D - 1) (PW.gi p3) (by omega) (by omega)) (by omega) ?_
  refine GS.next hD hE p4 (fun t' o' G' e => ?_) (fun m5 p5 => k m5 ?_)
  · simp only [p_node, aft, Sum.inl.injEq, Prod.mk.injEq] at e
    rw [← e.1]
    exact h67
  · rw [leaf_eq] at p5
    exact p5
theorem cell_no {m0 : yM} {t o : Nat} (h : ¬ stL (m0.1 9 t)) : p_cell m0 t o = .inr (6, m0.1 10 t) := by
  have n64 : ¬ m0.1 9 t = 64 := fun y => h (Or.inl y)
  have n175 : ¬ m0.1 9 t = 175 := fun y => h (Or.inr (Or.inl y))
  have n190 : ¬ m0.1 9 t = 190 := fun y => h (Or.inr (Or.inr (Or.inl y)))
  have n188 : ¬ m0.1 9 t = 188 := fun y => h (Or.inr (Or.inr (Or.inr (Or.inl y))))
  have n173 : ¬ m0.1 9 t = 173 := fun y => h (Or.inr (Or.inr (Or.inr (Or.inr (Or.inl y)))))
  have n170 : ¬ m0.1 9 t = 170 := fun y => h (Or.inr (Or.inr (Or.inr (Or.inr (Or.inr (Or.inl y))))))
  have n168 : ¬ m0.1 9 t = 168 := fun y => h (Or.inr (Or.inr (Or.inr (Or.inr (Or.inr (Or.inr y))))))
  have ew : wyK (m0.1 9 t) = 0 := by unfold wyK; rw [if_neg n175, if_neg n190, if_neg n188]
  unfold p_cell
  rw [if_neg n173, if_neg n170, if_neg n168, ew]
  unfold p_wst
  rw [if_pos rfl, p_bind_n]
  unfold p_out p_nm p_leaf
  rw [if_neg (fun y => n64 y.1), if_neg n64]
  rfl
theorem exp_no {m0 : yM} {k : Int32} {t o : Nat} (h : ¬ m0.1 9 t = k) : p_exp m0 k t o = .inr (6, m0.1 10 t) := by
  unfold p_exp
  rw [if_neg h]
  rfl
theorem p_cells_s (m0 : yM) (n t o : Nat) : p_cells m0 (n + 1) t o = if m0.1 9 t = 252 then p_bind (p_bind (p_node 29 (m0.1 10 t) 0 0 (p_step m0 t o)) (p_cell m0)) (p_cells m0 n) else if stL (m0.1 9 t) then p_bind (p_cell m0 t o) (p_cells m0 n) else .inl (t, o, []) := rfl
theorem cells_no {m0 : yM} {t o : Nat} (n : Nat) (h : ¬ stL (m0.1 9 t)) (h2 : ¬ m0.1 9 t = 252) : p_cells m0 n t o = .inl (t, o, []) := by
  cases n with
  | zero => rfl
  | succ n => rw [p_cells_s, if_neg h2, if_neg h]
theorem c319L (xs : List Int32) {E : EV} (hE : EOk E) {D : Nat} (hD : 8 ≤ D) {z a : Nat} {q : NQ} {Rs : List (List Int32)} {m0 : yM} {l : Int32} (hl : l = nI (min a 19999)) {Q : Option Value → yM → Prop} : ∀ (n : Nat) (X : PX) (m : yM), tn n X → PS E z a q Rs m0 X m → (∀ m', PS E z a q Rs m0 (p_bind (p_bind X (p_cells E.1 n)) (p_exp E.1 187)) m' → Q (some (.int l)) m') → yP (xg xs) (D + 1) 319 21 [(0, .ref 58), (1, .int l)] [] m Q := by
  have T8 := hE.1.1
  have er : ∀ (c f : Int32) (m : yM), RRe E c f m → (∀ m', RRe E c f m' → Q (some (.int l)) m') → yP (xg xs) (D + 1) 319 21 [(0, .ref 58), (1, .int l)] [] m Q := by
    intro c f m h K
    refine w319_21 xs D _ m _ ⟨fun _ => ?_, fun u => absurd u h.ne⟩
    exact w319_78 xs D _ m _ (y_nx (c294x xs (D - 7) h _) (by omega) (fun m' h' => K m' h'))
  -- a cell read where one stands, the rest by hand
  have cell : ∀ (X : PX) (m : yM), PS E z a q Rs m0 X m → (∀ m', PS E z a q Rs m0 (p_bind X (p_cell E.1)) m' → yP (xg xs) (D + 1) 319 21 [(0, .ref 58), (1, .int l)] [] m' Q) → yP (xg xs) (D + 1) 319 66 [(0, .ref 58), (1, .int l)] [] m Q := by
    intro X m h K
    refine w319_66 xs D _ m _ ?_
    exact PS.cadd (by omega) h (po_t _ (p_cell E.1)) hl (fun t o G Rs' Y _ hY hR => by rw [← Option.some.inj hY]; exact c320 xs hE hD hR) (fun c f he => c320x xs hD he) K
  intro n
  induction n with
  | zero =>
    intro X m ht h K
    rcases X with ⟨t, o, G⟩ | ⟨c, f⟩
    · have h' := h
      obtain ⟨_, _, hR, _⟩ := h'
      have k67 := tn.end hE hR (ht t o G rfl) rfl
      refine w319_21 xs D _ m _ ⟨fun u => absurd hR.f0 u, fun _ => ?_⟩
      refine y_ci (c295 xs (D - 1) hR 59 (by decide)) (by omega) ⟨fun u => absurd (if1 u) (by rw [k67]; decide), fun _ => ?_⟩
      refine y_ci (c295 xs (D - 1) hR 124 (by decide)) (by omega) ⟨fun _ => ?_, fun u => absurd (if1 u) (by rw [k67]; decide)⟩
      refine cell _ m h (fun m1 p => ?_)
      have ns : ¬ stL (E.1.1 9 t) := by rw [k67]; decide
      rw [p_bind_aft, cell_no ns] at p
      refine er 6 (E.1.1 10 t) m1 p (fun m' h' => K m' ?_)
      rw [pb_u (f := p_cells E.1 0) (fun t' o' G' e => rfl), p_bind_aft, exp_no (by rw [k67]; decide)]
      exact h'
    · exact er c f m h (fun m' h' => K m' h')
  | succ n ih =>
    intro X m ht h K
    rcases X with ⟨t, o, G⟩ | ⟨c, f⟩
    · have h' := h
      obtain ⟨_, _, hR, _⟩ := h'
      have tT := hR.2.2.2.2.2.1
      have hq := ht t o G rfl
      refine w319_21 xs D _ m _ ⟨fun u => absurd hR.f0 u, fun _ => ?_⟩
      refine y_ci (c295 xs (D - 1) hR 59 (by decide)) (by omega) ⟨fun u => ?_, fun u => ?_⟩
      · have k187 : E.1.1 9 t = 187 := if1 u
        refine w319_78 xs D _ m _ (GS.sign (by omega) hE h 59 187 (by decide) (fun m' p => K m' ?_))
        rw [pb_u (f := p_cells E.1 (n + 1)) (fun t' o' G' e => by
          simp only [Sum.inl.injEq, Prod.mk.injEq] at e
          obtain ⟨rfl, rfl, rfl⟩ := e
          exact cells_no (n + 1) (by rw [k187]; decide) (by rw [k187]; decide))]
        exact p
      · have n187 : ¬ E.1.1 9 t = 187 := if0 u
        refine y_ci (c295 xs (D - 1) hR 124 (by decide)) (by omega) ⟨fun u => ?_, fun u => ?_⟩
        · have n252 : ¬ E.1.1 9 t = 252 := if0 u
          refine cell _ m h (fun m1 p => ?_)
          by_cases s : stL (E.1.1 9 t)
          · refine ih _ m1 (fun t' o' G' e => ?_) p (fun m' p' => K m' ?_)
            · obtain ⟨t1, o1, G1, _, f1, f2, _⟩ := p_bind_il e
              simp only [Sum.inl.injEq, Prod.mk.injEq] at f1
              obtain ⟨rfl, rfl, rfl⟩ := f1
              have := mv.cell (o := o) hE.1 tT _ _ _ f2
              omega
            · rw [pb_c (f := p_cells E.1 (n + 1)) (g := fun t o => p_bind (p_cell E.1 t o) (p_cells E.1 n)) (by rw [p_cells_s, if_neg n252, if_pos s]), ← p_bind_a]
              exact p'
          · rw [p_bind_aft, cell_no s] at p
            refine er 6 (E.1.1 10 t) m1 p (fun m' h' => K m' ?_)
            rw [pb_c (f := p_cells E.1 (n + 1)) (g := fun t o => .inl (t, o, [])) (cells_no (n + 1) s n252), p_bind_0, p_bind_aft, exp_no n187]
            exact h'
        · have k252 : E.1.1 9 t = 252 := if1 u
          have h67 : ¬ E.1.1 9 t = 67 := by rw [k252]; decide
          refine PS.leafG (by omega) hE h hl (29, E.1.1 10 t, 0, 0) rfl hR.pl ⟨rfl, rfl⟩ h67 (fun m1 p => ?_)
          refine cell _ m1 p (fun m2 p => ?_)
          refine ih _ m2 (fun t' o' G' e => ?_) p (fun m' p' => K m' ?_)
          · obtain ⟨t1, o1, G1, _, f1, f2, _⟩ := p_bind_il e
            obtain ⟨G3, f3, _⟩ := aft_il f1
            obtain ⟨G4, f4, _⟩ := p_node_o f3
            have a1 := p_step_o f4
            have lt := hR.lt hE h67
            have := mv.cell (o := o1) hE.1 (by omega) _ _ _ f2
            omega
          · rw [p_bind_aft, p_cells_s, if_pos k252, ← p_bind_F, ← p_bind_F]
            exact p'
    · exact er c f m h (fun m' h' => K m' h')
theorem c319 (xs : List Int32) {E : EV} (hE : EOk E) {t o z D : Nat} {Rs : List (List Int32)} {m : yM} (hD : 9 ≤ D) (h : RRo E t o (min z 19999) Rs m) : yC (xg xs) D 319 [.ref 58] m (RM E z Rs m (p_row E.1 t o)) := by
  obtain ⟨d, rfl⟩ : ∃ d, D = d + 1 := ⟨D - 1, by omega⟩
  unfold p_row
  refine w319_0 xs d m _ (PS.mk (by omega) h (24, E.1.1 10 t, 0, 0) rfl h.pl ⟨fun _ => rfl, fun y => absurd rfl y⟩ (fun m1 p => ?_))
  refine PS.cadd (by omega) p (po_t _ (p_cell E.1)) rfl (fun t o G Rs' Y _ hY hR => by rw [← Option.some.inj hY]; exact c320 xs hE (by omega) hR) (fun c f he => c320x xs (by omega) he) (fun m2 p => ?_)
  rw [p_bind_n] at p
  exact c319L xs hE (by omega) rfl 8192 _ m2 (fun _ _ _ _ => by omega) p (fun m3 p => PS.fin p rfl)
theorem row_no {m0 : yM} {t o : Nat} (h : ¬ stL (m0.1 9 t)) : p_row m0 t o = .inr (6, m0.1 10 t) := by
  unfold p_row
  rw [cell_no h]
  rfl
theorem p_rows_s (m0 : yM) (n t o : Nat) : p_rows m0 (n + 1) t o = if stL (m0.1 9 t) then p_bind (p_row m0 t o) (p_rows m0 n) else .inl (t, o, []) := rfl
theorem rows_no {m0 : yM} {t o : Nat} (n : Nat) (h : ¬ stL (m0.1 9 t)) : p_rows m0 n t o = .inl (t, o, []) := by
  cases n with
  | zero => rfl
  | succ n => rw [p_rows_s, if_neg h]
theorem c318L (xs : List Int32) {E : EV} (hE : EOk E) {D : Nat} (hD : 9 ≤ D) {z a : Nat} {q : NQ} {Rs : List (List Int32)} {m0 : yM} {l : Int32} (hl : l = nI (min a 19999)) {Q : Option Value → yM → Prop} : ∀ (n : Nat) (X : PX) (m : yM) (l2 : Int32), ¬ l2 = 0 → tn (n + 1) X → PS E z a q Rs m0 X m → (∀ m', PS E z a q Rs m0 (p_bind (p_bind (p_bind X (p_row E.1)) (p_rows E.1 n)) (p_exp E.1 40)) m' → Q (some (.int l)) m') → yP (xg xs) (D + 1) 318 18 [(0, .ref 58), (1, .int l), (2, .int l2)] [] m Q := by
  have T8 := hE.1.1
  have out : ∀ (X : PX) (m : yM), PS E z a q Rs m0 X m → (∀ m', PS E z a q Rs m0 (p_bind X (p_exp E.1 40)) m' → Q (some (.int l)) m') → yP (xg xs) (D + 1) 318 63 [(0, .ref 58), (1, .int l)] [] m Q := by
    intro X m h K
    exact w318_63 xs D _ m _ (GS.word (by omega) hE h 40 (by decide) K)
  have o58 : ∀ (X : PX) (m : yM), PS E z a q Rs m0 X m → (∀ m', PS E z a q Rs m0 (p_bind X (p_exp E.1 40)) m' → Q (some (.int l)) m') → yP (xg xs) (D + 1) 318 58 [(0, .ref 58), (1, .int l)] [] m Q := by
    intro X m h K
    exact w318_58 xs D _ m _ (w318_59 xs D _ _ m _ (w318_18 xs D _ _ m _ ⟨fun _ => out X m h K, fun u => absurd rfl u⟩))
  -- a row where none stands
  have bad : ∀ (t o : Nat) (G : List ND) (m : yM), ¬ stL (E.1.1 9 t) → PS E z a q Rs m0 (.inl (t, o, G)) m → (∀ m', RRe E 6 (E.1.1 10 t) m' → Q (some (.int l)) m') → yP (xg xs) (D + 1) 318 18 [(0, .ref 58), (1, .int l), (2, .int (1 : Int32))] [] m Q := by
    intro t o G m s h K
    have h' := h
    obtain ⟨_, _, hR, _⟩ := h'
    refine w318_18 xs D _ _ m _ ⟨fun u => absurd u (by decide), fun _ => ⟨fun u => absurd hR.f0 u, fun _ => ?_⟩⟩
    refine PS.cadd (by omega) h (po_t _ (p_row E.1)) hl (fun t o G Rs' Y _ hY hR => by rw [← Option.some.inj hY]; exact c319 xs hE hD hR) (fun c f he => absurd hR.f0 he.ne) (fun m1 p => ?_)
    rw [p_bind_aft, row_no s] at p
    have p : RRe E 6 (E.1.1 10 t) m1 := p
    exact ⟨fun _ => o58 (.inr (6, E.1.1 10 t)) m1 p (fun m' h' => K m' h'), fun u => absurd u p.ne⟩
  intro n
  induction n with
  | zero =>
    intro X m l2 hl2 ht h K
    rcases X with ⟨t, o, G⟩ | ⟨c, f⟩
    · have h' := h
      obtain ⟨_, _, hR, _⟩ := h'
      have hq := ht t o G rfl
      have tT := hR.2.2.2.2.2.1
      refine w318_18 xs D _ _ m _ ⟨fun u => absurd u hl2, fun _ => ⟨fun u => absurd hR.f0 u, fun _ => ?_⟩⟩
      refine PS.cadd (by omega) h (po_t _ (p_row E.1)) hl (fun t o G Rs' Y _ hY hR => by rw [← Option.some.inj hY]; exact c319 xs hE hD hR) (fun c f he => absurd hR.f0 he.ne) (fun m1 p => ?_)
      rcases hX : p_bind (.inl (t, o, G)) (p_row E.1) with ⟨t1, o1, G1⟩ | ⟨c, f⟩
      · rw [hX] at p K
        rw [show p_bind (.inl (t1, o1, G1)) (p_rows E.1 0) = .inl (t1, o1, G1) from p_bind_0 _] at K
        have p' := p
        obtain ⟨_, _, hR1, _⟩ := p'
        have k67 : E.1.1 9 t1 = 67 := by
          obtain ⟨t5, o5, G5, _, f1, f2, _⟩ := p_bind_il hX
          simp only [Sum.inl.injEq, Prod.mk.injEq] at f1
          obtain ⟨rfl, rfl, rfl⟩ := f1
          have := mv.row (o := o) hE.1 tT _ _ _ f2
          exact tn.end (n := 0) hE hR1 (by omega) rfl
        refine ⟨fun u => absurd hR1.f0 u, fun _ => ?_⟩
        refine y_ci (c290 xs (D - 1) hR1 40 (by decide)) (by omega) ⟨fun u => absurd (if1 u) (by rw [k67]; decide), fun _ => ?_⟩
        refine w318_59 xs D _ _ m1 _ (bad t1 o1 G1 m1 (by rw [k67]; decide) p (fun m' h' => K m' ?_))
        rw [p_bind_aft, exp_no (by rw [k67]; decide)]
        exact h'
      · rw [hX] at p K
        have p : RRe E c f m1 := p
        exact ⟨fun _ => o58 (.inr (c, f)) m1 p K, fun u => absurd u p.ne⟩
    · exact w318_18 xs D _ _ m _ ⟨fun u => absurd u hl2, fun _ => ⟨fun _ => out _ m h K, fun u => absurd u (GS.re h).ne⟩⟩
  | succ n ih =>
    intro X m l2 hl2 ht h K
    rcases X with ⟨t, o, G⟩ | ⟨c, f⟩
    · have h' := h
      obtain ⟨_, _, hR, _⟩ := h'
      have hq := ht t o G rfl
      have tT := hR.2.2.2.2.2.1
      refine w318_18 xs D _ _ m _ ⟨fun u => absurd u hl2, fun _ => ⟨fun u => absurd hR.f0 u, fun _ => ?_⟩⟩
      refine PS.cadd (by omega) h (po_t _ (p_row E.1)) hl (fun t o G Rs' Y _ hY hR => by rw [← Option.some.inj hY]; exact c319 xs hE hD hR) (fun c f he => absurd hR.f0 he.ne) (fun m1 p => ?_)
      rcases hX : p_bind (.inl (t, o, G)) (p_row E.1) with ⟨t1, o1, G1⟩ | ⟨c, f⟩
      · rw [hX] at p K
        have p' := p
        obtain ⟨_, _, hR1, _⟩ := p'
        have tl : t + 1 ≤ t1 := by
          obtain ⟨t5, o5, G5, _, f1, f2, _⟩ := p_bind_il hX
          simp only [Sum.inl.injEq, Prod.mk.injEq] at f1
          obtain ⟨rfl, rfl, rfl⟩ := f1
          have := mv.row (o := o) hE.1 tT _ _ _ f2
          omega
        refine ⟨fun u => absurd hR1.f0 u, fun _ => ?_⟩
        refine y_ci (c290 xs (D - 1) hR1 40 (by decide)) (by omega) ⟨fun u => ?_, fun u => ?_⟩
        · have k40 : E.1.1 9 t1 = 40 := if1 u
          refine o58 _ m1 p (fun m' p' => K m' ?_)
          rw [pb_c (f := p_rows E.1 (n + 1)) (g := fun t o => .inl (t, o, [])) (rows_no (n + 1) (by rw [k40]; decide)), p_bind_0]
          exact p'
        · have n40 : ¬ E.1.1 9 t1 = 40 := if0 u
          refine w318_59 xs D _ _ m1 _ ?_
          by_cases s : stL (E.1.1 9 t1)
          · refine ih _ m1 _ (by decide) (fun t' o' G' e => ?_) p (fun m' p' => K m' ?_)
            · simp only [Sum.inl.injEq, Prod.mk.injEq] at e
              omega
            · rw [pb_c (f := p_rows E.1 (n + 1)) (g := fun t o => p_bind (p_row E.1 t o) (p_rows E.1 n)) (by rw [p_rows_s, if_pos s]), ← p_bind_a]
              exact p'
          · refine bad t1 o1 G1 m1 s p (fun m' h' => K m' ?_)
            rw [pb_c (f := p_rows E.1 (n + 1)) (g := fun t o => .inl (t, o, [])) (rows_no (n + 1) s), p_bind_0, p_bind_aft, exp_no n40]
            exact h'
      · rw [hX] at p K
        have p : RRe E c f m1 := p
        exact ⟨fun _ => o58 (.inr (c, f)) m1 p K, fun u => absurd u p.ne⟩
    · exact w318_18 xs D _ _ m _ ⟨fun u => absurd u hl2, fun _ => ⟨fun _ => out _ m h K, fun u => absurd u (GS.re h).ne⟩⟩
theorem c318 (xs : List Int32) {E : EV} (hE : EOk E) {t o z D : Nat} {Rs : List (List Int32)} {m : yM} (hD : 10 ≤ D) (h : RRo E t o (min z 19999) Rs m) (k39 : E.1.1 9 t = 39) : yC (xg xs) D 318 [.ref 58] m (RM E z Rs m (p_rung E.1 t o)) := by
  obtain ⟨d, rfl⟩ : ∃ d, D = d + 1 := ⟨D - 1, by omega⟩
  unfold p_rung
  refine w318_0 xs d m _ (PS.mk (by omega) h (23, E.1.1 10 t, 0, 0) rfl h.pl ⟨fun _ => rfl, fun y => absurd rfl y⟩ (fun m1 p => ?_))
  refine GS.next (by omega) hE p (fun t' o' G' e => ?_) (fun m2 p => ?_)
  · simp only [Sum.inl.injEq, Prod.mk.injEq] at e
    rw [← e.1, k39]
    decide
  rw [p_bind_n] at p
  exact c318L xs hE (by omega) rfl 8192 _ m2 1 (by decide) (fun _ _ _ _ => by omega) p (fun m3 p => PS.fin p rfl)
theorem p_rungs_s (m0 : yM) (n t o : Nat) : p_rungs m0 (n + 1) t o = if m0.1 9 t = 39 then p_bind (p_rung m0 t o) (p_rungs m0 n) else .inl (t, o, []) := rfl
theorem c303L (xs : List Int32) {E : EV} (hE : EOk E) {D : Nat} (hD : 10 ≤ D) {z a : Nat} {q : NQ} {Rs : List (List Int32)} {m0 : yM} {l : Int32} (hl : l = nI (min a 19999)) {Q : Option Value → yM → Prop} : ∀ (n : Nat) (X : PX) (m : yM), tn n X → PS E z a q Rs m0 X m → (∀ m', PS E z a q Rs m0 (p_bind (p_bind X (p_rungs E.1 n)) (p_exp E.1 38)) m' → Q (some (.int l)) m') → yP (xg xs) (D + 1) 303 30 [(0, .ref 58), (1, .int l)] [] m Q := by
  intro n
  induction n with
  | zero =>
    intro X m ht h K
    refine w303_30 xs D _ m _ (GS.isW (by omega) h 39 (by decide) ⟨fun u => ?_, fun u => ?_⟩)
    · refine GS.word (by omega) hE h 38 (by decide) (fun m' p => K m' ?_)
      rw [show p_bind X (p_rungs E.1 0) = X from p_bind_0 X]
      exact p
    · obtain ⟨t, o, G, rfl, k⟩ := tkx_y u
      obtain ⟨R, _, hR, _⟩ := h
      have := tn.end hE hR (ht t o G rfl) rfl
      rw [k] at this
      exact absurd this (by decide)
  | succ n ih =>
    intro X m ht h K
    refine w303_30 xs D _ m _ (GS.isW (by omega) h 39 (by decide) ⟨fun u => ?_, fun u => ?_⟩)
    · refine GS.word (by omega) hE h 38 (by decide) (fun m' p => K m' ?_)
      rw [pb_u (f := p_rungs E.1 (n + 1)) (fun t o G e => by rw [p_rungs_s, if_neg (tkx_n u t o G e)])]
      exact p
    · obtain ⟨t, o, G, rfl, k⟩ := tkx_y u
      have h' := h
      obtain ⟨R, _, hR0, _⟩ := h'
      refine PS.cadd (by omega) h (po_t _ (p_rung E.1)) hl (fun t1 o1 G1 Rs' Y e hY hR => ?_) (fun c f he => absurd hR0.f0 he.ne) (fun m1 p => ?_)
      · simp only [Sum.inl.injEq, Prod.mk.injEq] at e
        obtain ⟨rfl, rfl, rfl⟩ := e
        rw [← Option.some.inj hY]
        exact c318 xs hE hD hR k
      · refine ih _ m1 (fun t' o' G' e => ?_) p (fun m' p => K m' ?_)
        · obtain ⟨t1, o1, G1, _, e1, e2, _⟩ := p_bind_il e
          simp only [Sum.inl.injEq, Prod.mk.injEq] at e1
          obtain ⟨rfl, rfl, rfl⟩ := e1
          have := mv.rung (o := o) hE.1 (show gk (E.1.1 9 t) by rw [k]; decide) hR0.2.2.2.2.2.1 _ _ _ e2
          have := ht t o G rfl
          omega
        · rw [pb_c (f := p_rungs E.1 (n + 1)) (g := fun t o => p_bind (p_rung E.1 t o) (p_rungs E.1 n)) (by rw [p_rungs_s, if_pos k]), ← p_bind_a]
          exact p
theorem c303x (xs : List Int32) {D : Nat} (hD : 3 ≤ D) {E : EV} {c f : Int32} {z : Nat} {Rs : List (List Int32)} {m m0 : yM} (h : RRe E c f m) : yC (xg xs) D 303 [.ref 58] m (RM E z Rs m0 (.inr (c, f))) := by
  obtain ⟨d, rfl⟩ : ∃ d, D = d + 1 := ⟨D - 1, by omega⟩
  refine w303_0 xs d m _ (y_ci (c290x xs (d - 1) h _) (by omega) ⟨fun u => absurd rfl u, fun _ => ?_⟩)
  exact y_rm (c304x xs (by omega) h) (Nat.le_refl _)
theorem c303 (xs : List Int32) (d : Nat) {E : EV} (hE : EOk E) {N n t o z D : Nat} {Rs : List (List Int32)} {m : yM} {r : PX} (hD : d + dR o + 21 ≤ D) (e : p_bdy E.1 N n t o = some r) (h : RRo E t o (min z 19999) Rs m) : yC (xg xs) D 303 [.ref 58] m (RM E z Rs m r) := by
  have hb := dR_26 o
  obtain ⟨D', rfl⟩ : ∃ D', D = D' + 1 := ⟨D - 1, by omega⟩
  unfold p_bdy at e
  refine w303_0 xs D' m _ (y_ci (c290 xs (D' - 1) h 37 (by decide)) (by omega) ⟨fun u => ?_, fun u => ?_⟩)
  · have k37 : E.1.1 9 t = 37 := if1 u
    rw [if_pos k37] at e
    rw [← Option.some.inj e]
    unfold p_lad
    refine PS.mk (by omega) h (22, E.1.1 10 t, 0, 0) rfl h.pl ⟨fun _ => rfl, fun y => absurd rfl y⟩ (fun m1 p => ?_)
    refine GS.next (by omega) hE p (fun t' o' G' e => ?_) (fun m2 p => ?_)
    · simp only [Sum.inl.injEq, Prod.mk.injEq] at e
      rw [← e.1, k37]
      decide
    rw [p_bind_n] at p
    exact c303L xs hE (by omega) rfl 8192 _ m2 (fun _ _ _ _ => by omega) p (fun m3 p => PS.fin p rfl)
  · have n37 : ¬ E.1.1 9 t = 37 := if0 u
    rw [if_neg n37] at e
    exact y_rm ((kAll xs d hE N n).1.1 t o z Rs m r e h) (by omega)
