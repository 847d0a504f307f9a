/-! THE REFERENCE'S READER: blocks, the text -/
theorem p_sects_s (m0 : yM) (n t o : Nat) : p_sects m0 (n + 1) t o = if m0.1 9 t < 6 ∨ 8 < m0.1 9 t then .inl (t, o, []) else p_bind (p_sect m0 t o) (p_sects m0 n) := rfl
/-- the sections of a block -/
theorem c292L (xs : List Int32) {E : EV} (hE : EOk E) {D : Nat} (hD : 10 ≤ D) {z a : Nat} {q : NQ} {Rs : List (List Int32)} {m0 : yM} {l l1 : Int32} (hl : l = nI (min a 19999)) {Q : Option Value → yM → Prop} : ∀ (n : Nat) (X : PX) (m : yM), tn n X → PS E z a q Rs m0 X m → (∀ m', PS E z a q Rs m0 (p_bind X (p_sects E.1 n)) m' → yP (xg xs) (D + 1) 292 124 [(0, .ref 58), (1, .int l1), (2, .int l)] [] m' Q) → yP (xg xs) (D + 1) 292 79 [(0, .ref 58), (1, .int l1), (2, .int l)] [] m Q := by
  have T8 := hE.1.1
  intro n X m ht h K
  induction n generalizing X m with
  | zero =>
    have K : ∀ m', PS E z a q Rs m0 X m' → yP (xg xs) (D + 1) 292 124 [(0, .ref 58), (1, .int l1), (2, .int l)] [] m' Q := by
      intro m' p
      refine K m' ?_
      rw [show p_bind X (p_sects E.1 0) = X from p_bind_0 X]
      exact p
    rcases X with ⟨t, o, G⟩ | ⟨c, f⟩
    · have h' := h
      obtain ⟨_, _, hR, _⟩ := h'
      have k67 := tn.end hE hR (ht t o G rfl) rfl
      refine w292_79 xs D _ _ m _ ⟨fun u => absurd hR.f0 u, fun _ => ⟨fun _ => K m h, fun u => ?_⟩⟩
      have := hR.rk.kind.2.2.2.1.mpr k67
      rw [this] at u
      exact absurd u (by decide)
    · exact w292_79 xs D _ _ m _ ⟨fun _ => K m h, fun u => absurd u (GS.re h).ne⟩
  | succ n ih =>
    rcases X with ⟨t, o, G⟩ | ⟨c, f⟩
    · have h' := h
      obtain ⟨_, _, hR, _⟩ := h'
      have hq := ht t o G rfl
      have tT := hR.2.2.2.2.2.1
      have stop : (E.1.1 9 t < 6 ∨ 8 < E.1.1 9 t) → yP (xg xs) (D + 1) 292 124 [(0, .ref 58), (1, .int l1), (2, .int l)] [] m Q := by
        intro s
        refine K m ?_
        rw [pb_c (f := p_sects E.1 (n + 1)) (g := fun t o => .inl (t, o, [])) (by rw [p_sects_s, if_pos s]), p_bind_0]
        exact h
      have w1 := hR.rk.kind.2.2.2.2
      refine w292_79 xs D _ _ m _ ⟨fun u => absurd hR.f0 u, fun _ => ⟨fun u => stop (Or.inr ?_), fun u => ?_⟩⟩
      · obtain ⟨K', k1, k2, k3⟩ := hR.rk
        rw [k1]
        refine nI_lt (a := 8) ?_ (by omega)
        rcases Nat.lt_or_ge 8 K' with y | y
        · exact y
        · exact absurd (w1.mpr ⟨K', by omega, k1⟩) u
      · obtain ⟨W, k1, k2⟩ := w1.mp u
        have e7 : m.1 58 7 = E.1.1 9 t := by rw [k2]; exact (hR.vw k1 k2).2
        rw [e7]
        refine ⟨fun v => stop (Or.inl v), fun v => ⟨fun w => stop (Or.inr ?_), fun w => ?_⟩⟩
        · rw [k2] at w ⊢
          have := (nI_leI (a := 9) (by omega) (by omega)).mp w
          exact nI_lt (a := 8) (by omega) (by omega)
        · have ns : ¬ (E.1.1 9 t < 6 ∨ 8 < E.1.1 9 t) := by
            rintro (y | y)
            · exact v y
            · refine w ?_
              rw [k2] at y ⊢
              have := (nI_ltI (a := 8) (by omega) (by omega)).mp y
              exact nI_le (a := 9) (by omega) (by omega)
          refine PS.cadd (by omega) h (po_t _ (p_sect E.1)) hl (fun t1 o1 G1 Rs' Y e hY hR' => ?_) (fun c f he => absurd hR.f0 he.ne) (fun m1 p => ?_)
          · simp only [Sum.inl.injEq, Prod.mk.injEq] at e
            obtain ⟨rfl, rfl, rfl⟩ := e
            rw [← Option.some.inj hY]
            exact yC.mono hD (fun _ _ q => q) (c298 xs 0 hE hR' k1 k2)
          · refine ih _ m1 (fun t' o' G' e => ?_) p (fun m' p => K m' ?_)
            · obtain ⟨t1, o1, G1, _, e1, e2, _⟩ := p_bind_il e
              simp only [Sum.inl.injEq, Prod.mk.injEq] at e1
              obtain ⟨rfl, rfl, rfl⟩ := e1
              have gkt : gk (E.1.1 9 t) := by
                rw [k2]
                refine ⟨fun y => ?_, fun y => ?_, fun y => ?_⟩
                · exact absurd ((nI_eq (a := W) (b := 67) (by omega) (by decide)).mp y) (by omega)
                · exact absurd ((nI_eq (a := W) (b := 68) (by omega) (by decide)).mp y) (by omega)
                · exact absurd ((nI_eq (a := W) (b := 69) (by omega) (by decide)).mp y) (by omega)
              have := mv.sect (o := o) hE.1 gkt tT _ _ _ e2
              omega
            · rw [pb_c (f := p_sects E.1 (n + 1)) (g := fun t o => p_bind (p_sect E.1 t o) (p_sects E.1 n)) (by rw [p_sects_s, if_neg ns]), ← p_bind_a]
              exact p
    · refine w292_79 xs D _ _ m _ ⟨fun _ => K m h, fun u => absurd u (GS.re h).ne⟩
/-- a block -/
theorem c292 (xs : List Int32) (d : Nat) {E : EV} (hE : EOk E) {N n t o z D : Nat} {Rs : List (List Int32)} {m : yM} {r : PX} (hD : d + dR 0 + 21 ≤ D) (kw : bkW (E.1.1 9 t)) (e : p_blk E.1 N n t o = some r) (h : RRo E t o (min z 19999) Rs m) : yC (xg xs) (D + 1) 292 [.ref 58] m (RM E z Rs m r) := by
  have hb := dR_26 0
  obtain ⟨W, hW, kW⟩ : ∃ W, (W = 0 ∨ W = 2 ∨ W = 4) ∧ E.1.1 9 t = nI W := by
    rcases kw with k | k | k
    · exact ⟨0, by omega, k⟩
    · exact ⟨2, by omega, k⟩
    · exact ⟨4, by omega, k⟩
  have e7 : m.1 58 7 = E.1.1 9 t := by rw [kW]; exact (h.vw (by omega) kW).2
  have h67 : ¬ E.1.1 9 t = 67 := by rw [kW]; exact fun u => absurd ((nI_eq (a := W) (b := 67) (by omega) (by decide)).mp u) (by omega)
  -- the block's node and all below it
  have go : ∀ kd : Int32, kd = 1 + (E.1.1 9 t - 0) / 2 → yP (xg xs) (D + 1) 292 24 [(0, .ref 58), (1, .int (E.1.1 9 t))] [.int kd, .ref 58] m (RM E z Rs m r) := by
    intro kd hkd
    refine w292_24 xs D _ _ m _ ?_
    refine PS.mk (by omega) h (kd, E.1.1 10 t, 0, 0) rfl h.pl ⟨fun _ => rfl, fun y => absurd rfl y⟩ (fun m1 p => ?_)
    refine GS.next (by omega) hE p (fun t' o' G' e => ?_) (fun m2 p => ?_)
    · simp only [Sum.inl.injEq, Prod.mk.injEq] at e
      rw [← e.1]
      exact h67
    rw [p_bind_n] at p
    refine GS.isK (by omega) p 2 64 64 (by decide) ?_
    refine GS.must (by omega) p 64 (fun m4 p => ?_)
    refine ⟨x_in_nI (by omega) (by decide), ?_⟩
    rw [nI_clamp (by omega)]
    have main : ∀ (q : NQ) (Y1 Y4 y : PX) (m6 : yM), (∀ t' o' G', Y1 = .inl (t', o', G') → ¬ E.1.1 9 t' = 67) → PS E z z q Rs m Y1 m6 → po (some (p_bind (p_bind (p_bind Y1 (p_step E.1)) (p_hd E.1 (E.1.1 9 t))) (p_sects E.1 8192))) (p_bdy E.1 N n) = some Y4 → y = p_bind Y4 (p_exp E.1 (E.1.1 9 t + 1)) → r = p_node q.1 q.2.1 q.2.2.1 q.2.2.2 y → yC (xg xs) D 272 [.ref 58] m6 (fun v5 m5 => v5 = none ∧ ((¬ E.1.1 9 t = 0 → yP (xg xs) (D + 1) 292 79 [(0, .ref 58), (1, .int (E.1.1 9 t)), (2, .int (nI (min z 19999)))] [] m5 (RM E z Rs m r)) ∧ (E.1.1 9 t = 0 → (yC (xg xs) D 294 [.ref 58, .int (58 : Int32)] m5 (fun v6 m6 => v6 = none ∧ (yC (xg xs) D 296 [.ref 58] m6 (fun v7 m7 => ∃ u7, v7 = some (Value.int u7) ∧ (yC (xg xs) D 297 [.ref 58, .int (nI (min z 19999)), .int u7] m7 (fun v8 m8 => v8 = none ∧ yP (xg xs) (D + 1) 292 79 [(0, .ref 58), (1, .int (E.1.1 9 t)), (2, .int (nI (min z 19999)))] [] m8 (RM E z Rs m r)))))))))) := by
      intro q Y1 Y4 y m6 h67' p e4 ey er
      have K79 : ∀ m', PS E z z q Rs m (p_bind (p_bind Y1 (p_step E.1)) (p_hd E.1 (E.1.1 9 t))) m' → yP (xg xs) (D + 1) 292 79 [(0, .ref 58), (1, .int (E.1.1 9 t)), (2, .int (nI (min z 19999)))] [] m' (RM E z Rs m r) := by
        intro m' p
        refine c292L xs hE (by omega) rfl 8192 _ m' (fun _ _ _ _ => by omega) p (fun m5 p => ?_)
        refine w292_124 xs D _ _ m5 _ ?_
        refine PS.cadd (by omega) p e4 rfl (fun t' o' G' Rs' Y' e3 e5 hR' => ?_) (fun c f he => c303x xs (by omega) he) (fun m6 p => ?_)
        · exact c303 xs d hE (by have := dR_m (Nat.zero_le o'); omega) e5 hR'
        · rw [kW, nI_1]
          refine GS.word (c := nI (W + 1)) (by omega) hE p (W + 1) ⟨by omega, rfl⟩ (fun m7 p => ?_)
          rw [kW, nI_1] at ey
          rw [er, ey]
          exact PS.fin p rfl
      refine GS.next (by omega) hE p h67' (fun m5 p => ⟨fun u => K79 m5 ?_, fun u => ?_⟩)
      · rw [pb_u (f := p_hd E.1 (E.1.1 9 t)) (fun t' o' G' e => by unfold p_hd; rw [if_neg u])]
        exact p
      · refine GS.sign (by omega) hE p 58 186 (by decide) (fun m7 p => ?_)
        refine PS.cadd (by omega) p (po_t _ (p_simple E.1)) rfl (fun t' o' G' Rs' Y _ hY hR' => by rw [← Option.some.inj hY]; exact yC.mono (by omega) (fun _ _ q => q) (c296 xs 0 hE hR')) (fun c f he => yC.mono (by omega) (fun _ _ q => q) (c296x xs 0 he)) (fun m8 p => K79 m8 ?_)
        rw [p_bind_a] at p
        rw [show p_hd E.1 (E.1.1 9 t) = (fun t o => p_bind (p_exp E.1 186 t o) (p_simple E.1)) from by funext t' o'; unfold p_hd; rw [if_pos u]]
        exact p
    have bade : ∀ (c f : Int32), r = .inr (c, f) → PS E z z (kd, E.1.1 10 t, 0, 0) Rs m (.inr (c, f)) (y_si m4 64 (min z 19999) (m4.1 58 7)) → _ := fun c f er p => main (kd, E.1.1 10 t, 0, 0) (.inr (c, f)) (.inr (c, f)) (.inr (c, f)) _ (fun _ _ _ u => by cases u) p rfl rfl er
    unfold p_blk at e
    rcases hst : p_step E.1 t o with ⟨t1, o1, G1⟩ | ⟨c, f⟩
    · rw [hst] at e p
      have so := p_step_o hst
      obtain ⟨rfl, e2, rfl⟩ := so
      rw [e2] at hst p e
      dsimp only at e
      rw [p_bind_n] at p
      unfold p_chk at p
      by_cases k64 : E.1.1 9 (t + 1) = 64
      · rw [if_pos k64] at p
        have ee : p_exp E.1 64 (t + 1) o = p_step E.1 (t + 1) o := by unfold p_exp; rw [if_pos k64]
        rw [ee] at e
        obtain ⟨y, e1, er⟩ := pnode_ex e
        obtain ⟨Y4, h4⟩ := po_ex e1
        rw [h4, po_t] at e1
        have e1 := Option.some.inj e1
        have pv := PS.val (v := m4.1 58 7) (v' := E.1.1 11 (t + 1)) (vt' := t + 1 + 1) p (fun t' o' G' Rs' e3 hR' => by
          simp only [Sum.inl.injEq, Prod.mk.injEq] at e3
          obtain ⟨rfl, rfl, rfl⟩ := e3
          exact ⟨fun y => absurd y (by simp), fun _ => hR'.vn k64⟩)
        refine main (kd, E.1.1 10 t, E.1.1 11 (t + 1), t + 1 + 1) (.inl (t + 1, o, [])) Y4 y _ (fun t' o' G' u => ?_) pv ?_ e1.symm ?_
        · simp only [Sum.inl.injEq, Prod.mk.injEq] at u
          rw [← u.1, k64]
          decide
        · rw [p_bind_n]
          exact h4
        · rw [er, hkd]
      · rw [if_neg k64] at p
        have er : r = .inr (6, E.1.1 10 (t + 1)) := by
          have ee : p_exp E.1 64 (t + 1) o = .inr (6, E.1.1 10 (t + 1)) := by unfold p_exp; rw [if_neg k64]; rfl
          rw [ee] at e
          exact (Option.some.inj e).symm
        exact bade _ _ er (RRe.si p (by omega))
    · rw [hst] at e p
      exact bade c f (Option.some.inj e).symm (RRe.si p (by omega))
  refine w292_0 xs D m _ ?_
  rw [e7]
  refine ⟨fun u => ⟨fun v => go 3 ?_, fun v => go 2 ?_⟩, fun u => go 1 ?_⟩
  · rw [(kw.resolve_left u).resolve_left v]; decide
  · rw [v]; decide
  · rw [u]; decide
theorem p_blks_s (m0 : yM) (N n q t o : Nat) : p_blks m0 N n (q + 1) t o = if bkW (m0.1 9 t) then po (p_blk m0 N n t o) (p_blks m0 N n q) else unit_ t o := rfl
/-- all blocks -/
theorem c270L (xs : List Int32) (d : Nat) {E : EV} (hE : EOk E) {N n D : Nat} (hD : d + dR 0 + 22 ≤ D) {z a : Nat} {nq : NQ} {Rs : List (List Int32)} {m0 : yM} {l : Int32} (hl : l = nI (min a 19999)) {Q : Option Value → yM → Prop} : ∀ (q : Nat) (X Z : PX) (m : yM), tn q X → PS E z a nq Rs m0 X m → po (po (some X) (p_blks E.1 N n q)) (fun t o => some (p_end E.1 t o)) = some Z → (∀ m', PS E z a nq Rs m0 Z m' → Q (some (.int l)) m') → yP (xg xs) (D + 1) 270 12 [(0, .ref 58), (1, .int l)] [] m Q := by
  have T8 := hE.1.1
  have hb := dR_26 0
  have er : ∀ (c f : Int32) (m : yM), RRe E c f m → Q (some (.int l)) m → yP (xg xs) (D + 1) 270 12 [(0, .ref 58), (1, .int l)] [] m Q := fun c f m h K => w270_12 xs D _ m _ ⟨fun _ => K, fun u => absurd u h.ne⟩
  -- no block stands there
  have bad : ∀ (t o : Nat) (G : List ND) (m : yM), ¬ bkW (E.1.1 9 t) → PS E z a nq Rs m0 (.inl (t, o, G)) m → (∀ m', PS E z a nq Rs m0 (aft G (p_end E.1 t o)) m' → Q (some (.int l)) m') → yP (xg xs) (D + 1) 270 12 [(0, .ref 58), (1, .int l)] [] m Q := by
    intro t o G m nb h K
    have h' := h
    obtain ⟨_, _, hR, _⟩ := h'
    have k0 := hR.rk.kind.2.2.2.1
    unfold p_end at K
    refine w270_12 xs D _ m _ ⟨fun u => absurd hR.f0 u, fun _ => ⟨fun u => K m ?_, fun u => ?_⟩⟩
    · rw [if_pos (k0.mp u)]
      simp only [aft, List.append_nil]
      exact h
    · have n67 : ¬ E.1.1 9 t = 67 := fun y => u (k0.mpr y)
      rw [if_neg n67] at K
      refine y_ci (c290 xs (D - 1) hR 0 (by decide)) (by omega) ⟨fun u => absurd (Or.inl (if1 u)) nb, fun _ => ?_⟩
      refine y_ci (c290 xs (D - 1) hR 2 (by decide)) (by omega) ⟨fun u => absurd (Or.inr (Or.inl (if1 u))) nb, fun _ => ?_⟩
      refine y_ci (c290 xs (D - 1) hR 4 (by decide)) (by omega) ⟨fun _ => ?_, fun u => absurd (Or.inr (Or.inr (if1 u))) nb⟩
      refine w270_56 xs D _ _ m _ (y_cv (c291 xs (D - 2) m _) (by omega) ?_)
      rw [if_pos rfl]
      have h2 := hR.fail 6 (by decide)
      exact ⟨fun _ => er 6 (E.1.1 10 t) _ h2 (K _ h2), fun u => absurd u h2.ne⟩
  intro q
  induction q with
  | zero =>
    intro X Z m ht h e K
    rcases X with ⟨t, o, G⟩ | ⟨c, f⟩
    · have h' := h
      obtain ⟨_, _, hR, _⟩ := h'
      have k67 := tn.end hE hR (ht t o G rfl) rfl
      rw [po_a] at e
      obtain ⟨Y, e1, rfl⟩ := po_il e
      have e1 : po (some (.inl (t, o, []))) (fun t o => some (p_end E.1 t o)) = some Y := e1
      rw [po_inl] at e1
      rw [← Option.some.inj e1] at K
      exact bad t o G m (by rw [k67]; decide) h K
    · have e : (.inr (c, f) : PX) = Z := Option.some.inj e
      subst e
      exact er c f m h (K m h)
  | succ q ih =>
    intro X Z m ht h e K
    rcases X with ⟨t, o, G⟩ | ⟨c, f⟩
    · have h' := h
      obtain ⟨_, _, hR, _⟩ := h'
      have hq := ht t o G rfl
      have tT := hR.2.2.2.2.2.1
      by_cases b : bkW (E.1.1 9 t)
      · obtain ⟨X1, e1⟩ := po_ex e
        rw [e1] at e
        obtain ⟨Y, e2, e3⟩ := po_il e1
        rw [p_blks_s, if_pos b] at e2
        obtain ⟨Y1, e4⟩ := po_ex e2
        rw [e4] at e2
        have n0 : ¬ m.1 58 6 = 0 := by
          intro u
          have := hR.rk.kind.2.2.2.1.mp u
          rw [this] at b
          exact absurd b (by decide)
        have go : yP (xg xs) (D + 1) 270 51 [(0, .ref 58), (1, .int l)] [.ref 58] m Q := by
          refine w270_51 xs D _ m _ (w270_56 xs D _ _ m _ (y_cv (c291 xs (D - 2) m _) (by omega) ?_))
          rw [if_neg (by decide)]
          refine ⟨fun u => absurd hR.f0 u, fun _ => ?_⟩
          refine PS.cadd (by omega) h (po_li (G := G) e4) hl (fun t1 o1 G1 Rs' Y' e5 e6 hR' => ?_) (fun c f he => absurd hR.f0 he.ne) (fun m1 p => ?_)
          · simp only [Sum.inl.injEq, Prod.mk.injEq] at e5
            obtain ⟨rfl, rfl, rfl⟩ := e5
            obtain ⟨D', rfl⟩ : ∃ D', D = D' + 1 := ⟨D - 1, by omega⟩
            exact c292 xs d hE (by omega) b e6 hR'
          · refine ih _ Z m1 (fun t' o' G' e5 => ?_) p ?_ K
            · obtain ⟨G2, e6, _⟩ := aft_il e5
              rw [e6] at e4
              have := mvo.blk (N := N) (n := n) (o := o) hE.1 b _ e4 tT _ _ _ rfl
              omega
            · rw [pomap G e2, ← e3]
              exact e
        refine w270_12 xs D _ m _ ⟨fun u => absurd hR.f0 u, fun _ => ⟨fun u => absurd u n0, fun _ => ?_⟩⟩
        refine y_ci (c290 xs (D - 1) hR 0 (by decide)) (by omega) ⟨fun _ => go, fun u => ?_⟩
        have n1 : ¬ E.1.1 9 t = 0 := if0 u
        refine y_ci (c290 xs (D - 1) hR 2 (by decide)) (by omega) ⟨fun _ => go, fun u => ?_⟩
        have n2 : ¬ E.1.1 9 t = 2 := if0 u
        refine y_ci (c290 xs (D - 1) hR 4 (by decide)) (by omega) ⟨fun u => ?_, fun _ => go⟩
        have n3 : ¬ E.1.1 9 t = 4 := if0 u
        rcases b with b | b | b
        · exact absurd b n1
        · exact absurd b n2
        · exact absurd b n3
      · rw [po_a] at e
        obtain ⟨Y, e1, rfl⟩ := po_il e
        rw [p_blks_s, if_neg b] at e1
        have e1 : po (some (.inl (t, o, []))) (fun t o => some (p_end E.1 t o)) = some Y := e1
        rw [po_inl] at e1
        rw [← Option.some.inj e1] at K
        exact bad t o G m b h K
    · have e : (.inr (c, f) : PX) = Z := Option.some.inj e
      subst e
      exact er c f m h (K m h)
theorem RRn.nd {E : EV} {t o z : Nat} {Rs : List (List Int32)} {m : yM} (h : RRn E t o z Rs m) (k p v : Int32) : RRn E t o (min (z + 1) 19999) Rs (ndM m z k p v) := by
  obtain ⟨h1, h2, h3, h4, h5, h6, h7, h8, h9, h10, h11, h12, h13, h14⟩ := h
  have g : ∀ a i, a < 62 → ¬ (a = 58 ∧ i = 21) → (ndM m z k p v).1 a i = m.1 a i := fun a i ha h2 => ndM_o (by omega) h2
  refine ⟨h1.eq g (fun a i ha => ndM_o (by omega) (by omega)) rfl, ⟨by rw [g 58 2 (by omega) (by omega)]; exact h2.1, h2.2.1, fun i hi => by rw [g 59 i (by omega) (by omega)]; exact h2.2.2 i hi⟩, h3.eq g, h4, h5, h6, ?_, ?_, ?_, ?_, h11, ndM_21 _ _ _ _ _, by omega, ndM_gi h14⟩
  · rw [g 58 3 (by omega) (by omega)]; exact h7
  · rw [g 58 5 (by omega) (by omega)]; exact h8
  · rw [g 58 8 (by omega) (by omega)]; exact h9
  · rw [g 58 22 (by omega) (by omega)]; exact h10
/-- THE REFERENCE READS THE TEXT as the class does -/
theorem c270 (xs : List Int32) (d : Nat) {E : EV} (hE : EOk E) {N n : Nat} {Rs : List (List Int32)} {m : yM} {r : PX} (h : RRn E 0 0 0 Rs m) (e : p_text E.1 N n = some r) : yC (xg xs) (d + dR 0 + 23) 270 [.ref 58] m (RM E 0 Rs m r) := by
  have hb := dR_26 0
  unfold p_text at e
  obtain ⟨y, e1, rfl⟩ := pnode_ex e
  refine w270_0 xs (d + dR 0 + 22) m _ ?_
  have hz : m.1 58 21 = nI 0 := h.2.2.2.2.2.2.2.2.2.2.2.1
  refine y_ci (c271n xs (d + dR 0 + 21) hz (by omega) 0 0 0) (by omega) ?_
  have h1 := h.nd 0 0 0
  have p0 := psL hE 0 (Nat.zero_le _)
  have h8 := hE.2.1
  have h4 := h1.2.2.2.1
  refine yC.mono (Nat.le_refl _) (fun v m2 q => ?_) (yC.mono (show dR 0 + 16 + d + 6 ≤ d + dR 0 + 22 by omega) (fun _ _ q => q) (c272 xs (dR 0 + 16 + d) (ndM m 0 0 0 0) h1.2.1 (ps E.2.2.1 E.2.2.2.1 0) h1.2.2.2.2.2.2.2.1 h1.2.2.2.2.2.2.1 p0 Rs h1.2.2.1 (by omega) h1.2.2.2.2.1))
  obtain ⟨q1, q2, q3⟩ := nxt hE h1 q
  refine ⟨q1, ?_⟩
  have p : PS E 0 0 (0, 0, 0, 0) Rs m (p_beg E.1) m2 := by
    unfold p_beg
    by_cases k : E.1.1 9 0 = 68
    · rw [if_pos k] at q3 ⊢
      exact q3
    · rw [if_neg k] at q3 ⊢
      obtain ⟨R2, p2, hR2⟩ := q3
      refine ⟨R2, p2, hR2, fun hz R3 m3 p3 f3 => ?_⟩
      refine PT.st ?_ p3 f3
      obtain ⟨f1, f2, f3, f4, f5, f6, f7, f8⟩ := ndM_f m 0 0 0 0
      have F : PT E 0 0 (0, 0, 0, 0) m Rs (ndM m 0 0 0 0) [] := by
        refine ⟨fun a x h1 h2 h3 => by omega, f4, f7, [], rfl, by omega, by simp only [List.length_nil]; omega, ⟨f1, f2, fun u => f3, fun u => absurd rfl u⟩, ⟨f5, f6, f8, fun j c hc => by simp at hc⟩, ⟨fun j c hc => by simp at hc, fun i j c e _ hc => by simp at hc⟩, fun j c hc => by simp at hc⟩
      exact F.st p2 q2
  exact c270L xs d hE (Nat.le_refl _) rfl 8192 _ y m2 (fun _ _ _ _ => by omega) p e1 (fun m3 p => PS.fin p rfl)
