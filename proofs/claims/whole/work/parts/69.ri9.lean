/-! THE REFERENCE'S READER: types, declarations, sections -/
theorem y_rm {G : xG} {d d' j : Nat} {as : List Value} {E : EV} {z : Nat} {Rs : List (List Int32)} {m m0 : yM} {X : PX} (h : yC G d j as m (RM E z Rs m0 X)) (hd : d ≤ d') : yC G d' j as m (fun v m' => ∃ u, v = some (Value.int u) ∧ RM E z Rs m0 X (some (.int u)) m') :=
  yC.mono hd (fun r m' q => by obtain ⟨id, i1, i2, i3⟩ := q; exact ⟨nI id, i2, id, i1, rfl, i3⟩) h
theorem p_bind_n (t o : Nat) (f : Nat → Nat → PX) : p_bind (.inl (t, o, [])) f = f t o := by rw [p_bind_aft, aft_nil]
theorem c300x (xs : List Int32) (d : Nat) {E : EV} {c f : Int32} {z : Nat} {Rs : List (List Int32)} {m m0 : yM} (h : RRe E c f m) : yC (xg xs) (d + 8) 300 [.ref 58] m (RM E z Rs m0 (.inr (c, f))) := by
  refine w300_0 xs (d + 7) m _ (y_ci (c293x xs (d + 6) h _) (by omega) ⟨fun _ => ?_, fun u => absurd rfl u⟩)
  refine y_ci (c290x xs (d + 6) h _) (by omega) ⟨fun u => absurd rfl u, fun _ => ?_⟩
  exact y_rm (c296x xs d h) (Nat.le_refl _)
theorem c300 (xs : List Int32) (d : Nat) {E : EV} (hE : EOk E) {t o z : Nat} {Rs : List (List Int32)} {m : yM} (h : RRo E t o (min z 19999) Rs m) : yC (xg xs) (d + 8) 300 [.ref 58] m (RM E z Rs m (p_type E.1 t o)) := by
  unfold p_type
  refine w300_0 xs (d + 7) m _ (y_ci (c293 xs (d + 6) h 2 64 (by decide)) (by omega) ⟨fun u => ?_, fun u => ?_⟩)
  · have n64 : ¬ E.1.1 9 t = 64 := if0 u
    refine y_ci (c290 xs (d + 6) h 14 (by decide)) (by omega) ⟨fun v => ?_, fun v => ?_⟩
    · have e14 : E.1.1 9 t = 14 := if1 v
      rw [if_pos e14]
      refine PS.mk (by omega) h (9, E.1.1 10 t, 0, 0) rfl h.pl ⟨fun _ => rfl, fun y => absurd rfl y⟩ (fun m1 p => ?_)
      refine p.next (by omega) hE (fun t' o' G' e => ?_) (fun m2 p => ?_)
      · simp only [Sum.inl.injEq, Prod.mk.injEq] at e
        rw [← e.1, e14]
        decide
      rw [p_bind_n] at p
      refine p.sign (by omega) hE 91 219 (by decide) (fun m3 p => ?_)
      refine PS.cadd (by omega) p (po_t _ (p_const E.1)) rfl (fun t o G Rs' Y _ hY hR => by rw [← Option.some.inj hY]; exact c301 xs d hE hR) (fun c f he => c301x xs d he) (fun m4 p => ?_)
      refine p.sign (by omega) hE 2 71 (by decide) (fun m5 p => ?_)
      refine PS.cadd (by omega) p (po_t _ (p_const E.1)) rfl (fun t o G Rs' Y _ hY hR => by rw [← Option.some.inj hY]; exact c301 xs d hE hR) (fun c f he => c301x xs d he) (fun m6 p => ?_)
      refine p.sign (by omega) hE 93 221 (by decide) (fun m7 p => ?_)
      refine p.word (by omega) hE 15 (by decide) (fun m8 p => ?_)
      refine PS.cadd (by omega) p (po_t _ (p_simple E.1)) rfl (fun t o G Rs' Y _ hY hR => by rw [← Option.some.inj hY]; exact c296 xs d hE hR) (fun c f he => c296x xs d he) (fun m9 p => ?_)
      exact PS.fin p rfl
    · have n14 : ¬ E.1.1 9 t = 14 := if0 v
      rw [if_neg n14, if_neg n64]
      exact y_rm (c296 xs d hE h) (Nat.le_refl _)
  · have e64 : E.1.1 9 t = 64 := if1 u
    rw [if_neg (by rw [e64]; decide), if_pos e64]
    unfold p_leaf
    rw [if_pos e64]
    exact lfR (by omega) hE h (10, E.1.1 10 t, E.1.1 11 t, t + 1) rfl h.pl ⟨fun y => absurd y (by simp), fun _ => h.vn e64⟩ (by rw [e64]; decide)
/-- turns never run out -/
def tn (n : Nat) (X : PX) : Prop := ∀ t o G, X = .inl (t, o, G) → 8192 ≤ n + t
theorem tn.end {E : EV} (hE : EOk E) {t o z n : Nat} {Rs : List (List Int32)} {m : yM} (h : RRo E t o z Rs m) (hn : 8192 ≤ n + t) (h0 : n = 0) : E.1.1 9 t = 67 := by
  by_cases y : E.1.1 9 t = 67
  · exact y
  · have := h.lt hE y
    have := hE.1.1
    omega
theorem p_bind_il {X : PX} {f : Nat → Nat → PX} {t' o' : Nat} {G' : List ND} (h : p_bind X f = .inl (t', o', G')) : ∃ t o G G2, X = .inl (t, o, G) ∧ f t o = .inl (t', o', G2) ∧ G' = G ++ G2 := by
  rcases X with ⟨t, o, G⟩ | e
  · rw [p_bind_aft] at h
    rcases hf : f t o with ⟨t2, o2, G2⟩ | e
    · rw [hf] at h
      simp only [aft, Sum.inl.injEq, Prod.mk.injEq] at h
      obtain ⟨rfl, rfl, rfl⟩ := h
      exact ⟨t, o, G, G2, rfl, hf, rfl⟩
    · rw [hf] at h
      simp [aft] at h
  · simp [p_bind] at h
theorem pb_c {t o : Nat} {G : List ND} {f g : Nat → Nat → PX} (h : f t o = g t o) : p_bind (.inl (t, o, G)) f = p_bind (.inl (t, o, G)) g := by rw [p_bind_aft, p_bind_aft, h]
theorem p_names_s (m0 : yM) (n t o : Nat) : p_names m0 (n + 1) t o = if m0.1 9 t = 172 then p_bind (p_bind (p_step m0 t o) (fun t o => p_leaf m0 64 6 (m0.1 11 t) (t + 1) t o)) (p_names m0 n) else .inl (t, o, []) := rfl
theorem pb_u {X : PX} {f : Nat → Nat → PX} (h : ∀ t o G, X = .inl (t, o, G) → f t o = .inl (t, o, [])) : p_bind X f = X := by
  rcases X with ⟨t, o, G⟩ | e
  · rw [p_bind_aft, h t o G rfl]
    simp [aft]
  · rfl
/-- a declaration's further names -/
theorem c299n (xs : List Int32) (d : Nat) {E : EV} (hE : EOk E) {z a : Nat} {q : NQ} {Rs : List (List Int32)} {m0 : yM} {l : Int32} (hl : l = nI (min a 19999)) (Q : Option Value → yM → Prop) : ∀ (n : Nat) (X : PX) (m : yM), tn n X → PS E z a q Rs m0 X m → (∀ m', PS E z a q Rs m0 (p_bind (p_bind X (p_names E.1 n)) (p_at E.1)) m' → yP (xg xs) (d + 9) 299 127 [(0, .ref 58), (1, .int l)] [] m' Q) → yP (xg xs) (d + 9) 299 34 [(0, .ref 58), (1, .int l)] [] m Q := by
  have out : ∀ (X : PX) (m : yM), PS E z a q Rs m0 X m → (∀ m', PS E z a q Rs m0 (p_bind X (p_at E.1)) m' → yP (xg xs) (d + 9) 299 127 [(0, .ref 58), (1, .int l)] [] m' Q) → yC (xg xs) (d + 8) 290 [.ref 58, .int (10 : Int32)] m (fun v2 m2 => ∃ u2, v2 = some (Value.int u2) ∧ ((u2 = 0 → yP (xg xs) (d + 8 + 1) 299 127 [(0, .ref 58), (1, .int l)] [] m2 Q) ∧ (¬ u2 = 0 → (yC (xg xs) (d + 8) 272 [.ref 58] m2 (fun v3 m3 => v3 = none ∧ (yC (xg xs) (d + 8) 293 [.ref 58, .int (4 : Int32)] m3 (fun v4 m4 => ∃ u4, v4 = some (Value.int u4) ∧ (yC (xg xs) (d + 8) 291 [.ref 58, .int u4] m4 (fun v5 m5 => v5 = none ∧ (yC (xg xs) (d + 8) 271 [.ref 58, .int (7 : Int32), .int (m5.1 58 8), .int (m5.1 58 7)] m5 (fun v6 m6 => ∃ u6, v6 = some (Value.int u6) ∧ (yC (xg xs) (d + 8) 297 [.ref 58, .int l, .int u6] m6 (fun v7 m7 => v7 = none ∧ (yC (xg xs) (d + 8) 272 [.ref 58] m7 (fun v8 m8 => v8 = none ∧ yP (xg xs) (d + 8 + 1) 299 127 [(0, .ref 58), (1, .int l)] [] m8 Q))))))))))))))) := by
    intro X m h K
    refine h.isW (by omega) 10 (by decide) ⟨fun u => ?_, fun u => ?_⟩
    · refine K m ?_
      rw [show p_bind X (p_at E.1) = X from ?_]
      · exact h
      · have u2 := tkx_n u
        rcases X with ⟨t, o, G⟩ | e
        · rw [p_bind_aft]
          unfold p_at
          rw [if_neg (u2 t o G rfl)]
          simp [aft]
        · rfl
    · obtain ⟨t, o, G, rfl, k10⟩ := tkx_y u
      refine h.next (by omega) hE (fun t' o' G' e => ?_) (fun m3 p => ?_)
      · simp only [Sum.inl.injEq, Prod.mk.injEq] at e
        rw [← e.1, k10]
        decide
      refine PS.leaf (by omega) hE p hl 4 66 (by decide) 7 (fun t o => p_leaf E.1 66 7 (E.1.1 11 t) 0 t o) (fun _ _ => rfl) (fun m' p => K m' ?_)
      rw [p_bind_a] at p
      rw [p_bind_aft] at p ⊢
      unfold p_at
      rw [if_pos k10]
      exact p
  intro n
  induction n with
  | zero =>
    intro X m ht h K
    refine w299_34 xs (d + 8) _ m _ (h.isS (by omega) 44 172 (by decide) ⟨fun u => ?_, fun u => ?_⟩)
    · refine out X m h (fun m' p => K m' ?_)
      rw [show p_bind X (p_names E.1 0) = X from ?_]
      · exact p
      · exact p_bind_0 X
    · obtain ⟨t, o, G, rfl, k⟩ := tkx_y u
      obtain ⟨R, _, hR, _⟩ := h
      have := tn.end hE hR (ht t o G rfl) rfl
      rw [k] at this
      exact absurd this (by decide)
  | succ n ih =>
    intro X m ht h K
    refine w299_34 xs (d + 8) _ m _ (h.isS (by omega) 44 172 (by decide) ⟨fun u => ?_, fun u => ?_⟩)
    · refine out X m h (fun m' p => K m' ?_)
      rw [show p_bind X (p_names E.1 (n + 1)) = X from ?_]
      · exact p
      · have u2 := tkx_n u
        rcases X with ⟨t, o, G⟩ | e
        · rw [p_bind_aft, p_names_s, if_neg (u2 t o G rfl)]
          simp [aft]
        · rfl
    · obtain ⟨t, o, G, rfl, k⟩ := tkx_y u
      refine h.next (by omega) hE (fun t' o' G' e => ?_) (fun m1 p => ?_)
      · simp only [Sum.inl.injEq, Prod.mk.injEq] at e
        rw [← e.1, k]
        decide
      refine PS.leaf (by omega) hE p hl 2 64 (by decide) 6 (fun t o => p_leaf E.1 64 6 (E.1.1 11 t) (t + 1) t o) (fun _ _ => rfl) (fun m2 p => ?_)
      refine ih _ m2 ?_ p (fun m' p => K m' ?_)
      · intro t' o' G' e
        obtain ⟨t1, o1, G1, _, e1, e2, _⟩ := p_bind_il e
        have a2 := (p_leaf_o e2).1
        obtain ⟨t0, o0, G0, _, e3, e4, _⟩ := p_bind_il e1
        simp only [Sum.inl.injEq, Prod.mk.injEq] at e3
        have a4 := (p_step_o e4).1
        have := ht t o G rfl
        omega
      · rw [show p_bind (.inl (t, o, G)) (p_names E.1 (n + 1)) = p_bind (p_bind (p_bind (.inl (t, o, G)) (p_step E.1)) (fun t o => p_leaf E.1 64 6 (E.1.1 11 t) (t + 1) t o)) (p_names E.1 n) from ?_]
        · exact p
        · rw [p_bind_a, p_bind_a]
          exact pb_c (by rw [p_names_s, if_pos k, p_bind_a])
theorem c299 (xs : List Int32) (d : Nat) {E : EV} (hE : EOk E) {t o z : Nat} {Rs : List (List Int32)} {m : yM} (h : RRo E t o (min z 19999) Rs m) (k64 : E.1.1 9 t = 64) : yC (xg xs) (d + 9) 299 [.ref 58] m (RM E z Rs m (p_decl E.1 t o)) := by
  unfold p_decl
  refine w299_0 xs (d + 8) m _ ?_
  refine PS.mk (by omega) h (5, E.1.1 10 t, 0, 0) rfl h.pl ⟨fun _ => rfl, fun y => absurd rfl y⟩ (fun m1 p => ?_)
  refine PS.leaf0 (by omega) hE p rfl 64 6 k64 (by omega) (fun t o => p_leaf E.1 64 6 (E.1.1 11 t) (t + 1) t o) (fun _ _ => rfl) (fun m2 p => ?_)
  rw [p_bind_n] at p
  refine c299n xs d hE rfl _ 8192 _ m2 (fun _ _ _ _ => by omega) p (fun m3 p => ?_)
  refine w299_127 xs (d + 8) _ m3 _ ?_
  refine p.sign (by omega) hE 58 186 (by decide) (fun m4 p => ?_)
  refine PS.cadd (by omega) p (po_t _ (p_type E.1)) rfl (fun t o G Rs' Y _ hY hR => by rw [← Option.some.inj hY]; exact c300 xs d hE hR) (fun c f he => c300x xs d he) (fun m5 p => ?_)
  have last : ∀ m5, PS E z z (5, E.1.1 10 t, 0, 0) Rs m (p_bind (p_bind (p_bind (p_bind (p_bind (p_leaf E.1 64 6 (E.1.1 11 t) (t + 1) t o) (p_names E.1 8192)) (p_at E.1)) (p_exp E.1 186)) (p_type E.1)) (p_init E.1)) m5 → yP (xg xs) (d + 8 + 1) 299 163 [(0, .ref 58), (1, .int (nI (min z 19999)))] [] m5 (RM E z Rs m (p_node 5 (E.1.1 10 t) 0 0 (p_bind (p_bind (p_bind (p_bind (p_bind (p_bind (p_leaf E.1 64 6 (E.1.1 11 t) (t + 1) t o) (p_names E.1 8192)) (p_at E.1)) (p_exp E.1 186)) (p_type E.1)) (p_init E.1)) (p_exp E.1 187)))) := by
    intro m5 p
    refine w299_163 xs (d + 8) _ m5 _ ?_
    exact p.sign (by omega) hE 59 187 (by decide) (fun m4 p => PS.fin p rfl)
  refine p.isS (by omega) 1 70 (by decide) ⟨fun u => last m5 ?_, fun u => ?_⟩
  · rw [pb_u (f := p_init E.1) (fun t o G e => by unfold p_init; rw [if_neg (tkx_n u t o G e)])]
    exact p
  · obtain ⟨t1, o1, G1, e1, k70⟩ := tkx_y u
    refine p.next (by omega) hE (fun t' o' G' e => ?_) (fun m6 p => ?_)
    · rw [e1] at e
      simp only [Sum.inl.injEq, Prod.mk.injEq] at e
      rw [← e.1, k70]
      decide
    refine PS.cadd (by omega) p (po_t _ (p_const E.1)) rfl (fun t o G Rs' Y _ hY hR => by rw [← Option.some.inj hY]; exact yC.mono (by omega) (fun _ _ q => q) (c301 xs d hE hR)) (fun c f he => yC.mono (by omega) (fun _ _ q => q) (c301x xs d he)) (fun m7 p => last m7 ?_)
    rw [p_bind_a, e1] at p
    rw [e1, pb_c (f := p_init E.1) (g := fun t o => p_bind (p_step E.1 t o) (p_const E.1)) (by unfold p_init; rw [if_pos k70])]
    exact p
theorem p_decls_s (m0 : yM) (n t o : Nat) : p_decls m0 (n + 1) t o = if m0.1 9 t = 64 then p_bind (p_decl m0 t o) (p_decls m0 n) else .inl (t, o, []) := rfl
theorem c298n (xs : List Int32) (d : Nat) {E : EV} (hE : EOk E) {z a : Nat} {q : NQ} {Rs : List (List Int32)} {m0 : yM} {l : Int32} (hl : l = nI (min a 19999)) (Q : Option Value → yM → Prop) : ∀ (n : Nat) (X : PX) (m : yM), tn n X → PS E z a q Rs m0 X m → (∀ m', PS E z a q Rs m0 (p_bind (p_bind X (p_decls E.1 n)) (p_exp E.1 9)) m' → Q (some (.int l)) m') → yP (xg xs) (d + 10) 298 21 [(0, .ref 58), (1, .int l)] [] m Q := by
  intro n
  induction n with
  | zero =>
    intro X m ht h K
    refine w298_21 xs (d + 9) _ m _ (h.isK (by omega) 2 64 64 (by decide) ⟨fun u => ?_, fun u => ?_⟩)
    · refine h.word (by omega) hE 9 (by decide) (fun m' p => K m' ?_)
      rw [show p_bind X (p_decls E.1 0) = X from p_bind_0 X]
      exact p
    · obtain ⟨t, o, G, rfl, k⟩ := tkx_y u
      obtain ⟨R, _, hR, _⟩ := h
      have := tn.end hE hR (ht t o G rfl) rfl
      rw [k] at this
      exact absurd this (by decide)
  | succ n ih =>
    intro X m ht h K
    refine w298_21 xs (d + 9) _ m _ (h.isK (by omega) 2 64 64 (by decide) ⟨fun u => ?_, fun u => ?_⟩)
    · refine h.word (by omega) hE 9 (by decide) (fun m' p => K m' ?_)
      rw [pb_u (f := p_decls E.1 (n + 1)) (fun t o G e => by rw [p_decls_s, if_neg (tkx_n u t o G e)])]
      exact p
    · obtain ⟨t, o, G, rfl, k⟩ := tkx_y u
      refine PS.cadd (by omega) h (po_t _ (p_decl E.1)) hl (fun t1 o1 G1 Rs' Y e hY hR => ?_) (fun c f he => ?_) (fun m1 p => ?_)
      · simp only [Sum.inl.injEq, Prod.mk.injEq] at e
        obtain ⟨rfl, rfl, rfl⟩ := e
        rw [← Option.some.inj hY]
        exact c299 xs d hE hR k
      · obtain ⟨R, _, hR, _⟩ := h
        exact absurd hR.f0 he.ne
      · refine ih _ m1 ?_ p (fun m' p => K m' ?_)
        · intro t' o' G' e
          obtain ⟨t1, o1, G1, _, e1, e2, _⟩ := p_bind_il e
          simp only [Sum.inl.injEq, Prod.mk.injEq] at e1
          obtain ⟨rfl, rfl, rfl⟩ := e1
          obtain ⟨R, _, hR, _⟩ := h
          have := mv.decl (o := o) hE.1 hR.2.2.2.2.2.1 t' o' _ e2
          have := ht t o G rfl
          omega
        · rw [pb_c (f := p_decls E.1 (n + 1)) (g := fun t o => p_bind (p_decl E.1 t o) (p_decls E.1 n)) (by rw [p_decls_s, if_pos k]), ← p_bind_a]
          exact p
theorem c298 (xs : List Int32) (d : Nat) {E : EV} (hE : EOk E) {t o z : Nat} {Rs : List (List Int32)} {m : yM} (h : RRo E t o (min z 19999) Rs m) {w : Nat} (hw : w < 41) (kw : E.1.1 9 t = nI w) : yC (xg xs) (d + 10) 298 [.ref 58] m (RM E z Rs m (p_sect E.1 t o)) := by
  unfold p_sect
  refine w298_0 xs (d + 9) m _ ?_
  refine PS.mk (by omega) h (4, E.1.1 10 t, E.1.1 9 t - 6, 0) rfl h.pl ⟨fun _ => by rw [(h.vw hw kw).2, kw], fun y => absurd rfl y⟩ (fun m1 p => ?_)
  refine p.next (by omega) hE (fun t' o' G' e => ?_) (fun m2 p => ?_)
  · simp only [Sum.inl.injEq, Prod.mk.injEq] at e
    rw [← e.1, kw]
    exact fun u => absurd ((nI_eq (a := w) (b := 67) (by omega) (by decide)).mp u) (by omega)
  rw [p_bind_n] at p
  exact c298n xs d hE rfl _ 8192 _ m2 (fun _ _ _ _ => by omega) p (fun m3 p => PS.fin p rfl)
