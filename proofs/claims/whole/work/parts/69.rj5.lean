/-! THE REFERENCE'S READER: elements, operands, whole expressions -/
theorem c308x (xs : List Int32) (d : Nat) {E : EV} {c f : Int32} {z : Nat} {Rs : List (List Int32)} {m m0 : yM} (h : RRe E c f m) : yC (xg xs) (d + 17) 308 [.ref 58] m (RM E z Rs m0 (.inr (c, f))) := by
  refine w308_0 xs (d + 16) m _ ?_
  refine yC.mono (Nat.le_refl _) (fun r m1 q => ?_) (c309x xs d 7 0 z Rs m m0 rfl h)
  obtain ⟨id, i1, i2, i3⟩ := q
  exact ⟨nI id, i2, id, i1, rfl, RRe.si i3 (by omega)⟩
theorem c308 (xs : List Int32) (d : Nat) {E : EV} {N : Nat} (hL : okL xs d E N) {t o z : Nat} {Rs : List (List Int32)} {m : yM} {r : PX} (h : exO E.1 N t o = some r) (hR : RRo E t o (min z 19999) Rs m) : yC (xg xs) (d + dR o + 9) 308 [.ref 58] m (RM E z Rs m r) := by
  unfold exO at h
  rcases hr : pR E.1 N 1 0 0 [] t o with _ | y
  · rw [hr] at h; cases h
  · rw [hr] at h
    have h : rst o y = r := Option.some.inj h
    refine w308_0 xs (d + dR o + 8) m _ ?_
    refine yC.mono (Nat.le_refl _) (fun v m1 q => ?_) (hL 7 0 t o z Rs m y rfl hr hR)
    obtain ⟨id, i1, i2, i3⟩ := q
    refine ⟨nI id, i2, id, i1, rfl, ?_⟩
    rw [← h, show m.1 58 22 = nI o from hR.2.2.2.2.2.2.2.2.2.2.2.1]
    exact GS.rst i3 hR.o60
/-- behind an element's index -/
theorem pz_e {X' r : PX} {m0 : yM} {k : Int32} (e : po (some X') (fun t o => po (some (p_exp m0 k t o)) pdec) = some r) : r = p_bind (p_bind X' (p_exp m0 k)) ddec := by
  rw [show (fun t o => po (some (p_exp m0 k t o)) pdec) = (fun t o => some (p_bind (p_exp m0 k t o) ddec)) from by funext t o; rw [pdec_t, po_t], po_t] at e
  rw [p_bind_a]
  exact (Option.some.inj e).symm
theorem c311 (xs : List Int32) (d : Nat) {E : EV} (hE : EOk E) (D : Nat) {t o z : Nat} {Rs : List (List Int32)} {m : yM} (hD : 26 ≤ D) (h : RRo E t o (min z 19999) Rs m) (k219 : E.1.1 9 t = 219) (nq : NQ) (hk : nq.1 = 32) {f n l3 : Int32} (hp : f = nq.2.1) (hv : nvO E Rs nq n) {g : Nat → Nat → Option PX} (hg : ∀ t1 o1 t' o' G, g t1 o1 = some (.inl (t', o', G)) → 1 ≤ o1 → 1 ≤ o') (ho : ∀ t1 o1 z R m r, o < 60 → o1 = o + 1 → g t1 o1 = some r → RRo E t1 o1 (min z 19999) R m → if l3 = 0 then yC (xg xs) D 309 [.ref 58, .int 0] m (RM E z R m r) else yC (xg xs) D 308 [.ref 58] m (RM E z R m r)) {y : PX} (e : po (some (p_into E.1 t o)) (fun t o => po (g t o) (fun t o => po (some (p_exp E.1 221 t o)) pdec)) = some y) : yC (xg xs) (D + 1) 311 [.ref 58, .int f, .int n, .int l3] m (RM E z Rs m (p_node nq.1 nq.2.1 nq.2.2.1 nq.2.2.2 y)) := by
  refine w311_0 xs D _ _ _ m _ ?_
  refine PS.mk (by omega) h nq hk.symm hp hv (fun m1 p => ?_)
  refine GS.opens (by omega) p (fun m2 p => ?_)
  rw [p_bind_n] at p
  refine GS.next (by omega) hE p (fun t' o' G' e3 => ?_) (fun m3 p => ?_)
  · have : t' = t := by
      unfold p_opn at e3
      split at e3
      · simp only [Sum.inl.injEq, Prod.mk.injEq] at e3; exact e3.1.symm
      · simp [p_ref] at e3
    rw [this, k219]
    decide
  rw [← p_into_b] at p
  rw [← po_a] at e
  obtain ⟨X', e1⟩ := po_ex e
  rw [e1] at e
  have ey := pz_e e
  have lbZ : ∀ t' o' G', p_bind X' (p_exp E.1 221) = .inl (t', o', G') → 1 ≤ o' := by
    intro t' o' G' u
    obtain ⟨t2, o2, G2, _, f1, f2, _⟩ := p_bind_il u
    rw [f1] at e1
    obtain ⟨t1, o1, _, _, g1, g2, -⟩ := po_some e1
    have a1 := p_into_o (Option.some.inj g1)
    have a2 := hg _ _ _ _ _ g2 (by omega)
    have a3 := p_exp_o f2
    omega
  have tail : ∀ m4, PS E z z nq Rs m X' m4 → yC (xg xs) D 294 [.ref 58, .int (93 : Int32)] m4 (fun v2 m2 => v2 = none ∧ RM E z Rs m (p_node nq.1 nq.2.1 nq.2.2.1 nq.2.2.2 y) (some (.int (nI (min z 19999)))) (y_si m2 58 22 ((m2.1 58 22) - (1 : Int32)))) := by
    intro m4 p
    refine GS.sign (by omega) hE p 93 221 (by decide) (fun m5 p => ?_)
    rw [ey]
    exact PS.fin (GS.dec p lbZ) rfl
  refine ⟨fun u => ?_, fun u => ?_⟩
  · refine yC.mono (Nat.le_refl _) (fun r m4 q => ?_) (PS.cadd (by omega) p e1 rfl (fun t' o' G' Rs' Y' e3 e2 hR => ?_) (fun c f he => yC.mono (by omega) (fun _ _ q => q) (c309x xs 0 7 0 _ _ _ _ rfl he)) tail)
    · obtain ⟨u4, q1, q2⟩ := q
      exact ⟨u4, q1, w311_37 xs D _ _ _ m4 _ q2⟩
    · have ai := p_into_o e3
      have := ho t' o' _ _ _ _ ai.2.2.2 ai.2.1 e2 hR
      rw [if_pos u] at this
      exact this
  · refine yC.mono (Nat.le_refl _) (fun r m4 q => ?_) (PS.cadd (by omega) p e1 rfl (fun t' o' G' Rs' Y' e3 e2 hR => ?_) (fun c f he => yC.mono (by omega) (fun _ _ q => q) (c308x xs 0 he)) tail)
    · obtain ⟨u4, q1, q2⟩ := q
      exact ⟨u4, q1, w311_37 xs D _ _ _ m4 _ q2⟩
    · have ai := p_into_o e3
      have := ho t' o' _ _ _ _ ai.2.2.2 ai.2.1 e2 hR
      rw [if_neg u] at this
      exact this
theorem pR0 (m0 : yM) (N : Nat) (c : Int32) (q : Nat) (L : List ND) (t o : Nat) : pR m0 (N + 1) 0 c q L t o = if m0.1 9 t = 34 ∨ m0.1 9 t = 173 then pnode 36 (m0.1 10 t) (if m0.1 9 t = 34 then 1 else 0) 0 (po (some (p_into m0 t o)) (fun t o => po (pR m0 N 0 0 0 [] t o) pdec))
    else if m0.1 9 t = 168 then po (some (p_into m0 t o)) (fun t o => po (pR m0 N 1 0 0 [] t o) (fun t o => po (some (p_exp m0 169 t o)) pdec))
    else if m0.1 9 t = 65 then some (p_leaf m0 65 30 (m0.1 11 t) 0 t o)
    else if m0.1 9 t = 35 then some (p_leaf m0 35 31 1 0 t o)
    else if m0.1 9 t = 36 then some (p_leaf m0 36 31 0 0 t o)
    else if m0.1 9 t = 64 then pNm m0 (pR m0 N) t o
    else some (p_ref m0 6 t) := rfl
/-- a name, and what stands behind it -/
theorem stepNm (xs : List Int32) (d : Nat) {E : EV} (hE : EOk E) (K D : Nat) (hL : ∀ M, M < K + 1 → okL xs d E M) {t o z : Nat} {Rs : List (List Int32)} {m : yM} {r : PX} (hD : d + dR o ≤ D + 1) (hR : RRo E t o (min z 19999) Rs m) (k64 : E.1.1 9 t = 64) (e : pNm E.1 (pR E.1 K) t o = some r) (m9 : yM) (q9 : RZ E (min z 19999) Rs m (p_step E.1 t o) m9) : yC (xg xs) D 295 [.ref 58, .int (91 : Int32)] m9 (fun v10 m10 => ∃ u10, v10 = some (Value.int u10) ∧ ((u10 = 0 → (yC (xg xs) D 295 [.ref 58, .int (46 : Int32)] m10 (fun v11 m11 => ∃ u11, v11 = some (Value.int u11) ∧ ((u11 = 0 → (yC (xg xs) D 295 [.ref 58, .int (40 : Int32)] m11 (fun v12 m12 => ∃ u12, v12 = some (Value.int u12) ∧ ((u12 = 0 → (yC (xg xs) D 271 [.ref 58, .int (6 : Int32), .int (m.1 58 8), .int (m.1 58 7)] m12 (fun v13 m13 => ∃ u13, v13 = some (Value.int u13) ∧ RM E z Rs m r (some (.int u13)) m13))) ∧ (¬ u12 = 0 → (yC (xg xs) D 312 [.ref 58, .int (m.1 58 8), .int (m.1 58 7)] m12 (fun v14 m14 => ∃ u14, v14 = some (Value.int u14) ∧ RM E z Rs m r (some (.int u14)) m14))))))) ∧ (¬ u11 = 0 → (yC (xg xs) D 271 [.ref 58, .int (33 : Int32), .int (m.1 58 8), .int (m.1 58 7)] m11 (fun v15 m15 => ∃ u15, v15 = some (Value.int u15) ∧ (yC (xg xs) D 272 [.ref 58] m15 (fun v16 m16 => v16 = none ∧ (yC (xg xs) D 293 [.ref 58, .int (2 : Int32)] m16 (fun v17 m17 => ∃ u17, v17 = some (Value.int u17) ∧ (yC (xg xs) D 291 [.ref 58, .int u17] m17 (fun v18 m18 => v18 = none ∧ (yC (xg xs) D 271 [.ref 58, .int (6 : Int32), .int (m18.1 58 8), .int (m18.1 58 7)] m18 (fun v19 m19 => ∃ u19, v19 = some (Value.int u19) ∧ (yC (xg xs) D 297 [.ref 58, .int u15, .int u19] m19 (fun v20 m20 => v20 = none ∧ (yC (xg xs) D 272 [.ref 58] m20 (fun v21 m21 => v21 = none ∧ RM E z Rs m r (some (.int u15)) m21))))))))))))))))))) ∧ (¬ u10 = 0 → (yC (xg xs) D 311 [.ref 58, .int (m.1 58 8), .int (m.1 58 7), .int (0 : Int32)] m10 (fun v22 m22 => ∃ u22, v22 = some (Value.int u22) ∧ RM E z Rs m r (some (.int u22)) m22))))) := by
  have hb := dR_26 o
  have pl := hR.pl
  have vn := hR.vn k64
  unfold pNm at e
  rcases hs : p_step E.1 t o with ⟨t1, o1, G1⟩ | ⟨c, f⟩
  · rw [hs] at q9
    have so := p_step_o hs
    obtain ⟨rfl, f9, R9, p9, h9⟩ := q9
    obtain ⟨rfl, rfl, -⟩ := so
    have vn9 := vn.mono p9
    have nv9 : ∀ kd : Int32, nvO E R9 (kd, E.1.1 10 t, E.1.1 11 t, t + 1) (m.1 58 7) := fun kd => ⟨fun y => absurd y (by simp), fun _ => vn9⟩
    refine y_ci (c295 xs (D - 1) h9 91 (by decide)) (by omega) ⟨fun u => ?_, fun u => ?_⟩
    · have n219 : ¬ E.1.1 9 (t + 1) = 219 := if0 u
      refine y_ci (c295 xs (D - 1) h9 46 (by decide)) (by omega) ⟨fun v => ?_, fun v => ?_⟩
      · have n174 : ¬ E.1.1 9 (t + 1) = 174 := if0 v
        refine y_ci (c295 xs (D - 1) h9 40 (by decide)) (by omega) ⟨fun w => ?_, fun w => ?_⟩
        · have n168 : ¬ E.1.1 9 (t + 1) = 168 := if0 w
          rw [if_neg n168, if_neg n174, if_neg n219, hs] at e
          refine PS.mk (by omega) h9 (6, E.1.1 10 t, E.1.1 11 t, t + 1) rfl pl (nv9 6) (fun m13 p => ?_)
          rw [← Option.some.inj e]
          exact (PS.fin p rfl).pre p9 f9
        · have k168 : E.1.1 9 (t + 1) = 168 := if1 w
          rw [if_pos k168, hs, po_inl] at e
          obtain ⟨y, e1, rfl⟩ := pnode_ex e
          obtain ⟨D', rfl⟩ : ∃ D', D = D' + 1 := ⟨D - 1, by omega⟩
          refine y_rm (yC.mono (Nat.le_refl _) (fun _ _ q => RM.pre q p9 f9) (c312 xs d hE K D' (fun M hM => hL M (by omega)) (by omega) h9 k168 (34, E.1.1 10 t, E.1.1 11 t, t + 1) rfl pl (nv9 34) e1)) (Nat.le_refl _)
      · have k174 : E.1.1 9 (t + 1) = 174 := if1 v
        rw [if_neg (by rw [k174]; decide), if_pos k174, hs, po_inl] at e
        obtain ⟨y, e1, rfl⟩ := pnode_ex e
        refine PS.mk (by omega) h9 (33, E.1.1 10 t, E.1.1 11 t, t + 1) rfl pl (nv9 33) (fun m13 p => ?_)
        refine GS.next (by omega) hE p (fun t' o' G' e3 => ?_) (fun m16 p => ?_)
        · simp only [Sum.inl.injEq, Prod.mk.injEq] at e3
          rw [← e3.1, k174]
          decide
        rw [p_bind_n] at p
        refine PS.leaf (by omega) hE p rfl 2 64 (by decide) 6 (fun t o => p_leaf E.1 64 6 (E.1.1 11 t) (t + 1) t o) (fun _ _ => rfl) (fun m2 p => ?_)
        rw [po_t] at e1
        rw [← Option.some.inj e1]
        exact (PS.fin p rfl).pre p9 f9
    · have k219 : E.1.1 9 (t + 1) = 219 := if1 u
      rw [if_neg (by rw [k219]; decide), if_neg (by rw [k219]; decide), if_pos k219, hs, po_inl] at e
      obtain ⟨y, e1, rfl⟩ := pnode_ex e
      obtain ⟨D', rfl⟩ : ∃ D', D = D' + 1 := ⟨D - 1, by omega⟩
      have o60 := hR.o60
      refine y_rm (yC.mono (Nat.le_refl _) (fun _ _ q => RM.pre q p9 f9) ?_) (Nat.le_refl _)
      refine c311 xs d hE D' (by omega) h9 k219 (32, E.1.1 10 t, E.1.1 11 t, t + 1) rfl pl (nv9 32) (g := fun t o => pR E.1 K 1 0 0 [] t o) (fun t1 o1 t' o' G e2 h1 => ?_) (fun t1 o1 z R m r o6 e0 e2 hR => ?_) e1
      · have := moR E.1 K _ _ _ _ _ _ _ _ _ e2
        omega
      · rw [if_pos rfl]
        refine yC.mono ?_ (fun _ _ q => q) (hL K (by omega) 7 0 t1 o1 z R m r rfl e2 hR)
        have := dR_s o6
        rw [e0]
        omega
  · rw [hs] at q9
    have q9 : RRe E c f m9 := q9
    have k68 : E.1.1 9 (t + 1) = 68 := by
      unfold p_step at hs
      by_cases y : E.1.1 9 (t + 1) = 68
      · exact y
      · rw [if_neg y] at hs; cases hs
    rw [if_neg (by rw [k68]; decide), if_neg (by rw [k68]; decide), if_neg (by rw [k68]; decide), hs] at e
    refine y_ci (c295x xs (D - 1) q9 _) (by omega) ⟨fun _ => ?_, fun u => absurd rfl u⟩
    refine y_ci (c295x xs (D - 1) q9 _) (by omega) ⟨fun _ => ?_, fun u => absurd rfl u⟩
    refine y_ci (c295x xs (D - 1) q9 _) (by omega) ⟨fun _ => ?_, fun u => absurd rfl u⟩
    rw [← Option.some.inj e]
    exact RRe.mk (by omega) q9 (fun id m2 hid h2 => ⟨id, hid, rfl, h2⟩)
theorem stepO (xs : List Int32) (d : Nat) {E : EV} (hE : EOk E) (K : Nat) (hO : okO xs d E K) (hL : ∀ M, M < K + 1 → okL xs d E M) : okO xs d E (K + 1) := by
  intro t o z Rs m r e hR
  have hb := dR_26 o
  obtain ⟨D, hD⟩ : ∃ D, d + dR o = D + 1 := ⟨d + dR o - 1, by omega⟩
  rw [hD]
  rw [pR0] at e
  have pl := hR.pl
  -- NOT and minus
  have un : E.1.1 9 t = 34 ∨ E.1.1 9 t = 173 → yP (xg xs) (D + 1) 310 23 [(0, .ref 58), (1, .int (m.1 58 8))] [] m (RM E z Rs m r) := by
    intro k
    rw [if_pos k] at e
    obtain ⟨y, e1, rfl⟩ := pnode_ex e
    rw [← po_a] at e1
    obtain ⟨X', e2⟩ := po_ex e1
    rw [e2, pdec_t, po_t] at e1
    have ey := Option.some.inj e1
    have h67 : ¬ E.1.1 9 t = 67 := by rcases k with k | k <;> rw [k] <;> decide
    have lbX : ∀ t' o' G', X' = .inl (t', o', G') → 1 ≤ o' := by
      intro t' o' G' u
      rw [u] at e2
      obtain ⟨t1, o1, _, _, g1, g2, -⟩ := po_some e2
      have a1 := p_into_o (Option.some.inj g1)
      have a2 := moR E.1 K _ _ _ _ _ _ _ _ _ g2
      omega
    have go : ∀ b : Int32, b = (if E.1.1 9 t = 34 then 1 else 0) → yP (xg xs) (D + 1) 310 41 [(0, .ref 58)] [.int b, .int (m.1 58 8), .int (36 : Int32), .ref 58] m (RM E z Rs m (p_node 36 (E.1.1 10 t) (if E.1.1 9 t = 34 then 1 else 0) 0 y)) := by
      intro b hb'
      refine w310_41 xs D _ _ _ m _ ?_
      refine PS.mk (by omega) hR (36, E.1.1 10 t, if E.1.1 9 t = 34 then 1 else 0, 0) rfl pl ⟨fun _ => hb', fun y => absurd rfl y⟩ (fun m1 p => ?_)
      refine GS.opens (by omega) p (fun m2 p => ?_)
      rw [p_bind_n] at p
      refine GS.next (by omega) hE p (fun t' o' G' e3 => ?_) (fun m3 p => ?_)
      · have : t' = t := by
          unfold p_opn at e3
          split at e3
          · simp only [Sum.inl.injEq, Prod.mk.injEq] at e3; exact e3.1.symm
          · simp [p_ref] at e3
        rw [this]
        exact h67
      rw [← p_into_b] at p
      refine PS.cadd (by omega) p e2 rfl (fun t' o' G' Rs' Y' e3 e4 hR' => ?_) (fun c f he => yC.mono (by omega) (fun _ _ q => q) (c310x xs 0 he)) (fun m4 p => ?_)
      · have ai := p_into_o e3
        refine yC.mono ?_ (fun _ _ q => q) (hO t' o' _ _ _ _ e4 hR')
        have := dR_s ai.2.2.2
        rw [ai.2.1]
        omega
      · rw [← ey]
        exact PS.fin (GS.dec p lbX) rfl
    refine w310_23 xs D _ m _ (y_ci (c295 xs (D - 1) hR 45 (by decide)) (by omega) ⟨fun u => go 1 ?_, fun u => go 0 ?_⟩)
    · have n : ¬ E.1.1 9 t = 173 := if0 u
      rw [if_pos (k.resolve_right n)]
    · have k173 : E.1.1 9 t = 173 := if1 u
      rw [if_neg (by rw [k173]; decide)]
  -- constants
  have cn : (E.1.1 9 t = 65 ∨ E.1.1 9 t = 35 ∨ E.1.1 9 t = 36) → yP (xg xs) (D + 1) 310 141 [(0, .ref 58)] [] m (RM E z Rs m r) := by
    intro k
    have er : r = p_const E.1 t o := by
      unfold p_const
      rcases k with k | k | k
      · rw [if_neg (by rw [k]; decide), if_neg (by rw [k]; decide), if_pos k] at e
        rw [if_neg (by rw [k]; decide), if_pos k, ← Option.some.inj e]
        unfold p_leaf
        rw [if_pos k, Int32.one_mul]
      · rw [if_neg (by rw [k]; decide), if_neg (by rw [k]; decide), if_neg (by rw [k]; decide), if_pos k] at e
        rw [if_neg (by rw [k]; decide), if_neg (by rw [k]; decide), if_pos (Or.inl k), if_pos k, ← Option.some.inj e]
        unfold p_leaf
        rw [if_pos k]
      · rw [if_neg (by rw [k]; decide), if_neg (by rw [k]; decide), if_neg (by rw [k]; decide), if_neg (by rw [k]; decide), if_pos k] at e
        rw [if_neg (by rw [k]; decide), if_neg (by rw [k]; decide), if_pos (Or.inr k), if_neg (by rw [k]; decide), ← Option.some.inj e]
        unfold p_leaf
        rw [if_pos k]
    rw [er]
    exact w310_141 xs D m _ (y_rm (c301 xs 0 hE hR) (by omega))
  refine w310_0 xs D m _ (y_ci (c295 xs (D - 1) hR 45 (by decide)) (by omega) ⟨fun u => un (Or.inr (if1 u)), fun u => ?_⟩)
  have n173 : ¬ E.1.1 9 t = 173 := if0 u
  refine y_ci (c290 xs (D - 1) hR 34 (by decide)) (by omega) ⟨fun v => ?_, fun v => un (Or.inl (if1 v))⟩
  have n34 : ¬ E.1.1 9 t = 34 := if0 v
  rw [if_neg (fun y => y.elim n34 n173)] at e
  refine y_ci (c295 xs (D - 1) hR 40 (by decide)) (by omega) ⟨fun w => ?_, fun w => ?_⟩
  · have n168 : ¬ E.1.1 9 t = 168 := if0 w
    rw [if_neg n168] at e
    refine y_ci (c293 xs (D - 1) hR 3 65 (by decide)) (by omega) ⟨fun x => cn (Or.inl (if1 x)), fun x => ?_⟩
    have n65 : ¬ E.1.1 9 t = 65 := if0 x
    refine y_ci (c290 xs (D - 1) hR 35 (by decide)) (by omega) ⟨fun x => cn (Or.inr (Or.inl (if1 x))), fun x => ?_⟩
    have n35 : ¬ E.1.1 9 t = 35 := if0 x
    refine y_ci (c290 xs (D - 1) hR 36 (by decide)) (by omega) ⟨fun x => ?_, fun x => cn (Or.inr (Or.inr (if1 x)))⟩
    have n36 : ¬ E.1.1 9 t = 36 := if0 x
    rw [if_neg n65, if_neg n35, if_neg n36] at e
    refine y_ci (c293 xs (D - 1) hR 2 64 (by decide)) (by omega) ?_
    refine y_cv (c291 xs (D - 2) m _) (by omega) ?_
    by_cases k64 : E.1.1 9 t = 64
    · rw [if_pos (show E.1.1 9 t = nI 64 from k64), if_neg (by decide)]
      rw [if_pos k64] at e
      refine y_nx (c272r xs (D - 6) hE hR (by rw [k64]; decide)) (by omega) (fun m9 q9 => ?_)
      exact stepNm xs d hE K D hL (by omega) hR k64 e m9 q9
    · rw [if_neg (show ¬ E.1.1 9 t = nI 64 from k64), if_pos rfl]
      rw [if_neg k64] at e
      have h1 := hR.fail 6 (by decide)
      rw [← Option.some.inj e]
      refine y_nx (c272x xs (D - 6) h1) (by omega) (fun m9 q9 => ?_)
      refine y_ci (c295x xs (D - 1) q9 _) (by omega) ⟨fun _ => ?_, fun u => absurd rfl u⟩
      refine y_ci (c295x xs (D - 1) q9 _) (by omega) ⟨fun _ => ?_, fun u => absurd rfl u⟩
      refine y_ci (c295x xs (D - 1) q9 _) (by omega) ⟨fun _ => ?_, fun u => absurd rfl u⟩
      exact RRe.mk (by omega) q9 (fun id m2 hid h2 => ⟨id, hid, rfl, h2⟩)
  · have k168 : E.1.1 9 t = 168 := if1 w
    rw [if_pos k168] at e
    refine GS.opens (by omega) (US.mk hR) (fun m2 p => ?_)
    rw [p_bind_n] at p
    refine GS.next (by omega) hE p (fun t' o' G' e3 => ?_) (fun m3 p => ?_)
    · have : t' = t := by
        unfold p_opn at e3
        split at e3
        · simp only [Sum.inl.injEq, Prod.mk.injEq] at e3; exact e3.1.symm
        · simp [p_ref] at e3
      rw [this, k168]
      decide
    rw [← p_into_b] at p
    rw [← po_a] at e
    obtain ⟨X', e1⟩ := po_ex e
    rw [e1] at e
    have ey := pz_e e
    have lbZ : ∀ t' o' G', p_bind X' (p_exp E.1 169) = .inl (t', o', G') → 1 ≤ o' := by
      intro t' o' G' u
      obtain ⟨t2, o2, G2, _, f1, f2, _⟩ := p_bind_il u
      rw [f1] at e1
      obtain ⟨t1, o1, _, _, g1, g2, -⟩ := po_some e1
      have a1 := p_into_o (Option.some.inj g1)
      have a2 := moR E.1 K _ _ _ _ _ _ _ _ _ g2
      have a3 := p_exp_o f2
      omega
    refine US.call p (fun t' o' G' e3 => (p_into_o e3).2.2.1) e1 (fun t' o' Rs' Y' e3 e4 hR' => ?_) (fun c f he => yC.mono (by omega) (fun _ _ q => q) (c309x xs 0 7 0 _ _ _ _ rfl he)) (fun id m4 hid p => ?_)
    · have ai := p_into_o e3
      refine yC.mono ?_ (fun _ _ q => q) (hL K (by omega) 7 0 t' o' z Rs' m3 Y' rfl e4 hR')
      have := dR_s ai.2.2.2
      rw [ai.2.1]
      omega
    · refine GS.sign (by omega) hE p 41 169 (by decide) (fun m5 p => ?_)
      rw [ey]
      exact ⟨id, hid, rfl, GS.dec p lbZ⟩
theorem okX (xs : List Int32) (d : Nat) {E : EV} (hE : EOk E) : ∀ N, okO xs d E N ∧ ∀ M, M < N + 1 → okL xs d E M := by
  intro N
  induction N with
  | zero =>
    refine ⟨fun t o z Rs m r e => (by cases e), fun M hM => ?_⟩
    obtain rfl : M = 0 := by omega
    intro k c t o z Rs m r _ e
    cases e
  | succ N ih =>
    refine ⟨stepO xs d hE N ih.1 ih.2, fun M hM => ?_⟩
    by_cases y : M < N + 1
    · exact ih.2 M y
    · obtain rfl : M = N + 1 := by omega
      exact stepL xs d hE N ih.1 (fun M' h => ih.2 M' (by omega))
