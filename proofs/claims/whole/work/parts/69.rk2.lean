/-! THE REFERENCE'S READER: FOR, a statement, all of them -/
theorem stepFr' (xs : List Int32) (d : Nat) {E : EV} (hE : EOk E) (N n : Nat) (hB : kBd xs d E N n) : kCp xs d E N (n + 1) 7 316 23 := by
  intro t o z Rs m r k23 e0 hR
  have e : (match p_into E.1 t o with
    | .inr e => some (.inr e)
    | .inl (t1, o1, _) => pnode 19 (E.1.1 10 t) (E.1.1 11 t1) (t1 + 1) (po (po (po (some (p_bind (p_bind (p_bind (p_bind (p_bind (p_bind (p_exp E.1 64 t1 o1) (p_exp E.1 70)) (p_const E.1)) (p_exp E.1 24)) (p_const E.1)) (p_if E.1 25 (fun t o => p_bind (p_step E.1 t o) (p_const E.1)))) (p_exp E.1 26))) (pT E.1 N n 0 0)) (fun t o => some (p_exp E.1 27 t o))) pdec)) = some r := e0
  clear e0
  have hb := dR_26 o
  refine w316_0 xs (d + dR o + 17) m _ ?_
  refine PS.mk (by omega) hR (19, E.1.1 10 t, 0, 0) rfl hR.pl ⟨fun _ => rfl, fun y => absurd rfl y⟩ (fun m1 p => ?_)
  refine GS.opens (by omega) p (fun m2 p => ?_)
  rw [p_bind_n] at p
  refine GS.next (by omega) hE p (fun t' o' G' e3 => ?_) (fun m3 p => ?_)
  · have : t' = t := by
      unfold p_opn at e3
      split at e3
      · simp only [Sum.inl.injEq, Prod.mk.injEq] at e3; exact e3.1.symm
      · simp [p_ref] at e3
    rw [this, k23]
    decide
  rw [← p_into_b] at p
  refine GS.isK (by omega) p 2 64 64 (by decide) ?_
  refine GS.must (by omega) p 64 (fun m5 p => ?_)
  refine ⟨x_in_nI (by omega) (by decide), ?_⟩
  rw [nI_clamp (by omega)]
  -- from the name on
  have main : ∀ (q : NQ) (Y1 Y8 y : PX) (oe : Nat) (m6 : yM), q.1 = 19 → q.2.1 = E.1.1 10 t → opn oe Y1 → 1 ≤ oe → (∀ t' o' G', Y1 = .inl (t', o', G') → ¬ E.1.1 9 t' = 67) → (∀ t' o' G', Y1 = .inl (t', o', G') → d + dR oe + 20 ≤ d + dR o + 17) → PS E z z q Rs m Y1 m6 → po (some (p_bind (p_bind (p_bind (p_bind (p_bind (p_bind (p_bind Y1 (p_step E.1)) (p_exp E.1 70)) (p_const E.1)) (p_exp E.1 24)) (p_const E.1)) (p_if E.1 25 (fun t o => p_bind (p_step E.1 t o) (p_const E.1)))) (p_exp E.1 26))) (pT E.1 N n 0 0) = some Y8 → y = p_bind (p_bind Y8 (p_exp E.1 27)) ddec → r = p_node q.1 q.2.1 q.2.2.1 q.2.2.2 y → yC (xg xs) (d + dR o + 17) 272 [.ref 58] m6 (fun v6 m6 => v6 = none ∧ (yC (xg xs) (d + dR o + 17) 294 [.ref 58, .int (1 : Int32)] m6 (fun v7 m7 => v7 = none ∧ (yC (xg xs) (d + dR o + 17) 301 [.ref 58] m7 (fun v8 m8 => ∃ u8, v8 = some (Value.int u8) ∧ (yC (xg xs) (d + dR o + 17) 297 [.ref 58, .int (nI (min z 19999)), .int u8] m8 (fun v9 m9 => v9 = none ∧ (yC (xg xs) (d + dR o + 17) 302 [.ref 58, .int (24 : Int32)] m9 (fun v10 m10 => v10 = none ∧ (yC (xg xs) (d + dR o + 17) 301 [.ref 58] m10 (fun v11 m11 => ∃ u11, v11 = some (Value.int u11) ∧ (yC (xg xs) (d + dR o + 17) 297 [.ref 58, .int (nI (min z 19999)), .int u11] m11 (fun v12 m12 => v12 = none ∧ (yC (xg xs) (d + dR o + 17) 290 [.ref 58, .int (25 : Int32)] m12 (fun v13 m13 => ∃ u13, v13 = some (Value.int u13) ∧ ((u13 = 0 → yP (xg xs) (d + dR o + 17 + 1) 316 94 [(0, .ref 58), (1, .int (nI (min z 19999)))] [] m13 (RM E z Rs m r)) ∧ (¬ u13 = 0 → (yC (xg xs) (d + dR o + 17) 272 [.ref 58] m13 (fun v14 m14 => v14 = none ∧ (yC (xg xs) (d + dR o + 17) 301 [.ref 58] m14 (fun v15 m15 => ∃ u15, v15 = some (Value.int u15) ∧ (yC (xg xs) (d + dR o + 17) 297 [.ref 58, .int (nI (min z 19999)), .int u15] m15 (fun v16 m16 => v16 = none ∧ yP (xg xs) (d + dR o + 17 + 1) 316 94 [(0, .ref 58), (1, .int (nI (min z 19999)))] [] m16 (RM E z Rs m r)))))))))))))))))))))))) := by
    intro q Y1 Y8 y oe m6 q1 q2 iY ho1 h67 hDY p e8 ey er
    have pq : ∀ t o t' o' G, p_step E.1 t o = .inl (t', o', G) → o' = o := fun _ _ _ _ _ u => (p_step_o u).2.1
    have cq : ∀ t o t' o' G, p_const E.1 t o = .inl (t', o', G) → o' = o := fun _ _ _ _ _ u => p_const_o u
    have iq : ∀ t o t' o' G, p_if E.1 25 (fun t o => p_bind (p_step E.1 t o) (p_const E.1)) t o = .inl (t', o', G) → o' = o := by
      intro t o t' o' G u
      unfold p_if at u
      split at u
      · obtain ⟨t4, o4, G4, _, f6, f7, _⟩ := p_bind_il u
        have := p_step_o f6
        have := p_const_o f7
        omega
      · simp only [Sum.inl.injEq, Prod.mk.injEq] at u
        omega
    have j7 := ((((((iY.bind pq).bind (exq E.1 70)).bind cq).bind (exq E.1 24)).bind cq).bind iq).bind (exq E.1 26)
    have i8 : opn oe Y8 := j7.pk (fun _ _ _ _ _ u => eqT E.1 N n _ _ _ _ _ _ _ u) e8
    have i9 := i8.bind (exq E.1 27)
    have iL : ∀ t' o' G', p_bind (p_bind (p_bind (p_bind (p_bind (p_bind (p_bind Y1 (p_step E.1)) (p_exp E.1 70)) (p_const E.1)) (p_exp E.1 24)) (p_const E.1)) (p_if E.1 25 (fun t o => p_bind (p_step E.1 t o) (p_const E.1)))) (p_exp E.1 26) = .inl (t', o', G') → ∃ t1 o1 G1, Y1 = .inl (t1, o1, G1) := by
      intro t' o' G' u
      obtain ⟨_, _, _, _, u, _, _⟩ := p_bind_il u
      obtain ⟨_, _, _, _, u, _, _⟩ := p_bind_il u
      obtain ⟨_, _, _, _, u, _, _⟩ := p_bind_il u
      obtain ⟨_, _, _, _, u, _, _⟩ := p_bind_il u
      obtain ⟨_, _, _, _, u, _, _⟩ := p_bind_il u
      obtain ⟨_, _, _, _, u, _, _⟩ := p_bind_il u
      obtain ⟨t1, o1, G1, _, u, _, _⟩ := p_bind_il u
      exact ⟨t1, o1, G1, u⟩
    have K94 : ∀ m', PS E z z q Rs m (p_bind (p_bind (p_bind (p_bind (p_bind (p_bind Y1 (p_step E.1)) (p_exp E.1 70)) (p_const E.1)) (p_exp E.1 24)) (p_const E.1)) (p_if E.1 25 (fun t o => p_bind (p_step E.1 t o) (p_const E.1)))) m' → yP (xg xs) (d + dR o + 17 + 1) 316 94 [(0, .ref 58), (1, .int (nI (min z 19999)))] [] m' (RM E z Rs m r) := by
      intro m' p
      refine w316_94 xs (d + dR o + 17) _ m' _ ?_
      refine GS.word (by omega) hE p 26 (by decide) (fun m2 p => ?_)
      refine PS.cadd (by omega) p e8 rfl (fun t' o' G' Rs' Y' e3 e4 hR' => ?_) (fun c f he => c304x xs (by omega) he) (fun m6 p => ?_)
      · refine yC.mono ?_ (fun _ _ q => q) (hB t' o' _ _ _ _ e4 hR')
        obtain ⟨t1, o1, G1, u⟩ := iL _ _ _ e3
        rw [(j7 _ _ _ e3).1]
        exact hDY _ _ _ u
      · refine GS.word (by omega) hE p 27 (by decide) (fun m7 p => ?_)
        rw [er, ey]
        exact PS.fin (GS.dec p (fun t' o' G' u => by have := i9 t' o' G' u; omega)) rfl
    refine GS.next (by omega) hE p h67 (fun m7 p => ?_)
    refine GS.sign (by omega) hE p 1 70 (by decide) (fun m8 p => ?_)
    refine PS.cadd (by omega) p (po_t _ (p_const E.1)) rfl (fun t' o' G' Rs' Y _ hY hR' => by rw [← Option.some.inj hY]; exact c301r xs hE (by omega) hR') (fun c f he => c301e xs (by omega) he) (fun m9 p => ?_)
    refine GS.word (by omega) hE p 24 (by decide) (fun m10 p => ?_)
    refine PS.cadd (by omega) p (po_t _ (p_const E.1)) rfl (fun t' o' G' Rs' Y _ hY hR' => by rw [← Option.some.inj hY]; exact c301r xs hE (by omega) hR') (fun c f he => c301e xs (by omega) he) (fun m11 p => ?_)
    refine GS.isW (by omega) p 25 (by decide) ⟨fun u => K94 m11 ?_, fun u => ?_⟩
    · rw [p_if_n u]
      exact p
    · refine GS.next (by omega) hE p (fun t' o' G' e3 => ?_) (fun m12 p => ?_)
      · obtain ⟨t1, o1, G1, e4, k25⟩ := tkx_y u
        rw [e4] at e3
        simp only [Sum.inl.injEq, Prod.mk.injEq] at e3
        rw [← e3.1, k25]
        decide
      refine PS.cadd (by omega) p (po_t _ (p_const E.1)) rfl (fun t' o' G' Rs' Y _ hY hR' => by rw [← Option.some.inj hY]; exact c301r xs hE (by omega) hR') (fun c f he => c301e xs (by omega) he) (fun m13 p => K94 m13 ?_)
      rw [p_if_y u, ← p_bind_a]
      exact p
  have bade : ∀ (c f : Int32), r = .inr (c, f) → PS E z z (19, E.1.1 10 t, 0, 0) Rs m (.inr (c, f)) (y_si m5 64 (min z 19999) (m5.1 58 7)) → _ := fun c f er p => main (19, E.1.1 10 t, 0, 0) (.inr (c, f)) (.inr (c, f)) (.inr (c, f)) 1 _ rfl rfl (opn.e _ _) (by omega) (fun _ _ _ u => by cases u) (fun _ _ _ u => by cases u) p rfl rfl er
  rcases hi : p_into E.1 t o with ⟨t1, o1, G1⟩ | ⟨c, f⟩
  · have ai := p_into_o hi
    have eG := ai.2.2.1
    subst eG
    rw [hi] at e p
    dsimp only at e
    rw [p_bind_n] at p
    unfold p_chk at p
    by_cases k64 : E.1.1 9 t1 = 64
    · rw [if_pos k64] at p
      have ee : p_exp E.1 64 t1 o1 = p_step E.1 t1 o1 := by unfold p_exp; rw [if_pos k64]
      rw [ee] at e
      obtain ⟨y, e1, er⟩ := pnode_ex e
      obtain ⟨Y9, h9⟩ := po_ex e1
      obtain ⟨Y8, h8⟩ := po_ex h9
      rw [h9, pdec_t, po_t] at e1
      rw [h8, po_t] at h9
      have h9 := Option.some.inj h9
      have e1 := Option.some.inj e1
      have pv := PS.val (v := m5.1 58 7) (v' := E.1.1 11 t1) (vt' := t1 + 1) p (fun t' o' G' Rs' e3 hR' => by
        simp only [Sum.inl.injEq, Prod.mk.injEq] at e3
        obtain ⟨rfl, rfl, rfl⟩ := e3
        exact ⟨fun y => absurd y (by simp), fun _ => hR'.vn k64⟩)
      refine main (19, E.1.1 10 t, E.1.1 11 t1, t1 + 1) (.inl (t1, o1, [])) Y8 y o1 _ rfl rfl (fun t' o' G' u => ?_) (by omega) (fun t' o' G' u => ?_) (fun t' o' G' u => ?_) pv ?_ ?_ er
      · simp only [Sum.inl.injEq, Prod.mk.injEq] at u
        omega
      · simp only [Sum.inl.injEq, Prod.mk.injEq] at u
        rw [← u.1, k64]
        decide
      · have := dR_s ai.2.2.2
        rw [ai.2.1]
        omega
      · rw [p_bind_n]
        exact h8
      · rw [h9, e1]
    · rw [if_neg k64] at p
      have er : r = .inr (6, E.1.1 10 t1) := by
        have ee : p_exp E.1 64 t1 o1 = .inr (6, E.1.1 10 t1) := by unfold p_exp; rw [if_neg k64]; rfl
        rw [ee] at e
        exact (Option.some.inj e).symm
      exact bade _ _ er (RRe.si p (by omega))
  · rw [hi] at e p
    dsimp only at e
    exact bade c f (Option.some.inj e).symm (RRe.si p (by omega))
theorem p_tgt_o {m0 : yM} {N t o t' o' : Nat} {G : List ND} (h : p_tgt m0 N t o = some (.inl (t', o', G))) : o' = o := by
  unfold p_tgt at h
  split at h
  · obtain ⟨G1, h, -⟩ := pnode_some h
    obtain ⟨t1, o1, _, _, e1, h, -⟩ := po_some h
    obtain ⟨t2, o2, _, _, e2, h, -⟩ := po_some h
    obtain ⟨t3, o3, _, _, e3, h, -⟩ := po_some h
    obtain ⟨t4, o4, _, _, e4, h, -⟩ := po_some h
    have a1 := p_step_o (Option.some.inj e1)
    have a2 := p_into_o (Option.some.inj e2)
    have a3 := exO_o e3
    have a4 := p_exp_o (Option.some.inj e4)
    simp only [pdec, Option.some.injEq, Sum.inl.injEq, Prod.mk.injEq] at h
    omega
  · have := p_leaf_o (Option.some.inj h)
    omega
theorem stepSt' (xs : List Int32) (d : Nat) {E : EV} (hE : EOk E) (N n : Nat) (h3 : kCp xs d E N n 3 306 16) (h5 : kCp xs d E N n 5 314 21) (h7 : kCp xs d E N n 7 316 23) : kSt xs d E N n := by
  intro t o z Rs m r hs n187 e hR
  have hb := dR_26 o
  unfold p_st at e
  have pl := hR.pl
  refine w305_0 xs (d + dR o + 18) m _ (y_ci (c290 xs (d + dR o + 17) hR 16 (by decide)) (by omega) ⟨fun u => ?_, fun u => ?_⟩)
  · have n16 : ¬ E.1.1 9 t = 16 := if0 u
    rw [if_neg n16] at e
    refine y_ci (c290 xs (d + dR o + 17) hR 21 (by decide)) (by omega) ⟨fun u => ?_, fun u => ?_⟩
    · have n21 : ¬ E.1.1 9 t = 21 := if0 u
      rw [if_neg n21] at e
      refine y_ci (c290 xs (d + dR o + 17) hR 23 (by decide)) (by omega) ⟨fun u => ?_, fun u => ?_⟩
      · have n23 : ¬ E.1.1 9 t = 23 := if0 u
        rw [if_neg n23] at e
        refine ⟨fun u => ?_, fun u => ?_⟩
        · -- a name
          have nw : ¬ ∃ K, K < 41 ∧ E.1.1 9 t = nI K := fun y => u (hR.rk.kind.2.2.2.2.mpr y)
          have n28 : ¬ E.1.1 9 t = 28 := fun y => nw ⟨28, by omega, y⟩
          have n29 : ¬ E.1.1 9 t = 29 := fun y => nw ⟨29, by omega, y⟩
          have k64 : E.1.1 9 t = 64 := by
            rcases hs with y | y | y | y | y | y | y
            · exact absurd y n187
            · exact y
            · exact absurd y n16
            · exact absurd y n21
            · exact absurd y n23
            · exact absurd y n28
            · exact absurd y n29
          rw [if_neg n28, if_neg n29, if_pos k64] at e
          have vn := hR.vn k64
          refine y_nx (c272r xs (d + dR o + 12) hE hR (by rw [k64]; decide)) (by omega) (fun m9 q9 => ?_)
          rcases hst : p_step E.1 t o with ⟨t1, o1, G1⟩ | ⟨c, f⟩
          · rw [hst] at q9
            have so := p_step_o hst
            obtain ⟨rfl, f9, R9, p9, h9⟩ := q9
            obtain ⟨rfl, e2, -⟩ := so
            rw [e2] at hst h9
            have vn9 := vn.mono p9
            have nv9 : ∀ kd : Int32, nvO E R9 (kd, E.1.1 10 t, E.1.1 11 t, t + 1) (m.1 58 7) := fun kd => ⟨fun y => absurd y (by simp), fun _ => vn9⟩
            refine y_ci (c295 xs (d + dR o + 17) h9 40 (by decide)) (by omega) ⟨fun v => ?_, fun v => ?_⟩
            · have n168 : ¬ E.1.1 9 (t + 1) = 168 := if0 v
              rw [if_neg n168] at e
              unfold p_asgn at e
              refine y_ci (c295 xs (d + dR o + 17) h9 91 (by decide)) (by omega) ⟨fun w => ?_, fun w => ?_⟩
              · have n219 : ¬ E.1.1 9 (t + 1) = 219 := if0 w
                have et : p_tgt E.1 N t o = some (p_node 6 (E.1.1 10 t) (E.1.1 11 t) (t + 1) (.inl (t + 1, o, []))) := by
                  unfold p_tgt p_leaf
                  rw [if_neg n219, if_pos k64, hst]
                rw [et] at e
                refine PS.mk (by omega) h9 (6, E.1.1 10 t, E.1.1 11 t, t + 1) rfl pl (nv9 6) (fun m13 p => ?_)
                obtain ⟨id, i1, i2, i3⟩ := (PS.fin p rfl).pre p9 f9
                have ei : nI (min z 19999) = nI id := by
                  have := Option.some.inj i2
                  simpa using this
                rw [ei]
                exact c305a xs d hE (fun t' o' G' e3 => by
                  simp only [p_node, Sum.inl.injEq, Prod.mk.injEq] at e3
                  rw [← e3.2.1]; omega) (by omega) i3 i1 e
              · have k219 : E.1.1 9 (t + 1) = 219 := if1 w
                rcases ht : p_tgt E.1 N t o with _ | X
                · rw [ht] at e; cases e
                · rw [ht] at e
                  have ht' := ht
                  unfold p_tgt at ht
                  rw [if_pos k219, hst, po_inl] at ht
                  obtain ⟨y, e1, e2⟩ := pnode_ex ht
                  refine yC.mono (Nat.le_refl _) (fun v m8 q => ?_) (c311 xs d hE (d + dR o + 17) (by omega) h9 k219 (32, E.1.1 10 t, E.1.1 11 t, t + 1) rfl pl (nv9 32) (g := exO E.1 N) (l3 := 1) (fun t1 o1 t' o' G e2 h1 => ?_) (fun t1 o1 z R m r o6 e0 e2 hR => ?_) e1)
                  · have q := RM.pre q p9 f9
                    obtain ⟨id, i1, i2, i3⟩ := q
                    refine ⟨nI id, i2, ?_⟩
                    dsimp only at i3
                    rw [← e2] at i3
                    refine c305a xs d hE (N := N) (fun t' o' G' e3 => ?_) (by omega) i3 i1 ?_
                    · rw [e3] at ht'
                      have := p_tgt_o ht'
                      rw [this]
                      omega
                    · rcases X with ⟨t1, o1, G1⟩ | ⟨c, f⟩
                      · exact e
                      · exact e
                  · have := exO_o e2
                    omega
                  · rw [if_neg (by decide)]
                    refine c308r xs d hE ?_ e2 hR
                    have := dR_s o6
                    rw [e0]
                    omega
            · have k168 : E.1.1 9 (t + 1) = 168 := if1 v
              rw [if_pos k168] at e
              unfold p_inv at e
              rw [hst, po_inl] at e
              obtain ⟨y, e1, rfl⟩ := pnode_ex e
              exact y_rm (yC.mono (Nat.le_refl _) (fun _ _ q => RM.pre q p9 f9) (c317 xs d hE N (d + dR o + 17) (by omega) h9 k168 (13, E.1.1 10 t, E.1.1 11 t, t + 1) rfl pl (nv9 13) e1)) (by omega)
          · rw [hst] at q9
            have q9 : RRe E c f m9 := q9
            have k68 : E.1.1 9 (t + 1) = 68 := by
              unfold p_step at hst
              by_cases y : E.1.1 9 (t + 1) = 68
              · exact y
              · rw [if_neg y] at hst; cases hst
            rw [if_neg (by rw [k68]; decide)] at e
            unfold p_asgn p_tgt p_leaf at e
            rw [if_neg (by rw [k68]; decide), if_pos k64, hst] at e
            have er : (.inr (c, f) : PX) = r := Option.some.inj e
            rw [← er]
            refine y_ci (c295x xs (d + dR o + 17) q9 _) (by omega) ⟨fun _ => ?_, fun u => absurd rfl u⟩
            refine y_ci (c295x xs (d + dR o + 17) q9 _) (by omega) ⟨fun _ => ?_, fun u => absurd rfl u⟩
            refine RRe.mk (by omega) q9 (fun id m2 hid h2 => ?_)
            exact c305a xs d hE (N := N) (X := .inr (c, f)) (fun _ _ _ u => by cases u) (by omega) h2 hid rfl
        · -- EXIT, RETURN
          have k : E.1.1 9 t = 28 ∨ E.1.1 9 t = 29 := by
            rcases hs with y | y | y | y | y | y | y
            · exact absurd y n187
            · exact absurd u (by
                intro v
                have := hR.rk.kind.1.mpr y
                rw [v] at this
                exact absurd this (by decide))
            · exact absurd y n16
            · exact absurd y n21
            · exact absurd y n23
            · exact Or.inl y
            · exact Or.inr y
          refine y_ci (c290 xs (d + dR o + 17) hR 28 (by decide)) (by omega) ⟨fun v => ?_, fun v => ?_⟩
          · have n28 : ¬ E.1.1 9 t = 28 := if0 v
            have k29 := k.resolve_left n28
            rw [if_neg n28, if_pos k29] at e
            have er := Option.some.inj e
            rw [← er]
            unfold p_leaf
            rw [if_pos k29]
            exact w305_67 xs (d + dR o + 18) _ m _ (lfR (by omega) hE hR (21, E.1.1 10 t, 0, 0) rfl pl ⟨fun _ => rfl, fun y => absurd rfl y⟩ (by rw [k29]; decide))
          · have k28 : E.1.1 9 t = 28 := if1 v
            rw [if_pos k28] at e
            have er := Option.some.inj e
            rw [← er]
            unfold p_leaf
            rw [if_pos k28]
            exact w305_67 xs (d + dR o + 18) _ m _ (lfR (by omega) hE hR (20, E.1.1 10 t, 0, 0) rfl pl ⟨fun _ => rfl, fun y => absurd rfl y⟩ (by rw [k28]; decide))
      · have k23 : E.1.1 9 t = 23 := if1 u
        rw [if_pos k23] at e
        exact y_rm (h7 t o z Rs m r k23 e hR) (by omega)
    · have k21 : E.1.1 9 t = 21 := if1 u
      rw [if_pos k21] at e
      exact y_rm (h5 t o z Rs m r k21 e hR) (by omega)
  · have k16 : E.1.1 9 t = 16 := if1 u
    rw [if_pos k16] at e
    exact y_rm (h3 t o z Rs m r k16 e hR) (by omega)
theorem kAll (xs : List Int32) (d : Nat) {E : EV} (hE : EOk E) (N : Nat) : ∀ n, (kBd xs d E N n ∧ kSs xs d E N n ∧ k4 xs d E N n ∧ k6 xs d E N n ∧ kSt xs d E N n) ∧ ∀ k, n = k + 1 → kSt xs d E N k := by
  intro n
  induction n with
  | zero =>
    refine ⟨⟨fun t o z Rs m r e => (by cases e), ?_, ?_, ?_, ?_⟩, fun k u => by omega⟩
    · intro oe z a nq Rs m0 l l2 Q q X Z m hl hl2 hX h e K
      rcases X with ⟨t, o, G⟩ | ⟨c, f⟩
      · obtain ⟨Y, e1, _⟩ := po_il e
        cases e1
      · have hb := dR_26 oe
        refine w304_14 xs (d + dR oe + 19) _ _ m _ ⟨fun u => absurd u hl2, fun _ => ⟨fun _ => ?_, fun u => absurd u (GS.re h).ne⟩⟩
        refine c304q xs _ (K m ?_)
        rw [← Option.some.inj e]
        exact h
    · intro oe D z a nq Rs m0 l l2 Q q X Z m hD hl ho ht h e K h2
      rcases X with ⟨t, o, G⟩ | ⟨c, f⟩
      · obtain ⟨Y, e1, _⟩ := po_il e
        cases e1
      · refine w306_18 xs D _ _ m _ ⟨fun _ => K m ?_, fun y => absurd (show l2 = 0 from h2) y⟩
        rw [← Option.some.inj e]
        exact h
    · intro oe D z a nq Rs m0 l Q q X Z m hD hl ho ht h e K
      rcases X with ⟨t, o, G⟩ | ⟨c, f⟩
      · obtain ⟨Y, e1, _⟩ := po_il e
        cases e1
      · refine w314_35 xs D _ m _ ⟨fun _ => K m ?_, fun u => absurd u (GS.re h).ne⟩
        rw [← Option.some.inj e]
        exact h
    · refine stepSt' xs d hE N 0 ?_ ?_ ?_ <;> (intro t o z Rs m r _ e; cases e)
  | succ n ih =>
    obtain ⟨⟨b1, b2, b3, b4, b5⟩, b6⟩ := ih
    refine ⟨⟨stepBd' xs d N n b2, stepSs' xs d hE N n b2 b6, step4 xs d hE N n b1 b3, step6 xs d hE N n b1 b4, stepSt' xs d hE N (n + 1) (stepIf' xs d hE N n b1 b3) (stepCs' xs d hE N n b1 b4) (stepFr' xs d hE N n b1)⟩, fun k u => ?_⟩
    obtain rfl : n = k := by omega
    exact b5
