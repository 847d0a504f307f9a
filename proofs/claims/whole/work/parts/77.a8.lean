/-! THE WRITER: FOR and bodies of the class -/
theorem TW.suc {m0 : yM} {T : Nat} {F : List ND} : ∀ (N n : Nat), TW m0 T F N n → TW m0 T F (N + 1) n := by
  intro N
  induction N with
  | zero => intro n h; exact absurd h (fun z => z)
  | succ N ih =>
    intro n h
    obtain ⟨w1, w2, w3, w4, w5, w6, w7⟩ := h
    exact ⟨w1, w2, w3, w4, w5, w6, fun c hc => ih c (w7 c hc)⟩
theorem TW.le {m0 : yM} {T : Nat} {F : List ND} {n : Nat} : ∀ {N N' : Nat}, N ≤ N' → TW m0 T F N n → TW m0 T F N' n := by
  intro N N' h
  induction N' with
  | zero => intro w; rw [show N = 0 by omega] at w; exact w
  | succ N' ih =>
    intro w
    by_cases e : N = N' + 1
    · rw [← e]; exact w
    · exact TW.suc _ _ (ih (by omega) w)
theorem prv_s {P S : List IT} {x y : IT} (μ : Nat) (h : x.2.2.2.2.1 = y.2.2.2.2.1) : ∀ i, prv (P ++ x :: S) μ i = prv (P ++ y :: S) μ i
  | 0 => rfl
  | i + 1 => by
    unfold prv
    rw [prv_s μ h i]
    have : ((P ++ x :: S).getD i dIT).2.2.2.2.1 = ((P ++ y :: S).getD i dIT).2.2.2.2.1 := by
      rw [List.getD_eq_getElem?_getD, List.getD_eq_getElem?_getD]
      rcases Nat.lt_trichotomy i P.length with q | q | q
      · rw [List.getElem?_append_left q, List.getElem?_append_left q]
      · rw [List.getElem?_append_right (by omega), List.getElem?_append_right (by omega), q, Nat.sub_self]
        exact h
      · rw [List.getElem?_append_right (by omega), List.getElem?_append_right (by omega)]
        obtain ⟨z, hz⟩ : ∃ z, i - P.length = z + 1 := ⟨i - P.length - 1, by omega⟩
        rw [hz]
        rfl
    rw [this]
theorem CO.set {P S : List IT} {x : IT} {m : yM} (h : CO (P ++ x :: S) m) (b : Int32) : (¬ P.length < 3000 → CO (P ++ (x.1, x.2.1, b, x.2.2.2) :: S) m) ∧ (P.length < 3000 → CO (P ++ (x.1, x.2.1, b, x.2.2.2) :: S) (y_si m 38 P.length b)) := by
  obtain ⟨h1, h2, h3⟩ := h
  have ln : (P ++ (x.1, x.2.1, b, x.2.2.2) :: S).length = (P ++ x :: S).length := by simp
  refine ⟨fun z => ⟨by rw [ln]; exact h1, by rw [ln]; exact h2, fun y => ?_⟩, fun z => ⟨by rw [ln, y_si_at, if_neg (by omega)]; exact h1, by rw [ln]; exact h2, fun y i t ht => ?_⟩⟩
  · exfalso
    rw [List.length_append, List.length_cons] at y
    omega
  · rw [ln] at y
    have cv : ∀ (t : IT), caV (P ++ (x.1, x.2.1, b, x.2.2.2) :: S) i t = caV (P ++ x :: S) i t := by
      intro t
      unfold caV
      rw [prv_s (P := P) (S := S) (x := (x.1, x.2.1, b, x.2.2.2)) (y := x) _ rfl i]
    have o36 : (y_si m 38 P.length b).1 36 i = m.1 36 i := by rw [y_si_at, if_neg (by omega)]
    have o37 : (y_si m 38 P.length b).1 37 i = m.1 37 i := by rw [y_si_at, if_neg (by omega)]
    have o39 : (y_si m 38 P.length b).1 39 i = m.1 39 i := by rw [y_si_at, if_neg (by omega)]
    rw [o36, o37, o39, cv]
    rcases Nat.lt_trichotomy i P.length with q | q | q
    · rw [List.getElem?_append_left q] at ht
      have := h3 y i t (by rw [List.getElem?_append_left q]; exact ht)
      have o38 : (y_si m 38 P.length b).1 38 i = m.1 38 i := by rw [y_si_at, if_neg (by omega)]
      rw [o38]
      exact this
    · subst q
      rw [List.getElem?_append_right (Nat.le_refl _), Nat.sub_self] at ht
      have ht := Option.some.inj ht
      have := h3 y P.length x (by rw [List.getElem?_append_right (Nat.le_refl _), Nat.sub_self]; rfl)
      rw [← ht, y_si_same]
      exact ⟨this.1, this.2.1, rfl, this.2.2.2⟩
    · rw [List.getElem?_append_right (by omega)] at ht
      obtain ⟨z', hz⟩ : ∃ z, i - P.length = z + 1 := ⟨i - P.length - 1, by omega⟩
      have := h3 y i t (by
        rw [List.getElem?_append_right (by omega), hz]
        rw [hz] at ht
        exact ht)
      have o38 : (y_si m 38 P.length b).1 38 i = m.1 38 i := by rw [y_si_at, if_neg (by omega)]
      rw [o38]
      exact this
theorem CO.fr {C : List IT} {m m' : yM} (h : CO C m) (g : ∀ a i, 34 < a → a < 40 → m'.1 a i = m.1 a i) : CO C m' := by
  obtain ⟨h1, h2, h3⟩ := h
  refine ⟨by rw [g 35 6 (by omega) (by omega)]; exact h1, h2, fun z i x hx => ?_⟩
  rw [g 36 i (by omega) (by omega), g 37 i (by omega) (by omega), g 38 i (by omega) (by omega), g 39 i (by omega) (by omega)]
  exact h3 z i x hx
theorem c209 (xs : List Int32) (D : Nat) {m0 : yM} {T : Nat} {F : List ND} {s : SU} (hS : HS m0 T F s) {N n u ℓ : Nat} (hW : TW m0 T F N n) (k : kK F n = 19) {e : Nat → List IT} {bd : Nat → Nat → Nat → List IT} (h2 : ∀ ℓ b p, mk2 ℓ (bd ℓ b p)) (hb : ∀ b, n < b → b < n + szF F n → kK F b = 11 → bodC xs (D + 2) F s.1 u n (bd n) b) : staC xs (D + 3) 209 F s.1 u ℓ (wT F s.1 e bd ℓ n) n := by
  intro C m h mk hl
  have at' := hW.at
  have hn : n < F.length := by omega
  have hf := h.1.f
  have hu := h.2.2.1
  have ks : s.1.2.2.1 n = 19 := by
    rcases hS.ks hn with y | ⟨y, z⟩
    · rw [y, k]; rfl
    · omega
  obtain ⟨v, v1, v2, v3⟩ := (hS.v hn).2.2.2.1 k
  have vl := ((vOk_i _ _).mp v2).1
  have n2 := h.1.nV.2
  have cv : (s.1.2.2.2.1 n).toNatClampNeg = v := by rw [v1]; exact nI_clamp (by omega)
  have cz : clV s.1 n = (vD s.1 v).2.2.2 := by unfold clV; rw [cv]
  -- the nodes below
  have sh : n + 3 < F.length ∧ bdF s.1 n < F.length ∧ n < bdF s.1 n ∧ bdF s.1 n < n + szF F n ∧ kK F (bdF s.1 n) = 11 := by
    have ok := hW.ok
    rw [k] at ok
    obtain ⟨-, a, b, s', ha, hb', hs, eks⟩ := ok
    have kd := hW.kdN
    have lf : ∀ {i : Nat}, i ∈ kids F n → cnK (kK F i) → szF F i = 1 := by
      intro i hi ki
      obtain ⟨M, hM⟩ := hS.1.1 i (hW.kin hi).2.2.2.1
      exact (hM.leaf (by rcases ki with y | y <;> rw [y] <;> rfl)).1
    cases hq : kids F n with
    | nil => rw [hq] at eks; cases eks
    | cons c1 L =>
      cases L with
      | nil => rw [hq] at eks; cases (List.cons.inj eks).2
      | cons c2 L =>
        have e1 := kd.1 c1 (by rw [hq]; rfl)
        have e2 := kd.2 0 c1 c2 (by rw [hq]; rfl) (by rw [hq]; rfl)
        have g1 : c1 ∈ kids F n := by rw [hq]; exact List.mem_cons_self
        have g2 : c2 ∈ kids F n := by rw [hq]; exact List.mem_cons_of_mem _ List.mem_cons_self
        rw [hq] at eks
        have f1 : kK F c1 = a := (List.cons.inj eks).1
        have f2 : kK F c2 = b := (List.cons.inj (List.cons.inj eks).2).1
        have f3 : L.map (kK F) = s' ++ [11] := (List.cons.inj (List.cons.inj eks).2).2
        have l1 := lf g1 (by rw [f1]; exact ha)
        have l2 := lf g2 (by rw [f2]; exact hb')
        cases L with
        | nil => rcases hs with rfl | ⟨x, -, rfl⟩ <;> cases f3
        | cons c3 L =>
          have e3 := kd.2 1 c2 c3 (by rw [hq]; rfl) (by rw [hq]; rfl)
          have g3 : c3 ∈ kids F n := by rw [hq]; simp
          have E3 : c3 = n + 3 := by omega
          have z3 := hW.kin g3
          rw [E3] at z3
          have k3s : ¬ (kK F (n + 3) = 34 ∨ kK F (n + 3) = 35 ∨ kK F (n + 3) = 36) → s.1.2.2.1 (n + 3) = nI (kK F (n + 3)) := fun y => by
            rcases hS.ks z3.2.2.2.1 with w | ⟨w, q⟩
            · exact w
            · exact absurd q y
          rcases hs with rfl | ⟨x, hx, rfl⟩
          · have f4 : kK F c3 = 11 := (List.cons.inj f3).1
            rw [E3] at f4
            have kk : s.1.2.2.1 (n + 3) = 11 := by rw [k3s (by omega), f4]; rfl
            unfold bdF
            rw [if_pos kk]
            exact ⟨z3.2.2.2.1, z3.2.2.2.1, by omega, z3.2.1, f4⟩
          · obtain ⟨f4, f5⟩ := List.cons.inj f3
            cases L with
            | nil => cases f5
            | cons c4 L =>
              have f6 : kK F c4 = 11 := (List.cons.inj f5).1
              have e4 := kd.2 2 c3 c4 (by rw [hq]; rfl) (by rw [hq]; rfl)
              have g4 : c4 ∈ kids F n := by rw [hq]; simp
              have l3 := lf g3 (by rw [f4]; exact hx)
              have E4 : c4 = n + 4 := by omega
              have z4 := hW.kin g4
              rw [E4] at z4 f6
              rw [E3] at f4
              have kk : ¬ s.1.2.2.1 (n + 3) = 11 := by
                rw [k3s (by rcases hx with y | y <;> omega)]
                intro y
                have := (nI_eq (b := 11) (by rcases hx with y | y <;> omega) (by omega)).mp y
                rcases hx with y | y <;> omega
              unfold bdF
              rw [if_neg kk]
              exact ⟨z3.2.2.2.1, z4.2.2.2.1, by omega, z4.2.1, f6⟩
  obtain ⟨n3, bl, b1, b2, kb⟩ := sh
  generalize hbn : bdF s.1 n = b at *
  generalize hp : C.length - u = p at *
  generalize hB : bd n b (p + 4) = B
  have B2 : mk2 n B := by rw [← hB]; exact h2 n b _
  generalize hE : nI (p + 9 + B.length) = E
  have ew : wT F s.1 e bd ℓ n p = res (mX n) E (fr1 s.1 n ++ ((13, s.1.2.2.2.2 n, E, 0, 0, 0) :: (B ++ fr2 s.1 n p))) := by
    unfold wT
    rw [if_neg (by rw [ks]; decide), if_neg (by rw [ks]; decide), if_neg (by rw [ks]; decide), if_neg (by rw [ks]; decide), if_pos ks, hbn, hB, hE]
  rw [ew] at hl ⊢
  have lD : (fr1 s.1 n ++ ((13, s.1.2.2.2.2 n, E, 0, 0, 0) :: (B ++ fr2 s.1 n p))).length = 9 + B.length := by
    rw [List.length_append, List.length_cons, List.length_append]
    show 3 + (B.length + 5 + 1) = _
    omega
  rw [res_len, lD] at hl
  have xi : x_in (nI n) 16401 = true := x_in_nI (by omega) (by decide)
  have ei : (nI n).toNatClampNeg = n := nI_clamp (by omega)
  have nmX : ¬ mX n = 0 := by unfold mX; omega
  have noC : ∀ x, x ∈ C → ¬ x.2.2.2.2.1 = mX n := fun x hx z => by
    have := mk x hx
    rw [z] at this
    unfold mX at this
    omega
  have h9 : m.1 42 9 = prv C (mX ℓ) C.length := h.2.2.2.2
  -- the loop's own chain begins
  have wm1 : WC F s.1 u n C (y_si m 42 9 (-1)) := by
    refine ⟨h.1.ek (fun a i z => by rw [y_si_at, if_neg (by omega)]), h.2.1.fr (fun a i z1 z2 => by rw [y_si_at, if_neg (by omega)]), hu, by rw [y_si_at, if_neg (by omega)]; exact h.2.2.2.1, ?_⟩
    rw [y_si_same, prv_n nmX noC]
  have s0 : SK m (y_si m 42 9 (-1)) := ⟨fun a i z => by rw [y_si_at, if_neg (by omega)], fun i z => by rw [y_si_at, if_neg (by omega)], fun i z => by rw [y_si_at, if_neg (by omega)], rfl⟩
  have t1 := h.1.t (show n + 1 < F.length by omega)
  have cell : m.1 20 v = clV s.1 n := by rw [(h.1.v v2).2.2.2.2.2.1, cz]
  refine w209_0 xs (D + 2) _ m _ ⟨xi, xi, ?_⟩
  have e1 : (nI n + 1).toNatClampNeg = n + 1 := by rw [nI_1]; exact nI_clamp (by omega)
  have e3 : nI n + 3 = nI (n + 3) := nI_add n 3
  have e4 : nI n + 4 = nI (n + 4) := nI_add n 4
  rw [ei, (h.1.t hn).2.2.1, (h.1.t hn).2.2.2.1, v1, nI_clamp (by omega), cell, e1, t1.2.2.1]
  refine ⟨x_in_nI (by omega) (by decide), by rw [nI_1]; exact x_in_nI (by omega) (by decide), ?_⟩
  refine yC.mono (by omega) (fun r ma qa => ⟨qa.1, ?_⟩) (c193 xs D wm1.2.1 (by omega) 0 _)
  have wa := wm1.ek qa.2.2 qa.2.1 ((mk0.i rfl).nx n)
  refine yC.mono (by omega) (fun r mb qb => ⟨qb.1, ?_⟩) (c193 xs D qa.2.1 (by rw [List.length_append, List.length_singleton]; omega) 2 _)
  have wb := wa.ek qb.2.2 qb.2.1 ((mk0.i rfl).nx n)
  refine yC.mono (show D + 2 ≤ D + 2 by omega) (fun r mb' q160 => ?_) (c160 xs D wb.1 n3)
  obtain ⟨rfl, rfl⟩ := q160
  refine ⟨_, rfl, ?_⟩
  refine yC.mono (by omega) (fun r mc qc => ⟨_, qc.1, ?_⟩) (c194 xs D qb.2.1 (by simp only [List.length_append, List.length_singleton]; omega) (j3 12 (s.1.2.2.2.2 n) (tms s.1 n).toInt32 0) rfl rfl rfl rfl)
  have wc := wb.ek qc.2.2 qc.2.1 ((mk0.i rfl).nx n)
  have lc : (C ++ [j1 0 (s.1.2.2.2.1 (n + 1))] ++ [j1 2 (clV s.1 n)] ++ [j3 12 (s.1.2.2.2.2 n) (tms s.1 n).toInt32 0]).length = C.length + 3 := by simp
  have hc3 := c205 xs D wc.2.1 wc.2.2.2.1 wc.2.2.1
  rw [lc, show C.length + 3 - u = p + 3 by omega] at hc3
  refine y_ci hc3 (by omega) ?_
  refine yC.mono (by omega) (fun r md qd => ⟨_, qd.1, ?_⟩) (c194 xs D qc.2.1 (by rw [lc]; omega) (j3 13 (s.1.2.2.2.2 n) 0 0) rfl rfl rfl rfl)
  have wd := wc.ek qd.2.2 qd.2.1 ((mk0.i rfl).nx n)
  have sd : SK m md := (((s0.tr qa.2.2.s).tr qb.2.2.s).tr qc.2.2.s).tr qd.2.2.s
  have apd : C ++ [j1 0 (s.1.2.2.2.1 (n + 1))] ++ [j1 2 (clV s.1 n)] ++ [j3 12 (s.1.2.2.2.2 n) (tms s.1 n).toInt32 0] ++ [j3 13 (s.1.2.2.2.2 n) 0 0] = C ++ fr1 s.1 n ++ [j3 13 (s.1.2.2.2.2 n) 0 0] := by
    unfold fr1
    simp only [List.append_assoc, List.cons_append, List.nil_append]
  rw [apd] at wd
  rw [lc]
  generalize hC1 : C ++ fr1 s.1 n ++ [j3 13 (s.1.2.2.2.2 n) 0 0] = C1 at wd
  have lf1 : (fr1 s.1 n).length = 3 := rfl
  have l1 : C1.length = C.length + 4 := by rw [← hC1, List.length_append, List.length_append, lf1, List.length_singleton]
  have mk1 : MK C1 (2 * b + 1) := by
    rw [← hC1]
    refine ((mk.w (by omega)).app ?_).app ((mk0.i rfl).k _)
    intro x hx
    unfold fr1 at hx
    simp only [List.mem_cons, List.mem_nil_iff, or_false] at hx
    rcases hx with w | w | w <;> rw [w] <;> exact Nat.zero_le _
  have p1 : C1.length - u = p + 4 := by rw [l1]; omega
  -- the body and what follows
  have s128 : yP (xg xs) (D + 3) 209 128 [(0, .ref 42), (1, .int (nI n)), (3, .int (clV s.1 n)), (4, .int (m.1 42 9)), (5, .int (nI (p + 3))), (6, .int (nI (C.length + 3)))] [.int (nI b), .ref 42] md (fun r m' => r = none ∧ WC F s.1 u ℓ (C ++ res (mX n) E (fr1 s.1 n ++ ((13, s.1.2.2.2.2 n, E, 0, 0, 0) :: (B ++ fr2 s.1 n p)))) m' ∧ SK m m') := by
    have hbb := hb b b1 b2 kb C1 md wd mk1 (by rw [p1, hB, l1]; omega)
    rw [p1, hB] at hbb
    refine w209_128 xs (D + 2) _ _ _ _ _ _ md _ (yC.mono (Nat.le_refl _) (fun r me qe => ⟨qe.1, ?_⟩) hbb)
    obtain ⟨-, we, se⟩ := qe
    have le : (C1 ++ B).length = C.length + 4 + B.length := by rw [List.length_append, l1]
    refine yC.mono (by omega) (fun r mf qf => ⟨qf.1, ?_⟩) (c193 xs D we.2.1 (by rw [le]; omega) 1 _)
    have wf := we.ek qf.2.2 qf.2.1 ((mk0.i rfl).nx n)
    refine y_ci (c159 xs D wf.1 n3) (by omega) ?_
    refine yC.mono (by omega) (fun r mg qg => ⟨qg.1, xi, ?_⟩) (c193 xs D qf.2.1 (by rw [List.length_append, le, List.length_singleton]; omega) 0 _)
    have wg := wf.ek qg.2.2 qg.2.1 ((mk0.i rfl).nx n)
    rw [ei, (wg.1.t hn).2.2.1, v1]
    refine y_ci (c136 xs D wg.1 v2) (by omega) ?_
    have sg : SK m mg := ((sd.tr se).tr qf.2.2.s).tr qg.2.2.s
    have s178 : ∀ a : Int32, a = (if tyV s.1 v = 1 then 0 else 5) → yP (xg xs) (D + 3) 209 178 [(0, .ref 42), (3, .int (clV s.1 n)), (4, .int (m.1 42 9)), (5, .int (nI (p + 3))), (6, .int (nI (C.length + 3)))] [.int a, .int 7, .ref 42] mg (fun r m' => r = none ∧ WC F s.1 u ℓ (C ++ res (mX n) E (fr1 s.1 n ++ ((13, s.1.2.2.2.2 n, E, 0, 0, 0) :: (B ++ fr2 s.1 n p)))) m' ∧ SK m m') := by
      intro a ha
      refine w209_178 xs (D + 2) _ _ _ _ _ _ mg _ ?_
      refine yC.mono (by omega) (fun r mh qh => ⟨qh.1, ?_⟩) (c193 xs D qg.2.1 (by simp only [List.length_append, List.length_singleton]; rw [l1]; omega) 7 a)
      have wh := wg.ek qh.2.2 qh.2.1 ((mk0.i rfl).nx n)
      refine yC.mono (by omega) (fun r mi qi => ⟨qi.1, ?_⟩) (c193 xs D qh.2.1 (by simp only [List.length_append, List.length_singleton]; rw [l1]; omega) 2 _)
      have wi := wh.ek qi.2.2 qi.2.1 ((mk0.i rfl).nx n)
      refine yC.mono (by omega) (fun r mj qj => ⟨qj.1, ?_⟩) (c193 xs D qi.2.1 (by simp only [List.length_append, List.length_singleton]; rw [l1]; omega) 14 _)
      have wj := wi.ek qj.2.2 qj.2.1 ((mk0.i rfl).nx n)
      have sj : SK m mj := ((sg.tr qh.2.2.s).tr qi.2.2.s).tr qj.2.2.s
      have ap3 : C1 ++ B ++ [j1 1 (clV s.1 n)] ++ [j1 0 (stp s.1 n)] ++ [j1 7 a] ++ [j1 2 (clV s.1 n)] ++ [j1 14 (nI (p + 3))] = (C ++ fr1 s.1 n) ++ (j3 13 (s.1.2.2.2.2 n) 0 0 :: (B ++ fr2 s.1 n p)) := by
        rw [← hC1]
        unfold fr2
        rw [cv, ← ha]
        simp only [List.append_assoc, List.cons_append, List.nil_append]
      rw [ap3] at wj
      have lP : (C ++ fr1 s.1 n).length = C.length + 3 := by rw [List.length_append, lf1]
      have l3 : ((C ++ fr1 s.1 n) ++ (j3 13 (s.1.2.2.2.2 n) 0 0 :: (B ++ fr2 s.1 n p))).length = C.length + 9 + B.length := by
        rw [List.length_append, lP, List.length_cons, List.length_append]
        show C.length + 3 + (B.length + 5 + 1) = _
        omega
      have eE : nI (C.length + 9 + B.length - u) = E := by rw [← hE]; congr 1; omega
      have here := c205 xs D wj.2.1 wj.2.2.2.1 wj.2.2.1
      rw [l3, eE] at here
      -- the end
      have s217 : ∀ mk' : yM, CO ((C ++ fr1 s.1 n) ++ ((13, s.1.2.2.2.2 n, E, 0, 0, 0) :: (B ++ fr2 s.1 n p))) mk' → SK mj mk' → (∀ i, mk'.1 42 i = mj.1 42 i) → yP (xg xs) (D + 3) 209 217 [(0, .ref 42), (4, .int (m.1 42 9))] [] mk' (fun r m' => r = none ∧ WC F s.1 u ℓ (C ++ res (mX n) E (fr1 s.1 n ++ ((13, s.1.2.2.2.2 n, E, 0, 0, 0) :: (B ++ fr2 s.1 n p)))) m' ∧ SK m m') := by
        intro mk' co4 sk4 f42
        have l4 : ((C ++ fr1 s.1 n) ++ ((13, s.1.2.2.2.2 n, E, 0, 0, 0) :: (B ++ fr2 s.1 n p))).length = C.length + 9 + B.length := by
          rw [← l3]
          simp
        have here4 := c205 xs D co4 (u := u) (by rw [f42]; exact wj.2.2.2.1) (by rw [l4]; omega)
        rw [l4, eE] at here4
        refine w209_217 xs (D + 2) _ mk' _ (y_ci here4 (by omega) ?_)
        have hd : mk'.1 42 9 = prv ((C ++ fr1 s.1 n) ++ ((13, s.1.2.2.2.2 n, E, 0, 0, 0) :: (B ++ fr2 s.1 n p))) (mX n) ((C ++ fr1 s.1 n) ++ ((13, s.1.2.2.2.2 n, E, 0, 0, 0) :: (B ++ fr2 s.1 n p))).length := by
          rw [f42, wj.2.2.2.2, l4, l3]
          exact prv_s (P := C ++ fr1 s.1 n) (S := B ++ fr2 s.1 n p) (x := j3 13 (s.1.2.2.2.2 n) 0 0) (y := (13, s.1.2.2.2.2 n, E, 0, 0, 0)) (mX n) rfl _
        rw [hd]
        refine yC.mono (by omega) (fun r mz qz => ⟨qz.1, rfl, ?_⟩) (c206 xs D co4 nmX E)
        obtain ⟨-, qz2, qz3⟩ := qz
        have ee : res (mX n) E ((C ++ fr1 s.1 n) ++ ((13, s.1.2.2.2.2 n, E, 0, 0, 0) :: (B ++ fr2 s.1 n p))) = C ++ res (mX n) E (fr1 s.1 n ++ ((13, s.1.2.2.2.2 n, E, 0, 0, 0) :: (B ++ fr2 s.1 n p))) := by
          rw [List.append_assoc, res_app, res_n noC]
        rw [ee] at qz2
        have nx : ∀ x, x ∈ res (mX n) E (fr1 s.1 n ++ ((13, s.1.2.2.2.2 n, E, 0, 0, 0) :: (B ++ fr2 s.1 n p))) → ¬ x.2.2.2.2.1 = mX ℓ := by
          intro x hx
          obtain ⟨y, y1, y2⟩ := List.mem_map.mp hx
          have yk : y.2.2.2.2.1 = 0 ∨ y.2.2.2.2.1 = mX n := by
            rcases List.mem_append.mp y1 with w | w
            · unfold fr1 at w
              simp only [List.mem_cons, List.mem_nil_iff, or_false] at w
              rcases w with w | w | w <;> rw [w] <;> exact Or.inl rfl
            · rcases List.mem_cons.mp w with w | w
              · rw [w]; exact Or.inl rfl
              · rcases List.mem_append.mp w with w | w
                · exact B2 y w
                · unfold fr2 at w
                  simp only [List.mem_cons, List.mem_nil_iff, or_false] at w
                  rcases w with w | w | w | w | w <;> rw [w] <;> exact Or.inl rfl
          have x0 : x.2.2.2.2.1 = 0 := by
            rw [← y2]
            unfold rs1
            by_cases c : y.2.2.2.2.1 = mX n
            · rw [if_pos c]
            · rw [if_neg c]; exact yk.resolve_right c
          rw [x0]
          unfold mX
          omega
        refine ⟨⟨?_, qz2.fr (fun a i z1 z2 => by rw [y_si_at, if_neg (by omega)]), by rw [List.length_append]; omega, ?_, ?_⟩, ((sj.tr sk4).tr qz3.s).tr ⟨fun a i z => by rw [y_si_at, if_neg (by omega)], fun i z => by rw [y_si_at, if_neg (by omega)], fun i z => by rw [y_si_at, if_neg (by omega)], rfl⟩⟩
        · exact ((wj.1.sk sk4).e qz3).ek (fun a i z => by rw [y_si_at, if_neg (by omega)])
        · rw [y_si_at, if_neg (by omega), qz3.1 42 7 (by omega), f42]; exact wj.2.2.2.1
        · rw [y_si_same, h9, prv_x nx]
      obtain ⟨st1, st2⟩ := CO.set wj.2.1 E
      rw [lP] at st1 st2
      refine ⟨fun z => s217 mj (st1 ?_) (SK.re mj) (fun _ => rfl), fun z => y_ci here (by omega) ⟨?_, ?_⟩⟩
      · have := (nI_leI (a := 3000) (by omega) (by omega)).mp z
        omega
      · refine x_in_nI ?_ (by decide)
        rcases Nat.lt_or_ge (C.length + 3) 3000 with q | q
        · exact q
        · exact absurd (nI_le (a := 3000) q (by omega)) z
      · have lt : C.length + 3 < 3000 := by
          rcases Nat.lt_or_ge (C.length + 3) 3000 with q | q
          · exact q
          · exact absurd (nI_le (a := 3000) q (by omega)) z
        rw [nI_clamp (by omega)]
        exact s217 _ (st2 lt) ⟨fun a i z => by rw [y_si_at, if_neg (by omega)], fun i z => by rw [y_si_at, if_neg (by omega)], fun i z => by rw [y_si_at, if_neg (by omega)], rfl⟩ (fun i => by rw [y_si_at, if_neg (by omega)])
    refine ⟨fun z => s178 5 ?_, fun z => s178 0 ?_⟩
    · rw [if_neg z]
    · rw [if_pos z]
  rw [e3, nI_clamp (by omega), (wd.1.t n3).1]
  refine ⟨x_in_nI (by omega) (by decide), fun z => ?_, fun z => ?_⟩
  · have : b = n + 4 := by rw [← hbn]; unfold bdF; rw [if_neg z]
    rw [e4, ← this]
    exact s128
  · have : b = n + 3 := by rw [← hbn]; unfold bdF; rw [if_pos z]
    rw [← this]
    exact s128
theorem c195 (xs : List Int32) (d : Nat) {m0 : yM} {T : Nat} {F : List ND} {s : SU} (hS : HS m0 T F s) {u : Nat} : ∀ (N ℓ n : Nat), TW m0 T F N n → kK F n = 11 → ℓ < n → bodC xs (d + 3 * N + 8) F s.1 u ℓ (wB F s.1 N ℓ) n := by
  intro N
  induction N with
  | zero => intro ℓ n h; exact absurd h (fun z => z)
  | succ N ih =>
    intro ℓ n hW k11 ℓn C m h mk hl
    have at' := hW.at
    have hn : n < F.length := by omega
    have hf := h.1.f
    have hu := h.2.2.1
    have ok := hW.ok
    rw [k11] at ok
    have xi : x_in (nI n) 16401 = true := x_in_nI (by omega) (by decide)
    have ei : (nI n).toNatClampNeg = n := nI_clamp (by omega)
    have ew : wB F s.1 (N + 1) ℓ n (C.length - u) = seqC (wT F s.1 (cE F s.1 N) (wB F s.1 N) ℓ) (kids F n) (C.length - u) := rfl
    rw [ew] at hl ⊢
    have e0 := cE_0 F s.1 N
    have b2 := wB_2 F s.1 N
    have w2 := fun c q => wT_2 (F := F) (σ := s.1) e0 b2 ℓ c q
    -- one statement
    have st : ∀ c, c ∈ kids F n → ∀ j, (j = 196 ∧ kK F c = 12) ∨ (j = 202 ∧ kK F c = 13) ∨ (j = 203 ∧ kK F c = 15) ∨ (j = 207 ∧ kK F c = 16) ∨ (j = 209 ∧ kK F c = 19) → staC xs (d + 3 * N + 10) j F s.1 u ℓ (wT F s.1 (cE F s.1 N) (wB F s.1 N) ℓ c) c := by
      intro c hc j hj
      have z := hW.kin hc
      have hWc := hW.2.2.2.2.2.2 c hc
      have inn : ∀ c', c < c' → c' < c + szF F c → TW m0 T F N c' := fun c' q1 q2 => by
        obtain ⟨M, hM1, hM2⟩ := TW.all N c hWc c' (by omega) q2
        exact hM2.le hM1
      have he : ∀ c', wE F c' → c' < c + szF F c → c < c' → exC xs (d + 3 * N + 9) F s.1 (cE F s.1 N) c' := fun c' w q1 q2 C m h1 h2 h3 => yC.mono (show d + 2 * N + 3 ≤ d + 3 * N + 9 by omega) (fun _ _ q => q) (c197 xs d hS N c' (inn c' q2 q1) w C m h1 h2 h3)
      have hb : ∀ ℓ', ∀ b, ℓ' < b → c < b → b < c + szF F c → kK F b = 11 → bodC xs (d + 3 * N + 8) F s.1 u ℓ' (wB F s.1 N ℓ') b ∧ bodC xs (d + 3 * N + 9) F s.1 u ℓ' (wB F s.1 N ℓ') b := fun ℓ' b q0 q1 q2 q3 => ⟨ih ℓ' b (inn b q1 q2) q3 q0, fun C m h1 h2 h3 => yC.mono (by omega) (fun _ _ q => q) (ih ℓ' b (inn b q1 q2) q3 q0 C m h1 h2 h3)⟩
      rcases hj with ⟨rfl, k⟩ | ⟨rfl, k⟩ | ⟨rfl, k⟩ | ⟨rfl, k⟩ | ⟨rfl, k⟩
      · exact c196 xs (d + 3 * N + 7) hS hWc k e0 he
      · exact c202 xs (d + 3 * N + 7) hS hWc k e0 he
      · exact c203 xs (d + 3 * N + 7) hS hWc k (by omega) e0 he b2 (fun b bm q3 => by
          have zb := hWc.kin bm
          exact hb ℓ b (by omega) zb.1 zb.2.1 q3)
      · exact c207 xs (d + 3 * N + 7) hS hWc k (by omega) e0 he b2 (fun b q1 q2 q3 => hb ℓ b (by omega) q1 q2 q3) (by omega)
      · exact c209 xs (d + 3 * N + 7) hS hWc k b2 (fun b q1 q2 q3 => (hb c b q1 q1 q2 q3).2)
    have lp : ∀ (L : List Nat) (i : Nat) (C1 : List IT) (m1 : yM), tile F L i (n + szF F n) → (∀ c, c ∈ L → c ∈ kids F n) → n < i → WC F s.1 u ℓ C1 m1 → MK C1 (2 * i) → SK m m1 → C1.length + (seqC (wT F s.1 (cE F s.1 N) (wB F s.1 N) ℓ) L (C1.length - u)).length < 2 ^ 30 → yP (xg xs) (d + 3 * N + 11) 195 4 [(0, .ref 42), (1, .int (nI n)), (2, .int (nI i))] [] m1 (fun r m' => r = none ∧ WC F s.1 u ℓ (C1 ++ seqC (wT F s.1 (cE F s.1 N) (wB F s.1 N) ℓ) L (C1.length - u)) m' ∧ SK m m') := by
      intro L
      induction L with
      | nil =>
        intro i C1 m1 ht _ ni w1 mk1 s1 hl
        have ht : i = n + szF F n := ht
        subst ht
        refine w195_4 xs (d + 3 * N + 10) _ _ m1 _ ⟨xi, ?_⟩
        rw [ei, (w1.1.t hn).2.2.2.2.1]
        refine ⟨fun _ => ⟨rfl, ?_, s1⟩, fun z => absurd (nI_le (Nat.le_refl _) (by omega)) z⟩
        show WC F s.1 u ℓ (C1 ++ []) m1
        rw [List.append_nil]
        exact w1
      | cons c L ihL =>
        intro i C1 m1 ht hm ni w1 mk1 s1 hl
        obtain ⟨rfl, ht⟩ := ht
        have cm := hm c List.mem_cons_self
        have z := hW.kin cm
        have st1 := st c cm
        have kst := ok.2 (kK F c) (List.mem_map_of_mem cm)
        have xc : x_in (nI c) 16401 = true := x_in_nI (by omega) (by decide)
        have ec : (nI c).toNatClampNeg = c := nI_clamp (by omega)
        have kcs : s.1.2.2.1 c = nI (kK F c) := by
          rcases hS.ks z.2.2.2.1 with y | ⟨y, w⟩
          · exact y
          · unfold stK at kst; omega
        generalize hf0 : wT F s.1 (cE F s.1 N) (wB F s.1 N) ℓ = f at *
        have es : seqC f (c :: L) (C1.length - u) = f c (C1.length - u) ++ seqC f L (C1.length - u + (f c (C1.length - u)).length) := rfl
        rw [es] at hl ⊢
        rw [List.length_append] at hl
        have u1 := w1.2.2.1
        -- behind it
        have nxt : ∀ m2, WC F s.1 u ℓ (C1 ++ f c (C1.length - u)) m2 → SK m m2 → yP (xg xs) (d + 3 * N + 11) 195 145 [(0, .ref 42), (1, .int (nI n)), (2, .int (nI c))] [] m2 (fun r m' => r = none ∧ WC F s.1 u ℓ (C1 ++ (f c (C1.length - u) ++ seqC f L (C1.length - u + (f c (C1.length - u)).length))) m' ∧ SK m m') := by
          intro m2 wq sq
          refine w195_145 xs (d + 3 * N + 10) _ _ m2 _ ⟨xc, ?_⟩
          rw [ec, (wq.1.t z.2.2.2.1).2.2.2.2.1]
          have pl : (C1 ++ f c (C1.length - u)).length - u = C1.length - u + (f c (C1.length - u)).length := by rw [List.length_append]; omega
          have := ihL (c + szF F c) (C1 ++ f c (C1.length - u)) m2 ht (fun x hx => hm x (List.mem_cons_of_mem _ hx)) (by omega) wq ((mk1.w (by omega)).app ((w2 c _).k (by unfold mX; omega))) sq (by rw [pl, List.length_append]; omega)
          rw [pl, List.append_assoc] at this
          exact this
        have go : ∀ j, (j = 196 ∧ kK F c = 12) ∨ (j = 202 ∧ kK F c = 13) ∨ (j = 203 ∧ kK F c = 15) ∨ (j = 207 ∧ kK F c = 16) ∨ (j = 209 ∧ kK F c = 19) → yC (xg xs) (d + 3 * N + 10) j [.ref 42, .int (nI c)] m1 (fun v1 m1' => v1 = none ∧ yP (xg xs) (d + 3 * N + 11) 195 145 [(0, .ref 42), (1, .int (nI n)), (2, .int (nI c))] [] m1' (fun r m' => r = none ∧ WC F s.1 u ℓ (C1 ++ (f c (C1.length - u) ++ seqC f L (C1.length - u + (f c (C1.length - u)).length))) m' ∧ SK m m')) := by
          intro j hj
          have := st1 j hj C1 m1 w1 mk1 (by omega)
          exact yC.mono (Nat.le_refl _) (fun r m2 q => ⟨q.1, nxt m2 q.2.1 (s1.tr q.2.2)⟩) this
        have ik : ∀ k, k < 37 → (s.1.2.2.1 c = nI k ↔ kK F c = k) := fun k hk => by rw [kcs]; exact nI_eq (by have := hS.1.2.1 c z.2.2.2.1; omega) (by omega)
        refine w195_4 xs (d + 3 * N + 10) _ _ m1 _ ⟨xi, ?_⟩
        rw [ei, (w1.1.t hn).2.2.2.2.1, ec, (w1.1.t z.2.2.2.1).1]
        refine ⟨fun y => ?_, fun _ => ⟨xc, fun y => go 196 (Or.inl ⟨rfl, (ik 12 (by omega)).mp y⟩), fun y => go 202 (Or.inr (Or.inl ⟨rfl, (ik 13 (by omega)).mp y⟩)), fun y => go 203 (Or.inr (Or.inr (Or.inl ⟨rfl, (ik 15 (by omega)).mp y⟩))), fun y => go 207 (Or.inr (Or.inr (Or.inr (Or.inl ⟨rfl, (ik 16 (by omega)).mp y⟩)))), fun y => go 209 (Or.inr (Or.inr (Or.inr (Or.inr ⟨rfl, (ik 19 (by omega)).mp y⟩)))), fun y => ?_, fun y1 y2 y3 y4 y5 y6 => ?_⟩⟩
        · have := (nI_leI (by omega) (by omega)).mp y
          omega
        · -- out of the loop
          have ef : f c (C1.length - u) = [(10, 0, 0, 0, mX ℓ, ℓ)] := by
            rw [← hf0]
            unfold wT
            rw [if_neg (by rw [y]; decide), if_neg (by rw [y]; decide), if_neg (by rw [y]; decide), if_neg (by rw [y]; decide), if_neg (by rw [y]; decide), if_pos y]
          rw [ef, List.length_singleton] at hl
          refine yC.mono (show d + 1 ≤ d + 3 * N + 10 by omega) (fun r m2 q => ⟨_, q.1, nxt _ ?_ ?_⟩) (c194 xs d w1.2.1 (by omega) (10, 0, 0, 0, mX ℓ, ℓ) rfl (by unfold caV; rw [if_neg (show ¬ mX ℓ = 0 by unfold mX; omega)]; exact w1.2.2.2.2) rfl rfl)
          · rw [ef]
            obtain ⟨-, q2, q3⟩ := q
            refine ⟨(w1.1.e q3).ek (fun a i w => by rw [y_si_at, if_neg (by omega)]), q2.fr (fun a i w1 w2 => by rw [y_si_at, if_neg (by omega)]), by rw [List.length_append]; omega, by rw [y_si_at, if_neg (by omega), q3.1 42 7 (by omega)]; exact w1.2.2.2.1, ?_⟩
            rw [y_si_same, List.length_append, List.length_singleton]
            show _ = (if ((C1 ++ [((10, 0, 0, 0, mX ℓ, ℓ) : IT)]).getD C1.length dIT).2.2.2.2.1 = mX ℓ then nI C1.length else _)
            have : (C1 ++ [((10, 0, 0, 0, mX ℓ, ℓ) : IT)]).getD C1.length dIT = (10, 0, 0, 0, mX ℓ, ℓ) := by
              rw [List.getD_eq_getElem?_getD, List.getElem?_append_right (Nat.le_refl _), Nat.sub_self]
              rfl
            rw [this, if_pos rfl]
          · exact (s1.tr q.2.2.s).tr ⟨fun a i w => by rw [y_si_at, if_neg (by omega)], fun i w => by rw [y_si_at, if_neg (by omega)], fun i w => by rw [y_si_at, if_neg (by omega)], rfl⟩
        · have ef : f c (C1.length - u) = [j1 18 0] := by
            rw [← hf0]
            unfold wT
            rw [if_neg y1, if_neg y2, if_neg y3, if_neg y4, if_neg y5, if_neg y6]
          rw [ef, List.length_singleton] at hl
          refine yC.mono (show d + 2 ≤ d + 3 * N + 10 by omega) (fun r m2 q => ⟨q.1, nxt _ ?_ (s1.tr q.2.2.s)⟩) (c193 xs d w1.2.1 (by omega) 18 0)
          rw [ef]
          exact w1.ek q.2.2 q.2.1 ((mk0.i rfl).nx ℓ)
    refine w195_0 xs (d + 3 * N + 10) _ m _ ?_
    rw [nI_1]
    exact lp (kids F n) (n + 1) C m hW.til (fun c hc => hc) (by omega) h (mk.w (by omega)) (SK.re m) hl
