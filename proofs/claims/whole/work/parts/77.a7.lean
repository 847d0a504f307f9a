/-! THE WRITER: CASE, FOR, bodies of the class -/
/-- a case's ranges and its body -/
theorem k17_s {m0 : yM} {T : Nat} {F : List ND} {N c : Nat} (h : TW m0 T F N c) (k : kK F c = 17) : kids F c = rgK F c ++ [lsK F c] ∧ (∀ r, r ∈ rgK F c → kK F r = 18 ∧ r ∈ kids F c) ∧ kK F (lsK F c) = 11 ∧ lsK F c ∈ kids F c ∧ (rgK F c).length ≤ 8192 ∧ lsK F c + szF F (lsK F c) = c + szF F c := by
  have ok := h.ok
  rw [k] at ok
  obtain ⟨-, r, hr, hne, eks, hl⟩ := ok
  have ne : ¬ kids F c = [] := fun z => by rw [z] at eks; simp at eks
  have l1 : (kids F c).length = r.length + 1 := by
    have := congrArg List.length eks
    rw [List.length_map, List.length_append, List.length_singleton] at this
    exact this
  have hs : kids F c = rgK F c ++ [lsK F c] := by
    unfold rgK lsK
    have := List.dropLast_concat_getLast ne
    rw [List.getLast_eq_getElem] at this
    rw [List.getD_eq_getElem?_getD, List.getElem?_eq_getElem (by omega)]
    exact this.symm
  have hm := eks
  rw [hs, List.map_append] at hm
  have lr : ((rgK F c).map (kK F)).length = r.length := by
    rw [List.length_map]
    have := congrArg List.length hs
    rw [List.length_append, List.length_singleton] at this
    omega
  obtain ⟨q1, q2⟩ := List.append_inj hm lr
  have lm : lsK F c ∈ kids F c := by rw [hs]; exact List.mem_append_right _ List.mem_cons_self
  refine ⟨hs, fun x hx => ⟨hr _ (by rw [← q1]; exact List.mem_map_of_mem hx), by rw [hs]; exact List.mem_append_left _ hx⟩, (List.cons.inj q2).1, lm, by rw [List.length_map] at lr; omega, ?_⟩
  have t := h.til
  rw [hs] at t
  have go : ∀ (L : List Nat) (i : Nat), tile F (L ++ [lsK F c]) i (c + szF F c) → lsK F c + szF F (lsK F c) = c + szF F c := by
    intro L
    induction L with
    | nil =>
      intro i h
      obtain ⟨h1, h2⟩ := h
      have h2 : i + szF F i = c + szF F c := h2
      rw [h1]
      exact h2
    | cons a L ih => intro i h; exact ih _ h.2
  exact go _ _ t
theorem c208 (xs : List Int32) (d : Nat) {m0 : yM} {T : Nat} {F : List ND} {s : SU} (hS : HS m0 T F s) {N c : Nat} (hW : TW m0 T F N c) (k : kK F c = 17) (own : Int32) {C : List IT} {m : yM} (h : CR F s.1 m) (hc : CO C m) (hl : C.length + (rgL F s.1 own (rgK F c) 0).length < 2 ^ 30) : yC (xg xs) (d + 3) 208 [.ref 42, .int (nI c), .int own] m (fun r m' => r = some (.int (nI (lsK F c))) ∧ CO (C ++ rgL F s.1 own (rgK F c) 0) m' ∧ EK m m') := by
  obtain ⟨hs, hr, kb, bm, l8, be⟩ := k17_s hW k
  have at' := hW.at
  have hf := h.f
  have zb := hW.kin bm
  have lp : ∀ (L : List Nat) (i j : Nat) (C1 : List IT) (m1 : yM), tile F (L ++ [lsK F c]) i (c + szF F c) → (∀ r, r ∈ L → r ∈ rgK F c) → j + L.length ≤ 8192 → EK m m1 → CO C1 m1 → C1.length + (rgL F s.1 own L j).length < 2 ^ 30 → yP (xg xs) (d + 3) 208 7 [(0, .ref 42), (2, .int own), (3, .int (nI i)), (4, .int (nI j))] [] m1 (fun r m' => r = some (.int (nI (lsK F c))) ∧ CO (C1 ++ rgL F s.1 own L j) m' ∧ EK m m') := by
    intro L
    induction L with
    | nil =>
      intro i j C1 m1 ht _ hj ek hc hl
      have ei : lsK F c = i := ht.1
      subst ei
      have e0 : rgL F s.1 own [] j = [] := rfl
      rw [e0, List.append_nil]
      have kbs : s.1.2.2.1 (lsK F c) = 11 := by
        rcases hS.ks zb.2.2.2.1 with y | ⟨y, w⟩
        · rw [y, kb]; rfl
        · omega
      refine w208_7 xs (d + 2) _ _ _ m1 _ ⟨fun _ => ⟨rfl, hc, ek⟩, fun _ => ⟨x_in_nI (by omega) (by decide), ?_⟩⟩
      rw [nI_clamp (by omega), ((h.e ek).t zb.2.2.2.1).1, kbs]
      exact ⟨fun _ => ⟨rfl, hc, ek⟩, fun z => absurd z (by decide)⟩
    | cons r L ih =>
      intro i j C1 m1 ht hm hj ek hc hl
      obtain ⟨rfl, ht⟩ := ht
      rw [List.length_cons] at hj
      obtain ⟨k18, rm⟩ := hr r (hm r List.mem_cons_self)
      have z := hW.kin rm
      obtain ⟨M, hM⟩ := hS.1.1 r z.2.2.2.1
      have ok := hM.ok
      rw [k18] at ok
      obtain ⟨-, a, s', ha, hs', eks⟩ := ok
      have cr := h.e ek
      have krs : s.1.2.2.1 r = 18 := by
        rcases hS.ks z.2.2.2.1 with y | ⟨y, w⟩
        · rw [y, k18]; rfl
        · omega
      obtain ⟨g1, g2, g3⟩ := hM.k0 eks
      have z1 := hM.kin g2
      have s1 : szF F (r + 1) = 1 := by
        obtain ⟨M', hM'⟩ := hS.1.1 (r + 1) z1.2.2.2.1
        exact (hM'.leaf (by rw [g3]; rcases ha with y | y <;> rw [y] <;> rfl)).1
      have sz : szF F r = 2 ∨ (szF F r = 3 ∧ r + 2 < F.length) := by
        rcases hs' with rfl | ⟨x, hx, rfl⟩
        · obtain ⟨q1, q2, q3, q4⟩ := hM.k1 eks
          left
          omega
        · obtain ⟨q1, q2, q3, q4, q5⟩ := hM.k2 eks
          have til := hM.til
          rw [q1] at til
          have til : r + 1 + szF F (r + 1) + szF F (r + 1 + szF F (r + 1)) = r + szF F r := til.2.2
          have s2 : szF F (r + 1 + szF F (r + 1)) = 1 := by
            obtain ⟨M', hM'⟩ := hS.1.1 _ q4
            exact (hM'.leaf (by rw [q3]; rcases hx with y | y <;> rw [y] <;> rfl)).1
          right
          rw [s1] at q4
          exact ⟨by omega, q4⟩
      have xr : x_in (nI r) 16401 = true := x_in_nI (by omega) (by decide)
      have er : (nI r).toNatClampNeg = r := nI_clamp (by omega)
      have e0 : rgL F s.1 own (r :: L) j = [j1 1 own, j1 0 (s.1.2.2.2.1 (r + 1))] ++ ((if szF F r = 2 then [j1 7 13] else [j1 7 18, j1 1 own, j1 0 (s.1.2.2.2.1 (r + 2)), j1 7 17, j1 7 10]) ++ ((if 1 ≤ j then [j1 7 11] else []) ++ rgL F s.1 own L (j + 1))) := rfl
      rw [e0] at hl ⊢
      simp only [List.length_append] at hl
      have hl : C1.length + (2 + ((if szF F r = 2 then [j1 7 13] else [j1 7 18, j1 1 own, j1 0 (s.1.2.2.2.1 (r + 2)), j1 7 17, j1 7 10]).length + ((if 1 ≤ j then [j1 7 11] else []).length + (rgL F s.1 own L (j + 1)).length))) < 2 ^ 30 := hl
      -- behind the comparison
      have s123 : ∀ (C2 : List IT) (m2 : yM), EK m m2 → CO C2 m2 → C2.length + ((if 1 ≤ j then [j1 7 11] else []).length + (rgL F s.1 own L (j + 1)).length) < 2 ^ 30 → yP (xg xs) (d + 3) 208 123 [(0, .ref 42), (2, .int own), (3, .int (nI r)), (4, .int (nI j))] [] m2 (fun r m' => r = some (.int (nI (lsK F c))) ∧ CO (C2 ++ ((if 1 ≤ j then [j1 7 11] else []) ++ rgL F s.1 own L (j + 1))) m' ∧ EK m m') := by
        intro C2 m2 ek2 hc2 hl2
        have s136 : ∀ (C3 : List IT) (m3 : yM), EK m m3 → CO C3 m3 → C3.length + (rgL F s.1 own L (j + 1)).length < 2 ^ 30 → yP (xg xs) (d + 3) 208 136 [(0, .ref 42), (2, .int own), (3, .int (nI r)), (4, .int (nI j))] [] m3 (fun r m' => r = some (.int (nI (lsK F c))) ∧ CO (C3 ++ rgL F s.1 own L (j + 1)) m' ∧ EK m m') := by
          intro C3 m3 ek3 hc3 hl3
          refine w208_136 xs (d + 2) _ _ _ m3 _ ⟨xr, ?_⟩
          rw [er, ((h.e ek3).t z.2.2.2.1).2.2.2.2.1, nI_1]
          exact ih (r + szF F r) (j + 1) C3 m3 ht (fun x hx => hm x (List.mem_cons_of_mem _ hx)) (by omega) ek3 hc3 hl3
        refine w208_123 xs (d + 2) _ _ _ m2 _ ⟨fun y => ?_, fun y => ?_⟩
        · have j0 := (nI_leI (b := 0) (by omega) (by omega)).mp y
          rw [if_neg (by omega)] at hl2 ⊢
          rw [List.nil_append]
          exact s136 C2 m2 ek2 hc2 (by simpa using hl2)
        · have j0 : 1 ≤ j := by
            rcases Nat.lt_or_ge j 1 with q | q
            · exact absurd (nI_le (b := 0) (by omega) (by omega)) y
            · exact q
          rw [if_pos j0] at hl2 ⊢
          rw [List.length_singleton] at hl2
          refine yC.mono (by omega) (fun r' m3 q => ⟨q.1, ?_⟩) (c193 xs d hc2 (by omega) 7 11)
          have := s136 _ m3 (ek2.tr q.2.2) q.2.1 (by rw [List.length_append, List.length_singleton]; omega)
          rw [List.append_assoc] at this
          exact this
      refine w208_7 xs (d + 2) _ _ _ m1 _ ⟨fun y => ?_, fun _ => ⟨xr, ?_⟩⟩
      · have := (nI_leI (a := 8192) (by omega) (by omega)).mp y
        omega
      · rw [er, (cr.t z.2.2.2.1).1]
        refine ⟨fun y => absurd krs y, fun _ => ?_⟩
        refine yC.mono (by omega) (fun r' m2 q => ⟨q.1, by rw [nI_1]; exact x_in_nI (by omega) (by decide), ?_⟩) (c193 xs d hc (by omega) 1 own)
        have cr2 := cr.e q.2.2
        rw [nI_1, nI_clamp (by omega), (cr2.t z1.2.2.2.1).2.2.1]
        refine yC.mono (by omega) (fun r' m3 q3 => ⟨q3.1, xr, ?_⟩) (c193 xs d q.2.1 (by rw [List.length_append, List.length_singleton]; omega) 0 _)
        have cr3 := cr2.e q3.2.2
        have ek3 := (ek.tr q.2.2).tr q3.2.2
        have l3 : (C1 ++ [j1 1 own] ++ [j1 0 (s.1.2.2.2.1 (r + 1))]).length = C1.length + 2 := by simp
        rw [(cr3.t z.2.2.2.1).2.2.2.2.1]
        have i2 : nI (r + szF F r) = nI r + 2 ↔ szF F r = 2 := by
          rw [show nI r + 2 = nI (r + 2) from nI_add r 2]
          constructor
          · intro y
            have := (nI_eq (by omega) (by omega)).mp y
            omega
          · intro y
            rw [y]
        refine ⟨fun y => ?_, fun y => ?_⟩
        · have n2 : ¬ szF F r = 2 := fun w => y (i2.mpr w)
          obtain ⟨z3, z4⟩ := sz.resolve_left n2
          rw [if_neg n2] at hl ⊢
          have hl : C1.length + (2 + (5 + ((if 1 ≤ j then [j1 7 11] else []).length + (rgL F s.1 own L (j + 1)).length))) < 2 ^ 30 := hl
          refine yC.mono (by omega) (fun r' m4 q4 => ⟨q4.1, ?_⟩) (c193 xs d q3.2.1 (by omega) 7 18)
          refine yC.mono (by omega) (fun r' m5 q5 => ⟨q5.1, by rw [show nI r + 2 = nI (r + 2) from nI_add r 2]; exact x_in_nI (by omega) (by decide), ?_⟩) (c193 xs d q4.2.1 (by rw [List.length_append, l3, List.length_singleton]; omega) 1 own)
          have cr5 := (cr3.e q4.2.2).e q5.2.2
          rw [show nI r + 2 = nI (r + 2) from nI_add r 2, nI_clamp (by omega), (cr5.t z4).2.2.1]
          refine yC.mono (by omega) (fun r' m6 q6 => ⟨q6.1, ?_⟩) (c193 xs d q5.2.1 (by simp only [List.length_append, List.length_singleton]; omega) 0 _)
          refine yC.mono (by omega) (fun r' m7 q7 => ⟨q7.1, ?_⟩) (c193 xs d q6.2.1 (by simp only [List.length_append, List.length_singleton]; omega) 7 17)
          refine yC.mono (by omega) (fun r' m8 q8 => ⟨q8.1, ?_⟩) (c193 xs d q7.2.1 (by simp only [List.length_append, List.length_singleton]; omega) 7 10)
          have := s123 _ m8 (((((ek3.tr q4.2.2).tr q5.2.2).tr q6.2.2).tr q7.2.2).tr q8.2.2) q8.2.1 (by simp only [List.length_append, List.length_singleton]; omega)
          simp only [List.append_assoc] at this
          simp only [List.append_assoc, List.cons_append, List.nil_append] at this ⊢
          exact this
        · have w2 := i2.mp y
          rw [if_pos w2] at hl ⊢
          rw [List.length_singleton] at hl
          refine yC.mono (by omega) (fun r' m4 q4 => ⟨q4.1, ?_⟩) (c193 xs d q3.2.1 (by omega) 7 13)
          have := s123 _ m4 (ek3.tr q4.2.2) q4.2.1 (by simp only [List.length_append, List.length_singleton]; omega)
          simp only [List.append_assoc, List.cons_append, List.nil_append] at this ⊢
          exact this
  refine w208_0 xs (d + 2) _ _ m _ ?_
  rw [nI_1]
  have t := hW.til
  rw [hs] at t
  exact lp (rgK F c) (c + 1) 0 C m t (fun r hr => hr) (by omega) (EK.re m) hc hl
theorem c207 (xs : List Int32) (D : Nat) {m0 : yM} {T : Nat} {F : List ND} {s : SU} (hS : HS m0 T F s) {N n u ℓ : Nat} (hW : TW m0 T F N n) (k : kK F n = 16) (ℓn : ℓ < n) {e : Nat → List IT} (h0 : ∀ c, mk0 (e c)) (he : ∀ c, wE F c → c < n + szF F n → n < c → exC xs (D + 2) F s.1 e c) {bd : Nat → Nat → Nat → List IT} (h2 : ∀ ℓ b p, mk2 ℓ (bd ℓ b p)) (hb : ∀ b, n < b → b < n + szF F n → kK F b = 11 → bodC xs (D + 1) F s.1 u ℓ (bd ℓ) b ∧ bodC xs (D + 2) F s.1 u ℓ (bd ℓ) b) (hD : 1 ≤ D) : staC xs (D + 3) 207 F s.1 u ℓ (wT F s.1 e bd ℓ n) n := by
  intro C m h mk hl
  have at' := hW.at
  have hn : n < F.length := by omega
  have hf := h.1.f
  have hu := h.2.2.1
  have ok := hW.ok
  rw [k] at ok
  obtain ⟨-, ge, cs, sx, hge, hcs, hsx, eks⟩ := ok
  have ks : s.1.2.2.1 n = 16 := by
    rcases hS.ks hn with y | ⟨y, z⟩
    · rw [y, k]; rfl
    · omega
  obtain ⟨g1, g2, g3⟩ := hW.k0 eks
  have w1 := hS.kid hW hn g2 (by omega) (by rw [g3]; exact hge)
  have z1 := hW.kin g2
  generalize hWf : e (n + 1) ++ ([j1 2 (s.1.2.2.2.2 n)] ++ wCs F s.1 n (bd ℓ) (kids F n).tail (C.length - u + (e (n + 1)).length + 1)) = WW
  have ew : wT F s.1 e bd ℓ n (C.length - u) = res (mE n) (nI (C.length - u + WW.length)) WW := by
    unfold wT
    rw [if_neg (by rw [ks]; decide), if_neg (by rw [ks]; decide), if_neg (by rw [ks]; decide), if_pos ks, hWf]
  rw [ew] at hl ⊢
  rw [res_len] at hl
  have xi : x_in (nI n) 16401 = true := x_in_nI (by omega) (by decide)
  have ei : (nI n).toNatClampNeg = n := nI_clamp (by omega)
  have nmE : ¬ mE n = 0 := by unfold mE; omega
  have noC : ∀ x, x ∈ C → ¬ x.2.2.2.2.1 = mE n := fun x hx z => by
    have := mk x hx
    rw [z] at this
    unfold mE at this
    omega
  have fin : ∀ (m1 : yM), WC F s.1 u ℓ (C ++ WW) m1 → SK m m1 → yC (xg xs) (D + 2) 205 [.ref 42] m1 (fun v1 m1' => ∃ u1, v1 = some (Value.int u1) ∧ yC (xg xs) (D + 2) 206 [.ref 35, .int (prv (C ++ WW) (mE n) (C ++ WW).length), .int u1] m1' (fun v2 m2 => v2 = none ∧ (none = (none : Option Value) ∧ WC F s.1 u ℓ (C ++ res (mE n) (nI (C.length - u + WW.length)) WW) m2 ∧ SK m m2))) := by
    intro m1 w1 s1
    refine y_ci (c205 xs D w1.2.1 w1.2.2.2.1 w1.2.2.1) (by omega) ?_
    refine yC.mono (by omega) (fun r m2 q => ⟨q.1, rfl, ?_⟩) (c206 xs D w1.2.1 nmE _)
    have e1 : (C ++ WW).length - u = C.length - u + WW.length := by rw [List.length_append]; omega
    have er : res (mE n) (nI ((C ++ WW).length - u)) (C ++ WW) = C ++ res (mE n) (nI (C.length - u + WW.length)) WW := by rw [res_app, res_n noC, e1]
    have c2 := q.2.1
    rw [er] at c2
    refine ⟨⟨w1.1.e q.2.2, c2, by rw [List.length_append]; omega, by rw [q.2.2.1 42 7 (by omega)]; exact w1.2.2.2.1, ?_⟩, s1.tr q.2.2.s⟩
    rw [q.2.2.1 42 9 (by omega), w1.2.2.2.2, ← er, prv_r _ _ nmE (by unfold mX; omega) (by unfold mX mE; omega), res_len]
  have lp : ∀ (L : List Nat) (i : Nat) (W : List IT) (m1 : yM), tile F L i (n + szF F n) → (∀ c, c ∈ L → c ∈ kids F n ∧ (kK F c = 17 ∨ kK F c = 11)) → WC F s.1 u ℓ (C ++ W) m1 → mk3 ℓ n W → SK m m1 → W ++ wCs F s.1 n (bd ℓ) L (C.length - u + W.length) = WW → yP (xg xs) (D + 3) 207 38 [(0, .ref 42), (1, .int (nI n)), (2, .int (s.1.2.2.2.2 n)), (3, .int (prv (C ++ W) (mE n) (C ++ W).length)), (4, .int (nI i))] [] m1 (fun r m' => r = none ∧ WC F s.1 u ℓ (C ++ res (mE n) (nI (C.length - u + WW.length)) WW) m' ∧ SK m m') := by
    intro L
    induction L with
    | nil =>
      intro i W m1 ht _ w1 m3 s1 eW
      have ht : i = n + szF F n := ht
      have e0 : wCs F s.1 n (bd ℓ) [] (C.length - u + W.length) = [] := rfl
      rw [e0, List.append_nil] at eW
      refine w207_38 xs (D + 2) _ _ _ _ m1 _ ⟨xi, ?_⟩
      rw [ei, (w1.1.t hn).2.2.2.2.1, ht, eW]
      rw [eW] at w1
      exact ⟨fun _ => fin m1 w1 s1, fun z => absurd (nI_le (Nat.le_refl _) (by omega)) z⟩
    | cons c L ih =>
      intro i W m1 ht hk w1 m3 s1 eW
      obtain ⟨rfl, ht⟩ := ht
      obtain ⟨cm, kc⟩ := hk c List.mem_cons_self
      have z := hW.kin cm
      have cr := w1.1
      have xc : x_in (nI c) 16401 = true := x_in_nI (by omega) (by decide)
      have ec : (nI c).toNatClampNeg = c := nI_clamp (by omega)
      have kcs : s.1.2.2.1 c = nI (kK F c) := by
        rcases hS.ks z.2.2.2.1 with y | ⟨y, w⟩
        · exact y
        · omega
      have pW : (C ++ W).length - u = C.length - u + W.length := by rw [List.length_append]; omega
      have lW := congrArg List.length eW
      rw [List.length_append] at lW
      refine w207_38 xs (D + 2) _ _ _ _ m1 _ ⟨xi, ?_⟩
      rw [ei, (cr.t hn).2.2.2.2.1, ec, (cr.t z.2.2.2.1).1]
      refine ⟨fun y => ?_, fun _ => ⟨xc, fun y => ?_, fun y => ?_⟩⟩
      · have := (nI_leI (by omega) (by omega)).mp y
        omega
      · -- a case
        have k17 : kK F c = 17 := by
          rcases kc with q | q
          · exact q
          · exfalso; apply y; rw [kcs, q]; rfl
        obtain ⟨M, hM⟩ := hS.1.1 c z.2.2.2.1
        obtain ⟨hs, hr, kb, bm, l8, be⟩ := k17_s hM k17
        have zb := hM.kin bm
        generalize hmo : (!L.isEmpty) = mo
        have emo : mo = true ↔ lsK F c + szF F (lsK F c) < n + szF F n := by
          rw [← hmo, be]
          cases L with
          | nil =>
            have ht : c + szF F c = n + szF F n := ht
            exact ⟨fun y => by (cases y), fun y => by omega⟩
          | cons q L =>
            obtain ⟨e1, e2⟩ := ht
            have := tile.le e2
            have zq := hW.kin (hk q (List.mem_cons_of_mem _ List.mem_cons_self)).1
            exact ⟨fun _ => by omega, fun _ => rfl⟩
        generalize hR : rgL F s.1 (s.1.2.2.2.2 n) (rgK F c) 0 = R
        have R0 : mk0 R := by rw [← hR]; exact rgL_0 _ _ _ _ _
        have e0 : wCs F s.1 n (bd ℓ) (c :: L) (C.length - u + W.length) = R ++ (wy n (bd ℓ) (lsK F c) mo (C.length - u + W.length + R.length) ++ wCs F s.1 n (bd ℓ) L (C.length - u + W.length + R.length + (wy n (bd ℓ) (lsK F c) mo (C.length - u + W.length + R.length)).length)) := by
          conv => lhs; unfold wCs
          rw [if_neg y, hR, hmo]
        rw [e0] at eW lW
        simp only [List.length_append] at lW
        have c8 := c208 xs (D - 1) hS hM k17 (s.1.2.2.2.2 n) cr w1.2.1 (by rw [hR, List.length_append]; omega)
        rw [hR] at c8
        refine yC.mono (by omega) (fun r m2 q => ⟨_, q.1, xi, ?_⟩) c8
        obtain ⟨-, q2, q3⟩ := q
        have w2 := w1.ek q3 q2 (R0.nx ℓ)
        have ne0 : ∀ x, x ∈ R → ¬ x.2.2.2.2.1 = mE n := fun x hx y => by rw [R0 x hx] at y; unfold mE at y; omega
        rw [(w2.1.t hn).2.2.2.2.1]
        have pW2 : (C ++ W ++ R).length - u = C.length - u + W.length + R.length := by simp only [List.length_append]; omega
        have c4 := c204 xs D (n := n) (hb (lsK F c) (by omega) (by omega) kb).1 (h2 ℓ _) (by omega) zb.2.2.2.1 (by omega) emo w2 ((((mk.w (by omega)).app (m3.k (by unfold mX; omega) (by unfold mE; omega)))).app (R0.k _)) (by rw [pW2]; simp only [List.length_append]; omega)
        rw [pW2, prv_x ne0] at c4
        refine yC.mono (Nat.le_refl _) (fun r m3' q4 => ⟨_, q4.1, ?_⟩) c4
        obtain ⟨-, w4, s4⟩ := q4
        refine w207_98 xs (D + 2) _ _ _ _ m3' _ ⟨xc, ?_⟩
        rw [ec, (w4.1.t z.2.2.2.1).2.2.2.2.1]
        have ap : C ++ W ++ R ++ wy n (bd ℓ) (lsK F c) mo (C.length - u + W.length + R.length) = C ++ (W ++ (R ++ wy n (bd ℓ) (lsK F c) mo (C.length - u + W.length + R.length))) := by simp only [List.append_assoc]
        rw [ap] at w4 ⊢
        refine ih (c + szF F c) (W ++ (R ++ wy n (bd ℓ) (lsK F c) mo (C.length - u + W.length + R.length))) m3' ht (fun x hx => hk x (List.mem_cons_of_mem _ hx)) w4 (m3.app (R0.w.w.app (wy_3 (h2 ℓ) _ mo _))) ((s1.tr q3.s).tr s4) ?_
        rw [← eW]
        simp only [List.length_append, List.append_assoc]
        congr 3
        congr 1
        omega
      · -- otherwise
        have k11 : kK F c = 11 := by
          rw [kcs] at y
          exact (nI_eq (b := 11) (by omega) (by omega)).mp y
        have e0 : wCs F s.1 n (bd ℓ) (c :: L) (C.length - u + W.length) = bd ℓ c (C.length - u + W.length) ++ wCs F s.1 n (bd ℓ) L (C.length - u + W.length + (bd ℓ c (C.length - u + W.length)).length) := by
          conv => lhs; unfold wCs
          rw [if_pos y]
        rw [e0] at eW lW
        simp only [List.length_append] at lW
        have hbb := (hb c z.1 z.2.1 k11).2 (C ++ W) m1 w1 ((mk.w (by omega)).app (m3.k (by unfold mX; omega) (by unfold mE; omega))) (by rw [pW, List.length_append]; omega)
        rw [pW] at hbb
        refine yC.mono (Nat.le_refl _) (fun r m2 q => ⟨q.1, ?_⟩) hbb
        obtain ⟨-, w2, s2⟩ := q
        have pp : prv (C ++ W ++ bd ℓ c (C.length - u + W.length)) (mE n) (C ++ W ++ bd ℓ c (C.length - u + W.length)).length = prv (C ++ W) (mE n) (C ++ W).length := prv_x (fun x hx y => by
          rcases h2 ℓ c _ x hx with w | w
          · rw [w] at y; unfold mE at y; omega
          · rw [w] at y; unfold mE mX at y; omega)
        refine w207_98 xs (D + 2) _ _ _ _ m2 _ ⟨xc, ?_⟩
        rw [ec, (w2.1.t z.2.2.2.1).2.2.2.2.1, ← pp]
        rw [List.append_assoc] at w2 ⊢
        refine ih (c + szF F c) (W ++ bd ℓ c (C.length - u + W.length)) m2 ht (fun x hx => hk x (List.mem_cons_of_mem _ hx)) w2 (m3.app (h2 ℓ c _).w) (s1.tr s2) ?_
        rw [← eW]
        simp only [List.length_append, List.append_assoc]
        congr 2
        congr 1
        omega
  refine w207_0 xs (D + 2) _ m _ ⟨xi, ?_⟩
  have lW0 := congrArg List.length hWf
  simp only [List.length_append, List.length_singleton] at lW0
  rw [ei, (h.1.t hn).2.2.2.1, nI_1]
  refine yC.mono (Nat.le_refl _) (fun r m2 q => ⟨q.1, ?_⟩) (he (n + 1) w1 z1.2.1 z1.1 C m h.1 h.2.1 (by omega))
  obtain ⟨-, q2, q3⟩ := q
  have wa := h.ek q3 q2 ((h0 _).nx ℓ)
  refine yC.mono (by omega) (fun r m3 q4 => ⟨q4.1, x_in_nI (by omega) (by decide), ?_⟩) (c193 xs D q2 (by rw [List.length_append]; omega) 2 _)
  obtain ⟨-, q5, q6⟩ := q4
  have wb := wa.ek q6 q5 ((mk0.i (x := j1 2 (s.1.2.2.2.2 n)) rfl).nx ℓ)
  rw [nI_clamp (by omega), (wb.1.t w1.1).2.2.2.2.1]
  have p0 : prv (C ++ (e (n + 1) ++ [j1 2 (s.1.2.2.2.2 n)])) (mE n) (C ++ (e (n + 1) ++ [j1 2 (s.1.2.2.2.2 n)])).length = -1 := by
    rw [prv_x (fun x hx y => by rw [((h0 _).app (mk0.i rfl)) x hx] at y; unfold mE at y; omega)]
    exact prv_n nmE noC _
  rw [List.append_assoc] at wb
  have til := hW.til
  have hT : ∃ L, kids F n = (n + 1) :: L := by
    cases hq : kids F n with
    | nil => rw [hq] at g1; cases g1
    | cons a L =>
      rw [hq] at g1
      have := Option.some.inj g1
      rw [this]
      exact ⟨L, rfl⟩
  obtain ⟨L, hL⟩ := hT
  rw [hL] at til eks hWf
  have := lp L (n + 1 + szF F (n + 1)) (e (n + 1) ++ [j1 2 (s.1.2.2.2.2 n)]) m3 til.2 (fun c hc => ⟨by rw [hL]; exact List.mem_cons_of_mem _ hc, by
    have hc' : kK F c ∈ cs ++ sx := by
      rw [← (List.cons.inj eks).2]
      exact List.mem_map_of_mem hc
    rcases List.mem_append.mp hc' with y | y
    · exact Or.inl (hcs _ y)
    · exact Or.inr (elsK_m hsx y)⟩) wb ((h0 _).app (mk0.i rfl)).w.w (q3.s.tr q6.s) (by
      rw [← hWf]
      show _ = e (n + 1) ++ ([j1 2 (s.1.2.2.2.2 n)] ++ wCs F s.1 n (bd ℓ) L (C.length - u + (e (n + 1)).length + 1))
      simp only [List.length_append, List.length_singleton, List.append_assoc]
      rfl)
  rw [p0] at this
  exact this
