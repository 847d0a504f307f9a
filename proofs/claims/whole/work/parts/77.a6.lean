/-! THE WRITER: statements of the class, one by one -/
def staC (xs : List Int32) (D j : Nat) (F : List ND) (σ : RS) (u ℓ : Nat) (w : Nat → List IT) (n : Nat) : Prop := ∀ (C : List IT) (m : yM), WC F σ u ℓ C m → MK C (2 * n) → C.length + (w (C.length - u)).length < 2 ^ 30 → yC (xg xs) D j [.ref 42, .int (nI n)] m (fun r m' => r = none ∧ WC F σ u ℓ (C ++ w (C.length - u)) m' ∧ SK m m')
/-- expressions below a statement -/
def exC (xs : List Int32) (D : Nat) (F : List ND) (σ : RS) (e : Nat → List IT) (c : Nat) : Prop := ∀ (C : List IT) (m : yM), CR F σ m → CO C m → C.length + (e c).length < 2 ^ 30 → yC (xg xs) D 197 [.ref 42, .int (nI c)] m (fun r m' => r = none ∧ CO (C ++ e c) m' ∧ EK m m')
theorem c196 (xs : List Int32) (d : Nat) {m0 : yM} {T : Nat} {F : List ND} {s : SU} (hS : HS m0 T F s) {N n u ℓ : Nat} (hW : TW m0 T F N n) (k : kK F n = 12) {e : Nat → List IT} (h0 : ∀ c, mk0 (e c)) (he : ∀ c, wE F c → c < n + szF F n → n < c → exC xs (d + 2) F s.1 e c) {bd : Nat → Nat → Nat → List IT} : staC xs (d + 3) 196 F s.1 u ℓ (wT F s.1 e bd ℓ n) n := by
  intro C m h mk hl
  have at' := hW.at
  have hn : n < F.length := by omega
  have hf := h.1.f
  have ok := hW.ok
  rw [k] at ok
  obtain ⟨-, a, b, ha, hb, eks⟩ := ok
  obtain ⟨m1, m2, m3, m4, m5⟩ := hW.k2 eks
  have c1 : n + 1 ∈ kids F n := by rw [m1]; exact List.mem_cons_self
  have c2 : n + 1 + szF F (n + 1) ∈ kids F n := by rw [m1]; exact List.mem_cons_of_mem _ List.mem_cons_self
  have z1 := hW.kin c1
  have z2 := hW.kin c2
  have x1 : exK (kK F (n + 1)) := by rw [m2]; unfold exK; omega
  have w1 := hS.kid hW hn c1 (by omega) x1
  have w2 := hS.kid hW hn c2 (by omega) (by rw [m3]; exact hb)
  have ks : s.1.2.2.1 n = 12 := by
    rcases hS.ks hn with y | ⟨y, z⟩
    · rw [y, k]; rfl
    · omega
  have k1s : s.1.2.2.1 (n + 1) = nI (kK F (n + 1)) := by
    rcases hS.ks w1.1 with y | ⟨y, z⟩
    · exact y
    · omega
  have es : wT F s.1 e bd ℓ n (C.length - u) = (if s.1.2.2.1 (n + 1) = 32 then e (n + 2) ++ (e (n + 1 + szF F (n + 1)) ++ [cEl s.1 4 (s.1.2.2.2.1 (n + 1)).toNatClampNeg]) else e (n + 1 + szF F (n + 1)) ++ [j1 2 (clV s.1 (n + 1))]) := by
    unfold wT
    rw [if_pos ks]
  rw [es] at hl ⊢
  have e1 : (nI n + 1).toNatClampNeg = n + 1 := by rw [nI_1]; exact nI_clamp (by omega)
  have xi1 : x_in (nI n + 1) 16401 = true := by rw [nI_1]; exact x_in_nI (by omega) (by decide)
  have t1 := h.1.t w1.1
  have n2 := h.1.nV.2
  refine w196_0 xs (d + 2) _ m _ ⟨xi1, xi1, ?_⟩
  rw [e1, t1.1, t1.2.2.2.2.1]
  have fin : ∀ {D : List IT} {m' : yM}, mk0 D → CO (C ++ D) m' → EK m m' → WC F s.1 u ℓ (C ++ D) m' ∧ SK m m' := fun hd c ek => ⟨h.ek ek c (hd.nx ℓ), ek.s⟩
  refine ⟨fun z => ?_, fun z => ?_⟩
  · rw [if_neg z] at hl ⊢
    rw [List.length_append, List.length_singleton] at hl
    have k6 : kK F (n + 1) = 6 := by
      rw [m2]
      rcases ha with y | y
      · exact y
      · exfalso
        apply z
        rw [k1s, m2, y]
        rfl
    obtain ⟨v, v1, v2, v3⟩ := (hS.v w1.1).1 k6 w1.2.2
    have vl := ((vOk_i _ _).mp v2).1
    refine yC.mono (Nat.le_refl _) (fun r m2' q => ⟨q.1, xi1, ?_⟩) (he _ w2 z2.2.1 z2.1 C m h.1 h.2.1 (by omega))
    have cr2 := h.1.e q.2.2
    rw [(cr2.t w1.1).2.2.1, v1, nI_clamp (by omega), (cr2.v v2).2.2.2.2.2.1]
    refine ⟨x_in_nI (by omega) (by decide), yC.mono (Nat.le_refl _) (fun r m3' q3 => ⟨q3.1, rfl, ?_⟩) (c193 xs d q.2.1 (by rw [List.length_append]; omega) 2 _)⟩
    have ce : clV s.1 (n + 1) = (vD s.1 v).2.2.2 := by unfold clV; rw [v1, nI_clamp (by omega)]
    have := q3.2.1
    rw [List.append_assoc, ← ce] at this
    exact fin ((h0 _).app (mk0.i rfl)) this (q.2.2.tr q3.2.2)
  · rw [if_pos z] at hl ⊢
    simp only [List.length_append, List.length_singleton] at hl
    have k32 : kK F (n + 1) = 32 := by
      rw [k1s] at z
      exact (nI_eq (b := 32) (by have := hS.1.2.1 _ w1.1; omega) (by omega)).mp z
    obtain ⟨v, v1, v2, v3⟩ := (hS.v w1.1).2.1 k32
    have vl := ((vOk_i _ _).mp v2).1
    obtain ⟨M, hM⟩ := hS.1.1 (n + 1) w1.1
    have ok1 := hM.ok
    rw [k32] at ok1
    obtain ⟨-, a', ha', eks'⟩ := ok1
    obtain ⟨p1, p2, p3, p4⟩ := hM.k1 eks'
    have c3 : n + 1 + 1 ∈ kids F (n + 1) := by rw [p1]; exact List.mem_cons_self
    have w3 := hS.kid hM w1.1 c3 (by omega) (by rw [p2]; exact ha')
    have z3 := hM.kin c3
    rw [nI_1, nI_1]
    refine yC.mono (Nat.le_refl _) (fun r m2' q => ⟨q.1, ?_⟩) (he (n + 1 + 1) w3 (by omega) (by omega) C m h.1 h.2.1 (by show C.length + (e (n + 2)).length < _; omega))
    have cr2 := h.1.e q.2.2
    refine yC.mono (Nat.le_refl _) (fun r m3' q3 => ⟨q3.1, x_in_nI (by omega) (by decide), ?_⟩) (he _ w2 z2.2.1 z2.1 _ m2' cr2 q.2.1 (by rw [List.length_append]; show C.length + (e (n + 2)).length + _ < _; omega))
    have cr3 := cr2.e q3.2.2
    rw [(cr3.t w1.1).2.2.1, v1, nI_clamp (by omega)]
    refine yC.mono (Nat.le_refl _) (fun r m4' q4 => ⟨q4.1, rfl, ?_⟩) (c199 xs d cr3 q3.2.1 (by rw [List.length_append, List.length_append]; show C.length + (e (n + 2)).length + _ + 1 < _; omega) 4 v2 (by have := (hS.e9 v2 v3).1; omega))
    have := q4.2.1
    rw [List.append_assoc, List.append_assoc] at this
    exact fin ((h0 _).app ((h0 _).app (mk0.i rfl))) this ((q.2.2.tr q3.2.2).tr q4.2.2)
theorem c202 (xs : List Int32) (d : Nat) {m0 : yM} {T : Nat} {F : List ND} {s : SU} (hS : HS m0 T F s) {N n u ℓ : Nat} (hW : TW m0 T F N n) (k : kK F n = 13) {e : Nat → List IT} (h0 : ∀ c, mk0 (e c)) (he : ∀ c, wE F c → c < n + szF F n → n < c → exC xs (d + 2) F s.1 e c) {bd : Nat → Nat → Nat → List IT} : staC xs (d + 3) 202 F s.1 u ℓ (wT F s.1 e bd ℓ n) n := by
  intro C m h mk hl
  have at' := hW.at
  have hn : n < F.length := by omega
  have hf := h.1.f
  have ok := hW.ok
  rw [k] at ok
  have ks : s.1.2.2.1 n = 13 := by
    rcases hS.ks hn with y | ⟨y, z⟩
    · rw [y, k]; rfl
    · omega
  obtain ⟨v, v1, v2, v3⟩ := (hS.v hn).2.2.1 k
  have vl := ((vOk_i _ _).mp v2).1
  have n2 := h.1.nV.2
  have cv : (s.1.2.2.2.1 n).toNatClampNeg = v := by rw [v1]; exact nI_clamp (by omega)
  generalize hZ : (if 9 ≤ s.1.2.2.2.1 (vD s.1 v).2.1 then j3 15 (s.1.2.2.2.1 (vD s.1 v).2.1 - 9) (clV s.1 n) 0 else j3 17 (s.1.2.2.2.1 (vD s.1 v).2.1) (clV s.1 n) 0) = Z
  have cz : clV s.1 n = (vD s.1 v).2.2.2 := by unfold clV; rw [cv]
  have es : wT F s.1 e bd ℓ n (C.length - u) = wIv F s.1 e (kids F n) ++ [Z] := by
    unfold wT
    rw [if_neg (by rw [ks]; decide), if_pos ks, cv, hZ]
  rw [es] at hl ⊢
  rw [List.length_append, List.length_singleton] at hl
  have xi : x_in (nI n) 16401 = true := x_in_nI (by omega) (by decide)
  have ei : (nI n).toNatClampNeg = n := nI_clamp (by omega)
  have iv0 : ∀ L, mk0 (wIv F s.1 e L) := by
    intro L
    induction L with
    | nil => exact mk0.nil
    | cons c L ih => exact (h0 _).app ((mk0.i rfl).app ih)
  have kZ : mk0 [Z] := fun x hx => by
    rw [List.mem_singleton.mp hx, ← hZ]
    split <;> rfl
  have lp : ∀ (L : List Nat) (i : Nat) (C1 : List IT) (m1 : yM), tile F L i (n + szF F n) → (∀ c, c ∈ L → c ∈ kids F n) → EK m m1 → CO C1 m1 → C1.length + (wIv F s.1 e L).length + 1 < 2 ^ 30 → yP (xg xs) (d + 3) 202 4 [(0, .ref 42), (1, .int (nI n)), (2, .int (nI i))] [] m1 (fun r m' => r = none ∧ CO (C1 ++ (wIv F s.1 e L ++ [Z])) m' ∧ EK m m') := by
    intro L
    induction L with
    | nil =>
      intro i C1 m1 ht _ ek hc hl
      have ht : i = n + szF F n := ht
      subst ht
      have cr := h.1.e ek
      refine w202_4 xs (d + 2) _ _ m1 _ ⟨xi, ?_⟩
      rw [ei, (cr.t hn).2.2.2.2.1, (cr.t hn).2.2.1, v1, nI_clamp (by omega), (cr.v v2).2.2.2.2.2.1]
      refine ⟨fun _ => ⟨xi, x_in_nI (by omega) (by decide), xi, ?_⟩, fun z => absurd (nI_le (Nat.le_refl _) (by omega)) z⟩
      have hl : C1.length + 0 + 1 < 2 ^ 30 := hl
      refine y_ci (c153 xs d cr v2) (by omega) ⟨fun z => ?_, fun z => ?_⟩
      · rw [if_pos z] at hZ
        exact yC.mono (by omega) (fun r m2 q => ⟨_, q.1, rfl, q.2.1, ek.tr q.2.2⟩) (c194 xs d hc (by omega) Z (by rw [← hZ]; rfl) (by rw [← hZ]; rfl) (by rw [← hZ, cz]; rfl) (by rw [← hZ]; rfl))
      · rw [if_neg z] at hZ
        exact yC.mono (by omega) (fun r m2 q => ⟨_, q.1, rfl, q.2.1, ek.tr q.2.2⟩) (c194 xs d hc (by omega) Z (by rw [← hZ]; rfl) (by rw [← hZ]; rfl) (by rw [← hZ, cz]; rfl) (by rw [← hZ]; rfl))
    | cons c L ih =>
      intro i C1 m1 ht hm ek hc hl
      obtain ⟨rfl, ht⟩ := ht
      have cr := h.1.e ek
      have cm := hm c List.mem_cons_self
      have z := hW.kin cm
      have k14 : kK F c = 14 := hW.mk ok.2 cm
      obtain ⟨M, hM⟩ := hS.1.1 c z.2.2.2.1
      have ok1 := hM.ok
      rw [k14] at ok1
      obtain ⟨-, a, ha, eks⟩ := ok1
      obtain ⟨p1, p2, p3, p4⟩ := hM.k1 eks
      have c1 : c + 1 ∈ kids F c := by rw [p1]; exact List.mem_cons_self
      have w1 := hS.kid hM z.2.2.2.1 c1 (by omega) (by rw [p2]; exact ha)
      have z1 := hM.kin c1
      have xc : x_in (nI c) 16401 = true := x_in_nI (by omega) (by decide)
      have ec : (nI c).toNatClampNeg = c := nI_clamp (by omega)
      have el : wIv F s.1 e (c :: L) = e (c + 1) ++ ([j1 2 (s.1.2.2.2.1 c)] ++ wIv F s.1 e L) := rfl
      rw [el] at hl ⊢
      simp only [List.length_append, List.length_singleton] at hl
      refine w202_4 xs (d + 2) _ _ m1 _ ⟨xi, ?_⟩
      rw [ei, (cr.t hn).2.2.2.2.1]
      refine ⟨fun y => ?_, fun _ => ?_⟩
      · have := (nI_leI (by omega) (by omega)).mp y
        omega
      · rw [nI_1]
        refine yC.mono (Nat.le_refl _) (fun r m2 q => ⟨q.1, xc, ?_⟩) (he (c + 1) w1 (by omega) (by omega) C1 m1 cr hc (by omega))
        have cr2 := cr.e q.2.2
        rw [ec, (cr2.t z.2.2.2.1).2.2.1]
        refine yC.mono (Nat.le_refl _) (fun r m3 q3 => ⟨q3.1, xc, ?_⟩) (c193 xs d q.2.1 (by rw [List.length_append]; omega) 2 _)
        have cr3 := cr2.e q3.2.2
        rw [(cr3.t z.2.2.2.1).2.2.2.2.1]
        have := ih (c + szF F c) (C1 ++ e (c + 1) ++ [j1 2 (s.1.2.2.2.1 c)]) m3 ht (fun x hx => hm x (List.mem_cons_of_mem _ hx)) ((ek.tr q.2.2).tr q3.2.2) q3.2.1 (by simp only [List.length_append, List.length_singleton]; omega)
        rw [List.append_assoc, List.append_assoc] at this
        rw [List.append_assoc, List.append_assoc]
        exact this
  have cc : yC (xg xs) (d + 3) 202 [.ref 42, .int (nI n)] m (fun r m' => r = none ∧ CO (C ++ (wIv F s.1 e (kids F n) ++ [Z])) m' ∧ EK m m') := by
    refine w202_0 xs (d + 2) _ m _ ?_
    rw [nI_1]
    exact lp (kids F n) (n + 1) C m hW.til (fun c hc => hc) (EK.re m) h.2.1 (by omega)
  exact yC.mono (Nat.le_refl _) (fun r m' q => ⟨q.1, h.ek q.2.2 q.2.1 (((iv0 _).app kZ).nx ℓ), q.2.2.s⟩) cc
/-- bodies below a statement -/
theorem c203 (xs : List Int32) (D : Nat) {m0 : yM} {T : Nat} {F : List ND} {s : SU} (hS : HS m0 T F s) {N n u ℓ : Nat} (hW : TW m0 T F N n) (k : kK F n = 15) (ℓn : ℓ < n) {e : Nat → List IT} (h0 : ∀ c, mk0 (e c)) (he : ∀ c, wE F c → c < n + szF F n → n < c → exC xs (D + 2) F s.1 e c) {bd : Nat → Nat → Nat → List IT} (h2 : ∀ ℓ b p, mk2 ℓ (bd ℓ b p)) (hb : ∀ b, b ∈ kids F n → kK F b = 11 → bodC xs (D + 1) F s.1 u ℓ (bd ℓ) b ∧ bodC xs (D + 2) F s.1 u ℓ (bd ℓ) b) : staC xs (D + 3) 203 F s.1 u ℓ (wT F s.1 e bd ℓ n) n := by
  intro C m h mk hl
  have at' := hW.at
  have hn : n < F.length := by omega
  have hf := h.1.f
  have hu := h.2.2.1
  have ok := hW.ok
  rw [k] at ok
  obtain ⟨-, es, sx, hes, hne, hsx, eks⟩ := ok
  have ks : s.1.2.2.1 n = 15 := by
    rcases hS.ks hn with y | ⟨y, z⟩
    · rw [y, k]; rfl
    · omega
  have ew : wT F s.1 e bd ℓ n (C.length - u) = res (mE n) (nI (C.length - u + (wIf n e (bd ℓ) (kids F n) (C.length - u)).length)) (wIf n e (bd ℓ) (kids F n) (C.length - u)) := by
    unfold wT
    rw [if_neg (by rw [ks]; decide), if_neg (by rw [ks]; decide), if_pos ks]
  rw [ew] at hl ⊢
  rw [res_len] at hl
  have xi : x_in (nI n) 16401 = true := x_in_nI (by omega) (by decide)
  have ei : (nI n).toNatClampNeg = n := nI_clamp (by omega)
  have nmE : ¬ mE n = 0 := by unfold mE; omega
  have noC : ∀ x, x ∈ C → ¬ x.2.2.2.2.1 = mE n := fun x hx z => by
    have := mk x hx
    rw [z] at this
    unfold mE at this
    omega
  -- the end: all ways come together
  have fin : ∀ (W : List IT) (m1 : yM), W = wIf n e (bd ℓ) (kids F n) (C.length - u) → WC F s.1 u ℓ (C ++ W) m1 → SK m m1 → yC (xg xs) (D + 2) 205 [.ref 42] m1 (fun v1 m1' => ∃ u1, v1 = some (Value.int u1) ∧ yC (xg xs) (D + 2) 206 [.ref 35, .int (prv (C ++ W) (mE n) (C ++ W).length), .int u1] m1' (fun v2 m2 => v2 = none ∧ (none = (none : Option Value) ∧ WC F s.1 u ℓ (C ++ res (mE n) (nI (C.length - u + (wIf n e (bd ℓ) (kids F n) (C.length - u)).length)) (wIf n e (bd ℓ) (kids F n) (C.length - u))) m2 ∧ SK m m2))) := by
    intro W m1 hWf w1 s1
    refine y_ci (c205 xs D w1.2.1 w1.2.2.2.1 w1.2.2.1) (by omega) ?_
    refine yC.mono (by omega) (fun r m2 q => ⟨q.1, rfl, ?_⟩) (c206 xs D w1.2.1 nmE _)
    have e1 : (C ++ W).length - u = C.length - u + W.length := by rw [List.length_append]; omega
    have er : res (mE n) (nI ((C ++ W).length - u)) (C ++ W) = C ++ res (mE n) (nI (C.length - u + W.length)) W := by rw [res_app, res_n noC, e1]
    have c2 := q.2.1
    rw [er] at c2
    rw [← hWf]
    refine ⟨⟨w1.1.e q.2.2, c2, by rw [List.length_append]; omega, by rw [q.2.2.1 42 7 (by omega)]; exact w1.2.2.2.1, ?_⟩, s1.tr q.2.2.s⟩
    rw [q.2.2.1 42 9 (by omega), w1.2.2.2.2, ← er, prv_r _ _ nmE (by unfold mX; omega) (by unfold mX mE; omega), res_len]
  have lp : ∀ (es : List Nat) (L : List Nat) (i : Nat) (W : List IT) (m1 : yM), (∀ x, x ∈ es → exK x) → L.map (kK F) = es.flatMap (fun e => [e, 11]) ++ sx → tile F L i (n + szF F n) → (∀ c, c ∈ L → c ∈ kids F n) → WC F s.1 u ℓ (C ++ W) m1 → mk3 ℓ n W → SK m m1 → W ++ wIf n e (bd ℓ) L (C.length - u + W.length) = wIf n e (bd ℓ) (kids F n) (C.length - u) → yP (xg xs) (D + 3) 203 9 [(0, .ref 42), (1, .int (nI n)), (2, .int (prv (C ++ W) (mE n) (C ++ W).length)), (3, .int 0), (4, .int (nI i))] [] m1 (fun r m' => r = none ∧ WC F s.1 u ℓ (C ++ res (mE n) (nI (C.length - u + (wIf n e (bd ℓ) (kids F n) (C.length - u)).length)) (wIf n e (bd ℓ) (kids F n) (C.length - u))) m' ∧ SK m m') := by
    intro es
    induction es with
    | nil =>
      intro L i W m1 _ hm ht hk w1 m3 s1 eW
      have cr := w1.1
      have hm : L.map (kK F) = sx := hm
      -- the end of all
      have endP : ∀ (W : List IT) (m1 : yM) (i : Nat), i = n + szF F n → WC F s.1 u ℓ (C ++ W) m1 → SK m m1 → W = wIf n e (bd ℓ) (kids F n) (C.length - u) → ∀ l3 : Int32, yP (xg xs) (D + 3) 203 9 [(0, .ref 42), (1, .int (nI n)), (2, .int (prv (C ++ W) (mE n) (C ++ W).length)), (3, .int l3), (4, .int (nI i))] [] m1 (fun r m' => r = none ∧ WC F s.1 u ℓ (C ++ res (mE n) (nI (C.length - u + (wIf n e (bd ℓ) (kids F n) (C.length - u)).length)) (wIf n e (bd ℓ) (kids F n) (C.length - u))) m' ∧ SK m m') := by
        intro W m1 i hi w1 s1 eW l3
        refine w203_9 xs (D + 2) _ _ _ _ m1 _ ⟨xi, ?_⟩
        rw [ei, (w1.1.t hn).2.2.2.2.1, hi]
        exact ⟨fun _ => fin W m1 eW w1 s1, fun z => absurd (nI_le (Nat.le_refl _) (by omega)) z⟩
      rcases hsx with rfl | rfl
      · have : L = [] := by simpa using hm
        subst this
        have ht : i = n + szF F n := ht
        have e0 : wIf n e (bd ℓ) [] (C.length - u + W.length) = [] := rfl
        rw [e0, List.append_nil] at eW
        exact endP W m1 i ht w1 s1 eW 0
      · -- what is done otherwise
        cases L with
        | nil => cases hm
        | cons b L =>
          obtain ⟨rfl, ht⟩ := ht
          obtain ⟨k11, hm⟩ := List.cons.inj hm
          have : L = [] := by simpa using hm
          subst this
          have ht : b + szF F b = n + szF F n := ht
          have bm := hk b List.mem_cons_self
          have z := hW.kin bm
          have xb : x_in (nI b) 16401 = true := x_in_nI (by omega) (by decide)
          have eb : (nI b).toNatClampNeg = b := nI_clamp (by omega)
          have kb : s.1.2.2.1 b = 11 := by
            rcases hS.ks z.2.2.2.1 with y | ⟨y, w⟩
            · rw [y, k11]; rfl
            · omega
          have e0 : wIf n e (bd ℓ) [b] (C.length - u + W.length) = bd ℓ b (C.length - u + W.length) := rfl
          rw [e0] at eW
          have lW : W.length + (bd ℓ b (C.length - u + W.length)).length = (wIf n e (bd ℓ) (kids F n) (C.length - u)).length := by rw [← eW, List.length_append]
          have pW : (C ++ W).length - u = C.length - u + W.length := by rw [List.length_append]; omega
          refine w203_9 xs (D + 2) _ _ _ _ m1 _ ⟨xi, ?_⟩
          rw [ei, (cr.t hn).2.2.2.2.1, eb, (cr.t z.2.2.2.1).1]
          refine ⟨fun y => ?_, fun _ => ⟨xb, fun _ => ⟨fun _ => ?_, fun y => absurd rfl y⟩, fun y => absurd kb y⟩⟩
          · have := (nI_leI (by omega) (by omega)).mp y
            omega
          · have hbb := (hb b bm k11).2 (C ++ W) m1 w1 ((mk.w (by omega)).app (m3.k (by unfold mX; omega) (by unfold mE; omega))) (by rw [pW, List.length_append]; omega)
            rw [pW] at hbb
            refine yC.mono (Nat.le_refl _) (fun r m2 q => ⟨q.1, ?_⟩) hbb
            obtain ⟨-, w2, s2⟩ := q
            have pp : prv (C ++ W ++ bd ℓ b (C.length - u + W.length)) (mE n) (C ++ W ++ bd ℓ b (C.length - u + W.length)).length = prv (C ++ W) (mE n) (C ++ W).length := prv_x (fun x hx y => by
              rcases h2 ℓ b _ x hx with w | w
              · rw [w] at y; unfold mE at y; omega
              · rw [w] at y; unfold mE mX at y; omega)
            refine w203_77 xs (D + 2) _ _ _ m2 _ ⟨xb, ?_⟩
            rw [eb, (w2.1.t z.2.2.2.1).1]
            refine ⟨fun _ => w203_97 xs (D + 2) _ _ _ _ m2 _ ⟨xb, ?_⟩, fun y => absurd kb y⟩
            rw [eb, (w2.1.t z.2.2.2.1).2.2.2.2.1, ← pp]
            have := endP (W ++ bd ℓ b (C.length - u + W.length)) m2 (b + szF F b) ht (by rw [← List.append_assoc]; exact w2) (s1.tr s2) eW 0
            rw [← List.append_assoc] at this
            exact this
    | cons g es ih =>
      intro L i W m1 hes hm ht hk w1 m3 s1 eW
      have cr := w1.1
      have hm : L.map (kK F) = g :: 11 :: (es.flatMap (fun e => [e, 11]) ++ sx) := hm
      cases L with
      | nil => cases hm
      | cons c L =>
        cases L with
        | nil => cases (List.cons.inj hm).2
        | cons b L =>
          obtain ⟨rfl, ht1⟩ := ht
          obtain ⟨rfl, ht2⟩ := ht1
          obtain ⟨kg, hm1⟩ := List.cons.inj hm
          obtain ⟨k11, hm2⟩ := List.cons.inj hm1
          have cm := hk c List.mem_cons_self
          generalize hbq : c + szF F c = b at *
          have bm := hk b (List.mem_cons_of_mem _ List.mem_cons_self)
          have z := hW.kin cm
          have zb := hW.kin bm
          have hx : exK (kK F c) := by rw [kg]; exact hes g List.mem_cons_self
          have wc := hS.kid hW hn cm (by omega) hx
          have xc : x_in (nI c) 16401 = true := x_in_nI (by omega) (by decide)
          have ec : (nI c).toNatClampNeg = c := nI_clamp (by omega)
          have xb : x_in (nI b) 16401 = true := x_in_nI (by omega) (by decide)
          have eb : (nI b).toNatClampNeg = b := nI_clamp (by omega)
          have kb : s.1.2.2.1 b = 11 := by
            rcases hS.ks zb.2.2.2.1 with y | ⟨y, w⟩
            · rw [y, k11]; rfl
            · omega
          have kc : ¬ s.1.2.2.1 c = 11 := by
            intro w
            rcases hS.ks z.2.2.2.1 with q | ⟨q, -⟩
            · rw [q] at w
              have := (nI_eq (b := 11) (by have := hS.1.2.1 c z.2.2.2.1; omega) (by omega)).mp w
              unfold exK at hx
              omega
            · rw [q] at w
              exact absurd w (by decide)
          -- the way's code
          generalize hmo : (!L.isEmpty) = mo
          have emo : mo = true ↔ b + szF F b < n + szF F n := by
            rw [← hmo]
            cases L with
            | nil =>
              have ht3 : b + szF F b = n + szF F n := ht2
              exact ⟨fun y => by (cases y), fun y => by omega⟩
            | cons q L =>
              obtain ⟨e1, e2⟩ := ht2
              have := tile.le e2
              have zq := hW.kin (hk q (List.mem_cons_of_mem _ (List.mem_cons_of_mem _ List.mem_cons_self)))
              exact ⟨fun _ => by omega, fun _ => rfl⟩
          have e0 : wIf n e (bd ℓ) (c :: b :: L) (C.length - u + W.length) = e c ++ (wy n (bd ℓ) b mo (C.length - u + W.length + (e c).length) ++ wIf n e (bd ℓ) L (C.length - u + W.length + (e c).length + (wy n (bd ℓ) b mo (C.length - u + W.length + (e c).length)).length)) := by rw [← hmo]; rfl
          rw [e0] at eW
          have lW := congrArg List.length eW
          simp only [List.length_append] at lW
          refine w203_9 xs (D + 2) _ _ _ _ m1 _ ⟨xi, ?_⟩
          rw [ei, (cr.t hn).2.2.2.2.1, ec, (cr.t z.2.2.2.1).1]
          refine ⟨fun y => ?_, fun _ => ⟨xc, fun y => absurd y kc, fun _ => ?_⟩⟩
          · have := (nI_leI (by omega) (by omega)).mp y
            omega
          · refine yC.mono (Nat.le_refl _) (fun r m2 q => ⟨q.1, ?_⟩) (he c wc z.2.1 z.1 (C ++ W) m1 cr w1.2.1 (by rw [List.length_append]; omega))
            obtain ⟨-, q2, q3⟩ := q
            have w2 := w1.ek q3 q2 ((h0 c).nx ℓ)
            have s2 := s1.tr q3.s
            have ne0 : ∀ x, x ∈ e c → ¬ x.2.2.2.2.1 = mE n := fun x hx y => by rw [h0 c x hx] at y; unfold mE at y; omega
            refine w203_77 xs (D + 2) _ _ _ m2 _ ⟨xc, ?_⟩
            rw [ec, (w2.1.t z.2.2.2.1).1]
            refine ⟨fun y => absurd y kc, fun _ => w203_97 xs (D + 2) _ _ _ _ m2 _ ⟨xc, ?_⟩⟩
            rw [ec, (w2.1.t z.2.2.2.1).2.2.2.2.1, hbq]
            refine w203_9 xs (D + 2) _ _ _ _ m2 _ ⟨xi, ?_⟩
            rw [ei, (w2.1.t hn).2.2.2.2.1, eb, (w2.1.t zb.2.2.2.1).1]
            refine ⟨fun y => ?_, fun _ => ⟨xb, fun _ => ⟨fun y => absurd y (by decide), fun _ => ⟨xi, ?_⟩⟩, fun y => absurd kb y⟩⟩
            · have := (nI_leI (by omega) (by omega)).mp y
              omega
            · have pW : (C ++ W ++ e c).length - u = C.length - u + W.length + (e c).length := by simp only [List.length_append]; omega
              have c4 := c204 xs D (n := n) (hb b bm k11).1 (h2 ℓ b) (by omega) zb.2.2.2.1 (by omega) emo w2 ((((mk.w (by omega)).app (m3.k (by unfold mX; omega) (by unfold mE; omega)))).app ((h0 c).k _)) (by rw [pW]; simp only [List.length_append]; omega)
              rw [pW, prv_x ne0] at c4
              refine yC.mono (Nat.le_refl _) (fun r m3' q4 => ⟨_, q4.1, ?_⟩) c4
              obtain ⟨-, w4, s4⟩ := q4
              refine w203_77 xs (D + 2) _ _ _ m3' _ ⟨xb, ?_⟩
              rw [eb, (w4.1.t zb.2.2.2.1).1]
              refine ⟨fun _ => w203_97 xs (D + 2) _ _ _ _ m3' _ ⟨xb, ?_⟩, fun y => absurd kb y⟩
              rw [eb, (w4.1.t zb.2.2.2.1).2.2.2.2.1]
              have ap : C ++ W ++ e c ++ wy n (bd ℓ) b mo (C.length - u + W.length + (e c).length) = C ++ (W ++ (e c ++ wy n (bd ℓ) b mo (C.length - u + W.length + (e c).length))) := by simp only [List.append_assoc]
              rw [ap] at w4 ⊢
              refine ih L (b + szF F b) (W ++ (e c ++ wy n (bd ℓ) b mo (C.length - u + W.length + (e c).length))) m3' (fun x hx => hes x (List.mem_cons_of_mem _ hx)) hm2 ht2 (fun x hx => hk x (List.mem_cons_of_mem _ (List.mem_cons_of_mem _ hx))) w4 (m3.app ((h0 c).w.w.app (wy_3 (h2 ℓ) b mo _))) (s2.tr s4) ?_
              rw [← eW]
              simp only [List.length_append, List.append_assoc]
              congr 3
              congr 1
              omega
  refine w203_0 xs (D + 2) _ m _ ?_
  have p0 : prv (C ++ []) (mE n) (C ++ []).length = -1 := by rw [List.append_nil]; exact prv_n nmE noC _
  have := lp es (kids F n) (n + 1) [] m hes eks hW.til (fun c hc => hc) (by rw [List.append_nil]; exact h) (fun x hx => by cases hx) (SK.re m) rfl
  rw [p0] at this
  rw [nI_1]
  exact this
