/-! THE WRITER: expressions of the class -/
theorem c201 (xs : List Int32) (d : Nat) {F : List ND} {σ : RS} {C : List IT} {m : yM} (h : CR F σ m) (hD : allD σ) (hc : CO C m) {b : Nat} (hb : b < σ.1.length) (hfe : (σ.1.getD b dBK).2.2.2.2 ≤ endV σ b ∧ endV σ b ≤ σ.2.1.length) (hl : C.length + (cOw σ b (σ.1.getD b dBK).2.2.2.2 (endV σ b - (σ.1.getD b dBK).2.2.2.2)).length + 2 < 2 ^ 30) : yC (xg xs) (d + 2) 201 [.ref 42, .int (nI b)] m (fun r m' => r = none ∧ CO (C ++ (cOw σ b (σ.1.getD b dBK).2.2.2.2 (endV σ b - (σ.1.getD b dBK).2.2.2.2) ++ [j3 16 (nI b) 0 0, j3 5 (nI b) 0 0])) m' ∧ EK m m') := by
  have n2 := h.nV.2
  generalize hf0 : (σ.1.getD b dBK).2.2.2.2 = f0 at *
  have c119' : ∀ m1, CR F σ m1 → yC (xg xs) (d + 1) 119 [.ref 18, .int (nI b)] m1 (fun r m' => r = some (.int (nI f0)) ∧ m' = m1) := fun m1 h1 => by have := c119 xs d h1 hb; rw [hf0] at this; exact this
  have lp : ∀ (k : Nat) (C : List IT) (m1 : yM), f0 + k ≤ endV σ b → EK m m1 → CO C m1 → C.length + (cOw σ b f0 k).length + 2 < 2 ^ 30 → yP (xg xs) (d + 2) 201 11 [(0, .ref 42), (1, .int (nI b)), (2, .int (nI (f0 + k) - 1))] [] m1 (fun r m' => r = none ∧ CO (C ++ (cOw σ b f0 k ++ [j3 16 (nI b) 0 0, j3 5 (nI b) 0 0])) m' ∧ EK m m') := by
    intro k
    induction k with
    | zero =>
      intro C m1 hk ek hc hl
      have lt : nI (f0 + 0) - 1 < nI f0 := by
        rw [Nat.add_zero]
        cases hq : f0 with
        | zero => decide
        | succ f =>
          rw [nI_m (by omega)]
          exact nI_lt (by omega) (by omega)
      refine w201_11 xs (d + 1) _ _ m1 _ (y_ci (c119' m1 (h.e ek)) (by omega) ⟨fun _ => ?_, fun z => absurd lt z⟩)
      have hl : C.length + 0 + 2 < 2 ^ 30 := hl
      refine yC.mono (Nat.le_refl _) (fun r m2 q => ⟨_, q.1, ?_⟩) (c194 xs d hc (by omega) (j3 16 (nI b) 0 0) rfl rfl rfl rfl)
      refine yC.mono (Nat.le_refl _) (fun r m3 q2 => ⟨_, q2.1, rfl, ?_, (ek.tr q.2.2).tr q2.2.2⟩) (c194 xs d q.2.1 (by rw [List.length_append, List.length_singleton]; omega) (j3 5 (nI b) 0 0) rfl rfl rfl rfl)
      have := q2.2.1
      rw [List.append_assoc] at this
      exact this
    | succ k ih =>
      intro C m1 hk ek hc hl
      have hcr := h.e ek
      have e : nI (f0 + (k + 1)) - 1 = nI (f0 + k) := by rw [nI_m (by omega)]; rfl
      have vo := hD (f0 + k) (by omega)
      obtain ⟨a1, a2, a3, a4, a5, a6, a7⟩ := hcr.v vo
      have xv : x_in (nI (f0 + k)) 4097 = true := x_in_nI (by omega) (by decide)
      have cv : (nI (f0 + k)).toNatClampNeg = f0 + k := nI_clamp (by omega)
      have es : cOw σ b f0 (k + 1) = (if (vD σ (f0 + k)).1 = 1 then [j3 6 (nI b) (vD σ (f0 + k)).2.2.2 0] else []) ++ cOw σ b f0 k := rfl
      rw [e]
      have em : nI (f0 + k) + -1 = nI (f0 + k) - 1 := by rw [Int32.sub_eq_add_neg]
      refine w201_11 xs (d + 1) _ _ m1 _ (y_ci (c119' m1 hcr) (by omega) ⟨fun z => ?_, fun _ => ⟨xv, ?_⟩⟩)
      · have := (nI_ltI (by omega) (by omega)).mp z
        omega
      · rw [cv, a3, a6]
        refine ⟨fun z => ?_, fun z => ⟨xv, ?_⟩⟩
        · refine w201_57 xs (d + 1) _ _ m1 _ ?_
          rw [em, es, if_neg z, List.nil_append]
          exact ih C m1 (by omega) ek hc (by rw [es, if_neg z, List.nil_append] at hl; exact hl)
        · rw [es, if_pos z] at hl
          rw [List.length_append, List.length_singleton] at hl
          refine yC.mono (Nat.le_refl _) (fun r m2 q => ⟨_, q.1, ?_⟩) (c194 xs d hc (by omega) (j3 6 (nI b) (vD σ (f0 + k)).2.2.2 0) rfl rfl rfl rfl)
          refine w201_57 xs (d + 1) _ _ m2 _ ?_
          have := ih (C ++ [j3 6 (nI b) (vD σ (f0 + k)).2.2.2 0]) m2 (by omega) (ek.tr q.2.2) q.2.1 (by rw [List.length_append, List.length_singleton]; omega)
          rw [em, es, if_pos z]
          rw [List.append_assoc] at this
          rw [List.append_assoc]
          exact this
  refine w201_0 xs (d + 1) _ m _ (y_ci (c120 xs d h hb) (by omega) ?_)
  have := lp (endV σ b - f0) C m (by omega) (EK.re m) hc hl
  rw [show f0 + (endV σ b - f0) = endV σ b by omega] at this
  exact this
/-- a node that is written as an expression -/
def wE (F : List ND) (n : Nat) : Prop := n < F.length ∧ exK (kK F n) ∧ ¬ xNm F n
theorem HS.ks {m0 : yM} {T : Nat} {F : List ND} {s : SU} (h : HS m0 T F s) {j : Nat} (hj : j < F.length) : s.1.2.2.1 j = nI (kK F j) ∨ (s.1.2.2.1 j = 30 ∧ (kK F j = 34 ∨ kK F j = 35 ∨ kK F j = 36)) := h.2.2.1.1.1.2.1 j hj
theorem HS.aD {m0 : yM} {T : Nat} {F : List ND} {s : SU} (h : HS m0 T F s) : allD s.1 := allD_of h.2.2.1.1.2.2.1 (qN_z (fun z => absurd z.1 (by simp)))
theorem HS.v {m0 : yM} {T : Nat} {F : List ND} {s : SU} (h : HS m0 T F s) {j : Nat} (hj : j < F.length) : (kK F j = 6 → ¬ xNm F j → gdV s.1 j 8) ∧ (kK F j = 32 → gdV s.1 j 9) ∧ (kK F j = 13 → gdV s.1 j 10) ∧ (kK F j = 19 → gdV s.1 j 8) ∧ (s.1.2.2.1 j = 34 → gdC F s.1 j) := h.2.2.2 j hj hj (by simp)
theorem HS.fm {m0 : yM} {T : Nat} {F : List ND} {s : SU} (h : HS m0 T F s) : ∀ b, b < s.1.1.length → (s.1.1.getD b dBK).2.2.2.2 ≤ endV s.1 b ∧ endV s.1 b ≤ s.1.2.1.length := h.2.2.1.1.fm h.1 (Nat.le_refl _)
/-- an element's type stands before others -/
theorem HS.e9 {m0 : yM} {T : Nat} {F : List ND} {s : SU} (h : HS m0 T F s) {v : Nat} (hv : vOk s.1 v) (hf : frm s.1 v = 9) : (vD s.1 v).2.1 + 3 < F.length ∧ kK F (vD s.1 v).2.1 = 9 := by
  obtain ⟨-, y, hy⟩ := (vOk_i s.1 v).mp hv
  obtain ⟨a1, a2, -⟩ := h.2.2.1.1.2.2.2.2.2.1 v y hy
  rw [vD_s hy]
  unfold frm at hf
  rw [vD_s hy] at hf
  have k9 : kK F y.2.1 = 9 := by
    rcases h.ks a1 with z | ⟨z, -⟩
    · rw [z] at hf
      exact (nI_eq (b := 9) (by omega) (by omega)).mp hf
    · rw [z] at hf
      exact absurd hf (by decide)
  obtain ⟨M, hM⟩ := h.1.1 _ a1
  exact ⟨(k9_s hM k9).2.2.2.2.1, k9⟩
/-- nodes below an expression are expressions -/
theorem HS.kid {m0 : yM} {T : Nat} {F : List ND} {s : SU} (h : HS m0 T F s) {N n c : Nat} (hW : TW m0 T F N n) (hn : n < F.length) (hc : c ∈ kids F n) (k : kK F n = 12 ∨ kK F n = 14 ∨ kK F n = 15 ∨ kK F n = 16 ∨ kK F n = 32 ∨ kK F n = 34 ∨ kK F n = 35 ∨ kK F n = 36 ∨ kK F n = 25 ∨ kK F n = 28) (hx : exK (kK F c)) : wE F c := by
  have z := hW.kin hc
  refine ⟨z.2.2.2.1, hx, ?_⟩
  rintro ⟨k6, p, p1, p2, p3⟩
  -- its only parent is n
  obtain ⟨M, hM⟩ := h.1.1 p p1
  have zp := hM.kin p2
  rcases Nat.lt_trichotomy p n with w | w | w
  · -- n lies below p, then c is below another node of p
    have np : n < p + szF F p := by
      rcases Nat.lt_or_ge n (p + szF F p) with y | y
      · exact y
      · omega
    obtain ⟨q, q1, q2, q3⟩ := hM.at_kid w np
    obtain ⟨M', hM'⟩ := h.1.1 q (hM.kin q1).2.2.2.1
    have ne := TW.nest M' q hM' n q2 q3
    have := tile_ne _ _ hM.til q c q1 p2 (by omega)
    omega
  · rw [w] at p3; omega
  · have pn : p < n + szF F n := by omega
    obtain ⟨q, q1, q2, q3⟩ := hW.at_kid w pn
    obtain ⟨M', hM'⟩ := h.1.1 q (hW.kin q1).2.2.2.1
    have ne := TW.nest M' q hM' p q2 q3
    have := tile_ne _ _ hW.til q c q1 hc (by omega)
    omega
theorem c200 (xs : List Int32) (d : Nat) {m0 : yM} {T : Nat} {F : List ND} {s : SU} (hS : HS m0 T F s) {N n : Nat} (hW : TW m0 T F N n) (k34 : s.1.2.2.1 n = 34) {e : Nat → List IT} (he : ∀ c, c ∈ kids F n → ∀ (C : List IT) (m : yM), CR F s.1 m → CO C m → C.length + (e c).length < 2 ^ 30 → yC (xg xs) (d + 3) 197 [.ref 42, .int (nI c)] m (fun r m' => r = none ∧ CO (C ++ e c) m' ∧ EK m m')) {C : List IT} {m : yM} (h : CR F s.1 m) (hc : CO C m) (hl : C.length + (clA (s.1.2.2.2.1 n) e (kids F n) 0 ++ clZ F s.1 n).length < 2 ^ 30) : yC (xg xs) (d + 4) 200 [.ref 42, .int (nI n)] m (fun r m' => r = none ∧ CO (C ++ (clA (s.1.2.2.2.1 n) e (kids F n) 0 ++ clZ F s.1 n)) m' ∧ EK m m') := by
  have at' := hW.at
  have hn : n < F.length := by omega
  have hf := h.f
  have xi : x_in (nI n) 16401 = true := x_in_nI (by omega) (by decide)
  have ei : (nI n).toNatClampNeg = n := nI_clamp (by omega)
  have kl : (kids F n).length ≤ 16400 := Nat.le_trans (kds_len _ _ _ _) (by omega)
  have gc := (hS.v hn).2.2.2.2 k34
  have lp : ∀ (L : List Nat) (j i : Nat) (C : List IT) (m1 : yM), (kids F n).drop j = L → j + L.length = (kids F n).length → tile F L i (n + szF F n) → EK m m1 → CO C m1 → C.length + (clA (s.1.2.2.2.1 n) e L j ++ clZ F s.1 n).length < 2 ^ 30 → yP (xg xs) (d + 4) 200 17 [(0, .ref 42), (1, .int (nI n)), (2, .int (s.1.2.2.2.1 n)), (3, .int (nI j)), (4, .int (nI i))] [] m1 (fun r m' => r = none ∧ CO (C ++ (clA (s.1.2.2.2.1 n) e L j ++ clZ F s.1 n)) m' ∧ EK m m') := by
    intro L
    induction L with
    | nil =>
      intro j i C m1 ed hj ht ek hc hl
      have ht : i = n + szF F n := ht
      subst ht
      have hj : j = (kids F n).length := hj
      have hcr := h.e ek
      have e0 : clA (s.1.2.2.2.1 n) e [] j = [] := rfl
      rw [e0, List.nil_append] at hl ⊢
      refine w200_17 xs (d + 3) _ _ _ _ m1 _ ⟨xi, ?_⟩
      rw [ei, (hcr.t hn).2.2.2.2.1]
      refine ⟨fun _ => ⟨fun f10 => ?_, fun f10 => ?_⟩, fun z => absurd (nI_le (Nat.le_refl _) (by omega)) z⟩
      · unfold clZ at hl ⊢
        rw [if_pos f10] at hl ⊢
        refine ⟨fun f4 => ?_, fun f4 => ?_⟩
        · rw [if_neg f4] at hl ⊢
          refine ⟨fun f3 => ?_, fun f3 => ?_⟩
          · rw [if_pos f3, List.append_nil]; exact ⟨rfl, hc, ek⟩
          · rw [if_neg f3] at hl ⊢
            refine ⟨fun f8 => ?_, fun f8 => ?_⟩
            · rw [if_pos f8, List.append_nil]; exact ⟨rfl, hc, ek⟩
            · rw [if_neg f8] at hl ⊢
              have n1 : n + 1 < F.length := by
                rcases gc with ⟨q, q1, q2, q3⟩ | ⟨b, b1, b2, b3⟩
                · obtain ⟨k2, k3, -, m1', -⟩ := kdS_of hW.kdN kl q1 q3
                  exact (hW.kin m1').2.2.2.1
                · have nb := (hS.2.2.1.1.nb hS.1 (Nat.le_refl _)).1
                  rw [b2] at f10
                  have := (nI_ltI (b := 10) (by omega) (by omega)).mp f10
                  omega
              have e1 : (nI n + 1).toNatClampNeg = n + 1 := by rw [nI_1]; exact nI_clamp (by omega)
              have x1 : x_in (nI n + 1) 16401 = true := by rw [nI_1]; exact x_in_nI (by omega) (by decide)
              have fin : ∀ o : Int32, o = (if (kids F n).length = 1 then 8 else 7) → yP (xg xs) (d + 4) 200 139 [(0, .ref 42), (1, .int (nI n)), (2, .int (s.1.2.2.2.1 n))] [.int o, .ref 42] m1 (fun r m' => r = none ∧ CO (C ++ [j1 (if (kids F n).length = 1 then 8 else 7) (nFun (s.1.2.2.2.1 n) (s.1.2.2.2.2 (n + 1)))]) m' ∧ EK m m') := by
                intro o ho
                refine w200_139 xs (d + 3) _ _ _ m1 _ ⟨x1, ?_⟩
                rw [e1, (hcr.t n1).2.2.2.1]
                refine y_ci (c174 xs d m1 _ _) (by omega) ?_
                rw [← ho]
                exact yC.mono (by omega) (fun r m2 q => ⟨q.1, rfl, q.2.1, ek.tr q.2.2⟩) (c193 xs d hc (by simpa using hl) o _)
              have i1 : nI j = 1 ↔ (kids F n).length = 1 := by
                rw [hj]
                exact nI_eq (b := 1) (by omega) (by omega)
              refine ⟨fun z => fin 7 ?_, fun z => fin 8 ?_⟩
              · rw [if_neg (fun y => z (i1.mpr y))]
              · rw [if_pos (i1.mp z)]
        · rw [if_pos f4] at hl ⊢
          exact yC.mono (by omega) (fun r m2 q => ⟨q.1, rfl, q.2.1, ek.tr q.2.2⟩) (c193 xs d hc (by simpa using hl) 9 0)
      · rcases gc with ⟨q, q1, q2, q3⟩ | ⟨b, b1, b2, b3⟩
        · exfalso
          rw [q2] at f10
          exact f10 (nI_lt (b := 10) q1 (by omega))
        · have nb := (hS.2.2.1.1.nb hS.1 (Nat.le_refl _)).1
          have s10 : nI (b + 10) - 10 = nI b := nI_sub (b := 10) (show 10 ≤ b + 10 by omega)
          unfold clZ at hl ⊢
          rw [if_neg f10] at hl ⊢
          rw [b2, s10, nI_clamp (by omega)] at hl ⊢
          rw [List.length_append] at hl
          have hl : C.length + ((cOw s.1 b (s.1.1.getD b dBK).2.2.2.2 (endV s.1 b - (s.1.1.getD b dBK).2.2.2.2)).length + 2) < 2 ^ 30 := hl
          exact yC.mono (by omega) (fun r m2 q => ⟨q.1, rfl, q.2.1, ek.tr q.2.2⟩) (c201 xs d hcr hS.aD hc (by omega) (hS.fm b (by omega)) (by omega))
    | cons c L ih =>
      intro j i C m1 ed hj ht ek hc hl
      obtain ⟨rfl, ht⟩ := ht
      have hcr := h.e ek
      have hk : (kids F n)[j]? = some c := by
        have := congrArg (fun l => l[0]?) ed
        simpa using this
      have e' : (kids F n).drop (j + 1) = L := by
        have := congrArg (List.drop 1) ed
        rw [List.drop_drop] at this
        simpa using this
      have cm := List.mem_of_getElem? hk
      have z := hW.kin cm
      rw [List.length_cons] at hj
      have xc : x_in (nI c) 16401 = true := x_in_nI (by omega) (by decide)
      have es : clA (s.1.2.2.2.1 n) e (c :: L) j = e c ++ ((if s.1.2.2.2.1 n = 3 ∧ 1 ≤ j then [j1 7 (if j = 1 then 24 else 23)] else []) ++ clA (s.1.2.2.2.1 n) e L (j + 1)) := rfl
      rw [es] at hl ⊢
      simp only [List.length_append] at hl
      -- behind it
      have nxt : ∀ (C' : List IT) (m2 : yM), EK m m2 → CO C' m2 → C'.length + (clA (s.1.2.2.2.1 n) e L (j + 1)).length + (clZ F s.1 n).length < 2 ^ 30 → yP (xg xs) (d + 4) 200 68 [(0, .ref 42), (1, .int (nI n)), (2, .int (s.1.2.2.2.1 n)), (3, .int (nI j + 1)), (4, .int (nI c))] [] m2 (fun r m' => r = none ∧ CO (C' ++ (clA (s.1.2.2.2.1 n) e L (j + 1) ++ clZ F s.1 n)) m' ∧ EK m m') := by
        intro C' m2 ek2 hc2 hl2
        refine w200_68 xs (d + 3) _ _ _ _ m2 _ ⟨xc, ?_⟩
        rw [nI_clamp (by omega), ((h.e ek2).t z.2.2.2.1).2.2.2.2.1, nI_1]
        exact ih (j + 1) (c + szF F c) C' m2 e' (by omega) ht ek2 hc2 (by rw [List.length_append]; omega)
      refine w200_17 xs (d + 3) _ _ _ _ m1 _ ⟨xi, ?_⟩
      rw [ei, (hcr.t hn).2.2.2.2.1]
      refine ⟨fun y => ?_, fun _ => ?_⟩
      · have := (nI_leI (by omega) (by omega)).mp y
        omega
      · refine yC.mono (Nat.le_refl _) (fun r m2 q => ⟨q.1, ?_⟩) (he c cm C m1 hcr hc (by omega))
        have ek2 := ek.tr q.2.2
        have hc2 := q.2.1
        have skip : ¬ (s.1.2.2.2.1 n = 3 ∧ 1 ≤ j) → yP (xg xs) (d + 4) 200 68 [(0, .ref 42), (1, .int (nI n)), (2, .int (s.1.2.2.2.1 n)), (3, .int (nI j + 1)), (4, .int (nI c))] [] m2 (fun r m' => r = none ∧ CO (C ++ (e c ++ ((if s.1.2.2.2.1 n = 3 ∧ 1 ≤ j then [j1 7 (if j = 1 then 24 else 23)] else []) ++ clA (s.1.2.2.2.1 n) e L (j + 1)) ++ clZ F s.1 n)) m' ∧ EK m m') := by
          intro w
          rw [if_neg w] at hl ⊢
          have := nxt (C ++ e c) m2 ek2 hc2 (by rw [List.length_append]; simp at hl; omega)
          rw [List.nil_append, List.append_assoc (e c)]
          rw [List.append_assoc] at this
          exact this
        have emit : ∀ a : Int32, s.1.2.2.2.1 n = 3 → 1 ≤ j → a = (if j = 1 then 24 else 23) → yP (xg xs) (d + 4) 200 65 [(0, .ref 42), (1, .int (nI n)), (2, .int (s.1.2.2.2.1 n)), (3, .int (nI j + 1)), (4, .int (nI c))] [.int a, .int 7, .ref 42] m2 (fun r m' => r = none ∧ CO (C ++ (e c ++ ((if s.1.2.2.2.1 n = 3 ∧ 1 ≤ j then [j1 7 (if j = 1 then 24 else 23)] else []) ++ clA (s.1.2.2.2.1 n) e L (j + 1)) ++ clZ F s.1 n)) m' ∧ EK m m') := by
          intro a w1 w2 ha
          rw [if_pos ⟨w1, w2⟩] at hl ⊢
          rw [List.length_singleton] at hl
          refine w200_65 xs (d + 3) _ _ _ _ _ _ m2 _ ?_
          refine yC.mono (by omega) (fun r m3 q3 => ⟨q3.1, ?_⟩) (c193 xs d hc2 (by rw [List.length_append]; omega) 7 a)
          have := nxt (C ++ e c ++ [j1 7 a]) m3 (ek2.tr q3.2.2) q3.2.1 (by rw [List.length_append, List.length_append, List.length_singleton]; omega)
          rw [← ha, List.append_assoc (e c), List.append_assoc [j1 7 a]]
          rw [List.append_assoc, List.append_assoc] at this
          exact this
        have j1' : nI j + 1 = nI (j + 1) := nI_1 j
        refine ⟨fun w => skip (fun y => w y.1), fun w => ⟨fun y => skip (fun y2 => ?_), fun y => ⟨fun y2 => emit 23 w ?_ ?_, fun y2 => emit 24 w ?_ ?_⟩⟩⟩
        · rw [j1'] at y
          have := (nI_leI (b := 1) (by omega) (by omega)).mp y
          omega
        · rcases Nat.lt_or_ge j 1 with q | q
          · exact absurd (by rw [j1']; exact nI_le (b := 1) (by omega) (by omega)) y
          · exact q
        · rw [if_neg]
          intro q
          apply y2
          rw [j1', q]
          rfl
        · rw [j1'] at y2
          have := (nI_eq (b := 2) (by omega) (by omega)).mp y2
          omega
        · rw [j1'] at y2
          have := (nI_eq (b := 2) (by omega) (by omega)).mp y2
          rw [if_pos (by omega)]
  refine w200_0 xs (d + 3) _ m _ ⟨xi, ?_⟩
  rw [ei, (h.t hn).2.2.1, nI_1]
  exact lp (kids F n) 0 (n + 1) C m rfl (by omega) hW.til (EK.re m) hc hl
theorem c197 (xs : List Int32) (d : Nat) {m0 : yM} {T : Nat} {F : List ND} {s : SU} (hS : HS m0 T F s) : ∀ (N n : Nat), TW m0 T F N n → wE F n → ∀ (C : List IT) (m : yM), CR F s.1 m → CO C m → C.length + (cE F s.1 N n).length < 2 ^ 30 → yC (xg xs) (d + 2 * N + 3) 197 [.ref 42, .int (nI n)] m (fun r m' => r = none ∧ CO (C ++ cE F s.1 N n) m' ∧ EK m m') := by
  intro N
  induction N with
  | zero => intro n h; exact absurd h (fun z => z)
  | succ N ih =>
    intro n hW hw C m h hc hl
    obtain ⟨hn, hx, nx⟩ := hw
    have hf := h.f
    have t := h.t hn
    have xi : x_in (nI n) 16401 = true := x_in_nI (by omega) (by decide)
    have ei : (nI n).toNatClampNeg = n := nI_clamp (by omega)
    have k37 := hW.k37
    have hv := hS.v hn
    have ok := hW.ok
    have kk : ∀ k, k < 30 ∨ 30 < k → k < 37 → s.1.2.2.1 n = nI k → kK F n = k := by
      intro k hk1 hk z
      rcases hS.ks hn with y | ⟨y, -⟩
      · rw [y] at z; exact (nI_eq (by omega) (by omega)).mp z
      · rw [y] at z
        have := (nI_eq (a := 30) (by omega) (by omega)).mp (show nI 30 = nI k from z)
        omega
    have ih' : ∀ c, c ∈ kids F n → wE F c → ∀ (C : List IT) (m : yM), CR F s.1 m → CO C m → C.length + (cE F s.1 N c).length < 2 ^ 30 → yC (xg xs) (d + 2 * N + 3) 197 [.ref 42, .int (nI c)] m (fun r m' => r = none ∧ CO (C ++ cE F s.1 N c) m' ∧ EK m m') := fun c hcm => ih c (hW.2.2.2.2.2.2 c hcm)
    have es : cE F s.1 (N + 1) n = if s.1.2.2.1 n = 6 then [j1 1 (vD s.1 (s.1.2.2.2.1 n).toNatClampNeg).2.2.2] else if s.1.2.2.1 n = 33 then [j1 1 (s.1.2.2.2.1 n)] else if s.1.2.2.1 n = 32 then cE F s.1 N (n + 1) ++ [cEl s.1 3 (s.1.2.2.2.1 n).toNatClampNeg] else if s.1.2.2.1 n = 34 then clA (s.1.2.2.2.1 n) (cE F s.1 N) (kids F n) 0 ++ clZ F s.1 n else if s.1.2.2.1 n = 35 then cE F s.1 N (n + 1) ++ (cE F s.1 N (n + 1 + szF F (n + 1)) ++ [j1 7 (nTwo (s.1.2.2.2.1 n) (s.1.2.2.2.2 n))]) else if s.1.2.2.1 n = 36 then cE F s.1 N (n + 1) ++ [j1 8 (nOne (s.1.2.2.2.1 n) (s.1.2.2.2.2 n))] else [j1 0 (s.1.2.2.2.1 n)] := rfl
    refine w197_0 xs (d + 2 * N + 4) _ m _ ⟨xi, ?_⟩
    rw [ei, t.1, es]
    rw [es] at hl
    refine ⟨fun z => ?_, fun z => ?_, fun z => ?_, fun z => ?_, fun z => ?_, fun z => ?_, fun z1 z2 z3 z4 z5 z6 => ?_⟩
    · obtain ⟨v, v1, v2, v3⟩ := hv.1 (kk 6 (by omega) (by omega) z) nx
      rw [if_pos z] at hl ⊢
      refine y_ci (c198 xs d h hn (fun _ => ⟨v, v1, v2⟩)) (by omega) ?_
      rw [if_pos z]
      exact yC.mono (by omega) (fun r m2 q => ⟨q.1, rfl, q.2⟩) (c193 xs d hc (by simpa using hl) 1 _)
    · have k := kk 32 (by omega) (by omega) z
      obtain ⟨v, v1, v2, v3⟩ := hv.2.1 k
      rw [if_neg (by rw [z]; decide), if_neg (by rw [z]; decide), if_pos z] at hl ⊢
      rw [List.length_append, List.length_singleton] at hl
      rw [k] at ok
      obtain ⟨-, a, ha, eks⟩ := ok
      obtain ⟨m1, m2, m3, m4⟩ := hW.k1 eks
      have cm : n + 1 ∈ kids F n := by rw [m1]; exact List.mem_cons_self
      have we := hS.kid hW hn cm (by omega) (by rw [m2]; exact ha)
      rw [nI_1]
      refine yC.mono (by omega) (fun r m2 q => ⟨q.1, xi, ?_⟩) (ih' (n + 1) cm we C m h hc (by omega))
      have h2 := h.e q.2.2
      have n2 := h.nV.2
      have vl := (vOk_i _ _).mp v2
      rw [(h2.t hn).2.2.1, v1, nI_clamp (by omega)]
      refine yC.mono (by omega) (fun r m3 q3 => ⟨q3.1, rfl, ?_, q.2.2.tr q3.2.2⟩) (c199 xs d h2 q.2.1 (by rw [List.length_append]; omega) 3 v2 (by have := (hS.e9 v2 v3).1; omega))
      have := q3.2.1
      rw [List.append_assoc] at this
      exact this
    · have k := kk 33 (by omega) (by omega) z
      rw [if_neg (by rw [z]; decide), if_pos z] at hl ⊢
      refine y_ci (c198 xs d h hn (fun y => absurd (z.symm.trans y) (by decide))) (by omega) ?_
      rw [if_neg (by rw [z]; decide)]
      exact yC.mono (by omega) (fun r m2 q => ⟨q.1, rfl, q.2⟩) (c193 xs d hc (by simpa using hl) 1 _)
    · have k := kk 34 (by omega) (by omega) z
      rw [if_neg (by rw [z]; decide), if_neg (by rw [z]; decide), if_neg (by rw [z]; decide), if_pos z] at hl ⊢
      rw [k] at ok
      refine yC.mono (Nat.le_refl _) (fun r m2 q => ⟨q.1, rfl, q.2⟩) (c200 xs (d + 2 * N) hS hW z (fun c hcm C m h1 h2 h3 => ih' c hcm (hS.kid hW hn hcm (by omega) (hW.mk ok.2 hcm)) C m h1 h2 h3) h hc hl)
    · have k := kk 35 (by omega) (by omega) z
      rw [if_neg (by rw [z]; decide), if_neg (by rw [z]; decide), if_neg (by rw [z]; decide), if_neg (by rw [z]; decide), if_pos z] at hl ⊢
      simp only [List.length_append, List.length_singleton] at hl
      rw [k] at ok
      obtain ⟨-, -, a, b, ha, hb, eks⟩ := ok
      obtain ⟨m1, m2, m3, m4, m5⟩ := hW.k2 eks
      have c1 : n + 1 ∈ kids F n := by rw [m1]; exact List.mem_cons_self
      have c2 : n + 1 + szF F (n + 1) ∈ kids F n := by rw [m1]; exact List.mem_cons_of_mem _ List.mem_cons_self
      have w1 := hS.kid hW hn c1 (by omega) (by rw [m2]; exact ha)
      have w2 := hS.kid hW hn c2 (by omega) (by rw [m3]; exact hb)
      rw [nI_1, nI_clamp (by omega)]
      refine yC.mono (by omega) (fun r m2 q => ⟨q.1, x_in_nI (by omega) (by decide), ?_⟩) (ih' (n + 1) c1 w1 C m h hc (by omega))
      have h2 := h.e q.2.2
      rw [(h2.t w1.1).2.2.2.2.1]
      refine yC.mono (by omega) (fun r m3 q3 => ⟨q3.1, xi, xi, ?_⟩) (ih' _ c2 w2 _ m2 h2 q.2.1 (by rw [List.length_append]; omega))
      have h3 := h2.e q3.2.2
      rw [(h3.t hn).2.2.1, (h3.t hn).2.2.2.1]
      refine y_ci (c181 xs d m3 _ _) (by omega) ?_
      refine yC.mono (by omega) (fun r m4 q4 => ⟨q4.1, rfl, ?_, (q.2.2.tr q3.2.2).tr q4.2.2⟩) (c193 xs d q3.2.1 (by rw [List.length_append, List.length_append]; omega) 7 _)
      have := q4.2.1
      rw [List.append_assoc, List.append_assoc] at this
      exact this
    · have k := kk 36 (by omega) (by omega) z
      rw [if_neg (by rw [z]; decide), if_neg (by rw [z]; decide), if_neg (by rw [z]; decide), if_neg (by rw [z]; decide), if_neg (by rw [z]; decide), if_pos z] at hl ⊢
      rw [List.length_append, List.length_singleton] at hl
      rw [k] at ok
      obtain ⟨-, -, a, ha, eks⟩ := ok
      obtain ⟨m1, m2, m3, m4⟩ := hW.k1 eks
      have cm : n + 1 ∈ kids F n := by rw [m1]; exact List.mem_cons_self
      have we := hS.kid hW hn cm (by omega) (by rw [m2]; exact ha)
      rw [nI_1]
      refine yC.mono (by omega) (fun r m2 q => ⟨q.1, xi, xi, ?_⟩) (ih' (n + 1) cm we C m h hc (by omega))
      have h2 := h.e q.2.2
      rw [(h2.t hn).2.2.1, (h2.t hn).2.2.2.1]
      refine y_ci (c183 xs d m2 _ _) (by omega) ?_
      refine yC.mono (by omega) (fun r m3 q3 => ⟨q3.1, rfl, ?_, q.2.2.tr q3.2.2⟩) (c193 xs d q.2.1 (by rw [List.length_append]; omega) 8 _)
      have := q3.2.1
      rw [List.append_assoc] at this
      exact this
    · rw [if_neg z1, if_neg z3, if_neg z2, if_neg z4, if_neg z5, if_neg z6] at hl ⊢
      refine ⟨xi, ?_⟩
      rw [t.2.2.1]
      exact yC.mono (by omega) (fun r m2 q => ⟨q.1, rfl, q.2⟩) (c193 xs d hc (by simpa using hl) 0 _)
