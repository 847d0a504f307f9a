/-! THE WRITER: rungs of the class, groups and coils -/
theorem lsR_le (F : List ND) (R : List Nat) (l : Nat) : ∀ k, lsR F R l k ≤ k
  | 0 => Nat.le_refl _
  | k + 1 => by
    unfold lsR
    split
    · exact Nat.le_trans (lsR_le F R l k) (by omega)
    · exact Nat.le_refl _
/-- power to a cell -/
theorem c215f (xs : List Int32) (d : Nat) {D : Nat} {F : List ND} {R : List Nat} {cols : Nat} {C : List IT} {m : yM} {P : yM → Prop} (hd : d + 2 ≤ D) (h : LG F R cols m) (hR : R.length ≤ 12) (hc : cols ≤ 12) {row l : Nat} (hr : row < R.length) (l1 : ¬ l = 1) (l0 : 1 ≤ l) (l2 : l ≤ cols) (co : CO C m) (hl : C.length + 1 < 2 ^ 30) (k : ∀ m1, CO (C ++ [fdC F R (m.1 42 8) row l]) m1 → EK m m1 → P m1) : yC (xg xs) D 215 [.ref 42, .int (nI row), .int (nI l - 1)] m (fun v3 m3 => ∃ u3, v3 = some (Value.int u3) ∧ yC (xg xs) D 193 [.ref 42, .int 1, .int u3] m3 (fun v4 m4 => v4 = none ∧ P m4)) := by
  have e : nI l - 1 = nI (l - 1) := by
    obtain ⟨b, rfl⟩ : ∃ b, l = b + 1 := ⟨l - 1, by omega⟩
    rw [nI_m (by omega)]
  rw [e]
  refine y_ci (c215 xs d h hR hc hr (show 1 ≤ l - 1 by omega) (show l - 1 ≤ cols by omega)) hd ?_
  refine c193k xs d hd co hl (fun m1 c1 e1 => k m1 ?_ e1)
  unfold fdC
  rw [if_neg l1]
  exact c1
theorem c217 (xs : List Int32) (d : Nat) {F : List ND} {σ : RS} {R : List Nat} {cols : Nat} {C : List IT} {m : yM} (h : CR F σ m) (hg : LG F R cols m) (hR : R.length ≤ 12) (c0 : 1 ≤ cols) (c12 : cols ≤ 12) (hc : CO C m) {n row : Nat} (hr : row < R.length) (hn : n + 1 < F.length) (h6 : σ.2.2.1 (n + 1) = 6 → ∃ v, σ.2.2.2.1 (n + 1) = nI v ∧ vOk σ v) (hl : C.length + 16 < 2 ^ 30) : yC (xg xs) (d + 3) 217 [.ref 42, .int (nI n), .int (nI row)] m (fun r m' => r = none ∧ CO (C ++ coC F σ R (m.1 42 8) cols row n) m' ∧ EK m m') := by
  have hf := h.f
  have xi : x_in (nI n) 16401 = true := x_in_nI (by omega) (by decide)
  have ec : coC F σ R (m.1 42 8) cols row n = (if σ.2.2.2.1 n < 2 then [] else [j1 1 (opC σ (n + 1))]) ++ ([fdC F R (m.1 42 8) row cols] ++ ((if σ.2.2.2.1 n = 1 ∨ σ.2.2.2.1 n = 3 then [j1 8 2] else []) ++ ((if σ.2.2.2.1 n < 2 then [] else [j1 7 (if σ.2.2.2.1 n = 2 then 11 else 10)]) ++ [j1 2 (opC σ (n + 1))]))) := rfl
  have k1 := c198 xs d h hn h6
  have eo : opC σ (n + 1) = (if σ.2.2.1 (n + 1) = 6 then (vD σ (σ.2.2.2.1 (n + 1)).toNatClampNeg).2.2.2 else σ.2.2.2.1 (n + 1)) := rfl
  rw [← eo] at k1
  have t5 := (h.t (show n < F.length by omega)).2.2.1
  generalize coC F σ R (m.1 42 8) cols row n = G at *
  generalize opC σ (n + 1) = cell at *
  generalize σ.2.2.2.1 n = w at *
  have s104 : ∀ C1 m1, CO C1 m1 → EK m m1 → C1.length ≤ C.length + 8 → C1 ++ [j1 2 cell] = C ++ G → yP (xg xs) (d + 3) 217 104 [(0, .ref 42), (4, .int cell)] [] m1 (fun r m' => r = none ∧ CO (C ++ G) m' ∧ EK m m') := by
    intro C1 m1 c1 e1 l1 ee
    refine w217_104 xs (d + 2) _ m1 _ (c193k xs d (by omega) c1 (by omega) (fun m2 c2 e2 => ⟨rfl, ?_, e1.tr e2⟩))
    rw [← ee]; exact c2
  have s81 : ∀ C1 m1, CO C1 m1 → EK m m1 → C1.length ≤ C.length + 7 → C1 ++ ((if w < 2 then [] else [j1 7 (if w = 2 then 11 else 10)]) ++ [j1 2 cell]) = C ++ G → yP (xg xs) (d + 3) 217 81 [(0, .ref 42), (3, .int w), (4, .int cell)] [] m1 (fun r m' => r = none ∧ CO (C ++ G) m' ∧ EK m m') := by
    intro C1 m1 c1 e1 l1 ee
    have go : ∀ a, ¬ w < 2 → a = (if w = 2 then 11 else 10) → yP (xg xs) (d + 3) 217 101 [(0, .ref 42), (4, .int cell)] [.int a, .int 7, .ref 42] m1 (fun r m' => r = none ∧ CO (C ++ G) m' ∧ EK m m') := by
      intro a z ha
      refine w217_101 xs (d + 2) _ _ _ m1 _ (c193k xs d (by omega) c1 (by omega) (fun m2 c2 e2 => s104 _ m2 c2 (e1.tr e2) (by simp only [List.length_append, List.length_singleton]; omega) ?_))
      rw [if_neg z, ← ha] at ee
      rw [← ee, List.append_assoc]
    refine w217_81 xs (d + 2) _ _ m1 _ ⟨fun z => s104 C1 m1 c1 e1 (by omega) ?_, fun z => ⟨fun y => go 10 z (by rw [if_neg y]), fun y => go 11 z (by rw [if_pos y])⟩⟩
    rw [if_pos z, List.nil_append] at ee; exact ee
  have s64 : ∀ C1 m1, CO C1 m1 → EK m m1 → C1.length ≤ C.length + 5 → C1 ++ ((if w = 1 ∨ w = 3 then [j1 8 2] else []) ++ ((if w < 2 then [] else [j1 7 (if w = 2 then 11 else 10)]) ++ [j1 2 cell])) = C ++ G → yP (xg xs) (d + 3) 217 64 [(0, .ref 42), (3, .int w), (4, .int cell)] [] m1 (fun r m' => r = none ∧ CO (C ++ G) m' ∧ EK m m') := by
    intro C1 m1 c1 e1 l1 ee
    have go : (w = 1 ∨ w = 3) → yP (xg xs) (d + 3) 217 74 [(0, .ref 42), (3, .int w), (4, .int cell)] [] m1 (fun r m' => r = none ∧ CO (C ++ G) m' ∧ EK m m') := by
      intro z
      refine w217_74 xs (d + 2) _ _ m1 _ (c193k xs d (by omega) c1 (by omega) (fun m2 c2 e2 => s81 _ m2 c2 (e1.tr e2) (by simp only [List.length_append, List.length_singleton]; omega) ?_))
      rw [if_pos z] at ee
      rw [← ee, List.append_assoc]
    refine w217_64 xs (d + 2) _ _ m1 _ ⟨fun z => go (Or.inl z), fun z => ⟨fun y => s81 C1 m1 c1 e1 (by omega) ?_, fun y => go (Or.inr y)⟩⟩
    have no : ¬ (w = 1 ∨ w = 3) := fun q => q.elim z y
    rw [if_neg no, List.nil_append] at ee; exact ee
  have s31 : ∀ C1 m1, CO C1 m1 → EK m m1 → C1.length ≤ C.length + 2 → C1 ++ ([fdC F R (m.1 42 8) row cols] ++ ((if w = 1 ∨ w = 3 then [j1 8 2] else []) ++ ((if w < 2 then [] else [j1 7 (if w = 2 then 11 else 10)]) ++ [j1 2 cell]))) = C ++ G → yP (xg xs) (d + 3) 217 31 [(0, .ref 42), (2, .int (nI row)), (3, .int w), (4, .int cell)] [] m1 (fun r m' => r = none ∧ CO (C ++ G) m' ∧ EK m m') := by
    intro C1 m1 c1 e1 l1 ee
    have g1 := hg.e e1
    have i1 : nI cols = 1 ↔ cols = 1 := nI_eq (b := 1) (by omega) (by omega)
    have e8 : m1.1 42 8 = m.1 42 8 := e1.1 42 8 (by omega)
    refine w217_31 xs (d + 2) _ _ _ m1 _ ?_
    rw [g1.2.1]
    refine ⟨fun z => c215f xs d (by omega) g1 hR c12 hr (fun y => z (i1.mpr y)) c0 (Nat.le_refl _) c1 (by omega) (fun m2 c2 e2 => s64 _ m2 c2 (e1.tr e2) (by simp only [List.length_append, List.length_singleton]; omega) ?_), fun z => c193k xs d (by omega) c1 (by omega) (fun m2 c2 e2 => s64 _ m2 c2 (e1.tr e2) (by simp only [List.length_append, List.length_singleton]; omega) ?_)⟩
    · rw [← ee, List.append_assoc, e8]
    · rw [← ee, List.append_assoc]
      unfold fdC
      rw [if_pos (i1.mp z)]
  refine w217_0 xs (d + 2) _ _ m _ ⟨xi, ?_⟩
  rw [nI_1, nI_clamp (by omega), t5]
  refine y_ci k1 (by omega) ⟨fun z => s31 C m hc (EK.re m) (by omega) ?_, fun z => c193k xs d (by omega) hc (by omega) (fun m2 c2 e2 => s31 _ m2 c2 e2 (by simp only [List.length_append, List.length_singleton]; omega) ?_)⟩
  · rw [ec]; simp only [if_pos z, List.nil_append]
  · rw [ec, List.append_assoc]; simp only [if_neg z]
theorem c214 (xs : List Int32) (d : Nat) {F : List ND} {σ : RS} {R : List Nat} {cols : Nat} {C : List IT} {m : yM} (h : CR F σ m) (hg : LG F R cols m) (hr : RG F σ R cols) (hc : CO C m) {a l : Nat} (ha : a < R.length) (l1 : 1 ≤ l) (l2 : l ≤ cols) (hl : C.length + (gpC F σ R (m.1 42 8) l a).length + 16 < 2 ^ 30) : yC (xg xs) (d + 4) 214 [.ref 42, .int (nI a), .int (nI l)] m (fun r m' => r = none ∧ CO (C ++ gpC F σ R (m.1 42 8) l a) m' ∧ EK m m') := by
  obtain ⟨R12, c0, c12, hrow, hcl⟩ := hr
  have hf := h.f
  generalize hpw : m.1 42 8 = pw at *
  have p8 : ∀ m1, EK m m1 → m1.1 42 8 = pw := fun m1 e1 => by rw [e1.1 42 8 (by omega)]; exact hpw
  -- the end
  have s119 : ∀ (fed : Nat) C1 m1, fed ≤ 12 → CO C1 m1 → EK m m1 → C1.length + 16 < 2 ^ 30 → yP (xg xs) (d + 4) 214 119 [(0, .ref 42), (1, .int (nI a)), (2, .int (nI l)), (3, .int (nI fed))] [] m1 (fun r m' => r = none ∧ CO (C1 ++ ((if fed = 0 then [j1 0 0] else []) ++ [j1 2 (pwO F R pw a l)])) m' ∧ EK m m') := by
    intro fed C1 m1 hfd c1 e1 hl1
    have s129 : ∀ C2 m2, CO C2 m2 → EK m m2 → C2.length + 8 < 2 ^ 30 → C2 ++ [j1 2 (pwO F R pw a l)] = C1 ++ ((if fed = 0 then [j1 0 0] else []) ++ [j1 2 (pwO F R pw a l)]) → yP (xg xs) (d + 4) 214 129 [(0, .ref 42), (1, .int (nI a)), (2, .int (nI l))] [] m2 (fun r m' => r = none ∧ CO (C1 ++ ((if fed = 0 then [j1 0 0] else []) ++ [j1 2 (pwO F R pw a l)])) m' ∧ EK m m') := by
      intro C2 m2 c2 e2 hl2 ee
      have k5 := c215 xs d (hg.e e2) R12 c12 ha l1 l2
      rw [p8 m2 e2] at k5
      refine w214_129 xs (d + 3) _ _ m2 _ (y_ci k5 (by omega) (c193k xs d (by omega) c2 (by omega) (fun m3 c3 e3 => ⟨rfl, ?_, e2.tr e3⟩)))
      rw [← ee]; exact c3
    have i0 : nI fed = 0 ↔ fed = 0 := nI_eq (b := 0) (by omega) (by omega)
    refine w214_119 xs (d + 3) _ _ _ m1 _ ⟨fun z => s129 C1 m1 c1 e1 (by omega) ?_, fun z => c193k xs d (by omega) c1 (by omega) (fun m2 c2 e2 => s129 _ m2 c2 (e1.tr e2) (by simp only [List.length_append, List.length_singleton]; omega) ?_)⟩
    · rw [if_neg (fun y => z (i0.mpr y)), List.nil_append]
    · rw [if_pos (i0.mp z), List.append_assoc]
  have lp : ∀ (k row fed : Nat) C1 m1, row + k = R.length → fed ≤ row → CO C1 m1 → EK m m1 → C1.length + (gpR F σ R pw l a k row fed).length + 17 < 2 ^ 30 → yP (xg xs) (d + 4) 214 5 [(0, .ref 42), (1, .int (nI a)), (2, .int (nI l)), (3, .int (nI fed)), (4, .int (nI row))] [] m1 (fun r m' => r = none ∧ CO (C1 ++ (gpR F σ R pw l a k row fed ++ [j1 2 (pwO F R pw a l)])) m' ∧ EK m m') := by
    intro k
    induction k with
    | zero =>
      intro row fed C1 m1 hk hfd c1 e1 hl1
      have g1 := hg.e e1
      refine w214_5 xs (d + 3) _ _ _ _ m1 _ ?_
      rw [g1.1]
      exact ⟨fun _ => s119 fed C1 m1 (by omega) c1 e1 (by omega), fun z => absurd (nI_le (by omega) (by omega)) z⟩
    | succ k ih =>
      intro row fed C1 m1 hk hfd c1 e1 hl1
      have g1 := hg.e e1
      have cr := h.e e1
      have rl : row < R.length := by omega
      obtain ⟨n1, n2, n3, n4⟩ := hcl row rl l l1 l2
      have es : gpR F σ R pw l a (k + 1) row fed = if lsR F R l row = a then (if kK F (clR F R row l) = 27 then gpR F σ R pw l a k (row + 1) fed else [fdC F R pw row l] ++ ((if kK F (clR F R row l) = 25 then cnC σ (clR F R row l) else []) ++ ((if fed = 0 then [] else [j1 7 11]) ++ gpR F σ R pw l a k (row + 1) (fed + 1)))) else if fed = 0 then [j1 0 0] else [] := rfl
      generalize hn : clR F R row l = n at *
      have ik : ∀ q, q < 37 → (σ.2.2.1 n = nI q ↔ kK F n = q) := fun q hq => by rw [n2]; exact nI_eq (by omega) (by omega)
      have ls := lsR_le F R l row
      have ia : nI (lsR F R l row) = nI a ↔ lsR F R l row = a := nI_eq (by omega) (by omega)
      have k12 := c212 xs d g1 R12 c12 rl l1 l2
      have k13 := c213 xs d g1 R12 c12 rl l1 l2
      rw [hn] at k13
      have xn : x_in (nI n) 16401 = true := x_in_nI (by omega) (by decide)
      have en : (nI n).toNatClampNeg = n := nI_clamp (by omega)
      refine w214_5 xs (d + 3) _ _ _ _ m1 _ ?_
      rw [g1.1]
      refine ⟨fun z => ?_, fun _ => y_ci k12 (by omega) ⟨fun z => ?_, fun z => y_ci k13 (by omega) ⟨xn, ?_⟩⟩⟩
      · have := (nI_leI (by omega) (by omega)).mp z
        omega
      · have no : ¬ lsR F R l row = a := fun y => z (ia.mpr y)
        rw [es, if_neg no]
        exact s119 fed C1 m1 (by omega) c1 e1 (by omega)
      · rw [if_pos (ia.mp z)] at es
        rw [en, (cr.t n1).1]
        refine ⟨fun y => ?_, fun y => ?_⟩
        · rw [if_pos ((ik 27 (by omega)).mp y)] at es
          rw [es] at hl1 ⊢
          refine w214_113 xs (d + 3) _ _ _ _ m1 _ ?_
          rw [nI_1]
          exact ih (row + 1) fed C1 m1 (by omega) (by omega) c1 e1 hl1
        · rw [if_neg (fun q => y ((ik 27 (by omega)).mpr q))] at es
          rw [es] at hl1 ⊢
          simp only [List.length_append, List.length_singleton] at hl1
          have i1 : nI l = 1 ↔ l = 1 := nI_eq (b := 1) (by omega) (by omega)
          have i0 : nI fed ≤ 0 ↔ fed = 0 := by
            have := nI_leI (a := fed) (b := 0) (by omega) (by omega)
            exact this.trans ⟨fun q => by omega, fun q => by omega⟩
          generalize hG : gpR F σ R pw l a k (row + 1) (fed + 1) = G at *
          have s98 : ∀ C2 m2, CO C2 m2 → EK m m2 → C2.length + ((if fed = 0 then ([] : List IT) else [j1 7 11]).length + G.length) + 17 < 2 ^ 30 → yP (xg xs) (d + 4) 214 98 [(0, .ref 42), (1, .int (nI a)), (2, .int (nI l)), (3, .int (nI fed)), (4, .int (nI row))] [] m2 (fun r m' => r = none ∧ CO (C2 ++ ((if fed = 0 then [] else [j1 7 11]) ++ (G ++ [j1 2 (pwO F R pw a l)]))) m' ∧ EK m m') := by
            intro C2 m2 c2 e2 hl2
            have s110 : ∀ C3 m3, CO C3 m3 → EK m m3 → C3.length + G.length + 17 < 2 ^ 30 → yP (xg xs) (d + 4) 214 110 [(0, .ref 42), (1, .int (nI a)), (2, .int (nI l)), (3, .int (nI fed)), (4, .int (nI row))] [] m3 (fun r m' => r = none ∧ CO (C3 ++ (G ++ [j1 2 (pwO F R pw a l)])) m' ∧ EK m m') := by
              intro C3 m3 c3 e3 hl3
              refine w214_110 xs (d + 3) _ _ _ _ m3 _ (w214_113 xs (d + 3) _ _ _ _ m3 _ ?_)
              rw [nI_1, nI_1]
              have := ih (row + 1) (fed + 1) C3 m3 (by omega) (by omega) c3 e3 (by rw [hG]; exact hl3)
              rw [hG] at this
              exact this
            refine w214_98 xs (d + 3) _ _ _ _ m2 _ ⟨fun q => ?_, fun q => ?_⟩
            · rw [if_pos (i0.mp q)] at hl2 ⊢
              rw [List.nil_append]
              exact s110 C2 m2 c2 e2 (by rw [List.length_nil] at hl2; omega)
            · rw [if_neg (fun r => q (i0.mpr r))] at hl2 ⊢
              rw [List.length_singleton] at hl2
              refine c193k xs d (by omega) c2 (by omega) (fun m3 c3 e3 => ?_)
              have := s110 _ m3 c3 (e2.tr e3) (by rw [List.length_append, List.length_singleton]; omega)
              rw [List.append_assoc] at this
              exact this
          have s77 : ∀ m2, CO (C1 ++ [fdC F R pw row l]) m2 → EK m m2 → yP (xg xs) (d + 4) 214 77 [(0, .ref 42), (1, .int (nI a)), (2, .int (nI l)), (3, .int (nI fed)), (4, .int (nI row)), (5, .int (nI n))] [] m2 (fun r m' => r = none ∧ CO (C1 ++ ([fdC F R pw row l] ++ ((if kK F n = 25 then cnC σ n else []) ++ ((if fed = 0 then [] else [j1 7 11]) ++ G)) ++ [j1 2 (pwO F R pw a l)])) m' ∧ EK m m') := by
            intro m2 c2 e2
            have cr2 := h.e e2
            refine w214_77 xs (d + 3) _ _ _ _ _ m2 _ ⟨xn, ?_⟩
            rw [en, (cr2.t n1).1]
            refine ⟨fun q => ?_, fun q => ?_⟩
            · have no : ¬ kK F n = 25 := fun r => q ((ik 25 (by omega)).mpr r)
              rw [if_neg no] at hl1 ⊢
              have := s98 _ m2 c2 e2 (by rw [List.length_append, List.length_singleton]; rw [List.length_nil] at hl1; omega)
              simpa only [List.append_assoc, List.nil_append] using this
            · have yes := (ik 25 (by omega)).mp q
              rw [if_pos yes] at hl1 ⊢
              obtain ⟨o1, o2⟩ := n4 (Or.inl yes)
              refine yC.mono (by omega) (fun r m3 q3 => ⟨q3.1, ?_⟩) (c216 xs d cr2 c2 o1 o2 (by rw [List.length_append, List.length_singleton]; omega))
              have := s98 _ m3 q3.2.1 (e2.tr q3.2.2) (by simp only [List.length_append, List.length_singleton]; omega)
              simpa only [List.append_assoc] using this
          refine ⟨fun q => c215f xs d (by omega) g1 R12 c12 rl (fun r => q (i1.mpr r)) l1 l2 c1 (by omega) (fun m2 c2 e2 => s77 m2 ?_ (e1.tr e2)), fun q => c193k xs d (by omega) c1 (by omega) (fun m2 c2 e2 => s77 m2 ?_ (e1.tr e2))⟩
          · rw [p8 m1 e1] at c2; exact c2
          · unfold fdC
            rw [if_pos (i1.mp q)]
            exact c2
  have el : (gpC F σ R pw l a).length = (gpR F σ R pw l a (R.length - a) a 0).length + 1 := by unfold gpC; rw [List.length_append, List.length_singleton]
  refine w214_0 xs (d + 3) _ _ m _ ?_
  exact lp (R.length - a) a 0 C m (by omega) (by omega) hc (EK.re m) (by omega)
