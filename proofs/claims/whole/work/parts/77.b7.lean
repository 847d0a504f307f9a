/-! THE WRITER: units of the class -/
def bgV (σ : RS) : Nat → Nat → List IT
  | 0 => fun _ => []
  | k + 1 => fun v => (if (vD σ v).1 = 0 then [j1 0 (vD σ v).2.2.1, j1 2 (vD σ v).2.2.2] else []) ++ bgV σ k (v + 1)
def bgC (σ : RS) (b : Nat) : List IT := if (σ.1.getD b dBK).1 = 1 then [j1 0 0, j1 2 0] ++ bgV σ (endV σ b - (σ.1.getD b dBK).2.2.2.2) (σ.1.getD b dBK).2.2.2.2 else []
def unT (F : List ND) (σ : RS) (N : Nat) (pw : Int32) (c p : Nat) : List IT := if kK F c = 11 then wB F σ N 0 c p else if kK F c = 22 then laC F σ pw (kids F c) else []
def unC (F : List ND) (σ : RS) (N b : Nat) : List IT := bgC σ b ++ seqC (unT F σ N ((σ.1.getD b dBK).2.2.2.1 - 156)) (kids F (σ.1.getD b dBK).2.1) (bgC σ b).length
def allC (F : List ND) (σ : RS) (N : Nat) : Nat → List IT
  | 0 => []
  | b + 1 => allC F σ N b ++ unC F σ N b
theorem CO.f2 {C : List IT} {m m' : yM} (h : CO C m) (g6 : m'.1 35 6 = m.1 35 6) (g : ∀ a i, 35 < a → a < 40 → m'.1 a i = m.1 a i) : CO C m' := by
  obtain ⟨h1, h2, h3⟩ := h
  refine ⟨by rw [g6]; exact h1, h2, fun hl i x hx => ?_⟩
  rw [g 36 i (by omega) (by omega), g 37 i (by omega) (by omega), g 38 i (by omega) (by omega), g 39 i (by omega) (by omega)]
  exact h3 hl i x hx
theorem bgV_0 (σ : RS) : ∀ k v, mk0 (bgV σ k v)
  | 0, v => mk0.nil
  | k + 1, v => by
    unfold bgV
    refine mk0.app ?_ (bgV_0 σ k (v + 1))
    split
    · exact mk0.app (D := [_]) (mk0.i rfl) (mk0.i rfl)
    · exact mk0.nil
theorem bgC_0 (σ : RS) (b : Nat) : mk0 (bgC σ b) := by
  unfold bgC
  split
  · exact mk0.app (mk0.app (D := [_]) (mk0.i rfl) (mk0.i rfl)) (bgV_0 σ _ _)
  · exact mk0.nil
theorem cnC_0 (σ : RS) (n : Nat) : mk0 (cnC σ n) := by
  unfold cnC
  refine mk0.app ?_ ((mk0.i rfl).app (mk0.app ?_ (mk0.app ?_ ((mk0.i rfl).app ?_))))
  · split
    · exact mk0.i rfl
    · exact mk0.nil
  · split
    · exact mk0.i rfl
    · exact mk0.nil
  · split
    · exact mk0.nil
    · exact mk0.i rfl
  · split
    · exact mk0.nil
    · exact mk0.app (D := [_]) (mk0.i rfl) (mk0.app (D := [_]) (mk0.i rfl) (mk0.i rfl))
theorem fdC_0 (F : List ND) (R : List Nat) (pw : Int32) (row l : Nat) : mk0 [fdC F R pw row l] := by
  refine mk0.i ?_
  unfold fdC
  split <;> rfl
theorem coC_0 (F : List ND) (σ : RS) (R : List Nat) (pw : Int32) (cols row n : Nat) : mk0 (coC F σ R pw cols row n) := by
  unfold coC
  refine mk0.app ?_ ((fdC_0 F R pw row cols).app (mk0.app ?_ (mk0.app ?_ (mk0.i rfl))))
  · split
    · exact mk0.nil
    · exact mk0.i rfl
  · split
    · exact mk0.i rfl
    · exact mk0.nil
  · split
    · exact mk0.nil
    · exact mk0.i rfl
theorem gpR_0 (F : List ND) (σ : RS) (R : List Nat) (pw : Int32) (l a : Nat) : ∀ k row fed, mk0 (gpR F σ R pw l a k row fed)
  | 0, row, fed => by
    unfold gpR
    split
    · exact mk0.i rfl
    · exact mk0.nil
  | k + 1, row, fed => by
    unfold gpR
    split
    · split
      · exact gpR_0 F σ R pw l a k (row + 1) fed
      · refine (fdC_0 F R pw row l).app (mk0.app ?_ (mk0.app ?_ (gpR_0 F σ R pw l a k (row + 1) (fed + 1))))
        · split
          · exact cnC_0 σ _
          · exact mk0.nil
        · split
          · exact mk0.nil
          · exact mk0.i rfl
    · split
      · exact mk0.i rfl
      · exact mk0.nil
theorem gpL_0 (F : List ND) (σ : RS) (R : List Nat) (pw : Int32) (cols l : Nat) : ∀ k row, mk0 (gpL F σ R pw cols l k row)
  | 0, row => mk0.nil
  | k + 1, row => by
    unfold gpL
    refine mk0.app ?_ (gpL_0 F σ R pw cols l k (row + 1))
    split
    · exact (gpR_0 F σ R pw l row _ _ _).app (mk0.i rfl)
    · exact mk0.nil
theorem lnC_0 (F : List ND) (σ : RS) (R : List Nat) (pw : Int32) (cols : Nat) : ∀ k l, mk0 (lnC F σ R pw cols k l)
  | 0, l => mk0.nil
  | k + 1, l => (gpL_0 F σ R pw cols l _ _).app (lnC_0 F σ R pw cols k (l + 1))
theorem coL_0 (F : List ND) (σ : RS) (R : List Nat) (pw : Int32) (cols : Nat) : ∀ k row, mk0 (coL F σ R pw cols k row)
  | 0, row => mk0.nil
  | k + 1, row => by
    unfold coL
    refine mk0.app ?_ (coL_0 F σ R pw cols k (row + 1))
    split
    · exact coC_0 F σ R pw cols row _
    · exact mk0.nil
theorem laC_0 (F : List ND) (σ : RS) (pw : Int32) : ∀ L, mk0 (laC F σ pw L)
  | [] => mk0.nil
  | n :: L => ((lnC_0 F σ _ pw _ _ _).app (coL_0 F σ _ pw _ _ _)).app (laC_0 F σ pw L)
theorem c192 (xs : List Int32) (d : Nat) {F : List ND} {σ : RS} {C : List IT} {m : yM} (h : CR F σ m) (hD : allD σ) (hc : CO C m) {b : Nat} (hb : b < σ.1.length) (hfe : (σ.1.getD b dBK).2.2.2.2 ≤ endV σ b ∧ endV σ b ≤ σ.2.1.length) (hl : C.length + (bgV σ (endV σ b - (σ.1.getD b dBK).2.2.2.2) (σ.1.getD b dBK).2.2.2.2).length + 16 < 2 ^ 30) : yC (xg xs) (d + 3) 192 [.ref 42, .int (nI b)] m (fun r m' => r = none ∧ CO (C ++ ([j1 0 0, j1 2 0] ++ bgV σ (endV σ b - (σ.1.getD b dBK).2.2.2.2) (σ.1.getD b dBK).2.2.2.2)) m' ∧ EK m m') := by
  have n2 := h.nV.2
  generalize hf0 : (σ.1.getD b dBK).2.2.2.2 = f0 at *
  have lp : ∀ (k v : Nat) (C1 : List IT) (m1 : yM), v + k = endV σ b → EK m m1 → CO C1 m1 → C1.length + (bgV σ k v).length + 14 < 2 ^ 30 → yP (xg xs) (d + 3) 192 21 [(0, .ref 42), (1, .int (nI b)), (2, .int (nI v))] [] m1 (fun r m' => r = none ∧ CO (C1 ++ bgV σ k v) m' ∧ EK m m') := by
    intro k
    induction k with
    | zero =>
      intro v C1 m1 hk e1 c1 hl1
      refine w192_21 xs (d + 2) _ _ m1 _ (y_ci (c120 xs d (h.e e1) hb) (by omega) ⟨fun _ => ⟨rfl, ?_, e1⟩, fun z => absurd (nI_le (by omega) (by omega)) z⟩)
      show CO (C1 ++ []) m1
      rw [List.append_nil]; exact c1
    | succ k ih =>
      intro v C1 m1 hk e1 c1 hl1
      have hcr := h.e e1
      have vo := hD v (by omega)
      obtain ⟨a1, a2, a3, a4, a5, a6, a7⟩ := hcr.v vo
      have xv : x_in (nI v) 4097 = true := x_in_nI (by omega) (by decide)
      have cv : (nI v).toNatClampNeg = v := nI_clamp (by omega)
      have es : bgV σ (k + 1) v = (if (vD σ v).1 = 0 then [j1 0 (vD σ v).2.2.1, j1 2 (vD σ v).2.2.2] else []) ++ bgV σ k (v + 1) := rfl
      rw [es] at hl1 ⊢
      refine w192_21 xs (d + 2) _ _ m1 _ (y_ci (c120 xs d hcr hb) (by omega) ⟨fun z => ?_, fun _ => ⟨xv, ?_⟩⟩)
      · have := (nI_leI (by omega) (by omega)).mp z
        omega
      · rw [cv, a3, a5]
        refine ⟨fun z => ?_, fun z => ⟨xv, ?_⟩⟩
        · rw [if_neg z, List.nil_append] at hl1 ⊢
          refine w192_73 xs (d + 2) _ _ m1 _ ?_
          rw [nI_1]
          exact ih (v + 1) C1 m1 (by omega) e1 c1 hl1
        · rw [if_pos z] at hl1 ⊢
          rw [List.length_append] at hl1
          have hl1 : C1.length + (2 + (bgV σ k (v + 1)).length) + 14 < 2 ^ 30 := hl1
          refine c193k xs d (by omega) c1 (by omega) (fun m2 c2 e2 => ⟨xv, ?_⟩)
          rw [(((h.e (e1.tr e2)).v vo).2.2.2.2.2.1)]
          refine c193k xs d (by omega) c2 (by simp only [List.length_append, List.length_singleton]; omega) (fun m3 c3 e3 => ?_)
          refine w192_73 xs (d + 2) _ _ m3 _ ?_
          rw [nI_1]
          have := ih (v + 1) _ m3 (by omega) ((e1.tr e2).tr e3) c3 (by simp only [List.length_append, List.length_singleton]; omega)
          simpa only [List.append_assoc, List.cons_append, List.nil_append] using this
  have k19 : ∀ m1, EK m m1 → yC (xg xs) (d + 1) 119 [.ref 18, .int (nI b)] m1 (fun r m' => r = some (.int (nI f0)) ∧ m' = m1) := fun m1 e1 => by have := c119 xs d (h.e e1) hb; rw [hf0] at this; exact this
  refine w192_0 xs (d + 2) _ m _ (c193k xs d (by omega) hc (by omega) (fun m1 c1 e1 => c193k xs d (by omega) c1 (by simp only [List.length_append, List.length_singleton]; omega) (fun m2 c2 e2 => y_ci (k19 m2 (e1.tr e2)) (by omega) ?_)))
  have := lp (endV σ b - f0) f0 _ m2 (by omega) (e1.tr e2) c2 (by simp only [List.length_append, List.length_singleton]; omega)
  simpa only [List.append_assoc, List.cons_append, List.nil_append] using this
theorem c191 (xs : List Int32) (d : Nat) {m : yM} {U : Nat} (hU : m.1 35 7 = nI U) (h16 : U < 16) : yC (xg xs) (d + 1) 191 [.ref 35] m (fun r m' => r = some (.int (m.1 35 6)) ∧ m' = y_si (y_si m 35 7 (nI (U + 1))) 40 U (m.1 35 6)) := by
  refine w191_0 xs d m _ ?_
  have e1 : m.1 35 7 + 1 = nI (U + 1) := by rw [hU, nI_1]
  have n16 : ¬ (16 : Int32) < nI (U + 1) := fun z => by
    have := (nI_ltI (a := 16) (by omega) (by omega)).mp z
    omega
  rw [e1, if_neg n16]
  have e2 : nI (U + 1) - 1 = nI U := by rw [nI_m (by omega)]; rfl
  rw [e2, nI_clamp (by omega)]
  exact ⟨x_in_nI (by omega) (by decide), rfl, rfl⟩
/-- what the units leave alone -/
def GVK (m m' : yM) : Prop := (∀ a i, a < 35 ∨ a = 41 ∨ 44 < a → m'.1 a i = m.1 a i) ∧ m'.2 = m.2
theorem GVK.tr {m m1 m2 : yM} (h : GVK m m1) (h2 : GVK m1 m2) : GVK m m2 := ⟨fun a i x => by rw [h2.1 a i x, h.1 a i x], h2.2.trans h.2⟩
theorem CR.gvk {F : List ND} {σ : RS} {m m' : yM} (h : CR F σ m) (g : GVK m m') : CR F σ m' := h.ek (fun a i z => g.1 a i (by omega))
/-- a block's node -/
def nodB (F : List ND) (σ : RS) (b : Nat) : Prop := kK F (σ.1.getD b dBK).2.1 = 1 ∨ kK F (σ.1.getD b dBK).2.1 = 2 ∨ kK F (σ.1.getD b dBK).2.1 = 3
theorem c190 (xs : List Int32) (d : Nat) {m0 : yM} {T : Nat} {F : List ND} {s : SU} (hS : HS m0 T F s) (h16 : P16 F [] F.length) {N : Nat} {b : Nat} (hb : b < s.1.1.length) (hW : TW m0 T F (N + 1) (s.1.1.getD b dBK).2.1) {C : List IT} {m : yM} (h : CR F s.1 m) (hc : CO C m) (m0C : mk0 C) {U : Nat} (hU : m.1 35 7 = nI U) (u16 : U < 16) (hl : C.length + (unC F s.1 N b).length + 16 < 2 ^ 30) : yC (xg xs) (d + 3 * N + 9) 190 [.ref 42, .int (nI b)] m (fun r m' => r = none ∧ CO (C ++ unC F s.1 N b) m' ∧ m'.1 35 7 = nI (U + 1) ∧ m'.1 40 U = nI C.length ∧ (∀ i, ¬ i = U → m'.1 40 i = m.1 40 i) ∧ GVK m m') := by
  have nB := h.nB.2
  have hf := h.f
  obtain ⟨b1, b2, b3, b4, b5, b6⟩ := h.b hb
  have xb : x_in (nI b) 512 = true := x_in_nI (by omega) (by decide)
  have eb : (nI b).toNatClampNeg = b := nI_clamp (by omega)
  have eu : unC F s.1 N b = bgC s.1 b ++ seqC (unT F s.1 N ((s.1.1.getD b dBK).2.2.2.1 - 156)) (kids F (s.1.1.getD b dBK).2.1) (bgC s.1 b).length := rfl
  rw [eu] at hl ⊢
  rw [List.length_append] at hl
  generalize hpw : (s.1.1.getD b dBK).2.2.2.1 - 156 = pw at *
  generalize hn : (s.1.1.getD b dBK).2.1 = n at *
  have at' := hW.at
  have xn : x_in (nI n) 16401 = true := x_in_nI (by omega) (by decide)
  have en : (nI n).toNatClampNeg = n := nI_clamp (by omega)
  have hc6 := hc.1
  -- the parts
  have lp : ∀ (L : List Nat) (i : Nat) (C1 : List IT) (m1 : yM), tile F L i (n + szF F n) → (∀ c, c ∈ L → c ∈ kids F n) → n < i → WC F s.1 C.length 0 C1 m1 → MK C1 (2 * i) → m1.1 42 8 = pw → m1.1 35 7 = nI (U + 1) → m1.1 40 U = nI C.length → (∀ i, ¬ i = U → m1.1 40 i = m.1 40 i) → GVK m m1 → C1.length + (seqC (unT F s.1 N pw) L (C1.length - C.length)).length + 16 < 2 ^ 30 → yP (xg xs) (d + 3 * N + 9) 190 65 [(0, .ref 42), (2, .int (nI n)), (3, .int (nI i))] [] m1 (fun r m' => r = none ∧ CO (C1 ++ seqC (unT F s.1 N pw) L (C1.length - C.length)) m' ∧ m'.1 35 7 = nI (U + 1) ∧ m'.1 40 U = nI C.length ∧ (∀ i, ¬ i = U → m'.1 40 i = m.1 40 i) ∧ GVK m m') := by
    intro L
    induction L with
    | nil =>
      intro i C1 m1 ht hm ni w1 k1 p1 u1 v1 o1 e1 hl1
      have ht : i = n + szF F n := ht
      subst ht
      refine w190_65 xs (d + 3 * N + 8) _ _ m1 _ ⟨xn, ?_⟩
      rw [en, (w1.1.t b6).2.2.2.2.1]
      refine ⟨fun _ => ⟨rfl, ?_, u1, v1, o1, e1⟩, fun z => absurd (nI_le (Nat.le_refl _) (by omega)) z⟩
      show CO (C1 ++ []) m1
      rw [List.append_nil]; exact w1.2.1
    | cons c L ihL =>
      intro i C1 m1 ht hm ni w1 k1 p1 u1 v1 o1 e1 hl1
      obtain ⟨rfl, ht⟩ := ht
      have cm := hm c List.mem_cons_self
      have z := hW.kin cm
      have hWc := hW.2.2.2.2.2.2 c cm
      have kb := hW.kid cm
      have cu := w1.2.2.1
      have xc : x_in (nI c) 16401 = true := x_in_nI (by omega) (by decide)
      have ec : (nI c).toNatClampNeg = c := nI_clamp (by omega)
      have c37 := hS.1.2.1 c z.2.2.2.1
      have ik : ∀ q, q < 30 → (s.1.2.2.1 c = nI q ↔ kK F c = q) := by
        intro q hq
        rcases hS.ks z.2.2.2.1 with w | ⟨w, w'⟩
        · rw [w]; exact nI_eq (by omega) (by omega)
        · rw [w]
          constructor
          · intro y
            have := (nI_eq (a := 30) (by omega) (by omega)).mp (show nI 30 = nI q from y)
            omega
          · intro y; omega
      have es : seqC (unT F s.1 N pw) (c :: L) (C1.length - C.length) = unT F s.1 N pw c (C1.length - C.length) ++ seqC (unT F s.1 N pw) L (C1.length - C.length + (unT F s.1 N pw c (C1.length - C.length)).length) := rfl
      rw [es] at hl1 ⊢
      rw [List.length_append] at hl1
      have nxt : ∀ m2, WC F s.1 C.length 0 (C1 ++ unT F s.1 N pw c (C1.length - C.length)) m2 → mk2 0 (unT F s.1 N pw c (C1.length - C.length)) → m2.1 42 8 = pw → m2.1 35 7 = nI (U + 1) → m2.1 40 U = nI C.length → (∀ i, ¬ i = U → m2.1 40 i = m.1 40 i) → GVK m m2 → yP (xg xs) (d + 3 * N + 9) 190 119 [(0, .ref 42), (2, .int (nI n)), (3, .int (nI c))] [] m2 (fun r m' => r = none ∧ CO (C1 ++ (unT F s.1 N pw c (C1.length - C.length) ++ seqC (unT F s.1 N pw) L (C1.length - C.length + (unT F s.1 N pw c (C1.length - C.length)).length))) m' ∧ m'.1 35 7 = nI (U + 1) ∧ m'.1 40 U = nI C.length ∧ (∀ i, ¬ i = U → m'.1 40 i = m.1 40 i) ∧ GVK m m') := by
        intro m2 w2 k2 p2 u2 v2 o2 e2
        refine w190_119 xs (d + 3 * N + 8) _ _ m2 _ ⟨xc, ?_⟩
        rw [ec, (w2.1.t z.2.2.2.1).2.2.2.2.1]
        have pl : (C1 ++ unT F s.1 N pw c (C1.length - C.length)).length - C.length = C1.length - C.length + (unT F s.1 N pw c (C1.length - C.length)).length := by rw [List.length_append]; omega
        have := ihL (c + szF F c) _ m2 ht (fun x hx => hm x (List.mem_cons_of_mem _ hx)) (by omega) w2 ((k1.w (by omega)).app (k2.k (by unfold mX; omega))) p2 u2 v2 o2 e2 (by rw [pl, List.length_append]; omega)
        rw [pl, List.append_assoc] at this
        exact this
      refine w190_65 xs (d + 3 * N + 8) _ _ m1 _ ⟨xn, ?_⟩
      rw [en, (w1.1.t b6).2.2.2.2.1, ec, (w1.1.t z.2.2.2.1).1]
      refine ⟨fun y => ?_, fun _ => ⟨xc, fun y => ⟨xc, fun y2 => ?_, fun y2 => ?_⟩, fun y => ?_⟩⟩
      · have := (nI_leI (by omega) (by omega)).mp y
        omega
      · have e : unT F s.1 N pw c (C1.length - C.length) = [] := by
          unfold unT
          rw [if_neg (fun w => y ((ik 11 (by omega)).mpr w)), if_neg (fun w => y2 ((ik 22 (by omega)).mpr w))]
        refine nxt m1 ?_ ?_ p1 u1 v1 o1 e1
        · rw [e, List.append_nil]; exact w1
        · rw [e]; exact mk0.nil.w
      · have k22 := (ik 22 (by omega)).mp y2
        have e : unT F s.1 N pw c (C1.length - C.length) = laC F s.1 pw (kids F c) := by
          unfold unT
          rw [if_neg (by omega), if_pos k22]
        have k10 := c210 xs (d + 3 * N + 3) hS h16 hWc k22 w1.1 w1.2.1 (by rw [p1, ← e]; omega)
        rw [p1, ← e] at k10
        have la0 : mk0 (unT F s.1 N pw c (C1.length - C.length)) := by rw [e]; exact laC_0 F s.1 pw _
        refine yC.mono (by omega) (fun r m2 q => ⟨q.1, ?_⟩) k10
        obtain ⟨-, q2, q3⟩ := q
        refine nxt m2 ⟨w1.1.uk q3, q2, by rw [List.length_append]; omega, by rw [q3.2.2.1 7 (by omega) (by omega)]; exact w1.2.2.2.1, ?_⟩ la0.w (by rw [q3.2.2.1 8 (by omega) (by omega)]; exact p1) (by rw [q3.2.1 7 (by omega)]; exact u1) (by rw [q3.1 40 U (by omega)]; exact v1) (fun i hi => by rw [q3.1 40 i (by omega)]; exact o1 i hi) (e1.tr ⟨fun a i w => q3.1 a i (by omega), q3.2.2.2⟩)
        rw [q3.2.2.1 9 (by omega) (by omega), w1.2.2.2.2, prv_x (la0.nx 0)]
      · have k11 := (ik 11 (by omega)).mp y
        have e : unT F s.1 N pw c (C1.length - C.length) = wB F s.1 N 0 c (C1.length - C.length) := by
          unfold unT
          rw [if_pos k11]
        have k95 := c195 xs d hS (u := C.length) N 0 c hWc k11 (by omega) C1 m1 w1 (k1.w (by omega)) (by rw [← e]; omega)
        rw [← e] at k95
        refine yC.mono (by omega) (fun r m2 q => ⟨q.1, ?_⟩) k95
        obtain ⟨-, q2, q3⟩ := q
        exact nxt m2 q2 (by rw [e]; exact wB_2 F s.1 N 0 c _) (by rw [q3.2.2.1 8 (by omega)]; exact p1) (by rw [q3.2.1 7 (by omega)]; exact u1) (by rw [q3.1 40 U (by omega)]; exact v1) (fun i hi => by rw [q3.1 40 i (by omega)]; exact o1 i hi) (e1.tr ⟨fun a i w => q3.1 a i (by omega), q3.2.2.2⟩)
  -- from the beginning
  have s51 : ∀ m1, WC F s.1 C.length 0 (C ++ bgC s.1 b) m1 → m1.1 42 8 = pw → m1.1 35 7 = nI (U + 1) → m1.1 40 U = nI C.length → (∀ i, ¬ i = U → m1.1 40 i = m.1 40 i) → GVK m m1 → yP (xg xs) (d + 3 * N + 9) 190 51 [(0, .ref 42), (1, .int (nI b))] [] m1 (fun r m' => r = none ∧ CO (C ++ (bgC s.1 b ++ seqC (unT F s.1 N pw) (kids F n) (bgC s.1 b).length)) m' ∧ m'.1 35 7 = nI (U + 1) ∧ m'.1 40 U = nI C.length ∧ (∀ i, ¬ i = U → m'.1 40 i = m.1 40 i) ∧ GVK m m') := by
    intro m1 w1 p1 u1 v1 o1 e1
    refine w190_51 xs (d + 3 * N + 8) _ m1 _ ⟨xb, ?_⟩
    have bn := (w1.1.b hb).2.1
    rw [hn] at bn
    rw [eb, bn, nI_1]
    have pl : (C ++ bgC s.1 b).length - C.length = (bgC s.1 b).length := by rw [List.length_append]; omega
    have := lp (kids F n) (n + 1) (C ++ bgC s.1 b) m1 hW.til (fun c hc => hc) (by omega) w1 ((m0C.k _).app ((bgC_0 s.1 b).k _)) p1 u1 v1 o1 e1 (by rw [pl, List.length_append]; omega)
    rw [pl, List.append_assoc] at this
    exact this
  have k91 := c191 xs (d + 3 * N + 7) hU u16
  rw [hc6] at k91
  refine w190_0 xs (d + 3 * N + 8) _ m _ (y_ci k91 (by omega) ⟨xb, xb, ?_⟩)
  generalize hm1 : y_si (y_si m 35 7 (nI (U + 1))) 40 U (nI C.length) = m1
  have f1 : ∀ a i, ¬ a = 35 → ¬ a = 40 → m1.1 a i = m.1 a i := fun a i x y => by rw [← hm1, y_si_at, if_neg (by omega), y_si_at, if_neg (by omega)]
  have f2 : m1.1 35 6 = m.1 35 6 := by rw [← hm1, y_si_at, if_neg (by omega), y_si_at, if_neg (by omega)]
  have f3 : m1.1 35 7 = nI (U + 1) := by rw [← hm1, y_si_at, if_neg (by omega), y_si_same]
  have f4 : m1.1 40 U = nI C.length := by rw [← hm1, y_si_same]
  have f5 : ∀ i, ¬ i = U → m1.1 40 i = m.1 40 i := fun i hi => by rw [← hm1, y_si_at, if_neg (by omega), y_si_at, if_neg (by omega)]
  have f6 : m1.2 = m.2 := by rw [← hm1]; rfl
  rw [eb, f1 24 b (by omega) (by omega), f1 26 b (by omega) (by omega), b1, b3, hpw]
  generalize hm2 : y_si (y_si (y_si m1 42 7 (nI C.length)) 42 8 pw) 42 9 (-1) = m2
  have g1 : ∀ a i, ¬ a = 42 → m2.1 a i = m1.1 a i := fun a i x => by rw [← hm2, y_si_at, if_neg (by omega), y_si_at, if_neg (by omega), y_si_at, if_neg (by omega)]
  have g7 : m2.1 42 7 = nI C.length := by rw [← hm2, y_si_at, if_neg (by omega), y_si_at, if_neg (by omega), y_si_same]
  have g8 : m2.1 42 8 = pw := by rw [← hm2, y_si_at, if_neg (by omega), y_si_same]
  have g9 : m2.1 42 9 = -1 := by rw [← hm2, y_si_same]
  have g6 : m2.2 = m.2 := by rw [← hm2, ← f6]; rfl
  have cr2 : CR F s.1 m2 := h.ek (fun a i z => by rw [g1 a i (by omega), f1 a i (by omega) (by omega)])
  have co2 : CO C m2 := hc.f2 (by rw [g1 35 6 (by omega), f2]) (fun a i x y => by rw [g1 a i (by omega), f1 a i (by omega) (by omega)])
  have pn : prv C (mX 0) C.length = -1 := prv_n (by decide) (m0C.nx 0) _
  have v2 : GVK m m2 := ⟨fun a i z => by rw [g1 a i (by omega), f1 a i (by omega) (by omega)], g6⟩
  have wc2 : WC F s.1 C.length 0 C m2 := ⟨cr2, co2, Nat.le_refl _, g7, by rw [g9, pn]⟩
  refine ⟨fun z => ?_, fun z => ?_⟩
  · have e : bgC s.1 b = [] := by unfold bgC; rw [if_neg z]
    refine s51 m2 ?_ g8 (by rw [g1 35 7 (by omega)]; exact f3) (by rw [g1 40 U (by omega)]; exact f4) (fun i hi => by rw [g1 40 i (by omega)]; exact f5 i hi) v2
    rw [e, List.append_nil]; exact wc2
  · have e : bgC s.1 b = [j1 0 0, j1 2 0] ++ bgV s.1 (endV s.1 b - (s.1.1.getD b dBK).2.2.2.2) (s.1.1.getD b dBK).2.2.2.2 := by unfold bgC; rw [if_pos z]
    have bl : (bgC s.1 b).length = 2 + (bgV s.1 (endV s.1 b - (s.1.1.getD b dBK).2.2.2.2) (s.1.1.getD b dBK).2.2.2.2).length := by rw [e, List.length_append]; rfl
    have k92 := c192 xs (d + 3 * N + 5) cr2 hS.aD co2 hb (hS.fm b hb) (by omega)
    rw [← e] at k92
    refine yC.mono (by omega) (fun r m3 q => ⟨q.1, ?_⟩) k92
    obtain ⟨-, q2, q3⟩ := q
    refine s51 m3 (wc2.ek q3 q2 ((bgC_0 s.1 b).nx 0)) (by rw [q3.1 42 8 (by omega)]; exact g8) (by rw [q3.2.1 7 (by omega), g1 35 7 (by omega)]; exact f3) (by rw [q3.1 40 U (by omega), g1 40 U (by omega)]; exact f4) (fun i hi => by rw [q3.1 40 i (by omega), g1 40 i (by omega)]; exact f5 i hi) (v2.tr ⟨fun a i w => q3.1 a i (by omega), q3.2.2⟩)
