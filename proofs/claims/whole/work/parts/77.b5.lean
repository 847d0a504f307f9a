/-! THE WRITER: ladders of the class -/
theorem c210l (xs : List Int32) (d : Nat) {F : List ND} {σ : RS} {R : List Nat} {cols : Nat} {m : yM} {Q : Option Value → yM → Prop} (h : CR F σ m) (hg : LG F R cols m) (hr : RG F σ R cols) {l : Nat} (l1 : 1 ≤ l) (l2 : l ≤ cols) (a b : Int32) : ∀ (k row : Nat) (C : List IT) (m1 : yM), row + k = R.length → CO C m1 → EK m m1 → C.length + (gpL F σ R (m.1 42 8) cols l k row).length + 16 < 2 ^ 30 → (∀ m2, CO (C ++ gpL F σ R (m.1 42 8) cols l k row) m2 → EK m m2 → yP (xg xs) (d + 5) 210 24 [(0, .ref 42), (1, .int a), (2, .int b), (3, .int (nI (l + 1)))] [] m2 Q) → yP (xg xs) (d + 5) 210 35 [(0, .ref 42), (1, .int a), (2, .int b), (3, .int (nI l)), (4, .int (nI row))] [] m1 Q := by
  have hr' := hr
  obtain ⟨R12, c0, c12, hrow, hcl⟩ := hr
  have hf := h.f
  intro k
  induction k with
  | zero =>
    intro row C m1 hk c1 e1 hl kk
    have g1 := hg.e e1
    refine w210_35 xs (d + 4) _ _ _ _ m1 _ ?_
    rw [g1.1, nI_1]
    refine ⟨fun _ => kk m1 ?_ e1, fun z => absurd (nI_le (by omega) (by omega)) z⟩
    show CO (C ++ []) m1
    rw [List.append_nil]; exact c1
  | succ k ih =>
    intro row C m1 hk c1 e1 hl kk
    have g1 := hg.e e1
    have cr := h.e e1
    have rl : row < R.length := by omega
    obtain ⟨n1, n2, n3, n4⟩ := hcl row rl l l1 l2
    have es : gpL F σ R (m.1 42 8) cols l (k + 1) row = (if lsR F R l row = row ∧ ¬ (l = cols ∧ kK F (clR F R row l) = 28) then gpC F σ R (m.1 42 8) l row else []) ++ gpL F σ R (m.1 42 8) cols l k (row + 1) := rfl
    rw [es] at hl kk
    have ls := lsR_le F R l row
    have ia : nI (lsR F R l row) = nI row ↔ lsR F R l row = row := nI_eq (by omega) (by omega)
    have ic : nI l = nI cols ↔ l = cols := nI_eq (by omega) (by omega)
    have k12 := c212 xs d g1 R12 c12 rl l1 l2
    have k13 := c213 xs d g1 R12 c12 rl l1 l2
    have ik : σ.2.2.1 (clR F R row l) = 28 ↔ kK F (clR F R row l) = 28 := by rw [n2]; exact nI_eq (b := 28) (by omega) (by omega)
    have xn : x_in (nI (clR F R row l)) 16401 = true := x_in_nI (by omega) (by decide)
    have en : (nI (clR F R row l)).toNatClampNeg = clR F R row l := nI_clamp (by omega)
    have skip : ¬ (lsR F R l row = row ∧ ¬ (l = cols ∧ kK F (clR F R row l) = 28)) → yP (xg xs) (d + 5) 210 115 [(0, .ref 42), (1, .int a), (2, .int b), (3, .int (nI l)), (4, .int (nI row))] [] m1 Q := by
      intro z
      rw [if_neg z, List.nil_append] at hl kk
      refine w210_115 xs (d + 4) _ _ _ _ m1 _ ?_
      rw [nI_1]
      exact ih (row + 1) C m1 (by omega) c1 e1 hl kk
    have go : (lsR F R l row = row ∧ ¬ (l = cols ∧ kK F (clR F R row l) = 28)) → yC (xg xs) (d + 4) 214 [.ref 42, .int (nI row), .int (nI l)] m1 (fun v1 m2 => v1 = none ∧ yP (xg xs) (d + 5) 210 115 [(0, .ref 42), (1, .int a), (2, .int b), (3, .int (nI l)), (4, .int (nI row))] [] m2 Q) := by
      intro z
      rw [if_pos z] at hl kk
      rw [List.length_append] at hl
      have e8 : m1.1 42 8 = m.1 42 8 := e1.1 42 8 (by omega)
      have k14 := c214 xs d cr g1 hr' c1 rl l1 l2 (by rw [e8]; omega)
      rw [e8] at k14
      refine yC.mono (Nat.le_refl _) (fun r m2 q => ⟨q.1, w210_115 xs (d + 4) _ _ _ _ m2 _ ?_⟩) k14
      rw [nI_1]
      exact ih (row + 1) _ m2 (by omega) q.2.1 (e1.tr q.2.2) (by rw [List.length_append]; omega) (fun m3 c3 e3 => kk m3 (by rw [← List.append_assoc]; exact c3) e3)
    -- what is known before the group
    have s61 : ∀ s0 : Int32, (s0 = 0 ↔ lsR F R l row = row) → yP (xg xs) (d + 5) 210 61 [(0, .ref 42), (1, .int a), (2, .int b), (3, .int (nI l)), (4, .int (nI row))] [.int s0] m1 Q := by
      intro s0 h0
      have s96 : ∀ t0 : Int32, (t0 = 0 ↔ ¬ (l = cols ∧ kK F (clR F R row l) = 28)) → yP (xg xs) (d + 5) 210 96 [(0, .ref 42), (1, .int a), (2, .int b), (3, .int (nI l)), (4, .int (nI row)), (5, .int s0)] [.int t0] m1 Q := by
        intro t0 ht
        refine w210_96 xs (d + 4) _ _ _ _ _ _ m1 _ ⟨fun z => skip (fun y => z (h0.mpr y.1)), fun z => ⟨fun y => skip (fun w => y (ht.mpr w.2)), fun y => go ⟨h0.mp z, ht.mp y⟩⟩⟩
      refine w210_61 xs (d + 4) _ _ _ _ _ m1 _ ?_
      rw [g1.2.1]
      refine ⟨fun z => w210_95 xs (d + 4) _ _ _ _ _ m1 _ (s96 0 ⟨fun _ y => z (ic.mpr y.1), fun _ => rfl⟩), fun z => y_ci k13 (by omega) ⟨xn, ?_⟩⟩
      rw [en, (cr.t n1).1]
      exact ⟨fun y => w210_95 xs (d + 4) _ _ _ _ _ m1 _ (s96 0 ⟨fun _ w => y (ik.mpr w.2), fun _ => rfl⟩), fun y => s96 1 ⟨fun w => absurd w (by decide), fun w => absurd ⟨ic.mp z, ik.mp y⟩ w⟩⟩
    refine w210_35 xs (d + 4) _ _ _ _ m1 _ ?_
    rw [g1.1]
    refine ⟨fun z => ?_, fun _ => y_ci k12 (by omega) ⟨fun z => s61 0 ⟨fun _ => ia.mp z, fun _ => rfl⟩, fun z => s61 1 ⟨fun w => absurd w (by decide), fun w => absurd (ia.mpr w) z⟩⟩⟩
    have := (nI_leI (by omega) (by omega)).mp z
    omega
theorem c210c (xs : List Int32) (d : Nat) {F : List ND} {σ : RS} {R : List Nat} {cols : Nat} {m : yM} {Q : Option Value → yM → Prop} (h : CR F σ m) (hg : LG F R cols m) (hr : RG F σ R cols) (a : Int32) {b : Nat} (hb : b < F.length) : ∀ (k row : Nat) (C : List IT) (m1 : yM), row + k = R.length → CO C m1 → EK m m1 → C.length + (coL F σ R (m.1 42 8) cols k row).length + 16 < 2 ^ 30 → (∀ m2, CO (C ++ coL F σ R (m.1 42 8) cols k row) m2 → EK m m2 → yP (xg xs) (d + 5) 210 4 [(0, .ref 42), (1, .int a), (2, .int (nI (b + szF F b)))] [] m2 Q) → yP (xg xs) (d + 5) 210 129 [(0, .ref 42), (1, .int a), (2, .int (nI b)), (3, .int (nI row))] [] m1 Q := by
  obtain ⟨R12, c0, c12, hrow, hcl⟩ := hr
  have hf := h.f
  have xb : x_in (nI b) 16401 = true := x_in_nI (by omega) (by decide)
  intro k
  induction k with
  | zero =>
    intro row C m1 hk c1 e1 hl kk
    have g1 := hg.e e1
    refine w210_129 xs (d + 4) _ _ _ m1 _ ?_
    rw [g1.1, nI_clamp (by omega), ((h.e e1).t hb).2.2.2.2.1]
    refine ⟨fun _ => ⟨xb, kk m1 ?_ e1⟩, fun z => absurd (nI_le (by omega) (by omega)) z⟩
    show CO (C ++ []) m1
    rw [List.append_nil]; exact c1
  | succ k ih =>
    intro row C m1 hk c1 e1 hl kk
    have g1 := hg.e e1
    have cr := h.e e1
    have rl : row < R.length := by omega
    obtain ⟨n1, n2, n3, n4⟩ := hcl row rl cols c0 (Nat.le_refl _)
    have es : coL F σ R (m.1 42 8) cols (k + 1) row = (if kK F (clR F R row cols) = 28 then coC F σ R (m.1 42 8) cols row (clR F R row cols) else []) ++ coL F σ R (m.1 42 8) cols k (row + 1) := rfl
    rw [es] at hl kk
    have k13 := c213 xs d g1 R12 c12 rl c0 (Nat.le_refl _)
    have ik : σ.2.2.1 (clR F R row cols) = 28 ↔ kK F (clR F R row cols) = 28 := by rw [n2]; exact nI_eq (b := 28) (by omega) (by omega)
    have xn : x_in (nI (clR F R row cols)) 16401 = true := x_in_nI (by omega) (by decide)
    have en : (nI (clR F R row cols)).toNatClampNeg = clR F R row cols := nI_clamp (by omega)
    refine w210_129 xs (d + 4) _ _ _ m1 _ ?_
    rw [g1.1, g1.2.1]
    refine ⟨fun z => ?_, fun _ => y_ci k13 (by omega) ⟨xn, ?_⟩⟩
    · have := (nI_leI (by omega) (by omega)).mp z
      omega
    · rw [en, (cr.t n1).1]
      refine ⟨fun z => ?_, fun z => ?_⟩
      · rw [if_neg (fun y => z (ik.mpr y)), List.nil_append] at hl kk
        refine w210_173 xs (d + 4) _ _ _ m1 _ ?_
        rw [nI_1]
        exact ih (row + 1) C m1 (by omega) c1 e1 hl kk
      · have yes := ik.mp z
        rw [if_pos yes] at hl kk
        rw [List.length_append] at hl
        obtain ⟨o1, o2⟩ := n4 (Or.inr yes)
        rw [g1.2.1]
        refine y_ci k13 (by omega) ?_
        have e8 : m1.1 42 8 = m.1 42 8 := e1.1 42 8 (by omega)
        have k17 := c217 xs d cr g1 R12 c0 c12 c1 rl o1 o2 (by omega)
        rw [e8] at k17
        refine yC.mono (by omega) (fun r m2 q => ⟨q.1, w210_173 xs (d + 4) _ _ _ m2 _ ?_⟩) k17
        rw [nI_1]
        exact ih (row + 1) _ m2 (by omega) q.2.1 (e1.tr q.2.2) (by rw [List.length_append]; omega) (fun m3 c3 e3 => kk m3 (by rw [← List.append_assoc]; exact c3) e3)
/-- what a unit's code leaves alone -/
def UK (m m' : yM) : Prop := (∀ a i, a < 35 ∨ a = 40 ∨ a = 41 ∨ 44 < a → m'.1 a i = m.1 a i) ∧ (∀ i, i ≠ 6 → m'.1 35 i = m.1 35 i) ∧ (∀ i, i ≠ 5 → i ≠ 6 → m'.1 42 i = m.1 42 i) ∧ m'.2 = m.2
theorem UK.re (m : yM) : UK m m := ⟨fun _ _ _ => rfl, fun _ _ => rfl, fun _ _ _ => rfl, rfl⟩
theorem UK.tr {m m1 m2 : yM} (h : UK m m1) (h2 : UK m1 m2) : UK m m2 := ⟨fun a i x => by rw [h2.1 a i x, h.1 a i x], fun i x => by rw [h2.2.1 i x, h.2.1 i x], fun i x y => by rw [h2.2.2.1 i x y, h.2.2.1 i x y], h2.2.2.2.trans h.2.2.2⟩
theorem EK.uk {m m' : yM} (h : EK m m') : UK m m' := ⟨fun a i x => h.1 a i (by omega), h.2.1, fun i _ _ => h.1 42 i (by omega), h.2.2⟩
theorem LF.uk {m m' : yM} (h : LF m m') : UK m m' := ⟨fun a i x => h.1 a i (by omega) (by omega) (by omega), fun i _ => h.1 35 i (by omega) (by omega) (by omega), h.2.1, h.2.2⟩
theorem CR.uk {F : List ND} {σ : RS} {m m' : yM} (h : CR F σ m) (g : UK m m') : CR F σ m' := h.ek (fun a i z => g.1 a i (by omega))
theorem c210 (xs : List Int32) (d : Nat) {m0 : yM} {T : Nat} {F : List ND} {s : SU} (hS : HS m0 T F s) (h16 : P16 F [] F.length) {N n : Nat} (hW : TW m0 T F N n) (k22 : kK F n = 22) {C : List IT} {m : yM} (h : CR F s.1 m) (hc : CO C m) (hl : C.length + (laC F s.1 (m.1 42 8) (kids F n)).length + 16 < 2 ^ 30) : yC (xg xs) (d + 5) 210 [.ref 42, .int (nI n)] m (fun r m' => r = none ∧ CO (C ++ laC F s.1 (m.1 42 8) (kids F n)) m' ∧ UK m m') := by
  have at' := hW.at
  have hn : n < F.length := by omega
  have hf := h.f
  have ok := hW.ok
  rw [k22] at ok
  have xi : x_in (nI n) 16401 = true := x_in_nI (by omega) (by decide)
  have ei : (nI n).toNatClampNeg = n := nI_clamp (by omega)
  generalize hpw : m.1 42 8 = pw at *
  have lp : ∀ (L : List Nat) (i : Nat) (C1 : List IT) (m1 : yM), tile F L i (n + szF F n) → (∀ c, c ∈ L → c ∈ kids F n) → CO C1 m1 → UK m m1 → C1.length + (laC F s.1 pw L).length + 16 < 2 ^ 30 → yP (xg xs) (d + 5) 210 4 [(0, .ref 42), (1, .int (nI n)), (2, .int (nI i))] [] m1 (fun r m' => r = none ∧ CO (C1 ++ laC F s.1 pw L) m' ∧ UK m m') := by
    intro L
    induction L with
    | nil =>
      intro i C1 m1 ht hm c1 e1 hl1
      have ht : i = n + szF F n := ht
      subst ht
      refine w210_4 xs (d + 4) _ _ m1 _ ⟨xi, ?_⟩
      rw [ei, ((h.uk e1).t hn).2.2.2.2.1]
      refine ⟨fun _ => ⟨rfl, ?_, e1⟩, fun z => absurd (nI_le (Nat.le_refl _) (by omega)) z⟩
      show CO (C1 ++ []) m1
      rw [List.append_nil]; exact c1
    | cons r L ihL =>
      intro i C1 m1 ht hm c1 e1 hl1
      obtain ⟨rfl, ht⟩ := ht
      have rm := hm r List.mem_cons_self
      have z := hW.kin rm
      have kr := hW.mk ok.2 rm
      obtain ⟨M, hM⟩ := hS.1.1 r z.2.2.2.1
      have okr := hM.ok
      rw [kr] at okr
      obtain ⟨-, ne, all⟩ := okr
      have hr := RG_of hS h16 hM kr
      generalize hcols : (cel F (r + 1)).length = cols at hr
      have crm := h.uk e1
      have k11 := c211 xs d crm z.2.2.2.1 (by
        cases hk : kids F r with
        | nil => rw [hk] at ne; exact absurd rfl ne
        | cons x K => rw [List.length_cons]; omega) hr hM.til (fun w hw => by
          have zw := hM.kin hw
          obtain ⟨M', hM'⟩ := hS.1.1 w zw.2.2.2.1
          refine ⟨zw.2.2.2.2, zw.2.2.1, hM'.til, fun x hx => ?_⟩
          have zx := hM'.kin hx
          refine ⟨zx.2.2.2.1, zx.2.1, ?_⟩
          have okw := hM'.ok
          rw [hM.mk all hw] at okw
          obtain ⟨-, c, t, o1, o2, o3⟩ := okw
          have kx : lcK (kK F x) ∨ kK F x = 29 := by
            have : kK F x ∈ c :: t := by rw [← o3]; exact List.mem_map_of_mem hx
            rcases List.mem_cons.mp this with y | y
            · rw [y]; exact Or.inl o1
            · exact o2 _ y
          rcases hS.ks zx.2.2.2.1 with y | ⟨y, w⟩
          · rw [y]
            exact nI_eq (b := 29) (by unfold lcK at kx; omega) (by omega)
          · unfold lcK at kx; omega)
      have er : laC F s.1 pw (r :: L) = rgC F s.1 pw r ++ laC F s.1 pw L := rfl
      have eg : rgC F s.1 pw r = lnC F s.1 (kids F r) pw cols cols 1 ++ coL F s.1 (kids F r) pw cols (kids F r).length 0 := by unfold rgC; rw [hcols]
      rw [er] at hl1 ⊢
      rw [List.length_append] at hl1
      refine w210_4 xs (d + 4) _ _ m1 _ ⟨xi, ?_⟩
      rw [ei, (crm.t hn).2.2.2.2.1]
      refine ⟨fun y => ?_, fun _ => yC.mono (by omega) (fun v m2 q => ⟨q.1, ?_⟩) k11⟩
      · have := (nI_leI (by omega) (by omega)).mp y
        omega
      · obtain ⟨-, hg, hlf⟩ := q
        have e2 := e1.tr hlf.uk
        have c2 : CO C1 m2 := c1.fr (fun a i w1 w2 => hlf.1 a i (by omega) (by omega) (by omega))
        have cr2 := h.uk e2
        have e8 : m2.1 42 8 = pw := by rw [e2.2.2.1 8 (by omega) (by omega)]; exact hpw
        obtain ⟨R12, c0, c12⟩ : (kids F r).length ≤ 12 ∧ 1 ≤ cols ∧ cols ≤ 12 := ⟨hr.1, hr.2.1, hr.2.2.1⟩
        rw [eg, List.length_append] at hl1
        -- lines
        have ll : ∀ (k l : Nat) (C3 : List IT) (m3 : yM), l + k = cols + 1 → 1 ≤ l → CO C3 m3 → EK m2 m3 → C3.length + (lnC F s.1 (kids F r) pw cols k l).length + (coL F s.1 (kids F r) pw cols (kids F r).length 0).length + (laC F s.1 pw L).length + 16 < 2 ^ 30 → yP (xg xs) (d + 5) 210 24 [(0, .ref 42), (1, .int (nI n)), (2, .int (nI r)), (3, .int (nI l))] [] m3 (fun r' m' => r' = none ∧ CO (C3 ++ (lnC F s.1 (kids F r) pw cols k l ++ (coL F s.1 (kids F r) pw cols (kids F r).length 0 ++ laC F s.1 pw L))) m' ∧ UK m m') := by
          intro k
          induction k with
          | zero =>
            intro l C3 m3 hk l1 c3 e3 hl3
            have g3 := hg.e e3
            refine w210_24 xs (d + 4) _ _ _ m3 _ ?_
            rw [g3.2.1]
            refine ⟨fun _ => ?_, fun y => absurd (nI_lt (by omega) (by omega)) y⟩
            have l0 : lnC F s.1 (kids F r) pw cols 0 l = [] := rfl
            rw [l0, List.nil_append]
            rw [l0, List.length_nil] at hl3
            have := c210c xs d cr2 hg hr (nI n) z.2.2.2.1 (kids F r).length 0 C3 m3 (by omega) c3 e3 (by rw [e8]; omega) (Q := fun r' m' => r' = none ∧ CO (C3 ++ (coL F s.1 (kids F r) pw cols (kids F r).length 0 ++ laC F s.1 pw L)) m' ∧ UK m m') (fun m4 c4 e4 => ?_)
            · exact this
            · rw [e8] at c4
              have := ihL (r + szF F r) _ m4 ht (fun x hx => hm x (List.mem_cons_of_mem _ hx)) c4 (e2.tr e4.uk) (by rw [List.length_append]; omega)
              rw [List.append_assoc] at this
              exact this
          | succ k ih =>
            intro l C3 m3 hk l1 c3 e3 hl3
            have g3 := hg.e e3
            have l0 : lnC F s.1 (kids F r) pw cols (k + 1) l = gpL F s.1 (kids F r) pw cols l (kids F r).length 0 ++ lnC F s.1 (kids F r) pw cols k (l + 1) := rfl
            rw [l0] at hl3 ⊢
            rw [List.length_append] at hl3
            refine w210_24 xs (d + 4) _ _ _ m3 _ ?_
            rw [g3.2.1]
            refine ⟨fun y => ?_, fun _ => ?_⟩
            · have := (nI_ltI (by omega) (by omega)).mp y
              omega
            · refine c210l xs d cr2 hg hr l1 (by omega) (nI n) (nI r) (kids F r).length 0 C3 m3 (by omega) c3 e3 (by rw [e8]; omega) (fun m4 c4 e4 => ?_)
              rw [e8] at c4
              have := ih (l + 1) _ m4 (by omega) (by omega) c4 e4 (by rw [List.length_append]; omega)
              rw [List.append_assoc] at this
              rw [List.append_assoc]
              exact this
        have := ll cols 1 C1 m2 (by omega) (Nat.le_refl _) c2 (EK.re m2) (by omega)
        rw [eg, List.append_assoc]
        exact this
  refine w210_0 xs (d + 4) _ m _ ?_
  rw [nI_1]
  exact lp (kids F n) (n + 1) C m hW.til (fun c hc => hc) hc (UK.re m) hl
