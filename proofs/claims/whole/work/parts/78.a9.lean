/-! THE REFERENCE'S WRITER: CASE -/
theorem c374C (xs : List Int32) (D : Nat) {m0 : yM} {T : Nat} {J : JV} {s : SU} (hS : HS m0 T J.2.2.1 s) {N n u ℓ : Nat} (hW : TW m0 T J.2.2.1 N n) (k : kK J.2.2.1 n = 16) {bd : Nat → Nat → List IT} (hb : ∀ b, (b ∈ kids J.2.2.1 n ∨ ∃ c, c ∈ kids J.2.2.1 n ∧ kK J.2.2.1 c = 17 ∧ b = lsK J.2.2.1 c) → kK J.2.2.1 b = 11 → bodR xs (D + 2) J s u bd b) (hq : ∀ p x, x ∈ wCs J.2.2.1 s.1 n bd (kids J.2.2.1 n).tail p → QE J.2.2.1 ℓ n (p + (wCs J.2.2.1 s.1 n bd (kids J.2.2.1 n).tail p).length) x) {C : List IT} {m : yM} (h : WR J s u C m) : yC (xg xs) (D + 3) 374 [.ref 58, .int (nI (J.2.2.2 n)), .int (lkI J.2.2.2 (kids J.2.2.1 n)[1]?), .int (s.1.2.2.2.2 n)] m (fun r m' => r = none ∧ RO J (C ++ res (mE n) (nI (C.length - u + (wCs J.2.2.1 s.1 n bd (kids J.2.2.1 n).tail (C.length - u)).length)) (wCs J.2.2.1 s.1 n bd (kids J.2.2.1 n).tail (C.length - u))) m' ∧ KF m m') := by
  have at' := hW.at
  have hn : n < J.2.2.1.length := by omega
  have hu := h.2.2.1
  have ok := hW.ok
  rw [k] at ok
  obtain ⟨-, ge, cs, sx, hge, hcs, hsx, eks⟩ := ok
  have hq := hq (C.length - u)
  generalize hWW : wCs J.2.2.1 s.1 n bd (kids J.2.2.1 n).tail (C.length - u) = W at *
  generalize hp : C.length - u = p at *
  have fin : ∀ m1, RO J (C ++ W) m1 → KF m m1 → yP (xg xs) (D + 3) 374 196 [(0, .ref 58), (1, .int (nI (J.2.2.2 n))), (4, .int (nI (min C.length 3000)))] [] m1 (fun r m' => r = none ∧ RO J (C ++ res (mE n) (nI (p + W.length)) W) m' ∧ KF m m') := by
    intro m1 o1 e1
    refine w374_196 xs (D + 2) _ _ m1 _ (c374r xs (D + 1) o1 hu (by rw [e1.2.1 53 (by omega) (by omega)]; exact h.2.2.2) (fun hl => QE.rs hq (by rw [List.length_append] at hl; omega) (h.1.t.i hn)) (fun m2 o2 e2 => ⟨rfl, ?_, e1.tr e2⟩))
    rw [hp] at o2
    exact o2
  have kl : ∀ c, c ∈ kids J.2.2.1 n → c < J.2.2.1.length := fun c hc => (hW.kin hc).2.2.2.1
  have lp : ∀ (L : List Nat) (j : Nat) (W1 : List IT) (m1 : yM), (∀ c, c ∈ L → kK J.2.2.1 c = 17 ∨ kK J.2.2.1 c = 11) → (kids J.2.2.1 n).drop j = L → WR J s u (C ++ W1) m1 → KF m m1 → W1 ++ wCs J.2.2.1 s.1 n bd L (p + W1.length) = W → yP (xg xs) (D + 3) 374 9 [(0, .ref 58), (1, .int (nI (J.2.2.2 n))), (3, .int (s.1.2.2.2.2 n)), (4, .int (nI (min C.length 3000))), (5, .int (lkI J.2.2.2 (kids J.2.2.1 n)[j]?))] [] m1 (fun r m' => r = none ∧ RO J (C ++ res (mE n) (nI (p + W.length)) W) m' ∧ KF m m') := by
    intro L
    induction L with
    | nil =>
      intro j W1 m1 _ ed w1 e1 eW
      have e0 : wCs J.2.2.1 s.1 n bd [] (p + W1.length) = [] := rfl
      rw [e0, List.append_nil] at eW
      have : (kids J.2.2.1 n)[j]? = none := by
        have := congrArg List.length ed
        rw [List.length_drop, List.length_nil] at this
        exact List.getElem?_eq_none_iff.mpr (by omega)
      rw [this]
      exact w374_9 xs (D + 2) _ _ _ _ m1 _ ⟨fun _ => fin m1 (by rw [← eW]; exact w1.2.1) e1, fun z => absurd rfl z⟩
    | cons c L ih =>
      intro j W1 m1 hm ed w1 e1 eW
      obtain ⟨d1, d2, d3⟩ := drop_s ed
      have cm := List.mem_of_getElem? d1
      have cl := kl c cm
      have zc := hW.kin cm
      have hk := hm c List.mem_cons_self
      have ls : lkI J.2.2.2 (some c) = nI (J.2.2.2 c) := rfl
      have nz : ¬ nI (J.2.2.2 c) = -1 := nI_ne1 (w1.1.t.i cl)
      have kcs : s.1.2.2.1 c = nI (kK J.2.2.1 c) := by
        rcases hS.ks cl with y | ⟨y, w⟩
        · exact y
        · omega
      have cc := w1.1.t.c cl
      have c62 := (w1.1.t.2.1 c cl).2.1
      have es : wCs J.2.2.1 s.1 n bd (c :: L) (p + W1.length) = if s.1.2.2.1 c = 11 then bd c (p + W1.length) ++ wCs J.2.2.1 s.1 n bd L (p + W1.length + (bd c (p + W1.length)).length) else rgL J.2.2.1 s.1 (s.1.2.2.2.2 n) (rgK J.2.2.1 c) 0 ++ (wy n bd (lsK J.2.2.1 c) (!L.isEmpty) (p + W1.length + (rgL J.2.2.1 s.1 (s.1.2.2.2.2 n) (rgK J.2.2.1 c) 0).length) ++ wCs J.2.2.1 s.1 n bd L (p + W1.length + (rgL J.2.2.1 s.1 (s.1.2.2.2.2 n) (rgK J.2.2.1 c) 0).length + (wy n bd (lsK J.2.2.1 c) (!L.isEmpty) (p + W1.length + (rgL J.2.2.1 s.1 (s.1.2.2.2.2 n) (rgK J.2.2.1 c) 0).length)).length)) := rfl
      rw [d1, ls]
      refine w374_9 xs (D + 2) _ _ _ _ m1 _ ⟨fun z => absurd z nz, fun _ => ⟨fun z => fin m1 ?_ e1, fun z => ⟨w1.1.t.x cl, ?_⟩⟩⟩
      · have big : 3000 < (C ++ W1).length := by
          rcases Nat.lt_or_ge 3000 (C ++ W1).length with y | y
          · exact y
          · exact absurd (w1.2.1.z.mpr y) z
        have := w1.2.1.big big (wCs J.2.2.1 s.1 n bd (c :: L) (p + W1.length))
        rw [List.append_assoc, eW] at this
        exact this
      · have pl' : (C ++ W1).length - u = p + W1.length := by rw [List.length_append]; omega
        rw [cc, c62]
        rcases hk with k17 | k11
        · rw [k17] at kcs c62 ⊢
          have n11 : ¬ s.1.2.2.1 c = 11 := by rw [kcs]; decide
          rw [es, if_neg n11] at eW
          obtain ⟨M, hM⟩ := hS.1.1 c cl
          obtain ⟨q1, q2, q3, q4, q5, q6⟩ := k17_s hM k17
          have zl := hM.kin q4
          have l67 : m1.1 67 (J.2.2.2 c) = nI (J.2.2.2 (lsK J.2.2.1 c)) := by
            rw [(w1.1.t.2.1 c cl).2.2.2.2.2.2.1, q1]
            have : (rgK J.2.2.1 c ++ [lsK J.2.2.1 c])[(rgK J.2.2.1 c ++ [lsK J.2.2.1 c]).length - 1]? = some (lsK J.2.2.1 c) := by
              rw [List.length_append, List.length_singleton, Nat.add_sub_cancel, List.getElem?_append_right (Nat.le_refl _), Nat.sub_self]
              rfl
            rw [this]
            rfl
          have l68 : m1.1 68 (J.2.2.2 c) = lkI J.2.2.2 (kids J.2.2.1 n)[j + 1]? := ((w1.1.t.2.1 n hn).2.2.2.2.2.2.2.2 j c d1).2.2
          refine ⟨fun _ => ⟨w1.1.t.x cl, fun y => absurd rfl y, fun _ => ⟨w1.1.t.x cl, ?_⟩⟩, fun y => absurd y (by decide)⟩
          rw [l67]
          refine w374_81 xs (D + 2) _ _ _ _ _ m1 _ ⟨w1.1.t.x cl, ?_⟩
          rw [cc, c62]
          refine ⟨fun y => absurd rfl y, fun _ => ⟨w1.1.t.x cl, ?_⟩⟩
          rw [l68]
          refine w374_112 xs (D + 2) _ _ _ _ _ _ m1 _ ⟨w1.1.t.x cl, ?_⟩
          rw [cc, c62]
          refine ⟨fun y => absurd rfl y, fun _ => yC.mono (by omega) (fun r m2 q => ⟨q.1, ?_⟩) (c375 xs D hS hM k17 (s.1.2.2.2.2 n) w1.1 w1.2.1)⟩
          generalize hR : rgL J.2.2.1 s.1 (s.1.2.2.2.2 n) (rgK J.2.2.1 c) 0 = RL at *
          have w2 := w1.kf q.2.2 q.2.1 (by simp only [List.length_append]; omega)
          have e2 := e1.tr q.2.2
          have pl2 : (C ++ W1 ++ RL).length - u = p + W1.length + RL.length := by rw [List.length_append, List.length_append]; omega
          refine c374w xs (D + 1) (hb _ (Or.inr ⟨c, cm, k17, rfl⟩) q3) (mo := !L.isEmpty) ?_ w2 (fun m3 w3 e3 => ?_)
          · rw [lkI_1 w1.1.t kl]
            have := congrArg List.length d2
            rw [List.length_drop] at this
            cases L with
            | nil =>
              rw [List.length_nil] at this
              exact ⟨fun y => (by cases y), fun y => absurd (by omega) y⟩
            | cons a b =>
              rw [List.length_cons] at this
              exact ⟨fun _ y => by omega, fun _ => rfl⟩
          · rw [pl2] at w3
            have ap : C ++ W1 ++ RL ++ wy n bd (lsK J.2.2.1 c) (!L.isEmpty) (p + W1.length + RL.length) = C ++ (W1 ++ (RL ++ wy n bd (lsK J.2.2.1 c) (!L.isEmpty) (p + W1.length + RL.length))) := by simp only [List.append_assoc]
            rw [ap] at w3
            refine ih (j + 1) _ m3 (fun y hy => hm y (List.mem_cons_of_mem _ hy)) d2 w3 (e2.tr e3) ?_
            have pl3 : p + (W1 ++ (RL ++ wy n bd (lsK J.2.2.1 c) (!L.isEmpty) (p + W1.length + RL.length))).length = p + W1.length + RL.length + (wy n bd (lsK J.2.2.1 c) (!L.isEmpty) (p + W1.length + RL.length)).length := by rw [List.length_append, List.length_append]; omega
            rw [pl3, ← eW]
            simp only [List.append_assoc]
        · rw [k11] at kcs ⊢
          have e11 : s.1.2.2.1 c = 11 := kcs
          rw [es, if_pos e11] at eW
          refine ⟨fun y => absurd rfl y, fun _ => ?_⟩
          have hbd := hb c (Or.inl cm) k11 _ m1 w1
          rw [pl'] at hbd
          refine yC.mono (Nat.le_refl _) (fun r m2 q => ⟨q.1, w1.1.t.x cl, ?_⟩) hbd
          have e2 := e1.tr q.2.2
          have w2 := w1.kf q.2.2 q.2.1 (by simp only [List.length_append]; omega)
          rw [List.append_assoc] at w2
          rw [(((h.1.kf e2).t.2.1 n hn).2.2.2.2.2.2.2.2 j c d1).2.2]
          refine ih (j + 1) _ m2 (fun y hy => hm y (List.mem_cons_of_mem _ hy)) d2 w2 e2 ?_
          rw [List.length_append, ← Nat.add_assoc, List.append_assoc]
          exact eW
  refine w374_0 xs (D + 2) _ _ _ m _ ?_
  rw [h.2.1.s]
  have h' : WR J s u (C ++ []) m := by rw [List.append_nil]; exact h
  have kt : ∀ c, c ∈ (kids J.2.2.1 n).tail → kK J.2.2.1 c = 17 ∨ kK J.2.2.1 c = 11 := by
    intro c hc
    have : kK J.2.2.1 c ∈ ((kids J.2.2.1 n).tail).map (kK J.2.2.1) := List.mem_map_of_mem hc
    rw [List.map_tail, eks] at this
    rcases List.mem_append.mp this with w | w
    · exact Or.inl (hcs _ w)
    · right
      rcases hsx with y | y
      · rw [y] at w; cases w
      · rw [y] at w; exact List.mem_singleton.mp w
  exact lp (kids J.2.2.1 n).tail 1 [] m kt (by rw [List.drop_one]) h' (KF.re m) (by rw [List.nil_append, List.length_nil, Nat.add_zero]; exact hWW)
