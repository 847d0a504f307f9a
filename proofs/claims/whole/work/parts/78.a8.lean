/-! THE REFERENCE'S WRITER: IF, CASE -/
theorem RO.cg {J : JV} {C C' : List IT} {m : yM} (h : RO J C m) (hl : C.length = C'.length) (he : C.length ≤ 3000 → C = C') : RO J C' m := by
  rcases Nat.lt_or_ge 3000 C.length with y | y
  · exact ⟨fun z => by omega, fun _ => h.2 y⟩
  · rw [← he y]; exact h
theorem RO.up {J : JV} {P S : List IT} {x y : IT} {m m' : yM} (h : RO J (P ++ x :: S) m) (h45 : m'.1 58 45 = m.1 58 45) (h50 : m'.1 58 50 = m.1 58 50) (g : (P ++ x :: S).length ≤ 3000 → ∀ a k, (88 < a ∧ a < 93) ∨ a = 95 → ¬ k = P.length → m'.1 a k = m.1 a k) (gy : (P ++ x :: S).length ≤ 3000 → (m.1 89 P.length = x.1 ∧ m.1 90 P.length = raV J x ∧ m.1 91 P.length = x.2.2.1 ∧ m.1 92 P.length = x.2.2.2.1 ∧ m.1 95 P.length = rlV J x) → m'.1 89 P.length = y.1 ∧ m'.1 90 P.length = raV J y ∧ m'.1 91 P.length = y.2.2.1 ∧ m'.1 92 P.length = y.2.2.2.1 ∧ m'.1 95 P.length = rlV J y) : RO J (P ++ y :: S) m' := by
  have ll : (P ++ y :: S).length = (P ++ x :: S).length := by simp
  refine ⟨fun hl => ?_, fun hl => ?_⟩
  · rw [ll] at hl
    obtain ⟨h1, h2, h3⟩ := h.1 hl
    refine ⟨by rw [h45, ll]; exact h1, by rw [h50]; exact h2, fun k z hz => ?_⟩
    by_cases c : k = P.length
    · rw [c, List.getElem?_append_right (Nat.le_refl _), Nat.sub_self, List.getElem?_cons_zero] at hz
      have hz := Option.some.inj hz
      have := gy hl (h3 P.length x (by rw [List.getElem?_append_right (Nat.le_refl _), Nat.sub_self, List.getElem?_cons_zero]))
      rw [← hz, c]; exact this
    · have hz' : (P ++ x :: S)[k]? = some z := by
        rw [← hz]
        rcases Nat.lt_or_ge k P.length with w | w
        · rw [List.getElem?_append_left w, List.getElem?_append_left w]
        · rw [List.getElem?_append_right w, List.getElem?_append_right w]
          obtain ⟨j, hj⟩ : ∃ j, k - P.length = j + 1 := ⟨k - P.length - 1, by omega⟩
          rw [hj, List.getElem?_cons_succ, List.getElem?_cons_succ]
      rw [g hl 89 k (by omega) c, g hl 90 k (by omega) c, g hl 91 k (by omega) c, g hl 92 k (by omega) c, g hl 95 k (by omega) c]
      exact h3 k z hz'
  · rw [ll] at hl
    rw [h45, h50]
    exact h.2 hl
theorem lkI_1 {J : JV} {m : yM} (hT : JT J m) {L : List Nat} {j : Nat} (hL : ∀ c, c ∈ L → c < J.2.2.1.length) : lkI J.2.2.2 L[j]? = -1 ↔ L.length ≤ j := by
  cases hq : L[j]? with
  | none => exact ⟨fun _ => List.getElem?_eq_none_iff.mp hq, fun _ => rfl⟩
  | some c =>
    have := (List.getElem?_eq_some_iff.mp hq).1
    refine ⟨fun z => ?_, fun z => by omega⟩
    exact absurd z (nI_ne1 (hT.i (hL c (List.mem_of_getElem? hq))))
theorem drop_s {L : List Nat} {j c : Nat} {R : List Nat} (h : L.drop j = c :: R) : L[j]? = some c ∧ L.drop (j + 1) = R ∧ j < L.length := by
  have h1 : L[j]? = some c := by
    have := congrArg (fun l => l[0]?) h
    simpa using this
  have h2 : L.drop (j + 1) = R := by
    have := congrArg (List.drop 1) h
    rw [List.drop_drop] at this
    simpa using this
  exact ⟨h1, h2, (List.getElem?_eq_some_iff.mp h1).1⟩
theorem c374I (xs : List Int32) (D : Nat) {m0 : yM} {T : Nat} {J : JV} {s : SU} {N n u ℓ : Nat} (hW : TW m0 T J.2.2.1 N n) (k : kK J.2.2.1 n = 15) {e : Nat → List IT} {bd : Nat → Nat → List IT} (he : ∀ c, c ∈ kids J.2.2.1 n → exK (kK J.2.2.1 c) → exR xs (D + 1) J s e c) (hb : ∀ b, b ∈ kids J.2.2.1 n → kK J.2.2.1 b = 11 → bodR xs (D + 1) J s u bd b) (hq : ∀ p x, x ∈ wIf n e bd (kids J.2.2.1 n) p → QE J.2.2.1 ℓ n (p + (wIf n e bd (kids J.2.2.1 n) p).length) x) (l3 : Int32) {C : List IT} {m : yM} (h : WR J s u C m) : yC (xg xs) (D + 2) 374 [.ref 58, .int (nI (J.2.2.2 n)), .int (lkI J.2.2.2 (kids J.2.2.1 n)[0]?), .int l3] m (fun r m' => r = none ∧ RO J (C ++ res (mE n) (nI (C.length - u + (wIf n e bd (kids J.2.2.1 n) (C.length - u)).length)) (wIf n e bd (kids J.2.2.1 n) (C.length - u))) m' ∧ KF m m') := by
  have at' := hW.at
  have hn : n < J.2.2.1.length := by omega
  have hu := h.2.2.1
  have ok := hW.ok
  rw [k] at ok
  obtain ⟨-, es, sx, hes, hne, hsx, eks⟩ := ok
  have hq := hq (C.length - u)
  generalize hWW : wIf n e bd (kids J.2.2.1 n) (C.length - u) = W at *
  generalize hp : C.length - u = p at *
  have fin : ∀ m1, RO J (C ++ W) m1 → KF m m1 → yP (xg xs) (D + 2) 374 196 [(0, .ref 58), (1, .int (nI (J.2.2.2 n))), (4, .int (nI (min C.length 3000)))] [] m1 (fun r m' => r = none ∧ RO J (C ++ res (mE n) (nI (p + W.length)) W) m' ∧ KF m m') := by
    intro m1 o1 e1
    refine w374_196 xs (D + 1) _ _ m1 _ (c374r xs D o1 hu (by rw [e1.2.1 53 (by omega) (by omega)]; exact h.2.2.2) (fun hl => QE.rs hq (by rw [List.length_append] at hl; omega) (h.1.t.i hn)) (fun m2 o2 e2 => ⟨rfl, ?_, e1.tr e2⟩))
    rw [hp] at o2
    exact o2
  have kl : ∀ c, c ∈ kids J.2.2.1 n → c < J.2.2.1.length := fun c hc => (hW.kin hc).2.2.2.1
  have lp : ∀ (es : List Nat) (L : List Nat) (j : Nat) (W1 : List IT) (m1 : yM), (∀ x, x ∈ es → exK x) → L.map (kK J.2.2.1) = es.flatMap (fun e => [e, 11]) ++ sx → (kids J.2.2.1 n).drop j = L → WR J s u (C ++ W1) m1 → KF m m1 → W1 ++ wIf n e bd L (p + W1.length) = W → yP (xg xs) (D + 2) 374 9 [(0, .ref 58), (1, .int (nI (J.2.2.2 n))), (3, .int l3), (4, .int (nI (min C.length 3000))), (5, .int (lkI J.2.2.2 (kids J.2.2.1 n)[j]?))] [] m1 (fun r m' => r = none ∧ RO J (C ++ res (mE n) (nI (p + W.length)) W) m' ∧ KF m m') := by
    intro es
    induction es with
    | nil =>
      intro L j W1 m1 _ hm ed w1 e1 eW
      have hm : L.map (kK J.2.2.1) = sx := hm
      cases L with
      | nil =>
        have e0 : wIf n e bd [] (p + W1.length) = [] := rfl
        rw [e0, List.append_nil] at eW
        have : (kids J.2.2.1 n)[j]? = none := by
          have := congrArg List.length ed
          rw [List.length_drop, List.length_nil] at this
          exact List.getElem?_eq_none_iff.mpr (by omega)
        rw [this]
        refine w374_9 xs (D + 1) _ _ _ _ m1 _ ⟨fun _ => fin m1 (by rw [← eW]; exact w1.2.1) e1, fun z => absurd rfl z⟩
      | cons b L =>
        obtain ⟨d1, d2, d3⟩ := drop_s ed
        have k11 : kK J.2.2.1 b = 11 ∧ L = [] := by
          rcases hsx with rfl | rfl
          · cases hm
          · obtain ⟨a, c⟩ := List.cons.inj hm
            exact ⟨a, by simpa using c⟩
        obtain ⟨k11, rfl⟩ := k11
        have bm := List.mem_of_getElem? d1
        have bl := kl b bm
        have e0 : wIf n e bd [b] (p + W1.length) = bd b (p + W1.length) := rfl
        rw [e0] at eW
        have ls : lkI J.2.2.2 (some b) = nI (J.2.2.2 b) := rfl
        rw [d1, ls]
        have nz : ¬ nI (J.2.2.2 b) = -1 := nI_ne1 (w1.1.t.i bl)
        have pl' : (C ++ W1).length - u = p + W1.length := by rw [List.length_append]; omega
        refine w374_9 xs (D + 1) _ _ _ _ m1 _ ⟨fun z => absurd z nz, fun _ => ⟨fun z => fin m1 ?_ e1, fun z => ⟨w1.1.t.x bl, ?_⟩⟩⟩
        · have big : 3000 < (C ++ W1).length := by
            rcases Nat.lt_or_ge 3000 (C ++ W1).length with y | y
            · exact y
            · exact absurd (w1.2.1.z.mpr y) z
          have := w1.2.1.big big (bd b (p + W1.length))
          rw [List.append_assoc, eW] at this
          exact this
        · rw [w1.1.t.c bl, (w1.1.t.2.1 b bl).2.1, k11]
          refine ⟨fun y => absurd rfl y, fun _ => ?_⟩
          have hbd := hb b bm k11 _ m1 w1
          rw [pl'] at hbd
          refine yC.mono (Nat.le_refl _) (fun r m2 q => ⟨q.1, w1.1.t.x bl, ?_⟩) hbd
          have e2 := e1.tr q.2.2
          have o2 := q.2.1
          rw [List.append_assoc, eW] at o2
          have nx : (kids J.2.2.1 n)[j + 1]? = none := by
            have := congrArg List.length d2
            rw [List.length_drop, List.length_nil] at this
            exact List.getElem?_eq_none_iff.mpr (by omega)
          rw [(((h.1.kf e2).t.2.1 n hn).2.2.2.2.2.2.2.2 j b d1).2.2, nx]
          exact w374_9 xs (D + 1) _ _ _ _ m2 _ ⟨fun _ => fin m2 o2 e2, fun z => absurd rfl z⟩
    | cons x es ih =>
      intro L j W1 m1 hex hm ed w1 e1 eW
      cases L with
      | nil => cases hm
      | cons g L =>
        cases L with
        | nil => cases (List.cons.inj hm).2
        | cons b L =>
          obtain ⟨d1, d2, d3⟩ := drop_s ed
          obtain ⟨f1, f2, f3⟩ := drop_s d2
          have kg : kK J.2.2.1 g = x := (List.cons.inj hm).1
          have k11 : kK J.2.2.1 b = 11 := (List.cons.inj (List.cons.inj hm).2).1
          have hm' : L.map (kK J.2.2.1) = es.flatMap (fun e => [e, 11]) ++ sx := (List.cons.inj (List.cons.inj hm).2).2
          have gm := List.mem_of_getElem? d1
          have bm := List.mem_of_getElem? f1
          have gl := kl g gm
          have bl := kl b bm
          have xg' := hex x List.mem_cons_self
          have e0 : wIf n e bd (g :: b :: L) (p + W1.length) = e g ++ (wy n bd b (!L.isEmpty) (p + W1.length + (e g).length) ++ wIf n e bd L (p + W1.length + (e g).length + (wy n bd b (!L.isEmpty) (p + W1.length + (e g).length)).length)) := rfl
          rw [e0] at eW
          have ls : lkI J.2.2.2 (some g) = nI (J.2.2.2 g) := rfl
          rw [d1, ls]
          have nz : ¬ nI (J.2.2.2 g) = -1 := nI_ne1 (w1.1.t.i gl)
          have k11n : ¬ nI (kK J.2.2.1 g) = 11 := fun y => by
            have := (nI_eq (b := 11) (by unfold exK at xg'; omega) (by omega)).mp y
            unfold exK at xg'; omega
          have k17n : ¬ nI (kK J.2.2.1 g) = 17 := fun y => by
            have := (nI_eq (b := 17) (by unfold exK at xg'; omega) (by omega)).mp y
            unfold exK at xg'; omega
          have l68 : m1.1 68 (J.2.2.2 g) = nI (J.2.2.2 b) := by rw [((w1.1.t.2.1 n hn).2.2.2.2.2.2.2.2 j g d1).2.2, f1]; rfl
          have l68b : m1.1 68 (J.2.2.2 b) = lkI J.2.2.2 (kids J.2.2.1 n)[j + 1 + 1]? := ((w1.1.t.2.1 n hn).2.2.2.2.2.2.2.2 (j + 1) b f1).2.2
          have cg := w1.1.t.c gl
          have kg62 := (w1.1.t.2.1 g gl).2.1
          refine w374_9 xs (D + 1) _ _ _ _ m1 _ ⟨fun z => absurd z nz, fun _ => ⟨fun z => fin m1 ?_ e1, fun z => ⟨w1.1.t.x gl, ?_⟩⟩⟩
          · have big : 3000 < (C ++ W1).length := by
              rcases Nat.lt_or_ge 3000 (C ++ W1).length with y | y
              · exact y
              · exact absurd (w1.2.1.z.mpr y) z
            have := w1.2.1.big big (wIf n e bd (g :: b :: L) (p + W1.length))
            rw [e0, List.append_assoc, eW] at this
            exact this
          · rw [cg, kg62]
            refine ⟨fun _ => ⟨w1.1.t.x gl, ?_⟩, fun y => absurd y k11n⟩
            refine ⟨fun _ => ⟨w1.1.t.x gl, ?_⟩, fun y => absurd y k17n⟩
            rw [l68]
            refine w374_81 xs (D + 1) _ _ _ _ _ m1 _ ⟨w1.1.t.x gl, ?_⟩
            rw [cg, kg62]
            refine ⟨fun _ => ⟨w1.1.t.x bl, ?_⟩, fun y => absurd y k17n⟩
            rw [w1.1.t.c bl, l68b]
            refine w374_112 xs (D + 1) _ _ _ _ _ _ m1 _ ⟨w1.1.t.x gl, ?_⟩
            rw [cg, kg62]
            refine ⟨fun _ => yC.mono (Nat.le_refl _) (fun r m2 q => ⟨q.1, ?_⟩) (he g gm (by rw [kg]; exact xg') _ m1 w1.1 w1.2.1), fun y => absurd y k17n⟩
            have w2 := w1.kf q.2.2 q.2.1 (by simp only [List.length_append]; omega)
            have e2 := e1.tr q.2.2
            have pl' : (C ++ W1 ++ e g).length - u = p + W1.length + (e g).length := by rw [List.length_append, List.length_append]; omega
            refine c374w xs D (hb b bm k11) (mo := !L.isEmpty) ?_ w2 (fun m3 w3 e3 => ?_)
            · rw [lkI_1 w1.1.t kl]
              have := congrArg List.length f2
              rw [List.length_drop] at this
              cases L with
              | nil =>
                rw [List.length_nil] at this
                exact ⟨fun y => (by cases y), fun y => absurd (by omega) y⟩
              | cons a b =>
                rw [List.length_cons] at this
                exact ⟨fun _ y => by omega, fun _ => rfl⟩
            · rw [pl'] at w3
              have ap : C ++ W1 ++ e g ++ wy n bd b (!L.isEmpty) (p + W1.length + (e g).length) = C ++ (W1 ++ (e g ++ wy n bd b (!L.isEmpty) (p + W1.length + (e g).length))) := by simp only [List.append_assoc]
              rw [ap] at w3
              refine ih L (j + 1 + 1) _ m3 (fun y hy => hex y (List.mem_cons_of_mem _ hy)) hm' f2 w3 (e2.tr e3) ?_
              have pl2 : p + (W1 ++ (e g ++ wy n bd b (!L.isEmpty) (p + W1.length + (e g).length))).length = p + W1.length + (e g).length + (wy n bd b (!L.isEmpty) (p + W1.length + (e g).length)).length := by rw [List.length_append, List.length_append]; omega
              rw [pl2, ← eW]
              simp only [List.append_assoc]
  refine w374_0 xs (D + 1) _ _ _ m _ ?_
  rw [h.2.1.s]
  have h' : WR J s u (C ++ []) m := by rw [List.append_nil]; exact h
  exact lp es (kids J.2.2.1 n) 0 [] m hes eks rfl h' (KF.re m) (by rw [List.nil_append, List.length_nil, Nat.add_zero]; exact hWW)
