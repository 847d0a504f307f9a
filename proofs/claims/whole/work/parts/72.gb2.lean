/-! RULES: all nodes, pure; the class's loop over them -/
abbrev SU : Type := RS × (Nat → Bool)
abbrev JR : Type := SU ⊕ (Int32 × Nat)
def jl (f : Nat → SU → JR) : List Nat → SU → JR
  | [] => fun s => .inl s
  | c :: L => fun s => match f c s with
    | .inr e => .inr e
    | .inl s' => jl f L s'
abbrev bkN (k : Int32) : Prop := k = 1 ∨ k = 2 ∨ k = 3
def jb (s : SU) (n : Nat) : RS ⊕ Int32 := if bkN (s.1.2.2.1 n) then lkBeg s.1 n else .inl s.1
/-- the nodes from n down: a block begins, what is below it, then the look at it -/
def jn (F : List ND) : Nat → List Nat → Nat → SU → JR
  | 0 => fun _ _ s => .inl s
  | N + 1 => fun A n s => match jb s n with
    | .inr c => .inr (c, n)
    | .inl σ => match jl (jn F N (A ++ [n])) (kids F n) (σ, s.2) with
      | .inr e => .inr e
      | .inl s' => match lk F A s'.1 s'.2 n with
        | .inr c => .inr (c, n)
        | .inl σ' => .inl (σ', nU s'.1 s'.2 n)
def jpl (f : Nat → SU → JR) (p : Nat → SU → Prop) : List Nat → SU → Prop
  | [] => fun _ => True
  | c :: L => fun s => p c s ∧ ∀ s', f c s = .inl s' → jpl f p L s'
def preB (F : List ND) (s : SU) (n : Nat) : Prop := s.1.1.length < 511 ∧ s.1.2.1.length < 4096 ∧ (s.1.2.2.1 n = 1 → n + 1 < F.length) ∧ nmO s.1 n
/-- each look on the way has what it wants -/
def jp (F : List ND) : Nat → List Nat → Nat → SU → Prop
  | 0 => fun _ _ _ => False
  | N + 1 => fun A n s => n < F.length ∧ 0 < szF F n ∧ tile F (kids F n) (n + 1) (n + szF F n) ∧ (bkN (s.1.2.2.1 n) → preB F s n) ∧ ∀ σ, jb s n = .inl σ → jpl (jn F N (A ++ [n])) (jp F N (A ++ [n])) (kids F n) (σ, s.2) ∧ ∀ s', jl (jn F N (A ++ [n])) (kids F n) (σ, s.2) = .inl s' → pre F A s'.1 n ∧ (kK F n = 0 → s'.1.2.2.1 n = 0)
def CK (m0 m : yM) : Prop := (∀ a i, a < 2 ∨ a = 4 ∨ (7 < a ∧ a < 18) ∨ 33 < a → m.1 a i = m0.1 a i) ∧ m.2 = m0.2
def CJ (F : List ND) (m0 : yM) (A : List Nat) (s : SU) (m : yM) : Prop := CR F s.1 m ∧ PH F A m ∧ UR s.2 m ∧ m.1 31 7 = 0 ∧ CK m0 m
def CE (F : List ND) (m0 : yM) (c : Int32) (n : Nat) (m : yM) : Prop := m.1 31 7 = c ∧ ¬ c = 0 ∧ m.1 31 0 = plF F n ∧ CK m0 m
theorem CK.si {m0 m : yM} (h : CK m0 m) {k i : Nat} {v : Int32} (hk : 30 < k ∧ k < 34) : CK m0 (y_si m k i v) := ⟨fun a b ha => by rw [y_si_at, if_neg (by omega)]; exact h.1 a b ha, h.2⟩
theorem CK.lu {F : List ND} {A : List Nat} {m0 m m' : yM} {U : Nat → Bool} {R : RS ⊕ Int32} {r : Option Value} (h : CK m0 m) (q : LU F A m U R r m') : CK m0 m' := ⟨fun a i ha => by rw [q.1 a i (by omega)]; exact h.1 a i ha, q.2.1.trans h.2⟩
theorem CK.kr {m0 m m' : yM} (h : CK m0 m) (q : KR m m') : CK m0 m' := ⟨fun a i ha => by rw [q.1 a i (by omega)]; exact h.1 a i ha, q.2.trans h.2⟩
/-- cells that the tree and the scope do not use -/
theorem CR.fr {F : List ND} {σ : RS} {m : yM} (h : CR F σ m) {k i : Nat} {v : Int32} (hk : 30 < k) : CR F σ (y_si m k i v) := by
  obtain ⟨h1, h2, h3, h4, h5⟩ := h
  have ot : ∀ a j, a ≤ 30 → (y_si m k i v).1 a j = m.1 a j := fun a j u => by rw [y_si_at, if_neg (by omega)]
  unfold CR
  refine ⟨?_, fun b y hb => ?_, fun v y hv => ?_, fun j hj => ?_, fun i hi => ?_⟩
  · rw [ot _ _ (by omega), ot _ _ (by omega), ot _ _ (by omega)]; exact h1
  · rw [ot _ _ (by omega), ot _ _ (by omega), ot _ _ (by omega), ot _ _ (by omega)]; exact h2 b y hb
  · refine ⟨by rw [ot _ _ (by omega)]; exact (h3 v y hv).1, fun z hz => ?_⟩
    rw [ot _ _ (by omega), ot _ _ (by omega), ot _ _ (by omega), ot _ _ (by omega)]
    exact (h3 v y hv).2 z hz
  · rw [ot _ _ (by omega), ot _ _ (by omega)]; exact h4 j hj
  · rw [ot _ _ (by omega), ot _ _ (by omega), ot _ _ (by omega), ot _ _ (by omega), ot _ _ (by omega)]; exact h5 i hi
theorem UR.fr {U : Nat → Bool} {m : yM} (h : UR U m) {k i : Nat} {v : Int32} (hk : k ≠ 33) : UR U (y_si m k i v) := fun c hc => by rw [y_si_at, if_neg (by omega)]; exact h c hc
/-- a fault ends it -/
theorem c110f (xs : List Int32) (D : Nat) {m : yM} {l1 : Int32} {Q : Option Value → yM → Prop} (h : ¬ m.1 31 7 = 0) (hQ : Q (some (.int (m.1 31 7))) m) : yP (xg xs) (D + 1) 110 64 [(0, .ref 31), (1, .int l1)] [] m Q ∧ yP (xg xs) (D + 1) 110 163 [(0, .ref 31), (1, .int l1)] [] m Q := by
  have e163 : yP (xg xs) (D + 1) 110 163 [(0, .ref 31), (1, .int l1)] [] m Q := w110_163 xs D _ m _ (w110_46 xs D _ m _ ⟨fun _ => hQ, fun _ => ⟨fun _ => hQ, fun u => absurd u h⟩⟩)
  have e140 : yP (xg xs) (D + 1) 110 140 [(0, .ref 31), (1, .int l1)] [] m Q := w110_140 xs D _ m _ ⟨fun _ => e163, fun _ => ⟨fun _ => e163, fun u => absurd u h⟩⟩
  exact ⟨w110_64 xs D _ m _ ⟨fun _ => e140, fun _ => ⟨fun _ => e140, fun u => absurd u h⟩⟩, e163⟩
theorem c184r (xs : List Int32) (d : Nat) (m : yM) (u : Int32) {n : Nat} (hn : n ≤ 16400) : yC (xg xs) (d + 1) 184 [.ref 31, .int u, .int (nI n)] m (fun r m' => r = none ∧ m' = if u = 0 then m else y_si (y_si m 31 7 u) 31 0 (m.1 4 n)) := by
  refine w184_0 xs d _ _ m _ ⟨fun z => ⟨rfl, ?_⟩, fun z => ⟨x_in_nI (by omega) (by decide), rfl, ?_⟩⟩
  · rw [if_pos z]
  · rw [if_neg z, nI_clamp (by omega)]
theorem PH.push {F : List ND} {A : List Nat} {m : yM} (h : PH F A m) (hl : A.length ≤ 254) {n : Nat} (hn : n < F.length) : PH F (A ++ [n]) (y_si (y_si m 32 A.length (nI n)) 31 6 (nI (A.length + 1))) := by
  obtain ⟨h1, h2, h3⟩ := h
  refine ⟨by rw [List.length_append, List.length_singleton]; omega, by rw [y_si_same, List.length_append, List.length_singleton], fun i x e => ?_⟩
  rw [y_si_at, if_neg (by omega), y_si_at]
  rcases Nat.lt_or_ge i A.length with y | y
  · rw [List.getElem?_append_left y] at e
    rw [if_neg (by omega)]
    exact h3 i x e
  · rw [List.getElem?_append_right y] at e
    have ei : i = A.length := by
      have := (List.getElem?_eq_some_iff.mp e).1
      simp at this
      omega
    subst ei
    rw [Nat.sub_self] at e
    simp only [List.getElem?_cons_zero, Option.some.injEq] at e
    subst e
    rw [if_pos ⟨rfl, rfl⟩]
    exact ⟨rfl, hn⟩
theorem PH.pop {F : List ND} {A : List Nat} {n : Nat} {m : yM} (h : PH F (A ++ [n]) m) : PH F A (y_si m 31 6 (nI A.length)) ∧ m.1 31 6 = nI (A.length + 1) ∧ m.1 32 A.length = nI n ∧ n < F.length ∧ A.length ≤ 254 := by
  obtain ⟨h1, h2, h3⟩ := h
  rw [List.length_append, List.length_singleton] at h1 h2
  have t := h3 A.length n (by rw [List.getElem?_append_right (Nat.le_refl _), Nat.sub_self]; rfl)
  refine ⟨⟨by omega, y_si_same _ _ _ _, fun i x e => ?_⟩, h2, t.1, t.2, by omega⟩
  rw [y_si_at, if_neg (by omega)]
  exact h3 i x (by rw [List.getElem?_append_left (List.getElem?_eq_some_iff.mp e).1]; exact e)
def jbQ (F : List ND) (m0 : yM) (A : List Nat) (n : Nat) (s : SU) (R : RS ⊕ Int32) (m' : yM) : Prop := match R with
  | .inr c => CE F m0 c n m'
  | .inl σ => CJ F m0 (A ++ [n]) (σ, s.2) m'
theorem c185r (xs : List Int32) (d : Nat) {F : List ND} {m0 m : yM} {A : List Nat} {s : SU} (h : CJ F m0 A s m) {n : Nat} (hn : n < F.length) (hA : A.length ≤ 254) (hB : bkN (s.1.2.2.1 n) → preB F s n) : yC (xg xs) (d + 4) 185 [.ref 31, .int (nI n)] m (fun r m' => r = none ∧ jbQ F m0 A n s (jb s n) m') := by
  obtain ⟨hc, hp, hu, h7, hk⟩ := h
  have hf := hc.f
  have t0 := hc.t hn
  have e : (nI n).toNatClampNeg = n := nI_clamp (by omega)
  have x1 : x_in (nI n) 16401 = true := x_in_nI (by omega) (by decide)
  -- the end: the node goes on the path
  have fin : ∀ (σ : RS) (m1 : yM), CJ F m0 A (σ, s.2) m1 → jb s n = .inl σ → yP (xg xs) (d + 4) 185 36 [(0, .ref 31), (1, .int (nI n))] [] m1 (fun r m' => r = none ∧ jbQ F m0 A n s (jb s n) m') := by
    intro σ m1 q ej
    obtain ⟨qc, qp, qu, q7, qk⟩ := q
    have p6 := qp.2.1
    refine w185_36 xs (d + 3) _ m1 _ ⟨fun z => ?_, fun _ => ⟨?_, rfl, ?_⟩⟩
    · rw [p6] at z
      exact absurd ((nI_leI (a := 256) (by omega) (by omega)).mp z) (by omega)
    · rw [p6]
      exact x_in_nI (by omega) (by decide)
    · rw [p6, nI_clamp (by omega), nI_1, ej]
      refine ⟨(qc.fr (by omega)).fr (by omega), qp.push hA hn, (qu.fr (by omega)).fr (by omega), ?_, (qk.si (by omega)).si (by omega)⟩
      rw [y_si_at, if_neg (by omega), y_si_at, if_neg (by omega)]
      exact q7
  have fine : ∀ (c : Int32) (m1 : yM), CE F m0 c n m1 → jb s n = .inr c → yP (xg xs) (d + 4) 185 36 [(0, .ref 31), (1, .int (nI n))] [] m1 (fun r m' => r = none ∧ jbQ F m0 A n s (jb s n) m') ∨ ¬ m1.1 31 6 = nI A.length := by
    intro c m1 q ej
    by_cases y : m1.1 31 6 = nI A.length
    · left
      refine w185_36 xs (d + 3) _ m1 _ ⟨fun z => ?_, fun _ => ⟨?_, rfl, ?_⟩⟩
      · rw [y] at z
        exact absurd ((nI_leI (a := 256) (by omega) (by omega)).mp z) (by omega)
      · rw [y]
        exact x_in_nI (by omega) (by decide)
      · rw [ej]
        obtain ⟨q1, q2, q3, q4⟩ := q
        refine ⟨?_, q2, ?_, (q4.si (by omega)).si (by omega)⟩
        · rw [y_si_at, if_neg (by omega), y_si_at, if_neg (by omega)]; exact q1
        · rw [y_si_at, if_neg (by omega), y_si_at, if_neg (by omega)]; exact q3
    · exact Or.inr y
  have no : ¬ bkN (s.1.2.2.1 n) → yP (xg xs) (d + 4) 185 36 [(0, .ref 31), (1, .int (nI n))] [] m (fun r m' => r = none ∧ jbQ F m0 A n s (jb s n) m') := fun z => fin s.1 m ⟨hc, hp, hu, h7, hk⟩ (by unfold jb; rw [if_neg z])
  refine w185_0 xs (d + 3) _ m _ ⟨x1, ?_⟩
  rw [e, t0.1]
  refine ⟨fun z => no (fun y => ?_), fun z => ⟨x1, fun z2 => no (fun y => ?_), fun z2 => ?_⟩⟩
  · rcases y with y | y | y <;> rw [y] at z <;> exact absurd z (by decide)
  · rcases y with y | y | y <;> rw [y] at z2 <;> exact absurd z2 (by decide)
  · have b : bkN (s.1.2.2.1 n) := by
      generalize s.1.2.2.1 n = k at z z2
      have z1 : ¬ k.toInt < 1 := fun y => z (Int32.lt_iff_toInt_lt.mpr y)
      have z2 : ¬ 3 < k.toInt := fun y => z2 (Int32.lt_iff_toInt_lt.mpr y)
      have c : k.toInt = 1 ∨ k.toInt = 2 ∨ k.toInt = 3 := by omega
      rcases c with c | c | c
      · exact Or.inl (Int32.toInt_inj.mp c)
      · exact Or.inr (Or.inl (Int32.toInt_inj.mp c))
      · exact Or.inr (Or.inr (Int32.toInt_inj.mp c))
    obtain ⟨b1, b2, b3, j, b4, b5⟩ := hB b
    have ej : jb s n = lkBeg s.1 n := by unfold jb; rw [if_pos b]
    refine yC.mono (Nat.le_refl _) (fun r m1 q => ?_) (c186 xs d hc hp b1 b2 hn b3 b4 b5)
    obtain ⟨kr, q⟩ := q
    rcases hl : lkBeg s.1 n with σ | c
    · rw [hl] at q
      obtain ⟨rfl, q1, q2⟩ := q
      refine ⟨0, rfl, ?_⟩
      refine y_cv (c184r xs (d + 2) m1 0 (n := n) (by omega)) (by omega) ?_
      rw [if_pos rfl]
      exact fin σ m1 ⟨q1, q2, fun c hc => by rw [kr.1 33 c (by omega)]; exact hu c hc, by rw [kr.1 31 7 (by omega)]; exact h7, hk.kr kr⟩ (by rw [ej, hl])
    · rw [hl] at q
      obtain ⟨rfl, q1⟩ := q
      refine ⟨c, rfl, ?_⟩
      refine y_cv (c184r xs (d + 2) m1 c (n := n) (by omega)) (by omega) ?_
      rw [if_neg q1]
      have ce : CE F m0 c n (y_si (y_si m1 31 7 c) 31 0 (m1.1 4 n)) := ⟨by rw [y_si_at, if_neg (by omega), y_si_same], q1, by rw [y_si_same, kr.1 4 n (by omega), t0.2.1], ((hk.kr kr).si (by omega)).si (by omega)⟩
      refine (fine c _ ce (by rw [ej, hl])).resolve_right (fun y => y ?_)
      rw [y_si_at, if_neg (by omega), y_si_at, if_neg (by omega), kr.1 31 6 (by omega)]
      exact hp.2.1
/-- nodes from n down, at the loop's inner head -/
theorem c110n (xs : List Int32) (d : Nat) {F : List ND} {m0 : yM} {Q : Option Value → yM → Prop} : ∀ (N : Nat) (A : List Nat) (n : Nat) (s : SU) (m : yM), jp F N A n s → A.length + N ≤ 255 → CJ F m0 A s m → (A = [] ∨ n < fPar A + szF F (fPar A)) → (∀ s' m', jn F N A n s = .inl s' → CJ F m0 A s' m' → (kK F n = 0 → BA s'.1 m') → yP (xg xs) (d + 7) 110 64 [(0, .ref 31), (1, .int (nI (n + szF F n)))] [] m' Q) → (∀ c k m', jn F N A n s = .inr (c, k) → CE F m0 c k m' → Q (some (.int c)) m') → yP (xg xs) (d + 7) 110 64 [(0, .ref 31), (1, .int (nI n))] [] m Q := by
  intro N
  induction N with
  | zero => intro A n s m h; exact absurd h (fun z => z)
  | succ N ih =>
    intro A n s m hj hl hC htop K1 K2
    obtain ⟨hn, hz, htile, hB, hrest⟩ := hj
    have hC0 := hC
    obtain ⟨hc, hp, hu, h7, hk⟩ := hC
    have hf := hc.f
    have ejn : jn F (N + 1) A n s = match jb s n with
      | .inr c => .inr (c, n)
      | .inl σ => match jl (jn F N (A ++ [n])) (kids F n) (σ, s.2) with
        | .inr e => .inr e
        | .inl s' => match lk F A s'.1 s'.2 n with
          | .inr c => .inr (c, n)
          | .inl σ' => .inl (σ', nU s'.1 s'.2 n) := rfl
    -- the node is entered
    have s140 : yP (xg xs) (d + 7) 110 140 [(0, .ref 31), (1, .int (nI n))] [] m Q := by
      refine w110_140 xs (d + 6) _ m _ ⟨fun z => ?_, fun _ => ⟨fun z => absurd h7 z, fun _ => ?_⟩⟩
      · rw [hc.1.2.2.2.2.2] at z
        exact absurd ((nI_leI (by omega) (by omega)).mp z) (by omega)
      · refine y_nx (c185r xs d hC0 hn (by omega) hB) (by omega) (fun m1 q => ?_)
        rcases hb : jb s n with σ | c
        · rw [hb] at q ejn
          have q : CJ F m0 (A ++ [n]) (σ, s.2) m1 := q
          dsimp only at ejn
          obtain ⟨r1, r2⟩ := hrest σ hb
          -- what is below it
          have lp : ∀ (L : List Nat) (i : Nat) (s1 : SU) (m1 : yM), tile F L i (n + szF F n) → n < i → jpl (jn F N (A ++ [n])) (jp F N (A ++ [n])) L s1 → jl (jn F N (A ++ [n])) L s1 = jl (jn F N (A ++ [n])) (kids F n) (σ, s.2) → CJ F m0 (A ++ [n]) s1 m1 → yP (xg xs) (d + 7) 110 64 [(0, .ref 31), (1, .int (nI i))] [] m1 Q := by
            intro L
            induction L with
            | nil =>
              intro i s1 m1 ht hi _ ejl q
              have ht : i = n + szF F n := ht
              subst ht
              have q0 := q
              obtain ⟨qc, qp, qu, q7, qk⟩ := q
              obtain ⟨pp, p6, p32, pn, pl⟩ := qp.pop
              have ejl : (.inl s1 : JR) = jl (jn F N (A ++ [n])) (kids F n) (σ, s.2) := ejl
              have pr := r2 s1 ejl.symm
              rw [← ejl] at ejn
              dsimp only at ejn
              have ti := qc.t hn
              have em : nI (A.length + 1) - 1 = nI A.length := by rw [nI_pred]
              refine w110_64 xs (d + 6) _ m1 _ ⟨fun z => ?_, fun _ => ⟨fun z => absurd q7 z, fun _ => ?_⟩⟩
              · rw [p6] at z
                exact absurd ((nI_leI (b := 0) (by omega) (by omega)).mp z) (by omega)
              · rw [p6, em, nI_clamp (by omega), p32, nI_clamp (by omega), ti.2.2.2.2.1]
                refine ⟨x_in_nI (by omega) (by decide), x_in_nI (by omega) (by decide), fun z => ?_, fun _ => ⟨x_in_nI (by omega) (by decide), ?_⟩⟩
                · exact absurd ((nI_ltI (by omega) (by omega)).mp z) (by omega)
                · have cr' : CR F s1.1 (y_si m1 31 6 (nI A.length)) := qc.fr (by omega)
                  have u' : UR s1.2 (y_si m1 31 6 (nI A.length)) := qu.fr (by omega)
                  refine yC.mono (Nat.le_refl _) (fun r m2 w => ?_) (c112 xs d cr' pp u' pr.1)
                  obtain ⟨w1, w2⟩ := w
                  obtain ⟨u, eu⟩ := w1.out
                  subst eu
                  have k31 : ∀ i, m2.1 31 i = (y_si m1 31 6 (nI A.length)).1 31 i := fun i => w1.1 31 i (by omega)
                  have k32 : ∀ i, m2.1 32 i = m1.1 32 i := fun i => by rw [w1.1 32 i (by omega), y_si_at, if_neg (by omega)]
                  have e6 : m2.1 31 6 = nI A.length := by rw [k31, y_si_same]
                  have e7 : m2.1 31 7 = 0 := by rw [k31, y_si_at, if_neg (by omega)]; exact q7
                  have ck2 : CK m0 m2 := (qk.si (by omega)).lu w1
                  have e4 : m2.1 4 n = plF F n := by rw [w1.1 4 n (by omega), y_si_at, if_neg (by omega), ti.2.1]
                  refine ⟨u, rfl, ?_, ?_⟩
                  · rw [e6]; exact x_in_nI (by omega) (by decide)
                  · rw [e6, nI_clamp (by omega), k32, p32]
                    refine y_cv (c184r xs (d + 5) m2 u (n := n) (by omega)) (by omega) ?_
                    obtain ⟨w11, w12, w13⟩ := w1
                    rcases hlk : lk F A s1.1 s1.2 n with σ' | c
                    · rw [hlk] at w13 ejn
                      dsimp only at ejn
                      obtain ⟨g1, g2, g3, g4⟩ := w13
                      have u0 : u = 0 := by simpa using g1
                      rw [if_pos u0]
                      refine K1 _ m2 ejn ⟨g2, g3, g4, e7, ck2⟩ (fun hkz => ?_)
                      exact w2 (pr.2 hkz) σ' hlk
                    · rw [hlk] at w13 ejn
                      dsimp only at ejn
                      obtain ⟨g1, g2⟩ := w13
                      have uc : u = c := by simpa using g1
                      subst uc
                      rw [if_neg g2]
                      have ce : CE F m0 u n (y_si (y_si m2 31 7 u) 31 0 (m2.1 4 n)) := ⟨by rw [y_si_at, if_neg (by omega), y_si_same], g2, by rw [y_si_same, e4], (ck2.si (by omega)).si (by omega)⟩
                      refine (c110f xs (d + 6) (by rw [ce.1]; exact g2) ?_).1
                      rw [ce.1]
                      exact K2 u n _ ejn ce
            | cons c L ihL =>
              intro i s1 m1 ht hi hjl ejl q
              obtain ⟨rfl, ht⟩ := ht
              obtain ⟨j1, j2⟩ := hjl
              have cz : 0 < szF F c := by
                cases N with
                | zero => exact absurd j1 (fun z => z)
                | succ N => exact j1.2.1
              have le := tile.le ht
              have ejl : (match jn F N (A ++ [n]) c s1 with | .inr e => .inr e | .inl s' => jl (jn F N (A ++ [n])) L s') = jl (jn F N (A ++ [n])) (kids F n) (σ, s.2) := ejl
              have top : fPar (A ++ [n]) = n := by unfold fPar; simp
              refine ih (A ++ [n]) c s1 m1 j1 (by rw [List.length_append, List.length_singleton]; omega) q (Or.inr (by rw [top]; omega)) (fun s' m' e q' _ => ?_) (fun c' k m' e q' => ?_)
              · refine ihL (c + szF F c) s' m' ht (by omega) (j2 s' e) ?_ q'
                rw [← ejl, e]
              · rw [e] at ejl
                dsimp only at ejl
                rw [← ejl] at ejn
                exact K2 c' k m' ejn q'
          have q7 := q.2.2.2.1
          have qc := q.1
          refine w110_163 xs (d + 6) _ m1 _ (w110_46 xs (d + 6) _ m1 _ ⟨fun z => ?_, fun _ => ⟨fun z => absurd q7 z, fun _ => ?_⟩⟩)
          · rw [qc.1.2.2.2.2.2, nI_1] at z
            exact absurd ((nI_ltI (by omega) (by omega)).mp z) (by omega)
          · rw [nI_1]
            exact lp (kids F n) (n + 1) (σ, s.2) m1 htile (by omega) r1 rfl q
        · rw [hb] at q ejn
          have q : CE F m0 c n m1 := q
          refine (c110f xs (d + 6) (by rw [q.1]; exact q.2.1) ?_).2
          rw [q.1]
          exact K2 c n m1 ejn q
    obtain ⟨p1, p2, p3⟩ := hp
    by_cases hA : A = []
    · refine w110_64 xs (d + 6) _ m _ ⟨fun _ => s140, fun z => absurd ?_ z⟩
      rw [p2, hA]
      decide
    · have hl0 : 0 < A.length := List.length_pos_iff.mpr hA
      have lt := htop.resolve_left hA
      have tp := p3 (A.length - 1) (fPar A) (getD_some (by omega))
      have em : nI A.length - 1 = nI (A.length - 1) := by
        obtain ⟨k, e⟩ : ∃ k, A.length = k + 1 := ⟨A.length - 1, by omega⟩
        rw [e, nI_pred]
        rfl
      have ti := hc.t tp.2
      refine w110_64 xs (d + 6) _ m _ ⟨fun _ => s140, fun _ => ⟨fun z => absurd h7 z, fun _ => ?_⟩⟩
      rw [p2, em, nI_clamp (by omega), tp.1, nI_clamp (by omega), ti.2.2.2.2.1]
      refine ⟨x_in_nI (by omega) (by decide), x_in_nI (by omega) (by decide), fun _ => s140, fun z => absurd ?_ z⟩
      exact nI_lt lt (by omega)
