/-! THE REFERENCE'S RULES: rungs -/
theorem c353 (xs : List Int32) (d : Nat) {J : JV} {σ : RS} {m : yM} (hT : JT J m) {r : Nat} (hr : r < J.2.2.1.length) (hk : ∀ i, i ∈ kids J.2.2.1 r → σ.2.2.1 i = nI (kK J.2.2.1 i)) : yC (xg xs) (d + 1) 353 [.ref 58, .int (nI (J.2.2.2 r))] m (fun x m' => x = some (.int (cntL σ (kids J.2.2.1 r) 0)) ∧ m' = m) := by
  have lp : ∀ (K : List Nat) (j : Nat) (a : Int32), (kids J.2.2.1 r).drop j = K → yP (xg xs) (d + 1) 353 9 [(0, .ref 58), (2, .int a), (3, .int (lkI J.2.2.2 (kids J.2.2.1 r)[j]?))] [] m (fun x m' => x = some (.int (cntL σ K a)) ∧ m' = m) := by
    intro K
    induction K with
    | nil =>
      intro j a e
      have : (kids J.2.2.1 r)[j]? = none := by
        rw [List.getElem?_eq_none_iff]
        exact List.drop_eq_nil_iff.mp e
      rw [this]
      exact w353_9 xs d _ _ m _ ⟨fun _ => ⟨rfl, rfl⟩, fun w => absurd rfl w⟩
    | cons i K ih =>
      intro j a e
      have hj : (kids J.2.2.1 r)[j]? = some i := by
        have := congrArg (fun l => l[0]?) e
        simpa using this
      have e' : (kids J.2.2.1 r).drop (j + 1) = K := by
        have := congrArg (List.drop 1) e
        rw [List.drop_drop] at this
        simpa using this
      obtain ⟨i1, i2, i3⟩ := hT.kc hr hj
      have e4 : lkI J.2.2.2 (kids J.2.2.1 r)[j]? = nI (J.2.2.2 i) := by rw [hj]; rfl
      have k62 : m.1 62 (J.2.2.2 i) = σ.2.2.1 i := by rw [(hT.2.1 i i1).2.1, hk i (List.mem_of_getElem? hj)]
      have es : cntL σ (i :: K) a = cntL σ K (a + (if σ.2.2.1 i = 29 then 0 else 1)) := rfl
      rw [e4, es]
      have xi := hT.x i1
      refine w353_9 xs d _ _ m _ ⟨fun z => absurd z (nI_m1 (by have := hT.i i1; omega)), fun _ => ⟨xi, ?_⟩⟩
      rw [hT.c i1, k62]
      refine ⟨fun z => ?_, fun z => ?_⟩
      · rw [if_neg z]
        refine w353_31 xs d _ _ _ m _ ⟨xi, ?_⟩
        rw [hT.c i1, i3]
        exact ih (j + 1) _ e'
      · rw [if_pos z]
        refine w353_31 xs d _ _ _ m _ ⟨xi, ?_⟩
        rw [hT.c i1, i3]
        exact ih (j + 1) _ e'
  refine w353_0 xs d _ m _ ⟨hT.x hr, ?_⟩
  rw [hT.c hr, (hT.2.1 r hr).2.2.2.2.2.1]
  exact lp _ 0 0 rfl
abbrev rwB (F : List ND) (σ : RS) (c : Int32) (r : Nat) : Bool := decide (12 < cntL σ (kids F r) 0 ∨ ¬ cntL σ (kids F r) 0 = c)
theorem rgB_e (F : List ND) (σ : RS) (c : Int32) : ∀ (K : List Nat) (j : Nat), 0 < j → j + K.length ≤ 20000 → rgB F σ K (nI j) c = (decide (12 < j + K.length ∧ ¬ K = []) || K.any (rwB F σ c))
  | [], j, h0, h1 => by
    show false = _
    rw [List.any_nil, Bool.or_false, decide_eq_false (fun z => z.2 rfl)]
  | r :: K, j, h0, h1 => by
    rw [List.length_cons] at h1
    have nz : ¬ nI j = 0 := fun z => by
      have := (nI_eq (a := j) (b := 0) (by omega) (by omega)).mp z
      omega
    have es : rgB F σ (r :: K) (nI j) c = if 12 < nI j + 1 ∨ 12 < cntL σ (kids F r) 0 ∨ ¬ cntL σ (kids F r) 0 = (if nI j = 0 then cntL σ (kids F r) 0 else c) then true else rgB F σ K (nI j + 1) (if nI j = 0 then cntL σ (kids F r) 0 else c) := rfl
    rw [es, if_neg nz, nI_1]
    have l12 : 12 < nI (j + 1) ↔ 12 < j + 1 := nI_ltI (a := 12) (b := j + 1) (by omega) (by omega)
    by_cases q : 12 < nI (j + 1) ∨ 12 < cntL σ (kids F r) 0 ∨ ¬ cntL σ (kids F r) 0 = c
    · rw [if_pos q]
      rcases q with q | q
      · have q := l12.mp q
        rw [decide_eq_true ⟨by rw [List.length_cons]; omega, by simp⟩, Bool.true_or]
      · rw [List.any_cons, show rwB F σ c r = true from decide_eq_true q, Bool.true_or, Bool.or_true]
    · rw [if_neg q, rgB_e F σ c K (j + 1) (by omega) (by omega), List.any_cons, show rwB F σ c r = false from decide_eq_false (fun z => q (Or.inr z)), Bool.false_or]
      congr 1
      rw [List.length_cons]
      apply decide_eq_decide.mpr
      constructor
      · exact fun z => ⟨by omega, by simp⟩
      · intro z
        refine ⟨by omega, fun y => ?_⟩
        subst y
        have := z.1
        simp at this
        exact q (Or.inl (l12.mpr this))
theorem rgB_z (F : List ND) (σ : RS) (r : Nat) (K : List Nat) (h : K.length ≤ 19000) : rgB F σ (r :: K) 0 0 = (decide (12 < (r :: K).length) || (r :: K).any (rwB F σ (cntL σ (kids F r) 0))) := by
  have es : rgB F σ (r :: K) 0 0 = if 12 < (0 : Int32) + 1 ∨ 12 < cntL σ (kids F r) 0 ∨ ¬ cntL σ (kids F r) 0 = (if (0 : Int32) = 0 then cntL σ (kids F r) 0 else 0) then true else rgB F σ K (0 + 1) (if (0 : Int32) = 0 then cntL σ (kids F r) 0 else 0) := rfl
  rw [es, if_pos rfl, List.any_cons]
  by_cases q : 12 < (0 : Int32) + 1 ∨ 12 < cntL σ (kids F r) 0 ∨ ¬ cntL σ (kids F r) 0 = cntL σ (kids F r) 0
  · rw [if_pos q]
    rcases q with q | q
    · exact absurd q (by decide)
    · rw [show rwB F σ (cntL σ (kids F r) 0) r = true from decide_eq_true q, Bool.true_or, Bool.or_true]
  · rw [if_neg q, show rwB F σ (cntL σ (kids F r) 0) r = false from decide_eq_false (fun z => q (Or.inr z)), Bool.false_or, show (0 : Int32) + 1 = nI 1 from rfl, rgB_e F σ _ K 1 (by omega) (by omega), List.length_cons]
    congr 1
    apply decide_eq_decide.mpr
    constructor
    · intro z; omega
    · intro z
      refine ⟨by omega, fun y => ?_⟩
      subst y
      simp at z
theorem c352L (xs : List Int32) (d : Nat) {J : JV} {σ : RS} {m : yM} (hT : JT J m) {n r0 : Nat} (hn : n < J.2.2.1.length) (h0 : (kids J.2.2.1 n)[0]? = some r0) (hk : ∀ r, r ∈ kids J.2.2.1 n → ∀ i, i ∈ kids J.2.2.1 r → σ.2.2.1 i = nI (kK J.2.2.1 i)) {Q : Option Value → yM → Prop} : ∀ (K : List Nat) (j : Nat) (l3 : Int32), (kids J.2.2.1 n).drop j = K → (l3 = 0 ∨ l3 = 1) → yC (xg xs) (d + 1) 323 [.ref 58, .int (38 : Int32), .int (if l3 = 1 ∨ K.any (rwB J.2.2.1 σ (cntL σ (kids J.2.2.1 r0) 0)) = true then 1 else 0), .int (nI (J.2.2.2 n))] m (fun v1 m1 => v1 = none ∧ Q none m1) → yP (xg xs) (d + 2) 352 31 [(0, .ref 58), (1, .int (nI (J.2.2.2 n))), (3, .int l3), (4, .int (lkI J.2.2.2 (kids J.2.2.1 n)[j]?))] [] m Q
  | [], j, l3, e, h3, K0 => by
    have : (kids J.2.2.1 n)[j]? = none := by
      rw [List.getElem?_eq_none_iff]
      exact List.drop_eq_nil_iff.mp e
    rw [this]
    refine w352_31 xs (d + 1) _ _ _ m _ ⟨fun _ => ?_, fun w => absurd rfl w⟩
    rcases h3 with rfl | rfl
    · rw [if_neg (by simp)] at K0; exact K0
    · rw [if_pos (Or.inl rfl)] at K0; exact K0
  | r :: K, j, l3, e, h3, K0 => by
    have hj : (kids J.2.2.1 n)[j]? = some r := by
      have := congrArg (fun l => l[0]?) e
      simpa using this
    have e' : (kids J.2.2.1 n).drop (j + 1) = K := by
      have := congrArg (List.drop 1) e
      rw [List.drop_drop] at this
      simpa using this
    obtain ⟨i1, i2, i3⟩ := hT.kc hn hj
    have z1 := (hT.kc hn h0).1
    have e4 : lkI J.2.2.2 (kids J.2.2.1 n)[j]? = nI (J.2.2.2 r) := by rw [hj]; rfl
    have xi := hT.x i1
    have ci := hT.c i1
    rw [e4]
    have c1 := c353 xs d hT i1 (hk r (List.mem_of_getElem? hj))
    have c0 := c353 xs d hT z1 (hk r0 (List.mem_of_getElem? h0))
    obtain ⟨a0, ea⟩ : ∃ a, a = cntL σ (kids J.2.2.1 r0) 0 := ⟨_, rfl⟩
    rw [← ea] at c0 K0
    have s76 : ∀ u : Int32, (u = 0 ∨ u = 1) → (u = 1 ↔ (l3 = 1 ∨ rwB J.2.2.1 σ a0 r = true)) → yP (xg xs) (d + 2) 352 76 [(0, .ref 58), (1, .int (nI (J.2.2.2 n))), (4, .int (nI (J.2.2.2 r)))] [.int u] m Q := by
      intro u hu iff
      refine w352_76 xs (d + 1) _ _ _ m _ ⟨xi, ?_⟩
      rw [ci, i3]
      refine c352L xs d hT hn h0 hk K (j + 1) u e' hu ?_
      rw [← ea]
      have : (u = 1 ∨ K.any (rwB J.2.2.1 σ a0) = true) ↔ (l3 = 1 ∨ (r :: K).any (rwB J.2.2.1 σ a0) = true) := by
        rw [List.any_cons, Bool.or_eq_true, iff]
        constructor
        · rintro ((q | q) | q)
          · exact Or.inl q
          · exact Or.inr (Or.inl q)
          · exact Or.inr (Or.inr q)
        · rintro (q | q | q)
          · exact Or.inl (Or.inl q)
          · exact Or.inl (Or.inr q)
          · exact Or.inr q
      by_cases w : l3 = 1 ∨ (r :: K).any (rwB J.2.2.1 σ a0) = true
      · rw [if_pos w] at K0; rw [if_pos (this.mpr w)]; exact K0
      · rw [if_neg w] at K0; rw [if_neg (fun y => w (this.mp y))]; exact K0
    have yes : (l3 = 1 ∨ rwB J.2.2.1 σ a0 r = true) → yP (xg xs) (d + 2) 352 71 [(0, .ref 58), (1, .int (nI (J.2.2.2 n))), (4, .int (nI (J.2.2.2 r)))] [] m Q := fun y => w352_71 xs (d + 1) _ _ m _ (s76 1 (Or.inr rfl) ⟨fun _ => y, fun _ => rfl⟩)
    refine w352_31 xs (d + 1) _ _ _ m _ ⟨fun z => absurd z (nI_m1 (by have := hT.i i1; omega)), fun _ => ⟨fun z => yes (Or.inl (h3.resolve_left z)), fun z => ?_⟩⟩
    have l1 : ¬ l3 = 1 := by rw [z]; decide
    refine y_ci c1 (by omega) ⟨fun w => yes (Or.inr (decide_eq_true (Or.inl w))), fun w => ?_⟩
    refine y_ci c1 (by omega) ⟨hT.x hn, ?_⟩
    rw [hT.c hn, hT.k0 hn h0]
    refine y_ci c0 (by omega) ⟨fun w2 => s76 0 (Or.inl rfl) ⟨fun y => absurd y (by decide), fun y => y.elim (fun y => absurd y l1) (fun y => (decide_eq_true_iff.mp y).elim (fun y => absurd y w) (fun y => absurd w2 y))⟩, fun w2 => yes (Or.inr (decide_eq_true (Or.inr w2)))⟩
theorem c352_23 (xs : List Int32) (d : Nat) {J : JV} {D : Nat → Prop} {σ : RS} {m : yM} (h : RJ J D σ m) {n : Nat} (hn : n < J.2.2.1.length) (hz : szF J.2.2.1 n ≤ 16400) (hne : ¬ kids J.2.2.1 n = []) (hk : ∀ r, r ∈ kids J.2.2.1 n → ∀ i, i ∈ kids J.2.2.1 r → σ.2.2.1 i = nI (kK J.2.2.1 i)) : yC (xg xs) (d + 3) 352 [.ref 58, .int (nI (J.2.2.2 n)), .int 23] m (JQ J D m n (lkRung J.2.2.1 σ n)) := by
  have hT := h.1
  have f0 := h.2.1.f0
  have l16 : (kids J.2.2.1 n).length ≤ 16400 := Nat.le_trans (kds_len _ _ _ _) hz
  obtain ⟨r0, K, ek⟩ : ∃ r K, kids J.2.2.1 n = r :: K := by
    cases hq : kids J.2.2.1 n with
    | nil => exact absurd hq hne
    | cons a L => exact ⟨a, L, rfl⟩
  have h0 : (kids J.2.2.1 n)[0]? = some r0 := by rw [ek]; rfl
  have m69 := (hT.2.1 n hn).2.2.2.2.2.2.2.1
  unfold lkRung
  have ez : rgB J.2.2.1 σ (kids J.2.2.1 n) 0 0 = (decide (12 < (kids J.2.2.1 n).length) || (kids J.2.2.1 n).any (rwB J.2.2.1 σ (cntL σ (kids J.2.2.1 r0) 0))) := by
    rw [ek] at l16 ⊢
    exact rgB_z J.2.2.1 σ r0 K (by rw [List.length_cons] at l16; omega)
  rw [ez]
  have s22 : ∀ u : Int32, (u = 0 ∨ u = 1) → (u = 1 ↔ 12 < (kids J.2.2.1 n).length) → yP (xg xs) (d + 3) 352 22 [(0, .ref 58), (1, .int (nI (J.2.2.2 n)))] [.int u] m (JQ J D m n (if (decide (12 < (kids J.2.2.1 n).length) || (kids J.2.2.1 n).any (rwB J.2.2.1 σ (cntL σ (kids J.2.2.1 r0) 0))) = true then .inr 38 else .inl σ)) := by
    intro u hu iff
    refine w352_22 xs (d + 2) _ _ m _ ⟨hT.x hn, ?_⟩
    rw [hT.c hn, (hT.2.1 n hn).2.2.2.2.2.1]
    refine c352L xs (d + 1) hT hn h0 hk _ 0 u rfl hu ?_
    rw [List.drop_zero]
    have iff2 : (u = 1 ∨ (kids J.2.2.1 n).any (rwB J.2.2.1 σ (cntL σ (kids J.2.2.1 r0) 0)) = true) ↔ (decide (12 < (kids J.2.2.1 n).length) || (kids J.2.2.1 n).any (rwB J.2.2.1 σ (cntL σ (kids J.2.2.1 r0) 0))) = true := by
      rw [Bool.or_eq_true, decide_eq_true_iff, iff]
    by_cases q : u = 1 ∨ (kids J.2.2.1 n).any (rwB J.2.2.1 σ (cntL σ (kids J.2.2.1 r0) 0)) = true
    · rw [if_pos q, if_pos (iff2.mp q)]
      exact rl1 (by omega) hT hn f0 ⟨rfl, (JK.re m).fl J 38 n, FE.mk J m (by decide) n⟩
    · rw [if_neg q, if_neg (fun z => q (iff2.mpr z))]
      exact rl0 ⟨rfl, JK.re m, h⟩
  refine w352_0 xs (d + 2) _ _ m _ ⟨fun z => absurd rfl z, fun _ => ⟨hT.x hn, ?_⟩⟩
  rw [hT.c hn, m69]
  have l12 : nI (kids J.2.2.1 n).length ≤ 12 ↔ (kids J.2.2.1 n).length ≤ 12 := nI_leI (b := 12) (by omega) (by omega)
  refine ⟨fun z => s22 0 (Or.inl rfl) ⟨fun y => absurd y (by decide), fun y => ?_⟩, fun z => s22 1 (Or.inr rfl) ⟨fun _ => ?_, fun _ => rfl⟩⟩
  · have := l12.mp z
    omega
  · have : ¬ (kids J.2.2.1 n).length ≤ 12 := fun y => z (l12.mpr y)
    omega
theorem c352_25 (xs : List Int32) (d : Nat) {J : JV} {D : Nat → Prop} {σ : RS} {m : yM} (h : RJ J D σ m) {n : Nat} (hn : n < J.2.2.1.length) (hK : (kids J.2.2.1 n)[0]? = some (n + 1)) (k1 : exK (kK J.2.2.1 (n + 1))) (d1 : D (n + 1)) : yC (xg xs) (d + 2) 352 [.ref 58, .int (nI (J.2.2.2 n)), .int 25] m (JQ J D m n (if σ.2.2.2.2 (n + 1) = 0 then .inl σ else .inr 41)) := by
  have hT := h.1
  have n1 := (h.n d1).1
  refine w352_0 xs (d + 1) _ _ m _ ⟨fun _ => ⟨fun z => absurd rfl z, fun _ => ⟨hT.x hn, ?_⟩⟩, fun z => absurd z (by decide)⟩
  rw [hT.c hn, hT.k0 hn hK, hT.c n1, h.t d1 k1]
  refine ⟨hT.x n1, fun w => ?_, fun w => ?_⟩
  · rw [if_pos w]
    exact w352_128 xs (d + 1) _ _ _ m _ (rl0 ⟨rfl, JK.re m, h⟩)
  · rw [if_neg w]
    exact w352_128 xs (d + 1) _ _ _ m _ (rl1 (by omega) hT hn h.2.1.f0 ⟨rfl, (JK.re m).fl J 41 n, FE.mk J m (by decide) n⟩)
theorem c352_29 (xs : List Int32) (d : Nat) {J : JV} {D : Nat → Prop} {σ : RS} {m : yM} (h : RJ J D σ m) {A : List Nat} {n : Nat} (hn : n < J.2.2.1.length) (hp : fPar A < J.2.2.1.length) (hj : ∃ j : Nat, (kids J.2.2.1 (fPar A))[j]? = some n) (hl : (fPar A + szF J.2.2.1 (fPar A) = fPar2 A + szF J.2.2.1 (fPar2 A)) ↔ m.1 68 (J.2.2.2 (fPar A)) = -1) : yC (xg xs) (d + 2) 352 [.ref 58, .int (nI (J.2.2.2 n)), .int 29] m (JQ J D m n (lkLink J.2.2.1 σ A)) := by
  have hT := h.1
  have up := (hT.up hp hj).2
  refine w352_0 xs (d + 1) _ _ m _ ⟨fun _ => ⟨fun _ => ⟨fun _ => ⟨fun z => absurd rfl z, fun _ => ⟨hT.x hn, ?_⟩⟩, fun z => absurd z (by decide)⟩, fun z => absurd z (by decide)⟩, fun z => absurd z (by decide)⟩
  rw [hT.c hn, up, hT.c hp]
  unfold lkLink
  refine ⟨hT.x hp, fun w => ?_, fun w => ?_⟩
  · rw [if_neg (fun z => w (hl.mp z))]
    exact w352_237 xs (d + 1) _ _ _ m _ (rl0 ⟨rfl, JK.re m, h⟩)
  · rw [if_pos (hl.mpr w)]
    exact w352_237 xs (d + 1) _ _ _ m _ (rl1 (by omega) hT hn h.2.1.f0 ⟨rfl, (JK.re m).fl J 40 n, FE.mk J m (by decide) n⟩)
theorem c352_o (xs : List Int32) (d : Nat) {J : JV} {D : Nat → Prop} {σ : RS} {m : yM} (h : RJ J D σ m) {n : Nat} {k : Int32} (hk : k = 24 ∨ k = 26 ∨ k = 27) : yC (xg xs) (d + 1) 352 [.ref 58, .int (nI (J.2.2.2 n)), .int k] m (JQ J D m n (.inl σ)) := by
  rcases hk with rfl | rfl | rfl
  all_goals exact w352_0 xs d _ _ m _ ⟨fun _ => ⟨fun _ => ⟨fun _ => ⟨fun _ => ⟨rfl, JK.re m, h⟩, fun z => absurd z (by decide)⟩, fun z => absurd z (by decide)⟩, fun z => absurd z (by decide)⟩, fun z => absurd z (by decide)⟩
theorem c352_28 (xs : List Int32) (d : Nat) {J : JV} (hN : JN J) {D : Nat → Prop} {σ : RS} {m : yM} (h : RJ J D σ m) {A : List Nat} {n : Nat} (hA : AT J σ A n) (hK : (kids J.2.2.1 n)[0]? = some (n + 1)) (k1 : kK J.2.2.1 (n + 1) = 6) (d1 : D (n + 1)) (hl : (n + szF J.2.2.1 n = fPar A + szF J.2.2.1 (fPar A)) ↔ m.1 68 (J.2.2.2 n) = -1) {v : Nat} (hv : σ.2.2.2.1 (n + 1) = nI v) (vo : vOk σ v) (hf : (curB σ).2.2.2.2 ≤ v) : yC (xg xs) (d + 3) 352 [.ref 58, .int (nI (J.2.2.2 n)), .int 28] m (JQ J D m n (lkCoil J.2.2.1 σ A n)) := by
  have hA0 := hA
  obtain ⟨hn, hc, huA, hlA⟩ := hA
  have hT := h.1
  have hR := h.2.1
  have f0 := hR.f0
  have n1 := (h.n d1).1
  have hi := hT.i hn
  have ei := hT.c hn
  have xi := hT.x hn
  have x1 := hT.x n1
  have c1 := hT.c n1
  have e0 := hT.k0 hn hK
  have t1 := h.t d1 (by rw [k1]; decide)
  have v1 : m.1 85 (J.2.2.2 (n + 1)) = nI v := by rw [← hv]; exact (h.n d1).2.2.1 (by omega)
  have vl := (hR.d vo).1
  have vb := hR.nV.2
  unfold lkCoil
  rw [hv, nI_clamp (by omega)]
  -- a fault stands
  have flt : ∀ (c : Int32) (m2 : yM), JK m m2 → (∀ a i, ¬ a = 58 → m2.1 a i = m.1 a i) → FE J c n m2 → yC (xg xs) (d + 2) 341 [.ref 58, .int (nI (J.2.2.2 n)), .int (m2.1 85 ((m2.1 66 (nI (J.2.2.2 n)).toNatClampNeg).toNatClampNeg))] m2 (fun v2 m3 => v2 = none ∧ JQ J D m n (.inr c) none m3) := by
    intro c m2 jk2 g fe
    rw [ei, g 66 _ (by omega), e0, c1, g 85 _ (by omega), v1]
    exact y_cv (c341f xs d hN (hT.k jk2) hR (fun a i z1 z2 => g a i (by omega)) fe.ne hA0 vo) (by omega) ⟨rfl, jk2, fe⟩
  have gf : ∀ (c : Int32) (m2 : yM) a i, ¬ a = 58 → (flM2 J m2 c n).1 a i = m2.1 a i := fun c m2 a i z => by unfold flM2; rw [y_si_at, if_neg (by omega), y_si_at, if_neg (by omega)]
  have s159 : ∀ (u : Int32) (b : Bool), u = (if b = true then 1 else 0) → b = decide (¬ n + szF J.2.2.1 n = fPar A + szF J.2.2.1 (fPar A)) → yP (xg xs) (d + 3) 352 159 [(0, .ref 58), (1, .int (nI (J.2.2.2 n)))] [.int u, .int (39 : Int32), .ref 58] m (JQ J D m n (if ¬ n + szF J.2.2.1 n = fPar A + szF J.2.2.1 (fPar A) then .inr 39 else if ¬ σ.2.2.2.2 (n + 1) = 0 then .inr 41 else if ¬ fAs σ A v = 0 then .inr (fAs σ A v) else .inl σ)) := by
    intro u b hu hb
    refine w352_159 xs (d + 2) _ _ _ m _ (rlb (by omega) (by decide) hT hn f0 false b hu ?_)
    rw [Bool.false_or, ei, flb_at _ _ _ _ _ _ _ (by decide), e0, c1, flb_at _ _ _ _ _ _ _ (by decide), t1]
    refine ⟨xi, x1, ?_⟩
    by_cases q : ¬ n + szF J.2.2.1 n = fPar A + szF J.2.2.1 (fPar A)
    · rw [if_pos q, hb, decide_eq_true q, flb_t]
      have fe := FE.mk J m (show (0 : Int32) < 39 by decide) n
      have jk2 := (JK.re m).fl J 39 n
      have rest : ∀ u : Int32, (u = 0 ∨ u = 1) → yP (xg xs) (d + 3) 352 185 [(0, .ref 58), (1, .int (nI (J.2.2.2 n)))] [.int u, .int (41 : Int32), .ref 58] (flM2 J m 39 n) (JQ J D m n (.inr 39)) := by
        intro u hu
        refine w352_185 xs (d + 2) _ _ _ _ _ (rl2 (by omega) hi hu fe.ne ⟨xi, ?_, flt 39 _ jk2 (gf 39 m) fe⟩)
        rw [ei, gf 39 m 66 _ (by omega), e0]; exact x1
      exact ⟨fun _ => rest 0 (Or.inl rfl), fun _ => rest 1 (Or.inr rfl)⟩
    · rw [if_neg q, hb, decide_eq_false q, flb_f]
      refine ⟨fun w => w352_185 xs (d + 2) _ _ _ _ _ (rl0 ⟨xi, by rw [ei, e0]; exact x1, ?_⟩), fun w => w352_185 xs (d + 2) _ _ _ _ _ (rl1 (by omega) hT hn f0 ⟨xi, ?_, ?_⟩)⟩
      · rw [ei, e0, c1, v1, if_neg (fun z => z w)]
        refine y_cv (c341 xs d hN hT hR hn hc huA hlA vo hf) (by omega) ?_
        by_cases a0 : fAs σ A v = 0
        · rw [if_pos a0, if_neg (fun z => z a0)]
          exact ⟨rfl, JK.re m, h⟩
        · rw [if_neg a0, if_pos a0]
          exact ⟨rfl, (JK.re m).fl J _ n, FE.mk J m (fAs_p a0) n⟩
      · rw [ei, gf 41 m 66 _ (by omega), e0]; exact x1
      · rw [if_pos w]
        exact flt 41 _ ((JK.re m).fl J 41 n) (gf 41 m) (FE.mk J m (by decide) n)
  refine w352_0 xs (d + 2) _ _ m _ ⟨fun _ => ⟨fun _ => ⟨fun z => absurd rfl z, fun _ => ⟨xi, ?_⟩⟩, fun z => absurd z (by decide)⟩, fun z => absurd z (by decide)⟩
  rw [ei]
  exact ⟨fun z => s159 0 false rfl (decide_eq_false (fun y => y (hl.mpr z))).symm, fun z => s159 1 true rfl (decide_eq_true (show ¬ n + szF J.2.2.1 n = fPar A + szF J.2.2.1 (fPar A) from fun y => z (hl.mp y))).symm⟩
