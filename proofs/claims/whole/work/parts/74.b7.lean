/-! THE RULES' INVARIANTS: places -/
/-- a declaration on the path is the fourth there -/
theorem PA.m5 {m0 : yM} {T : Nat} {F : List ND} (h0 : kK F 0 = 0) : ∀ (l : Nat) {N : Nat} {A : List Nat} {n : Nat}, PA m0 T F N A n → A.length = l → ∀ p, p ∈ A → kK F p = 5 → 4 ≤ A.length ∧ A.getD 3 0 = p := by
  intro l
  induction l with
  | zero =>
    intro N A n _ e p hp
    rw [List.length_eq_zero_iff.mp e] at hp
    cases hp
  | succ l ih =>
    intro N A n h e p hp k5
    rcases h.up with ⟨y, -⟩ | ⟨B, q, M, e1, e2, e3, e4, e5⟩
    · rw [y] at e; cases e
    · have lB : B.length = l := by
        rw [e1, List.length_append, List.length_singleton] at e
        omega
      rw [e1] at hp
      rcases List.mem_append.mp hp with y | y
      · obtain ⟨i1, i2⟩ := ih e5 lB p y k5
        rw [e1]
        refine ⟨by rw [List.length_append]; omega, ?_⟩
        rw [gD_ap B q (by omega)]
        exact i2
      · have := List.mem_singleton.mp y
        subst this
        obtain ⟨b, g, eB, -⟩ := e5.dcl h0 k5
        rw [e1, eB]
        exact ⟨Nat.le_refl 4, rfl⟩
theorem kidK7 : ∀ k, k < 37 → 7 ∈ kidK k → k = 5 := by decide
/-- a place stands below a declaration -/
theorem PA.p7 {m0 : yM} {T : Nat} {F : List ND} (h0 : kK F 0 = 0) {N : Nat} {A : List Nat} {n : Nat} (h : PA m0 T F N A n) (k : kK F n = 7) : fPar A ∈ A ∧ kK F (fPar A) = 5 ∧ ∀ p, p ∈ A → kK F p = 5 → p = fPar A := by
  rcases h.up with ⟨y1, y2⟩ | ⟨B, q, M, e1, e2, e3, e4, e5⟩
  · rw [y2, h0] at k; omega
  · rw [k] at e4
    have k5 := kidK7 _ e5.1.k37 e4
    have qm : q ∈ A := by rw [e1]; exact List.mem_append_right _ List.mem_cons_self
    rw [e2]
    refine ⟨qm, k5, fun p hp kp => ?_⟩
    have a := (h.m5 h0 A.length rfl p hp kp).2
    have b := (h.m5 h0 A.length rfl q qm k5).2
    rw [← a, ← b]
theorem lk_7 {F : List ND} {A : List Nat} {σ σ' : RS} {U : Nat → Bool} {n w k : Nat} (h : lk F A σ U n = .inl σ') (k7 : σ.2.2.1 n = 7) (hv : σ.2.2.2.1 n = nI (256 * w + k)) (hw : w < 6) (hk : k < 256) : σ' = setV σ n (nI (plC w k)) ∧ inB σ 3 ∧ n = fPar A + 2 ∧ U (plC w k) = false ∧ nU σ U n = fun c => U c || decide (c = plC w k) := by
  have e0 : (σ.2.2.2.1 n).toNatClampNeg = 256 * w + k := by rw [hv]; exact nI_clamp (by omega)
  have e1 : (σ.2.2.2.1 n).toNatClampNeg / 256 = w := by rw [e0]; omega
  have e2 : (σ.2.2.2.1 n).toNatClampNeg % 256 = k := by rw [e0]; omega
  unfold lk at h
  have k0 : ¬ σ.2.2.1 n = 0 := by rw [k7]; decide
  have k1 : ¬ bkN (σ.2.2.1 n) := by rw [k7]; decide
  have k4 : ¬ σ.2.2.1 n = 4 := by rw [k7]; decide
  have k5 : ¬ σ.2.2.1 n = 5 := by rw [k7]; decide
  have k6 : ¬ σ.2.2.1 n = 6 := by rw [k7]; decide
  rw [if_neg k0, if_neg k1, if_neg k4, if_neg k5, if_neg k6, if_pos k7, e1, e2] at h
  unfold lkPlc at h
  by_cases c : plP σ A U n w k
  · rw [if_pos c] at h; cases h
  rw [if_neg c] at h
  refine ⟨inl_e h, Decidable.byContradiction (fun z => c (Or.inl z)), Decidable.byContradiction (fun z => c (Or.inr (Or.inl z))), ?_, ?_⟩
  · cases hu : U (plC w k) with
    | false => rfl
    | true => exact absurd (Or.inr (Or.inr hu)) c
  · unfold nU
    rw [if_pos k7, e1, e2]
theorem BY.i {σ σ' : RS} (h : BY σ σ') (k : Int32) : inB σ' k ↔ inB σ k := by
  unfold inB
  rw [h.1, h.c.1]
/-- places as they are read -/
def H7 (F : List ND) : Prop := ∀ j, j < F.length → kK F j = 7 → ∃ w k, w < 6 ∧ k < 256 ∧ (3 ≤ w → k < 64) ∧ vF F j = nI (256 * w + k)
def P7 (F : List ND) (A : List Nat) (i : Nat) (s : SU) : Prop := ∀ j, j < F.length → kK F j = 7 → j < i → j ∉ A → (∃ w k, w < 6 ∧ k < 256 ∧ (3 ≤ w → k < 64) ∧ vF F j = nI (256 * w + k) ∧ s.1.2.2.2.1 j = nI (plC w k)) ∧ ∀ p, p ∈ A → kK F p = 5 → p < j → inB s.1 3 ∧ j = p + 2
theorem P7.b {m0 : yM} {T : Nat} {F : List ND} (h0 : kK F 0 = 0) {N : Nat} {A : List Nat} {n : Nat} {s : SU} {σ : RS} (hp : PA m0 T F N A n) (h1 : P1 F A n s) (h : P7 F A n s) (e : jb s n = .inl σ) : P7 F (A ++ [n]) (n + 1) (σ, s.2) := by
  have kn := (h1.1 n hp.lt.1 (Or.inl (Nat.le_refl _))).1
  intro j j1 j2 j3 j4
  obtain ⟨j3, j4⟩ := mem_b j3 j4
  obtain ⟨a, b⟩ := h j j1 j2 j3 j4
  unfold jb at e
  by_cases q : bkN (s.1.2.2.1 n)
  · rw [if_pos q] at e
    have kb : kK F n = 1 ∨ kK F n = 2 ∨ kK F n = 3 := by rw [kn] at q; exact (ch37e _ hp.1.k37).mp q
    have eA := hp.blk h0 kb
    unfold lkBeg at e
    split at e
    · cases e
    split at e
    · cases e
    · have e' := inl_e e
      obtain ⟨-, -, -, -, -, y6, -⟩ := beg_y s.1 n (s.1.2.2.1 n) (s.1.2.2.2.1 n)
      rw [← e'] at y6
      refine ⟨?_, fun p hpm kp => ?_⟩
      · show ∃ w k, w < 6 ∧ k < 256 ∧ (3 ≤ w → k < 64) ∧ vF F j = nI (256 * w + k) ∧ σ.2.2.2.1 j = nI (plC w k)
        rw [y6]; exact a
      · rw [eA] at hpm
        rcases List.mem_append.mp hpm with y | y
        · rw [List.mem_singleton.mp y, h0] at kp; omega
        · rw [List.mem_singleton.mp y] at kp; omega
  · rw [if_neg q] at e
    rw [inl_e e]
    refine ⟨a, fun p hpm kp pj => ?_⟩
    rcases List.mem_append.mp hpm with y | y
    · exact b p y kp pj
    · rw [List.mem_singleton.mp y] at pj; omega
theorem P7.l {m0 : yM} {T : Nat} {F : List ND} (h0 : kK F 0 = 0) (h7 : H7 F) {N : Nat} {A : List Nat} {n : Nat} {s : SU} {σ' : RS} (hp : PA m0 T F N A n) (h1 : P1 F (A ++ [n]) (n + szF F n) s) (h : P7 F (A ++ [n]) (n + szF F n) s) (e : lk F A s.1 s.2 n = .inl σ') : P7 F A (n + szF F n) (σ', nU s.1 s.2 n) := by
  have hn := hp.lt.1
  have k37 := hp.1.k37
  have nA : n ∈ A ++ [n] := List.mem_append_right _ List.mem_cons_self
  obtain ⟨kn, vn, tn⟩ := h1.1 n hn (Or.inr nA)
  obtain ⟨e1, e2, e3, e4, e5⟩ := lk_ef e (fun z => by
    rw [kn] at z
    exact (h1.2.2.2.2 n nA ((ch37e _ k37).mp z)).2.1)
  intro j j1 j2 j3 j4
  show (∃ w k, w < 6 ∧ k < 256 ∧ (3 ≤ w → k < 64) ∧ vF F j = nI (256 * w + k) ∧ σ'.2.2.2.1 j = nI (plC w k)) ∧ ∀ p, p ∈ A → kK F p = 5 → p < j → inB σ' 3 ∧ j = p + 2
  by_cases ne : j = n
  · subst ne
    obtain ⟨w, k, w1, w2, w3, w4⟩ := h7 j j1 j2
    obtain ⟨l1, l2, l3, l4, l5⟩ := lk_7 e (by rw [kn, j2]; rfl) (by rw [vn]; exact w4) w1 w2
    obtain ⟨p1, p2, p3⟩ := hp.p7 h0 j2
    refine ⟨⟨w, k, w1, w2, w3, w4, ?_⟩, fun p hpm kp pj => ⟨(e5.i 3).mpr l2, ?_⟩⟩
    · rw [l1]
      show upI _ j _ j = _
      rw [upI_n]
    · rw [p3 p hpm kp]; exact l3
  · rw [(e1 j ne).2]
    obtain ⟨a, b⟩ := h j j1 j2 j3 (mem_l j4 ne)
    refine ⟨a, fun p hpm kp pj => ?_⟩
    obtain ⟨b1, b2⟩ := b p (List.mem_append_left _ hpm) kp pj
    exact ⟨(e5.i 3).mpr b1, b2⟩
