/-! THE RULES' INVARIANTS: nodes stay as they were read until they are looked at -/
def EF (F : List ND) (n : Nat) (σ σ' : RS) : Prop := (∀ j, j ≠ n → σ'.2.2.1 j = σ.2.2.1 j ∧ σ'.2.2.2.1 j = σ.2.2.2.1 j) ∧ (σ'.2.2.1 n = σ.2.2.1 n ∨ (σ'.2.2.1 n = 30 ∧ chK (σ.2.2.1 n))) ∧ (σ'.2.2.2.1 n = σ.2.2.2.1 n ∨ chV (σ.2.2.1 n)) ∧ (∀ j, σ'.2.2.2.2 j = σ.2.2.2.2 j ∨ (j = n ∧ chTy (σ.2.2.1 n)) ∨ (bkN (σ.2.2.1 n) ∧ n ≤ j ∧ j < n + szF F n ∧ (σ.2.2.1 j = 16 ∨ σ.2.2.1 j = 19 ∨ σ.2.2.1 j = 25))) ∧ BY σ σ'
theorem EF.s {F : List ND} {n : Nat} {σ σ' : RS} (h : σ'.2.2 = σ.2.2) (b : BY σ σ') : EF F n σ σ' := by
  refine ⟨fun j _ => by rw [h]; exact ⟨rfl, rfl⟩, Or.inl (by rw [h]), Or.inl (by rw [h]), fun j => Or.inl (by rw [h]), b⟩
theorem lk_ef {F : List ND} {A : List Nat} {σ σ' : RS} {U : Nat → Bool} {n : Nat} (h : lk F A σ U n = .inl σ') (hc : bkN (σ.2.2.1 n) → (curB σ).2.1 = n) : EF F n σ σ' := by
  by_cases k1 : bkN (σ.2.2.1 n)
  · unfold lk at h
    have k0 : ¬ σ.2.2.1 n = 0 := by rcases k1 with k | k | k <;> rw [k] <;> decide
    rw [if_neg k0, if_pos k1] at h
    unfold lkBlk at h
    split at h
    · cases h
    · rw [inl_e h]
      have e : (σ.1.getD (σ.1.length - 1) dBK).2.1 = n := hc k1
      rw [e]
      obtain ⟨o1, o2, o3, o4, o5⟩ := ownC_y σ (σ.1.length - 1) n (szF F n)
      refine ⟨fun j _ => ⟨by rw [o3], by rw [o4]⟩, Or.inl (by rw [o3]), Or.inl (by rw [o4]), fun j => ?_, o1⟩
      rcases o5 j with y | ⟨y1, y2, y3⟩
      · exact Or.inl y
      · exact Or.inr (Or.inr ⟨k1, y1, y2, y3⟩)
  by_cases k5 : σ.2.2.1 n = 5
  · unfold lk at h
    have k0 : ¬ σ.2.2.1 n = 0 := by rw [k5]; decide
    have k4 : ¬ σ.2.2.1 n = 4 := by rw [k5]; decide
    rw [if_neg k0, if_neg k1, if_neg k4, if_pos k5] at h
    unfold lkDcl at h
    split at h
    · cases h
    split at h
    · cases h
    split at h
    · cases h
    split at h
    · cases h
    · rw [inl_e h]
      exact EF.s (dsL_len _ _ _ _ _ _ _).2.2 (dsL_y _ _ _ _ _ _ _)
  by_cases k6 : σ.2.2.1 n = 6 ∧ σ.2.2.1 (fPar A) = 5
  · unfold lk at h
    have k0 : ¬ σ.2.2.1 n = 0 := by rw [k6.1]; decide
    have k4 : ¬ σ.2.2.1 n = 4 := by rw [k6.1]; decide
    rw [if_neg k0, if_neg k1, if_neg k4, if_neg k5, if_pos k6.1] at h
    unfold lkName at h
    rw [if_neg (by rw [k6.2]; decide), if_pos k6.2] at h
    split at h
    · cases h
    · rw [inl_e h]
      exact EF.s rfl (BY.e rfl)
  · have lo := lk_lo h k1 k5 k6
    have la := lk_la h k1 k5 k6
    refine ⟨fun j hj => ⟨(lo.2.2 j hj).1, (lo.2.2 j hj).2.1⟩, la.1, la.2.1, fun j => ?_, BY.e lo.1⟩
    by_cases e : j = n
    · subst e
      rcases la.2.2 with y | y
      · exact Or.inl y
      · exact Or.inr (Or.inl ⟨rfl, y⟩)
    · exact Or.inl (lo.2.2 j e).2.2
abbrev chv (k : Nat) : Prop := k ∈ ([6, 7, 9, 10, 13, 14, 19, 32, 33, 34, 35, 36] : List Nat)
abbrev cht (k : Nat) : Prop := k ∈ ([6, 9, 16, 19, 25, 30, 32, 33, 34, 35, 36] : List Nat)
theorem ch37a : ∀ k, k < 37 → (chV (nI k) → chv k) := by decide +kernel
theorem ch37b : ∀ k, k < 37 → (chTy (nI k) → cht k) := by decide +kernel
theorem ch37c : ∀ k, k < 37 → (chK (nI k) → k = 34 ∨ k = 35 ∨ k = 36) := by decide +kernel
theorem ch37d : ∀ k, k < 37 → ((nI k = 16 ∨ nI k = 19 ∨ nI k = 25) → k = 16 ∨ k = 19 ∨ k = 25) := by decide +kernel
theorem ch37e : ∀ k, k < 37 → (bkN (nI k) ↔ (k = 1 ∨ k = 2 ∨ k = 3)) := by decide +kernel
theorem ch37 (k : Nat) (h : k < 37) : (chV (nI k) → chv k) ∧ (chTy (nI k) → cht k) ∧ (chK (nI k) → k = 34 ∨ k = 35 ∨ k = 36) ∧ ((nI k = 16 ∨ nI k = 19 ∨ nI k = 25) → k = 16 ∨ k = 19 ∨ k = 25) ∧ (bkN (nI k) ↔ (k = 1 ∨ k = 2 ∨ k = 3)) := ⟨ch37a k h, ch37b k h, ch37c k h, ch37d k h, ch37e k h⟩
/-- nodes not yet looked at are as they were read; others keep what they keep -/
def P1 (F : List ND) (A : List Nat) (i : Nat) (s : SU) : Prop := (∀ j, j < F.length → (i ≤ j ∨ j ∈ A) → s.1.2.2.1 j = nI (kK F j) ∧ s.1.2.2.2.1 j = vF F j ∧ s.1.2.2.2.2 j = 0) ∧ (∀ j, j < F.length → s.1.2.2.1 j = nI (kK F j) ∨ (s.1.2.2.1 j = 30 ∧ (kK F j = 34 ∨ kK F j = 35 ∨ kK F j = 36))) ∧ (∀ j, j < F.length → ¬ chv (kK F j) → s.1.2.2.2.1 j = vF F j) ∧ (∀ j, j < F.length → ¬ cht (kK F j) → s.1.2.2.2.2 j = 0) ∧ ∀ p, p ∈ A → (kK F p = 1 ∨ kK F p = 2 ∨ kK F p = 3) → 0 < s.1.1.length ∧ (curB s.1).2.1 = p ∧ (curB s.1).1 = nI (kK F p)
/-- every node's kind is below 37 -/
def K37 (F : List ND) : Prop := ∀ j, j < F.length → kK F j < 37
theorem P1.b {m0 : yM} {T : Nat} {F : List ND} (h0 : kK F 0 = 0) {N : Nat} {A : List Nat} {n : Nat} {s : SU} {σ : RS} (hp : PA m0 T F N A n) (h : P1 F A n s) (e : jb s n = .inl σ) : P1 F (A ++ [n]) (n + 1) (σ, s.2) := by
  obtain ⟨h1, h2, h3, h4, h5⟩ := h
  have hn := hp.lt.1
  have k37 := hp.1.k37
  have kn := (h1 n hn (Or.inl (Nat.le_refl _))).1
  obtain ⟨-, -, -, -, cb⟩ := ch37 _ k37
  have mem : ∀ j, j < F.length → (n + 1 ≤ j ∨ j ∈ A ++ [n]) → (n ≤ j ∨ j ∈ A) := by
    intro j _ hj
    rcases hj with y | y
    · exact Or.inl (by omega)
    · rcases List.mem_append.mp y with y | y
      · exact Or.inr y
      · rw [List.mem_singleton.mp y]; exact Or.inl (Nat.le_refl _)
  unfold jb at e
  rw [kn] at e
  by_cases q : bkN (nI (kK F n))
  · rw [if_pos q] at e
    have kb := cb.mp q
    have eA := hp.blk h0 kb
    unfold lkBeg at e
    split at e
    · cases e
    split at e
    · cases e
    · have e' := inl_e e
      obtain ⟨y1, y2, y3, y4, y5, y6, y7⟩ := beg_y s.1 n (s.1.2.2.1 n) (s.1.2.2.2.1 n)
      rw [← e'] at y1 y2 y3 y6
      refine ⟨fun j hj hm => ?_, fun j hj => ?_, fun j hj hm => ?_, fun j hj hm => ?_, fun p hpm hk => ?_⟩
      · show σ.2.2.1 j = _ ∧ σ.2.2.2.1 j = _ ∧ σ.2.2.2.2 j = _
        rw [y6]; exact h1 j hj (mem j hj hm)
      · show σ.2.2.1 j = _ ∨ (σ.2.2.1 j = 30 ∧ _)
        rw [y6]; exact h2 j hj
      · show σ.2.2.2.1 j = _
        rw [y6]; exact h3 j hj hm
      · show σ.2.2.2.2 j = _
        rw [y6]; exact h4 j hj hm
      · rcases List.mem_append.mp hpm with y | y
        · rw [eA] at y
          rw [List.mem_singleton.mp y, h0] at hk
          omega
        · have := List.mem_singleton.mp y
          subst this
          refine ⟨?_, y3, y2.trans kn⟩
          show 0 < σ.1.length
          omega
  · rw [if_neg q] at e
    have e' := inl_e e
    subst e'
    refine ⟨fun j hj hm => h1 j hj (mem j hj hm), h2, h3, h4, fun p hpm hk => ?_⟩
    rcases List.mem_append.mp hpm with y | y
    · exact h5 p y hk
    · rw [List.mem_singleton.mp y] at hk
      exact absurd (cb.mpr hk) q
theorem P1.l {m0 : yM} {T : Nat} {F : List ND} (hK : K37 F) {N : Nat} {A : List Nat} {n : Nat} {s : SU} {σ' : RS} (hp : PA m0 T F N A n) (h : P1 F (A ++ [n]) (n + szF F n) s) (e : lk F A s.1 s.2 n = .inl σ') : P1 F A (n + szF F n) (σ', nU s.1 s.2 n) := by
  obtain ⟨h1, h2, h3, h4, h5⟩ := h
  have hn := hp.lt.1
  have hs := hp.1.at.2
  have k37 := hp.1.k37
  have nA : n ∈ A ++ [n] := List.mem_append_right _ List.mem_cons_self
  have kn := (h1 n hn (Or.inr nA)).1
  obtain ⟨c1, c2, c3, c4, c5⟩ := ch37 _ k37
  have ef := lk_ef e (fun z => by
    rw [kn] at z
    exact (h5 n nA (c5.mp z)).2.1)
  obtain ⟨e1, e2, e3, e4, e5⟩ := ef
  rw [kn] at e2 e3 e4
  have own : ∀ j, j < F.length → (s.1.2.2.1 j = 16 ∨ s.1.2.2.1 j = 19 ∨ s.1.2.2.1 j = 25) → cht (kK F j) := by
    intro j hj hk
    rcases h2 j hj with y | ⟨y, -⟩
    · rw [y] at hk
      rcases (ch37 _ (hK j hj)).2.2.2.1 hk with z | z | z <;> rw [z] <;> decide
    · rw [y] at hk
      exact absurd hk (by decide)
  refine ⟨fun j hj hm => ?_, fun j hj => ?_, fun j hj hm => ?_, fun j hj hm => ?_, fun p hpm hk => ?_⟩
  · have ne : j ≠ n := by
      rcases hm with y | y
      · omega
      · have := (hp.2.2 j y).1
        omega
    obtain ⟨g1, g2, g3⟩ := h1 j hj (hm.imp id (fun y => List.mem_append_left _ y))
    refine ⟨(e1 j ne).1.trans g1, (e1 j ne).2.trans g2, ?_⟩
    rcases e4 j with y | ⟨y, -⟩ | ⟨-, y1, y2, -⟩
    · exact y.trans g3
    · exact absurd y ne
    · exfalso
      rcases hm with y | y
      · omega
      · have := (hp.2.2 j y).1
        omega
  · by_cases ne : j = n
    · subst ne
      rcases e2 with y | ⟨y, z⟩
      · exact Or.inl y
      · exact Or.inr ⟨y, c3 z⟩
    · have := h2 j hj
      rw [← (e1 j ne).1] at this
      exact this
  · by_cases ne : j = n
    · subst ne
      rcases e3 with y | y
      · exact y.trans (h3 j hj hm)
      · exact absurd (c1 y) hm
    · exact (e1 j ne).2.trans (h3 j hj hm)
  · rcases e4 j with y | ⟨y, z⟩ | ⟨-, -, -, z⟩
    · exact y.trans (h4 j hj hm)
    · subst y; exact absurd (c2 z) hm
    · exact absurd (own j hj z) hm
  · obtain ⟨g1, g2, g3⟩ := h5 p (List.mem_append_left _ hpm) hk
    have c := e5.c
    exact ⟨by show 0 < σ'.1.length; rw [e5.1]; exact g1, c.2.1.trans g2, c.1.trans g3⟩
