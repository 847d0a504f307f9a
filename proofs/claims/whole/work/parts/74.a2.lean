/-! THE RULES' INVARIANTS: by the order of the looks -/
/-- node n stands below A -/
def PA (m0 : yM) (T : Nat) (F : List ND) (N : Nat) (A : List Nat) (n : Nat) : Prop := TW m0 T F N n ∧ chn F A n ∧ ∀ p, p ∈ A → p < n ∧ n + szF F n ≤ p + szF F p ∧ ∃ M, TW m0 T F M p
theorem PA.lt {m0 : yM} {T : Nat} {F : List ND} {N : Nat} {A : List Nat} {n : Nat} (h : PA m0 T F N A n) : n < F.length ∧ ∀ p, p ∈ A → p < F.length := by
  have a := h.1.at
  refine ⟨by omega, fun p hp => ?_⟩
  obtain ⟨-, -, M, hM⟩ := h.2.2 p hp
  have := hM.at
  omega
theorem PA.kd {m0 : yM} {T : Nat} {F : List ND} {N : Nat} {A : List Nat} {n : Nat} (h : PA m0 T F (N + 1) A n) {j c : Nat} (hj : (kids F n)[j]? = some c) : PA m0 T F N (A ++ [n]) c := by
  have hn := h.lt.1
  obtain ⟨w, ch, hA⟩ := h
  have w0 := w
  obtain ⟨w1, w2, w3, w4, w5, w6, w7⟩ := w
  have mc := List.mem_of_getElem? hj
  have tm := tile.mem w6 c mc
  refine ⟨w7 c mc, ?_, fun p hp => ?_⟩
  · unfold chn
    rw [List.reverse_append]
    exact ⟨hn, ⟨j, hj⟩, ch⟩
  · rcases List.mem_append.mp hp with y | y
    · obtain ⟨a1, a2, a3⟩ := hA p y
      exact ⟨by omega, by omega, a3⟩
    · rw [List.mem_singleton.mp y]
      exact ⟨by omega, by omega, N + 1, w0⟩
/-- what holds before the nodes holds behind them -/
theorem jn_ind {m0 : yM} {T : Nat} {F : List ND} {P : List Nat → Nat → SU → Prop} (hb : ∀ N A n s σ, PA m0 T F N A n → P A n s → jb s n = .inl σ → P (A ++ [n]) (n + 1) (σ, s.2)) (hl : ∀ N A n s σ', PA m0 T F N A n → P (A ++ [n]) (n + szF F n) s → lk F A s.1 s.2 n = .inl σ' → P A (n + szF F n) (σ', nU s.1 s.2 n)) : ∀ N A n s, PA m0 T F N A n → P A n s → ∀ s', jn F N A n s = .inl s' → P A (n + szF F n) s' := by
  intro N
  induction N with
  | zero => intro A n s h; exact absurd h.1 (fun z => z)
  | succ N ih =>
    intro A n s hp hP s' e
    have ejn : jn F (N + 1) A n s = match jb s n with
      | .inr c => .inr (c, n)
      | .inl σ => match jl (jn F N (A ++ [n])) (kids F n) (σ, s.2) with
        | .inr e => .inr e
        | .inl s' => match lk F A s'.1 s'.2 n with
          | .inr c => .inr (c, n)
          | .inl σ' => .inl (σ', nU s'.1 s'.2 n) := rfl
    rw [ejn] at e
    cases hjb : jb s n with
    | inr c => rw [hjb] at e; cases e
    | inl σ =>
      rw [hjb] at e
      dsimp only at e
      have p1 := hb (N + 1) A n s σ hp hP hjb
      have kd : ∀ (K : List Nat) (j i : Nat) (s1 : SU), (kids F n).drop j = K → tile F K i (n + szF F n) → P (A ++ [n]) i s1 → ∀ s2, jl (jn F N (A ++ [n])) K s1 = .inl s2 → P (A ++ [n]) (n + szF F n) s2 := by
        intro K
        induction K with
        | nil =>
          intro j i s1 _ ht h1 s2 e2
          have ht : i = n + szF F n := ht
          have e2 : (Sum.inl s1 : JR) = .inl s2 := e2
          rw [← Sum.inl.inj e2, ← ht]
          exact h1
        | cons c K ihK =>
          intro j i s1 ed ht h1 s2 e2
          obtain ⟨rfl, ht⟩ := ht
          have hj : (kids F n)[j]? = some c := by
            have := congrArg (fun l => l[0]?) ed
            simpa using this
          have e' : (kids F n).drop (j + 1) = K := by
            have := congrArg (List.drop 1) ed
            rw [List.drop_drop] at this
            simpa using this
          have e2 : (match jn F N (A ++ [n]) c s1 with | .inr e => .inr e | .inl s' => jl (jn F N (A ++ [n])) K s') = (.inl s2 : JR) := e2
          cases hc : jn F N (A ++ [n]) c s1 with
          | inr e => rw [hc] at e2; cases e2
          | inl s3 =>
            rw [hc] at e2
            exact ihK (j + 1) (c + szF F c) s3 e' ht (ih (A ++ [n]) c s1 (hp.kd hj) h1 s3 hc) s2 e2
      cases hjl : jl (jn F N (A ++ [n])) (kids F n) (σ, s.2) with
      | inr e1 => rw [hjl] at e; cases e
      | inl s2 =>
        rw [hjl] at e
        dsimp only at e
        have p2 := kd (kids F n) 0 (n + 1) (σ, s.2) rfl hp.1.2.2.2.2.2.1 p1 s2 hjl
        cases hlk : lk F A s2.1 s2.2 n with
        | inr c => rw [hlk] at e; cases e
        | inl σ' =>
          rw [hlk] at e
          dsimp only at e
          rw [← Sum.inl.inj e]
          exact hl (N + 1) A n s2 σ' hp p2 hlk
/-- .. and each look has what it wants -/
theorem jp_ind {m0 : yM} {T : Nat} {F : List ND} {P : List Nat → Nat → SU → Prop} (hb : ∀ N A n s σ, PA m0 T F N A n → P A n s → jb s n = .inl σ → P (A ++ [n]) (n + 1) (σ, s.2)) (hl : ∀ N A n s σ', PA m0 T F N A n → P (A ++ [n]) (n + szF F n) s → lk F A s.1 s.2 n = .inl σ' → P A (n + szF F n) (σ', nU s.1 s.2 n)) (pb : ∀ N A n s, PA m0 T F N A n → P A n s → bkN (s.1.2.2.1 n) → preB F s n) (pl : ∀ N A n s, PA m0 T F N A n → P (A ++ [n]) (n + szF F n) s → pre F A s.1 n ∧ (kK F n = 0 → s.1.2.2.1 n = 0)) : ∀ N A n s, PA m0 T F N A n → P A n s → jp F N A n s := by
  intro N
  induction N with
  | zero => intro A n s h; exact absurd h.1 (fun z => z)
  | succ N ih =>
    intro A n s hp hP
    have w := hp.1
    obtain ⟨w1, w2, w3, w4, w5, w6, w7⟩ := w
    refine ⟨hp.lt.1, w2, w6, fun hk => pb (N + 1) A n s hp hP hk, fun σ hjb => ?_⟩
    have p1 := hb (N + 1) A n s σ hp hP hjb
    have kd : ∀ (K : List Nat) (j i : Nat) (s1 : SU), (kids F n).drop j = K → tile F K i (n + szF F n) → P (A ++ [n]) i s1 → jpl (jn F N (A ++ [n])) (jp F N (A ++ [n])) K s1 ∧ ∀ s2, jl (jn F N (A ++ [n])) K s1 = .inl s2 → P (A ++ [n]) (n + szF F n) s2 := by
      intro K
      induction K with
      | nil =>
        intro j i s1 _ ht h1
        refine ⟨trivial, fun s2 e2 => ?_⟩
        have ht : i = n + szF F n := ht
        have e2 : (Sum.inl s1 : JR) = .inl s2 := e2
        rw [← Sum.inl.inj e2, ← ht]
        exact h1
      | cons c K ihK =>
        intro j i s1 ed ht h1
        obtain ⟨rfl, ht⟩ := ht
        have hj : (kids F n)[j]? = some c := by
          have := congrArg (fun l => l[0]?) ed
          simpa using this
        have e' : (kids F n).drop (j + 1) = K := by
          have := congrArg (List.drop 1) ed
          rw [List.drop_drop] at this
          simpa using this
        have go : ∀ s3, jn F N (A ++ [n]) c s1 = .inl s3 → P (A ++ [n]) (c + szF F c) s3 := fun s3 e3 => jn_ind hb hl N (A ++ [n]) c s1 (hp.kd hj) h1 s3 e3
        refine ⟨⟨ih (A ++ [n]) c s1 (hp.kd hj) h1, fun s3 e3 => (ihK (j + 1) _ s3 e' ht (go s3 e3)).1⟩, fun s2 e2 => ?_⟩
        have e2 : (match jn F N (A ++ [n]) c s1 with | .inr e => .inr e | .inl s' => jl (jn F N (A ++ [n])) K s') = (.inl s2 : JR) := e2
        cases hc : jn F N (A ++ [n]) c s1 with
        | inr e => rw [hc] at e2; cases e2
        | inl s3 =>
          rw [hc] at e2
          exact (ihK (j + 1) _ s3 e' ht (go s3 hc)).2 s2 e2
    obtain ⟨k1, k2⟩ := kd (kids F n) 0 (n + 1) (σ, s.2) rfl w6 p1
    exact ⟨k1, fun s' e => pl (N + 1) A n s' hp (k2 s' e)⟩
