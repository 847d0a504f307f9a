/-! THE PURE MACHINE: more fuel, the same -/
theorem exU_f1 (Us : Nat → List IT) (bs : Nat → Option Nat) (now : Int32) : ∀ (f u b i : Nat) (S : List Int32) (M : Nat → Int32) (n : Nat) (R : XR), exU Us bs now f u b i S M n = some R → exU Us bs now (f + 1) u b i S M n = some R := by
  intro f
  induction f with
  | zero => intro u b i S M n R h; cases h
  | succ f ih =>
    intro u b i S M n R h
    unfold exU at h ⊢
    cases hx : (Us u)[i]? with
    | none => rw [hx] at h; exact h
    | some x =>
      rw [hx] at h
      dsimp only at h ⊢
      by_cases q1 : x.1 = 10 ∨ x.1 = 14
      · rw [if_pos q1] at h ⊢
        cases ht : tgN x.2.1 with
        | none => rw [ht] at h; cases h
        | some t => rw [ht] at h; exact ih _ _ _ _ _ _ _ h
      rw [if_neg q1] at h ⊢
      by_cases q2 : x.1 = 11
      · rw [if_pos q2] at h ⊢
        split at h
        · exact ih _ _ _ _ _ _ _ h
        · cases h
      rw [if_neg q2] at h ⊢
      by_cases q3 : x.1 = 13
      · rw [if_pos q3] at h ⊢
        split at h
        · rename_i c t hc ht
          by_cases v0 : M c = 0
          · rw [if_pos v0] at h ⊢; exact ih _ _ _ _ _ _ _ h
          · rw [if_neg v0] at h ⊢; exact ih _ _ _ _ _ _ _ h
        · cases h
      rw [if_neg q3] at h ⊢
      by_cases q4 : x.1 = 15 ∨ x.1 = 16
      · rw [if_pos q4] at h ⊢
        cases eq : (if x.1 = 15 then (if 0 ≤ x.2.2.1 then some (b + x.2.2.1.toNatClampNeg) else none) else bs x.2.1.toNatClampNeg) with
        | none => rw [eq] at h; cases h
        | some q =>
          rw [eq] at h
          dsimp only at h ⊢
          by_cases p : 0 ≤ x.2.1 ∧ x.2.1.toNatClampNeg < u ∧ q ≤ 8192
          · rw [if_pos p] at h ⊢
            cases hR : exU Us bs now f x.2.1.toNatClampNeg q 0 S M (n + 1) with
            | none => rw [hR] at h; cases h
            | some R1 =>
              rw [hR] at h
              rw [ih _ _ _ _ _ _ _ hR]
              rcases R1 with r1 | r1
              · exact ih _ _ _ _ _ _ _ h
              · exact h
          · rw [if_neg p] at h; cases h
      rw [if_neg q4] at h ⊢
      by_cases q5 : x.1 = 18
      · rw [if_pos q5] at h ⊢
        exact h
      rw [if_neg q5] at h ⊢
      cases eX : oxP b bs now x S M with
      | none => rw [eX] at h; cases h
      | some X =>
        rw [eX] at h
        rcases X with r1 | c
        · exact ih _ _ _ _ _ _ _ h
        · exact h
theorem exU_f {Us : Nat → List IT} {bs : Nat → Option Nat} {now : Int32} {f u b i : Nat} {S : List Int32} {M : Nat → Int32} {n : Nat} {R : XR} (h : exU Us bs now f u b i S M n = some R) : ∀ k, exU Us bs now (f + k) u b i S M n = some R
  | 0 => h
  | k + 1 => exU_f1 Us bs now _ _ _ _ _ _ _ _ (exU_f h k)
