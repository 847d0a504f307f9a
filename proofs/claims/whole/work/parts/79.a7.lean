/-! MEASURE: small methods of the class -/
theorem c223 (xs : List Int32) (d : Nat) (m : yM) (o : Int32) : yC (xg xs) (d + 1) 223 [.int o] m (fun r m' => r = some (.int (if goB o = true then 1 else 0)) ∧ m' = m) := by
  have no : ∀ k : Int32, o = k → (k = 10 ∨ k = 14 ∨ k = 18) → goB o = false := by
    intro k e hk
    unfold goB
    apply decide_eq_false
    rw [e]
    rcases hk with h | h | h <;> rw [h] <;> decide
  refine w223_0 xs d _ m _ ⟨fun z => ?_, fun z => ⟨fun y => ?_, fun y => ⟨fun w => ?_, fun w => ?_⟩⟩⟩
  · rw [no 10 z (Or.inl rfl)]; exact ⟨rfl, rfl⟩
  · rw [no 14 y (Or.inr (Or.inl rfl))]; exact ⟨rfl, rfl⟩
  · rw [no 18 w (Or.inr (Or.inr rfl))]; exact ⟨rfl, rfl⟩
  · have : goB o = true := by unfold goB; exact decide_eq_true ⟨z, y, w⟩
    rw [this]; exact ⟨rfl, rfl⟩
theorem c220u (xs : List Int32) (d : Nat) {F : List ND} {σ : RS} {m : yM} (h : CU F σ m) (h16 : σ.1.length ≤ 16) {b : Nat} (hb : b < σ.1.length) : yC (xg xs) (d + 1) 220 [.ref 35, .int (nI b)] m (fun r m' => r = some (.int (nI (unC F σ 186 b).length)) ∧ m' = m) := by
  obtain ⟨h1, h2, h3⟩ := h
  have es : allC F σ 186 (b + 1) = allC F σ 186 b ++ unC F σ 186 b := rfl
  have xb : x_in (nI b) 16 = true := x_in_nI (by omega) (by decide)
  have cb : (nI b).toNatClampNeg = b := nI_clamp (by omega)
  refine w220_0 xs d _ m _ ?_
  rw [h2, nI_1, cb, nI_clamp (by omega), h3 b hb]
  refine ⟨fun z => ⟨xb, ?_, rfl⟩, fun z => ⟨?_, xb, ?_, rfl⟩⟩
  · have := (nI_leI (by omega) (by omega)).mp z
    have e : σ.1.length = b + 1 := by omega
    rw [h1.1, e, es, List.length_append, nI_sub (by omega), Nat.add_sub_cancel_left]
  · refine x_in_nI ?_ (by decide)
    rcases Nat.lt_or_ge (b + 1) 16 with w | w
    · exact w
    · exact absurd (nI_le (by omega) (by omega)) z
  · have lt : b + 1 < σ.1.length := by
      rcases Nat.lt_or_ge (b + 1) σ.1.length with w | w
      · exact w
      · exact absurd (nI_le w (by omega)) z
    rw [h3 (b + 1) lt, es, List.length_append, nI_sub (by omega), Nat.add_sub_cancel_left]
