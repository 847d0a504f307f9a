/-! THE MACHINE: the class's run -/
def CCd (Us : Nat → List IT) (bs : Nat → Option Nat) (U : Nat) (st : Nat → Nat) (m : yM) : Prop := U ≤ 16 ∧ (∀ u, u < U → st (u + 1) = st u + (Us u).length) ∧ (∀ u, u ≤ U → st u ≤ 3000) ∧ (m.1 35 7 = nI U ∧ m.1 35 6 = nI (st U) ∧ ∀ u, u < U → m.1 40 u = nI (st u)) ∧ (∀ u, u < U → ∀ i x, (Us u)[i]? = some x → m.1 36 (st u + i) = x.1 ∧ m.1 37 (st u + i) = x.2.1 ∧ m.1 38 (st u + i) = x.2.2.1 ∧ m.1 39 (st u + i) = x.2.2.2.1) ∧ ∀ g q, bs g = some q → g < 512 ∧ m.1 27 g = nI q
theorem CCd.k {Us : Nat → List IT} {bs : Nat → Option Nat} {U : Nat} {st : Nat → Nat} {m m' : yM} (h : CCd Us bs U st m) (k : KY m m') : CCd Us bs U st m' := by
  obtain ⟨h1, h2, h3, h4, h5, h6⟩ := h
  have g : ∀ a i, a < 52 → m'.1 a i = m.1 a i := fun a i x => k.2 a i (by omega) (by omega)
  refine ⟨h1, h2, h3, ⟨by rw [g 35 7 (by omega)]; exact h4.1, by rw [g 35 6 (by omega)]; exact h4.2.1, fun u hu => by rw [g 40 u (by omega)]; exact h4.2.2 u hu⟩, fun u hu i x hx => ?_, fun q p e => ⟨(h6 q p e).1, by rw [g 27 _ (by omega)]; exact (h6 q p e).2⟩⟩
  rw [g 36 _ (by omega), g 37 _ (by omega), g 38 _ (by omega), g 39 _ (by omega)]
  exact h5 u hu i x hx
theorem CCd.sz {Us : Nat → List IT} {bs : Nat → Option Nat} {U : Nat} {st : Nat → Nat} {m : yM} (h : CCd Us bs U st m) {u : Nat} (hu : u < U) (xs : List Int32) (d : Nat) : yC (xg xs) d 220 [.ref 35, .int (nI u)] m (fun r m' => r = some (.int (nI (Us u).length)) ∧ m' = m) := by
  obtain ⟨h1, h2, h3, ⟨h4, h5, h6⟩, -, -⟩ := h
  refine yC.mono (Nat.le_refl _) (fun r m' q => ⟨?_, q.2⟩) (c220 xs d m u U hu h1 h4)
  rw [q.1]
  have e : (if u + 1 < U then m.1 40 (u + 1) else m.1 35 6) = nI (st (u + 1)) := by
    by_cases c : u + 1 < U
    · rw [if_pos c, h6 _ c]
    · rw [if_neg c, h5, show U = u + 1 by omega]
  rw [e, h6 u hu, nI_sub (by rw [h2 u hu]; omega), h2 u hu, Nat.add_sub_cancel_left]
theorem ox_c {b : Nat} {bs : Nat → Option Nat} {now : Int32} {x : IT} {S : List Int32} {M : Nat → Int32} {c : Int32} (h : oxP b bs now x S M = some (.inr c)) : ¬ c = 0 := by
  have ld : ∀ o, opLd o M S = some (.inr c) → False := fun o e => by
    unfold opLd at e
    split at e
    · split at e <;> cases e
    · cases e
  have so : ∀ o, opSto o M S = some (.inr c) → False := fun o e => by
    unfold opSto at e
    split at e
    · split at e <;> cases e
    · cases e
  unfold oxP at h
  by_cases z0 : x.1 = 0
  · rw [if_pos z0] at h
    by_cases hl : S.length < 1024
    · rw [if_pos hl] at h; cases h
    · rw [if_neg hl] at h; cases h
  rw [if_neg z0] at h
  by_cases z1 : x.1 = 1
  · rw [if_pos z1] at h
    exact absurd h (ld _)
  rw [if_neg z1] at h
  by_cases z2 : x.1 = 2
  · rw [if_pos z2] at h
    exact absurd h (so _)
  rw [if_neg z2] at h
  by_cases z3 : x.1 = 3
  · rw [if_pos z3] at h
    exact opTake_c h
  rw [if_neg z3] at h
  by_cases z4 : x.1 = 4
  · rw [if_pos z4] at h
    exact opPut_c h
  rw [if_neg z4] at h
  by_cases z5 : x.1 = 5
  · rw [if_pos z5] at h
    exact absurd h (ld _)
  rw [if_neg z5] at h
  by_cases z6 : x.1 = 6
  · rw [if_pos z6] at h
    exact absurd h (so _)
  rw [if_neg z6] at h
  by_cases z7 : x.1 = 7
  · rw [if_pos z7] at h
    unfold opTwo at h
    split at h
    · split at h
      · split at h
        · have e := Sum.inr.inj (Option.some.inj h)
          rw [← e]
          decide
        · cases h
      · cases h
    · cases h
  rw [if_neg z7] at h
  by_cases z8 : x.1 = 8
  · rw [if_pos z8] at h
    unfold opOne at h
    split at h <;> cases h
  rw [if_neg z8] at h
  by_cases z9 : x.1 = 9
  · rw [if_pos z9] at h
    unfold opCho at h
    split at h <;> cases h
  rw [if_neg z9] at h
  by_cases z12 : x.1 = 12
  · rw [if_pos z12] at h
    cases hc : celI b x.2.1 with
    | none => rw [hc] at h; cases h
    | some c => rw [hc] at h; cases h
  rw [if_neg z12] at h
  by_cases z17 : x.1 = 17
  · rw [if_pos z17] at h
    unfold opBlk at h
    split at h <;> cases h
  rw [if_neg z17] at h
  cases h
theorem CMs.en {m : yM} {Fr : List (Nat × Nat × Nat)} {u b i : Nat} {S : List Int32} {M : Nat → Int32} {n : Nat} (h : CMs m Fr u b i S M n) (hF : Fr.length < 16) (v q : Nat) : CMs (y_si (y_si (y_si (y_si (y_si (y_si (y_si m 55 Fr.length (nI u)) 56 Fr.length (nI i)) 57 Fr.length (nI b)) 52 10 (nI (Fr.length + 1))) 52 11 (nI v)) 52 12 0) 52 13 (nI q)) ((u, i, b) :: Fr) v q 0 S M n := by
  obtain ⟨h1, ⟨h2, h3, h4⟩, h5, ⟨h6, h7, h8⟩, h9, h10, h11⟩ := h
  have g : ∀ a j, ¬ (a = 52 ∧ (9 < j ∧ j < 14)) → ¬ (54 < a ∧ a < 58 ∧ j = Fr.length) → (y_si (y_si (y_si (y_si (y_si (y_si (y_si m 55 Fr.length (nI u)) 56 Fr.length (nI i)) 57 Fr.length (nI b)) 52 10 (nI (Fr.length + 1))) 52 11 (nI v)) 52 12 0) 52 13 (nI q)).1 a j = m.1 a j := fun a j z1 z2 => by
    simp only [y_si_at]
    rw [if_neg (by omega), if_neg (by omega), if_neg (by omega), if_neg (by omega), if_neg (by omega), if_neg (by omega), if_neg (by omega)]
  refine ⟨by rw [← h1]; rfl, ⟨by rw [g 52 9 (by omega) (by omega)]; exact h2, h3, h4.g (fun j _ => g 54 j (by omega) (by omega))⟩, by rw [g 52 2 (by omega) (by omega)]; exact h5, ⟨?_, by simp; omega, ?_, ?_, ?_, h8.g (fun a j _ _ z => g a j (by omega) (by omega))⟩, ?_, ?_, ?_⟩
  · simp [y_si_at]
  · simp [y_si_at]
  · simp [y_si_at]
  · simp [y_si_at]
  · simp [y_si_at]
  · simp [y_si_at, nI_0]
  · simp [y_si_at]
theorem CMs.le {m : yM} {Fr : List (Nat × Nat × Nat)} {u b i v q j : Nat} {S : List Int32} {M : Nat → Int32} {n : Nat} (h : CMs m ((u, i, b) :: Fr) v q j S M n) (xs : List Int32) (d : Nat) : yC (xg xs) (d + 1) 244 [.ref 52] m (fun r m' => r = none ∧ KY m m' ∧ CMs m' Fr u b i S M n) := by
  obtain ⟨h1, ⟨h2, h3, h4⟩, h5, ⟨h6, h7, h8, h8b, h8c, h8d⟩, h9, h10, h11⟩ := h
  have h7 : Fr.length + 1 ≤ 16 := by simpa using h7
  have h6 : m.1 52 10 = nI (Fr.length + 1) := by simpa using h6
  have em : nI (Fr.length + 1) - 1 = nI Fr.length := by rw [nI_pred]
  refine w244_0 xs d m _ ?_
  rw [h6, em, nI_clamp (by omega), h8, h8b, h8c]
  refine ⟨fun z => absurd ((nI_leI (b := 0) (by omega) (by omega)).mp z) (by omega), fun _ => ⟨x_in_nI (by omega) (by decide), x_in_nI (by omega) (by decide), x_in_nI (by omega) (by decide), rfl, ((((KY.re m).s (by omega)).s (by omega)).s (by omega)).s (by omega), ?_⟩⟩
  have g : ∀ a j, ¬ (a = 52 ∧ (9 < j ∧ j < 14)) → (y_si (y_si (y_si (y_si m 52 10 (nI Fr.length)) 52 11 (nI u)) 52 12 (nI i)) 52 13 (nI b)).1 a j = m.1 a j := fun a j z1 => by
    simp only [y_si_at]
    rw [if_neg (by omega), if_neg (by omega), if_neg (by omega), if_neg (by omega)]
  refine ⟨by rw [← h1]; rfl, ⟨by rw [g 52 9 (by omega)]; exact h2, h3, h4.g (fun j _ => g 54 j (by omega))⟩, by rw [g 52 2 (by omega)]; exact h5, ⟨?_, by omega, h8d.g (fun a j _ _ z => g a j (by omega))⟩, ?_, ?_, ?_⟩
  · simp [y_si_at]
  · simp [y_si_at]
  · simp [y_si_at]
  · simp [y_si_at]
