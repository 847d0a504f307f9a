/-! THE MACHINE: only cells below 8192 matter, a run -/
theorem elI_l {b : Nat} {x : IT} {i : Int32} {c : Nat} (h : elI b x i = some (some c)) : c < 8192 := ((elI_s h).2 c rfl).2
theorem opTake_g {M M' : Nat → Int32} (h : Mg M M') (b : Nat) (x : IT) (S : List Int32) : PRg (opTake b x M S) M (opTake b x M' S) := by
  cases S with
  | nil => trivial
  | cons i S =>
    unfold opTake
    dsimp only
    cases ho : elI b x i with
    | none => trivial
    | some o =>
      cases o with
      | none => exact rfl
      | some c => exact ⟨M', by rw [h c (elI_l ho)], h⟩
theorem opPut_g {M M' : Nat → Int32} (h : Mg M M') (b : Nat) (x : IT) (S : List Int32) : PRg (opPut b x M S) M (opPut b x M' S) := by
  cases S with
  | nil => trivial
  | cons v S =>
    cases S with
    | nil => trivial
    | cons i S =>
      unfold opPut
      dsimp only
      cases ho : elI b x i with
      | none => trivial
      | some o =>
        cases o with
        | none => exact rfl
        | some c => exact ⟨_, rfl, h.u _ _⟩
theorem oxP_g {M M' : Nat → Int32} (h : Mg M M') (b : Nat) (bs : Nat → Option Nat) (now : Int32) (x : IT) (S : List Int32) : PRg (oxP b bs now x S M) M (oxP b bs now x S M') := by
  unfold oxP
  by_cases z0 : x.1 = 0
  · rw [if_pos z0, if_pos z0]
    by_cases l : S.length < 1024
    · rw [if_pos l, if_pos l]; exact ⟨M', rfl, h⟩
    · rw [if_neg l]; trivial
  rw [if_neg z0, if_neg z0]
  by_cases z1 : x.1 = 1
  · rw [if_pos z1, if_pos z1]; exact opLd_g h (fun c e => celI_l e) S
  rw [if_neg z1, if_neg z1]
  by_cases z2 : x.1 = 2
  · rw [if_pos z2, if_pos z2]; exact opSto_g h _ S
  rw [if_neg z2, if_neg z2]
  by_cases z3 : x.1 = 3
  · rw [if_pos z3, if_pos z3]; exact opTake_g h b x S
  rw [if_neg z3, if_neg z3]
  by_cases z4 : x.1 = 4
  · rw [if_pos z4, if_pos z4]; exact opPut_g h b x S
  rw [if_neg z4, if_neg z4]
  by_cases z5 : x.1 = 5
  · rw [if_pos z5, if_pos z5]; exact opLd_g h (fun c e => fnI_l e) S
  rw [if_neg z5, if_neg z5]
  by_cases z6 : x.1 = 6
  · rw [if_pos z6, if_pos z6]; exact opSto_g h _ S
  rw [if_neg z6, if_neg z6]
  by_cases z7 : x.1 = 7
  · rw [if_pos z7, if_pos z7]
    unfold opTwo
    split
    · split
      · split
        · rfl
        · exact ⟨M', rfl, h⟩
      · trivial
    · trivial
  rw [if_neg z7, if_neg z7]
  by_cases z8 : x.1 = 8
  · rw [if_pos z8, if_pos z8]
    unfold opOne
    split
    · exact ⟨M', rfl, h⟩
    · trivial
  rw [if_neg z8, if_neg z8]
  by_cases z9 : x.1 = 9
  · rw [if_pos z9, if_pos z9]
    unfold opCho
    split
    · exact ⟨M', rfl, h⟩
    · trivial
  rw [if_neg z9, if_neg z9]
  by_cases z12 : x.1 = 12
  · rw [if_pos z12, if_pos z12]
    cases celI b x.2.1 with
    | none => trivial
    | some c => exact ⟨_, rfl, h.u _ _⟩
  rw [if_neg z12, if_neg z12]
  by_cases z17 : x.1 = 17
  · rw [if_pos z17, if_pos z17]
    unfold opBlk
    by_cases p : 0 ≤ x.2.1 ∧ x.2.1.toNatClampNeg < 9 ∧ 0 ≤ x.2.2.1 ∧ b + x.2.2.1.toNatClampNeg + szK x.2.1.toNatClampNeg ≤ 8192
    · rw [if_pos p, if_pos p]; exact ⟨_, rfl, bkF_g h now p.2.2.2⟩
    · rw [if_neg p]; trivial
  rw [if_neg z17]
  trivial
def XRg (R R' : XR) : Prop := match R with
  | .inl (S, N, n) => ∃ N', R' = .inl (S, N', n) ∧ Mg N N'
  | .inr (c, N, n) => ∃ N', R' = .inr (c, N', n) ∧ Mg N N'
theorem exU_g (Us : Nat → List IT) (bs : Nat → Option Nat) (now : Int32) : ∀ (f u b i : Nat) (S : List Int32) (M M' : Nat → Int32) (n : Nat) (R : XR), Mg M M' → exU Us bs now f u b i S M n = some R → ∃ R', exU Us bs now f u b i S M' n = some R' ∧ XRg R R' := by
  intro f
  induction f with
  | zero => intro u b i S M M' n R _ h; cases h
  | succ f ih =>
    intro u b i S M M' n R hM h
    unfold exU at h ⊢
    cases hx : (Us u)[i]? with
    | none =>
      rw [hx] at h
      exact ⟨_, rfl, by rw [← Option.some.inj h]; exact ⟨M', rfl, hM⟩⟩
    | some x =>
      rw [hx] at h
      dsimp only at h ⊢
      by_cases q1 : x.1 = 10 ∨ x.1 = 14
      · rw [if_pos q1] at h ⊢
        cases ht : tgN x.2.1 with
        | none => rw [ht] at h; cases h
        | some t => rw [ht] at h; exact ih _ _ _ _ _ _ _ _ hM h
      rw [if_neg q1] at h ⊢
      by_cases q2 : x.1 = 11
      · rw [if_pos q2] at h ⊢
        split at h
        · rename_i v S' t ht
          exact ih _ _ _ _ _ _ _ _ hM h
        · cases h
      rw [if_neg q2] at h ⊢
      by_cases q3 : x.1 = 13
      · rw [if_pos q3] at h ⊢
        split at h
        · rename_i c t hc ht
          rw [← hM c (celI_l hc)]
          by_cases v0 : M c = 0
          · rw [if_pos v0] at h ⊢; exact ih _ _ _ _ _ _ _ _ hM h
          · rw [if_neg v0] at h ⊢; exact ih _ _ _ _ _ _ _ _ (hM.u _ _) h
        · cases h
      rw [if_neg q3] at h ⊢
      by_cases q4 : x.1 = 15 ∨ x.1 = 16
      · rw [if_pos q4] at h ⊢
        cases eq : (if x.1 = 15 then (if 0 ≤ x.2.2.1 then some (b + x.2.2.1.toNatClampNeg) else none) else bs x.2.1.toNatClampNeg) with
        | none => rw [eq] at h; cases h
        | some q =>
          rw [eq] at h
          dsimp only at h ⊢
          by_cases p : 0 ≤ x.2.1 ∧ x.2.1.toNatClampNeg < u ∧ q ≤ 8192
          · rw [if_pos p] at h ⊢
            cases hR : exU Us bs now f x.2.1.toNatClampNeg q 0 S M (n + 1) with
            | none => rw [hR] at h; cases h
            | some R1 =>
              rw [hR] at h
              obtain ⟨R2, e2, g2⟩ := ih _ _ _ _ _ M' _ _ hM hR
              rw [e2]
              rcases R1 with ⟨S1, N1, n1⟩ | ⟨c1, N1, n1⟩
              · obtain ⟨N2, rfl, g⟩ := g2
                exact ih _ _ _ _ _ _ _ _ g h
              · obtain ⟨N2, rfl, g⟩ := g2
                exact ⟨_, rfl, by rw [← Option.some.inj h]; exact ⟨N2, rfl, g⟩⟩
          · rw [if_neg p] at h; cases h
      rw [if_neg q4] at h ⊢
      by_cases q5 : x.1 = 18
      · rw [if_pos q5] at h ⊢
        exact ⟨_, rfl, by rw [← Option.some.inj h]; exact ⟨M', rfl, hM⟩⟩
      rw [if_neg q5] at h ⊢
      have g := oxP_g hM b bs now x S
      cases eX : oxP b bs now x S M with
      | none => rw [eX] at h; cases h
      | some X =>
        rw [eX] at h g
        rcases X with ⟨S1, N1⟩ | c
        · obtain ⟨N2, e2, g2⟩ := g
          rw [e2]
          exact ih _ _ _ _ _ _ _ _ g2 h
        · have g : oxP b bs now x S M' = some (.inr c) := g
          rw [g]
          exact ⟨_, rfl, by rw [← Option.some.inj h]; exact ⟨M', rfl, hM⟩⟩
