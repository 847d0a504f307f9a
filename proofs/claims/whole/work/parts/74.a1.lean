/-! THE RULES' INVARIANTS: what a look leaves alone -/
/-- node n alone is changed -/
def LO (n : Nat) (σ σ' : RS) : Prop := σ'.1 = σ.1 ∧ σ'.2.1 = σ.2.1 ∧ ∀ j, j ≠ n → σ'.2.2.1 j = σ.2.2.1 j ∧ σ'.2.2.2.1 j = σ.2.2.2.1 j ∧ σ'.2.2.2.2 j = σ.2.2.2.2 j
theorem LO.re (n : Nat) (σ : RS) : LO n σ σ := ⟨rfl, rfl, fun _ _ => ⟨rfl, rfl, rfl⟩⟩
theorem LO.sV {n : Nat} {σ σ' : RS} (h : LO n σ σ') (x : Int32) : LO n σ (setV σ' n x) := ⟨h.1, h.2.1, fun j hj => ⟨(h.2.2 j hj).1, (upI_o _ _ hj).trans (h.2.2 j hj).2.1, (h.2.2 j hj).2.2⟩⟩
theorem LO.sT {n : Nat} {σ σ' : RS} (h : LO n σ σ') (x : Int32) : LO n σ (setT σ' n x) := ⟨h.1, h.2.1, fun j hj => ⟨(h.2.2 j hj).1, (h.2.2 j hj).2.1, (upI_o _ _ hj).trans (h.2.2 j hj).2.2⟩⟩
theorem LO.sK {n : Nat} {σ σ' : RS} (h : LO n σ σ') (x : Int32) : LO n σ (setK σ' n x) := ⟨h.1, h.2.1, fun j hj => ⟨(upI_o _ _ hj).trans (h.2.2 j hj).1, (h.2.2 j hj).2.1, (h.2.2 j hj).2.2⟩⟩
theorem LO.bc {n : Nat} {σ σ' : RS} (h : LO n σ σ') (x : Int32) : LO n σ (bcN σ' n x) := (h.sK 30).sV x
theorem inl_e {σ σ' : RS} (h : (Sum.inl σ : RS ⊕ Int32) = .inl σ') : σ' = σ := (Sum.inl.inj h).symm
theorem lkVar_lo {σ σ' : RS} {form : Int32} {n : Nat} (h : lkVar σ form n = .inl σ') : LO n σ σ' := by
  unfold lkVar at h
  split at h
  · cases h
  · split at h
    · rw [inl_e h]; exact ((LO.re n σ).sV _).sT _
    · cases h
theorem lkX_lo {F : List ND} {σ σ' : RS} {n : Nat} (h : lkX F σ n = .inl σ') : LO n σ σ' := by
  unfold lkX at h
  split at h
  · rw [inl_e h]; exact (LO.re n σ).sT _
  split at h
  · unfold lkElem at h
    split at h
    · cases h
    · split at h
      · split at h
        · cases h
        · rw [inl_e h]; exact ((LO.re n σ).sV _).sT _
      · cases h
  split at h
  · unfold lkOut at h
    split at h
    · cases h
    · split at h
      · split at h
        · cases h
        · rw [inl_e h]; exact ((LO.re n σ).sV _).sT _
      · cases h
  split at h
  · unfold lkCall at h
    split at h
    · cases h
    split at h
    · cases h
    split at h
    · cases h
    split at h
    · rw [inl_e h]; exact (((LO.re n σ).sV _).sT _).bc _
    · rw [inl_e h]; exact ((LO.re n σ).sV _).sT _
  split at h
  · unfold lkTwo at h
    split at h
    · cases h
    split at h
    · rw [inl_e h]; exact ((LO.re n σ).sT _).bc _
    · rw [inl_e h]; exact (LO.re n σ).sT _
  split at h
  · unfold lkOne at h
    split at h
    · cases h
    split at h
    · rw [inl_e h]; exact ((LO.re n σ).sT _).bc _
    · rw [inl_e h]; exact (LO.re n σ).sT _
  · rw [inl_e h]; exact LO.re n σ
theorem lkS_lo {F : List ND} {A : List Nat} {σ σ' : RS} {n : Nat} (h : lkS F A σ n = .inl σ') : LO n σ σ' := by
  unfold lkS at h
  split at h
  · unfold lkAsg at h
    split at h
    · cases h
    split at h
    · rw [inl_e h]; exact LO.re n σ
    · cases h
  split at h
  · unfold lkInv at h
    split at h
    · cases h
    split at h
    · rw [inl_e h]; exact (LO.re n σ).sV _
    · cases h
  split at h
  · unfold lkPrm at h
    split at h
    · rw [inl_e h]; exact LO.re n σ
    split at h
    · unfold lkPrmP at h
      split at h
      · cases h
      split at h
      · cases h
      split at h
      · rw [inl_e h]; exact (LO.re n σ).sV _
      · cases h
    · rw [inl_e h]; exact LO.re n σ
  split at h
  · unfold lkIf at h
    split at h
    · cases h
    · rw [inl_e h]; exact LO.re n σ
  split at h
  · split at h
    · cases h
    · rw [inl_e h]; exact LO.re n σ
  split at h
  · unfold lkRng at h
    split at h
    · cases h
    · rw [inl_e h]; exact LO.re n σ
  split at h
  · unfold lkFor at h
    split at h
    · cases h
    split at h
    · cases h
    split at h
    · cases h
    split at h
    · cases h
    · unfold lkForP at h
      split at h
      · cases h
      · rw [inl_e h]; exact (LO.re n σ).sV _
  split at h
  · split at h
    · rw [inl_e h]; exact LO.re n σ
    · cases h
  · rw [inl_e h]; exact LO.re n σ
/-- a look changes its own node alone, but for blocks, declarations and their names -/
theorem lk_lo {F : List ND} {A : List Nat} {σ σ' : RS} {U : Nat → Bool} {n : Nat} (h : lk F A σ U n = .inl σ') (h1 : ¬ (σ.2.2.1 n = 1 ∨ σ.2.2.1 n = 2 ∨ σ.2.2.1 n = 3)) (h5 : ¬ σ.2.2.1 n = 5) (h6 : ¬ (σ.2.2.1 n = 6 ∧ σ.2.2.1 (fPar A) = 5)) : LO n σ σ' := by
  unfold lk at h
  by_cases k0 : σ.2.2.1 n = 0
  · rw [if_pos k0] at h
    unfold lkText at h
    split at h
    · split at h
      · rw [inl_e h]; exact LO.re n σ
      · cases h
    · cases h
  rw [if_neg k0, if_neg h1] at h
  by_cases k4 : σ.2.2.1 n = 4
  · rw [if_pos k4] at h
    unfold lkSect ifF at h
    split at h
    · cases h
    · rw [inl_e h]; exact LO.re n σ
  rw [if_neg k4, if_neg h5] at h
  by_cases k6 : σ.2.2.1 n = 6
  · rw [if_pos k6] at h
    unfold lkName at h
    by_cases k33 : σ.2.2.1 (fPar A) = 33
    · rw [if_pos k33] at h
      rw [inl_e h]; exact LO.re n σ
    rw [if_neg k33, if_neg (fun z => h6 ⟨k6, z⟩)] at h
    exact lkVar_lo h
  rw [if_neg k6] at h
  by_cases k7 : σ.2.2.1 n = 7
  · rw [if_pos k7] at h
    unfold lkPlc at h
    split at h
    · cases h
    · rw [inl_e h]; exact (LO.re n σ).sV _
  rw [if_neg k7] at h
  by_cases k9 : σ.2.2.1 n = 9
  · rw [if_pos k9] at h
    unfold lkArr at h
    split at h
    · cases h
    · rw [inl_e h]; exact ((LO.re n σ).sV _).sT _
  rw [if_neg k9] at h
  by_cases k10 : σ.2.2.1 n = 10
  · rw [if_pos k10] at h
    unfold lkBtyp at h
    split at h
    · cases h
    · rw [inl_e h]; exact (LO.re n σ).sV _
  rw [if_neg k10] at h
  by_cases k23 : σ.2.2.1 n = 23
  · rw [if_pos k23] at h
    unfold lkRung at h
    split at h
    · cases h
    · rw [inl_e h]; exact LO.re n σ
  rw [if_neg k23] at h
  by_cases k25 : σ.2.2.1 n = 25
  · rw [if_pos k25] at h
    split at h
    · rw [inl_e h]; exact LO.re n σ
    · cases h
  rw [if_neg k25] at h
  by_cases k28 : σ.2.2.1 n = 28
  · rw [if_pos k28] at h
    unfold lkCoil at h
    split at h
    · cases h
    split at h
    · cases h
    split at h
    · cases h
    · rw [inl_e h]; exact LO.re n σ
  rw [if_neg k28] at h
  by_cases k29 : σ.2.2.1 n = 29
  · rw [if_pos k29] at h
    unfold lkLink at h
    split at h
    · cases h
    · rw [inl_e h]; exact LO.re n σ
  rw [if_neg k29] at h
  by_cases kx : 23 ≤ σ.2.2.1 n
  · rw [if_pos kx] at h
    exact lkX_lo h
  · rw [if_neg kx] at h
    exact lkS_lo h
