/-! THE RULES' INVARIANTS: what a look does to its own node -/
abbrev chV (k : Int32) : Prop := k = 6 ∨ k = 7 ∨ k = 9 ∨ k = 10 ∨ k = 13 ∨ k = 14 ∨ k = 19 ∨ k = 32 ∨ k = 33 ∨ k = 34 ∨ k = 35 ∨ k = 36
abbrev chTy (k : Int32) : Prop := k = 6 ∨ k = 9 ∨ k = 30 ∨ k = 32 ∨ k = 33 ∨ k = 34 ∨ k = 35 ∨ k = 36
abbrev chK (k : Int32) : Prop := k = 34 ∨ k = 35 ∨ k = 36
def LA (n : Nat) (σ σ' : RS) : Prop := (σ'.2.2.1 n = σ.2.2.1 n ∨ (σ'.2.2.1 n = 30 ∧ chK (σ.2.2.1 n))) ∧ (σ'.2.2.2.1 n = σ.2.2.2.1 n ∨ chV (σ.2.2.1 n)) ∧ (σ'.2.2.2.2 n = σ.2.2.2.2 n ∨ chTy (σ.2.2.1 n))
theorem LA.re (n : Nat) (σ : RS) : LA n σ σ := ⟨Or.inl rfl, Or.inl rfl, Or.inl rfl⟩
theorem LA.sV {n : Nat} {σ σ' : RS} (h : LA n σ σ') (x : Int32) (k : chV (σ.2.2.1 n)) : LA n σ (setV σ' n x) := ⟨h.1, Or.inr k, h.2.2⟩
theorem LA.sT {n : Nat} {σ σ' : RS} (h : LA n σ σ') (x : Int32) (k : chTy (σ.2.2.1 n)) : LA n σ (setT σ' n x) := ⟨h.1, h.2.1, Or.inr k⟩
theorem LA.bc {n : Nat} {σ σ' : RS} (h : LA n σ σ') (x : Int32) (k : chK (σ.2.2.1 n)) : LA n σ (bcN σ' n x) := ⟨Or.inr ⟨upI_n _ _ _, k⟩, Or.inr (by rcases k with k | k | k <;> rw [k] <;> decide), h.2.2⟩
theorem chV_of {k : Int32} (l : Int32) (h : k = l) (hl : chV l) : chV k := h ▸ hl
theorem chTy_of {k : Int32} (l : Int32) (h : k = l) (hl : chTy l) : chTy k := h ▸ hl
theorem chK_of {k : Int32} (l : Int32) (h : k = l) (hl : chK l) : chK k := h ▸ hl
theorem lkVar_la {σ σ' : RS} {form : Int32} {n : Nat} (k : σ.2.2.1 n = 6) (h : lkVar σ form n = .inl σ') : LA n σ σ' := by
  unfold lkVar at h
  split at h
  · cases h
  · split at h
    · rw [inl_e h]; exact ((LA.re n σ).sV _ (chV_of 6 k (by decide))).sT _ (chTy_of 6 k (by decide))
    · cases h
theorem lkX_la {F : List ND} {σ σ' : RS} {n : Nat} (h : lkX F σ n = .inl σ') : LA n σ σ' := by
  unfold lkX at h
  by_cases k30 : σ.2.2.1 n = 30
  · rw [if_pos k30] at h
    rw [inl_e h]; exact (LA.re n σ).sT _ (chTy_of 30 k30 (by decide))
  rw [if_neg k30] at h
  by_cases k : σ.2.2.1 n = 32
  · rw [if_pos k] at h
    unfold lkElem at h
    split at h
    · cases h
    · split at h
      · split at h
        · cases h
        · rw [inl_e h]; exact ((LA.re n σ).sV _ (chV_of 32 k (by decide))).sT _ (chTy_of 32 k (by decide))
      · cases h
  rw [if_neg k] at h
  clear k
  by_cases k : σ.2.2.1 n = 33
  · rw [if_pos k] at h
    unfold lkOut at h
    split at h
    · cases h
    · split at h
      · split at h
        · cases h
        · rw [inl_e h]; exact ((LA.re n σ).sV _ (chV_of 33 k (by decide))).sT _ (chTy_of 33 k (by decide))
      · cases h
  rw [if_neg k] at h
  clear k
  by_cases k : σ.2.2.1 n = 34
  · rw [if_pos k] at h
    unfold lkCall at h
    split at h
    · cases h
    split at h
    · cases h
    split at h
    · cases h
    split at h
    · rw [inl_e h]; exact (((LA.re n σ).sV _ (chV_of 34 k (by decide))).sT _ (chTy_of 34 k (by decide))).bc _ (chK_of 34 k (by decide))
    · rw [inl_e h]; exact ((LA.re n σ).sV _ (chV_of 34 k (by decide))).sT _ (chTy_of 34 k (by decide))
  rw [if_neg k] at h
  clear k
  by_cases k : σ.2.2.1 n = 35
  · rw [if_pos k] at h
    unfold lkTwo at h
    split at h
    · cases h
    split at h
    · rw [inl_e h]; exact ((LA.re n σ).sT _ (chTy_of 35 k (by decide))).bc _ (chK_of 35 k (by decide))
    · rw [inl_e h]; exact (LA.re n σ).sT _ (chTy_of 35 k (by decide))
  rw [if_neg k] at h
  clear k
  by_cases k : σ.2.2.1 n = 36
  · rw [if_pos k] at h
    unfold lkOne at h
    split at h
    · cases h
    split at h
    · rw [inl_e h]; exact ((LA.re n σ).sT _ (chTy_of 36 k (by decide))).bc _ (chK_of 36 k (by decide))
    · rw [inl_e h]; exact (LA.re n σ).sT _ (chTy_of 36 k (by decide))
  rw [if_neg k] at h
  rw [inl_e h]; exact LA.re n σ
theorem lkS_la {F : List ND} {A : List Nat} {σ σ' : RS} {n : Nat} (h : lkS F A σ n = .inl σ') : LA n σ σ' := by
  unfold lkS at h
  split at h
  · unfold lkAsg at h
    split at h
    · cases h
    split at h
    · rw [inl_e h]; exact LA.re n σ
    · cases h
  split at h
  · rename_i k
    unfold lkInv at h
    split at h
    · cases h
    split at h
    · rw [inl_e h]; exact (LA.re n σ).sV _ (chV_of 13 k (by decide))
    · cases h
  split at h
  · rename_i k
    unfold lkPrm at h
    split at h
    · rw [inl_e h]; exact LA.re n σ
    split at h
    · unfold lkPrmP at h
      split at h
      · cases h
      split at h
      · cases h
      split at h
      · rw [inl_e h]; exact (LA.re n σ).sV _ (chV_of 14 k (by decide))
      · cases h
    · rw [inl_e h]; exact LA.re n σ
  split at h
  · unfold lkIf at h
    split at h
    · cases h
    · rw [inl_e h]; exact LA.re n σ
  split at h
  · split at h
    · cases h
    · rw [inl_e h]; exact LA.re n σ
  split at h
  · unfold lkRng at h
    split at h
    · cases h
    · rw [inl_e h]; exact LA.re n σ
  split at h
  · rename_i k
    unfold lkFor at h
    split at h
    · cases h
    split at h
    · cases h
    split at h
    · cases h
    split at h
    · cases h
    · unfold lkForP at h
      split at h
      · cases h
      · rw [inl_e h]; exact (LA.re n σ).sV _ (chV_of 19 k (by decide))
  split at h
  · split at h
    · rw [inl_e h]; exact LA.re n σ
    · cases h
  · rw [inl_e h]; exact LA.re n σ
theorem lk_la {F : List ND} {A : List Nat} {σ σ' : RS} {U : Nat → Bool} {n : Nat} (h : lk F A σ U n = .inl σ') (h1 : ¬ (σ.2.2.1 n = 1 ∨ σ.2.2.1 n = 2 ∨ σ.2.2.1 n = 3)) (h5 : ¬ σ.2.2.1 n = 5) (h6 : ¬ (σ.2.2.1 n = 6 ∧ σ.2.2.1 (fPar A) = 5)) : LA n σ σ' := by
  unfold lk at h
  by_cases k0 : σ.2.2.1 n = 0
  · rw [if_pos k0] at h
    unfold lkText at h
    split at h
    · split at h
      · rw [inl_e h]; exact LA.re n σ
      · cases h
    · cases h
  rw [if_neg k0, if_neg h1] at h
  by_cases k4 : σ.2.2.1 n = 4
  · rw [if_pos k4] at h
    unfold lkSect ifF at h
    split at h
    · cases h
    · rw [inl_e h]; exact LA.re n σ
  rw [if_neg k4, if_neg h5] at h
  by_cases k6 : σ.2.2.1 n = 6
  · rw [if_pos k6] at h
    unfold lkName at h
    by_cases k33 : σ.2.2.1 (fPar A) = 33
    · rw [if_pos k33] at h
      rw [inl_e h]; exact LA.re n σ
    rw [if_neg k33, if_neg (fun z => h6 ⟨k6, z⟩)] at h
    exact lkVar_la k6 h
  rw [if_neg k6] at h
  by_cases k7 : σ.2.2.1 n = 7
  · rw [if_pos k7] at h
    unfold lkPlc at h
    split at h
    · cases h
    · rw [inl_e h]; exact (LA.re n σ).sV _ (chV_of 7 k7 (by decide))
  rw [if_neg k7] at h
  by_cases k9 : σ.2.2.1 n = 9
  · rw [if_pos k9] at h
    unfold lkArr at h
    split at h
    · cases h
    · rw [inl_e h]; exact ((LA.re n σ).sV _ (chV_of 9 k9 (by decide))).sT _ (chTy_of 9 k9 (by decide))
  rw [if_neg k9] at h
  by_cases k10 : σ.2.2.1 n = 10
  · rw [if_pos k10] at h
    unfold lkBtyp at h
    split at h
    · cases h
    · rw [inl_e h]; exact (LA.re n σ).sV _ (chV_of 10 k10 (by decide))
  rw [if_neg k10] at h
  by_cases k23 : σ.2.2.1 n = 23
  · rw [if_pos k23] at h
    unfold lkRung at h
    split at h
    · cases h
    · rw [inl_e h]; exact LA.re n σ
  rw [if_neg k23] at h
  by_cases k25 : σ.2.2.1 n = 25
  · rw [if_pos k25] at h
    split at h
    · rw [inl_e h]; exact LA.re n σ
    · cases h
  rw [if_neg k25] at h
  by_cases k28 : σ.2.2.1 n = 28
  · rw [if_pos k28] at h
    unfold lkCoil at h
    split at h
    · cases h
    split at h
    · cases h
    split at h
    · cases h
    · rw [inl_e h]; exact LA.re n σ
  rw [if_neg k28] at h
  by_cases k29 : σ.2.2.1 n = 29
  · rw [if_pos k29] at h
    unfold lkLink at h
    split at h
    · cases h
    · rw [inl_e h]; exact LA.re n σ
  rw [if_neg k29] at h
  by_cases kx : 23 ≤ σ.2.2.1 n
  · rw [if_pos kx] at h
    exact lkX_la h
  · rw [if_neg kx] at h
    exact lkS_la h
