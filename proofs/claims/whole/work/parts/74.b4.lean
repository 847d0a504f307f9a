/-! THE RULES' INVARIANTS: cells of blocks -/
theorem setC_cB (σ : RS) {b : Nat} (hb : b < σ.1.length) (c : Int32) (e : Nat) : cB (setC σ b c) e = if e = b then c else cB σ e := by
  unfold cB
  rw [setC_at σ hb c e]
  by_cases q : e = b
  · rw [if_pos q, if_pos q]
  · rw [if_neg q, if_neg q]
theorem bump_cB (σ : RS) {b : Nat} (hb : b < σ.1.length) (i e : Nat) : cB (bump σ b i) e = if e = b then cB σ b + 1 else cB σ e := by
  unfold bump
  exact setC_cB (setT σ i (cB σ b)) hb _ e
theorem own1_c {b : Nat} : ∀ (n i : Nat) (σ : RS) (c : Nat), b < σ.1.length → cB σ b = nI c → (∃ d, cB (own1 b n i σ) b = nI d ∧ c ≤ d ∧ d ≤ c + n) ∧ ∀ e, e ≠ b → cB (own1 b n i σ) e = cB σ e
  | 0, i, σ, c, _, h => ⟨⟨c, h, Nat.le_refl _, Nat.le_refl _⟩, fun _ _ => rfl⟩
  | n + 1, i, σ, c, hb, h => by
    have es : own1 b (n + 1) i σ = own1 b n (i + 1) (if σ.2.2.1 i = 16 ∨ σ.2.2.1 i = 19 then bump σ b i else σ) := rfl
    rw [es]
    by_cases q : σ.2.2.1 i = 16 ∨ σ.2.2.1 i = 19
    · rw [if_pos q]
      have hb' : b < (bump σ b i).1.length := by rw [(BY.bump σ b i).1]; exact hb
      obtain ⟨⟨d, d1, d2, d3⟩, o⟩ := own1_c n (i + 1) (bump σ b i) (c + 1) hb' (by rw [bump_cB σ hb, if_pos rfl, h, nI_1])
      refine ⟨⟨d, d1, by omega, by omega⟩, fun e ne => ?_⟩
      rw [o e ne, bump_cB σ hb, if_neg ne]
    · rw [if_neg q]
      obtain ⟨⟨d, d1, d2, d3⟩, o⟩ := own1_c n (i + 1) σ c hb h
      exact ⟨⟨d, d1, d2, by omega⟩, o⟩
theorem own2_c {b : Nat} : ∀ (n i : Nat) (σ : RS) (c : Nat), b < σ.1.length → cB σ b = nI c → (∃ d, cB (own2 b n i σ) b = nI d ∧ c ≤ d ∧ d ≤ c + n) ∧ ∀ e, e ≠ b → cB (own2 b n i σ) e = cB σ e
  | 0, i, σ, c, _, h => ⟨⟨c, h, Nat.le_refl _, Nat.le_refl _⟩, fun _ _ => rfl⟩
  | n + 1, i, σ, c, hb, h => by
    have es : own2 b (n + 1) i σ = own2 b n (i + 1) (if σ.2.2.1 i = 25 ∧ ¬ σ.2.2.2.1 i < 2 then bump σ b i else σ) := rfl
    rw [es]
    by_cases q : σ.2.2.1 i = 25 ∧ ¬ σ.2.2.2.1 i < 2
    · rw [if_pos q]
      have hb' : b < (bump σ b i).1.length := by rw [(BY.bump σ b i).1]; exact hb
      obtain ⟨⟨d, d1, d2, d3⟩, o⟩ := own2_c n (i + 1) (bump σ b i) (c + 1) hb' (by rw [bump_cB σ hb, if_pos rfl, h, nI_1])
      refine ⟨⟨d, d1, by omega, by omega⟩, fun e ne => ?_⟩
      rw [o e ne, bump_cB σ hb, if_neg ne]
    · rw [if_neg q]
      obtain ⟨⟨d, d1, d2, d3⟩, o⟩ := own2_c n (i + 1) σ c hb h
      exact ⟨⟨d, d1, d2, by omega⟩, o⟩
theorem ownC_c {σ : RS} {b : Nat} (hb : b < σ.1.length) {c : Nat} (h : cB σ b = nI c) (i n : Nat) : (∃ d, cB (ownC σ b i n) b = nI d ∧ c ≤ d ∧ d ≤ c + 2 * n + 156) ∧ ∀ e, e ≠ b → cB (ownC σ b i n) e = cB σ e := by
  obtain ⟨⟨d, d1, d2, d3⟩, o1⟩ := own1_c n i σ c hb h
  have hb1 : b < (own1 b n i σ).1.length := by rw [(own1_y b n i σ).1.1]; exact hb
  obtain ⟨⟨f, f1, f2, f3⟩, o2⟩ := own2_c n i (own1 b n i σ) d hb1 d1
  have hb2 : b < (own2 b n i (own1 b n i σ)).1.length := by rw [(own2_y b n i _).1.1]; exact hb1
  unfold ownC
  refine ⟨?_, fun e ne => ?_⟩
  · rw [setC_cB _ hb2, if_pos rfl, f1]
    split
    · exact ⟨f, nI_add f 0, by omega, by omega⟩
    · exact ⟨f + 156, nI_add f 156, by omega, by omega⟩
  · rw [setC_cB _ hb2, if_neg ne, o2 e ne, o1 e ne]
