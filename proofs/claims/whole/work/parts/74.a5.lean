/-! THE RULES' INVARIANTS: nodes -/
/-- blocks keep kind, node, name, first variable -/
def BY (σ σ' : RS) : Prop := σ'.1.length = σ.1.length ∧ ∀ b, (σ'.1.getD b dBK).1 = (σ.1.getD b dBK).1 ∧ (σ'.1.getD b dBK).2.1 = (σ.1.getD b dBK).2.1 ∧ (σ'.1.getD b dBK).2.2.1 = (σ.1.getD b dBK).2.2.1 ∧ (σ'.1.getD b dBK).2.2.2.2 = (σ.1.getD b dBK).2.2.2.2
theorem BY.re (σ : RS) : BY σ σ := ⟨rfl, fun _ => ⟨rfl, rfl, rfl, rfl⟩⟩
theorem BY.tr {σ σ1 σ2 : RS} (h : BY σ σ1) (h2 : BY σ1 σ2) : BY σ σ2 := ⟨h2.1.trans h.1, fun b => ⟨(h2.2 b).1.trans (h.2 b).1, (h2.2 b).2.1.trans (h.2 b).2.1, (h2.2 b).2.2.1.trans (h.2 b).2.2.1, (h2.2 b).2.2.2.trans (h.2 b).2.2.2⟩⟩
theorem BY.e {σ σ' : RS} (h : σ'.1 = σ.1) : BY σ σ' := ⟨by rw [h], fun b => by rw [h]; exact ⟨rfl, rfl, rfl, rfl⟩⟩
theorem BY.sc (σ : RS) (b : Nat) (c : Int32) : BY σ (setC σ b c) := by
  refine ⟨setC_l σ b c, fun e => ?_⟩
  by_cases hb : b < σ.1.length
  · rw [setC_at σ hb c e]
    by_cases q : e = b
    · subst q
      rw [if_pos rfl]
      exact ⟨rfl, rfl, rfl, rfl⟩
    · rw [if_neg q]
      exact ⟨rfl, rfl, rfl, rfl⟩
  · have : (setC σ b c).1 = σ.1 := List.set_eq_of_length_le (by omega)
    rw [this]
    exact ⟨rfl, rfl, rfl, rfl⟩
theorem BY.c {σ σ' : RS} (h : BY σ σ') : (curB σ').1 = (curB σ).1 ∧ (curB σ').2.1 = (curB σ).2.1 ∧ (curB σ').2.2.1 = (curB σ).2.2.1 ∧ (curB σ').2.2.2.2 = (curB σ).2.2.2.2 := by
  unfold curB
  rw [h.1]
  exact h.2 _
theorem BY.bump (σ : RS) (b i : Nat) : BY σ (bump σ b i) := (BY.e (σ := σ) (σ' := setT σ i (cB σ b)) rfl).tr (BY.sc _ _ _)
theorem own1_y (b : Nat) : ∀ n i σ, BY σ (own1 b n i σ) ∧ (own1 b n i σ).2.1 = σ.2.1 ∧ (own1 b n i σ).2.2.1 = σ.2.2.1 ∧ (own1 b n i σ).2.2.2.1 = σ.2.2.2.1 ∧ ∀ j, (own1 b n i σ).2.2.2.2 j = σ.2.2.2.2 j ∨ (i ≤ j ∧ j < i + n ∧ (σ.2.2.1 j = 16 ∨ σ.2.2.1 j = 19))
  | 0, i, σ => ⟨BY.re σ, rfl, rfl, rfl, fun j => Or.inl rfl⟩
  | n + 1, i, σ => by
    have es : own1 b (n + 1) i σ = own1 b n (i + 1) (if σ.2.2.1 i = 16 ∨ σ.2.2.1 i = 19 then bump σ b i else σ) := rfl
    rw [es]
    by_cases q : σ.2.2.1 i = 16 ∨ σ.2.2.1 i = 19
    · rw [if_pos q]
      obtain ⟨h1, h2, h3, h4, h5⟩ := own1_y b n (i + 1) (bump σ b i)
      refine ⟨(BY.bump σ b i).tr h1, h2, h3, h4, fun j => ?_⟩
      rcases h5 j with y | ⟨y1, y2, y3⟩
      · by_cases e : j = i
        · subst e; exact Or.inr ⟨Nat.le_refl _, by omega, q⟩
        · exact Or.inl (y.trans (upI_o _ _ e))
      · exact Or.inr ⟨by omega, by omega, y3⟩
    · rw [if_neg q]
      obtain ⟨h1, h2, h3, h4, h5⟩ := own1_y b n (i + 1) σ
      refine ⟨h1, h2, h3, h4, fun j => ?_⟩
      rcases h5 j with y | ⟨y1, y2, y3⟩
      · exact Or.inl y
      · exact Or.inr ⟨by omega, by omega, y3⟩
theorem own2_y (b : Nat) : ∀ n i σ, BY σ (own2 b n i σ) ∧ (own2 b n i σ).2.1 = σ.2.1 ∧ (own2 b n i σ).2.2.1 = σ.2.2.1 ∧ (own2 b n i σ).2.2.2.1 = σ.2.2.2.1 ∧ ∀ j, (own2 b n i σ).2.2.2.2 j = σ.2.2.2.2 j ∨ (i ≤ j ∧ j < i + n ∧ σ.2.2.1 j = 25)
  | 0, i, σ => ⟨BY.re σ, rfl, rfl, rfl, fun j => Or.inl rfl⟩
  | n + 1, i, σ => by
    have es : own2 b (n + 1) i σ = own2 b n (i + 1) (if σ.2.2.1 i = 25 ∧ ¬ σ.2.2.2.1 i < 2 then bump σ b i else σ) := rfl
    rw [es]
    by_cases q : σ.2.2.1 i = 25 ∧ ¬ σ.2.2.2.1 i < 2
    · rw [if_pos q]
      obtain ⟨h1, h2, h3, h4, h5⟩ := own2_y b n (i + 1) (bump σ b i)
      refine ⟨(BY.bump σ b i).tr h1, h2, h3, h4, fun j => ?_⟩
      rcases h5 j with y | ⟨y1, y2, y3⟩
      · by_cases e : j = i
        · subst e; exact Or.inr ⟨Nat.le_refl _, by omega, q.1⟩
        · exact Or.inl (y.trans (upI_o _ _ e))
      · exact Or.inr ⟨by omega, by omega, y3⟩
    · rw [if_neg q]
      obtain ⟨h1, h2, h3, h4, h5⟩ := own2_y b n (i + 1) σ
      refine ⟨h1, h2, h3, h4, fun j => ?_⟩
      rcases h5 j with y | ⟨y1, y2, y3⟩
      · exact Or.inl y
      · exact Or.inr ⟨by omega, by omega, y3⟩
theorem ownC_y (σ : RS) (b i n : Nat) : BY σ (ownC σ b i n) ∧ (ownC σ b i n).2.1 = σ.2.1 ∧ (ownC σ b i n).2.2.1 = σ.2.2.1 ∧ (ownC σ b i n).2.2.2.1 = σ.2.2.2.1 ∧ ∀ j, (ownC σ b i n).2.2.2.2 j = σ.2.2.2.2 j ∨ (i ≤ j ∧ j < i + n ∧ (σ.2.2.1 j = 16 ∨ σ.2.2.1 j = 19 ∨ σ.2.2.1 j = 25)) := by
  obtain ⟨a1, a2, a3, a4, a5⟩ := own1_y b n i σ
  obtain ⟨b1, b2, b3, b4, b5⟩ := own2_y b n i (own1 b n i σ)
  unfold ownC
  refine ⟨(a1.tr b1).tr (BY.sc _ _ _), b2.trans a2, b3.trans a3, b4.trans a4, fun j => ?_⟩
  rcases b5 j with y | ⟨y1, y2, y3⟩
  · rcases a5 j with z | ⟨z1, z2, z3⟩
    · exact Or.inl (y.trans z)
    · refine Or.inr ⟨z1, z2, ?_⟩
      rcases z3 with z3 | z3
      · exact Or.inl z3
      · exact Or.inr (Or.inl z3)
  · rw [a3] at y3
    exact Or.inr ⟨y1, y2, Or.inr (Or.inr y3)⟩
theorem dsL_y (at_ : Int32) (tn : Nat) (sec ini : Int32) : ∀ k v σ, BY σ (dsL at_ tn sec ini k v σ)
  | 0, v, σ => BY.re σ
  | k + 1, v, σ => by
    have es : dsL at_ tn sec ini (k + 1) v σ = dsL at_ tn sec ini k (v + 1) (if at_ = -1 then setC (setVr σ v (sec, tn, ini, (curB σ).2.2.2.1)) (σ.1.length - 1) ((curB σ).2.2.2.1 + szT (setVr σ v (sec, tn, ini, (curB σ).2.2.2.1)) tn) else setVr σ v (sec, tn, ini, at_)) := rfl
    rw [es]
    refine BY.tr ?_ (dsL_y at_ tn sec ini k (v + 1) _)
    split
    · exact (BY.e (σ := σ) (σ' := setVr σ v (sec, tn, ini, (curB σ).2.2.2.1)) rfl).tr (BY.sc _ _ _)
    · exact BY.e rfl
theorem beg_y (σ : RS) (n : Nat) (k nm : Int32) : (beg σ n k nm).1.length = σ.1.length + 1 ∧ (curB (beg σ n k nm)).1 = k ∧ (curB (beg σ n k nm)).2.1 = n ∧ (curB (beg σ n k nm)).2.2.1 = nm ∧ (curB (beg σ n k nm)).2.2.2.2 = σ.2.1.length ∧ (beg σ n k nm).2.2 = σ.2.2 ∧ ∀ b, b < σ.1.length → (beg σ n k nm).1.getD b dBK = σ.1.getD b dBK := by
  have c0 : (beg0 σ n k nm).1.length = σ.1.length + 1 := by simp [beg0]
  have e0 : (beg0 σ n k nm).1.getD σ.1.length dBK = (k, n, nm, if k = 3 then 960 else 0, σ.2.1.length) := by simp [beg0]
  have o0 : ∀ b, b < σ.1.length → (beg0 σ n k nm).1.getD b dBK = σ.1.getD b dBK := by
    intro b hb
    simp [beg0, List.getElem?_append_left hb]
  unfold beg
  by_cases q : k = 1
  · rw [if_pos q]
    have y := BY.sc (setVr (decl (beg0 σ n k nm) nm) σ.2.1.length (3, n + 1, 0, 0)) σ.1.length 1
    have l1 : (setVr (decl (beg0 σ n k nm) nm) σ.2.1.length (3, n + 1, 0, 0)).1 = (beg0 σ n k nm).1 := rfl
    have cl := y.1
    rw [l1, c0] at cl
    have hb := y.2 σ.1.length
    rw [l1, e0] at hb
    refine ⟨cl, ?_, ?_, ?_, ?_, rfl, fun b hb' => ?_⟩
    · unfold curB; rw [cl]; exact hb.1
    · unfold curB; rw [cl]; exact hb.2.1
    · unfold curB; rw [cl]; exact hb.2.2.1
    · unfold curB; rw [cl]; exact hb.2.2.2
    · rw [setC_at _ (show σ.1.length < (setVr (decl (beg0 σ n k nm) nm) σ.2.1.length (3, n + 1, 0, 0)).1.length by rw [l1, c0]; omega), if_neg (by omega), l1]
      exact o0 b hb'
  · rw [if_neg q]
    refine ⟨c0, ?_, ?_, ?_, ?_, rfl, o0⟩
    · unfold curB; rw [c0]; show ((beg0 σ n k nm).1.getD σ.1.length dBK).1 = _; rw [e0]
    · unfold curB; rw [c0]; show ((beg0 σ n k nm).1.getD σ.1.length dBK).2.1 = _; rw [e0]
    · unfold curB; rw [c0]; show ((beg0 σ n k nm).1.getD σ.1.length dBK).2.2.1 = _; rw [e0]
    · unfold curB; rw [c0]; show ((beg0 σ n k nm).1.getD σ.1.length dBK).2.2.2.2 = _; rw [e0]
