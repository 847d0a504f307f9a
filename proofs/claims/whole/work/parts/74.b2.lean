/-! THE RULES' INVARIANTS: names of a block's variables differ -/
theorem qN_5 {m0 : yM} {T : Nat} {F : List ND} (hK : K37 F) (h0 : kK F 0 = 0) {N : Nat} {A : List Nat} {n : Nat} {s : SU} (hp : PA m0 T F N A n) (h1 : P1 F (A ++ [n]) (n + szF F n) s) (k5 : kK F n = 5) : qN F (A ++ [n]) (n + szF F n) = dcT0 F s.1 n - n - 1 := by
  obtain ⟨b, g, eA, kb, kg, gb, ng⟩ := hp.dcl h0 k5
  obtain ⟨k, e0, t, d1, d2, d3, d4, d5, d6, d7, d8⟩ := dcl_s hp.1 k5
  obtain ⟨c1, c2, c3⟩ := dcT0_e hK hp.1 h1 d2 d3 d8
  unfold qN
  have gn : (A ++ [n]).getD 3 0 = n := by rw [eA]; rfl
  have pB : 4 ≤ (A ++ [n]).length ∧ kK F ((A ++ [n]).getD 3 0) = 5 := ⟨by rw [eA]; exact Nat.le_refl 4, by rw [gn]; exact k5⟩
  have f0 : ((A ++ [n]).filter (b6 F)).length = 0 := by
    have nb : ∀ x, x ∈ A ++ [n] → ¬ b6 F x = true := by
      intro x hx z
      have z := decide_eq_true_iff.mp z
      rw [eA] at hx
      rcases List.mem_append.mp hx with y | y
      · rcases List.mem_cons.mp y with y | y
        · rw [y, h0] at z; omega
        · rcases List.mem_cons.mp y with y | y
          · rw [y] at z; omega
          · rw [List.mem_singleton.mp y] at z; omega
      · rw [List.mem_singleton.mp y] at z; omega
    rw [List.filter_eq_nil_iff.mpr nb]
    rfl
  rw [if_pos pB, gn, f0, c2, c1]
  omega
def P4 (s : SU) : Prop := ∀ b v w, b < s.1.1.length → (s.1.1.getD b dBK).2.2.2.2 ≤ v → v < w → w < endV s.1 b → ¬ (s.1.2.1.getD v dVK).1 = (s.1.2.1.getD w dVK).1
theorem BY.ev {σ σ' : RS} (h : BY σ σ') (l : σ'.2.1.length = σ.2.1.length) (b : Nat) : endV σ' b = endV σ b := by
  unfold endV
  rw [h.1, l, (h.2 (b + 1)).2.2.2]
theorem P4.s {s : SU} {σ' : RS} {U : Nat → Bool} (h : P4 s) (b : BY s.1 σ') (l : σ'.2.1.length = s.1.2.1.length) (hn : ∀ u, (σ'.2.1.getD u dVK).1 = (s.1.2.1.getD u dVK).1) : P4 (σ', U) := by
  intro c v w h1 h2 h3 h4
  have h1 : c < σ'.1.length := h1
  have h2 : (σ'.1.getD c dBK).2.2.2.2 ≤ v := h2
  have h4 : w < endV σ' c := h4
  rw [b.1] at h1
  rw [(b.2 c).2.2.2] at h2
  rw [b.ev l] at h4
  show ¬ (σ'.2.1.getD v dVK).1 = (σ'.2.1.getD w dVK).1
  rw [hn, hn]
  exact h c v w h1 h2 h3 h4
theorem P4.b {F : List ND} {n : Nat} {s : SU} {σ : RS} (hf : ∀ b, b < s.1.1.length → (s.1.1.getD b dBK).2.2.2.2 ≤ s.1.2.1.length) (hm : ∀ b, b + 1 < s.1.1.length → (s.1.1.getD (b + 1) dBK).2.2.2.2 ≤ s.1.2.1.length) (h : P4 s) (e : jb s n = .inl σ) : P4 (σ, s.2) := by
  unfold jb at e
  split at e
  · unfold lkBeg at e
    split at e
    · cases e
    split at e
    · cases e
    · have e' := inl_e e
      obtain ⟨y1, y2, y3, y4, y5, y6, y7⟩ := beg_y s.1 n (s.1.2.2.1 n) (s.1.2.2.2.1 n)
      have yv := beg_v s.1 n (s.1.2.2.1 n) (s.1.2.2.2.1 n)
      have ya := beg_at s.1 n (s.1.2.2.1 n) (s.1.2.2.2.1 n)
      rw [← e'] at y1 y5 y7 yv ya
      unfold curB at y5
      rw [y1, show s.1.1.length + 1 - 1 = s.1.1.length by omega] at y5
      intro b v w h1 h2 h3 h4
      have h1 : b < σ.1.length := h1
      have h2 : (σ.1.getD b dBK).2.2.2.2 ≤ v := h2
      have h4 : w < endV σ b := h4
      show ¬ (σ.2.1.getD v dVK).1 = (σ.2.1.getD w dVK).1
      rw [y1] at h1
      by_cases xb : b < s.1.1.length
      · rw [y7 b xb] at h2
        have ee : endV σ b = endV s.1 b := by
          unfold endV
          rw [y1, if_pos (by omega)]
          by_cases x2 : b + 1 < s.1.1.length
          · rw [if_pos x2, y7 _ x2]
          · rw [if_neg x2, show b + 1 = s.1.1.length by omega, y5]
        rw [ee] at h4
        have le : endV s.1 b ≤ s.1.2.1.length := by
          unfold endV
          split
          · rename_i z; exact hm b z
          · exact Nat.le_refl _
        rw [ya, ya, if_neg (fun z => by omega), if_neg (fun z => by omega)]
        exact h b v w xb h2 h3 h4
      · have eb : b = s.1.1.length := by omega
        subst eb
        rw [y5] at h2
        have ee : endV σ s.1.1.length = σ.2.1.length := by
          unfold endV
          rw [y1, if_neg (by omega)]
        rw [ee, yv] at h4
        split at h4 <;> omega
  · have e' := inl_e e
    subst e'
    exact h
theorem fVar_n {σ : RS} (h4 : σ.2.1.length ≤ 4096) (hf : (curB σ).2.2.2.2 ≤ σ.2.1.length) {x : Int32} (h : fVar σ x = -1) : ∀ v, (curB σ).2.2.2.2 ≤ v → v < σ.2.1.length → ¬ (σ.2.1.getD v dVK).1 = x := by
  intro v h1 h2 e
  obtain ⟨z, z1, z2, z3⟩ := lix_v σ.2.1 x σ.2.1.length v h2 e
  unfold fVar at h
  rw [z1] at h
  by_cases c : nI z < nI (curB σ).2.2.2.2
  · have := (nI_ltI (by omega) (by omega)).mp c
    omega
  · rw [if_neg c] at h
    exact nI_m1 (by omega) h
theorem P4.l {m0 : yM} {T : Nat} {F : List ND} (hK : K37 F) (h0 : kK F 0 = 0) (hV : ∀ i, i ≤ F.length → cntF (vB F) i ≤ 4096) {N : Nat} {A : List Nat} {n : Nat} {s : SU} {σ' : RS} (hp : PA m0 T F N A n) (h1 : P1 F (A ++ [n]) (n + szF F n) s) (h2 : P2 F (A ++ [n]) (n + szF F n) s) (h3 : P3 F (A ++ [n]) (n + szF F n) s) (h : P4 s) (e : lk F A s.1 s.2 n = .inl σ') : P4 (σ', nU s.1 s.2 n) := by
  have hn := hp.lt.1
  have k37 := hp.1.k37
  have nA : n ∈ A ++ [n] := List.mem_append_right _ List.mem_cons_self
  have kn := (h1.1 n hn (Or.inr nA)).1
  have by' := (lk_ef e (fun z => by
    rw [kn] at z
    exact (h1.2.2.2.2 n nA ((ch37e _ k37).mp z)).2.1)).2.2.2.2
  have v4 : s.1.2.1.length ≤ 4096 := by
    have := hV (n + szF F n) hp.1.at.1
    have := h2.2.1
    omega
  by_cases k5 : s.1.2.2.1 n = 5
  · obtain ⟨l1, -, -⟩ := lk_5 e k5
    have kk : kK F n = 5 := by rw [kn] at k5; exact (nI_eq (b := 5) (by omega) (by omega)).mp k5
    have q := qN_5 hK h0 hp h1 kk
    have le := h3.1
    rw [q] at le
    refine h.s by' (by rw [l1]; unfold dcS; exact (dsL_len _ _ _ _ _ _ _).2.1) (fun u => ?_)
    rw [l1]
    unfold dcS
    exact (dsL_v _ _ _ _ _ _ _ (by omega) u).1
  · by_cases k6 : s.1.2.2.1 n = 6 ∧ s.1.2.2.1 (fPar A) = 5
    · obtain ⟨l1, f1, -, -⟩ := lk_6 e k6.1 k6.2
      intro b v w x1 x2 x3 x4
      have x1 : b < σ'.1.length := x1
      have x2 : (σ'.1.getD b dBK).2.2.2.2 ≤ v := x2
      have x4 : w < endV σ' b := x4
      show ¬ (σ'.2.1.getD v dVK).1 = (σ'.2.1.getD w dVK).1
      have eb : σ'.1 = s.1.1 := by rw [l1]; rfl
      rw [eb] at x1 x2
      have ln : σ'.2.1.length = s.1.2.1.length + 1 := by
        rw [l1]
        show (s.1.2.1 ++ [(s.1.2.2.2.1 n, none)]).length = _
        rw [List.length_append]
        rfl
      have at' : ∀ u, σ'.2.1.getD u dVK = if u = s.1.2.1.length then (s.1.2.2.2.1 n, none) else s.1.2.1.getD u dVK := fun u => by rw [l1]; exact decl_at _ _ u
      rw [at', at']
      unfold endV at x4
      rw [eb] at x4
      by_cases c : b + 1 < s.1.1.length
      · rw [if_pos c] at x4
        have := h2.2.2.2.1 (b + 1) c
        rw [if_neg (by omega), if_neg (by omega)]
        refine h b v w x1 x2 x3 ?_
        unfold endV
        rw [if_pos c]
        exact x4
      · rw [if_neg c, ln] at x4
        rw [if_neg (show ¬ v = s.1.2.1.length by omega)]
        have cb : curB s.1 = s.1.1.getD b dBK := by unfold curB; rw [show s.1.1.length - 1 = b by omega]
        by_cases ew : w = s.1.2.1.length
        · rw [if_pos ew]
          exact fVar_n v4 (by rw [cb]; exact h2.2.2.2.1 b x1) f1 v (by rw [cb]; exact x2) (by omega)
        · rw [if_neg ew]
          refine h b v w x1 x2 x3 ?_
          unfold endV
          rw [if_neg c]
          omega
    · have vs := lk_v e k5 k6
      exact h.s by' (by rw [vs]) (fun u => by rw [vs])
