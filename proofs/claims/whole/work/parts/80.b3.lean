/-! THE RULES' INVARIANTS: where cells lie: instances are of earlier blocks, all cells fit -/
def P29 (F : List ND) (s : SU) : Prop := ∀ b v y, b < s.1.1.length → (s.1.1.getD b dBK).2.2.2.2 ≤ v → v < endV s.1 b → (s.1.2.1.getD v dVK).2 = some y → kK F y.2.1 = 10 → ∃ k, s.1.2.2.2.1 y.2.1 = nI k ∧ (k < 9 ∨ (9 ≤ k ∧ k - 9 < b))
theorem P29.b {m0 : yM} {T : Nat} {F : List ND} {N : Nat} {A : List Nat} {n : Nat} {s : SU} {σ : RS} (hp : PA m0 T F N A n) (h1 : P1 F A n s) (h2 : P2 F A n s) (h : P29 F s) (e : jb s n = .inl σ) : P29 F (σ, s.2) := by
  have kn := (h1.1 n hp.lt.1 (Or.inl (Nat.le_refl _))).1
  have k37 := hp.1.k37
  unfold jb at e
  by_cases q : bkN (s.1.2.2.1 n)
  · rw [if_pos q] at e
    unfold lkBeg at e
    split at e
    · cases e
    split at e
    · cases e
    · have e' := inl_e e
      obtain ⟨y1, y2, y3, y4, y5, y6, y7⟩ := beg_y s.1 n (s.1.2.2.1 n) (s.1.2.2.2.1 n)
      have ya := beg_at s.1 n (s.1.2.2.1 n) (s.1.2.2.2.1 n)
      rw [← e'] at y1 y5 y6 y7 ya
      have k5 : (σ.1.getD s.1.1.length dBK).2.2.2.2 = s.1.2.1.length := by
        unfold curB at y5
        rw [y1, Nat.add_sub_cancel] at y5
        exact y5
      intro x v y hx hf hv hy kt
      have hx : x < σ.1.length := hx
      have hf : (σ.1.getD x dBK).2.2.2.2 ≤ v := hf
      have hv : v < endV σ x := hv
      have hy : (σ.2.1.getD v dVK).2 = some y := hy
      show ∃ k, σ.2.2.2.1 y.2.1 = nI k ∧ (k < 9 ∨ (9 ≤ k ∧ k - 9 < x))
      rw [y6]
      rw [y1] at hx
      rw [ya] at hy
      by_cases c : s.1.2.2.1 n = 1 ∧ v = s.1.2.1.length
      · exfalso
        rw [if_pos c] at hy
        rw [← Option.some.inj hy] at kt
        have k1 : kK F n = 1 := by have := c.1; rw [kn] at this; exact (nI_eq (b := 1) (by omega) (by omega)).mp this
        have := (fun_8 hp.1 k1).2.1
        have kt : kK F (n + 1) = 10 := kt
        omega
      · rw [if_neg c] at hy
        have lt := V_lt hy
        by_cases z : x < s.1.1.length
        · rw [y7 x z] at hf
          refine h x v y z hf ?_ hy kt
          unfold endV at hv ⊢
          rw [y1] at hv
          by_cases z2 : x + 1 < s.1.1.length
          · rw [if_pos (by omega), y7 _ z2] at hv
            rw [if_pos z2]
            exact hv
          · rw [if_neg z2]
            exact lt
        · have : x = s.1.1.length := by omega
          rw [this, k5] at hf
          omega
  · rw [if_neg q] at e
    have es : (σ, s.2) = s := by rw [inl_e e]
    rw [es]
    exact h
theorem P29.l {m0 : yM} {T : Nat} {F : List ND} (hF : HF m0 T F) {N : Nat} {A : List Nat} {n : Nat} {s : SU} {σ' : RS} (hp : PA m0 T F N A n) (hq : PAll F (A ++ [n]) (n + szF F n) s) (h27 : P27 F (A ++ [n]) (n + szF F n) s) (h : P29 F s) (e : lk F A s.1 s.2 n = .inl σ') : P29 F (σ', nU s.1 s.2 n) := by
  obtain ⟨h1, h2, h3, h3b, h4, h5, h6, h7, h8, h9, h10, h11⟩ := hq.1
  have hK := hF.2.1
  have h0 := hF.2.2.1
  have hn := hp.lt.1
  have k37 := hp.1.k37
  have at' := hp.1.at
  have nA : n ∈ A ++ [n] := List.mem_append_right _ List.mem_cons_self
  obtain ⟨kn, vn, tn⟩ := h1.1 n hn (Or.inr nA)
  have e6 := lk_ef e (fun z => by
    rw [kn] at z
    exact (h1.2.2.2.2 n nA ((ch37e _ k37).mp z)).2.1)
  have by' := e6.2.2.2.2
  -- a variable that was described
  have old : ∀ x v y, x < s.1.1.length → (s.1.1.getD x dBK).2.2.2.2 ≤ v → v < endV σ' x → (s.1.2.1.getD v dVK).2 = some y → kK F y.2.1 = 10 → ∃ k, σ'.2.2.2.1 y.2.1 = nI k ∧ (k < 9 ∨ (9 ≤ k ∧ k - 9 < x)) := by
    intro x v y hx hf hv hy kt
    rw [(P5.t hp h1 h5 e hy).2.1]
    refine h x v y hx hf ?_ hy kt
    have lt := V_lt hy
    unfold endV at hv ⊢
    rw [by'.1] at hv
    by_cases z : x + 1 < s.1.1.length
    · rw [if_pos z] at hv ⊢
      rw [(by'.2 _).2.2.2] at hv
      exact hv
    · rw [if_neg z]
      exact lt
  intro x v y hx hf hv hy kt
  have hx : x < σ'.1.length := hx
  have hf : (σ'.1.getD x dBK).2.2.2.2 ≤ v := hf
  have hv : v < endV σ' x := hv
  have hy : (σ'.2.1.getD v dVK).2 = some y := hy
  rw [by'.1] at hx
  rw [(by'.2 x).2.2.2] at hf
  show ∃ k, σ'.2.2.2.1 y.2.1 = nI k ∧ (k < 9 ∨ (9 ≤ k ∧ k - 9 < x))
  by_cases k5 : s.1.2.2.1 n = 5
  · have kk : kK F n = 5 := by rw [kn] at k5; exact (nI_eq (b := 5) (by omega) (by omega)).mp k5
    obtain ⟨l1, l2, l3⟩ := lk_5 e k5
    obtain ⟨k, t, b, g, eA, kb, kg, k1', c1, et, t1, t2, t3, t4, t5, t6, t7, qk⟩ := dcl_f hK h0 hp h1 kk
    have le := h3.1
    rw [qk] at le
    have bA : b ∈ A := by rw [eA]; simp
    have B0 : 0 < s.1.1.length := (h1.2.2.2.2 b (List.mem_append_left _ bA) kb).1
    have fb := h3b B0
    rw [qk] at fb
    have gA : fPar A = g ∧ g ∈ A := by rw [eA]; exact ⟨rfl, by simp⟩
    have ed : σ' = dsL (dcAt F s.1 n) t (s.1.2.2.2.1 g) (dcIni F s.1 n) k (s.1.2.1.length - k) s.1 := by
      rw [l1]
      unfold dcS
      rw [c1, et, gA.1, show n + 1 + k - n - 1 = k by omega]
    have dv := dsL_v (dcAt F s.1 n) t (s.1.2.2.2.1 g) (dcIni F s.1 n) k (s.1.2.1.length - k) s.1 (by omega)
    rw [← ed] at dv
    have tA : t ∉ A ++ [n] := by
      intro z
      rcases List.mem_append.mp z with y | y
      · have := (hp.2.2 t y).1
        omega
      · have := List.mem_singleton.mp y
        omega
    by_cases nv : s.1.2.1.length - k ≤ v
    · have len : σ'.2.1.length = s.1.2.1.length := by rw [ed]; exact (dsL_len _ _ _ _ _ _ _).2.1
      have lt := V_lt hy
      rw [len] at lt
      obtain ⟨cc, hx2⟩ := (dv v).2.2 (by omega)
      rw [hx2] at hy
      rw [← Option.some.inj hy] at kt ⊢
      have kt : kK F t = 10 := kt
      obtain ⟨q, q1, q2⟩ := h27 t (by omega) t2 tA kt
      refine ⟨q, by show σ'.2.2.2.1 t = _; rw [(e6.1 t (by omega)).2]; exact q1, ?_⟩
      -- the last block
      have xl : x + 1 = s.1.1.length := by
        rcases Nat.lt_or_ge (x + 1) s.1.1.length with w | w
        · exfalso
          unfold endV at hv
          rw [by'.1, if_pos w, (by'.2 _).2.2.2] at hv
          have := h2.fm (b := x + 1) (s.1.1.length - 1) (by omega) (by omega)
          have fb : (s.1.1.getD (s.1.1.length - 1) dBK).2.2.2.2 + k ≤ s.1.2.1.length := fb
          omega
        · omega
      omega
    · rw [(dv v).2.1 (by omega)] at hy
      exact old x v y hx hf hv hy kt
  · by_cases k6 : s.1.2.2.1 n = 6 ∧ s.1.2.2.1 (fPar A) = 5
    · obtain ⟨l1, -⟩ := lk_6 e k6.1 k6.2
      have hy' := hy
      rw [l1, decl_at] at hy'
      split at hy'
      · cases hy'
      · exact old x v y hx hf hv hy' kt
    · have hy' := hy
      rw [lk_v e k5 k6] at hy'
      exact old x v y hx hf hv hy' kt
def P25 (A : List Nat) (i : Nat) (s : SU) : Prop := A = [] → 0 < i → bsA s.1 (s.1.1.length - 1) ≤ 8192
theorem P25.l {m0 : yM} {T : Nat} {F : List ND} (hF : HF m0 T F) {N : Nat} {A : List Nat} {n : Nat} {s : SU} {σ' : RS} (hp : PA m0 T F N A n) (h1 : P1 F (A ++ [n]) (n + szF F n) s) (e : lk F A s.1 s.2 n = .inl σ') : P25 A (n + szF F n) (σ', nU s.1 s.2 n) := by
  intro hA _
  have nA : n ∈ A ++ [n] := List.mem_append_right _ List.mem_cons_self
  obtain ⟨kn, -, -⟩ := h1.1 n hp.lt.1 (Or.inr nA)
  have n0 : n = 0 := by
    rcases hp.up with ⟨-, y⟩ | ⟨B, p, M, y, -⟩
    · exact y
    · rw [hA] at y
      have := congrArg List.length y
      rw [List.length_append, List.length_nil, List.length_singleton] at this
      omega
  have k0 : s.1.2.2.1 n = 0 := by rw [kn, n0, hF.2.2.1]; rfl
  unfold lk at e
  rw [if_pos k0] at e
  unfold lkText at e
  split at e
  · split at e
    · rename_i q
      rw [inl_e e]
      exact q
    · cases e
  · cases e
/-- where cells lie, behind the rules -/
theorem jn_26 {m0 : yM} {T N : Nat} {F : List ND} (hF : HF m0 T F) (hW : TW m0 T F N 0) (hz : szF F 0 = F.length) {s : SU} (e : jn F N [] 0 (sg0 F) = .inl s) : P26 s ∧ P27 F [] F.length s ∧ P29 F s ∧ bsA s.1 (s.1.1.length - 1) ≤ 8192 := by
  have := jn_ind (P := fun A i s => PAll F A i s ∧ P27 F A i s ∧ P28 F A i s ∧ P26 s ∧ P29 F s ∧ P25 A i s) (m0 := m0) (T := T) (F := F) (fun N A n s σ hp h e => ⟨PAll.b hF hp h.1 e, P27.b h.2.1 e, P28.b hF.2.2.1 hp h.1.1.1 h.2.2.1 e, P26.b hF hp h.1.1 h.2.1 h.2.2.2.1 e, P29.b hp h.1.1.1 h.1.1.2.1 h.2.2.2.2.1 e, fun z => by simp at z⟩) (fun N A n s σ' hp h e => ⟨PAll.l hF hp h.1 e, P27.l hF hp h.1 h.2.1 e, P28.l hF hp h.1 h.2.2.1 e, P26.l hF hp h.1 h.2.1 h.2.2.1 h.2.2.2.1 e, P29.l hF hp h.1 h.2.1 h.2.2.2.2.1 e, P25.l hF hp h.1.1.1 e⟩) N [] 0 (sg0 F) ⟨hW, rfl, fun p hp => by cases hp⟩ ⟨PAll.z (fun j hj => hF.1.k hj), fun j _ hj => absurd hj (Nat.not_lt_zero _), fun z => absurd z.1 (Nat.lt_irrefl _), fun b v y hb => absurd hb (Nat.not_lt_zero _), fun b v y hb => absurd hb (Nat.not_lt_zero _), fun _ z => absurd z (Nat.lt_irrefl _)⟩ s e
  rw [hz, Nat.zero_add] at this
  exact ⟨this.2.2.2.1, this.2.1, this.2.2.2.2.1, this.2.2.2.2.2 rfl (by have := hW.at; omega)⟩
