/-! THE RULES' INVARIANTS: a FUNCTION's variables -/
def P34 (F : List ND) (s : SU) : Prop := ∀ b v y, b < s.1.1.length → (s.1.1.getD b dBK).1 = 1 → (s.1.1.getD b dBK).2.2.2.2 ≤ v → v < endV s.1 b → (s.1.2.1.getD v dVK).2 = some y → ¬ kK F y.2.1 = 10
def P35 (F : List ND) (A : List Nat) (i : Nat) (s : SU) : Prop := ∀ j, j < F.length → j < i → j ∉ A → kK F j = 10 → 0 < s.1.1.length → nB s (s.1.1.length - 1) ≤ j → ¬ (s.1.1.getD (s.1.1.length - 1) dBK).1 = 1
def P36 (s : SU) : Prop := ∀ b, b + 1 < s.1.1.length → (s.1.1.getD b dBK).1 = 1 → (s.1.1.getD b dBK).2.2.2.2 < (s.1.1.getD (b + 1) dBK).2.2.2.2
theorem P34.b {m0 : yM} {T : Nat} {F : List ND} {N : Nat} {A : List Nat} {n : Nat} {s : SU} {σ : RS} (hp : PA m0 T F N A n) (h1 : P1 F A n s) (h11 : P11 s) (h : P34 F s) (h35 : P35 F A n s) (h36 : P36 s) (e : jb s n = .inl σ) : P34 F (σ, s.2) ∧ P35 F (A ++ [n]) (n + 1) (σ, s.2) ∧ P36 (σ, s.2) := by
  have kn := (h1.1 n hp.lt.1 (Or.inl (Nat.le_refl _))).1
  have k37 := hp.1.k37
  unfold jb at e
  by_cases q : bkN (s.1.2.2.1 n)
  · rw [if_pos q] at e
    unfold lkBeg at e
    split at e
    · cases e
    split at e
    · cases e
    · have e' := inl_e e
      obtain ⟨y1, y2, y3, y4, y5, y6, y7⟩ := beg_y s.1 n (s.1.2.2.1 n) (s.1.2.2.2.1 n)
      have ya := beg_at s.1 n (s.1.2.2.1 n) (s.1.2.2.2.1 n)
      rw [← e'] at y1 y3 y5 y6 y7 ya
      have k5 : (σ.1.getD s.1.1.length dBK).2.2.2.2 = s.1.2.1.length := by
        unfold curB at y5
        rw [y1, Nat.add_sub_cancel] at y5
        exact y5
      refine ⟨fun x v y hx hk hf hv hy kt => ?_, fun j j1 j2 j3 k10 b0 hb => ?_, fun b hb hk => ?_⟩
      · have hx : x < σ.1.length := hx
        have hk : (σ.1.getD x dBK).1 = 1 := hk
        have hf : (σ.1.getD x dBK).2.2.2.2 ≤ v := hf
        have hv : v < endV σ x := hv
        have hy : (σ.2.1.getD v dVK).2 = some y := hy
        rw [y1] at hx
        rw [ya] at hy
        by_cases c : s.1.2.2.1 n = 1 ∧ v = s.1.2.1.length
        · rw [if_pos c] at hy
          rw [← Option.some.inj hy] at kt
          have k1 : kK F n = 1 := by have := c.1; rw [kn] at this; exact (nI_eq (b := 1) (by omega) (by omega)).mp this
          have := (fun_8 hp.1 k1).2.1
          have kt : kK F (n + 1) = 10 := kt
          omega
        · rw [if_neg c] at hy
          have lt := V_lt hy
          by_cases z : x < s.1.1.length
          · rw [y7 x z] at hf hk
            refine h x v y z hk hf ?_ hy kt
            unfold endV at hv ⊢
            rw [y1] at hv
            by_cases z2 : x + 1 < s.1.1.length
            · rw [if_pos (by omega), y7 _ z2] at hv
              rw [if_pos z2]
              exact hv
            · rw [if_neg z2]
              exact lt
          · have : x = s.1.1.length := by omega
            rw [this, k5] at hf
            omega
      · obtain ⟨j2, j3⟩ := mem_b j2 j3
        have hb : (σ.1.getD (σ.1.length - 1) dBK).2.1 ≤ j := hb
        have y3 : (σ.1.getD (σ.1.length - 1) dBK).2.1 = n := y3
        omega
      · have hb : b + 1 < σ.1.length := hb
        have hk : (σ.1.getD b dBK).1 = 1 := hk
        show (σ.1.getD b dBK).2.2.2.2 < (σ.1.getD (b + 1) dBK).2.2.2.2
        rw [y7 b (by omega)] at hk ⊢
        by_cases z : b + 1 < s.1.1.length
        · rw [y7 _ z]
          exact h36 b z hk
        · rw [show b + 1 = s.1.1.length by omega, k5]
          obtain ⟨y, hy, -⟩ := h11 b (by omega) hk
          exact V_lt hy
  · rw [if_neg q] at e
    have es : (σ, s.2) = s := by rw [inl_e e]
    rw [es]
    exact ⟨h, fun j j1 j2 j3 => by obtain ⟨j2, j3⟩ := mem_b j2 j3; exact h35 j j1 j2 j3, h36⟩
theorem P34.l {m0 : yM} {T : Nat} {F : List ND} (hF : HF m0 T F) {N : Nat} {A : List Nat} {n : Nat} {s : SU} {σ' : RS} (hp : PA m0 T F N A n) (hq : PAll F (A ++ [n]) (n + szF F n) s) (h35 : P35 F (A ++ [n]) (n + szF F n) s) (h : P34 F s) (h36 : P36 s) (e : lk F A s.1 s.2 n = .inl σ') : P34 F (σ', nU s.1 s.2 n) ∧ P35 F A (n + szF F n) (σ', nU s.1 s.2 n) ∧ P36 (σ', nU s.1 s.2 n) := by
  obtain ⟨h1, h2, h3, h3b, h4, h5, h6, h7, h8, h9, h10, h11⟩ := hq.1
  have hK := hF.2.1
  have h0 := hF.2.2.1
  have hn := hp.lt.1
  have k37 := hp.1.k37
  have at' := hp.1.at
  have nA : n ∈ A ++ [n] := List.mem_append_right _ List.mem_cons_self
  obtain ⟨kn, vn, tn⟩ := h1.1 n hn (Or.inr nA)
  have e6 := lk_ef e (fun z => by
    rw [kn] at z
    exact (h1.2.2.2.2 n nA ((ch37e _ k37).mp z)).2.1)
  have by' := e6.2.2.2.2
  refine ⟨?_, fun j j1 j2 j3 k10 b0 hb => ?_, fun b hb hk => ?_⟩
  · have old : ∀ x v y, x < s.1.1.length → (s.1.1.getD x dBK).1 = 1 → (s.1.1.getD x dBK).2.2.2.2 ≤ v → v < endV σ' x → (s.1.2.1.getD v dVK).2 = some y → ¬ kK F y.2.1 = 10 := by
      intro x v y hx hk hf hv hy
      refine h x v y hx hk hf ?_ hy
      have lt := V_lt hy
      unfold endV at hv ⊢
      rw [by'.1] at hv
      by_cases z : x + 1 < s.1.1.length
      · rw [if_pos z] at hv ⊢
        rw [(by'.2 _).2.2.2] at hv
        exact hv
      · rw [if_neg z]
        exact lt
    intro x v y hx hk hf hv hy kt
    have hx : x < σ'.1.length := hx
    have hk : (σ'.1.getD x dBK).1 = 1 := hk
    have hf : (σ'.1.getD x dBK).2.2.2.2 ≤ v := hf
    have hv : v < endV σ' x := hv
    have hy : (σ'.2.1.getD v dVK).2 = some y := hy
    rw [by'.1] at hx
    rw [(by'.2 x).2.2.2] at hf
    rw [(by'.2 x).1] at hk
    by_cases k5 : s.1.2.2.1 n = 5
    · have kk : kK F n = 5 := by rw [kn] at k5; exact (nI_eq (b := 5) (by omega) (by omega)).mp k5
      obtain ⟨l1, l2, l3⟩ := lk_5 e k5
      obtain ⟨k, t, b, g, eA, kb, kg, k1', c1, et, t1, t2, t3, t4, t5, t6, t7, qk⟩ := dcl_f hK h0 hp h1 kk
      have le := h3.1
      rw [qk] at le
      have bA : b ∈ A := by rw [eA]; simp
      obtain ⟨B0, eB, -⟩ := h1.2.2.2.2 b (List.mem_append_left _ bA) kb
      have fb := h3b B0
      rw [qk] at fb
      have gA : fPar A = g ∧ g ∈ A := by rw [eA]; exact ⟨rfl, by simp⟩
      have ed : σ' = dsL (dcAt F s.1 n) t (s.1.2.2.2.1 g) (dcIni F s.1 n) k (s.1.2.1.length - k) s.1 := by
        rw [l1]
        unfold dcS
        rw [c1, et, gA.1, show n + 1 + k - n - 1 = k by omega]
      have dv := dsL_v (dcAt F s.1 n) t (s.1.2.2.2.1 g) (dcIni F s.1 n) k (s.1.2.1.length - k) s.1 (by omega)
      rw [← ed] at dv
      have tA : t ∉ A ++ [n] := by
        intro z
        rcases List.mem_append.mp z with y | y
        · have := (hp.2.2 t y).1
          omega
        · have := List.mem_singleton.mp y
          omega
      by_cases nv : s.1.2.1.length - k ≤ v
      · have len : σ'.2.1.length = s.1.2.1.length := by rw [ed]; exact (dsL_len _ _ _ _ _ _ _).2.1
        have lt := V_lt hy
        rw [len] at lt
        obtain ⟨cc, hx2⟩ := (dv v).2.2 (by omega)
        rw [hx2] at hy
        rw [← Option.some.inj hy] at kt
        have kt : kK F t = 10 := kt
        have xl : x + 1 = s.1.1.length := by
          rcases Nat.lt_or_ge (x + 1) s.1.1.length with w | w
          · exfalso
            unfold endV at hv
            rw [by'.1, if_pos w, (by'.2 _).2.2.2] at hv
            have := h2.fm (b := x + 1) (s.1.1.length - 1) (by omega) (by omega)
            have fb : (s.1.1.getD (s.1.1.length - 1) dBK).2.2.2.2 + k ≤ s.1.2.1.length := fb
            omega
          · omega
        have eB : nB s (s.1.1.length - 1) = b := eB
        have := (hp.2.2 b bA).1
        refine h35 t (by omega) t2 tA kt B0 (by rw [eB]; omega) ?_
        rw [show s.1.1.length - 1 = x by omega]
        exact hk
      · rw [(dv v).2.1 (by omega)] at hy
        exact old x v y hx hk hf hv hy kt
    · by_cases k6 : s.1.2.2.1 n = 6 ∧ s.1.2.2.1 (fPar A) = 5
      · obtain ⟨l1, -⟩ := lk_6 e k6.1 k6.2
        have hy' := hy
        rw [l1, decl_at] at hy'
        split at hy'
        · cases hy'
        · exact old x v y hx hk hf hv hy' kt
      · have hy' := hy
        rw [lk_v e k5 k6] at hy'
        exact old x v y hx hk hf hv hy' kt
  · have bb : 0 < s.1.1.length := by
      have w : 0 < σ'.1.length := b0
      rw [by'.1] at w
      exact w
    have hb : (σ'.1.getD (σ'.1.length - 1) dBK).2.1 ≤ j := hb
    show ¬ (σ'.1.getD (σ'.1.length - 1) dBK).1 = 1
    rw [by'.1] at hb ⊢
    rw [(by'.2 _).2.1] at hb
    rw [(by'.2 _).1]
    by_cases ne : j = n
    · subst ne
      obtain ⟨-, -, l3⟩ := lk_10 e (by rw [kn, k10]; rfl)
      exact fun z => l3 ⟨bb, z⟩
    · exact h35 j j1 j2 (mem_l j3 ne) k10 bb hb
  · have hb : b + 1 < σ'.1.length := hb
    have hk : (σ'.1.getD b dBK).1 = 1 := hk
    show (σ'.1.getD b dBK).2.2.2.2 < (σ'.1.getD (b + 1) dBK).2.2.2.2
    rw [by'.1] at hb
    rw [(by'.2 _).1] at hk
    rw [(by'.2 _).2.2.2, (by'.2 _).2.2.2]
    exact h36 b hb hk
theorem jn_34 {m0 : yM} {T N : Nat} {F : List ND} (hF : HF m0 T F) (hW : TW m0 T F N 0) {s : SU} (e : jn F N [] 0 (sg0 F) = .inl s) : P34 F s ∧ P36 s := by
  have := jn_ind (P := fun A i s => PAll F A i s ∧ P34 F s ∧ P35 F A i s ∧ P36 s) (m0 := m0) (T := T) (F := F) (fun N A n s σ hp h e => ⟨PAll.b hF hp h.1 e, P34.b hp h.1.1.1 h.1.1.2.2.2.2.2.2.2.2.2.2.2 h.2.1 h.2.2.1 h.2.2.2 e⟩) (fun N A n s σ' hp h e => ⟨PAll.l hF hp h.1 e, P34.l hF hp h.1 h.2.2.1 h.2.1 h.2.2.2 e⟩) N [] 0 (sg0 F) ⟨hW, rfl, fun p hp => by cases hp⟩ ⟨PAll.z (fun j hj => hF.1.k hj), fun b v y hb => absurd hb (Nat.not_lt_zero _), fun j _ hj => absurd hj (Nat.not_lt_zero _), fun b hb => absurd hb (Nat.not_lt_zero _)⟩ s e
  exact ⟨this.2.1, this.2.2.2⟩
