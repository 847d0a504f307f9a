/-! THE RULES' INVARIANTS: where cells lie -/
theorem lk_5a {F : List ND} {A : List Nat} {σ σ' : RS} {U : Nat → Bool} {n : Nat} (h : lk F A σ U n = .inl σ') (k5 : σ.2.2.1 n = 5) (hat : ¬ dcAt F σ n = -1) : σ.2.2.1 (dcT F σ n) = 8 := by
  unfold lk at h
  have k0 : ¬ σ.2.2.1 n = 0 := by rw [k5]; decide
  have k1 : ¬ bkN (σ.2.2.1 n) := by rw [k5]; decide
  have k4 : ¬ σ.2.2.1 n = 4 := by rw [k5]; decide
  rw [if_neg k0, if_neg k1, if_neg k4, if_pos k5] at h
  unfold lkDcl at h
  by_cases a : ¬ σ.2.2.2.1 (fPar A) = 0 ∧ ¬ σ.2.2.1 (dcT F σ n) = 8
  · rw [if_pos a] at h; cases h
  rw [if_neg a] at h
  by_cases b : ¬ dcAt F σ n = -1 ∧ ¬ fpP σ (dcT F σ n) (dcAt F σ n)
  · rw [if_pos b] at h; cases h
  · exact (Decidable.byContradiction (fun w => b ⟨hat, w⟩) : fpP σ (dcT F σ n) (dcAt F σ n)).1
def P26 (s : SU) : Prop := ∀ b v y, b < s.1.1.length → (s.1.1.getD b dBK).2.2.2.2 ≤ v → v < endV s.1 b → (s.1.2.1.getD v dVK).2 = some y → ∃ c z d, y.2.2.2 = nI c ∧ szT s.1 y.2.1 = nI z ∧ cB s.1 b = nI d ∧ c + z ≤ d ∧ d ≤ 37052 ∧ ((s.1.1.getD b dBK).1 = 3 → (c < 960 ∧ z = 1) ∨ 960 ≤ c) ∧ ∀ w y', v < w → w < endV s.1 b → (s.1.2.1.getD w dVK).2 = some y' → ∃ c' z', y'.2.2.2 = nI c' ∧ szT s.1 y'.2.1 = nI z' ∧ c' + z' ≤ 37052 ∧ (c + z ≤ c' ∨ c' + z' ≤ c)
/-- blocks may take more cells, variables stay -/
theorem P26.s {s s' : SU} (h : P26 s) (b : BY s.1 s'.1) (hv : ∀ v y, (s'.1.2.1.getD v dVK).2 = some y → (s.1.2.1.getD v dVK).2 = some y) (hz : ∀ v y, (s.1.2.1.getD v dVK).2 = some y → szT s'.1 y.2.1 = szT s.1 y.2.1) (hc : ∀ x, x < s.1.1.length → ∀ c, cB s.1 x = nI c → c ≤ 37052 → ∃ d, cB s'.1 x = nI d ∧ c ≤ d ∧ d ≤ 37052) : P26 s' := by
  have en : ∀ x v, v < endV s'.1 x → v < s.1.2.1.length → v < endV s.1 x := by
    intro x v h1 h2
    unfold endV at h1 ⊢
    rw [b.1] at h1
    by_cases z : x + 1 < s.1.1.length
    · rw [if_pos z] at h1 ⊢
      rw [(b.2 _).2.2.2] at h1
      exact h1
    · rw [if_neg z]
      exact h2
  intro x v y hx hf hv' hy
  rw [b.1] at hx
  rw [(b.2 x).2.2.2] at hf
  have hy := hv v y hy
  obtain ⟨c, z, d, g1, g2, g3, g4, g5, g6, g7⟩ := h x v y hx hf (en x v hv' (V_lt hy)) hy
  obtain ⟨d', d1, d2, d3⟩ := hc x hx d g3 g5
  refine ⟨c, z, d', g1, (hz v y hy).trans g2, d1, by omega, d3, fun k => g6 ((b.2 x).1.symm.trans k), fun w y' hw1 hw2 hy' => ?_⟩
  have hy' := hv w y' hy'
  obtain ⟨c', z', i1, i2, i3, i4⟩ := g7 w y' hw1 (en x w hw2 (V_lt hy')) hy'
  exact ⟨c', z', i1, (hz w y' hy').trans i2, i3, i4⟩
theorem P26.b {m0 : yM} {T : Nat} {F : List ND} (hF : HF m0 T F) {N : Nat} {A : List Nat} {n : Nat} {s : SU} {σ : RS} (hp : PA m0 T F N A n) (hq : PB F A n s) (h27 : P27 F A n s) (h : P26 s) (e : jb s n = .inl σ) : P26 (σ, s.2) := by
  have h0 := hF.2.2.1
  have h1 := hq.1
  have h2 := hq.2.1
  have kn := (h1.1 n hp.lt.1 (Or.inl (Nat.le_refl _))).1
  have k37 := hp.1.k37
  have at' := hp.1.at
  unfold jb at e
  by_cases q : bkN (s.1.2.2.1 n)
  · rw [if_pos q] at e
    unfold lkBeg at e
    split at e
    · cases e
    split at e
    · cases e
    · have e' := inl_e e
      obtain ⟨y1, y2, y3, y4, y5, y6, y7⟩ := beg_y s.1 n (s.1.2.2.1 n) (s.1.2.2.2.1 n)
      have yv := beg_v s.1 n (s.1.2.2.1 n) (s.1.2.2.2.1 n)
      have ya := beg_at s.1 n (s.1.2.2.1 n) (s.1.2.2.2.1 n)
      have yc := beg_c s.1 n (s.1.2.2.1 n) (s.1.2.2.2.1 n)
      rw [← e'] at y1 y2 y5 y6 y7 yv ya yc
      have k2 : (σ.1.getD s.1.1.length dBK).1 = s.1.2.2.1 n := by
        unfold curB at y2
        rw [y1, Nat.add_sub_cancel] at y2
        exact y2
      have k5 : (σ.1.getD s.1.1.length dBK).2.2.2.2 = s.1.2.1.length := by
        unfold curB at y5
        rw [y1, Nat.add_sub_cancel] at y5
        exact y5
      have en : ∀ x, x < s.1.1.length → endV σ x = endV s.1 x := by
        intro x hx
        unfold endV
        rw [y1]
        by_cases z : x + 1 < s.1.1.length
        · rw [if_pos (by omega), if_pos z, y7 _ z]
        · rw [if_pos (by omega), if_neg z, show x + 1 = s.1.1.length by omega, k5]
      have el : ∀ x, x < s.1.1.length → endV s.1 x ≤ s.1.2.1.length := by
        intro x hx
        unfold endV
        by_cases z : x + 1 < s.1.1.length
        · rw [if_pos z]
          exact h2.2.2.2.1 _ z
        · rw [if_neg z]
          exact Nat.le_refl _
      have cO : ∀ x, x < s.1.1.length → cB σ x = cB s.1 x := fun x hx => by unfold cB; rw [y7 x hx]
      have old : ∀ u, u < s.1.2.1.length → σ.2.1.getD u dVK = s.1.2.1.getD u dVK := by
        intro u hu
        rw [ya, if_neg (fun z => by omega)]
      have sz : ∀ v y, (s.1.2.1.getD v dVK).2 = some y → szT σ y.2.1 = szT s.1 y.2.1 := fun v y hy => szT_st (tyO_of hF hq (by omega) h27 hy) (by rw [y6]) (by rw [y6]) (fun x hx => cO x (by omega))
      intro x v y hx hf hv hy
      have hx : x < σ.1.length := hx
      have hf : (σ.1.getD x dBK).2.2.2.2 ≤ v := hf
      have hv : v < endV σ x := hv
      have hy : (σ.2.1.getD v dVK).2 = some y := hy
      rw [y1] at hx
      by_cases z : x < s.1.1.length
      · rw [y7 x z] at hf
        rw [en x z] at hv
        have := el x z
        rw [old v (by omega)] at hy
        obtain ⟨c, zz, d, g1, g2, g3, g4, g5, g6, g7⟩ := h x v y z hf hv hy
        refine ⟨c, zz, d, g1, (sz v y hy).trans g2, (cO x z).trans g3, g4, g5, fun k => g6 (by have k : (σ.1.getD x dBK).1 = 3 := k; rw [y7 x z] at k; exact k), fun w y' w1 w2 hy' => ?_⟩
        have w2 : w < endV σ x := w2
        have hy' : (σ.2.1.getD w dVK).2 = some y' := hy'
        rw [en x z] at w2
        rw [old w (by omega)] at hy'
        obtain ⟨c', z', i1, i2, i3, i4⟩ := g7 w y' w1 w2 hy'
        exact ⟨c', z', i1, (sz w y' hy').trans i2, i3, i4⟩
      · have ex : x = s.1.1.length := by omega
        subst ex
        rw [k5] at hf
        have lt := V_lt hy
        rw [ya] at hy
        by_cases c : s.1.2.2.1 n = 1 ∧ v = s.1.2.1.length
        · rw [if_pos c] at hy
          have ey := Option.some.inj hy
          have k1 : kK F n = 1 := by have := c.1; rw [kn] at this; exact (nI_eq (b := 1) (by omega) (by omega)).mp this
          obtain ⟨f1, f2, -⟩ := fun_8 hp.1 k1
          have ks : s.1.2.2.1 (n + 1) = 8 := by
            have := (h1.1 (n + 1) f1 (Or.inl (by omega))).1
            rw [this, f2]
            rfl
          refine ⟨0, 1, 1, by rw [← ey]; rfl, ?_, ?_, by omega, by omega, fun k => ?_, fun w y' w1 w2 hy' => ?_⟩
          · rw [← ey]
            show szT σ (n + 1) = nI 1
            unfold szT
            rw [y6, if_pos ks]
            rfl
          · show cB σ s.1.1.length = nI 1
            rw [yc, if_neg (by rw [c.1]; decide), if_pos c.1]
            rfl
          · have k : (σ.1.getD s.1.1.length dBK).1 = 3 := k
            rw [k2, c.1] at k
            exact absurd k (by decide)
          · exfalso
            have hy' : (σ.2.1.getD w dVK).2 = some y' := hy'
            have := V_lt hy'
            rw [yv, if_pos c.1] at this
            omega
        · rw [if_neg c] at hy
          have := V_lt hy
          omega
  · rw [if_neg q] at e
    have es : (σ, s.2) = s := by rw [inl_e e]
    rw [es]
    exact h
theorem P26.l {m0 : yM} {T : Nat} {F : List ND} (hF : HF m0 T F) {N : Nat} {A : List Nat} {n : Nat} {s : SU} {σ' : RS} (hp : PA m0 T F N A n) (hq : PAll F (A ++ [n]) (n + szF F n) s) (h27 : P27 F (A ++ [n]) (n + szF F n) s) (h28 : P28 F (A ++ [n]) (n + szF F n) s) (h : P26 s) (e : lk F A s.1 s.2 n = .inl σ') : P26 (σ', nU s.1 s.2 n) := by
  obtain ⟨h1, h2, h3, h3b, h4, h5, h6, h7, h8, h9, h10, h11⟩ := hq.1
  have hK := hF.2.1
  have h0 := hF.2.2.1
  have hn := hp.lt.1
  have k37 := hp.1.k37
  have at' := hp.1.at
  obtain ⟨n1, n2, n3, n4⟩ := hq.1.nb hF at'.1
  have nA : n ∈ A ++ [n] := List.mem_append_right _ List.mem_cons_self
  obtain ⟨kn, vn, tn⟩ := h1.1 n hn (Or.inr nA)
  have by' := (lk_ef e (fun z => by
    rw [kn] at z
    exact (h1.2.2.2.2 n nA ((ch37e _ k37).mp z)).2.1)).2.2.2.2
  have szo : (∀ x, x + 1 < s.1.1.length → cB σ' x = cB s.1 x) → ∀ v y, (s.1.2.1.getD v dVK).2 = some y → szT σ' y.2.1 = szT s.1 y.2.1 := fun hc v y hy => by
    obtain ⟨t1, t2, -⟩ := P5.t hp h1 h5 e hy
    exact szT_st (tyO_of hF hq.1 at'.1 h27 hy) t1 t2 hc
  by_cases k1 : bkN (s.1.2.2.1 n)
  · have kb : kK F n = 1 ∨ kK F n = 2 ∨ kK F n = 3 := by rw [kn] at k1; exact (ch37e _ k37).mp k1
    obtain ⟨B0, eB, -⟩ := h1.2.2.2.2 n nA kb
    have e0 := e
    unfold lk at e
    have k0 : ¬ s.1.2.2.1 n = 0 := by rcases k1 with k | k | k <;> rw [k] <;> decide
    rw [if_neg k0, if_pos k1] at e
    unfold lkBlk at e
    split at e
    · cases e
    · have e' := inl_e e
      have ec : (s.1.1.getD (s.1.1.length - 1) dBK).2.1 = n := eB
      rw [ec] at e'
      obtain ⟨c, c1, c2⟩ := h9.2.1 n nA kb
      obtain ⟨⟨d, d1, d2, d3⟩, o⟩ := ownC_c (show s.1.1.length - 1 < s.1.1.length by omega) c1 n (szF F n)
      rw [← e'] at d1 o
      have hFl := hF.2.2.2.1
      refine h.s by' (fun v y hy => ?_) (szo (fun x hx => o x (by omega))) (fun x hx g g1 g2 => ?_)
      · have hy : (σ'.2.1.getD v dVK).2 = some y := hy
        rw [e', (ownC_y _ _ _ _).2.1] at hy
        exact hy
      · show ∃ d, cB σ' x = nI d ∧ g ≤ d ∧ d ≤ 37052
        by_cases z : x = s.1.1.length - 1
        · rw [z] at g1
          have : g = c := (nI_eq (by omega) (by omega)).mp (g1.symm.trans c1)
          exact ⟨d, by rw [z]; exact d1, by omega, by omega⟩
        · exact ⟨g, by rw [o x z]; exact g1, Nat.le_refl _, g2⟩
  by_cases k5 : s.1.2.2.1 n = 5
  · have kk : kK F n = 5 := by rw [kn] at k5; exact (nI_eq (b := 5) (by omega) (by omega)).mp k5
    obtain ⟨l1, l2, l3⟩ := lk_5 e k5
    obtain ⟨k, t, b, g, eA, kb, kg, k1', c1, et, t1, t2, t3, t4, t5, t6, t7, qk⟩ := dcl_f hK h0 hp h1 kk
    have le := h3.1
    rw [qk] at le
    have bA : b ∈ A := by rw [eA]; simp
    obtain ⟨c, cc, c4⟩ := h9.2.1 b (List.mem_append_left _ bA) kb
    have B0 : 0 < s.1.1.length := (h1.2.2.2.2 b (List.mem_append_left _ bA) kb).1
    have fb := h3b B0
    rw [qk] at fb
    have tA : t ∉ A ++ [n] := by
      intro z
      rcases List.mem_append.mp z with y | y
      · have := (hp.2.2 t y).1
        omega
      · have := List.mem_singleton.mp y
        omega
    obtain ⟨z, z1, z2, z3⟩ := szS_d h1 h6 h9 (by omega) (by omega) t2 tA t4 nA kk t1
    have kz : k * z ≤ 4096 * 37052 := Nat.mul_le_mul (by omega) z2
    have gA : fPar A = g ∧ g ∈ A := by rw [eA]; exact ⟨rfl, by simp⟩
    have ed : σ' = dsL (dcAt F s.1 n) t (s.1.2.2.2.1 g) (dcIni F s.1 n) k (s.1.2.1.length - k) s.1 := by
      rw [l1]
      unfold dcS
      rw [c1, et, gA.1, show n + 1 + k - n - 1 = k by omega]
    have len : σ'.2.1.length = s.1.2.1.length := by rw [ed]; exact (dsL_len _ _ _ _ _ _ _).2.1
    have dv := dsL_v (dcAt F s.1 n) t (s.1.2.2.2.1 g) (dcIni F s.1 n) k (s.1.2.1.length - k) s.1 (by omega)
    rw [← ed] at dv
    have vo : ∀ u, u < s.1.2.1.length - k → σ'.2.1.getD u dVK = s.1.2.1.getD u dVK := fun u hu => (dv u).2.1 (by omega)
    have en : ∀ x, endV σ' x = endV s.1 x := fun x => by'.en len x
    have co : ∀ x, x ≠ s.1.1.length - 1 → cB σ' x = cB s.1 x := fun x hx => by rw [ed]; exact dsL_o _ _ _ _ _ _ _ B0 x hx
    have sz := szo (fun x hx => co x (by omega))
    -- the type's own size
    have e6 := lk_ef e (fun z => by
      rw [kn] at z
      exact (h1.2.2.2.2 n nA ((ch37e _ k37).mp z)).2.1)
    have szt : szT σ' t = nI z := by
      have tt : tyO s.1 t := by
        have ks : s.1.2.2.1 t = nI (kK F t) := by
          rcases h1.2.1 t (by omega) with w | ⟨w, zz⟩
          · exact w
          · omega
        rcases t4 with w | w | w
        · exact Or.inl (by rw [ks, w]; rfl)
        · exact Or.inr (Or.inl (by rw [ks, w]; rfl))
        · obtain ⟨q, q1, q2⟩ := h27 t (by omega) t2 tA w
          exact Or.inr (Or.inr ⟨q, q1, q2, by omega⟩)
      rw [szT_st tt (e6.1 t (by omega)).1 (e6.1 t (by omega)).2 (fun x hx => co x (by omega))]
      exact z1.1
    have ear : ∀ x, x + 1 < s.1.1.length → endV s.1 x ≤ s.1.2.1.length - k := by
      intro x hx
      unfold endV
      rw [if_pos hx]
      have := h2.fm (b := x + 1) (s.1.1.length - 1) (by omega) (by omega)
      have fb : (s.1.1.getD (s.1.1.length - 1) dBK).2.2.2.2 + k ≤ s.1.2.1.length := fb
      omega
    -- blocks before the last
    have early : ∀ x v y, x + 1 < s.1.1.length → (s.1.1.getD x dBK).2.2.2.2 ≤ v → v < endV s.1 x → (σ'.2.1.getD v dVK).2 = some y → ∃ c z d, y.2.2.2 = nI c ∧ szT σ' y.2.1 = nI z ∧ cB σ' x = nI d ∧ c + z ≤ d ∧ d ≤ 37052 ∧ ((s.1.1.getD x dBK).1 = 3 → (c < 960 ∧ z = 1) ∨ 960 ≤ c) ∧ ∀ w y', v < w → w < endV s.1 x → (σ'.2.1.getD w dVK).2 = some y' → ∃ c' z', y'.2.2.2 = nI c' ∧ szT σ' y'.2.1 = nI z' ∧ c' + z' ≤ 37052 ∧ (c + z ≤ c' ∨ c' + z' ≤ c) := by
      intro x v y hx hf hv hy
      have := ear x hx
      rw [vo v (by omega)] at hy
      obtain ⟨c, zz, d, g1, g2, g3, g4, g5, g6, g7⟩ := h x v y (by omega) hf hv hy
      refine ⟨c, zz, d, g1, (sz v y hy).trans g2, (co x (by omega)).trans g3, g4, g5, g6, fun w y' w1 w2 hy' => ?_⟩
      rw [vo w (by omega)] at hy'
      obtain ⟨c', z', i1, i2, i3, i4⟩ := g7 w y' w1 w2 hy'
      exact ⟨c', z', i1, (sz w y' hy').trans i2, i3, i4⟩
    have kc3 : (s.1.1.getD (s.1.1.length - 1) dBK).1 = 3 → 960 ≤ c := fun w => by
      obtain ⟨c', a1, a2, a3⟩ := h9.1 (s.1.1.length - 1) (by omega)
      have : c' = c := (nI_eq (by omega) (by omega)).mp (a1.symm.trans cc)
      have := a3 w
      omega
    intro x v y hx hf hv hy
    have hx : x < σ'.1.length := hx
    have hf : (σ'.1.getD x dBK).2.2.2.2 ≤ v := hf
    have hv : v < endV σ' x := hv
    have hy : (σ'.2.1.getD v dVK).2 = some y := hy
    show ∃ c z d, y.2.2.2 = nI c ∧ szT σ' y.2.1 = nI z ∧ cB σ' x = nI d ∧ c + z ≤ d ∧ d ≤ 37052 ∧ ((σ'.1.getD x dBK).1 = 3 → (c < 960 ∧ z = 1) ∨ 960 ≤ c) ∧ ∀ w y', v < w → w < endV σ' x → (σ'.2.1.getD w dVK).2 = some y' → ∃ c' z', y'.2.2.2 = nI c' ∧ szT σ' y'.2.1 = nI z' ∧ c' + z' ≤ 37052 ∧ (c + z ≤ c' ∨ c' + z' ≤ c)
    rw [by'.1] at hx
    rw [(by'.2 x).2.2.2] at hf
    rw [en x] at hv
    rw [(by'.2 x).1, en x]
    by_cases wx : ¬ x = s.1.1.length - 1
    · exact early x v y (by omega) hf hv hy
    have wx := Decidable.byContradiction wx
    have ev : endV s.1 x = s.1.2.1.length := by unfold endV; rw [if_neg (by omega)]
    rw [ev] at hv ⊢
    by_cases hat : dcAt F s.1 n = -1
    · rw [hat] at ed
      obtain ⟨dc1, dc2⟩ := dsL_c (sec := s.1.2.2.2.1 g) (ini := dcIni F s.1 n) k (s.1.2.1.length - k) s.1 c B0 cc z1 (by omega)
      rw [← ed] at dc1 dc2
      have ckz : c + k * z ≤ 4096 := by
        have l2 : cB σ' (σ'.1.length - 1) ≤ 4096 := l2
        rw [by'.1, dc1] at l2
        exact (nI_leI (b := 4096) (by omega) (by omega)).mp l2
      have nw : ∀ u y, s.1.2.1.length - k ≤ u → u < s.1.2.1.length → (σ'.2.1.getD u dVK).2 = some y → y.2.2.2 = nI (c + (u - (s.1.2.1.length - k)) * z) ∧ szT σ' y.2.1 = nI z ∧ (u - (s.1.2.1.length - k)) * z + z ≤ k * z := by
        intro u y hu lt hy
        rw [dc2 u hu (by omega)] at hy
        have ey := Option.some.inj hy
        refine ⟨by rw [← ey], by rw [← ey]; exact szt, ?_⟩
        have : (u - (s.1.2.1.length - k) + 1) * z ≤ k * z := Nat.mul_le_mul_right _ (by omega)
        rw [Nat.succ_mul] at this
        exact this
      have cx : cB σ' x = nI (c + k * z) := by rw [wx]; exact dc1
      by_cases nv : s.1.2.1.length - k ≤ v
      · obtain ⟨p1, p2, p3⟩ := nw v y nv hv hy
        refine ⟨_, z, _, p1, p2, cx, by omega, by omega, fun w => Or.inr (by have := kc3 (by rw [← wx]; exact w); omega), fun w y' w1 w2 hy' => ?_⟩
        obtain ⟨r1, r2, r3⟩ := nw w y' (by omega) w2 hy'
        refine ⟨_, z, r1, r2, by omega, Or.inl ?_⟩
        have : (v - (s.1.2.1.length - k) + 1) * z ≤ (w - (s.1.2.1.length - k)) * z := Nat.mul_le_mul_right _ (by omega)
        rw [Nat.succ_mul] at this
        omega
      · rw [vo v (by omega)] at hy
        obtain ⟨c0, zz, d, g1, g2, g3, g4, g5, g6, g7⟩ := h x v y hx hf (by rw [ev]; omega) hy
        rw [wx] at g3
        have edc : d = c := (nI_eq (by omega) (by omega)).mp (g3.symm.trans cc)
        refine ⟨c0, zz, _, g1, (sz v y hy).trans g2, cx, by omega, by omega, g6, fun w y' w1 w2 hy' => ?_⟩
        by_cases nw' : s.1.2.1.length - k ≤ w
        · obtain ⟨r1, r2, r3⟩ := nw w y' nw' w2 hy'
          exact ⟨_, z, r1, r2, by omega, Or.inl (by omega)⟩
        · rw [vo w (by omega)] at hy'
          obtain ⟨c', z', i1, i2, i3, i4⟩ := g7 w y' w1 (by rw [ev]; omega) hy'
          exact ⟨c', z', i1, (sz w y' hy').trans i2, i3, i4⟩
    · rcases t7 with ⟨u1, u2⟩ | ⟨-, u2⟩
      · obtain ⟨⟨w, kq, w1, w2, w3, w4, w5⟩, p3⟩ := h7 (n + 1 + k) (by omega) u1 (by omega) (by
          intro z
          rcases List.mem_append.mp z with y | y
          · have := (hp.2.2 _ y).1
            omega
          · have := List.mem_singleton.mp y
            omega)
        obtain ⟨i3, pk⟩ := p3 n nA kk (by omega)
        have k1 : k = 1 := by omega
        have da := dsL_a hat (tn := t) (sec := s.1.2.2.2.1 g) (ini := dcIni F s.1 n) k (s.1.2.1.length - k) s.1 (by omega)
        rw [← ed] at da
        have pl : plC w kq < 960 := by unfold plC; split <;> omega
        have cs : ∀ x, cB σ' x = cB s.1 x := fun x => by rw [ed]; exact dsL_p hat _ _ _ _ _ _ x
        have kc : (s.1.1.getD (s.1.1.length - 1) dBK).1 = 3 := i3.2
        have c9 := kc3 kc
        have no := h28 i3 (plC w kq) pl ⟨n, n + 1 + k, nA, kk, by omega, by omega, by
          intro z
          rcases List.mem_append.mp z with y | y
          · have := (hp.2.2 _ y).1
            omega
          · have := List.mem_singleton.mp y
            omega, by omega, u1, w5⟩
        -- a place is told of one cell
        have zt : z = 1 := by
          apply z3
          have l6 := lk_5a e k5 hat
          rw [et] at l6
          rcases h1.2.1 t (by omega) with y | ⟨y, -⟩
          · rw [y] at l6; exact (nI_eq (b := 8) (by have := hK t (by omega); omega) (by omega)).mp l6
          · rw [y] at l6; exact absurd l6 (by decide)
        have cx : cB σ' x = nI c := by rw [cs, wx]; exact cc
        by_cases nv : s.1.2.1.length - k ≤ v
        · rw [da v nv (by omega)] at hy
          have ey := Option.some.inj hy
          refine ⟨plC w kq, z, c, by rw [← ey]; dsimp only; rw [u2]; exact w5, by rw [← ey]; exact szt, cx, by omega, by omega, fun _ => Or.inl ⟨pl, zt⟩, fun w' y' w1' w2' hy' => by omega⟩
        · rw [vo v (by omega)] at hy
          obtain ⟨c0, zz, d, g1, g2, g3, g4, g5, g6, g7⟩ := h x v y hx hf (by rw [ev]; omega) hy
          rw [wx] at g3
          have edc : d = c := (nI_eq (by omega) (by omega)).mp (g3.symm.trans cc)
          refine ⟨c0, zz, c, g1, (sz v y hy).trans g2, cx, by omega, by omega, g6, fun w' y' w1' w2' hy' => ?_⟩
          by_cases nw' : s.1.2.1.length - k ≤ w'
          · rw [da w' nw' (by omega)] at hy'
            have ey' := Option.some.inj hy'
            refine ⟨plC w kq, z, by rw [← ey']; dsimp only; rw [u2]; exact w5, by rw [← ey']; exact szt, by omega, ?_⟩
            have ne : ¬ c0 = plC w kq := fun q => no ⟨v, y, by unfold curB; rw [← wx]; exact hf, hy, by rw [g1, q]⟩
            rcases g6 (by rw [wx]; exact kc) with ⟨q1, q2⟩ | q
            · omega
            · omega
          · rw [vo w' (by omega)] at hy'
            obtain ⟨c', z', i1, i2, i3', i4⟩ := g7 w' y' w1' (by rw [ev]; omega) hy'
            exact ⟨c', z', i1, (sz w' y' hy').trans i2, i3', i4⟩
      · exact absurd u2 hat
  by_cases k6 : s.1.2.2.1 n = 6 ∧ s.1.2.2.1 (fPar A) = 5
  · obtain ⟨l1, -⟩ := lk_6 e k6.1 k6.2
    have cs : ∀ x, cB σ' x = cB s.1 x := fun x => by rw [l1]; rfl
    refine h.s by' (fun v y hy => ?_) (szo (fun x _ => cs x)) (fun x hx c y1 y2 => ⟨c, by show cB σ' x = _; rw [cs x]; exact y1, Nat.le_refl _, y2⟩)
    have hy : (σ'.2.1.getD v dVK).2 = some y := hy
    rw [l1, decl_at] at hy
    split at hy
    · cases hy
    · exact hy
  · have lo := lk_lo e k1 k5 k6
    have cs : ∀ x, cB σ' x = cB s.1 x := fun x => by unfold cB; rw [lo.1]
    refine h.s by' (fun v y hy => ?_) (szo (fun x _ => cs x)) (fun x hx c y1 y2 => ⟨c, by show cB σ' x = _; rw [cs x]; exact y1, Nat.le_refl _, y2⟩)
    have hy : (σ'.2.1.getD v dVK).2 = some y := hy
    rw [lo.2.1] at hy
    exact hy
