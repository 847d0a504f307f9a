/-! THE RULES' INVARIANTS: cells, a look further -/
theorem BY.en {σ σ' : RS} (h : BY σ σ') (hv : σ'.2.1.length = σ.2.1.length) (b : Nat) : endV σ' b = endV σ b := by
  unfold endV
  rw [h.1, hv, (h.2 _).2.2.2]
theorem V_lt {σ : RS} {u : Nat} {y : Int32 × Nat × Int32 × Int32} (hy : (σ.2.1.getD u dVK).2 = some y) : u < σ.2.1.length := by
  rcases Nat.lt_or_ge u σ.2.1.length with z | z
  · exact z
  · rw [List.getD_eq_getElem?_getD, List.getElem?_eq_none_iff.mpr z] at hy
    cases hy
/-- blocks may take more cells, variables stay -/
theorem P9.s {F : List ND} {A A' : List Nat} {s s' : SU} (h : P9 F A s) (b : BY s.1 s'.1) (hv : ∀ v y, (s'.1.2.1.getD v dVK).2 = some y → (s.1.2.1.getD v dVK).2 = some y) (hl : s.1.2.1.length ≤ s'.1.2.1.length) (hc : ∀ x, x < s.1.1.length → ∀ c, cB s.1 x = nI c → c ≤ 37052 → ∃ d, cB s'.1 x = nI d ∧ c ≤ d ∧ d ≤ 37052) (hA : ∀ p, p ∈ A' → (kK F p = 1 ∨ kK F p = 2 ∨ kK F p = 3) → ∃ c, cB s'.1 (s'.1.1.length - 1) = nI c ∧ c ≤ 4096) (fm : ∀ x, x < s.1.1.length → endV s.1 x ≤ s.1.2.1.length) : P9 F A' s' := by
  obtain ⟨a, -, c, d, f⟩ := h
  have en : ∀ x v, x < s.1.1.length → v < endV s'.1 x → v < s.1.2.1.length → v < endV s.1 x := by
    intro x v hx h1 h2
    unfold endV at h1 ⊢
    rw [b.1] at h1
    by_cases z : x + 1 < s.1.1.length
    · rw [if_pos z] at h1 ⊢
      rw [(b.2 _).2.2.2] at h1
      exact h1
    · rw [if_neg z]
      exact h2
  refine ⟨fun x hx => ?_, hA, fun v y hy => c v y (hv v y hy), fun x v y hx h3 hf hv' hy => ?_, fun x v w y z hx h3 hf hvw hw hy hz => ?_⟩
  · rw [b.1] at hx
    obtain ⟨e, e1, e2, e3⟩ := a x hx
    obtain ⟨g, g1, g2, g3⟩ := hc x hx e e1 e2
    refine ⟨g, g1, g3, fun z => ?_⟩
    rw [(b.2 x).1] at z
    have := e3 z
    omega
  · rw [b.1] at hx
    rw [(b.2 x).1] at h3
    rw [(b.2 x).2.2.2] at hf
    have hy := hv v y hy
    obtain ⟨e, e', e1, e2, e3, e4⟩ := d x v y hx h3 hf (en x v hx hv' (V_lt hy)) hy
    obtain ⟨g, g1, g2, g3⟩ := hc x hx e' e2 e4
    exact ⟨e, g, e1, g1, by omega, g3⟩
  · rw [b.1] at hx
    rw [(b.2 x).1] at h3
    rw [(b.2 x).2.2.2] at hf
    have hy := hv v y hy
    have hz := hv w z hz
    exact f x v w y z hx h3 hf hvw (en x w hx hw (V_lt hz)) hy hz
theorem P9.l {m0 : yM} {T : Nat} {F : List ND} (hK : K37 F) (h0 : kK F 0 = 0) (hF : F.length ≤ 16400) (hB : ∀ i, i ≤ F.length → cntF (bB F) i ≤ 390) (hV : ∀ i, i ≤ F.length → cntF (vB F) i ≤ 4096) {N : Nat} {A : List Nat} {n : Nat} {s : SU} {σ' : RS} (hp : PA m0 T F N A n) (h1 : P1 F (A ++ [n]) (n + szF F n) s) (h2 : P2 F (A ++ [n]) (n + szF F n) s) (h3 : P3 F (A ++ [n]) (n + szF F n) s) (h3b : P3b F (A ++ [n]) (n + szF F n) s) (h6 : P6 F (A ++ [n]) (n + szF F n) s) (h7 : P7 F (A ++ [n]) (n + szF F n) s) (h : P9 F (A ++ [n]) s) (e : lk F A s.1 s.2 n = .inl σ') : P9 F A (σ', nU s.1 s.2 n) := by
  have hn := hp.lt.1
  have k37 := hp.1.k37
  have at' := hp.1.at
  have nA : n ∈ A ++ [n] := List.mem_append_right _ List.mem_cons_self
  obtain ⟨kn, vn, tn⟩ := h1.1 n hn (Or.inr nA)
  have by' := (lk_ef e (fun z => by
    rw [kn] at z
    exact (h1.2.2.2.2 n nA ((ch37e _ k37).mp z)).2.1)).2.2.2.2
  have fm : ∀ x, x < s.1.1.length → endV s.1 x ≤ s.1.2.1.length := by
    intro x hx
    unfold endV
    by_cases z : x + 1 < s.1.1.length
    · rw [if_pos z]
      exact h2.2.2.2.1 _ z
    · rw [if_neg z]
      exact Nat.le_refl _
  have same : ∀ x, x < s.1.1.length → ∀ c, cB s.1 x = nI c → c ≤ 37052 → ∃ d, cB s.1 x = nI d ∧ c ≤ d ∧ d ≤ 37052 := fun x _ c y1 y2 => ⟨c, y1, Nat.le_refl _, y2⟩
  have v4 : s.1.2.1.length ≤ 4096 := by
    have := hV (n + szF F n) at'.1
    have := h2.2.1
    omega
  have b4 : s.1.1.length ≤ 399 := by
    have := hB (n + szF F n) at'.1
    have := h2.1.1
    omega
  by_cases k1 : bkN (s.1.2.2.1 n)
  · have kb : kK F n = 1 ∨ kK F n = 2 ∨ kK F n = 3 := by rw [kn] at k1; exact (ch37e _ k37).mp k1
    have eA := hp.blk h0 kb
    obtain ⟨B0, eB, -⟩ := h1.2.2.2.2 n nA kb
    have e0 := e
    unfold lk at e
    have k0 : ¬ s.1.2.2.1 n = 0 := by rcases k1 with k | k | k <;> rw [k] <;> decide
    rw [if_neg k0, if_pos k1] at e
    unfold lkBlk at e
    split at e
    · cases e
    · have e' := inl_e e
      have ec : (s.1.1.getD (s.1.1.length - 1) dBK).2.1 = n := eB
      rw [ec] at e'
      obtain ⟨c, c1, c2⟩ := h.2.1 n nA kb
      obtain ⟨⟨d, d1, d2, d3⟩, o⟩ := ownC_c (show s.1.1.length - 1 < s.1.1.length by omega) c1 n (szF F n)
      rw [← e'] at d1 o
      refine h.s by' (fun v y hy => ?_) ?_ (fun x hx g g1 g2 => ?_) (fun p hpm hk => ?_) fm
      · have hy : (σ'.2.1.getD v dVK).2 = some y := hy
        rw [e', (ownC_y _ _ _ _).2.1] at hy
        exact hy
      · show _ ≤ σ'.2.1.length
        rw [e', (ownC_y _ _ _ _).2.1]
        exact Nat.le_refl _
      · show ∃ d, cB σ' x = nI d ∧ g ≤ d ∧ d ≤ 37052
        by_cases z : x = s.1.1.length - 1
        · rw [z] at g1
          have : g = c := (nI_eq (by omega) (by omega)).mp (g1.symm.trans c1)
          exact ⟨d, by rw [z]; exact d1, by omega, by omega⟩
        · exact ⟨g, by rw [o x z]; exact g1, Nat.le_refl _, g2⟩
      · rw [eA] at hpm
        rw [List.mem_singleton.mp hpm, h0] at hk
        omega
  have kA : ∀ p, p ∈ A → (kK F p = 1 ∨ kK F p = 2 ∨ kK F p = 3) → ∃ c, cB s.1 (s.1.1.length - 1) = nI c ∧ c ≤ 4096 := fun p hpm hk => h.2.1 p (List.mem_append_left _ hpm) hk
  by_cases k5 : s.1.2.2.1 n = 5
  · have kk : kK F n = 5 := by rw [kn] at k5; exact (nI_eq (b := 5) (by omega) (by omega)).mp k5
    obtain ⟨l1, l2, l3⟩ := lk_5 e k5
    obtain ⟨k, t, b, g, eA, kb, kg, k1', c1, et, t1, t2, t3, t4, t5, t6, t7, qk⟩ := dcl_f hK h0 hp h1 kk
    have le := h3.1
    rw [qk] at le
    have bA : b ∈ A := by rw [eA]; simp
    obtain ⟨c, cc, c4⟩ := kA b bA kb
    have B0 : 0 < s.1.1.length := (h1.2.2.2.2 b (List.mem_append_left _ bA) kb).1
    have fb := h3b B0
    rw [qk] at fb
    have tA : t ∉ A ++ [n] := by
      intro z
      rcases List.mem_append.mp z with y | y
      · have := (hp.2.2 t y).1
        omega
      · have := List.mem_singleton.mp y
        omega
    obtain ⟨z, z1, z2, z3⟩ := szS_d h1 h6 h b4 (by omega) t2 tA t4 nA kk t1
    have kz : k * z ≤ 4096 * 37052 := Nat.mul_le_mul (by omega) z2
    have gA : fPar A = g ∧ g ∈ A := by rw [eA]; exact ⟨rfl, by simp⟩
    have ed : σ' = dsL (dcAt F s.1 n) t (s.1.2.2.2.1 g) (dcIni F s.1 n) k (s.1.2.1.length - k) s.1 := by
      rw [l1]
      unfold dcS
      rw [c1, et, gA.1, show n + 1 + k - n - 1 = k by omega]
    have sec8 : ¬ s.1.2.2.2.1 g = 0 → z = 1 := by
      intro w
      apply z3
      rw [et, gA.1] at l3
      have k8 : s.1.2.2.1 t = 8 := Decidable.byContradiction (fun y => l3 ⟨w, y⟩)
      rcases h1.2.1 t (by omega) with y | ⟨y, -⟩
      · rw [y] at k8; exact (nI_eq (b := 8) (by have := hK t (by omega); omega) (by omega)).mp k8
      · rw [y] at k8; exact absurd k8 (by decide)
    have len : σ'.2.1.length = s.1.2.1.length := by rw [ed]; exact (dsL_len _ _ _ _ _ _ _).2.1
    have dv := dsL_v (dcAt F s.1 n) t (s.1.2.2.2.1 g) (dcIni F s.1 n) k (s.1.2.1.length - k) s.1 (by omega)
    rw [← ed] at dv
    have vo : ∀ u, u < s.1.2.1.length - k → σ'.2.1.getD u dVK = s.1.2.1.getD u dVK := fun u hu => (dv u).2.1 (by omega)
    have en : ∀ x, endV σ' x = endV s.1 x := fun x => by'.en len x
    have co : ∀ x, x ≠ s.1.1.length - 1 → cB σ' x = cB s.1 x := fun x hx => by rw [ed]; exact dsL_o _ _ _ _ _ _ _ B0 x hx
    -- earlier blocks hold earlier variables
    have ear : ∀ x, x + 1 < s.1.1.length → endV s.1 x ≤ s.1.2.1.length - k := by
      intro x hx
      unfold endV
      rw [if_pos hx]
      have := h2.fm (b := x + 1) (s.1.1.length - 1) (by omega) (by omega)
      have fb : (s.1.1.getD (s.1.1.length - 1) dBK).2.2.2.2 + k ≤ s.1.2.1.length := fb
      omega
    by_cases hat : dcAt F s.1 n = -1
    · rw [hat] at ed
      obtain ⟨dc1, dc2⟩ := dsL_c (sec := s.1.2.2.2.1 g) (ini := dcIni F s.1 n) k (s.1.2.1.length - k) s.1 c B0 cc z1 (by omega)
      rw [← ed] at dc1 dc2
      have ckz : c + k * z ≤ 4096 := by
        have l2 : cB σ' (σ'.1.length - 1) ≤ 4096 := l2
        rw [by'.1, dc1] at l2
        exact (nI_leI (b := 4096) (by omega) (by omega)).mp l2
      have nw : ∀ u y, s.1.2.1.length - k ≤ u → (σ'.2.1.getD u dVK).2 = some y → u < s.1.2.1.length ∧ y.2.2.2 = nI (c + (u - (s.1.2.1.length - k)) * z) ∧ wtY y ≤ z ∧ (u - (s.1.2.1.length - k)) * z + z ≤ k * z := by
        intro u y hu hy
        have lt := V_lt hy
        rw [len] at lt
        rw [dc2 u hu (by omega)] at hy
        have ey := Option.some.inj hy
        refine ⟨lt, by rw [← ey], ?_, ?_⟩
        · rw [← ey]
          unfold wtY
          dsimp only
          by_cases w : s.1.2.2.2.1 g = 0
          · rw [if_pos w]; exact Nat.zero_le _
          · rw [if_neg w, sec8 w]; exact Nat.le_refl _
        · have : (u - (s.1.2.1.length - k) + 1) * z ≤ k * z := Nat.mul_le_mul_right _ (by omega)
          rw [Nat.succ_mul] at this
          exact this
      obtain ⟨a, -, hcell, d, f⟩ := h
      refine ⟨fun x hx => ?_, fun p hpm hk => ?_, fun v y hy => ?_, fun x v y hx hx3 hf hv hy => ?_, fun x v w y y' hx hx3 hf hvw hw hy hz => ?_⟩
      · have hx : x < σ'.1.length := hx
        rw [by'.1] at hx
        show ∃ c, cB σ' x = nI c ∧ c ≤ 37052 ∧ ((σ'.1.getD x dBK).1 = 3 → 960 ≤ c)
        rw [(by'.2 x).1]
        by_cases w : x = s.1.1.length - 1
        · obtain ⟨c', a1, a2, a3⟩ := a x hx
          rw [w] at a1
          have : c' = c := (nI_eq (by omega) (by omega)).mp (a1.symm.trans cc)
          refine ⟨c + k * z, by rw [w]; exact dc1, by omega, fun y => ?_⟩
          have := a3 y
          omega
        · rw [co x w]; exact a x hx
      · show ∃ c, cB σ' (σ'.1.length - 1) = nI c ∧ c ≤ 4096
        rw [by'.1]
        exact ⟨_, dc1, ckz⟩
      · have hy : (σ'.2.1.getD v dVK).2 = some y := hy
        by_cases w : s.1.2.1.length - k ≤ v
        · obtain ⟨w1, w2, w3, w4⟩ := nw v y w hy
          exact ⟨_, w2, by omega⟩
        · rw [vo v (by omega)] at hy
          exact hcell v y hy
      · have hx : x < σ'.1.length := hx
        have hx3 : ¬ (σ'.1.getD x dBK).1 = 3 := hx3
        have hf : (σ'.1.getD x dBK).2.2.2.2 ≤ v := hf
        have hv : v < endV σ' x := hv
        have hy : (σ'.2.1.getD v dVK).2 = some y := hy
        show ∃ c d, y.2.2.2 = nI c ∧ cB σ' x = nI d ∧ c + wtY y ≤ d ∧ d ≤ 37052
        rw [by'.1] at hx
        rw [(by'.2 x).1] at hx3
        rw [(by'.2 x).2.2.2] at hf
        rw [en x] at hv
        by_cases w : x = s.1.1.length - 1
        · by_cases nv : s.1.2.1.length - k ≤ v
          · obtain ⟨w1, w2, w3, w4⟩ := nw v y nv hy
            exact ⟨_, _, w2, by rw [w]; exact dc1, by omega, by omega⟩
          · rw [vo v (by omega)] at hy
            obtain ⟨p, q, p1, p2, p3, p4⟩ := d x v y hx hx3 hf hv hy
            rw [w] at p2
            have : q = c := (nI_eq (by omega) (by omega)).mp (p2.symm.trans cc)
            exact ⟨p, _, p1, by rw [w]; exact dc1, by omega, by omega⟩
        · have := ear x (by omega)
          rw [vo v (by omega)] at hy
          rw [co x w]
          exact d x v y hx hx3 hf hv hy
      · have hx : x < σ'.1.length := hx
        have hx3 : ¬ (σ'.1.getD x dBK).1 = 3 := hx3
        have hf : (σ'.1.getD x dBK).2.2.2.2 ≤ v := hf
        have hw : w < endV σ' x := hw
        have hy : (σ'.2.1.getD v dVK).2 = some y := hy
        have hz : (σ'.2.1.getD w dVK).2 = some y' := hz
        rw [by'.1] at hx
        rw [(by'.2 x).1] at hx3
        rw [(by'.2 x).2.2.2] at hf
        rw [en x] at hw
        by_cases wx : x = s.1.1.length - 1
        · by_cases nw' : s.1.2.1.length - k ≤ w
          · obtain ⟨w1, w2, w3, w4⟩ := nw w y' nw' hz
            by_cases nv : s.1.2.1.length - k ≤ v
            · obtain ⟨u1, u2, u3, u4⟩ := nw v y nv hy
              refine ⟨_, _, u2, w2, ?_, by omega⟩
              have : (v - (s.1.2.1.length - k) + 1) * z ≤ (w - (s.1.2.1.length - k)) * z := Nat.mul_le_mul_right _ (by omega)
              rw [Nat.succ_mul] at this
              omega
            · rw [vo v (by omega)] at hy
              obtain ⟨p, q, p1, p2, p3, p4⟩ := d x v y hx hx3 hf (by omega) hy
              rw [wx] at p2
              have : q = c := (nI_eq (by omega) (by omega)).mp (p2.symm.trans cc)
              exact ⟨p, _, p1, w2, by omega, by omega⟩
          · rw [vo v (by omega)] at hy
            rw [vo w (by omega)] at hz
            exact f x v w y y' hx hx3 hf hvw hw hy hz
        · have := ear x (by omega)
          rw [vo v (by omega)] at hy
          rw [vo w (by omega)] at hz
          exact f x v w y y' hx hx3 hf hvw hw hy hz
    · -- a place is told: this is the PROGRAM
      rcases t7 with ⟨u1, u2⟩ | ⟨-, u2⟩
      · obtain ⟨⟨w, kq, w1, w2, w3, w4, w5⟩, p3⟩ := h7 (n + 1 + k) (by omega) u1 (by omega) (by
          intro z
          rcases List.mem_append.mp z with y | y
          · have := (hp.2.2 _ y).1
            omega
          · have := List.mem_singleton.mp y
            omega)
        have i3 := (p3 n nA kk (by omega)).1
        have da := dsL_a hat (tn := t) (sec := s.1.2.2.2.1 g) (ini := dcIni F s.1 n) k (s.1.2.1.length - k) s.1 (by omega)
        rw [← ed] at da
        have pl : plC w kq ≤ 4096 := by unfold plC; split <;> omega
        have cs : ∀ x, cB σ' x = cB s.1 x := fun x => by rw [ed]; exact dsL_p hat _ _ _ _ _ _ x
        have kc : (s.1.1.getD (s.1.1.length - 1) dBK).1 = 3 := i3.2
        obtain ⟨a, -, hcell, d, f⟩ := h
        refine ⟨fun x hx => ?_, fun p hpm hk => ?_, fun v y hy => ?_, fun x v y hx hx3 hf hv hy => ?_, fun x v w y y' hx hx3 hf hvw hw hy hz => ?_⟩
        · have hx : x < σ'.1.length := hx
          rw [by'.1] at hx
          show ∃ c, cB σ' x = nI c ∧ c ≤ 37052 ∧ ((σ'.1.getD x dBK).1 = 3 → 960 ≤ c)
          rw [(by'.2 x).1, cs x]
          exact a x hx
        · show ∃ c, cB σ' (σ'.1.length - 1) = nI c ∧ c ≤ 4096
          rw [by'.1, cs]
          exact ⟨c, cc, c4⟩
        · have hy : (σ'.2.1.getD v dVK).2 = some y := hy
          by_cases wv : s.1.2.1.length - k ≤ v
          · have lt := V_lt hy
            rw [len] at lt
            rw [da v wv (by omega)] at hy
            rw [← Option.some.inj hy]
            exact ⟨plC w kq, by dsimp only; rw [u2]; exact w5, pl⟩
          · rw [vo v (by omega)] at hy
            exact hcell v y hy
        · have hx : x < σ'.1.length := hx
          have hx3 : ¬ (σ'.1.getD x dBK).1 = 3 := hx3
          have hf : (σ'.1.getD x dBK).2.2.2.2 ≤ v := hf
          have hv : v < endV σ' x := hv
          have hy : (σ'.2.1.getD v dVK).2 = some y := hy
          show ∃ c d, y.2.2.2 = nI c ∧ cB σ' x = nI d ∧ c + wtY y ≤ d ∧ d ≤ 37052
          rw [by'.1] at hx
          rw [(by'.2 x).1] at hx3
          rw [(by'.2 x).2.2.2] at hf
          rw [en x] at hv
          have wx : ¬ x = s.1.1.length - 1 := fun z => hx3 (by rw [z]; exact kc)
          have := ear x (by omega)
          rw [vo v (by omega)] at hy
          rw [cs x]
          exact d x v y hx hx3 hf hv hy
        · have hx : x < σ'.1.length := hx
          have hx3 : ¬ (σ'.1.getD x dBK).1 = 3 := hx3
          have hf : (σ'.1.getD x dBK).2.2.2.2 ≤ v := hf
          have hw : w < endV σ' x := hw
          have hy : (σ'.2.1.getD v dVK).2 = some y := hy
          have hz : (σ'.2.1.getD w dVK).2 = some y' := hz
          rw [by'.1] at hx
          rw [(by'.2 x).1] at hx3
          rw [(by'.2 x).2.2.2] at hf
          rw [en x] at hw
          have wx : ¬ x = s.1.1.length - 1 := fun z => hx3 (by rw [z]; exact kc)
          have := ear x (by omega)
          rw [vo v (by omega)] at hy
          rw [vo w (by omega)] at hz
          exact f x v w y y' hx hx3 hf hvw hw hy hz
      · exact absurd u2 hat
  by_cases k6 : s.1.2.2.1 n = 6 ∧ s.1.2.2.1 (fPar A) = 5
  · obtain ⟨l1, -⟩ := lk_6 e k6.1 k6.2
    have cs : ∀ x, cB σ' x = cB s.1 x := fun x => by rw [l1]; rfl
    refine h.s by' (fun v y hy => ?_) ?_ (fun x hx c y1 y2 => ⟨c, by show cB σ' x = _; rw [cs x]; exact y1, Nat.le_refl _, y2⟩) (fun p hpm hk => ?_) fm
    · have hy : (σ'.2.1.getD v dVK).2 = some y := hy
      rw [l1, decl_at] at hy
      split at hy
      · cases hy
      · exact hy
    · exact (lk_ev e).1
    · show ∃ c, cB σ' (σ'.1.length - 1) = nI c ∧ c ≤ 4096
      rw [by'.1, cs]
      exact kA p hpm hk
  · have lo := lk_lo e k1 k5 k6
    have cs : ∀ x, cB σ' x = cB s.1 x := fun x => by unfold cB; rw [lo.1]
    refine h.s by' (fun v y hy => ?_) ?_ (fun x hx c y1 y2 => ⟨c, by show cB σ' x = _; rw [cs x]; exact y1, Nat.le_refl _, y2⟩) (fun p hpm hk => ?_) fm
    · have hy : (σ'.2.1.getD v dVK).2 = some y := hy
      rw [lo.2.1] at hy
      exact hy
    · exact (lk_ev e).1
    · show ∃ c, cB σ' (σ'.1.length - 1) = nI c ∧ c ≤ 4096
      rw [by'.1, cs]
      exact kA p hpm hk
