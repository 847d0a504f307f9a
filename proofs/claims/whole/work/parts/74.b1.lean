/-! THE RULES' INVARIANTS: described variables, a look further -/
theorem lk_v {F : List ND} {A : List Nat} {σ σ' : RS} {U : Nat → Bool} {n : Nat} (h : lk F A σ U n = .inl σ') (k5 : ¬ σ.2.2.1 n = 5) (k6 : ¬ (σ.2.2.1 n = 6 ∧ σ.2.2.1 (fPar A) = 5)) : σ'.2.1 = σ.2.1 := by
  by_cases k1 : bkN (σ.2.2.1 n)
  · unfold lk at h
    have k0 : ¬ σ.2.2.1 n = 0 := by rcases k1 with k | k | k <;> rw [k] <;> decide
    rw [if_neg k0, if_pos k1] at h
    unfold lkBlk at h
    split at h
    · cases h
    · rw [inl_e h, (ownC_y _ _ _ _).2.1]
  · exact (lk_lo h k1 k5 k6).2.1
theorem lk_5 {F : List ND} {A : List Nat} {σ σ' : RS} {U : Nat → Bool} {n : Nat} (h : lk F A σ U n = .inl σ') (k5 : σ.2.2.1 n = 5) : σ' = dcS F σ A n ∧ (curB σ').2.2.2.1 ≤ 4096 ∧ ¬ (¬ σ.2.2.2.1 (fPar A) = 0 ∧ ¬ σ.2.2.1 (dcT F σ n) = 8) := by
  unfold lk at h
  have k0 : ¬ σ.2.2.1 n = 0 := by rw [k5]; decide
  have k1 : ¬ bkN (σ.2.2.1 n) := by rw [k5]; decide
  have k4 : ¬ σ.2.2.1 n = 4 := by rw [k5]; decide
  rw [if_neg k0, if_neg k1, if_neg k4, if_pos k5] at h
  unfold lkDcl at h
  by_cases a : ¬ σ.2.2.2.1 (fPar A) = 0 ∧ ¬ σ.2.2.1 (dcT F σ n) = 8
  · rw [if_pos a] at h; cases h
  rw [if_neg a] at h
  split at h
  · cases h
  split at h
  · cases h
  by_cases c : ¬ (curB (dcS F σ A n)).2.2.2.1 ≤ 4096
  · rw [if_pos c] at h; cases h
  rw [if_neg c] at h
  have e := inl_e h
  exact ⟨e, by rw [e]; exact Decidable.byContradiction c, a⟩
theorem lk_6 {F : List ND} {A : List Nat} {σ σ' : RS} {U : Nat → Bool} {n : Nat} (h : lk F A σ U n = .inl σ') (k6 : σ.2.2.1 n = 6) (kp : σ.2.2.1 (fPar A) = 5) : σ' = decl σ (σ.2.2.2.1 n) ∧ fVar σ (σ.2.2.2.1 n) = -1 ∧ bix σ.1 (σ.2.2.2.1 n) σ.1.length = -1 ∧ ¬ isSt (σ.2.2.2.1 n) := by
  unfold lk at h
  have k0 : ¬ σ.2.2.1 n = 0 := by rw [k6]; decide
  have k1 : ¬ bkN (σ.2.2.1 n) := by rw [k6]; decide
  have k4 : ¬ σ.2.2.1 n = 4 := by rw [k6]; decide
  have k5 : ¬ σ.2.2.1 n = 5 := by rw [k6]; decide
  rw [if_neg k0, if_neg k1, if_neg k4, if_neg k5, if_pos k6] at h
  unfold lkName at h
  rw [if_neg (by rw [kp]; decide), if_pos kp] at h
  by_cases c : ¬ fVar σ (σ.2.2.2.1 n) = -1 ∨ ¬ bix σ.1 (σ.2.2.2.1 n) σ.1.length = -1 ∨ isSt (σ.2.2.2.1 n)
  · rw [if_pos c] at h; cases h
  rw [if_neg c] at h
  refine ⟨inl_e h, Decidable.byContradiction (fun z => c (Or.inl z)), Decidable.byContradiction (fun z => c (Or.inr (Or.inl z))), fun z => c (Or.inr (Or.inr z))⟩
theorem skN_e (σ : RS) (e : Nat) : ∀ (q f i : Nat), q < f → (∀ x, x < q → i + x < e ∧ σ.2.2.1 (i + x) = 6) → ¬ (i + q < e ∧ σ.2.2.1 (i + q) = 6) → skN σ e f i = i + q
  | 0, f, i, hf, _, h2 => by
    cases f with
    | zero => omega
    | succ f =>
      show (if i < e ∧ σ.2.2.1 i = 6 then skN σ e f (i + 1) else i) = i + 0
      rw [Nat.add_zero] at h2
      exact (if_neg h2).trans rfl
  | q + 1, f, i, hf, h1, h2 => by
    cases f with
    | zero => omega
    | succ f =>
      show (if i < e ∧ σ.2.2.1 i = 6 then skN σ e f (i + 1) else i) = _
      have h10 := h1 0 (by omega)
      rw [Nat.add_zero] at h10
      rw [if_pos h10, skN_e σ e q f (i + 1) (by omega) (fun x hx => by
        have := h1 (x + 1) (by omega)
        rw [show i + 1 + x = i + (x + 1) by omega]; exact this) (by rw [show i + 1 + q = i + (q + 1) by omega]; exact h2)]
      omega
/-- the names of a declaration are counted -/
theorem dcT0_e {m0 : yM} {T : Nat} {F : List ND} (hK : K37 F) {N n k : Nat} (h : TW m0 T F N n) {A : List Nat} {i : Nat} {s : SU} (h1 : P1 F A i s) (hk : ∀ x, x < k → (kids F n)[x]? = some (n + 1 + x) ∧ kK F (n + 1 + x) = 6) (hk1 : (kids F n)[k]? = some (n + 1 + k)) (h6 : ∀ j, n + 1 + k ≤ j → j < n + szF F n → ¬ kK F j = 6) : dcT0 F s.1 n = n + 1 + k ∧ cntF (b6 F) (n + szF F n) = cntF (b6 F) (n + 1) + k ∧ n + 1 + k < n + szF F n := by
  have at' := h.at
  have lt : ∀ c, c ∈ kids F n → c < n + szF F n := by
    intro c hc
    cases N with
    | zero => exact absurd h (fun z => z)
    | succ N =>
      have t := tile.mem h.2.2.2.2.2.1 c hc
      have z := (h.2.2.2.2.2.2 c hc).at.2
      omega
  have l1 := lt _ (List.mem_of_getElem? hk1)
  have kd : ∀ j, j < F.length → (s.1.2.2.1 j = 6 ↔ kK F j = 6) := by
    intro j hj
    rcases h1.2.1 j hj with y | ⟨y, z⟩
    · rw [y]; exact nI_eq (b := 6) (by have := hK j hj; omega) (by omega)
    · rw [y]
      exact ⟨fun w => absurd w (by decide), fun w => by omega⟩
  refine ⟨?_, ?_, l1⟩
  · unfold dcT0
    refine skN_e s.1 _ k _ _ (by omega) (fun x hx => ?_) (fun z => ?_)
    · obtain ⟨y1, y2⟩ := hk x hx
      have := lt _ (List.mem_of_getElem? y1)
      exact ⟨this, (kd _ (by omega)).mpr y2⟩
    · exact h6 (n + 1 + k) (Nat.le_refl _) l1 ((kd _ (by omega)).mp z.2)
  · have e1 : cntF (b6 F) (n + szF F n) = cntF (b6 F) (n + 1 + k) := by
      have := cntF_no (b6 F) (i := n + 1 + k) (n + szF F n - (n + 1 + k)) (fun j z1 z2 z => h6 j z1 (by omega) (decide_eq_true_iff.mp z))
      rw [show n + 1 + k + (n + szF F n - (n + 1 + k)) = n + szF F n by omega] at this
      exact this
    rw [e1]
    exact cntF_al (b6 F) k (fun j z1 z2 => by
      have := (hk (j - (n + 1)) (by omega)).2
      rw [show n + 1 + (j - (n + 1)) = j by omega] at this
      exact decide_eq_true this)
theorem qN_z {F : List ND} {A : List Nat} {i : Nat} (h : ¬ (4 ≤ A.length ∧ kK F (A.getD 3 0) = 5)) : qN F A i = 0 := if_neg h
theorem P3.l {m0 : yM} {T : Nat} {F : List ND} (hK : K37 F) (h0 : kK F 0 = 0) {N : Nat} {A : List Nat} {n : Nat} {s : SU} {σ' : RS} (hp : PA m0 T F N A n) (h1 : P1 F (A ++ [n]) (n + szF F n) s) (h : P3 F (A ++ [n]) (n + szF F n) s) (e : lk F A s.1 s.2 n = .inl σ') : P3 F A (n + szF F n) (σ', nU s.1 s.2 n) := by
  have hn := hp.lt.1
  have k37 := hp.1.k37
  have nA : n ∈ A ++ [n] := List.mem_append_right _ List.mem_cons_self
  have kn := (h1.1 n hn (Or.inr nA)).1
  have sz := hp.1.at.2
  have i5 : nI (kK F n) = 5 ↔ kK F n = 5 := nI_eq (b := 5) (by omega) (by omega)
  have i6 : nI (kK F n) = 6 ↔ kK F n = 6 := nI_eq (b := 6) (by omega) (by omega)
  obtain ⟨a1, a2, a3⟩ := h
  by_cases k5 : kK F n = 5
  · obtain ⟨b, g, eA, kb, kg, gb, ng⟩ := hp.dcl h0 k5
    obtain ⟨k, e0, t, d1, d2, d3, d4, d5, d6, d7, d8⟩ := dcl_s hp.1 k5
    obtain ⟨c1, c2, c3⟩ := dcT0_e hK hp.1 h1 d2 d3 d8
    obtain ⟨l1, -, -⟩ := lk_5 e (by rw [kn]; exact i5.mpr k5)
    have q1 : qN F (A ++ [n]) (n + szF F n) = k := by
      unfold qN
      have gn : (A ++ [n]).getD 3 0 = n := by rw [eA]; rfl
      have pB : 4 ≤ (A ++ [n]).length ∧ kK F ((A ++ [n]).getD 3 0) = 5 := ⟨by rw [eA]; exact Nat.le_refl 4, by rw [gn]; exact k5⟩
      have f0 : ((A ++ [n]).filter (b6 F)).length = 0 := by
        have nb : ∀ x, x ∈ A ++ [n] → ¬ b6 F x = true := by
          intro x hx z
          have z := decide_eq_true_iff.mp z
          rw [eA] at hx
          rcases List.mem_append.mp hx with y | y
          · rcases List.mem_cons.mp y with y | y
            · rw [y, h0] at z; omega
            · rcases List.mem_cons.mp y with y | y
              · rw [y] at z; omega
              · rw [List.mem_singleton.mp y] at z; omega
          · rw [List.mem_singleton.mp y] at z; omega
        rw [List.filter_eq_nil_iff.mpr nb]
        rfl
      rw [if_pos pB, gn, f0, c2]
      omega
    have q2 : qN F A (n + szF F n) = 0 := qN_z (fun z => by
      have := z.1
      rw [eA] at this
      exact absurd this (show ¬ 4 ≤ 3 by decide))
    rw [q1] at a1 a2 a3
    have ed : dcS F s.1 A n = dsL (dcAt F s.1 n) (dcT F s.1 n) (s.1.2.2.2.1 (fPar A)) (dcIni F s.1 n) k (s.1.2.1.length - k) s.1 := by
      unfold dcS
      rw [c1, show n + 1 + k - n - 1 = k by omega]
    have len : σ'.2.1.length = s.1.2.1.length := by rw [l1, ed]; exact (dsL_len _ _ _ _ _ _ _).2.1
    unfold P3
    rw [q2]
    refine ⟨Nat.zero_le _, fun v hv => ?_, fun v hv hv2 => ?_⟩
    · have hv : v + 0 < σ'.2.1.length := hv
      rw [len] at hv
      rw [vOk_i]
      refine ⟨by show v < σ'.2.1.length; rw [len]; omega, ?_⟩
      show ∃ y, (σ'.2.1.getD v dVK).2 = some y
      obtain ⟨o1, o2, o3⟩ := dsL_v (dcAt F s.1 n) (dcT F s.1 n) (s.1.2.2.2.1 (fPar A)) (dcIni F s.1 n) k (s.1.2.1.length - k) s.1 (by omega) v
      rw [l1, ed]
      by_cases c : s.1.2.1.length - k ≤ v ∧ v < s.1.2.1.length - k + k
      · obtain ⟨x, hx⟩ := o3 c
        exact ⟨_, hx⟩
      · rw [o2 c]
        exact ((vOk_i s.1 v).mp (a2 v (by omega))).2
    · have hv : v < σ'.2.1.length := hv
      have hv2 : σ'.2.1.length ≤ v + 0 := hv2
      omega
  · have n5 : ¬ s.1.2.2.1 n = 5 := by rw [kn]; exact fun z => k5 (i5.mp z)
    by_cases c : 4 ≤ A.length ∧ kK F (A.getD 3 0) = 5
    · obtain ⟨i1, i2⟩ := hp.ind A.length rfl c.1 c.2
      have g := gD_ap A n (i := 3) (by omega)
      have pB : 4 ≤ (A ++ [n]).length ∧ kK F ((A ++ [n]).getD 3 0) = 5 := ⟨by rw [List.length_append]; omega, by rw [g]; exact c.2⟩
      have dm : A.getD 3 0 ∈ A := List.mem_of_getElem? (getD_some (d := 0) (show 3 < A.length by omega))
      have dn := (hp.2.2 _ dm).1
      have eq : qN F (A ++ [n]) (n + szF F n) = cntF (b6 F) (n + szF F n) - cntF (b6 F) (A.getD 3 0 + 1) - ((A.filter (b6 F)).length + (if kK F n = 6 then 1 else 0)) := by
        unfold qN
        rw [if_pos pB, g, filt6]
      have eq2 : qN F A (n + szF F n) = cntF (b6 F) (n + szF F n) - cntF (b6 F) (A.getD 3 0 + 1) - (A.filter (b6 F)).length := by
        unfold qN
        rw [if_pos c]
      by_cases k6 : kK F n = 6
      · obtain ⟨j1, j2⟩ := i2 k6
        have kp : s.1.2.2.1 (fPar A) = 5 := by
          rw [j2, (h1.1 _ (hp.lt.2 _ dm) (Or.inr (List.mem_append_left _ dm))).1, c.2]
          rfl
        obtain ⟨l1, -⟩ := lk_6 e (by rw [kn, k6]; rfl) kp
        have s1 := (hp.1.leaf (by rw [k6]; rfl)).1
        have eA : ∃ b g, A = [0, b, g, A.getD 3 0] ∧ (kK F b = 1 ∨ kK F b = 2 ∨ kK F b = 3) ∧ kK F g = 4 := by
          rcases hp.up with ⟨y, -⟩ | ⟨B, p, M, e1, e2, e3, e4, e5⟩
          · rw [y] at j1; exact absurd j1 (by decide)
          · have pd : p = A.getD 3 0 := e2.symm.trans j2
            have k5' : kK F p = 5 := by rw [pd]; exact c.2
            obtain ⟨b, g, eB, kb, kg, -, -⟩ := e5.dcl h0 k5'
            exact ⟨b, g, by rw [← pd, e1, eB]; rfl, kb, kg⟩
        have fA : (A.filter (b6 F)).length = 0 := by
          obtain ⟨b, g, eA, kb, kg⟩ := eA
          have nb : ∀ x, x ∈ A → ¬ b6 F x = true := by
            intro x hx z
            have z := decide_eq_true_iff.mp z
            rw [eA] at hx
            rcases List.mem_cons.mp hx with y | y
            · rw [y, h0] at z; omega
            · rcases List.mem_cons.mp y with y | y
              · rw [y] at z; omega
              · rcases List.mem_cons.mp y with y | y
                · rw [y] at z; omega
                · rw [List.mem_singleton.mp y, c.2] at z; omega
          rw [List.filter_eq_nil_iff.mpr nb]
          rfl
        have le := cntF_le (b6 F) (show A.getD 3 0 + 1 ≤ n by omega)
        have cs := b6_s F n
        rw [if_pos k6] at cs
        have q1 : qN F A (n + szF F n) = qN F (A ++ [n]) (n + szF F n) + 1 := by
          have e1 := eq
          have e2 := eq2
          rw [if_pos k6] at e1
          rw [s1] at e1 e2 ⊢
          omega
        unfold P3
        rw [q1]
        have ln : σ'.2.1.length = s.1.2.1.length + 1 := by
          rw [l1]
          show (s.1.2.1 ++ [(s.1.2.2.2.1 n, none)]).length = _
          rw [List.length_append]
          rfl
        have at' : ∀ u, σ'.2.1.getD u dVK = if u = s.1.2.1.length then (s.1.2.2.2.1 n, none) else s.1.2.1.getD u dVK := fun u => by rw [l1]; exact decl_at _ _ u
        refine ⟨by show _ ≤ σ'.2.1.length; rw [ln]; omega, fun v hv => ?_, fun v hv hv2 => ?_⟩
        · have hv : v + (qN F (A ++ [n]) (n + szF F n) + 1) < σ'.2.1.length := hv
          rw [ln] at hv
          obtain ⟨o1, o2⟩ := (vOk_i s.1 v).mp (a2 v (by omega))
          rw [vOk_i]
          refine ⟨by show v < σ'.2.1.length; rw [ln]; omega, ?_⟩
          show ∃ y, (σ'.2.1.getD v dVK).2 = some y
          rw [at', if_neg (by omega)]
          exact o2
        · have hv : v < σ'.2.1.length := hv
          have hv2 : σ'.2.1.length ≤ v + (qN F (A ++ [n]) (n + szF F n) + 1) := hv2
          rw [ln] at hv hv2
          show (σ'.2.1.getD v dVK).2 = none
          rw [at']
          by_cases ev : v = s.1.2.1.length
          · rw [if_pos ev]
          · rw [if_neg ev]
            exact a3 v (by omega) (by omega)
      · have eq : qN F (A ++ [n]) (n + szF F n) = qN F A (n + szF F n) := by
          have := eq
          rw [if_neg k6] at this
          omega
        have vs := lk_v e n5 (fun z => k6 (by have := z.1; rw [kn] at this; exact i6.mp this))
        unfold P3
        rw [← eq]
        show qN F (A ++ [n]) (n + szF F n) ≤ σ'.2.1.length ∧ (∀ v, v + qN F (A ++ [n]) (n + szF F n) < σ'.2.1.length → vOk σ' v) ∧ ∀ v, v < σ'.2.1.length → σ'.2.1.length ≤ v + qN F (A ++ [n]) (n + szF F n) → (σ'.2.1.getD v dVK).2 = none
        unfold vOk
        rw [vs]
        exact ⟨a1, a2, a3⟩
    · have q1 : qN F A (n + szF F n) = 0 := qN_z c
      have q2 : qN F (A ++ [n]) (n + szF F n) = 0 := qN_z (fun z => by
        obtain ⟨z1, z2⟩ := z
        rw [List.length_append, List.length_singleton] at z1
        by_cases c4 : 4 ≤ A.length
        · rw [gD_ap A n (by omega)] at z2
          exact c ⟨c4, z2⟩
        · have c3 : A.length = 3 := by omega
          have g : (A ++ [n]).getD 3 0 = n := by
            rw [List.getD_eq_getElem?_getD, List.getElem?_append_right (by omega), c3]
            rfl
          rw [g] at z2
          exact k5 z2)
      have n6 : ¬ (s.1.2.2.1 n = 6 ∧ s.1.2.2.1 (fPar A) = 5) := by
        rintro ⟨z1, z2⟩
        rw [kn] at z1
        have z1 := i6.mp z1
        rcases hp.up with ⟨y, y2⟩ | ⟨B, p, M, e1, e2, e3, e4, e5⟩
        · rw [y2, h0] at z1; omega
        · have pm : p ∈ A := by rw [e1]; exact List.mem_append_right _ List.mem_cons_self
          rw [e2, (h1.1 p (hp.lt.2 p pm) (Or.inr (List.mem_append_left _ pm))).1] at z2
          have k5' : kK F p = 5 := (nI_eq (b := 5) (by have := e5.1.k37; omega) (by omega)).mp z2
          obtain ⟨b, g, eB, -, -, -, -⟩ := e5.dcl h0 k5'
          refine c ⟨by rw [e1, eB]; exact Nat.le_refl 4, ?_⟩
          have : A.getD 3 0 = p := by rw [e1, eB]; rfl
          rw [this]; exact k5'
      have vs := lk_v e n5 n6
      rw [q2] at a1 a2 a3
      unfold P3
      rw [q1]
      show 0 ≤ σ'.2.1.length ∧ (∀ v, v + 0 < σ'.2.1.length → vOk σ' v) ∧ ∀ v, v < σ'.2.1.length → σ'.2.1.length ≤ v + 0 → (σ'.2.1.getD v dVK).2 = none
      unfold vOk
      rw [vs]
      exact ⟨a1, a2, a3⟩
