/-! THE RULES' INVARIANTS: which places are taken -/
/-- a place of the declaration that is open -/
def opP (F : List ND) (A : List Nat) (i : Nat) (σ : RS) (c : Nat) : Prop := ∃ p j, p ∈ A ∧ kK F p = 5 ∧ p < j ∧ j < i ∧ j ∉ A ∧ j < F.length ∧ kK F j = 7 ∧ σ.2.2.2.1 j = nI c
def tkV (σ : RS) (c : Nat) : Prop := ∃ v y, (curB σ).2.2.2.2 ≤ v ∧ (σ.2.1.getD v dVK).2 = some y ∧ y.2.2.2 = nI c
def P8 (F : List ND) (A : List Nat) (i : Nat) (s : SU) : Prop := (¬ inB s.1 3 → ∀ c, s.2 c = false) ∧ (inB s.1 3 → ∀ c, c < 960 → (s.2 c = true ↔ tkV s.1 c ∨ opP F A i s.1 c))
theorem P8.b {m0 : yM} {T : Nat} {F : List ND} (h0 : kK F 0 = 0) {N : Nat} {A : List Nat} {n : Nat} {s : SU} {σ : RS} (hp : PA m0 T F N A n) (h1 : P1 F A n s) (h : P8 F A n s) (e : jb s n = .inl σ) : P8 F (A ++ [n]) (n + 1) (σ, s.2) := by
  have kn := (h1.1 n hp.lt.1 (Or.inl (Nat.le_refl _))).1
  have k37 := hp.1.k37
  obtain ⟨a, b⟩ := h
  unfold jb at e
  by_cases q : bkN (s.1.2.2.1 n)
  · rw [if_pos q] at e
    have kb : kK F n = 1 ∨ kK F n = 2 ∨ kK F n = 3 := by rw [kn] at q; exact (ch37e _ hp.1.k37).mp q
    have eA := hp.blk h0 kb
    unfold lkBeg at e
    by_cases i3 : inB s.1 3
    · rw [if_pos i3] at e; cases e
    rw [if_neg i3] at e
    split at e
    · cases e
    · have e' := inl_e e
      obtain ⟨y1, y2, y3, y4, y5, y6, y7⟩ := beg_y s.1 n (s.1.2.2.1 n) (s.1.2.2.2.1 n)
      have ya := beg_at s.1 n (s.1.2.2.1 n) (s.1.2.2.2.1 n)
      rw [← e'] at y1 y2 y5 ya
      refine ⟨fun _ => a i3, fun i3' c hc => ⟨fun z => ?_, fun z => ?_⟩⟩
      · have : s.2 c = false := a i3 c
        have z : s.2 c = true := z
        rw [this] at z
        cases z
      · exfalso
        rcases z with ⟨v, y, z1, z2, z3⟩ | ⟨p, j, z1, z2, -⟩
        · have z1 : (curB σ).2.2.2.2 ≤ v := z1
          have z2 : (σ.2.1.getD v dVK).2 = some y := z2
          rw [y5] at z1
          have i3' : (curB σ).1 = 3 := i3'.2
          rw [y2] at i3'
          rw [ya, if_neg (fun w => by have := w.1; rw [i3'] at this; exact absurd this (by decide)), List.getD_eq_getElem?_getD, List.getElem?_eq_none_iff.mpr z1] at z2
          cases z2
        · rw [eA] at z1
          rcases List.mem_append.mp z1 with y | y
          · rw [List.mem_singleton.mp y, h0] at z2; omega
          · rw [List.mem_singleton.mp y] at z2; omega
  · rw [if_neg q] at e
    rw [inl_e e]
    refine ⟨a, fun i3 c hc => (b i3 c hc).trans (or_congr Iff.rfl ?_)⟩
    constructor
    · rintro ⟨p, j, z1, z2, z3, z4, z5, z6, z7, z8⟩
      refine ⟨p, j, List.mem_append_left _ z1, z2, z3, by omega, mem_l z5 (by omega), z6, z7, z8⟩
    · rintro ⟨p, j, z1, z2, z3, z4, z5, z6, z7, z8⟩
      obtain ⟨z4, z5⟩ := mem_b z4 z5
      rcases List.mem_append.mp z1 with y | y
      · exact ⟨p, j, y, z2, z3, z4, z5, z6, z7, z8⟩
      · rw [List.mem_singleton.mp y] at z3; omega
theorem P8.l {m0 : yM} {T : Nat} {F : List ND} (hK : K37 F) (h0 : kK F 0 = 0) (h7' : H7 F) (hV : ∀ i, i ≤ F.length → cntF (vB F) i ≤ 4096) (hB : ∀ i, i ≤ F.length → cntF (bB F) i ≤ 390) {N : Nat} {A : List Nat} {n : Nat} {s : SU} {σ' : RS} (hp : PA m0 T F N A n) (h1 : P1 F (A ++ [n]) (n + szF F n) s) (h2 : P2 F (A ++ [n]) (n + szF F n) s) (h3 : P3 F (A ++ [n]) (n + szF F n) s) (h3b : P3b F (A ++ [n]) (n + szF F n) s) (h6 : P6 F (A ++ [n]) (n + szF F n) s) (h7 : P7 F (A ++ [n]) (n + szF F n) s) (h9 : P9 F (A ++ [n]) s) (h : P8 F (A ++ [n]) (n + szF F n) s) (e : lk F A s.1 s.2 n = .inl σ') : P8 F A (n + szF F n) (σ', nU s.1 s.2 n) := by
  have hn := hp.lt.1
  have k37 := hp.1.k37
  have at' := hp.1.at
  have nA : n ∈ A ++ [n] := List.mem_append_right _ List.mem_cons_self
  obtain ⟨kn, vn, tn⟩ := h1.1 n hn (Or.inr nA)
  obtain ⟨e1, e2, e3, e4, by'⟩ := lk_ef e (fun z => by
    rw [kn] at z
    exact (h1.2.2.2.2 n nA ((ch37e _ k37).mp z)).2.1)
  obtain ⟨a, b⟩ := h
  -- an open place, as it was before
  have op : ¬ kK F n = 5 → ¬ kK F n = 7 → ∀ c, opP F (A ++ [n]) (n + szF F n) s.1 c ↔ opP F A (n + szF F n) σ' c := by
    intro n5 n7 c
    constructor
    · rintro ⟨p, j, z1, z2, z3, z4, z5, z6, z7, z8⟩
      have ne : j ≠ n := fun z => n7 (z ▸ z7)
      rcases List.mem_append.mp z1 with y | y
      · exact ⟨p, j, y, z2, z3, z4, fun w => z5 (List.mem_append_left _ w), z6, z7, (e1 j ne).2.trans z8⟩
      · rw [List.mem_singleton.mp y] at z2; exact absurd z2 n5
    · rintro ⟨p, j, z1, z2, z3, z4, z5, z6, z7, z8⟩
      have ne : j ≠ n := fun z => n7 (z ▸ z7)
      exact ⟨p, j, List.mem_append_left _ z1, z2, z3, z4, mem_l z5 ne, z6, z7, (e1 j ne).2.symm.trans z8⟩
  have i7 : nI (kK F n) = 7 ↔ kK F n = 7 := nI_eq (b := 7) (by omega) (by omega)
  have i5 : nI (kK F n) = 5 ↔ kK F n = 5 := nI_eq (b := 5) (by omega) (by omega)
  by_cases k7 : kK F n = 7
  · obtain ⟨w, k, w1, w2, w3, w4⟩ := h7' n hn k7
    obtain ⟨l1, l2, l3, l4, l5⟩ := lk_7 e (by rw [kn]; exact i7.mpr k7) (by rw [vn]; exact w4) w1 w2
    obtain ⟨p1, p2, p3⟩ := hp.p7 h0 k7
    have v1 : σ'.2.1 = s.1.2.1 := by rw [l1]; rfl
    refine ⟨fun z => absurd ((by'.i 3).mpr l2) z, fun _ c hc => ?_⟩
    show nU s.1 s.2 n c = true ↔ _
    rw [l5]
    dsimp only
    rw [Bool.or_eq_true, decide_eq_true_iff, b l2 c hc]
    have pl : plC w k < 960 := by unfold plC; split <;> omega
    have tk : tkV σ' c ↔ tkV s.1 c := by unfold tkV; rw [v1, by'.c.2.2.2]
    have vn' : σ'.2.2.2.1 n = nI (plC w k) := by
      rw [l1]
      show upI _ n _ n = _
      rw [upI_n]
    rw [tk, or_assoc]
    refine or_congr Iff.rfl ?_
    constructor
    · rintro (⟨p, j, z1, z2, z3, z4, z5, z6, z7, z8⟩ | z)
      · have ne : j ≠ n := fun z => z5 (z ▸ nA)
        rcases List.mem_append.mp z1 with y | y
        · exact ⟨p, j, y, z2, z3, z4, fun w => z5 (List.mem_append_left _ w), z6, z7, (e1 j ne).2.trans z8⟩
        · rw [List.mem_singleton.mp y] at z2; omega
      · refine ⟨fPar A, n, p1, p2, by omega, by omega, fun w => ?_, hn, k7, by rw [vn', z]⟩
        have := (hp.2.2 n w).1
        omega
    · rintro ⟨p, j, z1, z2, z3, z4, z5, z6, z7, z8⟩
      by_cases ne : j = n
      · subst ne
        rw [vn'] at z8
        exact Or.inr ((nI_eq (by omega) (by omega)).mp z8).symm
      · exact Or.inl ⟨p, j, List.mem_append_left _ z1, z2, z3, z4, mem_l z5 ne, z6, z7, (e1 j ne).2.symm.trans z8⟩
  have eU : nU s.1 s.2 n = s.2 := by
    unfold nU
    rw [if_neg (fun z => k7 (i7.mp (by rw [← kn]; exact z)))]
  unfold P8
  rw [eU]
  by_cases k5 : kK F n = 5
  · obtain ⟨l1, l2, l3⟩ := lk_5 e (by rw [kn]; exact i5.mpr k5)
    refine ⟨fun z => a (fun w => z ((by'.i 3).mpr w)), fun z c hc => ?_⟩
    have i3 := (by'.i 3).mp z
    show s.2 c = true ↔ tkV σ' c ∨ opP F A (n + szF F n) σ' c
    rw [b i3 c hc]
    obtain ⟨k, t, bb, g, eA, kb, kg, k1', c1, et, t1, t2, t3, t4, t5, t6, t7, qk⟩ := dcl_f hK h0 hp h1 k5
    have no : ¬ opP F A (n + szF F n) σ' c := by
      rintro ⟨p, j, z1, z2, -⟩
      rw [eA] at z1
      rcases List.mem_cons.mp z1 with y | y
      · rw [y, h0] at z2; omega
      · rcases List.mem_cons.mp y with y | y
        · rw [y] at z2; omega
        · rw [List.mem_singleton.mp y] at z2; omega
    have le := h3.1
    rw [qk] at le
    have bA : bb ∈ A := by rw [eA]; simp
    have B0 : 0 < s.1.1.length := (h1.2.2.2.2 bb (List.mem_append_left _ bA) kb).1
    have fb := h3b B0
    rw [qk] at fb
    have gA : fPar A = g ∧ g ∈ A := by rw [eA]; exact ⟨rfl, by simp⟩
    have ed : σ' = dsL (dcAt F s.1 n) t (s.1.2.2.2.1 g) (dcIni F s.1 n) k (s.1.2.1.length - k) s.1 := by
      rw [l1]
      unfold dcS
      rw [c1, et, gA.1, show n + 1 + k - n - 1 = k by omega]
    have dv := dsL_v (dcAt F s.1 n) t (s.1.2.2.2.1 g) (dcIni F s.1 n) k (s.1.2.1.length - k) s.1 (by omega)
    rw [← ed] at dv
    have vo : ∀ u, u < s.1.2.1.length - k → σ'.2.1.getD u dVK = s.1.2.1.getD u dVK := fun u hu => (dv u).2.1 (by omega)
    have len : σ'.2.1.length = s.1.2.1.length := by rw [ed]; exact (dsL_len _ _ _ _ _ _ _).2.1
    have ol : ∀ u y, (s.1.2.1.getD u dVK).2 = some y → u < s.1.2.1.length - k := by
      intro u y hy
      rcases Nat.lt_or_ge u (s.1.2.1.length - k) with w | w
      · exact w
      · have lt := V_lt hy
        have := h3.2.2 u lt (by rw [qk]; omega)
        rw [this] at hy
        cases hy
    have f' : (curB σ').2.2.2.2 = (curB s.1).2.2.2.2 := by'.c.2.2.2
    have jt : n + 1 + k ∉ A ++ [n] := by
      intro z
      rcases List.mem_append.mp z with y | y
      · have := (hp.2.2 _ y).1
        omega
      · have := List.mem_singleton.mp y
        omega
    have v4 : s.1.2.1.length ≤ 4096 := by
      have := hV (n + szF F n) at'.1
      have := h2.2.1
      omega
    have b4 : s.1.1.length ≤ 399 := by
      have := hB (n + szF F n) at'.1
      have := h2.1.1
      omega
    by_cases hat : dcAt F s.1 n = -1
    · -- no place: cells from 960 on
      rw [hat] at ed
      obtain ⟨c0, cc, c4⟩ := h9.2.1 bb (List.mem_append_left _ bA) kb
      obtain ⟨c', a1, a2, a3⟩ := h9.1 (s.1.1.length - 1) (by omega)
      have c9 := a3 i3.2
      have : c' = c0 := (nI_eq (by omega) (by omega)).mp (a1.symm.trans cc)
      have tA : t ∉ A ++ [n] := by
        intro z
        rcases List.mem_append.mp z with y | y
        · have := (hp.2.2 t y).1
          omega
        · have := List.mem_singleton.mp y
          omega
      obtain ⟨zz, z1, z2, z3⟩ := szS_d h1 h6 h9 b4 (by omega) t2 tA t4 nA k5 t1
      obtain ⟨dc1, dc2⟩ := dsL_c (sec := s.1.2.2.2.1 g) (ini := dcIni F s.1 n) k (s.1.2.1.length - k) s.1 c0 B0 cc z1 (by omega)
      rw [← ed] at dc1 dc2
      constructor
      · rintro (⟨v, y, x1, x2, x3⟩ | ⟨p, j, x1, x2, x3, x4, x5, x6, x7, x8⟩)
        · exact Or.inl ⟨v, y, by rw [f']; exact x1, by rw [vo v (ol v y x2)]; exact x2, x3⟩
        · exfalso
          have pn : p = n := by
            rcases List.mem_append.mp x1 with w | w
            · exfalso
              rw [eA] at w
              rcases List.mem_cons.mp w with y | y
              · rw [y, h0] at x2; omega
              · rcases List.mem_cons.mp y with y | y
                · rw [y] at x2; omega
                · rw [List.mem_singleton.mp y] at x2; omega
            · exact List.mem_singleton.mp w
          subst pn
          have j2 := ((h7 j x6 x7 x4 x5).2 p nA k5 x3).2
          have kj : k = 1 := by
            rcases Nat.lt_or_ge 1 k with w | w
            · have := t5 1 w
              rw [show p + 1 + 1 = j by omega] at this
              omega
            · omega
          rcases t7 with ⟨w1, w2⟩ | ⟨w1, w2⟩
          · rw [w2] at hat
            obtain ⟨⟨q1, q2, q3, q4, q5, q6, q7⟩, -⟩ := h7 (p + 1 + k) (by omega) w1 (by omega) jt
            rw [q7] at hat
            have pl : plC q1 q2 < 2 ^ 31 := by unfold plC; split <;> omega
            exact nI_m1 pl hat
          · exact w1 (by rw [kj, show p + 1 + 1 = j by omega]; exact x7)
      · rintro (⟨v, y, x1, x2, x3⟩ | z)
        · rw [f'] at x1
          by_cases nv : s.1.2.1.length - k ≤ v
          · exfalso
            have lt := V_lt x2
            rw [len] at lt
            rw [dc2 v nv (by omega)] at x2
            rw [← Option.some.inj x2] at x3
            dsimp only at x3
            have : (v - (s.1.2.1.length - k)) * zz ≤ 4096 * 37052 := Nat.mul_le_mul (by omega) z2
            have := (nI_eq (by omega) (by omega)).mp x3
            omega
          · rw [vo v (by omega)] at x2
            exact Or.inl ⟨v, y, x1, x2, x3⟩
        · exact absurd z no
    · -- the place that is told
      have da := dsL_a hat (tn := t) (sec := s.1.2.2.2.1 g) (ini := dcIni F s.1 n) k (s.1.2.1.length - k) s.1 (by omega)
      rw [← ed] at da
      rcases t7 with ⟨w1, w2⟩ | ⟨w1, w2⟩
      · constructor
        · rintro (⟨v, y, x1, x2, x3⟩ | ⟨p, j, x1, x2, x3, x4, x5, x6, x7, x8⟩)
          · exact Or.inl ⟨v, y, by rw [f']; exact x1, by rw [vo v (ol v y x2)]; exact x2, x3⟩
          · left
            have pn : p = n := by
              rcases List.mem_append.mp x1 with w | w
              · exfalso
                rw [eA] at w
                rcases List.mem_cons.mp w with y | y
                · rw [y, h0] at x2; omega
                · rcases List.mem_cons.mp y with y | y
                  · rw [y] at x2; omega
                  · rw [List.mem_singleton.mp y] at x2; omega
              · exact List.mem_singleton.mp w
            subst pn
            have j2 := ((h7 j x6 x7 x4 x5).2 p nA k5 x3).2
            have k2 := ((h7 (p + 1 + k) (by omega) w1 (by omega) jt).2 p nA k5 (by omega)).2
            have ej : j = p + 1 + k := by omega
            subst ej
            refine ⟨s.1.2.1.length - 1, _, ?_, da (s.1.2.1.length - 1) (by omega) (by omega), ?_⟩
            · rw [f']; omega
            · dsimp only
              rw [w2]; exact x8
        · rintro (⟨v, y, x1, x2, x3⟩ | z)
          · rw [f'] at x1
            by_cases nv : s.1.2.1.length - k ≤ v
            · have lt := V_lt x2
              rw [len] at lt
              rw [da v nv (by omega)] at x2
              rw [← Option.some.inj x2] at x3
              dsimp only at x3
              rw [w2] at x3
              exact Or.inr ⟨n, n + 1 + k, nA, k5, by omega, by omega, jt, by omega, w1, x3⟩
            · rw [vo v (by omega)] at x2
              exact Or.inl ⟨v, y, x1, x2, x3⟩
          · exact absurd z no
      · exact absurd w2 hat
  · refine ⟨fun z => a (fun w => z ((by'.i 3).mpr w)), fun z c hc => ?_⟩
    have i3 := (by'.i 3).mp z
    show s.2 c = true ↔ tkV σ' c ∨ opP F A (n + szF F n) σ' c
    rw [b i3 c hc]
    have n5 : ¬ s.1.2.2.1 n = 5 := by rw [kn]; exact fun z => k5 (i5.mp z)
    refine or_congr ?_ (op k5 k7 c)
    unfold tkV
    rw [by'.c.2.2.2]
    by_cases k6 : s.1.2.2.1 n = 6 ∧ s.1.2.2.1 (fPar A) = 5
    · obtain ⟨l1, -⟩ := lk_6 e k6.1 k6.2
      constructor
      · rintro ⟨v, y, x1, x2, x3⟩
        have lt := V_lt x2
        refine ⟨v, y, x1, ?_, x3⟩
        rw [l1, decl_at, if_neg (by omega)]
        exact x2
      · rintro ⟨v, y, x1, x2, x3⟩
        rw [l1, decl_at] at x2
        split at x2
        · cases x2
        · exact ⟨v, y, x1, x2, x3⟩
    · rw [lk_v e n5 k6]
