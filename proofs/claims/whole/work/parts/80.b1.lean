/-! THE RULES' INVARIANTS: where cells lie: types, places -/
def P27 (F : List ND) (A : List Nat) (i : Nat) (s : SU) : Prop := ∀ j, j < F.length → j < i → j ∉ A → kK F j = 10 → ∃ k, s.1.2.2.2.1 j = nI k ∧ (k < 9 ∨ (9 ≤ k ∧ k - 9 + 1 < s.1.1.length))
theorem P27.b {F : List ND} {A : List Nat} {n : Nat} {s : SU} {σ : RS} (h : P27 F A n s) (e : jb s n = .inl σ) : P27 F (A ++ [n]) (n + 1) (σ, s.2) := by
  unfold jb at e
  intro j j1 j2 j3 kj
  obtain ⟨j2, j3⟩ := mem_b j2 j3
  obtain ⟨k, k1, k2⟩ := h j j1 j2 j3 kj
  split at e
  · unfold lkBeg at e
    split at e
    · cases e
    split at e
    · cases e
    · have e' := inl_e e
      obtain ⟨y1, y2, y3, y4, y5, y6, y7⟩ := beg_y s.1 n (s.1.2.2.1 n) (s.1.2.2.2.1 n)
      rw [← e'] at y1 y6
      refine ⟨k, by show σ.2.2.2.1 j = _; rw [y6]; exact k1, ?_⟩
      show k < 9 ∨ (9 ≤ k ∧ k - 9 + 1 < σ.1.length)
      omega
  · rw [inl_e e]
    exact ⟨k, k1, k2⟩
theorem P27.l {m0 : yM} {T : Nat} {F : List ND} (hF : HF m0 T F) {N : Nat} {A : List Nat} {n : Nat} {s : SU} {σ' : RS} (hp : PA m0 T F N A n) (h : PAll F (A ++ [n]) (n + szF F n) s) (hq : P27 F (A ++ [n]) (n + szF F n) s) (e : lk F A s.1 s.2 n = .inl σ') : P27 F A (n + szF F n) (σ', nU s.1 s.2 n) := by
  obtain ⟨n1, -, -, -⟩ := h.1.nb hF hp.1.at.1
  have h1 := h.1.1
  have k37 := hp.1.k37
  have nA : n ∈ A ++ [n] := List.mem_append_right _ List.mem_cons_self
  obtain ⟨kn, vn, tn⟩ := h1.1 n hp.lt.1 (Or.inr nA)
  obtain ⟨e1, e2, e3, e4, by'⟩ := lk_ef e (fun z => by
    rw [kn] at z
    exact (h1.2.2.2.2 n nA ((ch37e _ k37).mp z)).2.1)
  intro j j1 j2 j3 kj
  show ∃ k, σ'.2.2.2.1 j = nI k ∧ (k < 9 ∨ (9 ≤ k ∧ k - 9 + 1 < σ'.1.length))
  rw [by'.1]
  by_cases ne : j = n
  · subst ne
    obtain ⟨l1, l2, -⟩ := lk_10 e (by rw [kn, kj]; rfl)
    obtain ⟨q, q1, q2⟩ := fBlk_2 (by omega) l2
    refine ⟨q, ?_, q2.imp id (fun w => ⟨w.1, w.2.1⟩)⟩
    rw [l1]
    show upI _ j _ j = _
    rw [upI_n]
    exact q1
  · rw [(e1 j ne).2]
    exact hq j j1 j2 (mem_l j3 ne) kj
/-- a type whose size stays -/
def tyO (σ : RS) (t : Nat) : Prop := σ.2.2.1 t = 8 ∨ σ.2.2.1 t = 9 ∨ ∃ k, σ.2.2.2.1 t = nI k ∧ (k < 9 ∨ (9 ≤ k ∧ k - 9 + 1 < σ.1.length)) ∧ k < 1000
theorem tyO_of {m0 : yM} {T : Nat} {F : List ND} (hF : HF m0 T F) {A : List Nat} {i : Nat} {s : SU} (h : PB F A i s) (hi : i ≤ F.length) (h27 : P27 F A i s) {v : Nat} {y : Int32 × Nat × Int32 × Int32} (hy : (s.1.2.1.getD v dVK).2 = some y) : tyO s.1 y.2.1 := by
  obtain ⟨n1, -, -, -⟩ := h.nb hF hi
  have h1 := h.1
  obtain ⟨a1, a2, -, -, a5⟩ := h.2.2.2.2.2.1 v y hy
  have ks : s.1.2.2.1 y.2.1 = nI (kK F y.2.1) := by
    rcases h1.2.1 y.2.1 a1 with w | ⟨w, z⟩
    · exact w
    · omega
  rcases a2 with k | k | k
  · exact Or.inl (by rw [ks, k]; rfl)
  · exact Or.inr (Or.inl (by rw [ks, k]; rfl))
  · right; right
    rcases a5 with w | ⟨w1, w2⟩
    · omega
    · have := hF.2.2.2.2.2.1 y.2.1 a1
      obtain ⟨q, q1, q2⟩ := h27 y.2.1 a1 (by omega) w2 k
      exact ⟨q, q1, q2, by omega⟩
theorem szT_st {σ σ' : RS} {t : Nat} (h : tyO σ t) (hk : σ'.2.2.1 t = σ.2.2.1 t) (hv : σ'.2.2.2.1 t = σ.2.2.2.1 t) (hc : ∀ x, x + 1 < σ.1.length → cB σ' x = cB σ x) : szT σ' t = szT σ t := by
  unfold szT
  rw [hk, hv]
  split
  · rfl
  split
  · rfl
  split
  · rename_i n8 n9 g
    rcases h with w | w | ⟨k, k1, k2, k3⟩
    · exact absurd w n8
    · exact absurd w n9
    · rw [k1] at g ⊢
      have g9 := (nI_leI (a := 9) (by omega) (by omega)).mp g
      have e : (nI k - 9).toNatClampNeg = k - 9 := by
        rw [show (9 : Int32) = nI 9 from rfl, nI_sub g9, nI_clamp (by omega)]
      rw [e]
      exact hc (k - 9) (by omega)
  · rfl
/-- a place that is told is new -/
def P28 (F : List ND) (A : List Nat) (i : Nat) (s : SU) : Prop := inB s.1 3 → ∀ c, c < 960 → opP F A i s.1 c → ¬ tkV s.1 c
theorem P28.b {m0 : yM} {T : Nat} {F : List ND} (h0 : kK F 0 = 0) {N : Nat} {A : List Nat} {n : Nat} {s : SU} {σ : RS} (hp : PA m0 T F N A n) (h1 : P1 F A n s) (h : P28 F A n s) (e : jb s n = .inl σ) : P28 F (A ++ [n]) (n + 1) (σ, s.2) := by
  have kn := (h1.1 n hp.lt.1 (Or.inl (Nat.le_refl _))).1
  have k37 := hp.1.k37
  unfold jb at e
  by_cases q : bkN (s.1.2.2.1 n)
  · have kb : kK F n = 1 ∨ kK F n = 2 ∨ kK F n = 3 := by rw [kn] at q; exact (ch37e _ hp.1.k37).mp q
    have eA := hp.blk h0 kb
    intro _ c _ z
    exfalso
    obtain ⟨p, j, z1, z2, -⟩ := z
    rw [eA] at z1
    rcases List.mem_append.mp z1 with y | y
    · rw [List.mem_singleton.mp y, h0] at z2; omega
    · rw [List.mem_singleton.mp y] at z2; omega
  · rw [if_neg q] at e
    have es : (σ, s.2) = s := by rw [inl_e e]
    rw [es]
    intro i3 c hc z
    refine h i3 c hc ?_
    obtain ⟨p, j, z1, z2, z3, z4, z5, z6, z7, z8⟩ := z
    obtain ⟨z4, z5⟩ := mem_b z4 z5
    rcases List.mem_append.mp z1 with y | y
    · exact ⟨p, j, y, z2, z3, z4, z5, z6, z7, z8⟩
    · rw [List.mem_singleton.mp y] at z3; omega
theorem P28.l {m0 : yM} {T : Nat} {F : List ND} (hF : HF m0 T F) {N : Nat} {A : List Nat} {n : Nat} {s : SU} {σ' : RS} (hp : PA m0 T F N A n) (hq : PAll F (A ++ [n]) (n + szF F n) s) (h : P28 F (A ++ [n]) (n + szF F n) s) (e : lk F A s.1 s.2 n = .inl σ') : P28 F A (n + szF F n) (σ', nU s.1 s.2 n) := by
  obtain ⟨h1, h2, h3, h3b, h4, h5, h6, h7, h8, h9, h10, h11⟩ := hq.1
  have hK := hF.2.1
  have h0 := hF.2.2.1
  have hn := hp.lt.1
  have k37 := hp.1.k37
  have nA : n ∈ A ++ [n] := List.mem_append_right _ List.mem_cons_self
  obtain ⟨kn, vn, tn⟩ := h1.1 n hn (Or.inr nA)
  obtain ⟨e1, e2, e3, e4, by'⟩ := lk_ef e (fun z => by
    rw [kn] at z
    exact (h1.2.2.2.2 n nA ((ch37e _ k37).mp z)).2.1)
  have i7 : nI (kK F n) = 7 ↔ kK F n = 7 := nI_eq (b := 7) (by omega) (by omega)
  have i5 : nI (kK F n) = 5 ↔ kK F n = 5 := nI_eq (b := 5) (by omega) (by omega)
  intro i3' c hc z
  have i3 : inB s.1 3 := (by'.i 3).mp i3'
  by_cases k7 : kK F n = 7
  · obtain ⟨w, k, w1, w2, w3, w4⟩ := hF.2.2.2.2.1 n hn k7
    obtain ⟨l1, l2, l3, l4, l5⟩ := lk_7 e (by rw [kn]; exact i7.mpr k7) (by rw [vn]; exact w4) w1 w2
    have v1 : σ'.2.1 = s.1.2.1 := by rw [l1]; rfl
    have tk : tkV σ' c ↔ tkV s.1 c := by unfold tkV; rw [v1, by'.c.2.2.2]
    show ¬ tkV σ' c
    rw [tk]
    have pl : plC w k < 960 := by unfold plC; split <;> omega
    have vn' : σ'.2.2.2.1 n = nI (plC w k) := by
      rw [l1]
      show upI _ n _ n = _
      rw [upI_n]
    obtain ⟨p, j, z1, z2, z3, z4, z5, z6, z7, z8⟩ := z
    by_cases ne : j = n
    · subst ne
      have z8 : σ'.2.2.2.1 j = nI c := z8
      rw [vn'] at z8
      have ec : plC w k = c := (nI_eq (by omega) (by omega)).mp z8
      intro t
      have := (h8.2 i3 c hc).mpr (Or.inl t)
      rw [← ec, l4] at this
      cases this
    · exact h i3 c hc ⟨p, j, List.mem_append_left _ z1, z2, z3, z4, mem_l z5 ne, z6, z7, (e1 j ne).2.symm.trans z8⟩
  · by_cases k5 : kK F n = 5
    · exfalso
      obtain ⟨k, t, bb, g, eA, kb, kg, -⟩ := dcl_f hK h0 hp h1 k5
      obtain ⟨p, j, z1, z2, -⟩ := z
      rw [eA] at z1
      rcases List.mem_cons.mp z1 with y | y
      · rw [y, h0] at z2; omega
      · rcases List.mem_cons.mp y with y | y
        · rw [y] at z2; omega
        · rw [List.mem_singleton.mp y] at z2; omega
    · have o : opP F (A ++ [n]) (n + szF F n) s.1 c := by
        obtain ⟨p, j, z1, z2, z3, z4, z5, z6, z7, z8⟩ := z
        have ne : j ≠ n := fun z => k7 (z ▸ z7)
        exact ⟨p, j, List.mem_append_left _ z1, z2, z3, z4, mem_l z5 ne, z6, z7, (e1 j ne).2.symm.trans z8⟩
      intro t
      refine h i3 c hc o ?_
      obtain ⟨v, y, t1, t2, t3⟩ := t
      have t1 : (curB σ').2.2.2.2 ≤ v := t1
      have t2 : (σ'.2.1.getD v dVK).2 = some y := t2
      rw [by'.c.2.2.2] at t1
      refine ⟨v, y, t1, ?_, t3⟩
      by_cases k6 : s.1.2.2.1 n = 6 ∧ s.1.2.2.1 (fPar A) = 5
      · obtain ⟨l1, -⟩ := lk_6 e k6.1 k6.2
        rw [l1, decl_at] at t2
        split at t2
        · cases t2
        · exact t2
      · rw [lk_v e (by rw [kn]; exact fun z => k5 (i5.mp z)) k6] at t2
        exact t2
