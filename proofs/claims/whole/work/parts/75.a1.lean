/-! JUDGE: what the reference holds along the nodes -/
/-- nodes looked at, whose values the reference holds -/
def DD (F : List ND) (A : List Nat) (i : Nat) (s : SU) (j : Nat) : Prop := j < F.length ∧ j < i ∧ j ∉ A ∧ ¬ xNm F j ∧ (kK F j = 14 → ∀ p, p ∈ A → j ∈ kids F p → gdI s.1 (vF F p))
/-- nodes with cells of their own, in blocks before -/
def EE (F : List ND) (A : List Nat) (i : Nat) (j : Nat) : Prop := j < A.getD 1 i ∧ (kK F j = 16 ∨ kK F j = 19 ∨ (kK F j = 25 ∧ ¬ vF F j ≤ 1)) ∧ j < F.length
/-- declared names know their section -/
def EX (F : List ND) (A : List Nat) (i : Nat) (s : SU) (m : yM) : Prop := ∀ v, v < s.1.2.1.length → s.1.2.1.length ≤ v + qN F A i → m.1 81 v = vF F (A.getD 2 0)
def RX (J : JV) (A : List Nat) (i : Nat) (s : SU) (m : yM) : Prop := RJ J (DD J.2.2.1 A i s) s.1 m ∧ OE J (EE J.2.2.1 A i) s.1 m ∧ EX J.2.2.1 A i s m
theorem RJ.mo {J : JV} {D D' : Nat → Prop} {σ : RS} {m : yM} (h : RJ J D σ m) (hd : ∀ i, D' i → D i) : RJ J D' σ m := ⟨h.1, h.2.1, fun i hi => h.2.2 i (hd i hi)⟩
theorem nvR_t {J : JV} {σ : RS} {m : yM} {n : Nat} (h : ¬ exK (kK J.2.2.1 n)) (h1 : ¬ (kK J.2.2.1 n = 13 ∨ kK J.2.2.1 n = 19 ∨ kK J.2.2.1 n = 14)) : nvR J σ m n := ⟨fun z => absurd z h, fun z => by unfold exK at h; omega, fun z => by unfold exK at h; omega, fun z => by unfold exK at h; omega⟩
theorem RJ.ad {J : JV} {D : Nat → Prop} {σ : RS} {m : yM} {n : Nat} (h : RJ J D σ m) (hn : n < J.2.2.1.length) (h1 : ¬ exK (kK J.2.2.1 n)) (h2 : ¬ (kK J.2.2.1 n = 13 ∨ kK J.2.2.1 n = 19 ∨ kK J.2.2.1 n = 14)) : RJ J (fun i => D i ∨ i = n) σ m := ⟨h.1, h.2.1, fun i hi => by
  rcases hi with y | y
  · exact h.2.2 i y
  · rw [y]; exact ⟨hn, nvR_t h1 h2⟩⟩
theorem kidK14 : ∀ k, k < 37 → 14 ∈ kidK k → k = 13 := by decide
/-- what is known behind a look was known before it, but of the node itself -/
theorem DD.l {m0 : yM} {T : Nat} {F : List ND} (hF : HF m0 T F) {N : Nat} {A : List Nat} {n : Nat} {s : SU} {σ' : RS} {U : Nat → Bool} (hp : PA m0 T F N A n) (h : PAll F (A ++ [n]) (n + szF F n) s) (e : lk F A s.1 s.2 n = .inl σ') {j : Nat} (hd : DD F A (n + szF F n) (σ', U) j) : (DD F (A ++ [n]) (n + szF F n) s j ∧ ¬ j = n) ∨ (j = n ∧ ¬ xNm F n ∧ (kK F n = 14 → gdI s.1 (vF F (fPar A)))) := by
  obtain ⟨d1, d2, d3, d4, d5⟩ := hd
  have hb := h.1
  have nA : n ∈ A ++ [n] := List.mem_append_right _ List.mem_cons_self
  have h1 := hb.1
  obtain ⟨kn, vn, tn⟩ := h1.1 n hp.lt.1 (Or.inr nA)
  have tg : ∀ p, p ∈ A → 14 ∈ kidK (kK F p) → gdI σ' (vF F p) → gdI s.1 (vF F p) := by
    intro p pA kp g
    have k13 := kidK14 _ (hF.2.1 p (hp.lt.2 p pA)) kp
    obtain ⟨te, hD⟩ := hb.te hF hp pA (by omega) e
    obtain ⟨g1, g2⟩ := g
    rw [te.fv] at g1 g2
    have B0 := PB.b0 hF.2.2.1 hp h1 (by intro z; rw [(hp.z z).1] at pA; cases pA)
    obtain ⟨v, y, v1, v2, v3, -⟩ := hb.var hF hp.1.at.1 B0 hD g1
    refine ⟨g1, ?_⟩
    rw [v3] at g2 ⊢
    rw [te.fr v1] at g2
    exact g2
  by_cases ne : j = n
  · subst ne
    refine Or.inr ⟨rfl, d4, fun k => ?_⟩
    rcases hp.up with ⟨y1, y2⟩ | ⟨B, q, M, e1, e2, e3, e4, e5⟩
    · rw [y2, hF.2.2.1] at k; omega
    · have qA : q ∈ A := by rw [e1]; exact List.mem_append_right _ List.mem_cons_self
      rw [e2]
      rw [k] at e4
      exact tg q qA e4 (d5 k q qA e3)
  · refine Or.inl ⟨⟨d1, d2, mem_l d3 ne, d4, fun k p pm jk => ?_⟩, ne⟩
    rcases List.mem_append.mp pm with pA | pn
    · obtain ⟨-, -, M, hM⟩ := hp.2.2 p pA
      have kk := hM.kid jk
      rw [k] at kk
      exact tg p pA kk (d5 k p pA jk)
    · have := List.mem_singleton.mp pn
      subst this
      have kk := hp.1.kid jk
      rw [k] at kk
      have k13 := kidK14 _ hp.1.k37 kk
      rw [lk_s (by rw [kn, k13]; decide), lkS_13 (by rw [kn, k13]; rfl)] at e
      unfold lkInv at e
      rw [vn] at e
      by_cases c : fVar s.1 (vF F p) = -1
      · rw [if_pos c] at e; cases e
      rw [if_neg c] at e
      have q0 : qN F (A ++ [p]) (p + szF F p) = 0 := hp.no5 (by omega) (by omega) (by omega) _
      have B0 := PB.b0 hF.2.2.1 hp h1 (by omega)
      obtain ⟨v, y, v1, v2, v3, v4, v5, v6, v7, v8, v9, v10, v11⟩ := hb.var hF hp.1.at.1 B0 (allD_of hb.2.2.1 q0) c
      refine ⟨c, ?_⟩
      split at e
      · rename_i g; exact g
      · cases e
theorem OE.mo {J : JV} {E E' : Nat → Prop} {σ : RS} {m : yM} (h : OE J E σ m) (he : ∀ i, E' i → E i) : OE J E' σ m := fun i hi => h i (he i hi)
/-- a path's second node -/
theorem PA.g1 {m0 : yM} {T : Nat} {F : List ND} (h0 : kK F 0 = 0) {N : Nat} {A : List Nat} {n : Nat} (hp : PA m0 T F N A n) (hk : ¬ (kK F n = 1 ∨ kK F n = 2 ∨ kK F n = 3)) (i : Nat) : (A ++ [n]).getD 1 i = A.getD 1 i ∧ ((2 ≤ A.length ∧ A.getD 1 i < n) ∨ n = 0) := by
  rcases hp.up with ⟨y1, y2⟩ | ⟨B, q, M, e1, e2, e3, e4, e5⟩
  · rw [y1]
    exact ⟨rfl, Or.inr y2⟩
  · have l2 : 2 ≤ A.length := by
      rcases e5.up with ⟨z1, z2⟩ | ⟨C, r, M', f1, f2, f3, f4, f5⟩
      · exfalso
        rw [z2, h0] at e4
        have : ∀ x, x ∈ kidK 0 → x = 1 ∨ x = 2 ∨ x = 3 := by decide
        exact hk (this _ e4)
      · rw [e1, f1, List.length_append, List.length_append, List.length_singleton, List.length_singleton]
        omega
    have g : A[1]? = some (A.getD 1 i) := getD_some (by omega)
    refine ⟨?_, Or.inl ⟨l2, (hp.2.2 _ (List.mem_of_getElem? g)).1⟩⟩
    rw [List.getD_eq_getElem?_getD, List.getElem?_append_left (by omega), ← List.getD_eq_getElem?_getD]
theorem qN_l {F : List ND} {A : List Nat} {n i : Nat} (c : 4 ≤ A.length ∧ kK F (A.getD 3 0) = 5) (k6 : ¬ kK F n = 6) : qN F (A ++ [n]) i = qN F A i := by
  have g := gD_ap A n (i := 3) (by omega)
  have pB : 4 ≤ (A ++ [n]).length ∧ kK F ((A ++ [n]).getD 3 0) = 5 := ⟨by rw [List.length_append]; omega, by rw [g]; exact c.2⟩
  unfold qN
  rw [if_pos pB, if_pos c, g, filt6, if_neg k6]
  rfl
/-- looks that leave blocks and names alone -/
theorem RX.k {m0 : yM} {T : Nat} {J : JV} (hF : HF m0 T J.2.2.1) {N : Nat} {A : List Nat} {n : Nat} {s : SU} {σ' : RS} {U : Nat → Bool} {m m' : yM} (hp : PA m0 T J.2.2.1 N A n) (h : PAll J.2.2.1 (A ++ [n]) (n + szF J.2.2.1 n) s) (hX : RX J (A ++ [n]) (n + szF J.2.2.1 n) s m) (e : lk J.2.2.1 A s.1 s.2 n = .inl σ') (kb : ¬ (kK J.2.2.1 n = 1 ∨ kK J.2.2.1 n = 2 ∨ kK J.2.2.1 n = 3)) (k6 : ¬ (kK J.2.2.1 n = 6 ∧ kK J.2.2.1 (fPar A) = 5)) (f81 : ∀ v, m'.1 81 v = m.1 81 v) (f86 : ∀ j, j < J.2.2.1.length → (kK J.2.2.1 j = 16 ∨ kK J.2.2.1 j = 19 ∨ kK J.2.2.1 j = 25) → m'.1 86 (J.2.2.2 j) = m.1 86 (J.2.2.2 j)) {D' : Nat → Prop} (r : RJ J D' σ' m') (hd : ∀ j, (DD J.2.2.1 (A ++ [n]) (n + szF J.2.2.1 n) s j ∧ ¬ j = n) ∨ (j = n ∧ ¬ xNm J.2.2.1 n ∧ (kK J.2.2.1 n = 14 → gdI s.1 (vF J.2.2.1 (fPar A)))) → D' j) : RX J A (n + szF J.2.2.1 n) (σ', U) m' := by
  have h1 := h.1.1
  have h0 := hF.2.2.1
  have hn := hp.lt.1
  have nA : n ∈ A ++ [n] := List.mem_append_right _ List.mem_cons_self
  obtain ⟨kn, vn, tn⟩ := h1.1 n hn (Or.inr nA)
  obtain ⟨e1, e2, e3, e4, by'⟩ := lk_ef e (fun z => by
    rw [kn] at z
    exact (h1.2.2.2.2 n nA ((ch37e _ hp.1.k37).mp z)).2.1)
  refine ⟨r.mo (fun j hj => hd j (DD.l hF hp h e hj)), fun j hj => ?_, ?_⟩
  · obtain ⟨g1, g2⟩ := hp.g1 h0 kb (n + szF J.2.2.1 n)
    obtain ⟨j1, j2, j3⟩ := hj
    obtain ⟨o1, o2, o3⟩ := hX.2.1 j ⟨by rw [g1]; exact j1, j2, j3⟩
    refine ⟨o1, o2, ?_⟩
    show m'.1 86 (J.2.2.2 j) = σ'.2.2.2.2 j
    rw [f86 j o1 o2, o3]
    rcases e4 j with y | ⟨y, z⟩ | ⟨z, -⟩
    · exact y.symm
    · exfalso
      rcases g2 with ⟨-, g2⟩ | g2
      · omega
      · rw [kn, g2, h0] at z
        exact absurd z (by decide)
    · rw [kn] at z
      exact absurd ((ch37e _ hp.1.k37).mp z) kb
  · intro v hv hv2
    have hv : v < σ'.2.1.length := hv
    have hv2 : σ'.2.1.length ≤ v + qN J.2.2.1 A (n + szF J.2.2.1 n) := hv2
    rw [f81]
    by_cases c : 4 ≤ A.length ∧ kK J.2.2.1 (A.getD 3 0) = 5
    · obtain ⟨i1, i2⟩ := hp.ind A.length rfl c.1 c.2
      have n6 : ¬ kK J.2.2.1 n = 6 := fun z => k6 ⟨z, by rw [(i2 z).2]; exact c.2⟩
      rw [← qN_l c n6] at hv2
      have k37 := hp.1.k37
      have vs := lk_v e (by rw [kn]; exact fun z => by have := (nI_eq (b := 5) (by omega) (by omega)).mp z; omega) (by rw [kn]; exact fun z => n6 ((nI_eq (b := 6) (by omega) (by omega)).mp z.1))
      rw [vs] at hv hv2
      have := hX.2.2 v hv hv2
      rw [this, gD_ap A n (by omega)]
    · rw [qN_z c] at hv2
      omega
