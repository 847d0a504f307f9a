/-! THE RULES' INVARIANTS: what the looks want of variables -/
def HW (m0 : yM) (T : Nat) (F : List ND) : Prop := ∀ j, j < F.length → ∃ M, TW m0 T F M j
theorem HW.v8 {m0 : yM} {T : Nat} {F : List ND} (h : HW m0 T F) {j : Nat} (hj : j < F.length) (k : kK F j = 8) : ty3 (vF F j) ∧ vtF F j = 0 := by
  obtain ⟨M, hM⟩ := h j hj
  cases M with
  | zero => exact absurd hM (fun z => z)
  | succ M =>
    have ok := hM.2.2.2.2.1
    rw [k] at ok
    exact ⟨ok.2.2, ok.1⟩
/-- types of described variables stay -/
theorem P5.t {m0 : yM} {T : Nat} {F : List ND} {N : Nat} {A : List Nat} {n : Nat} {s : SU} {σ' : RS} (hp : PA m0 T F N A n) (h1 : P1 F (A ++ [n]) (n + szF F n) s) (h5 : P5 F (A ++ [n]) (n + szF F n) s) (e : lk F A s.1 s.2 n = .inl σ') {v : Nat} {y : Int32 × Nat × Int32 × Int32} (hy : (s.1.2.1.getD v dVK).2 = some y) : σ'.2.2.1 y.2.1 = s.1.2.2.1 y.2.1 ∧ σ'.2.2.2.1 y.2.1 = s.1.2.2.2.1 y.2.1 ∧ σ'.2.2.2.2 y.2.1 = s.1.2.2.2.2 y.2.1 := by
  have hn := hp.lt.1
  have k37 := hp.1.k37
  have nA : n ∈ A ++ [n] := List.mem_append_right _ List.mem_cons_self
  obtain ⟨kn, vn, tn⟩ := h1.1 n hn (Or.inr nA)
  obtain ⟨e1, e2, e3, e4, e5⟩ := lk_ef e (fun z => by
    rw [kn] at z
    exact (h1.2.2.2.2 n nA ((ch37e _ k37).mp z)).2.1)
  obtain ⟨a1, a2, -, -, a5⟩ := h5 v y hy
  have ks : s.1.2.2.1 y.2.1 = nI (kK F y.2.1) := by
    rcases h1.2.1 _ a1 with z | ⟨z, w⟩
    · exact z
    · omega
  by_cases ne : y.2.1 = n
  · have k8 : kK F n = 8 := by
      rcases a5 with z | ⟨-, z⟩
      · rw [ne] at z; exact z
      · rw [ne] at z; exact absurd nA z
    rw [ne]
    rw [kn, k8] at e2 e3 e4
    refine ⟨?_, ?_, ?_⟩
    · rcases e2 with z | ⟨z, w⟩
      · rw [z, kn, k8]
      · exact absurd w (by decide)
    · rcases e3 with z | z
      · exact z
      · exact absurd z (by decide)
    · rcases e4 n with z | ⟨-, z⟩ | ⟨z, -⟩
      · exact z
      · exact absurd z (by decide)
      · exact absurd z (by decide)
  · refine ⟨(e1 _ ne).1, (e1 _ ne).2, ?_⟩
    rcases e4 y.2.1 with z | ⟨z, -⟩ | ⟨-, -, -, z⟩
    · exact z
    · exact absurd z ne
    · rw [ks] at z
      rcases a2 with w | w | w <;> rw [w] at z <;> exact absurd z (by decide)
/-- a FUNCTION's first variable is its own -/
def P11 (s : SU) : Prop := ∀ b, b < s.1.1.length → (s.1.1.getD b dBK).1 = 1 → ∃ y, (s.1.2.1.getD (s.1.1.getD b dBK).2.2.2.2 dVK).2 = some y ∧ y.1 = 3
theorem P11.b {s : SU} {σ : RS} {n : Nat} (h2 : ∀ b, b < s.1.1.length → (s.1.1.getD b dBK).2.2.2.2 ≤ s.1.2.1.length) (h : P11 s) (e : jb s n = .inl σ) : P11 (σ, s.2) := by
  unfold jb at e
  split at e
  · unfold lkBeg at e
    split at e
    · cases e
    split at e
    · cases e
    · have e' := inl_e e
      obtain ⟨y1, y2, y3, y4, y5, y6, y7⟩ := beg_y s.1 n (s.1.2.2.1 n) (s.1.2.2.2.1 n)
      have ya := beg_at s.1 n (s.1.2.2.1 n) (s.1.2.2.2.1 n)
      rw [← e'] at y1 y2 y5 y7 ya
      unfold curB at y2 y5
      rw [y1, Nat.add_sub_cancel] at y2 y5
      intro b hb kb
      have hb : b < σ.1.length := hb
      have kb : (σ.1.getD b dBK).1 = 1 := kb
      show ∃ y, (σ.2.1.getD (σ.1.getD b dBK).2.2.2.2 dVK).2 = some y ∧ y.1 = 3
      rw [y1] at hb
      by_cases z : b < s.1.1.length
      · rw [y7 b z] at kb ⊢
        obtain ⟨y, w1, w2⟩ := h b z kb
        have lt := V_lt w1
        rw [ya, if_neg (fun q => by omega)]
        exact ⟨y, w1, w2⟩
      · have : b = s.1.1.length := by omega
        subst this
        rw [y2] at kb
        rw [y5, ya, if_pos ⟨kb, rfl⟩]
        exact ⟨_, rfl, rfl⟩
  · rw [inl_e e]
    exact h
/-- what is described stays -/
theorem lk_st {m0 : yM} {T : Nat} {F : List ND} (hK : K37 F) (h0 : kK F 0 = 0) {N : Nat} {A : List Nat} {n : Nat} {s : SU} {σ' : RS} (hp : PA m0 T F N A n) (h1 : P1 F (A ++ [n]) (n + szF F n) s) (h3 : P3 F (A ++ [n]) (n + szF F n) s) (e : lk F A s.1 s.2 n = .inl σ') {v : Nat} {y : Int32 × Nat × Int32 × Int32} (hy : (s.1.2.1.getD v dVK).2 = some y) : σ'.2.1.getD v dVK = s.1.2.1.getD v dVK := by
  have hn := hp.lt.1
  have k37 := hp.1.k37
  have nA : n ∈ A ++ [n] := List.mem_append_right _ List.mem_cons_self
  obtain ⟨kn, vn, tn⟩ := h1.1 n hn (Or.inr nA)
  have lt := V_lt hy
  by_cases k5 : s.1.2.2.1 n = 5
  · have kk : kK F n = 5 := by rw [kn] at k5; exact (nI_eq (b := 5) (by omega) (by omega)).mp k5
    obtain ⟨l1, l2, l3⟩ := lk_5 e k5
    have q := qN_5 hK h0 hp h1 kk
    have le := h3.1
    rw [q] at le
    have nv : v < s.1.2.1.length - (dcT0 F s.1 n - n - 1) := by
      rcases Nat.lt_or_ge v (s.1.2.1.length - (dcT0 F s.1 n - n - 1)) with w | w
      · exact w
      · have := h3.2.2 v lt (by rw [q]; omega)
        rw [this] at hy
        cases hy
    rw [l1]
    unfold dcS
    exact (dsL_v _ _ _ _ _ _ _ (by omega) v).2.1 (by omega)
  · by_cases k6 : s.1.2.2.1 n = 6 ∧ s.1.2.2.1 (fPar A) = 5
    · obtain ⟨l1, -⟩ := lk_6 e k6.1 k6.2
      rw [l1, decl_at, if_neg (by omega)]
    · rw [lk_v e k5 k6]
theorem P11.l {m0 : yM} {T : Nat} {F : List ND} (hK : K37 F) (h0 : kK F 0 = 0) {N : Nat} {A : List Nat} {n : Nat} {s : SU} {σ' : RS} (hp : PA m0 T F N A n) (h1 : P1 F (A ++ [n]) (n + szF F n) s) (h3 : P3 F (A ++ [n]) (n + szF F n) s) (h : P11 s) (e : lk F A s.1 s.2 n = .inl σ') : P11 (σ', nU s.1 s.2 n) := by
  have nA : n ∈ A ++ [n] := List.mem_append_right _ List.mem_cons_self
  have kn := (h1.1 n hp.lt.1 (Or.inr nA)).1
  have by' := (lk_ef e (fun z => by
    rw [kn] at z
    exact (h1.2.2.2.2 n nA ((ch37e _ hp.1.k37).mp z)).2.1)).2.2.2.2
  intro b hb kb
  have hb : b < σ'.1.length := hb
  have kb : (σ'.1.getD b dBK).1 = 1 := kb
  show ∃ y, (σ'.2.1.getD (σ'.1.getD b dBK).2.2.2.2 dVK).2 = some y ∧ y.1 = 3
  rw [by'.1] at hb
  rw [(by'.2 b).1] at kb
  rw [(by'.2 b).2.2.2]
  obtain ⟨y, w1, w2⟩ := h b hb kb
  rw [lk_st hK h0 hp h1 h3 e w1]
  exact ⟨y, w1, w2⟩
theorem vD_s {σ : RS} {v : Nat} {y : Int32 × Nat × Int32 × Int32} (h : (σ.2.1.getD v dVK).2 = some y) : vD σ v = y := by
  unfold vD
  rw [h]
  rfl
theorem vD_1 {σ : RS} {v : Nat} (h : ¬ (vD σ v).1 = 0) : ∃ y, (σ.2.1.getD v dVK).2 = some y ∧ vD σ v = y := by
  cases hq : (σ.2.1.getD v dVK).2 with
  | none =>
    exfalso
    apply h
    unfold vD
    rw [hq]
    rfl
  | some y => exact ⟨y, rfl, vD_s hq⟩
theorem PF_of {s : SU} (h : P11 s) : PF s.1 := by
  intro b hb kb
  obtain ⟨y, w1, w2⟩ := h b hb kb
  exact ⟨V_lt w1, by rw [vD_s w1]; exact w2⟩
/-- a variable's type -/
theorem tyV_3 {m0 : yM} {T : Nat} {F : List ND} (hW : HW m0 T F) {A : List Nat} {i : Nat} {s : SU} (h1 : P1 F A i s) (hz : ∀ j, j < F.length → 0 < szF F j) (h5 : P5 F A i s) (h6 : P6 F A i s) {v : Nat} {y : Int32 × Nat × Int32 × Int32} (hy : (s.1.2.1.getD v dVK).2 = some y) : frm s.1 v = nI (kK F y.2.1) ∧ (frm s.1 v = 8 ∨ frm s.1 v = 9 → ty3 (tyV s.1 v)) ∧ (frm s.1 v = 10 → ∃ k, s.1.2.2.2.1 (vD s.1 v).2.1 = nI k ∧ (k < 9 ∨ (9 ≤ k ∧ k - 9 < s.1.1.length ∧ (s.1.1.getD (k - 9) dBK).1 = 2))) := by
  obtain ⟨a1, a2, a3, a4, a5⟩ := h5 v y hy
  have ks : s.1.2.2.1 y.2.1 = nI (kK F y.2.1) := by
    rcases h1.2.1 _ a1 with z | ⟨z, w⟩
    · exact z
    · omega
  have ef : frm s.1 v = nI (kK F y.2.1) := by
    unfold frm
    rw [vD_s hy]
    exact ks
  have zt := hz _ a1
  refine ⟨ef, fun hf => ?_, fun hf => ?_⟩
  · unfold tyV
    rw [ef] at hf ⊢
    rw [vD_s hy]
    rcases a2 with k | k | k
    · rw [k, if_neg (by decide), h1.2.2.1 _ a1 (by rw [k]; decide)]
      exact (hW.v8 a1 k).1
    · rw [k, if_pos (show nI 9 = 9 from rfl)]
      rcases a5 with z | ⟨z1, z2⟩
      · omega
      · rw [(h6.1 _ a1 k (by omega) z2).2.1]
        obtain ⟨M, hM⟩ := hW _ a1
        obtain ⟨-, -, -, m4, m5, -⟩ := k9_s hM k
        exact (hW.v8 m5 m4).1
    · rw [k] at hf
      exact absurd hf (by decide)
  · rw [ef] at hf
    rw [vD_s hy]
    rcases a2 with k | k | k
    · rw [k] at hf; exact absurd hf (by decide)
    · rw [k] at hf; exact absurd hf (by decide)
    · rcases a5 with z | ⟨z1, z2⟩
      · omega
      · exact (h6.2 _ a1 k (by omega) z2).1
theorem PV_of {m0 : yM} {T : Nat} {F : List ND} (hW : HW m0 T F) {A : List Nat} {i : Nat} {s : SU} (h1 : P1 F A i s) (hz : ∀ j, j < F.length → 0 < szF F j) (h4 : P4 s) (h5 : P5 F A i s) (h6 : P6 F A i s) (h9 : P9 F A s) : PV s.1 := by
  refine ⟨fun v vo => ?_, h4, fun b v w hb k3 hf vw hw s1 s2 => ?_⟩
  · obtain ⟨-, y, hy⟩ := (vOk_i s.1 v).mp vo
    obtain ⟨t1, t2, t3⟩ := tyV_3 hW h1 hz h5 h6 hy
    obtain ⟨a1, a2, a3, a4, a5⟩ := h5 v y hy
    obtain ⟨c, c1, c2⟩ := h9.2.2.1 v y hy
    refine ⟨?_, ?_, t2, ⟨c, ?_, by omega⟩, t3⟩
    · rw [vD_s hy]; exact a3
    · rw [vD_s hy, t1]
      intro z
      rw [a4 z]
      rfl
    · rw [vD_s hy]; exact c1
  · obtain ⟨y, y1, y2⟩ := vD_1 (σ := s.1) (v := v) (by rw [s1]; decide)
    obtain ⟨z, z1, z2⟩ := vD_1 (σ := s.1) (v := w) (by rw [s2]; decide)
    obtain ⟨c, d, c1, c2, c3, c4⟩ := h9.2.2.2.2 b v w y z hb k3 hf vw hw y1 z1
    rw [y2, z2, c1, c2]
    rw [y2] at s1
    have : wtY y = 1 := by unfold wtY; rw [s1]; rfl
    intro q
    have := (nI_eq (by omega) (by omega)).mp q
    omega
theorem dsB_of {s : SU} (h4 : P4 s) (h0 : 0 < s.1.1.length) : dsB s.1 := by
  intro v w hv hv2 hw hw2 e
  have en : endV s.1 (s.1.1.length - 1) = s.1.2.1.length := by
    unfold endV
    rw [if_neg (by omega)]
  rcases Nat.lt_trichotomy v w with z | z | z
  · exact absurd e (h4 (s.1.1.length - 1) v w (by omega) hv z (by rw [en]; exact hw2))
  · exact z
  · exact absurd e.symm (h4 (s.1.1.length - 1) w v (by omega) hw z (by rw [en]; exact hv2))
theorem allD_of {F : List ND} {A : List Nat} {i : Nat} {s : SU} (h : P3 F A i s) (q : qN F A i = 0) : allD s.1 := fun v hv => h.2.1 v (by rw [q]; exact hv)
theorem btOk_of {m0 : yM} {T : Nat} {F : List ND} (hW : HW m0 T F) {A : List Nat} {i : Nat} {s : SU} (h1 : P1 F A i s) (hz : ∀ j, j < F.length → 0 < szF F j) (h5 : P5 F A i s) (h6 : P6 F A i s) : btOk s.1 := by
  intro v vo hf
  obtain ⟨-, y, hy⟩ := (vOk_i s.1 v).mp vo
  obtain ⟨k, k1, k2⟩ := (tyV_3 hW h1 hz h5 h6 hy).2.2 hf
  refine ⟨k, k1, ?_⟩
  rcases k2 with z | z
  · omega
  · omega
