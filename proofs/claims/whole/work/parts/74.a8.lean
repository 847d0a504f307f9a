/-! THE RULES' INVARIANTS: which variables are described -/
theorem vOk_i (σ : RS) (v : Nat) : vOk σ v ↔ v < σ.2.1.length ∧ ∃ y, (σ.2.1.getD v dVK).2 = some y := by
  constructor
  · rintro ⟨nm, y, e⟩
    refine ⟨(List.getElem?_eq_some_iff.mp e).1, y, ?_⟩
    rw [List.getD_eq_getElem?_getD, e]
    rfl
  · rintro ⟨h, y, e⟩
    have := getD_some (d := dVK) h
    refine ⟨(σ.2.1.getD v dVK).1, y, ?_⟩
    rw [this, ← e]
theorem setVr_at (σ : RS) {v : Nat} (hv : v < σ.2.1.length) (y : Int32 × Nat × Int32 × Int32) (u : Nat) : (setVr σ v y).2.1.getD u dVK = if u = v then ((σ.2.1.getD v dVK).1, some y) else σ.2.1.getD u dVK := getD_set σ.2.1 v u _ _ hv
theorem dsL_v (at_ : Int32) (tn : Nat) (sec ini : Int32) : ∀ k v σ, v + k ≤ σ.2.1.length → ∀ u, ((dsL at_ tn sec ini k v σ).2.1.getD u dVK).1 = (σ.2.1.getD u dVK).1 ∧ (¬ (v ≤ u ∧ u < v + k) → (dsL at_ tn sec ini k v σ).2.1.getD u dVK = σ.2.1.getD u dVK) ∧ (v ≤ u ∧ u < v + k → ∃ c, ((dsL at_ tn sec ini k v σ).2.1.getD u dVK).2 = some (sec, tn, ini, c))
  | 0, v, σ, _, u => ⟨rfl, fun _ => rfl, fun z => by omega⟩
  | k + 1, v, σ, h, u => by
    have es : dsL at_ tn sec ini (k + 1) v σ = dsL at_ tn sec ini k (v + 1) (if at_ = -1 then setC (setVr σ v (sec, tn, ini, (curB σ).2.2.2.1)) (σ.1.length - 1) ((curB σ).2.2.2.1 + szT (setVr σ v (sec, tn, ini, (curB σ).2.2.2.1)) tn) else setVr σ v (sec, tn, ini, at_)) := rfl
    rw [es]
    have hv : v < σ.2.1.length := by omega
    obtain ⟨c, hc⟩ : ∃ c, (if at_ = -1 then setC (setVr σ v (sec, tn, ini, (curB σ).2.2.2.1)) (σ.1.length - 1) ((curB σ).2.2.2.1 + szT (setVr σ v (sec, tn, ini, (curB σ).2.2.2.1)) tn) else setVr σ v (sec, tn, ini, at_)).2.1 = (setVr σ v (sec, tn, ini, c)).2.1 := by
      split
      · exact ⟨_, rfl⟩
      · exact ⟨_, rfl⟩
    have hl : (if at_ = -1 then setC (setVr σ v (sec, tn, ini, (curB σ).2.2.2.1)) (σ.1.length - 1) ((curB σ).2.2.2.1 + szT (setVr σ v (sec, tn, ini, (curB σ).2.2.2.1)) tn) else setVr σ v (sec, tn, ini, at_)).2.1.length = σ.2.1.length := by rw [hc]; exact List.length_set
    obtain ⟨i1, i2, i3⟩ := dsL_v at_ tn sec ini k (v + 1) _ (by rw [hl]; omega) u
    rw [hc] at i1 i2
    have at' := setVr_at σ hv (sec, tn, ini, c) u
    rw [at'] at i1 i2
    by_cases e : u = v
    · subst e
      rw [if_pos rfl] at i1 i2
      refine ⟨i1, fun z => absurd ⟨Nat.le_refl _, by omega⟩ z, fun _ => ⟨c, ?_⟩⟩
      rw [i2 (by omega)]
    · rw [if_neg e] at i1 i2
      exact ⟨i1, fun z => i2 (fun y => z (by omega)), fun z => i3 (by omega)⟩
theorem decl_at (σ : RS) (nm : Int32) (u : Nat) : (decl σ nm).2.1.getD u dVK = if u = σ.2.1.length then (nm, none) else σ.2.1.getD u dVK := by
  show (σ.2.1 ++ [(nm, none)]).getD u dVK = _
  by_cases h : u < σ.2.1.length
  · rw [if_neg (by omega), List.getD_eq_getElem?_getD, List.getElem?_append_left h, ← List.getD_eq_getElem?_getD]
  · by_cases e : u = σ.2.1.length
    · rw [if_pos e, e, List.getD_eq_getElem?_getD, List.getElem?_append_right (Nat.le_refl _), Nat.sub_self]
      rfl
    · rw [if_neg e, List.getD_eq_getElem?_getD, List.getD_eq_getElem?_getD, List.getElem?_eq_none_iff.mpr (by rw [List.length_append, List.length_singleton]; omega), List.getElem?_eq_none_iff.mpr (by omega)]
/-- variables behind a block's begin -/
theorem beg_at (σ : RS) (n : Nat) (k nm : Int32) (u : Nat) : (beg σ n k nm).2.1.getD u dVK = if k = 1 ∧ u = σ.2.1.length then (nm, some (3, n + 1, 0, 0)) else σ.2.1.getD u dVK := by
  unfold beg
  by_cases q : k = 1
  · rw [if_pos q]
    have l : σ.2.1.length < (decl (beg0 σ n k nm) nm).2.1.length := by
      show _ < ((beg0 σ n k nm).2.1 ++ [(nm, none)]).length
      rw [List.length_append, List.length_singleton]
      exact Nat.lt_succ_self _
    show (setVr (decl (beg0 σ n k nm) nm) σ.2.1.length (3, n + 1, 0, 0)).2.1.getD u dVK = _
    rw [setVr_at _ l, decl_at, decl_at]
    have l0 : (beg0 σ n k nm).2.1.length = σ.2.1.length := rfl
    rw [l0, if_pos rfl]
    by_cases e : u = σ.2.1.length
    · rw [if_pos e, if_pos ⟨q, e⟩]
    · have ne : ¬ (k = 1 ∧ u = σ.2.1.length) := fun z => e z.2
      rw [if_neg e, if_neg e, if_neg ne]
      rfl
  · rw [if_neg q, if_neg (fun z => q z.1)]
    rfl
/-- how many declared names wait for their type -/
def qN (F : List ND) (A : List Nat) (i : Nat) : Nat := if 4 ≤ A.length ∧ kK F (A.getD 3 0) = 5 then cntF (b6 F) i - cntF (b6 F) (A.getD 3 0 + 1) - (A.filter (b6 F)).length else 0
def P3 (F : List ND) (A : List Nat) (i : Nat) (s : SU) : Prop := qN F A i ≤ s.1.2.1.length ∧ (∀ v, v + qN F A i < s.1.2.1.length → vOk s.1 v) ∧ ∀ v, v < s.1.2.1.length → s.1.2.1.length ≤ v + qN F A i → (s.1.2.1.getD v dVK).2 = none
theorem gD_ap (A : List Nat) (n : Nat) {i : Nat} (h : i < A.length) : (A ++ [n]).getD i 0 = A.getD i 0 := by
  rw [List.getD_eq_getElem?_getD, List.getElem?_append_left h, ← List.getD_eq_getElem?_getD]
/-- a node below a declaration -/
theorem PA.ind {m0 : yM} {T : Nat} {F : List ND} : ∀ (l : Nat) {N : Nat} {A : List Nat} {n : Nat}, PA m0 T F N A n → A.length = l → 4 ≤ A.length → kK F (A.getD 3 0) = 5 → (kK F n = 6 ∨ kK F n = 7 ∨ kK F n = 8 ∨ kK F n = 9 ∨ kK F n = 10 ∨ kK F n = 30 ∨ kK F n = 31) ∧ (kK F n = 6 → A.length = 4 ∧ fPar A = A.getD 3 0) := by
  intro l
  induction l with
  | zero => intro N A n _ e h4; omega
  | succ l ih =>
    intro N A n h e h4 h5
    rcases h.up with ⟨y, -⟩ | ⟨B, p, M, e1, e2, e3, e4, e5⟩
    · rw [y] at h4; simp at h4
    · have lB : B.length = l := by
        rw [e1, List.length_append, List.length_singleton] at e
        omega
      by_cases c : B.length = 3
      · have pe : A.getD 3 0 = p := by
          rw [e1, List.getD_eq_getElem?_getD, List.getElem?_append_right (by omega), c]
          rfl
        rw [pe] at h5
        rw [h5] at e4
        have : ∀ k, k ∈ kidK 5 → k = 6 ∨ k = 7 ∨ k = 8 ∨ k = 9 ∨ k = 10 ∨ k = 30 ∨ k = 31 := by decide
        refine ⟨this _ e4, fun _ => ⟨by omega, by rw [e2, pe]⟩⟩
      · have l4 : 4 ≤ B.length := by
          have : A.length = B.length + 1 := by rw [e1, List.length_append, List.length_singleton]
          omega
        have ge : A.getD 3 0 = B.getD 3 0 := by rw [e1]; exact gD_ap B p (by omega)
        rw [ge] at h5
        obtain ⟨i1, -⟩ := ih e5 lB l4 h5
        have k9 : ∀ k, (k = 6 ∨ k = 7 ∨ k = 8 ∨ k = 9 ∨ k = 10 ∨ k = 30 ∨ k = 31) → ∀ x, x ∈ kidK k → x = 30 ∨ x = 31 ∨ x = 8 := by
          intro k hk
          rcases hk with rfl | rfl | rfl | rfl | rfl | rfl | rfl <;> decide
        rcases k9 _ i1 _ e4 with z | z | z
        · rw [z]; exact ⟨by decide, fun y => absurd y (by decide)⟩
        · rw [z]; exact ⟨by decide, fun y => absurd y (by decide)⟩
        · rw [z]; exact ⟨by decide, fun y => absurd y (by decide)⟩
theorem b6_s (F : List ND) (n : Nat) : cntF (b6 F) (n + 1) = cntF (b6 F) n + (if kK F n = 6 then 1 else 0) := by
  rw [cntF_s]
  congr 1
  by_cases h : kK F n = 6
  · rw [if_pos h, if_pos (show b6 F n = true from decide_eq_true h)]
  · rw [if_neg h, if_neg (show ¬ b6 F n = true from fun z => h (decide_eq_true_iff.mp z))]
theorem qN_b {m0 : yM} {T : Nat} {F : List ND} {N : Nat} {A : List Nat} {n : Nat} (hp : PA m0 T F N A n) : qN F (A ++ [n]) (n + 1) = qN F A n := by
  unfold qN
  by_cases c4 : 4 ≤ A.length
  · have g := gD_ap A n (i := 3) (by omega)
    have dm : A.getD 3 0 ∈ A := List.mem_of_getElem? (getD_some (d := 0) (show 3 < A.length by omega))
    have dn := (hp.2.2 _ dm).1
    have le := cntF_le (b6 F) (show A.getD 3 0 + 1 ≤ n by omega)
    by_cases k5 : kK F (A.getD 3 0) = 5
    · have pA : 4 ≤ A.length ∧ kK F (A.getD 3 0) = 5 := ⟨c4, k5⟩
      have pB : 4 ≤ (A ++ [n]).length ∧ kK F ((A ++ [n]).getD 3 0) = 5 := ⟨by rw [List.length_append]; omega, by rw [g]; exact k5⟩
      rw [if_pos pA, if_pos pB, g, b6_s, filt6]
      omega
    · have pA : ¬ (4 ≤ A.length ∧ kK F (A.getD 3 0) = 5) := fun z => k5 z.2
      have pB : ¬ (4 ≤ (A ++ [n]).length ∧ kK F ((A ++ [n]).getD 3 0) = 5) := fun z => k5 (by have := z.2; rw [g] at this; exact this)
      rw [if_neg pA, if_neg pB]
  · have nA : ¬ (4 ≤ A.length ∧ kK F (A.getD 3 0) = 5) := fun z => c4 z.1
    rw [if_neg nA]
    by_cases c3 : A.length = 3
    · have g : (A ++ [n]).getD 3 0 = n := by
        rw [List.getD_eq_getElem?_getD, List.getElem?_append_right (by omega), c3]
        rfl
      rw [g]
      split
      · rw [Nat.sub_self, Nat.zero_sub]
      · rfl
    · have nB : ¬ (4 ≤ (A ++ [n]).length ∧ kK F ((A ++ [n]).getD 3 0) = 5) := fun z => by
        have := z.1
        rw [List.length_append, List.length_singleton] at this
        omega
      rw [if_neg nB]
theorem P3.b {m0 : yM} {T : Nat} {F : List ND} (h0 : kK F 0 = 0) {N : Nat} {A : List Nat} {n : Nat} {s : SU} {σ : RS} (hp : PA m0 T F N A n) (h1 : P1 F A n s) (h : P3 F A n s) (e : jb s n = .inl σ) : P3 F (A ++ [n]) (n + 1) (σ, s.2) := by
  unfold P3 at h ⊢
  rw [qN_b hp]
  have kn := (h1.1 n hp.lt.1 (Or.inl (Nat.le_refl _))).1
  unfold jb at e
  by_cases q : bkN (s.1.2.2.1 n)
  · rw [if_pos q] at e
    have kb : kK F n = 1 ∨ kK F n = 2 ∨ kK F n = 3 := by rw [kn] at q; exact (ch37e _ hp.1.k37).mp q
    have eA := hp.blk h0 kb
    have q0 : qN F A n = 0 := by
      unfold qN
      rw [eA, if_neg (fun z => by have := z.1; simp at this)]
    rw [q0] at h ⊢
    unfold lkBeg at e
    split at e
    · cases e
    split at e
    · cases e
    · rw [inl_e e]
      obtain ⟨a1, a2, a3⟩ := h
      refine ⟨Nat.zero_le _, fun v hv => ?_, fun v hv hv2 => ?_⟩
      · rw [vOk_i]
        refine ⟨hv, ?_⟩
        show ∃ y, ((beg s.1 n (s.1.2.2.1 n) (s.1.2.2.2.1 n)).2.1.getD v dVK).2 = some y
        rw [beg_at]
        by_cases c : s.1.2.2.1 n = 1 ∧ v = s.1.2.1.length
        · rw [if_pos c]; exact ⟨_, rfl⟩
        · rw [if_neg c]
          have hv : v < (beg s.1 n (s.1.2.2.1 n) (s.1.2.2.2.1 n)).2.1.length := hv
          rw [beg_v] at hv
          have lt : v < s.1.2.1.length := by
            by_cases k1 : s.1.2.2.1 n = 1
            · rw [if_pos k1] at hv
              have : ¬ v = s.1.2.1.length := fun z => c ⟨k1, z⟩
              omega
            · rw [if_neg k1] at hv; omega
          exact ((vOk_i s.1 v).mp (a2 v lt)).2
      · have hv : v < (beg s.1 n (s.1.2.2.1 n) (s.1.2.2.2.1 n)).2.1.length := hv
        have hv2 : (beg s.1 n (s.1.2.2.1 n) (s.1.2.2.2.1 n)).2.1.length ≤ v + 0 := hv2
        omega
  · rw [if_neg q] at e
    rw [inl_e e]
    exact h
