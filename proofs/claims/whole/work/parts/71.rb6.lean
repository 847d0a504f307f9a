/-! RULES: own cells, places of cells, the text of the class -/
def cB (σ : RS) (b : Nat) : Int32 := (σ.1.getD b dBK).2.2.2.1
def bump (σ : RS) (b i : Nat) : RS := setC (setT σ i (cB σ b)) b (cB σ b + 1)
def own1 (b : Nat) : Nat → Nat → RS → RS
  | 0, _, σ => σ
  | n + 1, i, σ => own1 b n (i + 1) (if σ.2.2.1 i = 16 ∨ σ.2.2.1 i = 19 then bump σ b i else σ)
def own2 (b : Nat) : Nat → Nat → RS → RS
  | 0, _, σ => σ
  | n + 1, i, σ => own2 b n (i + 1) (if σ.2.2.1 i = 25 ∧ ¬ σ.2.2.2.1 i < 2 then bump σ b i else σ)
def hasL (K : Nat → Int32) : Nat → Nat → Int32 → Int32
  | 0, _, a => a
  | n + 1, i, a => hasL K n (i + 1) (a ||| (if K i = 22 then 1 else 0))
def ownC (σ : RS) (b : Nat) (i n : Nat) : RS := setC (own2 b n i (own1 b n i σ)) b (cB (own2 b n i (own1 b n i σ)) b + (if hasL σ.2.2.1 n i 0 = 0 then 0 else 156))
/-- what stays of the blocks -/
def BS (σ σ' : RS) : Prop := σ'.1.length = σ.1.length ∧ (∀ b, (σ'.1.getD b dBK).2.1 = (σ.1.getD b dBK).2.1) ∧ σ'.2.2.1 = σ.2.2.1 ∧ σ'.2.2.2.1 = σ.2.2.2.1
theorem BS.tr {σ σ1 σ2 : RS} (h : BS σ σ1) (h2 : BS σ1 σ2) : BS σ σ2 := ⟨h2.1.trans h.1, fun b => (h2.2.1 b).trans (h.2.1 b), h2.2.2.1.trans h.2.2.1, h2.2.2.2.trans h.2.2.2⟩
theorem BS.bump (σ : RS) {b : Nat} (hb : b < σ.1.length) (i : Nat) : BS σ (bump σ b i) := by
  refine ⟨List.length_set, fun c => ?_, rfl, rfl⟩
  show ((σ.1.set b _).getD c dBK).2.1 = _
  rw [getD_set _ _ _ _ _ hb]
  by_cases y : c = b
  · rw [if_pos y, y]; rfl
  · rw [if_neg y]
theorem CR.bu {F : List ND} {σ : RS} {m : yM} (h : CR F σ m) {b : Nat} (hb : b < σ.1.length) (i : Nat) : CR F (bump σ b i) (y_si (y_si m 6 i (m.1 26 b)) 26 b (m.1 26 b + 1)) := by
  rw [(h.b hb).2.2.1]
  exact (h.sT i (cB σ b)).sC hb _
theorem c121 (xs : List Int32) (d : Nat) {F : List ND} {σ : RS} {m : yM} (h : CR F σ m) (h0 : 0 < σ.1.length) : yC (xg xs) (d + 2) 121 [.ref 18] m (fun r m' => r = none ∧ (KR m m' ∧ CR F (ownC σ (σ.1.length - 1) (σ.1.getD (σ.1.length - 1) dBK).2.1 (szF F (σ.1.getD (σ.1.length - 1) dBK).2.1)) m')) := by
  have hf := h.f
  have hb : σ.1.length - 1 < σ.1.length := by omega
  have h116 := c116 xs d h h0
  generalize σ.1.length - 1 = b at hb h116 ⊢
  have hBl := h.nB.2
  have eb : (nI b).toNatClampNeg = b := nI_clamp (by omega)
  have xb : x_in (nI b) 512 = true := x_in_nI (by omega) (by decide)
  have hN := (h.b hb).2.2.2.2.2
  generalize hn : (σ.1.getD b dBK).2.1 = n at hN ⊢
  have en : (nI n).toNatClampNeg = n := nI_clamp (by omega)
  have xn : x_in (nI n) 16401 = true := x_in_nI (by omega) (by decide)
  have hE := (h.t hN).2.2.2.2.2.1
  -- of a state that keeps the blocks
  have bas : ∀ (σ1 : RS) (m1 : yM), CR F σ1 m1 → BS σ σ1 → m1.1 25 b = nI n ∧ m1.1 7 n = nI (n + szF F n) ∧ b < σ1.1.length := by
    intro σ1 m1 c1 s1
    have hb1 : b < σ1.1.length := by rw [s1.1]; exact hb
    refine ⟨?_, (c1.t hN).2.2.2.2.1, hb1⟩
    rw [(c1.b hb1).2.1, s1.2.1 b, hn]
  have st2 : ∀ (k i : Nat) (a : Int32) (σ1 : RS) (m1 : yM), CR F σ1 m1 → BS σ σ1 → KR m m1 → i + k = n + szF F n → yP (xg xs) (d + 2) 121 98 [(0, .ref 18), (1, .int (nI b)), (2, .int a), (3, .int (nI i))] [] m1 (fun r m' => r = none ∧ (KR m m' ∧ CR F (setC (own2 b k i σ1) b (cB (own2 b k i σ1) b + (if hasL σ.2.2.1 k i a = 0 then 0 else 156))) m')) := by
    intro k
    induction k with
    | zero =>
      intro i a σ1 m1 c1 s1 k1 hik
      obtain ⟨e25, e7, hb1⟩ := bas σ1 m1 c1 s1
      refine w121_98 xs (d + 1) _ _ _ m1 _ ?_
      rw [eb, e25, en, e7]
      have hle : nI (n + szF F n) ≤ nI i := nI_le (by omega) (by omega)
      refine ⟨xb, xn, fun _ => ⟨xb, fun u => ?_, fun u => ?_⟩, fun u => absurd hle u⟩
      · refine w121_214 xs (d + 1) _ _ _ m1 _ ⟨xb, rfl, k1.si (by omega), ?_⟩
        rw [eb, (c1.b hb1).2.2.1]
        have := c1.sC hb1 (cB σ1 b + 0)
        show CR F (setC σ1 b (cB σ1 b + if a = 0 then 0 else 156)) _
        rw [if_pos u]
        exact this
      · refine w121_214 xs (d + 1) _ _ _ m1 _ ⟨xb, rfl, k1.si (by omega), ?_⟩
        rw [eb, (c1.b hb1).2.2.1]
        have := c1.sC hb1 (cB σ1 b + 156)
        show CR F (setC σ1 b (cB σ1 b + if a = 0 then 0 else 156)) _
        rw [if_neg u]
        exact this
    | succ k ih =>
      intro i a σ1 m1 c1 s1 k1 hik
      obtain ⟨e25, e7, hb1⟩ := bas σ1 m1 c1 s1
      have hi : i < F.length := by omega
      have xi : x_in (nI i) 16401 = true := x_in_nI (by omega) (by decide)
      have ei : (nI i).toNatClampNeg = i := nI_clamp (by omega)
      have ti := c1.t hi
      rw [s1.2.2.1, s1.2.2.2] at ti
      refine w121_98 xs (d + 1) _ _ _ m1 _ ?_
      rw [eb, e25, en, e7]
      have hle : ¬ nI (n + szF F n) ≤ nI i := fun u => absurd ((nI_leI (by omega) (by omega)).mp u) (by omega)
      have s136 : ∀ w : Int32, w = (if σ.2.2.1 i = 22 then 1 else 0) → yP (xg xs) (d + 2) 121 136 [(0, .ref 18), (1, .int (nI b)), (3, .int (nI i))] [.int w, .int a] m1 (fun r m' => r = none ∧ (KR m m' ∧ CR F (setC (own2 b (k + 1) i σ1) b (cB (own2 b (k + 1) i σ1) b + (if hasL σ.2.2.1 (k + 1) i a = 0 then 0 else 156))) m')) := by
        intro w hw
        refine w121_136 xs (d + 1) _ _ _ _ m1 _ ?_
        rw [ei, ti.1, ti.2.2.1, eb]
        unfold own2 hasL
        rw [s1.2.2.1, s1.2.2.2]
        refine ⟨xi, fun u => ?_, fun u => ⟨xi, fun v => ?_, fun v => ⟨xb, xi, xb, xb, ?_⟩⟩⟩
        · rw [if_neg (fun y => u y.1)]
          refine w121_190 xs (d + 1) _ _ _ m1 _ ?_
          rw [nI_1, hw]
          exact ih (i + 1) _ σ1 m1 c1 s1 k1 (by omega)
        · rw [if_neg (fun y => y.2 v)]
          refine w121_190 xs (d + 1) _ _ _ m1 _ ?_
          rw [nI_1, hw]
          exact ih (i + 1) _ σ1 m1 c1 s1 k1 (by omega)
        · rw [if_pos ⟨u, v⟩]
          refine w121_190 xs (d + 1) _ _ _ _ _ ?_
          rw [nI_1, hw]
          exact ih (i + 1) _ _ _ (c1.bu hb1 i) (s1.tr (BS.bump σ1 hb1 i)) ((k1.si (by omega)).si (by omega)) (by omega)
      refine ⟨xb, xn, fun u => absurd u hle, fun _ => ⟨xi, fun u => s136 0 ?_, fun u => s136 1 ?_⟩⟩
      · rw [ei, ti.1] at u
        rw [if_neg u]
      · rw [ei, ti.1] at u
        rw [if_pos u]
  have st1 : ∀ (k i : Nat) (σ1 : RS) (m1 : yM), CR F σ1 m1 → BS σ σ1 → KR m m1 → i + k = n + szF F n → yP (xg xs) (d + 2) 121 14 [(0, .ref 18), (1, .int (nI b)), (2, .int 0), (3, .int (nI i))] [] m1 (fun r m' => r = none ∧ (KR m m' ∧ CR F (setC (own2 b (szF F n) n (own1 b k i σ1)) b (cB (own2 b (szF F n) n (own1 b k i σ1)) b + (if hasL σ.2.2.1 (szF F n) n 0 = 0 then 0 else 156))) m')) := by
    intro k
    induction k with
    | zero =>
      intro i σ1 m1 c1 s1 k1 hik
      obtain ⟨e25, e7, hb1⟩ := bas σ1 m1 c1 s1
      refine w121_14 xs (d + 1) _ _ _ m1 _ ?_
      rw [eb, e25, en, e7]
      have hle : nI (n + szF F n) ≤ nI i := nI_le (by omega) (by omega)
      exact ⟨xb, xn, fun _ => ⟨xb, st2 (szF F n) n 0 σ1 m1 c1 s1 k1 rfl⟩, fun u => absurd hle u⟩
    | succ k ih =>
      intro i σ1 m1 c1 s1 k1 hik
      obtain ⟨e25, e7, hb1⟩ := bas σ1 m1 c1 s1
      have hi : i < F.length := by omega
      have xi : x_in (nI i) 16401 = true := x_in_nI (by omega) (by decide)
      have ei : (nI i).toNatClampNeg = i := nI_clamp (by omega)
      have ti := c1.t hi
      rw [s1.2.2.1] at ti
      refine w121_14 xs (d + 1) _ _ _ m1 _ ?_
      rw [eb, e25, en, e7]
      have hle : ¬ nI (n + szF F n) ≤ nI i := fun u => absurd ((nI_leI (by omega) (by omega)).mp u) (by omega)
      unfold own1
      rw [s1.2.2.1]
      have yes : σ.2.2.1 i = 16 ∨ σ.2.2.1 i = 19 → yP (xg xs) (d + 2) 121 60 [(0, .ref 18), (1, .int (nI b)), (2, .int 0), (3, .int (nI i))] [] m1 (fun r m' => r = none ∧ (KR m m' ∧ CR F (setC (own2 b (szF F n) n (own1 b k (i + 1) (if σ.2.2.1 i = 16 ∨ σ.2.2.1 i = 19 then bump σ1 b i else σ1))) b (cB (own2 b (szF F n) n (own1 b k (i + 1) (if σ.2.2.1 i = 16 ∨ σ.2.2.1 i = 19 then bump σ1 b i else σ1))) b + (if hasL σ.2.2.1 (szF F n) n 0 = 0 then 0 else 156))) m')) := by
        intro u
        rw [if_pos u]
        refine w121_60 xs (d + 1) _ _ _ m1 _ ⟨xb, xi, xb, xb, ?_⟩
        refine w121_85 xs (d + 1) _ _ _ _ _ ?_
        rw [nI_1, ei, eb]
        exact ih (i + 1) _ _ (c1.bu hb1 i) (s1.tr (BS.bump σ1 hb1 i)) ((k1.si (by omega)).si (by omega)) (by omega)
      refine ⟨xb, xn, fun u => absurd u hle, fun _ => ⟨xi, ?_⟩⟩
      rw [ei, ti.1]
      refine ⟨fun u => yes (Or.inl u), fun u => ⟨xi, fun v => ?_, fun v => yes (Or.inr v)⟩⟩
      rw [if_neg (fun y => y.elim u v)]
      refine w121_85 xs (d + 1) _ _ _ m1 _ ?_
      rw [nI_1]
      exact ih (i + 1) σ1 m1 c1 s1 k1 (by omega)
  refine w121_0 xs (d + 1) m _ (y_ci h116 (by omega) ?_)
  rw [eb, (h.b hb).2.1, hn]
  exact ⟨xb, st1 (szF F n) n σ m h ⟨rfl, fun _ => rfl, rfl, rfl⟩ (KR.re m) rfl⟩
