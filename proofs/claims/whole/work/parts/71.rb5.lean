/-! RULES: blocks of the class -/
def beg0 (σ : RS) (n : Nat) (k nm : Int32) : RS := (σ.1 ++ [(k, n, nm, if k = 3 then 960 else 0, σ.2.1.length)], σ.2)
def beg (σ : RS) (n : Nat) (k nm : Int32) : RS := if k = 1 then setC (setVr (decl (beg0 σ n k nm) nm) σ.2.1.length (3, n + 1, 0, 0)) σ.1.length 1 else beg0 σ n k nm
theorem CR.bg {F : List ND} {σ : RS} {m m' : yM} (h : CR F σ m) (hB : σ.1.length < 511) {n j : Nat} (hn : n < F.length) (hj : j < 4172) {k : Int32} (g : ∀ a i, ¬ (a = 18 ∧ i = 9) → ¬ ((a = 24 ∨ a = 25 ∨ a = 26 ∨ a = 27 ∨ a = 28) ∧ i = σ.1.length) → ¬ (a = 30 ∧ i = j) → m'.1 a i = m.1 a i) (g1 : m'.1 18 9 = nI (σ.1.length + 1)) (g2 : m'.1 24 σ.1.length = k) (g3 : m'.1 25 σ.1.length = nI n) (g4 : m'.1 26 σ.1.length = if k = 3 then 960 else 0) (g5 : m'.1 28 σ.1.length = nI σ.2.1.length) (g6 : m'.1 30 j = nI σ.1.length) : CR F (beg0 σ n k (nI j)) m' := by
  obtain ⟨h1, h2, h3, h4, h5⟩ := h
  have len : (beg0 σ n k (nI j)).1.length = σ.1.length + 1 := by simp [beg0]
  have e2 : (beg0 σ n k (nI j)).2 = σ.2 := rfl
  refine ⟨?_, fun b x hb => ?_, fun u x hu => ?_, fun i hi => ?_, fun i hi => ?_⟩
  · rw [len, e2]
    refine ⟨by omega, h1.2.1, h1.2.2.1, g1, ?_, ?_⟩
    · rw [g _ _ (by omega) (by omega) (by omega)]; exact h1.2.2.2.2.1
    · rw [g _ _ (by omega) (by omega) (by omega)]; exact h1.2.2.2.2.2
  · have hb : (σ.1 ++ [(k, n, nI j, if k = 3 then 960 else 0, σ.2.1.length)])[b]? = some x := hb
    rw [e2]
    rw [List.getElem?_append] at hb
    by_cases e : b < σ.1.length
    · rw [if_pos e] at hb
      rw [g _ _ (by omega) (by omega) (by omega), g _ _ (by omega) (by omega) (by omega), g _ _ (by omega) (by omega) (by omega), g _ _ (by omega) (by omega) (by omega)]
      exact h2 b x hb
    · rw [if_neg e] at hb
      have eb : b = σ.1.length := by
        have := (List.getElem?_eq_some_iff.mp hb).1
        simp at this
        omega
      subst eb
      simp at hb
      subst hb
      exact ⟨g2, g3, g4, g5, Nat.le_refl _, hn⟩
  · rw [e2] at hu
    refine ⟨by rw [g _ _ (by omega) (by omega) (by omega)]; exact (h3 u x hu).1, fun z hz => ?_⟩
    rw [g _ _ (by omega) (by omega) (by omega), g _ _ (by omega) (by omega) (by omega), g _ _ (by omega) (by omega) (by omega), g _ _ (by omega) (by omega) (by omega)]
    exact (h3 u x hu).2 z hz
  · rw [len, e2, g 29 i (by omega) (by omega) (by omega)]
    have el : bix (beg0 σ n k (nI j)).1 (nI i) (σ.1.length + 1) = if nI j = nI i then nI σ.1.length else bix σ.1 (nI i) σ.1.length := by
      show bix (σ.1 ++ [(k, n, nI j, if k = 3 then 960 else 0, σ.2.1.length)]) (nI i) (σ.1.length + 1) = _
      have eg : (σ.1 ++ [(k, n, nI j, if k = 3 then (960 : Int32) else 0, σ.2.1.length)]).getD σ.1.length dBK = (k, n, nI j, if k = 3 then (960 : Int32) else 0, σ.2.1.length) := by rw [getD_app, if_neg (by omega), if_pos rfl]
      rw [bix_s, eg, bix_app _ _ _ _ (Nat.le_refl _)]
    rw [el]
    refine ⟨(h4 i hi).1, ?_⟩
    by_cases y : i = j
    · rw [y, g6, if_pos rfl]
    · rw [g _ _ (by omega) (by omega) (by omega), if_neg (fun z => y ((nI_eq (by omega) (by omega)).mp z).symm)]
      exact (h4 i hi).2
  · rw [e2, g _ _ (by omega) (by omega) (by omega), g _ _ (by omega) (by omega) (by omega), g _ _ (by omega) (by omega) (by omega), g _ _ (by omega) (by omega) (by omega), g _ _ (by omega) (by omega) (by omega)]
    exact h5 i hi
theorem c187 (xs : List Int32) (d : Nat) {F : List ND} {σ : RS} {m : yM} (h : CR F σ m) (hB : σ.1.length < 511) (hV : σ.2.1.length < 4096) {n j : Nat} (hn : n < F.length) (hn1 : σ.2.2.1 n = 1 → n + 1 < F.length) (hv : σ.2.2.2.1 n = nI j) (hj : j < 4172) : yC (xg xs) (d + 2) 187 [.ref 18, .int (nI n)] m (fun r m' => r = none ∧ (KR m m' ∧ CR F (beg σ n (σ.2.2.1 n) (nI j)) m')) := by
  have hf := h.f
  have tn := h.t hn
  have e : (nI n).toNatClampNeg = n := nI_clamp (by omega)
  have x1 : x_in (nI n) 16401 = true := x_in_nI (by omega) (by decide)
  have hl : (if (511 : Int32) < m.1 18 9 then (511 : Int32) else m.1 18 9) = nI σ.1.length := by
    rw [h.nB.1, if_neg]
    exact fun u => absurd ((nI_ltI (a := 511) (by omega) (by omega)).mp u) (by omega)
  have eb : (nI σ.1.length).toNatClampNeg = σ.1.length := nI_clamp (by omega)
  have xb : x_in (nI σ.1.length) 512 = true := x_in_nI (by omega) (by decide)
  have ej : (nI j).toNatClampNeg = j := nI_clamp (by omega)
  generalize hk : σ.2.2.1 n = k at *
  -- the memory behind the block's own fields
  have s94 : ∀ c : Int32, c = (if k = 3 then 960 else 0) → yP (xg xs) (d + 2) 187 94 [(0, .ref 18), (1, .int (nI n)), (2, .int (nI σ.1.length))] [.int c, .int (nI σ.1.length), .ref 26] (y_si (y_si (y_si (y_si (y_si (y_si m 18 9 (nI (σ.1.length + 1))) 24 σ.1.length k) 25 σ.1.length (nI n)) 27 σ.1.length 0) 28 σ.1.length (nI σ.2.1.length)) 30 j (nI σ.1.length)) (fun r m' => r = none ∧ (KR m m' ∧ CR F (beg σ n k (nI j)) m')) := by
    intro c hc
    have c0 : CR F (beg0 σ n k (nI j)) (y_si (y_si (y_si (y_si (y_si (y_si (y_si m 18 9 (nI (σ.1.length + 1))) 24 σ.1.length k) 25 σ.1.length (nI n)) 27 σ.1.length 0) 28 σ.1.length (nI σ.2.1.length)) 30 j (nI σ.1.length)) 26 σ.1.length c) := by
      refine h.bg hB hn hj (fun a i u1 u2 u3 => ?_) ?_ ?_ ?_ ?_ ?_ ?_
      · rw [y_si_at, if_neg (by omega), y_si_at, if_neg (by omega), y_si_at, if_neg (by omega), y_si_at, if_neg (by omega), y_si_at, if_neg (by omega), y_si_at, if_neg (by omega), y_si_at, if_neg (by omega)]
      · simp [y_si_at]
      · simp [y_si_at]
      · simp [y_si_at]
      · rw [y_si_at, if_pos ⟨rfl, rfl⟩, hc]
      · simp [y_si_at]
      · simp [y_si_at]
    have k0 : KR m (y_si (y_si (y_si (y_si (y_si (y_si (y_si m 18 9 (nI (σ.1.length + 1))) 24 σ.1.length k) 25 σ.1.length (nI n)) 27 σ.1.length 0) 28 σ.1.length (nI σ.2.1.length)) 30 j (nI σ.1.length)) 26 σ.1.length c) := (((((((KR.re m).si (by omega)).si (by omega)).si (by omega)).si (by omega)).si (by omega)).si (by omega)).si (by omega)
    have e24 : (y_si (y_si (y_si (y_si (y_si (y_si m 18 9 (nI (σ.1.length + 1))) 24 σ.1.length k) 25 σ.1.length (nI n)) 27 σ.1.length 0) 28 σ.1.length (nI σ.2.1.length)) 30 j (nI σ.1.length)).1 24 σ.1.length = k := by simp [y_si_at]
    have e5 : (y_si (y_si (y_si (y_si (y_si (y_si m 18 9 (nI (σ.1.length + 1))) 24 σ.1.length k) 25 σ.1.length (nI n)) 27 σ.1.length 0) 28 σ.1.length (nI σ.2.1.length)) 30 j (nI σ.1.length)).1 5 n = nI j := by
      simp [y_si_at]
      rw [tn.2.2.1, hv]
    refine w187_94 xs (d + 1) _ _ _ _ _ _ ⟨xb, xb, ?_⟩
    rw [eb, e, e24, e5]
    generalize y_si (y_si (y_si (y_si (y_si (y_si (y_si m 18 9 (nI (σ.1.length + 1))) 24 σ.1.length k) 25 σ.1.length (nI n)) 27 σ.1.length 0) 28 σ.1.length (nI σ.2.1.length)) 30 j (nI σ.1.length)) 26 σ.1.length c = m1 at c0 k0 ⊢
    unfold beg
    refine ⟨fun u => ?_, fun u => ⟨x1, ?_⟩⟩
    · rw [if_neg u]
      exact ⟨rfl, k0, c0⟩
    · rw [if_pos u]
      refine y_nx (c139 xs d c0 hV hj) (by omega) (fun m2 q => ?_)
      obtain ⟨k2, c2⟩ := q
      have l2 : (decl (beg0 σ n k (nI j)) (nI j)).2.1.length = σ.2.1.length + 1 := by simp [decl, beg0]
      have n15 : m2.1 18 15 - 1 = nI σ.2.1.length := by
        rw [c2.nV.1, l2, nI_pred]
      rw [n15, nI_1]
      have ev : (nI σ.2.1.length).toNatClampNeg = σ.2.1.length := nI_clamp (by omega)
      have xv : x_in (nI σ.2.1.length) 4097 = true := x_in_nI (by omega) (by decide)
      have c130 : yC (xg xs) (d + 1) 130 [.ref 18, .int (nI σ.2.1.length), .int (nI (n + 1)), .int 3, .int 0] m2 (fun r m' => r = none ∧ m' = y_si (y_si (y_si (y_si m2 21 σ.2.1.length (nI (n + 1))) 22 σ.2.1.length 3) 23 σ.2.1.length 0) 20 σ.2.1.length 0) := by
        refine w130_0 xs d _ _ _ _ m2 _ ⟨xv, xv, xv, xv, rfl, ?_⟩
        rw [ev]
      refine y_cv c130 (by omega) ⟨xb, rfl, ?_, ?_⟩
      · exact ((((k0.tr k2).si (by omega)).si (by omega)).si (by omega)).si (by omega) |>.si (by omega)
      · have c3 : CR F (setVr (decl (beg0 σ n k (nI j)) (nI j)) σ.2.1.length (3, n + 1, 0, 0)) (y_si (y_si (y_si (y_si m2 21 σ.2.1.length (nI (n + 1))) 22 σ.2.1.length 3) 23 σ.2.1.length 0) 20 σ.2.1.length 0) := by
          refine c2.sVr (by omega) (hn1 u) (fun a i w => ?_) ?_ ?_ ?_ ?_
          · rw [y_si_at, if_neg (by omega), y_si_at, if_neg (by omega), y_si_at, if_neg (by omega), y_si_at, if_neg (by omega)]
          · rw [y_si_at, if_neg (by omega), y_si_at, if_neg (by omega), y_si_at, if_pos ⟨rfl, rfl⟩]
          · rw [y_si_at, if_neg (by omega), y_si_at, if_neg (by omega), y_si_at, if_neg (by omega), y_si_at, if_pos ⟨rfl, rfl⟩]
          · rw [y_si_at, if_neg (by omega), y_si_at, if_pos ⟨rfl, rfl⟩]
          · rw [y_si_at, if_pos ⟨rfl, rfl⟩]
        have lb : (setVr (decl (beg0 σ n k (nI j)) (nI j)) σ.2.1.length (3, n + 1, 0, 0)).1.length = σ.1.length + 1 := by simp [setVr, decl, beg0]
        exact c3.sC (by omega) 1
  refine w187_0 xs (d + 1) _ m _ ?_
  rw [hl, e, tn.1, tn.2.2.1, hv, eb, ej, nI_1, h.nV.1]
  have e24b : (y_si (y_si m 18 9 (nI (σ.1.length + 1))) 24 σ.1.length k).1 24 σ.1.length = k := by simp [y_si_at]
  rw [e24b]
  exact ⟨x1, xb, xb, xb, xb, x1, x_in_nI hj (by decide), xb, fun u => s94 0 (by rw [if_neg u]), fun u => s94 960 (by rw [if_pos u])⟩
def lkBeg (σ : RS) (n : Nat) : RS ⊕ Int32 := if inB σ 3 then .inr 10 else if isSt (σ.2.2.2.1 n) ∨ ¬ bix σ.1 (σ.2.2.2.1 n) σ.1.length = -1 then .inr 11 else .inl (beg σ n (σ.2.2.1 n) (σ.2.2.2.1 n))
theorem c186 (xs : List Int32) (d : Nat) {F : List ND} {σ : RS} {A : List Nat} {m : yM} (h : CR F σ m) (hA : PH F A m) (hB : σ.1.length < 511) (hV : σ.2.1.length < 4096) {n j : Nat} (hn : n < F.length) (hn1 : σ.2.2.1 n = 1 → n + 1 < F.length) (hv : σ.2.2.2.1 n = nI j) (hj : j < 4172) : yC (xg xs) (d + 3) 186 [.ref 31, .int (nI n)] m (LQ F A m (lkBeg σ n)) := by
  have hf := h.f
  have tn := h.t hn
  have e : (nI n).toNatClampNeg = n := nI_clamp (by omega)
  have x1 : x_in (nI n) 16401 = true := x_in_nI (by omega) (by decide)
  unfold lkBeg
  refine w186_0 xs (d + 2) _ m _ ⟨x1, y_ci (c114 xs (d + 1) h 3) (by omega) ⟨fun u => ?_, fun u => ?_⟩⟩
  · rw [if_neg (if0 u), e, tn.2.2.1, hv]
    refine y_ci (c138 xs (d + 1) m _) (by omega) ⟨fun w => ?_, fun w => ?_⟩
    · rw [if_pos (Or.inl (if1 w))]
      exact LQ.no m (by decide)
    · refine y_ci (c137 xs (d + 1) h hj) (by omega) ⟨fun q => ?_, fun q => ?_⟩
      · have yb : bix σ.1 (nI j) σ.1.length = -1 := by
          by_cases y : bix σ.1 (nI j) σ.1.length = -1
          · exact y
          · rw [if_neg y] at q; exact absurd q (by decide)
        rw [if_neg (fun y => y.elim (if0 w) (fun y => y yb))]
        refine y_nx (c187 xs d h hB hV hn hn1 hv hj) (by omega) (fun m1 q1 => ?_)
        exact ⟨q1.1, rfl, q1.2, q1.1.ph hA⟩
      · have nb : ¬ bix σ.1 (nI j) σ.1.length = -1 := by
          intro y
          rw [if_pos y] at q
          exact absurd rfl q
        rw [if_pos (Or.inr nb)]
        exact LQ.no m (by decide)
  · rw [if_pos (if1 u)]
    exact LQ.no m (by decide)
