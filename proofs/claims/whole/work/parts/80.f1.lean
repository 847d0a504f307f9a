/-! SCOPE'S BASE OF THE LAST BLOCK is 0 when the rules are through -/
def Z27 (σ : RS) (m : yM) : Prop := 0 < σ.1.length → m.1 27 (σ.1.length - 1) = 0
theorem Z27.o {σ σ' : RS} {m m' : yM} (h : Z27 σ m) (l : σ'.1.length = σ.1.length) (e : m'.1 27 = m.1 27) : Z27 σ' m' := by
  unfold Z27
  rw [l, e]
  exact h
theorem lk_by {F : List ND} {A : List Nat} {σ σ' : RS} {U : Nat → Bool} {n : Nat} (h : lk F A σ U n = .inl σ') : σ'.1.length = σ.1.length := by
  by_cases k1 : bkN (σ.2.2.1 n)
  · unfold lk at h
    have k0 : ¬ σ.2.2.1 n = 0 := by rcases k1 with k | k | k <;> rw [k] <;> decide
    rw [if_neg k0, if_pos k1] at h
    unfold lkBlk at h
    split at h
    · cases h
    · rw [inl_e h]
      exact (ownC_y σ _ _ _).1.1
  · exact (lk_ef h (fun z => absurd z k1)).2.2.2.2.1
theorem sw112 (x : Int32) (hx : ¬ x = 0) : ∃ t, 149 ≤ t ∧ (if x.toInt < 0 ∨ 29 < x.toInt then x_to 9 219 else (match (#[135, 140, 140, 140, 145, 151, 157, 163, 219, 169, 175, 219, 219, 219, 219, 219, 219, 219, 219, 219, 219, 219, 219, 181, 219, 187, 219, 219, 208, 214] : Array Int)[(x.toInt - 0).toNat]? with
      | some off => x_to 9 off
      | none => none)) = some t := by
  by_cases c : x.toInt < 0 ∨ 29 < x.toInt
  · rw [if_pos c]
    exact ⟨228, by omega, rfl⟩
  · obtain ⟨k, hk, rfl⟩ : ∃ k, k < 30 ∧ x = nI k := by
      refine ⟨x.toInt.toNat, by omega, Int32.toInt_inj.mp ?_⟩
      rw [nI_toInt (by omega)]
      omega
    have tb := tsB_t k (by omega) (fun e => hx (by rw [e]; rfl))
    unfold tsB at tb
    split at tb
    · rename_i t ht
      exact ⟨t, Nat.le_of_ble_eq_true tb, ht⟩
    · cases tb
theorem f112x {xs : List Int32} {d n : Nat} {m : yM} {Q : Option Value → yM → Prop} (hn : n < 16401) (k0 : ¬ m.1 3 n = 0) (h : yC (xg xs) (d + 1) 112 [.ref 31, .int (nI n)] m Q) : yC (xg xs) (d + 1) 112 [.ref 31, .int (nI n)] m (fun r m' => Q r m' ∧ m'.1 27 = m.1 27) := by
  have h1 : yP (xg xs) (d + 1) 112 1 [(0, .ref 31), (1, .int (nI n))] [.ref 31] m Q := y_ts rfl rfl rfl rfl rfl (fun _ _ => rfl) h
  have h2 : yP (xg xs) (d + 1) 112 4 [(0, .ref 31), (1, .int (nI n))] [.ref 2] m Q := y_gf' (k := 603) (v := .ref 2) rfl rfl rfl rfl rfl h1
  have h3 : yP (xg xs) (d + 1) 112 7 [(0, .ref 31), (1, .int (nI n))] [.ref 3] m Q := y_gf' (k := 100) (v := .ref 3) rfl rfl rfl rfl rfl h2
  have h4 : yP (xg xs) (d + 1) 112 8 [(0, .ref 31), (1, .int (nI n))] [.int (nI n), .ref 3] m Q := y_ts rfl rfl rfl rfl rfl (fun _ _ => rfl) h3
  have h5 : yP (xg xs) (d + 1) 112 9 [(0, .ref 31), (1, .int (nI n))] [.int (m.1 3 (nI n).toNatClampNeg)] m Q := y_iald' rfl rfl rfl (x_in_nI hn (by decide)) h4
  rw [nI_clamp (by omega)] at h5
  obtain ⟨t, t1, ht⟩ := sw112 _ k0
  have h6 := y_tsw' rfl rfl ht h5
  have h7 := yP.f27 (Or.inr ⟨rfl, t1⟩) (fun v hv => by cases hv) (fun e he => by
    simp only [List.mem_cons, List.not_mem_nil, or_false] at he
    rcases he with e | e <;> (rw [e]; intro z; cases z)) h6
  refine y_st rfl rfl rfl rfl rfl (fun _ _ => rfl) ?_
  refine y_gf (k := 603) (v := .ref 2) rfl rfl rfl rfl rfl ?_
  refine y_gf (k := 100) (v := .ref 3) rfl rfl rfl rfl rfl ?_
  refine y_st rfl rfl rfl rfl rfl (fun _ _ => rfl) ?_
  show yP (xg xs) (d + 1) 112 8 [(0, .ref 31), (1, .int (nI n))] [.int (nI n), .ref 3] m _
  refine y_iald rfl rfl rfl (x_in_nI hn (by decide)) ?_
  rw [nI_clamp (by omega)]
  exact y_tsw rfl rfl ht h7
theorem c187y (xs : List Int32) (d : Nat) {F : List ND} {σ : RS} {m : yM} (h : CR F σ m) (hB : σ.1.length < 511) (hV : σ.2.1.length < 4096) {n j : Nat} (hn : n < F.length) (hn1 : σ.2.2.1 n = 1 → n + 1 < F.length) (hv : σ.2.2.2.1 n = nI j) (hj : j < 4172) : yC (xg xs) (d + 2) 187 [.ref 18, .int (nI n)] m (fun r m' => r = none ∧ (KR m m' ∧ CR F (beg σ n (σ.2.2.1 n) (nI j)) m' ∧ m'.1 27 σ.1.length = 0)) := by
  have hf := h.f
  have tn := h.t hn
  have e : (nI n).toNatClampNeg = n := nI_clamp (by omega)
  have x1 : x_in (nI n) 16401 = true := x_in_nI (by omega) (by decide)
  have hl : (if (511 : Int32) < m.1 18 9 then (511 : Int32) else m.1 18 9) = nI σ.1.length := by
    rw [h.nB.1, if_neg]
    exact fun u => absurd ((nI_ltI (a := 511) (by omega) (by omega)).mp u) (by omega)
  have eb : (nI σ.1.length).toNatClampNeg = σ.1.length := nI_clamp (by omega)
  have xb : x_in (nI σ.1.length) 512 = true := x_in_nI (by omega) (by decide)
  have ej : (nI j).toNatClampNeg = j := nI_clamp (by omega)
  generalize hk : σ.2.2.1 n = k at *
  -- the memory behind the block's own fields
  have s94 : ∀ c : Int32, c = (if k = 3 then 960 else 0) → yP (xg xs) (d + 2) 187 94 [(0, .ref 18), (1, .int (nI n)), (2, .int (nI σ.1.length))] [.int c, .int (nI σ.1.length), .ref 26] (y_si (y_si (y_si (y_si (y_si (y_si m 18 9 (nI (σ.1.length + 1))) 24 σ.1.length k) 25 σ.1.length (nI n)) 27 σ.1.length 0) 28 σ.1.length (nI σ.2.1.length)) 30 j (nI σ.1.length)) (fun r m' => r = none ∧ (KR m m' ∧ CR F (beg σ n k (nI j)) m' ∧ m'.1 27 σ.1.length = 0)) := by
    intro c hc
    have c0 : CR F (beg0 σ n k (nI j)) (y_si (y_si (y_si (y_si (y_si (y_si (y_si m 18 9 (nI (σ.1.length + 1))) 24 σ.1.length k) 25 σ.1.length (nI n)) 27 σ.1.length 0) 28 σ.1.length (nI σ.2.1.length)) 30 j (nI σ.1.length)) 26 σ.1.length c) := by
      refine h.bg hB hn hj (fun a i u1 u2 u3 => ?_) ?_ ?_ ?_ ?_ ?_ ?_
      · rw [y_si_at, if_neg (by omega), y_si_at, if_neg (by omega), y_si_at, if_neg (by omega), y_si_at, if_neg (by omega), y_si_at, if_neg (by omega), y_si_at, if_neg (by omega), y_si_at, if_neg (by omega)]
      · simp [y_si_at]
      · simp [y_si_at]
      · simp [y_si_at]
      · rw [y_si_at, if_pos ⟨rfl, rfl⟩, hc]
      · simp [y_si_at]
      · simp [y_si_at]
    have k0 : KR m (y_si (y_si (y_si (y_si (y_si (y_si (y_si m 18 9 (nI (σ.1.length + 1))) 24 σ.1.length k) 25 σ.1.length (nI n)) 27 σ.1.length 0) 28 σ.1.length (nI σ.2.1.length)) 30 j (nI σ.1.length)) 26 σ.1.length c) := (((((((KR.re m).si (by omega)).si (by omega)).si (by omega)).si (by omega)).si (by omega)).si (by omega)).si (by omega)
    have z0 : (y_si (y_si (y_si (y_si (y_si (y_si (y_si m 18 9 (nI (σ.1.length + 1))) 24 σ.1.length k) 25 σ.1.length (nI n)) 27 σ.1.length 0) 28 σ.1.length (nI σ.2.1.length)) 30 j (nI σ.1.length)) 26 σ.1.length c).1 27 σ.1.length = 0 := by simp [y_si_at]
    have e24 : (y_si (y_si (y_si (y_si (y_si (y_si m 18 9 (nI (σ.1.length + 1))) 24 σ.1.length k) 25 σ.1.length (nI n)) 27 σ.1.length 0) 28 σ.1.length (nI σ.2.1.length)) 30 j (nI σ.1.length)).1 24 σ.1.length = k := by simp [y_si_at]
    have e5 : (y_si (y_si (y_si (y_si (y_si (y_si m 18 9 (nI (σ.1.length + 1))) 24 σ.1.length k) 25 σ.1.length (nI n)) 27 σ.1.length 0) 28 σ.1.length (nI σ.2.1.length)) 30 j (nI σ.1.length)).1 5 n = nI j := by
      simp [y_si_at]
      rw [tn.2.2.1, hv]
    refine w187_94 xs (d + 1) _ _ _ _ _ _ ⟨xb, xb, ?_⟩
    rw [eb, e, e24, e5]
    generalize y_si (y_si (y_si (y_si (y_si (y_si (y_si m 18 9 (nI (σ.1.length + 1))) 24 σ.1.length k) 25 σ.1.length (nI n)) 27 σ.1.length 0) 28 σ.1.length (nI σ.2.1.length)) 30 j (nI σ.1.length)) 26 σ.1.length c = m1 at c0 k0 z0 ⊢
    unfold beg
    refine ⟨fun u => ?_, fun u => ⟨x1, ?_⟩⟩
    · rw [if_neg u]
      exact ⟨rfl, k0, c0, z0⟩
    · rw [if_pos u]
      have f139 : yC (xg xs) (d + 1) 139 [.ref 18, .int (nI j)] m1 (fun r m' => r = none ∧ ((KR m1 m' ∧ CR F (decl (beg0 σ n k (nI j)) (nI j)) m') ∧ m'.1 27 = m1.1 27)) := yC.mono (Nat.le_refl _) (fun r m' q => ⟨q.1.1, q.1.2, q.2⟩) (yP.f27 (Or.inl rfl) (fun v hv => by cases hv) (fun e he => by
        have he : e ∈ [((0 : Nat), (Value.ref 18)), (1, .int (nI j))] := he
        simp only [List.mem_cons, List.not_mem_nil, or_false] at he
        rcases he with e | e <;> (rw [e]; intro z; cases z)) (c139 xs d c0 hV hj))
      refine y_nx f139 (by omega) (fun m2 q => ?_)
      obtain ⟨⟨k2, c2⟩, f2⟩ := q
      have l2 : (decl (beg0 σ n k (nI j)) (nI j)).2.1.length = σ.2.1.length + 1 := by simp [decl, beg0]
      have n15 : m2.1 18 15 - 1 = nI σ.2.1.length := by
        rw [c2.nV.1, l2, nI_pred]
      rw [n15, nI_1]
      have ev : (nI σ.2.1.length).toNatClampNeg = σ.2.1.length := nI_clamp (by omega)
      have xv : x_in (nI σ.2.1.length) 4097 = true := x_in_nI (by omega) (by decide)
      have c130 : yC (xg xs) (d + 1) 130 [.ref 18, .int (nI σ.2.1.length), .int (nI (n + 1)), .int 3, .int 0] m2 (fun r m' => r = none ∧ m' = y_si (y_si (y_si (y_si m2 21 σ.2.1.length (nI (n + 1))) 22 σ.2.1.length 3) 23 σ.2.1.length 0) 20 σ.2.1.length 0) := by
        refine w130_0 xs d _ _ _ _ m2 _ ⟨xv, xv, xv, xv, rfl, ?_⟩
        rw [ev]
      refine y_cv c130 (by omega) ⟨xb, rfl, ?_, ?_, ?_⟩
      · exact ((((k0.tr k2).si (by omega)).si (by omega)).si (by omega)).si (by omega) |>.si (by omega)
      · have c3 : CR F (setVr (decl (beg0 σ n k (nI j)) (nI j)) σ.2.1.length (3, n + 1, 0, 0)) (y_si (y_si (y_si (y_si m2 21 σ.2.1.length (nI (n + 1))) 22 σ.2.1.length 3) 23 σ.2.1.length 0) 20 σ.2.1.length 0) := by
          refine c2.sVr (by omega) (hn1 u) (fun a i w => ?_) ?_ ?_ ?_ ?_
          · rw [y_si_at, if_neg (by omega), y_si_at, if_neg (by omega), y_si_at, if_neg (by omega), y_si_at, if_neg (by omega)]
          · rw [y_si_at, if_neg (by omega), y_si_at, if_neg (by omega), y_si_at, if_pos ⟨rfl, rfl⟩]
          · rw [y_si_at, if_neg (by omega), y_si_at, if_neg (by omega), y_si_at, if_neg (by omega), y_si_at, if_pos ⟨rfl, rfl⟩]
          · rw [y_si_at, if_neg (by omega), y_si_at, if_pos ⟨rfl, rfl⟩]
          · rw [y_si_at, if_pos ⟨rfl, rfl⟩]
        have lb : (setVr (decl (beg0 σ n k (nI j)) (nI j)) σ.2.1.length (3, n + 1, 0, 0)).1.length = σ.1.length + 1 := by simp [setVr, decl, beg0]
        exact c3.sC (by omega) 1
      · rw [y_si_at, if_neg (by omega), y_si_at, if_neg (by omega), y_si_at, if_neg (by omega), y_si_at, if_neg (by omega), y_si_at, if_neg (by omega), f2]
        exact z0
  refine w187_0 xs (d + 1) _ m _ ?_
  rw [hl, e, tn.1, tn.2.2.1, hv, eb, ej, nI_1, h.nV.1]
  have e24b : (y_si (y_si m 18 9 (nI (σ.1.length + 1))) 24 σ.1.length k).1 24 σ.1.length = k := by simp [y_si_at]
  rw [e24b]
  exact ⟨x1, xb, xb, xb, xb, x1, x_in_nI hj (by decide), xb, fun u => s94 0 (by rw [if_neg u]), fun u => s94 960 (by rw [if_pos u])⟩
theorem c186y (xs : List Int32) (d : Nat) {F : List ND} {σ : RS} {A : List Nat} {m : yM} (h : CR F σ m) (hA : PH F A m) (hB : σ.1.length < 511) (hV : σ.2.1.length < 4096) {n j : Nat} (hn : n < F.length) (hn1 : σ.2.2.1 n = 1 → n + 1 < F.length) (hv : σ.2.2.2.1 n = nI j) (hj : j < 4172) : yC (xg xs) (d + 3) 186 [.ref 31, .int (nI n)] m (fun r m' => LQ F A m (lkBeg σ n) r m' ∧ ∀ σ', lkBeg σ n = .inl σ' → Z27 σ' m') := by
  have hf := h.f
  have tn := h.t hn
  have e : (nI n).toNatClampNeg = n := nI_clamp (by omega)
  have x1 : x_in (nI n) 16401 = true := x_in_nI (by omega) (by decide)
  unfold lkBeg
  refine w186_0 xs (d + 2) _ m _ ⟨x1, y_ci (c114 xs (d + 1) h 3) (by omega) ⟨fun u => ?_, fun u => ?_⟩⟩
  · rw [if_neg (if0 u), e, tn.2.2.1, hv]
    refine y_ci (c138 xs (d + 1) m _) (by omega) ⟨fun w => ?_, fun w => ?_⟩
    · rw [if_pos (Or.inl (if1 w))]
      exact ⟨LQ.no m (by decide), fun _ z => by cases z⟩
    · refine y_ci (c137 xs (d + 1) h hj) (by omega) ⟨fun q => ?_, fun q => ?_⟩
      · have yb : bix σ.1 (nI j) σ.1.length = -1 := by
          by_cases y : bix σ.1 (nI j) σ.1.length = -1
          · exact y
          · rw [if_neg y] at q; exact absurd q (by decide)
        rw [if_neg (fun y => y.elim (if0 w) (fun y => y yb))]
        refine y_nx (c187y xs d h hB hV hn hn1 hv hj) (by omega) (fun m1 q1 => ?_)
        refine ⟨⟨q1.1, rfl, q1.2.1, q1.1.ph hA⟩, fun σ' e => ?_⟩
        rw [← Sum.inl.inj e]
        intro _
        rw [(beg_y σ n (σ.2.2.1 n) (nI j)).1]
        exact q1.2.2
      · have nb : ¬ bix σ.1 (nI j) σ.1.length = -1 := by
          intro y
          rw [if_pos y] at q
          exact absurd rfl q
        rw [if_pos (Or.inr nb)]
        exact ⟨LQ.no m (by decide), fun _ z => by cases z⟩
  · rw [if_pos (if1 u)]
    exact ⟨LQ.no m (by decide), fun _ z => by cases z⟩
def jbZ (F : List ND) (m0 : yM) (A : List Nat) (n : Nat) (s : SU) (R : RS ⊕ Int32) (m' : yM) : Prop := match R with
  | .inr c => CE F m0 c n m'
  | .inl σ => CJ F m0 (A ++ [n]) (σ, s.2) m' ∧ Z27 σ m'
theorem c185y (xs : List Int32) (d : Nat) {F : List ND} {m0 m : yM} {A : List Nat} {s : SU} (h : CJ F m0 A s m) (hz : Z27 s.1 m) {n : Nat} (hn : n < F.length) (hA : A.length ≤ 254) (hB : bkN (s.1.2.2.1 n) → preB F s n) : yC (xg xs) (d + 4) 185 [.ref 31, .int (nI n)] m (fun r m' => r = none ∧ jbZ F m0 A n s (jb s n) m') := by
  obtain ⟨hc, hp, hu, h7, hk⟩ := h
  have hf := hc.f
  have t0 := hc.t hn
  have e : (nI n).toNatClampNeg = n := nI_clamp (by omega)
  have x1 : x_in (nI n) 16401 = true := x_in_nI (by omega) (by decide)
  -- the end: the node goes on the path
  have fin : ∀ (σ : RS) (m1 : yM), CJ F m0 A (σ, s.2) m1 → Z27 σ m1 → jb s n = .inl σ → yP (xg xs) (d + 4) 185 36 [(0, .ref 31), (1, .int (nI n))] [] m1 (fun r m' => r = none ∧ jbZ F m0 A n s (jb s n) m') := by
    intro σ m1 q zq ej
    obtain ⟨qc, qp, qu, q7, qk⟩ := q
    have p6 := qp.2.1
    refine w185_36 xs (d + 3) _ m1 _ ⟨fun z => ?_, fun _ => ⟨?_, rfl, ?_⟩⟩
    · rw [p6] at z
      exact absurd ((nI_leI (a := 256) (by omega) (by omega)).mp z) (by omega)
    · rw [p6]
      exact x_in_nI (by omega) (by decide)
    · rw [p6, nI_clamp (by omega), nI_1, ej]
      refine ⟨⟨(qc.fr (by omega)).fr (by omega), qp.push hA hn, (qu.fr (by omega)).fr (by omega), ?_, (qk.si (by omega)).si (by omega)⟩, zq⟩
      rw [y_si_at, if_neg (by omega), y_si_at, if_neg (by omega)]
      exact q7
  have fine : ∀ (c : Int32) (m1 : yM), CE F m0 c n m1 → jb s n = .inr c → yP (xg xs) (d + 4) 185 36 [(0, .ref 31), (1, .int (nI n))] [] m1 (fun r m' => r = none ∧ jbZ F m0 A n s (jb s n) m') ∨ ¬ m1.1 31 6 = nI A.length := by
    intro c m1 q ej
    by_cases y : m1.1 31 6 = nI A.length
    · left
      refine w185_36 xs (d + 3) _ m1 _ ⟨fun z => ?_, fun _ => ⟨?_, rfl, ?_⟩⟩
      · rw [y] at z
        exact absurd ((nI_leI (a := 256) (by omega) (by omega)).mp z) (by omega)
      · rw [y]
        exact x_in_nI (by omega) (by decide)
      · rw [ej]
        obtain ⟨q1, q2, q3, q4⟩ := q
        refine ⟨?_, q2, ?_, (q4.si (by omega)).si (by omega)⟩
        · rw [y_si_at, if_neg (by omega), y_si_at, if_neg (by omega)]; exact q1
        · rw [y_si_at, if_neg (by omega), y_si_at, if_neg (by omega)]; exact q3
    · exact Or.inr y
  have no : ¬ bkN (s.1.2.2.1 n) → yP (xg xs) (d + 4) 185 36 [(0, .ref 31), (1, .int (nI n))] [] m (fun r m' => r = none ∧ jbZ F m0 A n s (jb s n) m') := fun z => fin s.1 m ⟨hc, hp, hu, h7, hk⟩ hz (by unfold jb; rw [if_neg z])
  refine w185_0 xs (d + 3) _ m _ ⟨x1, ?_⟩
  rw [e, t0.1]
  refine ⟨fun z => no (fun y => ?_), fun z => ⟨x1, fun z2 => no (fun y => ?_), fun z2 => ?_⟩⟩
  · rcases y with y | y | y <;> rw [y] at z <;> exact absurd z (by decide)
  · rcases y with y | y | y <;> rw [y] at z2 <;> exact absurd z2 (by decide)
  · have b : bkN (s.1.2.2.1 n) := by
      generalize s.1.2.2.1 n = k at z z2
      have z1 : ¬ k.toInt < 1 := fun y => z (Int32.lt_iff_toInt_lt.mpr y)
      have z2 : ¬ 3 < k.toInt := fun y => z2 (Int32.lt_iff_toInt_lt.mpr y)
      have c : k.toInt = 1 ∨ k.toInt = 2 ∨ k.toInt = 3 := by omega
      rcases c with c | c | c
      · exact Or.inl (Int32.toInt_inj.mp c)
      · exact Or.inr (Or.inl (Int32.toInt_inj.mp c))
      · exact Or.inr (Or.inr (Int32.toInt_inj.mp c))
    obtain ⟨b1, b2, b3, j, b4, b5⟩ := hB b
    have ej : jb s n = lkBeg s.1 n := by unfold jb; rw [if_pos b]
    refine yC.mono (Nat.le_refl _) (fun r m1 q => ?_) (c186y xs d hc hp b1 b2 hn b3 b4 b5)
    obtain ⟨⟨kr, q⟩, zq⟩ := q
    rcases hl : lkBeg s.1 n with σ | c
    · rw [hl] at q
      obtain ⟨rfl, q1, q2⟩ := q
      refine ⟨0, rfl, ?_⟩
      refine y_cv (c184r xs (d + 2) m1 0 (n := n) (by omega)) (by omega) ?_
      rw [if_pos rfl]
      exact fin σ m1 ⟨q1, q2, fun c hc => by rw [kr.1 33 c (by omega)]; exact hu c hc, by rw [kr.1 31 7 (by omega)]; exact h7, hk.kr kr⟩ (zq σ hl) (by rw [ej, hl])
    · rw [hl] at q
      obtain ⟨rfl, q1⟩ := q
      refine ⟨c, rfl, ?_⟩
      refine y_cv (c184r xs (d + 2) m1 c (n := n) (by omega)) (by omega) ?_
      rw [if_neg q1]
      have ce : CE F m0 c n (y_si (y_si m1 31 7 c) 31 0 (m1.1 4 n)) := ⟨by rw [y_si_at, if_neg (by omega), y_si_same], q1, by rw [y_si_same, kr.1 4 n (by omega), t0.2.1], ((hk.kr kr).si (by omega)).si (by omega)⟩
      refine (fine c _ ce (by rw [ej, hl])).resolve_right (fun y => y ?_)
      rw [y_si_at, if_neg (by omega), y_si_at, if_neg (by omega), kr.1 31 6 (by omega)]
      exact hp.2.1
theorem c115y (xs : List Int32) (d : Nat) {F : List ND} {σ : RS} {m : yM} (h : CR F σ m) (h0 : 0 < σ.1.length) : yC (xg xs) (d + 2) 115 [.ref 18] m (fun r m' => r = none ∧ (KR m m' ∧ CR F σ m' ∧ BA σ m' ∧ m'.1 27 (σ.1.length - 1) = m.1 27 (σ.1.length - 1))) := by
  have hBl := h.nB.2
  have lp : ∀ (k i : Nat) (m1 : yM), CR F σ m1 → KR m m1 → m1.1 18 10 = bsA σ i → (∀ b, b < i → (σ.1.getD b dBK).1 = 1 → m1.1 27 b = bsA σ b) → m1.1 27 (σ.1.length - 1) = m.1 27 (σ.1.length - 1) → i + k = σ.1.length - 1 → yP (xg xs) (d + 2) 115 15 [(0, .ref 18), (1, .int (nI i))] [] m1 (fun r m' => r = none ∧ (KR m m' ∧ CR F σ m' ∧ BA σ m' ∧ m'.1 27 (σ.1.length - 1) = m.1 27 (σ.1.length - 1))) := by
    intro k
    induction k with
    | zero =>
      intro i m1 c1 k1 a1 a2 a3 hik
      refine w115_15 xs (d + 1) _ m1 _ (y_ci (c116 xs d c1 h0) (by omega) ⟨fun _ => ⟨rfl, k1, c1, ⟨?_, ?_⟩, a3⟩, fun u => absurd (nI_le (by omega) (by omega)) u⟩)
      · rw [a1, show i = σ.1.length - 1 by omega]
      · rw [show i = σ.1.length - 1 by omega] at a2; exact a2
    | succ k ih =>
      intro i m1 c1 k1 a1 a2 a3 hik
      have hi : i < σ.1.length := by omega
      have ei : (nI i).toNatClampNeg = i := nI_clamp (by omega)
      have xi : x_in (nI i) 512 = true := x_in_nI (by omega) (by decide)
      refine w115_15 xs (d + 1) _ m1 _ (y_ci (c116 xs d c1 h0) (by omega) ⟨fun u => absurd ((nI_leI (by omega) (by omega)).mp u) (by omega), fun _ => ⟨xi, ?_⟩⟩)
      rw [ei, (c1.b hi).1, (c1.b hi).2.2.1, a1]
      refine ⟨fun u => ?_, fun u => ⟨xi, xi, ?_⟩⟩
      · refine w115_58 xs (d + 1) _ m1 _ ?_
        rw [nI_1]
        refine ih (i + 1) m1 c1 k1 ?_ (fun b hb e => ?_) a3 (by omega)
        · rw [a1, bsA, if_neg u]
        · by_cases y : b = i
          · subst y; exact absurd e u
          · exact a2 b (by omega) e
      · refine w115_58 xs (d + 1) _ _ _ ?_
        rw [nI_1]
        refine ih (i + 1) _ (c1.s27 i _ _) ((k1.si (by omega)).si (by omega)) ?_ (fun b hb e => ?_) (by rw [y_si_at, if_neg (by omega), y_si_at, if_neg (by omega)]; exact a3) (by omega)
        · rw [y_si_at, if_pos ⟨rfl, rfl⟩, bsA, if_pos u]; rfl
        · rw [y_si_at, if_neg (by omega), y_si_at]
          by_cases y : b = i
          · rw [if_pos ⟨rfl, y⟩, y]
          · rw [if_neg (fun z => y z.2)]
            exact a2 b (by omega) e
  have hb : σ.1.length - 1 < σ.1.length := by omega
  have eb : (nI (σ.1.length - 1)).toNatClampNeg = σ.1.length - 1 := nI_clamp (by omega)
  refine w115_0 xs (d + 1) m _ (y_ci (c116 xs d h h0) (by omega) ⟨x_in_nI (by omega) (by decide), ?_⟩)
  rw [eb, (h.b hb).2.2.1]
  exact lp (σ.1.length - 1) 0 _ (h.s10 _) ((KR.re m).si (by omega)) (by rw [y_si_at, if_pos ⟨rfl, rfl⟩]; rfl) (fun b hb _ => absurd hb (by omega)) (by rw [y_si_at, if_neg (by omega)]) (by omega)
theorem c113y (xs : List Int32) (d : Nat) {F : List ND} {σ : RS} {m : yM} (h : CR F σ m) (hz : Z27 σ m) : yC (xg xs) (d + 3) 113 [.ref 31] m (fun r m' => (∃ u, r = some (.int u)) ∧ Z27 σ m') := by
  refine w113_0 xs (d + 2) m _ (y_ci (c114 xs (d + 1) h 3) (by omega) ⟨fun u => ?_, fun u => ⟨⟨_, rfl⟩, hz⟩⟩)
  have h0 : 0 < σ.1.length := (if1 u).1
  refine y_nx (c115y xs d h h0) (by omega) (fun m1 q => ?_)
  obtain ⟨k1, c1, a1, a2⟩ := q
  have z : Z27 σ m1 := fun z => a2.trans (hz z)
  exact ⟨fun w => ⟨⟨_, rfl⟩, z⟩, fun w => ⟨⟨_, rfl⟩, z⟩⟩
theorem c112y (xs : List Int32) (d : Nat) {F : List ND} {σ : RS} {A : List Nat} {m : yM} (h : CR F σ m) (hz : Z27 σ m) (hA : PH F A m) {U : Nat → Bool} (hU : UR U m) {n : Nat} (hp : pre F A σ n) : yC (xg xs) (d + 6) 112 [.ref 31, .int (nI n)] m (fun r m' => (LU F A m (nU σ U n) (lk F A σ U n) r m' ∧ (σ.2.2.1 n = 0 → ∀ σ', lk F A σ U n = .inl σ' → BA σ' m')) ∧ Z27 σ m') := by
  have hf := h.f
  have hn := hp.1
  have t0 := h.t hn
  have e : (nI n).toNatClampNeg = n := nI_clamp (by omega)
  have x1 : x_in (nI n) 16401 = true := x_in_nI (by omega) (by decide)
  by_cases k0 : m.1 3 n = 0
  · have b : yC (xg xs) (d + 6) 112 [.ref 31, .int (nI n)] m (fun r m' => Z27 σ m') := by
      refine w112_0 xs (d + 5) _ m _ ?_
      rw [e, k0]
      refine ⟨x1, fun u => ?_, fun u => absurd u (by decide), fun u => absurd u (by decide), fun u => absurd u (by decide), fun u => absurd u (by decide), fun u => absurd u (by decide), fun u => absurd u (by decide), fun u => absurd u (by decide), fun u => absurd u (by decide), fun u => absurd u (by decide), fun u => absurd u (by decide), fun u => absurd u (by decide), fun u => absurd u (by decide), fun u => absurd u (by decide), fun v0 => absurd rfl v0⟩
      refine yC.mono (by omega) (fun r m' q => ?_) (c113y xs d h hz)
      obtain ⟨⟨u, e⟩, q⟩ := q
      exact ⟨u, e, q⟩
    refine yC.mono (Nat.le_refl _) (fun r m' q => ⟨q.1, ?_⟩) ((c112 xs d h hA hU hp).and b)
    obtain ⟨m'', e, q⟩ := q.2
    have e27 := y_w_a e (k := 27) (t := 0) (n := 512) rfl (by decide)
    exact q.o rfl e27.symm
  · exact yC.mono (Nat.le_refl _) (fun r m' q => ⟨q.1, hz.o rfl q.2⟩) (f112x (by omega) k0 (c112 xs d h hA hU hp))
theorem c110ny (xs : List Int32) (d : Nat) {F : List ND} {m0 : yM} {Q : Option Value → yM → Prop} : ∀ (N : Nat) (A : List Nat) (n : Nat) (s : SU) (m : yM), jp F N A n s → A.length + N ≤ 255 → CJ F m0 A s m → Z27 s.1 m → (A = [] ∨ n < fPar A + szF F (fPar A)) → (∀ s' m', jn F N A n s = .inl s' → CJ F m0 A s' m' → Z27 s'.1 m' → (kK F n = 0 → BA s'.1 m') → yP (xg xs) (d + 7) 110 64 [(0, .ref 31), (1, .int (nI (n + szF F n)))] [] m' Q) → (∀ c k m', jn F N A n s = .inr (c, k) → CE F m0 c k m' → Q (some (.int c)) m') → yP (xg xs) (d + 7) 110 64 [(0, .ref 31), (1, .int (nI n))] [] m Q := by
  intro N
  induction N with
  | zero => intro A n s m h; exact absurd h (fun z => z)
  | succ N ih =>
    intro A n s m hj hl hC hZ htop K1 K2
    obtain ⟨hn, hz, htile, hB, hrest⟩ := hj
    have hC0 := hC
    obtain ⟨hc, hp, hu, h7, hk⟩ := hC
    have hf := hc.f
    have ejn : jn F (N + 1) A n s = match jb s n with
      | .inr c => .inr (c, n)
      | .inl σ => match jl (jn F N (A ++ [n])) (kids F n) (σ, s.2) with
        | .inr e => .inr e
        | .inl s' => match lk F A s'.1 s'.2 n with
          | .inr c => .inr (c, n)
          | .inl σ' => .inl (σ', nU s'.1 s'.2 n) := rfl
    -- the node is entered
    have s140 : yP (xg xs) (d + 7) 110 140 [(0, .ref 31), (1, .int (nI n))] [] m Q := by
      refine w110_140 xs (d + 6) _ m _ ⟨fun z => ?_, fun _ => ⟨fun z => absurd h7 z, fun _ => ?_⟩⟩
      · rw [hc.1.2.2.2.2.2] at z
        exact absurd ((nI_leI (by omega) (by omega)).mp z) (by omega)
      · refine y_nx (c185y xs d hC0 hZ hn (by omega) hB) (by omega) (fun m1 q => ?_)
        rcases hb : jb s n with σ | c
        · rw [hb] at q ejn
          have qz : Z27 σ m1 := q.2
          have q : CJ F m0 (A ++ [n]) (σ, s.2) m1 := q.1
          dsimp only at ejn
          obtain ⟨r1, r2⟩ := hrest σ hb
          -- what is below it
          have lp : ∀ (L : List Nat) (i : Nat) (s1 : SU) (m1 : yM), tile F L i (n + szF F n) → n < i → jpl (jn F N (A ++ [n])) (jp F N (A ++ [n])) L s1 → jl (jn F N (A ++ [n])) L s1 = jl (jn F N (A ++ [n])) (kids F n) (σ, s.2) → CJ F m0 (A ++ [n]) s1 m1 → Z27 s1.1 m1 → yP (xg xs) (d + 7) 110 64 [(0, .ref 31), (1, .int (nI i))] [] m1 Q := by
            intro L
            induction L with
            | nil =>
              intro i s1 m1 ht hi _ ejl q z1
              have ht : i = n + szF F n := ht
              subst ht
              have q0 := q
              obtain ⟨qc, qp, qu, q7, qk⟩ := q
              obtain ⟨pp, p6, p32, pn, pl⟩ := qp.pop
              have ejl : (.inl s1 : JR) = jl (jn F N (A ++ [n])) (kids F n) (σ, s.2) := ejl
              have pr := r2 s1 ejl.symm
              rw [← ejl] at ejn
              dsimp only at ejn
              have ti := qc.t hn
              have em : nI (A.length + 1) - 1 = nI A.length := by rw [nI_pred]
              refine w110_64 xs (d + 6) _ m1 _ ⟨fun z => ?_, fun _ => ⟨fun z => absurd q7 z, fun _ => ?_⟩⟩
              · rw [p6] at z
                exact absurd ((nI_leI (b := 0) (by omega) (by omega)).mp z) (by omega)
              · rw [p6, em, nI_clamp (by omega), p32, nI_clamp (by omega), ti.2.2.2.2.1]
                refine ⟨x_in_nI (by omega) (by decide), x_in_nI (by omega) (by decide), fun z => ?_, fun _ => ⟨x_in_nI (by omega) (by decide), ?_⟩⟩
                · exact absurd ((nI_ltI (by omega) (by omega)).mp z) (by omega)
                · have cr' : CR F s1.1 (y_si m1 31 6 (nI A.length)) := qc.fr (by omega)
                  have u' : UR s1.2 (y_si m1 31 6 (nI A.length)) := qu.fr (by omega)
                  refine yC.mono (Nat.le_refl _) (fun r m2 w => ?_) (c112y xs d cr' z1 pp u' pr.1)
                  obtain ⟨⟨w1, w2⟩, wz⟩ := w
                  obtain ⟨u, eu⟩ := w1.out
                  subst eu
                  have k31 : ∀ i, m2.1 31 i = (y_si m1 31 6 (nI A.length)).1 31 i := fun i => w1.1 31 i (by omega)
                  have k32 : ∀ i, m2.1 32 i = m1.1 32 i := fun i => by rw [w1.1 32 i (by omega), y_si_at, if_neg (by omega)]
                  have e6 : m2.1 31 6 = nI A.length := by rw [k31, y_si_same]
                  have e7 : m2.1 31 7 = 0 := by rw [k31, y_si_at, if_neg (by omega)]; exact q7
                  have ck2 : CK m0 m2 := (qk.si (by omega)).lu w1
                  have e4 : m2.1 4 n = plF F n := by rw [w1.1 4 n (by omega), y_si_at, if_neg (by omega), ti.2.1]
                  refine ⟨u, rfl, ?_, ?_⟩
                  · rw [e6]; exact x_in_nI (by omega) (by decide)
                  · rw [e6, nI_clamp (by omega), k32, p32]
                    refine y_cv (c184r xs (d + 5) m2 u (n := n) (by omega)) (by omega) ?_
                    obtain ⟨w11, w12, w13⟩ := w1
                    rcases hlk : lk F A s1.1 s1.2 n with σ' | c
                    · rw [hlk] at w13 ejn
                      dsimp only at ejn
                      obtain ⟨g1, g2, g3, g4⟩ := w13
                      have u0 : u = 0 := by simpa using g1
                      rw [if_pos u0]
                      refine K1 _ m2 ejn ⟨g2, g3, g4, e7, ck2⟩ (wz.o (lk_by hlk) rfl) (fun hkz => ?_)
                      exact w2 (pr.2 hkz) σ' hlk
                    · rw [hlk] at w13 ejn
                      dsimp only at ejn
                      obtain ⟨g1, g2⟩ := w13
                      have uc : u = c := by simpa using g1
                      subst uc
                      rw [if_neg g2]
                      have ce : CE F m0 u n (y_si (y_si m2 31 7 u) 31 0 (m2.1 4 n)) := ⟨by rw [y_si_at, if_neg (by omega), y_si_same], g2, by rw [y_si_same, e4], (ck2.si (by omega)).si (by omega)⟩
                      refine (c110f xs (d + 6) (by rw [ce.1]; exact g2) ?_).1
                      rw [ce.1]
                      exact K2 u n _ ejn ce
            | cons c L ihL =>
              intro i s1 m1 ht hi hjl ejl q z1
              obtain ⟨rfl, ht⟩ := ht
              obtain ⟨j1, j2⟩ := hjl
              have cz : 0 < szF F c := by
                cases N with
                | zero => exact absurd j1 (fun z => z)
                | succ N => exact j1.2.1
              have le := tile.le ht
              have ejl : (match jn F N (A ++ [n]) c s1 with | .inr e => .inr e | .inl s' => jl (jn F N (A ++ [n])) L s') = jl (jn F N (A ++ [n])) (kids F n) (σ, s.2) := ejl
              have top : fPar (A ++ [n]) = n := by unfold fPar; simp
              refine ih (A ++ [n]) c s1 m1 j1 (by rw [List.length_append, List.length_singleton]; omega) q z1 (Or.inr (by rw [top]; omega)) (fun s' m' e q' zz _ => ?_) (fun c' k m' e q' => ?_)
              · refine ihL (c + szF F c) s' m' ht (by omega) (j2 s' e) ?_ q' zz
                rw [← ejl, e]
              · rw [e] at ejl
                dsimp only at ejl
                rw [← ejl] at ejn
                exact K2 c' k m' ejn q'
          have q7 := q.2.2.2.1
          have qc := q.1
          refine w110_163 xs (d + 6) _ m1 _ (w110_46 xs (d + 6) _ m1 _ ⟨fun z => ?_, fun _ => ⟨fun z => absurd q7 z, fun _ => ?_⟩⟩)
          · rw [qc.1.2.2.2.2.2, nI_1] at z
            exact absurd ((nI_ltI (by omega) (by omega)).mp z) (by omega)
          · rw [nI_1]
            exact lp (kids F n) (n + 1) (σ, s.2) m1 htile (by omega) r1 rfl q qz
        · rw [hb] at q ejn
          have q : CE F m0 c n m1 := q
          refine (c110f xs (d + 6) (by rw [q.1]; exact q.2.1) ?_).2
          rw [q.1]
          exact K2 c n m1 ejn q
    obtain ⟨p1, p2, p3⟩ := hp
    by_cases hA : A = []
    · refine w110_64 xs (d + 6) _ m _ ⟨fun _ => s140, fun z => absurd ?_ z⟩
      rw [p2, hA]
      decide
    · have hl0 : 0 < A.length := List.length_pos_iff.mpr hA
      have lt := htop.resolve_left hA
      have tp := p3 (A.length - 1) (fPar A) (getD_some (by omega))
      have em : nI A.length - 1 = nI (A.length - 1) := by
        obtain ⟨k, e⟩ : ∃ k, A.length = k + 1 := ⟨A.length - 1, by omega⟩
        rw [e, nI_pred]
        rfl
      have ti := hc.t tp.2
      refine w110_64 xs (d + 6) _ m _ ⟨fun _ => s140, fun _ => ⟨fun z => absurd h7 z, fun _ => ?_⟩⟩
      rw [p2, em, nI_clamp (by omega), tp.1, nI_clamp (by omega), ti.2.2.2.2.1]
      refine ⟨x_in_nI (by omega) (by decide), x_in_nI (by omega) (by decide), fun _ => s140, fun z => absurd ?_ z⟩
      exact nI_lt lt (by omega)
/-- what check answers and leaves, the last block's base too -/
def ruZ (F : List ND) (m0 : yM) (R : JR) (r : Option Value) (m' : yM) : Prop := ruQ F m0 R r m' ∧ ∀ s', R = .inl s' → Z27 s'.1 m'
theorem c110ry (xs : List Int32) (d : Nat) {F : List ND} {m m0 : yM} {T N : Nat} (hT : TF F m) (hF : F.length ≤ 16400) (hW : TW m0 T F N 0) (h0 : szF F 0 = F.length) (hk0 : kK F 0 = 0) {M : Nat} (hM : M ≤ 255) (hj : jp F M [] 0 (sg0 F)) : yC (xg xs) (d + 7) 110 [.ref 31] m (ruZ F m (jn F M [] 0 (sg0 F))) := by
  obtain ⟨z, z1, z2, z3⟩ := hT
  obtain ⟨rfl, z4⟩ := z3 hF
  have hL : 0 < F.length := by have := hW.at.2; omega
  refine w110_0 xs (d + 6) m _ (y_cv (c111r xs (d + 5) m) (by omega) ?_)
  generalize hm1 : y_si (y_si (y_si (y_si (y_si (y_si (y_fill (y_fill m 29 4172 (-1)) 30 4172 (-1)) 18 9 0) 18 15 0) 18 10 0) 31 6 0) 31 7 0) 31 0 (-1) = m1
  have o : ∀ a i, a ≠ 29 → a ≠ 30 → a ≠ 18 → a ≠ 31 → m1.1 a i = m.1 a i := by
    intro a i a1 a2 a3 a4
    rw [← hm1]
    rw [y_si_at, if_neg (by omega), y_si_at, if_neg (by omega), y_si_at, if_neg (by omega), y_si_at, if_neg (by omega), y_si_at, if_neg (by omega), y_si_at, if_neg (by omega), y_fill_o _ _ _ _ _ a2, y_fill_o _ _ _ _ _ a1]
  have f29 : ∀ j, j < 4172 → m1.1 29 j = -1 := by
    intro j hj
    rw [← hm1, y_si_at, if_neg (by omega), y_si_at, if_neg (by omega), y_si_at, if_neg (by omega), y_si_at, if_neg (by omega), y_si_at, if_neg (by omega), y_si_at, if_neg (by omega), y_fill_o _ _ _ _ _ (by decide), y_fill_in _ _ _ _ _ hj]
  have f30 : ∀ j, j < 4172 → m1.1 30 j = -1 := by
    intro j hj
    rw [← hm1, y_si_at, if_neg (by omega), y_si_at, if_neg (by omega), y_si_at, if_neg (by omega), y_si_at, if_neg (by omega), y_si_at, if_neg (by omega), y_si_at, if_neg (by omega), y_fill_in _ _ _ _ _ hj]
  have g9 : m1.1 18 9 = nI 0 := by rw [← hm1]; simp [y_si_at, nI_0]
  have g15 : m1.1 18 15 = nI 0 := by rw [← hm1]; simp [y_si_at, nI_0]
  have g6 : m1.1 31 6 = nI 0 := by rw [← hm1]; simp [y_si_at, nI_0]
  have g7 : m1.1 31 7 = 0 := by rw [← hm1]; simp [y_si_at]
  have g2 : m1.2 = m.2 := by rw [← hm1]; rfl
  have cr : ∀ m2 : yM, (∀ a i, a ≠ 33 → m2.1 a i = m1.1 a i) → CR F (sg0 F).1 m2 := by
    intro m2 k
    refine ⟨⟨by simp [sg0], by simp [sg0], hF, ?_, ?_, ?_⟩, fun b x hb => by simp [sg0] at hb, fun v x hv => by simp [sg0] at hv, fun j hj => ⟨?_, ?_⟩, fun i hi => ?_⟩
    · rw [k 18 9 (by decide), g9]; rfl
    · rw [k 18 15 (by decide), g15]; rfl
    · rw [k 2 5 (by decide), o 2 5 (by decide) (by decide) (by decide) (by decide), z1]
    · rw [k 29 j (by decide), f29 j hj]; rfl
    · rw [k 30 j (by decide), f30 j hj]; rfl
    · obtain ⟨M', -, w⟩ := hW.all N 0 i (Nat.zero_le _) (by omega)
      have ga : F[i]? = some (F.getD i (0, 0, 0, 0, 1)) := getD_some hi
      obtain ⟨q1, q2, q3, q4⟩ := z4 i _ ga
      have oo : ∀ a, a ≠ 33 → a ≠ 29 → a ≠ 30 → a ≠ 18 → a ≠ 31 → m2.1 a i = m.1 a i := fun a a1 a2 a3 a4 a5 => by rw [k a i a1, o a i a2 a3 a4 a5]
      rw [oo 3 (by decide) (by decide) (by decide) (by decide) (by decide), oo 4 (by decide) (by decide) (by decide) (by decide) (by decide), oo 5 (by decide) (by decide) (by decide) (by decide) (by decide), oo 6 (by decide) (by decide) (by decide) (by decide) (by decide), oo 7 (by decide) (by decide) (by decide) (by decide) (by decide)]
      exact ⟨q1, q2, q3, z2.2 i hi, q4, w.at.1, w.at.2⟩
  -- no place is taken
  have lp : ∀ (k i : Nat) (m2 : yM), i + k = 960 → (∀ a b, a ≠ 33 → m2.1 a b = m1.1 a b) → m2.2 = m1.2 → (∀ c, c < i → m2.1 33 c = 0) → yP (xg xs) (d + 7) 110 24 [(0, .ref 31), (1, .int (nI i))] [] m2 (ruZ F m (jn F M [] 0 (sg0 F))) := by
    intro k
    induction k with
    | zero =>
      intro i m2 hi k1 k2 k3
      refine w110_24 xs (d + 6) _ m2 _ ⟨fun _ => ?_, fun u => absurd (nI_le (a := 960) (by omega) (by omega)) u⟩
      have cj : CJ F m [] (sg0 F) m2 := by
        refine ⟨cr m2 k1, ⟨by simp, by rw [k1 31 6 (by decide), g6]; rfl, fun i x e => by simp at e⟩, fun c hc => ?_, by rw [k1 31 7 (by decide), g7], fun a i ha => ?_, k2.trans g2⟩
        · rw [k3 c (by omega)]; rfl
        · rw [k1 a i (by omega), o a i (by omega) (by omega) (by omega) (by omega)]
      refine w110_46 xs (d + 6) _ m2 _ ⟨fun u => ?_, fun _ => ⟨fun u => absurd cj.2.2.2.1 u, fun _ => ?_⟩⟩
      · rw [cj.1.1.2.2.2.2.2] at u
        exact absurd ((nI_ltI (b := 0) (by omega) (by omega)).mp u) (by omega)
      · refine c110ny xs d M [] 0 (sg0 F) m2 hj (by simp; omega) cj (fun z => absurd z (Nat.lt_irrefl _)) (Or.inl rfl) (fun s' m' e q zz b => ?_) (fun c k m' e q => ?_)
        · rw [e]
          have q7 := q.2.2.2.1
          have fin : ruZ F m (.inl s') (some (.int (m'.1 31 7))) m' := by
            rw [q7]
            refine ⟨⟨rfl, q, b hk0⟩, fun s2 e2 => ?_⟩
            rw [← Sum.inl.inj e2]
            exact zz
          rw [Nat.zero_add, h0]
          have e25 := q.1.1.2.2.2.2.2
          refine w110_64 xs (d + 6) _ m' _ ⟨fun _ => w110_140 xs (d + 6) _ m' _ ⟨fun _ => w110_163 xs (d + 6) _ m' _ (w110_46 xs (d + 6) _ m' _ ⟨fun _ => fin, fun u => absurd ?_ u⟩), fun u => absurd ?_ u⟩, fun u => absurd ?_ u⟩
          · rw [e25, nI_1]; exact nI_lt (by omega) (by omega)
          · rw [e25]; exact nI_le (Nat.le_refl _) (by omega)
          · rw [q.2.1.2.1]; decide
        · rw [e]
          exact ⟨⟨rfl, q⟩, fun _ z => by cases z⟩
    | succ k ih =>
      intro i m2 hi k1 k2 k3
      refine w110_24 xs (d + 6) _ m2 _ ⟨fun u => absurd ((nI_leI (a := 960) (by omega) (by omega)).mp u) (by omega), fun _ => ⟨x_in_nI (by omega) (by decide), ?_⟩⟩
      rw [nI_clamp (by omega), nI_1]
      refine ih (i + 1) _ (by omega) (fun a b ha => by rw [y_si_at, if_neg (by omega)]; exact k1 a b ha) k2 (fun c hc => ?_)
      rw [y_si_at]
      by_cases y : c = i
      · rw [if_pos ⟨rfl, y⟩]; rfl
      · rw [if_neg (fun z => y z.2)]; exact k3 c (by omega)
  exact lp 960 0 m1 (by omega) (fun _ _ _ => rfl) rfl (fun c hc => absurd hc (by omega))
