/-! RULES: statements, operators of the class -/
/-- the nodes below one, the next ones only -/
def kds (F : List ND) (e : Nat) : Nat → Nat → List Nat
  | 0 => fun _ => []
  | k + 1 => fun i => if i < e then i :: kds F e k (i + szF F i) else []
def kids (F : List ND) (n : Nat) : List Nat := kds F (n + szF F n) (szF F n) (n + 1)
theorem kds_n (F : List ND) (e k i : Nat) (h : e ≤ i) : kds F e k i = [] := by
  cases k with
  | zero => rfl
  | succ k => show (if i < e then _ else _) = _; rw [if_neg (by omega)]
theorem kds_c (F : List ND) (e k i : Nat) (h : i < e) : kds F e (k + 1) i = i :: kds F e k (i + szF F i) := by
  show (if i < e then _ else _) = _
  rw [if_pos h]
abbrev cnB (σ : RS) (i : Nat) : Bool := decide (cnP σ i)
theorem c171 (xs : List Int32) (d : Nat) {F : List ND} {σ : RS} {m : yM} (h : CR F σ m) {n : Nat} (hn : n < F.length) : yC (xg xs) (d + 2) 171 [.ref 34, .int (nI n)] m (fun r m' => r = some (.int (if (kids F n).all (cnB σ) = true then 1 else 0)) ∧ m' = m) := by
  have hf := h.f
  have tn := h.t hn
  have e : (nI n).toNatClampNeg = n := nI_clamp (by omega)
  have x1 : x_in (nI n) 16401 = true := x_in_nI (by omega) (by decide)
  have lp : ∀ (k i : Nat), n + szF F n ≤ i + k → i ≤ F.length → yP (xg xs) (d + 2) 171 4 [(0, .ref 34), (1, .int (nI n)), (2, .int (nI i))] [] m (fun r m' => r = some (.int (if (kds F (n + szF F n) k i).all (cnB σ) = true then 1 else 0)) ∧ m' = m) := by
    intro k
    induction k with
    | zero =>
      intro i hi hi2
      refine w171_4 xs (d + 1) _ _ m _ ⟨x1, ?_⟩
      rw [e, tn.2.2.2.2.1]
      exact ⟨fun _ => ⟨rfl, rfl⟩, fun u => absurd (nI_le (by omega) (by omega)) u⟩
    | succ k ih =>
      intro i hi hi2
      refine w171_4 xs (d + 1) _ _ m _ ⟨x1, ?_⟩
      rw [e, tn.2.2.2.2.1]
      refine ⟨fun u => ?_, fun u => ?_⟩
      · have := (nI_leI (by omega) (by omega)).mp u
        rw [kds_n F _ _ i this]
        exact ⟨rfl, rfl⟩
      · have lt : i < n + szF F n := by
          rcases Nat.lt_or_ge i (n + szF F n) with y | y
          · exact y
          · exact absurd (nI_le y (by omega)) u
        have il : i < F.length := by omega
        have ti := h.t il
        rw [kds_c F _ k i lt, List.all_cons]
        refine y_ci (c172 xs d h il) (by omega) ⟨fun w => ⟨x_in_nI (by omega) (by decide), ?_⟩, fun w => ⟨?_, rfl⟩⟩
        · rw [nI_clamp (by omega), ti.2.2.2.2.1, show cnB σ i = true from decide_eq_true (if1 w), Bool.true_and]
          exact ih (i + szF F i) (by omega) ti.2.2.2.2.2.1
        · rw [show cnB σ i = false from decide_eq_false (if0 w), Bool.false_and]
          rfl
  refine w171_0 xs (d + 1) _ m _ ?_
  rw [nI_1]
  exact lp (szF F n) (n + 1) (by omega) (by omega)
def lkAsg (F : List ND) (σ : RS) (A : List Nat) (n : Nat) : RS ⊕ Int32 := if ¬ fAs σ A (σ.2.2.2.1 (n + 1)).toNatClampNeg = 0 then .inr (fAs σ A (σ.2.2.2.1 (n + 1)).toNatClampNeg) else if ftP (σ.2.2.2.2 (n + 1 + szF F (n + 1))) (σ.2.2.2.2 (n + 1)) then .inl σ else .inr 31
theorem c149 (xs : List Int32) (d : Nat) {F : List ND} {σ : RS} {A : List Nat} {m : yM} (h : CR F σ m) (hA : PH F A m) {n v : Nat} (hn : n + 1 + szF F (n + 1) < F.length) (hv : σ.2.2.2.1 (n + 1) = nI v) (vo : vOk σ v) : yC (xg xs) (d + 3) 149 [.ref 31, .int (nI n)] m (LQ F A m (lkAsg F σ A n)) := by
  have hf := h.f
  have n2 := h.nV.2
  have vl := (h.v vo).1
  have t1 := h.t (show n + 1 < F.length by omega)
  have t2 := h.t hn
  have e1 : (nI n + 1).toNatClampNeg = n + 1 := by rw [nI_1]; exact nI_clamp (by omega)
  have x2 : x_in (nI n + 1) 16401 = true := by rw [nI_1]; exact x_in_nI (by omega) (by decide)
  unfold lkAsg
  rw [hv, nI_clamp (by omega)]
  refine w149_0 xs (d + 2) _ m _ ⟨x2, ?_⟩
  rw [e1, t1.2.2.1, hv]
  refine y_ci (c146 xs d h hA vo) (by omega) ⟨fun u => ⟨x2, ?_⟩, fun u => ?_⟩
  · rw [t1.2.2.2.2.1, nI_clamp (by omega), t1.2.2.2.1, t2.2.2.2.1, if_neg (fun y => y u)]
    refine ⟨x_in_nI (by omega) (by decide), x2, y_ci (c150 xs (d + 1) m _ _) (by omega) ⟨fun w => ?_, fun w => ?_⟩⟩
    · rw [if_neg (if0 w)]
      exact LQ.no m (by decide)
    · rw [if_pos (if1 w)]
      exact LQ.ok h hA
  · rw [if_pos u]
    exact LQ.no m u
abbrev ifB (σ : RS) (i : Nat) : Bool := decide (¬ σ.2.2.1 i = 11 ∧ ¬ σ.2.2.2.2 i = 0)
def lkIf (F : List ND) (σ : RS) (n : Nat) : RS ⊕ Int32 := if (kids F n).any (ifB σ) = true then .inr 34 else .inl σ
theorem c156 (xs : List Int32) (d : Nat) {F : List ND} {σ : RS} {A : List Nat} {m : yM} (h : CR F σ m) (hA : PH F A m) {n : Nat} (hn : n < F.length) : yC (xg xs) (d + 1) 156 [.ref 31, .int (nI n)] m (LQ F A m (lkIf F σ n)) := by
  have hf := h.f
  have tn := h.t hn
  have e : (nI n).toNatClampNeg = n := nI_clamp (by omega)
  have x1 : x_in (nI n) 16401 = true := x_in_nI (by omega) (by decide)
  have lp : ∀ (k i : Nat), n + szF F n ≤ i + k → i ≤ F.length → yP (xg xs) (d + 1) 156 4 [(0, .ref 31), (1, .int (nI n)), (2, .int (nI i))] [] m (LQ F A m (if (kds F (n + szF F n) k i).any (ifB σ) = true then .inr 34 else .inl σ)) := by
    intro k
    induction k with
    | zero =>
      intro i hi hi2
      refine w156_4 xs d _ _ m _ ⟨x1, ?_⟩
      rw [e, tn.2.2.2.2.1]
      exact ⟨fun _ => LQ.ok h hA, fun u => absurd (nI_le (by omega) (by omega)) u⟩
    | succ k ih =>
      intro i hi hi2
      refine w156_4 xs d _ _ m _ ⟨x1, ?_⟩
      rw [e, tn.2.2.2.2.1]
      refine ⟨fun u => ?_, fun u => ?_⟩
      · have := (nI_leI (by omega) (by omega)).mp u
        rw [kds_n F _ _ i this]
        exact LQ.ok h hA
      · have lt : i < n + szF F n := by
          rcases Nat.lt_or_ge i (n + szF F n) with y | y
          · exact y
          · exact absurd (nI_le y (by omega)) u
        have il : i < F.length := by omega
        have ti := h.t il
        have xi : x_in (nI i) 16401 = true := x_in_nI (by omega) (by decide)
        have ei : (nI i).toNatClampNeg = i := nI_clamp (by omega)
        rw [kds_c F _ k i lt, List.any_cons, ei, ti.1, ti.2.2.2.1]
        have go : ifB σ i = false → yP (xg xs) (d + 1) 156 46 [(0, .ref 31), (1, .int (nI n)), (2, .int (nI i))] [] m (LQ F A m (if (ifB σ i || (kds F (n + szF F n) k (i + szF F i)).any (ifB σ)) = true then .inr 34 else .inl σ)) := by
          intro y
          refine w156_46 xs d _ _ m _ ⟨xi, ?_⟩
          rw [ei, ti.2.2.2.2.1, y, Bool.false_or]
          exact ih (i + szF F i) (by omega) ti.2.2.2.2.2.1
        refine ⟨xi, fun w => go (decide_eq_false (fun y => y.1 w)), fun w => ⟨xi, fun z => go (decide_eq_false (fun y => y.2 z)), fun z => ?_⟩⟩
        rw [show ifB σ i = true from decide_eq_true ⟨w, z⟩, Bool.true_or, if_pos rfl]
        exact LQ.no m (by decide)
  refine w156_0 xs d _ m _ ?_
  rw [nI_1]
  exact lp (szF F n) (n + 1) (by omega) (by omega)
def lkRng (F : List ND) (σ : RS) (n : Nat) : RS ⊕ Int32 := if σ.2.2.1 (n + 1) = 31 ∨ σ.2.2.1 (n + szF F n - 1) = 31 ∨ ¬ σ.2.2.2.1 (n + 1) ≤ σ.2.2.2.1 (n + szF F n - 1) then .inr 35 else .inl σ
theorem c157 (xs : List Int32) (d : Nat) {F : List ND} {σ : RS} {A : List Nat} {m : yM} (h : CR F σ m) (hA : PH F A m) {n : Nat} (hn : n < F.length) (h2 : 2 ≤ szF F n) : yC (xg xs) (d + 1) 157 [.ref 31, .int (nI n)] m (LQ F A m (lkRng F σ n)) := by
  have hf := h.f
  have tn := h.t hn
  have t1 := h.t (show n + 1 < F.length by omega)
  have t2 := h.t (show n + szF F n - 1 < F.length by omega)
  have e : (nI n).toNatClampNeg = n := nI_clamp (by omega)
  have e1 : (nI n + 1).toNatClampNeg = n + 1 := by rw [nI_1]; exact nI_clamp (by omega)
  have x1 : x_in (nI n) 16401 = true := x_in_nI (by omega) (by decide)
  have x2 : x_in (nI n + 1) 16401 = true := by rw [nI_1]; exact x_in_nI (by omega) (by decide)
  have es : nI (n + szF F n) - 1 = nI (n + szF F n - 1) := by
    obtain ⟨k, ek⟩ : ∃ k, n + szF F n = k + 1 := ⟨n + szF F n - 1, by omega⟩
    rw [ek, nI_pred]
    rfl
  have e2 : (nI (n + szF F n - 1)).toNatClampNeg = n + szF F n - 1 := nI_clamp (by omega)
  have x3 : x_in (nI (n + szF F n - 1)) 16401 = true := x_in_nI (by omega) (by decide)
  have bad : (σ.2.2.1 (n + 1) = 31 ∨ σ.2.2.1 (n + szF F n - 1) = 31 ∨ ¬ σ.2.2.2.1 (n + 1) ≤ σ.2.2.2.1 (n + szF F n - 1)) → yP (xg xs) (d + 1) 157 65 [] [] m (LQ F A m (lkRng F σ n)) := by
    intro p
    unfold lkRng
    rw [if_pos p]
    exact w157_65 xs d m _ (w157_70 xs d _ m _ ⟨fun u => absurd u (by decide), fun _ => LQ.no m (by decide)⟩)
  refine w157_0 xs d _ m _ ⟨x1, x2, ?_⟩
  rw [e, tn.2.2.2.2.1, es, e1, e2, t1.1, t2.1, t1.2.2.1, t2.2.2.1]
  refine ⟨fun u => bad (Or.inl u), fun u => ⟨x3, fun v => bad (Or.inr (Or.inl v)), fun v => ⟨x2, x3, fun w => ?_, fun w => bad (Or.inr (Or.inr w))⟩⟩⟩
  unfold lkRng
  rw [if_neg (fun y => y.elim u (fun y => y.elim v (fun y => y w)))]
  exact w157_70 xs d _ m _ ⟨fun _ => LQ.ok h hA, fun u => absurd rfl u⟩
/-- a node becomes a number -/
def bcN (σ : RS) (n : Nat) (x : Int32) : RS := setV (setK σ n 30) n x
theorem c179 (xs : List Int32) (d : Nat) {F : List ND} {σ : RS} {m : yM} (h : CR F σ m) {n : Nat} (hn : n < F.length) (x : Int32) : yC (xg xs) (d + 1) 179 [.ref 2, .int (nI n), .int x] m (fun r m' => r = none ∧ m' = y_si (y_si m 3 n 30) 5 n x) := by
  have hf := h.f
  have x1 : x_in (nI n) 16401 = true := x_in_nI (by omega) (by decide)
  refine w179_0 xs d _ _ m _ ⟨x1, x1, rfl, ?_⟩
  rw [nI_clamp (by omega)]
def nOne (o t : Int32) : Int32 := if o = 0 then (if t = 1 then 0 else 1) else (if t = 0 then 2 else 3)
theorem c183 (xs : List Int32) (d : Nat) (m : yM) (o t : Int32) : yC (xg xs) (d + 1) 183 [.int o, .int t] m (fun r m' => r = some (.int (nOne o t)) ∧ m' = m) := by
  unfold nOne
  refine w183_0 xs d _ _ m _ ⟨fun u => ⟨fun v => ⟨?_, rfl⟩, fun v => ⟨?_, rfl⟩⟩, fun u => ⟨fun v => ⟨?_, rfl⟩, fun v => ⟨?_, rfl⟩⟩⟩
  · rw [if_neg u, if_neg v]
  · rw [if_neg u, if_pos v]
  · rw [if_pos u, if_neg v]
  · rw [if_pos u, if_pos v]
def nTwo (o t : Int32) : Int32 := if 3 ≤ o then (if 8 < o then (if t = 1 then o - 9 + 0 else o - 9 + 5) else 13 + o - 3) else (if o = 0 then 11 else if o = 1 then 12 else 10)
theorem c181 (xs : List Int32) (d : Nat) (m : yM) (o t : Int32) : yC (xg xs) (d + 1) 181 [.int o, .int t] m (fun r m' => r = some (.int (nTwo o t)) ∧ m' = m) := by
  unfold nTwo
  refine w181_0 xs d _ _ m _ ⟨fun u => ⟨fun v => ⟨fun w => ⟨?_, rfl⟩, fun w => ⟨?_, rfl⟩⟩, fun v => ⟨?_, rfl⟩⟩, fun u => ⟨fun v => ⟨fun w => ⟨?_, rfl⟩, fun w => ⟨?_, rfl⟩⟩, fun v => ⟨?_, rfl⟩⟩⟩
  · rw [if_pos u, if_pos v, if_neg w]
  · rw [if_pos u, if_pos v, if_pos w]
  · rw [if_pos u, if_neg v]
  · rw [if_neg u, if_neg v, if_neg w]
  · rw [if_neg u, if_neg v, if_pos w]
  · rw [if_neg u, if_pos v]
def lkOne (F : List ND) (σ : RS) (n : Nat) : RS ⊕ Int32 := if σ.2.2.2.1 n = 0 ∧ σ.2.2.2.2 (n + 1) = 0 then .inr 28 else if (kids F n).all (cnB (setT σ n (σ.2.2.2.2 (n + 1)))) = true then .inl (bcN (setT σ n (σ.2.2.2.2 (n + 1))) n (one_ (nOne (σ.2.2.2.1 n) (σ.2.2.2.2 (n + 1))) (σ.2.2.2.1 (n + 1)))) else .inl (setT σ n (σ.2.2.2.2 (n + 1)))
theorem upI_n (f : Nat → Int32) (n : Nat) (x : Int32) : upI f n x n = x := if_pos rfl
theorem upI_o (f : Nat → Int32) {n i : Nat} (x : Int32) (h : ¬ i = n) : upI f n x i = f i := if_neg h
theorem c182 (xs : List Int32) (d : Nat) {F : List ND} {σ : RS} {A : List Nat} {m : yM} (h : CR F σ m) (hA : PH F A m) {n : Nat} (hn : n + 1 < F.length) : yC (xg xs) (d + 3) 182 [.ref 34, .int (nI n)] m (LQ F A m (lkOne F σ n)) := by
  have hf := h.f
  have t0 := h.t (show n < F.length by omega)
  have t1 := h.t hn
  have e : (nI n).toNatClampNeg = n := nI_clamp (by omega)
  have e1 : (nI n + 1).toNatClampNeg = n + 1 := by rw [nI_1]; exact nI_clamp (by omega)
  have x1 : x_in (nI n) 16401 = true := x_in_nI (by omega) (by decide)
  have x2 : x_in (nI n + 1) 16401 = true := by rw [nI_1]; exact x_in_nI (by omega) (by decide)
  have go : ¬ (σ.2.2.2.1 n = 0 ∧ σ.2.2.2.2 (n + 1) = 0) → yP (xg xs) (d + 3) 182 31 [(0, .ref 34), (1, .int (nI n)), (2, .int (nI n + 1))] [] m (LQ F A m (lkOne F σ n)) := by
    intro p
    unfold lkOne
    rw [if_neg p]
    refine w182_31 xs (d + 2) _ _ m _ ⟨x2, x1, ?_⟩
    rw [e, e1, t1.2.2.2.1]
    have h1 := h.sT n (σ.2.2.2.2 (n + 1))
    have s0 := h1.t (show n < F.length by omega)
    have s1 := h1.t hn
    have k1 : KR m (y_si m 6 n (σ.2.2.2.2 (n + 1))) := (KR.re m).si (by omega)
    have p1 := hA.si (k := 6) (i := n) (v := σ.2.2.2.2 (n + 1)) (by omega)
    generalize y_si m 6 n (σ.2.2.2.2 (n + 1)) = m1 at h1 s0 s1 k1 p1 ⊢
    refine y_ci (c171 xs d h1 (by omega)) (by omega) ⟨fun u => ?_, fun u => ⟨x1, x1, ?_⟩⟩
    · rw [if_neg (if0 u)]
      exact ⟨k1, rfl, h1, p1⟩
    · rw [if_pos (if1 u), s0.2.2.1, s0.2.2.2.1]
      refine y_ci (c183 xs (d + 1) m1 _ _) (by omega) ⟨x2, ?_⟩
      rw [s1.2.2.1]
      refine y_ci (c178 xs (d + 2) m1 _ _) (by omega) ?_
      refine y_cv (c179 xs (d + 1) h1 (by omega) _) (by omega) ?_
      refine ⟨(k1.si (by omega)).si (by omega), rfl, ?_, (p1.si (by omega)).si (by omega)⟩
      have h2 := (h1.sK n 30).sV n (one_ (nOne ((setT σ n (σ.2.2.2.2 (n + 1))).2.2.2.1 n) ((setT σ n (σ.2.2.2.2 (n + 1))).2.2.2.2 n)) ((setT σ n (σ.2.2.2.2 (n + 1))).2.2.2.1 (n + 1)))
      have ee : (setT σ n (σ.2.2.2.2 (n + 1))).2.2.2.2 n = σ.2.2.2.2 (n + 1) := upI_n _ _ _
      rw [ee] at h2 ⊢
      exact h2
  refine w182_0 xs (d + 2) _ m _ ⟨x1, ?_⟩
  rw [e, t0.2.2.1]
  refine ⟨fun u => go (fun y => u y.1), fun u => ⟨x2, ?_⟩⟩
  rw [e1, t1.2.2.2.1]
  refine ⟨fun v => go (fun y => v y.2), fun v => ?_⟩
  unfold lkOne
  rw [if_pos ⟨u, v⟩]
  exact LQ.no m (by decide)
