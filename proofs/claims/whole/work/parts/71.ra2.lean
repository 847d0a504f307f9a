/-! RULES: the class's smaller questions -/
abbrev rdP (x : Int32) : Prop := (¬ x < 0 ∧ x < 256) ∨ (¬ x < 768 ∧ ¬ 832 ≤ x)
theorem c126 (xs : List Int32) (d : Nat) (m : yM) (x : Int32) : yC (xg xs) (d + 1) 126 [.int x] m (fun r m' => r = some (.int (if rdP x then 1 else 0)) ∧ m' = m) := by
  have w : ¬ (¬ x < 0 ∧ x < 256) → yP (xg xs) (d + 1) 126 11 [(0, .int x)] [] m (fun r m' => r = some (.int (if rdP x then 1 else 0)) ∧ m' = m) := by
    intro n1
    refine w126_11 xs d _ m _ ⟨fun u => ⟨?_, rfl⟩, fun u => ⟨fun v => ⟨?_, rfl⟩, fun v => ⟨?_, rfl⟩⟩⟩
    · rw [if_neg (fun y => y.elim n1 (fun y => y.1 u))]
    · rw [if_neg (fun y => y.elim n1 (fun y => y.2 v))]
    · rw [if_pos (Or.inr ⟨u, v⟩)]
  refine w126_0 xs d _ m _ ⟨fun u => w (fun y => y.1 u), fun u => ⟨fun v => ⟨?_, rfl⟩, fun v => w (fun y => v y.2)⟩⟩
  rw [if_pos (Or.inl ⟨u, v⟩)]
abbrev rgP (v t : Int32) : Prop := ¬ t = 1 ∨ (¬ v < -32768 ∧ ¬ 32767 < v)
theorem c128 (xs : List Int32) (d : Nat) (m : yM) (v t : Int32) : yC (xg xs) (d + 1) 128 [.int v, .int t] m (fun r m' => r = some (.int (if rgP v t then 1 else 0)) ∧ m' = m) := by
  refine w128_0 xs d _ _ m _ ⟨fun u => ⟨?_, rfl⟩, fun u => ⟨fun w => ⟨?_, rfl⟩, fun w => ⟨fun z => ⟨?_, rfl⟩, fun z => ⟨?_, rfl⟩⟩⟩⟩
  · rw [if_pos (Or.inl u)]
  · rw [if_neg (fun y => y.elim (fun y => y u) (fun y => y.1 w))]
  · rw [if_neg (fun y => y.elim (fun y => y u) (fun y => y.2 z))]
  · rw [if_pos (Or.inr ⟨w, z⟩)]
abbrev ftP (t to : Int32) : Prop := t = to ∨ (t = 1 ∧ to = 2)
theorem c150 (xs : List Int32) (d : Nat) (m : yM) (t to : Int32) : yC (xg xs) (d + 1) 150 [.int t, .int to] m (fun r m' => r = some (.int (if ftP t to then 1 else 0)) ∧ m' = m) := by
  refine w150_0 xs d _ _ m _ ⟨fun u => ⟨?_, rfl⟩, fun u => ⟨fun w => ⟨?_, rfl⟩, fun w => ⟨fun z => ⟨?_, rfl⟩, fun z => ⟨?_, rfl⟩⟩⟩⟩
  · rw [if_pos (Or.inl u)]
  · rw [if_neg (fun y => y.elim u (fun y => w y.1))]
  · rw [if_neg (fun y => y.elim u (fun y => z y.2))]
  · rw [if_pos (Or.inr ⟨w, z⟩)]
def cmT (x y : Int32) : Int32 := if (x = 0) = (y = 0) then (if x < y then y else x) else -1
theorem c169 (xs : List Int32) (d : Nat) (m : yM) (x y : Int32) : yC (xg xs) (d + 1) 169 [.int x, .int y] m (fun r m' => r = some (.int (cmT x y)) ∧ m' = m) := by
  unfold cmT
  refine w169_0 xs d _ _ m _ ⟨fun u => w169_9 xs d _ _ _ m _ ⟨fun v => ?_, fun v => ?_⟩, fun u => w169_9 xs d _ _ _ m _ ⟨fun v => ?_, fun v => ?_⟩⟩
  · refine w169_18 xs d _ _ _ _ m _ ⟨fun w => absurd rfl w, fun _ => ⟨?_, rfl⟩⟩
    rw [if_pos (show (x = 0) = (y = 0) from by simp [u, v])]
  · refine w169_18 xs d _ _ _ _ m _ ⟨fun w => ⟨?_, rfl⟩, fun w => absurd w (by decide)⟩
    rw [if_neg (show ¬ (x = 0) = (y = 0) from by simp [u, v])]
  · refine w169_18 xs d _ _ _ _ m _ ⟨fun w => ⟨?_, rfl⟩, fun w => absurd w (by decide)⟩
    rw [if_neg (show ¬ (x = 0) = (y = 0) from by simp [u, v])]
  · refine w169_18 xs d _ _ _ _ m _ ⟨fun w => absurd rfl w, fun _ => ⟨?_, rfl⟩⟩
    rw [if_pos (show (x = 0) = (y = 0) from by simp [u, v])]
theorem CR.f {F : List ND} {σ : RS} {m : yM} (h : CR F σ m) : F.length ≤ 16400 := h.1.2.2.1
theorem c125 (xs : List Int32) (d : Nat) {F : List ND} {σ : RS} {m : yM} (h : CR F σ m) {i : Nat} (hi : i < F.length) (c : Int32) : yC (xg xs) (d + 1) 125 [.ref 31, .int (nI i), .int c] m (fun r m' => r = some (.int (if σ.2.2.1 i = 8 ∧ σ.2.2.2.1 i = (if 768 ≤ c then 1 else 0) then 1 else 0)) ∧ m' = m) := by
  have hf := h.f
  have e : (nI i).toNatClampNeg = i := nI_clamp (by omega)
  have x1 : x_in (nI i) 16401 = true := x_in_nI (by omega) (by decide)
  refine w125_0 xs d _ _ m _ ⟨x1, ?_⟩
  rw [e, (h.t hi).1, (h.t hi).2.2.1]
  refine ⟨fun u => ⟨?_, rfl⟩, fun u => ⟨x1, fun v => ?_, fun v => ?_⟩⟩
  · rw [if_neg (fun y => u y.1)]
  · refine w125_35 xs d _ _ m _ ⟨fun w => ⟨?_, rfl⟩, fun w => ⟨?_, rfl⟩⟩
    · rw [if_pos v, if_neg (fun y => w y.2)]
    · rw [if_pos v, if_pos ⟨u, w⟩]
  · refine w125_35 xs d _ _ m _ ⟨fun w => ⟨?_, rfl⟩, fun w => ⟨?_, rfl⟩⟩
    · rw [if_neg v, if_neg (fun y => w y.2)]
    · rw [if_neg v, if_pos ⟨u, w⟩]
abbrev cnP (σ : RS) (i : Nat) : Prop := σ.2.2.1 i = 30 ∨ σ.2.2.1 i = 31
theorem c172 (xs : List Int32) (d : Nat) {F : List ND} {σ : RS} {m : yM} (h : CR F σ m) {i : Nat} (hi : i < F.length) : yC (xg xs) (d + 1) 172 [.ref 2, .int (nI i)] m (fun r m' => r = some (.int (if cnP σ i then 1 else 0)) ∧ m' = m) := by
  have hf := h.f
  have e : (nI i).toNatClampNeg = i := nI_clamp (by omega)
  have x1 : x_in (nI i) 16401 = true := x_in_nI (by omega) (by decide)
  refine w172_0 xs d _ m _ ⟨x1, ?_⟩
  rw [e, (h.t hi).1]
  refine ⟨fun u => ⟨?_, rfl⟩, fun u => ⟨x1, fun v => ⟨?_, rfl⟩, fun v => ⟨?_, rfl⟩⟩⟩
  · rw [if_pos (Or.inl u)]
  · rw [if_neg (fun y => y.elim u v)]
  · rw [if_pos (Or.inr v)]
/-- how many cells a type has; the type is well told -/
def szT (σ : RS) (i : Nat) : Int32 := if σ.2.2.1 i = 8 then 1 else if σ.2.2.1 i = 9 then σ.2.2.2.1 i else if 9 ≤ σ.2.2.2.1 i then (σ.1.getD (σ.2.2.2.1 i - 9).toNatClampNeg dBK).2.2.2.1 else xar_2.getD (σ.2.2.2.1 i).toNatClampNeg 0
abbrev blT (σ : RS) (x : Int32) : Prop := ∃ k, x = nI k ∧ k < 9 + σ.1.length
theorem c131 (xs : List Int32) (d : Nat) {F : List ND} {σ : RS} {m : yM} (h : CR F σ m) {i : Nat} (hi : i < F.length) (hb : ¬ σ.2.2.1 i = 8 → ¬ σ.2.2.1 i = 9 → blT σ (σ.2.2.2.1 i)) : yC (xg xs) (d + 1) 131 [.ref 18, .int (nI i)] m (fun r m' => r = some (.int (szT σ i)) ∧ m' = m) := by
  have hf := h.f
  have n2 := h.nB.2
  have e : (nI i).toNatClampNeg = i := nI_clamp (by omega)
  have x1 : x_in (nI i) 16401 = true := x_in_nI (by omega) (by decide)
  refine w131_0 xs d _ m _ ⟨x1, ?_⟩
  rw [e, (h.t hi).1, (h.t hi).2.2.1]
  unfold szT
  refine ⟨fun u => ⟨x1, x1, fun v => ?_, fun v => ⟨?_, rfl⟩⟩, fun u => ⟨?_, rfl⟩⟩
  · obtain ⟨k, k1, k2⟩ := hb u v
    rw [if_neg u, if_neg v, k1]
    refine ⟨fun w => ?_, fun w => ?_⟩
    · have k9 := (nI_leI (a := 9) (by omega) (by omega)).mp w
      have es : nI k - 9 = nI (k - 9) := by
        obtain ⟨j, rfl⟩ : ∃ j, k = j + 9 := ⟨k - 9, by omega⟩
        rw [Nat.add_sub_cancel, show nI (j + 9) = nI j + 9 from (nI_add j 9).symm, Int32.add_sub_cancel]
      rw [es, nI_clamp (by omega), if_pos w, (h.b (show k - 9 < σ.1.length by omega)).2.2.1]
      exact ⟨x_in_nI (by omega) (by decide), rfl, rfl⟩
    · have k9 : k < 9 := by
        rcases Nat.lt_or_ge k 9 with y | y
        · exact y
        · exact absurd (nI_le (a := 9) y (by omega)) w
      rw [if_neg w]
      exact ⟨x_in_nI k9 (by decide), rfl, rfl⟩
  · rw [if_neg u, if_pos v]
  · rw [if_pos u]
/-- the nodes above the one that is looked at, the text's first -/
def PH (F : List ND) (A : List Nat) (m : yM) : Prop := A.length ≤ 255 ∧ m.1 31 6 = nI A.length ∧ ∀ (i x : Nat), A[i]? = some x → m.1 32 i = nI x ∧ x < F.length
def fPar (A : List Nat) : Nat := A.getD (A.length - 1) 0
theorem c124 (xs : List Int32) (d : Nat) {F : List ND} {A : List Nat} {m : yM} (h : PH F A m) : yC (xg xs) (d + 1) 124 [.ref 31] m (fun r m' => r = some (.int (nI (fPar A))) ∧ m' = m) := by
  obtain ⟨h1, h2, h3⟩ := h
  unfold fPar
  by_cases z : A.length = 0
  · refine w124_0 xs d m _ ⟨fun _ => ⟨?_, rfl⟩, fun u => absurd ?_ u⟩
    · rw [List.getD_eq_getElem?_getD, List.getElem?_eq_none (by omega)]
      rfl
    · rw [h2, z]
      decide
  · obtain ⟨k, e⟩ : ∃ k, A.length = k + 1 := ⟨A.length - 1, by omega⟩
    have ec : nI A.length - 1 = nI (A.length - 1) := by rw [e, nI_pred]; rfl
    refine w124_0 xs d m _ ⟨fun u => ?_, fun _ => ⟨?_, ?_, rfl⟩⟩
    · rw [h2] at u
      exact absurd ((nI_leI (b := 0) (by omega) (by omega)).mp u) (by omega)
    · rw [h2, ec]
      exact x_in_nI (by omega) (by decide)
    · rw [h2, ec, nI_clamp (by omega), (h3 (A.length - 1) _ (getD_some (by omega))).1]
theorem drop_c {A : List Nat} {i x : Nat} (h : A[i]? = some x) : A.drop i = x :: A.drop (i + 1) := by
  obtain ⟨h1, h2⟩ := List.getElem?_eq_some_iff.mp h
  rw [List.drop_eq_getElem_cons h1, h2]
abbrev forP (σ : RS) (nm : Int32) (i : Nat) : Bool := decide (σ.2.2.1 i = 19 ∧ σ.2.2.2.1 i = nm)
abbrev for0 (σ : RS) (i : Nat) : Bool := decide (σ.2.2.1 i = 19)
theorem c161 (xs : List Int32) (d : Nat) {F : List ND} {σ : RS} {A : List Nat} {m : yM} (h : CR F σ m) (hA : PH F A m) : yC (xg xs) (d + 1) 161 [.ref 31] m (fun r m' => r = some (.int (if A.any (for0 σ) = true then 1 else 0)) ∧ m' = m) := by
  have hf := h.f
  obtain ⟨h1, h2, h3⟩ := hA
  have lp : ∀ (k i : Nat), i + k = A.length → yP (xg xs) (d + 1) 161 2 [(0, .ref 31), (1, .int (nI i))] [] m (fun r m' => r = some (.int (if (A.drop i).any (for0 σ) = true then 1 else 0)) ∧ m' = m) := by
    intro k
    induction k with
    | zero =>
      intro i hi
      refine w161_2 xs d _ m _ ⟨fun _ => ⟨?_, rfl⟩, fun u => absurd ?_ u⟩
      · rw [List.drop_eq_nil_of_le (by omega)]
        rfl
      · rw [h2]
        exact nI_le (by omega) (by omega)
    | succ k ih =>
      intro i hi
      have g : A[i]? = some (A.getD i 0) := getD_some (by omega)
      obtain ⟨g1, g2⟩ := h3 i _ g
      refine w161_2 xs d _ m _ ⟨fun u => ?_, fun _ => ⟨x_in_nI (by omega) (by decide), ?_, ?_⟩⟩
      · rw [h2] at u
        exact absurd ((nI_leI (by omega) (by omega)).mp u) (by omega)
      · rw [nI_clamp (by omega), g1]
        exact x_in_nI (by omega) (by decide)
      · rw [nI_clamp (by omega), g1, nI_clamp (by omega), (h.t g2).1, drop_c g, List.any_cons]
        refine ⟨fun u => ?_, fun u => ⟨?_, rfl⟩⟩
        · rw [show for0 σ (A.getD i 0) = false from decide_eq_false u, Bool.false_or, nI_1]
          exact ih (i + 1) (by omega)
        · rw [show for0 σ (A.getD i 0) = true from decide_eq_true u, Bool.true_or]
          rfl
  exact w161_0 xs d m _ (lp A.length 0 (by omega))
/-- what is broken if a variable becomes something -/
def fAs (σ : RS) (A : List Nat) (v : Nat) : Int32 := if (vD σ v).1 = 1 ∨ (inB σ 3 ∧ rdP (vD σ v).2.2.2) then 29 else if A.any (forP σ (σ.2.1.getD v dVK).1) = true then 30 else 0
theorem c146 (xs : List Int32) (d : Nat) {F : List ND} {σ : RS} {A : List Nat} {m : yM} (h : CR F σ m) (hA : PH F A m) {v : Nat} (hv : vOk σ v) : yC (xg xs) (d + 2) 146 [.ref 31, .int (nI v)] m (fun r m' => r = some (.int (fAs σ A v)) ∧ m' = m) := by
  have hf := h.f
  obtain ⟨a1, a2, a3, a4, a5, a6, a7⟩ := h.v hv
  have n2 := h.nV.2
  obtain ⟨h1, h2, h3⟩ := hA
  have e : (nI v).toNatClampNeg = v := nI_clamp (by omega)
  have xv : x_in (nI v) 4097 = true := x_in_nI (by omega) (by decide)
  have lp : ∀ (k i : Nat), i + k = A.length → yP (xg xs) (d + 2) 146 54 [(0, .ref 31), (1, .int (nI v)), (3, .int (nI i))] [] m (fun r m' => r = some (.int (if (A.drop i).any (forP σ (σ.2.1.getD v dVK).1) = true then 30 else 0)) ∧ m' = m) := by
    intro k
    induction k with
    | zero =>
      intro i hi
      refine w146_54 xs (d + 1) _ _ m _ ⟨fun _ => ⟨?_, rfl⟩, fun u => absurd ?_ u⟩
      · rw [List.drop_eq_nil_of_le (by omega)]
        rfl
      · rw [h2]
        exact nI_le (by omega) (by omega)
    | succ k ih =>
      intro i hi
      have g : A[i]? = some (A.getD i 0) := getD_some (by omega)
      obtain ⟨g1, g2⟩ := h3 i _ g
      have ei : (nI i).toNatClampNeg = i := nI_clamp (by omega)
      have ex : (nI (A.getD i 0)).toNatClampNeg = A.getD i 0 := nI_clamp (by omega)
      have xi : x_in (nI i) 256 = true := x_in_nI (by omega) (by decide)
      have xx : x_in (nI (A.getD i 0)) 16401 = true := x_in_nI (by omega) (by decide)
      refine w146_54 xs (d + 1) _ _ m _ ⟨fun u => ?_, fun _ => ⟨xi, ?_⟩⟩
      · rw [h2] at u
        exact absurd ((nI_leI (by omega) (by omega)).mp u) (by omega)
      · rw [ei, g1, ex, e, (h.t g2).1, (h.t g2).2.2.1, a2, drop_c g, List.any_cons]
        have go : forP σ (σ.2.1.getD v dVK).1 (A.getD i 0) = false → yP (xg xs) (d + 2) 146 110 [(0, .ref 31), (1, .int (nI v)), (3, .int (nI i))] [] m (fun r m' => r = some (.int (if (forP σ (σ.2.1.getD v dVK).1 (A.getD i 0) || (A.drop (i + 1)).any (forP σ (σ.2.1.getD v dVK).1)) = true then 30 else 0)) ∧ m' = m) := by
          intro y
          refine w146_110 xs (d + 1) _ _ m _ ?_
          rw [y, Bool.false_or, nI_1]
          exact ih (i + 1) (by omega)
        refine ⟨xx, fun u => go (decide_eq_false (fun y => u y.1)), fun u => ⟨xi, xx, xv, fun w => go (decide_eq_false (fun y => w y.2)), fun w => ⟨?_, rfl⟩⟩⟩
        rw [show forP σ (σ.2.1.getD v dVK).1 (A.getD i 0) = true from decide_eq_true ⟨u, w⟩, Bool.true_or]
        rfl
  have s31 : ∀ b : Int32, b = (if inB σ 3 ∧ rdP (vD σ v).2.2.2 then 1 else 0) → yP (xg xs) (d + 2) 146 31 [(0, .ref 31), (1, .int (nI v))] [.int b] m (fun r m' => r = some (.int (fAs σ A v)) ∧ m' = m) := by
    intro b hb
    unfold fAs
    refine w146_31 xs (d + 1) _ _ m _ ⟨xv, ?_⟩
    rw [e, a3]
    refine ⟨fun u => ⟨?_, rfl⟩, fun u => ⟨fun w => ?_, fun w => ⟨?_, rfl⟩⟩⟩
    · rw [if_pos (Or.inl u)]
    · have nr : ¬ (inB σ 3 ∧ rdP (vD σ v).2.2.2) := fun y => by rw [if_pos y] at hb; rw [hb] at w; exact absurd w (by decide)
      rw [if_neg (fun y => y.elim u nr)]
      exact lp A.length 0 (by omega)
    · have yr : inB σ 3 ∧ rdP (vD σ v).2.2.2 := by
        by_cases y : inB σ 3 ∧ rdP (vD σ v).2.2.2
        · exact y
        · rw [if_neg y] at hb; exact absurd hb w
      rw [if_pos (Or.inr yr)]
  refine w146_0 xs (d + 1) _ m _ (y_ci (c114 xs d h 3) (by omega) ⟨fun u => w146_30 xs (d + 1) _ m _ (s31 0 ?_), fun u => ⟨xv, ?_⟩⟩)
  · rw [if_neg (fun y => if0 u y.1)]
  · rw [e, a6]
    refine y_ci (c126 xs d m _) (by omega) ⟨fun w => w146_30 xs (d + 1) _ m _ (s31 0 ?_), fun w => s31 1 ?_⟩
    · rw [if_neg (fun y => if0 w y.2)]
    · rw [if_pos ⟨if1 u, if1 w⟩]
