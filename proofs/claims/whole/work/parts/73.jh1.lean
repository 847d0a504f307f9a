/-! THE REFERENCE'S RULES: calls of functions -/
/-- how many inputs stand among k variables from v on -/
def cnN (σ : RS) : Nat → Nat → Nat
  | 0 => fun _ => 0
  | k + 1 => fun v => (if (vD σ v).1 = 1 then 1 else 0) + cnN σ k (v + 1)
theorem cI_n (σ : RS) : ∀ k v (a : Nat), cI σ k v (nI a) = nI (a + cnN σ k v)
  | 0, v, a => rfl
  | k + 1, v, a => by
    have es : cI σ (k + 1) v (nI a) = cI σ k (v + 1) (nI a + (if (vD σ v).1 = 1 then 1 else 0)) := rfl
    have en : cnN σ (k + 1) v = (if (vD σ v).1 = 1 then 1 else 0) + cnN σ k (v + 1) := rfl
    rw [es, en]
    by_cases q : (vD σ v).1 = 1
    · rw [if_pos q, if_pos q, nI_1, cI_n σ k (v + 1) (a + 1), Nat.add_assoc]
    · rw [if_neg q, if_neg q, Nat.zero_add, ← cI_n σ k (v + 1) a]
      congr 1
      exact nI_add a 0
theorem cnN_le (σ : RS) : ∀ k v, cnN σ k v ≤ k
  | 0, v => Nat.le_refl _
  | k + 1, v => by
    have en : cnN σ (k + 1) v = (if (vD σ v).1 = 1 then 1 else 0) + cnN σ k (v + 1) := rfl
    have := cnN_le σ k (v + 1)
    rw [en]
    split <;> omega
/-- inputs -/
theorem c329 (xs : List Int32) (d : Nat) {J : JV} {σ : RS} {m : yM} (hR : RB J σ m) (hD : allD σ) {b : Nat} (hb : b < σ.1.length) : yC (xg xs) (d + 1) 329 [.ref 58, .int (nI b)] m (fun r m' => r = some (.int (nIn σ b)) ∧ m' = m) := by
  obtain ⟨n1, n2⟩ := hR.nB
  obtain ⟨v1, v2⟩ := hR.nV
  have el := hR.e b
  have hf := (hR.b hb).2.2.2.2
  unfold nIn
  have lp : ∀ (k v : Nat) (a : Int32), endV σ b = v + k → yP (xg xs) (d + 1) 329 36 [(0, .ref 58), (2, .int a), (3, .int (nI (endV σ b))), (4, .int (nI v))] [] m (fun r m' => r = some (.int (cI σ k v a)) ∧ m' = m) := by
    intro k
    induction k with
    | zero =>
      intro v a hk
      exact w329_36 xs d _ _ _ m _ ⟨fun _ => ⟨rfl, rfl⟩, fun z => absurd (nI_le (by omega) (by omega)) z⟩
    | succ k ih =>
      intro v a hk
      have hv := (hR.d (hD v (by omega))).2.1
      refine w329_36 xs d _ _ _ m _ ⟨fun z => absurd ((nI_leI (by omega) (by omega)).mp z) (by omega), fun _ => ⟨x_in_nI (by omega) (by decide), ?_⟩⟩
      rw [nI_clamp (by omega), hv]
      have es : cI σ (k + 1) v a = cI σ k (v + 1) (a + (if (vD σ v).1 = 1 then 1 else 0)) := rfl
      rw [es]
      refine ⟨fun z => ?_, fun z => ?_⟩
      · rw [if_neg z]
        refine w329_59 xs d _ _ _ _ m _ ?_
        rw [nI_1]
        exact ih (v + 1) _ (by omega)
      · rw [if_pos z]
        refine w329_59 xs d _ _ _ _ m _ ?_
        rw [nI_1]
        exact ih (v + 1) _ (by omega)
  have s27 : yP (xg xs) (d + 1) 329 27 [(0, .ref 58), (1, .int (nI b)), (2, .int (0 : Int32))] [.int (nI (endV σ b))] m (fun r m' => r = some (.int (cI σ (endV σ b - (σ.1.getD b dBK).2.2.2.2) (σ.1.getD b dBK).2.2.2.2 0)) ∧ m' = m) ∨ endV σ b < (σ.1.getD b dBK).2.2.2.2 := by
    rcases Nat.lt_or_ge (endV σ b) (σ.1.getD b dBK).2.2.2.2 with z | z
    · exact Or.inr z
    · left
      refine w329_27 xs d _ _ _ m _ ⟨x_in_nI (by omega) (by decide), ?_⟩
      rw [nI_clamp (by omega), hf.1]
      exact lp _ _ _ (by omega)
  have s27 : yP (xg xs) (d + 1) 329 27 [(0, .ref 58), (1, .int (nI b)), (2, .int (0 : Int32))] [.int (nI (endV σ b))] m (fun r m' => r = some (.int (cI σ (endV σ b - (σ.1.getD b dBK).2.2.2.2) (σ.1.getD b dBK).2.2.2.2 0)) ∧ m' = m) := by
    rcases s27 with z | z
    · exact z
    · refine w329_27 xs d _ _ _ m _ ⟨x_in_nI (by omega) (by decide), ?_⟩
      rw [nI_clamp (by omega), hf.1, show endV σ b - (σ.1.getD b dBK).2.2.2.2 = 0 by omega]
      exact w329_36 xs d _ _ _ m _ ⟨fun _ => ⟨rfl, rfl⟩, fun z => absurd (nI_le (by omega) (by omega)) z⟩
  refine w329_0 xs d _ m _ ⟨fun u => ⟨?_, ?_⟩, fun u => ?_⟩
  · rw [nI_1]; exact x_in_nI (by omega) (by decide)
  · have lt : b + 1 < σ.1.length := by
      rcases Nat.lt_or_ge (b + 1) σ.1.length with q | q
      · exact q
      · refine absurd ?_ u
        rw [n1, nI_m (by omega), show σ.1.length - 1 = b by omega]
    rw [nI_1, nI_clamp (by omega), (hR.b lt).2.2.2.2.1]
    have : endV σ b = (σ.1.getD (b + 1) dBK).2.2.2.2 := by unfold endV; rw [if_pos lt]
    rw [← this]
    exact s27
  · have lt : ¬ b + 1 < σ.1.length := by
      rw [n1, nI_m (by omega)] at u
      have := (nI_eq (by omega) (by omega)).mp u
      omega
    have : endV σ b = σ.2.1.length := by unfold endV; rw [if_neg lt]
    rw [v1, ← this]
    exact s27
/-- which function -/
theorem c358 (xs : List Int32) (d : Nat) {J : JV} (hO : JO J) {σ : RS} {m : yM} (hT : JT J m) (hR : RB J σ m) (h0 : 0 < σ.1.length) (hd : dsN σ) {n : Nat} (hn : n < J.2.2.1.length) (hvt : ¬ vtF J.2.2.1 n = 0) : ∃ y, yC (xg xs) (d + 5) 358 [.ref 58, .int (nI (J.2.2.2 n))] m (fun r m' => r = some (.int y) ∧ m' = m) ∧ ((fBlk σ 1 50 60 10 (vF J.2.2.1 n) = -1 ∧ y = -1) ∨ (∃ s, s < 10 ∧ fBlk σ 1 50 60 10 (vF J.2.2.1 n) = nI s ∧ y = nI s) ∨ ∃ b, b + 1 < σ.1.length ∧ fBlk σ 1 50 60 10 (vF J.2.2.1 n) = nI (b + 10) ∧ y = nI (b + 100) ∧ (σ.1.getD b dBK).1 = 1) := by
  have hx := (hT.2.1 n hn).2.2.2.2.1 hvt
  have hB := hR.nB.2
  have ei := hT.c hn
  have xi := hT.x hn
  have run : ∀ y, y = (if stN (vF J.2.2.1 n) 50 60 = -1 then (if bfB σ 1 (vF J.2.2.1 n) (σ.1.length - 1) 0 = -1 then -1 else 100 + bfB σ 1 (vF J.2.2.1 n) (σ.1.length - 1) 0) else stN (vF J.2.2.1 n) 50 60) → yC (xg xs) (d + 5) 358 [.ref 58, .int (nI (J.2.2.2 n))] m (fun r m' => r = some (.int y) ∧ m' = m) := by
    intro y hy
    subst hy
    refine w358_0 xs (d + 4) _ m _ ⟨xi, ?_⟩
    rw [ei]
    refine y_ci (c325f xs d hO hT hx) (by omega) ⟨xi, ?_⟩
    refine y_ci (c333 xs (d + 3) hO.1 hT hR h0 1 hx) (by omega) ⟨fun u => ?_, fun u => ?_⟩
    · rw [if_pos u]
      refine ⟨fun w => ?_, fun w => ?_⟩
      · rw [if_pos w]; exact ⟨rfl, rfl⟩
      · rw [if_neg w]; exact ⟨rfl, rfl⟩
    · rw [if_neg u]; exact ⟨rfl, rfl⟩
  rcases fBlk_r hO.1 hd hB h0 hx (a := 50) (c := 10) (by omega) (by omega) 1 with ⟨q1, q2, q3⟩ | ⟨s, s1, s2, s3⟩ | ⟨b, b1, b2, b3, b4, b5⟩
  · have q2 : stN (vF J.2.2.1 n) 50 60 = -1 := q2
    exact ⟨-1, run _ (by rw [if_pos q2, if_pos q3]), Or.inl ⟨q1, rfl⟩⟩
  · have s3 : stN (vF J.2.2.1 n) 50 60 = nI s := s3
    refine ⟨nI s, run _ ?_, Or.inr (Or.inl ⟨s, s1, s2, rfl⟩)⟩
    rw [s3, if_neg (nI_m1 (by omega))]
  · have b3 : stN (vF J.2.2.1 n) 50 60 = -1 := b3
    refine ⟨nI (b + 100), run _ ?_, Or.inr (Or.inr ⟨b, b1, ?_, rfl, b5⟩)⟩
    · rw [if_pos b3, b4, if_neg (nI_m1 (by omega)), show (100 : Int32) = nI 100 from rfl, nI_add, Nat.add_comm]
    · rw [Nat.add_comm b 10]; exact b2
/-- a standard function of constants -/
def cl3 (f t v1 v2 v3 : Int32) : Int32 := if f = 3 then two_ 23 (two_ 24 v1 v2) v3 else if f = 4 then (if v1 = 0 then v2 else v3) else if f = 8 then v1 else if f = 0 ∨ f = 7 ∨ f = 9 then one_ (nFun f t) v1 else two_ (nFun f t) v1 v2
theorem cl_0 (t v1 v2 v3 : Int32) : cl3 (nI 0) t v1 v2 v3 = one_ (if t = 1 then 4 else 5) v1 := by
  unfold cl3 nFun
  rw [if_neg (by decide), if_neg (by decide), if_neg (by decide), if_pos (by decide), if_pos (by decide)]
theorem cl_1 (t v1 v2 v3 : Int32) : cl3 (nI 1) t v1 v2 v3 = two_ 23 v1 v2 := by
  unfold cl3 nFun
  rw [if_neg (by decide), if_neg (by decide), if_neg (by decide), if_neg (by decide), if_neg (by decide), if_pos (by decide)]
theorem cl_2 (t v1 v2 v3 : Int32) : cl3 (nI 2) t v1 v2 v3 = two_ 24 v1 v2 := by
  unfold cl3 nFun
  rw [if_neg (by decide), if_neg (by decide), if_neg (by decide), if_neg (by decide), if_neg (by decide), if_neg (by decide), if_pos (by decide)]
theorem cl_3 (t v1 v2 v3 : Int32) : cl3 (nI 3) t v1 v2 v3 = two_ 23 (two_ 24 v1 v2) v3 := by
  unfold cl3 nFun
  rw [if_pos (by decide)]
theorem cl_4 (t v1 v2 v3 : Int32) : cl3 (nI 4) t v1 v2 v3 = if v1 = 0 then v2 else v3 := by
  unfold cl3 nFun
  rw [if_neg (by decide), if_pos (by decide)]
theorem cl_5 (t v1 v2 v3 : Int32) : cl3 (nI 5) t v1 v2 v3 = two_ (if t = 1 then 19 else 21) v1 v2 := by
  unfold cl3 nFun
  rw [if_neg (by decide), if_neg (by decide), if_neg (by decide), if_neg (by decide), if_neg (by decide), if_neg (by decide), if_neg (by decide), if_pos (by decide)]
theorem cl_6 (t v1 v2 v3 : Int32) : cl3 (nI 6) t v1 v2 v3 = two_ (if t = 1 then 20 else 22) v1 v2 := by
  unfold cl3 nFun
  rw [if_neg (by decide), if_neg (by decide), if_neg (by decide), if_neg (by decide), if_neg (by decide), if_neg (by decide), if_neg (by decide), if_neg (by decide), if_pos (by decide)]
theorem cl_7 (t v1 v2 v3 : Int32) : cl3 (nI 7) t v1 v2 v3 = one_ 6 v1 := by
  unfold cl3 nFun
  rw [if_neg (by decide), if_neg (by decide), if_neg (by decide), if_pos (by decide), if_neg (by decide), if_neg (by decide), if_neg (by decide), if_neg (by decide), if_neg (by decide), if_pos (by decide)]
theorem cl_8 (t v1 v2 v3 : Int32) : cl3 (nI 8) t v1 v2 v3 = v1 := by
  unfold cl3 nFun
  rw [if_neg (by decide), if_neg (by decide), if_pos (by decide)]
theorem cl_9 (t v1 v2 v3 : Int32) : cl3 (nI 9) t v1 v2 v3 = one_ 7 v1 := by
  unfold cl3 nFun
  rw [if_neg (by decide), if_neg (by decide), if_neg (by decide), if_pos (by decide), if_neg (by decide), if_neg (by decide), if_neg (by decide), if_neg (by decide), if_neg (by decide), if_neg (by decide)]
theorem c360 (xs : List Int32) (d : Nat) (m : yM) {s : Nat} (hs : s < 10) (t v1 v2 v3 : Int32) : yC (xg xs) (d + 2) 360 [.int (nI s), .int t, .int v1, .int v2, .int v3] m (fun r m' => r = some (.int (cl3 (nI s) t v1 v2 v3)) ∧ m' = m) := by
  have k2 : ∀ n : Int32, (n = 19 ∨ n = 20 ∨ n = 21 ∨ n = 22 ∨ n = 23 ∨ n = 24) → ∀ a b, yC (xg xs) (d + 1) 363 [.int n, .int a, .int b] m (fun r m' => r = some (.int (two_ n a b)) ∧ m' = m) := by
    intro n hn a b
    refine c363 xs d m n a b ?_ ?_
    · rcases hn with rfl | rfl | rfl | rfl | rfl | rfl <;> decide
    · intro z
      rcases hn with rfl | rfl | rfl | rfl | rfl | rfl <;> exact absurd z (by decide)
  rcases (show s = 0 ∨ s = 1 ∨ s = 2 ∨ s = 3 ∨ s = 4 ∨ s = 5 ∨ s = 6 ∨ s = 7 ∨ s = 8 ∨ s = 9 by omega) with rfl | rfl | rfl | rfl | rfl | rfl | rfl | rfl | rfl | rfl
  · rw [cl_0]
    refine w360_0 xs (d + 1) _ _ _ _ _ m _ ⟨fun _ => ⟨fun z => w360_62 xs (d + 1) _ _ m _ (y_ci (c361 xs d m _ _) (by omega) ⟨?_, rfl⟩), fun z => w360_62 xs (d + 1) _ _ m _ (y_ci (c361 xs d m _ _) (by omega) ⟨?_, rfl⟩)⟩, fun w => absurd w (by decide), fun w => absurd w (by decide), fun w => absurd w (by decide), fun w => absurd w (by decide), fun w => absurd w (by decide), fun w => absurd w (by decide), fun w => absurd w (by decide), fun w => absurd w (by decide), fun w => absurd rfl w⟩
    · rw [if_neg z]
    · rw [if_pos z]
  · rw [cl_1]
    refine w360_0 xs (d + 1) _ _ _ _ _ m _ ⟨fun w => absurd w (by decide), fun _ => y_ci (k2 23 (by decide) _ _) (by omega) ⟨rfl, rfl⟩, fun w => absurd w (by decide), fun w => absurd w (by decide), fun w => absurd w (by decide), fun w => absurd w (by decide), fun w => absurd w (by decide), fun w => absurd w (by decide), fun w => absurd w (by decide), fun _ w => absurd rfl w⟩
  · rw [cl_2]
    refine w360_0 xs (d + 1) _ _ _ _ _ m _ ⟨fun w => absurd w (by decide), fun w => absurd w (by decide), fun _ => y_ci (k2 24 (by decide) _ _) (by omega) ⟨rfl, rfl⟩, fun w => absurd w (by decide), fun w => absurd w (by decide), fun w => absurd w (by decide), fun w => absurd w (by decide), fun w => absurd w (by decide), fun w => absurd w (by decide), fun _ _ w => absurd rfl w⟩
  · rw [cl_3]
    refine w360_0 xs (d + 1) _ _ _ _ _ m _ ⟨fun w => absurd w (by decide), fun w => absurd w (by decide), fun w => absurd w (by decide), fun _ => y_ci (k2 24 (by decide) _ _) (by omega) (y_ci (k2 23 (by decide) _ _) (by omega) ⟨rfl, rfl⟩), fun w => absurd w (by decide), fun w => absurd w (by decide), fun w => absurd w (by decide), fun w => absurd w (by decide), fun w => absurd w (by decide), fun _ _ _ w => absurd rfl w⟩
  · rw [cl_4]
    refine w360_0 xs (d + 1) _ _ _ _ _ m _ ⟨fun w => absurd w (by decide), fun w => absurd w (by decide), fun w => absurd w (by decide), fun w => absurd w (by decide), fun _ => ⟨fun z => ⟨?_, rfl⟩, fun z => ⟨?_, rfl⟩⟩, fun w => absurd w (by decide), fun w => absurd w (by decide), fun w => absurd w (by decide), fun w => absurd w (by decide), fun _ _ _ _ w => absurd rfl w⟩
    · rw [if_pos z]
    · rw [if_neg z]
  · rw [cl_5]
    refine w360_0 xs (d + 1) _ _ _ _ _ m _ ⟨fun w => absurd w (by decide), fun w => absurd w (by decide), fun w => absurd w (by decide), fun w => absurd w (by decide), fun w => absurd w (by decide), fun _ => ⟨fun z => w360_121 xs (d + 1) _ _ _ m _ (y_ci (k2 21 (by decide) _ _) (by omega) ⟨?_, rfl⟩), fun z => w360_121 xs (d + 1) _ _ _ m _ (y_ci (k2 19 (by decide) _ _) (by omega) ⟨?_, rfl⟩)⟩, fun w => absurd w (by decide), fun w => absurd w (by decide), fun w => absurd w (by decide), fun _ _ _ _ _ w => absurd rfl w⟩
    · rw [if_neg z]
    · rw [if_pos z]
  · rw [cl_6]
    refine w360_0 xs (d + 1) _ _ _ _ _ m _ ⟨fun w => absurd w (by decide), fun w => absurd w (by decide), fun w => absurd w (by decide), fun w => absurd w (by decide), fun w => absurd w (by decide), fun w => absurd w (by decide), fun _ => ⟨fun z => w360_139 xs (d + 1) _ _ _ m _ (y_ci (k2 22 (by decide) _ _) (by omega) ⟨?_, rfl⟩), fun z => w360_139 xs (d + 1) _ _ _ m _ (y_ci (k2 20 (by decide) _ _) (by omega) ⟨?_, rfl⟩)⟩, fun w => absurd w (by decide), fun w => absurd w (by decide), fun _ _ _ _ _ _ w => absurd rfl w⟩
    · rw [if_neg z]
    · rw [if_pos z]
  · rw [cl_7]
    refine w360_0 xs (d + 1) _ _ _ _ _ m _ ⟨fun w => absurd w (by decide), fun w => absurd w (by decide), fun w => absurd w (by decide), fun w => absurd w (by decide), fun w => absurd w (by decide), fun w => absurd w (by decide), fun w => absurd w (by decide), fun _ => y_ci (c361 xs d m _ _) (by omega) ⟨rfl, rfl⟩, fun w => absurd w (by decide), fun _ _ _ _ _ _ _ w => absurd rfl w⟩
  · rw [cl_8]
    exact w360_0 xs (d + 1) _ _ _ _ _ m _ ⟨fun w => absurd w (by decide), fun w => absurd w (by decide), fun w => absurd w (by decide), fun w => absurd w (by decide), fun w => absurd w (by decide), fun w => absurd w (by decide), fun w => absurd w (by decide), fun w => absurd w (by decide), fun _ => ⟨rfl, rfl⟩, fun _ _ _ _ _ _ _ _ w => absurd rfl w⟩
  · rw [cl_9]
    exact w360_0 xs (d + 1) _ _ _ _ _ m _ ⟨fun w => absurd w (by decide), fun w => absurd w (by decide), fun w => absurd w (by decide), fun w => absurd w (by decide), fun w => absurd w (by decide), fun w => absurd w (by decide), fun w => absurd w (by decide), fun w => absurd w (by decide), fun w => absurd w (by decide), fun _ _ _ _ _ _ _ _ _ => y_ci (c361 xs d m _ _) (by omega) ⟨rfl, rfl⟩⟩
