/-! RULES: calls of the class -/
def nFun (f t : Int32) : Int32 := if f = 0 then (if t = 1 then 4 else 5) else if f = 1 then 23 else if f = 2 then 24 else if f = 5 then (if t = 1 then 19 else 21) else if f = 6 then (if t = 1 then 20 else 22) else if f = 7 then 6 else 7
theorem c174 (xs : List Int32) (d : Nat) (m : yM) (f t : Int32) : yC (xg xs) (d + 1) 174 [.int f, .int t] m (fun r m' => r = some (.int (nFun f t)) ∧ m' = m) := by
  unfold nFun
  refine w174_0 xs d _ _ m _ ⟨fun u => ⟨fun v => ⟨?_, rfl⟩, fun v => ⟨?_, rfl⟩⟩, fun u => ⟨?_, rfl⟩, fun u => ⟨?_, rfl⟩, fun u => ⟨fun v => ⟨?_, rfl⟩, fun v => ⟨?_, rfl⟩⟩, fun u => ⟨fun v => ⟨?_, rfl⟩, fun v => ⟨?_, rfl⟩⟩, fun u => ⟨?_, rfl⟩, fun n0 n1 n2 n5 n6 n7 => ⟨?_, rfl⟩⟩
  · rw [if_pos u, if_neg v]
  · rw [if_pos u, if_pos v]
  · rw [u]; rfl
  · rw [u]; rfl
  · rw [if_neg (by rw [u]; decide), if_neg (by rw [u]; decide), if_neg (by rw [u]; decide), if_pos u, if_neg v]
  · rw [if_neg (by rw [u]; decide), if_neg (by rw [u]; decide), if_neg (by rw [u]; decide), if_pos u, if_pos v]
  · rw [if_neg (by rw [u]; decide), if_neg (by rw [u]; decide), if_neg (by rw [u]; decide), if_neg (by rw [u]; decide), if_pos u, if_neg v]
  · rw [if_neg (by rw [u]; decide), if_neg (by rw [u]; decide), if_neg (by rw [u]; decide), if_neg (by rw [u]; decide), if_pos u, if_pos v]
  · rw [u]; rfl
  · rw [if_neg n0, if_neg n1, if_neg n2, if_neg n5, if_neg n6, if_neg n7]
/-- the second node below n, the third -/
abbrev kd2 (F : List ND) (n : Nat) : Nat := n + 1 + szF F (n + 1)
abbrev kd3 (F : List ND) (n : Nat) : Nat := kd2 F n + szF F (kd2 F n)
def chT (F : List ND) (σ : RS) (n : Nat) : Int32 := if σ.2.2.2.2 (n + 1) = 0 then cmT (σ.2.2.2.2 (kd2 F n)) (σ.2.2.2.2 (kd3 F n)) else -1
theorem c168 (xs : List Int32) (d : Nat) {F : List ND} {σ : RS} {m : yM} (h : CR F σ m) {n : Nat} (hn : kd3 F n < F.length) : yC (xg xs) (d + 2) 168 [.ref 34, .int (nI n)] m (fun r m' => r = some (.int (chT F σ n)) ∧ m' = m) := by
  have hf := h.f
  have d2 : kd2 F n = n + 1 + szF F (n + 1) := rfl
  have d3 : kd3 F n = kd2 F n + szF F (kd2 F n) := rfl
  have t1 := h.t (show n + 1 < F.length by omega)
  have t2 := h.t (show kd2 F n < F.length by omega)
  have t3 := h.t hn
  have e1 : (nI n + 1).toNatClampNeg = n + 1 := by rw [nI_1]; exact nI_clamp (by omega)
  have x1 : x_in (nI n + 1) 16401 = true := by rw [nI_1]; exact x_in_nI (by omega) (by decide)
  have e2 : (nI (kd2 F n)).toNatClampNeg = kd2 F n := nI_clamp (by omega)
  have x2 : x_in (nI (kd2 F n)) 16401 = true := x_in_nI (by omega) (by decide)
  have e3 : (nI (kd3 F n)).toNatClampNeg = kd3 F n := nI_clamp (by omega)
  have x3 : x_in (nI (kd3 F n)) 16401 = true := x_in_nI (by omega) (by decide)
  have b1 : m.1 7 (n + 1) = nI (kd2 F n) := t1.2.2.2.2.1
  have b2 : m.1 7 (kd2 F n) = nI (kd3 F n) := t2.2.2.2.2.1
  unfold chT
  refine w168_0 xs (d + 1) _ m _ ⟨x1, ?_⟩
  rw [e1, b1, e2, b2, e3, t1.2.2.2.1, t2.2.2.2.1, t3.2.2.2.1]
  refine ⟨x2, x1, fun u => ⟨?_, rfl⟩, fun u => ⟨x2, x3, ?_⟩⟩
  · rw [if_neg u]
  · rw [if_pos u]
    exact y_ci (c169 xs d m _ _) (by omega) ⟨rfl, rfl⟩
def anT (σ : RS) (K : List Nat) (a : Int32) : Int32 := K.foldl (fun a i => a &&& (if σ.2.2.2.2 i = 0 then 0 else 1)) a
def wdT (σ : RS) (K : List Nat) (a : Int32) : Int32 := K.foldl (fun a i => if a < σ.2.2.2.2 i then σ.2.2.2.2 i else a) a
def stT (F : List ND) (σ : RS) (n : Nat) (f : Int32) (an wd : Int32) : Int32 := if f = 4 then chT F σ n else if f = 5 ∨ f = 6 then (if an = 0 then -1 else σ.2.2.2.2 (n + 1)) else if f = 7 then 1 else if f = 8 then 2 else if f = 9 then (if an = 0 then -1 else 0) else (if an = 0 then -1 else wd)
theorem c167 (xs : List Int32) (d : Nat) {F : List ND} {σ : RS} {m : yM} (h : CR F σ m) {n : Nat} (hn : n + 1 < F.length) (f : Int32) (h4 : f = 4 → kd3 F n < F.length) : yC (xg xs) (d + 3) 167 [.ref 34, .int (nI n), .int f] m (fun r m' => r = some (.int (stT F σ n f (anT σ (kids F n) 1) (wdT σ (kids F n) 0))) ∧ m' = m) := by
  have hf := h.f
  have tn := h.t (show n < F.length by omega)
  have t1 := h.t hn
  have e : (nI n).toNatClampNeg = n := nI_clamp (by omega)
  have x1 : x_in (nI n) 16401 = true := x_in_nI (by omega) (by decide)
  have e1 : (nI n + 1).toNatClampNeg = n + 1 := by rw [nI_1]; exact nI_clamp (by omega)
  have x2 : x_in (nI n + 1) 16401 = true := by rw [nI_1]; exact x_in_nI (by omega) (by decide)
  have out : ∀ a w : Int32, ((f = (4 : Int32) → (yC (xg xs) (d + 2) 168 [.ref 34, .int (nI n)] m (fun v1 m1 => ∃ u1, v1 = some (Value.int u1) ∧ ((some (.int u1) : Option Value) = some (.int (stT F σ n f a w)) ∧ m1 = m)))) ∧ (f = (5 : Int32) → ((a = 0 → ((some (.int ((-1) : Int32)) : Option Value) = some (.int (stT F σ n f a w)) ∧ m = m)) ∧ (¬ a = 0 → (x_in (nI n + (1 : Int32)) 16401 = true ∧ ((some (.int (m.1 6 ((nI n + (1 : Int32)).toNatClampNeg))) : Option Value) = some (.int (stT F σ n f a w)) ∧ m = m))))) ∧ (f = (6 : Int32) → ((a = 0 → ((some (.int ((-1) : Int32)) : Option Value) = some (.int (stT F σ n f a w)) ∧ m = m)) ∧ (¬ a = 0 → (x_in (nI n + (1 : Int32)) 16401 = true ∧ ((some (.int (m.1 6 ((nI n + (1 : Int32)).toNatClampNeg))) : Option Value) = some (.int (stT F σ n f a w)) ∧ m = m))))) ∧ (f = (7 : Int32) → ((some (.int (1 : Int32)) : Option Value) = some (.int (stT F σ n f a w)) ∧ m = m)) ∧ (f = (8 : Int32) → ((some (.int (2 : Int32)) : Option Value) = some (.int (stT F σ n f a w)) ∧ m = m)) ∧ (f = (9 : Int32) → ((a = 0 → ((some (.int ((-1) : Int32)) : Option Value) = some (.int (stT F σ n f a w)) ∧ m = m)) ∧ (¬ a = 0 → ((some (.int (0 : Int32)) : Option Value) = some (.int (stT F σ n f a w)) ∧ m = m)))) ∧ (¬ f = (4 : Int32) → ¬ f = (5 : Int32) → ¬ f = (6 : Int32) → ¬ f = (7 : Int32) → ¬ f = (8 : Int32) → ¬ f = (9 : Int32) → ((a = 0 → ((some (.int ((-1) : Int32)) : Option Value) = some (.int (stT F σ n f a w)) ∧ m = m)) ∧ (¬ a = 0 → ((some (.int w) : Option Value) = some (.int (stT F σ n f a w)) ∧ m = m))))) := by
    intro a w
    unfold stT
    rw [e1, t1.2.2.2.1]
    refine ⟨fun u => ?_, fun u => ?_, fun u => ?_, fun u => ?_, fun u => ?_, fun u => ?_, fun n4 n5 n6 n7 n8 n9 => ?_⟩
    · rw [if_pos u]
      exact y_ci (c168 xs d h (h4 u)) (by omega) ⟨rfl, rfl⟩
    · rw [if_neg (by rw [u]; decide), if_pos (Or.inl u)]
      exact ⟨fun v => ⟨by rw [if_pos v], rfl⟩, fun v => ⟨x2, by rw [if_neg v], rfl⟩⟩
    · rw [if_neg (by rw [u]; decide), if_pos (Or.inr u)]
      exact ⟨fun v => ⟨by rw [if_pos v], rfl⟩, fun v => ⟨x2, by rw [if_neg v], rfl⟩⟩
    · rw [if_neg (by rw [u]; decide), if_neg (by rw [u]; decide), if_pos u]
      exact ⟨rfl, rfl⟩
    · rw [if_neg (by rw [u]; decide), if_neg (by rw [u]; decide), if_neg (by rw [u]; decide), if_pos u]
      exact ⟨rfl, rfl⟩
    · rw [if_neg (by rw [u]; decide), if_neg (by rw [u]; decide), if_neg (by rw [u]; decide), if_neg (by rw [u]; decide), if_pos u]
      exact ⟨fun v => ⟨by rw [if_pos v], rfl⟩, fun v => ⟨by rw [if_neg v], rfl⟩⟩
    · rw [if_neg n4, if_neg (fun y => y.elim n5 n6), if_neg n7, if_neg n8, if_neg n9]
      exact ⟨fun v => ⟨by rw [if_pos v], rfl⟩, fun v => ⟨by rw [if_neg v], rfl⟩⟩
  have lp : ∀ (k i : Nat) (a w : Int32), n + szF F n ≤ i + k → i ≤ F.length → yP (xg xs) (d + 3) 167 10 [(0, .ref 34), (1, .int (nI n)), (2, .int f), (3, .int a), (4, .int w), (5, .int (nI i))] [] m (fun r m' => r = some (.int (stT F σ n f (anT σ (kds F (n + szF F n) k i) a) (wdT σ (kds F (n + szF F n) k i) w))) ∧ m' = m) := by
    intro k
    induction k with
    | zero =>
      intro i a w hi hi2
      refine w167_10 xs (d + 2) _ _ _ _ _ m _ ⟨x1, ?_⟩
      rw [e, tn.2.2.2.2.1]
      exact ⟨fun _ => out a w, fun u => absurd (nI_le (by omega) (by omega)) u⟩
    | succ k ih =>
      intro i a w hi hi2
      refine w167_10 xs (d + 2) _ _ _ _ _ m _ ⟨x1, ?_⟩
      rw [e, tn.2.2.2.2.1]
      refine ⟨fun u => ?_, fun u => ?_⟩
      · have := (nI_leI (by omega) (by omega)).mp u
        rw [kds_n F _ _ i this]
        exact out a w
      · have lt : i < n + szF F n := by
          rcases Nat.lt_or_ge i (n + szF F n) with y | y
          · exact y
          · exact absurd (nI_le y (by omega)) u
        have il : i < F.length := by omega
        have ti := h.t il
        have xi : x_in (nI i) 16401 = true := x_in_nI (by omega) (by decide)
        have ei : (nI i).toNatClampNeg = i := nI_clamp (by omega)
        rw [kds_c F _ k i lt, ei, ti.2.2.2.1]
        have go : ∀ b : Int32, b = (if σ.2.2.2.2 i = 0 then 0 else 1) → yP (xg xs) (d + 3) 167 43 [(0, .ref 34), (1, .int (nI n)), (2, .int f), (4, .int w), (5, .int (nI i))] [.int b, .int a] m (fun r m' => r = some (.int (stT F σ n f (anT σ (i :: kds F (n + szF F n) k (i + szF F i)) a) (wdT σ (i :: kds F (n + szF F n) k (i + szF F i)) w))) ∧ m' = m) := by
          intro b hb
          refine w167_43 xs (d + 2) _ _ _ _ _ _ m _ ⟨xi, xi, ?_⟩
          rw [ei, ti.2.2.2.1, ti.2.2.2.2.1]
          have := ih (i + szF F i) (a &&& b) (if w < σ.2.2.2.2 i then σ.2.2.2.2 i else w) (by omega) ti.2.2.2.2.2.1
          rw [hb] at this ⊢
          exact this
        exact ⟨xi, fun v => go 0 (by rw [if_pos v]), fun v => go 1 (by rw [if_neg v])⟩
  refine w167_0 xs (d + 2) _ _ m _ ?_
  rw [nI_1]
  exact lp (szF F n) (n + 1) 1 0 (by omega) (by omega)
/-- the type of what a FUNCTION gives, the operands held against its inputs -/
def owT (F : List ND) (σ : RS) (b : Nat) : Nat → Nat → Nat → Int32
  | 0 => fun _ _ => tyV σ (σ.1.getD b dBK).2.2.2.2
  | k + 1 => fun v p => if (vD σ v).1 = 1 then (if ftP (σ.2.2.2.2 p) (tyV σ v) then owT F σ b k (v + 1) (p + szF F p) else -1) else owT F σ b k (v + 1) p
def owOk (F : List ND) (σ : RS) : Nat → Nat → Nat → Prop
  | 0 => fun _ _ => True
  | k + 1 => fun v p => ((vD σ v).1 = 1 → p < F.length ∧ owOk F σ k (v + 1) (p + szF F p)) ∧ (¬ (vD σ v).1 = 1 → owOk F σ k (v + 1) p)
theorem c170 (xs : List Int32) (d : Nat) {F : List ND} {σ : RS} {m : yM} (h : CR F σ m) (hD : allD σ) {b n : Nat} (hb : b < σ.1.length) (hfst : (σ.1.getD b dBK).2.2.2.2 < σ.2.1.length) (hk : owOk F σ (endV σ b - (σ.1.getD b dBK).2.2.2.2) (σ.1.getD b dBK).2.2.2.2 (n + 1)) : yC (xg xs) (d + 3) 170 [.ref 34, .int (nI n), .int (nI b)] m (fun r m' => r = some (.int (owT F σ b (endV σ b - (σ.1.getD b dBK).2.2.2.2) (σ.1.getD b dBK).2.2.2.2 (n + 1))) ∧ m' = m) := by
  have hf := h.f
  have n2 := h.nV.2
  have el := endV_le h b
  have lp : ∀ (k v p : Nat), endV σ b - v = k → v ≤ σ.2.1.length → owOk F σ k v p → yP (xg xs) (d + 3) 170 14 [(0, .ref 34), (2, .int (nI b)), (3, .int (nI p)), (4, .int (nI v))] [] m (fun r m' => r = some (.int (owT F σ b k v p)) ∧ m' = m) := by
    intro k
    induction k with
    | zero =>
      intro v p hk hv ho
      refine w170_14 xs (d + 2) _ _ _ m _ (y_ci (c120 xs (d + 1) h hb) (by omega) ⟨fun _ => ?_, fun u => absurd (nI_le (by omega) (by omega)) u⟩)
      refine y_ci (c119 xs (d + 1) h hb) (by omega) ?_
      exact y_ci (c136 xs d h (hD _ hfst)) (by omega) ⟨rfl, rfl⟩
    | succ k ih =>
      intro v p hk hv ho
      have vo := hD v (by omega)
      have ev : (nI v).toNatClampNeg = v := nI_clamp (by omega)
      refine w170_14 xs (d + 2) _ _ _ m _ (y_ci (c120 xs (d + 1) h hb) (by omega) ⟨fun u => absurd ((nI_leI (by omega) (by omega)).mp u) (by omega), fun _ => ⟨x_in_nI (by omega) (by decide), ?_⟩⟩)
      rw [ev, (h.v vo).2.2.1]
      show (_ → yP _ _ _ _ _ _ _ (fun r m' => r = some (.int (if (vD σ v).1 = 1 then (if ftP (σ.2.2.2.2 p) (tyV σ v) then owT F σ b k (v + 1) (p + szF F p) else -1) else owT F σ b k (v + 1) p)) ∧ m' = m)) ∧ _
      refine ⟨fun u => ?_, fun u => ?_⟩
      · refine w170_77 xs (d + 2) _ _ _ m _ ?_
        rw [nI_1, if_neg u]
        exact ih (v + 1) p (by omega) (by omega) (ho.2 u)
      · obtain ⟨pl, ho2⟩ := ho.1 u
        have tp := h.t pl
        have xp : x_in (nI p) 16401 = true := x_in_nI (by omega) (by decide)
        have ep : (nI p).toNatClampNeg = p := nI_clamp (by omega)
        refine ⟨xp, y_ci (c136 xs d h vo) (by omega) ?_⟩
        rw [ep, tp.2.2.2.1]
        refine y_ci (c150 xs (d + 1) m _ _) (by omega) ⟨fun w => ⟨xp, ?_⟩, fun w => ⟨?_, rfl⟩⟩
        · rw [tp.2.2.2.2.1]
          refine w170_77 xs (d + 2) _ _ _ m _ ?_
          have eo : owT F σ b (k + 1) v p = (if (vD σ v).1 = 1 then (if ftP (σ.2.2.2.2 p) (tyV σ v) then owT F σ b k (v + 1) (p + szF F p) else -1) else owT F σ b k (v + 1) p) := rfl
          rw [nI_1, eo, if_pos u, if_pos (if1 w)]
          exact ih (v + 1) _ (by omega) (by omega) ho2
        · show _ = some (Value.int (if (vD σ v).1 = 1 then (if ftP (σ.2.2.2.2 p) (tyV σ v) then owT F σ b k (v + 1) (p + szF F p) else -1) else owT F σ b k (v + 1) p))
          rw [if_pos u, if_neg (if0 w)]
  refine w170_0 xs (d + 2) _ _ m _ (y_ci (c119 xs (d + 1) h hb) (by omega) ?_)
  rw [nI_1]
  exact lp _ _ _ rfl (by omega) hk
