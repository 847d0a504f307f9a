/-! RULES: two operands, calls of the class -/
def tyTwo (o c : Int32) : Int32 := if ¬ o < 3 ∧ ¬ 8 < o then 0 else c
/-- two operands: x stands behind n, y behind x -/
def lkTwo (F : List ND) (σ : RS) (n : Nat) : RS ⊕ Int32 :=
  if cmT (σ.2.2.2.2 (n + 1)) (σ.2.2.2.2 (n + 1 + szF F (n + 1))) = -1 ∨ (¬ σ.2.2.2.1 n ≤ 4 ∧ cmT (σ.2.2.2.2 (n + 1)) (σ.2.2.2.2 (n + 1 + szF F (n + 1))) = 0) then .inr 27
  else if (kids F n).all (cnB (setT σ n (tyTwo (σ.2.2.2.1 n) (cmT (σ.2.2.2.2 (n + 1)) (σ.2.2.2.2 (n + 1 + szF F (n + 1))))))) = true ∧ ¬ (¬ σ.2.2.2.1 n < 12 ∧ σ.2.2.2.1 (n + 1 + szF F (n + 1)) = 0) then .inl (bcN (setT σ n (tyTwo (σ.2.2.2.1 n) (cmT (σ.2.2.2.2 (n + 1)) (σ.2.2.2.2 (n + 1 + szF F (n + 1)))))) n (two_ (nTwo (σ.2.2.2.1 n) (tyTwo (σ.2.2.2.1 n) (cmT (σ.2.2.2.2 (n + 1)) (σ.2.2.2.2 (n + 1 + szF F (n + 1)))))) (σ.2.2.2.1 (n + 1)) (σ.2.2.2.1 (n + 1 + szF F (n + 1)))))
  else .inl (setT σ n (tyTwo (σ.2.2.2.1 n) (cmT (σ.2.2.2.2 (n + 1)) (σ.2.2.2.2 (n + 1 + szF F (n + 1))))))
theorem c180 (xs : List Int32) (d : Nat) {F : List ND} {σ : RS} {A : List Nat} {m : yM} (h : CR F σ m) (hA : PH F A m) {n : Nat} (hn : n + 1 + szF F (n + 1) < F.length) : yC (xg xs) (d + 4) 180 [.ref 34, .int (nI n)] m (LQ F A m (lkTwo F σ n)) := by
  have hf := h.f
  have t0 := h.t (show n < F.length by omega)
  have t1 := h.t (show n + 1 < F.length by omega)
  have t2 := h.t hn
  have e : (nI n).toNatClampNeg = n := nI_clamp (by omega)
  have e1 : (nI n + 1).toNatClampNeg = n + 1 := by rw [nI_1]; exact nI_clamp (by omega)
  have e2 : (nI (n + 1 + szF F (n + 1))).toNatClampNeg = n + 1 + szF F (n + 1) := nI_clamp (by omega)
  have x1 : x_in (nI n) 16401 = true := x_in_nI (by omega) (by decide)
  have x2 : x_in (nI n + 1) 16401 = true := by rw [nI_1]; exact x_in_nI (by omega) (by decide)
  have x3 : x_in (nI (n + 1 + szF F (n + 1))) 16401 = true := x_in_nI (by omega) (by decide)
  unfold lkTwo
  generalize hc : cmT (σ.2.2.2.2 (n + 1)) (σ.2.2.2.2 (n + 1 + szF F (n + 1))) = c
  generalize hy : n + 1 + szF F (n + 1) = y at *
  have ne : ¬ y = n := by omega
  refine w180_0 xs (d + 3) _ m _ ⟨x2, x1, x2, ?_⟩
  rw [e, e1, t1.2.2.2.2.1, e2, t1.2.2.2.1, t2.2.2.2.1, t0.2.2.1]
  refine ⟨x3, y_ci (c169 xs (d + 2) m _ _) (by omega) ?_⟩
  rw [hc]
  -- behind the type
  have tail : ¬ (c = -1 ∨ (¬ σ.2.2.2.1 n ≤ 4 ∧ c = 0)) → yP (xg xs) (d + 4) 180 107 [(0, .ref 34), (1, .int (nI n)), (2, .int (nI n + 1)), (3, .int (nI y)), (4, .int (σ.2.2.2.1 n))] [.int (tyTwo (σ.2.2.2.1 n) c), .int (nI n), .ref 6] m (LQ F A m (if c = -1 ∨ (¬ σ.2.2.2.1 n ≤ 4 ∧ c = 0) then .inr 27 else if (kids F n).all (cnB (setT σ n (tyTwo (σ.2.2.2.1 n) c))) = true ∧ ¬ (¬ σ.2.2.2.1 n < 12 ∧ σ.2.2.2.1 y = 0) then .inl (bcN (setT σ n (tyTwo (σ.2.2.2.1 n) c)) n (two_ (nTwo (σ.2.2.2.1 n) (tyTwo (σ.2.2.2.1 n) c)) (σ.2.2.2.1 (n + 1)) (σ.2.2.2.1 y))) else .inl (setT σ n (tyTwo (σ.2.2.2.1 n) c)))) := by
    intro p
    rw [if_neg p]
    generalize tyTwo (σ.2.2.2.1 n) c = T
    have h1 := h.sT n T
    have s0 := h1.t (show n < F.length by omega)
    have s1 := h1.t (show n + 1 < F.length by omega)
    have s2 := h1.t (show y < F.length by omega)
    have k1 : KR m (y_si m 6 n T) := (KR.re m).si (by omega)
    have p1 := hA.si (k := 6) (i := n) (v := T) (by omega)
    have eT : (setT σ n T).2.2.2.2 n = T := upI_n _ _ _
    have fin : ∀ b : Int32, (b = 0 ↔ ¬ (¬ σ.2.2.2.1 n < 12 ∧ σ.2.2.2.1 y = 0)) → yP (xg xs) (d + 4) 180 132 [(0, .ref 34), (1, .int (nI n)), (2, .int (nI n + 1)), (3, .int (nI y)), (4, .int (σ.2.2.2.1 n))] [.int b] (y_si m 6 n T) (LQ F A m (if (kids F n).all (cnB (setT σ n T)) = true ∧ ¬ (¬ σ.2.2.2.1 n < 12 ∧ σ.2.2.2.1 y = 0) then .inl (bcN (setT σ n T) n (two_ (nTwo (σ.2.2.2.1 n) T) (σ.2.2.2.1 (n + 1)) (σ.2.2.2.1 y))) else .inl (setT σ n T))) := by
      intro b hb
      generalize y_si m 6 n T = m1 at h1 s0 s1 s2 k1 p1 ⊢
      refine w180_132 xs (d + 3) _ _ _ _ _ m1 _ (y_ci (c171 xs (d + 1) h1 (by omega)) (by omega) ⟨fun u => ?_, fun u => ⟨fun v => ?_, fun v => ⟨x1, ?_⟩⟩⟩)
      · rw [if_neg (fun z => if0 u z.1)]
        exact ⟨k1, rfl, h1, p1⟩
      · rw [if_neg (fun z => v (hb.mpr z.2))]
        exact ⟨k1, rfl, h1, p1⟩
      · rw [if_pos ⟨if1 u, hb.mp v⟩, e, s0.2.2.2.1, eT]
        refine y_ci (c181 xs (d + 2) m1 _ _) (by omega) ⟨x2, x3, ?_⟩
        rw [e1, e2, s1.2.2.1, s2.2.2.1]
        refine y_ci (c175 xs (d + 1) m1 _ _ _) (by omega) ?_
        refine y_cv (c179 xs (d + 2) h1 (by omega) _) (by omega) ?_
        exact ⟨(k1.si (by omega)).si (by omega), rfl, (h1.sK n 30).sV n _, (p1.si (by omega)).si (by omega)⟩
    refine w180_107 xs (d + 3) _ _ _ _ _ _ m _ ⟨x1, ?_⟩
    rw [e, e2, t2.2.2.1]
    refine ⟨fun u => w180_131 xs (d + 3) _ _ _ _ _ _ (fin 0 ⟨fun _ z => z.1 u, fun _ => rfl⟩), fun u => ⟨x3, fun v => w180_131 xs (d + 3) _ _ _ _ _ _ (fin 0 ⟨fun _ z => v z.2, fun _ => rfl⟩), fun v => fin 1 ⟨fun z => absurd z (by decide), fun z => absurd ⟨u, v⟩ z⟩⟩⟩
  have s68 : ¬ (c = -1 ∨ (¬ σ.2.2.2.1 n ≤ 4 ∧ c = 0)) → yP (xg xs) (d + 4) 180 68 [(0, .ref 34), (1, .int (nI n)), (2, .int (nI n + 1)), (3, .int (nI y)), (4, .int (σ.2.2.2.1 n)), (5, .int c)] [] m (LQ F A m (if c = -1 ∨ (¬ σ.2.2.2.1 n ≤ 4 ∧ c = 0) then .inr 27 else if (kids F n).all (cnB (setT σ n (tyTwo (σ.2.2.2.1 n) c))) = true ∧ ¬ (¬ σ.2.2.2.1 n < 12 ∧ σ.2.2.2.1 y = 0) then .inl (bcN (setT σ n (tyTwo (σ.2.2.2.1 n) c)) n (two_ (nTwo (σ.2.2.2.1 n) (tyTwo (σ.2.2.2.1 n) c)) (σ.2.2.2.1 (n + 1)) (σ.2.2.2.1 y))) else .inl (setT σ n (tyTwo (σ.2.2.2.1 n) c)))) := by
    intro p
    have tl := tail p
    have far : ¬ (¬ σ.2.2.2.1 n < 3 ∧ ¬ 8 < σ.2.2.2.1 n) → yP (xg xs) (d + 4) 180 85 [(0, .ref 34), (1, .int (nI n)), (2, .int (nI n + 1)), (3, .int (nI y)), (4, .int (σ.2.2.2.1 n)), (5, .int c)] [] m (LQ F A m (if c = -1 ∨ (¬ σ.2.2.2.1 n ≤ 4 ∧ c = 0) then .inr 27 else if (kids F n).all (cnB (setT σ n (tyTwo (σ.2.2.2.1 n) c))) = true ∧ ¬ (¬ σ.2.2.2.1 n < 12 ∧ σ.2.2.2.1 y = 0) then .inl (bcN (setT σ n (tyTwo (σ.2.2.2.1 n) c)) n (two_ (nTwo (σ.2.2.2.1 n) (tyTwo (σ.2.2.2.1 n) c)) (σ.2.2.2.1 (n + 1)) (σ.2.2.2.1 y))) else .inl (setT σ n (tyTwo (σ.2.2.2.1 n) c)))) := by
      intro q
      refine w180_85 xs (d + 3) _ _ _ _ _ m _ (w180_86 xs (d + 3) _ _ _ _ _ _ m _ ⟨fun _ => ?_, fun u => absurd rfl u⟩)
      have eT : tyTwo (σ.2.2.2.1 n) c = c := by unfold tyTwo; rw [if_neg q]
      rw [eT] at tl ⊢
      exact tl
    refine w180_68 xs (d + 3) _ _ _ _ _ m _ ⟨fun u => far (fun z => z.1 u), fun u => ⟨fun v => far (fun z => z.2 v), fun v => ?_⟩⟩
    refine w180_86 xs (d + 3) _ _ _ _ _ _ m _ ⟨fun z => absurd z (by decide), fun _ => ?_⟩
    have eT : tyTwo (σ.2.2.2.1 n) c = 0 := by unfold tyTwo; rw [if_pos ⟨u, v⟩]
    rw [eT] at tl ⊢
    exact tl
  refine ⟨fun u => ?_, fun u => ⟨fun v => s68 (fun z => z.elim u (fun z => z.1 v)), fun v => ⟨fun w => s68 (fun z => z.elim u (fun z => w z.2)), fun w => ?_⟩⟩⟩
  · rw [if_pos (Or.inl u)]
    exact LQ.no m (by decide)
  · rw [if_pos (Or.inr ⟨v, w⟩)]
    exact LQ.no m (by decide)
/-- inputs among the variables from v on -/
def cI (σ : RS) : Nat → Nat → Int32 → Int32
  | 0 => fun _ a => a
  | k + 1 => fun v a => cI σ k (v + 1) (a + (if (vD σ v).1 = 1 then 1 else 0))
def nIn (σ : RS) (b : Nat) : Int32 := cI σ (endV σ b - (σ.1.getD b dBK).2.2.2.2) (σ.1.getD b dBK).2.2.2.2 0
theorem endV_le {F : List ND} {σ : RS} {m : yM} (h : CR F σ m) (b : Nat) : endV σ b ≤ σ.2.1.length := by
  unfold endV
  split
  · rename_i z
    exact (h.b z).2.2.2.2.1
  · exact Nat.le_refl _
theorem c118 (xs : List Int32) (d : Nat) {F : List ND} {σ : RS} {m : yM} (h : CR F σ m) (hD : allD σ) {b : Nat} (hb : b < σ.1.length) : yC (xg xs) (d + 2) 118 [.ref 18, .int (nI b)] m (fun r m' => r = some (.int (nIn σ b)) ∧ m' = m) := by
  have n2 := h.nV.2
  have el := endV_le h b
  have lp : ∀ (k v : Nat) (a : Int32), endV σ b - v = k → v ≤ σ.2.1.length → yP (xg xs) (d + 2) 118 8 [(0, .ref 18), (1, .int (nI b)), (2, .int a), (3, .int (nI v))] [] m (fun r m' => r = some (.int (cI σ k v a)) ∧ m' = m) := by
    intro k
    induction k with
    | zero =>
      intro v a hk hv
      refine w118_8 xs (d + 1) _ _ _ m _ (y_ci (c120 xs d h hb) (by omega) ⟨fun _ => ⟨rfl, rfl⟩, fun u => absurd (nI_le (by omega) (by omega)) u⟩)
    | succ k ih =>
      intro v a hk hv
      have vo := hD v (by omega)
      refine w118_8 xs (d + 1) _ _ _ m _ (y_ci (c120 xs d h hb) (by omega) ⟨fun u => absurd ((nI_leI (by omega) (by omega)).mp u) (by omega), fun _ => ⟨x_in_nI (by omega) (by decide), ?_⟩⟩)
      rw [nI_clamp (by omega), (h.v vo).2.2.1]
      refine ⟨fun u => w118_33 xs (d + 1) _ _ _ _ m _ ?_, fun u => w118_33 xs (d + 1) _ _ _ _ m _ ?_⟩
      · have := ih (v + 1) (a + 0) (by omega) (by omega)
        rw [nI_1]
        show yP _ _ _ _ _ _ _ (fun r m' => r = some (.int (cI σ k (v + 1) (a + (if (vD σ v).1 = 1 then 1 else 0)))) ∧ m' = m)
        rw [if_neg u]
        exact this
      · have := ih (v + 1) (a + 1) (by omega) (by omega)
        rw [nI_1]
        show yP _ _ _ _ _ _ _ (fun r m' => r = some (.int (cI σ k (v + 1) (a + (if (vD σ v).1 = 1 then 1 else 0)))) ∧ m' = m)
        rw [if_pos u]
        exact this
  refine w118_0 xs (d + 1) _ m _ (y_ci (c119 xs d h hb) (by omega) ?_)
  exact lp _ _ _ rfl (h.b hb).2.2.2.2.1
