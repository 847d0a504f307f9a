/-! THE REFERENCE'S WRITER: expressions -/
def clB (f : Int32) (e : Nat → List IT) : List Nat → Nat → List IT
  | [] => fun _ => []
  | c :: L => fun j => e c ++ ((if f = 3 ∧ j = 1 then [j1 7 24] else []) ++ clB f e L (j + 1))
def clY (F : List ND) (σ : RS) (n : Nat) : List IT := if σ.2.2.2.1 n = 3 then [j1 7 23] else clZ F σ n
theorem clB_ne {f : Int32} (hf : ¬ f = 3) (e : Nat → List IT) : ∀ L j, clB f e L j = clA f e L j
  | [], j => rfl
  | c :: L, j => by
    unfold clB clA
    have n1 : ¬ (f = 3 ∧ j = 1) := fun z => hf z.1
    have n2 : ¬ (f = 3 ∧ 1 ≤ j) := fun z => hf z.1
    rw [if_neg n1, if_neg n2, clB_ne hf e L (j + 1)]
theorem clB_eq {F : List ND} {σ : RS} {n : Nat} (e : Nat → List IT) (h : σ.2.2.2.1 n = 3 → (kids F n).length = 3) : clB (σ.2.2.2.1 n) e (kids F n) 0 ++ clY F σ n = clA (σ.2.2.2.1 n) e (kids F n) 0 ++ clZ F σ n := by
  by_cases c : σ.2.2.2.1 n = 3
  · have hl := h c
    unfold clY clZ
    rw [if_pos c, c]
    match hk : kids F n, hl with
    | [a, b, c'], _ =>
      rw [if_pos (show (3 : Int32) < 10 by decide), if_neg (show ¬ (3 : Int32) = 4 by decide), if_pos rfl]
      simp [clB, clA]
  · rw [clB_ne c]
    unfold clY
    rw [if_neg c]
theorem c373 (xs : List Int32) (d : Nat) {m0 : yM} {T : Nat} {J : JV} {s : SU} (hS : HS m0 T J.2.2.1 s) {N n : Nat} (hW : TW m0 T J.2.2.1 (N + 1) n) (ks : s.1.2.2.1 n = 34) {e : Nat → List IT} (he : ∀ c, c ∈ kids J.2.2.1 n → ∀ (C : List IT) (m : yM), RW J s m → RO J C m → yC (xg xs) (d + 3) 372 [.ref 58, .int (nI (J.2.2.2 c))] m (fun r m' => r = none ∧ RO J (C ++ e c) m' ∧ KF m m')) {C : List IT} {m : yM} (h : RW J s m) (ho : RO J C m) : yC (xg xs) (d + 4) 373 [.ref 58, .int (nI (J.2.2.2 n))] m (fun r m' => r = none ∧ RO J (C ++ (clA (s.1.2.2.2.1 n) e (kids J.2.2.1 n) 0 ++ clZ J.2.2.1 s.1 n)) m' ∧ KF m m') := by
  have at' := hW.at
  have hn : n < J.2.2.1.length := by omega
  have hF := h.t.2.2.2.2.2
  have k34 : kK J.2.2.1 n = 34 := by
    rcases hS.ks hn with y | ⟨y, -⟩
    · rw [y] at ks; exact (nI_eq (b := 34) (by have := hW.k37; omega) (by omega)).mp ks
    · rw [y] at ks; exact absurd ks (by decide)
  have nx : ¬ xNm J.2.2.1 n := fun z => by have := z.1; omega
  have ncn : ¬ cnP s.1 n := fun z => by rcases z with z | z <;> rw [ks] at z <;> exact absurd z (by decide)
  have fn := (h.n hn nx).2.2.2 k34 ncn
  have gc := (hS.v hn).2.2.2.2 ks
  unfold gdC at gc
  have nB := h.b.1.2.1
  have nV := h.b.1.2.2.1
  have okn := hW.ok
  rw [k34] at okn
  have X := h.t.2.1 n hn
  have kl : (kids J.2.2.1 n).length ≤ 16400 := by
    have a := kds_len J.2.2.1 (n + szF J.2.2.1 n) (szF J.2.2.1 n) (n + 1)
    unfold kids
    omega
  have l3k : s.1.2.2.2.1 n = 3 → (kids J.2.2.1 n).length = 3 := by
    intro z
    rcases gc with ⟨q, q1, q2, q3⟩ | ⟨b, b1, b2, b3⟩
    · rw [q2] at z
      have q3' : q = 3 := (nI_eq (b := 3) (by omega) (by omega)).mp z
      rw [q3'] at q3
      exact (nI_eq (b := 3) (by omega) (by omega)).mp q3
    · rw [b2] at z
      have := (nI_eq (b := 3) (by omega) (by omega)).mp z
      omega
  rw [← clB_eq e l3k]
  generalize hf : s.1.2.2.2.1 n = f at *
  generalize hl2 : m.1 85 (J.2.2.2 n) = l2 at *
  -- both numbers of the function
  have f3 : l2 = 3 ↔ f = 3 := by
    obtain ⟨k, k1, k2, k3⟩ := fn
    rw [k1, k3]
    rw [show (3 : Int32) = nI 3 from rfl, nI_eq (by split <;> omega) (by omega), nI_eq (by omega) (by omega)]
    split <;> omega
  have hy : clY J.2.2.1 s.1 n = if f = 3 then [j1 7 23] else clZ J.2.2.1 s.1 n := by unfold clY; rw [hf]
  have hz : clZ J.2.2.1 s.1 n = if f < 10 then (if f = 4 then [j1 9 0] else if f = 3 then [] else if f = 8 then [] else [j1 (if (kids J.2.2.1 n).length = 1 then 8 else 7) (nFun f (s.1.2.2.2.2 (n + 1)))]) else cOw s.1 (f - 10).toNatClampNeg (s.1.1.getD (f - 10).toNatClampNeg dBK).2.2.2.2 (endV s.1 (f - 10).toNatClampNeg - (s.1.1.getD (f - 10).toNatClampNeg dBK).2.2.2.2) ++ [j3 16 (f - 10) 0 0, j3 5 (f - 10) 0 0] := by unfold clZ; rw [hf]
  -- the end
  have fin : ∀ (l3 l5 : Int32) (C1 : List IT) (m1 : yM), (0 < (kids J.2.2.1 n).length → l3 = s.1.2.2.2.2 (n + 1)) → RO J C1 m1 → KF m m1 → yP (xg xs) (d + 4) 373 46 [(0, .ref 58), (2, .int l2), (3, .int l3), (5, .int l5), (6, .int (-1))] [] m1 (fun r m' => r = none ∧ RO J (C1 ++ clY J.2.2.1 s.1 n) m' ∧ KF m m') := by
    intro l3 l5 C1 m1 hl3 o1 e1
    refine w373_46 xs (d + 3) _ _ _ _ m1 _ ⟨fun _ => ?_, fun z => absurd rfl z⟩
    rcases gc with ⟨q, q1, q2, q3⟩ | ⟨b, b1, b2, b3⟩
    · have el2 : l2 = nI q := by
        obtain ⟨k, k1, k2, k3⟩ := fn
        have : k = q := (nI_eq (by omega) (by omega)).mp (k1.symm.trans q2)
        rw [this, if_pos q1] at k3
        exact k3
      have ar : (kids J.2.2.1 n).length = 1 ↔ (q = 0 ∨ q = 7 ∨ q = 8 ∨ q = 9) := by
        have : q = 0 ∨ q = 1 ∨ q = 2 ∨ q = 3 ∨ q = 4 ∨ q = 5 ∨ q = 6 ∨ q = 7 ∨ q = 8 ∨ q = 9 := by omega
        rcases this with rfl | rfl | rfl | rfl | rfl | rfl | rfl | rfl | rfl | rfl
        · have := (nI_eq (b := 1) (by omega) (by omega)).mp q3; omega
        · have := (nI_eq (b := 2) (by omega) (by omega)).mp q3; omega
        · have := (nI_eq (b := 2) (by omega) (by omega)).mp q3; omega
        · have := (nI_eq (b := 3) (by omega) (by omega)).mp q3; omega
        · have := (nI_eq (b := 3) (by omega) (by omega)).mp q3; omega
        · have := (nI_eq (b := 2) (by omega) (by omega)).mp q3; omega
        · have := (nI_eq (b := 2) (by omega) (by omega)).mp q3; omega
        · have := (nI_eq (b := 1) (by omega) (by omega)).mp q3; omega
        · have := (nI_eq (b := 1) (by omega) (by omega)).mp q3; omega
        · have := (nI_eq (b := 1) (by omega) (by omega)).mp q3; omega
      have k0 : 0 < (kids J.2.2.1 n).length := by
        rcases Nat.lt_or_ge 0 (kids J.2.2.1 n).length with w | w
        · exact w
        · exfalso
          have e0 : (kids J.2.2.1 n).length = 0 := by omega
          rw [e0] at q3
          have : q = 0 ∨ q = 1 ∨ q = 2 ∨ q = 3 ∨ q = 4 ∨ q = 5 ∨ q = 6 ∨ q = 7 ∨ q = 8 ∨ q = 9 := by omega
          rcases this with rfl | rfl | rfl | rfl | rfl | rfl | rfl | rfl | rfl | rfl <;> exact absurd q3 (by decide)
      have e3 := hl3 k0
      have iq : ∀ k, k < 20 → (l2 = nI k ↔ q = k) := fun k hk => by rw [el2]; exact nI_eq (by omega) (by omega)
      have jq : ∀ k, k < 20 → (f = nI k ↔ q = k) := fun k hk => by rw [q2]; exact nI_eq (by omega) (by omega)
      have g3 : f = 3 ↔ q = 3 := jq 3 (by omega)
      have g4 : f = 4 ↔ q = 4 := jq 4 (by omega)
      have g8 : f = 8 ↔ q = 8 := jq 8 (by omega)
      have flt : f < 10 := by rw [q2]; exact nI_lt (b := 10) (by omega) (by omega)
      rw [if_pos flt] at hz
      -- one more instruction
      have put : ∀ o a : Int32, clY J.2.2.1 s.1 n = [j1 o a] → yC (xg xs) (d + 3) 369 [.ref 58, .int o, .int a, .int 0, .int 0] m1 (fun v1 m2 => ∃ u1, v1 = some (Value.int u1) ∧ (none = (none : Option Value) ∧ RO J (C1 ++ clY J.2.2.1 s.1 n) m2 ∧ KF m m2)) := by
        intro o a hq
        refine c369k xs (d + 2) (by omega) o1 (fun m2 o2 e2 => ⟨rfl, ?_, e1.tr e2⟩)
        rw [hq]; exact o2
      have gen : ∀ o a, ¬ q = 3 → ¬ q = 4 → ¬ q = 8 → (o = if (kids J.2.2.1 n).length = 1 then (8 : Int32) else 7) → a = nFun f l3 → clY J.2.2.1 s.1 n = [j1 o a] := by
        intro o a n3 n4 n8 hh ha
        rw [hy, if_neg (fun z => n3 (g3.mp z)), hz, if_neg (fun z => n4 (g4.mp z)), if_neg (fun z => n3 (g3.mp z)), if_neg (fun z => n8 (g8.mp z)), ← hh, ha, e3]
      have two : ∀ a, ¬ q = 3 → ¬ q = 4 → ¬ (q = 0 ∨ q = 7 ∨ q = 8 ∨ q = 9) → a = nFun f l3 → clY J.2.2.1 s.1 n = [j1 7 a] := by
        intro a n3 n4 nn ha
        refine gen 7 a n3 n4 (by omega) ?_ ha
        rw [if_neg (fun z => nn (ar.mp z))]
      have s340 : ∀ a, clY J.2.2.1 s.1 n = [j1 7 a] → yP (xg xs) (d + 4) 373 340 [] [.int a, .int 7, .ref 58] m1 (fun r m' => r = none ∧ RO J (C1 ++ clY J.2.2.1 s.1 n) m' ∧ KF m m') := fun a ha => w373_340 xs (d + 3) _ _ m1 _ (put 7 a ha)
      have s264 : ∀ a, clY J.2.2.1 s.1 n = [j1 8 a] → yP (xg xs) (d + 4) 373 264 [] [.int a, .int 8, .ref 58] m1 (fun r m' => r = none ∧ RO J (C1 ++ clY J.2.2.1 s.1 n) m' ∧ KF m m') := fun a ha => w373_264 xs (d + 3) _ _ m1 _ (put 8 a ha)
      have nf : nFun f l3 = if q = 0 then (if l3 = 1 then 4 else 5) else if q = 1 then 23 else if q = 2 then 24 else if q = 5 then (if l3 = 1 then 19 else 21) else if q = 6 then (if l3 = 1 then 20 else 22) else if q = 7 then 6 else 7 := by
        unfold nFun
        have t0 := jq 0 (by omega)
        have t1 := jq 1 (by omega)
        have t2 := jq 2 (by omega)
        have t5 := jq 5 (by omega)
        have t6 := jq 6 (by omega)
        have t7 := jq 7 (by omega)
        simp only [show (0 : Int32) = nI 0 from rfl, show (1 : Int32) = nI 1 from rfl, show (2 : Int32) = nI 2 from rfl, show (5 : Int32) = nI 5 from rfl, show (6 : Int32) = nI 6 from rfl, show (7 : Int32) = nI 7 from rfl, t0, t1, t2, t5, t6, t7]
      have s231 : (q = 0 ∨ q = 7 ∨ q = 9) → yP (xg xs) (d + 4) 373 231 [(0, .ref 58), (2, .int l2), (3, .int l3)] [] m1 (fun r m' => r = none ∧ RO J (C1 ++ clY J.2.2.1 s.1 n) m' ∧ KF m m') := by
        intro hq
        have one : ∀ a, a = nFun f l3 → clY J.2.2.1 s.1 n = [j1 8 a] := fun a ha => gen 8 a (by omega) (by omega) (by omega) (by rw [if_pos (ar.mpr (by omega))]) ha
        refine w373_231 xs (d + 3) _ _ m1 _ ⟨fun z => ⟨fun y => s264 7 (one 7 ?_), fun y => s264 6 (one 6 ?_)⟩, fun z => ⟨fun y => s264 5 (one 5 ?_), fun y => s264 4 (one 4 ?_)⟩⟩
        · have n0 : ¬ q = 0 := fun w => z ((iq 0 (by omega)).mpr w)
          have n7 : ¬ q = 7 := fun w => y ((iq 7 (by omega)).mpr w)
          rw [nf, if_neg n0, if_neg (by omega), if_neg (by omega), if_neg (by omega), if_neg (by omega), if_neg n7]
        · have q7 := (iq 7 (by omega)).mp y
          rw [nf, if_neg (by omega), if_neg (by omega), if_neg (by omega), if_neg (by omega), if_neg (by omega), if_pos q7]
        · have q0 := (iq 0 (by omega)).mp z
          rw [nf, if_pos q0, if_neg y]
        · have q0 := (iq 0 (by omega)).mp z
          rw [nf, if_pos q0, if_pos y]
      refine ⟨fun _ => ⟨fun n4 => ⟨fun e0 => s231 (Or.inl ((iq 0 (by omega)).mp e0)), fun n0 => ⟨fun e7 => s231 (Or.inr (Or.inl ((iq 7 (by omega)).mp e7))), fun n7 => ⟨fun n9 => ⟨fun e8 => ⟨rfl, ?_, e1⟩, fun n8 => ⟨fun e1' => w373_293 xs (d + 3) _ m1 _ (s340 23 ?_), fun n1 => ⟨fun n3 => ⟨fun n2 => ⟨fun n5 => ⟨fun t1 => s340 22 ?_, fun t1 => s340 20 ?_⟩, fun e5 => ⟨fun t1 => s340 21 ?_, fun t1 => s340 19 ?_⟩⟩, fun e2 => s340 24 ?_⟩, fun e3' => w373_293 xs (d + 3) _ m1 _ (s340 23 ?_)⟩⟩⟩, fun e9 => s231 (Or.inr (Or.inr ((iq 9 (by omega)).mp e9)))⟩⟩⟩, fun e4 => put 9 0 ?_⟩, fun z => absurd (by rw [el2]; exact nI_lt (b := 100) (by omega) (by omega)) z⟩
      · have q8 := (iq 8 (by omega)).mp e8
        have : clY J.2.2.1 s.1 n = [] := by
          rw [hy, if_neg (fun z => by have := g3.mp z; omega), hz, if_neg (fun z => by have := g4.mp z; omega), if_neg (fun z => by have := g3.mp z; omega), if_pos (g8.mpr q8)]
        rw [this, List.append_nil]; exact o1
      · have q1' := (iq 1 (by omega)).mp e1'
        exact two 23 (by omega) (by omega) (by omega) (by rw [nf, if_neg (by omega), if_pos q1'])
      · have a0 : ¬ q = 0 := fun w => n0 ((iq 0 (by omega)).mpr w)
        have a1 : ¬ q = 1 := fun w => n1 ((iq 1 (by omega)).mpr w)
        have a2 : ¬ q = 2 := fun w => n2 ((iq 2 (by omega)).mpr w)
        have a3 : ¬ q = 3 := fun w => n3 ((iq 3 (by omega)).mpr w)
        have a4 : ¬ q = 4 := fun w => n4 ((iq 4 (by omega)).mpr w)
        have a5 : ¬ q = 5 := fun w => n5 ((iq 5 (by omega)).mpr w)
        have a7 : ¬ q = 7 := fun w => n7 ((iq 7 (by omega)).mpr w)
        have a8 : ¬ q = 8 := fun w => n8 ((iq 8 (by omega)).mpr w)
        have a9 : ¬ q = 9 := fun w => n9 ((iq 9 (by omega)).mpr w)
        have a6 : q = 6 := by omega
        exact two 22 (by omega) (by omega) (by omega) (by rw [nf, if_neg a0, if_neg a1, if_neg a2, if_neg a5, if_pos a6, if_neg t1])
      · have a0 : ¬ q = 0 := fun w => n0 ((iq 0 (by omega)).mpr w)
        have a1 : ¬ q = 1 := fun w => n1 ((iq 1 (by omega)).mpr w)
        have a2 : ¬ q = 2 := fun w => n2 ((iq 2 (by omega)).mpr w)
        have a3 : ¬ q = 3 := fun w => n3 ((iq 3 (by omega)).mpr w)
        have a4 : ¬ q = 4 := fun w => n4 ((iq 4 (by omega)).mpr w)
        have a5 : ¬ q = 5 := fun w => n5 ((iq 5 (by omega)).mpr w)
        have a7 : ¬ q = 7 := fun w => n7 ((iq 7 (by omega)).mpr w)
        have a8 : ¬ q = 8 := fun w => n8 ((iq 8 (by omega)).mpr w)
        have a9 : ¬ q = 9 := fun w => n9 ((iq 9 (by omega)).mpr w)
        have a6 : q = 6 := by omega
        exact two 20 (by omega) (by omega) (by omega) (by rw [nf, if_neg a0, if_neg a1, if_neg a2, if_neg a5, if_pos a6, if_pos t1])
      · have a5 := (iq 5 (by omega)).mp e5
        exact two 21 (by omega) (by omega) (by omega) (by rw [nf, if_neg (by omega), if_neg (by omega), if_neg (by omega), if_pos a5, if_neg t1])
      · have a5 := (iq 5 (by omega)).mp e5
        exact two 19 (by omega) (by omega) (by omega) (by rw [nf, if_neg (by omega), if_neg (by omega), if_neg (by omega), if_pos a5, if_pos t1])
      · have a2 := (iq 2 (by omega)).mp e2
        exact two 24 (by omega) (by omega) (by omega) (by rw [nf, if_neg (by omega), if_neg (by omega), if_pos a2])
      · have a3 := (iq 3 (by omega)).mp e3'
        rw [hy, if_pos (g3.mpr a3)]
      · have a4 := (iq 4 (by omega)).mp e4
        rw [hy, if_neg (fun z => by have := g3.mp z; omega), hz, if_pos (g4.mpr a4)]
    · -- one's own
      have el2 : l2 = nI (b + 100) := by
        obtain ⟨k, k1, k2, k3⟩ := fn
        have : k = b + 10 := (nI_eq (by omega) (by omega)).mp (k1.symm.trans b2)
        rw [this, if_neg (by omega)] at k3
        exact k3
      have nlt : ¬ f < 10 := by
        rw [b2]
        intro z
        have := (nI_ltI (b := 10) (by omega) (by omega)).mp z
        omega
      have n3 : ¬ f = 3 := fun z => by
        rw [b2] at z
        have := (nI_eq (b := 3) (by omega) (by omega)).mp z
        omega
      have s10 : f - 10 = nI b := by rw [b2]; exact nI_sub (b := 10) (show 10 ≤ b + 10 by omega)
      rw [if_neg nlt, s10, nI_clamp (by omega)] at hz
      rw [hy, if_neg n3, hz]
      have e100 : l2 - 100 = nI b := by rw [el2]; exact nI_sub (a := b + 100) (b := 100) (by omega)
      have e99 : l2 - 99 = nI (b + 1) := by rw [el2]; exact nI_sub (a := b + 100) (b := 99) (by omega)
      have bb := fun (m2 : yM) (e2 : KF m m2) => ((h.kf e2).b.b (show b < s.1.1.length by omega)).2.2.2.2.1
      have bb1 := fun (m2 : yM) (e2 : KF m m2) => ((h.kf e2).b.b (show b + 1 < s.1.1.length by omega)).2.2.2.2.1
      have ev : endV s.1 b = (s.1.1.getD (b + 1) dBK).2.2.2.2 := by unfold endV; rw [if_pos b1]
      have fm := hS.fm b (by omega)
      generalize hf0 : (s.1.1.getD b dBK).2.2.2.2 = f0 at *
      have lp : ∀ (k : Nat) (C2 : List IT) (m2 : yM), f0 + k ≤ endV s.1 b → RO J C2 m2 → KF m m2 → yP (xg xs) (d + 4) 373 115 [(0, .ref 58), (2, .int l2), (6, .int (nI (f0 + k) - 1))] [] m2 (fun r m' => r = none ∧ RO J (C2 ++ (cOw s.1 b f0 k ++ [j3 16 (nI b) 0 0, j3 5 (nI b) 0 0])) m' ∧ KF m m') := by
        intro k
        induction k with
        | zero =>
          intro C2 m2 hk o2 e2
          have lt : nI (f0 + 0) - 1 < nI f0 := by
            rw [Nat.add_zero]
            cases hq : f0 with
            | zero => decide
            | succ g =>
              rw [nI_m (by omega)]
              exact nI_lt (by omega) (by omega)
          refine w373_115 xs (d + 3) _ _ m2 _ ?_
          rw [e100, nI_clamp (by omega), bb m2 e2]
          refine ⟨x_in_nI (by omega) (by decide), fun _ => c369k xs (d + 2) (by omega) o2 (fun m3 o3 e3 => c369k xs (d + 2) (by omega) o3 (fun m4 o4 e4 => ⟨rfl, ?_, (e2.tr e3).tr e4⟩)), fun z => absurd lt z⟩
          rw [List.append_assoc] at o4
          exact o4
        | succ k ih =>
          intro C2 m2 hk o2 e2
          have e : nI (f0 + (k + 1)) - 1 = nI (f0 + k) := by rw [nI_m (by omega)]; rfl
          have vo := hS.aD (f0 + k) (by omega)
          obtain ⟨v1, v2, v3, v4, v5, -⟩ := (h.kf e2).x vo
          have xv : x_in (nI (f0 + k)) 4700 = true := x_in_nI (by omega) (by decide)
          have em : nI (f0 + k) + -1 = nI (f0 + k) - 1 := by rw [Int32.sub_eq_add_neg]
          have es : cOw s.1 b f0 (k + 1) = (if (vD s.1 (f0 + k)).1 = 1 then [j3 6 (nI b) (vD s.1 (f0 + k)).2.2.2 0] else []) ++ cOw s.1 b f0 k := rfl
          rw [e]
          refine w373_115 xs (d + 3) _ _ m2 _ ?_
          rw [e100, nI_clamp (by omega), bb m2 e2, nI_clamp (by omega), v3, v5]
          refine ⟨x_in_nI (by omega) (by decide), fun z => ?_, fun _ => ⟨xv, fun z => ?_, fun z => ⟨xv, ?_⟩⟩⟩
          · have := (nI_ltI (by omega) (by omega)).mp z
            omega
          · refine w373_160 xs (d + 3) _ _ m2 _ ?_
            rw [em, es, if_neg z, List.nil_append]
            exact ih C2 m2 (by omega) o2 e2
          · refine c369j xs (d + 2) (by omega) o2 (fun m3 o3 e3 => w373_160 xs (d + 3) _ _ m3 _ ?_)
            rw [em, es, if_pos z]
            have := ih _ m3 (by omega) o3 (e2.tr e3)
            simpa only [List.append_assoc] using this
      refine ⟨fun z => ?_, fun _ => ?_⟩
      · exfalso
        rw [el2] at z
        have := (nI_ltI (b := 100) (by omega) (by omega)).mp z
        omega
      · rw [e99, nI_clamp (by omega), bb1 m1 e1, ← ev]
        refine ⟨x_in_nI (by omega) (by decide), ?_⟩
        have := lp (endV s.1 b - f0) C1 m1 (by omega) o1 e1
        rw [show f0 + (endV s.1 b - f0) = endV s.1 b by omega] at this
        exact this
  -- the operands
  have lp : ∀ (L : List Nat) (j : Nat) (l3 : Int32) (C1 : List IT) (m1 : yM), (kids J.2.2.1 n).drop j = L → j + L.length = (kids J.2.2.1 n).length → (0 < (kids J.2.2.1 n).length → l3 = s.1.2.2.2.2 (n + 1)) → RO J C1 m1 → KF m m1 → yP (xg xs) (d + 4) 373 46 [(0, .ref 58), (2, .int l2), (3, .int l3), (5, .int (nI j)), (6, .int (lkI J.2.2.2 (kids J.2.2.1 n)[j]?))] [] m1 (fun r m' => r = none ∧ RO J (C1 ++ (clB f e L j ++ clY J.2.2.1 s.1 n)) m' ∧ KF m m') := by
    intro L
    induction L with
    | nil =>
      intro j l3 C1 m1 ed hj h3 o1 e1
      have hj : j = (kids J.2.2.1 n).length := hj
      have : (kids J.2.2.1 n)[j]? = none := List.getElem?_eq_none_iff.mpr (by omega)
      rw [this]
      exact fin l3 (nI j) C1 m1 h3 o1 e1
    | cons c L ih =>
      intro j l3 C1 m1 ed hj h3 o1 e1
      rw [List.length_cons] at hj
      have hk : (kids J.2.2.1 n)[j]? = some c := by
        have := congrArg (fun l => l[0]?) ed
        simpa using this
      have e' : (kids J.2.2.1 n).drop (j + 1) = L := by
        have := congrArg (List.drop 1) ed
        rw [List.drop_drop] at this
        simpa using this
      have cm := List.mem_of_getElem? hk
      have z := hW.kin cm
      rw [hk]
      have ci := h.t.i z.2.2.2.1
      have nz : ¬ nI (J.2.2.2 c) = -1 := fun w => by
        have := nI_toInt (show J.2.2.2 c < 2 ^ 31 by omega)
        rw [w] at this
        have : (-1 : Int32).toInt = -1 := by decide
        omega
      have es : clB f e (c :: L) j = e c ++ ((if f = 3 ∧ j = 1 then [j1 7 24] else []) ++ clB f e L (j + 1)) := rfl
      rw [es]
      refine w373_46 xs (d + 3) _ _ _ _ m1 _ ⟨fun w => absurd w nz, fun _ => ?_⟩
      refine yC.mono (Nat.le_refl _) (fun r m2 q => ⟨q.1, ?_⟩) (he c cm C1 m1 (h.kf e1) o1)
      have e2 := e1.tr q.2.2
      have nxt : ∀ C3 m3, RO J C3 m3 → KF m m3 → yP (xg xs) (d + 4) 373 84 [(0, .ref 58), (2, .int l2), (3, .int l3), (5, .int (nI j + 1)), (6, .int (nI (J.2.2.2 c)))] [] m3 (fun r m' => r = none ∧ RO J (C3 ++ (clB f e L (j + 1) ++ clY J.2.2.1 s.1 n)) m' ∧ KF m m') := by
        intro C3 m3 o3 e3
        have h3' := h.kf e3
        refine w373_84 xs (d + 3) _ _ _ _ m3 _ ⟨h3'.t.x z.2.2.2.1, ?_⟩
        rw [h3'.t.c z.2.2.2.1, ((h3'.t.2.1 n hn).2.2.2.2.2.2.2.2 j c hk).2.2, nI_1]
        exact ih (j + 1) l3 C3 m3 e' (by omega) h3 o3 e3
      have j2 : nI j + 1 = 2 ↔ j = 1 := by
        rw [nI_1]
        exact (nI_eq (b := 2) (by omega) (by omega)).trans ⟨fun w => by omega, fun w => by omega⟩
      have skip : ¬ (f = 3 ∧ j = 1) → yP (xg xs) (d + 4) 373 84 [(0, .ref 58), (2, .int l2), (3, .int l3), (5, .int (nI j + 1)), (6, .int (nI (J.2.2.2 c)))] [] m2 (fun r m' => r = none ∧ RO J (C1 ++ (e c ++ ((if f = 3 ∧ j = 1 then [j1 7 24] else []) ++ clB f e L (j + 1)) ++ clY J.2.2.1 s.1 n)) m' ∧ KF m m') := by
        intro w
        rw [if_neg w]
        have := nxt _ m2 q.2.1 e2
        simpa only [List.append_assoc, List.nil_append] using this
      refine ⟨fun w => skip (fun y => w (f3.mpr y.1)), fun w => ⟨fun y => skip (fun y2 => y (j2.mpr y2.2)), fun y => ?_⟩⟩
      refine c369k xs (d + 2) (by omega) q.2.1 (fun m3 o3 e3 => ?_)
      have yes : f = 3 ∧ j = 1 := ⟨f3.mp w, j2.mp y⟩
      rw [if_pos yes]
      have := nxt _ m3 o3 (e2.tr e3)
      simp only [List.append_assoc] at this ⊢
      exact this
  have x0 := h.t.x hn
  have c0 := h.t.c hn
  obtain ⟨X1, X2, X3, X4, X5, X6, X7, X8, X9⟩ := X
  have s31 : ∀ l3 : Int32, (0 < (kids J.2.2.1 n).length → l3 = s.1.2.2.2.2 (n + 1)) → yP (xg xs) (d + 4) 373 31 [(0, .ref 58), (1, .int (nI (J.2.2.2 n))), (2, .int l2)] [.int l3] m (fun r m' => r = none ∧ RO J (C ++ (clB f e (kids J.2.2.1 n) 0 ++ clY J.2.2.1 s.1 n)) m' ∧ KF m m') := by
    intro l3 h3
    refine w373_31 xs (d + 3) _ _ _ m _ ⟨x0, ?_⟩
    rw [c0, X6]
    exact lp (kids J.2.2.1 n) 0 l3 C m rfl (by omega) h3 ho (KF.re m)
  refine w373_0 xs (d + 3) _ m _ ⟨x0, x0, ?_⟩
  rw [c0, X8, hl2]
  refine ⟨fun z => s31 (-1) (fun w => ?_), fun z => ⟨x0, ?_⟩⟩
  · have := (nI_leI (b := 0) (by omega) (by omega)).mp z
    omega
  · have til := hW.til
    cases hk : kids J.2.2.1 n with
    | nil => exfalso; rw [hk] at z; exact z (by decide)
    | cons c L =>
      rw [hk] at til
      obtain ⟨rfl, -⟩ := til
      have cm : n + 1 ∈ kids J.2.2.1 n := by rw [hk]; exact List.mem_cons_self
      have cl := (hW.kin cm).2.2.2.1
      have we := hS.kid hW hn cm (by omega) (hW.mk okn.2 cm)
      have : lkI J.2.2.2 ((n + 1) :: L)[0]? = nI (J.2.2.2 (n + 1)) := rfl
      rw [hk] at X6
      rw [X6, this, h.t.c cl, ((h.n cl we.2.2).1 we.2.1).1, ← hk]
      exact ⟨h.t.x cl, s31 _ (fun _ => rfl)⟩
