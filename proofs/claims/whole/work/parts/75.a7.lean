/-! JUDGE: blocks, and all nodes -/
/-- kinds below -/
theorem TW.cl {m0 : yM} {T : Nat} {F : List ND} {S : Nat → Prop} (hS : ∀ k, k < 37 → S k → ∀ x, x ∈ kidK k → S x) : ∀ (N c : Nat), TW m0 T F N c → S (kK F c) → ∀ j, c ≤ j → j < c + szF F c → S (kK F j) := by
  intro N
  induction N with
  | zero => intro c h; exact absurd h (fun z => z)
  | succ N ih =>
    intro c h hk j h1 h2
    have h0 := h
    obtain ⟨w1, w2, w3, w4, w5, w6, w7⟩ := h
    by_cases e : j = c
    · rw [e]; exact hk
    · have go : ∀ (L : List Nat) (a : Nat), tile F L a (c + szF F c) → (∀ x, x ∈ L → x ∈ kids F c) → a ≤ j → S (kK F j) := by
        intro L
        induction L with
        | nil => intro a ht _ ha; have ht : a = c + szF F c := ht; omega
        | cons x L ihL =>
          intro a ht hx ha
          obtain ⟨rfl, ht⟩ := ht
          have xm := hx x List.mem_cons_self
          rcases Nat.lt_or_ge j (x + szF F x) with y | y
          · exact ih x (w7 x xm) (hS _ w4 hk _ (h0.kid xm)) j ha y
          · exact ihL _ ht (fun q hq => hx q (List.mem_cons_of_mem _ hq)) y
      exact go (kids F c) (c + 1) w6 (fun _ hx => hx) (by omega)
theorem TW.at_kid {m0 : yM} {T : Nat} {F : List ND} {N n j : Nat} (h : TW m0 T F N n) (h1 : n < j) (h2 : j < n + szF F n) : ∃ c, c ∈ kids F n ∧ c ≤ j ∧ j < c + szF F c := by
  have go : ∀ (L : List Nat) (a : Nat), tile F L a (n + szF F n) → (∀ x, x ∈ L → x ∈ kids F n) → a ≤ j → ∃ c, c ∈ kids F n ∧ c ≤ j ∧ j < c + szF F c := by
    intro L
    induction L with
    | nil => intro a ht _ ha; have ht : a = n + szF F n := ht; omega
    | cons x L ihL =>
      intro a ht hx ha
      obtain ⟨rfl, ht⟩ := ht
      rcases Nat.lt_or_ge j (x + szF F x) with y | y
      · exact ⟨x, hx x List.mem_cons_self, ha, y⟩
      · exact ihL _ ht (fun q hq => hx q (List.mem_cons_of_mem _ hq)) y
  exact go (kids F n) (n + 1) h.til (fun _ hx => hx) (by omega)
/-- a block's kinds: all but the last one are no ladders -/
theorem TW.blk {m0 : yM} {T : Nat} {F : List ND} {N n : Nat} (h : TW m0 T F N n) (k : kK F n = 1 ∨ kK F n = 2 ∨ kK F n = 3) : ∃ pre b, (kids F n).map (kK F) = pre ++ [b] ∧ (∀ x, x ∈ pre → ¬ x = 22) ∧ (b = 11 ∨ b = 22) := by
  have ok := h.ok
  rcases k with k | k | k <;> rw [k] at ok
  · obtain ⟨-, s, b, e, hs, hb⟩ := ok
    refine ⟨8 :: s, b, e, fun x hx => ?_, hb⟩
    rcases List.mem_cons.mp hx with y | y
    · omega
    · have := hs x y; omega
  · obtain ⟨-, s, b, e, hs, hb⟩ := ok
    exact ⟨s, b, e, fun x hx => by have := hs x hx; omega, hb⟩
  · obtain ⟨-, s, b, e, hs, hb⟩ := ok
    exact ⟨s, b, e, fun x hx => by have := hs x hx; omega, hb⟩
theorem jk_b (xs : List Int32) (d : Nat) {m0 : yM} {T : Nat} {J : JV} {N : Nat} {A : List Nat} {n : Nat} {s : SU} {m : yM} (h : CX m0 T J N A n s m) {k : Nat} (hk : k = 1 ∨ k = 2 ∨ k = 3) (kk : kK J.2.2.1 n = k) : yC (xg xs) (d + N + 2) 327 [.ref 58, .int (nI (J.2.2.2 n)), .int (nI k)] m (LKQ J A n s m (lk J.2.2.1 A s.1 s.2 n)) := by
  obtain ⟨hn, kn, vn, tn⟩ := h.n
  have hp := h.2.1
  have hF := h.1.1
  have hX := h.2.2.2
  have kb : kK J.2.2.1 n = 1 ∨ kK J.2.2.1 n = 2 ∨ kK J.2.2.1 n = 3 := by omega
  have nx1 : ¬ exK (kK J.2.2.1 n) := by unfold exK; omega
  have nx2 : ¬ (kK J.2.2.1 n = 13 ∨ kK J.2.2.1 n = 19 ∨ kK J.2.2.1 n = 14) := by omega
  have eA := hp.blk hF.2.2.1 kb
  have nA : n ∈ A ++ [n] := List.mem_append_right _ List.mem_cons_self
  obtain ⟨B0, c1, c2⟩ := h.2.2.1.1.1.2.2.2.2 n nA kb
  have at' := hp.1.at
  have bk : bkN (s.1.2.2.1 n) := by rw [kn]; exact (ch37e _ hp.1.k37).mpr kb
  have e : lk J.2.2.1 A s.1 s.2 n = lkBlk J.2.2.1 s.1 := by
    unfold lk
    rw [if_neg (by rcases bk with z | z | z <;> rw [z] <;> decide), if_pos bk]
  have gA : (A ++ [n]).getD 1 (n + szF J.2.2.1 n) = n := by rw [eA]; rfl
  have gA' : A.getD 1 (n + szF J.2.2.1 n) = n + szF J.2.2.1 n := by rw [eA]; rfl
  have hD := h.aD (by omega) (by omega) (by omega)
  have kiff : ∀ i, i < J.2.2.1.length → ∀ q, q < 30 → (s.1.2.2.1 i = nI q ↔ kK J.2.2.1 i = q) := by
    intro i hi q hq
    rcases h.2.2.1.1.1.2.1 i hi with y | ⟨y, z⟩
    · rw [y]; exact nI_eq (by have := hF.2.1 i hi; omega) (by omega)
    · rw [y]
      exact ⟨fun w => by have := (nI_eq (a := 30) (by omega) (by omega)).mp (show nI 30 = nI q from w); omega, fun w => by omega⟩
  obtain ⟨pr, b, eks, hpr, hb⟩ := hp.1.blk kb
  have ne : 0 < (kids J.2.2.1 n).length := by
    have := congrArg List.length eks
    rw [List.length_map, List.length_append, List.length_singleton] at this
    omega
  obtain ⟨l, hl⟩ : ∃ l, (kids J.2.2.1 n)[(kids J.2.2.1 n).length - 1]? = some l := ⟨_, getD_some (d := 0) (by omega)⟩
  have lm := List.mem_of_getElem? hl
  have lz := hp.1.kin lm
  have ll : (kids J.2.2.1 n).length = pr.length + 1 := by
    have := congrArg List.length eks
    rw [List.length_map, List.length_append, List.length_singleton] at this
    exact this
  have h22 : (∃ i, n ≤ i ∧ i < n + szF J.2.2.1 n ∧ s.1.2.2.1 i = 22) ↔ kK J.2.2.1 l = 22 := by
    constructor
    · rintro ⟨i, i1, i2, i3⟩
      have k22 : kK J.2.2.1 i = 22 := (kiff i (by omega) 22 (by omega)).mp i3
      have : ¬ i = n := fun z => by rw [z] at k22; omega
      obtain ⟨c, c1, c2, c3⟩ := hp.1.at_kid (show n < i by omega) i2
      obtain ⟨M, hM⟩ := hF.1 c (hp.1.kin c1).2.2.2.1
      have kc : kK J.2.2.1 c = 22 := by
        rcases Nat.decEq (kK J.2.2.1 c) 22 with z | z
        · exfalso
          have kd := hp.1.kid c1
          have hc : ∀ x, (x = 1 ∨ x = 2 ∨ x = 3) → ∀ y, y ∈ kidK x → ¬ y = 22 → ¬ (y = 0 ∨ y = 1 ∨ y = 2 ∨ y = 3 ∨ y = 22) := by
            intro x hx
            rcases hx with rfl | rfl | rfl <;> decide
          have cl : ∀ k, k < 37 → ¬ (k = 0 ∨ k = 1 ∨ k = 2 ∨ k = 3 ∨ k = 22) → ∀ x, x ∈ kidK k → ¬ (x = 0 ∨ x = 1 ∨ x = 2 ∨ x = 3 ∨ x = 22) := by decide
          have := TW.cl (S := fun k => ¬ (k = 0 ∨ k = 1 ∨ k = 2 ∨ k = 3 ∨ k = 22)) cl M c hM (hc _ kb _ kd z) i c2 c3
          omega
        · exact z
      obtain ⟨j, hj⟩ := List.getElem?_of_mem c1
      have gm : ((kids J.2.2.1 n).map (kK J.2.2.1))[j]? = some 22 := by rw [List.getElem?_map, hj, Option.map_some, kc]
      rw [eks] at gm
      have jl : j < (kids J.2.2.1 n).length := (List.getElem?_eq_some_iff.mp hj).1
      have ej : j = (kids J.2.2.1 n).length - 1 := by
        rcases Nat.lt_or_ge j pr.length with z | z
        · rw [List.getElem?_append_left z] at gm
          exact absurd rfl (hpr 22 (List.mem_of_getElem? gm))
        · omega
      rw [ej, hl] at hj
      rw [Option.some.inj hj]
      exact kc
    · intro z
      exact ⟨l, by omega, lz.2.1, (kiff l lz.2.2.2.1 22 (by omega)).mpr z⟩
  have vlt : ∀ i, i < J.2.2.1.length → kK J.2.2.1 i = 25 → (¬ vF J.2.2.1 i ≤ 1 ↔ ¬ s.1.2.2.2.1 i < 2) := by
    intro i hi ki
    obtain ⟨M, hM⟩ := hF.1 i hi
    have ok := hM.ok
    rw [ki] at ok
    rw [h.2.2.1.1.1.2.2.1 i hi (by rw [ki]; decide)]
    rcases ok.2.1 with z | z | z | z <;> rw [z] <;> decide
  have c := c327_b xs d (N := N) hX.1 hX.2.1 B0 hD hp.1 hk kk c1 (by rw [c2, kk]) (fun i hi hE => by
    have := hE.1
    rw [gA] at this
    omega) (fun i hi ki => by
      obtain ⟨M, hM⟩ := hF.1 i hi
      have ok := hM.ok
      rw [ki] at ok
      exact ok.1) (fun i i1 i2 => by
      have il : i < J.2.2.1.length := by omega
      refine ⟨?_, ?_⟩
      · unfold p16
        rw [decide_eq_true_iff]
        exact or_congr (kiff i il 16 (by omega)).symm (kiff i il 19 (by omega)).symm
      · unfold p25
        rw [decide_eq_true_iff]
        constructor
        · rintro ⟨z1, z2⟩
          exact ⟨(kiff i il 25 (by omega)).mpr z1, (vlt i il z1).mp z2⟩
        · rintro ⟨z1, z2⟩
          have z1 := (kiff i il 25 (by omega)).mp z1
          exact ⟨z1, (vlt i il z1).mpr z2⟩) hl h22 (hF.2.1 l lz.2.2.2.1)
  refine yC.mono (Nat.le_refl _) (fun r m' q => ?_) c
  obtain ⟨q1, q2, q3⟩ := q
  refine ⟨q1, q2, ?_⟩
  rcases hl' : lk J.2.2.1 A s.1 s.2 n with σ' | c
  · rw [← e, hl'] at q3
    obtain ⟨q3, q4⟩ := q3
    refine ⟨(q3.ad hn nx1 nx2).mo (fun j hj => ?_), q4.mo (fun j hj => ?_), fun v hv hv2 => ?_⟩
    · rcases DD.l hF hp h.2.2.1 hl' hj with y | y
      · exact Or.inl y.1
      · exact Or.inr y.1
    · obtain ⟨j1, j2, j3⟩ := hj
      rw [gA'] at j1
      rcases Nat.lt_or_ge j n with z | z
      · exact Or.inl ⟨by rw [gA]; exact z, j2, j3⟩
      · refine Or.inr ⟨z, j1, ?_⟩
        unfold p16 p25
        rw [decide_eq_true_iff, decide_eq_true_iff]
        rcases j2 with y | y | y
        · exact Or.inl (Or.inl y)
        · exact Or.inl (Or.inr y)
        · exact Or.inr y
    · have hv2 : σ'.2.1.length ≤ v + qN J.2.2.1 A (n + szF J.2.2.1 n) := hv2
      have hv : v < σ'.2.1.length := hv
      rw [qN_z (by rw [eA]; intro z; have := z.1; simp at this)] at hv2
      omega
  · rw [← e, hl'] at q3
    exact q3
/-- a block's begin -/
theorem jk_g (xs : List Int32) (d : Nat) {m0 : yM} {T : Nat} {J : JV} (hF : HF m0 T J.2.2.1) (hO : JO J) {N : Nat} {A : List Nat} {n : Nat} {s : SU} {m : yM} (hp : PA m0 T J.2.2.1 N A n) (h : PAll J.2.2.1 A n s) (hX : RX J A n s m) (kb : kK J.2.2.1 n = 1 ∨ kK J.2.2.1 n = 2 ∨ kK J.2.2.1 n = 3) : yC (xg xs) (d + 6) 322 [.ref 58, .int (nI (J.2.2.2 n))] m (fun r m' => r = none ∧ JX m m' ∧ match jb s n with
  | .inr c => FE J c n m'
  | .inl σ => RX J (A ++ [n]) (n + 1) (σ, s.2) m') := by
  have hn := hp.lt.1
  obtain ⟨kn, vn, tn⟩ := h.1.1.1 n hn (Or.inl (Nat.le_refl _))
  have bk : bkN (s.1.2.2.1 n) := by rw [kn]; exact (ch37e _ hp.1.k37).mpr kb
  obtain ⟨n1, n2, n3, n4⟩ := h.1.nb hF (by omega)
  have eA := hp.blk hF.2.2.1 kb
  have ej : jb s n = lkBeg s.1 n := by unfold jb; rw [if_pos bk]
  have c := c322 xs d hO hX.1 hn (by omega) (by omega) bk kn vn (hp.1.nm (by omega)) (fun k1 => by
    obtain ⟨f1, f2, f3⟩ := fun_8 hp.1 k1
    obtain ⟨a1, a2, a3⟩ := h.1.1.1 (n + 1) f1 (Or.inl (by omega))
    have k0 : (kids J.2.2.1 n)[0]? = some (n + 1) := by
      cases hq : kids J.2.2.1 n with
      | nil => rw [hq] at f3; cases f3
      | cons c L =>
        have := hp.1.kdN.1 c (by rw [hq]; rfl)
        rw [this]; rfl
    exact ⟨k0, f1, ⟨f2, by rw [a1, f2]; rfl⟩, (hF.1.v8 f1 f2).2, a2⟩)
  refine yC.mono (Nat.le_refl _) (fun r m' q => ?_) c
  obtain ⟨q1, q2, q3⟩ := q
  refine ⟨q1, q2.x, ?_⟩
  rw [ej]
  rcases hl : lkBeg s.1 n with σ | c
  · rw [hl] at q3
    have e := hl
    unfold lkBeg at e
    split at e
    · cases e
    split at e
    · cases e
    · have e' := inl_e e
      obtain ⟨-, -, -, -, -, y6, -⟩ := beg_y s.1 n (s.1.2.2.1 n) (s.1.2.2.2.1 n)
      rw [← e'] at y6
      refine ⟨q3.mo (fun j hj => ?_), fun j hj => ?_, fun v hv hv2 => ?_⟩
      · obtain ⟨j1, j2, j3, j4, -⟩ := hj
        obtain ⟨j2, j3⟩ := mem_b j2 j3
        refine ⟨j1, j2, j3, j4, fun k p pm jk => ?_⟩
        rw [eA] at pm
        rw [List.mem_singleton.mp pm] at jk
        obtain ⟨M, hM⟩ := hF.1 0 (by omega)
        have := hM.kid jk
        rw [hF.2.2.1, k] at this
        exact absurd this (by decide)
      · obtain ⟨j1, j2, j3⟩ := hj
        have g1 : (A ++ [n]).getD 1 (n + 1) = n := by rw [eA]; rfl
        rw [g1] at j1
        obtain ⟨o1, o2, o3⟩ := hX.2.1 j ⟨by rw [eA]; exact j1, j2, j3⟩
        refine ⟨o1, o2, ?_⟩
        show m'.1 86 (J.2.2.2 j) = σ.2.2.2.2 j
        rw [q2.1 86 _ (by omega) (by omega), o3, y6]
      · have hv2 : σ.2.1.length ≤ v + qN J.2.2.1 (A ++ [n]) (n + 1) := hv2
        have hv : v < σ.2.1.length := hv
        rw [qN_z (by rw [eA]; intro z; have := z.1; simp at this)] at hv2
        omega
  · rw [hl] at q3
    exact q3
/-- no block begins -/
theorem RX.n {m0 : yM} {T : Nat} {J : JV} (hF : HF m0 T J.2.2.1) {N : Nat} {A : List Nat} {n : Nat} {s : SU} {m : yM} (hp : PA m0 T J.2.2.1 N A n) (hX : RX J A n s m) (kb : ¬ (kK J.2.2.1 n = 1 ∨ kK J.2.2.1 n = 2 ∨ kK J.2.2.1 n = 3)) : RX J (A ++ [n]) (n + 1) s m := by
  refine ⟨hX.1.mo (fun j hj => ?_), hX.2.1.mo (fun j hj => ?_), fun v hv hv2 => ?_⟩
  · obtain ⟨j1, j2, j3, j4, j5⟩ := hj
    obtain ⟨j2, j3⟩ := mem_b j2 j3
    exact ⟨j1, j2, j3, j4, fun k p pm jk => j5 k p (List.mem_append_left _ pm) jk⟩
  · obtain ⟨j1, j2, j3⟩ := hj
    rcases hp.up with ⟨y1, y2⟩ | ⟨B, q, M, e1, e2, e3, e4, e5⟩
    · exfalso
      have g : (A ++ [n]).getD 1 (n + 1) = 1 := by rw [y1, y2]; rfl
      rw [g] at j1
      have : j = 0 := by omega
      rw [this, hF.2.2.1] at j2
      omega
    · have g := (hp.g1 hF.2.2.1 kb (n + 1))
      have l2 : 2 ≤ A.length := by
        rcases g.2 with z | z
        · exact z.1
        · have := (e5.1.kin e3).1
          omega
      refine ⟨?_, j2, j3⟩
      rw [g.1] at j1
      have g1 : A[1]? = some (A.getD 1 n) := getD_some (by omega)
      have g2 : A[1]? = some (A.getD 1 (n + 1)) := getD_some (by omega)
      rw [g1] at g2
      rw [Option.some.inj g2]
      exact j1
  · rw [qN_b hp] at hv2
    have := hX.2.2 v hv hv2
    rw [this]
    by_cases c : 4 ≤ A.length ∧ kK J.2.2.1 (A.getD 3 0) = 5
    · rw [gD_ap A n (by omega)]
    · rw [qN_z c] at hv2
      omega
/-- a look at any node -/
theorem jk_a (xs : List Int32) (d : Nat) {m0 : yM} {T : Nat} {J : JV} {N : Nat} {A : List Nat} {n : Nat} {s : SU} {m : yM} (h : CX m0 T J (N + 1) A n s m) : (30 ≤ kK J.2.2.1 n → yC (xg xs) (d + N + 10) 354 [.ref 58, .int (nI (J.2.2.2 n)), .int (nI (kK J.2.2.1 n))] m (LKQ J A n s m (lk J.2.2.1 A s.1 s.2 n))) ∧ (22 ≤ kK J.2.2.1 n → ¬ 30 ≤ kK J.2.2.1 n → yC (xg xs) (d + N + 10) 352 [.ref 58, .int (nI (J.2.2.2 n)), .int (nI (kK J.2.2.1 n))] m (LKQ J A n s m (lk J.2.2.1 A s.1 s.2 n))) ∧ (12 ≤ kK J.2.2.1 n → ¬ 22 ≤ kK J.2.2.1 n → yC (xg xs) (d + N + 10) 340 [.ref 58, .int (nI (J.2.2.2 n)), .int (nI (kK J.2.2.1 n))] m (LKQ J A n s m (lk J.2.2.1 A s.1 s.2 n))) ∧ (¬ 12 ≤ kK J.2.2.1 n → yC (xg xs) (d + N + 10) 327 [.ref 58, .int (nI (J.2.2.2 n)), .int (nI (kK J.2.2.1 n))] m (LKQ J A n s m (lk J.2.2.1 A s.1 s.2 n))) := by
  have k37 := h.2.1.1.k37
  refine ⟨fun k0 => ?_, fun k0 k1 => ?_, fun k0 k1 => ?_, fun k0 => ?_⟩
  · have kk : kK J.2.2.1 n = 30 ∨ kK J.2.2.1 n = 31 ∨ kK J.2.2.1 n = 32 ∨ kK J.2.2.1 n = 33 ∨ kK J.2.2.1 n = 34 ∨ kK J.2.2.1 n = 35 ∨ kK J.2.2.1 n = 36 := by omega
    rcases kk with k | k | k | k | k | k | k
    · have c := jk_30 xs (d + N + 3) h k; rw [k]; exact c
    · have c := jk_31 xs (d + N + 3) h k; rw [k]; exact c
    · have c := jk_32 xs (d + N + 3) h k; rw [k]; exact c
    · have c := jk_33 xs (d + N + 3) h k; rw [k]; exact c
    · have c := jk_34 xs (d + N + 3) h k; rw [k]; exact c
    · have c := jk_35 xs (d + N + 3) h k; rw [k]; exact c
    · have c := jk_36 xs (d + N + 3) h k; rw [k]; exact c
  · have kk : kK J.2.2.1 n = 22 ∨ kK J.2.2.1 n = 23 ∨ kK J.2.2.1 n = 24 ∨ kK J.2.2.1 n = 25 ∨ kK J.2.2.1 n = 26 ∨ kK J.2.2.1 n = 27 ∨ kK J.2.2.1 n = 28 ∨ kK J.2.2.1 n = 29 := by omega
    rcases kk with k | k | k | k | k | k | k | k
    · have c := jk_22 xs (d + N + 3) h k; rw [k]; exact c
    · have c := jk_23 xs (d + N + 3) h k; rw [k]; exact c
    · have c := jk_24 xs (d + N + 3) h (Or.inl rfl) k; rw [k]; exact c
    · have c := jk_25 xs (d + N + 3) h k; rw [k]; exact c
    · have c := jk_24 xs (d + N + 3) h (Or.inr (Or.inl rfl)) k; rw [k]; exact c
    · have c := jk_24 xs (d + N + 3) h (Or.inr (Or.inr rfl)) k; rw [k]; exact c
    · have c := jk_28 xs (d + N + 3) h k; rw [k]; exact c
    · have c := jk_29 xs (d + N + 3) h k; rw [k]; exact c
  · have kk : kK J.2.2.1 n = 12 ∨ kK J.2.2.1 n = 13 ∨ kK J.2.2.1 n = 14 ∨ kK J.2.2.1 n = 15 ∨ kK J.2.2.1 n = 16 ∨ kK J.2.2.1 n = 17 ∨ kK J.2.2.1 n = 18 ∨ kK J.2.2.1 n = 19 ∨ kK J.2.2.1 n = 20 ∨ kK J.2.2.1 n = 21 := by omega
    rcases kk with k | k | k | k | k | k | k | k | k | k
    · have c := jk_12 xs (d + N + 3) h k; rw [k]; exact c
    · have c := jk_13 xs (d + N + 3) h k; rw [k]; exact c
    · have c := jk_14 xs (d + N + 3) h k; rw [k]; exact c
    · have c := jk_15 xs (d + N + 3) h k; rw [k]; exact c
    · have c := jk_16 xs (d + N + 3) h k; rw [k]; exact c
    · have c := jk_17 xs (d + N + 3) h (Or.inl rfl) k; rw [k]; exact c
    · have c := jk_18 xs (d + N + 3) h k; rw [k]; exact c
    · have c := jk_19 xs (d + N + 3) h k; rw [k]; exact c
    · have c := jk_20 xs (d + N + 3) h k; rw [k]; exact c
    · have c := jk_17 xs (d + N + 3) h (Or.inr rfl) k; rw [k]; exact c
  · have kk : kK J.2.2.1 n = 0 ∨ kK J.2.2.1 n = 1 ∨ kK J.2.2.1 n = 2 ∨ kK J.2.2.1 n = 3 ∨ kK J.2.2.1 n = 4 ∨ kK J.2.2.1 n = 5 ∨ kK J.2.2.1 n = 6 ∨ kK J.2.2.1 n = 7 ∨ kK J.2.2.1 n = 8 ∨ kK J.2.2.1 n = 9 ∨ kK J.2.2.1 n = 10 ∨ kK J.2.2.1 n = 11 := by omega
    have bl : ∀ k, (k = 1 ∨ k = 2 ∨ k = 3) → kK J.2.2.1 n = k → yC (xg xs) (d + N + 10) 327 [.ref 58, .int (nI (J.2.2.2 n)), .int (nI k)] m (LKQ J A n s m (lk J.2.2.1 A s.1 s.2 n)) := fun k hk kk => yC.mono (show d + 7 + (N + 1) + 2 ≤ d + N + 10 by omega) (fun _ _ q => q) (jk_b xs (d + 7) h hk kk)
    rcases kk with k | k | k | k | k | k | k | k | k | k | k | k
    · have c := jk_0 xs (d + N + 3) h k; rw [k]; exact c
    · have c := bl 1 (by omega) k; rw [k]; exact c
    · have c := bl 2 (by omega) k; rw [k]; exact c
    · have c := bl 3 (by omega) k; rw [k]; exact c
    · have c := jk_4 xs (d + N + 3) h k; rw [k]; exact c
    · have c := jk_5 xs (d + N + 3) h k; rw [k]; exact c
    · have c := jk_6 xs (d + N + 3) h k; rw [k]; exact c
    · have c := jk_7 xs (d + N + 3) h k; rw [k]; exact c
    · have c := jk_8 xs (d + N + 3) h (Or.inl rfl) k; rw [k]; exact c
    · have c := jk_9 xs (d + N + 3) h k; rw [k]; exact c
    · have c := jk_10 xs (d + N + 3) h k; rw [k]; exact c
    · have c := jk_8 xs (d + N + 3) h (Or.inr rfl) k; rw [k]; exact c
