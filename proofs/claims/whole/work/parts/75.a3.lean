/-! JUDGE: looks at parts of blocks and declarations -/
theorem jk_0 (xs : List Int32) (d : Nat) {m0 : yM} {T : Nat} {J : JV} {N : Nat} {A : List Nat} {n : Nat} {s : SU} {m : yM} (h : CX m0 T J N A n s m) (k : kK J.2.2.1 n = 0) : yC (xg xs) (d + 7) 327 [.ref 58, .int (nI (J.2.2.2 n)), .int (nI 0)] m (LKQ J A n s m (lk J.2.2.1 A s.1 s.2 n)) := by
  obtain ⟨hn, kn, vn, tn⟩ := h.n
  refine h.k0 (by omega) (by omega) (Or.inr ⟨by unfold exK; omega, by omega⟩) ?_
  have e : lk J.2.2.1 A s.1 s.2 n = lkText s.1 := by unfold lk; rw [if_pos (by rw [kn, k]; rfl)]
  rw [e]
  exact c327_0 xs (d + 5) h.2.2.2.1 hn h.2.2.1.1.2.1.2.2.2.2.2.1
theorem jk_4 (xs : List Int32) (d : Nat) {m0 : yM} {T : Nat} {J : JV} {N : Nat} {A : List Nat} {n : Nat} {s : SU} {m : yM} (h : CX m0 T J N A n s m) (k : kK J.2.2.1 n = 4) : yC (xg xs) (d + 7) 327 [.ref 58, .int (nI (J.2.2.2 n)), .int (nI 4)] m (LKQ J A n s m (lk J.2.2.1 A s.1 s.2 n)) := by
  obtain ⟨hn, kn, vn, tn⟩ := h.n
  refine h.k0 (by omega) (by omega) (Or.inr ⟨by unfold exK; omega, by omega⟩) ?_
  have ks : s.1.2.2.1 n = 4 := by rw [kn, k]; rfl
  have e : lk J.2.2.1 A s.1 s.2 n = lkSect s.1 n := by unfold lk; rw [ks, if_neg (by decide), if_neg (by decide), if_pos rfl]
  rw [e]
  have ok := h.2.1.1.ok
  rw [k] at ok
  exact c327_4 xs (d + 5) h.2.2.2.1 (h.b0 (by omega)) hn ok.1 vn
theorem jk_8 (xs : List Int32) (d : Nat) {m0 : yM} {T : Nat} {J : JV} {N : Nat} {A : List Nat} {n : Nat} {s : SU} {m : yM} (h : CX m0 T J N A n s m) {q : Nat} (hq : q = 8 ∨ q = 11) (k : kK J.2.2.1 n = q) : yC (xg xs) (d + 7) 327 [.ref 58, .int (nI (J.2.2.2 n)), .int (nI q)] m (LKQ J A n s m (lk J.2.2.1 A s.1 s.2 n)) := by
  obtain ⟨hn, kn, vn, tn⟩ := h.n
  refine h.k0 (by omega) (by omega) (Or.inr ⟨by unfold exK; omega, by omega⟩) ?_
  have e : lk J.2.2.1 A s.1 s.2 n = .inl s.1 := by
    unfold lk lkS
    rw [kn, k]
    rcases hq with rfl | rfl <;> rfl
  rw [e]
  exact c327_8 xs (d + 6) h.2.2.2.1 (by rcases hq with rfl | rfl <;> decide)
theorem jk_9 (xs : List Int32) (d : Nat) {m0 : yM} {T : Nat} {J : JV} {N : Nat} {A : List Nat} {n : Nat} {s : SU} {m : yM} (h : CX m0 T J N A n s m) (k : kK J.2.2.1 n = 9) : yC (xg xs) (d + 7) 327 [.ref 58, .int (nI (J.2.2.2 n)), .int (nI 9)] m (LKQ J A n s m (lk J.2.2.1 A s.1 s.2 n)) := by
  obtain ⟨hn, kn, vn, tn⟩ := h.n
  refine h.k0 (by omega) (by omega) (Or.inr ⟨by unfold exK; omega, by omega⟩) ?_
  have ks : s.1.2.2.1 n = 9 := by rw [kn, k]; rfl
  have e : lk J.2.2.1 A s.1 s.2 n = lkArr s.1 n := by unfold lk; rw [ks, if_neg (by decide), if_neg (by decide), if_neg (by decide), if_neg (by decide), if_neg (by decide), if_neg (by decide), if_pos rfl]
  rw [e]
  obtain ⟨m1, m2, m3, m4, m5, m6⟩ := k9_s h.2.1.1 k
  have nA : n ∈ A ++ [n] := List.mem_append_right _ List.mem_cons_self
  refine c327_9 xs (d + 5) h.2.2.2.1 (h.b0 (by omega)) hn m1 (CN_of h.1.1.1 h.2.2.1.1.1 (by omega) m2) (CN_of h.1.1.1 h.2.2.1.1.1 (by omega) m3) (fun z => z.2.2.1 nA) (fun v nm y hy => ?_)
  obtain ⟨a1, a2, -, -, a5⟩ := h.2.2.1.1.2.2.2.2.2.1 v y (by rw [List.getD_eq_getElem?_getD, hy]; rfl)
  refine ⟨fun z => ?_, fun z w => ?_⟩
  · rw [z] at a5
    rcases a5 with a5 | a5
    · omega
    · exact a5.2 nA
  · have z9 := h.1.1.1 _ a1
    obtain ⟨M, hM⟩ := z9
    have := k9_s hM z
    rw [w, k] at this
    rcases this.2.1 with y | y <;> omega
theorem jk_10 (xs : List Int32) (d : Nat) {m0 : yM} {T : Nat} {J : JV} {N : Nat} {A : List Nat} {n : Nat} {s : SU} {m : yM} (h : CX m0 T J N A n s m) (k : kK J.2.2.1 n = 10) : yC (xg xs) (d + 7) 327 [.ref 58, .int (nI (J.2.2.2 n)), .int (nI 10)] m (LKQ J A n s m (lk J.2.2.1 A s.1 s.2 n)) := by
  obtain ⟨hn, kn, vn, tn⟩ := h.n
  refine h.k0 (by omega) (by omega) (Or.inr ⟨by unfold exK; omega, by omega⟩) ?_
  have ks : s.1.2.2.1 n = 10 := by rw [kn, k]; rfl
  have e : lk J.2.2.1 A s.1 s.2 n = lkBtyp s.1 n := by unfold lk; rw [ks, if_neg (by decide), if_neg (by decide), if_neg (by decide), if_neg (by decide), if_neg (by decide), if_neg (by decide), if_neg (by decide), if_pos rfl]
  rw [e]
  have nA : n ∈ A ++ [n] := List.mem_append_right _ List.mem_cons_self
  refine c327_10 xs (d + 1) h.1.2.2 h.2.2.2.1 (h.b0 (by omega)) h.2.2.1.1.2.1.2.2.1 hn (h.2.1.1.nm (by omega)) vn (fun z => z.2.2.1 nA) (fun v nm y hy => ?_)
  obtain ⟨a1, a2, -, -, a5⟩ := h.2.2.1.1.2.2.2.2.2.1 v y (by rw [List.getD_eq_getElem?_getD, hy]; rfl)
  refine ⟨fun z => ?_, fun z w => ?_⟩
  · rw [z] at a5
    rcases a5 with a5 | a5
    · omega
    · exact a5.2 nA
  · obtain ⟨M, hM⟩ := h.1.1.1 _ a1
    have := k9_s hM z
    rw [w, k] at this
    rcases this.2.1 with y | y <;> omega
/-- places: what is told of them is what was told of variables -/
theorem plC_i {w k w' k' : Nat} (h1 : w < 6) (h2 : k < 256) (h3 : 3 ≤ w → k < 64) (h1' : w' < 6) (h2' : k' < 256) (h3' : 3 ≤ w' → k' < 64) (e : plC w k = plC w' k') : w = w' ∧ k = k' := by
  unfold plC at e
  split at e
  · split at e
    · omega
    · have := h3' (by omega)
      omega
  · have := h3 (by omega)
    split at e
    · omega
    · have := h3' (by omega)
      omega
theorem jk_7 (xs : List Int32) (d : Nat) {m0 : yM} {T : Nat} {J : JV} {N : Nat} {A : List Nat} {n : Nat} {s : SU} {m : yM} (h : CX m0 T J N A n s m) (k : kK J.2.2.1 n = 7) : yC (xg xs) (d + 7) 327 [.ref 58, .int (nI (J.2.2.2 n)), .int (nI 7)] m (LKQ J A n s m (lk J.2.2.1 A s.1 s.2 n)) := by
  obtain ⟨hn, kn, vn, tn⟩ := h.n
  refine h.k (by omega) (by omega) ?_
  obtain ⟨w, q, w1, w2, w3, w4⟩ := h.1.1.2.2.2.2.1 n hn k
  have ks : s.1.2.2.1 n = 7 := by rw [kn, k]; rfl
  have c0 : (s.1.2.2.2.1 n).toNatClampNeg = 256 * w + q := by rw [vn, w4]; exact nI_clamp (by omega)
  have e : lk J.2.2.1 A s.1 s.2 n = lkPlc s.1 A s.2 n w q := by
    unfold lk
    rw [ks, if_neg (by decide), if_neg (by decide), if_neg (by decide), if_neg (by decide), if_neg (by decide), if_pos rfl, c0]
    congr 1 <;> omega
  rw [e]
  have ok := h.2.1.1.ok
  rw [k] at ok
  obtain ⟨u1, u2, u3, ⟨j0, hj0⟩, u5, u6, u7, u8, u9, M, B, eA, pB⟩ := h.up (by omega)
  rw [k] at u5
  have k5 := kidK7 _ u8 u5
  obtain ⟨kk, e0, t, d1, d2, d3, d4, d5, d6, d7, d8⟩ := dcl_s pB.1 k5
  -- the place stands behind the names
  have ej : n = fPar A + 1 + kk ∧ 1 ≤ kk := by
    refine ⟨?_, d1⟩
    rcases Nat.lt_trichotomy n (fPar A + 1 + kk) with y | y | y
    · have := (d2 (n - (fPar A + 1)) (by omega)).2
      rw [show fPar A + 1 + (n - (fPar A + 1)) = n by omega] at this
      omega
    · exact y
    · exfalso
      -- behind the names: the type or a constant
      have okp := pB.1.ok
      rw [k5] at okp
      obtain ⟨-, ns, pl, ty, ini, eks, hns, hpl, hty, hini⟩ := okp
      have jl : kk < j0 := by
        rcases Nat.lt_trichotomy j0 kk with z | z | z
        · have := (d2 j0 z).1
          rw [hj0] at this
          have := Option.some.inj this
          omega
        · subst z
          rw [hj0] at d3
          have := Option.some.inj d3
          omega
        · exact z
      have gm : ((kids J.2.2.1 (fPar A)).map (kK J.2.2.1))[j0]? = some 7 := by rw [List.getElem?_map, hj0, Option.map_some, k]
      have gk : ∀ x, x < kk → ((kids J.2.2.1 (fPar A)).map (kK J.2.2.1))[x]? = some 6 := fun x hx => by rw [List.getElem?_map, (d2 x hx).1, Option.map_some, (d2 x hx).2]
      have gk2 : ¬ ((kids J.2.2.1 (fPar A)).map (kK J.2.2.1))[kk]? = some 6 := fun z => by
        rw [List.getElem?_map, d3, Option.map_some] at z
        have at' := pB.1.at
        have := pB.1.kin (List.mem_of_getElem? d3)
        exact d8 _ (Nat.le_refl _) (by omega) (Option.some.inj z)
      rw [eks] at gm gk gk2
      have l1 : kk = (6 :: ns).length := by
        rcases Nat.lt_trichotomy kk (6 :: ns).length with z | z | z
        · exfalso
          apply gk2
          show ((6 :: ns) ++ (pl ++ ty :: ini))[kk]? = some 6
          rw [List.getElem?_append_left z]
          have : ∀ x, x ∈ 6 :: ns → x = 6 := fun x hx => by
            rcases List.mem_cons.mp hx with y | y
            · exact y
            · exact hns x y
          rw [List.getElem?_eq_getElem z, this _ (List.getElem_mem z)]
        · exact z
        · exfalso
          have := gk (6 :: ns).length z
          have e2 : ((6 :: ns) ++ (pl ++ ty :: ini))[(6 :: ns).length]? = some 6 := this
          rw [List.getElem?_append_right (Nat.le_refl _), Nat.sub_self] at e2
          rcases hpl with rfl | rfl
          · have := Option.some.inj e2
            rcases hty with y | y | y <;> omega
          · cases e2
      have g2 : ((6 :: ns) ++ (pl ++ ty :: ini))[j0]? = some 7 := gm
      rw [List.getElem?_append_right (by omega)] at g2
      obtain ⟨x, hx⟩ : ∃ x, j0 - (6 :: ns).length = x + 1 := ⟨j0 - (6 :: ns).length - 1, by omega⟩
      rw [hx] at g2
      have mm : 7 ∈ ty :: ini := by
        rcases hpl with rfl | rfl
        · exact List.mem_of_getElem? (show (ty :: ini)[x + 1]? = some 7 from g2)
        · exact List.mem_of_getElem? (show (ty :: ini)[x]? = some 7 from g2)
      rcases List.mem_cons.mp mm with y | y
      · rcases hty with z | z | z <;> omega
      · rcases iniK_m hini y with z | z <;> omega
  refine c327_7 xs (d + 6) (c339 xs (d + 4) h.2.2.2.1 (h.b0 (by omega)) hn k ok.1 w4 u2 (j := kk) (fun i hi => ?_) ej.1 ej.2 (fun i3 => ?_))
  · rcases Nat.lt_or_ge i kk with y | y
    · exact (d2 i y).1
    · rw [show i = kk by omega]; exact d3
  · have pl : plC w q < 960 := by unfold plC; split <;> omega
    rw [h.2.2.1.1.2.2.2.2.2.2.2.2.1.2 i3 _ pl]
    have nb := h.nb
    have hR := h.2.2.2.1.2.1
    constructor
    · rintro (⟨v, y, y1, y2, y3⟩ | ⟨p, j, z1, z2, z3, z4, z5, z6, z7, z8⟩)
      · refine ⟨v, y1, V_lt y2, ?_⟩
        have vo : vOk s.1 v := (vOk_i _ _).mpr ⟨V_lt y2, y, y2⟩
        obtain ⟨-, g1, g2, g3, g4, g5, g6⟩ := hR.d vo
        rw [vD_s y2] at g6
        rcases g6 with ⟨a1, a2⟩ | ⟨w', q', a1, a2, a3, a4, a5, -⟩
        · exfalso
          refine a2 i3 y1 ?_
          rw [y3]
          exact ⟨fun z => by have := (nI_ltI (b := 0) (by omega) (by omega)).mp z; omega, nI_lt (b := 960) pl (by omega)⟩
        · rw [y3] at a5
          have pl' : plC w' q' < 960 := by unfold plC; split <;> omega
          have := (nI_eq (by omega) (by omega)).mp a5
          obtain ⟨r1, r2⟩ := plC_i w1 w2 w3 a1 a2 a3 this
          rw [a4, r1, r2]
      · exfalso
        have pf := (h.2.1.p7 h.1.1.2.2.1 k).2.2
        have nA : n ∈ A ++ [n] := List.mem_append_right _ List.mem_cons_self
        have := (h.2.2.1.1.2.2.2.2.2.2.2.1 j z6 z7 z4 z5).2 p z1 z2 z3
        rcases List.mem_append.mp z1 with y | y
        · have p1 := pf p y z2
          -- j is the place itself or stands where a name does
          have jn : j = p + 2 := this.2
          rw [p1] at jn
          have : ¬ j = n := fun z => z5 (z ▸ nA)
          rcases Nat.lt_or_ge 1 kk with z | z
          · have := (d2 1 z).2
            rw [show fPar A + 1 + 1 = j by omega] at this
            omega
          · omega
        · rw [List.mem_singleton.mp y] at z2
          omega
    · rintro ⟨v, y1, y2, y3⟩
      left
      obtain ⟨x, hx⟩ : ∃ x, s.1.2.1[v]? = some x := ⟨_, getD_some (d := dVK) y2⟩
      obtain ⟨-, c2, c3⟩ := hR.2.2 v x hx
      have gx : s.1.2.1.getD v dVK = x := by rw [List.getD_eq_getElem?_getD, hx]; rfl
      cases hx2 : x.2 with
      | none =>
        exfalso
        have := (c2 hx2).2.2.1
        rw [y3] at this
        exact nI_m1 (by omega) this
      | some y =>
        obtain ⟨-, -, -, -, -, g6⟩ := c3 y hx2
        rcases g6 with ⟨a1, -⟩ | ⟨w', q', a1, a2, a3, a4, a5, -⟩
        · exfalso
          rw [y3] at a1
          exact nI_m1 (by omega) a1
        · rw [y3] at a4
          have := (nI_eq (by omega) (by omega)).mp a4
          have e1 : w = w' := by omega
          have e2 : q = q' := by omega
          exact ⟨v, y, y1, by rw [gx]; exact hx2, by rw [e1, e2]; exact a5⟩
