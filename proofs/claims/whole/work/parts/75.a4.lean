/-! JUDGE: looks at declarations and names -/
theorem tpQ_of {m0 : yM} {T : Nat} {J : JV} {A : List Nat} {i n t : Nat} {s : SU} (hF : HF m0 T J.2.2.1) (h1 : P1 J.2.2.1 A i s) (h6 : P6 J.2.2.1 A i s) (b4 : s.1.1.length ≤ 399) (ht : t < J.2.2.1.length) (ti : t < i) (tA : t ∉ A) (kt : kK J.2.2.1 t = 8 ∨ kK J.2.2.1 t = 9 ∨ kK J.2.2.1 t = 10) (nA : n ∈ A) (k5 : kK J.2.2.1 n = 5) (nt : n < t) : tpQ J s.1 t := by
  obtain ⟨M, hM⟩ := hF.1 t ht
  have ks : s.1.2.2.1 t = nI (kK J.2.2.1 t) := by
    rcases h1.2.1 t ht with y | ⟨y, z⟩
    · exact y
    · omega
  refine ⟨ht, ks, kt, fun k => ?_, fun k => ?_, fun k => ?_⟩
  · exact ⟨(hF.1.v8 ht k).2, h1.2.2.1 t ht (by rw [k]; decide)⟩
  · obtain ⟨m1, m2, m3, m4, m5, m6⟩ := k9_s hM k
    obtain ⟨a, b, -⟩ := h6.1 t ht k ti tA
    have c1 := CN_of hF.1 h1 (show t + 1 < J.2.2.1.length by omega) m2
    have c2 := CN_of hF.1 h1 (show t + 2 < J.2.2.1.length by omega) m3
    exact ⟨m1, c1, c2, m5, (hF.1.v8 m5 m4).2, b, by rw [a, c1.2.2.2.2, c2.2.2.2.2]⟩
  · obtain ⟨⟨x, x1, x2⟩, x3⟩ := h6.2 t ht k ti tA
    refine ⟨hM.nm (by omega), x3 n nA k5 nt, ?_⟩
    rw [x1]
    exact nI_m1 (by rcases x2 with y | y <;> omega)
theorem jk_5 (xs : List Int32) (d : Nat) {m0 : yM} {T : Nat} {J : JV} {N : Nat} {A : List Nat} {n : Nat} {s : SU} {m : yM} (h : CX m0 T J N A n s m) (k : kK J.2.2.1 n = 5) : yC (xg xs) (d + 7) 327 [.ref 58, .int (nI (J.2.2.2 n)), .int (nI 5)] m (LKQ J A n s m (lk J.2.2.1 A s.1 s.2 n)) := by
  obtain ⟨hn, kn, vn, tn⟩ := h.n
  have hp := h.2.1
  have hF := h.1.1
  obtain ⟨h1, h2, h3, h3b, h4, h5, h6, h7, h8, h9, h10, h11⟩ := h.2.2.1.1
  have hX := h.2.2.2
  have hR := hX.1.2.1
  refine h.k0 (by omega) (by omega) (Or.inr ⟨by unfold exK; omega, by omega⟩) ?_
  have ks : s.1.2.2.1 n = 5 := by rw [kn, k]; rfl
  have e : lk J.2.2.1 A s.1 s.2 n = lkDcl J.2.2.1 s.1 A n := by unfold lk; rw [ks, if_neg (by decide), if_neg (by decide), if_neg (by decide), if_pos rfl]
  rw [e]
  obtain ⟨u1, u2, u3, u4, u5, u6, u7, u8, u9, -⟩ := h.up (by omega)
  have at' := hp.1.at
  have nA : n ∈ A ++ [n] := List.mem_append_right _ List.mem_cons_self
  obtain ⟨kk, e0, t, d1, d2, d3, d4, d5, d6, d7, d8⟩ := dcl_s hp.1 k
  obtain ⟨kk', t', b, g, eA, kb, kg, k1', c1, et, t1, t2, t3, t4, t5, t6, t7, qk⟩ := dcl_f hF.2.1 hF.2.2.1 hp h1 k
  have c1' := (dcT0_e hF.2.1 hp.1 h1 d2 d3 d8).1
  have ekk : kk' = kk := by omega
  subst ekk
  have kd7 : s.1.2.2.1 (n + 1 + kk') = 7 ↔ kK J.2.2.1 (n + 1 + kk') = 7 := by
    rcases h1.2.1 (n + 1 + kk') (by omega) with y | ⟨y, z⟩
    · rw [y]; exact nI_eq (b := 7) (by have := hF.2.1 (n + 1 + kk') (by omega); omega) (by omega)
    · rw [y]; exact ⟨fun w => absurd w (by decide), fun w => by omega⟩
  have ett : t' = t := by
    rw [← et]
    unfold dcT
    rw [c1]
    rcases d4 with ⟨z1, z2, z3⟩ | ⟨z1, z2⟩
    · rw [if_pos (kd7.mpr z1), z3]
    · rw [if_neg (fun w => by have := kd7.mp w; rw [← z2] at this; omega), z2]
  subst ett
  have tA : t' ∉ A ++ [n] := by
    intro z
    rcases List.mem_append.mp z with y | y
    · have := (hp.2.2 t' y).1
      omega
    · have := List.mem_singleton.mp y
      omega
  have jA : n + 1 + kk' ∉ A ++ [n] := by
    intro z
    rcases List.mem_append.mp z with y | y
    · have := (hp.2.2 _ y).1
      omega
    · have := List.mem_singleton.mp y
      omega
  have fg : fPar A = g := by rw [eA]; rfl
  have le := h3.1
  rw [qk] at le
  have nb := h.nb
  have kb4 : s.1.1.length ≤ 399 := by omega
  obtain ⟨z, z1, z2, z3⟩ := szS_d h1 h6 h9 kb4 (by omega) t2 tA t4 nA k t1
  have bA : b ∈ A := by rw [eA]; simp
  obtain ⟨c, cc, c4⟩ := h9.2.1 b (List.mem_append_left _ bA) kb
  have B0 := h.b0 (by omega)
  obtain ⟨c', a1, a2, a3⟩ := h9.1 (s.1.1.length - 1) (by omega)
  have ecc : c' = c := (nI_eq (by omega) (by omega)).mp (a1.symm.trans cc)
  have tq := tpQ_of hF h1 h6 kb4 (by omega) t2 tA t4 nA k t1
  have hz0 := hF.2.2.2.2.2.1
  -- a place is told, or none
  have pls : ∃ l4 at_, dcAt J.2.2.1 s.1 n = at_ ∧ ((kK J.2.2.1 (n + 1 + kk') = 7 ∧ e0 = kk' + 1 ∧ vtF J.2.2.1 (n + 1 + kk') = 0 ∧ vF J.2.2.1 (n + 1 + kk') = l4) ∨ (¬ kK J.2.2.1 (n + 1 + kk') = 7 ∧ e0 = kk' ∧ t' = n + 1 + kk' ∧ l4 = -1)) ∧ atQ s.1 l4 at_ := by
    rcases t7 with ⟨w1, w2⟩ | ⟨w1, w2⟩
    · obtain ⟨⟨w, q, q1, q2, q3, q4, q5⟩, p3⟩ := h7 (n + 1 + kk') (by omega) w1 (by omega) jA
      have i3 := (p3 n nA k (by omega)).1
      obtain ⟨M, hM⟩ := hF.1 (n + 1 + kk') (by omega)
      have ok := hM.ok
      rw [w1] at ok
      refine ⟨_, _, rfl, Or.inl ⟨w1, ?_, ok.1, rfl⟩, Or.inr ⟨w, q, q1, q2, q3, q4, by rw [w2]; exact q5, i3⟩⟩
      rcases d4 with ⟨y1, y2, y3⟩ | ⟨y1, y2⟩
      · exact y2
      · rw [← y2] at w1; omega
    · refine ⟨-1, -1, w2, Or.inr ⟨w1, ?_, ?_, rfl⟩, Or.inl ⟨rfl, rfl⟩⟩
      · rcases d4 with ⟨y1, y2, y3⟩ | ⟨y1, y2⟩
        · exact absurd y1 w1
        · exact y1
      · rcases d4 with ⟨y1, y2, y3⟩ | ⟨y1, y2⟩
        · exact absurd y1 w1
        · exact y2
  obtain ⟨l4, at_, p1, p2, p3⟩ := pls
  have cns : ∃ l6, (hasC J.2.2.1 s.1 n ∧ (kids J.2.2.1 n)[e0 + 1]? = some (t' + szF J.2.2.1 t') ∧ CN J s.1 (t' + szF J.2.2.1 t') ∧ l6 = nI (J.2.2.2 (t' + szF J.2.2.1 t'))) ∨ (¬ hasC J.2.2.1 s.1 n ∧ (kids J.2.2.1 n)[e0 + 1]? = none ∧ l6 = -1) := by
    unfold hasC
    rw [et]
    rcases d7 with ⟨y1, y2, y3⟩ | ⟨y1, y2⟩
    · exact ⟨_, Or.inl ⟨y1, y2, CN_of hF.1 h1 (by omega) y3, rfl⟩⟩
    · exact ⟨_, Or.inr ⟨by omega, y2, rfl⟩⟩
  obtain ⟨l6, p4⟩ := cns
  have n6 : ¬ kK J.2.2.1 (n + 1 + kk') = 6 := d8 _ (Nat.le_refl _) t6
  obtain ⟨-, -, Mg, hMg⟩ := hp.2.2 g (by rw [← fg]; exact u1)
  have okg := hMg.ok
  rw [kg] at okg
  refine c327_5 xs (d + 6) (c332 xs d h.1.2.2 hX.1 B0 h2.2.2.1 hn u2 u4 (by rw [fg]; exact okg.1) u7 (k := kk') (e := e0) (t := t') (l4 := l4) (at_ := at_) (l6 := l6) ⟨d2, d3, n6, by omega, c1, et, p1, d5, tq, p2, p3, p4⟩ le ⟨z, z1.1, by omega⟩ (fun u y1 y2 => ⟨?_, ?_⟩) ⟨c, cc, c4, fun i3 => by have := a3 i3.2; omega⟩)
  · have := hX.2.2 u y2 (by rw [qk]; omega)
    rw [this, fg, eA]
    rfl
  · obtain ⟨x, hx⟩ : ∃ x, s.1.2.1[u]? = some x := ⟨_, getD_some (d := dVK) y2⟩
    have gx : s.1.2.1.getD u dVK = x := by rw [List.getD_eq_getElem?_getD, hx]; rfl
    have nn := h3.2.2 u y2 (by rw [qk]; omega)
    rw [gx] at nn
    exact ((hR.2.2 u x hx).2.1 nn).2.1
/-- a name below an output -/
theorem c336x (xs : List Int32) (d : Nat) {J : JV} {D : Nat → Prop} {σ : RS} {m : yM} (h : RJ J D σ m) {n p : Nat} (hp : p < J.2.2.1.length) (hj : ∃ j : Nat, (kids J.2.2.1 p)[j]? = some n) (kp : kK J.2.2.1 p = 33) : yC (xg xs) (d + 1) 336 [.ref 58, .int (nI (J.2.2.2 n))] m (JQ J D m n (.inl σ)) := by
  have hT := h.1
  obtain ⟨hn, u65⟩ := hT.up hp hj
  have np := hT.2.1 p hp
  have ei := hT.c hn
  have xi := hT.x hn
  refine w336_0 xs d _ m _ ⟨xi, xi, ?_, ?_⟩
  · rw [ei, u65]; exact hT.x hp
  · rw [ei, u65, hT.c hp, np.2.1, kp]
    exact ⟨fun z => absurd rfl z, fun _ => ⟨rfl, JK.re m, h⟩⟩
theorem jk_6 (xs : List Int32) (d : Nat) {m0 : yM} {T : Nat} {J : JV} {N : Nat} {A : List Nat} {n : Nat} {s : SU} {m : yM} (h : CX m0 T J N A n s m) (k : kK J.2.2.1 n = 6) : yC (xg xs) (d + 7) 327 [.ref 58, .int (nI (J.2.2.2 n)), .int (nI 6)] m (LKQ J A n s m (lk J.2.2.1 A s.1 s.2 n)) := by
  obtain ⟨hn, kn, vn, tn⟩ := h.n
  have hp := h.2.1
  have hF := h.1.1
  have hX := h.2.2.2
  have ks : s.1.2.2.1 n = 6 := by rw [kn, k]; rfl
  have hvt := hp.1.nm (show _ from by omega)
  have B0 := h.b0 (by omega)
  have hd := h.ds (by omega)
  obtain ⟨u1, u2, u3, u4, u5, u6, u7, u8, u9, M, B, eA, pB⟩ := h.up (by omega)
  by_cases k5 : kK J.2.2.1 (fPar A) = 5
  · -- a declared name
    have eN : lk J.2.2.1 A s.1 s.2 n = lkName s.1 A n := lk_6n ks
    obtain ⟨b, g, eB, kb, kg, gb, pg⟩ := pB.dcl hF.2.2.1 k5
    have gA : g ∈ A := by rw [eA, eB]; simp
    have gl := hp.lt.2 g gA
    obtain ⟨-, -, Mg, hMg⟩ := hp.2.2 g gA
    have okg := hMg.ok
    rw [kg] at okg
    have kσ : s.1.2.2.1 (fPar A) = 5 := by rw [u6, k5]; rfl
    have c := c327_6g xs (d + 6) (P := fun r m' => JQw J (DN J A n s) m n (lkName s.1 A n) r m' ∧ ∀ σ', lkName s.1 A n = .inl σ' → m' = dcM J s.1 m n g) (fun r m' q => q.1.1) (c336d xs d h.1.2.2 hX.1 B0 hd (by have := h.nb.2.1; omega) u2 u4 k5 gl (List.getElem?_of_mem pg) okg.1 rfl kσ hvt vn)
    refine yC.mono (Nat.le_refl _) (fun r m' q => ?_) c
    obtain ⟨⟨q1, q2, q3⟩, q4⟩ := q
    refine ⟨q1, q2.x, ?_⟩
    rcases hl : lk J.2.2.1 A s.1 s.2 n with σ' | c
    · rw [← eN, hl] at q3
      have em := q4 σ' (by rw [← eN]; exact hl)
      have e0 := hl
      have hx : xNm J.2.2.1 n := ⟨k, fPar A, u2, u3, Or.inl k5⟩
      obtain ⟨l1, -⟩ := lk_6 hl ks kσ
      have nA : n ∈ A ++ [n] := List.mem_append_right _ List.mem_cons_self
      refine ⟨q3.mo (fun j hj => ?_), fun j hj => ?_, ?_⟩
      · rcases DD.l hF hp h.2.2.1 hl hj with y | y
        · exact y.1
        · exact absurd hx y.2.1
      · obtain ⟨g1, g2⟩ := hp.g1 hF.2.2.1 (by omega) (n + szF J.2.2.1 n)
        obtain ⟨j1, j2, j3⟩ := hj
        obtain ⟨o1, o2, o3⟩ := hX.2.1 j ⟨by rw [g1]; exact j1, j2, j3⟩
        refine ⟨o1, o2, ?_⟩
        show m'.1 86 (J.2.2.2 j) = σ'.2.2.2.2 j
        rw [q2.1 86 _ (by omega) (by omega), o3, l1]
        rfl
      · intro v hv hv2
        have hv : v < σ'.2.1.length := hv
        have hv2 : σ'.2.1.length ≤ v + qN J.2.2.1 A (n + szF J.2.2.1 n) := hv2
        have ln : σ'.2.1.length = s.1.2.1.length + 1 := by
          rw [l1]
          show (s.1.2.1 ++ [(s.1.2.2.2.1 n, none)]).length = _
          rw [List.length_append]
          rfl
        have eA4 : A = [0, b, g, fPar A] := by rw [eA, eB]; simp [fPar]
        have c4 : 4 ≤ A.length ∧ kK J.2.2.1 (A.getD 3 0) = 5 := by
          rw [eA4]
          exact ⟨Nat.le_refl 4, k5⟩
        have g2 : A.getD 2 0 = g := by rw [eA4]; rfl
        rw [em, g2]
        unfold dcM nwV
        by_cases ev : v = s.1.2.1.length
        · rw [ev, y_si_same]
        · rw [y_si_at, if_neg (by omega), y_si_at, if_neg (by omega), y_si_at, if_neg (by omega), y_si_at, if_neg (by omega), y_si_at, if_neg (by omega), y_si_at, if_neg (by omega), y_si_at, if_neg (by omega)]
          have := hX.2.2 v (by omega) (by
            have gg := gD_ap A n (i := 3) (by omega)
            have pB' : 4 ≤ (A ++ [n]).length ∧ kK J.2.2.1 ((A ++ [n]).getD 3 0) = 5 := ⟨by rw [List.length_append]; omega, by rw [gg]; exact c4.2⟩
            have e1 : qN J.2.2.1 (A ++ [n]) (n + szF J.2.2.1 n) = cntF (b6 J.2.2.1) (n + szF J.2.2.1 n) - cntF (b6 J.2.2.1) (A.getD 3 0 + 1) - ((A.filter (b6 J.2.2.1)).length + 1) := by
              unfold qN
              rw [if_pos pB', gg, filt6, if_pos k]
            have e2 : qN J.2.2.1 A (n + szF J.2.2.1 n) = cntF (b6 J.2.2.1) (n + szF J.2.2.1 n) - cntF (b6 J.2.2.1) (A.getD 3 0 + 1) - (A.filter (b6 J.2.2.1)).length := by
              unfold qN
              rw [if_pos c4]
            omega)
          rw [this, gD_ap A n (by omega), g2]
    · rw [← eN, hl] at q3
      exact q3
  · have k6' : ¬ (kK J.2.2.1 n = 6 ∧ kK J.2.2.1 (fPar A) = 5) := fun z => k5 z.2
    by_cases k33 : kK J.2.2.1 (fPar A) = 33
    · refine h.k0 (by omega) k6' (Or.inl ⟨k, fPar A, u2, u3, Or.inr k33⟩) ?_
      have e : lk J.2.2.1 A s.1 s.2 n = .inl s.1 := by
        rw [lk_6n ks]
        unfold lkName
        rw [if_pos (by rw [u6, k33]; rfl)]
      rw [e]
      exact c327_6 xs (d + 6) (yC.mono (show d + 1 ≤ d + 6 by omega) (fun _ _ q => q) (c336x xs d hX.1 u2 u4 k33))
    · refine h.k (by omega) k6' ?_
      rw [lk_6n ks]
      exact c327_6 xs (d + 6) (c336r xs (d + 2) h.1.2.2 hX.1 B0 hd (h.aD (by omega) (fun _ => k5) (by omega)) u2 u4 ⟨k5, k33, u8⟩ rfl u6 hvt k ks vn)
