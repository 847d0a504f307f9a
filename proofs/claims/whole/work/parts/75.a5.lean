/-! JUDGE: looks at statements and rungs -/
theorem lk_o1 {F : List ND} {A : List Nat} {σ : RS} {U : Nat → Bool} {n : Nat} (h : σ.2.2.1 n = 8 ∨ σ.2.2.1 n = 11 ∨ σ.2.2.1 n = 17 ∨ σ.2.2.1 n = 21 ∨ σ.2.2.1 n = 22) : lk F A σ U n = .inl σ := by
  unfold lk lkS
  generalize σ.2.2.1 n = K at h
  have p : ¬ K = 0 ∧ ¬ (K = 1 ∨ K = 2 ∨ K = 3) ∧ ¬ K = 4 ∧ ¬ K = 5 ∧ ¬ K = 6 ∧ ¬ K = 7 ∧ ¬ K = 9 ∧ ¬ K = 10 ∧ ¬ K = 23 ∧ ¬ K = 25 ∧ ¬ K = 28 ∧ ¬ K = 29 ∧ ¬ 23 ≤ K := by
    rcases h with h | h | h | h | h <;> rw [h] <;> decide
  have q : ¬ K = 12 ∧ ¬ K = 13 ∧ ¬ K = 14 ∧ ¬ K = 15 ∧ ¬ K = 16 ∧ ¬ K = 18 ∧ ¬ K = 19 ∧ ¬ K = 20 := by
    rcases h with h | h | h | h | h <;> rw [h] <;> decide
  obtain ⟨p1, p2, p3, p4, p5, p6, p7, p8, p9, p10, p11, p12, p13⟩ := p
  obtain ⟨q1, q2, q3, q4, q5, q6, q7, q8⟩ := q
  rw [if_neg p1, if_neg p2, if_neg p3, if_neg p4, if_neg p5, if_neg p6, if_neg p7, if_neg p8, if_neg p9, if_neg p10, if_neg p11, if_neg p12, if_neg p13, if_neg q1, if_neg q2, if_neg q3, if_neg q4, if_neg q5, if_neg q6, if_neg q7, if_neg q8]
theorem lk_o2 {F : List ND} {A : List Nat} {σ : RS} {U : Nat → Bool} {n : Nat} (h : σ.2.2.1 n = 24 ∨ σ.2.2.1 n = 26 ∨ σ.2.2.1 n = 27) : lk F A σ U n = .inl σ := by
  unfold lk lkX
  generalize σ.2.2.1 n = K at h
  have p : ¬ K = 0 ∧ ¬ (K = 1 ∨ K = 2 ∨ K = 3) ∧ ¬ K = 4 ∧ ¬ K = 5 ∧ ¬ K = 6 ∧ ¬ K = 7 ∧ ¬ K = 9 ∧ ¬ K = 10 ∧ ¬ K = 23 ∧ ¬ K = 25 ∧ ¬ K = 28 ∧ ¬ K = 29 ∧ 23 ≤ K := by
    rcases h with h | h | h <;> rw [h] <;> decide
  have q : ¬ K = 30 ∧ ¬ K = 32 ∧ ¬ K = 33 ∧ ¬ K = 34 ∧ ¬ K = 35 ∧ ¬ K = 36 := by
    rcases h with h | h | h <;> rw [h] <;> decide
  obtain ⟨p1, p2, p3, p4, p5, p6, p7, p8, p9, p10, p11, p12, p13⟩ := p
  obtain ⟨q1, q2, q3, q4, q5, q6⟩ := q
  rw [if_neg p1, if_neg p2, if_neg p3, if_neg p4, if_neg p5, if_neg p6, if_neg p7, if_neg p8, if_neg p9, if_neg p10, if_neg p11, if_neg p12, if_pos p13, if_neg q1, if_neg q2, if_neg q3, if_neg q4, if_neg q5, if_neg q6]
theorem lkS_k {F : List ND} {A : List Nat} {σ : RS} {n : Nat} : (σ.2.2.1 n = 12 → lkS F A σ n = lkAsg F σ A n) ∧ (σ.2.2.1 n = 15 → lkS F A σ n = lkIf F σ n) ∧ (σ.2.2.1 n = 16 → lkS F A σ n = (if σ.2.2.2.2 (n + 1) = 0 then .inr 34 else .inl σ)) ∧ (σ.2.2.1 n = 18 → lkS F A σ n = lkRng F σ n) ∧ (σ.2.2.1 n = 19 → lkS F A σ n = lkFor σ A n) ∧ (σ.2.2.1 n = 20 → lkS F A σ n = (if A.any (for0 σ) = true then .inl σ else .inr 37)) := by
  refine ⟨fun h => ?_, fun h => ?_, fun h => ?_, fun h => ?_, fun h => ?_, fun h => ?_⟩
  · unfold lkS; rw [if_pos h]
  · unfold lkS; rw [h, if_neg (by decide), if_neg (by decide), if_neg (by decide), if_pos rfl]
  · unfold lkS; rw [h, if_neg (by decide), if_neg (by decide), if_neg (by decide), if_neg (by decide), if_pos rfl]
  · unfold lkS; rw [h, if_neg (by decide), if_neg (by decide), if_neg (by decide), if_neg (by decide), if_neg (by decide), if_pos rfl]
  · unfold lkS; rw [h, if_neg (by decide), if_neg (by decide), if_neg (by decide), if_neg (by decide), if_neg (by decide), if_neg (by decide), if_pos rfl]
  · unfold lkS; rw [h, if_neg (by decide), if_neg (by decide), if_neg (by decide), if_neg (by decide), if_neg (by decide), if_neg (by decide), if_neg (by decide), if_pos rfl]
theorem jk_12 (xs : List Int32) (d : Nat) {m0 : yM} {T : Nat} {J : JV} {N : Nat} {A : List Nat} {n : Nat} {s : SU} {m : yM} (h : CX m0 T J (N + 1) A n s m) (k : kK J.2.2.1 n = 12) : yC (xg xs) (d + 7) 340 [.ref 58, .int (nI (J.2.2.2 n)), .int (nI 12)] m (LKQ J A n s m (lk J.2.2.1 A s.1 s.2 n)) := by
  obtain ⟨hn, kn, vn, tn⟩ := h.n
  have ks : s.1.2.2.1 n = 12 := by rw [kn, k]; rfl
  refine h.k0 (by omega) (by omega) (Or.inr ⟨by unfold exK; omega, by omega⟩) ?_
  rw [lk_s (by rw [ks]; decide), lkS_k.1 ks]
  have ok := h.2.1.1.ok
  rw [k] at ok
  obtain ⟨-, a, b, ha, hb, eks⟩ := ok
  obtain ⟨m1, m2, m3, m4, m5⟩ := h.2.1.1.k2 eks
  have c1 : n + 1 ∈ kids J.2.2.1 n := by rw [m1]; exact List.mem_cons_self
  have c2 : n + 1 + szF J.2.2.1 (n + 1) ∈ kids J.2.2.1 n := by rw [m1]; exact List.mem_cons_of_mem _ List.mem_cons_self
  have nA : n ∈ A ++ [n] := List.mem_append_right _ List.mem_cons_self
  have d1 := h.kd c1 (fun _ => by omega) (by rw [m2]; omega)
  obtain ⟨v, v1, v2, v3⟩ := h.2.2.1.2.1 n nA (Or.inl k) d1.2.1 d1.2.2.1
  exact c340_12 xs (d + 4) h.1.2.2.1 h.2.2.2.1 h.at m1 (by rw [m2]; exact ha) (by rw [m3]; exact hb) d1 (h.kd c2 (fun _ => by omega) (by rw [m3]; unfold exK at hb; omega)) v1 v2 v3
theorem jk_13 (xs : List Int32) (d : Nat) {m0 : yM} {T : Nat} {J : JV} {N : Nat} {A : List Nat} {n : Nat} {s : SU} {m : yM} (h : CX m0 T J (N + 1) A n s m) (k : kK J.2.2.1 n = 13) : yC (xg xs) (d + 7) 340 [.ref 58, .int (nI (J.2.2.2 n)), .int (nI 13)] m (LKQ J A n s m (lk J.2.2.1 A s.1 s.2 n)) := by
  obtain ⟨hn, kn, vn, tn⟩ := h.n
  have ks : s.1.2.2.1 n = 13 := by rw [kn, k]; rfl
  refine h.k (by omega) (by omega) ?_
  rw [lk_s (by rw [ks]; decide), lkS_13 ks]
  exact c340_13 xs (d + 3) h.1.2.2.1 h.2.2.2.1 (h.b0 (by omega)) (h.ds (by omega)) (h.aD (by omega) (by omega) (by omega)) hn (h.2.1.1.nm (by omega)) vn k
theorem tile_app {F : List ND} {e x : Nat} {L2 : List Nat} : ∀ (L1 : List Nat) (i : Nat), tile F (L1 ++ x :: L2) i e → tile F L1 i x
  | [], i, h => h.1.symm
  | a :: L, i, h => ⟨h.1, tile_app L _ h.2⟩
theorem jk_14 (xs : List Int32) (d : Nat) {m0 : yM} {T : Nat} {J : JV} {N : Nat} {A : List Nat} {n : Nat} {s : SU} {m : yM} (h : CX m0 T J (N + 1) A n s m) (k : kK J.2.2.1 n = 14) : yC (xg xs) (d + 7) 340 [.ref 58, .int (nI (J.2.2.2 n)), .int (nI 14)] m (LKQ J A n s m (lk J.2.2.1 A s.1 s.2 n)) := by
  obtain ⟨hn, kn, vn, tn⟩ := h.n
  have hp := h.2.1
  have hF := h.1.1
  have ks : s.1.2.2.1 n = 14 := by rw [kn, k]; rfl
  obtain ⟨u1, u2, u3, u4, u5, u6, u7, u8, u9, M, B, eA, pB⟩ := h.up (by omega)
  rw [k] at u5
  have k13 := kidK14 _ u8 u5
  have ok := hp.1.ok
  rw [k] at ok
  obtain ⟨-, a, ha, eks⟩ := ok
  obtain ⟨m1, m2, m3, m4⟩ := hp.1.k1 eks
  have c1 : n + 1 ∈ kids J.2.2.1 n := by rw [m1]; exact List.mem_cons_self
  have d1 := h.kd c1 (fun _ => by omega) (by rw [m2]; unfold exK at ha; omega)
  obtain ⟨L1, L2, eL⟩ := List.append_of_mem u3
  have til := pB.1.til
  have t1 : tile J.2.2.1 L1 (fPar A + 1) n := by rw [eL] at til; exact tile_app L1 _ til
  have mL : ∀ i, i ∈ L1 → i ∈ kids J.2.2.1 (fPar A) := fun i hi => by rw [eL]; exact List.mem_append_left _ hi
  have nA : n ∈ A ++ [n] := List.mem_append_right _ List.mem_cons_self
  refine h.p (Or.inl k) (D' := fun i => DN J A n s i ∨ (i = n ∧ gdI s.1 (vF J.2.2.1 (fPar A)))) (fun j hj => hj.imp (fun z => z.1) (fun z => ⟨z.1, z.2.2 k⟩)) ?_
  rw [lk_s (by rw [ks]; decide), lkS_14 ks]
  refine c340_14 xs (d + 6) (c345 xs d h.1.2.2 h.2.2.2.1 (h.b0 (by omega)) (h.ds (by omega)) (h.2.2.1.1.pv hF).1 (h.aD (by omega) (by omega) (by omega)) rfl u2 m3 (fun z => z.2.2.1 nA) eL (t1.kds (fun c hc => (pB.1.kin (mL c hc)).2.2.2.2) (by omega)) (pB.1.nm (by omega)) u7 (hp.1.nm (by omega)) vn (fun i hi => ?_) m1 (by rw [m2]; exact ha) d1 k)
  have im := mL i hi
  have tm := tile.mem t1 i hi
  have z := pB.1.kin im
  have k14 : kK J.2.2.1 i = 14 := by
    have okp := pB.1.ok
    rw [k13] at okp
    exact pB.1.mk okp.2 im
  obtain ⟨Mi, hMi⟩ := hF.1 i z.2.2.2.1
  refine ⟨by omega, hMi.nm (by omega), fun v q1 q2 q3 => ?_⟩
  refine h.2.2.1.2.2.1 (fPar A) i (List.mem_append_left _ u1) k13 im (by have := hp.1.at; omega) (fun y => ?_) v q1 q2 q3
  rcases List.mem_append.mp y with y | y
  · have := hp.2.2 i y
    have := hp.1.at
    omega
  · have := List.mem_singleton.mp y
    omega
theorem CX.ks {m0 : yM} {T : Nat} {J : JV} {N : Nat} {A : List Nat} {n : Nat} {s : SU} {m : yM} (h : CX m0 T J N A n s m) {c : Nat} (hc : c < J.2.2.1.length) (k : ¬ (kK J.2.2.1 c = 34 ∨ kK J.2.2.1 c = 35 ∨ kK J.2.2.1 c = 36)) : s.1.2.2.1 c = nI (kK J.2.2.1 c) := by
  rcases h.2.2.1.1.1.2.1 c hc with y | ⟨y, z⟩
  · exact y
  · exact absurd z k
theorem jk_15 (xs : List Int32) (d : Nat) {m0 : yM} {T : Nat} {J : JV} {N : Nat} {A : List Nat} {n : Nat} {s : SU} {m : yM} (h : CX m0 T J (N + 1) A n s m) (k : kK J.2.2.1 n = 15) : yC (xg xs) (d + 7) 340 [.ref 58, .int (nI (J.2.2.2 n)), .int (nI 15)] m (LKQ J A n s m (lk J.2.2.1 A s.1 s.2 n)) := by
  obtain ⟨hn, kn, vn, tn⟩ := h.n
  have ks : s.1.2.2.1 n = 15 := by rw [kn, k]; rfl
  refine h.k0 (by omega) (by omega) (Or.inr ⟨by unfold exK; omega, by omega⟩) ?_
  rw [lk_s (by rw [ks]; decide), lkS_k.2.1 ks]
  refine c340_15 xs (d + 5) h.2.2.2.1 hn (fun j c hc => ?_)
  have hm := List.mem_of_getElem? hc
  have kc := h.2.1.1.kid hm
  have z := h.2.1.1.kin hm
  rw [k] at kc
  rcases List.mem_cons.mp kc with y | y
  · exact Or.inl ⟨y, by rw [h.ks z.2.2.2.1 (by omega), y]; rfl⟩
  · have ex : exK (kK J.2.2.1 c) := by
      have : ∀ x, x ∈ exL → exK x := by decide
      exact this _ y
    refine Or.inr ⟨ex, ?_, h.kd hm (fun _ => by omega) (by unfold exK at ex; omega)⟩
    intro w
    rcases h.2.2.1.1.1.2.1 c z.2.2.2.1 with q | ⟨q, -⟩
    · rw [q] at w
      have := (nI_eq (b := 11) (by have := h.1.1.2.1 c z.2.2.2.1; omega) (by omega)).mp w
      unfold exK at ex
      omega
    · rw [q] at w
      exact absurd w (by decide)
/-- the first node below -/
theorem TW.k0 {m0 : yM} {T : Nat} {F : List ND} {N n a : Nat} {l : List Nat} (h : TW m0 T F N n) (e : (kids F n).map (kK F) = a :: l) : (kids F n)[0]? = some (n + 1) ∧ n + 1 ∈ kids F n ∧ kK F (n + 1) = a := by
  cases hq : kids F n with
  | nil => rw [hq] at e; cases e
  | cons c L =>
    have e1 := h.kdN.1 c (by rw [hq]; rfl)
    subst e1
    rw [hq] at e
    exact ⟨rfl, List.mem_cons_self, (List.cons.inj e).1⟩
theorem jk_16 (xs : List Int32) (d : Nat) {m0 : yM} {T : Nat} {J : JV} {N : Nat} {A : List Nat} {n : Nat} {s : SU} {m : yM} (h : CX m0 T J (N + 1) A n s m) (k : kK J.2.2.1 n = 16) : yC (xg xs) (d + 7) 340 [.ref 58, .int (nI (J.2.2.2 n)), .int (nI 16)] m (LKQ J A n s m (lk J.2.2.1 A s.1 s.2 n)) := by
  obtain ⟨hn, kn, vn, tn⟩ := h.n
  have ks : s.1.2.2.1 n = 16 := by rw [kn, k]; rfl
  refine h.k0 (by omega) (by omega) (Or.inr ⟨by unfold exK; omega, by omega⟩) ?_
  rw [lk_s (by rw [ks]; decide), lkS_k.2.2.1 ks]
  have ok := h.2.1.1.ok
  rw [k] at ok
  obtain ⟨-, e, c, s', he, -, -, eks⟩ := ok
  obtain ⟨m1, m2, m3⟩ := h.2.1.1.k0 eks
  exact c340_16 xs (d + 5) h.2.2.2.1 hn m1 (by rw [m3]; exact he) (h.kd m2 (fun _ => by omega) (by rw [m3]; unfold exK at he; omega))
theorem jk_17 (xs : List Int32) (d : Nat) {m0 : yM} {T : Nat} {J : JV} {N : Nat} {A : List Nat} {n : Nat} {s : SU} {m : yM} (h : CX m0 T J N A n s m) {q : Nat} (hq : q = 17 ∨ q = 21) (k : kK J.2.2.1 n = q) : yC (xg xs) (d + 7) 340 [.ref 58, .int (nI (J.2.2.2 n)), .int (nI q)] m (LKQ J A n s m (lk J.2.2.1 A s.1 s.2 n)) := by
  obtain ⟨hn, kn, vn, tn⟩ := h.n
  refine h.k0 (by omega) (by omega) (Or.inr ⟨by unfold exK; omega, by omega⟩) ?_
  rw [lk_o1 (by rw [kn, k]; rcases hq with rfl | rfl <;> decide)]
  exact c340_o xs (d + 6) h.2.2.2.1 (by rcases hq with rfl | rfl <;> decide)
theorem jk_18 (xs : List Int32) (d : Nat) {m0 : yM} {T : Nat} {J : JV} {N : Nat} {A : List Nat} {n : Nat} {s : SU} {m : yM} (h : CX m0 T J (N + 1) A n s m) (k : kK J.2.2.1 n = 18) : yC (xg xs) (d + 7) 340 [.ref 58, .int (nI (J.2.2.2 n)), .int (nI 18)] m (LKQ J A n s m (lk J.2.2.1 A s.1 s.2 n)) := by
  obtain ⟨hn, kn, vn, tn⟩ := h.n
  have ks : s.1.2.2.1 n = 18 := by rw [kn, k]; rfl
  refine h.k0 (by omega) (by omega) (Or.inr ⟨by unfold exK; omega, by omega⟩) ?_
  rw [lk_s (by rw [ks]; decide), lkS_k.2.2.2.1 ks]
  have ok := h.2.1.1.ok
  rw [k] at ok
  obtain ⟨-, a, s', ha, hs, eks⟩ := ok
  obtain ⟨m1, m2, m3⟩ := h.2.1.1.k0 eks
  have z1 := h.2.1.1.kin m2
  have s1 : szF J.2.2.1 (n + 1) = 1 := by
    obtain ⟨M, hM⟩ := h.1.1.1 (n + 1) z1.2.2.2.1
    exact (hM.leaf (by rw [m3]; rcases ha with y | y <;> rw [y] <;> rfl)).1
  have cn := fun {i : Nat} (hi : i < J.2.2.1.length) (ki : cnK (kK J.2.2.1 i)) => CN_of (J := J) h.1.1.1 h.2.2.1.1.1 hi ki
  have fin : ∀ i, i < J.2.2.1.length → cnK (kK J.2.2.1 i) → i < J.2.2.1.length ∧ kK J.2.2.1 i < 37 ∧ s.1.2.2.1 i = nI (kK J.2.2.1 i) ∧ vtF J.2.2.1 i = 0 ∧ s.1.2.2.2.1 i = vF J.2.2.1 i := fun i hi ki => ⟨hi, h.1.1.2.1 i hi, (cn hi ki).2.2.1, (cn hi ki).2.2.2.1, (cn hi ki).2.2.2.2⟩
  have k1 : cnK (kK J.2.2.1 (n + 1)) := by rw [m3]; exact ha
  rcases hs with rfl | ⟨x, hx, rfl⟩
  · obtain ⟨q1, q2, q3, q4⟩ := h.2.1.1.k1 eks
    refine c340_18 xs (d + 5) h.2.2.2.1 hn m1 (l := n + 1) (by rw [q1]; rfl) (by omega) (fun i hi => ?_)
    have : i = n + 1 := by rcases hi with y | y <;> exact y
    rw [this]; exact fin _ q3 k1
  · obtain ⟨q1, q2, q3, q4, q5⟩ := h.2.1.1.k2 eks
    have z2 := h.2.1.1.kin (show n + 1 + szF J.2.2.1 (n + 1) ∈ kids J.2.2.1 n by rw [q1]; exact List.mem_cons_of_mem _ List.mem_cons_self)
    have s2 : szF J.2.2.1 (n + 1 + szF J.2.2.1 (n + 1)) = 1 := by
      obtain ⟨M, hM⟩ := h.1.1.1 _ q4
      exact (hM.leaf (by rw [q3]; rcases hx with y | y <;> rw [y] <;> rfl)).1
    have til := h.2.1.1.til
    rw [q1] at til
    have til : n + 1 + szF J.2.2.1 (n + 1) + szF J.2.2.1 (n + 1 + szF J.2.2.1 (n + 1)) = n + szF J.2.2.1 n := til.2.2
    refine c340_18 xs (d + 5) h.2.2.2.1 hn m1 (l := n + 1 + szF J.2.2.1 (n + 1)) (by rw [q1]; rfl) (by omega) (fun i hi => ?_)
    rcases hi with y | y
    · rw [y]; exact fin _ z1.2.2.2.1 k1
    · rw [y]; exact fin _ q4 (by rw [q3]; exact hx)
theorem FR_of {m0 : yM} {T : Nat} {J : JV} {N : Nat} {A : List Nat} {n : Nat} {s : SU} {m : yM} (h : CX m0 T J (N + 1) A n s m) (k : kK J.2.2.1 n = 19) : FR J s.1 n := by
  have ok := h.2.1.1.ok
  rw [k] at ok
  obtain ⟨-, a, b, s', ha, hb, hs, eks⟩ := ok
  have kd := h.2.1.1.kdN
  have cn := fun {i : Nat} (hi : i ∈ kids J.2.2.1 n) (ki : cnK (kK J.2.2.1 i)) => CN_of (J := J) h.1.1.1 h.2.2.1.1.1 (h.2.1.1.kin hi).2.2.2.1 ki
  have lf : ∀ {i : Nat}, i ∈ kids J.2.2.1 n → cnK (kK J.2.2.1 i) → szF J.2.2.1 i = 1 := by
    intro i hi ki
    obtain ⟨M, hM⟩ := h.1.1.1 i (h.2.1.1.kin hi).2.2.2.1
    exact (hM.leaf (by rcases ki with y | y <;> rw [y] <;> rfl)).1
  cases hq : kids J.2.2.1 n with
  | nil => rw [hq] at eks; cases eks
  | cons c1 L =>
    cases L with
    | nil => rw [hq] at eks; cases (List.cons.inj eks).2
    | cons c2 L =>
      have e1 := kd.1 c1 (by rw [hq]; rfl)
      have e2 := kd.2 0 c1 c2 (by rw [hq]; rfl) (by rw [hq]; rfl)
      have g1 : c1 ∈ kids J.2.2.1 n := by rw [hq]; exact List.mem_cons_self
      have g2 : c2 ∈ kids J.2.2.1 n := by rw [hq]; exact List.mem_cons_of_mem _ List.mem_cons_self
      rw [hq] at eks
      have f1 : kK J.2.2.1 c1 = a := (List.cons.inj eks).1
      have f2 : kK J.2.2.1 c2 = b := (List.cons.inj (List.cons.inj eks).2).1
      have f3 : L.map (kK J.2.2.1) = s' ++ [11] := (List.cons.inj (List.cons.inj eks).2).2
      have l1 := lf g1 (by rw [f1]; exact ha)
      have l2 := lf g2 (by rw [f2]; exact hb)
      have E2 : c2 = n + 2 := by omega
      subst e1
      subst E2
      refine ⟨cn g1 (by rw [f1]; exact ha), cn g2 (by rw [f2]; exact hb), ?_⟩
      rcases hs with rfl | ⟨x, hx, rfl⟩
      · cases L with
        | nil => cases f3
        | cons c3 L =>
          obtain ⟨f4, f5⟩ := List.cons.inj f3
          have : L = [] := by simpa using f5
          subst this
          have e3 := kd.2 1 (n + 2) c3 (by rw [hq]; rfl) (by rw [hq]; rfl)
          have E3 : c3 = n + 3 := by omega
          subst E3
          have g3 : n + 3 ∈ kids J.2.2.1 n := by rw [hq]; simp
          have z := h.2.1.1.kin g3
          exact Or.inl ⟨hq, by rw [h.ks z.2.2.2.1 (by omega), f4]; rfl, z.2.2.2.1⟩
      · cases L with
        | nil => cases f3
        | cons c3 L =>
          obtain ⟨f4, f5⟩ := List.cons.inj f3
          cases L with
          | nil => cases f5
          | cons c4 L =>
            obtain ⟨f6, f7⟩ := List.cons.inj f5
            have : L = [] := by simpa using f7
            subst this
            have e3 := kd.2 1 (n + 2) c3 (by rw [hq]; rfl) (by rw [hq]; rfl)
            have e4 := kd.2 2 c3 c4 (by rw [hq]; rfl) (by rw [hq]; rfl)
            have g3 : c3 ∈ kids J.2.2.1 n := by rw [hq]; simp
            have l3 := lf g3 (by rw [f4]; exact hx)
            have E3 : c3 = n + 3 := by omega
            subst E3
            have E4 : c4 = n + 4 := by omega
            subst E4
            have g4 : n + 4 ∈ kids J.2.2.1 n := by rw [hq]; simp
            have z := h.2.1.1.kin g4
            exact Or.inr ⟨hq, cn g3 (by rw [f4]; exact hx), z.2.2.2.1⟩
theorem jk_19 (xs : List Int32) (d : Nat) {m0 : yM} {T : Nat} {J : JV} {N : Nat} {A : List Nat} {n : Nat} {s : SU} {m : yM} (h : CX m0 T J (N + 1) A n s m) (k : kK J.2.2.1 n = 19) : yC (xg xs) (d + 7) 340 [.ref 58, .int (nI (J.2.2.2 n)), .int (nI 19)] m (LKQ J A n s m (lk J.2.2.1 A s.1 s.2 n)) := by
  obtain ⟨hn, kn, vn, tn⟩ := h.n
  have ks : s.1.2.2.1 n = 19 := by rw [kn, k]; rfl
  refine h.k (by omega) (by omega) ?_
  rw [lk_s (by rw [ks]; decide), lkS_k.2.2.2.2.1 ks]
  exact c340_19 xs (d + 2) h.1.2.2.1 h.2.2.2.1 (h.b0 (by omega)) (h.ds (by omega)) (h.aD (by omega) (by omega) (by omega)) h.at (FR_of h k) (h.2.1.1.nm (by omega)) vn k
theorem jk_20 (xs : List Int32) (d : Nat) {m0 : yM} {T : Nat} {J : JV} {N : Nat} {A : List Nat} {n : Nat} {s : SU} {m : yM} (h : CX m0 T J N A n s m) (k : kK J.2.2.1 n = 20) : yC (xg xs) (d + 7) 340 [.ref 58, .int (nI (J.2.2.2 n)), .int (nI 20)] m (LKQ J A n s m (lk J.2.2.1 A s.1 s.2 n)) := by
  obtain ⟨hn, kn, vn, tn⟩ := h.n
  have ks : s.1.2.2.1 n = 20 := by rw [kn, k]; rfl
  refine h.k0 (by omega) (by omega) (Or.inr ⟨by unfold exK; omega, by omega⟩) ?_
  rw [lk_s (by rw [ks]; decide), lkS_k.2.2.2.2.2 ks]
  exact c340_20 xs (d + 5) h.2.2.2.1 h.at
