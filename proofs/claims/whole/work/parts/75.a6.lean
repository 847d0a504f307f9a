/-! JUDGE: looks at rungs and expressions -/
theorem lk_23 {F : List ND} {A : List Nat} {σ : RS} {U : Nat → Bool} {n : Nat} : (σ.2.2.1 n = 23 → lk F A σ U n = lkRung F σ n) ∧ (σ.2.2.1 n = 25 → lk F A σ U n = (if σ.2.2.2.2 (n + 1) = 0 then .inl σ else .inr 41)) ∧ (σ.2.2.1 n = 28 → lk F A σ U n = lkCoil F σ A n) ∧ (σ.2.2.1 n = 29 → lk F A σ U n = lkLink F σ A) := by
  refine ⟨fun h => ?_, fun h => ?_, fun h => ?_, fun h => ?_⟩
  · unfold lk; rw [h, if_neg (by decide), if_neg (by decide), if_neg (by decide), if_neg (by decide), if_neg (by decide), if_neg (by decide), if_neg (by decide), if_neg (by decide), if_pos rfl]
  · unfold lk; rw [h, if_neg (by decide), if_neg (by decide), if_neg (by decide), if_neg (by decide), if_neg (by decide), if_neg (by decide), if_neg (by decide), if_neg (by decide), if_neg (by decide), if_pos rfl]
  · unfold lk; rw [h, if_neg (by decide), if_neg (by decide), if_neg (by decide), if_neg (by decide), if_neg (by decide), if_neg (by decide), if_neg (by decide), if_neg (by decide), if_neg (by decide), if_neg (by decide), if_pos rfl]
  · unfold lk; rw [h, if_neg (by decide), if_neg (by decide), if_neg (by decide), if_neg (by decide), if_neg (by decide), if_neg (by decide), if_neg (by decide), if_neg (by decide), if_neg (by decide), if_neg (by decide), if_neg (by decide), if_pos rfl]
theorem c352_22 (xs : List Int32) (d : Nat) {J : JV} {D : Nat → Prop} {σ : RS} {m : yM} (h : RJ J D σ m) {n : Nat} : yC (xg xs) (d + 1) 352 [.ref 58, .int (nI (J.2.2.2 n)), .int (nI 22)] m (JQ J D m n (.inl σ)) := w352_0 xs d _ _ m _ ⟨fun _ => ⟨fun _ => ⟨fun _ => ⟨fun _ => ⟨rfl, JK.re m, h⟩, fun w => absurd w (by decide)⟩, fun w => absurd w (by decide)⟩, fun w => absurd w (by decide)⟩, fun w => absurd w (by decide)⟩
theorem jk_22 (xs : List Int32) (d : Nat) {m0 : yM} {T : Nat} {J : JV} {N : Nat} {A : List Nat} {n : Nat} {s : SU} {m : yM} (h : CX m0 T J N A n s m) (k : kK J.2.2.1 n = 22) : yC (xg xs) (d + 7) 352 [.ref 58, .int (nI (J.2.2.2 n)), .int (nI 22)] m (LKQ J A n s m (lk J.2.2.1 A s.1 s.2 n)) := by
  obtain ⟨hn, kn, vn, tn⟩ := h.n
  refine h.k0 (by omega) (by omega) (Or.inr ⟨by unfold exK; omega, by omega⟩) ?_
  rw [lk_o1 (by rw [kn, k]; decide)]
  exact c352_22 xs (d + 6) h.2.2.2.1
theorem jk_24 (xs : List Int32) (d : Nat) {m0 : yM} {T : Nat} {J : JV} {N : Nat} {A : List Nat} {n : Nat} {s : SU} {m : yM} (h : CX m0 T J N A n s m) {q : Nat} (hq : q = 24 ∨ q = 26 ∨ q = 27) (k : kK J.2.2.1 n = q) : yC (xg xs) (d + 7) 352 [.ref 58, .int (nI (J.2.2.2 n)), .int (nI q)] m (LKQ J A n s m (lk J.2.2.1 A s.1 s.2 n)) := by
  obtain ⟨hn, kn, vn, tn⟩ := h.n
  refine h.k0 (by omega) (by omega) (Or.inr ⟨by unfold exK; omega, by omega⟩) ?_
  rw [lk_o2 (by rw [kn, k]; rcases hq with rfl | rfl | rfl <;> decide)]
  exact c352_o xs (d + 6) h.2.2.2.1 (by rcases hq with rfl | rfl | rfl <;> decide)
theorem jk_23 (xs : List Int32) (d : Nat) {m0 : yM} {T : Nat} {J : JV} {N : Nat} {A : List Nat} {n : Nat} {s : SU} {m : yM} (h : CX m0 T J (N + 1) A n s m) (k : kK J.2.2.1 n = 23) : yC (xg xs) (d + 7) 352 [.ref 58, .int (nI (J.2.2.2 n)), .int (nI 23)] m (LKQ J A n s m (lk J.2.2.1 A s.1 s.2 n)) := by
  obtain ⟨hn, kn, vn, tn⟩ := h.n
  refine h.k0 (by omega) (by omega) (Or.inr ⟨by unfold exK; omega, by omega⟩) ?_
  rw [lk_23.1 (by rw [kn, k]; rfl)]
  have ok := h.2.1.1.ok
  rw [k] at ok
  obtain ⟨-, o2, o3⟩ := ok
  have at' := h.2.1.1.at
  have hf := h.1.1.2.2.2.1
  refine c352_23 xs (d + 4) h.2.2.2.1 hn (by omega) (fun z => o2 (by rw [z]; rfl)) (fun r hr i hi => ?_)
  have kr : kK J.2.2.1 r = 24 := h.2.1.1.mk o3 hr
  obtain ⟨M, hM⟩ := h.1.1.1 r (h.2.1.1.kin hr).2.2.2.1
  have ki := hM.kid hi
  rw [kr] at ki
  have : ∀ x, x ∈ kidK 24 → ¬ (x = 34 ∨ x = 35 ∨ x = 36) := by decide
  exact h.ks (hM.kin hi).2.2.2.1 (this _ ki)
theorem jk_25 (xs : List Int32) (d : Nat) {m0 : yM} {T : Nat} {J : JV} {N : Nat} {A : List Nat} {n : Nat} {s : SU} {m : yM} (h : CX m0 T J (N + 1) A n s m) (k : kK J.2.2.1 n = 25) : yC (xg xs) (d + 7) 352 [.ref 58, .int (nI (J.2.2.2 n)), .int (nI 25)] m (LKQ J A n s m (lk J.2.2.1 A s.1 s.2 n)) := by
  obtain ⟨hn, kn, vn, tn⟩ := h.n
  refine h.k0 (by omega) (by omega) (Or.inr ⟨by unfold exK; omega, by omega⟩) ?_
  rw [lk_23.2.1 (by rw [kn, k]; rfl)]
  have ok := h.2.1.1.ok
  rw [k] at ok
  have eks : ∃ a, (kids J.2.2.1 n).map (kK J.2.2.1) = [a] ∧ (a = 6 ∨ a = 33) := by
    rcases ok.2.2 with y | y
    · exact ⟨6, y, Or.inl rfl⟩
    · exact ⟨33, y, Or.inr rfl⟩
  obtain ⟨a, eks, ha⟩ := eks
  obtain ⟨m1, m2, m3⟩ := h.2.1.1.k0 eks
  exact c352_25 xs (d + 5) h.2.2.2.1 hn m1 (by rw [m3]; unfold exK; omega) (h.kd m2 (fun _ => by omega) (by omega))
theorem jk_28 (xs : List Int32) (d : Nat) {m0 : yM} {T : Nat} {J : JV} {N : Nat} {A : List Nat} {n : Nat} {s : SU} {m : yM} (h : CX m0 T J (N + 1) A n s m) (k : kK J.2.2.1 n = 28) : yC (xg xs) (d + 7) 352 [.ref 58, .int (nI (J.2.2.2 n)), .int (nI 28)] m (LKQ J A n s m (lk J.2.2.1 A s.1 s.2 n)) := by
  obtain ⟨hn, kn, vn, tn⟩ := h.n
  refine h.k0 (by omega) (by omega) (Or.inr ⟨by unfold exK; omega, by omega⟩) ?_
  rw [lk_23.2.2.1 (by rw [kn, k]; rfl)]
  have ok := h.2.1.1.ok
  rw [k] at ok
  obtain ⟨m1, m2, m3⟩ := h.2.1.1.k0 ok.2.2
  have nA : n ∈ A ++ [n] := List.mem_append_right _ List.mem_cons_self
  have d1 := h.kd m2 (fun _ => by omega) (by omega)
  obtain ⟨v, v1, v2, v3⟩ := h.2.2.1.2.1 n nA (Or.inr k) d1.2.1 d1.2.2.1
  obtain ⟨u1, u2, u3, u4, u5, u6, u7, u8, u9, M, B, eA, pB⟩ := h.up (by omega)
  exact c352_28 xs (d + 4) h.1.2.2.1 h.2.2.2.1 h.at m1 m3 d1 (CX.la h.2.2.2.1.1 u2 pB.1 u3) v1 v2 v3
theorem jk_29 (xs : List Int32) (d : Nat) {m0 : yM} {T : Nat} {J : JV} {N : Nat} {A : List Nat} {n : Nat} {s : SU} {m : yM} (h : CX m0 T J (N + 1) A n s m) (k : kK J.2.2.1 n = 29) : yC (xg xs) (d + 7) 352 [.ref 58, .int (nI (J.2.2.2 n)), .int (nI 29)] m (LKQ J A n s m (lk J.2.2.1 A s.1 s.2 n)) := by
  obtain ⟨hn, kn, vn, tn⟩ := h.n
  refine h.k0 (by omega) (by omega) (Or.inr ⟨by unfold exK; omega, by omega⟩) ?_
  rw [lk_23.2.2.2 (by rw [kn, k]; rfl)]
  obtain ⟨u1, u2, u3, u4, u5, u6, u7, u8, u9, M, B, eA, pB⟩ := h.up (by omega)
  rw [k] at u5
  have k24 : ∀ x, x < 37 → 29 ∈ kidK x → x = 24 := by decide
  have k24 := k24 _ u8 u5
  rcases pB.up with ⟨y1, y2⟩ | ⟨C, q, M', e1, e2, e3, e4, e5⟩
  · rw [y2, h.1.1.2.2.1] at k24; omega
  · have f2 : fPar2 A = q := by
      rw [eA, e1]
      unfold fPar2
      rw [if_pos (by simp)]
      simp
    refine c352_29 xs (d + 5) h.2.2.2.1 hn u2 u4 ?_
    rw [f2]
    exact CX.la h.2.2.2.1.1 e5.lt.1 e5.1 e3
theorem jk_30 (xs : List Int32) (d : Nat) {m0 : yM} {T : Nat} {J : JV} {N : Nat} {A : List Nat} {n : Nat} {s : SU} {m : yM} (h : CX m0 T J N A n s m) (k : kK J.2.2.1 n = 30) : yC (xg xs) (d + 7) 354 [.ref 58, .int (nI (J.2.2.2 n)), .int (nI 30)] m (LKQ J A n s m (lk J.2.2.1 A s.1 s.2 n)) := by
  obtain ⟨hn, kn, vn, tn⟩ := h.n
  have ks : s.1.2.2.1 n = 30 := by rw [kn, k]; rfl
  refine h.k (by omega) (by omega) ?_
  rw [lk_x (by rw [ks]; decide), lkX_30 ks]
  have ok := h.2.1.1.ok
  rw [k] at ok
  exact c354_30 xs (d + 5) h.2.2.2.1 hn k ks ok.1 vn
theorem jk_31 (xs : List Int32) (d : Nat) {m0 : yM} {T : Nat} {J : JV} {N : Nat} {A : List Nat} {n : Nat} {s : SU} {m : yM} (h : CX m0 T J N A n s m) (k : kK J.2.2.1 n = 31) : yC (xg xs) (d + 7) 354 [.ref 58, .int (nI (J.2.2.2 n)), .int (nI 31)] m (LKQ J A n s m (lk J.2.2.1 A s.1 s.2 n)) := by
  obtain ⟨hn, kn, vn, tn⟩ := h.n
  have ks : s.1.2.2.1 n = 31 := by rw [kn, k]; rfl
  refine h.k (by omega) (by omega) ?_
  rw [lk_x (by rw [ks]; decide), lkX_31 ks]
  have ok := h.2.1.1.ok
  rw [k] at ok
  exact c354_31 xs (d + 5) h.2.2.2.1 hn k ks ok.1 vn tn
theorem jk_32 (xs : List Int32) (d : Nat) {m0 : yM} {T : Nat} {J : JV} {N : Nat} {A : List Nat} {n : Nat} {s : SU} {m : yM} (h : CX m0 T J (N + 1) A n s m) (k : kK J.2.2.1 n = 32) : yC (xg xs) (d + 7) 354 [.ref 58, .int (nI (J.2.2.2 n)), .int (nI 32)] m (LKQ J A n s m (lk J.2.2.1 A s.1 s.2 n)) := by
  obtain ⟨hn, kn, vn, tn⟩ := h.n
  have ks : s.1.2.2.1 n = 32 := by rw [kn, k]; rfl
  refine h.k (by omega) (by omega) ?_
  rw [lk_x (by rw [ks]; decide), lkX_32 ks]
  have ok := h.2.1.1.ok
  rw [k] at ok
  obtain ⟨-, a, ha, eks⟩ := ok
  obtain ⟨m1, m2, m3, m4⟩ := h.2.1.1.k1 eks
  have c1 : n + 1 ∈ kids J.2.2.1 n := by rw [m1]; exact List.mem_cons_self
  exact c354_32 xs (d + 3) h.1.2.2.1 h.2.2.2.1 (h.b0 (by omega)) (h.ds (by omega)) (h.aD (by omega) (by omega) (by omega)) hn m1 (by rw [m2]; exact ha) (h.kd c1 (fun _ => by omega) (by rw [m2]; unfold exK at ha; omega)) k ks (h.2.1.1.nm (by omega)) vn
theorem jk_33 (xs : List Int32) (d : Nat) {m0 : yM} {T : Nat} {J : JV} {N : Nat} {A : List Nat} {n : Nat} {s : SU} {m : yM} (h : CX m0 T J (N + 1) A n s m) (k : kK J.2.2.1 n = 33) : yC (xg xs) (d + 7) 354 [.ref 58, .int (nI (J.2.2.2 n)), .int (nI 33)] m (LKQ J A n s m (lk J.2.2.1 A s.1 s.2 n)) := by
  obtain ⟨hn, kn, vn, tn⟩ := h.n
  have ks : s.1.2.2.1 n = 33 := by rw [kn, k]; rfl
  have ok := h.2.1.1.ok
  rw [k] at ok
  obtain ⟨m1, m2, m3, m4⟩ := h.2.1.1.k1 ok.2
  have nA : n ∈ A ++ [n] := List.mem_append_right _ List.mem_cons_self
  refine h.p (Or.inr k) (D' := fun i => DN J A n s i ∨ i = n) (fun j hj => hj.imp (fun z => z.1) (fun z => z.1)) ?_
  rw [lk_x (by rw [ks]; decide), lkX_33 ks]
  obtain ⟨M, hM⟩ := h.1.1.1 (n + 1) m3
  -- the name below stays as it was read
  have c1 : n + 1 ∈ kids J.2.2.1 n := by rw [m1]; exact List.mem_cons_self
  have v1 : s.1.2.2.2.1 (n + 1) = vF J.2.2.1 (n + 1) := h.2.2.1.2.2.2 (n + 1) m3 ⟨m2, n, hn, c1, Or.inr k⟩
  exact c354_33 xs d h.1.2.2 h.2.2.2.1 (h.b0 (by omega)) (h.ds (by omega)) (h.2.2.1.1.pv h.1.1).1 (h.aD (by omega) (by omega) (by omega)) hn m3 (fun z => z.2.2.1 nA) m1 k ks (h.2.1.1.nm (by omega)) vn (hM.nm (by omega)) v1
theorem jk_34 (xs : List Int32) (d : Nat) {m0 : yM} {T : Nat} {J : JV} {N : Nat} {A : List Nat} {n : Nat} {s : SU} {m : yM} (h : CX m0 T J (N + 1) A n s m) (k : kK J.2.2.1 n = 34) : yC (xg xs) (d + 7) 354 [.ref 58, .int (nI (J.2.2.2 n)), .int (nI 34)] m (LKQ J A n s m (lk J.2.2.1 A s.1 s.2 n)) := by
  obtain ⟨hn, kn, vn, tn⟩ := h.n
  have ks : s.1.2.2.1 n = 34 := by rw [kn, k]; rfl
  refine h.k (by omega) (by omega) ?_
  rw [lk_x (by rw [ks]; decide), lkX_34 ks]
  have ok := h.2.1.1.ok
  rw [k] at ok
  have at' := h.2.1.1.at
  have hf := h.1.1.2.2.2.1
  have pv := h.2.2.1.1.pv h.1.1
  refine c354_34 xs d h.1.2.2 h.2.2.2.1 (h.b0 (by omega)) h.2.2.1.1.2.1.2.2.1 pv.1 pv.2.1 (h.aD (by omega) (by omega) (by omega)) hn h.2.1.1.kdN (fun i hi => ?_) k ks (h.2.1.1.nm (by omega)) vn (by omega) h.2.2.1.1.2.1.2.2.2.2.1
  have ex : exK (kK J.2.2.1 i) := h.2.1.1.mk ok.2 hi
  have z := h.2.1.1.kin hi
  exact ⟨h.kd hi (fun _ => by omega) (by unfold exK at ex; omega), ex, h.2.2.1.1.2.2.2.2.2.2.2.2.2.2.1 i z.2.2.2.1 ex, z.1⟩
theorem jk_35 (xs : List Int32) (d : Nat) {m0 : yM} {T : Nat} {J : JV} {N : Nat} {A : List Nat} {n : Nat} {s : SU} {m : yM} (h : CX m0 T J (N + 1) A n s m) (k : kK J.2.2.1 n = 35) : yC (xg xs) (d + 7) 354 [.ref 58, .int (nI (J.2.2.2 n)), .int (nI 35)] m (LKQ J A n s m (lk J.2.2.1 A s.1 s.2 n)) := by
  obtain ⟨hn, kn, vn, tn⟩ := h.n
  have ks : s.1.2.2.1 n = 35 := by rw [kn, k]; rfl
  refine h.k (by omega) (by omega) ?_
  rw [lk_x (by rw [ks]; decide), lkX_35 ks]
  have ok := h.2.1.1.ok
  rw [k] at ok
  obtain ⟨o1, ⟨j, j1, j2⟩, a, b, ha, hb, eks⟩ := ok
  obtain ⟨m1, m2, m3, m4, m5⟩ := h.2.1.1.k2 eks
  have c1 : n + 1 ∈ kids J.2.2.1 n := by rw [m1]; exact List.mem_cons_self
  have c2 : n + 1 + szF J.2.2.1 (n + 1) ∈ kids J.2.2.1 n := by rw [m1]; exact List.mem_cons_of_mem _ List.mem_cons_self
  have e1 : exK (kK J.2.2.1 (n + 1)) := by rw [m2]; exact ha
  have e2 : exK (kK J.2.2.1 (n + 1 + szF J.2.2.1 (n + 1))) := by rw [m3]; exact hb
  have h10 := h.2.2.1.1.2.2.2.2.2.2.2.2.2.2.1
  exact c354_35 xs (d + 3) h.2.2.2.1 hn m1 e1 e2 (h.kd c1 (fun _ => by omega) (by unfold exK at e1; omega)) (h.kd c2 (fun _ => by omega) (by unfold exK at e2; omega)) k ks o1 vn j1 (by rw [vn]; exact j2) (h10 _ (h.2.1.1.kin c1).2.2.2.1 e1) (h10 _ m4 e2) m5
theorem jk_36 (xs : List Int32) (d : Nat) {m0 : yM} {T : Nat} {J : JV} {N : Nat} {A : List Nat} {n : Nat} {s : SU} {m : yM} (h : CX m0 T J (N + 1) A n s m) (k : kK J.2.2.1 n = 36) : yC (xg xs) (d + 7) 354 [.ref 58, .int (nI (J.2.2.2 n)), .int (nI 36)] m (LKQ J A n s m (lk J.2.2.1 A s.1 s.2 n)) := by
  obtain ⟨hn, kn, vn, tn⟩ := h.n
  have ks : s.1.2.2.1 n = 36 := by rw [kn, k]; rfl
  refine h.k (by omega) (by omega) ?_
  rw [lk_x (by rw [ks]; decide), lkX_36 ks]
  have ok := h.2.1.1.ok
  rw [k] at ok
  obtain ⟨o1, -, a, ha, eks⟩ := ok
  obtain ⟨m1, m2, m3, m4⟩ := h.2.1.1.k1 eks
  have c1 : n + 1 ∈ kids J.2.2.1 n := by rw [m1]; exact List.mem_cons_self
  have e1 : exK (kK J.2.2.1 (n + 1)) := by rw [m2]; exact ha
  exact c354_36 xs (d + 4) h.2.2.2.1 hn m1 e1 (h.kd c1 (fun _ => by omega) (by unfold exK at e1; omega)) k ks o1 vn
