/-! THE REFERENCE'S WRITER: rungs, contacts, coils, groups -/
def UBR (J : JV) (s : SU) (b : Nat) (pw : Int32) (m : yM) : Prop := RW J s m ∧ b < s.1.1.length ∧ m.1 58 54 = nI b ∧ pw = (s.1.1.getD b dBK).2.2.2.1 - 156
theorem UBR.kf {J : JV} {s : SU} {b : Nat} {pw : Int32} {m m' : yM} (h : UBR J s b pw m) (k : KF m m') : UBR J s b pw m' := ⟨h.1.kf k, h.2.1, by rw [k.2.1 54 (by omega) (by omega)]; exact h.2.2.1, h.2.2.2⟩
def hkR (J : JV) (n : Nat) : Prop := n < J.2.2.1.length ∧ (∀ r, r ∈ kids J.2.2.1 n → r < J.2.2.1.length ∧ (kids J.2.2.1 r).length ≤ 16400) ∧ (kids J.2.2.1 n).length ≤ 12
theorem c384 (xs : List Int32) (d : Nat) {J : JV} {s : SU} {b : Nat} {pw : Int32} {m : yM} (h : UBR J s b pw m) {n : Nat} (hk : hkR J n) {row l : Nat} (hr : row < (kids J.2.2.1 n).length) (hl : l ≤ 12) : yC (xg xs) (d + 3) 384 [.ref 58, .int (nI (J.2.2.2 n)), .int (nI row), .int (nI l)] m (fun v m' => v = some (.int (pwO J.2.2.1 (kids J.2.2.1 n) pw row l)) ∧ m' = m) := by
  obtain ⟨h1, h2, h3, h4⟩ := h
  obtain ⟨k1, k2, k3⟩ := hk
  have nB := h1.b.1.2.1
  refine w384_0 xs (d + 2) _ _ _ m _ ?_
  rw [h3, nI_clamp (by omega), (h1.b.b h2).2.2.2.1, ← h4]
  exact ⟨x_in_nI (by omega) (by decide), y_ci (c380 xs d h1.t k1 k2 hl row hr (by omega)) (by omega) ⟨rfl, rfl⟩⟩
theorem c383 (xs : List Int32) (d : Nat) {J : JV} {s : SU} {b : Nat} {pw : Int32} {C : List IT} {m : yM} (h : UBR J s b pw m) (ho : RO J C m) {n : Nat} (hk : hkR J n) {row c : Nat} (hr : row < (kids J.2.2.1 n).length) (hc : c < 12) : yC (xg xs) (d + 4) 383 [.ref 58, .int (nI (J.2.2.2 n)), .int (nI row), .int (nI c)] m (fun r m' => r = none ∧ RO J (C ++ [fdC J.2.2.1 (kids J.2.2.1 n) pw row (c + 1)]) m' ∧ KF m m') := by
  have i0 : nI c = 0 ↔ c = 0 := nI_eq (b := 0) (by omega) (by omega)
  refine w383_0 xs (d + 3) _ _ _ m _ ⟨fun z => y_ci (c384 xs d h hk hr (by omega)) (by omega) (c369k xs d (by omega) ho (fun m1 o1 e1 => ⟨rfl, ?_, e1⟩)), fun z => c369k xs d (by omega) ho (fun m1 o1 e1 => ⟨rfl, ?_, e1⟩)⟩
  · unfold fdC
    rw [if_neg (fun w => z (i0.mpr (by omega))), Nat.add_sub_cancel]
    exact o1
  · unfold fdC
    rw [if_pos (by have := i0.mp z; omega)]
    exact o1
/-- an operand of a contact or coil -/
theorem c372o (xs : List Int32) (d : Nat) {m0 : yM} {T : Nat} {J : JV} {s : SU} (hY : HY m0 T J.2.2.1 s) {c : Nat} (hw : wE J.2.2.1 c) (k : kK J.2.2.1 c = 6 ∨ kK J.2.2.1 c = 33) {C : List IT} {m : yM} (h : RW J s m) (ho : RO J C m) : yC (xg xs) (d + 377) 372 [.ref 58, .int (nI (J.2.2.2 c))] m (fun r m' => r = none ∧ RO J (C ++ [j1 1 (opC s.1 c)]) m' ∧ KF m m') := by
  have := c372 xs d hY 187 c (HZ.w hY.1 hw.1) hw C m h ho
  have kn : s.1.2.2.1 c = nI (kK J.2.2.1 c) := by
    rcases hY.1.1.ks hw.1 with y | ⟨y, w⟩
    · exact y
    · omega
  have e : cE J.2.2.1 s.1 187 c = [j1 1 (opC s.1 c)] := by
    show (if s.1.2.2.1 c = 6 then _ else if s.1.2.2.1 c = 33 then _ else _) = _
    unfold opC
    rcases k with y | y
    · have k6 : s.1.2.2.1 c = 6 := by rw [kn, y]; rfl
      rw [if_pos k6, if_pos k6]
    · have k33 : s.1.2.2.1 c = 33 := by rw [kn, y]; rfl
      rw [if_neg (by rw [k33]; decide), if_pos k33, if_neg (by rw [k33]; decide)]
  rw [e] at this
  exact this
/-- a contact's or coil's node -/
def ccK (m0 : yM) (T : Nat) (J : JV) (s : SU) (n : Nat) : Prop := n < J.2.2.1.length ∧ (kids J.2.2.1 n)[0]? = some (n + 1) ∧ wE J.2.2.1 (n + 1) ∧ (kK J.2.2.1 (n + 1) = 6 ∨ (kK J.2.2.1 n = 25 ∧ kK J.2.2.1 (n + 1) = 33)) ∧ vtF J.2.2.1 n = 0 ∧ s.1.2.2.2.1 n = vF J.2.2.1 n ∧ (vF J.2.2.1 n = 0 ∨ vF J.2.2.1 n = 1 ∨ vF J.2.2.1 n = 2 ∨ vF J.2.2.1 n = 3)
theorem ccK_of {m0 : yM} {T : Nat} {J : JV} {s : SU} (hS : HS m0 T J.2.2.1 s) {n : Nat} (hn : n < J.2.2.1.length) (k : kK J.2.2.1 n = 25 ∨ kK J.2.2.1 n = 28) : ccK m0 T J s n := by
  obtain ⟨M, hM⟩ := hS.1.1 n hn
  have ok := hM.ok
  have nch : ¬ chv (kK J.2.2.1 n) := by rcases k with y | y <;> rw [y] <;> decide
  have vv := hS.2.2.1.1.1.2.2.1 n hn nch
  have go : ∀ a, (kids J.2.2.1 n).map (kK J.2.2.1) = [a] → (a = 6 ∨ (kK J.2.2.1 n = 25 ∧ a = 33)) → vtF J.2.2.1 n = 0 → (vF J.2.2.1 n = 0 ∨ vF J.2.2.1 n = 1 ∨ vF J.2.2.1 n = 2 ∨ vF J.2.2.1 n = 3) → ccK m0 T J s n := by
    intro a eks ha vt vr
    obtain ⟨q1, q2, q3, q4⟩ := hM.k1 eks
    have m1 : n + 1 ∈ kids J.2.2.1 n := by rw [q1]; exact List.mem_cons_self
    exact ⟨hn, by rw [q1]; rfl, hS.kid hM hn m1 (by omega) (by rw [q2]; unfold exK; omega), by rw [q2]; exact ha, vt, vv, vr⟩
  rcases k with y | y
  · rw [y] at ok
    obtain ⟨o1, o2, o3⟩ := ok
    rcases o3 with w | w
    · exact go 6 w (Or.inl rfl) o1 o2
    · exact go 33 w (Or.inr ⟨y, rfl⟩) o1 o2
  · rw [y] at ok
    obtain ⟨o1, o2, o3⟩ := ok
    exact go 6 o3 (Or.inl rfl) o1 o2
theorem c385 (xs : List Int32) (d : Nat) {m0 : yM} {T : Nat} {J : JV} {s : SU} (hY : HY m0 T J.2.2.1 s) {n : Nat} (hc : ccK m0 T J s n) (k : kK J.2.2.1 n = 25) {C : List IT} {m : yM} (h : RW J s m) (ho : RO J C m) : yC (xg xs) (d + 378) 385 [.ref 58, .int (nI (J.2.2.2 n))] m (fun r m' => r = none ∧ RO J (C ++ cnC s.1 n) m' ∧ KF m m') := by
  obtain ⟨hn, k0, hw, hk, vt, vv, vr⟩ := hc
  have x0 := h.t.x hn
  have c0 := h.t.c hn
  have hk' : kK J.2.2.1 (n + 1) = 6 ∨ kK J.2.2.1 (n + 1) = 33 := by omega
  have l66 : m.1 66 (J.2.2.2 n) = nI (J.2.2.2 (n + 1)) := by rw [(h.t.2.1 n hn).2.2.2.2.2.1, k0]; rfl
  have e64 : ∀ m1, KF m m1 → m1.1 64 (J.2.2.2 n) = vF J.2.2.1 n := fun m1 e1 => ((h.kf e1).t.2.1 n hn).2.2.2.1 vt
  have e86 : ¬ vF J.2.2.1 n ≤ 1 → ∀ m1, KF m m1 → m1.1 86 (J.2.2.2 n) = s.1.2.2.2.2 n := fun hv m1 e1 => (h.kf e1).o hn (Or.inr (Or.inr ⟨k, hv⟩))
  have op : ∀ (C1 : List IT) (m1 : yM), RO J C1 m1 → KF m m1 → yC (xg xs) (d + 377) 372 [.ref 58, .int (nI (J.2.2.2 (n + 1)))] m1 (fun r m' => r = none ∧ RO J (C1 ++ [j1 1 (opC s.1 (n + 1))]) m' ∧ KF m1 m') := fun C1 m1 o1 e1 => c372o xs d hY hw hk' (h.kf e1) o1
  unfold cnC
  rw [vv]
  -- the end
  have s131 : ∀ (C1 : List IT) (m1 : yM), RO J C1 m1 → KF m m1 → yP (xg xs) (d + 378) 385 131 [(0, .ref 58), (1, .int (nI (J.2.2.2 n))), (3, .int (nI (J.2.2.2 (n + 1))))] [] m1 (fun r m' => r = none ∧ RO J (C1 ++ ([j1 7 10] ++ (if vF J.2.2.1 n < 2 then [] else [j1 1 (opC s.1 (n + 1)), j1 2 (s.1.2.2.2.2 n)]))) m' ∧ KF m m') := by
    intro C1 m1 o1 e1
    refine w385_131 xs (d + 377) _ _ m1 _ (c369k xs d (by omega) o1 (fun m2 o2 e2 => ⟨x0, ?_⟩))
    have e12 := e1.tr e2
    rw [c0, e64 m2 e12]
    refine ⟨fun z => ⟨rfl, ?_, e12⟩, fun z => ?_⟩
    · have : vF J.2.2.1 n < 2 := by
        rcases vr with y | y | y | y <;> rw [y] at z ⊢ <;> first | decide | exact absurd z (by decide)
      rw [if_pos this, List.append_nil]
      exact o2
    · have : ¬ vF J.2.2.1 n < 2 := by
        rcases vr with y | y | y | y <;> rw [y] at z ⊢ <;> first | decide | exact absurd (by decide) z
      rw [if_neg this]
      refine yC.mono (Nat.le_refl _) (fun r m3 q => ⟨q.1, x0, ?_⟩) (op _ m2 o2 e12)
      have e13 := e12.tr q.2.2
      rw [e86 z m3 e13]
      refine c369k xs d (by omega) q.2.1 (fun m4 o4 e4 => ⟨rfl, ?_, e13.tr e4⟩)
      simpa only [List.append_assoc, List.cons_append, List.nil_append] using o4
  have s110 : ∀ (C1 : List IT) (m1 : yM), RO J C1 m1 → KF m m1 → yP (xg xs) (d + 378) 385 110 [(0, .ref 58), (1, .int (nI (J.2.2.2 n))), (3, .int (nI (J.2.2.2 (n + 1))))] [] m1 (fun r m' => r = none ∧ RO J (C1 ++ ([j1 7 10] ++ (if vF J.2.2.1 n < 2 then [] else [j1 7 10, j1 1 (opC s.1 (n + 1)), j1 2 (s.1.2.2.2.2 n)]))) m' ∧ KF m m') := by
    intro C1 m1 o1 e1
    refine w385_110 xs (d + 377) _ _ m1 _ ⟨x0, ?_⟩
    rw [c0, e64 m1 e1]
    refine ⟨fun z => ?_, fun z => ?_⟩
    · have : vF J.2.2.1 n < 2 := by
        rcases vr with y | y | y | y <;> rw [y] at z ⊢ <;> first | decide | exact absurd z (by decide)
      have q := s131 C1 m1 o1 e1
      rw [if_pos this] at q ⊢
      exact q
    · have : ¬ vF J.2.2.1 n < 2 := by
        rcases vr with y | y | y | y <;> rw [y] at z ⊢ <;> first | decide | exact absurd (by decide) z
      refine c369k xs d (by omega) o1 (fun m2 o2 e2 => ?_)
      have q := s131 _ m2 o2 (e1.tr e2)
      rw [if_neg this] at q ⊢
      simpa only [List.append_assoc, List.cons_append, List.nil_append] using q
  have s76 : ∀ (C1 : List IT) (m1 : yM), RO J C1 m1 → KF m m1 → yP (xg xs) (d + 378) 385 76 [(0, .ref 58), (1, .int (nI (J.2.2.2 n))), (3, .int (nI (J.2.2.2 (n + 1))))] [] m1 (fun r m' => r = none ∧ RO J (C1 ++ ((if vF J.2.2.1 n = 2 then [j1 1 (s.1.2.2.2.2 n), j1 8 2] else []) ++ ([j1 7 10] ++ (if vF J.2.2.1 n < 2 then [] else [j1 7 10, j1 1 (opC s.1 (n + 1)), j1 2 (s.1.2.2.2.2 n)])))) m' ∧ KF m m') := by
    intro C1 m1 o1 e1
    refine w385_76 xs (d + 377) _ _ m1 _ ⟨x0, ?_⟩
    rw [c0, e64 m1 e1]
    refine ⟨fun z => ?_, fun z => ⟨x0, ?_⟩⟩
    · rw [if_neg z, List.nil_append]
      exact s110 C1 m1 o1 e1
    · rw [e86 (by rw [z]; decide) m1 e1, if_pos z]
      refine c369k xs d (by omega) o1 (fun m2 o2 e2 => c369k xs d (by omega) o2 (fun m3 o3 e3 => ?_))
      have q := s110 _ m3 o3 ((e1.tr e2).tr e3)
      simpa only [List.append_assoc, List.cons_append, List.nil_append] using q
  refine w385_0 xs (d + 377) _ m _ ⟨x0, x0, ?_⟩
  rw [c0, l66, e64 m (KF.re m)]
  refine ⟨fun z => ?_, fun z => ⟨x0, ?_⟩⟩
  · rw [if_neg z, List.nil_append]
    refine yC.mono (Nat.le_refl _) (fun r m1 q => ⟨q.1, x0, ?_⟩) (op C m ho (KF.re m))
    have e1 := q.2.2
    rw [e64 m1 e1]
    refine ⟨fun y => ?_, fun y => ?_⟩
    · have r := s76 _ m1 q.2.1 e1
      rcases vr with v | v | v | v
      · rw [v] at r ⊢
        simpa using r
      · exact absurd v y
      · rw [v] at r ⊢
        simpa using r
      · exact absurd v z
    · refine c369k xs d (by omega) q.2.1 (fun m2 o2 e2 => ?_)
      have r := s76 _ m2 o2 (e1.tr e2)
      rw [y] at r ⊢
      simpa using r
  · rw [e86 (by rw [z]; decide) m (KF.re m), if_pos z]
    refine c369k xs d (by omega) ho (fun m1 o1 e1 => yC.mono (Nat.le_refl _) (fun r m2 q => ⟨q.1, ?_⟩) (op _ m1 o1 e1))
    refine c369k xs d (by omega) q.2.1 (fun m3 o3 e3 => ?_)
    have r := s76 _ m3 o3 ((e1.tr q.2.2).tr e3)
    rw [z] at r ⊢
    simpa using r
theorem c386 (xs : List Int32) (d : Nat) {m0 : yM} {T : Nat} {J : JV} {s : SU} (hY : HY m0 T J.2.2.1 s) {b : Nat} {pw : Int32} {g n : Nat} (hg : hkR J g) (hc : ccK m0 T J s n) (k : kK J.2.2.1 n = 28) {row cols : Nat} (hr : row < (kids J.2.2.1 g).length) (c1 : 1 ≤ cols) (c12 : cols ≤ 12) {C : List IT} {m : yM} (h : UBR J s b pw m) (ho : RO J C m) : yC (xg xs) (d + 378) 386 [.ref 58, .int (nI (J.2.2.2 g)), .int (nI row), .int (nI (J.2.2.2 n)), .int (nI (cols - 1))] m (fun r m' => r = none ∧ RO J (C ++ coC J.2.2.1 s.1 (kids J.2.2.1 g) pw cols row n) m' ∧ KF m m') := by
  obtain ⟨hn, k0, hw, hk, vt, vv, vr⟩ := hc
  have h0 := h.1
  have x0 := h0.t.x hn
  have c0 := h0.t.c hn
  have k6 : kK J.2.2.1 (n + 1) = 6 := by omega
  have hS := hY.1.1
  obtain ⟨v, v1, v2, v3⟩ := (hS.v hw.1).1 k6 hw.2.2
  have nV := h0.b.1.2.2.1
  have v47 := (h0.x v2).2.1
  have vl := (h0.x v2).1
  have l66 : m.1 66 (J.2.2.2 n) = nI (J.2.2.2 (n + 1)) := by rw [(h0.t.2.1 n hn).2.2.2.2.2.1, k0]; rfl
  have e64 : ∀ m1, KF m m1 → m1.1 64 (J.2.2.2 n) = vF J.2.2.1 n := fun m1 e1 => ((h0.kf e1).t.2.1 n hn).2.2.2.1 vt
  have op : ∀ (C1 : List IT) (m1 : yM), RO J C1 m1 → KF m m1 → yC (xg xs) (d + 377) 372 [.ref 58, .int (nI (J.2.2.2 (n + 1)))] m1 (fun r m' => r = none ∧ RO J (C1 ++ [j1 1 (opC s.1 (n + 1))]) m' ∧ KF m1 m') := fun C1 m1 o1 e1 => c372o xs d hY hw (Or.inl k6) (h0.kf e1) o1
  have eo : opC s.1 (n + 1) = (vD s.1 v).2.2.2 := by
    have kn : s.1.2.2.1 (n + 1) = 6 := by
      rcases hS.ks hw.1 with y | ⟨y, w⟩
      · rw [y, k6]; rfl
      · omega
    unfold opC
    rw [if_pos kn, v1, nI_clamp (by omega)]
  unfold coC
  rw [vv]
  have s103 : ∀ (C1 : List IT) (m1 : yM), RO J C1 m1 → KF m m1 → yP (xg xs) (d + 378) 386 103 [(0, .ref 58), (5, .int (nI (J.2.2.2 (n + 1))))] [] m1 (fun r m' => r = none ∧ RO J (C1 ++ [j1 2 (opC s.1 (n + 1))]) m' ∧ KF m m') := by
    intro C1 m1 o1 e1
    refine w386_103 xs (d + 377) _ m1 _ ⟨h0.t.x hw.1, ?_⟩
    rw [h0.t.c hw.1, ((h0.kf e1).n hw.1 hw.2.2).2.1 (Or.inl k6), v1, nI_clamp (by omega), ((h0.kf e1).x v2).2.2.2.2.1, eo]
    exact ⟨x_in_nI v47 (by decide), c369k xs d (by omega) o1 (fun m2 o2 e2 => ⟨rfl, o2, e1.tr e2⟩)⟩
  have s66 : ∀ (C1 : List IT) (m1 : yM), RO J C1 m1 → KF m m1 → yP (xg xs) (d + 378) 386 66 [(0, .ref 58), (3, .int (nI (J.2.2.2 n))), (5, .int (nI (J.2.2.2 (n + 1))))] [] m1 (fun r m' => r = none ∧ RO J (C1 ++ ((if vF J.2.2.1 n < 2 then [] else [j1 7 (if vF J.2.2.1 n = 2 then 11 else 10)]) ++ [j1 2 (opC s.1 (n + 1))])) m' ∧ KF m m') := by
    intro C1 m1 o1 e1
    refine w386_66 xs (d + 377) _ _ m1 _ ⟨x0, ?_⟩
    rw [c0, e64 m1 e1]
    have go : ∀ a, ¬ vF J.2.2.1 n < 2 → a = (if vF J.2.2.1 n = 2 then 11 else 10) → yP (xg xs) (d + 378) 386 96 [(0, .ref 58), (5, .int (nI (J.2.2.2 (n + 1))))] [.int a, .int 7, .ref 58] m1 (fun r m' => r = none ∧ RO J (C1 ++ ((if vF J.2.2.1 n < 2 then [] else [j1 7 (if vF J.2.2.1 n = 2 then 11 else 10)]) ++ [j1 2 (opC s.1 (n + 1))])) m' ∧ KF m m') := by
      intro a nz ha
      refine w386_96 xs (d + 377) _ _ _ m1 _ (c369k xs d (by omega) o1 (fun m2 o2 e2 => ?_))
      have q := s103 _ m2 o2 (e1.tr e2)
      rw [if_neg nz, ← ha]
      rw [List.append_assoc] at q
      exact q
    refine ⟨fun z => ?_, fun z => ⟨x0, ?_⟩⟩
    · have : vF J.2.2.1 n < 2 := by
        rcases vr with y | y | y | y <;> rw [y] at z ⊢ <;> first | decide | exact absurd z (by decide)
      rw [if_pos this, List.nil_append]
      exact s103 C1 m1 o1 e1
    · have nz : ¬ vF J.2.2.1 n < 2 := by
        rcases vr with y | y | y | y <;> rw [y] at z ⊢ <;> first | decide | exact absurd (by decide) z
      exact ⟨fun y => go 10 nz (by rw [if_neg y]), fun y => go 11 nz (by rw [if_pos y])⟩
  have s27 : ∀ (C1 : List IT) (m1 : yM), RO J C1 m1 → KF m m1 → yP (xg xs) (d + 378) 386 27 [(0, .ref 58), (1, .int (nI (J.2.2.2 g))), (2, .int (nI row)), (3, .int (nI (J.2.2.2 n))), (4, .int (nI (cols - 1))), (5, .int (nI (J.2.2.2 (n + 1))))] [] m1 (fun r m' => r = none ∧ RO J (C1 ++ ([fdC J.2.2.1 (kids J.2.2.1 g) pw row cols] ++ ((if vF J.2.2.1 n = 1 ∨ vF J.2.2.1 n = 3 then [j1 8 2] else []) ++ ((if vF J.2.2.1 n < 2 then [] else [j1 7 (if vF J.2.2.1 n = 2 then 11 else 10)]) ++ [j1 2 (opC s.1 (n + 1))])))) m' ∧ KF m m') := by
    intro C1 m1 o1 e1
    have k83 := c383 xs d (h.kf e1) o1 hg hr (show cols - 1 < 12 by omega)
    rw [show cols - 1 + 1 = cols by omega] at k83
    refine w386_27 xs (d + 377) _ _ _ _ _ m1 _ (yC.mono (by omega) (fun r m2 q => ⟨q.1, x0, ?_⟩) k83)
    have e2 := e1.tr q.2.2
    have go : (vF J.2.2.1 n = 1 ∨ vF J.2.2.1 n = 3) → yP (xg xs) (d + 378) 386 55 [(0, .ref 58), (3, .int (nI (J.2.2.2 n))), (5, .int (nI (J.2.2.2 (n + 1))))] [] m2 (fun r m' => r = none ∧ RO J (C1 ++ ([fdC J.2.2.1 (kids J.2.2.1 g) pw row cols] ++ ((if vF J.2.2.1 n = 1 ∨ vF J.2.2.1 n = 3 then [j1 8 2] else []) ++ ((if vF J.2.2.1 n < 2 then [] else [j1 7 (if vF J.2.2.1 n = 2 then 11 else 10)]) ++ [j1 2 (opC s.1 (n + 1))])))) m' ∧ KF m m') := by
      intro z
      refine w386_55 xs (d + 377) _ _ m2 _ (c369k xs d (by omega) q.2.1 (fun m3 o3 e3 => ?_))
      have r := s66 _ m3 o3 (e2.tr e3)
      rw [if_pos z]
      simpa only [List.append_assoc] using r
    rw [c0, e64 m2 e2]
    refine ⟨fun z => go (Or.inl z), fun z => ⟨x0, fun y => ?_, fun y => go (Or.inr y)⟩⟩
    have no : ¬ (vF J.2.2.1 n = 1 ∨ vF J.2.2.1 n = 3) := fun w => w.elim z y
    have r := s66 _ m2 q.2.1 e2
    rw [if_neg no, List.nil_append]
    simpa only [List.append_assoc] using r
  refine w386_0 xs (d + 377) _ _ _ _ m _ ⟨x0, x0, ?_⟩
  rw [c0, l66, e64 m (KF.re m)]
  refine ⟨fun z => ?_, fun z => ?_⟩
  · have lt : vF J.2.2.1 n < 2 := by
      rcases vr with y | y | y | y <;> rw [y] at z ⊢ <;> first | decide | exact absurd z (by decide)
    have r := s27 C m ho (KF.re m)
    simp only [if_pos lt, List.nil_append] at r ⊢
    exact r
  · have nz : ¬ vF J.2.2.1 n < 2 := by
      rcases vr with y | y | y | y <;> rw [y] at z ⊢ <;> first | decide | exact absurd (by decide) z
    refine yC.mono (Nat.le_refl _) (fun r m1 q => ⟨q.1, ?_⟩) (op C m ho (KF.re m))
    have r := s27 _ m1 q.2.1 q.2.2
    simp only [if_neg nz] at r ⊢
    simpa only [List.append_assoc] using r
