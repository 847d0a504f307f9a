/-! THE READER: bodies and statements of the class -/
theorem RCe.ns {m0 m : yM} {T : Nat} {c p : Int32} (h : RCe m0 T c p m) : ¬ stS (m.1 17 5) := by
  rcases h.now with y | y <;> rw [y] <;> decide
theorem RCe.nc {m0 m : yM} {T : Nat} {c p : Int32} (h : RCe m0 T c p m) : ¬ stC (m.1 17 5) := by
  rcases h.now with y | y <;> rw [y] <;> decide
theorem stS_gk {k : Int32} (h : stS k) : gk k := by
  rcases h with h | h | h | h | h | h | h <;> rw [h] <;> decide
theorem stC_gk {k : Int32} (h : stC k) : gk k := by
  rcases h with h | h | h | h <;> rw [h] <;> decide
/-- at a body's loop, with a fault -/
theorem c93x (xs : List Int32) (d : Nat) {m0 m : yM} {T : Nat} {c p : Int32} (h : RCe m0 T c p m) (l1 : Int32) (Q : Option Value → yM → Prop) (K : yP (xg xs) (d + 2) 93 62 [(0, .ref 17), (1, .int l1)] [] m Q) (l2 : Int32) : yP (xg xs) (d + 2) 93 38 [(0, .ref 17), (1, .int l1), (2, .int l2)] [] m Q := by
  refine w93_38 xs (d + 1) _ _ m _ ⟨fun _ => K, fun _ => ?_⟩
  refine y_ci (c94 xs d m) (by omega) ?_
  rw [if_neg h.ns]
  exact ⟨fun _ => K, fun z => absurd rfl z⟩
theorem c93e (xs : List Int32) (d : Nat) {m0 m : yM} {T : Nat} {c p : Int32} (hT : TKok m0 T) (h : RCe m0 T c p m) : yC (xg xs) (d + 2) 93 [.ref 17] m (fun r' m' => r' = none ∧ RC m0 T (.inr (c, p)) m') := by
  have hT1 := hT.1
  have go : ∀ s : Int32, yP (xg xs) (d + 1 + 1) 93 31 [(0, .ref 17)] [.int s, .int (11 : Int32), .ref 2] m (fun r' m' => r' = none ∧ RC m0 T (.inr (c, p)) m') := by
    intro s
    refine w93_31 xs (d + 1) _ _ m _ ?_
    refine y_ex (c72e xs d h 11 s 0) (by omega) (fun i m1 q => ?_)
    obtain ⟨hi, q⟩ := q
    refine c93x xs d q _ _ ?_ _
    refine w93_62 xs (d + 1) _ m1 _ ?_
    exact y_fin (c85e xs d q hi) (by omega)
  obtain ⟨t, t1, t2, -⟩ := h.at hT
  refine w93_0 xs (d + 1) m _ ⟨fun _ => go _, fun z => ⟨?_, go _⟩⟩
  rw [t2] at z ⊢
  rcases t with _ | u
  · exact absurd (by decide) z
  · rw [nI_pred]
    exact x_in_nI (by omega) (by decide)
/-- just n are open -/
def opn (n : Nat) (X : PX) : Prop := ∀ t o F, X = .inl (t, o, F) → o = n ∧ n ≤ 60
theorem opn.e (n : Nat) (e : Int32 × Int32) : opn n (.inr e) := fun _ _ _ h => by cases h
theorem opn.pk {n : Nat} {X r : PX} {k : Nat → Nat → Option PX} (h : opn n X) (hk : ∀ t o t' o' G, k t o = some (.inl (t', o', G)) → o' = o) (e : po (some X) k = some r) : opn n r := by
  intro t o F hr
  subst hr
  obtain ⟨t1, o1, G1, G2, e1, e2, -⟩ := po_some e
  have a := h t1 o1 G1 (Option.some.inj e1)
  have b := hk _ _ _ _ _ e2
  omega
theorem opn.bind {n : Nat} {X : PX} {g : Nat → Nat → PX} (h : opn n X) (hg : ∀ t o t' o' G, g t o = .inl (t', o', G) → o' = o) : opn n (p_bind X g) := h.pk (k := fun t o => some (g t o)) (fun t o t' o' G q => hg _ _ _ _ _ (Option.some.inj q)) (po_t X g)
theorem opn.af {n : Nat} {X : PX} (F : List ND) (h : opn n X) : opn n (aft F X) := by
  intro t o G e
  rcases X with ⟨t1, o1, G1⟩ | e1
  · simp only [aft, Sum.inl.injEq, Prod.mk.injEq] at e
    have := h t1 o1 G1 rfl
    omega
  · cases e
theorem opn.lb {n : Nat} {X : PX} (h : opn n X) : lb n X := fun t o F e => by have := h t o F e; omega
abbrev exq (m0 : yM) (k : Int32) : ∀ t o t' o' G, p_exp m0 k t o = .inl (t', o', G) → o' = o := fun _ _ _ _ _ u => (p_exp_o u).2.1
def okBd (xs : List Int32) (d : Nat) (m0 : yM) (T : Nat) (rc : SR) : Prop := ∀ t o F m r, rc 0 0 t o = some r → RCo m0 T t o F m → yC (xg xs) (d + dA o + 7) 93 [.ref 17] m (fun r' m' => r' = none ∧ RC m0 T (aft F r) m')
def okSs (xs : List Int32) (d : Nat) (m0 : yM) (T : Nat) (rc : SR) : Prop := ∀ q t o F m r (l1 : Int32) (Q : Option Value → yM → Prop), q ≤ 8192 → rc 1 q t o = some r → RCo m0 T t o F m → (∀ m', RC m0 T (aft F r) m' → yP (xg xs) (d + dA o + 7) 93 62 [(0, .ref 17), (1, .int l1)] [] m' Q) → yP (xg xs) (d + dA o + 7) 93 38 [(0, .ref 17), (1, .int l1), (2, .int (nI (8192 - q)))] [] m Q
def okSt (xs : List Int32) (d : Nat) (m0 : yM) (T : Nat) (rc : SR) : Prop := ∀ t o F m r, stS (m0.1 9 t) → rc 2 0 t o = some r → RCo m0 T t o F m → yC (xg xs) (d + dA o + 6) 95 [.ref 17] m (fun r' m' => r' = none ∧ RC m0 T (aft F r) m')
def okCp (xs : List Int32) (d : Nat) (m0 : yM) (T : Nat) (rc : SR) (md j : Nat) (k : Int32) : Prop := ∀ t o F m r, m0.1 9 t = k → rc md 0 t o = some r → RCo m0 T t o F m → yC (xg xs) (d + dA o + 5) j [.ref 17] m (fun r' m' => r' = none ∧ RC m0 T (aft F r) m')
def okLp (xs : List Int32) (d : Nat) (m0 : yM) (T : Nat) (rc : SR) (md j pc pe : Nat) : Prop := ∀ q t o F m r (l1 : Int32) (Q : Option Value → yM → Prop), q ≤ 8192 → rc md q t o = some r → RCo m0 T t o F m → (∀ m', RC m0 T (aft F r) m' → yP (xg xs) (d + dA o + 8) j pe [(0, .ref 17), (1, .int l1)] [] m' Q) → yP (xg xs) (d + dA o + 8) j pc [(0, .ref 17), (1, .int l1), (2, .int (nI (8192 - q)))] [] m Q
theorem okBd.x {xs : List Int32} {d : Nat} {m0 : yM} {T : Nat} (hT : TKok m0 T) {rc : SR} (h : okBd xs d m0 T rc) {X r : PX} {m : yM} {O D : Nat} (hl : opn O X) (h1 : O ≤ 60 → d + dA O + 7 ≤ D) (h2 : d + 2 ≤ D) (e : po (some X) (rc 0 0) = some r) (hm : RC m0 T X m) : yC (xg xs) D 93 [.ref 17] m (fun r' m' => r' = none ∧ RC m0 T r m') := by
  rcases X with ⟨t, o, F⟩ | ⟨c, p⟩
  · have ho := hl t o F rfl
    unfold po at e
    dsimp only at e
    rcases hr : rc 0 0 t o with _ | y
    · rw [hr] at e; cases e
    · rw [hr] at e
      simp only [Option.map_some, Option.some.injEq] at e
      rw [← e]
      exact yC.mono (by have := h1 ho.2; rw [ho.1]; exact this) (fun _ _ q => q) (h t o F m y hr hm)
  · cases e
    exact yC.mono h2 (fun _ _ q => q) (c93e xs d hT hm)
theorem stepBd {xs : List Int32} {d : Nat} {m0 : yM} {T N : Nat} (hT : TKok m0 T) {rc : SR} (hS : okSs xs d m0 T rc) : okBd xs d m0 T (pS m0 N rc) := by
  intro t o F m r e h
  have e : pnode 11 (if t = 0 then 0 else m0.1 10 (t - 1)) 0 0 (rc 1 8192 t o) = some r := e
  obtain ⟨y, e1, hr⟩ := pnode_ex e
  have g4 := h.2.1
  have gT := h.2.2.1
  have hT1 := hT.1
  have go : ∀ s : Int32, s = (if t = 0 then 0 else m0.1 10 (t - 1)) → yP (xg xs) (d + dA o + 6 + 1) 93 31 [(0, .ref 17)] [.int s, .int (11 : Int32), .ref 2] m (fun r' m' => r' = none ∧ RC m0 T (aft F r) m') := by
    intro s hs
    refine w93_31 xs (d + dA o + 6) _ _ m _ ?_
    refine y_ex (c72o xs d h 11 s 0 0) (by omega) (fun i m1 q => ?_)
    obtain ⟨hi, q⟩ := q
    refine hS 8192 t o _ m1 y (nI i) _ (Nat.le_refl _) e1 q (fun m2 q2 => ?_)
    refine w93_62 xs (d + dA o + 6) _ m2 _ ?_
    rw [hr, ← hs]
    exact y_fin (c85r xs d q2 hi) (by omega)
  refine w93_0 xs (d + dA o + 6) m _ ⟨fun z => go _ ?_, fun z => ⟨?_, go _ ?_⟩⟩
  · rw [g4] at z
    rcases t with _ | u
    · rfl
    · exact absurd z (nI_nle (by omega) (by omega))
  · rw [g4] at z ⊢
    rcases t with _ | u
    · exact absurd (by decide) z
    · rw [nI_pred]
      exact x_in_nI (by omega) (by decide)
  · rw [g4] at z ⊢
    rcases t with _ | u
    · exact absurd (by decide) z
    · rw [nI_pred, nI_clamp (by omega), h.1.1 10 (by decide)]
      rfl
theorem RCo.nil {m0 m : yM} {T t o : Nat} {F : List ND} (h : RCo m0 T t o F m) : RC m0 T (aft F (.inl (t, o, []))) m := by
  show RCo m0 T t o (F ++ []) m
  rw [List.append_nil]
  exact h
theorem stepSs {xs : List Int32} {d : Nat} {m0 : yM} {T N : Nat} (hT : TKok m0 T) {rc : SR} (hq : eqP rc) (hS : okSs xs d m0 T rc) (ht : okSt xs d m0 T rc) : okSs xs d m0 T (pS m0 N rc) := by
  intro q t o F m r l1 Q hq1 e0 h K
  have e : (if q = 0 then unit_ t o else if stS (m0.1 9 t) then po (rc 2 0 t o) (rc 1 (q - 1)) else unit_ t o) = some r := e0
  clear e0
  rcases q with _ | n
  · rw [if_pos rfl] at e
    have e := Option.some.inj e
    subst e
    exact w93_38 xs (d + dA o + 6) _ _ m _ ⟨fun _ => K m h.nil, fun z => absurd (Int32.le_refl _) z⟩
  · rw [if_neg (by omega)] at e
    refine w93_38 xs (d + dA o + 6) _ _ m _ ⟨fun z => absurd z (nI_ge (b := 8192) (by omega) (by decide)), fun _ => ?_⟩
    refine y_ci (c94 xs d m) (by omega) ?_
    rw [h.now]
    by_cases hs : stS (m0.1 9 t)
    · rw [if_pos hs] at e ⊢
      refine ⟨fun z => absurd z (by decide), fun _ => ?_⟩
      obtain ⟨x, e1⟩ := po_ex e
      rw [e1] at e
      refine y_nx (ht t o F m x hs e1 h) (Nat.le_refl _) (fun m1 q1 => ?_)
      rw [nI_1, show 8192 - (n + 1) + 1 = 8192 - n by omega]
      rcases x with ⟨t1, o1, G⟩ | ⟨c, p⟩
      · have q1 : RCo m0 T t1 o1 (F ++ G) m1 := q1
        have ho := hq _ _ _ _ _ _ _ e1
        subst ho
        have e : (rc 1 n t1 o1).map (aft G) = some r := e
        rcases hr : rc 1 n t1 o1 with _ | y
        · rw [hr] at e; cases e
        · rw [hr] at e
          simp only [Option.map_some, Option.some.injEq] at e
          refine hS n t1 o1 (F ++ G) m1 y l1 Q (by omega) hr q1 (fun m2 q2 => K m2 ?_)
          rw [← e, aft_aft]
          exact q2
      · have e := Option.some.inj e
        subst e
        obtain ⟨D2, hD2⟩ : ∃ D2, d + dA o + 7 = D2 + 2 := ⟨d + dA o + 5, by omega⟩
        have K := K m1 q1
        show yP (xg xs) (d + dA o + 7) _ _ _ _ _ _
        rw [hD2] at K ⊢
        exact c93x xs D2 q1 l1 Q K _
    · rw [if_neg hs] at e ⊢
      have e := Option.some.inj e
      subst e
      exact ⟨fun _ => K m h.nil, fun z => absurd rfl z⟩
theorem stepSt {xs : List Int32} {d : Nat} {m0 : yM} {T N : Nat} (hT : TKok m0 T) {rc : SR} (hI : okCp xs d m0 T rc 3 96 16) (hC : okCp xs d m0 T rc 5 104 21) (hF : okCp xs d m0 T rc 7 107 23) : okSt xs d m0 T (pS m0 N rc) := by
  intro t o F m r hs e h
  have lt : t < T := h.lt hT (stS_gk hs) rfl
  have e : po (p_st m0 N rc t o) (fun t o => some (p_exp m0 187 t o)) = some r := e
  obtain ⟨x, e1⟩ := po_ex e
  rw [e1, po_t] at e
  have e := Option.some.inj e
  have K : ∀ m', RC m0 T (aft F x) m' → yP (xg xs) (d + dA o + 5 + 1) 95 133 [(0, .ref 17)] [] m' (fun r' m' => r' = none ∧ RC m0 T (aft F r) m') := by
    intro m' q
    refine w95_133 xs (d + dA o + 5) m' _ ?_
    rw [← e, ← p_bind_F]
    exact y_fin (c77 xs d hT q 187 (by decide)) (by unfold dA; omega)
  unfold p_st at e1
  refine w95_0 xs (d + dA o + 5) m _ ?_
  rw [h.now]
  refine ⟨fun z => ?_, fun z => ?_, fun z => ?_, fun z => ?_, fun z => ?_, fun z => ?_, fun n1 n2 n3 n4 n5 n6 => ?_⟩
  · rw [if_pos z] at e1
    exact y_nx (hI t o F m x z e1 h) (Nat.le_refl _) K
  · rw [if_neg (by rw [z]; decide), if_pos z] at e1
    exact y_nx (hC t o F m x z e1 h) (Nat.le_refl _) K
  · rw [if_neg (by rw [z]; decide), if_neg (by rw [z]; decide), if_pos z] at e1
    exact y_nx (hF t o F m x z e1 h) (Nat.le_refl _) K
  · rw [if_neg (by rw [z]; decide), if_neg (by rw [z]; decide), if_neg (by rw [z]; decide), if_pos z] at e1
    have e1 := Option.some.inj e1
    refine y_nx (c82 xs d hT (X := .inl (t, o, F)) h 28 20 0 0 (by decide)) (by unfold dA; omega) (fun m1 q => K m1 ?_)
    rw [p_bind_aft, e1] at q
    exact q
  · rw [if_neg (by rw [z]; decide), if_neg (by rw [z]; decide), if_neg (by rw [z]; decide), if_neg (by rw [z]; decide), if_pos z] at e1
    have e1 := Option.some.inj e1
    refine y_nx (c82 xs d hT (X := .inl (t, o, F)) h 29 21 0 0 (by decide)) (by unfold dA; omega) (fun m1 q => K m1 ?_)
    rw [p_bind_aft, e1] at q
    exact q
  · rw [if_neg (by rw [z]; decide), if_neg (by rw [z]; decide), if_neg (by rw [z]; decide), if_neg (by rw [z]; decide), if_neg (by rw [z]; decide), if_pos z] at e1
    refine y_ci (c91 xs d hT h lt) (by unfold dA; omega) ?_
    refine ⟨fun y => ?_, fun y => ?_⟩
    · rw [if_neg y] at e1
      exact y_nx (c109 xs d hT h z lt e1) (by omega) K
    · rw [if_pos y] at e1
      exact y_nx (c108 xs d hT h lt y e1) (by omega) K
  · rw [if_neg n1, if_neg n2, if_neg n3, if_neg n4, if_neg n5, if_neg n6] at e1
    have e1 := Option.some.inj e1
    subst e1
    exact K m h.nil
