/-! THE READER: pure results, and the class's small steps -/
/-- a node: kind, place, value, 0 or 1 + the token whose name the value is, how many nodes it has with all below it -/
abbrev ND : Type := Int32 × Int32 × Int32 × Nat × Nat
/-- a token's number, how many are open, the nodes; or a fault and its place -/
abbrev PX : Type := (Nat × Nat × List ND) ⊕ (Int32 × Int32)
def p_step (m0 : yM) (t o : Nat) : PX := if m0.1 9 (t + 1) = 68 then .inr (m0.1 11 (t + 1), m0.1 10 (t + 1)) else .inl (t + 1, o, [])
def p_ref (m0 : yM) (why : Int32) (t : Nat) : PX := .inr (why, m0.1 10 t)
def p_exp (m0 : yM) (k : Int32) (t o : Nat) : PX := if m0.1 9 t = k then p_step m0 t o else p_ref m0 6 t
def p_into (m0 : yM) (t o : Nat) : PX := if o < 60 then p_step m0 t (o + 1) else p_ref m0 7 t
/-- one behind the other -/
def p_bind (r : PX) (k : Nat → Nat → PX) : PX := match r with
  | .inr e => .inr e
  | .inl (t, o, G) => match k t o with
    | .inr e => .inr e
    | .inl (t', o', G') => .inl (t', o', G ++ G')
/-- a node above all these -/
def p_node (k p v : Int32) (vt : Nat) (r : PX) : PX := match r with
  | .inr e => .inr e
  | .inl (t, o, G) => .inl (t, o, (k, p, v, vt, G.length + 1) :: G)
def p_leaf (m0 : yM) (tok k v : Int32) (vt : Nat) (t o : Nat) : PX := if m0.1 9 t = tok then p_node k (m0.1 10 t) v vt (p_step m0 t o) else p_ref m0 6 t
theorem p_bind_e (e : Int32 × Int32) (k : Nat → Nat → PX) : p_bind (.inr e) k = .inr e := rfl
theorem p_bind_a (X : PX) (k l : Nat → Nat → PX) : p_bind (p_bind X k) l = p_bind X (fun t o => p_bind (k t o) l) := by
  rcases X with ⟨t, o, F⟩ | e
  · unfold p_bind
    dsimp only
    rcases k t o with ⟨t1, o1, F1⟩ | e
    · dsimp only
      rcases l t1 o1 with ⟨t2, o2, F2⟩ | e
      · dsimp only
        rw [List.append_assoc]
      · rfl
    · rfl
  · rfl
theorem p_bind_0 (X : PX) : p_bind X (fun t o => .inl (t, o, [])) = X := by
  rcases X with ⟨t, o, F⟩ | e
  · simp [p_bind]
  · rfl
def TKok (m0 : yM) (T : Nat) : Prop := T ≤ 8192 ∧ (m0.1 9 T = 67 ∨ (m0.1 9 T = 68 ∧ ¬ m0.1 11 T = 0)) ∧ ∀ t, t < T → ¬ m0.1 9 t = 67 ∧ ¬ m0.1 9 t = 68 ∧ ¬ m0.1 9 t = 69
/-- the tree holds just these nodes (if they are not too many) -/
def TF (F : List ND) (m : yM) : Prop := ∃ z : Nat, m.1 2 5 = nI z ∧ (z ≤ 16400 ∧ ∀ i, i < z → m.1 6 i = 0) ∧ (F.length ≤ 16400 → z = F.length ∧ ∀ i q, F[i]? = some q → m.1 3 i = q.1 ∧ m.1 4 i = q.2.1 ∧ m.1 5 i = q.2.2.1 ∧ m.1 7 i = nI (i + q.2.2.2.2))
def Kd (m0 m : yM) : Prop := (∀ a, a < 2 ∨ (7 < a ∧ a ≠ 17) → m.1 a = m0.1 a) ∧ m.2 = m0.2
def RCo (m0 : yM) (T t o : Nat) (F : List ND) (m : yM) : Prop := Kd m0 m ∧ m.1 17 4 = nI t ∧ t ≤ T ∧ m.1 17 5 = m0.1 9 t ∧ ¬ m0.1 9 t = 68 ∧ m.1 17 6 = nI o ∧ o ≤ 60 ∧ m.1 17 3 = 0 ∧ TF F m
def RCe (m0 : yM) (T : Nat) (c p : Int32) (m : yM) : Prop := Kd m0 m ∧ (∃ t, t ≤ T ∧ m.1 17 4 = nI t) ∧ ¬ c = 0 ∧ ((m.1 17 5 = 69 ∧ m.1 17 3 = c ∧ m.1 17 0 = p) ∨ (m.1 17 5 = 68 ∧ m.1 17 3 = 0 ∧ m.1 17 4 = nI T ∧ m0.1 9 T = 68 ∧ m0.1 11 T = c ∧ m0.1 10 T = p)) ∧ ∃ z : Nat, m.1 2 5 = nI z ∧ z ≤ 16400
/-- the reader's memory is in the state X -/
def RC (m0 : yM) (T : Nat) (X : PX) (m : yM) : Prop := match X with
  | .inl (t, o, F) => RCo m0 T t o F m
  | .inr (c, p) => RCe m0 T c p m
theorem Kd.si {m0 m : yM} (h : Kd m0 m) {k i : Nat} {v : Int32} (hk : (2 ≤ k ∧ k ≤ 7) ∨ k = 17) : Kd m0 (y_si m k i v) := ⟨fun a ha => by rw [y_si_cell _ _ _ (by omega)]; exact h.1 a ha, h.2⟩
theorem TF.keep {F : List ND} {m m' : yM} (h : TF F m) (h2 : m'.1 2 5 = m.1 2 5) (hk : ∀ a i, a = 3 ∨ a = 4 ∨ a = 5 ∨ a = 6 ∨ a = 7 → m'.1 a i = m.1 a i) : TF F m' := by
  obtain ⟨z, z1, z2, z3⟩ := h
  refine ⟨z, by rw [h2]; exact z1, ⟨z2.1, fun i hi => by rw [hk 6 i (by omega)]; exact z2.2 i hi⟩, fun hF => ⟨(z3 hF).1, fun i q hq => ?_⟩⟩
  rw [hk 3 i (by omega), hk 4 i (by omega), hk 5 i (by omega), hk 7 i (by omega)]
  exact (z3 hF).2 i q hq
theorem TF.si {F : List ND} {m : yM} (h : TF F m) {i : Nat} {v : Int32} : TF F (y_si m 17 i v) := h.keep (by rw [y_si_at, if_neg (by omega)]) (fun a b ha => by rw [y_si_at, if_neg (by omega)])
theorem RCo.now {m0 m : yM} {T t o : Nat} {F : List ND} (h : RCo m0 T t o F m) : m.1 17 5 = m0.1 9 t := h.2.2.2.1
theorem RCe.now {m0 m : yM} {T : Nat} {c p : Int32} (h : RCe m0 T c p m) : m.1 17 5 = 69 ∨ m.1 17 5 = 68 := h.2.2.2.1.elim (fun z => Or.inl z.1) (fun z => Or.inr z.1)
/-- step -/
theorem c76 (xs : List Int32) (d : Nat) {m0 m : yM} {T t o : Nat} {F : List ND} (hT : TKok m0 T) (h : RCo m0 T t o F m) (ht : t < T) : yC (xg xs) (d + 1) 76 [.ref 17] m (fun r m' => r = none ∧ RC m0 T (p_bind (.inl (t, o, F)) (p_step m0)) m') := by
  obtain ⟨kd, g4, gT, g5, g68, g6, go, g3, gF⟩ := h
  obtain ⟨hT1, hT2, hT3⟩ := hT
  have hk := hT3 t ht
  refine w76_0 xs d m _ ⟨fun z => absurd (g5.symm.trans z) hk.2.2, fun _ => ⟨fun z => absurd z (by rw [g4]; exact nI_ge (b := 8192) (by omega) (by decide)), fun _ => ?_⟩⟩
  have e9 : m.1 9 = m0.1 9 := kd.1 9 (by decide)
  rw [g4, nI_1, nI_clamp (by omega), e9]
  refine ⟨x_in_nI (by omega) (by decide), rfl, ?_⟩
  have kd2 := (kd.si (k := 17) (i := 4) (v := nI (t + 1)) (Or.inr rfl)).si (k := 17) (i := 5) (v := m0.1 9 (t + 1)) (Or.inr rfl)
  by_cases hb : m0.1 9 (t + 1) = 68
  · have e : p_bind (.inl (t, o, F)) (p_step m0) = .inr (m0.1 11 (t + 1), m0.1 10 (t + 1)) := by simp [p_bind, p_step, hb]
    rw [e]
    have eT : t + 1 = T := by
      rcases Nat.lt_or_ge (t + 1) T with z | z
      · exact absurd hb (hT3 _ z).2.1
      · omega
    rw [eT] at hb kd2 ⊢
    have c0 : ¬ m0.1 11 T = 0 := by
      rcases hT2 with z | z
      · rw [z] at hb; exact absurd hb (by decide)
      · exact z.2
    obtain ⟨z, z1, ⟨z2, -⟩, -⟩ := gF
    exact ⟨kd2, ⟨T, Nat.le_refl _, by simp [y_si_at]⟩, c0, Or.inr ⟨by simp [y_si_at, hb], by simp [y_si_at, g3], by simp [y_si_at], hb, rfl, rfl⟩, z, by simp [y_si_at, z1], z2⟩
  · have e : p_bind (.inl (t, o, F)) (p_step m0) = .inl (t + 1, o, F) := by simp [p_bind, p_step, hb]
    rw [e]
    exact ⟨kd2, by simp [y_si_at], by omega, by simp [y_si_at], hb, by simp [y_si_at, g6], go, by simp [y_si_at, g3], gF.si.si⟩
/-- refuse -/
theorem c78o (xs : List Int32) (d : Nat) {m0 m : yM} {T t o : Nat} {F : List ND} (hT : TKok m0 T) (h : RCo m0 T t o F m) (why : Int32) (hw : ¬ why = 0) : yC (xg xs) (d + 1) 78 [.ref 17, .int why] m (fun r m' => r = none ∧ RC m0 T (p_ref m0 why t) m') := by
  obtain ⟨kd, g4, gT, g5, g68, g6, go, g3, gF⟩ := h
  have hT1 := hT.1
  refine w78_0 xs d _ m _ ⟨fun z => absurd g3 z, fun _ => ⟨fun _ => ?_, fun z => absurd (g5.symm.trans z) g68⟩⟩
  have e10 : m.1 10 = m0.1 10 := kd.1 10 (by decide)
  refine w78_33 xs d _ m _ ?_
  rw [g4, nI_clamp (by omega), e10]
  obtain ⟨z, z1, ⟨z2, -⟩, -⟩ := gF
  refine ⟨x_in_nI (by omega) (by decide), rfl, ((kd.si (Or.inr rfl)).si (Or.inr rfl)).si (Or.inr rfl), ⟨t, gT, by simp [y_si_at, g4]⟩, hw, Or.inl ⟨by simp [y_si_at], by simp [y_si_at], by simp [y_si_at]⟩, z, by simp [y_si_at, z1], z2⟩
theorem c78e (xs : List Int32) (d : Nat) {m0 m : yM} {T : Nat} {c p : Int32} (hT : TKok m0 T) (h : RCe m0 T c p m) (why : Int32) : yC (xg xs) (d + 1) 78 [.ref 17, .int why] m (fun r m' => r = none ∧ RC m0 T (.inr (c, p)) m') := by
  obtain ⟨kd, ⟨t, t1, t2⟩, hc, hs, z, z1, z2⟩ := h
  have hT1 := hT.1
  rcases hs with ⟨s1, s2, s3⟩ | ⟨s1, s2, s3, s4, s5, s6⟩
  · refine w78_0 xs d _ m _ ⟨fun _ => ⟨rfl, kd.si (Or.inr rfl), ⟨t, t1, by simp [y_si_at, t2]⟩, hc, Or.inl ⟨by simp [y_si_at], by simp [y_si_at, s2], by simp [y_si_at, s3]⟩, z, by simp [y_si_at, z1], z2⟩, fun y => absurd (s2.symm.trans y) hc⟩
  · refine w78_0 xs d _ m _ ⟨fun y => absurd s2 y, fun _ => ⟨fun y => absurd s1 y, fun _ => ?_⟩⟩
    have e10 : m.1 10 = m0.1 10 := kd.1 10 (by decide)
    have e11 : m.1 11 = m0.1 11 := kd.1 11 (by decide)
    rw [s3, nI_clamp (by omega), e11]
    refine ⟨x_in_nI (by omega) (by decide), ?_⟩
    refine w78_33 xs d _ m _ ?_
    rw [s3, nI_clamp (by omega), e10]
    exact ⟨x_in_nI (by omega) (by decide), rfl, ((kd.si (Or.inr rfl)).si (Or.inr rfl)).si (Or.inr rfl), ⟨T, Nat.le_refl _, by simp [y_si_at, s3]⟩, hc, Or.inl ⟨by simp [y_si_at], by simp [y_si_at, s5], by simp [y_si_at, s6]⟩, z, by simp [y_si_at, z1], z2⟩
/-- a kind of token that is neither the end nor a bad one -/
abbrev gk (k : Int32) : Prop := ¬ k = 67 ∧ ¬ k = 68 ∧ ¬ k = 69
theorem RCo.lt {m0 m : yM} {T t o : Nat} {F : List ND} (hT : TKok m0 T) (h : RCo m0 T t o F m) {k : Int32} (hk : gk k) (e : m0.1 9 t = k) : t < T := by
  rcases Nat.lt_or_ge t T with z | z
  · exact z
  · have eT : t = T := by have := h.2.2.1; omega
    rw [eT] at e
    rcases hT.2.1 with y | y
    · exact absurd (e.symm.trans y) hk.1
    · exact absurd (e.symm.trans y.1) hk.2.1
theorem RCe.ne {m0 m : yM} {T : Nat} {c p : Int32} (h : RCe m0 T c p m) {k : Int32} (hk : gk k) : ¬ m.1 17 5 = k := fun z => by
  rcases h.now with y | y
  · exact hk.2.2 (z.symm.trans y)
  · exact hk.2.1 (z.symm.trans y)
theorem c77 (xs : List Int32) (d : Nat) {m0 m : yM} {T : Nat} {X : PX} (hT : TKok m0 T) (h : RC m0 T X m) (k : Int32) (hk : gk k) : yC (xg xs) (d + 2) 77 [.ref 17, .int k] m (fun r m' => r = none ∧ RC m0 T (p_bind X (p_exp m0 k)) m') := by
  rcases X with ⟨t, o, F⟩ | ⟨c, p⟩
  · have h1 : RCo m0 T t o F m := h
    refine w77_0 xs (d + 1) _ m _ ⟨fun z => ?_, fun z => ?_⟩
    · have e : p_bind (.inl (t, o, F)) (p_exp m0 k) = p_ref m0 6 t := by
        have z2 : ¬ m0.1 9 t = k := fun y => z (h1.now.trans y)
        simp [p_bind, p_exp, z2, p_ref]
      rw [e]
      exact yC.mono (by omega) (fun r m1 q => ⟨q.1, rfl, q.2⟩) (c78o xs d hT h1 6 (by decide))
    · have z2 : m0.1 9 t = k := h1.now.symm.trans z
      have e : p_bind (.inl (t, o, F)) (p_exp m0 k) = p_bind (.inl (t, o, F)) (p_step m0) := by
        unfold p_bind p_exp
        dsimp only
        rw [if_pos z2]
      rw [e]
      exact yC.mono (by omega) (fun r m1 q => ⟨q.1, rfl, q.2⟩) (c76 xs d hT h1 (h1.lt hT hk z2))
  · have h1 : RCe m0 T c p m := h
    refine w77_0 xs (d + 1) _ m _ ⟨fun _ => ?_, fun z => absurd z (h1.ne hk)⟩
    exact yC.mono (by omega) (fun r m1 q => ⟨q.1, rfl, q.2⟩) (c78e xs d hT h1 6)
theorem c97 (xs : List Int32) (d : Nat) {m0 m : yM} {T t o : Nat} {F : List ND} (hT : TKok m0 T) (h : RCo m0 T t o F m) (ht : t < T) : yC (xg xs) (d + 2) 97 [.ref 17] m (fun r m' => r = none ∧ RC m0 T (p_bind (.inl (t, o, F)) (p_into m0)) m') := by
  have h0 := h
  obtain ⟨kd, g4, gT, g5, g68, g6, go, g3, gF⟩ := h0
  refine w97_0 xs (d + 1) m _ ?_
  rw [g6, show (nI o < (60 : Int32)) ↔ o < 60 from nI_ltI (b := 60) (by omega) (by decide)]
  refine ⟨fun z => ?_, fun z => ?_⟩
  · have h2 : RCo m0 T t (o + 1) F (y_si m 17 6 (nI o + 1)) := ⟨kd.si (Or.inr rfl), by simp [y_si_at, g4], gT, by simp [y_si_at, g5], g68, by rw [y_si_same, nI_1], by omega, by simp [y_si_at, g3], gF.si⟩
    have e : p_bind (.inl (t, o, F)) (p_into m0) = p_bind (.inl (t, o + 1, F)) (p_step m0) := by
      unfold p_bind p_into
      dsimp only
      rw [if_pos z]
    rw [e]
    exact yC.mono (by omega) (fun r m1 q => ⟨q.1, rfl, q.2⟩) (c76 xs d hT h2 ht)
  · have e : p_bind (.inl (t, o, F)) (p_into m0) = p_ref m0 7 t := by
      unfold p_bind p_into
      dsimp only
      rw [if_neg z]
      rfl
    rw [e]
    exact yC.mono (by omega) (fun r m1 q => ⟨q.1, rfl, q.2⟩) (c78o xs d hT h 7 (by decide))
