/-! THE READER: expressions of the class -/
theorem po_a (r : Option PX) (k l : Nat → Nat → Option PX) : po (po r k) l = po r (fun t o => po (k t o) l) := by
  rcases r with _ | ⟨⟨t, o, G⟩ | e⟩
  · rfl
  · unfold po
    dsimp only
    rcases k t o with _ | ⟨⟨t1, o1, G1⟩ | e⟩
    · rfl
    · simp only [Option.map_some, aft]
      rcases l t1 o1 with _ | ⟨⟨t2, o2, G2⟩ | e⟩
      · rfl
      · simp [aft]
      · simp [aft]
    · rfl
  · rfl
theorem po_F (F : List ND) (x : PX) (k : Nat → Nat → Option PX) : po (some (aft F x)) k = (po (some x) k).map (aft F) := by
  rcases x with ⟨t, o, G⟩ | e
  · unfold po
    simp only [aft]
    rcases k t o with _ | y
    · rfl
    · simp only [Option.map_some, aft_aft]
  · rfl
theorem po_t (X : PX) (g : Nat → Nat → PX) : po (some X) (fun t o => some (g t o)) = some (p_bind X g) := by
  rcases X with ⟨t, o, G⟩ | e
  · unfold po p_bind
    simp only [Option.map_some]
    rcases g t o with ⟨t1, o1, G1⟩ | e <;> rfl
  · rfl
theorem po_ex {r : Option PX} {k : Nat → Nat → Option PX} {y : PX} (h : po r k = some y) : ∃ x, r = some x := by
  rcases r with _ | x
  · cases h
  · exact ⟨x, rfl⟩
theorem p_bind_F (F : List ND) (x : PX) (g : Nat → Nat → PX) : p_bind (aft F x) g = aft F (p_bind x g) := by
  have h := po_F F x (fun t o => some (g t o))
  rw [po_t, po_t] at h
  exact Option.some.inj h
/-- at least n are open -/
def lb (n : Nat) (X : PX) : Prop := ∀ t o F, X = .inl (t, o, F) → n ≤ o
theorem lb.e (n : Nat) (e : Int32 × Int32) : lb n (.inr e) := fun _ _ _ h => by cases h
theorem lb.pk {n : Nat} {X r : PX} {k : Nat → Nat → Option PX} (h : lb n X) (hk : ∀ t o t' o' G, k t o = some (.inl (t', o', G)) → o ≤ o') (e : po (some X) k = some r) : lb n r := by
  intro t o F hr
  subst hr
  obtain ⟨t1, o1, G1, G2, e1, e2, -⟩ := po_some e
  have a := h t1 o1 G1 (Option.some.inj e1)
  have b := hk _ _ _ _ _ e2
  omega
theorem lb.bind {n : Nat} {X : PX} {g : Nat → Nat → PX} (h : lb n X) (hg : ∀ t o t' o' G, g t o = .inl (t', o', G) → o ≤ o') : lb n (p_bind X g) := h.pk (k := fun t o => some (g t o)) (fun t o t' o' G q => hg _ _ _ _ _ (Option.some.inj q)) (po_t X g)
theorem lb.af {n : Nat} {X : PX} (F : List ND) (h : lb n X) : lb n (aft F X) := by
  intro t o G e
  rcases X with ⟨t1, o1, G1⟩ | e1
  · simp only [aft, Sum.inl.injEq, Prod.mk.injEq] at e
    have := h t1 o1 G1 rfl
    omega
  · cases e
theorem lb.mono {n n' : Nat} {X : PX} (h : lb n X) (hn : n' ≤ n) : lb n' X := fun t o F e => Nat.le_trans hn (h t o F e)
theorem RCe.op {m0 m : yM} {T : Nat} {c p : Int32} (h : RCe m0 T c p m) (v : Int32) : RCe m0 T c p (y_si m 17 6 v) := by
  obtain ⟨kd, ⟨t, t1, t2⟩, hc, hs, z, z1, z2⟩ := h
  have o : ∀ a b, ¬ (a = 17 ∧ b = 6) → (y_si m 17 6 v).1 a b = m.1 a b := fun a b ha => by rw [y_si_at, if_neg ha]
  refine ⟨kd.si (Or.inr rfl), ⟨t, t1, by rw [o _ _ (by decide)]; exact t2⟩, hc, ?_, z, by rw [o _ _ (by decide)]; exact z1, z2⟩
  rw [o 17 5 (by decide), o 17 3 (by decide), o 17 0 (by decide), o 17 4 (by decide)]
  exact hs
theorem RCo.op {m0 m : yM} {T t o : Nat} {F : List ND} (h : RCo m0 T t o F m) {o' : Nat} (ho : o' ≤ 60) {v : Int32} (hv : v = nI o') : RCo m0 T t o' F (y_si m 17 6 v) := by
  obtain ⟨kd, g4, gT, g5, g68, g6, go, g3, gF⟩ := h
  exact ⟨kd.si (Or.inr rfl), by simp [y_si_at, g4], gT, by simp [y_si_at, g5], g68, by rw [y_si_same, hv], ho, by simp [y_si_at, g3], gF.si⟩
def ddec (t o : Nat) : PX := .inl (t, o - 1, [])
theorem RC.dec {m0 m : yM} {T : Nat} {X : PX} (h : RC m0 T X m) (hl : lb 1 X) : RC m0 T (p_bind X ddec) (y_si m 17 6 (m.1 17 6 - 1)) := by
  rcases X with ⟨t, o, F⟩ | ⟨c, p⟩
  · have h1 : RCo m0 T t o F m := h
    have go := h1.2.2.2.2.2.2.1
    have g6 := h1.2.2.2.2.2.1
    have h0 := hl t o F rfl
    rw [p_bind_aft]
    show RCo m0 T t (o - 1) (F ++ []) _
    rw [List.append_nil]
    obtain ⟨u, rfl⟩ : ∃ u, o = u + 1 := ⟨o - 1, by omega⟩
    exact h1.op (o' := u) (by omega) (by rw [g6]; exact nI_pred u)
  · have h1 : RCe m0 T c p m := h
    exact h1.op _
/-- finish, of a known result -/
theorem c85r (xs : List Int32) (d : Nat) {m0 m : yM} {T : Nat} {F : List ND} {k p v : Int32} {vt : Nat} {r : PX} (h : RC m0 T (aft (F ++ [(k, p, v, vt, 1)]) r) m) {i : Nat} (hi : ndI F i) : yC (xg xs) (d + 1) 85 [.ref 2, .int (nI i)] m (fun r' m' => r' = none ∧ RC m0 T (aft F (p_node k p v vt r)) m') := by
  have q := c85n xs d (t := 0) (o := 0) (body := fun _ _ => r) (h := h) hi
  rw [p_bind_aft] at q
  exact q
theorem c99e (xs : List Int32) (d : Nat) {m0 m : yM} {T : Nat} {c p : Int32} (hT : TKok m0 T) (h : RCe m0 T c p m) : yC (xg xs) (d + 2) 99 [.ref 17] m (fun r m' => r = none ∧ RC m0 T (.inr (c, p)) m') := by
  refine w99_0 xs (d + 1) m _ ⟨fun z => absurd z (h.ne (by decide)), fun z => absurd z (h.ne (by decide)), fun z => absurd z (h.ne (by decide)), fun z => absurd z (h.ne (by decide)), fun z => absurd z (h.ne (by decide)), fun z => absurd z (h.ne (by decide)), fun z => absurd z (h.ne (by decide)), fun _ _ _ _ _ _ _ => ?_⟩
  exact y_fin (c78e xs d hT h 6) (by omega)
theorem cl_e {m0 m : yM} {T : Nat} {c p : Int32} (h : RCe m0 T c p m) {k : Int32} (hk : 0 ≤ k) : clO (opO (m.1 17 5)) < k := by
  have e : clO (opO (m.1 17 5)) = -1 := by
    rcases h.now with y | y <;> rw [y] <;> rfl
  rw [e]
  exact Int32.lt_of_lt_of_le (by decide) hk
theorem c98x (xs : List Int32) (d : Nat) {m0 m : yM} {T : Nat} {c p : Int32} (h : RCe m0 T c p m) (k b l3 l4 l5 : Int32) (hk : 0 ≤ k) : yP (xg xs) (d + 3) 98 21 [(0, .ref 17), (1, .int k), (2, .int b), (3, .int l3), (4, .int l4), (5, .int l5)] [] m (fun r m' => r = none ∧ RC m0 T (.inr (c, p)) m') := by
  have e106 : yP (xg xs) (d + 2 + 1) 98 106 [(0, .ref 17), (2, .int b), (3, .int l3)] [] m (fun r m' => r = none ∧ RC m0 T (.inr (c, p)) m') := w98_106 xs (d + 2) _ _ m _ ⟨fun _ => ⟨rfl, h⟩, fun _ => ⟨rfl, h.op _⟩⟩
  refine w98_21 xs (d + 2) _ _ _ _ _ m _ ⟨fun _ => e106, fun _ => ?_⟩
  refine y_ci (c101 xs d m _) (by omega) ?_
  exact ⟨fun _ => e106, fun z => absurd (cl_e h hk) z⟩
theorem c98e (xs : List Int32) (d : Nat) {m0 m : yM} {T : Nat} {c p : Int32} (hT : TKok m0 T) (h : RCe m0 T c p m) (k b : Int32) (hk : 0 ≤ k) : yC (xg xs) (d + 3) 98 [.ref 17, .int k, .int b] m (fun r m' => r = none ∧ RC m0 T (.inr (c, p)) m') := by
  refine w98_0 xs (d + 2) _ _ m _ ?_
  exact y_nx (c99e xs d hT h) (by omega) (fun m1 q => c98x xs d q k b _ _ _ hk)
/-- depth for an operand, where o are open -/
def dA (o : Nat) : Nat := 3 * (60 - o) + 5
def okA (xs : List Int32) (d : Nat) (m0 : yM) (T : Nat) (rc : Nat → Int32 → Nat → List ND → Nat → Nat → Option PX) : Prop := ∀ t o F m r, rc 0 0 0 [] t o = some r → RCo m0 T t o F m → yC (xg xs) (d + dA o) 99 [.ref 17] m (fun r' m' => r' = none ∧ RC m0 T (aft F r) m')
def okB (xs : List Int32) (d : Nat) (m0 : yM) (T : Nat) (rc : Nat → Int32 → Nat → List ND → Nat → Nat → Option PX) : Prop := ∀ c b t o F m r, 0 ≤ c → rc 1 c 0 [] t o = some r → RCo m0 T t o F m → yC (xg xs) (d + dA o + 1) 98 [.ref 17, .int c, .int b] m (fun r' m' => r' = none ∧ RC m0 T (aft F (if b = 0 then r else rst o r)) m')
def okC (xs : List Int32) (d : Nat) (m0 : yM) (T : Nat) (rc : Nat → Int32 → Nat → List ND → Nat → Nat → Option PX) : Prop := ∀ c b q L t o oe lf F m r, 0 ≤ c → q ≤ 61 → oe ≤ o → lfI F lf → rc 2 c q L t o = some r → RCo m0 T t o (F ++ L) m → yP (xg xs) (d + dA oe + 1) 98 21 [(0, .ref 17), (1, .int c), (2, .int b), (3, .int (nI oe)), (4, .int (nI lf)), (5, .int (nI q))] [] m (fun r' m' => r' = none ∧ RC m0 T (aft F (if b = 0 then r else rst oe r)) m')
def okD (xs : List Int32) (d : Nat) (m0 : yM) (T : Nat) (rc : Nat → Int32 → Nat → List ND → Nat → Nat → Option PX) : Prop := ∀ q t o oe F m r (l2 : Int32) (Q : Option Value → yM → Prop), q ≤ 8192 → oe + 1 ≤ o → rc 3 0 q [] t o = some r → RCo m0 T t o F m → (∀ m', RC m0 T (aft F r) m' → yP (xg xs) (d + dA oe - 1) 100 200 [(0, .ref 17), (2, .int l2)] [] m' Q) → yP (xg xs) (d + dA oe - 1) 100 151 [(0, .ref 17), (2, .int l2), (3, .int (nI q))] [] m Q
/-- an operand, an expression, of a state -/
theorem okA.x {xs : List Int32} {d : Nat} {m0 : yM} {T : Nat} (hT : TKok m0 T) {rc : Nat → Int32 → Nat → List ND → Nat → Nat → Option PX} (h : okA xs d m0 T rc) {X r : PX} {m : yM} {om : Nat} (hl : lb om X) (e : po (some X) (fun t o => rc 0 0 0 [] t o) = some r) (hm : RC m0 T X m) : yC (xg xs) (d + dA om) 99 [.ref 17] m (fun r' m' => r' = none ∧ RC m0 T r m') := by
  rcases X with ⟨t, o, F⟩ | ⟨c, p⟩
  · have ho := hl t o F rfl
    unfold po at e
    dsimp only at e
    rcases hr : rc 0 0 0 [] t o with _ | y
    · rw [hr] at e; cases e
    · rw [hr] at e
      simp only [Option.map_some, Option.some.injEq] at e
      rw [← e]
      exact yC.mono (by unfold dA; omega) (fun _ _ q => q) (h t o F m y hr hm)
  · cases e
    exact yC.mono (by unfold dA; omega) (fun _ _ q => q) (c99e xs d hT hm)
theorem okB.x {xs : List Int32} {d : Nat} {m0 : yM} {T : Nat} (hT : TKok m0 T) {rc : Nat → Int32 → Nat → List ND → Nat → Nat → Option PX} (h : okB xs d m0 T rc) {X r : PX} {m : yM} {om : Nat} (hl : lb om X) {c : Int32} (hc : 0 ≤ c) (e : po (some X) (fun t o => rc 1 c 0 [] t o) = some r) (hm : RC m0 T X m) : yC (xg xs) (d + dA om + 1) 98 [.ref 17, .int c, .int 0] m (fun r' m' => r' = none ∧ RC m0 T r m') := by
  rcases X with ⟨t, o, F⟩ | ⟨k, p⟩
  · have ho := hl t o F rfl
    unfold po at e
    dsimp only at e
    rcases hr : rc 1 c 0 [] t o with _ | y
    · rw [hr] at e; cases e
    · rw [hr] at e
      simp only [Option.map_some, Option.some.injEq] at e
      rw [← e]
      exact yC.mono (by unfold dA; omega) (fun _ _ q => q) (h c 0 t o F m y hc hr hm)
  · cases e
    exact yC.mono (by unfold dA; omega) (fun _ _ q => q) (c98e xs d hT hm c 0 hc)
