/-! THE REFERENCE'S READER: leaves, simple types, constants, types -/
theorem if1 {p : Prop} [Decidable p] (h : ¬ (if p then (1 : Int32) else 0) = 0) : p := by
  by_cases z : p
  · exact z
  · rw [if_neg z] at h; exact absurd rfl h
theorem if0 {p : Prop} [Decidable p] (h : (if p then (1 : Int32) else 0) = 0) : ¬ p := by
  intro z
  rw [if_pos z] at h
  exact absurd h (by decide)
theorem RRo.vn {E : EV} {t o z : Nat} {Rs : List (List Int32)} {m : yM} (h : RRo E t o z Rs m) (k : E.1.1 9 t = 64) : nmV E Rs t (m.1 58 7) := by
  obtain ⟨K, k1, k2, k3⟩ := h.rk
  have e : K = 64 := (nI_eq (a := K) (b := 64) (by omega) (by decide)).mp (k1.symm.trans k)
  rcases k3 with u | u | u | u | u | ⟨s, s1, u, _⟩
  · have := u.1; omega
  · exact u.2.2
  · have := u.1; omega
  · have := u.1; omega
  · have := u.1; omega
  · have := sK_ge s1; omega
theorem RRo.vv {E : EV} {t o z : Nat} {Rs : List (List Int32)} {m : yM} (h : RRo E t o z Rs m) (k : E.1.1 9 t = 65 ∨ E.1.1 9 t = 66) : m.1 58 7 = E.1.1 11 t := by
  obtain ⟨K, k1, k2, k3⟩ := h.rk
  have e : K = 65 ∨ K = 66 := by
    rcases k with k | k
    · exact Or.inl ((nI_eq (a := K) (b := 65) (by omega) (by decide)).mp (k1.symm.trans k))
    · exact Or.inr ((nI_eq (a := K) (b := 66) (by omega) (by decide)).mp (k1.symm.trans k))
  rcases k3 with u | u | u | u | u | ⟨s, s1, u, _⟩
  · have := u.1; omega
  · have := u.1; omega
  · exact u.2.2
  · exact u.2.2
  · have := u.1; omega
  · have := sK_ge s1; omega
theorem RRo.vw {E : EV} {t o z : Nat} {Rs : List (List Int32)} {m : yM} (h : RRo E t o z Rs m) {w : Nat} (hw : w < 41) (k : E.1.1 9 t = nI w) : m.1 58 6 = 1 ∧ m.1 58 7 = nI w := (h.rk.word hw).mpr k
/-- it must be this token -/
def p_chk (m0 : yM) (k : Int32) (t o : Nat) : PX := if m0.1 9 t = k then .inl (t, o, []) else p_ref m0 6 t
theorem p_chk_i {m0 : yM} {k : Int32} {X : PX} {t o : Nat} {G : List ND} (h : p_bind X (p_chk m0 k) = .inl (t, o, G)) : X = .inl (t, o, G) ∧ m0.1 9 t = k := by
  rcases X with ⟨t1, o1, G1⟩ | e
  · rw [p_bind_aft] at h
    unfold p_chk at h
    by_cases z : m0.1 9 t1 = k
    · rw [if_pos z] at h
      simp only [aft, List.append_nil] at h
      have h2 := h
      simp only [Sum.inl.injEq, Prod.mk.injEq] at h2
      obtain ⟨rfl, -, -⟩ := h2
      exact ⟨h, z⟩
    · rw [if_neg z] at h
      simp [aft, p_ref] at h
  · simp [p_bind] at h
theorem GS.must {xs : List Int32} {D : Nat} (hD : 2 ≤ D) {E : EV} {n : Nat} {Rs : List (List Int32)} {T : List (List Int32) → yM → List ND → Prop} {m : yM} {X : PX} {K : yM → Prop} (h : GS E n Rs T X m) (c : Int32) (k : ∀ m', GS E n Rs T (p_bind X (p_chk E.1 c)) m' → K m') : yC (xg xs) D 291 [.ref 58, .int (tkx E.1 X c)] m (fun r m' => r = none ∧ K m') := by
  obtain ⟨d, rfl⟩ : ∃ d, D = d + 2 := ⟨D - 2, by omega⟩
  refine h.op (f := p_chk E.1 c) (fun t o G Rs' e hR => ?_) (fun f p he => ?_) k
  · subst e
    refine yC.mono (Nat.le_refl _) (fun r m' q => ⟨q.1, ?_⟩) (c291 xs d m _)
    obtain ⟨-, rfl⟩ := q
    unfold p_chk
    by_cases z : E.1.1 9 t = c
    · have e : tkx E.1 (.inl (t, o, G)) c = 1 := if_pos z
      rw [e, if_pos z, if_neg (by decide)]
      exact ⟨rfl, fun _ _ _ => rfl, Rs', List.prefix_refl _, hR⟩
    · have e : tkx E.1 (.inl (t, o, G)) c = 0 := if_neg z
      rw [e, if_neg z, if_pos rfl]
      exact hR.fail 6 (by decide)
  · refine yC.mono (Nat.le_refl _) (fun r m' q => ⟨q.1, ?_⟩) (c291 xs d m _)
    obtain ⟨-, rfl⟩ := q
    split
    · rw [he.fail]; exact he
    · exact he
theorem leaf_eq (m0 : yM) (G : List ND) (k p v : Int32) (vt t o : Nat) : p_bind (aft G (p_node k p v vt (.inl (t, o, [])))) (p_step m0) = aft G (p_node k p v vt (p_step m0 t o)) := by
  show p_bind (.inl (t, o, G ++ [(k, p, v, vt, 0 + 1)])) (p_step m0) = _
  rw [p_bind_aft]
  unfold p_step
  split <;> simp [aft, p_node]
/-- the node of a token, added -/
theorem PS.leaf0 {xs : List Int32} {D : Nat} (hD : 6 ≤ D) {E : EV} (hE : EOk E) {z a : Nat} {q : NQ} {Rs : List (List Int32)} {m0 m : yM} {t o : Nat} {G : List ND} {l : Int32} {K : yM → Prop} (h : PS E z a q Rs m0 (.inl (t, o, G)) m) (hl : l = nI (min a 19999)) (J : Nat) (kd : Int32) (hJ : E.1.1 9 t = nI J) (hk : J = 64 ∨ J = 65 ∨ J = 66) (f : Nat → Nat → PX) (hf : ∀ t o, f t o = p_leaf E.1 (nI J) kd (E.1.1 11 t) (if J = 64 then t + 1 else 0) t o) (k : ∀ m', PS E z a q Rs m0 (p_bind (.inl (t, o, G)) f) m' → K m') : yC (xg xs) D 271 [.ref 58, .int kd, .int (m.1 58 8), .int (m.1 58 7)] m (fun v m3 => ∃ u, v = some (Value.int u) ∧ yC (xg xs) D 297 [.ref 58, .int l, .int u] m3 (fun v m4 => v = none ∧ yC (xg xs) D 272 [.ref 58] m4 (fun v m5 => v = none ∧ K m5))) := by
  subst hl
  obtain ⟨Rs', hp, hR, hT⟩ := h
  have h67 : ¬ E.1.1 9 t = 67 := by
    rw [hJ]
    exact fun u => absurd ((nI_eq (a := J) (b := 67) (by omega) (by decide)).mp u) (by omega)
  refine PS.mk (by omega) hR (kd, E.1.1 10 t, E.1.1 11 t, if J = 64 then t + 1 else 0) rfl hR.pl ⟨fun u => ?_, fun u => ?_⟩ (fun m3 p3 => ?_)
  · dsimp only at u ⊢
    refine hR.vv ?_
    rcases hk with rfl | rfl | rfl
    · rw [if_pos rfl] at u; omega
    · exact Or.inl hJ
    · exact Or.inr hJ
  · dsimp only at u ⊢
    have e : J = 64 := by
      rcases hk with e | e | e
      · exact e
      · rw [if_neg (by omega)] at u; exact absurd rfl u
      · rw [if_neg (by omega)] at u; exact absurd rfl u
    subst e
    rw [if_pos rfl]
    exact hR.vn hJ
  · have gi : GI m3 := by
      obtain ⟨_, _, r3, _⟩ := p3
      exact r3.gi
    have p4 := PS.ad hp hT (by omega) p3.finq
    refine y_cv (c297 xs (D - 1) gi (by omega) (by omega)) (by omega) ?_
    refine GS.next hD hE p4 (fun t' o' G' e => ?_) (fun m5 p5 => k m5 ?_)
    · simp only [p_node, aft, Sum.inl.injEq, Prod.mk.injEq] at e
      rw [← e.1]
      exact h67
    · rw [leaf_eq] at p5
      rw [p_bind_aft, hf]
      unfold p_leaf
      rw [if_pos hJ]
      exact p5
/-- the same behind a fault -/
theorem RRe.leaf0 {xs : List Int32} {D : Nat} (hD : 6 ≤ D) {E : EV} {c p : Int32} {m : yM} {l : Int32} {n : Nat} (hn : n < 20000) {K : yM → Prop} (h : RRe E c p m) (hl : l = nI n) (k : ∀ m', RRe E c p m' → K m') (kd x y : Int32) : yC (xg xs) D 271 [.ref 58, .int kd, .int x, .int y] m (fun v m3 => ∃ u, v = some (Value.int u) ∧ yC (xg xs) D 297 [.ref 58, .int l, .int u] m3 (fun v m4 => v = none ∧ yC (xg xs) D 272 [.ref 58] m4 (fun v m5 => v = none ∧ K m5))) := by
  subst hl
  refine RRe.mk (by omega) h (fun id m3 hid h3 => ?_)
  refine y_cv (c297 xs (D - 1) h3.2.2.2.2.2.1 hn hid) (by omega) ?_
  exact y_nx (c272x xs (D - 6) (h3.ad hid)) (by omega) (fun m5 h5 => k m5 h5)
theorem PS.leaf {xs : List Int32} {D : Nat} (hD : 6 ≤ D) {E : EV} (hE : EOk E) {z a : Nat} {q : NQ} {Rs : List (List Int32)} {m0 m : yM} {X : PX} {l : Int32} {K : yM → Prop} (h : PS E z a q Rs m0 X m) (hl : l = nI (min a 19999)) (b J : Nat) {bb : Int32} (hk : kOk b J ∧ nI b = bb) (kd : Int32) (f : Nat → Nat → PX) (hf : ∀ t o, f t o = p_leaf E.1 (nI J) kd (E.1.1 11 t) (if J = 64 then t + 1 else 0) t o) (k : ∀ m', PS E z a q Rs m0 (p_bind X f) m' → K m') : yC (xg xs) D 293 [.ref 58, .int bb] m (fun v m1 => ∃ u, v = some (Value.int u) ∧ yC (xg xs) D 291 [.ref 58, .int u] m1 (fun v m2 => v = none ∧ yC (xg xs) D 271 [.ref 58, .int kd, .int (m2.1 58 8), .int (m2.1 58 7)] m2 (fun v m3 => ∃ u, v = some (Value.int u) ∧ yC (xg xs) D 297 [.ref 58, .int l, .int u] m3 (fun v m4 => v = none ∧ yC (xg xs) D 272 [.ref 58] m4 (fun v m5 => v = none ∧ K m5))))) := by
  obtain ⟨hk, rfl⟩ := hk
  refine h.isK (by omega) b J (nI J) ⟨hk, rfl, rfl⟩ ?_
  refine h.must (by omega) (nI J) (fun m2 p2 => ?_)
  rcases hX : p_bind X (p_chk E.1 (nI J)) with ⟨t, o, G⟩ | ⟨c, p⟩
  · rw [hX] at p2
    obtain ⟨rfl, e2⟩ := p_chk_i hX
    exact PS.leaf0 hD hE p2 hl J kd e2 (by omega) f hf k
  · rw [hX] at p2
    refine RRe.leaf0 hD (by omega) p2 hl (fun m' p' => k m' ?_) kd _ _
    rcases X with ⟨t, o, G⟩ | e
    · rw [p_bind_aft] at hX ⊢
      unfold p_chk at hX
      by_cases z : E.1.1 9 t = nI J
      · rw [if_pos z] at hX; simp [aft] at hX
      · rw [if_neg z] at hX
        rw [hf]
        unfold p_leaf
        rw [if_neg z, hX]
        exact p'
    · have hX : (.inr e : PX) = .inr (c, p) := hX
      rw [p_bind_e, hX]
      exact p'
theorem RM.pre {E : EV} {z : Nat} {Rs Rs' : List (List Int32)} {m m1 m' : yM} {X : PX} {r : Option Value} (h : RM E z Rs' m1 X r m') (hp : Rs <+: Rs') (hf : FM m m1) : RM E z Rs m X r m' := by
  obtain ⟨id, i1, i2, i3⟩ := h
  refine ⟨id, i1, i2, ?_⟩
  rcases X with ⟨t, o, G⟩ | e
  · obtain ⟨R2, p2, r2, T2⟩ := i3
    refine ⟨R2, hp.trans p2, r2, fun hz R3 m3 p3 f3 => ?_⟩
    obtain ⟨b1, b2⟩ := T2 hz R3 m3 p3 f3
    exact ⟨fun a x h1 h2 h3 => by rw [b1 a x h1 h2 h3]; exact hf a x h1, b2⟩
  · exact i3
theorem RM.e {E : EV} {z z' : Nat} {Rs Rs' : List (List Int32)} {m m1 m' : yM} {c p : Int32} {r : Option Value} (h : RM E z' Rs' m1 (.inr (c, p)) r m') : RM E z Rs m (.inr (c, p)) r m' := h
/-- a node of one token, as an answer -/
theorem lfR {xs : List Int32} {D : Nat} (hD : 6 ≤ D) {E : EV} (hE : EOk E) {t o z : Nat} {Rs : List (List Int32)} {m : yM} (h : RRo E t o (min z 19999) Rs m) (q : NQ) {k p v : Int32} (hk : k = q.1) (hp : p = q.2.1) (hv : nvO E Rs q v) (h67 : ¬ E.1.1 9 t = 67) : yC (xg xs) D 271 [.ref 58, .int k, .int p, .int v] m (fun v2 m2 => ∃ u2, v2 = some (Value.int u2) ∧ yC (xg xs) D 272 [.ref 58] m2 (fun v3 m3 => v3 = none ∧ RM E z Rs m (p_node q.1 q.2.1 q.2.2.1 q.2.2.2 (p_step E.1 t o)) (some (.int u2)) m3)) := by
  refine PS.mk (by omega) h q hk hp hv (fun m2 p2 => ?_)
  refine GS.next hD hE p2 (fun t' o' G' e => ?_) (fun m3 p3 => ?_)
  · simp only [Sum.inl.injEq, Prod.mk.injEq] at e
    rw [← e.1]
    exact h67
  · rw [p_bind_aft, aft_nil] at p3
    exact PS.fin p3 rfl
theorem lfE {xs : List Int32} {D : Nat} (hD : 6 ≤ D) {E : EV} {c f : Int32} {z : Nat} {Rs : List (List Int32)} {m m0 : yM} (h : RRe E c f m) {k p v : Int32} : yC (xg xs) D 271 [.ref 58, .int k, .int p, .int v] m (fun v2 m2 => ∃ u2, v2 = some (Value.int u2) ∧ yC (xg xs) D 272 [.ref 58] m2 (fun v3 m3 => v3 = none ∧ RM E z Rs m0 (.inr (c, f)) (some (.int u2)) m3)) := by
  refine RRe.mk (by omega) h (fun id m2 hid h2 => ?_)
  exact y_nx (c272x xs (D - 6) h2) (by omega) (fun m3 h3 => ⟨id, hid, rfl, h3⟩)
theorem c296x (xs : List Int32) (d : Nat) {E : EV} {c f : Int32} {z : Nat} {Rs : List (List Int32)} {m m0 : yM} (h : RRe E c f m) : yC (xg xs) (d + 7) 296 [.ref 58] m (RM E z Rs m0 (.inr (c, f))) := by
  refine w296_0 xs (d + 6) m _ ⟨fun _ => ?_, fun u => absurd u h.ne⟩
  refine w296_38 xs (d + 6) m _ (w296_39 xs (d + 6) _ m _ ?_)
  refine y_cv (c291 xs (d + 4) m _) (by omega) ?_
  rw [if_pos rfl, h.fail]
  exact lfE (by omega) h
theorem c296 (xs : List Int32) (d : Nat) {E : EV} (hE : EOk E) {t o z : Nat} {Rs : List (List Int32)} {m : yM} (h : RRo E t o (min z 19999) Rs m) : yC (xg xs) (d + 7) 296 [.ref 58] m (RM E z Rs m (p_simple E.1 t o)) := by
  have bad : (E.1.1 9 t < 11 ∨ 13 < E.1.1 9 t) → yP (xg xs) (d + 6 + 1) 296 38 [(0, .ref 58)] [.ref 58] m (RM E z Rs m (p_simple E.1 t o)) := by
    intro u
    refine w296_38 xs (d + 6) m _ (w296_39 xs (d + 6) _ m _ ?_)
    refine y_cv (c291 xs (d + 4) m _) (by omega) ?_
    rw [if_pos rfl]
    unfold p_simple
    rw [if_pos u]
    exact lfE (by omega) (h.fail 6 (by decide))
  have w1 := h.rk.kind.2.2.2.2
  refine w296_0 xs (d + 6) m _ ⟨fun u => absurd h.f0 u, fun _ => ⟨fun u => bad (Or.inr ?_), fun u => ?_⟩⟩
  · obtain ⟨K, k1, k2, k3⟩ := h.rk
    rw [k1]
    refine nI_lt (a := 13) ?_ (by omega)
    rcases Nat.lt_or_ge 13 K with y | y
    · exact y
    · exact absurd (w1.mpr ⟨K, by omega, k1⟩) u
  · obtain ⟨K, k1, k2⟩ := w1.mp u
    have e7 : m.1 58 7 = E.1.1 9 t := by rw [k2]; exact (h.vw k1 k2).2
    rw [e7]
    refine ⟨fun v => bad (Or.inl v), fun v => ⟨fun w => bad (Or.inr w), fun w => ?_⟩⟩
    refine w296_39 xs (d + 6) _ m _ ?_
    refine y_cv (c291 xs (d + 4) m _) (by omega) ?_
    rw [if_neg (by decide)]
    unfold p_simple
    rw [if_neg (fun y => y.elim v w)]
    refine lfR (by omega) hE h (8, E.1.1 10 t, E.1.1 9 t - 11, 0) rfl h.pl ⟨fun _ => by rw [e7], fun y => absurd rfl y⟩ ?_
    intro y
    rw [y] at w
    exact w (by decide)
theorem n1mul (x : Int32) : -1 * x = -x := by
  first
    | exact Int32.neg_one_mul x
    | grind
theorem c301x (xs : List Int32) (d : Nat) {E : EV} {c f : Int32} {z : Nat} {Rs : List (List Int32)} {m m0 : yM} (h : RRe E c f m) : yC (xg xs) (d + 7) 301 [.ref 58] m (RM E z Rs m0 (.inr (c, f))) := by
  refine w301_0 xs (d + 6) m _ (y_ci (c295x xs (d + 5) h _) (by omega) ⟨fun _ => ?_, fun u => absurd rfl u⟩)
  refine y_ci (c293x xs (d + 5) h _) (by omega) ⟨fun u => absurd rfl u, fun _ => ?_⟩
  refine y_ci (c290x xs (d + 5) h _) (by omega) ⟨fun u => absurd rfl u, fun _ => ?_⟩
  refine y_ci (c290x xs (d + 5) h _) (by omega) ⟨fun _ => ?_, fun u => absurd rfl u⟩
  refine w301_78 xs (d + 6) _ _ m _ ?_
  refine y_cv (c291 xs (d + 4) m _) (by omega) ?_
  rw [if_pos rfl, h.fail]
  refine y_ci (c293x xs (d + 5) h _) (by omega) ⟨fun _ => ?_, fun u => absurd rfl u⟩
  refine y_ci (c290x xs (d + 5) h _) (by omega) ⟨fun _ => ?_, fun u => absurd rfl u⟩
  refine w301_121 xs (d + 6) _ _ _ m _ ?_
  refine RRe.mk (by omega) h (fun id m2 hid h2 => ?_)
  refine w301_124 xs (d + 6) _ m2 _ ?_
  exact y_nx (c272x xs d h2) (by omega) (fun m3 h3 => ⟨id, hid, rfl, h3⟩)
theorem c301 (xs : List Int32) (d : Nat) {E : EV} (hE : EOk E) {t o z : Nat} {Rs : List (List Int32)} {m : yM} (h : RRo E t o (min z 19999) Rs m) : yC (xg xs) (d + 7) 301 [.ref 58] m (RM E z Rs m (p_const E.1 t o)) := by
  have j73 : E.1.1 9 t = 173 ↔ E.1.1 9 t = nI (sK 45) := Iff.rfl
  refine w301_0 xs (d + 6) m _ (y_ci (c295 xs (d + 5) h 45 (by decide)) (by omega) ⟨fun u => ?_, fun u => ?_⟩)
  · have n73 : ¬ E.1.1 9 t = 173 := if0 u
    unfold p_const
    rw [if_neg n73]
    -- behind the test
    have go : yP (xg xs) (d + 6 + 1) 301 73 [(0, .ref 58), (1, .int (m.1 58 8))] [.ref 58] m (RM E z Rs m (if E.1.1 9 t = 65 then p_node 30 (E.1.1 10 t) (1 * E.1.1 11 t) 0 (p_step E.1 t o) else if E.1.1 9 t = 35 ∨ E.1.1 9 t = 36 then p_node 31 (E.1.1 10 t) (if E.1.1 9 t = 35 then 1 else 0) 0 (p_step E.1 t o) else p_ref E.1 6 t)) ∨ ¬ (E.1.1 9 t = 65 ∨ E.1.1 9 t = 35 ∨ E.1.1 9 t = 36) := by
      by_cases y : E.1.1 9 t = 65 ∨ E.1.1 9 t = 35 ∨ E.1.1 9 t = 36
      · left
        refine w301_73 xs (d + 6) _ m _ (w301_78 xs (d + 6) _ _ m _ ?_)
        refine y_cv (c291 xs (d + 4) m _) (by omega) ?_
        rw [if_neg (by decide)]
        refine y_ci (c293 xs (d + 5) h 3 65 (by decide)) (by omega) ⟨fun v => ?_, fun v => ?_⟩
        · have n65 : ¬ E.1.1 9 t = 65 := if0 v
          have y2 : E.1.1 9 t = 35 ∨ E.1.1 9 t = 36 := y.resolve_left n65
          rw [if_neg n65, if_pos y2]
          have h67 : ¬ E.1.1 9 t = 67 := by
            rcases y2 with y | y <;> rw [y] <;> decide
          have cl : ∀ b : Int32, b = (if E.1.1 9 t = 35 then 1 else 0) → yP (xg xs) (d + 6 + 1) 301 121 [(0, .ref 58)] [.int b, .int (m.1 58 8), .int (31 : Int32), .ref 58] m (RM E z Rs m (p_node 31 (E.1.1 10 t) (if E.1.1 9 t = 35 then 1 else 0) 0 (p_step E.1 t o))) := by
            intro b hb
            refine w301_121 xs (d + 6) _ _ _ m _ ?_
            refine yC.mono (Nat.le_refl _) (fun r m' q => ?_) (lfR (by omega) hE h (31, E.1.1 10 t, if E.1.1 9 t = 35 then 1 else 0, 0) rfl h.pl ⟨fun _ => hb, fun y => absurd rfl y⟩ h67)
            obtain ⟨u2, q1, q2⟩ := q
            exact ⟨u2, q1, w301_124 xs (d + 6) _ m' _ q2⟩
          refine y_ci (c290 xs (d + 5) h 35 (by decide)) (by omega) ⟨fun w => cl 0 ?_, fun w => cl 1 ?_⟩
          · rw [if_neg (show ¬ E.1.1 9 t = 35 from if0 w)]
          · rw [if_pos (show E.1.1 9 t = 35 from if1 w)]
        · have e65 : E.1.1 9 t = 65 := if1 v
          rw [if_pos e65]
          refine yC.mono (Nat.le_refl _) (fun r m' q => ?_) (lfR (by omega) hE h (30, E.1.1 10 t, 1 * E.1.1 11 t, 0) rfl h.pl ⟨fun _ => by rw [h.vv (Or.inl e65)]; exact (Int32.one_mul _).symm, fun y => absurd rfl y⟩ (by rw [e65]; decide))
          obtain ⟨u2, q1, q2⟩ := q
          exact ⟨u2, q1, w301_124 xs (d + 6) _ m' _ q2⟩
      · exact Or.inr y
    refine y_ci (c293 xs (d + 5) h 3 65 (by decide)) (by omega) ⟨fun v => ?_, fun v => ?_⟩
    · have e65 : E.1.1 9 t = 65 := if1 v
      exact go.resolve_right (fun y => y (Or.inl e65))
    · have n65 : ¬ E.1.1 9 t = 65 := if0 v
      refine y_ci (c290 xs (d + 5) h 35 (by decide)) (by omega) ⟨fun w => ?_, fun w => ?_⟩
      · have e35 : E.1.1 9 t = 35 := if1 w
        exact go.resolve_right (fun y => y (Or.inr (Or.inl e35)))
      · have n35 : ¬ E.1.1 9 t = 35 := if0 w
        refine y_ci (c290 xs (d + 5) h 36 (by decide)) (by omega) ⟨fun x => ?_, fun x => ?_⟩
        · have n36 : ¬ E.1.1 9 t = 36 := if0 x
          refine w301_78 xs (d + 6) _ _ m _ ?_
          refine y_cv (c291 xs (d + 4) m _) (by omega) ?_
          rw [if_pos rfl, if_neg n65, if_neg (fun y => y.elim n35 n36)]
          have h := h.fail 6 (by decide)
          refine y_ci (c293x xs (d + 5) h _) (by omega) ⟨fun _ => ?_, fun u => absurd rfl u⟩
          refine y_ci (c290x xs (d + 5) h _) (by omega) ⟨fun _ => ?_, fun u => absurd rfl u⟩
          refine w301_121 xs (d + 6) _ _ _ _ _ ?_
          refine RRe.mk (by omega) h (fun id m2 hid h2 => ?_)
          refine w301_124 xs (d + 6) _ m2 _ ?_
          exact y_nx (c272x xs d h2) (by omega) (fun m3 h3 => ⟨id, hid, rfl, h3⟩)
        · have e36 : E.1.1 9 t = 36 := if1 x
          exact go.resolve_right (fun y => y (Or.inr (Or.inr e36)))
  · have e73 : E.1.1 9 t = 173 := if1 u
    have pl := h.pl
    unfold p_const
    rw [if_pos e73]
    refine y_nx (c272r xs d hE h (by rw [e73]; decide)) (by omega) (fun m1 q1 => ?_)
    rcases hs : p_step E.1 t o with ⟨t1, o1, G1⟩ | ⟨c, f⟩
    · rw [hs] at q1
      obtain ⟨rfl, f1, R1, p1, h1⟩ := q1
      rw [p_bind_aft, aft_nil]
      refine y_ci (c293 xs (d + 5) h1 3 65 (by decide)) (by omega) ?_
      refine y_cv (c291 xs (d + 4) m1 _) (by omega) ?_
      by_cases y : E.1.1 9 t1 = 65
      · rw [if_pos (show E.1.1 9 t1 = nI 65 from y), if_neg (by decide)]
        rw [if_pos y]
        refine yC.mono (Nat.le_refl _) (fun r m' q => ?_) (lfR (by omega) hE h1 (30, E.1.1 10 t, -1 * E.1.1 11 t1, 0) rfl pl ⟨fun _ => by rw [h1.vv (Or.inl y), n1mul], fun y => absurd rfl y⟩ (by rw [y]; decide))
        obtain ⟨u2, q1, q2⟩ := q
        exact ⟨u2, q1, yC.mono (Nat.le_refl _) (fun r m3 q => ⟨q.1, q.2.pre p1 f1⟩) q2⟩
      · rw [if_neg (show ¬ E.1.1 9 t1 = nI 65 from y), if_pos rfl]
        rw [if_neg y]
        exact lfE (by omega) (h1.fail 6 (by decide))
    · rw [hs] at q1
      have q1 : RRe E c f m1 := q1
      rw [p_bind_e]
      refine y_ci (c293x xs (d + 5) q1 _) (by omega) ?_
      refine y_cv (c291 xs (d + 4) m1 _) (by omega) ?_
      rw [if_pos rfl, q1.fail]
      exact lfE (by omega) q1
