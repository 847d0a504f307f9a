/-! MEASURE: what the reference finds can be come to -/
/-- a unit's code as the reference holds it: from S on -/
def RD (D : List IT) (S b : Nat) (m : yM) : Prop := S + D.length ≤ 3000 ∧ b < 16 ∧ m.1 93 b = nI S ∧ m.1 93 (b + 1) = nI (S + D.length) ∧ ∀ i x, D[i]? = some x → m.1 89 (S + i) = x.1 ∧ m.1 90 (S + i) = x.2.1 ∧ m.1 91 (S + i) = x.2.2.1
def K96 (m m' : yM) : Prop := (∀ a i, ¬ a = 96 → m'.1 a i = m.1 a i) ∧ m'.2 = m.2
theorem K96.re (m : yM) : K96 m m := ⟨fun _ _ _ => rfl, rfl⟩
theorem K96.tr {m m1 m2 : yM} (h : K96 m m1) (h2 : K96 m1 m2) : K96 m m2 := ⟨fun a i x => by rw [h2.1 a i x, h.1 a i x], h2.2.trans h.2⟩
theorem K96.s (m : yM) (i : Nat) (v : Int32) : K96 m (y_si m 96 i v) := ⟨fun a j x => by rw [y_si_at, if_neg (by omega)], rfl⟩
theorem RD.k {D : List IT} {S b : Nat} {m m' : yM} (h : RD D S b m) (k : K96 m m') : RD D S b m' := by
  obtain ⟨h1, h2, h3, h4, h5⟩ := h
  refine ⟨h1, h2, by rw [k.1 93 _ (by omega)]; exact h3, by rw [k.1 93 _ (by omega)]; exact h4, fun i x hx => ?_⟩
  rw [k.1 89 _ (by omega), k.1 90 _ (by omega), k.1 91 _ (by omega)]
  exact h5 i x hx
def R96 (S n : Nat) (r : Nat → Bool) (m : yM) : Prop := ∀ k, k ≤ n → (m.1 96 (S + k) = 0 ↔ r k = false)
theorem R96.set {S n j : Nat} {r : Nat → Bool} {m : yM} (h : R96 S n r m) {v : Int32} {t : Bool} (ht : v = 0 ↔ t = false) : R96 S n (fun k => if k = j then t else r k) (y_si m 96 (S + j) v) := by
  intro k hk
  by_cases c : k = j
  · have e : (fun k => if k = j then t else r k) k = t := by show (if k = j then t else r k) = t; rw [if_pos c]
    rw [e, c, y_si_same]; exact ht
  · have e : (fun k => if k = j then t else r k) k = r k := by show (if k = j then t else r k) = r k; rw [if_neg c]
    rw [e, y_si_at, if_neg (by omega)]; exact h k hk
theorem R96.cg {S n : Nat} {r r' : Nat → Bool} {m : yM} (h : R96 S n r m) (e : ∀ k, k ≤ n → r k = r' k) : R96 S n r' m := fun k hk => by rw [← e k hk]; exact h k hk
theorem nar1' : vp_nar .boolean (1 : Int32) = 0 ↔ true = false := ⟨fun z => absurd z nar1, fun z => by cases z⟩
theorem nar0' : vp_nar .boolean (0 : Int32) = 0 ↔ false = false := ⟨fun _ => rfl, fun _ => nar0⟩
theorem c389 (xs : List Int32) (d : Nat) {D : List IT} {S b : Nat} {m : yM} (h : RD D S b m) (hf : FW D.length D 0) (h0 : mk0 D) : yC (xg xs) (d + 1) 389 [.ref 58, .int (nI b)] m (fun r m' => r = none ∧ R96 S D.length (rchP D D.length) m' ∧ K96 m m') := by
  have hS := h.1
  have hb := h.2.1
  have x1 : x_in (nI b + 1) 401 = true := by rw [nI_1]; exact x_in_nI (by omega) (by decide)
  have c1 : (nI b + 1).toNatClampNeg = b + 1 := by rw [nI_1]; exact nI_clamp (by omega)
  -- the pass
  have lp : ∀ (k i : Nat) (m1 : yM), i + k = D.length → R96 S D.length (rchP D i) m1 → K96 m m1 → yP (xg xs) (d + 1) 389 45 [(0, .ref 58), (1, .int (nI b)), (2, .int (nI S)), (3, .int (nI (S + i)))] [] m1 (fun r m' => r = none ∧ R96 S D.length (rchP D D.length) m' ∧ K96 m m') := by
    intro k
    induction k with
    | zero =>
      intro i m1 hi r1 k1
      have hi : i = D.length := hi
      subst hi
      refine w389_45 xs d _ _ _ m1 _ ⟨x1, ?_⟩
      rw [c1, (h.k k1).2.2.2.1]
      exact ⟨fun _ => ⟨rfl, r1, k1⟩, fun z => absurd (nI_le (Nat.le_refl _) (by omega)) z⟩
    | succ k ih =>
      intro i m1 hi r1 k1
      have hx : D[i]? = some (D.getD i dIT) := getD_some (by omega)
      have hd1 := h.k k1
      obtain ⟨a1, a2, a3⟩ := hd1.2.2.2.2 i _ hx
      obtain ⟨f1, f2, f3⟩ := hf i _ hx
      have mz := h0 _ (List.mem_of_getElem? hx)
      have er : rchP D (i + 1) = rchS (D.getD i dIT) i (rchP D i) := rfl
      generalize D.getD i dIT = x at *
      have xi : x_in (nI (S + i)) 3001 = true := x_in_nI (by omega) (by decide)
      have xi2 : x_in (nI (S + i)) 3002 = true := x_in_nI (by omega) (by decide)
      have ci : (nI (S + i)).toNatClampNeg = S + i := nI_clamp (by omega)
      have xi3 : x_in (nI (S + i) + 1) 3002 = true := by rw [nI_1]; exact x_in_nI (by omega) (by decide)
      have ci3 : (nI (S + i) + 1).toNatClampNeg = S + (i + 1) := by rw [nI_1]; exact nI_clamp (by omega)
      have nxt : ∀ m2, R96 S D.length (rchP D (i + 1)) m2 → K96 m m2 → yP (xg xs) (d + 1) 389 193 [(0, .ref 58), (1, .int (nI b)), (2, .int (nI S)), (3, .int (nI (S + i)))] [] m2 (fun r m' => r = none ∧ R96 S D.length (rchP D D.length) m' ∧ K96 m m') := fun m2 r2 k2 => w389_193 xs d _ _ _ m2 _ (by rw [nI_1]; exact ih (i + 1) m2 (by omega) r2 k2)
      have ri := r1 i (by omega)
      have same : (rchP D i i = false ∨ (goB x.1 = false ∧ tgI x = none)) → R96 S D.length (rchP D (i + 1)) m1 := by
        intro z
        refine r1.cg (fun q _ => ?_)
        rw [er]
        unfold rchS
        split
        · rename_i y
          rcases z with z | ⟨z1, z2⟩
          · rw [z] at y; cases y
          · show _ = (rchP D i q || (goB x.1 && decide (q = i + 1)) || decide (tgI x = some q))
            rw [z1, z2, Bool.false_and, Bool.or_false, decide_eq_false (by intro w; cases w), Bool.or_false]
        · rfl
      refine w389_45 xs d _ _ _ m1 _ ⟨x1, ?_⟩
      rw [c1, hd1.2.2.2.1, ci, ci3, a1]
      refine ⟨fun z => ?_, fun _ => ⟨xi2, fun z => nxt m1 (same (Or.inl (ri.mp z))) k1, fun z => ⟨xi, fun z2 => nxt m1 (same (Or.inr ?_)) k1, fun z2 => ⟨xi, fun z3 => nxt m1 (same (Or.inr ?_)) k1, fun z3 => ⟨xi3, ?_⟩⟩⟩⟩⟩
      · have := (nI_leI (by omega) (by omega)).mp z
        omega
      · unfold goB tgI; rw [z2]; exact ⟨by decide, rfl⟩
      · unfold goB tgI; rw [z3]; exact ⟨by decide, rfl⟩
      · have yes : rchP D i i = true := by
          cases hq : rchP D i i with
          | false => exact absurd (ri.mpr hq) z
          | true => rfl
        have go : ∀ q, rchP D (i + 1) q = (rchP D i q || (goB x.1 && decide (q = i + 1)) || decide (tgI x = some q)) := by
          intro q
          rw [er]
          unfold rchS
          rw [if_pos yes]
        -- behind the mark of the next one
        have s122 : ∀ (s2 : Int32) (t : Bool), (vp_nar .boolean s2 = 0 ↔ t = false) → (t = (rchP D i (i + 1) || goB x.1)) → yP (xg xs) (d + 1) 389 122 [(0, .ref 58), (1, .int (nI b)), (2, .int (nI S)), (3, .int (nI (S + i)))] [.int s2, .int (nI (S + i) + 1), .ref 96] m1 (fun r m' => r = none ∧ R96 S D.length (rchP D D.length) m' ∧ K96 m m') := by
          intro s2 t hst ht
          have r2 : R96 S D.length (fun q => rchP D i q || (goB x.1 && decide (q = i + 1))) (y_si m1 96 (S + (i + 1)) (vp_nar .boolean s2)) := by
            refine (r1.set (j := i + 1) hst).cg (fun q _ => ?_)
            show (if q = i + 1 then t else rchP D i q) = _
            by_cases c : q = i + 1
            · rw [if_pos c, ht, c, decide_eq_true rfl, Bool.and_true]
            · rw [if_neg c, decide_eq_false c, Bool.and_false, Bool.or_false]
          have k2 : K96 m (y_si m1 96 (S + (i + 1)) (vp_nar .boolean s2)) := k1.tr (K96.s _ _ _)
          have s175 : ∀ (s0 : Int32), ((s0 = -1 ∧ tgI x = none) ∨ ∃ t', s0 = nI t' ∧ t' ≤ D.length ∧ tgI x = some t') → yP (xg xs) (d + 1) 389 175 [(0, .ref 58), (1, .int (nI b)), (2, .int (nI S)), (3, .int (nI (S + i)))] [.int s0] (y_si m1 96 (S + (i + 1)) (vp_nar .boolean s2)) (fun r m' => r = none ∧ R96 S D.length (rchP D D.length) m' ∧ K96 m m') := by
            intro s0 hs0
            rcases hs0 with ⟨rfl, hn⟩ | ⟨t', rfl, t1, t2⟩
            · refine w389_175 xs d _ _ _ _ _ _ ⟨fun _ => nxt _ (r2.cg (fun q _ => ?_)) k2, fun w => absurd rfl w⟩
              have nn : decide ((none : Option Nat) = some q) = false := decide_eq_false (fun w => by cases w)
              rw [go q, hn, nn, Bool.or_false]
            · have ea : nI S + nI t' = nI (S + t') := nI_add ..
              refine w389_175 xs d _ _ _ _ _ _ ⟨fun w => absurd w (nI_ne1 (by omega)), fun _ => ?_⟩
              rw [ea, nI_clamp (by omega)]
              refine ⟨x_in_nI (by omega) (by decide), nxt _ ((r2.set (j := t') nar1').cg (fun q _ => ?_)) (k2.tr (K96.s _ _ _))⟩
              rw [go q, t2]
              show (if q = t' then true else _) = _
              by_cases c : q = t'
              · rw [if_pos c, c, decide_eq_true rfl, Bool.or_true]
              · rw [if_neg c, decide_eq_false (fun w => c (Option.some.inj w).symm), Bool.or_false]
          have o89 : (y_si m1 96 (S + (i + 1)) (vp_nar .boolean s2)).1 90 (S + i) = m1.1 90 (S + i) := by rw [y_si_at, if_neg (by omega)]
          have s145 : (x.1 = 10 ∨ x.1 = 11) → yP (xg xs) (d + 1) 389 145 [(0, .ref 58), (1, .int (nI b)), (2, .int (nI S)), (3, .int (nI (S + i)))] [] (y_si m1 96 (S + (i + 1)) (vp_nar .boolean s2)) (fun r m' => r = none ∧ R96 S D.length (rchP D D.length) m' ∧ K96 m m') := by
            intro hq
            obtain ⟨t', t1, t2, t3⟩ := f1 mz hq
            refine w389_145 xs d _ _ _ _ _ ⟨xi, s175 _ (Or.inr ⟨t', ?_, t2, ?_⟩)⟩
            · rw [ci, o89, a2]; exact t3
            · unfold tgI; rw [if_pos hq, t3, nI_clamp (by omega)]
          refine w389_122 xs d _ _ _ _ _ m1 _ ⟨xi3, xi, ?_⟩
          rw [ci, ci3, a1]
          refine ⟨fun w => s145 (Or.inl w), fun w => ⟨xi, fun w2 => ⟨xi, fun w3 => s175 _ (Or.inl ⟨rfl, ?_⟩), fun w3 => ⟨xi, s175 _ (Or.inr ?_)⟩⟩, fun w2 => s145 (Or.inr w2)⟩⟩
          · unfold tgI; rw [if_neg (fun v => v.elim w w2), if_neg w3]
          · obtain ⟨t', t1, t2, t3⟩ := f2 w3
            refine ⟨t', by rw [a3]; exact t3, t2, ?_⟩
            unfold tgI; rw [if_neg (fun v => v.elim w w2), if_pos w3, t3, nI_clamp (by omega)]
        have s117 : (rchP D i (i + 1) || goB x.1) = true → yP (xg xs) (d + 1) 389 117 [(0, .ref 58), (1, .int (nI b)), (2, .int (nI S)), (3, .int (nI (S + i)))] [.int (nI (S + i) + 1), .ref 96] m1 (fun r m' => r = none ∧ R96 S D.length (rchP D D.length) m' ∧ K96 m m') := fun e => w389_117 xs d _ _ _ _ m1 _ (s122 1 true nar1' e.symm)
        have r3 := r1 (i + 1) (by omega)
        refine ⟨fun w => s117 ?_, fun w => ⟨xi, fun w2 => s122 0 false nar0' ?_, fun w2 => s117 ?_⟩⟩
        · have : rchP D i (i + 1) = true := by
            cases hq : rchP D i (i + 1) with
            | false => exact absurd (r3.mpr hq) w
            | true => rfl
          rw [this, Bool.true_or]
        · rw [r3.mp w]
          unfold goB
          rw [w2]
          decide
        · have : goB x.1 = true := by unfold goB; exact decide_eq_true ⟨w2, z3, z2⟩
          rw [this, Bool.or_true]
  -- the array is made empty
  have l1 : ∀ (k i : Nat) (m1 : yM), i + k = D.length + 1 → K96 m m1 → (∀ q, q < i → (m1.1 96 (S + q) = 0 ↔ decide (q = 0) = false)) → yP (xg xs) (d + 1) 389 9 [(0, .ref 58), (1, .int (nI b)), (2, .int (nI S)), (3, .int (nI (S + i)))] [] m1 (fun r m' => r = none ∧ R96 S D.length (rchP D D.length) m' ∧ K96 m m') := by
    intro k
    induction k with
    | zero =>
      intro i m1 hi k1 r1
      refine w389_9 xs d _ _ _ m1 _ ⟨x1, ?_⟩
      rw [c1, (h.k k1).2.2.2.1]
      refine ⟨fun _ => ?_, fun z => absurd (nI_lt (by omega) (by omega)) z⟩
      exact lp D.length 0 m1 (by omega) (fun q hq => r1 q (by omega)) k1
    | succ k ih =>
      intro i m1 hi k1 r1
      have ci : (nI (S + i)).toNatClampNeg = S + i := nI_clamp (by omega)
      have st : ∀ s2 : Int32, (vp_nar .boolean s2 = 0 ↔ decide (i = 0) = false) → yP (xg xs) (d + 1) 389 36 [(0, .ref 58), (1, .int (nI b)), (2, .int (nI S)), (3, .int (nI (S + i)))] [.int s2, .int (nI (S + i)), .ref 96] m1 (fun r m' => r = none ∧ R96 S D.length (rchP D D.length) m' ∧ K96 m m') := by
        intro s2 hs2
        refine w389_36 xs d _ _ _ _ _ m1 _ ⟨x_in_nI (by omega) (by decide), ?_⟩
        rw [ci, nI_1]
        refine ih (i + 1) _ (by omega) (k1.tr (K96.s _ _ _)) (fun q hq => ?_)
        by_cases c : q = i
        · rw [c, y_si_same]; exact hs2
        · rw [y_si_at, if_neg (by omega)]; exact r1 q (by omega)
      have is : nI (S + i) = nI S ↔ i = 0 := (nI_eq (by omega) (by omega)).trans ⟨fun z => by omega, fun z => by omega⟩
      refine w389_9 xs d _ _ _ m1 _ ⟨x1, ?_⟩
      rw [c1, (h.k k1).2.2.2.1]
      refine ⟨fun z => ?_, fun _ => ⟨fun z => st 0 ?_, fun z => st 1 ?_⟩⟩
      · have := (nI_ltI (by omega) (by omega)).mp z
        omega
      · rw [decide_eq_false (fun w => z (is.mpr w))]; exact nar0'
      · rw [decide_eq_true (is.mp z)]; exact nar1'
  refine w389_0 xs d _ m _ ⟨x_in_nI (by omega) (by decide), ?_⟩
  rw [nI_clamp (by omega), h.2.2.1]
  exact l1 (D.length + 1) 0 m (by omega) (K96.re m) (fun q hq => by omega)
