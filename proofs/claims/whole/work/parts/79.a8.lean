/-! MEASURE: the class's stack -/
set_option maxRecDepth 20000 in
/-- java/util/Arrays.fill from 0 on -/
theorem w221_0 (xs : List Int32) (d : Nat) (l1 : Int32) (l2 : Int32) (l3 : Int64) (m : yM) (Q : Option Value → yM → Prop) (H : (yC (xg xs) d 222 [.int (3001 : Int32), .int l1, .int l2] m (fun v1 m1 => v1 = none ∧ yP (xg xs) (d + 1) 221 10 [(0, .ref 46), (2, .int l2), (3, .long l3), (5, .int l1)] [] m1 Q))) : yP (xg xs) (d + 1) 221 0 [(0, .ref 46), (1, .int l1), (2, .int l2), (3, .long l3)] [] m Q := by
  refine y_st rfl rfl rfl rfl rfl (fun _ _ => rfl) ?_
  refine y_st rfl rfl rfl rfl rfl (fun _ _ => rfl) ?_
  refine y_st rfl rfl rfl rfl rfl (fun _ _ => rfl) ?_
  refine y_st rfl rfl rfl rfl rfl (fun _ _ => rfl) ?_
  show yP (xg xs) (d + 1) 221 4 [(0, .ref 46), (1, .int l1), (2, .int l2), (3, .long l3)] [.int l2, .int l1, .int (3001 : Int32)] m Q
  refine y_call rfl rfl rfl rfl rfl (Nat.le_of_ble_eq_true rfl) (Nat.le_of_ble_eq_true rfl) rfl (by decide) H (fun v1 m1 H => ?_)
  obtain ⟨rfl, H⟩ := H
  refine y_st rfl rfl rfl rfl rfl (fun _ _ => rfl) ?_
  refine y_st rfl rfl rfl rfl rfl (fun _ _ => rfl) ?_
  show yP (xg xs) (d + 1) 221 10 [(5, .int l1), (0, .ref 46), (1, .int l1), (2, .int l2), (3, .long l3)] [] m1 Q
  refine y_headS (l2 := [(0, .ref 46), (2, .int l2), (3, .long l3), (5, .int l1)]) [1, 3, 4, 0] [0, 2, 3, 5] [5, 0, 1, 2, 3] rfl rfl (by decide) rfl (by decide) ?_
  exact H
set_option maxRecDepth 20000 in
/-- java/util/Arrays.fill from 10 on -/
theorem w221_10 (xs : List Int32) (d : Nat) (l2 : Int32) (l3 : Int64) (l5 : Int32) (m : yM) (Q : Option Value → yM → Prop) (H : ((l2 ≤ l5 → Q none m) ∧ (¬ l2 ≤ l5 → (x_in l5 3001 = true ∧ yP (xg xs) (d + 1) 221 10 [(0, .ref 46), (2, .int l2), (3, .long l3), (5, .int (l5 + (1 : Int32)))] [] (y_sl m 46 l5.toNatClampNeg l3) Q)))) : yP (xg xs) (d + 1) 221 10 [(0, .ref 46), (2, .int l2), (3, .long l3), (5, .int l5)] [] m Q := by
  refine y_st rfl rfl rfl rfl rfl (fun _ _ => rfl) ?_
  refine y_st rfl rfl rfl rfl rfl (fun _ _ => rfl) ?_
  show yP (xg xs) (d + 1) 221 13 [(0, .ref 46), (2, .int l2), (3, .long l3), (5, .int l5)] [.int l2, .int l5] m Q
  refine y_ige (t := 27) rfl rfl rfl (fun h => ?_) (fun h => ?_)
  · replace H := H.1 h; clear h
    show yP (xg xs) (d + 1) 221 27 [(0, .ref 46), (2, .int l2), (3, .long l3), (5, .int l5)] [] m Q
    exact y_ret rfl rfl rfl rfl H
  · replace H := H.2 h; clear h
    refine y_st rfl rfl rfl rfl rfl (fun _ _ => rfl) ?_
    refine y_st rfl rfl rfl rfl rfl (fun _ _ => rfl) ?_
    refine y_st rfl rfl rfl rfl rfl (fun _ _ => rfl) ?_
    show yP (xg xs) (d + 1) 221 20 [(0, .ref 46), (2, .int l2), (3, .long l3), (5, .int l5)] [.long l3, .int l5, .ref 46] m Q
    refine y_last rfl rfl rfl (H.1) ?_
    replace H := H.2
    refine y_st rfl rfl rfl rfl rfl (fun _ _ => rfl) ?_
    refine y_st rfl rfl rfl rfl rfl (fun _ _ => rfl) ?_
    show yP (xg xs) (d + 1) 221 10 [(5, .int (l5 + (1 : Int32))), (0, .ref 46), (2, .int l2), (3, .long l3)] [] (y_sl m 46 l5.toNatClampNeg l3) Q
    refine y_headS (l2 := [(0, .ref 46), (2, .int l2), (3, .long l3), (5, .int (l5 + (1 : Int32)))]) [1, 2, 3, 0] [0, 2, 3, 5] [5, 0, 2, 3] rfl rfl (by decide) rfl (by decide) ?_
    exact H
theorem c222 (xs : List Int32) (d : Nat) (m : yM) {a b c : Int32} (h1 : b ≤ c) (h2 : 0 ≤ b) (h3 : c ≤ a) : yC (xg xs) d 222 [.int a, .int b, .int c] m (fun r m' => r = none ∧ m' = m) := by
  refine y_st rfl rfl rfl rfl rfl (fun _ _ => rfl) ?_
  refine y_st rfl rfl rfl rfl rfl (fun _ _ => rfl) ?_
  show yP (xg xs) d 222 2 [(0, .int a), (1, .int b), (2, .int c)] [.int c, .int b] m _
  refine y_ile (t := 46) rfl rfl rfl (fun h => ?_) (fun h => absurd h1 h)
  refine y_st rfl rfl rfl rfl rfl (fun _ _ => rfl) ?_
  show yP (xg xs) d 222 47 [(0, .int a), (1, .int b), (2, .int c)] [.int b] m _
  refine y_zge (t := 59) rfl rfl rfl (fun h => ?_) (fun h => absurd h2 h)
  refine y_st rfl rfl rfl rfl rfl (fun _ _ => rfl) ?_
  refine y_st rfl rfl rfl rfl rfl (fun _ _ => rfl) ?_
  show yP (xg xs) d 222 61 [(0, .int a), (1, .int b), (2, .int c)] [.int a, .int c] m _
  refine y_ile (t := 73) rfl rfl rfl (fun h => ?_) (fun h => absurd h3 h)
  show yP (xg xs) d 222 73 [(0, .int a), (1, .int b), (2, .int c)] [] m _
  exact y_ret rfl rfl rfl rfl ⟨rfl, rfl⟩
/-- only longs of some arrays change -/
def K46 (m m' : yM) : Prop := m'.1 = m.1 ∧ ∀ a, ¬ a = 46 → m'.2 a = m.2 a
theorem K46.re (m : yM) : K46 m m := ⟨rfl, fun _ _ => rfl⟩
theorem K46.tr {m m1 m2 : yM} (h : K46 m m1) (h2 : K46 m1 m2) : K46 m m2 := ⟨h2.1.trans h.1, fun a x => by rw [h2.2 a x, h.2 a x]⟩
theorem K46.s (m : yM) (i : Nat) (v : Int64) : K46 m (y_sl m 46 i v) := ⟨rfl, fun a x => funext fun j => by rw [y_sl_at, if_neg (fun z => x z.1)]⟩
theorem y_sl_same (m : yM) (k i : Nat) (v : Int64) : (y_sl m k i v).2 k i = v := by rw [y_sl_at, if_pos ⟨rfl, rfl⟩]
theorem c221 (xs : List Int32) (d : Nat) (m : yM) {n : Nat} (hn : n ≤ 3001) (v : Int64) : yC (xg xs) (d + 1) 221 [.ref 46, .int 0, .int (nI n), .long v] m (fun r m' => r = none ∧ K46 m m' ∧ ∀ k, k < n → m'.2 46 k = v) := by
  have lp : ∀ (k i : Nat) (m1 : yM), i + k = n → K46 m m1 → (∀ q, q < i → m1.2 46 q = v) → yP (xg xs) (d + 1) 221 10 [(0, .ref 46), (2, .int (nI n)), (3, .long v), (5, .int (nI i))] [] m1 (fun r m' => r = none ∧ K46 m m' ∧ ∀ k, k < n → m'.2 46 k = v) := by
    intro k
    induction k with
    | zero =>
      intro i m1 hi k1 r1
      have hi : i = n := hi
      subst hi
      exact w221_10 xs d _ _ _ m1 _ ⟨fun _ => ⟨rfl, k1, r1⟩, fun z => absurd (nI_le (Nat.le_refl _) (by omega)) z⟩
    | succ k ih =>
      intro i m1 hi k1 r1
      refine w221_10 xs d _ _ _ m1 _ ⟨fun z => ?_, fun _ => ⟨x_in_nI (by omega) (by decide), ?_⟩⟩
      · have := (nI_leI (by omega) (by omega)).mp z
        omega
      · rw [nI_clamp (by omega), nI_1]
        refine ih (i + 1) _ (by omega) (k1.tr (K46.s _ _ _)) (fun q hq => ?_)
        by_cases c : q = i
        · rw [c, y_sl_same]
        · rw [y_sl_at, if_neg (fun z => c z.2)]; exact r1 q (by omega)
  refine w221_0 xs d _ _ _ m _ (y_cv (c222 xs d m (nI_le (a := 0) (Nat.zero_le _) (by omega)) (by decide) (nI_le (b := 3001) hn (by decide))) (Nat.le_refl _) ?_)
  exact lp n 0 m (by omega) (K46.re m) (fun q hq => absurd hq (Nat.not_lt_zero _))
/-- a unit's code as the class holds it: from S on -/
def CD (D : List IT) (S b : Nat) (m : yM) : Prop := S + D.length ≤ 3000 ∧ b < 16 ∧ m.1 40 b = nI S ∧ ((m.1 35 7 ≤ nI b + 1 ∧ m.1 35 6 = nI (S + D.length)) ∨ (¬ m.1 35 7 ≤ nI b + 1 ∧ b + 1 < 16 ∧ m.1 40 (b + 1) = nI (S + D.length))) ∧ ∀ i x, D[i]? = some x → m.1 36 (S + i) = x.1 ∧ m.1 37 (S + i) = x.2.1 ∧ m.1 38 (S + i) = x.2.2.1
theorem CD.k {D : List IT} {S b : Nat} {m m' : yM} (h : CD D S b m) (k : ∀ a i, a < 45 → m'.1 a i = m.1 a i) : CD D S b m' := by
  obtain ⟨h1, h2, h3, h4, h5⟩ := h
  refine ⟨h1, h2, by rw [k _ _ (by omega)]; exact h3, ?_, fun i x hx => ?_⟩
  · rw [k _ _ (by omega), k _ _ (by omega), k _ _ (by omega)]; exact h4
  · rw [k _ _ (by omega), k _ _ (by omega), k _ _ (by omega)]; exact h5 i x hx
theorem c220d (xs : List Int32) (d : Nat) {D : List IT} {S b : Nat} {m : yM} (h : CD D S b m) : yC (xg xs) (d + 1) 220 [.ref 35, .int (nI b)] m (fun r m' => r = some (.int (nI D.length)) ∧ m' = m) := by
  obtain ⟨h1, h2, h3, h4, h5⟩ := h
  have cb : (nI b).toNatClampNeg = b := nI_clamp (by omega)
  have cb1 : (nI b + 1).toNatClampNeg = b + 1 := by rw [nI_1]; exact nI_clamp (by omega)
  refine w220_0 xs d _ m _ ?_
  rw [cb, cb1, h3]
  have e : nI (S + D.length) - nI S = nI D.length := by rw [nI_sub (by omega), Nat.add_sub_cancel_left]
  rcases h4 with ⟨z, y⟩ | ⟨z, w, y⟩
  · rw [y, e]
    exact ⟨fun _ => ⟨x_in_nI h2 (by decide), rfl, rfl⟩, fun q => absurd z q⟩
  · rw [y, e]
    exact ⟨fun q => absurd q z, fun _ => ⟨by rw [nI_1]; exact x_in_nI w (by decide), x_in_nI h2 (by decide), rfl, rfl⟩⟩
/-- a position is come to -/
def cmV (v o : Int64) : Int64 := if (if (1000000000000 : Int64) < v then (1000000000000 : Int64) else v) < o then o else (if (1000000000000 : Int64) < v then (1000000000000 : Int64) else v)
theorem c224 (xs : List Int32) (d : Nat) (m : yM) {t : Nat} (ht : t ≤ 3000) (v : Int64) : yC (xg xs) (d + 1) 224 [.ref 45, .int (nI t), .long v] m (fun r m' => r = none ∧ m' = y_sl m 46 t (cmV v (m.2 46 t))) := by
  refine w224_0 xs d _ _ m _ ⟨fun z => ?_, fun _ => ⟨fun z => ?_, fun _ => ⟨x_in_nI (by omega) (by decide), x_in_nI (by omega) (by decide), rfl, ?_⟩⟩⟩
  · have := (nI_ltI (b := 0) (by omega) (by omega)).mp z
    omega
  · have := (nI_ltI (a := 3000) (by omega) (by omega)).mp z
    omega
  · rw [nI_clamp (by omega)]; rfl
def S46 (n : Nat) (r : Nat → Bool) (m : yM) : Prop := ∀ k, k ≤ n → m.2 46 k = if r k = true then 0 else -1
theorem S46.set {n j : Nat} {r : Nat → Bool} {m : yM} (h : S46 n r m) : S46 n (fun k => r k || decide (k = j)) (y_sl m 46 j 0) := by
  intro k hk
  by_cases c : k = j
  · have e : (fun k => r k || decide (k = j)) k = true := by show (r k || decide (k = j)) = true; rw [decide_eq_true c, Bool.or_true]
    rw [e, c, y_sl_same, if_pos rfl]
  · have e : (fun k => r k || decide (k = j)) k = r k := by show (r k || decide (k = j)) = r k; rw [decide_eq_false c, Bool.or_false]
    rw [e, y_sl_at, if_neg (fun z => c z.2)]; exact h k hk
theorem S46.cg {n : Nat} {r r' : Nat → Bool} {m : yM} (h : S46 n r m) (e : ∀ k, k ≤ n → r k = r' k) : S46 n r' m := fun k hk => by rw [← e k hk]; exact h k hk
theorem S46.cm {n j : Nat} {r : Nat → Bool} {m : yM} (h : S46 n r m) (hj : j ≤ n) : cmV 0 (m.2 46 j) = 0 := by
  rw [h j hj]
  split <;> decide
theorem c219 (xs : List Int32) (d : Nat) {D : List IT} {S b : Nat} {m : yM} (h : CD D S b m) (hf : FW D.length D 0) (h0 : mk0 D) (hop : iOps D) : yC (xg xs) (d + 2) 219 [.ref 45, .int (nI b)] m (fun r m' => (∃ u, r = some (.int u) ∧ (u = 0 ↔ ∀ i, i < D.length → rchP D D.length i = true → layP D (i + 1) ≤ 64)) ∧ K46 m m') := by
  have hS := h.1
  have hb := h.2.1
  have lp : ∀ (k i : Nat) (m1 : yM), i + k = D.length → S46 D.length (rchP D i) m1 → K46 m m1 → (∀ j, j < i → rchP D D.length j = true → layP D (j + 1) ≤ 64) → yP (xg xs) (d + 2) 219 46 [(0, .ref 45), (2, .int (nI S)), (3, .int (nI D.length)), (4, .int (layP D i)), (5, .int (nI i))] [] m1 (fun r m' => (∃ u, r = some (.int u) ∧ (u = 0 ↔ ∀ i, i < D.length → rchP D D.length i = true → layP D (i + 1) ≤ 64)) ∧ K46 m m') := by
    intro k
    induction k with
    | zero =>
      intro i m1 hi r1 k1 u1
      have hi : i = D.length := hi
      subst hi
      exact w219_46 xs (d + 1) _ _ _ _ m1 _ ⟨fun _ => ⟨⟨0, rfl, fun _ => u1, fun _ => rfl⟩, k1⟩, fun z => absurd (nI_le (Nat.le_refl _) (by omega)) z⟩
    | succ k ih =>
      intro i m1 hi r1 k1 u1
      have hx : D[i]? = some (D.getD i dIT) := getD_some (by omega)
      have hd1 := h.k (m' := m1) (fun a j _ => by rw [k1.1])
      obtain ⟨a1, a2, a3⟩ := hd1.2.2.2.2 i _ hx
      obtain ⟨f1, f2, f3⟩ := hf i _ hx
      have mz := h0 _ (List.mem_of_getElem? hx)
      obtain ⟨q, q1, q2⟩ := hop _ (List.mem_of_getElem? hx)
      have er : rchP D (i + 1) = rchS (D.getD i dIT) i (rchP D i) := rfl
      have el : layP D (i + 1) = layP D i + xar_6.getD ((D.getD i dIT).1).toNatClampNeg 0 := rfl
      have st : rchP D D.length i = rchP D i i := by
        have := rchP_st hf h0 (by omega) (j := i) (D.length - i) i (by omega) (Nat.le_refl _)
        rw [show i + (D.length - i) = D.length by omega] at this
        exact this
      generalize D.getD i dIT = x at *
      have ea : nI S + nI i = nI (S + i) := nI_add ..
      have ci : (nI i).toNatClampNeg = i := nI_clamp (by omega)
      have ci2 : (nI (S + i)).toNatClampNeg = S + i := nI_clamp (by omega)
      have xi : x_in (nI (S + i)) 3000 = true := x_in_nI (by omega) (by decide)
      have xi3 : x_in (nI i + 1) 3001 = true := by rw [nI_1]; exact x_in_nI (by omega) (by decide)
      have ci3 : (nI i + 1).toNatClampNeg = i + 1 := by rw [nI_1]; exact nI_clamp (by omega)
      have nxt : ∀ m2, S46 D.length (rchP D (i + 1)) m2 → K46 m m2 → (rchP D i i = true → layP D (i + 1) ≤ 64) → yP (xg xs) (d + 2) 219 174 [(0, .ref 45), (2, .int (nI S)), (3, .int (nI D.length)), (4, .int (layP D (i + 1))), (5, .int (nI i))] [] m2 (fun r m' => (∃ u, r = some (.int u) ∧ (u = 0 ↔ ∀ i, i < D.length → rchP D D.length i = true → layP D (i + 1) ≤ 64)) ∧ K46 m m') := by
        intro m2 r2 k2 u2
        refine w219_174 xs (d + 1) _ _ _ _ m2 _ ?_
        rw [nI_1]
        refine ih (i + 1) m2 (by omega) r2 k2 (fun j hj hr => ?_)
        by_cases c : j = i
        · rw [c]
          rw [c, st] at hr
          exact u2 hr
        · exact u1 j (by omega) hr
      have vi := r1 i (by omega)
      refine w219_46 xs (d + 1) _ _ _ _ m1 _ ⟨fun z => ?_, fun _ => ?_⟩
      · have := (nI_leI (by omega) (by omega)).mp z
        omega
      rw [ea, ci2, ci, ci3, a1, vi]
      refine ⟨xi, ?_, x_in_nI (by omega) (by decide), ?_⟩
      · rw [q2]; exact x_in_nI (show q < 19 from q1) (by decide)
      rw [← el]
      cases hr : rchP D i i with
      | false =>
        refine ⟨fun _ => nxt m1 (r1.cg (fun k hk => ?_)) k1 (fun z => by rw [hr] at z; cases z), fun z => absurd z (by decide)⟩
        rw [er]; unfold rchS; rw [if_neg (by rw [hr]; decide)]
      | true =>
        refine ⟨fun z => absurd (by decide) z, fun _ => ⟨fun z4 => ?_, fun z4 => ⟨⟨1, rfl, fun y => absurd y (by decide), fun y => absurd (y i (by omega) (by rw [st]; exact hr)) z4⟩, k1⟩⟩⟩
        have go : ∀ q, rchP D (i + 1) q = (rchP D i q || (goB x.1 && decide (q = i + 1)) || decide (tgI x = some q)) := by
          intro q
          rw [er]
          unfold rchS
          rw [if_pos hr]
        have s116 : ∀ m2, S46 D.length (fun q => rchP D i q || (goB x.1 && decide (q = i + 1))) m2 → K46 m m2 → yP (xg xs) (d + 2) 219 116 [(0, .ref 45), (2, .int (nI S)), (3, .int (nI D.length)), (4, .int (layP D (i + 1))), (5, .int (nI i)), (6, .int x.1)] [] m2 (fun r m' => (∃ u, r = some (.int u) ∧ (u = 0 ↔ ∀ i, i < D.length → rchP D D.length i = true → layP D (i + 1) ≤ 64)) ∧ K46 m m') := by
          intro m2 r2 k2
          have o37 : m2.1 37 (S + i) = x.2.1 := by rw [k2.1, ← k1.1]; exact a2
          have o38 : m2.1 38 (S + i) = x.2.2.1 := by rw [k2.1, ← k1.1]; exact a3
          have jump : ∀ t', t' ≤ D.length → tgI x = some t' → ∀ v, v = nI t' → yC (xg xs) (d + 1) 224 [.ref 45, .int v, .long 0] m2 (fun v1 m1 => v1 = none ∧ yP (xg xs) (d + 2) 219 174 [(0, .ref 45), (2, .int (nI S)), (3, .int (nI D.length)), (4, .int (layP D (i + 1))), (5, .int (nI i))] [] m1 (fun r m' => (∃ u, r = some (.int u) ∧ (u = 0 ↔ ∀ i, i < D.length → rchP D D.length i = true → layP D (i + 1) ≤ 64)) ∧ K46 m m')) := by
            intro t' t1 t2 v hv
            subst hv
            refine y_cv (c224 xs d m2 (show t' ≤ 3000 by omega) 0) (by omega) ?_
            rw [r2.cm t1]
            refine nxt _ ((r2.set (j := t')).cg (fun q _ => ?_)) (k2.tr (K46.s _ _ _)) (fun _ => z4)
            rw [go q, t2]
            show (rchP D i q || (goB x.1 && decide (q = i + 1)) || decide (q = t')) = _
            congr 1
            by_cases c : q = t'
            · rw [decide_eq_true c, decide_eq_true (by rw [c])]
            · rw [decide_eq_false c, decide_eq_false (fun w => c (Option.some.inj w).symm)]
          have s130 : (x.1 = 10 ∨ x.1 = 11) → yP (xg xs) (d + 2) 219 130 [(0, .ref 45), (2, .int (nI S)), (3, .int (nI D.length)), (4, .int (layP D (i + 1))), (5, .int (nI i))] [] m2 (fun r m' => (∃ u, r = some (.int u) ∧ (u = 0 ↔ ∀ i, i < D.length → rchP D D.length i = true → layP D (i + 1) ≤ 64)) ∧ K46 m m') := by
            intro hq
            obtain ⟨t', t1, t2, t3⟩ := f1 mz hq
            refine w219_130 xs (d + 1) _ _ _ _ m2 _ ?_
            rw [ea, ci2, o37]
            exact ⟨xi, jump t' t2 (by unfold tgI; rw [if_pos hq, t3, nI_clamp (by omega)]) _ t3⟩
          refine w219_116 xs (d + 1) _ _ _ _ _ m2 _ ⟨fun w => s130 (Or.inl w), fun w => ⟨fun w2 => ⟨fun w3 => ?_, fun w3 => ?_⟩, fun w2 => s130 (Or.inr w2)⟩⟩
          · refine nxt m2 (r2.cg (fun q _ => ?_)) k2 (fun _ => z4)
            have nn : tgI x = none := by unfold tgI; rw [if_neg (fun v => v.elim w w2), if_neg w3]
            have nn2 : decide ((none : Option Nat) = some q) = false := decide_eq_false (fun w => by cases w)
            rw [go q, nn, nn2, Bool.or_false]
          · obtain ⟨t', t1, t2, t3⟩ := f2 w3
            rw [ea, ci2, o38]
            exact ⟨xi, jump t' t2 (by unfold tgI; rw [if_neg (fun v => v.elim w w2), if_pos w3, t3, nI_clamp (by omega)]) _ t3⟩
        refine y_ci (c223 xs d m1 x.1) (by omega) ⟨fun w => ?_, fun w => ⟨xi3, ?_⟩⟩
        · have gf : goB x.1 = false := by
            cases hg : goB x.1 with
            | false => rfl
            | true => rw [hg] at w; exact absurd w (by decide)
          refine s116 m1 (r1.cg (fun q _ => ?_)) k1
          rw [gf, Bool.false_and, Bool.or_false]
        · have gf : goB x.1 = true := by
            cases hg : goB x.1 with
            | true => rfl
            | false => rw [hg] at w; exact absurd rfl w
          refine s116 _ ((r1.set (j := i + 1)).cg (fun q _ => ?_)) (k1.tr (K46.s _ _ _))
          rw [gf, Bool.true_and]
  refine w219_0 xs (d + 1) _ m _ ⟨x_in_nI hb (by decide), y_ci (c220d xs d h) (by omega) ?_⟩
  rw [nI_clamp (by omega), h.2.2.1, nI_1]
  refine yC.mono (by omega) (fun r m1 q => ⟨q.1, ?_⟩) (c221 xs d m (n := D.length + 1) (by omega) (-1))
  obtain ⟨-, k1, v1⟩ := q
  refine lp D.length 0 _ (by omega) (fun k hk => ?_) (k1.tr (K46.s _ _ _)) (fun j hj => absurd hj (Nat.not_lt_zero _))
  by_cases c : k = 0
  · rw [c, y_sl_same]; rfl
  · rw [y_sl_at, if_neg (fun z => c z.2), v1 k (by omega), if_neg]
    intro z
    exact c (of_decide_eq_true z)
