/-! THE REFERENCE'S WRITER: jumps and ranges -/
def WR (J : JV) (s : SU) (u : Nat) (C : List IT) (m : yM) : Prop := RW J s m ∧ RO J C m ∧ u ≤ C.length ∧ m.1 58 53 = nI u
theorem WR.kf {J : JV} {s : SU} {u : Nat} {C C' : List IT} {m m' : yM} (h : WR J s u C m) (k : KF m m') (o : RO J C' m') (hl : C.length ≤ C'.length) : WR J s u C' m' := ⟨h.1.kf k, o, by have := h.2.2.1; omega, by rw [k.2.1 53 (by omega) (by omega)]; exact h.2.2.2⟩
theorem c376k (xs : List Int32) (d : Nat) {D : Nat} {J : JV} {C : List IT} {u : Nat} {m : yM} {P : Int32 → yM → Prop} (hd : d + 1 ≤ D) (h : RO J C m) (hu : u ≤ C.length) (h53 : m.1 58 53 = nI u) (k : ∀ w, (C.length ≤ 3000 → w = nI (C.length - u)) → P w m) : yC (xg xs) D 376 [.ref 58] m (fun v1 m1 => ∃ u1, v1 = some (Value.int u1) ∧ P u1 m1) := by
  have : yC (xg xs) (d + 1) 376 [.ref 58] m (fun v1 m1 => ∃ u1, v1 = some (Value.int u1) ∧ P u1 m1) := by
    refine w376_0 xs d m _ ⟨_, rfl, k _ (fun hl => ?_)⟩
    rw [(h.1 hl).1, h53, nI_sub hu]
  exact yC.mono hd (fun _ _ q => q) this
theorem RO.set {J : JV} {P S : List IT} {x y : IT} {m : yM} (h : RO J (P ++ x :: S) m) {v : Int32} (e1 : y.1 = x.1) (e2 : (P ++ x :: S).length ≤ 3000 → raV J y = v) (e3 : y.2.2.1 = x.2.2.1) (e4 : y.2.2.2.1 = x.2.2.2.1) (e5 : y.2.2.2.2.2 = x.2.2.2.2.2) {i : Nat} (hi : (P ++ x :: S).length ≤ 3000 → i = P.length) : RO J (P ++ y :: S) (y_si m 90 i v) := by
  have ll : (P ++ y :: S).length = (P ++ x :: S).length := by simp
  refine ⟨fun hl => ?_, fun hl => ?_⟩
  · rw [ll] at hl
    obtain ⟨h1, h2, h3⟩ := h.1 hl
    have hi := hi hl
    refine ⟨by rw [y_si_at, if_neg (by omega), ll]; exact h1, by rw [y_si_at, if_neg (by omega)]; exact h2, fun k z hz => ?_⟩
    have o89 : (y_si m 90 i v).1 89 k = m.1 89 k := by rw [y_si_at, if_neg (by omega)]
    have o91 : (y_si m 90 i v).1 91 k = m.1 91 k := by rw [y_si_at, if_neg (by omega)]
    have o92 : (y_si m 90 i v).1 92 k = m.1 92 k := by rw [y_si_at, if_neg (by omega)]
    have o95 : (y_si m 90 i v).1 95 k = m.1 95 k := by rw [y_si_at, if_neg (by omega)]
    rw [o89, o91, o92, o95]
    by_cases c : k = P.length
    · rw [c, List.getElem?_append_right (Nat.le_refl _), Nat.sub_self, List.getElem?_cons_zero] at hz
      have hz := Option.some.inj hz
      obtain ⟨g1, g2, g3, g4, g5⟩ := h3 P.length x (by rw [List.getElem?_append_right (Nat.le_refl _), Nat.sub_self, List.getElem?_cons_zero])
      have o90 : (y_si m 90 i v).1 90 P.length = v := by rw [hi, y_si_same]
      rw [← hz, c, o90, e1, e2 hl, e3, e4]
      refine ⟨g1, rfl, g3, g4, ?_⟩
      rw [g5]
      unfold rlV
      rw [e5]
    · have hz' : (P ++ x :: S)[k]? = some z := by
        rw [← hz]
        rcases Nat.lt_or_ge k P.length with w | w
        · rw [List.getElem?_append_left w, List.getElem?_append_left w]
        · rw [List.getElem?_append_right w, List.getElem?_append_right w]
          obtain ⟨j, hj⟩ : ∃ j, k - P.length = j + 1 := ⟨k - P.length - 1, by omega⟩
          rw [hj, List.getElem?_cons_succ, List.getElem?_cons_succ]
      have o90 : (y_si m 90 i v).1 90 k = m.1 90 k := by rw [y_si_at, if_neg (by omega)]
      rw [o90]
      exact h3 k z hz'
  · rw [ll] at hl
    rw [y_si_at, if_neg (by omega), y_si_at, if_neg (by omega)]
    exact h.2 hl
/-- where a statement's end is waited for -/
def rsE (J : JV) (n : Nat) (W : List IT) : Prop := ∀ x, x ∈ W → (x.2.2.2.2.1 = mE n ↔ (x.1 = 10 ∧ raV J x = -1 - nI (J.2.2.2 n)))
theorem rs1_ra (J : JV) (μ : Nat) (v : Int32) (x : IT) (h : x.2.2.2.2.1 = μ) : rs1 μ v x = (x.1, v, x.2.2.1, x.2.2.2.1, 0, x.2.2.2.2.2) ∧ raV J (rs1 μ v x) = v := by
  have : rs1 μ v x = (x.1, v, x.2.2.1, x.2.2.2.1, 0, x.2.2.2.2.2) := by unfold rs1; rw [if_pos h]
  exact ⟨this, by rw [this]; unfold raV; rw [if_pos rfl]⟩
theorem c374r (xs : List Int32) (d : Nat) {J : JV} {n u : Nat} {C0 W : List IT} {m : yM} (h : RO J (C0 ++ W) m) (hu : u ≤ C0.length) (h53 : m.1 58 53 = nI u) (hr : (C0 ++ W).length ≤ 3000 → rsE J n W) {Q : Option Value → yM → Prop} (k : ∀ m1, RO J (C0 ++ res (mE n) (nI (C0.length - u + W.length)) W) m1 → KF m m1 → Q none m1) : yP (xg xs) (d + 2) 374 200 [(0, .ref 58), (1, .int (nI (J.2.2.2 n))), (6, .int (nI (min C0.length 3000)))] [] m Q := by
  rcases Nat.lt_or_ge 3000 (C0 ++ W).length with big | hl
  · -- too long: it only must end
    have lp : ∀ (q i : Nat) (m1 : yM), i + q = 3000 → KF m m1 → m1.1 58 45 = 3000 → m1.1 58 50 = 1 → yP (xg xs) (d + 2) 374 200 [(0, .ref 58), (1, .int (nI (J.2.2.2 n))), (6, .int (nI i))] [] m1 Q := by
      intro q
      induction q with
      | zero =>
        intro i m1 hi e1 a1 b1
        refine w374_200 xs (d + 1) _ _ m1 _ ?_
        rw [a1]
        refine ⟨fun _ => k m1 ⟨fun z => ?_, fun _ => ⟨a1, b1⟩⟩ e1, fun z => absurd (nI_le (a := 3000) (by omega) (by omega)) z⟩
        rw [List.length_append, res_len, ← List.length_append] at z
        omega
      | succ q ih =>
        intro i m1 hi e1 a1 b1
        have xi : x_in (nI i) 3001 = true := x_in_nI (by omega) (by decide)
        have nxt : ∀ m2, KF m m2 → m2.1 58 45 = 3000 → m2.1 58 50 = 1 → yP (xg xs) (d + 2) 374 245 [(0, .ref 58), (1, .int (nI (J.2.2.2 n))), (6, .int (nI i))] [] m2 Q := fun m2 e2 a2 b2 => w374_245 xs (d + 1) _ _ m2 _ (by rw [nI_1]; exact ih (i + 1) m2 (by omega) e2 a2 b2)
        refine w374_200 xs (d + 1) _ _ m1 _ ?_
        rw [a1]
        refine ⟨fun z => ?_, fun _ => ⟨xi, fun _ => nxt m1 e1 a1 b1, fun _ => ⟨xi, fun _ => nxt m1 e1 a1 b1, fun _ => ?_⟩⟩⟩
        · have := (nI_leI (a := 3000) (by omega) (by omega)).mp z
          omega
        · have : yC (xg xs) (d + 1) 376 [.ref 58] m1 (fun v1 m2 => ∃ u1, v1 = some (Value.int u1) ∧ (x_in (nI i) 3001 = true ∧ yP (xg xs) (d + 2) 374 245 [(0, .ref 58), (1, .int (nI (J.2.2.2 n))), (6, .int (nI i))] [] (y_si m2 90 (nI i).toNatClampNeg u1) Q)) := by
            refine w376_0 xs d m1 _ ⟨_, rfl, xi, nxt _ (e1.si (by omega)) ?_ ?_⟩
            · rw [y_si_at, if_neg (by omega)]; exact a1
            · rw [y_si_at, if_neg (by omega)]; exact b1
          exact this
    obtain ⟨a, b⟩ := h.2 big
    exact lp (3000 - min C0.length 3000) _ m (by omega) (KF.re m) a b
  · have hr := hr hl
    have l1 : C0.length ≤ 3000 := by rw [List.length_append] at hl; omega
    rw [Nat.min_eq_left l1]
    generalize hE : nI (C0.length - u + W.length) = E at *
    have lp : ∀ (W2 W1 : List IT) (m1 : yM), W = W1 ++ W2 → RO J (C0 ++ res (mE n) E W1 ++ W2) m1 → KF m m1 → yP (xg xs) (d + 2) 374 200 [(0, .ref 58), (1, .int (nI (J.2.2.2 n))), (6, .int (nI (C0.length + W1.length)))] [] m1 Q := by
      intro W2
      induction W2 with
      | nil =>
        intro W1 m1 hw o1 e1
        rw [List.append_nil] at hw o1
        subst hw
        have ll : (C0 ++ res (mE n) E W).length ≤ 3000 := by rw [List.length_append, res_len, ← List.length_append]; exact hl
        refine w374_200 xs (d + 1) _ _ m1 _ ?_
        rw [(o1.1 ll).1, List.length_append, res_len]
        exact ⟨fun _ => k m1 o1 e1, fun z => absurd (nI_le (Nat.le_refl _) (by rw [List.length_append] at hl; omega)) z⟩
      | cons x W2 ih =>
        intro W1 m1 hw o1 e1
        have xm : x ∈ W := by rw [hw]; exact List.mem_append_right _ List.mem_cons_self
        have lw : W.length = W1.length + (W2.length + 1) := by rw [hw, List.length_append, List.length_cons]
        have ll : (C0 ++ res (mE n) E W1 ++ x :: W2).length = C0.length + W.length := by rw [List.length_append, List.length_append, res_len, List.length_cons]; omega
        rw [List.length_append] at hl
        have P0 : (C0 ++ res (mE n) E W1).length = C0.length + W1.length := by rw [List.length_append, res_len]
        obtain ⟨s1, s2, s3⟩ := o1.1 (by rw [ll]; exact hl)
        obtain ⟨g1, g2, g3, g4, g5⟩ := s3 (C0.length + W1.length) x (by rw [← P0, List.getElem?_append_right (Nat.le_refl _), Nat.sub_self, List.getElem?_cons_zero])
        have xi : x_in (nI (C0.length + W1.length)) 3001 = true := x_in_nI (by omega) (by decide)
        have ei : (nI (C0.length + W1.length)).toNatClampNeg = C0.length + W1.length := nI_clamp (by omega)
        have nxt : ∀ m2, RO J (C0 ++ res (mE n) E (W1 ++ [x]) ++ W2) m2 → KF m m2 → yP (xg xs) (d + 2) 374 245 [(0, .ref 58), (1, .int (nI (J.2.2.2 n))), (6, .int (nI (C0.length + W1.length)))] [] m2 Q := fun m2 o2 e2 => w374_245 xs (d + 1) _ _ m2 _ (by
          rw [nI_1]
          have := ih (W1 ++ [x]) m2 (by rw [hw, List.append_assoc]; rfl) o2 e2
          rw [List.length_append, List.length_singleton, ← Nat.add_assoc] at this
          exact this)
        have ea : ∀ y, rs1 (mE n) E x = y → C0 ++ res (mE n) E (W1 ++ [x]) ++ W2 = C0 ++ res (mE n) E W1 ++ y :: W2 := by
          intro y hy
          rw [res_app, ← hy]
          show C0 ++ (res (mE n) E W1 ++ [rs1 (mE n) E x]) ++ W2 = _
          simp only [List.append_assoc, List.cons_append, List.nil_append]
        have skip : ¬ x.2.2.2.2.1 = mE n → yP (xg xs) (d + 2) 374 245 [(0, .ref 58), (1, .int (nI (J.2.2.2 n))), (6, .int (nI (C0.length + W1.length)))] [] m1 Q := by
          intro no
          refine nxt m1 ?_ e1
          rw [ea x (by unfold rs1; rw [if_neg no])]
          exact o1
        refine w374_200 xs (d + 1) _ _ m1 _ ?_
        rw [s1, ll, ei, g1, g2]
        refine ⟨fun z => ?_, fun _ => ⟨xi, fun z => skip (fun y => z ((hr x xm).mp y).1), fun z => ⟨xi, fun z2 => skip (fun y => z2 ((hr x xm).mp y).2), fun z2 => ?_⟩⟩⟩
        · have := (nI_leI (by omega) (by omega)).mp z
          omega
        · have yes := (hr x xm).mpr ⟨z, z2⟩
          refine c376k xs d (by omega) o1 (show u ≤ _ by rw [ll]; omega) (by rw [e1.2.1 53 (by omega) (by omega)]; exact h53) (fun w hw' => ⟨xi, ?_⟩)
          have hw' := hw' (by rw [ll]; exact hl)
          have ew : w = E := by rw [hw', ll, ← hE]; congr 1; omega
          obtain ⟨q1, q2⟩ := rs1_ra J (mE n) E x yes
          refine nxt _ ?_ (e1.si (by omega))
          rw [ea _ rfl, ew]
          exact RO.set o1 (by rw [q1]) (fun _ => q2) (by rw [q1]) (by rw [q1]) (by rw [q1]) (fun _ => P0.symm)
    exact lp W [] m rfl (by rw [show res (mE n) E [] = [] from rfl, List.append_nil]; exact h) (KF.re m)
/-- where a loop's end is waited for -/
def rsX (J : JV) (n : Nat) (W : List IT) : Prop := ∀ x, x ∈ W → (x.2.2.2.2.1 = mX n ↔ rlV J x = nI (J.2.2.2 n))
theorem c377r (xs : List Int32) (d : Nat) {J : JV} {n u : Nat} {C0 W : List IT} {m : yM} (h : RO J (C0 ++ W) m) (hu : u ≤ C0.length) (h53 : m.1 58 53 = nI u) (hr : (C0 ++ W).length ≤ 3000 → rsX J n W) {Q : Option Value → yM → Prop} (k : ∀ m1, RO J (C0 ++ res (mX n) (nI (C0.length - u + W.length)) W) m1 → KF m m1 → Q none m1) : yP (xg xs) (d + 2) 377 198 [(0, .ref 58), (1, .int (nI (J.2.2.2 n))), (7, .int (nI (min C0.length 3000)))] [] m Q := by
  rcases Nat.lt_or_ge 3000 (C0 ++ W).length with big | hl
  · have lp : ∀ (q i : Nat) (m1 : yM), i + q = 3000 → KF m m1 → m1.1 58 45 = 3000 → m1.1 58 50 = 1 → yP (xg xs) (d + 2) 377 198 [(0, .ref 58), (1, .int (nI (J.2.2.2 n))), (7, .int (nI i))] [] m1 Q := by
      intro q
      induction q with
      | zero =>
        intro i m1 hi e1 a1 b1
        refine w377_198 xs (d + 1) _ _ m1 _ ?_
        rw [a1]
        refine ⟨fun _ => k m1 ⟨fun z => ?_, fun _ => ⟨a1, b1⟩⟩ e1, fun z => absurd (nI_le (a := 3000) (by omega) (by omega)) z⟩
        rw [List.length_append, res_len, ← List.length_append] at z
        omega
      | succ q ih =>
        intro i m1 hi e1 a1 b1
        have xi : x_in (nI i) 3001 = true := x_in_nI (by omega) (by decide)
        have nxt : ∀ m2, KF m m2 → m2.1 58 45 = 3000 → m2.1 58 50 = 1 → yP (xg xs) (d + 2) 377 229 [(0, .ref 58), (1, .int (nI (J.2.2.2 n))), (7, .int (nI i))] [] m2 Q := fun m2 e2 a2 b2 => w377_229 xs (d + 1) _ _ m2 _ (by rw [nI_1]; exact ih (i + 1) m2 (by omega) e2 a2 b2)
        refine w377_198 xs (d + 1) _ _ m1 _ ?_
        rw [a1]
        refine ⟨fun z => ?_, fun _ => ⟨xi, fun _ => nxt m1 e1 a1 b1, fun _ => ?_⟩⟩
        · have := (nI_leI (a := 3000) (by omega) (by omega)).mp z
          omega
        · have : yC (xg xs) (d + 1) 376 [.ref 58] m1 (fun v1 m2 => ∃ u1, v1 = some (Value.int u1) ∧ (x_in (nI i) 3001 = true ∧ yP (xg xs) (d + 2) 377 229 [(0, .ref 58), (1, .int (nI (J.2.2.2 n))), (7, .int (nI i))] [] (y_si m2 90 (nI i).toNatClampNeg u1) Q)) := by
            refine w376_0 xs d m1 _ ⟨_, rfl, xi, nxt _ (e1.si (by omega)) ?_ ?_⟩
            · rw [y_si_at, if_neg (by omega)]; exact a1
            · rw [y_si_at, if_neg (by omega)]; exact b1
          exact this
    obtain ⟨a, b⟩ := h.2 big
    exact lp (3000 - min C0.length 3000) _ m (by omega) (KF.re m) a b
  · have hr := hr hl
    have l1 : C0.length ≤ 3000 := by rw [List.length_append] at hl; omega
    rw [Nat.min_eq_left l1]
    generalize hE : nI (C0.length - u + W.length) = E at *
    have lp : ∀ (W2 W1 : List IT) (m1 : yM), W = W1 ++ W2 → RO J (C0 ++ res (mX n) E W1 ++ W2) m1 → KF m m1 → yP (xg xs) (d + 2) 377 198 [(0, .ref 58), (1, .int (nI (J.2.2.2 n))), (7, .int (nI (C0.length + W1.length)))] [] m1 Q := by
      intro W2
      induction W2 with
      | nil =>
        intro W1 m1 hw o1 e1
        rw [List.append_nil] at hw o1
        subst hw
        have ll : (C0 ++ res (mX n) E W).length ≤ 3000 := by rw [List.length_append, res_len, ← List.length_append]; exact hl
        refine w377_198 xs (d + 1) _ _ m1 _ ?_
        rw [(o1.1 ll).1, List.length_append, res_len]
        exact ⟨fun _ => k m1 o1 e1, fun z => absurd (nI_le (Nat.le_refl _) (by rw [List.length_append] at hl; omega)) z⟩
      | cons x W2 ih =>
        intro W1 m1 hw o1 e1
        have xm : x ∈ W := by rw [hw]; exact List.mem_append_right _ List.mem_cons_self
        have lw : W.length = W1.length + (W2.length + 1) := by rw [hw, List.length_append, List.length_cons]
        have ll : (C0 ++ res (mX n) E W1 ++ x :: W2).length = C0.length + W.length := by rw [List.length_append, List.length_append, res_len, List.length_cons]; omega
        rw [List.length_append] at hl
        have P0 : (C0 ++ res (mX n) E W1).length = C0.length + W1.length := by rw [List.length_append, res_len]
        obtain ⟨s1, s2, s3⟩ := o1.1 (by rw [ll]; exact hl)
        obtain ⟨g1, g2, g3, g4, g5⟩ := s3 (C0.length + W1.length) x (by rw [← P0, List.getElem?_append_right (Nat.le_refl _), Nat.sub_self, List.getElem?_cons_zero])
        have xi : x_in (nI (C0.length + W1.length)) 3001 = true := x_in_nI (by omega) (by decide)
        have ei : (nI (C0.length + W1.length)).toNatClampNeg = C0.length + W1.length := nI_clamp (by omega)
        have nxt : ∀ m2, RO J (C0 ++ res (mX n) E (W1 ++ [x]) ++ W2) m2 → KF m m2 → yP (xg xs) (d + 2) 377 229 [(0, .ref 58), (1, .int (nI (J.2.2.2 n))), (7, .int (nI (C0.length + W1.length)))] [] m2 Q := fun m2 o2 e2 => w377_229 xs (d + 1) _ _ m2 _ (by
          rw [nI_1]
          have := ih (W1 ++ [x]) m2 (by rw [hw, List.append_assoc]; rfl) o2 e2
          rw [List.length_append, List.length_singleton, ← Nat.add_assoc] at this
          exact this)
        have ea : ∀ y, rs1 (mX n) E x = y → C0 ++ res (mX n) E (W1 ++ [x]) ++ W2 = C0 ++ res (mX n) E W1 ++ y :: W2 := by
          intro y hy
          rw [res_app, ← hy]
          show C0 ++ (res (mX n) E W1 ++ [rs1 (mX n) E x]) ++ W2 = _
          simp only [List.append_assoc, List.cons_append, List.nil_append]
        refine w377_198 xs (d + 1) _ _ m1 _ ?_
        rw [s1, ll, ei, g5]
        refine ⟨fun z => ?_, fun _ => ⟨xi, fun z => ?_, fun z => ?_⟩⟩
        · have := (nI_leI (by omega) (by omega)).mp z
          omega
        · have no : ¬ x.2.2.2.2.1 = mX n := fun y => z ((hr x xm).mp y)
          refine nxt m1 ?_ e1
          rw [ea x (by unfold rs1; rw [if_neg no])]
          exact o1
        · have yes := (hr x xm).mpr z
          refine c376k xs d (by omega) o1 (show u ≤ _ by rw [ll]; omega) (by rw [e1.2.1 53 (by omega) (by omega)]; exact h53) (fun w hw' => ⟨xi, ?_⟩)
          have hw' := hw' (by rw [ll]; exact hl)
          have ew : w = E := by rw [hw', ll, ← hE]; congr 1; omega
          obtain ⟨q1, q2⟩ := rs1_ra J (mX n) E x yes
          refine nxt _ ?_ (e1.si (by omega))
          rw [ea _ rfl, ew]
          exact RO.set o1 (by rw [q1]) (fun _ => q2) (by rw [q1]) (by rw [q1]) (by rw [q1]) (fun _ => P0.symm)
    exact lp W [] m rfl (by rw [show res (mX n) E [] = [] from rfl, List.append_nil]; exact h) (KF.re m)
