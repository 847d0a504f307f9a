/-! THE REFERENCE'S WRITER: what it holds of the code -/
def raV (J : JV) (x : IT) : Int32 := if x.2.2.2.2.1 = 0 then x.2.1 else if x.2.2.2.2.1 % 2 = 1 then -1 - nI (J.2.2.2 (x.2.2.2.2.1 / 2)) else 0
def rlV (J : JV) (x : IT) : Int32 := if x.2.2.2.2.2 = 0 then -1 else nI (J.2.2.2 x.2.2.2.2.2)
def RO (J : JV) (C : List IT) (m : yM) : Prop := (C.length ≤ 3000 → m.1 58 45 = nI C.length ∧ m.1 58 50 = 0 ∧ ∀ i x, C[i]? = some x → m.1 89 i = x.1 ∧ m.1 90 i = raV J x ∧ m.1 91 i = x.2.2.1 ∧ m.1 92 i = x.2.2.2.1 ∧ m.1 95 i = rlV J x) ∧ (3000 < C.length → m.1 58 45 = 3000 ∧ m.1 58 50 = 1)
/-- what writing leaves alone -/
def KF (m m' : yM) : Prop := (∀ a i, a ≠ 58 → a < 89 ∨ (92 < a ∧ a ≠ 95) → m'.1 a i = m.1 a i) ∧ (∀ i, i ≠ 45 → i ≠ 50 → m'.1 58 i = m.1 58 i) ∧ m'.2 = m.2
theorem KF.re (m : yM) : KF m m := ⟨fun _ _ _ _ => rfl, fun _ _ _ => rfl, rfl⟩
theorem KF.tr {m m1 m2 : yM} (h : KF m m1) (h2 : KF m1 m2) : KF m m2 := ⟨fun a i x y => by rw [h2.1 a i x y, h.1 a i x y], fun i x y => by rw [h2.2.1 i x y, h.2.1 i x y], h2.2.2.trans h.2.2⟩
theorem KF.si {m m' : yM} (h : KF m m') {k i : Nat} {v : Int32} (hk : (88 < k ∧ k < 93) ∨ k = 95 ∨ (k = 58 ∧ (i = 45 ∨ i = 50))) : KF m (y_si m' k i v) := ⟨fun a b x y => by rw [y_si_at, if_neg (by omega)]; exact h.1 a b x y, fun b x y => by rw [y_si_at, if_neg (by omega)]; exact h.2.1 b x y, h.2.2⟩
/-- all nodes are looked at -/
def RW (J : JV) (s : SU) (m : yM) : Prop := RX J [] J.2.2.1.length s m
theorem RW.kf {J : JV} {s : SU} {m m' : yM} (h : RW J s m) (k : KF m m') : RW J s m' := by
  obtain ⟨⟨h1, h2, h3⟩, h4, h5⟩ := h
  refine ⟨⟨h1.fr (fun a i x y => k.1 a i (by omega) (by omega)) (k.2.1 12 (by omega) (by omega)), h2.fr (fun a i x y => k.1 a i (by omega) (by omega)) (fun i hi => k.2.1 i (by omega) (by omega)), RJ.nd h3 rfl (fun a i x y => k.1 a i (by omega) (by omega))⟩, fun i hi => ?_, fun v hv hv2 => ?_⟩
  · obtain ⟨a, b, c⟩ := h4 i hi
    exact ⟨a, b, by rw [k.1 86 _ (by omega) (by omega)]; exact c⟩
  · rw [k.1 81 _ (by omega) (by omega)]; exact h5 v hv hv2
theorem RW.t {J : JV} {s : SU} {m : yM} (h : RW J s m) : JT J m := h.1.1
theorem RW.b {J : JV} {s : SU} {m : yM} (h : RW J s m) : RB J s.1 m := h.1.2.1
theorem RW.n {J : JV} {s : SU} {m : yM} (h : RW J s m) {i : Nat} (hi : i < J.2.2.1.length) (nx : ¬ xNm J.2.2.1 i) : nvR J s.1 m i := (h.1.2.2 i ⟨hi, hi, by simp, nx, fun _ p hp => by cases hp⟩).2
theorem RW.o {J : JV} {s : SU} {m : yM} (h : RW J s m) {i : Nat} (hi : i < J.2.2.1.length) (k : kK J.2.2.1 i = 16 ∨ kK J.2.2.1 i = 19 ∨ (kK J.2.2.1 i = 25 ∧ ¬ vF J.2.2.1 i ≤ 1)) : m.1 86 (J.2.2.2 i) = s.1.2.2.2.2 i := (h.2.1 i ⟨hi, k, hi⟩).2.2
theorem RW.x {J : JV} {s : SU} {m : yM} (h : RW J s m) {v : Nat} (hv : vOk s.1 v) : v < s.1.2.1.length ∧ v < 4700 ∧ m.1 81 v = (vD s.1 v).1 ∧ m.1 83 v = (vD s.1 v).2.2.1 ∧ m.1 80 v = (vD s.1 v).2.2.2 ∧ tyR s.1 m v (vD s.1 v).2.1 ∧ (vD s.1 v).2.1 < J.2.2.1.length := by
  obtain ⟨v1, y, hy⟩ := (vOk_i _ _).mp hv
  have := (h.b.2.2 v _ (getD_some v1)).2.2 y hy
  have le := h.b.1.2.2.1
  rw [vD_s hy]
  exact ⟨v1, by omega, this.1, this.2.1, this.2.2.1, this.2.2.2.2.1, this.2.2.2.1.1⟩
theorem RO.big {J : JV} {C : List IT} {m : yM} (h : RO J C m) (hl : 3000 < C.length) (D : List IT) : RO J (C ++ D) m := ⟨fun z => by rw [List.length_append] at z; omega, fun _ => h.2 hl⟩
theorem RO.z {J : JV} {C : List IT} {m : yM} (h : RO J C m) : m.1 58 50 = 0 ↔ C.length ≤ 3000 := by
  rcases Nat.lt_or_ge 3000 C.length with y | y
  · rw [(h.2 y).2]
    exact ⟨fun z => absurd z (by decide), fun z => by omega⟩
  · exact ⟨fun _ => y, fun _ => (h.1 y).2.1⟩
theorem RO.s {J : JV} {C : List IT} {m : yM} (h : RO J C m) : m.1 58 45 = nI (min C.length 3000) := by
  rcases Nat.lt_or_ge 3000 C.length with y | y
  · rw [(h.2 y).1, Nat.min_eq_right (by omega)]; rfl
  · rw [(h.1 y).1, Nat.min_eq_left y]
theorem c369 (xs : List Int32) (d : Nat) {J : JV} {C : List IT} {m : yM} (h : RO J C m) (x : IT) {o a b c : Int32} (ho : o = x.1) (ha : a = raV J x) (hb : b = x.2.2.1) (hc : c = x.2.2.2.1) (hl : x.2.2.2.2.2 = 0) : yC (xg xs) (d + 1) 369 [.ref 58, .int o, .int a, .int b, .int c] m (fun r m' => r = some (.int (nI (min C.length 3000))) ∧ RO J (C ++ [x]) m' ∧ KF m m') := by
  have ln : (C ++ [x]).length = C.length + 1 := by rw [List.length_append, List.length_singleton]
  have hs := h.s
  refine w369_0 xs d _ _ _ _ m _ ?_
  rw [hs]
  have i3 : nI (min C.length 3000) = 3000 ↔ 3000 ≤ C.length := by
    have := nI_eq (a := min C.length 3000) (b := 3000) (by omega) (by omega)
    exact this.trans ⟨fun z => by omega, fun z => by omega⟩
  refine ⟨fun z => ?_, fun z => ?_⟩
  · have lt : C.length < 3000 := by
      rcases Nat.lt_or_ge C.length 3000 with y | y
      · exact y
      · exact absurd (i3.mpr y) z
    have em : min C.length 3000 = C.length := Nat.min_eq_left (by omega)
    rw [em]
    have xi : x_in (nI C.length) 3001 = true := x_in_nI (by omega) (by decide)
    obtain ⟨h1, h2, h3⟩ := h.1 (by omega)
    rw [nI_clamp (by omega), Int32.add_sub_cancel]
    refine ⟨xi, xi, xi, xi, xi, rfl, ⟨fun _ => ⟨by rw [y_si_same, ln, nI_1], ?_, fun i y hy => ?_⟩, fun w => by rw [ln] at w; omega⟩, (((((KF.re m).si (by omega)).si (by omega)).si (by omega)).si (by omega)).si (by omega) |>.si (by omega)⟩
    · rw [y_si_at, if_neg (by omega), y_si_at, if_neg (by omega), y_si_at, if_neg (by omega), y_si_at, if_neg (by omega), y_si_at, if_neg (by omega), y_si_at, if_neg (by omega)]; exact h2
    · rcases Nat.lt_or_ge i C.length with q | q
      · rw [List.getElem?_append_left q] at hy
        have ne : ¬ i = C.length := by omega
        simp only [y_si_at, ne, and_false, if_false, Nat.reduceEqDiff, false_and]
        exact h3 i y hy
      · rw [List.getElem?_append_right q] at hy
        have ei : i = C.length := by
          have := (List.getElem?_eq_some_iff.mp hy).1
          simp at this
          omega
        subst ei
        rw [Nat.sub_self] at hy
        simp only [List.getElem?_cons_zero, Option.some.injEq] at hy
        subst hy
        have e95 : rlV J x = -1 := by unfold rlV; rw [if_pos hl]
        rw [e95, ← ho, ← ha, ← hb, ← hc]
        simp only [y_si_at, and_true, if_true, Nat.reduceEqDiff, if_false, false_and]
  · have le := i3.mp z
    have em : min C.length 3000 = 3000 := Nat.min_eq_right le
    rw [em]
    refine ⟨rfl, ⟨fun w => by rw [ln] at w; omega, fun _ => ⟨?_, by rw [y_si_same]⟩⟩, (KF.re m).si (by omega)⟩
    rw [y_si_at, if_neg (by omega), hs, em]
    rfl
theorem c369k (xs : List Int32) (d : Nat) {D : Nat} {J : JV} {C : List IT} {m : yM} {o a : Int32} {P : Int32 → yM → Prop} (hd : d + 1 ≤ D) (h : RO J C m) (k : ∀ m1, RO J (C ++ [j1 o a]) m1 → KF m m1 → P (nI (min C.length 3000)) m1) : yC (xg xs) D 369 [.ref 58, .int o, .int a, .int 0, .int 0] m (fun v1 m1 => ∃ u1, v1 = some (Value.int u1) ∧ P u1 m1) := yC.mono hd (fun _ m1 q => ⟨_, q.1, k m1 q.2.1 q.2.2⟩) (c369 xs d h (j1 o a) rfl rfl rfl rfl rfl)
theorem c369j (xs : List Int32) (d : Nat) {D : Nat} {J : JV} {C : List IT} {m : yM} {o a b c : Int32} {P : Int32 → yM → Prop} (hd : d + 1 ≤ D) (h : RO J C m) (k : ∀ m1, RO J (C ++ [j3 o a b c]) m1 → KF m m1 → P (nI (min C.length 3000)) m1) : yC (xg xs) D 369 [.ref 58, .int o, .int a, .int b, .int c] m (fun v1 m1 => ∃ u1, v1 = some (Value.int u1) ∧ P u1 m1) := yC.mono hd (fun _ m1 q => ⟨_, q.1, k m1 q.2.1 q.2.2⟩) (c369 xs d h (j3 o a b c) rfl rfl rfl rfl rfl)
theorem c366 (xs : List Int32) (d : Nat) {J : JV} {m : yM} (hT : JT J m) {n : Nat} (hn : n < J.2.2.1.length) : yC (xg xs) (d + 1) 366 [.ref 58, .int (nI (J.2.2.2 n))] m (fun r m' => r = some (.int (nOne (m.1 64 (J.2.2.2 n)) (m.1 84 (J.2.2.2 n)))) ∧ m' = m) := by
  refine w366_0 xs d _ m _ ⟨hT.x hn, ?_⟩
  rw [hT.c hn]
  unfold nOne
  refine ⟨fun z => ⟨hT.x hn, fun y => ?_, fun y => ?_⟩, fun z => ⟨hT.x hn, fun y => ?_, fun y => ?_⟩⟩
  · rw [if_neg z, if_neg y]; exact ⟨rfl, rfl⟩
  · rw [if_neg z, if_pos y]; exact ⟨rfl, rfl⟩
  · rw [if_pos z, if_neg y]; exact ⟨rfl, rfl⟩
  · rw [if_pos z, if_pos y]; exact ⟨rfl, rfl⟩
