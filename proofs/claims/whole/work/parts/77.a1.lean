/-! THE WRITER: code, what the class holds of it -/
/-- an instruction: what, three operands, the jump it waits for, the loop it leaves -/
abbrev IT : Type := Int32 × Int32 × Int32 × Int32 × Nat × Nat
def dIT : IT := (0, 0, 0, 0, 0, 0)
def j1 (o a : Int32) : IT := (o, a, 0, 0, 0, 0)
def j3 (o a b c : Int32) : IT := (o, a, b, c, 0, 0)
/-- the last one that waits for it, before i -/
def prv (C : List IT) (μ : Nat) : Nat → Int32
  | 0 => -1
  | i + 1 => if (C.getD i dIT).2.2.2.2.1 = μ then nI i else prv C μ i
def caV (C : List IT) (i : Nat) (x : IT) : Int32 := if x.2.2.2.2.1 = 0 then x.2.1 else prv C x.2.2.2.2.1 i
def CO (C : List IT) (m : yM) : Prop := m.1 35 6 = nI C.length ∧ C.length < 2 ^ 30 ∧ (C.length ≤ 3000 → ∀ i x, C[i]? = some x → m.1 36 i = x.1 ∧ m.1 37 i = caV C i x ∧ m.1 38 i = x.2.2.1 ∧ m.1 39 i = x.2.2.2.1)
/-- what adding code leaves alone -/
def EK (m m' : yM) : Prop := (∀ a i, a < 35 ∨ 39 < a → m'.1 a i = m.1 a i) ∧ (∀ i, i ≠ 6 → m'.1 35 i = m.1 35 i) ∧ m'.2 = m.2
theorem EK.re (m : yM) : EK m m := ⟨fun _ _ _ => rfl, fun _ _ => rfl, rfl⟩
theorem EK.tr {m m1 m2 : yM} (h : EK m m1) (h2 : EK m1 m2) : EK m m2 := ⟨fun a i x => by rw [h2.1 a i x, h.1 a i x], fun i x => by rw [h2.2.1 i x, h.2.1 i x], h2.2.2.trans h.2.2⟩
theorem prv_app (C D : List IT) (μ : Nat) : ∀ i, i ≤ C.length → prv (C ++ D) μ i = prv C μ i
  | 0, _ => rfl
  | i + 1, h => by
    unfold prv
    rw [prv_app C D μ i (by omega)]
    have : (C ++ D).getD i dIT = C.getD i dIT := by
      rw [List.getD_eq_getElem?_getD, List.getElem?_append_left (by omega), ← List.getD_eq_getElem?_getD]
    rw [this]
theorem CR.ek {F : List ND} {σ : RS} {m m' : yM} (h : CR F σ m) (g : ∀ a i, a < 31 → m'.1 a i = m.1 a i) : CR F σ m' := by
  obtain ⟨h1, h2, h3, h4, h5⟩ := h
  unfold CR
  refine ⟨?_, fun b y hb => ?_, fun v y hv => ?_, fun j hj => ?_, fun i hi => ?_⟩
  · rw [g _ _ (by omega), g _ _ (by omega), g _ _ (by omega)]; exact h1
  · rw [g _ _ (by omega), g _ _ (by omega), g _ _ (by omega), g _ _ (by omega)]; exact h2 b y hb
  · refine ⟨by rw [g _ _ (by omega)]; exact (h3 v y hv).1, fun z hz => ?_⟩
    rw [g _ _ (by omega), g _ _ (by omega), g _ _ (by omega), g _ _ (by omega)]
    exact (h3 v y hv).2 z hz
  · rw [g _ _ (by omega), g _ _ (by omega)]; exact h4 j hj
  · rw [g _ _ (by omega), g _ _ (by omega), g _ _ (by omega), g _ _ (by omega), g _ _ (by omega)]; exact h5 i hi
theorem CR.e {F : List ND} {σ : RS} {m m' : yM} (h : CR F σ m) (g : EK m m') : CR F σ m' := h.ek (fun a i z => g.1 a i (by omega))
theorem c194 (xs : List Int32) (d : Nat) {C : List IT} {m : yM} (h : CO C m) (hl : C.length + 1 < 2 ^ 30) (x : IT) {o a b c : Int32} (ho : o = x.1) (ha : a = caV C C.length x) (hb : b = x.2.2.1) (hc : c = x.2.2.2.1) : yC (xg xs) (d + 1) 194 [.ref 35, .int o, .int a, .int b, .int c] m (fun r m' => r = some (.int (nI C.length)) ∧ CO (C ++ [x]) m' ∧ EK m m') := by
  obtain ⟨h1, h2, h3⟩ := h
  have ln : (C ++ [x]).length = C.length + 1 := by rw [List.length_append, List.length_singleton]
  have fin : ∀ m1, m1.1 35 6 = nI C.length → EK m m1 → (C.length + 1 ≤ 3000 → ∀ i y, (C ++ [x])[i]? = some y → m1.1 36 i = y.1 ∧ m1.1 37 i = caV (C ++ [x]) i y ∧ m1.1 38 i = y.2.2.1 ∧ m1.1 39 i = y.2.2.2.1) → yP (xg xs) (d + 1) 194 51 [(0, .ref 35)] [] m1 (fun r m' => r = some (.int (nI C.length)) ∧ CO (C ++ [x]) m' ∧ EK m m') := by
    intro m1 e1 e2 e3
    refine w194_51 xs d m1 _ ⟨?_, ⟨?_, by rw [ln]; omega, fun z i y hy => ?_⟩, e2.tr ⟨fun a i z => by rw [y_si_at, if_neg (by omega)], fun i z => by rw [y_si_at, if_neg (by omega)], rfl⟩⟩
    · rw [e1, Int32.add_sub_cancel]
    · rw [y_si_same, e1, ln, nI_1]
    · rw [ln] at z
      rw [y_si_at, if_neg (by omega), y_si_at, if_neg (by omega), y_si_at, if_neg (by omega), y_si_at, if_neg (by omega)]
      exact e3 z i y hy
  refine w194_0 xs d _ _ _ _ m _ ⟨fun z => fin m h1 (EK.re m) (fun y => ?_), fun z => ?_⟩
  · rw [h1] at z
    have := (nI_leI (a := 3000) (by omega) (by omega)).mp z
    omega
  · have lt : C.length < 3000 := by
      rcases Nat.lt_or_ge C.length 3000 with y | y
      · exact y
      · exact absurd (by rw [h1]; exact nI_le (a := 3000) y (by omega)) z
    have xi : x_in (nI C.length) 3000 = true := x_in_nI lt (by decide)
    rw [h1, nI_clamp (by omega)]
    refine ⟨xi, xi, xi, xi, fin _ ?_ ⟨fun a i z => ?_, fun i z => ?_, rfl⟩ (fun _ i y hy => ?_)⟩
    · rw [y_si_at, if_neg (by omega), y_si_at, if_neg (by omega), y_si_at, if_neg (by omega), y_si_at, if_neg (by omega)]; exact h1
    · rw [y_si_at, if_neg (by omega), y_si_at, if_neg (by omega), y_si_at, if_neg (by omega), y_si_at, if_neg (by omega)]
    · rw [y_si_at, if_neg (by omega), y_si_at, if_neg (by omega), y_si_at, if_neg (by omega), y_si_at, if_neg (by omega)]
    · rcases Nat.lt_or_ge i C.length with q | q
      · rw [List.getElem?_append_left q] at hy
        have ne : ¬ i = C.length := by omega
        obtain ⟨g1, g2, g3, g4⟩ := h3 (by omega) i y hy
        have ec : caV (C ++ [x]) i y = caV C i y := by unfold caV; rw [prv_app C [x] _ i (by omega)]
        simp only [y_si_at, ne, and_false, if_false, Nat.reduceEqDiff, false_and]
        rw [ec]
        exact ⟨g1, g2, g3, g4⟩
      · rw [List.getElem?_append_right q] at hy
        have ei : i = C.length := by
          have := (List.getElem?_eq_some_iff.mp hy).1
          simp at this
          omega
        subst ei
        rw [Nat.sub_self] at hy
        simp only [List.getElem?_cons_zero, Option.some.injEq] at hy
        subst hy
        have ec : caV (C ++ [x]) C.length x = caV C C.length x := by unfold caV; rw [prv_app C [x] _ _ (Nat.le_refl _)]
        rw [ec, ← ho, ← ha, ← hb, ← hc]
        simp only [y_si_at, and_true, if_true, Nat.reduceEqDiff, if_false]
theorem c193 (xs : List Int32) (d : Nat) {C : List IT} {m : yM} (h : CO C m) (hl : C.length + 1 < 2 ^ 30) (o a : Int32) : yC (xg xs) (d + 2) 193 [.ref 42, .int o, .int a] m (fun r m' => r = none ∧ CO (C ++ [j1 o a]) m' ∧ EK m m') := by
  refine w193_0 xs (d + 1) _ _ m _ (yC.mono (Nat.le_refl _) (fun r m' q => ?_) (c194 xs d h hl (j1 o a) rfl rfl rfl rfl))
  exact ⟨_, q.1, rfl, q.2⟩
/-- what is known of a text that keeps the rules -/
def HS (m0 : yM) (T : Nat) (F : List ND) (s : SU) : Prop := HF m0 T F ∧ HN F ∧ PAll F [] F.length s ∧ P15 F [] F.length s
/-- what an expression's look left -/
def clA (f : Int32) (e : Nat → List IT) : List Nat → Nat → List IT
  | [] => fun _ => []
  | c :: L => fun j => e c ++ ((if f = 3 ∧ 1 ≤ j then [j1 7 (if j = 1 then 24 else 23)] else []) ++ clA f e L (j + 1))
def cOw (σ : RS) (b f0 : Nat) : Nat → List IT
  | 0 => []
  | k + 1 => (if (vD σ (f0 + k)).1 = 1 then [j3 6 (nI b) (vD σ (f0 + k)).2.2.2 0] else []) ++ cOw σ b f0 k
def clZ (F : List ND) (σ : RS) (n : Nat) : List IT := if σ.2.2.2.1 n < 10 then (if σ.2.2.2.1 n = 4 then [j1 9 0] else if σ.2.2.2.1 n = 3 then [] else if σ.2.2.2.1 n = 8 then [] else [j1 (if (kids F n).length = 1 then 8 else 7) (nFun (σ.2.2.2.1 n) (σ.2.2.2.2 (n + 1)))]) else cOw σ (σ.2.2.2.1 n - 10).toNatClampNeg (σ.1.getD (σ.2.2.2.1 n - 10).toNatClampNeg dBK).2.2.2.2 (endV σ (σ.2.2.2.1 n - 10).toNatClampNeg - (σ.1.getD (σ.2.2.2.1 n - 10).toNatClampNeg dBK).2.2.2.2) ++ [j3 16 (σ.2.2.2.1 n - 10) 0 0, j3 5 (σ.2.2.2.1 n - 10) 0 0]
def cEl (σ : RS) (o : Int32) (v : Nat) : IT := j3 o (vD σ v).2.2.2 (σ.2.2.2.1 ((vD σ v).2.1 + 1)) (σ.2.2.2.1 (vD σ v).2.1)
def cE (F : List ND) (σ : RS) : Nat → Nat → List IT
  | 0 => fun _ => []
  | N + 1 => fun n => if σ.2.2.1 n = 6 then [j1 1 (vD σ (σ.2.2.2.1 n).toNatClampNeg).2.2.2] else if σ.2.2.1 n = 33 then [j1 1 (σ.2.2.2.1 n)] else if σ.2.2.1 n = 32 then cE F σ N (n + 1) ++ [cEl σ 3 (σ.2.2.2.1 n).toNatClampNeg] else if σ.2.2.1 n = 34 then clA (σ.2.2.2.1 n) (cE F σ N) (kids F n) 0 ++ clZ F σ n else if σ.2.2.1 n = 35 then cE F σ N (n + 1) ++ (cE F σ N (n + 1 + szF F (n + 1)) ++ [j1 7 (nTwo (σ.2.2.2.1 n) (σ.2.2.2.2 n))]) else if σ.2.2.1 n = 36 then cE F σ N (n + 1) ++ [j1 8 (nOne (σ.2.2.2.1 n) (σ.2.2.2.2 n))] else [j1 0 (σ.2.2.2.1 n)]
theorem c198 (xs : List Int32) (d : Nat) {F : List ND} {σ : RS} {m : yM} (h : CR F σ m) {n : Nat} (hn : n < F.length) (h6 : σ.2.2.1 n = 6 → ∃ v, σ.2.2.2.1 n = nI v ∧ vOk σ v) : yC (xg xs) (d + 1) 198 [.ref 42, .int (nI n)] m (fun r m' => r = some (.int (if σ.2.2.1 n = 6 then (vD σ (σ.2.2.2.1 n).toNatClampNeg).2.2.2 else σ.2.2.2.1 n)) ∧ m' = m) := by
  have hf := h.f
  have t := h.t hn
  have xi : x_in (nI n) 16401 = true := x_in_nI (by omega) (by decide)
  refine w198_0 xs d _ m _ ⟨xi, ?_⟩
  rw [nI_clamp (by omega), t.1, t.2.2.1]
  refine ⟨fun z => ⟨xi, ?_, rfl⟩, fun z => ⟨xi, ?_⟩⟩
  · rw [if_neg z]
  · obtain ⟨v, v1, v2⟩ := h6 z
    obtain ⟨a1, a2, a3, a4, a5, a6, a7⟩ := h.v v2
    have n2 := h.nV.2
    rw [v1, nI_clamp (by omega), a6, if_pos z]
    exact ⟨x_in_nI (by omega) (by decide), rfl, rfl⟩
theorem c199 (xs : List Int32) (d : Nat) {F : List ND} {σ : RS} {C : List IT} {m : yM} (h : CR F σ m) (hc : CO C m) (hl : C.length + 1 < 2 ^ 30) (o : Int32) {v : Nat} (hv : vOk σ v) (ht : (vD σ v).2.1 + 1 < F.length) : yC (xg xs) (d + 2) 199 [.ref 42, .int o, .int (nI v)] m (fun r m' => r = none ∧ CO (C ++ [cEl σ o v]) m' ∧ EK m m') := by
  obtain ⟨a1, a2, a3, a4, a5, a6, a7⟩ := h.v hv
  have n2 := h.nV.2
  have hf := h.f
  have xv : x_in (nI v) 4097 = true := x_in_nI (by omega) (by decide)
  refine w199_0 xs (d + 1) _ _ m _ ⟨xv, xv, ?_⟩
  rw [nI_clamp (by omega), a4, nI_1, nI_clamp (by omega), nI_clamp (by omega), a6, (h.t ht).2.2.1, (h.t a7).2.2.1]
  refine ⟨x_in_nI (by omega) (by decide), x_in_nI (by omega) (by decide), yC.mono (Nat.le_refl _) (fun r m' q => ⟨_, q.1, rfl, q.2⟩) (c194 xs d hc hl (cEl σ o v) rfl rfl rfl rfl)⟩
