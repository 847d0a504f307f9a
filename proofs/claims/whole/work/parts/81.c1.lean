/-! MAKE: the reference behind its rules -/
theorem RB.fr4 {J : JV} {σ : RS} {m m' : yM} (h : RB J σ m) (h1 : ∀ a i, 69 < a → a < 84 → ¬ a = 74 → m'.1 a i = m.1 a i) (h2 : ∀ i, i = 3 ∨ i = 23 ∨ i = 29 ∨ i = 30 → m'.1 58 i = m.1 58 i) : RB J σ m' := by
  obtain ⟨a, b, c⟩ := h
  refine ⟨?_, fun x y hx => ?_, fun v x hv => ?_⟩
  · rw [h2 3 (by omega), h2 23 (by omega), h2 30 (by omega), h2 29 (by omega)]; exact a
  · rw [h1 70 _ (by omega) (by omega) (by omega), h1 71 _ (by omega) (by omega) (by omega), h1 72 _ (by omega) (by omega) (by omega), h1 73 _ (by omega) (by omega) (by omega)]; exact b x y hx
  · obtain ⟨c1, c2, c3⟩ := c v x hv
    refine ⟨by rw [h1 75 _ (by omega) (by omega) (by omega)]; exact c1, fun e => ?_, fun y e => ?_⟩
    · unfold vuR
      rw [h1 76 _ (by omega) (by omega) (by omega), h1 79 _ (by omega) (by omega) (by omega), h1 82 _ (by omega) (by omega) (by omega), h1 83 _ (by omega) (by omega) (by omega)]
      exact c2 e
    · unfold vdR tyR atR
      rw [h1 76 _ (by omega) (by omega) (by omega), h1 77 _ (by omega) (by omega) (by omega), h1 78 _ (by omega) (by omega) (by omega), h1 79 _ (by omega) (by omega) (by omega), h1 80 _ (by omega) (by omega) (by omega), h1 81 _ (by omega) (by omega) (by omega), h1 82 _ (by omega) (by omega) (by omega), h1 83 _ (by omega) (by omega) (by omega)]
      exact c3 y e
theorem RW.g {J : JV} {s : SU} {m m' : yM} (h : RW J s m) (g : ∀ a i, 59 < a → a < 89 → ¬ a = 74 → m'.1 a i = m.1 a i) (g2 : ∀ i, i = 3 ∨ i = 12 ∨ i = 23 ∨ i = 29 ∨ i = 30 → m'.1 58 i = m.1 58 i) : RW J s m' := by
  obtain ⟨⟨h1, h2, h3⟩, h4, h5⟩ := h
  refine ⟨⟨h1.fr (fun a i x y => g a i (by omega) (by omega) (by omega)) (g2 12 (by omega)), h2.fr4 (fun a i x y z => g a i (by omega) (by omega) z) (fun i hi => g2 i (by omega)), RJ.nd h3 rfl (fun a i x y => g a i (by omega) (by omega) (by omega))⟩, fun i hi => ?_, fun v hv hv2 => ?_⟩
  · obtain ⟨a, b, c⟩ := h4 i hi
    exact ⟨a, b, by rw [g 86 _ (by omega) (by omega) (by omega)]; exact c⟩
  · rw [g 81 _ (by omega) (by omega) (by omega)]; exact h5 v hv hv2
theorem RU.g {J : JV} {s : SU} {m m' : yM} (h : RU J s m) (g : ∀ a i, 59 < a → a < 96 → ¬ a = 74 → ¬ a = 94 → m'.1 a i = m.1 a i) (g2 : ∀ i, i = 3 ∨ i = 12 ∨ i = 23 ∨ i = 29 ∨ i = 30 ∨ i = 45 ∨ i = 50 → m'.1 58 i = m.1 58 i) : RU J s m' := by
  obtain ⟨h1, h2, h3⟩ := h
  refine ⟨h1.g (fun a i x y z => g a i x (by omega) z (by omega)) (fun i hi => g2 i (by omega)), h2.fr (g2 45 (by omega)) (g2 50 (by omega)) (fun a i z => g a i (by omega) (by omega) (by omega) (by omega)), fun hl i hi => ?_⟩
  rw [g 93 i (by omega) (by omega) (by omega) (by omega)]
  exact h3 hl i hi
/-- what writing and measuring leave alone -/
def KV (m m' : yM) : Prop := (∀ a i, a < 89 → ¬ a = 58 → m'.1 a i = m.1 a i) ∧ (∀ i, ¬ (i = 3 ∨ i = 4 ∨ i = 45 ∨ i = 50 ∨ i = 53 ∨ i = 54) → m'.1 58 i = m.1 58 i) ∧ ∀ a, a < 58 → m'.2 a = m.2 a
theorem KV.re (m : yM) : KV m m := ⟨fun _ _ _ _ => rfl, fun _ _ => rfl, fun _ _ => rfl⟩
theorem KV.tr {m m1 m2 : yM} (h : KV m m1) (h2 : KV m1 m2) : KV m m2 := ⟨fun a i x y => (h2.1 a i x y).trans (h.1 a i x y), fun i x => (h2.2.1 i x).trans (h.2.1 i x), fun a x => (h2.2.2 a x).trans (h.2.2 a x)⟩
theorem KV.u {m m' : yM} (h : KU m m') : KV m m' := ⟨fun a i x y => h.1 a i y (by omega), fun i x => h.2.1 i (by omega) (by omega) (by omega) (by omega), fun a _ => by rw [h.2.2]⟩
theorem KV.m {m m' : yM} (h : KMr m m') : KV m m' := ⟨fun a i x y => h.1 a i y (by omega), fun i x => h.2.1 i (by omega) (by omega), fun a x => h.2.2 a (by omega) (by omega) (by omega)⟩
theorem KV.s {m m1 : yM} (h : KV m m1) {j : Nat} {v : Int32} (hj : j = 3 ∨ j = 4 ∨ j = 45 ∨ j = 50) : KV m (y_si m1 58 j v) := ⟨fun a i x y => by rw [y_si_at, if_neg (by omega)]; exact h.1 a i x y, fun i x => by rw [y_si_at, if_neg (by omega)]; exact h.2.1 i x, h.2.2⟩
def r7Q (J : JV) (s : SU) (m : yM) (X : MO) (r : Option Value) (m' : yM) : Prop := r = none ∧ KV m m' ∧ match X with
  | .inl (c, p) => m'.1 58 3 = c ∧ 0 < c ∧ m'.1 58 4 = p
  | .inr (_, _, B) => m'.1 58 3 = 0 ∧ RU J s m' ∧ ∀ x, x < s.1.1.length → (m'.2 94 x).toInt = B x
theorem c367 (xs : List Int32) (D : Nat) {m0 : yM} {T : Nat} {J : JV} {s : SU} {m : yM} (h : HB m0 T J.2.2.1 s) (hr : RW J s m) (hp0 : plF J.2.2.1 0 = 0) : yC (xg xs) (D + 568) 367 [.ref 58, .int (nI (J.2.2.2 0))] m (r7Q J s m (oRl J.2.2.1 s)) := by
  have z0 : 0 < J.2.2.1.length := by
    have := h.1.1.2.2.2.2.1.at
    omega
  have j0 := hr.t.i z0
  have n23 : m.1 58 23 = nI s.1.1.length := hr.b.1.2.2.2.1
  have n399 := hr.b.1.2.1
  show yP (xg xs) (D + 568) 367 0 [(0, .ref 58), (1, .int (nI (J.2.2.2 0)))] [] m (r7Q J s m (oRl J.2.2.1 s))
  rcases Nat.lt_or_ge 16 s.1.1.length with big | h16
  · have eo : oRl J.2.2.1 s = .inl (50, 0) := by unfold oRl; rw [if_pos (Or.inl big)]
    rw [eo]
    refine w367_0 xs (D + 567) _ m _ ⟨fun u => ?_, fun _ => ?_⟩
    · rw [n23] at u
      exact absurd ((nI_leI (b := 16) (by omega) (by omega)).mp u) (by omega)
    · refine w367_17 xs (D + 567) _ _ _ m _ (yC.mono (by omega) (fun r m1 q => ⟨q.1, ?_⟩) (c323b xs (D + 566) m 50 (J.2.2.2 0) j0))
      obtain ⟨-, e2⟩ := q
      rw [if_pos hr.b.1.1, (hr.t.2.1 0 z0).2.2.1, hp0] at e2
      rw [e2]
      have kv : KV m (y_si (y_si (y_si (y_si m 58 3 50) 58 4 0) 58 45 0) 58 50 0) := ((((KV.re m).s (by omega)).s (by omega)).s (by omega)).s (by omega)
      have f3' : (y_si (y_si (y_si (y_si m 58 3 50) 58 4 0) 58 45 0) 58 50 0).1 58 3 = 50 := by simp [y_si_at]
      have f4' : (y_si (y_si (y_si (y_si m 58 3 50) 58 4 0) 58 45 0) 58 50 0).1 58 4 = 0 := by simp [y_si_at]
      have f50 : (y_si (y_si (y_si (y_si m 58 3 50) 58 4 0) 58 45 0) 58 50 0).1 58 50 = 0 := y_si_same _ _ _ _
      generalize y_si (y_si (y_si (y_si m 58 3 50) 58 4 0) 58 45 0) 58 50 0 = m2 at kv f3' f4' f50 ⊢
      have ne : ¬ m2.1 58 3 = 0 := by rw [f3']; decide
      have fin : r7Q J s m (.inl (50, 0)) none m2 := ⟨rfl, kv, f3', by decide, f4'⟩
      have s66 : yP (xg xs) (D + 568) 367 66 [(0, .ref 58), (1, .int (nI (J.2.2.2 0)))] [] m2 (r7Q J s m (.inl (50, 0))) := by
        refine w367_66 xs (D + 567) _ m2 _ ?_
        rw [f50]
        refine yC.mono (Nat.le_refl _) (fun r m3 q => ⟨q.1, ?_⟩) (c323a xs (D + 567) m2 50 (nI (J.2.2.2 0)))
        rw [q.2]
        exact w367_79 xs (D + 567) _ m2 _ ⟨fun _ => fin, fun _ => ⟨fun _ => fin, fun u => absurd u ne⟩⟩
      exact w367_33 xs (D + 567) _ _ m2 _ ⟨fun _ => s66, fun _ => ⟨fun _ => s66, fun u => absurd u ne⟩⟩
  · refine c367w xs D h.1 h.2.2.2.2.2.2.2.1.2 h16 hr (fun m1 ru ku => ⟨fun sm => ?_, fun bg => ?_⟩)
    · have no : ¬ (16 < s.1.1.length ∨ 3000 < (allC J.2.2.1 s.1 186 s.1.1.length).length) := by omega
      have eo : oRl J.2.2.1 s = match msr J.2.2.1 s.1 s.1.1.length 0 (fun _ => 0) with
        | .inr (c, b) => .inl (c, plF J.2.2.1 (nB s b))
        | .inl B => .inr (J.2.2.1, s, B) := by unfold oRl; rw [if_neg no]; cases msr J.2.2.1 s.1 s.1.1.length 0 (fun _ => 0) <;> rfl
      refine c367m xs (D + 503) (h.m h16) sm ru s.1.1.length 0 (fun _ => 0) m1 (by omega) (KMr.re m1) ru.1.b.1.1 (fun x hx => absurd hx (Nat.not_lt_zero _)) ?_
      rcases hms : msr J.2.2.1 s.1 s.1.1.length 0 (fun _ => 0) with B | ⟨c, b⟩
      · rw [hms] at eo
        dsimp only at eo ⊢
        intro m2 k2 e3 q
        rw [eo]
        refine ⟨rfl, (KV.u ku).tr (KV.m k2), e3, ?_, q⟩
        refine ru.g (fun a i x y z w => k2.1 a i (by omega) (by omega)) (fun i hi => ?_)
        by_cases i3 : i = 3
        · rw [i3, e3, ru.1.b.1.1]
        · exact k2.2.1 i i3 (by omega)
      · rw [hms] at eo
        dsimp only at eo ⊢
        intro m2 k2 e3 e4
        rw [eo]
        refine ⟨rfl, (KV.u ku).tr (KV.m k2), e3, ?_, e4⟩
        rcases msr_ne J.2.2.1 s.1 _ _ _ c b hms with e | e <;> rw [e] <;> decide
    · have eo : oRl J.2.2.1 s = .inl (50, 0) := by unfold oRl; rw [if_pos (Or.inr bg)]
      rw [eo, hp0]
      exact ⟨rfl, ((KV.u ku).s (by omega)).s (by omega), by rw [y_si_at, if_neg (by omega), y_si_same], by decide, y_si_same _ _ _ _⟩
