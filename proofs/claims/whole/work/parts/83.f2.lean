/-! RUN: the class -/
/-- what run answers and leaves, the class: X the pure answer -/
def rcQ (m : yM) (now : Int32) (R : XR) (r : Option Value) (m' : yM) : Prop := KY (y_si m 52 1 now) m' ∧ match R with
  | .inl (_, M', n') => r = some (.int (nI n')) ∧ m'.1 53 = M' ∧ m'.1 52 2 = nI n'
  | .inr (c, M', n') => r = some (.int c) ∧ m'.1 53 = M' ∧ m'.1 52 2 = nI n'
theorem c243 (xs : List Int32) (D : Nat) {Us : Nat → List IT} {bs : Nat → Option Nat} {U : Nat} {st : Nat → Nat} {m : yM} {ticks : Int32} (hc : CCd Us bs U st m) (hU : 0 < U) {f : Nat} {R : XR} (h : exU Us bs (m.1 52 1 + ticks) f (U - 1) 0 0 [] (m.1 53) 0 = some R) (h1 : ∀ r, R = .inl r → r.2.2 ≤ 50000) (h2 : ∀ r, R = .inr r → r.2.2 ≤ 50000) : yC (xg xs) (D + 7) 243 [.ref 52, .int ticks] m (rcQ m (m.1 52 1 + ticks) R) := by
  have U16 := hc.1
  generalize hnw : m.1 52 1 + ticks = now at h
  have eU : m.1 35 7 - 1 = nI (U - 1) := by rw [hc.2.2.2.1.1]; exact nI_m hU
  refine w243_0 xs (D + 6) _ m _ ?_
  rw [hnw, eU]
  generalize hm0 : y_si m 52 1 now = m0
  have hc0 : CCd Us bs U st m0 := by
    obtain ⟨a1, a2, a3, a4, a5, a6⟩ := hc
    have g : ∀ a i, a < 52 → m0.1 a i = m.1 a i := fun a i x => by rw [← hm0, y_si_at, if_neg (by omega)]
    refine ⟨a1, a2, a3, ⟨by rw [g 35 7 (by omega)]; exact a4.1, by rw [g 35 6 (by omega)]; exact a4.2.1, fun u hu => by rw [g 40 u (by omega)]; exact a4.2.2 u hu⟩, fun u hu i x hx => ?_, fun q p e => ⟨(a6 q p e).1, by rw [g 27 _ (by omega)]; exact (a6 q p e).2⟩⟩
    rw [g 36 _ (by omega), g 37 _ (by omega), g 38 _ (by omega), g 39 _ (by omega)]
    exact a5 u hu i x hx
  have n0 : m0.1 52 1 = now := by rw [← hm0, y_si_same]
  have M0 : m0.1 53 = m.1 53 := by rw [← hm0]; rfl
  have k1 : KY m0 (y_si (y_si (y_si (y_si (y_si (y_si m0 52 2 0) 52 9 0) 52 10 0) 52 11 (nI (U - 1))) 52 12 0) 52 13 0) := ((((((KY.re m0).s (by omega)).s (by omega)).s (by omega)).s (by omega)).s (by omega)).s (by omega)
  have s1 : CMs (y_si (y_si (y_si (y_si (y_si (y_si m0 52 2 0) 52 9 0) 52 10 0) 52 11 (nI (U - 1))) 52 12 0) 52 13 0) [] (U - 1) 0 0 [] (m.1 53) 0 := by
    refine ⟨by rw [← M0]; rfl, ⟨?_, by simp, trivial⟩, ?_, ⟨?_, by simp, trivial⟩, ?_, ?_, ?_⟩ <;> simp [y_si_at, nI_0]
  rw [show (0 : Int32) = nI 0 from nI_0.symm] at k1 s1 ⊢
  refine c243m xs D hc0 n0 f (U - 1) 0 0 [] (m.1 53) 0 R _ [] 0 h (by omega) (by simp; omega) (by omega) (by simp) h1 h2 k1 s1 (fun r m' t' i' e ge hi' ht' k s => ?_) (fun r m' e k e1 e2 => ?_)
  · have r5 := h1 r e
    have ht' : t' ≤ 2 * r.2.2 := by simpa using ht'
    have g10 : m'.1 52 10 = 0 := by have := s.2.2.2.1.1; simpa [nI_0] using this
    have lv : (Us (U - 1)).length ≤ 3000 := by
      have := hc.2.1 (U - 1) (by omega)
      have := hc.2.2.1 (U - 1 + 1) (by omega)
      omega
    refine w243_50 xs (D + 6) _ m' _ ⟨fun z => absurd ((nI_ltI (a := 100001) (by omega) (by omega)).mp z) (by omega), fun _ => ?_⟩
    rw [s.2.2.2.2.1]
    refine y_ci ((hc0.k k).sz (by omega : U - 1 < U) xs (D + 6)) (Nat.le_refl _) ⟨fun z => ?_, fun _ => ⟨fun z => absurd g10 z, fun _ => ?_⟩⟩
    · rw [s.2.2.2.2.2.1] at z
      exact absurd ((nI_ltI (by omega) (by omega)).mp z) (by omega)
    · rw [e]
      refine ⟨by rw [hm0]; exact k, ?_, s.1, s.2.2.1⟩
      rw [s.2.2.1]
  · rw [e]
    exact ⟨by rw [hm0]; exact k, rfl, e1, e2⟩
