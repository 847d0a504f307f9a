/-! MAKE: both; what holds between calls -/
/-- what was made: the same on both sides -/
def Rm (m : yM) : Prop := ∃ (m0 : yM) (T : Nat) (F : List ND) (s : SU) (B : Nat → Int), HB m0 T F s ∧ oRl F s = .inr (F, s, B) ∧ CM F s B m ∧ RMm F s B m
def RoM (m : yM) : Prop := Rh m ∧ m.1 14 0 = 0 ∧ m.1 61 0 = 0 ∧ GI m ∧ (¬ m.1 0 12 = 0 → Rm m)
theorem oRl_i {F : List ND} {s : SU} {F' : List ND} {s' : SU} {B : Nat → Int} (h : oRl F s = .inr (F', s', B)) : F' = F ∧ s' = s ∧ s.1.1.length ≤ 16 ∧ (allC F s.1 186 s.1.1.length).length ≤ 3000 ∧ msr F s.1 s.1.1.length 0 (fun _ => 0) = .inl B := by
  unfold oRl at h
  split at h
  · cases h
  · rename_i no
    split at h
    · cases h
    · rename_i B' hm
      have e := Sum.inr.inj h
      have e3 : B' = B := congrArg (fun z => z.2.2) e
      rw [← e3]
      exact ⟨(congrArg Prod.fst e).symm, (congrArg (fun z => z.2.1) e).symm, by omega, by omega, hm⟩
theorem RMm.g {F : List ND} {s : SU} {B : Nat → Int} {m m' : yM} (h : RMm F s B m) (g : ∀ a i, 59 < a → a < 96 → m'.1 a i = m.1 a i) (g2 : ∀ i, i = 3 ∨ i = 12 ∨ i = 23 ∨ i = 29 ∨ i = 30 ∨ i = 45 ∨ i = 50 ∨ i = 62 → m'.1 58 i = m.1 58 i) (g3 : m'.2 94 = m.2 94) : RMm F s B m' := by
  obtain ⟨J, h1, h2, h3, h4, h5, h6⟩ := h
  exact ⟨J, h1, h2.g (fun a i x y _ _ => g a i x y) (fun i hi => g2 i (by omega)), by rw [g 73 _ (by omega) (by omega)]; exact h3, by rw [g2 62 (by omega)]; exact h4, fun b hb => by rw [g 74 b (by omega) (by omega)]; exact h5 b hb, fun x hx => by rw [g3]; exact h6 x hx⟩
theorem Rm.g {m m' : yM} (h : Rm m) (g : ∀ a i, (1 < a ∧ a < 42) ∨ (59 < a ∧ a < 96) → m'.1 a i = m.1 a i) (g2 : ∀ i, i = 3 ∨ i = 12 ∨ i = 23 ∨ i = 29 ∨ i = 30 ∨ i = 45 ∨ i = 50 ∨ i = 62 → m'.1 58 i = m.1 58 i) (g3 : m'.2 94 = m.2 94) : Rm m' := by
  obtain ⟨m0, T, F, s, B, h1, h2, h3, h4⟩ := h
  exact ⟨m0, T, F, s, B, h1, h2, h3.g (fun a i x y => g a i (by omega)), h4.g (fun a i x y => g a i (by omega)) g2 g3⟩
theorem Rh1.g {m m' : yM} (h : Rh1 m) (g : ∀ a i, (1 < a ∧ a < 52) ∨ (59 < a ∧ a < 96) → m'.1 a i = m.1 a i) (g2 : ∀ i, i = 23 ∨ i = 45 ∨ i = 62 → m'.1 58 i = m.1 58 i) (g3 : m'.2 94 = m.2 94) (e1 : m'.1 52 2 = m'.1 58 65) (e2 : m'.1 52 1 = m'.1 58 64) (e3 : ∀ i, i < 8192 → m'.1 53 i = m'.1 98 i) : Rh1 m' := by
  obtain ⟨u, z, c, st, h1, h2, h3, h4, h5, h6, h7, h8, h9, h10, h11, h12, h13, h14, h15, h16, h17, h18⟩ := h
  refine ⟨u, z, c, st, h1, h2, by rw [g 35 7 (by omega)]; exact h3, by rw [g2 23 (by omega)]; exact h4, h5, by rw [g 35 6 (by omega)]; exact h6, by rw [g2 45 (by omega)]; exact h7, h8, by rw [g 18 10 (by omega)]; exact h9, by rw [g2 62 (by omega)]; exact h10, e1, e2, by rw [g 41 _ (by omega), g3]; exact h13, fun i hi => ?_, h15, by rw [g 93 _ (by omega)]; exact h16, fun i hi => ?_, e3⟩
  · rw [g 40 i (by omega), g 93 i (by omega)]; exact h14 i hi
  · rw [g 36 i (by omega), g 89 i (by omega), g 37 i (by omega), g 90 i (by omega), g 38 i (by omega), g 91 i (by omega), g 39 i (by omega), g 92 i (by omega)]; exact h17 i hi
theorem Rh.now {m : yM} (h : Rh m) (ha : ¬ m.1 0 12 = 0) : m.1 52 2 = m.1 58 65 ∧ m.1 52 1 = m.1 58 64 ∧ ∀ i, i < 8192 → m.1 53 i = m.1 98 i := by
  obtain ⟨u, z, c, st, h1, h2, h3, h4, h5, h6, h7, h8, h9, h10, h11, h12, h13, h14, h15, h16, h17, h18⟩ := h.2.2.2.2 ha
  exact ⟨h11, h12, h18⟩
theorem RoM.g {m m' : yM} (h : RoM m) (g : ∀ a i, (1 < a ∧ a < 52) ∨ (59 < a ∧ a < 96) → m'.1 a i = m.1 a i) (g0 : ∀ i, ¬ i = 9 → m'.1 0 i = m.1 0 i) (g2 : ∀ i, ¬ i = 0 → ¬ i = 2 → ¬ i = 64 → ¬ i = 65 → ¬ i = 66 → ¬ i = 67 → m'.1 58 i = m.1 58 i) (g3 : m'.2 94 = m.2 94) (e : ¬ m.1 0 12 = 0 → m'.1 52 2 = m'.1 58 65 ∧ m'.1 52 1 = m'.1 58 64 ∧ ∀ i, i < 8192 → m'.1 53 i = m'.1 98 i) : RoM m' := by
  obtain ⟨⟨h1, h2, h3, h4, h5⟩, h6, h7, h8, h9⟩ := h
  have e12 := g0 12 (by omega)
  refine ⟨⟨?_, ?_, ?_, by rw [e12]; exact h4, fun z => ?_⟩, by rw [g 14 0 (by omega)]; exact h6, by rw [g 61 0 (by omega)]; exact h7, fun a ha => by rw [g 66 a (by omega), g 67 a (by omega)]; exact h8 a ha, fun z => ?_⟩
  · rw [g0 10 (by omega), g2 3 (by omega) (by omega) (by omega) (by omega) (by omega) (by omega)]; exact h1
  · rw [g0 11 (by omega), g2 4 (by omega) (by omega) (by omega) (by omega) (by omega) (by omega)]; exact h2
  · rw [e12, g2 61 (by omega) (by omega) (by omega) (by omega) (by omega) (by omega)]; exact h3
  · rw [e12] at z
    obtain ⟨e1, e2, e3⟩ := e z
    exact (h5 z).g g (fun i hi => g2 i (by omega) (by omega) (by omega) (by omega) (by omega) (by omega)) g3 e1 e2 e3
  · rw [e12] at z
    exact (h9 z).g (fun a i hi => g a i (by omega)) (fun i hi => g2 i (by omega) (by omega) (by omega) (by omega) (by omega) (by omega)) g3
theorem RoM.cl : ClT RoM := fun m m' k h => by
  have g : ∀ a i, a ≠ 1 → a ≠ 59 → ¬ (a = 0 ∧ i = 9) → ¬ (a = 58 ∧ (i = 0 ∨ i = 2)) → m'.1 a i = m.1 a i := k.1
  refine h.g (fun a i z => g a i (by omega) (by omega) (by omega) (by omega)) (fun i z => g 0 i (by omega) (by omega) (by omega) (by omega)) (fun i z1 z2 _ _ _ _ => g 58 i (by omega) (by omega) (by omega) (by omega)) (by rw [k.2]) (fun z => ?_)
  obtain ⟨e1, e2, e3⟩ := h.1.now z
  rw [g 52 2 (by omega) (by omega) (by omega) (by omega), g 58 65 (by omega) (by omega) (by omega) (by omega), g 52 1 (by omega) (by omega) (by omega) (by omega), g 58 64 (by omega) (by omega) (by omega) (by omega)]
  refine ⟨e1, e2, fun i hi => ?_⟩
  rw [g 53 i (by omega) (by omega) (by omega) (by omega), g 98 i (by omega) (by omega) (by omega) (by omega)]
  exact e3 i hi
theorem RoM.w (m : yM) (c : Nat) (v : Int32) (_ : c < 8192) (h : RoM m) : RoM (y_si (y_si (y_si m 53 c v) 58 0 0) 98 c v) := by
  have g : ∀ a i, ¬ a = 53 → ¬ a = 98 → ¬ (a = 58 ∧ i = 0) → (y_si (y_si (y_si m 53 c v) 58 0 0) 98 c v).1 a i = m.1 a i := fun a i z1 z2 z3 => by
    rw [y_si_at, if_neg (by omega), y_si_at, if_neg (by omega), y_si_at, if_neg (by omega)]
  refine h.g (fun a i z => g a i (by omega) (by omega) (by omega)) (fun i z => g 0 i (by omega) (by omega) (by omega)) (fun i z1 z2 _ _ _ _ => g 58 i (by omega) (by omega) (by omega)) rfl (fun z => ?_)
  obtain ⟨e1, e2, e3⟩ := h.1.now z
  rw [g 52 2 (by omega) (by omega) (by omega), g 58 65 (by omega) (by omega) (by omega), g 52 1 (by omega) (by omega) (by omega), g 58 64 (by omega) (by omega) (by omega)]
  refine ⟨e1, e2, fun i hi => ?_⟩
  rw [y_si_at, if_neg (by omega), y_si_at, if_neg (by omega), y_si_at, y_si_at]
  by_cases y : i = c
  · rw [if_pos ⟨rfl, y⟩, if_pos ⟨rfl, y⟩]
  · rw [if_neg (fun z => y z.2), if_neg (fun z => y z.2), y_si_at, if_neg (by omega), y_si_at, if_neg (by omega)]
    exact e3 i hi
theorem by_u8 : ∀ n, n < 256 → (nI n).toInt8 = Int8.ofUInt8 (UInt8.ofNat n) := by decide +kernel
theorem by_f {x : Int32} (h : iBy x) : x.toInt8.toUInt8.toNat < 256 ∧ x = (nI x.toInt8.toUInt8.toNat).toInt8.toInt32 := by
  have l : x.toInt8.toUInt8.toNat < 256 := UInt8.toNat_lt _
  refine ⟨l, ?_⟩
  rw [by_u8 _ l, UInt8.ofNat_toNat]
  exact h.symm
theorem l64_32 {v : Int64} {x : Int32} (h : v.toInt = x.toInt) : x = v.toInt32 := by
  apply Int32.toInt_inj.mp
  rw [Int64.toInt_toInt32, h]
  have a := Int32.le_toInt x
  have b := Int32.toInt_lt x
  rw [Int.bmod_eq_of_le (by omega) (by omega)]
