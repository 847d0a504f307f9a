/-! WHAT WAS MADE: the relation that the reads show; get and set -/
/-- with code at hand: as many units, instructions, cells; the same instructions and cells -/
def Rh1 (m : yM) : Prop := ∃ (u z c : Nat) (st : Nat → Nat), 1 ≤ u ∧ u ≤ 16 ∧ m.1 35 7 = nI u ∧ m.1 58 23 = nI u ∧ z ≤ 3000 ∧ m.1 35 6 = nI z ∧ m.1 58 45 = nI z ∧ c ≤ 8192 ∧ m.1 18 10 = nI c ∧ m.1 58 62 = nI c ∧
  m.1 52 2 = m.1 58 65 ∧ m.1 52 1 = m.1 58 64 ∧ m.1 41 (u - 1) = (m.2 94 (u - 1)).toInt32 ∧
  (∀ i, i < u → m.1 40 i = nI (st i) ∧ m.1 93 i = nI (st i) ∧ st i ≤ st (i + 1)) ∧ st u = z ∧ m.1 93 u = nI z ∧
  (∀ i, i < z → m.1 36 i = m.1 89 i ∧ m.1 37 i = m.1 90 i ∧ m.1 38 i = m.1 91 i ∧ m.1 39 i = m.1 92 i) ∧ ∀ i, i < 8192 → m.1 53 i = m.1 98 i
def Rh (m : yM) : Prop := m.1 0 10 = m.1 58 3 ∧ m.1 0 11 = m.1 58 4 ∧ m.1 0 12 = m.1 58 61 ∧ (m.1 0 12 = 0 ∨ m.1 0 12 = 1) ∧ (¬ m.1 0 12 = 0 → Rh1 m)
theorem Rh.cells {m : yM} (h : Rh m) (ha : ¬ m.1 0 12 = 0) : ∃ c : Nat, c ≤ 8192 ∧ m.1 18 10 = nI c ∧ m.1 58 62 = nI c ∧ ∀ i, i < 8192 → m.1 53 i = m.1 98 i := by
  obtain ⟨u, z, c, st, -, -, -, -, -, -, -, h1, h2, h3, -, -, -, -, -, -, -, h4⟩ := h.2.2.2.2 ha
  exact ⟨c, h1, h2, h3, h4⟩
theorem Rh.hA {m : yM} (h : Rh m) : ¬ m.1 0 12 = 0 → (m.1 18 10).toInt ≤ 8192 := fun ha => by
  obtain ⟨c, h1, h2, -, -⟩ := h.cells ha
  rw [h2, nI_toInt (by omega)]
  omega
theorem Rh.hB {m : yM} (h : Rh m) : ¬ m.1 58 61 = 0 → (m.1 58 62).toInt ≤ 8192 := fun ha => by
  rw [← h.2.2.1] at ha
  obtain ⟨c, h1, -, h3, -⟩ := h.cells ha
  rw [h3, nI_toInt (by omega)]
  omega
/-- a cell's number is asked alike on both sides -/
theorem Rh.cond {m : yM} (h : Rh m) (c : Int32) : (¬ m.1 0 12 = 0 ∧ 0 ≤ c ∧ c < m.1 18 10) ↔ (¬ m.1 58 61 = 0 ∧ 0 ≤ c ∧ c < m.1 58 62) := by
  rw [← h.2.2.1]
  constructor
  · rintro ⟨h1, h2, h3⟩
    obtain ⟨k, -, e1, e2, -⟩ := h.cells h1
    exact ⟨h1, h2, by rw [e2, ← e1]; exact h3⟩
  · rintro ⟨h1, h2, h3⟩
    obtain ⟨k, -, e1, e2, -⟩ := h.cells h1
    exact ⟨h1, h2, by rw [e1, ← e2]; exact h3⟩
theorem Rh.at_ {m : yM} (h : Rh m) {c : Int32} (hc : ¬ m.1 0 12 = 0 ∧ 0 ≤ c ∧ c < m.1 18 10) : c.toNatClampNeg < 8192 ∧ m.1 53 c.toNatClampNeg = m.1 98 c.toNatClampNeg := by
  obtain ⟨k, e0, e1, -, e3⟩ := h.cells hc.1
  have hlt : c.toNatClampNeg < 8192 := by
    have h1 := hc.2.1
    have h2 := hc.2.2
    rw [e1, Int32.lt_iff_toInt_lt, nI_toInt (by omega)] at h2
    rw [Int32.le_iff_toInt_le] at h1
    have h3 : (0 : Int32).toInt = 0 := rfl
    obtain ⟨j, hj, rfl⟩ := nI_of (x := c) (Int32.not_lt.mpr hc.2.1)
    rw [nI_toInt hj] at h2
    rw [nI_clamp hj]
    omega
  exact ⟨hlt, e3 _ hlt⟩
theorem op_get (xs : List Int32) (D : Nat) {Ro : yM → Prop} (hR : ∀ m, Ro m → Rh m) (hS : ClT Ro) (c : Int32) : opOk xs (D + 1) (InT Ro) (InT Ro) 241 407 [.int c] := by
  rintro m ⟨⟨k, h1, h2, h3, h4⟩, ho⟩
  have hr := hR m ho
  refine yC.mono (Nat.le_refl _) ?_ (c241 xs D m c hr.hA)
  rintro r m1 ⟨rfl, e1⟩
  refine ⟨_, rfl, ?_⟩
  rw [e1]
  refine yC.mono (Nat.le_succ _) ?_ (c407 xs D m c hr.hB)
  rintro r2 m2 ⟨rfl, rfl⟩
  refine ⟨congrArg (fun z => some (Value.int z)) ?_, ⟨k, h1, h2, h3, h4⟩, hS m _ (Sm.si (by decide)) ho⟩
  by_cases hc : ¬ m.1 0 12 = 0 ∧ 0 ≤ c ∧ c < m.1 18 10
  · rw [if_pos hc, if_pos ((hr.cond c).mp hc)]
    exact (hr.at_ hc).2.symm
  · rw [if_neg hc, if_neg (fun z => hc ((hr.cond c).mpr z))]
theorem op_set (xs : List Int32) (D : Nat) {Ro : yM → Prop} (hR : ∀ m, Ro m → Rh m) (hS : ClT Ro) (hW : ∀ (m : yM) (c : Nat) (v : Int32), c < 8192 → Ro m → Ro (y_si (y_si (y_si m 53 c v) 58 0 0) 98 c v)) (c v : Int32) : opOk xs (D + 1) (InT Ro) (InT Ro) 239 406 [.int c, .int v] := by
  rintro m ⟨⟨k, h1, h2, h3, h4⟩, ho⟩
  have hr := hR m ho
  refine yC.mono (Nat.le_refl _) ?_ (c239 xs D m c v hr.hA)
  intro r m1 hq
  by_cases hc : ¬ m.1 0 12 = 0 ∧ 0 ≤ c ∧ c < m.1 18 10
  · rw [if_pos hc] at hq
    obtain ⟨rfl, e1⟩ := hq
    refine ⟨_, rfl, ?_⟩
    rw [e1]
    have hb : ¬ (y_si m 53 c.toNatClampNeg v).1 58 61 = 0 → ((y_si m 53 c.toNatClampNeg v).1 58 62).toInt ≤ 8192 := by
      rw [y_si_at, y_si_at, if_neg (by omega), if_neg (by omega)]
      exact hr.hB
    refine yC.mono (Nat.le_succ _) ?_ (c406 xs D _ c v hb)
    intro r2 m2 hq2
    rw [if_pos (by
      rw [y_si_at, y_si_at, if_neg (by omega), if_neg (by omega)]
      exact (hr.cond c).mp hc)] at hq2
    obtain ⟨rfl, rfl⟩ := hq2
    obtain ⟨hlt, hv⟩ := hr.at_ hc
    refine ⟨?_, ⟨k, h1, h2, h3, h4⟩, hW m _ v hlt ho⟩
    rw [y_si_at, if_neg (by omega), hv]
  · rw [if_neg hc] at hq
    obtain ⟨rfl, e1⟩ := hq
    refine ⟨_, rfl, ?_⟩
    rw [e1]
    refine yC.mono (Nat.le_succ _) ?_ (c406 xs D m c v hr.hB)
    intro r2 m2 hq2
    rw [if_neg (fun z => hc ((hr.cond c).mpr z))] at hq2
    obtain ⟨rfl, rfl⟩ := hq2
    exact ⟨rfl, ⟨k, h1, h2, h3, h4⟩, hS m _ (Sm.si (by decide)) ho⟩
