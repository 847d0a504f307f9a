/-! READS AND WRITES of what was made: laid by wip/gen/small2.py -/
theorem x_in_iff {x : Int32} {n : Nat} : x_in x n = true ↔ 0 ≤ x.toInt ∧ x.toInt < n := by
  rw [← vp_in_iff]
  unfold x_in vp_in
  simp [not_or]
theorem x_in_lt {x a : Int32} {n : Nat} (h0 : 0 ≤ x) (h1 : x < a) (ha : a.toInt ≤ n) : x_in x n = true := by
  rw [x_in_iff]
  rw [Int32.le_iff_toInt_le] at h0
  rw [Int32.lt_iff_toInt_lt] at h1
  have h2 : (0 : Int32).toInt = 0 := rfl
  omega
theorem y_ift {P : Prop} [Decidable P] (h : ¬ (if P then (1 : Int32) else 0) = 0) : P := by
  by_cases z : P
  · exact z
  · exact absurd (if_neg z) h
theorem y_iff {P : Prop} [Decidable P] (h : (if P then (1 : Int32) else 0) = 0) : ¬ P := fun z => by
  rw [if_pos z] at h
  exact absurd h (by decide)
set_option maxRecDepth 20000 in
/-- CodeMaker.get -/
theorem c241 (xs : List Int32) (d : Nat) (m : yM) (c : Int32) (hA : ¬ m.1 0 12 = 0 → (m.1 18 10).toInt ≤ 8192) : yC (xg xs) (d + 1) 241 [.ref 0, .int c] m (fun r m' => r = some (.int (if (¬ m.1 0 12 = 0 ∧ 0 ≤ c ∧ c < m.1 18 10) then m.1 53 c.toNatClampNeg else 0)) ∧ m' = m) := by
  refine y_st rfl rfl rfl rfl rfl (fun _ _ => rfl) ?_
  refine y_st rfl rfl rfl rfl rfl (fun _ _ => rfl) ?_
  show yP (xg xs) (d + 1) 241 2 [(0, .ref 0), (1, .int c)] [.int c, .ref 0] m _
  refine y_call rfl rfl rfl rfl rfl (Nat.le_of_ble_eq_true rfl) (Nat.le_of_ble_eq_true rfl) rfl (by decide) (c240 xs d m c) (fun v1 m1 q1 => ?_)
  obtain ⟨rfl, e1⟩ := q1; rw [e1]; clear e1
  show yP (xg xs) (d + 1) 241 5 [(0, .ref 0), (1, .int c)] [.int (if (¬ m.1 0 12 = 0 ∧ 0 ≤ c ∧ c < m.1 18 10) then 1 else 0)] m _
  refine y_zeq (t := 20) rfl rfl rfl (fun h5 => ?_) (fun h5 => ?_)
  · refine y_st rfl rfl rfl rfl rfl (fun _ _ => rfl) ?_
    show yP (xg xs) (d + 1) 241 21 [(0, .ref 0), (1, .int c)] [.int (0 : Int32)] m _
    exact y_iret rfl rfl rfl (by refine ⟨congrArg (fun z => some (Value.int z)) ?_, rfl⟩; first | exact (if_pos (y_ift h5)).symm | exact (if_neg (y_iff h5)).symm)
  · refine y_st rfl rfl rfl rfl rfl (fun _ _ => rfl) ?_
    refine y_gf rfl rfl rfl rfl rfl ?_
    refine y_gf rfl rfl rfl rfl rfl ?_
    refine y_st rfl rfl rfl rfl rfl (fun _ _ => rfl) ?_
    show yP (xg xs) (d + 1) 241 16 [(0, .ref 0), (1, .int c)] [.int c, .ref 53] m _
    refine y_iald rfl rfl rfl (by have z := y_ift h5; exact x_in_lt z.2.1 z.2.2 (hA z.1)) ?_
    refine y_st rfl rfl rfl rfl rfl (fun _ _ => rfl) ?_
    show yP (xg xs) (d + 1) 241 21 [(0, .ref 0), (1, .int c)] [.int (m.1 53 c.toNatClampNeg)] m _
    exact y_iret rfl rfl rfl (by refine ⟨congrArg (fun z => some (Value.int z)) ?_, rfl⟩; first | exact (if_pos (y_ift h5)).symm | exact (if_neg (y_iff h5)).symm)
set_option maxRecDepth 20000 in
/-- CodeMaker.set -/
theorem c239 (xs : List Int32) (d : Nat) (m : yM) (c v : Int32) (hA : ¬ m.1 0 12 = 0 → (m.1 18 10).toInt ≤ 8192) : yC (xg xs) (d + 1) 239 [.ref 0, .int c, .int v] m (fun r m' => if (¬ m.1 0 12 = 0 ∧ 0 ≤ c ∧ c < m.1 18 10) then r = some (.int (m.1 53 c.toNatClampNeg)) ∧ m' = y_si m 53 c.toNatClampNeg v else r = some (.int 0) ∧ m' = m) := by
  refine y_st rfl rfl rfl rfl rfl (fun _ _ => rfl) ?_
  refine y_st rfl rfl rfl rfl rfl (fun _ _ => rfl) ?_
  show yP (xg xs) (d + 1) 239 2 [(0, .ref 0), (1, .int c), (2, .int v)] [.int c, .ref 0] m _
  refine y_call rfl rfl rfl rfl rfl (Nat.le_of_ble_eq_true rfl) (Nat.le_of_ble_eq_true rfl) rfl (by decide) (c240 xs d m c) (fun v1 m1 q1 => ?_)
  obtain ⟨rfl, e1⟩ := q1; rw [e1]; clear e1
  show yP (xg xs) (d + 1) 239 5 [(0, .ref 0), (1, .int c), (2, .int v)] [.int (if (¬ m.1 0 12 = 0 ∧ 0 ≤ c ∧ c < m.1 18 10) then 1 else 0)] m _
  refine y_zne (t := 10) rfl rfl rfl (fun h5 => ?_) (fun h5 => ?_)
  · refine y_st rfl rfl rfl rfl rfl (fun _ _ => rfl) ?_
    refine y_gf rfl rfl rfl rfl rfl ?_
    refine y_gf rfl rfl rfl rfl rfl ?_
    refine y_st rfl rfl rfl rfl rfl (fun _ _ => rfl) ?_
    show yP (xg xs) (d + 1) 239 18 [(0, .ref 0), (1, .int c), (2, .int v)] [.int c, .ref 53] m _
    refine y_iald rfl rfl rfl (by have z := y_ift h5; exact x_in_lt z.2.1 z.2.2 (hA z.1)) ?_
    refine y_st rfl rfl rfl rfl rfl (fun _ _ => rfl) ?_
    refine y_st rfl rfl rfl rfl rfl (fun _ _ => rfl) ?_
    refine y_gf rfl rfl rfl rfl rfl ?_
    refine y_gf rfl rfl rfl rfl rfl ?_
    refine y_st rfl rfl rfl rfl rfl (fun _ _ => rfl) ?_
    refine y_st rfl rfl rfl rfl rfl (fun _ _ => rfl) ?_
    show yP (xg xs) (d + 1) 239 29 [(3, .int (m.1 53 c.toNatClampNeg)), (0, .ref 0), (1, .int c), (2, .int v)] [.int v, .int c, .ref 53] m _
    refine y_iast rfl rfl rfl (by have z := y_ift h5; exact x_in_lt z.2.1 z.2.2 (hA z.1)) ?_
    refine y_st rfl rfl rfl rfl rfl (fun _ _ => rfl) ?_
    show yP (xg xs) (d + 1) 239 31 [(3, .int (m.1 53 c.toNatClampNeg)), (0, .ref 0), (1, .int c), (2, .int v)] [.int (m.1 53 c.toNatClampNeg)] (y_si m 53 c.toNatClampNeg v) _
    exact y_iret rfl rfl rfl (by first | (rw [if_pos (y_ift h5)]; exact ⟨rfl, rfl⟩) | (rw [if_neg (y_iff h5)]; exact ⟨rfl, rfl⟩))
  · refine y_st rfl rfl rfl rfl rfl (fun _ _ => rfl) ?_
    show yP (xg xs) (d + 1) 239 9 [(0, .ref 0), (1, .int c), (2, .int v)] [.int (0 : Int32)] m _
    exact y_iret rfl rfl rfl (by first | (rw [if_pos (y_ift h5)]; exact ⟨rfl, rfl⟩) | (rw [if_neg (y_iff h5)]; exact ⟨rfl, rfl⟩))
set_option maxRecDepth 20000 in
/-- reference: get -/
theorem c407 (xs : List Int32) (d : Nat) (m : yM) (c : Int32) (hB : ¬ m.1 58 61 = 0 → (m.1 58 62).toInt ≤ 8192) : yC (xg xs) d 407 [.ref 58, .int c] m (fun r m' => r = some (.int (if (¬ m.1 58 61 = 0 ∧ 0 ≤ c ∧ c < m.1 58 62) then m.1 98 c.toNatClampNeg else 0)) ∧ m' = y_si m 58 0 0) := by
  refine y_st rfl rfl rfl rfl rfl (fun _ _ => rfl) ?_
  refine y_st rfl rfl rfl rfl rfl (fun _ _ => rfl) ?_
  refine y_pfi rfl rfl rfl rfl rfl (x_fit_i _) ?_
  show yP (xg xs) d 407 5 [(0, .ref 58), (1, .int c)] [] (y_si m 58 0 (0 : Int32)) _
  refine y_st rfl rfl rfl rfl rfl (fun _ _ => rfl) ?_
  refine y_gf rfl rfl rfl rfl rfl ?_
  show yP (xg xs) d 407 9 [(0, .ref 58), (1, .int c)] [.int (m.1 58 61)] (y_si m 58 0 (0 : Int32)) _
  refine y_zeq (t := 33) rfl rfl rfl (fun h9 => ?_) (fun h9 => ?_)
  · refine y_st rfl rfl rfl rfl rfl (fun _ _ => rfl) ?_
    show yP (xg xs) d 407 34 [(0, .ref 58), (1, .int c)] [.int (0 : Int32)] (y_si m 58 0 (0 : Int32)) _
    exact y_iret rfl rfl rfl (by refine ⟨congrArg (fun z => some (Value.int z)) ?_, rfl⟩; first | exact (if_pos ⟨h9, Int32.not_lt.mp h13, Int32.not_le.mp h21⟩).symm | exact (if_neg (fun z => by first | exact z.1 h9 | exact absurd h13 (Int32.not_lt.mpr z.2.1) | exact absurd h21 (Int32.not_le.mpr z.2.2))).symm)
  · refine y_st rfl rfl rfl rfl rfl (fun _ _ => rfl) ?_
    show yP (xg xs) d 407 13 [(0, .ref 58), (1, .int c)] [.int c] (y_si m 58 0 (0 : Int32)) _
    refine y_zlt (t := 33) rfl rfl rfl (fun h13 => ?_) (fun h13 => ?_)
    · refine y_st rfl rfl rfl rfl rfl (fun _ _ => rfl) ?_
      show yP (xg xs) d 407 34 [(0, .ref 58), (1, .int c)] [.int (0 : Int32)] (y_si m 58 0 (0 : Int32)) _
      exact y_iret rfl rfl rfl (by refine ⟨congrArg (fun z => some (Value.int z)) ?_, rfl⟩; first | exact (if_pos ⟨h9, Int32.not_lt.mp h13, Int32.not_le.mp h21⟩).symm | exact (if_neg (fun z => by first | exact z.1 h9 | exact absurd h13 (Int32.not_lt.mpr z.2.1) | exact absurd h21 (Int32.not_le.mpr z.2.2))).symm)
    · refine y_st rfl rfl rfl rfl rfl (fun _ _ => rfl) ?_
      refine y_st rfl rfl rfl rfl rfl (fun _ _ => rfl) ?_
      refine y_gf rfl rfl rfl rfl rfl ?_
      show yP (xg xs) d 407 21 [(0, .ref 58), (1, .int c)] [.int (m.1 58 62), .int c] (y_si m 58 0 (0 : Int32)) _
      refine y_ige (t := 33) rfl rfl rfl (fun h21 => ?_) (fun h21 => ?_)
      · refine y_st rfl rfl rfl rfl rfl (fun _ _ => rfl) ?_
        show yP (xg xs) d 407 34 [(0, .ref 58), (1, .int c)] [.int (0 : Int32)] (y_si m 58 0 (0 : Int32)) _
        exact y_iret rfl rfl rfl (by refine ⟨congrArg (fun z => some (Value.int z)) ?_, rfl⟩; first | exact (if_pos ⟨h9, Int32.not_lt.mp h13, Int32.not_le.mp h21⟩).symm | exact (if_neg (fun z => by first | exact z.1 h9 | exact absurd h13 (Int32.not_lt.mpr z.2.1) | exact absurd h21 (Int32.not_le.mpr z.2.2))).symm)
      · refine y_st rfl rfl rfl rfl rfl (fun _ _ => rfl) ?_
        refine y_gf rfl rfl rfl rfl rfl ?_
        refine y_st rfl rfl rfl rfl rfl (fun _ _ => rfl) ?_
        show yP (xg xs) d 407 29 [(0, .ref 58), (1, .int c)] [.int c, .ref 98] (y_si m 58 0 (0 : Int32)) _
        refine y_iald rfl rfl rfl (x_in_lt (Int32.not_lt.mp h13) (Int32.not_le.mp h21) (hB h9)) ?_
        refine y_st rfl rfl rfl rfl rfl (fun _ _ => rfl) ?_
        show yP (xg xs) d 407 34 [(0, .ref 58), (1, .int c)] [.int (m.1 98 c.toNatClampNeg)] (y_si m 58 0 (0 : Int32)) _
        exact y_iret rfl rfl rfl (by refine ⟨congrArg (fun z => some (Value.int z)) ?_, rfl⟩; first | exact (if_pos ⟨h9, Int32.not_lt.mp h13, Int32.not_le.mp h21⟩).symm | exact (if_neg (fun z => by first | exact z.1 h9 | exact absurd h13 (Int32.not_lt.mpr z.2.1) | exact absurd h21 (Int32.not_le.mpr z.2.2))).symm)
set_option maxRecDepth 20000 in
/-- reference: set -/
theorem c406 (xs : List Int32) (d : Nat) (m : yM) (c v : Int32) (hB : ¬ m.1 58 61 = 0 → (m.1 58 62).toInt ≤ 8192) : yC (xg xs) d 406 [.ref 58, .int c, .int v] m (fun r m' => if (¬ m.1 58 61 = 0 ∧ 0 ≤ c ∧ c < m.1 58 62) then r = some (.int (m.1 98 c.toNatClampNeg)) ∧ m' = y_si (y_si m 58 0 0) 98 c.toNatClampNeg v else r = some (.int 0) ∧ m' = y_si m 58 0 0) := by
  refine y_st rfl rfl rfl rfl rfl (fun _ _ => rfl) ?_
  refine y_st rfl rfl rfl rfl rfl (fun _ _ => rfl) ?_
  refine y_pfi rfl rfl rfl rfl rfl (x_fit_i _) ?_
  show yP (xg xs) d 406 5 [(0, .ref 58), (1, .int c), (2, .int v)] [] (y_si m 58 0 (0 : Int32)) _
  refine y_st rfl rfl rfl rfl rfl (fun _ _ => rfl) ?_
  refine y_gf rfl rfl rfl rfl rfl ?_
  show yP (xg xs) d 406 9 [(0, .ref 58), (1, .int c), (2, .int v)] [.int (m.1 58 61)] (y_si m 58 0 (0 : Int32)) _
  refine y_zeq (t := 24) rfl rfl rfl (fun h9 => ?_) (fun h9 => ?_)
  · refine y_st rfl rfl rfl rfl rfl (fun _ _ => rfl) ?_
    show yP (xg xs) d 406 25 [(0, .ref 58), (1, .int c), (2, .int v)] [.int (0 : Int32)] (y_si m 58 0 (0 : Int32)) _
    exact y_iret rfl rfl rfl (by first | (rw [if_pos ⟨h9, Int32.not_lt.mp h13, h21⟩]; exact ⟨rfl, rfl⟩) | (rw [if_neg (fun z => by first | exact z.1 h9 | exact absurd h13 (Int32.not_lt.mpr z.2.1) | exact h21 z.2.2)]; exact ⟨rfl, rfl⟩))
  · refine y_st rfl rfl rfl rfl rfl (fun _ _ => rfl) ?_
    show yP (xg xs) d 406 13 [(0, .ref 58), (1, .int c), (2, .int v)] [.int c] (y_si m 58 0 (0 : Int32)) _
    refine y_zlt (t := 24) rfl rfl rfl (fun h13 => ?_) (fun h13 => ?_)
    · refine y_st rfl rfl rfl rfl rfl (fun _ _ => rfl) ?_
      show yP (xg xs) d 406 25 [(0, .ref 58), (1, .int c), (2, .int v)] [.int (0 : Int32)] (y_si m 58 0 (0 : Int32)) _
      exact y_iret rfl rfl rfl (by first | (rw [if_pos ⟨h9, Int32.not_lt.mp h13, h21⟩]; exact ⟨rfl, rfl⟩) | (rw [if_neg (fun z => by first | exact z.1 h9 | exact absurd h13 (Int32.not_lt.mpr z.2.1) | exact h21 z.2.2)]; exact ⟨rfl, rfl⟩))
    · refine y_st rfl rfl rfl rfl rfl (fun _ _ => rfl) ?_
      refine y_st rfl rfl rfl rfl rfl (fun _ _ => rfl) ?_
      refine y_gf rfl rfl rfl rfl rfl ?_
      show yP (xg xs) d 406 21 [(0, .ref 58), (1, .int c), (2, .int v)] [.int (m.1 58 62), .int c] (y_si m 58 0 (0 : Int32)) _
      refine y_ilt (t := 26) rfl rfl rfl (fun h21 => ?_) (fun h21 => ?_)
      · refine y_st rfl rfl rfl rfl rfl (fun _ _ => rfl) ?_
        refine y_gf rfl rfl rfl rfl rfl ?_
        refine y_st rfl rfl rfl rfl rfl (fun _ _ => rfl) ?_
        show yP (xg xs) d 406 31 [(0, .ref 58), (1, .int c), (2, .int v)] [.int c, .ref 98] (y_si m 58 0 (0 : Int32)) _
        refine y_iald rfl rfl rfl (x_in_lt (Int32.not_lt.mp h13) h21 (hB h9)) ?_
        refine y_st rfl rfl rfl rfl rfl (fun _ _ => rfl) ?_
        refine y_st rfl rfl rfl rfl rfl (fun _ _ => rfl) ?_
        refine y_gf rfl rfl rfl rfl rfl ?_
        refine y_st rfl rfl rfl rfl rfl (fun _ _ => rfl) ?_
        refine y_st rfl rfl rfl rfl rfl (fun _ _ => rfl) ?_
        show yP (xg xs) d 406 39 [(3, .int (m.1 98 c.toNatClampNeg)), (0, .ref 58), (1, .int c), (2, .int v)] [.int v, .int c, .ref 98] (y_si m 58 0 (0 : Int32)) _
        refine y_iast rfl rfl rfl (x_in_lt (Int32.not_lt.mp h13) h21 (hB h9)) ?_
        refine y_st rfl rfl rfl rfl rfl (fun _ _ => rfl) ?_
        show yP (xg xs) d 406 41 [(3, .int (m.1 98 c.toNatClampNeg)), (0, .ref 58), (1, .int c), (2, .int v)] [.int (m.1 98 c.toNatClampNeg)] (y_si (y_si m 58 0 (0 : Int32)) 98 c.toNatClampNeg v) _
        exact y_iret rfl rfl rfl (by first | (rw [if_pos ⟨h9, Int32.not_lt.mp h13, h21⟩]; exact ⟨rfl, rfl⟩) | (rw [if_neg (fun z => by first | exact z.1 h9 | exact absurd h13 (Int32.not_lt.mpr z.2.1) | exact h21 z.2.2)]; exact ⟨rfl, rfl⟩))
      · refine y_st rfl rfl rfl rfl rfl (fun _ _ => rfl) ?_
        show yP (xg xs) d 406 25 [(0, .ref 58), (1, .int c), (2, .int v)] [.int (0 : Int32)] (y_si m 58 0 (0 : Int32)) _
        exact y_iret rfl rfl rfl (by first | (rw [if_pos ⟨h9, Int32.not_lt.mp h13, h21⟩]; exact ⟨rfl, rfl⟩) | (rw [if_neg (fun z => by first | exact z.1 h9 | exact absurd h13 (Int32.not_lt.mpr z.2.1) | exact h21 z.2.2)]; exact ⟨rfl, rfl⟩))
