/-! LETTERS AND DIGITS: laid by wip/gen/small16.py -/
def gr_ (c : Int32) : Int32 := if 97 ≤ c ∧ c ≤ 122 then c - 32 else c
abbrev isD (c : Int32) : Prop := 48 ≤ c ∧ c ≤ 57
abbrev isL (c : Int32) : Prop := (65 ≤ gr_ c ∧ gr_ c ≤ 90) ∨ c = 95
abbrev isP (c : Int32) : Prop := isL c ∨ isD c
abbrev nB_ (c : Int32) : Prop := (65 ≤ gr_ c ∧ gr_ c ≤ 90) ∨ (48 ≤ gr_ c ∧ gr_ c ≤ 57) ∨ gr_ c = 95
def dm_ (c : Int32) : Int32 := if 48 ≤ gr_ c ∧ gr_ c ≤ 57 then gr_ c - 48 else if 65 ≤ gr_ c ∧ gr_ c ≤ 70 then gr_ c - 65 + 10 else -1
def dg_ (c b : Int32) : Int32 := if dm_ c < b then dm_ c else -1
def do_ (c : Int32) : Int32 := if isD c then c - 48 else if 65 ≤ gr_ c ∧ gr_ c ≤ 70 then gr_ c - 65 + 10 else 99
def mo_ (v : Int64) (b g : Int32) : Int64 := if 8589934592 < v then v else v * b.toInt64 + g.toInt64
set_option maxRecDepth 20000 in
/-- Names.great -/
theorem c41 (xs : List Int32) (d : Nat) (m : yM) (c : Int32) : yC (xg xs) d 41 [.int c] m (fun r m' => r = some (.int (gr_ c)) ∧ m' = m) := by
  refine y_st rfl rfl rfl rfl rfl (fun _ _ => rfl) ?_
  refine y_st rfl rfl rfl rfl rfl (fun _ _ => rfl) ?_
  show yP (xg xs) d 41 3 [(0, .int c)] [.int (97 : Int32), .int c] m _
  refine y_ilt (t := 19) rfl rfl rfl (fun h3 => ?_) (fun h3 => ?_)
  · refine y_st rfl rfl rfl rfl rfl (fun _ _ => rfl) ?_
    show yP (xg xs) d 41 20 [(0, .int c)] [.int c] m _
    exact y_iret rfl rfl rfl (by refine ⟨congrArg (fun z => some (Value.int z)) ?_, rfl⟩; unfold gr_; grind)
  · refine y_st rfl rfl rfl rfl rfl (fun _ _ => rfl) ?_
    refine y_st rfl rfl rfl rfl rfl (fun _ _ => rfl) ?_
    show yP (xg xs) d 41 9 [(0, .int c)] [.int (122 : Int32), .int c] m _
    refine y_igt (t := 19) rfl rfl rfl (fun h9 => ?_) (fun h9 => ?_)
    · refine y_st rfl rfl rfl rfl rfl (fun _ _ => rfl) ?_
      show yP (xg xs) d 41 20 [(0, .int c)] [.int c] m _
      exact y_iret rfl rfl rfl (by refine ⟨congrArg (fun z => some (Value.int z)) ?_, rfl⟩; unfold gr_; grind)
    · refine y_st rfl rfl rfl rfl rfl (fun _ _ => rfl) ?_
      refine y_st rfl rfl rfl rfl rfl (fun _ _ => rfl) ?_
      refine y_st rfl rfl rfl rfl rfl (fun _ _ => rfl) ?_
      refine y_st rfl rfl rfl rfl rfl (fun _ _ => rfl) ?_
      show yP (xg xs) d 41 20 [(0, .int c)] [.int (c - (32 : Int32))] m _
      exact y_iret rfl rfl rfl (by refine ⟨congrArg (fun z => some (Value.int z)) ?_, rfl⟩; unfold gr_; grind)
set_option maxRecDepth 20000 in
/-- reference: great -/
theorem c279 (xs : List Int32) (d : Nat) (m : yM) (c : Int32) : yC (xg xs) d 279 [.int c] m (fun r m' => r = some (.int (gr_ c)) ∧ m' = m) := by
  refine y_st rfl rfl rfl rfl rfl (fun _ _ => rfl) ?_
  refine y_st rfl rfl rfl rfl rfl (fun _ _ => rfl) ?_
  show yP (xg xs) d 279 3 [(0, .int c)] [.int (97 : Int32), .int c] m _
  refine y_ilt (t := 19) rfl rfl rfl (fun h3 => ?_) (fun h3 => ?_)
  · refine y_st rfl rfl rfl rfl rfl (fun _ _ => rfl) ?_
    show yP (xg xs) d 279 20 [(0, .int c)] [.int c] m _
    exact y_iret rfl rfl rfl (by refine ⟨congrArg (fun z => some (Value.int z)) ?_, rfl⟩; unfold gr_; grind)
  · refine y_st rfl rfl rfl rfl rfl (fun _ _ => rfl) ?_
    refine y_st rfl rfl rfl rfl rfl (fun _ _ => rfl) ?_
    show yP (xg xs) d 279 9 [(0, .int c)] [.int (122 : Int32), .int c] m _
    refine y_igt (t := 19) rfl rfl rfl (fun h9 => ?_) (fun h9 => ?_)
    · refine y_st rfl rfl rfl rfl rfl (fun _ _ => rfl) ?_
      show yP (xg xs) d 279 20 [(0, .int c)] [.int c] m _
      exact y_iret rfl rfl rfl (by refine ⟨congrArg (fun z => some (Value.int z)) ?_, rfl⟩; unfold gr_; grind)
    · refine y_st rfl rfl rfl rfl rfl (fun _ _ => rfl) ?_
      refine y_st rfl rfl rfl rfl rfl (fun _ _ => rfl) ?_
      refine y_st rfl rfl rfl rfl rfl (fun _ _ => rfl) ?_
      refine y_st rfl rfl rfl rfl rfl (fun _ _ => rfl) ?_
      show yP (xg xs) d 279 20 [(0, .int c)] [.int (c - (32 : Int32))] m _
      exact y_iret rfl rfl rfl (by refine ⟨congrArg (fun z => some (Value.int z)) ?_, rfl⟩; unfold gr_; grind)
set_option maxRecDepth 20000 in
/-- Tokens.digit -/
theorem c44 (xs : List Int32) (d : Nat) (m : yM) (c b : Int32) : yC (xg xs) (d + 1) 44 [.int c, .int b] m (fun r m' => r = some (.int (dg_ c b)) ∧ m' = m) := by
  refine y_st rfl rfl rfl rfl rfl (fun _ _ => rfl) ?_
  show yP (xg xs) (d + 1) 44 1 [(0, .int c), (1, .int b)] [.int c] m _
  refine y_call rfl rfl rfl rfl rfl (Nat.le_of_ble_eq_true rfl) (Nat.le_of_ble_eq_true rfl) rfl (by decide) (c41 xs d m c) (fun v1 m1 q1 => ?_)
  obtain ⟨rfl, e1⟩ := q1; rw [e1]; clear e1
  refine y_st rfl rfl rfl rfl rfl (fun _ _ => rfl) ?_
  refine y_st rfl rfl rfl rfl rfl (fun _ _ => rfl) ?_
  refine y_st rfl rfl rfl rfl rfl (fun _ _ => rfl) ?_
  refine y_st rfl rfl rfl rfl rfl (fun _ _ => rfl) ?_
  refine y_st rfl rfl rfl rfl rfl (fun _ _ => rfl) ?_
  show yP (xg xs) (d + 1) 44 10 [(3, .int ((-1) : Int32)), (2, .int (gr_ c)), (0, .int c), (1, .int b)] [.int (48 : Int32), .int (gr_ c)] m _
  refine y_ilt (t := 27) rfl rfl rfl (fun h10 => ?_) (fun h10 => ?_)
  · refine y_st rfl rfl rfl rfl rfl (fun _ _ => rfl) ?_
    refine y_st rfl rfl rfl rfl rfl (fun _ _ => rfl) ?_
    show yP (xg xs) (d + 1) 44 30 [(3, .int ((-1) : Int32)), (2, .int (gr_ c)), (0, .int c), (1, .int b)] [.int (65 : Int32), .int (gr_ c)] m _
    refine y_ilt (t := 47) rfl rfl rfl (fun h30 => ?_) (fun h30 => ?_)
    · refine y_st rfl rfl rfl rfl rfl (fun _ _ => rfl) ?_
      refine y_st rfl rfl rfl rfl rfl (fun _ _ => rfl) ?_
      show yP (xg xs) (d + 1) 44 49 [(3, .int ((-1) : Int32)), (2, .int (gr_ c)), (0, .int c), (1, .int b)] [.int b, .int ((-1) : Int32)] m _
      refine y_ige (t := 56) rfl rfl rfl (fun h49 => ?_) (fun h49 => ?_)
      · refine y_st rfl rfl rfl rfl rfl (fun _ _ => rfl) ?_
        show yP (xg xs) (d + 1) 44 57 [(3, .int ((-1) : Int32)), (2, .int (gr_ c)), (0, .int c), (1, .int b)] [.int ((-1) : Int32)] m _
        exact y_iret rfl rfl rfl (by refine ⟨congrArg (fun z => some (Value.int z)) ?_, rfl⟩; unfold dg_ dm_; grind)
      · refine y_st rfl rfl rfl rfl rfl (fun _ _ => rfl) ?_
        refine y_st rfl rfl rfl rfl rfl (fun _ _ => rfl) ?_
        show yP (xg xs) (d + 1) 44 57 [(3, .int ((-1) : Int32)), (2, .int (gr_ c)), (0, .int c), (1, .int b)] [.int ((-1) : Int32)] m _
        exact y_iret rfl rfl rfl (by refine ⟨congrArg (fun z => some (Value.int z)) ?_, rfl⟩; unfold dg_ dm_; grind)
    · refine y_st rfl rfl rfl rfl rfl (fun _ _ => rfl) ?_
      refine y_st rfl rfl rfl rfl rfl (fun _ _ => rfl) ?_
      show yP (xg xs) (d + 1) 44 36 [(3, .int ((-1) : Int32)), (2, .int (gr_ c)), (0, .int c), (1, .int b)] [.int (70 : Int32), .int (gr_ c)] m _
      refine y_igt (t := 47) rfl rfl rfl (fun h36 => ?_) (fun h36 => ?_)
      · refine y_st rfl rfl rfl rfl rfl (fun _ _ => rfl) ?_
        refine y_st rfl rfl rfl rfl rfl (fun _ _ => rfl) ?_
        show yP (xg xs) (d + 1) 44 49 [(3, .int ((-1) : Int32)), (2, .int (gr_ c)), (0, .int c), (1, .int b)] [.int b, .int ((-1) : Int32)] m _
        refine y_ige (t := 56) rfl rfl rfl (fun h49 => ?_) (fun h49 => ?_)
        · refine y_st rfl rfl rfl rfl rfl (fun _ _ => rfl) ?_
          show yP (xg xs) (d + 1) 44 57 [(3, .int ((-1) : Int32)), (2, .int (gr_ c)), (0, .int c), (1, .int b)] [.int ((-1) : Int32)] m _
          exact y_iret rfl rfl rfl (by refine ⟨congrArg (fun z => some (Value.int z)) ?_, rfl⟩; unfold dg_ dm_; grind)
        · refine y_st rfl rfl rfl rfl rfl (fun _ _ => rfl) ?_
          refine y_st rfl rfl rfl rfl rfl (fun _ _ => rfl) ?_
          show yP (xg xs) (d + 1) 44 57 [(3, .int ((-1) : Int32)), (2, .int (gr_ c)), (0, .int c), (1, .int b)] [.int ((-1) : Int32)] m _
          exact y_iret rfl rfl rfl (by refine ⟨congrArg (fun z => some (Value.int z)) ?_, rfl⟩; unfold dg_ dm_; grind)
      · refine y_st rfl rfl rfl rfl rfl (fun _ _ => rfl) ?_
        refine y_st rfl rfl rfl rfl rfl (fun _ _ => rfl) ?_
        refine y_st rfl rfl rfl rfl rfl (fun _ _ => rfl) ?_
        refine y_st rfl rfl rfl rfl rfl (fun _ _ => rfl) ?_
        refine y_st rfl rfl rfl rfl rfl (fun _ _ => rfl) ?_
        refine y_st rfl rfl rfl rfl rfl (fun _ _ => rfl) ?_
        refine y_st rfl rfl rfl rfl rfl (fun _ _ => rfl) ?_
        refine y_st rfl rfl rfl rfl rfl (fun _ _ => rfl) ?_
        show yP (xg xs) (d + 1) 44 49 [(3, .int (((gr_ c) - (65 : Int32)) + (10 : Int32))), (2, .int (gr_ c)), (0, .int c), (1, .int b)] [.int b, .int (((gr_ c) - (65 : Int32)) + (10 : Int32))] m _
        refine y_ige (t := 56) rfl rfl rfl (fun h49 => ?_) (fun h49 => ?_)
        · refine y_st rfl rfl rfl rfl rfl (fun _ _ => rfl) ?_
          show yP (xg xs) (d + 1) 44 57 [(3, .int (((gr_ c) - (65 : Int32)) + (10 : Int32))), (2, .int (gr_ c)), (0, .int c), (1, .int b)] [.int ((-1) : Int32)] m _
          exact y_iret rfl rfl rfl (by refine ⟨congrArg (fun z => some (Value.int z)) ?_, rfl⟩; unfold dg_ dm_; grind)
        · refine y_st rfl rfl rfl rfl rfl (fun _ _ => rfl) ?_
          refine y_st rfl rfl rfl rfl rfl (fun _ _ => rfl) ?_
          show yP (xg xs) (d + 1) 44 57 [(3, .int (((gr_ c) - (65 : Int32)) + (10 : Int32))), (2, .int (gr_ c)), (0, .int c), (1, .int b)] [.int (((gr_ c) - (65 : Int32)) + (10 : Int32))] m _
          exact y_iret rfl rfl rfl (by refine ⟨congrArg (fun z => some (Value.int z)) ?_, rfl⟩; unfold dg_ dm_; grind)
  · refine y_st rfl rfl rfl rfl rfl (fun _ _ => rfl) ?_
    refine y_st rfl rfl rfl rfl rfl (fun _ _ => rfl) ?_
    show yP (xg xs) (d + 1) 44 16 [(3, .int ((-1) : Int32)), (2, .int (gr_ c)), (0, .int c), (1, .int b)] [.int (57 : Int32), .int (gr_ c)] m _
    refine y_igt (t := 27) rfl rfl rfl (fun h16 => ?_) (fun h16 => ?_)
    · refine y_st rfl rfl rfl rfl rfl (fun _ _ => rfl) ?_
      refine y_st rfl rfl rfl rfl rfl (fun _ _ => rfl) ?_
      show yP (xg xs) (d + 1) 44 30 [(3, .int ((-1) : Int32)), (2, .int (gr_ c)), (0, .int c), (1, .int b)] [.int (65 : Int32), .int (gr_ c)] m _
      refine y_ilt (t := 47) rfl rfl rfl (fun h30 => ?_) (fun h30 => ?_)
      · refine y_st rfl rfl rfl rfl rfl (fun _ _ => rfl) ?_
        refine y_st rfl rfl rfl rfl rfl (fun _ _ => rfl) ?_
        show yP (xg xs) (d + 1) 44 49 [(3, .int ((-1) : Int32)), (2, .int (gr_ c)), (0, .int c), (1, .int b)] [.int b, .int ((-1) : Int32)] m _
        refine y_ige (t := 56) rfl rfl rfl (fun h49 => ?_) (fun h49 => ?_)
        · refine y_st rfl rfl rfl rfl rfl (fun _ _ => rfl) ?_
          show yP (xg xs) (d + 1) 44 57 [(3, .int ((-1) : Int32)), (2, .int (gr_ c)), (0, .int c), (1, .int b)] [.int ((-1) : Int32)] m _
          exact y_iret rfl rfl rfl (by refine ⟨congrArg (fun z => some (Value.int z)) ?_, rfl⟩; unfold dg_ dm_; grind)
        · refine y_st rfl rfl rfl rfl rfl (fun _ _ => rfl) ?_
          refine y_st rfl rfl rfl rfl rfl (fun _ _ => rfl) ?_
          show yP (xg xs) (d + 1) 44 57 [(3, .int ((-1) : Int32)), (2, .int (gr_ c)), (0, .int c), (1, .int b)] [.int ((-1) : Int32)] m _
          exact y_iret rfl rfl rfl (by refine ⟨congrArg (fun z => some (Value.int z)) ?_, rfl⟩; unfold dg_ dm_; grind)
      · refine y_st rfl rfl rfl rfl rfl (fun _ _ => rfl) ?_
        refine y_st rfl rfl rfl rfl rfl (fun _ _ => rfl) ?_
        show yP (xg xs) (d + 1) 44 36 [(3, .int ((-1) : Int32)), (2, .int (gr_ c)), (0, .int c), (1, .int b)] [.int (70 : Int32), .int (gr_ c)] m _
        refine y_igt (t := 47) rfl rfl rfl (fun h36 => ?_) (fun h36 => ?_)
        · refine y_st rfl rfl rfl rfl rfl (fun _ _ => rfl) ?_
          refine y_st rfl rfl rfl rfl rfl (fun _ _ => rfl) ?_
          show yP (xg xs) (d + 1) 44 49 [(3, .int ((-1) : Int32)), (2, .int (gr_ c)), (0, .int c), (1, .int b)] [.int b, .int ((-1) : Int32)] m _
          refine y_ige (t := 56) rfl rfl rfl (fun h49 => ?_) (fun h49 => ?_)
          · refine y_st rfl rfl rfl rfl rfl (fun _ _ => rfl) ?_
            show yP (xg xs) (d + 1) 44 57 [(3, .int ((-1) : Int32)), (2, .int (gr_ c)), (0, .int c), (1, .int b)] [.int ((-1) : Int32)] m _
            exact y_iret rfl rfl rfl (by refine ⟨congrArg (fun z => some (Value.int z)) ?_, rfl⟩; unfold dg_ dm_; grind)
          · refine y_st rfl rfl rfl rfl rfl (fun _ _ => rfl) ?_
            refine y_st rfl rfl rfl rfl rfl (fun _ _ => rfl) ?_
            show yP (xg xs) (d + 1) 44 57 [(3, .int ((-1) : Int32)), (2, .int (gr_ c)), (0, .int c), (1, .int b)] [.int ((-1) : Int32)] m _
            exact y_iret rfl rfl rfl (by refine ⟨congrArg (fun z => some (Value.int z)) ?_, rfl⟩; unfold dg_ dm_; grind)
        · refine y_st rfl rfl rfl rfl rfl (fun _ _ => rfl) ?_
          refine y_st rfl rfl rfl rfl rfl (fun _ _ => rfl) ?_
          refine y_st rfl rfl rfl rfl rfl (fun _ _ => rfl) ?_
          refine y_st rfl rfl rfl rfl rfl (fun _ _ => rfl) ?_
          refine y_st rfl rfl rfl rfl rfl (fun _ _ => rfl) ?_
          refine y_st rfl rfl rfl rfl rfl (fun _ _ => rfl) ?_
          refine y_st rfl rfl rfl rfl rfl (fun _ _ => rfl) ?_
          refine y_st rfl rfl rfl rfl rfl (fun _ _ => rfl) ?_
          show yP (xg xs) (d + 1) 44 49 [(3, .int (((gr_ c) - (65 : Int32)) + (10 : Int32))), (2, .int (gr_ c)), (0, .int c), (1, .int b)] [.int b, .int (((gr_ c) - (65 : Int32)) + (10 : Int32))] m _
          refine y_ige (t := 56) rfl rfl rfl (fun h49 => ?_) (fun h49 => ?_)
          · refine y_st rfl rfl rfl rfl rfl (fun _ _ => rfl) ?_
            show yP (xg xs) (d + 1) 44 57 [(3, .int (((gr_ c) - (65 : Int32)) + (10 : Int32))), (2, .int (gr_ c)), (0, .int c), (1, .int b)] [.int ((-1) : Int32)] m _
            exact y_iret rfl rfl rfl (by refine ⟨congrArg (fun z => some (Value.int z)) ?_, rfl⟩; unfold dg_ dm_; grind)
          · refine y_st rfl rfl rfl rfl rfl (fun _ _ => rfl) ?_
            refine y_st rfl rfl rfl rfl rfl (fun _ _ => rfl) ?_
            show yP (xg xs) (d + 1) 44 57 [(3, .int (((gr_ c) - (65 : Int32)) + (10 : Int32))), (2, .int (gr_ c)), (0, .int c), (1, .int b)] [.int (((gr_ c) - (65 : Int32)) + (10 : Int32))] m _
            exact y_iret rfl rfl rfl (by refine ⟨congrArg (fun z => some (Value.int z)) ?_, rfl⟩; unfold dg_ dm_; grind)
    · refine y_st rfl rfl rfl rfl rfl (fun _ _ => rfl) ?_
      refine y_st rfl rfl rfl rfl rfl (fun _ _ => rfl) ?_
      refine y_st rfl rfl rfl rfl rfl (fun _ _ => rfl) ?_
      refine y_st rfl rfl rfl rfl rfl (fun _ _ => rfl) ?_
      refine y_st rfl rfl rfl rfl rfl (fun _ _ => rfl) ?_
      refine y_st rfl rfl rfl rfl rfl (fun _ _ => rfl) ?_
      refine y_st rfl rfl rfl rfl rfl (fun _ _ => rfl) ?_
      show yP (xg xs) (d + 1) 44 49 [(3, .int ((gr_ c) - (48 : Int32))), (2, .int (gr_ c)), (0, .int c), (1, .int b)] [.int b, .int ((gr_ c) - (48 : Int32))] m _
      refine y_ige (t := 56) rfl rfl rfl (fun h49 => ?_) (fun h49 => ?_)
      · refine y_st rfl rfl rfl rfl rfl (fun _ _ => rfl) ?_
        show yP (xg xs) (d + 1) 44 57 [(3, .int ((gr_ c) - (48 : Int32))), (2, .int (gr_ c)), (0, .int c), (1, .int b)] [.int ((-1) : Int32)] m _
        exact y_iret rfl rfl rfl (by refine ⟨congrArg (fun z => some (Value.int z)) ?_, rfl⟩; unfold dg_ dm_; grind)
      · refine y_st rfl rfl rfl rfl rfl (fun _ _ => rfl) ?_
        refine y_st rfl rfl rfl rfl rfl (fun _ _ => rfl) ?_
        show yP (xg xs) (d + 1) 44 57 [(3, .int ((gr_ c) - (48 : Int32))), (2, .int (gr_ c)), (0, .int c), (1, .int b)] [.int ((gr_ c) - (48 : Int32))] m _
        exact y_iret rfl rfl rfl (by refine ⟨congrArg (fun z => some (Value.int z)) ?_, rfl⟩; unfold dg_ dm_; grind)
set_option maxRecDepth 20000 in
/-- Tokens.isNameByte -/
theorem c47 (xs : List Int32) (d : Nat) (m : yM) (c : Int32) : yC (xg xs) (d + 1) 47 [.int c] m (fun r m' => r = some (.int (if nB_ c then 1 else 0)) ∧ m' = m) := by
  refine y_st rfl rfl rfl rfl rfl (fun _ _ => rfl) ?_
  show yP (xg xs) (d + 1) 47 1 [(0, .int c)] [.int c] m _
  refine y_call rfl rfl rfl rfl rfl (Nat.le_of_ble_eq_true rfl) (Nat.le_of_ble_eq_true rfl) rfl (by decide) (c41 xs d m c) (fun v1 m1 q1 => ?_)
  obtain ⟨rfl, e1⟩ := q1; rw [e1]; clear e1
  refine y_st rfl rfl rfl rfl rfl (fun _ _ => rfl) ?_
  refine y_st rfl rfl rfl rfl rfl (fun _ _ => rfl) ?_
  refine y_st rfl rfl rfl rfl rfl (fun _ _ => rfl) ?_
  show yP (xg xs) (d + 1) 47 8 [(1, .int (gr_ c)), (0, .int c)] [.int (65 : Int32), .int (gr_ c)] m _
  refine y_ilt (t := 17) rfl rfl rfl (fun h8 => ?_) (fun h8 => ?_)
  · refine y_st rfl rfl rfl rfl rfl (fun _ _ => rfl) ?_
    refine y_st rfl rfl rfl rfl rfl (fun _ _ => rfl) ?_
    show yP (xg xs) (d + 1) 47 20 [(1, .int (gr_ c)), (0, .int c)] [.int (48 : Int32), .int (gr_ c)] m _
    refine y_ilt (t := 29) rfl rfl rfl (fun h20 => ?_) (fun h20 => ?_)
    · refine y_st rfl rfl rfl rfl rfl (fun _ _ => rfl) ?_
      refine y_st rfl rfl rfl rfl rfl (fun _ _ => rfl) ?_
      show yP (xg xs) (d + 1) 47 32 [(1, .int (gr_ c)), (0, .int c)] [.int (95 : Int32), .int (gr_ c)] m _
      refine y_ine (t := 39) rfl rfl rfl (fun h32 => ?_) (fun h32 => ?_)
      · refine y_st rfl rfl rfl rfl rfl (fun _ _ => rfl) ?_
        show yP (xg xs) (d + 1) 47 40 [(1, .int (gr_ c)), (0, .int c)] [.int (0 : Int32)] m _
        exact y_zret rfl rfl rfl (by decide) (by refine ⟨congrArg (fun z => some (Value.int z)) ?_, rfl⟩; grind)
      · refine y_st rfl rfl rfl rfl rfl (fun _ _ => rfl) ?_
        refine y_st rfl rfl rfl rfl rfl (fun _ _ => rfl) ?_
        show yP (xg xs) (d + 1) 47 40 [(1, .int (gr_ c)), (0, .int c)] [.int (1 : Int32)] m _
        exact y_zret rfl rfl rfl (by decide) (by refine ⟨congrArg (fun z => some (Value.int z)) ?_, rfl⟩; grind)
    · refine y_st rfl rfl rfl rfl rfl (fun _ _ => rfl) ?_
      refine y_st rfl rfl rfl rfl rfl (fun _ _ => rfl) ?_
      show yP (xg xs) (d + 1) 47 26 [(1, .int (gr_ c)), (0, .int c)] [.int (57 : Int32), .int (gr_ c)] m _
      refine y_ile (t := 35) rfl rfl rfl (fun h26 => ?_) (fun h26 => ?_)
      · refine y_st rfl rfl rfl rfl rfl (fun _ _ => rfl) ?_
        refine y_st rfl rfl rfl rfl rfl (fun _ _ => rfl) ?_
        show yP (xg xs) (d + 1) 47 40 [(1, .int (gr_ c)), (0, .int c)] [.int (1 : Int32)] m _
        exact y_zret rfl rfl rfl (by decide) (by refine ⟨congrArg (fun z => some (Value.int z)) ?_, rfl⟩; grind)
      · refine y_st rfl rfl rfl rfl rfl (fun _ _ => rfl) ?_
        refine y_st rfl rfl rfl rfl rfl (fun _ _ => rfl) ?_
        show yP (xg xs) (d + 1) 47 32 [(1, .int (gr_ c)), (0, .int c)] [.int (95 : Int32), .int (gr_ c)] m _
        refine y_ine (t := 39) rfl rfl rfl (fun h32 => ?_) (fun h32 => ?_)
        · refine y_st rfl rfl rfl rfl rfl (fun _ _ => rfl) ?_
          show yP (xg xs) (d + 1) 47 40 [(1, .int (gr_ c)), (0, .int c)] [.int (0 : Int32)] m _
          exact y_zret rfl rfl rfl (by decide) (by refine ⟨congrArg (fun z => some (Value.int z)) ?_, rfl⟩; grind)
        · refine y_st rfl rfl rfl rfl rfl (fun _ _ => rfl) ?_
          refine y_st rfl rfl rfl rfl rfl (fun _ _ => rfl) ?_
          show yP (xg xs) (d + 1) 47 40 [(1, .int (gr_ c)), (0, .int c)] [.int (1 : Int32)] m _
          exact y_zret rfl rfl rfl (by decide) (by refine ⟨congrArg (fun z => some (Value.int z)) ?_, rfl⟩; grind)
  · refine y_st rfl rfl rfl rfl rfl (fun _ _ => rfl) ?_
    refine y_st rfl rfl rfl rfl rfl (fun _ _ => rfl) ?_
    show yP (xg xs) (d + 1) 47 14 [(1, .int (gr_ c)), (0, .int c)] [.int (90 : Int32), .int (gr_ c)] m _
    refine y_ile (t := 35) rfl rfl rfl (fun h14 => ?_) (fun h14 => ?_)
    · refine y_st rfl rfl rfl rfl rfl (fun _ _ => rfl) ?_
      refine y_st rfl rfl rfl rfl rfl (fun _ _ => rfl) ?_
      show yP (xg xs) (d + 1) 47 40 [(1, .int (gr_ c)), (0, .int c)] [.int (1 : Int32)] m _
      exact y_zret rfl rfl rfl (by decide) (by refine ⟨congrArg (fun z => some (Value.int z)) ?_, rfl⟩; grind)
    · refine y_st rfl rfl rfl rfl rfl (fun _ _ => rfl) ?_
      refine y_st rfl rfl rfl rfl rfl (fun _ _ => rfl) ?_
      show yP (xg xs) (d + 1) 47 20 [(1, .int (gr_ c)), (0, .int c)] [.int (48 : Int32), .int (gr_ c)] m _
      refine y_ilt (t := 29) rfl rfl rfl (fun h20 => ?_) (fun h20 => ?_)
      · refine y_st rfl rfl rfl rfl rfl (fun _ _ => rfl) ?_
        refine y_st rfl rfl rfl rfl rfl (fun _ _ => rfl) ?_
        show yP (xg xs) (d + 1) 47 32 [(1, .int (gr_ c)), (0, .int c)] [.int (95 : Int32), .int (gr_ c)] m _
        refine y_ine (t := 39) rfl rfl rfl (fun h32 => ?_) (fun h32 => ?_)
        · refine y_st rfl rfl rfl rfl rfl (fun _ _ => rfl) ?_
          show yP (xg xs) (d + 1) 47 40 [(1, .int (gr_ c)), (0, .int c)] [.int (0 : Int32)] m _
          exact y_zret rfl rfl rfl (by decide) (by refine ⟨congrArg (fun z => some (Value.int z)) ?_, rfl⟩; grind)
        · refine y_st rfl rfl rfl rfl rfl (fun _ _ => rfl) ?_
          refine y_st rfl rfl rfl rfl rfl (fun _ _ => rfl) ?_
          show yP (xg xs) (d + 1) 47 40 [(1, .int (gr_ c)), (0, .int c)] [.int (1 : Int32)] m _
          exact y_zret rfl rfl rfl (by decide) (by refine ⟨congrArg (fun z => some (Value.int z)) ?_, rfl⟩; grind)
      · refine y_st rfl rfl rfl rfl rfl (fun _ _ => rfl) ?_
        refine y_st rfl rfl rfl rfl rfl (fun _ _ => rfl) ?_
        show yP (xg xs) (d + 1) 47 26 [(1, .int (gr_ c)), (0, .int c)] [.int (57 : Int32), .int (gr_ c)] m _
        refine y_ile (t := 35) rfl rfl rfl (fun h26 => ?_) (fun h26 => ?_)
        · refine y_st rfl rfl rfl rfl rfl (fun _ _ => rfl) ?_
          refine y_st rfl rfl rfl rfl rfl (fun _ _ => rfl) ?_
          show yP (xg xs) (d + 1) 47 40 [(1, .int (gr_ c)), (0, .int c)] [.int (1 : Int32)] m _
          exact y_zret rfl rfl rfl (by decide) (by refine ⟨congrArg (fun z => some (Value.int z)) ?_, rfl⟩; grind)
        · refine y_st rfl rfl rfl rfl rfl (fun _ _ => rfl) ?_
          refine y_st rfl rfl rfl rfl rfl (fun _ _ => rfl) ?_
          show yP (xg xs) (d + 1) 47 32 [(1, .int (gr_ c)), (0, .int c)] [.int (95 : Int32), .int (gr_ c)] m _
          refine y_ine (t := 39) rfl rfl rfl (fun h32 => ?_) (fun h32 => ?_)
          · refine y_st rfl rfl rfl rfl rfl (fun _ _ => rfl) ?_
            show yP (xg xs) (d + 1) 47 40 [(1, .int (gr_ c)), (0, .int c)] [.int (0 : Int32)] m _
            exact y_zret rfl rfl rfl (by decide) (by refine ⟨congrArg (fun z => some (Value.int z)) ?_, rfl⟩; grind)
          · refine y_st rfl rfl rfl rfl rfl (fun _ _ => rfl) ?_
            refine y_st rfl rfl rfl rfl rfl (fun _ _ => rfl) ?_
            show yP (xg xs) (d + 1) 47 40 [(1, .int (gr_ c)), (0, .int c)] [.int (1 : Int32)] m _
            exact y_zret rfl rfl rfl (by decide) (by refine ⟨congrArg (fun z => some (Value.int z)) ?_, rfl⟩; grind)
set_option maxRecDepth 20000 in
/-- reference: isDigit -/
theorem c278 (xs : List Int32) (d : Nat) (m : yM) (c : Int32) : yC (xg xs) d 278 [.int c] m (fun r m' => r = some (.int (if isD c then 1 else 0)) ∧ m' = m) := by
  refine y_st rfl rfl rfl rfl rfl (fun _ _ => rfl) ?_
  refine y_st rfl rfl rfl rfl rfl (fun _ _ => rfl) ?_
  show yP (xg xs) d 278 3 [(0, .int c)] [.int (48 : Int32), .int c] m _
  refine y_ilt (t := 16) rfl rfl rfl (fun h3 => ?_) (fun h3 => ?_)
  · refine y_st rfl rfl rfl rfl rfl (fun _ _ => rfl) ?_
    show yP (xg xs) d 278 17 [(0, .int c)] [.int (0 : Int32)] m _
    exact y_zret rfl rfl rfl (by decide) (by refine ⟨congrArg (fun z => some (Value.int z)) ?_, rfl⟩; grind)
  · refine y_st rfl rfl rfl rfl rfl (fun _ _ => rfl) ?_
    refine y_st rfl rfl rfl rfl rfl (fun _ _ => rfl) ?_
    show yP (xg xs) d 278 9 [(0, .int c)] [.int (57 : Int32), .int c] m _
    refine y_igt (t := 16) rfl rfl rfl (fun h9 => ?_) (fun h9 => ?_)
    · refine y_st rfl rfl rfl rfl rfl (fun _ _ => rfl) ?_
      show yP (xg xs) d 278 17 [(0, .int c)] [.int (0 : Int32)] m _
      exact y_zret rfl rfl rfl (by decide) (by refine ⟨congrArg (fun z => some (Value.int z)) ?_, rfl⟩; grind)
    · refine y_st rfl rfl rfl rfl rfl (fun _ _ => rfl) ?_
      refine y_st rfl rfl rfl rfl rfl (fun _ _ => rfl) ?_
      show yP (xg xs) d 278 17 [(0, .int c)] [.int (1 : Int32)] m _
      exact y_zret rfl rfl rfl (by decide) (by refine ⟨congrArg (fun z => some (Value.int z)) ?_, rfl⟩; grind)
set_option maxRecDepth 20000 in
/-- reference: isLetter -/
theorem c284 (xs : List Int32) (d : Nat) (m : yM) (c : Int32) : yC (xg xs) (d + 1) 284 [.int c] m (fun r m' => r = some (.int (if isL c then 1 else 0)) ∧ m' = m) := by
  refine y_st rfl rfl rfl rfl rfl (fun _ _ => rfl) ?_
  show yP (xg xs) (d + 1) 284 1 [(0, .int c)] [.int c] m _
  refine y_call rfl rfl rfl rfl rfl (Nat.le_of_ble_eq_true rfl) (Nat.le_of_ble_eq_true rfl) rfl (by decide) (c279 xs d m c) (fun v1 m1 q1 => ?_)
  obtain ⟨rfl, e1⟩ := q1; rw [e1]; clear e1
  refine y_st rfl rfl rfl rfl rfl (fun _ _ => rfl) ?_
  show yP (xg xs) (d + 1) 284 6 [(0, .int c)] [.int (65 : Int32), .int (gr_ c)] m _
  refine y_ilt (t := 18) rfl rfl rfl (fun h6 => ?_) (fun h6 => ?_)
  · refine y_st rfl rfl rfl rfl rfl (fun _ _ => rfl) ?_
    refine y_st rfl rfl rfl rfl rfl (fun _ _ => rfl) ?_
    show yP (xg xs) (d + 1) 284 21 [(0, .int c)] [.int (95 : Int32), .int c] m _
    refine y_ine (t := 28) rfl rfl rfl (fun h21 => ?_) (fun h21 => ?_)
    · refine y_st rfl rfl rfl rfl rfl (fun _ _ => rfl) ?_
      show yP (xg xs) (d + 1) 284 29 [(0, .int c)] [.int (0 : Int32)] m _
      exact y_zret rfl rfl rfl (by decide) (by refine ⟨congrArg (fun z => some (Value.int z)) ?_, rfl⟩; grind)
    · refine y_st rfl rfl rfl rfl rfl (fun _ _ => rfl) ?_
      refine y_st rfl rfl rfl rfl rfl (fun _ _ => rfl) ?_
      show yP (xg xs) (d + 1) 284 29 [(0, .int c)] [.int (1 : Int32)] m _
      exact y_zret rfl rfl rfl (by decide) (by refine ⟨congrArg (fun z => some (Value.int z)) ?_, rfl⟩; grind)
  · refine y_st rfl rfl rfl rfl rfl (fun _ _ => rfl) ?_
    show yP (xg xs) (d + 1) 284 10 [(0, .int c)] [.int c] m _
    refine y_call rfl rfl rfl rfl rfl (Nat.le_of_ble_eq_true rfl) (Nat.le_of_ble_eq_true rfl) rfl (by decide) (c279 xs d m c) (fun v2 m2 q2 => ?_)
    obtain ⟨rfl, e2⟩ := q2; rw [e2]; clear e2
    refine y_st rfl rfl rfl rfl rfl (fun _ _ => rfl) ?_
    show yP (xg xs) (d + 1) 284 15 [(0, .int c)] [.int (90 : Int32), .int (gr_ c)] m _
    refine y_ile (t := 24) rfl rfl rfl (fun h15 => ?_) (fun h15 => ?_)
    · refine y_st rfl rfl rfl rfl rfl (fun _ _ => rfl) ?_
      refine y_st rfl rfl rfl rfl rfl (fun _ _ => rfl) ?_
      show yP (xg xs) (d + 1) 284 29 [(0, .int c)] [.int (1 : Int32)] m _
      exact y_zret rfl rfl rfl (by decide) (by refine ⟨congrArg (fun z => some (Value.int z)) ?_, rfl⟩; grind)
    · refine y_st rfl rfl rfl rfl rfl (fun _ _ => rfl) ?_
      refine y_st rfl rfl rfl rfl rfl (fun _ _ => rfl) ?_
      show yP (xg xs) (d + 1) 284 21 [(0, .int c)] [.int (95 : Int32), .int c] m _
      refine y_ine (t := 28) rfl rfl rfl (fun h21 => ?_) (fun h21 => ?_)
      · refine y_st rfl rfl rfl rfl rfl (fun _ _ => rfl) ?_
        show yP (xg xs) (d + 1) 284 29 [(0, .int c)] [.int (0 : Int32)] m _
        exact y_zret rfl rfl rfl (by decide) (by refine ⟨congrArg (fun z => some (Value.int z)) ?_, rfl⟩; grind)
      · refine y_st rfl rfl rfl rfl rfl (fun _ _ => rfl) ?_
        refine y_st rfl rfl rfl rfl rfl (fun _ _ => rfl) ?_
        show yP (xg xs) (d + 1) 284 29 [(0, .int c)] [.int (1 : Int32)] m _
        exact y_zret rfl rfl rfl (by decide) (by refine ⟨congrArg (fun z => some (Value.int z)) ?_, rfl⟩; grind)
set_option maxRecDepth 20000 in
/-- reference: isPart -/
theorem c283 (xs : List Int32) (d : Nat) (m : yM) (c : Int32) : yC (xg xs) (d + 2) 283 [.int c] m (fun r m' => r = some (.int (if isP c then 1 else 0)) ∧ m' = m) := by
  refine y_st rfl rfl rfl rfl rfl (fun _ _ => rfl) ?_
  show yP (xg xs) (d + 2) 283 1 [(0, .int c)] [.int c] m _
  refine y_call rfl rfl rfl rfl rfl (Nat.le_of_ble_eq_true rfl) (Nat.le_of_ble_eq_true rfl) rfl (by decide) (c284 xs d m c) (fun v1 m1 q1 => ?_)
  obtain ⟨rfl, e1⟩ := q1; rw [e1]; clear e1
  show yP (xg xs) (d + 2) 283 4 [(0, .int c)] [.int (if isL c then 1 else 0)] m _
  refine y_zne (t := 14) rfl rfl rfl (fun h4 => ?_) (fun h4 => ?_)
  · refine y_st rfl rfl rfl rfl rfl (fun _ _ => rfl) ?_
    refine y_st rfl rfl rfl rfl rfl (fun _ _ => rfl) ?_
    show yP (xg xs) (d + 2) 283 19 [(0, .int c)] [.int (1 : Int32)] m _
    exact y_zret rfl rfl rfl (by decide) (by refine ⟨congrArg (fun z => some (Value.int z)) ?_, rfl⟩; grind)
  · refine y_st rfl rfl rfl rfl rfl (fun _ _ => rfl) ?_
    show yP (xg xs) (d + 2) 283 8 [(0, .int c)] [.int c] m _
    refine y_call rfl rfl rfl rfl rfl (Nat.le_of_ble_eq_true rfl) (Nat.le_of_ble_eq_true rfl) rfl (by decide) (yC.mono (Nat.zero_le _) (fun _ _ z => z) (c278 xs 0 m c)) (fun v2 m2 q2 => ?_)
    obtain ⟨rfl, e2⟩ := q2; rw [e2]; clear e2
    show yP (xg xs) (d + 2) 283 11 [(0, .int c)] [.int (if isD c then 1 else 0)] m _
    refine y_zeq (t := 18) rfl rfl rfl (fun h11 => ?_) (fun h11 => ?_)
    · refine y_st rfl rfl rfl rfl rfl (fun _ _ => rfl) ?_
      show yP (xg xs) (d + 2) 283 19 [(0, .int c)] [.int (0 : Int32)] m _
      exact y_zret rfl rfl rfl (by decide) (by refine ⟨congrArg (fun z => some (Value.int z)) ?_, rfl⟩; grind)
    · refine y_st rfl rfl rfl rfl rfl (fun _ _ => rfl) ?_
      refine y_st rfl rfl rfl rfl rfl (fun _ _ => rfl) ?_
      show yP (xg xs) (d + 2) 283 19 [(0, .int c)] [.int (1 : Int32)] m _
      exact y_zret rfl rfl rfl (by decide) (by refine ⟨congrArg (fun z => some (Value.int z)) ?_, rfl⟩; grind)
set_option maxRecDepth 20000 in
/-- reference: digitOf -/
theorem c282 (xs : List Int32) (d : Nat) (m : yM) (c : Int32) : yC (xg xs) (d + 1) 282 [.int c] m (fun r m' => r = some (.int (do_ c)) ∧ m' = m) := by
  refine y_st rfl rfl rfl rfl rfl (fun _ _ => rfl) ?_
  show yP (xg xs) (d + 1) 282 1 [(0, .int c)] [.int c] m _
  refine y_call rfl rfl rfl rfl rfl (Nat.le_of_ble_eq_true rfl) (Nat.le_of_ble_eq_true rfl) rfl (by decide) (yC.mono (Nat.zero_le _) (fun _ _ z => z) (c278 xs 0 m c)) (fun v1 m1 q1 => ?_)
  obtain ⟨rfl, e1⟩ := q1; rw [e1]; clear e1
  show yP (xg xs) (d + 1) 282 4 [(0, .int c)] [.int (if isD c then 1 else 0)] m _
  refine y_zeq (t := 14) rfl rfl rfl (fun h4 => ?_) (fun h4 => ?_)
  · refine y_st rfl rfl rfl rfl rfl (fun _ _ => rfl) ?_
    show yP (xg xs) (d + 1) 282 15 [(0, .int c)] [.int c] m _
    refine y_call rfl rfl rfl rfl rfl (Nat.le_of_ble_eq_true rfl) (Nat.le_of_ble_eq_true rfl) rfl (by decide) (c279 xs d m c) (fun v2 m2 q2 => ?_)
    obtain ⟨rfl, e2⟩ := q2; rw [e2]; clear e2
    refine y_st rfl rfl rfl rfl rfl (fun _ _ => rfl) ?_
    show yP (xg xs) (d + 1) 282 20 [(0, .int c)] [.int (65 : Int32), .int (gr_ c)] m _
    refine y_ilt (t := 45) rfl rfl rfl (fun h20 => ?_) (fun h20 => ?_)
    · refine y_st rfl rfl rfl rfl rfl (fun _ _ => rfl) ?_
      show yP (xg xs) (d + 1) 282 47 [(0, .int c)] [.int (99 : Int32)] m _
      exact y_iret rfl rfl rfl (by refine ⟨congrArg (fun z => some (Value.int z)) ?_, rfl⟩; unfold do_; grind)
    · refine y_st rfl rfl rfl rfl rfl (fun _ _ => rfl) ?_
      show yP (xg xs) (d + 1) 282 24 [(0, .int c)] [.int c] m _
      refine y_call rfl rfl rfl rfl rfl (Nat.le_of_ble_eq_true rfl) (Nat.le_of_ble_eq_true rfl) rfl (by decide) (c279 xs d m c) (fun v3 m3 q3 => ?_)
      obtain ⟨rfl, e3⟩ := q3; rw [e3]; clear e3
      refine y_st rfl rfl rfl rfl rfl (fun _ _ => rfl) ?_
      show yP (xg xs) (d + 1) 282 29 [(0, .int c)] [.int (70 : Int32), .int (gr_ c)] m _
      refine y_igt (t := 45) rfl rfl rfl (fun h29 => ?_) (fun h29 => ?_)
      · refine y_st rfl rfl rfl rfl rfl (fun _ _ => rfl) ?_
        show yP (xg xs) (d + 1) 282 47 [(0, .int c)] [.int (99 : Int32)] m _
        exact y_iret rfl rfl rfl (by refine ⟨congrArg (fun z => some (Value.int z)) ?_, rfl⟩; unfold do_; grind)
      · refine y_st rfl rfl rfl rfl rfl (fun _ _ => rfl) ?_
        show yP (xg xs) (d + 1) 282 33 [(0, .int c)] [.int c] m _
        refine y_call rfl rfl rfl rfl rfl (Nat.le_of_ble_eq_true rfl) (Nat.le_of_ble_eq_true rfl) rfl (by decide) (c279 xs d m c) (fun v4 m4 q4 => ?_)
        obtain ⟨rfl, e4⟩ := q4; rw [e4]; clear e4
        refine y_st rfl rfl rfl rfl rfl (fun _ _ => rfl) ?_
        refine y_st rfl rfl rfl rfl rfl (fun _ _ => rfl) ?_
        refine y_st rfl rfl rfl rfl rfl (fun _ _ => rfl) ?_
        refine y_st rfl rfl rfl rfl rfl (fun _ _ => rfl) ?_
        refine y_st rfl rfl rfl rfl rfl (fun _ _ => rfl) ?_
        show yP (xg xs) (d + 1) 282 47 [(0, .int c)] [.int (((gr_ c) - (65 : Int32)) + (10 : Int32))] m _
        exact y_iret rfl rfl rfl (by refine ⟨congrArg (fun z => some (Value.int z)) ?_, rfl⟩; unfold do_; grind)
  · refine y_st rfl rfl rfl rfl rfl (fun _ _ => rfl) ?_
    refine y_st rfl rfl rfl rfl rfl (fun _ _ => rfl) ?_
    refine y_st rfl rfl rfl rfl rfl (fun _ _ => rfl) ?_
    refine y_st rfl rfl rfl rfl rfl (fun _ _ => rfl) ?_
    show yP (xg xs) (d + 1) 282 47 [(0, .int c)] [.int (c - (48 : Int32))] m _
    exact y_iret rfl rfl rfl (by refine ⟨congrArg (fun z => some (Value.int z)) ?_, rfl⟩; unfold do_; grind)
set_option maxRecDepth 20000 in
/-- reference: more -/
theorem c281 (xs : List Int32) (d : Nat) (m : yM) (v : Int64) (b g : Int32) : yC (xg xs) d 281 [.long v, .int b, .int g] m (fun r m' => r = some (.long (mo_ v b g)) ∧ m' = m) := by
  refine y_st rfl rfl rfl rfl rfl (fun _ _ => rfl) ?_
  refine y_st rfl rfl rfl rfl rfl (fun _ _ => rfl) ?_
  refine y_st rfl rfl rfl rfl rfl (fun _ _ => rfl) ?_
  show yP (xg xs) d 281 5 [(0, .long v), (2, .int b), (3, .int g)] [.int (lg_cmp v (8589934592 : Int64))] m _
  refine y_zle (t := 12) rfl rfl rfl (fun h5 => ?_) (fun h5 => ?_)
  · refine y_st rfl rfl rfl rfl rfl (fun _ _ => rfl) ?_
    refine y_st rfl rfl rfl rfl rfl (fun _ _ => rfl) ?_
    refine y_st rfl rfl rfl rfl rfl (fun _ _ => rfl) ?_
    refine y_st rfl rfl rfl rfl rfl (fun _ _ => rfl) ?_
    refine y_st rfl rfl rfl rfl rfl (fun _ _ => rfl) ?_
    refine y_st rfl rfl rfl rfl rfl (fun _ _ => rfl) ?_
    refine y_st rfl rfl rfl rfl rfl (fun _ _ => rfl) ?_
    show yP (xg xs) d 281 19 [(0, .long v), (2, .int b), (3, .int g)] [.long ((v * b.toInt64) + g.toInt64)] m _
    exact y_ret rfl rfl rfl rfl (by refine ⟨congrArg (fun z => some (Value.long z)) ?_, rfl⟩; unfold mo_; first | (rw [if_neg (lg_le_not_lt ((lg_cmp_le _ _).mp h5))]) | (rw [if_pos (Int64.not_le.mp (fun z => h5 ((lg_cmp_le _ _).mpr z)))]))
  · refine y_st rfl rfl rfl rfl rfl (fun _ _ => rfl) ?_
    refine y_st rfl rfl rfl rfl rfl (fun _ _ => rfl) ?_
    show yP (xg xs) d 281 19 [(0, .long v), (2, .int b), (3, .int g)] [.long v] m _
    exact y_ret rfl rfl rfl rfl (by refine ⟨congrArg (fun z => some (Value.long z)) ?_, rfl⟩; unfold mo_; first | (rw [if_neg (lg_le_not_lt ((lg_cmp_le _ _).mp h5))]) | (rw [if_pos (Int64.not_le.mp (fun z => h5 ((lg_cmp_le _ _).mpr z)))]))
