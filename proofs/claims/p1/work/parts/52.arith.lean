/-! ARITHMETIC of the machine on both sides: laid by wip/gen/small6.py -/
def w16 (x : Int32) : Int32 := x.toInt16.toInt32
def one_ (n x : Int32) : Int32 := if n = 0 then w16 (-x) else if n = 1 then -x else if n = 2 then (if x = 0 then 1 else 0) else if n = 3 then x ^^^ (-1) else if n = 4 then w16 (if x < 0 then -x else x) else if n = 5 then (if x < 0 then -x else x) else if n = 6 then w16 x else if x = 0 then 0 else 1
theorem w16_bt (x : Int32) {i : Nat} (hi : i < 32) : bt (w16 x) i = if i < 16 then bt x i else bt x 15 := by
  unfold bt w16
  rw [Int16.toBitVec_toInt32, Int32.toBitVec_toInt16, BitVec.getLsbD_signExtend]
  by_cases h : i < 16
  · rw [if_pos h]
    simp only [hi, h, if_true, decide_true, Bool.true_and]
    rw [BitVec.getLsbD_signExtend]
    simp [h]
    omega
  · rw [if_neg h]
    simp only [hi, h, if_false, decide_true, Bool.true_and]
    rw [BitVec.msb_eq_getLsbD_last, BitVec.getLsbD_signExtend]
    simp
theorem w16_sh (x : Int32) : (x <<< ((16 : Int32) &&& 31)) >>> ((16 : Int32) &&& 31) = w16 x := by
  refine b_ext fun i hi => ?_
  rw [w16_bt x hi, show (16 : Int32) = nI 16 from rfl, b_sshr 16 (by decide) _ hi]
  by_cases h : i < 16
  · rw [if_pos (by omega), if_pos h, b_shl 16 (by decide) x (by omega)]
    simp
  · rw [if_neg (by omega), if_neg h, b_shl 16 (by decide) x (by omega)]
    simp
set_option maxRecDepth 20000 in
/-- Machine.one -/
theorem c178 (xs : List Int32) (d : Nat) (m : yM) (n x : Int32) : yC (xg xs) d 178 [.int n, .int x] m (fun r m' => r = some (.int (one_ n x)) ∧ m' = m) := by
  refine y_st rfl rfl rfl rfl rfl (fun _ _ => rfl) ?_
  show yP (xg xs) d 178 1 [(0, .int n), (1, .int x)] [.int n] m _
  by_cases h1_0 : n = (0 : Int32)
  · refine y_tsw (t := 44) rfl rfl (by rw [h1_0]; rfl) ?_
    refine y_st rfl rfl rfl rfl rfl (fun _ _ => rfl) ?_
    refine y_st rfl rfl rfl rfl rfl (fun _ _ => rfl) ?_
    refine y_st rfl rfl rfl rfl rfl (fun _ _ => rfl) ?_
    show yP (xg xs) d 178 47 [(0, .int n), (1, .int x)] [.int ((-x).toInt16.toInt32)] m _
    exact y_iret rfl rfl rfl (by refine ⟨congrArg (fun z => some (Value.int z)) ?_, rfl⟩; unfold one_ w16; grind)
  by_cases h1_1 : n = (1 : Int32)
  · refine y_tsw (t := 48) rfl rfl (by rw [h1_1]; rfl) ?_
    refine y_st rfl rfl rfl rfl rfl (fun _ _ => rfl) ?_
    refine y_st rfl rfl rfl rfl rfl (fun _ _ => rfl) ?_
    show yP (xg xs) d 178 50 [(0, .int n), (1, .int x)] [.int (-x)] m _
    exact y_iret rfl rfl rfl (by refine ⟨congrArg (fun z => some (Value.int z)) ?_, rfl⟩; unfold one_ w16; grind)
  by_cases h1_2 : n = (2 : Int32)
  · refine y_tsw (t := 51) rfl rfl (by rw [h1_2]; rfl) ?_
    refine y_st rfl rfl rfl rfl rfl (fun _ _ => rfl) ?_
    show yP (xg xs) d 178 52 [(0, .int n), (1, .int x)] [.int x] m _
    refine y_zne (t := 59) rfl rfl rfl (fun h52 => ?_) (fun h52 => ?_)
    · refine y_st rfl rfl rfl rfl rfl (fun _ _ => rfl) ?_
      show yP (xg xs) d 178 60 [(0, .int n), (1, .int x)] [.int (0 : Int32)] m _
      exact y_iret rfl rfl rfl (by refine ⟨congrArg (fun z => some (Value.int z)) ?_, rfl⟩; unfold one_ w16; grind)
    · refine y_st rfl rfl rfl rfl rfl (fun _ _ => rfl) ?_
      refine y_st rfl rfl rfl rfl rfl (fun _ _ => rfl) ?_
      show yP (xg xs) d 178 60 [(0, .int n), (1, .int x)] [.int (1 : Int32)] m _
      exact y_iret rfl rfl rfl (by refine ⟨congrArg (fun z => some (Value.int z)) ?_, rfl⟩; unfold one_ w16; grind)
  by_cases h1_3 : n = (3 : Int32)
  · refine y_tsw (t := 61) rfl rfl (by rw [h1_3]; rfl) ?_
    refine y_st rfl rfl rfl rfl rfl (fun _ _ => rfl) ?_
    refine y_st rfl rfl rfl rfl rfl (fun _ _ => rfl) ?_
    refine y_st rfl rfl rfl rfl rfl (fun _ _ => rfl) ?_
    show yP (xg xs) d 178 64 [(0, .int n), (1, .int x)] [.int (x ^^^ ((-1) : Int32))] m _
    exact y_iret rfl rfl rfl (by refine ⟨congrArg (fun z => some (Value.int z)) ?_, rfl⟩; unfold one_ w16; grind)
  by_cases h1_4 : n = (4 : Int32)
  · refine y_tsw (t := 65) rfl rfl (by rw [h1_4]; rfl) ?_
    refine y_st rfl rfl rfl rfl rfl (fun _ _ => rfl) ?_
    show yP (xg xs) d 178 66 [(0, .int n), (1, .int x)] [.int x] m _
    refine y_zge (t := 74) rfl rfl rfl (fun h66 => ?_) (fun h66 => ?_)
    · refine y_st rfl rfl rfl rfl rfl (fun _ _ => rfl) ?_
      refine y_st rfl rfl rfl rfl rfl (fun _ _ => rfl) ?_
      show yP (xg xs) d 178 76 [(0, .int n), (1, .int x)] [.int x.toInt16.toInt32] m _
      exact y_iret rfl rfl rfl (by refine ⟨congrArg (fun z => some (Value.int z)) ?_, rfl⟩; unfold one_ w16; grind)
    · refine y_st rfl rfl rfl rfl rfl (fun _ _ => rfl) ?_
      refine y_st rfl rfl rfl rfl rfl (fun _ _ => rfl) ?_
      refine y_st rfl rfl rfl rfl rfl (fun _ _ => rfl) ?_
      refine y_st rfl rfl rfl rfl rfl (fun _ _ => rfl) ?_
      show yP (xg xs) d 178 76 [(0, .int n), (1, .int x)] [.int ((-x).toInt16.toInt32)] m _
      exact y_iret rfl rfl rfl (by refine ⟨congrArg (fun z => some (Value.int z)) ?_, rfl⟩; unfold one_ w16; grind)
  by_cases h1_5 : n = (5 : Int32)
  · refine y_tsw (t := 77) rfl rfl (by rw [h1_5]; rfl) ?_
    refine y_st rfl rfl rfl rfl rfl (fun _ _ => rfl) ?_
    show yP (xg xs) d 178 78 [(0, .int n), (1, .int x)] [.int x] m _
    refine y_zge (t := 86) rfl rfl rfl (fun h78 => ?_) (fun h78 => ?_)
    · refine y_st rfl rfl rfl rfl rfl (fun _ _ => rfl) ?_
      show yP (xg xs) d 178 87 [(0, .int n), (1, .int x)] [.int x] m _
      exact y_iret rfl rfl rfl (by refine ⟨congrArg (fun z => some (Value.int z)) ?_, rfl⟩; unfold one_ w16; grind)
    · refine y_st rfl rfl rfl rfl rfl (fun _ _ => rfl) ?_
      refine y_st rfl rfl rfl rfl rfl (fun _ _ => rfl) ?_
      refine y_st rfl rfl rfl rfl rfl (fun _ _ => rfl) ?_
      show yP (xg xs) d 178 87 [(0, .int n), (1, .int x)] [.int (-x)] m _
      exact y_iret rfl rfl rfl (by refine ⟨congrArg (fun z => some (Value.int z)) ?_, rfl⟩; unfold one_ w16; grind)
  by_cases h1_6 : n = (6 : Int32)
  · refine y_tsw (t := 88) rfl rfl (by rw [h1_6]; rfl) ?_
    refine y_st rfl rfl rfl rfl rfl (fun _ _ => rfl) ?_
    refine y_st rfl rfl rfl rfl rfl (fun _ _ => rfl) ?_
    show yP (xg xs) d 178 90 [(0, .int n), (1, .int x)] [.int x.toInt16.toInt32] m _
    exact y_iret rfl rfl rfl (by refine ⟨congrArg (fun z => some (Value.int z)) ?_, rfl⟩; unfold one_ w16; grind)
  refine y_tsw (t := 91) rfl rfl ((if_pos (by have g0 := ne_lit (0 : Int32) 0 rfl h1_0; have g1 := ne_lit (1 : Int32) 1 rfl h1_1; have g2 := ne_lit (2 : Int32) 2 rfl h1_2; have g3 := ne_lit (3 : Int32) 3 rfl h1_3; have g4 := ne_lit (4 : Int32) 4 rfl h1_4; have g5 := ne_lit (5 : Int32) 5 rfl h1_5; have g6 := ne_lit (6 : Int32) 6 rfl h1_6; omega)).trans rfl) ?_
  refine y_st rfl rfl rfl rfl rfl (fun _ _ => rfl) ?_
  show yP (xg xs) d 178 92 [(0, .int n), (1, .int x)] [.int x] m _
  refine y_zne (t := 99) rfl rfl rfl (fun h92 => ?_) (fun h92 => ?_)
  · refine y_st rfl rfl rfl rfl rfl (fun _ _ => rfl) ?_
    show yP (xg xs) d 178 100 [(0, .int n), (1, .int x)] [.int (1 : Int32)] m _
    exact y_iret rfl rfl rfl (by refine ⟨congrArg (fun z => some (Value.int z)) ?_, rfl⟩; unfold one_ w16; grind)
  · refine y_st rfl rfl rfl rfl rfl (fun _ _ => rfl) ?_
    refine y_st rfl rfl rfl rfl rfl (fun _ _ => rfl) ?_
    show yP (xg xs) d 178 100 [(0, .int n), (1, .int x)] [.int (0 : Int32)] m _
    exact y_iret rfl rfl rfl (by refine ⟨congrArg (fun z => some (Value.int z)) ?_, rfl⟩; unfold one_ w16; grind)
set_option maxRecDepth 20000 in
/-- reference: low16 -/
theorem c362 (xs : List Int32) (d : Nat) (m : yM) (x : Int32) : yC (xg xs) d 362 [.int x] m (fun r m' => r = some (.int (w16 x)) ∧ m' = m) := by
  refine y_st rfl rfl rfl rfl rfl (fun _ _ => rfl) ?_
  refine y_st rfl rfl rfl rfl rfl (fun _ _ => rfl) ?_
  refine y_st rfl rfl rfl rfl rfl (fun _ _ => rfl) ?_
  refine y_st rfl rfl rfl rfl rfl (fun _ _ => rfl) ?_
  refine y_st rfl rfl rfl rfl rfl (fun _ _ => rfl) ?_
  show yP (xg xs) d 362 7 [(0, .int x)] [.int ((x <<< ((16 : Int32) &&& 31)) >>> ((16 : Int32) &&& 31))] m _
  exact y_iret rfl rfl rfl (by refine ⟨?_, rfl⟩; rw [w16_sh])
set_option maxRecDepth 20000 in
/-- reference: one -/
theorem c361 (xs : List Int32) (d : Nat) (m : yM) (n x : Int32) : yC (xg xs) (d + 1) 361 [.int n, .int x] m (fun r m' => r = some (.int (one_ n x)) ∧ m' = m) := by
  refine y_st rfl rfl rfl rfl rfl (fun _ _ => rfl) ?_
  show yP (xg xs) (d + 1) 361 1 [(0, .int n), (1, .int x)] [.int n] m _
  by_cases h1_0 : n = (0 : Int32)
  · refine y_tsw (t := 44) rfl rfl (by rw [h1_0]; rfl) ?_
    refine y_st rfl rfl rfl rfl rfl (fun _ _ => rfl) ?_
    refine y_st rfl rfl rfl rfl rfl (fun _ _ => rfl) ?_
    show yP (xg xs) (d + 1) 361 46 [(0, .int n), (1, .int x)] [.int (-x)] m _
    refine y_call rfl rfl rfl rfl rfl (Nat.le_of_ble_eq_true rfl) (Nat.le_of_ble_eq_true rfl) rfl (by decide) (c362 xs d m (-x)) (fun v1 m1 q1 => ?_)
    obtain ⟨rfl, e1⟩ := q1; rw [e1]; clear e1
    show yP (xg xs) (d + 1) 361 49 [(0, .int n), (1, .int x)] [.int (w16 (-x))] m _
    exact y_iret rfl rfl rfl (by refine ⟨congrArg (fun z => some (Value.int z)) ?_, rfl⟩; unfold one_; grind)
  by_cases h1_1 : n = (1 : Int32)
  · refine y_tsw (t := 50) rfl rfl (by rw [h1_1]; rfl) ?_
    refine y_st rfl rfl rfl rfl rfl (fun _ _ => rfl) ?_
    refine y_st rfl rfl rfl rfl rfl (fun _ _ => rfl) ?_
    show yP (xg xs) (d + 1) 361 52 [(0, .int n), (1, .int x)] [.int (-x)] m _
    exact y_iret rfl rfl rfl (by refine ⟨congrArg (fun z => some (Value.int z)) ?_, rfl⟩; unfold one_; grind)
  by_cases h1_2 : n = (2 : Int32)
  · refine y_tsw (t := 53) rfl rfl (by rw [h1_2]; rfl) ?_
    refine y_st rfl rfl rfl rfl rfl (fun _ _ => rfl) ?_
    show yP (xg xs) (d + 1) 361 54 [(0, .int n), (1, .int x)] [.int x] m _
    refine y_zne (t := 61) rfl rfl rfl (fun h54 => ?_) (fun h54 => ?_)
    · refine y_st rfl rfl rfl rfl rfl (fun _ _ => rfl) ?_
      show yP (xg xs) (d + 1) 361 62 [(0, .int n), (1, .int x)] [.int (0 : Int32)] m _
      exact y_iret rfl rfl rfl (by refine ⟨congrArg (fun z => some (Value.int z)) ?_, rfl⟩; unfold one_; grind)
    · refine y_st rfl rfl rfl rfl rfl (fun _ _ => rfl) ?_
      refine y_st rfl rfl rfl rfl rfl (fun _ _ => rfl) ?_
      show yP (xg xs) (d + 1) 361 62 [(0, .int n), (1, .int x)] [.int (1 : Int32)] m _
      exact y_iret rfl rfl rfl (by refine ⟨congrArg (fun z => some (Value.int z)) ?_, rfl⟩; unfold one_; grind)
  by_cases h1_3 : n = (3 : Int32)
  · refine y_tsw (t := 63) rfl rfl (by rw [h1_3]; rfl) ?_
    refine y_st rfl rfl rfl rfl rfl (fun _ _ => rfl) ?_
    refine y_st rfl rfl rfl rfl rfl (fun _ _ => rfl) ?_
    refine y_st rfl rfl rfl rfl rfl (fun _ _ => rfl) ?_
    show yP (xg xs) (d + 1) 361 66 [(0, .int n), (1, .int x)] [.int (x ^^^ ((-1) : Int32))] m _
    exact y_iret rfl rfl rfl (by refine ⟨congrArg (fun z => some (Value.int z)) ?_, rfl⟩; unfold one_; grind)
  by_cases h1_4 : n = (4 : Int32)
  · refine y_tsw (t := 67) rfl rfl (by rw [h1_4]; rfl) ?_
    refine y_st rfl rfl rfl rfl rfl (fun _ _ => rfl) ?_
    show yP (xg xs) (d + 1) 361 68 [(0, .int n), (1, .int x)] [.int x] m _
    refine y_zge (t := 76) rfl rfl rfl (fun h68 => ?_) (fun h68 => ?_)
    · refine y_st rfl rfl rfl rfl rfl (fun _ _ => rfl) ?_
      show yP (xg xs) (d + 1) 361 77 [(0, .int n), (1, .int x)] [.int x] m _
      refine y_call rfl rfl rfl rfl rfl (Nat.le_of_ble_eq_true rfl) (Nat.le_of_ble_eq_true rfl) rfl (by decide) (c362 xs d m x) (fun v2 m2 q2 => ?_)
      obtain ⟨rfl, e2⟩ := q2; rw [e2]; clear e2
      show yP (xg xs) (d + 1) 361 80 [(0, .int n), (1, .int x)] [.int (w16 x)] m _
      exact y_iret rfl rfl rfl (by refine ⟨congrArg (fun z => some (Value.int z)) ?_, rfl⟩; unfold one_; grind)
    · refine y_st rfl rfl rfl rfl rfl (fun _ _ => rfl) ?_
      refine y_st rfl rfl rfl rfl rfl (fun _ _ => rfl) ?_
      refine y_st rfl rfl rfl rfl rfl (fun _ _ => rfl) ?_
      show yP (xg xs) (d + 1) 361 77 [(0, .int n), (1, .int x)] [.int (-x)] m _
      refine y_call rfl rfl rfl rfl rfl (Nat.le_of_ble_eq_true rfl) (Nat.le_of_ble_eq_true rfl) rfl (by decide) (c362 xs d m (-x)) (fun v3 m3 q3 => ?_)
      obtain ⟨rfl, e3⟩ := q3; rw [e3]; clear e3
      show yP (xg xs) (d + 1) 361 80 [(0, .int n), (1, .int x)] [.int (w16 (-x))] m _
      exact y_iret rfl rfl rfl (by refine ⟨congrArg (fun z => some (Value.int z)) ?_, rfl⟩; unfold one_; grind)
  by_cases h1_5 : n = (5 : Int32)
  · refine y_tsw (t := 81) rfl rfl (by rw [h1_5]; rfl) ?_
    refine y_st rfl rfl rfl rfl rfl (fun _ _ => rfl) ?_
    show yP (xg xs) (d + 1) 361 82 [(0, .int n), (1, .int x)] [.int x] m _
    refine y_zge (t := 90) rfl rfl rfl (fun h82 => ?_) (fun h82 => ?_)
    · refine y_st rfl rfl rfl rfl rfl (fun _ _ => rfl) ?_
      show yP (xg xs) (d + 1) 361 91 [(0, .int n), (1, .int x)] [.int x] m _
      exact y_iret rfl rfl rfl (by refine ⟨congrArg (fun z => some (Value.int z)) ?_, rfl⟩; unfold one_; grind)
    · refine y_st rfl rfl rfl rfl rfl (fun _ _ => rfl) ?_
      refine y_st rfl rfl rfl rfl rfl (fun _ _ => rfl) ?_
      refine y_st rfl rfl rfl rfl rfl (fun _ _ => rfl) ?_
      show yP (xg xs) (d + 1) 361 91 [(0, .int n), (1, .int x)] [.int (-x)] m _
      exact y_iret rfl rfl rfl (by refine ⟨congrArg (fun z => some (Value.int z)) ?_, rfl⟩; unfold one_; grind)
  by_cases h1_6 : n = (6 : Int32)
  · refine y_tsw (t := 92) rfl rfl (by rw [h1_6]; rfl) ?_
    refine y_st rfl rfl rfl rfl rfl (fun _ _ => rfl) ?_
    show yP (xg xs) (d + 1) 361 93 [(0, .int n), (1, .int x)] [.int x] m _
    refine y_call rfl rfl rfl rfl rfl (Nat.le_of_ble_eq_true rfl) (Nat.le_of_ble_eq_true rfl) rfl (by decide) (c362 xs d m x) (fun v4 m4 q4 => ?_)
    obtain ⟨rfl, e4⟩ := q4; rw [e4]; clear e4
    show yP (xg xs) (d + 1) 361 96 [(0, .int n), (1, .int x)] [.int (w16 x)] m _
    exact y_iret rfl rfl rfl (by refine ⟨congrArg (fun z => some (Value.int z)) ?_, rfl⟩; unfold one_; grind)
  refine y_tsw (t := 97) rfl rfl ((if_pos (by have g0 := ne_lit (0 : Int32) 0 rfl h1_0; have g1 := ne_lit (1 : Int32) 1 rfl h1_1; have g2 := ne_lit (2 : Int32) 2 rfl h1_2; have g3 := ne_lit (3 : Int32) 3 rfl h1_3; have g4 := ne_lit (4 : Int32) 4 rfl h1_4; have g5 := ne_lit (5 : Int32) 5 rfl h1_5; have g6 := ne_lit (6 : Int32) 6 rfl h1_6; omega)).trans rfl) ?_
  refine y_st rfl rfl rfl rfl rfl (fun _ _ => rfl) ?_
  show yP (xg xs) (d + 1) 361 98 [(0, .int n), (1, .int x)] [.int x] m _
  refine y_zne (t := 105) rfl rfl rfl (fun h98 => ?_) (fun h98 => ?_)
  · refine y_st rfl rfl rfl rfl rfl (fun _ _ => rfl) ?_
    show yP (xg xs) (d + 1) 361 106 [(0, .int n), (1, .int x)] [.int (1 : Int32)] m _
    exact y_iret rfl rfl rfl (by refine ⟨congrArg (fun z => some (Value.int z)) ?_, rfl⟩; unfold one_; grind)
  · refine y_st rfl rfl rfl rfl rfl (fun _ _ => rfl) ?_
    refine y_st rfl rfl rfl rfl rfl (fun _ _ => rfl) ?_
    show yP (xg xs) (d + 1) 361 106 [(0, .int n), (1, .int x)] [.int (0 : Int32)] m _
    exact y_iret rfl rfl rfl (by refine ⟨congrArg (fun z => some (Value.int z)) ?_, rfl⟩; unfold one_; grind)
