/-! THE MACHINE: small methods, laid by wip/gen/small9.py -/
theorem x_in_01 {c : Int32} {n : Nat} (h0 : ¬ c < 0) (h1 : c < nI n) (hn : n < 2 ^ 31) : x_in c n = true := x_in_lt (Int32.not_lt.mp h0) h1 (by rw [nI_toInt hn]; exact Int.le_refl _)
set_option maxRecDepth 20000 in
/-- Machine.load -/
theorem c247 (xs : List Int32) (d : Nat) (m : yM) (c : Int32) : yC (xg xs) d 247 [.ref 52, .int c] m (fun r m' => r = some (.int (if 0 ≤ c ∧ c < 8192 then m.1 53 c.toNatClampNeg else 0)) ∧ m' = m) := by
  refine y_st rfl rfl rfl rfl rfl (fun _ _ => rfl) ?_
  show yP (xg xs) d 247 1 [(0, .ref 52), (1, .int c)] [.int c] m _
  refine y_zlt (t := 20) rfl rfl rfl (fun h1 => ?_) (fun h1 => ?_)
  · refine y_st rfl rfl rfl rfl rfl (fun _ _ => rfl) ?_
    show yP (xg xs) d 247 21 [(0, .ref 52), (1, .int c)] [.int (0 : Int32)] m _
    exact y_iret rfl rfl rfl (by refine ⟨congrArg (fun z => some (Value.int z)) ?_, rfl⟩; grind)
  · refine y_st rfl rfl rfl rfl rfl (fun _ _ => rfl) ?_
    refine y_st rfl rfl rfl rfl rfl (fun _ _ => rfl) ?_
    show yP (xg xs) d 247 8 [(0, .ref 52), (1, .int c)] [.int (8192 : Int32), .int c] m _
    refine y_ige (t := 20) rfl rfl rfl (fun h8 => ?_) (fun h8 => ?_)
    · refine y_st rfl rfl rfl rfl rfl (fun _ _ => rfl) ?_
      show yP (xg xs) d 247 21 [(0, .ref 52), (1, .int c)] [.int (0 : Int32)] m _
      exact y_iret rfl rfl rfl (by refine ⟨congrArg (fun z => some (Value.int z)) ?_, rfl⟩; grind)
    · refine y_st rfl rfl rfl rfl rfl (fun _ _ => rfl) ?_
      refine y_gf rfl rfl rfl rfl rfl ?_
      refine y_st rfl rfl rfl rfl rfl (fun _ _ => rfl) ?_
      show yP (xg xs) d 247 16 [(0, .ref 52), (1, .int c)] [.int c, .ref 53] m _
      refine y_iald rfl rfl rfl (x_in_01 (n := 8192) h1 (Int32.not_le.mp h8) (by decide)) ?_
      refine y_st rfl rfl rfl rfl rfl (fun _ _ => rfl) ?_
      show yP (xg xs) d 247 21 [(0, .ref 52), (1, .int c)] [.int (m.1 53 c.toNatClampNeg)] m _
      exact y_iret rfl rfl rfl (by refine ⟨congrArg (fun z => some (Value.int z)) ?_, rfl⟩; grind)
set_option maxRecDepth 20000 in
/-- Machine.store -/
theorem c234 (xs : List Int32) (d : Nat) (m : yM) (c v : Int32) : yC (xg xs) d 234 [.ref 52, .int c, .int v] m (fun r m' => r = none ∧ m' = (if 0 ≤ c ∧ c < 8192 then y_si m 53 c.toNatClampNeg v else m)) := by
  refine y_st rfl rfl rfl rfl rfl (fun _ _ => rfl) ?_
  show yP (xg xs) d 234 1 [(0, .ref 52), (1, .int c), (2, .int v)] [.int c] m _
  refine y_zlt (t := 18) rfl rfl rfl (fun h1 => ?_) (fun h1 => ?_)
  · show yP (xg xs) d 234 18 [(0, .ref 52), (1, .int c), (2, .int v)] [] m _
    exact y_ret rfl rfl rfl rfl (by refine ⟨rfl, ?_⟩; grind)
  · refine y_st rfl rfl rfl rfl rfl (fun _ _ => rfl) ?_
    refine y_st rfl rfl rfl rfl rfl (fun _ _ => rfl) ?_
    show yP (xg xs) d 234 8 [(0, .ref 52), (1, .int c), (2, .int v)] [.int (8192 : Int32), .int c] m _
    refine y_ige (t := 18) rfl rfl rfl (fun h8 => ?_) (fun h8 => ?_)
    · show yP (xg xs) d 234 18 [(0, .ref 52), (1, .int c), (2, .int v)] [] m _
      exact y_ret rfl rfl rfl rfl (by refine ⟨rfl, ?_⟩; grind)
    · refine y_st rfl rfl rfl rfl rfl (fun _ _ => rfl) ?_
      refine y_gf rfl rfl rfl rfl rfl ?_
      refine y_st rfl rfl rfl rfl rfl (fun _ _ => rfl) ?_
      refine y_st rfl rfl rfl rfl rfl (fun _ _ => rfl) ?_
      show yP (xg xs) d 234 17 [(0, .ref 52), (1, .int c), (2, .int v)] [.int v, .int c, .ref 53] m _
      refine y_iast rfl rfl rfl (x_in_01 (n := 8192) h1 (Int32.not_le.mp h8) (by decide)) ?_
      show yP (xg xs) d 234 18 [(0, .ref 52), (1, .int c), (2, .int v)] [] (y_si m 53 c.toNatClampNeg v) _
      exact y_ret rfl rfl rfl rfl (by refine ⟨rfl, ?_⟩; grind)
