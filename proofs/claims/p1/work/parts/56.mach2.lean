/-! THE MACHINE: small methods, second part, laid by wip/gen/small10.py -/
def ld_ (m : yM) (c : Int32) : Int32 := if 0 ≤ c ∧ c < 8192 then m.1 53 c.toNatClampNeg else 0
def sto_ (m : yM) (c v : Int32) : yM := if 0 ≤ c ∧ c < 8192 then y_si m 53 c.toNatClampNeg v else m
set_option maxRecDepth 20000 in
/-- Machine.isOn -/
theorem c256 (xs : List Int32) (d : Nat) (m : yM) (c : Int32) : yC (xg xs) (d + 1) 256 [.ref 52, .int c] m (fun r m' => r = some (.int (if ld_ m c = 0 then 0 else 1)) ∧ m' = m) := by
  refine y_st rfl rfl rfl rfl rfl (fun _ _ => rfl) ?_
  refine y_st rfl rfl rfl rfl rfl (fun _ _ => rfl) ?_
  show yP (xg xs) (d + 1) 256 2 [(0, .ref 52), (1, .int c)] [.int c, .ref 52] m _
  refine y_call rfl rfl rfl rfl rfl (Nat.le_of_ble_eq_true rfl) (Nat.le_of_ble_eq_true rfl) rfl (by decide) (c247 xs d m c) (fun v1 m1 q1 => ?_)
  obtain ⟨rfl, e1⟩ := q1; rw [e1]; clear e1
  show yP (xg xs) (d + 1) 256 5 [(0, .ref 52), (1, .int c)] [.int (ld_ m c)] m _
  refine y_zeq (t := 12) rfl rfl rfl (fun h5 => ?_) (fun h5 => ?_)
  · refine y_st rfl rfl rfl rfl rfl (fun _ _ => rfl) ?_
    show yP (xg xs) (d + 1) 256 13 [(0, .ref 52), (1, .int c)] [.int (0 : Int32)] m _
    exact y_zret rfl rfl rfl (by decide) (by refine ⟨congrArg (fun z => some (Value.int z)) ?_, rfl⟩; grind)
  · refine y_st rfl rfl rfl rfl rfl (fun _ _ => rfl) ?_
    refine y_st rfl rfl rfl rfl rfl (fun _ _ => rfl) ?_
    show yP (xg xs) (d + 1) 256 13 [(0, .ref 52), (1, .int c)] [.int (1 : Int32)] m _
    exact y_zret rfl rfl rfl (by decide) (by refine ⟨congrArg (fun z => some (Value.int z)) ?_, rfl⟩; grind)
set_option maxRecDepth 20000 in
/-- Machine.put -/
theorem c258 (xs : List Int32) (d : Nat) (m : yM) (c b : Int32) : yC (xg xs) (d + 1) 258 [.ref 52, .int c, .int b] m (fun r m' => r = none ∧ m' = sto_ m c (if b = 0 then 0 else 1)) := by
  refine y_st rfl rfl rfl rfl rfl (fun _ _ => rfl) ?_
  refine y_st rfl rfl rfl rfl rfl (fun _ _ => rfl) ?_
  refine y_st rfl rfl rfl rfl rfl (fun _ _ => rfl) ?_
  show yP (xg xs) (d + 1) 258 3 [(0, .ref 52), (1, .int c), (2, .int b)] [.int b, .int c, .ref 52] m _
  refine y_zeq (t := 10) rfl rfl rfl (fun h3 => ?_) (fun h3 => ?_)
  · refine y_st rfl rfl rfl rfl rfl (fun _ _ => rfl) ?_
    show yP (xg xs) (d + 1) 258 11 [(0, .ref 52), (1, .int c), (2, .int b)] [.int (0 : Int32), .int c, .ref 52] m _
    refine y_call rfl rfl rfl rfl rfl (Nat.le_of_ble_eq_true rfl) (Nat.le_of_ble_eq_true rfl) rfl (by decide) (c234 xs d m c (0 : Int32)) (fun v1 m1 q1 => ?_)
    obtain ⟨rfl, e1⟩ := q1; rw [e1]; clear e1
    show yP (xg xs) (d + 1) 258 14 [(0, .ref 52), (1, .int c), (2, .int b)] [] (sto_ m c (0 : Int32)) _
    exact y_ret rfl rfl rfl rfl (by refine ⟨rfl, ?_⟩; grind)
  · refine y_st rfl rfl rfl rfl rfl (fun _ _ => rfl) ?_
    refine y_st rfl rfl rfl rfl rfl (fun _ _ => rfl) ?_
    show yP (xg xs) (d + 1) 258 11 [(0, .ref 52), (1, .int c), (2, .int b)] [.int (1 : Int32), .int c, .ref 52] m _
    refine y_call rfl rfl rfl rfl rfl (Nat.le_of_ble_eq_true rfl) (Nat.le_of_ble_eq_true rfl) rfl (by decide) (c234 xs d m c (1 : Int32)) (fun v2 m2 q2 => ?_)
    obtain ⟨rfl, e2⟩ := q2; rw [e2]; clear e2
    show yP (xg xs) (d + 1) 258 14 [(0, .ref 52), (1, .int c), (2, .int b)] [] (sto_ m c (1 : Int32)) _
    exact y_ret rfl rfl rfl rfl (by refine ⟨rfl, ?_⟩; grind)
set_option maxRecDepth 20000 in
/-- reference: truth -/
theorem c401 (xs : List Int32) (d : Nat) (m : yM) (b : Int32) : yC (xg xs) d 401 [.int b] m (fun r m' => r = some (.int (if b = 0 then 0 else 1)) ∧ m' = m) := by
  refine y_st rfl rfl rfl rfl rfl (fun _ _ => rfl) ?_
  show yP (xg xs) d 401 1 [(0, .int b)] [.int b] m _
  refine y_zeq (t := 8) rfl rfl rfl (fun h1 => ?_) (fun h1 => ?_)
  · refine y_st rfl rfl rfl rfl rfl (fun _ _ => rfl) ?_
    show yP (xg xs) d 401 9 [(0, .int b)] [.int (0 : Int32)] m _
    exact y_iret rfl rfl rfl (by refine ⟨congrArg (fun z => some (Value.int z)) ?_, rfl⟩; grind)
  · refine y_st rfl rfl rfl rfl rfl (fun _ _ => rfl) ?_
    refine y_st rfl rfl rfl rfl rfl (fun _ _ => rfl) ?_
    show yP (xg xs) d 401 9 [(0, .int b)] [.int (1 : Int32)] m _
    exact y_iret rfl rfl rfl (by refine ⟨congrArg (fun z => some (Value.int z)) ?_, rfl⟩; grind)
