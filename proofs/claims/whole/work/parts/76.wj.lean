/-! WHAT EACH METHOD COMES TO, group j: laid by wip/gen/wpall.py -/
set_option maxRecDepth 20000 in
/-- CodeMakerModel.judgeSize from 0 on -/
theorem w367_0 (xs : List Int32) (d : Nat) (l1 : Int32) (m : yM) (Q : Option Value → yM → Prop) (H : (((m.1 58 23) ≤ (16 : Int32) → yP (xg xs) (d + 1) 367 17 [(0, .ref 58), (1, .int l1)] [.int (0 : Int32), .int (50 : Int32), .ref 58] m Q) ∧ (¬ (m.1 58 23) ≤ (16 : Int32) → yP (xg xs) (d + 1) 367 17 [(0, .ref 58), (1, .int l1)] [.int (1 : Int32), .int (50 : Int32), .ref 58] m Q))) : yP (xg xs) (d + 1) 367 0 [(0, .ref 58), (1, .int l1)] [] m Q := by
  refine y_st rfl rfl rfl rfl rfl (fun _ _ => rfl) ?_
  refine y_st rfl rfl rfl rfl rfl (fun _ _ => rfl) ?_
  refine y_st rfl rfl rfl rfl rfl (fun _ _ => rfl) ?_
  refine y_gf rfl rfl rfl rfl rfl ?_
  refine y_st rfl rfl rfl rfl rfl (fun _ _ => rfl) ?_
  show yP (xg xs) (d + 1) 367 9 [(0, .ref 58), (1, .int l1)] [.int (16 : Int32), .int (m.1 58 23), .int (50 : Int32), .ref 58] m Q
  refine y_ile (t := 16) rfl rfl rfl (fun h => ?_) (fun h => ?_)
  · replace H := H.1 h; clear h
    refine y_st rfl rfl rfl rfl rfl (fun _ _ => rfl) ?_
    show yP (xg xs) (d + 1) 367 17 [(0, .ref 58), (1, .int l1)] [.int (0 : Int32), .int (50 : Int32), .ref 58] m Q
    exact H
  · replace H := H.2 h; clear h
    refine y_st rfl rfl rfl rfl rfl (fun _ _ => rfl) ?_
    refine y_st rfl rfl rfl rfl rfl (fun _ _ => rfl) ?_
    show yP (xg xs) (d + 1) 367 17 [(0, .ref 58), (1, .int l1)] [.int (1 : Int32), .int (50 : Int32), .ref 58] m Q
    exact H
set_option maxRecDepth 20000 in
/-- CodeMakerModel.judgeSize from 17 on -/
theorem w367_17 (xs : List Int32) (d : Nat) (l1 : Int32) (s1 : Int32) (s2 : Int32) (m : yM) (Q : Option Value → yM → Prop) (H : (yC (xg xs) d 323 [.ref 58, .int s1, .int s2, .int l1] m (fun v1 m1 => v1 = none ∧ yP (xg xs) (d + 1) 367 33 [(0, .ref 58), (1, .int l1), (2, .int (0 : Int32))] [] (y_si (y_si m1 58 45 (0 : Int32)) 58 50 (0 : Int32)) Q))) : yP (xg xs) (d + 1) 367 17 [(0, .ref 58), (1, .int l1)] [.int s2, .int s1, .ref 58] m Q := by
  refine y_st rfl rfl rfl rfl rfl (fun _ _ => rfl) ?_
  show yP (xg xs) (d + 1) 367 18 [(0, .ref 58), (1, .int l1)] [.int l1, .int s2, .int s1, .ref 58] m Q
  refine y_call rfl rfl rfl rfl rfl (Nat.le_of_ble_eq_true rfl) (Nat.le_of_ble_eq_true rfl) rfl (by decide) H (fun v1 m1 H => ?_)
  obtain ⟨rfl, H⟩ := H
  refine y_st rfl rfl rfl rfl rfl (fun _ _ => rfl) ?_
  refine y_st rfl rfl rfl rfl rfl (fun _ _ => rfl) ?_
  refine y_pfi rfl rfl rfl rfl rfl (x_fit_i _) ?_
  show yP (xg xs) (d + 1) 367 26 [(0, .ref 58), (1, .int l1)] [] (y_si m1 58 45 (0 : Int32)) Q
  refine y_st rfl rfl rfl rfl rfl (fun _ _ => rfl) ?_
  refine y_st rfl rfl rfl rfl rfl (fun _ _ => rfl) ?_
  refine y_pfi rfl rfl rfl rfl rfl (x_fit_z (by decide)) ?_
  show yP (xg xs) (d + 1) 367 31 [(0, .ref 58), (1, .int l1)] [] (y_si (y_si m1 58 45 (0 : Int32)) 58 50 (0 : Int32)) Q
  refine y_st rfl rfl rfl rfl rfl (fun _ _ => rfl) ?_
  refine y_st rfl rfl rfl rfl rfl (fun _ _ => rfl) ?_
  show yP (xg xs) (d + 1) 367 33 [(2, .int (0 : Int32)), (0, .ref 58), (1, .int l1)] [] (y_si (y_si m1 58 45 (0 : Int32)) 58 50 (0 : Int32)) Q
  refine y_headS (l2 := [(0, .ref 58), (1, .int l1), (2, .int (0 : Int32))]) [1, 2, 0] [0, 1, 2] [2, 0, 1] rfl rfl (by decide) rfl (by decide) ?_
  exact H
set_option maxRecDepth 20000 in
/-- CodeMakerModel.judgeSize from 33 on -/
theorem w367_33 (xs : List Int32) (d : Nat) (l1 : Int32) (l2 : Int32) (m : yM) (Q : Option Value → yM → Prop) (H : (((m.1 58 23) ≤ l2 → yP (xg xs) (d + 1) 367 66 [(0, .ref 58), (1, .int l1)] [] m Q) ∧ (¬ (m.1 58 23) ≤ l2 → ((¬ (m.1 58 3) = 0 → yP (xg xs) (d + 1) 367 66 [(0, .ref 58), (1, .int l1)] [] m Q) ∧ ((m.1 58 3) = 0 → ((¬ (m.1 58 50) = 0 → yP (xg xs) (d + 1) 367 66 [(0, .ref 58), (1, .int l1)] [] m Q) ∧ ((m.1 58 50) = 0 → (yC (xg xs) d 368 [.ref 58, .int l2] m (fun v1 m1 => v1 = none ∧ yP (xg xs) (d + 1) 367 33 [(0, .ref 58), (1, .int l1), (2, .int (l2 + (1 : Int32)))] [] m1 Q))))))))) : yP (xg xs) (d + 1) 367 33 [(0, .ref 58), (1, .int l1), (2, .int l2)] [] m Q := by
  refine y_st rfl rfl rfl rfl rfl (fun _ _ => rfl) ?_
  refine y_st rfl rfl rfl rfl rfl (fun _ _ => rfl) ?_
  refine y_gf rfl rfl rfl rfl rfl ?_
  show yP (xg xs) (d + 1) 367 38 [(0, .ref 58), (1, .int l1), (2, .int l2)] [.int (m.1 58 23), .int l2] m Q
  refine y_ige (t := 66) rfl rfl rfl (fun h => ?_) (fun h => ?_)
  · replace H := H.1 h; clear h
    show yP (xg xs) (d + 1) 367 66 [(0, .ref 58), (1, .int l1), (2, .int l2)] [] m Q
    refine y_headS (l2 := [(0, .ref 58), (1, .int l1)]) [0, 1] [0, 1] [0, 1, 2] rfl rfl (by decide) rfl (by decide) ?_
    exact H
  · replace H := H.2 h; clear h
    refine y_st rfl rfl rfl rfl rfl (fun _ _ => rfl) ?_
    refine y_gf rfl rfl rfl rfl rfl ?_
    show yP (xg xs) (d + 1) 367 45 [(0, .ref 58), (1, .int l1), (2, .int l2)] [.int (m.1 58 3)] m Q
    refine y_zne (t := 66) rfl rfl rfl (fun h => ?_) (fun h => ?_)
    · replace H := H.1 h; clear h
      show yP (xg xs) (d + 1) 367 66 [(0, .ref 58), (1, .int l1), (2, .int l2)] [] m Q
      refine y_headS (l2 := [(0, .ref 58), (1, .int l1)]) [0, 1] [0, 1] [0, 1, 2] rfl rfl (by decide) rfl (by decide) ?_
      exact H
    · replace H := H.2 h; clear h
      refine y_st rfl rfl rfl rfl rfl (fun _ _ => rfl) ?_
      refine y_gf rfl rfl rfl rfl rfl ?_
      show yP (xg xs) (d + 1) 367 52 [(0, .ref 58), (1, .int l1), (2, .int l2)] [.int (m.1 58 50)] m Q
      refine y_zne (t := 66) rfl rfl rfl (fun h => ?_) (fun h => ?_)
      · replace H := H.1 h; clear h
        show yP (xg xs) (d + 1) 367 66 [(0, .ref 58), (1, .int l1), (2, .int l2)] [] m Q
        refine y_headS (l2 := [(0, .ref 58), (1, .int l1)]) [0, 1] [0, 1] [0, 1, 2] rfl rfl (by decide) rfl (by decide) ?_
        exact H
      · replace H := H.2 h; clear h
        refine y_st rfl rfl rfl rfl rfl (fun _ _ => rfl) ?_
        refine y_st rfl rfl rfl rfl rfl (fun _ _ => rfl) ?_
        show yP (xg xs) (d + 1) 367 57 [(0, .ref 58), (1, .int l1), (2, .int l2)] [.int l2, .ref 58] m Q
        refine y_call rfl rfl rfl rfl rfl (Nat.le_of_ble_eq_true rfl) (Nat.le_of_ble_eq_true rfl) rfl (by decide) H (fun v1 m1 H => ?_)
        obtain ⟨rfl, H⟩ := H
        refine y_st rfl rfl rfl rfl rfl (fun _ _ => rfl) ?_
        refine y_st rfl rfl rfl rfl rfl (fun _ _ => rfl) ?_
        show yP (xg xs) (d + 1) 367 33 [(2, .int (l2 + (1 : Int32))), (0, .ref 58), (1, .int l1)] [] m1 Q
        refine y_headS (l2 := [(0, .ref 58), (1, .int l1), (2, .int (l2 + (1 : Int32)))]) [1, 2, 0] [0, 1, 2] [2, 0, 1] rfl rfl (by decide) rfl (by decide) ?_
        exact H
set_option maxRecDepth 20000 in
/-- CodeMakerModel.judgeSize from 66 on -/
theorem w367_66 (xs : List Int32) (d : Nat) (l1 : Int32) (m : yM) (Q : Option Value → yM → Prop) (H : (yC (xg xs) d 323 [.ref 58, .int (50 : Int32), .int (m.1 58 50), .int l1] m (fun v1 m1 => v1 = none ∧ yP (xg xs) (d + 1) 367 79 [(0, .ref 58), (2, .int (0 : Int32))] [] m1 Q))) : yP (xg xs) (d + 1) 367 66 [(0, .ref 58), (1, .int l1)] [] m Q := by
  refine y_st rfl rfl rfl rfl rfl (fun _ _ => rfl) ?_
  refine y_st rfl rfl rfl rfl rfl (fun _ _ => rfl) ?_
  refine y_st rfl rfl rfl rfl rfl (fun _ _ => rfl) ?_
  refine y_gf rfl rfl rfl rfl rfl ?_
  refine y_st rfl rfl rfl rfl rfl (fun _ _ => rfl) ?_
  show yP (xg xs) (d + 1) 367 74 [(0, .ref 58), (1, .int l1)] [.int l1, .int (m.1 58 50), .int (50 : Int32), .ref 58] m Q
  refine y_call rfl rfl rfl rfl rfl (Nat.le_of_ble_eq_true rfl) (Nat.le_of_ble_eq_true rfl) rfl (by decide) H (fun v1 m1 H => ?_)
  obtain ⟨rfl, H⟩ := H
  refine y_st rfl rfl rfl rfl rfl (fun _ _ => rfl) ?_
  refine y_st rfl rfl rfl rfl rfl (fun _ _ => rfl) ?_
  show yP (xg xs) (d + 1) 367 79 [(2, .int (0 : Int32)), (0, .ref 58), (1, .int l1)] [] m1 Q
  refine y_headS (l2 := [(0, .ref 58), (2, .int (0 : Int32))]) [1, 0] [0, 2] [2, 0, 1] rfl rfl (by decide) rfl (by decide) ?_
  exact H
set_option maxRecDepth 20000 in
/-- CodeMakerModel.judgeSize from 79 on -/
theorem w367_79 (xs : List Int32) (d : Nat) (l2 : Int32) (m : yM) (Q : Option Value → yM → Prop) (H : (((m.1 58 23) ≤ l2 → Q none m) ∧ (¬ (m.1 58 23) ≤ l2 → ((¬ (m.1 58 3) = 0 → Q none m) ∧ ((m.1 58 3) = 0 → (yC (xg xs) d 387 [.ref 58, .int l2] m (fun v1 m1 => v1 = none ∧ yP (xg xs) (d + 1) 367 79 [(0, .ref 58), (2, .int (l2 + (1 : Int32)))] [] m1 Q))))))) : yP (xg xs) (d + 1) 367 79 [(0, .ref 58), (2, .int l2)] [] m Q := by
  refine y_st rfl rfl rfl rfl rfl (fun _ _ => rfl) ?_
  refine y_st rfl rfl rfl rfl rfl (fun _ _ => rfl) ?_
  refine y_gf rfl rfl rfl rfl rfl ?_
  show yP (xg xs) (d + 1) 367 84 [(0, .ref 58), (2, .int l2)] [.int (m.1 58 23), .int l2] m Q
  refine y_ige (t := 105) rfl rfl rfl (fun h => ?_) (fun h => ?_)
  · replace H := H.1 h; clear h
    show yP (xg xs) (d + 1) 367 105 [(0, .ref 58), (2, .int l2)] [] m Q
    exact y_ret rfl rfl rfl rfl H
  · replace H := H.2 h; clear h
    refine y_st rfl rfl rfl rfl rfl (fun _ _ => rfl) ?_
    refine y_gf rfl rfl rfl rfl rfl ?_
    show yP (xg xs) (d + 1) 367 91 [(0, .ref 58), (2, .int l2)] [.int (m.1 58 3)] m Q
    refine y_zne (t := 105) rfl rfl rfl (fun h => ?_) (fun h => ?_)
    · replace H := H.1 h; clear h
      show yP (xg xs) (d + 1) 367 105 [(0, .ref 58), (2, .int l2)] [] m Q
      exact y_ret rfl rfl rfl rfl H
    · replace H := H.2 h; clear h
      refine y_st rfl rfl rfl rfl rfl (fun _ _ => rfl) ?_
      refine y_st rfl rfl rfl rfl rfl (fun _ _ => rfl) ?_
      show yP (xg xs) (d + 1) 367 96 [(0, .ref 58), (2, .int l2)] [.int l2, .ref 58] m Q
      refine y_call rfl rfl rfl rfl rfl (Nat.le_of_ble_eq_true rfl) (Nat.le_of_ble_eq_true rfl) rfl (by decide) H (fun v1 m1 H => ?_)
      obtain ⟨rfl, H⟩ := H
      refine y_st rfl rfl rfl rfl rfl (fun _ _ => rfl) ?_
      refine y_st rfl rfl rfl rfl rfl (fun _ _ => rfl) ?_
      show yP (xg xs) (d + 1) 367 79 [(2, .int (l2 + (1 : Int32))), (0, .ref 58)] [] m1 Q
      refine y_headS (l2 := [(0, .ref 58), (2, .int (l2 + (1 : Int32)))]) [1, 0] [0, 2] [2, 0] rfl rfl (by decide) rfl (by decide) ?_
      exact H
set_option maxRecDepth 20000 in
/-- CodeMakerModel.writeUnit from 0 on -/
theorem w368_0 (xs : List Int32) (d : Nat) (l1 : Int32) (m : yM) (Q : Option Value → yM → Prop) (H : (x_in l1 400 = true ∧ (x_in l1 401 = true ∧ (x_in (m.1 70 l1.toNatClampNeg) 20000 = true ∧ ((¬ (m.1 62 ((m.1 70 l1.toNatClampNeg).toNatClampNeg)) = (1 : Int32) → yP (xg xs) (d + 1) 368 127 [(0, .ref 58), (1, .int l1), (2, .int (m.1 70 l1.toNatClampNeg))] [] (y_si (y_si (y_si m 58 54 l1) 58 53 (m.1 58 45)) 93 l1.toNatClampNeg (m.1 58 45)) Q) ∧ ((m.1 62 ((m.1 70 l1.toNatClampNeg).toNatClampNeg)) = (1 : Int32) → (yC (xg xs) d 369 [.ref 58, .int (0 : Int32), .int (0 : Int32), .int (0 : Int32), .int (0 : Int32)] (y_si (y_si (y_si m 58 54 l1) 58 53 (m.1 58 45)) 93 l1.toNatClampNeg (m.1 58 45)) (fun v1 m1 => ∃ u1, v1 = some (Value.int u1) ∧ (yC (xg xs) d 369 [.ref 58, .int (2 : Int32), .int (0 : Int32), .int (0 : Int32), .int (0 : Int32)] m1 (fun v2 m2 => ∃ u2, v2 = some (Value.int u2) ∧ (x_in l1 401 = true ∧ yP (xg xs) (d + 1) 368 68 [(0, .ref 58), (1, .int l1), (2, .int (m.1 70 l1.toNatClampNeg)), (4, .int (m2.1 73 l1.toNatClampNeg))] [] m2 Q))))))))))) : yP (xg xs) (d + 1) 368 0 [(0, .ref 58), (1, .int l1)] [] m Q := by
  refine y_st rfl rfl rfl rfl rfl (fun _ _ => rfl) ?_
  refine y_gf rfl rfl rfl rfl rfl ?_
  refine y_st rfl rfl rfl rfl rfl (fun _ _ => rfl) ?_
  show yP (xg xs) (d + 1) 368 5 [(0, .ref 58), (1, .int l1)] [.int l1, .ref 70] m Q
  refine y_iald rfl rfl rfl (H.1) ?_
  replace H := H.2
  refine y_st rfl rfl rfl rfl rfl (fun _ _ => rfl) ?_
  refine y_st rfl rfl rfl rfl rfl (fun _ _ => rfl) ?_
  refine y_st rfl rfl rfl rfl rfl (fun _ _ => rfl) ?_
  refine y_pfi rfl rfl rfl rfl rfl (x_fit_i _) ?_
  show yP (xg xs) (d + 1) 368 12 [(2, .int (m.1 70 l1.toNatClampNeg)), (0, .ref 58), (1, .int l1)] [] (y_si m 58 54 l1) Q
  refine y_st rfl rfl rfl rfl rfl (fun _ _ => rfl) ?_
  refine y_st rfl rfl rfl rfl rfl (fun _ _ => rfl) ?_
  refine y_gf rfl rfl rfl rfl rfl ?_
  refine y_pfi rfl rfl rfl rfl rfl (x_fit_i _) ?_
  show yP (xg xs) (d + 1) 368 20 [(2, .int (m.1 70 l1.toNatClampNeg)), (0, .ref 58), (1, .int l1)] [] (y_si (y_si m 58 54 l1) 58 53 (m.1 58 45)) Q
  refine y_st rfl rfl rfl rfl rfl (fun _ _ => rfl) ?_
  refine y_gf rfl rfl rfl rfl rfl ?_
  refine y_st rfl rfl rfl rfl rfl (fun _ _ => rfl) ?_
  refine y_st rfl rfl rfl rfl rfl (fun _ _ => rfl) ?_
  refine y_gf rfl rfl rfl rfl rfl ?_
  show yP (xg xs) (d + 1) 368 29 [(2, .int (m.1 70 l1.toNatClampNeg)), (0, .ref 58), (1, .int l1)] [.int (m.1 58 45), .int l1, .ref 93] (y_si (y_si m 58 54 l1) 58 53 (m.1 58 45)) Q
  refine y_iast rfl rfl rfl (H.1) ?_
  replace H := H.2
  refine y_st rfl rfl rfl rfl rfl (fun _ _ => rfl) ?_
  refine y_st rfl rfl rfl rfl rfl (fun _ _ => rfl) ?_
  refine y_st rfl rfl rfl rfl rfl (fun _ _ => rfl) ?_
  refine y_gf rfl rfl rfl rfl rfl ?_
  refine y_st rfl rfl rfl rfl rfl (fun _ _ => rfl) ?_
  show yP (xg xs) (d + 1) 368 37 [(3, .int (0 : Int32)), (2, .int (m.1 70 l1.toNatClampNeg)), (0, .ref 58), (1, .int l1)] [.int (m.1 70 l1.toNatClampNeg), .ref 62] (y_si (y_si (y_si m 58 54 l1) 58 53 (m.1 58 45)) 93 l1.toNatClampNeg (m.1 58 45)) Q
  refine y_iald rfl rfl rfl (H.1) ?_
  replace H := H.2
  refine y_st rfl rfl rfl rfl rfl (fun _ _ => rfl) ?_
  show yP (xg xs) (d + 1) 368 39 [(3, .int (0 : Int32)), (2, .int (m.1 70 l1.toNatClampNeg)), (0, .ref 58), (1, .int l1)] [.int (1 : Int32), .int (m.1 62 ((m.1 70 l1.toNatClampNeg).toNatClampNeg))] (y_si (y_si (y_si m 58 54 l1) 58 53 (m.1 58 45)) 93 l1.toNatClampNeg (m.1 58 45)) Q
  refine y_ine (t := 127) rfl rfl rfl (fun h => ?_) (fun h => ?_)
  · replace H := H.1 h; clear h
    show yP (xg xs) (d + 1) 368 127 [(3, .int (0 : Int32)), (2, .int (m.1 70 l1.toNatClampNeg)), (0, .ref 58), (1, .int l1)] [] (y_si (y_si (y_si m 58 54 l1) 58 53 (m.1 58 45)) 93 l1.toNatClampNeg (m.1 58 45)) Q
    refine y_headS (l2 := [(0, .ref 58), (1, .int l1), (2, .int (m.1 70 l1.toNatClampNeg))]) [2, 3, 1] [0, 1, 2] [3, 2, 0, 1] rfl rfl (by decide) rfl (by decide) ?_
    exact H
  · replace H := H.2 h; clear h
    refine y_st rfl rfl rfl rfl rfl (fun _ _ => rfl) ?_
    refine y_st rfl rfl rfl rfl rfl (fun _ _ => rfl) ?_
    refine y_st rfl rfl rfl rfl rfl (fun _ _ => rfl) ?_
    refine y_st rfl rfl rfl rfl rfl (fun _ _ => rfl) ?_
    refine y_st rfl rfl rfl rfl rfl (fun _ _ => rfl) ?_
    show yP (xg xs) (d + 1) 368 47 [(3, .int (0 : Int32)), (2, .int (m.1 70 l1.toNatClampNeg)), (0, .ref 58), (1, .int l1)] [.int (0 : Int32), .int (0 : Int32), .int (0 : Int32), .int (0 : Int32), .ref 58] (y_si (y_si (y_si m 58 54 l1) 58 53 (m.1 58 45)) 93 l1.toNatClampNeg (m.1 58 45)) Q
    refine y_call rfl rfl rfl rfl rfl (Nat.le_of_ble_eq_true rfl) (Nat.le_of_ble_eq_true rfl) rfl (by decide) H (fun v1 m1 H => ?_)
    obtain ⟨u1, rfl, H⟩ := H
    refine y_st rfl rfl rfl rfl rfl (fun _ _ => rfl) ?_
    refine y_st rfl rfl rfl rfl rfl (fun _ _ => rfl) ?_
    refine y_st rfl rfl rfl rfl rfl (fun _ _ => rfl) ?_
    refine y_st rfl rfl rfl rfl rfl (fun _ _ => rfl) ?_
    refine y_st rfl rfl rfl rfl rfl (fun _ _ => rfl) ?_
    refine y_st rfl rfl rfl rfl rfl (fun _ _ => rfl) ?_
    show yP (xg xs) (d + 1) 368 56 [(3, .int u1), (2, .int (m.1 70 l1.toNatClampNeg)), (0, .ref 58), (1, .int l1)] [.int (0 : Int32), .int (0 : Int32), .int (0 : Int32), .int (2 : Int32), .ref 58] m1 Q
    refine y_call rfl rfl rfl rfl rfl (Nat.le_of_ble_eq_true rfl) (Nat.le_of_ble_eq_true rfl) rfl (by decide) H (fun v2 m2 H => ?_)
    obtain ⟨u2, rfl, H⟩ := H
    refine y_st rfl rfl rfl rfl rfl (fun _ _ => rfl) ?_
    refine y_st rfl rfl rfl rfl rfl (fun _ _ => rfl) ?_
    refine y_gf rfl rfl rfl rfl rfl ?_
    refine y_st rfl rfl rfl rfl rfl (fun _ _ => rfl) ?_
    show yP (xg xs) (d + 1) 368 65 [(3, .int u2), (2, .int (m.1 70 l1.toNatClampNeg)), (0, .ref 58), (1, .int l1)] [.int l1, .ref 73] m2 Q
    refine y_iald rfl rfl rfl (H.1) ?_
    replace H := H.2
    refine y_st rfl rfl rfl rfl rfl (fun _ _ => rfl) ?_
    show yP (xg xs) (d + 1) 368 68 [(4, .int (m2.1 73 l1.toNatClampNeg)), (3, .int u2), (2, .int (m.1 70 l1.toNatClampNeg)), (0, .ref 58), (1, .int l1)] [] m2 Q
    refine y_headS (l2 := [(0, .ref 58), (1, .int l1), (2, .int (m.1 70 l1.toNatClampNeg)), (4, .int (m2.1 73 l1.toNatClampNeg))]) [3, 4, 2, 0] [0, 1, 2, 4] [4, 3, 2, 0, 1] rfl rfl (by decide) rfl (by decide) ?_
    exact H
set_option maxRecDepth 20000 in
/-- CodeMakerModel.writeUnit from 68 on -/
theorem w368_68 (xs : List Int32) (d : Nat) (l1 : Int32) (l2 : Int32) (l4 : Int32) (m : yM) (Q : Option Value → yM → Prop) (H : (x_in (l1 + (1 : Int32)) 401 = true ∧ (((m.1 73 ((l1 + (1 : Int32)).toNatClampNeg)) ≤ l4 → yP (xg xs) (d + 1) 368 127 [(0, .ref 58), (1, .int l1), (2, .int l2)] [] m Q) ∧ (¬ (m.1 73 ((l1 + (1 : Int32)).toNatClampNeg)) ≤ l4 → (x_in l4 4700 = true ∧ ((¬ (m.1 81 l4.toNatClampNeg) = 0 → yP (xg xs) (d + 1) 368 121 [(0, .ref 58), (1, .int l1), (2, .int l2), (4, .int l4)] [] m Q) ∧ ((m.1 81 l4.toNatClampNeg) = 0 → (x_in l4 4700 = true ∧ (yC (xg xs) d 369 [.ref 58, .int (0 : Int32), .int (m.1 83 l4.toNatClampNeg), .int (0 : Int32), .int (0 : Int32)] m (fun v1 m1 => ∃ u1, v1 = some (Value.int u1) ∧ (x_in l4 4700 = true ∧ (yC (xg xs) d 369 [.ref 58, .int (2 : Int32), .int (m1.1 80 l4.toNatClampNeg), .int (0 : Int32), .int (0 : Int32)] m1 (fun v2 m2 => ∃ u2, v2 = some (Value.int u2) ∧ yP (xg xs) (d + 1) 368 121 [(0, .ref 58), (1, .int l1), (2, .int l2), (4, .int l4)] [] m2 Q))))))))))))) : yP (xg xs) (d + 1) 368 68 [(0, .ref 58), (1, .int l1), (2, .int l2), (4, .int l4)] [] m Q := by
  refine y_st rfl rfl rfl rfl rfl (fun _ _ => rfl) ?_
  refine y_st rfl rfl rfl rfl rfl (fun _ _ => rfl) ?_
  refine y_gf rfl rfl rfl rfl rfl ?_
  refine y_st rfl rfl rfl rfl rfl (fun _ _ => rfl) ?_
  refine y_st rfl rfl rfl rfl rfl (fun _ _ => rfl) ?_
  refine y_st rfl rfl rfl rfl rfl (fun _ _ => rfl) ?_
  show yP (xg xs) (d + 1) 368 77 [(0, .ref 58), (1, .int l1), (2, .int l2), (4, .int l4)] [.int (l1 + (1 : Int32)), .ref 73, .int l4] m Q
  refine y_iald rfl rfl rfl (H.1) ?_
  replace H := H.2
  show yP (xg xs) (d + 1) 368 78 [(0, .ref 58), (1, .int l1), (2, .int l2), (4, .int l4)] [.int (m.1 73 ((l1 + (1 : Int32)).toNatClampNeg)), .int l4] m Q
  refine y_ige (t := 127) rfl rfl rfl (fun h => ?_) (fun h => ?_)
  · replace H := H.1 h; clear h
    show yP (xg xs) (d + 1) 368 127 [(0, .ref 58), (1, .int l1), (2, .int l2), (4, .int l4)] [] m Q
    refine y_headS (l2 := [(0, .ref 58), (1, .int l1), (2, .int l2)]) [0, 1, 2] [0, 1, 2] [0, 1, 2, 4] rfl rfl (by decide) rfl (by decide) ?_
    exact H
  · replace H := H.2 h; clear h
    refine y_st rfl rfl rfl rfl rfl (fun _ _ => rfl) ?_
    refine y_gf rfl rfl rfl rfl rfl ?_
    refine y_st rfl rfl rfl rfl rfl (fun _ _ => rfl) ?_
    show yP (xg xs) (d + 1) 368 87 [(0, .ref 58), (1, .int l1), (2, .int l2), (4, .int l4)] [.int l4, .ref 81] m Q
    refine y_iald rfl rfl rfl (H.1) ?_
    replace H := H.2
    show yP (xg xs) (d + 1) 368 88 [(0, .ref 58), (1, .int l1), (2, .int l2), (4, .int l4)] [.int (m.1 81 l4.toNatClampNeg)] m Q
    refine y_zne (t := 121) rfl rfl rfl (fun h => ?_) (fun h => ?_)
    · replace H := H.1 h; clear h
      show yP (xg xs) (d + 1) 368 121 [(0, .ref 58), (1, .int l1), (2, .int l2), (4, .int l4)] [] m Q
      exact H
    · replace H := H.2 h; clear h
      refine y_st rfl rfl rfl rfl rfl (fun _ _ => rfl) ?_
      refine y_st rfl rfl rfl rfl rfl (fun _ _ => rfl) ?_
      refine y_st rfl rfl rfl rfl rfl (fun _ _ => rfl) ?_
      refine y_gf rfl rfl rfl rfl rfl ?_
      refine y_st rfl rfl rfl rfl rfl (fun _ _ => rfl) ?_
      show yP (xg xs) (d + 1) 368 99 [(0, .ref 58), (1, .int l1), (2, .int l2), (4, .int l4)] [.int l4, .ref 83, .int (0 : Int32), .ref 58] m Q
      refine y_iald rfl rfl rfl (H.1) ?_
      replace H := H.2
      refine y_st rfl rfl rfl rfl rfl (fun _ _ => rfl) ?_
      refine y_st rfl rfl rfl rfl rfl (fun _ _ => rfl) ?_
      show yP (xg xs) (d + 1) 368 102 [(0, .ref 58), (1, .int l1), (2, .int l2), (4, .int l4)] [.int (0 : Int32), .int (0 : Int32), .int (m.1 83 l4.toNatClampNeg), .int (0 : Int32), .ref 58] m Q
      refine y_call rfl rfl rfl rfl rfl (Nat.le_of_ble_eq_true rfl) (Nat.le_of_ble_eq_true rfl) rfl (by decide) H (fun v1 m1 H => ?_)
      obtain ⟨u1, rfl, H⟩ := H
      refine y_st rfl rfl rfl rfl rfl (fun _ _ => rfl) ?_
      refine y_st rfl rfl rfl rfl rfl (fun _ _ => rfl) ?_
      refine y_st rfl rfl rfl rfl rfl (fun _ _ => rfl) ?_
      refine y_st rfl rfl rfl rfl rfl (fun _ _ => rfl) ?_
      refine y_gf rfl rfl rfl rfl rfl ?_
      refine y_st rfl rfl rfl rfl rfl (fun _ _ => rfl) ?_
      show yP (xg xs) (d + 1) 368 114 [(3, .int u1), (0, .ref 58), (1, .int l1), (2, .int l2), (4, .int l4)] [.int l4, .ref 80, .int (2 : Int32), .ref 58] m1 Q
      refine y_iald rfl rfl rfl (H.1) ?_
      replace H := H.2
      refine y_st rfl rfl rfl rfl rfl (fun _ _ => rfl) ?_
      refine y_st rfl rfl rfl rfl rfl (fun _ _ => rfl) ?_
      show yP (xg xs) (d + 1) 368 117 [(3, .int u1), (0, .ref 58), (1, .int l1), (2, .int l2), (4, .int l4)] [.int (0 : Int32), .int (0 : Int32), .int (m1.1 80 l4.toNatClampNeg), .int (2 : Int32), .ref 58] m1 Q
      refine y_call rfl rfl rfl rfl rfl (Nat.le_of_ble_eq_true rfl) (Nat.le_of_ble_eq_true rfl) rfl (by decide) H (fun v2 m2 H => ?_)
      obtain ⟨u2, rfl, H⟩ := H
      refine y_st rfl rfl rfl rfl rfl (fun _ _ => rfl) ?_
      show yP (xg xs) (d + 1) 368 121 [(3, .int u2), (0, .ref 58), (1, .int l1), (2, .int l2), (4, .int l4)] [] m2 Q
      refine y_headS (l2 := [(0, .ref 58), (1, .int l1), (2, .int l2), (4, .int l4)]) [1, 2, 3, 4] [0, 1, 2, 4] [3, 0, 1, 2, 4] rfl rfl (by decide) rfl (by decide) ?_
      exact H
set_option maxRecDepth 20000 in
/-- CodeMakerModel.writeUnit from 121 on -/
theorem w368_121 (xs : List Int32) (d : Nat) (l1 : Int32) (l2 : Int32) (l4 : Int32) (m : yM) (Q : Option Value → yM → Prop) (H : yP (xg xs) (d + 1) 368 68 [(0, .ref 58), (1, .int l1), (2, .int l2), (4, .int (l4 + (1 : Int32)))] [] m Q) : yP (xg xs) (d + 1) 368 121 [(0, .ref 58), (1, .int l1), (2, .int l2), (4, .int l4)] [] m Q := by
  refine y_st rfl rfl rfl rfl rfl (fun _ _ => rfl) ?_
  refine y_st rfl rfl rfl rfl rfl (fun _ _ => rfl) ?_
  show yP (xg xs) (d + 1) 368 68 [(4, .int (l4 + (1 : Int32))), (0, .ref 58), (1, .int l1), (2, .int l2)] [] m Q
  refine y_headS (l2 := [(0, .ref 58), (1, .int l1), (2, .int l2), (4, .int (l4 + (1 : Int32)))]) [1, 2, 3, 0] [0, 1, 2, 4] [4, 0, 1, 2] rfl rfl (by decide) rfl (by decide) ?_
  exact H
set_option maxRecDepth 20000 in
/-- CodeMakerModel.writeUnit from 127 on -/
theorem w368_127 (xs : List Int32) (d : Nat) (l1 : Int32) (l2 : Int32) (m : yM) (Q : Option Value → yM → Prop) (H : (x_in l2 20000 = true ∧ (x_in (m.1 67 l2.toNatClampNeg) 20000 = true ∧ ((¬ (m.1 62 ((m.1 67 l2.toNatClampNeg).toNatClampNeg)) = (11 : Int32) → (x_in (m.1 67 l2.toNatClampNeg) 20000 = true ∧ yP (xg xs) (d + 1) 368 165 [(0, .ref 58), (1, .int l1), (5, .int (m.1 66 ((m.1 67 l2.toNatClampNeg).toNatClampNeg)))] [] m Q)) ∧ ((m.1 62 ((m.1 67 l2.toNatClampNeg).toNatClampNeg)) = (11 : Int32) → (yC (xg xs) d 370 [.ref 58, .int (m.1 67 l2.toNatClampNeg)] m (fun v1 m1 => v1 = none ∧ yP (xg xs) (d + 1) 368 196 [(0, .ref 58), (1, .int l1)] [] m1 Q))))))) : yP (xg xs) (d + 1) 368 127 [(0, .ref 58), (1, .int l1), (2, .int l2)] [] m Q := by
  refine y_st rfl rfl rfl rfl rfl (fun _ _ => rfl) ?_
  refine y_gf rfl rfl rfl rfl rfl ?_
  refine y_st rfl rfl rfl rfl rfl (fun _ _ => rfl) ?_
  show yP (xg xs) (d + 1) 368 132 [(0, .ref 58), (1, .int l1), (2, .int l2)] [.int l2, .ref 67] m Q
  refine y_iald rfl rfl rfl (H.1) ?_
  replace H := H.2
  refine y_st rfl rfl rfl rfl rfl (fun _ _ => rfl) ?_
  refine y_st rfl rfl rfl rfl rfl (fun _ _ => rfl) ?_
  refine y_gf rfl rfl rfl rfl rfl ?_
  refine y_st rfl rfl rfl rfl rfl (fun _ _ => rfl) ?_
  show yP (xg xs) (d + 1) 368 141 [(4, .int (m.1 67 l2.toNatClampNeg)), (0, .ref 58), (1, .int l1), (2, .int l2)] [.int (m.1 67 l2.toNatClampNeg), .ref 62] m Q
  refine y_iald rfl rfl rfl (H.1) ?_
  replace H := H.2
  refine y_st rfl rfl rfl rfl rfl (fun _ _ => rfl) ?_
  show yP (xg xs) (d + 1) 368 144 [(4, .int (m.1 67 l2.toNatClampNeg)), (0, .ref 58), (1, .int l1), (2, .int l2)] [.int (11 : Int32), .int (m.1 62 ((m.1 67 l2.toNatClampNeg).toNatClampNeg))] m Q
  refine y_ine (t := 156) rfl rfl rfl (fun h => ?_) (fun h => ?_)
  · replace H := H.1 h; clear h
    refine y_st rfl rfl rfl rfl rfl (fun _ _ => rfl) ?_
    refine y_gf rfl rfl rfl rfl rfl ?_
    refine y_st rfl rfl rfl rfl rfl (fun _ _ => rfl) ?_
    show yP (xg xs) (d + 1) 368 162 [(4, .int (m.1 67 l2.toNatClampNeg)), (0, .ref 58), (1, .int l1), (2, .int l2)] [.int (m.1 67 l2.toNatClampNeg), .ref 66] m Q
    refine y_iald rfl rfl rfl (H.1) ?_
    replace H := H.2
    refine y_st rfl rfl rfl rfl rfl (fun _ _ => rfl) ?_
    show yP (xg xs) (d + 1) 368 165 [(5, .int (m.1 66 ((m.1 67 l2.toNatClampNeg).toNatClampNeg))), (4, .int (m.1 67 l2.toNatClampNeg)), (0, .ref 58), (1, .int l1), (2, .int l2)] [] m Q
    refine y_headS (l2 := [(0, .ref 58), (1, .int l1), (5, .int (m.1 66 ((m.1 67 l2.toNatClampNeg).toNatClampNeg)))]) [2, 3, 0] [0, 1, 5] [5, 4, 0, 1, 2] rfl rfl (by decide) rfl (by decide) ?_
    exact H
  · replace H := H.2 h; clear h
    refine y_st rfl rfl rfl rfl rfl (fun _ _ => rfl) ?_
    refine y_st rfl rfl rfl rfl rfl (fun _ _ => rfl) ?_
    show yP (xg xs) (d + 1) 368 150 [(4, .int (m.1 67 l2.toNatClampNeg)), (0, .ref 58), (1, .int l1), (2, .int l2)] [.int (m.1 67 l2.toNatClampNeg), .ref 58] m Q
    refine y_call rfl rfl rfl rfl rfl (Nat.le_of_ble_eq_true rfl) (Nat.le_of_ble_eq_true rfl) rfl (by decide) H (fun v1 m1 H => ?_)
    obtain ⟨rfl, H⟩ := H
    refine y_st rfl rfl rfl rfl rfl (fun _ _ => rfl) ?_
    show yP (xg xs) (d + 1) 368 196 [(4, .int (m.1 67 l2.toNatClampNeg)), (0, .ref 58), (1, .int l1), (2, .int l2)] [] m1 Q
    refine y_headS (l2 := [(0, .ref 58), (1, .int l1)]) [1, 2] [0, 1] [4, 0, 1, 2] rfl rfl (by decide) rfl (by decide) ?_
    exact H
set_option maxRecDepth 20000 in
/-- CodeMakerModel.writeUnit from 165 on -/
theorem w368_165 (xs : List Int32) (d : Nat) (l1 : Int32) (l5 : Int32) (m : yM) (Q : Option Value → yM → Prop) (H : ((l5 = ((-1) : Int32) → yP (xg xs) (d + 1) 368 196 [(0, .ref 58), (1, .int l1)] [] m Q) ∧ (¬ l5 = ((-1) : Int32) → ((¬ (m.1 58 50) = 0 → yP (xg xs) (d + 1) 368 196 [(0, .ref 58), (1, .int l1)] [] m Q) ∧ ((m.1 58 50) = 0 → (yC (xg xs) d 378 [.ref 58, .int l5] m (fun v1 m1 => v1 = none ∧ (x_in l5 20000 = true ∧ yP (xg xs) (d + 1) 368 165 [(0, .ref 58), (1, .int l1), (5, .int (m1.1 68 l5.toNatClampNeg))] [] m1 Q)))))))) : yP (xg xs) (d + 1) 368 165 [(0, .ref 58), (1, .int l1), (5, .int l5)] [] m Q := by
  refine y_st rfl rfl rfl rfl rfl (fun _ _ => rfl) ?_
  refine y_st rfl rfl rfl rfl rfl (fun _ _ => rfl) ?_
  show yP (xg xs) (d + 1) 368 168 [(0, .ref 58), (1, .int l1), (5, .int l5)] [.int ((-1) : Int32), .int l5] m Q
  refine y_ieq (t := 196) rfl rfl rfl (fun h => ?_) (fun h => ?_)
  · replace H := H.1 h; clear h
    show yP (xg xs) (d + 1) 368 196 [(0, .ref 58), (1, .int l1), (5, .int l5)] [] m Q
    refine y_headS (l2 := [(0, .ref 58), (1, .int l1)]) [0, 1] [0, 1] [0, 1, 5] rfl rfl (by decide) rfl (by decide) ?_
    exact H
  · replace H := H.2 h; clear h
    refine y_st rfl rfl rfl rfl rfl (fun _ _ => rfl) ?_
    refine y_gf rfl rfl rfl rfl rfl ?_
    show yP (xg xs) (d + 1) 368 175 [(0, .ref 58), (1, .int l1), (5, .int l5)] [.int (m.1 58 50)] m Q
    refine y_zne (t := 196) rfl rfl rfl (fun h => ?_) (fun h => ?_)
    · replace H := H.1 h; clear h
      show yP (xg xs) (d + 1) 368 196 [(0, .ref 58), (1, .int l1), (5, .int l5)] [] m Q
      refine y_headS (l2 := [(0, .ref 58), (1, .int l1)]) [0, 1] [0, 1] [0, 1, 5] rfl rfl (by decide) rfl (by decide) ?_
      exact H
    · replace H := H.2 h; clear h
      refine y_st rfl rfl rfl rfl rfl (fun _ _ => rfl) ?_
      refine y_st rfl rfl rfl rfl rfl (fun _ _ => rfl) ?_
      show yP (xg xs) (d + 1) 368 181 [(0, .ref 58), (1, .int l1), (5, .int l5)] [.int l5, .ref 58] m Q
      refine y_call rfl rfl rfl rfl rfl (Nat.le_of_ble_eq_true rfl) (Nat.le_of_ble_eq_true rfl) rfl (by decide) H (fun v1 m1 H => ?_)
      obtain ⟨rfl, H⟩ := H
      refine y_st rfl rfl rfl rfl rfl (fun _ _ => rfl) ?_
      refine y_gf rfl rfl rfl rfl rfl ?_
      refine y_st rfl rfl rfl rfl rfl (fun _ _ => rfl) ?_
      show yP (xg xs) (d + 1) 368 190 [(0, .ref 58), (1, .int l1), (5, .int l5)] [.int l5, .ref 68] m1 Q
      refine y_iald rfl rfl rfl (H.1) ?_
      replace H := H.2
      refine y_st rfl rfl rfl rfl rfl (fun _ _ => rfl) ?_
      refine y_st rfl rfl rfl rfl rfl (fun _ _ => rfl) ?_
      show yP (xg xs) (d + 1) 368 165 [(5, .int (m1.1 68 l5.toNatClampNeg)), (0, .ref 58), (1, .int l1)] [] m1 Q
      refine y_headS (l2 := [(0, .ref 58), (1, .int l1), (5, .int (m1.1 68 l5.toNatClampNeg))]) [1, 2, 0] [0, 1, 5] [5, 0, 1] rfl rfl (by decide) rfl (by decide) ?_
      exact H
set_option maxRecDepth 20000 in
/-- CodeMakerModel.writeUnit from 196 on -/
theorem w368_196 (xs : List Int32) (d : Nat) (l1 : Int32) (m : yM) (Q : Option Value → yM → Prop) (H : (x_in (l1 + (1 : Int32)) 401 = true ∧ Q none (y_si m 93 ((l1 + (1 : Int32)).toNatClampNeg) (m.1 58 45)))) : yP (xg xs) (d + 1) 368 196 [(0, .ref 58), (1, .int l1)] [] m Q := by
  refine y_st rfl rfl rfl rfl rfl (fun _ _ => rfl) ?_
  refine y_gf rfl rfl rfl rfl rfl ?_
  refine y_st rfl rfl rfl rfl rfl (fun _ _ => rfl) ?_
  refine y_st rfl rfl rfl rfl rfl (fun _ _ => rfl) ?_
  refine y_st rfl rfl rfl rfl rfl (fun _ _ => rfl) ?_
  refine y_st rfl rfl rfl rfl rfl (fun _ _ => rfl) ?_
  refine y_gf rfl rfl rfl rfl rfl ?_
  show yP (xg xs) (d + 1) 368 207 [(0, .ref 58), (1, .int l1)] [.int (m.1 58 45), .int (l1 + (1 : Int32)), .ref 93] m Q
  refine y_iast rfl rfl rfl (H.1) ?_
  replace H := H.2
  show yP (xg xs) (d + 1) 368 208 [(0, .ref 58), (1, .int l1)] [] (y_si m 93 ((l1 + (1 : Int32)).toNatClampNeg) (m.1 58 45)) Q
  exact y_ret rfl rfl rfl rfl H
set_option maxRecDepth 20000 in
/-- CodeMakerModel.put from 0 on -/
theorem w369_0 (xs : List Int32) (d : Nat) (l1 : Int32) (l2 : Int32) (l3 : Int32) (l4 : Int32) (m : yM) (Q : Option Value → yM → Prop) (H : ((¬ (m.1 58 45) = (3000 : Int32) → (x_in (m.1 58 45) 3001 = true ∧ (x_in (m.1 58 45) 3001 = true ∧ (x_in (m.1 58 45) 3001 = true ∧ (x_in (m.1 58 45) 3001 = true ∧ (x_in (m.1 58 45) 3001 = true ∧ Q (some (.int (((m.1 58 45) + (1 : Int32)) - (1 : Int32)))) (y_si (y_si (y_si (y_si (y_si (y_si m 89 ((m.1 58 45).toNatClampNeg) l1) 90 ((m.1 58 45).toNatClampNeg) l2) 91 ((m.1 58 45).toNatClampNeg) l3) 92 ((m.1 58 45).toNatClampNeg) l4) 95 ((m.1 58 45).toNatClampNeg) ((-1) : Int32)) 58 45 ((m.1 58 45) + (1 : Int32))))))))) ∧ ((m.1 58 45) = (3000 : Int32) → Q (some (.int (3000 : Int32))) (y_si m 58 50 (1 : Int32))))) : yP (xg xs) (d + 1) 369 0 [(0, .ref 58), (1, .int l1), (2, .int l2), (3, .int l3), (4, .int l4)] [] m Q := by
  refine y_st rfl rfl rfl rfl rfl (fun _ _ => rfl) ?_
  refine y_gf rfl rfl rfl rfl rfl ?_
  refine y_st rfl rfl rfl rfl rfl (fun _ _ => rfl) ?_
  show yP (xg xs) (d + 1) 369 7 [(0, .ref 58), (1, .int l1), (2, .int l2), (3, .int l3), (4, .int l4)] [.int (3000 : Int32), .int (m.1 58 45)] m Q
  refine y_ine (t := 19) rfl rfl rfl (fun h => ?_) (fun h => ?_)
  · replace H := H.1 h; clear h
    refine y_st rfl rfl rfl rfl rfl (fun _ _ => rfl) ?_
    refine y_gf rfl rfl rfl rfl rfl ?_
    refine y_st rfl rfl rfl rfl rfl (fun _ _ => rfl) ?_
    refine y_gf rfl rfl rfl rfl rfl ?_
    refine y_st rfl rfl rfl rfl rfl (fun _ _ => rfl) ?_
    show yP (xg xs) (d + 1) 369 28 [(0, .ref 58), (1, .int l1), (2, .int l2), (3, .int l3), (4, .int l4)] [.int l1, .int (m.1 58 45), .ref 89] m Q
    refine y_iast rfl rfl rfl (H.1) ?_
    replace H := H.2
    refine y_st rfl rfl rfl rfl rfl (fun _ _ => rfl) ?_
    refine y_gf rfl rfl rfl rfl rfl ?_
    refine y_st rfl rfl rfl rfl rfl (fun _ _ => rfl) ?_
    refine y_gf rfl rfl rfl rfl rfl ?_
    refine y_st rfl rfl rfl rfl rfl (fun _ _ => rfl) ?_
    show yP (xg xs) (d + 1) 369 38 [(0, .ref 58), (1, .int l1), (2, .int l2), (3, .int l3), (4, .int l4)] [.int l2, .int (m.1 58 45), .ref 90] (y_si m 89 ((m.1 58 45).toNatClampNeg) l1) Q
    refine y_iast rfl rfl rfl (H.1) ?_
    replace H := H.2
    refine y_st rfl rfl rfl rfl rfl (fun _ _ => rfl) ?_
    refine y_gf rfl rfl rfl rfl rfl ?_
    refine y_st rfl rfl rfl rfl rfl (fun _ _ => rfl) ?_
    refine y_gf rfl rfl rfl rfl rfl ?_
    refine y_st rfl rfl rfl rfl rfl (fun _ _ => rfl) ?_
    show yP (xg xs) (d + 1) 369 48 [(0, .ref 58), (1, .int l1), (2, .int l2), (3, .int l3), (4, .int l4)] [.int l3, .int (m.1 58 45), .ref 91] (y_si (y_si m 89 ((m.1 58 45).toNatClampNeg) l1) 90 ((m.1 58 45).toNatClampNeg) l2) Q
    refine y_iast rfl rfl rfl (H.1) ?_
    replace H := H.2
    refine y_st rfl rfl rfl rfl rfl (fun _ _ => rfl) ?_
    refine y_gf rfl rfl rfl rfl rfl ?_
    refine y_st rfl rfl rfl rfl rfl (fun _ _ => rfl) ?_
    refine y_gf rfl rfl rfl rfl rfl ?_
    refine y_st rfl rfl rfl rfl rfl (fun _ _ => rfl) ?_
    show yP (xg xs) (d + 1) 369 59 [(0, .ref 58), (1, .int l1), (2, .int l2), (3, .int l3), (4, .int l4)] [.int l4, .int (m.1 58 45), .ref 92] (y_si (y_si (y_si m 89 ((m.1 58 45).toNatClampNeg) l1) 90 ((m.1 58 45).toNatClampNeg) l2) 91 ((m.1 58 45).toNatClampNeg) l3) Q
    refine y_iast rfl rfl rfl (H.1) ?_
    replace H := H.2
    refine y_st rfl rfl rfl rfl rfl (fun _ _ => rfl) ?_
    refine y_gf rfl rfl rfl rfl rfl ?_
    refine y_st rfl rfl rfl rfl rfl (fun _ _ => rfl) ?_
    refine y_gf rfl rfl rfl rfl rfl ?_
    refine y_st rfl rfl rfl rfl rfl (fun _ _ => rfl) ?_
    show yP (xg xs) (d + 1) 369 69 [(0, .ref 58), (1, .int l1), (2, .int l2), (3, .int l3), (4, .int l4)] [.int ((-1) : Int32), .int (m.1 58 45), .ref 95] (y_si (y_si (y_si (y_si m 89 ((m.1 58 45).toNatClampNeg) l1) 90 ((m.1 58 45).toNatClampNeg) l2) 91 ((m.1 58 45).toNatClampNeg) l3) 92 ((m.1 58 45).toNatClampNeg) l4) Q
    refine y_iast rfl rfl rfl (H.1) ?_
    replace H := H.2
    refine y_st rfl rfl rfl rfl rfl (fun _ _ => rfl) ?_
    refine y_st rfl rfl rfl rfl rfl (fun _ _ => rfl) ?_
    refine y_gf rfl rfl rfl rfl rfl ?_
    refine y_st rfl rfl rfl rfl rfl (fun _ _ => rfl) ?_
    refine y_st rfl rfl rfl rfl rfl (fun _ _ => rfl) ?_
    refine y_pfi rfl rfl rfl rfl rfl (x_fit_i _) ?_
    show yP (xg xs) (d + 1) 369 80 [(0, .ref 58), (1, .int l1), (2, .int l2), (3, .int l3), (4, .int l4)] [] (y_si (y_si (y_si (y_si (y_si (y_si m 89 ((m.1 58 45).toNatClampNeg) l1) 90 ((m.1 58 45).toNatClampNeg) l2) 91 ((m.1 58 45).toNatClampNeg) l3) 92 ((m.1 58 45).toNatClampNeg) l4) 95 ((m.1 58 45).toNatClampNeg) ((-1) : Int32)) 58 45 ((m.1 58 45) + (1 : Int32))) Q
    refine y_st rfl rfl rfl rfl rfl (fun _ _ => rfl) ?_
    refine y_gf rfl rfl rfl rfl rfl ?_
    refine y_st rfl rfl rfl rfl rfl (fun _ _ => rfl) ?_
    refine y_st rfl rfl rfl rfl rfl (fun _ _ => rfl) ?_
    show yP (xg xs) (d + 1) 369 86 [(0, .ref 58), (1, .int l1), (2, .int l2), (3, .int l3), (4, .int l4)] [.int (((m.1 58 45) + (1 : Int32)) - (1 : Int32))] (y_si (y_si (y_si (y_si (y_si (y_si m 89 ((m.1 58 45).toNatClampNeg) l1) 90 ((m.1 58 45).toNatClampNeg) l2) 91 ((m.1 58 45).toNatClampNeg) l3) 92 ((m.1 58 45).toNatClampNeg) l4) 95 ((m.1 58 45).toNatClampNeg) ((-1) : Int32)) 58 45 ((m.1 58 45) + (1 : Int32))) Q
    exact y_iret rfl rfl rfl H
  · replace H := H.2 h; clear h
    refine y_st rfl rfl rfl rfl rfl (fun _ _ => rfl) ?_
    refine y_st rfl rfl rfl rfl rfl (fun _ _ => rfl) ?_
    refine y_pfi rfl rfl rfl rfl rfl (x_fit_z (by decide)) ?_
    show yP (xg xs) (d + 1) 369 15 [(0, .ref 58), (1, .int l1), (2, .int l2), (3, .int l3), (4, .int l4)] [] (y_si m 58 50 (1 : Int32)) Q
    refine y_st rfl rfl rfl rfl rfl (fun _ _ => rfl) ?_
    show yP (xg xs) (d + 1) 369 18 [(0, .ref 58), (1, .int l1), (2, .int l2), (3, .int l3), (4, .int l4)] [.int (3000 : Int32)] (y_si m 58 50 (1 : Int32)) Q
    exact y_iret rfl rfl rfl H
set_option maxRecDepth 20000 in
/-- CodeMakerModel.writeAll from 0 on -/
theorem w370_0 (xs : List Int32) (d : Nat) (l1 : Int32) (m : yM) (Q : Option Value → yM → Prop) (H : (x_in l1 20000 = true ∧ yP (xg xs) (d + 1) 370 7 [(0, .ref 58), (2, .int (m.1 66 l1.toNatClampNeg))] [] m Q)) : yP (xg xs) (d + 1) 370 0 [(0, .ref 58), (1, .int l1)] [] m Q := by
  refine y_st rfl rfl rfl rfl rfl (fun _ _ => rfl) ?_
  refine y_gf rfl rfl rfl rfl rfl ?_
  refine y_st rfl rfl rfl rfl rfl (fun _ _ => rfl) ?_
  show yP (xg xs) (d + 1) 370 5 [(0, .ref 58), (1, .int l1)] [.int l1, .ref 66] m Q
  refine y_iald rfl rfl rfl (H.1) ?_
  replace H := H.2
  refine y_st rfl rfl rfl rfl rfl (fun _ _ => rfl) ?_
  show yP (xg xs) (d + 1) 370 7 [(2, .int (m.1 66 l1.toNatClampNeg)), (0, .ref 58), (1, .int l1)] [] m Q
  refine y_headS (l2 := [(0, .ref 58), (2, .int (m.1 66 l1.toNatClampNeg))]) [1, 0] [0, 2] [2, 0, 1] rfl rfl (by decide) rfl (by decide) ?_
  exact H
set_option maxRecDepth 20000 in
/-- CodeMakerModel.writeAll from 7 on -/
theorem w370_7 (xs : List Int32) (d : Nat) (l2 : Int32) (m : yM) (Q : Option Value → yM → Prop) (H : ((l2 = ((-1) : Int32) → Q none m) ∧ (¬ l2 = ((-1) : Int32) → (yC (xg xs) d 371 [.ref 58, .int l2] m (fun v1 m1 => v1 = none ∧ (x_in l2 20000 = true ∧ yP (xg xs) (d + 1) 370 7 [(0, .ref 58), (2, .int (m1.1 68 l2.toNatClampNeg))] [] m1 Q)))))) : yP (xg xs) (d + 1) 370 7 [(0, .ref 58), (2, .int l2)] [] m Q := by
  refine y_st rfl rfl rfl rfl rfl (fun _ _ => rfl) ?_
  refine y_st rfl rfl rfl rfl rfl (fun _ _ => rfl) ?_
  show yP (xg xs) (d + 1) 370 9 [(0, .ref 58), (2, .int l2)] [.int ((-1) : Int32), .int l2] m Q
  refine y_ieq (t := 27) rfl rfl rfl (fun h => ?_) (fun h => ?_)
  · replace H := H.1 h; clear h
    show yP (xg xs) (d + 1) 370 27 [(0, .ref 58), (2, .int l2)] [] m Q
    exact y_ret rfl rfl rfl rfl H
  · replace H := H.2 h; clear h
    refine y_st rfl rfl rfl rfl rfl (fun _ _ => rfl) ?_
    refine y_st rfl rfl rfl rfl rfl (fun _ _ => rfl) ?_
    show yP (xg xs) (d + 1) 370 14 [(0, .ref 58), (2, .int l2)] [.int l2, .ref 58] m Q
    refine y_call rfl rfl rfl rfl rfl (Nat.le_of_ble_eq_true rfl) (Nat.le_of_ble_eq_true rfl) rfl (by decide) H (fun v1 m1 H => ?_)
    obtain ⟨rfl, H⟩ := H
    refine y_st rfl rfl rfl rfl rfl (fun _ _ => rfl) ?_
    refine y_gf rfl rfl rfl rfl rfl ?_
    refine y_st rfl rfl rfl rfl rfl (fun _ _ => rfl) ?_
    show yP (xg xs) (d + 1) 370 22 [(0, .ref 58), (2, .int l2)] [.int l2, .ref 68] m1 Q
    refine y_iald rfl rfl rfl (H.1) ?_
    replace H := H.2
    refine y_st rfl rfl rfl rfl rfl (fun _ _ => rfl) ?_
    refine y_st rfl rfl rfl rfl rfl (fun _ _ => rfl) ?_
    show yP (xg xs) (d + 1) 370 7 [(2, .int (m1.1 68 l2.toNatClampNeg)), (0, .ref 58)] [] m1 Q
    refine y_headS (l2 := [(0, .ref 58), (2, .int (m1.1 68 l2.toNatClampNeg))]) [1, 0] [0, 2] [2, 0] rfl rfl (by decide) rfl (by decide) ?_
    exact H
set_option maxRecDepth 20000 in
/-- CodeMakerModel.writeStatement from 0 on -/
theorem w371_0 (xs : List Int32) (d : Nat) (l1 : Int32) (m : yM) (Q : Option Value → yM → Prop) (H : (x_in l1 20000 = true ∧ (x_in l1 20000 = true ∧ (((m.1 62 l1.toNatClampNeg) = (12 : Int32) → (x_in (m.1 66 l1.toNatClampNeg) 20000 = true ∧ (x_in (m.1 66 l1.toNatClampNeg) 20000 = true ∧ ((¬ (m.1 62 ((m.1 66 l1.toNatClampNeg).toNatClampNeg)) = (6 : Int32) → (x_in (m.1 66 l1.toNatClampNeg) 20000 = true ∧ (yC (xg xs) d 372 [.ref 58, .int (m.1 66 ((m.1 66 l1.toNatClampNeg).toNatClampNeg))] m (fun v1 m1 => v1 = none ∧ (x_in (m.1 66 l1.toNatClampNeg) 20000 = true ∧ (yC (xg xs) d 372 [.ref 58, .int (m1.1 68 ((m.1 66 l1.toNatClampNeg).toNatClampNeg))] m1 (fun v2 m2 => v2 = none ∧ (x_in (m.1 85 ((m.1 66 l1.toNatClampNeg).toNatClampNeg)) 4700 = true ∧ (x_in (m.1 85 ((m.1 66 l1.toNatClampNeg).toNatClampNeg)) 4700 = true ∧ (x_in (m.1 85 ((m.1 66 l1.toNatClampNeg).toNatClampNeg)) 4700 = true ∧ (yC (xg xs) d 369 [.ref 58, .int (4 : Int32), .int (m2.1 80 ((m.1 85 ((m.1 66 l1.toNatClampNeg).toNatClampNeg)).toNatClampNeg)), .int (m2.1 78 ((m.1 85 ((m.1 66 l1.toNatClampNeg).toNatClampNeg)).toNatClampNeg)), .int (m2.1 79 ((m.1 85 ((m.1 66 l1.toNatClampNeg).toNatClampNeg)).toNatClampNeg))] m2 (fun v3 m3 => ∃ u3, v3 = some (Value.int u3) ∧ Q none m3)))))))))))) ∧ ((m.1 62 ((m.1 66 l1.toNatClampNeg).toNatClampNeg)) = (6 : Int32) → (x_in (m.1 66 l1.toNatClampNeg) 20000 = true ∧ (yC (xg xs) d 372 [.ref 58, .int (m.1 68 ((m.1 66 l1.toNatClampNeg).toNatClampNeg))] m (fun v4 m4 => v4 = none ∧ (x_in (m.1 85 ((m.1 66 l1.toNatClampNeg).toNatClampNeg)) 4700 = true ∧ (yC (xg xs) d 369 [.ref 58, .int (2 : Int32), .int (m4.1 80 ((m.1 85 ((m.1 66 l1.toNatClampNeg).toNatClampNeg)).toNatClampNeg)), .int (0 : Int32), .int (0 : Int32)] m4 (fun v5 m5 => ∃ u5, v5 = some (Value.int u5) ∧ Q none m5))))))))))) ∧ ((m.1 62 l1.toNatClampNeg) = (13 : Int32) → yP (xg xs) (d + 1) 371 168 [(0, .ref 58), (1, .int l1), (4, .int (m.1 66 l1.toNatClampNeg))] [] m Q) ∧ ((m.1 62 l1.toNatClampNeg) = (15 : Int32) → (yC (xg xs) d 374 [.ref 58, .int l1, .int (m.1 66 l1.toNatClampNeg), .int ((-1) : Int32)] m (fun v6 m6 => v6 = none ∧ Q none m6))) ∧ ((m.1 62 l1.toNatClampNeg) = (16 : Int32) → (yC (xg xs) d 372 [.ref 58, .int (m.1 66 l1.toNatClampNeg)] m (fun v7 m7 => v7 = none ∧ (x_in l1 20000 = true ∧ (yC (xg xs) d 369 [.ref 58, .int (2 : Int32), .int (m7.1 86 l1.toNatClampNeg), .int (0 : Int32), .int (0 : Int32)] m7 (fun v8 m8 => ∃ u8, v8 = some (Value.int u8) ∧ (x_in (m.1 66 l1.toNatClampNeg) 20000 = true ∧ (x_in l1 20000 = true ∧ (yC (xg xs) d 374 [.ref 58, .int l1, .int (m8.1 68 ((m.1 66 l1.toNatClampNeg).toNatClampNeg)), .int (m8.1 86 l1.toNatClampNeg)] m8 (fun v9 m9 => v9 = none ∧ Q none m9)))))))))) ∧ ((m.1 62 l1.toNatClampNeg) = (19 : Int32) → (yC (xg xs) d 377 [.ref 58, .int l1] m (fun v10 m10 => v10 = none ∧ Q none m10))) ∧ ((m.1 62 l1.toNatClampNeg) = (20 : Int32) → (x_in l1 20000 = true ∧ yP (xg xs) (d + 1) 371 352 [(0, .ref 58), (4, .int (m.1 65 l1.toNatClampNeg))] [] m Q)) ∧ ((m.1 62 l1.toNatClampNeg) = (21 : Int32) → (yC (xg xs) d 369 [.ref 58, .int (18 : Int32), .int (0 : Int32), .int (0 : Int32), .int (0 : Int32)] m (fun v11 m11 => ∃ u11, v11 = some (Value.int u11) ∧ Q none m11))) ∧ (¬ (m.1 62 l1.toNatClampNeg) = (12 : Int32) → ¬ (m.1 62 l1.toNatClampNeg) = (13 : Int32) → ¬ (m.1 62 l1.toNatClampNeg) = (15 : Int32) → ¬ (m.1 62 l1.toNatClampNeg) = (16 : Int32) → ¬ (m.1 62 l1.toNatClampNeg) = (19 : Int32) → ¬ (m.1 62 l1.toNatClampNeg) = (20 : Int32) → ¬ (m.1 62 l1.toNatClampNeg) = (21 : Int32) → Q none m))))) : yP (xg xs) (d + 1) 371 0 [(0, .ref 58), (1, .int l1)] [] m Q := by
  refine y_st rfl rfl rfl rfl rfl (fun _ _ => rfl) ?_
  refine y_gf rfl rfl rfl rfl rfl ?_
  refine y_st rfl rfl rfl rfl rfl (fun _ _ => rfl) ?_
  show yP (xg xs) (d + 1) 371 5 [(0, .ref 58), (1, .int l1)] [.int l1, .ref 66] m Q
  refine y_iald rfl rfl rfl (H.1) ?_
  replace H := H.2
  refine y_st rfl rfl rfl rfl rfl (fun _ _ => rfl) ?_
  refine y_st rfl rfl rfl rfl rfl (fun _ _ => rfl) ?_
  refine y_st rfl rfl rfl rfl rfl (fun _ _ => rfl) ?_
  refine y_st rfl rfl rfl rfl rfl (fun _ _ => rfl) ?_
  refine y_gf rfl rfl rfl rfl rfl ?_
  refine y_st rfl rfl rfl rfl rfl (fun _ _ => rfl) ?_
  show yP (xg xs) (d + 1) 371 14 [(3, .int (0 : Int32)), (2, .int (m.1 66 l1.toNatClampNeg)), (0, .ref 58), (1, .int l1)] [.int l1, .ref 62] m Q
  refine y_iald rfl rfl rfl (H.1) ?_
  replace H := H.2
  show yP (xg xs) (d + 1) 371 15 [(3, .int (0 : Int32)), (2, .int (m.1 66 l1.toNatClampNeg)), (0, .ref 58), (1, .int l1)] [.int (m.1 62 l1.toNatClampNeg)] m Q
  by_cases h12 : m.1 62 l1.toNatClampNeg = (12 : Int32)
  · replace H := H.1 h12
    refine y_tsw (t := 68) rfl rfl (by rw [h12]; rfl) ?_
    clear h12
    refine y_st rfl rfl rfl rfl rfl (fun _ _ => rfl) ?_
    refine y_gf rfl rfl rfl rfl rfl ?_
    refine y_st rfl rfl rfl rfl rfl (fun _ _ => rfl) ?_
    show yP (xg xs) (d + 1) 371 73 [(3, .int (0 : Int32)), (2, .int (m.1 66 l1.toNatClampNeg)), (0, .ref 58), (1, .int l1)] [.int (m.1 66 l1.toNatClampNeg), .ref 85] m Q
    refine y_iald rfl rfl rfl (H.1) ?_
    replace H := H.2
    refine y_st rfl rfl rfl rfl rfl (fun _ _ => rfl) ?_
    refine y_st rfl rfl rfl rfl rfl (fun _ _ => rfl) ?_
    refine y_gf rfl rfl rfl rfl rfl ?_
    refine y_st rfl rfl rfl rfl rfl (fun _ _ => rfl) ?_
    show yP (xg xs) (d + 1) 371 81 [(4, .int (m.1 85 ((m.1 66 l1.toNatClampNeg).toNatClampNeg))), (3, .int (0 : Int32)), (2, .int (m.1 66 l1.toNatClampNeg)), (0, .ref 58), (1, .int l1)] [.int (m.1 66 l1.toNatClampNeg), .ref 62] m Q
    refine y_iald rfl rfl rfl (H.1) ?_
    replace H := H.2
    refine y_st rfl rfl rfl rfl rfl (fun _ _ => rfl) ?_
    show yP (xg xs) (d + 1) 371 84 [(4, .int (m.1 85 ((m.1 66 l1.toNatClampNeg).toNatClampNeg))), (3, .int (0 : Int32)), (2, .int (m.1 66 l1.toNatClampNeg)), (0, .ref 58), (1, .int l1)] [.int (6 : Int32), .int (m.1 62 ((m.1 66 l1.toNatClampNeg).toNatClampNeg))] m Q
    refine y_ine (t := 115) rfl rfl rfl (fun h => ?_) (fun h => ?_)
    · replace H := H.1 h; clear h
      refine y_st rfl rfl rfl rfl rfl (fun _ _ => rfl) ?_
      refine y_st rfl rfl rfl rfl rfl (fun _ _ => rfl) ?_
      refine y_gf rfl rfl rfl rfl rfl ?_
      refine y_st rfl rfl rfl rfl rfl (fun _ _ => rfl) ?_
      show yP (xg xs) (d + 1) 371 121 [(4, .int (m.1 85 ((m.1 66 l1.toNatClampNeg).toNatClampNeg))), (3, .int (0 : Int32)), (2, .int (m.1 66 l1.toNatClampNeg)), (0, .ref 58), (1, .int l1)] [.int (m.1 66 l1.toNatClampNeg), .ref 66, .ref 58] m Q
      refine y_iald rfl rfl rfl (H.1) ?_
      replace H := H.2
      show yP (xg xs) (d + 1) 371 122 [(4, .int (m.1 85 ((m.1 66 l1.toNatClampNeg).toNatClampNeg))), (3, .int (0 : Int32)), (2, .int (m.1 66 l1.toNatClampNeg)), (0, .ref 58), (1, .int l1)] [.int (m.1 66 ((m.1 66 l1.toNatClampNeg).toNatClampNeg)), .ref 58] m Q
      refine y_call rfl rfl rfl rfl rfl (Nat.le_of_ble_eq_true rfl) (Nat.le_of_ble_eq_true rfl) rfl (by decide) H (fun v1 m1 H => ?_)
      obtain ⟨rfl, H⟩ := H
      refine y_st rfl rfl rfl rfl rfl (fun _ _ => rfl) ?_
      refine y_st rfl rfl rfl rfl rfl (fun _ _ => rfl) ?_
      refine y_gf rfl rfl rfl rfl rfl ?_
      refine y_st rfl rfl rfl rfl rfl (fun _ _ => rfl) ?_
      show yP (xg xs) (d + 1) 371 131 [(4, .int (m.1 85 ((m.1 66 l1.toNatClampNeg).toNatClampNeg))), (3, .int (0 : Int32)), (2, .int (m.1 66 l1.toNatClampNeg)), (0, .ref 58), (1, .int l1)] [.int (m.1 66 l1.toNatClampNeg), .ref 68, .ref 58] m1 Q
      refine y_iald rfl rfl rfl (H.1) ?_
      replace H := H.2
      show yP (xg xs) (d + 1) 371 132 [(4, .int (m.1 85 ((m.1 66 l1.toNatClampNeg).toNatClampNeg))), (3, .int (0 : Int32)), (2, .int (m.1 66 l1.toNatClampNeg)), (0, .ref 58), (1, .int l1)] [.int (m1.1 68 ((m.1 66 l1.toNatClampNeg).toNatClampNeg)), .ref 58] m1 Q
      refine y_call rfl rfl rfl rfl rfl (Nat.le_of_ble_eq_true rfl) (Nat.le_of_ble_eq_true rfl) rfl (by decide) H (fun v2 m2 H => ?_)
      obtain ⟨rfl, H⟩ := H
      refine y_st rfl rfl rfl rfl rfl (fun _ _ => rfl) ?_
      refine y_st rfl rfl rfl rfl rfl (fun _ _ => rfl) ?_
      refine y_st rfl rfl rfl rfl rfl (fun _ _ => rfl) ?_
      refine y_gf rfl rfl rfl rfl rfl ?_
      refine y_st rfl rfl rfl rfl rfl (fun _ _ => rfl) ?_
      show yP (xg xs) (d + 1) 371 143 [(4, .int (m.1 85 ((m.1 66 l1.toNatClampNeg).toNatClampNeg))), (3, .int (0 : Int32)), (2, .int (m.1 66 l1.toNatClampNeg)), (0, .ref 58), (1, .int l1)] [.int (m.1 85 ((m.1 66 l1.toNatClampNeg).toNatClampNeg)), .ref 80, .int (4 : Int32), .ref 58] m2 Q
      refine y_iald rfl rfl rfl (H.1) ?_
      replace H := H.2
      refine y_st rfl rfl rfl rfl rfl (fun _ _ => rfl) ?_
      refine y_gf rfl rfl rfl rfl rfl ?_
      refine y_st rfl rfl rfl rfl rfl (fun _ _ => rfl) ?_
      show yP (xg xs) (d + 1) 371 150 [(4, .int (m.1 85 ((m.1 66 l1.toNatClampNeg).toNatClampNeg))), (3, .int (0 : Int32)), (2, .int (m.1 66 l1.toNatClampNeg)), (0, .ref 58), (1, .int l1)] [.int (m.1 85 ((m.1 66 l1.toNatClampNeg).toNatClampNeg)), .ref 78, .int (m2.1 80 ((m.1 85 ((m.1 66 l1.toNatClampNeg).toNatClampNeg)).toNatClampNeg)), .int (4 : Int32), .ref 58] m2 Q
      refine y_iald rfl rfl rfl (H.1) ?_
      replace H := H.2
      refine y_st rfl rfl rfl rfl rfl (fun _ _ => rfl) ?_
      refine y_gf rfl rfl rfl rfl rfl ?_
      refine y_st rfl rfl rfl rfl rfl (fun _ _ => rfl) ?_
      show yP (xg xs) (d + 1) 371 157 [(4, .int (m.1 85 ((m.1 66 l1.toNatClampNeg).toNatClampNeg))), (3, .int (0 : Int32)), (2, .int (m.1 66 l1.toNatClampNeg)), (0, .ref 58), (1, .int l1)] [.int (m.1 85 ((m.1 66 l1.toNatClampNeg).toNatClampNeg)), .ref 79, .int (m2.1 78 ((m.1 85 ((m.1 66 l1.toNatClampNeg).toNatClampNeg)).toNatClampNeg)), .int (m2.1 80 ((m.1 85 ((m.1 66 l1.toNatClampNeg).toNatClampNeg)).toNatClampNeg)), .int (4 : Int32), .ref 58] m2 Q
      refine y_iald rfl rfl rfl (H.1) ?_
      replace H := H.2
      show yP (xg xs) (d + 1) 371 158 [(4, .int (m.1 85 ((m.1 66 l1.toNatClampNeg).toNatClampNeg))), (3, .int (0 : Int32)), (2, .int (m.1 66 l1.toNatClampNeg)), (0, .ref 58), (1, .int l1)] [.int (m2.1 79 ((m.1 85 ((m.1 66 l1.toNatClampNeg).toNatClampNeg)).toNatClampNeg)), .int (m2.1 78 ((m.1 85 ((m.1 66 l1.toNatClampNeg).toNatClampNeg)).toNatClampNeg)), .int (m2.1 80 ((m.1 85 ((m.1 66 l1.toNatClampNeg).toNatClampNeg)).toNatClampNeg)), .int (4 : Int32), .ref 58] m2 Q
      refine y_call rfl rfl rfl rfl rfl (Nat.le_of_ble_eq_true rfl) (Nat.le_of_ble_eq_true rfl) rfl (by decide) H (fun v3 m3 H => ?_)
      obtain ⟨u3, rfl, H⟩ := H
      refine y_st rfl rfl rfl rfl rfl (fun _ _ => rfl) ?_
      refine y_st rfl rfl rfl rfl rfl (fun _ _ => rfl) ?_
      show yP (xg xs) (d + 1) 371 410 [(3, .int u3), (4, .int (m.1 85 ((m.1 66 l1.toNatClampNeg).toNatClampNeg))), (2, .int (m.1 66 l1.toNatClampNeg)), (0, .ref 58), (1, .int l1)] [] m3 Q
      exact y_ret rfl rfl rfl rfl H
    · replace H := H.2 h; clear h
      refine y_st rfl rfl rfl rfl rfl (fun _ _ => rfl) ?_
      refine y_st rfl rfl rfl rfl rfl (fun _ _ => rfl) ?_
      refine y_gf rfl rfl rfl rfl rfl ?_
      refine y_st rfl rfl rfl rfl rfl (fun _ _ => rfl) ?_
      show yP (xg xs) (d + 1) 371 93 [(4, .int (m.1 85 ((m.1 66 l1.toNatClampNeg).toNatClampNeg))), (3, .int (0 : Int32)), (2, .int (m.1 66 l1.toNatClampNeg)), (0, .ref 58), (1, .int l1)] [.int (m.1 66 l1.toNatClampNeg), .ref 68, .ref 58] m Q
      refine y_iald rfl rfl rfl (H.1) ?_
      replace H := H.2
      show yP (xg xs) (d + 1) 371 94 [(4, .int (m.1 85 ((m.1 66 l1.toNatClampNeg).toNatClampNeg))), (3, .int (0 : Int32)), (2, .int (m.1 66 l1.toNatClampNeg)), (0, .ref 58), (1, .int l1)] [.int (m.1 68 ((m.1 66 l1.toNatClampNeg).toNatClampNeg)), .ref 58] m Q
      refine y_call rfl rfl rfl rfl rfl (Nat.le_of_ble_eq_true rfl) (Nat.le_of_ble_eq_true rfl) rfl (by decide) H (fun v4 m4 H => ?_)
      obtain ⟨rfl, H⟩ := H
      refine y_st rfl rfl rfl rfl rfl (fun _ _ => rfl) ?_
      refine y_st rfl rfl rfl rfl rfl (fun _ _ => rfl) ?_
      refine y_st rfl rfl rfl rfl rfl (fun _ _ => rfl) ?_
      refine y_gf rfl rfl rfl rfl rfl ?_
      refine y_st rfl rfl rfl rfl rfl (fun _ _ => rfl) ?_
      show yP (xg xs) (d + 1) 371 105 [(4, .int (m.1 85 ((m.1 66 l1.toNatClampNeg).toNatClampNeg))), (3, .int (0 : Int32)), (2, .int (m.1 66 l1.toNatClampNeg)), (0, .ref 58), (1, .int l1)] [.int (m.1 85 ((m.1 66 l1.toNatClampNeg).toNatClampNeg)), .ref 80, .int (2 : Int32), .ref 58] m4 Q
      refine y_iald rfl rfl rfl (H.1) ?_
      replace H := H.2
      refine y_st rfl rfl rfl rfl rfl (fun _ _ => rfl) ?_
      refine y_st rfl rfl rfl rfl rfl (fun _ _ => rfl) ?_
      show yP (xg xs) (d + 1) 371 108 [(4, .int (m.1 85 ((m.1 66 l1.toNatClampNeg).toNatClampNeg))), (3, .int (0 : Int32)), (2, .int (m.1 66 l1.toNatClampNeg)), (0, .ref 58), (1, .int l1)] [.int (0 : Int32), .int (0 : Int32), .int (m4.1 80 ((m.1 85 ((m.1 66 l1.toNatClampNeg).toNatClampNeg)).toNatClampNeg)), .int (2 : Int32), .ref 58] m4 Q
      refine y_call rfl rfl rfl rfl rfl (Nat.le_of_ble_eq_true rfl) (Nat.le_of_ble_eq_true rfl) rfl (by decide) H (fun v5 m5 H => ?_)
      obtain ⟨u5, rfl, H⟩ := H
      refine y_st rfl rfl rfl rfl rfl (fun _ _ => rfl) ?_
      refine y_st rfl rfl rfl rfl rfl (fun _ _ => rfl) ?_
      show yP (xg xs) (d + 1) 371 410 [(3, .int u5), (4, .int (m.1 85 ((m.1 66 l1.toNatClampNeg).toNatClampNeg))), (2, .int (m.1 66 l1.toNatClampNeg)), (0, .ref 58), (1, .int l1)] [] m5 Q
      exact y_ret rfl rfl rfl rfl H
  replace H := H.2
  by_cases h13 : m.1 62 l1.toNatClampNeg = (13 : Int32)
  · replace H := H.1 h13
    refine y_tsw (t := 165) rfl rfl (by rw [h13]; rfl) ?_
    clear h13 h12
    refine y_st rfl rfl rfl rfl rfl (fun _ _ => rfl) ?_
    refine y_st rfl rfl rfl rfl rfl (fun _ _ => rfl) ?_
    show yP (xg xs) (d + 1) 371 168 [(4, .int (m.1 66 l1.toNatClampNeg)), (3, .int (0 : Int32)), (2, .int (m.1 66 l1.toNatClampNeg)), (0, .ref 58), (1, .int l1)] [] m Q
    refine y_headS (l2 := [(0, .ref 58), (1, .int l1), (4, .int (m.1 66 l1.toNatClampNeg))]) [3, 4, 0] [0, 1, 4] [4, 3, 2, 0, 1] rfl rfl (by decide) rfl (by decide) ?_
    exact H
  replace H := H.2
  by_cases h15 : m.1 62 l1.toNatClampNeg = (15 : Int32)
  · replace H := H.1 h15
    refine y_tsw (t := 287) rfl rfl (by rw [h15]; rfl) ?_
    clear h15 h13 h12
    refine y_st rfl rfl rfl rfl rfl (fun _ _ => rfl) ?_
    refine y_st rfl rfl rfl rfl rfl (fun _ _ => rfl) ?_
    refine y_st rfl rfl rfl rfl rfl (fun _ _ => rfl) ?_
    refine y_st rfl rfl rfl rfl rfl (fun _ _ => rfl) ?_
    show yP (xg xs) (d + 1) 371 291 [(3, .int (0 : Int32)), (2, .int (m.1 66 l1.toNatClampNeg)), (0, .ref 58), (1, .int l1)] [.int ((-1) : Int32), .int (m.1 66 l1.toNatClampNeg), .int l1, .ref 58] m Q
    refine y_call rfl rfl rfl rfl rfl (Nat.le_of_ble_eq_true rfl) (Nat.le_of_ble_eq_true rfl) rfl (by decide) H (fun v6 m6 H => ?_)
    obtain ⟨rfl, H⟩ := H
    refine y_st rfl rfl rfl rfl rfl (fun _ _ => rfl) ?_
    show yP (xg xs) (d + 1) 371 410 [(3, .int (0 : Int32)), (2, .int (m.1 66 l1.toNatClampNeg)), (0, .ref 58), (1, .int l1)] [] m6 Q
    exact y_ret rfl rfl rfl rfl H
  replace H := H.2
  by_cases h16 : m.1 62 l1.toNatClampNeg = (16 : Int32)
  · replace H := H.1 h16
    refine y_tsw (t := 297) rfl rfl (by rw [h16]; rfl) ?_
    clear h16 h15 h13 h12
    refine y_st rfl rfl rfl rfl rfl (fun _ _ => rfl) ?_
    refine y_st rfl rfl rfl rfl rfl (fun _ _ => rfl) ?_
    show yP (xg xs) (d + 1) 371 299 [(3, .int (0 : Int32)), (2, .int (m.1 66 l1.toNatClampNeg)), (0, .ref 58), (1, .int l1)] [.int (m.1 66 l1.toNatClampNeg), .ref 58] m Q
    refine y_call rfl rfl rfl rfl rfl (Nat.le_of_ble_eq_true rfl) (Nat.le_of_ble_eq_true rfl) rfl (by decide) H (fun v7 m7 H => ?_)
    obtain ⟨rfl, H⟩ := H
    refine y_st rfl rfl rfl rfl rfl (fun _ _ => rfl) ?_
    refine y_st rfl rfl rfl rfl rfl (fun _ _ => rfl) ?_
    refine y_st rfl rfl rfl rfl rfl (fun _ _ => rfl) ?_
    refine y_gf rfl rfl rfl rfl rfl ?_
    refine y_st rfl rfl rfl rfl rfl (fun _ _ => rfl) ?_
    show yP (xg xs) (d + 1) 371 309 [(3, .int (0 : Int32)), (2, .int (m.1 66 l1.toNatClampNeg)), (0, .ref 58), (1, .int l1)] [.int l1, .ref 86, .int (2 : Int32), .ref 58] m7 Q
    refine y_iald rfl rfl rfl (H.1) ?_
    replace H := H.2
    refine y_st rfl rfl rfl rfl rfl (fun _ _ => rfl) ?_
    refine y_st rfl rfl rfl rfl rfl (fun _ _ => rfl) ?_
    show yP (xg xs) (d + 1) 371 312 [(3, .int (0 : Int32)), (2, .int (m.1 66 l1.toNatClampNeg)), (0, .ref 58), (1, .int l1)] [.int (0 : Int32), .int (0 : Int32), .int (m7.1 86 l1.toNatClampNeg), .int (2 : Int32), .ref 58] m7 Q
    refine y_call rfl rfl rfl rfl rfl (Nat.le_of_ble_eq_true rfl) (Nat.le_of_ble_eq_true rfl) rfl (by decide) H (fun v8 m8 H => ?_)
    obtain ⟨u8, rfl, H⟩ := H
    refine y_st rfl rfl rfl rfl rfl (fun _ _ => rfl) ?_
    refine y_st rfl rfl rfl rfl rfl (fun _ _ => rfl) ?_
    refine y_st rfl rfl rfl rfl rfl (fun _ _ => rfl) ?_
    refine y_st rfl rfl rfl rfl rfl (fun _ _ => rfl) ?_
    refine y_gf rfl rfl rfl rfl rfl ?_
    refine y_st rfl rfl rfl rfl rfl (fun _ _ => rfl) ?_
    show yP (xg xs) (d + 1) 371 323 [(3, .int u8), (2, .int (m.1 66 l1.toNatClampNeg)), (0, .ref 58), (1, .int l1)] [.int (m.1 66 l1.toNatClampNeg), .ref 68, .int l1, .ref 58] m8 Q
    refine y_iald rfl rfl rfl (H.1) ?_
    replace H := H.2
    refine y_st rfl rfl rfl rfl rfl (fun _ _ => rfl) ?_
    refine y_gf rfl rfl rfl rfl rfl ?_
    refine y_st rfl rfl rfl rfl rfl (fun _ _ => rfl) ?_
    show yP (xg xs) (d + 1) 371 329 [(3, .int u8), (2, .int (m.1 66 l1.toNatClampNeg)), (0, .ref 58), (1, .int l1)] [.int l1, .ref 86, .int (m8.1 68 ((m.1 66 l1.toNatClampNeg).toNatClampNeg)), .int l1, .ref 58] m8 Q
    refine y_iald rfl rfl rfl (H.1) ?_
    replace H := H.2
    show yP (xg xs) (d + 1) 371 330 [(3, .int u8), (2, .int (m.1 66 l1.toNatClampNeg)), (0, .ref 58), (1, .int l1)] [.int (m8.1 86 l1.toNatClampNeg), .int (m8.1 68 ((m.1 66 l1.toNatClampNeg).toNatClampNeg)), .int l1, .ref 58] m8 Q
    refine y_call rfl rfl rfl rfl rfl (Nat.le_of_ble_eq_true rfl) (Nat.le_of_ble_eq_true rfl) rfl (by decide) H (fun v9 m9 H => ?_)
    obtain ⟨rfl, H⟩ := H
    refine y_st rfl rfl rfl rfl rfl (fun _ _ => rfl) ?_
    show yP (xg xs) (d + 1) 371 410 [(3, .int u8), (2, .int (m.1 66 l1.toNatClampNeg)), (0, .ref 58), (1, .int l1)] [] m9 Q
    exact y_ret rfl rfl rfl rfl H
  replace H := H.2
  by_cases h19 : m.1 62 l1.toNatClampNeg = (19 : Int32)
  · replace H := H.1 h19
    refine y_tsw (t := 336) rfl rfl (by rw [h19]; rfl) ?_
    clear h19 h16 h15 h13 h12
    refine y_st rfl rfl rfl rfl rfl (fun _ _ => rfl) ?_
    refine y_st rfl rfl rfl rfl rfl (fun _ _ => rfl) ?_
    show yP (xg xs) (d + 1) 371 338 [(3, .int (0 : Int32)), (2, .int (m.1 66 l1.toNatClampNeg)), (0, .ref 58), (1, .int l1)] [.int l1, .ref 58] m Q
    refine y_call rfl rfl rfl rfl rfl (Nat.le_of_ble_eq_true rfl) (Nat.le_of_ble_eq_true rfl) rfl (by decide) H (fun v10 m10 H => ?_)
    obtain ⟨rfl, H⟩ := H
    refine y_st rfl rfl rfl rfl rfl (fun _ _ => rfl) ?_
    show yP (xg xs) (d + 1) 371 410 [(3, .int (0 : Int32)), (2, .int (m.1 66 l1.toNatClampNeg)), (0, .ref 58), (1, .int l1)] [] m10 Q
    exact y_ret rfl rfl rfl rfl H
  replace H := H.2
  by_cases h20 : m.1 62 l1.toNatClampNeg = (20 : Int32)
  · replace H := H.1 h20
    refine y_tsw (t := 344) rfl rfl (by rw [h20]; rfl) ?_
    clear h20 h19 h16 h15 h13 h12
    refine y_st rfl rfl rfl rfl rfl (fun _ _ => rfl) ?_
    refine y_gf rfl rfl rfl rfl rfl ?_
    refine y_st rfl rfl rfl rfl rfl (fun _ _ => rfl) ?_
    show yP (xg xs) (d + 1) 371 349 [(3, .int (0 : Int32)), (2, .int (m.1 66 l1.toNatClampNeg)), (0, .ref 58), (1, .int l1)] [.int l1, .ref 65] m Q
    refine y_iald rfl rfl rfl (H.1) ?_
    replace H := H.2
    refine y_st rfl rfl rfl rfl rfl (fun _ _ => rfl) ?_
    show yP (xg xs) (d + 1) 371 352 [(4, .int (m.1 65 l1.toNatClampNeg)), (3, .int (0 : Int32)), (2, .int (m.1 66 l1.toNatClampNeg)), (0, .ref 58), (1, .int l1)] [] m Q
    refine y_headS (l2 := [(0, .ref 58), (4, .int (m.1 65 l1.toNatClampNeg))]) [3, 0] [0, 4] [4, 3, 2, 0, 1] rfl rfl (by decide) rfl (by decide) ?_
    exact H
  replace H := H.2
  by_cases h21 : m.1 62 l1.toNatClampNeg = (21 : Int32)
  · replace H := H.1 h21
    refine y_tsw (t := 397) rfl rfl (by rw [h21]; rfl) ?_
    clear h21 h20 h19 h16 h15 h13 h12
    refine y_st rfl rfl rfl rfl rfl (fun _ _ => rfl) ?_
    refine y_st rfl rfl rfl rfl rfl (fun _ _ => rfl) ?_
    refine y_st rfl rfl rfl rfl rfl (fun _ _ => rfl) ?_
    refine y_st rfl rfl rfl rfl rfl (fun _ _ => rfl) ?_
    refine y_st rfl rfl rfl rfl rfl (fun _ _ => rfl) ?_
    show yP (xg xs) (d + 1) 371 403 [(3, .int (0 : Int32)), (2, .int (m.1 66 l1.toNatClampNeg)), (0, .ref 58), (1, .int l1)] [.int (0 : Int32), .int (0 : Int32), .int (0 : Int32), .int (18 : Int32), .ref 58] m Q
    refine y_call rfl rfl rfl rfl rfl (Nat.le_of_ble_eq_true rfl) (Nat.le_of_ble_eq_true rfl) rfl (by decide) H (fun v11 m11 H => ?_)
    obtain ⟨u11, rfl, H⟩ := H
    refine y_st rfl rfl rfl rfl rfl (fun _ _ => rfl) ?_
    refine y_st rfl rfl rfl rfl rfl (fun _ _ => rfl) ?_
    show yP (xg xs) (d + 1) 371 410 [(3, .int u11), (2, .int (m.1 66 l1.toNatClampNeg)), (0, .ref 58), (1, .int l1)] [] m11 Q
    exact y_ret rfl rfl rfl rfl H
  replace H := H.2
  refine y_tsw (t := 410) rfl rfl (by have g0 := ne_lit (12 : Int32) 12 rfl h12; have g1 := ne_lit (13 : Int32) 13 rfl h13; have g2 := ne_lit (15 : Int32) 15 rfl h15; have g3 := ne_lit (16 : Int32) 16 rfl h16; have g4 := ne_lit (19 : Int32) 19 rfl h19; have g5 := ne_lit (20 : Int32) 20 rfl h20; have g6 := ne_lit (21 : Int32) 21 rfl h21; by_cases z : ((m.1 62 l1.toNatClampNeg)).toInt < 12 ∨ 21 < ((m.1 62 l1.toNatClampNeg)).toInt; exact (if_pos z).trans rfl; rw [if_neg z]; rcases (by omega : ((m.1 62 l1.toNatClampNeg)).toInt = 14 ∨ ((m.1 62 l1.toNatClampNeg)).toInt = 17 ∨ ((m.1 62 l1.toNatClampNeg)).toInt = 18) with e | e | e <;> rw [e] <;> rfl) ?_
  replace H := H h12 h13 h15 h16 h19 h20 h21
  clear h21 h20 h19 h16 h15 h13 h12
  show yP (xg xs) (d + 1) 371 410 [(3, .int (0 : Int32)), (2, .int (m.1 66 l1.toNatClampNeg)), (0, .ref 58), (1, .int l1)] [] m Q
  exact y_ret rfl rfl rfl rfl H
set_option maxRecDepth 20000 in
/-- CodeMakerModel.writeStatement from 168 on -/
theorem w371_168 (xs : List Int32) (d : Nat) (l1 : Int32) (l4 : Int32) (m : yM) (Q : Option Value → yM → Prop) (H : ((l4 = ((-1) : Int32) → (x_in l1 20000 = true ∧ (x_in (m.1 85 l1.toNatClampNeg) 4700 = true ∧ (((100 : Int32) ≤ (m.1 77 ((m.1 85 l1.toNatClampNeg).toNatClampNeg)) → yP (xg xs) (d + 1) 371 240 [(0, .ref 58), (4, .int (m.1 85 l1.toNatClampNeg))] [.int (15 : Int32), .ref 58] m Q) ∧ (¬ (100 : Int32) ≤ (m.1 77 ((m.1 85 l1.toNatClampNeg).toNatClampNeg)) → yP (xg xs) (d + 1) 371 240 [(0, .ref 58), (4, .int (m.1 85 l1.toNatClampNeg))] [.int (17 : Int32), .ref 58] m Q))))) ∧ (¬ l4 = ((-1) : Int32) → (x_in l4 20000 = true ∧ (yC (xg xs) d 372 [.ref 58, .int (m.1 66 l4.toNatClampNeg)] m (fun v1 m1 => v1 = none ∧ (x_in l4 20000 = true ∧ (yC (xg xs) d 369 [.ref 58, .int (2 : Int32), .int (m1.1 86 l4.toNatClampNeg), .int (0 : Int32), .int (0 : Int32)] m1 (fun v2 m2 => ∃ u2, v2 = some (Value.int u2) ∧ (x_in l4 20000 = true ∧ yP (xg xs) (d + 1) 371 168 [(0, .ref 58), (1, .int l1), (4, .int (m2.1 68 l4.toNatClampNeg))] [] m2 Q)))))))))) : yP (xg xs) (d + 1) 371 168 [(0, .ref 58), (1, .int l1), (4, .int l4)] [] m Q := by
  refine y_st rfl rfl rfl rfl rfl (fun _ _ => rfl) ?_
  refine y_st rfl rfl rfl rfl rfl (fun _ _ => rfl) ?_
  show yP (xg xs) (d + 1) 371 171 [(0, .ref 58), (1, .int l1), (4, .int l4)] [.int ((-1) : Int32), .int l4] m Q
  refine y_ieq (t := 212) rfl rfl rfl (fun h => ?_) (fun h => ?_)
  · replace H := H.1 h; clear h
    refine y_st rfl rfl rfl rfl rfl (fun _ _ => rfl) ?_
    refine y_gf rfl rfl rfl rfl rfl ?_
    refine y_st rfl rfl rfl rfl rfl (fun _ _ => rfl) ?_
    show yP (xg xs) (d + 1) 371 217 [(0, .ref 58), (1, .int l1), (4, .int l4)] [.int l1, .ref 85] m Q
    refine y_iald rfl rfl rfl (H.1) ?_
    replace H := H.2
    refine y_st rfl rfl rfl rfl rfl (fun _ _ => rfl) ?_
    refine y_st rfl rfl rfl rfl rfl (fun _ _ => rfl) ?_
    refine y_st rfl rfl rfl rfl rfl (fun _ _ => rfl) ?_
    refine y_gf rfl rfl rfl rfl rfl ?_
    refine y_st rfl rfl rfl rfl rfl (fun _ _ => rfl) ?_
    show yP (xg xs) (d + 1) 371 227 [(4, .int (m.1 85 l1.toNatClampNeg)), (0, .ref 58), (1, .int l1)] [.int (m.1 85 l1.toNatClampNeg), .ref 77, .ref 58] m Q
    refine y_iald rfl rfl rfl (H.1) ?_
    replace H := H.2
    refine y_st rfl rfl rfl rfl rfl (fun _ _ => rfl) ?_
    show yP (xg xs) (d + 1) 371 230 [(4, .int (m.1 85 l1.toNatClampNeg)), (0, .ref 58), (1, .int l1)] [.int (100 : Int32), .int (m.1 77 ((m.1 85 l1.toNatClampNeg).toNatClampNeg)), .ref 58] m Q
    refine y_ige (t := 238) rfl rfl rfl (fun h => ?_) (fun h => ?_)
    · replace H := H.1 h; clear h
      refine y_st rfl rfl rfl rfl rfl (fun _ _ => rfl) ?_
      show yP (xg xs) (d + 1) 371 240 [(4, .int (m.1 85 l1.toNatClampNeg)), (0, .ref 58), (1, .int l1)] [.int (15 : Int32), .ref 58] m Q
      refine y_headS (l2 := [(0, .ref 58), (4, .int (m.1 85 l1.toNatClampNeg))]) [1, 0] [0, 4] [4, 0, 1] rfl rfl (by decide) rfl (by decide) ?_
      exact H
    · replace H := H.2 h; clear h
      refine y_st rfl rfl rfl rfl rfl (fun _ _ => rfl) ?_
      refine y_st rfl rfl rfl rfl rfl (fun _ _ => rfl) ?_
      show yP (xg xs) (d + 1) 371 240 [(4, .int (m.1 85 l1.toNatClampNeg)), (0, .ref 58), (1, .int l1)] [.int (17 : Int32), .ref 58] m Q
      refine y_headS (l2 := [(0, .ref 58), (4, .int (m.1 85 l1.toNatClampNeg))]) [1, 0] [0, 4] [4, 0, 1] rfl rfl (by decide) rfl (by decide) ?_
      exact H
  · replace H := H.2 h; clear h
    refine y_st rfl rfl rfl rfl rfl (fun _ _ => rfl) ?_
    refine y_st rfl rfl rfl rfl rfl (fun _ _ => rfl) ?_
    refine y_gf rfl rfl rfl rfl rfl ?_
    refine y_st rfl rfl rfl rfl rfl (fun _ _ => rfl) ?_
    show yP (xg xs) (d + 1) 371 181 [(0, .ref 58), (1, .int l1), (4, .int l4)] [.int l4, .ref 66, .ref 58] m Q
    refine y_iald rfl rfl rfl (H.1) ?_
    replace H := H.2
    show yP (xg xs) (d + 1) 371 182 [(0, .ref 58), (1, .int l1), (4, .int l4)] [.int (m.1 66 l4.toNatClampNeg), .ref 58] m Q
    refine y_call rfl rfl rfl rfl rfl (Nat.le_of_ble_eq_true rfl) (Nat.le_of_ble_eq_true rfl) rfl (by decide) H (fun v1 m1 H => ?_)
    obtain ⟨rfl, H⟩ := H
    refine y_st rfl rfl rfl rfl rfl (fun _ _ => rfl) ?_
    refine y_st rfl rfl rfl rfl rfl (fun _ _ => rfl) ?_
    refine y_st rfl rfl rfl rfl rfl (fun _ _ => rfl) ?_
    refine y_gf rfl rfl rfl rfl rfl ?_
    refine y_st rfl rfl rfl rfl rfl (fun _ _ => rfl) ?_
    show yP (xg xs) (d + 1) 371 193 [(0, .ref 58), (1, .int l1), (4, .int l4)] [.int l4, .ref 86, .int (2 : Int32), .ref 58] m1 Q
    refine y_iald rfl rfl rfl (H.1) ?_
    replace H := H.2
    refine y_st rfl rfl rfl rfl rfl (fun _ _ => rfl) ?_
    refine y_st rfl rfl rfl rfl rfl (fun _ _ => rfl) ?_
    show yP (xg xs) (d + 1) 371 196 [(0, .ref 58), (1, .int l1), (4, .int l4)] [.int (0 : Int32), .int (0 : Int32), .int (m1.1 86 l4.toNatClampNeg), .int (2 : Int32), .ref 58] m1 Q
    refine y_call rfl rfl rfl rfl rfl (Nat.le_of_ble_eq_true rfl) (Nat.le_of_ble_eq_true rfl) rfl (by decide) H (fun v2 m2 H => ?_)
    obtain ⟨u2, rfl, H⟩ := H
    refine y_st rfl rfl rfl rfl rfl (fun _ _ => rfl) ?_
    refine y_st rfl rfl rfl rfl rfl (fun _ _ => rfl) ?_
    refine y_gf rfl rfl rfl rfl rfl ?_
    refine y_st rfl rfl rfl rfl rfl (fun _ _ => rfl) ?_
    show yP (xg xs) (d + 1) 371 206 [(3, .int u2), (0, .ref 58), (1, .int l1), (4, .int l4)] [.int l4, .ref 68] m2 Q
    refine y_iald rfl rfl rfl (H.1) ?_
    replace H := H.2
    refine y_st rfl rfl rfl rfl rfl (fun _ _ => rfl) ?_
    refine y_st rfl rfl rfl rfl rfl (fun _ _ => rfl) ?_
    show yP (xg xs) (d + 1) 371 168 [(4, .int (m2.1 68 l4.toNatClampNeg)), (3, .int u2), (0, .ref 58), (1, .int l1)] [] m2 Q
    refine y_headS (l2 := [(0, .ref 58), (1, .int l1), (4, .int (m2.1 68 l4.toNatClampNeg))]) [2, 3, 0] [0, 1, 4] [4, 3, 0, 1] rfl rfl (by decide) rfl (by decide) ?_
    exact H
set_option maxRecDepth 20000 in
/-- CodeMakerModel.writeStatement from 240 on -/
theorem w371_240 (xs : List Int32) (d : Nat) (l4 : Int32) (s1 : Int32) (m : yM) (Q : Option Value → yM → Prop) (H : (x_in l4 4700 = true ∧ (((100 : Int32) ≤ (m.1 77 l4.toNatClampNeg) → (x_in l4 4700 = true ∧ yP (xg xs) (d + 1) 371 272 [(0, .ref 58), (4, .int l4)] [.int ((m.1 77 l4.toNatClampNeg) - (100 : Int32)), .int s1, .ref 58] m Q)) ∧ (¬ (100 : Int32) ≤ (m.1 77 l4.toNatClampNeg) → (x_in l4 4700 = true ∧ yP (xg xs) (d + 1) 371 272 [(0, .ref 58), (4, .int l4)] [.int (m.1 77 l4.toNatClampNeg), .int s1, .ref 58] m Q))))) : yP (xg xs) (d + 1) 371 240 [(0, .ref 58), (4, .int l4)] [.int s1, .ref 58] m Q := by
  refine y_st rfl rfl rfl rfl rfl (fun _ _ => rfl) ?_
  refine y_gf rfl rfl rfl rfl rfl ?_
  refine y_st rfl rfl rfl rfl rfl (fun _ _ => rfl) ?_
  show yP (xg xs) (d + 1) 371 246 [(0, .ref 58), (4, .int l4)] [.int l4, .ref 77, .int s1, .ref 58] m Q
  refine y_iald rfl rfl rfl (H.1) ?_
  replace H := H.2
  refine y_st rfl rfl rfl rfl rfl (fun _ _ => rfl) ?_
  show yP (xg xs) (d + 1) 371 249 [(0, .ref 58), (4, .int l4)] [.int (100 : Int32), .int (m.1 77 l4.toNatClampNeg), .int s1, .ref 58] m Q
  refine y_ige (t := 262) rfl rfl rfl (fun h => ?_) (fun h => ?_)
  · replace H := H.1 h; clear h
    refine y_st rfl rfl rfl rfl rfl (fun _ _ => rfl) ?_
    refine y_gf rfl rfl rfl rfl rfl ?_
    refine y_st rfl rfl rfl rfl rfl (fun _ _ => rfl) ?_
    show yP (xg xs) (d + 1) 371 268 [(0, .ref 58), (4, .int l4)] [.int l4, .ref 77, .int s1, .ref 58] m Q
    refine y_iald rfl rfl rfl (H.1) ?_
    replace H := H.2
    refine y_st rfl rfl rfl rfl rfl (fun _ _ => rfl) ?_
    refine y_st rfl rfl rfl rfl rfl (fun _ _ => rfl) ?_
    show yP (xg xs) (d + 1) 371 272 [(0, .ref 58), (4, .int l4)] [.int ((m.1 77 l4.toNatClampNeg) - (100 : Int32)), .int s1, .ref 58] m Q
    exact H
  · replace H := H.2 h; clear h
    refine y_st rfl rfl rfl rfl rfl (fun _ _ => rfl) ?_
    refine y_gf rfl rfl rfl rfl rfl ?_
    refine y_st rfl rfl rfl rfl rfl (fun _ _ => rfl) ?_
    show yP (xg xs) (d + 1) 371 258 [(0, .ref 58), (4, .int l4)] [.int l4, .ref 77, .int s1, .ref 58] m Q
    refine y_iald rfl rfl rfl (H.1) ?_
    replace H := H.2
    refine y_st rfl rfl rfl rfl rfl (fun _ _ => rfl) ?_
    show yP (xg xs) (d + 1) 371 272 [(0, .ref 58), (4, .int l4)] [.int (m.1 77 l4.toNatClampNeg), .int s1, .ref 58] m Q
    exact H
set_option maxRecDepth 20000 in
/-- CodeMakerModel.writeStatement from 272 on -/
theorem w371_272 (xs : List Int32) (d : Nat) (l4 : Int32) (s1 : Int32) (s2 : Int32) (m : yM) (Q : Option Value → yM → Prop) (H : (x_in l4 4700 = true ∧ (yC (xg xs) d 369 [.ref 58, .int s1, .int s2, .int (m.1 80 l4.toNatClampNeg), .int (0 : Int32)] m (fun v1 m1 => ∃ u1, v1 = some (Value.int u1) ∧ Q none m1)))) : yP (xg xs) (d + 1) 371 272 [(0, .ref 58), (4, .int l4)] [.int s2, .int s1, .ref 58] m Q := by
  refine y_st rfl rfl rfl rfl rfl (fun _ _ => rfl) ?_
  refine y_gf rfl rfl rfl rfl rfl ?_
  refine y_st rfl rfl rfl rfl rfl (fun _ _ => rfl) ?_
  show yP (xg xs) (d + 1) 371 278 [(0, .ref 58), (4, .int l4)] [.int l4, .ref 80, .int s2, .int s1, .ref 58] m Q
  refine y_iald rfl rfl rfl (H.1) ?_
  replace H := H.2
  refine y_st rfl rfl rfl rfl rfl (fun _ _ => rfl) ?_
  show yP (xg xs) (d + 1) 371 280 [(0, .ref 58), (4, .int l4)] [.int (0 : Int32), .int (m.1 80 l4.toNatClampNeg), .int s2, .int s1, .ref 58] m Q
  refine y_call rfl rfl rfl rfl rfl (Nat.le_of_ble_eq_true rfl) (Nat.le_of_ble_eq_true rfl) rfl (by decide) H (fun v1 m1 H => ?_)
  obtain ⟨u1, rfl, H⟩ := H
  refine y_st rfl rfl rfl rfl rfl (fun _ _ => rfl) ?_
  refine y_st rfl rfl rfl rfl rfl (fun _ _ => rfl) ?_
  show yP (xg xs) (d + 1) 371 410 [(3, .int u1), (0, .ref 58), (4, .int l4)] [] m1 Q
  exact y_ret rfl rfl rfl rfl H
set_option maxRecDepth 20000 in
/-- CodeMakerModel.writeStatement from 352 on -/
theorem w371_352 (xs : List Int32) (d : Nat) (l4 : Int32) (m : yM) (Q : Option Value → yM → Prop) (H : (x_in l4 20000 = true ∧ (((m.1 62 l4.toNatClampNeg) = (19 : Int32) → (yC (xg xs) d 369 [.ref 58, .int (10 : Int32), .int (0 : Int32), .int (0 : Int32), .int (0 : Int32)] m (fun v1 m1 => ∃ u1, v1 = some (Value.int u1) ∧ (x_in u1 3001 = true ∧ Q none (y_si m1 95 u1.toNatClampNeg l4))))) ∧ (¬ (m.1 62 l4.toNatClampNeg) = (19 : Int32) → (x_in l4 20000 = true ∧ yP (xg xs) (d + 1) 371 352 [(0, .ref 58), (4, .int (m.1 65 l4.toNatClampNeg))] [] m Q))))) : yP (xg xs) (d + 1) 371 352 [(0, .ref 58), (4, .int l4)] [] m Q := by
  refine y_st rfl rfl rfl rfl rfl (fun _ _ => rfl) ?_
  refine y_gf rfl rfl rfl rfl rfl ?_
  refine y_st rfl rfl rfl rfl rfl (fun _ _ => rfl) ?_
  show yP (xg xs) (d + 1) 371 358 [(0, .ref 58), (4, .int l4)] [.int l4, .ref 62] m Q
  refine y_iald rfl rfl rfl (H.1) ?_
  replace H := H.2
  refine y_st rfl rfl rfl rfl rfl (fun _ _ => rfl) ?_
  show yP (xg xs) (d + 1) 371 361 [(0, .ref 58), (4, .int l4)] [.int (19 : Int32), .int (m.1 62 l4.toNatClampNeg)] m Q
  refine y_ieq (t := 376) rfl rfl rfl (fun h => ?_) (fun h => ?_)
  · replace H := H.1 h; clear h
    refine y_st rfl rfl rfl rfl rfl (fun _ _ => rfl) ?_
    refine y_st rfl rfl rfl rfl rfl (fun _ _ => rfl) ?_
    refine y_st rfl rfl rfl rfl rfl (fun _ _ => rfl) ?_
    refine y_st rfl rfl rfl rfl rfl (fun _ _ => rfl) ?_
    refine y_st rfl rfl rfl rfl rfl (fun _ _ => rfl) ?_
    show yP (xg xs) (d + 1) 371 382 [(0, .ref 58), (4, .int l4)] [.int (0 : Int32), .int (0 : Int32), .int (0 : Int32), .int (10 : Int32), .ref 58] m Q
    refine y_call rfl rfl rfl rfl rfl (Nat.le_of_ble_eq_true rfl) (Nat.le_of_ble_eq_true rfl) rfl (by decide) H (fun v1 m1 H => ?_)
    obtain ⟨u1, rfl, H⟩ := H
    refine y_st rfl rfl rfl rfl rfl (fun _ _ => rfl) ?_
    refine y_st rfl rfl rfl rfl rfl (fun _ _ => rfl) ?_
    refine y_gf rfl rfl rfl rfl rfl ?_
    refine y_st rfl rfl rfl rfl rfl (fun _ _ => rfl) ?_
    refine y_st rfl rfl rfl rfl rfl (fun _ _ => rfl) ?_
    show yP (xg xs) (d + 1) 371 393 [(3, .int u1), (0, .ref 58), (4, .int l4)] [.int l4, .int u1, .ref 95] m1 Q
    refine y_iast rfl rfl rfl (H.1) ?_
    replace H := H.2
    refine y_st rfl rfl rfl rfl rfl (fun _ _ => rfl) ?_
    show yP (xg xs) (d + 1) 371 410 [(3, .int u1), (0, .ref 58), (4, .int l4)] [] (y_si m1 95 u1.toNatClampNeg l4) Q
    exact y_ret rfl rfl rfl rfl H
  · replace H := H.2 h; clear h
    refine y_st rfl rfl rfl rfl rfl (fun _ _ => rfl) ?_
    refine y_gf rfl rfl rfl rfl rfl ?_
    refine y_st rfl rfl rfl rfl rfl (fun _ _ => rfl) ?_
    show yP (xg xs) (d + 1) 371 370 [(0, .ref 58), (4, .int l4)] [.int l4, .ref 65] m Q
    refine y_iald rfl rfl rfl (H.1) ?_
    replace H := H.2
    refine y_st rfl rfl rfl rfl rfl (fun _ _ => rfl) ?_
    refine y_st rfl rfl rfl rfl rfl (fun _ _ => rfl) ?_
    show yP (xg xs) (d + 1) 371 352 [(4, .int (m.1 65 l4.toNatClampNeg)), (0, .ref 58)] [] m Q
    refine y_headS (l2 := [(0, .ref 58), (4, .int (m.1 65 l4.toNatClampNeg))]) [1, 0] [0, 4] [4, 0] rfl rfl (by decide) rfl (by decide) ?_
    exact H
set_option maxRecDepth 20000 in
/-- CodeMakerModel.write from 0 on -/
theorem w372_0 (xs : List Int32) (d : Nat) (l1 : Int32) (m : yM) (Q : Option Value → yM → Prop) (H : (((m.1 58 50) = 0 → (x_in l1 20000 = true ∧ (((m.1 62 l1.toNatClampNeg) ≤ (29 : Int32) → yP (xg xs) (d + 1) 372 43 [(0, .ref 58), (1, .int l1)] [] m Q) ∧ (¬ (m.1 62 l1.toNatClampNeg) ≤ (29 : Int32) → (x_in l1 20000 = true ∧ (((m.1 87 l1.toNatClampNeg) = 0 → yP (xg xs) (d + 1) 372 43 [(0, .ref 58), (1, .int l1)] [] m Q) ∧ (¬ (m.1 87 l1.toNatClampNeg) = 0 → (x_in l1 20000 = true ∧ (yC (xg xs) d 369 [.ref 58, .int (0 : Int32), .int (m.1 88 l1.toNatClampNeg), .int (0 : Int32), .int (0 : Int32)] m (fun v1 m1 => ∃ u1, v1 = some (Value.int u1) ∧ Q none m1)))))))))) ∧ (¬ (m.1 58 50) = 0 → Q none m))) : yP (xg xs) (d + 1) 372 0 [(0, .ref 58), (1, .int l1)] [] m Q := by
  refine y_st rfl rfl rfl rfl rfl (fun _ _ => rfl) ?_
  refine y_gf rfl rfl rfl rfl rfl ?_
  show yP (xg xs) (d + 1) 372 4 [(0, .ref 58), (1, .int l1)] [.int (m.1 58 50)] m Q
  refine y_zeq (t := 8) rfl rfl rfl (fun h => ?_) (fun h => ?_)
  · replace H := H.1 h; clear h
    refine y_st rfl rfl rfl rfl rfl (fun _ _ => rfl) ?_
    refine y_gf rfl rfl rfl rfl rfl ?_
    refine y_st rfl rfl rfl rfl rfl (fun _ _ => rfl) ?_
    show yP (xg xs) (d + 1) 372 13 [(0, .ref 58), (1, .int l1)] [.int l1, .ref 62] m Q
    refine y_iald rfl rfl rfl (H.1) ?_
    replace H := H.2
    refine y_st rfl rfl rfl rfl rfl (fun _ _ => rfl) ?_
    show yP (xg xs) (d + 1) 372 16 [(0, .ref 58), (1, .int l1)] [.int (29 : Int32), .int (m.1 62 l1.toNatClampNeg)] m Q
    refine y_ile (t := 43) rfl rfl rfl (fun h => ?_) (fun h => ?_)
    · replace H := H.1 h; clear h
      show yP (xg xs) (d + 1) 372 43 [(0, .ref 58), (1, .int l1)] [] m Q
      exact H
    · replace H := H.2 h; clear h
      refine y_st rfl rfl rfl rfl rfl (fun _ _ => rfl) ?_
      refine y_gf rfl rfl rfl rfl rfl ?_
      refine y_st rfl rfl rfl rfl rfl (fun _ _ => rfl) ?_
      show yP (xg xs) (d + 1) 372 24 [(0, .ref 58), (1, .int l1)] [.int l1, .ref 87] m Q
      refine y_bald rfl rfl rfl (by decide) (H.1) ?_
      replace H := H.2
      show yP (xg xs) (d + 1) 372 25 [(0, .ref 58), (1, .int l1)] [.int (m.1 87 l1.toNatClampNeg)] m Q
      refine y_zeq (t := 43) rfl rfl rfl (fun h => ?_) (fun h => ?_)
      · replace H := H.1 h; clear h
        show yP (xg xs) (d + 1) 372 43 [(0, .ref 58), (1, .int l1)] [] m Q
        exact H
      · replace H := H.2 h; clear h
        refine y_st rfl rfl rfl rfl rfl (fun _ _ => rfl) ?_
        refine y_st rfl rfl rfl rfl rfl (fun _ _ => rfl) ?_
        refine y_st rfl rfl rfl rfl rfl (fun _ _ => rfl) ?_
        refine y_gf rfl rfl rfl rfl rfl ?_
        refine y_st rfl rfl rfl rfl rfl (fun _ _ => rfl) ?_
        show yP (xg xs) (d + 1) 372 35 [(0, .ref 58), (1, .int l1)] [.int l1, .ref 88, .int (0 : Int32), .ref 58] m Q
        refine y_iald rfl rfl rfl (H.1) ?_
        replace H := H.2
        refine y_st rfl rfl rfl rfl rfl (fun _ _ => rfl) ?_
        refine y_st rfl rfl rfl rfl rfl (fun _ _ => rfl) ?_
        show yP (xg xs) (d + 1) 372 38 [(0, .ref 58), (1, .int l1)] [.int (0 : Int32), .int (0 : Int32), .int (m.1 88 l1.toNatClampNeg), .int (0 : Int32), .ref 58] m Q
        refine y_call rfl rfl rfl rfl rfl (Nat.le_of_ble_eq_true rfl) (Nat.le_of_ble_eq_true rfl) rfl (by decide) H (fun v1 m1 H => ?_)
        obtain ⟨u1, rfl, H⟩ := H
        refine y_st rfl rfl rfl rfl rfl (fun _ _ => rfl) ?_
        show yP (xg xs) (d + 1) 372 42 [(2, .int u1), (0, .ref 58), (1, .int l1)] [] m1 Q
        exact y_ret rfl rfl rfl rfl H
  · replace H := H.2 h; clear h
    show yP (xg xs) (d + 1) 372 7 [(0, .ref 58), (1, .int l1)] [] m Q
    exact y_ret rfl rfl rfl rfl H
set_option maxRecDepth 20000 in
/-- CodeMakerModel.write from 43 on -/
theorem w372_43 (xs : List Int32) (d : Nat) (l1 : Int32) (m : yM) (Q : Option Value → yM → Prop) (H : (x_in l1 20000 = true ∧ (x_in l1 20000 = true ∧ (((m.1 62 l1.toNatClampNeg) = (6 : Int32) → (x_in l1 20000 = true ∧ (x_in (m.1 85 l1.toNatClampNeg) 4700 = true ∧ (yC (xg xs) d 369 [.ref 58, .int (1 : Int32), .int (m.1 80 ((m.1 85 l1.toNatClampNeg).toNatClampNeg)), .int (0 : Int32), .int (0 : Int32)] m (fun v1 m1 => ∃ u1, v1 = some (Value.int u1) ∧ Q none m1))))) ∧ ((m.1 62 l1.toNatClampNeg) = (32 : Int32) → (yC (xg xs) d 372 [.ref 58, .int (m.1 66 l1.toNatClampNeg)] m (fun v2 m2 => v2 = none ∧ (x_in l1 20000 = true ∧ (x_in (m2.1 85 l1.toNatClampNeg) 4700 = true ∧ (x_in l1 20000 = true ∧ (x_in (m2.1 85 l1.toNatClampNeg) 4700 = true ∧ (x_in l1 20000 = true ∧ (x_in (m2.1 85 l1.toNatClampNeg) 4700 = true ∧ (yC (xg xs) d 369 [.ref 58, .int (3 : Int32), .int (m2.1 80 ((m2.1 85 l1.toNatClampNeg).toNatClampNeg)), .int (m2.1 78 ((m2.1 85 l1.toNatClampNeg).toNatClampNeg)), .int (m2.1 79 ((m2.1 85 l1.toNatClampNeg).toNatClampNeg))] m2 (fun v3 m3 => ∃ u3, v3 = some (Value.int u3) ∧ Q none m3))))))))))) ∧ ((m.1 62 l1.toNatClampNeg) = (33 : Int32) → (x_in l1 20000 = true ∧ (yC (xg xs) d 369 [.ref 58, .int (1 : Int32), .int (m.1 86 l1.toNatClampNeg), .int (0 : Int32), .int (0 : Int32)] m (fun v4 m4 => ∃ u4, v4 = some (Value.int u4) ∧ Q none m4)))) ∧ ((m.1 62 l1.toNatClampNeg) = (34 : Int32) → (yC (xg xs) d 373 [.ref 58, .int l1] m (fun v5 m5 => v5 = none ∧ Q none m5))) ∧ ((m.1 62 l1.toNatClampNeg) = (35 : Int32) → (yC (xg xs) d 372 [.ref 58, .int (m.1 66 l1.toNatClampNeg)] m (fun v6 m6 => v6 = none ∧ (x_in (m.1 66 l1.toNatClampNeg) 20000 = true ∧ (yC (xg xs) d 372 [.ref 58, .int (m6.1 68 ((m.1 66 l1.toNatClampNeg).toNatClampNeg))] m6 (fun v7 m7 => v7 = none ∧ (yC (xg xs) d 365 [.ref 58, .int l1] m7 (fun v8 m8 => ∃ u8, v8 = some (Value.int u8) ∧ (yC (xg xs) d 369 [.ref 58, .int (7 : Int32), .int u8, .int (0 : Int32), .int (0 : Int32)] m8 (fun v9 m9 => ∃ u9, v9 = some (Value.int u9) ∧ Q none m9)))))))))) ∧ (¬ (m.1 62 l1.toNatClampNeg) = (6 : Int32) → ¬ (m.1 62 l1.toNatClampNeg) = (32 : Int32) → ¬ (m.1 62 l1.toNatClampNeg) = (33 : Int32) → ¬ (m.1 62 l1.toNatClampNeg) = (34 : Int32) → ¬ (m.1 62 l1.toNatClampNeg) = (35 : Int32) → (yC (xg xs) d 372 [.ref 58, .int (m.1 66 l1.toNatClampNeg)] m (fun v10 m10 => v10 = none ∧ (yC (xg xs) d 366 [.ref 58, .int l1] m10 (fun v11 m11 => ∃ u11, v11 = some (Value.int u11) ∧ (yC (xg xs) d 369 [.ref 58, .int (8 : Int32), .int u11, .int (0 : Int32), .int (0 : Int32)] m11 (fun v12 m12 => ∃ u12, v12 = some (Value.int u12) ∧ Q none m12))))))))))) : yP (xg xs) (d + 1) 372 43 [(0, .ref 58), (1, .int l1)] [] m Q := by
  refine y_st rfl rfl rfl rfl rfl (fun _ _ => rfl) ?_
  refine y_gf rfl rfl rfl rfl rfl ?_
  refine y_st rfl rfl rfl rfl rfl (fun _ _ => rfl) ?_
  show yP (xg xs) (d + 1) 372 48 [(0, .ref 58), (1, .int l1)] [.int l1, .ref 66] m Q
  refine y_iald rfl rfl rfl (H.1) ?_
  replace H := H.2
  refine y_st rfl rfl rfl rfl rfl (fun _ _ => rfl) ?_
  refine y_st rfl rfl rfl rfl rfl (fun _ _ => rfl) ?_
  refine y_st rfl rfl rfl rfl rfl (fun _ _ => rfl) ?_
  refine y_st rfl rfl rfl rfl rfl (fun _ _ => rfl) ?_
  refine y_gf rfl rfl rfl rfl rfl ?_
  refine y_st rfl rfl rfl rfl rfl (fun _ _ => rfl) ?_
  show yP (xg xs) (d + 1) 372 57 [(3, .int (0 : Int32)), (2, .int (m.1 66 l1.toNatClampNeg)), (0, .ref 58), (1, .int l1)] [.int l1, .ref 62] m Q
  refine y_iald rfl rfl rfl (H.1) ?_
  replace H := H.2
  show yP (xg xs) (d + 1) 372 58 [(3, .int (0 : Int32)), (2, .int (m.1 66 l1.toNatClampNeg)), (0, .ref 58), (1, .int l1)] [.int (m.1 62 l1.toNatClampNeg)] m Q
  by_cases h6 : m.1 62 l1.toNatClampNeg = (6 : Int32)
  · replace H := H.1 h6
    refine y_lsw (t := 108) rfl rfl rfl (by rw [h6]; rfl) ?_
    clear h6
    refine y_st rfl rfl rfl rfl rfl (fun _ _ => rfl) ?_
    refine y_st rfl rfl rfl rfl rfl (fun _ _ => rfl) ?_
    refine y_st rfl rfl rfl rfl rfl (fun _ _ => rfl) ?_
    refine y_gf rfl rfl rfl rfl rfl ?_
    refine y_st rfl rfl rfl rfl rfl (fun _ _ => rfl) ?_
    refine y_gf rfl rfl rfl rfl rfl ?_
    refine y_st rfl rfl rfl rfl rfl (fun _ _ => rfl) ?_
    show yP (xg xs) (d + 1) 372 119 [(3, .int (0 : Int32)), (2, .int (m.1 66 l1.toNatClampNeg)), (0, .ref 58), (1, .int l1)] [.int l1, .ref 85, .ref 80, .int (1 : Int32), .ref 58] m Q
    refine y_iald rfl rfl rfl (H.1) ?_
    replace H := H.2
    show yP (xg xs) (d + 1) 372 120 [(3, .int (0 : Int32)), (2, .int (m.1 66 l1.toNatClampNeg)), (0, .ref 58), (1, .int l1)] [.int (m.1 85 l1.toNatClampNeg), .ref 80, .int (1 : Int32), .ref 58] m Q
    refine y_iald rfl rfl rfl (H.1) ?_
    replace H := H.2
    refine y_st rfl rfl rfl rfl rfl (fun _ _ => rfl) ?_
    refine y_st rfl rfl rfl rfl rfl (fun _ _ => rfl) ?_
    show yP (xg xs) (d + 1) 372 123 [(3, .int (0 : Int32)), (2, .int (m.1 66 l1.toNatClampNeg)), (0, .ref 58), (1, .int l1)] [.int (0 : Int32), .int (0 : Int32), .int (m.1 80 ((m.1 85 l1.toNatClampNeg).toNatClampNeg)), .int (1 : Int32), .ref 58] m Q
    refine y_call rfl rfl rfl rfl rfl (Nat.le_of_ble_eq_true rfl) (Nat.le_of_ble_eq_true rfl) rfl (by decide) H (fun v1 m1 H => ?_)
    obtain ⟨u1, rfl, H⟩ := H
    refine y_st rfl rfl rfl rfl rfl (fun _ _ => rfl) ?_
    refine y_st rfl rfl rfl rfl rfl (fun _ _ => rfl) ?_
    show yP (xg xs) (d + 1) 372 253 [(3, .int u1), (2, .int (m.1 66 l1.toNatClampNeg)), (0, .ref 58), (1, .int l1)] [] m1 Q
    exact y_ret rfl rfl rfl rfl H
  replace H := H.2
  by_cases h32 : m.1 62 l1.toNatClampNeg = (32 : Int32)
  · replace H := H.1 h32
    refine y_lsw (t := 147) rfl rfl rfl (by rw [h32]; rfl) ?_
    clear h32 h6
    refine y_st rfl rfl rfl rfl rfl (fun _ _ => rfl) ?_
    refine y_st rfl rfl rfl rfl rfl (fun _ _ => rfl) ?_
    show yP (xg xs) (d + 1) 372 149 [(3, .int (0 : Int32)), (2, .int (m.1 66 l1.toNatClampNeg)), (0, .ref 58), (1, .int l1)] [.int (m.1 66 l1.toNatClampNeg), .ref 58] m Q
    refine y_call rfl rfl rfl rfl rfl (Nat.le_of_ble_eq_true rfl) (Nat.le_of_ble_eq_true rfl) rfl (by decide) H (fun v2 m2 H => ?_)
    obtain ⟨rfl, H⟩ := H
    refine y_st rfl rfl rfl rfl rfl (fun _ _ => rfl) ?_
    refine y_st rfl rfl rfl rfl rfl (fun _ _ => rfl) ?_
    refine y_st rfl rfl rfl rfl rfl (fun _ _ => rfl) ?_
    refine y_gf rfl rfl rfl rfl rfl ?_
    refine y_st rfl rfl rfl rfl rfl (fun _ _ => rfl) ?_
    refine y_gf rfl rfl rfl rfl rfl ?_
    refine y_st rfl rfl rfl rfl rfl (fun _ _ => rfl) ?_
    show yP (xg xs) (d + 1) 372 163 [(3, .int (0 : Int32)), (2, .int (m.1 66 l1.toNatClampNeg)), (0, .ref 58), (1, .int l1)] [.int l1, .ref 85, .ref 80, .int (3 : Int32), .ref 58] m2 Q
    refine y_iald rfl rfl rfl (H.1) ?_
    replace H := H.2
    show yP (xg xs) (d + 1) 372 164 [(3, .int (0 : Int32)), (2, .int (m.1 66 l1.toNatClampNeg)), (0, .ref 58), (1, .int l1)] [.int (m2.1 85 l1.toNatClampNeg), .ref 80, .int (3 : Int32), .ref 58] m2 Q
    refine y_iald rfl rfl rfl (H.1) ?_
    replace H := H.2
    refine y_st rfl rfl rfl rfl rfl (fun _ _ => rfl) ?_
    refine y_gf rfl rfl rfl rfl rfl ?_
    refine y_st rfl rfl rfl rfl rfl (fun _ _ => rfl) ?_
    refine y_gf rfl rfl rfl rfl rfl ?_
    refine y_st rfl rfl rfl rfl rfl (fun _ _ => rfl) ?_
    show yP (xg xs) (d + 1) 372 174 [(3, .int (0 : Int32)), (2, .int (m.1 66 l1.toNatClampNeg)), (0, .ref 58), (1, .int l1)] [.int l1, .ref 85, .ref 78, .int (m2.1 80 ((m2.1 85 l1.toNatClampNeg).toNatClampNeg)), .int (3 : Int32), .ref 58] m2 Q
    refine y_iald rfl rfl rfl (H.1) ?_
    replace H := H.2
    show yP (xg xs) (d + 1) 372 175 [(3, .int (0 : Int32)), (2, .int (m.1 66 l1.toNatClampNeg)), (0, .ref 58), (1, .int l1)] [.int (m2.1 85 l1.toNatClampNeg), .ref 78, .int (m2.1 80 ((m2.1 85 l1.toNatClampNeg).toNatClampNeg)), .int (3 : Int32), .ref 58] m2 Q
    refine y_iald rfl rfl rfl (H.1) ?_
    replace H := H.2
    refine y_st rfl rfl rfl rfl rfl (fun _ _ => rfl) ?_
    refine y_gf rfl rfl rfl rfl rfl ?_
    refine y_st rfl rfl rfl rfl rfl (fun _ _ => rfl) ?_
    refine y_gf rfl rfl rfl rfl rfl ?_
    refine y_st rfl rfl rfl rfl rfl (fun _ _ => rfl) ?_
    show yP (xg xs) (d + 1) 372 185 [(3, .int (0 : Int32)), (2, .int (m.1 66 l1.toNatClampNeg)), (0, .ref 58), (1, .int l1)] [.int l1, .ref 85, .ref 79, .int (m2.1 78 ((m2.1 85 l1.toNatClampNeg).toNatClampNeg)), .int (m2.1 80 ((m2.1 85 l1.toNatClampNeg).toNatClampNeg)), .int (3 : Int32), .ref 58] m2 Q
    refine y_iald rfl rfl rfl (H.1) ?_
    replace H := H.2
    show yP (xg xs) (d + 1) 372 186 [(3, .int (0 : Int32)), (2, .int (m.1 66 l1.toNatClampNeg)), (0, .ref 58), (1, .int l1)] [.int (m2.1 85 l1.toNatClampNeg), .ref 79, .int (m2.1 78 ((m2.1 85 l1.toNatClampNeg).toNatClampNeg)), .int (m2.1 80 ((m2.1 85 l1.toNatClampNeg).toNatClampNeg)), .int (3 : Int32), .ref 58] m2 Q
    refine y_iald rfl rfl rfl (H.1) ?_
    replace H := H.2
    show yP (xg xs) (d + 1) 372 187 [(3, .int (0 : Int32)), (2, .int (m.1 66 l1.toNatClampNeg)), (0, .ref 58), (1, .int l1)] [.int (m2.1 79 ((m2.1 85 l1.toNatClampNeg).toNatClampNeg)), .int (m2.1 78 ((m2.1 85 l1.toNatClampNeg).toNatClampNeg)), .int (m2.1 80 ((m2.1 85 l1.toNatClampNeg).toNatClampNeg)), .int (3 : Int32), .ref 58] m2 Q
    refine y_call rfl rfl rfl rfl rfl (Nat.le_of_ble_eq_true rfl) (Nat.le_of_ble_eq_true rfl) rfl (by decide) H (fun v3 m3 H => ?_)
    obtain ⟨u3, rfl, H⟩ := H
    refine y_st rfl rfl rfl rfl rfl (fun _ _ => rfl) ?_
    refine y_st rfl rfl rfl rfl rfl (fun _ _ => rfl) ?_
    show yP (xg xs) (d + 1) 372 253 [(3, .int u3), (2, .int (m.1 66 l1.toNatClampNeg)), (0, .ref 58), (1, .int l1)] [] m3 Q
    exact y_ret rfl rfl rfl rfl H
  replace H := H.2
  by_cases h33 : m.1 62 l1.toNatClampNeg = (33 : Int32)
  · replace H := H.1 h33
    refine y_lsw (t := 130) rfl rfl rfl (by rw [h33]; rfl) ?_
    clear h33 h32 h6
    refine y_st rfl rfl rfl rfl rfl (fun _ _ => rfl) ?_
    refine y_st rfl rfl rfl rfl rfl (fun _ _ => rfl) ?_
    refine y_st rfl rfl rfl rfl rfl (fun _ _ => rfl) ?_
    refine y_gf rfl rfl rfl rfl rfl ?_
    refine y_st rfl rfl rfl rfl rfl (fun _ _ => rfl) ?_
    show yP (xg xs) (d + 1) 372 137 [(3, .int (0 : Int32)), (2, .int (m.1 66 l1.toNatClampNeg)), (0, .ref 58), (1, .int l1)] [.int l1, .ref 86, .int (1 : Int32), .ref 58] m Q
    refine y_iald rfl rfl rfl (H.1) ?_
    replace H := H.2
    refine y_st rfl rfl rfl rfl rfl (fun _ _ => rfl) ?_
    refine y_st rfl rfl rfl rfl rfl (fun _ _ => rfl) ?_
    show yP (xg xs) (d + 1) 372 140 [(3, .int (0 : Int32)), (2, .int (m.1 66 l1.toNatClampNeg)), (0, .ref 58), (1, .int l1)] [.int (0 : Int32), .int (0 : Int32), .int (m.1 86 l1.toNatClampNeg), .int (1 : Int32), .ref 58] m Q
    refine y_call rfl rfl rfl rfl rfl (Nat.le_of_ble_eq_true rfl) (Nat.le_of_ble_eq_true rfl) rfl (by decide) H (fun v4 m4 H => ?_)
    obtain ⟨u4, rfl, H⟩ := H
    refine y_st rfl rfl rfl rfl rfl (fun _ _ => rfl) ?_
    refine y_st rfl rfl rfl rfl rfl (fun _ _ => rfl) ?_
    show yP (xg xs) (d + 1) 372 253 [(3, .int u4), (2, .int (m.1 66 l1.toNatClampNeg)), (0, .ref 58), (1, .int l1)] [] m4 Q
    exact y_ret rfl rfl rfl rfl H
  replace H := H.2
  by_cases h34 : m.1 62 l1.toNatClampNeg = (34 : Int32)
  · replace H := H.1 h34
    refine y_lsw (t := 194) rfl rfl rfl (by rw [h34]; rfl) ?_
    clear h34 h33 h32 h6
    refine y_st rfl rfl rfl rfl rfl (fun _ _ => rfl) ?_
    refine y_st rfl rfl rfl rfl rfl (fun _ _ => rfl) ?_
    show yP (xg xs) (d + 1) 372 196 [(3, .int (0 : Int32)), (2, .int (m.1 66 l1.toNatClampNeg)), (0, .ref 58), (1, .int l1)] [.int l1, .ref 58] m Q
    refine y_call rfl rfl rfl rfl rfl (Nat.le_of_ble_eq_true rfl) (Nat.le_of_ble_eq_true rfl) rfl (by decide) H (fun v5 m5 H => ?_)
    obtain ⟨rfl, H⟩ := H
    refine y_st rfl rfl rfl rfl rfl (fun _ _ => rfl) ?_
    show yP (xg xs) (d + 1) 372 253 [(3, .int (0 : Int32)), (2, .int (m.1 66 l1.toNatClampNeg)), (0, .ref 58), (1, .int l1)] [] m5 Q
    exact y_ret rfl rfl rfl rfl H
  replace H := H.2
  by_cases h35 : m.1 62 l1.toNatClampNeg = (35 : Int32)
  · replace H := H.1 h35
    refine y_lsw (t := 202) rfl rfl rfl (by rw [h35]; rfl) ?_
    clear h35 h34 h33 h32 h6
    refine y_st rfl rfl rfl rfl rfl (fun _ _ => rfl) ?_
    refine y_st rfl rfl rfl rfl rfl (fun _ _ => rfl) ?_
    show yP (xg xs) (d + 1) 372 204 [(3, .int (0 : Int32)), (2, .int (m.1 66 l1.toNatClampNeg)), (0, .ref 58), (1, .int l1)] [.int (m.1 66 l1.toNatClampNeg), .ref 58] m Q
    refine y_call rfl rfl rfl rfl rfl (Nat.le_of_ble_eq_true rfl) (Nat.le_of_ble_eq_true rfl) rfl (by decide) H (fun v6 m6 H => ?_)
    obtain ⟨rfl, H⟩ := H
    refine y_st rfl rfl rfl rfl rfl (fun _ _ => rfl) ?_
    refine y_st rfl rfl rfl rfl rfl (fun _ _ => rfl) ?_
    refine y_gf rfl rfl rfl rfl rfl ?_
    refine y_st rfl rfl rfl rfl rfl (fun _ _ => rfl) ?_
    show yP (xg xs) (d + 1) 372 213 [(3, .int (0 : Int32)), (2, .int (m.1 66 l1.toNatClampNeg)), (0, .ref 58), (1, .int l1)] [.int (m.1 66 l1.toNatClampNeg), .ref 68, .ref 58] m6 Q
    refine y_iald rfl rfl rfl (H.1) ?_
    replace H := H.2
    show yP (xg xs) (d + 1) 372 214 [(3, .int (0 : Int32)), (2, .int (m.1 66 l1.toNatClampNeg)), (0, .ref 58), (1, .int l1)] [.int (m6.1 68 ((m.1 66 l1.toNatClampNeg).toNatClampNeg)), .ref 58] m6 Q
    refine y_call rfl rfl rfl rfl rfl (Nat.le_of_ble_eq_true rfl) (Nat.le_of_ble_eq_true rfl) rfl (by decide) H (fun v7 m7 H => ?_)
    obtain ⟨rfl, H⟩ := H
    refine y_st rfl rfl rfl rfl rfl (fun _ _ => rfl) ?_
    refine y_st rfl rfl rfl rfl rfl (fun _ _ => rfl) ?_
    refine y_st rfl rfl rfl rfl rfl (fun _ _ => rfl) ?_
    refine y_st rfl rfl rfl rfl rfl (fun _ _ => rfl) ?_
    show yP (xg xs) (d + 1) 372 222 [(3, .int (0 : Int32)), (2, .int (m.1 66 l1.toNatClampNeg)), (0, .ref 58), (1, .int l1)] [.int l1, .ref 58, .int (7 : Int32), .ref 58] m7 Q
    refine y_call rfl rfl rfl rfl rfl (Nat.le_of_ble_eq_true rfl) (Nat.le_of_ble_eq_true rfl) rfl (by decide) H (fun v8 m8 H => ?_)
    obtain ⟨u8, rfl, H⟩ := H
    refine y_st rfl rfl rfl rfl rfl (fun _ _ => rfl) ?_
    refine y_st rfl rfl rfl rfl rfl (fun _ _ => rfl) ?_
    show yP (xg xs) (d + 1) 372 227 [(3, .int (0 : Int32)), (2, .int (m.1 66 l1.toNatClampNeg)), (0, .ref 58), (1, .int l1)] [.int (0 : Int32), .int (0 : Int32), .int u8, .int (7 : Int32), .ref 58] m8 Q
    refine y_call rfl rfl rfl rfl rfl (Nat.le_of_ble_eq_true rfl) (Nat.le_of_ble_eq_true rfl) rfl (by decide) H (fun v9 m9 H => ?_)
    obtain ⟨u9, rfl, H⟩ := H
    refine y_st rfl rfl rfl rfl rfl (fun _ _ => rfl) ?_
    refine y_st rfl rfl rfl rfl rfl (fun _ _ => rfl) ?_
    show yP (xg xs) (d + 1) 372 253 [(3, .int u9), (2, .int (m.1 66 l1.toNatClampNeg)), (0, .ref 58), (1, .int l1)] [] m9 Q
    exact y_ret rfl rfl rfl rfl H
  replace H := H.2
  refine y_lsw (t := 234) rfl rfl rfl (by have g0 := ne_lit (6 : Int32) 6 rfl h6; have g1 := ne_lit (32 : Int32) 32 rfl h32; have g2 := ne_lit (33 : Int32) 33 rfl h33; have g3 := ne_lit (34 : Int32) 34 rfl h34; have g4 := ne_lit (35 : Int32) 35 rfl h35; simp [Op.lookupswitch.offset, Ne.symm g0, Ne.symm g1, Ne.symm g2, Ne.symm g3, Ne.symm g4]; rfl) ?_
  replace H := H h6 h32 h33 h34 h35
  clear h35 h34 h33 h32 h6
  refine y_st rfl rfl rfl rfl rfl (fun _ _ => rfl) ?_
  refine y_st rfl rfl rfl rfl rfl (fun _ _ => rfl) ?_
  show yP (xg xs) (d + 1) 372 236 [(3, .int (0 : Int32)), (2, .int (m.1 66 l1.toNatClampNeg)), (0, .ref 58), (1, .int l1)] [.int (m.1 66 l1.toNatClampNeg), .ref 58] m Q
  refine y_call rfl rfl rfl rfl rfl (Nat.le_of_ble_eq_true rfl) (Nat.le_of_ble_eq_true rfl) rfl (by decide) H (fun v10 m10 H => ?_)
  obtain ⟨rfl, H⟩ := H
  refine y_st rfl rfl rfl rfl rfl (fun _ _ => rfl) ?_
  refine y_st rfl rfl rfl rfl rfl (fun _ _ => rfl) ?_
  refine y_st rfl rfl rfl rfl rfl (fun _ _ => rfl) ?_
  refine y_st rfl rfl rfl rfl rfl (fun _ _ => rfl) ?_
  show yP (xg xs) (d + 1) 372 244 [(3, .int (0 : Int32)), (2, .int (m.1 66 l1.toNatClampNeg)), (0, .ref 58), (1, .int l1)] [.int l1, .ref 58, .int (8 : Int32), .ref 58] m10 Q
  refine y_call rfl rfl rfl rfl rfl (Nat.le_of_ble_eq_true rfl) (Nat.le_of_ble_eq_true rfl) rfl (by decide) H (fun v11 m11 H => ?_)
  obtain ⟨u11, rfl, H⟩ := H
  refine y_st rfl rfl rfl rfl rfl (fun _ _ => rfl) ?_
  refine y_st rfl rfl rfl rfl rfl (fun _ _ => rfl) ?_
  show yP (xg xs) (d + 1) 372 249 [(3, .int (0 : Int32)), (2, .int (m.1 66 l1.toNatClampNeg)), (0, .ref 58), (1, .int l1)] [.int (0 : Int32), .int (0 : Int32), .int u11, .int (8 : Int32), .ref 58] m11 Q
  refine y_call rfl rfl rfl rfl rfl (Nat.le_of_ble_eq_true rfl) (Nat.le_of_ble_eq_true rfl) rfl (by decide) H (fun v12 m12 H => ?_)
  obtain ⟨u12, rfl, H⟩ := H
  refine y_st rfl rfl rfl rfl rfl (fun _ _ => rfl) ?_
  show yP (xg xs) (d + 1) 372 253 [(3, .int u12), (2, .int (m.1 66 l1.toNatClampNeg)), (0, .ref 58), (1, .int l1)] [] m12 Q
  exact y_ret rfl rfl rfl rfl H
set_option maxRecDepth 20000 in
/-- CodeMakerModel.writeCall from 0 on -/
theorem w373_0 (xs : List Int32) (d : Nat) (l1 : Int32) (m : yM) (Q : Option Value → yM → Prop) (H : (x_in l1 20000 = true ∧ (x_in l1 20000 = true ∧ (((m.1 69 l1.toNatClampNeg) ≤ 0 → yP (xg xs) (d + 1) 373 31 [(0, .ref 58), (1, .int l1), (2, .int (m.1 85 l1.toNatClampNeg))] [.int ((-1) : Int32)] m Q) ∧ (¬ (m.1 69 l1.toNatClampNeg) ≤ 0 → (x_in l1 20000 = true ∧ (x_in (m.1 66 l1.toNatClampNeg) 20000 = true ∧ yP (xg xs) (d + 1) 373 31 [(0, .ref 58), (1, .int l1), (2, .int (m.1 85 l1.toNatClampNeg))] [.int (m.1 84 ((m.1 66 l1.toNatClampNeg).toNatClampNeg))] m Q))))))) : yP (xg xs) (d + 1) 373 0 [(0, .ref 58), (1, .int l1)] [] m Q := by
  refine y_st rfl rfl rfl rfl rfl (fun _ _ => rfl) ?_
  refine y_gf rfl rfl rfl rfl rfl ?_
  refine y_st rfl rfl rfl rfl rfl (fun _ _ => rfl) ?_
  show yP (xg xs) (d + 1) 373 5 [(0, .ref 58), (1, .int l1)] [.int l1, .ref 85] m Q
  refine y_iald rfl rfl rfl (H.1) ?_
  replace H := H.2
  refine y_st rfl rfl rfl rfl rfl (fun _ _ => rfl) ?_
  refine y_st rfl rfl rfl rfl rfl (fun _ _ => rfl) ?_
  refine y_gf rfl rfl rfl rfl rfl ?_
  refine y_st rfl rfl rfl rfl rfl (fun _ _ => rfl) ?_
  show yP (xg xs) (d + 1) 373 12 [(2, .int (m.1 85 l1.toNatClampNeg)), (0, .ref 58), (1, .int l1)] [.int l1, .ref 69] m Q
  refine y_iald rfl rfl rfl (H.1) ?_
  replace H := H.2
  show yP (xg xs) (d + 1) 373 13 [(2, .int (m.1 85 l1.toNatClampNeg)), (0, .ref 58), (1, .int l1)] [.int (m.1 69 l1.toNatClampNeg)] m Q
  refine y_zle (t := 30) rfl rfl rfl (fun h => ?_) (fun h => ?_)
  · replace H := H.1 h; clear h
    refine y_st rfl rfl rfl rfl rfl (fun _ _ => rfl) ?_
    show yP (xg xs) (d + 1) 373 31 [(2, .int (m.1 85 l1.toNatClampNeg)), (0, .ref 58), (1, .int l1)] [.int ((-1) : Int32)] m Q
    refine y_headS (l2 := [(0, .ref 58), (1, .int l1), (2, .int (m.1 85 l1.toNatClampNeg))]) [1, 2, 0] [0, 1, 2] [2, 0, 1] rfl rfl (by decide) rfl (by decide) ?_
    exact H
  · replace H := H.2 h; clear h
    refine y_st rfl rfl rfl rfl rfl (fun _ _ => rfl) ?_
    refine y_gf rfl rfl rfl rfl rfl ?_
    refine y_st rfl rfl rfl rfl rfl (fun _ _ => rfl) ?_
    refine y_gf rfl rfl rfl rfl rfl ?_
    refine y_st rfl rfl rfl rfl rfl (fun _ _ => rfl) ?_
    show yP (xg xs) (d + 1) 373 25 [(2, .int (m.1 85 l1.toNatClampNeg)), (0, .ref 58), (1, .int l1)] [.int l1, .ref 66, .ref 84] m Q
    refine y_iald rfl rfl rfl (H.1) ?_
    replace H := H.2
    show yP (xg xs) (d + 1) 373 26 [(2, .int (m.1 85 l1.toNatClampNeg)), (0, .ref 58), (1, .int l1)] [.int (m.1 66 l1.toNatClampNeg), .ref 84] m Q
    refine y_iald rfl rfl rfl (H.1) ?_
    replace H := H.2
    refine y_st rfl rfl rfl rfl rfl (fun _ _ => rfl) ?_
    show yP (xg xs) (d + 1) 373 31 [(2, .int (m.1 85 l1.toNatClampNeg)), (0, .ref 58), (1, .int l1)] [.int (m.1 84 ((m.1 66 l1.toNatClampNeg).toNatClampNeg))] m Q
    refine y_headS (l2 := [(0, .ref 58), (1, .int l1), (2, .int (m.1 85 l1.toNatClampNeg))]) [1, 2, 0] [0, 1, 2] [2, 0, 1] rfl rfl (by decide) rfl (by decide) ?_
    exact H
set_option maxRecDepth 20000 in
/-- CodeMakerModel.writeCall from 31 on -/
theorem w373_31 (xs : List Int32) (d : Nat) (l1 : Int32) (l2 : Int32) (s0 : Int32) (m : yM) (Q : Option Value → yM → Prop) (H : (x_in l1 20000 = true ∧ yP (xg xs) (d + 1) 373 46 [(0, .ref 58), (2, .int l2), (3, .int s0), (5, .int (0 : Int32)), (6, .int (m.1 66 l1.toNatClampNeg))] [] m Q)) : yP (xg xs) (d + 1) 373 31 [(0, .ref 58), (1, .int l1), (2, .int l2)] [.int s0] m Q := by
  refine y_st rfl rfl rfl rfl rfl (fun _ _ => rfl) ?_
  refine y_st rfl rfl rfl rfl rfl (fun _ _ => rfl) ?_
  refine y_st rfl rfl rfl rfl rfl (fun _ _ => rfl) ?_
  refine y_st rfl rfl rfl rfl rfl (fun _ _ => rfl) ?_
  refine y_st rfl rfl rfl rfl rfl (fun _ _ => rfl) ?_
  refine y_st rfl rfl rfl rfl rfl (fun _ _ => rfl) ?_
  refine y_gf rfl rfl rfl rfl rfl ?_
  refine y_st rfl rfl rfl rfl rfl (fun _ _ => rfl) ?_
  show yP (xg xs) (d + 1) 373 43 [(5, .int (0 : Int32)), (4, .int (0 : Int32)), (3, .int s0), (0, .ref 58), (1, .int l1), (2, .int l2)] [.int l1, .ref 66] m Q
  refine y_iald rfl rfl rfl (H.1) ?_
  replace H := H.2
  refine y_st rfl rfl rfl rfl rfl (fun _ _ => rfl) ?_
  show yP (xg xs) (d + 1) 373 46 [(6, .int (m.1 66 l1.toNatClampNeg)), (5, .int (0 : Int32)), (4, .int (0 : Int32)), (3, .int s0), (0, .ref 58), (1, .int l1), (2, .int l2)] [] m Q
  refine y_headS (l2 := [(0, .ref 58), (2, .int l2), (3, .int s0), (5, .int (0 : Int32)), (6, .int (m.1 66 l1.toNatClampNeg))]) [4, 6, 3, 1, 0] [0, 2, 3, 5, 6] [6, 5, 4, 3, 0, 1, 2] rfl rfl (by decide) rfl (by decide) ?_
  exact H
set_option maxRecDepth 20000 in
/-- CodeMakerModel.writeCall from 46 on -/
theorem w373_46 (xs : List Int32) (d : Nat) (l2 : Int32) (l3 : Int32) (l5 : Int32) (l6 : Int32) (m : yM) (Q : Option Value → yM → Prop) (H : ((l6 = ((-1) : Int32) → ((l2 < (100 : Int32) → ((¬ l2 = (4 : Int32) → ((l2 = 0 → yP (xg xs) (d + 1) 373 231 [(0, .ref 58), (2, .int l2), (3, .int l3)] [] m Q) ∧ (¬ l2 = 0 → ((l2 = (7 : Int32) → yP (xg xs) (d + 1) 373 231 [(0, .ref 58), (2, .int l2), (3, .int l3)] [] m Q) ∧ (¬ l2 = (7 : Int32) → ((¬ l2 = (9 : Int32) → ((l2 = (8 : Int32) → Q none m) ∧ (¬ l2 = (8 : Int32) → ((l2 = (1 : Int32) → yP (xg xs) (d + 1) 373 293 [] [.int (7 : Int32), .ref 58] m Q) ∧ (¬ l2 = (1 : Int32) → ((¬ l2 = (3 : Int32) → ((¬ l2 = (2 : Int32) → ((¬ l2 = (5 : Int32) → ((¬ l3 = (1 : Int32) → yP (xg xs) (d + 1) 373 340 [] [.int (22 : Int32), .int (7 : Int32), .ref 58] m Q) ∧ (l3 = (1 : Int32) → yP (xg xs) (d + 1) 373 340 [] [.int (20 : Int32), .int (7 : Int32), .ref 58] m Q))) ∧ (l2 = (5 : Int32) → ((¬ l3 = (1 : Int32) → yP (xg xs) (d + 1) 373 340 [] [.int (21 : Int32), .int (7 : Int32), .ref 58] m Q) ∧ (l3 = (1 : Int32) → yP (xg xs) (d + 1) 373 340 [] [.int (19 : Int32), .int (7 : Int32), .ref 58] m Q))))) ∧ (l2 = (2 : Int32) → yP (xg xs) (d + 1) 373 340 [] [.int (24 : Int32), .int (7 : Int32), .ref 58] m Q))) ∧ (l2 = (3 : Int32) → yP (xg xs) (d + 1) 373 293 [] [.int (7 : Int32), .ref 58] m Q))))))) ∧ (l2 = (9 : Int32) → yP (xg xs) (d + 1) 373 231 [(0, .ref 58), (2, .int l2), (3, .int l3)] [] m Q))))))) ∧ (l2 = (4 : Int32) → (yC (xg xs) d 369 [.ref 58, .int (9 : Int32), .int (0 : Int32), .int (0 : Int32), .int (0 : Int32)] m (fun v1 m1 => ∃ u1, v1 = some (Value.int u1) ∧ Q none m1))))) ∧ (¬ l2 < (100 : Int32) → (x_in (l2 - (99 : Int32)) 401 = true ∧ yP (xg xs) (d + 1) 373 115 [(0, .ref 58), (2, .int l2), (6, .int ((m.1 73 ((l2 - (99 : Int32)).toNatClampNeg)) - (1 : Int32)))] [] m Q)))) ∧ (¬ l6 = ((-1) : Int32) → (yC (xg xs) d 372 [.ref 58, .int l6] m (fun v2 m2 => v2 = none ∧ ((¬ l2 = (3 : Int32) → yP (xg xs) (d + 1) 373 84 [(0, .ref 58), (2, .int l2), (3, .int l3), (5, .int (l5 + (1 : Int32))), (6, .int l6)] [] m2 Q) ∧ (l2 = (3 : Int32) → ((¬ (l5 + (1 : Int32)) = (2 : Int32) → yP (xg xs) (d + 1) 373 84 [(0, .ref 58), (2, .int l2), (3, .int l3), (5, .int (l5 + (1 : Int32))), (6, .int l6)] [] m2 Q) ∧ ((l5 + (1 : Int32)) = (2 : Int32) → (yC (xg xs) d 369 [.ref 58, .int (7 : Int32), .int (24 : Int32), .int (0 : Int32), .int (0 : Int32)] m2 (fun v3 m3 => ∃ u3, v3 = some (Value.int u3) ∧ yP (xg xs) (d + 1) 373 84 [(0, .ref 58), (2, .int l2), (3, .int l3), (5, .int (l5 + (1 : Int32))), (6, .int l6)] [] m3 Q))))))))))) : yP (xg xs) (d + 1) 373 46 [(0, .ref 58), (2, .int l2), (3, .int l3), (5, .int l5), (6, .int l6)] [] m Q := by
  refine y_st rfl rfl rfl rfl rfl (fun _ _ => rfl) ?_
  refine y_st rfl rfl rfl rfl rfl (fun _ _ => rfl) ?_
  show yP (xg xs) (d + 1) 373 49 [(0, .ref 58), (2, .int l2), (3, .int l3), (5, .int l5), (6, .int l6)] [.int ((-1) : Int32), .int l6] m Q
  refine y_ieq (t := 96) rfl rfl rfl (fun h => ?_) (fun h => ?_)
  · replace H := H.1 h; clear h
    refine y_st rfl rfl rfl rfl rfl (fun _ _ => rfl) ?_
    refine y_st rfl rfl rfl rfl rfl (fun _ _ => rfl) ?_
    show yP (xg xs) (d + 1) 373 99 [(0, .ref 58), (2, .int l2), (3, .int l3), (5, .int l5), (6, .int l6)] [.int (100 : Int32), .int l2] m Q
    refine y_ilt (t := 196) rfl rfl rfl (fun h => ?_) (fun h => ?_)
    · replace H := H.1 h; clear h
      refine y_st rfl rfl rfl rfl rfl (fun _ _ => rfl) ?_
      refine y_st rfl rfl rfl rfl rfl (fun _ _ => rfl) ?_
      show yP (xg xs) (d + 1) 373 198 [(0, .ref 58), (2, .int l2), (3, .int l3), (5, .int l5), (6, .int l6)] [.int (4 : Int32), .int l2] m Q
      refine y_ine (t := 215) rfl rfl rfl (fun h => ?_) (fun h => ?_)
      · replace H := H.1 h; clear h
        refine y_st rfl rfl rfl rfl rfl (fun _ _ => rfl) ?_
        show yP (xg xs) (d + 1) 373 216 [(0, .ref 58), (2, .int l2), (3, .int l3), (5, .int l5), (6, .int l6)] [.int l2] m Q
        refine y_zeq (t := 231) rfl rfl rfl (fun h => ?_) (fun h => ?_)
        · replace H := H.1 h; clear h
          show yP (xg xs) (d + 1) 373 231 [(0, .ref 58), (2, .int l2), (3, .int l3), (5, .int l5), (6, .int l6)] [] m Q
          refine y_headS (l2 := [(0, .ref 58), (2, .int l2), (3, .int l3)]) [0, 1, 2] [0, 2, 3] [0, 2, 3, 5, 6] rfl rfl (by decide) rfl (by decide) ?_
          exact H
        · replace H := H.2 h; clear h
          refine y_st rfl rfl rfl rfl rfl (fun _ _ => rfl) ?_
          refine y_st rfl rfl rfl rfl rfl (fun _ _ => rfl) ?_
          show yP (xg xs) (d + 1) 373 222 [(0, .ref 58), (2, .int l2), (3, .int l3), (5, .int l5), (6, .int l6)] [.int (7 : Int32), .int l2] m Q
          refine y_ieq (t := 231) rfl rfl rfl (fun h => ?_) (fun h => ?_)
          · replace H := H.1 h; clear h
            show yP (xg xs) (d + 1) 373 231 [(0, .ref 58), (2, .int l2), (3, .int l3), (5, .int l5), (6, .int l6)] [] m Q
            refine y_headS (l2 := [(0, .ref 58), (2, .int l2), (3, .int l3)]) [0, 1, 2] [0, 2, 3] [0, 2, 3, 5, 6] rfl rfl (by decide) rfl (by decide) ?_
            exact H
          · replace H := H.2 h; clear h
            refine y_st rfl rfl rfl rfl rfl (fun _ _ => rfl) ?_
            refine y_st rfl rfl rfl rfl rfl (fun _ _ => rfl) ?_
            show yP (xg xs) (d + 1) 373 228 [(0, .ref 58), (2, .int l2), (3, .int l3), (5, .int l5), (6, .int l6)] [.int (9 : Int32), .int l2] m Q
            refine y_ine (t := 274) rfl rfl rfl (fun h => ?_) (fun h => ?_)
            · replace H := H.1 h; clear h
              refine y_st rfl rfl rfl rfl rfl (fun _ _ => rfl) ?_
              refine y_st rfl rfl rfl rfl rfl (fun _ _ => rfl) ?_
              show yP (xg xs) (d + 1) 373 277 [(0, .ref 58), (2, .int l2), (3, .int l3), (5, .int l5), (6, .int l6)] [.int (8 : Int32), .int l2] m Q
              refine y_ieq (t := 347) rfl rfl rfl (fun h => ?_) (fun h => ?_)
              · replace H := H.1 h; clear h
                show yP (xg xs) (d + 1) 373 347 [(0, .ref 58), (2, .int l2), (3, .int l3), (5, .int l5), (6, .int l6)] [] m Q
                exact y_ret rfl rfl rfl rfl H
              · replace H := H.2 h; clear h
                refine y_st rfl rfl rfl rfl rfl (fun _ _ => rfl) ?_
                refine y_st rfl rfl rfl rfl rfl (fun _ _ => rfl) ?_
                refine y_st rfl rfl rfl rfl rfl (fun _ _ => rfl) ?_
                refine y_st rfl rfl rfl rfl rfl (fun _ _ => rfl) ?_
                show yP (xg xs) (d + 1) 373 285 [(0, .ref 58), (2, .int l2), (3, .int l3), (5, .int l5), (6, .int l6)] [.int (1 : Int32), .int l2, .int (7 : Int32), .ref 58] m Q
                refine y_ieq (t := 293) rfl rfl rfl (fun h => ?_) (fun h => ?_)
                · replace H := H.1 h; clear h
                  show yP (xg xs) (d + 1) 373 293 [(0, .ref 58), (2, .int l2), (3, .int l3), (5, .int l5), (6, .int l6)] [.int (7 : Int32), .ref 58] m Q
                  refine y_headS (l2 := []) [] [] [0, 2, 3, 5, 6] rfl rfl (by decide) rfl (by decide) ?_
                  exact H
                · replace H := H.2 h; clear h
                  refine y_st rfl rfl rfl rfl rfl (fun _ _ => rfl) ?_
                  refine y_st rfl rfl rfl rfl rfl (fun _ _ => rfl) ?_
                  show yP (xg xs) (d + 1) 373 290 [(0, .ref 58), (2, .int l2), (3, .int l3), (5, .int l5), (6, .int l6)] [.int (3 : Int32), .int l2, .int (7 : Int32), .ref 58] m Q
                  refine y_ine (t := 298) rfl rfl rfl (fun h => ?_) (fun h => ?_)
                  · replace H := H.1 h; clear h
                    refine y_st rfl rfl rfl rfl rfl (fun _ _ => rfl) ?_
                    refine y_st rfl rfl rfl rfl rfl (fun _ _ => rfl) ?_
                    show yP (xg xs) (d + 1) 373 300 [(0, .ref 58), (2, .int l2), (3, .int l3), (5, .int l5), (6, .int l6)] [.int (2 : Int32), .int l2, .int (7 : Int32), .ref 58] m Q
                    refine y_ine (t := 308) rfl rfl rfl (fun h => ?_) (fun h => ?_)
                    · replace H := H.1 h; clear h
                      refine y_st rfl rfl rfl rfl rfl (fun _ _ => rfl) ?_
                      refine y_st rfl rfl rfl rfl rfl (fun _ _ => rfl) ?_
                      show yP (xg xs) (d + 1) 373 310 [(0, .ref 58), (2, .int l2), (3, .int l3), (5, .int l5), (6, .int l6)] [.int (5 : Int32), .int l2, .int (7 : Int32), .ref 58] m Q
                      refine y_ine (t := 328) rfl rfl rfl (fun h => ?_) (fun h => ?_)
                      · replace H := H.1 h; clear h
                        refine y_st rfl rfl rfl rfl rfl (fun _ _ => rfl) ?_
                        refine y_st rfl rfl rfl rfl rfl (fun _ _ => rfl) ?_
                        show yP (xg xs) (d + 1) 373 330 [(0, .ref 58), (2, .int l2), (3, .int l3), (5, .int l5), (6, .int l6)] [.int (1 : Int32), .int l3, .int (7 : Int32), .ref 58] m Q
                        refine y_ine (t := 338) rfl rfl rfl (fun h => ?_) (fun h => ?_)
                        · replace H := H.1 h; clear h
                          refine y_st rfl rfl rfl rfl rfl (fun _ _ => rfl) ?_
                          show yP (xg xs) (d + 1) 373 340 [(0, .ref 58), (2, .int l2), (3, .int l3), (5, .int l5), (6, .int l6)] [.int (22 : Int32), .int (7 : Int32), .ref 58] m Q
                          refine y_headS (l2 := []) [] [] [0, 2, 3, 5, 6] rfl rfl (by decide) rfl (by decide) ?_
                          exact H
                        · replace H := H.2 h; clear h
                          refine y_st rfl rfl rfl rfl rfl (fun _ _ => rfl) ?_
                          refine y_st rfl rfl rfl rfl rfl (fun _ _ => rfl) ?_
                          show yP (xg xs) (d + 1) 373 340 [(0, .ref 58), (2, .int l2), (3, .int l3), (5, .int l5), (6, .int l6)] [.int (20 : Int32), .int (7 : Int32), .ref 58] m Q
                          refine y_headS (l2 := []) [] [] [0, 2, 3, 5, 6] rfl rfl (by decide) rfl (by decide) ?_
                          exact H
                      · replace H := H.2 h; clear h
                        refine y_st rfl rfl rfl rfl rfl (fun _ _ => rfl) ?_
                        refine y_st rfl rfl rfl rfl rfl (fun _ _ => rfl) ?_
                        show yP (xg xs) (d + 1) 373 315 [(0, .ref 58), (2, .int l2), (3, .int l3), (5, .int l5), (6, .int l6)] [.int (1 : Int32), .int l3, .int (7 : Int32), .ref 58] m Q
                        refine y_ine (t := 323) rfl rfl rfl (fun h => ?_) (fun h => ?_)
                        · replace H := H.1 h; clear h
                          refine y_st rfl rfl rfl rfl rfl (fun _ _ => rfl) ?_
                          refine y_st rfl rfl rfl rfl rfl (fun _ _ => rfl) ?_
                          show yP (xg xs) (d + 1) 373 340 [(0, .ref 58), (2, .int l2), (3, .int l3), (5, .int l5), (6, .int l6)] [.int (21 : Int32), .int (7 : Int32), .ref 58] m Q
                          refine y_headS (l2 := []) [] [] [0, 2, 3, 5, 6] rfl rfl (by decide) rfl (by decide) ?_
                          exact H
                        · replace H := H.2 h; clear h
                          refine y_st rfl rfl rfl rfl rfl (fun _ _ => rfl) ?_
                          refine y_st rfl rfl rfl rfl rfl (fun _ _ => rfl) ?_
                          show yP (xg xs) (d + 1) 373 340 [(0, .ref 58), (2, .int l2), (3, .int l3), (5, .int l5), (6, .int l6)] [.int (19 : Int32), .int (7 : Int32), .ref 58] m Q
                          refine y_headS (l2 := []) [] [] [0, 2, 3, 5, 6] rfl rfl (by decide) rfl (by decide) ?_
                          exact H
                    · replace H := H.2 h; clear h
                      refine y_st rfl rfl rfl rfl rfl (fun _ _ => rfl) ?_
                      refine y_st rfl rfl rfl rfl rfl (fun _ _ => rfl) ?_
                      show yP (xg xs) (d + 1) 373 340 [(0, .ref 58), (2, .int l2), (3, .int l3), (5, .int l5), (6, .int l6)] [.int (24 : Int32), .int (7 : Int32), .ref 58] m Q
                      refine y_headS (l2 := []) [] [] [0, 2, 3, 5, 6] rfl rfl (by decide) rfl (by decide) ?_
                      exact H
                  · replace H := H.2 h; clear h
                    show yP (xg xs) (d + 1) 373 293 [(0, .ref 58), (2, .int l2), (3, .int l3), (5, .int l5), (6, .int l6)] [.int (7 : Int32), .ref 58] m Q
                    refine y_headS (l2 := []) [] [] [0, 2, 3, 5, 6] rfl rfl (by decide) rfl (by decide) ?_
                    exact H
            · replace H := H.2 h; clear h
              show yP (xg xs) (d + 1) 373 231 [(0, .ref 58), (2, .int l2), (3, .int l3), (5, .int l5), (6, .int l6)] [] m Q
              refine y_headS (l2 := [(0, .ref 58), (2, .int l2), (3, .int l3)]) [0, 1, 2] [0, 2, 3] [0, 2, 3, 5, 6] rfl rfl (by decide) rfl (by decide) ?_
              exact H
      · replace H := H.2 h; clear h
        refine y_st rfl rfl rfl rfl rfl (fun _ _ => rfl) ?_
        refine y_st rfl rfl rfl rfl rfl (fun _ _ => rfl) ?_
        refine y_st rfl rfl rfl rfl rfl (fun _ _ => rfl) ?_
        refine y_st rfl rfl rfl rfl rfl (fun _ _ => rfl) ?_
        refine y_st rfl rfl rfl rfl rfl (fun _ _ => rfl) ?_
        show yP (xg xs) (d + 1) 373 207 [(0, .ref 58), (2, .int l2), (3, .int l3), (5, .int l5), (6, .int l6)] [.int (0 : Int32), .int (0 : Int32), .int (0 : Int32), .int (9 : Int32), .ref 58] m Q
        refine y_call rfl rfl rfl rfl rfl (Nat.le_of_ble_eq_true rfl) (Nat.le_of_ble_eq_true rfl) rfl (by decide) H (fun v1 m1 H => ?_)
        obtain ⟨u1, rfl, H⟩ := H
        refine y_st rfl rfl rfl rfl rfl (fun _ _ => rfl) ?_
        refine y_st rfl rfl rfl rfl rfl (fun _ _ => rfl) ?_
        show yP (xg xs) (d + 1) 373 347 [(4, .int u1), (0, .ref 58), (2, .int l2), (3, .int l3), (5, .int l5), (6, .int l6)] [] m1 Q
        exact y_ret rfl rfl rfl rfl H
    · replace H := H.2 h; clear h
      refine y_st rfl rfl rfl rfl rfl (fun _ _ => rfl) ?_
      refine y_gf rfl rfl rfl rfl rfl ?_
      refine y_st rfl rfl rfl rfl rfl (fun _ _ => rfl) ?_
      refine y_st rfl rfl rfl rfl rfl (fun _ _ => rfl) ?_
      refine y_st rfl rfl rfl rfl rfl (fun _ _ => rfl) ?_
      show yP (xg xs) (d + 1) 373 110 [(0, .ref 58), (2, .int l2), (3, .int l3), (5, .int l5), (6, .int l6)] [.int (l2 - (99 : Int32)), .ref 73] m Q
      refine y_iald rfl rfl rfl (H.1) ?_
      replace H := H.2
      refine y_st rfl rfl rfl rfl rfl (fun _ _ => rfl) ?_
      refine y_st rfl rfl rfl rfl rfl (fun _ _ => rfl) ?_
      refine y_st rfl rfl rfl rfl rfl (fun _ _ => rfl) ?_
      show yP (xg xs) (d + 1) 373 115 [(6, .int ((m.1 73 ((l2 - (99 : Int32)).toNatClampNeg)) - (1 : Int32))), (0, .ref 58), (2, .int l2), (3, .int l3), (5, .int l5)] [] m Q
      refine y_headS (l2 := [(0, .ref 58), (2, .int l2), (6, .int ((m.1 73 ((l2 - (99 : Int32)).toNatClampNeg)) - (1 : Int32)))]) [1, 2, 0] [0, 2, 6] [6, 0, 2, 3, 5] rfl rfl (by decide) rfl (by decide) ?_
      exact H
  · replace H := H.2 h; clear h
    refine y_st rfl rfl rfl rfl rfl (fun _ _ => rfl) ?_
    refine y_st rfl rfl rfl rfl rfl (fun _ _ => rfl) ?_
    show yP (xg xs) (d + 1) 373 55 [(0, .ref 58), (2, .int l2), (3, .int l3), (5, .int l5), (6, .int l6)] [.int l6, .ref 58] m Q
    refine y_call rfl rfl rfl rfl rfl (Nat.le_of_ble_eq_true rfl) (Nat.le_of_ble_eq_true rfl) rfl (by decide) H (fun v2 m2 H => ?_)
    obtain ⟨rfl, H⟩ := H
    refine y_st rfl rfl rfl rfl rfl (fun _ _ => rfl) ?_
    refine y_st rfl rfl rfl rfl rfl (fun _ _ => rfl) ?_
    refine y_st rfl rfl rfl rfl rfl (fun _ _ => rfl) ?_
    show yP (xg xs) (d + 1) 373 63 [(5, .int (l5 + (1 : Int32))), (0, .ref 58), (2, .int l2), (3, .int l3), (6, .int l6)] [.int (3 : Int32), .int l2] m2 Q
    refine y_ine (t := 84) rfl rfl rfl (fun h => ?_) (fun h => ?_)
    · replace H := H.1 h; clear h
      show yP (xg xs) (d + 1) 373 84 [(5, .int (l5 + (1 : Int32))), (0, .ref 58), (2, .int l2), (3, .int l3), (6, .int l6)] [] m2 Q
      refine y_headS (l2 := [(0, .ref 58), (2, .int l2), (3, .int l3), (5, .int (l5 + (1 : Int32))), (6, .int l6)]) [1, 2, 3, 0, 4] [0, 2, 3, 5, 6] [5, 0, 2, 3, 6] rfl rfl (by decide) rfl (by decide) ?_
      exact H
    · replace H := H.2 h; clear h
      refine y_st rfl rfl rfl rfl rfl (fun _ _ => rfl) ?_
      refine y_st rfl rfl rfl rfl rfl (fun _ _ => rfl) ?_
      show yP (xg xs) (d + 1) 373 69 [(5, .int (l5 + (1 : Int32))), (0, .ref 58), (2, .int l2), (3, .int l3), (6, .int l6)] [.int (2 : Int32), .int (l5 + (1 : Int32))] m2 Q
      refine y_ine (t := 84) rfl rfl rfl (fun h => ?_) (fun h => ?_)
      · replace H := H.1 h; clear h
        show yP (xg xs) (d + 1) 373 84 [(5, .int (l5 + (1 : Int32))), (0, .ref 58), (2, .int l2), (3, .int l3), (6, .int l6)] [] m2 Q
        refine y_headS (l2 := [(0, .ref 58), (2, .int l2), (3, .int l3), (5, .int (l5 + (1 : Int32))), (6, .int l6)]) [1, 2, 3, 0, 4] [0, 2, 3, 5, 6] [5, 0, 2, 3, 6] rfl rfl (by decide) rfl (by decide) ?_
        exact H
      · replace H := H.2 h; clear h
        refine y_st rfl rfl rfl rfl rfl (fun _ _ => rfl) ?_
        refine y_st rfl rfl rfl rfl rfl (fun _ _ => rfl) ?_
        refine y_st rfl rfl rfl rfl rfl (fun _ _ => rfl) ?_
        refine y_st rfl rfl rfl rfl rfl (fun _ _ => rfl) ?_
        refine y_st rfl rfl rfl rfl rfl (fun _ _ => rfl) ?_
        show yP (xg xs) (d + 1) 373 79 [(5, .int (l5 + (1 : Int32))), (0, .ref 58), (2, .int l2), (3, .int l3), (6, .int l6)] [.int (0 : Int32), .int (0 : Int32), .int (24 : Int32), .int (7 : Int32), .ref 58] m2 Q
        refine y_call rfl rfl rfl rfl rfl (Nat.le_of_ble_eq_true rfl) (Nat.le_of_ble_eq_true rfl) rfl (by decide) H (fun v3 m3 H => ?_)
        obtain ⟨u3, rfl, H⟩ := H
        refine y_st rfl rfl rfl rfl rfl (fun _ _ => rfl) ?_
        show yP (xg xs) (d + 1) 373 84 [(4, .int u3), (5, .int (l5 + (1 : Int32))), (0, .ref 58), (2, .int l2), (3, .int l3), (6, .int l6)] [] m3 Q
        refine y_headS (l2 := [(0, .ref 58), (2, .int l2), (3, .int l3), (5, .int (l5 + (1 : Int32))), (6, .int l6)]) [2, 3, 4, 1, 5] [0, 2, 3, 5, 6] [4, 5, 0, 2, 3, 6] rfl rfl (by decide) rfl (by decide) ?_
        exact H
set_option maxRecDepth 20000 in
/-- CodeMakerModel.writeCall from 84 on -/
theorem w373_84 (xs : List Int32) (d : Nat) (l2 : Int32) (l3 : Int32) (l5 : Int32) (l6 : Int32) (m : yM) (Q : Option Value → yM → Prop) (H : (x_in l6 20000 = true ∧ yP (xg xs) (d + 1) 373 46 [(0, .ref 58), (2, .int l2), (3, .int l3), (5, .int l5), (6, .int (m.1 68 l6.toNatClampNeg))] [] m Q)) : yP (xg xs) (d + 1) 373 84 [(0, .ref 58), (2, .int l2), (3, .int l3), (5, .int l5), (6, .int l6)] [] m Q := by
  refine y_st rfl rfl rfl rfl rfl (fun _ _ => rfl) ?_
  refine y_gf rfl rfl rfl rfl rfl ?_
  refine y_st rfl rfl rfl rfl rfl (fun _ _ => rfl) ?_
  show yP (xg xs) (d + 1) 373 90 [(0, .ref 58), (2, .int l2), (3, .int l3), (5, .int l5), (6, .int l6)] [.int l6, .ref 68] m Q
  refine y_iald rfl rfl rfl (H.1) ?_
  replace H := H.2
  refine y_st rfl rfl rfl rfl rfl (fun _ _ => rfl) ?_
  refine y_st rfl rfl rfl rfl rfl (fun _ _ => rfl) ?_
  show yP (xg xs) (d + 1) 373 46 [(6, .int (m.1 68 l6.toNatClampNeg)), (0, .ref 58), (2, .int l2), (3, .int l3), (5, .int l5)] [] m Q
  refine y_headS (l2 := [(0, .ref 58), (2, .int l2), (3, .int l3), (5, .int l5), (6, .int (m.1 68 l6.toNatClampNeg))]) [1, 2, 3, 4, 0] [0, 2, 3, 5, 6] [6, 0, 2, 3, 5] rfl rfl (by decide) rfl (by decide) ?_
  exact H
set_option maxRecDepth 20000 in
/-- CodeMakerModel.writeCall from 115 on -/
theorem w373_115 (xs : List Int32) (d : Nat) (l2 : Int32) (l6 : Int32) (m : yM) (Q : Option Value → yM → Prop) (H : (x_in (l2 - (100 : Int32)) 401 = true ∧ ((l6 < (m.1 73 ((l2 - (100 : Int32)).toNatClampNeg)) → (yC (xg xs) d 369 [.ref 58, .int (16 : Int32), .int (l2 - (100 : Int32)), .int (0 : Int32), .int (0 : Int32)] m (fun v1 m1 => ∃ u1, v1 = some (Value.int u1) ∧ (yC (xg xs) d 369 [.ref 58, .int (5 : Int32), .int (l2 - (100 : Int32)), .int (0 : Int32), .int (0 : Int32)] m1 (fun v2 m2 => ∃ u2, v2 = some (Value.int u2) ∧ Q none m2))))) ∧ (¬ l6 < (m.1 73 ((l2 - (100 : Int32)).toNatClampNeg)) → (x_in l6 4700 = true ∧ ((¬ (m.1 81 l6.toNatClampNeg) = (1 : Int32) → yP (xg xs) (d + 1) 373 160 [(0, .ref 58), (2, .int l2), (6, .int l6)] [] m Q) ∧ ((m.1 81 l6.toNatClampNeg) = (1 : Int32) → (x_in l6 4700 = true ∧ (yC (xg xs) d 369 [.ref 58, .int (6 : Int32), .int (l2 - (100 : Int32)), .int (m.1 80 l6.toNatClampNeg), .int (0 : Int32)] m (fun v3 m3 => ∃ u3, v3 = some (Value.int u3) ∧ yP (xg xs) (d + 1) 373 160 [(0, .ref 58), (2, .int l2), (6, .int l6)] [] m3 Q)))))))))) : yP (xg xs) (d + 1) 373 115 [(0, .ref 58), (2, .int l2), (6, .int l6)] [] m Q := by
  refine y_st rfl rfl rfl rfl rfl (fun _ _ => rfl) ?_
  refine y_st rfl rfl rfl rfl rfl (fun _ _ => rfl) ?_
  refine y_gf rfl rfl rfl rfl rfl ?_
  refine y_st rfl rfl rfl rfl rfl (fun _ _ => rfl) ?_
  refine y_st rfl rfl rfl rfl rfl (fun _ _ => rfl) ?_
  refine y_st rfl rfl rfl rfl rfl (fun _ _ => rfl) ?_
  show yP (xg xs) (d + 1) 373 125 [(0, .ref 58), (2, .int l2), (6, .int l6)] [.int (l2 - (100 : Int32)), .ref 73, .int l6] m Q
  refine y_iald rfl rfl rfl (H.1) ?_
  replace H := H.2
  show yP (xg xs) (d + 1) 373 126 [(0, .ref 58), (2, .int l2), (6, .int l6)] [.int (m.1 73 ((l2 - (100 : Int32)).toNatClampNeg)), .int l6] m Q
  refine y_ilt (t := 166) rfl rfl rfl (fun h => ?_) (fun h => ?_)
  · replace H := H.1 h; clear h
    refine y_st rfl rfl rfl rfl rfl (fun _ _ => rfl) ?_
    refine y_st rfl rfl rfl rfl rfl (fun _ _ => rfl) ?_
    refine y_st rfl rfl rfl rfl rfl (fun _ _ => rfl) ?_
    refine y_st rfl rfl rfl rfl rfl (fun _ _ => rfl) ?_
    refine y_st rfl rfl rfl rfl rfl (fun _ _ => rfl) ?_
    refine y_st rfl rfl rfl rfl rfl (fun _ _ => rfl) ?_
    refine y_st rfl rfl rfl rfl rfl (fun _ _ => rfl) ?_
    show yP (xg xs) (d + 1) 373 175 [(0, .ref 58), (2, .int l2), (6, .int l6)] [.int (0 : Int32), .int (0 : Int32), .int (l2 - (100 : Int32)), .int (16 : Int32), .ref 58] m Q
    refine y_call rfl rfl rfl rfl rfl (Nat.le_of_ble_eq_true rfl) (Nat.le_of_ble_eq_true rfl) rfl (by decide) H (fun v1 m1 H => ?_)
    obtain ⟨u1, rfl, H⟩ := H
    refine y_st rfl rfl rfl rfl rfl (fun _ _ => rfl) ?_
    refine y_st rfl rfl rfl rfl rfl (fun _ _ => rfl) ?_
    refine y_st rfl rfl rfl rfl rfl (fun _ _ => rfl) ?_
    refine y_st rfl rfl rfl rfl rfl (fun _ _ => rfl) ?_
    refine y_st rfl rfl rfl rfl rfl (fun _ _ => rfl) ?_
    refine y_st rfl rfl rfl rfl rfl (fun _ _ => rfl) ?_
    refine y_st rfl rfl rfl rfl rfl (fun _ _ => rfl) ?_
    refine y_st rfl rfl rfl rfl rfl (fun _ _ => rfl) ?_
    show yP (xg xs) (d + 1) 373 188 [(4, .int u1), (0, .ref 58), (2, .int l2), (6, .int l6)] [.int (0 : Int32), .int (0 : Int32), .int (l2 - (100 : Int32)), .int (5 : Int32), .ref 58] m1 Q
    refine y_call rfl rfl rfl rfl rfl (Nat.le_of_ble_eq_true rfl) (Nat.le_of_ble_eq_true rfl) rfl (by decide) H (fun v2 m2 H => ?_)
    obtain ⟨u2, rfl, H⟩ := H
    refine y_st rfl rfl rfl rfl rfl (fun _ _ => rfl) ?_
    refine y_st rfl rfl rfl rfl rfl (fun _ _ => rfl) ?_
    show yP (xg xs) (d + 1) 373 347 [(4, .int u2), (0, .ref 58), (2, .int l2), (6, .int l6)] [] m2 Q
    exact y_ret rfl rfl rfl rfl H
  · replace H := H.2 h; clear h
    refine y_st rfl rfl rfl rfl rfl (fun _ _ => rfl) ?_
    refine y_gf rfl rfl rfl rfl rfl ?_
    refine y_st rfl rfl rfl rfl rfl (fun _ _ => rfl) ?_
    show yP (xg xs) (d + 1) 373 135 [(0, .ref 58), (2, .int l2), (6, .int l6)] [.int l6, .ref 81] m Q
    refine y_iald rfl rfl rfl (H.1) ?_
    replace H := H.2
    refine y_st rfl rfl rfl rfl rfl (fun _ _ => rfl) ?_
    show yP (xg xs) (d + 1) 373 137 [(0, .ref 58), (2, .int l2), (6, .int l6)] [.int (1 : Int32), .int (m.1 81 l6.toNatClampNeg)] m Q
    refine y_ine (t := 160) rfl rfl rfl (fun h => ?_) (fun h => ?_)
    · replace H := H.1 h; clear h
      show yP (xg xs) (d + 1) 373 160 [(0, .ref 58), (2, .int l2), (6, .int l6)] [] m Q
      exact H
    · replace H := H.2 h; clear h
      refine y_st rfl rfl rfl rfl rfl (fun _ _ => rfl) ?_
      refine y_st rfl rfl rfl rfl rfl (fun _ _ => rfl) ?_
      refine y_st rfl rfl rfl rfl rfl (fun _ _ => rfl) ?_
      refine y_st rfl rfl rfl rfl rfl (fun _ _ => rfl) ?_
      refine y_st rfl rfl rfl rfl rfl (fun _ _ => rfl) ?_
      refine y_st rfl rfl rfl rfl rfl (fun _ _ => rfl) ?_
      refine y_gf rfl rfl rfl rfl rfl ?_
      refine y_st rfl rfl rfl rfl rfl (fun _ _ => rfl) ?_
      show yP (xg xs) (d + 1) 373 153 [(0, .ref 58), (2, .int l2), (6, .int l6)] [.int l6, .ref 80, .int (l2 - (100 : Int32)), .int (6 : Int32), .ref 58] m Q
      refine y_iald rfl rfl rfl (H.1) ?_
      replace H := H.2
      refine y_st rfl rfl rfl rfl rfl (fun _ _ => rfl) ?_
      show yP (xg xs) (d + 1) 373 155 [(0, .ref 58), (2, .int l2), (6, .int l6)] [.int (0 : Int32), .int (m.1 80 l6.toNatClampNeg), .int (l2 - (100 : Int32)), .int (6 : Int32), .ref 58] m Q
      refine y_call rfl rfl rfl rfl rfl (Nat.le_of_ble_eq_true rfl) (Nat.le_of_ble_eq_true rfl) rfl (by decide) H (fun v3 m3 H => ?_)
      obtain ⟨u3, rfl, H⟩ := H
      refine y_st rfl rfl rfl rfl rfl (fun _ _ => rfl) ?_
      show yP (xg xs) (d + 1) 373 160 [(4, .int u3), (0, .ref 58), (2, .int l2), (6, .int l6)] [] m3 Q
      refine y_headS (l2 := [(0, .ref 58), (2, .int l2), (6, .int l6)]) [1, 2, 3] [0, 2, 6] [4, 0, 2, 6] rfl rfl (by decide) rfl (by decide) ?_
      exact H
set_option maxRecDepth 20000 in
/-- CodeMakerModel.writeCall from 160 on -/
theorem w373_160 (xs : List Int32) (d : Nat) (l2 : Int32) (l6 : Int32) (m : yM) (Q : Option Value → yM → Prop) (H : yP (xg xs) (d + 1) 373 115 [(0, .ref 58), (2, .int l2), (6, .int (l6 + ((-1) : Int32)))] [] m Q) : yP (xg xs) (d + 1) 373 160 [(0, .ref 58), (2, .int l2), (6, .int l6)] [] m Q := by
  refine y_st rfl rfl rfl rfl rfl (fun _ _ => rfl) ?_
  refine y_st rfl rfl rfl rfl rfl (fun _ _ => rfl) ?_
  show yP (xg xs) (d + 1) 373 115 [(6, .int (l6 + ((-1) : Int32))), (0, .ref 58), (2, .int l2)] [] m Q
  refine y_headS (l2 := [(0, .ref 58), (2, .int l2), (6, .int (l6 + ((-1) : Int32)))]) [1, 2, 0] [0, 2, 6] [6, 0, 2] rfl rfl (by decide) rfl (by decide) ?_
  exact H
set_option maxRecDepth 20000 in
/-- CodeMakerModel.writeCall from 231 on -/
theorem w373_231 (xs : List Int32) (d : Nat) (l2 : Int32) (l3 : Int32) (m : yM) (Q : Option Value → yM → Prop) (H : ((¬ l2 = 0 → ((¬ l2 = (7 : Int32) → yP (xg xs) (d + 1) 373 264 [] [.int (7 : Int32), .int (8 : Int32), .ref 58] m Q) ∧ (l2 = (7 : Int32) → yP (xg xs) (d + 1) 373 264 [] [.int (6 : Int32), .int (8 : Int32), .ref 58] m Q))) ∧ (l2 = 0 → ((¬ l3 = (1 : Int32) → yP (xg xs) (d + 1) 373 264 [] [.int (5 : Int32), .int (8 : Int32), .ref 58] m Q) ∧ (l3 = (1 : Int32) → yP (xg xs) (d + 1) 373 264 [] [.int (4 : Int32), .int (8 : Int32), .ref 58] m Q))))) : yP (xg xs) (d + 1) 373 231 [(0, .ref 58), (2, .int l2), (3, .int l3)] [] m Q := by
  refine y_st rfl rfl rfl rfl rfl (fun _ _ => rfl) ?_
  refine y_st rfl rfl rfl rfl rfl (fun _ _ => rfl) ?_
  refine y_st rfl rfl rfl rfl rfl (fun _ _ => rfl) ?_
  show yP (xg xs) (d + 1) 373 235 [(0, .ref 58), (2, .int l2), (3, .int l3)] [.int l2, .int (8 : Int32), .ref 58] m Q
  refine y_zne (t := 251) rfl rfl rfl (fun h => ?_) (fun h => ?_)
  · replace H := H.1 h; clear h
    refine y_st rfl rfl rfl rfl rfl (fun _ _ => rfl) ?_
    refine y_st rfl rfl rfl rfl rfl (fun _ _ => rfl) ?_
    show yP (xg xs) (d + 1) 373 254 [(0, .ref 58), (2, .int l2), (3, .int l3)] [.int (7 : Int32), .int l2, .int (8 : Int32), .ref 58] m Q
    refine y_ine (t := 262) rfl rfl rfl (fun h => ?_) (fun h => ?_)
    · replace H := H.1 h; clear h
      refine y_st rfl rfl rfl rfl rfl (fun _ _ => rfl) ?_
      show yP (xg xs) (d + 1) 373 264 [(0, .ref 58), (2, .int l2), (3, .int l3)] [.int (7 : Int32), .int (8 : Int32), .ref 58] m Q
      refine y_headS (l2 := []) [] [] [0, 2, 3] rfl rfl (by decide) rfl (by decide) ?_
      exact H
    · replace H := H.2 h; clear h
      refine y_st rfl rfl rfl rfl rfl (fun _ _ => rfl) ?_
      refine y_st rfl rfl rfl rfl rfl (fun _ _ => rfl) ?_
      show yP (xg xs) (d + 1) 373 264 [(0, .ref 58), (2, .int l2), (3, .int l3)] [.int (6 : Int32), .int (8 : Int32), .ref 58] m Q
      refine y_headS (l2 := []) [] [] [0, 2, 3] rfl rfl (by decide) rfl (by decide) ?_
      exact H
  · replace H := H.2 h; clear h
    refine y_st rfl rfl rfl rfl rfl (fun _ _ => rfl) ?_
    refine y_st rfl rfl rfl rfl rfl (fun _ _ => rfl) ?_
    show yP (xg xs) (d + 1) 373 240 [(0, .ref 58), (2, .int l2), (3, .int l3)] [.int (1 : Int32), .int l3, .int (8 : Int32), .ref 58] m Q
    refine y_ine (t := 247) rfl rfl rfl (fun h => ?_) (fun h => ?_)
    · replace H := H.1 h; clear h
      refine y_st rfl rfl rfl rfl rfl (fun _ _ => rfl) ?_
      refine y_st rfl rfl rfl rfl rfl (fun _ _ => rfl) ?_
      show yP (xg xs) (d + 1) 373 264 [(0, .ref 58), (2, .int l2), (3, .int l3)] [.int (5 : Int32), .int (8 : Int32), .ref 58] m Q
      refine y_headS (l2 := []) [] [] [0, 2, 3] rfl rfl (by decide) rfl (by decide) ?_
      exact H
    · replace H := H.2 h; clear h
      refine y_st rfl rfl rfl rfl rfl (fun _ _ => rfl) ?_
      refine y_st rfl rfl rfl rfl rfl (fun _ _ => rfl) ?_
      show yP (xg xs) (d + 1) 373 264 [(0, .ref 58), (2, .int l2), (3, .int l3)] [.int (4 : Int32), .int (8 : Int32), .ref 58] m Q
      refine y_headS (l2 := []) [] [] [0, 2, 3] rfl rfl (by decide) rfl (by decide) ?_
      exact H
set_option maxRecDepth 20000 in
/-- CodeMakerModel.writeCall from 264 on -/
theorem w373_264 (xs : List Int32) (d : Nat) (s1 : Int32) (s2 : Int32) (m : yM) (Q : Option Value → yM → Prop) (H : (yC (xg xs) d 369 [.ref 58, .int s1, .int s2, .int (0 : Int32), .int (0 : Int32)] m (fun v1 m1 => ∃ u1, v1 = some (Value.int u1) ∧ Q none m1))) : yP (xg xs) (d + 1) 373 264 [] [.int s2, .int s1, .ref 58] m Q := by
  refine y_st rfl rfl rfl rfl rfl (fun _ _ => rfl) ?_
  refine y_st rfl rfl rfl rfl rfl (fun _ _ => rfl) ?_
  show yP (xg xs) (d + 1) 373 266 [] [.int (0 : Int32), .int (0 : Int32), .int s2, .int s1, .ref 58] m Q
  refine y_call rfl rfl rfl rfl rfl (Nat.le_of_ble_eq_true rfl) (Nat.le_of_ble_eq_true rfl) rfl (by decide) H (fun v1 m1 H => ?_)
  obtain ⟨u1, rfl, H⟩ := H
  refine y_st rfl rfl rfl rfl rfl (fun _ _ => rfl) ?_
  refine y_st rfl rfl rfl rfl rfl (fun _ _ => rfl) ?_
  show yP (xg xs) (d + 1) 373 347 [(4, .int u1)] [] m1 Q
  exact y_ret rfl rfl rfl rfl H
set_option maxRecDepth 20000 in
/-- CodeMakerModel.writeCall from 293 on -/
theorem w373_293 (xs : List Int32) (d : Nat) (s1 : Int32) (m : yM) (Q : Option Value → yM → Prop) (H : yP (xg xs) (d + 1) 373 340 [] [.int (23 : Int32), .int s1, .ref 58] m Q) : yP (xg xs) (d + 1) 373 293 [] [.int s1, .ref 58] m Q := by
  refine y_st rfl rfl rfl rfl rfl (fun _ _ => rfl) ?_
  refine y_st rfl rfl rfl rfl rfl (fun _ _ => rfl) ?_
  show yP (xg xs) (d + 1) 373 340 [] [.int (23 : Int32), .int s1, .ref 58] m Q
  exact H
set_option maxRecDepth 20000 in
/-- CodeMakerModel.writeCall from 340 on -/
theorem w373_340 (xs : List Int32) (d : Nat) (s1 : Int32) (s2 : Int32) (m : yM) (Q : Option Value → yM → Prop) (H : (yC (xg xs) d 369 [.ref 58, .int s1, .int s2, .int (0 : Int32), .int (0 : Int32)] m (fun v1 m1 => ∃ u1, v1 = some (Value.int u1) ∧ Q none m1))) : yP (xg xs) (d + 1) 373 340 [] [.int s2, .int s1, .ref 58] m Q := by
  refine y_st rfl rfl rfl rfl rfl (fun _ _ => rfl) ?_
  refine y_st rfl rfl rfl rfl rfl (fun _ _ => rfl) ?_
  show yP (xg xs) (d + 1) 373 342 [] [.int (0 : Int32), .int (0 : Int32), .int s2, .int s1, .ref 58] m Q
  refine y_call rfl rfl rfl rfl rfl (Nat.le_of_ble_eq_true rfl) (Nat.le_of_ble_eq_true rfl) rfl (by decide) H (fun v1 m1 H => ?_)
  obtain ⟨u1, rfl, H⟩ := H
  refine y_st rfl rfl rfl rfl rfl (fun _ _ => rfl) ?_
  show yP (xg xs) (d + 1) 373 347 [(4, .int u1)] [] m1 Q
  exact y_ret rfl rfl rfl rfl H
set_option maxRecDepth 20000 in
/-- CodeMakerModel.writeWays from 0 on -/
theorem w374_0 (xs : List Int32) (d : Nat) (l1 : Int32) (l2 : Int32) (l3 : Int32) (m : yM) (Q : Option Value → yM → Prop) (H : yP (xg xs) (d + 1) 374 9 [(0, .ref 58), (1, .int l1), (3, .int l3), (4, .int (m.1 58 45)), (5, .int l2)] [] m Q) : yP (xg xs) (d + 1) 374 0 [(0, .ref 58), (1, .int l1), (2, .int l2), (3, .int l3)] [] m Q := by
  refine y_st rfl rfl rfl rfl rfl (fun _ _ => rfl) ?_
  refine y_gf rfl rfl rfl rfl rfl ?_
  refine y_st rfl rfl rfl rfl rfl (fun _ _ => rfl) ?_
  refine y_st rfl rfl rfl rfl rfl (fun _ _ => rfl) ?_
  refine y_st rfl rfl rfl rfl rfl (fun _ _ => rfl) ?_
  show yP (xg xs) (d + 1) 374 9 [(5, .int l2), (4, .int (m.1 58 45)), (0, .ref 58), (1, .int l1), (2, .int l2), (3, .int l3)] [] m Q
  refine y_headS (l2 := [(0, .ref 58), (1, .int l1), (3, .int l3), (4, .int (m.1 58 45)), (5, .int l2)]) [2, 3, 5, 1, 0] [0, 1, 3, 4, 5] [5, 4, 0, 1, 2, 3] rfl rfl (by decide) rfl (by decide) ?_
  exact H
set_option maxRecDepth 20000 in
/-- CodeMakerModel.writeWays from 9 on -/
theorem w374_9 (xs : List Int32) (d : Nat) (l1 : Int32) (l3 : Int32) (l4 : Int32) (l5 : Int32) (m : yM) (Q : Option Value → yM → Prop) (H : ((l5 = ((-1) : Int32) → yP (xg xs) (d + 1) 374 196 [(0, .ref 58), (1, .int l1), (4, .int l4)] [] m Q) ∧ (¬ l5 = ((-1) : Int32) → ((¬ (m.1 58 50) = 0 → yP (xg xs) (d + 1) 374 196 [(0, .ref 58), (1, .int l1), (4, .int l4)] [] m Q) ∧ ((m.1 58 50) = 0 → (x_in l5 20000 = true ∧ ((¬ (m.1 62 l5.toNatClampNeg) = (11 : Int32) → (x_in l5 20000 = true ∧ ((¬ (m.1 62 l5.toNatClampNeg) = (17 : Int32) → (x_in l5 20000 = true ∧ yP (xg xs) (d + 1) 374 81 [(0, .ref 58), (1, .int l1), (3, .int l3), (4, .int l4), (5, .int l5)] [.int (m.1 68 l5.toNatClampNeg)] m Q)) ∧ ((m.1 62 l5.toNatClampNeg) = (17 : Int32) → (x_in l5 20000 = true ∧ yP (xg xs) (d + 1) 374 81 [(0, .ref 58), (1, .int l1), (3, .int l3), (4, .int l4), (5, .int l5)] [.int (m.1 67 l5.toNatClampNeg)] m Q))))) ∧ ((m.1 62 l5.toNatClampNeg) = (11 : Int32) → (yC (xg xs) d 370 [.ref 58, .int l5] m (fun v1 m1 => v1 = none ∧ (x_in l5 20000 = true ∧ yP (xg xs) (d + 1) 374 9 [(0, .ref 58), (1, .int l1), (3, .int l3), (4, .int l4), (5, .int (m1.1 68 l5.toNatClampNeg))] [] m1 Q))))))))))) : yP (xg xs) (d + 1) 374 9 [(0, .ref 58), (1, .int l1), (3, .int l3), (4, .int l4), (5, .int l5)] [] m Q := by
  refine y_st rfl rfl rfl rfl rfl (fun _ _ => rfl) ?_
  refine y_st rfl rfl rfl rfl rfl (fun _ _ => rfl) ?_
  show yP (xg xs) (d + 1) 374 12 [(0, .ref 58), (1, .int l1), (3, .int l3), (4, .int l4), (5, .int l5)] [.int ((-1) : Int32), .int l5] m Q
  refine y_ieq (t := 196) rfl rfl rfl (fun h => ?_) (fun h => ?_)
  · replace H := H.1 h; clear h
    show yP (xg xs) (d + 1) 374 196 [(0, .ref 58), (1, .int l1), (3, .int l3), (4, .int l4), (5, .int l5)] [] m Q
    refine y_headS (l2 := [(0, .ref 58), (1, .int l1), (4, .int l4)]) [0, 1, 3] [0, 1, 4] [0, 1, 3, 4, 5] rfl rfl (by decide) rfl (by decide) ?_
    exact H
  · replace H := H.2 h; clear h
    refine y_st rfl rfl rfl rfl rfl (fun _ _ => rfl) ?_
    refine y_gf rfl rfl rfl rfl rfl ?_
    show yP (xg xs) (d + 1) 374 19 [(0, .ref 58), (1, .int l1), (3, .int l3), (4, .int l4), (5, .int l5)] [.int (m.1 58 50)] m Q
    refine y_zne (t := 196) rfl rfl rfl (fun h => ?_) (fun h => ?_)
    · replace H := H.1 h; clear h
      show yP (xg xs) (d + 1) 374 196 [(0, .ref 58), (1, .int l1), (3, .int l3), (4, .int l4), (5, .int l5)] [] m Q
      refine y_headS (l2 := [(0, .ref 58), (1, .int l1), (4, .int l4)]) [0, 1, 3] [0, 1, 4] [0, 1, 3, 4, 5] rfl rfl (by decide) rfl (by decide) ?_
      exact H
    · replace H := H.2 h; clear h
      refine y_st rfl rfl rfl rfl rfl (fun _ _ => rfl) ?_
      refine y_gf rfl rfl rfl rfl rfl ?_
      refine y_st rfl rfl rfl rfl rfl (fun _ _ => rfl) ?_
      show yP (xg xs) (d + 1) 374 28 [(0, .ref 58), (1, .int l1), (3, .int l3), (4, .int l4), (5, .int l5)] [.int l5, .ref 62] m Q
      refine y_iald rfl rfl rfl (H.1) ?_
      replace H := H.2
      refine y_st rfl rfl rfl rfl rfl (fun _ _ => rfl) ?_
      show yP (xg xs) (d + 1) 374 31 [(0, .ref 58), (1, .int l1), (3, .int l3), (4, .int l4), (5, .int l5)] [.int (11 : Int32), .int (m.1 62 l5.toNatClampNeg)] m Q
      refine y_ine (t := 52) rfl rfl rfl (fun h => ?_) (fun h => ?_)
      · replace H := H.1 h; clear h
        refine y_st rfl rfl rfl rfl rfl (fun _ _ => rfl) ?_
        refine y_gf rfl rfl rfl rfl rfl ?_
        refine y_st rfl rfl rfl rfl rfl (fun _ _ => rfl) ?_
        show yP (xg xs) (d + 1) 374 58 [(0, .ref 58), (1, .int l1), (3, .int l3), (4, .int l4), (5, .int l5)] [.int l5, .ref 62] m Q
        refine y_iald rfl rfl rfl (H.1) ?_
        replace H := H.2
        refine y_st rfl rfl rfl rfl rfl (fun _ _ => rfl) ?_
        show yP (xg xs) (d + 1) 374 61 [(0, .ref 58), (1, .int l1), (3, .int l3), (4, .int l4), (5, .int l5)] [.int (17 : Int32), .int (m.1 62 l5.toNatClampNeg)] m Q
        refine y_ine (t := 74) rfl rfl rfl (fun h => ?_) (fun h => ?_)
        · replace H := H.1 h; clear h
          refine y_st rfl rfl rfl rfl rfl (fun _ _ => rfl) ?_
          refine y_gf rfl rfl rfl rfl rfl ?_
          refine y_st rfl rfl rfl rfl rfl (fun _ _ => rfl) ?_
          show yP (xg xs) (d + 1) 374 80 [(0, .ref 58), (1, .int l1), (3, .int l3), (4, .int l4), (5, .int l5)] [.int l5, .ref 68] m Q
          refine y_iald rfl rfl rfl (H.1) ?_
          replace H := H.2
          show yP (xg xs) (d + 1) 374 81 [(0, .ref 58), (1, .int l1), (3, .int l3), (4, .int l4), (5, .int l5)] [.int (m.1 68 l5.toNatClampNeg)] m Q
          exact H
        · replace H := H.2 h; clear h
          refine y_st rfl rfl rfl rfl rfl (fun _ _ => rfl) ?_
          refine y_gf rfl rfl rfl rfl rfl ?_
          refine y_st rfl rfl rfl rfl rfl (fun _ _ => rfl) ?_
          show yP (xg xs) (d + 1) 374 70 [(0, .ref 58), (1, .int l1), (3, .int l3), (4, .int l4), (5, .int l5)] [.int l5, .ref 67] m Q
          refine y_iald rfl rfl rfl (H.1) ?_
          replace H := H.2
          refine y_st rfl rfl rfl rfl rfl (fun _ _ => rfl) ?_
          show yP (xg xs) (d + 1) 374 81 [(0, .ref 58), (1, .int l1), (3, .int l3), (4, .int l4), (5, .int l5)] [.int (m.1 67 l5.toNatClampNeg)] m Q
          exact H
      · replace H := H.2 h; clear h
        refine y_st rfl rfl rfl rfl rfl (fun _ _ => rfl) ?_
        refine y_st rfl rfl rfl rfl rfl (fun _ _ => rfl) ?_
        show yP (xg xs) (d + 1) 374 37 [(0, .ref 58), (1, .int l1), (3, .int l3), (4, .int l4), (5, .int l5)] [.int l5, .ref 58] m Q
        refine y_call rfl rfl rfl rfl rfl (Nat.le_of_ble_eq_true rfl) (Nat.le_of_ble_eq_true rfl) rfl (by decide) H (fun v1 m1 H => ?_)
        obtain ⟨rfl, H⟩ := H
        refine y_st rfl rfl rfl rfl rfl (fun _ _ => rfl) ?_
        refine y_gf rfl rfl rfl rfl rfl ?_
        refine y_st rfl rfl rfl rfl rfl (fun _ _ => rfl) ?_
        show yP (xg xs) (d + 1) 374 46 [(0, .ref 58), (1, .int l1), (3, .int l3), (4, .int l4), (5, .int l5)] [.int l5, .ref 68] m1 Q
        refine y_iald rfl rfl rfl (H.1) ?_
        replace H := H.2
        refine y_st rfl rfl rfl rfl rfl (fun _ _ => rfl) ?_
        refine y_st rfl rfl rfl rfl rfl (fun _ _ => rfl) ?_
        show yP (xg xs) (d + 1) 374 9 [(5, .int (m1.1 68 l5.toNatClampNeg)), (0, .ref 58), (1, .int l1), (3, .int l3), (4, .int l4)] [] m1 Q
        refine y_headS (l2 := [(0, .ref 58), (1, .int l1), (3, .int l3), (4, .int l4), (5, .int (m1.1 68 l5.toNatClampNeg))]) [1, 2, 3, 4, 0] [0, 1, 3, 4, 5] [5, 0, 1, 3, 4] rfl rfl (by decide) rfl (by decide) ?_
        exact H
set_option maxRecDepth 20000 in
/-- CodeMakerModel.writeWays from 81 on -/
theorem w374_81 (xs : List Int32) (d : Nat) (l1 : Int32) (l3 : Int32) (l4 : Int32) (l5 : Int32) (s0 : Int32) (m : yM) (Q : Option Value → yM → Prop) (H : (x_in l5 20000 = true ∧ ((¬ (m.1 62 l5.toNatClampNeg) = (17 : Int32) → (x_in s0 20000 = true ∧ yP (xg xs) (d + 1) 374 112 [(0, .ref 58), (1, .int l1), (3, .int l3), (4, .int l4), (5, .int l5), (6, .int s0)] [.int (m.1 68 s0.toNatClampNeg)] m Q)) ∧ ((m.1 62 l5.toNatClampNeg) = (17 : Int32) → (x_in l5 20000 = true ∧ yP (xg xs) (d + 1) 374 112 [(0, .ref 58), (1, .int l1), (3, .int l3), (4, .int l4), (5, .int l5), (6, .int s0)] [.int (m.1 68 l5.toNatClampNeg)] m Q))))) : yP (xg xs) (d + 1) 374 81 [(0, .ref 58), (1, .int l1), (3, .int l3), (4, .int l4), (5, .int l5)] [.int s0] m Q := by
  refine y_st rfl rfl rfl rfl rfl (fun _ _ => rfl) ?_
  refine y_st rfl rfl rfl rfl rfl (fun _ _ => rfl) ?_
  refine y_gf rfl rfl rfl rfl rfl ?_
  refine y_st rfl rfl rfl rfl rfl (fun _ _ => rfl) ?_
  show yP (xg xs) (d + 1) 374 89 [(6, .int s0), (0, .ref 58), (1, .int l1), (3, .int l3), (4, .int l4), (5, .int l5)] [.int l5, .ref 62] m Q
  refine y_iald rfl rfl rfl (H.1) ?_
  replace H := H.2
  refine y_st rfl rfl rfl rfl rfl (fun _ _ => rfl) ?_
  show yP (xg xs) (d + 1) 374 92 [(6, .int s0), (0, .ref 58), (1, .int l1), (3, .int l3), (4, .int l4), (5, .int l5)] [.int (17 : Int32), .int (m.1 62 l5.toNatClampNeg)] m Q
  refine y_ine (t := 105) rfl rfl rfl (fun h => ?_) (fun h => ?_)
  · replace H := H.1 h; clear h
    refine y_st rfl rfl rfl rfl rfl (fun _ _ => rfl) ?_
    refine y_gf rfl rfl rfl rfl rfl ?_
    refine y_st rfl rfl rfl rfl rfl (fun _ _ => rfl) ?_
    show yP (xg xs) (d + 1) 374 111 [(6, .int s0), (0, .ref 58), (1, .int l1), (3, .int l3), (4, .int l4), (5, .int l5)] [.int s0, .ref 68] m Q
    refine y_iald rfl rfl rfl (H.1) ?_
    replace H := H.2
    show yP (xg xs) (d + 1) 374 112 [(6, .int s0), (0, .ref 58), (1, .int l1), (3, .int l3), (4, .int l4), (5, .int l5)] [.int (m.1 68 s0.toNatClampNeg)] m Q
    refine y_headS (l2 := [(0, .ref 58), (1, .int l1), (3, .int l3), (4, .int l4), (5, .int l5), (6, .int s0)]) [1, 2, 3, 4, 5, 0] [0, 1, 3, 4, 5, 6] [6, 0, 1, 3, 4, 5] rfl rfl (by decide) rfl (by decide) ?_
    exact H
  · replace H := H.2 h; clear h
    refine y_st rfl rfl rfl rfl rfl (fun _ _ => rfl) ?_
    refine y_gf rfl rfl rfl rfl rfl ?_
    refine y_st rfl rfl rfl rfl rfl (fun _ _ => rfl) ?_
    show yP (xg xs) (d + 1) 374 101 [(6, .int s0), (0, .ref 58), (1, .int l1), (3, .int l3), (4, .int l4), (5, .int l5)] [.int l5, .ref 68] m Q
    refine y_iald rfl rfl rfl (H.1) ?_
    replace H := H.2
    refine y_st rfl rfl rfl rfl rfl (fun _ _ => rfl) ?_
    show yP (xg xs) (d + 1) 374 112 [(6, .int s0), (0, .ref 58), (1, .int l1), (3, .int l3), (4, .int l4), (5, .int l5)] [.int (m.1 68 l5.toNatClampNeg)] m Q
    refine y_headS (l2 := [(0, .ref 58), (1, .int l1), (3, .int l3), (4, .int l4), (5, .int l5), (6, .int s0)]) [1, 2, 3, 4, 5, 0] [0, 1, 3, 4, 5, 6] [6, 0, 1, 3, 4, 5] rfl rfl (by decide) rfl (by decide) ?_
    exact H
set_option maxRecDepth 20000 in
/-- CodeMakerModel.writeWays from 112 on -/
theorem w374_112 (xs : List Int32) (d : Nat) (l1 : Int32) (l3 : Int32) (l4 : Int32) (l5 : Int32) (l6 : Int32) (s0 : Int32) (m : yM) (Q : Option Value → yM → Prop) (H : (x_in l5 20000 = true ∧ ((¬ (m.1 62 l5.toNatClampNeg) = (17 : Int32) → (yC (xg xs) d 372 [.ref 58, .int l5] m (fun v1 m1 => v1 = none ∧ yP (xg xs) (d + 1) 374 142 [(0, .ref 58), (1, .int l1), (3, .int l3), (4, .int l4), (6, .int l6), (7, .int s0)] [] m1 Q))) ∧ ((m.1 62 l5.toNatClampNeg) = (17 : Int32) → (yC (xg xs) d 375 [.ref 58, .int l5, .int l3] m (fun v2 m2 => v2 = none ∧ yP (xg xs) (d + 1) 374 142 [(0, .ref 58), (1, .int l1), (3, .int l3), (4, .int l4), (6, .int l6), (7, .int s0)] [] m2 Q)))))) : yP (xg xs) (d + 1) 374 112 [(0, .ref 58), (1, .int l1), (3, .int l3), (4, .int l4), (5, .int l5), (6, .int l6)] [.int s0] m Q := by
  refine y_st rfl rfl rfl rfl rfl (fun _ _ => rfl) ?_
  refine y_st rfl rfl rfl rfl rfl (fun _ _ => rfl) ?_
  refine y_gf rfl rfl rfl rfl rfl ?_
  refine y_st rfl rfl rfl rfl rfl (fun _ _ => rfl) ?_
  show yP (xg xs) (d + 1) 374 120 [(7, .int s0), (0, .ref 58), (1, .int l1), (3, .int l3), (4, .int l4), (5, .int l5), (6, .int l6)] [.int l5, .ref 62] m Q
  refine y_iald rfl rfl rfl (H.1) ?_
  replace H := H.2
  refine y_st rfl rfl rfl rfl rfl (fun _ _ => rfl) ?_
  show yP (xg xs) (d + 1) 374 123 [(7, .int s0), (0, .ref 58), (1, .int l1), (3, .int l3), (4, .int l4), (5, .int l5), (6, .int l6)] [.int (17 : Int32), .int (m.1 62 l5.toNatClampNeg)] m Q
  refine y_ine (t := 136) rfl rfl rfl (fun h => ?_) (fun h => ?_)
  · replace H := H.1 h; clear h
    refine y_st rfl rfl rfl rfl rfl (fun _ _ => rfl) ?_
    refine y_st rfl rfl rfl rfl rfl (fun _ _ => rfl) ?_
    show yP (xg xs) (d + 1) 374 139 [(7, .int s0), (0, .ref 58), (1, .int l1), (3, .int l3), (4, .int l4), (5, .int l5), (6, .int l6)] [.int l5, .ref 58] m Q
    refine y_call rfl rfl rfl rfl rfl (Nat.le_of_ble_eq_true rfl) (Nat.le_of_ble_eq_true rfl) rfl (by decide) H (fun v1 m1 H => ?_)
    obtain ⟨rfl, H⟩ := H
    show yP (xg xs) (d + 1) 374 142 [(7, .int s0), (0, .ref 58), (1, .int l1), (3, .int l3), (4, .int l4), (5, .int l5), (6, .int l6)] [] m1 Q
    refine y_headS (l2 := [(0, .ref 58), (1, .int l1), (3, .int l3), (4, .int l4), (6, .int l6), (7, .int s0)]) [1, 2, 3, 4, 6, 0] [0, 1, 3, 4, 6, 7] [7, 0, 1, 3, 4, 5, 6] rfl rfl (by decide) rfl (by decide) ?_
    exact H
  · replace H := H.2 h; clear h
    refine y_st rfl rfl rfl rfl rfl (fun _ _ => rfl) ?_
    refine y_st rfl rfl rfl rfl rfl (fun _ _ => rfl) ?_
    refine y_st rfl rfl rfl rfl rfl (fun _ _ => rfl) ?_
    show yP (xg xs) (d + 1) 374 130 [(7, .int s0), (0, .ref 58), (1, .int l1), (3, .int l3), (4, .int l4), (5, .int l5), (6, .int l6)] [.int l3, .int l5, .ref 58] m Q
    refine y_call rfl rfl rfl rfl rfl (Nat.le_of_ble_eq_true rfl) (Nat.le_of_ble_eq_true rfl) rfl (by decide) H (fun v2 m2 H => ?_)
    obtain ⟨rfl, H⟩ := H
    refine y_st rfl rfl rfl rfl rfl (fun _ _ => rfl) ?_
    show yP (xg xs) (d + 1) 374 142 [(7, .int s0), (0, .ref 58), (1, .int l1), (3, .int l3), (4, .int l4), (5, .int l5), (6, .int l6)] [] m2 Q
    refine y_headS (l2 := [(0, .ref 58), (1, .int l1), (3, .int l3), (4, .int l4), (6, .int l6), (7, .int s0)]) [1, 2, 3, 4, 6, 0] [0, 1, 3, 4, 6, 7] [7, 0, 1, 3, 4, 5, 6] rfl rfl (by decide) rfl (by decide) ?_
    exact H
set_option maxRecDepth 20000 in
/-- CodeMakerModel.writeWays from 142 on -/
theorem w374_142 (xs : List Int32) (d : Nat) (l1 : Int32) (l3 : Int32) (l4 : Int32) (l6 : Int32) (l7 : Int32) (m : yM) (Q : Option Value → yM → Prop) (H : (yC (xg xs) d 369 [.ref 58, .int (11 : Int32), .int (0 : Int32), .int (0 : Int32), .int (0 : Int32)] m (fun v1 m1 => ∃ u1, v1 = some (Value.int u1) ∧ (yC (xg xs) d 370 [.ref 58, .int l6] m1 (fun v2 m2 => v2 = none ∧ ((l7 = ((-1) : Int32) → yP (xg xs) (d + 1) 374 178 [(0, .ref 58), (1, .int l1), (3, .int l3), (4, .int l4), (7, .int l7), (8, .int u1)] [] m2 Q) ∧ (¬ l7 = ((-1) : Int32) → (yC (xg xs) d 369 [.ref 58, .int (10 : Int32), .int (((-1) : Int32) - l1), .int (0 : Int32), .int (0 : Int32)] m2 (fun v3 m3 => ∃ u3, v3 = some (Value.int u3) ∧ yP (xg xs) (d + 1) 374 178 [(0, .ref 58), (1, .int l1), (3, .int l3), (4, .int l4), (7, .int l7), (8, .int u1)] [] m3 Q))))))))) : yP (xg xs) (d + 1) 374 142 [(0, .ref 58), (1, .int l1), (3, .int l3), (4, .int l4), (6, .int l6), (7, .int l7)] [] m Q := by
  refine y_st rfl rfl rfl rfl rfl (fun _ _ => rfl) ?_
  refine y_st rfl rfl rfl rfl rfl (fun _ _ => rfl) ?_
  refine y_st rfl rfl rfl rfl rfl (fun _ _ => rfl) ?_
  refine y_st rfl rfl rfl rfl rfl (fun _ _ => rfl) ?_
  refine y_st rfl rfl rfl rfl rfl (fun _ _ => rfl) ?_
  show yP (xg xs) (d + 1) 374 148 [(0, .ref 58), (1, .int l1), (3, .int l3), (4, .int l4), (6, .int l6), (7, .int l7)] [.int (0 : Int32), .int (0 : Int32), .int (0 : Int32), .int (11 : Int32), .ref 58] m Q
  refine y_call rfl rfl rfl rfl rfl (Nat.le_of_ble_eq_true rfl) (Nat.le_of_ble_eq_true rfl) rfl (by decide) H (fun v1 m1 H => ?_)
  obtain ⟨u1, rfl, H⟩ := H
  refine y_st rfl rfl rfl rfl rfl (fun _ _ => rfl) ?_
  refine y_st rfl rfl rfl rfl rfl (fun _ _ => rfl) ?_
  refine y_st rfl rfl rfl rfl rfl (fun _ _ => rfl) ?_
  show yP (xg xs) (d + 1) 374 156 [(8, .int u1), (0, .ref 58), (1, .int l1), (3, .int l3), (4, .int l4), (6, .int l6), (7, .int l7)] [.int l6, .ref 58] m1 Q
  refine y_call rfl rfl rfl rfl rfl (Nat.le_of_ble_eq_true rfl) (Nat.le_of_ble_eq_true rfl) rfl (by decide) H (fun v2 m2 H => ?_)
  obtain ⟨rfl, H⟩ := H
  refine y_st rfl rfl rfl rfl rfl (fun _ _ => rfl) ?_
  refine y_st rfl rfl rfl rfl rfl (fun _ _ => rfl) ?_
  show yP (xg xs) (d + 1) 374 162 [(8, .int u1), (0, .ref 58), (1, .int l1), (3, .int l3), (4, .int l4), (6, .int l6), (7, .int l7)] [.int ((-1) : Int32), .int l7] m2 Q
  refine y_ieq (t := 178) rfl rfl rfl (fun h => ?_) (fun h => ?_)
  · replace H := H.1 h; clear h
    show yP (xg xs) (d + 1) 374 178 [(8, .int u1), (0, .ref 58), (1, .int l1), (3, .int l3), (4, .int l4), (6, .int l6), (7, .int l7)] [] m2 Q
    refine y_headS (l2 := [(0, .ref 58), (1, .int l1), (3, .int l3), (4, .int l4), (7, .int l7), (8, .int u1)]) [1, 2, 3, 4, 6, 0] [0, 1, 3, 4, 7, 8] [8, 0, 1, 3, 4, 6, 7] rfl rfl (by decide) rfl (by decide) ?_
    exact H
  · replace H := H.2 h; clear h
    refine y_st rfl rfl rfl rfl rfl (fun _ _ => rfl) ?_
    refine y_st rfl rfl rfl rfl rfl (fun _ _ => rfl) ?_
    refine y_st rfl rfl rfl rfl rfl (fun _ _ => rfl) ?_
    refine y_st rfl rfl rfl rfl rfl (fun _ _ => rfl) ?_
    refine y_st rfl rfl rfl rfl rfl (fun _ _ => rfl) ?_
    refine y_st rfl rfl rfl rfl rfl (fun _ _ => rfl) ?_
    refine y_st rfl rfl rfl rfl rfl (fun _ _ => rfl) ?_
    show yP (xg xs) (d + 1) 374 173 [(8, .int u1), (0, .ref 58), (1, .int l1), (3, .int l3), (4, .int l4), (6, .int l6), (7, .int l7)] [.int (0 : Int32), .int (0 : Int32), .int (((-1) : Int32) - l1), .int (10 : Int32), .ref 58] m2 Q
    refine y_call rfl rfl rfl rfl rfl (Nat.le_of_ble_eq_true rfl) (Nat.le_of_ble_eq_true rfl) rfl (by decide) H (fun v3 m3 H => ?_)
    obtain ⟨u3, rfl, H⟩ := H
    refine y_st rfl rfl rfl rfl rfl (fun _ _ => rfl) ?_
    show yP (xg xs) (d + 1) 374 178 [(9, .int u3), (8, .int u1), (0, .ref 58), (1, .int l1), (3, .int l3), (4, .int l4), (6, .int l6), (7, .int l7)] [] m3 Q
    refine y_headS (l2 := [(0, .ref 58), (1, .int l1), (3, .int l3), (4, .int l4), (7, .int l7), (8, .int u1)]) [2, 3, 4, 5, 7, 1] [0, 1, 3, 4, 7, 8] [9, 8, 0, 1, 3, 4, 6, 7] rfl rfl (by decide) rfl (by decide) ?_
    exact H
set_option maxRecDepth 20000 in
/-- CodeMakerModel.writeWays from 178 on -/
theorem w374_178 (xs : List Int32) (d : Nat) (l1 : Int32) (l3 : Int32) (l4 : Int32) (l7 : Int32) (l8 : Int32) (m : yM) (Q : Option Value → yM → Prop) (H : (yC (xg xs) d 376 [.ref 58] m (fun v1 m1 => ∃ u1, v1 = some (Value.int u1) ∧ (x_in l8 3001 = true ∧ yP (xg xs) (d + 1) 374 9 [(0, .ref 58), (1, .int l1), (3, .int l3), (4, .int l4), (5, .int l7)] [] (y_si m1 90 l8.toNatClampNeg u1) Q)))) : yP (xg xs) (d + 1) 374 178 [(0, .ref 58), (1, .int l1), (3, .int l3), (4, .int l4), (7, .int l7), (8, .int l8)] [] m Q := by
  refine y_st rfl rfl rfl rfl rfl (fun _ _ => rfl) ?_
  refine y_gf rfl rfl rfl rfl rfl ?_
  refine y_st rfl rfl rfl rfl rfl (fun _ _ => rfl) ?_
  refine y_st rfl rfl rfl rfl rfl (fun _ _ => rfl) ?_
  show yP (xg xs) (d + 1) 374 185 [(0, .ref 58), (1, .int l1), (3, .int l3), (4, .int l4), (7, .int l7), (8, .int l8)] [.ref 58, .int l8, .ref 90] m Q
  refine y_call rfl rfl rfl rfl rfl (Nat.le_of_ble_eq_true rfl) (Nat.le_of_ble_eq_true rfl) rfl (by decide) H (fun v1 m1 H => ?_)
  obtain ⟨u1, rfl, H⟩ := H
  show yP (xg xs) (d + 1) 374 188 [(0, .ref 58), (1, .int l1), (3, .int l3), (4, .int l4), (7, .int l7), (8, .int l8)] [.int u1, .int l8, .ref 90] m1 Q
  refine y_iast rfl rfl rfl (H.1) ?_
  replace H := H.2
  refine y_st rfl rfl rfl rfl rfl (fun _ _ => rfl) ?_
  refine y_st rfl rfl rfl rfl rfl (fun _ _ => rfl) ?_
  refine y_st rfl rfl rfl rfl rfl (fun _ _ => rfl) ?_
  show yP (xg xs) (d + 1) 374 9 [(5, .int l7), (0, .ref 58), (1, .int l1), (3, .int l3), (4, .int l4), (7, .int l7), (8, .int l8)] [] (y_si m1 90 l8.toNatClampNeg u1) Q
  refine y_headS (l2 := [(0, .ref 58), (1, .int l1), (3, .int l3), (4, .int l4), (5, .int l7)]) [1, 2, 3, 4, 0] [0, 1, 3, 4, 5] [5, 0, 1, 3, 4, 7, 8] rfl rfl (by decide) rfl (by decide) ?_
  exact H
set_option maxRecDepth 20000 in
/-- CodeMakerModel.writeWays from 196 on -/
theorem w374_196 (xs : List Int32) (d : Nat) (l1 : Int32) (l4 : Int32) (m : yM) (Q : Option Value → yM → Prop) (H : yP (xg xs) (d + 1) 374 200 [(0, .ref 58), (1, .int l1), (6, .int l4)] [] m Q) : yP (xg xs) (d + 1) 374 196 [(0, .ref 58), (1, .int l1), (4, .int l4)] [] m Q := by
  refine y_st rfl rfl rfl rfl rfl (fun _ _ => rfl) ?_
  refine y_st rfl rfl rfl rfl rfl (fun _ _ => rfl) ?_
  show yP (xg xs) (d + 1) 374 200 [(6, .int l4), (0, .ref 58), (1, .int l1), (4, .int l4)] [] m Q
  refine y_headS (l2 := [(0, .ref 58), (1, .int l1), (6, .int l4)]) [1, 2, 0] [0, 1, 6] [6, 0, 1, 4] rfl rfl (by decide) rfl (by decide) ?_
  exact H
set_option maxRecDepth 20000 in
/-- CodeMakerModel.writeWays from 200 on -/
theorem w374_200 (xs : List Int32) (d : Nat) (l1 : Int32) (l6 : Int32) (m : yM) (Q : Option Value → yM → Prop) (H : (((m.1 58 45) ≤ l6 → Q none m) ∧ (¬ (m.1 58 45) ≤ l6 → (x_in l6 3001 = true ∧ ((¬ (m.1 89 l6.toNatClampNeg) = (10 : Int32) → yP (xg xs) (d + 1) 374 245 [(0, .ref 58), (1, .int l1), (6, .int l6)] [] m Q) ∧ ((m.1 89 l6.toNatClampNeg) = (10 : Int32) → (x_in l6 3001 = true ∧ ((¬ (m.1 90 l6.toNatClampNeg) = (((-1) : Int32) - l1) → yP (xg xs) (d + 1) 374 245 [(0, .ref 58), (1, .int l1), (6, .int l6)] [] m Q) ∧ ((m.1 90 l6.toNatClampNeg) = (((-1) : Int32) - l1) → (yC (xg xs) d 376 [.ref 58] m (fun v1 m1 => ∃ u1, v1 = some (Value.int u1) ∧ (x_in l6 3001 = true ∧ yP (xg xs) (d + 1) 374 245 [(0, .ref 58), (1, .int l1), (6, .int l6)] [] (y_si m1 90 l6.toNatClampNeg u1) Q)))))))))))) : yP (xg xs) (d + 1) 374 200 [(0, .ref 58), (1, .int l1), (6, .int l6)] [] m Q := by
  refine y_st rfl rfl rfl rfl rfl (fun _ _ => rfl) ?_
  refine y_st rfl rfl rfl rfl rfl (fun _ _ => rfl) ?_
  refine y_gf rfl rfl rfl rfl rfl ?_
  show yP (xg xs) (d + 1) 374 206 [(0, .ref 58), (1, .int l1), (6, .int l6)] [.int (m.1 58 45), .int l6] m Q
  refine y_ige (t := 251) rfl rfl rfl (fun h => ?_) (fun h => ?_)
  · replace H := H.1 h; clear h
    show yP (xg xs) (d + 1) 374 251 [(0, .ref 58), (1, .int l1), (6, .int l6)] [] m Q
    exact y_ret rfl rfl rfl rfl H
  · replace H := H.2 h; clear h
    refine y_st rfl rfl rfl rfl rfl (fun _ _ => rfl) ?_
    refine y_gf rfl rfl rfl rfl rfl ?_
    refine y_st rfl rfl rfl rfl rfl (fun _ _ => rfl) ?_
    show yP (xg xs) (d + 1) 374 215 [(0, .ref 58), (1, .int l1), (6, .int l6)] [.int l6, .ref 89] m Q
    refine y_iald rfl rfl rfl (H.1) ?_
    replace H := H.2
    refine y_st rfl rfl rfl rfl rfl (fun _ _ => rfl) ?_
    show yP (xg xs) (d + 1) 374 218 [(0, .ref 58), (1, .int l1), (6, .int l6)] [.int (10 : Int32), .int (m.1 89 l6.toNatClampNeg)] m Q
    refine y_ine (t := 245) rfl rfl rfl (fun h => ?_) (fun h => ?_)
    · replace H := H.1 h; clear h
      show yP (xg xs) (d + 1) 374 245 [(0, .ref 58), (1, .int l1), (6, .int l6)] [] m Q
      exact H
    · replace H := H.2 h; clear h
      refine y_st rfl rfl rfl rfl rfl (fun _ _ => rfl) ?_
      refine y_gf rfl rfl rfl rfl rfl ?_
      refine y_st rfl rfl rfl rfl rfl (fun _ _ => rfl) ?_
      show yP (xg xs) (d + 1) 374 227 [(0, .ref 58), (1, .int l1), (6, .int l6)] [.int l6, .ref 90] m Q
      refine y_iald rfl rfl rfl (H.1) ?_
      replace H := H.2
      refine y_st rfl rfl rfl rfl rfl (fun _ _ => rfl) ?_
      refine y_st rfl rfl rfl rfl rfl (fun _ _ => rfl) ?_
      refine y_st rfl rfl rfl rfl rfl (fun _ _ => rfl) ?_
      show yP (xg xs) (d + 1) 374 231 [(0, .ref 58), (1, .int l1), (6, .int l6)] [.int (((-1) : Int32) - l1), .int (m.1 90 l6.toNatClampNeg)] m Q
      refine y_ine (t := 245) rfl rfl rfl (fun h => ?_) (fun h => ?_)
      · replace H := H.1 h; clear h
        show yP (xg xs) (d + 1) 374 245 [(0, .ref 58), (1, .int l1), (6, .int l6)] [] m Q
        exact H
      · replace H := H.2 h; clear h
        refine y_st rfl rfl rfl rfl rfl (fun _ _ => rfl) ?_
        refine y_gf rfl rfl rfl rfl rfl ?_
        refine y_st rfl rfl rfl rfl rfl (fun _ _ => rfl) ?_
        refine y_st rfl rfl rfl rfl rfl (fun _ _ => rfl) ?_
        show yP (xg xs) (d + 1) 374 241 [(0, .ref 58), (1, .int l1), (6, .int l6)] [.ref 58, .int l6, .ref 90] m Q
        refine y_call rfl rfl rfl rfl rfl (Nat.le_of_ble_eq_true rfl) (Nat.le_of_ble_eq_true rfl) rfl (by decide) H (fun v1 m1 H => ?_)
        obtain ⟨u1, rfl, H⟩ := H
        show yP (xg xs) (d + 1) 374 244 [(0, .ref 58), (1, .int l1), (6, .int l6)] [.int u1, .int l6, .ref 90] m1 Q
        refine y_iast rfl rfl rfl (H.1) ?_
        replace H := H.2
        show yP (xg xs) (d + 1) 374 245 [(0, .ref 58), (1, .int l1), (6, .int l6)] [] (y_si m1 90 l6.toNatClampNeg u1) Q
        exact H
set_option maxRecDepth 20000 in
/-- CodeMakerModel.writeWays from 245 on -/
theorem w374_245 (xs : List Int32) (d : Nat) (l1 : Int32) (l6 : Int32) (m : yM) (Q : Option Value → yM → Prop) (H : yP (xg xs) (d + 1) 374 200 [(0, .ref 58), (1, .int l1), (6, .int (l6 + (1 : Int32)))] [] m Q) : yP (xg xs) (d + 1) 374 245 [(0, .ref 58), (1, .int l1), (6, .int l6)] [] m Q := by
  refine y_st rfl rfl rfl rfl rfl (fun _ _ => rfl) ?_
  refine y_st rfl rfl rfl rfl rfl (fun _ _ => rfl) ?_
  show yP (xg xs) (d + 1) 374 200 [(6, .int (l6 + (1 : Int32))), (0, .ref 58), (1, .int l1)] [] m Q
  refine y_headS (l2 := [(0, .ref 58), (1, .int l1), (6, .int (l6 + (1 : Int32)))]) [1, 2, 0] [0, 1, 6] [6, 0, 1] rfl rfl (by decide) rfl (by decide) ?_
  exact H
set_option maxRecDepth 20000 in
/-- CodeMakerModel.writeRanges from 0 on -/
theorem w375_0 (xs : List Int32) (d : Nat) (l1 : Int32) (l2 : Int32) (m : yM) (Q : Option Value → yM → Prop) (H : (x_in l1 20000 = true ∧ yP (xg xs) (d + 1) 375 13 [(0, .ref 58), (2, .int l2), (3, .int (0 : Int32)), (5, .int (m.1 66 l1.toNatClampNeg))] [] m Q)) : yP (xg xs) (d + 1) 375 0 [(0, .ref 58), (1, .int l1), (2, .int l2)] [] m Q := by
  refine y_st rfl rfl rfl rfl rfl (fun _ _ => rfl) ?_
  refine y_st rfl rfl rfl rfl rfl (fun _ _ => rfl) ?_
  refine y_st rfl rfl rfl rfl rfl (fun _ _ => rfl) ?_
  refine y_st rfl rfl rfl rfl rfl (fun _ _ => rfl) ?_
  refine y_st rfl rfl rfl rfl rfl (fun _ _ => rfl) ?_
  refine y_gf rfl rfl rfl rfl rfl ?_
  refine y_st rfl rfl rfl rfl rfl (fun _ _ => rfl) ?_
  show yP (xg xs) (d + 1) 375 10 [(4, .int (0 : Int32)), (3, .int (0 : Int32)), (0, .ref 58), (1, .int l1), (2, .int l2)] [.int l1, .ref 66] m Q
  refine y_iald rfl rfl rfl (H.1) ?_
  replace H := H.2
  refine y_st rfl rfl rfl rfl rfl (fun _ _ => rfl) ?_
  show yP (xg xs) (d + 1) 375 13 [(5, .int (m.1 66 l1.toNatClampNeg)), (4, .int (0 : Int32)), (3, .int (0 : Int32)), (0, .ref 58), (1, .int l1), (2, .int l2)] [] m Q
  refine y_headS (l2 := [(0, .ref 58), (2, .int l2), (3, .int (0 : Int32)), (5, .int (m.1 66 l1.toNatClampNeg))]) [3, 5, 2, 0] [0, 2, 3, 5] [5, 4, 3, 0, 1, 2] rfl rfl (by decide) rfl (by decide) ?_
  exact H
set_option maxRecDepth 20000 in
/-- CodeMakerModel.writeRanges from 13 on -/
theorem w375_13 (xs : List Int32) (d : Nat) (l2 : Int32) (l3 : Int32) (l5 : Int32) (m : yM) (Q : Option Value → yM → Prop) (H : (x_in l5 20000 = true ∧ ((¬ (m.1 62 l5.toNatClampNeg) = (18 : Int32) → Q none m) ∧ ((m.1 62 l5.toNatClampNeg) = (18 : Int32) → (x_in l5 20000 = true ∧ (x_in (m.1 66 l5.toNatClampNeg) 20000 = true ∧ (yC (xg xs) d 369 [.ref 58, .int (1 : Int32), .int l2, .int (0 : Int32), .int (0 : Int32)] m (fun v1 m1 => ∃ u1, v1 = some (Value.int u1) ∧ (yC (xg xs) d 369 [.ref 58, .int (0 : Int32), .int (m.1 64 ((m.1 66 l5.toNatClampNeg).toNatClampNeg)), .int (0 : Int32), .int (0 : Int32)] m1 (fun v2 m2 => ∃ u2, v2 = some (Value.int u2) ∧ (x_in l5 20000 = true ∧ ((¬ (m2.1 69 l5.toNatClampNeg) = (1 : Int32) → (yC (xg xs) d 369 [.ref 58, .int (7 : Int32), .int (18 : Int32), .int (0 : Int32), .int (0 : Int32)] m2 (fun v3 m3 => ∃ u3, v3 = some (Value.int u3) ∧ (yC (xg xs) d 369 [.ref 58, .int (1 : Int32), .int l2, .int (0 : Int32), .int (0 : Int32)] m3 (fun v4 m4 => ∃ u4, v4 = some (Value.int u4) ∧ (x_in l5 20000 = true ∧ (x_in (m4.1 67 l5.toNatClampNeg) 20000 = true ∧ (yC (xg xs) d 369 [.ref 58, .int (0 : Int32), .int (m4.1 64 ((m4.1 67 l5.toNatClampNeg).toNatClampNeg)), .int (0 : Int32), .int (0 : Int32)] m4 (fun v5 m5 => ∃ u5, v5 = some (Value.int u5) ∧ (yC (xg xs) d 369 [.ref 58, .int (7 : Int32), .int (17 : Int32), .int (0 : Int32), .int (0 : Int32)] m5 (fun v6 m6 => ∃ u6, v6 = some (Value.int u6) ∧ (yC (xg xs) d 369 [.ref 58, .int (7 : Int32), .int (10 : Int32), .int (0 : Int32), .int (0 : Int32)] m6 (fun v7 m7 => ∃ u7, v7 = some (Value.int u7) ∧ yP (xg xs) (d + 1) 375 153 [(0, .ref 58), (2, .int l2), (3, .int l3), (5, .int l5)] [] m7 Q))))))))))))) ∧ ((m2.1 69 l5.toNatClampNeg) = (1 : Int32) → (yC (xg xs) d 369 [.ref 58, .int (7 : Int32), .int (13 : Int32), .int (0 : Int32), .int (0 : Int32)] m2 (fun v8 m8 => ∃ u8, v8 = some (Value.int u8) ∧ yP (xg xs) (d + 1) 375 153 [(0, .ref 58), (2, .int l2), (3, .int l3), (5, .int l5)] [] m8 Q))))))))))))))) : yP (xg xs) (d + 1) 375 13 [(0, .ref 58), (2, .int l2), (3, .int l3), (5, .int l5)] [] m Q := by
  refine y_st rfl rfl rfl rfl rfl (fun _ _ => rfl) ?_
  refine y_gf rfl rfl rfl rfl rfl ?_
  refine y_st rfl rfl rfl rfl rfl (fun _ _ => rfl) ?_
  show yP (xg xs) (d + 1) 375 19 [(0, .ref 58), (2, .int l2), (3, .int l3), (5, .int l5)] [.int l5, .ref 62] m Q
  refine y_iald rfl rfl rfl (H.1) ?_
  replace H := H.2
  refine y_st rfl rfl rfl rfl rfl (fun _ _ => rfl) ?_
  show yP (xg xs) (d + 1) 375 22 [(0, .ref 58), (2, .int l2), (3, .int l3), (5, .int l5)] [.int (18 : Int32), .int (m.1 62 l5.toNatClampNeg)] m Q
  refine y_ine (t := 185) rfl rfl rfl (fun h => ?_) (fun h => ?_)
  · replace H := H.1 h; clear h
    show yP (xg xs) (d + 1) 375 185 [(0, .ref 58), (2, .int l2), (3, .int l3), (5, .int l5)] [] m Q
    exact y_ret rfl rfl rfl rfl H
  · replace H := H.2 h; clear h
    refine y_st rfl rfl rfl rfl rfl (fun _ _ => rfl) ?_
    refine y_gf rfl rfl rfl rfl rfl ?_
    refine y_st rfl rfl rfl rfl rfl (fun _ _ => rfl) ?_
    refine y_gf rfl rfl rfl rfl rfl ?_
    refine y_st rfl rfl rfl rfl rfl (fun _ _ => rfl) ?_
    show yP (xg xs) (d + 1) 375 35 [(0, .ref 58), (2, .int l2), (3, .int l3), (5, .int l5)] [.int l5, .ref 66, .ref 64] m Q
    refine y_iald rfl rfl rfl (H.1) ?_
    replace H := H.2
    show yP (xg xs) (d + 1) 375 36 [(0, .ref 58), (2, .int l2), (3, .int l3), (5, .int l5)] [.int (m.1 66 l5.toNatClampNeg), .ref 64] m Q
    refine y_iald rfl rfl rfl (H.1) ?_
    replace H := H.2
    refine y_st rfl rfl rfl rfl rfl (fun _ _ => rfl) ?_
    refine y_st rfl rfl rfl rfl rfl (fun _ _ => rfl) ?_
    refine y_st rfl rfl rfl rfl rfl (fun _ _ => rfl) ?_
    refine y_st rfl rfl rfl rfl rfl (fun _ _ => rfl) ?_
    refine y_st rfl rfl rfl rfl rfl (fun _ _ => rfl) ?_
    refine y_st rfl rfl rfl rfl rfl (fun _ _ => rfl) ?_
    show yP (xg xs) (d + 1) 375 44 [(6, .int (m.1 64 ((m.1 66 l5.toNatClampNeg).toNatClampNeg))), (0, .ref 58), (2, .int l2), (3, .int l3), (5, .int l5)] [.int (0 : Int32), .int (0 : Int32), .int l2, .int (1 : Int32), .ref 58] m Q
    refine y_call rfl rfl rfl rfl rfl (Nat.le_of_ble_eq_true rfl) (Nat.le_of_ble_eq_true rfl) rfl (by decide) H (fun v1 m1 H => ?_)
    obtain ⟨u1, rfl, H⟩ := H
    refine y_st rfl rfl rfl rfl rfl (fun _ _ => rfl) ?_
    refine y_st rfl rfl rfl rfl rfl (fun _ _ => rfl) ?_
    refine y_st rfl rfl rfl rfl rfl (fun _ _ => rfl) ?_
    refine y_st rfl rfl rfl rfl rfl (fun _ _ => rfl) ?_
    refine y_st rfl rfl rfl rfl rfl (fun _ _ => rfl) ?_
    refine y_st rfl rfl rfl rfl rfl (fun _ _ => rfl) ?_
    show yP (xg xs) (d + 1) 375 55 [(4, .int u1), (6, .int (m.1 64 ((m.1 66 l5.toNatClampNeg).toNatClampNeg))), (0, .ref 58), (2, .int l2), (3, .int l3), (5, .int l5)] [.int (0 : Int32), .int (0 : Int32), .int (m.1 64 ((m.1 66 l5.toNatClampNeg).toNatClampNeg)), .int (0 : Int32), .ref 58] m1 Q
    refine y_call rfl rfl rfl rfl rfl (Nat.le_of_ble_eq_true rfl) (Nat.le_of_ble_eq_true rfl) rfl (by decide) H (fun v2 m2 H => ?_)
    obtain ⟨u2, rfl, H⟩ := H
    refine y_st rfl rfl rfl rfl rfl (fun _ _ => rfl) ?_
    refine y_st rfl rfl rfl rfl rfl (fun _ _ => rfl) ?_
    refine y_gf rfl rfl rfl rfl rfl ?_
    refine y_st rfl rfl rfl rfl rfl (fun _ _ => rfl) ?_
    show yP (xg xs) (d + 1) 375 66 [(4, .int u2), (6, .int (m.1 64 ((m.1 66 l5.toNatClampNeg).toNatClampNeg))), (0, .ref 58), (2, .int l2), (3, .int l3), (5, .int l5)] [.int l5, .ref 69] m2 Q
    refine y_iald rfl rfl rfl (H.1) ?_
    replace H := H.2
    refine y_st rfl rfl rfl rfl rfl (fun _ _ => rfl) ?_
    show yP (xg xs) (d + 1) 375 68 [(4, .int u2), (6, .int (m.1 64 ((m.1 66 l5.toNatClampNeg).toNatClampNeg))), (0, .ref 58), (2, .int l2), (3, .int l3), (5, .int l5)] [.int (1 : Int32), .int (m2.1 69 l5.toNatClampNeg)] m2 Q
    refine y_ine (t := 86) rfl rfl rfl (fun h => ?_) (fun h => ?_)
    · replace H := H.1 h; clear h
      refine y_st rfl rfl rfl rfl rfl (fun _ _ => rfl) ?_
      refine y_st rfl rfl rfl rfl rfl (fun _ _ => rfl) ?_
      refine y_st rfl rfl rfl rfl rfl (fun _ _ => rfl) ?_
      refine y_st rfl rfl rfl rfl rfl (fun _ _ => rfl) ?_
      refine y_st rfl rfl rfl rfl rfl (fun _ _ => rfl) ?_
      show yP (xg xs) (d + 1) 375 93 [(4, .int u2), (6, .int (m.1 64 ((m.1 66 l5.toNatClampNeg).toNatClampNeg))), (0, .ref 58), (2, .int l2), (3, .int l3), (5, .int l5)] [.int (0 : Int32), .int (0 : Int32), .int (18 : Int32), .int (7 : Int32), .ref 58] m2 Q
      refine y_call rfl rfl rfl rfl rfl (Nat.le_of_ble_eq_true rfl) (Nat.le_of_ble_eq_true rfl) rfl (by decide) H (fun v3 m3 H => ?_)
      obtain ⟨u3, rfl, H⟩ := H
      refine y_st rfl rfl rfl rfl rfl (fun _ _ => rfl) ?_
      refine y_st rfl rfl rfl rfl rfl (fun _ _ => rfl) ?_
      refine y_st rfl rfl rfl rfl rfl (fun _ _ => rfl) ?_
      refine y_st rfl rfl rfl rfl rfl (fun _ _ => rfl) ?_
      refine y_st rfl rfl rfl rfl rfl (fun _ _ => rfl) ?_
      refine y_st rfl rfl rfl rfl rfl (fun _ _ => rfl) ?_
      show yP (xg xs) (d + 1) 375 103 [(4, .int u3), (6, .int (m.1 64 ((m.1 66 l5.toNatClampNeg).toNatClampNeg))), (0, .ref 58), (2, .int l2), (3, .int l3), (5, .int l5)] [.int (0 : Int32), .int (0 : Int32), .int l2, .int (1 : Int32), .ref 58] m3 Q
      refine y_call rfl rfl rfl rfl rfl (Nat.le_of_ble_eq_true rfl) (Nat.le_of_ble_eq_true rfl) rfl (by decide) H (fun v4 m4 H => ?_)
      obtain ⟨u4, rfl, H⟩ := H
      refine y_st rfl rfl rfl rfl rfl (fun _ _ => rfl) ?_
      refine y_st rfl rfl rfl rfl rfl (fun _ _ => rfl) ?_
      refine y_st rfl rfl rfl rfl rfl (fun _ _ => rfl) ?_
      refine y_st rfl rfl rfl rfl rfl (fun _ _ => rfl) ?_
      refine y_gf rfl rfl rfl rfl rfl ?_
      refine y_st rfl rfl rfl rfl rfl (fun _ _ => rfl) ?_
      refine y_gf rfl rfl rfl rfl rfl ?_
      refine y_st rfl rfl rfl rfl rfl (fun _ _ => rfl) ?_
      show yP (xg xs) (d + 1) 375 120 [(4, .int u4), (6, .int (m.1 64 ((m.1 66 l5.toNatClampNeg).toNatClampNeg))), (0, .ref 58), (2, .int l2), (3, .int l3), (5, .int l5)] [.int l5, .ref 67, .ref 64, .int (0 : Int32), .ref 58] m4 Q
      refine y_iald rfl rfl rfl (H.1) ?_
      replace H := H.2
      show yP (xg xs) (d + 1) 375 121 [(4, .int u4), (6, .int (m.1 64 ((m.1 66 l5.toNatClampNeg).toNatClampNeg))), (0, .ref 58), (2, .int l2), (3, .int l3), (5, .int l5)] [.int (m4.1 67 l5.toNatClampNeg), .ref 64, .int (0 : Int32), .ref 58] m4 Q
      refine y_iald rfl rfl rfl (H.1) ?_
      replace H := H.2
      refine y_st rfl rfl rfl rfl rfl (fun _ _ => rfl) ?_
      refine y_st rfl rfl rfl rfl rfl (fun _ _ => rfl) ?_
      show yP (xg xs) (d + 1) 375 124 [(4, .int u4), (6, .int (m.1 64 ((m.1 66 l5.toNatClampNeg).toNatClampNeg))), (0, .ref 58), (2, .int l2), (3, .int l3), (5, .int l5)] [.int (0 : Int32), .int (0 : Int32), .int (m4.1 64 ((m4.1 67 l5.toNatClampNeg).toNatClampNeg)), .int (0 : Int32), .ref 58] m4 Q
      refine y_call rfl rfl rfl rfl rfl (Nat.le_of_ble_eq_true rfl) (Nat.le_of_ble_eq_true rfl) rfl (by decide) H (fun v5 m5 H => ?_)
      obtain ⟨u5, rfl, H⟩ := H
      refine y_st rfl rfl rfl rfl rfl (fun _ _ => rfl) ?_
      refine y_st rfl rfl rfl rfl rfl (fun _ _ => rfl) ?_
      refine y_st rfl rfl rfl rfl rfl (fun _ _ => rfl) ?_
      refine y_st rfl rfl rfl rfl rfl (fun _ _ => rfl) ?_
      refine y_st rfl rfl rfl rfl rfl (fun _ _ => rfl) ?_
      refine y_st rfl rfl rfl rfl rfl (fun _ _ => rfl) ?_
      show yP (xg xs) (d + 1) 375 136 [(4, .int u5), (6, .int (m.1 64 ((m.1 66 l5.toNatClampNeg).toNatClampNeg))), (0, .ref 58), (2, .int l2), (3, .int l3), (5, .int l5)] [.int (0 : Int32), .int (0 : Int32), .int (17 : Int32), .int (7 : Int32), .ref 58] m5 Q
      refine y_call rfl rfl rfl rfl rfl (Nat.le_of_ble_eq_true rfl) (Nat.le_of_ble_eq_true rfl) rfl (by decide) H (fun v6 m6 H => ?_)
      obtain ⟨u6, rfl, H⟩ := H
      refine y_st rfl rfl rfl rfl rfl (fun _ _ => rfl) ?_
      refine y_st rfl rfl rfl rfl rfl (fun _ _ => rfl) ?_
      refine y_st rfl rfl rfl rfl rfl (fun _ _ => rfl) ?_
      refine y_st rfl rfl rfl rfl rfl (fun _ _ => rfl) ?_
      refine y_st rfl rfl rfl rfl rfl (fun _ _ => rfl) ?_
      refine y_st rfl rfl rfl rfl rfl (fun _ _ => rfl) ?_
      show yP (xg xs) (d + 1) 375 148 [(4, .int u6), (6, .int (m.1 64 ((m.1 66 l5.toNatClampNeg).toNatClampNeg))), (0, .ref 58), (2, .int l2), (3, .int l3), (5, .int l5)] [.int (0 : Int32), .int (0 : Int32), .int (10 : Int32), .int (7 : Int32), .ref 58] m6 Q
      refine y_call rfl rfl rfl rfl rfl (Nat.le_of_ble_eq_true rfl) (Nat.le_of_ble_eq_true rfl) rfl (by decide) H (fun v7 m7 H => ?_)
      obtain ⟨u7, rfl, H⟩ := H
      refine y_st rfl rfl rfl rfl rfl (fun _ _ => rfl) ?_
      show yP (xg xs) (d + 1) 375 153 [(4, .int u7), (6, .int (m.1 64 ((m.1 66 l5.toNatClampNeg).toNatClampNeg))), (0, .ref 58), (2, .int l2), (3, .int l3), (5, .int l5)] [] m7 Q
      refine y_headS (l2 := [(0, .ref 58), (2, .int l2), (3, .int l3), (5, .int l5)]) [2, 3, 4, 5] [0, 2, 3, 5] [4, 6, 0, 2, 3, 5] rfl rfl (by decide) rfl (by decide) ?_
      exact H
    · replace H := H.2 h; clear h
      refine y_st rfl rfl rfl rfl rfl (fun _ _ => rfl) ?_
      refine y_st rfl rfl rfl rfl rfl (fun _ _ => rfl) ?_
      refine y_st rfl rfl rfl rfl rfl (fun _ _ => rfl) ?_
      refine y_st rfl rfl rfl rfl rfl (fun _ _ => rfl) ?_
      refine y_st rfl rfl rfl rfl rfl (fun _ _ => rfl) ?_
      show yP (xg xs) (d + 1) 375 78 [(4, .int u2), (6, .int (m.1 64 ((m.1 66 l5.toNatClampNeg).toNatClampNeg))), (0, .ref 58), (2, .int l2), (3, .int l3), (5, .int l5)] [.int (0 : Int32), .int (0 : Int32), .int (13 : Int32), .int (7 : Int32), .ref 58] m2 Q
      refine y_call rfl rfl rfl rfl rfl (Nat.le_of_ble_eq_true rfl) (Nat.le_of_ble_eq_true rfl) rfl (by decide) H (fun v8 m8 H => ?_)
      obtain ⟨u8, rfl, H⟩ := H
      refine y_st rfl rfl rfl rfl rfl (fun _ _ => rfl) ?_
      refine y_st rfl rfl rfl rfl rfl (fun _ _ => rfl) ?_
      show yP (xg xs) (d + 1) 375 153 [(4, .int u8), (6, .int (m.1 64 ((m.1 66 l5.toNatClampNeg).toNatClampNeg))), (0, .ref 58), (2, .int l2), (3, .int l3), (5, .int l5)] [] m8 Q
      refine y_headS (l2 := [(0, .ref 58), (2, .int l2), (3, .int l3), (5, .int l5)]) [2, 3, 4, 5] [0, 2, 3, 5] [4, 6, 0, 2, 3, 5] rfl rfl (by decide) rfl (by decide) ?_
      exact H
set_option maxRecDepth 20000 in
/-- CodeMakerModel.writeRanges from 153 on -/
theorem w375_153 (xs : List Int32) (d : Nat) (l2 : Int32) (l3 : Int32) (l5 : Int32) (m : yM) (Q : Option Value → yM → Prop) (H : (((l3 + (1 : Int32)) ≤ (1 : Int32) → yP (xg xs) (d + 1) 375 173 [(0, .ref 58), (2, .int l2), (3, .int (l3 + (1 : Int32))), (5, .int l5)] [] m Q) ∧ (¬ (l3 + (1 : Int32)) ≤ (1 : Int32) → (yC (xg xs) d 369 [.ref 58, .int (7 : Int32), .int (11 : Int32), .int (0 : Int32), .int (0 : Int32)] m (fun v1 m1 => ∃ u1, v1 = some (Value.int u1) ∧ yP (xg xs) (d + 1) 375 173 [(0, .ref 58), (2, .int l2), (3, .int (l3 + (1 : Int32))), (5, .int l5)] [] m1 Q))))) : yP (xg xs) (d + 1) 375 153 [(0, .ref 58), (2, .int l2), (3, .int l3), (5, .int l5)] [] m Q := by
  refine y_st rfl rfl rfl rfl rfl (fun _ _ => rfl) ?_
  refine y_st rfl rfl rfl rfl rfl (fun _ _ => rfl) ?_
  refine y_st rfl rfl rfl rfl rfl (fun _ _ => rfl) ?_
  show yP (xg xs) (d + 1) 375 158 [(3, .int (l3 + (1 : Int32))), (0, .ref 58), (2, .int l2), (5, .int l5)] [.int (1 : Int32), .int (l3 + (1 : Int32))] m Q
  refine y_ile (t := 173) rfl rfl rfl (fun h => ?_) (fun h => ?_)
  · replace H := H.1 h; clear h
    show yP (xg xs) (d + 1) 375 173 [(3, .int (l3 + (1 : Int32))), (0, .ref 58), (2, .int l2), (5, .int l5)] [] m Q
    refine y_headS (l2 := [(0, .ref 58), (2, .int l2), (3, .int (l3 + (1 : Int32))), (5, .int l5)]) [1, 2, 0, 3] [0, 2, 3, 5] [3, 0, 2, 5] rfl rfl (by decide) rfl (by decide) ?_
    exact H
  · replace H := H.2 h; clear h
    refine y_st rfl rfl rfl rfl rfl (fun _ _ => rfl) ?_
    refine y_st rfl rfl rfl rfl rfl (fun _ _ => rfl) ?_
    refine y_st rfl rfl rfl rfl rfl (fun _ _ => rfl) ?_
    refine y_st rfl rfl rfl rfl rfl (fun _ _ => rfl) ?_
    refine y_st rfl rfl rfl rfl rfl (fun _ _ => rfl) ?_
    show yP (xg xs) (d + 1) 375 168 [(3, .int (l3 + (1 : Int32))), (0, .ref 58), (2, .int l2), (5, .int l5)] [.int (0 : Int32), .int (0 : Int32), .int (11 : Int32), .int (7 : Int32), .ref 58] m Q
    refine y_call rfl rfl rfl rfl rfl (Nat.le_of_ble_eq_true rfl) (Nat.le_of_ble_eq_true rfl) rfl (by decide) H (fun v1 m1 H => ?_)
    obtain ⟨u1, rfl, H⟩ := H
    refine y_st rfl rfl rfl rfl rfl (fun _ _ => rfl) ?_
    show yP (xg xs) (d + 1) 375 173 [(4, .int u1), (3, .int (l3 + (1 : Int32))), (0, .ref 58), (2, .int l2), (5, .int l5)] [] m1 Q
    refine y_headS (l2 := [(0, .ref 58), (2, .int l2), (3, .int (l3 + (1 : Int32))), (5, .int l5)]) [2, 3, 1, 4] [0, 2, 3, 5] [4, 3, 0, 2, 5] rfl rfl (by decide) rfl (by decide) ?_
    exact H
set_option maxRecDepth 20000 in
/-- CodeMakerModel.writeRanges from 173 on -/
theorem w375_173 (xs : List Int32) (d : Nat) (l2 : Int32) (l3 : Int32) (l5 : Int32) (m : yM) (Q : Option Value → yM → Prop) (H : (x_in l5 20000 = true ∧ yP (xg xs) (d + 1) 375 13 [(0, .ref 58), (2, .int l2), (3, .int l3), (5, .int (m.1 68 l5.toNatClampNeg))] [] m Q)) : yP (xg xs) (d + 1) 375 173 [(0, .ref 58), (2, .int l2), (3, .int l3), (5, .int l5)] [] m Q := by
  refine y_st rfl rfl rfl rfl rfl (fun _ _ => rfl) ?_
  refine y_gf rfl rfl rfl rfl rfl ?_
  refine y_st rfl rfl rfl rfl rfl (fun _ _ => rfl) ?_
  show yP (xg xs) (d + 1) 375 179 [(0, .ref 58), (2, .int l2), (3, .int l3), (5, .int l5)] [.int l5, .ref 68] m Q
  refine y_iald rfl rfl rfl (H.1) ?_
  replace H := H.2
  refine y_st rfl rfl rfl rfl rfl (fun _ _ => rfl) ?_
  refine y_st rfl rfl rfl rfl rfl (fun _ _ => rfl) ?_
  show yP (xg xs) (d + 1) 375 13 [(5, .int (m.1 68 l5.toNatClampNeg)), (0, .ref 58), (2, .int l2), (3, .int l3)] [] m Q
  refine y_headS (l2 := [(0, .ref 58), (2, .int l2), (3, .int l3), (5, .int (m.1 68 l5.toNatClampNeg))]) [1, 2, 3, 0] [0, 2, 3, 5] [5, 0, 2, 3] rfl rfl (by decide) rfl (by decide) ?_
  exact H
set_option maxRecDepth 20000 in
/-- CodeMakerModel.here from 0 on -/
theorem w376_0 (xs : List Int32) (d : Nat) (m : yM) (Q : Option Value → yM → Prop) (H : Q (some (.int ((m.1 58 45) - (m.1 58 53)))) m) : yP (xg xs) (d + 1) 376 0 [(0, .ref 58)] [] m Q := by
  refine y_st rfl rfl rfl rfl rfl (fun _ _ => rfl) ?_
  refine y_gf rfl rfl rfl rfl rfl ?_
  refine y_st rfl rfl rfl rfl rfl (fun _ _ => rfl) ?_
  refine y_gf rfl rfl rfl rfl rfl ?_
  refine y_st rfl rfl rfl rfl rfl (fun _ _ => rfl) ?_
  show yP (xg xs) (d + 1) 376 9 [(0, .ref 58)] [.int ((m.1 58 45) - (m.1 58 53))] m Q
  exact y_iret rfl rfl rfl H
set_option maxRecDepth 20000 in
/-- CodeMakerModel.writeFor from 0 on -/
theorem w377_0 (xs : List Int32) (d : Nat) (l1 : Int32) (m : yM) (Q : Option Value → yM → Prop) (H : (x_in l1 20000 = true ∧ (x_in l1 20000 = true ∧ (x_in (m.1 66 l1.toNatClampNeg) 20000 = true ∧ (yC (xg xs) d 369 [.ref 58, .int (0 : Int32), .int (m.1 64 ((m.1 66 l1.toNatClampNeg).toNatClampNeg)), .int (0 : Int32), .int (0 : Int32)] m (fun v1 m1 => ∃ u1, v1 = some (Value.int u1) ∧ (x_in (m.1 85 l1.toNatClampNeg) 4700 = true ∧ (yC (xg xs) d 369 [.ref 58, .int (2 : Int32), .int (m1.1 80 ((m.1 85 l1.toNatClampNeg).toNatClampNeg)), .int (0 : Int32), .int (0 : Int32)] m1 (fun v2 m2 => ∃ u2, v2 = some (Value.int u2) ∧ (x_in l1 20000 = true ∧ (yC (xg xs) d 351 [.ref 58, .int l1] m2 (fun v3 m3 => ∃ u3, v3 = some (Value.long u3) ∧ (yC (xg xs) d 369 [.ref 58, .int (12 : Int32), .int (m2.1 86 l1.toNatClampNeg), .int u3.toInt32, .int (0 : Int32)] m3 (fun v4 m4 => ∃ u4, v4 = some (Value.int u4) ∧ (x_in l1 20000 = true ∧ (yC (xg xs) d 369 [.ref 58, .int (13 : Int32), .int (m4.1 86 l1.toNatClampNeg), .int (0 : Int32), .int (0 : Int32)] m4 (fun v5 m5 => ∃ u5, v5 = some (Value.int u5) ∧ (x_in l1 20000 = true ∧ (yC (xg xs) d 370 [.ref 58, .int (m5.1 67 l1.toNatClampNeg)] m5 (fun v6 m6 => v6 = none ∧ (x_in (m.1 85 l1.toNatClampNeg) 4700 = true ∧ (yC (xg xs) d 369 [.ref 58, .int (1 : Int32), .int (m6.1 80 ((m.1 85 l1.toNatClampNeg).toNatClampNeg)), .int (0 : Int32), .int (0 : Int32)] m6 (fun v7 m7 => ∃ u7, v7 = some (Value.int u7) ∧ (yC (xg xs) d 349 [.ref 58, .int l1] m7 (fun v8 m8 => ∃ u8, v8 = some (Value.int u8) ∧ (yC (xg xs) d 369 [.ref 58, .int (0 : Int32), .int u8, .int (0 : Int32), .int (0 : Int32)] m8 (fun v9 m9 => ∃ u9, v9 = some (Value.int u9) ∧ (x_in (m.1 85 l1.toNatClampNeg) 4700 = true ∧ ((¬ (m9.1 77 ((m.1 85 l1.toNatClampNeg).toNatClampNeg)) = (1 : Int32) → yP (xg xs) (d + 1) 377 150 [(0, .ref 58), (1, .int l1), (2, .int (m.1 85 l1.toNatClampNeg)), (3, .int (m.1 58 45)), (5, .int u5), (6, .int (u5 - (m5.1 58 53)))] [.int (5 : Int32), .int (7 : Int32), .ref 58] m9 Q) ∧ ((m9.1 77 ((m.1 85 l1.toNatClampNeg).toNatClampNeg)) = (1 : Int32) → yP (xg xs) (d + 1) 377 150 [(0, .ref 58), (1, .int l1), (2, .int (m.1 85 l1.toNatClampNeg)), (3, .int (m.1 58 45)), (5, .int u5), (6, .int (u5 - (m5.1 58 53)))] [.int (0 : Int32), .int (7 : Int32), .ref 58] m9 Q)))))))))))))))))))))))))))))) : yP (xg xs) (d + 1) 377 0 [(0, .ref 58), (1, .int l1)] [] m Q := by
  refine y_st rfl rfl rfl rfl rfl (fun _ _ => rfl) ?_
  refine y_gf rfl rfl rfl rfl rfl ?_
  refine y_st rfl rfl rfl rfl rfl (fun _ _ => rfl) ?_
  show yP (xg xs) (d + 1) 377 5 [(0, .ref 58), (1, .int l1)] [.int l1, .ref 85] m Q
  refine y_iald rfl rfl rfl (H.1) ?_
  replace H := H.2
  refine y_st rfl rfl rfl rfl rfl (fun _ _ => rfl) ?_
  refine y_st rfl rfl rfl rfl rfl (fun _ _ => rfl) ?_
  refine y_gf rfl rfl rfl rfl rfl ?_
  refine y_st rfl rfl rfl rfl rfl (fun _ _ => rfl) ?_
  refine y_st rfl rfl rfl rfl rfl (fun _ _ => rfl) ?_
  refine y_st rfl rfl rfl rfl rfl (fun _ _ => rfl) ?_
  refine y_st rfl rfl rfl rfl rfl (fun _ _ => rfl) ?_
  refine y_gf rfl rfl rfl rfl rfl ?_
  refine y_st rfl rfl rfl rfl rfl (fun _ _ => rfl) ?_
  refine y_gf rfl rfl rfl rfl rfl ?_
  refine y_st rfl rfl rfl rfl rfl (fun _ _ => rfl) ?_
  show yP (xg xs) (d + 1) 377 23 [(3, .int (m.1 58 45)), (2, .int (m.1 85 l1.toNatClampNeg)), (0, .ref 58), (1, .int l1)] [.int l1, .ref 66, .ref 64, .int (0 : Int32), .ref 58] m Q
  refine y_iald rfl rfl rfl (H.1) ?_
  replace H := H.2
  show yP (xg xs) (d + 1) 377 24 [(3, .int (m.1 58 45)), (2, .int (m.1 85 l1.toNatClampNeg)), (0, .ref 58), (1, .int l1)] [.int (m.1 66 l1.toNatClampNeg), .ref 64, .int (0 : Int32), .ref 58] m Q
  refine y_iald rfl rfl rfl (H.1) ?_
  replace H := H.2
  refine y_st rfl rfl rfl rfl rfl (fun _ _ => rfl) ?_
  refine y_st rfl rfl rfl rfl rfl (fun _ _ => rfl) ?_
  show yP (xg xs) (d + 1) 377 27 [(3, .int (m.1 58 45)), (2, .int (m.1 85 l1.toNatClampNeg)), (0, .ref 58), (1, .int l1)] [.int (0 : Int32), .int (0 : Int32), .int (m.1 64 ((m.1 66 l1.toNatClampNeg).toNatClampNeg)), .int (0 : Int32), .ref 58] m Q
  refine y_call rfl rfl rfl rfl rfl (Nat.le_of_ble_eq_true rfl) (Nat.le_of_ble_eq_true rfl) rfl (by decide) H (fun v1 m1 H => ?_)
  obtain ⟨u1, rfl, H⟩ := H
  refine y_st rfl rfl rfl rfl rfl (fun _ _ => rfl) ?_
  refine y_st rfl rfl rfl rfl rfl (fun _ _ => rfl) ?_
  refine y_st rfl rfl rfl rfl rfl (fun _ _ => rfl) ?_
  refine y_st rfl rfl rfl rfl rfl (fun _ _ => rfl) ?_
  refine y_gf rfl rfl rfl rfl rfl ?_
  refine y_st rfl rfl rfl rfl rfl (fun _ _ => rfl) ?_
  show yP (xg xs) (d + 1) 377 39 [(4, .int u1), (3, .int (m.1 58 45)), (2, .int (m.1 85 l1.toNatClampNeg)), (0, .ref 58), (1, .int l1)] [.int (m.1 85 l1.toNatClampNeg), .ref 80, .int (2 : Int32), .ref 58] m1 Q
  refine y_iald rfl rfl rfl (H.1) ?_
  replace H := H.2
  refine y_st rfl rfl rfl rfl rfl (fun _ _ => rfl) ?_
  refine y_st rfl rfl rfl rfl rfl (fun _ _ => rfl) ?_
  show yP (xg xs) (d + 1) 377 42 [(4, .int u1), (3, .int (m.1 58 45)), (2, .int (m.1 85 l1.toNatClampNeg)), (0, .ref 58), (1, .int l1)] [.int (0 : Int32), .int (0 : Int32), .int (m1.1 80 ((m.1 85 l1.toNatClampNeg).toNatClampNeg)), .int (2 : Int32), .ref 58] m1 Q
  refine y_call rfl rfl rfl rfl rfl (Nat.le_of_ble_eq_true rfl) (Nat.le_of_ble_eq_true rfl) rfl (by decide) H (fun v2 m2 H => ?_)
  obtain ⟨u2, rfl, H⟩ := H
  refine y_st rfl rfl rfl rfl rfl (fun _ _ => rfl) ?_
  refine y_st rfl rfl rfl rfl rfl (fun _ _ => rfl) ?_
  refine y_st rfl rfl rfl rfl rfl (fun _ _ => rfl) ?_
  refine y_st rfl rfl rfl rfl rfl (fun _ _ => rfl) ?_
  refine y_gf rfl rfl rfl rfl rfl ?_
  refine y_st rfl rfl rfl rfl rfl (fun _ _ => rfl) ?_
  show yP (xg xs) (d + 1) 377 55 [(4, .int u2), (3, .int (m.1 58 45)), (2, .int (m.1 85 l1.toNatClampNeg)), (0, .ref 58), (1, .int l1)] [.int l1, .ref 86, .int (12 : Int32), .ref 58] m2 Q
  refine y_iald rfl rfl rfl (H.1) ?_
  replace H := H.2
  refine y_st rfl rfl rfl rfl rfl (fun _ _ => rfl) ?_
  refine y_st rfl rfl rfl rfl rfl (fun _ _ => rfl) ?_
  show yP (xg xs) (d + 1) 377 58 [(4, .int u2), (3, .int (m.1 58 45)), (2, .int (m.1 85 l1.toNatClampNeg)), (0, .ref 58), (1, .int l1)] [.int l1, .ref 58, .int (m2.1 86 l1.toNatClampNeg), .int (12 : Int32), .ref 58] m2 Q
  refine y_call rfl rfl rfl rfl rfl (Nat.le_of_ble_eq_true rfl) (Nat.le_of_ble_eq_true rfl) rfl (by decide) H (fun v3 m3 H => ?_)
  obtain ⟨u3, rfl, H⟩ := H
  refine y_st rfl rfl rfl rfl rfl (fun _ _ => rfl) ?_
  refine y_st rfl rfl rfl rfl rfl (fun _ _ => rfl) ?_
  show yP (xg xs) (d + 1) 377 63 [(4, .int u2), (3, .int (m.1 58 45)), (2, .int (m.1 85 l1.toNatClampNeg)), (0, .ref 58), (1, .int l1)] [.int (0 : Int32), .int u3.toInt32, .int (m2.1 86 l1.toNatClampNeg), .int (12 : Int32), .ref 58] m3 Q
  refine y_call rfl rfl rfl rfl rfl (Nat.le_of_ble_eq_true rfl) (Nat.le_of_ble_eq_true rfl) rfl (by decide) H (fun v4 m4 H => ?_)
  obtain ⟨u4, rfl, H⟩ := H
  refine y_st rfl rfl rfl rfl rfl (fun _ _ => rfl) ?_
  refine y_st rfl rfl rfl rfl rfl (fun _ _ => rfl) ?_
  refine y_st rfl rfl rfl rfl rfl (fun _ _ => rfl) ?_
  refine y_st rfl rfl rfl rfl rfl (fun _ _ => rfl) ?_
  refine y_gf rfl rfl rfl rfl rfl ?_
  refine y_st rfl rfl rfl rfl rfl (fun _ _ => rfl) ?_
  show yP (xg xs) (d + 1) 377 76 [(4, .int u4), (3, .int (m.1 58 45)), (2, .int (m.1 85 l1.toNatClampNeg)), (0, .ref 58), (1, .int l1)] [.int l1, .ref 86, .int (13 : Int32), .ref 58] m4 Q
  refine y_iald rfl rfl rfl (H.1) ?_
  replace H := H.2
  refine y_st rfl rfl rfl rfl rfl (fun _ _ => rfl) ?_
  refine y_st rfl rfl rfl rfl rfl (fun _ _ => rfl) ?_
  show yP (xg xs) (d + 1) 377 79 [(4, .int u4), (3, .int (m.1 58 45)), (2, .int (m.1 85 l1.toNatClampNeg)), (0, .ref 58), (1, .int l1)] [.int (0 : Int32), .int (0 : Int32), .int (m4.1 86 l1.toNatClampNeg), .int (13 : Int32), .ref 58] m4 Q
  refine y_call rfl rfl rfl rfl rfl (Nat.le_of_ble_eq_true rfl) (Nat.le_of_ble_eq_true rfl) rfl (by decide) H (fun v5 m5 H => ?_)
  obtain ⟨u5, rfl, H⟩ := H
  refine y_st rfl rfl rfl rfl rfl (fun _ _ => rfl) ?_
  refine y_st rfl rfl rfl rfl rfl (fun _ _ => rfl) ?_
  refine y_st rfl rfl rfl rfl rfl (fun _ _ => rfl) ?_
  refine y_gf rfl rfl rfl rfl rfl ?_
  refine y_st rfl rfl rfl rfl rfl (fun _ _ => rfl) ?_
  refine y_st rfl rfl rfl rfl rfl (fun _ _ => rfl) ?_
  refine y_st rfl rfl rfl rfl rfl (fun _ _ => rfl) ?_
  refine y_st rfl rfl rfl rfl rfl (fun _ _ => rfl) ?_
  refine y_gf rfl rfl rfl rfl rfl ?_
  refine y_st rfl rfl rfl rfl rfl (fun _ _ => rfl) ?_
  show yP (xg xs) (d + 1) 377 99 [(6, .int (u5 - (m5.1 58 53))), (5, .int u5), (4, .int u4), (3, .int (m.1 58 45)), (2, .int (m.1 85 l1.toNatClampNeg)), (0, .ref 58), (1, .int l1)] [.int l1, .ref 67, .ref 58] m5 Q
  refine y_iald rfl rfl rfl (H.1) ?_
  replace H := H.2
  show yP (xg xs) (d + 1) 377 100 [(6, .int (u5 - (m5.1 58 53))), (5, .int u5), (4, .int u4), (3, .int (m.1 58 45)), (2, .int (m.1 85 l1.toNatClampNeg)), (0, .ref 58), (1, .int l1)] [.int (m5.1 67 l1.toNatClampNeg), .ref 58] m5 Q
  refine y_call rfl rfl rfl rfl rfl (Nat.le_of_ble_eq_true rfl) (Nat.le_of_ble_eq_true rfl) rfl (by decide) H (fun v6 m6 H => ?_)
  obtain ⟨rfl, H⟩ := H
  refine y_st rfl rfl rfl rfl rfl (fun _ _ => rfl) ?_
  refine y_st rfl rfl rfl rfl rfl (fun _ _ => rfl) ?_
  refine y_st rfl rfl rfl rfl rfl (fun _ _ => rfl) ?_
  refine y_gf rfl rfl rfl rfl rfl ?_
  refine y_st rfl rfl rfl rfl rfl (fun _ _ => rfl) ?_
  show yP (xg xs) (d + 1) 377 110 [(6, .int (u5 - (m5.1 58 53))), (5, .int u5), (4, .int u4), (3, .int (m.1 58 45)), (2, .int (m.1 85 l1.toNatClampNeg)), (0, .ref 58), (1, .int l1)] [.int (m.1 85 l1.toNatClampNeg), .ref 80, .int (1 : Int32), .ref 58] m6 Q
  refine y_iald rfl rfl rfl (H.1) ?_
  replace H := H.2
  refine y_st rfl rfl rfl rfl rfl (fun _ _ => rfl) ?_
  refine y_st rfl rfl rfl rfl rfl (fun _ _ => rfl) ?_
  show yP (xg xs) (d + 1) 377 113 [(6, .int (u5 - (m5.1 58 53))), (5, .int u5), (4, .int u4), (3, .int (m.1 58 45)), (2, .int (m.1 85 l1.toNatClampNeg)), (0, .ref 58), (1, .int l1)] [.int (0 : Int32), .int (0 : Int32), .int (m6.1 80 ((m.1 85 l1.toNatClampNeg).toNatClampNeg)), .int (1 : Int32), .ref 58] m6 Q
  refine y_call rfl rfl rfl rfl rfl (Nat.le_of_ble_eq_true rfl) (Nat.le_of_ble_eq_true rfl) rfl (by decide) H (fun v7 m7 H => ?_)
  obtain ⟨u7, rfl, H⟩ := H
  refine y_st rfl rfl rfl rfl rfl (fun _ _ => rfl) ?_
  refine y_st rfl rfl rfl rfl rfl (fun _ _ => rfl) ?_
  refine y_st rfl rfl rfl rfl rfl (fun _ _ => rfl) ?_
  refine y_st rfl rfl rfl rfl rfl (fun _ _ => rfl) ?_
  refine y_st rfl rfl rfl rfl rfl (fun _ _ => rfl) ?_
  show yP (xg xs) (d + 1) 377 122 [(4, .int u7), (6, .int (u5 - (m5.1 58 53))), (5, .int u5), (3, .int (m.1 58 45)), (2, .int (m.1 85 l1.toNatClampNeg)), (0, .ref 58), (1, .int l1)] [.int l1, .ref 58, .int (0 : Int32), .ref 58] m7 Q
  refine y_call rfl rfl rfl rfl rfl (Nat.le_of_ble_eq_true rfl) (Nat.le_of_ble_eq_true rfl) rfl (by decide) H (fun v8 m8 H => ?_)
  obtain ⟨u8, rfl, H⟩ := H
  refine y_st rfl rfl rfl rfl rfl (fun _ _ => rfl) ?_
  refine y_st rfl rfl rfl rfl rfl (fun _ _ => rfl) ?_
  show yP (xg xs) (d + 1) 377 127 [(4, .int u7), (6, .int (u5 - (m5.1 58 53))), (5, .int u5), (3, .int (m.1 58 45)), (2, .int (m.1 85 l1.toNatClampNeg)), (0, .ref 58), (1, .int l1)] [.int (0 : Int32), .int (0 : Int32), .int u8, .int (0 : Int32), .ref 58] m8 Q
  refine y_call rfl rfl rfl rfl rfl (Nat.le_of_ble_eq_true rfl) (Nat.le_of_ble_eq_true rfl) rfl (by decide) H (fun v9 m9 H => ?_)
  obtain ⟨u9, rfl, H⟩ := H
  refine y_st rfl rfl rfl rfl rfl (fun _ _ => rfl) ?_
  refine y_st rfl rfl rfl rfl rfl (fun _ _ => rfl) ?_
  refine y_st rfl rfl rfl rfl rfl (fun _ _ => rfl) ?_
  refine y_st rfl rfl rfl rfl rfl (fun _ _ => rfl) ?_
  refine y_gf rfl rfl rfl rfl rfl ?_
  refine y_st rfl rfl rfl rfl rfl (fun _ _ => rfl) ?_
  show yP (xg xs) (d + 1) 377 140 [(4, .int u9), (6, .int (u5 - (m5.1 58 53))), (5, .int u5), (3, .int (m.1 58 45)), (2, .int (m.1 85 l1.toNatClampNeg)), (0, .ref 58), (1, .int l1)] [.int (m.1 85 l1.toNatClampNeg), .ref 77, .int (7 : Int32), .ref 58] m9 Q
  refine y_iald rfl rfl rfl (H.1) ?_
  replace H := H.2
  refine y_st rfl rfl rfl rfl rfl (fun _ _ => rfl) ?_
  show yP (xg xs) (d + 1) 377 142 [(4, .int u9), (6, .int (u5 - (m5.1 58 53))), (5, .int u5), (3, .int (m.1 58 45)), (2, .int (m.1 85 l1.toNatClampNeg)), (0, .ref 58), (1, .int l1)] [.int (1 : Int32), .int (m9.1 77 ((m.1 85 l1.toNatClampNeg).toNatClampNeg)), .int (7 : Int32), .ref 58] m9 Q
  refine y_ine (t := 149) rfl rfl rfl (fun h => ?_) (fun h => ?_)
  · replace H := H.1 h; clear h
    refine y_st rfl rfl rfl rfl rfl (fun _ _ => rfl) ?_
    show yP (xg xs) (d + 1) 377 150 [(4, .int u9), (6, .int (u5 - (m5.1 58 53))), (5, .int u5), (3, .int (m.1 58 45)), (2, .int (m.1 85 l1.toNatClampNeg)), (0, .ref 58), (1, .int l1)] [.int (5 : Int32), .int (7 : Int32), .ref 58] m9 Q
    refine y_headS (l2 := [(0, .ref 58), (1, .int l1), (2, .int (m.1 85 l1.toNatClampNeg)), (3, .int (m.1 58 45)), (5, .int u5), (6, .int (u5 - (m5.1 58 53)))]) [5, 6, 4, 3, 2, 1] [0, 1, 2, 3, 5, 6] [4, 6, 5, 3, 2, 0, 1] rfl rfl (by decide) rfl (by decide) ?_
    exact H
  · replace H := H.2 h; clear h
    refine y_st rfl rfl rfl rfl rfl (fun _ _ => rfl) ?_
    refine y_st rfl rfl rfl rfl rfl (fun _ _ => rfl) ?_
    show yP (xg xs) (d + 1) 377 150 [(4, .int u9), (6, .int (u5 - (m5.1 58 53))), (5, .int u5), (3, .int (m.1 58 45)), (2, .int (m.1 85 l1.toNatClampNeg)), (0, .ref 58), (1, .int l1)] [.int (0 : Int32), .int (7 : Int32), .ref 58] m9 Q
    refine y_headS (l2 := [(0, .ref 58), (1, .int l1), (2, .int (m.1 85 l1.toNatClampNeg)), (3, .int (m.1 58 45)), (5, .int u5), (6, .int (u5 - (m5.1 58 53)))]) [5, 6, 4, 3, 2, 1] [0, 1, 2, 3, 5, 6] [4, 6, 5, 3, 2, 0, 1] rfl rfl (by decide) rfl (by decide) ?_
    exact H
set_option maxRecDepth 20000 in
/-- CodeMakerModel.writeFor from 150 on -/
theorem w377_150 (xs : List Int32) (d : Nat) (l1 : Int32) (l2 : Int32) (l3 : Int32) (l5 : Int32) (l6 : Int32) (s1 : Int32) (s2 : Int32) (m : yM) (Q : Option Value → yM → Prop) (H : (yC (xg xs) d 369 [.ref 58, .int s1, .int s2, .int (0 : Int32), .int (0 : Int32)] m (fun v1 m1 => ∃ u1, v1 = some (Value.int u1) ∧ (x_in l2 4700 = true ∧ (yC (xg xs) d 369 [.ref 58, .int (2 : Int32), .int (m1.1 80 l2.toNatClampNeg), .int (0 : Int32), .int (0 : Int32)] m1 (fun v2 m2 => ∃ u2, v2 = some (Value.int u2) ∧ (yC (xg xs) d 369 [.ref 58, .int (14 : Int32), .int l6, .int (0 : Int32), .int (0 : Int32)] m2 (fun v3 m3 => ∃ u3, v3 = some (Value.int u3) ∧ (yC (xg xs) d 376 [.ref 58] m3 (fun v4 m4 => ∃ u4, v4 = some (Value.int u4) ∧ (x_in l5 3001 = true ∧ yP (xg xs) (d + 1) 377 198 [(0, .ref 58), (1, .int l1), (7, .int l3)] [] (y_si m4 91 l5.toNatClampNeg u4) Q))))))))))) : yP (xg xs) (d + 1) 377 150 [(0, .ref 58), (1, .int l1), (2, .int l2), (3, .int l3), (5, .int l5), (6, .int l6)] [.int s2, .int s1, .ref 58] m Q := by
  refine y_st rfl rfl rfl rfl rfl (fun _ _ => rfl) ?_
  refine y_st rfl rfl rfl rfl rfl (fun _ _ => rfl) ?_
  show yP (xg xs) (d + 1) 377 152 [(0, .ref 58), (1, .int l1), (2, .int l2), (3, .int l3), (5, .int l5), (6, .int l6)] [.int (0 : Int32), .int (0 : Int32), .int s2, .int s1, .ref 58] m Q
  refine y_call rfl rfl rfl rfl rfl (Nat.le_of_ble_eq_true rfl) (Nat.le_of_ble_eq_true rfl) rfl (by decide) H (fun v1 m1 H => ?_)
  obtain ⟨u1, rfl, H⟩ := H
  refine y_st rfl rfl rfl rfl rfl (fun _ _ => rfl) ?_
  refine y_st rfl rfl rfl rfl rfl (fun _ _ => rfl) ?_
  refine y_st rfl rfl rfl rfl rfl (fun _ _ => rfl) ?_
  refine y_st rfl rfl rfl rfl rfl (fun _ _ => rfl) ?_
  refine y_gf rfl rfl rfl rfl rfl ?_
  refine y_st rfl rfl rfl rfl rfl (fun _ _ => rfl) ?_
  show yP (xg xs) (d + 1) 377 164 [(4, .int u1), (0, .ref 58), (1, .int l1), (2, .int l2), (3, .int l3), (5, .int l5), (6, .int l6)] [.int l2, .ref 80, .int (2 : Int32), .ref 58] m1 Q
  refine y_iald rfl rfl rfl (H.1) ?_
  replace H := H.2
  refine y_st rfl rfl rfl rfl rfl (fun _ _ => rfl) ?_
  refine y_st rfl rfl rfl rfl rfl (fun _ _ => rfl) ?_
  show yP (xg xs) (d + 1) 377 167 [(4, .int u1), (0, .ref 58), (1, .int l1), (2, .int l2), (3, .int l3), (5, .int l5), (6, .int l6)] [.int (0 : Int32), .int (0 : Int32), .int (m1.1 80 l2.toNatClampNeg), .int (2 : Int32), .ref 58] m1 Q
  refine y_call rfl rfl rfl rfl rfl (Nat.le_of_ble_eq_true rfl) (Nat.le_of_ble_eq_true rfl) rfl (by decide) H (fun v2 m2 H => ?_)
  obtain ⟨u2, rfl, H⟩ := H
  refine y_st rfl rfl rfl rfl rfl (fun _ _ => rfl) ?_
  refine y_st rfl rfl rfl rfl rfl (fun _ _ => rfl) ?_
  refine y_st rfl rfl rfl rfl rfl (fun _ _ => rfl) ?_
  refine y_st rfl rfl rfl rfl rfl (fun _ _ => rfl) ?_
  refine y_st rfl rfl rfl rfl rfl (fun _ _ => rfl) ?_
  refine y_st rfl rfl rfl rfl rfl (fun _ _ => rfl) ?_
  show yP (xg xs) (d + 1) 377 179 [(4, .int u2), (0, .ref 58), (1, .int l1), (2, .int l2), (3, .int l3), (5, .int l5), (6, .int l6)] [.int (0 : Int32), .int (0 : Int32), .int l6, .int (14 : Int32), .ref 58] m2 Q
  refine y_call rfl rfl rfl rfl rfl (Nat.le_of_ble_eq_true rfl) (Nat.le_of_ble_eq_true rfl) rfl (by decide) H (fun v3 m3 H => ?_)
  obtain ⟨u3, rfl, H⟩ := H
  refine y_st rfl rfl rfl rfl rfl (fun _ _ => rfl) ?_
  refine y_st rfl rfl rfl rfl rfl (fun _ _ => rfl) ?_
  refine y_gf rfl rfl rfl rfl rfl ?_
  refine y_st rfl rfl rfl rfl rfl (fun _ _ => rfl) ?_
  refine y_st rfl rfl rfl rfl rfl (fun _ _ => rfl) ?_
  show yP (xg xs) (d + 1) 377 191 [(4, .int u3), (0, .ref 58), (1, .int l1), (2, .int l2), (3, .int l3), (5, .int l5), (6, .int l6)] [.ref 58, .int l5, .ref 91] m3 Q
  refine y_call rfl rfl rfl rfl rfl (Nat.le_of_ble_eq_true rfl) (Nat.le_of_ble_eq_true rfl) rfl (by decide) H (fun v4 m4 H => ?_)
  obtain ⟨u4, rfl, H⟩ := H
  show yP (xg xs) (d + 1) 377 194 [(4, .int u3), (0, .ref 58), (1, .int l1), (2, .int l2), (3, .int l3), (5, .int l5), (6, .int l6)] [.int u4, .int l5, .ref 91] m4 Q
  refine y_iast rfl rfl rfl (H.1) ?_
  replace H := H.2
  refine y_st rfl rfl rfl rfl rfl (fun _ _ => rfl) ?_
  refine y_st rfl rfl rfl rfl rfl (fun _ _ => rfl) ?_
  show yP (xg xs) (d + 1) 377 198 [(7, .int l3), (4, .int u3), (0, .ref 58), (1, .int l1), (2, .int l2), (3, .int l3), (5, .int l5), (6, .int l6)] [] (y_si m4 91 l5.toNatClampNeg u4) Q
  refine y_headS (l2 := [(0, .ref 58), (1, .int l1), (7, .int l3)]) [2, 3, 0] [0, 1, 7] [7, 4, 0, 1, 2, 3, 5, 6] rfl rfl (by decide) rfl (by decide) ?_
  exact H
set_option maxRecDepth 20000 in
/-- CodeMakerModel.writeFor from 198 on -/
theorem w377_198 (xs : List Int32) (d : Nat) (l1 : Int32) (l7 : Int32) (m : yM) (Q : Option Value → yM → Prop) (H : (((m.1 58 45) ≤ l7 → Q none m) ∧ (¬ (m.1 58 45) ≤ l7 → (x_in l7 3001 = true ∧ ((¬ (m.1 95 l7.toNatClampNeg) = l1 → yP (xg xs) (d + 1) 377 229 [(0, .ref 58), (1, .int l1), (7, .int l7)] [] m Q) ∧ ((m.1 95 l7.toNatClampNeg) = l1 → (yC (xg xs) d 376 [.ref 58] m (fun v1 m1 => ∃ u1, v1 = some (Value.int u1) ∧ (x_in l7 3001 = true ∧ yP (xg xs) (d + 1) 377 229 [(0, .ref 58), (1, .int l1), (7, .int l7)] [] (y_si m1 90 l7.toNatClampNeg u1) Q))))))))) : yP (xg xs) (d + 1) 377 198 [(0, .ref 58), (1, .int l1), (7, .int l7)] [] m Q := by
  refine y_st rfl rfl rfl rfl rfl (fun _ _ => rfl) ?_
  refine y_st rfl rfl rfl rfl rfl (fun _ _ => rfl) ?_
  refine y_gf rfl rfl rfl rfl rfl ?_
  show yP (xg xs) (d + 1) 377 204 [(0, .ref 58), (1, .int l1), (7, .int l7)] [.int (m.1 58 45), .int l7] m Q
  refine y_ige (t := 235) rfl rfl rfl (fun h => ?_) (fun h => ?_)
  · replace H := H.1 h; clear h
    show yP (xg xs) (d + 1) 377 235 [(0, .ref 58), (1, .int l1), (7, .int l7)] [] m Q
    exact y_ret rfl rfl rfl rfl H
  · replace H := H.2 h; clear h
    refine y_st rfl rfl rfl rfl rfl (fun _ _ => rfl) ?_
    refine y_gf rfl rfl rfl rfl rfl ?_
    refine y_st rfl rfl rfl rfl rfl (fun _ _ => rfl) ?_
    show yP (xg xs) (d + 1) 377 213 [(0, .ref 58), (1, .int l1), (7, .int l7)] [.int l7, .ref 95] m Q
    refine y_iald rfl rfl rfl (H.1) ?_
    replace H := H.2
    refine y_st rfl rfl rfl rfl rfl (fun _ _ => rfl) ?_
    show yP (xg xs) (d + 1) 377 215 [(0, .ref 58), (1, .int l1), (7, .int l7)] [.int l1, .int (m.1 95 l7.toNatClampNeg)] m Q
    refine y_ine (t := 229) rfl rfl rfl (fun h => ?_) (fun h => ?_)
    · replace H := H.1 h; clear h
      show yP (xg xs) (d + 1) 377 229 [(0, .ref 58), (1, .int l1), (7, .int l7)] [] m Q
      exact H
    · replace H := H.2 h; clear h
      refine y_st rfl rfl rfl rfl rfl (fun _ _ => rfl) ?_
      refine y_gf rfl rfl rfl rfl rfl ?_
      refine y_st rfl rfl rfl rfl rfl (fun _ _ => rfl) ?_
      refine y_st rfl rfl rfl rfl rfl (fun _ _ => rfl) ?_
      show yP (xg xs) (d + 1) 377 225 [(0, .ref 58), (1, .int l1), (7, .int l7)] [.ref 58, .int l7, .ref 90] m Q
      refine y_call rfl rfl rfl rfl rfl (Nat.le_of_ble_eq_true rfl) (Nat.le_of_ble_eq_true rfl) rfl (by decide) H (fun v1 m1 H => ?_)
      obtain ⟨u1, rfl, H⟩ := H
      show yP (xg xs) (d + 1) 377 228 [(0, .ref 58), (1, .int l1), (7, .int l7)] [.int u1, .int l7, .ref 90] m1 Q
      refine y_iast rfl rfl rfl (H.1) ?_
      replace H := H.2
      show yP (xg xs) (d + 1) 377 229 [(0, .ref 58), (1, .int l1), (7, .int l7)] [] (y_si m1 90 l7.toNatClampNeg u1) Q
      exact H
set_option maxRecDepth 20000 in
/-- CodeMakerModel.writeFor from 229 on -/
theorem w377_229 (xs : List Int32) (d : Nat) (l1 : Int32) (l7 : Int32) (m : yM) (Q : Option Value → yM → Prop) (H : yP (xg xs) (d + 1) 377 198 [(0, .ref 58), (1, .int l1), (7, .int (l7 + (1 : Int32)))] [] m Q) : yP (xg xs) (d + 1) 377 229 [(0, .ref 58), (1, .int l1), (7, .int l7)] [] m Q := by
  refine y_st rfl rfl rfl rfl rfl (fun _ _ => rfl) ?_
  refine y_st rfl rfl rfl rfl rfl (fun _ _ => rfl) ?_
  show yP (xg xs) (d + 1) 377 198 [(7, .int (l7 + (1 : Int32))), (0, .ref 58), (1, .int l1)] [] m Q
  refine y_headS (l2 := [(0, .ref 58), (1, .int l1), (7, .int (l7 + (1 : Int32)))]) [1, 2, 0] [0, 1, 7] [7, 0, 1] rfl rfl (by decide) rfl (by decide) ?_
  exact H
set_option maxRecDepth 20000 in
/-- CodeMakerModel.writeRung from 0 on -/
theorem w378_0 (xs : List Int32) (d : Nat) (l1 : Int32) (m : yM) (Q : Option Value → yM → Prop) (H : (x_in l1 20000 = true ∧ (yC (xg xs) d 353 [.ref 58, .int (m.1 66 l1.toNatClampNeg)] m (fun v1 m1 => ∃ u1, v1 = some (Value.int u1) ∧ yP (xg xs) (d + 1) 378 16 [(0, .ref 58), (1, .int l1), (2, .int u1), (4, .int (1 : Int32))] [] m1 Q)))) : yP (xg xs) (d + 1) 378 0 [(0, .ref 58), (1, .int l1)] [] m Q := by
  refine y_st rfl rfl rfl rfl rfl (fun _ _ => rfl) ?_
  refine y_st rfl rfl rfl rfl rfl (fun _ _ => rfl) ?_
  refine y_gf rfl rfl rfl rfl rfl ?_
  refine y_st rfl rfl rfl rfl rfl (fun _ _ => rfl) ?_
  show yP (xg xs) (d + 1) 378 6 [(0, .ref 58), (1, .int l1)] [.int l1, .ref 66, .ref 58] m Q
  refine y_iald rfl rfl rfl (H.1) ?_
  replace H := H.2
  show yP (xg xs) (d + 1) 378 7 [(0, .ref 58), (1, .int l1)] [.int (m.1 66 l1.toNatClampNeg), .ref 58] m Q
  refine y_call rfl rfl rfl rfl rfl (Nat.le_of_ble_eq_true rfl) (Nat.le_of_ble_eq_true rfl) rfl (by decide) H (fun v1 m1 H => ?_)
  obtain ⟨u1, rfl, H⟩ := H
  refine y_st rfl rfl rfl rfl rfl (fun _ _ => rfl) ?_
  refine y_st rfl rfl rfl rfl rfl (fun _ _ => rfl) ?_
  refine y_st rfl rfl rfl rfl rfl (fun _ _ => rfl) ?_
  refine y_st rfl rfl rfl rfl rfl (fun _ _ => rfl) ?_
  refine y_st rfl rfl rfl rfl rfl (fun _ _ => rfl) ?_
  show yP (xg xs) (d + 1) 378 16 [(4, .int (1 : Int32)), (3, .int (0 : Int32)), (2, .int u1), (0, .ref 58), (1, .int l1)] [] m1 Q
  refine y_headS (l2 := [(0, .ref 58), (1, .int l1), (2, .int u1), (4, .int (1 : Int32))]) [3, 4, 2, 0] [0, 1, 2, 4] [4, 3, 2, 0, 1] rfl rfl (by decide) rfl (by decide) ?_
  exact H
set_option maxRecDepth 20000 in
/-- CodeMakerModel.writeRung from 16 on -/
theorem w378_16 (xs : List Int32) (d : Nat) (l1 : Int32) (l2 : Int32) (l4 : Int32) (m : yM) (Q : Option Value → yM → Prop) (H : ((l2 < l4 → yP (xg xs) (d + 1) 378 121 [(0, .ref 58), (1, .int l1), (2, .int l2)] [] m Q) ∧ (¬ l2 < l4 → ((¬ (m.1 58 50) = 0 → yP (xg xs) (d + 1) 378 121 [(0, .ref 58), (1, .int l1), (2, .int l2)] [] m Q) ∧ ((m.1 58 50) = 0 → yP (xg xs) (d + 1) 378 32 [(0, .ref 58), (1, .int l1), (2, .int l2), (4, .int l4), (5, .int (0 : Int32))] [] m Q))))) : yP (xg xs) (d + 1) 378 16 [(0, .ref 58), (1, .int l1), (2, .int l2), (4, .int l4)] [] m Q := by
  refine y_st rfl rfl rfl rfl rfl (fun _ _ => rfl) ?_
  refine y_st rfl rfl rfl rfl rfl (fun _ _ => rfl) ?_
  show yP (xg xs) (d + 1) 378 19 [(0, .ref 58), (1, .int l1), (2, .int l2), (4, .int l4)] [.int l2, .int l4] m Q
  refine y_igt (t := 121) rfl rfl rfl (fun h => ?_) (fun h => ?_)
  · replace H := H.1 h; clear h
    show yP (xg xs) (d + 1) 378 121 [(0, .ref 58), (1, .int l1), (2, .int l2), (4, .int l4)] [] m Q
    refine y_headS (l2 := [(0, .ref 58), (1, .int l1), (2, .int l2)]) [0, 1, 2] [0, 1, 2] [0, 1, 2, 4] rfl rfl (by decide) rfl (by decide) ?_
    exact H
  · replace H := H.2 h; clear h
    refine y_st rfl rfl rfl rfl rfl (fun _ _ => rfl) ?_
    refine y_gf rfl rfl rfl rfl rfl ?_
    show yP (xg xs) (d + 1) 378 26 [(0, .ref 58), (1, .int l1), (2, .int l2), (4, .int l4)] [.int (m.1 58 50)] m Q
    refine y_zne (t := 121) rfl rfl rfl (fun h => ?_) (fun h => ?_)
    · replace H := H.1 h; clear h
      show yP (xg xs) (d + 1) 378 121 [(0, .ref 58), (1, .int l1), (2, .int l2), (4, .int l4)] [] m Q
      refine y_headS (l2 := [(0, .ref 58), (1, .int l1), (2, .int l2)]) [0, 1, 2] [0, 1, 2] [0, 1, 2, 4] rfl rfl (by decide) rfl (by decide) ?_
      exact H
    · replace H := H.2 h; clear h
      refine y_st rfl rfl rfl rfl rfl (fun _ _ => rfl) ?_
      refine y_st rfl rfl rfl rfl rfl (fun _ _ => rfl) ?_
      show yP (xg xs) (d + 1) 378 32 [(5, .int (0 : Int32)), (0, .ref 58), (1, .int l1), (2, .int l2), (4, .int l4)] [] m Q
      refine y_headS (l2 := [(0, .ref 58), (1, .int l1), (2, .int l2), (4, .int l4), (5, .int (0 : Int32))]) [1, 2, 3, 4, 0] [0, 1, 2, 4, 5] [5, 0, 1, 2, 4] rfl rfl (by decide) rfl (by decide) ?_
      exact H
set_option maxRecDepth 20000 in
/-- CodeMakerModel.writeRung from 32 on -/
theorem w378_32 (xs : List Int32) (d : Nat) (l1 : Int32) (l2 : Int32) (l4 : Int32) (l5 : Int32) (m : yM) (Q : Option Value → yM → Prop) (H : (x_in l1 20000 = true ∧ (((m.1 69 l1.toNatClampNeg) ≤ l5 → yP (xg xs) (d + 1) 378 16 [(0, .ref 58), (1, .int l1), (2, .int l2), (4, .int (l4 + (1 : Int32)))] [] m Q) ∧ (¬ (m.1 69 l1.toNatClampNeg) ≤ l5 → ((¬ l4 = l2 → yP (xg xs) (d + 1) 378 78 [(0, .ref 58), (1, .int l1), (2, .int l2), (4, .int l4), (5, .int l5)] [] m Q) ∧ (l4 = l2 → (yC (xg xs) d 350 [.ref 58, .int l1, .int l5] m (fun v1 m1 => ∃ u1, v1 = some (Value.int u1) ∧ (yC (xg xs) d 379 [.ref 58, .int u1, .int (l4 - (1 : Int32))] m1 (fun v2 m2 => ∃ u2, v2 = some (Value.int u2) ∧ (x_in u2 20000 = true ∧ ((¬ (m2.1 62 u2.toNatClampNeg) = (28 : Int32) → yP (xg xs) (d + 1) 378 78 [(0, .ref 58), (1, .int l1), (2, .int l2), (4, .int l4), (5, .int l5)] [] m2 Q) ∧ ((m2.1 62 u2.toNatClampNeg) = (28 : Int32) → yP (xg xs) (d + 1) 378 79 [(0, .ref 58), (1, .int l1), (2, .int l2), (4, .int l4), (5, .int l5)] [.int (1 : Int32)] m2 Q))))))))))))) : yP (xg xs) (d + 1) 378 32 [(0, .ref 58), (1, .int l1), (2, .int l2), (4, .int l4), (5, .int l5)] [] m Q := by
  refine y_st rfl rfl rfl rfl rfl (fun _ _ => rfl) ?_
  refine y_st rfl rfl rfl rfl rfl (fun _ _ => rfl) ?_
  refine y_gf rfl rfl rfl rfl rfl ?_
  refine y_st rfl rfl rfl rfl rfl (fun _ _ => rfl) ?_
  show yP (xg xs) (d + 1) 378 39 [(0, .ref 58), (1, .int l1), (2, .int l2), (4, .int l4), (5, .int l5)] [.int l1, .ref 69, .int l5] m Q
  refine y_iald rfl rfl rfl (H.1) ?_
  replace H := H.2
  show yP (xg xs) (d + 1) 378 40 [(0, .ref 58), (1, .int l1), (2, .int l2), (4, .int l4), (5, .int l5)] [.int (m.1 69 l1.toNatClampNeg), .int l5] m Q
  refine y_ige (t := 115) rfl rfl rfl (fun h => ?_) (fun h => ?_)
  · replace H := H.1 h; clear h
    refine y_st rfl rfl rfl rfl rfl (fun _ _ => rfl) ?_
    refine y_st rfl rfl rfl rfl rfl (fun _ _ => rfl) ?_
    show yP (xg xs) (d + 1) 378 16 [(4, .int (l4 + (1 : Int32))), (0, .ref 58), (1, .int l1), (2, .int l2), (5, .int l5)] [] m Q
    refine y_headS (l2 := [(0, .ref 58), (1, .int l1), (2, .int l2), (4, .int (l4 + (1 : Int32)))]) [1, 2, 3, 0] [0, 1, 2, 4] [4, 0, 1, 2, 5] rfl rfl (by decide) rfl (by decide) ?_
    exact H
  · replace H := H.2 h; clear h
    refine y_st rfl rfl rfl rfl rfl (fun _ _ => rfl) ?_
    refine y_st rfl rfl rfl rfl rfl (fun _ _ => rfl) ?_
    show yP (xg xs) (d + 1) 378 46 [(0, .ref 58), (1, .int l1), (2, .int l2), (4, .int l4), (5, .int l5)] [.int l2, .int l4] m Q
    refine y_ine (t := 78) rfl rfl rfl (fun h => ?_) (fun h => ?_)
    · replace H := H.1 h; clear h
      show yP (xg xs) (d + 1) 378 78 [(0, .ref 58), (1, .int l1), (2, .int l2), (4, .int l4), (5, .int l5)] [] m Q
      exact H
    · replace H := H.2 h; clear h
      refine y_st rfl rfl rfl rfl rfl (fun _ _ => rfl) ?_
      refine y_gf rfl rfl rfl rfl rfl ?_
      refine y_st rfl rfl rfl rfl rfl (fun _ _ => rfl) ?_
      refine y_st rfl rfl rfl rfl rfl (fun _ _ => rfl) ?_
      refine y_st rfl rfl rfl rfl rfl (fun _ _ => rfl) ?_
      refine y_st rfl rfl rfl rfl rfl (fun _ _ => rfl) ?_
      show yP (xg xs) (d + 1) 378 58 [(0, .ref 58), (1, .int l1), (2, .int l2), (4, .int l4), (5, .int l5)] [.int l5, .int l1, .ref 58, .ref 58, .ref 62] m Q
      refine y_call rfl rfl rfl rfl rfl (Nat.le_of_ble_eq_true rfl) (Nat.le_of_ble_eq_true rfl) rfl (by decide) H (fun v1 m1 H => ?_)
      obtain ⟨u1, rfl, H⟩ := H
      refine y_st rfl rfl rfl rfl rfl (fun _ _ => rfl) ?_
      refine y_st rfl rfl rfl rfl rfl (fun _ _ => rfl) ?_
      refine y_st rfl rfl rfl rfl rfl (fun _ _ => rfl) ?_
      show yP (xg xs) (d + 1) 378 65 [(0, .ref 58), (1, .int l1), (2, .int l2), (4, .int l4), (5, .int l5)] [.int (l4 - (1 : Int32)), .int u1, .ref 58, .ref 62] m1 Q
      refine y_call rfl rfl rfl rfl rfl (Nat.le_of_ble_eq_true rfl) (Nat.le_of_ble_eq_true rfl) rfl (by decide) H (fun v2 m2 H => ?_)
      obtain ⟨u2, rfl, H⟩ := H
      show yP (xg xs) (d + 1) 378 68 [(0, .ref 58), (1, .int l1), (2, .int l2), (4, .int l4), (5, .int l5)] [.int u2, .ref 62] m2 Q
      refine y_iald rfl rfl rfl (H.1) ?_
      replace H := H.2
      refine y_st rfl rfl rfl rfl rfl (fun _ _ => rfl) ?_
      show yP (xg xs) (d + 1) 378 71 [(0, .ref 58), (1, .int l1), (2, .int l2), (4, .int l4), (5, .int l5)] [.int (28 : Int32), .int (m2.1 62 u2.toNatClampNeg)] m2 Q
      refine y_ine (t := 78) rfl rfl rfl (fun h => ?_) (fun h => ?_)
      · replace H := H.1 h; clear h
        show yP (xg xs) (d + 1) 378 78 [(0, .ref 58), (1, .int l1), (2, .int l2), (4, .int l4), (5, .int l5)] [] m2 Q
        exact H
      · replace H := H.2 h; clear h
        refine y_st rfl rfl rfl rfl rfl (fun _ _ => rfl) ?_
        refine y_st rfl rfl rfl rfl rfl (fun _ _ => rfl) ?_
        show yP (xg xs) (d + 1) 378 79 [(0, .ref 58), (1, .int l1), (2, .int l2), (4, .int l4), (5, .int l5)] [.int (1 : Int32)] m2 Q
        exact H
set_option maxRecDepth 20000 in
/-- CodeMakerModel.writeRung from 78 on -/
theorem w378_78 (xs : List Int32) (d : Nat) (l1 : Int32) (l2 : Int32) (l4 : Int32) (l5 : Int32) (m : yM) (Q : Option Value → yM → Prop) (H : yP (xg xs) (d + 1) 378 79 [(0, .ref 58), (1, .int l1), (2, .int l2), (4, .int l4), (5, .int l5)] [.int (0 : Int32)] m Q) : yP (xg xs) (d + 1) 378 78 [(0, .ref 58), (1, .int l1), (2, .int l2), (4, .int l4), (5, .int l5)] [] m Q := by
  refine y_st rfl rfl rfl rfl rfl (fun _ _ => rfl) ?_
  show yP (xg xs) (d + 1) 378 79 [(0, .ref 58), (1, .int l1), (2, .int l2), (4, .int l4), (5, .int l5)] [.int (0 : Int32)] m Q
  exact H
set_option maxRecDepth 20000 in
/-- CodeMakerModel.writeRung from 79 on -/
theorem w378_79 (xs : List Int32) (d : Nat) (l1 : Int32) (l2 : Int32) (l4 : Int32) (l5 : Int32) (s0 : Int32) (m : yM) (Q : Option Value → yM → Prop) (H : (yC (xg xs) d 380 [.ref 58, .int l1, .int l5, .int l4] m (fun v1 m1 => ∃ u1, v1 = some (Value.int u1) ∧ ((¬ u1 = l5 → yP (xg xs) (d + 1) 378 109 [(0, .ref 58), (1, .int l1), (2, .int l2), (4, .int l4), (5, .int l5)] [] m1 Q) ∧ (u1 = l5 → ((¬ s0 = 0 → yP (xg xs) (d + 1) 378 109 [(0, .ref 58), (1, .int l1), (2, .int l2), (4, .int l4), (5, .int l5)] [] m1 Q) ∧ (s0 = 0 → (yC (xg xs) d 382 [.ref 58, .int l1, .int l5, .int l4] m1 (fun v2 m2 => v2 = none ∧ yP (xg xs) (d + 1) 378 109 [(0, .ref 58), (1, .int l1), (2, .int l2), (4, .int l4), (5, .int l5)] [] m2 Q))))))))) : yP (xg xs) (d + 1) 378 79 [(0, .ref 58), (1, .int l1), (2, .int l2), (4, .int l4), (5, .int l5)] [.int s0] m Q := by
  refine y_st rfl rfl rfl rfl rfl (fun _ _ => rfl) ?_
  refine y_st rfl rfl rfl rfl rfl (fun _ _ => rfl) ?_
  refine y_st rfl rfl rfl rfl rfl (fun _ _ => rfl) ?_
  refine y_st rfl rfl rfl rfl rfl (fun _ _ => rfl) ?_
  refine y_st rfl rfl rfl rfl rfl (fun _ _ => rfl) ?_
  show yP (xg xs) (d + 1) 378 87 [(6, .int s0), (0, .ref 58), (1, .int l1), (2, .int l2), (4, .int l4), (5, .int l5)] [.int l4, .int l5, .int l1, .ref 58] m Q
  refine y_call rfl rfl rfl rfl rfl (Nat.le_of_ble_eq_true rfl) (Nat.le_of_ble_eq_true rfl) rfl (by decide) H (fun v1 m1 H => ?_)
  obtain ⟨u1, rfl, H⟩ := H
  refine y_st rfl rfl rfl rfl rfl (fun _ _ => rfl) ?_
  show yP (xg xs) (d + 1) 378 92 [(6, .int s0), (0, .ref 58), (1, .int l1), (2, .int l2), (4, .int l4), (5, .int l5)] [.int l5, .int u1] m1 Q
  refine y_ine (t := 109) rfl rfl rfl (fun h => ?_) (fun h => ?_)
  · replace H := H.1 h; clear h
    show yP (xg xs) (d + 1) 378 109 [(6, .int s0), (0, .ref 58), (1, .int l1), (2, .int l2), (4, .int l4), (5, .int l5)] [] m1 Q
    refine y_headS (l2 := [(0, .ref 58), (1, .int l1), (2, .int l2), (4, .int l4), (5, .int l5)]) [1, 2, 3, 4, 5] [0, 1, 2, 4, 5] [6, 0, 1, 2, 4, 5] rfl rfl (by decide) rfl (by decide) ?_
    exact H
  · replace H := H.2 h; clear h
    refine y_st rfl rfl rfl rfl rfl (fun _ _ => rfl) ?_
    show yP (xg xs) (d + 1) 378 97 [(6, .int s0), (0, .ref 58), (1, .int l1), (2, .int l2), (4, .int l4), (5, .int l5)] [.int s0] m1 Q
    refine y_zne (t := 109) rfl rfl rfl (fun h => ?_) (fun h => ?_)
    · replace H := H.1 h; clear h
      show yP (xg xs) (d + 1) 378 109 [(6, .int s0), (0, .ref 58), (1, .int l1), (2, .int l2), (4, .int l4), (5, .int l5)] [] m1 Q
      refine y_headS (l2 := [(0, .ref 58), (1, .int l1), (2, .int l2), (4, .int l4), (5, .int l5)]) [1, 2, 3, 4, 5] [0, 1, 2, 4, 5] [6, 0, 1, 2, 4, 5] rfl rfl (by decide) rfl (by decide) ?_
      exact H
    · replace H := H.2 h; clear h
      refine y_st rfl rfl rfl rfl rfl (fun _ _ => rfl) ?_
      refine y_st rfl rfl rfl rfl rfl (fun _ _ => rfl) ?_
      refine y_st rfl rfl rfl rfl rfl (fun _ _ => rfl) ?_
      refine y_st rfl rfl rfl rfl rfl (fun _ _ => rfl) ?_
      show yP (xg xs) (d + 1) 378 106 [(6, .int s0), (0, .ref 58), (1, .int l1), (2, .int l2), (4, .int l4), (5, .int l5)] [.int l4, .int l5, .int l1, .ref 58] m1 Q
      refine y_call rfl rfl rfl rfl rfl (Nat.le_of_ble_eq_true rfl) (Nat.le_of_ble_eq_true rfl) rfl (by decide) H (fun v2 m2 H => ?_)
      obtain ⟨rfl, H⟩ := H
      show yP (xg xs) (d + 1) 378 109 [(6, .int s0), (0, .ref 58), (1, .int l1), (2, .int l2), (4, .int l4), (5, .int l5)] [] m2 Q
      refine y_headS (l2 := [(0, .ref 58), (1, .int l1), (2, .int l2), (4, .int l4), (5, .int l5)]) [1, 2, 3, 4, 5] [0, 1, 2, 4, 5] [6, 0, 1, 2, 4, 5] rfl rfl (by decide) rfl (by decide) ?_
      exact H
set_option maxRecDepth 20000 in
/-- CodeMakerModel.writeRung from 109 on -/
theorem w378_109 (xs : List Int32) (d : Nat) (l1 : Int32) (l2 : Int32) (l4 : Int32) (l5 : Int32) (m : yM) (Q : Option Value → yM → Prop) (H : yP (xg xs) (d + 1) 378 32 [(0, .ref 58), (1, .int l1), (2, .int l2), (4, .int l4), (5, .int (l5 + (1 : Int32)))] [] m Q) : yP (xg xs) (d + 1) 378 109 [(0, .ref 58), (1, .int l1), (2, .int l2), (4, .int l4), (5, .int l5)] [] m Q := by
  refine y_st rfl rfl rfl rfl rfl (fun _ _ => rfl) ?_
  refine y_st rfl rfl rfl rfl rfl (fun _ _ => rfl) ?_
  show yP (xg xs) (d + 1) 378 32 [(5, .int (l5 + (1 : Int32))), (0, .ref 58), (1, .int l1), (2, .int l2), (4, .int l4)] [] m Q
  refine y_headS (l2 := [(0, .ref 58), (1, .int l1), (2, .int l2), (4, .int l4), (5, .int (l5 + (1 : Int32)))]) [1, 2, 3, 4, 0] [0, 1, 2, 4, 5] [5, 0, 1, 2, 4] rfl rfl (by decide) rfl (by decide) ?_
  exact H
set_option maxRecDepth 20000 in
/-- CodeMakerModel.writeRung from 121 on -/
theorem w378_121 (xs : List Int32) (d : Nat) (l1 : Int32) (l2 : Int32) (m : yM) (Q : Option Value → yM → Prop) (H : yP (xg xs) (d + 1) 378 124 [(0, .ref 58), (1, .int l1), (2, .int l2), (4, .int (0 : Int32))] [] m Q) : yP (xg xs) (d + 1) 378 121 [(0, .ref 58), (1, .int l1), (2, .int l2)] [] m Q := by
  refine y_st rfl rfl rfl rfl rfl (fun _ _ => rfl) ?_
  refine y_st rfl rfl rfl rfl rfl (fun _ _ => rfl) ?_
  show yP (xg xs) (d + 1) 378 124 [(4, .int (0 : Int32)), (0, .ref 58), (1, .int l1), (2, .int l2)] [] m Q
  refine y_headS (l2 := [(0, .ref 58), (1, .int l1), (2, .int l2), (4, .int (0 : Int32))]) [1, 2, 3, 0] [0, 1, 2, 4] [4, 0, 1, 2] rfl rfl (by decide) rfl (by decide) ?_
  exact H
set_option maxRecDepth 20000 in
/-- CodeMakerModel.writeRung from 124 on -/
theorem w378_124 (xs : List Int32) (d : Nat) (l1 : Int32) (l2 : Int32) (l4 : Int32) (m : yM) (Q : Option Value → yM → Prop) (H : (x_in l1 20000 = true ∧ (((m.1 69 l1.toNatClampNeg) ≤ l4 → Q none m) ∧ (¬ (m.1 69 l1.toNatClampNeg) ≤ l4 → (yC (xg xs) d 350 [.ref 58, .int l1, .int l4] m (fun v1 m1 => ∃ u1, v1 = some (Value.int u1) ∧ (yC (xg xs) d 379 [.ref 58, .int u1, .int (l2 - (1 : Int32))] m1 (fun v2 m2 => ∃ u2, v2 = some (Value.int u2) ∧ (x_in u2 20000 = true ∧ ((¬ (m2.1 62 u2.toNatClampNeg) = (28 : Int32) → yP (xg xs) (d + 1) 378 175 [(0, .ref 58), (1, .int l1), (2, .int l2), (4, .int l4)] [] m2 Q) ∧ ((m2.1 62 u2.toNatClampNeg) = (28 : Int32) → (yC (xg xs) d 386 [.ref 58, .int l1, .int l4, .int u2, .int (l2 - (1 : Int32))] m2 (fun v3 m3 => v3 = none ∧ yP (xg xs) (d + 1) 378 175 [(0, .ref 58), (1, .int l1), (2, .int l2), (4, .int l4)] [] m3 Q))))))))))))) : yP (xg xs) (d + 1) 378 124 [(0, .ref 58), (1, .int l1), (2, .int l2), (4, .int l4)] [] m Q := by
  refine y_st rfl rfl rfl rfl rfl (fun _ _ => rfl) ?_
  refine y_st rfl rfl rfl rfl rfl (fun _ _ => rfl) ?_
  refine y_gf rfl rfl rfl rfl rfl ?_
  refine y_st rfl rfl rfl rfl rfl (fun _ _ => rfl) ?_
  show yP (xg xs) (d + 1) 378 131 [(0, .ref 58), (1, .int l1), (2, .int l2), (4, .int l4)] [.int l1, .ref 69, .int l4] m Q
  refine y_iald rfl rfl rfl (H.1) ?_
  replace H := H.2
  show yP (xg xs) (d + 1) 378 132 [(0, .ref 58), (1, .int l1), (2, .int l2), (4, .int l4)] [.int (m.1 69 l1.toNatClampNeg), .int l4] m Q
  refine y_ige (t := 181) rfl rfl rfl (fun h => ?_) (fun h => ?_)
  · replace H := H.1 h; clear h
    show yP (xg xs) (d + 1) 378 181 [(0, .ref 58), (1, .int l1), (2, .int l2), (4, .int l4)] [] m Q
    exact y_ret rfl rfl rfl rfl H
  · replace H := H.2 h; clear h
    refine y_st rfl rfl rfl rfl rfl (fun _ _ => rfl) ?_
    refine y_st rfl rfl rfl rfl rfl (fun _ _ => rfl) ?_
    refine y_st rfl rfl rfl rfl rfl (fun _ _ => rfl) ?_
    refine y_st rfl rfl rfl rfl rfl (fun _ _ => rfl) ?_
    show yP (xg xs) (d + 1) 378 140 [(0, .ref 58), (1, .int l1), (2, .int l2), (4, .int l4)] [.int l4, .int l1, .ref 58, .ref 58] m Q
    refine y_call rfl rfl rfl rfl rfl (Nat.le_of_ble_eq_true rfl) (Nat.le_of_ble_eq_true rfl) rfl (by decide) H (fun v1 m1 H => ?_)
    obtain ⟨u1, rfl, H⟩ := H
    refine y_st rfl rfl rfl rfl rfl (fun _ _ => rfl) ?_
    refine y_st rfl rfl rfl rfl rfl (fun _ _ => rfl) ?_
    refine y_st rfl rfl rfl rfl rfl (fun _ _ => rfl) ?_
    show yP (xg xs) (d + 1) 378 146 [(0, .ref 58), (1, .int l1), (2, .int l2), (4, .int l4)] [.int (l2 - (1 : Int32)), .int u1, .ref 58] m1 Q
    refine y_call rfl rfl rfl rfl rfl (Nat.le_of_ble_eq_true rfl) (Nat.le_of_ble_eq_true rfl) rfl (by decide) H (fun v2 m2 H => ?_)
    obtain ⟨u2, rfl, H⟩ := H
    refine y_st rfl rfl rfl rfl rfl (fun _ _ => rfl) ?_
    refine y_st rfl rfl rfl rfl rfl (fun _ _ => rfl) ?_
    refine y_gf rfl rfl rfl rfl rfl ?_
    refine y_st rfl rfl rfl rfl rfl (fun _ _ => rfl) ?_
    show yP (xg xs) (d + 1) 378 157 [(5, .int u2), (0, .ref 58), (1, .int l1), (2, .int l2), (4, .int l4)] [.int u2, .ref 62] m2 Q
    refine y_iald rfl rfl rfl (H.1) ?_
    replace H := H.2
    refine y_st rfl rfl rfl rfl rfl (fun _ _ => rfl) ?_
    show yP (xg xs) (d + 1) 378 160 [(5, .int u2), (0, .ref 58), (1, .int l1), (2, .int l2), (4, .int l4)] [.int (28 : Int32), .int (m2.1 62 u2.toNatClampNeg)] m2 Q
    refine y_ine (t := 175) rfl rfl rfl (fun h => ?_) (fun h => ?_)
    · replace H := H.1 h; clear h
      show yP (xg xs) (d + 1) 378 175 [(5, .int u2), (0, .ref 58), (1, .int l1), (2, .int l2), (4, .int l4)] [] m2 Q
      refine y_headS (l2 := [(0, .ref 58), (1, .int l1), (2, .int l2), (4, .int l4)]) [1, 2, 3, 4] [0, 1, 2, 4] [5, 0, 1, 2, 4] rfl rfl (by decide) rfl (by decide) ?_
      exact H
    · replace H := H.2 h; clear h
      refine y_st rfl rfl rfl rfl rfl (fun _ _ => rfl) ?_
      refine y_st rfl rfl rfl rfl rfl (fun _ _ => rfl) ?_
      refine y_st rfl rfl rfl rfl rfl (fun _ _ => rfl) ?_
      refine y_st rfl rfl rfl rfl rfl (fun _ _ => rfl) ?_
      refine y_st rfl rfl rfl rfl rfl (fun _ _ => rfl) ?_
      refine y_st rfl rfl rfl rfl rfl (fun _ _ => rfl) ?_
      refine y_st rfl rfl rfl rfl rfl (fun _ _ => rfl) ?_
      show yP (xg xs) (d + 1) 378 172 [(5, .int u2), (0, .ref 58), (1, .int l1), (2, .int l2), (4, .int l4)] [.int (l2 - (1 : Int32)), .int u2, .int l4, .int l1, .ref 58] m2 Q
      refine y_call rfl rfl rfl rfl rfl (Nat.le_of_ble_eq_true rfl) (Nat.le_of_ble_eq_true rfl) rfl (by decide) H (fun v3 m3 H => ?_)
      obtain ⟨rfl, H⟩ := H
      show yP (xg xs) (d + 1) 378 175 [(5, .int u2), (0, .ref 58), (1, .int l1), (2, .int l2), (4, .int l4)] [] m3 Q
      refine y_headS (l2 := [(0, .ref 58), (1, .int l1), (2, .int l2), (4, .int l4)]) [1, 2, 3, 4] [0, 1, 2, 4] [5, 0, 1, 2, 4] rfl rfl (by decide) rfl (by decide) ?_
      exact H
set_option maxRecDepth 20000 in
/-- CodeMakerModel.writeRung from 175 on -/
theorem w378_175 (xs : List Int32) (d : Nat) (l1 : Int32) (l2 : Int32) (l4 : Int32) (m : yM) (Q : Option Value → yM → Prop) (H : yP (xg xs) (d + 1) 378 124 [(0, .ref 58), (1, .int l1), (2, .int l2), (4, .int (l4 + (1 : Int32)))] [] m Q) : yP (xg xs) (d + 1) 378 175 [(0, .ref 58), (1, .int l1), (2, .int l2), (4, .int l4)] [] m Q := by
  refine y_st rfl rfl rfl rfl rfl (fun _ _ => rfl) ?_
  refine y_st rfl rfl rfl rfl rfl (fun _ _ => rfl) ?_
  show yP (xg xs) (d + 1) 378 124 [(4, .int (l4 + (1 : Int32))), (0, .ref 58), (1, .int l1), (2, .int l2)] [] m Q
  refine y_headS (l2 := [(0, .ref 58), (1, .int l1), (2, .int l2), (4, .int (l4 + (1 : Int32)))]) [1, 2, 3, 0] [0, 1, 2, 4] [4, 0, 1, 2] rfl rfl (by decide) rfl (by decide) ?_
  exact H
set_option maxRecDepth 20000 in
/-- CodeMakerModel.cellAt from 0 on -/
theorem w379_0 (xs : List Int32) (d : Nat) (l1 : Int32) (l2 : Int32) (m : yM) (Q : Option Value → yM → Prop) (H : (x_in l1 20000 = true ∧ yP (xg xs) (d + 1) 379 10 [(0, .ref 58), (3, .int l2), (4, .int (m.1 66 l1.toNatClampNeg))] [] m Q)) : yP (xg xs) (d + 1) 379 0 [(0, .ref 58), (1, .int l1), (2, .int l2)] [] m Q := by
  refine y_st rfl rfl rfl rfl rfl (fun _ _ => rfl) ?_
  refine y_st rfl rfl rfl rfl rfl (fun _ _ => rfl) ?_
  refine y_st rfl rfl rfl rfl rfl (fun _ _ => rfl) ?_
  refine y_gf rfl rfl rfl rfl rfl ?_
  refine y_st rfl rfl rfl rfl rfl (fun _ _ => rfl) ?_
  show yP (xg xs) (d + 1) 379 7 [(3, .int l2), (0, .ref 58), (1, .int l1), (2, .int l2)] [.int l1, .ref 66] m Q
  refine y_iald rfl rfl rfl (H.1) ?_
  replace H := H.2
  refine y_st rfl rfl rfl rfl rfl (fun _ _ => rfl) ?_
  show yP (xg xs) (d + 1) 379 10 [(4, .int (m.1 66 l1.toNatClampNeg)), (3, .int l2), (0, .ref 58), (1, .int l1), (2, .int l2)] [] m Q
  refine y_headS (l2 := [(0, .ref 58), (3, .int l2), (4, .int (m.1 66 l1.toNatClampNeg))]) [2, 1, 0] [0, 3, 4] [4, 3, 0, 1, 2] rfl rfl (by decide) rfl (by decide) ?_
  exact H
set_option maxRecDepth 20000 in
/-- CodeMakerModel.cellAt from 10 on -/
theorem w379_10 (xs : List Int32) (d : Nat) (l3 : Int32) (l4 : Int32) (m : yM) (Q : Option Value → yM → Prop) (H : ((0 < l3 → yP (xg xs) (d + 1) 379 26 [(0, .ref 58), (3, .int l3), (4, .int l4)] [] m Q) ∧ (¬ 0 < l3 → (x_in l4 20000 = true ∧ ((¬ (m.1 62 l4.toNatClampNeg) = (29 : Int32) → Q (some (.int l4)) m) ∧ ((m.1 62 l4.toNatClampNeg) = (29 : Int32) → yP (xg xs) (d + 1) 379 26 [(0, .ref 58), (3, .int l3), (4, .int l4)] [] m Q)))))) : yP (xg xs) (d + 1) 379 10 [(0, .ref 58), (3, .int l3), (4, .int l4)] [] m Q := by
  refine y_st rfl rfl rfl rfl rfl (fun _ _ => rfl) ?_
  show yP (xg xs) (d + 1) 379 11 [(0, .ref 58), (3, .int l3), (4, .int l4)] [.int l3] m Q
  refine y_zgt (t := 26) rfl rfl rfl (fun h => ?_) (fun h => ?_)
  · replace H := H.1 h; clear h
    show yP (xg xs) (d + 1) 379 26 [(0, .ref 58), (3, .int l3), (4, .int l4)] [] m Q
    exact H
  · replace H := H.2 h; clear h
    refine y_st rfl rfl rfl rfl rfl (fun _ _ => rfl) ?_
    refine y_gf rfl rfl rfl rfl rfl ?_
    refine y_st rfl rfl rfl rfl rfl (fun _ _ => rfl) ?_
    show yP (xg xs) (d + 1) 379 20 [(0, .ref 58), (3, .int l3), (4, .int l4)] [.int l4, .ref 62] m Q
    refine y_iald rfl rfl rfl (H.1) ?_
    replace H := H.2
    refine y_st rfl rfl rfl rfl rfl (fun _ _ => rfl) ?_
    show yP (xg xs) (d + 1) 379 23 [(0, .ref 58), (3, .int l3), (4, .int l4)] [.int (29 : Int32), .int (m.1 62 l4.toNatClampNeg)] m Q
    refine y_ine (t := 58) rfl rfl rfl (fun h => ?_) (fun h => ?_)
    · replace H := H.1 h; clear h
      refine y_st rfl rfl rfl rfl rfl (fun _ _ => rfl) ?_
      show yP (xg xs) (d + 1) 379 60 [(0, .ref 58), (3, .int l3), (4, .int l4)] [.int l4] m Q
      exact y_iret rfl rfl rfl H
    · replace H := H.2 h; clear h
      show yP (xg xs) (d + 1) 379 26 [(0, .ref 58), (3, .int l3), (4, .int l4)] [] m Q
      exact H
set_option maxRecDepth 20000 in
/-- CodeMakerModel.cellAt from 26 on -/
theorem w379_26 (xs : List Int32) (d : Nat) (l3 : Int32) (l4 : Int32) (m : yM) (Q : Option Value → yM → Prop) (H : (x_in l4 20000 = true ∧ ((¬ (m.1 62 l4.toNatClampNeg) = (29 : Int32) → yP (xg xs) (d + 1) 379 44 [(0, .ref 58), (4, .int l4)] [.int (1 : Int32), .int l3] m Q) ∧ ((m.1 62 l4.toNatClampNeg) = (29 : Int32) → yP (xg xs) (d + 1) 379 44 [(0, .ref 58), (4, .int l4)] [.int (0 : Int32), .int l3] m Q)))) : yP (xg xs) (d + 1) 379 26 [(0, .ref 58), (3, .int l3), (4, .int l4)] [] m Q := by
  refine y_st rfl rfl rfl rfl rfl (fun _ _ => rfl) ?_
  refine y_st rfl rfl rfl rfl rfl (fun _ _ => rfl) ?_
  refine y_gf rfl rfl rfl rfl rfl ?_
  refine y_st rfl rfl rfl rfl rfl (fun _ _ => rfl) ?_
  show yP (xg xs) (d + 1) 379 33 [(0, .ref 58), (3, .int l3), (4, .int l4)] [.int l4, .ref 62, .int l3] m Q
  refine y_iald rfl rfl rfl (H.1) ?_
  replace H := H.2
  refine y_st rfl rfl rfl rfl rfl (fun _ _ => rfl) ?_
  show yP (xg xs) (d + 1) 379 36 [(0, .ref 58), (3, .int l3), (4, .int l4)] [.int (29 : Int32), .int (m.1 62 l4.toNatClampNeg), .int l3] m Q
  refine y_ine (t := 43) rfl rfl rfl (fun h => ?_) (fun h => ?_)
  · replace H := H.1 h; clear h
    refine y_st rfl rfl rfl rfl rfl (fun _ _ => rfl) ?_
    show yP (xg xs) (d + 1) 379 44 [(0, .ref 58), (3, .int l3), (4, .int l4)] [.int (1 : Int32), .int l3] m Q
    refine y_headS (l2 := [(0, .ref 58), (4, .int l4)]) [0, 2] [0, 4] [0, 3, 4] rfl rfl (by decide) rfl (by decide) ?_
    exact H
  · replace H := H.2 h; clear h
    refine y_st rfl rfl rfl rfl rfl (fun _ _ => rfl) ?_
    refine y_st rfl rfl rfl rfl rfl (fun _ _ => rfl) ?_
    show yP (xg xs) (d + 1) 379 44 [(0, .ref 58), (3, .int l3), (4, .int l4)] [.int (0 : Int32), .int l3] m Q
    refine y_headS (l2 := [(0, .ref 58), (4, .int l4)]) [0, 2] [0, 4] [0, 3, 4] rfl rfl (by decide) rfl (by decide) ?_
    exact H
set_option maxRecDepth 20000 in
/-- CodeMakerModel.cellAt from 44 on -/
theorem w379_44 (xs : List Int32) (d : Nat) (l4 : Int32) (s0 : Int32) (s1 : Int32) (m : yM) (Q : Option Value → yM → Prop) (H : (x_in l4 20000 = true ∧ yP (xg xs) (d + 1) 379 10 [(0, .ref 58), (3, .int (s0 - s1)), (4, .int (m.1 68 l4.toNatClampNeg))] [] m Q)) : yP (xg xs) (d + 1) 379 44 [(0, .ref 58), (4, .int l4)] [.int s1, .int s0] m Q := by
  refine y_st rfl rfl rfl rfl rfl (fun _ _ => rfl) ?_
  refine y_st rfl rfl rfl rfl rfl (fun _ _ => rfl) ?_
  refine y_st rfl rfl rfl rfl rfl (fun _ _ => rfl) ?_
  refine y_gf rfl rfl rfl rfl rfl ?_
  refine y_st rfl rfl rfl rfl rfl (fun _ _ => rfl) ?_
  show yP (xg xs) (d + 1) 379 52 [(3, .int (s0 - s1)), (0, .ref 58), (4, .int l4)] [.int l4, .ref 68] m Q
  refine y_iald rfl rfl rfl (H.1) ?_
  replace H := H.2
  refine y_st rfl rfl rfl rfl rfl (fun _ _ => rfl) ?_
  refine y_st rfl rfl rfl rfl rfl (fun _ _ => rfl) ?_
  show yP (xg xs) (d + 1) 379 10 [(4, .int (m.1 68 l4.toNatClampNeg)), (3, .int (s0 - s1)), (0, .ref 58)] [] m Q
  refine y_headS (l2 := [(0, .ref 58), (3, .int (s0 - s1)), (4, .int (m.1 68 l4.toNatClampNeg))]) [2, 1, 0] [0, 3, 4] [4, 3, 0] rfl rfl (by decide) rfl (by decide) ?_
  exact H
set_option maxRecDepth 20000 in
/-- CodeMakerModel.group from 0 on -/
theorem w380_0 (xs : List Int32) (d : Nat) (l1 : Int32) (l2 : Int32) (l3 : Int32) (m : yM) (Q : Option Value → yM → Prop) (H : yP (xg xs) (d + 1) 380 3 [(0, .ref 58), (1, .int l1), (3, .int l3), (4, .int l2)] [] m Q) : yP (xg xs) (d + 1) 380 0 [(0, .ref 58), (1, .int l1), (2, .int l2), (3, .int l3)] [] m Q := by
  refine y_st rfl rfl rfl rfl rfl (fun _ _ => rfl) ?_
  refine y_st rfl rfl rfl rfl rfl (fun _ _ => rfl) ?_
  show yP (xg xs) (d + 1) 380 3 [(4, .int l2), (0, .ref 58), (1, .int l1), (2, .int l2), (3, .int l3)] [] m Q
  refine y_headS (l2 := [(0, .ref 58), (1, .int l1), (3, .int l3), (4, .int l2)]) [1, 2, 4, 0] [0, 1, 3, 4] [4, 0, 1, 2, 3] rfl rfl (by decide) rfl (by decide) ?_
  exact H
set_option maxRecDepth 20000 in
/-- CodeMakerModel.group from 3 on -/
theorem w380_3 (xs : List Int32) (d : Nat) (l1 : Int32) (l3 : Int32) (l4 : Int32) (m : yM) (Q : Option Value → yM → Prop) (H : ((l4 ≤ 0 → Q (some (.int l4)) m) ∧ (¬ l4 ≤ 0 → (yC (xg xs) d 350 [.ref 58, .int l1, .int (l4 - (1 : Int32))] m (fun v1 m1 => ∃ u1, v1 = some (Value.int u1) ∧ (yC (xg xs) d 381 [.ref 58, .int u1, .int l3] m1 (fun v2 m2 => ∃ u2, v2 = some (Value.int u2) ∧ ((u2 = 0 → Q (some (.int l4)) m2) ∧ (¬ u2 = 0 → yP (xg xs) (d + 1) 380 3 [(0, .ref 58), (1, .int l1), (3, .int l3), (4, .int (l4 + ((-1) : Int32)))] [] m2 Q))))))))) : yP (xg xs) (d + 1) 380 3 [(0, .ref 58), (1, .int l1), (3, .int l3), (4, .int l4)] [] m Q := by
  refine y_st rfl rfl rfl rfl rfl (fun _ _ => rfl) ?_
  show yP (xg xs) (d + 1) 380 5 [(0, .ref 58), (1, .int l1), (3, .int l3), (4, .int l4)] [.int l4] m Q
  refine y_zle (t := 31) rfl rfl rfl (fun h => ?_) (fun h => ?_)
  · replace H := H.1 h; clear h
    refine y_st rfl rfl rfl rfl rfl (fun _ _ => rfl) ?_
    show yP (xg xs) (d + 1) 380 33 [(0, .ref 58), (1, .int l1), (3, .int l3), (4, .int l4)] [.int l4] m Q
    exact y_iret rfl rfl rfl H
  · replace H := H.2 h; clear h
    refine y_st rfl rfl rfl rfl rfl (fun _ _ => rfl) ?_
    refine y_st rfl rfl rfl rfl rfl (fun _ _ => rfl) ?_
    refine y_st rfl rfl rfl rfl rfl (fun _ _ => rfl) ?_
    refine y_st rfl rfl rfl rfl rfl (fun _ _ => rfl) ?_
    refine y_st rfl rfl rfl rfl rfl (fun _ _ => rfl) ?_
    refine y_st rfl rfl rfl rfl rfl (fun _ _ => rfl) ?_
    show yP (xg xs) (d + 1) 380 15 [(0, .ref 58), (1, .int l1), (3, .int l3), (4, .int l4)] [.int (l4 - (1 : Int32)), .int l1, .ref 58, .ref 58] m Q
    refine y_call rfl rfl rfl rfl rfl (Nat.le_of_ble_eq_true rfl) (Nat.le_of_ble_eq_true rfl) rfl (by decide) H (fun v1 m1 H => ?_)
    obtain ⟨u1, rfl, H⟩ := H
    refine y_st rfl rfl rfl rfl rfl (fun _ _ => rfl) ?_
    show yP (xg xs) (d + 1) 380 19 [(0, .ref 58), (1, .int l1), (3, .int l3), (4, .int l4)] [.int l3, .int u1, .ref 58] m1 Q
    refine y_call rfl rfl rfl rfl rfl (Nat.le_of_ble_eq_true rfl) (Nat.le_of_ble_eq_true rfl) rfl (by decide) H (fun v2 m2 H => ?_)
    obtain ⟨u2, rfl, H⟩ := H
    show yP (xg xs) (d + 1) 380 22 [(0, .ref 58), (1, .int l1), (3, .int l3), (4, .int l4)] [.int u2] m2 Q
    refine y_zeq (t := 31) rfl rfl rfl (fun h => ?_) (fun h => ?_)
    · replace H := H.1 h; clear h
      refine y_st rfl rfl rfl rfl rfl (fun _ _ => rfl) ?_
      show yP (xg xs) (d + 1) 380 33 [(0, .ref 58), (1, .int l1), (3, .int l3), (4, .int l4)] [.int l4] m2 Q
      exact y_iret rfl rfl rfl H
    · replace H := H.2 h; clear h
      refine y_st rfl rfl rfl rfl rfl (fun _ _ => rfl) ?_
      refine y_st rfl rfl rfl rfl rfl (fun _ _ => rfl) ?_
      show yP (xg xs) (d + 1) 380 3 [(4, .int (l4 + ((-1) : Int32))), (0, .ref 58), (1, .int l1), (3, .int l3)] [] m2 Q
      refine y_headS (l2 := [(0, .ref 58), (1, .int l1), (3, .int l3), (4, .int (l4 + ((-1) : Int32)))]) [1, 2, 3, 0] [0, 1, 3, 4] [4, 0, 1, 3] rfl rfl (by decide) rfl (by decide) ?_
      exact H
set_option maxRecDepth 20000 in
/-- CodeMakerModel.isLinked from 0 on -/
theorem w381_0 (xs : List Int32) (d : Nat) (l1 : Int32) (l2 : Int32) (m : yM) (Q : Option Value → yM → Prop) (H : (x_in l1 20000 = true ∧ yP (xg xs) (d + 1) 381 13 [(0, .ref 58), (2, .int l2), (3, .int (0 : Int32)), (4, .int (0 : Int32)), (5, .int (m.1 66 l1.toNatClampNeg))] [] m Q)) : yP (xg xs) (d + 1) 381 0 [(0, .ref 58), (1, .int l1), (2, .int l2)] [] m Q := by
  refine y_st rfl rfl rfl rfl rfl (fun _ _ => rfl) ?_
  refine y_st rfl rfl rfl rfl rfl (fun _ _ => rfl) ?_
  refine y_st rfl rfl rfl rfl rfl (fun _ _ => rfl) ?_
  refine y_st rfl rfl rfl rfl rfl (fun _ _ => rfl) ?_
  refine y_st rfl rfl rfl rfl rfl (fun _ _ => rfl) ?_
  refine y_gf rfl rfl rfl rfl rfl ?_
  refine y_st rfl rfl rfl rfl rfl (fun _ _ => rfl) ?_
  show yP (xg xs) (d + 1) 381 10 [(4, .int (0 : Int32)), (3, .int (0 : Int32)), (0, .ref 58), (1, .int l1), (2, .int l2)] [.int l1, .ref 66] m Q
  refine y_iald rfl rfl rfl (H.1) ?_
  replace H := H.2
  refine y_st rfl rfl rfl rfl rfl (fun _ _ => rfl) ?_
  show yP (xg xs) (d + 1) 381 13 [(5, .int (m.1 66 l1.toNatClampNeg)), (4, .int (0 : Int32)), (3, .int (0 : Int32)), (0, .ref 58), (1, .int l1), (2, .int l2)] [] m Q
  refine y_headS (l2 := [(0, .ref 58), (2, .int l2), (3, .int (0 : Int32)), (4, .int (0 : Int32)), (5, .int (m.1 66 l1.toNatClampNeg))]) [3, 5, 2, 1, 0] [0, 2, 3, 4, 5] [5, 4, 3, 0, 1, 2] rfl rfl (by decide) rfl (by decide) ?_
  exact H
set_option maxRecDepth 20000 in
/-- CodeMakerModel.isLinked from 13 on -/
theorem w381_13 (xs : List Int32) (d : Nat) (l2 : Int32) (l3 : Int32) (l4 : Int32) (l5 : Int32) (m : yM) (Q : Option Value → yM → Prop) (H : ((l5 = ((-1) : Int32) → ((l4 = 0 ∨ l4 = 1) ∧ Q (some (.int l4)) m)) ∧ (¬ l5 = ((-1) : Int32) → ((¬ l4 = 0 → yP (xg xs) (d + 1) 381 41 [(0, .ref 58), (2, .int l2), (3, .int l3), (5, .int l5)] [] m Q) ∧ (l4 = 0 → (x_in l5 20000 = true ∧ ((¬ (m.1 62 l5.toNatClampNeg) = (29 : Int32) → yP (xg xs) (d + 1) 381 45 [(0, .ref 58), (2, .int l2), (3, .int l3), (5, .int l5)] [] m Q) ∧ ((m.1 62 l5.toNatClampNeg) = (29 : Int32) → ((¬ l3 = l2 → yP (xg xs) (d + 1) 381 45 [(0, .ref 58), (2, .int l2), (3, .int l3), (5, .int l5)] [] m Q) ∧ (l3 = l2 → yP (xg xs) (d + 1) 381 41 [(0, .ref 58), (2, .int l2), (3, .int l3), (5, .int l5)] [] m Q)))))))))) : yP (xg xs) (d + 1) 381 13 [(0, .ref 58), (2, .int l2), (3, .int l3), (4, .int l4), (5, .int l5)] [] m Q := by
  refine y_st rfl rfl rfl rfl rfl (fun _ _ => rfl) ?_
  refine y_st rfl rfl rfl rfl rfl (fun _ _ => rfl) ?_
  show yP (xg xs) (d + 1) 381 16 [(0, .ref 58), (2, .int l2), (3, .int l3), (4, .int l4), (5, .int l5)] [.int ((-1) : Int32), .int l5] m Q
  refine y_ieq (t := 80) rfl rfl rfl (fun h => ?_) (fun h => ?_)
  · replace H := H.1 h; clear h
    refine y_st rfl rfl rfl rfl rfl (fun _ _ => rfl) ?_
    show yP (xg xs) (d + 1) 381 82 [(0, .ref 58), (2, .int l2), (3, .int l3), (4, .int l4), (5, .int l5)] [.int l4] m Q
    exact y_zret rfl rfl rfl H.1 H.2
  · replace H := H.2 h; clear h
    refine y_st rfl rfl rfl rfl rfl (fun _ _ => rfl) ?_
    show yP (xg xs) (d + 1) 381 21 [(0, .ref 58), (2, .int l2), (3, .int l3), (4, .int l4), (5, .int l5)] [.int l4] m Q
    refine y_zne (t := 41) rfl rfl rfl (fun h => ?_) (fun h => ?_)
    · replace H := H.1 h; clear h
      show yP (xg xs) (d + 1) 381 41 [(0, .ref 58), (2, .int l2), (3, .int l3), (4, .int l4), (5, .int l5)] [] m Q
      refine y_headS (l2 := [(0, .ref 58), (2, .int l2), (3, .int l3), (5, .int l5)]) [0, 1, 2, 4] [0, 2, 3, 5] [0, 2, 3, 4, 5] rfl rfl (by decide) rfl (by decide) ?_
      exact H
    · replace H := H.2 h; clear h
      refine y_st rfl rfl rfl rfl rfl (fun _ _ => rfl) ?_
      refine y_gf rfl rfl rfl rfl rfl ?_
      refine y_st rfl rfl rfl rfl rfl (fun _ _ => rfl) ?_
      show yP (xg xs) (d + 1) 381 30 [(0, .ref 58), (2, .int l2), (3, .int l3), (4, .int l4), (5, .int l5)] [.int l5, .ref 62] m Q
      refine y_iald rfl rfl rfl (H.1) ?_
      replace H := H.2
      refine y_st rfl rfl rfl rfl rfl (fun _ _ => rfl) ?_
      show yP (xg xs) (d + 1) 381 33 [(0, .ref 58), (2, .int l2), (3, .int l3), (4, .int l4), (5, .int l5)] [.int (29 : Int32), .int (m.1 62 l5.toNatClampNeg)] m Q
      refine y_ine (t := 45) rfl rfl rfl (fun h => ?_) (fun h => ?_)
      · replace H := H.1 h; clear h
        show yP (xg xs) (d + 1) 381 45 [(0, .ref 58), (2, .int l2), (3, .int l3), (4, .int l4), (5, .int l5)] [] m Q
        refine y_headS (l2 := [(0, .ref 58), (2, .int l2), (3, .int l3), (5, .int l5)]) [0, 1, 2, 4] [0, 2, 3, 5] [0, 2, 3, 4, 5] rfl rfl (by decide) rfl (by decide) ?_
        exact H
      · replace H := H.2 h; clear h
        refine y_st rfl rfl rfl rfl rfl (fun _ _ => rfl) ?_
        refine y_st rfl rfl rfl rfl rfl (fun _ _ => rfl) ?_
        show yP (xg xs) (d + 1) 381 38 [(0, .ref 58), (2, .int l2), (3, .int l3), (4, .int l4), (5, .int l5)] [.int l2, .int l3] m Q
        refine y_ine (t := 45) rfl rfl rfl (fun h => ?_) (fun h => ?_)
        · replace H := H.1 h; clear h
          show yP (xg xs) (d + 1) 381 45 [(0, .ref 58), (2, .int l2), (3, .int l3), (4, .int l4), (5, .int l5)] [] m Q
          refine y_headS (l2 := [(0, .ref 58), (2, .int l2), (3, .int l3), (5, .int l5)]) [0, 1, 2, 4] [0, 2, 3, 5] [0, 2, 3, 4, 5] rfl rfl (by decide) rfl (by decide) ?_
          exact H
        · replace H := H.2 h; clear h
          show yP (xg xs) (d + 1) 381 41 [(0, .ref 58), (2, .int l2), (3, .int l3), (4, .int l4), (5, .int l5)] [] m Q
          refine y_headS (l2 := [(0, .ref 58), (2, .int l2), (3, .int l3), (5, .int l5)]) [0, 1, 2, 4] [0, 2, 3, 5] [0, 2, 3, 4, 5] rfl rfl (by decide) rfl (by decide) ?_
          exact H
set_option maxRecDepth 20000 in
/-- CodeMakerModel.isLinked from 41 on -/
theorem w381_41 (xs : List Int32) (d : Nat) (l2 : Int32) (l3 : Int32) (l5 : Int32) (m : yM) (Q : Option Value → yM → Prop) (H : yP (xg xs) (d + 1) 381 46 [(0, .ref 58), (2, .int l2), (3, .int l3), (5, .int l5)] [.int (1 : Int32)] m Q) : yP (xg xs) (d + 1) 381 41 [(0, .ref 58), (2, .int l2), (3, .int l3), (5, .int l5)] [] m Q := by
  refine y_st rfl rfl rfl rfl rfl (fun _ _ => rfl) ?_
  refine y_st rfl rfl rfl rfl rfl (fun _ _ => rfl) ?_
  show yP (xg xs) (d + 1) 381 46 [(0, .ref 58), (2, .int l2), (3, .int l3), (5, .int l5)] [.int (1 : Int32)] m Q
  exact H
set_option maxRecDepth 20000 in
/-- CodeMakerModel.isLinked from 45 on -/
theorem w381_45 (xs : List Int32) (d : Nat) (l2 : Int32) (l3 : Int32) (l5 : Int32) (m : yM) (Q : Option Value → yM → Prop) (H : yP (xg xs) (d + 1) 381 46 [(0, .ref 58), (2, .int l2), (3, .int l3), (5, .int l5)] [.int (0 : Int32)] m Q) : yP (xg xs) (d + 1) 381 45 [(0, .ref 58), (2, .int l2), (3, .int l3), (5, .int l5)] [] m Q := by
  refine y_st rfl rfl rfl rfl rfl (fun _ _ => rfl) ?_
  show yP (xg xs) (d + 1) 381 46 [(0, .ref 58), (2, .int l2), (3, .int l3), (5, .int l5)] [.int (0 : Int32)] m Q
  exact H
set_option maxRecDepth 20000 in
/-- CodeMakerModel.isLinked from 46 on -/
theorem w381_46 (xs : List Int32) (d : Nat) (l2 : Int32) (l3 : Int32) (l5 : Int32) (s0 : Int32) (m : yM) (Q : Option Value → yM → Prop) (H : (x_in l5 20000 = true ∧ ((¬ (m.1 62 l5.toNatClampNeg) = (29 : Int32) → yP (xg xs) (d + 1) 381 66 [(0, .ref 58), (2, .int l2), (4, .int s0), (5, .int l5)] [.int (1 : Int32), .int l3] m Q) ∧ ((m.1 62 l5.toNatClampNeg) = (29 : Int32) → yP (xg xs) (d + 1) 381 66 [(0, .ref 58), (2, .int l2), (4, .int s0), (5, .int l5)] [.int (0 : Int32), .int l3] m Q)))) : yP (xg xs) (d + 1) 381 46 [(0, .ref 58), (2, .int l2), (3, .int l3), (5, .int l5)] [.int s0] m Q := by
  refine y_st rfl rfl rfl rfl rfl (fun _ _ => rfl) ?_
  refine y_st rfl rfl rfl rfl rfl (fun _ _ => rfl) ?_
  refine y_st rfl rfl rfl rfl rfl (fun _ _ => rfl) ?_
  refine y_gf rfl rfl rfl rfl rfl ?_
  refine y_st rfl rfl rfl rfl rfl (fun _ _ => rfl) ?_
  show yP (xg xs) (d + 1) 381 55 [(4, .int s0), (0, .ref 58), (2, .int l2), (3, .int l3), (5, .int l5)] [.int l5, .ref 62, .int l3] m Q
  refine y_iald rfl rfl rfl (H.1) ?_
  replace H := H.2
  refine y_st rfl rfl rfl rfl rfl (fun _ _ => rfl) ?_
  show yP (xg xs) (d + 1) 381 58 [(4, .int s0), (0, .ref 58), (2, .int l2), (3, .int l3), (5, .int l5)] [.int (29 : Int32), .int (m.1 62 l5.toNatClampNeg), .int l3] m Q
  refine y_ine (t := 65) rfl rfl rfl (fun h => ?_) (fun h => ?_)
  · replace H := H.1 h; clear h
    refine y_st rfl rfl rfl rfl rfl (fun _ _ => rfl) ?_
    show yP (xg xs) (d + 1) 381 66 [(4, .int s0), (0, .ref 58), (2, .int l2), (3, .int l3), (5, .int l5)] [.int (1 : Int32), .int l3] m Q
    refine y_headS (l2 := [(0, .ref 58), (2, .int l2), (4, .int s0), (5, .int l5)]) [1, 2, 0, 4] [0, 2, 4, 5] [4, 0, 2, 3, 5] rfl rfl (by decide) rfl (by decide) ?_
    exact H
  · replace H := H.2 h; clear h
    refine y_st rfl rfl rfl rfl rfl (fun _ _ => rfl) ?_
    refine y_st rfl rfl rfl rfl rfl (fun _ _ => rfl) ?_
    show yP (xg xs) (d + 1) 381 66 [(4, .int s0), (0, .ref 58), (2, .int l2), (3, .int l3), (5, .int l5)] [.int (0 : Int32), .int l3] m Q
    refine y_headS (l2 := [(0, .ref 58), (2, .int l2), (4, .int s0), (5, .int l5)]) [1, 2, 0, 4] [0, 2, 4, 5] [4, 0, 2, 3, 5] rfl rfl (by decide) rfl (by decide) ?_
    exact H
set_option maxRecDepth 20000 in
/-- CodeMakerModel.isLinked from 66 on -/
theorem w381_66 (xs : List Int32) (d : Nat) (l2 : Int32) (l4 : Int32) (l5 : Int32) (s0 : Int32) (s1 : Int32) (m : yM) (Q : Option Value → yM → Prop) (H : (x_in l5 20000 = true ∧ yP (xg xs) (d + 1) 381 13 [(0, .ref 58), (2, .int l2), (3, .int (s0 + s1)), (4, .int l4), (5, .int (m.1 68 l5.toNatClampNeg))] [] m Q)) : yP (xg xs) (d + 1) 381 66 [(0, .ref 58), (2, .int l2), (4, .int l4), (5, .int l5)] [.int s1, .int s0] m Q := by
  refine y_st rfl rfl rfl rfl rfl (fun _ _ => rfl) ?_
  refine y_st rfl rfl rfl rfl rfl (fun _ _ => rfl) ?_
  refine y_st rfl rfl rfl rfl rfl (fun _ _ => rfl) ?_
  refine y_gf rfl rfl rfl rfl rfl ?_
  refine y_st rfl rfl rfl rfl rfl (fun _ _ => rfl) ?_
  show yP (xg xs) (d + 1) 381 74 [(3, .int (s0 + s1)), (0, .ref 58), (2, .int l2), (4, .int l4), (5, .int l5)] [.int l5, .ref 68] m Q
  refine y_iald rfl rfl rfl (H.1) ?_
  replace H := H.2
  refine y_st rfl rfl rfl rfl rfl (fun _ _ => rfl) ?_
  refine y_st rfl rfl rfl rfl rfl (fun _ _ => rfl) ?_
  show yP (xg xs) (d + 1) 381 13 [(5, .int (m.1 68 l5.toNatClampNeg)), (3, .int (s0 + s1)), (0, .ref 58), (2, .int l2), (4, .int l4)] [] m Q
  refine y_headS (l2 := [(0, .ref 58), (2, .int l2), (3, .int (s0 + s1)), (4, .int l4), (5, .int (m.1 68 l5.toNatClampNeg))]) [2, 3, 1, 4, 0] [0, 2, 3, 4, 5] [5, 3, 0, 2, 4] rfl rfl (by decide) rfl (by decide) ?_
  exact H
set_option maxRecDepth 20000 in
/-- CodeMakerModel.writeGroup from 0 on -/
theorem w382_0 (xs : List Int32) (d : Nat) (l1 : Int32) (l2 : Int32) (l3 : Int32) (m : yM) (Q : Option Value → yM → Prop) (H : yP (xg xs) (d + 1) 382 9 [(0, .ref 58), (1, .int l1), (2, .int l2), (3, .int l3), (4, .int (0 : Int32)), (6, .int l2)] [] m Q) : yP (xg xs) (d + 1) 382 0 [(0, .ref 58), (1, .int l1), (2, .int l2), (3, .int l3)] [] m Q := by
  refine y_st rfl rfl rfl rfl rfl (fun _ _ => rfl) ?_
  refine y_st rfl rfl rfl rfl rfl (fun _ _ => rfl) ?_
  refine y_st rfl rfl rfl rfl rfl (fun _ _ => rfl) ?_
  refine y_st rfl rfl rfl rfl rfl (fun _ _ => rfl) ?_
  refine y_st rfl rfl rfl rfl rfl (fun _ _ => rfl) ?_
  refine y_st rfl rfl rfl rfl rfl (fun _ _ => rfl) ?_
  show yP (xg xs) (d + 1) 382 9 [(6, .int l2), (5, .int (0 : Int32)), (4, .int (0 : Int32)), (0, .ref 58), (1, .int l1), (2, .int l2), (3, .int l3)] [] m Q
  refine y_headS (l2 := [(0, .ref 58), (1, .int l1), (2, .int l2), (3, .int l3), (4, .int (0 : Int32)), (6, .int l2)]) [3, 4, 5, 6, 2, 0] [0, 1, 2, 3, 4, 6] [6, 5, 4, 0, 1, 2, 3] rfl rfl (by decide) rfl (by decide) ?_
  exact H
set_option maxRecDepth 20000 in
/-- CodeMakerModel.writeGroup from 9 on -/
theorem w382_9 (xs : List Int32) (d : Nat) (l1 : Int32) (l2 : Int32) (l3 : Int32) (l4 : Int32) (l6 : Int32) (m : yM) (Q : Option Value → yM → Prop) (H : (x_in l1 20000 = true ∧ (((m.1 69 l1.toNatClampNeg) ≤ l6 → yP (xg xs) (d + 1) 382 115 [(0, .ref 58), (1, .int l1), (2, .int l2), (3, .int l3), (4, .int l4)] [] m Q) ∧ (¬ (m.1 69 l1.toNatClampNeg) ≤ l6 → (yC (xg xs) d 380 [.ref 58, .int l1, .int l6, .int l3] m (fun v1 m1 => ∃ u1, v1 = some (Value.int u1) ∧ ((¬ u1 = l2 → yP (xg xs) (d + 1) 382 115 [(0, .ref 58), (1, .int l1), (2, .int l2), (3, .int l3), (4, .int l4)] [] m1 Q) ∧ (u1 = l2 → (yC (xg xs) d 350 [.ref 58, .int l1, .int l6] m1 (fun v2 m2 => ∃ u2, v2 = some (Value.int u2) ∧ (yC (xg xs) d 379 [.ref 58, .int u2, .int (l3 - (1 : Int32))] m2 (fun v3 m3 => ∃ u3, v3 = some (Value.int u3) ∧ (x_in u3 20000 = true ∧ (((m3.1 62 u3.toNatClampNeg) = (27 : Int32) → yP (xg xs) (d + 1) 382 109 [(0, .ref 58), (1, .int l1), (2, .int l2), (3, .int l3), (4, .int l4), (6, .int l6)] [] m3 Q) ∧ (¬ (m3.1 62 u3.toNatClampNeg) = (27 : Int32) → (yC (xg xs) d 383 [.ref 58, .int l1, .int l6, .int (l3 - (1 : Int32))] m3 (fun v4 m4 => v4 = none ∧ (x_in u3 20000 = true ∧ ((¬ (m4.1 62 u3.toNatClampNeg) = (25 : Int32) → yP (xg xs) (d + 1) 382 88 [(0, .ref 58), (1, .int l1), (2, .int l2), (3, .int l3), (4, .int l4), (6, .int l6)] [] m4 Q) ∧ ((m4.1 62 u3.toNatClampNeg) = (25 : Int32) → (yC (xg xs) d 385 [.ref 58, .int u3] m4 (fun v5 m5 => v5 = none ∧ yP (xg xs) (d + 1) 382 88 [(0, .ref 58), (1, .int l1), (2, .int l2), (3, .int l3), (4, .int l4), (6, .int l6)] [] m5 Q)))))))))))))))))))))) : yP (xg xs) (d + 1) 382 9 [(0, .ref 58), (1, .int l1), (2, .int l2), (3, .int l3), (4, .int l4), (6, .int l6)] [] m Q := by
  refine y_st rfl rfl rfl rfl rfl (fun _ _ => rfl) ?_
  refine y_st rfl rfl rfl rfl rfl (fun _ _ => rfl) ?_
  refine y_gf rfl rfl rfl rfl rfl ?_
  refine y_st rfl rfl rfl rfl rfl (fun _ _ => rfl) ?_
  show yP (xg xs) (d + 1) 382 16 [(0, .ref 58), (1, .int l1), (2, .int l2), (3, .int l3), (4, .int l4), (6, .int l6)] [.int l1, .ref 69, .int l6] m Q
  refine y_iald rfl rfl rfl (H.1) ?_
  replace H := H.2
  show yP (xg xs) (d + 1) 382 17 [(0, .ref 58), (1, .int l1), (2, .int l2), (3, .int l3), (4, .int l4), (6, .int l6)] [.int (m.1 69 l1.toNatClampNeg), .int l6] m Q
  refine y_ige (t := 115) rfl rfl rfl (fun h => ?_) (fun h => ?_)
  · replace H := H.1 h; clear h
    show yP (xg xs) (d + 1) 382 115 [(0, .ref 58), (1, .int l1), (2, .int l2), (3, .int l3), (4, .int l4), (6, .int l6)] [] m Q
    refine y_headS (l2 := [(0, .ref 58), (1, .int l1), (2, .int l2), (3, .int l3), (4, .int l4)]) [0, 1, 2, 3, 4] [0, 1, 2, 3, 4] [0, 1, 2, 3, 4, 6] rfl rfl (by decide) rfl (by decide) ?_
    exact H
  · replace H := H.2 h; clear h
    refine y_st rfl rfl rfl rfl rfl (fun _ _ => rfl) ?_
    refine y_st rfl rfl rfl rfl rfl (fun _ _ => rfl) ?_
    refine y_st rfl rfl rfl rfl rfl (fun _ _ => rfl) ?_
    refine y_st rfl rfl rfl rfl rfl (fun _ _ => rfl) ?_
    show yP (xg xs) (d + 1) 382 25 [(0, .ref 58), (1, .int l1), (2, .int l2), (3, .int l3), (4, .int l4), (6, .int l6)] [.int l3, .int l6, .int l1, .ref 58] m Q
    refine y_call rfl rfl rfl rfl rfl (Nat.le_of_ble_eq_true rfl) (Nat.le_of_ble_eq_true rfl) rfl (by decide) H (fun v1 m1 H => ?_)
    obtain ⟨u1, rfl, H⟩ := H
    refine y_st rfl rfl rfl rfl rfl (fun _ _ => rfl) ?_
    show yP (xg xs) (d + 1) 382 29 [(0, .ref 58), (1, .int l1), (2, .int l2), (3, .int l3), (4, .int l4), (6, .int l6)] [.int l2, .int u1] m1 Q
    refine y_ine (t := 115) rfl rfl rfl (fun h => ?_) (fun h => ?_)
    · replace H := H.1 h; clear h
      show yP (xg xs) (d + 1) 382 115 [(0, .ref 58), (1, .int l1), (2, .int l2), (3, .int l3), (4, .int l4), (6, .int l6)] [] m1 Q
      refine y_headS (l2 := [(0, .ref 58), (1, .int l1), (2, .int l2), (3, .int l3), (4, .int l4)]) [0, 1, 2, 3, 4] [0, 1, 2, 3, 4] [0, 1, 2, 3, 4, 6] rfl rfl (by decide) rfl (by decide) ?_
      exact H
    · replace H := H.2 h; clear h
      refine y_st rfl rfl rfl rfl rfl (fun _ _ => rfl) ?_
      refine y_st rfl rfl rfl rfl rfl (fun _ _ => rfl) ?_
      refine y_st rfl rfl rfl rfl rfl (fun _ _ => rfl) ?_
      refine y_st rfl rfl rfl rfl rfl (fun _ _ => rfl) ?_
      show yP (xg xs) (d + 1) 382 37 [(0, .ref 58), (1, .int l1), (2, .int l2), (3, .int l3), (4, .int l4), (6, .int l6)] [.int l6, .int l1, .ref 58, .ref 58] m1 Q
      refine y_call rfl rfl rfl rfl rfl (Nat.le_of_ble_eq_true rfl) (Nat.le_of_ble_eq_true rfl) rfl (by decide) H (fun v2 m2 H => ?_)
      obtain ⟨u2, rfl, H⟩ := H
      refine y_st rfl rfl rfl rfl rfl (fun _ _ => rfl) ?_
      refine y_st rfl rfl rfl rfl rfl (fun _ _ => rfl) ?_
      refine y_st rfl rfl rfl rfl rfl (fun _ _ => rfl) ?_
      show yP (xg xs) (d + 1) 382 43 [(0, .ref 58), (1, .int l1), (2, .int l2), (3, .int l3), (4, .int l4), (6, .int l6)] [.int (l3 - (1 : Int32)), .int u2, .ref 58] m2 Q
      refine y_call rfl rfl rfl rfl rfl (Nat.le_of_ble_eq_true rfl) (Nat.le_of_ble_eq_true rfl) rfl (by decide) H (fun v3 m3 H => ?_)
      obtain ⟨u3, rfl, H⟩ := H
      refine y_st rfl rfl rfl rfl rfl (fun _ _ => rfl) ?_
      refine y_st rfl rfl rfl rfl rfl (fun _ _ => rfl) ?_
      refine y_gf rfl rfl rfl rfl rfl ?_
      refine y_st rfl rfl rfl rfl rfl (fun _ _ => rfl) ?_
      show yP (xg xs) (d + 1) 382 54 [(7, .int u3), (0, .ref 58), (1, .int l1), (2, .int l2), (3, .int l3), (4, .int l4), (6, .int l6)] [.int u3, .ref 62] m3 Q
      refine y_iald rfl rfl rfl (H.1) ?_
      replace H := H.2
      refine y_st rfl rfl rfl rfl rfl (fun _ _ => rfl) ?_
      show yP (xg xs) (d + 1) 382 57 [(7, .int u3), (0, .ref 58), (1, .int l1), (2, .int l2), (3, .int l3), (4, .int l4), (6, .int l6)] [.int (27 : Int32), .int (m3.1 62 u3.toNatClampNeg)] m3 Q
      refine y_ieq (t := 109) rfl rfl rfl (fun h => ?_) (fun h => ?_)
      · replace H := H.1 h; clear h
        show yP (xg xs) (d + 1) 382 109 [(7, .int u3), (0, .ref 58), (1, .int l1), (2, .int l2), (3, .int l3), (4, .int l4), (6, .int l6)] [] m3 Q
        refine y_headS (l2 := [(0, .ref 58), (1, .int l1), (2, .int l2), (3, .int l3), (4, .int l4), (6, .int l6)]) [1, 2, 3, 4, 5, 6] [0, 1, 2, 3, 4, 6] [7, 0, 1, 2, 3, 4, 6] rfl rfl (by decide) rfl (by decide) ?_
        exact H
      · replace H := H.2 h; clear h
        refine y_st rfl rfl rfl rfl rfl (fun _ _ => rfl) ?_
        refine y_st rfl rfl rfl rfl rfl (fun _ _ => rfl) ?_
        refine y_st rfl rfl rfl rfl rfl (fun _ _ => rfl) ?_
        refine y_st rfl rfl rfl rfl rfl (fun _ _ => rfl) ?_
        refine y_st rfl rfl rfl rfl rfl (fun _ _ => rfl) ?_
        refine y_st rfl rfl rfl rfl rfl (fun _ _ => rfl) ?_
        show yP (xg xs) (d + 1) 382 67 [(7, .int u3), (0, .ref 58), (1, .int l1), (2, .int l2), (3, .int l3), (4, .int l4), (6, .int l6)] [.int (l3 - (1 : Int32)), .int l6, .int l1, .ref 58] m3 Q
        refine y_call rfl rfl rfl rfl rfl (Nat.le_of_ble_eq_true rfl) (Nat.le_of_ble_eq_true rfl) rfl (by decide) H (fun v4 m4 H => ?_)
        obtain ⟨rfl, H⟩ := H
        refine y_st rfl rfl rfl rfl rfl (fun _ _ => rfl) ?_
        refine y_gf rfl rfl rfl rfl rfl ?_
        refine y_st rfl rfl rfl rfl rfl (fun _ _ => rfl) ?_
        show yP (xg xs) (d + 1) 382 76 [(7, .int u3), (0, .ref 58), (1, .int l1), (2, .int l2), (3, .int l3), (4, .int l4), (6, .int l6)] [.int u3, .ref 62] m4 Q
        refine y_iald rfl rfl rfl (H.1) ?_
        replace H := H.2
        refine y_st rfl rfl rfl rfl rfl (fun _ _ => rfl) ?_
        show yP (xg xs) (d + 1) 382 79 [(7, .int u3), (0, .ref 58), (1, .int l1), (2, .int l2), (3, .int l3), (4, .int l4), (6, .int l6)] [.int (25 : Int32), .int (m4.1 62 u3.toNatClampNeg)] m4 Q
        refine y_ine (t := 88) rfl rfl rfl (fun h => ?_) (fun h => ?_)
        · replace H := H.1 h; clear h
          show yP (xg xs) (d + 1) 382 88 [(7, .int u3), (0, .ref 58), (1, .int l1), (2, .int l2), (3, .int l3), (4, .int l4), (6, .int l6)] [] m4 Q
          refine y_headS (l2 := [(0, .ref 58), (1, .int l1), (2, .int l2), (3, .int l3), (4, .int l4), (6, .int l6)]) [1, 2, 3, 4, 5, 6] [0, 1, 2, 3, 4, 6] [7, 0, 1, 2, 3, 4, 6] rfl rfl (by decide) rfl (by decide) ?_
          exact H
        · replace H := H.2 h; clear h
          refine y_st rfl rfl rfl rfl rfl (fun _ _ => rfl) ?_
          refine y_st rfl rfl rfl rfl rfl (fun _ _ => rfl) ?_
          show yP (xg xs) (d + 1) 382 85 [(7, .int u3), (0, .ref 58), (1, .int l1), (2, .int l2), (3, .int l3), (4, .int l4), (6, .int l6)] [.int u3, .ref 58] m4 Q
          refine y_call rfl rfl rfl rfl rfl (Nat.le_of_ble_eq_true rfl) (Nat.le_of_ble_eq_true rfl) rfl (by decide) H (fun v5 m5 H => ?_)
          obtain ⟨rfl, H⟩ := H
          show yP (xg xs) (d + 1) 382 88 [(7, .int u3), (0, .ref 58), (1, .int l1), (2, .int l2), (3, .int l3), (4, .int l4), (6, .int l6)] [] m5 Q
          refine y_headS (l2 := [(0, .ref 58), (1, .int l1), (2, .int l2), (3, .int l3), (4, .int l4), (6, .int l6)]) [1, 2, 3, 4, 5, 6] [0, 1, 2, 3, 4, 6] [7, 0, 1, 2, 3, 4, 6] rfl rfl (by decide) rfl (by decide) ?_
          exact H
set_option maxRecDepth 20000 in
/-- CodeMakerModel.writeGroup from 88 on -/
theorem w382_88 (xs : List Int32) (d : Nat) (l1 : Int32) (l2 : Int32) (l3 : Int32) (l4 : Int32) (l6 : Int32) (m : yM) (Q : Option Value → yM → Prop) (H : (((l4 + (1 : Int32)) ≤ (1 : Int32) → yP (xg xs) (d + 1) 382 109 [(0, .ref 58), (1, .int l1), (2, .int l2), (3, .int l3), (4, .int (l4 + (1 : Int32))), (6, .int l6)] [] m Q) ∧ (¬ (l4 + (1 : Int32)) ≤ (1 : Int32) → (yC (xg xs) d 369 [.ref 58, .int (7 : Int32), .int (11 : Int32), .int (0 : Int32), .int (0 : Int32)] m (fun v1 m1 => ∃ u1, v1 = some (Value.int u1) ∧ yP (xg xs) (d + 1) 382 109 [(0, .ref 58), (1, .int l1), (2, .int l2), (3, .int l3), (4, .int (l4 + (1 : Int32))), (6, .int l6)] [] m1 Q))))) : yP (xg xs) (d + 1) 382 88 [(0, .ref 58), (1, .int l1), (2, .int l2), (3, .int l3), (4, .int l4), (6, .int l6)] [] m Q := by
  refine y_st rfl rfl rfl rfl rfl (fun _ _ => rfl) ?_
  refine y_st rfl rfl rfl rfl rfl (fun _ _ => rfl) ?_
  refine y_st rfl rfl rfl rfl rfl (fun _ _ => rfl) ?_
  show yP (xg xs) (d + 1) 382 94 [(4, .int (l4 + (1 : Int32))), (0, .ref 58), (1, .int l1), (2, .int l2), (3, .int l3), (6, .int l6)] [.int (1 : Int32), .int (l4 + (1 : Int32))] m Q
  refine y_ile (t := 109) rfl rfl rfl (fun h => ?_) (fun h => ?_)
  · replace H := H.1 h; clear h
    show yP (xg xs) (d + 1) 382 109 [(4, .int (l4 + (1 : Int32))), (0, .ref 58), (1, .int l1), (2, .int l2), (3, .int l3), (6, .int l6)] [] m Q
    refine y_headS (l2 := [(0, .ref 58), (1, .int l1), (2, .int l2), (3, .int l3), (4, .int (l4 + (1 : Int32))), (6, .int l6)]) [1, 2, 3, 4, 0, 5] [0, 1, 2, 3, 4, 6] [4, 0, 1, 2, 3, 6] rfl rfl (by decide) rfl (by decide) ?_
    exact H
  · replace H := H.2 h; clear h
    refine y_st rfl rfl rfl rfl rfl (fun _ _ => rfl) ?_
    refine y_st rfl rfl rfl rfl rfl (fun _ _ => rfl) ?_
    refine y_st rfl rfl rfl rfl rfl (fun _ _ => rfl) ?_
    refine y_st rfl rfl rfl rfl rfl (fun _ _ => rfl) ?_
    refine y_st rfl rfl rfl rfl rfl (fun _ _ => rfl) ?_
    show yP (xg xs) (d + 1) 382 104 [(4, .int (l4 + (1 : Int32))), (0, .ref 58), (1, .int l1), (2, .int l2), (3, .int l3), (6, .int l6)] [.int (0 : Int32), .int (0 : Int32), .int (11 : Int32), .int (7 : Int32), .ref 58] m Q
    refine y_call rfl rfl rfl rfl rfl (Nat.le_of_ble_eq_true rfl) (Nat.le_of_ble_eq_true rfl) rfl (by decide) H (fun v1 m1 H => ?_)
    obtain ⟨u1, rfl, H⟩ := H
    refine y_st rfl rfl rfl rfl rfl (fun _ _ => rfl) ?_
    show yP (xg xs) (d + 1) 382 109 [(5, .int u1), (4, .int (l4 + (1 : Int32))), (0, .ref 58), (1, .int l1), (2, .int l2), (3, .int l3), (6, .int l6)] [] m1 Q
    refine y_headS (l2 := [(0, .ref 58), (1, .int l1), (2, .int l2), (3, .int l3), (4, .int (l4 + (1 : Int32))), (6, .int l6)]) [2, 3, 4, 5, 1, 6] [0, 1, 2, 3, 4, 6] [5, 4, 0, 1, 2, 3, 6] rfl rfl (by decide) rfl (by decide) ?_
    exact H
set_option maxRecDepth 20000 in
/-- CodeMakerModel.writeGroup from 109 on -/
theorem w382_109 (xs : List Int32) (d : Nat) (l1 : Int32) (l2 : Int32) (l3 : Int32) (l4 : Int32) (l6 : Int32) (m : yM) (Q : Option Value → yM → Prop) (H : yP (xg xs) (d + 1) 382 9 [(0, .ref 58), (1, .int l1), (2, .int l2), (3, .int l3), (4, .int l4), (6, .int (l6 + (1 : Int32)))] [] m Q) : yP (xg xs) (d + 1) 382 109 [(0, .ref 58), (1, .int l1), (2, .int l2), (3, .int l3), (4, .int l4), (6, .int l6)] [] m Q := by
  refine y_st rfl rfl rfl rfl rfl (fun _ _ => rfl) ?_
  refine y_st rfl rfl rfl rfl rfl (fun _ _ => rfl) ?_
  show yP (xg xs) (d + 1) 382 9 [(6, .int (l6 + (1 : Int32))), (0, .ref 58), (1, .int l1), (2, .int l2), (3, .int l3), (4, .int l4)] [] m Q
  refine y_headS (l2 := [(0, .ref 58), (1, .int l1), (2, .int l2), (3, .int l3), (4, .int l4), (6, .int (l6 + (1 : Int32)))]) [1, 2, 3, 4, 5, 0] [0, 1, 2, 3, 4, 6] [6, 0, 1, 2, 3, 4] rfl rfl (by decide) rfl (by decide) ?_
  exact H
set_option maxRecDepth 20000 in
/-- CodeMakerModel.writeGroup from 115 on -/
theorem w382_115 (xs : List Int32) (d : Nat) (l1 : Int32) (l2 : Int32) (l3 : Int32) (l4 : Int32) (m : yM) (Q : Option Value → yM → Prop) (H : ((¬ l4 = 0 → yP (xg xs) (d + 1) 382 130 [(0, .ref 58), (1, .int l1), (2, .int l2), (3, .int l3)] [] m Q) ∧ (l4 = 0 → (yC (xg xs) d 369 [.ref 58, .int (0 : Int32), .int (0 : Int32), .int (0 : Int32), .int (0 : Int32)] m (fun v1 m1 => ∃ u1, v1 = some (Value.int u1) ∧ yP (xg xs) (d + 1) 382 130 [(0, .ref 58), (1, .int l1), (2, .int l2), (3, .int l3)] [] m1 Q))))) : yP (xg xs) (d + 1) 382 115 [(0, .ref 58), (1, .int l1), (2, .int l2), (3, .int l3), (4, .int l4)] [] m Q := by
  refine y_st rfl rfl rfl rfl rfl (fun _ _ => rfl) ?_
  show yP (xg xs) (d + 1) 382 117 [(0, .ref 58), (1, .int l1), (2, .int l2), (3, .int l3), (4, .int l4)] [.int l4] m Q
  refine y_zne (t := 130) rfl rfl rfl (fun h => ?_) (fun h => ?_)
  · replace H := H.1 h; clear h
    show yP (xg xs) (d + 1) 382 130 [(0, .ref 58), (1, .int l1), (2, .int l2), (3, .int l3), (4, .int l4)] [] m Q
    refine y_headS (l2 := [(0, .ref 58), (1, .int l1), (2, .int l2), (3, .int l3)]) [0, 1, 2, 3] [0, 1, 2, 3] [0, 1, 2, 3, 4] rfl rfl (by decide) rfl (by decide) ?_
    exact H
  · replace H := H.2 h; clear h
    refine y_st rfl rfl rfl rfl rfl (fun _ _ => rfl) ?_
    refine y_st rfl rfl rfl rfl rfl (fun _ _ => rfl) ?_
    refine y_st rfl rfl rfl rfl rfl (fun _ _ => rfl) ?_
    refine y_st rfl rfl rfl rfl rfl (fun _ _ => rfl) ?_
    refine y_st rfl rfl rfl rfl rfl (fun _ _ => rfl) ?_
    show yP (xg xs) (d + 1) 382 125 [(0, .ref 58), (1, .int l1), (2, .int l2), (3, .int l3), (4, .int l4)] [.int (0 : Int32), .int (0 : Int32), .int (0 : Int32), .int (0 : Int32), .ref 58] m Q
    refine y_call rfl rfl rfl rfl rfl (Nat.le_of_ble_eq_true rfl) (Nat.le_of_ble_eq_true rfl) rfl (by decide) H (fun v1 m1 H => ?_)
    obtain ⟨u1, rfl, H⟩ := H
    refine y_st rfl rfl rfl rfl rfl (fun _ _ => rfl) ?_
    show yP (xg xs) (d + 1) 382 130 [(5, .int u1), (0, .ref 58), (1, .int l1), (2, .int l2), (3, .int l3), (4, .int l4)] [] m1 Q
    refine y_headS (l2 := [(0, .ref 58), (1, .int l1), (2, .int l2), (3, .int l3)]) [1, 2, 3, 4] [0, 1, 2, 3] [5, 0, 1, 2, 3, 4] rfl rfl (by decide) rfl (by decide) ?_
    exact H
set_option maxRecDepth 20000 in
/-- CodeMakerModel.writeGroup from 130 on -/
theorem w382_130 (xs : List Int32) (d : Nat) (l1 : Int32) (l2 : Int32) (l3 : Int32) (m : yM) (Q : Option Value → yM → Prop) (H : (yC (xg xs) d 384 [.ref 58, .int l1, .int l2, .int l3] m (fun v1 m1 => ∃ u1, v1 = some (Value.int u1) ∧ (yC (xg xs) d 369 [.ref 58, .int (2 : Int32), .int u1, .int (0 : Int32), .int (0 : Int32)] m1 (fun v2 m2 => ∃ u2, v2 = some (Value.int u2) ∧ Q none m2))))) : yP (xg xs) (d + 1) 382 130 [(0, .ref 58), (1, .int l1), (2, .int l2), (3, .int l3)] [] m Q := by
  refine y_st rfl rfl rfl rfl rfl (fun _ _ => rfl) ?_
  refine y_st rfl rfl rfl rfl rfl (fun _ _ => rfl) ?_
  refine y_st rfl rfl rfl rfl rfl (fun _ _ => rfl) ?_
  refine y_st rfl rfl rfl rfl rfl (fun _ _ => rfl) ?_
  refine y_st rfl rfl rfl rfl rfl (fun _ _ => rfl) ?_
  refine y_st rfl rfl rfl rfl rfl (fun _ _ => rfl) ?_
  show yP (xg xs) (d + 1) 382 136 [(0, .ref 58), (1, .int l1), (2, .int l2), (3, .int l3)] [.int l3, .int l2, .int l1, .ref 58, .int (2 : Int32), .ref 58] m Q
  refine y_call rfl rfl rfl rfl rfl (Nat.le_of_ble_eq_true rfl) (Nat.le_of_ble_eq_true rfl) rfl (by decide) H (fun v1 m1 H => ?_)
  obtain ⟨u1, rfl, H⟩ := H
  refine y_st rfl rfl rfl rfl rfl (fun _ _ => rfl) ?_
  refine y_st rfl rfl rfl rfl rfl (fun _ _ => rfl) ?_
  show yP (xg xs) (d + 1) 382 141 [(0, .ref 58), (1, .int l1), (2, .int l2), (3, .int l3)] [.int (0 : Int32), .int (0 : Int32), .int u1, .int (2 : Int32), .ref 58] m1 Q
  refine y_call rfl rfl rfl rfl rfl (Nat.le_of_ble_eq_true rfl) (Nat.le_of_ble_eq_true rfl) rfl (by decide) H (fun v2 m2 H => ?_)
  obtain ⟨u2, rfl, H⟩ := H
  refine y_st rfl rfl rfl rfl rfl (fun _ _ => rfl) ?_
  show yP (xg xs) (d + 1) 382 146 [(5, .int u2), (0, .ref 58), (1, .int l1), (2, .int l2), (3, .int l3)] [] m2 Q
  exact y_ret rfl rfl rfl rfl H
set_option maxRecDepth 20000 in
/-- CodeMakerModel.writePower from 0 on -/
theorem w383_0 (xs : List Int32) (d : Nat) (l1 : Int32) (l2 : Int32) (l3 : Int32) (m : yM) (Q : Option Value → yM → Prop) (H : ((¬ l3 = 0 → (yC (xg xs) d 384 [.ref 58, .int l1, .int l2, .int l3] m (fun v1 m1 => ∃ u1, v1 = some (Value.int u1) ∧ (yC (xg xs) d 369 [.ref 58, .int (1 : Int32), .int u1, .int (0 : Int32), .int (0 : Int32)] m1 (fun v2 m2 => ∃ u2, v2 = some (Value.int u2) ∧ Q none m2))))) ∧ (l3 = 0 → (yC (xg xs) d 369 [.ref 58, .int (0 : Int32), .int (1 : Int32), .int (0 : Int32), .int (0 : Int32)] m (fun v3 m3 => ∃ u3, v3 = some (Value.int u3) ∧ Q none m3))))) : yP (xg xs) (d + 1) 383 0 [(0, .ref 58), (1, .int l1), (2, .int l2), (3, .int l3)] [] m Q := by
  refine y_st rfl rfl rfl rfl rfl (fun _ _ => rfl) ?_
  show yP (xg xs) (d + 1) 383 1 [(0, .ref 58), (1, .int l1), (2, .int l2), (3, .int l3)] [.int l3] m Q
  refine y_zne (t := 15) rfl rfl rfl (fun h => ?_) (fun h => ?_)
  · replace H := H.1 h; clear h
    refine y_st rfl rfl rfl rfl rfl (fun _ _ => rfl) ?_
    refine y_st rfl rfl rfl rfl rfl (fun _ _ => rfl) ?_
    refine y_st rfl rfl rfl rfl rfl (fun _ _ => rfl) ?_
    refine y_st rfl rfl rfl rfl rfl (fun _ _ => rfl) ?_
    refine y_st rfl rfl rfl rfl rfl (fun _ _ => rfl) ?_
    refine y_st rfl rfl rfl rfl rfl (fun _ _ => rfl) ?_
    show yP (xg xs) (d + 1) 383 21 [(0, .ref 58), (1, .int l1), (2, .int l2), (3, .int l3)] [.int l3, .int l2, .int l1, .ref 58, .int (1 : Int32), .ref 58] m Q
    refine y_call rfl rfl rfl rfl rfl (Nat.le_of_ble_eq_true rfl) (Nat.le_of_ble_eq_true rfl) rfl (by decide) H (fun v1 m1 H => ?_)
    obtain ⟨u1, rfl, H⟩ := H
    refine y_st rfl rfl rfl rfl rfl (fun _ _ => rfl) ?_
    refine y_st rfl rfl rfl rfl rfl (fun _ _ => rfl) ?_
    show yP (xg xs) (d + 1) 383 26 [(0, .ref 58), (1, .int l1), (2, .int l2), (3, .int l3)] [.int (0 : Int32), .int (0 : Int32), .int u1, .int (1 : Int32), .ref 58] m1 Q
    refine y_call rfl rfl rfl rfl rfl (Nat.le_of_ble_eq_true rfl) (Nat.le_of_ble_eq_true rfl) rfl (by decide) H (fun v2 m2 H => ?_)
    obtain ⟨u2, rfl, H⟩ := H
    refine y_st rfl rfl rfl rfl rfl (fun _ _ => rfl) ?_
    show yP (xg xs) (d + 1) 383 31 [(4, .int u2), (0, .ref 58), (1, .int l1), (2, .int l2), (3, .int l3)] [] m2 Q
    exact y_ret rfl rfl rfl rfl H
  · replace H := H.2 h; clear h
    refine y_st rfl rfl rfl rfl rfl (fun _ _ => rfl) ?_
    refine y_st rfl rfl rfl rfl rfl (fun _ _ => rfl) ?_
    refine y_st rfl rfl rfl rfl rfl (fun _ _ => rfl) ?_
    refine y_st rfl rfl rfl rfl rfl (fun _ _ => rfl) ?_
    refine y_st rfl rfl rfl rfl rfl (fun _ _ => rfl) ?_
    show yP (xg xs) (d + 1) 383 9 [(0, .ref 58), (1, .int l1), (2, .int l2), (3, .int l3)] [.int (0 : Int32), .int (0 : Int32), .int (1 : Int32), .int (0 : Int32), .ref 58] m Q
    refine y_call rfl rfl rfl rfl rfl (Nat.le_of_ble_eq_true rfl) (Nat.le_of_ble_eq_true rfl) rfl (by decide) H (fun v3 m3 H => ?_)
    obtain ⟨u3, rfl, H⟩ := H
    refine y_st rfl rfl rfl rfl rfl (fun _ _ => rfl) ?_
    refine y_st rfl rfl rfl rfl rfl (fun _ _ => rfl) ?_
    show yP (xg xs) (d + 1) 383 31 [(4, .int u3), (0, .ref 58), (1, .int l1), (2, .int l2), (3, .int l3)] [] m3 Q
    exact y_ret rfl rfl rfl rfl H
set_option maxRecDepth 20000 in
/-- CodeMakerModel.power from 0 on -/
theorem w384_0 (xs : List Int32) (d : Nat) (l1 : Int32) (l2 : Int32) (l3 : Int32) (m : yM) (Q : Option Value → yM → Prop) (H : (x_in (m.1 58 54) 400 = true ∧ (yC (xg xs) d 380 [.ref 58, .int l1, .int l2, .int l3] m (fun v1 m1 => ∃ u1, v1 = some (Value.int u1) ∧ Q (some (.int ((((m.1 72 ((m.1 58 54).toNatClampNeg)) - (156 : Int32)) + ((12 : Int32) * (l3 - (1 : Int32)))) + u1))) m1)))) : yP (xg xs) (d + 1) 384 0 [(0, .ref 58), (1, .int l1), (2, .int l2), (3, .int l3)] [] m Q := by
  refine y_st rfl rfl rfl rfl rfl (fun _ _ => rfl) ?_
  refine y_gf rfl rfl rfl rfl rfl ?_
  refine y_st rfl rfl rfl rfl rfl (fun _ _ => rfl) ?_
  refine y_gf rfl rfl rfl rfl rfl ?_
  show yP (xg xs) (d + 1) 384 8 [(0, .ref 58), (1, .int l1), (2, .int l2), (3, .int l3)] [.int (m.1 58 54), .ref 72] m Q
  refine y_iald rfl rfl rfl (H.1) ?_
  replace H := H.2
  refine y_st rfl rfl rfl rfl rfl (fun _ _ => rfl) ?_
  refine y_st rfl rfl rfl rfl rfl (fun _ _ => rfl) ?_
  refine y_st rfl rfl rfl rfl rfl (fun _ _ => rfl) ?_
  refine y_st rfl rfl rfl rfl rfl (fun _ _ => rfl) ?_
  refine y_st rfl rfl rfl rfl rfl (fun _ _ => rfl) ?_
  refine y_st rfl rfl rfl rfl rfl (fun _ _ => rfl) ?_
  refine y_st rfl rfl rfl rfl rfl (fun _ _ => rfl) ?_
  refine y_st rfl rfl rfl rfl rfl (fun _ _ => rfl) ?_
  refine y_st rfl rfl rfl rfl rfl (fun _ _ => rfl) ?_
  refine y_st rfl rfl rfl rfl rfl (fun _ _ => rfl) ?_
  refine y_st rfl rfl rfl rfl rfl (fun _ _ => rfl) ?_
  refine y_st rfl rfl rfl rfl rfl (fun _ _ => rfl) ?_
  show yP (xg xs) (d + 1) 384 24 [(0, .ref 58), (1, .int l1), (2, .int l2), (3, .int l3)] [.int l3, .int l2, .int l1, .ref 58, .int (((m.1 72 ((m.1 58 54).toNatClampNeg)) - (156 : Int32)) + ((12 : Int32) * (l3 - (1 : Int32))))] m Q
  refine y_call rfl rfl rfl rfl rfl (Nat.le_of_ble_eq_true rfl) (Nat.le_of_ble_eq_true rfl) rfl (by decide) H (fun v1 m1 H => ?_)
  obtain ⟨u1, rfl, H⟩ := H
  refine y_st rfl rfl rfl rfl rfl (fun _ _ => rfl) ?_
  show yP (xg xs) (d + 1) 384 28 [(0, .ref 58), (1, .int l1), (2, .int l2), (3, .int l3)] [.int ((((m.1 72 ((m.1 58 54).toNatClampNeg)) - (156 : Int32)) + ((12 : Int32) * (l3 - (1 : Int32)))) + u1)] m1 Q
  exact y_iret rfl rfl rfl H
set_option maxRecDepth 20000 in
/-- CodeMakerModel.writeContact from 0 on -/
theorem w385_0 (xs : List Int32) (d : Nat) (l1 : Int32) (m : yM) (Q : Option Value → yM → Prop) (H : (x_in l1 20000 = true ∧ (x_in l1 20000 = true ∧ ((¬ (m.1 64 l1.toNatClampNeg) = (3 : Int32) → (yC (xg xs) d 372 [.ref 58, .int (m.1 66 l1.toNatClampNeg)] m (fun v1 m1 => v1 = none ∧ (x_in l1 20000 = true ∧ ((¬ (m1.1 64 l1.toNatClampNeg) = (1 : Int32) → yP (xg xs) (d + 1) 385 76 [(0, .ref 58), (1, .int l1), (3, .int (m.1 66 l1.toNatClampNeg))] [] m1 Q) ∧ ((m1.1 64 l1.toNatClampNeg) = (1 : Int32) → (yC (xg xs) d 369 [.ref 58, .int (8 : Int32), .int (2 : Int32), .int (0 : Int32), .int (0 : Int32)] m1 (fun v2 m2 => ∃ u2, v2 = some (Value.int u2) ∧ yP (xg xs) (d + 1) 385 76 [(0, .ref 58), (1, .int l1), (3, .int (m.1 66 l1.toNatClampNeg))] [] m2 Q)))))))) ∧ ((m.1 64 l1.toNatClampNeg) = (3 : Int32) → (x_in l1 20000 = true ∧ (yC (xg xs) d 369 [.ref 58, .int (1 : Int32), .int (m.1 86 l1.toNatClampNeg), .int (0 : Int32), .int (0 : Int32)] m (fun v3 m3 => ∃ u3, v3 = some (Value.int u3) ∧ (yC (xg xs) d 372 [.ref 58, .int (m.1 66 l1.toNatClampNeg)] m3 (fun v4 m4 => v4 = none ∧ (yC (xg xs) d 369 [.ref 58, .int (8 : Int32), .int (2 : Int32), .int (0 : Int32), .int (0 : Int32)] m4 (fun v5 m5 => ∃ u5, v5 = some (Value.int u5) ∧ yP (xg xs) (d + 1) 385 76 [(0, .ref 58), (1, .int l1), (3, .int (m.1 66 l1.toNatClampNeg))] [] m5 Q)))))))))))) : yP (xg xs) (d + 1) 385 0 [(0, .ref 58), (1, .int l1)] [] m Q := by
  refine y_st rfl rfl rfl rfl rfl (fun _ _ => rfl) ?_
  refine y_st rfl rfl rfl rfl rfl (fun _ _ => rfl) ?_
  refine y_st rfl rfl rfl rfl rfl (fun _ _ => rfl) ?_
  refine y_gf rfl rfl rfl rfl rfl ?_
  refine y_st rfl rfl rfl rfl rfl (fun _ _ => rfl) ?_
  show yP (xg xs) (d + 1) 385 7 [(2, .int (0 : Int32)), (0, .ref 58), (1, .int l1)] [.int l1, .ref 66] m Q
  refine y_iald rfl rfl rfl (H.1) ?_
  replace H := H.2
  refine y_st rfl rfl rfl rfl rfl (fun _ _ => rfl) ?_
  refine y_st rfl rfl rfl rfl rfl (fun _ _ => rfl) ?_
  refine y_gf rfl rfl rfl rfl rfl ?_
  refine y_st rfl rfl rfl rfl rfl (fun _ _ => rfl) ?_
  show yP (xg xs) (d + 1) 385 14 [(3, .int (m.1 66 l1.toNatClampNeg)), (2, .int (0 : Int32)), (0, .ref 58), (1, .int l1)] [.int l1, .ref 64] m Q
  refine y_iald rfl rfl rfl (H.1) ?_
  replace H := H.2
  refine y_st rfl rfl rfl rfl rfl (fun _ _ => rfl) ?_
  show yP (xg xs) (d + 1) 385 16 [(3, .int (m.1 66 l1.toNatClampNeg)), (2, .int (0 : Int32)), (0, .ref 58), (1, .int l1)] [.int (3 : Int32), .int (m.1 64 l1.toNatClampNeg)] m Q
  refine y_ine (t := 51) rfl rfl rfl (fun h => ?_) (fun h => ?_)
  · replace H := H.1 h; clear h
    refine y_st rfl rfl rfl rfl rfl (fun _ _ => rfl) ?_
    refine y_st rfl rfl rfl rfl rfl (fun _ _ => rfl) ?_
    show yP (xg xs) (d + 1) 385 53 [(3, .int (m.1 66 l1.toNatClampNeg)), (2, .int (0 : Int32)), (0, .ref 58), (1, .int l1)] [.int (m.1 66 l1.toNatClampNeg), .ref 58] m Q
    refine y_call rfl rfl rfl rfl rfl (Nat.le_of_ble_eq_true rfl) (Nat.le_of_ble_eq_true rfl) rfl (by decide) H (fun v1 m1 H => ?_)
    obtain ⟨rfl, H⟩ := H
    refine y_st rfl rfl rfl rfl rfl (fun _ _ => rfl) ?_
    refine y_gf rfl rfl rfl rfl rfl ?_
    refine y_st rfl rfl rfl rfl rfl (fun _ _ => rfl) ?_
    show yP (xg xs) (d + 1) 385 61 [(3, .int (m.1 66 l1.toNatClampNeg)), (2, .int (0 : Int32)), (0, .ref 58), (1, .int l1)] [.int l1, .ref 64] m1 Q
    refine y_iald rfl rfl rfl (H.1) ?_
    replace H := H.2
    refine y_st rfl rfl rfl rfl rfl (fun _ _ => rfl) ?_
    show yP (xg xs) (d + 1) 385 63 [(3, .int (m.1 66 l1.toNatClampNeg)), (2, .int (0 : Int32)), (0, .ref 58), (1, .int l1)] [.int (1 : Int32), .int (m1.1 64 l1.toNatClampNeg)] m1 Q
    refine y_ine (t := 76) rfl rfl rfl (fun h => ?_) (fun h => ?_)
    · replace H := H.1 h; clear h
      show yP (xg xs) (d + 1) 385 76 [(3, .int (m.1 66 l1.toNatClampNeg)), (2, .int (0 : Int32)), (0, .ref 58), (1, .int l1)] [] m1 Q
      refine y_headS (l2 := [(0, .ref 58), (1, .int l1), (3, .int (m.1 66 l1.toNatClampNeg))]) [2, 3, 0] [0, 1, 3] [3, 2, 0, 1] rfl rfl (by decide) rfl (by decide) ?_
      exact H
    · replace H := H.2 h; clear h
      refine y_st rfl rfl rfl rfl rfl (fun _ _ => rfl) ?_
      refine y_st rfl rfl rfl rfl rfl (fun _ _ => rfl) ?_
      refine y_st rfl rfl rfl rfl rfl (fun _ _ => rfl) ?_
      refine y_st rfl rfl rfl rfl rfl (fun _ _ => rfl) ?_
      refine y_st rfl rfl rfl rfl rfl (fun _ _ => rfl) ?_
      show yP (xg xs) (d + 1) 385 72 [(3, .int (m.1 66 l1.toNatClampNeg)), (2, .int (0 : Int32)), (0, .ref 58), (1, .int l1)] [.int (0 : Int32), .int (0 : Int32), .int (2 : Int32), .int (8 : Int32), .ref 58] m1 Q
      refine y_call rfl rfl rfl rfl rfl (Nat.le_of_ble_eq_true rfl) (Nat.le_of_ble_eq_true rfl) rfl (by decide) H (fun v2 m2 H => ?_)
      obtain ⟨u2, rfl, H⟩ := H
      refine y_st rfl rfl rfl rfl rfl (fun _ _ => rfl) ?_
      show yP (xg xs) (d + 1) 385 76 [(2, .int u2), (3, .int (m.1 66 l1.toNatClampNeg)), (0, .ref 58), (1, .int l1)] [] m2 Q
      refine y_headS (l2 := [(0, .ref 58), (1, .int l1), (3, .int (m.1 66 l1.toNatClampNeg))]) [2, 3, 1] [0, 1, 3] [2, 3, 0, 1] rfl rfl (by decide) rfl (by decide) ?_
      exact H
  · replace H := H.2 h; clear h
    refine y_st rfl rfl rfl rfl rfl (fun _ _ => rfl) ?_
    refine y_st rfl rfl rfl rfl rfl (fun _ _ => rfl) ?_
    refine y_st rfl rfl rfl rfl rfl (fun _ _ => rfl) ?_
    refine y_gf rfl rfl rfl rfl rfl ?_
    refine y_st rfl rfl rfl rfl rfl (fun _ _ => rfl) ?_
    show yP (xg xs) (d + 1) 385 26 [(3, .int (m.1 66 l1.toNatClampNeg)), (2, .int (0 : Int32)), (0, .ref 58), (1, .int l1)] [.int l1, .ref 86, .int (1 : Int32), .ref 58] m Q
    refine y_iald rfl rfl rfl (H.1) ?_
    replace H := H.2
    refine y_st rfl rfl rfl rfl rfl (fun _ _ => rfl) ?_
    refine y_st rfl rfl rfl rfl rfl (fun _ _ => rfl) ?_
    show yP (xg xs) (d + 1) 385 29 [(3, .int (m.1 66 l1.toNatClampNeg)), (2, .int (0 : Int32)), (0, .ref 58), (1, .int l1)] [.int (0 : Int32), .int (0 : Int32), .int (m.1 86 l1.toNatClampNeg), .int (1 : Int32), .ref 58] m Q
    refine y_call rfl rfl rfl rfl rfl (Nat.le_of_ble_eq_true rfl) (Nat.le_of_ble_eq_true rfl) rfl (by decide) H (fun v3 m3 H => ?_)
    obtain ⟨u3, rfl, H⟩ := H
    refine y_st rfl rfl rfl rfl rfl (fun _ _ => rfl) ?_
    refine y_st rfl rfl rfl rfl rfl (fun _ _ => rfl) ?_
    refine y_st rfl rfl rfl rfl rfl (fun _ _ => rfl) ?_
    show yP (xg xs) (d + 1) 385 35 [(2, .int u3), (3, .int (m.1 66 l1.toNatClampNeg)), (0, .ref 58), (1, .int l1)] [.int (m.1 66 l1.toNatClampNeg), .ref 58] m3 Q
    refine y_call rfl rfl rfl rfl rfl (Nat.le_of_ble_eq_true rfl) (Nat.le_of_ble_eq_true rfl) rfl (by decide) H (fun v4 m4 H => ?_)
    obtain ⟨rfl, H⟩ := H
    refine y_st rfl rfl rfl rfl rfl (fun _ _ => rfl) ?_
    refine y_st rfl rfl rfl rfl rfl (fun _ _ => rfl) ?_
    refine y_st rfl rfl rfl rfl rfl (fun _ _ => rfl) ?_
    refine y_st rfl rfl rfl rfl rfl (fun _ _ => rfl) ?_
    refine y_st rfl rfl rfl rfl rfl (fun _ _ => rfl) ?_
    show yP (xg xs) (d + 1) 385 44 [(2, .int u3), (3, .int (m.1 66 l1.toNatClampNeg)), (0, .ref 58), (1, .int l1)] [.int (0 : Int32), .int (0 : Int32), .int (2 : Int32), .int (8 : Int32), .ref 58] m4 Q
    refine y_call rfl rfl rfl rfl rfl (Nat.le_of_ble_eq_true rfl) (Nat.le_of_ble_eq_true rfl) rfl (by decide) H (fun v5 m5 H => ?_)
    obtain ⟨u5, rfl, H⟩ := H
    refine y_st rfl rfl rfl rfl rfl (fun _ _ => rfl) ?_
    refine y_st rfl rfl rfl rfl rfl (fun _ _ => rfl) ?_
    show yP (xg xs) (d + 1) 385 76 [(2, .int u5), (3, .int (m.1 66 l1.toNatClampNeg)), (0, .ref 58), (1, .int l1)] [] m5 Q
    refine y_headS (l2 := [(0, .ref 58), (1, .int l1), (3, .int (m.1 66 l1.toNatClampNeg))]) [2, 3, 1] [0, 1, 3] [2, 3, 0, 1] rfl rfl (by decide) rfl (by decide) ?_
    exact H
set_option maxRecDepth 20000 in
/-- CodeMakerModel.writeContact from 76 on -/
theorem w385_76 (xs : List Int32) (d : Nat) (l1 : Int32) (l3 : Int32) (m : yM) (Q : Option Value → yM → Prop) (H : (x_in l1 20000 = true ∧ ((¬ (m.1 64 l1.toNatClampNeg) = (2 : Int32) → yP (xg xs) (d + 1) 385 110 [(0, .ref 58), (1, .int l1), (3, .int l3)] [] m Q) ∧ ((m.1 64 l1.toNatClampNeg) = (2 : Int32) → (x_in l1 20000 = true ∧ (yC (xg xs) d 369 [.ref 58, .int (1 : Int32), .int (m.1 86 l1.toNatClampNeg), .int (0 : Int32), .int (0 : Int32)] m (fun v1 m1 => ∃ u1, v1 = some (Value.int u1) ∧ (yC (xg xs) d 369 [.ref 58, .int (8 : Int32), .int (2 : Int32), .int (0 : Int32), .int (0 : Int32)] m1 (fun v2 m2 => ∃ u2, v2 = some (Value.int u2) ∧ yP (xg xs) (d + 1) 385 110 [(0, .ref 58), (1, .int l1), (3, .int l3)] [] m2 Q))))))))) : yP (xg xs) (d + 1) 385 76 [(0, .ref 58), (1, .int l1), (3, .int l3)] [] m Q := by
  refine y_st rfl rfl rfl rfl rfl (fun _ _ => rfl) ?_
  refine y_gf rfl rfl rfl rfl rfl ?_
  refine y_st rfl rfl rfl rfl rfl (fun _ _ => rfl) ?_
  show yP (xg xs) (d + 1) 385 81 [(0, .ref 58), (1, .int l1), (3, .int l3)] [.int l1, .ref 64] m Q
  refine y_iald rfl rfl rfl (H.1) ?_
  replace H := H.2
  refine y_st rfl rfl rfl rfl rfl (fun _ _ => rfl) ?_
  show yP (xg xs) (d + 1) 385 83 [(0, .ref 58), (1, .int l1), (3, .int l3)] [.int (2 : Int32), .int (m.1 64 l1.toNatClampNeg)] m Q
  refine y_ine (t := 110) rfl rfl rfl (fun h => ?_) (fun h => ?_)
  · replace H := H.1 h; clear h
    show yP (xg xs) (d + 1) 385 110 [(0, .ref 58), (1, .int l1), (3, .int l3)] [] m Q
    exact H
  · replace H := H.2 h; clear h
    refine y_st rfl rfl rfl rfl rfl (fun _ _ => rfl) ?_
    refine y_st rfl rfl rfl rfl rfl (fun _ _ => rfl) ?_
    refine y_st rfl rfl rfl rfl rfl (fun _ _ => rfl) ?_
    refine y_gf rfl rfl rfl rfl rfl ?_
    refine y_st rfl rfl rfl rfl rfl (fun _ _ => rfl) ?_
    show yP (xg xs) (d + 1) 385 93 [(0, .ref 58), (1, .int l1), (3, .int l3)] [.int l1, .ref 86, .int (1 : Int32), .ref 58] m Q
    refine y_iald rfl rfl rfl (H.1) ?_
    replace H := H.2
    refine y_st rfl rfl rfl rfl rfl (fun _ _ => rfl) ?_
    refine y_st rfl rfl rfl rfl rfl (fun _ _ => rfl) ?_
    show yP (xg xs) (d + 1) 385 96 [(0, .ref 58), (1, .int l1), (3, .int l3)] [.int (0 : Int32), .int (0 : Int32), .int (m.1 86 l1.toNatClampNeg), .int (1 : Int32), .ref 58] m Q
    refine y_call rfl rfl rfl rfl rfl (Nat.le_of_ble_eq_true rfl) (Nat.le_of_ble_eq_true rfl) rfl (by decide) H (fun v1 m1 H => ?_)
    obtain ⟨u1, rfl, H⟩ := H
    refine y_st rfl rfl rfl rfl rfl (fun _ _ => rfl) ?_
    refine y_st rfl rfl rfl rfl rfl (fun _ _ => rfl) ?_
    refine y_st rfl rfl rfl rfl rfl (fun _ _ => rfl) ?_
    refine y_st rfl rfl rfl rfl rfl (fun _ _ => rfl) ?_
    refine y_st rfl rfl rfl rfl rfl (fun _ _ => rfl) ?_
    refine y_st rfl rfl rfl rfl rfl (fun _ _ => rfl) ?_
    show yP (xg xs) (d + 1) 385 106 [(2, .int u1), (0, .ref 58), (1, .int l1), (3, .int l3)] [.int (0 : Int32), .int (0 : Int32), .int (2 : Int32), .int (8 : Int32), .ref 58] m1 Q
    refine y_call rfl rfl rfl rfl rfl (Nat.le_of_ble_eq_true rfl) (Nat.le_of_ble_eq_true rfl) rfl (by decide) H (fun v2 m2 H => ?_)
    obtain ⟨u2, rfl, H⟩ := H
    refine y_st rfl rfl rfl rfl rfl (fun _ _ => rfl) ?_
    show yP (xg xs) (d + 1) 385 110 [(2, .int u2), (0, .ref 58), (1, .int l1), (3, .int l3)] [] m2 Q
    refine y_headS (l2 := [(0, .ref 58), (1, .int l1), (3, .int l3)]) [1, 2, 3] [0, 1, 3] [2, 0, 1, 3] rfl rfl (by decide) rfl (by decide) ?_
    exact H
set_option maxRecDepth 20000 in
/-- CodeMakerModel.writeContact from 110 on -/
theorem w385_110 (xs : List Int32) (d : Nat) (l1 : Int32) (l3 : Int32) (m : yM) (Q : Option Value → yM → Prop) (H : (x_in l1 20000 = true ∧ (((m.1 64 l1.toNatClampNeg) ≤ (1 : Int32) → yP (xg xs) (d + 1) 385 131 [(0, .ref 58), (1, .int l1), (3, .int l3)] [] m Q) ∧ (¬ (m.1 64 l1.toNatClampNeg) ≤ (1 : Int32) → (yC (xg xs) d 369 [.ref 58, .int (7 : Int32), .int (10 : Int32), .int (0 : Int32), .int (0 : Int32)] m (fun v1 m1 => ∃ u1, v1 = some (Value.int u1) ∧ yP (xg xs) (d + 1) 385 131 [(0, .ref 58), (1, .int l1), (3, .int l3)] [] m1 Q)))))) : yP (xg xs) (d + 1) 385 110 [(0, .ref 58), (1, .int l1), (3, .int l3)] [] m Q := by
  refine y_st rfl rfl rfl rfl rfl (fun _ _ => rfl) ?_
  refine y_gf rfl rfl rfl rfl rfl ?_
  refine y_st rfl rfl rfl rfl rfl (fun _ _ => rfl) ?_
  show yP (xg xs) (d + 1) 385 115 [(0, .ref 58), (1, .int l1), (3, .int l3)] [.int l1, .ref 64] m Q
  refine y_iald rfl rfl rfl (H.1) ?_
  replace H := H.2
  refine y_st rfl rfl rfl rfl rfl (fun _ _ => rfl) ?_
  show yP (xg xs) (d + 1) 385 117 [(0, .ref 58), (1, .int l1), (3, .int l3)] [.int (1 : Int32), .int (m.1 64 l1.toNatClampNeg)] m Q
  refine y_ile (t := 131) rfl rfl rfl (fun h => ?_) (fun h => ?_)
  · replace H := H.1 h; clear h
    show yP (xg xs) (d + 1) 385 131 [(0, .ref 58), (1, .int l1), (3, .int l3)] [] m Q
    exact H
  · replace H := H.2 h; clear h
    refine y_st rfl rfl rfl rfl rfl (fun _ _ => rfl) ?_
    refine y_st rfl rfl rfl rfl rfl (fun _ _ => rfl) ?_
    refine y_st rfl rfl rfl rfl rfl (fun _ _ => rfl) ?_
    refine y_st rfl rfl rfl rfl rfl (fun _ _ => rfl) ?_
    refine y_st rfl rfl rfl rfl rfl (fun _ _ => rfl) ?_
    show yP (xg xs) (d + 1) 385 127 [(0, .ref 58), (1, .int l1), (3, .int l3)] [.int (0 : Int32), .int (0 : Int32), .int (10 : Int32), .int (7 : Int32), .ref 58] m Q
    refine y_call rfl rfl rfl rfl rfl (Nat.le_of_ble_eq_true rfl) (Nat.le_of_ble_eq_true rfl) rfl (by decide) H (fun v1 m1 H => ?_)
    obtain ⟨u1, rfl, H⟩ := H
    refine y_st rfl rfl rfl rfl rfl (fun _ _ => rfl) ?_
    show yP (xg xs) (d + 1) 385 131 [(2, .int u1), (0, .ref 58), (1, .int l1), (3, .int l3)] [] m1 Q
    refine y_headS (l2 := [(0, .ref 58), (1, .int l1), (3, .int l3)]) [1, 2, 3] [0, 1, 3] [2, 0, 1, 3] rfl rfl (by decide) rfl (by decide) ?_
    exact H
set_option maxRecDepth 20000 in
/-- CodeMakerModel.writeContact from 131 on -/
theorem w385_131 (xs : List Int32) (d : Nat) (l1 : Int32) (l3 : Int32) (m : yM) (Q : Option Value → yM → Prop) (H : (yC (xg xs) d 369 [.ref 58, .int (7 : Int32), .int (10 : Int32), .int (0 : Int32), .int (0 : Int32)] m (fun v1 m1 => ∃ u1, v1 = some (Value.int u1) ∧ (x_in l1 20000 = true ∧ (((m1.1 64 l1.toNatClampNeg) ≤ (1 : Int32) → Q none m1) ∧ (¬ (m1.1 64 l1.toNatClampNeg) ≤ (1 : Int32) → (yC (xg xs) d 372 [.ref 58, .int l3] m1 (fun v2 m2 => v2 = none ∧ (x_in l1 20000 = true ∧ (yC (xg xs) d 369 [.ref 58, .int (2 : Int32), .int (m2.1 86 l1.toNatClampNeg), .int (0 : Int32), .int (0 : Int32)] m2 (fun v3 m3 => ∃ u3, v3 = some (Value.int u3) ∧ Q none m3))))))))))) : yP (xg xs) (d + 1) 385 131 [(0, .ref 58), (1, .int l1), (3, .int l3)] [] m Q := by
  refine y_st rfl rfl rfl rfl rfl (fun _ _ => rfl) ?_
  refine y_st rfl rfl rfl rfl rfl (fun _ _ => rfl) ?_
  refine y_st rfl rfl rfl rfl rfl (fun _ _ => rfl) ?_
  refine y_st rfl rfl rfl rfl rfl (fun _ _ => rfl) ?_
  refine y_st rfl rfl rfl rfl rfl (fun _ _ => rfl) ?_
  show yP (xg xs) (d + 1) 385 138 [(0, .ref 58), (1, .int l1), (3, .int l3)] [.int (0 : Int32), .int (0 : Int32), .int (10 : Int32), .int (7 : Int32), .ref 58] m Q
  refine y_call rfl rfl rfl rfl rfl (Nat.le_of_ble_eq_true rfl) (Nat.le_of_ble_eq_true rfl) rfl (by decide) H (fun v1 m1 H => ?_)
  obtain ⟨u1, rfl, H⟩ := H
  refine y_st rfl rfl rfl rfl rfl (fun _ _ => rfl) ?_
  refine y_st rfl rfl rfl rfl rfl (fun _ _ => rfl) ?_
  refine y_gf rfl rfl rfl rfl rfl ?_
  refine y_st rfl rfl rfl rfl rfl (fun _ _ => rfl) ?_
  show yP (xg xs) (d + 1) 385 147 [(2, .int u1), (0, .ref 58), (1, .int l1), (3, .int l3)] [.int l1, .ref 64] m1 Q
  refine y_iald rfl rfl rfl (H.1) ?_
  replace H := H.2
  refine y_st rfl rfl rfl rfl rfl (fun _ _ => rfl) ?_
  show yP (xg xs) (d + 1) 385 149 [(2, .int u1), (0, .ref 58), (1, .int l1), (3, .int l3)] [.int (1 : Int32), .int (m1.1 64 l1.toNatClampNeg)] m1 Q
  refine y_ile (t := 171) rfl rfl rfl (fun h => ?_) (fun h => ?_)
  · replace H := H.1 h; clear h
    show yP (xg xs) (d + 1) 385 171 [(2, .int u1), (0, .ref 58), (1, .int l1), (3, .int l3)] [] m1 Q
    exact y_ret rfl rfl rfl rfl H
  · replace H := H.2 h; clear h
    refine y_st rfl rfl rfl rfl rfl (fun _ _ => rfl) ?_
    refine y_st rfl rfl rfl rfl rfl (fun _ _ => rfl) ?_
    show yP (xg xs) (d + 1) 385 154 [(2, .int u1), (0, .ref 58), (1, .int l1), (3, .int l3)] [.int l3, .ref 58] m1 Q
    refine y_call rfl rfl rfl rfl rfl (Nat.le_of_ble_eq_true rfl) (Nat.le_of_ble_eq_true rfl) rfl (by decide) H (fun v2 m2 H => ?_)
    obtain ⟨rfl, H⟩ := H
    refine y_st rfl rfl rfl rfl rfl (fun _ _ => rfl) ?_
    refine y_st rfl rfl rfl rfl rfl (fun _ _ => rfl) ?_
    refine y_st rfl rfl rfl rfl rfl (fun _ _ => rfl) ?_
    refine y_gf rfl rfl rfl rfl rfl ?_
    refine y_st rfl rfl rfl rfl rfl (fun _ _ => rfl) ?_
    show yP (xg xs) (d + 1) 385 164 [(2, .int u1), (0, .ref 58), (1, .int l1), (3, .int l3)] [.int l1, .ref 86, .int (2 : Int32), .ref 58] m2 Q
    refine y_iald rfl rfl rfl (H.1) ?_
    replace H := H.2
    refine y_st rfl rfl rfl rfl rfl (fun _ _ => rfl) ?_
    refine y_st rfl rfl rfl rfl rfl (fun _ _ => rfl) ?_
    show yP (xg xs) (d + 1) 385 167 [(2, .int u1), (0, .ref 58), (1, .int l1), (3, .int l3)] [.int (0 : Int32), .int (0 : Int32), .int (m2.1 86 l1.toNatClampNeg), .int (2 : Int32), .ref 58] m2 Q
    refine y_call rfl rfl rfl rfl rfl (Nat.le_of_ble_eq_true rfl) (Nat.le_of_ble_eq_true rfl) rfl (by decide) H (fun v3 m3 H => ?_)
    obtain ⟨u3, rfl, H⟩ := H
    refine y_st rfl rfl rfl rfl rfl (fun _ _ => rfl) ?_
    show yP (xg xs) (d + 1) 385 171 [(2, .int u3), (0, .ref 58), (1, .int l1), (3, .int l3)] [] m3 Q
    exact y_ret rfl rfl rfl rfl H
set_option maxRecDepth 20000 in
/-- CodeMakerModel.writeCoil from 0 on -/
theorem w386_0 (xs : List Int32) (d : Nat) (l1 : Int32) (l2 : Int32) (l3 : Int32) (l4 : Int32) (m : yM) (Q : Option Value → yM → Prop) (H : (x_in l3 20000 = true ∧ (x_in l3 20000 = true ∧ (((m.1 64 l3.toNatClampNeg) ≤ (1 : Int32) → yP (xg xs) (d + 1) 386 27 [(0, .ref 58), (1, .int l1), (2, .int l2), (3, .int l3), (4, .int l4), (5, .int (m.1 66 l3.toNatClampNeg))] [] m Q) ∧ (¬ (m.1 64 l3.toNatClampNeg) ≤ (1 : Int32) → (yC (xg xs) d 372 [.ref 58, .int (m.1 66 l3.toNatClampNeg)] m (fun v1 m1 => v1 = none ∧ yP (xg xs) (d + 1) 386 27 [(0, .ref 58), (1, .int l1), (2, .int l2), (3, .int l3), (4, .int l4), (5, .int (m.1 66 l3.toNatClampNeg))] [] m1 Q))))))) : yP (xg xs) (d + 1) 386 0 [(0, .ref 58), (1, .int l1), (2, .int l2), (3, .int l3), (4, .int l4)] [] m Q := by
  refine y_st rfl rfl rfl rfl rfl (fun _ _ => rfl) ?_
  refine y_gf rfl rfl rfl rfl rfl ?_
  refine y_st rfl rfl rfl rfl rfl (fun _ _ => rfl) ?_
  show yP (xg xs) (d + 1) 386 5 [(0, .ref 58), (1, .int l1), (2, .int l2), (3, .int l3), (4, .int l4)] [.int l3, .ref 66] m Q
  refine y_iald rfl rfl rfl (H.1) ?_
  replace H := H.2
  refine y_st rfl rfl rfl rfl rfl (fun _ _ => rfl) ?_
  refine y_st rfl rfl rfl rfl rfl (fun _ _ => rfl) ?_
  refine y_st rfl rfl rfl rfl rfl (fun _ _ => rfl) ?_
  refine y_st rfl rfl rfl rfl rfl (fun _ _ => rfl) ?_
  refine y_gf rfl rfl rfl rfl rfl ?_
  refine y_st rfl rfl rfl rfl rfl (fun _ _ => rfl) ?_
  show yP (xg xs) (d + 1) 386 16 [(6, .int (0 : Int32)), (5, .int (m.1 66 l3.toNatClampNeg)), (0, .ref 58), (1, .int l1), (2, .int l2), (3, .int l3), (4, .int l4)] [.int l3, .ref 64] m Q
  refine y_iald rfl rfl rfl (H.1) ?_
  replace H := H.2
  refine y_st rfl rfl rfl rfl rfl (fun _ _ => rfl) ?_
  show yP (xg xs) (d + 1) 386 18 [(6, .int (0 : Int32)), (5, .int (m.1 66 l3.toNatClampNeg)), (0, .ref 58), (1, .int l1), (2, .int l2), (3, .int l3), (4, .int l4)] [.int (1 : Int32), .int (m.1 64 l3.toNatClampNeg)] m Q
  refine y_ile (t := 27) rfl rfl rfl (fun h => ?_) (fun h => ?_)
  · replace H := H.1 h; clear h
    show yP (xg xs) (d + 1) 386 27 [(6, .int (0 : Int32)), (5, .int (m.1 66 l3.toNatClampNeg)), (0, .ref 58), (1, .int l1), (2, .int l2), (3, .int l3), (4, .int l4)] [] m Q
    refine y_headS (l2 := [(0, .ref 58), (1, .int l1), (2, .int l2), (3, .int l3), (4, .int l4), (5, .int (m.1 66 l3.toNatClampNeg))]) [2, 3, 4, 5, 6, 1] [0, 1, 2, 3, 4, 5] [6, 5, 0, 1, 2, 3, 4] rfl rfl (by decide) rfl (by decide) ?_
    exact H
  · replace H := H.2 h; clear h
    refine y_st rfl rfl rfl rfl rfl (fun _ _ => rfl) ?_
    refine y_st rfl rfl rfl rfl rfl (fun _ _ => rfl) ?_
    show yP (xg xs) (d + 1) 386 24 [(6, .int (0 : Int32)), (5, .int (m.1 66 l3.toNatClampNeg)), (0, .ref 58), (1, .int l1), (2, .int l2), (3, .int l3), (4, .int l4)] [.int (m.1 66 l3.toNatClampNeg), .ref 58] m Q
    refine y_call rfl rfl rfl rfl rfl (Nat.le_of_ble_eq_true rfl) (Nat.le_of_ble_eq_true rfl) rfl (by decide) H (fun v1 m1 H => ?_)
    obtain ⟨rfl, H⟩ := H
    show yP (xg xs) (d + 1) 386 27 [(6, .int (0 : Int32)), (5, .int (m.1 66 l3.toNatClampNeg)), (0, .ref 58), (1, .int l1), (2, .int l2), (3, .int l3), (4, .int l4)] [] m1 Q
    refine y_headS (l2 := [(0, .ref 58), (1, .int l1), (2, .int l2), (3, .int l3), (4, .int l4), (5, .int (m.1 66 l3.toNatClampNeg))]) [2, 3, 4, 5, 6, 1] [0, 1, 2, 3, 4, 5] [6, 5, 0, 1, 2, 3, 4] rfl rfl (by decide) rfl (by decide) ?_
    exact H
set_option maxRecDepth 20000 in
/-- CodeMakerModel.writeCoil from 27 on -/
theorem w386_27 (xs : List Int32) (d : Nat) (l1 : Int32) (l2 : Int32) (l3 : Int32) (l4 : Int32) (l5 : Int32) (m : yM) (Q : Option Value → yM → Prop) (H : (yC (xg xs) d 383 [.ref 58, .int l1, .int l2, .int l4] m (fun v1 m1 => v1 = none ∧ (x_in l3 20000 = true ∧ (((m1.1 64 l3.toNatClampNeg) = (1 : Int32) → yP (xg xs) (d + 1) 386 55 [(0, .ref 58), (3, .int l3), (5, .int l5)] [] m1 Q) ∧ (¬ (m1.1 64 l3.toNatClampNeg) = (1 : Int32) → (x_in l3 20000 = true ∧ ((¬ (m1.1 64 l3.toNatClampNeg) = (3 : Int32) → yP (xg xs) (d + 1) 386 66 [(0, .ref 58), (3, .int l3), (5, .int l5)] [] m1 Q) ∧ ((m1.1 64 l3.toNatClampNeg) = (3 : Int32) → yP (xg xs) (d + 1) 386 55 [(0, .ref 58), (3, .int l3), (5, .int l5)] [] m1 Q))))))))) : yP (xg xs) (d + 1) 386 27 [(0, .ref 58), (1, .int l1), (2, .int l2), (3, .int l3), (4, .int l4), (5, .int l5)] [] m Q := by
  refine y_st rfl rfl rfl rfl rfl (fun _ _ => rfl) ?_
  refine y_st rfl rfl rfl rfl rfl (fun _ _ => rfl) ?_
  refine y_st rfl rfl rfl rfl rfl (fun _ _ => rfl) ?_
  refine y_st rfl rfl rfl rfl rfl (fun _ _ => rfl) ?_
  show yP (xg xs) (d + 1) 386 32 [(0, .ref 58), (1, .int l1), (2, .int l2), (3, .int l3), (4, .int l4), (5, .int l5)] [.int l4, .int l2, .int l1, .ref 58] m Q
  refine y_call rfl rfl rfl rfl rfl (Nat.le_of_ble_eq_true rfl) (Nat.le_of_ble_eq_true rfl) rfl (by decide) H (fun v1 m1 H => ?_)
  obtain ⟨rfl, H⟩ := H
  refine y_st rfl rfl rfl rfl rfl (fun _ _ => rfl) ?_
  refine y_gf rfl rfl rfl rfl rfl ?_
  refine y_st rfl rfl rfl rfl rfl (fun _ _ => rfl) ?_
  show yP (xg xs) (d + 1) 386 40 [(0, .ref 58), (1, .int l1), (2, .int l2), (3, .int l3), (4, .int l4), (5, .int l5)] [.int l3, .ref 64] m1 Q
  refine y_iald rfl rfl rfl (H.1) ?_
  replace H := H.2
  refine y_st rfl rfl rfl rfl rfl (fun _ _ => rfl) ?_
  show yP (xg xs) (d + 1) 386 42 [(0, .ref 58), (1, .int l1), (2, .int l2), (3, .int l3), (4, .int l4), (5, .int l5)] [.int (1 : Int32), .int (m1.1 64 l3.toNatClampNeg)] m1 Q
  refine y_ieq (t := 55) rfl rfl rfl (fun h => ?_) (fun h => ?_)
  · replace H := H.1 h; clear h
    show yP (xg xs) (d + 1) 386 55 [(0, .ref 58), (1, .int l1), (2, .int l2), (3, .int l3), (4, .int l4), (5, .int l5)] [] m1 Q
    refine y_headS (l2 := [(0, .ref 58), (3, .int l3), (5, .int l5)]) [0, 3, 5] [0, 3, 5] [0, 1, 2, 3, 4, 5] rfl rfl (by decide) rfl (by decide) ?_
    exact H
  · replace H := H.2 h; clear h
    refine y_st rfl rfl rfl rfl rfl (fun _ _ => rfl) ?_
    refine y_gf rfl rfl rfl rfl rfl ?_
    refine y_st rfl rfl rfl rfl rfl (fun _ _ => rfl) ?_
    show yP (xg xs) (d + 1) 386 50 [(0, .ref 58), (1, .int l1), (2, .int l2), (3, .int l3), (4, .int l4), (5, .int l5)] [.int l3, .ref 64] m1 Q
    refine y_iald rfl rfl rfl (H.1) ?_
    replace H := H.2
    refine y_st rfl rfl rfl rfl rfl (fun _ _ => rfl) ?_
    show yP (xg xs) (d + 1) 386 52 [(0, .ref 58), (1, .int l1), (2, .int l2), (3, .int l3), (4, .int l4), (5, .int l5)] [.int (3 : Int32), .int (m1.1 64 l3.toNatClampNeg)] m1 Q
    refine y_ine (t := 66) rfl rfl rfl (fun h => ?_) (fun h => ?_)
    · replace H := H.1 h; clear h
      show yP (xg xs) (d + 1) 386 66 [(0, .ref 58), (1, .int l1), (2, .int l2), (3, .int l3), (4, .int l4), (5, .int l5)] [] m1 Q
      refine y_headS (l2 := [(0, .ref 58), (3, .int l3), (5, .int l5)]) [0, 3, 5] [0, 3, 5] [0, 1, 2, 3, 4, 5] rfl rfl (by decide) rfl (by decide) ?_
      exact H
    · replace H := H.2 h; clear h
      show yP (xg xs) (d + 1) 386 55 [(0, .ref 58), (1, .int l1), (2, .int l2), (3, .int l3), (4, .int l4), (5, .int l5)] [] m1 Q
      refine y_headS (l2 := [(0, .ref 58), (3, .int l3), (5, .int l5)]) [0, 3, 5] [0, 3, 5] [0, 1, 2, 3, 4, 5] rfl rfl (by decide) rfl (by decide) ?_
      exact H
set_option maxRecDepth 20000 in
/-- CodeMakerModel.writeCoil from 55 on -/
theorem w386_55 (xs : List Int32) (d : Nat) (l3 : Int32) (l5 : Int32) (m : yM) (Q : Option Value → yM → Prop) (H : (yC (xg xs) d 369 [.ref 58, .int (8 : Int32), .int (2 : Int32), .int (0 : Int32), .int (0 : Int32)] m (fun v1 m1 => ∃ u1, v1 = some (Value.int u1) ∧ yP (xg xs) (d + 1) 386 66 [(0, .ref 58), (3, .int l3), (5, .int l5)] [] m1 Q))) : yP (xg xs) (d + 1) 386 55 [(0, .ref 58), (3, .int l3), (5, .int l5)] [] m Q := by
  refine y_st rfl rfl rfl rfl rfl (fun _ _ => rfl) ?_
  refine y_st rfl rfl rfl rfl rfl (fun _ _ => rfl) ?_
  refine y_st rfl rfl rfl rfl rfl (fun _ _ => rfl) ?_
  refine y_st rfl rfl rfl rfl rfl (fun _ _ => rfl) ?_
  refine y_st rfl rfl rfl rfl rfl (fun _ _ => rfl) ?_
  show yP (xg xs) (d + 1) 386 61 [(0, .ref 58), (3, .int l3), (5, .int l5)] [.int (0 : Int32), .int (0 : Int32), .int (2 : Int32), .int (8 : Int32), .ref 58] m Q
  refine y_call rfl rfl rfl rfl rfl (Nat.le_of_ble_eq_true rfl) (Nat.le_of_ble_eq_true rfl) rfl (by decide) H (fun v1 m1 H => ?_)
  obtain ⟨u1, rfl, H⟩ := H
  refine y_st rfl rfl rfl rfl rfl (fun _ _ => rfl) ?_
  show yP (xg xs) (d + 1) 386 66 [(6, .int u1), (0, .ref 58), (3, .int l3), (5, .int l5)] [] m1 Q
  refine y_headS (l2 := [(0, .ref 58), (3, .int l3), (5, .int l5)]) [1, 2, 3] [0, 3, 5] [6, 0, 3, 5] rfl rfl (by decide) rfl (by decide) ?_
  exact H
set_option maxRecDepth 20000 in
/-- CodeMakerModel.writeCoil from 66 on -/
theorem w386_66 (xs : List Int32) (d : Nat) (l3 : Int32) (l5 : Int32) (m : yM) (Q : Option Value → yM → Prop) (H : (x_in l3 20000 = true ∧ (((m.1 64 l3.toNatClampNeg) ≤ (1 : Int32) → yP (xg xs) (d + 1) 386 103 [(0, .ref 58), (5, .int l5)] [] m Q) ∧ (¬ (m.1 64 l3.toNatClampNeg) ≤ (1 : Int32) → (x_in l3 20000 = true ∧ ((¬ (m.1 64 l3.toNatClampNeg) = (2 : Int32) → yP (xg xs) (d + 1) 386 96 [(0, .ref 58), (5, .int l5)] [.int (10 : Int32), .int (7 : Int32), .ref 58] m Q) ∧ ((m.1 64 l3.toNatClampNeg) = (2 : Int32) → yP (xg xs) (d + 1) 386 96 [(0, .ref 58), (5, .int l5)] [.int (11 : Int32), .int (7 : Int32), .ref 58] m Q))))))) : yP (xg xs) (d + 1) 386 66 [(0, .ref 58), (3, .int l3), (5, .int l5)] [] m Q := by
  refine y_st rfl rfl rfl rfl rfl (fun _ _ => rfl) ?_
  refine y_gf rfl rfl rfl rfl rfl ?_
  refine y_st rfl rfl rfl rfl rfl (fun _ _ => rfl) ?_
  show yP (xg xs) (d + 1) 386 71 [(0, .ref 58), (3, .int l3), (5, .int l5)] [.int l3, .ref 64] m Q
  refine y_iald rfl rfl rfl (H.1) ?_
  replace H := H.2
  refine y_st rfl rfl rfl rfl rfl (fun _ _ => rfl) ?_
  show yP (xg xs) (d + 1) 386 73 [(0, .ref 58), (3, .int l3), (5, .int l5)] [.int (1 : Int32), .int (m.1 64 l3.toNatClampNeg)] m Q
  refine y_ile (t := 103) rfl rfl rfl (fun h => ?_) (fun h => ?_)
  · replace H := H.1 h; clear h
    show yP (xg xs) (d + 1) 386 103 [(0, .ref 58), (3, .int l3), (5, .int l5)] [] m Q
    refine y_headS (l2 := [(0, .ref 58), (5, .int l5)]) [0, 2] [0, 5] [0, 3, 5] rfl rfl (by decide) rfl (by decide) ?_
    exact H
  · replace H := H.2 h; clear h
    refine y_st rfl rfl rfl rfl rfl (fun _ _ => rfl) ?_
    refine y_st rfl rfl rfl rfl rfl (fun _ _ => rfl) ?_
    refine y_st rfl rfl rfl rfl rfl (fun _ _ => rfl) ?_
    refine y_gf rfl rfl rfl rfl rfl ?_
    refine y_st rfl rfl rfl rfl rfl (fun _ _ => rfl) ?_
    show yP (xg xs) (d + 1) 386 84 [(0, .ref 58), (3, .int l3), (5, .int l5)] [.int l3, .ref 64, .int (7 : Int32), .ref 58] m Q
    refine y_iald rfl rfl rfl (H.1) ?_
    replace H := H.2
    refine y_st rfl rfl rfl rfl rfl (fun _ _ => rfl) ?_
    show yP (xg xs) (d + 1) 386 86 [(0, .ref 58), (3, .int l3), (5, .int l5)] [.int (2 : Int32), .int (m.1 64 l3.toNatClampNeg), .int (7 : Int32), .ref 58] m Q
    refine y_ine (t := 94) rfl rfl rfl (fun h => ?_) (fun h => ?_)
    · replace H := H.1 h; clear h
      refine y_st rfl rfl rfl rfl rfl (fun _ _ => rfl) ?_
      show yP (xg xs) (d + 1) 386 96 [(0, .ref 58), (3, .int l3), (5, .int l5)] [.int (10 : Int32), .int (7 : Int32), .ref 58] m Q
      refine y_headS (l2 := [(0, .ref 58), (5, .int l5)]) [0, 2] [0, 5] [0, 3, 5] rfl rfl (by decide) rfl (by decide) ?_
      exact H
    · replace H := H.2 h; clear h
      refine y_st rfl rfl rfl rfl rfl (fun _ _ => rfl) ?_
      refine y_st rfl rfl rfl rfl rfl (fun _ _ => rfl) ?_
      show yP (xg xs) (d + 1) 386 96 [(0, .ref 58), (3, .int l3), (5, .int l5)] [.int (11 : Int32), .int (7 : Int32), .ref 58] m Q
      refine y_headS (l2 := [(0, .ref 58), (5, .int l5)]) [0, 2] [0, 5] [0, 3, 5] rfl rfl (by decide) rfl (by decide) ?_
      exact H
set_option maxRecDepth 20000 in
/-- CodeMakerModel.writeCoil from 96 on -/
theorem w386_96 (xs : List Int32) (d : Nat) (l5 : Int32) (s1 : Int32) (s2 : Int32) (m : yM) (Q : Option Value → yM → Prop) (H : (yC (xg xs) d 369 [.ref 58, .int s1, .int s2, .int (0 : Int32), .int (0 : Int32)] m (fun v1 m1 => ∃ u1, v1 = some (Value.int u1) ∧ yP (xg xs) (d + 1) 386 103 [(0, .ref 58), (5, .int l5)] [] m1 Q))) : yP (xg xs) (d + 1) 386 96 [(0, .ref 58), (5, .int l5)] [.int s2, .int s1, .ref 58] m Q := by
  refine y_st rfl rfl rfl rfl rfl (fun _ _ => rfl) ?_
  refine y_st rfl rfl rfl rfl rfl (fun _ _ => rfl) ?_
  show yP (xg xs) (d + 1) 386 98 [(0, .ref 58), (5, .int l5)] [.int (0 : Int32), .int (0 : Int32), .int s2, .int s1, .ref 58] m Q
  refine y_call rfl rfl rfl rfl rfl (Nat.le_of_ble_eq_true rfl) (Nat.le_of_ble_eq_true rfl) rfl (by decide) H (fun v1 m1 H => ?_)
  obtain ⟨u1, rfl, H⟩ := H
  refine y_st rfl rfl rfl rfl rfl (fun _ _ => rfl) ?_
  show yP (xg xs) (d + 1) 386 103 [(6, .int u1), (0, .ref 58), (5, .int l5)] [] m1 Q
  refine y_headS (l2 := [(0, .ref 58), (5, .int l5)]) [1, 2] [0, 5] [6, 0, 5] rfl rfl (by decide) rfl (by decide) ?_
  exact H
set_option maxRecDepth 20000 in
/-- CodeMakerModel.writeCoil from 103 on -/
theorem w386_103 (xs : List Int32) (d : Nat) (l5 : Int32) (m : yM) (Q : Option Value → yM → Prop) (H : (x_in l5 20000 = true ∧ (x_in (m.1 85 l5.toNatClampNeg) 4700 = true ∧ (yC (xg xs) d 369 [.ref 58, .int (2 : Int32), .int (m.1 80 ((m.1 85 l5.toNatClampNeg).toNatClampNeg)), .int (0 : Int32), .int (0 : Int32)] m (fun v1 m1 => ∃ u1, v1 = some (Value.int u1) ∧ Q none m1))))) : yP (xg xs) (d + 1) 386 103 [(0, .ref 58), (5, .int l5)] [] m Q := by
  refine y_st rfl rfl rfl rfl rfl (fun _ _ => rfl) ?_
  refine y_st rfl rfl rfl rfl rfl (fun _ _ => rfl) ?_
  refine y_st rfl rfl rfl rfl rfl (fun _ _ => rfl) ?_
  refine y_gf rfl rfl rfl rfl rfl ?_
  refine y_st rfl rfl rfl rfl rfl (fun _ _ => rfl) ?_
  refine y_gf rfl rfl rfl rfl rfl ?_
  refine y_st rfl rfl rfl rfl rfl (fun _ _ => rfl) ?_
  show yP (xg xs) (d + 1) 386 115 [(0, .ref 58), (5, .int l5)] [.int l5, .ref 85, .ref 80, .int (2 : Int32), .ref 58] m Q
  refine y_iald rfl rfl rfl (H.1) ?_
  replace H := H.2
  show yP (xg xs) (d + 1) 386 116 [(0, .ref 58), (5, .int l5)] [.int (m.1 85 l5.toNatClampNeg), .ref 80, .int (2 : Int32), .ref 58] m Q
  refine y_iald rfl rfl rfl (H.1) ?_
  replace H := H.2
  refine y_st rfl rfl rfl rfl rfl (fun _ _ => rfl) ?_
  refine y_st rfl rfl rfl rfl rfl (fun _ _ => rfl) ?_
  show yP (xg xs) (d + 1) 386 119 [(0, .ref 58), (5, .int l5)] [.int (0 : Int32), .int (0 : Int32), .int (m.1 80 ((m.1 85 l5.toNatClampNeg).toNatClampNeg)), .int (2 : Int32), .ref 58] m Q
  refine y_call rfl rfl rfl rfl rfl (Nat.le_of_ble_eq_true rfl) (Nat.le_of_ble_eq_true rfl) rfl (by decide) H (fun v1 m1 H => ?_)
  obtain ⟨u1, rfl, H⟩ := H
  refine y_st rfl rfl rfl rfl rfl (fun _ _ => rfl) ?_
  show yP (xg xs) (d + 1) 386 124 [(6, .int u1), (0, .ref 58), (5, .int l5)] [] m1 Q
  exact y_ret rfl rfl rfl rfl H
