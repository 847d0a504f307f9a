/-! WHAT EACH METHOD COMES TO, group b: laid by wip/gen/wpall.py -/
set_option maxRecDepth 20000 in
/-- CodeMaker.Reader.read from 0 on -/
theorem w71_0 (xs : List Int32) (d : Nat) (m : yM) (Q : Option Value → yM → Prop) (H : (yC (xg xs) d 72 [.ref 2, .int (0 : Int32), .int (0 : Int32), .int (0 : Int32)] (y_si (y_si (y_si (y_si (y_si (y_si m 17 3 (0 : Int32)) 17 0 ((-1) : Int32)) 17 6 (0 : Int32)) 17 4 (0 : Int32)) 17 5 (m.1 9 0)) 2 5 (0 : Int32)) (fun v1 m1 => ∃ u1, v1 = some (Value.int u1) ∧ yP (xg xs) (d + 1) 71 54 [(0, .ref 17), (1, .int u1), (2, .int (0 : Int32))] [] m1 Q))) : yP (xg xs) (d + 1) 71 0 [(0, .ref 17)] [] m Q := by
  refine y_st rfl rfl rfl rfl rfl (fun _ _ => rfl) ?_
  refine y_st rfl rfl rfl rfl rfl (fun _ _ => rfl) ?_
  refine y_pfi rfl rfl rfl rfl rfl (x_fit_i _) ?_
  show yP (xg xs) (d + 1) 71 5 [(0, .ref 17)] [] (y_si m 17 3 (0 : Int32)) Q
  refine y_st rfl rfl rfl rfl rfl (fun _ _ => rfl) ?_
  refine y_st rfl rfl rfl rfl rfl (fun _ _ => rfl) ?_
  refine y_pfi rfl rfl rfl rfl rfl (x_fit_i _) ?_
  show yP (xg xs) (d + 1) 71 10 [(0, .ref 17)] [] (y_si (y_si m 17 3 (0 : Int32)) 17 0 ((-1) : Int32)) Q
  refine y_st rfl rfl rfl rfl rfl (fun _ _ => rfl) ?_
  refine y_st rfl rfl rfl rfl rfl (fun _ _ => rfl) ?_
  refine y_pfi rfl rfl rfl rfl rfl (x_fit_i _) ?_
  show yP (xg xs) (d + 1) 71 15 [(0, .ref 17)] [] (y_si (y_si (y_si m 17 3 (0 : Int32)) 17 0 ((-1) : Int32)) 17 6 (0 : Int32)) Q
  refine y_st rfl rfl rfl rfl rfl (fun _ _ => rfl) ?_
  refine y_st rfl rfl rfl rfl rfl (fun _ _ => rfl) ?_
  refine y_pfi rfl rfl rfl rfl rfl (x_fit_i _) ?_
  show yP (xg xs) (d + 1) 71 20 [(0, .ref 17)] [] (y_si (y_si (y_si (y_si m 17 3 (0 : Int32)) 17 0 ((-1) : Int32)) 17 6 (0 : Int32)) 17 4 (0 : Int32)) Q
  refine y_st rfl rfl rfl rfl rfl (fun _ _ => rfl) ?_
  refine y_st rfl rfl rfl rfl rfl (fun _ _ => rfl) ?_
  refine y_gf rfl rfl rfl rfl rfl ?_
  refine y_gf rfl rfl rfl rfl rfl ?_
  refine y_st rfl rfl rfl rfl rfl (fun _ _ => rfl) ?_
  show yP (xg xs) (d + 1) 71 29 [(0, .ref 17)] [.int (0 : Int32), .ref 9, .ref 17] (y_si (y_si (y_si (y_si m 17 3 (0 : Int32)) 17 0 ((-1) : Int32)) 17 6 (0 : Int32)) 17 4 (0 : Int32)) Q
  refine y_iald rfl rfl rfl (by decide) ?_
  refine y_pfi rfl rfl rfl rfl rfl (x_fit_i _) ?_
  show yP (xg xs) (d + 1) 71 33 [(0, .ref 17)] [] (y_si (y_si (y_si (y_si (y_si m 17 3 (0 : Int32)) 17 0 ((-1) : Int32)) 17 6 (0 : Int32)) 17 4 (0 : Int32)) 17 5 (m.1 9 0)) Q
  refine y_st rfl rfl rfl rfl rfl (fun _ _ => rfl) ?_
  refine y_gf rfl rfl rfl rfl rfl ?_
  refine y_st rfl rfl rfl rfl rfl (fun _ _ => rfl) ?_
  refine y_pfi rfl rfl rfl rfl rfl (x_fit_i _) ?_
  show yP (xg xs) (d + 1) 71 41 [(0, .ref 17)] [] (y_si (y_si (y_si (y_si (y_si (y_si m 17 3 (0 : Int32)) 17 0 ((-1) : Int32)) 17 6 (0 : Int32)) 17 4 (0 : Int32)) 17 5 (m.1 9 0)) 2 5 (0 : Int32)) Q
  refine y_st rfl rfl rfl rfl rfl (fun _ _ => rfl) ?_
  refine y_gf rfl rfl rfl rfl rfl ?_
  refine y_st rfl rfl rfl rfl rfl (fun _ _ => rfl) ?_
  refine y_st rfl rfl rfl rfl rfl (fun _ _ => rfl) ?_
  refine y_st rfl rfl rfl rfl rfl (fun _ _ => rfl) ?_
  show yP (xg xs) (d + 1) 71 48 [(0, .ref 17)] [.int (0 : Int32), .int (0 : Int32), .int (0 : Int32), .ref 2] (y_si (y_si (y_si (y_si (y_si (y_si m 17 3 (0 : Int32)) 17 0 ((-1) : Int32)) 17 6 (0 : Int32)) 17 4 (0 : Int32)) 17 5 (m.1 9 0)) 2 5 (0 : Int32)) Q
  refine y_call rfl rfl rfl rfl rfl (Nat.le_of_ble_eq_true rfl) (Nat.le_of_ble_eq_true rfl) rfl (by decide) H (fun v1 m1 H => ?_)
  obtain ⟨u1, rfl, H⟩ := H
  refine y_st rfl rfl rfl rfl rfl (fun _ _ => rfl) ?_
  refine y_st rfl rfl rfl rfl rfl (fun _ _ => rfl) ?_
  refine y_st rfl rfl rfl rfl rfl (fun _ _ => rfl) ?_
  show yP (xg xs) (d + 1) 71 54 [(2, .int (0 : Int32)), (1, .int u1), (0, .ref 17)] [] m1 Q
  refine y_headS (l2 := [(0, .ref 17), (1, .int u1), (2, .int (0 : Int32))]) [2, 1, 0] [0, 1, 2] [2, 1, 0] rfl rfl (by decide) rfl (by decide) ?_
  exact H
set_option maxRecDepth 20000 in
/-- CodeMaker.Reader.read from 54 on -/
theorem w71_54 (xs : List Int32) (d : Nat) (l1 : Int32) (l2 : Int32) (m : yM) (Q : Option Value → yM → Prop) (H : (((8192 : Int32) ≤ l2 → yP (xg xs) (d + 1) 71 78 [(0, .ref 17), (1, .int l1)] [] m Q) ∧ (¬ (8192 : Int32) ≤ l2 → (yC (xg xs) d 73 [.ref 17] m (fun v1 m1 => ∃ u1, v1 = some (Value.int u1) ∧ ((u1 = 0 → yP (xg xs) (d + 1) 71 78 [(0, .ref 17), (1, .int l1)] [] m1 Q) ∧ (¬ u1 = 0 → (yC (xg xs) d 74 [.ref 17] m1 (fun v2 m2 => v2 = none ∧ yP (xg xs) (d + 1) 71 54 [(0, .ref 17), (1, .int l1), (2, .int (l2 + (1 : Int32)))] [] m2 Q))))))))) : yP (xg xs) (d + 1) 71 54 [(0, .ref 17), (1, .int l1), (2, .int l2)] [] m Q := by
  refine y_st rfl rfl rfl rfl rfl (fun _ _ => rfl) ?_
  refine y_st rfl rfl rfl rfl rfl (fun _ _ => rfl) ?_
  show yP (xg xs) (d + 1) 71 58 [(0, .ref 17), (1, .int l1), (2, .int l2)] [.int (8192 : Int32), .int l2] m Q
  refine y_ige (t := 78) rfl rfl rfl (fun h => ?_) (fun h => ?_)
  · replace H := H.1 h; clear h
    show yP (xg xs) (d + 1) 71 78 [(0, .ref 17), (1, .int l1), (2, .int l2)] [] m Q
    refine y_headS (l2 := [(0, .ref 17), (1, .int l1)]) [0, 1] [0, 1] [0, 1, 2] rfl rfl (by decide) rfl (by decide) ?_
    exact H
  · replace H := H.2 h; clear h
    refine y_st rfl rfl rfl rfl rfl (fun _ _ => rfl) ?_
    show yP (xg xs) (d + 1) 71 62 [(0, .ref 17), (1, .int l1), (2, .int l2)] [.ref 17] m Q
    refine y_call rfl rfl rfl rfl rfl (Nat.le_of_ble_eq_true rfl) (Nat.le_of_ble_eq_true rfl) rfl (by decide) H (fun v1 m1 H => ?_)
    obtain ⟨u1, rfl, H⟩ := H
    show yP (xg xs) (d + 1) 71 65 [(0, .ref 17), (1, .int l1), (2, .int l2)] [.int u1] m1 Q
    refine y_zeq (t := 78) rfl rfl rfl (fun h => ?_) (fun h => ?_)
    · replace H := H.1 h; clear h
      show yP (xg xs) (d + 1) 71 78 [(0, .ref 17), (1, .int l1), (2, .int l2)] [] m1 Q
      refine y_headS (l2 := [(0, .ref 17), (1, .int l1)]) [0, 1] [0, 1] [0, 1, 2] rfl rfl (by decide) rfl (by decide) ?_
      exact H
    · replace H := H.2 h; clear h
      refine y_st rfl rfl rfl rfl rfl (fun _ _ => rfl) ?_
      show yP (xg xs) (d + 1) 71 69 [(0, .ref 17), (1, .int l1), (2, .int l2)] [.ref 17] m1 Q
      refine y_call rfl rfl rfl rfl rfl (Nat.le_of_ble_eq_true rfl) (Nat.le_of_ble_eq_true rfl) rfl (by decide) H (fun v2 m2 H => ?_)
      obtain ⟨rfl, H⟩ := H
      refine y_st rfl rfl rfl rfl rfl (fun _ _ => rfl) ?_
      refine y_st rfl rfl rfl rfl rfl (fun _ _ => rfl) ?_
      show yP (xg xs) (d + 1) 71 54 [(2, .int (l2 + (1 : Int32))), (0, .ref 17), (1, .int l1)] [] m2 Q
      refine y_headS (l2 := [(0, .ref 17), (1, .int l1), (2, .int (l2 + (1 : Int32)))]) [1, 2, 0] [0, 1, 2] [2, 0, 1] rfl rfl (by decide) rfl (by decide) ?_
      exact H
set_option maxRecDepth 20000 in
/-- CodeMaker.Reader.read from 78 on -/
theorem w71_78 (xs : List Int32) (d : Nat) (l1 : Int32) (m : yM) (Q : Option Value → yM → Prop) (H : (((m.1 17 5) = (67 : Int32) → yP (xg xs) (d + 1) 71 93 [(0, .ref 17), (1, .int l1)] [] m Q) ∧ (¬ (m.1 17 5) = (67 : Int32) → (yC (xg xs) d 78 [.ref 17, .int (6 : Int32)] m (fun v1 m1 => v1 = none ∧ yP (xg xs) (d + 1) 71 93 [(0, .ref 17), (1, .int l1)] [] m1 Q))))) : yP (xg xs) (d + 1) 71 78 [(0, .ref 17), (1, .int l1)] [] m Q := by
  refine y_st rfl rfl rfl rfl rfl (fun _ _ => rfl) ?_
  refine y_gf rfl rfl rfl rfl rfl ?_
  refine y_st rfl rfl rfl rfl rfl (fun _ _ => rfl) ?_
  show yP (xg xs) (d + 1) 71 84 [(0, .ref 17), (1, .int l1)] [.int (67 : Int32), .int (m.1 17 5)] m Q
  refine y_ieq (t := 93) rfl rfl rfl (fun h => ?_) (fun h => ?_)
  · replace H := H.1 h; clear h
    show yP (xg xs) (d + 1) 71 93 [(0, .ref 17), (1, .int l1)] [] m Q
    exact H
  · replace H := H.2 h; clear h
    refine y_st rfl rfl rfl rfl rfl (fun _ _ => rfl) ?_
    refine y_st rfl rfl rfl rfl rfl (fun _ _ => rfl) ?_
    show yP (xg xs) (d + 1) 71 90 [(0, .ref 17), (1, .int l1)] [.int (6 : Int32), .ref 17] m Q
    refine y_call rfl rfl rfl rfl rfl (Nat.le_of_ble_eq_true rfl) (Nat.le_of_ble_eq_true rfl) rfl (by decide) H (fun v1 m1 H => ?_)
    obtain ⟨rfl, H⟩ := H
    show yP (xg xs) (d + 1) 71 93 [(0, .ref 17), (1, .int l1)] [] m1 Q
    exact H
set_option maxRecDepth 20000 in
/-- CodeMaker.Reader.read from 93 on -/
theorem w71_93 (xs : List Int32) (d : Nat) (l1 : Int32) (m : yM) (Q : Option Value → yM → Prop) (H : (yC (xg xs) d 85 [.ref 2, .int l1] m (fun v1 m1 => v1 = none ∧ Q (some (.int (m1.1 17 3))) m1))) : yP (xg xs) (d + 1) 71 93 [(0, .ref 17), (1, .int l1)] [] m Q := by
  refine y_st rfl rfl rfl rfl rfl (fun _ _ => rfl) ?_
  refine y_gf rfl rfl rfl rfl rfl ?_
  refine y_st rfl rfl rfl rfl rfl (fun _ _ => rfl) ?_
  show yP (xg xs) (d + 1) 71 98 [(0, .ref 17), (1, .int l1)] [.int l1, .ref 2] m Q
  refine y_call rfl rfl rfl rfl rfl (Nat.le_of_ble_eq_true rfl) (Nat.le_of_ble_eq_true rfl) rfl (by decide) H (fun v1 m1 H => ?_)
  obtain ⟨rfl, H⟩ := H
  refine y_st rfl rfl rfl rfl rfl (fun _ _ => rfl) ?_
  refine y_gf rfl rfl rfl rfl rfl ?_
  show yP (xg xs) (d + 1) 71 105 [(0, .ref 17), (1, .int l1)] [.int (m1.1 17 3)] m1 Q
  exact y_iret rfl rfl rfl H
set_option maxRecDepth 20000 in
/-- CodeMaker.Tree.add from 0 on -/
theorem w72_0 (xs : List Int32) (d : Nat) (l1 : Int32) (l2 : Int32) (l3 : Int32) (m : yM) (Q : Option Value → yM → Prop) (H : (x_in (if (16399 : Int32) < (m.1 2 5) then (16399 : Int32) else (m.1 2 5)) 16401 = true ∧ (x_in (if (16399 : Int32) < (m.1 2 5) then (16399 : Int32) else (m.1 2 5)) 16401 = true ∧ (x_in (if (16399 : Int32) < (m.1 2 5) then (16399 : Int32) else (m.1 2 5)) 16401 = true ∧ (x_in (if (16399 : Int32) < (m.1 2 5) then (16399 : Int32) else (m.1 2 5)) 16401 = true ∧ (x_in (if (16399 : Int32) < (m.1 2 5) then (16399 : Int32) else (m.1 2 5)) 16401 = true ∧ Q (some (.int (if (16399 : Int32) < (m.1 2 5) then (16399 : Int32) else (m.1 2 5)))) (y_si (y_si (y_si (y_si (y_si (y_si m 3 ((if (16399 : Int32) < (m.1 2 5) then (16399 : Int32) else (m.1 2 5)).toNatClampNeg) l1) 4 ((if (16399 : Int32) < (m.1 2 5) then (16399 : Int32) else (m.1 2 5)).toNatClampNeg) l2) 5 ((if (16399 : Int32) < (m.1 2 5) then (16399 : Int32) else (m.1 2 5)).toNatClampNeg) l3) 6 ((if (16399 : Int32) < (m.1 2 5) then (16399 : Int32) else (m.1 2 5)).toNatClampNeg) (0 : Int32)) 7 ((if (16399 : Int32) < (m.1 2 5) then (16399 : Int32) else (m.1 2 5)).toNatClampNeg) ((if (16399 : Int32) < (m.1 2 5) then (16399 : Int32) else (m.1 2 5)) + (1 : Int32))) 2 5 ((if (16399 : Int32) < (m.1 2 5) then (16399 : Int32) else (m.1 2 5)) + (1 : Int32))))))))) : yP (xg xs) (d + 1) 72 0 [(0, .ref 2), (1, .int l1), (2, .int l2), (3, .int l3)] [] m Q := by
  refine y_st rfl rfl rfl rfl rfl (fun _ _ => rfl) ?_
  refine y_gf rfl rfl rfl rfl rfl ?_
  refine y_st rfl rfl rfl rfl rfl (fun _ _ => rfl) ?_
  refine y_mi rfl rfl rfl rfl rfl (Nat.le_of_ble_eq_true rfl) (by omega) ?_
  refine y_st rfl rfl rfl rfl rfl (fun _ _ => rfl) ?_
  refine y_st rfl rfl rfl rfl rfl (fun _ _ => rfl) ?_
  refine y_gf rfl rfl rfl rfl rfl ?_
  refine y_st rfl rfl rfl rfl rfl (fun _ _ => rfl) ?_
  refine y_st rfl rfl rfl rfl rfl (fun _ _ => rfl) ?_
  show yP (xg xs) (d + 1) 72 19 [(4, .int (if (16399 : Int32) < (m.1 2 5) then (16399 : Int32) else (m.1 2 5))), (0, .ref 2), (1, .int l1), (2, .int l2), (3, .int l3)] [.int l1, .int (if (16399 : Int32) < (m.1 2 5) then (16399 : Int32) else (m.1 2 5)), .ref 3] m Q
  refine y_iast rfl rfl rfl (H.1) ?_
  replace H := H.2
  refine y_st rfl rfl rfl rfl rfl (fun _ _ => rfl) ?_
  refine y_gf rfl rfl rfl rfl rfl ?_
  refine y_st rfl rfl rfl rfl rfl (fun _ _ => rfl) ?_
  refine y_st rfl rfl rfl rfl rfl (fun _ _ => rfl) ?_
  show yP (xg xs) (d + 1) 72 27 [(4, .int (if (16399 : Int32) < (m.1 2 5) then (16399 : Int32) else (m.1 2 5))), (0, .ref 2), (1, .int l1), (2, .int l2), (3, .int l3)] [.int l2, .int (if (16399 : Int32) < (m.1 2 5) then (16399 : Int32) else (m.1 2 5)), .ref 4] (y_si m 3 ((if (16399 : Int32) < (m.1 2 5) then (16399 : Int32) else (m.1 2 5)).toNatClampNeg) l1) Q
  refine y_iast rfl rfl rfl (H.1) ?_
  replace H := H.2
  refine y_st rfl rfl rfl rfl rfl (fun _ _ => rfl) ?_
  refine y_gf rfl rfl rfl rfl rfl ?_
  refine y_st rfl rfl rfl rfl rfl (fun _ _ => rfl) ?_
  refine y_st rfl rfl rfl rfl rfl (fun _ _ => rfl) ?_
  show yP (xg xs) (d + 1) 72 35 [(4, .int (if (16399 : Int32) < (m.1 2 5) then (16399 : Int32) else (m.1 2 5))), (0, .ref 2), (1, .int l1), (2, .int l2), (3, .int l3)] [.int l3, .int (if (16399 : Int32) < (m.1 2 5) then (16399 : Int32) else (m.1 2 5)), .ref 5] (y_si (y_si m 3 ((if (16399 : Int32) < (m.1 2 5) then (16399 : Int32) else (m.1 2 5)).toNatClampNeg) l1) 4 ((if (16399 : Int32) < (m.1 2 5) then (16399 : Int32) else (m.1 2 5)).toNatClampNeg) l2) Q
  refine y_iast rfl rfl rfl (H.1) ?_
  replace H := H.2
  refine y_st rfl rfl rfl rfl rfl (fun _ _ => rfl) ?_
  refine y_gf rfl rfl rfl rfl rfl ?_
  refine y_st rfl rfl rfl rfl rfl (fun _ _ => rfl) ?_
  refine y_st rfl rfl rfl rfl rfl (fun _ _ => rfl) ?_
  show yP (xg xs) (d + 1) 72 43 [(4, .int (if (16399 : Int32) < (m.1 2 5) then (16399 : Int32) else (m.1 2 5))), (0, .ref 2), (1, .int l1), (2, .int l2), (3, .int l3)] [.int (0 : Int32), .int (if (16399 : Int32) < (m.1 2 5) then (16399 : Int32) else (m.1 2 5)), .ref 6] (y_si (y_si (y_si m 3 ((if (16399 : Int32) < (m.1 2 5) then (16399 : Int32) else (m.1 2 5)).toNatClampNeg) l1) 4 ((if (16399 : Int32) < (m.1 2 5) then (16399 : Int32) else (m.1 2 5)).toNatClampNeg) l2) 5 ((if (16399 : Int32) < (m.1 2 5) then (16399 : Int32) else (m.1 2 5)).toNatClampNeg) l3) Q
  refine y_iast rfl rfl rfl (H.1) ?_
  replace H := H.2
  refine y_st rfl rfl rfl rfl rfl (fun _ _ => rfl) ?_
  refine y_gf rfl rfl rfl rfl rfl ?_
  refine y_st rfl rfl rfl rfl rfl (fun _ _ => rfl) ?_
  refine y_st rfl rfl rfl rfl rfl (fun _ _ => rfl) ?_
  refine y_st rfl rfl rfl rfl rfl (fun _ _ => rfl) ?_
  refine y_st rfl rfl rfl rfl rfl (fun _ _ => rfl) ?_
  show yP (xg xs) (d + 1) 72 54 [(4, .int (if (16399 : Int32) < (m.1 2 5) then (16399 : Int32) else (m.1 2 5))), (0, .ref 2), (1, .int l1), (2, .int l2), (3, .int l3)] [.int ((if (16399 : Int32) < (m.1 2 5) then (16399 : Int32) else (m.1 2 5)) + (1 : Int32)), .int (if (16399 : Int32) < (m.1 2 5) then (16399 : Int32) else (m.1 2 5)), .ref 7] (y_si (y_si (y_si (y_si m 3 ((if (16399 : Int32) < (m.1 2 5) then (16399 : Int32) else (m.1 2 5)).toNatClampNeg) l1) 4 ((if (16399 : Int32) < (m.1 2 5) then (16399 : Int32) else (m.1 2 5)).toNatClampNeg) l2) 5 ((if (16399 : Int32) < (m.1 2 5) then (16399 : Int32) else (m.1 2 5)).toNatClampNeg) l3) 6 ((if (16399 : Int32) < (m.1 2 5) then (16399 : Int32) else (m.1 2 5)).toNatClampNeg) (0 : Int32)) Q
  refine y_iast rfl rfl rfl (H.1) ?_
  replace H := H.2
  refine y_st rfl rfl rfl rfl rfl (fun _ _ => rfl) ?_
  refine y_st rfl rfl rfl rfl rfl (fun _ _ => rfl) ?_
  refine y_st rfl rfl rfl rfl rfl (fun _ _ => rfl) ?_
  refine y_st rfl rfl rfl rfl rfl (fun _ _ => rfl) ?_
  refine y_pfi rfl rfl rfl rfl rfl (x_fit_i _) ?_
  show yP (xg xs) (d + 1) 72 63 [(4, .int (if (16399 : Int32) < (m.1 2 5) then (16399 : Int32) else (m.1 2 5))), (0, .ref 2), (1, .int l1), (2, .int l2), (3, .int l3)] [] (y_si (y_si (y_si (y_si (y_si (y_si m 3 ((if (16399 : Int32) < (m.1 2 5) then (16399 : Int32) else (m.1 2 5)).toNatClampNeg) l1) 4 ((if (16399 : Int32) < (m.1 2 5) then (16399 : Int32) else (m.1 2 5)).toNatClampNeg) l2) 5 ((if (16399 : Int32) < (m.1 2 5) then (16399 : Int32) else (m.1 2 5)).toNatClampNeg) l3) 6 ((if (16399 : Int32) < (m.1 2 5) then (16399 : Int32) else (m.1 2 5)).toNatClampNeg) (0 : Int32)) 7 ((if (16399 : Int32) < (m.1 2 5) then (16399 : Int32) else (m.1 2 5)).toNatClampNeg) ((if (16399 : Int32) < (m.1 2 5) then (16399 : Int32) else (m.1 2 5)) + (1 : Int32))) 2 5 ((if (16399 : Int32) < (m.1 2 5) then (16399 : Int32) else (m.1 2 5)) + (1 : Int32))) Q
  refine y_st rfl rfl rfl rfl rfl (fun _ _ => rfl) ?_
  show yP (xg xs) (d + 1) 72 65 [(4, .int (if (16399 : Int32) < (m.1 2 5) then (16399 : Int32) else (m.1 2 5))), (0, .ref 2), (1, .int l1), (2, .int l2), (3, .int l3)] [.int (if (16399 : Int32) < (m.1 2 5) then (16399 : Int32) else (m.1 2 5))] (y_si (y_si (y_si (y_si (y_si (y_si m 3 ((if (16399 : Int32) < (m.1 2 5) then (16399 : Int32) else (m.1 2 5)).toNatClampNeg) l1) 4 ((if (16399 : Int32) < (m.1 2 5) then (16399 : Int32) else (m.1 2 5)).toNatClampNeg) l2) 5 ((if (16399 : Int32) < (m.1 2 5) then (16399 : Int32) else (m.1 2 5)).toNatClampNeg) l3) 6 ((if (16399 : Int32) < (m.1 2 5) then (16399 : Int32) else (m.1 2 5)).toNatClampNeg) (0 : Int32)) 7 ((if (16399 : Int32) < (m.1 2 5) then (16399 : Int32) else (m.1 2 5)).toNatClampNeg) ((if (16399 : Int32) < (m.1 2 5) then (16399 : Int32) else (m.1 2 5)) + (1 : Int32))) 2 5 ((if (16399 : Int32) < (m.1 2 5) then (16399 : Int32) else (m.1 2 5)) + (1 : Int32))) Q
  exact y_iret rfl rfl rfl H
set_option maxRecDepth 20000 in
/-- CodeMaker.Reader.isBlockWord from 0 on -/
theorem w73_0 (xs : List Int32) (d : Nat) (m : yM) (Q : Option Value → yM → Prop) (H : (((m.1 17 5) = 0 → Q (some (.int (1 : Int32))) m) ∧ (¬ (m.1 17 5) = 0 → (((m.1 17 5) = (2 : Int32) → Q (some (.int (1 : Int32))) m) ∧ (¬ (m.1 17 5) = (2 : Int32) → ((¬ (m.1 17 5) = (4 : Int32) → Q (some (.int (0 : Int32))) m) ∧ ((m.1 17 5) = (4 : Int32) → Q (some (.int (1 : Int32))) m))))))) : yP (xg xs) (d + 1) 73 0 [(0, .ref 17)] [] m Q := by
  refine y_st rfl rfl rfl rfl rfl (fun _ _ => rfl) ?_
  refine y_gf rfl rfl rfl rfl rfl ?_
  show yP (xg xs) (d + 1) 73 4 [(0, .ref 17)] [.int (m.1 17 5)] m Q
  refine y_zeq (t := 23) rfl rfl rfl (fun h => ?_) (fun h => ?_)
  · replace H := H.1 h; clear h
    refine y_st rfl rfl rfl rfl rfl (fun _ _ => rfl) ?_
    refine y_st rfl rfl rfl rfl rfl (fun _ _ => rfl) ?_
    show yP (xg xs) (d + 1) 73 28 [(0, .ref 17)] [.int (1 : Int32)] m Q
    exact y_zret rfl rfl rfl (by decide) H
  · replace H := H.2 h; clear h
    refine y_st rfl rfl rfl rfl rfl (fun _ _ => rfl) ?_
    refine y_gf rfl rfl rfl rfl rfl ?_
    refine y_st rfl rfl rfl rfl rfl (fun _ _ => rfl) ?_
    show yP (xg xs) (d + 1) 73 12 [(0, .ref 17)] [.int (2 : Int32), .int (m.1 17 5)] m Q
    refine y_ieq (t := 23) rfl rfl rfl (fun h => ?_) (fun h => ?_)
    · replace H := H.1 h; clear h
      refine y_st rfl rfl rfl rfl rfl (fun _ _ => rfl) ?_
      refine y_st rfl rfl rfl rfl rfl (fun _ _ => rfl) ?_
      show yP (xg xs) (d + 1) 73 28 [(0, .ref 17)] [.int (1 : Int32)] m Q
      exact y_zret rfl rfl rfl (by decide) H
    · replace H := H.2 h; clear h
      refine y_st rfl rfl rfl rfl rfl (fun _ _ => rfl) ?_
      refine y_gf rfl rfl rfl rfl rfl ?_
      refine y_st rfl rfl rfl rfl rfl (fun _ _ => rfl) ?_
      show yP (xg xs) (d + 1) 73 20 [(0, .ref 17)] [.int (4 : Int32), .int (m.1 17 5)] m Q
      refine y_ine (t := 27) rfl rfl rfl (fun h => ?_) (fun h => ?_)
      · replace H := H.1 h; clear h
        refine y_st rfl rfl rfl rfl rfl (fun _ _ => rfl) ?_
        show yP (xg xs) (d + 1) 73 28 [(0, .ref 17)] [.int (0 : Int32)] m Q
        exact y_zret rfl rfl rfl (by decide) H
      · replace H := H.2 h; clear h
        refine y_st rfl rfl rfl rfl rfl (fun _ _ => rfl) ?_
        refine y_st rfl rfl rfl rfl rfl (fun _ _ => rfl) ?_
        show yP (xg xs) (d + 1) 73 28 [(0, .ref 17)] [.int (1 : Int32)] m Q
        exact y_zret rfl rfl rfl (by decide) H
set_option maxRecDepth 20000 in
/-- CodeMaker.Reader.block from 0 on -/
theorem w74_0 (xs : List Int32) (d : Nat) (m : yM) (Q : Option Value → yM → Prop) (H : (¬ (2 : Int32) = 0 ∧ (yC (xg xs) d 75 [.ref 17, .int ((1 : Int32) + (((m.1 17 5) - (0 : Int32)) / (2 : Int32))), .int (0 : Int32)] m (fun v1 m1 => ∃ u1, v1 = some (Value.int u1) ∧ (yC (xg xs) d 76 [.ref 17] m1 (fun v2 m2 => v2 = none ∧ (x_in (m2.1 17 4) 8193 = true ∧ (x_in u1 16401 = true ∧ (yC (xg xs) d 77 [.ref 17, .int (64 : Int32)] (y_si m2 5 u1.toNatClampNeg (m2.1 11 ((m2.1 17 4).toNatClampNeg))) (fun v3 m3 => v3 = none ∧ ((¬ (m.1 17 5) = 0 → yP (xg xs) (d + 1) 74 64 [(0, .ref 17), (1, .int (m.1 17 5)), (2, .int u1)] [] m3 Q) ∧ ((m.1 17 5) = 0 → (yC (xg xs) d 77 [.ref 17, .int (186 : Int32)] m3 (fun v4 m4 => v4 = none ∧ (yC (xg xs) d 79 [.ref 17] m4 (fun v5 m5 => v5 = none ∧ yP (xg xs) (d + 1) 74 64 [(0, .ref 17), (1, .int (m.1 17 5)), (2, .int u1)] [] m5 Q)))))))))))))))) : yP (xg xs) (d + 1) 74 0 [(0, .ref 17)] [] m Q := by
  refine y_st rfl rfl rfl rfl rfl (fun _ _ => rfl) ?_
  refine y_gf rfl rfl rfl rfl rfl ?_
  refine y_st rfl rfl rfl rfl rfl (fun _ _ => rfl) ?_
  refine y_st rfl rfl rfl rfl rfl (fun _ _ => rfl) ?_
  refine y_st rfl rfl rfl rfl rfl (fun _ _ => rfl) ?_
  refine y_st rfl rfl rfl rfl rfl (fun _ _ => rfl) ?_
  refine y_st rfl rfl rfl rfl rfl (fun _ _ => rfl) ?_
  refine y_st rfl rfl rfl rfl rfl (fun _ _ => rfl) ?_
  refine y_st rfl rfl rfl rfl rfl (fun _ _ => rfl) ?_
  show yP (xg xs) (d + 1) 74 11 [(1, .int (m.1 17 5)), (0, .ref 17)] [.int (2 : Int32), .int ((m.1 17 5) - (0 : Int32)), .int (1 : Int32), .ref 17] m Q
  refine y_idiv rfl rfl H.1 ?_
  replace H := H.2
  refine y_st rfl rfl rfl rfl rfl (fun _ _ => rfl) ?_
  refine y_st rfl rfl rfl rfl rfl (fun _ _ => rfl) ?_
  show yP (xg xs) (d + 1) 74 14 [(1, .int (m.1 17 5)), (0, .ref 17)] [.int (0 : Int32), .int ((1 : Int32) + (((m.1 17 5) - (0 : Int32)) / (2 : Int32))), .ref 17] m Q
  refine y_call rfl rfl rfl rfl rfl (Nat.le_of_ble_eq_true rfl) (Nat.le_of_ble_eq_true rfl) rfl (by decide) H (fun v1 m1 H => ?_)
  obtain ⟨u1, rfl, H⟩ := H
  refine y_st rfl rfl rfl rfl rfl (fun _ _ => rfl) ?_
  refine y_st rfl rfl rfl rfl rfl (fun _ _ => rfl) ?_
  show yP (xg xs) (d + 1) 74 19 [(2, .int u1), (1, .int (m.1 17 5)), (0, .ref 17)] [.ref 17] m1 Q
  refine y_call rfl rfl rfl rfl rfl (Nat.le_of_ble_eq_true rfl) (Nat.le_of_ble_eq_true rfl) rfl (by decide) H (fun v2 m2 H => ?_)
  obtain ⟨rfl, H⟩ := H
  refine y_st rfl rfl rfl rfl rfl (fun _ _ => rfl) ?_
  refine y_gf rfl rfl rfl rfl rfl ?_
  refine y_gf rfl rfl rfl rfl rfl ?_
  refine y_st rfl rfl rfl rfl rfl (fun _ _ => rfl) ?_
  refine y_st rfl rfl rfl rfl rfl (fun _ _ => rfl) ?_
  refine y_gf rfl rfl rfl rfl rfl ?_
  refine y_gf rfl rfl rfl rfl rfl ?_
  refine y_st rfl rfl rfl rfl rfl (fun _ _ => rfl) ?_
  refine y_gf rfl rfl rfl rfl rfl ?_
  show yP (xg xs) (d + 1) 74 41 [(2, .int u1), (1, .int (m.1 17 5)), (0, .ref 17)] [.int (m2.1 17 4), .ref 11, .int u1, .ref 5] m2 Q
  refine y_iald rfl rfl rfl (H.1) ?_
  replace H := H.2
  show yP (xg xs) (d + 1) 74 42 [(2, .int u1), (1, .int (m.1 17 5)), (0, .ref 17)] [.int (m2.1 11 ((m2.1 17 4).toNatClampNeg)), .int u1, .ref 5] m2 Q
  refine y_iast rfl rfl rfl (H.1) ?_
  replace H := H.2
  refine y_st rfl rfl rfl rfl rfl (fun _ _ => rfl) ?_
  refine y_st rfl rfl rfl rfl rfl (fun _ _ => rfl) ?_
  show yP (xg xs) (d + 1) 74 46 [(2, .int u1), (1, .int (m.1 17 5)), (0, .ref 17)] [.int (64 : Int32), .ref 17] (y_si m2 5 u1.toNatClampNeg (m2.1 11 ((m2.1 17 4).toNatClampNeg))) Q
  refine y_call rfl rfl rfl rfl rfl (Nat.le_of_ble_eq_true rfl) (Nat.le_of_ble_eq_true rfl) rfl (by decide) H (fun v3 m3 H => ?_)
  obtain ⟨rfl, H⟩ := H
  refine y_st rfl rfl rfl rfl rfl (fun _ _ => rfl) ?_
  show yP (xg xs) (d + 1) 74 50 [(2, .int u1), (1, .int (m.1 17 5)), (0, .ref 17)] [.int (m.1 17 5)] m3 Q
  refine y_zne (t := 64) rfl rfl rfl (fun h => ?_) (fun h => ?_)
  · replace H := H.1 h; clear h
    show yP (xg xs) (d + 1) 74 64 [(2, .int u1), (1, .int (m.1 17 5)), (0, .ref 17)] [] m3 Q
    refine y_headS (l2 := [(0, .ref 17), (1, .int (m.1 17 5)), (2, .int u1)]) [2, 1, 0] [0, 1, 2] [2, 1, 0] rfl rfl (by decide) rfl (by decide) ?_
    exact H
  · replace H := H.2 h; clear h
    refine y_st rfl rfl rfl rfl rfl (fun _ _ => rfl) ?_
    refine y_st rfl rfl rfl rfl rfl (fun _ _ => rfl) ?_
    show yP (xg xs) (d + 1) 74 57 [(2, .int u1), (1, .int (m.1 17 5)), (0, .ref 17)] [.int (186 : Int32), .ref 17] m3 Q
    refine y_call rfl rfl rfl rfl rfl (Nat.le_of_ble_eq_true rfl) (Nat.le_of_ble_eq_true rfl) rfl (by decide) H (fun v4 m4 H => ?_)
    obtain ⟨rfl, H⟩ := H
    refine y_st rfl rfl rfl rfl rfl (fun _ _ => rfl) ?_
    show yP (xg xs) (d + 1) 74 61 [(2, .int u1), (1, .int (m.1 17 5)), (0, .ref 17)] [.ref 17] m4 Q
    refine y_call rfl rfl rfl rfl rfl (Nat.le_of_ble_eq_true rfl) (Nat.le_of_ble_eq_true rfl) rfl (by decide) H (fun v5 m5 H => ?_)
    obtain ⟨rfl, H⟩ := H
    show yP (xg xs) (d + 1) 74 64 [(2, .int u1), (1, .int (m.1 17 5)), (0, .ref 17)] [] m5 Q
    refine y_headS (l2 := [(0, .ref 17), (1, .int (m.1 17 5)), (2, .int u1)]) [2, 1, 0] [0, 1, 2] [2, 1, 0] rfl rfl (by decide) rfl (by decide) ?_
    exact H
set_option maxRecDepth 20000 in
/-- CodeMaker.Reader.block from 64 on -/
theorem w74_64 (xs : List Int32) (d : Nat) (l1 : Int32) (l2 : Int32) (m : yM) (Q : Option Value → yM → Prop) (H : yP (xg xs) (d + 1) 74 66 [(0, .ref 17), (1, .int l1), (2, .int l2), (3, .int (0 : Int32))] [] m Q) : yP (xg xs) (d + 1) 74 64 [(0, .ref 17), (1, .int l1), (2, .int l2)] [] m Q := by
  refine y_st rfl rfl rfl rfl rfl (fun _ _ => rfl) ?_
  refine y_st rfl rfl rfl rfl rfl (fun _ _ => rfl) ?_
  show yP (xg xs) (d + 1) 74 66 [(3, .int (0 : Int32)), (0, .ref 17), (1, .int l1), (2, .int l2)] [] m Q
  refine y_headS (l2 := [(0, .ref 17), (1, .int l1), (2, .int l2), (3, .int (0 : Int32))]) [1, 2, 3, 0] [0, 1, 2, 3] [3, 0, 1, 2] rfl rfl (by decide) rfl (by decide) ?_
  exact H
set_option maxRecDepth 20000 in
/-- CodeMaker.Reader.block from 66 on -/
theorem w74_66 (xs : List Int32) (d : Nat) (l1 : Int32) (l2 : Int32) (l3 : Int32) (m : yM) (Q : Option Value → yM → Prop) (H : (((8192 : Int32) ≤ l3 → yP (xg xs) (d + 1) 74 101 [(0, .ref 17), (1, .int l1), (2, .int l2)] [] m Q) ∧ (¬ (8192 : Int32) ≤ l3 → (((m.1 17 5) < (6 : Int32) → yP (xg xs) (d + 1) 74 101 [(0, .ref 17), (1, .int l1), (2, .int l2)] [] m Q) ∧ (¬ (m.1 17 5) < (6 : Int32) → (((8 : Int32) < (m.1 17 5) → yP (xg xs) (d + 1) 74 101 [(0, .ref 17), (1, .int l1), (2, .int l2)] [] m Q) ∧ (¬ (8 : Int32) < (m.1 17 5) → (yC (xg xs) d 80 [.ref 17] m (fun v1 m1 => v1 = none ∧ yP (xg xs) (d + 1) 74 66 [(0, .ref 17), (1, .int l1), (2, .int l2), (3, .int (l3 + (1 : Int32)))] [] m1 Q))))))))) : yP (xg xs) (d + 1) 74 66 [(0, .ref 17), (1, .int l1), (2, .int l2), (3, .int l3)] [] m Q := by
  refine y_st rfl rfl rfl rfl rfl (fun _ _ => rfl) ?_
  refine y_st rfl rfl rfl rfl rfl (fun _ _ => rfl) ?_
  show yP (xg xs) (d + 1) 74 70 [(0, .ref 17), (1, .int l1), (2, .int l2), (3, .int l3)] [.int (8192 : Int32), .int l3] m Q
  refine y_ige (t := 101) rfl rfl rfl (fun h => ?_) (fun h => ?_)
  · replace H := H.1 h; clear h
    show yP (xg xs) (d + 1) 74 101 [(0, .ref 17), (1, .int l1), (2, .int l2), (3, .int l3)] [] m Q
    refine y_headS (l2 := [(0, .ref 17), (1, .int l1), (2, .int l2)]) [0, 1, 2] [0, 1, 2] [0, 1, 2, 3] rfl rfl (by decide) rfl (by decide) ?_
    exact H
  · replace H := H.2 h; clear h
    refine y_st rfl rfl rfl rfl rfl (fun _ _ => rfl) ?_
    refine y_gf rfl rfl rfl rfl rfl ?_
    refine y_st rfl rfl rfl rfl rfl (fun _ _ => rfl) ?_
    show yP (xg xs) (d + 1) 74 79 [(0, .ref 17), (1, .int l1), (2, .int l2), (3, .int l3)] [.int (6 : Int32), .int (m.1 17 5)] m Q
    refine y_ilt (t := 101) rfl rfl rfl (fun h => ?_) (fun h => ?_)
    · replace H := H.1 h; clear h
      show yP (xg xs) (d + 1) 74 101 [(0, .ref 17), (1, .int l1), (2, .int l2), (3, .int l3)] [] m Q
      refine y_headS (l2 := [(0, .ref 17), (1, .int l1), (2, .int l2)]) [0, 1, 2] [0, 1, 2] [0, 1, 2, 3] rfl rfl (by decide) rfl (by decide) ?_
      exact H
    · replace H := H.2 h; clear h
      refine y_st rfl rfl rfl rfl rfl (fun _ _ => rfl) ?_
      refine y_gf rfl rfl rfl rfl rfl ?_
      refine y_st rfl rfl rfl rfl rfl (fun _ _ => rfl) ?_
      show yP (xg xs) (d + 1) 74 88 [(0, .ref 17), (1, .int l1), (2, .int l2), (3, .int l3)] [.int (8 : Int32), .int (m.1 17 5)] m Q
      refine y_igt (t := 101) rfl rfl rfl (fun h => ?_) (fun h => ?_)
      · replace H := H.1 h; clear h
        show yP (xg xs) (d + 1) 74 101 [(0, .ref 17), (1, .int l1), (2, .int l2), (3, .int l3)] [] m Q
        refine y_headS (l2 := [(0, .ref 17), (1, .int l1), (2, .int l2)]) [0, 1, 2] [0, 1, 2] [0, 1, 2, 3] rfl rfl (by decide) rfl (by decide) ?_
        exact H
      · replace H := H.2 h; clear h
        refine y_st rfl rfl rfl rfl rfl (fun _ _ => rfl) ?_
        show yP (xg xs) (d + 1) 74 92 [(0, .ref 17), (1, .int l1), (2, .int l2), (3, .int l3)] [.ref 17] m Q
        refine y_call rfl rfl rfl rfl rfl (Nat.le_of_ble_eq_true rfl) (Nat.le_of_ble_eq_true rfl) rfl (by decide) H (fun v1 m1 H => ?_)
        obtain ⟨rfl, H⟩ := H
        refine y_st rfl rfl rfl rfl rfl (fun _ _ => rfl) ?_
        refine y_st rfl rfl rfl rfl rfl (fun _ _ => rfl) ?_
        show yP (xg xs) (d + 1) 74 66 [(3, .int (l3 + (1 : Int32))), (0, .ref 17), (1, .int l1), (2, .int l2)] [] m1 Q
        refine y_headS (l2 := [(0, .ref 17), (1, .int l1), (2, .int l2), (3, .int (l3 + (1 : Int32)))]) [1, 2, 3, 0] [0, 1, 2, 3] [3, 0, 1, 2] rfl rfl (by decide) rfl (by decide) ?_
        exact H
set_option maxRecDepth 20000 in
/-- CodeMaker.Reader.block from 101 on -/
theorem w74_101 (xs : List Int32) (d : Nat) (l1 : Int32) (l2 : Int32) (m : yM) (Q : Option Value → yM → Prop) (H : ((¬ (m.1 17 5) = (37 : Int32) → (yC (xg xs) d 93 [.ref 17] m (fun v1 m1 => v1 = none ∧ yP (xg xs) (d + 1) 74 121 [(0, .ref 17), (1, .int l1), (2, .int l2)] [] m1 Q))) ∧ ((m.1 17 5) = (37 : Int32) → (yC (xg xs) d 86 [.ref 17] m (fun v2 m2 => v2 = none ∧ yP (xg xs) (d + 1) 74 121 [(0, .ref 17), (1, .int l1), (2, .int l2)] [] m2 Q))))) : yP (xg xs) (d + 1) 74 101 [(0, .ref 17), (1, .int l1), (2, .int l2)] [] m Q := by
  refine y_st rfl rfl rfl rfl rfl (fun _ _ => rfl) ?_
  refine y_gf rfl rfl rfl rfl rfl ?_
  refine y_st rfl rfl rfl rfl rfl (fun _ _ => rfl) ?_
  show yP (xg xs) (d + 1) 74 107 [(0, .ref 17), (1, .int l1), (2, .int l2)] [.int (37 : Int32), .int (m.1 17 5)] m Q
  refine y_ine (t := 117) rfl rfl rfl (fun h => ?_) (fun h => ?_)
  · replace H := H.1 h; clear h
    refine y_st rfl rfl rfl rfl rfl (fun _ _ => rfl) ?_
    show yP (xg xs) (d + 1) 74 118 [(0, .ref 17), (1, .int l1), (2, .int l2)] [.ref 17] m Q
    refine y_call rfl rfl rfl rfl rfl (Nat.le_of_ble_eq_true rfl) (Nat.le_of_ble_eq_true rfl) rfl (by decide) H (fun v1 m1 H => ?_)
    obtain ⟨rfl, H⟩ := H
    show yP (xg xs) (d + 1) 74 121 [(0, .ref 17), (1, .int l1), (2, .int l2)] [] m1 Q
    exact H
  · replace H := H.2 h; clear h
    refine y_st rfl rfl rfl rfl rfl (fun _ _ => rfl) ?_
    show yP (xg xs) (d + 1) 74 111 [(0, .ref 17), (1, .int l1), (2, .int l2)] [.ref 17] m Q
    refine y_call rfl rfl rfl rfl rfl (Nat.le_of_ble_eq_true rfl) (Nat.le_of_ble_eq_true rfl) rfl (by decide) H (fun v2 m2 H => ?_)
    obtain ⟨rfl, H⟩ := H
    refine y_st rfl rfl rfl rfl rfl (fun _ _ => rfl) ?_
    show yP (xg xs) (d + 1) 74 121 [(0, .ref 17), (1, .int l1), (2, .int l2)] [] m2 Q
    exact H
set_option maxRecDepth 20000 in
/-- CodeMaker.Reader.block from 121 on -/
theorem w74_121 (xs : List Int32) (d : Nat) (l1 : Int32) (l2 : Int32) (m : yM) (Q : Option Value → yM → Prop) (H : (yC (xg xs) d 77 [.ref 17, .int (l1 + (1 : Int32))] m (fun v1 m1 => v1 = none ∧ (yC (xg xs) d 85 [.ref 2, .int l2] m1 (fun v2 m2 => v2 = none ∧ Q none m2))))) : yP (xg xs) (d + 1) 74 121 [(0, .ref 17), (1, .int l1), (2, .int l2)] [] m Q := by
  refine y_st rfl rfl rfl rfl rfl (fun _ _ => rfl) ?_
  refine y_st rfl rfl rfl rfl rfl (fun _ _ => rfl) ?_
  refine y_st rfl rfl rfl rfl rfl (fun _ _ => rfl) ?_
  refine y_st rfl rfl rfl rfl rfl (fun _ _ => rfl) ?_
  show yP (xg xs) (d + 1) 74 125 [(0, .ref 17), (1, .int l1), (2, .int l2)] [.int (l1 + (1 : Int32)), .ref 17] m Q
  refine y_call rfl rfl rfl rfl rfl (Nat.le_of_ble_eq_true rfl) (Nat.le_of_ble_eq_true rfl) rfl (by decide) H (fun v1 m1 H => ?_)
  obtain ⟨rfl, H⟩ := H
  refine y_st rfl rfl rfl rfl rfl (fun _ _ => rfl) ?_
  refine y_gf rfl rfl rfl rfl rfl ?_
  refine y_st rfl rfl rfl rfl rfl (fun _ _ => rfl) ?_
  show yP (xg xs) (d + 1) 74 133 [(0, .ref 17), (1, .int l1), (2, .int l2)] [.int l2, .ref 2] m1 Q
  refine y_call rfl rfl rfl rfl rfl (Nat.le_of_ble_eq_true rfl) (Nat.le_of_ble_eq_true rfl) rfl (by decide) H (fun v2 m2 H => ?_)
  obtain ⟨rfl, H⟩ := H
  show yP (xg xs) (d + 1) 74 136 [(0, .ref 17), (1, .int l1), (2, .int l2)] [] m2 Q
  exact y_ret rfl rfl rfl rfl H
set_option maxRecDepth 20000 in
/-- CodeMaker.Reader.addHere from 0 on -/
theorem w75_0 (xs : List Int32) (d : Nat) (l1 : Int32) (l2 : Int32) (m : yM) (Q : Option Value → yM → Prop) (H : (x_in (m.1 17 4) 8193 = true ∧ (yC (xg xs) d 72 [.ref 2, .int l1, .int (m.1 10 ((m.1 17 4).toNatClampNeg)), .int l2] m (fun v1 m1 => ∃ u1, v1 = some (Value.int u1) ∧ Q (some (.int u1)) m1)))) : yP (xg xs) (d + 1) 75 0 [(0, .ref 17), (1, .int l1), (2, .int l2)] [] m Q := by
  refine y_st rfl rfl rfl rfl rfl (fun _ _ => rfl) ?_
  refine y_gf rfl rfl rfl rfl rfl ?_
  refine y_st rfl rfl rfl rfl rfl (fun _ _ => rfl) ?_
  refine y_st rfl rfl rfl rfl rfl (fun _ _ => rfl) ?_
  refine y_gf rfl rfl rfl rfl rfl ?_
  refine y_gf rfl rfl rfl rfl rfl ?_
  refine y_st rfl rfl rfl rfl rfl (fun _ _ => rfl) ?_
  refine y_gf rfl rfl rfl rfl rfl ?_
  show yP (xg xs) (d + 1) 75 16 [(0, .ref 17), (1, .int l1), (2, .int l2)] [.int (m.1 17 4), .ref 10, .int l1, .ref 2] m Q
  refine y_iald rfl rfl rfl (H.1) ?_
  replace H := H.2
  refine y_st rfl rfl rfl rfl rfl (fun _ _ => rfl) ?_
  show yP (xg xs) (d + 1) 75 18 [(0, .ref 17), (1, .int l1), (2, .int l2)] [.int l2, .int (m.1 10 ((m.1 17 4).toNatClampNeg)), .int l1, .ref 2] m Q
  refine y_call rfl rfl rfl rfl rfl (Nat.le_of_ble_eq_true rfl) (Nat.le_of_ble_eq_true rfl) rfl (by decide) H (fun v1 m1 H => ?_)
  obtain ⟨u1, rfl, H⟩ := H
  show yP (xg xs) (d + 1) 75 21 [(0, .ref 17), (1, .int l1), (2, .int l2)] [.int u1] m1 Q
  exact y_iret rfl rfl rfl H
set_option maxRecDepth 20000 in
/-- CodeMaker.Reader.step from 0 on -/
theorem w76_0 (xs : List Int32) (d : Nat) (m : yM) (Q : Option Value → yM → Prop) (H : (((m.1 17 5) = (69 : Int32) → Q none m) ∧ (¬ (m.1 17 5) = (69 : Int32) → (((8192 : Int32) ≤ (m.1 17 4) → Q none m) ∧ (¬ (8192 : Int32) ≤ (m.1 17 4) → (x_in ((m.1 17 4) + (1 : Int32)) 8193 = true ∧ Q none (y_si (y_si m 17 4 ((m.1 17 4) + (1 : Int32))) 17 5 (m.1 9 (((m.1 17 4) + (1 : Int32)).toNatClampNeg))))))))) : yP (xg xs) (d + 1) 76 0 [(0, .ref 17)] [] m Q := by
  refine y_st rfl rfl rfl rfl rfl (fun _ _ => rfl) ?_
  refine y_gf rfl rfl rfl rfl rfl ?_
  refine y_st rfl rfl rfl rfl rfl (fun _ _ => rfl) ?_
  show yP (xg xs) (d + 1) 76 6 [(0, .ref 17)] [.int (69 : Int32), .int (m.1 17 5)] m Q
  refine y_ieq (t := 45) rfl rfl rfl (fun h => ?_) (fun h => ?_)
  · replace H := H.1 h; clear h
    show yP (xg xs) (d + 1) 76 45 [(0, .ref 17)] [] m Q
    exact y_ret rfl rfl rfl rfl H
  · replace H := H.2 h; clear h
    refine y_st rfl rfl rfl rfl rfl (fun _ _ => rfl) ?_
    refine y_gf rfl rfl rfl rfl rfl ?_
    refine y_st rfl rfl rfl rfl rfl (fun _ _ => rfl) ?_
    show yP (xg xs) (d + 1) 76 16 [(0, .ref 17)] [.int (8192 : Int32), .int (m.1 17 4)] m Q
    refine y_ige (t := 45) rfl rfl rfl (fun h => ?_) (fun h => ?_)
    · replace H := H.1 h; clear h
      show yP (xg xs) (d + 1) 76 45 [(0, .ref 17)] [] m Q
      exact y_ret rfl rfl rfl rfl H
    · replace H := H.2 h; clear h
      refine y_st rfl rfl rfl rfl rfl (fun _ _ => rfl) ?_
      refine y_st rfl rfl rfl rfl rfl (fun _ _ => rfl) ?_
      refine y_gf rfl rfl rfl rfl rfl ?_
      refine y_st rfl rfl rfl rfl rfl (fun _ _ => rfl) ?_
      refine y_st rfl rfl rfl rfl rfl (fun _ _ => rfl) ?_
      refine y_pfi rfl rfl rfl rfl rfl (x_fit_i _) ?_
      show yP (xg xs) (d + 1) 76 29 [(0, .ref 17)] [] (y_si m 17 4 ((m.1 17 4) + (1 : Int32))) Q
      refine y_st rfl rfl rfl rfl rfl (fun _ _ => rfl) ?_
      refine y_st rfl rfl rfl rfl rfl (fun _ _ => rfl) ?_
      refine y_gf rfl rfl rfl rfl rfl ?_
      refine y_gf rfl rfl rfl rfl rfl ?_
      refine y_st rfl rfl rfl rfl rfl (fun _ _ => rfl) ?_
      refine y_gf rfl rfl rfl rfl rfl ?_
      show yP (xg xs) (d + 1) 76 41 [(0, .ref 17)] [.int ((m.1 17 4) + (1 : Int32)), .ref 9, .ref 17] (y_si m 17 4 ((m.1 17 4) + (1 : Int32))) Q
      refine y_iald rfl rfl rfl (H.1) ?_
      replace H := H.2
      refine y_pfi rfl rfl rfl rfl rfl (x_fit_i _) ?_
      show yP (xg xs) (d + 1) 76 45 [(0, .ref 17)] [] (y_si (y_si m 17 4 ((m.1 17 4) + (1 : Int32))) 17 5 (m.1 9 (((m.1 17 4) + (1 : Int32)).toNatClampNeg))) Q
      show yP (xg xs) (d + 1) 76 45 [(0, .ref 17)] [] (y_si (y_si m 17 4 ((m.1 17 4) + (1 : Int32))) 17 5 (m.1 9 (((m.1 17 4) + (1 : Int32)).toNatClampNeg))) Q
      exact y_ret rfl rfl rfl rfl H
set_option maxRecDepth 20000 in
/-- CodeMaker.Reader.expect from 0 on -/
theorem w77_0 (xs : List Int32) (d : Nat) (l1 : Int32) (m : yM) (Q : Option Value → yM → Prop) (H : ((¬ (m.1 17 5) = l1 → (yC (xg xs) d 78 [.ref 17, .int (6 : Int32)] m (fun v1 m1 => v1 = none ∧ Q none m1))) ∧ ((m.1 17 5) = l1 → (yC (xg xs) d 76 [.ref 17] m (fun v2 m2 => v2 = none ∧ Q none m2))))) : yP (xg xs) (d + 1) 77 0 [(0, .ref 17), (1, .int l1)] [] m Q := by
  refine y_st rfl rfl rfl rfl rfl (fun _ _ => rfl) ?_
  refine y_gf rfl rfl rfl rfl rfl ?_
  refine y_st rfl rfl rfl rfl rfl (fun _ _ => rfl) ?_
  show yP (xg xs) (d + 1) 77 5 [(0, .ref 17), (1, .int l1)] [.int l1, .int (m.1 17 5)] m Q
  refine y_ine (t := 15) rfl rfl rfl (fun h => ?_) (fun h => ?_)
  · replace H := H.1 h; clear h
    refine y_st rfl rfl rfl rfl rfl (fun _ _ => rfl) ?_
    refine y_st rfl rfl rfl rfl rfl (fun _ _ => rfl) ?_
    show yP (xg xs) (d + 1) 77 18 [(0, .ref 17), (1, .int l1)] [.int (6 : Int32), .ref 17] m Q
    refine y_call rfl rfl rfl rfl rfl (Nat.le_of_ble_eq_true rfl) (Nat.le_of_ble_eq_true rfl) rfl (by decide) H (fun v1 m1 H => ?_)
    obtain ⟨rfl, H⟩ := H
    show yP (xg xs) (d + 1) 77 21 [(0, .ref 17), (1, .int l1)] [] m1 Q
    exact y_ret rfl rfl rfl rfl H
  · replace H := H.2 h; clear h
    refine y_st rfl rfl rfl rfl rfl (fun _ _ => rfl) ?_
    show yP (xg xs) (d + 1) 77 9 [(0, .ref 17), (1, .int l1)] [.ref 17] m Q
    refine y_call rfl rfl rfl rfl rfl (Nat.le_of_ble_eq_true rfl) (Nat.le_of_ble_eq_true rfl) rfl (by decide) H (fun v2 m2 H => ?_)
    obtain ⟨rfl, H⟩ := H
    refine y_st rfl rfl rfl rfl rfl (fun _ _ => rfl) ?_
    show yP (xg xs) (d + 1) 77 21 [(0, .ref 17), (1, .int l1)] [] m2 Q
    exact y_ret rfl rfl rfl rfl H
set_option maxRecDepth 20000 in
/-- CodeMaker.Reader.refuse from 0 on -/
theorem w78_0 (xs : List Int32) (d : Nat) (l1 : Int32) (m : yM) (Q : Option Value → yM → Prop) (H : ((¬ (m.1 17 3) = 0 → Q none (y_si m 17 5 (69 : Int32))) ∧ ((m.1 17 3) = 0 → ((¬ (m.1 17 5) = (68 : Int32) → yP (xg xs) (d + 1) 78 33 [(0, .ref 17)] [.int l1, .ref 17] m Q) ∧ ((m.1 17 5) = (68 : Int32) → (x_in (m.1 17 4) 8193 = true ∧ yP (xg xs) (d + 1) 78 33 [(0, .ref 17)] [.int (m.1 11 ((m.1 17 4).toNatClampNeg)), .ref 17] m Q)))))) : yP (xg xs) (d + 1) 78 0 [(0, .ref 17), (1, .int l1)] [] m Q := by
  refine y_st rfl rfl rfl rfl rfl (fun _ _ => rfl) ?_
  refine y_gf rfl rfl rfl rfl rfl ?_
  show yP (xg xs) (d + 1) 78 4 [(0, .ref 17), (1, .int l1)] [.int (m.1 17 3)] m Q
  refine y_zne (t := 52) rfl rfl rfl (fun h => ?_) (fun h => ?_)
  · replace H := H.1 h; clear h
    refine y_st rfl rfl rfl rfl rfl (fun _ _ => rfl) ?_
    refine y_st rfl rfl rfl rfl rfl (fun _ _ => rfl) ?_
    refine y_pfi rfl rfl rfl rfl rfl (x_fit_i _) ?_
    show yP (xg xs) (d + 1) 78 58 [(0, .ref 17), (1, .int l1)] [] (y_si m 17 5 (69 : Int32)) Q
    show yP (xg xs) (d + 1) 78 58 [(0, .ref 17), (1, .int l1)] [] (y_si m 17 5 (69 : Int32)) Q
    exact y_ret rfl rfl rfl rfl H
  · replace H := H.2 h; clear h
    refine y_st rfl rfl rfl rfl rfl (fun _ _ => rfl) ?_
    refine y_st rfl rfl rfl rfl rfl (fun _ _ => rfl) ?_
    refine y_gf rfl rfl rfl rfl rfl ?_
    refine y_st rfl rfl rfl rfl rfl (fun _ _ => rfl) ?_
    show yP (xg xs) (d + 1) 78 14 [(0, .ref 17), (1, .int l1)] [.int (68 : Int32), .int (m.1 17 5), .ref 17] m Q
    refine y_ine (t := 32) rfl rfl rfl (fun h => ?_) (fun h => ?_)
    · replace H := H.1 h; clear h
      refine y_st rfl rfl rfl rfl rfl (fun _ _ => rfl) ?_
      show yP (xg xs) (d + 1) 78 33 [(0, .ref 17), (1, .int l1)] [.int l1, .ref 17] m Q
      refine y_headS (l2 := [(0, .ref 17)]) [0] [0] [0, 1] rfl rfl (by decide) rfl (by decide) ?_
      exact H
    · replace H := H.2 h; clear h
      refine y_st rfl rfl rfl rfl rfl (fun _ _ => rfl) ?_
      refine y_gf rfl rfl rfl rfl rfl ?_
      refine y_gf rfl rfl rfl rfl rfl ?_
      refine y_st rfl rfl rfl rfl rfl (fun _ _ => rfl) ?_
      refine y_gf rfl rfl rfl rfl rfl ?_
      show yP (xg xs) (d + 1) 78 28 [(0, .ref 17), (1, .int l1)] [.int (m.1 17 4), .ref 11, .ref 17] m Q
      refine y_iald rfl rfl rfl (H.1) ?_
      replace H := H.2
      refine y_st rfl rfl rfl rfl rfl (fun _ _ => rfl) ?_
      show yP (xg xs) (d + 1) 78 33 [(0, .ref 17), (1, .int l1)] [.int (m.1 11 ((m.1 17 4).toNatClampNeg)), .ref 17] m Q
      refine y_headS (l2 := [(0, .ref 17)]) [0] [0] [0, 1] rfl rfl (by decide) rfl (by decide) ?_
      exact H
set_option maxRecDepth 20000 in
/-- CodeMaker.Reader.refuse from 33 on -/
theorem w78_33 (xs : List Int32) (d : Nat) (s1 : Int32) (m : yM) (Q : Option Value → yM → Prop) (H : (x_in (m.1 17 4) 8193 = true ∧ Q none (y_si (y_si (y_si m 17 3 s1) 17 0 (m.1 10 ((m.1 17 4).toNatClampNeg))) 17 5 (69 : Int32)))) : yP (xg xs) (d + 1) 78 33 [(0, .ref 17)] [.int s1, .ref 17] m Q := by
  refine y_pfi rfl rfl rfl rfl rfl (x_fit_i _) ?_
  show yP (xg xs) (d + 1) 78 36 [(0, .ref 17)] [] (y_si m 17 3 s1) Q
  refine y_st rfl rfl rfl rfl rfl (fun _ _ => rfl) ?_
  refine y_st rfl rfl rfl rfl rfl (fun _ _ => rfl) ?_
  refine y_gf rfl rfl rfl rfl rfl ?_
  refine y_gf rfl rfl rfl rfl rfl ?_
  refine y_st rfl rfl rfl rfl rfl (fun _ _ => rfl) ?_
  refine y_gf rfl rfl rfl rfl rfl ?_
  show yP (xg xs) (d + 1) 78 48 [(0, .ref 17)] [.int (m.1 17 4), .ref 10, .ref 17] (y_si m 17 3 s1) Q
  refine y_iald rfl rfl rfl (H.1) ?_
  replace H := H.2
  refine y_pfi rfl rfl rfl rfl rfl (x_fit_i _) ?_
  show yP (xg xs) (d + 1) 78 52 [(0, .ref 17)] [] (y_si (y_si m 17 3 s1) 17 0 (m.1 10 ((m.1 17 4).toNatClampNeg))) Q
  refine y_st rfl rfl rfl rfl rfl (fun _ _ => rfl) ?_
  refine y_st rfl rfl rfl rfl rfl (fun _ _ => rfl) ?_
  refine y_pfi rfl rfl rfl rfl rfl (x_fit_i _) ?_
  show yP (xg xs) (d + 1) 78 58 [(0, .ref 17)] [] (y_si (y_si (y_si m 17 3 s1) 17 0 (m.1 10 ((m.1 17 4).toNatClampNeg))) 17 5 (69 : Int32)) Q
  show yP (xg xs) (d + 1) 78 58 [(0, .ref 17)] [] (y_si (y_si (y_si m 17 3 s1) 17 0 (m.1 10 ((m.1 17 4).toNatClampNeg))) 17 5 (69 : Int32)) Q
  exact y_ret rfl rfl rfl rfl H
set_option maxRecDepth 20000 in
/-- CodeMaker.Reader.simpleType from 0 on -/
theorem w79_0 (xs : List Int32) (d : Nat) (m : yM) (Q : Option Value → yM → Prop) (H : (((m.1 17 5) < (11 : Int32) → yP (xg xs) (d + 1) 79 54 [(0, .ref 17)] [] m Q) ∧ (¬ (m.1 17 5) < (11 : Int32) → (((13 : Int32) < (m.1 17 5) → yP (xg xs) (d + 1) 79 54 [(0, .ref 17)] [] m Q) ∧ (¬ (13 : Int32) < (m.1 17 5) → (x_in (m.1 17 4) 8193 = true ∧ (yC (xg xs) d 72 [.ref 2, .int (8 : Int32), .int (m.1 10 ((m.1 17 4).toNatClampNeg)), .int ((m.1 17 5) - (11 : Int32))] m (fun v1 m1 => ∃ u1, v1 = some (Value.int u1) ∧ (yC (xg xs) d 76 [.ref 17] m1 (fun v2 m2 => v2 = none ∧ Q none m2)))))))))) : yP (xg xs) (d + 1) 79 0 [(0, .ref 17)] [] m Q := by
  refine y_st rfl rfl rfl rfl rfl (fun _ _ => rfl) ?_
  refine y_gf rfl rfl rfl rfl rfl ?_
  refine y_st rfl rfl rfl rfl rfl (fun _ _ => rfl) ?_
  show yP (xg xs) (d + 1) 79 6 [(0, .ref 17)] [.int (11 : Int32), .int (m.1 17 5)] m Q
  refine y_ilt (t := 54) rfl rfl rfl (fun h => ?_) (fun h => ?_)
  · replace H := H.1 h; clear h
    show yP (xg xs) (d + 1) 79 54 [(0, .ref 17)] [] m Q
    exact H
  · replace H := H.2 h; clear h
    refine y_st rfl rfl rfl rfl rfl (fun _ _ => rfl) ?_
    refine y_gf rfl rfl rfl rfl rfl ?_
    refine y_st rfl rfl rfl rfl rfl (fun _ _ => rfl) ?_
    show yP (xg xs) (d + 1) 79 15 [(0, .ref 17)] [.int (13 : Int32), .int (m.1 17 5)] m Q
    refine y_igt (t := 54) rfl rfl rfl (fun h => ?_) (fun h => ?_)
    · replace H := H.1 h; clear h
      show yP (xg xs) (d + 1) 79 54 [(0, .ref 17)] [] m Q
      exact H
    · replace H := H.2 h; clear h
      refine y_st rfl rfl rfl rfl rfl (fun _ _ => rfl) ?_
      refine y_gf rfl rfl rfl rfl rfl ?_
      refine y_st rfl rfl rfl rfl rfl (fun _ _ => rfl) ?_
      refine y_st rfl rfl rfl rfl rfl (fun _ _ => rfl) ?_
      refine y_gf rfl rfl rfl rfl rfl ?_
      refine y_gf rfl rfl rfl rfl rfl ?_
      refine y_st rfl rfl rfl rfl rfl (fun _ _ => rfl) ?_
      refine y_gf rfl rfl rfl rfl rfl ?_
      show yP (xg xs) (d + 1) 79 35 [(0, .ref 17)] [.int (m.1 17 4), .ref 10, .int (8 : Int32), .ref 2] m Q
      refine y_iald rfl rfl rfl (H.1) ?_
      replace H := H.2
      refine y_st rfl rfl rfl rfl rfl (fun _ _ => rfl) ?_
      refine y_gf rfl rfl rfl rfl rfl ?_
      refine y_st rfl rfl rfl rfl rfl (fun _ _ => rfl) ?_
      refine y_st rfl rfl rfl rfl rfl (fun _ _ => rfl) ?_
      show yP (xg xs) (d + 1) 79 43 [(0, .ref 17)] [.int ((m.1 17 5) - (11 : Int32)), .int (m.1 10 ((m.1 17 4).toNatClampNeg)), .int (8 : Int32), .ref 2] m Q
      refine y_call rfl rfl rfl rfl rfl (Nat.le_of_ble_eq_true rfl) (Nat.le_of_ble_eq_true rfl) rfl (by decide) H (fun v1 m1 H => ?_)
      obtain ⟨u1, rfl, H⟩ := H
      refine y_st rfl rfl rfl rfl rfl (fun _ _ => rfl) ?_
      refine y_st rfl rfl rfl rfl rfl (fun _ _ => rfl) ?_
      show yP (xg xs) (d + 1) 79 48 [(0, .ref 17)] [.ref 17] m1 Q
      refine y_call rfl rfl rfl rfl rfl (Nat.le_of_ble_eq_true rfl) (Nat.le_of_ble_eq_true rfl) rfl (by decide) H (fun v2 m2 H => ?_)
      obtain ⟨rfl, H⟩ := H
      refine y_st rfl rfl rfl rfl rfl (fun _ _ => rfl) ?_
      show yP (xg xs) (d + 1) 79 60 [(0, .ref 17)] [] m2 Q
      exact y_ret rfl rfl rfl rfl H
set_option maxRecDepth 20000 in
/-- CodeMaker.Reader.simpleType from 54 on -/
theorem w79_54 (xs : List Int32) (d : Nat) (m : yM) (Q : Option Value → yM → Prop) (H : (yC (xg xs) d 78 [.ref 17, .int (6 : Int32)] m (fun v1 m1 => v1 = none ∧ Q none m1))) : yP (xg xs) (d + 1) 79 54 [(0, .ref 17)] [] m Q := by
  refine y_st rfl rfl rfl rfl rfl (fun _ _ => rfl) ?_
  refine y_st rfl rfl rfl rfl rfl (fun _ _ => rfl) ?_
  show yP (xg xs) (d + 1) 79 57 [(0, .ref 17)] [.int (6 : Int32), .ref 17] m Q
  refine y_call rfl rfl rfl rfl rfl (Nat.le_of_ble_eq_true rfl) (Nat.le_of_ble_eq_true rfl) rfl (by decide) H (fun v1 m1 H => ?_)
  obtain ⟨rfl, H⟩ := H
  show yP (xg xs) (d + 1) 79 60 [(0, .ref 17)] [] m1 Q
  exact y_ret rfl rfl rfl rfl H
set_option maxRecDepth 20000 in
/-- CodeMaker.Reader.section from 0 on -/
theorem w80_0 (xs : List Int32) (d : Nat) (m : yM) (Q : Option Value → yM → Prop) (H : (yC (xg xs) d 75 [.ref 17, .int (4 : Int32), .int ((m.1 17 5) - (6 : Int32))] m (fun v1 m1 => ∃ u1, v1 = some (Value.int u1) ∧ (yC (xg xs) d 76 [.ref 17] m1 (fun v2 m2 => v2 = none ∧ yP (xg xs) (d + 1) 80 19 [(0, .ref 17), (1, .int u1), (2, .int (0 : Int32))] [] m2 Q))))) : yP (xg xs) (d + 1) 80 0 [(0, .ref 17)] [] m Q := by
  refine y_st rfl rfl rfl rfl rfl (fun _ _ => rfl) ?_
  refine y_st rfl rfl rfl rfl rfl (fun _ _ => rfl) ?_
  refine y_st rfl rfl rfl rfl rfl (fun _ _ => rfl) ?_
  refine y_gf rfl rfl rfl rfl rfl ?_
  refine y_st rfl rfl rfl rfl rfl (fun _ _ => rfl) ?_
  refine y_st rfl rfl rfl rfl rfl (fun _ _ => rfl) ?_
  show yP (xg xs) (d + 1) 80 9 [(0, .ref 17)] [.int ((m.1 17 5) - (6 : Int32)), .int (4 : Int32), .ref 17] m Q
  refine y_call rfl rfl rfl rfl rfl (Nat.le_of_ble_eq_true rfl) (Nat.le_of_ble_eq_true rfl) rfl (by decide) H (fun v1 m1 H => ?_)
  obtain ⟨u1, rfl, H⟩ := H
  refine y_st rfl rfl rfl rfl rfl (fun _ _ => rfl) ?_
  refine y_st rfl rfl rfl rfl rfl (fun _ _ => rfl) ?_
  show yP (xg xs) (d + 1) 80 14 [(1, .int u1), (0, .ref 17)] [.ref 17] m1 Q
  refine y_call rfl rfl rfl rfl rfl (Nat.le_of_ble_eq_true rfl) (Nat.le_of_ble_eq_true rfl) rfl (by decide) H (fun v2 m2 H => ?_)
  obtain ⟨rfl, H⟩ := H
  refine y_st rfl rfl rfl rfl rfl (fun _ _ => rfl) ?_
  refine y_st rfl rfl rfl rfl rfl (fun _ _ => rfl) ?_
  show yP (xg xs) (d + 1) 80 19 [(2, .int (0 : Int32)), (1, .int u1), (0, .ref 17)] [] m2 Q
  refine y_headS (l2 := [(0, .ref 17), (1, .int u1), (2, .int (0 : Int32))]) [2, 1, 0] [0, 1, 2] [2, 1, 0] rfl rfl (by decide) rfl (by decide) ?_
  exact H
set_option maxRecDepth 20000 in
/-- CodeMaker.Reader.section from 19 on -/
theorem w80_19 (xs : List Int32) (d : Nat) (l1 : Int32) (l2 : Int32) (m : yM) (Q : Option Value → yM → Prop) (H : (((8192 : Int32) ≤ l2 → yP (xg xs) (d + 1) 80 45 [(0, .ref 17), (1, .int l1)] [] m Q) ∧ (¬ (8192 : Int32) ≤ l2 → ((¬ (m.1 17 5) = (64 : Int32) → yP (xg xs) (d + 1) 80 45 [(0, .ref 17), (1, .int l1)] [] m Q) ∧ ((m.1 17 5) = (64 : Int32) → (yC (xg xs) d 81 [.ref 17] m (fun v1 m1 => v1 = none ∧ yP (xg xs) (d + 1) 80 19 [(0, .ref 17), (1, .int l1), (2, .int (l2 + (1 : Int32)))] [] m1 Q))))))) : yP (xg xs) (d + 1) 80 19 [(0, .ref 17), (1, .int l1), (2, .int l2)] [] m Q := by
  refine y_st rfl rfl rfl rfl rfl (fun _ _ => rfl) ?_
  refine y_st rfl rfl rfl rfl rfl (fun _ _ => rfl) ?_
  show yP (xg xs) (d + 1) 80 23 [(0, .ref 17), (1, .int l1), (2, .int l2)] [.int (8192 : Int32), .int l2] m Q
  refine y_ige (t := 45) rfl rfl rfl (fun h => ?_) (fun h => ?_)
  · replace H := H.1 h; clear h
    show yP (xg xs) (d + 1) 80 45 [(0, .ref 17), (1, .int l1), (2, .int l2)] [] m Q
    refine y_headS (l2 := [(0, .ref 17), (1, .int l1)]) [0, 1] [0, 1] [0, 1, 2] rfl rfl (by decide) rfl (by decide) ?_
    exact H
  · replace H := H.2 h; clear h
    refine y_st rfl rfl rfl rfl rfl (fun _ _ => rfl) ?_
    refine y_gf rfl rfl rfl rfl rfl ?_
    refine y_st rfl rfl rfl rfl rfl (fun _ _ => rfl) ?_
    show yP (xg xs) (d + 1) 80 32 [(0, .ref 17), (1, .int l1), (2, .int l2)] [.int (64 : Int32), .int (m.1 17 5)] m Q
    refine y_ine (t := 45) rfl rfl rfl (fun h => ?_) (fun h => ?_)
    · replace H := H.1 h; clear h
      show yP (xg xs) (d + 1) 80 45 [(0, .ref 17), (1, .int l1), (2, .int l2)] [] m Q
      refine y_headS (l2 := [(0, .ref 17), (1, .int l1)]) [0, 1] [0, 1] [0, 1, 2] rfl rfl (by decide) rfl (by decide) ?_
      exact H
    · replace H := H.2 h; clear h
      refine y_st rfl rfl rfl rfl rfl (fun _ _ => rfl) ?_
      show yP (xg xs) (d + 1) 80 36 [(0, .ref 17), (1, .int l1), (2, .int l2)] [.ref 17] m Q
      refine y_call rfl rfl rfl rfl rfl (Nat.le_of_ble_eq_true rfl) (Nat.le_of_ble_eq_true rfl) rfl (by decide) H (fun v1 m1 H => ?_)
      obtain ⟨rfl, H⟩ := H
      refine y_st rfl rfl rfl rfl rfl (fun _ _ => rfl) ?_
      refine y_st rfl rfl rfl rfl rfl (fun _ _ => rfl) ?_
      show yP (xg xs) (d + 1) 80 19 [(2, .int (l2 + (1 : Int32))), (0, .ref 17), (1, .int l1)] [] m1 Q
      refine y_headS (l2 := [(0, .ref 17), (1, .int l1), (2, .int (l2 + (1 : Int32)))]) [1, 2, 0] [0, 1, 2] [2, 0, 1] rfl rfl (by decide) rfl (by decide) ?_
      exact H
set_option maxRecDepth 20000 in
/-- CodeMaker.Reader.section from 45 on -/
theorem w80_45 (xs : List Int32) (d : Nat) (l1 : Int32) (m : yM) (Q : Option Value → yM → Prop) (H : (yC (xg xs) d 77 [.ref 17, .int (9 : Int32)] m (fun v1 m1 => v1 = none ∧ (yC (xg xs) d 85 [.ref 2, .int l1] m1 (fun v2 m2 => v2 = none ∧ Q none m2))))) : yP (xg xs) (d + 1) 80 45 [(0, .ref 17), (1, .int l1)] [] m Q := by
  refine y_st rfl rfl rfl rfl rfl (fun _ _ => rfl) ?_
  refine y_st rfl rfl rfl rfl rfl (fun _ _ => rfl) ?_
  show yP (xg xs) (d + 1) 80 48 [(0, .ref 17), (1, .int l1)] [.int (9 : Int32), .ref 17] m Q
  refine y_call rfl rfl rfl rfl rfl (Nat.le_of_ble_eq_true rfl) (Nat.le_of_ble_eq_true rfl) rfl (by decide) H (fun v1 m1 H => ?_)
  obtain ⟨rfl, H⟩ := H
  refine y_st rfl rfl rfl rfl rfl (fun _ _ => rfl) ?_
  refine y_gf rfl rfl rfl rfl rfl ?_
  refine y_st rfl rfl rfl rfl rfl (fun _ _ => rfl) ?_
  show yP (xg xs) (d + 1) 80 56 [(0, .ref 17), (1, .int l1)] [.int l1, .ref 2] m1 Q
  refine y_call rfl rfl rfl rfl rfl (Nat.le_of_ble_eq_true rfl) (Nat.le_of_ble_eq_true rfl) rfl (by decide) H (fun v2 m2 H => ?_)
  obtain ⟨rfl, H⟩ := H
  show yP (xg xs) (d + 1) 80 59 [(0, .ref 17), (1, .int l1)] [] m2 Q
  exact y_ret rfl rfl rfl rfl H
set_option maxRecDepth 20000 in
/-- CodeMaker.Reader.declaration from 0 on -/
theorem w81_0 (xs : List Int32) (d : Nat) (m : yM) (Q : Option Value → yM → Prop) (H : (yC (xg xs) d 75 [.ref 17, .int (5 : Int32), .int (0 : Int32)] m (fun v1 m1 => ∃ u1, v1 = some (Value.int u1) ∧ (x_in (m1.1 17 4) 8193 = true ∧ (yC (xg xs) d 82 [.ref 17, .int (64 : Int32), .int (6 : Int32), .int (m1.1 11 ((m1.1 17 4).toNatClampNeg))] m1 (fun v2 m2 => v2 = none ∧ yP (xg xs) (d + 1) 81 29 [(0, .ref 17), (1, .int u1), (2, .int (0 : Int32))] [] m2 Q)))))) : yP (xg xs) (d + 1) 81 0 [(0, .ref 17)] [] m Q := by
  refine y_st rfl rfl rfl rfl rfl (fun _ _ => rfl) ?_
  refine y_st rfl rfl rfl rfl rfl (fun _ _ => rfl) ?_
  refine y_st rfl rfl rfl rfl rfl (fun _ _ => rfl) ?_
  show yP (xg xs) (d + 1) 81 3 [(0, .ref 17)] [.int (0 : Int32), .int (5 : Int32), .ref 17] m Q
  refine y_call rfl rfl rfl rfl rfl (Nat.le_of_ble_eq_true rfl) (Nat.le_of_ble_eq_true rfl) rfl (by decide) H (fun v1 m1 H => ?_)
  obtain ⟨u1, rfl, H⟩ := H
  refine y_st rfl rfl rfl rfl rfl (fun _ _ => rfl) ?_
  refine y_st rfl rfl rfl rfl rfl (fun _ _ => rfl) ?_
  refine y_st rfl rfl rfl rfl rfl (fun _ _ => rfl) ?_
  refine y_st rfl rfl rfl rfl rfl (fun _ _ => rfl) ?_
  refine y_st rfl rfl rfl rfl rfl (fun _ _ => rfl) ?_
  refine y_gf rfl rfl rfl rfl rfl ?_
  refine y_gf rfl rfl rfl rfl rfl ?_
  refine y_st rfl rfl rfl rfl rfl (fun _ _ => rfl) ?_
  refine y_gf rfl rfl rfl rfl rfl ?_
  show yP (xg xs) (d + 1) 81 23 [(1, .int u1), (0, .ref 17)] [.int (m1.1 17 4), .ref 11, .int (6 : Int32), .int (64 : Int32), .ref 17] m1 Q
  refine y_iald rfl rfl rfl (H.1) ?_
  replace H := H.2
  show yP (xg xs) (d + 1) 81 24 [(1, .int u1), (0, .ref 17)] [.int (m1.1 11 ((m1.1 17 4).toNatClampNeg)), .int (6 : Int32), .int (64 : Int32), .ref 17] m1 Q
  refine y_call rfl rfl rfl rfl rfl (Nat.le_of_ble_eq_true rfl) (Nat.le_of_ble_eq_true rfl) rfl (by decide) H (fun v2 m2 H => ?_)
  obtain ⟨rfl, H⟩ := H
  refine y_st rfl rfl rfl rfl rfl (fun _ _ => rfl) ?_
  refine y_st rfl rfl rfl rfl rfl (fun _ _ => rfl) ?_
  show yP (xg xs) (d + 1) 81 29 [(2, .int (0 : Int32)), (1, .int u1), (0, .ref 17)] [] m2 Q
  refine y_headS (l2 := [(0, .ref 17), (1, .int u1), (2, .int (0 : Int32))]) [2, 1, 0] [0, 1, 2] [2, 1, 0] rfl rfl (by decide) rfl (by decide) ?_
  exact H
set_option maxRecDepth 20000 in
/-- CodeMaker.Reader.declaration from 29 on -/
theorem w81_29 (xs : List Int32) (d : Nat) (l1 : Int32) (l2 : Int32) (m : yM) (Q : Option Value → yM → Prop) (H : (((8192 : Int32) ≤ l2 → yP (xg xs) (d + 1) 81 76 [(0, .ref 17), (1, .int l1)] [] m Q) ∧ (¬ (8192 : Int32) ≤ l2 → ((¬ (m.1 17 5) = (172 : Int32) → yP (xg xs) (d + 1) 81 76 [(0, .ref 17), (1, .int l1)] [] m Q) ∧ ((m.1 17 5) = (172 : Int32) → (yC (xg xs) d 76 [.ref 17] m (fun v1 m1 => v1 = none ∧ (x_in (m1.1 17 4) 8193 = true ∧ (yC (xg xs) d 82 [.ref 17, .int (64 : Int32), .int (6 : Int32), .int (m1.1 11 ((m1.1 17 4).toNatClampNeg))] m1 (fun v2 m2 => v2 = none ∧ yP (xg xs) (d + 1) 81 29 [(0, .ref 17), (1, .int l1), (2, .int (l2 + (1 : Int32)))] [] m2 Q)))))))))) : yP (xg xs) (d + 1) 81 29 [(0, .ref 17), (1, .int l1), (2, .int l2)] [] m Q := by
  refine y_st rfl rfl rfl rfl rfl (fun _ _ => rfl) ?_
  refine y_st rfl rfl rfl rfl rfl (fun _ _ => rfl) ?_
  show yP (xg xs) (d + 1) 81 33 [(0, .ref 17), (1, .int l1), (2, .int l2)] [.int (8192 : Int32), .int l2] m Q
  refine y_ige (t := 76) rfl rfl rfl (fun h => ?_) (fun h => ?_)
  · replace H := H.1 h; clear h
    show yP (xg xs) (d + 1) 81 76 [(0, .ref 17), (1, .int l1), (2, .int l2)] [] m Q
    refine y_headS (l2 := [(0, .ref 17), (1, .int l1)]) [0, 1] [0, 1] [0, 1, 2] rfl rfl (by decide) rfl (by decide) ?_
    exact H
  · replace H := H.2 h; clear h
    refine y_st rfl rfl rfl rfl rfl (fun _ _ => rfl) ?_
    refine y_gf rfl rfl rfl rfl rfl ?_
    refine y_st rfl rfl rfl rfl rfl (fun _ _ => rfl) ?_
    show yP (xg xs) (d + 1) 81 43 [(0, .ref 17), (1, .int l1), (2, .int l2)] [.int (172 : Int32), .int (m.1 17 5)] m Q
    refine y_ine (t := 76) rfl rfl rfl (fun h => ?_) (fun h => ?_)
    · replace H := H.1 h; clear h
      show yP (xg xs) (d + 1) 81 76 [(0, .ref 17), (1, .int l1), (2, .int l2)] [] m Q
      refine y_headS (l2 := [(0, .ref 17), (1, .int l1)]) [0, 1] [0, 1] [0, 1, 2] rfl rfl (by decide) rfl (by decide) ?_
      exact H
    · replace H := H.2 h; clear h
      refine y_st rfl rfl rfl rfl rfl (fun _ _ => rfl) ?_
      show yP (xg xs) (d + 1) 81 47 [(0, .ref 17), (1, .int l1), (2, .int l2)] [.ref 17] m Q
      refine y_call rfl rfl rfl rfl rfl (Nat.le_of_ble_eq_true rfl) (Nat.le_of_ble_eq_true rfl) rfl (by decide) H (fun v1 m1 H => ?_)
      obtain ⟨rfl, H⟩ := H
      refine y_st rfl rfl rfl rfl rfl (fun _ _ => rfl) ?_
      refine y_st rfl rfl rfl rfl rfl (fun _ _ => rfl) ?_
      refine y_st rfl rfl rfl rfl rfl (fun _ _ => rfl) ?_
      refine y_st rfl rfl rfl rfl rfl (fun _ _ => rfl) ?_
      refine y_gf rfl rfl rfl rfl rfl ?_
      refine y_gf rfl rfl rfl rfl rfl ?_
      refine y_st rfl rfl rfl rfl rfl (fun _ _ => rfl) ?_
      refine y_gf rfl rfl rfl rfl rfl ?_
      show yP (xg xs) (d + 1) 81 66 [(0, .ref 17), (1, .int l1), (2, .int l2)] [.int (m1.1 17 4), .ref 11, .int (6 : Int32), .int (64 : Int32), .ref 17] m1 Q
      refine y_iald rfl rfl rfl (H.1) ?_
      replace H := H.2
      show yP (xg xs) (d + 1) 81 67 [(0, .ref 17), (1, .int l1), (2, .int l2)] [.int (m1.1 11 ((m1.1 17 4).toNatClampNeg)), .int (6 : Int32), .int (64 : Int32), .ref 17] m1 Q
      refine y_call rfl rfl rfl rfl rfl (Nat.le_of_ble_eq_true rfl) (Nat.le_of_ble_eq_true rfl) rfl (by decide) H (fun v2 m2 H => ?_)
      obtain ⟨rfl, H⟩ := H
      refine y_st rfl rfl rfl rfl rfl (fun _ _ => rfl) ?_
      refine y_st rfl rfl rfl rfl rfl (fun _ _ => rfl) ?_
      show yP (xg xs) (d + 1) 81 29 [(2, .int (l2 + (1 : Int32))), (0, .ref 17), (1, .int l1)] [] m2 Q
      refine y_headS (l2 := [(0, .ref 17), (1, .int l1), (2, .int (l2 + (1 : Int32)))]) [1, 2, 0] [0, 1, 2] [2, 0, 1] rfl rfl (by decide) rfl (by decide) ?_
      exact H
set_option maxRecDepth 20000 in
/-- CodeMaker.Reader.declaration from 76 on -/
theorem w81_76 (xs : List Int32) (d : Nat) (l1 : Int32) (m : yM) (Q : Option Value → yM → Prop) (H : ((¬ (m.1 17 5) = (10 : Int32) → yP (xg xs) (d + 1) 81 109 [(0, .ref 17), (1, .int l1)] [] m Q) ∧ ((m.1 17 5) = (10 : Int32) → (yC (xg xs) d 76 [.ref 17] m (fun v1 m1 => v1 = none ∧ (x_in (m1.1 17 4) 8193 = true ∧ (yC (xg xs) d 82 [.ref 17, .int (66 : Int32), .int (7 : Int32), .int (m1.1 11 ((m1.1 17 4).toNatClampNeg))] m1 (fun v2 m2 => v2 = none ∧ yP (xg xs) (d + 1) 81 109 [(0, .ref 17), (1, .int l1)] [] m2 Q)))))))) : yP (xg xs) (d + 1) 81 76 [(0, .ref 17), (1, .int l1)] [] m Q := by
  refine y_st rfl rfl rfl rfl rfl (fun _ _ => rfl) ?_
  refine y_gf rfl rfl rfl rfl rfl ?_
  refine y_st rfl rfl rfl rfl rfl (fun _ _ => rfl) ?_
  show yP (xg xs) (d + 1) 81 82 [(0, .ref 17), (1, .int l1)] [.int (10 : Int32), .int (m.1 17 5)] m Q
  refine y_ine (t := 109) rfl rfl rfl (fun h => ?_) (fun h => ?_)
  · replace H := H.1 h; clear h
    show yP (xg xs) (d + 1) 81 109 [(0, .ref 17), (1, .int l1)] [] m Q
    exact H
  · replace H := H.2 h; clear h
    refine y_st rfl rfl rfl rfl rfl (fun _ _ => rfl) ?_
    show yP (xg xs) (d + 1) 81 86 [(0, .ref 17), (1, .int l1)] [.ref 17] m Q
    refine y_call rfl rfl rfl rfl rfl (Nat.le_of_ble_eq_true rfl) (Nat.le_of_ble_eq_true rfl) rfl (by decide) H (fun v1 m1 H => ?_)
    obtain ⟨rfl, H⟩ := H
    refine y_st rfl rfl rfl rfl rfl (fun _ _ => rfl) ?_
    refine y_st rfl rfl rfl rfl rfl (fun _ _ => rfl) ?_
    refine y_st rfl rfl rfl rfl rfl (fun _ _ => rfl) ?_
    refine y_st rfl rfl rfl rfl rfl (fun _ _ => rfl) ?_
    refine y_gf rfl rfl rfl rfl rfl ?_
    refine y_gf rfl rfl rfl rfl rfl ?_
    refine y_st rfl rfl rfl rfl rfl (fun _ _ => rfl) ?_
    refine y_gf rfl rfl rfl rfl rfl ?_
    show yP (xg xs) (d + 1) 81 105 [(0, .ref 17), (1, .int l1)] [.int (m1.1 17 4), .ref 11, .int (7 : Int32), .int (66 : Int32), .ref 17] m1 Q
    refine y_iald rfl rfl rfl (H.1) ?_
    replace H := H.2
    show yP (xg xs) (d + 1) 81 106 [(0, .ref 17), (1, .int l1)] [.int (m1.1 11 ((m1.1 17 4).toNatClampNeg)), .int (7 : Int32), .int (66 : Int32), .ref 17] m1 Q
    refine y_call rfl rfl rfl rfl rfl (Nat.le_of_ble_eq_true rfl) (Nat.le_of_ble_eq_true rfl) rfl (by decide) H (fun v2 m2 H => ?_)
    obtain ⟨rfl, H⟩ := H
    show yP (xg xs) (d + 1) 81 109 [(0, .ref 17), (1, .int l1)] [] m2 Q
    exact H
set_option maxRecDepth 20000 in
/-- CodeMaker.Reader.declaration from 109 on -/
theorem w81_109 (xs : List Int32) (d : Nat) (l1 : Int32) (m : yM) (Q : Option Value → yM → Prop) (H : (yC (xg xs) d 77 [.ref 17, .int (186 : Int32)] m (fun v1 m1 => v1 = none ∧ (yC (xg xs) d 83 [.ref 17] m1 (fun v2 m2 => v2 = none ∧ ((¬ (m2.1 17 5) = (70 : Int32) → yP (xg xs) (d + 1) 81 137 [(0, .ref 17), (1, .int l1)] [] m2 Q) ∧ ((m2.1 17 5) = (70 : Int32) → (yC (xg xs) d 76 [.ref 17] m2 (fun v3 m3 => v3 = none ∧ (yC (xg xs) d 84 [.ref 17] m3 (fun v4 m4 => v4 = none ∧ yP (xg xs) (d + 1) 81 137 [(0, .ref 17), (1, .int l1)] [] m4 Q))))))))))) : yP (xg xs) (d + 1) 81 109 [(0, .ref 17), (1, .int l1)] [] m Q := by
  refine y_st rfl rfl rfl rfl rfl (fun _ _ => rfl) ?_
  refine y_st rfl rfl rfl rfl rfl (fun _ _ => rfl) ?_
  show yP (xg xs) (d + 1) 81 113 [(0, .ref 17), (1, .int l1)] [.int (186 : Int32), .ref 17] m Q
  refine y_call rfl rfl rfl rfl rfl (Nat.le_of_ble_eq_true rfl) (Nat.le_of_ble_eq_true rfl) rfl (by decide) H (fun v1 m1 H => ?_)
  obtain ⟨rfl, H⟩ := H
  refine y_st rfl rfl rfl rfl rfl (fun _ _ => rfl) ?_
  show yP (xg xs) (d + 1) 81 117 [(0, .ref 17), (1, .int l1)] [.ref 17] m1 Q
  refine y_call rfl rfl rfl rfl rfl (Nat.le_of_ble_eq_true rfl) (Nat.le_of_ble_eq_true rfl) rfl (by decide) H (fun v2 m2 H => ?_)
  obtain ⟨rfl, H⟩ := H
  refine y_st rfl rfl rfl rfl rfl (fun _ _ => rfl) ?_
  refine y_gf rfl rfl rfl rfl rfl ?_
  refine y_st rfl rfl rfl rfl rfl (fun _ _ => rfl) ?_
  show yP (xg xs) (d + 1) 81 126 [(0, .ref 17), (1, .int l1)] [.int (70 : Int32), .int (m2.1 17 5)] m2 Q
  refine y_ine (t := 137) rfl rfl rfl (fun h => ?_) (fun h => ?_)
  · replace H := H.1 h; clear h
    show yP (xg xs) (d + 1) 81 137 [(0, .ref 17), (1, .int l1)] [] m2 Q
    exact H
  · replace H := H.2 h; clear h
    refine y_st rfl rfl rfl rfl rfl (fun _ _ => rfl) ?_
    show yP (xg xs) (d + 1) 81 130 [(0, .ref 17), (1, .int l1)] [.ref 17] m2 Q
    refine y_call rfl rfl rfl rfl rfl (Nat.le_of_ble_eq_true rfl) (Nat.le_of_ble_eq_true rfl) rfl (by decide) H (fun v3 m3 H => ?_)
    obtain ⟨rfl, H⟩ := H
    refine y_st rfl rfl rfl rfl rfl (fun _ _ => rfl) ?_
    show yP (xg xs) (d + 1) 81 134 [(0, .ref 17), (1, .int l1)] [.ref 17] m3 Q
    refine y_call rfl rfl rfl rfl rfl (Nat.le_of_ble_eq_true rfl) (Nat.le_of_ble_eq_true rfl) rfl (by decide) H (fun v4 m4 H => ?_)
    obtain ⟨rfl, H⟩ := H
    show yP (xg xs) (d + 1) 81 137 [(0, .ref 17), (1, .int l1)] [] m4 Q
    exact H
set_option maxRecDepth 20000 in
/-- CodeMaker.Reader.declaration from 137 on -/
theorem w81_137 (xs : List Int32) (d : Nat) (l1 : Int32) (m : yM) (Q : Option Value → yM → Prop) (H : (yC (xg xs) d 77 [.ref 17, .int (187 : Int32)] m (fun v1 m1 => v1 = none ∧ (yC (xg xs) d 85 [.ref 2, .int l1] m1 (fun v2 m2 => v2 = none ∧ Q none m2))))) : yP (xg xs) (d + 1) 81 137 [(0, .ref 17), (1, .int l1)] [] m Q := by
  refine y_st rfl rfl rfl rfl rfl (fun _ _ => rfl) ?_
  refine y_st rfl rfl rfl rfl rfl (fun _ _ => rfl) ?_
  show yP (xg xs) (d + 1) 81 141 [(0, .ref 17), (1, .int l1)] [.int (187 : Int32), .ref 17] m Q
  refine y_call rfl rfl rfl rfl rfl (Nat.le_of_ble_eq_true rfl) (Nat.le_of_ble_eq_true rfl) rfl (by decide) H (fun v1 m1 H => ?_)
  obtain ⟨rfl, H⟩ := H
  refine y_st rfl rfl rfl rfl rfl (fun _ _ => rfl) ?_
  refine y_gf rfl rfl rfl rfl rfl ?_
  refine y_st rfl rfl rfl rfl rfl (fun _ _ => rfl) ?_
  show yP (xg xs) (d + 1) 81 149 [(0, .ref 17), (1, .int l1)] [.int l1, .ref 2] m1 Q
  refine y_call rfl rfl rfl rfl rfl (Nat.le_of_ble_eq_true rfl) (Nat.le_of_ble_eq_true rfl) rfl (by decide) H (fun v2 m2 H => ?_)
  obtain ⟨rfl, H⟩ := H
  show yP (xg xs) (d + 1) 81 152 [(0, .ref 17), (1, .int l1)] [] m2 Q
  exact y_ret rfl rfl rfl rfl H
set_option maxRecDepth 20000 in
/-- CodeMaker.Reader.leaf from 0 on -/
theorem w82_0 (xs : List Int32) (d : Nat) (l1 : Int32) (l2 : Int32) (l3 : Int32) (m : yM) (Q : Option Value → yM → Prop) (H : ((¬ (m.1 17 5) = l1 → (yC (xg xs) d 78 [.ref 17, .int (6 : Int32)] m (fun v1 m1 => v1 = none ∧ Q none m1))) ∧ ((m.1 17 5) = l1 → (x_in (m.1 17 4) 8193 = true ∧ (yC (xg xs) d 72 [.ref 2, .int l2, .int (m.1 10 ((m.1 17 4).toNatClampNeg)), .int l3] m (fun v2 m2 => ∃ u2, v2 = some (Value.int u2) ∧ (yC (xg xs) d 76 [.ref 17] m2 (fun v3 m3 => v3 = none ∧ Q none m3)))))))) : yP (xg xs) (d + 1) 82 0 [(0, .ref 17), (1, .int l1), (2, .int l2), (3, .int l3)] [] m Q := by
  refine y_st rfl rfl rfl rfl rfl (fun _ _ => rfl) ?_
  refine y_gf rfl rfl rfl rfl rfl ?_
  refine y_st rfl rfl rfl rfl rfl (fun _ _ => rfl) ?_
  show yP (xg xs) (d + 1) 82 5 [(0, .ref 17), (1, .int l1), (2, .int l2), (3, .int l3)] [.int l1, .int (m.1 17 5)] m Q
  refine y_ine (t := 37) rfl rfl rfl (fun h => ?_) (fun h => ?_)
  · replace H := H.1 h; clear h
    refine y_st rfl rfl rfl rfl rfl (fun _ _ => rfl) ?_
    refine y_st rfl rfl rfl rfl rfl (fun _ _ => rfl) ?_
    show yP (xg xs) (d + 1) 82 40 [(0, .ref 17), (1, .int l1), (2, .int l2), (3, .int l3)] [.int (6 : Int32), .ref 17] m Q
    refine y_call rfl rfl rfl rfl rfl (Nat.le_of_ble_eq_true rfl) (Nat.le_of_ble_eq_true rfl) rfl (by decide) H (fun v1 m1 H => ?_)
    obtain ⟨rfl, H⟩ := H
    show yP (xg xs) (d + 1) 82 43 [(0, .ref 17), (1, .int l1), (2, .int l2), (3, .int l3)] [] m1 Q
    exact y_ret rfl rfl rfl rfl H
  · replace H := H.2 h; clear h
    refine y_st rfl rfl rfl rfl rfl (fun _ _ => rfl) ?_
    refine y_gf rfl rfl rfl rfl rfl ?_
    refine y_st rfl rfl rfl rfl rfl (fun _ _ => rfl) ?_
    refine y_st rfl rfl rfl rfl rfl (fun _ _ => rfl) ?_
    refine y_gf rfl rfl rfl rfl rfl ?_
    refine y_gf rfl rfl rfl rfl rfl ?_
    refine y_st rfl rfl rfl rfl rfl (fun _ _ => rfl) ?_
    refine y_gf rfl rfl rfl rfl rfl ?_
    show yP (xg xs) (d + 1) 82 24 [(0, .ref 17), (1, .int l1), (2, .int l2), (3, .int l3)] [.int (m.1 17 4), .ref 10, .int l2, .ref 2] m Q
    refine y_iald rfl rfl rfl (H.1) ?_
    replace H := H.2
    refine y_st rfl rfl rfl rfl rfl (fun _ _ => rfl) ?_
    show yP (xg xs) (d + 1) 82 26 [(0, .ref 17), (1, .int l1), (2, .int l2), (3, .int l3)] [.int l3, .int (m.1 10 ((m.1 17 4).toNatClampNeg)), .int l2, .ref 2] m Q
    refine y_call rfl rfl rfl rfl rfl (Nat.le_of_ble_eq_true rfl) (Nat.le_of_ble_eq_true rfl) rfl (by decide) H (fun v2 m2 H => ?_)
    obtain ⟨u2, rfl, H⟩ := H
    refine y_st rfl rfl rfl rfl rfl (fun _ _ => rfl) ?_
    refine y_st rfl rfl rfl rfl rfl (fun _ _ => rfl) ?_
    show yP (xg xs) (d + 1) 82 31 [(0, .ref 17), (1, .int l1), (2, .int l2), (3, .int l3)] [.ref 17] m2 Q
    refine y_call rfl rfl rfl rfl rfl (Nat.le_of_ble_eq_true rfl) (Nat.le_of_ble_eq_true rfl) rfl (by decide) H (fun v3 m3 H => ?_)
    obtain ⟨rfl, H⟩ := H
    refine y_st rfl rfl rfl rfl rfl (fun _ _ => rfl) ?_
    show yP (xg xs) (d + 1) 82 43 [(0, .ref 17), (1, .int l1), (2, .int l2), (3, .int l3)] [] m3 Q
    exact y_ret rfl rfl rfl rfl H
set_option maxRecDepth 20000 in
/-- CodeMaker.Reader.type from 0 on -/
theorem w83_0 (xs : List Int32) (d : Nat) (m : yM) (Q : Option Value → yM → Prop) (H : ((¬ (m.1 17 5) = (14 : Int32) → ((¬ (m.1 17 5) = (64 : Int32) → (yC (xg xs) d 79 [.ref 17] m (fun v1 m1 => v1 = none ∧ Q none m1))) ∧ ((m.1 17 5) = (64 : Int32) → (x_in (m.1 17 4) 8193 = true ∧ (yC (xg xs) d 82 [.ref 17, .int (64 : Int32), .int (10 : Int32), .int (m.1 11 ((m.1 17 4).toNatClampNeg))] m (fun v2 m2 => v2 = none ∧ Q none m2)))))) ∧ ((m.1 17 5) = (14 : Int32) → (yC (xg xs) d 75 [.ref 17, .int (9 : Int32), .int (0 : Int32)] m (fun v3 m3 => ∃ u3, v3 = some (Value.int u3) ∧ (yC (xg xs) d 76 [.ref 17] m3 (fun v4 m4 => v4 = none ∧ (yC (xg xs) d 77 [.ref 17, .int (219 : Int32)] m4 (fun v5 m5 => v5 = none ∧ (yC (xg xs) d 84 [.ref 17] m5 (fun v6 m6 => v6 = none ∧ (yC (xg xs) d 77 [.ref 17, .int (71 : Int32)] m6 (fun v7 m7 => v7 = none ∧ (yC (xg xs) d 84 [.ref 17] m7 (fun v8 m8 => v8 = none ∧ (yC (xg xs) d 77 [.ref 17, .int (221 : Int32)] m8 (fun v9 m9 => v9 = none ∧ (yC (xg xs) d 77 [.ref 17, .int (15 : Int32)] m9 (fun v10 m10 => v10 = none ∧ (yC (xg xs) d 79 [.ref 17] m10 (fun v11 m11 => v11 = none ∧ (yC (xg xs) d 85 [.ref 2, .int u3] m11 (fun v12 m12 => v12 = none ∧ Q none m12))))))))))))))))))))))) : yP (xg xs) (d + 1) 83 0 [(0, .ref 17)] [] m Q := by
  refine y_st rfl rfl rfl rfl rfl (fun _ _ => rfl) ?_
  refine y_gf rfl rfl rfl rfl rfl ?_
  refine y_st rfl rfl rfl rfl rfl (fun _ _ => rfl) ?_
  show yP (xg xs) (d + 1) 83 6 [(0, .ref 17)] [.int (14 : Int32), .int (m.1 17 5)] m Q
  refine y_ine (t := 70) rfl rfl rfl (fun h => ?_) (fun h => ?_)
  · replace H := H.1 h; clear h
    refine y_st rfl rfl rfl rfl rfl (fun _ _ => rfl) ?_
    refine y_gf rfl rfl rfl rfl rfl ?_
    refine y_st rfl rfl rfl rfl rfl (fun _ _ => rfl) ?_
    show yP (xg xs) (d + 1) 83 76 [(0, .ref 17)] [.int (64 : Int32), .int (m.1 17 5)] m Q
    refine y_ine (t := 102) rfl rfl rfl (fun h => ?_) (fun h => ?_)
    · replace H := H.1 h; clear h
      refine y_st rfl rfl rfl rfl rfl (fun _ _ => rfl) ?_
      show yP (xg xs) (d + 1) 83 103 [(0, .ref 17)] [.ref 17] m Q
      refine y_call rfl rfl rfl rfl rfl (Nat.le_of_ble_eq_true rfl) (Nat.le_of_ble_eq_true rfl) rfl (by decide) H (fun v1 m1 H => ?_)
      obtain ⟨rfl, H⟩ := H
      show yP (xg xs) (d + 1) 83 106 [(0, .ref 17)] [] m1 Q
      exact y_ret rfl rfl rfl rfl H
    · replace H := H.2 h; clear h
      refine y_st rfl rfl rfl rfl rfl (fun _ _ => rfl) ?_
      refine y_st rfl rfl rfl rfl rfl (fun _ _ => rfl) ?_
      refine y_st rfl rfl rfl rfl rfl (fun _ _ => rfl) ?_
      refine y_st rfl rfl rfl rfl rfl (fun _ _ => rfl) ?_
      refine y_gf rfl rfl rfl rfl rfl ?_
      refine y_gf rfl rfl rfl rfl rfl ?_
      refine y_st rfl rfl rfl rfl rfl (fun _ _ => rfl) ?_
      refine y_gf rfl rfl rfl rfl rfl ?_
      show yP (xg xs) (d + 1) 83 95 [(0, .ref 17)] [.int (m.1 17 4), .ref 11, .int (10 : Int32), .int (64 : Int32), .ref 17] m Q
      refine y_iald rfl rfl rfl (H.1) ?_
      replace H := H.2
      show yP (xg xs) (d + 1) 83 96 [(0, .ref 17)] [.int (m.1 11 ((m.1 17 4).toNatClampNeg)), .int (10 : Int32), .int (64 : Int32), .ref 17] m Q
      refine y_call rfl rfl rfl rfl rfl (Nat.le_of_ble_eq_true rfl) (Nat.le_of_ble_eq_true rfl) rfl (by decide) H (fun v2 m2 H => ?_)
      obtain ⟨rfl, H⟩ := H
      refine y_st rfl rfl rfl rfl rfl (fun _ _ => rfl) ?_
      show yP (xg xs) (d + 1) 83 106 [(0, .ref 17)] [] m2 Q
      exact y_ret rfl rfl rfl rfl H
  · replace H := H.2 h; clear h
    refine y_st rfl rfl rfl rfl rfl (fun _ _ => rfl) ?_
    refine y_st rfl rfl rfl rfl rfl (fun _ _ => rfl) ?_
    refine y_st rfl rfl rfl rfl rfl (fun _ _ => rfl) ?_
    show yP (xg xs) (d + 1) 83 13 [(0, .ref 17)] [.int (0 : Int32), .int (9 : Int32), .ref 17] m Q
    refine y_call rfl rfl rfl rfl rfl (Nat.le_of_ble_eq_true rfl) (Nat.le_of_ble_eq_true rfl) rfl (by decide) H (fun v3 m3 H => ?_)
    obtain ⟨u3, rfl, H⟩ := H
    refine y_st rfl rfl rfl rfl rfl (fun _ _ => rfl) ?_
    refine y_st rfl rfl rfl rfl rfl (fun _ _ => rfl) ?_
    show yP (xg xs) (d + 1) 83 18 [(1, .int u3), (0, .ref 17)] [.ref 17] m3 Q
    refine y_call rfl rfl rfl rfl rfl (Nat.le_of_ble_eq_true rfl) (Nat.le_of_ble_eq_true rfl) rfl (by decide) H (fun v4 m4 H => ?_)
    obtain ⟨rfl, H⟩ := H
    refine y_st rfl rfl rfl rfl rfl (fun _ _ => rfl) ?_
    refine y_st rfl rfl rfl rfl rfl (fun _ _ => rfl) ?_
    show yP (xg xs) (d + 1) 83 25 [(1, .int u3), (0, .ref 17)] [.int (219 : Int32), .ref 17] m4 Q
    refine y_call rfl rfl rfl rfl rfl (Nat.le_of_ble_eq_true rfl) (Nat.le_of_ble_eq_true rfl) rfl (by decide) H (fun v5 m5 H => ?_)
    obtain ⟨rfl, H⟩ := H
    refine y_st rfl rfl rfl rfl rfl (fun _ _ => rfl) ?_
    show yP (xg xs) (d + 1) 83 29 [(1, .int u3), (0, .ref 17)] [.ref 17] m5 Q
    refine y_call rfl rfl rfl rfl rfl (Nat.le_of_ble_eq_true rfl) (Nat.le_of_ble_eq_true rfl) rfl (by decide) H (fun v6 m6 H => ?_)
    obtain ⟨rfl, H⟩ := H
    refine y_st rfl rfl rfl rfl rfl (fun _ _ => rfl) ?_
    refine y_st rfl rfl rfl rfl rfl (fun _ _ => rfl) ?_
    show yP (xg xs) (d + 1) 83 35 [(1, .int u3), (0, .ref 17)] [.int (71 : Int32), .ref 17] m6 Q
    refine y_call rfl rfl rfl rfl rfl (Nat.le_of_ble_eq_true rfl) (Nat.le_of_ble_eq_true rfl) rfl (by decide) H (fun v7 m7 H => ?_)
    obtain ⟨rfl, H⟩ := H
    refine y_st rfl rfl rfl rfl rfl (fun _ _ => rfl) ?_
    show yP (xg xs) (d + 1) 83 39 [(1, .int u3), (0, .ref 17)] [.ref 17] m7 Q
    refine y_call rfl rfl rfl rfl rfl (Nat.le_of_ble_eq_true rfl) (Nat.le_of_ble_eq_true rfl) rfl (by decide) H (fun v8 m8 H => ?_)
    obtain ⟨rfl, H⟩ := H
    refine y_st rfl rfl rfl rfl rfl (fun _ _ => rfl) ?_
    refine y_st rfl rfl rfl rfl rfl (fun _ _ => rfl) ?_
    show yP (xg xs) (d + 1) 83 46 [(1, .int u3), (0, .ref 17)] [.int (221 : Int32), .ref 17] m8 Q
    refine y_call rfl rfl rfl rfl rfl (Nat.le_of_ble_eq_true rfl) (Nat.le_of_ble_eq_true rfl) rfl (by decide) H (fun v9 m9 H => ?_)
    obtain ⟨rfl, H⟩ := H
    refine y_st rfl rfl rfl rfl rfl (fun _ _ => rfl) ?_
    refine y_st rfl rfl rfl rfl rfl (fun _ _ => rfl) ?_
    show yP (xg xs) (d + 1) 83 52 [(1, .int u3), (0, .ref 17)] [.int (15 : Int32), .ref 17] m9 Q
    refine y_call rfl rfl rfl rfl rfl (Nat.le_of_ble_eq_true rfl) (Nat.le_of_ble_eq_true rfl) rfl (by decide) H (fun v10 m10 H => ?_)
    obtain ⟨rfl, H⟩ := H
    refine y_st rfl rfl rfl rfl rfl (fun _ _ => rfl) ?_
    show yP (xg xs) (d + 1) 83 56 [(1, .int u3), (0, .ref 17)] [.ref 17] m10 Q
    refine y_call rfl rfl rfl rfl rfl (Nat.le_of_ble_eq_true rfl) (Nat.le_of_ble_eq_true rfl) rfl (by decide) H (fun v11 m11 H => ?_)
    obtain ⟨rfl, H⟩ := H
    refine y_st rfl rfl rfl rfl rfl (fun _ _ => rfl) ?_
    refine y_gf rfl rfl rfl rfl rfl ?_
    refine y_st rfl rfl rfl rfl rfl (fun _ _ => rfl) ?_
    show yP (xg xs) (d + 1) 83 64 [(1, .int u3), (0, .ref 17)] [.int u3, .ref 2] m11 Q
    refine y_call rfl rfl rfl rfl rfl (Nat.le_of_ble_eq_true rfl) (Nat.le_of_ble_eq_true rfl) rfl (by decide) H (fun v12 m12 H => ?_)
    obtain ⟨rfl, H⟩ := H
    refine y_st rfl rfl rfl rfl rfl (fun _ _ => rfl) ?_
    show yP (xg xs) (d + 1) 83 106 [(1, .int u3), (0, .ref 17)] [] m12 Q
    exact y_ret rfl rfl rfl rfl H
set_option maxRecDepth 20000 in
/-- CodeMaker.Reader.constant from 0 on -/
theorem w84_0 (xs : List Int32) (d : Nat) (m : yM) (Q : Option Value → yM → Prop) (H : ((¬ (m.1 17 5) = (173 : Int32) → yP (xg xs) (d + 1) 84 15 [(0, .ref 17)] [.int (1 : Int32)] m Q) ∧ ((m.1 17 5) = (173 : Int32) → yP (xg xs) (d + 1) 84 15 [(0, .ref 17)] [.int ((-1) : Int32)] m Q))) : yP (xg xs) (d + 1) 84 0 [(0, .ref 17)] [] m Q := by
  refine y_st rfl rfl rfl rfl rfl (fun _ _ => rfl) ?_
  refine y_gf rfl rfl rfl rfl rfl ?_
  refine y_st rfl rfl rfl rfl rfl (fun _ _ => rfl) ?_
  show yP (xg xs) (d + 1) 84 7 [(0, .ref 17)] [.int (173 : Int32), .int (m.1 17 5)] m Q
  refine y_ine (t := 14) rfl rfl rfl (fun h => ?_) (fun h => ?_)
  · replace H := H.1 h; clear h
    refine y_st rfl rfl rfl rfl rfl (fun _ _ => rfl) ?_
    show yP (xg xs) (d + 1) 84 15 [(0, .ref 17)] [.int (1 : Int32)] m Q
    exact H
  · replace H := H.2 h; clear h
    refine y_st rfl rfl rfl rfl rfl (fun _ _ => rfl) ?_
    refine y_st rfl rfl rfl rfl rfl (fun _ _ => rfl) ?_
    show yP (xg xs) (d + 1) 84 15 [(0, .ref 17)] [.int ((-1) : Int32)] m Q
    exact H
set_option maxRecDepth 20000 in
/-- CodeMaker.Reader.constant from 15 on -/
theorem w84_15 (xs : List Int32) (d : Nat) (s0 : Int32) (m : yM) (Q : Option Value → yM → Prop) (H : ((0 ≤ s0 → yP (xg xs) (d + 1) 84 29 [(0, .ref 17), (1, .int s0), (2, .int (m.1 17 4))] [] m Q) ∧ (¬ 0 ≤ s0 → (yC (xg xs) d 76 [.ref 17] m (fun v1 m1 => v1 = none ∧ yP (xg xs) (d + 1) 84 29 [(0, .ref 17), (1, .int s0), (2, .int (m.1 17 4))] [] m1 Q))))) : yP (xg xs) (d + 1) 84 15 [(0, .ref 17)] [.int s0] m Q := by
  refine y_st rfl rfl rfl rfl rfl (fun _ _ => rfl) ?_
  refine y_st rfl rfl rfl rfl rfl (fun _ _ => rfl) ?_
  refine y_gf rfl rfl rfl rfl rfl ?_
  refine y_st rfl rfl rfl rfl rfl (fun _ _ => rfl) ?_
  refine y_st rfl rfl rfl rfl rfl (fun _ _ => rfl) ?_
  show yP (xg xs) (d + 1) 84 22 [(2, .int (m.1 17 4)), (1, .int s0), (0, .ref 17)] [.int s0] m Q
  refine y_zge (t := 29) rfl rfl rfl (fun h => ?_) (fun h => ?_)
  · replace H := H.1 h; clear h
    show yP (xg xs) (d + 1) 84 29 [(2, .int (m.1 17 4)), (1, .int s0), (0, .ref 17)] [] m Q
    refine y_headS (l2 := [(0, .ref 17), (1, .int s0), (2, .int (m.1 17 4))]) [2, 1, 0] [0, 1, 2] [2, 1, 0] rfl rfl (by decide) rfl (by decide) ?_
    exact H
  · replace H := H.2 h; clear h
    refine y_st rfl rfl rfl rfl rfl (fun _ _ => rfl) ?_
    show yP (xg xs) (d + 1) 84 26 [(2, .int (m.1 17 4)), (1, .int s0), (0, .ref 17)] [.ref 17] m Q
    refine y_call rfl rfl rfl rfl rfl (Nat.le_of_ble_eq_true rfl) (Nat.le_of_ble_eq_true rfl) rfl (by decide) H (fun v1 m1 H => ?_)
    obtain ⟨rfl, H⟩ := H
    show yP (xg xs) (d + 1) 84 29 [(2, .int (m.1 17 4)), (1, .int s0), (0, .ref 17)] [] m1 Q
    refine y_headS (l2 := [(0, .ref 17), (1, .int s0), (2, .int (m.1 17 4))]) [2, 1, 0] [0, 1, 2] [2, 1, 0] rfl rfl (by decide) rfl (by decide) ?_
    exact H
set_option maxRecDepth 20000 in
/-- CodeMaker.Reader.constant from 29 on -/
theorem w84_29 (xs : List Int32) (d : Nat) (l1 : Int32) (l2 : Int32) (m : yM) (Q : Option Value → yM → Prop) (H : ((¬ (m.1 17 5) = (65 : Int32) → ((l1 ≤ 0 → yP (xg xs) (d + 1) 84 143 [(0, .ref 17)] [] m Q) ∧ (¬ l1 ≤ 0 → (((m.1 17 5) = (35 : Int32) → yP (xg xs) (d + 1) 84 100 [(0, .ref 17)] [] m Q) ∧ (¬ (m.1 17 5) = (35 : Int32) → ((¬ (m.1 17 5) = (36 : Int32) → yP (xg xs) (d + 1) 84 143 [(0, .ref 17)] [] m Q) ∧ ((m.1 17 5) = (36 : Int32) → yP (xg xs) (d + 1) 84 100 [(0, .ref 17)] [] m Q))))))) ∧ ((m.1 17 5) = (65 : Int32) → (x_in l2 8193 = true ∧ (x_in (m.1 17 4) 8193 = true ∧ (yC (xg xs) d 72 [.ref 2, .int (30 : Int32), .int (m.1 10 l2.toNatClampNeg), .int (l1 * (m.1 11 ((m.1 17 4).toNatClampNeg)))] m (fun v1 m1 => ∃ u1, v1 = some (Value.int u1) ∧ (yC (xg xs) d 76 [.ref 17] m1 (fun v2 m2 => v2 = none ∧ Q none m2))))))))) : yP (xg xs) (d + 1) 84 29 [(0, .ref 17), (1, .int l1), (2, .int l2)] [] m Q := by
  refine y_st rfl rfl rfl rfl rfl (fun _ _ => rfl) ?_
  refine y_gf rfl rfl rfl rfl rfl ?_
  refine y_st rfl rfl rfl rfl rfl (fun _ _ => rfl) ?_
  show yP (xg xs) (d + 1) 84 35 [(0, .ref 17), (1, .int l1), (2, .int l2)] [.int (65 : Int32), .int (m.1 17 5)] m Q
  refine y_ine (t := 78) rfl rfl rfl (fun h => ?_) (fun h => ?_)
  · replace H := H.1 h; clear h
    refine y_st rfl rfl rfl rfl rfl (fun _ _ => rfl) ?_
    show yP (xg xs) (d + 1) 84 79 [(0, .ref 17), (1, .int l1), (2, .int l2)] [.int l1] m Q
    refine y_zle (t := 143) rfl rfl rfl (fun h => ?_) (fun h => ?_)
    · replace H := H.1 h; clear h
      show yP (xg xs) (d + 1) 84 143 [(0, .ref 17), (1, .int l1), (2, .int l2)] [] m Q
      refine y_headS (l2 := [(0, .ref 17)]) [0] [0] [0, 1, 2] rfl rfl (by decide) rfl (by decide) ?_
      exact H
    · replace H := H.2 h; clear h
      refine y_st rfl rfl rfl rfl rfl (fun _ _ => rfl) ?_
      refine y_gf rfl rfl rfl rfl rfl ?_
      refine y_st rfl rfl rfl rfl rfl (fun _ _ => rfl) ?_
      show yP (xg xs) (d + 1) 84 88 [(0, .ref 17), (1, .int l1), (2, .int l2)] [.int (35 : Int32), .int (m.1 17 5)] m Q
      refine y_ieq (t := 100) rfl rfl rfl (fun h => ?_) (fun h => ?_)
      · replace H := H.1 h; clear h
        show yP (xg xs) (d + 1) 84 100 [(0, .ref 17), (1, .int l1), (2, .int l2)] [] m Q
        refine y_headS (l2 := [(0, .ref 17)]) [0] [0] [0, 1, 2] rfl rfl (by decide) rfl (by decide) ?_
        exact H
      · replace H := H.2 h; clear h
        refine y_st rfl rfl rfl rfl rfl (fun _ _ => rfl) ?_
        refine y_gf rfl rfl rfl rfl rfl ?_
        refine y_st rfl rfl rfl rfl rfl (fun _ _ => rfl) ?_
        show yP (xg xs) (d + 1) 84 97 [(0, .ref 17), (1, .int l1), (2, .int l2)] [.int (36 : Int32), .int (m.1 17 5)] m Q
        refine y_ine (t := 143) rfl rfl rfl (fun h => ?_) (fun h => ?_)
        · replace H := H.1 h; clear h
          show yP (xg xs) (d + 1) 84 143 [(0, .ref 17), (1, .int l1), (2, .int l2)] [] m Q
          refine y_headS (l2 := [(0, .ref 17)]) [0] [0] [0, 1, 2] rfl rfl (by decide) rfl (by decide) ?_
          exact H
        · replace H := H.2 h; clear h
          show yP (xg xs) (d + 1) 84 100 [(0, .ref 17), (1, .int l1), (2, .int l2)] [] m Q
          refine y_headS (l2 := [(0, .ref 17)]) [0] [0] [0, 1, 2] rfl rfl (by decide) rfl (by decide) ?_
          exact H
  · replace H := H.2 h; clear h
    refine y_st rfl rfl rfl rfl rfl (fun _ _ => rfl) ?_
    refine y_gf rfl rfl rfl rfl rfl ?_
    refine y_st rfl rfl rfl rfl rfl (fun _ _ => rfl) ?_
    refine y_st rfl rfl rfl rfl rfl (fun _ _ => rfl) ?_
    refine y_gf rfl rfl rfl rfl rfl ?_
    refine y_gf rfl rfl rfl rfl rfl ?_
    refine y_st rfl rfl rfl rfl rfl (fun _ _ => rfl) ?_
    show yP (xg xs) (d + 1) 84 52 [(0, .ref 17), (1, .int l1), (2, .int l2)] [.int l2, .ref 10, .int (30 : Int32), .ref 2] m Q
    refine y_iald rfl rfl rfl (H.1) ?_
    replace H := H.2
    refine y_st rfl rfl rfl rfl rfl (fun _ _ => rfl) ?_
    refine y_st rfl rfl rfl rfl rfl (fun _ _ => rfl) ?_
    refine y_gf rfl rfl rfl rfl rfl ?_
    refine y_gf rfl rfl rfl rfl rfl ?_
    refine y_st rfl rfl rfl rfl rfl (fun _ _ => rfl) ?_
    refine y_gf rfl rfl rfl rfl rfl ?_
    show yP (xg xs) (d + 1) 84 65 [(0, .ref 17), (1, .int l1), (2, .int l2)] [.int (m.1 17 4), .ref 11, .int l1, .int (m.1 10 l2.toNatClampNeg), .int (30 : Int32), .ref 2] m Q
    refine y_iald rfl rfl rfl (H.1) ?_
    replace H := H.2
    refine y_st rfl rfl rfl rfl rfl (fun _ _ => rfl) ?_
    show yP (xg xs) (d + 1) 84 67 [(0, .ref 17), (1, .int l1), (2, .int l2)] [.int (l1 * (m.1 11 ((m.1 17 4).toNatClampNeg))), .int (m.1 10 l2.toNatClampNeg), .int (30 : Int32), .ref 2] m Q
    refine y_call rfl rfl rfl rfl rfl (Nat.le_of_ble_eq_true rfl) (Nat.le_of_ble_eq_true rfl) rfl (by decide) H (fun v1 m1 H => ?_)
    obtain ⟨u1, rfl, H⟩ := H
    refine y_st rfl rfl rfl rfl rfl (fun _ _ => rfl) ?_
    refine y_st rfl rfl rfl rfl rfl (fun _ _ => rfl) ?_
    show yP (xg xs) (d + 1) 84 72 [(0, .ref 17), (1, .int l1), (2, .int l2)] [.ref 17] m1 Q
    refine y_call rfl rfl rfl rfl rfl (Nat.le_of_ble_eq_true rfl) (Nat.le_of_ble_eq_true rfl) rfl (by decide) H (fun v2 m2 H => ?_)
    obtain ⟨rfl, H⟩ := H
    refine y_st rfl rfl rfl rfl rfl (fun _ _ => rfl) ?_
    show yP (xg xs) (d + 1) 84 149 [(0, .ref 17), (1, .int l1), (2, .int l2)] [] m2 Q
    exact y_ret rfl rfl rfl rfl H
set_option maxRecDepth 20000 in
/-- CodeMaker.Reader.constant from 100 on -/
theorem w84_100 (xs : List Int32) (d : Nat) (m : yM) (Q : Option Value → yM → Prop) (H : (x_in (m.1 17 4) 8193 = true ∧ ((¬ (m.1 17 5) = (35 : Int32) → yP (xg xs) (d + 1) 84 132 [(0, .ref 17)] [.int (0 : Int32), .int (m.1 10 ((m.1 17 4).toNatClampNeg)), .int (31 : Int32), .ref 2] m Q) ∧ ((m.1 17 5) = (35 : Int32) → yP (xg xs) (d + 1) 84 132 [(0, .ref 17)] [.int (1 : Int32), .int (m.1 10 ((m.1 17 4).toNatClampNeg)), .int (31 : Int32), .ref 2] m Q)))) : yP (xg xs) (d + 1) 84 100 [(0, .ref 17)] [] m Q := by
  refine y_st rfl rfl rfl rfl rfl (fun _ _ => rfl) ?_
  refine y_gf rfl rfl rfl rfl rfl ?_
  refine y_st rfl rfl rfl rfl rfl (fun _ _ => rfl) ?_
  refine y_st rfl rfl rfl rfl rfl (fun _ _ => rfl) ?_
  refine y_gf rfl rfl rfl rfl rfl ?_
  refine y_gf rfl rfl rfl rfl rfl ?_
  refine y_st rfl rfl rfl rfl rfl (fun _ _ => rfl) ?_
  refine y_gf rfl rfl rfl rfl rfl ?_
  show yP (xg xs) (d + 1) 84 117 [(0, .ref 17)] [.int (m.1 17 4), .ref 10, .int (31 : Int32), .ref 2] m Q
  refine y_iald rfl rfl rfl (H.1) ?_
  replace H := H.2
  refine y_st rfl rfl rfl rfl rfl (fun _ _ => rfl) ?_
  refine y_gf rfl rfl rfl rfl rfl ?_
  refine y_st rfl rfl rfl rfl rfl (fun _ _ => rfl) ?_
  show yP (xg xs) (d + 1) 84 124 [(0, .ref 17)] [.int (35 : Int32), .int (m.1 17 5), .int (m.1 10 ((m.1 17 4).toNatClampNeg)), .int (31 : Int32), .ref 2] m Q
  refine y_ine (t := 131) rfl rfl rfl (fun h => ?_) (fun h => ?_)
  · replace H := H.1 h; clear h
    refine y_st rfl rfl rfl rfl rfl (fun _ _ => rfl) ?_
    show yP (xg xs) (d + 1) 84 132 [(0, .ref 17)] [.int (0 : Int32), .int (m.1 10 ((m.1 17 4).toNatClampNeg)), .int (31 : Int32), .ref 2] m Q
    exact H
  · replace H := H.2 h; clear h
    refine y_st rfl rfl rfl rfl rfl (fun _ _ => rfl) ?_
    refine y_st rfl rfl rfl rfl rfl (fun _ _ => rfl) ?_
    show yP (xg xs) (d + 1) 84 132 [(0, .ref 17)] [.int (1 : Int32), .int (m.1 10 ((m.1 17 4).toNatClampNeg)), .int (31 : Int32), .ref 2] m Q
    exact H
set_option maxRecDepth 20000 in
/-- CodeMaker.Reader.constant from 132 on -/
theorem w84_132 (xs : List Int32) (d : Nat) (s1 : Int32) (s2 : Int32) (s3 : Int32) (m : yM) (Q : Option Value → yM → Prop) (H : (yC (xg xs) d 72 [.ref 2, .int s1, .int s2, .int s3] m (fun v1 m1 => ∃ u1, v1 = some (Value.int u1) ∧ (yC (xg xs) d 76 [.ref 17] m1 (fun v2 m2 => v2 = none ∧ Q none m2))))) : yP (xg xs) (d + 1) 84 132 [(0, .ref 17)] [.int s3, .int s2, .int s1, .ref 2] m Q := by
  show yP (xg xs) (d + 1) 84 132 [(0, .ref 17)] [.int s3, .int s2, .int s1, .ref 2] m Q
  refine y_call rfl rfl rfl rfl rfl (Nat.le_of_ble_eq_true rfl) (Nat.le_of_ble_eq_true rfl) rfl (by decide) H (fun v1 m1 H => ?_)
  obtain ⟨u1, rfl, H⟩ := H
  refine y_st rfl rfl rfl rfl rfl (fun _ _ => rfl) ?_
  refine y_st rfl rfl rfl rfl rfl (fun _ _ => rfl) ?_
  show yP (xg xs) (d + 1) 84 137 [(0, .ref 17)] [.ref 17] m1 Q
  refine y_call rfl rfl rfl rfl rfl (Nat.le_of_ble_eq_true rfl) (Nat.le_of_ble_eq_true rfl) rfl (by decide) H (fun v2 m2 H => ?_)
  obtain ⟨rfl, H⟩ := H
  refine y_st rfl rfl rfl rfl rfl (fun _ _ => rfl) ?_
  show yP (xg xs) (d + 1) 84 149 [(0, .ref 17)] [] m2 Q
  exact y_ret rfl rfl rfl rfl H
set_option maxRecDepth 20000 in
/-- CodeMaker.Reader.constant from 143 on -/
theorem w84_143 (xs : List Int32) (d : Nat) (m : yM) (Q : Option Value → yM → Prop) (H : (yC (xg xs) d 78 [.ref 17, .int (6 : Int32)] m (fun v1 m1 => v1 = none ∧ Q none m1))) : yP (xg xs) (d + 1) 84 143 [(0, .ref 17)] [] m Q := by
  refine y_st rfl rfl rfl rfl rfl (fun _ _ => rfl) ?_
  refine y_st rfl rfl rfl rfl rfl (fun _ _ => rfl) ?_
  show yP (xg xs) (d + 1) 84 146 [(0, .ref 17)] [.int (6 : Int32), .ref 17] m Q
  refine y_call rfl rfl rfl rfl rfl (Nat.le_of_ble_eq_true rfl) (Nat.le_of_ble_eq_true rfl) rfl (by decide) H (fun v1 m1 H => ?_)
  obtain ⟨rfl, H⟩ := H
  show yP (xg xs) (d + 1) 84 149 [(0, .ref 17)] [] m1 Q
  exact y_ret rfl rfl rfl rfl H
set_option maxRecDepth 20000 in
/-- CodeMaker.Tree.finish from 0 on -/
theorem w85_0 (xs : List Int32) (d : Nat) (l1 : Int32) (m : yM) (Q : Option Value → yM → Prop) (H : (x_in l1 16401 = true ∧ Q none (y_si m 7 l1.toNatClampNeg (m.1 2 5)))) : yP (xg xs) (d + 1) 85 0 [(0, .ref 2), (1, .int l1)] [] m Q := by
  refine y_st rfl rfl rfl rfl rfl (fun _ _ => rfl) ?_
  refine y_gf rfl rfl rfl rfl rfl ?_
  refine y_st rfl rfl rfl rfl rfl (fun _ _ => rfl) ?_
  refine y_st rfl rfl rfl rfl rfl (fun _ _ => rfl) ?_
  refine y_gf rfl rfl rfl rfl rfl ?_
  show yP (xg xs) (d + 1) 85 9 [(0, .ref 2), (1, .int l1)] [.int (m.1 2 5), .int l1, .ref 7] m Q
  refine y_iast rfl rfl rfl (H.1) ?_
  replace H := H.2
  show yP (xg xs) (d + 1) 85 10 [(0, .ref 2), (1, .int l1)] [] (y_si m 7 l1.toNatClampNeg (m.1 2 5)) Q
  exact y_ret rfl rfl rfl rfl H
set_option maxRecDepth 20000 in
/-- CodeMaker.Reader.ladder from 0 on -/
theorem w86_0 (xs : List Int32) (d : Nat) (m : yM) (Q : Option Value → yM → Prop) (H : (yC (xg xs) d 75 [.ref 17, .int (22 : Int32), .int (0 : Int32)] m (fun v1 m1 => ∃ u1, v1 = some (Value.int u1) ∧ (yC (xg xs) d 76 [.ref 17] m1 (fun v2 m2 => v2 = none ∧ yP (xg xs) (d + 1) 86 14 [(0, .ref 17), (1, .int u1), (2, .int (0 : Int32))] [] m2 Q))))) : yP (xg xs) (d + 1) 86 0 [(0, .ref 17)] [] m Q := by
  refine y_st rfl rfl rfl rfl rfl (fun _ _ => rfl) ?_
  refine y_st rfl rfl rfl rfl rfl (fun _ _ => rfl) ?_
  refine y_st rfl rfl rfl rfl rfl (fun _ _ => rfl) ?_
  show yP (xg xs) (d + 1) 86 4 [(0, .ref 17)] [.int (0 : Int32), .int (22 : Int32), .ref 17] m Q
  refine y_call rfl rfl rfl rfl rfl (Nat.le_of_ble_eq_true rfl) (Nat.le_of_ble_eq_true rfl) rfl (by decide) H (fun v1 m1 H => ?_)
  obtain ⟨u1, rfl, H⟩ := H
  refine y_st rfl rfl rfl rfl rfl (fun _ _ => rfl) ?_
  refine y_st rfl rfl rfl rfl rfl (fun _ _ => rfl) ?_
  show yP (xg xs) (d + 1) 86 9 [(1, .int u1), (0, .ref 17)] [.ref 17] m1 Q
  refine y_call rfl rfl rfl rfl rfl (Nat.le_of_ble_eq_true rfl) (Nat.le_of_ble_eq_true rfl) rfl (by decide) H (fun v2 m2 H => ?_)
  obtain ⟨rfl, H⟩ := H
  refine y_st rfl rfl rfl rfl rfl (fun _ _ => rfl) ?_
  refine y_st rfl rfl rfl rfl rfl (fun _ _ => rfl) ?_
  show yP (xg xs) (d + 1) 86 14 [(2, .int (0 : Int32)), (1, .int u1), (0, .ref 17)] [] m2 Q
  refine y_headS (l2 := [(0, .ref 17), (1, .int u1), (2, .int (0 : Int32))]) [2, 1, 0] [0, 1, 2] [2, 1, 0] rfl rfl (by decide) rfl (by decide) ?_
  exact H
set_option maxRecDepth 20000 in
/-- CodeMaker.Reader.ladder from 14 on -/
theorem w86_14 (xs : List Int32) (d : Nat) (l1 : Int32) (l2 : Int32) (m : yM) (Q : Option Value → yM → Prop) (H : (((8192 : Int32) ≤ l2 → yP (xg xs) (d + 1) 86 94 [(0, .ref 17), (1, .int l1)] [] m Q) ∧ (¬ (8192 : Int32) ≤ l2 → ((¬ (m.1 17 5) = (39 : Int32) → yP (xg xs) (d + 1) 86 94 [(0, .ref 17), (1, .int l1)] [] m Q) ∧ ((m.1 17 5) = (39 : Int32) → (yC (xg xs) d 75 [.ref 17, .int (23 : Int32), .int (0 : Int32)] m (fun v1 m1 => ∃ u1, v1 = some (Value.int u1) ∧ (yC (xg xs) d 76 [.ref 17] m1 (fun v2 m2 => v2 = none ∧ (yC (xg xs) d 87 [.ref 17] m2 (fun v3 m3 => v3 = none ∧ yP (xg xs) (d + 1) 86 49 [(0, .ref 17), (1, .int l1), (2, .int l2), (3, .int u1), (4, .int (0 : Int32))] [] m3 Q))))))))))) : yP (xg xs) (d + 1) 86 14 [(0, .ref 17), (1, .int l1), (2, .int l2)] [] m Q := by
  refine y_st rfl rfl rfl rfl rfl (fun _ _ => rfl) ?_
  refine y_st rfl rfl rfl rfl rfl (fun _ _ => rfl) ?_
  show yP (xg xs) (d + 1) 86 18 [(0, .ref 17), (1, .int l1), (2, .int l2)] [.int (8192 : Int32), .int l2] m Q
  refine y_ige (t := 94) rfl rfl rfl (fun h => ?_) (fun h => ?_)
  · replace H := H.1 h; clear h
    show yP (xg xs) (d + 1) 86 94 [(0, .ref 17), (1, .int l1), (2, .int l2)] [] m Q
    refine y_headS (l2 := [(0, .ref 17), (1, .int l1)]) [0, 1] [0, 1] [0, 1, 2] rfl rfl (by decide) rfl (by decide) ?_
    exact H
  · replace H := H.2 h; clear h
    refine y_st rfl rfl rfl rfl rfl (fun _ _ => rfl) ?_
    refine y_gf rfl rfl rfl rfl rfl ?_
    refine y_st rfl rfl rfl rfl rfl (fun _ _ => rfl) ?_
    show yP (xg xs) (d + 1) 86 27 [(0, .ref 17), (1, .int l1), (2, .int l2)] [.int (39 : Int32), .int (m.1 17 5)] m Q
    refine y_ine (t := 94) rfl rfl rfl (fun h => ?_) (fun h => ?_)
    · replace H := H.1 h; clear h
      show yP (xg xs) (d + 1) 86 94 [(0, .ref 17), (1, .int l1), (2, .int l2)] [] m Q
      refine y_headS (l2 := [(0, .ref 17), (1, .int l1)]) [0, 1] [0, 1] [0, 1, 2] rfl rfl (by decide) rfl (by decide) ?_
      exact H
    · replace H := H.2 h; clear h
      refine y_st rfl rfl rfl rfl rfl (fun _ _ => rfl) ?_
      refine y_st rfl rfl rfl rfl rfl (fun _ _ => rfl) ?_
      refine y_st rfl rfl rfl rfl rfl (fun _ _ => rfl) ?_
      show yP (xg xs) (d + 1) 86 34 [(0, .ref 17), (1, .int l1), (2, .int l2)] [.int (0 : Int32), .int (23 : Int32), .ref 17] m Q
      refine y_call rfl rfl rfl rfl rfl (Nat.le_of_ble_eq_true rfl) (Nat.le_of_ble_eq_true rfl) rfl (by decide) H (fun v1 m1 H => ?_)
      obtain ⟨u1, rfl, H⟩ := H
      refine y_st rfl rfl rfl rfl rfl (fun _ _ => rfl) ?_
      refine y_st rfl rfl rfl rfl rfl (fun _ _ => rfl) ?_
      show yP (xg xs) (d + 1) 86 39 [(3, .int u1), (0, .ref 17), (1, .int l1), (2, .int l2)] [.ref 17] m1 Q
      refine y_call rfl rfl rfl rfl rfl (Nat.le_of_ble_eq_true rfl) (Nat.le_of_ble_eq_true rfl) rfl (by decide) H (fun v2 m2 H => ?_)
      obtain ⟨rfl, H⟩ := H
      refine y_st rfl rfl rfl rfl rfl (fun _ _ => rfl) ?_
      show yP (xg xs) (d + 1) 86 43 [(3, .int u1), (0, .ref 17), (1, .int l1), (2, .int l2)] [.ref 17] m2 Q
      refine y_call rfl rfl rfl rfl rfl (Nat.le_of_ble_eq_true rfl) (Nat.le_of_ble_eq_true rfl) rfl (by decide) H (fun v3 m3 H => ?_)
      obtain ⟨rfl, H⟩ := H
      refine y_st rfl rfl rfl rfl rfl (fun _ _ => rfl) ?_
      refine y_st rfl rfl rfl rfl rfl (fun _ _ => rfl) ?_
      show yP (xg xs) (d + 1) 86 49 [(4, .int (0 : Int32)), (3, .int u1), (0, .ref 17), (1, .int l1), (2, .int l2)] [] m3 Q
      refine y_headS (l2 := [(0, .ref 17), (1, .int l1), (2, .int l2), (3, .int u1), (4, .int (0 : Int32))]) [2, 3, 4, 1, 0] [0, 1, 2, 3, 4] [4, 3, 0, 1, 2] rfl rfl (by decide) rfl (by decide) ?_
      exact H
set_option maxRecDepth 20000 in
/-- CodeMaker.Reader.ladder from 49 on -/
theorem w86_49 (xs : List Int32) (d : Nat) (l1 : Int32) (l2 : Int32) (l3 : Int32) (l4 : Int32) (m : yM) (Q : Option Value → yM → Prop) (H : (((8192 : Int32) ≤ l4 → yP (xg xs) (d + 1) 86 74 [(0, .ref 17), (1, .int l1), (2, .int l2), (3, .int l3)] [] m Q) ∧ (¬ (8192 : Int32) ≤ l4 → (yC (xg xs) d 92 [.ref 17] m (fun v1 m1 => ∃ u1, v1 = some (Value.int u1) ∧ ((u1 = 0 → yP (xg xs) (d + 1) 86 74 [(0, .ref 17), (1, .int l1), (2, .int l2), (3, .int l3)] [] m1 Q) ∧ (¬ u1 = 0 → (yC (xg xs) d 87 [.ref 17] m1 (fun v2 m2 => v2 = none ∧ yP (xg xs) (d + 1) 86 49 [(0, .ref 17), (1, .int l1), (2, .int l2), (3, .int l3), (4, .int (l4 + (1 : Int32)))] [] m2 Q))))))))) : yP (xg xs) (d + 1) 86 49 [(0, .ref 17), (1, .int l1), (2, .int l2), (3, .int l3), (4, .int l4)] [] m Q := by
  refine y_st rfl rfl rfl rfl rfl (fun _ _ => rfl) ?_
  refine y_st rfl rfl rfl rfl rfl (fun _ _ => rfl) ?_
  show yP (xg xs) (d + 1) 86 54 [(0, .ref 17), (1, .int l1), (2, .int l2), (3, .int l3), (4, .int l4)] [.int (8192 : Int32), .int l4] m Q
  refine y_ige (t := 74) rfl rfl rfl (fun h => ?_) (fun h => ?_)
  · replace H := H.1 h; clear h
    show yP (xg xs) (d + 1) 86 74 [(0, .ref 17), (1, .int l1), (2, .int l2), (3, .int l3), (4, .int l4)] [] m Q
    refine y_headS (l2 := [(0, .ref 17), (1, .int l1), (2, .int l2), (3, .int l3)]) [0, 1, 2, 3] [0, 1, 2, 3] [0, 1, 2, 3, 4] rfl rfl (by decide) rfl (by decide) ?_
    exact H
  · replace H := H.2 h; clear h
    refine y_st rfl rfl rfl rfl rfl (fun _ _ => rfl) ?_
    show yP (xg xs) (d + 1) 86 58 [(0, .ref 17), (1, .int l1), (2, .int l2), (3, .int l3), (4, .int l4)] [.ref 17] m Q
    refine y_call rfl rfl rfl rfl rfl (Nat.le_of_ble_eq_true rfl) (Nat.le_of_ble_eq_true rfl) rfl (by decide) H (fun v1 m1 H => ?_)
    obtain ⟨u1, rfl, H⟩ := H
    show yP (xg xs) (d + 1) 86 61 [(0, .ref 17), (1, .int l1), (2, .int l2), (3, .int l3), (4, .int l4)] [.int u1] m1 Q
    refine y_zeq (t := 74) rfl rfl rfl (fun h => ?_) (fun h => ?_)
    · replace H := H.1 h; clear h
      show yP (xg xs) (d + 1) 86 74 [(0, .ref 17), (1, .int l1), (2, .int l2), (3, .int l3), (4, .int l4)] [] m1 Q
      refine y_headS (l2 := [(0, .ref 17), (1, .int l1), (2, .int l2), (3, .int l3)]) [0, 1, 2, 3] [0, 1, 2, 3] [0, 1, 2, 3, 4] rfl rfl (by decide) rfl (by decide) ?_
      exact H
    · replace H := H.2 h; clear h
      refine y_st rfl rfl rfl rfl rfl (fun _ _ => rfl) ?_
      show yP (xg xs) (d + 1) 86 65 [(0, .ref 17), (1, .int l1), (2, .int l2), (3, .int l3), (4, .int l4)] [.ref 17] m1 Q
      refine y_call rfl rfl rfl rfl rfl (Nat.le_of_ble_eq_true rfl) (Nat.le_of_ble_eq_true rfl) rfl (by decide) H (fun v2 m2 H => ?_)
      obtain ⟨rfl, H⟩ := H
      refine y_st rfl rfl rfl rfl rfl (fun _ _ => rfl) ?_
      refine y_st rfl rfl rfl rfl rfl (fun _ _ => rfl) ?_
      show yP (xg xs) (d + 1) 86 49 [(4, .int (l4 + (1 : Int32))), (0, .ref 17), (1, .int l1), (2, .int l2), (3, .int l3)] [] m2 Q
      refine y_headS (l2 := [(0, .ref 17), (1, .int l1), (2, .int l2), (3, .int l3), (4, .int (l4 + (1 : Int32)))]) [1, 2, 3, 4, 0] [0, 1, 2, 3, 4] [4, 0, 1, 2, 3] rfl rfl (by decide) rfl (by decide) ?_
      exact H
set_option maxRecDepth 20000 in
/-- CodeMaker.Reader.ladder from 74 on -/
theorem w86_74 (xs : List Int32) (d : Nat) (l1 : Int32) (l2 : Int32) (l3 : Int32) (m : yM) (Q : Option Value → yM → Prop) (H : (yC (xg xs) d 77 [.ref 17, .int (40 : Int32)] m (fun v1 m1 => v1 = none ∧ (yC (xg xs) d 85 [.ref 2, .int l3] m1 (fun v2 m2 => v2 = none ∧ yP (xg xs) (d + 1) 86 14 [(0, .ref 17), (1, .int l1), (2, .int (l2 + (1 : Int32)))] [] m2 Q))))) : yP (xg xs) (d + 1) 86 74 [(0, .ref 17), (1, .int l1), (2, .int l2), (3, .int l3)] [] m Q := by
  refine y_st rfl rfl rfl rfl rfl (fun _ _ => rfl) ?_
  refine y_st rfl rfl rfl rfl rfl (fun _ _ => rfl) ?_
  show yP (xg xs) (d + 1) 86 77 [(0, .ref 17), (1, .int l1), (2, .int l2), (3, .int l3)] [.int (40 : Int32), .ref 17] m Q
  refine y_call rfl rfl rfl rfl rfl (Nat.le_of_ble_eq_true rfl) (Nat.le_of_ble_eq_true rfl) rfl (by decide) H (fun v1 m1 H => ?_)
  obtain ⟨rfl, H⟩ := H
  refine y_st rfl rfl rfl rfl rfl (fun _ _ => rfl) ?_
  refine y_gf rfl rfl rfl rfl rfl ?_
  refine y_st rfl rfl rfl rfl rfl (fun _ _ => rfl) ?_
  show yP (xg xs) (d + 1) 86 85 [(0, .ref 17), (1, .int l1), (2, .int l2), (3, .int l3)] [.int l3, .ref 2] m1 Q
  refine y_call rfl rfl rfl rfl rfl (Nat.le_of_ble_eq_true rfl) (Nat.le_of_ble_eq_true rfl) rfl (by decide) H (fun v2 m2 H => ?_)
  obtain ⟨rfl, H⟩ := H
  refine y_st rfl rfl rfl rfl rfl (fun _ _ => rfl) ?_
  refine y_st rfl rfl rfl rfl rfl (fun _ _ => rfl) ?_
  show yP (xg xs) (d + 1) 86 14 [(2, .int (l2 + (1 : Int32))), (0, .ref 17), (1, .int l1), (3, .int l3)] [] m2 Q
  refine y_headS (l2 := [(0, .ref 17), (1, .int l1), (2, .int (l2 + (1 : Int32)))]) [1, 2, 0] [0, 1, 2] [2, 0, 1, 3] rfl rfl (by decide) rfl (by decide) ?_
  exact H
set_option maxRecDepth 20000 in
/-- CodeMaker.Reader.ladder from 94 on -/
theorem w86_94 (xs : List Int32) (d : Nat) (l1 : Int32) (m : yM) (Q : Option Value → yM → Prop) (H : (yC (xg xs) d 77 [.ref 17, .int (38 : Int32)] m (fun v1 m1 => v1 = none ∧ (yC (xg xs) d 85 [.ref 2, .int l1] m1 (fun v2 m2 => v2 = none ∧ Q none m2))))) : yP (xg xs) (d + 1) 86 94 [(0, .ref 17), (1, .int l1)] [] m Q := by
  refine y_st rfl rfl rfl rfl rfl (fun _ _ => rfl) ?_
  refine y_st rfl rfl rfl rfl rfl (fun _ _ => rfl) ?_
  show yP (xg xs) (d + 1) 86 97 [(0, .ref 17), (1, .int l1)] [.int (38 : Int32), .ref 17] m Q
  refine y_call rfl rfl rfl rfl rfl (Nat.le_of_ble_eq_true rfl) (Nat.le_of_ble_eq_true rfl) rfl (by decide) H (fun v1 m1 H => ?_)
  obtain ⟨rfl, H⟩ := H
  refine y_st rfl rfl rfl rfl rfl (fun _ _ => rfl) ?_
  refine y_gf rfl rfl rfl rfl rfl ?_
  refine y_st rfl rfl rfl rfl rfl (fun _ _ => rfl) ?_
  show yP (xg xs) (d + 1) 86 105 [(0, .ref 17), (1, .int l1)] [.int l1, .ref 2] m1 Q
  refine y_call rfl rfl rfl rfl rfl (Nat.le_of_ble_eq_true rfl) (Nat.le_of_ble_eq_true rfl) rfl (by decide) H (fun v2 m2 H => ?_)
  obtain ⟨rfl, H⟩ := H
  show yP (xg xs) (d + 1) 86 108 [(0, .ref 17), (1, .int l1)] [] m2 Q
  exact y_ret rfl rfl rfl rfl H
set_option maxRecDepth 20000 in
/-- CodeMaker.Reader.row from 0 on -/
theorem w87_0 (xs : List Int32) (d : Nat) (m : yM) (Q : Option Value → yM → Prop) (H : (yC (xg xs) d 75 [.ref 17, .int (24 : Int32), .int (0 : Int32)] m (fun v1 m1 => ∃ u1, v1 = some (Value.int u1) ∧ (yC (xg xs) d 88 [.ref 17] m1 (fun v2 m2 => v2 = none ∧ yP (xg xs) (d + 1) 87 14 [(0, .ref 17), (1, .int u1), (2, .int (0 : Int32))] [] m2 Q))))) : yP (xg xs) (d + 1) 87 0 [(0, .ref 17)] [] m Q := by
  refine y_st rfl rfl rfl rfl rfl (fun _ _ => rfl) ?_
  refine y_st rfl rfl rfl rfl rfl (fun _ _ => rfl) ?_
  refine y_st rfl rfl rfl rfl rfl (fun _ _ => rfl) ?_
  show yP (xg xs) (d + 1) 87 4 [(0, .ref 17)] [.int (0 : Int32), .int (24 : Int32), .ref 17] m Q
  refine y_call rfl rfl rfl rfl rfl (Nat.le_of_ble_eq_true rfl) (Nat.le_of_ble_eq_true rfl) rfl (by decide) H (fun v1 m1 H => ?_)
  obtain ⟨u1, rfl, H⟩ := H
  refine y_st rfl rfl rfl rfl rfl (fun _ _ => rfl) ?_
  refine y_st rfl rfl rfl rfl rfl (fun _ _ => rfl) ?_
  show yP (xg xs) (d + 1) 87 9 [(1, .int u1), (0, .ref 17)] [.ref 17] m1 Q
  refine y_call rfl rfl rfl rfl rfl (Nat.le_of_ble_eq_true rfl) (Nat.le_of_ble_eq_true rfl) rfl (by decide) H (fun v2 m2 H => ?_)
  obtain ⟨rfl, H⟩ := H
  refine y_st rfl rfl rfl rfl rfl (fun _ _ => rfl) ?_
  refine y_st rfl rfl rfl rfl rfl (fun _ _ => rfl) ?_
  show yP (xg xs) (d + 1) 87 14 [(2, .int (0 : Int32)), (1, .int u1), (0, .ref 17)] [] m2 Q
  refine y_headS (l2 := [(0, .ref 17), (1, .int u1), (2, .int (0 : Int32))]) [2, 1, 0] [0, 1, 2] [2, 1, 0] rfl rfl (by decide) rfl (by decide) ?_
  exact H
set_option maxRecDepth 20000 in
/-- CodeMaker.Reader.row from 14 on -/
theorem w87_14 (xs : List Int32) (d : Nat) (l1 : Int32) (l2 : Int32) (m : yM) (Q : Option Value → yM → Prop) (H : (((8192 : Int32) ≤ l2 → yP (xg xs) (d + 1) 87 70 [(0, .ref 17), (1, .int l1)] [] m Q) ∧ (¬ (8192 : Int32) ≤ l2 → (((m.1 17 5) = (252 : Int32) → yP (xg xs) (d + 1) 87 38 [(0, .ref 17), (1, .int l1), (2, .int l2)] [] m Q) ∧ (¬ (m.1 17 5) = (252 : Int32) → (yC (xg xs) d 92 [.ref 17] m (fun v1 m1 => ∃ u1, v1 = some (Value.int u1) ∧ ((u1 = 0 → yP (xg xs) (d + 1) 87 70 [(0, .ref 17), (1, .int l1)] [] m1 Q) ∧ (¬ u1 = 0 → yP (xg xs) (d + 1) 87 38 [(0, .ref 17), (1, .int l1), (2, .int l2)] [] m1 Q))))))))) : yP (xg xs) (d + 1) 87 14 [(0, .ref 17), (1, .int l1), (2, .int l2)] [] m Q := by
  refine y_st rfl rfl rfl rfl rfl (fun _ _ => rfl) ?_
  refine y_st rfl rfl rfl rfl rfl (fun _ _ => rfl) ?_
  show yP (xg xs) (d + 1) 87 18 [(0, .ref 17), (1, .int l1), (2, .int l2)] [.int (8192 : Int32), .int l2] m Q
  refine y_ige (t := 70) rfl rfl rfl (fun h => ?_) (fun h => ?_)
  · replace H := H.1 h; clear h
    show yP (xg xs) (d + 1) 87 70 [(0, .ref 17), (1, .int l1), (2, .int l2)] [] m Q
    refine y_headS (l2 := [(0, .ref 17), (1, .int l1)]) [0, 1] [0, 1] [0, 1, 2] rfl rfl (by decide) rfl (by decide) ?_
    exact H
  · replace H := H.2 h; clear h
    refine y_st rfl rfl rfl rfl rfl (fun _ _ => rfl) ?_
    refine y_gf rfl rfl rfl rfl rfl ?_
    refine y_st rfl rfl rfl rfl rfl (fun _ _ => rfl) ?_
    show yP (xg xs) (d + 1) 87 28 [(0, .ref 17), (1, .int l1), (2, .int l2)] [.int (252 : Int32), .int (m.1 17 5)] m Q
    refine y_ieq (t := 38) rfl rfl rfl (fun h => ?_) (fun h => ?_)
    · replace H := H.1 h; clear h
      show yP (xg xs) (d + 1) 87 38 [(0, .ref 17), (1, .int l1), (2, .int l2)] [] m Q
      exact H
    · replace H := H.2 h; clear h
      refine y_st rfl rfl rfl rfl rfl (fun _ _ => rfl) ?_
      show yP (xg xs) (d + 1) 87 32 [(0, .ref 17), (1, .int l1), (2, .int l2)] [.ref 17] m Q
      refine y_call rfl rfl rfl rfl rfl (Nat.le_of_ble_eq_true rfl) (Nat.le_of_ble_eq_true rfl) rfl (by decide) H (fun v1 m1 H => ?_)
      obtain ⟨u1, rfl, H⟩ := H
      show yP (xg xs) (d + 1) 87 35 [(0, .ref 17), (1, .int l1), (2, .int l2)] [.int u1] m1 Q
      refine y_zeq (t := 70) rfl rfl rfl (fun h => ?_) (fun h => ?_)
      · replace H := H.1 h; clear h
        show yP (xg xs) (d + 1) 87 70 [(0, .ref 17), (1, .int l1), (2, .int l2)] [] m1 Q
        refine y_headS (l2 := [(0, .ref 17), (1, .int l1)]) [0, 1] [0, 1] [0, 1, 2] rfl rfl (by decide) rfl (by decide) ?_
        exact H
      · replace H := H.2 h; clear h
        show yP (xg xs) (d + 1) 87 38 [(0, .ref 17), (1, .int l1), (2, .int l2)] [] m1 Q
        exact H
set_option maxRecDepth 20000 in
/-- CodeMaker.Reader.row from 38 on -/
theorem w87_38 (xs : List Int32) (d : Nat) (l1 : Int32) (l2 : Int32) (m : yM) (Q : Option Value → yM → Prop) (H : ((¬ (m.1 17 5) = (252 : Int32) → yP (xg xs) (d + 1) 87 60 [(0, .ref 17), (1, .int l1), (2, .int l2)] [] m Q) ∧ ((m.1 17 5) = (252 : Int32) → (yC (xg xs) d 75 [.ref 17, .int (29 : Int32), .int (0 : Int32)] m (fun v1 m1 => ∃ u1, v1 = some (Value.int u1) ∧ (yC (xg xs) d 76 [.ref 17] m1 (fun v2 m2 => v2 = none ∧ yP (xg xs) (d + 1) 87 60 [(0, .ref 17), (1, .int l1), (2, .int l2)] [] m2 Q))))))) : yP (xg xs) (d + 1) 87 38 [(0, .ref 17), (1, .int l1), (2, .int l2)] [] m Q := by
  refine y_st rfl rfl rfl rfl rfl (fun _ _ => rfl) ?_
  refine y_gf rfl rfl rfl rfl rfl ?_
  refine y_st rfl rfl rfl rfl rfl (fun _ _ => rfl) ?_
  show yP (xg xs) (d + 1) 87 45 [(0, .ref 17), (1, .int l1), (2, .int l2)] [.int (252 : Int32), .int (m.1 17 5)] m Q
  refine y_ine (t := 60) rfl rfl rfl (fun h => ?_) (fun h => ?_)
  · replace H := H.1 h; clear h
    show yP (xg xs) (d + 1) 87 60 [(0, .ref 17), (1, .int l1), (2, .int l2)] [] m Q
    exact H
  · replace H := H.2 h; clear h
    refine y_st rfl rfl rfl rfl rfl (fun _ _ => rfl) ?_
    refine y_st rfl rfl rfl rfl rfl (fun _ _ => rfl) ?_
    refine y_st rfl rfl rfl rfl rfl (fun _ _ => rfl) ?_
    show yP (xg xs) (d + 1) 87 52 [(0, .ref 17), (1, .int l1), (2, .int l2)] [.int (0 : Int32), .int (29 : Int32), .ref 17] m Q
    refine y_call rfl rfl rfl rfl rfl (Nat.le_of_ble_eq_true rfl) (Nat.le_of_ble_eq_true rfl) rfl (by decide) H (fun v1 m1 H => ?_)
    obtain ⟨u1, rfl, H⟩ := H
    refine y_st rfl rfl rfl rfl rfl (fun _ _ => rfl) ?_
    refine y_st rfl rfl rfl rfl rfl (fun _ _ => rfl) ?_
    show yP (xg xs) (d + 1) 87 57 [(0, .ref 17), (1, .int l1), (2, .int l2)] [.ref 17] m1 Q
    refine y_call rfl rfl rfl rfl rfl (Nat.le_of_ble_eq_true rfl) (Nat.le_of_ble_eq_true rfl) rfl (by decide) H (fun v2 m2 H => ?_)
    obtain ⟨rfl, H⟩ := H
    show yP (xg xs) (d + 1) 87 60 [(0, .ref 17), (1, .int l1), (2, .int l2)] [] m2 Q
    exact H
set_option maxRecDepth 20000 in
/-- CodeMaker.Reader.row from 60 on -/
theorem w87_60 (xs : List Int32) (d : Nat) (l1 : Int32) (l2 : Int32) (m : yM) (Q : Option Value → yM → Prop) (H : (yC (xg xs) d 88 [.ref 17] m (fun v1 m1 => v1 = none ∧ yP (xg xs) (d + 1) 87 14 [(0, .ref 17), (1, .int l1), (2, .int (l2 + (1 : Int32)))] [] m1 Q))) : yP (xg xs) (d + 1) 87 60 [(0, .ref 17), (1, .int l1), (2, .int l2)] [] m Q := by
  refine y_st rfl rfl rfl rfl rfl (fun _ _ => rfl) ?_
  show yP (xg xs) (d + 1) 87 61 [(0, .ref 17), (1, .int l1), (2, .int l2)] [.ref 17] m Q
  refine y_call rfl rfl rfl rfl rfl (Nat.le_of_ble_eq_true rfl) (Nat.le_of_ble_eq_true rfl) rfl (by decide) H (fun v1 m1 H => ?_)
  obtain ⟨rfl, H⟩ := H
  refine y_st rfl rfl rfl rfl rfl (fun _ _ => rfl) ?_
  refine y_st rfl rfl rfl rfl rfl (fun _ _ => rfl) ?_
  show yP (xg xs) (d + 1) 87 14 [(2, .int (l2 + (1 : Int32))), (0, .ref 17), (1, .int l1)] [] m1 Q
  refine y_headS (l2 := [(0, .ref 17), (1, .int l1), (2, .int (l2 + (1 : Int32)))]) [1, 2, 0] [0, 1, 2] [2, 0, 1] rfl rfl (by decide) rfl (by decide) ?_
  exact H
set_option maxRecDepth 20000 in
/-- CodeMaker.Reader.row from 70 on -/
theorem w87_70 (xs : List Int32) (d : Nat) (l1 : Int32) (m : yM) (Q : Option Value → yM → Prop) (H : (yC (xg xs) d 77 [.ref 17, .int (187 : Int32)] m (fun v1 m1 => v1 = none ∧ (yC (xg xs) d 85 [.ref 2, .int l1] m1 (fun v2 m2 => v2 = none ∧ Q none m2))))) : yP (xg xs) (d + 1) 87 70 [(0, .ref 17), (1, .int l1)] [] m Q := by
  refine y_st rfl rfl rfl rfl rfl (fun _ _ => rfl) ?_
  refine y_st rfl rfl rfl rfl rfl (fun _ _ => rfl) ?_
  show yP (xg xs) (d + 1) 87 74 [(0, .ref 17), (1, .int l1)] [.int (187 : Int32), .ref 17] m Q
  refine y_call rfl rfl rfl rfl rfl (Nat.le_of_ble_eq_true rfl) (Nat.le_of_ble_eq_true rfl) rfl (by decide) H (fun v1 m1 H => ?_)
  obtain ⟨rfl, H⟩ := H
  refine y_st rfl rfl rfl rfl rfl (fun _ _ => rfl) ?_
  refine y_gf rfl rfl rfl rfl rfl ?_
  refine y_st rfl rfl rfl rfl rfl (fun _ _ => rfl) ?_
  show yP (xg xs) (d + 1) 87 82 [(0, .ref 17), (1, .int l1)] [.int l1, .ref 2] m1 Q
  refine y_call rfl rfl rfl rfl rfl (Nat.le_of_ble_eq_true rfl) (Nat.le_of_ble_eq_true rfl) rfl (by decide) H (fun v2 m2 H => ?_)
  obtain ⟨rfl, H⟩ := H
  show yP (xg xs) (d + 1) 87 85 [(0, .ref 17), (1, .int l1)] [] m2 Q
  exact y_ret rfl rfl rfl rfl H
set_option maxRecDepth 20000 in
/-- CodeMaker.Reader.cell from 0 on -/
theorem w88_0 (xs : List Int32) (d : Nat) (m : yM) (Q : Option Value → yM → Prop) (H : (((m.1 17 5) = (173 : Int32) → yP (xg xs) (d + 1) 88 20 [(0, .ref 17)] [] m Q) ∧ (¬ (m.1 17 5) = (173 : Int32) → ((¬ (m.1 17 5) = (170 : Int32) → ((¬ (m.1 17 5) = (168 : Int32) → yP (xg xs) (d + 1) 88 62 [(0, .ref 17)] [.int (0 : Int32)] m Q) ∧ ((m.1 17 5) = (168 : Int32) → yP (xg xs) (d + 1) 88 62 [(0, .ref 17)] [.int (1 : Int32)] m Q))) ∧ ((m.1 17 5) = (170 : Int32) → yP (xg xs) (d + 1) 88 20 [(0, .ref 17)] [] m Q))))) : yP (xg xs) (d + 1) 88 0 [(0, .ref 17)] [] m Q := by
  refine y_st rfl rfl rfl rfl rfl (fun _ _ => rfl) ?_
  refine y_gf rfl rfl rfl rfl rfl ?_
  refine y_st rfl rfl rfl rfl rfl (fun _ _ => rfl) ?_
  show yP (xg xs) (d + 1) 88 7 [(0, .ref 17)] [.int (173 : Int32), .int (m.1 17 5)] m Q
  refine y_ieq (t := 20) rfl rfl rfl (fun h => ?_) (fun h => ?_)
  · replace H := H.1 h; clear h
    show yP (xg xs) (d + 1) 88 20 [(0, .ref 17)] [] m Q
    exact H
  · replace H := H.2 h; clear h
    refine y_st rfl rfl rfl rfl rfl (fun _ _ => rfl) ?_
    refine y_gf rfl rfl rfl rfl rfl ?_
    refine y_st rfl rfl rfl rfl rfl (fun _ _ => rfl) ?_
    show yP (xg xs) (d + 1) 88 17 [(0, .ref 17)] [.int (170 : Int32), .int (m.1 17 5)] m Q
    refine y_ine (t := 47) rfl rfl rfl (fun h => ?_) (fun h => ?_)
    · replace H := H.1 h; clear h
      refine y_st rfl rfl rfl rfl rfl (fun _ _ => rfl) ?_
      refine y_gf rfl rfl rfl rfl rfl ?_
      refine y_st rfl rfl rfl rfl rfl (fun _ _ => rfl) ?_
      show yP (xg xs) (d + 1) 88 54 [(0, .ref 17)] [.int (168 : Int32), .int (m.1 17 5)] m Q
      refine y_ine (t := 61) rfl rfl rfl (fun h => ?_) (fun h => ?_)
      · replace H := H.1 h; clear h
        refine y_st rfl rfl rfl rfl rfl (fun _ _ => rfl) ?_
        show yP (xg xs) (d + 1) 88 62 [(0, .ref 17)] [.int (0 : Int32)] m Q
        exact H
      · replace H := H.2 h; clear h
        refine y_st rfl rfl rfl rfl rfl (fun _ _ => rfl) ?_
        refine y_st rfl rfl rfl rfl rfl (fun _ _ => rfl) ?_
        show yP (xg xs) (d + 1) 88 62 [(0, .ref 17)] [.int (1 : Int32)] m Q
        exact H
    · replace H := H.2 h; clear h
      show yP (xg xs) (d + 1) 88 20 [(0, .ref 17)] [] m Q
      exact H
set_option maxRecDepth 20000 in
/-- CodeMaker.Reader.cell from 20 on -/
theorem w88_20 (xs : List Int32) (d : Nat) (m : yM) (Q : Option Value → yM → Prop) (H : ((¬ (m.1 17 5) = (173 : Int32) → yP (xg xs) (d + 1) 88 42 [] [.int (27 : Int32), .int (m.1 17 5), .ref 17] m Q) ∧ ((m.1 17 5) = (173 : Int32) → yP (xg xs) (d + 1) 88 42 [] [.int (26 : Int32), .int (m.1 17 5), .ref 17] m Q))) : yP (xg xs) (d + 1) 88 20 [(0, .ref 17)] [] m Q := by
  refine y_st rfl rfl rfl rfl rfl (fun _ _ => rfl) ?_
  refine y_st rfl rfl rfl rfl rfl (fun _ _ => rfl) ?_
  refine y_gf rfl rfl rfl rfl rfl ?_
  refine y_st rfl rfl rfl rfl rfl (fun _ _ => rfl) ?_
  refine y_gf rfl rfl rfl rfl rfl ?_
  refine y_st rfl rfl rfl rfl rfl (fun _ _ => rfl) ?_
  show yP (xg xs) (d + 1) 88 32 [(0, .ref 17)] [.int (173 : Int32), .int (m.1 17 5), .int (m.1 17 5), .ref 17] m Q
  refine y_ine (t := 40) rfl rfl rfl (fun h => ?_) (fun h => ?_)
  · replace H := H.1 h; clear h
    refine y_st rfl rfl rfl rfl rfl (fun _ _ => rfl) ?_
    show yP (xg xs) (d + 1) 88 42 [(0, .ref 17)] [.int (27 : Int32), .int (m.1 17 5), .ref 17] m Q
    refine y_headS (l2 := []) [] [] [0] rfl rfl (by decide) rfl (by decide) ?_
    exact H
  · replace H := H.2 h; clear h
    refine y_st rfl rfl rfl rfl rfl (fun _ _ => rfl) ?_
    refine y_st rfl rfl rfl rfl rfl (fun _ _ => rfl) ?_
    show yP (xg xs) (d + 1) 88 42 [(0, .ref 17)] [.int (26 : Int32), .int (m.1 17 5), .ref 17] m Q
    refine y_headS (l2 := []) [] [] [0] rfl rfl (by decide) rfl (by decide) ?_
    exact H
set_option maxRecDepth 20000 in
/-- CodeMaker.Reader.cell from 42 on -/
theorem w88_42 (xs : List Int32) (d : Nat) (s1 : Int32) (s2 : Int32) (m : yM) (Q : Option Value → yM → Prop) (H : (yC (xg xs) d 82 [.ref 17, .int s1, .int s2, .int (0 : Int32)] m (fun v1 m1 => v1 = none ∧ Q none m1))) : yP (xg xs) (d + 1) 88 42 [] [.int s2, .int s1, .ref 17] m Q := by
  refine y_st rfl rfl rfl rfl rfl (fun _ _ => rfl) ?_
  show yP (xg xs) (d + 1) 88 43 [] [.int (0 : Int32), .int s2, .int s1, .ref 17] m Q
  refine y_call rfl rfl rfl rfl rfl (Nat.le_of_ble_eq_true rfl) (Nat.le_of_ble_eq_true rfl) rfl (by decide) H (fun v1 m1 H => ?_)
  obtain ⟨rfl, H⟩ := H
  show yP (xg xs) (d + 1) 88 46 [] [] m1 Q
  exact y_ret rfl rfl rfl rfl H
set_option maxRecDepth 20000 in
/-- CodeMaker.Reader.cell from 62 on -/
theorem w88_62 (xs : List Int32) (d : Nat) (s0 : Int32) (m : yM) (Q : Option Value → yM → Prop) (H : ((s0 = 0 → yP (xg xs) (d + 1) 88 75 [(0, .ref 17), (1, .int s0)] [.int (25 : Int32), .ref 17] m Q) ∧ (¬ s0 = 0 → yP (xg xs) (d + 1) 88 75 [(0, .ref 17), (1, .int s0)] [.int (28 : Int32), .ref 17] m Q))) : yP (xg xs) (d + 1) 88 62 [(0, .ref 17)] [.int s0] m Q := by
  refine y_st rfl rfl rfl rfl rfl (fun _ _ => rfl) ?_
  refine y_st rfl rfl rfl rfl rfl (fun _ _ => rfl) ?_
  refine y_st rfl rfl rfl rfl rfl (fun _ _ => rfl) ?_
  show yP (xg xs) (d + 1) 88 65 [(1, .int s0), (0, .ref 17)] [.int s0, .ref 17] m Q
  refine y_zeq (t := 73) rfl rfl rfl (fun h => ?_) (fun h => ?_)
  · replace H := H.1 h; clear h
    refine y_st rfl rfl rfl rfl rfl (fun _ _ => rfl) ?_
    show yP (xg xs) (d + 1) 88 75 [(1, .int s0), (0, .ref 17)] [.int (25 : Int32), .ref 17] m Q
    refine y_headS (l2 := [(0, .ref 17), (1, .int s0)]) [1, 0] [0, 1] [1, 0] rfl rfl (by decide) rfl (by decide) ?_
    exact H
  · replace H := H.2 h; clear h
    refine y_st rfl rfl rfl rfl rfl (fun _ _ => rfl) ?_
    refine y_st rfl rfl rfl rfl rfl (fun _ _ => rfl) ?_
    show yP (xg xs) (d + 1) 88 75 [(1, .int s0), (0, .ref 17)] [.int (28 : Int32), .ref 17] m Q
    refine y_headS (l2 := [(0, .ref 17), (1, .int s0)]) [1, 0] [0, 1] [1, 0] rfl rfl (by decide) rfl (by decide) ?_
    exact H
set_option maxRecDepth 20000 in
/-- CodeMaker.Reader.cell from 75 on -/
theorem w88_75 (xs : List Int32) (d : Nat) (l1 : Int32) (s1 : Int32) (m : yM) (Q : Option Value → yM → Prop) (H : (yC (xg xs) d 75 [.ref 17, .int s1, .int (0 : Int32)] m (fun v1 m1 => ∃ u1, v1 = some (Value.int u1) ∧ ((l1 = 0 → yP (xg xs) (d + 1) 88 88 [(0, .ref 17), (1, .int l1), (2, .int u1)] [] m1 Q) ∧ (¬ l1 = 0 → (yC (xg xs) d 76 [.ref 17] m1 (fun v2 m2 => v2 = none ∧ yP (xg xs) (d + 1) 88 88 [(0, .ref 17), (1, .int l1), (2, .int u1)] [] m2 Q))))))) : yP (xg xs) (d + 1) 88 75 [(0, .ref 17), (1, .int l1)] [.int s1, .ref 17] m Q := by
  refine y_st rfl rfl rfl rfl rfl (fun _ _ => rfl) ?_
  show yP (xg xs) (d + 1) 88 76 [(0, .ref 17), (1, .int l1)] [.int (0 : Int32), .int s1, .ref 17] m Q
  refine y_call rfl rfl rfl rfl rfl (Nat.le_of_ble_eq_true rfl) (Nat.le_of_ble_eq_true rfl) rfl (by decide) H (fun v1 m1 H => ?_)
  obtain ⟨u1, rfl, H⟩ := H
  refine y_st rfl rfl rfl rfl rfl (fun _ _ => rfl) ?_
  refine y_st rfl rfl rfl rfl rfl (fun _ _ => rfl) ?_
  show yP (xg xs) (d + 1) 88 81 [(2, .int u1), (0, .ref 17), (1, .int l1)] [.int l1] m1 Q
  refine y_zeq (t := 88) rfl rfl rfl (fun h => ?_) (fun h => ?_)
  · replace H := H.1 h; clear h
    show yP (xg xs) (d + 1) 88 88 [(2, .int u1), (0, .ref 17), (1, .int l1)] [] m1 Q
    refine y_headS (l2 := [(0, .ref 17), (1, .int l1), (2, .int u1)]) [1, 2, 0] [0, 1, 2] [2, 0, 1] rfl rfl (by decide) rfl (by decide) ?_
    exact H
  · replace H := H.2 h; clear h
    refine y_st rfl rfl rfl rfl rfl (fun _ _ => rfl) ?_
    show yP (xg xs) (d + 1) 88 85 [(2, .int u1), (0, .ref 17), (1, .int l1)] [.ref 17] m1 Q
    refine y_call rfl rfl rfl rfl rfl (Nat.le_of_ble_eq_true rfl) (Nat.le_of_ble_eq_true rfl) rfl (by decide) H (fun v2 m2 H => ?_)
    obtain ⟨rfl, H⟩ := H
    show yP (xg xs) (d + 1) 88 88 [(2, .int u1), (0, .ref 17), (1, .int l1)] [] m2 Q
    refine y_headS (l2 := [(0, .ref 17), (1, .int l1), (2, .int u1)]) [1, 2, 0] [0, 1, 2] [2, 0, 1] rfl rfl (by decide) rfl (by decide) ?_
    exact H
set_option maxRecDepth 20000 in
/-- CodeMaker.Reader.cell from 88 on -/
theorem w88_88 (xs : List Int32) (d : Nat) (l1 : Int32) (l2 : Int32) (m : yM) (Q : Option Value → yM → Prop) (H : ((l1 = 0 → (yC (xg xs) d 90 [.ref 17] m (fun v1 m1 => ∃ u1, v1 = some (Value.int u1) ∧ yP (xg xs) (d + 1) 88 103 [(0, .ref 17), (1, .int l1), (2, .int l2)] [.int u1] m1 Q))) ∧ (¬ l1 = 0 → (yC (xg xs) d 89 [.ref 17] m (fun v2 m2 => ∃ u2, v2 = some (Value.int u2) ∧ yP (xg xs) (d + 1) 88 103 [(0, .ref 17), (1, .int l1), (2, .int l2)] [.int u2] m2 Q))))) : yP (xg xs) (d + 1) 88 88 [(0, .ref 17), (1, .int l1), (2, .int l2)] [] m Q := by
  refine y_st rfl rfl rfl rfl rfl (fun _ _ => rfl) ?_
  show yP (xg xs) (d + 1) 88 89 [(0, .ref 17), (1, .int l1), (2, .int l2)] [.int l1] m Q
  refine y_zeq (t := 99) rfl rfl rfl (fun h => ?_) (fun h => ?_)
  · replace H := H.1 h; clear h
    refine y_st rfl rfl rfl rfl rfl (fun _ _ => rfl) ?_
    show yP (xg xs) (d + 1) 88 100 [(0, .ref 17), (1, .int l1), (2, .int l2)] [.ref 17] m Q
    refine y_call rfl rfl rfl rfl rfl (Nat.le_of_ble_eq_true rfl) (Nat.le_of_ble_eq_true rfl) rfl (by decide) H (fun v1 m1 H => ?_)
    obtain ⟨u1, rfl, H⟩ := H
    show yP (xg xs) (d + 1) 88 103 [(0, .ref 17), (1, .int l1), (2, .int l2)] [.int u1] m1 Q
    exact H
  · replace H := H.2 h; clear h
    refine y_st rfl rfl rfl rfl rfl (fun _ _ => rfl) ?_
    show yP (xg xs) (d + 1) 88 93 [(0, .ref 17), (1, .int l1), (2, .int l2)] [.ref 17] m Q
    refine y_call rfl rfl rfl rfl rfl (Nat.le_of_ble_eq_true rfl) (Nat.le_of_ble_eq_true rfl) rfl (by decide) H (fun v2 m2 H => ?_)
    obtain ⟨u2, rfl, H⟩ := H
    refine y_st rfl rfl rfl rfl rfl (fun _ _ => rfl) ?_
    show yP (xg xs) (d + 1) 88 103 [(0, .ref 17), (1, .int l1), (2, .int l2)] [.int u2] m2 Q
    exact H
set_option maxRecDepth 20000 in
/-- CodeMaker.Reader.cell from 103 on -/
theorem w88_103 (xs : List Int32) (d : Nat) (l1 : Int32) (l2 : Int32) (s0 : Int32) (m : yM) (Q : Option Value → yM → Prop) (H : (x_in l2 16401 = true ∧ ((s0 = 0 → yP (xg xs) (d + 1) 88 122 [(0, .ref 17), (1, .int l1), (2, .int l2)] [] (y_si m 5 l2.toNatClampNeg s0) Q) ∧ (¬ s0 = 0 → (yC (xg xs) d 76 [.ref 17] (y_si m 5 l2.toNatClampNeg s0) (fun v1 m1 => v1 = none ∧ yP (xg xs) (d + 1) 88 122 [(0, .ref 17), (1, .int l1), (2, .int l2)] [] m1 Q)))))) : yP (xg xs) (d + 1) 88 103 [(0, .ref 17), (1, .int l1), (2, .int l2)] [.int s0] m Q := by
  refine y_st rfl rfl rfl rfl rfl (fun _ _ => rfl) ?_
  refine y_st rfl rfl rfl rfl rfl (fun _ _ => rfl) ?_
  refine y_gf rfl rfl rfl rfl rfl ?_
  refine y_gf rfl rfl rfl rfl rfl ?_
  refine y_st rfl rfl rfl rfl rfl (fun _ _ => rfl) ?_
  refine y_st rfl rfl rfl rfl rfl (fun _ _ => rfl) ?_
  show yP (xg xs) (d + 1) 88 113 [(3, .int s0), (0, .ref 17), (1, .int l1), (2, .int l2)] [.int s0, .int l2, .ref 5] m Q
  refine y_iast rfl rfl rfl (H.1) ?_
  replace H := H.2
  refine y_st rfl rfl rfl rfl rfl (fun _ _ => rfl) ?_
  show yP (xg xs) (d + 1) 88 115 [(3, .int s0), (0, .ref 17), (1, .int l1), (2, .int l2)] [.int s0] (y_si m 5 l2.toNatClampNeg s0) Q
  refine y_zeq (t := 122) rfl rfl rfl (fun h => ?_) (fun h => ?_)
  · replace H := H.1 h; clear h
    show yP (xg xs) (d + 1) 88 122 [(3, .int s0), (0, .ref 17), (1, .int l1), (2, .int l2)] [] (y_si m 5 l2.toNatClampNeg s0) Q
    refine y_headS (l2 := [(0, .ref 17), (1, .int l1), (2, .int l2)]) [1, 2, 3] [0, 1, 2] [3, 0, 1, 2] rfl rfl (by decide) rfl (by decide) ?_
    exact H
  · replace H := H.2 h; clear h
    refine y_st rfl rfl rfl rfl rfl (fun _ _ => rfl) ?_
    show yP (xg xs) (d + 1) 88 119 [(3, .int s0), (0, .ref 17), (1, .int l1), (2, .int l2)] [.ref 17] (y_si m 5 l2.toNatClampNeg s0) Q
    refine y_call rfl rfl rfl rfl rfl (Nat.le_of_ble_eq_true rfl) (Nat.le_of_ble_eq_true rfl) rfl (by decide) H (fun v1 m1 H => ?_)
    obtain ⟨rfl, H⟩ := H
    show yP (xg xs) (d + 1) 88 122 [(3, .int s0), (0, .ref 17), (1, .int l1), (2, .int l2)] [] m1 Q
    refine y_headS (l2 := [(0, .ref 17), (1, .int l1), (2, .int l2)]) [1, 2, 3] [0, 1, 2] [3, 0, 1, 2] rfl rfl (by decide) rfl (by decide) ?_
    exact H
set_option maxRecDepth 20000 in
/-- CodeMaker.Reader.cell from 122 on -/
theorem w88_122 (xs : List Int32) (d : Nat) (l1 : Int32) (l2 : Int32) (m : yM) (Q : Option Value → yM → Prop) (H : ((¬ l1 = 0 → yP (xg xs) (d + 1) 88 149 [(0, .ref 17), (1, .int l1), (2, .int l2)] [] m Q) ∧ (l1 = 0 → ((¬ (m.1 17 5) = (64 : Int32) → yP (xg xs) (d + 1) 88 149 [(0, .ref 17), (1, .int l1), (2, .int l2)] [] m Q) ∧ ((m.1 17 5) = (64 : Int32) → (yC (xg xs) d 91 [.ref 17] m (fun v1 m1 => ∃ u1, v1 = some (Value.int u1) ∧ ((¬ u1 = (174 : Int32) → yP (xg xs) (d + 1) 88 149 [(0, .ref 17), (1, .int l1), (2, .int l2)] [] m1 Q) ∧ (u1 = (174 : Int32) → yP (xg xs) (d + 1) 88 150 [(0, .ref 17), (1, .int l1), (2, .int l2)] [.int (1 : Int32)] m1 Q))))))))) : yP (xg xs) (d + 1) 88 122 [(0, .ref 17), (1, .int l1), (2, .int l2)] [] m Q := by
  refine y_st rfl rfl rfl rfl rfl (fun _ _ => rfl) ?_
  show yP (xg xs) (d + 1) 88 123 [(0, .ref 17), (1, .int l1), (2, .int l2)] [.int l1] m Q
  refine y_zne (t := 149) rfl rfl rfl (fun h => ?_) (fun h => ?_)
  · replace H := H.1 h; clear h
    show yP (xg xs) (d + 1) 88 149 [(0, .ref 17), (1, .int l1), (2, .int l2)] [] m Q
    exact H
  · replace H := H.2 h; clear h
    refine y_st rfl rfl rfl rfl rfl (fun _ _ => rfl) ?_
    refine y_gf rfl rfl rfl rfl rfl ?_
    refine y_st rfl rfl rfl rfl rfl (fun _ _ => rfl) ?_
    show yP (xg xs) (d + 1) 88 132 [(0, .ref 17), (1, .int l1), (2, .int l2)] [.int (64 : Int32), .int (m.1 17 5)] m Q
    refine y_ine (t := 149) rfl rfl rfl (fun h => ?_) (fun h => ?_)
    · replace H := H.1 h; clear h
      show yP (xg xs) (d + 1) 88 149 [(0, .ref 17), (1, .int l1), (2, .int l2)] [] m Q
      exact H
    · replace H := H.2 h; clear h
      refine y_st rfl rfl rfl rfl rfl (fun _ _ => rfl) ?_
      show yP (xg xs) (d + 1) 88 136 [(0, .ref 17), (1, .int l1), (2, .int l2)] [.ref 17] m Q
      refine y_call rfl rfl rfl rfl rfl (Nat.le_of_ble_eq_true rfl) (Nat.le_of_ble_eq_true rfl) rfl (by decide) H (fun v1 m1 H => ?_)
      obtain ⟨u1, rfl, H⟩ := H
      refine y_st rfl rfl rfl rfl rfl (fun _ _ => rfl) ?_
      show yP (xg xs) (d + 1) 88 142 [(0, .ref 17), (1, .int l1), (2, .int l2)] [.int (174 : Int32), .int u1] m1 Q
      refine y_ine (t := 149) rfl rfl rfl (fun h => ?_) (fun h => ?_)
      · replace H := H.1 h; clear h
        show yP (xg xs) (d + 1) 88 149 [(0, .ref 17), (1, .int l1), (2, .int l2)] [] m1 Q
        exact H
      · replace H := H.2 h; clear h
        refine y_st rfl rfl rfl rfl rfl (fun _ _ => rfl) ?_
        refine y_st rfl rfl rfl rfl rfl (fun _ _ => rfl) ?_
        show yP (xg xs) (d + 1) 88 150 [(0, .ref 17), (1, .int l1), (2, .int l2)] [.int (1 : Int32)] m1 Q
        exact H
set_option maxRecDepth 20000 in
/-- CodeMaker.Reader.cell from 149 on -/
theorem w88_149 (xs : List Int32) (d : Nat) (l1 : Int32) (l2 : Int32) (m : yM) (Q : Option Value → yM → Prop) (H : yP (xg xs) (d + 1) 88 150 [(0, .ref 17), (1, .int l1), (2, .int l2)] [.int (0 : Int32)] m Q) : yP (xg xs) (d + 1) 88 149 [(0, .ref 17), (1, .int l1), (2, .int l2)] [] m Q := by
  refine y_st rfl rfl rfl rfl rfl (fun _ _ => rfl) ?_
  show yP (xg xs) (d + 1) 88 150 [(0, .ref 17), (1, .int l1), (2, .int l2)] [.int (0 : Int32)] m Q
  exact H
set_option maxRecDepth 20000 in
/-- CodeMaker.Reader.cell from 150 on -/
theorem w88_150 (xs : List Int32) (d : Nat) (l1 : Int32) (l2 : Int32) (s0 : Int32) (m : yM) (Q : Option Value → yM → Prop) (H : ((s0 = 0 → yP (xg xs) (d + 1) 88 193 [(0, .ref 17), (1, .int l1), (2, .int l2), (4, .int s0), (5, .int (m.1 2 5))] [] m Q) ∧ (¬ s0 = 0 → (x_in (m.1 17 4) 8193 = true ∧ (yC (xg xs) d 75 [.ref 17, .int (33 : Int32), .int (m.1 11 ((m.1 17 4).toNatClampNeg))] m (fun v1 m1 => ∃ u1, v1 = some (Value.int u1) ∧ (yC (xg xs) d 76 [.ref 17] m1 (fun v2 m2 => v2 = none ∧ (yC (xg xs) d 76 [.ref 17] m2 (fun v3 m3 => v3 = none ∧ yP (xg xs) (d + 1) 88 193 [(0, .ref 17), (1, .int l1), (2, .int l2), (4, .int s0), (5, .int (m.1 2 5))] [] m3 Q)))))))))) : yP (xg xs) (d + 1) 88 150 [(0, .ref 17), (1, .int l1), (2, .int l2)] [.int s0] m Q := by
  refine y_st rfl rfl rfl rfl rfl (fun _ _ => rfl) ?_
  refine y_st rfl rfl rfl rfl rfl (fun _ _ => rfl) ?_
  refine y_gf rfl rfl rfl rfl rfl ?_
  refine y_gf rfl rfl rfl rfl rfl ?_
  refine y_st rfl rfl rfl rfl rfl (fun _ _ => rfl) ?_
  refine y_st rfl rfl rfl rfl rfl (fun _ _ => rfl) ?_
  show yP (xg xs) (d + 1) 88 163 [(5, .int (m.1 2 5)), (4, .int s0), (0, .ref 17), (1, .int l1), (2, .int l2)] [.int s0] m Q
  refine y_zeq (t := 193) rfl rfl rfl (fun h => ?_) (fun h => ?_)
  · replace H := H.1 h; clear h
    show yP (xg xs) (d + 1) 88 193 [(5, .int (m.1 2 5)), (4, .int s0), (0, .ref 17), (1, .int l1), (2, .int l2)] [] m Q
    refine y_headS (l2 := [(0, .ref 17), (1, .int l1), (2, .int l2), (4, .int s0), (5, .int (m.1 2 5))]) [2, 3, 4, 1, 0] [0, 1, 2, 4, 5] [5, 4, 0, 1, 2] rfl rfl (by decide) rfl (by decide) ?_
    exact H
  · replace H := H.2 h; clear h
    refine y_st rfl rfl rfl rfl rfl (fun _ _ => rfl) ?_
    refine y_st rfl rfl rfl rfl rfl (fun _ _ => rfl) ?_
    refine y_st rfl rfl rfl rfl rfl (fun _ _ => rfl) ?_
    refine y_gf rfl rfl rfl rfl rfl ?_
    refine y_gf rfl rfl rfl rfl rfl ?_
    refine y_st rfl rfl rfl rfl rfl (fun _ _ => rfl) ?_
    refine y_gf rfl rfl rfl rfl rfl ?_
    show yP (xg xs) (d + 1) 88 180 [(5, .int (m.1 2 5)), (4, .int s0), (0, .ref 17), (1, .int l1), (2, .int l2)] [.int (m.1 17 4), .ref 11, .int (33 : Int32), .ref 17] m Q
    refine y_iald rfl rfl rfl (H.1) ?_
    replace H := H.2
    show yP (xg xs) (d + 1) 88 181 [(5, .int (m.1 2 5)), (4, .int s0), (0, .ref 17), (1, .int l1), (2, .int l2)] [.int (m.1 11 ((m.1 17 4).toNatClampNeg)), .int (33 : Int32), .ref 17] m Q
    refine y_call rfl rfl rfl rfl rfl (Nat.le_of_ble_eq_true rfl) (Nat.le_of_ble_eq_true rfl) rfl (by decide) H (fun v1 m1 H => ?_)
    obtain ⟨u1, rfl, H⟩ := H
    refine y_st rfl rfl rfl rfl rfl (fun _ _ => rfl) ?_
    refine y_st rfl rfl rfl rfl rfl (fun _ _ => rfl) ?_
    show yP (xg xs) (d + 1) 88 186 [(5, .int (m.1 2 5)), (4, .int s0), (0, .ref 17), (1, .int l1), (2, .int l2)] [.ref 17] m1 Q
    refine y_call rfl rfl rfl rfl rfl (Nat.le_of_ble_eq_true rfl) (Nat.le_of_ble_eq_true rfl) rfl (by decide) H (fun v2 m2 H => ?_)
    obtain ⟨rfl, H⟩ := H
    refine y_st rfl rfl rfl rfl rfl (fun _ _ => rfl) ?_
    show yP (xg xs) (d + 1) 88 190 [(5, .int (m.1 2 5)), (4, .int s0), (0, .ref 17), (1, .int l1), (2, .int l2)] [.ref 17] m2 Q
    refine y_call rfl rfl rfl rfl rfl (Nat.le_of_ble_eq_true rfl) (Nat.le_of_ble_eq_true rfl) rfl (by decide) H (fun v3 m3 H => ?_)
    obtain ⟨rfl, H⟩ := H
    show yP (xg xs) (d + 1) 88 193 [(5, .int (m.1 2 5)), (4, .int s0), (0, .ref 17), (1, .int l1), (2, .int l2)] [] m3 Q
    refine y_headS (l2 := [(0, .ref 17), (1, .int l1), (2, .int l2), (4, .int s0), (5, .int (m.1 2 5))]) [2, 3, 4, 1, 0] [0, 1, 2, 4, 5] [5, 4, 0, 1, 2] rfl rfl (by decide) rfl (by decide) ?_
    exact H
set_option maxRecDepth 20000 in
/-- CodeMaker.Reader.cell from 193 on -/
theorem w88_193 (xs : List Int32) (d : Nat) (l1 : Int32) (l2 : Int32) (l4 : Int32) (l5 : Int32) (m : yM) (Q : Option Value → yM → Prop) (H : (x_in (m.1 17 4) 8193 = true ∧ (yC (xg xs) d 82 [.ref 17, .int (64 : Int32), .int (6 : Int32), .int (m.1 11 ((m.1 17 4).toNatClampNeg))] m (fun v1 m1 => v1 = none ∧ ((l4 = 0 → yP (xg xs) (d + 1) 88 227 [(0, .ref 17), (1, .int l1), (2, .int l2)] [] m1 Q) ∧ (¬ l4 = 0 → (yC (xg xs) d 85 [.ref 2, .int l5] m1 (fun v2 m2 => v2 = none ∧ yP (xg xs) (d + 1) 88 227 [(0, .ref 17), (1, .int l1), (2, .int l2)] [] m2 Q)))))))) : yP (xg xs) (d + 1) 88 193 [(0, .ref 17), (1, .int l1), (2, .int l2), (4, .int l4), (5, .int l5)] [] m Q := by
  refine y_st rfl rfl rfl rfl rfl (fun _ _ => rfl) ?_
  refine y_st rfl rfl rfl rfl rfl (fun _ _ => rfl) ?_
  refine y_st rfl rfl rfl rfl rfl (fun _ _ => rfl) ?_
  refine y_st rfl rfl rfl rfl rfl (fun _ _ => rfl) ?_
  refine y_gf rfl rfl rfl rfl rfl ?_
  refine y_gf rfl rfl rfl rfl rfl ?_
  refine y_st rfl rfl rfl rfl rfl (fun _ _ => rfl) ?_
  refine y_gf rfl rfl rfl rfl rfl ?_
  show yP (xg xs) (d + 1) 88 209 [(0, .ref 17), (1, .int l1), (2, .int l2), (4, .int l4), (5, .int l5)] [.int (m.1 17 4), .ref 11, .int (6 : Int32), .int (64 : Int32), .ref 17] m Q
  refine y_iald rfl rfl rfl (H.1) ?_
  replace H := H.2
  show yP (xg xs) (d + 1) 88 210 [(0, .ref 17), (1, .int l1), (2, .int l2), (4, .int l4), (5, .int l5)] [.int (m.1 11 ((m.1 17 4).toNatClampNeg)), .int (6 : Int32), .int (64 : Int32), .ref 17] m Q
  refine y_call rfl rfl rfl rfl rfl (Nat.le_of_ble_eq_true rfl) (Nat.le_of_ble_eq_true rfl) rfl (by decide) H (fun v1 m1 H => ?_)
  obtain ⟨rfl, H⟩ := H
  refine y_st rfl rfl rfl rfl rfl (fun _ _ => rfl) ?_
  show yP (xg xs) (d + 1) 88 215 [(0, .ref 17), (1, .int l1), (2, .int l2), (4, .int l4), (5, .int l5)] [.int l4] m1 Q
  refine y_zeq (t := 227) rfl rfl rfl (fun h => ?_) (fun h => ?_)
  · replace H := H.1 h; clear h
    show yP (xg xs) (d + 1) 88 227 [(0, .ref 17), (1, .int l1), (2, .int l2), (4, .int l4), (5, .int l5)] [] m1 Q
    refine y_headS (l2 := [(0, .ref 17), (1, .int l1), (2, .int l2)]) [0, 1, 2] [0, 1, 2] [0, 1, 2, 4, 5] rfl rfl (by decide) rfl (by decide) ?_
    exact H
  · replace H := H.2 h; clear h
    refine y_st rfl rfl rfl rfl rfl (fun _ _ => rfl) ?_
    refine y_gf rfl rfl rfl rfl rfl ?_
    refine y_st rfl rfl rfl rfl rfl (fun _ _ => rfl) ?_
    show yP (xg xs) (d + 1) 88 224 [(0, .ref 17), (1, .int l1), (2, .int l2), (4, .int l4), (5, .int l5)] [.int l5, .ref 2] m1 Q
    refine y_call rfl rfl rfl rfl rfl (Nat.le_of_ble_eq_true rfl) (Nat.le_of_ble_eq_true rfl) rfl (by decide) H (fun v2 m2 H => ?_)
    obtain ⟨rfl, H⟩ := H
    show yP (xg xs) (d + 1) 88 227 [(0, .ref 17), (1, .int l1), (2, .int l2), (4, .int l4), (5, .int l5)] [] m2 Q
    refine y_headS (l2 := [(0, .ref 17), (1, .int l1), (2, .int l2)]) [0, 1, 2] [0, 1, 2] [0, 1, 2, 4, 5] rfl rfl (by decide) rfl (by decide) ?_
    exact H
set_option maxRecDepth 20000 in
/-- CodeMaker.Reader.cell from 227 on -/
theorem w88_227 (xs : List Int32) (d : Nat) (l1 : Int32) (l2 : Int32) (m : yM) (Q : Option Value → yM → Prop) (H : ((l1 = 0 → yP (xg xs) (d + 1) 88 238 [(0, .ref 17), (2, .int l2)] [] m Q) ∧ (¬ l1 = 0 → (yC (xg xs) d 77 [.ref 17, .int (169 : Int32)] m (fun v1 m1 => v1 = none ∧ yP (xg xs) (d + 1) 88 238 [(0, .ref 17), (2, .int l2)] [] m1 Q))))) : yP (xg xs) (d + 1) 88 227 [(0, .ref 17), (1, .int l1), (2, .int l2)] [] m Q := by
  refine y_st rfl rfl rfl rfl rfl (fun _ _ => rfl) ?_
  show yP (xg xs) (d + 1) 88 228 [(0, .ref 17), (1, .int l1), (2, .int l2)] [.int l1] m Q
  refine y_zeq (t := 238) rfl rfl rfl (fun h => ?_) (fun h => ?_)
  · replace H := H.1 h; clear h
    show yP (xg xs) (d + 1) 88 238 [(0, .ref 17), (1, .int l1), (2, .int l2)] [] m Q
    refine y_headS (l2 := [(0, .ref 17), (2, .int l2)]) [0, 2] [0, 2] [0, 1, 2] rfl rfl (by decide) rfl (by decide) ?_
    exact H
  · replace H := H.2 h; clear h
    refine y_st rfl rfl rfl rfl rfl (fun _ _ => rfl) ?_
    refine y_st rfl rfl rfl rfl rfl (fun _ _ => rfl) ?_
    show yP (xg xs) (d + 1) 88 235 [(0, .ref 17), (1, .int l1), (2, .int l2)] [.int (169 : Int32), .ref 17] m Q
    refine y_call rfl rfl rfl rfl rfl (Nat.le_of_ble_eq_true rfl) (Nat.le_of_ble_eq_true rfl) rfl (by decide) H (fun v1 m1 H => ?_)
    obtain ⟨rfl, H⟩ := H
    show yP (xg xs) (d + 1) 88 238 [(0, .ref 17), (1, .int l1), (2, .int l2)] [] m1 Q
    refine y_headS (l2 := [(0, .ref 17), (2, .int l2)]) [0, 2] [0, 2] [0, 1, 2] rfl rfl (by decide) rfl (by decide) ?_
    exact H
set_option maxRecDepth 20000 in
/-- CodeMaker.Reader.cell from 238 on -/
theorem w88_238 (xs : List Int32) (d : Nat) (l2 : Int32) (m : yM) (Q : Option Value → yM → Prop) (H : (yC (xg xs) d 85 [.ref 2, .int l2] m (fun v1 m1 => v1 = none ∧ Q none m1))) : yP (xg xs) (d + 1) 88 238 [(0, .ref 17), (2, .int l2)] [] m Q := by
  refine y_st rfl rfl rfl rfl rfl (fun _ _ => rfl) ?_
  refine y_gf rfl rfl rfl rfl rfl ?_
  refine y_st rfl rfl rfl rfl rfl (fun _ _ => rfl) ?_
  show yP (xg xs) (d + 1) 88 243 [(0, .ref 17), (2, .int l2)] [.int l2, .ref 2] m Q
  refine y_call rfl rfl rfl rfl rfl (Nat.le_of_ble_eq_true rfl) (Nat.le_of_ble_eq_true rfl) rfl (by decide) H (fun v1 m1 H => ?_)
  obtain ⟨rfl, H⟩ := H
  show yP (xg xs) (d + 1) 88 246 [(0, .ref 17), (2, .int l2)] [] m1 Q
  exact y_ret rfl rfl rfl rfl H
set_option maxRecDepth 20000 in
/-- CodeMaker.Reader.coilWay from 0 on -/
theorem w89_0 (xs : List Int32) (d : Nat) (m : yM) (Q : Option Value → yM → Prop) (H : ((¬ (m.1 17 5) = (175 : Int32) → ((¬ (m.1 17 5) = (171 : Int32) → ((¬ (m.1 17 5) = (173 : Int32) → Q (some (.int (0 : Int32))) m) ∧ ((m.1 17 5) = (173 : Int32) → Q (some (.int (3 : Int32))) m))) ∧ ((m.1 17 5) = (171 : Int32) → Q (some (.int (2 : Int32))) m))) ∧ ((m.1 17 5) = (175 : Int32) → Q (some (.int (1 : Int32))) m))) : yP (xg xs) (d + 1) 89 0 [(0, .ref 17)] [] m Q := by
  refine y_st rfl rfl rfl rfl rfl (fun _ _ => rfl) ?_
  refine y_gf rfl rfl rfl rfl rfl ?_
  refine y_st rfl rfl rfl rfl rfl (fun _ _ => rfl) ?_
  show yP (xg xs) (d + 1) 89 7 [(0, .ref 17)] [.int (175 : Int32), .int (m.1 17 5)] m Q
  refine y_ine (t := 14) rfl rfl rfl (fun h => ?_) (fun h => ?_)
  · replace H := H.1 h; clear h
    refine y_st rfl rfl rfl rfl rfl (fun _ _ => rfl) ?_
    refine y_gf rfl rfl rfl rfl rfl ?_
    refine y_st rfl rfl rfl rfl rfl (fun _ _ => rfl) ?_
    show yP (xg xs) (d + 1) 89 21 [(0, .ref 17)] [.int (171 : Int32), .int (m.1 17 5)] m Q
    refine y_ine (t := 28) rfl rfl rfl (fun h => ?_) (fun h => ?_)
    · replace H := H.1 h; clear h
      refine y_st rfl rfl rfl rfl rfl (fun _ _ => rfl) ?_
      refine y_gf rfl rfl rfl rfl rfl ?_
      refine y_st rfl rfl rfl rfl rfl (fun _ _ => rfl) ?_
      show yP (xg xs) (d + 1) 89 35 [(0, .ref 17)] [.int (173 : Int32), .int (m.1 17 5)] m Q
      refine y_ine (t := 42) rfl rfl rfl (fun h => ?_) (fun h => ?_)
      · replace H := H.1 h; clear h
        refine y_st rfl rfl rfl rfl rfl (fun _ _ => rfl) ?_
        show yP (xg xs) (d + 1) 89 43 [(0, .ref 17)] [.int (0 : Int32)] m Q
        exact y_iret rfl rfl rfl H
      · replace H := H.2 h; clear h
        refine y_st rfl rfl rfl rfl rfl (fun _ _ => rfl) ?_
        refine y_st rfl rfl rfl rfl rfl (fun _ _ => rfl) ?_
        show yP (xg xs) (d + 1) 89 43 [(0, .ref 17)] [.int (3 : Int32)] m Q
        exact y_iret rfl rfl rfl H
    · replace H := H.2 h; clear h
      refine y_st rfl rfl rfl rfl rfl (fun _ _ => rfl) ?_
      refine y_st rfl rfl rfl rfl rfl (fun _ _ => rfl) ?_
      show yP (xg xs) (d + 1) 89 43 [(0, .ref 17)] [.int (2 : Int32)] m Q
      exact y_iret rfl rfl rfl H
  · replace H := H.2 h; clear h
    refine y_st rfl rfl rfl rfl rfl (fun _ _ => rfl) ?_
    refine y_st rfl rfl rfl rfl rfl (fun _ _ => rfl) ?_
    show yP (xg xs) (d + 1) 89 43 [(0, .ref 17)] [.int (1 : Int32)] m Q
    exact y_iret rfl rfl rfl H
set_option maxRecDepth 20000 in
/-- CodeMaker.Reader.contactWay from 0 on -/
theorem w90_0 (xs : List Int32) (d : Nat) (m : yM) (Q : Option Value → yM → Prop) (H : ((¬ (m.1 17 5) = (175 : Int32) → ((¬ (m.1 17 5) = (190 : Int32) → ((¬ (m.1 17 5) = (188 : Int32) → Q (some (.int (0 : Int32))) m) ∧ ((m.1 17 5) = (188 : Int32) → Q (some (.int (3 : Int32))) m))) ∧ ((m.1 17 5) = (190 : Int32) → Q (some (.int (2 : Int32))) m))) ∧ ((m.1 17 5) = (175 : Int32) → Q (some (.int (1 : Int32))) m))) : yP (xg xs) (d + 1) 90 0 [(0, .ref 17)] [] m Q := by
  refine y_st rfl rfl rfl rfl rfl (fun _ _ => rfl) ?_
  refine y_gf rfl rfl rfl rfl rfl ?_
  refine y_st rfl rfl rfl rfl rfl (fun _ _ => rfl) ?_
  show yP (xg xs) (d + 1) 90 7 [(0, .ref 17)] [.int (175 : Int32), .int (m.1 17 5)] m Q
  refine y_ine (t := 14) rfl rfl rfl (fun h => ?_) (fun h => ?_)
  · replace H := H.1 h; clear h
    refine y_st rfl rfl rfl rfl rfl (fun _ _ => rfl) ?_
    refine y_gf rfl rfl rfl rfl rfl ?_
    refine y_st rfl rfl rfl rfl rfl (fun _ _ => rfl) ?_
    show yP (xg xs) (d + 1) 90 21 [(0, .ref 17)] [.int (190 : Int32), .int (m.1 17 5)] m Q
    refine y_ine (t := 28) rfl rfl rfl (fun h => ?_) (fun h => ?_)
    · replace H := H.1 h; clear h
      refine y_st rfl rfl rfl rfl rfl (fun _ _ => rfl) ?_
      refine y_gf rfl rfl rfl rfl rfl ?_
      refine y_st rfl rfl rfl rfl rfl (fun _ _ => rfl) ?_
      show yP (xg xs) (d + 1) 90 35 [(0, .ref 17)] [.int (188 : Int32), .int (m.1 17 5)] m Q
      refine y_ine (t := 42) rfl rfl rfl (fun h => ?_) (fun h => ?_)
      · replace H := H.1 h; clear h
        refine y_st rfl rfl rfl rfl rfl (fun _ _ => rfl) ?_
        show yP (xg xs) (d + 1) 90 43 [(0, .ref 17)] [.int (0 : Int32)] m Q
        exact y_iret rfl rfl rfl H
      · replace H := H.2 h; clear h
        refine y_st rfl rfl rfl rfl rfl (fun _ _ => rfl) ?_
        refine y_st rfl rfl rfl rfl rfl (fun _ _ => rfl) ?_
        show yP (xg xs) (d + 1) 90 43 [(0, .ref 17)] [.int (3 : Int32)] m Q
        exact y_iret rfl rfl rfl H
    · replace H := H.2 h; clear h
      refine y_st rfl rfl rfl rfl rfl (fun _ _ => rfl) ?_
      refine y_st rfl rfl rfl rfl rfl (fun _ _ => rfl) ?_
      show yP (xg xs) (d + 1) 90 43 [(0, .ref 17)] [.int (2 : Int32)] m Q
      exact y_iret rfl rfl rfl H
  · replace H := H.2 h; clear h
    refine y_st rfl rfl rfl rfl rfl (fun _ _ => rfl) ?_
    refine y_st rfl rfl rfl rfl rfl (fun _ _ => rfl) ?_
    show yP (xg xs) (d + 1) 90 43 [(0, .ref 17)] [.int (1 : Int32)] m Q
    exact y_iret rfl rfl rfl H
set_option maxRecDepth 20000 in
/-- CodeMaker.Reader.nextKind from 0 on -/
theorem w91_0 (xs : List Int32) (d : Nat) (m : yM) (Q : Option Value → yM → Prop) (H : (((8192 : Int32) ≤ (m.1 17 4) → Q (some (.int (67 : Int32))) m) ∧ (¬ (8192 : Int32) ≤ (m.1 17 4) → (x_in ((m.1 17 4) + (1 : Int32)) 8193 = true ∧ Q (some (.int (m.1 9 (((m.1 17 4) + (1 : Int32)).toNatClampNeg)))) m)))) : yP (xg xs) (d + 1) 91 0 [(0, .ref 17)] [] m Q := by
  refine y_st rfl rfl rfl rfl rfl (fun _ _ => rfl) ?_
  refine y_gf rfl rfl rfl rfl rfl ?_
  refine y_st rfl rfl rfl rfl rfl (fun _ _ => rfl) ?_
  show yP (xg xs) (d + 1) 91 7 [(0, .ref 17)] [.int (8192 : Int32), .int (m.1 17 4)] m Q
  refine y_ige (t := 27) rfl rfl rfl (fun h => ?_) (fun h => ?_)
  · replace H := H.1 h; clear h
    refine y_st rfl rfl rfl rfl rfl (fun _ _ => rfl) ?_
    show yP (xg xs) (d + 1) 91 29 [(0, .ref 17)] [.int (67 : Int32)] m Q
    exact y_iret rfl rfl rfl H
  · replace H := H.2 h; clear h
    refine y_st rfl rfl rfl rfl rfl (fun _ _ => rfl) ?_
    refine y_gf rfl rfl rfl rfl rfl ?_
    refine y_gf rfl rfl rfl rfl rfl ?_
    refine y_st rfl rfl rfl rfl rfl (fun _ _ => rfl) ?_
    refine y_gf rfl rfl rfl rfl rfl ?_
    refine y_st rfl rfl rfl rfl rfl (fun _ _ => rfl) ?_
    refine y_st rfl rfl rfl rfl rfl (fun _ _ => rfl) ?_
    show yP (xg xs) (d + 1) 91 23 [(0, .ref 17)] [.int ((m.1 17 4) + (1 : Int32)), .ref 9] m Q
    refine y_iald rfl rfl rfl (H.1) ?_
    replace H := H.2
    refine y_st rfl rfl rfl rfl rfl (fun _ _ => rfl) ?_
    show yP (xg xs) (d + 1) 91 29 [(0, .ref 17)] [.int (m.1 9 (((m.1 17 4) + (1 : Int32)).toNatClampNeg))] m Q
    exact y_iret rfl rfl rfl H
set_option maxRecDepth 20000 in
/-- CodeMaker.Reader.startsCell from 0 on -/
theorem w92_0 (xs : List Int32) (d : Nat) (m : yM) (Q : Option Value → yM → Prop) (H : (((m.1 17 5) = (64 : Int32) → Q (some (.int (1 : Int32))) m) ∧ (¬ (m.1 17 5) = (64 : Int32) → (((m.1 17 5) = (175 : Int32) → Q (some (.int (1 : Int32))) m) ∧ (¬ (m.1 17 5) = (175 : Int32) → (((m.1 17 5) = (190 : Int32) → Q (some (.int (1 : Int32))) m) ∧ (¬ (m.1 17 5) = (190 : Int32) → (((m.1 17 5) = (188 : Int32) → Q (some (.int (1 : Int32))) m) ∧ (¬ (m.1 17 5) = (188 : Int32) → (((m.1 17 5) = (173 : Int32) → Q (some (.int (1 : Int32))) m) ∧ (¬ (m.1 17 5) = (173 : Int32) → (((m.1 17 5) = (170 : Int32) → Q (some (.int (1 : Int32))) m) ∧ (¬ (m.1 17 5) = (170 : Int32) → ((¬ (m.1 17 5) = (168 : Int32) → Q (some (.int (0 : Int32))) m) ∧ ((m.1 17 5) = (168 : Int32) → Q (some (.int (1 : Int32))) m))))))))))))))) : yP (xg xs) (d + 1) 92 0 [(0, .ref 17)] [] m Q := by
  refine y_st rfl rfl rfl rfl rfl (fun _ _ => rfl) ?_
  refine y_gf rfl rfl rfl rfl rfl ?_
  refine y_st rfl rfl rfl rfl rfl (fun _ _ => rfl) ?_
  show yP (xg xs) (d + 1) 92 6 [(0, .ref 17)] [.int (64 : Int32), .int (m.1 17 5)] m Q
  refine y_ieq (t := 69) rfl rfl rfl (fun h => ?_) (fun h => ?_)
  · replace H := H.1 h; clear h
    refine y_st rfl rfl rfl rfl rfl (fun _ _ => rfl) ?_
    refine y_st rfl rfl rfl rfl rfl (fun _ _ => rfl) ?_
    show yP (xg xs) (d + 1) 92 74 [(0, .ref 17)] [.int (1 : Int32)] m Q
    exact y_zret rfl rfl rfl (by decide) H
  · replace H := H.2 h; clear h
    refine y_st rfl rfl rfl rfl rfl (fun _ _ => rfl) ?_
    refine y_gf rfl rfl rfl rfl rfl ?_
    refine y_st rfl rfl rfl rfl rfl (fun _ _ => rfl) ?_
    show yP (xg xs) (d + 1) 92 16 [(0, .ref 17)] [.int (175 : Int32), .int (m.1 17 5)] m Q
    refine y_ieq (t := 69) rfl rfl rfl (fun h => ?_) (fun h => ?_)
    · replace H := H.1 h; clear h
      refine y_st rfl rfl rfl rfl rfl (fun _ _ => rfl) ?_
      refine y_st rfl rfl rfl rfl rfl (fun _ _ => rfl) ?_
      show yP (xg xs) (d + 1) 92 74 [(0, .ref 17)] [.int (1 : Int32)] m Q
      exact y_zret rfl rfl rfl (by decide) H
    · replace H := H.2 h; clear h
      refine y_st rfl rfl rfl rfl rfl (fun _ _ => rfl) ?_
      refine y_gf rfl rfl rfl rfl rfl ?_
      refine y_st rfl rfl rfl rfl rfl (fun _ _ => rfl) ?_
      show yP (xg xs) (d + 1) 92 26 [(0, .ref 17)] [.int (190 : Int32), .int (m.1 17 5)] m Q
      refine y_ieq (t := 69) rfl rfl rfl (fun h => ?_) (fun h => ?_)
      · replace H := H.1 h; clear h
        refine y_st rfl rfl rfl rfl rfl (fun _ _ => rfl) ?_
        refine y_st rfl rfl rfl rfl rfl (fun _ _ => rfl) ?_
        show yP (xg xs) (d + 1) 92 74 [(0, .ref 17)] [.int (1 : Int32)] m Q
        exact y_zret rfl rfl rfl (by decide) H
      · replace H := H.2 h; clear h
        refine y_st rfl rfl rfl rfl rfl (fun _ _ => rfl) ?_
        refine y_gf rfl rfl rfl rfl rfl ?_
        refine y_st rfl rfl rfl rfl rfl (fun _ _ => rfl) ?_
        show yP (xg xs) (d + 1) 92 36 [(0, .ref 17)] [.int (188 : Int32), .int (m.1 17 5)] m Q
        refine y_ieq (t := 69) rfl rfl rfl (fun h => ?_) (fun h => ?_)
        · replace H := H.1 h; clear h
          refine y_st rfl rfl rfl rfl rfl (fun _ _ => rfl) ?_
          refine y_st rfl rfl rfl rfl rfl (fun _ _ => rfl) ?_
          show yP (xg xs) (d + 1) 92 74 [(0, .ref 17)] [.int (1 : Int32)] m Q
          exact y_zret rfl rfl rfl (by decide) H
        · replace H := H.2 h; clear h
          refine y_st rfl rfl rfl rfl rfl (fun _ _ => rfl) ?_
          refine y_gf rfl rfl rfl rfl rfl ?_
          refine y_st rfl rfl rfl rfl rfl (fun _ _ => rfl) ?_
          show yP (xg xs) (d + 1) 92 46 [(0, .ref 17)] [.int (173 : Int32), .int (m.1 17 5)] m Q
          refine y_ieq (t := 69) rfl rfl rfl (fun h => ?_) (fun h => ?_)
          · replace H := H.1 h; clear h
            refine y_st rfl rfl rfl rfl rfl (fun _ _ => rfl) ?_
            refine y_st rfl rfl rfl rfl rfl (fun _ _ => rfl) ?_
            show yP (xg xs) (d + 1) 92 74 [(0, .ref 17)] [.int (1 : Int32)] m Q
            exact y_zret rfl rfl rfl (by decide) H
          · replace H := H.2 h; clear h
            refine y_st rfl rfl rfl rfl rfl (fun _ _ => rfl) ?_
            refine y_gf rfl rfl rfl rfl rfl ?_
            refine y_st rfl rfl rfl rfl rfl (fun _ _ => rfl) ?_
            show yP (xg xs) (d + 1) 92 56 [(0, .ref 17)] [.int (170 : Int32), .int (m.1 17 5)] m Q
            refine y_ieq (t := 69) rfl rfl rfl (fun h => ?_) (fun h => ?_)
            · replace H := H.1 h; clear h
              refine y_st rfl rfl rfl rfl rfl (fun _ _ => rfl) ?_
              refine y_st rfl rfl rfl rfl rfl (fun _ _ => rfl) ?_
              show yP (xg xs) (d + 1) 92 74 [(0, .ref 17)] [.int (1 : Int32)] m Q
              exact y_zret rfl rfl rfl (by decide) H
            · replace H := H.2 h; clear h
              refine y_st rfl rfl rfl rfl rfl (fun _ _ => rfl) ?_
              refine y_gf rfl rfl rfl rfl rfl ?_
              refine y_st rfl rfl rfl rfl rfl (fun _ _ => rfl) ?_
              show yP (xg xs) (d + 1) 92 66 [(0, .ref 17)] [.int (168 : Int32), .int (m.1 17 5)] m Q
              refine y_ine (t := 73) rfl rfl rfl (fun h => ?_) (fun h => ?_)
              · replace H := H.1 h; clear h
                refine y_st rfl rfl rfl rfl rfl (fun _ _ => rfl) ?_
                show yP (xg xs) (d + 1) 92 74 [(0, .ref 17)] [.int (0 : Int32)] m Q
                exact y_zret rfl rfl rfl (by decide) H
              · replace H := H.2 h; clear h
                refine y_st rfl rfl rfl rfl rfl (fun _ _ => rfl) ?_
                refine y_st rfl rfl rfl rfl rfl (fun _ _ => rfl) ?_
                show yP (xg xs) (d + 1) 92 74 [(0, .ref 17)] [.int (1 : Int32)] m Q
                exact y_zret rfl rfl rfl (by decide) H
set_option maxRecDepth 20000 in
/-- CodeMaker.Reader.body from 0 on -/
theorem w93_0 (xs : List Int32) (d : Nat) (m : yM) (Q : Option Value → yM → Prop) (H : (((m.1 17 4) ≤ 0 → yP (xg xs) (d + 1) 93 31 [(0, .ref 17)] [.int (0 : Int32), .int (11 : Int32), .ref 2] m Q) ∧ (¬ (m.1 17 4) ≤ 0 → (x_in ((m.1 17 4) - (1 : Int32)) 8193 = true ∧ yP (xg xs) (d + 1) 93 31 [(0, .ref 17)] [.int (m.1 10 (((m.1 17 4) - (1 : Int32)).toNatClampNeg)), .int (11 : Int32), .ref 2] m Q)))) : yP (xg xs) (d + 1) 93 0 [(0, .ref 17)] [] m Q := by
  refine y_st rfl rfl rfl rfl rfl (fun _ _ => rfl) ?_
  refine y_gf rfl rfl rfl rfl rfl ?_
  refine y_st rfl rfl rfl rfl rfl (fun _ _ => rfl) ?_
  refine y_st rfl rfl rfl rfl rfl (fun _ _ => rfl) ?_
  refine y_gf rfl rfl rfl rfl rfl ?_
  show yP (xg xs) (d + 1) 93 10 [(0, .ref 17)] [.int (m.1 17 4), .int (11 : Int32), .ref 2] m Q
  refine y_zle (t := 30) rfl rfl rfl (fun h => ?_) (fun h => ?_)
  · replace H := H.1 h; clear h
    refine y_st rfl rfl rfl rfl rfl (fun _ _ => rfl) ?_
    show yP (xg xs) (d + 1) 93 31 [(0, .ref 17)] [.int (0 : Int32), .int (11 : Int32), .ref 2] m Q
    exact H
  · replace H := H.2 h; clear h
    refine y_st rfl rfl rfl rfl rfl (fun _ _ => rfl) ?_
    refine y_gf rfl rfl rfl rfl rfl ?_
    refine y_gf rfl rfl rfl rfl rfl ?_
    refine y_st rfl rfl rfl rfl rfl (fun _ _ => rfl) ?_
    refine y_gf rfl rfl rfl rfl rfl ?_
    refine y_st rfl rfl rfl rfl rfl (fun _ _ => rfl) ?_
    refine y_st rfl rfl rfl rfl rfl (fun _ _ => rfl) ?_
    show yP (xg xs) (d + 1) 93 26 [(0, .ref 17)] [.int ((m.1 17 4) - (1 : Int32)), .ref 10, .int (11 : Int32), .ref 2] m Q
    refine y_iald rfl rfl rfl (H.1) ?_
    replace H := H.2
    refine y_st rfl rfl rfl rfl rfl (fun _ _ => rfl) ?_
    show yP (xg xs) (d + 1) 93 31 [(0, .ref 17)] [.int (m.1 10 (((m.1 17 4) - (1 : Int32)).toNatClampNeg)), .int (11 : Int32), .ref 2] m Q
    exact H
set_option maxRecDepth 20000 in
/-- CodeMaker.Reader.body from 31 on -/
theorem w93_31 (xs : List Int32) (d : Nat) (s1 : Int32) (s2 : Int32) (m : yM) (Q : Option Value → yM → Prop) (H : (yC (xg xs) d 72 [.ref 2, .int s1, .int s2, .int (0 : Int32)] m (fun v1 m1 => ∃ u1, v1 = some (Value.int u1) ∧ yP (xg xs) (d + 1) 93 38 [(0, .ref 17), (1, .int u1), (2, .int (0 : Int32))] [] m1 Q))) : yP (xg xs) (d + 1) 93 31 [(0, .ref 17)] [.int s2, .int s1, .ref 2] m Q := by
  refine y_st rfl rfl rfl rfl rfl (fun _ _ => rfl) ?_
  show yP (xg xs) (d + 1) 93 32 [(0, .ref 17)] [.int (0 : Int32), .int s2, .int s1, .ref 2] m Q
  refine y_call rfl rfl rfl rfl rfl (Nat.le_of_ble_eq_true rfl) (Nat.le_of_ble_eq_true rfl) rfl (by decide) H (fun v1 m1 H => ?_)
  obtain ⟨u1, rfl, H⟩ := H
  refine y_st rfl rfl rfl rfl rfl (fun _ _ => rfl) ?_
  refine y_st rfl rfl rfl rfl rfl (fun _ _ => rfl) ?_
  refine y_st rfl rfl rfl rfl rfl (fun _ _ => rfl) ?_
  show yP (xg xs) (d + 1) 93 38 [(2, .int (0 : Int32)), (1, .int u1), (0, .ref 17)] [] m1 Q
  refine y_headS (l2 := [(0, .ref 17), (1, .int u1), (2, .int (0 : Int32))]) [2, 1, 0] [0, 1, 2] [2, 1, 0] rfl rfl (by decide) rfl (by decide) ?_
  exact H
set_option maxRecDepth 20000 in
/-- CodeMaker.Reader.body from 38 on -/
theorem w93_38 (xs : List Int32) (d : Nat) (l1 : Int32) (l2 : Int32) (m : yM) (Q : Option Value → yM → Prop) (H : (((8192 : Int32) ≤ l2 → yP (xg xs) (d + 1) 93 62 [(0, .ref 17), (1, .int l1)] [] m Q) ∧ (¬ (8192 : Int32) ≤ l2 → (yC (xg xs) d 94 [.ref 17] m (fun v1 m1 => ∃ u1, v1 = some (Value.int u1) ∧ ((u1 = 0 → yP (xg xs) (d + 1) 93 62 [(0, .ref 17), (1, .int l1)] [] m1 Q) ∧ (¬ u1 = 0 → (yC (xg xs) d 95 [.ref 17] m1 (fun v2 m2 => v2 = none ∧ yP (xg xs) (d + 1) 93 38 [(0, .ref 17), (1, .int l1), (2, .int (l2 + (1 : Int32)))] [] m2 Q))))))))) : yP (xg xs) (d + 1) 93 38 [(0, .ref 17), (1, .int l1), (2, .int l2)] [] m Q := by
  refine y_st rfl rfl rfl rfl rfl (fun _ _ => rfl) ?_
  refine y_st rfl rfl rfl rfl rfl (fun _ _ => rfl) ?_
  show yP (xg xs) (d + 1) 93 42 [(0, .ref 17), (1, .int l1), (2, .int l2)] [.int (8192 : Int32), .int l2] m Q
  refine y_ige (t := 62) rfl rfl rfl (fun h => ?_) (fun h => ?_)
  · replace H := H.1 h; clear h
    show yP (xg xs) (d + 1) 93 62 [(0, .ref 17), (1, .int l1), (2, .int l2)] [] m Q
    refine y_headS (l2 := [(0, .ref 17), (1, .int l1)]) [0, 1] [0, 1] [0, 1, 2] rfl rfl (by decide) rfl (by decide) ?_
    exact H
  · replace H := H.2 h; clear h
    refine y_st rfl rfl rfl rfl rfl (fun _ _ => rfl) ?_
    show yP (xg xs) (d + 1) 93 46 [(0, .ref 17), (1, .int l1), (2, .int l2)] [.ref 17] m Q
    refine y_call rfl rfl rfl rfl rfl (Nat.le_of_ble_eq_true rfl) (Nat.le_of_ble_eq_true rfl) rfl (by decide) H (fun v1 m1 H => ?_)
    obtain ⟨u1, rfl, H⟩ := H
    show yP (xg xs) (d + 1) 93 49 [(0, .ref 17), (1, .int l1), (2, .int l2)] [.int u1] m1 Q
    refine y_zeq (t := 62) rfl rfl rfl (fun h => ?_) (fun h => ?_)
    · replace H := H.1 h; clear h
      show yP (xg xs) (d + 1) 93 62 [(0, .ref 17), (1, .int l1), (2, .int l2)] [] m1 Q
      refine y_headS (l2 := [(0, .ref 17), (1, .int l1)]) [0, 1] [0, 1] [0, 1, 2] rfl rfl (by decide) rfl (by decide) ?_
      exact H
    · replace H := H.2 h; clear h
      refine y_st rfl rfl rfl rfl rfl (fun _ _ => rfl) ?_
      show yP (xg xs) (d + 1) 93 53 [(0, .ref 17), (1, .int l1), (2, .int l2)] [.ref 17] m1 Q
      refine y_call rfl rfl rfl rfl rfl (Nat.le_of_ble_eq_true rfl) (Nat.le_of_ble_eq_true rfl) rfl (by decide) H (fun v2 m2 H => ?_)
      obtain ⟨rfl, H⟩ := H
      refine y_st rfl rfl rfl rfl rfl (fun _ _ => rfl) ?_
      refine y_st rfl rfl rfl rfl rfl (fun _ _ => rfl) ?_
      show yP (xg xs) (d + 1) 93 38 [(2, .int (l2 + (1 : Int32))), (0, .ref 17), (1, .int l1)] [] m2 Q
      refine y_headS (l2 := [(0, .ref 17), (1, .int l1), (2, .int (l2 + (1 : Int32)))]) [1, 2, 0] [0, 1, 2] [2, 0, 1] rfl rfl (by decide) rfl (by decide) ?_
      exact H
set_option maxRecDepth 20000 in
/-- CodeMaker.Reader.body from 62 on -/
theorem w93_62 (xs : List Int32) (d : Nat) (l1 : Int32) (m : yM) (Q : Option Value → yM → Prop) (H : (yC (xg xs) d 85 [.ref 2, .int l1] m (fun v1 m1 => v1 = none ∧ Q none m1))) : yP (xg xs) (d + 1) 93 62 [(0, .ref 17), (1, .int l1)] [] m Q := by
  refine y_st rfl rfl rfl rfl rfl (fun _ _ => rfl) ?_
  refine y_gf rfl rfl rfl rfl rfl ?_
  refine y_st rfl rfl rfl rfl rfl (fun _ _ => rfl) ?_
  show yP (xg xs) (d + 1) 93 67 [(0, .ref 17), (1, .int l1)] [.int l1, .ref 2] m Q
  refine y_call rfl rfl rfl rfl rfl (Nat.le_of_ble_eq_true rfl) (Nat.le_of_ble_eq_true rfl) rfl (by decide) H (fun v1 m1 H => ?_)
  obtain ⟨rfl, H⟩ := H
  show yP (xg xs) (d + 1) 93 70 [(0, .ref 17), (1, .int l1)] [] m1 Q
  exact y_ret rfl rfl rfl rfl H
set_option maxRecDepth 20000 in
/-- CodeMaker.Reader.startsStatement from 0 on -/
theorem w94_0 (xs : List Int32) (d : Nat) (m : yM) (Q : Option Value → yM → Prop) (H : (((m.1 17 5) = (187 : Int32) → Q (some (.int (1 : Int32))) m) ∧ (¬ (m.1 17 5) = (187 : Int32) → (((m.1 17 5) = (64 : Int32) → Q (some (.int (1 : Int32))) m) ∧ (¬ (m.1 17 5) = (64 : Int32) → (((m.1 17 5) = (16 : Int32) → Q (some (.int (1 : Int32))) m) ∧ (¬ (m.1 17 5) = (16 : Int32) → (((m.1 17 5) = (21 : Int32) → Q (some (.int (1 : Int32))) m) ∧ (¬ (m.1 17 5) = (21 : Int32) → (((m.1 17 5) = (23 : Int32) → Q (some (.int (1 : Int32))) m) ∧ (¬ (m.1 17 5) = (23 : Int32) → (((m.1 17 5) = (28 : Int32) → Q (some (.int (1 : Int32))) m) ∧ (¬ (m.1 17 5) = (28 : Int32) → ((¬ (m.1 17 5) = (29 : Int32) → Q (some (.int (0 : Int32))) m) ∧ ((m.1 17 5) = (29 : Int32) → Q (some (.int (1 : Int32))) m))))))))))))))) : yP (xg xs) (d + 1) 94 0 [(0, .ref 17)] [] m Q := by
  refine y_st rfl rfl rfl rfl rfl (fun _ _ => rfl) ?_
  refine y_gf rfl rfl rfl rfl rfl ?_
  refine y_st rfl rfl rfl rfl rfl (fun _ _ => rfl) ?_
  show yP (xg xs) (d + 1) 94 7 [(0, .ref 17)] [.int (187 : Int32), .int (m.1 17 5)] m Q
  refine y_ieq (t := 64) rfl rfl rfl (fun h => ?_) (fun h => ?_)
  · replace H := H.1 h; clear h
    refine y_st rfl rfl rfl rfl rfl (fun _ _ => rfl) ?_
    refine y_st rfl rfl rfl rfl rfl (fun _ _ => rfl) ?_
    show yP (xg xs) (d + 1) 94 69 [(0, .ref 17)] [.int (1 : Int32)] m Q
    exact y_zret rfl rfl rfl (by decide) H
  · replace H := H.2 h; clear h
    refine y_st rfl rfl rfl rfl rfl (fun _ _ => rfl) ?_
    refine y_gf rfl rfl rfl rfl rfl ?_
    refine y_st rfl rfl rfl rfl rfl (fun _ _ => rfl) ?_
    show yP (xg xs) (d + 1) 94 16 [(0, .ref 17)] [.int (64 : Int32), .int (m.1 17 5)] m Q
    refine y_ieq (t := 64) rfl rfl rfl (fun h => ?_) (fun h => ?_)
    · replace H := H.1 h; clear h
      refine y_st rfl rfl rfl rfl rfl (fun _ _ => rfl) ?_
      refine y_st rfl rfl rfl rfl rfl (fun _ _ => rfl) ?_
      show yP (xg xs) (d + 1) 94 69 [(0, .ref 17)] [.int (1 : Int32)] m Q
      exact y_zret rfl rfl rfl (by decide) H
    · replace H := H.2 h; clear h
      refine y_st rfl rfl rfl rfl rfl (fun _ _ => rfl) ?_
      refine y_gf rfl rfl rfl rfl rfl ?_
      refine y_st rfl rfl rfl rfl rfl (fun _ _ => rfl) ?_
      show yP (xg xs) (d + 1) 94 25 [(0, .ref 17)] [.int (16 : Int32), .int (m.1 17 5)] m Q
      refine y_ieq (t := 64) rfl rfl rfl (fun h => ?_) (fun h => ?_)
      · replace H := H.1 h; clear h
        refine y_st rfl rfl rfl rfl rfl (fun _ _ => rfl) ?_
        refine y_st rfl rfl rfl rfl rfl (fun _ _ => rfl) ?_
        show yP (xg xs) (d + 1) 94 69 [(0, .ref 17)] [.int (1 : Int32)] m Q
        exact y_zret rfl rfl rfl (by decide) H
      · replace H := H.2 h; clear h
        refine y_st rfl rfl rfl rfl rfl (fun _ _ => rfl) ?_
        refine y_gf rfl rfl rfl rfl rfl ?_
        refine y_st rfl rfl rfl rfl rfl (fun _ _ => rfl) ?_
        show yP (xg xs) (d + 1) 94 34 [(0, .ref 17)] [.int (21 : Int32), .int (m.1 17 5)] m Q
        refine y_ieq (t := 64) rfl rfl rfl (fun h => ?_) (fun h => ?_)
        · replace H := H.1 h; clear h
          refine y_st rfl rfl rfl rfl rfl (fun _ _ => rfl) ?_
          refine y_st rfl rfl rfl rfl rfl (fun _ _ => rfl) ?_
          show yP (xg xs) (d + 1) 94 69 [(0, .ref 17)] [.int (1 : Int32)] m Q
          exact y_zret rfl rfl rfl (by decide) H
        · replace H := H.2 h; clear h
          refine y_st rfl rfl rfl rfl rfl (fun _ _ => rfl) ?_
          refine y_gf rfl rfl rfl rfl rfl ?_
          refine y_st rfl rfl rfl rfl rfl (fun _ _ => rfl) ?_
          show yP (xg xs) (d + 1) 94 43 [(0, .ref 17)] [.int (23 : Int32), .int (m.1 17 5)] m Q
          refine y_ieq (t := 64) rfl rfl rfl (fun h => ?_) (fun h => ?_)
          · replace H := H.1 h; clear h
            refine y_st rfl rfl rfl rfl rfl (fun _ _ => rfl) ?_
            refine y_st rfl rfl rfl rfl rfl (fun _ _ => rfl) ?_
            show yP (xg xs) (d + 1) 94 69 [(0, .ref 17)] [.int (1 : Int32)] m Q
            exact y_zret rfl rfl rfl (by decide) H
          · replace H := H.2 h; clear h
            refine y_st rfl rfl rfl rfl rfl (fun _ _ => rfl) ?_
            refine y_gf rfl rfl rfl rfl rfl ?_
            refine y_st rfl rfl rfl rfl rfl (fun _ _ => rfl) ?_
            show yP (xg xs) (d + 1) 94 52 [(0, .ref 17)] [.int (28 : Int32), .int (m.1 17 5)] m Q
            refine y_ieq (t := 64) rfl rfl rfl (fun h => ?_) (fun h => ?_)
            · replace H := H.1 h; clear h
              refine y_st rfl rfl rfl rfl rfl (fun _ _ => rfl) ?_
              refine y_st rfl rfl rfl rfl rfl (fun _ _ => rfl) ?_
              show yP (xg xs) (d + 1) 94 69 [(0, .ref 17)] [.int (1 : Int32)] m Q
              exact y_zret rfl rfl rfl (by decide) H
            · replace H := H.2 h; clear h
              refine y_st rfl rfl rfl rfl rfl (fun _ _ => rfl) ?_
              refine y_gf rfl rfl rfl rfl rfl ?_
              refine y_st rfl rfl rfl rfl rfl (fun _ _ => rfl) ?_
              show yP (xg xs) (d + 1) 94 61 [(0, .ref 17)] [.int (29 : Int32), .int (m.1 17 5)] m Q
              refine y_ine (t := 68) rfl rfl rfl (fun h => ?_) (fun h => ?_)
              · replace H := H.1 h; clear h
                refine y_st rfl rfl rfl rfl rfl (fun _ _ => rfl) ?_
                show yP (xg xs) (d + 1) 94 69 [(0, .ref 17)] [.int (0 : Int32)] m Q
                exact y_zret rfl rfl rfl (by decide) H
              · replace H := H.2 h; clear h
                refine y_st rfl rfl rfl rfl rfl (fun _ _ => rfl) ?_
                refine y_st rfl rfl rfl rfl rfl (fun _ _ => rfl) ?_
                show yP (xg xs) (d + 1) 94 69 [(0, .ref 17)] [.int (1 : Int32)] m Q
                exact y_zret rfl rfl rfl (by decide) H
set_option maxRecDepth 20000 in
/-- CodeMaker.Reader.statement from 0 on -/
theorem w95_0 (xs : List Int32) (d : Nat) (m : yM) (Q : Option Value → yM → Prop) (H : (((m.1 17 5) = (16 : Int32) → (yC (xg xs) d 96 [.ref 17] m (fun v1 m1 => v1 = none ∧ yP (xg xs) (d + 1) 95 133 [(0, .ref 17)] [] m1 Q))) ∧ ((m.1 17 5) = (21 : Int32) → (yC (xg xs) d 104 [.ref 17] m (fun v2 m2 => v2 = none ∧ yP (xg xs) (d + 1) 95 133 [(0, .ref 17)] [] m2 Q))) ∧ ((m.1 17 5) = (23 : Int32) → (yC (xg xs) d 107 [.ref 17] m (fun v3 m3 => v3 = none ∧ yP (xg xs) (d + 1) 95 133 [(0, .ref 17)] [] m3 Q))) ∧ ((m.1 17 5) = (28 : Int32) → (yC (xg xs) d 82 [.ref 17, .int (28 : Int32), .int (20 : Int32), .int (0 : Int32)] m (fun v4 m4 => v4 = none ∧ yP (xg xs) (d + 1) 95 133 [(0, .ref 17)] [] m4 Q))) ∧ ((m.1 17 5) = (29 : Int32) → (yC (xg xs) d 82 [.ref 17, .int (29 : Int32), .int (21 : Int32), .int (0 : Int32)] m (fun v5 m5 => v5 = none ∧ yP (xg xs) (d + 1) 95 133 [(0, .ref 17)] [] m5 Q))) ∧ ((m.1 17 5) = (64 : Int32) → (yC (xg xs) d 91 [.ref 17] m (fun v6 m6 => ∃ u6, v6 = some (Value.int u6) ∧ ((¬ u6 = (168 : Int32) → (yC (xg xs) d 109 [.ref 17] m6 (fun v7 m7 => v7 = none ∧ yP (xg xs) (d + 1) 95 133 [(0, .ref 17)] [] m7 Q))) ∧ (u6 = (168 : Int32) → (yC (xg xs) d 108 [.ref 17] m6 (fun v8 m8 => v8 = none ∧ yP (xg xs) (d + 1) 95 133 [(0, .ref 17)] [] m8 Q))))))) ∧ (¬ (m.1 17 5) = (16 : Int32) → ¬ (m.1 17 5) = (21 : Int32) → ¬ (m.1 17 5) = (23 : Int32) → ¬ (m.1 17 5) = (28 : Int32) → ¬ (m.1 17 5) = (29 : Int32) → ¬ (m.1 17 5) = (64 : Int32) → yP (xg xs) (d + 1) 95 133 [(0, .ref 17)] [] m Q))) : yP (xg xs) (d + 1) 95 0 [(0, .ref 17)] [] m Q := by
  refine y_st rfl rfl rfl rfl rfl (fun _ _ => rfl) ?_
  refine y_gf rfl rfl rfl rfl rfl ?_
  show yP (xg xs) (d + 1) 95 4 [(0, .ref 17)] [.int (m.1 17 5)] m Q
  by_cases h16 : m.1 17 5 = (16 : Int32)
  · replace H := H.1 h16
    refine y_lsw (t := 64) rfl rfl rfl (by rw [h16]; rfl) ?_
    clear h16
    refine y_st rfl rfl rfl rfl rfl (fun _ _ => rfl) ?_
    show yP (xg xs) (d + 1) 95 65 [(0, .ref 17)] [.ref 17] m Q
    refine y_call rfl rfl rfl rfl rfl (Nat.le_of_ble_eq_true rfl) (Nat.le_of_ble_eq_true rfl) rfl (by decide) H (fun v1 m1 H => ?_)
    obtain ⟨rfl, H⟩ := H
    refine y_st rfl rfl rfl rfl rfl (fun _ _ => rfl) ?_
    show yP (xg xs) (d + 1) 95 133 [(0, .ref 17)] [] m1 Q
    exact H
  replace H := H.2
  by_cases h21 : m.1 17 5 = (21 : Int32)
  · replace H := H.1 h21
    refine y_lsw (t := 71) rfl rfl rfl (by rw [h21]; rfl) ?_
    clear h21 h16
    refine y_st rfl rfl rfl rfl rfl (fun _ _ => rfl) ?_
    show yP (xg xs) (d + 1) 95 72 [(0, .ref 17)] [.ref 17] m Q
    refine y_call rfl rfl rfl rfl rfl (Nat.le_of_ble_eq_true rfl) (Nat.le_of_ble_eq_true rfl) rfl (by decide) H (fun v2 m2 H => ?_)
    obtain ⟨rfl, H⟩ := H
    refine y_st rfl rfl rfl rfl rfl (fun _ _ => rfl) ?_
    show yP (xg xs) (d + 1) 95 133 [(0, .ref 17)] [] m2 Q
    exact H
  replace H := H.2
  by_cases h23 : m.1 17 5 = (23 : Int32)
  · replace H := H.1 h23
    refine y_lsw (t := 78) rfl rfl rfl (by rw [h23]; rfl) ?_
    clear h23 h21 h16
    refine y_st rfl rfl rfl rfl rfl (fun _ _ => rfl) ?_
    show yP (xg xs) (d + 1) 95 79 [(0, .ref 17)] [.ref 17] m Q
    refine y_call rfl rfl rfl rfl rfl (Nat.le_of_ble_eq_true rfl) (Nat.le_of_ble_eq_true rfl) rfl (by decide) H (fun v3 m3 H => ?_)
    obtain ⟨rfl, H⟩ := H
    refine y_st rfl rfl rfl rfl rfl (fun _ _ => rfl) ?_
    show yP (xg xs) (d + 1) 95 133 [(0, .ref 17)] [] m3 Q
    exact H
  replace H := H.2
  by_cases h28 : m.1 17 5 = (28 : Int32)
  · replace H := H.1 h28
    refine y_lsw (t := 85) rfl rfl rfl (by rw [h28]; rfl) ?_
    clear h28 h23 h21 h16
    refine y_st rfl rfl rfl rfl rfl (fun _ _ => rfl) ?_
    refine y_st rfl rfl rfl rfl rfl (fun _ _ => rfl) ?_
    refine y_st rfl rfl rfl rfl rfl (fun _ _ => rfl) ?_
    refine y_st rfl rfl rfl rfl rfl (fun _ _ => rfl) ?_
    show yP (xg xs) (d + 1) 95 91 [(0, .ref 17)] [.int (0 : Int32), .int (20 : Int32), .int (28 : Int32), .ref 17] m Q
    refine y_call rfl rfl rfl rfl rfl (Nat.le_of_ble_eq_true rfl) (Nat.le_of_ble_eq_true rfl) rfl (by decide) H (fun v4 m4 H => ?_)
    obtain ⟨rfl, H⟩ := H
    refine y_st rfl rfl rfl rfl rfl (fun _ _ => rfl) ?_
    show yP (xg xs) (d + 1) 95 133 [(0, .ref 17)] [] m4 Q
    exact H
  replace H := H.2
  by_cases h29 : m.1 17 5 = (29 : Int32)
  · replace H := H.1 h29
    refine y_lsw (t := 97) rfl rfl rfl (by rw [h29]; rfl) ?_
    clear h29 h28 h23 h21 h16
    refine y_st rfl rfl rfl rfl rfl (fun _ _ => rfl) ?_
    refine y_st rfl rfl rfl rfl rfl (fun _ _ => rfl) ?_
    refine y_st rfl rfl rfl rfl rfl (fun _ _ => rfl) ?_
    refine y_st rfl rfl rfl rfl rfl (fun _ _ => rfl) ?_
    show yP (xg xs) (d + 1) 95 103 [(0, .ref 17)] [.int (0 : Int32), .int (21 : Int32), .int (29 : Int32), .ref 17] m Q
    refine y_call rfl rfl rfl rfl rfl (Nat.le_of_ble_eq_true rfl) (Nat.le_of_ble_eq_true rfl) rfl (by decide) H (fun v5 m5 H => ?_)
    obtain ⟨rfl, H⟩ := H
    refine y_st rfl rfl rfl rfl rfl (fun _ _ => rfl) ?_
    show yP (xg xs) (d + 1) 95 133 [(0, .ref 17)] [] m5 Q
    exact H
  replace H := H.2
  by_cases h64 : m.1 17 5 = (64 : Int32)
  · replace H := H.1 h64
    refine y_lsw (t := 109) rfl rfl rfl (by rw [h64]; rfl) ?_
    clear h64 h29 h28 h23 h21 h16
    refine y_st rfl rfl rfl rfl rfl (fun _ _ => rfl) ?_
    show yP (xg xs) (d + 1) 95 110 [(0, .ref 17)] [.ref 17] m Q
    refine y_call rfl rfl rfl rfl rfl (Nat.le_of_ble_eq_true rfl) (Nat.le_of_ble_eq_true rfl) rfl (by decide) H (fun v6 m6 H => ?_)
    obtain ⟨u6, rfl, H⟩ := H
    refine y_st rfl rfl rfl rfl rfl (fun _ _ => rfl) ?_
    show yP (xg xs) (d + 1) 95 116 [(0, .ref 17)] [.int (168 : Int32), .int u6] m6 Q
    refine y_ine (t := 126) rfl rfl rfl (fun h => ?_) (fun h => ?_)
    · replace H := H.1 h; clear h
      refine y_st rfl rfl rfl rfl rfl (fun _ _ => rfl) ?_
      show yP (xg xs) (d + 1) 95 127 [(0, .ref 17)] [.ref 17] m6 Q
      refine y_call rfl rfl rfl rfl rfl (Nat.le_of_ble_eq_true rfl) (Nat.le_of_ble_eq_true rfl) rfl (by decide) H (fun v7 m7 H => ?_)
      obtain ⟨rfl, H⟩ := H
      refine y_st rfl rfl rfl rfl rfl (fun _ _ => rfl) ?_
      show yP (xg xs) (d + 1) 95 133 [(0, .ref 17)] [] m7 Q
      exact H
    · replace H := H.2 h; clear h
      refine y_st rfl rfl rfl rfl rfl (fun _ _ => rfl) ?_
      show yP (xg xs) (d + 1) 95 120 [(0, .ref 17)] [.ref 17] m6 Q
      refine y_call rfl rfl rfl rfl rfl (Nat.le_of_ble_eq_true rfl) (Nat.le_of_ble_eq_true rfl) rfl (by decide) H (fun v8 m8 H => ?_)
      obtain ⟨rfl, H⟩ := H
      refine y_st rfl rfl rfl rfl rfl (fun _ _ => rfl) ?_
      show yP (xg xs) (d + 1) 95 133 [(0, .ref 17)] [] m8 Q
      exact H
  replace H := H.2
  refine y_lsw (t := 133) rfl rfl rfl (by have g0 := ne_lit (16 : Int32) 16 rfl h16; have g1 := ne_lit (21 : Int32) 21 rfl h21; have g2 := ne_lit (23 : Int32) 23 rfl h23; have g3 := ne_lit (28 : Int32) 28 rfl h28; have g4 := ne_lit (29 : Int32) 29 rfl h29; have g5 := ne_lit (64 : Int32) 64 rfl h64; simp [Op.lookupswitch.offset, Ne.symm g0, Ne.symm g1, Ne.symm g2, Ne.symm g3, Ne.symm g4, Ne.symm g5]; rfl) ?_
  replace H := H h16 h21 h23 h28 h29 h64
  clear h64 h29 h28 h23 h21 h16
  show yP (xg xs) (d + 1) 95 133 [(0, .ref 17)] [] m Q
  exact H
set_option maxRecDepth 20000 in
/-- CodeMaker.Reader.statement from 133 on -/
theorem w95_133 (xs : List Int32) (d : Nat) (m : yM) (Q : Option Value → yM → Prop) (H : (yC (xg xs) d 77 [.ref 17, .int (187 : Int32)] m (fun v1 m1 => v1 = none ∧ Q none m1))) : yP (xg xs) (d + 1) 95 133 [(0, .ref 17)] [] m Q := by
  refine y_st rfl rfl rfl rfl rfl (fun _ _ => rfl) ?_
  refine y_st rfl rfl rfl rfl rfl (fun _ _ => rfl) ?_
  show yP (xg xs) (d + 1) 95 137 [(0, .ref 17)] [.int (187 : Int32), .ref 17] m Q
  refine y_call rfl rfl rfl rfl rfl (Nat.le_of_ble_eq_true rfl) (Nat.le_of_ble_eq_true rfl) rfl (by decide) H (fun v1 m1 H => ?_)
  obtain ⟨rfl, H⟩ := H
  show yP (xg xs) (d + 1) 95 140 [(0, .ref 17)] [] m1 Q
  exact y_ret rfl rfl rfl rfl H
set_option maxRecDepth 20000 in
/-- CodeMaker.Reader.ifStatement from 0 on -/
theorem w96_0 (xs : List Int32) (d : Nat) (m : yM) (Q : Option Value → yM → Prop) (H : (yC (xg xs) d 75 [.ref 17, .int (15 : Int32), .int (0 : Int32)] m (fun v1 m1 => ∃ u1, v1 = some (Value.int u1) ∧ (yC (xg xs) d 97 [.ref 17] m1 (fun v2 m2 => v2 = none ∧ (yC (xg xs) d 98 [.ref 17, .int (0 : Int32), .int (1 : Int32)] m2 (fun v3 m3 => v3 = none ∧ (yC (xg xs) d 77 [.ref 17, .int (17 : Int32)] m3 (fun v4 m4 => v4 = none ∧ (yC (xg xs) d 93 [.ref 17] m4 (fun v5 m5 => v5 = none ∧ yP (xg xs) (d + 1) 96 30 [(0, .ref 17), (1, .int u1), (2, .int (0 : Int32))] [] m5 Q))))))))))) : yP (xg xs) (d + 1) 96 0 [(0, .ref 17)] [] m Q := by
  refine y_st rfl rfl rfl rfl rfl (fun _ _ => rfl) ?_
  refine y_st rfl rfl rfl rfl rfl (fun _ _ => rfl) ?_
  refine y_st rfl rfl rfl rfl rfl (fun _ _ => rfl) ?_
  show yP (xg xs) (d + 1) 96 4 [(0, .ref 17)] [.int (0 : Int32), .int (15 : Int32), .ref 17] m Q
  refine y_call rfl rfl rfl rfl rfl (Nat.le_of_ble_eq_true rfl) (Nat.le_of_ble_eq_true rfl) rfl (by decide) H (fun v1 m1 H => ?_)
  obtain ⟨u1, rfl, H⟩ := H
  refine y_st rfl rfl rfl rfl rfl (fun _ _ => rfl) ?_
  refine y_st rfl rfl rfl rfl rfl (fun _ _ => rfl) ?_
  show yP (xg xs) (d + 1) 96 9 [(1, .int u1), (0, .ref 17)] [.ref 17] m1 Q
  refine y_call rfl rfl rfl rfl rfl (Nat.le_of_ble_eq_true rfl) (Nat.le_of_ble_eq_true rfl) rfl (by decide) H (fun v2 m2 H => ?_)
  obtain ⟨rfl, H⟩ := H
  refine y_st rfl rfl rfl rfl rfl (fun _ _ => rfl) ?_
  refine y_st rfl rfl rfl rfl rfl (fun _ _ => rfl) ?_
  refine y_st rfl rfl rfl rfl rfl (fun _ _ => rfl) ?_
  show yP (xg xs) (d + 1) 96 15 [(1, .int u1), (0, .ref 17)] [.int (1 : Int32), .int (0 : Int32), .ref 17] m2 Q
  refine y_call rfl rfl rfl rfl rfl (Nat.le_of_ble_eq_true rfl) (Nat.le_of_ble_eq_true rfl) rfl (by decide) H (fun v3 m3 H => ?_)
  obtain ⟨rfl, H⟩ := H
  refine y_st rfl rfl rfl rfl rfl (fun _ _ => rfl) ?_
  refine y_st rfl rfl rfl rfl rfl (fun _ _ => rfl) ?_
  show yP (xg xs) (d + 1) 96 21 [(1, .int u1), (0, .ref 17)] [.int (17 : Int32), .ref 17] m3 Q
  refine y_call rfl rfl rfl rfl rfl (Nat.le_of_ble_eq_true rfl) (Nat.le_of_ble_eq_true rfl) rfl (by decide) H (fun v4 m4 H => ?_)
  obtain ⟨rfl, H⟩ := H
  refine y_st rfl rfl rfl rfl rfl (fun _ _ => rfl) ?_
  show yP (xg xs) (d + 1) 96 25 [(1, .int u1), (0, .ref 17)] [.ref 17] m4 Q
  refine y_call rfl rfl rfl rfl rfl (Nat.le_of_ble_eq_true rfl) (Nat.le_of_ble_eq_true rfl) rfl (by decide) H (fun v5 m5 H => ?_)
  obtain ⟨rfl, H⟩ := H
  refine y_st rfl rfl rfl rfl rfl (fun _ _ => rfl) ?_
  refine y_st rfl rfl rfl rfl rfl (fun _ _ => rfl) ?_
  show yP (xg xs) (d + 1) 96 30 [(2, .int (0 : Int32)), (1, .int u1), (0, .ref 17)] [] m5 Q
  refine y_headS (l2 := [(0, .ref 17), (1, .int u1), (2, .int (0 : Int32))]) [2, 1, 0] [0, 1, 2] [2, 1, 0] rfl rfl (by decide) rfl (by decide) ?_
  exact H
set_option maxRecDepth 20000 in
/-- CodeMaker.Reader.ifStatement from 30 on -/
theorem w96_30 (xs : List Int32) (d : Nat) (l1 : Int32) (l2 : Int32) (m : yM) (Q : Option Value → yM → Prop) (H : (((8192 : Int32) ≤ l2 → yP (xg xs) (d + 1) 96 72 [(0, .ref 17), (1, .int l1)] [] m Q) ∧ (¬ (8192 : Int32) ≤ l2 → ((¬ (m.1 17 5) = (18 : Int32) → yP (xg xs) (d + 1) 96 72 [(0, .ref 17), (1, .int l1)] [] m Q) ∧ ((m.1 17 5) = (18 : Int32) → (yC (xg xs) d 76 [.ref 17] m (fun v1 m1 => v1 = none ∧ (yC (xg xs) d 98 [.ref 17, .int (0 : Int32), .int (1 : Int32)] m1 (fun v2 m2 => v2 = none ∧ (yC (xg xs) d 77 [.ref 17, .int (17 : Int32)] m2 (fun v3 m3 => v3 = none ∧ (yC (xg xs) d 93 [.ref 17] m3 (fun v4 m4 => v4 = none ∧ yP (xg xs) (d + 1) 96 30 [(0, .ref 17), (1, .int l1), (2, .int (l2 + (1 : Int32)))] [] m4 Q))))))))))))) : yP (xg xs) (d + 1) 96 30 [(0, .ref 17), (1, .int l1), (2, .int l2)] [] m Q := by
  refine y_st rfl rfl rfl rfl rfl (fun _ _ => rfl) ?_
  refine y_st rfl rfl rfl rfl rfl (fun _ _ => rfl) ?_
  show yP (xg xs) (d + 1) 96 34 [(0, .ref 17), (1, .int l1), (2, .int l2)] [.int (8192 : Int32), .int l2] m Q
  refine y_ige (t := 72) rfl rfl rfl (fun h => ?_) (fun h => ?_)
  · replace H := H.1 h; clear h
    show yP (xg xs) (d + 1) 96 72 [(0, .ref 17), (1, .int l1), (2, .int l2)] [] m Q
    refine y_headS (l2 := [(0, .ref 17), (1, .int l1)]) [0, 1] [0, 1] [0, 1, 2] rfl rfl (by decide) rfl (by decide) ?_
    exact H
  · replace H := H.2 h; clear h
    refine y_st rfl rfl rfl rfl rfl (fun _ _ => rfl) ?_
    refine y_gf rfl rfl rfl rfl rfl ?_
    refine y_st rfl rfl rfl rfl rfl (fun _ _ => rfl) ?_
    show yP (xg xs) (d + 1) 96 43 [(0, .ref 17), (1, .int l1), (2, .int l2)] [.int (18 : Int32), .int (m.1 17 5)] m Q
    refine y_ine (t := 72) rfl rfl rfl (fun h => ?_) (fun h => ?_)
    · replace H := H.1 h; clear h
      show yP (xg xs) (d + 1) 96 72 [(0, .ref 17), (1, .int l1), (2, .int l2)] [] m Q
      refine y_headS (l2 := [(0, .ref 17), (1, .int l1)]) [0, 1] [0, 1] [0, 1, 2] rfl rfl (by decide) rfl (by decide) ?_
      exact H
    · replace H := H.2 h; clear h
      refine y_st rfl rfl rfl rfl rfl (fun _ _ => rfl) ?_
      show yP (xg xs) (d + 1) 96 47 [(0, .ref 17), (1, .int l1), (2, .int l2)] [.ref 17] m Q
      refine y_call rfl rfl rfl rfl rfl (Nat.le_of_ble_eq_true rfl) (Nat.le_of_ble_eq_true rfl) rfl (by decide) H (fun v1 m1 H => ?_)
      obtain ⟨rfl, H⟩ := H
      refine y_st rfl rfl rfl rfl rfl (fun _ _ => rfl) ?_
      refine y_st rfl rfl rfl rfl rfl (fun _ _ => rfl) ?_
      refine y_st rfl rfl rfl rfl rfl (fun _ _ => rfl) ?_
      show yP (xg xs) (d + 1) 96 53 [(0, .ref 17), (1, .int l1), (2, .int l2)] [.int (1 : Int32), .int (0 : Int32), .ref 17] m1 Q
      refine y_call rfl rfl rfl rfl rfl (Nat.le_of_ble_eq_true rfl) (Nat.le_of_ble_eq_true rfl) rfl (by decide) H (fun v2 m2 H => ?_)
      obtain ⟨rfl, H⟩ := H
      refine y_st rfl rfl rfl rfl rfl (fun _ _ => rfl) ?_
      refine y_st rfl rfl rfl rfl rfl (fun _ _ => rfl) ?_
      show yP (xg xs) (d + 1) 96 59 [(0, .ref 17), (1, .int l1), (2, .int l2)] [.int (17 : Int32), .ref 17] m2 Q
      refine y_call rfl rfl rfl rfl rfl (Nat.le_of_ble_eq_true rfl) (Nat.le_of_ble_eq_true rfl) rfl (by decide) H (fun v3 m3 H => ?_)
      obtain ⟨rfl, H⟩ := H
      refine y_st rfl rfl rfl rfl rfl (fun _ _ => rfl) ?_
      show yP (xg xs) (d + 1) 96 63 [(0, .ref 17), (1, .int l1), (2, .int l2)] [.ref 17] m3 Q
      refine y_call rfl rfl rfl rfl rfl (Nat.le_of_ble_eq_true rfl) (Nat.le_of_ble_eq_true rfl) rfl (by decide) H (fun v4 m4 H => ?_)
      obtain ⟨rfl, H⟩ := H
      refine y_st rfl rfl rfl rfl rfl (fun _ _ => rfl) ?_
      refine y_st rfl rfl rfl rfl rfl (fun _ _ => rfl) ?_
      show yP (xg xs) (d + 1) 96 30 [(2, .int (l2 + (1 : Int32))), (0, .ref 17), (1, .int l1)] [] m4 Q
      refine y_headS (l2 := [(0, .ref 17), (1, .int l1), (2, .int (l2 + (1 : Int32)))]) [1, 2, 0] [0, 1, 2] [2, 0, 1] rfl rfl (by decide) rfl (by decide) ?_
      exact H
set_option maxRecDepth 20000 in
/-- CodeMaker.Reader.ifStatement from 72 on -/
theorem w96_72 (xs : List Int32) (d : Nat) (l1 : Int32) (m : yM) (Q : Option Value → yM → Prop) (H : ((¬ (m.1 17 5) = (19 : Int32) → yP (xg xs) (d + 1) 96 89 [(0, .ref 17), (1, .int l1)] [] m Q) ∧ ((m.1 17 5) = (19 : Int32) → (yC (xg xs) d 76 [.ref 17] m (fun v1 m1 => v1 = none ∧ (yC (xg xs) d 93 [.ref 17] m1 (fun v2 m2 => v2 = none ∧ yP (xg xs) (d + 1) 96 89 [(0, .ref 17), (1, .int l1)] [] m2 Q))))))) : yP (xg xs) (d + 1) 96 72 [(0, .ref 17), (1, .int l1)] [] m Q := by
  refine y_st rfl rfl rfl rfl rfl (fun _ _ => rfl) ?_
  refine y_gf rfl rfl rfl rfl rfl ?_
  refine y_st rfl rfl rfl rfl rfl (fun _ _ => rfl) ?_
  show yP (xg xs) (d + 1) 96 78 [(0, .ref 17), (1, .int l1)] [.int (19 : Int32), .int (m.1 17 5)] m Q
  refine y_ine (t := 89) rfl rfl rfl (fun h => ?_) (fun h => ?_)
  · replace H := H.1 h; clear h
    show yP (xg xs) (d + 1) 96 89 [(0, .ref 17), (1, .int l1)] [] m Q
    exact H
  · replace H := H.2 h; clear h
    refine y_st rfl rfl rfl rfl rfl (fun _ _ => rfl) ?_
    show yP (xg xs) (d + 1) 96 82 [(0, .ref 17), (1, .int l1)] [.ref 17] m Q
    refine y_call rfl rfl rfl rfl rfl (Nat.le_of_ble_eq_true rfl) (Nat.le_of_ble_eq_true rfl) rfl (by decide) H (fun v1 m1 H => ?_)
    obtain ⟨rfl, H⟩ := H
    refine y_st rfl rfl rfl rfl rfl (fun _ _ => rfl) ?_
    show yP (xg xs) (d + 1) 96 86 [(0, .ref 17), (1, .int l1)] [.ref 17] m1 Q
    refine y_call rfl rfl rfl rfl rfl (Nat.le_of_ble_eq_true rfl) (Nat.le_of_ble_eq_true rfl) rfl (by decide) H (fun v2 m2 H => ?_)
    obtain ⟨rfl, H⟩ := H
    show yP (xg xs) (d + 1) 96 89 [(0, .ref 17), (1, .int l1)] [] m2 Q
    exact H
set_option maxRecDepth 20000 in
/-- CodeMaker.Reader.ifStatement from 89 on -/
theorem w96_89 (xs : List Int32) (d : Nat) (l1 : Int32) (m : yM) (Q : Option Value → yM → Prop) (H : (yC (xg xs) d 77 [.ref 17, .int (20 : Int32)] m (fun v1 m1 => v1 = none ∧ (yC (xg xs) d 85 [.ref 2, .int l1] (y_si m1 17 6 ((m1.1 17 6) - (1 : Int32))) (fun v2 m2 => v2 = none ∧ Q none m2))))) : yP (xg xs) (d + 1) 96 89 [(0, .ref 17), (1, .int l1)] [] m Q := by
  refine y_st rfl rfl rfl rfl rfl (fun _ _ => rfl) ?_
  refine y_st rfl rfl rfl rfl rfl (fun _ _ => rfl) ?_
  show yP (xg xs) (d + 1) 96 92 [(0, .ref 17), (1, .int l1)] [.int (20 : Int32), .ref 17] m Q
  refine y_call rfl rfl rfl rfl rfl (Nat.le_of_ble_eq_true rfl) (Nat.le_of_ble_eq_true rfl) rfl (by decide) H (fun v1 m1 H => ?_)
  obtain ⟨rfl, H⟩ := H
  refine y_st rfl rfl rfl rfl rfl (fun _ _ => rfl) ?_
  refine y_st rfl rfl rfl rfl rfl (fun _ _ => rfl) ?_
  refine y_gf rfl rfl rfl rfl rfl ?_
  refine y_st rfl rfl rfl rfl rfl (fun _ _ => rfl) ?_
  refine y_st rfl rfl rfl rfl rfl (fun _ _ => rfl) ?_
  refine y_pfi rfl rfl rfl rfl rfl (x_fit_i _) ?_
  show yP (xg xs) (d + 1) 96 105 [(0, .ref 17), (1, .int l1)] [] (y_si m1 17 6 ((m1.1 17 6) - (1 : Int32))) Q
  refine y_st rfl rfl rfl rfl rfl (fun _ _ => rfl) ?_
  refine y_gf rfl rfl rfl rfl rfl ?_
  refine y_st rfl rfl rfl rfl rfl (fun _ _ => rfl) ?_
  show yP (xg xs) (d + 1) 96 110 [(0, .ref 17), (1, .int l1)] [.int l1, .ref 2] (y_si m1 17 6 ((m1.1 17 6) - (1 : Int32))) Q
  refine y_call rfl rfl rfl rfl rfl (Nat.le_of_ble_eq_true rfl) (Nat.le_of_ble_eq_true rfl) rfl (by decide) H (fun v2 m2 H => ?_)
  obtain ⟨rfl, H⟩ := H
  show yP (xg xs) (d + 1) 96 113 [(0, .ref 17), (1, .int l1)] [] m2 Q
  exact y_ret rfl rfl rfl rfl H
set_option maxRecDepth 20000 in
/-- CodeMaker.Reader.stepInto from 0 on -/
theorem w97_0 (xs : List Int32) (d : Nat) (m : yM) (Q : Option Value → yM → Prop) (H : (((m.1 17 6) < (60 : Int32) → (yC (xg xs) d 76 [.ref 17] (y_si m 17 6 ((m.1 17 6) + (1 : Int32))) (fun v1 m1 => v1 = none ∧ Q none m1))) ∧ (¬ (m.1 17 6) < (60 : Int32) → (yC (xg xs) d 78 [.ref 17, .int (7 : Int32)] m (fun v2 m2 => v2 = none ∧ Q none m2))))) : yP (xg xs) (d + 1) 97 0 [(0, .ref 17)] [] m Q := by
  refine y_st rfl rfl rfl rfl rfl (fun _ _ => rfl) ?_
  refine y_gf rfl rfl rfl rfl rfl ?_
  refine y_st rfl rfl rfl rfl rfl (fun _ _ => rfl) ?_
  show yP (xg xs) (d + 1) 97 6 [(0, .ref 17)] [.int (60 : Int32), .int (m.1 17 6)] m Q
  refine y_ilt (t := 18) rfl rfl rfl (fun h => ?_) (fun h => ?_)
  · replace H := H.1 h; clear h
    refine y_st rfl rfl rfl rfl rfl (fun _ _ => rfl) ?_
    refine y_st rfl rfl rfl rfl rfl (fun _ _ => rfl) ?_
    refine y_gf rfl rfl rfl rfl rfl ?_
    refine y_st rfl rfl rfl rfl rfl (fun _ _ => rfl) ?_
    refine y_st rfl rfl rfl rfl rfl (fun _ _ => rfl) ?_
    refine y_pfi rfl rfl rfl rfl rfl (x_fit_i _) ?_
    show yP (xg xs) (d + 1) 97 28 [(0, .ref 17)] [] (y_si m 17 6 ((m.1 17 6) + (1 : Int32))) Q
    refine y_st rfl rfl rfl rfl rfl (fun _ _ => rfl) ?_
    show yP (xg xs) (d + 1) 97 29 [(0, .ref 17)] [.ref 17] (y_si m 17 6 ((m.1 17 6) + (1 : Int32))) Q
    refine y_call rfl rfl rfl rfl rfl (Nat.le_of_ble_eq_true rfl) (Nat.le_of_ble_eq_true rfl) rfl (by decide) H (fun v1 m1 H => ?_)
    obtain ⟨rfl, H⟩ := H
    show yP (xg xs) (d + 1) 97 32 [(0, .ref 17)] [] m1 Q
    exact y_ret rfl rfl rfl rfl H
  · replace H := H.2 h; clear h
    refine y_st rfl rfl rfl rfl rfl (fun _ _ => rfl) ?_
    refine y_st rfl rfl rfl rfl rfl (fun _ _ => rfl) ?_
    show yP (xg xs) (d + 1) 97 12 [(0, .ref 17)] [.int (7 : Int32), .ref 17] m Q
    refine y_call rfl rfl rfl rfl rfl (Nat.le_of_ble_eq_true rfl) (Nat.le_of_ble_eq_true rfl) rfl (by decide) H (fun v2 m2 H => ?_)
    obtain ⟨rfl, H⟩ := H
    refine y_st rfl rfl rfl rfl rfl (fun _ _ => rfl) ?_
    show yP (xg xs) (d + 1) 97 32 [(0, .ref 17)] [] m2 Q
    exact y_ret rfl rfl rfl rfl H
set_option maxRecDepth 20000 in
/-- CodeMaker.Reader.expression from 0 on -/
theorem w98_0 (xs : List Int32) (d : Nat) (l1 : Int32) (l2 : Int32) (m : yM) (Q : Option Value → yM → Prop) (H : (yC (xg xs) d 99 [.ref 17] m (fun v1 m1 => v1 = none ∧ yP (xg xs) (d + 1) 98 21 [(0, .ref 17), (1, .int l1), (2, .int l2), (3, .int (m.1 17 6)), (4, .int (m.1 2 5)), (5, .int (0 : Int32))] [] m1 Q))) : yP (xg xs) (d + 1) 98 0 [(0, .ref 17), (1, .int l1), (2, .int l2)] [] m Q := by
  refine y_st rfl rfl rfl rfl rfl (fun _ _ => rfl) ?_
  refine y_gf rfl rfl rfl rfl rfl ?_
  refine y_st rfl rfl rfl rfl rfl (fun _ _ => rfl) ?_
  refine y_st rfl rfl rfl rfl rfl (fun _ _ => rfl) ?_
  refine y_gf rfl rfl rfl rfl rfl ?_
  refine y_gf rfl rfl rfl rfl rfl ?_
  refine y_st rfl rfl rfl rfl rfl (fun _ _ => rfl) ?_
  refine y_st rfl rfl rfl rfl rfl (fun _ _ => rfl) ?_
  show yP (xg xs) (d + 1) 98 15 [(4, .int (m.1 2 5)), (3, .int (m.1 17 6)), (0, .ref 17), (1, .int l1), (2, .int l2)] [.ref 17] m Q
  refine y_call rfl rfl rfl rfl rfl (Nat.le_of_ble_eq_true rfl) (Nat.le_of_ble_eq_true rfl) rfl (by decide) H (fun v1 m1 H => ?_)
  obtain ⟨rfl, H⟩ := H
  refine y_st rfl rfl rfl rfl rfl (fun _ _ => rfl) ?_
  refine y_st rfl rfl rfl rfl rfl (fun _ _ => rfl) ?_
  show yP (xg xs) (d + 1) 98 21 [(5, .int (0 : Int32)), (4, .int (m.1 2 5)), (3, .int (m.1 17 6)), (0, .ref 17), (1, .int l1), (2, .int l2)] [] m1 Q
  refine y_headS (l2 := [(0, .ref 17), (1, .int l1), (2, .int l2), (3, .int (m.1 17 6)), (4, .int (m.1 2 5)), (5, .int (0 : Int32))]) [3, 4, 5, 2, 1, 0] [0, 1, 2, 3, 4, 5] [5, 4, 3, 0, 1, 2] rfl rfl (by decide) rfl (by decide) ?_
  exact H
set_option maxRecDepth 20000 in
/-- CodeMaker.Reader.expression from 21 on -/
theorem w98_21 (xs : List Int32) (d : Nat) (l1 : Int32) (l2 : Int32) (l3 : Int32) (l4 : Int32) (l5 : Int32) (m : yM) (Q : Option Value → yM → Prop) (H : (((60 : Int32) < l5 → yP (xg xs) (d + 1) 98 106 [(0, .ref 17), (2, .int l2), (3, .int l3)] [] m Q) ∧ (¬ (60 : Int32) < l5 → (yC (xg xs) d 101 [.int (m.1 17 5)] m (fun v1 m1 => ∃ u1, v1 = some (Value.int u1) ∧ ((u1 < l1 → yP (xg xs) (d + 1) 98 106 [(0, .ref 17), (2, .int l2), (3, .int l3)] [] m1 Q) ∧ (¬ u1 < l1 → (yC (xg xs) d 101 [.int (m1.1 17 5)] m1 (fun v2 m2 => ∃ u2, v2 = some (Value.int u2) ∧ (x_in (m2.1 17 4) 8193 = true ∧ (yC (xg xs) d 102 [.int (m2.1 17 5)] m2 (fun v3 m3 => ∃ u3, v3 = some (Value.int u3) ∧ (yC (xg xs) d 103 [.ref 2, .int l4, .int (35 : Int32), .int (m2.1 10 ((m2.1 17 4).toNatClampNeg)), .int u3] m3 (fun v4 m4 => v4 = none ∧ (yC (xg xs) d 97 [.ref 17] m4 (fun v5 m5 => v5 = none ∧ (yC (xg xs) d 98 [.ref 17, .int (u2 + (1 : Int32)), .int (0 : Int32)] m5 (fun v6 m6 => v6 = none ∧ (yC (xg xs) d 85 [.ref 2, .int l4] m6 (fun v7 m7 => v7 = none ∧ yP (xg xs) (d + 1) 98 21 [(0, .ref 17), (1, .int l1), (2, .int l2), (3, .int l3), (4, .int l4), (5, .int (l5 + (1 : Int32)))] [] m7 Q)))))))))))))))))))) : yP (xg xs) (d + 1) 98 21 [(0, .ref 17), (1, .int l1), (2, .int l2), (3, .int l3), (4, .int l4), (5, .int l5)] [] m Q := by
  refine y_st rfl rfl rfl rfl rfl (fun _ _ => rfl) ?_
  refine y_st rfl rfl rfl rfl rfl (fun _ _ => rfl) ?_
  show yP (xg xs) (d + 1) 98 25 [(0, .ref 17), (1, .int l1), (2, .int l2), (3, .int l3), (4, .int l4), (5, .int l5)] [.int (60 : Int32), .int l5] m Q
  refine y_igt (t := 106) rfl rfl rfl (fun h => ?_) (fun h => ?_)
  · replace H := H.1 h; clear h
    show yP (xg xs) (d + 1) 98 106 [(0, .ref 17), (1, .int l1), (2, .int l2), (3, .int l3), (4, .int l4), (5, .int l5)] [] m Q
    refine y_headS (l2 := [(0, .ref 17), (2, .int l2), (3, .int l3)]) [0, 2, 3] [0, 2, 3] [0, 1, 2, 3, 4, 5] rfl rfl (by decide) rfl (by decide) ?_
    exact H
  · replace H := H.2 h; clear h
    refine y_st rfl rfl rfl rfl rfl (fun _ _ => rfl) ?_
    refine y_gf rfl rfl rfl rfl rfl ?_
    show yP (xg xs) (d + 1) 98 32 [(0, .ref 17), (1, .int l1), (2, .int l2), (3, .int l3), (4, .int l4), (5, .int l5)] [.int (m.1 17 5)] m Q
    refine y_call rfl rfl rfl rfl rfl (Nat.le_of_ble_eq_true rfl) (Nat.le_of_ble_eq_true rfl) rfl (by decide) H (fun v1 m1 H => ?_)
    obtain ⟨u1, rfl, H⟩ := H
    refine y_st rfl rfl rfl rfl rfl (fun _ _ => rfl) ?_
    show yP (xg xs) (d + 1) 98 36 [(0, .ref 17), (1, .int l1), (2, .int l2), (3, .int l3), (4, .int l4), (5, .int l5)] [.int l1, .int u1] m1 Q
    refine y_ilt (t := 106) rfl rfl rfl (fun h => ?_) (fun h => ?_)
    · replace H := H.1 h; clear h
      show yP (xg xs) (d + 1) 98 106 [(0, .ref 17), (1, .int l1), (2, .int l2), (3, .int l3), (4, .int l4), (5, .int l5)] [] m1 Q
      refine y_headS (l2 := [(0, .ref 17), (2, .int l2), (3, .int l3)]) [0, 2, 3] [0, 2, 3] [0, 1, 2, 3, 4, 5] rfl rfl (by decide) rfl (by decide) ?_
      exact H
    · replace H := H.2 h; clear h
      refine y_st rfl rfl rfl rfl rfl (fun _ _ => rfl) ?_
      refine y_gf rfl rfl rfl rfl rfl ?_
      show yP (xg xs) (d + 1) 98 43 [(0, .ref 17), (1, .int l1), (2, .int l2), (3, .int l3), (4, .int l4), (5, .int l5)] [.int (m1.1 17 5)] m1 Q
      refine y_call rfl rfl rfl rfl rfl (Nat.le_of_ble_eq_true rfl) (Nat.le_of_ble_eq_true rfl) rfl (by decide) H (fun v2 m2 H => ?_)
      obtain ⟨u2, rfl, H⟩ := H
      refine y_st rfl rfl rfl rfl rfl (fun _ _ => rfl) ?_
      refine y_st rfl rfl rfl rfl rfl (fun _ _ => rfl) ?_
      refine y_gf rfl rfl rfl rfl rfl ?_
      refine y_st rfl rfl rfl rfl rfl (fun _ _ => rfl) ?_
      refine y_st rfl rfl rfl rfl rfl (fun _ _ => rfl) ?_
      refine y_st rfl rfl rfl rfl rfl (fun _ _ => rfl) ?_
      refine y_gf rfl rfl rfl rfl rfl ?_
      refine y_gf rfl rfl rfl rfl rfl ?_
      refine y_st rfl rfl rfl rfl rfl (fun _ _ => rfl) ?_
      refine y_gf rfl rfl rfl rfl rfl ?_
      show yP (xg xs) (d + 1) 98 67 [(6, .int u2), (0, .ref 17), (1, .int l1), (2, .int l2), (3, .int l3), (4, .int l4), (5, .int l5)] [.int (m2.1 17 4), .ref 10, .int (35 : Int32), .int l4, .ref 2] m2 Q
      refine y_iald rfl rfl rfl (H.1) ?_
      replace H := H.2
      refine y_st rfl rfl rfl rfl rfl (fun _ _ => rfl) ?_
      refine y_gf rfl rfl rfl rfl rfl ?_
      show yP (xg xs) (d + 1) 98 72 [(6, .int u2), (0, .ref 17), (1, .int l1), (2, .int l2), (3, .int l3), (4, .int l4), (5, .int l5)] [.int (m2.1 17 5), .int (m2.1 10 ((m2.1 17 4).toNatClampNeg)), .int (35 : Int32), .int l4, .ref 2] m2 Q
      refine y_call rfl rfl rfl rfl rfl (Nat.le_of_ble_eq_true rfl) (Nat.le_of_ble_eq_true rfl) rfl (by decide) H (fun v3 m3 H => ?_)
      obtain ⟨u3, rfl, H⟩ := H
      show yP (xg xs) (d + 1) 98 75 [(6, .int u2), (0, .ref 17), (1, .int l1), (2, .int l2), (3, .int l3), (4, .int l4), (5, .int l5)] [.int u3, .int (m2.1 10 ((m2.1 17 4).toNatClampNeg)), .int (35 : Int32), .int l4, .ref 2] m3 Q
      refine y_call rfl rfl rfl rfl rfl (Nat.le_of_ble_eq_true rfl) (Nat.le_of_ble_eq_true rfl) rfl (by decide) H (fun v4 m4 H => ?_)
      obtain ⟨rfl, H⟩ := H
      refine y_st rfl rfl rfl rfl rfl (fun _ _ => rfl) ?_
      show yP (xg xs) (d + 1) 98 79 [(6, .int u2), (0, .ref 17), (1, .int l1), (2, .int l2), (3, .int l3), (4, .int l4), (5, .int l5)] [.ref 17] m4 Q
      refine y_call rfl rfl rfl rfl rfl (Nat.le_of_ble_eq_true rfl) (Nat.le_of_ble_eq_true rfl) rfl (by decide) H (fun v5 m5 H => ?_)
      obtain ⟨rfl, H⟩ := H
      refine y_st rfl rfl rfl rfl rfl (fun _ _ => rfl) ?_
      refine y_st rfl rfl rfl rfl rfl (fun _ _ => rfl) ?_
      refine y_st rfl rfl rfl rfl rfl (fun _ _ => rfl) ?_
      refine y_st rfl rfl rfl rfl rfl (fun _ _ => rfl) ?_
      refine y_st rfl rfl rfl rfl rfl (fun _ _ => rfl) ?_
      show yP (xg xs) (d + 1) 98 88 [(6, .int u2), (0, .ref 17), (1, .int l1), (2, .int l2), (3, .int l3), (4, .int l4), (5, .int l5)] [.int (0 : Int32), .int (u2 + (1 : Int32)), .ref 17] m5 Q
      refine y_call rfl rfl rfl rfl rfl (Nat.le_of_ble_eq_true rfl) (Nat.le_of_ble_eq_true rfl) rfl (by decide) H (fun v6 m6 H => ?_)
      obtain ⟨rfl, H⟩ := H
      refine y_st rfl rfl rfl rfl rfl (fun _ _ => rfl) ?_
      refine y_gf rfl rfl rfl rfl rfl ?_
      refine y_st rfl rfl rfl rfl rfl (fun _ _ => rfl) ?_
      show yP (xg xs) (d + 1) 98 97 [(6, .int u2), (0, .ref 17), (1, .int l1), (2, .int l2), (3, .int l3), (4, .int l4), (5, .int l5)] [.int l4, .ref 2] m6 Q
      refine y_call rfl rfl rfl rfl rfl (Nat.le_of_ble_eq_true rfl) (Nat.le_of_ble_eq_true rfl) rfl (by decide) H (fun v7 m7 H => ?_)
      obtain ⟨rfl, H⟩ := H
      refine y_st rfl rfl rfl rfl rfl (fun _ _ => rfl) ?_
      refine y_st rfl rfl rfl rfl rfl (fun _ _ => rfl) ?_
      show yP (xg xs) (d + 1) 98 21 [(5, .int (l5 + (1 : Int32))), (6, .int u2), (0, .ref 17), (1, .int l1), (2, .int l2), (3, .int l3), (4, .int l4)] [] m7 Q
      refine y_headS (l2 := [(0, .ref 17), (1, .int l1), (2, .int l2), (3, .int l3), (4, .int l4), (5, .int (l5 + (1 : Int32)))]) [2, 3, 4, 5, 6, 0] [0, 1, 2, 3, 4, 5] [5, 6, 0, 1, 2, 3, 4] rfl rfl (by decide) rfl (by decide) ?_
      exact H
set_option maxRecDepth 20000 in
/-- CodeMaker.Reader.expression from 106 on -/
theorem w98_106 (xs : List Int32) (d : Nat) (l2 : Int32) (l3 : Int32) (m : yM) (Q : Option Value → yM → Prop) (H : ((l2 = 0 → Q none m) ∧ (¬ l2 = 0 → Q none (y_si m 17 6 l3)))) : yP (xg xs) (d + 1) 98 106 [(0, .ref 17), (2, .int l2), (3, .int l3)] [] m Q := by
  refine y_st rfl rfl rfl rfl rfl (fun _ _ => rfl) ?_
  show yP (xg xs) (d + 1) 98 107 [(0, .ref 17), (2, .int l2), (3, .int l3)] [.int l2] m Q
  refine y_zeq (t := 115) rfl rfl rfl (fun h => ?_) (fun h => ?_)
  · replace H := H.1 h; clear h
    show yP (xg xs) (d + 1) 98 115 [(0, .ref 17), (2, .int l2), (3, .int l3)] [] m Q
    exact y_ret rfl rfl rfl rfl H
  · replace H := H.2 h; clear h
    refine y_st rfl rfl rfl rfl rfl (fun _ _ => rfl) ?_
    refine y_st rfl rfl rfl rfl rfl (fun _ _ => rfl) ?_
    refine y_pfi rfl rfl rfl rfl rfl (x_fit_i _) ?_
    show yP (xg xs) (d + 1) 98 115 [(0, .ref 17), (2, .int l2), (3, .int l3)] [] (y_si m 17 6 l3) Q
    show yP (xg xs) (d + 1) 98 115 [(0, .ref 17), (2, .int l2), (3, .int l3)] [] (y_si m 17 6 l3) Q
    exact y_ret rfl rfl rfl rfl H
set_option maxRecDepth 20000 in
/-- CodeMaker.Reader.operand from 0 on -/
theorem w99_0 (xs : List Int32) (d : Nat) (m : yM) (Q : Option Value → yM → Prop) (H : (((m.1 17 5) = (34 : Int32) → ((¬ (m.1 17 5) = (34 : Int32) → yP (xg xs) (d + 1) 99 89 [(0, .ref 17)] [.int (0 : Int32), .int (36 : Int32), .ref 17] m Q) ∧ ((m.1 17 5) = (34 : Int32) → yP (xg xs) (d + 1) 99 89 [(0, .ref 17)] [.int (1 : Int32), .int (36 : Int32), .ref 17] m Q))) ∧ ((m.1 17 5) = (35 : Int32) → (yC (xg xs) d 82 [.ref 17, .int (35 : Int32), .int (31 : Int32), .int (1 : Int32)] m (fun v1 m1 => v1 = none ∧ Q none m1))) ∧ ((m.1 17 5) = (36 : Int32) → (yC (xg xs) d 82 [.ref 17, .int (36 : Int32), .int (31 : Int32), .int (0 : Int32)] m (fun v2 m2 => v2 = none ∧ Q none m2))) ∧ ((m.1 17 5) = (64 : Int32) → (yC (xg xs) d 100 [.ref 17] m (fun v3 m3 => v3 = none ∧ Q none m3))) ∧ ((m.1 17 5) = (65 : Int32) → (x_in (m.1 17 4) 8193 = true ∧ (yC (xg xs) d 82 [.ref 17, .int (65 : Int32), .int (30 : Int32), .int (m.1 11 ((m.1 17 4).toNatClampNeg))] m (fun v4 m4 => v4 = none ∧ Q none m4)))) ∧ ((m.1 17 5) = (168 : Int32) → (yC (xg xs) d 97 [.ref 17] m (fun v5 m5 => v5 = none ∧ (yC (xg xs) d 98 [.ref 17, .int (0 : Int32), .int (0 : Int32)] m5 (fun v6 m6 => v6 = none ∧ (yC (xg xs) d 77 [.ref 17, .int (169 : Int32)] m6 (fun v7 m7 => v7 = none ∧ Q none (y_si m7 17 6 ((m7.1 17 6) - (1 : Int32)))))))))) ∧ ((m.1 17 5) = (173 : Int32) → ((¬ (m.1 17 5) = (34 : Int32) → yP (xg xs) (d + 1) 99 89 [(0, .ref 17)] [.int (0 : Int32), .int (36 : Int32), .ref 17] m Q) ∧ ((m.1 17 5) = (34 : Int32) → yP (xg xs) (d + 1) 99 89 [(0, .ref 17)] [.int (1 : Int32), .int (36 : Int32), .ref 17] m Q))) ∧ (¬ (m.1 17 5) = (34 : Int32) → ¬ (m.1 17 5) = (35 : Int32) → ¬ (m.1 17 5) = (36 : Int32) → ¬ (m.1 17 5) = (64 : Int32) → ¬ (m.1 17 5) = (65 : Int32) → ¬ (m.1 17 5) = (168 : Int32) → ¬ (m.1 17 5) = (173 : Int32) → (yC (xg xs) d 78 [.ref 17, .int (6 : Int32)] m (fun v8 m8 => v8 = none ∧ Q none m8))))) : yP (xg xs) (d + 1) 99 0 [(0, .ref 17)] [] m Q := by
  refine y_st rfl rfl rfl rfl rfl (fun _ _ => rfl) ?_
  refine y_gf rfl rfl rfl rfl rfl ?_
  show yP (xg xs) (d + 1) 99 4 [(0, .ref 17)] [.int (m.1 17 5)] m Q
  by_cases h34 : m.1 17 5 = (34 : Int32)
  · replace H := H.1 h34
    refine y_lsw (t := 72) rfl rfl rfl (by rw [h34]; rfl) ?_
    clear h34
    refine y_st rfl rfl rfl rfl rfl (fun _ _ => rfl) ?_
    refine y_st rfl rfl rfl rfl rfl (fun _ _ => rfl) ?_
    refine y_st rfl rfl rfl rfl rfl (fun _ _ => rfl) ?_
    refine y_gf rfl rfl rfl rfl rfl ?_
    refine y_st rfl rfl rfl rfl rfl (fun _ _ => rfl) ?_
    show yP (xg xs) (d + 1) 99 81 [(0, .ref 17)] [.int (34 : Int32), .int (m.1 17 5), .int (36 : Int32), .ref 17] m Q
    refine y_ine (t := 88) rfl rfl rfl (fun h => ?_) (fun h => ?_)
    · replace H := H.1 h; clear h
      refine y_st rfl rfl rfl rfl rfl (fun _ _ => rfl) ?_
      show yP (xg xs) (d + 1) 99 89 [(0, .ref 17)] [.int (0 : Int32), .int (36 : Int32), .ref 17] m Q
      exact H
    · replace H := H.2 h; clear h
      refine y_st rfl rfl rfl rfl rfl (fun _ _ => rfl) ?_
      refine y_st rfl rfl rfl rfl rfl (fun _ _ => rfl) ?_
      show yP (xg xs) (d + 1) 99 89 [(0, .ref 17)] [.int (1 : Int32), .int (36 : Int32), .ref 17] m Q
      exact H
  replace H := H.2
  by_cases h35 : m.1 17 5 = (35 : Int32)
  · replace H := H.1 h35
    refine y_lsw (t := 175) rfl rfl rfl (by rw [h35]; rfl) ?_
    clear h35 h34
    refine y_st rfl rfl rfl rfl rfl (fun _ _ => rfl) ?_
    refine y_st rfl rfl rfl rfl rfl (fun _ _ => rfl) ?_
    refine y_st rfl rfl rfl rfl rfl (fun _ _ => rfl) ?_
    refine y_st rfl rfl rfl rfl rfl (fun _ _ => rfl) ?_
    show yP (xg xs) (d + 1) 99 181 [(0, .ref 17)] [.int (1 : Int32), .int (31 : Int32), .int (35 : Int32), .ref 17] m Q
    refine y_call rfl rfl rfl rfl rfl (Nat.le_of_ble_eq_true rfl) (Nat.le_of_ble_eq_true rfl) rfl (by decide) H (fun v1 m1 H => ?_)
    obtain ⟨rfl, H⟩ := H
    refine y_st rfl rfl rfl rfl rfl (fun _ _ => rfl) ?_
    show yP (xg xs) (d + 1) 99 212 [(0, .ref 17)] [] m1 Q
    exact y_ret rfl rfl rfl rfl H
  replace H := H.2
  by_cases h36 : m.1 17 5 = (36 : Int32)
  · replace H := H.1 h36
    refine y_lsw (t := 187) rfl rfl rfl (by rw [h36]; rfl) ?_
    clear h36 h35 h34
    refine y_st rfl rfl rfl rfl rfl (fun _ _ => rfl) ?_
    refine y_st rfl rfl rfl rfl rfl (fun _ _ => rfl) ?_
    refine y_st rfl rfl rfl rfl rfl (fun _ _ => rfl) ?_
    refine y_st rfl rfl rfl rfl rfl (fun _ _ => rfl) ?_
    show yP (xg xs) (d + 1) 99 193 [(0, .ref 17)] [.int (0 : Int32), .int (31 : Int32), .int (36 : Int32), .ref 17] m Q
    refine y_call rfl rfl rfl rfl rfl (Nat.le_of_ble_eq_true rfl) (Nat.le_of_ble_eq_true rfl) rfl (by decide) H (fun v2 m2 H => ?_)
    obtain ⟨rfl, H⟩ := H
    refine y_st rfl rfl rfl rfl rfl (fun _ _ => rfl) ?_
    show yP (xg xs) (d + 1) 99 212 [(0, .ref 17)] [] m2 Q
    exact y_ret rfl rfl rfl rfl H
  replace H := H.2
  by_cases h64 : m.1 17 5 = (64 : Int32)
  · replace H := H.1 h64
    refine y_lsw (t := 199) rfl rfl rfl (by rw [h64]; rfl) ?_
    clear h64 h36 h35 h34
    refine y_st rfl rfl rfl rfl rfl (fun _ _ => rfl) ?_
    show yP (xg xs) (d + 1) 99 200 [(0, .ref 17)] [.ref 17] m Q
    refine y_call rfl rfl rfl rfl rfl (Nat.le_of_ble_eq_true rfl) (Nat.le_of_ble_eq_true rfl) rfl (by decide) H (fun v3 m3 H => ?_)
    obtain ⟨rfl, H⟩ := H
    refine y_st rfl rfl rfl rfl rfl (fun _ _ => rfl) ?_
    show yP (xg xs) (d + 1) 99 212 [(0, .ref 17)] [] m3 Q
    exact y_ret rfl rfl rfl rfl H
  replace H := H.2
  by_cases h65 : m.1 17 5 = (65 : Int32)
  · replace H := H.1 h65
    refine y_lsw (t := 152) rfl rfl rfl (by rw [h65]; rfl) ?_
    clear h65 h64 h36 h35 h34
    refine y_st rfl rfl rfl rfl rfl (fun _ _ => rfl) ?_
    refine y_st rfl rfl rfl rfl rfl (fun _ _ => rfl) ?_
    refine y_st rfl rfl rfl rfl rfl (fun _ _ => rfl) ?_
    refine y_st rfl rfl rfl rfl rfl (fun _ _ => rfl) ?_
    refine y_gf rfl rfl rfl rfl rfl ?_
    refine y_gf rfl rfl rfl rfl rfl ?_
    refine y_st rfl rfl rfl rfl rfl (fun _ _ => rfl) ?_
    refine y_gf rfl rfl rfl rfl rfl ?_
    show yP (xg xs) (d + 1) 99 168 [(0, .ref 17)] [.int (m.1 17 4), .ref 11, .int (30 : Int32), .int (65 : Int32), .ref 17] m Q
    refine y_iald rfl rfl rfl (H.1) ?_
    replace H := H.2
    show yP (xg xs) (d + 1) 99 169 [(0, .ref 17)] [.int (m.1 11 ((m.1 17 4).toNatClampNeg)), .int (30 : Int32), .int (65 : Int32), .ref 17] m Q
    refine y_call rfl rfl rfl rfl rfl (Nat.le_of_ble_eq_true rfl) (Nat.le_of_ble_eq_true rfl) rfl (by decide) H (fun v4 m4 H => ?_)
    obtain ⟨rfl, H⟩ := H
    refine y_st rfl rfl rfl rfl rfl (fun _ _ => rfl) ?_
    show yP (xg xs) (d + 1) 99 212 [(0, .ref 17)] [] m4 Q
    exact y_ret rfl rfl rfl rfl H
  replace H := H.2
  by_cases h168 : m.1 17 5 = (168 : Int32)
  · replace H := H.1 h168
    refine y_lsw (t := 122) rfl rfl rfl (by rw [h168]; rfl) ?_
    clear h168 h65 h64 h36 h35 h34
    refine y_st rfl rfl rfl rfl rfl (fun _ _ => rfl) ?_
    show yP (xg xs) (d + 1) 99 123 [(0, .ref 17)] [.ref 17] m Q
    refine y_call rfl rfl rfl rfl rfl (Nat.le_of_ble_eq_true rfl) (Nat.le_of_ble_eq_true rfl) rfl (by decide) H (fun v5 m5 H => ?_)
    obtain ⟨rfl, H⟩ := H
    refine y_st rfl rfl rfl rfl rfl (fun _ _ => rfl) ?_
    refine y_st rfl rfl rfl rfl rfl (fun _ _ => rfl) ?_
    refine y_st rfl rfl rfl rfl rfl (fun _ _ => rfl) ?_
    show yP (xg xs) (d + 1) 99 129 [(0, .ref 17)] [.int (0 : Int32), .int (0 : Int32), .ref 17] m5 Q
    refine y_call rfl rfl rfl rfl rfl (Nat.le_of_ble_eq_true rfl) (Nat.le_of_ble_eq_true rfl) rfl (by decide) H (fun v6 m6 H => ?_)
    obtain ⟨rfl, H⟩ := H
    refine y_st rfl rfl rfl rfl rfl (fun _ _ => rfl) ?_
    refine y_st rfl rfl rfl rfl rfl (fun _ _ => rfl) ?_
    show yP (xg xs) (d + 1) 99 136 [(0, .ref 17)] [.int (169 : Int32), .ref 17] m6 Q
    refine y_call rfl rfl rfl rfl rfl (Nat.le_of_ble_eq_true rfl) (Nat.le_of_ble_eq_true rfl) rfl (by decide) H (fun v7 m7 H => ?_)
    obtain ⟨rfl, H⟩ := H
    refine y_st rfl rfl rfl rfl rfl (fun _ _ => rfl) ?_
    refine y_st rfl rfl rfl rfl rfl (fun _ _ => rfl) ?_
    refine y_gf rfl rfl rfl rfl rfl ?_
    refine y_st rfl rfl rfl rfl rfl (fun _ _ => rfl) ?_
    refine y_st rfl rfl rfl rfl rfl (fun _ _ => rfl) ?_
    refine y_pfi rfl rfl rfl rfl rfl (x_fit_i _) ?_
    show yP (xg xs) (d + 1) 99 149 [(0, .ref 17)] [] (y_si m7 17 6 ((m7.1 17 6) - (1 : Int32))) Q
    refine y_st rfl rfl rfl rfl rfl (fun _ _ => rfl) ?_
    show yP (xg xs) (d + 1) 99 212 [(0, .ref 17)] [] (y_si m7 17 6 ((m7.1 17 6) - (1 : Int32))) Q
    exact y_ret rfl rfl rfl rfl H
  replace H := H.2
  by_cases h173 : m.1 17 5 = (173 : Int32)
  · replace H := H.1 h173
    refine y_lsw (t := 72) rfl rfl rfl (by rw [h173]; rfl) ?_
    clear h173 h168 h65 h64 h36 h35 h34
    refine y_st rfl rfl rfl rfl rfl (fun _ _ => rfl) ?_
    refine y_st rfl rfl rfl rfl rfl (fun _ _ => rfl) ?_
    refine y_st rfl rfl rfl rfl rfl (fun _ _ => rfl) ?_
    refine y_gf rfl rfl rfl rfl rfl ?_
    refine y_st rfl rfl rfl rfl rfl (fun _ _ => rfl) ?_
    show yP (xg xs) (d + 1) 99 81 [(0, .ref 17)] [.int (34 : Int32), .int (m.1 17 5), .int (36 : Int32), .ref 17] m Q
    refine y_ine (t := 88) rfl rfl rfl (fun h => ?_) (fun h => ?_)
    · replace H := H.1 h; clear h
      refine y_st rfl rfl rfl rfl rfl (fun _ _ => rfl) ?_
      show yP (xg xs) (d + 1) 99 89 [(0, .ref 17)] [.int (0 : Int32), .int (36 : Int32), .ref 17] m Q
      exact H
    · replace H := H.2 h; clear h
      refine y_st rfl rfl rfl rfl rfl (fun _ _ => rfl) ?_
      refine y_st rfl rfl rfl rfl rfl (fun _ _ => rfl) ?_
      show yP (xg xs) (d + 1) 99 89 [(0, .ref 17)] [.int (1 : Int32), .int (36 : Int32), .ref 17] m Q
      exact H
  replace H := H.2
  refine y_lsw (t := 206) rfl rfl rfl (by have g0 := ne_lit (34 : Int32) 34 rfl h34; have g1 := ne_lit (35 : Int32) 35 rfl h35; have g2 := ne_lit (36 : Int32) 36 rfl h36; have g3 := ne_lit (64 : Int32) 64 rfl h64; have g4 := ne_lit (65 : Int32) 65 rfl h65; have g5 := ne_lit (168 : Int32) 168 rfl h168; have g6 := ne_lit (173 : Int32) 173 rfl h173; simp [Op.lookupswitch.offset, Ne.symm g0, Ne.symm g1, Ne.symm g2, Ne.symm g3, Ne.symm g4, Ne.symm g5, Ne.symm g6]; rfl) ?_
  replace H := H h34 h35 h36 h64 h65 h168 h173
  clear h173 h168 h65 h64 h36 h35 h34
  refine y_st rfl rfl rfl rfl rfl (fun _ _ => rfl) ?_
  refine y_st rfl rfl rfl rfl rfl (fun _ _ => rfl) ?_
  show yP (xg xs) (d + 1) 99 209 [(0, .ref 17)] [.int (6 : Int32), .ref 17] m Q
  refine y_call rfl rfl rfl rfl rfl (Nat.le_of_ble_eq_true rfl) (Nat.le_of_ble_eq_true rfl) rfl (by decide) H (fun v8 m8 H => ?_)
  obtain ⟨rfl, H⟩ := H
  show yP (xg xs) (d + 1) 99 212 [(0, .ref 17)] [] m8 Q
  exact y_ret rfl rfl rfl rfl H
set_option maxRecDepth 20000 in
/-- CodeMaker.Reader.operand from 89 on -/
theorem w99_89 (xs : List Int32) (d : Nat) (s1 : Int32) (s2 : Int32) (m : yM) (Q : Option Value → yM → Prop) (H : (yC (xg xs) d 75 [.ref 17, .int s1, .int s2] m (fun v1 m1 => ∃ u1, v1 = some (Value.int u1) ∧ (yC (xg xs) d 97 [.ref 17] m1 (fun v2 m2 => v2 = none ∧ (yC (xg xs) d 99 [.ref 17] m2 (fun v3 m3 => v3 = none ∧ (yC (xg xs) d 85 [.ref 2, .int u1] (y_si m3 17 6 ((m3.1 17 6) - (1 : Int32))) (fun v4 m4 => v4 = none ∧ Q none m4))))))))) : yP (xg xs) (d + 1) 99 89 [(0, .ref 17)] [.int s2, .int s1, .ref 17] m Q := by
  show yP (xg xs) (d + 1) 99 89 [(0, .ref 17)] [.int s2, .int s1, .ref 17] m Q
  refine y_call rfl rfl rfl rfl rfl (Nat.le_of_ble_eq_true rfl) (Nat.le_of_ble_eq_true rfl) rfl (by decide) H (fun v1 m1 H => ?_)
  obtain ⟨u1, rfl, H⟩ := H
  refine y_st rfl rfl rfl rfl rfl (fun _ _ => rfl) ?_
  refine y_st rfl rfl rfl rfl rfl (fun _ _ => rfl) ?_
  show yP (xg xs) (d + 1) 99 94 [(1, .int u1), (0, .ref 17)] [.ref 17] m1 Q
  refine y_call rfl rfl rfl rfl rfl (Nat.le_of_ble_eq_true rfl) (Nat.le_of_ble_eq_true rfl) rfl (by decide) H (fun v2 m2 H => ?_)
  obtain ⟨rfl, H⟩ := H
  refine y_st rfl rfl rfl rfl rfl (fun _ _ => rfl) ?_
  show yP (xg xs) (d + 1) 99 98 [(1, .int u1), (0, .ref 17)] [.ref 17] m2 Q
  refine y_call rfl rfl rfl rfl rfl (Nat.le_of_ble_eq_true rfl) (Nat.le_of_ble_eq_true rfl) rfl (by decide) H (fun v3 m3 H => ?_)
  obtain ⟨rfl, H⟩ := H
  refine y_st rfl rfl rfl rfl rfl (fun _ _ => rfl) ?_
  refine y_st rfl rfl rfl rfl rfl (fun _ _ => rfl) ?_
  refine y_gf rfl rfl rfl rfl rfl ?_
  refine y_st rfl rfl rfl rfl rfl (fun _ _ => rfl) ?_
  refine y_st rfl rfl rfl rfl rfl (fun _ _ => rfl) ?_
  refine y_pfi rfl rfl rfl rfl rfl (x_fit_i _) ?_
  show yP (xg xs) (d + 1) 99 111 [(1, .int u1), (0, .ref 17)] [] (y_si m3 17 6 ((m3.1 17 6) - (1 : Int32))) Q
  refine y_st rfl rfl rfl rfl rfl (fun _ _ => rfl) ?_
  refine y_gf rfl rfl rfl rfl rfl ?_
  refine y_st rfl rfl rfl rfl rfl (fun _ _ => rfl) ?_
  show yP (xg xs) (d + 1) 99 116 [(1, .int u1), (0, .ref 17)] [.int u1, .ref 2] (y_si m3 17 6 ((m3.1 17 6) - (1 : Int32))) Q
  refine y_call rfl rfl rfl rfl rfl (Nat.le_of_ble_eq_true rfl) (Nat.le_of_ble_eq_true rfl) rfl (by decide) H (fun v4 m4 H => ?_)
  obtain ⟨rfl, H⟩ := H
  refine y_st rfl rfl rfl rfl rfl (fun _ _ => rfl) ?_
  show yP (xg xs) (d + 1) 99 212 [(1, .int u1), (0, .ref 17)] [] m4 Q
  exact y_ret rfl rfl rfl rfl H
set_option maxRecDepth 20000 in
/-- CodeMaker.Reader.namedOperand from 0 on -/
theorem w100_0 (xs : List Int32) (d : Nat) (m : yM) (Q : Option Value → yM → Prop) (H : (x_in (m.1 17 4) 8193 = true ∧ (yC (xg xs) d 91 [.ref 17] m (fun v1 m1 => ∃ u1, v1 = some (Value.int u1) ∧ ((u1 = (168 : Int32) → (yC (xg xs) d 75 [.ref 17, .int (34 : Int32), .int (m.1 11 ((m.1 17 4).toNatClampNeg))] m1 (fun v2 m2 => ∃ u2, v2 = some (Value.int u2) ∧ (yC (xg xs) d 76 [.ref 17] m2 (fun v3 m3 => v3 = none ∧ (yC (xg xs) d 97 [.ref 17] m3 (fun v4 m4 => v4 = none ∧ yP (xg xs) (d + 1) 100 151 [(0, .ref 17), (2, .int u2), (3, .int (0 : Int32))] [] m4 Q))))))) ∧ (u1 = (174 : Int32) → (yC (xg xs) d 75 [.ref 17, .int (33 : Int32), .int (m.1 11 ((m.1 17 4).toNatClampNeg))] m1 (fun v5 m5 => ∃ u5, v5 = some (Value.int u5) ∧ (yC (xg xs) d 76 [.ref 17] m5 (fun v6 m6 => v6 = none ∧ (yC (xg xs) d 76 [.ref 17] m6 (fun v7 m7 => v7 = none ∧ (x_in (m7.1 17 4) 8193 = true ∧ (yC (xg xs) d 82 [.ref 17, .int (64 : Int32), .int (6 : Int32), .int (m7.1 11 ((m7.1 17 4).toNatClampNeg))] m7 (fun v8 m8 => v8 = none ∧ yP (xg xs) (d + 1) 100 232 [(0, .ref 17), (2, .int u5)] [] m8 Q)))))))))) ∧ (u1 = (219 : Int32) → (yC (xg xs) d 75 [.ref 17, .int (32 : Int32), .int (m.1 11 ((m.1 17 4).toNatClampNeg))] m1 (fun v9 m9 => ∃ u9, v9 = some (Value.int u9) ∧ (yC (xg xs) d 76 [.ref 17] m9 (fun v10 m10 => v10 = none ∧ (yC (xg xs) d 97 [.ref 17] m10 (fun v11 m11 => v11 = none ∧ (yC (xg xs) d 98 [.ref 17, .int (0 : Int32), .int (0 : Int32)] m11 (fun v12 m12 => v12 = none ∧ (yC (xg xs) d 77 [.ref 17, .int (221 : Int32)] m12 (fun v13 m13 => v13 = none ∧ yP (xg xs) (d + 1) 100 232 [(0, .ref 17), (2, .int u9)] [] (y_si m13 17 6 ((m13.1 17 6) - (1 : Int32))) Q))))))))))) ∧ (¬ u1 = (168 : Int32) → ¬ u1 = (174 : Int32) → ¬ u1 = (219 : Int32) → (yC (xg xs) d 75 [.ref 17, .int (6 : Int32), .int (m.1 11 ((m.1 17 4).toNatClampNeg))] m1 (fun v14 m14 => ∃ u14, v14 = some (Value.int u14) ∧ (yC (xg xs) d 76 [.ref 17] m14 (fun v15 m15 => v15 = none ∧ yP (xg xs) (d + 1) 100 232 [(0, .ref 17), (2, .int u14)] [] m15 Q)))))))))) : yP (xg xs) (d + 1) 100 0 [(0, .ref 17)] [] m Q := by
  refine y_st rfl rfl rfl rfl rfl (fun _ _ => rfl) ?_
  refine y_gf rfl rfl rfl rfl rfl ?_
  refine y_gf rfl rfl rfl rfl rfl ?_
  refine y_st rfl rfl rfl rfl rfl (fun _ _ => rfl) ?_
  refine y_gf rfl rfl rfl rfl rfl ?_
  show yP (xg xs) (d + 1) 100 11 [(0, .ref 17)] [.int (m.1 17 4), .ref 11] m Q
  refine y_iald rfl rfl rfl (H.1) ?_
  replace H := H.2
  refine y_st rfl rfl rfl rfl rfl (fun _ _ => rfl) ?_
  refine y_st rfl rfl rfl rfl rfl (fun _ _ => rfl) ?_
  show yP (xg xs) (d + 1) 100 14 [(1, .int (m.1 11 ((m.1 17 4).toNatClampNeg))), (0, .ref 17)] [.ref 17] m Q
  refine y_call rfl rfl rfl rfl rfl (Nat.le_of_ble_eq_true rfl) (Nat.le_of_ble_eq_true rfl) rfl (by decide) H (fun v1 m1 H => ?_)
  obtain ⟨u1, rfl, H⟩ := H
  show yP (xg xs) (d + 1) 100 17 [(1, .int (m.1 11 ((m.1 17 4).toNatClampNeg))), (0, .ref 17)] [.int u1] m1 Q
  by_cases h168 : u1 = (168 : Int32)
  · replace H := H.1 h168
    refine y_lsw (t := 133) rfl rfl rfl (by rw [h168]; rfl) ?_
    clear h168
    refine y_st rfl rfl rfl rfl rfl (fun _ _ => rfl) ?_
    refine y_st rfl rfl rfl rfl rfl (fun _ _ => rfl) ?_
    refine y_st rfl rfl rfl rfl rfl (fun _ _ => rfl) ?_
    show yP (xg xs) (d + 1) 100 137 [(1, .int (m.1 11 ((m.1 17 4).toNatClampNeg))), (0, .ref 17)] [.int (m.1 11 ((m.1 17 4).toNatClampNeg)), .int (34 : Int32), .ref 17] m1 Q
    refine y_call rfl rfl rfl rfl rfl (Nat.le_of_ble_eq_true rfl) (Nat.le_of_ble_eq_true rfl) rfl (by decide) H (fun v2 m2 H => ?_)
    obtain ⟨u2, rfl, H⟩ := H
    refine y_st rfl rfl rfl rfl rfl (fun _ _ => rfl) ?_
    refine y_st rfl rfl rfl rfl rfl (fun _ _ => rfl) ?_
    show yP (xg xs) (d + 1) 100 142 [(2, .int u2), (1, .int (m.1 11 ((m.1 17 4).toNatClampNeg))), (0, .ref 17)] [.ref 17] m2 Q
    refine y_call rfl rfl rfl rfl rfl (Nat.le_of_ble_eq_true rfl) (Nat.le_of_ble_eq_true rfl) rfl (by decide) H (fun v3 m3 H => ?_)
    obtain ⟨rfl, H⟩ := H
    refine y_st rfl rfl rfl rfl rfl (fun _ _ => rfl) ?_
    show yP (xg xs) (d + 1) 100 146 [(2, .int u2), (1, .int (m.1 11 ((m.1 17 4).toNatClampNeg))), (0, .ref 17)] [.ref 17] m3 Q
    refine y_call rfl rfl rfl rfl rfl (Nat.le_of_ble_eq_true rfl) (Nat.le_of_ble_eq_true rfl) rfl (by decide) H (fun v4 m4 H => ?_)
    obtain ⟨rfl, H⟩ := H
    refine y_st rfl rfl rfl rfl rfl (fun _ _ => rfl) ?_
    refine y_st rfl rfl rfl rfl rfl (fun _ _ => rfl) ?_
    show yP (xg xs) (d + 1) 100 151 [(3, .int (0 : Int32)), (2, .int u2), (1, .int (m.1 11 ((m.1 17 4).toNatClampNeg))), (0, .ref 17)] [] m4 Q
    refine y_headS (l2 := [(0, .ref 17), (2, .int u2), (3, .int (0 : Int32))]) [3, 1, 0] [0, 2, 3] [3, 2, 1, 0] rfl rfl (by decide) rfl (by decide) ?_
    exact H
  replace H := H.2
  by_cases h174 : u1 = (174 : Int32)
  · replace H := H.1 h174
    refine y_lsw (t := 94) rfl rfl rfl (by rw [h174]; rfl) ?_
    clear h174 h168
    refine y_st rfl rfl rfl rfl rfl (fun _ _ => rfl) ?_
    refine y_st rfl rfl rfl rfl rfl (fun _ _ => rfl) ?_
    refine y_st rfl rfl rfl rfl rfl (fun _ _ => rfl) ?_
    show yP (xg xs) (d + 1) 100 98 [(1, .int (m.1 11 ((m.1 17 4).toNatClampNeg))), (0, .ref 17)] [.int (m.1 11 ((m.1 17 4).toNatClampNeg)), .int (33 : Int32), .ref 17] m1 Q
    refine y_call rfl rfl rfl rfl rfl (Nat.le_of_ble_eq_true rfl) (Nat.le_of_ble_eq_true rfl) rfl (by decide) H (fun v5 m5 H => ?_)
    obtain ⟨u5, rfl, H⟩ := H
    refine y_st rfl rfl rfl rfl rfl (fun _ _ => rfl) ?_
    refine y_st rfl rfl rfl rfl rfl (fun _ _ => rfl) ?_
    show yP (xg xs) (d + 1) 100 103 [(2, .int u5), (1, .int (m.1 11 ((m.1 17 4).toNatClampNeg))), (0, .ref 17)] [.ref 17] m5 Q
    refine y_call rfl rfl rfl rfl rfl (Nat.le_of_ble_eq_true rfl) (Nat.le_of_ble_eq_true rfl) rfl (by decide) H (fun v6 m6 H => ?_)
    obtain ⟨rfl, H⟩ := H
    refine y_st rfl rfl rfl rfl rfl (fun _ _ => rfl) ?_
    show yP (xg xs) (d + 1) 100 107 [(2, .int u5), (1, .int (m.1 11 ((m.1 17 4).toNatClampNeg))), (0, .ref 17)] [.ref 17] m6 Q
    refine y_call rfl rfl rfl rfl rfl (Nat.le_of_ble_eq_true rfl) (Nat.le_of_ble_eq_true rfl) rfl (by decide) H (fun v7 m7 H => ?_)
    obtain ⟨rfl, H⟩ := H
    refine y_st rfl rfl rfl rfl rfl (fun _ _ => rfl) ?_
    refine y_st rfl rfl rfl rfl rfl (fun _ _ => rfl) ?_
    refine y_st rfl rfl rfl rfl rfl (fun _ _ => rfl) ?_
    refine y_st rfl rfl rfl rfl rfl (fun _ _ => rfl) ?_
    refine y_gf rfl rfl rfl rfl rfl ?_
    refine y_gf rfl rfl rfl rfl rfl ?_
    refine y_st rfl rfl rfl rfl rfl (fun _ _ => rfl) ?_
    refine y_gf rfl rfl rfl rfl rfl ?_
    show yP (xg xs) (d + 1) 100 126 [(2, .int u5), (1, .int (m.1 11 ((m.1 17 4).toNatClampNeg))), (0, .ref 17)] [.int (m7.1 17 4), .ref 11, .int (6 : Int32), .int (64 : Int32), .ref 17] m7 Q
    refine y_iald rfl rfl rfl (H.1) ?_
    replace H := H.2
    show yP (xg xs) (d + 1) 100 127 [(2, .int u5), (1, .int (m.1 11 ((m.1 17 4).toNatClampNeg))), (0, .ref 17)] [.int (m7.1 11 ((m7.1 17 4).toNatClampNeg)), .int (6 : Int32), .int (64 : Int32), .ref 17] m7 Q
    refine y_call rfl rfl rfl rfl rfl (Nat.le_of_ble_eq_true rfl) (Nat.le_of_ble_eq_true rfl) rfl (by decide) H (fun v8 m8 H => ?_)
    obtain ⟨rfl, H⟩ := H
    refine y_st rfl rfl rfl rfl rfl (fun _ _ => rfl) ?_
    show yP (xg xs) (d + 1) 100 232 [(2, .int u5), (1, .int (m.1 11 ((m.1 17 4).toNatClampNeg))), (0, .ref 17)] [] m8 Q
    refine y_headS (l2 := [(0, .ref 17), (2, .int u5)]) [2, 0] [0, 2] [2, 1, 0] rfl rfl (by decide) rfl (by decide) ?_
    exact H
  replace H := H.2
  by_cases h219 : u1 = (219 : Int32)
  · replace H := H.1 h219
    refine y_lsw (t := 52) rfl rfl rfl (by rw [h219]; rfl) ?_
    clear h219 h174 h168
    refine y_st rfl rfl rfl rfl rfl (fun _ _ => rfl) ?_
    refine y_st rfl rfl rfl rfl rfl (fun _ _ => rfl) ?_
    refine y_st rfl rfl rfl rfl rfl (fun _ _ => rfl) ?_
    show yP (xg xs) (d + 1) 100 56 [(1, .int (m.1 11 ((m.1 17 4).toNatClampNeg))), (0, .ref 17)] [.int (m.1 11 ((m.1 17 4).toNatClampNeg)), .int (32 : Int32), .ref 17] m1 Q
    refine y_call rfl rfl rfl rfl rfl (Nat.le_of_ble_eq_true rfl) (Nat.le_of_ble_eq_true rfl) rfl (by decide) H (fun v9 m9 H => ?_)
    obtain ⟨u9, rfl, H⟩ := H
    refine y_st rfl rfl rfl rfl rfl (fun _ _ => rfl) ?_
    refine y_st rfl rfl rfl rfl rfl (fun _ _ => rfl) ?_
    show yP (xg xs) (d + 1) 100 61 [(2, .int u9), (1, .int (m.1 11 ((m.1 17 4).toNatClampNeg))), (0, .ref 17)] [.ref 17] m9 Q
    refine y_call rfl rfl rfl rfl rfl (Nat.le_of_ble_eq_true rfl) (Nat.le_of_ble_eq_true rfl) rfl (by decide) H (fun v10 m10 H => ?_)
    obtain ⟨rfl, H⟩ := H
    refine y_st rfl rfl rfl rfl rfl (fun _ _ => rfl) ?_
    show yP (xg xs) (d + 1) 100 65 [(2, .int u9), (1, .int (m.1 11 ((m.1 17 4).toNatClampNeg))), (0, .ref 17)] [.ref 17] m10 Q
    refine y_call rfl rfl rfl rfl rfl (Nat.le_of_ble_eq_true rfl) (Nat.le_of_ble_eq_true rfl) rfl (by decide) H (fun v11 m11 H => ?_)
    obtain ⟨rfl, H⟩ := H
    refine y_st rfl rfl rfl rfl rfl (fun _ _ => rfl) ?_
    refine y_st rfl rfl rfl rfl rfl (fun _ _ => rfl) ?_
    refine y_st rfl rfl rfl rfl rfl (fun _ _ => rfl) ?_
    show yP (xg xs) (d + 1) 100 71 [(2, .int u9), (1, .int (m.1 11 ((m.1 17 4).toNatClampNeg))), (0, .ref 17)] [.int (0 : Int32), .int (0 : Int32), .ref 17] m11 Q
    refine y_call rfl rfl rfl rfl rfl (Nat.le_of_ble_eq_true rfl) (Nat.le_of_ble_eq_true rfl) rfl (by decide) H (fun v12 m12 H => ?_)
    obtain ⟨rfl, H⟩ := H
    refine y_st rfl rfl rfl rfl rfl (fun _ _ => rfl) ?_
    refine y_st rfl rfl rfl rfl rfl (fun _ _ => rfl) ?_
    show yP (xg xs) (d + 1) 100 78 [(2, .int u9), (1, .int (m.1 11 ((m.1 17 4).toNatClampNeg))), (0, .ref 17)] [.int (221 : Int32), .ref 17] m12 Q
    refine y_call rfl rfl rfl rfl rfl (Nat.le_of_ble_eq_true rfl) (Nat.le_of_ble_eq_true rfl) rfl (by decide) H (fun v13 m13 H => ?_)
    obtain ⟨rfl, H⟩ := H
    refine y_st rfl rfl rfl rfl rfl (fun _ _ => rfl) ?_
    refine y_st rfl rfl rfl rfl rfl (fun _ _ => rfl) ?_
    refine y_gf rfl rfl rfl rfl rfl ?_
    refine y_st rfl rfl rfl rfl rfl (fun _ _ => rfl) ?_
    refine y_st rfl rfl rfl rfl rfl (fun _ _ => rfl) ?_
    refine y_pfi rfl rfl rfl rfl rfl (x_fit_i _) ?_
    show yP (xg xs) (d + 1) 100 91 [(2, .int u9), (1, .int (m.1 11 ((m.1 17 4).toNatClampNeg))), (0, .ref 17)] [] (y_si m13 17 6 ((m13.1 17 6) - (1 : Int32))) Q
    refine y_st rfl rfl rfl rfl rfl (fun _ _ => rfl) ?_
    show yP (xg xs) (d + 1) 100 232 [(2, .int u9), (1, .int (m.1 11 ((m.1 17 4).toNatClampNeg))), (0, .ref 17)] [] (y_si m13 17 6 ((m13.1 17 6) - (1 : Int32))) Q
    refine y_headS (l2 := [(0, .ref 17), (2, .int u9)]) [2, 0] [0, 2] [2, 1, 0] rfl rfl (by decide) rfl (by decide) ?_
    exact H
  replace H := H.2
  refine y_lsw (t := 220) rfl rfl rfl (by have g0 := ne_lit (168 : Int32) 168 rfl h168; have g1 := ne_lit (174 : Int32) 174 rfl h174; have g2 := ne_lit (219 : Int32) 219 rfl h219; simp [Op.lookupswitch.offset, Ne.symm g0, Ne.symm g1, Ne.symm g2]; rfl) ?_
  replace H := H h168 h174 h219
  clear h219 h174 h168
  refine y_st rfl rfl rfl rfl rfl (fun _ _ => rfl) ?_
  refine y_st rfl rfl rfl rfl rfl (fun _ _ => rfl) ?_
  refine y_st rfl rfl rfl rfl rfl (fun _ _ => rfl) ?_
  show yP (xg xs) (d + 1) 100 224 [(1, .int (m.1 11 ((m.1 17 4).toNatClampNeg))), (0, .ref 17)] [.int (m.1 11 ((m.1 17 4).toNatClampNeg)), .int (6 : Int32), .ref 17] m1 Q
  refine y_call rfl rfl rfl rfl rfl (Nat.le_of_ble_eq_true rfl) (Nat.le_of_ble_eq_true rfl) rfl (by decide) H (fun v14 m14 H => ?_)
  obtain ⟨u14, rfl, H⟩ := H
  refine y_st rfl rfl rfl rfl rfl (fun _ _ => rfl) ?_
  refine y_st rfl rfl rfl rfl rfl (fun _ _ => rfl) ?_
  show yP (xg xs) (d + 1) 100 229 [(2, .int u14), (1, .int (m.1 11 ((m.1 17 4).toNatClampNeg))), (0, .ref 17)] [.ref 17] m14 Q
  refine y_call rfl rfl rfl rfl rfl (Nat.le_of_ble_eq_true rfl) (Nat.le_of_ble_eq_true rfl) rfl (by decide) H (fun v15 m15 H => ?_)
  obtain ⟨rfl, H⟩ := H
  show yP (xg xs) (d + 1) 100 232 [(2, .int u14), (1, .int (m.1 11 ((m.1 17 4).toNatClampNeg))), (0, .ref 17)] [] m15 Q
  refine y_headS (l2 := [(0, .ref 17), (2, .int u14)]) [2, 0] [0, 2] [2, 1, 0] rfl rfl (by decide) rfl (by decide) ?_
  exact H
set_option maxRecDepth 20000 in
/-- CodeMaker.Reader.namedOperand from 151 on -/
theorem w100_151 (xs : List Int32) (d : Nat) (l2 : Int32) (l3 : Int32) (m : yM) (Q : Option Value → yM → Prop) (H : (((8192 : Int32) ≤ l3 → yP (xg xs) (d + 1) 100 200 [(0, .ref 17), (2, .int l2)] [] m Q) ∧ (¬ (8192 : Int32) ≤ l3 → (((m.1 17 5) = (169 : Int32) → yP (xg xs) (d + 1) 100 200 [(0, .ref 17), (2, .int l2)] [] m Q) ∧ (¬ (m.1 17 5) = (169 : Int32) → (((m.1 17 5) = (69 : Int32) → yP (xg xs) (d + 1) 100 200 [(0, .ref 17), (2, .int l2)] [] m Q) ∧ (¬ (m.1 17 5) = (69 : Int32) → ((l3 ≤ 0 → yP (xg xs) (d + 1) 100 188 [(0, .ref 17), (2, .int l2), (3, .int l3)] [] m Q) ∧ (¬ l3 ≤ 0 → (yC (xg xs) d 77 [.ref 17, .int (172 : Int32)] m (fun v1 m1 => v1 = none ∧ yP (xg xs) (d + 1) 100 188 [(0, .ref 17), (2, .int l2), (3, .int l3)] [] m1 Q))))))))))) : yP (xg xs) (d + 1) 100 151 [(0, .ref 17), (2, .int l2), (3, .int l3)] [] m Q := by
  refine y_st rfl rfl rfl rfl rfl (fun _ _ => rfl) ?_
  refine y_st rfl rfl rfl rfl rfl (fun _ _ => rfl) ?_
  show yP (xg xs) (d + 1) 100 155 [(0, .ref 17), (2, .int l2), (3, .int l3)] [.int (8192 : Int32), .int l3] m Q
  refine y_ige (t := 200) rfl rfl rfl (fun h => ?_) (fun h => ?_)
  · replace H := H.1 h; clear h
    show yP (xg xs) (d + 1) 100 200 [(0, .ref 17), (2, .int l2), (3, .int l3)] [] m Q
    refine y_headS (l2 := [(0, .ref 17), (2, .int l2)]) [0, 1] [0, 2] [0, 2, 3] rfl rfl (by decide) rfl (by decide) ?_
    exact H
  · replace H := H.2 h; clear h
    refine y_st rfl rfl rfl rfl rfl (fun _ _ => rfl) ?_
    refine y_gf rfl rfl rfl rfl rfl ?_
    refine y_st rfl rfl rfl rfl rfl (fun _ _ => rfl) ?_
    show yP (xg xs) (d + 1) 100 165 [(0, .ref 17), (2, .int l2), (3, .int l3)] [.int (169 : Int32), .int (m.1 17 5)] m Q
    refine y_ieq (t := 200) rfl rfl rfl (fun h => ?_) (fun h => ?_)
    · replace H := H.1 h; clear h
      show yP (xg xs) (d + 1) 100 200 [(0, .ref 17), (2, .int l2), (3, .int l3)] [] m Q
      refine y_headS (l2 := [(0, .ref 17), (2, .int l2)]) [0, 1] [0, 2] [0, 2, 3] rfl rfl (by decide) rfl (by decide) ?_
      exact H
    · replace H := H.2 h; clear h
      refine y_st rfl rfl rfl rfl rfl (fun _ _ => rfl) ?_
      refine y_gf rfl rfl rfl rfl rfl ?_
      refine y_st rfl rfl rfl rfl rfl (fun _ _ => rfl) ?_
      show yP (xg xs) (d + 1) 100 174 [(0, .ref 17), (2, .int l2), (3, .int l3)] [.int (69 : Int32), .int (m.1 17 5)] m Q
      refine y_ieq (t := 200) rfl rfl rfl (fun h => ?_) (fun h => ?_)
      · replace H := H.1 h; clear h
        show yP (xg xs) (d + 1) 100 200 [(0, .ref 17), (2, .int l2), (3, .int l3)] [] m Q
        refine y_headS (l2 := [(0, .ref 17), (2, .int l2)]) [0, 1] [0, 2] [0, 2, 3] rfl rfl (by decide) rfl (by decide) ?_
        exact H
      · replace H := H.2 h; clear h
        refine y_st rfl rfl rfl rfl rfl (fun _ _ => rfl) ?_
        show yP (xg xs) (d + 1) 100 178 [(0, .ref 17), (2, .int l2), (3, .int l3)] [.int l3] m Q
        refine y_zle (t := 188) rfl rfl rfl (fun h => ?_) (fun h => ?_)
        · replace H := H.1 h; clear h
          show yP (xg xs) (d + 1) 100 188 [(0, .ref 17), (2, .int l2), (3, .int l3)] [] m Q
          exact H
        · replace H := H.2 h; clear h
          refine y_st rfl rfl rfl rfl rfl (fun _ _ => rfl) ?_
          refine y_st rfl rfl rfl rfl rfl (fun _ _ => rfl) ?_
          show yP (xg xs) (d + 1) 100 185 [(0, .ref 17), (2, .int l2), (3, .int l3)] [.int (172 : Int32), .ref 17] m Q
          refine y_call rfl rfl rfl rfl rfl (Nat.le_of_ble_eq_true rfl) (Nat.le_of_ble_eq_true rfl) rfl (by decide) H (fun v1 m1 H => ?_)
          obtain ⟨rfl, H⟩ := H
          show yP (xg xs) (d + 1) 100 188 [(0, .ref 17), (2, .int l2), (3, .int l3)] [] m1 Q
          exact H
set_option maxRecDepth 20000 in
/-- CodeMaker.Reader.namedOperand from 188 on -/
theorem w100_188 (xs : List Int32) (d : Nat) (l2 : Int32) (l3 : Int32) (m : yM) (Q : Option Value → yM → Prop) (H : (yC (xg xs) d 98 [.ref 17, .int (0 : Int32), .int (0 : Int32)] m (fun v1 m1 => v1 = none ∧ yP (xg xs) (d + 1) 100 151 [(0, .ref 17), (2, .int l2), (3, .int (l3 + (1 : Int32)))] [] m1 Q))) : yP (xg xs) (d + 1) 100 188 [(0, .ref 17), (2, .int l2), (3, .int l3)] [] m Q := by
  refine y_st rfl rfl rfl rfl rfl (fun _ _ => rfl) ?_
  refine y_st rfl rfl rfl rfl rfl (fun _ _ => rfl) ?_
  refine y_st rfl rfl rfl rfl rfl (fun _ _ => rfl) ?_
  show yP (xg xs) (d + 1) 100 191 [(0, .ref 17), (2, .int l2), (3, .int l3)] [.int (0 : Int32), .int (0 : Int32), .ref 17] m Q
  refine y_call rfl rfl rfl rfl rfl (Nat.le_of_ble_eq_true rfl) (Nat.le_of_ble_eq_true rfl) rfl (by decide) H (fun v1 m1 H => ?_)
  obtain ⟨rfl, H⟩ := H
  refine y_st rfl rfl rfl rfl rfl (fun _ _ => rfl) ?_
  refine y_st rfl rfl rfl rfl rfl (fun _ _ => rfl) ?_
  show yP (xg xs) (d + 1) 100 151 [(3, .int (l3 + (1 : Int32))), (0, .ref 17), (2, .int l2)] [] m1 Q
  refine y_headS (l2 := [(0, .ref 17), (2, .int l2), (3, .int (l3 + (1 : Int32)))]) [1, 2, 0] [0, 2, 3] [3, 0, 2] rfl rfl (by decide) rfl (by decide) ?_
  exact H
set_option maxRecDepth 20000 in
/-- CodeMaker.Reader.namedOperand from 200 on -/
theorem w100_200 (xs : List Int32) (d : Nat) (l2 : Int32) (m : yM) (Q : Option Value → yM → Prop) (H : (yC (xg xs) d 77 [.ref 17, .int (169 : Int32)] m (fun v1 m1 => v1 = none ∧ yP (xg xs) (d + 1) 100 232 [(0, .ref 17), (2, .int l2)] [] (y_si m1 17 6 ((m1.1 17 6) - (1 : Int32))) Q))) : yP (xg xs) (d + 1) 100 200 [(0, .ref 17), (2, .int l2)] [] m Q := by
  refine y_st rfl rfl rfl rfl rfl (fun _ _ => rfl) ?_
  refine y_st rfl rfl rfl rfl rfl (fun _ _ => rfl) ?_
  show yP (xg xs) (d + 1) 100 204 [(0, .ref 17), (2, .int l2)] [.int (169 : Int32), .ref 17] m Q
  refine y_call rfl rfl rfl rfl rfl (Nat.le_of_ble_eq_true rfl) (Nat.le_of_ble_eq_true rfl) rfl (by decide) H (fun v1 m1 H => ?_)
  obtain ⟨rfl, H⟩ := H
  refine y_st rfl rfl rfl rfl rfl (fun _ _ => rfl) ?_
  refine y_st rfl rfl rfl rfl rfl (fun _ _ => rfl) ?_
  refine y_gf rfl rfl rfl rfl rfl ?_
  refine y_st rfl rfl rfl rfl rfl (fun _ _ => rfl) ?_
  refine y_st rfl rfl rfl rfl rfl (fun _ _ => rfl) ?_
  refine y_pfi rfl rfl rfl rfl rfl (x_fit_i _) ?_
  show yP (xg xs) (d + 1) 100 217 [(0, .ref 17), (2, .int l2)] [] (y_si m1 17 6 ((m1.1 17 6) - (1 : Int32))) Q
  refine y_st rfl rfl rfl rfl rfl (fun _ _ => rfl) ?_
  show yP (xg xs) (d + 1) 100 232 [(0, .ref 17), (2, .int l2)] [] (y_si m1 17 6 ((m1.1 17 6) - (1 : Int32))) Q
  exact H
set_option maxRecDepth 20000 in
/-- CodeMaker.Reader.namedOperand from 232 on -/
theorem w100_232 (xs : List Int32) (d : Nat) (l2 : Int32) (m : yM) (Q : Option Value → yM → Prop) (H : (yC (xg xs) d 85 [.ref 2, .int l2] m (fun v1 m1 => v1 = none ∧ Q none m1))) : yP (xg xs) (d + 1) 100 232 [(0, .ref 17), (2, .int l2)] [] m Q := by
  refine y_st rfl rfl rfl rfl rfl (fun _ _ => rfl) ?_
  refine y_gf rfl rfl rfl rfl rfl ?_
  refine y_st rfl rfl rfl rfl rfl (fun _ _ => rfl) ?_
  show yP (xg xs) (d + 1) 100 237 [(0, .ref 17), (2, .int l2)] [.int l2, .ref 2] m Q
  refine y_call rfl rfl rfl rfl rfl (Nat.le_of_ble_eq_true rfl) (Nat.le_of_ble_eq_true rfl) rfl (by decide) H (fun v1 m1 H => ?_)
  obtain ⟨rfl, H⟩ := H
  show yP (xg xs) (d + 1) 100 240 [(0, .ref 17), (2, .int l2)] [] m1 Q
  exact y_ret rfl rfl rfl rfl H
set_option maxRecDepth 20000 in
/-- CodeMaker.Reader.closenessOf from 0 on -/
theorem w101_0 (xs : List Int32) (d : Nat) (l0 : Int32) (m : yM) (Q : Option Value → yM → Prop) (H : (yC (xg xs) d 102 [.int l0] m (fun v1 m1 => ∃ u1, v1 = some (Value.int u1) ∧ (((3 : Int32) ≤ u1 → (((4 : Int32) < u1 → (((8 : Int32) < u1 → (((11 : Int32) ≤ u1 → Q (some (.int (6 : Int32))) m1) ∧ (¬ (11 : Int32) ≤ u1 → Q (some (.int (5 : Int32))) m1))) ∧ (¬ (8 : Int32) < u1 → Q (some (.int (4 : Int32))) m1))) ∧ (¬ (4 : Int32) < u1 → Q (some (.int (3 : Int32))) m1))) ∧ (¬ (3 : Int32) ≤ u1 → Q (some (.int u1)) m1))))) : yP (xg xs) (d + 1) 101 0 [(0, .int l0)] [] m Q := by
  refine y_st rfl rfl rfl rfl rfl (fun _ _ => rfl) ?_
  show yP (xg xs) (d + 1) 101 1 [(0, .int l0)] [.int l0] m Q
  refine y_call rfl rfl rfl rfl rfl (Nat.le_of_ble_eq_true rfl) (Nat.le_of_ble_eq_true rfl) rfl (by decide) H (fun v1 m1 H => ?_)
  obtain ⟨u1, rfl, H⟩ := H
  refine y_st rfl rfl rfl rfl rfl (fun _ _ => rfl) ?_
  refine y_st rfl rfl rfl rfl rfl (fun _ _ => rfl) ?_
  refine y_st rfl rfl rfl rfl rfl (fun _ _ => rfl) ?_
  show yP (xg xs) (d + 1) 101 7 [(1, .int u1), (0, .int l0)] [.int (3 : Int32), .int u1] m1 Q
  refine y_ige (t := 12) rfl rfl rfl (fun h => ?_) (fun h => ?_)
  · replace H := H.1 h; clear h
    refine y_st rfl rfl rfl rfl rfl (fun _ _ => rfl) ?_
    refine y_st rfl rfl rfl rfl rfl (fun _ _ => rfl) ?_
    show yP (xg xs) (d + 1) 101 14 [(1, .int u1), (0, .int l0)] [.int (4 : Int32), .int u1] m1 Q
    refine y_igt (t := 21) rfl rfl rfl (fun h => ?_) (fun h => ?_)
    · replace H := H.1 h; clear h
      refine y_st rfl rfl rfl rfl rfl (fun _ _ => rfl) ?_
      refine y_st rfl rfl rfl rfl rfl (fun _ _ => rfl) ?_
      show yP (xg xs) (d + 1) 101 24 [(1, .int u1), (0, .int l0)] [.int (8 : Int32), .int u1] m1 Q
      refine y_igt (t := 31) rfl rfl rfl (fun h => ?_) (fun h => ?_)
      · replace H := H.1 h; clear h
        refine y_st rfl rfl rfl rfl rfl (fun _ _ => rfl) ?_
        refine y_st rfl rfl rfl rfl rfl (fun _ _ => rfl) ?_
        show yP (xg xs) (d + 1) 101 34 [(1, .int u1), (0, .int l0)] [.int (11 : Int32), .int u1] m1 Q
        refine y_ige (t := 41) rfl rfl rfl (fun h => ?_) (fun h => ?_)
        · replace H := H.1 h; clear h
          refine y_st rfl rfl rfl rfl rfl (fun _ _ => rfl) ?_
          show yP (xg xs) (d + 1) 101 43 [(1, .int u1), (0, .int l0)] [.int (6 : Int32)] m1 Q
          exact y_iret rfl rfl rfl H
        · replace H := H.2 h; clear h
          refine y_st rfl rfl rfl rfl rfl (fun _ _ => rfl) ?_
          refine y_st rfl rfl rfl rfl rfl (fun _ _ => rfl) ?_
          show yP (xg xs) (d + 1) 101 43 [(1, .int u1), (0, .int l0)] [.int (5 : Int32)] m1 Q
          exact y_iret rfl rfl rfl H
      · replace H := H.2 h; clear h
        refine y_st rfl rfl rfl rfl rfl (fun _ _ => rfl) ?_
        refine y_st rfl rfl rfl rfl rfl (fun _ _ => rfl) ?_
        show yP (xg xs) (d + 1) 101 43 [(1, .int u1), (0, .int l0)] [.int (4 : Int32)] m1 Q
        exact y_iret rfl rfl rfl H
    · replace H := H.2 h; clear h
      refine y_st rfl rfl rfl rfl rfl (fun _ _ => rfl) ?_
      refine y_st rfl rfl rfl rfl rfl (fun _ _ => rfl) ?_
      show yP (xg xs) (d + 1) 101 43 [(1, .int u1), (0, .int l0)] [.int (3 : Int32)] m1 Q
      exact y_iret rfl rfl rfl H
  · replace H := H.2 h; clear h
    refine y_st rfl rfl rfl rfl rfl (fun _ _ => rfl) ?_
    show yP (xg xs) (d + 1) 101 11 [(1, .int u1), (0, .int l0)] [.int u1] m1 Q
    exact y_iret rfl rfl rfl H
set_option maxRecDepth 20000 in
/-- CodeMaker.Reader.operatorOf from 0 on -/
theorem w102_0 (xs : List Int32) (d : Nat) (l0 : Int32) (m : yM) (Q : Option Value → yM → Prop) (H : ((l0 = (30 : Int32) → Q (some (.int (0 : Int32))) m) ∧ (l0 = (31 : Int32) → Q (some (.int (1 : Int32))) m) ∧ (l0 = (32 : Int32) → Q (some (.int (2 : Int32))) m) ∧ (l0 = (33 : Int32) → Q (some (.int (13 : Int32))) m) ∧ (l0 = (72 : Int32) → Q (some (.int (7 : Int32))) m) ∧ (l0 = (73 : Int32) → Q (some (.int (8 : Int32))) m) ∧ (l0 = (74 : Int32) → Q (some (.int (4 : Int32))) m) ∧ (l0 = (166 : Int32) → Q (some (.int (2 : Int32))) m) ∧ (l0 = (170 : Int32) → Q (some (.int (11 : Int32))) m) ∧ (l0 = (171 : Int32) → Q (some (.int (9 : Int32))) m) ∧ (l0 = (173 : Int32) → Q (some (.int (10 : Int32))) m) ∧ (l0 = (175 : Int32) → Q (some (.int (12 : Int32))) m) ∧ (l0 = (188 : Int32) → Q (some (.int (5 : Int32))) m) ∧ (l0 = (189 : Int32) → Q (some (.int (3 : Int32))) m) ∧ (l0 = (190 : Int32) → Q (some (.int (6 : Int32))) m) ∧ (¬ l0 = (30 : Int32) → ¬ l0 = (31 : Int32) → ¬ l0 = (32 : Int32) → ¬ l0 = (33 : Int32) → ¬ l0 = (72 : Int32) → ¬ l0 = (73 : Int32) → ¬ l0 = (74 : Int32) → ¬ l0 = (166 : Int32) → ¬ l0 = (170 : Int32) → ¬ l0 = (171 : Int32) → ¬ l0 = (173 : Int32) → ¬ l0 = (175 : Int32) → ¬ l0 = (188 : Int32) → ¬ l0 = (189 : Int32) → ¬ l0 = (190 : Int32) → Q (some (.int ((-1) : Int32))) m))) : yP (xg xs) (d + 1) 102 0 [(0, .int l0)] [] m Q := by
  refine y_st rfl rfl rfl rfl rfl (fun _ _ => rfl) ?_
  show yP (xg xs) (d + 1) 102 1 [(0, .int l0)] [.int l0] m Q
  by_cases h30 : l0 = (30 : Int32)
  · replace H := H.1 h30
    refine y_lsw (t := 132) rfl rfl rfl (by rw [h30]; rfl) ?_
    clear h30
    refine y_st rfl rfl rfl rfl rfl (fun _ _ => rfl) ?_
    show yP (xg xs) (d + 1) 102 133 [(0, .int l0)] [.int (0 : Int32)] m Q
    exact y_iret rfl rfl rfl H
  replace H := H.2
  by_cases h31 : l0 = (31 : Int32)
  · replace H := H.1 h31
    refine y_lsw (t := 134) rfl rfl rfl (by rw [h31]; rfl) ?_
    clear h31 h30
    refine y_st rfl rfl rfl rfl rfl (fun _ _ => rfl) ?_
    show yP (xg xs) (d + 1) 102 135 [(0, .int l0)] [.int (1 : Int32)] m Q
    exact y_iret rfl rfl rfl H
  replace H := H.2
  by_cases h32 : l0 = (32 : Int32)
  · replace H := H.1 h32
    refine y_lsw (t := 136) rfl rfl rfl (by rw [h32]; rfl) ?_
    clear h32 h31 h30
    refine y_st rfl rfl rfl rfl rfl (fun _ _ => rfl) ?_
    show yP (xg xs) (d + 1) 102 137 [(0, .int l0)] [.int (2 : Int32)] m Q
    exact y_iret rfl rfl rfl H
  replace H := H.2
  by_cases h33 : l0 = (33 : Int32)
  · replace H := H.1 h33
    refine y_lsw (t := 165) rfl rfl rfl (by rw [h33]; rfl) ?_
    clear h33 h32 h31 h30
    refine y_st rfl rfl rfl rfl rfl (fun _ _ => rfl) ?_
    show yP (xg xs) (d + 1) 102 167 [(0, .int l0)] [.int (13 : Int32)] m Q
    exact y_iret rfl rfl rfl H
  replace H := H.2
  by_cases h72 : l0 = (72 : Int32)
  · replace H := H.1 h72
    refine y_lsw (t := 147) rfl rfl rfl (by rw [h72]; rfl) ?_
    clear h72 h33 h32 h31 h30
    refine y_st rfl rfl rfl rfl rfl (fun _ _ => rfl) ?_
    show yP (xg xs) (d + 1) 102 149 [(0, .int l0)] [.int (7 : Int32)] m Q
    exact y_iret rfl rfl rfl H
  replace H := H.2
  by_cases h73 : l0 = (73 : Int32)
  · replace H := H.1 h73
    refine y_lsw (t := 150) rfl rfl rfl (by rw [h73]; rfl) ?_
    clear h73 h72 h33 h32 h31 h30
    refine y_st rfl rfl rfl rfl rfl (fun _ _ => rfl) ?_
    show yP (xg xs) (d + 1) 102 152 [(0, .int l0)] [.int (8 : Int32)] m Q
    exact y_iret rfl rfl rfl H
  replace H := H.2
  by_cases h74 : l0 = (74 : Int32)
  · replace H := H.1 h74
    refine y_lsw (t := 140) rfl rfl rfl (by rw [h74]; rfl) ?_
    clear h74 h73 h72 h33 h32 h31 h30
    refine y_st rfl rfl rfl rfl rfl (fun _ _ => rfl) ?_
    show yP (xg xs) (d + 1) 102 141 [(0, .int l0)] [.int (4 : Int32)] m Q
    exact y_iret rfl rfl rfl H
  replace H := H.2
  by_cases h166 : l0 = (166 : Int32)
  · replace H := H.1 h166
    refine y_lsw (t := 136) rfl rfl rfl (by rw [h166]; rfl) ?_
    clear h166 h74 h73 h72 h33 h32 h31 h30
    refine y_st rfl rfl rfl rfl rfl (fun _ _ => rfl) ?_
    show yP (xg xs) (d + 1) 102 137 [(0, .int l0)] [.int (2 : Int32)] m Q
    exact y_iret rfl rfl rfl H
  replace H := H.2
  by_cases h170 : l0 = (170 : Int32)
  · replace H := H.1 h170
    refine y_lsw (t := 159) rfl rfl rfl (by rw [h170]; rfl) ?_
    clear h170 h166 h74 h73 h72 h33 h32 h31 h30
    refine y_st rfl rfl rfl rfl rfl (fun _ _ => rfl) ?_
    show yP (xg xs) (d + 1) 102 161 [(0, .int l0)] [.int (11 : Int32)] m Q
    exact y_iret rfl rfl rfl H
  replace H := H.2
  by_cases h171 : l0 = (171 : Int32)
  · replace H := H.1 h171
    refine y_lsw (t := 153) rfl rfl rfl (by rw [h171]; rfl) ?_
    clear h171 h170 h166 h74 h73 h72 h33 h32 h31 h30
    refine y_st rfl rfl rfl rfl rfl (fun _ _ => rfl) ?_
    show yP (xg xs) (d + 1) 102 155 [(0, .int l0)] [.int (9 : Int32)] m Q
    exact y_iret rfl rfl rfl H
  replace H := H.2
  by_cases h173 : l0 = (173 : Int32)
  · replace H := H.1 h173
    refine y_lsw (t := 156) rfl rfl rfl (by rw [h173]; rfl) ?_
    clear h173 h171 h170 h166 h74 h73 h72 h33 h32 h31 h30
    refine y_st rfl rfl rfl rfl rfl (fun _ _ => rfl) ?_
    show yP (xg xs) (d + 1) 102 158 [(0, .int l0)] [.int (10 : Int32)] m Q
    exact y_iret rfl rfl rfl H
  replace H := H.2
  by_cases h175 : l0 = (175 : Int32)
  · replace H := H.1 h175
    refine y_lsw (t := 162) rfl rfl rfl (by rw [h175]; rfl) ?_
    clear h175 h173 h171 h170 h166 h74 h73 h72 h33 h32 h31 h30
    refine y_st rfl rfl rfl rfl rfl (fun _ _ => rfl) ?_
    show yP (xg xs) (d + 1) 102 164 [(0, .int l0)] [.int (12 : Int32)] m Q
    exact y_iret rfl rfl rfl H
  replace H := H.2
  by_cases h188 : l0 = (188 : Int32)
  · replace H := H.1 h188
    refine y_lsw (t := 142) rfl rfl rfl (by rw [h188]; rfl) ?_
    clear h188 h175 h173 h171 h170 h166 h74 h73 h72 h33 h32 h31 h30
    refine y_st rfl rfl rfl rfl rfl (fun _ _ => rfl) ?_
    show yP (xg xs) (d + 1) 102 143 [(0, .int l0)] [.int (5 : Int32)] m Q
    exact y_iret rfl rfl rfl H
  replace H := H.2
  by_cases h189 : l0 = (189 : Int32)
  · replace H := H.1 h189
    refine y_lsw (t := 138) rfl rfl rfl (by rw [h189]; rfl) ?_
    clear h189 h188 h175 h173 h171 h170 h166 h74 h73 h72 h33 h32 h31 h30
    refine y_st rfl rfl rfl rfl rfl (fun _ _ => rfl) ?_
    show yP (xg xs) (d + 1) 102 139 [(0, .int l0)] [.int (3 : Int32)] m Q
    exact y_iret rfl rfl rfl H
  replace H := H.2
  by_cases h190 : l0 = (190 : Int32)
  · replace H := H.1 h190
    refine y_lsw (t := 144) rfl rfl rfl (by rw [h190]; rfl) ?_
    clear h190 h189 h188 h175 h173 h171 h170 h166 h74 h73 h72 h33 h32 h31 h30
    refine y_st rfl rfl rfl rfl rfl (fun _ _ => rfl) ?_
    show yP (xg xs) (d + 1) 102 146 [(0, .int l0)] [.int (6 : Int32)] m Q
    exact y_iret rfl rfl rfl H
  replace H := H.2
  refine y_lsw (t := 168) rfl rfl rfl (by have g0 := ne_lit (30 : Int32) 30 rfl h30; have g1 := ne_lit (31 : Int32) 31 rfl h31; have g2 := ne_lit (32 : Int32) 32 rfl h32; have g3 := ne_lit (33 : Int32) 33 rfl h33; have g4 := ne_lit (72 : Int32) 72 rfl h72; have g5 := ne_lit (73 : Int32) 73 rfl h73; have g6 := ne_lit (74 : Int32) 74 rfl h74; have g7 := ne_lit (166 : Int32) 166 rfl h166; have g8 := ne_lit (170 : Int32) 170 rfl h170; have g9 := ne_lit (171 : Int32) 171 rfl h171; have g10 := ne_lit (173 : Int32) 173 rfl h173; have g11 := ne_lit (175 : Int32) 175 rfl h175; have g12 := ne_lit (188 : Int32) 188 rfl h188; have g13 := ne_lit (189 : Int32) 189 rfl h189; have g14 := ne_lit (190 : Int32) 190 rfl h190; simp [Op.lookupswitch.offset, Ne.symm g0, Ne.symm g1, Ne.symm g2, Ne.symm g3, Ne.symm g4, Ne.symm g5, Ne.symm g6, Ne.symm g7, Ne.symm g8, Ne.symm g9, Ne.symm g10, Ne.symm g11, Ne.symm g12, Ne.symm g13, Ne.symm g14]; rfl) ?_
  replace H := H h30 h31 h32 h33 h72 h73 h74 h166 h170 h171 h173 h175 h188 h189 h190
  clear h190 h189 h188 h175 h173 h171 h170 h166 h74 h73 h72 h33 h32 h31 h30
  refine y_st rfl rfl rfl rfl rfl (fun _ _ => rfl) ?_
  show yP (xg xs) (d + 1) 102 169 [(0, .int l0)] [.int ((-1) : Int32)] m Q
  exact y_iret rfl rfl rfl H
set_option maxRecDepth 20000 in
/-- CodeMaker.Tree.wrap from 0 on -/
theorem w103_0 (xs : List Int32) (d : Nat) (l1 : Int32) (l2 : Int32) (l3 : Int32) (l4 : Int32) (m : yM) (Q : Option Value → yM → Prop) (H : (yC (xg xs) d 72 [.ref 2, .int l2, .int l3, .int l4] m (fun v1 m1 => ∃ u1, v1 = some (Value.int u1) ∧ yP (xg xs) (d + 1) 103 17 [(0, .ref 2), (1, .int l1), (2, .int l2), (3, .int l3), (4, .int l4), (5, .int ((m1.1 2 5) - (1 : Int32)))] [] m1 Q))) : yP (xg xs) (d + 1) 103 0 [(0, .ref 2), (1, .int l1), (2, .int l2), (3, .int l3), (4, .int l4)] [] m Q := by
  refine y_st rfl rfl rfl rfl rfl (fun _ _ => rfl) ?_
  refine y_st rfl rfl rfl rfl rfl (fun _ _ => rfl) ?_
  refine y_st rfl rfl rfl rfl rfl (fun _ _ => rfl) ?_
  refine y_st rfl rfl rfl rfl rfl (fun _ _ => rfl) ?_
  show yP (xg xs) (d + 1) 103 5 [(0, .ref 2), (1, .int l1), (2, .int l2), (3, .int l3), (4, .int l4)] [.int l4, .int l3, .int l2, .ref 2] m Q
  refine y_call rfl rfl rfl rfl rfl (Nat.le_of_ble_eq_true rfl) (Nat.le_of_ble_eq_true rfl) rfl (by decide) H (fun v1 m1 H => ?_)
  obtain ⟨u1, rfl, H⟩ := H
  refine y_st rfl rfl rfl rfl rfl (fun _ _ => rfl) ?_
  refine y_st rfl rfl rfl rfl rfl (fun _ _ => rfl) ?_
  refine y_gf rfl rfl rfl rfl rfl ?_
  refine y_st rfl rfl rfl rfl rfl (fun _ _ => rfl) ?_
  refine y_st rfl rfl rfl rfl rfl (fun _ _ => rfl) ?_
  refine y_st rfl rfl rfl rfl rfl (fun _ _ => rfl) ?_
  show yP (xg xs) (d + 1) 103 17 [(5, .int ((m1.1 2 5) - (1 : Int32))), (0, .ref 2), (1, .int l1), (2, .int l2), (3, .int l3), (4, .int l4)] [] m1 Q
  refine y_headS (l2 := [(0, .ref 2), (1, .int l1), (2, .int l2), (3, .int l3), (4, .int l4), (5, .int ((m1.1 2 5) - (1 : Int32)))]) [1, 2, 3, 4, 5, 0] [0, 1, 2, 3, 4, 5] [5, 0, 1, 2, 3, 4] rfl rfl (by decide) rfl (by decide) ?_
  exact H
set_option maxRecDepth 20000 in
/-- CodeMaker.Tree.wrap from 17 on -/
theorem w103_17 (xs : List Int32) (d : Nat) (l1 : Int32) (l2 : Int32) (l3 : Int32) (l4 : Int32) (l5 : Int32) (m : yM) (Q : Option Value → yM → Prop) (H : ((l5 ≤ l1 → (x_in l1 16401 = true ∧ (x_in l1 16401 = true ∧ (x_in l1 16401 = true ∧ (x_in l1 16401 = true ∧ Q none (y_si (y_si (y_si (y_si m 3 l1.toNatClampNeg l2) 4 l1.toNatClampNeg l3) 5 l1.toNatClampNeg l4) 7 l1.toNatClampNeg (m.1 2 5))))))) ∧ (¬ l5 ≤ l1 → (x_in (l5 - (1 : Int32)) 16401 = true ∧ (x_in l5 16401 = true ∧ (x_in (l5 - (1 : Int32)) 16401 = true ∧ (x_in l5 16401 = true ∧ (x_in (l5 - (1 : Int32)) 16401 = true ∧ (x_in l5 16401 = true ∧ (x_in (l5 - (1 : Int32)) 16401 = true ∧ (x_in l5 16401 = true ∧ yP (xg xs) (d + 1) 103 17 [(0, .ref 2), (1, .int l1), (2, .int l2), (3, .int l3), (4, .int l4), (5, .int (l5 + ((-1) : Int32)))] [] (y_si (y_si (y_si (y_si m 3 l5.toNatClampNeg (m.1 3 ((l5 - (1 : Int32)).toNatClampNeg))) 4 l5.toNatClampNeg (m.1 4 ((l5 - (1 : Int32)).toNatClampNeg))) 5 l5.toNatClampNeg (m.1 5 ((l5 - (1 : Int32)).toNatClampNeg))) 7 l5.toNatClampNeg ((m.1 7 ((l5 - (1 : Int32)).toNatClampNeg)) + (1 : Int32))) Q))))))))))) : yP (xg xs) (d + 1) 103 17 [(0, .ref 2), (1, .int l1), (2, .int l2), (3, .int l3), (4, .int l4), (5, .int l5)] [] m Q := by
  refine y_st rfl rfl rfl rfl rfl (fun _ _ => rfl) ?_
  refine y_st rfl rfl rfl rfl rfl (fun _ _ => rfl) ?_
  show yP (xg xs) (d + 1) 103 20 [(0, .ref 2), (1, .int l1), (2, .int l2), (3, .int l3), (4, .int l4), (5, .int l5)] [.int l1, .int l5] m Q
  refine y_ile (t := 95) rfl rfl rfl (fun h => ?_) (fun h => ?_)
  · replace H := H.1 h; clear h
    refine y_st rfl rfl rfl rfl rfl (fun _ _ => rfl) ?_
    refine y_gf rfl rfl rfl rfl rfl ?_
    refine y_st rfl rfl rfl rfl rfl (fun _ _ => rfl) ?_
    refine y_st rfl rfl rfl rfl rfl (fun _ _ => rfl) ?_
    show yP (xg xs) (d + 1) 103 101 [(0, .ref 2), (1, .int l1), (2, .int l2), (3, .int l3), (4, .int l4), (5, .int l5)] [.int l2, .int l1, .ref 3] m Q
    refine y_iast rfl rfl rfl (H.1) ?_
    replace H := H.2
    refine y_st rfl rfl rfl rfl rfl (fun _ _ => rfl) ?_
    refine y_gf rfl rfl rfl rfl rfl ?_
    refine y_st rfl rfl rfl rfl rfl (fun _ _ => rfl) ?_
    refine y_st rfl rfl rfl rfl rfl (fun _ _ => rfl) ?_
    show yP (xg xs) (d + 1) 103 108 [(0, .ref 2), (1, .int l1), (2, .int l2), (3, .int l3), (4, .int l4), (5, .int l5)] [.int l3, .int l1, .ref 4] (y_si m 3 l1.toNatClampNeg l2) Q
    refine y_iast rfl rfl rfl (H.1) ?_
    replace H := H.2
    refine y_st rfl rfl rfl rfl rfl (fun _ _ => rfl) ?_
    refine y_gf rfl rfl rfl rfl rfl ?_
    refine y_st rfl rfl rfl rfl rfl (fun _ _ => rfl) ?_
    refine y_st rfl rfl rfl rfl rfl (fun _ _ => rfl) ?_
    show yP (xg xs) (d + 1) 103 116 [(0, .ref 2), (1, .int l1), (2, .int l2), (3, .int l3), (4, .int l4), (5, .int l5)] [.int l4, .int l1, .ref 5] (y_si (y_si m 3 l1.toNatClampNeg l2) 4 l1.toNatClampNeg l3) Q
    refine y_iast rfl rfl rfl (H.1) ?_
    replace H := H.2
    refine y_st rfl rfl rfl rfl rfl (fun _ _ => rfl) ?_
    refine y_gf rfl rfl rfl rfl rfl ?_
    refine y_st rfl rfl rfl rfl rfl (fun _ _ => rfl) ?_
    refine y_st rfl rfl rfl rfl rfl (fun _ _ => rfl) ?_
    refine y_gf rfl rfl rfl rfl rfl ?_
    show yP (xg xs) (d + 1) 103 126 [(0, .ref 2), (1, .int l1), (2, .int l2), (3, .int l3), (4, .int l4), (5, .int l5)] [.int (m.1 2 5), .int l1, .ref 7] (y_si (y_si (y_si m 3 l1.toNatClampNeg l2) 4 l1.toNatClampNeg l3) 5 l1.toNatClampNeg l4) Q
    refine y_iast rfl rfl rfl (H.1) ?_
    replace H := H.2
    show yP (xg xs) (d + 1) 103 127 [(0, .ref 2), (1, .int l1), (2, .int l2), (3, .int l3), (4, .int l4), (5, .int l5)] [] (y_si (y_si (y_si (y_si m 3 l1.toNatClampNeg l2) 4 l1.toNatClampNeg l3) 5 l1.toNatClampNeg l4) 7 l1.toNatClampNeg (m.1 2 5)) Q
    exact y_ret rfl rfl rfl rfl H
  · replace H := H.2 h; clear h
    refine y_st rfl rfl rfl rfl rfl (fun _ _ => rfl) ?_
    refine y_gf rfl rfl rfl rfl rfl ?_
    refine y_st rfl rfl rfl rfl rfl (fun _ _ => rfl) ?_
    refine y_st rfl rfl rfl rfl rfl (fun _ _ => rfl) ?_
    refine y_gf rfl rfl rfl rfl rfl ?_
    refine y_st rfl rfl rfl rfl rfl (fun _ _ => rfl) ?_
    refine y_st rfl rfl rfl rfl rfl (fun _ _ => rfl) ?_
    refine y_st rfl rfl rfl rfl rfl (fun _ _ => rfl) ?_
    show yP (xg xs) (d + 1) 103 37 [(0, .ref 2), (1, .int l1), (2, .int l2), (3, .int l3), (4, .int l4), (5, .int l5)] [.int (l5 - (1 : Int32)), .ref 3, .int l5, .ref 3] m Q
    refine y_iald rfl rfl rfl (H.1) ?_
    replace H := H.2
    show yP (xg xs) (d + 1) 103 38 [(0, .ref 2), (1, .int l1), (2, .int l2), (3, .int l3), (4, .int l4), (5, .int l5)] [.int (m.1 3 ((l5 - (1 : Int32)).toNatClampNeg)), .int l5, .ref 3] m Q
    refine y_iast rfl rfl rfl (H.1) ?_
    replace H := H.2
    refine y_st rfl rfl rfl rfl rfl (fun _ _ => rfl) ?_
    refine y_gf rfl rfl rfl rfl rfl ?_
    refine y_st rfl rfl rfl rfl rfl (fun _ _ => rfl) ?_
    refine y_st rfl rfl rfl rfl rfl (fun _ _ => rfl) ?_
    refine y_gf rfl rfl rfl rfl rfl ?_
    refine y_st rfl rfl rfl rfl rfl (fun _ _ => rfl) ?_
    refine y_st rfl rfl rfl rfl rfl (fun _ _ => rfl) ?_
    refine y_st rfl rfl rfl rfl rfl (fun _ _ => rfl) ?_
    show yP (xg xs) (d + 1) 103 53 [(0, .ref 2), (1, .int l1), (2, .int l2), (3, .int l3), (4, .int l4), (5, .int l5)] [.int (l5 - (1 : Int32)), .ref 4, .int l5, .ref 4] (y_si m 3 l5.toNatClampNeg (m.1 3 ((l5 - (1 : Int32)).toNatClampNeg))) Q
    refine y_iald rfl rfl rfl (H.1) ?_
    replace H := H.2
    show yP (xg xs) (d + 1) 103 54 [(0, .ref 2), (1, .int l1), (2, .int l2), (3, .int l3), (4, .int l4), (5, .int l5)] [.int (m.1 4 ((l5 - (1 : Int32)).toNatClampNeg)), .int l5, .ref 4] (y_si m 3 l5.toNatClampNeg (m.1 3 ((l5 - (1 : Int32)).toNatClampNeg))) Q
    refine y_iast rfl rfl rfl (H.1) ?_
    replace H := H.2
    refine y_st rfl rfl rfl rfl rfl (fun _ _ => rfl) ?_
    refine y_gf rfl rfl rfl rfl rfl ?_
    refine y_st rfl rfl rfl rfl rfl (fun _ _ => rfl) ?_
    refine y_st rfl rfl rfl rfl rfl (fun _ _ => rfl) ?_
    refine y_gf rfl rfl rfl rfl rfl ?_
    refine y_st rfl rfl rfl rfl rfl (fun _ _ => rfl) ?_
    refine y_st rfl rfl rfl rfl rfl (fun _ _ => rfl) ?_
    refine y_st rfl rfl rfl rfl rfl (fun _ _ => rfl) ?_
    show yP (xg xs) (d + 1) 103 69 [(0, .ref 2), (1, .int l1), (2, .int l2), (3, .int l3), (4, .int l4), (5, .int l5)] [.int (l5 - (1 : Int32)), .ref 5, .int l5, .ref 5] (y_si (y_si m 3 l5.toNatClampNeg (m.1 3 ((l5 - (1 : Int32)).toNatClampNeg))) 4 l5.toNatClampNeg (m.1 4 ((l5 - (1 : Int32)).toNatClampNeg))) Q
    refine y_iald rfl rfl rfl (H.1) ?_
    replace H := H.2
    show yP (xg xs) (d + 1) 103 70 [(0, .ref 2), (1, .int l1), (2, .int l2), (3, .int l3), (4, .int l4), (5, .int l5)] [.int (m.1 5 ((l5 - (1 : Int32)).toNatClampNeg)), .int l5, .ref 5] (y_si (y_si m 3 l5.toNatClampNeg (m.1 3 ((l5 - (1 : Int32)).toNatClampNeg))) 4 l5.toNatClampNeg (m.1 4 ((l5 - (1 : Int32)).toNatClampNeg))) Q
    refine y_iast rfl rfl rfl (H.1) ?_
    replace H := H.2
    refine y_st rfl rfl rfl rfl rfl (fun _ _ => rfl) ?_
    refine y_gf rfl rfl rfl rfl rfl ?_
    refine y_st rfl rfl rfl rfl rfl (fun _ _ => rfl) ?_
    refine y_st rfl rfl rfl rfl rfl (fun _ _ => rfl) ?_
    refine y_gf rfl rfl rfl rfl rfl ?_
    refine y_st rfl rfl rfl rfl rfl (fun _ _ => rfl) ?_
    refine y_st rfl rfl rfl rfl rfl (fun _ _ => rfl) ?_
    refine y_st rfl rfl rfl rfl rfl (fun _ _ => rfl) ?_
    show yP (xg xs) (d + 1) 103 85 [(0, .ref 2), (1, .int l1), (2, .int l2), (3, .int l3), (4, .int l4), (5, .int l5)] [.int (l5 - (1 : Int32)), .ref 7, .int l5, .ref 7] (y_si (y_si (y_si m 3 l5.toNatClampNeg (m.1 3 ((l5 - (1 : Int32)).toNatClampNeg))) 4 l5.toNatClampNeg (m.1 4 ((l5 - (1 : Int32)).toNatClampNeg))) 5 l5.toNatClampNeg (m.1 5 ((l5 - (1 : Int32)).toNatClampNeg))) Q
    refine y_iald rfl rfl rfl (H.1) ?_
    replace H := H.2
    refine y_st rfl rfl rfl rfl rfl (fun _ _ => rfl) ?_
    refine y_st rfl rfl rfl rfl rfl (fun _ _ => rfl) ?_
    show yP (xg xs) (d + 1) 103 88 [(0, .ref 2), (1, .int l1), (2, .int l2), (3, .int l3), (4, .int l4), (5, .int l5)] [.int ((m.1 7 ((l5 - (1 : Int32)).toNatClampNeg)) + (1 : Int32)), .int l5, .ref 7] (y_si (y_si (y_si m 3 l5.toNatClampNeg (m.1 3 ((l5 - (1 : Int32)).toNatClampNeg))) 4 l5.toNatClampNeg (m.1 4 ((l5 - (1 : Int32)).toNatClampNeg))) 5 l5.toNatClampNeg (m.1 5 ((l5 - (1 : Int32)).toNatClampNeg))) Q
    refine y_iast rfl rfl rfl (H.1) ?_
    replace H := H.2
    refine y_st rfl rfl rfl rfl rfl (fun _ _ => rfl) ?_
    refine y_st rfl rfl rfl rfl rfl (fun _ _ => rfl) ?_
    show yP (xg xs) (d + 1) 103 17 [(5, .int (l5 + ((-1) : Int32))), (0, .ref 2), (1, .int l1), (2, .int l2), (3, .int l3), (4, .int l4)] [] (y_si (y_si (y_si (y_si m 3 l5.toNatClampNeg (m.1 3 ((l5 - (1 : Int32)).toNatClampNeg))) 4 l5.toNatClampNeg (m.1 4 ((l5 - (1 : Int32)).toNatClampNeg))) 5 l5.toNatClampNeg (m.1 5 ((l5 - (1 : Int32)).toNatClampNeg))) 7 l5.toNatClampNeg ((m.1 7 ((l5 - (1 : Int32)).toNatClampNeg)) + (1 : Int32))) Q
    refine y_headS (l2 := [(0, .ref 2), (1, .int l1), (2, .int l2), (3, .int l3), (4, .int l4), (5, .int (l5 + ((-1) : Int32)))]) [1, 2, 3, 4, 5, 0] [0, 1, 2, 3, 4, 5] [5, 0, 1, 2, 3, 4] rfl rfl (by decide) rfl (by decide) ?_
    exact H
set_option maxRecDepth 20000 in
/-- CodeMaker.Reader.caseStatement from 0 on -/
theorem w104_0 (xs : List Int32) (d : Nat) (m : yM) (Q : Option Value → yM → Prop) (H : (yC (xg xs) d 75 [.ref 17, .int (16 : Int32), .int (0 : Int32)] m (fun v1 m1 => ∃ u1, v1 = some (Value.int u1) ∧ (yC (xg xs) d 97 [.ref 17] m1 (fun v2 m2 => v2 = none ∧ (yC (xg xs) d 98 [.ref 17, .int (0 : Int32), .int (1 : Int32)] m2 (fun v3 m3 => v3 = none ∧ (yC (xg xs) d 77 [.ref 17, .int (15 : Int32)] m3 (fun v4 m4 => v4 = none ∧ yP (xg xs) (d + 1) 104 26 [(0, .ref 17), (1, .int u1), (2, .int (0 : Int32))] [] m4 Q))))))))) : yP (xg xs) (d + 1) 104 0 [(0, .ref 17)] [] m Q := by
  refine y_st rfl rfl rfl rfl rfl (fun _ _ => rfl) ?_
  refine y_st rfl rfl rfl rfl rfl (fun _ _ => rfl) ?_
  refine y_st rfl rfl rfl rfl rfl (fun _ _ => rfl) ?_
  show yP (xg xs) (d + 1) 104 4 [(0, .ref 17)] [.int (0 : Int32), .int (16 : Int32), .ref 17] m Q
  refine y_call rfl rfl rfl rfl rfl (Nat.le_of_ble_eq_true rfl) (Nat.le_of_ble_eq_true rfl) rfl (by decide) H (fun v1 m1 H => ?_)
  obtain ⟨u1, rfl, H⟩ := H
  refine y_st rfl rfl rfl rfl rfl (fun _ _ => rfl) ?_
  refine y_st rfl rfl rfl rfl rfl (fun _ _ => rfl) ?_
  show yP (xg xs) (d + 1) 104 9 [(1, .int u1), (0, .ref 17)] [.ref 17] m1 Q
  refine y_call rfl rfl rfl rfl rfl (Nat.le_of_ble_eq_true rfl) (Nat.le_of_ble_eq_true rfl) rfl (by decide) H (fun v2 m2 H => ?_)
  obtain ⟨rfl, H⟩ := H
  refine y_st rfl rfl rfl rfl rfl (fun _ _ => rfl) ?_
  refine y_st rfl rfl rfl rfl rfl (fun _ _ => rfl) ?_
  refine y_st rfl rfl rfl rfl rfl (fun _ _ => rfl) ?_
  show yP (xg xs) (d + 1) 104 15 [(1, .int u1), (0, .ref 17)] [.int (1 : Int32), .int (0 : Int32), .ref 17] m2 Q
  refine y_call rfl rfl rfl rfl rfl (Nat.le_of_ble_eq_true rfl) (Nat.le_of_ble_eq_true rfl) rfl (by decide) H (fun v3 m3 H => ?_)
  obtain ⟨rfl, H⟩ := H
  refine y_st rfl rfl rfl rfl rfl (fun _ _ => rfl) ?_
  refine y_st rfl rfl rfl rfl rfl (fun _ _ => rfl) ?_
  show yP (xg xs) (d + 1) 104 21 [(1, .int u1), (0, .ref 17)] [.int (15 : Int32), .ref 17] m3 Q
  refine y_call rfl rfl rfl rfl rfl (Nat.le_of_ble_eq_true rfl) (Nat.le_of_ble_eq_true rfl) rfl (by decide) H (fun v4 m4 H => ?_)
  obtain ⟨rfl, H⟩ := H
  refine y_st rfl rfl rfl rfl rfl (fun _ _ => rfl) ?_
  refine y_st rfl rfl rfl rfl rfl (fun _ _ => rfl) ?_
  show yP (xg xs) (d + 1) 104 26 [(2, .int (0 : Int32)), (1, .int u1), (0, .ref 17)] [] m4 Q
  refine y_headS (l2 := [(0, .ref 17), (1, .int u1), (2, .int (0 : Int32))]) [2, 1, 0] [0, 1, 2] [2, 1, 0] rfl rfl (by decide) rfl (by decide) ?_
  exact H
set_option maxRecDepth 20000 in
/-- CodeMaker.Reader.caseStatement from 26 on -/
theorem w104_26 (xs : List Int32) (d : Nat) (l1 : Int32) (l2 : Int32) (m : yM) (Q : Option Value → yM → Prop) (H : (((8192 : Int32) ≤ l2 → yP (xg xs) (d + 1) 104 77 [(0, .ref 17), (1, .int l1)] [] m Q) ∧ (¬ (8192 : Int32) ≤ l2 → (yC (xg xs) d 105 [.ref 17] m (fun v1 m1 => ∃ u1, v1 = some (Value.int u1) ∧ ((u1 = 0 → yP (xg xs) (d + 1) 104 77 [(0, .ref 17), (1, .int l1)] [] m1 Q) ∧ (¬ u1 = 0 → (yC (xg xs) d 75 [.ref 17, .int (17 : Int32), .int (0 : Int32)] m1 (fun v2 m2 => ∃ u2, v2 = some (Value.int u2) ∧ (yC (xg xs) d 106 [.ref 17] m2 (fun v3 m3 => v3 = none ∧ (yC (xg xs) d 77 [.ref 17, .int (186 : Int32)] m3 (fun v4 m4 => v4 = none ∧ (yC (xg xs) d 93 [.ref 17] m4 (fun v5 m5 => v5 = none ∧ (yC (xg xs) d 85 [.ref 2, .int u2] m5 (fun v6 m6 => v6 = none ∧ yP (xg xs) (d + 1) 104 26 [(0, .ref 17), (1, .int l1), (2, .int (l2 + (1 : Int32)))] [] m6 Q))))))))))))))))) : yP (xg xs) (d + 1) 104 26 [(0, .ref 17), (1, .int l1), (2, .int l2)] [] m Q := by
  refine y_st rfl rfl rfl rfl rfl (fun _ _ => rfl) ?_
  refine y_st rfl rfl rfl rfl rfl (fun _ _ => rfl) ?_
  show yP (xg xs) (d + 1) 104 30 [(0, .ref 17), (1, .int l1), (2, .int l2)] [.int (8192 : Int32), .int l2] m Q
  refine y_ige (t := 77) rfl rfl rfl (fun h => ?_) (fun h => ?_)
  · replace H := H.1 h; clear h
    show yP (xg xs) (d + 1) 104 77 [(0, .ref 17), (1, .int l1), (2, .int l2)] [] m Q
    refine y_headS (l2 := [(0, .ref 17), (1, .int l1)]) [0, 1] [0, 1] [0, 1, 2] rfl rfl (by decide) rfl (by decide) ?_
    exact H
  · replace H := H.2 h; clear h
    refine y_st rfl rfl rfl rfl rfl (fun _ _ => rfl) ?_
    show yP (xg xs) (d + 1) 104 34 [(0, .ref 17), (1, .int l1), (2, .int l2)] [.ref 17] m Q
    refine y_call rfl rfl rfl rfl rfl (Nat.le_of_ble_eq_true rfl) (Nat.le_of_ble_eq_true rfl) rfl (by decide) H (fun v1 m1 H => ?_)
    obtain ⟨u1, rfl, H⟩ := H
    show yP (xg xs) (d + 1) 104 37 [(0, .ref 17), (1, .int l1), (2, .int l2)] [.int u1] m1 Q
    refine y_zeq (t := 77) rfl rfl rfl (fun h => ?_) (fun h => ?_)
    · replace H := H.1 h; clear h
      show yP (xg xs) (d + 1) 104 77 [(0, .ref 17), (1, .int l1), (2, .int l2)] [] m1 Q
      refine y_headS (l2 := [(0, .ref 17), (1, .int l1)]) [0, 1] [0, 1] [0, 1, 2] rfl rfl (by decide) rfl (by decide) ?_
      exact H
    · replace H := H.2 h; clear h
      refine y_st rfl rfl rfl rfl rfl (fun _ _ => rfl) ?_
      refine y_st rfl rfl rfl rfl rfl (fun _ _ => rfl) ?_
      refine y_st rfl rfl rfl rfl rfl (fun _ _ => rfl) ?_
      show yP (xg xs) (d + 1) 104 44 [(0, .ref 17), (1, .int l1), (2, .int l2)] [.int (0 : Int32), .int (17 : Int32), .ref 17] m1 Q
      refine y_call rfl rfl rfl rfl rfl (Nat.le_of_ble_eq_true rfl) (Nat.le_of_ble_eq_true rfl) rfl (by decide) H (fun v2 m2 H => ?_)
      obtain ⟨u2, rfl, H⟩ := H
      refine y_st rfl rfl rfl rfl rfl (fun _ _ => rfl) ?_
      refine y_st rfl rfl rfl rfl rfl (fun _ _ => rfl) ?_
      show yP (xg xs) (d + 1) 104 49 [(3, .int u2), (0, .ref 17), (1, .int l1), (2, .int l2)] [.ref 17] m2 Q
      refine y_call rfl rfl rfl rfl rfl (Nat.le_of_ble_eq_true rfl) (Nat.le_of_ble_eq_true rfl) rfl (by decide) H (fun v3 m3 H => ?_)
      obtain ⟨rfl, H⟩ := H
      refine y_st rfl rfl rfl rfl rfl (fun _ _ => rfl) ?_
      refine y_st rfl rfl rfl rfl rfl (fun _ _ => rfl) ?_
      show yP (xg xs) (d + 1) 104 56 [(3, .int u2), (0, .ref 17), (1, .int l1), (2, .int l2)] [.int (186 : Int32), .ref 17] m3 Q
      refine y_call rfl rfl rfl rfl rfl (Nat.le_of_ble_eq_true rfl) (Nat.le_of_ble_eq_true rfl) rfl (by decide) H (fun v4 m4 H => ?_)
      obtain ⟨rfl, H⟩ := H
      refine y_st rfl rfl rfl rfl rfl (fun _ _ => rfl) ?_
      show yP (xg xs) (d + 1) 104 60 [(3, .int u2), (0, .ref 17), (1, .int l1), (2, .int l2)] [.ref 17] m4 Q
      refine y_call rfl rfl rfl rfl rfl (Nat.le_of_ble_eq_true rfl) (Nat.le_of_ble_eq_true rfl) rfl (by decide) H (fun v5 m5 H => ?_)
      obtain ⟨rfl, H⟩ := H
      refine y_st rfl rfl rfl rfl rfl (fun _ _ => rfl) ?_
      refine y_gf rfl rfl rfl rfl rfl ?_
      refine y_st rfl rfl rfl rfl rfl (fun _ _ => rfl) ?_
      show yP (xg xs) (d + 1) 104 68 [(3, .int u2), (0, .ref 17), (1, .int l1), (2, .int l2)] [.int u2, .ref 2] m5 Q
      refine y_call rfl rfl rfl rfl rfl (Nat.le_of_ble_eq_true rfl) (Nat.le_of_ble_eq_true rfl) rfl (by decide) H (fun v6 m6 H => ?_)
      obtain ⟨rfl, H⟩ := H
      refine y_st rfl rfl rfl rfl rfl (fun _ _ => rfl) ?_
      refine y_st rfl rfl rfl rfl rfl (fun _ _ => rfl) ?_
      show yP (xg xs) (d + 1) 104 26 [(2, .int (l2 + (1 : Int32))), (3, .int u2), (0, .ref 17), (1, .int l1)] [] m6 Q
      refine y_headS (l2 := [(0, .ref 17), (1, .int l1), (2, .int (l2 + (1 : Int32)))]) [2, 3, 0] [0, 1, 2] [2, 3, 0, 1] rfl rfl (by decide) rfl (by decide) ?_
      exact H
set_option maxRecDepth 20000 in
/-- CodeMaker.Reader.caseStatement from 77 on -/
theorem w104_77 (xs : List Int32) (d : Nat) (l1 : Int32) (m : yM) (Q : Option Value → yM → Prop) (H : ((¬ (m.1 17 5) = (19 : Int32) → yP (xg xs) (d + 1) 104 94 [(0, .ref 17), (1, .int l1)] [] m Q) ∧ ((m.1 17 5) = (19 : Int32) → (yC (xg xs) d 76 [.ref 17] m (fun v1 m1 => v1 = none ∧ (yC (xg xs) d 93 [.ref 17] m1 (fun v2 m2 => v2 = none ∧ yP (xg xs) (d + 1) 104 94 [(0, .ref 17), (1, .int l1)] [] m2 Q))))))) : yP (xg xs) (d + 1) 104 77 [(0, .ref 17), (1, .int l1)] [] m Q := by
  refine y_st rfl rfl rfl rfl rfl (fun _ _ => rfl) ?_
  refine y_gf rfl rfl rfl rfl rfl ?_
  refine y_st rfl rfl rfl rfl rfl (fun _ _ => rfl) ?_
  show yP (xg xs) (d + 1) 104 83 [(0, .ref 17), (1, .int l1)] [.int (19 : Int32), .int (m.1 17 5)] m Q
  refine y_ine (t := 94) rfl rfl rfl (fun h => ?_) (fun h => ?_)
  · replace H := H.1 h; clear h
    show yP (xg xs) (d + 1) 104 94 [(0, .ref 17), (1, .int l1)] [] m Q
    exact H
  · replace H := H.2 h; clear h
    refine y_st rfl rfl rfl rfl rfl (fun _ _ => rfl) ?_
    show yP (xg xs) (d + 1) 104 87 [(0, .ref 17), (1, .int l1)] [.ref 17] m Q
    refine y_call rfl rfl rfl rfl rfl (Nat.le_of_ble_eq_true rfl) (Nat.le_of_ble_eq_true rfl) rfl (by decide) H (fun v1 m1 H => ?_)
    obtain ⟨rfl, H⟩ := H
    refine y_st rfl rfl rfl rfl rfl (fun _ _ => rfl) ?_
    show yP (xg xs) (d + 1) 104 91 [(0, .ref 17), (1, .int l1)] [.ref 17] m1 Q
    refine y_call rfl rfl rfl rfl rfl (Nat.le_of_ble_eq_true rfl) (Nat.le_of_ble_eq_true rfl) rfl (by decide) H (fun v2 m2 H => ?_)
    obtain ⟨rfl, H⟩ := H
    show yP (xg xs) (d + 1) 104 94 [(0, .ref 17), (1, .int l1)] [] m2 Q
    exact H
set_option maxRecDepth 20000 in
/-- CodeMaker.Reader.caseStatement from 94 on -/
theorem w104_94 (xs : List Int32) (d : Nat) (l1 : Int32) (m : yM) (Q : Option Value → yM → Prop) (H : (yC (xg xs) d 77 [.ref 17, .int (22 : Int32)] m (fun v1 m1 => v1 = none ∧ (yC (xg xs) d 85 [.ref 2, .int l1] (y_si m1 17 6 ((m1.1 17 6) - (1 : Int32))) (fun v2 m2 => v2 = none ∧ Q none m2))))) : yP (xg xs) (d + 1) 104 94 [(0, .ref 17), (1, .int l1)] [] m Q := by
  refine y_st rfl rfl rfl rfl rfl (fun _ _ => rfl) ?_
  refine y_st rfl rfl rfl rfl rfl (fun _ _ => rfl) ?_
  show yP (xg xs) (d + 1) 104 97 [(0, .ref 17), (1, .int l1)] [.int (22 : Int32), .ref 17] m Q
  refine y_call rfl rfl rfl rfl rfl (Nat.le_of_ble_eq_true rfl) (Nat.le_of_ble_eq_true rfl) rfl (by decide) H (fun v1 m1 H => ?_)
  obtain ⟨rfl, H⟩ := H
  refine y_st rfl rfl rfl rfl rfl (fun _ _ => rfl) ?_
  refine y_st rfl rfl rfl rfl rfl (fun _ _ => rfl) ?_
  refine y_gf rfl rfl rfl rfl rfl ?_
  refine y_st rfl rfl rfl rfl rfl (fun _ _ => rfl) ?_
  refine y_st rfl rfl rfl rfl rfl (fun _ _ => rfl) ?_
  refine y_pfi rfl rfl rfl rfl rfl (x_fit_i _) ?_
  show yP (xg xs) (d + 1) 104 110 [(0, .ref 17), (1, .int l1)] [] (y_si m1 17 6 ((m1.1 17 6) - (1 : Int32))) Q
  refine y_st rfl rfl rfl rfl rfl (fun _ _ => rfl) ?_
  refine y_gf rfl rfl rfl rfl rfl ?_
  refine y_st rfl rfl rfl rfl rfl (fun _ _ => rfl) ?_
  show yP (xg xs) (d + 1) 104 115 [(0, .ref 17), (1, .int l1)] [.int l1, .ref 2] (y_si m1 17 6 ((m1.1 17 6) - (1 : Int32))) Q
  refine y_call rfl rfl rfl rfl rfl (Nat.le_of_ble_eq_true rfl) (Nat.le_of_ble_eq_true rfl) rfl (by decide) H (fun v2 m2 H => ?_)
  obtain ⟨rfl, H⟩ := H
  show yP (xg xs) (d + 1) 104 118 [(0, .ref 17), (1, .int l1)] [] m2 Q
  exact y_ret rfl rfl rfl rfl H
set_option maxRecDepth 20000 in
/-- CodeMaker.Reader.startsConstant from 0 on -/
theorem w105_0 (xs : List Int32) (d : Nat) (m : yM) (Q : Option Value → yM → Prop) (H : (((m.1 17 5) = (173 : Int32) → Q (some (.int (1 : Int32))) m) ∧ (¬ (m.1 17 5) = (173 : Int32) → (((m.1 17 5) = (65 : Int32) → Q (some (.int (1 : Int32))) m) ∧ (¬ (m.1 17 5) = (65 : Int32) → (((m.1 17 5) = (35 : Int32) → Q (some (.int (1 : Int32))) m) ∧ (¬ (m.1 17 5) = (35 : Int32) → ((¬ (m.1 17 5) = (36 : Int32) → Q (some (.int (0 : Int32))) m) ∧ ((m.1 17 5) = (36 : Int32) → Q (some (.int (1 : Int32))) m))))))))) : yP (xg xs) (d + 1) 105 0 [(0, .ref 17)] [] m Q := by
  refine y_st rfl rfl rfl rfl rfl (fun _ _ => rfl) ?_
  refine y_gf rfl rfl rfl rfl rfl ?_
  refine y_st rfl rfl rfl rfl rfl (fun _ _ => rfl) ?_
  show yP (xg xs) (d + 1) 105 7 [(0, .ref 17)] [.int (173 : Int32), .int (m.1 17 5)] m Q
  refine y_ieq (t := 37) rfl rfl rfl (fun h => ?_) (fun h => ?_)
  · replace H := H.1 h; clear h
    refine y_st rfl rfl rfl rfl rfl (fun _ _ => rfl) ?_
    refine y_st rfl rfl rfl rfl rfl (fun _ _ => rfl) ?_
    show yP (xg xs) (d + 1) 105 42 [(0, .ref 17)] [.int (1 : Int32)] m Q
    exact y_zret rfl rfl rfl (by decide) H
  · replace H := H.2 h; clear h
    refine y_st rfl rfl rfl rfl rfl (fun _ _ => rfl) ?_
    refine y_gf rfl rfl rfl rfl rfl ?_
    refine y_st rfl rfl rfl rfl rfl (fun _ _ => rfl) ?_
    show yP (xg xs) (d + 1) 105 16 [(0, .ref 17)] [.int (65 : Int32), .int (m.1 17 5)] m Q
    refine y_ieq (t := 37) rfl rfl rfl (fun h => ?_) (fun h => ?_)
    · replace H := H.1 h; clear h
      refine y_st rfl rfl rfl rfl rfl (fun _ _ => rfl) ?_
      refine y_st rfl rfl rfl rfl rfl (fun _ _ => rfl) ?_
      show yP (xg xs) (d + 1) 105 42 [(0, .ref 17)] [.int (1 : Int32)] m Q
      exact y_zret rfl rfl rfl (by decide) H
    · replace H := H.2 h; clear h
      refine y_st rfl rfl rfl rfl rfl (fun _ _ => rfl) ?_
      refine y_gf rfl rfl rfl rfl rfl ?_
      refine y_st rfl rfl rfl rfl rfl (fun _ _ => rfl) ?_
      show yP (xg xs) (d + 1) 105 25 [(0, .ref 17)] [.int (35 : Int32), .int (m.1 17 5)] m Q
      refine y_ieq (t := 37) rfl rfl rfl (fun h => ?_) (fun h => ?_)
      · replace H := H.1 h; clear h
        refine y_st rfl rfl rfl rfl rfl (fun _ _ => rfl) ?_
        refine y_st rfl rfl rfl rfl rfl (fun _ _ => rfl) ?_
        show yP (xg xs) (d + 1) 105 42 [(0, .ref 17)] [.int (1 : Int32)] m Q
        exact y_zret rfl rfl rfl (by decide) H
      · replace H := H.2 h; clear h
        refine y_st rfl rfl rfl rfl rfl (fun _ _ => rfl) ?_
        refine y_gf rfl rfl rfl rfl rfl ?_
        refine y_st rfl rfl rfl rfl rfl (fun _ _ => rfl) ?_
        show yP (xg xs) (d + 1) 105 34 [(0, .ref 17)] [.int (36 : Int32), .int (m.1 17 5)] m Q
        refine y_ine (t := 41) rfl rfl rfl (fun h => ?_) (fun h => ?_)
        · replace H := H.1 h; clear h
          refine y_st rfl rfl rfl rfl rfl (fun _ _ => rfl) ?_
          show yP (xg xs) (d + 1) 105 42 [(0, .ref 17)] [.int (0 : Int32)] m Q
          exact y_zret rfl rfl rfl (by decide) H
        · replace H := H.2 h; clear h
          refine y_st rfl rfl rfl rfl rfl (fun _ _ => rfl) ?_
          refine y_st rfl rfl rfl rfl rfl (fun _ _ => rfl) ?_
          show yP (xg xs) (d + 1) 105 42 [(0, .ref 17)] [.int (1 : Int32)] m Q
          exact y_zret rfl rfl rfl (by decide) H
set_option maxRecDepth 20000 in
/-- CodeMaker.Reader.ranges from 0 on -/
theorem w106_0 (xs : List Int32) (d : Nat) (m : yM) (Q : Option Value → yM → Prop) (H : yP (xg xs) (d + 1) 106 4 [(0, .ref 17), (1, .int (1 : Int32)), (2, .int (0 : Int32))] [] m Q) : yP (xg xs) (d + 1) 106 0 [(0, .ref 17)] [] m Q := by
  refine y_st rfl rfl rfl rfl rfl (fun _ _ => rfl) ?_
  refine y_st rfl rfl rfl rfl rfl (fun _ _ => rfl) ?_
  refine y_st rfl rfl rfl rfl rfl (fun _ _ => rfl) ?_
  refine y_st rfl rfl rfl rfl rfl (fun _ _ => rfl) ?_
  show yP (xg xs) (d + 1) 106 4 [(2, .int (0 : Int32)), (1, .int (1 : Int32)), (0, .ref 17)] [] m Q
  refine y_headS (l2 := [(0, .ref 17), (1, .int (1 : Int32)), (2, .int (0 : Int32))]) [2, 1, 0] [0, 1, 2] [2, 1, 0] rfl rfl (by decide) rfl (by decide) ?_
  exact H
set_option maxRecDepth 20000 in
/-- CodeMaker.Reader.ranges from 4 on -/
theorem w106_4 (xs : List Int32) (d : Nat) (l1 : Int32) (l2 : Int32) (m : yM) (Q : Option Value → yM → Prop) (H : (((8192 : Int32) ≤ l2 → Q none m) ∧ (¬ (8192 : Int32) ≤ l2 → ((l1 = 0 → Q none m) ∧ (¬ l1 = 0 → (yC (xg xs) d 75 [.ref 17, .int (18 : Int32), .int (0 : Int32)] m (fun v1 m1 => ∃ u1, v1 = some (Value.int u1) ∧ (yC (xg xs) d 84 [.ref 17] m1 (fun v2 m2 => v2 = none ∧ ((¬ (m2.1 17 5) = (71 : Int32) → yP (xg xs) (d + 1) 106 44 [(0, .ref 17), (2, .int l2), (3, .int u1)] [] m2 Q) ∧ ((m2.1 17 5) = (71 : Int32) → (yC (xg xs) d 76 [.ref 17] m2 (fun v3 m3 => v3 = none ∧ (yC (xg xs) d 84 [.ref 17] m3 (fun v4 m4 => v4 = none ∧ yP (xg xs) (d + 1) 106 44 [(0, .ref 17), (2, .int l2), (3, .int u1)] [] m4 Q))))))))))))))) : yP (xg xs) (d + 1) 106 4 [(0, .ref 17), (1, .int l1), (2, .int l2)] [] m Q := by
  refine y_st rfl rfl rfl rfl rfl (fun _ _ => rfl) ?_
  refine y_st rfl rfl rfl rfl rfl (fun _ _ => rfl) ?_
  show yP (xg xs) (d + 1) 106 8 [(0, .ref 17), (1, .int l1), (2, .int l2)] [.int (8192 : Int32), .int l2] m Q
  refine y_ige (t := 82) rfl rfl rfl (fun h => ?_) (fun h => ?_)
  · replace H := H.1 h; clear h
    show yP (xg xs) (d + 1) 106 82 [(0, .ref 17), (1, .int l1), (2, .int l2)] [] m Q
    exact y_ret rfl rfl rfl rfl H
  · replace H := H.2 h; clear h
    refine y_st rfl rfl rfl rfl rfl (fun _ _ => rfl) ?_
    show yP (xg xs) (d + 1) 106 12 [(0, .ref 17), (1, .int l1), (2, .int l2)] [.int l1] m Q
    refine y_zeq (t := 82) rfl rfl rfl (fun h => ?_) (fun h => ?_)
    · replace H := H.1 h; clear h
      show yP (xg xs) (d + 1) 106 82 [(0, .ref 17), (1, .int l1), (2, .int l2)] [] m Q
      exact y_ret rfl rfl rfl rfl H
    · replace H := H.2 h; clear h
      refine y_st rfl rfl rfl rfl rfl (fun _ _ => rfl) ?_
      refine y_st rfl rfl rfl rfl rfl (fun _ _ => rfl) ?_
      refine y_st rfl rfl rfl rfl rfl (fun _ _ => rfl) ?_
      show yP (xg xs) (d + 1) 106 19 [(0, .ref 17), (1, .int l1), (2, .int l2)] [.int (0 : Int32), .int (18 : Int32), .ref 17] m Q
      refine y_call rfl rfl rfl rfl rfl (Nat.le_of_ble_eq_true rfl) (Nat.le_of_ble_eq_true rfl) rfl (by decide) H (fun v1 m1 H => ?_)
      obtain ⟨u1, rfl, H⟩ := H
      refine y_st rfl rfl rfl rfl rfl (fun _ _ => rfl) ?_
      refine y_st rfl rfl rfl rfl rfl (fun _ _ => rfl) ?_
      show yP (xg xs) (d + 1) 106 24 [(3, .int u1), (0, .ref 17), (1, .int l1), (2, .int l2)] [.ref 17] m1 Q
      refine y_call rfl rfl rfl rfl rfl (Nat.le_of_ble_eq_true rfl) (Nat.le_of_ble_eq_true rfl) rfl (by decide) H (fun v2 m2 H => ?_)
      obtain ⟨rfl, H⟩ := H
      refine y_st rfl rfl rfl rfl rfl (fun _ _ => rfl) ?_
      refine y_gf rfl rfl rfl rfl rfl ?_
      refine y_st rfl rfl rfl rfl rfl (fun _ _ => rfl) ?_
      show yP (xg xs) (d + 1) 106 33 [(3, .int u1), (0, .ref 17), (1, .int l1), (2, .int l2)] [.int (71 : Int32), .int (m2.1 17 5)] m2 Q
      refine y_ine (t := 44) rfl rfl rfl (fun h => ?_) (fun h => ?_)
      · replace H := H.1 h; clear h
        show yP (xg xs) (d + 1) 106 44 [(3, .int u1), (0, .ref 17), (1, .int l1), (2, .int l2)] [] m2 Q
        refine y_headS (l2 := [(0, .ref 17), (2, .int l2), (3, .int u1)]) [1, 3, 0] [0, 2, 3] [3, 0, 1, 2] rfl rfl (by decide) rfl (by decide) ?_
        exact H
      · replace H := H.2 h; clear h
        refine y_st rfl rfl rfl rfl rfl (fun _ _ => rfl) ?_
        show yP (xg xs) (d + 1) 106 37 [(3, .int u1), (0, .ref 17), (1, .int l1), (2, .int l2)] [.ref 17] m2 Q
        refine y_call rfl rfl rfl rfl rfl (Nat.le_of_ble_eq_true rfl) (Nat.le_of_ble_eq_true rfl) rfl (by decide) H (fun v3 m3 H => ?_)
        obtain ⟨rfl, H⟩ := H
        refine y_st rfl rfl rfl rfl rfl (fun _ _ => rfl) ?_
        show yP (xg xs) (d + 1) 106 41 [(3, .int u1), (0, .ref 17), (1, .int l1), (2, .int l2)] [.ref 17] m3 Q
        refine y_call rfl rfl rfl rfl rfl (Nat.le_of_ble_eq_true rfl) (Nat.le_of_ble_eq_true rfl) rfl (by decide) H (fun v4 m4 H => ?_)
        obtain ⟨rfl, H⟩ := H
        show yP (xg xs) (d + 1) 106 44 [(3, .int u1), (0, .ref 17), (1, .int l1), (2, .int l2)] [] m4 Q
        refine y_headS (l2 := [(0, .ref 17), (2, .int l2), (3, .int u1)]) [1, 3, 0] [0, 2, 3] [3, 0, 1, 2] rfl rfl (by decide) rfl (by decide) ?_
        exact H
set_option maxRecDepth 20000 in
/-- CodeMaker.Reader.ranges from 44 on -/
theorem w106_44 (xs : List Int32) (d : Nat) (l2 : Int32) (l3 : Int32) (m : yM) (Q : Option Value → yM → Prop) (H : (yC (xg xs) d 85 [.ref 2, .int l3] m (fun v1 m1 => v1 = none ∧ ((¬ (m1.1 17 5) = (172 : Int32) → yP (xg xs) (d + 1) 106 67 [(0, .ref 17), (2, .int l2)] [.int (0 : Int32)] m1 Q) ∧ ((m1.1 17 5) = (172 : Int32) → yP (xg xs) (d + 1) 106 67 [(0, .ref 17), (2, .int l2)] [.int (1 : Int32)] m1 Q))))) : yP (xg xs) (d + 1) 106 44 [(0, .ref 17), (2, .int l2), (3, .int l3)] [] m Q := by
  refine y_st rfl rfl rfl rfl rfl (fun _ _ => rfl) ?_
  refine y_gf rfl rfl rfl rfl rfl ?_
  refine y_st rfl rfl rfl rfl rfl (fun _ _ => rfl) ?_
  show yP (xg xs) (d + 1) 106 49 [(0, .ref 17), (2, .int l2), (3, .int l3)] [.int l3, .ref 2] m Q
  refine y_call rfl rfl rfl rfl rfl (Nat.le_of_ble_eq_true rfl) (Nat.le_of_ble_eq_true rfl) rfl (by decide) H (fun v1 m1 H => ?_)
  obtain ⟨rfl, H⟩ := H
  refine y_st rfl rfl rfl rfl rfl (fun _ _ => rfl) ?_
  refine y_gf rfl rfl rfl rfl rfl ?_
  refine y_st rfl rfl rfl rfl rfl (fun _ _ => rfl) ?_
  show yP (xg xs) (d + 1) 106 59 [(0, .ref 17), (2, .int l2), (3, .int l3)] [.int (172 : Int32), .int (m1.1 17 5)] m1 Q
  refine y_ine (t := 66) rfl rfl rfl (fun h => ?_) (fun h => ?_)
  · replace H := H.1 h; clear h
    refine y_st rfl rfl rfl rfl rfl (fun _ _ => rfl) ?_
    show yP (xg xs) (d + 1) 106 67 [(0, .ref 17), (2, .int l2), (3, .int l3)] [.int (0 : Int32)] m1 Q
    refine y_headS (l2 := [(0, .ref 17), (2, .int l2)]) [0, 1] [0, 2] [0, 2, 3] rfl rfl (by decide) rfl (by decide) ?_
    exact H
  · replace H := H.2 h; clear h
    refine y_st rfl rfl rfl rfl rfl (fun _ _ => rfl) ?_
    refine y_st rfl rfl rfl rfl rfl (fun _ _ => rfl) ?_
    show yP (xg xs) (d + 1) 106 67 [(0, .ref 17), (2, .int l2), (3, .int l3)] [.int (1 : Int32)] m1 Q
    refine y_headS (l2 := [(0, .ref 17), (2, .int l2)]) [0, 1] [0, 2] [0, 2, 3] rfl rfl (by decide) rfl (by decide) ?_
    exact H
set_option maxRecDepth 20000 in
/-- CodeMaker.Reader.ranges from 67 on -/
theorem w106_67 (xs : List Int32) (d : Nat) (l2 : Int32) (s0 : Int32) (m : yM) (Q : Option Value → yM → Prop) (H : ((s0 = 0 → yP (xg xs) (d + 1) 106 76 [(0, .ref 17), (1, .int s0), (2, .int l2)] [] m Q) ∧ (¬ s0 = 0 → (yC (xg xs) d 76 [.ref 17] m (fun v1 m1 => v1 = none ∧ yP (xg xs) (d + 1) 106 76 [(0, .ref 17), (1, .int s0), (2, .int l2)] [] m1 Q))))) : yP (xg xs) (d + 1) 106 67 [(0, .ref 17), (2, .int l2)] [.int s0] m Q := by
  refine y_st rfl rfl rfl rfl rfl (fun _ _ => rfl) ?_
  refine y_st rfl rfl rfl rfl rfl (fun _ _ => rfl) ?_
  show yP (xg xs) (d + 1) 106 69 [(1, .int s0), (0, .ref 17), (2, .int l2)] [.int s0] m Q
  refine y_zeq (t := 76) rfl rfl rfl (fun h => ?_) (fun h => ?_)
  · replace H := H.1 h; clear h
    show yP (xg xs) (d + 1) 106 76 [(1, .int s0), (0, .ref 17), (2, .int l2)] [] m Q
    refine y_headS (l2 := [(0, .ref 17), (1, .int s0), (2, .int l2)]) [1, 0, 2] [0, 1, 2] [1, 0, 2] rfl rfl (by decide) rfl (by decide) ?_
    exact H
  · replace H := H.2 h; clear h
    refine y_st rfl rfl rfl rfl rfl (fun _ _ => rfl) ?_
    show yP (xg xs) (d + 1) 106 73 [(1, .int s0), (0, .ref 17), (2, .int l2)] [.ref 17] m Q
    refine y_call rfl rfl rfl rfl rfl (Nat.le_of_ble_eq_true rfl) (Nat.le_of_ble_eq_true rfl) rfl (by decide) H (fun v1 m1 H => ?_)
    obtain ⟨rfl, H⟩ := H
    show yP (xg xs) (d + 1) 106 76 [(1, .int s0), (0, .ref 17), (2, .int l2)] [] m1 Q
    refine y_headS (l2 := [(0, .ref 17), (1, .int s0), (2, .int l2)]) [1, 0, 2] [0, 1, 2] [1, 0, 2] rfl rfl (by decide) rfl (by decide) ?_
    exact H
set_option maxRecDepth 20000 in
/-- CodeMaker.Reader.ranges from 76 on -/
theorem w106_76 (xs : List Int32) (d : Nat) (l1 : Int32) (l2 : Int32) (m : yM) (Q : Option Value → yM → Prop) (H : yP (xg xs) (d + 1) 106 4 [(0, .ref 17), (1, .int l1), (2, .int (l2 + (1 : Int32)))] [] m Q) : yP (xg xs) (d + 1) 106 76 [(0, .ref 17), (1, .int l1), (2, .int l2)] [] m Q := by
  refine y_st rfl rfl rfl rfl rfl (fun _ _ => rfl) ?_
  refine y_st rfl rfl rfl rfl rfl (fun _ _ => rfl) ?_
  show yP (xg xs) (d + 1) 106 4 [(2, .int (l2 + (1 : Int32))), (0, .ref 17), (1, .int l1)] [] m Q
  refine y_headS (l2 := [(0, .ref 17), (1, .int l1), (2, .int (l2 + (1 : Int32)))]) [1, 2, 0] [0, 1, 2] [2, 0, 1] rfl rfl (by decide) rfl (by decide) ?_
  exact H
set_option maxRecDepth 20000 in
/-- CodeMaker.Reader.forStatement from 0 on -/
theorem w107_0 (xs : List Int32) (d : Nat) (m : yM) (Q : Option Value → yM → Prop) (H : (yC (xg xs) d 75 [.ref 17, .int (19 : Int32), .int (0 : Int32)] m (fun v1 m1 => ∃ u1, v1 = some (Value.int u1) ∧ (yC (xg xs) d 97 [.ref 17] m1 (fun v2 m2 => v2 = none ∧ (x_in (m2.1 17 4) 8193 = true ∧ (x_in u1 16401 = true ∧ (yC (xg xs) d 77 [.ref 17, .int (64 : Int32)] (y_si m2 5 u1.toNatClampNeg (m2.1 11 ((m2.1 17 4).toNatClampNeg))) (fun v3 m3 => v3 = none ∧ (yC (xg xs) d 77 [.ref 17, .int (70 : Int32)] m3 (fun v4 m4 => v4 = none ∧ (yC (xg xs) d 84 [.ref 17] m4 (fun v5 m5 => v5 = none ∧ (yC (xg xs) d 77 [.ref 17, .int (24 : Int32)] m5 (fun v6 m6 => v6 = none ∧ (yC (xg xs) d 84 [.ref 17] m6 (fun v7 m7 => v7 = none ∧ ((¬ (m7.1 17 5) = (25 : Int32) → yP (xg xs) (d + 1) 107 76 [(0, .ref 17), (1, .int u1)] [] m7 Q) ∧ ((m7.1 17 5) = (25 : Int32) → (yC (xg xs) d 76 [.ref 17] m7 (fun v8 m8 => v8 = none ∧ (yC (xg xs) d 84 [.ref 17] m8 (fun v9 m9 => v9 = none ∧ yP (xg xs) (d + 1) 107 76 [(0, .ref 17), (1, .int u1)] [] m9 Q))))))))))))))))))))))) : yP (xg xs) (d + 1) 107 0 [(0, .ref 17)] [] m Q := by
  refine y_st rfl rfl rfl rfl rfl (fun _ _ => rfl) ?_
  refine y_st rfl rfl rfl rfl rfl (fun _ _ => rfl) ?_
  refine y_st rfl rfl rfl rfl rfl (fun _ _ => rfl) ?_
  show yP (xg xs) (d + 1) 107 4 [(0, .ref 17)] [.int (0 : Int32), .int (19 : Int32), .ref 17] m Q
  refine y_call rfl rfl rfl rfl rfl (Nat.le_of_ble_eq_true rfl) (Nat.le_of_ble_eq_true rfl) rfl (by decide) H (fun v1 m1 H => ?_)
  obtain ⟨u1, rfl, H⟩ := H
  refine y_st rfl rfl rfl rfl rfl (fun _ _ => rfl) ?_
  refine y_st rfl rfl rfl rfl rfl (fun _ _ => rfl) ?_
  show yP (xg xs) (d + 1) 107 9 [(1, .int u1), (0, .ref 17)] [.ref 17] m1 Q
  refine y_call rfl rfl rfl rfl rfl (Nat.le_of_ble_eq_true rfl) (Nat.le_of_ble_eq_true rfl) rfl (by decide) H (fun v2 m2 H => ?_)
  obtain ⟨rfl, H⟩ := H
  refine y_st rfl rfl rfl rfl rfl (fun _ _ => rfl) ?_
  refine y_gf rfl rfl rfl rfl rfl ?_
  refine y_gf rfl rfl rfl rfl rfl ?_
  refine y_st rfl rfl rfl rfl rfl (fun _ _ => rfl) ?_
  refine y_st rfl rfl rfl rfl rfl (fun _ _ => rfl) ?_
  refine y_gf rfl rfl rfl rfl rfl ?_
  refine y_gf rfl rfl rfl rfl rfl ?_
  refine y_st rfl rfl rfl rfl rfl (fun _ _ => rfl) ?_
  refine y_gf rfl rfl rfl rfl rfl ?_
  show yP (xg xs) (d + 1) 107 31 [(1, .int u1), (0, .ref 17)] [.int (m2.1 17 4), .ref 11, .int u1, .ref 5] m2 Q
  refine y_iald rfl rfl rfl (H.1) ?_
  replace H := H.2
  show yP (xg xs) (d + 1) 107 32 [(1, .int u1), (0, .ref 17)] [.int (m2.1 11 ((m2.1 17 4).toNatClampNeg)), .int u1, .ref 5] m2 Q
  refine y_iast rfl rfl rfl (H.1) ?_
  replace H := H.2
  refine y_st rfl rfl rfl rfl rfl (fun _ _ => rfl) ?_
  refine y_st rfl rfl rfl rfl rfl (fun _ _ => rfl) ?_
  show yP (xg xs) (d + 1) 107 36 [(1, .int u1), (0, .ref 17)] [.int (64 : Int32), .ref 17] (y_si m2 5 u1.toNatClampNeg (m2.1 11 ((m2.1 17 4).toNatClampNeg))) Q
  refine y_call rfl rfl rfl rfl rfl (Nat.le_of_ble_eq_true rfl) (Nat.le_of_ble_eq_true rfl) rfl (by decide) H (fun v3 m3 H => ?_)
  obtain ⟨rfl, H⟩ := H
  refine y_st rfl rfl rfl rfl rfl (fun _ _ => rfl) ?_
  refine y_st rfl rfl rfl rfl rfl (fun _ _ => rfl) ?_
  show yP (xg xs) (d + 1) 107 42 [(1, .int u1), (0, .ref 17)] [.int (70 : Int32), .ref 17] m3 Q
  refine y_call rfl rfl rfl rfl rfl (Nat.le_of_ble_eq_true rfl) (Nat.le_of_ble_eq_true rfl) rfl (by decide) H (fun v4 m4 H => ?_)
  obtain ⟨rfl, H⟩ := H
  refine y_st rfl rfl rfl rfl rfl (fun _ _ => rfl) ?_
  show yP (xg xs) (d + 1) 107 46 [(1, .int u1), (0, .ref 17)] [.ref 17] m4 Q
  refine y_call rfl rfl rfl rfl rfl (Nat.le_of_ble_eq_true rfl) (Nat.le_of_ble_eq_true rfl) rfl (by decide) H (fun v5 m5 H => ?_)
  obtain ⟨rfl, H⟩ := H
  refine y_st rfl rfl rfl rfl rfl (fun _ _ => rfl) ?_
  refine y_st rfl rfl rfl rfl rfl (fun _ _ => rfl) ?_
  show yP (xg xs) (d + 1) 107 52 [(1, .int u1), (0, .ref 17)] [.int (24 : Int32), .ref 17] m5 Q
  refine y_call rfl rfl rfl rfl rfl (Nat.le_of_ble_eq_true rfl) (Nat.le_of_ble_eq_true rfl) rfl (by decide) H (fun v6 m6 H => ?_)
  obtain ⟨rfl, H⟩ := H
  refine y_st rfl rfl rfl rfl rfl (fun _ _ => rfl) ?_
  show yP (xg xs) (d + 1) 107 56 [(1, .int u1), (0, .ref 17)] [.ref 17] m6 Q
  refine y_call rfl rfl rfl rfl rfl (Nat.le_of_ble_eq_true rfl) (Nat.le_of_ble_eq_true rfl) rfl (by decide) H (fun v7 m7 H => ?_)
  obtain ⟨rfl, H⟩ := H
  refine y_st rfl rfl rfl rfl rfl (fun _ _ => rfl) ?_
  refine y_gf rfl rfl rfl rfl rfl ?_
  refine y_st rfl rfl rfl rfl rfl (fun _ _ => rfl) ?_
  show yP (xg xs) (d + 1) 107 65 [(1, .int u1), (0, .ref 17)] [.int (25 : Int32), .int (m7.1 17 5)] m7 Q
  refine y_ine (t := 76) rfl rfl rfl (fun h => ?_) (fun h => ?_)
  · replace H := H.1 h; clear h
    show yP (xg xs) (d + 1) 107 76 [(1, .int u1), (0, .ref 17)] [] m7 Q
    refine y_headS (l2 := [(0, .ref 17), (1, .int u1)]) [1, 0] [0, 1] [1, 0] rfl rfl (by decide) rfl (by decide) ?_
    exact H
  · replace H := H.2 h; clear h
    refine y_st rfl rfl rfl rfl rfl (fun _ _ => rfl) ?_
    show yP (xg xs) (d + 1) 107 69 [(1, .int u1), (0, .ref 17)] [.ref 17] m7 Q
    refine y_call rfl rfl rfl rfl rfl (Nat.le_of_ble_eq_true rfl) (Nat.le_of_ble_eq_true rfl) rfl (by decide) H (fun v8 m8 H => ?_)
    obtain ⟨rfl, H⟩ := H
    refine y_st rfl rfl rfl rfl rfl (fun _ _ => rfl) ?_
    show yP (xg xs) (d + 1) 107 73 [(1, .int u1), (0, .ref 17)] [.ref 17] m8 Q
    refine y_call rfl rfl rfl rfl rfl (Nat.le_of_ble_eq_true rfl) (Nat.le_of_ble_eq_true rfl) rfl (by decide) H (fun v9 m9 H => ?_)
    obtain ⟨rfl, H⟩ := H
    show yP (xg xs) (d + 1) 107 76 [(1, .int u1), (0, .ref 17)] [] m9 Q
    refine y_headS (l2 := [(0, .ref 17), (1, .int u1)]) [1, 0] [0, 1] [1, 0] rfl rfl (by decide) rfl (by decide) ?_
    exact H
set_option maxRecDepth 20000 in
/-- CodeMaker.Reader.forStatement from 76 on -/
theorem w107_76 (xs : List Int32) (d : Nat) (l1 : Int32) (m : yM) (Q : Option Value → yM → Prop) (H : (yC (xg xs) d 77 [.ref 17, .int (26 : Int32)] m (fun v1 m1 => v1 = none ∧ (yC (xg xs) d 93 [.ref 17] m1 (fun v2 m2 => v2 = none ∧ (yC (xg xs) d 77 [.ref 17, .int (27 : Int32)] m2 (fun v3 m3 => v3 = none ∧ (yC (xg xs) d 85 [.ref 2, .int l1] (y_si m3 17 6 ((m3.1 17 6) - (1 : Int32))) (fun v4 m4 => v4 = none ∧ Q none m4))))))))) : yP (xg xs) (d + 1) 107 76 [(0, .ref 17), (1, .int l1)] [] m Q := by
  refine y_st rfl rfl rfl rfl rfl (fun _ _ => rfl) ?_
  refine y_st rfl rfl rfl rfl rfl (fun _ _ => rfl) ?_
  show yP (xg xs) (d + 1) 107 79 [(0, .ref 17), (1, .int l1)] [.int (26 : Int32), .ref 17] m Q
  refine y_call rfl rfl rfl rfl rfl (Nat.le_of_ble_eq_true rfl) (Nat.le_of_ble_eq_true rfl) rfl (by decide) H (fun v1 m1 H => ?_)
  obtain ⟨rfl, H⟩ := H
  refine y_st rfl rfl rfl rfl rfl (fun _ _ => rfl) ?_
  show yP (xg xs) (d + 1) 107 83 [(0, .ref 17), (1, .int l1)] [.ref 17] m1 Q
  refine y_call rfl rfl rfl rfl rfl (Nat.le_of_ble_eq_true rfl) (Nat.le_of_ble_eq_true rfl) rfl (by decide) H (fun v2 m2 H => ?_)
  obtain ⟨rfl, H⟩ := H
  refine y_st rfl rfl rfl rfl rfl (fun _ _ => rfl) ?_
  refine y_st rfl rfl rfl rfl rfl (fun _ _ => rfl) ?_
  show yP (xg xs) (d + 1) 107 89 [(0, .ref 17), (1, .int l1)] [.int (27 : Int32), .ref 17] m2 Q
  refine y_call rfl rfl rfl rfl rfl (Nat.le_of_ble_eq_true rfl) (Nat.le_of_ble_eq_true rfl) rfl (by decide) H (fun v3 m3 H => ?_)
  obtain ⟨rfl, H⟩ := H
  refine y_st rfl rfl rfl rfl rfl (fun _ _ => rfl) ?_
  refine y_st rfl rfl rfl rfl rfl (fun _ _ => rfl) ?_
  refine y_gf rfl rfl rfl rfl rfl ?_
  refine y_st rfl rfl rfl rfl rfl (fun _ _ => rfl) ?_
  refine y_st rfl rfl rfl rfl rfl (fun _ _ => rfl) ?_
  refine y_pfi rfl rfl rfl rfl rfl (x_fit_i _) ?_
  show yP (xg xs) (d + 1) 107 102 [(0, .ref 17), (1, .int l1)] [] (y_si m3 17 6 ((m3.1 17 6) - (1 : Int32))) Q
  refine y_st rfl rfl rfl rfl rfl (fun _ _ => rfl) ?_
  refine y_gf rfl rfl rfl rfl rfl ?_
  refine y_st rfl rfl rfl rfl rfl (fun _ _ => rfl) ?_
  show yP (xg xs) (d + 1) 107 107 [(0, .ref 17), (1, .int l1)] [.int l1, .ref 2] (y_si m3 17 6 ((m3.1 17 6) - (1 : Int32))) Q
  refine y_call rfl rfl rfl rfl rfl (Nat.le_of_ble_eq_true rfl) (Nat.le_of_ble_eq_true rfl) rfl (by decide) H (fun v4 m4 H => ?_)
  obtain ⟨rfl, H⟩ := H
  show yP (xg xs) (d + 1) 107 110 [(0, .ref 17), (1, .int l1)] [] m4 Q
  exact y_ret rfl rfl rfl rfl H
set_option maxRecDepth 20000 in
/-- CodeMaker.Reader.invocation from 0 on -/
theorem w108_0 (xs : List Int32) (d : Nat) (m : yM) (Q : Option Value → yM → Prop) (H : (x_in (m.1 17 4) 8193 = true ∧ (yC (xg xs) d 75 [.ref 17, .int (13 : Int32), .int (m.1 11 ((m.1 17 4).toNatClampNeg))] m (fun v1 m1 => ∃ u1, v1 = some (Value.int u1) ∧ (yC (xg xs) d 76 [.ref 17] m1 (fun v2 m2 => v2 = none ∧ (yC (xg xs) d 97 [.ref 17] m2 (fun v3 m3 => v3 = none ∧ yP (xg xs) (d + 1) 108 29 [(0, .ref 17), (1, .int u1), (2, .int (0 : Int32))] [] m3 Q)))))))) : yP (xg xs) (d + 1) 108 0 [(0, .ref 17)] [] m Q := by
  refine y_st rfl rfl rfl rfl rfl (fun _ _ => rfl) ?_
  refine y_st rfl rfl rfl rfl rfl (fun _ _ => rfl) ?_
  refine y_st rfl rfl rfl rfl rfl (fun _ _ => rfl) ?_
  refine y_gf rfl rfl rfl rfl rfl ?_
  refine y_gf rfl rfl rfl rfl rfl ?_
  refine y_st rfl rfl rfl rfl rfl (fun _ _ => rfl) ?_
  refine y_gf rfl rfl rfl rfl rfl ?_
  show yP (xg xs) (d + 1) 108 14 [(0, .ref 17)] [.int (m.1 17 4), .ref 11, .int (13 : Int32), .ref 17] m Q
  refine y_iald rfl rfl rfl (H.1) ?_
  replace H := H.2
  show yP (xg xs) (d + 1) 108 15 [(0, .ref 17)] [.int (m.1 11 ((m.1 17 4).toNatClampNeg)), .int (13 : Int32), .ref 17] m Q
  refine y_call rfl rfl rfl rfl rfl (Nat.le_of_ble_eq_true rfl) (Nat.le_of_ble_eq_true rfl) rfl (by decide) H (fun v1 m1 H => ?_)
  obtain ⟨u1, rfl, H⟩ := H
  refine y_st rfl rfl rfl rfl rfl (fun _ _ => rfl) ?_
  refine y_st rfl rfl rfl rfl rfl (fun _ _ => rfl) ?_
  show yP (xg xs) (d + 1) 108 20 [(1, .int u1), (0, .ref 17)] [.ref 17] m1 Q
  refine y_call rfl rfl rfl rfl rfl (Nat.le_of_ble_eq_true rfl) (Nat.le_of_ble_eq_true rfl) rfl (by decide) H (fun v2 m2 H => ?_)
  obtain ⟨rfl, H⟩ := H
  refine y_st rfl rfl rfl rfl rfl (fun _ _ => rfl) ?_
  show yP (xg xs) (d + 1) 108 24 [(1, .int u1), (0, .ref 17)] [.ref 17] m2 Q
  refine y_call rfl rfl rfl rfl rfl (Nat.le_of_ble_eq_true rfl) (Nat.le_of_ble_eq_true rfl) rfl (by decide) H (fun v3 m3 H => ?_)
  obtain ⟨rfl, H⟩ := H
  refine y_st rfl rfl rfl rfl rfl (fun _ _ => rfl) ?_
  refine y_st rfl rfl rfl rfl rfl (fun _ _ => rfl) ?_
  show yP (xg xs) (d + 1) 108 29 [(2, .int (0 : Int32)), (1, .int u1), (0, .ref 17)] [] m3 Q
  refine y_headS (l2 := [(0, .ref 17), (1, .int u1), (2, .int (0 : Int32))]) [2, 1, 0] [0, 1, 2] [2, 1, 0] rfl rfl (by decide) rfl (by decide) ?_
  exact H
set_option maxRecDepth 20000 in
/-- CodeMaker.Reader.invocation from 29 on -/
theorem w108_29 (xs : List Int32) (d : Nat) (l1 : Int32) (l2 : Int32) (m : yM) (Q : Option Value → yM → Prop) (H : (((8192 : Int32) ≤ l2 → yP (xg xs) (d + 1) 108 117 [(0, .ref 17), (1, .int l1)] [] m Q) ∧ (¬ (8192 : Int32) ≤ l2 → (((m.1 17 5) = (169 : Int32) → yP (xg xs) (d + 1) 108 117 [(0, .ref 17), (1, .int l1)] [] m Q) ∧ (¬ (m.1 17 5) = (169 : Int32) → (((m.1 17 5) = (69 : Int32) → yP (xg xs) (d + 1) 108 117 [(0, .ref 17), (1, .int l1)] [] m Q) ∧ (¬ (m.1 17 5) = (69 : Int32) → ((l2 ≤ 0 → yP (xg xs) (d + 1) 108 66 [(0, .ref 17), (1, .int l1), (2, .int l2)] [] m Q) ∧ (¬ l2 ≤ 0 → (yC (xg xs) d 77 [.ref 17, .int (172 : Int32)] m (fun v1 m1 => v1 = none ∧ yP (xg xs) (d + 1) 108 66 [(0, .ref 17), (1, .int l1), (2, .int l2)] [] m1 Q))))))))))) : yP (xg xs) (d + 1) 108 29 [(0, .ref 17), (1, .int l1), (2, .int l2)] [] m Q := by
  refine y_st rfl rfl rfl rfl rfl (fun _ _ => rfl) ?_
  refine y_st rfl rfl rfl rfl rfl (fun _ _ => rfl) ?_
  show yP (xg xs) (d + 1) 108 33 [(0, .ref 17), (1, .int l1), (2, .int l2)] [.int (8192 : Int32), .int l2] m Q
  refine y_ige (t := 117) rfl rfl rfl (fun h => ?_) (fun h => ?_)
  · replace H := H.1 h; clear h
    show yP (xg xs) (d + 1) 108 117 [(0, .ref 17), (1, .int l1), (2, .int l2)] [] m Q
    refine y_headS (l2 := [(0, .ref 17), (1, .int l1)]) [0, 1] [0, 1] [0, 1, 2] rfl rfl (by decide) rfl (by decide) ?_
    exact H
  · replace H := H.2 h; clear h
    refine y_st rfl rfl rfl rfl rfl (fun _ _ => rfl) ?_
    refine y_gf rfl rfl rfl rfl rfl ?_
    refine y_st rfl rfl rfl rfl rfl (fun _ _ => rfl) ?_
    show yP (xg xs) (d + 1) 108 43 [(0, .ref 17), (1, .int l1), (2, .int l2)] [.int (169 : Int32), .int (m.1 17 5)] m Q
    refine y_ieq (t := 117) rfl rfl rfl (fun h => ?_) (fun h => ?_)
    · replace H := H.1 h; clear h
      show yP (xg xs) (d + 1) 108 117 [(0, .ref 17), (1, .int l1), (2, .int l2)] [] m Q
      refine y_headS (l2 := [(0, .ref 17), (1, .int l1)]) [0, 1] [0, 1] [0, 1, 2] rfl rfl (by decide) rfl (by decide) ?_
      exact H
    · replace H := H.2 h; clear h
      refine y_st rfl rfl rfl rfl rfl (fun _ _ => rfl) ?_
      refine y_gf rfl rfl rfl rfl rfl ?_
      refine y_st rfl rfl rfl rfl rfl (fun _ _ => rfl) ?_
      show yP (xg xs) (d + 1) 108 52 [(0, .ref 17), (1, .int l1), (2, .int l2)] [.int (69 : Int32), .int (m.1 17 5)] m Q
      refine y_ieq (t := 117) rfl rfl rfl (fun h => ?_) (fun h => ?_)
      · replace H := H.1 h; clear h
        show yP (xg xs) (d + 1) 108 117 [(0, .ref 17), (1, .int l1), (2, .int l2)] [] m Q
        refine y_headS (l2 := [(0, .ref 17), (1, .int l1)]) [0, 1] [0, 1] [0, 1, 2] rfl rfl (by decide) rfl (by decide) ?_
        exact H
      · replace H := H.2 h; clear h
        refine y_st rfl rfl rfl rfl rfl (fun _ _ => rfl) ?_
        show yP (xg xs) (d + 1) 108 56 [(0, .ref 17), (1, .int l1), (2, .int l2)] [.int l2] m Q
        refine y_zle (t := 66) rfl rfl rfl (fun h => ?_) (fun h => ?_)
        · replace H := H.1 h; clear h
          show yP (xg xs) (d + 1) 108 66 [(0, .ref 17), (1, .int l1), (2, .int l2)] [] m Q
          exact H
        · replace H := H.2 h; clear h
          refine y_st rfl rfl rfl rfl rfl (fun _ _ => rfl) ?_
          refine y_st rfl rfl rfl rfl rfl (fun _ _ => rfl) ?_
          show yP (xg xs) (d + 1) 108 63 [(0, .ref 17), (1, .int l1), (2, .int l2)] [.int (172 : Int32), .ref 17] m Q
          refine y_call rfl rfl rfl rfl rfl (Nat.le_of_ble_eq_true rfl) (Nat.le_of_ble_eq_true rfl) rfl (by decide) H (fun v1 m1 H => ?_)
          obtain ⟨rfl, H⟩ := H
          show yP (xg xs) (d + 1) 108 66 [(0, .ref 17), (1, .int l1), (2, .int l2)] [] m1 Q
          exact H
set_option maxRecDepth 20000 in
/-- CodeMaker.Reader.invocation from 66 on -/
theorem w108_66 (xs : List Int32) (d : Nat) (l1 : Int32) (l2 : Int32) (m : yM) (Q : Option Value → yM → Prop) (H : (x_in (m.1 17 4) 8193 = true ∧ (yC (xg xs) d 75 [.ref 17, .int (14 : Int32), .int (m.1 11 ((m.1 17 4).toNatClampNeg))] m (fun v1 m1 => ∃ u1, v1 = some (Value.int u1) ∧ (yC (xg xs) d 77 [.ref 17, .int (64 : Int32)] m1 (fun v2 m2 => v2 = none ∧ (yC (xg xs) d 77 [.ref 17, .int (70 : Int32)] m2 (fun v3 m3 => v3 = none ∧ (yC (xg xs) d 98 [.ref 17, .int (0 : Int32), .int (1 : Int32)] m3 (fun v4 m4 => v4 = none ∧ (yC (xg xs) d 85 [.ref 2, .int u1] m4 (fun v5 m5 => v5 = none ∧ yP (xg xs) (d + 1) 108 29 [(0, .ref 17), (1, .int l1), (2, .int (l2 + (1 : Int32)))] [] m5 Q)))))))))))) : yP (xg xs) (d + 1) 108 66 [(0, .ref 17), (1, .int l1), (2, .int l2)] [] m Q := by
  refine y_st rfl rfl rfl rfl rfl (fun _ _ => rfl) ?_
  refine y_st rfl rfl rfl rfl rfl (fun _ _ => rfl) ?_
  refine y_st rfl rfl rfl rfl rfl (fun _ _ => rfl) ?_
  refine y_gf rfl rfl rfl rfl rfl ?_
  refine y_gf rfl rfl rfl rfl rfl ?_
  refine y_st rfl rfl rfl rfl rfl (fun _ _ => rfl) ?_
  refine y_gf rfl rfl rfl rfl rfl ?_
  show yP (xg xs) (d + 1) 108 80 [(0, .ref 17), (1, .int l1), (2, .int l2)] [.int (m.1 17 4), .ref 11, .int (14 : Int32), .ref 17] m Q
  refine y_iald rfl rfl rfl (H.1) ?_
  replace H := H.2
  show yP (xg xs) (d + 1) 108 81 [(0, .ref 17), (1, .int l1), (2, .int l2)] [.int (m.1 11 ((m.1 17 4).toNatClampNeg)), .int (14 : Int32), .ref 17] m Q
  refine y_call rfl rfl rfl rfl rfl (Nat.le_of_ble_eq_true rfl) (Nat.le_of_ble_eq_true rfl) rfl (by decide) H (fun v1 m1 H => ?_)
  obtain ⟨u1, rfl, H⟩ := H
  refine y_st rfl rfl rfl rfl rfl (fun _ _ => rfl) ?_
  refine y_st rfl rfl rfl rfl rfl (fun _ _ => rfl) ?_
  refine y_st rfl rfl rfl rfl rfl (fun _ _ => rfl) ?_
  show yP (xg xs) (d + 1) 108 88 [(3, .int u1), (0, .ref 17), (1, .int l1), (2, .int l2)] [.int (64 : Int32), .ref 17] m1 Q
  refine y_call rfl rfl rfl rfl rfl (Nat.le_of_ble_eq_true rfl) (Nat.le_of_ble_eq_true rfl) rfl (by decide) H (fun v2 m2 H => ?_)
  obtain ⟨rfl, H⟩ := H
  refine y_st rfl rfl rfl rfl rfl (fun _ _ => rfl) ?_
  refine y_st rfl rfl rfl rfl rfl (fun _ _ => rfl) ?_
  show yP (xg xs) (d + 1) 108 94 [(3, .int u1), (0, .ref 17), (1, .int l1), (2, .int l2)] [.int (70 : Int32), .ref 17] m2 Q
  refine y_call rfl rfl rfl rfl rfl (Nat.le_of_ble_eq_true rfl) (Nat.le_of_ble_eq_true rfl) rfl (by decide) H (fun v3 m3 H => ?_)
  obtain ⟨rfl, H⟩ := H
  refine y_st rfl rfl rfl rfl rfl (fun _ _ => rfl) ?_
  refine y_st rfl rfl rfl rfl rfl (fun _ _ => rfl) ?_
  refine y_st rfl rfl rfl rfl rfl (fun _ _ => rfl) ?_
  show yP (xg xs) (d + 1) 108 100 [(3, .int u1), (0, .ref 17), (1, .int l1), (2, .int l2)] [.int (1 : Int32), .int (0 : Int32), .ref 17] m3 Q
  refine y_call rfl rfl rfl rfl rfl (Nat.le_of_ble_eq_true rfl) (Nat.le_of_ble_eq_true rfl) rfl (by decide) H (fun v4 m4 H => ?_)
  obtain ⟨rfl, H⟩ := H
  refine y_st rfl rfl rfl rfl rfl (fun _ _ => rfl) ?_
  refine y_gf rfl rfl rfl rfl rfl ?_
  refine y_st rfl rfl rfl rfl rfl (fun _ _ => rfl) ?_
  show yP (xg xs) (d + 1) 108 108 [(3, .int u1), (0, .ref 17), (1, .int l1), (2, .int l2)] [.int u1, .ref 2] m4 Q
  refine y_call rfl rfl rfl rfl rfl (Nat.le_of_ble_eq_true rfl) (Nat.le_of_ble_eq_true rfl) rfl (by decide) H (fun v5 m5 H => ?_)
  obtain ⟨rfl, H⟩ := H
  refine y_st rfl rfl rfl rfl rfl (fun _ _ => rfl) ?_
  refine y_st rfl rfl rfl rfl rfl (fun _ _ => rfl) ?_
  show yP (xg xs) (d + 1) 108 29 [(2, .int (l2 + (1 : Int32))), (3, .int u1), (0, .ref 17), (1, .int l1)] [] m5 Q
  refine y_headS (l2 := [(0, .ref 17), (1, .int l1), (2, .int (l2 + (1 : Int32)))]) [2, 3, 0] [0, 1, 2] [2, 3, 0, 1] rfl rfl (by decide) rfl (by decide) ?_
  exact H
set_option maxRecDepth 20000 in
/-- CodeMaker.Reader.invocation from 117 on -/
theorem w108_117 (xs : List Int32) (d : Nat) (l1 : Int32) (m : yM) (Q : Option Value → yM → Prop) (H : (yC (xg xs) d 77 [.ref 17, .int (169 : Int32)] m (fun v1 m1 => v1 = none ∧ (yC (xg xs) d 85 [.ref 2, .int l1] (y_si m1 17 6 ((m1.1 17 6) - (1 : Int32))) (fun v2 m2 => v2 = none ∧ Q none m2))))) : yP (xg xs) (d + 1) 108 117 [(0, .ref 17), (1, .int l1)] [] m Q := by
  refine y_st rfl rfl rfl rfl rfl (fun _ _ => rfl) ?_
  refine y_st rfl rfl rfl rfl rfl (fun _ _ => rfl) ?_
  show yP (xg xs) (d + 1) 108 121 [(0, .ref 17), (1, .int l1)] [.int (169 : Int32), .ref 17] m Q
  refine y_call rfl rfl rfl rfl rfl (Nat.le_of_ble_eq_true rfl) (Nat.le_of_ble_eq_true rfl) rfl (by decide) H (fun v1 m1 H => ?_)
  obtain ⟨rfl, H⟩ := H
  refine y_st rfl rfl rfl rfl rfl (fun _ _ => rfl) ?_
  refine y_st rfl rfl rfl rfl rfl (fun _ _ => rfl) ?_
  refine y_gf rfl rfl rfl rfl rfl ?_
  refine y_st rfl rfl rfl rfl rfl (fun _ _ => rfl) ?_
  refine y_st rfl rfl rfl rfl rfl (fun _ _ => rfl) ?_
  refine y_pfi rfl rfl rfl rfl rfl (x_fit_i _) ?_
  show yP (xg xs) (d + 1) 108 134 [(0, .ref 17), (1, .int l1)] [] (y_si m1 17 6 ((m1.1 17 6) - (1 : Int32))) Q
  refine y_st rfl rfl rfl rfl rfl (fun _ _ => rfl) ?_
  refine y_gf rfl rfl rfl rfl rfl ?_
  refine y_st rfl rfl rfl rfl rfl (fun _ _ => rfl) ?_
  show yP (xg xs) (d + 1) 108 139 [(0, .ref 17), (1, .int l1)] [.int l1, .ref 2] (y_si m1 17 6 ((m1.1 17 6) - (1 : Int32))) Q
  refine y_call rfl rfl rfl rfl rfl (Nat.le_of_ble_eq_true rfl) (Nat.le_of_ble_eq_true rfl) rfl (by decide) H (fun v2 m2 H => ?_)
  obtain ⟨rfl, H⟩ := H
  show yP (xg xs) (d + 1) 108 142 [(0, .ref 17), (1, .int l1)] [] m2 Q
  exact y_ret rfl rfl rfl rfl H
set_option maxRecDepth 20000 in
/-- CodeMaker.Reader.assignment from 0 on -/
theorem w109_0 (xs : List Int32) (d : Nat) (m : yM) (Q : Option Value → yM → Prop) (H : (yC (xg xs) d 75 [.ref 17, .int (12 : Int32), .int (0 : Int32)] m (fun v1 m1 => ∃ u1, v1 = some (Value.int u1) ∧ (yC (xg xs) d 91 [.ref 17] m1 (fun v2 m2 => ∃ u2, v2 = some (Value.int u2) ∧ ((¬ u2 = (219 : Int32) → (x_in (m2.1 17 4) 8193 = true ∧ (yC (xg xs) d 82 [.ref 17, .int (64 : Int32), .int (6 : Int32), .int (m2.1 11 ((m2.1 17 4).toNatClampNeg))] m2 (fun v3 m3 => v3 = none ∧ yP (xg xs) (d + 1) 109 99 [(0, .ref 17), (1, .int u1)] [] m3 Q)))) ∧ (u2 = (219 : Int32) → (x_in (m2.1 17 4) 8193 = true ∧ (yC (xg xs) d 75 [.ref 17, .int (32 : Int32), .int (m2.1 11 ((m2.1 17 4).toNatClampNeg))] m2 (fun v4 m4 => ∃ u4, v4 = some (Value.int u4) ∧ (yC (xg xs) d 76 [.ref 17] m4 (fun v5 m5 => v5 = none ∧ (yC (xg xs) d 97 [.ref 17] m5 (fun v6 m6 => v6 = none ∧ (yC (xg xs) d 98 [.ref 17, .int (0 : Int32), .int (1 : Int32)] m6 (fun v7 m7 => v7 = none ∧ (yC (xg xs) d 77 [.ref 17, .int (221 : Int32)] m7 (fun v8 m8 => v8 = none ∧ (yC (xg xs) d 85 [.ref 2, .int u4] (y_si m8 17 6 ((m8.1 17 6) - (1 : Int32))) (fun v9 m9 => v9 = none ∧ yP (xg xs) (d + 1) 109 99 [(0, .ref 17), (1, .int u1)] [] m9 Q)))))))))))))))))))) : yP (xg xs) (d + 1) 109 0 [(0, .ref 17)] [] m Q := by
  refine y_st rfl rfl rfl rfl rfl (fun _ _ => rfl) ?_
  refine y_st rfl rfl rfl rfl rfl (fun _ _ => rfl) ?_
  refine y_st rfl rfl rfl rfl rfl (fun _ _ => rfl) ?_
  show yP (xg xs) (d + 1) 109 4 [(0, .ref 17)] [.int (0 : Int32), .int (12 : Int32), .ref 17] m Q
  refine y_call rfl rfl rfl rfl rfl (Nat.le_of_ble_eq_true rfl) (Nat.le_of_ble_eq_true rfl) rfl (by decide) H (fun v1 m1 H => ?_)
  obtain ⟨u1, rfl, H⟩ := H
  refine y_st rfl rfl rfl rfl rfl (fun _ _ => rfl) ?_
  refine y_st rfl rfl rfl rfl rfl (fun _ _ => rfl) ?_
  show yP (xg xs) (d + 1) 109 9 [(1, .int u1), (0, .ref 17)] [.ref 17] m1 Q
  refine y_call rfl rfl rfl rfl rfl (Nat.le_of_ble_eq_true rfl) (Nat.le_of_ble_eq_true rfl) rfl (by decide) H (fun v2 m2 H => ?_)
  obtain ⟨u2, rfl, H⟩ := H
  refine y_st rfl rfl rfl rfl rfl (fun _ _ => rfl) ?_
  show yP (xg xs) (d + 1) 109 15 [(1, .int u1), (0, .ref 17)] [.int (219 : Int32), .int u2] m2 Q
  refine y_ine (t := 79) rfl rfl rfl (fun h => ?_) (fun h => ?_)
  · replace H := H.1 h; clear h
    refine y_st rfl rfl rfl rfl rfl (fun _ _ => rfl) ?_
    refine y_st rfl rfl rfl rfl rfl (fun _ _ => rfl) ?_
    refine y_st rfl rfl rfl rfl rfl (fun _ _ => rfl) ?_
    refine y_st rfl rfl rfl rfl rfl (fun _ _ => rfl) ?_
    refine y_gf rfl rfl rfl rfl rfl ?_
    refine y_gf rfl rfl rfl rfl rfl ?_
    refine y_st rfl rfl rfl rfl rfl (fun _ _ => rfl) ?_
    refine y_gf rfl rfl rfl rfl rfl ?_
    show yP (xg xs) (d + 1) 109 95 [(1, .int u1), (0, .ref 17)] [.int (m2.1 17 4), .ref 11, .int (6 : Int32), .int (64 : Int32), .ref 17] m2 Q
    refine y_iald rfl rfl rfl (H.1) ?_
    replace H := H.2
    show yP (xg xs) (d + 1) 109 96 [(1, .int u1), (0, .ref 17)] [.int (m2.1 11 ((m2.1 17 4).toNatClampNeg)), .int (6 : Int32), .int (64 : Int32), .ref 17] m2 Q
    refine y_call rfl rfl rfl rfl rfl (Nat.le_of_ble_eq_true rfl) (Nat.le_of_ble_eq_true rfl) rfl (by decide) H (fun v3 m3 H => ?_)
    obtain ⟨rfl, H⟩ := H
    show yP (xg xs) (d + 1) 109 99 [(1, .int u1), (0, .ref 17)] [] m3 Q
    refine y_headS (l2 := [(0, .ref 17), (1, .int u1)]) [1, 0] [0, 1] [1, 0] rfl rfl (by decide) rfl (by decide) ?_
    exact H
  · replace H := H.2 h; clear h
    refine y_st rfl rfl rfl rfl rfl (fun _ _ => rfl) ?_
    refine y_st rfl rfl rfl rfl rfl (fun _ _ => rfl) ?_
    refine y_st rfl rfl rfl rfl rfl (fun _ _ => rfl) ?_
    refine y_gf rfl rfl rfl rfl rfl ?_
    refine y_gf rfl rfl rfl rfl rfl ?_
    refine y_st rfl rfl rfl rfl rfl (fun _ _ => rfl) ?_
    refine y_gf rfl rfl rfl rfl rfl ?_
    show yP (xg xs) (d + 1) 109 32 [(1, .int u1), (0, .ref 17)] [.int (m2.1 17 4), .ref 11, .int (32 : Int32), .ref 17] m2 Q
    refine y_iald rfl rfl rfl (H.1) ?_
    replace H := H.2
    show yP (xg xs) (d + 1) 109 33 [(1, .int u1), (0, .ref 17)] [.int (m2.1 11 ((m2.1 17 4).toNatClampNeg)), .int (32 : Int32), .ref 17] m2 Q
    refine y_call rfl rfl rfl rfl rfl (Nat.le_of_ble_eq_true rfl) (Nat.le_of_ble_eq_true rfl) rfl (by decide) H (fun v4 m4 H => ?_)
    obtain ⟨u4, rfl, H⟩ := H
    refine y_st rfl rfl rfl rfl rfl (fun _ _ => rfl) ?_
    refine y_st rfl rfl rfl rfl rfl (fun _ _ => rfl) ?_
    show yP (xg xs) (d + 1) 109 38 [(2, .int u4), (1, .int u1), (0, .ref 17)] [.ref 17] m4 Q
    refine y_call rfl rfl rfl rfl rfl (Nat.le_of_ble_eq_true rfl) (Nat.le_of_ble_eq_true rfl) rfl (by decide) H (fun v5 m5 H => ?_)
    obtain ⟨rfl, H⟩ := H
    refine y_st rfl rfl rfl rfl rfl (fun _ _ => rfl) ?_
    show yP (xg xs) (d + 1) 109 42 [(2, .int u4), (1, .int u1), (0, .ref 17)] [.ref 17] m5 Q
    refine y_call rfl rfl rfl rfl rfl (Nat.le_of_ble_eq_true rfl) (Nat.le_of_ble_eq_true rfl) rfl (by decide) H (fun v6 m6 H => ?_)
    obtain ⟨rfl, H⟩ := H
    refine y_st rfl rfl rfl rfl rfl (fun _ _ => rfl) ?_
    refine y_st rfl rfl rfl rfl rfl (fun _ _ => rfl) ?_
    refine y_st rfl rfl rfl rfl rfl (fun _ _ => rfl) ?_
    show yP (xg xs) (d + 1) 109 48 [(2, .int u4), (1, .int u1), (0, .ref 17)] [.int (1 : Int32), .int (0 : Int32), .ref 17] m6 Q
    refine y_call rfl rfl rfl rfl rfl (Nat.le_of_ble_eq_true rfl) (Nat.le_of_ble_eq_true rfl) rfl (by decide) H (fun v7 m7 H => ?_)
    obtain ⟨rfl, H⟩ := H
    refine y_st rfl rfl rfl rfl rfl (fun _ _ => rfl) ?_
    refine y_st rfl rfl rfl rfl rfl (fun _ _ => rfl) ?_
    show yP (xg xs) (d + 1) 109 55 [(2, .int u4), (1, .int u1), (0, .ref 17)] [.int (221 : Int32), .ref 17] m7 Q
    refine y_call rfl rfl rfl rfl rfl (Nat.le_of_ble_eq_true rfl) (Nat.le_of_ble_eq_true rfl) rfl (by decide) H (fun v8 m8 H => ?_)
    obtain ⟨rfl, H⟩ := H
    refine y_st rfl rfl rfl rfl rfl (fun _ _ => rfl) ?_
    refine y_st rfl rfl rfl rfl rfl (fun _ _ => rfl) ?_
    refine y_gf rfl rfl rfl rfl rfl ?_
    refine y_st rfl rfl rfl rfl rfl (fun _ _ => rfl) ?_
    refine y_st rfl rfl rfl rfl rfl (fun _ _ => rfl) ?_
    refine y_pfi rfl rfl rfl rfl rfl (x_fit_i _) ?_
    show yP (xg xs) (d + 1) 109 68 [(2, .int u4), (1, .int u1), (0, .ref 17)] [] (y_si m8 17 6 ((m8.1 17 6) - (1 : Int32))) Q
    refine y_st rfl rfl rfl rfl rfl (fun _ _ => rfl) ?_
    refine y_gf rfl rfl rfl rfl rfl ?_
    refine y_st rfl rfl rfl rfl rfl (fun _ _ => rfl) ?_
    show yP (xg xs) (d + 1) 109 73 [(2, .int u4), (1, .int u1), (0, .ref 17)] [.int u4, .ref 2] (y_si m8 17 6 ((m8.1 17 6) - (1 : Int32))) Q
    refine y_call rfl rfl rfl rfl rfl (Nat.le_of_ble_eq_true rfl) (Nat.le_of_ble_eq_true rfl) rfl (by decide) H (fun v9 m9 H => ?_)
    obtain ⟨rfl, H⟩ := H
    refine y_st rfl rfl rfl rfl rfl (fun _ _ => rfl) ?_
    show yP (xg xs) (d + 1) 109 99 [(2, .int u4), (1, .int u1), (0, .ref 17)] [] m9 Q
    refine y_headS (l2 := [(0, .ref 17), (1, .int u1)]) [2, 1] [0, 1] [2, 1, 0] rfl rfl (by decide) rfl (by decide) ?_
    exact H
set_option maxRecDepth 20000 in
/-- CodeMaker.Reader.assignment from 99 on -/
theorem w109_99 (xs : List Int32) (d : Nat) (l1 : Int32) (m : yM) (Q : Option Value → yM → Prop) (H : (x_in (m.1 17 4) 8193 = true ∧ (x_in l1 16401 = true ∧ (yC (xg xs) d 77 [.ref 17, .int (70 : Int32)] (y_si m 4 l1.toNatClampNeg (m.1 10 ((m.1 17 4).toNatClampNeg))) (fun v1 m1 => v1 = none ∧ (yC (xg xs) d 98 [.ref 17, .int (0 : Int32), .int (1 : Int32)] m1 (fun v2 m2 => v2 = none ∧ (yC (xg xs) d 85 [.ref 2, .int l1] m2 (fun v3 m3 => v3 = none ∧ Q none m3))))))))) : yP (xg xs) (d + 1) 109 99 [(0, .ref 17), (1, .int l1)] [] m Q := by
  refine y_st rfl rfl rfl rfl rfl (fun _ _ => rfl) ?_
  refine y_gf rfl rfl rfl rfl rfl ?_
  refine y_gf rfl rfl rfl rfl rfl ?_
  refine y_st rfl rfl rfl rfl rfl (fun _ _ => rfl) ?_
  refine y_st rfl rfl rfl rfl rfl (fun _ _ => rfl) ?_
  refine y_gf rfl rfl rfl rfl rfl ?_
  refine y_gf rfl rfl rfl rfl rfl ?_
  refine y_st rfl rfl rfl rfl rfl (fun _ _ => rfl) ?_
  refine y_gf rfl rfl rfl rfl rfl ?_
  show yP (xg xs) (d + 1) 109 118 [(0, .ref 17), (1, .int l1)] [.int (m.1 17 4), .ref 10, .int l1, .ref 4] m Q
  refine y_iald rfl rfl rfl (H.1) ?_
  replace H := H.2
  show yP (xg xs) (d + 1) 109 119 [(0, .ref 17), (1, .int l1)] [.int (m.1 10 ((m.1 17 4).toNatClampNeg)), .int l1, .ref 4] m Q
  refine y_iast rfl rfl rfl (H.1) ?_
  replace H := H.2
  refine y_st rfl rfl rfl rfl rfl (fun _ _ => rfl) ?_
  refine y_st rfl rfl rfl rfl rfl (fun _ _ => rfl) ?_
  show yP (xg xs) (d + 1) 109 123 [(0, .ref 17), (1, .int l1)] [.int (70 : Int32), .ref 17] (y_si m 4 l1.toNatClampNeg (m.1 10 ((m.1 17 4).toNatClampNeg))) Q
  refine y_call rfl rfl rfl rfl rfl (Nat.le_of_ble_eq_true rfl) (Nat.le_of_ble_eq_true rfl) rfl (by decide) H (fun v1 m1 H => ?_)
  obtain ⟨rfl, H⟩ := H
  refine y_st rfl rfl rfl rfl rfl (fun _ _ => rfl) ?_
  refine y_st rfl rfl rfl rfl rfl (fun _ _ => rfl) ?_
  refine y_st rfl rfl rfl rfl rfl (fun _ _ => rfl) ?_
  show yP (xg xs) (d + 1) 109 129 [(0, .ref 17), (1, .int l1)] [.int (1 : Int32), .int (0 : Int32), .ref 17] m1 Q
  refine y_call rfl rfl rfl rfl rfl (Nat.le_of_ble_eq_true rfl) (Nat.le_of_ble_eq_true rfl) rfl (by decide) H (fun v2 m2 H => ?_)
  obtain ⟨rfl, H⟩ := H
  refine y_st rfl rfl rfl rfl rfl (fun _ _ => rfl) ?_
  refine y_gf rfl rfl rfl rfl rfl ?_
  refine y_st rfl rfl rfl rfl rfl (fun _ _ => rfl) ?_
  show yP (xg xs) (d + 1) 109 137 [(0, .ref 17), (1, .int l1)] [.int l1, .ref 2] m2 Q
  refine y_call rfl rfl rfl rfl rfl (Nat.le_of_ble_eq_true rfl) (Nat.le_of_ble_eq_true rfl) rfl (by decide) H (fun v3 m3 H => ?_)
  obtain ⟨rfl, H⟩ := H
  show yP (xg xs) (d + 1) 109 140 [(0, .ref 17), (1, .int l1)] [] m3 Q
  exact y_ret rfl rfl rfl rfl H
