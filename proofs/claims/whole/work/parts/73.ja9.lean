/-! AMONG: its rows by Strings; laid by wip/gen/amg.py -/
set_option maxRecDepth 20000 in
/-- CodeMakerModel.among from 0 on -/
theorem w325s5_0 (xs : List Int32) (d : Nat) (l2 : Int32) (m : yM) (Q : Option Value → yM → Prop) (H : (x_in (l2 + (1 : Int32)) 8200 = true ∧ (x_in l2 8200 = true ∧ yP (xg xs) (d + 1) 325 22 [(0, .ref 58), (1, .retAddr 25), (2, .int l2), (3, .int ((m.1 61 ((l2 + (1 : Int32)).toNatClampNeg)) - (m.1 61 l2.toNatClampNeg))), (4, .int (0 : Int32)), (5, .int (1 : Int32))] [] m Q))) : yP (xg xs) (d + 1) 325 0 [(0, .ref 58), (1, .retAddr 25), (2, .int l2)] [] m Q := by
  refine y_st rfl rfl rfl rfl rfl (fun _ _ => rfl) ?_
  refine y_gf rfl rfl rfl rfl rfl ?_
  refine y_st rfl rfl rfl rfl rfl (fun _ _ => rfl) ?_
  refine y_st rfl rfl rfl rfl rfl (fun _ _ => rfl) ?_
  refine y_st rfl rfl rfl rfl rfl (fun _ _ => rfl) ?_
  show yP (xg xs) (d + 1) 325 7 [(0, .ref 58), (1, .retAddr 25), (2, .int l2)] [.int (l2 + (1 : Int32)), .ref 61] m Q
  refine y_iald rfl rfl rfl (H.1) ?_
  replace H := H.2
  refine y_st rfl rfl rfl rfl rfl (fun _ _ => rfl) ?_
  refine y_gf rfl rfl rfl rfl rfl ?_
  refine y_st rfl rfl rfl rfl rfl (fun _ _ => rfl) ?_
  show yP (xg xs) (d + 1) 325 13 [(0, .ref 58), (1, .retAddr 25), (2, .int l2)] [.int l2, .ref 61, .int (m.1 61 ((l2 + (1 : Int32)).toNatClampNeg))] m Q
  refine y_iald rfl rfl rfl (H.1) ?_
  replace H := H.2
  refine y_st rfl rfl rfl rfl rfl (fun _ _ => rfl) ?_
  refine y_st rfl rfl rfl rfl rfl (fun _ _ => rfl) ?_
  refine y_st rfl rfl rfl rfl rfl (fun _ _ => rfl) ?_
  refine y_st rfl rfl rfl rfl rfl (fun _ _ => rfl) ?_
  refine y_st rfl rfl rfl rfl rfl (fun _ _ => rfl) ?_
  refine y_st rfl rfl rfl rfl rfl (fun _ _ => rfl) ?_
  show yP (xg xs) (d + 1) 325 22 [(5, .int (1 : Int32)), (4, .int (0 : Int32)), (3, .int ((m.1 61 ((l2 + (1 : Int32)).toNatClampNeg)) - (m.1 61 l2.toNatClampNeg))), (0, .ref 58), (1, .retAddr 25), (2, .int l2)] [] m Q
  refine y_headS (l2 := [(0, .ref 58), (1, .retAddr 25), (2, .int l2), (3, .int ((m.1 61 ((l2 + (1 : Int32)).toNatClampNeg)) - (m.1 61 l2.toNatClampNeg))), (4, .int (0 : Int32)), (5, .int (1 : Int32))]) [3, 4, 5, 2, 1, 0] [0, 1, 2, 3, 4, 5] [5, 4, 3, 0, 1, 2] rfl rfl (by decide) rfl (by decide) ?_
  exact H
set_option maxRecDepth 20000 in
/-- CodeMakerModel.among from 22 on -/
theorem w325s5_22 (xs : List Int32) (d : Nat) (l2 : Int32) (l3 : Int32) (l4 : Int32) (l5 : Int32) (m : yM) (Q : Option Value → yM → Prop) (H : (yC (xg xs) d 22 [.retAddr 25] m (fun v1 m1 => ∃ u1, v1 = some (Value.int u1) ∧ ((u1 ≤ l5 → Q (some (.int ((-1) : Int32))) m1) ∧ (¬ u1 ≤ l5 → yP (xg xs) (d + 1) 325 34 [(0, .ref 58), (1, .retAddr 25), (2, .int l2), (3, .int l3), (4, .int l4), (5, .int l5), (6, .int (0 : Int32))] [] m1 Q))))) : yP (xg xs) (d + 1) 325 22 [(0, .ref 58), (1, .retAddr 25), (2, .int l2), (3, .int l3), (4, .int l4), (5, .int l5)] [] m Q := by
  refine y_st rfl rfl rfl rfl rfl (fun _ _ => rfl) ?_
  refine y_st rfl rfl rfl rfl rfl (fun _ _ => rfl) ?_
  show yP (xg xs) (d + 1) 325 25 [(0, .ref 58), (1, .retAddr 25), (2, .int l2), (3, .int l3), (4, .int l4), (5, .int l5)] [.retAddr 25, .int l5] m Q
  refine y_call rfl rfl rfl rfl rfl (Nat.le_of_ble_eq_true rfl) (Nat.le_of_ble_eq_true rfl) rfl (by decide) H (fun v1 m1 H => ?_)
  obtain ⟨u1, rfl, H⟩ := H
  show yP (xg xs) (d + 1) 325 28 [(0, .ref 58), (1, .retAddr 25), (2, .int l2), (3, .int l3), (4, .int l4), (5, .int l5)] [.int u1, .int l5] m1 Q
  refine y_ige (t := 121) rfl rfl rfl (fun h => ?_) (fun h => ?_)
  · replace H := H.1 h; clear h
    refine y_st rfl rfl rfl rfl rfl (fun _ _ => rfl) ?_
    show yP (xg xs) (d + 1) 325 122 [(0, .ref 58), (1, .retAddr 25), (2, .int l2), (3, .int l3), (4, .int l4), (5, .int l5)] [.int ((-1) : Int32)] m1 Q
    exact y_iret rfl rfl rfl H
  · replace H := H.2 h; clear h
    refine y_st rfl rfl rfl rfl rfl (fun _ _ => rfl) ?_
    refine y_st rfl rfl rfl rfl rfl (fun _ _ => rfl) ?_
    show yP (xg xs) (d + 1) 325 34 [(6, .int (0 : Int32)), (0, .ref 58), (1, .retAddr 25), (2, .int l2), (3, .int l3), (4, .int l4), (5, .int l5)] [] m1 Q
    refine y_headS (l2 := [(0, .ref 58), (1, .retAddr 25), (2, .int l2), (3, .int l3), (4, .int l4), (5, .int l5), (6, .int (0 : Int32))]) [1, 2, 3, 4, 5, 6, 0] [0, 1, 2, 3, 4, 5, 6] [6, 0, 1, 2, 3, 4, 5] rfl rfl (by decide) rfl (by decide) ?_
    exact H
set_option maxRecDepth 20000 in
/-- CodeMakerModel.among from 34 on -/
theorem w325s5_34 (xs : List Int32) (d : Nat) (l2 : Int32) (l3 : Int32) (l4 : Int32) (l5 : Int32) (l6 : Int32) (m : yM) (Q : Option Value → yM → Prop) (H : ((l3 ≤ l6 → yP (xg xs) (d + 1) 325 72 [(0, .ref 58), (1, .retAddr 25), (2, .int l2), (3, .int l3), (4, .int l4), (5, .int l5), (6, .int l6)] [] m Q) ∧ (¬ l3 ≤ l6 → (yC (xg xs) d 24 [.retAddr 25, .int (l5 + l6)] m (fun v1 m1 => ∃ u1, v1 = some (Value.int u1) ∧ (x_in l2 8200 = true ∧ (x_in ((m1.1 61 l2.toNatClampNeg) + l6) 8200 = true ∧ ((¬ u1 = (m1.1 60 (((m1.1 61 l2.toNatClampNeg) + l6).toNatClampNeg)) → yP (xg xs) (d + 1) 325 72 [(0, .ref 58), (1, .retAddr 25), (2, .int l2), (3, .int l3), (4, .int l4), (5, .int l5), (6, .int l6)] [] m1 Q) ∧ (u1 = (m1.1 60 (((m1.1 61 l2.toNatClampNeg) + l6).toNatClampNeg)) → yP (xg xs) (d + 1) 325 34 [(0, .ref 58), (1, .retAddr 25), (2, .int l2), (3, .int l3), (4, .int l4), (5, .int l5), (6, .int (l6 + (1 : Int32)))] [] m1 Q))))))))) : yP (xg xs) (d + 1) 325 34 [(0, .ref 58), (1, .retAddr 25), (2, .int l2), (3, .int l3), (4, .int l4), (5, .int l5), (6, .int l6)] [] m Q := by
  refine y_st rfl rfl rfl rfl rfl (fun _ _ => rfl) ?_
  refine y_st rfl rfl rfl rfl rfl (fun _ _ => rfl) ?_
  show yP (xg xs) (d + 1) 325 37 [(0, .ref 58), (1, .retAddr 25), (2, .int l2), (3, .int l3), (4, .int l4), (5, .int l5), (6, .int l6)] [.int l3, .int l6] m Q
  refine y_ige (t := 72) rfl rfl rfl (fun h => ?_) (fun h => ?_)
  · replace H := H.1 h; clear h
    show yP (xg xs) (d + 1) 325 72 [(0, .ref 58), (1, .retAddr 25), (2, .int l2), (3, .int l3), (4, .int l4), (5, .int l5), (6, .int l6)] [] m Q
    exact H
  · replace H := H.2 h; clear h
    refine y_st rfl rfl rfl rfl rfl (fun _ _ => rfl) ?_
    refine y_st rfl rfl rfl rfl rfl (fun _ _ => rfl) ?_
    refine y_st rfl rfl rfl rfl rfl (fun _ _ => rfl) ?_
    refine y_st rfl rfl rfl rfl rfl (fun _ _ => rfl) ?_
    show yP (xg xs) (d + 1) 325 46 [(0, .ref 58), (1, .retAddr 25), (2, .int l2), (3, .int l3), (4, .int l4), (5, .int l5), (6, .int l6)] [.int (l5 + l6), .retAddr 25] m Q
    refine y_call rfl rfl rfl rfl rfl (Nat.le_of_ble_eq_true rfl) (Nat.le_of_ble_eq_true rfl) rfl (by decide) H (fun v1 m1 H => ?_)
    obtain ⟨u1, rfl, H⟩ := H
    refine y_st rfl rfl rfl rfl rfl (fun _ _ => rfl) ?_
    refine y_gf rfl rfl rfl rfl rfl ?_
    refine y_st rfl rfl rfl rfl rfl (fun _ _ => rfl) ?_
    refine y_gf rfl rfl rfl rfl rfl ?_
    refine y_st rfl rfl rfl rfl rfl (fun _ _ => rfl) ?_
    show yP (xg xs) (d + 1) 325 58 [(0, .ref 58), (1, .retAddr 25), (2, .int l2), (3, .int l3), (4, .int l4), (5, .int l5), (6, .int l6)] [.int l2, .ref 61, .ref 60, .int u1] m1 Q
    refine y_iald rfl rfl rfl (H.1) ?_
    replace H := H.2
    refine y_st rfl rfl rfl rfl rfl (fun _ _ => rfl) ?_
    refine y_st rfl rfl rfl rfl rfl (fun _ _ => rfl) ?_
    show yP (xg xs) (d + 1) 325 62 [(0, .ref 58), (1, .retAddr 25), (2, .int l2), (3, .int l3), (4, .int l4), (5, .int l5), (6, .int l6)] [.int ((m1.1 61 l2.toNatClampNeg) + l6), .ref 60, .int u1] m1 Q
    refine y_bald rfl rfl rfl (by decide) (H.1) ?_
    replace H := H.2
    show yP (xg xs) (d + 1) 325 63 [(0, .ref 58), (1, .retAddr 25), (2, .int l2), (3, .int l3), (4, .int l4), (5, .int l5), (6, .int l6)] [.int (m1.1 60 (((m1.1 61 l2.toNatClampNeg) + l6).toNatClampNeg)), .int u1] m1 Q
    refine y_ine (t := 72) rfl rfl rfl (fun h => ?_) (fun h => ?_)
    · replace H := H.1 h; clear h
      show yP (xg xs) (d + 1) 325 72 [(0, .ref 58), (1, .retAddr 25), (2, .int l2), (3, .int l3), (4, .int l4), (5, .int l5), (6, .int l6)] [] m1 Q
      exact H
    · replace H := H.2 h; clear h
      refine y_st rfl rfl rfl rfl rfl (fun _ _ => rfl) ?_
      refine y_st rfl rfl rfl rfl rfl (fun _ _ => rfl) ?_
      show yP (xg xs) (d + 1) 325 34 [(6, .int (l6 + (1 : Int32))), (0, .ref 58), (1, .retAddr 25), (2, .int l2), (3, .int l3), (4, .int l4), (5, .int l5)] [] m1 Q
      refine y_headS (l2 := [(0, .ref 58), (1, .retAddr 25), (2, .int l2), (3, .int l3), (4, .int l4), (5, .int l5), (6, .int (l6 + (1 : Int32)))]) [1, 2, 3, 4, 5, 6, 0] [0, 1, 2, 3, 4, 5, 6] [6, 0, 1, 2, 3, 4, 5] rfl rfl (by decide) rfl (by decide) ?_
      exact H
set_option maxRecDepth 20000 in
/-- CodeMakerModel.among from 72 on -/
theorem w325s5_72 (xs : List Int32) (d : Nat) (l2 : Int32) (l3 : Int32) (l4 : Int32) (l5 : Int32) (l6 : Int32) (m : yM) (Q : Option Value → yM → Prop) (H : ((¬ l6 = l3 → yP (xg xs) (d + 1) 325 95 [(0, .ref 58), (1, .retAddr 25), (2, .int l2), (3, .int l3), (4, .int l4), (5, .int l5)] [] m Q) ∧ (l6 = l3 → (yC (xg xs) d 24 [.retAddr 25, .int (l5 + l6)] m (fun v1 m1 => ∃ u1, v1 = some (Value.int u1) ∧ ((¬ u1 = (32 : Int32) → yP (xg xs) (d + 1) 325 95 [(0, .ref 58), (1, .retAddr 25), (2, .int l2), (3, .int l3), (4, .int l4), (5, .int l5)] [] m1 Q) ∧ (u1 = (32 : Int32) → Q (some (.int l4)) m1))))))) : yP (xg xs) (d + 1) 325 72 [(0, .ref 58), (1, .retAddr 25), (2, .int l2), (3, .int l3), (4, .int l4), (5, .int l5), (6, .int l6)] [] m Q := by
  refine y_st rfl rfl rfl rfl rfl (fun _ _ => rfl) ?_
  refine y_st rfl rfl rfl rfl rfl (fun _ _ => rfl) ?_
  show yP (xg xs) (d + 1) 325 75 [(0, .ref 58), (1, .retAddr 25), (2, .int l2), (3, .int l3), (4, .int l4), (5, .int l5), (6, .int l6)] [.int l3, .int l6] m Q
  refine y_ine (t := 95) rfl rfl rfl (fun h => ?_) (fun h => ?_)
  · replace H := H.1 h; clear h
    show yP (xg xs) (d + 1) 325 95 [(0, .ref 58), (1, .retAddr 25), (2, .int l2), (3, .int l3), (4, .int l4), (5, .int l5), (6, .int l6)] [] m Q
    refine y_headS (l2 := [(0, .ref 58), (1, .retAddr 25), (2, .int l2), (3, .int l3), (4, .int l4), (5, .int l5)]) [0, 1, 2, 3, 4, 5] [0, 1, 2, 3, 4, 5] [0, 1, 2, 3, 4, 5, 6] rfl rfl (by decide) rfl (by decide) ?_
    exact H
  · replace H := H.2 h; clear h
    refine y_st rfl rfl rfl rfl rfl (fun _ _ => rfl) ?_
    refine y_st rfl rfl rfl rfl rfl (fun _ _ => rfl) ?_
    refine y_st rfl rfl rfl rfl rfl (fun _ _ => rfl) ?_
    refine y_st rfl rfl rfl rfl rfl (fun _ _ => rfl) ?_
    show yP (xg xs) (d + 1) 325 84 [(0, .ref 58), (1, .retAddr 25), (2, .int l2), (3, .int l3), (4, .int l4), (5, .int l5), (6, .int l6)] [.int (l5 + l6), .retAddr 25] m Q
    refine y_call rfl rfl rfl rfl rfl (Nat.le_of_ble_eq_true rfl) (Nat.le_of_ble_eq_true rfl) rfl (by decide) H (fun v1 m1 H => ?_)
    obtain ⟨u1, rfl, H⟩ := H
    refine y_st rfl rfl rfl rfl rfl (fun _ _ => rfl) ?_
    show yP (xg xs) (d + 1) 325 89 [(0, .ref 58), (1, .retAddr 25), (2, .int l2), (3, .int l3), (4, .int l4), (5, .int l5), (6, .int l6)] [.int (32 : Int32), .int u1] m1 Q
    refine y_ine (t := 95) rfl rfl rfl (fun h => ?_) (fun h => ?_)
    · replace H := H.1 h; clear h
      show yP (xg xs) (d + 1) 325 95 [(0, .ref 58), (1, .retAddr 25), (2, .int l2), (3, .int l3), (4, .int l4), (5, .int l5), (6, .int l6)] [] m1 Q
      refine y_headS (l2 := [(0, .ref 58), (1, .retAddr 25), (2, .int l2), (3, .int l3), (4, .int l4), (5, .int l5)]) [0, 1, 2, 3, 4, 5] [0, 1, 2, 3, 4, 5] [0, 1, 2, 3, 4, 5, 6] rfl rfl (by decide) rfl (by decide) ?_
      exact H
    · replace H := H.2 h; clear h
      refine y_st rfl rfl rfl rfl rfl (fun _ _ => rfl) ?_
      show yP (xg xs) (d + 1) 325 94 [(0, .ref 58), (1, .retAddr 25), (2, .int l2), (3, .int l3), (4, .int l4), (5, .int l5), (6, .int l6)] [.int l4] m1 Q
      exact y_iret rfl rfl rfl H
set_option maxRecDepth 20000 in
/-- CodeMakerModel.among from 95 on -/
theorem w325s5_95 (xs : List Int32) (d : Nat) (l2 : Int32) (l3 : Int32) (l4 : Int32) (l5 : Int32) (m : yM) (Q : Option Value → yM → Prop) (H : (yC (xg xs) d 24 [.retAddr 25, .int l5] m (fun v1 m1 => ∃ u1, v1 = some (Value.int u1) ∧ ((u1 = (32 : Int32) → yP (xg xs) (d + 1) 325 22 [(0, .ref 58), (1, .retAddr 25), (2, .int l2), (3, .int l3), (4, .int (l4 + (1 : Int32))), (5, .int (l5 + (1 : Int32)))] [] m1 Q) ∧ (¬ u1 = (32 : Int32) → yP (xg xs) (d + 1) 325 95 [(0, .ref 58), (1, .retAddr 25), (2, .int l2), (3, .int l3), (4, .int l4), (5, .int (l5 + (1 : Int32)))] [] m1 Q))))) : yP (xg xs) (d + 1) 325 95 [(0, .ref 58), (1, .retAddr 25), (2, .int l2), (3, .int l3), (4, .int l4), (5, .int l5)] [] m Q := by
  refine y_st rfl rfl rfl rfl rfl (fun _ _ => rfl) ?_
  refine y_st rfl rfl rfl rfl rfl (fun _ _ => rfl) ?_
  show yP (xg xs) (d + 1) 325 98 [(0, .ref 58), (1, .retAddr 25), (2, .int l2), (3, .int l3), (4, .int l4), (5, .int l5)] [.int l5, .retAddr 25] m Q
  refine y_call rfl rfl rfl rfl rfl (Nat.le_of_ble_eq_true rfl) (Nat.le_of_ble_eq_true rfl) rfl (by decide) H (fun v1 m1 H => ?_)
  obtain ⟨u1, rfl, H⟩ := H
  refine y_st rfl rfl rfl rfl rfl (fun _ _ => rfl) ?_
  show yP (xg xs) (d + 1) 325 103 [(0, .ref 58), (1, .retAddr 25), (2, .int l2), (3, .int l3), (4, .int l4), (5, .int l5)] [.int (32 : Int32), .int u1] m1 Q
  refine y_ieq (t := 112) rfl rfl rfl (fun h => ?_) (fun h => ?_)
  · replace H := H.1 h; clear h
    refine y_st rfl rfl rfl rfl rfl (fun _ _ => rfl) ?_
    refine y_st rfl rfl rfl rfl rfl (fun _ _ => rfl) ?_
    refine y_st rfl rfl rfl rfl rfl (fun _ _ => rfl) ?_
    show yP (xg xs) (d + 1) 325 22 [(4, .int (l4 + (1 : Int32))), (5, .int (l5 + (1 : Int32))), (0, .ref 58), (1, .retAddr 25), (2, .int l2), (3, .int l3)] [] m1 Q
    refine y_headS (l2 := [(0, .ref 58), (1, .retAddr 25), (2, .int l2), (3, .int l3), (4, .int (l4 + (1 : Int32))), (5, .int (l5 + (1 : Int32)))]) [2, 3, 4, 5, 0, 1] [0, 1, 2, 3, 4, 5] [4, 5, 0, 1, 2, 3] rfl rfl (by decide) rfl (by decide) ?_
    exact H
  · replace H := H.2 h; clear h
    refine y_st rfl rfl rfl rfl rfl (fun _ _ => rfl) ?_
    refine y_st rfl rfl rfl rfl rfl (fun _ _ => rfl) ?_
    show yP (xg xs) (d + 1) 325 95 [(5, .int (l5 + (1 : Int32))), (0, .ref 58), (1, .retAddr 25), (2, .int l2), (3, .int l3), (4, .int l4)] [] m1 Q
    refine y_headS (l2 := [(0, .ref 58), (1, .retAddr 25), (2, .int l2), (3, .int l3), (4, .int l4), (5, .int (l5 + (1 : Int32)))]) [1, 2, 3, 4, 5, 0] [0, 1, 2, 3, 4, 5] [5, 0, 1, 2, 3, 4] rfl rfl (by decide) rfl (by decide) ?_
    exact H
set_option maxRecDepth 20000 in
/-- CodeMakerModel.among from 0 on -/
theorem w325s6_0 (xs : List Int32) (d : Nat) (l2 : Int32) (m : yM) (Q : Option Value → yM → Prop) (H : (x_in (l2 + (1 : Int32)) 8200 = true ∧ (x_in l2 8200 = true ∧ yP (xg xs) (d + 1) 325 22 [(0, .ref 58), (1, .retAddr 26), (2, .int l2), (3, .int ((m.1 61 ((l2 + (1 : Int32)).toNatClampNeg)) - (m.1 61 l2.toNatClampNeg))), (4, .int (0 : Int32)), (5, .int (1 : Int32))] [] m Q))) : yP (xg xs) (d + 1) 325 0 [(0, .ref 58), (1, .retAddr 26), (2, .int l2)] [] m Q := by
  refine y_st rfl rfl rfl rfl rfl (fun _ _ => rfl) ?_
  refine y_gf rfl rfl rfl rfl rfl ?_
  refine y_st rfl rfl rfl rfl rfl (fun _ _ => rfl) ?_
  refine y_st rfl rfl rfl rfl rfl (fun _ _ => rfl) ?_
  refine y_st rfl rfl rfl rfl rfl (fun _ _ => rfl) ?_
  show yP (xg xs) (d + 1) 325 7 [(0, .ref 58), (1, .retAddr 26), (2, .int l2)] [.int (l2 + (1 : Int32)), .ref 61] m Q
  refine y_iald rfl rfl rfl (H.1) ?_
  replace H := H.2
  refine y_st rfl rfl rfl rfl rfl (fun _ _ => rfl) ?_
  refine y_gf rfl rfl rfl rfl rfl ?_
  refine y_st rfl rfl rfl rfl rfl (fun _ _ => rfl) ?_
  show yP (xg xs) (d + 1) 325 13 [(0, .ref 58), (1, .retAddr 26), (2, .int l2)] [.int l2, .ref 61, .int (m.1 61 ((l2 + (1 : Int32)).toNatClampNeg))] m Q
  refine y_iald rfl rfl rfl (H.1) ?_
  replace H := H.2
  refine y_st rfl rfl rfl rfl rfl (fun _ _ => rfl) ?_
  refine y_st rfl rfl rfl rfl rfl (fun _ _ => rfl) ?_
  refine y_st rfl rfl rfl rfl rfl (fun _ _ => rfl) ?_
  refine y_st rfl rfl rfl rfl rfl (fun _ _ => rfl) ?_
  refine y_st rfl rfl rfl rfl rfl (fun _ _ => rfl) ?_
  refine y_st rfl rfl rfl rfl rfl (fun _ _ => rfl) ?_
  show yP (xg xs) (d + 1) 325 22 [(5, .int (1 : Int32)), (4, .int (0 : Int32)), (3, .int ((m.1 61 ((l2 + (1 : Int32)).toNatClampNeg)) - (m.1 61 l2.toNatClampNeg))), (0, .ref 58), (1, .retAddr 26), (2, .int l2)] [] m Q
  refine y_headS (l2 := [(0, .ref 58), (1, .retAddr 26), (2, .int l2), (3, .int ((m.1 61 ((l2 + (1 : Int32)).toNatClampNeg)) - (m.1 61 l2.toNatClampNeg))), (4, .int (0 : Int32)), (5, .int (1 : Int32))]) [3, 4, 5, 2, 1, 0] [0, 1, 2, 3, 4, 5] [5, 4, 3, 0, 1, 2] rfl rfl (by decide) rfl (by decide) ?_
  exact H
set_option maxRecDepth 20000 in
/-- CodeMakerModel.among from 22 on -/
theorem w325s6_22 (xs : List Int32) (d : Nat) (l2 : Int32) (l3 : Int32) (l4 : Int32) (l5 : Int32) (m : yM) (Q : Option Value → yM → Prop) (H : (yC (xg xs) d 22 [.retAddr 26] m (fun v1 m1 => ∃ u1, v1 = some (Value.int u1) ∧ ((u1 ≤ l5 → Q (some (.int ((-1) : Int32))) m1) ∧ (¬ u1 ≤ l5 → yP (xg xs) (d + 1) 325 34 [(0, .ref 58), (1, .retAddr 26), (2, .int l2), (3, .int l3), (4, .int l4), (5, .int l5), (6, .int (0 : Int32))] [] m1 Q))))) : yP (xg xs) (d + 1) 325 22 [(0, .ref 58), (1, .retAddr 26), (2, .int l2), (3, .int l3), (4, .int l4), (5, .int l5)] [] m Q := by
  refine y_st rfl rfl rfl rfl rfl (fun _ _ => rfl) ?_
  refine y_st rfl rfl rfl rfl rfl (fun _ _ => rfl) ?_
  show yP (xg xs) (d + 1) 325 25 [(0, .ref 58), (1, .retAddr 26), (2, .int l2), (3, .int l3), (4, .int l4), (5, .int l5)] [.retAddr 26, .int l5] m Q
  refine y_call rfl rfl rfl rfl rfl (Nat.le_of_ble_eq_true rfl) (Nat.le_of_ble_eq_true rfl) rfl (by decide) H (fun v1 m1 H => ?_)
  obtain ⟨u1, rfl, H⟩ := H
  show yP (xg xs) (d + 1) 325 28 [(0, .ref 58), (1, .retAddr 26), (2, .int l2), (3, .int l3), (4, .int l4), (5, .int l5)] [.int u1, .int l5] m1 Q
  refine y_ige (t := 121) rfl rfl rfl (fun h => ?_) (fun h => ?_)
  · replace H := H.1 h; clear h
    refine y_st rfl rfl rfl rfl rfl (fun _ _ => rfl) ?_
    show yP (xg xs) (d + 1) 325 122 [(0, .ref 58), (1, .retAddr 26), (2, .int l2), (3, .int l3), (4, .int l4), (5, .int l5)] [.int ((-1) : Int32)] m1 Q
    exact y_iret rfl rfl rfl H
  · replace H := H.2 h; clear h
    refine y_st rfl rfl rfl rfl rfl (fun _ _ => rfl) ?_
    refine y_st rfl rfl rfl rfl rfl (fun _ _ => rfl) ?_
    show yP (xg xs) (d + 1) 325 34 [(6, .int (0 : Int32)), (0, .ref 58), (1, .retAddr 26), (2, .int l2), (3, .int l3), (4, .int l4), (5, .int l5)] [] m1 Q
    refine y_headS (l2 := [(0, .ref 58), (1, .retAddr 26), (2, .int l2), (3, .int l3), (4, .int l4), (5, .int l5), (6, .int (0 : Int32))]) [1, 2, 3, 4, 5, 6, 0] [0, 1, 2, 3, 4, 5, 6] [6, 0, 1, 2, 3, 4, 5] rfl rfl (by decide) rfl (by decide) ?_
    exact H
set_option maxRecDepth 20000 in
/-- CodeMakerModel.among from 34 on -/
theorem w325s6_34 (xs : List Int32) (d : Nat) (l2 : Int32) (l3 : Int32) (l4 : Int32) (l5 : Int32) (l6 : Int32) (m : yM) (Q : Option Value → yM → Prop) (H : ((l3 ≤ l6 → yP (xg xs) (d + 1) 325 72 [(0, .ref 58), (1, .retAddr 26), (2, .int l2), (3, .int l3), (4, .int l4), (5, .int l5), (6, .int l6)] [] m Q) ∧ (¬ l3 ≤ l6 → (yC (xg xs) d 24 [.retAddr 26, .int (l5 + l6)] m (fun v1 m1 => ∃ u1, v1 = some (Value.int u1) ∧ (x_in l2 8200 = true ∧ (x_in ((m1.1 61 l2.toNatClampNeg) + l6) 8200 = true ∧ ((¬ u1 = (m1.1 60 (((m1.1 61 l2.toNatClampNeg) + l6).toNatClampNeg)) → yP (xg xs) (d + 1) 325 72 [(0, .ref 58), (1, .retAddr 26), (2, .int l2), (3, .int l3), (4, .int l4), (5, .int l5), (6, .int l6)] [] m1 Q) ∧ (u1 = (m1.1 60 (((m1.1 61 l2.toNatClampNeg) + l6).toNatClampNeg)) → yP (xg xs) (d + 1) 325 34 [(0, .ref 58), (1, .retAddr 26), (2, .int l2), (3, .int l3), (4, .int l4), (5, .int l5), (6, .int (l6 + (1 : Int32)))] [] m1 Q))))))))) : yP (xg xs) (d + 1) 325 34 [(0, .ref 58), (1, .retAddr 26), (2, .int l2), (3, .int l3), (4, .int l4), (5, .int l5), (6, .int l6)] [] m Q := by
  refine y_st rfl rfl rfl rfl rfl (fun _ _ => rfl) ?_
  refine y_st rfl rfl rfl rfl rfl (fun _ _ => rfl) ?_
  show yP (xg xs) (d + 1) 325 37 [(0, .ref 58), (1, .retAddr 26), (2, .int l2), (3, .int l3), (4, .int l4), (5, .int l5), (6, .int l6)] [.int l3, .int l6] m Q
  refine y_ige (t := 72) rfl rfl rfl (fun h => ?_) (fun h => ?_)
  · replace H := H.1 h; clear h
    show yP (xg xs) (d + 1) 325 72 [(0, .ref 58), (1, .retAddr 26), (2, .int l2), (3, .int l3), (4, .int l4), (5, .int l5), (6, .int l6)] [] m Q
    exact H
  · replace H := H.2 h; clear h
    refine y_st rfl rfl rfl rfl rfl (fun _ _ => rfl) ?_
    refine y_st rfl rfl rfl rfl rfl (fun _ _ => rfl) ?_
    refine y_st rfl rfl rfl rfl rfl (fun _ _ => rfl) ?_
    refine y_st rfl rfl rfl rfl rfl (fun _ _ => rfl) ?_
    show yP (xg xs) (d + 1) 325 46 [(0, .ref 58), (1, .retAddr 26), (2, .int l2), (3, .int l3), (4, .int l4), (5, .int l5), (6, .int l6)] [.int (l5 + l6), .retAddr 26] m Q
    refine y_call rfl rfl rfl rfl rfl (Nat.le_of_ble_eq_true rfl) (Nat.le_of_ble_eq_true rfl) rfl (by decide) H (fun v1 m1 H => ?_)
    obtain ⟨u1, rfl, H⟩ := H
    refine y_st rfl rfl rfl rfl rfl (fun _ _ => rfl) ?_
    refine y_gf rfl rfl rfl rfl rfl ?_
    refine y_st rfl rfl rfl rfl rfl (fun _ _ => rfl) ?_
    refine y_gf rfl rfl rfl rfl rfl ?_
    refine y_st rfl rfl rfl rfl rfl (fun _ _ => rfl) ?_
    show yP (xg xs) (d + 1) 325 58 [(0, .ref 58), (1, .retAddr 26), (2, .int l2), (3, .int l3), (4, .int l4), (5, .int l5), (6, .int l6)] [.int l2, .ref 61, .ref 60, .int u1] m1 Q
    refine y_iald rfl rfl rfl (H.1) ?_
    replace H := H.2
    refine y_st rfl rfl rfl rfl rfl (fun _ _ => rfl) ?_
    refine y_st rfl rfl rfl rfl rfl (fun _ _ => rfl) ?_
    show yP (xg xs) (d + 1) 325 62 [(0, .ref 58), (1, .retAddr 26), (2, .int l2), (3, .int l3), (4, .int l4), (5, .int l5), (6, .int l6)] [.int ((m1.1 61 l2.toNatClampNeg) + l6), .ref 60, .int u1] m1 Q
    refine y_bald rfl rfl rfl (by decide) (H.1) ?_
    replace H := H.2
    show yP (xg xs) (d + 1) 325 63 [(0, .ref 58), (1, .retAddr 26), (2, .int l2), (3, .int l3), (4, .int l4), (5, .int l5), (6, .int l6)] [.int (m1.1 60 (((m1.1 61 l2.toNatClampNeg) + l6).toNatClampNeg)), .int u1] m1 Q
    refine y_ine (t := 72) rfl rfl rfl (fun h => ?_) (fun h => ?_)
    · replace H := H.1 h; clear h
      show yP (xg xs) (d + 1) 325 72 [(0, .ref 58), (1, .retAddr 26), (2, .int l2), (3, .int l3), (4, .int l4), (5, .int l5), (6, .int l6)] [] m1 Q
      exact H
    · replace H := H.2 h; clear h
      refine y_st rfl rfl rfl rfl rfl (fun _ _ => rfl) ?_
      refine y_st rfl rfl rfl rfl rfl (fun _ _ => rfl) ?_
      show yP (xg xs) (d + 1) 325 34 [(6, .int (l6 + (1 : Int32))), (0, .ref 58), (1, .retAddr 26), (2, .int l2), (3, .int l3), (4, .int l4), (5, .int l5)] [] m1 Q
      refine y_headS (l2 := [(0, .ref 58), (1, .retAddr 26), (2, .int l2), (3, .int l3), (4, .int l4), (5, .int l5), (6, .int (l6 + (1 : Int32)))]) [1, 2, 3, 4, 5, 6, 0] [0, 1, 2, 3, 4, 5, 6] [6, 0, 1, 2, 3, 4, 5] rfl rfl (by decide) rfl (by decide) ?_
      exact H
set_option maxRecDepth 20000 in
/-- CodeMakerModel.among from 72 on -/
theorem w325s6_72 (xs : List Int32) (d : Nat) (l2 : Int32) (l3 : Int32) (l4 : Int32) (l5 : Int32) (l6 : Int32) (m : yM) (Q : Option Value → yM → Prop) (H : ((¬ l6 = l3 → yP (xg xs) (d + 1) 325 95 [(0, .ref 58), (1, .retAddr 26), (2, .int l2), (3, .int l3), (4, .int l4), (5, .int l5)] [] m Q) ∧ (l6 = l3 → (yC (xg xs) d 24 [.retAddr 26, .int (l5 + l6)] m (fun v1 m1 => ∃ u1, v1 = some (Value.int u1) ∧ ((¬ u1 = (32 : Int32) → yP (xg xs) (d + 1) 325 95 [(0, .ref 58), (1, .retAddr 26), (2, .int l2), (3, .int l3), (4, .int l4), (5, .int l5)] [] m1 Q) ∧ (u1 = (32 : Int32) → Q (some (.int l4)) m1))))))) : yP (xg xs) (d + 1) 325 72 [(0, .ref 58), (1, .retAddr 26), (2, .int l2), (3, .int l3), (4, .int l4), (5, .int l5), (6, .int l6)] [] m Q := by
  refine y_st rfl rfl rfl rfl rfl (fun _ _ => rfl) ?_
  refine y_st rfl rfl rfl rfl rfl (fun _ _ => rfl) ?_
  show yP (xg xs) (d + 1) 325 75 [(0, .ref 58), (1, .retAddr 26), (2, .int l2), (3, .int l3), (4, .int l4), (5, .int l5), (6, .int l6)] [.int l3, .int l6] m Q
  refine y_ine (t := 95) rfl rfl rfl (fun h => ?_) (fun h => ?_)
  · replace H := H.1 h; clear h
    show yP (xg xs) (d + 1) 325 95 [(0, .ref 58), (1, .retAddr 26), (2, .int l2), (3, .int l3), (4, .int l4), (5, .int l5), (6, .int l6)] [] m Q
    refine y_headS (l2 := [(0, .ref 58), (1, .retAddr 26), (2, .int l2), (3, .int l3), (4, .int l4), (5, .int l5)]) [0, 1, 2, 3, 4, 5] [0, 1, 2, 3, 4, 5] [0, 1, 2, 3, 4, 5, 6] rfl rfl (by decide) rfl (by decide) ?_
    exact H
  · replace H := H.2 h; clear h
    refine y_st rfl rfl rfl rfl rfl (fun _ _ => rfl) ?_
    refine y_st rfl rfl rfl rfl rfl (fun _ _ => rfl) ?_
    refine y_st rfl rfl rfl rfl rfl (fun _ _ => rfl) ?_
    refine y_st rfl rfl rfl rfl rfl (fun _ _ => rfl) ?_
    show yP (xg xs) (d + 1) 325 84 [(0, .ref 58), (1, .retAddr 26), (2, .int l2), (3, .int l3), (4, .int l4), (5, .int l5), (6, .int l6)] [.int (l5 + l6), .retAddr 26] m Q
    refine y_call rfl rfl rfl rfl rfl (Nat.le_of_ble_eq_true rfl) (Nat.le_of_ble_eq_true rfl) rfl (by decide) H (fun v1 m1 H => ?_)
    obtain ⟨u1, rfl, H⟩ := H
    refine y_st rfl rfl rfl rfl rfl (fun _ _ => rfl) ?_
    show yP (xg xs) (d + 1) 325 89 [(0, .ref 58), (1, .retAddr 26), (2, .int l2), (3, .int l3), (4, .int l4), (5, .int l5), (6, .int l6)] [.int (32 : Int32), .int u1] m1 Q
    refine y_ine (t := 95) rfl rfl rfl (fun h => ?_) (fun h => ?_)
    · replace H := H.1 h; clear h
      show yP (xg xs) (d + 1) 325 95 [(0, .ref 58), (1, .retAddr 26), (2, .int l2), (3, .int l3), (4, .int l4), (5, .int l5), (6, .int l6)] [] m1 Q
      refine y_headS (l2 := [(0, .ref 58), (1, .retAddr 26), (2, .int l2), (3, .int l3), (4, .int l4), (5, .int l5)]) [0, 1, 2, 3, 4, 5] [0, 1, 2, 3, 4, 5] [0, 1, 2, 3, 4, 5, 6] rfl rfl (by decide) rfl (by decide) ?_
      exact H
    · replace H := H.2 h; clear h
      refine y_st rfl rfl rfl rfl rfl (fun _ _ => rfl) ?_
      show yP (xg xs) (d + 1) 325 94 [(0, .ref 58), (1, .retAddr 26), (2, .int l2), (3, .int l3), (4, .int l4), (5, .int l5), (6, .int l6)] [.int l4] m1 Q
      exact y_iret rfl rfl rfl H
set_option maxRecDepth 20000 in
/-- CodeMakerModel.among from 95 on -/
theorem w325s6_95 (xs : List Int32) (d : Nat) (l2 : Int32) (l3 : Int32) (l4 : Int32) (l5 : Int32) (m : yM) (Q : Option Value → yM → Prop) (H : (yC (xg xs) d 24 [.retAddr 26, .int l5] m (fun v1 m1 => ∃ u1, v1 = some (Value.int u1) ∧ ((u1 = (32 : Int32) → yP (xg xs) (d + 1) 325 22 [(0, .ref 58), (1, .retAddr 26), (2, .int l2), (3, .int l3), (4, .int (l4 + (1 : Int32))), (5, .int (l5 + (1 : Int32)))] [] m1 Q) ∧ (¬ u1 = (32 : Int32) → yP (xg xs) (d + 1) 325 95 [(0, .ref 58), (1, .retAddr 26), (2, .int l2), (3, .int l3), (4, .int l4), (5, .int (l5 + (1 : Int32)))] [] m1 Q))))) : yP (xg xs) (d + 1) 325 95 [(0, .ref 58), (1, .retAddr 26), (2, .int l2), (3, .int l3), (4, .int l4), (5, .int l5)] [] m Q := by
  refine y_st rfl rfl rfl rfl rfl (fun _ _ => rfl) ?_
  refine y_st rfl rfl rfl rfl rfl (fun _ _ => rfl) ?_
  show yP (xg xs) (d + 1) 325 98 [(0, .ref 58), (1, .retAddr 26), (2, .int l2), (3, .int l3), (4, .int l4), (5, .int l5)] [.int l5, .retAddr 26] m Q
  refine y_call rfl rfl rfl rfl rfl (Nat.le_of_ble_eq_true rfl) (Nat.le_of_ble_eq_true rfl) rfl (by decide) H (fun v1 m1 H => ?_)
  obtain ⟨u1, rfl, H⟩ := H
  refine y_st rfl rfl rfl rfl rfl (fun _ _ => rfl) ?_
  show yP (xg xs) (d + 1) 325 103 [(0, .ref 58), (1, .retAddr 26), (2, .int l2), (3, .int l3), (4, .int l4), (5, .int l5)] [.int (32 : Int32), .int u1] m1 Q
  refine y_ieq (t := 112) rfl rfl rfl (fun h => ?_) (fun h => ?_)
  · replace H := H.1 h; clear h
    refine y_st rfl rfl rfl rfl rfl (fun _ _ => rfl) ?_
    refine y_st rfl rfl rfl rfl rfl (fun _ _ => rfl) ?_
    refine y_st rfl rfl rfl rfl rfl (fun _ _ => rfl) ?_
    show yP (xg xs) (d + 1) 325 22 [(4, .int (l4 + (1 : Int32))), (5, .int (l5 + (1 : Int32))), (0, .ref 58), (1, .retAddr 26), (2, .int l2), (3, .int l3)] [] m1 Q
    refine y_headS (l2 := [(0, .ref 58), (1, .retAddr 26), (2, .int l2), (3, .int l3), (4, .int (l4 + (1 : Int32))), (5, .int (l5 + (1 : Int32)))]) [2, 3, 4, 5, 0, 1] [0, 1, 2, 3, 4, 5] [4, 5, 0, 1, 2, 3] rfl rfl (by decide) rfl (by decide) ?_
    exact H
  · replace H := H.2 h; clear h
    refine y_st rfl rfl rfl rfl rfl (fun _ _ => rfl) ?_
    refine y_st rfl rfl rfl rfl rfl (fun _ _ => rfl) ?_
    show yP (xg xs) (d + 1) 325 95 [(5, .int (l5 + (1 : Int32))), (0, .ref 58), (1, .retAddr 26), (2, .int l2), (3, .int l3), (4, .int l4)] [] m1 Q
    refine y_headS (l2 := [(0, .ref 58), (1, .retAddr 26), (2, .int l2), (3, .int l3), (4, .int l4), (5, .int (l5 + (1 : Int32)))]) [1, 2, 3, 4, 5, 0] [0, 1, 2, 3, 4, 5] [5, 0, 1, 2, 3, 4] rfl rfl (by decide) rfl (by decide) ?_
    exact H
set_option maxRecDepth 20000 in
/-- CodeMakerModel.among from 0 on -/
theorem w325s7_0 (xs : List Int32) (d : Nat) (l2 : Int32) (m : yM) (Q : Option Value → yM → Prop) (H : (x_in (l2 + (1 : Int32)) 8200 = true ∧ (x_in l2 8200 = true ∧ yP (xg xs) (d + 1) 325 22 [(0, .ref 58), (1, .retAddr 27), (2, .int l2), (3, .int ((m.1 61 ((l2 + (1 : Int32)).toNatClampNeg)) - (m.1 61 l2.toNatClampNeg))), (4, .int (0 : Int32)), (5, .int (1 : Int32))] [] m Q))) : yP (xg xs) (d + 1) 325 0 [(0, .ref 58), (1, .retAddr 27), (2, .int l2)] [] m Q := by
  refine y_st rfl rfl rfl rfl rfl (fun _ _ => rfl) ?_
  refine y_gf rfl rfl rfl rfl rfl ?_
  refine y_st rfl rfl rfl rfl rfl (fun _ _ => rfl) ?_
  refine y_st rfl rfl rfl rfl rfl (fun _ _ => rfl) ?_
  refine y_st rfl rfl rfl rfl rfl (fun _ _ => rfl) ?_
  show yP (xg xs) (d + 1) 325 7 [(0, .ref 58), (1, .retAddr 27), (2, .int l2)] [.int (l2 + (1 : Int32)), .ref 61] m Q
  refine y_iald rfl rfl rfl (H.1) ?_
  replace H := H.2
  refine y_st rfl rfl rfl rfl rfl (fun _ _ => rfl) ?_
  refine y_gf rfl rfl rfl rfl rfl ?_
  refine y_st rfl rfl rfl rfl rfl (fun _ _ => rfl) ?_
  show yP (xg xs) (d + 1) 325 13 [(0, .ref 58), (1, .retAddr 27), (2, .int l2)] [.int l2, .ref 61, .int (m.1 61 ((l2 + (1 : Int32)).toNatClampNeg))] m Q
  refine y_iald rfl rfl rfl (H.1) ?_
  replace H := H.2
  refine y_st rfl rfl rfl rfl rfl (fun _ _ => rfl) ?_
  refine y_st rfl rfl rfl rfl rfl (fun _ _ => rfl) ?_
  refine y_st rfl rfl rfl rfl rfl (fun _ _ => rfl) ?_
  refine y_st rfl rfl rfl rfl rfl (fun _ _ => rfl) ?_
  refine y_st rfl rfl rfl rfl rfl (fun _ _ => rfl) ?_
  refine y_st rfl rfl rfl rfl rfl (fun _ _ => rfl) ?_
  show yP (xg xs) (d + 1) 325 22 [(5, .int (1 : Int32)), (4, .int (0 : Int32)), (3, .int ((m.1 61 ((l2 + (1 : Int32)).toNatClampNeg)) - (m.1 61 l2.toNatClampNeg))), (0, .ref 58), (1, .retAddr 27), (2, .int l2)] [] m Q
  refine y_headS (l2 := [(0, .ref 58), (1, .retAddr 27), (2, .int l2), (3, .int ((m.1 61 ((l2 + (1 : Int32)).toNatClampNeg)) - (m.1 61 l2.toNatClampNeg))), (4, .int (0 : Int32)), (5, .int (1 : Int32))]) [3, 4, 5, 2, 1, 0] [0, 1, 2, 3, 4, 5] [5, 4, 3, 0, 1, 2] rfl rfl (by decide) rfl (by decide) ?_
  exact H
set_option maxRecDepth 20000 in
/-- CodeMakerModel.among from 22 on -/
theorem w325s7_22 (xs : List Int32) (d : Nat) (l2 : Int32) (l3 : Int32) (l4 : Int32) (l5 : Int32) (m : yM) (Q : Option Value → yM → Prop) (H : (yC (xg xs) d 22 [.retAddr 27] m (fun v1 m1 => ∃ u1, v1 = some (Value.int u1) ∧ ((u1 ≤ l5 → Q (some (.int ((-1) : Int32))) m1) ∧ (¬ u1 ≤ l5 → yP (xg xs) (d + 1) 325 34 [(0, .ref 58), (1, .retAddr 27), (2, .int l2), (3, .int l3), (4, .int l4), (5, .int l5), (6, .int (0 : Int32))] [] m1 Q))))) : yP (xg xs) (d + 1) 325 22 [(0, .ref 58), (1, .retAddr 27), (2, .int l2), (3, .int l3), (4, .int l4), (5, .int l5)] [] m Q := by
  refine y_st rfl rfl rfl rfl rfl (fun _ _ => rfl) ?_
  refine y_st rfl rfl rfl rfl rfl (fun _ _ => rfl) ?_
  show yP (xg xs) (d + 1) 325 25 [(0, .ref 58), (1, .retAddr 27), (2, .int l2), (3, .int l3), (4, .int l4), (5, .int l5)] [.retAddr 27, .int l5] m Q
  refine y_call rfl rfl rfl rfl rfl (Nat.le_of_ble_eq_true rfl) (Nat.le_of_ble_eq_true rfl) rfl (by decide) H (fun v1 m1 H => ?_)
  obtain ⟨u1, rfl, H⟩ := H
  show yP (xg xs) (d + 1) 325 28 [(0, .ref 58), (1, .retAddr 27), (2, .int l2), (3, .int l3), (4, .int l4), (5, .int l5)] [.int u1, .int l5] m1 Q
  refine y_ige (t := 121) rfl rfl rfl (fun h => ?_) (fun h => ?_)
  · replace H := H.1 h; clear h
    refine y_st rfl rfl rfl rfl rfl (fun _ _ => rfl) ?_
    show yP (xg xs) (d + 1) 325 122 [(0, .ref 58), (1, .retAddr 27), (2, .int l2), (3, .int l3), (4, .int l4), (5, .int l5)] [.int ((-1) : Int32)] m1 Q
    exact y_iret rfl rfl rfl H
  · replace H := H.2 h; clear h
    refine y_st rfl rfl rfl rfl rfl (fun _ _ => rfl) ?_
    refine y_st rfl rfl rfl rfl rfl (fun _ _ => rfl) ?_
    show yP (xg xs) (d + 1) 325 34 [(6, .int (0 : Int32)), (0, .ref 58), (1, .retAddr 27), (2, .int l2), (3, .int l3), (4, .int l4), (5, .int l5)] [] m1 Q
    refine y_headS (l2 := [(0, .ref 58), (1, .retAddr 27), (2, .int l2), (3, .int l3), (4, .int l4), (5, .int l5), (6, .int (0 : Int32))]) [1, 2, 3, 4, 5, 6, 0] [0, 1, 2, 3, 4, 5, 6] [6, 0, 1, 2, 3, 4, 5] rfl rfl (by decide) rfl (by decide) ?_
    exact H
set_option maxRecDepth 20000 in
/-- CodeMakerModel.among from 34 on -/
theorem w325s7_34 (xs : List Int32) (d : Nat) (l2 : Int32) (l3 : Int32) (l4 : Int32) (l5 : Int32) (l6 : Int32) (m : yM) (Q : Option Value → yM → Prop) (H : ((l3 ≤ l6 → yP (xg xs) (d + 1) 325 72 [(0, .ref 58), (1, .retAddr 27), (2, .int l2), (3, .int l3), (4, .int l4), (5, .int l5), (6, .int l6)] [] m Q) ∧ (¬ l3 ≤ l6 → (yC (xg xs) d 24 [.retAddr 27, .int (l5 + l6)] m (fun v1 m1 => ∃ u1, v1 = some (Value.int u1) ∧ (x_in l2 8200 = true ∧ (x_in ((m1.1 61 l2.toNatClampNeg) + l6) 8200 = true ∧ ((¬ u1 = (m1.1 60 (((m1.1 61 l2.toNatClampNeg) + l6).toNatClampNeg)) → yP (xg xs) (d + 1) 325 72 [(0, .ref 58), (1, .retAddr 27), (2, .int l2), (3, .int l3), (4, .int l4), (5, .int l5), (6, .int l6)] [] m1 Q) ∧ (u1 = (m1.1 60 (((m1.1 61 l2.toNatClampNeg) + l6).toNatClampNeg)) → yP (xg xs) (d + 1) 325 34 [(0, .ref 58), (1, .retAddr 27), (2, .int l2), (3, .int l3), (4, .int l4), (5, .int l5), (6, .int (l6 + (1 : Int32)))] [] m1 Q))))))))) : yP (xg xs) (d + 1) 325 34 [(0, .ref 58), (1, .retAddr 27), (2, .int l2), (3, .int l3), (4, .int l4), (5, .int l5), (6, .int l6)] [] m Q := by
  refine y_st rfl rfl rfl rfl rfl (fun _ _ => rfl) ?_
  refine y_st rfl rfl rfl rfl rfl (fun _ _ => rfl) ?_
  show yP (xg xs) (d + 1) 325 37 [(0, .ref 58), (1, .retAddr 27), (2, .int l2), (3, .int l3), (4, .int l4), (5, .int l5), (6, .int l6)] [.int l3, .int l6] m Q
  refine y_ige (t := 72) rfl rfl rfl (fun h => ?_) (fun h => ?_)
  · replace H := H.1 h; clear h
    show yP (xg xs) (d + 1) 325 72 [(0, .ref 58), (1, .retAddr 27), (2, .int l2), (3, .int l3), (4, .int l4), (5, .int l5), (6, .int l6)] [] m Q
    exact H
  · replace H := H.2 h; clear h
    refine y_st rfl rfl rfl rfl rfl (fun _ _ => rfl) ?_
    refine y_st rfl rfl rfl rfl rfl (fun _ _ => rfl) ?_
    refine y_st rfl rfl rfl rfl rfl (fun _ _ => rfl) ?_
    refine y_st rfl rfl rfl rfl rfl (fun _ _ => rfl) ?_
    show yP (xg xs) (d + 1) 325 46 [(0, .ref 58), (1, .retAddr 27), (2, .int l2), (3, .int l3), (4, .int l4), (5, .int l5), (6, .int l6)] [.int (l5 + l6), .retAddr 27] m Q
    refine y_call rfl rfl rfl rfl rfl (Nat.le_of_ble_eq_true rfl) (Nat.le_of_ble_eq_true rfl) rfl (by decide) H (fun v1 m1 H => ?_)
    obtain ⟨u1, rfl, H⟩ := H
    refine y_st rfl rfl rfl rfl rfl (fun _ _ => rfl) ?_
    refine y_gf rfl rfl rfl rfl rfl ?_
    refine y_st rfl rfl rfl rfl rfl (fun _ _ => rfl) ?_
    refine y_gf rfl rfl rfl rfl rfl ?_
    refine y_st rfl rfl rfl rfl rfl (fun _ _ => rfl) ?_
    show yP (xg xs) (d + 1) 325 58 [(0, .ref 58), (1, .retAddr 27), (2, .int l2), (3, .int l3), (4, .int l4), (5, .int l5), (6, .int l6)] [.int l2, .ref 61, .ref 60, .int u1] m1 Q
    refine y_iald rfl rfl rfl (H.1) ?_
    replace H := H.2
    refine y_st rfl rfl rfl rfl rfl (fun _ _ => rfl) ?_
    refine y_st rfl rfl rfl rfl rfl (fun _ _ => rfl) ?_
    show yP (xg xs) (d + 1) 325 62 [(0, .ref 58), (1, .retAddr 27), (2, .int l2), (3, .int l3), (4, .int l4), (5, .int l5), (6, .int l6)] [.int ((m1.1 61 l2.toNatClampNeg) + l6), .ref 60, .int u1] m1 Q
    refine y_bald rfl rfl rfl (by decide) (H.1) ?_
    replace H := H.2
    show yP (xg xs) (d + 1) 325 63 [(0, .ref 58), (1, .retAddr 27), (2, .int l2), (3, .int l3), (4, .int l4), (5, .int l5), (6, .int l6)] [.int (m1.1 60 (((m1.1 61 l2.toNatClampNeg) + l6).toNatClampNeg)), .int u1] m1 Q
    refine y_ine (t := 72) rfl rfl rfl (fun h => ?_) (fun h => ?_)
    · replace H := H.1 h; clear h
      show yP (xg xs) (d + 1) 325 72 [(0, .ref 58), (1, .retAddr 27), (2, .int l2), (3, .int l3), (4, .int l4), (5, .int l5), (6, .int l6)] [] m1 Q
      exact H
    · replace H := H.2 h; clear h
      refine y_st rfl rfl rfl rfl rfl (fun _ _ => rfl) ?_
      refine y_st rfl rfl rfl rfl rfl (fun _ _ => rfl) ?_
      show yP (xg xs) (d + 1) 325 34 [(6, .int (l6 + (1 : Int32))), (0, .ref 58), (1, .retAddr 27), (2, .int l2), (3, .int l3), (4, .int l4), (5, .int l5)] [] m1 Q
      refine y_headS (l2 := [(0, .ref 58), (1, .retAddr 27), (2, .int l2), (3, .int l3), (4, .int l4), (5, .int l5), (6, .int (l6 + (1 : Int32)))]) [1, 2, 3, 4, 5, 6, 0] [0, 1, 2, 3, 4, 5, 6] [6, 0, 1, 2, 3, 4, 5] rfl rfl (by decide) rfl (by decide) ?_
      exact H
set_option maxRecDepth 20000 in
/-- CodeMakerModel.among from 72 on -/
theorem w325s7_72 (xs : List Int32) (d : Nat) (l2 : Int32) (l3 : Int32) (l4 : Int32) (l5 : Int32) (l6 : Int32) (m : yM) (Q : Option Value → yM → Prop) (H : ((¬ l6 = l3 → yP (xg xs) (d + 1) 325 95 [(0, .ref 58), (1, .retAddr 27), (2, .int l2), (3, .int l3), (4, .int l4), (5, .int l5)] [] m Q) ∧ (l6 = l3 → (yC (xg xs) d 24 [.retAddr 27, .int (l5 + l6)] m (fun v1 m1 => ∃ u1, v1 = some (Value.int u1) ∧ ((¬ u1 = (32 : Int32) → yP (xg xs) (d + 1) 325 95 [(0, .ref 58), (1, .retAddr 27), (2, .int l2), (3, .int l3), (4, .int l4), (5, .int l5)] [] m1 Q) ∧ (u1 = (32 : Int32) → Q (some (.int l4)) m1))))))) : yP (xg xs) (d + 1) 325 72 [(0, .ref 58), (1, .retAddr 27), (2, .int l2), (3, .int l3), (4, .int l4), (5, .int l5), (6, .int l6)] [] m Q := by
  refine y_st rfl rfl rfl rfl rfl (fun _ _ => rfl) ?_
  refine y_st rfl rfl rfl rfl rfl (fun _ _ => rfl) ?_
  show yP (xg xs) (d + 1) 325 75 [(0, .ref 58), (1, .retAddr 27), (2, .int l2), (3, .int l3), (4, .int l4), (5, .int l5), (6, .int l6)] [.int l3, .int l6] m Q
  refine y_ine (t := 95) rfl rfl rfl (fun h => ?_) (fun h => ?_)
  · replace H := H.1 h; clear h
    show yP (xg xs) (d + 1) 325 95 [(0, .ref 58), (1, .retAddr 27), (2, .int l2), (3, .int l3), (4, .int l4), (5, .int l5), (6, .int l6)] [] m Q
    refine y_headS (l2 := [(0, .ref 58), (1, .retAddr 27), (2, .int l2), (3, .int l3), (4, .int l4), (5, .int l5)]) [0, 1, 2, 3, 4, 5] [0, 1, 2, 3, 4, 5] [0, 1, 2, 3, 4, 5, 6] rfl rfl (by decide) rfl (by decide) ?_
    exact H
  · replace H := H.2 h; clear h
    refine y_st rfl rfl rfl rfl rfl (fun _ _ => rfl) ?_
    refine y_st rfl rfl rfl rfl rfl (fun _ _ => rfl) ?_
    refine y_st rfl rfl rfl rfl rfl (fun _ _ => rfl) ?_
    refine y_st rfl rfl rfl rfl rfl (fun _ _ => rfl) ?_
    show yP (xg xs) (d + 1) 325 84 [(0, .ref 58), (1, .retAddr 27), (2, .int l2), (3, .int l3), (4, .int l4), (5, .int l5), (6, .int l6)] [.int (l5 + l6), .retAddr 27] m Q
    refine y_call rfl rfl rfl rfl rfl (Nat.le_of_ble_eq_true rfl) (Nat.le_of_ble_eq_true rfl) rfl (by decide) H (fun v1 m1 H => ?_)
    obtain ⟨u1, rfl, H⟩ := H
    refine y_st rfl rfl rfl rfl rfl (fun _ _ => rfl) ?_
    show yP (xg xs) (d + 1) 325 89 [(0, .ref 58), (1, .retAddr 27), (2, .int l2), (3, .int l3), (4, .int l4), (5, .int l5), (6, .int l6)] [.int (32 : Int32), .int u1] m1 Q
    refine y_ine (t := 95) rfl rfl rfl (fun h => ?_) (fun h => ?_)
    · replace H := H.1 h; clear h
      show yP (xg xs) (d + 1) 325 95 [(0, .ref 58), (1, .retAddr 27), (2, .int l2), (3, .int l3), (4, .int l4), (5, .int l5), (6, .int l6)] [] m1 Q
      refine y_headS (l2 := [(0, .ref 58), (1, .retAddr 27), (2, .int l2), (3, .int l3), (4, .int l4), (5, .int l5)]) [0, 1, 2, 3, 4, 5] [0, 1, 2, 3, 4, 5] [0, 1, 2, 3, 4, 5, 6] rfl rfl (by decide) rfl (by decide) ?_
      exact H
    · replace H := H.2 h; clear h
      refine y_st rfl rfl rfl rfl rfl (fun _ _ => rfl) ?_
      show yP (xg xs) (d + 1) 325 94 [(0, .ref 58), (1, .retAddr 27), (2, .int l2), (3, .int l3), (4, .int l4), (5, .int l5), (6, .int l6)] [.int l4] m1 Q
      exact y_iret rfl rfl rfl H
set_option maxRecDepth 20000 in
/-- CodeMakerModel.among from 95 on -/
theorem w325s7_95 (xs : List Int32) (d : Nat) (l2 : Int32) (l3 : Int32) (l4 : Int32) (l5 : Int32) (m : yM) (Q : Option Value → yM → Prop) (H : (yC (xg xs) d 24 [.retAddr 27, .int l5] m (fun v1 m1 => ∃ u1, v1 = some (Value.int u1) ∧ ((u1 = (32 : Int32) → yP (xg xs) (d + 1) 325 22 [(0, .ref 58), (1, .retAddr 27), (2, .int l2), (3, .int l3), (4, .int (l4 + (1 : Int32))), (5, .int (l5 + (1 : Int32)))] [] m1 Q) ∧ (¬ u1 = (32 : Int32) → yP (xg xs) (d + 1) 325 95 [(0, .ref 58), (1, .retAddr 27), (2, .int l2), (3, .int l3), (4, .int l4), (5, .int (l5 + (1 : Int32)))] [] m1 Q))))) : yP (xg xs) (d + 1) 325 95 [(0, .ref 58), (1, .retAddr 27), (2, .int l2), (3, .int l3), (4, .int l4), (5, .int l5)] [] m Q := by
  refine y_st rfl rfl rfl rfl rfl (fun _ _ => rfl) ?_
  refine y_st rfl rfl rfl rfl rfl (fun _ _ => rfl) ?_
  show yP (xg xs) (d + 1) 325 98 [(0, .ref 58), (1, .retAddr 27), (2, .int l2), (3, .int l3), (4, .int l4), (5, .int l5)] [.int l5, .retAddr 27] m Q
  refine y_call rfl rfl rfl rfl rfl (Nat.le_of_ble_eq_true rfl) (Nat.le_of_ble_eq_true rfl) rfl (by decide) H (fun v1 m1 H => ?_)
  obtain ⟨u1, rfl, H⟩ := H
  refine y_st rfl rfl rfl rfl rfl (fun _ _ => rfl) ?_
  show yP (xg xs) (d + 1) 325 103 [(0, .ref 58), (1, .retAddr 27), (2, .int l2), (3, .int l3), (4, .int l4), (5, .int l5)] [.int (32 : Int32), .int u1] m1 Q
  refine y_ieq (t := 112) rfl rfl rfl (fun h => ?_) (fun h => ?_)
  · replace H := H.1 h; clear h
    refine y_st rfl rfl rfl rfl rfl (fun _ _ => rfl) ?_
    refine y_st rfl rfl rfl rfl rfl (fun _ _ => rfl) ?_
    refine y_st rfl rfl rfl rfl rfl (fun _ _ => rfl) ?_
    show yP (xg xs) (d + 1) 325 22 [(4, .int (l4 + (1 : Int32))), (5, .int (l5 + (1 : Int32))), (0, .ref 58), (1, .retAddr 27), (2, .int l2), (3, .int l3)] [] m1 Q
    refine y_headS (l2 := [(0, .ref 58), (1, .retAddr 27), (2, .int l2), (3, .int l3), (4, .int (l4 + (1 : Int32))), (5, .int (l5 + (1 : Int32)))]) [2, 3, 4, 5, 0, 1] [0, 1, 2, 3, 4, 5] [4, 5, 0, 1, 2, 3] rfl rfl (by decide) rfl (by decide) ?_
    exact H
  · replace H := H.2 h; clear h
    refine y_st rfl rfl rfl rfl rfl (fun _ _ => rfl) ?_
    refine y_st rfl rfl rfl rfl rfl (fun _ _ => rfl) ?_
    show yP (xg xs) (d + 1) 325 95 [(5, .int (l5 + (1 : Int32))), (0, .ref 58), (1, .retAddr 27), (2, .int l2), (3, .int l3), (4, .int l4)] [] m1 Q
    refine y_headS (l2 := [(0, .ref 58), (1, .retAddr 27), (2, .int l2), (3, .int l3), (4, .int l4), (5, .int (l5 + (1 : Int32)))]) [1, 2, 3, 4, 5, 0] [0, 1, 2, 3, 4, 5] [5, 0, 1, 2, 3, 4] rfl rfl (by decide) rfl (by decide) ?_
    exact H
set_option maxRecDepth 20000 in
/-- CodeMakerModel.among from 0 on -/
theorem w325s8_0 (xs : List Int32) (d : Nat) (l2 : Int32) (m : yM) (Q : Option Value → yM → Prop) (H : (x_in (l2 + (1 : Int32)) 8200 = true ∧ (x_in l2 8200 = true ∧ yP (xg xs) (d + 1) 325 22 [(0, .ref 58), (1, .retAddr 28), (2, .int l2), (3, .int ((m.1 61 ((l2 + (1 : Int32)).toNatClampNeg)) - (m.1 61 l2.toNatClampNeg))), (4, .int (0 : Int32)), (5, .int (1 : Int32))] [] m Q))) : yP (xg xs) (d + 1) 325 0 [(0, .ref 58), (1, .retAddr 28), (2, .int l2)] [] m Q := by
  refine y_st rfl rfl rfl rfl rfl (fun _ _ => rfl) ?_
  refine y_gf rfl rfl rfl rfl rfl ?_
  refine y_st rfl rfl rfl rfl rfl (fun _ _ => rfl) ?_
  refine y_st rfl rfl rfl rfl rfl (fun _ _ => rfl) ?_
  refine y_st rfl rfl rfl rfl rfl (fun _ _ => rfl) ?_
  show yP (xg xs) (d + 1) 325 7 [(0, .ref 58), (1, .retAddr 28), (2, .int l2)] [.int (l2 + (1 : Int32)), .ref 61] m Q
  refine y_iald rfl rfl rfl (H.1) ?_
  replace H := H.2
  refine y_st rfl rfl rfl rfl rfl (fun _ _ => rfl) ?_
  refine y_gf rfl rfl rfl rfl rfl ?_
  refine y_st rfl rfl rfl rfl rfl (fun _ _ => rfl) ?_
  show yP (xg xs) (d + 1) 325 13 [(0, .ref 58), (1, .retAddr 28), (2, .int l2)] [.int l2, .ref 61, .int (m.1 61 ((l2 + (1 : Int32)).toNatClampNeg))] m Q
  refine y_iald rfl rfl rfl (H.1) ?_
  replace H := H.2
  refine y_st rfl rfl rfl rfl rfl (fun _ _ => rfl) ?_
  refine y_st rfl rfl rfl rfl rfl (fun _ _ => rfl) ?_
  refine y_st rfl rfl rfl rfl rfl (fun _ _ => rfl) ?_
  refine y_st rfl rfl rfl rfl rfl (fun _ _ => rfl) ?_
  refine y_st rfl rfl rfl rfl rfl (fun _ _ => rfl) ?_
  refine y_st rfl rfl rfl rfl rfl (fun _ _ => rfl) ?_
  show yP (xg xs) (d + 1) 325 22 [(5, .int (1 : Int32)), (4, .int (0 : Int32)), (3, .int ((m.1 61 ((l2 + (1 : Int32)).toNatClampNeg)) - (m.1 61 l2.toNatClampNeg))), (0, .ref 58), (1, .retAddr 28), (2, .int l2)] [] m Q
  refine y_headS (l2 := [(0, .ref 58), (1, .retAddr 28), (2, .int l2), (3, .int ((m.1 61 ((l2 + (1 : Int32)).toNatClampNeg)) - (m.1 61 l2.toNatClampNeg))), (4, .int (0 : Int32)), (5, .int (1 : Int32))]) [3, 4, 5, 2, 1, 0] [0, 1, 2, 3, 4, 5] [5, 4, 3, 0, 1, 2] rfl rfl (by decide) rfl (by decide) ?_
  exact H
set_option maxRecDepth 20000 in
/-- CodeMakerModel.among from 22 on -/
theorem w325s8_22 (xs : List Int32) (d : Nat) (l2 : Int32) (l3 : Int32) (l4 : Int32) (l5 : Int32) (m : yM) (Q : Option Value → yM → Prop) (H : (yC (xg xs) d 22 [.retAddr 28] m (fun v1 m1 => ∃ u1, v1 = some (Value.int u1) ∧ ((u1 ≤ l5 → Q (some (.int ((-1) : Int32))) m1) ∧ (¬ u1 ≤ l5 → yP (xg xs) (d + 1) 325 34 [(0, .ref 58), (1, .retAddr 28), (2, .int l2), (3, .int l3), (4, .int l4), (5, .int l5), (6, .int (0 : Int32))] [] m1 Q))))) : yP (xg xs) (d + 1) 325 22 [(0, .ref 58), (1, .retAddr 28), (2, .int l2), (3, .int l3), (4, .int l4), (5, .int l5)] [] m Q := by
  refine y_st rfl rfl rfl rfl rfl (fun _ _ => rfl) ?_
  refine y_st rfl rfl rfl rfl rfl (fun _ _ => rfl) ?_
  show yP (xg xs) (d + 1) 325 25 [(0, .ref 58), (1, .retAddr 28), (2, .int l2), (3, .int l3), (4, .int l4), (5, .int l5)] [.retAddr 28, .int l5] m Q
  refine y_call rfl rfl rfl rfl rfl (Nat.le_of_ble_eq_true rfl) (Nat.le_of_ble_eq_true rfl) rfl (by decide) H (fun v1 m1 H => ?_)
  obtain ⟨u1, rfl, H⟩ := H
  show yP (xg xs) (d + 1) 325 28 [(0, .ref 58), (1, .retAddr 28), (2, .int l2), (3, .int l3), (4, .int l4), (5, .int l5)] [.int u1, .int l5] m1 Q
  refine y_ige (t := 121) rfl rfl rfl (fun h => ?_) (fun h => ?_)
  · replace H := H.1 h; clear h
    refine y_st rfl rfl rfl rfl rfl (fun _ _ => rfl) ?_
    show yP (xg xs) (d + 1) 325 122 [(0, .ref 58), (1, .retAddr 28), (2, .int l2), (3, .int l3), (4, .int l4), (5, .int l5)] [.int ((-1) : Int32)] m1 Q
    exact y_iret rfl rfl rfl H
  · replace H := H.2 h; clear h
    refine y_st rfl rfl rfl rfl rfl (fun _ _ => rfl) ?_
    refine y_st rfl rfl rfl rfl rfl (fun _ _ => rfl) ?_
    show yP (xg xs) (d + 1) 325 34 [(6, .int (0 : Int32)), (0, .ref 58), (1, .retAddr 28), (2, .int l2), (3, .int l3), (4, .int l4), (5, .int l5)] [] m1 Q
    refine y_headS (l2 := [(0, .ref 58), (1, .retAddr 28), (2, .int l2), (3, .int l3), (4, .int l4), (5, .int l5), (6, .int (0 : Int32))]) [1, 2, 3, 4, 5, 6, 0] [0, 1, 2, 3, 4, 5, 6] [6, 0, 1, 2, 3, 4, 5] rfl rfl (by decide) rfl (by decide) ?_
    exact H
set_option maxRecDepth 20000 in
/-- CodeMakerModel.among from 34 on -/
theorem w325s8_34 (xs : List Int32) (d : Nat) (l2 : Int32) (l3 : Int32) (l4 : Int32) (l5 : Int32) (l6 : Int32) (m : yM) (Q : Option Value → yM → Prop) (H : ((l3 ≤ l6 → yP (xg xs) (d + 1) 325 72 [(0, .ref 58), (1, .retAddr 28), (2, .int l2), (3, .int l3), (4, .int l4), (5, .int l5), (6, .int l6)] [] m Q) ∧ (¬ l3 ≤ l6 → (yC (xg xs) d 24 [.retAddr 28, .int (l5 + l6)] m (fun v1 m1 => ∃ u1, v1 = some (Value.int u1) ∧ (x_in l2 8200 = true ∧ (x_in ((m1.1 61 l2.toNatClampNeg) + l6) 8200 = true ∧ ((¬ u1 = (m1.1 60 (((m1.1 61 l2.toNatClampNeg) + l6).toNatClampNeg)) → yP (xg xs) (d + 1) 325 72 [(0, .ref 58), (1, .retAddr 28), (2, .int l2), (3, .int l3), (4, .int l4), (5, .int l5), (6, .int l6)] [] m1 Q) ∧ (u1 = (m1.1 60 (((m1.1 61 l2.toNatClampNeg) + l6).toNatClampNeg)) → yP (xg xs) (d + 1) 325 34 [(0, .ref 58), (1, .retAddr 28), (2, .int l2), (3, .int l3), (4, .int l4), (5, .int l5), (6, .int (l6 + (1 : Int32)))] [] m1 Q))))))))) : yP (xg xs) (d + 1) 325 34 [(0, .ref 58), (1, .retAddr 28), (2, .int l2), (3, .int l3), (4, .int l4), (5, .int l5), (6, .int l6)] [] m Q := by
  refine y_st rfl rfl rfl rfl rfl (fun _ _ => rfl) ?_
  refine y_st rfl rfl rfl rfl rfl (fun _ _ => rfl) ?_
  show yP (xg xs) (d + 1) 325 37 [(0, .ref 58), (1, .retAddr 28), (2, .int l2), (3, .int l3), (4, .int l4), (5, .int l5), (6, .int l6)] [.int l3, .int l6] m Q
  refine y_ige (t := 72) rfl rfl rfl (fun h => ?_) (fun h => ?_)
  · replace H := H.1 h; clear h
    show yP (xg xs) (d + 1) 325 72 [(0, .ref 58), (1, .retAddr 28), (2, .int l2), (3, .int l3), (4, .int l4), (5, .int l5), (6, .int l6)] [] m Q
    exact H
  · replace H := H.2 h; clear h
    refine y_st rfl rfl rfl rfl rfl (fun _ _ => rfl) ?_
    refine y_st rfl rfl rfl rfl rfl (fun _ _ => rfl) ?_
    refine y_st rfl rfl rfl rfl rfl (fun _ _ => rfl) ?_
    refine y_st rfl rfl rfl rfl rfl (fun _ _ => rfl) ?_
    show yP (xg xs) (d + 1) 325 46 [(0, .ref 58), (1, .retAddr 28), (2, .int l2), (3, .int l3), (4, .int l4), (5, .int l5), (6, .int l6)] [.int (l5 + l6), .retAddr 28] m Q
    refine y_call rfl rfl rfl rfl rfl (Nat.le_of_ble_eq_true rfl) (Nat.le_of_ble_eq_true rfl) rfl (by decide) H (fun v1 m1 H => ?_)
    obtain ⟨u1, rfl, H⟩ := H
    refine y_st rfl rfl rfl rfl rfl (fun _ _ => rfl) ?_
    refine y_gf rfl rfl rfl rfl rfl ?_
    refine y_st rfl rfl rfl rfl rfl (fun _ _ => rfl) ?_
    refine y_gf rfl rfl rfl rfl rfl ?_
    refine y_st rfl rfl rfl rfl rfl (fun _ _ => rfl) ?_
    show yP (xg xs) (d + 1) 325 58 [(0, .ref 58), (1, .retAddr 28), (2, .int l2), (3, .int l3), (4, .int l4), (5, .int l5), (6, .int l6)] [.int l2, .ref 61, .ref 60, .int u1] m1 Q
    refine y_iald rfl rfl rfl (H.1) ?_
    replace H := H.2
    refine y_st rfl rfl rfl rfl rfl (fun _ _ => rfl) ?_
    refine y_st rfl rfl rfl rfl rfl (fun _ _ => rfl) ?_
    show yP (xg xs) (d + 1) 325 62 [(0, .ref 58), (1, .retAddr 28), (2, .int l2), (3, .int l3), (4, .int l4), (5, .int l5), (6, .int l6)] [.int ((m1.1 61 l2.toNatClampNeg) + l6), .ref 60, .int u1] m1 Q
    refine y_bald rfl rfl rfl (by decide) (H.1) ?_
    replace H := H.2
    show yP (xg xs) (d + 1) 325 63 [(0, .ref 58), (1, .retAddr 28), (2, .int l2), (3, .int l3), (4, .int l4), (5, .int l5), (6, .int l6)] [.int (m1.1 60 (((m1.1 61 l2.toNatClampNeg) + l6).toNatClampNeg)), .int u1] m1 Q
    refine y_ine (t := 72) rfl rfl rfl (fun h => ?_) (fun h => ?_)
    · replace H := H.1 h; clear h
      show yP (xg xs) (d + 1) 325 72 [(0, .ref 58), (1, .retAddr 28), (2, .int l2), (3, .int l3), (4, .int l4), (5, .int l5), (6, .int l6)] [] m1 Q
      exact H
    · replace H := H.2 h; clear h
      refine y_st rfl rfl rfl rfl rfl (fun _ _ => rfl) ?_
      refine y_st rfl rfl rfl rfl rfl (fun _ _ => rfl) ?_
      show yP (xg xs) (d + 1) 325 34 [(6, .int (l6 + (1 : Int32))), (0, .ref 58), (1, .retAddr 28), (2, .int l2), (3, .int l3), (4, .int l4), (5, .int l5)] [] m1 Q
      refine y_headS (l2 := [(0, .ref 58), (1, .retAddr 28), (2, .int l2), (3, .int l3), (4, .int l4), (5, .int l5), (6, .int (l6 + (1 : Int32)))]) [1, 2, 3, 4, 5, 6, 0] [0, 1, 2, 3, 4, 5, 6] [6, 0, 1, 2, 3, 4, 5] rfl rfl (by decide) rfl (by decide) ?_
      exact H
set_option maxRecDepth 20000 in
/-- CodeMakerModel.among from 72 on -/
theorem w325s8_72 (xs : List Int32) (d : Nat) (l2 : Int32) (l3 : Int32) (l4 : Int32) (l5 : Int32) (l6 : Int32) (m : yM) (Q : Option Value → yM → Prop) (H : ((¬ l6 = l3 → yP (xg xs) (d + 1) 325 95 [(0, .ref 58), (1, .retAddr 28), (2, .int l2), (3, .int l3), (4, .int l4), (5, .int l5)] [] m Q) ∧ (l6 = l3 → (yC (xg xs) d 24 [.retAddr 28, .int (l5 + l6)] m (fun v1 m1 => ∃ u1, v1 = some (Value.int u1) ∧ ((¬ u1 = (32 : Int32) → yP (xg xs) (d + 1) 325 95 [(0, .ref 58), (1, .retAddr 28), (2, .int l2), (3, .int l3), (4, .int l4), (5, .int l5)] [] m1 Q) ∧ (u1 = (32 : Int32) → Q (some (.int l4)) m1))))))) : yP (xg xs) (d + 1) 325 72 [(0, .ref 58), (1, .retAddr 28), (2, .int l2), (3, .int l3), (4, .int l4), (5, .int l5), (6, .int l6)] [] m Q := by
  refine y_st rfl rfl rfl rfl rfl (fun _ _ => rfl) ?_
  refine y_st rfl rfl rfl rfl rfl (fun _ _ => rfl) ?_
  show yP (xg xs) (d + 1) 325 75 [(0, .ref 58), (1, .retAddr 28), (2, .int l2), (3, .int l3), (4, .int l4), (5, .int l5), (6, .int l6)] [.int l3, .int l6] m Q
  refine y_ine (t := 95) rfl rfl rfl (fun h => ?_) (fun h => ?_)
  · replace H := H.1 h; clear h
    show yP (xg xs) (d + 1) 325 95 [(0, .ref 58), (1, .retAddr 28), (2, .int l2), (3, .int l3), (4, .int l4), (5, .int l5), (6, .int l6)] [] m Q
    refine y_headS (l2 := [(0, .ref 58), (1, .retAddr 28), (2, .int l2), (3, .int l3), (4, .int l4), (5, .int l5)]) [0, 1, 2, 3, 4, 5] [0, 1, 2, 3, 4, 5] [0, 1, 2, 3, 4, 5, 6] rfl rfl (by decide) rfl (by decide) ?_
    exact H
  · replace H := H.2 h; clear h
    refine y_st rfl rfl rfl rfl rfl (fun _ _ => rfl) ?_
    refine y_st rfl rfl rfl rfl rfl (fun _ _ => rfl) ?_
    refine y_st rfl rfl rfl rfl rfl (fun _ _ => rfl) ?_
    refine y_st rfl rfl rfl rfl rfl (fun _ _ => rfl) ?_
    show yP (xg xs) (d + 1) 325 84 [(0, .ref 58), (1, .retAddr 28), (2, .int l2), (3, .int l3), (4, .int l4), (5, .int l5), (6, .int l6)] [.int (l5 + l6), .retAddr 28] m Q
    refine y_call rfl rfl rfl rfl rfl (Nat.le_of_ble_eq_true rfl) (Nat.le_of_ble_eq_true rfl) rfl (by decide) H (fun v1 m1 H => ?_)
    obtain ⟨u1, rfl, H⟩ := H
    refine y_st rfl rfl rfl rfl rfl (fun _ _ => rfl) ?_
    show yP (xg xs) (d + 1) 325 89 [(0, .ref 58), (1, .retAddr 28), (2, .int l2), (3, .int l3), (4, .int l4), (5, .int l5), (6, .int l6)] [.int (32 : Int32), .int u1] m1 Q
    refine y_ine (t := 95) rfl rfl rfl (fun h => ?_) (fun h => ?_)
    · replace H := H.1 h; clear h
      show yP (xg xs) (d + 1) 325 95 [(0, .ref 58), (1, .retAddr 28), (2, .int l2), (3, .int l3), (4, .int l4), (5, .int l5), (6, .int l6)] [] m1 Q
      refine y_headS (l2 := [(0, .ref 58), (1, .retAddr 28), (2, .int l2), (3, .int l3), (4, .int l4), (5, .int l5)]) [0, 1, 2, 3, 4, 5] [0, 1, 2, 3, 4, 5] [0, 1, 2, 3, 4, 5, 6] rfl rfl (by decide) rfl (by decide) ?_
      exact H
    · replace H := H.2 h; clear h
      refine y_st rfl rfl rfl rfl rfl (fun _ _ => rfl) ?_
      show yP (xg xs) (d + 1) 325 94 [(0, .ref 58), (1, .retAddr 28), (2, .int l2), (3, .int l3), (4, .int l4), (5, .int l5), (6, .int l6)] [.int l4] m1 Q
      exact y_iret rfl rfl rfl H
set_option maxRecDepth 20000 in
/-- CodeMakerModel.among from 95 on -/
theorem w325s8_95 (xs : List Int32) (d : Nat) (l2 : Int32) (l3 : Int32) (l4 : Int32) (l5 : Int32) (m : yM) (Q : Option Value → yM → Prop) (H : (yC (xg xs) d 24 [.retAddr 28, .int l5] m (fun v1 m1 => ∃ u1, v1 = some (Value.int u1) ∧ ((u1 = (32 : Int32) → yP (xg xs) (d + 1) 325 22 [(0, .ref 58), (1, .retAddr 28), (2, .int l2), (3, .int l3), (4, .int (l4 + (1 : Int32))), (5, .int (l5 + (1 : Int32)))] [] m1 Q) ∧ (¬ u1 = (32 : Int32) → yP (xg xs) (d + 1) 325 95 [(0, .ref 58), (1, .retAddr 28), (2, .int l2), (3, .int l3), (4, .int l4), (5, .int (l5 + (1 : Int32)))] [] m1 Q))))) : yP (xg xs) (d + 1) 325 95 [(0, .ref 58), (1, .retAddr 28), (2, .int l2), (3, .int l3), (4, .int l4), (5, .int l5)] [] m Q := by
  refine y_st rfl rfl rfl rfl rfl (fun _ _ => rfl) ?_
  refine y_st rfl rfl rfl rfl rfl (fun _ _ => rfl) ?_
  show yP (xg xs) (d + 1) 325 98 [(0, .ref 58), (1, .retAddr 28), (2, .int l2), (3, .int l3), (4, .int l4), (5, .int l5)] [.int l5, .retAddr 28] m Q
  refine y_call rfl rfl rfl rfl rfl (Nat.le_of_ble_eq_true rfl) (Nat.le_of_ble_eq_true rfl) rfl (by decide) H (fun v1 m1 H => ?_)
  obtain ⟨u1, rfl, H⟩ := H
  refine y_st rfl rfl rfl rfl rfl (fun _ _ => rfl) ?_
  show yP (xg xs) (d + 1) 325 103 [(0, .ref 58), (1, .retAddr 28), (2, .int l2), (3, .int l3), (4, .int l4), (5, .int l5)] [.int (32 : Int32), .int u1] m1 Q
  refine y_ieq (t := 112) rfl rfl rfl (fun h => ?_) (fun h => ?_)
  · replace H := H.1 h; clear h
    refine y_st rfl rfl rfl rfl rfl (fun _ _ => rfl) ?_
    refine y_st rfl rfl rfl rfl rfl (fun _ _ => rfl) ?_
    refine y_st rfl rfl rfl rfl rfl (fun _ _ => rfl) ?_
    show yP (xg xs) (d + 1) 325 22 [(4, .int (l4 + (1 : Int32))), (5, .int (l5 + (1 : Int32))), (0, .ref 58), (1, .retAddr 28), (2, .int l2), (3, .int l3)] [] m1 Q
    refine y_headS (l2 := [(0, .ref 58), (1, .retAddr 28), (2, .int l2), (3, .int l3), (4, .int (l4 + (1 : Int32))), (5, .int (l5 + (1 : Int32)))]) [2, 3, 4, 5, 0, 1] [0, 1, 2, 3, 4, 5] [4, 5, 0, 1, 2, 3] rfl rfl (by decide) rfl (by decide) ?_
    exact H
  · replace H := H.2 h; clear h
    refine y_st rfl rfl rfl rfl rfl (fun _ _ => rfl) ?_
    refine y_st rfl rfl rfl rfl rfl (fun _ _ => rfl) ?_
    show yP (xg xs) (d + 1) 325 95 [(5, .int (l5 + (1 : Int32))), (0, .ref 58), (1, .retAddr 28), (2, .int l2), (3, .int l3), (4, .int l4)] [] m1 Q
    refine y_headS (l2 := [(0, .ref 58), (1, .retAddr 28), (2, .int l2), (3, .int l3), (4, .int l4), (5, .int (l5 + (1 : Int32)))]) [1, 2, 3, 4, 5, 0] [0, 1, 2, 3, 4, 5] [5, 0, 1, 2, 3, 4] rfl rfl (by decide) rfl (by decide) ?_
    exact H
set_option maxRecDepth 20000 in
/-- CodeMakerModel.among from 0 on -/
theorem w325s9_0 (xs : List Int32) (d : Nat) (l2 : Int32) (m : yM) (Q : Option Value → yM → Prop) (H : (x_in (l2 + (1 : Int32)) 8200 = true ∧ (x_in l2 8200 = true ∧ yP (xg xs) (d + 1) 325 22 [(0, .ref 58), (1, .retAddr 29), (2, .int l2), (3, .int ((m.1 61 ((l2 + (1 : Int32)).toNatClampNeg)) - (m.1 61 l2.toNatClampNeg))), (4, .int (0 : Int32)), (5, .int (1 : Int32))] [] m Q))) : yP (xg xs) (d + 1) 325 0 [(0, .ref 58), (1, .retAddr 29), (2, .int l2)] [] m Q := by
  refine y_st rfl rfl rfl rfl rfl (fun _ _ => rfl) ?_
  refine y_gf rfl rfl rfl rfl rfl ?_
  refine y_st rfl rfl rfl rfl rfl (fun _ _ => rfl) ?_
  refine y_st rfl rfl rfl rfl rfl (fun _ _ => rfl) ?_
  refine y_st rfl rfl rfl rfl rfl (fun _ _ => rfl) ?_
  show yP (xg xs) (d + 1) 325 7 [(0, .ref 58), (1, .retAddr 29), (2, .int l2)] [.int (l2 + (1 : Int32)), .ref 61] m Q
  refine y_iald rfl rfl rfl (H.1) ?_
  replace H := H.2
  refine y_st rfl rfl rfl rfl rfl (fun _ _ => rfl) ?_
  refine y_gf rfl rfl rfl rfl rfl ?_
  refine y_st rfl rfl rfl rfl rfl (fun _ _ => rfl) ?_
  show yP (xg xs) (d + 1) 325 13 [(0, .ref 58), (1, .retAddr 29), (2, .int l2)] [.int l2, .ref 61, .int (m.1 61 ((l2 + (1 : Int32)).toNatClampNeg))] m Q
  refine y_iald rfl rfl rfl (H.1) ?_
  replace H := H.2
  refine y_st rfl rfl rfl rfl rfl (fun _ _ => rfl) ?_
  refine y_st rfl rfl rfl rfl rfl (fun _ _ => rfl) ?_
  refine y_st rfl rfl rfl rfl rfl (fun _ _ => rfl) ?_
  refine y_st rfl rfl rfl rfl rfl (fun _ _ => rfl) ?_
  refine y_st rfl rfl rfl rfl rfl (fun _ _ => rfl) ?_
  refine y_st rfl rfl rfl rfl rfl (fun _ _ => rfl) ?_
  show yP (xg xs) (d + 1) 325 22 [(5, .int (1 : Int32)), (4, .int (0 : Int32)), (3, .int ((m.1 61 ((l2 + (1 : Int32)).toNatClampNeg)) - (m.1 61 l2.toNatClampNeg))), (0, .ref 58), (1, .retAddr 29), (2, .int l2)] [] m Q
  refine y_headS (l2 := [(0, .ref 58), (1, .retAddr 29), (2, .int l2), (3, .int ((m.1 61 ((l2 + (1 : Int32)).toNatClampNeg)) - (m.1 61 l2.toNatClampNeg))), (4, .int (0 : Int32)), (5, .int (1 : Int32))]) [3, 4, 5, 2, 1, 0] [0, 1, 2, 3, 4, 5] [5, 4, 3, 0, 1, 2] rfl rfl (by decide) rfl (by decide) ?_
  exact H
set_option maxRecDepth 20000 in
/-- CodeMakerModel.among from 22 on -/
theorem w325s9_22 (xs : List Int32) (d : Nat) (l2 : Int32) (l3 : Int32) (l4 : Int32) (l5 : Int32) (m : yM) (Q : Option Value → yM → Prop) (H : (yC (xg xs) d 22 [.retAddr 29] m (fun v1 m1 => ∃ u1, v1 = some (Value.int u1) ∧ ((u1 ≤ l5 → Q (some (.int ((-1) : Int32))) m1) ∧ (¬ u1 ≤ l5 → yP (xg xs) (d + 1) 325 34 [(0, .ref 58), (1, .retAddr 29), (2, .int l2), (3, .int l3), (4, .int l4), (5, .int l5), (6, .int (0 : Int32))] [] m1 Q))))) : yP (xg xs) (d + 1) 325 22 [(0, .ref 58), (1, .retAddr 29), (2, .int l2), (3, .int l3), (4, .int l4), (5, .int l5)] [] m Q := by
  refine y_st rfl rfl rfl rfl rfl (fun _ _ => rfl) ?_
  refine y_st rfl rfl rfl rfl rfl (fun _ _ => rfl) ?_
  show yP (xg xs) (d + 1) 325 25 [(0, .ref 58), (1, .retAddr 29), (2, .int l2), (3, .int l3), (4, .int l4), (5, .int l5)] [.retAddr 29, .int l5] m Q
  refine y_call rfl rfl rfl rfl rfl (Nat.le_of_ble_eq_true rfl) (Nat.le_of_ble_eq_true rfl) rfl (by decide) H (fun v1 m1 H => ?_)
  obtain ⟨u1, rfl, H⟩ := H
  show yP (xg xs) (d + 1) 325 28 [(0, .ref 58), (1, .retAddr 29), (2, .int l2), (3, .int l3), (4, .int l4), (5, .int l5)] [.int u1, .int l5] m1 Q
  refine y_ige (t := 121) rfl rfl rfl (fun h => ?_) (fun h => ?_)
  · replace H := H.1 h; clear h
    refine y_st rfl rfl rfl rfl rfl (fun _ _ => rfl) ?_
    show yP (xg xs) (d + 1) 325 122 [(0, .ref 58), (1, .retAddr 29), (2, .int l2), (3, .int l3), (4, .int l4), (5, .int l5)] [.int ((-1) : Int32)] m1 Q
    exact y_iret rfl rfl rfl H
  · replace H := H.2 h; clear h
    refine y_st rfl rfl rfl rfl rfl (fun _ _ => rfl) ?_
    refine y_st rfl rfl rfl rfl rfl (fun _ _ => rfl) ?_
    show yP (xg xs) (d + 1) 325 34 [(6, .int (0 : Int32)), (0, .ref 58), (1, .retAddr 29), (2, .int l2), (3, .int l3), (4, .int l4), (5, .int l5)] [] m1 Q
    refine y_headS (l2 := [(0, .ref 58), (1, .retAddr 29), (2, .int l2), (3, .int l3), (4, .int l4), (5, .int l5), (6, .int (0 : Int32))]) [1, 2, 3, 4, 5, 6, 0] [0, 1, 2, 3, 4, 5, 6] [6, 0, 1, 2, 3, 4, 5] rfl rfl (by decide) rfl (by decide) ?_
    exact H
set_option maxRecDepth 20000 in
/-- CodeMakerModel.among from 34 on -/
theorem w325s9_34 (xs : List Int32) (d : Nat) (l2 : Int32) (l3 : Int32) (l4 : Int32) (l5 : Int32) (l6 : Int32) (m : yM) (Q : Option Value → yM → Prop) (H : ((l3 ≤ l6 → yP (xg xs) (d + 1) 325 72 [(0, .ref 58), (1, .retAddr 29), (2, .int l2), (3, .int l3), (4, .int l4), (5, .int l5), (6, .int l6)] [] m Q) ∧ (¬ l3 ≤ l6 → (yC (xg xs) d 24 [.retAddr 29, .int (l5 + l6)] m (fun v1 m1 => ∃ u1, v1 = some (Value.int u1) ∧ (x_in l2 8200 = true ∧ (x_in ((m1.1 61 l2.toNatClampNeg) + l6) 8200 = true ∧ ((¬ u1 = (m1.1 60 (((m1.1 61 l2.toNatClampNeg) + l6).toNatClampNeg)) → yP (xg xs) (d + 1) 325 72 [(0, .ref 58), (1, .retAddr 29), (2, .int l2), (3, .int l3), (4, .int l4), (5, .int l5), (6, .int l6)] [] m1 Q) ∧ (u1 = (m1.1 60 (((m1.1 61 l2.toNatClampNeg) + l6).toNatClampNeg)) → yP (xg xs) (d + 1) 325 34 [(0, .ref 58), (1, .retAddr 29), (2, .int l2), (3, .int l3), (4, .int l4), (5, .int l5), (6, .int (l6 + (1 : Int32)))] [] m1 Q))))))))) : yP (xg xs) (d + 1) 325 34 [(0, .ref 58), (1, .retAddr 29), (2, .int l2), (3, .int l3), (4, .int l4), (5, .int l5), (6, .int l6)] [] m Q := by
  refine y_st rfl rfl rfl rfl rfl (fun _ _ => rfl) ?_
  refine y_st rfl rfl rfl rfl rfl (fun _ _ => rfl) ?_
  show yP (xg xs) (d + 1) 325 37 [(0, .ref 58), (1, .retAddr 29), (2, .int l2), (3, .int l3), (4, .int l4), (5, .int l5), (6, .int l6)] [.int l3, .int l6] m Q
  refine y_ige (t := 72) rfl rfl rfl (fun h => ?_) (fun h => ?_)
  · replace H := H.1 h; clear h
    show yP (xg xs) (d + 1) 325 72 [(0, .ref 58), (1, .retAddr 29), (2, .int l2), (3, .int l3), (4, .int l4), (5, .int l5), (6, .int l6)] [] m Q
    exact H
  · replace H := H.2 h; clear h
    refine y_st rfl rfl rfl rfl rfl (fun _ _ => rfl) ?_
    refine y_st rfl rfl rfl rfl rfl (fun _ _ => rfl) ?_
    refine y_st rfl rfl rfl rfl rfl (fun _ _ => rfl) ?_
    refine y_st rfl rfl rfl rfl rfl (fun _ _ => rfl) ?_
    show yP (xg xs) (d + 1) 325 46 [(0, .ref 58), (1, .retAddr 29), (2, .int l2), (3, .int l3), (4, .int l4), (5, .int l5), (6, .int l6)] [.int (l5 + l6), .retAddr 29] m Q
    refine y_call rfl rfl rfl rfl rfl (Nat.le_of_ble_eq_true rfl) (Nat.le_of_ble_eq_true rfl) rfl (by decide) H (fun v1 m1 H => ?_)
    obtain ⟨u1, rfl, H⟩ := H
    refine y_st rfl rfl rfl rfl rfl (fun _ _ => rfl) ?_
    refine y_gf rfl rfl rfl rfl rfl ?_
    refine y_st rfl rfl rfl rfl rfl (fun _ _ => rfl) ?_
    refine y_gf rfl rfl rfl rfl rfl ?_
    refine y_st rfl rfl rfl rfl rfl (fun _ _ => rfl) ?_
    show yP (xg xs) (d + 1) 325 58 [(0, .ref 58), (1, .retAddr 29), (2, .int l2), (3, .int l3), (4, .int l4), (5, .int l5), (6, .int l6)] [.int l2, .ref 61, .ref 60, .int u1] m1 Q
    refine y_iald rfl rfl rfl (H.1) ?_
    replace H := H.2
    refine y_st rfl rfl rfl rfl rfl (fun _ _ => rfl) ?_
    refine y_st rfl rfl rfl rfl rfl (fun _ _ => rfl) ?_
    show yP (xg xs) (d + 1) 325 62 [(0, .ref 58), (1, .retAddr 29), (2, .int l2), (3, .int l3), (4, .int l4), (5, .int l5), (6, .int l6)] [.int ((m1.1 61 l2.toNatClampNeg) + l6), .ref 60, .int u1] m1 Q
    refine y_bald rfl rfl rfl (by decide) (H.1) ?_
    replace H := H.2
    show yP (xg xs) (d + 1) 325 63 [(0, .ref 58), (1, .retAddr 29), (2, .int l2), (3, .int l3), (4, .int l4), (5, .int l5), (6, .int l6)] [.int (m1.1 60 (((m1.1 61 l2.toNatClampNeg) + l6).toNatClampNeg)), .int u1] m1 Q
    refine y_ine (t := 72) rfl rfl rfl (fun h => ?_) (fun h => ?_)
    · replace H := H.1 h; clear h
      show yP (xg xs) (d + 1) 325 72 [(0, .ref 58), (1, .retAddr 29), (2, .int l2), (3, .int l3), (4, .int l4), (5, .int l5), (6, .int l6)] [] m1 Q
      exact H
    · replace H := H.2 h; clear h
      refine y_st rfl rfl rfl rfl rfl (fun _ _ => rfl) ?_
      refine y_st rfl rfl rfl rfl rfl (fun _ _ => rfl) ?_
      show yP (xg xs) (d + 1) 325 34 [(6, .int (l6 + (1 : Int32))), (0, .ref 58), (1, .retAddr 29), (2, .int l2), (3, .int l3), (4, .int l4), (5, .int l5)] [] m1 Q
      refine y_headS (l2 := [(0, .ref 58), (1, .retAddr 29), (2, .int l2), (3, .int l3), (4, .int l4), (5, .int l5), (6, .int (l6 + (1 : Int32)))]) [1, 2, 3, 4, 5, 6, 0] [0, 1, 2, 3, 4, 5, 6] [6, 0, 1, 2, 3, 4, 5] rfl rfl (by decide) rfl (by decide) ?_
      exact H
set_option maxRecDepth 20000 in
/-- CodeMakerModel.among from 72 on -/
theorem w325s9_72 (xs : List Int32) (d : Nat) (l2 : Int32) (l3 : Int32) (l4 : Int32) (l5 : Int32) (l6 : Int32) (m : yM) (Q : Option Value → yM → Prop) (H : ((¬ l6 = l3 → yP (xg xs) (d + 1) 325 95 [(0, .ref 58), (1, .retAddr 29), (2, .int l2), (3, .int l3), (4, .int l4), (5, .int l5)] [] m Q) ∧ (l6 = l3 → (yC (xg xs) d 24 [.retAddr 29, .int (l5 + l6)] m (fun v1 m1 => ∃ u1, v1 = some (Value.int u1) ∧ ((¬ u1 = (32 : Int32) → yP (xg xs) (d + 1) 325 95 [(0, .ref 58), (1, .retAddr 29), (2, .int l2), (3, .int l3), (4, .int l4), (5, .int l5)] [] m1 Q) ∧ (u1 = (32 : Int32) → Q (some (.int l4)) m1))))))) : yP (xg xs) (d + 1) 325 72 [(0, .ref 58), (1, .retAddr 29), (2, .int l2), (3, .int l3), (4, .int l4), (5, .int l5), (6, .int l6)] [] m Q := by
  refine y_st rfl rfl rfl rfl rfl (fun _ _ => rfl) ?_
  refine y_st rfl rfl rfl rfl rfl (fun _ _ => rfl) ?_
  show yP (xg xs) (d + 1) 325 75 [(0, .ref 58), (1, .retAddr 29), (2, .int l2), (3, .int l3), (4, .int l4), (5, .int l5), (6, .int l6)] [.int l3, .int l6] m Q
  refine y_ine (t := 95) rfl rfl rfl (fun h => ?_) (fun h => ?_)
  · replace H := H.1 h; clear h
    show yP (xg xs) (d + 1) 325 95 [(0, .ref 58), (1, .retAddr 29), (2, .int l2), (3, .int l3), (4, .int l4), (5, .int l5), (6, .int l6)] [] m Q
    refine y_headS (l2 := [(0, .ref 58), (1, .retAddr 29), (2, .int l2), (3, .int l3), (4, .int l4), (5, .int l5)]) [0, 1, 2, 3, 4, 5] [0, 1, 2, 3, 4, 5] [0, 1, 2, 3, 4, 5, 6] rfl rfl (by decide) rfl (by decide) ?_
    exact H
  · replace H := H.2 h; clear h
    refine y_st rfl rfl rfl rfl rfl (fun _ _ => rfl) ?_
    refine y_st rfl rfl rfl rfl rfl (fun _ _ => rfl) ?_
    refine y_st rfl rfl rfl rfl rfl (fun _ _ => rfl) ?_
    refine y_st rfl rfl rfl rfl rfl (fun _ _ => rfl) ?_
    show yP (xg xs) (d + 1) 325 84 [(0, .ref 58), (1, .retAddr 29), (2, .int l2), (3, .int l3), (4, .int l4), (5, .int l5), (6, .int l6)] [.int (l5 + l6), .retAddr 29] m Q
    refine y_call rfl rfl rfl rfl rfl (Nat.le_of_ble_eq_true rfl) (Nat.le_of_ble_eq_true rfl) rfl (by decide) H (fun v1 m1 H => ?_)
    obtain ⟨u1, rfl, H⟩ := H
    refine y_st rfl rfl rfl rfl rfl (fun _ _ => rfl) ?_
    show yP (xg xs) (d + 1) 325 89 [(0, .ref 58), (1, .retAddr 29), (2, .int l2), (3, .int l3), (4, .int l4), (5, .int l5), (6, .int l6)] [.int (32 : Int32), .int u1] m1 Q
    refine y_ine (t := 95) rfl rfl rfl (fun h => ?_) (fun h => ?_)
    · replace H := H.1 h; clear h
      show yP (xg xs) (d + 1) 325 95 [(0, .ref 58), (1, .retAddr 29), (2, .int l2), (3, .int l3), (4, .int l4), (5, .int l5), (6, .int l6)] [] m1 Q
      refine y_headS (l2 := [(0, .ref 58), (1, .retAddr 29), (2, .int l2), (3, .int l3), (4, .int l4), (5, .int l5)]) [0, 1, 2, 3, 4, 5] [0, 1, 2, 3, 4, 5] [0, 1, 2, 3, 4, 5, 6] rfl rfl (by decide) rfl (by decide) ?_
      exact H
    · replace H := H.2 h; clear h
      refine y_st rfl rfl rfl rfl rfl (fun _ _ => rfl) ?_
      show yP (xg xs) (d + 1) 325 94 [(0, .ref 58), (1, .retAddr 29), (2, .int l2), (3, .int l3), (4, .int l4), (5, .int l5), (6, .int l6)] [.int l4] m1 Q
      exact y_iret rfl rfl rfl H
set_option maxRecDepth 20000 in
/-- CodeMakerModel.among from 95 on -/
theorem w325s9_95 (xs : List Int32) (d : Nat) (l2 : Int32) (l3 : Int32) (l4 : Int32) (l5 : Int32) (m : yM) (Q : Option Value → yM → Prop) (H : (yC (xg xs) d 24 [.retAddr 29, .int l5] m (fun v1 m1 => ∃ u1, v1 = some (Value.int u1) ∧ ((u1 = (32 : Int32) → yP (xg xs) (d + 1) 325 22 [(0, .ref 58), (1, .retAddr 29), (2, .int l2), (3, .int l3), (4, .int (l4 + (1 : Int32))), (5, .int (l5 + (1 : Int32)))] [] m1 Q) ∧ (¬ u1 = (32 : Int32) → yP (xg xs) (d + 1) 325 95 [(0, .ref 58), (1, .retAddr 29), (2, .int l2), (3, .int l3), (4, .int l4), (5, .int (l5 + (1 : Int32)))] [] m1 Q))))) : yP (xg xs) (d + 1) 325 95 [(0, .ref 58), (1, .retAddr 29), (2, .int l2), (3, .int l3), (4, .int l4), (5, .int l5)] [] m Q := by
  refine y_st rfl rfl rfl rfl rfl (fun _ _ => rfl) ?_
  refine y_st rfl rfl rfl rfl rfl (fun _ _ => rfl) ?_
  show yP (xg xs) (d + 1) 325 98 [(0, .ref 58), (1, .retAddr 29), (2, .int l2), (3, .int l3), (4, .int l4), (5, .int l5)] [.int l5, .retAddr 29] m Q
  refine y_call rfl rfl rfl rfl rfl (Nat.le_of_ble_eq_true rfl) (Nat.le_of_ble_eq_true rfl) rfl (by decide) H (fun v1 m1 H => ?_)
  obtain ⟨u1, rfl, H⟩ := H
  refine y_st rfl rfl rfl rfl rfl (fun _ _ => rfl) ?_
  show yP (xg xs) (d + 1) 325 103 [(0, .ref 58), (1, .retAddr 29), (2, .int l2), (3, .int l3), (4, .int l4), (5, .int l5)] [.int (32 : Int32), .int u1] m1 Q
  refine y_ieq (t := 112) rfl rfl rfl (fun h => ?_) (fun h => ?_)
  · replace H := H.1 h; clear h
    refine y_st rfl rfl rfl rfl rfl (fun _ _ => rfl) ?_
    refine y_st rfl rfl rfl rfl rfl (fun _ _ => rfl) ?_
    refine y_st rfl rfl rfl rfl rfl (fun _ _ => rfl) ?_
    show yP (xg xs) (d + 1) 325 22 [(4, .int (l4 + (1 : Int32))), (5, .int (l5 + (1 : Int32))), (0, .ref 58), (1, .retAddr 29), (2, .int l2), (3, .int l3)] [] m1 Q
    refine y_headS (l2 := [(0, .ref 58), (1, .retAddr 29), (2, .int l2), (3, .int l3), (4, .int (l4 + (1 : Int32))), (5, .int (l5 + (1 : Int32)))]) [2, 3, 4, 5, 0, 1] [0, 1, 2, 3, 4, 5] [4, 5, 0, 1, 2, 3] rfl rfl (by decide) rfl (by decide) ?_
    exact H
  · replace H := H.2 h; clear h
    refine y_st rfl rfl rfl rfl rfl (fun _ _ => rfl) ?_
    refine y_st rfl rfl rfl rfl rfl (fun _ _ => rfl) ?_
    show yP (xg xs) (d + 1) 325 95 [(5, .int (l5 + (1 : Int32))), (0, .ref 58), (1, .retAddr 29), (2, .int l2), (3, .int l3), (4, .int l4)] [] m1 Q
    refine y_headS (l2 := [(0, .ref 58), (1, .retAddr 29), (2, .int l2), (3, .int l3), (4, .int l4), (5, .int (l5 + (1 : Int32)))]) [1, 2, 3, 4, 5, 0] [0, 1, 2, 3, 4, 5] [5, 0, 1, 2, 3, 4] rfl rfl (by decide) rfl (by decide) ?_
    exact H
set_option maxRecDepth 20000 in
/-- CodeMakerModel.among from 0 on -/
theorem w325s10_0 (xs : List Int32) (d : Nat) (l2 : Int32) (m : yM) (Q : Option Value → yM → Prop) (H : (x_in (l2 + (1 : Int32)) 8200 = true ∧ (x_in l2 8200 = true ∧ yP (xg xs) (d + 1) 325 22 [(0, .ref 58), (1, .retAddr 30), (2, .int l2), (3, .int ((m.1 61 ((l2 + (1 : Int32)).toNatClampNeg)) - (m.1 61 l2.toNatClampNeg))), (4, .int (0 : Int32)), (5, .int (1 : Int32))] [] m Q))) : yP (xg xs) (d + 1) 325 0 [(0, .ref 58), (1, .retAddr 30), (2, .int l2)] [] m Q := by
  refine y_st rfl rfl rfl rfl rfl (fun _ _ => rfl) ?_
  refine y_gf rfl rfl rfl rfl rfl ?_
  refine y_st rfl rfl rfl rfl rfl (fun _ _ => rfl) ?_
  refine y_st rfl rfl rfl rfl rfl (fun _ _ => rfl) ?_
  refine y_st rfl rfl rfl rfl rfl (fun _ _ => rfl) ?_
  show yP (xg xs) (d + 1) 325 7 [(0, .ref 58), (1, .retAddr 30), (2, .int l2)] [.int (l2 + (1 : Int32)), .ref 61] m Q
  refine y_iald rfl rfl rfl (H.1) ?_
  replace H := H.2
  refine y_st rfl rfl rfl rfl rfl (fun _ _ => rfl) ?_
  refine y_gf rfl rfl rfl rfl rfl ?_
  refine y_st rfl rfl rfl rfl rfl (fun _ _ => rfl) ?_
  show yP (xg xs) (d + 1) 325 13 [(0, .ref 58), (1, .retAddr 30), (2, .int l2)] [.int l2, .ref 61, .int (m.1 61 ((l2 + (1 : Int32)).toNatClampNeg))] m Q
  refine y_iald rfl rfl rfl (H.1) ?_
  replace H := H.2
  refine y_st rfl rfl rfl rfl rfl (fun _ _ => rfl) ?_
  refine y_st rfl rfl rfl rfl rfl (fun _ _ => rfl) ?_
  refine y_st rfl rfl rfl rfl rfl (fun _ _ => rfl) ?_
  refine y_st rfl rfl rfl rfl rfl (fun _ _ => rfl) ?_
  refine y_st rfl rfl rfl rfl rfl (fun _ _ => rfl) ?_
  refine y_st rfl rfl rfl rfl rfl (fun _ _ => rfl) ?_
  show yP (xg xs) (d + 1) 325 22 [(5, .int (1 : Int32)), (4, .int (0 : Int32)), (3, .int ((m.1 61 ((l2 + (1 : Int32)).toNatClampNeg)) - (m.1 61 l2.toNatClampNeg))), (0, .ref 58), (1, .retAddr 30), (2, .int l2)] [] m Q
  refine y_headS (l2 := [(0, .ref 58), (1, .retAddr 30), (2, .int l2), (3, .int ((m.1 61 ((l2 + (1 : Int32)).toNatClampNeg)) - (m.1 61 l2.toNatClampNeg))), (4, .int (0 : Int32)), (5, .int (1 : Int32))]) [3, 4, 5, 2, 1, 0] [0, 1, 2, 3, 4, 5] [5, 4, 3, 0, 1, 2] rfl rfl (by decide) rfl (by decide) ?_
  exact H
set_option maxRecDepth 20000 in
/-- CodeMakerModel.among from 22 on -/
theorem w325s10_22 (xs : List Int32) (d : Nat) (l2 : Int32) (l3 : Int32) (l4 : Int32) (l5 : Int32) (m : yM) (Q : Option Value → yM → Prop) (H : (yC (xg xs) d 22 [.retAddr 30] m (fun v1 m1 => ∃ u1, v1 = some (Value.int u1) ∧ ((u1 ≤ l5 → Q (some (.int ((-1) : Int32))) m1) ∧ (¬ u1 ≤ l5 → yP (xg xs) (d + 1) 325 34 [(0, .ref 58), (1, .retAddr 30), (2, .int l2), (3, .int l3), (4, .int l4), (5, .int l5), (6, .int (0 : Int32))] [] m1 Q))))) : yP (xg xs) (d + 1) 325 22 [(0, .ref 58), (1, .retAddr 30), (2, .int l2), (3, .int l3), (4, .int l4), (5, .int l5)] [] m Q := by
  refine y_st rfl rfl rfl rfl rfl (fun _ _ => rfl) ?_
  refine y_st rfl rfl rfl rfl rfl (fun _ _ => rfl) ?_
  show yP (xg xs) (d + 1) 325 25 [(0, .ref 58), (1, .retAddr 30), (2, .int l2), (3, .int l3), (4, .int l4), (5, .int l5)] [.retAddr 30, .int l5] m Q
  refine y_call rfl rfl rfl rfl rfl (Nat.le_of_ble_eq_true rfl) (Nat.le_of_ble_eq_true rfl) rfl (by decide) H (fun v1 m1 H => ?_)
  obtain ⟨u1, rfl, H⟩ := H
  show yP (xg xs) (d + 1) 325 28 [(0, .ref 58), (1, .retAddr 30), (2, .int l2), (3, .int l3), (4, .int l4), (5, .int l5)] [.int u1, .int l5] m1 Q
  refine y_ige (t := 121) rfl rfl rfl (fun h => ?_) (fun h => ?_)
  · replace H := H.1 h; clear h
    refine y_st rfl rfl rfl rfl rfl (fun _ _ => rfl) ?_
    show yP (xg xs) (d + 1) 325 122 [(0, .ref 58), (1, .retAddr 30), (2, .int l2), (3, .int l3), (4, .int l4), (5, .int l5)] [.int ((-1) : Int32)] m1 Q
    exact y_iret rfl rfl rfl H
  · replace H := H.2 h; clear h
    refine y_st rfl rfl rfl rfl rfl (fun _ _ => rfl) ?_
    refine y_st rfl rfl rfl rfl rfl (fun _ _ => rfl) ?_
    show yP (xg xs) (d + 1) 325 34 [(6, .int (0 : Int32)), (0, .ref 58), (1, .retAddr 30), (2, .int l2), (3, .int l3), (4, .int l4), (5, .int l5)] [] m1 Q
    refine y_headS (l2 := [(0, .ref 58), (1, .retAddr 30), (2, .int l2), (3, .int l3), (4, .int l4), (5, .int l5), (6, .int (0 : Int32))]) [1, 2, 3, 4, 5, 6, 0] [0, 1, 2, 3, 4, 5, 6] [6, 0, 1, 2, 3, 4, 5] rfl rfl (by decide) rfl (by decide) ?_
    exact H
set_option maxRecDepth 20000 in
/-- CodeMakerModel.among from 34 on -/
theorem w325s10_34 (xs : List Int32) (d : Nat) (l2 : Int32) (l3 : Int32) (l4 : Int32) (l5 : Int32) (l6 : Int32) (m : yM) (Q : Option Value → yM → Prop) (H : ((l3 ≤ l6 → yP (xg xs) (d + 1) 325 72 [(0, .ref 58), (1, .retAddr 30), (2, .int l2), (3, .int l3), (4, .int l4), (5, .int l5), (6, .int l6)] [] m Q) ∧ (¬ l3 ≤ l6 → (yC (xg xs) d 24 [.retAddr 30, .int (l5 + l6)] m (fun v1 m1 => ∃ u1, v1 = some (Value.int u1) ∧ (x_in l2 8200 = true ∧ (x_in ((m1.1 61 l2.toNatClampNeg) + l6) 8200 = true ∧ ((¬ u1 = (m1.1 60 (((m1.1 61 l2.toNatClampNeg) + l6).toNatClampNeg)) → yP (xg xs) (d + 1) 325 72 [(0, .ref 58), (1, .retAddr 30), (2, .int l2), (3, .int l3), (4, .int l4), (5, .int l5), (6, .int l6)] [] m1 Q) ∧ (u1 = (m1.1 60 (((m1.1 61 l2.toNatClampNeg) + l6).toNatClampNeg)) → yP (xg xs) (d + 1) 325 34 [(0, .ref 58), (1, .retAddr 30), (2, .int l2), (3, .int l3), (4, .int l4), (5, .int l5), (6, .int (l6 + (1 : Int32)))] [] m1 Q))))))))) : yP (xg xs) (d + 1) 325 34 [(0, .ref 58), (1, .retAddr 30), (2, .int l2), (3, .int l3), (4, .int l4), (5, .int l5), (6, .int l6)] [] m Q := by
  refine y_st rfl rfl rfl rfl rfl (fun _ _ => rfl) ?_
  refine y_st rfl rfl rfl rfl rfl (fun _ _ => rfl) ?_
  show yP (xg xs) (d + 1) 325 37 [(0, .ref 58), (1, .retAddr 30), (2, .int l2), (3, .int l3), (4, .int l4), (5, .int l5), (6, .int l6)] [.int l3, .int l6] m Q
  refine y_ige (t := 72) rfl rfl rfl (fun h => ?_) (fun h => ?_)
  · replace H := H.1 h; clear h
    show yP (xg xs) (d + 1) 325 72 [(0, .ref 58), (1, .retAddr 30), (2, .int l2), (3, .int l3), (4, .int l4), (5, .int l5), (6, .int l6)] [] m Q
    exact H
  · replace H := H.2 h; clear h
    refine y_st rfl rfl rfl rfl rfl (fun _ _ => rfl) ?_
    refine y_st rfl rfl rfl rfl rfl (fun _ _ => rfl) ?_
    refine y_st rfl rfl rfl rfl rfl (fun _ _ => rfl) ?_
    refine y_st rfl rfl rfl rfl rfl (fun _ _ => rfl) ?_
    show yP (xg xs) (d + 1) 325 46 [(0, .ref 58), (1, .retAddr 30), (2, .int l2), (3, .int l3), (4, .int l4), (5, .int l5), (6, .int l6)] [.int (l5 + l6), .retAddr 30] m Q
    refine y_call rfl rfl rfl rfl rfl (Nat.le_of_ble_eq_true rfl) (Nat.le_of_ble_eq_true rfl) rfl (by decide) H (fun v1 m1 H => ?_)
    obtain ⟨u1, rfl, H⟩ := H
    refine y_st rfl rfl rfl rfl rfl (fun _ _ => rfl) ?_
    refine y_gf rfl rfl rfl rfl rfl ?_
    refine y_st rfl rfl rfl rfl rfl (fun _ _ => rfl) ?_
    refine y_gf rfl rfl rfl rfl rfl ?_
    refine y_st rfl rfl rfl rfl rfl (fun _ _ => rfl) ?_
    show yP (xg xs) (d + 1) 325 58 [(0, .ref 58), (1, .retAddr 30), (2, .int l2), (3, .int l3), (4, .int l4), (5, .int l5), (6, .int l6)] [.int l2, .ref 61, .ref 60, .int u1] m1 Q
    refine y_iald rfl rfl rfl (H.1) ?_
    replace H := H.2
    refine y_st rfl rfl rfl rfl rfl (fun _ _ => rfl) ?_
    refine y_st rfl rfl rfl rfl rfl (fun _ _ => rfl) ?_
    show yP (xg xs) (d + 1) 325 62 [(0, .ref 58), (1, .retAddr 30), (2, .int l2), (3, .int l3), (4, .int l4), (5, .int l5), (6, .int l6)] [.int ((m1.1 61 l2.toNatClampNeg) + l6), .ref 60, .int u1] m1 Q
    refine y_bald rfl rfl rfl (by decide) (H.1) ?_
    replace H := H.2
    show yP (xg xs) (d + 1) 325 63 [(0, .ref 58), (1, .retAddr 30), (2, .int l2), (3, .int l3), (4, .int l4), (5, .int l5), (6, .int l6)] [.int (m1.1 60 (((m1.1 61 l2.toNatClampNeg) + l6).toNatClampNeg)), .int u1] m1 Q
    refine y_ine (t := 72) rfl rfl rfl (fun h => ?_) (fun h => ?_)
    · replace H := H.1 h; clear h
      show yP (xg xs) (d + 1) 325 72 [(0, .ref 58), (1, .retAddr 30), (2, .int l2), (3, .int l3), (4, .int l4), (5, .int l5), (6, .int l6)] [] m1 Q
      exact H
    · replace H := H.2 h; clear h
      refine y_st rfl rfl rfl rfl rfl (fun _ _ => rfl) ?_
      refine y_st rfl rfl rfl rfl rfl (fun _ _ => rfl) ?_
      show yP (xg xs) (d + 1) 325 34 [(6, .int (l6 + (1 : Int32))), (0, .ref 58), (1, .retAddr 30), (2, .int l2), (3, .int l3), (4, .int l4), (5, .int l5)] [] m1 Q
      refine y_headS (l2 := [(0, .ref 58), (1, .retAddr 30), (2, .int l2), (3, .int l3), (4, .int l4), (5, .int l5), (6, .int (l6 + (1 : Int32)))]) [1, 2, 3, 4, 5, 6, 0] [0, 1, 2, 3, 4, 5, 6] [6, 0, 1, 2, 3, 4, 5] rfl rfl (by decide) rfl (by decide) ?_
      exact H
set_option maxRecDepth 20000 in
/-- CodeMakerModel.among from 72 on -/
theorem w325s10_72 (xs : List Int32) (d : Nat) (l2 : Int32) (l3 : Int32) (l4 : Int32) (l5 : Int32) (l6 : Int32) (m : yM) (Q : Option Value → yM → Prop) (H : ((¬ l6 = l3 → yP (xg xs) (d + 1) 325 95 [(0, .ref 58), (1, .retAddr 30), (2, .int l2), (3, .int l3), (4, .int l4), (5, .int l5)] [] m Q) ∧ (l6 = l3 → (yC (xg xs) d 24 [.retAddr 30, .int (l5 + l6)] m (fun v1 m1 => ∃ u1, v1 = some (Value.int u1) ∧ ((¬ u1 = (32 : Int32) → yP (xg xs) (d + 1) 325 95 [(0, .ref 58), (1, .retAddr 30), (2, .int l2), (3, .int l3), (4, .int l4), (5, .int l5)] [] m1 Q) ∧ (u1 = (32 : Int32) → Q (some (.int l4)) m1))))))) : yP (xg xs) (d + 1) 325 72 [(0, .ref 58), (1, .retAddr 30), (2, .int l2), (3, .int l3), (4, .int l4), (5, .int l5), (6, .int l6)] [] m Q := by
  refine y_st rfl rfl rfl rfl rfl (fun _ _ => rfl) ?_
  refine y_st rfl rfl rfl rfl rfl (fun _ _ => rfl) ?_
  show yP (xg xs) (d + 1) 325 75 [(0, .ref 58), (1, .retAddr 30), (2, .int l2), (3, .int l3), (4, .int l4), (5, .int l5), (6, .int l6)] [.int l3, .int l6] m Q
  refine y_ine (t := 95) rfl rfl rfl (fun h => ?_) (fun h => ?_)
  · replace H := H.1 h; clear h
    show yP (xg xs) (d + 1) 325 95 [(0, .ref 58), (1, .retAddr 30), (2, .int l2), (3, .int l3), (4, .int l4), (5, .int l5), (6, .int l6)] [] m Q
    refine y_headS (l2 := [(0, .ref 58), (1, .retAddr 30), (2, .int l2), (3, .int l3), (4, .int l4), (5, .int l5)]) [0, 1, 2, 3, 4, 5] [0, 1, 2, 3, 4, 5] [0, 1, 2, 3, 4, 5, 6] rfl rfl (by decide) rfl (by decide) ?_
    exact H
  · replace H := H.2 h; clear h
    refine y_st rfl rfl rfl rfl rfl (fun _ _ => rfl) ?_
    refine y_st rfl rfl rfl rfl rfl (fun _ _ => rfl) ?_
    refine y_st rfl rfl rfl rfl rfl (fun _ _ => rfl) ?_
    refine y_st rfl rfl rfl rfl rfl (fun _ _ => rfl) ?_
    show yP (xg xs) (d + 1) 325 84 [(0, .ref 58), (1, .retAddr 30), (2, .int l2), (3, .int l3), (4, .int l4), (5, .int l5), (6, .int l6)] [.int (l5 + l6), .retAddr 30] m Q
    refine y_call rfl rfl rfl rfl rfl (Nat.le_of_ble_eq_true rfl) (Nat.le_of_ble_eq_true rfl) rfl (by decide) H (fun v1 m1 H => ?_)
    obtain ⟨u1, rfl, H⟩ := H
    refine y_st rfl rfl rfl rfl rfl (fun _ _ => rfl) ?_
    show yP (xg xs) (d + 1) 325 89 [(0, .ref 58), (1, .retAddr 30), (2, .int l2), (3, .int l3), (4, .int l4), (5, .int l5), (6, .int l6)] [.int (32 : Int32), .int u1] m1 Q
    refine y_ine (t := 95) rfl rfl rfl (fun h => ?_) (fun h => ?_)
    · replace H := H.1 h; clear h
      show yP (xg xs) (d + 1) 325 95 [(0, .ref 58), (1, .retAddr 30), (2, .int l2), (3, .int l3), (4, .int l4), (5, .int l5), (6, .int l6)] [] m1 Q
      refine y_headS (l2 := [(0, .ref 58), (1, .retAddr 30), (2, .int l2), (3, .int l3), (4, .int l4), (5, .int l5)]) [0, 1, 2, 3, 4, 5] [0, 1, 2, 3, 4, 5] [0, 1, 2, 3, 4, 5, 6] rfl rfl (by decide) rfl (by decide) ?_
      exact H
    · replace H := H.2 h; clear h
      refine y_st rfl rfl rfl rfl rfl (fun _ _ => rfl) ?_
      show yP (xg xs) (d + 1) 325 94 [(0, .ref 58), (1, .retAddr 30), (2, .int l2), (3, .int l3), (4, .int l4), (5, .int l5), (6, .int l6)] [.int l4] m1 Q
      exact y_iret rfl rfl rfl H
set_option maxRecDepth 20000 in
/-- CodeMakerModel.among from 95 on -/
theorem w325s10_95 (xs : List Int32) (d : Nat) (l2 : Int32) (l3 : Int32) (l4 : Int32) (l5 : Int32) (m : yM) (Q : Option Value → yM → Prop) (H : (yC (xg xs) d 24 [.retAddr 30, .int l5] m (fun v1 m1 => ∃ u1, v1 = some (Value.int u1) ∧ ((u1 = (32 : Int32) → yP (xg xs) (d + 1) 325 22 [(0, .ref 58), (1, .retAddr 30), (2, .int l2), (3, .int l3), (4, .int (l4 + (1 : Int32))), (5, .int (l5 + (1 : Int32)))] [] m1 Q) ∧ (¬ u1 = (32 : Int32) → yP (xg xs) (d + 1) 325 95 [(0, .ref 58), (1, .retAddr 30), (2, .int l2), (3, .int l3), (4, .int l4), (5, .int (l5 + (1 : Int32)))] [] m1 Q))))) : yP (xg xs) (d + 1) 325 95 [(0, .ref 58), (1, .retAddr 30), (2, .int l2), (3, .int l3), (4, .int l4), (5, .int l5)] [] m Q := by
  refine y_st rfl rfl rfl rfl rfl (fun _ _ => rfl) ?_
  refine y_st rfl rfl rfl rfl rfl (fun _ _ => rfl) ?_
  show yP (xg xs) (d + 1) 325 98 [(0, .ref 58), (1, .retAddr 30), (2, .int l2), (3, .int l3), (4, .int l4), (5, .int l5)] [.int l5, .retAddr 30] m Q
  refine y_call rfl rfl rfl rfl rfl (Nat.le_of_ble_eq_true rfl) (Nat.le_of_ble_eq_true rfl) rfl (by decide) H (fun v1 m1 H => ?_)
  obtain ⟨u1, rfl, H⟩ := H
  refine y_st rfl rfl rfl rfl rfl (fun _ _ => rfl) ?_
  show yP (xg xs) (d + 1) 325 103 [(0, .ref 58), (1, .retAddr 30), (2, .int l2), (3, .int l3), (4, .int l4), (5, .int l5)] [.int (32 : Int32), .int u1] m1 Q
  refine y_ieq (t := 112) rfl rfl rfl (fun h => ?_) (fun h => ?_)
  · replace H := H.1 h; clear h
    refine y_st rfl rfl rfl rfl rfl (fun _ _ => rfl) ?_
    refine y_st rfl rfl rfl rfl rfl (fun _ _ => rfl) ?_
    refine y_st rfl rfl rfl rfl rfl (fun _ _ => rfl) ?_
    show yP (xg xs) (d + 1) 325 22 [(4, .int (l4 + (1 : Int32))), (5, .int (l5 + (1 : Int32))), (0, .ref 58), (1, .retAddr 30), (2, .int l2), (3, .int l3)] [] m1 Q
    refine y_headS (l2 := [(0, .ref 58), (1, .retAddr 30), (2, .int l2), (3, .int l3), (4, .int (l4 + (1 : Int32))), (5, .int (l5 + (1 : Int32)))]) [2, 3, 4, 5, 0, 1] [0, 1, 2, 3, 4, 5] [4, 5, 0, 1, 2, 3] rfl rfl (by decide) rfl (by decide) ?_
    exact H
  · replace H := H.2 h; clear h
    refine y_st rfl rfl rfl rfl rfl (fun _ _ => rfl) ?_
    refine y_st rfl rfl rfl rfl rfl (fun _ _ => rfl) ?_
    show yP (xg xs) (d + 1) 325 95 [(5, .int (l5 + (1 : Int32))), (0, .ref 58), (1, .retAddr 30), (2, .int l2), (3, .int l3), (4, .int l4)] [] m1 Q
    refine y_headS (l2 := [(0, .ref 58), (1, .retAddr 30), (2, .int l2), (3, .int l3), (4, .int l4), (5, .int (l5 + (1 : Int32)))]) [1, 2, 3, 4, 5, 0] [0, 1, 2, 3, 4, 5] [5, 0, 1, 2, 3, 4] rfl rfl (by decide) rfl (by decide) ?_
    exact H
set_option maxRecDepth 20000 in
/-- CodeMakerModel.among from 0 on -/
theorem w325s11_0 (xs : List Int32) (d : Nat) (l2 : Int32) (m : yM) (Q : Option Value → yM → Prop) (H : (x_in (l2 + (1 : Int32)) 8200 = true ∧ (x_in l2 8200 = true ∧ yP (xg xs) (d + 1) 325 22 [(0, .ref 58), (1, .retAddr 31), (2, .int l2), (3, .int ((m.1 61 ((l2 + (1 : Int32)).toNatClampNeg)) - (m.1 61 l2.toNatClampNeg))), (4, .int (0 : Int32)), (5, .int (1 : Int32))] [] m Q))) : yP (xg xs) (d + 1) 325 0 [(0, .ref 58), (1, .retAddr 31), (2, .int l2)] [] m Q := by
  refine y_st rfl rfl rfl rfl rfl (fun _ _ => rfl) ?_
  refine y_gf rfl rfl rfl rfl rfl ?_
  refine y_st rfl rfl rfl rfl rfl (fun _ _ => rfl) ?_
  refine y_st rfl rfl rfl rfl rfl (fun _ _ => rfl) ?_
  refine y_st rfl rfl rfl rfl rfl (fun _ _ => rfl) ?_
  show yP (xg xs) (d + 1) 325 7 [(0, .ref 58), (1, .retAddr 31), (2, .int l2)] [.int (l2 + (1 : Int32)), .ref 61] m Q
  refine y_iald rfl rfl rfl (H.1) ?_
  replace H := H.2
  refine y_st rfl rfl rfl rfl rfl (fun _ _ => rfl) ?_
  refine y_gf rfl rfl rfl rfl rfl ?_
  refine y_st rfl rfl rfl rfl rfl (fun _ _ => rfl) ?_
  show yP (xg xs) (d + 1) 325 13 [(0, .ref 58), (1, .retAddr 31), (2, .int l2)] [.int l2, .ref 61, .int (m.1 61 ((l2 + (1 : Int32)).toNatClampNeg))] m Q
  refine y_iald rfl rfl rfl (H.1) ?_
  replace H := H.2
  refine y_st rfl rfl rfl rfl rfl (fun _ _ => rfl) ?_
  refine y_st rfl rfl rfl rfl rfl (fun _ _ => rfl) ?_
  refine y_st rfl rfl rfl rfl rfl (fun _ _ => rfl) ?_
  refine y_st rfl rfl rfl rfl rfl (fun _ _ => rfl) ?_
  refine y_st rfl rfl rfl rfl rfl (fun _ _ => rfl) ?_
  refine y_st rfl rfl rfl rfl rfl (fun _ _ => rfl) ?_
  show yP (xg xs) (d + 1) 325 22 [(5, .int (1 : Int32)), (4, .int (0 : Int32)), (3, .int ((m.1 61 ((l2 + (1 : Int32)).toNatClampNeg)) - (m.1 61 l2.toNatClampNeg))), (0, .ref 58), (1, .retAddr 31), (2, .int l2)] [] m Q
  refine y_headS (l2 := [(0, .ref 58), (1, .retAddr 31), (2, .int l2), (3, .int ((m.1 61 ((l2 + (1 : Int32)).toNatClampNeg)) - (m.1 61 l2.toNatClampNeg))), (4, .int (0 : Int32)), (5, .int (1 : Int32))]) [3, 4, 5, 2, 1, 0] [0, 1, 2, 3, 4, 5] [5, 4, 3, 0, 1, 2] rfl rfl (by decide) rfl (by decide) ?_
  exact H
set_option maxRecDepth 20000 in
/-- CodeMakerModel.among from 22 on -/
theorem w325s11_22 (xs : List Int32) (d : Nat) (l2 : Int32) (l3 : Int32) (l4 : Int32) (l5 : Int32) (m : yM) (Q : Option Value → yM → Prop) (H : (yC (xg xs) d 22 [.retAddr 31] m (fun v1 m1 => ∃ u1, v1 = some (Value.int u1) ∧ ((u1 ≤ l5 → Q (some (.int ((-1) : Int32))) m1) ∧ (¬ u1 ≤ l5 → yP (xg xs) (d + 1) 325 34 [(0, .ref 58), (1, .retAddr 31), (2, .int l2), (3, .int l3), (4, .int l4), (5, .int l5), (6, .int (0 : Int32))] [] m1 Q))))) : yP (xg xs) (d + 1) 325 22 [(0, .ref 58), (1, .retAddr 31), (2, .int l2), (3, .int l3), (4, .int l4), (5, .int l5)] [] m Q := by
  refine y_st rfl rfl rfl rfl rfl (fun _ _ => rfl) ?_
  refine y_st rfl rfl rfl rfl rfl (fun _ _ => rfl) ?_
  show yP (xg xs) (d + 1) 325 25 [(0, .ref 58), (1, .retAddr 31), (2, .int l2), (3, .int l3), (4, .int l4), (5, .int l5)] [.retAddr 31, .int l5] m Q
  refine y_call rfl rfl rfl rfl rfl (Nat.le_of_ble_eq_true rfl) (Nat.le_of_ble_eq_true rfl) rfl (by decide) H (fun v1 m1 H => ?_)
  obtain ⟨u1, rfl, H⟩ := H
  show yP (xg xs) (d + 1) 325 28 [(0, .ref 58), (1, .retAddr 31), (2, .int l2), (3, .int l3), (4, .int l4), (5, .int l5)] [.int u1, .int l5] m1 Q
  refine y_ige (t := 121) rfl rfl rfl (fun h => ?_) (fun h => ?_)
  · replace H := H.1 h; clear h
    refine y_st rfl rfl rfl rfl rfl (fun _ _ => rfl) ?_
    show yP (xg xs) (d + 1) 325 122 [(0, .ref 58), (1, .retAddr 31), (2, .int l2), (3, .int l3), (4, .int l4), (5, .int l5)] [.int ((-1) : Int32)] m1 Q
    exact y_iret rfl rfl rfl H
  · replace H := H.2 h; clear h
    refine y_st rfl rfl rfl rfl rfl (fun _ _ => rfl) ?_
    refine y_st rfl rfl rfl rfl rfl (fun _ _ => rfl) ?_
    show yP (xg xs) (d + 1) 325 34 [(6, .int (0 : Int32)), (0, .ref 58), (1, .retAddr 31), (2, .int l2), (3, .int l3), (4, .int l4), (5, .int l5)] [] m1 Q
    refine y_headS (l2 := [(0, .ref 58), (1, .retAddr 31), (2, .int l2), (3, .int l3), (4, .int l4), (5, .int l5), (6, .int (0 : Int32))]) [1, 2, 3, 4, 5, 6, 0] [0, 1, 2, 3, 4, 5, 6] [6, 0, 1, 2, 3, 4, 5] rfl rfl (by decide) rfl (by decide) ?_
    exact H
set_option maxRecDepth 20000 in
/-- CodeMakerModel.among from 34 on -/
theorem w325s11_34 (xs : List Int32) (d : Nat) (l2 : Int32) (l3 : Int32) (l4 : Int32) (l5 : Int32) (l6 : Int32) (m : yM) (Q : Option Value → yM → Prop) (H : ((l3 ≤ l6 → yP (xg xs) (d + 1) 325 72 [(0, .ref 58), (1, .retAddr 31), (2, .int l2), (3, .int l3), (4, .int l4), (5, .int l5), (6, .int l6)] [] m Q) ∧ (¬ l3 ≤ l6 → (yC (xg xs) d 24 [.retAddr 31, .int (l5 + l6)] m (fun v1 m1 => ∃ u1, v1 = some (Value.int u1) ∧ (x_in l2 8200 = true ∧ (x_in ((m1.1 61 l2.toNatClampNeg) + l6) 8200 = true ∧ ((¬ u1 = (m1.1 60 (((m1.1 61 l2.toNatClampNeg) + l6).toNatClampNeg)) → yP (xg xs) (d + 1) 325 72 [(0, .ref 58), (1, .retAddr 31), (2, .int l2), (3, .int l3), (4, .int l4), (5, .int l5), (6, .int l6)] [] m1 Q) ∧ (u1 = (m1.1 60 (((m1.1 61 l2.toNatClampNeg) + l6).toNatClampNeg)) → yP (xg xs) (d + 1) 325 34 [(0, .ref 58), (1, .retAddr 31), (2, .int l2), (3, .int l3), (4, .int l4), (5, .int l5), (6, .int (l6 + (1 : Int32)))] [] m1 Q))))))))) : yP (xg xs) (d + 1) 325 34 [(0, .ref 58), (1, .retAddr 31), (2, .int l2), (3, .int l3), (4, .int l4), (5, .int l5), (6, .int l6)] [] m Q := by
  refine y_st rfl rfl rfl rfl rfl (fun _ _ => rfl) ?_
  refine y_st rfl rfl rfl rfl rfl (fun _ _ => rfl) ?_
  show yP (xg xs) (d + 1) 325 37 [(0, .ref 58), (1, .retAddr 31), (2, .int l2), (3, .int l3), (4, .int l4), (5, .int l5), (6, .int l6)] [.int l3, .int l6] m Q
  refine y_ige (t := 72) rfl rfl rfl (fun h => ?_) (fun h => ?_)
  · replace H := H.1 h; clear h
    show yP (xg xs) (d + 1) 325 72 [(0, .ref 58), (1, .retAddr 31), (2, .int l2), (3, .int l3), (4, .int l4), (5, .int l5), (6, .int l6)] [] m Q
    exact H
  · replace H := H.2 h; clear h
    refine y_st rfl rfl rfl rfl rfl (fun _ _ => rfl) ?_
    refine y_st rfl rfl rfl rfl rfl (fun _ _ => rfl) ?_
    refine y_st rfl rfl rfl rfl rfl (fun _ _ => rfl) ?_
    refine y_st rfl rfl rfl rfl rfl (fun _ _ => rfl) ?_
    show yP (xg xs) (d + 1) 325 46 [(0, .ref 58), (1, .retAddr 31), (2, .int l2), (3, .int l3), (4, .int l4), (5, .int l5), (6, .int l6)] [.int (l5 + l6), .retAddr 31] m Q
    refine y_call rfl rfl rfl rfl rfl (Nat.le_of_ble_eq_true rfl) (Nat.le_of_ble_eq_true rfl) rfl (by decide) H (fun v1 m1 H => ?_)
    obtain ⟨u1, rfl, H⟩ := H
    refine y_st rfl rfl rfl rfl rfl (fun _ _ => rfl) ?_
    refine y_gf rfl rfl rfl rfl rfl ?_
    refine y_st rfl rfl rfl rfl rfl (fun _ _ => rfl) ?_
    refine y_gf rfl rfl rfl rfl rfl ?_
    refine y_st rfl rfl rfl rfl rfl (fun _ _ => rfl) ?_
    show yP (xg xs) (d + 1) 325 58 [(0, .ref 58), (1, .retAddr 31), (2, .int l2), (3, .int l3), (4, .int l4), (5, .int l5), (6, .int l6)] [.int l2, .ref 61, .ref 60, .int u1] m1 Q
    refine y_iald rfl rfl rfl (H.1) ?_
    replace H := H.2
    refine y_st rfl rfl rfl rfl rfl (fun _ _ => rfl) ?_
    refine y_st rfl rfl rfl rfl rfl (fun _ _ => rfl) ?_
    show yP (xg xs) (d + 1) 325 62 [(0, .ref 58), (1, .retAddr 31), (2, .int l2), (3, .int l3), (4, .int l4), (5, .int l5), (6, .int l6)] [.int ((m1.1 61 l2.toNatClampNeg) + l6), .ref 60, .int u1] m1 Q
    refine y_bald rfl rfl rfl (by decide) (H.1) ?_
    replace H := H.2
    show yP (xg xs) (d + 1) 325 63 [(0, .ref 58), (1, .retAddr 31), (2, .int l2), (3, .int l3), (4, .int l4), (5, .int l5), (6, .int l6)] [.int (m1.1 60 (((m1.1 61 l2.toNatClampNeg) + l6).toNatClampNeg)), .int u1] m1 Q
    refine y_ine (t := 72) rfl rfl rfl (fun h => ?_) (fun h => ?_)
    · replace H := H.1 h; clear h
      show yP (xg xs) (d + 1) 325 72 [(0, .ref 58), (1, .retAddr 31), (2, .int l2), (3, .int l3), (4, .int l4), (5, .int l5), (6, .int l6)] [] m1 Q
      exact H
    · replace H := H.2 h; clear h
      refine y_st rfl rfl rfl rfl rfl (fun _ _ => rfl) ?_
      refine y_st rfl rfl rfl rfl rfl (fun _ _ => rfl) ?_
      show yP (xg xs) (d + 1) 325 34 [(6, .int (l6 + (1 : Int32))), (0, .ref 58), (1, .retAddr 31), (2, .int l2), (3, .int l3), (4, .int l4), (5, .int l5)] [] m1 Q
      refine y_headS (l2 := [(0, .ref 58), (1, .retAddr 31), (2, .int l2), (3, .int l3), (4, .int l4), (5, .int l5), (6, .int (l6 + (1 : Int32)))]) [1, 2, 3, 4, 5, 6, 0] [0, 1, 2, 3, 4, 5, 6] [6, 0, 1, 2, 3, 4, 5] rfl rfl (by decide) rfl (by decide) ?_
      exact H
set_option maxRecDepth 20000 in
/-- CodeMakerModel.among from 72 on -/
theorem w325s11_72 (xs : List Int32) (d : Nat) (l2 : Int32) (l3 : Int32) (l4 : Int32) (l5 : Int32) (l6 : Int32) (m : yM) (Q : Option Value → yM → Prop) (H : ((¬ l6 = l3 → yP (xg xs) (d + 1) 325 95 [(0, .ref 58), (1, .retAddr 31), (2, .int l2), (3, .int l3), (4, .int l4), (5, .int l5)] [] m Q) ∧ (l6 = l3 → (yC (xg xs) d 24 [.retAddr 31, .int (l5 + l6)] m (fun v1 m1 => ∃ u1, v1 = some (Value.int u1) ∧ ((¬ u1 = (32 : Int32) → yP (xg xs) (d + 1) 325 95 [(0, .ref 58), (1, .retAddr 31), (2, .int l2), (3, .int l3), (4, .int l4), (5, .int l5)] [] m1 Q) ∧ (u1 = (32 : Int32) → Q (some (.int l4)) m1))))))) : yP (xg xs) (d + 1) 325 72 [(0, .ref 58), (1, .retAddr 31), (2, .int l2), (3, .int l3), (4, .int l4), (5, .int l5), (6, .int l6)] [] m Q := by
  refine y_st rfl rfl rfl rfl rfl (fun _ _ => rfl) ?_
  refine y_st rfl rfl rfl rfl rfl (fun _ _ => rfl) ?_
  show yP (xg xs) (d + 1) 325 75 [(0, .ref 58), (1, .retAddr 31), (2, .int l2), (3, .int l3), (4, .int l4), (5, .int l5), (6, .int l6)] [.int l3, .int l6] m Q
  refine y_ine (t := 95) rfl rfl rfl (fun h => ?_) (fun h => ?_)
  · replace H := H.1 h; clear h
    show yP (xg xs) (d + 1) 325 95 [(0, .ref 58), (1, .retAddr 31), (2, .int l2), (3, .int l3), (4, .int l4), (5, .int l5), (6, .int l6)] [] m Q
    refine y_headS (l2 := [(0, .ref 58), (1, .retAddr 31), (2, .int l2), (3, .int l3), (4, .int l4), (5, .int l5)]) [0, 1, 2, 3, 4, 5] [0, 1, 2, 3, 4, 5] [0, 1, 2, 3, 4, 5, 6] rfl rfl (by decide) rfl (by decide) ?_
    exact H
  · replace H := H.2 h; clear h
    refine y_st rfl rfl rfl rfl rfl (fun _ _ => rfl) ?_
    refine y_st rfl rfl rfl rfl rfl (fun _ _ => rfl) ?_
    refine y_st rfl rfl rfl rfl rfl (fun _ _ => rfl) ?_
    refine y_st rfl rfl rfl rfl rfl (fun _ _ => rfl) ?_
    show yP (xg xs) (d + 1) 325 84 [(0, .ref 58), (1, .retAddr 31), (2, .int l2), (3, .int l3), (4, .int l4), (5, .int l5), (6, .int l6)] [.int (l5 + l6), .retAddr 31] m Q
    refine y_call rfl rfl rfl rfl rfl (Nat.le_of_ble_eq_true rfl) (Nat.le_of_ble_eq_true rfl) rfl (by decide) H (fun v1 m1 H => ?_)
    obtain ⟨u1, rfl, H⟩ := H
    refine y_st rfl rfl rfl rfl rfl (fun _ _ => rfl) ?_
    show yP (xg xs) (d + 1) 325 89 [(0, .ref 58), (1, .retAddr 31), (2, .int l2), (3, .int l3), (4, .int l4), (5, .int l5), (6, .int l6)] [.int (32 : Int32), .int u1] m1 Q
    refine y_ine (t := 95) rfl rfl rfl (fun h => ?_) (fun h => ?_)
    · replace H := H.1 h; clear h
      show yP (xg xs) (d + 1) 325 95 [(0, .ref 58), (1, .retAddr 31), (2, .int l2), (3, .int l3), (4, .int l4), (5, .int l5), (6, .int l6)] [] m1 Q
      refine y_headS (l2 := [(0, .ref 58), (1, .retAddr 31), (2, .int l2), (3, .int l3), (4, .int l4), (5, .int l5)]) [0, 1, 2, 3, 4, 5] [0, 1, 2, 3, 4, 5] [0, 1, 2, 3, 4, 5, 6] rfl rfl (by decide) rfl (by decide) ?_
      exact H
    · replace H := H.2 h; clear h
      refine y_st rfl rfl rfl rfl rfl (fun _ _ => rfl) ?_
      show yP (xg xs) (d + 1) 325 94 [(0, .ref 58), (1, .retAddr 31), (2, .int l2), (3, .int l3), (4, .int l4), (5, .int l5), (6, .int l6)] [.int l4] m1 Q
      exact y_iret rfl rfl rfl H
set_option maxRecDepth 20000 in
/-- CodeMakerModel.among from 95 on -/
theorem w325s11_95 (xs : List Int32) (d : Nat) (l2 : Int32) (l3 : Int32) (l4 : Int32) (l5 : Int32) (m : yM) (Q : Option Value → yM → Prop) (H : (yC (xg xs) d 24 [.retAddr 31, .int l5] m (fun v1 m1 => ∃ u1, v1 = some (Value.int u1) ∧ ((u1 = (32 : Int32) → yP (xg xs) (d + 1) 325 22 [(0, .ref 58), (1, .retAddr 31), (2, .int l2), (3, .int l3), (4, .int (l4 + (1 : Int32))), (5, .int (l5 + (1 : Int32)))] [] m1 Q) ∧ (¬ u1 = (32 : Int32) → yP (xg xs) (d + 1) 325 95 [(0, .ref 58), (1, .retAddr 31), (2, .int l2), (3, .int l3), (4, .int l4), (5, .int (l5 + (1 : Int32)))] [] m1 Q))))) : yP (xg xs) (d + 1) 325 95 [(0, .ref 58), (1, .retAddr 31), (2, .int l2), (3, .int l3), (4, .int l4), (5, .int l5)] [] m Q := by
  refine y_st rfl rfl rfl rfl rfl (fun _ _ => rfl) ?_
  refine y_st rfl rfl rfl rfl rfl (fun _ _ => rfl) ?_
  show yP (xg xs) (d + 1) 325 98 [(0, .ref 58), (1, .retAddr 31), (2, .int l2), (3, .int l3), (4, .int l4), (5, .int l5)] [.int l5, .retAddr 31] m Q
  refine y_call rfl rfl rfl rfl rfl (Nat.le_of_ble_eq_true rfl) (Nat.le_of_ble_eq_true rfl) rfl (by decide) H (fun v1 m1 H => ?_)
  obtain ⟨u1, rfl, H⟩ := H
  refine y_st rfl rfl rfl rfl rfl (fun _ _ => rfl) ?_
  show yP (xg xs) (d + 1) 325 103 [(0, .ref 58), (1, .retAddr 31), (2, .int l2), (3, .int l3), (4, .int l4), (5, .int l5)] [.int (32 : Int32), .int u1] m1 Q
  refine y_ieq (t := 112) rfl rfl rfl (fun h => ?_) (fun h => ?_)
  · replace H := H.1 h; clear h
    refine y_st rfl rfl rfl rfl rfl (fun _ _ => rfl) ?_
    refine y_st rfl rfl rfl rfl rfl (fun _ _ => rfl) ?_
    refine y_st rfl rfl rfl rfl rfl (fun _ _ => rfl) ?_
    show yP (xg xs) (d + 1) 325 22 [(4, .int (l4 + (1 : Int32))), (5, .int (l5 + (1 : Int32))), (0, .ref 58), (1, .retAddr 31), (2, .int l2), (3, .int l3)] [] m1 Q
    refine y_headS (l2 := [(0, .ref 58), (1, .retAddr 31), (2, .int l2), (3, .int l3), (4, .int (l4 + (1 : Int32))), (5, .int (l5 + (1 : Int32)))]) [2, 3, 4, 5, 0, 1] [0, 1, 2, 3, 4, 5] [4, 5, 0, 1, 2, 3] rfl rfl (by decide) rfl (by decide) ?_
    exact H
  · replace H := H.2 h; clear h
    refine y_st rfl rfl rfl rfl rfl (fun _ _ => rfl) ?_
    refine y_st rfl rfl rfl rfl rfl (fun _ _ => rfl) ?_
    show yP (xg xs) (d + 1) 325 95 [(5, .int (l5 + (1 : Int32))), (0, .ref 58), (1, .retAddr 31), (2, .int l2), (3, .int l3), (4, .int l4)] [] m1 Q
    refine y_headS (l2 := [(0, .ref 58), (1, .retAddr 31), (2, .int l2), (3, .int l3), (4, .int l4), (5, .int (l5 + (1 : Int32)))]) [1, 2, 3, 4, 5, 0] [0, 1, 2, 3, 4, 5] [5, 0, 1, 2, 3, 4] rfl rfl (by decide) rfl (by decide) ?_
    exact H
set_option maxRecDepth 20000 in
/-- CodeMakerModel.among from 0 on -/
theorem w325s12_0 (xs : List Int32) (d : Nat) (l2 : Int32) (m : yM) (Q : Option Value → yM → Prop) (H : (x_in (l2 + (1 : Int32)) 8200 = true ∧ (x_in l2 8200 = true ∧ yP (xg xs) (d + 1) 325 22 [(0, .ref 58), (1, .retAddr 32), (2, .int l2), (3, .int ((m.1 61 ((l2 + (1 : Int32)).toNatClampNeg)) - (m.1 61 l2.toNatClampNeg))), (4, .int (0 : Int32)), (5, .int (1 : Int32))] [] m Q))) : yP (xg xs) (d + 1) 325 0 [(0, .ref 58), (1, .retAddr 32), (2, .int l2)] [] m Q := by
  refine y_st rfl rfl rfl rfl rfl (fun _ _ => rfl) ?_
  refine y_gf rfl rfl rfl rfl rfl ?_
  refine y_st rfl rfl rfl rfl rfl (fun _ _ => rfl) ?_
  refine y_st rfl rfl rfl rfl rfl (fun _ _ => rfl) ?_
  refine y_st rfl rfl rfl rfl rfl (fun _ _ => rfl) ?_
  show yP (xg xs) (d + 1) 325 7 [(0, .ref 58), (1, .retAddr 32), (2, .int l2)] [.int (l2 + (1 : Int32)), .ref 61] m Q
  refine y_iald rfl rfl rfl (H.1) ?_
  replace H := H.2
  refine y_st rfl rfl rfl rfl rfl (fun _ _ => rfl) ?_
  refine y_gf rfl rfl rfl rfl rfl ?_
  refine y_st rfl rfl rfl rfl rfl (fun _ _ => rfl) ?_
  show yP (xg xs) (d + 1) 325 13 [(0, .ref 58), (1, .retAddr 32), (2, .int l2)] [.int l2, .ref 61, .int (m.1 61 ((l2 + (1 : Int32)).toNatClampNeg))] m Q
  refine y_iald rfl rfl rfl (H.1) ?_
  replace H := H.2
  refine y_st rfl rfl rfl rfl rfl (fun _ _ => rfl) ?_
  refine y_st rfl rfl rfl rfl rfl (fun _ _ => rfl) ?_
  refine y_st rfl rfl rfl rfl rfl (fun _ _ => rfl) ?_
  refine y_st rfl rfl rfl rfl rfl (fun _ _ => rfl) ?_
  refine y_st rfl rfl rfl rfl rfl (fun _ _ => rfl) ?_
  refine y_st rfl rfl rfl rfl rfl (fun _ _ => rfl) ?_
  show yP (xg xs) (d + 1) 325 22 [(5, .int (1 : Int32)), (4, .int (0 : Int32)), (3, .int ((m.1 61 ((l2 + (1 : Int32)).toNatClampNeg)) - (m.1 61 l2.toNatClampNeg))), (0, .ref 58), (1, .retAddr 32), (2, .int l2)] [] m Q
  refine y_headS (l2 := [(0, .ref 58), (1, .retAddr 32), (2, .int l2), (3, .int ((m.1 61 ((l2 + (1 : Int32)).toNatClampNeg)) - (m.1 61 l2.toNatClampNeg))), (4, .int (0 : Int32)), (5, .int (1 : Int32))]) [3, 4, 5, 2, 1, 0] [0, 1, 2, 3, 4, 5] [5, 4, 3, 0, 1, 2] rfl rfl (by decide) rfl (by decide) ?_
  exact H
set_option maxRecDepth 20000 in
/-- CodeMakerModel.among from 22 on -/
theorem w325s12_22 (xs : List Int32) (d : Nat) (l2 : Int32) (l3 : Int32) (l4 : Int32) (l5 : Int32) (m : yM) (Q : Option Value → yM → Prop) (H : (yC (xg xs) d 22 [.retAddr 32] m (fun v1 m1 => ∃ u1, v1 = some (Value.int u1) ∧ ((u1 ≤ l5 → Q (some (.int ((-1) : Int32))) m1) ∧ (¬ u1 ≤ l5 → yP (xg xs) (d + 1) 325 34 [(0, .ref 58), (1, .retAddr 32), (2, .int l2), (3, .int l3), (4, .int l4), (5, .int l5), (6, .int (0 : Int32))] [] m1 Q))))) : yP (xg xs) (d + 1) 325 22 [(0, .ref 58), (1, .retAddr 32), (2, .int l2), (3, .int l3), (4, .int l4), (5, .int l5)] [] m Q := by
  refine y_st rfl rfl rfl rfl rfl (fun _ _ => rfl) ?_
  refine y_st rfl rfl rfl rfl rfl (fun _ _ => rfl) ?_
  show yP (xg xs) (d + 1) 325 25 [(0, .ref 58), (1, .retAddr 32), (2, .int l2), (3, .int l3), (4, .int l4), (5, .int l5)] [.retAddr 32, .int l5] m Q
  refine y_call rfl rfl rfl rfl rfl (Nat.le_of_ble_eq_true rfl) (Nat.le_of_ble_eq_true rfl) rfl (by decide) H (fun v1 m1 H => ?_)
  obtain ⟨u1, rfl, H⟩ := H
  show yP (xg xs) (d + 1) 325 28 [(0, .ref 58), (1, .retAddr 32), (2, .int l2), (3, .int l3), (4, .int l4), (5, .int l5)] [.int u1, .int l5] m1 Q
  refine y_ige (t := 121) rfl rfl rfl (fun h => ?_) (fun h => ?_)
  · replace H := H.1 h; clear h
    refine y_st rfl rfl rfl rfl rfl (fun _ _ => rfl) ?_
    show yP (xg xs) (d + 1) 325 122 [(0, .ref 58), (1, .retAddr 32), (2, .int l2), (3, .int l3), (4, .int l4), (5, .int l5)] [.int ((-1) : Int32)] m1 Q
    exact y_iret rfl rfl rfl H
  · replace H := H.2 h; clear h
    refine y_st rfl rfl rfl rfl rfl (fun _ _ => rfl) ?_
    refine y_st rfl rfl rfl rfl rfl (fun _ _ => rfl) ?_
    show yP (xg xs) (d + 1) 325 34 [(6, .int (0 : Int32)), (0, .ref 58), (1, .retAddr 32), (2, .int l2), (3, .int l3), (4, .int l4), (5, .int l5)] [] m1 Q
    refine y_headS (l2 := [(0, .ref 58), (1, .retAddr 32), (2, .int l2), (3, .int l3), (4, .int l4), (5, .int l5), (6, .int (0 : Int32))]) [1, 2, 3, 4, 5, 6, 0] [0, 1, 2, 3, 4, 5, 6] [6, 0, 1, 2, 3, 4, 5] rfl rfl (by decide) rfl (by decide) ?_
    exact H
set_option maxRecDepth 20000 in
/-- CodeMakerModel.among from 34 on -/
theorem w325s12_34 (xs : List Int32) (d : Nat) (l2 : Int32) (l3 : Int32) (l4 : Int32) (l5 : Int32) (l6 : Int32) (m : yM) (Q : Option Value → yM → Prop) (H : ((l3 ≤ l6 → yP (xg xs) (d + 1) 325 72 [(0, .ref 58), (1, .retAddr 32), (2, .int l2), (3, .int l3), (4, .int l4), (5, .int l5), (6, .int l6)] [] m Q) ∧ (¬ l3 ≤ l6 → (yC (xg xs) d 24 [.retAddr 32, .int (l5 + l6)] m (fun v1 m1 => ∃ u1, v1 = some (Value.int u1) ∧ (x_in l2 8200 = true ∧ (x_in ((m1.1 61 l2.toNatClampNeg) + l6) 8200 = true ∧ ((¬ u1 = (m1.1 60 (((m1.1 61 l2.toNatClampNeg) + l6).toNatClampNeg)) → yP (xg xs) (d + 1) 325 72 [(0, .ref 58), (1, .retAddr 32), (2, .int l2), (3, .int l3), (4, .int l4), (5, .int l5), (6, .int l6)] [] m1 Q) ∧ (u1 = (m1.1 60 (((m1.1 61 l2.toNatClampNeg) + l6).toNatClampNeg)) → yP (xg xs) (d + 1) 325 34 [(0, .ref 58), (1, .retAddr 32), (2, .int l2), (3, .int l3), (4, .int l4), (5, .int l5), (6, .int (l6 + (1 : Int32)))] [] m1 Q))))))))) : yP (xg xs) (d + 1) 325 34 [(0, .ref 58), (1, .retAddr 32), (2, .int l2), (3, .int l3), (4, .int l4), (5, .int l5), (6, .int l6)] [] m Q := by
  refine y_st rfl rfl rfl rfl rfl (fun _ _ => rfl) ?_
  refine y_st rfl rfl rfl rfl rfl (fun _ _ => rfl) ?_
  show yP (xg xs) (d + 1) 325 37 [(0, .ref 58), (1, .retAddr 32), (2, .int l2), (3, .int l3), (4, .int l4), (5, .int l5), (6, .int l6)] [.int l3, .int l6] m Q
  refine y_ige (t := 72) rfl rfl rfl (fun h => ?_) (fun h => ?_)
  · replace H := H.1 h; clear h
    show yP (xg xs) (d + 1) 325 72 [(0, .ref 58), (1, .retAddr 32), (2, .int l2), (3, .int l3), (4, .int l4), (5, .int l5), (6, .int l6)] [] m Q
    exact H
  · replace H := H.2 h; clear h
    refine y_st rfl rfl rfl rfl rfl (fun _ _ => rfl) ?_
    refine y_st rfl rfl rfl rfl rfl (fun _ _ => rfl) ?_
    refine y_st rfl rfl rfl rfl rfl (fun _ _ => rfl) ?_
    refine y_st rfl rfl rfl rfl rfl (fun _ _ => rfl) ?_
    show yP (xg xs) (d + 1) 325 46 [(0, .ref 58), (1, .retAddr 32), (2, .int l2), (3, .int l3), (4, .int l4), (5, .int l5), (6, .int l6)] [.int (l5 + l6), .retAddr 32] m Q
    refine y_call rfl rfl rfl rfl rfl (Nat.le_of_ble_eq_true rfl) (Nat.le_of_ble_eq_true rfl) rfl (by decide) H (fun v1 m1 H => ?_)
    obtain ⟨u1, rfl, H⟩ := H
    refine y_st rfl rfl rfl rfl rfl (fun _ _ => rfl) ?_
    refine y_gf rfl rfl rfl rfl rfl ?_
    refine y_st rfl rfl rfl rfl rfl (fun _ _ => rfl) ?_
    refine y_gf rfl rfl rfl rfl rfl ?_
    refine y_st rfl rfl rfl rfl rfl (fun _ _ => rfl) ?_
    show yP (xg xs) (d + 1) 325 58 [(0, .ref 58), (1, .retAddr 32), (2, .int l2), (3, .int l3), (4, .int l4), (5, .int l5), (6, .int l6)] [.int l2, .ref 61, .ref 60, .int u1] m1 Q
    refine y_iald rfl rfl rfl (H.1) ?_
    replace H := H.2
    refine y_st rfl rfl rfl rfl rfl (fun _ _ => rfl) ?_
    refine y_st rfl rfl rfl rfl rfl (fun _ _ => rfl) ?_
    show yP (xg xs) (d + 1) 325 62 [(0, .ref 58), (1, .retAddr 32), (2, .int l2), (3, .int l3), (4, .int l4), (5, .int l5), (6, .int l6)] [.int ((m1.1 61 l2.toNatClampNeg) + l6), .ref 60, .int u1] m1 Q
    refine y_bald rfl rfl rfl (by decide) (H.1) ?_
    replace H := H.2
    show yP (xg xs) (d + 1) 325 63 [(0, .ref 58), (1, .retAddr 32), (2, .int l2), (3, .int l3), (4, .int l4), (5, .int l5), (6, .int l6)] [.int (m1.1 60 (((m1.1 61 l2.toNatClampNeg) + l6).toNatClampNeg)), .int u1] m1 Q
    refine y_ine (t := 72) rfl rfl rfl (fun h => ?_) (fun h => ?_)
    · replace H := H.1 h; clear h
      show yP (xg xs) (d + 1) 325 72 [(0, .ref 58), (1, .retAddr 32), (2, .int l2), (3, .int l3), (4, .int l4), (5, .int l5), (6, .int l6)] [] m1 Q
      exact H
    · replace H := H.2 h; clear h
      refine y_st rfl rfl rfl rfl rfl (fun _ _ => rfl) ?_
      refine y_st rfl rfl rfl rfl rfl (fun _ _ => rfl) ?_
      show yP (xg xs) (d + 1) 325 34 [(6, .int (l6 + (1 : Int32))), (0, .ref 58), (1, .retAddr 32), (2, .int l2), (3, .int l3), (4, .int l4), (5, .int l5)] [] m1 Q
      refine y_headS (l2 := [(0, .ref 58), (1, .retAddr 32), (2, .int l2), (3, .int l3), (4, .int l4), (5, .int l5), (6, .int (l6 + (1 : Int32)))]) [1, 2, 3, 4, 5, 6, 0] [0, 1, 2, 3, 4, 5, 6] [6, 0, 1, 2, 3, 4, 5] rfl rfl (by decide) rfl (by decide) ?_
      exact H
set_option maxRecDepth 20000 in
/-- CodeMakerModel.among from 72 on -/
theorem w325s12_72 (xs : List Int32) (d : Nat) (l2 : Int32) (l3 : Int32) (l4 : Int32) (l5 : Int32) (l6 : Int32) (m : yM) (Q : Option Value → yM → Prop) (H : ((¬ l6 = l3 → yP (xg xs) (d + 1) 325 95 [(0, .ref 58), (1, .retAddr 32), (2, .int l2), (3, .int l3), (4, .int l4), (5, .int l5)] [] m Q) ∧ (l6 = l3 → (yC (xg xs) d 24 [.retAddr 32, .int (l5 + l6)] m (fun v1 m1 => ∃ u1, v1 = some (Value.int u1) ∧ ((¬ u1 = (32 : Int32) → yP (xg xs) (d + 1) 325 95 [(0, .ref 58), (1, .retAddr 32), (2, .int l2), (3, .int l3), (4, .int l4), (5, .int l5)] [] m1 Q) ∧ (u1 = (32 : Int32) → Q (some (.int l4)) m1))))))) : yP (xg xs) (d + 1) 325 72 [(0, .ref 58), (1, .retAddr 32), (2, .int l2), (3, .int l3), (4, .int l4), (5, .int l5), (6, .int l6)] [] m Q := by
  refine y_st rfl rfl rfl rfl rfl (fun _ _ => rfl) ?_
  refine y_st rfl rfl rfl rfl rfl (fun _ _ => rfl) ?_
  show yP (xg xs) (d + 1) 325 75 [(0, .ref 58), (1, .retAddr 32), (2, .int l2), (3, .int l3), (4, .int l4), (5, .int l5), (6, .int l6)] [.int l3, .int l6] m Q
  refine y_ine (t := 95) rfl rfl rfl (fun h => ?_) (fun h => ?_)
  · replace H := H.1 h; clear h
    show yP (xg xs) (d + 1) 325 95 [(0, .ref 58), (1, .retAddr 32), (2, .int l2), (3, .int l3), (4, .int l4), (5, .int l5), (6, .int l6)] [] m Q
    refine y_headS (l2 := [(0, .ref 58), (1, .retAddr 32), (2, .int l2), (3, .int l3), (4, .int l4), (5, .int l5)]) [0, 1, 2, 3, 4, 5] [0, 1, 2, 3, 4, 5] [0, 1, 2, 3, 4, 5, 6] rfl rfl (by decide) rfl (by decide) ?_
    exact H
  · replace H := H.2 h; clear h
    refine y_st rfl rfl rfl rfl rfl (fun _ _ => rfl) ?_
    refine y_st rfl rfl rfl rfl rfl (fun _ _ => rfl) ?_
    refine y_st rfl rfl rfl rfl rfl (fun _ _ => rfl) ?_
    refine y_st rfl rfl rfl rfl rfl (fun _ _ => rfl) ?_
    show yP (xg xs) (d + 1) 325 84 [(0, .ref 58), (1, .retAddr 32), (2, .int l2), (3, .int l3), (4, .int l4), (5, .int l5), (6, .int l6)] [.int (l5 + l6), .retAddr 32] m Q
    refine y_call rfl rfl rfl rfl rfl (Nat.le_of_ble_eq_true rfl) (Nat.le_of_ble_eq_true rfl) rfl (by decide) H (fun v1 m1 H => ?_)
    obtain ⟨u1, rfl, H⟩ := H
    refine y_st rfl rfl rfl rfl rfl (fun _ _ => rfl) ?_
    show yP (xg xs) (d + 1) 325 89 [(0, .ref 58), (1, .retAddr 32), (2, .int l2), (3, .int l3), (4, .int l4), (5, .int l5), (6, .int l6)] [.int (32 : Int32), .int u1] m1 Q
    refine y_ine (t := 95) rfl rfl rfl (fun h => ?_) (fun h => ?_)
    · replace H := H.1 h; clear h
      show yP (xg xs) (d + 1) 325 95 [(0, .ref 58), (1, .retAddr 32), (2, .int l2), (3, .int l3), (4, .int l4), (5, .int l5), (6, .int l6)] [] m1 Q
      refine y_headS (l2 := [(0, .ref 58), (1, .retAddr 32), (2, .int l2), (3, .int l3), (4, .int l4), (5, .int l5)]) [0, 1, 2, 3, 4, 5] [0, 1, 2, 3, 4, 5] [0, 1, 2, 3, 4, 5, 6] rfl rfl (by decide) rfl (by decide) ?_
      exact H
    · replace H := H.2 h; clear h
      refine y_st rfl rfl rfl rfl rfl (fun _ _ => rfl) ?_
      show yP (xg xs) (d + 1) 325 94 [(0, .ref 58), (1, .retAddr 32), (2, .int l2), (3, .int l3), (4, .int l4), (5, .int l5), (6, .int l6)] [.int l4] m1 Q
      exact y_iret rfl rfl rfl H
set_option maxRecDepth 20000 in
/-- CodeMakerModel.among from 95 on -/
theorem w325s12_95 (xs : List Int32) (d : Nat) (l2 : Int32) (l3 : Int32) (l4 : Int32) (l5 : Int32) (m : yM) (Q : Option Value → yM → Prop) (H : (yC (xg xs) d 24 [.retAddr 32, .int l5] m (fun v1 m1 => ∃ u1, v1 = some (Value.int u1) ∧ ((u1 = (32 : Int32) → yP (xg xs) (d + 1) 325 22 [(0, .ref 58), (1, .retAddr 32), (2, .int l2), (3, .int l3), (4, .int (l4 + (1 : Int32))), (5, .int (l5 + (1 : Int32)))] [] m1 Q) ∧ (¬ u1 = (32 : Int32) → yP (xg xs) (d + 1) 325 95 [(0, .ref 58), (1, .retAddr 32), (2, .int l2), (3, .int l3), (4, .int l4), (5, .int (l5 + (1 : Int32)))] [] m1 Q))))) : yP (xg xs) (d + 1) 325 95 [(0, .ref 58), (1, .retAddr 32), (2, .int l2), (3, .int l3), (4, .int l4), (5, .int l5)] [] m Q := by
  refine y_st rfl rfl rfl rfl rfl (fun _ _ => rfl) ?_
  refine y_st rfl rfl rfl rfl rfl (fun _ _ => rfl) ?_
  show yP (xg xs) (d + 1) 325 98 [(0, .ref 58), (1, .retAddr 32), (2, .int l2), (3, .int l3), (4, .int l4), (5, .int l5)] [.int l5, .retAddr 32] m Q
  refine y_call rfl rfl rfl rfl rfl (Nat.le_of_ble_eq_true rfl) (Nat.le_of_ble_eq_true rfl) rfl (by decide) H (fun v1 m1 H => ?_)
  obtain ⟨u1, rfl, H⟩ := H
  refine y_st rfl rfl rfl rfl rfl (fun _ _ => rfl) ?_
  show yP (xg xs) (d + 1) 325 103 [(0, .ref 58), (1, .retAddr 32), (2, .int l2), (3, .int l3), (4, .int l4), (5, .int l5)] [.int (32 : Int32), .int u1] m1 Q
  refine y_ieq (t := 112) rfl rfl rfl (fun h => ?_) (fun h => ?_)
  · replace H := H.1 h; clear h
    refine y_st rfl rfl rfl rfl rfl (fun _ _ => rfl) ?_
    refine y_st rfl rfl rfl rfl rfl (fun _ _ => rfl) ?_
    refine y_st rfl rfl rfl rfl rfl (fun _ _ => rfl) ?_
    show yP (xg xs) (d + 1) 325 22 [(4, .int (l4 + (1 : Int32))), (5, .int (l5 + (1 : Int32))), (0, .ref 58), (1, .retAddr 32), (2, .int l2), (3, .int l3)] [] m1 Q
    refine y_headS (l2 := [(0, .ref 58), (1, .retAddr 32), (2, .int l2), (3, .int l3), (4, .int (l4 + (1 : Int32))), (5, .int (l5 + (1 : Int32)))]) [2, 3, 4, 5, 0, 1] [0, 1, 2, 3, 4, 5] [4, 5, 0, 1, 2, 3] rfl rfl (by decide) rfl (by decide) ?_
    exact H
  · replace H := H.2 h; clear h
    refine y_st rfl rfl rfl rfl rfl (fun _ _ => rfl) ?_
    refine y_st rfl rfl rfl rfl rfl (fun _ _ => rfl) ?_
    show yP (xg xs) (d + 1) 325 95 [(5, .int (l5 + (1 : Int32))), (0, .ref 58), (1, .retAddr 32), (2, .int l2), (3, .int l3), (4, .int l4)] [] m1 Q
    refine y_headS (l2 := [(0, .ref 58), (1, .retAddr 32), (2, .int l2), (3, .int l3), (4, .int l4), (5, .int (l5 + (1 : Int32)))]) [1, 2, 3, 4, 5, 0] [0, 1, 2, 3, 4, 5] [5, 0, 1, 2, 3, 4] rfl rfl (by decide) rfl (by decide) ?_
    exact H
set_option maxRecDepth 20000 in
theorem w347k0 (xs : List Int32) (d : Nat) (m : yM) (Q : Option Value → yM → Prop) (H : Q (some (.retAddr 27)) m) : yP (xg xs) (d + 1) 347 0 [(0, .int (0 : Int32))] [] m Q := by
  refine y_st rfl rfl rfl rfl rfl (fun _ _ => rfl) ?_
  refine y_st rfl rfl rfl rfl rfl (fun _ _ => rfl) ?_
  show yP (xg xs) (d + 1) 347 2 [(0, .int (0 : Int32))] [.int (3 : Int32), .int (0 : Int32)] m Q
  refine y_ige (t := 11) rfl rfl rfl (fun h => ?_) (fun h => ?_)
  · exact absurd h (by decide)
  clear h
  refine y_st rfl rfl rfl rfl rfl (fun _ _ => rfl) ?_
  refine y_st rfl rfl rfl rfl rfl (fun _ _ => rfl) ?_
  show yP (xg xs) (d + 1) 347 60 [(0, .int (0 : Int32))] [.retAddr 27] m Q
  exact y_ret rfl rfl rfl rfl H
theorem c347_0 (xs : List Int32) (d : Nat) (m : yM) : yC (xg xs) (d + 1) 347 [.int (0 : Int32)] m (fun r m' => r = some (.retAddr 27) ∧ m' = m) := w347k0 xs d m _ ⟨rfl, rfl⟩
set_option maxRecDepth 20000 in
theorem w347k1 (xs : List Int32) (d : Nat) (m : yM) (Q : Option Value → yM → Prop) (H : Q (some (.retAddr 27)) m) : yP (xg xs) (d + 1) 347 0 [(0, .int (1 : Int32))] [] m Q := by
  refine y_st rfl rfl rfl rfl rfl (fun _ _ => rfl) ?_
  refine y_st rfl rfl rfl rfl rfl (fun _ _ => rfl) ?_
  show yP (xg xs) (d + 1) 347 2 [(0, .int (1 : Int32))] [.int (3 : Int32), .int (1 : Int32)] m Q
  refine y_ige (t := 11) rfl rfl rfl (fun h => ?_) (fun h => ?_)
  · exact absurd h (by decide)
  clear h
  refine y_st rfl rfl rfl rfl rfl (fun _ _ => rfl) ?_
  refine y_st rfl rfl rfl rfl rfl (fun _ _ => rfl) ?_
  show yP (xg xs) (d + 1) 347 60 [(0, .int (1 : Int32))] [.retAddr 27] m Q
  exact y_ret rfl rfl rfl rfl H
theorem c347_1 (xs : List Int32) (d : Nat) (m : yM) : yC (xg xs) (d + 1) 347 [.int (1 : Int32)] m (fun r m' => r = some (.retAddr 27) ∧ m' = m) := w347k1 xs d m _ ⟨rfl, rfl⟩
set_option maxRecDepth 20000 in
theorem w347k2 (xs : List Int32) (d : Nat) (m : yM) (Q : Option Value → yM → Prop) (H : Q (some (.retAddr 27)) m) : yP (xg xs) (d + 1) 347 0 [(0, .int (2 : Int32))] [] m Q := by
  refine y_st rfl rfl rfl rfl rfl (fun _ _ => rfl) ?_
  refine y_st rfl rfl rfl rfl rfl (fun _ _ => rfl) ?_
  show yP (xg xs) (d + 1) 347 2 [(0, .int (2 : Int32))] [.int (3 : Int32), .int (2 : Int32)] m Q
  refine y_ige (t := 11) rfl rfl rfl (fun h => ?_) (fun h => ?_)
  · exact absurd h (by decide)
  clear h
  refine y_st rfl rfl rfl rfl rfl (fun _ _ => rfl) ?_
  refine y_st rfl rfl rfl rfl rfl (fun _ _ => rfl) ?_
  show yP (xg xs) (d + 1) 347 60 [(0, .int (2 : Int32))] [.retAddr 27] m Q
  exact y_ret rfl rfl rfl rfl H
theorem c347_2 (xs : List Int32) (d : Nat) (m : yM) : yC (xg xs) (d + 1) 347 [.int (2 : Int32)] m (fun r m' => r = some (.retAddr 27) ∧ m' = m) := w347k2 xs d m _ ⟨rfl, rfl⟩
set_option maxRecDepth 20000 in
theorem w347k3 (xs : List Int32) (d : Nat) (m : yM) (Q : Option Value → yM → Prop) (H : Q (some (.retAddr 28)) m) : yP (xg xs) (d + 1) 347 0 [(0, .int (3 : Int32))] [] m Q := by
  refine y_st rfl rfl rfl rfl rfl (fun _ _ => rfl) ?_
  refine y_st rfl rfl rfl rfl rfl (fun _ _ => rfl) ?_
  show yP (xg xs) (d + 1) 347 2 [(0, .int (3 : Int32))] [.int (3 : Int32), .int (3 : Int32)] m Q
  refine y_ige (t := 11) rfl rfl rfl (fun h => ?_) (fun h => ?_)
  rotate_left
  · exact absurd h (by decide)
  clear h
  refine y_st rfl rfl rfl rfl rfl (fun _ _ => rfl) ?_
  refine y_st rfl rfl rfl rfl rfl (fun _ _ => rfl) ?_
  show yP (xg xs) (d + 1) 347 13 [(0, .int (3 : Int32))] [.int (3 : Int32), .int (3 : Int32)] m Q
  refine y_ine (t := 22) rfl rfl rfl (fun h => ?_) (fun h => ?_)
  · exact absurd h (by decide)
  clear h
  refine y_st rfl rfl rfl rfl rfl (fun _ _ => rfl) ?_
  refine y_st rfl rfl rfl rfl rfl (fun _ _ => rfl) ?_
  show yP (xg xs) (d + 1) 347 60 [(0, .int (3 : Int32))] [.retAddr 28] m Q
  exact y_ret rfl rfl rfl rfl H
theorem c347_3 (xs : List Int32) (d : Nat) (m : yM) : yC (xg xs) (d + 1) 347 [.int (3 : Int32)] m (fun r m' => r = some (.retAddr 28) ∧ m' = m) := w347k3 xs d m _ ⟨rfl, rfl⟩
set_option maxRecDepth 20000 in
theorem w347k4 (xs : List Int32) (d : Nat) (m : yM) (Q : Option Value → yM → Prop) (H : Q (some (.retAddr 29)) m) : yP (xg xs) (d + 1) 347 0 [(0, .int (4 : Int32))] [] m Q := by
  refine y_st rfl rfl rfl rfl rfl (fun _ _ => rfl) ?_
  refine y_st rfl rfl rfl rfl rfl (fun _ _ => rfl) ?_
  show yP (xg xs) (d + 1) 347 2 [(0, .int (4 : Int32))] [.int (3 : Int32), .int (4 : Int32)] m Q
  refine y_ige (t := 11) rfl rfl rfl (fun h => ?_) (fun h => ?_)
  rotate_left
  · exact absurd h (by decide)
  clear h
  refine y_st rfl rfl rfl rfl rfl (fun _ _ => rfl) ?_
  refine y_st rfl rfl rfl rfl rfl (fun _ _ => rfl) ?_
  show yP (xg xs) (d + 1) 347 13 [(0, .int (4 : Int32))] [.int (3 : Int32), .int (4 : Int32)] m Q
  refine y_ine (t := 22) rfl rfl rfl (fun h => ?_) (fun h => ?_)
  rotate_left
  · exact absurd h (by decide)
  clear h
  refine y_st rfl rfl rfl rfl rfl (fun _ _ => rfl) ?_
  refine y_st rfl rfl rfl rfl rfl (fun _ _ => rfl) ?_
  show yP (xg xs) (d + 1) 347 24 [(0, .int (4 : Int32))] [.int (4 : Int32), .int (4 : Int32)] m Q
  refine y_ine (t := 33) rfl rfl rfl (fun h => ?_) (fun h => ?_)
  · exact absurd h (by decide)
  clear h
  refine y_st rfl rfl rfl rfl rfl (fun _ _ => rfl) ?_
  refine y_st rfl rfl rfl rfl rfl (fun _ _ => rfl) ?_
  show yP (xg xs) (d + 1) 347 60 [(0, .int (4 : Int32))] [.retAddr 29] m Q
  exact y_ret rfl rfl rfl rfl H
theorem c347_4 (xs : List Int32) (d : Nat) (m : yM) : yC (xg xs) (d + 1) 347 [.int (4 : Int32)] m (fun r m' => r = some (.retAddr 29) ∧ m' = m) := w347k4 xs d m _ ⟨rfl, rfl⟩
set_option maxRecDepth 20000 in
theorem w347k5 (xs : List Int32) (d : Nat) (m : yM) (Q : Option Value → yM → Prop) (H : Q (some (.retAddr 30)) m) : yP (xg xs) (d + 1) 347 0 [(0, .int (5 : Int32))] [] m Q := by
  refine y_st rfl rfl rfl rfl rfl (fun _ _ => rfl) ?_
  refine y_st rfl rfl rfl rfl rfl (fun _ _ => rfl) ?_
  show yP (xg xs) (d + 1) 347 2 [(0, .int (5 : Int32))] [.int (3 : Int32), .int (5 : Int32)] m Q
  refine y_ige (t := 11) rfl rfl rfl (fun h => ?_) (fun h => ?_)
  rotate_left
  · exact absurd h (by decide)
  clear h
  refine y_st rfl rfl rfl rfl rfl (fun _ _ => rfl) ?_
  refine y_st rfl rfl rfl rfl rfl (fun _ _ => rfl) ?_
  show yP (xg xs) (d + 1) 347 13 [(0, .int (5 : Int32))] [.int (3 : Int32), .int (5 : Int32)] m Q
  refine y_ine (t := 22) rfl rfl rfl (fun h => ?_) (fun h => ?_)
  rotate_left
  · exact absurd h (by decide)
  clear h
  refine y_st rfl rfl rfl rfl rfl (fun _ _ => rfl) ?_
  refine y_st rfl rfl rfl rfl rfl (fun _ _ => rfl) ?_
  show yP (xg xs) (d + 1) 347 24 [(0, .int (5 : Int32))] [.int (4 : Int32), .int (5 : Int32)] m Q
  refine y_ine (t := 33) rfl rfl rfl (fun h => ?_) (fun h => ?_)
  rotate_left
  · exact absurd h (by decide)
  clear h
  refine y_st rfl rfl rfl rfl rfl (fun _ _ => rfl) ?_
  refine y_st rfl rfl rfl rfl rfl (fun _ _ => rfl) ?_
  show yP (xg xs) (d + 1) 347 36 [(0, .int (5 : Int32))] [.int (7 : Int32), .int (5 : Int32)] m Q
  refine y_ige (t := 45) rfl rfl rfl (fun h => ?_) (fun h => ?_)
  · exact absurd h (by decide)
  clear h
  refine y_st rfl rfl rfl rfl rfl (fun _ _ => rfl) ?_
  refine y_st rfl rfl rfl rfl rfl (fun _ _ => rfl) ?_
  show yP (xg xs) (d + 1) 347 60 [(0, .int (5 : Int32))] [.retAddr 30] m Q
  exact y_ret rfl rfl rfl rfl H
theorem c347_5 (xs : List Int32) (d : Nat) (m : yM) : yC (xg xs) (d + 1) 347 [.int (5 : Int32)] m (fun r m' => r = some (.retAddr 30) ∧ m' = m) := w347k5 xs d m _ ⟨rfl, rfl⟩
set_option maxRecDepth 20000 in
theorem w347k6 (xs : List Int32) (d : Nat) (m : yM) (Q : Option Value → yM → Prop) (H : Q (some (.retAddr 30)) m) : yP (xg xs) (d + 1) 347 0 [(0, .int (6 : Int32))] [] m Q := by
  refine y_st rfl rfl rfl rfl rfl (fun _ _ => rfl) ?_
  refine y_st rfl rfl rfl rfl rfl (fun _ _ => rfl) ?_
  show yP (xg xs) (d + 1) 347 2 [(0, .int (6 : Int32))] [.int (3 : Int32), .int (6 : Int32)] m Q
  refine y_ige (t := 11) rfl rfl rfl (fun h => ?_) (fun h => ?_)
  rotate_left
  · exact absurd h (by decide)
  clear h
  refine y_st rfl rfl rfl rfl rfl (fun _ _ => rfl) ?_
  refine y_st rfl rfl rfl rfl rfl (fun _ _ => rfl) ?_
  show yP (xg xs) (d + 1) 347 13 [(0, .int (6 : Int32))] [.int (3 : Int32), .int (6 : Int32)] m Q
  refine y_ine (t := 22) rfl rfl rfl (fun h => ?_) (fun h => ?_)
  rotate_left
  · exact absurd h (by decide)
  clear h
  refine y_st rfl rfl rfl rfl rfl (fun _ _ => rfl) ?_
  refine y_st rfl rfl rfl rfl rfl (fun _ _ => rfl) ?_
  show yP (xg xs) (d + 1) 347 24 [(0, .int (6 : Int32))] [.int (4 : Int32), .int (6 : Int32)] m Q
  refine y_ine (t := 33) rfl rfl rfl (fun h => ?_) (fun h => ?_)
  rotate_left
  · exact absurd h (by decide)
  clear h
  refine y_st rfl rfl rfl rfl rfl (fun _ _ => rfl) ?_
  refine y_st rfl rfl rfl rfl rfl (fun _ _ => rfl) ?_
  show yP (xg xs) (d + 1) 347 36 [(0, .int (6 : Int32))] [.int (7 : Int32), .int (6 : Int32)] m Q
  refine y_ige (t := 45) rfl rfl rfl (fun h => ?_) (fun h => ?_)
  · exact absurd h (by decide)
  clear h
  refine y_st rfl rfl rfl rfl rfl (fun _ _ => rfl) ?_
  refine y_st rfl rfl rfl rfl rfl (fun _ _ => rfl) ?_
  show yP (xg xs) (d + 1) 347 60 [(0, .int (6 : Int32))] [.retAddr 30] m Q
  exact y_ret rfl rfl rfl rfl H
theorem c347_6 (xs : List Int32) (d : Nat) (m : yM) : yC (xg xs) (d + 1) 347 [.int (6 : Int32)] m (fun r m' => r = some (.retAddr 30) ∧ m' = m) := w347k6 xs d m _ ⟨rfl, rfl⟩
set_option maxRecDepth 20000 in
theorem w347k7 (xs : List Int32) (d : Nat) (m : yM) (Q : Option Value → yM → Prop) (H : Q (some (.retAddr 31)) m) : yP (xg xs) (d + 1) 347 0 [(0, .int (7 : Int32))] [] m Q := by
  refine y_st rfl rfl rfl rfl rfl (fun _ _ => rfl) ?_
  refine y_st rfl rfl rfl rfl rfl (fun _ _ => rfl) ?_
  show yP (xg xs) (d + 1) 347 2 [(0, .int (7 : Int32))] [.int (3 : Int32), .int (7 : Int32)] m Q
  refine y_ige (t := 11) rfl rfl rfl (fun h => ?_) (fun h => ?_)
  rotate_left
  · exact absurd h (by decide)
  clear h
  refine y_st rfl rfl rfl rfl rfl (fun _ _ => rfl) ?_
  refine y_st rfl rfl rfl rfl rfl (fun _ _ => rfl) ?_
  show yP (xg xs) (d + 1) 347 13 [(0, .int (7 : Int32))] [.int (3 : Int32), .int (7 : Int32)] m Q
  refine y_ine (t := 22) rfl rfl rfl (fun h => ?_) (fun h => ?_)
  rotate_left
  · exact absurd h (by decide)
  clear h
  refine y_st rfl rfl rfl rfl rfl (fun _ _ => rfl) ?_
  refine y_st rfl rfl rfl rfl rfl (fun _ _ => rfl) ?_
  show yP (xg xs) (d + 1) 347 24 [(0, .int (7 : Int32))] [.int (4 : Int32), .int (7 : Int32)] m Q
  refine y_ine (t := 33) rfl rfl rfl (fun h => ?_) (fun h => ?_)
  rotate_left
  · exact absurd h (by decide)
  clear h
  refine y_st rfl rfl rfl rfl rfl (fun _ _ => rfl) ?_
  refine y_st rfl rfl rfl rfl rfl (fun _ _ => rfl) ?_
  show yP (xg xs) (d + 1) 347 36 [(0, .int (7 : Int32))] [.int (7 : Int32), .int (7 : Int32)] m Q
  refine y_ige (t := 45) rfl rfl rfl (fun h => ?_) (fun h => ?_)
  rotate_left
  · exact absurd h (by decide)
  clear h
  refine y_st rfl rfl rfl rfl rfl (fun _ _ => rfl) ?_
  refine y_st rfl rfl rfl rfl rfl (fun _ _ => rfl) ?_
  show yP (xg xs) (d + 1) 347 48 [(0, .int (7 : Int32))] [.int (7 : Int32), .int (7 : Int32)] m Q
  refine y_ine (t := 57) rfl rfl rfl (fun h => ?_) (fun h => ?_)
  · exact absurd h (by decide)
  clear h
  refine y_st rfl rfl rfl rfl rfl (fun _ _ => rfl) ?_
  refine y_st rfl rfl rfl rfl rfl (fun _ _ => rfl) ?_
  show yP (xg xs) (d + 1) 347 60 [(0, .int (7 : Int32))] [.retAddr 31] m Q
  exact y_ret rfl rfl rfl rfl H
theorem c347_7 (xs : List Int32) (d : Nat) (m : yM) : yC (xg xs) (d + 1) 347 [.int (7 : Int32)] m (fun r m' => r = some (.retAddr 31) ∧ m' = m) := w347k7 xs d m _ ⟨rfl, rfl⟩
set_option maxRecDepth 20000 in
theorem w347k8 (xs : List Int32) (d : Nat) (m : yM) (Q : Option Value → yM → Prop) (H : Q (some (.retAddr 32)) m) : yP (xg xs) (d + 1) 347 0 [(0, .int (8 : Int32))] [] m Q := by
  refine y_st rfl rfl rfl rfl rfl (fun _ _ => rfl) ?_
  refine y_st rfl rfl rfl rfl rfl (fun _ _ => rfl) ?_
  show yP (xg xs) (d + 1) 347 2 [(0, .int (8 : Int32))] [.int (3 : Int32), .int (8 : Int32)] m Q
  refine y_ige (t := 11) rfl rfl rfl (fun h => ?_) (fun h => ?_)
  rotate_left
  · exact absurd h (by decide)
  clear h
  refine y_st rfl rfl rfl rfl rfl (fun _ _ => rfl) ?_
  refine y_st rfl rfl rfl rfl rfl (fun _ _ => rfl) ?_
  show yP (xg xs) (d + 1) 347 13 [(0, .int (8 : Int32))] [.int (3 : Int32), .int (8 : Int32)] m Q
  refine y_ine (t := 22) rfl rfl rfl (fun h => ?_) (fun h => ?_)
  rotate_left
  · exact absurd h (by decide)
  clear h
  refine y_st rfl rfl rfl rfl rfl (fun _ _ => rfl) ?_
  refine y_st rfl rfl rfl rfl rfl (fun _ _ => rfl) ?_
  show yP (xg xs) (d + 1) 347 24 [(0, .int (8 : Int32))] [.int (4 : Int32), .int (8 : Int32)] m Q
  refine y_ine (t := 33) rfl rfl rfl (fun h => ?_) (fun h => ?_)
  rotate_left
  · exact absurd h (by decide)
  clear h
  refine y_st rfl rfl rfl rfl rfl (fun _ _ => rfl) ?_
  refine y_st rfl rfl rfl rfl rfl (fun _ _ => rfl) ?_
  show yP (xg xs) (d + 1) 347 36 [(0, .int (8 : Int32))] [.int (7 : Int32), .int (8 : Int32)] m Q
  refine y_ige (t := 45) rfl rfl rfl (fun h => ?_) (fun h => ?_)
  rotate_left
  · exact absurd h (by decide)
  clear h
  refine y_st rfl rfl rfl rfl rfl (fun _ _ => rfl) ?_
  refine y_st rfl rfl rfl rfl rfl (fun _ _ => rfl) ?_
  show yP (xg xs) (d + 1) 347 48 [(0, .int (8 : Int32))] [.int (7 : Int32), .int (8 : Int32)] m Q
  refine y_ine (t := 57) rfl rfl rfl (fun h => ?_) (fun h => ?_)
  rotate_left
  · exact absurd h (by decide)
  clear h
  refine y_st rfl rfl rfl rfl rfl (fun _ _ => rfl) ?_
  show yP (xg xs) (d + 1) 347 60 [(0, .int (8 : Int32))] [.retAddr 32] m Q
  exact y_ret rfl rfl rfl rfl H
theorem c347_8 (xs : List Int32) (d : Nat) (m : yM) : yC (xg xs) (d + 1) 347 [.int (8 : Int32)] m (fun r m' => r = some (.retAddr 32) ∧ m' = m) := w347k8 xs d m _ ⟨rfl, rfl⟩
set_option maxRecDepth 20000 in
/-- CodeMakerModel.pinOf from 0 on -/
theorem w346s7_0 (xs : List Int32) (d : Nat) (l1 : Int32) (l2 : Int32) (l3 : Int32) (m : yM) (Q : Option Value → yM → Prop) (H : (yC (xg xs) d 347 [.int l1] m (fun v1 m1 => v1 = some (.retAddr 27) ∧ (yC (xg xs) d 325 [.ref 58, .retAddr 27, .int l2] m1 (fun v2 m2 => ∃ u2, v2 = some (Value.int u2) ∧ yP (xg xs) (d + 1) 346 24 [(3, .int l3), (4, .retAddr 27), (5, .int u2), (6, .int (0 : Int32)), (7, .int (0 : Int32)), (8, .int (1 : Int32))] [] m2 Q))))) : yP (xg xs) (d + 1) 346 0 [(0, .ref 58), (1, .int l1), (2, .int l2), (3, .int l3)] [] m Q := by
  refine y_st rfl rfl rfl rfl rfl (fun _ _ => rfl) ?_
  show yP (xg xs) (d + 1) 346 1 [(0, .ref 58), (1, .int l1), (2, .int l2), (3, .int l3)] [.int l1] m Q
  refine y_call rfl rfl rfl rfl rfl (Nat.le_of_ble_eq_true rfl) (Nat.le_of_ble_eq_true rfl) rfl (by decide) H (fun v1 m1 H => ?_)
  obtain ⟨rfl, H⟩ := H
  refine y_st rfl rfl rfl rfl rfl (fun _ _ => rfl) ?_
  refine y_st rfl rfl rfl rfl rfl (fun _ _ => rfl) ?_
  refine y_st rfl rfl rfl rfl rfl (fun _ _ => rfl) ?_
  refine y_st rfl rfl rfl rfl rfl (fun _ _ => rfl) ?_
  show yP (xg xs) (d + 1) 346 10 [(4, .retAddr 27), (0, .ref 58), (1, .int l1), (2, .int l2), (3, .int l3)] [.int l2, .retAddr 27, .ref 58] m1 Q
  refine y_call rfl rfl rfl rfl rfl (Nat.le_of_ble_eq_true rfl) (Nat.le_of_ble_eq_true rfl) rfl (by decide) H (fun v2 m2 H => ?_)
  obtain ⟨u2, rfl, H⟩ := H
  refine y_st rfl rfl rfl rfl rfl (fun _ _ => rfl) ?_
  refine y_st rfl rfl rfl rfl rfl (fun _ _ => rfl) ?_
  refine y_st rfl rfl rfl rfl rfl (fun _ _ => rfl) ?_
  refine y_st rfl rfl rfl rfl rfl (fun _ _ => rfl) ?_
  refine y_st rfl rfl rfl rfl rfl (fun _ _ => rfl) ?_
  refine y_st rfl rfl rfl rfl rfl (fun _ _ => rfl) ?_
  refine y_st rfl rfl rfl rfl rfl (fun _ _ => rfl) ?_
  show yP (xg xs) (d + 1) 346 24 [(8, .int (1 : Int32)), (7, .int (0 : Int32)), (6, .int (0 : Int32)), (5, .int u2), (4, .retAddr 27), (0, .ref 58), (1, .int l1), (2, .int l2), (3, .int l3)] [] m2 Q
  refine y_headS (l2 := [(3, .int l3), (4, .retAddr 27), (5, .int u2), (6, .int (0 : Int32)), (7, .int (0 : Int32)), (8, .int (1 : Int32))]) [8, 4, 3, 2, 1, 0] [3, 4, 5, 6, 7, 8] [8, 7, 6, 5, 4, 0, 1, 2, 3] rfl rfl (by decide) rfl (by decide) ?_
  exact H
set_option maxRecDepth 20000 in
/-- CodeMakerModel.pinOf from 24 on -/
theorem w346s7_24 (xs : List Int32) (d : Nat) (l3 : Int32) (l5 : Int32) (l6 : Int32) (l7 : Int32) (l8 : Int32) (m : yM) (Q : Option Value → yM → Prop) (H : (yC (xg xs) d 22 [.retAddr 27] m (fun v1 m1 => ∃ u1, v1 = some (Value.int u1) ∧ ((u1 ≤ l8 → ((l5 = ((-1) : Int32) → Q (some (.int ((-1) : Int32))) m1) ∧ (¬ l5 = ((-1) : Int32) → ((l5 ≤ l6 → yP (xg xs) (d + 1) 346 103 [(4, .retAddr 27), (5, .int l5)] [.int (0 : Int32), .int l3] m1 Q) ∧ (¬ l5 ≤ l6 → yP (xg xs) (d + 1) 346 103 [(4, .retAddr 27), (5, .int l5)] [.int (1 : Int32), .int l3] m1 Q))))) ∧ (¬ u1 ≤ l8 → (yC (xg xs) d 24 [.retAddr 27, .int l8] m1 (fun v2 m2 => ∃ u2, v2 = some (Value.int u2) ∧ ((¬ u2 = (32 : Int32) → yP (xg xs) (d + 1) 346 55 [(3, .int l3), (4, .retAddr 27), (5, .int l5), (6, .int l6), (8, .int l8)] [.int l7] m2 Q) ∧ (u2 = (32 : Int32) → yP (xg xs) (d + 1) 346 55 [(3, .int l3), (4, .retAddr 27), (5, .int l5), (6, .int l6), (8, .int l8)] [.int (l7 + (1 : Int32))] m2 Q))))))))) : yP (xg xs) (d + 1) 346 24 [(3, .int l3), (4, .retAddr 27), (5, .int l5), (6, .int l6), (7, .int l7), (8, .int l8)] [] m Q := by
  refine y_st rfl rfl rfl rfl rfl (fun _ _ => rfl) ?_
  refine y_st rfl rfl rfl rfl rfl (fun _ _ => rfl) ?_
  show yP (xg xs) (d + 1) 346 28 [(3, .int l3), (4, .retAddr 27), (5, .int l5), (6, .int l6), (7, .int l7), (8, .int l8)] [.retAddr 27, .int l8] m Q
  refine y_call rfl rfl rfl rfl rfl (Nat.le_of_ble_eq_true rfl) (Nat.le_of_ble_eq_true rfl) rfl (by decide) H (fun v1 m1 H => ?_)
  obtain ⟨u1, rfl, H⟩ := H
  show yP (xg xs) (d + 1) 346 31 [(3, .int l3), (4, .retAddr 27), (5, .int l5), (6, .int l6), (7, .int l7), (8, .int l8)] [.int u1, .int l8] m1 Q
  refine y_ige (t := 84) rfl rfl rfl (fun h => ?_) (fun h => ?_)
  · replace H := H.1 h; clear h
    refine y_st rfl rfl rfl rfl rfl (fun _ _ => rfl) ?_
    refine y_st rfl rfl rfl rfl rfl (fun _ _ => rfl) ?_
    show yP (xg xs) (d + 1) 346 87 [(3, .int l3), (4, .retAddr 27), (5, .int l5), (6, .int l6), (7, .int l7), (8, .int l8)] [.int ((-1) : Int32), .int l5] m1 Q
    refine y_ieq (t := 106) rfl rfl rfl (fun h => ?_) (fun h => ?_)
    · replace H := H.1 h; clear h
      refine y_st rfl rfl rfl rfl rfl (fun _ _ => rfl) ?_
      show yP (xg xs) (d + 1) 346 107 [(3, .int l3), (4, .retAddr 27), (5, .int l5), (6, .int l6), (7, .int l7), (8, .int l8)] [.int ((-1) : Int32)] m1 Q
      exact y_iret rfl rfl rfl H
    · replace H := H.2 h; clear h
      refine y_st rfl rfl rfl rfl rfl (fun _ _ => rfl) ?_
      refine y_st rfl rfl rfl rfl rfl (fun _ _ => rfl) ?_
      refine y_st rfl rfl rfl rfl rfl (fun _ _ => rfl) ?_
      show yP (xg xs) (d + 1) 346 95 [(3, .int l3), (4, .retAddr 27), (5, .int l5), (6, .int l6), (7, .int l7), (8, .int l8)] [.int l6, .int l5, .int l3] m1 Q
      refine y_ile (t := 102) rfl rfl rfl (fun h => ?_) (fun h => ?_)
      · replace H := H.1 h; clear h
        refine y_st rfl rfl rfl rfl rfl (fun _ _ => rfl) ?_
        show yP (xg xs) (d + 1) 346 103 [(3, .int l3), (4, .retAddr 27), (5, .int l5), (6, .int l6), (7, .int l7), (8, .int l8)] [.int (0 : Int32), .int l3] m1 Q
        refine y_headS (l2 := [(4, .retAddr 27), (5, .int l5)]) [1, 2] [4, 5] [3, 4, 5, 6, 7, 8] rfl rfl (by decide) rfl (by decide) ?_
        exact H
      · replace H := H.2 h; clear h
        refine y_st rfl rfl rfl rfl rfl (fun _ _ => rfl) ?_
        refine y_st rfl rfl rfl rfl rfl (fun _ _ => rfl) ?_
        show yP (xg xs) (d + 1) 346 103 [(3, .int l3), (4, .retAddr 27), (5, .int l5), (6, .int l6), (7, .int l7), (8, .int l8)] [.int (1 : Int32), .int l3] m1 Q
        refine y_headS (l2 := [(4, .retAddr 27), (5, .int l5)]) [1, 2] [4, 5] [3, 4, 5, 6, 7, 8] rfl rfl (by decide) rfl (by decide) ?_
        exact H
  · replace H := H.2 h; clear h
    refine y_st rfl rfl rfl rfl rfl (fun _ _ => rfl) ?_
    refine y_st rfl rfl rfl rfl rfl (fun _ _ => rfl) ?_
    show yP (xg xs) (d + 1) 346 38 [(3, .int l3), (4, .retAddr 27), (5, .int l5), (6, .int l6), (7, .int l7), (8, .int l8)] [.int l8, .retAddr 27] m1 Q
    refine y_call rfl rfl rfl rfl rfl (Nat.le_of_ble_eq_true rfl) (Nat.le_of_ble_eq_true rfl) rfl (by decide) H (fun v2 m2 H => ?_)
    obtain ⟨u2, rfl, H⟩ := H
    refine y_st rfl rfl rfl rfl rfl (fun _ _ => rfl) ?_
    show yP (xg xs) (d + 1) 346 43 [(3, .int l3), (4, .retAddr 27), (5, .int l5), (6, .int l6), (7, .int l7), (8, .int l8)] [.int (32 : Int32), .int u2] m2 Q
    refine y_ine (t := 53) rfl rfl rfl (fun h => ?_) (fun h => ?_)
    · replace H := H.1 h; clear h
      refine y_st rfl rfl rfl rfl rfl (fun _ _ => rfl) ?_
      show yP (xg xs) (d + 1) 346 55 [(3, .int l3), (4, .retAddr 27), (5, .int l5), (6, .int l6), (7, .int l7), (8, .int l8)] [.int l7] m2 Q
      refine y_headS (l2 := [(3, .int l3), (4, .retAddr 27), (5, .int l5), (6, .int l6), (8, .int l8)]) [0, 1, 2, 3, 5] [3, 4, 5, 6, 8] [3, 4, 5, 6, 7, 8] rfl rfl (by decide) rfl (by decide) ?_
      exact H
    · replace H := H.2 h; clear h
      refine y_st rfl rfl rfl rfl rfl (fun _ _ => rfl) ?_
      refine y_st rfl rfl rfl rfl rfl (fun _ _ => rfl) ?_
      refine y_st rfl rfl rfl rfl rfl (fun _ _ => rfl) ?_
      refine y_st rfl rfl rfl rfl rfl (fun _ _ => rfl) ?_
      show yP (xg xs) (d + 1) 346 55 [(3, .int l3), (4, .retAddr 27), (5, .int l5), (6, .int l6), (7, .int l7), (8, .int l8)] [.int (l7 + (1 : Int32))] m2 Q
      refine y_headS (l2 := [(3, .int l3), (4, .retAddr 27), (5, .int l5), (6, .int l6), (8, .int l8)]) [0, 1, 2, 3, 5] [3, 4, 5, 6, 8] [3, 4, 5, 6, 7, 8] rfl rfl (by decide) rfl (by decide) ?_
      exact H
set_option maxRecDepth 20000 in
/-- CodeMakerModel.pinOf from 55 on -/
theorem w346s7_55 (xs : List Int32) (d : Nat) (l3 : Int32) (l5 : Int32) (l6 : Int32) (l8 : Int32) (s0 : Int32) (m : yM) (Q : Option Value → yM → Prop) (H : (yC (xg xs) d 24 [.retAddr 27, .int l8] m (fun v1 m1 => ∃ u1, v1 = some (Value.int u1) ∧ ((¬ u1 = (124 : Int32) → yP (xg xs) (d + 1) 346 76 [(3, .int l3), (4, .retAddr 27), (5, .int l5), (7, .int s0), (8, .int l8)] [.int l6] m1 Q) ∧ (u1 = (124 : Int32) → yP (xg xs) (d + 1) 346 76 [(3, .int l3), (4, .retAddr 27), (5, .int l5), (7, .int s0), (8, .int l8)] [.int s0] m1 Q))))) : yP (xg xs) (d + 1) 346 55 [(3, .int l3), (4, .retAddr 27), (5, .int l5), (6, .int l6), (8, .int l8)] [.int s0] m Q := by
  refine y_st rfl rfl rfl rfl rfl (fun _ _ => rfl) ?_
  refine y_st rfl rfl rfl rfl rfl (fun _ _ => rfl) ?_
  refine y_st rfl rfl rfl rfl rfl (fun _ _ => rfl) ?_
  show yP (xg xs) (d + 1) 346 61 [(7, .int s0), (3, .int l3), (4, .retAddr 27), (5, .int l5), (6, .int l6), (8, .int l8)] [.int l8, .retAddr 27] m Q
  refine y_call rfl rfl rfl rfl rfl (Nat.le_of_ble_eq_true rfl) (Nat.le_of_ble_eq_true rfl) rfl (by decide) H (fun v1 m1 H => ?_)
  obtain ⟨u1, rfl, H⟩ := H
  refine y_st rfl rfl rfl rfl rfl (fun _ _ => rfl) ?_
  show yP (xg xs) (d + 1) 346 66 [(7, .int s0), (3, .int l3), (4, .retAddr 27), (5, .int l5), (6, .int l6), (8, .int l8)] [.int (124 : Int32), .int u1] m1 Q
  refine y_ine (t := 74) rfl rfl rfl (fun h => ?_) (fun h => ?_)
  · replace H := H.1 h; clear h
    refine y_st rfl rfl rfl rfl rfl (fun _ _ => rfl) ?_
    show yP (xg xs) (d + 1) 346 76 [(7, .int s0), (3, .int l3), (4, .retAddr 27), (5, .int l5), (6, .int l6), (8, .int l8)] [.int l6] m1 Q
    refine y_headS (l2 := [(3, .int l3), (4, .retAddr 27), (5, .int l5), (7, .int s0), (8, .int l8)]) [1, 2, 3, 0, 5] [3, 4, 5, 7, 8] [7, 3, 4, 5, 6, 8] rfl rfl (by decide) rfl (by decide) ?_
    exact H
  · replace H := H.2 h; clear h
    refine y_st rfl rfl rfl rfl rfl (fun _ _ => rfl) ?_
    refine y_st rfl rfl rfl rfl rfl (fun _ _ => rfl) ?_
    show yP (xg xs) (d + 1) 346 76 [(7, .int s0), (3, .int l3), (4, .retAddr 27), (5, .int l5), (6, .int l6), (8, .int l8)] [.int s0] m1 Q
    refine y_headS (l2 := [(3, .int l3), (4, .retAddr 27), (5, .int l5), (7, .int s0), (8, .int l8)]) [1, 2, 3, 0, 5] [3, 4, 5, 7, 8] [7, 3, 4, 5, 6, 8] rfl rfl (by decide) rfl (by decide) ?_
    exact H
set_option maxRecDepth 20000 in
/-- CodeMakerModel.pinOf from 76 on -/
theorem w346s7_76 (xs : List Int32) (d : Nat) (l3 : Int32) (l5 : Int32) (l7 : Int32) (l8 : Int32) (s0 : Int32) (m : yM) (Q : Option Value → yM → Prop) (H : yP (xg xs) (d + 1) 346 24 [(3, .int l3), (4, .retAddr 27), (5, .int l5), (6, .int s0), (7, .int l7), (8, .int (l8 + (1 : Int32)))] [] m Q) : yP (xg xs) (d + 1) 346 76 [(3, .int l3), (4, .retAddr 27), (5, .int l5), (7, .int l7), (8, .int l8)] [.int s0] m Q := by
  refine y_st rfl rfl rfl rfl rfl (fun _ _ => rfl) ?_
  refine y_st rfl rfl rfl rfl rfl (fun _ _ => rfl) ?_
  refine y_st rfl rfl rfl rfl rfl (fun _ _ => rfl) ?_
  show yP (xg xs) (d + 1) 346 24 [(8, .int (l8 + (1 : Int32))), (6, .int s0), (3, .int l3), (4, .retAddr 27), (5, .int l5), (7, .int l7)] [] m Q
  refine y_headS (l2 := [(3, .int l3), (4, .retAddr 27), (5, .int l5), (6, .int s0), (7, .int l7), (8, .int (l8 + (1 : Int32)))]) [2, 3, 4, 1, 5, 0] [3, 4, 5, 6, 7, 8] [8, 6, 3, 4, 5, 7] rfl rfl (by decide) rfl (by decide) ?_
  exact H
set_option maxRecDepth 20000 in
/-- CodeMakerModel.pinOf from 103 on -/
theorem w346s7_103 (xs : List Int32) (d : Nat) (l5 : Int32) (s0 : Int32) (s1 : Int32) (m : yM) (Q : Option Value → yM → Prop) (H : ((s0 = s1 → yP (xg xs) (d + 1) 346 114 [(4, .retAddr 27), (5, .int l5), (8, .int (1 : Int32)), (9, .int (0 : Int32))] [] m Q) ∧ (¬ s0 = s1 → Q (some (.int ((-1) : Int32))) m))) : yP (xg xs) (d + 1) 346 103 [(4, .retAddr 27), (5, .int l5)] [.int s1, .int s0] m Q := by
  show yP (xg xs) (d + 1) 346 103 [(4, .retAddr 27), (5, .int l5)] [.int s1, .int s0] m Q
  refine y_ieq (t := 108) rfl rfl rfl (fun h => ?_) (fun h => ?_)
  · replace H := H.1 h; clear h
    refine y_st rfl rfl rfl rfl rfl (fun _ _ => rfl) ?_
    refine y_st rfl rfl rfl rfl rfl (fun _ _ => rfl) ?_
    refine y_st rfl rfl rfl rfl rfl (fun _ _ => rfl) ?_
    refine y_st rfl rfl rfl rfl rfl (fun _ _ => rfl) ?_
    show yP (xg xs) (d + 1) 346 114 [(9, .int (0 : Int32)), (8, .int (1 : Int32)), (4, .retAddr 27), (5, .int l5)] [] m Q
    refine y_headS (l2 := [(4, .retAddr 27), (5, .int l5), (8, .int (1 : Int32)), (9, .int (0 : Int32))]) [2, 3, 1, 0] [4, 5, 8, 9] [9, 8, 4, 5] rfl rfl (by decide) rfl (by decide) ?_
    exact H
  · replace H := H.2 h; clear h
    refine y_st rfl rfl rfl rfl rfl (fun _ _ => rfl) ?_
    show yP (xg xs) (d + 1) 346 107 [(4, .retAddr 27), (5, .int l5)] [.int ((-1) : Int32)] m Q
    exact y_iret rfl rfl rfl H
set_option maxRecDepth 20000 in
/-- CodeMakerModel.pinOf from 114 on -/
theorem w346s7_114 (xs : List Int32) (d : Nat) (l5 : Int32) (l8 : Int32) (l9 : Int32) (m : yM) (Q : Option Value → yM → Prop) (H : ((l5 < l9 → (yC (xg xs) d 24 [.retAddr 27, .int l8] m (fun v1 m1 => ∃ u1, v1 = some (Value.int u1) ∧ (yC (xg xs) d 24 [.retAddr 27, .int (l8 + (1 : Int32))] m1 (fun v2 m2 => ∃ u2, v2 = some (Value.int u2) ∧ Q (some (.int ((((10 : Int32) * (u1 - (48 : Int32))) + u2) - (48 : Int32)))) m2))))) ∧ (¬ l5 < l9 → (yC (xg xs) d 24 [.retAddr 27, .int l8] m (fun v3 m3 => ∃ u3, v3 = some (Value.int u3) ∧ ((¬ u3 = (32 : Int32) → yP (xg xs) (d + 1) 346 142 [(4, .retAddr 27), (5, .int l5), (8, .int l8)] [.int l9] m3 Q) ∧ (u3 = (32 : Int32) → yP (xg xs) (d + 1) 346 142 [(4, .retAddr 27), (5, .int l5), (8, .int l8)] [.int (l9 + (1 : Int32))] m3 Q))))))) : yP (xg xs) (d + 1) 346 114 [(4, .retAddr 27), (5, .int l5), (8, .int l8), (9, .int l9)] [] m Q := by
  refine y_st rfl rfl rfl rfl rfl (fun _ _ => rfl) ?_
  refine y_st rfl rfl rfl rfl rfl (fun _ _ => rfl) ?_
  show yP (xg xs) (d + 1) 346 118 [(4, .retAddr 27), (5, .int l5), (8, .int l8), (9, .int l9)] [.int l5, .int l9] m Q
  refine y_igt (t := 150) rfl rfl rfl (fun h => ?_) (fun h => ?_)
  · replace H := H.1 h; clear h
    refine y_st rfl rfl rfl rfl rfl (fun _ _ => rfl) ?_
    refine y_st rfl rfl rfl rfl rfl (fun _ _ => rfl) ?_
    refine y_st rfl rfl rfl rfl rfl (fun _ _ => rfl) ?_
    show yP (xg xs) (d + 1) 346 156 [(4, .retAddr 27), (5, .int l5), (8, .int l8), (9, .int l9)] [.int l8, .retAddr 27, .int (10 : Int32)] m Q
    refine y_call rfl rfl rfl rfl rfl (Nat.le_of_ble_eq_true rfl) (Nat.le_of_ble_eq_true rfl) rfl (by decide) H (fun v1 m1 H => ?_)
    obtain ⟨u1, rfl, H⟩ := H
    refine y_st rfl rfl rfl rfl rfl (fun _ _ => rfl) ?_
    refine y_st rfl rfl rfl rfl rfl (fun _ _ => rfl) ?_
    refine y_st rfl rfl rfl rfl rfl (fun _ _ => rfl) ?_
    refine y_st rfl rfl rfl rfl rfl (fun _ _ => rfl) ?_
    refine y_st rfl rfl rfl rfl rfl (fun _ _ => rfl) ?_
    refine y_st rfl rfl rfl rfl rfl (fun _ _ => rfl) ?_
    refine y_st rfl rfl rfl rfl rfl (fun _ _ => rfl) ?_
    show yP (xg xs) (d + 1) 346 169 [(4, .retAddr 27), (5, .int l5), (8, .int l8), (9, .int l9)] [.int (l8 + (1 : Int32)), .retAddr 27, .int ((10 : Int32) * (u1 - (48 : Int32)))] m1 Q
    refine y_call rfl rfl rfl rfl rfl (Nat.le_of_ble_eq_true rfl) (Nat.le_of_ble_eq_true rfl) rfl (by decide) H (fun v2 m2 H => ?_)
    obtain ⟨u2, rfl, H⟩ := H
    refine y_st rfl rfl rfl rfl rfl (fun _ _ => rfl) ?_
    refine y_st rfl rfl rfl rfl rfl (fun _ _ => rfl) ?_
    refine y_st rfl rfl rfl rfl rfl (fun _ _ => rfl) ?_
    show yP (xg xs) (d + 1) 346 176 [(4, .retAddr 27), (5, .int l5), (8, .int l8), (9, .int l9)] [.int ((((10 : Int32) * (u1 - (48 : Int32))) + u2) - (48 : Int32))] m2 Q
    exact y_iret rfl rfl rfl H
  · replace H := H.2 h; clear h
    refine y_st rfl rfl rfl rfl rfl (fun _ _ => rfl) ?_
    refine y_st rfl rfl rfl rfl rfl (fun _ _ => rfl) ?_
    show yP (xg xs) (d + 1) 346 125 [(4, .retAddr 27), (5, .int l5), (8, .int l8), (9, .int l9)] [.int l8, .retAddr 27] m Q
    refine y_call rfl rfl rfl rfl rfl (Nat.le_of_ble_eq_true rfl) (Nat.le_of_ble_eq_true rfl) rfl (by decide) H (fun v3 m3 H => ?_)
    obtain ⟨u3, rfl, H⟩ := H
    refine y_st rfl rfl rfl rfl rfl (fun _ _ => rfl) ?_
    show yP (xg xs) (d + 1) 346 130 [(4, .retAddr 27), (5, .int l5), (8, .int l8), (9, .int l9)] [.int (32 : Int32), .int u3] m3 Q
    refine y_ine (t := 140) rfl rfl rfl (fun h => ?_) (fun h => ?_)
    · replace H := H.1 h; clear h
      refine y_st rfl rfl rfl rfl rfl (fun _ _ => rfl) ?_
      show yP (xg xs) (d + 1) 346 142 [(4, .retAddr 27), (5, .int l5), (8, .int l8), (9, .int l9)] [.int l9] m3 Q
      refine y_headS (l2 := [(4, .retAddr 27), (5, .int l5), (8, .int l8)]) [0, 1, 2] [4, 5, 8] [4, 5, 8, 9] rfl rfl (by decide) rfl (by decide) ?_
      exact H
    · replace H := H.2 h; clear h
      refine y_st rfl rfl rfl rfl rfl (fun _ _ => rfl) ?_
      refine y_st rfl rfl rfl rfl rfl (fun _ _ => rfl) ?_
      refine y_st rfl rfl rfl rfl rfl (fun _ _ => rfl) ?_
      refine y_st rfl rfl rfl rfl rfl (fun _ _ => rfl) ?_
      show yP (xg xs) (d + 1) 346 142 [(4, .retAddr 27), (5, .int l5), (8, .int l8), (9, .int l9)] [.int (l9 + (1 : Int32))] m3 Q
      refine y_headS (l2 := [(4, .retAddr 27), (5, .int l5), (8, .int l8)]) [0, 1, 2] [4, 5, 8] [4, 5, 8, 9] rfl rfl (by decide) rfl (by decide) ?_
      exact H
set_option maxRecDepth 20000 in
/-- CodeMakerModel.pinOf from 142 on -/
theorem w346s7_142 (xs : List Int32) (d : Nat) (l5 : Int32) (l8 : Int32) (s0 : Int32) (m : yM) (Q : Option Value → yM → Prop) (H : yP (xg xs) (d + 1) 346 114 [(4, .retAddr 27), (5, .int l5), (8, .int (l8 + (1 : Int32))), (9, .int s0)] [] m Q) : yP (xg xs) (d + 1) 346 142 [(4, .retAddr 27), (5, .int l5), (8, .int l8)] [.int s0] m Q := by
  refine y_st rfl rfl rfl rfl rfl (fun _ _ => rfl) ?_
  refine y_st rfl rfl rfl rfl rfl (fun _ _ => rfl) ?_
  refine y_st rfl rfl rfl rfl rfl (fun _ _ => rfl) ?_
  show yP (xg xs) (d + 1) 346 114 [(8, .int (l8 + (1 : Int32))), (9, .int s0), (4, .retAddr 27), (5, .int l5)] [] m Q
  refine y_headS (l2 := [(4, .retAddr 27), (5, .int l5), (8, .int (l8 + (1 : Int32))), (9, .int s0)]) [2, 3, 0, 1] [4, 5, 8, 9] [8, 9, 4, 5] rfl rfl (by decide) rfl (by decide) ?_
  exact H
set_option maxRecDepth 20000 in
/-- CodeMakerModel.pinOf from 0 on -/
theorem w346s8_0 (xs : List Int32) (d : Nat) (l1 : Int32) (l2 : Int32) (l3 : Int32) (m : yM) (Q : Option Value → yM → Prop) (H : (yC (xg xs) d 347 [.int l1] m (fun v1 m1 => v1 = some (.retAddr 28) ∧ (yC (xg xs) d 325 [.ref 58, .retAddr 28, .int l2] m1 (fun v2 m2 => ∃ u2, v2 = some (Value.int u2) ∧ yP (xg xs) (d + 1) 346 24 [(3, .int l3), (4, .retAddr 28), (5, .int u2), (6, .int (0 : Int32)), (7, .int (0 : Int32)), (8, .int (1 : Int32))] [] m2 Q))))) : yP (xg xs) (d + 1) 346 0 [(0, .ref 58), (1, .int l1), (2, .int l2), (3, .int l3)] [] m Q := by
  refine y_st rfl rfl rfl rfl rfl (fun _ _ => rfl) ?_
  show yP (xg xs) (d + 1) 346 1 [(0, .ref 58), (1, .int l1), (2, .int l2), (3, .int l3)] [.int l1] m Q
  refine y_call rfl rfl rfl rfl rfl (Nat.le_of_ble_eq_true rfl) (Nat.le_of_ble_eq_true rfl) rfl (by decide) H (fun v1 m1 H => ?_)
  obtain ⟨rfl, H⟩ := H
  refine y_st rfl rfl rfl rfl rfl (fun _ _ => rfl) ?_
  refine y_st rfl rfl rfl rfl rfl (fun _ _ => rfl) ?_
  refine y_st rfl rfl rfl rfl rfl (fun _ _ => rfl) ?_
  refine y_st rfl rfl rfl rfl rfl (fun _ _ => rfl) ?_
  show yP (xg xs) (d + 1) 346 10 [(4, .retAddr 28), (0, .ref 58), (1, .int l1), (2, .int l2), (3, .int l3)] [.int l2, .retAddr 28, .ref 58] m1 Q
  refine y_call rfl rfl rfl rfl rfl (Nat.le_of_ble_eq_true rfl) (Nat.le_of_ble_eq_true rfl) rfl (by decide) H (fun v2 m2 H => ?_)
  obtain ⟨u2, rfl, H⟩ := H
  refine y_st rfl rfl rfl rfl rfl (fun _ _ => rfl) ?_
  refine y_st rfl rfl rfl rfl rfl (fun _ _ => rfl) ?_
  refine y_st rfl rfl rfl rfl rfl (fun _ _ => rfl) ?_
  refine y_st rfl rfl rfl rfl rfl (fun _ _ => rfl) ?_
  refine y_st rfl rfl rfl rfl rfl (fun _ _ => rfl) ?_
  refine y_st rfl rfl rfl rfl rfl (fun _ _ => rfl) ?_
  refine y_st rfl rfl rfl rfl rfl (fun _ _ => rfl) ?_
  show yP (xg xs) (d + 1) 346 24 [(8, .int (1 : Int32)), (7, .int (0 : Int32)), (6, .int (0 : Int32)), (5, .int u2), (4, .retAddr 28), (0, .ref 58), (1, .int l1), (2, .int l2), (3, .int l3)] [] m2 Q
  refine y_headS (l2 := [(3, .int l3), (4, .retAddr 28), (5, .int u2), (6, .int (0 : Int32)), (7, .int (0 : Int32)), (8, .int (1 : Int32))]) [8, 4, 3, 2, 1, 0] [3, 4, 5, 6, 7, 8] [8, 7, 6, 5, 4, 0, 1, 2, 3] rfl rfl (by decide) rfl (by decide) ?_
  exact H
set_option maxRecDepth 20000 in
/-- CodeMakerModel.pinOf from 24 on -/
theorem w346s8_24 (xs : List Int32) (d : Nat) (l3 : Int32) (l5 : Int32) (l6 : Int32) (l7 : Int32) (l8 : Int32) (m : yM) (Q : Option Value → yM → Prop) (H : (yC (xg xs) d 22 [.retAddr 28] m (fun v1 m1 => ∃ u1, v1 = some (Value.int u1) ∧ ((u1 ≤ l8 → ((l5 = ((-1) : Int32) → Q (some (.int ((-1) : Int32))) m1) ∧ (¬ l5 = ((-1) : Int32) → ((l5 ≤ l6 → yP (xg xs) (d + 1) 346 103 [(4, .retAddr 28), (5, .int l5)] [.int (0 : Int32), .int l3] m1 Q) ∧ (¬ l5 ≤ l6 → yP (xg xs) (d + 1) 346 103 [(4, .retAddr 28), (5, .int l5)] [.int (1 : Int32), .int l3] m1 Q))))) ∧ (¬ u1 ≤ l8 → (yC (xg xs) d 24 [.retAddr 28, .int l8] m1 (fun v2 m2 => ∃ u2, v2 = some (Value.int u2) ∧ ((¬ u2 = (32 : Int32) → yP (xg xs) (d + 1) 346 55 [(3, .int l3), (4, .retAddr 28), (5, .int l5), (6, .int l6), (8, .int l8)] [.int l7] m2 Q) ∧ (u2 = (32 : Int32) → yP (xg xs) (d + 1) 346 55 [(3, .int l3), (4, .retAddr 28), (5, .int l5), (6, .int l6), (8, .int l8)] [.int (l7 + (1 : Int32))] m2 Q))))))))) : yP (xg xs) (d + 1) 346 24 [(3, .int l3), (4, .retAddr 28), (5, .int l5), (6, .int l6), (7, .int l7), (8, .int l8)] [] m Q := by
  refine y_st rfl rfl rfl rfl rfl (fun _ _ => rfl) ?_
  refine y_st rfl rfl rfl rfl rfl (fun _ _ => rfl) ?_
  show yP (xg xs) (d + 1) 346 28 [(3, .int l3), (4, .retAddr 28), (5, .int l5), (6, .int l6), (7, .int l7), (8, .int l8)] [.retAddr 28, .int l8] m Q
  refine y_call rfl rfl rfl rfl rfl (Nat.le_of_ble_eq_true rfl) (Nat.le_of_ble_eq_true rfl) rfl (by decide) H (fun v1 m1 H => ?_)
  obtain ⟨u1, rfl, H⟩ := H
  show yP (xg xs) (d + 1) 346 31 [(3, .int l3), (4, .retAddr 28), (5, .int l5), (6, .int l6), (7, .int l7), (8, .int l8)] [.int u1, .int l8] m1 Q
  refine y_ige (t := 84) rfl rfl rfl (fun h => ?_) (fun h => ?_)
  · replace H := H.1 h; clear h
    refine y_st rfl rfl rfl rfl rfl (fun _ _ => rfl) ?_
    refine y_st rfl rfl rfl rfl rfl (fun _ _ => rfl) ?_
    show yP (xg xs) (d + 1) 346 87 [(3, .int l3), (4, .retAddr 28), (5, .int l5), (6, .int l6), (7, .int l7), (8, .int l8)] [.int ((-1) : Int32), .int l5] m1 Q
    refine y_ieq (t := 106) rfl rfl rfl (fun h => ?_) (fun h => ?_)
    · replace H := H.1 h; clear h
      refine y_st rfl rfl rfl rfl rfl (fun _ _ => rfl) ?_
      show yP (xg xs) (d + 1) 346 107 [(3, .int l3), (4, .retAddr 28), (5, .int l5), (6, .int l6), (7, .int l7), (8, .int l8)] [.int ((-1) : Int32)] m1 Q
      exact y_iret rfl rfl rfl H
    · replace H := H.2 h; clear h
      refine y_st rfl rfl rfl rfl rfl (fun _ _ => rfl) ?_
      refine y_st rfl rfl rfl rfl rfl (fun _ _ => rfl) ?_
      refine y_st rfl rfl rfl rfl rfl (fun _ _ => rfl) ?_
      show yP (xg xs) (d + 1) 346 95 [(3, .int l3), (4, .retAddr 28), (5, .int l5), (6, .int l6), (7, .int l7), (8, .int l8)] [.int l6, .int l5, .int l3] m1 Q
      refine y_ile (t := 102) rfl rfl rfl (fun h => ?_) (fun h => ?_)
      · replace H := H.1 h; clear h
        refine y_st rfl rfl rfl rfl rfl (fun _ _ => rfl) ?_
        show yP (xg xs) (d + 1) 346 103 [(3, .int l3), (4, .retAddr 28), (5, .int l5), (6, .int l6), (7, .int l7), (8, .int l8)] [.int (0 : Int32), .int l3] m1 Q
        refine y_headS (l2 := [(4, .retAddr 28), (5, .int l5)]) [1, 2] [4, 5] [3, 4, 5, 6, 7, 8] rfl rfl (by decide) rfl (by decide) ?_
        exact H
      · replace H := H.2 h; clear h
        refine y_st rfl rfl rfl rfl rfl (fun _ _ => rfl) ?_
        refine y_st rfl rfl rfl rfl rfl (fun _ _ => rfl) ?_
        show yP (xg xs) (d + 1) 346 103 [(3, .int l3), (4, .retAddr 28), (5, .int l5), (6, .int l6), (7, .int l7), (8, .int l8)] [.int (1 : Int32), .int l3] m1 Q
        refine y_headS (l2 := [(4, .retAddr 28), (5, .int l5)]) [1, 2] [4, 5] [3, 4, 5, 6, 7, 8] rfl rfl (by decide) rfl (by decide) ?_
        exact H
  · replace H := H.2 h; clear h
    refine y_st rfl rfl rfl rfl rfl (fun _ _ => rfl) ?_
    refine y_st rfl rfl rfl rfl rfl (fun _ _ => rfl) ?_
    show yP (xg xs) (d + 1) 346 38 [(3, .int l3), (4, .retAddr 28), (5, .int l5), (6, .int l6), (7, .int l7), (8, .int l8)] [.int l8, .retAddr 28] m1 Q
    refine y_call rfl rfl rfl rfl rfl (Nat.le_of_ble_eq_true rfl) (Nat.le_of_ble_eq_true rfl) rfl (by decide) H (fun v2 m2 H => ?_)
    obtain ⟨u2, rfl, H⟩ := H
    refine y_st rfl rfl rfl rfl rfl (fun _ _ => rfl) ?_
    show yP (xg xs) (d + 1) 346 43 [(3, .int l3), (4, .retAddr 28), (5, .int l5), (6, .int l6), (7, .int l7), (8, .int l8)] [.int (32 : Int32), .int u2] m2 Q
    refine y_ine (t := 53) rfl rfl rfl (fun h => ?_) (fun h => ?_)
    · replace H := H.1 h; clear h
      refine y_st rfl rfl rfl rfl rfl (fun _ _ => rfl) ?_
      show yP (xg xs) (d + 1) 346 55 [(3, .int l3), (4, .retAddr 28), (5, .int l5), (6, .int l6), (7, .int l7), (8, .int l8)] [.int l7] m2 Q
      refine y_headS (l2 := [(3, .int l3), (4, .retAddr 28), (5, .int l5), (6, .int l6), (8, .int l8)]) [0, 1, 2, 3, 5] [3, 4, 5, 6, 8] [3, 4, 5, 6, 7, 8] rfl rfl (by decide) rfl (by decide) ?_
      exact H
    · replace H := H.2 h; clear h
      refine y_st rfl rfl rfl rfl rfl (fun _ _ => rfl) ?_
      refine y_st rfl rfl rfl rfl rfl (fun _ _ => rfl) ?_
      refine y_st rfl rfl rfl rfl rfl (fun _ _ => rfl) ?_
      refine y_st rfl rfl rfl rfl rfl (fun _ _ => rfl) ?_
      show yP (xg xs) (d + 1) 346 55 [(3, .int l3), (4, .retAddr 28), (5, .int l5), (6, .int l6), (7, .int l7), (8, .int l8)] [.int (l7 + (1 : Int32))] m2 Q
      refine y_headS (l2 := [(3, .int l3), (4, .retAddr 28), (5, .int l5), (6, .int l6), (8, .int l8)]) [0, 1, 2, 3, 5] [3, 4, 5, 6, 8] [3, 4, 5, 6, 7, 8] rfl rfl (by decide) rfl (by decide) ?_
      exact H
set_option maxRecDepth 20000 in
/-- CodeMakerModel.pinOf from 55 on -/
theorem w346s8_55 (xs : List Int32) (d : Nat) (l3 : Int32) (l5 : Int32) (l6 : Int32) (l8 : Int32) (s0 : Int32) (m : yM) (Q : Option Value → yM → Prop) (H : (yC (xg xs) d 24 [.retAddr 28, .int l8] m (fun v1 m1 => ∃ u1, v1 = some (Value.int u1) ∧ ((¬ u1 = (124 : Int32) → yP (xg xs) (d + 1) 346 76 [(3, .int l3), (4, .retAddr 28), (5, .int l5), (7, .int s0), (8, .int l8)] [.int l6] m1 Q) ∧ (u1 = (124 : Int32) → yP (xg xs) (d + 1) 346 76 [(3, .int l3), (4, .retAddr 28), (5, .int l5), (7, .int s0), (8, .int l8)] [.int s0] m1 Q))))) : yP (xg xs) (d + 1) 346 55 [(3, .int l3), (4, .retAddr 28), (5, .int l5), (6, .int l6), (8, .int l8)] [.int s0] m Q := by
  refine y_st rfl rfl rfl rfl rfl (fun _ _ => rfl) ?_
  refine y_st rfl rfl rfl rfl rfl (fun _ _ => rfl) ?_
  refine y_st rfl rfl rfl rfl rfl (fun _ _ => rfl) ?_
  show yP (xg xs) (d + 1) 346 61 [(7, .int s0), (3, .int l3), (4, .retAddr 28), (5, .int l5), (6, .int l6), (8, .int l8)] [.int l8, .retAddr 28] m Q
  refine y_call rfl rfl rfl rfl rfl (Nat.le_of_ble_eq_true rfl) (Nat.le_of_ble_eq_true rfl) rfl (by decide) H (fun v1 m1 H => ?_)
  obtain ⟨u1, rfl, H⟩ := H
  refine y_st rfl rfl rfl rfl rfl (fun _ _ => rfl) ?_
  show yP (xg xs) (d + 1) 346 66 [(7, .int s0), (3, .int l3), (4, .retAddr 28), (5, .int l5), (6, .int l6), (8, .int l8)] [.int (124 : Int32), .int u1] m1 Q
  refine y_ine (t := 74) rfl rfl rfl (fun h => ?_) (fun h => ?_)
  · replace H := H.1 h; clear h
    refine y_st rfl rfl rfl rfl rfl (fun _ _ => rfl) ?_
    show yP (xg xs) (d + 1) 346 76 [(7, .int s0), (3, .int l3), (4, .retAddr 28), (5, .int l5), (6, .int l6), (8, .int l8)] [.int l6] m1 Q
    refine y_headS (l2 := [(3, .int l3), (4, .retAddr 28), (5, .int l5), (7, .int s0), (8, .int l8)]) [1, 2, 3, 0, 5] [3, 4, 5, 7, 8] [7, 3, 4, 5, 6, 8] rfl rfl (by decide) rfl (by decide) ?_
    exact H
  · replace H := H.2 h; clear h
    refine y_st rfl rfl rfl rfl rfl (fun _ _ => rfl) ?_
    refine y_st rfl rfl rfl rfl rfl (fun _ _ => rfl) ?_
    show yP (xg xs) (d + 1) 346 76 [(7, .int s0), (3, .int l3), (4, .retAddr 28), (5, .int l5), (6, .int l6), (8, .int l8)] [.int s0] m1 Q
    refine y_headS (l2 := [(3, .int l3), (4, .retAddr 28), (5, .int l5), (7, .int s0), (8, .int l8)]) [1, 2, 3, 0, 5] [3, 4, 5, 7, 8] [7, 3, 4, 5, 6, 8] rfl rfl (by decide) rfl (by decide) ?_
    exact H
set_option maxRecDepth 20000 in
/-- CodeMakerModel.pinOf from 76 on -/
theorem w346s8_76 (xs : List Int32) (d : Nat) (l3 : Int32) (l5 : Int32) (l7 : Int32) (l8 : Int32) (s0 : Int32) (m : yM) (Q : Option Value → yM → Prop) (H : yP (xg xs) (d + 1) 346 24 [(3, .int l3), (4, .retAddr 28), (5, .int l5), (6, .int s0), (7, .int l7), (8, .int (l8 + (1 : Int32)))] [] m Q) : yP (xg xs) (d + 1) 346 76 [(3, .int l3), (4, .retAddr 28), (5, .int l5), (7, .int l7), (8, .int l8)] [.int s0] m Q := by
  refine y_st rfl rfl rfl rfl rfl (fun _ _ => rfl) ?_
  refine y_st rfl rfl rfl rfl rfl (fun _ _ => rfl) ?_
  refine y_st rfl rfl rfl rfl rfl (fun _ _ => rfl) ?_
  show yP (xg xs) (d + 1) 346 24 [(8, .int (l8 + (1 : Int32))), (6, .int s0), (3, .int l3), (4, .retAddr 28), (5, .int l5), (7, .int l7)] [] m Q
  refine y_headS (l2 := [(3, .int l3), (4, .retAddr 28), (5, .int l5), (6, .int s0), (7, .int l7), (8, .int (l8 + (1 : Int32)))]) [2, 3, 4, 1, 5, 0] [3, 4, 5, 6, 7, 8] [8, 6, 3, 4, 5, 7] rfl rfl (by decide) rfl (by decide) ?_
  exact H
set_option maxRecDepth 20000 in
/-- CodeMakerModel.pinOf from 103 on -/
theorem w346s8_103 (xs : List Int32) (d : Nat) (l5 : Int32) (s0 : Int32) (s1 : Int32) (m : yM) (Q : Option Value → yM → Prop) (H : ((s0 = s1 → yP (xg xs) (d + 1) 346 114 [(4, .retAddr 28), (5, .int l5), (8, .int (1 : Int32)), (9, .int (0 : Int32))] [] m Q) ∧ (¬ s0 = s1 → Q (some (.int ((-1) : Int32))) m))) : yP (xg xs) (d + 1) 346 103 [(4, .retAddr 28), (5, .int l5)] [.int s1, .int s0] m Q := by
  show yP (xg xs) (d + 1) 346 103 [(4, .retAddr 28), (5, .int l5)] [.int s1, .int s0] m Q
  refine y_ieq (t := 108) rfl rfl rfl (fun h => ?_) (fun h => ?_)
  · replace H := H.1 h; clear h
    refine y_st rfl rfl rfl rfl rfl (fun _ _ => rfl) ?_
    refine y_st rfl rfl rfl rfl rfl (fun _ _ => rfl) ?_
    refine y_st rfl rfl rfl rfl rfl (fun _ _ => rfl) ?_
    refine y_st rfl rfl rfl rfl rfl (fun _ _ => rfl) ?_
    show yP (xg xs) (d + 1) 346 114 [(9, .int (0 : Int32)), (8, .int (1 : Int32)), (4, .retAddr 28), (5, .int l5)] [] m Q
    refine y_headS (l2 := [(4, .retAddr 28), (5, .int l5), (8, .int (1 : Int32)), (9, .int (0 : Int32))]) [2, 3, 1, 0] [4, 5, 8, 9] [9, 8, 4, 5] rfl rfl (by decide) rfl (by decide) ?_
    exact H
  · replace H := H.2 h; clear h
    refine y_st rfl rfl rfl rfl rfl (fun _ _ => rfl) ?_
    show yP (xg xs) (d + 1) 346 107 [(4, .retAddr 28), (5, .int l5)] [.int ((-1) : Int32)] m Q
    exact y_iret rfl rfl rfl H
set_option maxRecDepth 20000 in
/-- CodeMakerModel.pinOf from 114 on -/
theorem w346s8_114 (xs : List Int32) (d : Nat) (l5 : Int32) (l8 : Int32) (l9 : Int32) (m : yM) (Q : Option Value → yM → Prop) (H : ((l5 < l9 → (yC (xg xs) d 24 [.retAddr 28, .int l8] m (fun v1 m1 => ∃ u1, v1 = some (Value.int u1) ∧ (yC (xg xs) d 24 [.retAddr 28, .int (l8 + (1 : Int32))] m1 (fun v2 m2 => ∃ u2, v2 = some (Value.int u2) ∧ Q (some (.int ((((10 : Int32) * (u1 - (48 : Int32))) + u2) - (48 : Int32)))) m2))))) ∧ (¬ l5 < l9 → (yC (xg xs) d 24 [.retAddr 28, .int l8] m (fun v3 m3 => ∃ u3, v3 = some (Value.int u3) ∧ ((¬ u3 = (32 : Int32) → yP (xg xs) (d + 1) 346 142 [(4, .retAddr 28), (5, .int l5), (8, .int l8)] [.int l9] m3 Q) ∧ (u3 = (32 : Int32) → yP (xg xs) (d + 1) 346 142 [(4, .retAddr 28), (5, .int l5), (8, .int l8)] [.int (l9 + (1 : Int32))] m3 Q))))))) : yP (xg xs) (d + 1) 346 114 [(4, .retAddr 28), (5, .int l5), (8, .int l8), (9, .int l9)] [] m Q := by
  refine y_st rfl rfl rfl rfl rfl (fun _ _ => rfl) ?_
  refine y_st rfl rfl rfl rfl rfl (fun _ _ => rfl) ?_
  show yP (xg xs) (d + 1) 346 118 [(4, .retAddr 28), (5, .int l5), (8, .int l8), (9, .int l9)] [.int l5, .int l9] m Q
  refine y_igt (t := 150) rfl rfl rfl (fun h => ?_) (fun h => ?_)
  · replace H := H.1 h; clear h
    refine y_st rfl rfl rfl rfl rfl (fun _ _ => rfl) ?_
    refine y_st rfl rfl rfl rfl rfl (fun _ _ => rfl) ?_
    refine y_st rfl rfl rfl rfl rfl (fun _ _ => rfl) ?_
    show yP (xg xs) (d + 1) 346 156 [(4, .retAddr 28), (5, .int l5), (8, .int l8), (9, .int l9)] [.int l8, .retAddr 28, .int (10 : Int32)] m Q
    refine y_call rfl rfl rfl rfl rfl (Nat.le_of_ble_eq_true rfl) (Nat.le_of_ble_eq_true rfl) rfl (by decide) H (fun v1 m1 H => ?_)
    obtain ⟨u1, rfl, H⟩ := H
    refine y_st rfl rfl rfl rfl rfl (fun _ _ => rfl) ?_
    refine y_st rfl rfl rfl rfl rfl (fun _ _ => rfl) ?_
    refine y_st rfl rfl rfl rfl rfl (fun _ _ => rfl) ?_
    refine y_st rfl rfl rfl rfl rfl (fun _ _ => rfl) ?_
    refine y_st rfl rfl rfl rfl rfl (fun _ _ => rfl) ?_
    refine y_st rfl rfl rfl rfl rfl (fun _ _ => rfl) ?_
    refine y_st rfl rfl rfl rfl rfl (fun _ _ => rfl) ?_
    show yP (xg xs) (d + 1) 346 169 [(4, .retAddr 28), (5, .int l5), (8, .int l8), (9, .int l9)] [.int (l8 + (1 : Int32)), .retAddr 28, .int ((10 : Int32) * (u1 - (48 : Int32)))] m1 Q
    refine y_call rfl rfl rfl rfl rfl (Nat.le_of_ble_eq_true rfl) (Nat.le_of_ble_eq_true rfl) rfl (by decide) H (fun v2 m2 H => ?_)
    obtain ⟨u2, rfl, H⟩ := H
    refine y_st rfl rfl rfl rfl rfl (fun _ _ => rfl) ?_
    refine y_st rfl rfl rfl rfl rfl (fun _ _ => rfl) ?_
    refine y_st rfl rfl rfl rfl rfl (fun _ _ => rfl) ?_
    show yP (xg xs) (d + 1) 346 176 [(4, .retAddr 28), (5, .int l5), (8, .int l8), (9, .int l9)] [.int ((((10 : Int32) * (u1 - (48 : Int32))) + u2) - (48 : Int32))] m2 Q
    exact y_iret rfl rfl rfl H
  · replace H := H.2 h; clear h
    refine y_st rfl rfl rfl rfl rfl (fun _ _ => rfl) ?_
    refine y_st rfl rfl rfl rfl rfl (fun _ _ => rfl) ?_
    show yP (xg xs) (d + 1) 346 125 [(4, .retAddr 28), (5, .int l5), (8, .int l8), (9, .int l9)] [.int l8, .retAddr 28] m Q
    refine y_call rfl rfl rfl rfl rfl (Nat.le_of_ble_eq_true rfl) (Nat.le_of_ble_eq_true rfl) rfl (by decide) H (fun v3 m3 H => ?_)
    obtain ⟨u3, rfl, H⟩ := H
    refine y_st rfl rfl rfl rfl rfl (fun _ _ => rfl) ?_
    show yP (xg xs) (d + 1) 346 130 [(4, .retAddr 28), (5, .int l5), (8, .int l8), (9, .int l9)] [.int (32 : Int32), .int u3] m3 Q
    refine y_ine (t := 140) rfl rfl rfl (fun h => ?_) (fun h => ?_)
    · replace H := H.1 h; clear h
      refine y_st rfl rfl rfl rfl rfl (fun _ _ => rfl) ?_
      show yP (xg xs) (d + 1) 346 142 [(4, .retAddr 28), (5, .int l5), (8, .int l8), (9, .int l9)] [.int l9] m3 Q
      refine y_headS (l2 := [(4, .retAddr 28), (5, .int l5), (8, .int l8)]) [0, 1, 2] [4, 5, 8] [4, 5, 8, 9] rfl rfl (by decide) rfl (by decide) ?_
      exact H
    · replace H := H.2 h; clear h
      refine y_st rfl rfl rfl rfl rfl (fun _ _ => rfl) ?_
      refine y_st rfl rfl rfl rfl rfl (fun _ _ => rfl) ?_
      refine y_st rfl rfl rfl rfl rfl (fun _ _ => rfl) ?_
      refine y_st rfl rfl rfl rfl rfl (fun _ _ => rfl) ?_
      show yP (xg xs) (d + 1) 346 142 [(4, .retAddr 28), (5, .int l5), (8, .int l8), (9, .int l9)] [.int (l9 + (1 : Int32))] m3 Q
      refine y_headS (l2 := [(4, .retAddr 28), (5, .int l5), (8, .int l8)]) [0, 1, 2] [4, 5, 8] [4, 5, 8, 9] rfl rfl (by decide) rfl (by decide) ?_
      exact H
set_option maxRecDepth 20000 in
/-- CodeMakerModel.pinOf from 142 on -/
theorem w346s8_142 (xs : List Int32) (d : Nat) (l5 : Int32) (l8 : Int32) (s0 : Int32) (m : yM) (Q : Option Value → yM → Prop) (H : yP (xg xs) (d + 1) 346 114 [(4, .retAddr 28), (5, .int l5), (8, .int (l8 + (1 : Int32))), (9, .int s0)] [] m Q) : yP (xg xs) (d + 1) 346 142 [(4, .retAddr 28), (5, .int l5), (8, .int l8)] [.int s0] m Q := by
  refine y_st rfl rfl rfl rfl rfl (fun _ _ => rfl) ?_
  refine y_st rfl rfl rfl rfl rfl (fun _ _ => rfl) ?_
  refine y_st rfl rfl rfl rfl rfl (fun _ _ => rfl) ?_
  show yP (xg xs) (d + 1) 346 114 [(8, .int (l8 + (1 : Int32))), (9, .int s0), (4, .retAddr 28), (5, .int l5)] [] m Q
  refine y_headS (l2 := [(4, .retAddr 28), (5, .int l5), (8, .int (l8 + (1 : Int32))), (9, .int s0)]) [2, 3, 0, 1] [4, 5, 8, 9] [8, 9, 4, 5] rfl rfl (by decide) rfl (by decide) ?_
  exact H
set_option maxRecDepth 20000 in
/-- CodeMakerModel.pinOf from 0 on -/
theorem w346s9_0 (xs : List Int32) (d : Nat) (l1 : Int32) (l2 : Int32) (l3 : Int32) (m : yM) (Q : Option Value → yM → Prop) (H : (yC (xg xs) d 347 [.int l1] m (fun v1 m1 => v1 = some (.retAddr 29) ∧ (yC (xg xs) d 325 [.ref 58, .retAddr 29, .int l2] m1 (fun v2 m2 => ∃ u2, v2 = some (Value.int u2) ∧ yP (xg xs) (d + 1) 346 24 [(3, .int l3), (4, .retAddr 29), (5, .int u2), (6, .int (0 : Int32)), (7, .int (0 : Int32)), (8, .int (1 : Int32))] [] m2 Q))))) : yP (xg xs) (d + 1) 346 0 [(0, .ref 58), (1, .int l1), (2, .int l2), (3, .int l3)] [] m Q := by
  refine y_st rfl rfl rfl rfl rfl (fun _ _ => rfl) ?_
  show yP (xg xs) (d + 1) 346 1 [(0, .ref 58), (1, .int l1), (2, .int l2), (3, .int l3)] [.int l1] m Q
  refine y_call rfl rfl rfl rfl rfl (Nat.le_of_ble_eq_true rfl) (Nat.le_of_ble_eq_true rfl) rfl (by decide) H (fun v1 m1 H => ?_)
  obtain ⟨rfl, H⟩ := H
  refine y_st rfl rfl rfl rfl rfl (fun _ _ => rfl) ?_
  refine y_st rfl rfl rfl rfl rfl (fun _ _ => rfl) ?_
  refine y_st rfl rfl rfl rfl rfl (fun _ _ => rfl) ?_
  refine y_st rfl rfl rfl rfl rfl (fun _ _ => rfl) ?_
  show yP (xg xs) (d + 1) 346 10 [(4, .retAddr 29), (0, .ref 58), (1, .int l1), (2, .int l2), (3, .int l3)] [.int l2, .retAddr 29, .ref 58] m1 Q
  refine y_call rfl rfl rfl rfl rfl (Nat.le_of_ble_eq_true rfl) (Nat.le_of_ble_eq_true rfl) rfl (by decide) H (fun v2 m2 H => ?_)
  obtain ⟨u2, rfl, H⟩ := H
  refine y_st rfl rfl rfl rfl rfl (fun _ _ => rfl) ?_
  refine y_st rfl rfl rfl rfl rfl (fun _ _ => rfl) ?_
  refine y_st rfl rfl rfl rfl rfl (fun _ _ => rfl) ?_
  refine y_st rfl rfl rfl rfl rfl (fun _ _ => rfl) ?_
  refine y_st rfl rfl rfl rfl rfl (fun _ _ => rfl) ?_
  refine y_st rfl rfl rfl rfl rfl (fun _ _ => rfl) ?_
  refine y_st rfl rfl rfl rfl rfl (fun _ _ => rfl) ?_
  show yP (xg xs) (d + 1) 346 24 [(8, .int (1 : Int32)), (7, .int (0 : Int32)), (6, .int (0 : Int32)), (5, .int u2), (4, .retAddr 29), (0, .ref 58), (1, .int l1), (2, .int l2), (3, .int l3)] [] m2 Q
  refine y_headS (l2 := [(3, .int l3), (4, .retAddr 29), (5, .int u2), (6, .int (0 : Int32)), (7, .int (0 : Int32)), (8, .int (1 : Int32))]) [8, 4, 3, 2, 1, 0] [3, 4, 5, 6, 7, 8] [8, 7, 6, 5, 4, 0, 1, 2, 3] rfl rfl (by decide) rfl (by decide) ?_
  exact H
set_option maxRecDepth 20000 in
/-- CodeMakerModel.pinOf from 24 on -/
theorem w346s9_24 (xs : List Int32) (d : Nat) (l3 : Int32) (l5 : Int32) (l6 : Int32) (l7 : Int32) (l8 : Int32) (m : yM) (Q : Option Value → yM → Prop) (H : (yC (xg xs) d 22 [.retAddr 29] m (fun v1 m1 => ∃ u1, v1 = some (Value.int u1) ∧ ((u1 ≤ l8 → ((l5 = ((-1) : Int32) → Q (some (.int ((-1) : Int32))) m1) ∧ (¬ l5 = ((-1) : Int32) → ((l5 ≤ l6 → yP (xg xs) (d + 1) 346 103 [(4, .retAddr 29), (5, .int l5)] [.int (0 : Int32), .int l3] m1 Q) ∧ (¬ l5 ≤ l6 → yP (xg xs) (d + 1) 346 103 [(4, .retAddr 29), (5, .int l5)] [.int (1 : Int32), .int l3] m1 Q))))) ∧ (¬ u1 ≤ l8 → (yC (xg xs) d 24 [.retAddr 29, .int l8] m1 (fun v2 m2 => ∃ u2, v2 = some (Value.int u2) ∧ ((¬ u2 = (32 : Int32) → yP (xg xs) (d + 1) 346 55 [(3, .int l3), (4, .retAddr 29), (5, .int l5), (6, .int l6), (8, .int l8)] [.int l7] m2 Q) ∧ (u2 = (32 : Int32) → yP (xg xs) (d + 1) 346 55 [(3, .int l3), (4, .retAddr 29), (5, .int l5), (6, .int l6), (8, .int l8)] [.int (l7 + (1 : Int32))] m2 Q))))))))) : yP (xg xs) (d + 1) 346 24 [(3, .int l3), (4, .retAddr 29), (5, .int l5), (6, .int l6), (7, .int l7), (8, .int l8)] [] m Q := by
  refine y_st rfl rfl rfl rfl rfl (fun _ _ => rfl) ?_
  refine y_st rfl rfl rfl rfl rfl (fun _ _ => rfl) ?_
  show yP (xg xs) (d + 1) 346 28 [(3, .int l3), (4, .retAddr 29), (5, .int l5), (6, .int l6), (7, .int l7), (8, .int l8)] [.retAddr 29, .int l8] m Q
  refine y_call rfl rfl rfl rfl rfl (Nat.le_of_ble_eq_true rfl) (Nat.le_of_ble_eq_true rfl) rfl (by decide) H (fun v1 m1 H => ?_)
  obtain ⟨u1, rfl, H⟩ := H
  show yP (xg xs) (d + 1) 346 31 [(3, .int l3), (4, .retAddr 29), (5, .int l5), (6, .int l6), (7, .int l7), (8, .int l8)] [.int u1, .int l8] m1 Q
  refine y_ige (t := 84) rfl rfl rfl (fun h => ?_) (fun h => ?_)
  · replace H := H.1 h; clear h
    refine y_st rfl rfl rfl rfl rfl (fun _ _ => rfl) ?_
    refine y_st rfl rfl rfl rfl rfl (fun _ _ => rfl) ?_
    show yP (xg xs) (d + 1) 346 87 [(3, .int l3), (4, .retAddr 29), (5, .int l5), (6, .int l6), (7, .int l7), (8, .int l8)] [.int ((-1) : Int32), .int l5] m1 Q
    refine y_ieq (t := 106) rfl rfl rfl (fun h => ?_) (fun h => ?_)
    · replace H := H.1 h; clear h
      refine y_st rfl rfl rfl rfl rfl (fun _ _ => rfl) ?_
      show yP (xg xs) (d + 1) 346 107 [(3, .int l3), (4, .retAddr 29), (5, .int l5), (6, .int l6), (7, .int l7), (8, .int l8)] [.int ((-1) : Int32)] m1 Q
      exact y_iret rfl rfl rfl H
    · replace H := H.2 h; clear h
      refine y_st rfl rfl rfl rfl rfl (fun _ _ => rfl) ?_
      refine y_st rfl rfl rfl rfl rfl (fun _ _ => rfl) ?_
      refine y_st rfl rfl rfl rfl rfl (fun _ _ => rfl) ?_
      show yP (xg xs) (d + 1) 346 95 [(3, .int l3), (4, .retAddr 29), (5, .int l5), (6, .int l6), (7, .int l7), (8, .int l8)] [.int l6, .int l5, .int l3] m1 Q
      refine y_ile (t := 102) rfl rfl rfl (fun h => ?_) (fun h => ?_)
      · replace H := H.1 h; clear h
        refine y_st rfl rfl rfl rfl rfl (fun _ _ => rfl) ?_
        show yP (xg xs) (d + 1) 346 103 [(3, .int l3), (4, .retAddr 29), (5, .int l5), (6, .int l6), (7, .int l7), (8, .int l8)] [.int (0 : Int32), .int l3] m1 Q
        refine y_headS (l2 := [(4, .retAddr 29), (5, .int l5)]) [1, 2] [4, 5] [3, 4, 5, 6, 7, 8] rfl rfl (by decide) rfl (by decide) ?_
        exact H
      · replace H := H.2 h; clear h
        refine y_st rfl rfl rfl rfl rfl (fun _ _ => rfl) ?_
        refine y_st rfl rfl rfl rfl rfl (fun _ _ => rfl) ?_
        show yP (xg xs) (d + 1) 346 103 [(3, .int l3), (4, .retAddr 29), (5, .int l5), (6, .int l6), (7, .int l7), (8, .int l8)] [.int (1 : Int32), .int l3] m1 Q
        refine y_headS (l2 := [(4, .retAddr 29), (5, .int l5)]) [1, 2] [4, 5] [3, 4, 5, 6, 7, 8] rfl rfl (by decide) rfl (by decide) ?_
        exact H
  · replace H := H.2 h; clear h
    refine y_st rfl rfl rfl rfl rfl (fun _ _ => rfl) ?_
    refine y_st rfl rfl rfl rfl rfl (fun _ _ => rfl) ?_
    show yP (xg xs) (d + 1) 346 38 [(3, .int l3), (4, .retAddr 29), (5, .int l5), (6, .int l6), (7, .int l7), (8, .int l8)] [.int l8, .retAddr 29] m1 Q
    refine y_call rfl rfl rfl rfl rfl (Nat.le_of_ble_eq_true rfl) (Nat.le_of_ble_eq_true rfl) rfl (by decide) H (fun v2 m2 H => ?_)
    obtain ⟨u2, rfl, H⟩ := H
    refine y_st rfl rfl rfl rfl rfl (fun _ _ => rfl) ?_
    show yP (xg xs) (d + 1) 346 43 [(3, .int l3), (4, .retAddr 29), (5, .int l5), (6, .int l6), (7, .int l7), (8, .int l8)] [.int (32 : Int32), .int u2] m2 Q
    refine y_ine (t := 53) rfl rfl rfl (fun h => ?_) (fun h => ?_)
    · replace H := H.1 h; clear h
      refine y_st rfl rfl rfl rfl rfl (fun _ _ => rfl) ?_
      show yP (xg xs) (d + 1) 346 55 [(3, .int l3), (4, .retAddr 29), (5, .int l5), (6, .int l6), (7, .int l7), (8, .int l8)] [.int l7] m2 Q
      refine y_headS (l2 := [(3, .int l3), (4, .retAddr 29), (5, .int l5), (6, .int l6), (8, .int l8)]) [0, 1, 2, 3, 5] [3, 4, 5, 6, 8] [3, 4, 5, 6, 7, 8] rfl rfl (by decide) rfl (by decide) ?_
      exact H
    · replace H := H.2 h; clear h
      refine y_st rfl rfl rfl rfl rfl (fun _ _ => rfl) ?_
      refine y_st rfl rfl rfl rfl rfl (fun _ _ => rfl) ?_
      refine y_st rfl rfl rfl rfl rfl (fun _ _ => rfl) ?_
      refine y_st rfl rfl rfl rfl rfl (fun _ _ => rfl) ?_
      show yP (xg xs) (d + 1) 346 55 [(3, .int l3), (4, .retAddr 29), (5, .int l5), (6, .int l6), (7, .int l7), (8, .int l8)] [.int (l7 + (1 : Int32))] m2 Q
      refine y_headS (l2 := [(3, .int l3), (4, .retAddr 29), (5, .int l5), (6, .int l6), (8, .int l8)]) [0, 1, 2, 3, 5] [3, 4, 5, 6, 8] [3, 4, 5, 6, 7, 8] rfl rfl (by decide) rfl (by decide) ?_
      exact H
set_option maxRecDepth 20000 in
/-- CodeMakerModel.pinOf from 55 on -/
theorem w346s9_55 (xs : List Int32) (d : Nat) (l3 : Int32) (l5 : Int32) (l6 : Int32) (l8 : Int32) (s0 : Int32) (m : yM) (Q : Option Value → yM → Prop) (H : (yC (xg xs) d 24 [.retAddr 29, .int l8] m (fun v1 m1 => ∃ u1, v1 = some (Value.int u1) ∧ ((¬ u1 = (124 : Int32) → yP (xg xs) (d + 1) 346 76 [(3, .int l3), (4, .retAddr 29), (5, .int l5), (7, .int s0), (8, .int l8)] [.int l6] m1 Q) ∧ (u1 = (124 : Int32) → yP (xg xs) (d + 1) 346 76 [(3, .int l3), (4, .retAddr 29), (5, .int l5), (7, .int s0), (8, .int l8)] [.int s0] m1 Q))))) : yP (xg xs) (d + 1) 346 55 [(3, .int l3), (4, .retAddr 29), (5, .int l5), (6, .int l6), (8, .int l8)] [.int s0] m Q := by
  refine y_st rfl rfl rfl rfl rfl (fun _ _ => rfl) ?_
  refine y_st rfl rfl rfl rfl rfl (fun _ _ => rfl) ?_
  refine y_st rfl rfl rfl rfl rfl (fun _ _ => rfl) ?_
  show yP (xg xs) (d + 1) 346 61 [(7, .int s0), (3, .int l3), (4, .retAddr 29), (5, .int l5), (6, .int l6), (8, .int l8)] [.int l8, .retAddr 29] m Q
  refine y_call rfl rfl rfl rfl rfl (Nat.le_of_ble_eq_true rfl) (Nat.le_of_ble_eq_true rfl) rfl (by decide) H (fun v1 m1 H => ?_)
  obtain ⟨u1, rfl, H⟩ := H
  refine y_st rfl rfl rfl rfl rfl (fun _ _ => rfl) ?_
  show yP (xg xs) (d + 1) 346 66 [(7, .int s0), (3, .int l3), (4, .retAddr 29), (5, .int l5), (6, .int l6), (8, .int l8)] [.int (124 : Int32), .int u1] m1 Q
  refine y_ine (t := 74) rfl rfl rfl (fun h => ?_) (fun h => ?_)
  · replace H := H.1 h; clear h
    refine y_st rfl rfl rfl rfl rfl (fun _ _ => rfl) ?_
    show yP (xg xs) (d + 1) 346 76 [(7, .int s0), (3, .int l3), (4, .retAddr 29), (5, .int l5), (6, .int l6), (8, .int l8)] [.int l6] m1 Q
    refine y_headS (l2 := [(3, .int l3), (4, .retAddr 29), (5, .int l5), (7, .int s0), (8, .int l8)]) [1, 2, 3, 0, 5] [3, 4, 5, 7, 8] [7, 3, 4, 5, 6, 8] rfl rfl (by decide) rfl (by decide) ?_
    exact H
  · replace H := H.2 h; clear h
    refine y_st rfl rfl rfl rfl rfl (fun _ _ => rfl) ?_
    refine y_st rfl rfl rfl rfl rfl (fun _ _ => rfl) ?_
    show yP (xg xs) (d + 1) 346 76 [(7, .int s0), (3, .int l3), (4, .retAddr 29), (5, .int l5), (6, .int l6), (8, .int l8)] [.int s0] m1 Q
    refine y_headS (l2 := [(3, .int l3), (4, .retAddr 29), (5, .int l5), (7, .int s0), (8, .int l8)]) [1, 2, 3, 0, 5] [3, 4, 5, 7, 8] [7, 3, 4, 5, 6, 8] rfl rfl (by decide) rfl (by decide) ?_
    exact H
set_option maxRecDepth 20000 in
/-- CodeMakerModel.pinOf from 76 on -/
theorem w346s9_76 (xs : List Int32) (d : Nat) (l3 : Int32) (l5 : Int32) (l7 : Int32) (l8 : Int32) (s0 : Int32) (m : yM) (Q : Option Value → yM → Prop) (H : yP (xg xs) (d + 1) 346 24 [(3, .int l3), (4, .retAddr 29), (5, .int l5), (6, .int s0), (7, .int l7), (8, .int (l8 + (1 : Int32)))] [] m Q) : yP (xg xs) (d + 1) 346 76 [(3, .int l3), (4, .retAddr 29), (5, .int l5), (7, .int l7), (8, .int l8)] [.int s0] m Q := by
  refine y_st rfl rfl rfl rfl rfl (fun _ _ => rfl) ?_
  refine y_st rfl rfl rfl rfl rfl (fun _ _ => rfl) ?_
  refine y_st rfl rfl rfl rfl rfl (fun _ _ => rfl) ?_
  show yP (xg xs) (d + 1) 346 24 [(8, .int (l8 + (1 : Int32))), (6, .int s0), (3, .int l3), (4, .retAddr 29), (5, .int l5), (7, .int l7)] [] m Q
  refine y_headS (l2 := [(3, .int l3), (4, .retAddr 29), (5, .int l5), (6, .int s0), (7, .int l7), (8, .int (l8 + (1 : Int32)))]) [2, 3, 4, 1, 5, 0] [3, 4, 5, 6, 7, 8] [8, 6, 3, 4, 5, 7] rfl rfl (by decide) rfl (by decide) ?_
  exact H
set_option maxRecDepth 20000 in
/-- CodeMakerModel.pinOf from 103 on -/
theorem w346s9_103 (xs : List Int32) (d : Nat) (l5 : Int32) (s0 : Int32) (s1 : Int32) (m : yM) (Q : Option Value → yM → Prop) (H : ((s0 = s1 → yP (xg xs) (d + 1) 346 114 [(4, .retAddr 29), (5, .int l5), (8, .int (1 : Int32)), (9, .int (0 : Int32))] [] m Q) ∧ (¬ s0 = s1 → Q (some (.int ((-1) : Int32))) m))) : yP (xg xs) (d + 1) 346 103 [(4, .retAddr 29), (5, .int l5)] [.int s1, .int s0] m Q := by
  show yP (xg xs) (d + 1) 346 103 [(4, .retAddr 29), (5, .int l5)] [.int s1, .int s0] m Q
  refine y_ieq (t := 108) rfl rfl rfl (fun h => ?_) (fun h => ?_)
  · replace H := H.1 h; clear h
    refine y_st rfl rfl rfl rfl rfl (fun _ _ => rfl) ?_
    refine y_st rfl rfl rfl rfl rfl (fun _ _ => rfl) ?_
    refine y_st rfl rfl rfl rfl rfl (fun _ _ => rfl) ?_
    refine y_st rfl rfl rfl rfl rfl (fun _ _ => rfl) ?_
    show yP (xg xs) (d + 1) 346 114 [(9, .int (0 : Int32)), (8, .int (1 : Int32)), (4, .retAddr 29), (5, .int l5)] [] m Q
    refine y_headS (l2 := [(4, .retAddr 29), (5, .int l5), (8, .int (1 : Int32)), (9, .int (0 : Int32))]) [2, 3, 1, 0] [4, 5, 8, 9] [9, 8, 4, 5] rfl rfl (by decide) rfl (by decide) ?_
    exact H
  · replace H := H.2 h; clear h
    refine y_st rfl rfl rfl rfl rfl (fun _ _ => rfl) ?_
    show yP (xg xs) (d + 1) 346 107 [(4, .retAddr 29), (5, .int l5)] [.int ((-1) : Int32)] m Q
    exact y_iret rfl rfl rfl H
set_option maxRecDepth 20000 in
/-- CodeMakerModel.pinOf from 114 on -/
theorem w346s9_114 (xs : List Int32) (d : Nat) (l5 : Int32) (l8 : Int32) (l9 : Int32) (m : yM) (Q : Option Value → yM → Prop) (H : ((l5 < l9 → (yC (xg xs) d 24 [.retAddr 29, .int l8] m (fun v1 m1 => ∃ u1, v1 = some (Value.int u1) ∧ (yC (xg xs) d 24 [.retAddr 29, .int (l8 + (1 : Int32))] m1 (fun v2 m2 => ∃ u2, v2 = some (Value.int u2) ∧ Q (some (.int ((((10 : Int32) * (u1 - (48 : Int32))) + u2) - (48 : Int32)))) m2))))) ∧ (¬ l5 < l9 → (yC (xg xs) d 24 [.retAddr 29, .int l8] m (fun v3 m3 => ∃ u3, v3 = some (Value.int u3) ∧ ((¬ u3 = (32 : Int32) → yP (xg xs) (d + 1) 346 142 [(4, .retAddr 29), (5, .int l5), (8, .int l8)] [.int l9] m3 Q) ∧ (u3 = (32 : Int32) → yP (xg xs) (d + 1) 346 142 [(4, .retAddr 29), (5, .int l5), (8, .int l8)] [.int (l9 + (1 : Int32))] m3 Q))))))) : yP (xg xs) (d + 1) 346 114 [(4, .retAddr 29), (5, .int l5), (8, .int l8), (9, .int l9)] [] m Q := by
  refine y_st rfl rfl rfl rfl rfl (fun _ _ => rfl) ?_
  refine y_st rfl rfl rfl rfl rfl (fun _ _ => rfl) ?_
  show yP (xg xs) (d + 1) 346 118 [(4, .retAddr 29), (5, .int l5), (8, .int l8), (9, .int l9)] [.int l5, .int l9] m Q
  refine y_igt (t := 150) rfl rfl rfl (fun h => ?_) (fun h => ?_)
  · replace H := H.1 h; clear h
    refine y_st rfl rfl rfl rfl rfl (fun _ _ => rfl) ?_
    refine y_st rfl rfl rfl rfl rfl (fun _ _ => rfl) ?_
    refine y_st rfl rfl rfl rfl rfl (fun _ _ => rfl) ?_
    show yP (xg xs) (d + 1) 346 156 [(4, .retAddr 29), (5, .int l5), (8, .int l8), (9, .int l9)] [.int l8, .retAddr 29, .int (10 : Int32)] m Q
    refine y_call rfl rfl rfl rfl rfl (Nat.le_of_ble_eq_true rfl) (Nat.le_of_ble_eq_true rfl) rfl (by decide) H (fun v1 m1 H => ?_)
    obtain ⟨u1, rfl, H⟩ := H
    refine y_st rfl rfl rfl rfl rfl (fun _ _ => rfl) ?_
    refine y_st rfl rfl rfl rfl rfl (fun _ _ => rfl) ?_
    refine y_st rfl rfl rfl rfl rfl (fun _ _ => rfl) ?_
    refine y_st rfl rfl rfl rfl rfl (fun _ _ => rfl) ?_
    refine y_st rfl rfl rfl rfl rfl (fun _ _ => rfl) ?_
    refine y_st rfl rfl rfl rfl rfl (fun _ _ => rfl) ?_
    refine y_st rfl rfl rfl rfl rfl (fun _ _ => rfl) ?_
    show yP (xg xs) (d + 1) 346 169 [(4, .retAddr 29), (5, .int l5), (8, .int l8), (9, .int l9)] [.int (l8 + (1 : Int32)), .retAddr 29, .int ((10 : Int32) * (u1 - (48 : Int32)))] m1 Q
    refine y_call rfl rfl rfl rfl rfl (Nat.le_of_ble_eq_true rfl) (Nat.le_of_ble_eq_true rfl) rfl (by decide) H (fun v2 m2 H => ?_)
    obtain ⟨u2, rfl, H⟩ := H
    refine y_st rfl rfl rfl rfl rfl (fun _ _ => rfl) ?_
    refine y_st rfl rfl rfl rfl rfl (fun _ _ => rfl) ?_
    refine y_st rfl rfl rfl rfl rfl (fun _ _ => rfl) ?_
    show yP (xg xs) (d + 1) 346 176 [(4, .retAddr 29), (5, .int l5), (8, .int l8), (9, .int l9)] [.int ((((10 : Int32) * (u1 - (48 : Int32))) + u2) - (48 : Int32))] m2 Q
    exact y_iret rfl rfl rfl H
  · replace H := H.2 h; clear h
    refine y_st rfl rfl rfl rfl rfl (fun _ _ => rfl) ?_
    refine y_st rfl rfl rfl rfl rfl (fun _ _ => rfl) ?_
    show yP (xg xs) (d + 1) 346 125 [(4, .retAddr 29), (5, .int l5), (8, .int l8), (9, .int l9)] [.int l8, .retAddr 29] m Q
    refine y_call rfl rfl rfl rfl rfl (Nat.le_of_ble_eq_true rfl) (Nat.le_of_ble_eq_true rfl) rfl (by decide) H (fun v3 m3 H => ?_)
    obtain ⟨u3, rfl, H⟩ := H
    refine y_st rfl rfl rfl rfl rfl (fun _ _ => rfl) ?_
    show yP (xg xs) (d + 1) 346 130 [(4, .retAddr 29), (5, .int l5), (8, .int l8), (9, .int l9)] [.int (32 : Int32), .int u3] m3 Q
    refine y_ine (t := 140) rfl rfl rfl (fun h => ?_) (fun h => ?_)
    · replace H := H.1 h; clear h
      refine y_st rfl rfl rfl rfl rfl (fun _ _ => rfl) ?_
      show yP (xg xs) (d + 1) 346 142 [(4, .retAddr 29), (5, .int l5), (8, .int l8), (9, .int l9)] [.int l9] m3 Q
      refine y_headS (l2 := [(4, .retAddr 29), (5, .int l5), (8, .int l8)]) [0, 1, 2] [4, 5, 8] [4, 5, 8, 9] rfl rfl (by decide) rfl (by decide) ?_
      exact H
    · replace H := H.2 h; clear h
      refine y_st rfl rfl rfl rfl rfl (fun _ _ => rfl) ?_
      refine y_st rfl rfl rfl rfl rfl (fun _ _ => rfl) ?_
      refine y_st rfl rfl rfl rfl rfl (fun _ _ => rfl) ?_
      refine y_st rfl rfl rfl rfl rfl (fun _ _ => rfl) ?_
      show yP (xg xs) (d + 1) 346 142 [(4, .retAddr 29), (5, .int l5), (8, .int l8), (9, .int l9)] [.int (l9 + (1 : Int32))] m3 Q
      refine y_headS (l2 := [(4, .retAddr 29), (5, .int l5), (8, .int l8)]) [0, 1, 2] [4, 5, 8] [4, 5, 8, 9] rfl rfl (by decide) rfl (by decide) ?_
      exact H
set_option maxRecDepth 20000 in
/-- CodeMakerModel.pinOf from 142 on -/
theorem w346s9_142 (xs : List Int32) (d : Nat) (l5 : Int32) (l8 : Int32) (s0 : Int32) (m : yM) (Q : Option Value → yM → Prop) (H : yP (xg xs) (d + 1) 346 114 [(4, .retAddr 29), (5, .int l5), (8, .int (l8 + (1 : Int32))), (9, .int s0)] [] m Q) : yP (xg xs) (d + 1) 346 142 [(4, .retAddr 29), (5, .int l5), (8, .int l8)] [.int s0] m Q := by
  refine y_st rfl rfl rfl rfl rfl (fun _ _ => rfl) ?_
  refine y_st rfl rfl rfl rfl rfl (fun _ _ => rfl) ?_
  refine y_st rfl rfl rfl rfl rfl (fun _ _ => rfl) ?_
  show yP (xg xs) (d + 1) 346 114 [(8, .int (l8 + (1 : Int32))), (9, .int s0), (4, .retAddr 29), (5, .int l5)] [] m Q
  refine y_headS (l2 := [(4, .retAddr 29), (5, .int l5), (8, .int (l8 + (1 : Int32))), (9, .int s0)]) [2, 3, 0, 1] [4, 5, 8, 9] [8, 9, 4, 5] rfl rfl (by decide) rfl (by decide) ?_
  exact H
set_option maxRecDepth 20000 in
/-- CodeMakerModel.pinOf from 0 on -/
theorem w346s10_0 (xs : List Int32) (d : Nat) (l1 : Int32) (l2 : Int32) (l3 : Int32) (m : yM) (Q : Option Value → yM → Prop) (H : (yC (xg xs) d 347 [.int l1] m (fun v1 m1 => v1 = some (.retAddr 30) ∧ (yC (xg xs) d 325 [.ref 58, .retAddr 30, .int l2] m1 (fun v2 m2 => ∃ u2, v2 = some (Value.int u2) ∧ yP (xg xs) (d + 1) 346 24 [(3, .int l3), (4, .retAddr 30), (5, .int u2), (6, .int (0 : Int32)), (7, .int (0 : Int32)), (8, .int (1 : Int32))] [] m2 Q))))) : yP (xg xs) (d + 1) 346 0 [(0, .ref 58), (1, .int l1), (2, .int l2), (3, .int l3)] [] m Q := by
  refine y_st rfl rfl rfl rfl rfl (fun _ _ => rfl) ?_
  show yP (xg xs) (d + 1) 346 1 [(0, .ref 58), (1, .int l1), (2, .int l2), (3, .int l3)] [.int l1] m Q
  refine y_call rfl rfl rfl rfl rfl (Nat.le_of_ble_eq_true rfl) (Nat.le_of_ble_eq_true rfl) rfl (by decide) H (fun v1 m1 H => ?_)
  obtain ⟨rfl, H⟩ := H
  refine y_st rfl rfl rfl rfl rfl (fun _ _ => rfl) ?_
  refine y_st rfl rfl rfl rfl rfl (fun _ _ => rfl) ?_
  refine y_st rfl rfl rfl rfl rfl (fun _ _ => rfl) ?_
  refine y_st rfl rfl rfl rfl rfl (fun _ _ => rfl) ?_
  show yP (xg xs) (d + 1) 346 10 [(4, .retAddr 30), (0, .ref 58), (1, .int l1), (2, .int l2), (3, .int l3)] [.int l2, .retAddr 30, .ref 58] m1 Q
  refine y_call rfl rfl rfl rfl rfl (Nat.le_of_ble_eq_true rfl) (Nat.le_of_ble_eq_true rfl) rfl (by decide) H (fun v2 m2 H => ?_)
  obtain ⟨u2, rfl, H⟩ := H
  refine y_st rfl rfl rfl rfl rfl (fun _ _ => rfl) ?_
  refine y_st rfl rfl rfl rfl rfl (fun _ _ => rfl) ?_
  refine y_st rfl rfl rfl rfl rfl (fun _ _ => rfl) ?_
  refine y_st rfl rfl rfl rfl rfl (fun _ _ => rfl) ?_
  refine y_st rfl rfl rfl rfl rfl (fun _ _ => rfl) ?_
  refine y_st rfl rfl rfl rfl rfl (fun _ _ => rfl) ?_
  refine y_st rfl rfl rfl rfl rfl (fun _ _ => rfl) ?_
  show yP (xg xs) (d + 1) 346 24 [(8, .int (1 : Int32)), (7, .int (0 : Int32)), (6, .int (0 : Int32)), (5, .int u2), (4, .retAddr 30), (0, .ref 58), (1, .int l1), (2, .int l2), (3, .int l3)] [] m2 Q
  refine y_headS (l2 := [(3, .int l3), (4, .retAddr 30), (5, .int u2), (6, .int (0 : Int32)), (7, .int (0 : Int32)), (8, .int (1 : Int32))]) [8, 4, 3, 2, 1, 0] [3, 4, 5, 6, 7, 8] [8, 7, 6, 5, 4, 0, 1, 2, 3] rfl rfl (by decide) rfl (by decide) ?_
  exact H
set_option maxRecDepth 20000 in
/-- CodeMakerModel.pinOf from 24 on -/
theorem w346s10_24 (xs : List Int32) (d : Nat) (l3 : Int32) (l5 : Int32) (l6 : Int32) (l7 : Int32) (l8 : Int32) (m : yM) (Q : Option Value → yM → Prop) (H : (yC (xg xs) d 22 [.retAddr 30] m (fun v1 m1 => ∃ u1, v1 = some (Value.int u1) ∧ ((u1 ≤ l8 → ((l5 = ((-1) : Int32) → Q (some (.int ((-1) : Int32))) m1) ∧ (¬ l5 = ((-1) : Int32) → ((l5 ≤ l6 → yP (xg xs) (d + 1) 346 103 [(4, .retAddr 30), (5, .int l5)] [.int (0 : Int32), .int l3] m1 Q) ∧ (¬ l5 ≤ l6 → yP (xg xs) (d + 1) 346 103 [(4, .retAddr 30), (5, .int l5)] [.int (1 : Int32), .int l3] m1 Q))))) ∧ (¬ u1 ≤ l8 → (yC (xg xs) d 24 [.retAddr 30, .int l8] m1 (fun v2 m2 => ∃ u2, v2 = some (Value.int u2) ∧ ((¬ u2 = (32 : Int32) → yP (xg xs) (d + 1) 346 55 [(3, .int l3), (4, .retAddr 30), (5, .int l5), (6, .int l6), (8, .int l8)] [.int l7] m2 Q) ∧ (u2 = (32 : Int32) → yP (xg xs) (d + 1) 346 55 [(3, .int l3), (4, .retAddr 30), (5, .int l5), (6, .int l6), (8, .int l8)] [.int (l7 + (1 : Int32))] m2 Q))))))))) : yP (xg xs) (d + 1) 346 24 [(3, .int l3), (4, .retAddr 30), (5, .int l5), (6, .int l6), (7, .int l7), (8, .int l8)] [] m Q := by
  refine y_st rfl rfl rfl rfl rfl (fun _ _ => rfl) ?_
  refine y_st rfl rfl rfl rfl rfl (fun _ _ => rfl) ?_
  show yP (xg xs) (d + 1) 346 28 [(3, .int l3), (4, .retAddr 30), (5, .int l5), (6, .int l6), (7, .int l7), (8, .int l8)] [.retAddr 30, .int l8] m Q
  refine y_call rfl rfl rfl rfl rfl (Nat.le_of_ble_eq_true rfl) (Nat.le_of_ble_eq_true rfl) rfl (by decide) H (fun v1 m1 H => ?_)
  obtain ⟨u1, rfl, H⟩ := H
  show yP (xg xs) (d + 1) 346 31 [(3, .int l3), (4, .retAddr 30), (5, .int l5), (6, .int l6), (7, .int l7), (8, .int l8)] [.int u1, .int l8] m1 Q
  refine y_ige (t := 84) rfl rfl rfl (fun h => ?_) (fun h => ?_)
  · replace H := H.1 h; clear h
    refine y_st rfl rfl rfl rfl rfl (fun _ _ => rfl) ?_
    refine y_st rfl rfl rfl rfl rfl (fun _ _ => rfl) ?_
    show yP (xg xs) (d + 1) 346 87 [(3, .int l3), (4, .retAddr 30), (5, .int l5), (6, .int l6), (7, .int l7), (8, .int l8)] [.int ((-1) : Int32), .int l5] m1 Q
    refine y_ieq (t := 106) rfl rfl rfl (fun h => ?_) (fun h => ?_)
    · replace H := H.1 h; clear h
      refine y_st rfl rfl rfl rfl rfl (fun _ _ => rfl) ?_
      show yP (xg xs) (d + 1) 346 107 [(3, .int l3), (4, .retAddr 30), (5, .int l5), (6, .int l6), (7, .int l7), (8, .int l8)] [.int ((-1) : Int32)] m1 Q
      exact y_iret rfl rfl rfl H
    · replace H := H.2 h; clear h
      refine y_st rfl rfl rfl rfl rfl (fun _ _ => rfl) ?_
      refine y_st rfl rfl rfl rfl rfl (fun _ _ => rfl) ?_
      refine y_st rfl rfl rfl rfl rfl (fun _ _ => rfl) ?_
      show yP (xg xs) (d + 1) 346 95 [(3, .int l3), (4, .retAddr 30), (5, .int l5), (6, .int l6), (7, .int l7), (8, .int l8)] [.int l6, .int l5, .int l3] m1 Q
      refine y_ile (t := 102) rfl rfl rfl (fun h => ?_) (fun h => ?_)
      · replace H := H.1 h; clear h
        refine y_st rfl rfl rfl rfl rfl (fun _ _ => rfl) ?_
        show yP (xg xs) (d + 1) 346 103 [(3, .int l3), (4, .retAddr 30), (5, .int l5), (6, .int l6), (7, .int l7), (8, .int l8)] [.int (0 : Int32), .int l3] m1 Q
        refine y_headS (l2 := [(4, .retAddr 30), (5, .int l5)]) [1, 2] [4, 5] [3, 4, 5, 6, 7, 8] rfl rfl (by decide) rfl (by decide) ?_
        exact H
      · replace H := H.2 h; clear h
        refine y_st rfl rfl rfl rfl rfl (fun _ _ => rfl) ?_
        refine y_st rfl rfl rfl rfl rfl (fun _ _ => rfl) ?_
        show yP (xg xs) (d + 1) 346 103 [(3, .int l3), (4, .retAddr 30), (5, .int l5), (6, .int l6), (7, .int l7), (8, .int l8)] [.int (1 : Int32), .int l3] m1 Q
        refine y_headS (l2 := [(4, .retAddr 30), (5, .int l5)]) [1, 2] [4, 5] [3, 4, 5, 6, 7, 8] rfl rfl (by decide) rfl (by decide) ?_
        exact H
  · replace H := H.2 h; clear h
    refine y_st rfl rfl rfl rfl rfl (fun _ _ => rfl) ?_
    refine y_st rfl rfl rfl rfl rfl (fun _ _ => rfl) ?_
    show yP (xg xs) (d + 1) 346 38 [(3, .int l3), (4, .retAddr 30), (5, .int l5), (6, .int l6), (7, .int l7), (8, .int l8)] [.int l8, .retAddr 30] m1 Q
    refine y_call rfl rfl rfl rfl rfl (Nat.le_of_ble_eq_true rfl) (Nat.le_of_ble_eq_true rfl) rfl (by decide) H (fun v2 m2 H => ?_)
    obtain ⟨u2, rfl, H⟩ := H
    refine y_st rfl rfl rfl rfl rfl (fun _ _ => rfl) ?_
    show yP (xg xs) (d + 1) 346 43 [(3, .int l3), (4, .retAddr 30), (5, .int l5), (6, .int l6), (7, .int l7), (8, .int l8)] [.int (32 : Int32), .int u2] m2 Q
    refine y_ine (t := 53) rfl rfl rfl (fun h => ?_) (fun h => ?_)
    · replace H := H.1 h; clear h
      refine y_st rfl rfl rfl rfl rfl (fun _ _ => rfl) ?_
      show yP (xg xs) (d + 1) 346 55 [(3, .int l3), (4, .retAddr 30), (5, .int l5), (6, .int l6), (7, .int l7), (8, .int l8)] [.int l7] m2 Q
      refine y_headS (l2 := [(3, .int l3), (4, .retAddr 30), (5, .int l5), (6, .int l6), (8, .int l8)]) [0, 1, 2, 3, 5] [3, 4, 5, 6, 8] [3, 4, 5, 6, 7, 8] rfl rfl (by decide) rfl (by decide) ?_
      exact H
    · replace H := H.2 h; clear h
      refine y_st rfl rfl rfl rfl rfl (fun _ _ => rfl) ?_
      refine y_st rfl rfl rfl rfl rfl (fun _ _ => rfl) ?_
      refine y_st rfl rfl rfl rfl rfl (fun _ _ => rfl) ?_
      refine y_st rfl rfl rfl rfl rfl (fun _ _ => rfl) ?_
      show yP (xg xs) (d + 1) 346 55 [(3, .int l3), (4, .retAddr 30), (5, .int l5), (6, .int l6), (7, .int l7), (8, .int l8)] [.int (l7 + (1 : Int32))] m2 Q
      refine y_headS (l2 := [(3, .int l3), (4, .retAddr 30), (5, .int l5), (6, .int l6), (8, .int l8)]) [0, 1, 2, 3, 5] [3, 4, 5, 6, 8] [3, 4, 5, 6, 7, 8] rfl rfl (by decide) rfl (by decide) ?_
      exact H
set_option maxRecDepth 20000 in
/-- CodeMakerModel.pinOf from 55 on -/
theorem w346s10_55 (xs : List Int32) (d : Nat) (l3 : Int32) (l5 : Int32) (l6 : Int32) (l8 : Int32) (s0 : Int32) (m : yM) (Q : Option Value → yM → Prop) (H : (yC (xg xs) d 24 [.retAddr 30, .int l8] m (fun v1 m1 => ∃ u1, v1 = some (Value.int u1) ∧ ((¬ u1 = (124 : Int32) → yP (xg xs) (d + 1) 346 76 [(3, .int l3), (4, .retAddr 30), (5, .int l5), (7, .int s0), (8, .int l8)] [.int l6] m1 Q) ∧ (u1 = (124 : Int32) → yP (xg xs) (d + 1) 346 76 [(3, .int l3), (4, .retAddr 30), (5, .int l5), (7, .int s0), (8, .int l8)] [.int s0] m1 Q))))) : yP (xg xs) (d + 1) 346 55 [(3, .int l3), (4, .retAddr 30), (5, .int l5), (6, .int l6), (8, .int l8)] [.int s0] m Q := by
  refine y_st rfl rfl rfl rfl rfl (fun _ _ => rfl) ?_
  refine y_st rfl rfl rfl rfl rfl (fun _ _ => rfl) ?_
  refine y_st rfl rfl rfl rfl rfl (fun _ _ => rfl) ?_
  show yP (xg xs) (d + 1) 346 61 [(7, .int s0), (3, .int l3), (4, .retAddr 30), (5, .int l5), (6, .int l6), (8, .int l8)] [.int l8, .retAddr 30] m Q
  refine y_call rfl rfl rfl rfl rfl (Nat.le_of_ble_eq_true rfl) (Nat.le_of_ble_eq_true rfl) rfl (by decide) H (fun v1 m1 H => ?_)
  obtain ⟨u1, rfl, H⟩ := H
  refine y_st rfl rfl rfl rfl rfl (fun _ _ => rfl) ?_
  show yP (xg xs) (d + 1) 346 66 [(7, .int s0), (3, .int l3), (4, .retAddr 30), (5, .int l5), (6, .int l6), (8, .int l8)] [.int (124 : Int32), .int u1] m1 Q
  refine y_ine (t := 74) rfl rfl rfl (fun h => ?_) (fun h => ?_)
  · replace H := H.1 h; clear h
    refine y_st rfl rfl rfl rfl rfl (fun _ _ => rfl) ?_
    show yP (xg xs) (d + 1) 346 76 [(7, .int s0), (3, .int l3), (4, .retAddr 30), (5, .int l5), (6, .int l6), (8, .int l8)] [.int l6] m1 Q
    refine y_headS (l2 := [(3, .int l3), (4, .retAddr 30), (5, .int l5), (7, .int s0), (8, .int l8)]) [1, 2, 3, 0, 5] [3, 4, 5, 7, 8] [7, 3, 4, 5, 6, 8] rfl rfl (by decide) rfl (by decide) ?_
    exact H
  · replace H := H.2 h; clear h
    refine y_st rfl rfl rfl rfl rfl (fun _ _ => rfl) ?_
    refine y_st rfl rfl rfl rfl rfl (fun _ _ => rfl) ?_
    show yP (xg xs) (d + 1) 346 76 [(7, .int s0), (3, .int l3), (4, .retAddr 30), (5, .int l5), (6, .int l6), (8, .int l8)] [.int s0] m1 Q
    refine y_headS (l2 := [(3, .int l3), (4, .retAddr 30), (5, .int l5), (7, .int s0), (8, .int l8)]) [1, 2, 3, 0, 5] [3, 4, 5, 7, 8] [7, 3, 4, 5, 6, 8] rfl rfl (by decide) rfl (by decide) ?_
    exact H
set_option maxRecDepth 20000 in
/-- CodeMakerModel.pinOf from 76 on -/
theorem w346s10_76 (xs : List Int32) (d : Nat) (l3 : Int32) (l5 : Int32) (l7 : Int32) (l8 : Int32) (s0 : Int32) (m : yM) (Q : Option Value → yM → Prop) (H : yP (xg xs) (d + 1) 346 24 [(3, .int l3), (4, .retAddr 30), (5, .int l5), (6, .int s0), (7, .int l7), (8, .int (l8 + (1 : Int32)))] [] m Q) : yP (xg xs) (d + 1) 346 76 [(3, .int l3), (4, .retAddr 30), (5, .int l5), (7, .int l7), (8, .int l8)] [.int s0] m Q := by
  refine y_st rfl rfl rfl rfl rfl (fun _ _ => rfl) ?_
  refine y_st rfl rfl rfl rfl rfl (fun _ _ => rfl) ?_
  refine y_st rfl rfl rfl rfl rfl (fun _ _ => rfl) ?_
  show yP (xg xs) (d + 1) 346 24 [(8, .int (l8 + (1 : Int32))), (6, .int s0), (3, .int l3), (4, .retAddr 30), (5, .int l5), (7, .int l7)] [] m Q
  refine y_headS (l2 := [(3, .int l3), (4, .retAddr 30), (5, .int l5), (6, .int s0), (7, .int l7), (8, .int (l8 + (1 : Int32)))]) [2, 3, 4, 1, 5, 0] [3, 4, 5, 6, 7, 8] [8, 6, 3, 4, 5, 7] rfl rfl (by decide) rfl (by decide) ?_
  exact H
set_option maxRecDepth 20000 in
/-- CodeMakerModel.pinOf from 103 on -/
theorem w346s10_103 (xs : List Int32) (d : Nat) (l5 : Int32) (s0 : Int32) (s1 : Int32) (m : yM) (Q : Option Value → yM → Prop) (H : ((s0 = s1 → yP (xg xs) (d + 1) 346 114 [(4, .retAddr 30), (5, .int l5), (8, .int (1 : Int32)), (9, .int (0 : Int32))] [] m Q) ∧ (¬ s0 = s1 → Q (some (.int ((-1) : Int32))) m))) : yP (xg xs) (d + 1) 346 103 [(4, .retAddr 30), (5, .int l5)] [.int s1, .int s0] m Q := by
  show yP (xg xs) (d + 1) 346 103 [(4, .retAddr 30), (5, .int l5)] [.int s1, .int s0] m Q
  refine y_ieq (t := 108) rfl rfl rfl (fun h => ?_) (fun h => ?_)
  · replace H := H.1 h; clear h
    refine y_st rfl rfl rfl rfl rfl (fun _ _ => rfl) ?_
    refine y_st rfl rfl rfl rfl rfl (fun _ _ => rfl) ?_
    refine y_st rfl rfl rfl rfl rfl (fun _ _ => rfl) ?_
    refine y_st rfl rfl rfl rfl rfl (fun _ _ => rfl) ?_
    show yP (xg xs) (d + 1) 346 114 [(9, .int (0 : Int32)), (8, .int (1 : Int32)), (4, .retAddr 30), (5, .int l5)] [] m Q
    refine y_headS (l2 := [(4, .retAddr 30), (5, .int l5), (8, .int (1 : Int32)), (9, .int (0 : Int32))]) [2, 3, 1, 0] [4, 5, 8, 9] [9, 8, 4, 5] rfl rfl (by decide) rfl (by decide) ?_
    exact H
  · replace H := H.2 h; clear h
    refine y_st rfl rfl rfl rfl rfl (fun _ _ => rfl) ?_
    show yP (xg xs) (d + 1) 346 107 [(4, .retAddr 30), (5, .int l5)] [.int ((-1) : Int32)] m Q
    exact y_iret rfl rfl rfl H
set_option maxRecDepth 20000 in
/-- CodeMakerModel.pinOf from 114 on -/
theorem w346s10_114 (xs : List Int32) (d : Nat) (l5 : Int32) (l8 : Int32) (l9 : Int32) (m : yM) (Q : Option Value → yM → Prop) (H : ((l5 < l9 → (yC (xg xs) d 24 [.retAddr 30, .int l8] m (fun v1 m1 => ∃ u1, v1 = some (Value.int u1) ∧ (yC (xg xs) d 24 [.retAddr 30, .int (l8 + (1 : Int32))] m1 (fun v2 m2 => ∃ u2, v2 = some (Value.int u2) ∧ Q (some (.int ((((10 : Int32) * (u1 - (48 : Int32))) + u2) - (48 : Int32)))) m2))))) ∧ (¬ l5 < l9 → (yC (xg xs) d 24 [.retAddr 30, .int l8] m (fun v3 m3 => ∃ u3, v3 = some (Value.int u3) ∧ ((¬ u3 = (32 : Int32) → yP (xg xs) (d + 1) 346 142 [(4, .retAddr 30), (5, .int l5), (8, .int l8)] [.int l9] m3 Q) ∧ (u3 = (32 : Int32) → yP (xg xs) (d + 1) 346 142 [(4, .retAddr 30), (5, .int l5), (8, .int l8)] [.int (l9 + (1 : Int32))] m3 Q))))))) : yP (xg xs) (d + 1) 346 114 [(4, .retAddr 30), (5, .int l5), (8, .int l8), (9, .int l9)] [] m Q := by
  refine y_st rfl rfl rfl rfl rfl (fun _ _ => rfl) ?_
  refine y_st rfl rfl rfl rfl rfl (fun _ _ => rfl) ?_
  show yP (xg xs) (d + 1) 346 118 [(4, .retAddr 30), (5, .int l5), (8, .int l8), (9, .int l9)] [.int l5, .int l9] m Q
  refine y_igt (t := 150) rfl rfl rfl (fun h => ?_) (fun h => ?_)
  · replace H := H.1 h; clear h
    refine y_st rfl rfl rfl rfl rfl (fun _ _ => rfl) ?_
    refine y_st rfl rfl rfl rfl rfl (fun _ _ => rfl) ?_
    refine y_st rfl rfl rfl rfl rfl (fun _ _ => rfl) ?_
    show yP (xg xs) (d + 1) 346 156 [(4, .retAddr 30), (5, .int l5), (8, .int l8), (9, .int l9)] [.int l8, .retAddr 30, .int (10 : Int32)] m Q
    refine y_call rfl rfl rfl rfl rfl (Nat.le_of_ble_eq_true rfl) (Nat.le_of_ble_eq_true rfl) rfl (by decide) H (fun v1 m1 H => ?_)
    obtain ⟨u1, rfl, H⟩ := H
    refine y_st rfl rfl rfl rfl rfl (fun _ _ => rfl) ?_
    refine y_st rfl rfl rfl rfl rfl (fun _ _ => rfl) ?_
    refine y_st rfl rfl rfl rfl rfl (fun _ _ => rfl) ?_
    refine y_st rfl rfl rfl rfl rfl (fun _ _ => rfl) ?_
    refine y_st rfl rfl rfl rfl rfl (fun _ _ => rfl) ?_
    refine y_st rfl rfl rfl rfl rfl (fun _ _ => rfl) ?_
    refine y_st rfl rfl rfl rfl rfl (fun _ _ => rfl) ?_
    show yP (xg xs) (d + 1) 346 169 [(4, .retAddr 30), (5, .int l5), (8, .int l8), (9, .int l9)] [.int (l8 + (1 : Int32)), .retAddr 30, .int ((10 : Int32) * (u1 - (48 : Int32)))] m1 Q
    refine y_call rfl rfl rfl rfl rfl (Nat.le_of_ble_eq_true rfl) (Nat.le_of_ble_eq_true rfl) rfl (by decide) H (fun v2 m2 H => ?_)
    obtain ⟨u2, rfl, H⟩ := H
    refine y_st rfl rfl rfl rfl rfl (fun _ _ => rfl) ?_
    refine y_st rfl rfl rfl rfl rfl (fun _ _ => rfl) ?_
    refine y_st rfl rfl rfl rfl rfl (fun _ _ => rfl) ?_
    show yP (xg xs) (d + 1) 346 176 [(4, .retAddr 30), (5, .int l5), (8, .int l8), (9, .int l9)] [.int ((((10 : Int32) * (u1 - (48 : Int32))) + u2) - (48 : Int32))] m2 Q
    exact y_iret rfl rfl rfl H
  · replace H := H.2 h; clear h
    refine y_st rfl rfl rfl rfl rfl (fun _ _ => rfl) ?_
    refine y_st rfl rfl rfl rfl rfl (fun _ _ => rfl) ?_
    show yP (xg xs) (d + 1) 346 125 [(4, .retAddr 30), (5, .int l5), (8, .int l8), (9, .int l9)] [.int l8, .retAddr 30] m Q
    refine y_call rfl rfl rfl rfl rfl (Nat.le_of_ble_eq_true rfl) (Nat.le_of_ble_eq_true rfl) rfl (by decide) H (fun v3 m3 H => ?_)
    obtain ⟨u3, rfl, H⟩ := H
    refine y_st rfl rfl rfl rfl rfl (fun _ _ => rfl) ?_
    show yP (xg xs) (d + 1) 346 130 [(4, .retAddr 30), (5, .int l5), (8, .int l8), (9, .int l9)] [.int (32 : Int32), .int u3] m3 Q
    refine y_ine (t := 140) rfl rfl rfl (fun h => ?_) (fun h => ?_)
    · replace H := H.1 h; clear h
      refine y_st rfl rfl rfl rfl rfl (fun _ _ => rfl) ?_
      show yP (xg xs) (d + 1) 346 142 [(4, .retAddr 30), (5, .int l5), (8, .int l8), (9, .int l9)] [.int l9] m3 Q
      refine y_headS (l2 := [(4, .retAddr 30), (5, .int l5), (8, .int l8)]) [0, 1, 2] [4, 5, 8] [4, 5, 8, 9] rfl rfl (by decide) rfl (by decide) ?_
      exact H
    · replace H := H.2 h; clear h
      refine y_st rfl rfl rfl rfl rfl (fun _ _ => rfl) ?_
      refine y_st rfl rfl rfl rfl rfl (fun _ _ => rfl) ?_
      refine y_st rfl rfl rfl rfl rfl (fun _ _ => rfl) ?_
      refine y_st rfl rfl rfl rfl rfl (fun _ _ => rfl) ?_
      show yP (xg xs) (d + 1) 346 142 [(4, .retAddr 30), (5, .int l5), (8, .int l8), (9, .int l9)] [.int (l9 + (1 : Int32))] m3 Q
      refine y_headS (l2 := [(4, .retAddr 30), (5, .int l5), (8, .int l8)]) [0, 1, 2] [4, 5, 8] [4, 5, 8, 9] rfl rfl (by decide) rfl (by decide) ?_
      exact H
set_option maxRecDepth 20000 in
/-- CodeMakerModel.pinOf from 142 on -/
theorem w346s10_142 (xs : List Int32) (d : Nat) (l5 : Int32) (l8 : Int32) (s0 : Int32) (m : yM) (Q : Option Value → yM → Prop) (H : yP (xg xs) (d + 1) 346 114 [(4, .retAddr 30), (5, .int l5), (8, .int (l8 + (1 : Int32))), (9, .int s0)] [] m Q) : yP (xg xs) (d + 1) 346 142 [(4, .retAddr 30), (5, .int l5), (8, .int l8)] [.int s0] m Q := by
  refine y_st rfl rfl rfl rfl rfl (fun _ _ => rfl) ?_
  refine y_st rfl rfl rfl rfl rfl (fun _ _ => rfl) ?_
  refine y_st rfl rfl rfl rfl rfl (fun _ _ => rfl) ?_
  show yP (xg xs) (d + 1) 346 114 [(8, .int (l8 + (1 : Int32))), (9, .int s0), (4, .retAddr 30), (5, .int l5)] [] m Q
  refine y_headS (l2 := [(4, .retAddr 30), (5, .int l5), (8, .int (l8 + (1 : Int32))), (9, .int s0)]) [2, 3, 0, 1] [4, 5, 8, 9] [8, 9, 4, 5] rfl rfl (by decide) rfl (by decide) ?_
  exact H
set_option maxRecDepth 20000 in
/-- CodeMakerModel.pinOf from 0 on -/
theorem w346s11_0 (xs : List Int32) (d : Nat) (l1 : Int32) (l2 : Int32) (l3 : Int32) (m : yM) (Q : Option Value → yM → Prop) (H : (yC (xg xs) d 347 [.int l1] m (fun v1 m1 => v1 = some (.retAddr 31) ∧ (yC (xg xs) d 325 [.ref 58, .retAddr 31, .int l2] m1 (fun v2 m2 => ∃ u2, v2 = some (Value.int u2) ∧ yP (xg xs) (d + 1) 346 24 [(3, .int l3), (4, .retAddr 31), (5, .int u2), (6, .int (0 : Int32)), (7, .int (0 : Int32)), (8, .int (1 : Int32))] [] m2 Q))))) : yP (xg xs) (d + 1) 346 0 [(0, .ref 58), (1, .int l1), (2, .int l2), (3, .int l3)] [] m Q := by
  refine y_st rfl rfl rfl rfl rfl (fun _ _ => rfl) ?_
  show yP (xg xs) (d + 1) 346 1 [(0, .ref 58), (1, .int l1), (2, .int l2), (3, .int l3)] [.int l1] m Q
  refine y_call rfl rfl rfl rfl rfl (Nat.le_of_ble_eq_true rfl) (Nat.le_of_ble_eq_true rfl) rfl (by decide) H (fun v1 m1 H => ?_)
  obtain ⟨rfl, H⟩ := H
  refine y_st rfl rfl rfl rfl rfl (fun _ _ => rfl) ?_
  refine y_st rfl rfl rfl rfl rfl (fun _ _ => rfl) ?_
  refine y_st rfl rfl rfl rfl rfl (fun _ _ => rfl) ?_
  refine y_st rfl rfl rfl rfl rfl (fun _ _ => rfl) ?_
  show yP (xg xs) (d + 1) 346 10 [(4, .retAddr 31), (0, .ref 58), (1, .int l1), (2, .int l2), (3, .int l3)] [.int l2, .retAddr 31, .ref 58] m1 Q
  refine y_call rfl rfl rfl rfl rfl (Nat.le_of_ble_eq_true rfl) (Nat.le_of_ble_eq_true rfl) rfl (by decide) H (fun v2 m2 H => ?_)
  obtain ⟨u2, rfl, H⟩ := H
  refine y_st rfl rfl rfl rfl rfl (fun _ _ => rfl) ?_
  refine y_st rfl rfl rfl rfl rfl (fun _ _ => rfl) ?_
  refine y_st rfl rfl rfl rfl rfl (fun _ _ => rfl) ?_
  refine y_st rfl rfl rfl rfl rfl (fun _ _ => rfl) ?_
  refine y_st rfl rfl rfl rfl rfl (fun _ _ => rfl) ?_
  refine y_st rfl rfl rfl rfl rfl (fun _ _ => rfl) ?_
  refine y_st rfl rfl rfl rfl rfl (fun _ _ => rfl) ?_
  show yP (xg xs) (d + 1) 346 24 [(8, .int (1 : Int32)), (7, .int (0 : Int32)), (6, .int (0 : Int32)), (5, .int u2), (4, .retAddr 31), (0, .ref 58), (1, .int l1), (2, .int l2), (3, .int l3)] [] m2 Q
  refine y_headS (l2 := [(3, .int l3), (4, .retAddr 31), (5, .int u2), (6, .int (0 : Int32)), (7, .int (0 : Int32)), (8, .int (1 : Int32))]) [8, 4, 3, 2, 1, 0] [3, 4, 5, 6, 7, 8] [8, 7, 6, 5, 4, 0, 1, 2, 3] rfl rfl (by decide) rfl (by decide) ?_
  exact H
set_option maxRecDepth 20000 in
/-- CodeMakerModel.pinOf from 24 on -/
theorem w346s11_24 (xs : List Int32) (d : Nat) (l3 : Int32) (l5 : Int32) (l6 : Int32) (l7 : Int32) (l8 : Int32) (m : yM) (Q : Option Value → yM → Prop) (H : (yC (xg xs) d 22 [.retAddr 31] m (fun v1 m1 => ∃ u1, v1 = some (Value.int u1) ∧ ((u1 ≤ l8 → ((l5 = ((-1) : Int32) → Q (some (.int ((-1) : Int32))) m1) ∧ (¬ l5 = ((-1) : Int32) → ((l5 ≤ l6 → yP (xg xs) (d + 1) 346 103 [(4, .retAddr 31), (5, .int l5)] [.int (0 : Int32), .int l3] m1 Q) ∧ (¬ l5 ≤ l6 → yP (xg xs) (d + 1) 346 103 [(4, .retAddr 31), (5, .int l5)] [.int (1 : Int32), .int l3] m1 Q))))) ∧ (¬ u1 ≤ l8 → (yC (xg xs) d 24 [.retAddr 31, .int l8] m1 (fun v2 m2 => ∃ u2, v2 = some (Value.int u2) ∧ ((¬ u2 = (32 : Int32) → yP (xg xs) (d + 1) 346 55 [(3, .int l3), (4, .retAddr 31), (5, .int l5), (6, .int l6), (8, .int l8)] [.int l7] m2 Q) ∧ (u2 = (32 : Int32) → yP (xg xs) (d + 1) 346 55 [(3, .int l3), (4, .retAddr 31), (5, .int l5), (6, .int l6), (8, .int l8)] [.int (l7 + (1 : Int32))] m2 Q))))))))) : yP (xg xs) (d + 1) 346 24 [(3, .int l3), (4, .retAddr 31), (5, .int l5), (6, .int l6), (7, .int l7), (8, .int l8)] [] m Q := by
  refine y_st rfl rfl rfl rfl rfl (fun _ _ => rfl) ?_
  refine y_st rfl rfl rfl rfl rfl (fun _ _ => rfl) ?_
  show yP (xg xs) (d + 1) 346 28 [(3, .int l3), (4, .retAddr 31), (5, .int l5), (6, .int l6), (7, .int l7), (8, .int l8)] [.retAddr 31, .int l8] m Q
  refine y_call rfl rfl rfl rfl rfl (Nat.le_of_ble_eq_true rfl) (Nat.le_of_ble_eq_true rfl) rfl (by decide) H (fun v1 m1 H => ?_)
  obtain ⟨u1, rfl, H⟩ := H
  show yP (xg xs) (d + 1) 346 31 [(3, .int l3), (4, .retAddr 31), (5, .int l5), (6, .int l6), (7, .int l7), (8, .int l8)] [.int u1, .int l8] m1 Q
  refine y_ige (t := 84) rfl rfl rfl (fun h => ?_) (fun h => ?_)
  · replace H := H.1 h; clear h
    refine y_st rfl rfl rfl rfl rfl (fun _ _ => rfl) ?_
    refine y_st rfl rfl rfl rfl rfl (fun _ _ => rfl) ?_
    show yP (xg xs) (d + 1) 346 87 [(3, .int l3), (4, .retAddr 31), (5, .int l5), (6, .int l6), (7, .int l7), (8, .int l8)] [.int ((-1) : Int32), .int l5] m1 Q
    refine y_ieq (t := 106) rfl rfl rfl (fun h => ?_) (fun h => ?_)
    · replace H := H.1 h; clear h
      refine y_st rfl rfl rfl rfl rfl (fun _ _ => rfl) ?_
      show yP (xg xs) (d + 1) 346 107 [(3, .int l3), (4, .retAddr 31), (5, .int l5), (6, .int l6), (7, .int l7), (8, .int l8)] [.int ((-1) : Int32)] m1 Q
      exact y_iret rfl rfl rfl H
    · replace H := H.2 h; clear h
      refine y_st rfl rfl rfl rfl rfl (fun _ _ => rfl) ?_
      refine y_st rfl rfl rfl rfl rfl (fun _ _ => rfl) ?_
      refine y_st rfl rfl rfl rfl rfl (fun _ _ => rfl) ?_
      show yP (xg xs) (d + 1) 346 95 [(3, .int l3), (4, .retAddr 31), (5, .int l5), (6, .int l6), (7, .int l7), (8, .int l8)] [.int l6, .int l5, .int l3] m1 Q
      refine y_ile (t := 102) rfl rfl rfl (fun h => ?_) (fun h => ?_)
      · replace H := H.1 h; clear h
        refine y_st rfl rfl rfl rfl rfl (fun _ _ => rfl) ?_
        show yP (xg xs) (d + 1) 346 103 [(3, .int l3), (4, .retAddr 31), (5, .int l5), (6, .int l6), (7, .int l7), (8, .int l8)] [.int (0 : Int32), .int l3] m1 Q
        refine y_headS (l2 := [(4, .retAddr 31), (5, .int l5)]) [1, 2] [4, 5] [3, 4, 5, 6, 7, 8] rfl rfl (by decide) rfl (by decide) ?_
        exact H
      · replace H := H.2 h; clear h
        refine y_st rfl rfl rfl rfl rfl (fun _ _ => rfl) ?_
        refine y_st rfl rfl rfl rfl rfl (fun _ _ => rfl) ?_
        show yP (xg xs) (d + 1) 346 103 [(3, .int l3), (4, .retAddr 31), (5, .int l5), (6, .int l6), (7, .int l7), (8, .int l8)] [.int (1 : Int32), .int l3] m1 Q
        refine y_headS (l2 := [(4, .retAddr 31), (5, .int l5)]) [1, 2] [4, 5] [3, 4, 5, 6, 7, 8] rfl rfl (by decide) rfl (by decide) ?_
        exact H
  · replace H := H.2 h; clear h
    refine y_st rfl rfl rfl rfl rfl (fun _ _ => rfl) ?_
    refine y_st rfl rfl rfl rfl rfl (fun _ _ => rfl) ?_
    show yP (xg xs) (d + 1) 346 38 [(3, .int l3), (4, .retAddr 31), (5, .int l5), (6, .int l6), (7, .int l7), (8, .int l8)] [.int l8, .retAddr 31] m1 Q
    refine y_call rfl rfl rfl rfl rfl (Nat.le_of_ble_eq_true rfl) (Nat.le_of_ble_eq_true rfl) rfl (by decide) H (fun v2 m2 H => ?_)
    obtain ⟨u2, rfl, H⟩ := H
    refine y_st rfl rfl rfl rfl rfl (fun _ _ => rfl) ?_
    show yP (xg xs) (d + 1) 346 43 [(3, .int l3), (4, .retAddr 31), (5, .int l5), (6, .int l6), (7, .int l7), (8, .int l8)] [.int (32 : Int32), .int u2] m2 Q
    refine y_ine (t := 53) rfl rfl rfl (fun h => ?_) (fun h => ?_)
    · replace H := H.1 h; clear h
      refine y_st rfl rfl rfl rfl rfl (fun _ _ => rfl) ?_
      show yP (xg xs) (d + 1) 346 55 [(3, .int l3), (4, .retAddr 31), (5, .int l5), (6, .int l6), (7, .int l7), (8, .int l8)] [.int l7] m2 Q
      refine y_headS (l2 := [(3, .int l3), (4, .retAddr 31), (5, .int l5), (6, .int l6), (8, .int l8)]) [0, 1, 2, 3, 5] [3, 4, 5, 6, 8] [3, 4, 5, 6, 7, 8] rfl rfl (by decide) rfl (by decide) ?_
      exact H
    · replace H := H.2 h; clear h
      refine y_st rfl rfl rfl rfl rfl (fun _ _ => rfl) ?_
      refine y_st rfl rfl rfl rfl rfl (fun _ _ => rfl) ?_
      refine y_st rfl rfl rfl rfl rfl (fun _ _ => rfl) ?_
      refine y_st rfl rfl rfl rfl rfl (fun _ _ => rfl) ?_
      show yP (xg xs) (d + 1) 346 55 [(3, .int l3), (4, .retAddr 31), (5, .int l5), (6, .int l6), (7, .int l7), (8, .int l8)] [.int (l7 + (1 : Int32))] m2 Q
      refine y_headS (l2 := [(3, .int l3), (4, .retAddr 31), (5, .int l5), (6, .int l6), (8, .int l8)]) [0, 1, 2, 3, 5] [3, 4, 5, 6, 8] [3, 4, 5, 6, 7, 8] rfl rfl (by decide) rfl (by decide) ?_
      exact H
set_option maxRecDepth 20000 in
/-- CodeMakerModel.pinOf from 55 on -/
theorem w346s11_55 (xs : List Int32) (d : Nat) (l3 : Int32) (l5 : Int32) (l6 : Int32) (l8 : Int32) (s0 : Int32) (m : yM) (Q : Option Value → yM → Prop) (H : (yC (xg xs) d 24 [.retAddr 31, .int l8] m (fun v1 m1 => ∃ u1, v1 = some (Value.int u1) ∧ ((¬ u1 = (124 : Int32) → yP (xg xs) (d + 1) 346 76 [(3, .int l3), (4, .retAddr 31), (5, .int l5), (7, .int s0), (8, .int l8)] [.int l6] m1 Q) ∧ (u1 = (124 : Int32) → yP (xg xs) (d + 1) 346 76 [(3, .int l3), (4, .retAddr 31), (5, .int l5), (7, .int s0), (8, .int l8)] [.int s0] m1 Q))))) : yP (xg xs) (d + 1) 346 55 [(3, .int l3), (4, .retAddr 31), (5, .int l5), (6, .int l6), (8, .int l8)] [.int s0] m Q := by
  refine y_st rfl rfl rfl rfl rfl (fun _ _ => rfl) ?_
  refine y_st rfl rfl rfl rfl rfl (fun _ _ => rfl) ?_
  refine y_st rfl rfl rfl rfl rfl (fun _ _ => rfl) ?_
  show yP (xg xs) (d + 1) 346 61 [(7, .int s0), (3, .int l3), (4, .retAddr 31), (5, .int l5), (6, .int l6), (8, .int l8)] [.int l8, .retAddr 31] m Q
  refine y_call rfl rfl rfl rfl rfl (Nat.le_of_ble_eq_true rfl) (Nat.le_of_ble_eq_true rfl) rfl (by decide) H (fun v1 m1 H => ?_)
  obtain ⟨u1, rfl, H⟩ := H
  refine y_st rfl rfl rfl rfl rfl (fun _ _ => rfl) ?_
  show yP (xg xs) (d + 1) 346 66 [(7, .int s0), (3, .int l3), (4, .retAddr 31), (5, .int l5), (6, .int l6), (8, .int l8)] [.int (124 : Int32), .int u1] m1 Q
  refine y_ine (t := 74) rfl rfl rfl (fun h => ?_) (fun h => ?_)
  · replace H := H.1 h; clear h
    refine y_st rfl rfl rfl rfl rfl (fun _ _ => rfl) ?_
    show yP (xg xs) (d + 1) 346 76 [(7, .int s0), (3, .int l3), (4, .retAddr 31), (5, .int l5), (6, .int l6), (8, .int l8)] [.int l6] m1 Q
    refine y_headS (l2 := [(3, .int l3), (4, .retAddr 31), (5, .int l5), (7, .int s0), (8, .int l8)]) [1, 2, 3, 0, 5] [3, 4, 5, 7, 8] [7, 3, 4, 5, 6, 8] rfl rfl (by decide) rfl (by decide) ?_
    exact H
  · replace H := H.2 h; clear h
    refine y_st rfl rfl rfl rfl rfl (fun _ _ => rfl) ?_
    refine y_st rfl rfl rfl rfl rfl (fun _ _ => rfl) ?_
    show yP (xg xs) (d + 1) 346 76 [(7, .int s0), (3, .int l3), (4, .retAddr 31), (5, .int l5), (6, .int l6), (8, .int l8)] [.int s0] m1 Q
    refine y_headS (l2 := [(3, .int l3), (4, .retAddr 31), (5, .int l5), (7, .int s0), (8, .int l8)]) [1, 2, 3, 0, 5] [3, 4, 5, 7, 8] [7, 3, 4, 5, 6, 8] rfl rfl (by decide) rfl (by decide) ?_
    exact H
set_option maxRecDepth 20000 in
/-- CodeMakerModel.pinOf from 76 on -/
theorem w346s11_76 (xs : List Int32) (d : Nat) (l3 : Int32) (l5 : Int32) (l7 : Int32) (l8 : Int32) (s0 : Int32) (m : yM) (Q : Option Value → yM → Prop) (H : yP (xg xs) (d + 1) 346 24 [(3, .int l3), (4, .retAddr 31), (5, .int l5), (6, .int s0), (7, .int l7), (8, .int (l8 + (1 : Int32)))] [] m Q) : yP (xg xs) (d + 1) 346 76 [(3, .int l3), (4, .retAddr 31), (5, .int l5), (7, .int l7), (8, .int l8)] [.int s0] m Q := by
  refine y_st rfl rfl rfl rfl rfl (fun _ _ => rfl) ?_
  refine y_st rfl rfl rfl rfl rfl (fun _ _ => rfl) ?_
  refine y_st rfl rfl rfl rfl rfl (fun _ _ => rfl) ?_
  show yP (xg xs) (d + 1) 346 24 [(8, .int (l8 + (1 : Int32))), (6, .int s0), (3, .int l3), (4, .retAddr 31), (5, .int l5), (7, .int l7)] [] m Q
  refine y_headS (l2 := [(3, .int l3), (4, .retAddr 31), (5, .int l5), (6, .int s0), (7, .int l7), (8, .int (l8 + (1 : Int32)))]) [2, 3, 4, 1, 5, 0] [3, 4, 5, 6, 7, 8] [8, 6, 3, 4, 5, 7] rfl rfl (by decide) rfl (by decide) ?_
  exact H
set_option maxRecDepth 20000 in
/-- CodeMakerModel.pinOf from 103 on -/
theorem w346s11_103 (xs : List Int32) (d : Nat) (l5 : Int32) (s0 : Int32) (s1 : Int32) (m : yM) (Q : Option Value → yM → Prop) (H : ((s0 = s1 → yP (xg xs) (d + 1) 346 114 [(4, .retAddr 31), (5, .int l5), (8, .int (1 : Int32)), (9, .int (0 : Int32))] [] m Q) ∧ (¬ s0 = s1 → Q (some (.int ((-1) : Int32))) m))) : yP (xg xs) (d + 1) 346 103 [(4, .retAddr 31), (5, .int l5)] [.int s1, .int s0] m Q := by
  show yP (xg xs) (d + 1) 346 103 [(4, .retAddr 31), (5, .int l5)] [.int s1, .int s0] m Q
  refine y_ieq (t := 108) rfl rfl rfl (fun h => ?_) (fun h => ?_)
  · replace H := H.1 h; clear h
    refine y_st rfl rfl rfl rfl rfl (fun _ _ => rfl) ?_
    refine y_st rfl rfl rfl rfl rfl (fun _ _ => rfl) ?_
    refine y_st rfl rfl rfl rfl rfl (fun _ _ => rfl) ?_
    refine y_st rfl rfl rfl rfl rfl (fun _ _ => rfl) ?_
    show yP (xg xs) (d + 1) 346 114 [(9, .int (0 : Int32)), (8, .int (1 : Int32)), (4, .retAddr 31), (5, .int l5)] [] m Q
    refine y_headS (l2 := [(4, .retAddr 31), (5, .int l5), (8, .int (1 : Int32)), (9, .int (0 : Int32))]) [2, 3, 1, 0] [4, 5, 8, 9] [9, 8, 4, 5] rfl rfl (by decide) rfl (by decide) ?_
    exact H
  · replace H := H.2 h; clear h
    refine y_st rfl rfl rfl rfl rfl (fun _ _ => rfl) ?_
    show yP (xg xs) (d + 1) 346 107 [(4, .retAddr 31), (5, .int l5)] [.int ((-1) : Int32)] m Q
    exact y_iret rfl rfl rfl H
set_option maxRecDepth 20000 in
/-- CodeMakerModel.pinOf from 114 on -/
theorem w346s11_114 (xs : List Int32) (d : Nat) (l5 : Int32) (l8 : Int32) (l9 : Int32) (m : yM) (Q : Option Value → yM → Prop) (H : ((l5 < l9 → (yC (xg xs) d 24 [.retAddr 31, .int l8] m (fun v1 m1 => ∃ u1, v1 = some (Value.int u1) ∧ (yC (xg xs) d 24 [.retAddr 31, .int (l8 + (1 : Int32))] m1 (fun v2 m2 => ∃ u2, v2 = some (Value.int u2) ∧ Q (some (.int ((((10 : Int32) * (u1 - (48 : Int32))) + u2) - (48 : Int32)))) m2))))) ∧ (¬ l5 < l9 → (yC (xg xs) d 24 [.retAddr 31, .int l8] m (fun v3 m3 => ∃ u3, v3 = some (Value.int u3) ∧ ((¬ u3 = (32 : Int32) → yP (xg xs) (d + 1) 346 142 [(4, .retAddr 31), (5, .int l5), (8, .int l8)] [.int l9] m3 Q) ∧ (u3 = (32 : Int32) → yP (xg xs) (d + 1) 346 142 [(4, .retAddr 31), (5, .int l5), (8, .int l8)] [.int (l9 + (1 : Int32))] m3 Q))))))) : yP (xg xs) (d + 1) 346 114 [(4, .retAddr 31), (5, .int l5), (8, .int l8), (9, .int l9)] [] m Q := by
  refine y_st rfl rfl rfl rfl rfl (fun _ _ => rfl) ?_
  refine y_st rfl rfl rfl rfl rfl (fun _ _ => rfl) ?_
  show yP (xg xs) (d + 1) 346 118 [(4, .retAddr 31), (5, .int l5), (8, .int l8), (9, .int l9)] [.int l5, .int l9] m Q
  refine y_igt (t := 150) rfl rfl rfl (fun h => ?_) (fun h => ?_)
  · replace H := H.1 h; clear h
    refine y_st rfl rfl rfl rfl rfl (fun _ _ => rfl) ?_
    refine y_st rfl rfl rfl rfl rfl (fun _ _ => rfl) ?_
    refine y_st rfl rfl rfl rfl rfl (fun _ _ => rfl) ?_
    show yP (xg xs) (d + 1) 346 156 [(4, .retAddr 31), (5, .int l5), (8, .int l8), (9, .int l9)] [.int l8, .retAddr 31, .int (10 : Int32)] m Q
    refine y_call rfl rfl rfl rfl rfl (Nat.le_of_ble_eq_true rfl) (Nat.le_of_ble_eq_true rfl) rfl (by decide) H (fun v1 m1 H => ?_)
    obtain ⟨u1, rfl, H⟩ := H
    refine y_st rfl rfl rfl rfl rfl (fun _ _ => rfl) ?_
    refine y_st rfl rfl rfl rfl rfl (fun _ _ => rfl) ?_
    refine y_st rfl rfl rfl rfl rfl (fun _ _ => rfl) ?_
    refine y_st rfl rfl rfl rfl rfl (fun _ _ => rfl) ?_
    refine y_st rfl rfl rfl rfl rfl (fun _ _ => rfl) ?_
    refine y_st rfl rfl rfl rfl rfl (fun _ _ => rfl) ?_
    refine y_st rfl rfl rfl rfl rfl (fun _ _ => rfl) ?_
    show yP (xg xs) (d + 1) 346 169 [(4, .retAddr 31), (5, .int l5), (8, .int l8), (9, .int l9)] [.int (l8 + (1 : Int32)), .retAddr 31, .int ((10 : Int32) * (u1 - (48 : Int32)))] m1 Q
    refine y_call rfl rfl rfl rfl rfl (Nat.le_of_ble_eq_true rfl) (Nat.le_of_ble_eq_true rfl) rfl (by decide) H (fun v2 m2 H => ?_)
    obtain ⟨u2, rfl, H⟩ := H
    refine y_st rfl rfl rfl rfl rfl (fun _ _ => rfl) ?_
    refine y_st rfl rfl rfl rfl rfl (fun _ _ => rfl) ?_
    refine y_st rfl rfl rfl rfl rfl (fun _ _ => rfl) ?_
    show yP (xg xs) (d + 1) 346 176 [(4, .retAddr 31), (5, .int l5), (8, .int l8), (9, .int l9)] [.int ((((10 : Int32) * (u1 - (48 : Int32))) + u2) - (48 : Int32))] m2 Q
    exact y_iret rfl rfl rfl H
  · replace H := H.2 h; clear h
    refine y_st rfl rfl rfl rfl rfl (fun _ _ => rfl) ?_
    refine y_st rfl rfl rfl rfl rfl (fun _ _ => rfl) ?_
    show yP (xg xs) (d + 1) 346 125 [(4, .retAddr 31), (5, .int l5), (8, .int l8), (9, .int l9)] [.int l8, .retAddr 31] m Q
    refine y_call rfl rfl rfl rfl rfl (Nat.le_of_ble_eq_true rfl) (Nat.le_of_ble_eq_true rfl) rfl (by decide) H (fun v3 m3 H => ?_)
    obtain ⟨u3, rfl, H⟩ := H
    refine y_st rfl rfl rfl rfl rfl (fun _ _ => rfl) ?_
    show yP (xg xs) (d + 1) 346 130 [(4, .retAddr 31), (5, .int l5), (8, .int l8), (9, .int l9)] [.int (32 : Int32), .int u3] m3 Q
    refine y_ine (t := 140) rfl rfl rfl (fun h => ?_) (fun h => ?_)
    · replace H := H.1 h; clear h
      refine y_st rfl rfl rfl rfl rfl (fun _ _ => rfl) ?_
      show yP (xg xs) (d + 1) 346 142 [(4, .retAddr 31), (5, .int l5), (8, .int l8), (9, .int l9)] [.int l9] m3 Q
      refine y_headS (l2 := [(4, .retAddr 31), (5, .int l5), (8, .int l8)]) [0, 1, 2] [4, 5, 8] [4, 5, 8, 9] rfl rfl (by decide) rfl (by decide) ?_
      exact H
    · replace H := H.2 h; clear h
      refine y_st rfl rfl rfl rfl rfl (fun _ _ => rfl) ?_
      refine y_st rfl rfl rfl rfl rfl (fun _ _ => rfl) ?_
      refine y_st rfl rfl rfl rfl rfl (fun _ _ => rfl) ?_
      refine y_st rfl rfl rfl rfl rfl (fun _ _ => rfl) ?_
      show yP (xg xs) (d + 1) 346 142 [(4, .retAddr 31), (5, .int l5), (8, .int l8), (9, .int l9)] [.int (l9 + (1 : Int32))] m3 Q
      refine y_headS (l2 := [(4, .retAddr 31), (5, .int l5), (8, .int l8)]) [0, 1, 2] [4, 5, 8] [4, 5, 8, 9] rfl rfl (by decide) rfl (by decide) ?_
      exact H
set_option maxRecDepth 20000 in
/-- CodeMakerModel.pinOf from 142 on -/
theorem w346s11_142 (xs : List Int32) (d : Nat) (l5 : Int32) (l8 : Int32) (s0 : Int32) (m : yM) (Q : Option Value → yM → Prop) (H : yP (xg xs) (d + 1) 346 114 [(4, .retAddr 31), (5, .int l5), (8, .int (l8 + (1 : Int32))), (9, .int s0)] [] m Q) : yP (xg xs) (d + 1) 346 142 [(4, .retAddr 31), (5, .int l5), (8, .int l8)] [.int s0] m Q := by
  refine y_st rfl rfl rfl rfl rfl (fun _ _ => rfl) ?_
  refine y_st rfl rfl rfl rfl rfl (fun _ _ => rfl) ?_
  refine y_st rfl rfl rfl rfl rfl (fun _ _ => rfl) ?_
  show yP (xg xs) (d + 1) 346 114 [(8, .int (l8 + (1 : Int32))), (9, .int s0), (4, .retAddr 31), (5, .int l5)] [] m Q
  refine y_headS (l2 := [(4, .retAddr 31), (5, .int l5), (8, .int (l8 + (1 : Int32))), (9, .int s0)]) [2, 3, 0, 1] [4, 5, 8, 9] [8, 9, 4, 5] rfl rfl (by decide) rfl (by decide) ?_
  exact H
set_option maxRecDepth 20000 in
/-- CodeMakerModel.pinOf from 0 on -/
theorem w346s12_0 (xs : List Int32) (d : Nat) (l1 : Int32) (l2 : Int32) (l3 : Int32) (m : yM) (Q : Option Value → yM → Prop) (H : (yC (xg xs) d 347 [.int l1] m (fun v1 m1 => v1 = some (.retAddr 32) ∧ (yC (xg xs) d 325 [.ref 58, .retAddr 32, .int l2] m1 (fun v2 m2 => ∃ u2, v2 = some (Value.int u2) ∧ yP (xg xs) (d + 1) 346 24 [(3, .int l3), (4, .retAddr 32), (5, .int u2), (6, .int (0 : Int32)), (7, .int (0 : Int32)), (8, .int (1 : Int32))] [] m2 Q))))) : yP (xg xs) (d + 1) 346 0 [(0, .ref 58), (1, .int l1), (2, .int l2), (3, .int l3)] [] m Q := by
  refine y_st rfl rfl rfl rfl rfl (fun _ _ => rfl) ?_
  show yP (xg xs) (d + 1) 346 1 [(0, .ref 58), (1, .int l1), (2, .int l2), (3, .int l3)] [.int l1] m Q
  refine y_call rfl rfl rfl rfl rfl (Nat.le_of_ble_eq_true rfl) (Nat.le_of_ble_eq_true rfl) rfl (by decide) H (fun v1 m1 H => ?_)
  obtain ⟨rfl, H⟩ := H
  refine y_st rfl rfl rfl rfl rfl (fun _ _ => rfl) ?_
  refine y_st rfl rfl rfl rfl rfl (fun _ _ => rfl) ?_
  refine y_st rfl rfl rfl rfl rfl (fun _ _ => rfl) ?_
  refine y_st rfl rfl rfl rfl rfl (fun _ _ => rfl) ?_
  show yP (xg xs) (d + 1) 346 10 [(4, .retAddr 32), (0, .ref 58), (1, .int l1), (2, .int l2), (3, .int l3)] [.int l2, .retAddr 32, .ref 58] m1 Q
  refine y_call rfl rfl rfl rfl rfl (Nat.le_of_ble_eq_true rfl) (Nat.le_of_ble_eq_true rfl) rfl (by decide) H (fun v2 m2 H => ?_)
  obtain ⟨u2, rfl, H⟩ := H
  refine y_st rfl rfl rfl rfl rfl (fun _ _ => rfl) ?_
  refine y_st rfl rfl rfl rfl rfl (fun _ _ => rfl) ?_
  refine y_st rfl rfl rfl rfl rfl (fun _ _ => rfl) ?_
  refine y_st rfl rfl rfl rfl rfl (fun _ _ => rfl) ?_
  refine y_st rfl rfl rfl rfl rfl (fun _ _ => rfl) ?_
  refine y_st rfl rfl rfl rfl rfl (fun _ _ => rfl) ?_
  refine y_st rfl rfl rfl rfl rfl (fun _ _ => rfl) ?_
  show yP (xg xs) (d + 1) 346 24 [(8, .int (1 : Int32)), (7, .int (0 : Int32)), (6, .int (0 : Int32)), (5, .int u2), (4, .retAddr 32), (0, .ref 58), (1, .int l1), (2, .int l2), (3, .int l3)] [] m2 Q
  refine y_headS (l2 := [(3, .int l3), (4, .retAddr 32), (5, .int u2), (6, .int (0 : Int32)), (7, .int (0 : Int32)), (8, .int (1 : Int32))]) [8, 4, 3, 2, 1, 0] [3, 4, 5, 6, 7, 8] [8, 7, 6, 5, 4, 0, 1, 2, 3] rfl rfl (by decide) rfl (by decide) ?_
  exact H
set_option maxRecDepth 20000 in
/-- CodeMakerModel.pinOf from 24 on -/
theorem w346s12_24 (xs : List Int32) (d : Nat) (l3 : Int32) (l5 : Int32) (l6 : Int32) (l7 : Int32) (l8 : Int32) (m : yM) (Q : Option Value → yM → Prop) (H : (yC (xg xs) d 22 [.retAddr 32] m (fun v1 m1 => ∃ u1, v1 = some (Value.int u1) ∧ ((u1 ≤ l8 → ((l5 = ((-1) : Int32) → Q (some (.int ((-1) : Int32))) m1) ∧ (¬ l5 = ((-1) : Int32) → ((l5 ≤ l6 → yP (xg xs) (d + 1) 346 103 [(4, .retAddr 32), (5, .int l5)] [.int (0 : Int32), .int l3] m1 Q) ∧ (¬ l5 ≤ l6 → yP (xg xs) (d + 1) 346 103 [(4, .retAddr 32), (5, .int l5)] [.int (1 : Int32), .int l3] m1 Q))))) ∧ (¬ u1 ≤ l8 → (yC (xg xs) d 24 [.retAddr 32, .int l8] m1 (fun v2 m2 => ∃ u2, v2 = some (Value.int u2) ∧ ((¬ u2 = (32 : Int32) → yP (xg xs) (d + 1) 346 55 [(3, .int l3), (4, .retAddr 32), (5, .int l5), (6, .int l6), (8, .int l8)] [.int l7] m2 Q) ∧ (u2 = (32 : Int32) → yP (xg xs) (d + 1) 346 55 [(3, .int l3), (4, .retAddr 32), (5, .int l5), (6, .int l6), (8, .int l8)] [.int (l7 + (1 : Int32))] m2 Q))))))))) : yP (xg xs) (d + 1) 346 24 [(3, .int l3), (4, .retAddr 32), (5, .int l5), (6, .int l6), (7, .int l7), (8, .int l8)] [] m Q := by
  refine y_st rfl rfl rfl rfl rfl (fun _ _ => rfl) ?_
  refine y_st rfl rfl rfl rfl rfl (fun _ _ => rfl) ?_
  show yP (xg xs) (d + 1) 346 28 [(3, .int l3), (4, .retAddr 32), (5, .int l5), (6, .int l6), (7, .int l7), (8, .int l8)] [.retAddr 32, .int l8] m Q
  refine y_call rfl rfl rfl rfl rfl (Nat.le_of_ble_eq_true rfl) (Nat.le_of_ble_eq_true rfl) rfl (by decide) H (fun v1 m1 H => ?_)
  obtain ⟨u1, rfl, H⟩ := H
  show yP (xg xs) (d + 1) 346 31 [(3, .int l3), (4, .retAddr 32), (5, .int l5), (6, .int l6), (7, .int l7), (8, .int l8)] [.int u1, .int l8] m1 Q
  refine y_ige (t := 84) rfl rfl rfl (fun h => ?_) (fun h => ?_)
  · replace H := H.1 h; clear h
    refine y_st rfl rfl rfl rfl rfl (fun _ _ => rfl) ?_
    refine y_st rfl rfl rfl rfl rfl (fun _ _ => rfl) ?_
    show yP (xg xs) (d + 1) 346 87 [(3, .int l3), (4, .retAddr 32), (5, .int l5), (6, .int l6), (7, .int l7), (8, .int l8)] [.int ((-1) : Int32), .int l5] m1 Q
    refine y_ieq (t := 106) rfl rfl rfl (fun h => ?_) (fun h => ?_)
    · replace H := H.1 h; clear h
      refine y_st rfl rfl rfl rfl rfl (fun _ _ => rfl) ?_
      show yP (xg xs) (d + 1) 346 107 [(3, .int l3), (4, .retAddr 32), (5, .int l5), (6, .int l6), (7, .int l7), (8, .int l8)] [.int ((-1) : Int32)] m1 Q
      exact y_iret rfl rfl rfl H
    · replace H := H.2 h; clear h
      refine y_st rfl rfl rfl rfl rfl (fun _ _ => rfl) ?_
      refine y_st rfl rfl rfl rfl rfl (fun _ _ => rfl) ?_
      refine y_st rfl rfl rfl rfl rfl (fun _ _ => rfl) ?_
      show yP (xg xs) (d + 1) 346 95 [(3, .int l3), (4, .retAddr 32), (5, .int l5), (6, .int l6), (7, .int l7), (8, .int l8)] [.int l6, .int l5, .int l3] m1 Q
      refine y_ile (t := 102) rfl rfl rfl (fun h => ?_) (fun h => ?_)
      · replace H := H.1 h; clear h
        refine y_st rfl rfl rfl rfl rfl (fun _ _ => rfl) ?_
        show yP (xg xs) (d + 1) 346 103 [(3, .int l3), (4, .retAddr 32), (5, .int l5), (6, .int l6), (7, .int l7), (8, .int l8)] [.int (0 : Int32), .int l3] m1 Q
        refine y_headS (l2 := [(4, .retAddr 32), (5, .int l5)]) [1, 2] [4, 5] [3, 4, 5, 6, 7, 8] rfl rfl (by decide) rfl (by decide) ?_
        exact H
      · replace H := H.2 h; clear h
        refine y_st rfl rfl rfl rfl rfl (fun _ _ => rfl) ?_
        refine y_st rfl rfl rfl rfl rfl (fun _ _ => rfl) ?_
        show yP (xg xs) (d + 1) 346 103 [(3, .int l3), (4, .retAddr 32), (5, .int l5), (6, .int l6), (7, .int l7), (8, .int l8)] [.int (1 : Int32), .int l3] m1 Q
        refine y_headS (l2 := [(4, .retAddr 32), (5, .int l5)]) [1, 2] [4, 5] [3, 4, 5, 6, 7, 8] rfl rfl (by decide) rfl (by decide) ?_
        exact H
  · replace H := H.2 h; clear h
    refine y_st rfl rfl rfl rfl rfl (fun _ _ => rfl) ?_
    refine y_st rfl rfl rfl rfl rfl (fun _ _ => rfl) ?_
    show yP (xg xs) (d + 1) 346 38 [(3, .int l3), (4, .retAddr 32), (5, .int l5), (6, .int l6), (7, .int l7), (8, .int l8)] [.int l8, .retAddr 32] m1 Q
    refine y_call rfl rfl rfl rfl rfl (Nat.le_of_ble_eq_true rfl) (Nat.le_of_ble_eq_true rfl) rfl (by decide) H (fun v2 m2 H => ?_)
    obtain ⟨u2, rfl, H⟩ := H
    refine y_st rfl rfl rfl rfl rfl (fun _ _ => rfl) ?_
    show yP (xg xs) (d + 1) 346 43 [(3, .int l3), (4, .retAddr 32), (5, .int l5), (6, .int l6), (7, .int l7), (8, .int l8)] [.int (32 : Int32), .int u2] m2 Q
    refine y_ine (t := 53) rfl rfl rfl (fun h => ?_) (fun h => ?_)
    · replace H := H.1 h; clear h
      refine y_st rfl rfl rfl rfl rfl (fun _ _ => rfl) ?_
      show yP (xg xs) (d + 1) 346 55 [(3, .int l3), (4, .retAddr 32), (5, .int l5), (6, .int l6), (7, .int l7), (8, .int l8)] [.int l7] m2 Q
      refine y_headS (l2 := [(3, .int l3), (4, .retAddr 32), (5, .int l5), (6, .int l6), (8, .int l8)]) [0, 1, 2, 3, 5] [3, 4, 5, 6, 8] [3, 4, 5, 6, 7, 8] rfl rfl (by decide) rfl (by decide) ?_
      exact H
    · replace H := H.2 h; clear h
      refine y_st rfl rfl rfl rfl rfl (fun _ _ => rfl) ?_
      refine y_st rfl rfl rfl rfl rfl (fun _ _ => rfl) ?_
      refine y_st rfl rfl rfl rfl rfl (fun _ _ => rfl) ?_
      refine y_st rfl rfl rfl rfl rfl (fun _ _ => rfl) ?_
      show yP (xg xs) (d + 1) 346 55 [(3, .int l3), (4, .retAddr 32), (5, .int l5), (6, .int l6), (7, .int l7), (8, .int l8)] [.int (l7 + (1 : Int32))] m2 Q
      refine y_headS (l2 := [(3, .int l3), (4, .retAddr 32), (5, .int l5), (6, .int l6), (8, .int l8)]) [0, 1, 2, 3, 5] [3, 4, 5, 6, 8] [3, 4, 5, 6, 7, 8] rfl rfl (by decide) rfl (by decide) ?_
      exact H
set_option maxRecDepth 20000 in
/-- CodeMakerModel.pinOf from 55 on -/
theorem w346s12_55 (xs : List Int32) (d : Nat) (l3 : Int32) (l5 : Int32) (l6 : Int32) (l8 : Int32) (s0 : Int32) (m : yM) (Q : Option Value → yM → Prop) (H : (yC (xg xs) d 24 [.retAddr 32, .int l8] m (fun v1 m1 => ∃ u1, v1 = some (Value.int u1) ∧ ((¬ u1 = (124 : Int32) → yP (xg xs) (d + 1) 346 76 [(3, .int l3), (4, .retAddr 32), (5, .int l5), (7, .int s0), (8, .int l8)] [.int l6] m1 Q) ∧ (u1 = (124 : Int32) → yP (xg xs) (d + 1) 346 76 [(3, .int l3), (4, .retAddr 32), (5, .int l5), (7, .int s0), (8, .int l8)] [.int s0] m1 Q))))) : yP (xg xs) (d + 1) 346 55 [(3, .int l3), (4, .retAddr 32), (5, .int l5), (6, .int l6), (8, .int l8)] [.int s0] m Q := by
  refine y_st rfl rfl rfl rfl rfl (fun _ _ => rfl) ?_
  refine y_st rfl rfl rfl rfl rfl (fun _ _ => rfl) ?_
  refine y_st rfl rfl rfl rfl rfl (fun _ _ => rfl) ?_
  show yP (xg xs) (d + 1) 346 61 [(7, .int s0), (3, .int l3), (4, .retAddr 32), (5, .int l5), (6, .int l6), (8, .int l8)] [.int l8, .retAddr 32] m Q
  refine y_call rfl rfl rfl rfl rfl (Nat.le_of_ble_eq_true rfl) (Nat.le_of_ble_eq_true rfl) rfl (by decide) H (fun v1 m1 H => ?_)
  obtain ⟨u1, rfl, H⟩ := H
  refine y_st rfl rfl rfl rfl rfl (fun _ _ => rfl) ?_
  show yP (xg xs) (d + 1) 346 66 [(7, .int s0), (3, .int l3), (4, .retAddr 32), (5, .int l5), (6, .int l6), (8, .int l8)] [.int (124 : Int32), .int u1] m1 Q
  refine y_ine (t := 74) rfl rfl rfl (fun h => ?_) (fun h => ?_)
  · replace H := H.1 h; clear h
    refine y_st rfl rfl rfl rfl rfl (fun _ _ => rfl) ?_
    show yP (xg xs) (d + 1) 346 76 [(7, .int s0), (3, .int l3), (4, .retAddr 32), (5, .int l5), (6, .int l6), (8, .int l8)] [.int l6] m1 Q
    refine y_headS (l2 := [(3, .int l3), (4, .retAddr 32), (5, .int l5), (7, .int s0), (8, .int l8)]) [1, 2, 3, 0, 5] [3, 4, 5, 7, 8] [7, 3, 4, 5, 6, 8] rfl rfl (by decide) rfl (by decide) ?_
    exact H
  · replace H := H.2 h; clear h
    refine y_st rfl rfl rfl rfl rfl (fun _ _ => rfl) ?_
    refine y_st rfl rfl rfl rfl rfl (fun _ _ => rfl) ?_
    show yP (xg xs) (d + 1) 346 76 [(7, .int s0), (3, .int l3), (4, .retAddr 32), (5, .int l5), (6, .int l6), (8, .int l8)] [.int s0] m1 Q
    refine y_headS (l2 := [(3, .int l3), (4, .retAddr 32), (5, .int l5), (7, .int s0), (8, .int l8)]) [1, 2, 3, 0, 5] [3, 4, 5, 7, 8] [7, 3, 4, 5, 6, 8] rfl rfl (by decide) rfl (by decide) ?_
    exact H
set_option maxRecDepth 20000 in
/-- CodeMakerModel.pinOf from 76 on -/
theorem w346s12_76 (xs : List Int32) (d : Nat) (l3 : Int32) (l5 : Int32) (l7 : Int32) (l8 : Int32) (s0 : Int32) (m : yM) (Q : Option Value → yM → Prop) (H : yP (xg xs) (d + 1) 346 24 [(3, .int l3), (4, .retAddr 32), (5, .int l5), (6, .int s0), (7, .int l7), (8, .int (l8 + (1 : Int32)))] [] m Q) : yP (xg xs) (d + 1) 346 76 [(3, .int l3), (4, .retAddr 32), (5, .int l5), (7, .int l7), (8, .int l8)] [.int s0] m Q := by
  refine y_st rfl rfl rfl rfl rfl (fun _ _ => rfl) ?_
  refine y_st rfl rfl rfl rfl rfl (fun _ _ => rfl) ?_
  refine y_st rfl rfl rfl rfl rfl (fun _ _ => rfl) ?_
  show yP (xg xs) (d + 1) 346 24 [(8, .int (l8 + (1 : Int32))), (6, .int s0), (3, .int l3), (4, .retAddr 32), (5, .int l5), (7, .int l7)] [] m Q
  refine y_headS (l2 := [(3, .int l3), (4, .retAddr 32), (5, .int l5), (6, .int s0), (7, .int l7), (8, .int (l8 + (1 : Int32)))]) [2, 3, 4, 1, 5, 0] [3, 4, 5, 6, 7, 8] [8, 6, 3, 4, 5, 7] rfl rfl (by decide) rfl (by decide) ?_
  exact H
set_option maxRecDepth 20000 in
/-- CodeMakerModel.pinOf from 103 on -/
theorem w346s12_103 (xs : List Int32) (d : Nat) (l5 : Int32) (s0 : Int32) (s1 : Int32) (m : yM) (Q : Option Value → yM → Prop) (H : ((s0 = s1 → yP (xg xs) (d + 1) 346 114 [(4, .retAddr 32), (5, .int l5), (8, .int (1 : Int32)), (9, .int (0 : Int32))] [] m Q) ∧ (¬ s0 = s1 → Q (some (.int ((-1) : Int32))) m))) : yP (xg xs) (d + 1) 346 103 [(4, .retAddr 32), (5, .int l5)] [.int s1, .int s0] m Q := by
  show yP (xg xs) (d + 1) 346 103 [(4, .retAddr 32), (5, .int l5)] [.int s1, .int s0] m Q
  refine y_ieq (t := 108) rfl rfl rfl (fun h => ?_) (fun h => ?_)
  · replace H := H.1 h; clear h
    refine y_st rfl rfl rfl rfl rfl (fun _ _ => rfl) ?_
    refine y_st rfl rfl rfl rfl rfl (fun _ _ => rfl) ?_
    refine y_st rfl rfl rfl rfl rfl (fun _ _ => rfl) ?_
    refine y_st rfl rfl rfl rfl rfl (fun _ _ => rfl) ?_
    show yP (xg xs) (d + 1) 346 114 [(9, .int (0 : Int32)), (8, .int (1 : Int32)), (4, .retAddr 32), (5, .int l5)] [] m Q
    refine y_headS (l2 := [(4, .retAddr 32), (5, .int l5), (8, .int (1 : Int32)), (9, .int (0 : Int32))]) [2, 3, 1, 0] [4, 5, 8, 9] [9, 8, 4, 5] rfl rfl (by decide) rfl (by decide) ?_
    exact H
  · replace H := H.2 h; clear h
    refine y_st rfl rfl rfl rfl rfl (fun _ _ => rfl) ?_
    show yP (xg xs) (d + 1) 346 107 [(4, .retAddr 32), (5, .int l5)] [.int ((-1) : Int32)] m Q
    exact y_iret rfl rfl rfl H
set_option maxRecDepth 20000 in
/-- CodeMakerModel.pinOf from 114 on -/
theorem w346s12_114 (xs : List Int32) (d : Nat) (l5 : Int32) (l8 : Int32) (l9 : Int32) (m : yM) (Q : Option Value → yM → Prop) (H : ((l5 < l9 → (yC (xg xs) d 24 [.retAddr 32, .int l8] m (fun v1 m1 => ∃ u1, v1 = some (Value.int u1) ∧ (yC (xg xs) d 24 [.retAddr 32, .int (l8 + (1 : Int32))] m1 (fun v2 m2 => ∃ u2, v2 = some (Value.int u2) ∧ Q (some (.int ((((10 : Int32) * (u1 - (48 : Int32))) + u2) - (48 : Int32)))) m2))))) ∧ (¬ l5 < l9 → (yC (xg xs) d 24 [.retAddr 32, .int l8] m (fun v3 m3 => ∃ u3, v3 = some (Value.int u3) ∧ ((¬ u3 = (32 : Int32) → yP (xg xs) (d + 1) 346 142 [(4, .retAddr 32), (5, .int l5), (8, .int l8)] [.int l9] m3 Q) ∧ (u3 = (32 : Int32) → yP (xg xs) (d + 1) 346 142 [(4, .retAddr 32), (5, .int l5), (8, .int l8)] [.int (l9 + (1 : Int32))] m3 Q))))))) : yP (xg xs) (d + 1) 346 114 [(4, .retAddr 32), (5, .int l5), (8, .int l8), (9, .int l9)] [] m Q := by
  refine y_st rfl rfl rfl rfl rfl (fun _ _ => rfl) ?_
  refine y_st rfl rfl rfl rfl rfl (fun _ _ => rfl) ?_
  show yP (xg xs) (d + 1) 346 118 [(4, .retAddr 32), (5, .int l5), (8, .int l8), (9, .int l9)] [.int l5, .int l9] m Q
  refine y_igt (t := 150) rfl rfl rfl (fun h => ?_) (fun h => ?_)
  · replace H := H.1 h; clear h
    refine y_st rfl rfl rfl rfl rfl (fun _ _ => rfl) ?_
    refine y_st rfl rfl rfl rfl rfl (fun _ _ => rfl) ?_
    refine y_st rfl rfl rfl rfl rfl (fun _ _ => rfl) ?_
    show yP (xg xs) (d + 1) 346 156 [(4, .retAddr 32), (5, .int l5), (8, .int l8), (9, .int l9)] [.int l8, .retAddr 32, .int (10 : Int32)] m Q
    refine y_call rfl rfl rfl rfl rfl (Nat.le_of_ble_eq_true rfl) (Nat.le_of_ble_eq_true rfl) rfl (by decide) H (fun v1 m1 H => ?_)
    obtain ⟨u1, rfl, H⟩ := H
    refine y_st rfl rfl rfl rfl rfl (fun _ _ => rfl) ?_
    refine y_st rfl rfl rfl rfl rfl (fun _ _ => rfl) ?_
    refine y_st rfl rfl rfl rfl rfl (fun _ _ => rfl) ?_
    refine y_st rfl rfl rfl rfl rfl (fun _ _ => rfl) ?_
    refine y_st rfl rfl rfl rfl rfl (fun _ _ => rfl) ?_
    refine y_st rfl rfl rfl rfl rfl (fun _ _ => rfl) ?_
    refine y_st rfl rfl rfl rfl rfl (fun _ _ => rfl) ?_
    show yP (xg xs) (d + 1) 346 169 [(4, .retAddr 32), (5, .int l5), (8, .int l8), (9, .int l9)] [.int (l8 + (1 : Int32)), .retAddr 32, .int ((10 : Int32) * (u1 - (48 : Int32)))] m1 Q
    refine y_call rfl rfl rfl rfl rfl (Nat.le_of_ble_eq_true rfl) (Nat.le_of_ble_eq_true rfl) rfl (by decide) H (fun v2 m2 H => ?_)
    obtain ⟨u2, rfl, H⟩ := H
    refine y_st rfl rfl rfl rfl rfl (fun _ _ => rfl) ?_
    refine y_st rfl rfl rfl rfl rfl (fun _ _ => rfl) ?_
    refine y_st rfl rfl rfl rfl rfl (fun _ _ => rfl) ?_
    show yP (xg xs) (d + 1) 346 176 [(4, .retAddr 32), (5, .int l5), (8, .int l8), (9, .int l9)] [.int ((((10 : Int32) * (u1 - (48 : Int32))) + u2) - (48 : Int32))] m2 Q
    exact y_iret rfl rfl rfl H
  · replace H := H.2 h; clear h
    refine y_st rfl rfl rfl rfl rfl (fun _ _ => rfl) ?_
    refine y_st rfl rfl rfl rfl rfl (fun _ _ => rfl) ?_
    show yP (xg xs) (d + 1) 346 125 [(4, .retAddr 32), (5, .int l5), (8, .int l8), (9, .int l9)] [.int l8, .retAddr 32] m Q
    refine y_call rfl rfl rfl rfl rfl (Nat.le_of_ble_eq_true rfl) (Nat.le_of_ble_eq_true rfl) rfl (by decide) H (fun v3 m3 H => ?_)
    obtain ⟨u3, rfl, H⟩ := H
    refine y_st rfl rfl rfl rfl rfl (fun _ _ => rfl) ?_
    show yP (xg xs) (d + 1) 346 130 [(4, .retAddr 32), (5, .int l5), (8, .int l8), (9, .int l9)] [.int (32 : Int32), .int u3] m3 Q
    refine y_ine (t := 140) rfl rfl rfl (fun h => ?_) (fun h => ?_)
    · replace H := H.1 h; clear h
      refine y_st rfl rfl rfl rfl rfl (fun _ _ => rfl) ?_
      show yP (xg xs) (d + 1) 346 142 [(4, .retAddr 32), (5, .int l5), (8, .int l8), (9, .int l9)] [.int l9] m3 Q
      refine y_headS (l2 := [(4, .retAddr 32), (5, .int l5), (8, .int l8)]) [0, 1, 2] [4, 5, 8] [4, 5, 8, 9] rfl rfl (by decide) rfl (by decide) ?_
      exact H
    · replace H := H.2 h; clear h
      refine y_st rfl rfl rfl rfl rfl (fun _ _ => rfl) ?_
      refine y_st rfl rfl rfl rfl rfl (fun _ _ => rfl) ?_
      refine y_st rfl rfl rfl rfl rfl (fun _ _ => rfl) ?_
      refine y_st rfl rfl rfl rfl rfl (fun _ _ => rfl) ?_
      show yP (xg xs) (d + 1) 346 142 [(4, .retAddr 32), (5, .int l5), (8, .int l8), (9, .int l9)] [.int (l9 + (1 : Int32))] m3 Q
      refine y_headS (l2 := [(4, .retAddr 32), (5, .int l5), (8, .int l8)]) [0, 1, 2] [4, 5, 8] [4, 5, 8, 9] rfl rfl (by decide) rfl (by decide) ?_
      exact H
set_option maxRecDepth 20000 in
/-- CodeMakerModel.pinOf from 142 on -/
theorem w346s12_142 (xs : List Int32) (d : Nat) (l5 : Int32) (l8 : Int32) (s0 : Int32) (m : yM) (Q : Option Value → yM → Prop) (H : yP (xg xs) (d + 1) 346 114 [(4, .retAddr 32), (5, .int l5), (8, .int (l8 + (1 : Int32))), (9, .int s0)] [] m Q) : yP (xg xs) (d + 1) 346 142 [(4, .retAddr 32), (5, .int l5), (8, .int l8)] [.int s0] m Q := by
  refine y_st rfl rfl rfl rfl rfl (fun _ _ => rfl) ?_
  refine y_st rfl rfl rfl rfl rfl (fun _ _ => rfl) ?_
  refine y_st rfl rfl rfl rfl rfl (fun _ _ => rfl) ?_
  show yP (xg xs) (d + 1) 346 114 [(8, .int (l8 + (1 : Int32))), (9, .int s0), (4, .retAddr 32), (5, .int l5)] [] m Q
  refine y_headS (l2 := [(4, .retAddr 32), (5, .int l5), (8, .int (l8 + (1 : Int32))), (9, .int s0)]) [2, 3, 0, 1] [4, 5, 8, 9] [8, 9, 4, 5] rfl rfl (by decide) rfl (by decide) ?_
  exact H
