/-! WHAT EACH METHOD COMES TO, run, group d: laid by wip/gen/wp82.py -/
set_option maxRecDepth 20000 in
/-- CodeMakerModel.runBlock from 0 on -/
theorem w399_0 (xs : List Int32) (d : Nat) (l1 : Int32) (l2 : Int32) (m : yM) (Q : Option Value → yM → Prop) (H : (x_in l2 8192 = true ∧ (((m.1 98 l2.toNatClampNeg) = 0 → yP (xg xs) (d + 1) 399 14 [(0, .ref 58), (1, .int l1), (2, .int l2)] [.int (0 : Int32)] m Q) ∧ (¬ (m.1 98 l2.toNatClampNeg) = 0 → yP (xg xs) (d + 1) 399 14 [(0, .ref 58), (1, .int l1), (2, .int l2)] [.int (1 : Int32)] m Q)))) : yP (xg xs) (d + 1) 399 0 [(0, .ref 58), (1, .int l1), (2, .int l2)] [] m Q := by
  refine y_st rfl rfl rfl rfl rfl (fun _ _ => rfl) ?_
  refine y_gf rfl rfl rfl rfl rfl ?_
  refine y_st rfl rfl rfl rfl rfl (fun _ _ => rfl) ?_
  show yP (xg xs) (d + 1) 399 5 [(0, .ref 58), (1, .int l1), (2, .int l2)] [.int l2, .ref 98] m Q
  refine y_iald rfl rfl rfl (H.1) ?_
  replace H := H.2
  show yP (xg xs) (d + 1) 399 6 [(0, .ref 58), (1, .int l1), (2, .int l2)] [.int (m.1 98 l2.toNatClampNeg)] m Q
  refine y_zeq (t := 13) rfl rfl rfl (fun h => ?_) (fun h => ?_)
  · replace H := H.1 h; clear h
    refine y_st rfl rfl rfl rfl rfl (fun _ _ => rfl) ?_
    show yP (xg xs) (d + 1) 399 14 [(0, .ref 58), (1, .int l1), (2, .int l2)] [.int (0 : Int32)] m Q
    exact H
  · replace H := H.2 h; clear h
    refine y_st rfl rfl rfl rfl rfl (fun _ _ => rfl) ?_
    refine y_st rfl rfl rfl rfl rfl (fun _ _ => rfl) ?_
    show yP (xg xs) (d + 1) 399 14 [(0, .ref 58), (1, .int l1), (2, .int l2)] [.int (1 : Int32)] m Q
    exact H
set_option maxRecDepth 20000 in
/-- CodeMakerModel.runBlock from 14 on -/
theorem w399_14 (xs : List Int32) (d : Nat) (l1 : Int32) (l2 : Int32) (s0 : Int32) (m : yM) (Q : Option Value → yM → Prop) (H : (((3 : Int32) ≤ l1 → (((5 : Int32) ≤ l1 → (((7 : Int32) ≤ l1 → (x_in (l2 + (1 : Int32)) 8192 = true ∧ (((m.1 98 ((l2 + (1 : Int32)).toNatClampNeg)) = 0 → yP (xg xs) (d + 1) 399 147 [(0, .ref 58), (1, .int l1), (2, .int l2), (3, .int s0)] [.int (0 : Int32)] m Q) ∧ (¬ (m.1 98 ((l2 + (1 : Int32)).toNatClampNeg)) = 0 → yP (xg xs) (d + 1) 399 147 [(0, .ref 58), (1, .int l1), (2, .int l2), (3, .int s0)] [.int (1 : Int32)] m Q)))) ∧ (¬ (7 : Int32) ≤ l1 → (x_in (l2 + (2 : Int32)) 8192 = true ∧ (((m.1 98 ((l2 + (2 : Int32)).toNatClampNeg)) = 0 → yP (xg xs) (d + 1) 399 67 [(0, .ref 58), (1, .int l1), (2, .int l2), (3, .int s0)] [.int (0 : Int32)] m Q) ∧ (¬ (m.1 98 ((l2 + (2 : Int32)).toNatClampNeg)) = 0 → yP (xg xs) (d + 1) 399 67 [(0, .ref 58), (1, .int l1), (2, .int l2), (3, .int s0)] [.int (1 : Int32)] m Q)))))) ∧ (¬ (5 : Int32) ≤ l1 → (yC (xg xs) d 402 [.ref 58, .int l1, .int l2, .int s0] m (fun v1 m1 => v1 = none ∧ Q none m1))))) ∧ (¬ (3 : Int32) ≤ l1 → (yC (xg xs) d 400 [.ref 58, .int l1, .int l2, .int s0] m (fun v2 m2 => v2 = none ∧ Q none m2))))) : yP (xg xs) (d + 1) 399 14 [(0, .ref 58), (1, .int l1), (2, .int l2)] [.int s0] m Q := by
  refine y_st rfl rfl rfl rfl rfl (fun _ _ => rfl) ?_
  refine y_st rfl rfl rfl rfl rfl (fun _ _ => rfl) ?_
  refine y_st rfl rfl rfl rfl rfl (fun _ _ => rfl) ?_
  show yP (xg xs) (d + 1) 399 17 [(3, .int s0), (0, .ref 58), (1, .int l1), (2, .int l2)] [.int (3 : Int32), .int l1] m Q
  refine y_ige (t := 30) rfl rfl rfl (fun h => ?_) (fun h => ?_)
  · replace H := H.1 h; clear h
    refine y_st rfl rfl rfl rfl rfl (fun _ _ => rfl) ?_
    refine y_st rfl rfl rfl rfl rfl (fun _ _ => rfl) ?_
    show yP (xg xs) (d + 1) 399 32 [(3, .int s0), (0, .ref 58), (1, .int l1), (2, .int l2)] [.int (5 : Int32), .int l1] m Q
    refine y_ige (t := 45) rfl rfl rfl (fun h => ?_) (fun h => ?_)
    · replace H := H.1 h; clear h
      refine y_st rfl rfl rfl rfl rfl (fun _ _ => rfl) ?_
      refine y_st rfl rfl rfl rfl rfl (fun _ _ => rfl) ?_
      show yP (xg xs) (d + 1) 399 48 [(3, .int s0), (0, .ref 58), (1, .int l1), (2, .int l2)] [.int (7 : Int32), .int l1] m Q
      refine y_ige (t := 131) rfl rfl rfl (fun h => ?_) (fun h => ?_)
      · replace H := H.1 h; clear h
        refine y_st rfl rfl rfl rfl rfl (fun _ _ => rfl) ?_
        refine y_gf rfl rfl rfl rfl rfl ?_
        refine y_st rfl rfl rfl rfl rfl (fun _ _ => rfl) ?_
        refine y_st rfl rfl rfl rfl rfl (fun _ _ => rfl) ?_
        refine y_st rfl rfl rfl rfl rfl (fun _ _ => rfl) ?_
        show yP (xg xs) (d + 1) 399 138 [(3, .int s0), (0, .ref 58), (1, .int l1), (2, .int l2)] [.int (l2 + (1 : Int32)), .ref 98] m Q
        refine y_iald rfl rfl rfl (H.1) ?_
        replace H := H.2
        show yP (xg xs) (d + 1) 399 139 [(3, .int s0), (0, .ref 58), (1, .int l1), (2, .int l2)] [.int (m.1 98 ((l2 + (1 : Int32)).toNatClampNeg))] m Q
        refine y_zeq (t := 146) rfl rfl rfl (fun h => ?_) (fun h => ?_)
        · replace H := H.1 h; clear h
          refine y_st rfl rfl rfl rfl rfl (fun _ _ => rfl) ?_
          show yP (xg xs) (d + 1) 399 147 [(3, .int s0), (0, .ref 58), (1, .int l1), (2, .int l2)] [.int (0 : Int32)] m Q
          refine y_headS (l2 := [(0, .ref 58), (1, .int l1), (2, .int l2), (3, .int s0)]) [1, 2, 3, 0] [0, 1, 2, 3] [3, 0, 1, 2] rfl rfl (by decide) rfl (by decide) ?_
          exact H
        · replace H := H.2 h; clear h
          refine y_st rfl rfl rfl rfl rfl (fun _ _ => rfl) ?_
          refine y_st rfl rfl rfl rfl rfl (fun _ _ => rfl) ?_
          show yP (xg xs) (d + 1) 399 147 [(3, .int s0), (0, .ref 58), (1, .int l1), (2, .int l2)] [.int (1 : Int32)] m Q
          refine y_headS (l2 := [(0, .ref 58), (1, .int l1), (2, .int l2), (3, .int s0)]) [1, 2, 3, 0] [0, 1, 2, 3] [3, 0, 1, 2] rfl rfl (by decide) rfl (by decide) ?_
          exact H
      · replace H := H.2 h; clear h
        refine y_st rfl rfl rfl rfl rfl (fun _ _ => rfl) ?_
        refine y_gf rfl rfl rfl rfl rfl ?_
        refine y_st rfl rfl rfl rfl rfl (fun _ _ => rfl) ?_
        refine y_st rfl rfl rfl rfl rfl (fun _ _ => rfl) ?_
        refine y_st rfl rfl rfl rfl rfl (fun _ _ => rfl) ?_
        show yP (xg xs) (d + 1) 399 58 [(3, .int s0), (0, .ref 58), (1, .int l1), (2, .int l2)] [.int (l2 + (2 : Int32)), .ref 98] m Q
        refine y_iald rfl rfl rfl (H.1) ?_
        replace H := H.2
        show yP (xg xs) (d + 1) 399 59 [(3, .int s0), (0, .ref 58), (1, .int l1), (2, .int l2)] [.int (m.1 98 ((l2 + (2 : Int32)).toNatClampNeg))] m Q
        refine y_zeq (t := 66) rfl rfl rfl (fun h => ?_) (fun h => ?_)
        · replace H := H.1 h; clear h
          refine y_st rfl rfl rfl rfl rfl (fun _ _ => rfl) ?_
          show yP (xg xs) (d + 1) 399 67 [(3, .int s0), (0, .ref 58), (1, .int l1), (2, .int l2)] [.int (0 : Int32)] m Q
          refine y_headS (l2 := [(0, .ref 58), (1, .int l1), (2, .int l2), (3, .int s0)]) [1, 2, 3, 0] [0, 1, 2, 3] [3, 0, 1, 2] rfl rfl (by decide) rfl (by decide) ?_
          exact H
        · replace H := H.2 h; clear h
          refine y_st rfl rfl rfl rfl rfl (fun _ _ => rfl) ?_
          refine y_st rfl rfl rfl rfl rfl (fun _ _ => rfl) ?_
          show yP (xg xs) (d + 1) 399 67 [(3, .int s0), (0, .ref 58), (1, .int l1), (2, .int l2)] [.int (1 : Int32)] m Q
          refine y_headS (l2 := [(0, .ref 58), (1, .int l1), (2, .int l2), (3, .int s0)]) [1, 2, 3, 0] [0, 1, 2, 3] [3, 0, 1, 2] rfl rfl (by decide) rfl (by decide) ?_
          exact H
    · replace H := H.2 h; clear h
      refine y_st rfl rfl rfl rfl rfl (fun _ _ => rfl) ?_
      refine y_st rfl rfl rfl rfl rfl (fun _ _ => rfl) ?_
      refine y_st rfl rfl rfl rfl rfl (fun _ _ => rfl) ?_
      refine y_st rfl rfl rfl rfl rfl (fun _ _ => rfl) ?_
      show yP (xg xs) (d + 1) 399 39 [(3, .int s0), (0, .ref 58), (1, .int l1), (2, .int l2)] [.int s0, .int l2, .int l1, .ref 58] m Q
      refine y_call rfl rfl rfl rfl rfl (Nat.le_of_ble_eq_true rfl) (Nat.le_of_ble_eq_true rfl) rfl (by decide) H (fun v1 m1 H => ?_)
      obtain ⟨rfl, H⟩ := H
      refine y_st rfl rfl rfl rfl rfl (fun _ _ => rfl) ?_
      show yP (xg xs) (d + 1) 399 225 [(3, .int s0), (0, .ref 58), (1, .int l1), (2, .int l2)] [] m1 Q
      exact y_ret rfl rfl rfl rfl H
  · replace H := H.2 h; clear h
    refine y_st rfl rfl rfl rfl rfl (fun _ _ => rfl) ?_
    refine y_st rfl rfl rfl rfl rfl (fun _ _ => rfl) ?_
    refine y_st rfl rfl rfl rfl rfl (fun _ _ => rfl) ?_
    refine y_st rfl rfl rfl rfl rfl (fun _ _ => rfl) ?_
    show yP (xg xs) (d + 1) 399 24 [(3, .int s0), (0, .ref 58), (1, .int l1), (2, .int l2)] [.int s0, .int l2, .int l1, .ref 58] m Q
    refine y_call rfl rfl rfl rfl rfl (Nat.le_of_ble_eq_true rfl) (Nat.le_of_ble_eq_true rfl) rfl (by decide) H (fun v2 m2 H => ?_)
    obtain ⟨rfl, H⟩ := H
    refine y_st rfl rfl rfl rfl rfl (fun _ _ => rfl) ?_
    show yP (xg xs) (d + 1) 399 225 [(3, .int s0), (0, .ref 58), (1, .int l1), (2, .int l2)] [] m2 Q
    exact y_ret rfl rfl rfl rfl H
set_option maxRecDepth 20000 in
/-- CodeMakerModel.runBlock from 67 on -/
theorem w399_67 (xs : List Int32) (d : Nat) (l1 : Int32) (l2 : Int32) (l3 : Int32) (s0 : Int32) (m : yM) (Q : Option Value → yM → Prop) (H : ((¬ l1 = (5 : Int32) → ((¬ l3 = 0 → yP (xg xs) (d + 1) 399 111 [(0, .ref 58), (2, .int l2), (3, .int l3)] [.int (l2 + (1 : Int32)), .ref 98] m Q) ∧ (l3 = 0 → ((s0 = 0 → yP (xg xs) (d + 1) 399 111 [(0, .ref 58), (2, .int l2), (3, .int l3)] [.int (l2 + (1 : Int32)), .ref 98] m Q) ∧ (¬ s0 = 0 → yP (xg xs) (d + 1) 399 112 [(0, .ref 58), (2, .int l2), (3, .int l3)] [.int (1 : Int32), .int (l2 + (1 : Int32)), .ref 98] m Q))))) ∧ (l1 = (5 : Int32) → ((l3 = 0 → yP (xg xs) (d + 1) 399 94 [(0, .ref 58), (2, .int l2), (3, .int l3)] [.int (l2 + (1 : Int32)), .ref 98] m Q) ∧ (¬ l3 = 0 → ((¬ s0 = 0 → yP (xg xs) (d + 1) 399 94 [(0, .ref 58), (2, .int l2), (3, .int l3)] [.int (l2 + (1 : Int32)), .ref 98] m Q) ∧ (s0 = 0 → yP (xg xs) (d + 1) 399 112 [(0, .ref 58), (2, .int l2), (3, .int l3)] [.int (1 : Int32), .int (l2 + (1 : Int32)), .ref 98] m Q))))))) : yP (xg xs) (d + 1) 399 67 [(0, .ref 58), (1, .int l1), (2, .int l2), (3, .int l3)] [.int s0] m Q := by
  refine y_st rfl rfl rfl rfl rfl (fun _ _ => rfl) ?_
  refine y_st rfl rfl rfl rfl rfl (fun _ _ => rfl) ?_
  refine y_gf rfl rfl rfl rfl rfl ?_
  refine y_st rfl rfl rfl rfl rfl (fun _ _ => rfl) ?_
  refine y_st rfl rfl rfl rfl rfl (fun _ _ => rfl) ?_
  refine y_st rfl rfl rfl rfl rfl (fun _ _ => rfl) ?_
  refine y_st rfl rfl rfl rfl rfl (fun _ _ => rfl) ?_
  refine y_st rfl rfl rfl rfl rfl (fun _ _ => rfl) ?_
  show yP (xg xs) (d + 1) 399 78 [(4, .int s0), (0, .ref 58), (1, .int l1), (2, .int l2), (3, .int l3)] [.int (5 : Int32), .int l1, .int (l2 + (1 : Int32)), .ref 98] m Q
  refine y_ine (t := 98) rfl rfl rfl (fun h => ?_) (fun h => ?_)
  · replace H := H.1 h; clear h
    refine y_st rfl rfl rfl rfl rfl (fun _ _ => rfl) ?_
    show yP (xg xs) (d + 1) 399 99 [(4, .int s0), (0, .ref 58), (1, .int l1), (2, .int l2), (3, .int l3)] [.int l3, .int (l2 + (1 : Int32)), .ref 98] m Q
    refine y_zne (t := 111) rfl rfl rfl (fun h => ?_) (fun h => ?_)
    · replace H := H.1 h; clear h
      show yP (xg xs) (d + 1) 399 111 [(4, .int s0), (0, .ref 58), (1, .int l1), (2, .int l2), (3, .int l3)] [.int (l2 + (1 : Int32)), .ref 98] m Q
      refine y_headS (l2 := [(0, .ref 58), (2, .int l2), (3, .int l3)]) [1, 3, 4] [0, 2, 3] [4, 0, 1, 2, 3] rfl rfl (by decide) rfl (by decide) ?_
      exact H
    · replace H := H.2 h; clear h
      refine y_st rfl rfl rfl rfl rfl (fun _ _ => rfl) ?_
      show yP (xg xs) (d + 1) 399 104 [(4, .int s0), (0, .ref 58), (1, .int l1), (2, .int l2), (3, .int l3)] [.int s0, .int (l2 + (1 : Int32)), .ref 98] m Q
      refine y_zeq (t := 111) rfl rfl rfl (fun h => ?_) (fun h => ?_)
      · replace H := H.1 h; clear h
        show yP (xg xs) (d + 1) 399 111 [(4, .int s0), (0, .ref 58), (1, .int l1), (2, .int l2), (3, .int l3)] [.int (l2 + (1 : Int32)), .ref 98] m Q
        refine y_headS (l2 := [(0, .ref 58), (2, .int l2), (3, .int l3)]) [1, 3, 4] [0, 2, 3] [4, 0, 1, 2, 3] rfl rfl (by decide) rfl (by decide) ?_
        exact H
      · replace H := H.2 h; clear h
        refine y_st rfl rfl rfl rfl rfl (fun _ _ => rfl) ?_
        refine y_st rfl rfl rfl rfl rfl (fun _ _ => rfl) ?_
        show yP (xg xs) (d + 1) 399 112 [(4, .int s0), (0, .ref 58), (1, .int l1), (2, .int l2), (3, .int l3)] [.int (1 : Int32), .int (l2 + (1 : Int32)), .ref 98] m Q
        refine y_headS (l2 := [(0, .ref 58), (2, .int l2), (3, .int l3)]) [1, 3, 4] [0, 2, 3] [4, 0, 1, 2, 3] rfl rfl (by decide) rfl (by decide) ?_
        exact H
  · replace H := H.2 h; clear h
    refine y_st rfl rfl rfl rfl rfl (fun _ _ => rfl) ?_
    show yP (xg xs) (d + 1) 399 82 [(4, .int s0), (0, .ref 58), (1, .int l1), (2, .int l2), (3, .int l3)] [.int l3, .int (l2 + (1 : Int32)), .ref 98] m Q
    refine y_zeq (t := 94) rfl rfl rfl (fun h => ?_) (fun h => ?_)
    · replace H := H.1 h; clear h
      show yP (xg xs) (d + 1) 399 94 [(4, .int s0), (0, .ref 58), (1, .int l1), (2, .int l2), (3, .int l3)] [.int (l2 + (1 : Int32)), .ref 98] m Q
      refine y_headS (l2 := [(0, .ref 58), (2, .int l2), (3, .int l3)]) [1, 3, 4] [0, 2, 3] [4, 0, 1, 2, 3] rfl rfl (by decide) rfl (by decide) ?_
      exact H
    · replace H := H.2 h; clear h
      refine y_st rfl rfl rfl rfl rfl (fun _ _ => rfl) ?_
      show yP (xg xs) (d + 1) 399 87 [(4, .int s0), (0, .ref 58), (1, .int l1), (2, .int l2), (3, .int l3)] [.int s0, .int (l2 + (1 : Int32)), .ref 98] m Q
      refine y_zne (t := 94) rfl rfl rfl (fun h => ?_) (fun h => ?_)
      · replace H := H.1 h; clear h
        show yP (xg xs) (d + 1) 399 94 [(4, .int s0), (0, .ref 58), (1, .int l1), (2, .int l2), (3, .int l3)] [.int (l2 + (1 : Int32)), .ref 98] m Q
        refine y_headS (l2 := [(0, .ref 58), (2, .int l2), (3, .int l3)]) [1, 3, 4] [0, 2, 3] [4, 0, 1, 2, 3] rfl rfl (by decide) rfl (by decide) ?_
        exact H
      · replace H := H.2 h; clear h
        refine y_st rfl rfl rfl rfl rfl (fun _ _ => rfl) ?_
        refine y_st rfl rfl rfl rfl rfl (fun _ _ => rfl) ?_
        show yP (xg xs) (d + 1) 399 112 [(4, .int s0), (0, .ref 58), (1, .int l1), (2, .int l2), (3, .int l3)] [.int (1 : Int32), .int (l2 + (1 : Int32)), .ref 98] m Q
        refine y_headS (l2 := [(0, .ref 58), (2, .int l2), (3, .int l3)]) [1, 3, 4] [0, 2, 3] [4, 0, 1, 2, 3] rfl rfl (by decide) rfl (by decide) ?_
        exact H
set_option maxRecDepth 20000 in
/-- CodeMakerModel.runBlock from 94 on -/
theorem w399_94 (xs : List Int32) (d : Nat) (l2 : Int32) (l3 : Int32) (s1 : Int32) (m : yM) (Q : Option Value → yM → Prop) (H : yP (xg xs) (d + 1) 399 112 [(0, .ref 58), (2, .int l2), (3, .int l3)] [.int (0 : Int32), .int s1, .ref 98] m Q) : yP (xg xs) (d + 1) 399 94 [(0, .ref 58), (2, .int l2), (3, .int l3)] [.int s1, .ref 98] m Q := by
  refine y_st rfl rfl rfl rfl rfl (fun _ _ => rfl) ?_
  refine y_st rfl rfl rfl rfl rfl (fun _ _ => rfl) ?_
  show yP (xg xs) (d + 1) 399 112 [(0, .ref 58), (2, .int l2), (3, .int l3)] [.int (0 : Int32), .int s1, .ref 98] m Q
  exact H
set_option maxRecDepth 20000 in
/-- CodeMakerModel.runBlock from 111 on -/
theorem w399_111 (xs : List Int32) (d : Nat) (l2 : Int32) (l3 : Int32) (s1 : Int32) (m : yM) (Q : Option Value → yM → Prop) (H : yP (xg xs) (d + 1) 399 112 [(0, .ref 58), (2, .int l2), (3, .int l3)] [.int (0 : Int32), .int s1, .ref 98] m Q) : yP (xg xs) (d + 1) 399 111 [(0, .ref 58), (2, .int l2), (3, .int l3)] [.int s1, .ref 98] m Q := by
  refine y_st rfl rfl rfl rfl rfl (fun _ _ => rfl) ?_
  show yP (xg xs) (d + 1) 399 112 [(0, .ref 58), (2, .int l2), (3, .int l3)] [.int (0 : Int32), .int s1, .ref 98] m Q
  exact H
set_option maxRecDepth 20000 in
/-- CodeMakerModel.runBlock from 112 on -/
theorem w399_112 (xs : List Int32) (d : Nat) (l2 : Int32) (l3 : Int32) (s1 : Int32) (s2 : Int32) (m : yM) (Q : Option Value → yM → Prop) (H : (yC (xg xs) d 401 [.int s2] m (fun v1 m1 => ∃ u1, v1 = some (Value.int u1) ∧ (x_in s1 8192 = true ∧ (yC (xg xs) d 401 [.int l3] (y_si m1 98 s1.toNatClampNeg u1) (fun v2 m2 => ∃ u2, v2 = some (Value.int u2) ∧ (x_in (l2 + (2 : Int32)) 8192 = true ∧ Q none (y_si m2 98 ((l2 + (2 : Int32)).toNatClampNeg) u2)))))))) : yP (xg xs) (d + 1) 399 112 [(0, .ref 58), (2, .int l2), (3, .int l3)] [.int s2, .int s1, .ref 98] m Q := by
  show yP (xg xs) (d + 1) 399 112 [(0, .ref 58), (2, .int l2), (3, .int l3)] [.int s2, .int s1, .ref 98] m Q
  refine y_call rfl rfl rfl rfl rfl (Nat.le_of_ble_eq_true rfl) (Nat.le_of_ble_eq_true rfl) rfl (by decide) H (fun v1 m1 H => ?_)
  obtain ⟨u1, rfl, H⟩ := H
  show yP (xg xs) (d + 1) 399 115 [(0, .ref 58), (2, .int l2), (3, .int l3)] [.int u1, .int s1, .ref 98] m1 Q
  refine y_iast rfl rfl rfl (H.1) ?_
  replace H := H.2
  refine y_st rfl rfl rfl rfl rfl (fun _ _ => rfl) ?_
  refine y_gf rfl rfl rfl rfl rfl ?_
  refine y_st rfl rfl rfl rfl rfl (fun _ _ => rfl) ?_
  refine y_st rfl rfl rfl rfl rfl (fun _ _ => rfl) ?_
  refine y_st rfl rfl rfl rfl rfl (fun _ _ => rfl) ?_
  refine y_st rfl rfl rfl rfl rfl (fun _ _ => rfl) ?_
  show yP (xg xs) (d + 1) 399 124 [(0, .ref 58), (2, .int l2), (3, .int l3)] [.int l3, .int (l2 + (2 : Int32)), .ref 98] (y_si m1 98 s1.toNatClampNeg u1) Q
  refine y_call rfl rfl rfl rfl rfl (Nat.le_of_ble_eq_true rfl) (Nat.le_of_ble_eq_true rfl) rfl (by decide) H (fun v2 m2 H => ?_)
  obtain ⟨u2, rfl, H⟩ := H
  show yP (xg xs) (d + 1) 399 127 [(0, .ref 58), (2, .int l2), (3, .int l3)] [.int u2, .int (l2 + (2 : Int32)), .ref 98] m2 Q
  refine y_iast rfl rfl rfl (H.1) ?_
  replace H := H.2
  refine y_st rfl rfl rfl rfl rfl (fun _ _ => rfl) ?_
  show yP (xg xs) (d + 1) 399 225 [(0, .ref 58), (2, .int l2), (3, .int l3)] [] (y_si m2 98 ((l2 + (2 : Int32)).toNatClampNeg) u2) Q
  exact y_ret rfl rfl rfl rfl H
set_option maxRecDepth 20000 in
/-- CodeMakerModel.runBlock from 147 on -/
theorem w399_147 (xs : List Int32) (d : Nat) (l1 : Int32) (l2 : Int32) (l3 : Int32) (s0 : Int32) (m : yM) (Q : Option Value → yM → Prop) (H : (x_in (l2 + (2 : Int32)) 8192 = true ∧ (((m.1 98 ((l2 + (2 : Int32)).toNatClampNeg)) = 0 → yP (xg xs) (d + 1) 399 165 [(0, .ref 58), (1, .int l1), (2, .int l2), (3, .int l3), (4, .int s0)] [.int (0 : Int32)] m Q) ∧ (¬ (m.1 98 ((l2 + (2 : Int32)).toNatClampNeg)) = 0 → yP (xg xs) (d + 1) 399 165 [(0, .ref 58), (1, .int l1), (2, .int l2), (3, .int l3), (4, .int s0)] [.int (1 : Int32)] m Q)))) : yP (xg xs) (d + 1) 399 147 [(0, .ref 58), (1, .int l1), (2, .int l2), (3, .int l3)] [.int s0] m Q := by
  refine y_st rfl rfl rfl rfl rfl (fun _ _ => rfl) ?_
  refine y_st rfl rfl rfl rfl rfl (fun _ _ => rfl) ?_
  refine y_gf rfl rfl rfl rfl rfl ?_
  refine y_st rfl rfl rfl rfl rfl (fun _ _ => rfl) ?_
  refine y_st rfl rfl rfl rfl rfl (fun _ _ => rfl) ?_
  refine y_st rfl rfl rfl rfl rfl (fun _ _ => rfl) ?_
  show yP (xg xs) (d + 1) 399 156 [(4, .int s0), (0, .ref 58), (1, .int l1), (2, .int l2), (3, .int l3)] [.int (l2 + (2 : Int32)), .ref 98] m Q
  refine y_iald rfl rfl rfl (H.1) ?_
  replace H := H.2
  show yP (xg xs) (d + 1) 399 157 [(4, .int s0), (0, .ref 58), (1, .int l1), (2, .int l2), (3, .int l3)] [.int (m.1 98 ((l2 + (2 : Int32)).toNatClampNeg))] m Q
  refine y_zeq (t := 164) rfl rfl rfl (fun h => ?_) (fun h => ?_)
  · replace H := H.1 h; clear h
    refine y_st rfl rfl rfl rfl rfl (fun _ _ => rfl) ?_
    show yP (xg xs) (d + 1) 399 165 [(4, .int s0), (0, .ref 58), (1, .int l1), (2, .int l2), (3, .int l3)] [.int (0 : Int32)] m Q
    refine y_headS (l2 := [(0, .ref 58), (1, .int l1), (2, .int l2), (3, .int l3), (4, .int s0)]) [1, 2, 3, 4, 0] [0, 1, 2, 3, 4] [4, 0, 1, 2, 3] rfl rfl (by decide) rfl (by decide) ?_
    exact H
  · replace H := H.2 h; clear h
    refine y_st rfl rfl rfl rfl rfl (fun _ _ => rfl) ?_
    refine y_st rfl rfl rfl rfl rfl (fun _ _ => rfl) ?_
    show yP (xg xs) (d + 1) 399 165 [(4, .int s0), (0, .ref 58), (1, .int l1), (2, .int l2), (3, .int l3)] [.int (1 : Int32)] m Q
    refine y_headS (l2 := [(0, .ref 58), (1, .int l1), (2, .int l2), (3, .int l3), (4, .int s0)]) [1, 2, 3, 4, 0] [0, 1, 2, 3, 4] [4, 0, 1, 2, 3] rfl rfl (by decide) rfl (by decide) ?_
    exact H
set_option maxRecDepth 20000 in
/-- CodeMakerModel.runBlock from 165 on -/
theorem w399_165 (xs : List Int32) (d : Nat) (l1 : Int32) (l2 : Int32) (l3 : Int32) (l4 : Int32) (s0 : Int32) (m : yM) (Q : Option Value → yM → Prop) (H : ((¬ l1 = (7 : Int32) → ((¬ l4 = 0 → yP (xg xs) (d + 1) 399 220 [] [.int (l2 + (2 : Int32)), .ref 98] m Q) ∧ (l4 = 0 → ((¬ l3 = 0 → yP (xg xs) (d + 1) 399 216 [] [.int (l2 + (2 : Int32)), .ref 98] m Q) ∧ (l3 = 0 → ((s0 = 0 → yP (xg xs) (d + 1) 399 220 [] [.int (l2 + (2 : Int32)), .ref 98] m Q) ∧ (¬ s0 = 0 → yP (xg xs) (d + 1) 399 216 [] [.int (l2 + (2 : Int32)), .ref 98] m Q))))))) ∧ (l1 = (7 : Int32) → ((¬ l3 = 0 → yP (xg xs) (d + 1) 399 194 [] [.int (l2 + (2 : Int32)), .ref 98] m Q) ∧ (l3 = 0 → ((¬ l4 = 0 → yP (xg xs) (d + 1) 399 198 [] [.int (l2 + (2 : Int32)), .ref 98] m Q) ∧ (l4 = 0 → ((s0 = 0 → yP (xg xs) (d + 1) 399 198 [] [.int (l2 + (2 : Int32)), .ref 98] m Q) ∧ (¬ s0 = 0 → yP (xg xs) (d + 1) 399 194 [] [.int (l2 + (2 : Int32)), .ref 98] m Q))))))))) : yP (xg xs) (d + 1) 399 165 [(0, .ref 58), (1, .int l1), (2, .int l2), (3, .int l3), (4, .int l4)] [.int s0] m Q := by
  refine y_st rfl rfl rfl rfl rfl (fun _ _ => rfl) ?_
  refine y_st rfl rfl rfl rfl rfl (fun _ _ => rfl) ?_
  refine y_gf rfl rfl rfl rfl rfl ?_
  refine y_st rfl rfl rfl rfl rfl (fun _ _ => rfl) ?_
  refine y_st rfl rfl rfl rfl rfl (fun _ _ => rfl) ?_
  refine y_st rfl rfl rfl rfl rfl (fun _ _ => rfl) ?_
  refine y_st rfl rfl rfl rfl rfl (fun _ _ => rfl) ?_
  refine y_st rfl rfl rfl rfl rfl (fun _ _ => rfl) ?_
  show yP (xg xs) (d + 1) 399 177 [(5, .int s0), (0, .ref 58), (1, .int l1), (2, .int l2), (3, .int l3), (4, .int l4)] [.int (7 : Int32), .int l1, .int (l2 + (2 : Int32)), .ref 98] m Q
  refine y_ine (t := 202) rfl rfl rfl (fun h => ?_) (fun h => ?_)
  · replace H := H.1 h; clear h
    refine y_st rfl rfl rfl rfl rfl (fun _ _ => rfl) ?_
    show yP (xg xs) (d + 1) 399 204 [(5, .int s0), (0, .ref 58), (1, .int l1), (2, .int l2), (3, .int l3), (4, .int l4)] [.int l4, .int (l2 + (2 : Int32)), .ref 98] m Q
    refine y_zne (t := 220) rfl rfl rfl (fun h => ?_) (fun h => ?_)
    · replace H := H.1 h; clear h
      show yP (xg xs) (d + 1) 399 220 [(5, .int s0), (0, .ref 58), (1, .int l1), (2, .int l2), (3, .int l3), (4, .int l4)] [.int (l2 + (2 : Int32)), .ref 98] m Q
      refine y_headS (l2 := []) [] [] [5, 0, 1, 2, 3, 4] rfl rfl (by decide) rfl (by decide) ?_
      exact H
    · replace H := H.2 h; clear h
      refine y_st rfl rfl rfl rfl rfl (fun _ _ => rfl) ?_
      show yP (xg xs) (d + 1) 399 208 [(5, .int s0), (0, .ref 58), (1, .int l1), (2, .int l2), (3, .int l3), (4, .int l4)] [.int l3, .int (l2 + (2 : Int32)), .ref 98] m Q
      refine y_zne (t := 216) rfl rfl rfl (fun h => ?_) (fun h => ?_)
      · replace H := H.1 h; clear h
        show yP (xg xs) (d + 1) 399 216 [(5, .int s0), (0, .ref 58), (1, .int l1), (2, .int l2), (3, .int l3), (4, .int l4)] [.int (l2 + (2 : Int32)), .ref 98] m Q
        refine y_headS (l2 := []) [] [] [5, 0, 1, 2, 3, 4] rfl rfl (by decide) rfl (by decide) ?_
        exact H
      · replace H := H.2 h; clear h
        refine y_st rfl rfl rfl rfl rfl (fun _ _ => rfl) ?_
        show yP (xg xs) (d + 1) 399 213 [(5, .int s0), (0, .ref 58), (1, .int l1), (2, .int l2), (3, .int l3), (4, .int l4)] [.int s0, .int (l2 + (2 : Int32)), .ref 98] m Q
        refine y_zeq (t := 220) rfl rfl rfl (fun h => ?_) (fun h => ?_)
        · replace H := H.1 h; clear h
          show yP (xg xs) (d + 1) 399 220 [(5, .int s0), (0, .ref 58), (1, .int l1), (2, .int l2), (3, .int l3), (4, .int l4)] [.int (l2 + (2 : Int32)), .ref 98] m Q
          refine y_headS (l2 := []) [] [] [5, 0, 1, 2, 3, 4] rfl rfl (by decide) rfl (by decide) ?_
          exact H
        · replace H := H.2 h; clear h
          show yP (xg xs) (d + 1) 399 216 [(5, .int s0), (0, .ref 58), (1, .int l1), (2, .int l2), (3, .int l3), (4, .int l4)] [.int (l2 + (2 : Int32)), .ref 98] m Q
          refine y_headS (l2 := []) [] [] [5, 0, 1, 2, 3, 4] rfl rfl (by decide) rfl (by decide) ?_
          exact H
  · replace H := H.2 h; clear h
    refine y_st rfl rfl rfl rfl rfl (fun _ _ => rfl) ?_
    show yP (xg xs) (d + 1) 399 181 [(5, .int s0), (0, .ref 58), (1, .int l1), (2, .int l2), (3, .int l3), (4, .int l4)] [.int l3, .int (l2 + (2 : Int32)), .ref 98] m Q
    refine y_zne (t := 194) rfl rfl rfl (fun h => ?_) (fun h => ?_)
    · replace H := H.1 h; clear h
      show yP (xg xs) (d + 1) 399 194 [(5, .int s0), (0, .ref 58), (1, .int l1), (2, .int l2), (3, .int l3), (4, .int l4)] [.int (l2 + (2 : Int32)), .ref 98] m Q
      refine y_headS (l2 := []) [] [] [5, 0, 1, 2, 3, 4] rfl rfl (by decide) rfl (by decide) ?_
      exact H
    · replace H := H.2 h; clear h
      refine y_st rfl rfl rfl rfl rfl (fun _ _ => rfl) ?_
      show yP (xg xs) (d + 1) 399 186 [(5, .int s0), (0, .ref 58), (1, .int l1), (2, .int l2), (3, .int l3), (4, .int l4)] [.int l4, .int (l2 + (2 : Int32)), .ref 98] m Q
      refine y_zne (t := 198) rfl rfl rfl (fun h => ?_) (fun h => ?_)
      · replace H := H.1 h; clear h
        show yP (xg xs) (d + 1) 399 198 [(5, .int s0), (0, .ref 58), (1, .int l1), (2, .int l2), (3, .int l3), (4, .int l4)] [.int (l2 + (2 : Int32)), .ref 98] m Q
        refine y_headS (l2 := []) [] [] [5, 0, 1, 2, 3, 4] rfl rfl (by decide) rfl (by decide) ?_
        exact H
      · replace H := H.2 h; clear h
        refine y_st rfl rfl rfl rfl rfl (fun _ _ => rfl) ?_
        show yP (xg xs) (d + 1) 399 191 [(5, .int s0), (0, .ref 58), (1, .int l1), (2, .int l2), (3, .int l3), (4, .int l4)] [.int s0, .int (l2 + (2 : Int32)), .ref 98] m Q
        refine y_zeq (t := 198) rfl rfl rfl (fun h => ?_) (fun h => ?_)
        · replace H := H.1 h; clear h
          show yP (xg xs) (d + 1) 399 198 [(5, .int s0), (0, .ref 58), (1, .int l1), (2, .int l2), (3, .int l3), (4, .int l4)] [.int (l2 + (2 : Int32)), .ref 98] m Q
          refine y_headS (l2 := []) [] [] [5, 0, 1, 2, 3, 4] rfl rfl (by decide) rfl (by decide) ?_
          exact H
        · replace H := H.2 h; clear h
          show yP (xg xs) (d + 1) 399 194 [(5, .int s0), (0, .ref 58), (1, .int l1), (2, .int l2), (3, .int l3), (4, .int l4)] [.int (l2 + (2 : Int32)), .ref 98] m Q
          refine y_headS (l2 := []) [] [] [5, 0, 1, 2, 3, 4] rfl rfl (by decide) rfl (by decide) ?_
          exact H
set_option maxRecDepth 20000 in
/-- CodeMakerModel.runBlock from 194 on -/
theorem w399_194 (xs : List Int32) (d : Nat) (s1 : Int32) (m : yM) (Q : Option Value → yM → Prop) (H : yP (xg xs) (d + 1) 399 221 [] [.int (1 : Int32), .int s1, .ref 98] m Q) : yP (xg xs) (d + 1) 399 194 [] [.int s1, .ref 98] m Q := by
  refine y_st rfl rfl rfl rfl rfl (fun _ _ => rfl) ?_
  refine y_st rfl rfl rfl rfl rfl (fun _ _ => rfl) ?_
  show yP (xg xs) (d + 1) 399 221 [] [.int (1 : Int32), .int s1, .ref 98] m Q
  exact H
set_option maxRecDepth 20000 in
/-- CodeMakerModel.runBlock from 198 on -/
theorem w399_198 (xs : List Int32) (d : Nat) (s1 : Int32) (m : yM) (Q : Option Value → yM → Prop) (H : yP (xg xs) (d + 1) 399 221 [] [.int (0 : Int32), .int s1, .ref 98] m Q) : yP (xg xs) (d + 1) 399 198 [] [.int s1, .ref 98] m Q := by
  refine y_st rfl rfl rfl rfl rfl (fun _ _ => rfl) ?_
  refine y_st rfl rfl rfl rfl rfl (fun _ _ => rfl) ?_
  show yP (xg xs) (d + 1) 399 221 [] [.int (0 : Int32), .int s1, .ref 98] m Q
  exact H
set_option maxRecDepth 20000 in
/-- CodeMakerModel.runBlock from 216 on -/
theorem w399_216 (xs : List Int32) (d : Nat) (s1 : Int32) (m : yM) (Q : Option Value → yM → Prop) (H : yP (xg xs) (d + 1) 399 221 [] [.int (1 : Int32), .int s1, .ref 98] m Q) : yP (xg xs) (d + 1) 399 216 [] [.int s1, .ref 98] m Q := by
  refine y_st rfl rfl rfl rfl rfl (fun _ _ => rfl) ?_
  refine y_st rfl rfl rfl rfl rfl (fun _ _ => rfl) ?_
  show yP (xg xs) (d + 1) 399 221 [] [.int (1 : Int32), .int s1, .ref 98] m Q
  exact H
set_option maxRecDepth 20000 in
/-- CodeMakerModel.runBlock from 220 on -/
theorem w399_220 (xs : List Int32) (d : Nat) (s1 : Int32) (m : yM) (Q : Option Value → yM → Prop) (H : yP (xg xs) (d + 1) 399 221 [] [.int (0 : Int32), .int s1, .ref 98] m Q) : yP (xg xs) (d + 1) 399 220 [] [.int s1, .ref 98] m Q := by
  refine y_st rfl rfl rfl rfl rfl (fun _ _ => rfl) ?_
  show yP (xg xs) (d + 1) 399 221 [] [.int (0 : Int32), .int s1, .ref 98] m Q
  exact H
set_option maxRecDepth 20000 in
/-- CodeMakerModel.runBlock from 221 on -/
theorem w399_221 (xs : List Int32) (d : Nat) (s1 : Int32) (s2 : Int32) (m : yM) (Q : Option Value → yM → Prop) (H : (yC (xg xs) d 401 [.int s2] m (fun v1 m1 => ∃ u1, v1 = some (Value.int u1) ∧ (x_in s1 8192 = true ∧ Q none (y_si m1 98 s1.toNatClampNeg u1))))) : yP (xg xs) (d + 1) 399 221 [] [.int s2, .int s1, .ref 98] m Q := by
  show yP (xg xs) (d + 1) 399 221 [] [.int s2, .int s1, .ref 98] m Q
  refine y_call rfl rfl rfl rfl rfl (Nat.le_of_ble_eq_true rfl) (Nat.le_of_ble_eq_true rfl) rfl (by decide) H (fun v1 m1 H => ?_)
  obtain ⟨u1, rfl, H⟩ := H
  show yP (xg xs) (d + 1) 399 224 [] [.int u1, .int s1, .ref 98] m1 Q
  refine y_iast rfl rfl rfl (H.1) ?_
  replace H := H.2
  show yP (xg xs) (d + 1) 399 225 [] [] (y_si m1 98 s1.toNatClampNeg u1) Q
  exact y_ret rfl rfl rfl rfl H
set_option maxRecDepth 20000 in
/-- CodeMakerModel.runTimer from 0 on -/
theorem w400_0 (xs : List Int32) (d : Nat) (l1 : Int32) (l2 : Int32) (l3 : Int32) (m : yM) (Q : Option Value → yM → Prop) (H : (x_in (l2 + (4 : Int32)) 8192 = true ∧ (((m.1 98 ((l2 + (4 : Int32)).toNatClampNeg)) = 0 → yP (xg xs) (d + 1) 400 16 [(0, .ref 58), (1, .int l1), (2, .int l2), (3, .int l3)] [.int (0 : Int32)] m Q) ∧ (¬ (m.1 98 ((l2 + (4 : Int32)).toNatClampNeg)) = 0 → yP (xg xs) (d + 1) 400 16 [(0, .ref 58), (1, .int l1), (2, .int l2), (3, .int l3)] [.int (1 : Int32)] m Q)))) : yP (xg xs) (d + 1) 400 0 [(0, .ref 58), (1, .int l1), (2, .int l2), (3, .int l3)] [] m Q := by
  refine y_st rfl rfl rfl rfl rfl (fun _ _ => rfl) ?_
  refine y_gf rfl rfl rfl rfl rfl ?_
  refine y_st rfl rfl rfl rfl rfl (fun _ _ => rfl) ?_
  refine y_st rfl rfl rfl rfl rfl (fun _ _ => rfl) ?_
  refine y_st rfl rfl rfl rfl rfl (fun _ _ => rfl) ?_
  show yP (xg xs) (d + 1) 400 7 [(0, .ref 58), (1, .int l1), (2, .int l2), (3, .int l3)] [.int (l2 + (4 : Int32)), .ref 98] m Q
  refine y_iald rfl rfl rfl (H.1) ?_
  replace H := H.2
  show yP (xg xs) (d + 1) 400 8 [(0, .ref 58), (1, .int l1), (2, .int l2), (3, .int l3)] [.int (m.1 98 ((l2 + (4 : Int32)).toNatClampNeg))] m Q
  refine y_zeq (t := 15) rfl rfl rfl (fun h => ?_) (fun h => ?_)
  · replace H := H.1 h; clear h
    refine y_st rfl rfl rfl rfl rfl (fun _ _ => rfl) ?_
    show yP (xg xs) (d + 1) 400 16 [(0, .ref 58), (1, .int l1), (2, .int l2), (3, .int l3)] [.int (0 : Int32)] m Q
    exact H
  · replace H := H.2 h; clear h
    refine y_st rfl rfl rfl rfl rfl (fun _ _ => rfl) ?_
    refine y_st rfl rfl rfl rfl rfl (fun _ _ => rfl) ?_
    show yP (xg xs) (d + 1) 400 16 [(0, .ref 58), (1, .int l1), (2, .int l2), (3, .int l3)] [.int (1 : Int32)] m Q
    exact H
set_option maxRecDepth 20000 in
/-- CodeMakerModel.runTimer from 16 on -/
theorem w400_16 (xs : List Int32) (d : Nat) (l1 : Int32) (l2 : Int32) (l3 : Int32) (s0 : Int32) (m : yM) (Q : Option Value → yM → Prop) (H : (x_in (l2 + (5 : Int32)) 8192 = true ∧ (x_in (l2 + (1 : Int32)) 8192 = true ∧ ((0 ≤ (m.1 98 ((l2 + (1 : Int32)).toNatClampNeg)) → (x_in (l2 + (1 : Int32)) 8192 = true ∧ yP (xg xs) (d + 1) 400 59 [(0, .ref 58), (1, .int l1), (2, .int l2), (3, .int l3), (4, .int s0), (5, .long (((m.1 58 64).toInt64) - ((m.1 98 ((l2 + (5 : Int32)).toNatClampNeg)).toInt64)))] [.long ((m.1 98 ((l2 + (1 : Int32)).toNatClampNeg)).toInt64)] m Q)) ∧ (¬ 0 ≤ (m.1 98 ((l2 + (1 : Int32)).toNatClampNeg)) → yP (xg xs) (d + 1) 400 59 [(0, .ref 58), (1, .int l1), (2, .int l2), (3, .int l3), (4, .int s0), (5, .long (((m.1 58 64).toInt64) - ((m.1 98 ((l2 + (5 : Int32)).toNatClampNeg)).toInt64)))] [.long (0 : Int64)] m Q))))) : yP (xg xs) (d + 1) 400 16 [(0, .ref 58), (1, .int l1), (2, .int l2), (3, .int l3)] [.int s0] m Q := by
  refine y_st rfl rfl rfl rfl rfl (fun _ _ => rfl) ?_
  refine y_st rfl rfl rfl rfl rfl (fun _ _ => rfl) ?_
  refine y_gf rfl rfl rfl rfl rfl ?_
  refine y_st rfl rfl rfl rfl rfl (fun _ _ => rfl) ?_
  refine y_st rfl rfl rfl rfl rfl (fun _ _ => rfl) ?_
  refine y_gf rfl rfl rfl rfl rfl ?_
  refine y_st rfl rfl rfl rfl rfl (fun _ _ => rfl) ?_
  refine y_st rfl rfl rfl rfl rfl (fun _ _ => rfl) ?_
  refine y_st rfl rfl rfl rfl rfl (fun _ _ => rfl) ?_
  show yP (xg xs) (d + 1) 400 30 [(4, .int s0), (0, .ref 58), (1, .int l1), (2, .int l2), (3, .int l3)] [.int (l2 + (5 : Int32)), .ref 98, .long ((m.1 58 64).toInt64)] m Q
  refine y_iald rfl rfl rfl (H.1) ?_
  replace H := H.2
  refine y_st rfl rfl rfl rfl rfl (fun _ _ => rfl) ?_
  refine y_st rfl rfl rfl rfl rfl (fun _ _ => rfl) ?_
  refine y_st rfl rfl rfl rfl rfl (fun _ _ => rfl) ?_
  refine y_st rfl rfl rfl rfl rfl (fun _ _ => rfl) ?_
  refine y_gf rfl rfl rfl rfl rfl ?_
  refine y_st rfl rfl rfl rfl rfl (fun _ _ => rfl) ?_
  refine y_st rfl rfl rfl rfl rfl (fun _ _ => rfl) ?_
  refine y_st rfl rfl rfl rfl rfl (fun _ _ => rfl) ?_
  show yP (xg xs) (d + 1) 400 42 [(5, .long (((m.1 58 64).toInt64) - ((m.1 98 ((l2 + (5 : Int32)).toNatClampNeg)).toInt64))), (4, .int s0), (0, .ref 58), (1, .int l1), (2, .int l2), (3, .int l3)] [.int (l2 + (1 : Int32)), .ref 98] m Q
  refine y_iald rfl rfl rfl (H.1) ?_
  replace H := H.2
  show yP (xg xs) (d + 1) 400 43 [(5, .long (((m.1 58 64).toInt64) - ((m.1 98 ((l2 + (5 : Int32)).toNatClampNeg)).toInt64))), (4, .int s0), (0, .ref 58), (1, .int l1), (2, .int l2), (3, .int l3)] [.int (m.1 98 ((l2 + (1 : Int32)).toNatClampNeg))] m Q
  refine y_zge (t := 50) rfl rfl rfl (fun h => ?_) (fun h => ?_)
  · replace H := H.1 h; clear h
    refine y_st rfl rfl rfl rfl rfl (fun _ _ => rfl) ?_
    refine y_gf rfl rfl rfl rfl rfl ?_
    refine y_st rfl rfl rfl rfl rfl (fun _ _ => rfl) ?_
    refine y_st rfl rfl rfl rfl rfl (fun _ _ => rfl) ?_
    refine y_st rfl rfl rfl rfl rfl (fun _ _ => rfl) ?_
    show yP (xg xs) (d + 1) 400 57 [(5, .long (((m.1 58 64).toInt64) - ((m.1 98 ((l2 + (5 : Int32)).toNatClampNeg)).toInt64))), (4, .int s0), (0, .ref 58), (1, .int l1), (2, .int l2), (3, .int l3)] [.int (l2 + (1 : Int32)), .ref 98] m Q
    refine y_iald rfl rfl rfl (H.1) ?_
    replace H := H.2
    refine y_st rfl rfl rfl rfl rfl (fun _ _ => rfl) ?_
    show yP (xg xs) (d + 1) 400 59 [(5, .long (((m.1 58 64).toInt64) - ((m.1 98 ((l2 + (5 : Int32)).toNatClampNeg)).toInt64))), (4, .int s0), (0, .ref 58), (1, .int l1), (2, .int l2), (3, .int l3)] [.long ((m.1 98 ((l2 + (1 : Int32)).toNatClampNeg)).toInt64)] m Q
    refine y_headS (l2 := [(0, .ref 58), (1, .int l1), (2, .int l2), (3, .int l3), (4, .int s0), (5, .long (((m.1 58 64).toInt64) - ((m.1 98 ((l2 + (5 : Int32)).toNatClampNeg)).toInt64)))]) [2, 3, 4, 5, 1, 0] [0, 1, 2, 3, 4, 5] [5, 4, 0, 1, 2, 3] rfl rfl (by decide) rfl (by decide) ?_
    exact H
  · replace H := H.2 h; clear h
    refine y_st rfl rfl rfl rfl rfl (fun _ _ => rfl) ?_
    refine y_st rfl rfl rfl rfl rfl (fun _ _ => rfl) ?_
    show yP (xg xs) (d + 1) 400 59 [(5, .long (((m.1 58 64).toInt64) - ((m.1 98 ((l2 + (5 : Int32)).toNatClampNeg)).toInt64))), (4, .int s0), (0, .ref 58), (1, .int l1), (2, .int l2), (3, .int l3)] [.long (0 : Int64)] m Q
    refine y_headS (l2 := [(0, .ref 58), (1, .int l1), (2, .int l2), (3, .int l3), (4, .int s0), (5, .long (((m.1 58 64).toInt64) - ((m.1 98 ((l2 + (5 : Int32)).toNatClampNeg)).toInt64)))]) [2, 3, 4, 5, 1, 0] [0, 1, 2, 3, 4, 5] [5, 4, 0, 1, 2, 3] rfl rfl (by decide) rfl (by decide) ?_
    exact H
set_option maxRecDepth 20000 in
/-- CodeMakerModel.runTimer from 59 on -/
theorem w400_59 (xs : List Int32) (d : Nat) (l1 : Int32) (l2 : Int32) (l3 : Int32) (l4 : Int32) (l5 : Int64) (s0 : Int64) (m : yM) (Q : Option Value → yM → Prop) (H : (x_in (l2 + (2 : Int32)) 8192 = true ∧ (((m.1 98 ((l2 + (2 : Int32)).toNatClampNeg)) = 0 → yP (xg xs) (d + 1) 400 77 [(0, .ref 58), (1, .int l1), (2, .int l2), (3, .int l3), (4, .int l4), (5, .long l5), (7, .long s0)] [.int (0 : Int32)] m Q) ∧ (¬ (m.1 98 ((l2 + (2 : Int32)).toNatClampNeg)) = 0 → yP (xg xs) (d + 1) 400 77 [(0, .ref 58), (1, .int l1), (2, .int l2), (3, .int l3), (4, .int l4), (5, .long l5), (7, .long s0)] [.int (1 : Int32)] m Q)))) : yP (xg xs) (d + 1) 400 59 [(0, .ref 58), (1, .int l1), (2, .int l2), (3, .int l3), (4, .int l4), (5, .long l5)] [.long s0] m Q := by
  refine y_st rfl rfl rfl rfl rfl (fun _ _ => rfl) ?_
  refine y_st rfl rfl rfl rfl rfl (fun _ _ => rfl) ?_
  refine y_gf rfl rfl rfl rfl rfl ?_
  refine y_st rfl rfl rfl rfl rfl (fun _ _ => rfl) ?_
  refine y_st rfl rfl rfl rfl rfl (fun _ _ => rfl) ?_
  refine y_st rfl rfl rfl rfl rfl (fun _ _ => rfl) ?_
  show yP (xg xs) (d + 1) 400 68 [(7, .long s0), (0, .ref 58), (1, .int l1), (2, .int l2), (3, .int l3), (4, .int l4), (5, .long l5)] [.int (l2 + (2 : Int32)), .ref 98] m Q
  refine y_iald rfl rfl rfl (H.1) ?_
  replace H := H.2
  show yP (xg xs) (d + 1) 400 69 [(7, .long s0), (0, .ref 58), (1, .int l1), (2, .int l2), (3, .int l3), (4, .int l4), (5, .long l5)] [.int (m.1 98 ((l2 + (2 : Int32)).toNatClampNeg))] m Q
  refine y_zeq (t := 76) rfl rfl rfl (fun h => ?_) (fun h => ?_)
  · replace H := H.1 h; clear h
    refine y_st rfl rfl rfl rfl rfl (fun _ _ => rfl) ?_
    show yP (xg xs) (d + 1) 400 77 [(7, .long s0), (0, .ref 58), (1, .int l1), (2, .int l2), (3, .int l3), (4, .int l4), (5, .long l5)] [.int (0 : Int32)] m Q
    refine y_headS (l2 := [(0, .ref 58), (1, .int l1), (2, .int l2), (3, .int l3), (4, .int l4), (5, .long l5), (7, .long s0)]) [1, 2, 3, 4, 5, 6, 0] [0, 1, 2, 3, 4, 5, 7] [7, 0, 1, 2, 3, 4, 5] rfl rfl (by decide) rfl (by decide) ?_
    exact H
  · replace H := H.2 h; clear h
    refine y_st rfl rfl rfl rfl rfl (fun _ _ => rfl) ?_
    refine y_st rfl rfl rfl rfl rfl (fun _ _ => rfl) ?_
    show yP (xg xs) (d + 1) 400 77 [(7, .long s0), (0, .ref 58), (1, .int l1), (2, .int l2), (3, .int l3), (4, .int l4), (5, .long l5)] [.int (1 : Int32)] m Q
    refine y_headS (l2 := [(0, .ref 58), (1, .int l1), (2, .int l2), (3, .int l3), (4, .int l4), (5, .long l5), (7, .long s0)]) [1, 2, 3, 4, 5, 6, 0] [0, 1, 2, 3, 4, 5, 7] [7, 0, 1, 2, 3, 4, 5] rfl rfl (by decide) rfl (by decide) ?_
    exact H
set_option maxRecDepth 20000 in
/-- CodeMakerModel.runTimer from 77 on -/
theorem w400_77 (xs : List Int32) (d : Nat) (l1 : Int32) (l2 : Int32) (l3 : Int32) (l4 : Int32) (l5 : Int64) (l7 : Int64) (s0 : Int32) (m : yM) (Q : Option Value → yM → Prop) (H : (x_in (l2 + (3 : Int32)) 8192 = true ∧ ((0 ≤ (lg_cmp l7 (((m.1 98 ((l2 + (3 : Int32)).toNatClampNeg)).toInt64) + l5)) → yP (xg xs) (d + 1) 400 108 [(0, .ref 58), (1, .int l1), (2, .int l2), (3, .int l3), (4, .int l4), (7, .long l7), (9, .int s0)] [.long (((m.1 98 ((l2 + (3 : Int32)).toNatClampNeg)).toInt64) + l5)] m Q) ∧ (¬ 0 ≤ (lg_cmp l7 (((m.1 98 ((l2 + (3 : Int32)).toNatClampNeg)).toInt64) + l5)) → yP (xg xs) (d + 1) 400 108 [(0, .ref 58), (1, .int l1), (2, .int l2), (3, .int l3), (4, .int l4), (7, .long l7), (9, .int s0)] [.long l7] m Q)))) : yP (xg xs) (d + 1) 400 77 [(0, .ref 58), (1, .int l1), (2, .int l2), (3, .int l3), (4, .int l4), (5, .long l5), (7, .long l7)] [.int s0] m Q := by
  refine y_st rfl rfl rfl rfl rfl (fun _ _ => rfl) ?_
  refine y_st rfl rfl rfl rfl rfl (fun _ _ => rfl) ?_
  refine y_gf rfl rfl rfl rfl rfl ?_
  refine y_st rfl rfl rfl rfl rfl (fun _ _ => rfl) ?_
  refine y_st rfl rfl rfl rfl rfl (fun _ _ => rfl) ?_
  refine y_st rfl rfl rfl rfl rfl (fun _ _ => rfl) ?_
  show yP (xg xs) (d + 1) 400 86 [(9, .int s0), (0, .ref 58), (1, .int l1), (2, .int l2), (3, .int l3), (4, .int l4), (5, .long l5), (7, .long l7)] [.int (l2 + (3 : Int32)), .ref 98] m Q
  refine y_iald rfl rfl rfl (H.1) ?_
  replace H := H.2
  refine y_st rfl rfl rfl rfl rfl (fun _ _ => rfl) ?_
  refine y_st rfl rfl rfl rfl rfl (fun _ _ => rfl) ?_
  refine y_st rfl rfl rfl rfl rfl (fun _ _ => rfl) ?_
  refine y_st rfl rfl rfl rfl rfl (fun _ _ => rfl) ?_
  refine y_st rfl rfl rfl rfl rfl (fun _ _ => rfl) ?_
  refine y_st rfl rfl rfl rfl rfl (fun _ _ => rfl) ?_
  refine y_st rfl rfl rfl rfl rfl (fun _ _ => rfl) ?_
  show yP (xg xs) (d + 1) 400 98 [(10, .long (((m.1 98 ((l2 + (3 : Int32)).toNatClampNeg)).toInt64) + l5)), (9, .int s0), (0, .ref 58), (1, .int l1), (2, .int l2), (3, .int l3), (4, .int l4), (5, .long l5), (7, .long l7)] [.int (lg_cmp l7 (((m.1 98 ((l2 + (3 : Int32)).toNatClampNeg)).toInt64) + l5))] m Q
  refine y_zge (t := 106) rfl rfl rfl (fun h => ?_) (fun h => ?_)
  · replace H := H.1 h; clear h
    refine y_st rfl rfl rfl rfl rfl (fun _ _ => rfl) ?_
    show yP (xg xs) (d + 1) 400 108 [(10, .long (((m.1 98 ((l2 + (3 : Int32)).toNatClampNeg)).toInt64) + l5)), (9, .int s0), (0, .ref 58), (1, .int l1), (2, .int l2), (3, .int l3), (4, .int l4), (5, .long l5), (7, .long l7)] [.long (((m.1 98 ((l2 + (3 : Int32)).toNatClampNeg)).toInt64) + l5)] m Q
    refine y_headS (l2 := [(0, .ref 58), (1, .int l1), (2, .int l2), (3, .int l3), (4, .int l4), (7, .long l7), (9, .int s0)]) [2, 3, 4, 5, 6, 8, 1] [0, 1, 2, 3, 4, 7, 9] [10, 9, 0, 1, 2, 3, 4, 5, 7] rfl rfl (by decide) rfl (by decide) ?_
    exact H
  · replace H := H.2 h; clear h
    refine y_st rfl rfl rfl rfl rfl (fun _ _ => rfl) ?_
    refine y_st rfl rfl rfl rfl rfl (fun _ _ => rfl) ?_
    show yP (xg xs) (d + 1) 400 108 [(10, .long (((m.1 98 ((l2 + (3 : Int32)).toNatClampNeg)).toInt64) + l5)), (9, .int s0), (0, .ref 58), (1, .int l1), (2, .int l2), (3, .int l3), (4, .int l4), (5, .long l5), (7, .long l7)] [.long l7] m Q
    refine y_headS (l2 := [(0, .ref 58), (1, .int l1), (2, .int l2), (3, .int l3), (4, .int l4), (7, .long l7), (9, .int s0)]) [2, 3, 4, 5, 6, 8, 1] [0, 1, 2, 3, 4, 7, 9] [10, 9, 0, 1, 2, 3, 4, 5, 7] rfl rfl (by decide) rfl (by decide) ?_
    exact H
set_option maxRecDepth 20000 in
/-- CodeMakerModel.runTimer from 108 on -/
theorem w400_108 (xs : List Int32) (d : Nat) (l1 : Int32) (l2 : Int32) (l3 : Int32) (l4 : Int32) (l7 : Int64) (l9 : Int32) (s0 : Int64) (m : yM) (Q : Option Value → yM → Prop) (H : ((¬ l1 = 0 → ((¬ l1 = (1 : Int32) → ((l9 = 0 → yP (xg xs) (d + 1) 400 330 [(0, .ref 58), (2, .int l2), (3, .int l3), (4, .int l4), (7, .long l7)] [] m Q) ∧ (¬ l9 = 0 → (x_in (l2 + (3 : Int32)) 8192 = true ∧ (x_in (l2 + (3 : Int32)) 8192 = true ∧ ((0 ≤ (lg_cmp (((y_si m 98 ((l2 + (3 : Int32)).toNatClampNeg) s0.toInt32).1 98 ((l2 + (3 : Int32)).toNatClampNeg)).toInt64) l7) → yP (xg xs) (d + 1) 400 329 [(0, .ref 58), (2, .int l2), (3, .int l3), (4, .int l4), (7, .long l7)] [.int (0 : Int32), .int (l2 + (2 : Int32)), .ref 98] (y_si m 98 ((l2 + (3 : Int32)).toNatClampNeg) s0.toInt32) Q) ∧ (¬ 0 ≤ (lg_cmp (((y_si m 98 ((l2 + (3 : Int32)).toNatClampNeg) s0.toInt32).1 98 ((l2 + (3 : Int32)).toNatClampNeg)).toInt64) l7) → (x_in (l2 + (2 : Int32)) 8192 = true ∧ yP (xg xs) (d + 1) 400 329 [(0, .ref 58), (2, .int l2), (3, .int l3), (4, .int l4), (7, .long l7)] [.int ((y_si m 98 ((l2 + (3 : Int32)).toNatClampNeg) s0.toInt32).1 98 ((l2 + (2 : Int32)).toNatClampNeg)), .int (l2 + (2 : Int32)), .ref 98] (y_si m 98 ((l2 + (3 : Int32)).toNatClampNeg) s0.toInt32) Q)))))))) ∧ (l1 = (1 : Int32) → ((¬ l3 = 0 → yP (xg xs) (d + 1) 400 190 [(0, .ref 58), (2, .int l2), (3, .int l3), (7, .long l7)] [] m Q) ∧ (l3 = 0 → ((l4 = 0 → ((l9 = 0 → yP (xg xs) (d + 1) 400 402 [(0, .ref 58), (2, .int l2), (3, .int l3)] [] m Q) ∧ (¬ l9 = 0 → (x_in (l2 + (3 : Int32)) 8192 = true ∧ (x_in (l2 + (3 : Int32)) 8192 = true ∧ ((0 ≤ (lg_cmp (((y_si m 98 ((l2 + (3 : Int32)).toNatClampNeg) s0.toInt32).1 98 ((l2 + (3 : Int32)).toNatClampNeg)).toInt64) l7) → yP (xg xs) (d + 1) 400 272 [(0, .ref 58), (2, .int l2), (3, .int l3)] [.int (0 : Int32), .int (l2 + (2 : Int32)), .ref 98] (y_si m 98 ((l2 + (3 : Int32)).toNatClampNeg) s0.toInt32) Q) ∧ (¬ 0 ≤ (lg_cmp (((y_si m 98 ((l2 + (3 : Int32)).toNatClampNeg) s0.toInt32).1 98 ((l2 + (3 : Int32)).toNatClampNeg)).toInt64) l7) → yP (xg xs) (d + 1) 400 272 [(0, .ref 58), (2, .int l2), (3, .int l3)] [.int (1 : Int32), .int (l2 + (2 : Int32)), .ref 98] (y_si m 98 ((l2 + (3 : Int32)).toNatClampNeg) s0.toInt32) Q))))))) ∧ (¬ l4 = 0 → yP (xg xs) (d + 1) 400 190 [(0, .ref 58), (2, .int l2), (3, .int l3), (7, .long l7)] [] m Q))))))) ∧ (l1 = 0 → ((l3 = 0 → yP (xg xs) (d + 1) 400 136 [(0, .ref 58), (2, .int l2), (3, .int l3), (7, .long l7)] [.int (l2 + (3 : Int32)), .ref 98] m Q) ∧ (¬ l3 = 0 → ((l4 = 0 → yP (xg xs) (d + 1) 400 136 [(0, .ref 58), (2, .int l2), (3, .int l3), (7, .long l7)] [.int (l2 + (3 : Int32)), .ref 98] m Q) ∧ (¬ l4 = 0 → yP (xg xs) (d + 1) 400 137 [(0, .ref 58), (2, .int l2), (3, .int l3), (7, .long l7)] [.int s0.toInt32, .int (l2 + (3 : Int32)), .ref 98] m Q))))))) : yP (xg xs) (d + 1) 400 108 [(0, .ref 58), (1, .int l1), (2, .int l2), (3, .int l3), (4, .int l4), (7, .long l7), (9, .int l9)] [.long s0] m Q := by
  refine y_st rfl rfl rfl rfl rfl (fun _ _ => rfl) ?_
  refine y_st rfl rfl rfl rfl rfl (fun _ _ => rfl) ?_
  show yP (xg xs) (d + 1) 400 111 [(10, .long s0), (0, .ref 58), (1, .int l1), (2, .int l2), (3, .int l3), (4, .int l4), (7, .long l7), (9, .int l9)] [.int l1] m Q
  refine y_zne (t := 176) rfl rfl rfl (fun h => ?_) (fun h => ?_)
  · replace H := H.1 h; clear h
    refine y_st rfl rfl rfl rfl rfl (fun _ _ => rfl) ?_
    refine y_st rfl rfl rfl rfl rfl (fun _ _ => rfl) ?_
    show yP (xg xs) (d + 1) 400 178 [(10, .long s0), (0, .ref 58), (1, .int l1), (2, .int l2), (3, .int l3), (4, .int l4), (7, .long l7), (9, .int l9)] [.int (1 : Int32), .int l1] m Q
    refine y_ine (t := 279) rfl rfl rfl (fun h => ?_) (fun h => ?_)
    · replace H := H.1 h; clear h
      refine y_st rfl rfl rfl rfl rfl (fun _ _ => rfl) ?_
      show yP (xg xs) (d + 1) 400 281 [(10, .long s0), (0, .ref 58), (1, .int l1), (2, .int l2), (3, .int l3), (4, .int l4), (7, .long l7), (9, .int l9)] [.int l9] m Q
      refine y_zeq (t := 330) rfl rfl rfl (fun h => ?_) (fun h => ?_)
      · replace H := H.1 h; clear h
        show yP (xg xs) (d + 1) 400 330 [(10, .long s0), (0, .ref 58), (1, .int l1), (2, .int l2), (3, .int l3), (4, .int l4), (7, .long l7), (9, .int l9)] [] m Q
        refine y_headS (l2 := [(0, .ref 58), (2, .int l2), (3, .int l3), (4, .int l4), (7, .long l7)]) [1, 3, 4, 5, 6] [0, 2, 3, 4, 7] [10, 0, 1, 2, 3, 4, 7, 9] rfl rfl (by decide) rfl (by decide) ?_
        exact H
      · replace H := H.2 h; clear h
        refine y_st rfl rfl rfl rfl rfl (fun _ _ => rfl) ?_
        refine y_gf rfl rfl rfl rfl rfl ?_
        refine y_st rfl rfl rfl rfl rfl (fun _ _ => rfl) ?_
        refine y_st rfl rfl rfl rfl rfl (fun _ _ => rfl) ?_
        refine y_st rfl rfl rfl rfl rfl (fun _ _ => rfl) ?_
        refine y_st rfl rfl rfl rfl rfl (fun _ _ => rfl) ?_
        refine y_st rfl rfl rfl rfl rfl (fun _ _ => rfl) ?_
        show yP (xg xs) (d + 1) 400 294 [(10, .long s0), (0, .ref 58), (1, .int l1), (2, .int l2), (3, .int l3), (4, .int l4), (7, .long l7), (9, .int l9)] [.int s0.toInt32, .int (l2 + (3 : Int32)), .ref 98] m Q
        refine y_iast rfl rfl rfl (H.1) ?_
        replace H := H.2
        refine y_st rfl rfl rfl rfl rfl (fun _ _ => rfl) ?_
        refine y_gf rfl rfl rfl rfl rfl ?_
        refine y_st rfl rfl rfl rfl rfl (fun _ _ => rfl) ?_
        refine y_st rfl rfl rfl rfl rfl (fun _ _ => rfl) ?_
        refine y_st rfl rfl rfl rfl rfl (fun _ _ => rfl) ?_
        refine y_st rfl rfl rfl rfl rfl (fun _ _ => rfl) ?_
        refine y_gf rfl rfl rfl rfl rfl ?_
        refine y_st rfl rfl rfl rfl rfl (fun _ _ => rfl) ?_
        refine y_st rfl rfl rfl rfl rfl (fun _ _ => rfl) ?_
        refine y_st rfl rfl rfl rfl rfl (fun _ _ => rfl) ?_
        show yP (xg xs) (d + 1) 400 309 [(10, .long s0), (0, .ref 58), (1, .int l1), (2, .int l2), (3, .int l3), (4, .int l4), (7, .long l7), (9, .int l9)] [.int (l2 + (3 : Int32)), .ref 98, .int (l2 + (2 : Int32)), .ref 98] (y_si m 98 ((l2 + (3 : Int32)).toNatClampNeg) s0.toInt32) Q
        refine y_iald rfl rfl rfl (H.1) ?_
        replace H := H.2
        refine y_st rfl rfl rfl rfl rfl (fun _ _ => rfl) ?_
        refine y_st rfl rfl rfl rfl rfl (fun _ _ => rfl) ?_
        refine y_st rfl rfl rfl rfl rfl (fun _ _ => rfl) ?_
        show yP (xg xs) (d + 1) 400 314 [(10, .long s0), (0, .ref 58), (1, .int l1), (2, .int l2), (3, .int l3), (4, .int l4), (7, .long l7), (9, .int l9)] [.int (lg_cmp (((y_si m 98 ((l2 + (3 : Int32)).toNatClampNeg) s0.toInt32).1 98 ((l2 + (3 : Int32)).toNatClampNeg)).toInt64) l7), .int (l2 + (2 : Int32)), .ref 98] (y_si m 98 ((l2 + (3 : Int32)).toNatClampNeg) s0.toInt32) Q
        refine y_zge (t := 328) rfl rfl rfl (fun h => ?_) (fun h => ?_)
        · replace H := H.1 h; clear h
          refine y_st rfl rfl rfl rfl rfl (fun _ _ => rfl) ?_
          show yP (xg xs) (d + 1) 400 329 [(10, .long s0), (0, .ref 58), (1, .int l1), (2, .int l2), (3, .int l3), (4, .int l4), (7, .long l7), (9, .int l9)] [.int (0 : Int32), .int (l2 + (2 : Int32)), .ref 98] (y_si m 98 ((l2 + (3 : Int32)).toNatClampNeg) s0.toInt32) Q
          refine y_headS (l2 := [(0, .ref 58), (2, .int l2), (3, .int l3), (4, .int l4), (7, .long l7)]) [1, 3, 4, 5, 6] [0, 2, 3, 4, 7] [10, 0, 1, 2, 3, 4, 7, 9] rfl rfl (by decide) rfl (by decide) ?_
          exact H
        · replace H := H.2 h; clear h
          refine y_st rfl rfl rfl rfl rfl (fun _ _ => rfl) ?_
          refine y_gf rfl rfl rfl rfl rfl ?_
          refine y_st rfl rfl rfl rfl rfl (fun _ _ => rfl) ?_
          refine y_st rfl rfl rfl rfl rfl (fun _ _ => rfl) ?_
          refine y_st rfl rfl rfl rfl rfl (fun _ _ => rfl) ?_
          show yP (xg xs) (d + 1) 400 324 [(10, .long s0), (0, .ref 58), (1, .int l1), (2, .int l2), (3, .int l3), (4, .int l4), (7, .long l7), (9, .int l9)] [.int (l2 + (2 : Int32)), .ref 98, .int (l2 + (2 : Int32)), .ref 98] (y_si m 98 ((l2 + (3 : Int32)).toNatClampNeg) s0.toInt32) Q
          refine y_iald rfl rfl rfl (H.1) ?_
          replace H := H.2
          refine y_st rfl rfl rfl rfl rfl (fun _ _ => rfl) ?_
          show yP (xg xs) (d + 1) 400 329 [(10, .long s0), (0, .ref 58), (1, .int l1), (2, .int l2), (3, .int l3), (4, .int l4), (7, .long l7), (9, .int l9)] [.int ((y_si m 98 ((l2 + (3 : Int32)).toNatClampNeg) s0.toInt32).1 98 ((l2 + (2 : Int32)).toNatClampNeg)), .int (l2 + (2 : Int32)), .ref 98] (y_si m 98 ((l2 + (3 : Int32)).toNatClampNeg) s0.toInt32) Q
          refine y_headS (l2 := [(0, .ref 58), (2, .int l2), (3, .int l3), (4, .int l4), (7, .long l7)]) [1, 3, 4, 5, 6] [0, 2, 3, 4, 7] [10, 0, 1, 2, 3, 4, 7, 9] rfl rfl (by decide) rfl (by decide) ?_
          exact H
    · replace H := H.2 h; clear h
      refine y_st rfl rfl rfl rfl rfl (fun _ _ => rfl) ?_
      show yP (xg xs) (d + 1) 400 182 [(10, .long s0), (0, .ref 58), (1, .int l1), (2, .int l2), (3, .int l3), (4, .int l4), (7, .long l7), (9, .int l9)] [.int l3] m Q
      refine y_zne (t := 190) rfl rfl rfl (fun h => ?_) (fun h => ?_)
      · replace H := H.1 h; clear h
        show yP (xg xs) (d + 1) 400 190 [(10, .long s0), (0, .ref 58), (1, .int l1), (2, .int l2), (3, .int l3), (4, .int l4), (7, .long l7), (9, .int l9)] [] m Q
        refine y_headS (l2 := [(0, .ref 58), (2, .int l2), (3, .int l3), (7, .long l7)]) [1, 3, 4, 6] [0, 2, 3, 7] [10, 0, 1, 2, 3, 4, 7, 9] rfl rfl (by decide) rfl (by decide) ?_
        exact H
      · replace H := H.2 h; clear h
        refine y_st rfl rfl rfl rfl rfl (fun _ _ => rfl) ?_
        show yP (xg xs) (d + 1) 400 187 [(10, .long s0), (0, .ref 58), (1, .int l1), (2, .int l2), (3, .int l3), (4, .int l4), (7, .long l7), (9, .int l9)] [.int l4] m Q
        refine y_zeq (t := 229) rfl rfl rfl (fun h => ?_) (fun h => ?_)
        · replace H := H.1 h; clear h
          refine y_st rfl rfl rfl rfl rfl (fun _ _ => rfl) ?_
          show yP (xg xs) (d + 1) 400 231 [(10, .long s0), (0, .ref 58), (1, .int l1), (2, .int l2), (3, .int l3), (4, .int l4), (7, .long l7), (9, .int l9)] [.int l9] m Q
          refine y_zeq (t := 402) rfl rfl rfl (fun h => ?_) (fun h => ?_)
          · replace H := H.1 h; clear h
            show yP (xg xs) (d + 1) 400 402 [(10, .long s0), (0, .ref 58), (1, .int l1), (2, .int l2), (3, .int l3), (4, .int l4), (7, .long l7), (9, .int l9)] [] m Q
            refine y_headS (l2 := [(0, .ref 58), (2, .int l2), (3, .int l3)]) [1, 3, 4] [0, 2, 3] [10, 0, 1, 2, 3, 4, 7, 9] rfl rfl (by decide) rfl (by decide) ?_
            exact H
          · replace H := H.2 h; clear h
            refine y_st rfl rfl rfl rfl rfl (fun _ _ => rfl) ?_
            refine y_gf rfl rfl rfl rfl rfl ?_
            refine y_st rfl rfl rfl rfl rfl (fun _ _ => rfl) ?_
            refine y_st rfl rfl rfl rfl rfl (fun _ _ => rfl) ?_
            refine y_st rfl rfl rfl rfl rfl (fun _ _ => rfl) ?_
            refine y_st rfl rfl rfl rfl rfl (fun _ _ => rfl) ?_
            refine y_st rfl rfl rfl rfl rfl (fun _ _ => rfl) ?_
            show yP (xg xs) (d + 1) 400 244 [(10, .long s0), (0, .ref 58), (1, .int l1), (2, .int l2), (3, .int l3), (4, .int l4), (7, .long l7), (9, .int l9)] [.int s0.toInt32, .int (l2 + (3 : Int32)), .ref 98] m Q
            refine y_iast rfl rfl rfl (H.1) ?_
            replace H := H.2
            refine y_st rfl rfl rfl rfl rfl (fun _ _ => rfl) ?_
            refine y_gf rfl rfl rfl rfl rfl ?_
            refine y_st rfl rfl rfl rfl rfl (fun _ _ => rfl) ?_
            refine y_st rfl rfl rfl rfl rfl (fun _ _ => rfl) ?_
            refine y_st rfl rfl rfl rfl rfl (fun _ _ => rfl) ?_
            refine y_st rfl rfl rfl rfl rfl (fun _ _ => rfl) ?_
            refine y_gf rfl rfl rfl rfl rfl ?_
            refine y_st rfl rfl rfl rfl rfl (fun _ _ => rfl) ?_
            refine y_st rfl rfl rfl rfl rfl (fun _ _ => rfl) ?_
            refine y_st rfl rfl rfl rfl rfl (fun _ _ => rfl) ?_
            show yP (xg xs) (d + 1) 400 259 [(10, .long s0), (0, .ref 58), (1, .int l1), (2, .int l2), (3, .int l3), (4, .int l4), (7, .long l7), (9, .int l9)] [.int (l2 + (3 : Int32)), .ref 98, .int (l2 + (2 : Int32)), .ref 98] (y_si m 98 ((l2 + (3 : Int32)).toNatClampNeg) s0.toInt32) Q
            refine y_iald rfl rfl rfl (H.1) ?_
            replace H := H.2
            refine y_st rfl rfl rfl rfl rfl (fun _ _ => rfl) ?_
            refine y_st rfl rfl rfl rfl rfl (fun _ _ => rfl) ?_
            refine y_st rfl rfl rfl rfl rfl (fun _ _ => rfl) ?_
            show yP (xg xs) (d + 1) 400 264 [(10, .long s0), (0, .ref 58), (1, .int l1), (2, .int l2), (3, .int l3), (4, .int l4), (7, .long l7), (9, .int l9)] [.int (lg_cmp (((y_si m 98 ((l2 + (3 : Int32)).toNatClampNeg) s0.toInt32).1 98 ((l2 + (3 : Int32)).toNatClampNeg)).toInt64) l7), .int (l2 + (2 : Int32)), .ref 98] (y_si m 98 ((l2 + (3 : Int32)).toNatClampNeg) s0.toInt32) Q
            refine y_zge (t := 271) rfl rfl rfl (fun h => ?_) (fun h => ?_)
            · replace H := H.1 h; clear h
              refine y_st rfl rfl rfl rfl rfl (fun _ _ => rfl) ?_
              show yP (xg xs) (d + 1) 400 272 [(10, .long s0), (0, .ref 58), (1, .int l1), (2, .int l2), (3, .int l3), (4, .int l4), (7, .long l7), (9, .int l9)] [.int (0 : Int32), .int (l2 + (2 : Int32)), .ref 98] (y_si m 98 ((l2 + (3 : Int32)).toNatClampNeg) s0.toInt32) Q
              refine y_headS (l2 := [(0, .ref 58), (2, .int l2), (3, .int l3)]) [1, 3, 4] [0, 2, 3] [10, 0, 1, 2, 3, 4, 7, 9] rfl rfl (by decide) rfl (by decide) ?_
              exact H
            · replace H := H.2 h; clear h
              refine y_st rfl rfl rfl rfl rfl (fun _ _ => rfl) ?_
              refine y_st rfl rfl rfl rfl rfl (fun _ _ => rfl) ?_
              show yP (xg xs) (d + 1) 400 272 [(10, .long s0), (0, .ref 58), (1, .int l1), (2, .int l2), (3, .int l3), (4, .int l4), (7, .long l7), (9, .int l9)] [.int (1 : Int32), .int (l2 + (2 : Int32)), .ref 98] (y_si m 98 ((l2 + (3 : Int32)).toNatClampNeg) s0.toInt32) Q
              refine y_headS (l2 := [(0, .ref 58), (2, .int l2), (3, .int l3)]) [1, 3, 4] [0, 2, 3] [10, 0, 1, 2, 3, 4, 7, 9] rfl rfl (by decide) rfl (by decide) ?_
              exact H
        · replace H := H.2 h; clear h
          show yP (xg xs) (d + 1) 400 190 [(10, .long s0), (0, .ref 58), (1, .int l1), (2, .int l2), (3, .int l3), (4, .int l4), (7, .long l7), (9, .int l9)] [] m Q
          refine y_headS (l2 := [(0, .ref 58), (2, .int l2), (3, .int l3), (7, .long l7)]) [1, 3, 4, 6] [0, 2, 3, 7] [10, 0, 1, 2, 3, 4, 7, 9] rfl rfl (by decide) rfl (by decide) ?_
          exact H
  · replace H := H.2 h; clear h
    refine y_st rfl rfl rfl rfl rfl (fun _ _ => rfl) ?_
    refine y_gf rfl rfl rfl rfl rfl ?_
    refine y_st rfl rfl rfl rfl rfl (fun _ _ => rfl) ?_
    refine y_st rfl rfl rfl rfl rfl (fun _ _ => rfl) ?_
    refine y_st rfl rfl rfl rfl rfl (fun _ _ => rfl) ?_
    refine y_st rfl rfl rfl rfl rfl (fun _ _ => rfl) ?_
    show yP (xg xs) (d + 1) 400 122 [(10, .long s0), (0, .ref 58), (1, .int l1), (2, .int l2), (3, .int l3), (4, .int l4), (7, .long l7), (9, .int l9)] [.int l3, .int (l2 + (3 : Int32)), .ref 98] m Q
    refine y_zeq (t := 136) rfl rfl rfl (fun h => ?_) (fun h => ?_)
    · replace H := H.1 h; clear h
      show yP (xg xs) (d + 1) 400 136 [(10, .long s0), (0, .ref 58), (1, .int l1), (2, .int l2), (3, .int l3), (4, .int l4), (7, .long l7), (9, .int l9)] [.int (l2 + (3 : Int32)), .ref 98] m Q
      refine y_headS (l2 := [(0, .ref 58), (2, .int l2), (3, .int l3), (7, .long l7)]) [1, 3, 4, 6] [0, 2, 3, 7] [10, 0, 1, 2, 3, 4, 7, 9] rfl rfl (by decide) rfl (by decide) ?_
      exact H
    · replace H := H.2 h; clear h
      refine y_st rfl rfl rfl rfl rfl (fun _ _ => rfl) ?_
      show yP (xg xs) (d + 1) 400 127 [(10, .long s0), (0, .ref 58), (1, .int l1), (2, .int l2), (3, .int l3), (4, .int l4), (7, .long l7), (9, .int l9)] [.int l4, .int (l2 + (3 : Int32)), .ref 98] m Q
      refine y_zeq (t := 136) rfl rfl rfl (fun h => ?_) (fun h => ?_)
      · replace H := H.1 h; clear h
        show yP (xg xs) (d + 1) 400 136 [(10, .long s0), (0, .ref 58), (1, .int l1), (2, .int l2), (3, .int l3), (4, .int l4), (7, .long l7), (9, .int l9)] [.int (l2 + (3 : Int32)), .ref 98] m Q
        refine y_headS (l2 := [(0, .ref 58), (2, .int l2), (3, .int l3), (7, .long l7)]) [1, 3, 4, 6] [0, 2, 3, 7] [10, 0, 1, 2, 3, 4, 7, 9] rfl rfl (by decide) rfl (by decide) ?_
        exact H
      · replace H := H.2 h; clear h
        refine y_st rfl rfl rfl rfl rfl (fun _ _ => rfl) ?_
        refine y_st rfl rfl rfl rfl rfl (fun _ _ => rfl) ?_
        refine y_st rfl rfl rfl rfl rfl (fun _ _ => rfl) ?_
        show yP (xg xs) (d + 1) 400 137 [(10, .long s0), (0, .ref 58), (1, .int l1), (2, .int l2), (3, .int l3), (4, .int l4), (7, .long l7), (9, .int l9)] [.int s0.toInt32, .int (l2 + (3 : Int32)), .ref 98] m Q
        refine y_headS (l2 := [(0, .ref 58), (2, .int l2), (3, .int l3), (7, .long l7)]) [1, 3, 4, 6] [0, 2, 3, 7] [10, 0, 1, 2, 3, 4, 7, 9] rfl rfl (by decide) rfl (by decide) ?_
        exact H
set_option maxRecDepth 20000 in
/-- CodeMakerModel.runTimer from 136 on -/
theorem w400_136 (xs : List Int32) (d : Nat) (l2 : Int32) (l3 : Int32) (l7 : Int64) (s1 : Int32) (m : yM) (Q : Option Value → yM → Prop) (H : yP (xg xs) (d + 1) 400 137 [(0, .ref 58), (2, .int l2), (3, .int l3), (7, .long l7)] [.int (0 : Int32), .int s1, .ref 98] m Q) : yP (xg xs) (d + 1) 400 136 [(0, .ref 58), (2, .int l2), (3, .int l3), (7, .long l7)] [.int s1, .ref 98] m Q := by
  refine y_st rfl rfl rfl rfl rfl (fun _ _ => rfl) ?_
  show yP (xg xs) (d + 1) 400 137 [(0, .ref 58), (2, .int l2), (3, .int l3), (7, .long l7)] [.int (0 : Int32), .int s1, .ref 98] m Q
  exact H
set_option maxRecDepth 20000 in
/-- CodeMakerModel.runTimer from 137 on -/
theorem w400_137 (xs : List Int32) (d : Nat) (l2 : Int32) (l3 : Int32) (l7 : Int64) (s1 : Int32) (s2 : Int32) (m : yM) (Q : Option Value → yM → Prop) (H : (x_in s1 8192 = true ∧ ((l3 = 0 → yP (xg xs) (d + 1) 400 168 [(0, .ref 58), (2, .int l2), (3, .int l3)] [.int (l2 + (2 : Int32)), .ref 98] (y_si m 98 s1.toNatClampNeg s2) Q) ∧ (¬ l3 = 0 → (x_in (l2 + (3 : Int32)) 8192 = true ∧ (((lg_cmp (((y_si m 98 s1.toNatClampNeg s2).1 98 ((l2 + (3 : Int32)).toNatClampNeg)).toInt64) l7) < 0 → yP (xg xs) (d + 1) 400 168 [(0, .ref 58), (2, .int l2), (3, .int l3)] [.int (l2 + (2 : Int32)), .ref 98] (y_si m 98 s1.toNatClampNeg s2) Q) ∧ (¬ (lg_cmp (((y_si m 98 s1.toNatClampNeg s2).1 98 ((l2 + (3 : Int32)).toNatClampNeg)).toInt64) l7) < 0 → yP (xg xs) (d + 1) 400 169 [(0, .ref 58), (2, .int l2), (3, .int l3)] [.int (1 : Int32), .int (l2 + (2 : Int32)), .ref 98] (y_si m 98 s1.toNatClampNeg s2) Q))))))) : yP (xg xs) (d + 1) 400 137 [(0, .ref 58), (2, .int l2), (3, .int l3), (7, .long l7)] [.int s2, .int s1, .ref 98] m Q := by
  show yP (xg xs) (d + 1) 400 137 [(0, .ref 58), (2, .int l2), (3, .int l3), (7, .long l7)] [.int s2, .int s1, .ref 98] m Q
  refine y_iast rfl rfl rfl (H.1) ?_
  replace H := H.2
  refine y_st rfl rfl rfl rfl rfl (fun _ _ => rfl) ?_
  refine y_gf rfl rfl rfl rfl rfl ?_
  refine y_st rfl rfl rfl rfl rfl (fun _ _ => rfl) ?_
  refine y_st rfl rfl rfl rfl rfl (fun _ _ => rfl) ?_
  refine y_st rfl rfl rfl rfl rfl (fun _ _ => rfl) ?_
  refine y_st rfl rfl rfl rfl rfl (fun _ _ => rfl) ?_
  show yP (xg xs) (d + 1) 400 146 [(0, .ref 58), (2, .int l2), (3, .int l3), (7, .long l7)] [.int l3, .int (l2 + (2 : Int32)), .ref 98] (y_si m 98 s1.toNatClampNeg s2) Q
  refine y_zeq (t := 168) rfl rfl rfl (fun h => ?_) (fun h => ?_)
  · replace H := H.1 h; clear h
    show yP (xg xs) (d + 1) 400 168 [(0, .ref 58), (2, .int l2), (3, .int l3), (7, .long l7)] [.int (l2 + (2 : Int32)), .ref 98] (y_si m 98 s1.toNatClampNeg s2) Q
    refine y_headS (l2 := [(0, .ref 58), (2, .int l2), (3, .int l3)]) [0, 1, 2] [0, 2, 3] [0, 2, 3, 7] rfl rfl (by decide) rfl (by decide) ?_
    exact H
  · replace H := H.2 h; clear h
    refine y_st rfl rfl rfl rfl rfl (fun _ _ => rfl) ?_
    refine y_gf rfl rfl rfl rfl rfl ?_
    refine y_st rfl rfl rfl rfl rfl (fun _ _ => rfl) ?_
    refine y_st rfl rfl rfl rfl rfl (fun _ _ => rfl) ?_
    refine y_st rfl rfl rfl rfl rfl (fun _ _ => rfl) ?_
    show yP (xg xs) (d + 1) 400 156 [(0, .ref 58), (2, .int l2), (3, .int l3), (7, .long l7)] [.int (l2 + (3 : Int32)), .ref 98, .int (l2 + (2 : Int32)), .ref 98] (y_si m 98 s1.toNatClampNeg s2) Q
    refine y_iald rfl rfl rfl (H.1) ?_
    replace H := H.2
    refine y_st rfl rfl rfl rfl rfl (fun _ _ => rfl) ?_
    refine y_st rfl rfl rfl rfl rfl (fun _ _ => rfl) ?_
    refine y_st rfl rfl rfl rfl rfl (fun _ _ => rfl) ?_
    show yP (xg xs) (d + 1) 400 161 [(0, .ref 58), (2, .int l2), (3, .int l3), (7, .long l7)] [.int (lg_cmp (((y_si m 98 s1.toNatClampNeg s2).1 98 ((l2 + (3 : Int32)).toNatClampNeg)).toInt64) l7), .int (l2 + (2 : Int32)), .ref 98] (y_si m 98 s1.toNatClampNeg s2) Q
    refine y_zlt (t := 168) rfl rfl rfl (fun h => ?_) (fun h => ?_)
    · replace H := H.1 h; clear h
      show yP (xg xs) (d + 1) 400 168 [(0, .ref 58), (2, .int l2), (3, .int l3), (7, .long l7)] [.int (l2 + (2 : Int32)), .ref 98] (y_si m 98 s1.toNatClampNeg s2) Q
      refine y_headS (l2 := [(0, .ref 58), (2, .int l2), (3, .int l3)]) [0, 1, 2] [0, 2, 3] [0, 2, 3, 7] rfl rfl (by decide) rfl (by decide) ?_
      exact H
    · replace H := H.2 h; clear h
      refine y_st rfl rfl rfl rfl rfl (fun _ _ => rfl) ?_
      refine y_st rfl rfl rfl rfl rfl (fun _ _ => rfl) ?_
      show yP (xg xs) (d + 1) 400 169 [(0, .ref 58), (2, .int l2), (3, .int l3), (7, .long l7)] [.int (1 : Int32), .int (l2 + (2 : Int32)), .ref 98] (y_si m 98 s1.toNatClampNeg s2) Q
      refine y_headS (l2 := [(0, .ref 58), (2, .int l2), (3, .int l3)]) [0, 1, 2] [0, 2, 3] [0, 2, 3, 7] rfl rfl (by decide) rfl (by decide) ?_
      exact H
set_option maxRecDepth 20000 in
/-- CodeMakerModel.runTimer from 168 on -/
theorem w400_168 (xs : List Int32) (d : Nat) (l2 : Int32) (l3 : Int32) (s1 : Int32) (m : yM) (Q : Option Value → yM → Prop) (H : yP (xg xs) (d + 1) 400 169 [(0, .ref 58), (2, .int l2), (3, .int l3)] [.int (0 : Int32), .int s1, .ref 98] m Q) : yP (xg xs) (d + 1) 400 168 [(0, .ref 58), (2, .int l2), (3, .int l3)] [.int s1, .ref 98] m Q := by
  refine y_st rfl rfl rfl rfl rfl (fun _ _ => rfl) ?_
  show yP (xg xs) (d + 1) 400 169 [(0, .ref 58), (2, .int l2), (3, .int l3)] [.int (0 : Int32), .int s1, .ref 98] m Q
  exact H
set_option maxRecDepth 20000 in
/-- CodeMakerModel.runTimer from 169 on -/
theorem w400_169 (xs : List Int32) (d : Nat) (l2 : Int32) (l3 : Int32) (s1 : Int32) (s2 : Int32) (m : yM) (Q : Option Value → yM → Prop) (H : (yC (xg xs) d 401 [.int s2] m (fun v1 m1 => ∃ u1, v1 = some (Value.int u1) ∧ (x_in s1 8192 = true ∧ yP (xg xs) (d + 1) 400 402 [(0, .ref 58), (2, .int l2), (3, .int l3)] [] (y_si m1 98 s1.toNatClampNeg u1) Q)))) : yP (xg xs) (d + 1) 400 169 [(0, .ref 58), (2, .int l2), (3, .int l3)] [.int s2, .int s1, .ref 98] m Q := by
  show yP (xg xs) (d + 1) 400 169 [(0, .ref 58), (2, .int l2), (3, .int l3)] [.int s2, .int s1, .ref 98] m Q
  refine y_call rfl rfl rfl rfl rfl (Nat.le_of_ble_eq_true rfl) (Nat.le_of_ble_eq_true rfl) rfl (by decide) H (fun v1 m1 H => ?_)
  obtain ⟨u1, rfl, H⟩ := H
  show yP (xg xs) (d + 1) 400 172 [(0, .ref 58), (2, .int l2), (3, .int l3)] [.int u1, .int s1, .ref 98] m1 Q
  refine y_iast rfl rfl rfl (H.1) ?_
  replace H := H.2
  refine y_st rfl rfl rfl rfl rfl (fun _ _ => rfl) ?_
  show yP (xg xs) (d + 1) 400 402 [(0, .ref 58), (2, .int l2), (3, .int l3)] [] (y_si m1 98 s1.toNatClampNeg u1) Q
  exact H
set_option maxRecDepth 20000 in
/-- CodeMakerModel.runTimer from 190 on -/
theorem w400_190 (xs : List Int32) (d : Nat) (l2 : Int32) (l3 : Int32) (l7 : Int64) (m : yM) (Q : Option Value → yM → Prop) (H : (x_in (l2 + (3 : Int32)) 8192 = true ∧ ((¬ l3 = 0 → yP (xg xs) (d + 1) 400 217 [(0, .ref 58), (2, .int l2), (3, .int l3)] [.int (l2 + (2 : Int32)), .ref 98] (y_si m 98 ((l2 + (3 : Int32)).toNatClampNeg) (0 : Int32)) Q) ∧ (l3 = 0 → (((lg_cmp l7 (0 : Int64)) ≤ 0 → yP (xg xs) (d + 1) 400 222 [(0, .ref 58), (2, .int l2), (3, .int l3)] [.int (0 : Int32), .int (l2 + (2 : Int32)), .ref 98] (y_si m 98 ((l2 + (3 : Int32)).toNatClampNeg) (0 : Int32)) Q) ∧ (¬ (lg_cmp l7 (0 : Int64)) ≤ 0 → yP (xg xs) (d + 1) 400 217 [(0, .ref 58), (2, .int l2), (3, .int l3)] [.int (l2 + (2 : Int32)), .ref 98] (y_si m 98 ((l2 + (3 : Int32)).toNatClampNeg) (0 : Int32)) Q)))))) : yP (xg xs) (d + 1) 400 190 [(0, .ref 58), (2, .int l2), (3, .int l3), (7, .long l7)] [] m Q := by
  refine y_st rfl rfl rfl rfl rfl (fun _ _ => rfl) ?_
  refine y_gf rfl rfl rfl rfl rfl ?_
  refine y_st rfl rfl rfl rfl rfl (fun _ _ => rfl) ?_
  refine y_st rfl rfl rfl rfl rfl (fun _ _ => rfl) ?_
  refine y_st rfl rfl rfl rfl rfl (fun _ _ => rfl) ?_
  refine y_st rfl rfl rfl rfl rfl (fun _ _ => rfl) ?_
  show yP (xg xs) (d + 1) 400 198 [(0, .ref 58), (2, .int l2), (3, .int l3), (7, .long l7)] [.int (0 : Int32), .int (l2 + (3 : Int32)), .ref 98] m Q
  refine y_iast rfl rfl rfl (H.1) ?_
  replace H := H.2
  refine y_st rfl rfl rfl rfl rfl (fun _ _ => rfl) ?_
  refine y_gf rfl rfl rfl rfl rfl ?_
  refine y_st rfl rfl rfl rfl rfl (fun _ _ => rfl) ?_
  refine y_st rfl rfl rfl rfl rfl (fun _ _ => rfl) ?_
  refine y_st rfl rfl rfl rfl rfl (fun _ _ => rfl) ?_
  refine y_st rfl rfl rfl rfl rfl (fun _ _ => rfl) ?_
  show yP (xg xs) (d + 1) 400 207 [(0, .ref 58), (2, .int l2), (3, .int l3), (7, .long l7)] [.int l3, .int (l2 + (2 : Int32)), .ref 98] (y_si m 98 ((l2 + (3 : Int32)).toNatClampNeg) (0 : Int32)) Q
  refine y_zne (t := 217) rfl rfl rfl (fun h => ?_) (fun h => ?_)
  · replace H := H.1 h; clear h
    show yP (xg xs) (d + 1) 400 217 [(0, .ref 58), (2, .int l2), (3, .int l3), (7, .long l7)] [.int (l2 + (2 : Int32)), .ref 98] (y_si m 98 ((l2 + (3 : Int32)).toNatClampNeg) (0 : Int32)) Q
    refine y_headS (l2 := [(0, .ref 58), (2, .int l2), (3, .int l3)]) [0, 1, 2] [0, 2, 3] [0, 2, 3, 7] rfl rfl (by decide) rfl (by decide) ?_
    exact H
  · replace H := H.2 h; clear h
    refine y_st rfl rfl rfl rfl rfl (fun _ _ => rfl) ?_
    refine y_st rfl rfl rfl rfl rfl (fun _ _ => rfl) ?_
    refine y_st rfl rfl rfl rfl rfl (fun _ _ => rfl) ?_
    show yP (xg xs) (d + 1) 400 214 [(0, .ref 58), (2, .int l2), (3, .int l3), (7, .long l7)] [.int (lg_cmp l7 (0 : Int64)), .int (l2 + (2 : Int32)), .ref 98] (y_si m 98 ((l2 + (3 : Int32)).toNatClampNeg) (0 : Int32)) Q
    refine y_zle (t := 221) rfl rfl rfl (fun h => ?_) (fun h => ?_)
    · replace H := H.1 h; clear h
      refine y_st rfl rfl rfl rfl rfl (fun _ _ => rfl) ?_
      show yP (xg xs) (d + 1) 400 222 [(0, .ref 58), (2, .int l2), (3, .int l3), (7, .long l7)] [.int (0 : Int32), .int (l2 + (2 : Int32)), .ref 98] (y_si m 98 ((l2 + (3 : Int32)).toNatClampNeg) (0 : Int32)) Q
      refine y_headS (l2 := [(0, .ref 58), (2, .int l2), (3, .int l3)]) [0, 1, 2] [0, 2, 3] [0, 2, 3, 7] rfl rfl (by decide) rfl (by decide) ?_
      exact H
    · replace H := H.2 h; clear h
      show yP (xg xs) (d + 1) 400 217 [(0, .ref 58), (2, .int l2), (3, .int l3), (7, .long l7)] [.int (l2 + (2 : Int32)), .ref 98] (y_si m 98 ((l2 + (3 : Int32)).toNatClampNeg) (0 : Int32)) Q
      refine y_headS (l2 := [(0, .ref 58), (2, .int l2), (3, .int l3)]) [0, 1, 2] [0, 2, 3] [0, 2, 3, 7] rfl rfl (by decide) rfl (by decide) ?_
      exact H
set_option maxRecDepth 20000 in
/-- CodeMakerModel.runTimer from 217 on -/
theorem w400_217 (xs : List Int32) (d : Nat) (l2 : Int32) (l3 : Int32) (s1 : Int32) (m : yM) (Q : Option Value → yM → Prop) (H : yP (xg xs) (d + 1) 400 222 [(0, .ref 58), (2, .int l2), (3, .int l3)] [.int (1 : Int32), .int s1, .ref 98] m Q) : yP (xg xs) (d + 1) 400 217 [(0, .ref 58), (2, .int l2), (3, .int l3)] [.int s1, .ref 98] m Q := by
  refine y_st rfl rfl rfl rfl rfl (fun _ _ => rfl) ?_
  refine y_st rfl rfl rfl rfl rfl (fun _ _ => rfl) ?_
  show yP (xg xs) (d + 1) 400 222 [(0, .ref 58), (2, .int l2), (3, .int l3)] [.int (1 : Int32), .int s1, .ref 98] m Q
  exact H
set_option maxRecDepth 20000 in
/-- CodeMakerModel.runTimer from 222 on -/
theorem w400_222 (xs : List Int32) (d : Nat) (l2 : Int32) (l3 : Int32) (s1 : Int32) (s2 : Int32) (m : yM) (Q : Option Value → yM → Prop) (H : (yC (xg xs) d 401 [.int s2] m (fun v1 m1 => ∃ u1, v1 = some (Value.int u1) ∧ (x_in s1 8192 = true ∧ yP (xg xs) (d + 1) 400 402 [(0, .ref 58), (2, .int l2), (3, .int l3)] [] (y_si m1 98 s1.toNatClampNeg u1) Q)))) : yP (xg xs) (d + 1) 400 222 [(0, .ref 58), (2, .int l2), (3, .int l3)] [.int s2, .int s1, .ref 98] m Q := by
  show yP (xg xs) (d + 1) 400 222 [(0, .ref 58), (2, .int l2), (3, .int l3)] [.int s2, .int s1, .ref 98] m Q
  refine y_call rfl rfl rfl rfl rfl (Nat.le_of_ble_eq_true rfl) (Nat.le_of_ble_eq_true rfl) rfl (by decide) H (fun v1 m1 H => ?_)
  obtain ⟨u1, rfl, H⟩ := H
  show yP (xg xs) (d + 1) 400 225 [(0, .ref 58), (2, .int l2), (3, .int l3)] [.int u1, .int s1, .ref 98] m1 Q
  refine y_iast rfl rfl rfl (H.1) ?_
  replace H := H.2
  refine y_st rfl rfl rfl rfl rfl (fun _ _ => rfl) ?_
  show yP (xg xs) (d + 1) 400 402 [(0, .ref 58), (2, .int l2), (3, .int l3)] [] (y_si m1 98 s1.toNatClampNeg u1) Q
  exact H
set_option maxRecDepth 20000 in
/-- CodeMakerModel.runTimer from 272 on -/
theorem w400_272 (xs : List Int32) (d : Nat) (l2 : Int32) (l3 : Int32) (s1 : Int32) (s2 : Int32) (m : yM) (Q : Option Value → yM → Prop) (H : (yC (xg xs) d 401 [.int s2] m (fun v1 m1 => ∃ u1, v1 = some (Value.int u1) ∧ (x_in s1 8192 = true ∧ yP (xg xs) (d + 1) 400 402 [(0, .ref 58), (2, .int l2), (3, .int l3)] [] (y_si m1 98 s1.toNatClampNeg u1) Q)))) : yP (xg xs) (d + 1) 400 272 [(0, .ref 58), (2, .int l2), (3, .int l3)] [.int s2, .int s1, .ref 98] m Q := by
  show yP (xg xs) (d + 1) 400 272 [(0, .ref 58), (2, .int l2), (3, .int l3)] [.int s2, .int s1, .ref 98] m Q
  refine y_call rfl rfl rfl rfl rfl (Nat.le_of_ble_eq_true rfl) (Nat.le_of_ble_eq_true rfl) rfl (by decide) H (fun v1 m1 H => ?_)
  obtain ⟨u1, rfl, H⟩ := H
  show yP (xg xs) (d + 1) 400 275 [(0, .ref 58), (2, .int l2), (3, .int l3)] [.int u1, .int s1, .ref 98] m1 Q
  refine y_iast rfl rfl rfl (H.1) ?_
  replace H := H.2
  refine y_st rfl rfl rfl rfl rfl (fun _ _ => rfl) ?_
  show yP (xg xs) (d + 1) 400 402 [(0, .ref 58), (2, .int l2), (3, .int l3)] [] (y_si m1 98 s1.toNatClampNeg u1) Q
  exact H
set_option maxRecDepth 20000 in
/-- CodeMakerModel.runTimer from 329 on -/
theorem w400_329 (xs : List Int32) (d : Nat) (l2 : Int32) (l3 : Int32) (l4 : Int32) (l7 : Int64) (s1 : Int32) (s2 : Int32) (m : yM) (Q : Option Value → yM → Prop) (H : (x_in s1 8192 = true ∧ yP (xg xs) (d + 1) 400 330 [(0, .ref 58), (2, .int l2), (3, .int l3), (4, .int l4), (7, .long l7)] [] (y_si m 98 s1.toNatClampNeg s2) Q)) : yP (xg xs) (d + 1) 400 329 [(0, .ref 58), (2, .int l2), (3, .int l3), (4, .int l4), (7, .long l7)] [.int s2, .int s1, .ref 98] m Q := by
  show yP (xg xs) (d + 1) 400 329 [(0, .ref 58), (2, .int l2), (3, .int l3), (4, .int l4), (7, .long l7)] [.int s2, .int s1, .ref 98] m Q
  refine y_iast rfl rfl rfl (H.1) ?_
  replace H := H.2
  show yP (xg xs) (d + 1) 400 330 [(0, .ref 58), (2, .int l2), (3, .int l3), (4, .int l4), (7, .long l7)] [] (y_si m 98 s1.toNatClampNeg s2) Q
  exact H
set_option maxRecDepth 20000 in
/-- CodeMakerModel.runTimer from 330 on -/
theorem w400_330 (xs : List Int32) (d : Nat) (l2 : Int32) (l3 : Int32) (l4 : Int32) (l7 : Int64) (m : yM) (Q : Option Value → yM → Prop) (H : (x_in (l2 + (2 : Int32)) 8192 = true ∧ ((¬ (m.1 98 ((l2 + (2 : Int32)).toNatClampNeg)) = 0 → yP (xg xs) (d + 1) 400 402 [(0, .ref 58), (2, .int l2), (3, .int l3)] [] m Q) ∧ ((m.1 98 ((l2 + (2 : Int32)).toNatClampNeg)) = 0 → ((l3 = 0 → yP (xg xs) (d + 1) 400 368 [(0, .ref 58), (2, .int l2), (3, .int l3), (4, .int l4)] [.int (l2 + (2 : Int32)), .ref 98] m Q) ∧ (¬ l3 = 0 → ((¬ l4 = 0 → yP (xg xs) (d + 1) 400 368 [(0, .ref 58), (2, .int l2), (3, .int l3), (4, .int l4)] [.int (l2 + (2 : Int32)), .ref 98] m Q) ∧ (l4 = 0 → (((lg_cmp l7 (0 : Int64)) ≤ 0 → yP (xg xs) (d + 1) 400 368 [(0, .ref 58), (2, .int l2), (3, .int l3), (4, .int l4)] [.int (l2 + (2 : Int32)), .ref 98] m Q) ∧ (¬ (lg_cmp l7 (0 : Int64)) ≤ 0 → yP (xg xs) (d + 1) 400 369 [(0, .ref 58), (2, .int l2), (3, .int l3), (4, .int l4)] [.int (1 : Int32), .int (l2 + (2 : Int32)), .ref 98] m Q)))))))))) : yP (xg xs) (d + 1) 400 330 [(0, .ref 58), (2, .int l2), (3, .int l3), (4, .int l4), (7, .long l7)] [] m Q := by
  refine y_st rfl rfl rfl rfl rfl (fun _ _ => rfl) ?_
  refine y_gf rfl rfl rfl rfl rfl ?_
  refine y_st rfl rfl rfl rfl rfl (fun _ _ => rfl) ?_
  refine y_st rfl rfl rfl rfl rfl (fun _ _ => rfl) ?_
  refine y_st rfl rfl rfl rfl rfl (fun _ _ => rfl) ?_
  show yP (xg xs) (d + 1) 400 337 [(0, .ref 58), (2, .int l2), (3, .int l3), (4, .int l4), (7, .long l7)] [.int (l2 + (2 : Int32)), .ref 98] m Q
  refine y_iald rfl rfl rfl (H.1) ?_
  replace H := H.2
  show yP (xg xs) (d + 1) 400 338 [(0, .ref 58), (2, .int l2), (3, .int l3), (4, .int l4), (7, .long l7)] [.int (m.1 98 ((l2 + (2 : Int32)).toNatClampNeg))] m Q
  refine y_zne (t := 402) rfl rfl rfl (fun h => ?_) (fun h => ?_)
  · replace H := H.1 h; clear h
    show yP (xg xs) (d + 1) 400 402 [(0, .ref 58), (2, .int l2), (3, .int l3), (4, .int l4), (7, .long l7)] [] m Q
    refine y_headS (l2 := [(0, .ref 58), (2, .int l2), (3, .int l3)]) [0, 1, 2] [0, 2, 3] [0, 2, 3, 4, 7] rfl rfl (by decide) rfl (by decide) ?_
    exact H
  · replace H := H.2 h; clear h
    refine y_st rfl rfl rfl rfl rfl (fun _ _ => rfl) ?_
    refine y_gf rfl rfl rfl rfl rfl ?_
    refine y_st rfl rfl rfl rfl rfl (fun _ _ => rfl) ?_
    refine y_st rfl rfl rfl rfl rfl (fun _ _ => rfl) ?_
    refine y_st rfl rfl rfl rfl rfl (fun _ _ => rfl) ?_
    refine y_st rfl rfl rfl rfl rfl (fun _ _ => rfl) ?_
    show yP (xg xs) (d + 1) 400 349 [(0, .ref 58), (2, .int l2), (3, .int l3), (4, .int l4), (7, .long l7)] [.int l3, .int (l2 + (2 : Int32)), .ref 98] m Q
    refine y_zeq (t := 368) rfl rfl rfl (fun h => ?_) (fun h => ?_)
    · replace H := H.1 h; clear h
      show yP (xg xs) (d + 1) 400 368 [(0, .ref 58), (2, .int l2), (3, .int l3), (4, .int l4), (7, .long l7)] [.int (l2 + (2 : Int32)), .ref 98] m Q
      refine y_headS (l2 := [(0, .ref 58), (2, .int l2), (3, .int l3), (4, .int l4)]) [0, 1, 2, 3] [0, 2, 3, 4] [0, 2, 3, 4, 7] rfl rfl (by decide) rfl (by decide) ?_
      exact H
    · replace H := H.2 h; clear h
      refine y_st rfl rfl rfl rfl rfl (fun _ _ => rfl) ?_
      show yP (xg xs) (d + 1) 400 354 [(0, .ref 58), (2, .int l2), (3, .int l3), (4, .int l4), (7, .long l7)] [.int l4, .int (l2 + (2 : Int32)), .ref 98] m Q
      refine y_zne (t := 368) rfl rfl rfl (fun h => ?_) (fun h => ?_)
      · replace H := H.1 h; clear h
        show yP (xg xs) (d + 1) 400 368 [(0, .ref 58), (2, .int l2), (3, .int l3), (4, .int l4), (7, .long l7)] [.int (l2 + (2 : Int32)), .ref 98] m Q
        refine y_headS (l2 := [(0, .ref 58), (2, .int l2), (3, .int l3), (4, .int l4)]) [0, 1, 2, 3] [0, 2, 3, 4] [0, 2, 3, 4, 7] rfl rfl (by decide) rfl (by decide) ?_
        exact H
      · replace H := H.2 h; clear h
        refine y_st rfl rfl rfl rfl rfl (fun _ _ => rfl) ?_
        refine y_st rfl rfl rfl rfl rfl (fun _ _ => rfl) ?_
        refine y_st rfl rfl rfl rfl rfl (fun _ _ => rfl) ?_
        show yP (xg xs) (d + 1) 400 361 [(0, .ref 58), (2, .int l2), (3, .int l3), (4, .int l4), (7, .long l7)] [.int (lg_cmp l7 (0 : Int64)), .int (l2 + (2 : Int32)), .ref 98] m Q
        refine y_zle (t := 368) rfl rfl rfl (fun h => ?_) (fun h => ?_)
        · replace H := H.1 h; clear h
          show yP (xg xs) (d + 1) 400 368 [(0, .ref 58), (2, .int l2), (3, .int l3), (4, .int l4), (7, .long l7)] [.int (l2 + (2 : Int32)), .ref 98] m Q
          refine y_headS (l2 := [(0, .ref 58), (2, .int l2), (3, .int l3), (4, .int l4)]) [0, 1, 2, 3] [0, 2, 3, 4] [0, 2, 3, 4, 7] rfl rfl (by decide) rfl (by decide) ?_
          exact H
        · replace H := H.2 h; clear h
          refine y_st rfl rfl rfl rfl rfl (fun _ _ => rfl) ?_
          refine y_st rfl rfl rfl rfl rfl (fun _ _ => rfl) ?_
          show yP (xg xs) (d + 1) 400 369 [(0, .ref 58), (2, .int l2), (3, .int l3), (4, .int l4), (7, .long l7)] [.int (1 : Int32), .int (l2 + (2 : Int32)), .ref 98] m Q
          refine y_headS (l2 := [(0, .ref 58), (2, .int l2), (3, .int l3), (4, .int l4)]) [0, 1, 2, 3] [0, 2, 3, 4] [0, 2, 3, 4, 7] rfl rfl (by decide) rfl (by decide) ?_
          exact H
set_option maxRecDepth 20000 in
/-- CodeMakerModel.runTimer from 368 on -/
theorem w400_368 (xs : List Int32) (d : Nat) (l2 : Int32) (l3 : Int32) (l4 : Int32) (s1 : Int32) (m : yM) (Q : Option Value → yM → Prop) (H : yP (xg xs) (d + 1) 400 369 [(0, .ref 58), (2, .int l2), (3, .int l3), (4, .int l4)] [.int (0 : Int32), .int s1, .ref 98] m Q) : yP (xg xs) (d + 1) 400 368 [(0, .ref 58), (2, .int l2), (3, .int l3), (4, .int l4)] [.int s1, .ref 98] m Q := by
  refine y_st rfl rfl rfl rfl rfl (fun _ _ => rfl) ?_
  show yP (xg xs) (d + 1) 400 369 [(0, .ref 58), (2, .int l2), (3, .int l3), (4, .int l4)] [.int (0 : Int32), .int s1, .ref 98] m Q
  exact H
set_option maxRecDepth 20000 in
/-- CodeMakerModel.runTimer from 369 on -/
theorem w400_369 (xs : List Int32) (d : Nat) (l2 : Int32) (l3 : Int32) (l4 : Int32) (s1 : Int32) (s2 : Int32) (m : yM) (Q : Option Value → yM → Prop) (H : (yC (xg xs) d 401 [.int s2] m (fun v1 m1 => ∃ u1, v1 = some (Value.int u1) ∧ (x_in s1 8192 = true ∧ ((l3 = 0 → yP (xg xs) (d + 1) 400 389 [(0, .ref 58), (2, .int l2), (3, .int l3)] [.int (l2 + (3 : Int32)), .ref 98] (y_si m1 98 s1.toNatClampNeg u1) Q) ∧ (¬ l3 = 0 → ((¬ l4 = 0 → (x_in (l2 + (3 : Int32)) 8192 = true ∧ yP (xg xs) (d + 1) 400 401 [(0, .ref 58), (2, .int l2), (3, .int l3)] [.int ((y_si m1 98 s1.toNatClampNeg u1).1 98 ((l2 + (3 : Int32)).toNatClampNeg)), .int (l2 + (3 : Int32)), .ref 98] (y_si m1 98 s1.toNatClampNeg u1) Q)) ∧ (l4 = 0 → yP (xg xs) (d + 1) 400 389 [(0, .ref 58), (2, .int l2), (3, .int l3)] [.int (l2 + (3 : Int32)), .ref 98] (y_si m1 98 s1.toNatClampNeg u1) Q)))))))) : yP (xg xs) (d + 1) 400 369 [(0, .ref 58), (2, .int l2), (3, .int l3), (4, .int l4)] [.int s2, .int s1, .ref 98] m Q := by
  show yP (xg xs) (d + 1) 400 369 [(0, .ref 58), (2, .int l2), (3, .int l3), (4, .int l4)] [.int s2, .int s1, .ref 98] m Q
  refine y_call rfl rfl rfl rfl rfl (Nat.le_of_ble_eq_true rfl) (Nat.le_of_ble_eq_true rfl) rfl (by decide) H (fun v1 m1 H => ?_)
  obtain ⟨u1, rfl, H⟩ := H
  show yP (xg xs) (d + 1) 400 372 [(0, .ref 58), (2, .int l2), (3, .int l3), (4, .int l4)] [.int u1, .int s1, .ref 98] m1 Q
  refine y_iast rfl rfl rfl (H.1) ?_
  replace H := H.2
  refine y_st rfl rfl rfl rfl rfl (fun _ _ => rfl) ?_
  refine y_gf rfl rfl rfl rfl rfl ?_
  refine y_st rfl rfl rfl rfl rfl (fun _ _ => rfl) ?_
  refine y_st rfl rfl rfl rfl rfl (fun _ _ => rfl) ?_
  refine y_st rfl rfl rfl rfl rfl (fun _ _ => rfl) ?_
  refine y_st rfl rfl rfl rfl rfl (fun _ _ => rfl) ?_
  show yP (xg xs) (d + 1) 400 381 [(0, .ref 58), (2, .int l2), (3, .int l3), (4, .int l4)] [.int l3, .int (l2 + (3 : Int32)), .ref 98] (y_si m1 98 s1.toNatClampNeg u1) Q
  refine y_zeq (t := 389) rfl rfl rfl (fun h => ?_) (fun h => ?_)
  · replace H := H.1 h; clear h
    show yP (xg xs) (d + 1) 400 389 [(0, .ref 58), (2, .int l2), (3, .int l3), (4, .int l4)] [.int (l2 + (3 : Int32)), .ref 98] (y_si m1 98 s1.toNatClampNeg u1) Q
    refine y_headS (l2 := [(0, .ref 58), (2, .int l2), (3, .int l3)]) [0, 1, 2] [0, 2, 3] [0, 2, 3, 4] rfl rfl (by decide) rfl (by decide) ?_
    exact H
  · replace H := H.2 h; clear h
    refine y_st rfl rfl rfl rfl rfl (fun _ _ => rfl) ?_
    show yP (xg xs) (d + 1) 400 386 [(0, .ref 58), (2, .int l2), (3, .int l3), (4, .int l4)] [.int l4, .int (l2 + (3 : Int32)), .ref 98] (y_si m1 98 s1.toNatClampNeg u1) Q
    refine y_zne (t := 393) rfl rfl rfl (fun h => ?_) (fun h => ?_)
    · replace H := H.1 h; clear h
      refine y_st rfl rfl rfl rfl rfl (fun _ _ => rfl) ?_
      refine y_gf rfl rfl rfl rfl rfl ?_
      refine y_st rfl rfl rfl rfl rfl (fun _ _ => rfl) ?_
      refine y_st rfl rfl rfl rfl rfl (fun _ _ => rfl) ?_
      refine y_st rfl rfl rfl rfl rfl (fun _ _ => rfl) ?_
      show yP (xg xs) (d + 1) 400 400 [(0, .ref 58), (2, .int l2), (3, .int l3), (4, .int l4)] [.int (l2 + (3 : Int32)), .ref 98, .int (l2 + (3 : Int32)), .ref 98] (y_si m1 98 s1.toNatClampNeg u1) Q
      refine y_iald rfl rfl rfl (H.1) ?_
      replace H := H.2
      show yP (xg xs) (d + 1) 400 401 [(0, .ref 58), (2, .int l2), (3, .int l3), (4, .int l4)] [.int ((y_si m1 98 s1.toNatClampNeg u1).1 98 ((l2 + (3 : Int32)).toNatClampNeg)), .int (l2 + (3 : Int32)), .ref 98] (y_si m1 98 s1.toNatClampNeg u1) Q
      refine y_headS (l2 := [(0, .ref 58), (2, .int l2), (3, .int l3)]) [0, 1, 2] [0, 2, 3] [0, 2, 3, 4] rfl rfl (by decide) rfl (by decide) ?_
      exact H
    · replace H := H.2 h; clear h
      show yP (xg xs) (d + 1) 400 389 [(0, .ref 58), (2, .int l2), (3, .int l3), (4, .int l4)] [.int (l2 + (3 : Int32)), .ref 98] (y_si m1 98 s1.toNatClampNeg u1) Q
      refine y_headS (l2 := [(0, .ref 58), (2, .int l2), (3, .int l3)]) [0, 1, 2] [0, 2, 3] [0, 2, 3, 4] rfl rfl (by decide) rfl (by decide) ?_
      exact H
set_option maxRecDepth 20000 in
/-- CodeMakerModel.runTimer from 389 on -/
theorem w400_389 (xs : List Int32) (d : Nat) (l2 : Int32) (l3 : Int32) (s1 : Int32) (m : yM) (Q : Option Value → yM → Prop) (H : yP (xg xs) (d + 1) 400 401 [(0, .ref 58), (2, .int l2), (3, .int l3)] [.int (0 : Int32), .int s1, .ref 98] m Q) : yP (xg xs) (d + 1) 400 389 [(0, .ref 58), (2, .int l2), (3, .int l3)] [.int s1, .ref 98] m Q := by
  refine y_st rfl rfl rfl rfl rfl (fun _ _ => rfl) ?_
  refine y_st rfl rfl rfl rfl rfl (fun _ _ => rfl) ?_
  show yP (xg xs) (d + 1) 400 401 [(0, .ref 58), (2, .int l2), (3, .int l3)] [.int (0 : Int32), .int s1, .ref 98] m Q
  exact H
set_option maxRecDepth 20000 in
/-- CodeMakerModel.runTimer from 401 on -/
theorem w400_401 (xs : List Int32) (d : Nat) (l2 : Int32) (l3 : Int32) (s1 : Int32) (s2 : Int32) (m : yM) (Q : Option Value → yM → Prop) (H : (x_in s1 8192 = true ∧ yP (xg xs) (d + 1) 400 402 [(0, .ref 58), (2, .int l2), (3, .int l3)] [] (y_si m 98 s1.toNatClampNeg s2) Q)) : yP (xg xs) (d + 1) 400 401 [(0, .ref 58), (2, .int l2), (3, .int l3)] [.int s2, .int s1, .ref 98] m Q := by
  show yP (xg xs) (d + 1) 400 401 [(0, .ref 58), (2, .int l2), (3, .int l3)] [.int s2, .int s1, .ref 98] m Q
  refine y_iast rfl rfl rfl (H.1) ?_
  replace H := H.2
  show yP (xg xs) (d + 1) 400 402 [(0, .ref 58), (2, .int l2), (3, .int l3)] [] (y_si m 98 s1.toNatClampNeg s2) Q
  exact H
set_option maxRecDepth 20000 in
/-- CodeMakerModel.runTimer from 402 on -/
theorem w400_402 (xs : List Int32) (d : Nat) (l2 : Int32) (l3 : Int32) (m : yM) (Q : Option Value → yM → Prop) (H : (yC (xg xs) d 401 [.int l3] m (fun v1 m1 => ∃ u1, v1 = some (Value.int u1) ∧ (x_in (l2 + (4 : Int32)) 8192 = true ∧ (x_in (l2 + (5 : Int32)) 8192 = true ∧ Q none (y_si (y_si m1 98 ((l2 + (4 : Int32)).toNatClampNeg) u1) 98 ((l2 + (5 : Int32)).toNatClampNeg) (m1.1 58 64))))))) : yP (xg xs) (d + 1) 400 402 [(0, .ref 58), (2, .int l2), (3, .int l3)] [] m Q := by
  refine y_st rfl rfl rfl rfl rfl (fun _ _ => rfl) ?_
  refine y_gf rfl rfl rfl rfl rfl ?_
  refine y_st rfl rfl rfl rfl rfl (fun _ _ => rfl) ?_
  refine y_st rfl rfl rfl rfl rfl (fun _ _ => rfl) ?_
  refine y_st rfl rfl rfl rfl rfl (fun _ _ => rfl) ?_
  refine y_st rfl rfl rfl rfl rfl (fun _ _ => rfl) ?_
  show yP (xg xs) (d + 1) 400 410 [(0, .ref 58), (2, .int l2), (3, .int l3)] [.int l3, .int (l2 + (4 : Int32)), .ref 98] m Q
  refine y_call rfl rfl rfl rfl rfl (Nat.le_of_ble_eq_true rfl) (Nat.le_of_ble_eq_true rfl) rfl (by decide) H (fun v1 m1 H => ?_)
  obtain ⟨u1, rfl, H⟩ := H
  show yP (xg xs) (d + 1) 400 413 [(0, .ref 58), (2, .int l2), (3, .int l3)] [.int u1, .int (l2 + (4 : Int32)), .ref 98] m1 Q
  refine y_iast rfl rfl rfl (H.1) ?_
  replace H := H.2
  refine y_st rfl rfl rfl rfl rfl (fun _ _ => rfl) ?_
  refine y_gf rfl rfl rfl rfl rfl ?_
  refine y_st rfl rfl rfl rfl rfl (fun _ _ => rfl) ?_
  refine y_st rfl rfl rfl rfl rfl (fun _ _ => rfl) ?_
  refine y_st rfl rfl rfl rfl rfl (fun _ _ => rfl) ?_
  refine y_st rfl rfl rfl rfl rfl (fun _ _ => rfl) ?_
  refine y_gf rfl rfl rfl rfl rfl ?_
  show yP (xg xs) (d + 1) 400 425 [(0, .ref 58), (2, .int l2), (3, .int l3)] [.int (m1.1 58 64), .int (l2 + (5 : Int32)), .ref 98] (y_si m1 98 ((l2 + (4 : Int32)).toNatClampNeg) u1) Q
  refine y_iast rfl rfl rfl (H.1) ?_
  replace H := H.2
  show yP (xg xs) (d + 1) 400 426 [(0, .ref 58), (2, .int l2), (3, .int l3)] [] (y_si (y_si m1 98 ((l2 + (4 : Int32)).toNatClampNeg) u1) 98 ((l2 + (5 : Int32)).toNatClampNeg) (m1.1 58 64)) Q
  exact y_ret rfl rfl rfl rfl H
set_option maxRecDepth 20000 in
/-- CodeMakerModel.runCounter from 0 on -/
theorem w402_0 (xs : List Int32) (d : Nat) (l1 : Int32) (l2 : Int32) (l3 : Int32) (m : yM) (Q : Option Value → yM → Prop) (H : (x_in (l2 + (5 : Int32)) 8192 = true ∧ (((m.1 98 ((l2 + (5 : Int32)).toNatClampNeg)) = 0 → yP (xg xs) (d + 1) 402 16 [(0, .ref 58), (1, .int l1), (2, .int l2), (3, .int l3)] [.int (0 : Int32)] m Q) ∧ (¬ (m.1 98 ((l2 + (5 : Int32)).toNatClampNeg)) = 0 → yP (xg xs) (d + 1) 402 16 [(0, .ref 58), (1, .int l1), (2, .int l2), (3, .int l3)] [.int (1 : Int32)] m Q)))) : yP (xg xs) (d + 1) 402 0 [(0, .ref 58), (1, .int l1), (2, .int l2), (3, .int l3)] [] m Q := by
  refine y_st rfl rfl rfl rfl rfl (fun _ _ => rfl) ?_
  refine y_gf rfl rfl rfl rfl rfl ?_
  refine y_st rfl rfl rfl rfl rfl (fun _ _ => rfl) ?_
  refine y_st rfl rfl rfl rfl rfl (fun _ _ => rfl) ?_
  refine y_st rfl rfl rfl rfl rfl (fun _ _ => rfl) ?_
  show yP (xg xs) (d + 1) 402 7 [(0, .ref 58), (1, .int l1), (2, .int l2), (3, .int l3)] [.int (l2 + (5 : Int32)), .ref 98] m Q
  refine y_iald rfl rfl rfl (H.1) ?_
  replace H := H.2
  show yP (xg xs) (d + 1) 402 8 [(0, .ref 58), (1, .int l1), (2, .int l2), (3, .int l3)] [.int (m.1 98 ((l2 + (5 : Int32)).toNatClampNeg))] m Q
  refine y_zeq (t := 15) rfl rfl rfl (fun h => ?_) (fun h => ?_)
  · replace H := H.1 h; clear h
    refine y_st rfl rfl rfl rfl rfl (fun _ _ => rfl) ?_
    show yP (xg xs) (d + 1) 402 16 [(0, .ref 58), (1, .int l1), (2, .int l2), (3, .int l3)] [.int (0 : Int32)] m Q
    exact H
  · replace H := H.2 h; clear h
    refine y_st rfl rfl rfl rfl rfl (fun _ _ => rfl) ?_
    refine y_st rfl rfl rfl rfl rfl (fun _ _ => rfl) ?_
    show yP (xg xs) (d + 1) 402 16 [(0, .ref 58), (1, .int l1), (2, .int l2), (3, .int l3)] [.int (1 : Int32)] m Q
    exact H
set_option maxRecDepth 20000 in
/-- CodeMakerModel.runCounter from 16 on -/
theorem w402_16 (xs : List Int32) (d : Nat) (l1 : Int32) (l2 : Int32) (l3 : Int32) (s0 : Int32) (m : yM) (Q : Option Value → yM → Prop) (H : (x_in (l2 + (1 : Int32)) 8192 = true ∧ (((m.1 98 ((l2 + (1 : Int32)).toNatClampNeg)) = 0 → yP (xg xs) (d + 1) 402 34 [(0, .ref 58), (1, .int l1), (2, .int l2), (3, .int l3), (4, .int s0)] [.int (0 : Int32)] m Q) ∧ (¬ (m.1 98 ((l2 + (1 : Int32)).toNatClampNeg)) = 0 → yP (xg xs) (d + 1) 402 34 [(0, .ref 58), (1, .int l1), (2, .int l2), (3, .int l3), (4, .int s0)] [.int (1 : Int32)] m Q)))) : yP (xg xs) (d + 1) 402 16 [(0, .ref 58), (1, .int l1), (2, .int l2), (3, .int l3)] [.int s0] m Q := by
  refine y_st rfl rfl rfl rfl rfl (fun _ _ => rfl) ?_
  refine y_st rfl rfl rfl rfl rfl (fun _ _ => rfl) ?_
  refine y_gf rfl rfl rfl rfl rfl ?_
  refine y_st rfl rfl rfl rfl rfl (fun _ _ => rfl) ?_
  refine y_st rfl rfl rfl rfl rfl (fun _ _ => rfl) ?_
  refine y_st rfl rfl rfl rfl rfl (fun _ _ => rfl) ?_
  show yP (xg xs) (d + 1) 402 25 [(4, .int s0), (0, .ref 58), (1, .int l1), (2, .int l2), (3, .int l3)] [.int (l2 + (1 : Int32)), .ref 98] m Q
  refine y_iald rfl rfl rfl (H.1) ?_
  replace H := H.2
  show yP (xg xs) (d + 1) 402 26 [(4, .int s0), (0, .ref 58), (1, .int l1), (2, .int l2), (3, .int l3)] [.int (m.1 98 ((l2 + (1 : Int32)).toNatClampNeg))] m Q
  refine y_zeq (t := 33) rfl rfl rfl (fun h => ?_) (fun h => ?_)
  · replace H := H.1 h; clear h
    refine y_st rfl rfl rfl rfl rfl (fun _ _ => rfl) ?_
    show yP (xg xs) (d + 1) 402 34 [(4, .int s0), (0, .ref 58), (1, .int l1), (2, .int l2), (3, .int l3)] [.int (0 : Int32)] m Q
    refine y_headS (l2 := [(0, .ref 58), (1, .int l1), (2, .int l2), (3, .int l3), (4, .int s0)]) [1, 2, 3, 4, 0] [0, 1, 2, 3, 4] [4, 0, 1, 2, 3] rfl rfl (by decide) rfl (by decide) ?_
    exact H
  · replace H := H.2 h; clear h
    refine y_st rfl rfl rfl rfl rfl (fun _ _ => rfl) ?_
    refine y_st rfl rfl rfl rfl rfl (fun _ _ => rfl) ?_
    show yP (xg xs) (d + 1) 402 34 [(4, .int s0), (0, .ref 58), (1, .int l1), (2, .int l2), (3, .int l3)] [.int (1 : Int32)] m Q
    refine y_headS (l2 := [(0, .ref 58), (1, .int l1), (2, .int l2), (3, .int l3), (4, .int s0)]) [1, 2, 3, 4, 0] [0, 1, 2, 3, 4] [4, 0, 1, 2, 3] rfl rfl (by decide) rfl (by decide) ?_
    exact H
set_option maxRecDepth 20000 in
/-- CodeMakerModel.runCounter from 34 on -/
theorem w402_34 (xs : List Int32) (d : Nat) (l1 : Int32) (l2 : Int32) (l3 : Int32) (l4 : Int32) (s0 : Int32) (m : yM) (Q : Option Value → yM → Prop) (H : (x_in (l2 + (4 : Int32)) 8192 = true ∧ ((¬ l1 = (3 : Int32) → ((s0 = 0 → ((l3 = 0 → yP (xg xs) (d + 1) 402 160 [(0, .ref 58), (2, .int l2), (3, .int l3), (6, .int (m.1 98 ((l2 + (4 : Int32)).toNatClampNeg)))] [] m Q) ∧ (¬ l3 = 0 → ((¬ l4 = 0 → yP (xg xs) (d + 1) 402 160 [(0, .ref 58), (2, .int l2), (3, .int l3), (6, .int (m.1 98 ((l2 + (4 : Int32)).toNatClampNeg)))] [] m Q) ∧ (l4 = 0 → (((m.1 98 ((l2 + (4 : Int32)).toNatClampNeg)) ≤ ((-32768) : Int32) → yP (xg xs) (d + 1) 402 160 [(0, .ref 58), (2, .int l2), (3, .int l3), (6, .int (m.1 98 ((l2 + (4 : Int32)).toNatClampNeg)))] [] m Q) ∧ (¬ (m.1 98 ((l2 + (4 : Int32)).toNatClampNeg)) ≤ ((-32768) : Int32) → yP (xg xs) (d + 1) 402 162 [(0, .ref 58), (2, .int l2), (3, .int l3)] [.int ((m.1 98 ((l2 + (4 : Int32)).toNatClampNeg)) - (1 : Int32))] m Q))))))) ∧ (¬ s0 = 0 → (x_in (l2 + (2 : Int32)) 8192 = true ∧ yP (xg xs) (d + 1) 402 162 [(0, .ref 58), (2, .int l2), (3, .int l3)] [.int (m.1 98 ((l2 + (2 : Int32)).toNatClampNeg))] m Q)))) ∧ (l1 = (3 : Int32) → ((s0 = 0 → ((l3 = 0 → yP (xg xs) (d + 1) 402 84 [(0, .ref 58), (2, .int l2), (3, .int l3), (6, .int (m.1 98 ((l2 + (4 : Int32)).toNatClampNeg)))] [] m Q) ∧ (¬ l3 = 0 → ((¬ l4 = 0 → yP (xg xs) (d + 1) 402 84 [(0, .ref 58), (2, .int l2), (3, .int l3), (6, .int (m.1 98 ((l2 + (4 : Int32)).toNatClampNeg)))] [] m Q) ∧ (l4 = 0 → (((32767 : Int32) ≤ (m.1 98 ((l2 + (4 : Int32)).toNatClampNeg)) → yP (xg xs) (d + 1) 402 84 [(0, .ref 58), (2, .int l2), (3, .int l3), (6, .int (m.1 98 ((l2 + (4 : Int32)).toNatClampNeg)))] [] m Q) ∧ (¬ (32767 : Int32) ≤ (m.1 98 ((l2 + (4 : Int32)).toNatClampNeg)) → yP (xg xs) (d + 1) 402 86 [(0, .ref 58), (2, .int l2), (3, .int l3)] [.int ((m.1 98 ((l2 + (4 : Int32)).toNatClampNeg)) + (1 : Int32))] m Q))))))) ∧ (¬ s0 = 0 → yP (xg xs) (d + 1) 402 86 [(0, .ref 58), (2, .int l2), (3, .int l3)] [.int (0 : Int32)] m Q)))))) : yP (xg xs) (d + 1) 402 34 [(0, .ref 58), (1, .int l1), (2, .int l2), (3, .int l3), (4, .int l4)] [.int s0] m Q := by
  refine y_st rfl rfl rfl rfl rfl (fun _ _ => rfl) ?_
  refine y_st rfl rfl rfl rfl rfl (fun _ _ => rfl) ?_
  refine y_gf rfl rfl rfl rfl rfl ?_
  refine y_st rfl rfl rfl rfl rfl (fun _ _ => rfl) ?_
  refine y_st rfl rfl rfl rfl rfl (fun _ _ => rfl) ?_
  refine y_st rfl rfl rfl rfl rfl (fun _ _ => rfl) ?_
  show yP (xg xs) (d + 1) 402 43 [(5, .int s0), (0, .ref 58), (1, .int l1), (2, .int l2), (3, .int l3), (4, .int l4)] [.int (l2 + (4 : Int32)), .ref 98] m Q
  refine y_iald rfl rfl rfl (H.1) ?_
  replace H := H.2
  refine y_st rfl rfl rfl rfl rfl (fun _ _ => rfl) ?_
  refine y_st rfl rfl rfl rfl rfl (fun _ _ => rfl) ?_
  refine y_st rfl rfl rfl rfl rfl (fun _ _ => rfl) ?_
  show yP (xg xs) (d + 1) 402 48 [(6, .int (m.1 98 ((l2 + (4 : Int32)).toNatClampNeg))), (5, .int s0), (0, .ref 58), (1, .int l1), (2, .int l2), (3, .int l3), (4, .int l4)] [.int (3 : Int32), .int l1] m Q
  refine y_ine (t := 120) rfl rfl rfl (fun h => ?_) (fun h => ?_)
  · replace H := H.1 h; clear h
    refine y_st rfl rfl rfl rfl rfl (fun _ _ => rfl) ?_
    show yP (xg xs) (d + 1) 402 122 [(6, .int (m.1 98 ((l2 + (4 : Int32)).toNatClampNeg))), (5, .int s0), (0, .ref 58), (1, .int l1), (2, .int l2), (3, .int l3), (4, .int l4)] [.int s0] m Q
    refine y_zeq (t := 136) rfl rfl rfl (fun h => ?_) (fun h => ?_)
    · replace H := H.1 h; clear h
      refine y_st rfl rfl rfl rfl rfl (fun _ _ => rfl) ?_
      show yP (xg xs) (d + 1) 402 137 [(6, .int (m.1 98 ((l2 + (4 : Int32)).toNatClampNeg))), (5, .int s0), (0, .ref 58), (1, .int l1), (2, .int l2), (3, .int l3), (4, .int l4)] [.int l3] m Q
      refine y_zeq (t := 160) rfl rfl rfl (fun h => ?_) (fun h => ?_)
      · replace H := H.1 h; clear h
        show yP (xg xs) (d + 1) 402 160 [(6, .int (m.1 98 ((l2 + (4 : Int32)).toNatClampNeg))), (5, .int s0), (0, .ref 58), (1, .int l1), (2, .int l2), (3, .int l3), (4, .int l4)] [] m Q
        refine y_headS (l2 := [(0, .ref 58), (2, .int l2), (3, .int l3), (6, .int (m.1 98 ((l2 + (4 : Int32)).toNatClampNeg)))]) [2, 4, 5, 0] [0, 2, 3, 6] [6, 5, 0, 1, 2, 3, 4] rfl rfl (by decide) rfl (by decide) ?_
        exact H
      · replace H := H.2 h; clear h
        refine y_st rfl rfl rfl rfl rfl (fun _ _ => rfl) ?_
        show yP (xg xs) (d + 1) 402 142 [(6, .int (m.1 98 ((l2 + (4 : Int32)).toNatClampNeg))), (5, .int s0), (0, .ref 58), (1, .int l1), (2, .int l2), (3, .int l3), (4, .int l4)] [.int l4] m Q
        refine y_zne (t := 160) rfl rfl rfl (fun h => ?_) (fun h => ?_)
        · replace H := H.1 h; clear h
          show yP (xg xs) (d + 1) 402 160 [(6, .int (m.1 98 ((l2 + (4 : Int32)).toNatClampNeg))), (5, .int s0), (0, .ref 58), (1, .int l1), (2, .int l2), (3, .int l3), (4, .int l4)] [] m Q
          refine y_headS (l2 := [(0, .ref 58), (2, .int l2), (3, .int l3), (6, .int (m.1 98 ((l2 + (4 : Int32)).toNatClampNeg)))]) [2, 4, 5, 0] [0, 2, 3, 6] [6, 5, 0, 1, 2, 3, 4] rfl rfl (by decide) rfl (by decide) ?_
          exact H
        · replace H := H.2 h; clear h
          refine y_st rfl rfl rfl rfl rfl (fun _ _ => rfl) ?_
          refine y_st rfl rfl rfl rfl rfl (fun _ _ => rfl) ?_
          show yP (xg xs) (d + 1) 402 150 [(6, .int (m.1 98 ((l2 + (4 : Int32)).toNatClampNeg))), (5, .int s0), (0, .ref 58), (1, .int l1), (2, .int l2), (3, .int l3), (4, .int l4)] [.int ((-32768) : Int32), .int (m.1 98 ((l2 + (4 : Int32)).toNatClampNeg))] m Q
          refine y_ile (t := 160) rfl rfl rfl (fun h => ?_) (fun h => ?_)
          · replace H := H.1 h; clear h
            show yP (xg xs) (d + 1) 402 160 [(6, .int (m.1 98 ((l2 + (4 : Int32)).toNatClampNeg))), (5, .int s0), (0, .ref 58), (1, .int l1), (2, .int l2), (3, .int l3), (4, .int l4)] [] m Q
            refine y_headS (l2 := [(0, .ref 58), (2, .int l2), (3, .int l3), (6, .int (m.1 98 ((l2 + (4 : Int32)).toNatClampNeg)))]) [2, 4, 5, 0] [0, 2, 3, 6] [6, 5, 0, 1, 2, 3, 4] rfl rfl (by decide) rfl (by decide) ?_
            exact H
          · replace H := H.2 h; clear h
            refine y_st rfl rfl rfl rfl rfl (fun _ _ => rfl) ?_
            refine y_st rfl rfl rfl rfl rfl (fun _ _ => rfl) ?_
            refine y_st rfl rfl rfl rfl rfl (fun _ _ => rfl) ?_
            refine y_st rfl rfl rfl rfl rfl (fun _ _ => rfl) ?_
            show yP (xg xs) (d + 1) 402 162 [(6, .int (m.1 98 ((l2 + (4 : Int32)).toNatClampNeg))), (5, .int s0), (0, .ref 58), (1, .int l1), (2, .int l2), (3, .int l3), (4, .int l4)] [.int ((m.1 98 ((l2 + (4 : Int32)).toNatClampNeg)) - (1 : Int32))] m Q
            refine y_headS (l2 := [(0, .ref 58), (2, .int l2), (3, .int l3)]) [2, 4, 5] [0, 2, 3] [6, 5, 0, 1, 2, 3, 4] rfl rfl (by decide) rfl (by decide) ?_
            exact H
    · replace H := H.2 h; clear h
      refine y_st rfl rfl rfl rfl rfl (fun _ _ => rfl) ?_
      refine y_gf rfl rfl rfl rfl rfl ?_
      refine y_st rfl rfl rfl rfl rfl (fun _ _ => rfl) ?_
      refine y_st rfl rfl rfl rfl rfl (fun _ _ => rfl) ?_
      refine y_st rfl rfl rfl rfl rfl (fun _ _ => rfl) ?_
      show yP (xg xs) (d + 1) 402 132 [(6, .int (m.1 98 ((l2 + (4 : Int32)).toNatClampNeg))), (5, .int s0), (0, .ref 58), (1, .int l1), (2, .int l2), (3, .int l3), (4, .int l4)] [.int (l2 + (2 : Int32)), .ref 98] m Q
      refine y_iald rfl rfl rfl (H.1) ?_
      replace H := H.2
      refine y_st rfl rfl rfl rfl rfl (fun _ _ => rfl) ?_
      show yP (xg xs) (d + 1) 402 162 [(6, .int (m.1 98 ((l2 + (4 : Int32)).toNatClampNeg))), (5, .int s0), (0, .ref 58), (1, .int l1), (2, .int l2), (3, .int l3), (4, .int l4)] [.int (m.1 98 ((l2 + (2 : Int32)).toNatClampNeg))] m Q
      refine y_headS (l2 := [(0, .ref 58), (2, .int l2), (3, .int l3)]) [2, 4, 5] [0, 2, 3] [6, 5, 0, 1, 2, 3, 4] rfl rfl (by decide) rfl (by decide) ?_
      exact H
  · replace H := H.2 h; clear h
    refine y_st rfl rfl rfl rfl rfl (fun _ _ => rfl) ?_
    show yP (xg xs) (d + 1) 402 53 [(6, .int (m.1 98 ((l2 + (4 : Int32)).toNatClampNeg))), (5, .int s0), (0, .ref 58), (1, .int l1), (2, .int l2), (3, .int l3), (4, .int l4)] [.int s0] m Q
    refine y_zeq (t := 60) rfl rfl rfl (fun h => ?_) (fun h => ?_)
    · replace H := H.1 h; clear h
      refine y_st rfl rfl rfl rfl rfl (fun _ _ => rfl) ?_
      show yP (xg xs) (d + 1) 402 61 [(6, .int (m.1 98 ((l2 + (4 : Int32)).toNatClampNeg))), (5, .int s0), (0, .ref 58), (1, .int l1), (2, .int l2), (3, .int l3), (4, .int l4)] [.int l3] m Q
      refine y_zeq (t := 84) rfl rfl rfl (fun h => ?_) (fun h => ?_)
      · replace H := H.1 h; clear h
        show yP (xg xs) (d + 1) 402 84 [(6, .int (m.1 98 ((l2 + (4 : Int32)).toNatClampNeg))), (5, .int s0), (0, .ref 58), (1, .int l1), (2, .int l2), (3, .int l3), (4, .int l4)] [] m Q
        refine y_headS (l2 := [(0, .ref 58), (2, .int l2), (3, .int l3), (6, .int (m.1 98 ((l2 + (4 : Int32)).toNatClampNeg)))]) [2, 4, 5, 0] [0, 2, 3, 6] [6, 5, 0, 1, 2, 3, 4] rfl rfl (by decide) rfl (by decide) ?_
        exact H
      · replace H := H.2 h; clear h
        refine y_st rfl rfl rfl rfl rfl (fun _ _ => rfl) ?_
        show yP (xg xs) (d + 1) 402 66 [(6, .int (m.1 98 ((l2 + (4 : Int32)).toNatClampNeg))), (5, .int s0), (0, .ref 58), (1, .int l1), (2, .int l2), (3, .int l3), (4, .int l4)] [.int l4] m Q
        refine y_zne (t := 84) rfl rfl rfl (fun h => ?_) (fun h => ?_)
        · replace H := H.1 h; clear h
          show yP (xg xs) (d + 1) 402 84 [(6, .int (m.1 98 ((l2 + (4 : Int32)).toNatClampNeg))), (5, .int s0), (0, .ref 58), (1, .int l1), (2, .int l2), (3, .int l3), (4, .int l4)] [] m Q
          refine y_headS (l2 := [(0, .ref 58), (2, .int l2), (3, .int l3), (6, .int (m.1 98 ((l2 + (4 : Int32)).toNatClampNeg)))]) [2, 4, 5, 0] [0, 2, 3, 6] [6, 5, 0, 1, 2, 3, 4] rfl rfl (by decide) rfl (by decide) ?_
          exact H
        · replace H := H.2 h; clear h
          refine y_st rfl rfl rfl rfl rfl (fun _ _ => rfl) ?_
          refine y_st rfl rfl rfl rfl rfl (fun _ _ => rfl) ?_
          show yP (xg xs) (d + 1) 402 74 [(6, .int (m.1 98 ((l2 + (4 : Int32)).toNatClampNeg))), (5, .int s0), (0, .ref 58), (1, .int l1), (2, .int l2), (3, .int l3), (4, .int l4)] [.int (32767 : Int32), .int (m.1 98 ((l2 + (4 : Int32)).toNatClampNeg))] m Q
          refine y_ige (t := 84) rfl rfl rfl (fun h => ?_) (fun h => ?_)
          · replace H := H.1 h; clear h
            show yP (xg xs) (d + 1) 402 84 [(6, .int (m.1 98 ((l2 + (4 : Int32)).toNatClampNeg))), (5, .int s0), (0, .ref 58), (1, .int l1), (2, .int l2), (3, .int l3), (4, .int l4)] [] m Q
            refine y_headS (l2 := [(0, .ref 58), (2, .int l2), (3, .int l3), (6, .int (m.1 98 ((l2 + (4 : Int32)).toNatClampNeg)))]) [2, 4, 5, 0] [0, 2, 3, 6] [6, 5, 0, 1, 2, 3, 4] rfl rfl (by decide) rfl (by decide) ?_
            exact H
          · replace H := H.2 h; clear h
            refine y_st rfl rfl rfl rfl rfl (fun _ _ => rfl) ?_
            refine y_st rfl rfl rfl rfl rfl (fun _ _ => rfl) ?_
            refine y_st rfl rfl rfl rfl rfl (fun _ _ => rfl) ?_
            refine y_st rfl rfl rfl rfl rfl (fun _ _ => rfl) ?_
            show yP (xg xs) (d + 1) 402 86 [(6, .int (m.1 98 ((l2 + (4 : Int32)).toNatClampNeg))), (5, .int s0), (0, .ref 58), (1, .int l1), (2, .int l2), (3, .int l3), (4, .int l4)] [.int ((m.1 98 ((l2 + (4 : Int32)).toNatClampNeg)) + (1 : Int32))] m Q
            refine y_headS (l2 := [(0, .ref 58), (2, .int l2), (3, .int l3)]) [2, 4, 5] [0, 2, 3] [6, 5, 0, 1, 2, 3, 4] rfl rfl (by decide) rfl (by decide) ?_
            exact H
    · replace H := H.2 h; clear h
      refine y_st rfl rfl rfl rfl rfl (fun _ _ => rfl) ?_
      refine y_st rfl rfl rfl rfl rfl (fun _ _ => rfl) ?_
      show yP (xg xs) (d + 1) 402 86 [(6, .int (m.1 98 ((l2 + (4 : Int32)).toNatClampNeg))), (5, .int s0), (0, .ref 58), (1, .int l1), (2, .int l2), (3, .int l3), (4, .int l4)] [.int (0 : Int32)] m Q
      refine y_headS (l2 := [(0, .ref 58), (2, .int l2), (3, .int l3)]) [2, 4, 5] [0, 2, 3] [6, 5, 0, 1, 2, 3, 4] rfl rfl (by decide) rfl (by decide) ?_
      exact H
set_option maxRecDepth 20000 in
/-- CodeMakerModel.runCounter from 84 on -/
theorem w402_84 (xs : List Int32) (d : Nat) (l2 : Int32) (l3 : Int32) (l6 : Int32) (m : yM) (Q : Option Value → yM → Prop) (H : yP (xg xs) (d + 1) 402 86 [(0, .ref 58), (2, .int l2), (3, .int l3)] [.int l6] m Q) : yP (xg xs) (d + 1) 402 84 [(0, .ref 58), (2, .int l2), (3, .int l3), (6, .int l6)] [] m Q := by
  refine y_st rfl rfl rfl rfl rfl (fun _ _ => rfl) ?_
  show yP (xg xs) (d + 1) 402 86 [(0, .ref 58), (2, .int l2), (3, .int l3), (6, .int l6)] [.int l6] m Q
  refine y_headS (l2 := [(0, .ref 58), (2, .int l2), (3, .int l3)]) [0, 1, 2] [0, 2, 3] [0, 2, 3, 6] rfl rfl (by decide) rfl (by decide) ?_
  exact H
set_option maxRecDepth 20000 in
/-- CodeMakerModel.runCounter from 86 on -/
theorem w402_86 (xs : List Int32) (d : Nat) (l2 : Int32) (l3 : Int32) (s0 : Int32) (m : yM) (Q : Option Value → yM → Prop) (H : (x_in (l2 + (2 : Int32)) 8192 = true ∧ ((s0 < (m.1 98 ((l2 + (2 : Int32)).toNatClampNeg)) → yP (xg xs) (d + 1) 402 113 [(0, .ref 58), (2, .int l2), (3, .int l3), (6, .int s0)] [.int (0 : Int32), .int (l2 + (3 : Int32)), .ref 98] m Q) ∧ (¬ s0 < (m.1 98 ((l2 + (2 : Int32)).toNatClampNeg)) → yP (xg xs) (d + 1) 402 113 [(0, .ref 58), (2, .int l2), (3, .int l3), (6, .int s0)] [.int (1 : Int32), .int (l2 + (3 : Int32)), .ref 98] m Q)))) : yP (xg xs) (d + 1) 402 86 [(0, .ref 58), (2, .int l2), (3, .int l3)] [.int s0] m Q := by
  refine y_st rfl rfl rfl rfl rfl (fun _ _ => rfl) ?_
  refine y_st rfl rfl rfl rfl rfl (fun _ _ => rfl) ?_
  refine y_gf rfl rfl rfl rfl rfl ?_
  refine y_st rfl rfl rfl rfl rfl (fun _ _ => rfl) ?_
  refine y_st rfl rfl rfl rfl rfl (fun _ _ => rfl) ?_
  refine y_st rfl rfl rfl rfl rfl (fun _ _ => rfl) ?_
  refine y_st rfl rfl rfl rfl rfl (fun _ _ => rfl) ?_
  refine y_st rfl rfl rfl rfl rfl (fun _ _ => rfl) ?_
  refine y_gf rfl rfl rfl rfl rfl ?_
  refine y_st rfl rfl rfl rfl rfl (fun _ _ => rfl) ?_
  refine y_st rfl rfl rfl rfl rfl (fun _ _ => rfl) ?_
  refine y_st rfl rfl rfl rfl rfl (fun _ _ => rfl) ?_
  show yP (xg xs) (d + 1) 402 104 [(6, .int s0), (0, .ref 58), (2, .int l2), (3, .int l3)] [.int (l2 + (2 : Int32)), .ref 98, .int s0, .int (l2 + (3 : Int32)), .ref 98] m Q
  refine y_iald rfl rfl rfl (H.1) ?_
  replace H := H.2
  show yP (xg xs) (d + 1) 402 105 [(6, .int s0), (0, .ref 58), (2, .int l2), (3, .int l3)] [.int (m.1 98 ((l2 + (2 : Int32)).toNatClampNeg)), .int s0, .int (l2 + (3 : Int32)), .ref 98] m Q
  refine y_ilt (t := 112) rfl rfl rfl (fun h => ?_) (fun h => ?_)
  · replace H := H.1 h; clear h
    refine y_st rfl rfl rfl rfl rfl (fun _ _ => rfl) ?_
    show yP (xg xs) (d + 1) 402 113 [(6, .int s0), (0, .ref 58), (2, .int l2), (3, .int l3)] [.int (0 : Int32), .int (l2 + (3 : Int32)), .ref 98] m Q
    refine y_headS (l2 := [(0, .ref 58), (2, .int l2), (3, .int l3), (6, .int s0)]) [1, 2, 3, 0] [0, 2, 3, 6] [6, 0, 2, 3] rfl rfl (by decide) rfl (by decide) ?_
    exact H
  · replace H := H.2 h; clear h
    refine y_st rfl rfl rfl rfl rfl (fun _ _ => rfl) ?_
    refine y_st rfl rfl rfl rfl rfl (fun _ _ => rfl) ?_
    show yP (xg xs) (d + 1) 402 113 [(6, .int s0), (0, .ref 58), (2, .int l2), (3, .int l3)] [.int (1 : Int32), .int (l2 + (3 : Int32)), .ref 98] m Q
    refine y_headS (l2 := [(0, .ref 58), (2, .int l2), (3, .int l3), (6, .int s0)]) [1, 2, 3, 0] [0, 2, 3, 6] [6, 0, 2, 3] rfl rfl (by decide) rfl (by decide) ?_
    exact H
set_option maxRecDepth 20000 in
/-- CodeMakerModel.runCounter from 113 on -/
theorem w402_113 (xs : List Int32) (d : Nat) (l2 : Int32) (l3 : Int32) (l6 : Int32) (s1 : Int32) (s2 : Int32) (m : yM) (Q : Option Value → yM → Prop) (H : (yC (xg xs) d 401 [.int s2] m (fun v1 m1 => ∃ u1, v1 = some (Value.int u1) ∧ (x_in s1 8192 = true ∧ yP (xg xs) (d + 1) 402 185 [(0, .ref 58), (2, .int l2), (3, .int l3), (6, .int l6)] [] (y_si m1 98 s1.toNatClampNeg u1) Q)))) : yP (xg xs) (d + 1) 402 113 [(0, .ref 58), (2, .int l2), (3, .int l3), (6, .int l6)] [.int s2, .int s1, .ref 98] m Q := by
  show yP (xg xs) (d + 1) 402 113 [(0, .ref 58), (2, .int l2), (3, .int l3), (6, .int l6)] [.int s2, .int s1, .ref 98] m Q
  refine y_call rfl rfl rfl rfl rfl (Nat.le_of_ble_eq_true rfl) (Nat.le_of_ble_eq_true rfl) rfl (by decide) H (fun v1 m1 H => ?_)
  obtain ⟨u1, rfl, H⟩ := H
  show yP (xg xs) (d + 1) 402 116 [(0, .ref 58), (2, .int l2), (3, .int l3), (6, .int l6)] [.int u1, .int s1, .ref 98] m1 Q
  refine y_iast rfl rfl rfl (H.1) ?_
  replace H := H.2
  refine y_st rfl rfl rfl rfl rfl (fun _ _ => rfl) ?_
  show yP (xg xs) (d + 1) 402 185 [(0, .ref 58), (2, .int l2), (3, .int l3), (6, .int l6)] [] (y_si m1 98 s1.toNatClampNeg u1) Q
  exact H
set_option maxRecDepth 20000 in
/-- CodeMakerModel.runCounter from 160 on -/
theorem w402_160 (xs : List Int32) (d : Nat) (l2 : Int32) (l3 : Int32) (l6 : Int32) (m : yM) (Q : Option Value → yM → Prop) (H : yP (xg xs) (d + 1) 402 162 [(0, .ref 58), (2, .int l2), (3, .int l3)] [.int l6] m Q) : yP (xg xs) (d + 1) 402 160 [(0, .ref 58), (2, .int l2), (3, .int l3), (6, .int l6)] [] m Q := by
  refine y_st rfl rfl rfl rfl rfl (fun _ _ => rfl) ?_
  show yP (xg xs) (d + 1) 402 162 [(0, .ref 58), (2, .int l2), (3, .int l3), (6, .int l6)] [.int l6] m Q
  refine y_headS (l2 := [(0, .ref 58), (2, .int l2), (3, .int l3)]) [0, 1, 2] [0, 2, 3] [0, 2, 3, 6] rfl rfl (by decide) rfl (by decide) ?_
  exact H
set_option maxRecDepth 20000 in
/-- CodeMakerModel.runCounter from 162 on -/
theorem w402_162 (xs : List Int32) (d : Nat) (l2 : Int32) (l3 : Int32) (s0 : Int32) (m : yM) (Q : Option Value → yM → Prop) (H : ((0 < s0 → yP (xg xs) (d + 1) 402 181 [(0, .ref 58), (2, .int l2), (3, .int l3), (6, .int s0)] [.int (0 : Int32), .int (l2 + (3 : Int32)), .ref 98] m Q) ∧ (¬ 0 < s0 → yP (xg xs) (d + 1) 402 181 [(0, .ref 58), (2, .int l2), (3, .int l3), (6, .int s0)] [.int (1 : Int32), .int (l2 + (3 : Int32)), .ref 98] m Q))) : yP (xg xs) (d + 1) 402 162 [(0, .ref 58), (2, .int l2), (3, .int l3)] [.int s0] m Q := by
  refine y_st rfl rfl rfl rfl rfl (fun _ _ => rfl) ?_
  refine y_st rfl rfl rfl rfl rfl (fun _ _ => rfl) ?_
  refine y_gf rfl rfl rfl rfl rfl ?_
  refine y_st rfl rfl rfl rfl rfl (fun _ _ => rfl) ?_
  refine y_st rfl rfl rfl rfl rfl (fun _ _ => rfl) ?_
  refine y_st rfl rfl rfl rfl rfl (fun _ _ => rfl) ?_
  refine y_st rfl rfl rfl rfl rfl (fun _ _ => rfl) ?_
  show yP (xg xs) (d + 1) 402 173 [(6, .int s0), (0, .ref 58), (2, .int l2), (3, .int l3)] [.int s0, .int (l2 + (3 : Int32)), .ref 98] m Q
  refine y_zgt (t := 180) rfl rfl rfl (fun h => ?_) (fun h => ?_)
  · replace H := H.1 h; clear h
    refine y_st rfl rfl rfl rfl rfl (fun _ _ => rfl) ?_
    show yP (xg xs) (d + 1) 402 181 [(6, .int s0), (0, .ref 58), (2, .int l2), (3, .int l3)] [.int (0 : Int32), .int (l2 + (3 : Int32)), .ref 98] m Q
    refine y_headS (l2 := [(0, .ref 58), (2, .int l2), (3, .int l3), (6, .int s0)]) [1, 2, 3, 0] [0, 2, 3, 6] [6, 0, 2, 3] rfl rfl (by decide) rfl (by decide) ?_
    exact H
  · replace H := H.2 h; clear h
    refine y_st rfl rfl rfl rfl rfl (fun _ _ => rfl) ?_
    refine y_st rfl rfl rfl rfl rfl (fun _ _ => rfl) ?_
    show yP (xg xs) (d + 1) 402 181 [(6, .int s0), (0, .ref 58), (2, .int l2), (3, .int l3)] [.int (1 : Int32), .int (l2 + (3 : Int32)), .ref 98] m Q
    refine y_headS (l2 := [(0, .ref 58), (2, .int l2), (3, .int l3), (6, .int s0)]) [1, 2, 3, 0] [0, 2, 3, 6] [6, 0, 2, 3] rfl rfl (by decide) rfl (by decide) ?_
    exact H
set_option maxRecDepth 20000 in
/-- CodeMakerModel.runCounter from 181 on -/
theorem w402_181 (xs : List Int32) (d : Nat) (l2 : Int32) (l3 : Int32) (l6 : Int32) (s1 : Int32) (s2 : Int32) (m : yM) (Q : Option Value → yM → Prop) (H : (yC (xg xs) d 401 [.int s2] m (fun v1 m1 => ∃ u1, v1 = some (Value.int u1) ∧ (x_in s1 8192 = true ∧ yP (xg xs) (d + 1) 402 185 [(0, .ref 58), (2, .int l2), (3, .int l3), (6, .int l6)] [] (y_si m1 98 s1.toNatClampNeg u1) Q)))) : yP (xg xs) (d + 1) 402 181 [(0, .ref 58), (2, .int l2), (3, .int l3), (6, .int l6)] [.int s2, .int s1, .ref 98] m Q := by
  show yP (xg xs) (d + 1) 402 181 [(0, .ref 58), (2, .int l2), (3, .int l3), (6, .int l6)] [.int s2, .int s1, .ref 98] m Q
  refine y_call rfl rfl rfl rfl rfl (Nat.le_of_ble_eq_true rfl) (Nat.le_of_ble_eq_true rfl) rfl (by decide) H (fun v1 m1 H => ?_)
  obtain ⟨u1, rfl, H⟩ := H
  show yP (xg xs) (d + 1) 402 184 [(0, .ref 58), (2, .int l2), (3, .int l3), (6, .int l6)] [.int u1, .int s1, .ref 98] m1 Q
  refine y_iast rfl rfl rfl (H.1) ?_
  replace H := H.2
  show yP (xg xs) (d + 1) 402 185 [(0, .ref 58), (2, .int l2), (3, .int l3), (6, .int l6)] [] (y_si m1 98 s1.toNatClampNeg u1) Q
  exact H
set_option maxRecDepth 20000 in
/-- CodeMakerModel.runCounter from 185 on -/
theorem w402_185 (xs : List Int32) (d : Nat) (l2 : Int32) (l3 : Int32) (l6 : Int32) (m : yM) (Q : Option Value → yM → Prop) (H : (x_in (l2 + (4 : Int32)) 8192 = true ∧ (yC (xg xs) d 401 [.int l3] (y_si m 98 ((l2 + (4 : Int32)).toNatClampNeg) l6) (fun v1 m1 => ∃ u1, v1 = some (Value.int u1) ∧ (x_in (l2 + (5 : Int32)) 8192 = true ∧ Q none (y_si m1 98 ((l2 + (5 : Int32)).toNatClampNeg) u1)))))) : yP (xg xs) (d + 1) 402 185 [(0, .ref 58), (2, .int l2), (3, .int l3), (6, .int l6)] [] m Q := by
  refine y_st rfl rfl rfl rfl rfl (fun _ _ => rfl) ?_
  refine y_gf rfl rfl rfl rfl rfl ?_
  refine y_st rfl rfl rfl rfl rfl (fun _ _ => rfl) ?_
  refine y_st rfl rfl rfl rfl rfl (fun _ _ => rfl) ?_
  refine y_st rfl rfl rfl rfl rfl (fun _ _ => rfl) ?_
  refine y_st rfl rfl rfl rfl rfl (fun _ _ => rfl) ?_
  show yP (xg xs) (d + 1) 402 194 [(0, .ref 58), (2, .int l2), (3, .int l3), (6, .int l6)] [.int l6, .int (l2 + (4 : Int32)), .ref 98] m Q
  refine y_iast rfl rfl rfl (H.1) ?_
  replace H := H.2
  refine y_st rfl rfl rfl rfl rfl (fun _ _ => rfl) ?_
  refine y_gf rfl rfl rfl rfl rfl ?_
  refine y_st rfl rfl rfl rfl rfl (fun _ _ => rfl) ?_
  refine y_st rfl rfl rfl rfl rfl (fun _ _ => rfl) ?_
  refine y_st rfl rfl rfl rfl rfl (fun _ _ => rfl) ?_
  refine y_st rfl rfl rfl rfl rfl (fun _ _ => rfl) ?_
  show yP (xg xs) (d + 1) 402 203 [(0, .ref 58), (2, .int l2), (3, .int l3), (6, .int l6)] [.int l3, .int (l2 + (5 : Int32)), .ref 98] (y_si m 98 ((l2 + (4 : Int32)).toNatClampNeg) l6) Q
  refine y_call rfl rfl rfl rfl rfl (Nat.le_of_ble_eq_true rfl) (Nat.le_of_ble_eq_true rfl) rfl (by decide) H (fun v1 m1 H => ?_)
  obtain ⟨u1, rfl, H⟩ := H
  show yP (xg xs) (d + 1) 402 206 [(0, .ref 58), (2, .int l2), (3, .int l3), (6, .int l6)] [.int u1, .int (l2 + (5 : Int32)), .ref 98] m1 Q
  refine y_iast rfl rfl rfl (H.1) ?_
  replace H := H.2
  show yP (xg xs) (d + 1) 402 207 [(0, .ref 58), (2, .int l2), (3, .int l3), (6, .int l6)] [] (y_si m1 98 ((l2 + (5 : Int32)).toNatClampNeg) u1) Q
  exact y_ret rfl rfl rfl rfl H
