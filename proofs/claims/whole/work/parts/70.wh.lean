/-! WHAT EACH METHOD COMES TO, group h: laid by wip/gen/wpall.py -/
set_option maxRecDepth 20000 in
/-- CodeMakerModel.judge from 0 on -/
theorem w321_0 (xs : List Int32) (d : Nat) (l1 : Int32) (m : yM) (Q : Option Value → yM → Prop) (H : (x_in l1 20000 = true ∧ (((m.1 62 l1.toNatClampNeg) = (1 : Int32) → yP (xg xs) (d + 1) 321 22 [(0, .ref 58), (1, .int l1), (2, .int (m.1 62 l1.toNatClampNeg))] [] m Q) ∧ (¬ (m.1 62 l1.toNatClampNeg) = (1 : Int32) → (((m.1 62 l1.toNatClampNeg) = (2 : Int32) → yP (xg xs) (d + 1) 321 22 [(0, .ref 58), (1, .int l1), (2, .int (m.1 62 l1.toNatClampNeg))] [] m Q) ∧ (¬ (m.1 62 l1.toNatClampNeg) = (2 : Int32) → ((¬ (m.1 62 l1.toNatClampNeg) = (3 : Int32) → yP (xg xs) (d + 1) 321 27 [(0, .ref 58), (1, .int l1), (2, .int (m.1 62 l1.toNatClampNeg))] [] m Q) ∧ ((m.1 62 l1.toNatClampNeg) = (3 : Int32) → yP (xg xs) (d + 1) 321 22 [(0, .ref 58), (1, .int l1), (2, .int (m.1 62 l1.toNatClampNeg))] [] m Q)))))))) : yP (xg xs) (d + 1) 321 0 [(0, .ref 58), (1, .int l1)] [] m Q := by
  refine y_st rfl rfl rfl rfl rfl (fun _ _ => rfl) ?_
  refine y_gf rfl rfl rfl rfl rfl ?_
  refine y_st rfl rfl rfl rfl rfl (fun _ _ => rfl) ?_
  show yP (xg xs) (d + 1) 321 5 [(0, .ref 58), (1, .int l1)] [.int l1, .ref 62] m Q
  refine y_iald rfl rfl rfl (H.1) ?_
  replace H := H.2
  refine y_st rfl rfl rfl rfl rfl (fun _ _ => rfl) ?_
  refine y_st rfl rfl rfl rfl rfl (fun _ _ => rfl) ?_
  refine y_st rfl rfl rfl rfl rfl (fun _ _ => rfl) ?_
  show yP (xg xs) (d + 1) 321 9 [(2, .int (m.1 62 l1.toNatClampNeg)), (0, .ref 58), (1, .int l1)] [.int (1 : Int32), .int (m.1 62 l1.toNatClampNeg)] m Q
  refine y_ieq (t := 22) rfl rfl rfl (fun h => ?_) (fun h => ?_)
  · replace H := H.1 h; clear h
    show yP (xg xs) (d + 1) 321 22 [(2, .int (m.1 62 l1.toNatClampNeg)), (0, .ref 58), (1, .int l1)] [] m Q
    refine y_headS (l2 := [(0, .ref 58), (1, .int l1), (2, .int (m.1 62 l1.toNatClampNeg))]) [1, 2, 0] [0, 1, 2] [2, 0, 1] rfl rfl (by decide) rfl (by decide) ?_
    exact H
  · replace H := H.2 h; clear h
    refine y_st rfl rfl rfl rfl rfl (fun _ _ => rfl) ?_
    refine y_st rfl rfl rfl rfl rfl (fun _ _ => rfl) ?_
    show yP (xg xs) (d + 1) 321 14 [(2, .int (m.1 62 l1.toNatClampNeg)), (0, .ref 58), (1, .int l1)] [.int (2 : Int32), .int (m.1 62 l1.toNatClampNeg)] m Q
    refine y_ieq (t := 22) rfl rfl rfl (fun h => ?_) (fun h => ?_)
    · replace H := H.1 h; clear h
      show yP (xg xs) (d + 1) 321 22 [(2, .int (m.1 62 l1.toNatClampNeg)), (0, .ref 58), (1, .int l1)] [] m Q
      refine y_headS (l2 := [(0, .ref 58), (1, .int l1), (2, .int (m.1 62 l1.toNatClampNeg))]) [1, 2, 0] [0, 1, 2] [2, 0, 1] rfl rfl (by decide) rfl (by decide) ?_
      exact H
    · replace H := H.2 h; clear h
      refine y_st rfl rfl rfl rfl rfl (fun _ _ => rfl) ?_
      refine y_st rfl rfl rfl rfl rfl (fun _ _ => rfl) ?_
      show yP (xg xs) (d + 1) 321 19 [(2, .int (m.1 62 l1.toNatClampNeg)), (0, .ref 58), (1, .int l1)] [.int (3 : Int32), .int (m.1 62 l1.toNatClampNeg)] m Q
      refine y_ine (t := 27) rfl rfl rfl (fun h => ?_) (fun h => ?_)
      · replace H := H.1 h; clear h
        show yP (xg xs) (d + 1) 321 27 [(2, .int (m.1 62 l1.toNatClampNeg)), (0, .ref 58), (1, .int l1)] [] m Q
        refine y_headS (l2 := [(0, .ref 58), (1, .int l1), (2, .int (m.1 62 l1.toNatClampNeg))]) [1, 2, 0] [0, 1, 2] [2, 0, 1] rfl rfl (by decide) rfl (by decide) ?_
        exact H
      · replace H := H.2 h; clear h
        show yP (xg xs) (d + 1) 321 22 [(2, .int (m.1 62 l1.toNatClampNeg)), (0, .ref 58), (1, .int l1)] [] m Q
        refine y_headS (l2 := [(0, .ref 58), (1, .int l1), (2, .int (m.1 62 l1.toNatClampNeg))]) [1, 2, 0] [0, 1, 2] [2, 0, 1] rfl rfl (by decide) rfl (by decide) ?_
        exact H
set_option maxRecDepth 20000 in
/-- CodeMakerModel.judge from 22 on -/
theorem w321_22 (xs : List Int32) (d : Nat) (l1 : Int32) (l2 : Int32) (m : yM) (Q : Option Value → yM → Prop) (H : (yC (xg xs) d 322 [.ref 58, .int l1] m (fun v1 m1 => v1 = none ∧ yP (xg xs) (d + 1) 321 27 [(0, .ref 58), (1, .int l1), (2, .int l2)] [] m1 Q))) : yP (xg xs) (d + 1) 321 22 [(0, .ref 58), (1, .int l1), (2, .int l2)] [] m Q := by
  refine y_st rfl rfl rfl rfl rfl (fun _ _ => rfl) ?_
  refine y_st rfl rfl rfl rfl rfl (fun _ _ => rfl) ?_
  show yP (xg xs) (d + 1) 321 24 [(0, .ref 58), (1, .int l1), (2, .int l2)] [.int l1, .ref 58] m Q
  refine y_call rfl rfl rfl rfl rfl (Nat.le_of_ble_eq_true rfl) (Nat.le_of_ble_eq_true rfl) rfl (by decide) H (fun v1 m1 H => ?_)
  obtain ⟨rfl, H⟩ := H
  show yP (xg xs) (d + 1) 321 27 [(0, .ref 58), (1, .int l1), (2, .int l2)] [] m1 Q
  exact H
set_option maxRecDepth 20000 in
/-- CodeMakerModel.judge from 27 on -/
theorem w321_27 (xs : List Int32) (d : Nat) (l1 : Int32) (l2 : Int32) (m : yM) (Q : Option Value → yM → Prop) (H : (x_in l1 20000 = true ∧ yP (xg xs) (d + 1) 321 34 [(0, .ref 58), (1, .int l1), (2, .int l2), (3, .int (m.1 66 l1.toNatClampNeg))] [] m Q)) : yP (xg xs) (d + 1) 321 27 [(0, .ref 58), (1, .int l1), (2, .int l2)] [] m Q := by
  refine y_st rfl rfl rfl rfl rfl (fun _ _ => rfl) ?_
  refine y_gf rfl rfl rfl rfl rfl ?_
  refine y_st rfl rfl rfl rfl rfl (fun _ _ => rfl) ?_
  show yP (xg xs) (d + 1) 321 32 [(0, .ref 58), (1, .int l1), (2, .int l2)] [.int l1, .ref 66] m Q
  refine y_iald rfl rfl rfl (H.1) ?_
  replace H := H.2
  refine y_st rfl rfl rfl rfl rfl (fun _ _ => rfl) ?_
  show yP (xg xs) (d + 1) 321 34 [(3, .int (m.1 66 l1.toNatClampNeg)), (0, .ref 58), (1, .int l1), (2, .int l2)] [] m Q
  refine y_headS (l2 := [(0, .ref 58), (1, .int l1), (2, .int l2), (3, .int (m.1 66 l1.toNatClampNeg))]) [1, 2, 3, 0] [0, 1, 2, 3] [3, 0, 1, 2] rfl rfl (by decide) rfl (by decide) ?_
  exact H
set_option maxRecDepth 20000 in
/-- CodeMakerModel.judge from 34 on -/
theorem w321_34 (xs : List Int32) (d : Nat) (l1 : Int32) (l2 : Int32) (l3 : Int32) (m : yM) (Q : Option Value → yM → Prop) (H : ((l3 = ((-1) : Int32) → yP (xg xs) (d + 1) 321 61 [(0, .ref 58), (1, .int l1), (2, .int l2)] [] m Q) ∧ (¬ l3 = ((-1) : Int32) → ((¬ (m.1 58 3) = 0 → yP (xg xs) (d + 1) 321 61 [(0, .ref 58), (1, .int l1), (2, .int l2)] [] m Q) ∧ ((m.1 58 3) = 0 → (yC (xg xs) d 321 [.ref 58, .int l3] m (fun v1 m1 => v1 = none ∧ (x_in l3 20000 = true ∧ yP (xg xs) (d + 1) 321 34 [(0, .ref 58), (1, .int l1), (2, .int l2), (3, .int (m1.1 68 l3.toNatClampNeg))] [] m1 Q)))))))) : yP (xg xs) (d + 1) 321 34 [(0, .ref 58), (1, .int l1), (2, .int l2), (3, .int l3)] [] m Q := by
  refine y_st rfl rfl rfl rfl rfl (fun _ _ => rfl) ?_
  refine y_st rfl rfl rfl rfl rfl (fun _ _ => rfl) ?_
  show yP (xg xs) (d + 1) 321 36 [(0, .ref 58), (1, .int l1), (2, .int l2), (3, .int l3)] [.int ((-1) : Int32), .int l3] m Q
  refine y_ieq (t := 61) rfl rfl rfl (fun h => ?_) (fun h => ?_)
  · replace H := H.1 h; clear h
    show yP (xg xs) (d + 1) 321 61 [(0, .ref 58), (1, .int l1), (2, .int l2), (3, .int l3)] [] m Q
    refine y_headS (l2 := [(0, .ref 58), (1, .int l1), (2, .int l2)]) [0, 1, 2] [0, 1, 2] [0, 1, 2, 3] rfl rfl (by decide) rfl (by decide) ?_
    exact H
  · replace H := H.2 h; clear h
    refine y_st rfl rfl rfl rfl rfl (fun _ _ => rfl) ?_
    refine y_gf rfl rfl rfl rfl rfl ?_
    show yP (xg xs) (d + 1) 321 43 [(0, .ref 58), (1, .int l1), (2, .int l2), (3, .int l3)] [.int (m.1 58 3)] m Q
    refine y_zne (t := 61) rfl rfl rfl (fun h => ?_) (fun h => ?_)
    · replace H := H.1 h; clear h
      show yP (xg xs) (d + 1) 321 61 [(0, .ref 58), (1, .int l1), (2, .int l2), (3, .int l3)] [] m Q
      refine y_headS (l2 := [(0, .ref 58), (1, .int l1), (2, .int l2)]) [0, 1, 2] [0, 1, 2] [0, 1, 2, 3] rfl rfl (by decide) rfl (by decide) ?_
      exact H
    · replace H := H.2 h; clear h
      refine y_st rfl rfl rfl rfl rfl (fun _ _ => rfl) ?_
      refine y_st rfl rfl rfl rfl rfl (fun _ _ => rfl) ?_
      show yP (xg xs) (d + 1) 321 48 [(0, .ref 58), (1, .int l1), (2, .int l2), (3, .int l3)] [.int l3, .ref 58] m Q
      refine y_call rfl rfl rfl rfl rfl (Nat.le_of_ble_eq_true rfl) (Nat.le_of_ble_eq_true rfl) rfl (by decide) H (fun v1 m1 H => ?_)
      obtain ⟨rfl, H⟩ := H
      refine y_st rfl rfl rfl rfl rfl (fun _ _ => rfl) ?_
      refine y_gf rfl rfl rfl rfl rfl ?_
      refine y_st rfl rfl rfl rfl rfl (fun _ _ => rfl) ?_
      show yP (xg xs) (d + 1) 321 56 [(0, .ref 58), (1, .int l1), (2, .int l2), (3, .int l3)] [.int l3, .ref 68] m1 Q
      refine y_iald rfl rfl rfl (H.1) ?_
      replace H := H.2
      refine y_st rfl rfl rfl rfl rfl (fun _ _ => rfl) ?_
      refine y_st rfl rfl rfl rfl rfl (fun _ _ => rfl) ?_
      show yP (xg xs) (d + 1) 321 34 [(3, .int (m1.1 68 l3.toNatClampNeg)), (0, .ref 58), (1, .int l1), (2, .int l2)] [] m1 Q
      refine y_headS (l2 := [(0, .ref 58), (1, .int l1), (2, .int l2), (3, .int (m1.1 68 l3.toNatClampNeg))]) [1, 2, 3, 0] [0, 1, 2, 3] [3, 0, 1, 2] rfl rfl (by decide) rfl (by decide) ?_
      exact H
set_option maxRecDepth 20000 in
/-- CodeMakerModel.judge from 61 on -/
theorem w321_61 (xs : List Int32) (d : Nat) (l1 : Int32) (l2 : Int32) (m : yM) (Q : Option Value → yM → Prop) (H : (((m.1 58 3) ≤ 0 → (((12 : Int32) ≤ l2 → (((22 : Int32) ≤ l2 → (((30 : Int32) ≤ l2 → (yC (xg xs) d 354 [.ref 58, .int l1, .int l2] m (fun v1 m1 => v1 = none ∧ Q none m1))) ∧ (¬ (30 : Int32) ≤ l2 → (yC (xg xs) d 352 [.ref 58, .int l1, .int l2] m (fun v2 m2 => v2 = none ∧ Q none m2))))) ∧ (¬ (22 : Int32) ≤ l2 → (yC (xg xs) d 340 [.ref 58, .int l1, .int l2] m (fun v3 m3 => v3 = none ∧ Q none m3))))) ∧ (¬ (12 : Int32) ≤ l2 → (yC (xg xs) d 327 [.ref 58, .int l1, .int l2] m (fun v4 m4 => v4 = none ∧ Q none m4))))) ∧ (¬ (m.1 58 3) ≤ 0 → Q none m))) : yP (xg xs) (d + 1) 321 61 [(0, .ref 58), (1, .int l1), (2, .int l2)] [] m Q := by
  refine y_st rfl rfl rfl rfl rfl (fun _ _ => rfl) ?_
  refine y_gf rfl rfl rfl rfl rfl ?_
  show yP (xg xs) (d + 1) 321 65 [(0, .ref 58), (1, .int l1), (2, .int l2)] [.int (m.1 58 3)] m Q
  refine y_zle (t := 69) rfl rfl rfl (fun h => ?_) (fun h => ?_)
  · replace H := H.1 h; clear h
    refine y_st rfl rfl rfl rfl rfl (fun _ _ => rfl) ?_
    refine y_st rfl rfl rfl rfl rfl (fun _ _ => rfl) ?_
    show yP (xg xs) (d + 1) 321 72 [(0, .ref 58), (1, .int l1), (2, .int l2)] [.int (12 : Int32), .int l2] m Q
    refine y_ige (t := 84) rfl rfl rfl (fun h => ?_) (fun h => ?_)
    · replace H := H.1 h; clear h
      refine y_st rfl rfl rfl rfl rfl (fun _ _ => rfl) ?_
      refine y_st rfl rfl rfl rfl rfl (fun _ _ => rfl) ?_
      show yP (xg xs) (d + 1) 321 87 [(0, .ref 58), (1, .int l1), (2, .int l2)] [.int (22 : Int32), .int l2] m Q
      refine y_ige (t := 99) rfl rfl rfl (fun h => ?_) (fun h => ?_)
      · replace H := H.1 h; clear h
        refine y_st rfl rfl rfl rfl rfl (fun _ _ => rfl) ?_
        refine y_st rfl rfl rfl rfl rfl (fun _ _ => rfl) ?_
        show yP (xg xs) (d + 1) 321 102 [(0, .ref 58), (1, .int l1), (2, .int l2)] [.int (30 : Int32), .int l2] m Q
        refine y_ige (t := 114) rfl rfl rfl (fun h => ?_) (fun h => ?_)
        · replace H := H.1 h; clear h
          refine y_st rfl rfl rfl rfl rfl (fun _ _ => rfl) ?_
          refine y_st rfl rfl rfl rfl rfl (fun _ _ => rfl) ?_
          refine y_st rfl rfl rfl rfl rfl (fun _ _ => rfl) ?_
          show yP (xg xs) (d + 1) 321 117 [(0, .ref 58), (1, .int l1), (2, .int l2)] [.int l2, .int l1, .ref 58] m Q
          refine y_call rfl rfl rfl rfl rfl (Nat.le_of_ble_eq_true rfl) (Nat.le_of_ble_eq_true rfl) rfl (by decide) H (fun v1 m1 H => ?_)
          obtain ⟨rfl, H⟩ := H
          show yP (xg xs) (d + 1) 321 120 [(0, .ref 58), (1, .int l1), (2, .int l2)] [] m1 Q
          exact y_ret rfl rfl rfl rfl H
        · replace H := H.2 h; clear h
          refine y_st rfl rfl rfl rfl rfl (fun _ _ => rfl) ?_
          refine y_st rfl rfl rfl rfl rfl (fun _ _ => rfl) ?_
          refine y_st rfl rfl rfl rfl rfl (fun _ _ => rfl) ?_
          show yP (xg xs) (d + 1) 321 108 [(0, .ref 58), (1, .int l1), (2, .int l2)] [.int l2, .int l1, .ref 58] m Q
          refine y_call rfl rfl rfl rfl rfl (Nat.le_of_ble_eq_true rfl) (Nat.le_of_ble_eq_true rfl) rfl (by decide) H (fun v2 m2 H => ?_)
          obtain ⟨rfl, H⟩ := H
          refine y_st rfl rfl rfl rfl rfl (fun _ _ => rfl) ?_
          show yP (xg xs) (d + 1) 321 120 [(0, .ref 58), (1, .int l1), (2, .int l2)] [] m2 Q
          exact y_ret rfl rfl rfl rfl H
      · replace H := H.2 h; clear h
        refine y_st rfl rfl rfl rfl rfl (fun _ _ => rfl) ?_
        refine y_st rfl rfl rfl rfl rfl (fun _ _ => rfl) ?_
        refine y_st rfl rfl rfl rfl rfl (fun _ _ => rfl) ?_
        show yP (xg xs) (d + 1) 321 93 [(0, .ref 58), (1, .int l1), (2, .int l2)] [.int l2, .int l1, .ref 58] m Q
        refine y_call rfl rfl rfl rfl rfl (Nat.le_of_ble_eq_true rfl) (Nat.le_of_ble_eq_true rfl) rfl (by decide) H (fun v3 m3 H => ?_)
        obtain ⟨rfl, H⟩ := H
        refine y_st rfl rfl rfl rfl rfl (fun _ _ => rfl) ?_
        show yP (xg xs) (d + 1) 321 120 [(0, .ref 58), (1, .int l1), (2, .int l2)] [] m3 Q
        exact y_ret rfl rfl rfl rfl H
    · replace H := H.2 h; clear h
      refine y_st rfl rfl rfl rfl rfl (fun _ _ => rfl) ?_
      refine y_st rfl rfl rfl rfl rfl (fun _ _ => rfl) ?_
      refine y_st rfl rfl rfl rfl rfl (fun _ _ => rfl) ?_
      show yP (xg xs) (d + 1) 321 78 [(0, .ref 58), (1, .int l1), (2, .int l2)] [.int l2, .int l1, .ref 58] m Q
      refine y_call rfl rfl rfl rfl rfl (Nat.le_of_ble_eq_true rfl) (Nat.le_of_ble_eq_true rfl) rfl (by decide) H (fun v4 m4 H => ?_)
      obtain ⟨rfl, H⟩ := H
      refine y_st rfl rfl rfl rfl rfl (fun _ _ => rfl) ?_
      show yP (xg xs) (d + 1) 321 120 [(0, .ref 58), (1, .int l1), (2, .int l2)] [] m4 Q
      exact y_ret rfl rfl rfl rfl H
  · replace H := H.2 h; clear h
    show yP (xg xs) (d + 1) 321 68 [(0, .ref 58), (1, .int l1), (2, .int l2)] [] m Q
    exact y_ret rfl rfl rfl rfl H
set_option maxRecDepth 20000 in
/-- CodeMakerModel.beginBlock from 0 on -/
theorem w322_0 (xs : List Int32) (d : Nat) (l1 : Int32) (m : yM) (Q : Option Value → yM → Prop) (H : (x_in l1 20000 = true ∧ (yC (xg xs) d 323 [.ref 58, .int (10 : Int32), .int (m.1 58 29), .int l1] m (fun v1 m1 => v1 = none ∧ (yC (xg xs) d 324 [.ref 58, .int (m.1 64 l1.toNatClampNeg)] m1 (fun v2 m2 => ∃ u2, v2 = some (Value.int u2) ∧ yP (xg xs) (d + 1) 322 27 [(0, .ref 58), (1, .int l1), (2, .int (m.1 64 l1.toNatClampNeg)), (3, .int u2), (4, .int (0 : Int32))] [] m2 Q)))))) : yP (xg xs) (d + 1) 322 0 [(0, .ref 58), (1, .int l1)] [] m Q := by
  refine y_st rfl rfl rfl rfl rfl (fun _ _ => rfl) ?_
  refine y_gf rfl rfl rfl rfl rfl ?_
  refine y_st rfl rfl rfl rfl rfl (fun _ _ => rfl) ?_
  show yP (xg xs) (d + 1) 322 5 [(0, .ref 58), (1, .int l1)] [.int l1, .ref 64] m Q
  refine y_iald rfl rfl rfl (H.1) ?_
  replace H := H.2
  refine y_st rfl rfl rfl rfl rfl (fun _ _ => rfl) ?_
  refine y_st rfl rfl rfl rfl rfl (fun _ _ => rfl) ?_
  refine y_st rfl rfl rfl rfl rfl (fun _ _ => rfl) ?_
  refine y_st rfl rfl rfl rfl rfl (fun _ _ => rfl) ?_
  refine y_gf rfl rfl rfl rfl rfl ?_
  refine y_st rfl rfl rfl rfl rfl (fun _ _ => rfl) ?_
  show yP (xg xs) (d + 1) 322 15 [(2, .int (m.1 64 l1.toNatClampNeg)), (0, .ref 58), (1, .int l1)] [.int l1, .int (m.1 58 29), .int (10 : Int32), .ref 58] m Q
  refine y_call rfl rfl rfl rfl rfl (Nat.le_of_ble_eq_true rfl) (Nat.le_of_ble_eq_true rfl) rfl (by decide) H (fun v1 m1 H => ?_)
  obtain ⟨rfl, H⟩ := H
  refine y_st rfl rfl rfl rfl rfl (fun _ _ => rfl) ?_
  refine y_st rfl rfl rfl rfl rfl (fun _ _ => rfl) ?_
  show yP (xg xs) (d + 1) 322 20 [(2, .int (m.1 64 l1.toNatClampNeg)), (0, .ref 58), (1, .int l1)] [.int (m.1 64 l1.toNatClampNeg), .ref 58] m1 Q
  refine y_call rfl rfl rfl rfl rfl (Nat.le_of_ble_eq_true rfl) (Nat.le_of_ble_eq_true rfl) rfl (by decide) H (fun v2 m2 H => ?_)
  obtain ⟨u2, rfl, H⟩ := H
  refine y_st rfl rfl rfl rfl rfl (fun _ _ => rfl) ?_
  refine y_st rfl rfl rfl rfl rfl (fun _ _ => rfl) ?_
  refine y_st rfl rfl rfl rfl rfl (fun _ _ => rfl) ?_
  show yP (xg xs) (d + 1) 322 27 [(4, .int (0 : Int32)), (3, .int u2), (2, .int (m.1 64 l1.toNatClampNeg)), (0, .ref 58), (1, .int l1)] [] m2 Q
  refine y_headS (l2 := [(0, .ref 58), (1, .int l1), (2, .int (m.1 64 l1.toNatClampNeg)), (3, .int u2), (4, .int (0 : Int32))]) [3, 4, 2, 1, 0] [0, 1, 2, 3, 4] [4, 3, 2, 0, 1] rfl rfl (by decide) rfl (by decide) ?_
  exact H
set_option maxRecDepth 20000 in
/-- CodeMakerModel.beginBlock from 27 on -/
theorem w322_27 (xs : List Int32) (d : Nat) (l1 : Int32) (l2 : Int32) (l3 : Int32) (l4 : Int32) (m : yM) (Q : Option Value → yM → Prop) (H : (((m.1 58 23) ≤ l4 → (yC (xg xs) d 323 [.ref 58, .int (11 : Int32), .int l3, .int l1] m (fun v1 m1 => v1 = none ∧ (((m1.1 58 3) ≤ 0 → (x_in l1 20000 = true ∧ ((¬ (m1.1 62 l1.toNatClampNeg) = (3 : Int32) → yP (xg xs) (d + 1) 322 95 [(0, .ref 58), (1, .int l1), (2, .int l2)] [.int (0 : Int32), .ref 58] m1 Q) ∧ ((m1.1 62 l1.toNatClampNeg) = (3 : Int32) → yP (xg xs) (d + 1) 322 95 [(0, .ref 58), (1, .int l1), (2, .int l2)] [.int (1 : Int32), .ref 58] m1 Q)))) ∧ (¬ (m1.1 58 3) ≤ 0 → Q none m1))))) ∧ (¬ (m.1 58 23) ≤ l4 → ((¬ l3 = 0 → yP (xg xs) (d + 1) 322 51 [(0, .ref 58), (1, .int l1), (2, .int l2), (4, .int l4)] [] m Q) ∧ (l3 = 0 → (x_in l4 400 = true ∧ ((¬ (m.1 71 l4.toNatClampNeg) = l2 → yP (xg xs) (d + 1) 322 56 [(0, .ref 58), (1, .int l1), (2, .int l2), (4, .int l4)] [.int (0 : Int32)] m Q) ∧ ((m.1 71 l4.toNatClampNeg) = l2 → yP (xg xs) (d + 1) 322 51 [(0, .ref 58), (1, .int l1), (2, .int l2), (4, .int l4)] [] m Q)))))))) : yP (xg xs) (d + 1) 322 27 [(0, .ref 58), (1, .int l1), (2, .int l2), (3, .int l3), (4, .int l4)] [] m Q := by
  refine y_st rfl rfl rfl rfl rfl (fun _ _ => rfl) ?_
  refine y_st rfl rfl rfl rfl rfl (fun _ _ => rfl) ?_
  refine y_gf rfl rfl rfl rfl rfl ?_
  show yP (xg xs) (d + 1) 322 33 [(0, .ref 58), (1, .int l1), (2, .int l2), (3, .int l3), (4, .int l4)] [.int (m.1 58 23), .int l4] m Q
  refine y_ige (t := 63) rfl rfl rfl (fun h => ?_) (fun h => ?_)
  · replace H := H.1 h; clear h
    refine y_st rfl rfl rfl rfl rfl (fun _ _ => rfl) ?_
    refine y_st rfl rfl rfl rfl rfl (fun _ _ => rfl) ?_
    refine y_st rfl rfl rfl rfl rfl (fun _ _ => rfl) ?_
    refine y_st rfl rfl rfl rfl rfl (fun _ _ => rfl) ?_
    show yP (xg xs) (d + 1) 322 68 [(0, .ref 58), (1, .int l1), (2, .int l2), (3, .int l3), (4, .int l4)] [.int l1, .int l3, .int (11 : Int32), .ref 58] m Q
    refine y_call rfl rfl rfl rfl rfl (Nat.le_of_ble_eq_true rfl) (Nat.le_of_ble_eq_true rfl) rfl (by decide) H (fun v1 m1 H => ?_)
    obtain ⟨rfl, H⟩ := H
    refine y_st rfl rfl rfl rfl rfl (fun _ _ => rfl) ?_
    refine y_gf rfl rfl rfl rfl rfl ?_
    show yP (xg xs) (d + 1) 322 75 [(0, .ref 58), (1, .int l1), (2, .int l2), (3, .int l3), (4, .int l4)] [.int (m1.1 58 3)] m1 Q
    refine y_zle (t := 79) rfl rfl rfl (fun h => ?_) (fun h => ?_)
    · replace H := H.1 h; clear h
      refine y_st rfl rfl rfl rfl rfl (fun _ _ => rfl) ?_
      refine y_st rfl rfl rfl rfl rfl (fun _ _ => rfl) ?_
      refine y_gf rfl rfl rfl rfl rfl ?_
      refine y_st rfl rfl rfl rfl rfl (fun _ _ => rfl) ?_
      show yP (xg xs) (d + 1) 322 85 [(0, .ref 58), (1, .int l1), (2, .int l2), (3, .int l3), (4, .int l4)] [.int l1, .ref 62, .ref 58] m1 Q
      refine y_iald rfl rfl rfl (H.1) ?_
      replace H := H.2
      refine y_st rfl rfl rfl rfl rfl (fun _ _ => rfl) ?_
      show yP (xg xs) (d + 1) 322 87 [(0, .ref 58), (1, .int l1), (2, .int l2), (3, .int l3), (4, .int l4)] [.int (3 : Int32), .int (m1.1 62 l1.toNatClampNeg), .ref 58] m1 Q
      refine y_ine (t := 94) rfl rfl rfl (fun h => ?_) (fun h => ?_)
      · replace H := H.1 h; clear h
        refine y_st rfl rfl rfl rfl rfl (fun _ _ => rfl) ?_
        show yP (xg xs) (d + 1) 322 95 [(0, .ref 58), (1, .int l1), (2, .int l2), (3, .int l3), (4, .int l4)] [.int (0 : Int32), .ref 58] m1 Q
        refine y_headS (l2 := [(0, .ref 58), (1, .int l1), (2, .int l2)]) [0, 1, 2] [0, 1, 2] [0, 1, 2, 3, 4] rfl rfl (by decide) rfl (by decide) ?_
        exact H
      · replace H := H.2 h; clear h
        refine y_st rfl rfl rfl rfl rfl (fun _ _ => rfl) ?_
        refine y_st rfl rfl rfl rfl rfl (fun _ _ => rfl) ?_
        show yP (xg xs) (d + 1) 322 95 [(0, .ref 58), (1, .int l1), (2, .int l2), (3, .int l3), (4, .int l4)] [.int (1 : Int32), .ref 58] m1 Q
        refine y_headS (l2 := [(0, .ref 58), (1, .int l1), (2, .int l2)]) [0, 1, 2] [0, 1, 2] [0, 1, 2, 3, 4] rfl rfl (by decide) rfl (by decide) ?_
        exact H
    · replace H := H.2 h; clear h
      show yP (xg xs) (d + 1) 322 78 [(0, .ref 58), (1, .int l1), (2, .int l2), (3, .int l3), (4, .int l4)] [] m1 Q
      exact y_ret rfl rfl rfl rfl H
  · replace H := H.2 h; clear h
    refine y_st rfl rfl rfl rfl rfl (fun _ _ => rfl) ?_
    show yP (xg xs) (d + 1) 322 37 [(0, .ref 58), (1, .int l1), (2, .int l2), (3, .int l3), (4, .int l4)] [.int l3] m Q
    refine y_zne (t := 51) rfl rfl rfl (fun h => ?_) (fun h => ?_)
    · replace H := H.1 h; clear h
      show yP (xg xs) (d + 1) 322 51 [(0, .ref 58), (1, .int l1), (2, .int l2), (3, .int l3), (4, .int l4)] [] m Q
      refine y_headS (l2 := [(0, .ref 58), (1, .int l1), (2, .int l2), (4, .int l4)]) [0, 1, 2, 4] [0, 1, 2, 4] [0, 1, 2, 3, 4] rfl rfl (by decide) rfl (by decide) ?_
      exact H
    · replace H := H.2 h; clear h
      refine y_st rfl rfl rfl rfl rfl (fun _ _ => rfl) ?_
      refine y_gf rfl rfl rfl rfl rfl ?_
      refine y_st rfl rfl rfl rfl rfl (fun _ _ => rfl) ?_
      show yP (xg xs) (d + 1) 322 46 [(0, .ref 58), (1, .int l1), (2, .int l2), (3, .int l3), (4, .int l4)] [.int l4, .ref 71] m Q
      refine y_iald rfl rfl rfl (H.1) ?_
      replace H := H.2
      refine y_st rfl rfl rfl rfl rfl (fun _ _ => rfl) ?_
      show yP (xg xs) (d + 1) 322 48 [(0, .ref 58), (1, .int l1), (2, .int l2), (3, .int l3), (4, .int l4)] [.int l2, .int (m.1 71 l4.toNatClampNeg)] m Q
      refine y_ine (t := 55) rfl rfl rfl (fun h => ?_) (fun h => ?_)
      · replace H := H.1 h; clear h
        refine y_st rfl rfl rfl rfl rfl (fun _ _ => rfl) ?_
        show yP (xg xs) (d + 1) 322 56 [(0, .ref 58), (1, .int l1), (2, .int l2), (3, .int l3), (4, .int l4)] [.int (0 : Int32)] m Q
        refine y_headS (l2 := [(0, .ref 58), (1, .int l1), (2, .int l2), (4, .int l4)]) [0, 1, 2, 4] [0, 1, 2, 4] [0, 1, 2, 3, 4] rfl rfl (by decide) rfl (by decide) ?_
        exact H
      · replace H := H.2 h; clear h
        show yP (xg xs) (d + 1) 322 51 [(0, .ref 58), (1, .int l1), (2, .int l2), (3, .int l3), (4, .int l4)] [] m Q
        refine y_headS (l2 := [(0, .ref 58), (1, .int l1), (2, .int l2), (4, .int l4)]) [0, 1, 2, 4] [0, 1, 2, 4] [0, 1, 2, 3, 4] rfl rfl (by decide) rfl (by decide) ?_
        exact H
set_option maxRecDepth 20000 in
/-- CodeMakerModel.beginBlock from 51 on -/
theorem w322_51 (xs : List Int32) (d : Nat) (l1 : Int32) (l2 : Int32) (l4 : Int32) (m : yM) (Q : Option Value → yM → Prop) (H : yP (xg xs) (d + 1) 322 56 [(0, .ref 58), (1, .int l1), (2, .int l2), (4, .int l4)] [.int (1 : Int32)] m Q) : yP (xg xs) (d + 1) 322 51 [(0, .ref 58), (1, .int l1), (2, .int l2), (4, .int l4)] [] m Q := by
  refine y_st rfl rfl rfl rfl rfl (fun _ _ => rfl) ?_
  refine y_st rfl rfl rfl rfl rfl (fun _ _ => rfl) ?_
  show yP (xg xs) (d + 1) 322 56 [(0, .ref 58), (1, .int l1), (2, .int l2), (4, .int l4)] [.int (1 : Int32)] m Q
  exact H
set_option maxRecDepth 20000 in
/-- CodeMakerModel.beginBlock from 56 on -/
theorem w322_56 (xs : List Int32) (d : Nat) (l1 : Int32) (l2 : Int32) (l4 : Int32) (s0 : Int32) (m : yM) (Q : Option Value → yM → Prop) (H : yP (xg xs) (d + 1) 322 27 [(0, .ref 58), (1, .int l1), (2, .int l2), (3, .int s0), (4, .int (l4 + (1 : Int32)))] [] m Q) : yP (xg xs) (d + 1) 322 56 [(0, .ref 58), (1, .int l1), (2, .int l2), (4, .int l4)] [.int s0] m Q := by
  refine y_st rfl rfl rfl rfl rfl (fun _ _ => rfl) ?_
  refine y_st rfl rfl rfl rfl rfl (fun _ _ => rfl) ?_
  refine y_st rfl rfl rfl rfl rfl (fun _ _ => rfl) ?_
  show yP (xg xs) (d + 1) 322 27 [(4, .int (l4 + (1 : Int32))), (3, .int s0), (0, .ref 58), (1, .int l1), (2, .int l2)] [] m Q
  refine y_headS (l2 := [(0, .ref 58), (1, .int l1), (2, .int l2), (3, .int s0), (4, .int (l4 + (1 : Int32)))]) [2, 3, 4, 1, 0] [0, 1, 2, 3, 4] [4, 3, 0, 1, 2] rfl rfl (by decide) rfl (by decide) ?_
  exact H
set_option maxRecDepth 20000 in
/-- CodeMakerModel.beginBlock from 95 on -/
theorem w322_95 (xs : List Int32) (d : Nat) (l1 : Int32) (l2 : Int32) (s1 : Int32) (m : yM) (Q : Option Value → yM → Prop) (H : ((s1 = 0 ∨ s1 = 1) ∧ (x_in (m.1 58 23) 400 = true ∧ (x_in (m.1 58 23) 400 = true ∧ (x_in (m.1 58 23) 401 = true ∧ (x_in l1 20000 = true ∧ ((¬ (m.1 62 l1.toNatClampNeg) = (1 : Int32) → (x_in l1 20000 = true ∧ ((¬ (m.1 62 l1.toNatClampNeg) = (3 : Int32) → yP (xg xs) (d + 1) 322 170 [(0, .ref 58), (1, .int l1), (2, .int l2)] [.int (0 : Int32), .int (m.1 58 23), .ref 72] (y_si (y_si (y_si (y_si m 58 29 s1) 70 ((m.1 58 23).toNatClampNeg) l1) 71 ((m.1 58 23).toNatClampNeg) l2) 73 ((m.1 58 23).toNatClampNeg) (m.1 58 30)) Q) ∧ ((m.1 62 l1.toNatClampNeg) = (3 : Int32) → yP (xg xs) (d + 1) 322 170 [(0, .ref 58), (1, .int l1), (2, .int l2)] [.int (960 : Int32), .int (m.1 58 23), .ref 72] (y_si (y_si (y_si (y_si m 58 29 s1) 70 ((m.1 58 23).toNatClampNeg) l1) 71 ((m.1 58 23).toNatClampNeg) l2) 73 ((m.1 58 23).toNatClampNeg) (m.1 58 30)) Q)))) ∧ ((m.1 62 l1.toNatClampNeg) = (1 : Int32) → yP (xg xs) (d + 1) 322 170 [(0, .ref 58), (1, .int l1), (2, .int l2)] [.int (1 : Int32), .int (m.1 58 23), .ref 72] (y_si (y_si (y_si (y_si m 58 29 s1) 70 ((m.1 58 23).toNatClampNeg) l1) 71 ((m.1 58 23).toNatClampNeg) l2) 73 ((m.1 58 23).toNatClampNeg) (m.1 58 30)) Q)))))))) : yP (xg xs) (d + 1) 322 95 [(0, .ref 58), (1, .int l1), (2, .int l2)] [.int s1, .ref 58] m Q := by
  refine y_pfi rfl rfl rfl rfl rfl (x_fit_z H.1) ?_
  replace H := H.2
  show yP (xg xs) (d + 1) 322 98 [(0, .ref 58), (1, .int l1), (2, .int l2)] [] (y_si m 58 29 s1) Q
  refine y_st rfl rfl rfl rfl rfl (fun _ _ => rfl) ?_
  refine y_gf rfl rfl rfl rfl rfl ?_
  refine y_st rfl rfl rfl rfl rfl (fun _ _ => rfl) ?_
  refine y_gf rfl rfl rfl rfl rfl ?_
  refine y_st rfl rfl rfl rfl rfl (fun _ _ => rfl) ?_
  show yP (xg xs) (d + 1) 322 107 [(0, .ref 58), (1, .int l1), (2, .int l2)] [.int l1, .int (m.1 58 23), .ref 70] (y_si m 58 29 s1) Q
  refine y_iast rfl rfl rfl (H.1) ?_
  replace H := H.2
  refine y_st rfl rfl rfl rfl rfl (fun _ _ => rfl) ?_
  refine y_gf rfl rfl rfl rfl rfl ?_
  refine y_st rfl rfl rfl rfl rfl (fun _ _ => rfl) ?_
  refine y_gf rfl rfl rfl rfl rfl ?_
  refine y_st rfl rfl rfl rfl rfl (fun _ _ => rfl) ?_
  show yP (xg xs) (d + 1) 322 117 [(0, .ref 58), (1, .int l1), (2, .int l2)] [.int l2, .int (m.1 58 23), .ref 71] (y_si (y_si m 58 29 s1) 70 ((m.1 58 23).toNatClampNeg) l1) Q
  refine y_iast rfl rfl rfl (H.1) ?_
  replace H := H.2
  refine y_st rfl rfl rfl rfl rfl (fun _ _ => rfl) ?_
  refine y_gf rfl rfl rfl rfl rfl ?_
  refine y_st rfl rfl rfl rfl rfl (fun _ _ => rfl) ?_
  refine y_gf rfl rfl rfl rfl rfl ?_
  refine y_st rfl rfl rfl rfl rfl (fun _ _ => rfl) ?_
  refine y_gf rfl rfl rfl rfl rfl ?_
  show yP (xg xs) (d + 1) 322 130 [(0, .ref 58), (1, .int l1), (2, .int l2)] [.int (m.1 58 30), .int (m.1 58 23), .ref 73] (y_si (y_si (y_si m 58 29 s1) 70 ((m.1 58 23).toNatClampNeg) l1) 71 ((m.1 58 23).toNatClampNeg) l2) Q
  refine y_iast rfl rfl rfl (H.1) ?_
  replace H := H.2
  refine y_st rfl rfl rfl rfl rfl (fun _ _ => rfl) ?_
  refine y_gf rfl rfl rfl rfl rfl ?_
  refine y_st rfl rfl rfl rfl rfl (fun _ _ => rfl) ?_
  refine y_gf rfl rfl rfl rfl rfl ?_
  refine y_st rfl rfl rfl rfl rfl (fun _ _ => rfl) ?_
  refine y_gf rfl rfl rfl rfl rfl ?_
  refine y_st rfl rfl rfl rfl rfl (fun _ _ => rfl) ?_
  show yP (xg xs) (d + 1) 322 144 [(0, .ref 58), (1, .int l1), (2, .int l2)] [.int l1, .ref 62, .int (m.1 58 23), .ref 72] (y_si (y_si (y_si (y_si m 58 29 s1) 70 ((m.1 58 23).toNatClampNeg) l1) 71 ((m.1 58 23).toNatClampNeg) l2) 73 ((m.1 58 23).toNatClampNeg) (m.1 58 30)) Q
  refine y_iald rfl rfl rfl (H.1) ?_
  replace H := H.2
  refine y_st rfl rfl rfl rfl rfl (fun _ _ => rfl) ?_
  show yP (xg xs) (d + 1) 322 146 [(0, .ref 58), (1, .int l1), (2, .int l2)] [.int (1 : Int32), .int (m.1 62 l1.toNatClampNeg), .int (m.1 58 23), .ref 72] (y_si (y_si (y_si (y_si m 58 29 s1) 70 ((m.1 58 23).toNatClampNeg) l1) 71 ((m.1 58 23).toNatClampNeg) l2) 73 ((m.1 58 23).toNatClampNeg) (m.1 58 30)) Q
  refine y_ine (t := 153) rfl rfl rfl (fun h => ?_) (fun h => ?_)
  · replace H := H.1 h; clear h
    refine y_st rfl rfl rfl rfl rfl (fun _ _ => rfl) ?_
    refine y_gf rfl rfl rfl rfl rfl ?_
    refine y_st rfl rfl rfl rfl rfl (fun _ _ => rfl) ?_
    show yP (xg xs) (d + 1) 322 158 [(0, .ref 58), (1, .int l1), (2, .int l2)] [.int l1, .ref 62, .int (m.1 58 23), .ref 72] (y_si (y_si (y_si (y_si m 58 29 s1) 70 ((m.1 58 23).toNatClampNeg) l1) 71 ((m.1 58 23).toNatClampNeg) l2) 73 ((m.1 58 23).toNatClampNeg) (m.1 58 30)) Q
    refine y_iald rfl rfl rfl (H.1) ?_
    replace H := H.2
    refine y_st rfl rfl rfl rfl rfl (fun _ _ => rfl) ?_
    show yP (xg xs) (d + 1) 322 160 [(0, .ref 58), (1, .int l1), (2, .int l2)] [.int (3 : Int32), .int (m.1 62 l1.toNatClampNeg), .int (m.1 58 23), .ref 72] (y_si (y_si (y_si (y_si m 58 29 s1) 70 ((m.1 58 23).toNatClampNeg) l1) 71 ((m.1 58 23).toNatClampNeg) l2) 73 ((m.1 58 23).toNatClampNeg) (m.1 58 30)) Q
    refine y_ine (t := 169) rfl rfl rfl (fun h => ?_) (fun h => ?_)
    · replace H := H.1 h; clear h
      refine y_st rfl rfl rfl rfl rfl (fun _ _ => rfl) ?_
      show yP (xg xs) (d + 1) 322 170 [(0, .ref 58), (1, .int l1), (2, .int l2)] [.int (0 : Int32), .int (m.1 58 23), .ref 72] (y_si (y_si (y_si (y_si m 58 29 s1) 70 ((m.1 58 23).toNatClampNeg) l1) 71 ((m.1 58 23).toNatClampNeg) l2) 73 ((m.1 58 23).toNatClampNeg) (m.1 58 30)) Q
      exact H
    · replace H := H.2 h; clear h
      refine y_st rfl rfl rfl rfl rfl (fun _ _ => rfl) ?_
      refine y_st rfl rfl rfl rfl rfl (fun _ _ => rfl) ?_
      show yP (xg xs) (d + 1) 322 170 [(0, .ref 58), (1, .int l1), (2, .int l2)] [.int (960 : Int32), .int (m.1 58 23), .ref 72] (y_si (y_si (y_si (y_si m 58 29 s1) 70 ((m.1 58 23).toNatClampNeg) l1) 71 ((m.1 58 23).toNatClampNeg) l2) 73 ((m.1 58 23).toNatClampNeg) (m.1 58 30)) Q
      exact H
  · replace H := H.2 h; clear h
    refine y_st rfl rfl rfl rfl rfl (fun _ _ => rfl) ?_
    refine y_st rfl rfl rfl rfl rfl (fun _ _ => rfl) ?_
    show yP (xg xs) (d + 1) 322 170 [(0, .ref 58), (1, .int l1), (2, .int l2)] [.int (1 : Int32), .int (m.1 58 23), .ref 72] (y_si (y_si (y_si (y_si m 58 29 s1) 70 ((m.1 58 23).toNatClampNeg) l1) 71 ((m.1 58 23).toNatClampNeg) l2) 73 ((m.1 58 23).toNatClampNeg) (m.1 58 30)) Q
    exact H
set_option maxRecDepth 20000 in
/-- CodeMakerModel.beginBlock from 170 on -/
theorem w322_170 (xs : List Int32) (d : Nat) (l1 : Int32) (l2 : Int32) (s1 : Int32) (s2 : Int32) (m : yM) (Q : Option Value → yM → Prop) (H : (x_in s1 400 = true ∧ (x_in l1 20000 = true ∧ ((¬ (m.1 62 l1.toNatClampNeg) = (1 : Int32) → Q none (y_si (y_si m 72 s1.toNatClampNeg s2) 58 23 ((m.1 58 23) + (1 : Int32)))) ∧ ((m.1 62 l1.toNatClampNeg) = (1 : Int32) → (yC (xg xs) d 326 [.ref 58, .int l2] (y_si (y_si m 72 s1.toNatClampNeg s2) 58 23 ((m.1 58 23) + (1 : Int32))) (fun v1 m1 => ∃ u1, v1 = some (Value.int u1) ∧ (x_in u1 4700 = true ∧ (x_in l1 20000 = true ∧ (x_in (m1.1 66 l1.toNatClampNeg) 20000 = true ∧ (x_in u1 4700 = true ∧ (x_in u1 4700 = true ∧ (x_in u1 4700 = true ∧ Q none (y_si (y_si (y_si (y_si m1 76 u1.toNatClampNeg (0 : Int32)) 77 u1.toNatClampNeg (m1.1 64 ((m1.1 66 l1.toNatClampNeg).toNatClampNeg))) 80 u1.toNatClampNeg (0 : Int32)) 81 u1.toNatClampNeg (3 : Int32))))))))))))))) : yP (xg xs) (d + 1) 322 170 [(0, .ref 58), (1, .int l1), (2, .int l2)] [.int s2, .int s1, .ref 72] m Q := by
  show yP (xg xs) (d + 1) 322 170 [(0, .ref 58), (1, .int l1), (2, .int l2)] [.int s2, .int s1, .ref 72] m Q
  refine y_iast rfl rfl rfl (H.1) ?_
  replace H := H.2
  refine y_st rfl rfl rfl rfl rfl (fun _ _ => rfl) ?_
  refine y_st rfl rfl rfl rfl rfl (fun _ _ => rfl) ?_
  refine y_gf rfl rfl rfl rfl rfl ?_
  refine y_st rfl rfl rfl rfl rfl (fun _ _ => rfl) ?_
  refine y_st rfl rfl rfl rfl rfl (fun _ _ => rfl) ?_
  refine y_pfi rfl rfl rfl rfl rfl (x_fit_i _) ?_
  show yP (xg xs) (d + 1) 322 181 [(0, .ref 58), (1, .int l1), (2, .int l2)] [] (y_si (y_si m 72 s1.toNatClampNeg s2) 58 23 ((m.1 58 23) + (1 : Int32))) Q
  refine y_st rfl rfl rfl rfl rfl (fun _ _ => rfl) ?_
  refine y_gf rfl rfl rfl rfl rfl ?_
  refine y_st rfl rfl rfl rfl rfl (fun _ _ => rfl) ?_
  show yP (xg xs) (d + 1) 322 186 [(0, .ref 58), (1, .int l1), (2, .int l2)] [.int l1, .ref 62] (y_si (y_si m 72 s1.toNatClampNeg s2) 58 23 ((m.1 58 23) + (1 : Int32))) Q
  refine y_iald rfl rfl rfl (H.1) ?_
  replace H := H.2
  refine y_st rfl rfl rfl rfl rfl (fun _ _ => rfl) ?_
  show yP (xg xs) (d + 1) 322 188 [(0, .ref 58), (1, .int l1), (2, .int l2)] [.int (1 : Int32), .int (m.1 62 l1.toNatClampNeg)] (y_si (y_si m 72 s1.toNatClampNeg s2) 58 23 ((m.1 58 23) + (1 : Int32))) Q
  refine y_ine (t := 240) rfl rfl rfl (fun h => ?_) (fun h => ?_)
  · replace H := H.1 h; clear h
    show yP (xg xs) (d + 1) 322 240 [(0, .ref 58), (1, .int l1), (2, .int l2)] [] (y_si (y_si m 72 s1.toNatClampNeg s2) 58 23 ((m.1 58 23) + (1 : Int32))) Q
    exact y_ret rfl rfl rfl rfl H
  · replace H := H.2 h; clear h
    refine y_st rfl rfl rfl rfl rfl (fun _ _ => rfl) ?_
    refine y_st rfl rfl rfl rfl rfl (fun _ _ => rfl) ?_
    show yP (xg xs) (d + 1) 322 193 [(0, .ref 58), (1, .int l1), (2, .int l2)] [.int l2, .ref 58] (y_si (y_si m 72 s1.toNatClampNeg s2) 58 23 ((m.1 58 23) + (1 : Int32))) Q
    refine y_call rfl rfl rfl rfl rfl (Nat.le_of_ble_eq_true rfl) (Nat.le_of_ble_eq_true rfl) rfl (by decide) H (fun v1 m1 H => ?_)
    obtain ⟨u1, rfl, H⟩ := H
    refine y_st rfl rfl rfl rfl rfl (fun _ _ => rfl) ?_
    refine y_st rfl rfl rfl rfl rfl (fun _ _ => rfl) ?_
    refine y_gf rfl rfl rfl rfl rfl ?_
    refine y_st rfl rfl rfl rfl rfl (fun _ _ => rfl) ?_
    refine y_st rfl rfl rfl rfl rfl (fun _ _ => rfl) ?_
    show yP (xg xs) (d + 1) 322 205 [(4, .int u1), (0, .ref 58), (1, .int l1), (2, .int l2)] [.int (0 : Int32), .int u1, .ref 76] m1 Q
    refine y_iast rfl rfl rfl (H.1) ?_
    replace H := H.2
    refine y_st rfl rfl rfl rfl rfl (fun _ _ => rfl) ?_
    refine y_gf rfl rfl rfl rfl rfl ?_
    refine y_st rfl rfl rfl rfl rfl (fun _ _ => rfl) ?_
    refine y_st rfl rfl rfl rfl rfl (fun _ _ => rfl) ?_
    refine y_gf rfl rfl rfl rfl rfl ?_
    refine y_st rfl rfl rfl rfl rfl (fun _ _ => rfl) ?_
    refine y_gf rfl rfl rfl rfl rfl ?_
    refine y_st rfl rfl rfl rfl rfl (fun _ _ => rfl) ?_
    show yP (xg xs) (d + 1) 322 221 [(4, .int u1), (0, .ref 58), (1, .int l1), (2, .int l2)] [.int l1, .ref 66, .ref 64, .int u1, .ref 77] (y_si m1 76 u1.toNatClampNeg (0 : Int32)) Q
    refine y_iald rfl rfl rfl (H.1) ?_
    replace H := H.2
    show yP (xg xs) (d + 1) 322 222 [(4, .int u1), (0, .ref 58), (1, .int l1), (2, .int l2)] [.int (m1.1 66 l1.toNatClampNeg), .ref 64, .int u1, .ref 77] (y_si m1 76 u1.toNatClampNeg (0 : Int32)) Q
    refine y_iald rfl rfl rfl (H.1) ?_
    replace H := H.2
    show yP (xg xs) (d + 1) 322 223 [(4, .int u1), (0, .ref 58), (1, .int l1), (2, .int l2)] [.int (m1.1 64 ((m1.1 66 l1.toNatClampNeg).toNatClampNeg)), .int u1, .ref 77] (y_si m1 76 u1.toNatClampNeg (0 : Int32)) Q
    refine y_iast rfl rfl rfl (H.1) ?_
    replace H := H.2
    refine y_st rfl rfl rfl rfl rfl (fun _ _ => rfl) ?_
    refine y_gf rfl rfl rfl rfl rfl ?_
    refine y_st rfl rfl rfl rfl rfl (fun _ _ => rfl) ?_
    refine y_st rfl rfl rfl rfl rfl (fun _ _ => rfl) ?_
    show yP (xg xs) (d + 1) 322 231 [(4, .int u1), (0, .ref 58), (1, .int l1), (2, .int l2)] [.int (0 : Int32), .int u1, .ref 80] (y_si (y_si m1 76 u1.toNatClampNeg (0 : Int32)) 77 u1.toNatClampNeg (m1.1 64 ((m1.1 66 l1.toNatClampNeg).toNatClampNeg))) Q
    refine y_iast rfl rfl rfl (H.1) ?_
    replace H := H.2
    refine y_st rfl rfl rfl rfl rfl (fun _ _ => rfl) ?_
    refine y_gf rfl rfl rfl rfl rfl ?_
    refine y_st rfl rfl rfl rfl rfl (fun _ _ => rfl) ?_
    refine y_st rfl rfl rfl rfl rfl (fun _ _ => rfl) ?_
    show yP (xg xs) (d + 1) 322 239 [(4, .int u1), (0, .ref 58), (1, .int l1), (2, .int l2)] [.int (3 : Int32), .int u1, .ref 81] (y_si (y_si (y_si m1 76 u1.toNatClampNeg (0 : Int32)) 77 u1.toNatClampNeg (m1.1 64 ((m1.1 66 l1.toNatClampNeg).toNatClampNeg))) 80 u1.toNatClampNeg (0 : Int32)) Q
    refine y_iast rfl rfl rfl (H.1) ?_
    replace H := H.2
    show yP (xg xs) (d + 1) 322 240 [(4, .int u1), (0, .ref 58), (1, .int l1), (2, .int l2)] [] (y_si (y_si (y_si (y_si m1 76 u1.toNatClampNeg (0 : Int32)) 77 u1.toNatClampNeg (m1.1 64 ((m1.1 66 l1.toNatClampNeg).toNatClampNeg))) 80 u1.toNatClampNeg (0 : Int32)) 81 u1.toNatClampNeg (3 : Int32)) Q
    exact y_ret rfl rfl rfl rfl H
set_option maxRecDepth 20000 in
/-- CodeMakerModel.rule from 0 on -/
theorem w323_0 (xs : List Int32) (d : Nat) (l1 : Int32) (l2 : Int32) (l3 : Int32) (m : yM) (Q : Option Value → yM → Prop) (H : ((l2 = 0 → Q none m) ∧ (¬ l2 = 0 → (x_in l3 20000 = true ∧ (yC (xg xs) d 276 [.ref 58, .int l1, .int (m.1 63 l3.toNatClampNeg)] m (fun v1 m1 => v1 = none ∧ Q none m1)))))) : yP (xg xs) (d + 1) 323 0 [(0, .ref 58), (1, .int l1), (2, .int l2), (3, .int l3)] [] m Q := by
  refine y_st rfl rfl rfl rfl rfl (fun _ _ => rfl) ?_
  show yP (xg xs) (d + 1) 323 1 [(0, .ref 58), (1, .int l1), (2, .int l2), (3, .int l3)] [.int l2] m Q
  refine y_zeq (t := 15) rfl rfl rfl (fun h => ?_) (fun h => ?_)
  · replace H := H.1 h; clear h
    show yP (xg xs) (d + 1) 323 15 [(0, .ref 58), (1, .int l1), (2, .int l2), (3, .int l3)] [] m Q
    exact y_ret rfl rfl rfl rfl H
  · replace H := H.2 h; clear h
    refine y_st rfl rfl rfl rfl rfl (fun _ _ => rfl) ?_
    refine y_st rfl rfl rfl rfl rfl (fun _ _ => rfl) ?_
    refine y_st rfl rfl rfl rfl rfl (fun _ _ => rfl) ?_
    refine y_gf rfl rfl rfl rfl rfl ?_
    refine y_st rfl rfl rfl rfl rfl (fun _ _ => rfl) ?_
    show yP (xg xs) (d + 1) 323 11 [(0, .ref 58), (1, .int l1), (2, .int l2), (3, .int l3)] [.int l3, .ref 63, .int l1, .ref 58] m Q
    refine y_iald rfl rfl rfl (H.1) ?_
    replace H := H.2
    show yP (xg xs) (d + 1) 323 12 [(0, .ref 58), (1, .int l1), (2, .int l2), (3, .int l3)] [.int (m.1 63 l3.toNatClampNeg), .int l1, .ref 58] m Q
    refine y_call rfl rfl rfl rfl rfl (Nat.le_of_ble_eq_true rfl) (Nat.le_of_ble_eq_true rfl) rfl (by decide) H (fun v1 m1 H => ?_)
    obtain ⟨rfl, H⟩ := H
    show yP (xg xs) (d + 1) 323 15 [(0, .ref 58), (1, .int l1), (2, .int l2), (3, .int l3)] [] m1 Q
    exact y_ret rfl rfl rfl rfl H
set_option maxRecDepth 20000 in
/-- CodeMakerModel.isGivenName from 0 on -/
theorem w324_0 (xs : List Int32) (d : Nat) (l1 : Int32) (m : yM) (Q : Option Value → yM → Prop) (H : (yC (xg xs) d 325 [.ref 58, .retAddr 25, .int l1] m (fun v1 m1 => ∃ u1, v1 = some (Value.int u1) ∧ ((¬ u1 = ((-1) : Int32) → Q (some (.int (1 : Int32))) m1) ∧ (u1 = ((-1) : Int32) → (yC (xg xs) d 325 [.ref 58, .retAddr 26, .int l1] m1 (fun v2 m2 => ∃ u2, v2 = some (Value.int u2) ∧ ((u2 = ((-1) : Int32) → Q (some (.int (0 : Int32))) m2) ∧ (¬ u2 = ((-1) : Int32) → Q (some (.int (1 : Int32))) m2))))))))) : yP (xg xs) (d + 1) 324 0 [(0, .ref 58), (1, .int l1)] [] m Q := by
  refine y_st rfl rfl rfl rfl rfl (fun _ _ => rfl) ?_
  refine y_st rfl rfl rfl rfl rfl (fun _ _ => rfl) ?_
  refine y_st rfl rfl rfl rfl rfl (fun _ _ => rfl) ?_
  show yP (xg xs) (d + 1) 324 5 [(0, .ref 58), (1, .int l1)] [.int l1, .retAddr 25, .ref 58] m Q
  refine y_call rfl rfl rfl rfl rfl (Nat.le_of_ble_eq_true rfl) (Nat.le_of_ble_eq_true rfl) rfl (by decide) H (fun v1 m1 H => ?_)
  obtain ⟨u1, rfl, H⟩ := H
  refine y_st rfl rfl rfl rfl rfl (fun _ _ => rfl) ?_
  show yP (xg xs) (d + 1) 324 9 [(0, .ref 58), (1, .int l1)] [.int ((-1) : Int32), .int u1] m1 Q
  refine y_ine (t := 24) rfl rfl rfl (fun h => ?_) (fun h => ?_)
  · replace H := H.1 h; clear h
    refine y_st rfl rfl rfl rfl rfl (fun _ _ => rfl) ?_
    refine y_st rfl rfl rfl rfl rfl (fun _ _ => rfl) ?_
    show yP (xg xs) (d + 1) 324 29 [(0, .ref 58), (1, .int l1)] [.int (1 : Int32)] m1 Q
    exact y_zret rfl rfl rfl (by decide) H
  · replace H := H.2 h; clear h
    refine y_st rfl rfl rfl rfl rfl (fun _ _ => rfl) ?_
    refine y_st rfl rfl rfl rfl rfl (fun _ _ => rfl) ?_
    refine y_st rfl rfl rfl rfl rfl (fun _ _ => rfl) ?_
    show yP (xg xs) (d + 1) 324 17 [(0, .ref 58), (1, .int l1)] [.int l1, .retAddr 26, .ref 58] m1 Q
    refine y_call rfl rfl rfl rfl rfl (Nat.le_of_ble_eq_true rfl) (Nat.le_of_ble_eq_true rfl) rfl (by decide) H (fun v2 m2 H => ?_)
    obtain ⟨u2, rfl, H⟩ := H
    refine y_st rfl rfl rfl rfl rfl (fun _ _ => rfl) ?_
    show yP (xg xs) (d + 1) 324 21 [(0, .ref 58), (1, .int l1)] [.int ((-1) : Int32), .int u2] m2 Q
    refine y_ieq (t := 28) rfl rfl rfl (fun h => ?_) (fun h => ?_)
    · replace H := H.1 h; clear h
      refine y_st rfl rfl rfl rfl rfl (fun _ _ => rfl) ?_
      show yP (xg xs) (d + 1) 324 29 [(0, .ref 58), (1, .int l1)] [.int (0 : Int32)] m2 Q
      exact y_zret rfl rfl rfl (by decide) H
    · replace H := H.2 h; clear h
      refine y_st rfl rfl rfl rfl rfl (fun _ _ => rfl) ?_
      refine y_st rfl rfl rfl rfl rfl (fun _ _ => rfl) ?_
      show yP (xg xs) (d + 1) 324 29 [(0, .ref 58), (1, .int l1)] [.int (1 : Int32)] m2 Q
      exact y_zret rfl rfl rfl (by decide) H
set_option maxRecDepth 20000 in
/-- CodeMakerModel.newVariable from 0 on -/
theorem w326_0 (xs : List Int32) (d : Nat) (l1 : Int32) (m : yM) (Q : Option Value → yM → Prop) (H : (x_in (m.1 58 30) 4700 = true ∧ (x_in (m.1 58 30) 4700 = true ∧ (x_in (m.1 58 30) 4700 = true ∧ (x_in (m.1 58 30) 4700 = true ∧ (x_in (m.1 58 30) 4700 = true ∧ Q (some (.int (m.1 58 30))) (y_si (y_si (y_si (y_si (y_si (y_si m 75 ((m.1 58 30).toNatClampNeg) l1) 76 ((m.1 58 30).toNatClampNeg) ((-1) : Int32)) 82 ((m.1 58 30).toNatClampNeg) ((-1) : Int32)) 83 ((m.1 58 30).toNatClampNeg) (0 : Int32)) 79 ((m.1 58 30).toNatClampNeg) (1 : Int32)) 58 30 ((m.1 58 30) + (1 : Int32))))))))) : yP (xg xs) (d + 1) 326 0 [(0, .ref 58), (1, .int l1)] [] m Q := by
  refine y_st rfl rfl rfl rfl rfl (fun _ _ => rfl) ?_
  refine y_gf rfl rfl rfl rfl rfl ?_
  refine y_st rfl rfl rfl rfl rfl (fun _ _ => rfl) ?_
  refine y_st rfl rfl rfl rfl rfl (fun _ _ => rfl) ?_
  refine y_gf rfl rfl rfl rfl rfl ?_
  refine y_st rfl rfl rfl rfl rfl (fun _ _ => rfl) ?_
  refine y_st rfl rfl rfl rfl rfl (fun _ _ => rfl) ?_
  show yP (xg xs) (d + 1) 326 11 [(2, .int (m.1 58 30)), (0, .ref 58), (1, .int l1)] [.int l1, .int (m.1 58 30), .ref 75] m Q
  refine y_iast rfl rfl rfl (H.1) ?_
  replace H := H.2
  refine y_st rfl rfl rfl rfl rfl (fun _ _ => rfl) ?_
  refine y_gf rfl rfl rfl rfl rfl ?_
  refine y_st rfl rfl rfl rfl rfl (fun _ _ => rfl) ?_
  refine y_st rfl rfl rfl rfl rfl (fun _ _ => rfl) ?_
  show yP (xg xs) (d + 1) 326 18 [(2, .int (m.1 58 30)), (0, .ref 58), (1, .int l1)] [.int ((-1) : Int32), .int (m.1 58 30), .ref 76] (y_si m 75 ((m.1 58 30).toNatClampNeg) l1) Q
  refine y_iast rfl rfl rfl (H.1) ?_
  replace H := H.2
  refine y_st rfl rfl rfl rfl rfl (fun _ _ => rfl) ?_
  refine y_gf rfl rfl rfl rfl rfl ?_
  refine y_st rfl rfl rfl rfl rfl (fun _ _ => rfl) ?_
  refine y_st rfl rfl rfl rfl rfl (fun _ _ => rfl) ?_
  show yP (xg xs) (d + 1) 326 25 [(2, .int (m.1 58 30)), (0, .ref 58), (1, .int l1)] [.int ((-1) : Int32), .int (m.1 58 30), .ref 82] (y_si (y_si m 75 ((m.1 58 30).toNatClampNeg) l1) 76 ((m.1 58 30).toNatClampNeg) ((-1) : Int32)) Q
  refine y_iast rfl rfl rfl (H.1) ?_
  replace H := H.2
  refine y_st rfl rfl rfl rfl rfl (fun _ _ => rfl) ?_
  refine y_gf rfl rfl rfl rfl rfl ?_
  refine y_st rfl rfl rfl rfl rfl (fun _ _ => rfl) ?_
  refine y_st rfl rfl rfl rfl rfl (fun _ _ => rfl) ?_
  show yP (xg xs) (d + 1) 326 32 [(2, .int (m.1 58 30)), (0, .ref 58), (1, .int l1)] [.int (0 : Int32), .int (m.1 58 30), .ref 83] (y_si (y_si (y_si m 75 ((m.1 58 30).toNatClampNeg) l1) 76 ((m.1 58 30).toNatClampNeg) ((-1) : Int32)) 82 ((m.1 58 30).toNatClampNeg) ((-1) : Int32)) Q
  refine y_iast rfl rfl rfl (H.1) ?_
  replace H := H.2
  refine y_st rfl rfl rfl rfl rfl (fun _ _ => rfl) ?_
  refine y_gf rfl rfl rfl rfl rfl ?_
  refine y_st rfl rfl rfl rfl rfl (fun _ _ => rfl) ?_
  refine y_st rfl rfl rfl rfl rfl (fun _ _ => rfl) ?_
  show yP (xg xs) (d + 1) 326 39 [(2, .int (m.1 58 30)), (0, .ref 58), (1, .int l1)] [.int (1 : Int32), .int (m.1 58 30), .ref 79] (y_si (y_si (y_si (y_si m 75 ((m.1 58 30).toNatClampNeg) l1) 76 ((m.1 58 30).toNatClampNeg) ((-1) : Int32)) 82 ((m.1 58 30).toNatClampNeg) ((-1) : Int32)) 83 ((m.1 58 30).toNatClampNeg) (0 : Int32)) Q
  refine y_iast rfl rfl rfl (H.1) ?_
  replace H := H.2
  refine y_st rfl rfl rfl rfl rfl (fun _ _ => rfl) ?_
  refine y_st rfl rfl rfl rfl rfl (fun _ _ => rfl) ?_
  refine y_gf rfl rfl rfl rfl rfl ?_
  refine y_st rfl rfl rfl rfl rfl (fun _ _ => rfl) ?_
  refine y_st rfl rfl rfl rfl rfl (fun _ _ => rfl) ?_
  refine y_pfi rfl rfl rfl rfl rfl (x_fit_i _) ?_
  show yP (xg xs) (d + 1) 326 50 [(2, .int (m.1 58 30)), (0, .ref 58), (1, .int l1)] [] (y_si (y_si (y_si (y_si (y_si (y_si m 75 ((m.1 58 30).toNatClampNeg) l1) 76 ((m.1 58 30).toNatClampNeg) ((-1) : Int32)) 82 ((m.1 58 30).toNatClampNeg) ((-1) : Int32)) 83 ((m.1 58 30).toNatClampNeg) (0 : Int32)) 79 ((m.1 58 30).toNatClampNeg) (1 : Int32)) 58 30 ((m.1 58 30) + (1 : Int32))) Q
  refine y_st rfl rfl rfl rfl rfl (fun _ _ => rfl) ?_
  show yP (xg xs) (d + 1) 326 51 [(2, .int (m.1 58 30)), (0, .ref 58), (1, .int l1)] [.int (m.1 58 30)] (y_si (y_si (y_si (y_si (y_si (y_si m 75 ((m.1 58 30).toNatClampNeg) l1) 76 ((m.1 58 30).toNatClampNeg) ((-1) : Int32)) 82 ((m.1 58 30).toNatClampNeg) ((-1) : Int32)) 83 ((m.1 58 30).toNatClampNeg) (0 : Int32)) 79 ((m.1 58 30).toNatClampNeg) (1 : Int32)) 58 30 ((m.1 58 30) + (1 : Int32))) Q
  exact y_iret rfl rfl rfl H
set_option maxRecDepth 20000 in
/-- CodeMakerModel.judgePlan from 0 on -/
theorem w327_0 (xs : List Int32) (d : Nat) (l1 : Int32) (l2 : Int32) (m : yM) (Q : Option Value → yM → Prop) (H : ((l2 = (0 : Int32) → ((¬ (m.1 58 29) = 0 → yP (xg xs) (d + 1) 327 75 [(0, .ref 58), (1, .int l1)] [.int (0 : Int32), .int (10 : Int32), .ref 58] m Q) ∧ ((m.1 58 29) = 0 → yP (xg xs) (d + 1) 327 75 [(0, .ref 58), (1, .int l1)] [.int (1 : Int32), .int (10 : Int32), .ref 58] m Q))) ∧ (l2 = (1 : Int32) → ((¬ l2 = (1 : Int32) → yP (xg xs) (d + 1) 327 131 [(0, .ref 58), (1, .int l1)] [.int (44 : Int32), .ref 58] m Q) ∧ (l2 = (1 : Int32) → (yC (xg xs) d 329 [.ref 58, .int ((m.1 58 23) - (1 : Int32))] m (fun v1 m1 => ∃ u1, v1 = some (Value.int u1) ∧ ((u1 ≤ (8 : Int32) → yP (xg xs) (d + 1) 327 131 [(0, .ref 58), (1, .int l1)] [.int (44 : Int32), .ref 58] m1 Q) ∧ (¬ u1 ≤ (8 : Int32) → yP (xg xs) (d + 1) 327 132 [(0, .ref 58), (1, .int l1)] [.int (1 : Int32), .int (44 : Int32), .ref 58] m1 Q))))))) ∧ (l2 = (2 : Int32) → ((¬ l2 = (1 : Int32) → yP (xg xs) (d + 1) 327 131 [(0, .ref 58), (1, .int l1)] [.int (44 : Int32), .ref 58] m Q) ∧ (l2 = (1 : Int32) → (yC (xg xs) d 329 [.ref 58, .int ((m.1 58 23) - (1 : Int32))] m (fun v2 m2 => ∃ u2, v2 = some (Value.int u2) ∧ ((u2 ≤ (8 : Int32) → yP (xg xs) (d + 1) 327 131 [(0, .ref 58), (1, .int l1)] [.int (44 : Int32), .ref 58] m2 Q) ∧ (¬ u2 ≤ (8 : Int32) → yP (xg xs) (d + 1) 327 132 [(0, .ref 58), (1, .int l1)] [.int (1 : Int32), .int (44 : Int32), .ref 58] m2 Q))))))) ∧ (l2 = (3 : Int32) → ((¬ l2 = (1 : Int32) → yP (xg xs) (d + 1) 327 131 [(0, .ref 58), (1, .int l1)] [.int (44 : Int32), .ref 58] m Q) ∧ (l2 = (1 : Int32) → (yC (xg xs) d 329 [.ref 58, .int ((m.1 58 23) - (1 : Int32))] m (fun v3 m3 => ∃ u3, v3 = some (Value.int u3) ∧ ((u3 ≤ (8 : Int32) → yP (xg xs) (d + 1) 327 131 [(0, .ref 58), (1, .int l1)] [.int (44 : Int32), .ref 58] m3 Q) ∧ (¬ u3 ≤ (8 : Int32) → yP (xg xs) (d + 1) 327 132 [(0, .ref 58), (1, .int l1)] [.int (1 : Int32), .int (44 : Int32), .ref 58] m3 Q))))))) ∧ (l2 = (4 : Int32) → (yC (xg xs) d 331 [.ref 58] m (fun v4 m4 => ∃ u4, v4 = some (Value.int u4) ∧ ((¬ u4 = (3 : Int32) → yP (xg xs) (d + 1) 327 221 [(0, .ref 58), (1, .int l1)] [.int (13 : Int32), .ref 58] m4 Q) ∧ (u4 = (3 : Int32) → (x_in l1 20000 = true ∧ ((¬ (m4.1 64 l1.toNatClampNeg) = 0 → yP (xg xs) (d + 1) 327 239 [(1, .int l1)] [.int (13 : Int32), .ref 58] m4 Q) ∧ ((m4.1 64 l1.toNatClampNeg) = 0 → yP (xg xs) (d + 1) 327 221 [(0, .ref 58), (1, .int l1)] [.int (13 : Int32), .ref 58] m4 Q)))))))) ∧ (l2 = (5 : Int32) → (yC (xg xs) d 332 [.ref 58, .int l1] m (fun v5 m5 => v5 = none ∧ Q none m5))) ∧ (l2 = (6 : Int32) → (yC (xg xs) d 336 [.ref 58, .int l1] m (fun v6 m6 => v6 = none ∧ Q none m6))) ∧ (l2 = (7 : Int32) → (yC (xg xs) d 339 [.ref 58, .int l1] m (fun v7 m7 => v7 = none ∧ Q none m7))) ∧ (l2 = (9 : Int32) → (x_in l1 20000 = true ∧ (x_in (m.1 66 l1.toNatClampNeg) 20000 = true ∧ (x_in (m.1 66 l1.toNatClampNeg) 20000 = true ∧ (((m.1 62 ((m.1 66 l1.toNatClampNeg).toNatClampNeg)) = (31 : Int32) → yP (xg xs) (d + 1) 327 352 [(0, .ref 58), (1, .int l1)] [] m Q) ∧ (¬ (m.1 62 ((m.1 66 l1.toNatClampNeg).toNatClampNeg)) = (31 : Int32) → (x_in (m.1 68 ((m.1 66 l1.toNatClampNeg).toNatClampNeg)) 20000 = true ∧ (((m.1 62 ((m.1 68 ((m.1 66 l1.toNatClampNeg).toNatClampNeg)).toNatClampNeg)) = (31 : Int32) → yP (xg xs) (d + 1) 327 352 [(0, .ref 58), (1, .int l1)] [] m Q) ∧ (¬ (m.1 62 ((m.1 68 ((m.1 66 l1.toNatClampNeg).toNatClampNeg)).toNatClampNeg)) = (31 : Int32) → (x_in (m.1 66 l1.toNatClampNeg) 20000 = true ∧ (x_in (m.1 68 ((m.1 66 l1.toNatClampNeg).toNatClampNeg)) 20000 = true ∧ (((m.1 64 ((m.1 68 ((m.1 66 l1.toNatClampNeg).toNatClampNeg)).toNatClampNeg)) < (m.1 64 ((m.1 66 l1.toNatClampNeg).toNatClampNeg)) → yP (xg xs) (d + 1) 327 352 [(0, .ref 58), (1, .int l1)] [] m Q) ∧ (¬ (m.1 64 ((m.1 68 ((m.1 66 l1.toNatClampNeg).toNatClampNeg)).toNatClampNeg)) < (m.1 64 ((m.1 66 l1.toNatClampNeg).toNatClampNeg)) → (x_in (m.1 68 ((m.1 66 l1.toNatClampNeg).toNatClampNeg)) 20000 = true ∧ (x_in (m.1 66 l1.toNatClampNeg) 20000 = true ∧ (((lg_cmp (((m.1 64 ((m.1 68 ((m.1 66 l1.toNatClampNeg).toNatClampNeg)).toNatClampNeg)).toInt64) - ((m.1 64 ((m.1 66 l1.toNatClampNeg).toNatClampNeg)).toInt64)) (256 : Int64)) < 0 → yP (xg xs) (d + 1) 327 357 [(0, .ref 58), (1, .int l1)] [.int (0 : Int32)] m Q) ∧ (¬ (lg_cmp (((m.1 64 ((m.1 68 ((m.1 66 l1.toNatClampNeg).toNatClampNeg)).toNatClampNeg)).toInt64) - ((m.1 64 ((m.1 66 l1.toNatClampNeg).toNatClampNeg)).toInt64)) (256 : Int64)) < 0 → yP (xg xs) (d + 1) 327 352 [(0, .ref 58), (1, .int l1)] [] m Q))))))))))))))))) ∧ (l2 = (10 : Int32) → (yC (xg xs) d 331 [.ref 58] m (fun v8 m8 => ∃ u8, v8 = some (Value.int u8) ∧ ((u8 = (1 : Int32) → yP (xg xs) (d + 1) 327 430 [(1, .int l1)] [.int (17 : Int32), .ref 58] m8 Q) ∧ (¬ u8 = (1 : Int32) → (x_in l1 20000 = true ∧ (yC (xg xs) d 325 [.ref 58, .retAddr 25, .int (m8.1 64 l1.toNatClampNeg)] m8 (fun v9 m9 => ∃ u9, v9 = some (Value.int u9) ∧ ((¬ u9 = ((-1) : Int32) → yP (xg xs) (d + 1) 327 434 [(1, .int l1)] [.int (17 : Int32), .ref 58] m9 Q) ∧ (u9 = ((-1) : Int32) → (x_in l1 20000 = true ∧ (yC (xg xs) d 333 [.ref 58, .int (2 : Int32), .int (m9.1 64 l1.toNatClampNeg)] m9 (fun v10 m10 => ∃ u10, v10 = some (Value.int u10) ∧ ((¬ u10 = ((-1) : Int32) → yP (xg xs) (d + 1) 327 434 [(1, .int l1)] [.int (17 : Int32), .ref 58] m10 Q) ∧ (u10 = ((-1) : Int32) → yP (xg xs) (d + 1) 327 430 [(1, .int l1)] [.int (17 : Int32), .ref 58] m10 Q))))))))))))))) ∧ (¬ l2 = (0 : Int32) → ¬ l2 = (1 : Int32) → ¬ l2 = (2 : Int32) → ¬ l2 = (3 : Int32) → ¬ l2 = (4 : Int32) → ¬ l2 = (5 : Int32) → ¬ l2 = (6 : Int32) → ¬ l2 = (7 : Int32) → ¬ l2 = (9 : Int32) → ¬ l2 = (10 : Int32) → Q none m))) : yP (xg xs) (d + 1) 327 0 [(0, .ref 58), (1, .int l1), (2, .int l2)] [] m Q := by
  refine y_st rfl rfl rfl rfl rfl (fun _ _ => rfl) ?_
  show yP (xg xs) (d + 1) 327 1 [(0, .ref 58), (1, .int l1), (2, .int l2)] [.int l2] m Q
  by_cases h0 : l2 = (0 : Int32)
  · replace H := H.1 h0
    refine y_tsw (t := 60) rfl rfl (by rw [h0]; rfl) ?_
    clear h0
    refine y_st rfl rfl rfl rfl rfl (fun _ _ => rfl) ?_
    refine y_st rfl rfl rfl rfl rfl (fun _ _ => rfl) ?_
    refine y_st rfl rfl rfl rfl rfl (fun _ _ => rfl) ?_
    refine y_gf rfl rfl rfl rfl rfl ?_
    show yP (xg xs) (d + 1) 327 67 [(0, .ref 58), (1, .int l1), (2, .int l2)] [.int (m.1 58 29), .int (10 : Int32), .ref 58] m Q
    refine y_zne (t := 74) rfl rfl rfl (fun h => ?_) (fun h => ?_)
    · replace H := H.1 h; clear h
      refine y_st rfl rfl rfl rfl rfl (fun _ _ => rfl) ?_
      show yP (xg xs) (d + 1) 327 75 [(0, .ref 58), (1, .int l1), (2, .int l2)] [.int (0 : Int32), .int (10 : Int32), .ref 58] m Q
      refine y_headS (l2 := [(0, .ref 58), (1, .int l1)]) [0, 1] [0, 1] [0, 1, 2] rfl rfl (by decide) rfl (by decide) ?_
      exact H
    · replace H := H.2 h; clear h
      refine y_st rfl rfl rfl rfl rfl (fun _ _ => rfl) ?_
      refine y_st rfl rfl rfl rfl rfl (fun _ _ => rfl) ?_
      show yP (xg xs) (d + 1) 327 75 [(0, .ref 58), (1, .int l1), (2, .int l2)] [.int (1 : Int32), .int (10 : Int32), .ref 58] m Q
      refine y_headS (l2 := [(0, .ref 58), (1, .int l1)]) [0, 1] [0, 1] [0, 1, 2] rfl rfl (by decide) rfl (by decide) ?_
      exact H
  replace H := H.2
  by_cases h1 : l2 = (1 : Int32)
  · replace H := H.1 h1
    refine y_tsw (t := 104) rfl rfl (by rw [h1]; rfl) ?_
    clear h1 h0
    refine y_st rfl rfl rfl rfl rfl (fun _ _ => rfl) ?_
    refine y_st rfl rfl rfl rfl rfl (fun _ _ => rfl) ?_
    refine y_st rfl rfl rfl rfl rfl (fun _ _ => rfl) ?_
    refine y_st rfl rfl rfl rfl rfl (fun _ _ => rfl) ?_
    show yP (xg xs) (d + 1) 327 109 [(0, .ref 58), (1, .int l1), (2, .int l2)] [.int (1 : Int32), .int l2, .int (44 : Int32), .ref 58] m Q
    refine y_ine (t := 131) rfl rfl rfl (fun h => ?_) (fun h => ?_)
    · replace H := H.1 h; clear h
      show yP (xg xs) (d + 1) 327 131 [(0, .ref 58), (1, .int l1), (2, .int l2)] [.int (44 : Int32), .ref 58] m Q
      refine y_headS (l2 := [(0, .ref 58), (1, .int l1)]) [0, 1] [0, 1] [0, 1, 2] rfl rfl (by decide) rfl (by decide) ?_
      exact H
    · replace H := H.2 h; clear h
      refine y_st rfl rfl rfl rfl rfl (fun _ _ => rfl) ?_
      refine y_st rfl rfl rfl rfl rfl (fun _ _ => rfl) ?_
      refine y_gf rfl rfl rfl rfl rfl ?_
      refine y_st rfl rfl rfl rfl rfl (fun _ _ => rfl) ?_
      refine y_st rfl rfl rfl rfl rfl (fun _ _ => rfl) ?_
      show yP (xg xs) (d + 1) 327 119 [(0, .ref 58), (1, .int l1), (2, .int l2)] [.int ((m.1 58 23) - (1 : Int32)), .ref 58, .int (44 : Int32), .ref 58] m Q
      refine y_call rfl rfl rfl rfl rfl (Nat.le_of_ble_eq_true rfl) (Nat.le_of_ble_eq_true rfl) rfl (by decide) H (fun v1 m1 H => ?_)
      obtain ⟨u1, rfl, H⟩ := H
      refine y_st rfl rfl rfl rfl rfl (fun _ _ => rfl) ?_
      show yP (xg xs) (d + 1) 327 124 [(0, .ref 58), (1, .int l1), (2, .int l2)] [.int (8 : Int32), .int u1, .int (44 : Int32), .ref 58] m1 Q
      refine y_ile (t := 131) rfl rfl rfl (fun h => ?_) (fun h => ?_)
      · replace H := H.1 h; clear h
        show yP (xg xs) (d + 1) 327 131 [(0, .ref 58), (1, .int l1), (2, .int l2)] [.int (44 : Int32), .ref 58] m1 Q
        refine y_headS (l2 := [(0, .ref 58), (1, .int l1)]) [0, 1] [0, 1] [0, 1, 2] rfl rfl (by decide) rfl (by decide) ?_
        exact H
      · replace H := H.2 h; clear h
        refine y_st rfl rfl rfl rfl rfl (fun _ _ => rfl) ?_
        refine y_st rfl rfl rfl rfl rfl (fun _ _ => rfl) ?_
        show yP (xg xs) (d + 1) 327 132 [(0, .ref 58), (1, .int l1), (2, .int l2)] [.int (1 : Int32), .int (44 : Int32), .ref 58] m1 Q
        refine y_headS (l2 := [(0, .ref 58), (1, .int l1)]) [0, 1] [0, 1] [0, 1, 2] rfl rfl (by decide) rfl (by decide) ?_
        exact H
  replace H := H.2
  by_cases h2 : l2 = (2 : Int32)
  · replace H := H.1 h2
    refine y_tsw (t := 104) rfl rfl (by rw [h2]; rfl) ?_
    clear h2 h1 h0
    refine y_st rfl rfl rfl rfl rfl (fun _ _ => rfl) ?_
    refine y_st rfl rfl rfl rfl rfl (fun _ _ => rfl) ?_
    refine y_st rfl rfl rfl rfl rfl (fun _ _ => rfl) ?_
    refine y_st rfl rfl rfl rfl rfl (fun _ _ => rfl) ?_
    show yP (xg xs) (d + 1) 327 109 [(0, .ref 58), (1, .int l1), (2, .int l2)] [.int (1 : Int32), .int l2, .int (44 : Int32), .ref 58] m Q
    refine y_ine (t := 131) rfl rfl rfl (fun h => ?_) (fun h => ?_)
    · replace H := H.1 h; clear h
      show yP (xg xs) (d + 1) 327 131 [(0, .ref 58), (1, .int l1), (2, .int l2)] [.int (44 : Int32), .ref 58] m Q
      refine y_headS (l2 := [(0, .ref 58), (1, .int l1)]) [0, 1] [0, 1] [0, 1, 2] rfl rfl (by decide) rfl (by decide) ?_
      exact H
    · replace H := H.2 h; clear h
      refine y_st rfl rfl rfl rfl rfl (fun _ _ => rfl) ?_
      refine y_st rfl rfl rfl rfl rfl (fun _ _ => rfl) ?_
      refine y_gf rfl rfl rfl rfl rfl ?_
      refine y_st rfl rfl rfl rfl rfl (fun _ _ => rfl) ?_
      refine y_st rfl rfl rfl rfl rfl (fun _ _ => rfl) ?_
      show yP (xg xs) (d + 1) 327 119 [(0, .ref 58), (1, .int l1), (2, .int l2)] [.int ((m.1 58 23) - (1 : Int32)), .ref 58, .int (44 : Int32), .ref 58] m Q
      refine y_call rfl rfl rfl rfl rfl (Nat.le_of_ble_eq_true rfl) (Nat.le_of_ble_eq_true rfl) rfl (by decide) H (fun v2 m2 H => ?_)
      obtain ⟨u2, rfl, H⟩ := H
      refine y_st rfl rfl rfl rfl rfl (fun _ _ => rfl) ?_
      show yP (xg xs) (d + 1) 327 124 [(0, .ref 58), (1, .int l1), (2, .int l2)] [.int (8 : Int32), .int u2, .int (44 : Int32), .ref 58] m2 Q
      refine y_ile (t := 131) rfl rfl rfl (fun h => ?_) (fun h => ?_)
      · replace H := H.1 h; clear h
        show yP (xg xs) (d + 1) 327 131 [(0, .ref 58), (1, .int l1), (2, .int l2)] [.int (44 : Int32), .ref 58] m2 Q
        refine y_headS (l2 := [(0, .ref 58), (1, .int l1)]) [0, 1] [0, 1] [0, 1, 2] rfl rfl (by decide) rfl (by decide) ?_
        exact H
      · replace H := H.2 h; clear h
        refine y_st rfl rfl rfl rfl rfl (fun _ _ => rfl) ?_
        refine y_st rfl rfl rfl rfl rfl (fun _ _ => rfl) ?_
        show yP (xg xs) (d + 1) 327 132 [(0, .ref 58), (1, .int l1), (2, .int l2)] [.int (1 : Int32), .int (44 : Int32), .ref 58] m2 Q
        refine y_headS (l2 := [(0, .ref 58), (1, .int l1)]) [0, 1] [0, 1] [0, 1, 2] rfl rfl (by decide) rfl (by decide) ?_
        exact H
  replace H := H.2
  by_cases h3 : l2 = (3 : Int32)
  · replace H := H.1 h3
    refine y_tsw (t := 104) rfl rfl (by rw [h3]; rfl) ?_
    clear h3 h2 h1 h0
    refine y_st rfl rfl rfl rfl rfl (fun _ _ => rfl) ?_
    refine y_st rfl rfl rfl rfl rfl (fun _ _ => rfl) ?_
    refine y_st rfl rfl rfl rfl rfl (fun _ _ => rfl) ?_
    refine y_st rfl rfl rfl rfl rfl (fun _ _ => rfl) ?_
    show yP (xg xs) (d + 1) 327 109 [(0, .ref 58), (1, .int l1), (2, .int l2)] [.int (1 : Int32), .int l2, .int (44 : Int32), .ref 58] m Q
    refine y_ine (t := 131) rfl rfl rfl (fun h => ?_) (fun h => ?_)
    · replace H := H.1 h; clear h
      show yP (xg xs) (d + 1) 327 131 [(0, .ref 58), (1, .int l1), (2, .int l2)] [.int (44 : Int32), .ref 58] m Q
      refine y_headS (l2 := [(0, .ref 58), (1, .int l1)]) [0, 1] [0, 1] [0, 1, 2] rfl rfl (by decide) rfl (by decide) ?_
      exact H
    · replace H := H.2 h; clear h
      refine y_st rfl rfl rfl rfl rfl (fun _ _ => rfl) ?_
      refine y_st rfl rfl rfl rfl rfl (fun _ _ => rfl) ?_
      refine y_gf rfl rfl rfl rfl rfl ?_
      refine y_st rfl rfl rfl rfl rfl (fun _ _ => rfl) ?_
      refine y_st rfl rfl rfl rfl rfl (fun _ _ => rfl) ?_
      show yP (xg xs) (d + 1) 327 119 [(0, .ref 58), (1, .int l1), (2, .int l2)] [.int ((m.1 58 23) - (1 : Int32)), .ref 58, .int (44 : Int32), .ref 58] m Q
      refine y_call rfl rfl rfl rfl rfl (Nat.le_of_ble_eq_true rfl) (Nat.le_of_ble_eq_true rfl) rfl (by decide) H (fun v3 m3 H => ?_)
      obtain ⟨u3, rfl, H⟩ := H
      refine y_st rfl rfl rfl rfl rfl (fun _ _ => rfl) ?_
      show yP (xg xs) (d + 1) 327 124 [(0, .ref 58), (1, .int l1), (2, .int l2)] [.int (8 : Int32), .int u3, .int (44 : Int32), .ref 58] m3 Q
      refine y_ile (t := 131) rfl rfl rfl (fun h => ?_) (fun h => ?_)
      · replace H := H.1 h; clear h
        show yP (xg xs) (d + 1) 327 131 [(0, .ref 58), (1, .int l1), (2, .int l2)] [.int (44 : Int32), .ref 58] m3 Q
        refine y_headS (l2 := [(0, .ref 58), (1, .int l1)]) [0, 1] [0, 1] [0, 1, 2] rfl rfl (by decide) rfl (by decide) ?_
        exact H
      · replace H := H.2 h; clear h
        refine y_st rfl rfl rfl rfl rfl (fun _ _ => rfl) ?_
        refine y_st rfl rfl rfl rfl rfl (fun _ _ => rfl) ?_
        show yP (xg xs) (d + 1) 327 132 [(0, .ref 58), (1, .int l1), (2, .int l2)] [.int (1 : Int32), .int (44 : Int32), .ref 58] m3 Q
        refine y_headS (l2 := [(0, .ref 58), (1, .int l1)]) [0, 1] [0, 1] [0, 1, 2] rfl rfl (by decide) rfl (by decide) ?_
        exact H
  replace H := H.2
  by_cases h4 : l2 = (4 : Int32)
  · replace H := H.1 h4
    refine y_tsw (t := 201) rfl rfl (by rw [h4]; rfl) ?_
    clear h4 h3 h2 h1 h0
    refine y_st rfl rfl rfl rfl rfl (fun _ _ => rfl) ?_
    refine y_st rfl rfl rfl rfl rfl (fun _ _ => rfl) ?_
    refine y_st rfl rfl rfl rfl rfl (fun _ _ => rfl) ?_
    show yP (xg xs) (d + 1) 327 205 [(0, .ref 58), (1, .int l1), (2, .int l2)] [.ref 58, .int (13 : Int32), .ref 58] m Q
    refine y_call rfl rfl rfl rfl rfl (Nat.le_of_ble_eq_true rfl) (Nat.le_of_ble_eq_true rfl) rfl (by decide) H (fun v4 m4 H => ?_)
    obtain ⟨u4, rfl, H⟩ := H
    refine y_st rfl rfl rfl rfl rfl (fun _ _ => rfl) ?_
    show yP (xg xs) (d + 1) 327 209 [(0, .ref 58), (1, .int l1), (2, .int l2)] [.int (3 : Int32), .int u4, .int (13 : Int32), .ref 58] m4 Q
    refine y_ine (t := 221) rfl rfl rfl (fun h => ?_) (fun h => ?_)
    · replace H := H.1 h; clear h
      show yP (xg xs) (d + 1) 327 221 [(0, .ref 58), (1, .int l1), (2, .int l2)] [.int (13 : Int32), .ref 58] m4 Q
      refine y_headS (l2 := [(0, .ref 58), (1, .int l1)]) [0, 1] [0, 1] [0, 1, 2] rfl rfl (by decide) rfl (by decide) ?_
      exact H
    · replace H := H.2 h; clear h
      refine y_st rfl rfl rfl rfl rfl (fun _ _ => rfl) ?_
      refine y_gf rfl rfl rfl rfl rfl ?_
      refine y_st rfl rfl rfl rfl rfl (fun _ _ => rfl) ?_
      show yP (xg xs) (d + 1) 327 217 [(0, .ref 58), (1, .int l1), (2, .int l2)] [.int l1, .ref 64, .int (13 : Int32), .ref 58] m4 Q
      refine y_iald rfl rfl rfl (H.1) ?_
      replace H := H.2
      show yP (xg xs) (d + 1) 327 218 [(0, .ref 58), (1, .int l1), (2, .int l2)] [.int (m4.1 64 l1.toNatClampNeg), .int (13 : Int32), .ref 58] m4 Q
      refine y_zne (t := 239) rfl rfl rfl (fun h => ?_) (fun h => ?_)
      · replace H := H.1 h; clear h
        show yP (xg xs) (d + 1) 327 239 [(0, .ref 58), (1, .int l1), (2, .int l2)] [.int (13 : Int32), .ref 58] m4 Q
        refine y_headS (l2 := [(1, .int l1)]) [1] [1] [0, 1, 2] rfl rfl (by decide) rfl (by decide) ?_
        exact H
      · replace H := H.2 h; clear h
        show yP (xg xs) (d + 1) 327 221 [(0, .ref 58), (1, .int l1), (2, .int l2)] [.int (13 : Int32), .ref 58] m4 Q
        refine y_headS (l2 := [(0, .ref 58), (1, .int l1)]) [0, 1] [0, 1] [0, 1, 2] rfl rfl (by decide) rfl (by decide) ?_
        exact H
  replace H := H.2
  by_cases h5 : l2 = (5 : Int32)
  · replace H := H.1 h5
    refine y_tsw (t := 251) rfl rfl (by rw [h5]; rfl) ?_
    clear h5 h4 h3 h2 h1 h0
    refine y_st rfl rfl rfl rfl rfl (fun _ _ => rfl) ?_
    refine y_st rfl rfl rfl rfl rfl (fun _ _ => rfl) ?_
    show yP (xg xs) (d + 1) 327 253 [(0, .ref 58), (1, .int l1), (2, .int l2)] [.int l1, .ref 58] m Q
    refine y_call rfl rfl rfl rfl rfl (Nat.le_of_ble_eq_true rfl) (Nat.le_of_ble_eq_true rfl) rfl (by decide) H (fun v5 m5 H => ?_)
    obtain ⟨rfl, H⟩ := H
    refine y_st rfl rfl rfl rfl rfl (fun _ _ => rfl) ?_
    show yP (xg xs) (d + 1) 327 442 [(0, .ref 58), (1, .int l1), (2, .int l2)] [] m5 Q
    exact y_ret rfl rfl rfl rfl H
  replace H := H.2
  by_cases h6 : l2 = (6 : Int32)
  · replace H := H.1 h6
    refine y_tsw (t := 259) rfl rfl (by rw [h6]; rfl) ?_
    clear h6 h5 h4 h3 h2 h1 h0
    refine y_st rfl rfl rfl rfl rfl (fun _ _ => rfl) ?_
    refine y_st rfl rfl rfl rfl rfl (fun _ _ => rfl) ?_
    show yP (xg xs) (d + 1) 327 261 [(0, .ref 58), (1, .int l1), (2, .int l2)] [.int l1, .ref 58] m Q
    refine y_call rfl rfl rfl rfl rfl (Nat.le_of_ble_eq_true rfl) (Nat.le_of_ble_eq_true rfl) rfl (by decide) H (fun v6 m6 H => ?_)
    obtain ⟨rfl, H⟩ := H
    refine y_st rfl rfl rfl rfl rfl (fun _ _ => rfl) ?_
    show yP (xg xs) (d + 1) 327 442 [(0, .ref 58), (1, .int l1), (2, .int l2)] [] m6 Q
    exact y_ret rfl rfl rfl rfl H
  replace H := H.2
  by_cases h7 : l2 = (7 : Int32)
  · replace H := H.1 h7
    refine y_tsw (t := 267) rfl rfl (by rw [h7]; rfl) ?_
    clear h7 h6 h5 h4 h3 h2 h1 h0
    refine y_st rfl rfl rfl rfl rfl (fun _ _ => rfl) ?_
    refine y_st rfl rfl rfl rfl rfl (fun _ _ => rfl) ?_
    show yP (xg xs) (d + 1) 327 269 [(0, .ref 58), (1, .int l1), (2, .int l2)] [.int l1, .ref 58] m Q
    refine y_call rfl rfl rfl rfl rfl (Nat.le_of_ble_eq_true rfl) (Nat.le_of_ble_eq_true rfl) rfl (by decide) H (fun v7 m7 H => ?_)
    obtain ⟨rfl, H⟩ := H
    refine y_st rfl rfl rfl rfl rfl (fun _ _ => rfl) ?_
    show yP (xg xs) (d + 1) 327 442 [(0, .ref 58), (1, .int l1), (2, .int l2)] [] m7 Q
    exact y_ret rfl rfl rfl rfl H
  replace H := H.2
  by_cases h9 : l2 = (9 : Int32)
  · replace H := H.1 h9
    refine y_tsw (t := 275) rfl rfl (by rw [h9]; rfl) ?_
    clear h9 h7 h6 h5 h4 h3 h2 h1 h0
    refine y_st rfl rfl rfl rfl rfl (fun _ _ => rfl) ?_
    refine y_gf rfl rfl rfl rfl rfl ?_
    refine y_st rfl rfl rfl rfl rfl (fun _ _ => rfl) ?_
    show yP (xg xs) (d + 1) 327 280 [(0, .ref 58), (1, .int l1), (2, .int l2)] [.int l1, .ref 66] m Q
    refine y_iald rfl rfl rfl (H.1) ?_
    replace H := H.2
    refine y_st rfl rfl rfl rfl rfl (fun _ _ => rfl) ?_
    refine y_st rfl rfl rfl rfl rfl (fun _ _ => rfl) ?_
    refine y_gf rfl rfl rfl rfl rfl ?_
    refine y_st rfl rfl rfl rfl rfl (fun _ _ => rfl) ?_
    show yP (xg xs) (d + 1) 327 287 [(3, .int (m.1 66 l1.toNatClampNeg)), (0, .ref 58), (1, .int l1), (2, .int l2)] [.int (m.1 66 l1.toNatClampNeg), .ref 68] m Q
    refine y_iald rfl rfl rfl (H.1) ?_
    replace H := H.2
    refine y_st rfl rfl rfl rfl rfl (fun _ _ => rfl) ?_
    refine y_st rfl rfl rfl rfl rfl (fun _ _ => rfl) ?_
    refine y_gf rfl rfl rfl rfl rfl ?_
    refine y_st rfl rfl rfl rfl rfl (fun _ _ => rfl) ?_
    show yP (xg xs) (d + 1) 327 295 [(4, .int (m.1 68 ((m.1 66 l1.toNatClampNeg).toNatClampNeg))), (3, .int (m.1 66 l1.toNatClampNeg)), (0, .ref 58), (1, .int l1), (2, .int l2)] [.int (m.1 66 l1.toNatClampNeg), .ref 62] m Q
    refine y_iald rfl rfl rfl (H.1) ?_
    replace H := H.2
    refine y_st rfl rfl rfl rfl rfl (fun _ _ => rfl) ?_
    show yP (xg xs) (d + 1) 327 298 [(4, .int (m.1 68 ((m.1 66 l1.toNatClampNeg).toNatClampNeg))), (3, .int (m.1 66 l1.toNatClampNeg)), (0, .ref 58), (1, .int l1), (2, .int l2)] [.int (31 : Int32), .int (m.1 62 ((m.1 66 l1.toNatClampNeg).toNatClampNeg))] m Q
    refine y_ieq (t := 352) rfl rfl rfl (fun h => ?_) (fun h => ?_)
    · replace H := H.1 h; clear h
      show yP (xg xs) (d + 1) 327 352 [(4, .int (m.1 68 ((m.1 66 l1.toNatClampNeg).toNatClampNeg))), (3, .int (m.1 66 l1.toNatClampNeg)), (0, .ref 58), (1, .int l1), (2, .int l2)] [] m Q
      refine y_headS (l2 := [(0, .ref 58), (1, .int l1)]) [2, 3] [0, 1] [4, 3, 0, 1, 2] rfl rfl (by decide) rfl (by decide) ?_
      exact H
    · replace H := H.2 h; clear h
      refine y_st rfl rfl rfl rfl rfl (fun _ _ => rfl) ?_
      refine y_gf rfl rfl rfl rfl rfl ?_
      refine y_st rfl rfl rfl rfl rfl (fun _ _ => rfl) ?_
      show yP (xg xs) (d + 1) 327 307 [(4, .int (m.1 68 ((m.1 66 l1.toNatClampNeg).toNatClampNeg))), (3, .int (m.1 66 l1.toNatClampNeg)), (0, .ref 58), (1, .int l1), (2, .int l2)] [.int (m.1 68 ((m.1 66 l1.toNatClampNeg).toNatClampNeg)), .ref 62] m Q
      refine y_iald rfl rfl rfl (H.1) ?_
      replace H := H.2
      refine y_st rfl rfl rfl rfl rfl (fun _ _ => rfl) ?_
      show yP (xg xs) (d + 1) 327 310 [(4, .int (m.1 68 ((m.1 66 l1.toNatClampNeg).toNatClampNeg))), (3, .int (m.1 66 l1.toNatClampNeg)), (0, .ref 58), (1, .int l1), (2, .int l2)] [.int (31 : Int32), .int (m.1 62 ((m.1 68 ((m.1 66 l1.toNatClampNeg).toNatClampNeg)).toNatClampNeg))] m Q
      refine y_ieq (t := 352) rfl rfl rfl (fun h => ?_) (fun h => ?_)
      · replace H := H.1 h; clear h
        show yP (xg xs) (d + 1) 327 352 [(4, .int (m.1 68 ((m.1 66 l1.toNatClampNeg).toNatClampNeg))), (3, .int (m.1 66 l1.toNatClampNeg)), (0, .ref 58), (1, .int l1), (2, .int l2)] [] m Q
        refine y_headS (l2 := [(0, .ref 58), (1, .int l1)]) [2, 3] [0, 1] [4, 3, 0, 1, 2] rfl rfl (by decide) rfl (by decide) ?_
        exact H
      · replace H := H.2 h; clear h
        refine y_st rfl rfl rfl rfl rfl (fun _ _ => rfl) ?_
        refine y_gf rfl rfl rfl rfl rfl ?_
        refine y_st rfl rfl rfl rfl rfl (fun _ _ => rfl) ?_
        show yP (xg xs) (d + 1) 327 318 [(4, .int (m.1 68 ((m.1 66 l1.toNatClampNeg).toNatClampNeg))), (3, .int (m.1 66 l1.toNatClampNeg)), (0, .ref 58), (1, .int l1), (2, .int l2)] [.int (m.1 66 l1.toNatClampNeg), .ref 64] m Q
        refine y_iald rfl rfl rfl (H.1) ?_
        replace H := H.2
        refine y_st rfl rfl rfl rfl rfl (fun _ _ => rfl) ?_
        refine y_gf rfl rfl rfl rfl rfl ?_
        refine y_st rfl rfl rfl rfl rfl (fun _ _ => rfl) ?_
        show yP (xg xs) (d + 1) 327 325 [(4, .int (m.1 68 ((m.1 66 l1.toNatClampNeg).toNatClampNeg))), (3, .int (m.1 66 l1.toNatClampNeg)), (0, .ref 58), (1, .int l1), (2, .int l2)] [.int (m.1 68 ((m.1 66 l1.toNatClampNeg).toNatClampNeg)), .ref 64, .int (m.1 64 ((m.1 66 l1.toNatClampNeg).toNatClampNeg))] m Q
        refine y_iald rfl rfl rfl (H.1) ?_
        replace H := H.2
        show yP (xg xs) (d + 1) 327 326 [(4, .int (m.1 68 ((m.1 66 l1.toNatClampNeg).toNatClampNeg))), (3, .int (m.1 66 l1.toNatClampNeg)), (0, .ref 58), (1, .int l1), (2, .int l2)] [.int (m.1 64 ((m.1 68 ((m.1 66 l1.toNatClampNeg).toNatClampNeg)).toNatClampNeg)), .int (m.1 64 ((m.1 66 l1.toNatClampNeg).toNatClampNeg))] m Q
        refine y_igt (t := 352) rfl rfl rfl (fun h => ?_) (fun h => ?_)
        · replace H := H.1 h; clear h
          show yP (xg xs) (d + 1) 327 352 [(4, .int (m.1 68 ((m.1 66 l1.toNatClampNeg).toNatClampNeg))), (3, .int (m.1 66 l1.toNatClampNeg)), (0, .ref 58), (1, .int l1), (2, .int l2)] [] m Q
          refine y_headS (l2 := [(0, .ref 58), (1, .int l1)]) [2, 3] [0, 1] [4, 3, 0, 1, 2] rfl rfl (by decide) rfl (by decide) ?_
          exact H
        · replace H := H.2 h; clear h
          refine y_st rfl rfl rfl rfl rfl (fun _ _ => rfl) ?_
          refine y_gf rfl rfl rfl rfl rfl ?_
          refine y_st rfl rfl rfl rfl rfl (fun _ _ => rfl) ?_
          show yP (xg xs) (d + 1) 327 335 [(4, .int (m.1 68 ((m.1 66 l1.toNatClampNeg).toNatClampNeg))), (3, .int (m.1 66 l1.toNatClampNeg)), (0, .ref 58), (1, .int l1), (2, .int l2)] [.int (m.1 68 ((m.1 66 l1.toNatClampNeg).toNatClampNeg)), .ref 64] m Q
          refine y_iald rfl rfl rfl (H.1) ?_
          replace H := H.2
          refine y_st rfl rfl rfl rfl rfl (fun _ _ => rfl) ?_
          refine y_st rfl rfl rfl rfl rfl (fun _ _ => rfl) ?_
          refine y_gf rfl rfl rfl rfl rfl ?_
          refine y_st rfl rfl rfl rfl rfl (fun _ _ => rfl) ?_
          show yP (xg xs) (d + 1) 327 342 [(4, .int (m.1 68 ((m.1 66 l1.toNatClampNeg).toNatClampNeg))), (3, .int (m.1 66 l1.toNatClampNeg)), (0, .ref 58), (1, .int l1), (2, .int l2)] [.int (m.1 66 l1.toNatClampNeg), .ref 64, .long ((m.1 64 ((m.1 68 ((m.1 66 l1.toNatClampNeg).toNatClampNeg)).toNatClampNeg)).toInt64)] m Q
          refine y_iald rfl rfl rfl (H.1) ?_
          replace H := H.2
          refine y_st rfl rfl rfl rfl rfl (fun _ _ => rfl) ?_
          refine y_st rfl rfl rfl rfl rfl (fun _ _ => rfl) ?_
          refine y_st rfl rfl rfl rfl rfl (fun _ _ => rfl) ?_
          refine y_st rfl rfl rfl rfl rfl (fun _ _ => rfl) ?_
          show yP (xg xs) (d + 1) 327 349 [(4, .int (m.1 68 ((m.1 66 l1.toNatClampNeg).toNatClampNeg))), (3, .int (m.1 66 l1.toNatClampNeg)), (0, .ref 58), (1, .int l1), (2, .int l2)] [.int (lg_cmp (((m.1 64 ((m.1 68 ((m.1 66 l1.toNatClampNeg).toNatClampNeg)).toNatClampNeg)).toInt64) - ((m.1 64 ((m.1 66 l1.toNatClampNeg).toNatClampNeg)).toInt64)) (256 : Int64))] m Q
          refine y_zlt (t := 356) rfl rfl rfl (fun h => ?_) (fun h => ?_)
          · replace H := H.1 h; clear h
            refine y_st rfl rfl rfl rfl rfl (fun _ _ => rfl) ?_
            show yP (xg xs) (d + 1) 327 357 [(4, .int (m.1 68 ((m.1 66 l1.toNatClampNeg).toNatClampNeg))), (3, .int (m.1 66 l1.toNatClampNeg)), (0, .ref 58), (1, .int l1), (2, .int l2)] [.int (0 : Int32)] m Q
            refine y_headS (l2 := [(0, .ref 58), (1, .int l1)]) [2, 3] [0, 1] [4, 3, 0, 1, 2] rfl rfl (by decide) rfl (by decide) ?_
            exact H
          · replace H := H.2 h; clear h
            show yP (xg xs) (d + 1) 327 352 [(4, .int (m.1 68 ((m.1 66 l1.toNatClampNeg).toNatClampNeg))), (3, .int (m.1 66 l1.toNatClampNeg)), (0, .ref 58), (1, .int l1), (2, .int l2)] [] m Q
            refine y_headS (l2 := [(0, .ref 58), (1, .int l1)]) [2, 3] [0, 1] [4, 3, 0, 1, 2] rfl rfl (by decide) rfl (by decide) ?_
            exact H
  replace H := H.2
  by_cases h10 : l2 = (10 : Int32)
  · replace H := H.1 h10
    refine y_tsw (t := 387) rfl rfl (by rw [h10]; rfl) ?_
    clear h10 h9 h7 h6 h5 h4 h3 h2 h1 h0
    refine y_st rfl rfl rfl rfl rfl (fun _ _ => rfl) ?_
    refine y_st rfl rfl rfl rfl rfl (fun _ _ => rfl) ?_
    refine y_st rfl rfl rfl rfl rfl (fun _ _ => rfl) ?_
    show yP (xg xs) (d + 1) 327 391 [(0, .ref 58), (1, .int l1), (2, .int l2)] [.ref 58, .int (17 : Int32), .ref 58] m Q
    refine y_call rfl rfl rfl rfl rfl (Nat.le_of_ble_eq_true rfl) (Nat.le_of_ble_eq_true rfl) rfl (by decide) H (fun v8 m8 H => ?_)
    obtain ⟨u8, rfl, H⟩ := H
    refine y_st rfl rfl rfl rfl rfl (fun _ _ => rfl) ?_
    show yP (xg xs) (d + 1) 327 395 [(0, .ref 58), (1, .int l1), (2, .int l2)] [.int (1 : Int32), .int u8, .int (17 : Int32), .ref 58] m8 Q
    refine y_ieq (t := 430) rfl rfl rfl (fun h => ?_) (fun h => ?_)
    · replace H := H.1 h; clear h
      show yP (xg xs) (d + 1) 327 430 [(0, .ref 58), (1, .int l1), (2, .int l2)] [.int (17 : Int32), .ref 58] m8 Q
      refine y_headS (l2 := [(1, .int l1)]) [1] [1] [0, 1, 2] rfl rfl (by decide) rfl (by decide) ?_
      exact H
    · replace H := H.2 h; clear h
      refine y_st rfl rfl rfl rfl rfl (fun _ _ => rfl) ?_
      refine y_st rfl rfl rfl rfl rfl (fun _ _ => rfl) ?_
      refine y_st rfl rfl rfl rfl rfl (fun _ _ => rfl) ?_
      refine y_gf rfl rfl rfl rfl rfl ?_
      refine y_st rfl rfl rfl rfl rfl (fun _ _ => rfl) ?_
      show yP (xg xs) (d + 1) 327 407 [(0, .ref 58), (1, .int l1), (2, .int l2)] [.int l1, .ref 64, .retAddr 25, .ref 58, .int (17 : Int32), .ref 58] m8 Q
      refine y_iald rfl rfl rfl (H.1) ?_
      replace H := H.2
      show yP (xg xs) (d + 1) 327 408 [(0, .ref 58), (1, .int l1), (2, .int l2)] [.int (m8.1 64 l1.toNatClampNeg), .retAddr 25, .ref 58, .int (17 : Int32), .ref 58] m8 Q
      refine y_call rfl rfl rfl rfl rfl (Nat.le_of_ble_eq_true rfl) (Nat.le_of_ble_eq_true rfl) rfl (by decide) H (fun v9 m9 H => ?_)
      obtain ⟨u9, rfl, H⟩ := H
      refine y_st rfl rfl rfl rfl rfl (fun _ _ => rfl) ?_
      show yP (xg xs) (d + 1) 327 412 [(0, .ref 58), (1, .int l1), (2, .int l2)] [.int ((-1) : Int32), .int u9, .int (17 : Int32), .ref 58] m9 Q
      refine y_ine (t := 434) rfl rfl rfl (fun h => ?_) (fun h => ?_)
      · replace H := H.1 h; clear h
        show yP (xg xs) (d + 1) 327 434 [(0, .ref 58), (1, .int l1), (2, .int l2)] [.int (17 : Int32), .ref 58] m9 Q
        refine y_headS (l2 := [(1, .int l1)]) [1] [1] [0, 1, 2] rfl rfl (by decide) rfl (by decide) ?_
        exact H
      · replace H := H.2 h; clear h
        refine y_st rfl rfl rfl rfl rfl (fun _ _ => rfl) ?_
        refine y_st rfl rfl rfl rfl rfl (fun _ _ => rfl) ?_
        refine y_st rfl rfl rfl rfl rfl (fun _ _ => rfl) ?_
        refine y_gf rfl rfl rfl rfl rfl ?_
        refine y_st rfl rfl rfl rfl rfl (fun _ _ => rfl) ?_
        show yP (xg xs) (d + 1) 327 422 [(0, .ref 58), (1, .int l1), (2, .int l2)] [.int l1, .ref 64, .int (2 : Int32), .ref 58, .int (17 : Int32), .ref 58] m9 Q
        refine y_iald rfl rfl rfl (H.1) ?_
        replace H := H.2
        show yP (xg xs) (d + 1) 327 423 [(0, .ref 58), (1, .int l1), (2, .int l2)] [.int (m9.1 64 l1.toNatClampNeg), .int (2 : Int32), .ref 58, .int (17 : Int32), .ref 58] m9 Q
        refine y_call rfl rfl rfl rfl rfl (Nat.le_of_ble_eq_true rfl) (Nat.le_of_ble_eq_true rfl) rfl (by decide) H (fun v10 m10 H => ?_)
        obtain ⟨u10, rfl, H⟩ := H
        refine y_st rfl rfl rfl rfl rfl (fun _ _ => rfl) ?_
        show yP (xg xs) (d + 1) 327 427 [(0, .ref 58), (1, .int l1), (2, .int l2)] [.int ((-1) : Int32), .int u10, .int (17 : Int32), .ref 58] m10 Q
        refine y_ine (t := 434) rfl rfl rfl (fun h => ?_) (fun h => ?_)
        · replace H := H.1 h; clear h
          show yP (xg xs) (d + 1) 327 434 [(0, .ref 58), (1, .int l1), (2, .int l2)] [.int (17 : Int32), .ref 58] m10 Q
          refine y_headS (l2 := [(1, .int l1)]) [1] [1] [0, 1, 2] rfl rfl (by decide) rfl (by decide) ?_
          exact H
        · replace H := H.2 h; clear h
          show yP (xg xs) (d + 1) 327 430 [(0, .ref 58), (1, .int l1), (2, .int l2)] [.int (17 : Int32), .ref 58] m10 Q
          refine y_headS (l2 := [(1, .int l1)]) [1] [1] [0, 1, 2] rfl rfl (by decide) rfl (by decide) ?_
          exact H
  replace H := H.2
  refine y_tsw (t := 442) rfl rfl (by have g0 := ne_lit (0 : Int32) 0 rfl h0; have g1 := ne_lit (1 : Int32) 1 rfl h1; have g2 := ne_lit (2 : Int32) 2 rfl h2; have g3 := ne_lit (3 : Int32) 3 rfl h3; have g4 := ne_lit (4 : Int32) 4 rfl h4; have g5 := ne_lit (5 : Int32) 5 rfl h5; have g6 := ne_lit (6 : Int32) 6 rfl h6; have g7 := ne_lit (7 : Int32) 7 rfl h7; have g8 := ne_lit (9 : Int32) 9 rfl h9; have g9 := ne_lit (10 : Int32) 10 rfl h10; by_cases z : (l2).toInt < 0 ∨ 10 < (l2).toInt; exact (if_pos z).trans rfl; rw [if_neg z]; rcases (by omega : (l2).toInt = 8) with e <;> rw [e] <;> rfl) ?_
  replace H := H h0 h1 h2 h3 h4 h5 h6 h7 h9 h10
  clear h10 h9 h7 h6 h5 h4 h3 h2 h1 h0
  show yP (xg xs) (d + 1) 327 442 [(0, .ref 58), (1, .int l1), (2, .int l2)] [] m Q
  exact y_ret rfl rfl rfl rfl H
set_option maxRecDepth 20000 in
/-- CodeMakerModel.judgePlan from 75 on -/
theorem w327_75 (xs : List Int32) (d : Nat) (l1 : Int32) (s1 : Int32) (s2 : Int32) (m : yM) (Q : Option Value → yM → Prop) (H : (yC (xg xs) d 323 [.ref 58, .int s1, .int s2, .int l1] m (fun v1 m1 => v1 = none ∧ (yC (xg xs) d 328 [.ref 58] m1 (fun v2 m2 => ∃ u2, v2 = some (Value.int u2) ∧ ((u2 ≤ (8192 : Int32) → yP (xg xs) (d + 1) 327 97 [(1, .int l1)] [.int (0 : Int32), .int (42 : Int32), .ref 58] m2 Q) ∧ (¬ u2 ≤ (8192 : Int32) → yP (xg xs) (d + 1) 327 97 [(1, .int l1)] [.int (1 : Int32), .int (42 : Int32), .ref 58] m2 Q))))))) : yP (xg xs) (d + 1) 327 75 [(0, .ref 58), (1, .int l1)] [.int s2, .int s1, .ref 58] m Q := by
  refine y_st rfl rfl rfl rfl rfl (fun _ _ => rfl) ?_
  show yP (xg xs) (d + 1) 327 76 [(0, .ref 58), (1, .int l1)] [.int l1, .int s2, .int s1, .ref 58] m Q
  refine y_call rfl rfl rfl rfl rfl (Nat.le_of_ble_eq_true rfl) (Nat.le_of_ble_eq_true rfl) rfl (by decide) H (fun v1 m1 H => ?_)
  obtain ⟨rfl, H⟩ := H
  refine y_st rfl rfl rfl rfl rfl (fun _ _ => rfl) ?_
  refine y_st rfl rfl rfl rfl rfl (fun _ _ => rfl) ?_
  refine y_st rfl rfl rfl rfl rfl (fun _ _ => rfl) ?_
  show yP (xg xs) (d + 1) 327 83 [(0, .ref 58), (1, .int l1)] [.ref 58, .int (42 : Int32), .ref 58] m1 Q
  refine y_call rfl rfl rfl rfl rfl (Nat.le_of_ble_eq_true rfl) (Nat.le_of_ble_eq_true rfl) rfl (by decide) H (fun v2 m2 H => ?_)
  obtain ⟨u2, rfl, H⟩ := H
  refine y_st rfl rfl rfl rfl rfl (fun _ _ => rfl) ?_
  show yP (xg xs) (d + 1) 327 89 [(0, .ref 58), (1, .int l1)] [.int (8192 : Int32), .int u2, .int (42 : Int32), .ref 58] m2 Q
  refine y_ile (t := 96) rfl rfl rfl (fun h => ?_) (fun h => ?_)
  · replace H := H.1 h; clear h
    refine y_st rfl rfl rfl rfl rfl (fun _ _ => rfl) ?_
    show yP (xg xs) (d + 1) 327 97 [(0, .ref 58), (1, .int l1)] [.int (0 : Int32), .int (42 : Int32), .ref 58] m2 Q
    refine y_headS (l2 := [(1, .int l1)]) [1] [1] [0, 1] rfl rfl (by decide) rfl (by decide) ?_
    exact H
  · replace H := H.2 h; clear h
    refine y_st rfl rfl rfl rfl rfl (fun _ _ => rfl) ?_
    refine y_st rfl rfl rfl rfl rfl (fun _ _ => rfl) ?_
    show yP (xg xs) (d + 1) 327 97 [(0, .ref 58), (1, .int l1)] [.int (1 : Int32), .int (42 : Int32), .ref 58] m2 Q
    refine y_headS (l2 := [(1, .int l1)]) [1] [1] [0, 1] rfl rfl (by decide) rfl (by decide) ?_
    exact H
set_option maxRecDepth 20000 in
/-- CodeMakerModel.judgePlan from 97 on -/
theorem w327_97 (xs : List Int32) (d : Nat) (l1 : Int32) (s1 : Int32) (s2 : Int32) (m : yM) (Q : Option Value → yM → Prop) (H : (yC (xg xs) d 323 [.ref 58, .int s1, .int s2, .int l1] m (fun v1 m1 => v1 = none ∧ Q none m1))) : yP (xg xs) (d + 1) 327 97 [(1, .int l1)] [.int s2, .int s1, .ref 58] m Q := by
  refine y_st rfl rfl rfl rfl rfl (fun _ _ => rfl) ?_
  show yP (xg xs) (d + 1) 327 98 [(1, .int l1)] [.int l1, .int s2, .int s1, .ref 58] m Q
  refine y_call rfl rfl rfl rfl rfl (Nat.le_of_ble_eq_true rfl) (Nat.le_of_ble_eq_true rfl) rfl (by decide) H (fun v1 m1 H => ?_)
  obtain ⟨rfl, H⟩ := H
  refine y_st rfl rfl rfl rfl rfl (fun _ _ => rfl) ?_
  show yP (xg xs) (d + 1) 327 442 [(1, .int l1)] [] m1 Q
  exact y_ret rfl rfl rfl rfl H
set_option maxRecDepth 20000 in
/-- CodeMakerModel.judgePlan from 131 on -/
theorem w327_131 (xs : List Int32) (d : Nat) (l1 : Int32) (s1 : Int32) (m : yM) (Q : Option Value → yM → Prop) (H : yP (xg xs) (d + 1) 327 132 [(0, .ref 58), (1, .int l1)] [.int (0 : Int32), .int s1, .ref 58] m Q) : yP (xg xs) (d + 1) 327 131 [(0, .ref 58), (1, .int l1)] [.int s1, .ref 58] m Q := by
  refine y_st rfl rfl rfl rfl rfl (fun _ _ => rfl) ?_
  show yP (xg xs) (d + 1) 327 132 [(0, .ref 58), (1, .int l1)] [.int (0 : Int32), .int s1, .ref 58] m Q
  exact H
set_option maxRecDepth 20000 in
/-- CodeMakerModel.judgePlan from 132 on -/
theorem w327_132 (xs : List Int32) (d : Nat) (l1 : Int32) (s1 : Int32) (s2 : Int32) (m : yM) (Q : Option Value → yM → Prop) (H : (yC (xg xs) d 323 [.ref 58, .int s1, .int s2, .int l1] m (fun v1 m1 => v1 = none ∧ (yC (xg xs) d 330 [.ref 58, .int l1, .int (0 : Int32)] m1 (fun v2 m2 => v2 = none ∧ (yC (xg xs) d 330 [.ref 58, .int l1, .int (1 : Int32)] m2 (fun v3 m3 => v3 = none ∧ (x_in ((m3.1 58 23) - (1 : Int32)) 400 = true ∧ (x_in l1 20000 = true ∧ (x_in (m3.1 67 l1.toNatClampNeg) 20000 = true ∧ ((¬ (m3.1 62 ((m3.1 67 l1.toNatClampNeg).toNatClampNeg)) = (22 : Int32) → yP (xg xs) (d + 1) 327 183 [(0, .ref 58)] [.int (0 : Int32), .int (m3.1 72 (((m3.1 58 23) - (1 : Int32)).toNatClampNeg)), .int ((m3.1 58 23) - (1 : Int32)), .ref 72] m3 Q) ∧ ((m3.1 62 ((m3.1 67 l1.toNatClampNeg).toNatClampNeg)) = (22 : Int32) → yP (xg xs) (d + 1) 327 183 [(0, .ref 58)] [.int (156 : Int32), .int (m3.1 72 (((m3.1 58 23) - (1 : Int32)).toNatClampNeg)), .int ((m3.1 58 23) - (1 : Int32)), .ref 72] m3 Q)))))))))))) : yP (xg xs) (d + 1) 327 132 [(0, .ref 58), (1, .int l1)] [.int s2, .int s1, .ref 58] m Q := by
  refine y_st rfl rfl rfl rfl rfl (fun _ _ => rfl) ?_
  show yP (xg xs) (d + 1) 327 133 [(0, .ref 58), (1, .int l1)] [.int l1, .int s2, .int s1, .ref 58] m Q
  refine y_call rfl rfl rfl rfl rfl (Nat.le_of_ble_eq_true rfl) (Nat.le_of_ble_eq_true rfl) rfl (by decide) H (fun v1 m1 H => ?_)
  obtain ⟨rfl, H⟩ := H
  refine y_st rfl rfl rfl rfl rfl (fun _ _ => rfl) ?_
  refine y_st rfl rfl rfl rfl rfl (fun _ _ => rfl) ?_
  refine y_st rfl rfl rfl rfl rfl (fun _ _ => rfl) ?_
  show yP (xg xs) (d + 1) 327 139 [(0, .ref 58), (1, .int l1)] [.int (0 : Int32), .int l1, .ref 58] m1 Q
  refine y_call rfl rfl rfl rfl rfl (Nat.le_of_ble_eq_true rfl) (Nat.le_of_ble_eq_true rfl) rfl (by decide) H (fun v2 m2 H => ?_)
  obtain ⟨rfl, H⟩ := H
  refine y_st rfl rfl rfl rfl rfl (fun _ _ => rfl) ?_
  refine y_st rfl rfl rfl rfl rfl (fun _ _ => rfl) ?_
  refine y_st rfl rfl rfl rfl rfl (fun _ _ => rfl) ?_
  show yP (xg xs) (d + 1) 327 145 [(0, .ref 58), (1, .int l1)] [.int (1 : Int32), .int l1, .ref 58] m2 Q
  refine y_call rfl rfl rfl rfl rfl (Nat.le_of_ble_eq_true rfl) (Nat.le_of_ble_eq_true rfl) rfl (by decide) H (fun v3 m3 H => ?_)
  obtain ⟨rfl, H⟩ := H
  refine y_st rfl rfl rfl rfl rfl (fun _ _ => rfl) ?_
  refine y_gf rfl rfl rfl rfl rfl ?_
  refine y_st rfl rfl rfl rfl rfl (fun _ _ => rfl) ?_
  refine y_gf rfl rfl rfl rfl rfl ?_
  refine y_st rfl rfl rfl rfl rfl (fun _ _ => rfl) ?_
  refine y_st rfl rfl rfl rfl rfl (fun _ _ => rfl) ?_
  refine y_st rfl rfl rfl rfl rfl (fun _ _ => rfl) ?_
  show yP (xg xs) (d + 1) 327 159 [(0, .ref 58), (1, .int l1)] [.int ((m3.1 58 23) - (1 : Int32)), .ref 72, .int ((m3.1 58 23) - (1 : Int32)), .ref 72] m3 Q
  refine y_iald rfl rfl rfl (H.1) ?_
  replace H := H.2
  refine y_st rfl rfl rfl rfl rfl (fun _ _ => rfl) ?_
  refine y_gf rfl rfl rfl rfl rfl ?_
  refine y_st rfl rfl rfl rfl rfl (fun _ _ => rfl) ?_
  refine y_gf rfl rfl rfl rfl rfl ?_
  refine y_st rfl rfl rfl rfl rfl (fun _ _ => rfl) ?_
  show yP (xg xs) (d + 1) 327 169 [(0, .ref 58), (1, .int l1)] [.int l1, .ref 67, .ref 62, .int (m3.1 72 (((m3.1 58 23) - (1 : Int32)).toNatClampNeg)), .int ((m3.1 58 23) - (1 : Int32)), .ref 72] m3 Q
  refine y_iald rfl rfl rfl (H.1) ?_
  replace H := H.2
  show yP (xg xs) (d + 1) 327 170 [(0, .ref 58), (1, .int l1)] [.int (m3.1 67 l1.toNatClampNeg), .ref 62, .int (m3.1 72 (((m3.1 58 23) - (1 : Int32)).toNatClampNeg)), .int ((m3.1 58 23) - (1 : Int32)), .ref 72] m3 Q
  refine y_iald rfl rfl rfl (H.1) ?_
  replace H := H.2
  refine y_st rfl rfl rfl rfl rfl (fun _ _ => rfl) ?_
  show yP (xg xs) (d + 1) 327 173 [(0, .ref 58), (1, .int l1)] [.int (22 : Int32), .int (m3.1 62 ((m3.1 67 l1.toNatClampNeg).toNatClampNeg)), .int (m3.1 72 (((m3.1 58 23) - (1 : Int32)).toNatClampNeg)), .int ((m3.1 58 23) - (1 : Int32)), .ref 72] m3 Q
  refine y_ine (t := 182) rfl rfl rfl (fun h => ?_) (fun h => ?_)
  · replace H := H.1 h; clear h
    refine y_st rfl rfl rfl rfl rfl (fun _ _ => rfl) ?_
    show yP (xg xs) (d + 1) 327 183 [(0, .ref 58), (1, .int l1)] [.int (0 : Int32), .int (m3.1 72 (((m3.1 58 23) - (1 : Int32)).toNatClampNeg)), .int ((m3.1 58 23) - (1 : Int32)), .ref 72] m3 Q
    refine y_headS (l2 := [(0, .ref 58)]) [0] [0] [0, 1] rfl rfl (by decide) rfl (by decide) ?_
    exact H
  · replace H := H.2 h; clear h
    refine y_st rfl rfl rfl rfl rfl (fun _ _ => rfl) ?_
    refine y_st rfl rfl rfl rfl rfl (fun _ _ => rfl) ?_
    show yP (xg xs) (d + 1) 327 183 [(0, .ref 58), (1, .int l1)] [.int (156 : Int32), .int (m3.1 72 (((m3.1 58 23) - (1 : Int32)).toNatClampNeg)), .int ((m3.1 58 23) - (1 : Int32)), .ref 72] m3 Q
    refine y_headS (l2 := [(0, .ref 58)]) [0] [0] [0, 1] rfl rfl (by decide) rfl (by decide) ?_
    exact H
set_option maxRecDepth 20000 in
/-- CodeMakerModel.judgePlan from 183 on -/
theorem w327_183 (xs : List Int32) (d : Nat) (s1 : Int32) (s2 : Int32) (s3 : Int32) (m : yM) (Q : Option Value → yM → Prop) (H : (x_in s1 400 = true ∧ (x_in (m.1 58 23) 401 = true ∧ Q none (y_si (y_si m 72 s1.toNatClampNeg (s2 + s3)) 73 ((m.1 58 23).toNatClampNeg) (m.1 58 30))))) : yP (xg xs) (d + 1) 327 183 [(0, .ref 58)] [.int s3, .int s2, .int s1, .ref 72] m Q := by
  refine y_st rfl rfl rfl rfl rfl (fun _ _ => rfl) ?_
  show yP (xg xs) (d + 1) 327 184 [(0, .ref 58)] [.int (s2 + s3), .int s1, .ref 72] m Q
  refine y_iast rfl rfl rfl (H.1) ?_
  replace H := H.2
  refine y_st rfl rfl rfl rfl rfl (fun _ _ => rfl) ?_
  refine y_gf rfl rfl rfl rfl rfl ?_
  refine y_st rfl rfl rfl rfl rfl (fun _ _ => rfl) ?_
  refine y_gf rfl rfl rfl rfl rfl ?_
  refine y_st rfl rfl rfl rfl rfl (fun _ _ => rfl) ?_
  refine y_gf rfl rfl rfl rfl rfl ?_
  show yP (xg xs) (d + 1) 327 197 [(0, .ref 58)] [.int (m.1 58 30), .int (m.1 58 23), .ref 73] (y_si m 72 s1.toNatClampNeg (s2 + s3)) Q
  refine y_iast rfl rfl rfl (H.1) ?_
  replace H := H.2
  refine y_st rfl rfl rfl rfl rfl (fun _ _ => rfl) ?_
  show yP (xg xs) (d + 1) 327 442 [(0, .ref 58)] [] (y_si (y_si m 72 s1.toNatClampNeg (s2 + s3)) 73 ((m.1 58 23).toNatClampNeg) (m.1 58 30)) Q
  exact y_ret rfl rfl rfl rfl H
set_option maxRecDepth 20000 in
/-- CodeMakerModel.judgePlan from 221 on -/
theorem w327_221 (xs : List Int32) (d : Nat) (l1 : Int32) (s1 : Int32) (m : yM) (Q : Option Value → yM → Prop) (H : (yC (xg xs) d 331 [.ref 58] m (fun v1 m1 => ∃ u1, v1 = some (Value.int u1) ∧ ((¬ u1 = (1 : Int32) → yP (xg xs) (d + 1) 327 243 [(1, .int l1)] [.int s1, .ref 58] m1 Q) ∧ (u1 = (1 : Int32) → (x_in l1 20000 = true ∧ ((¬ (m1.1 64 l1.toNatClampNeg) = (2 : Int32) → yP (xg xs) (d + 1) 327 243 [(1, .int l1)] [.int s1, .ref 58] m1 Q) ∧ ((m1.1 64 l1.toNatClampNeg) = (2 : Int32) → yP (xg xs) (d + 1) 327 239 [(1, .int l1)] [.int s1, .ref 58] m1 Q)))))))) : yP (xg xs) (d + 1) 327 221 [(0, .ref 58), (1, .int l1)] [.int s1, .ref 58] m Q := by
  refine y_st rfl rfl rfl rfl rfl (fun _ _ => rfl) ?_
  show yP (xg xs) (d + 1) 327 222 [(0, .ref 58), (1, .int l1)] [.ref 58, .int s1, .ref 58] m Q
  refine y_call rfl rfl rfl rfl rfl (Nat.le_of_ble_eq_true rfl) (Nat.le_of_ble_eq_true rfl) rfl (by decide) H (fun v1 m1 H => ?_)
  obtain ⟨u1, rfl, H⟩ := H
  refine y_st rfl rfl rfl rfl rfl (fun _ _ => rfl) ?_
  show yP (xg xs) (d + 1) 327 226 [(0, .ref 58), (1, .int l1)] [.int (1 : Int32), .int u1, .int s1, .ref 58] m1 Q
  refine y_ine (t := 243) rfl rfl rfl (fun h => ?_) (fun h => ?_)
  · replace H := H.1 h; clear h
    show yP (xg xs) (d + 1) 327 243 [(0, .ref 58), (1, .int l1)] [.int s1, .ref 58] m1 Q
    refine y_headS (l2 := [(1, .int l1)]) [1] [1] [0, 1] rfl rfl (by decide) rfl (by decide) ?_
    exact H
  · replace H := H.2 h; clear h
    refine y_st rfl rfl rfl rfl rfl (fun _ _ => rfl) ?_
    refine y_gf rfl rfl rfl rfl rfl ?_
    refine y_st rfl rfl rfl rfl rfl (fun _ _ => rfl) ?_
    show yP (xg xs) (d + 1) 327 234 [(0, .ref 58), (1, .int l1)] [.int l1, .ref 64, .int s1, .ref 58] m1 Q
    refine y_iald rfl rfl rfl (H.1) ?_
    replace H := H.2
    refine y_st rfl rfl rfl rfl rfl (fun _ _ => rfl) ?_
    show yP (xg xs) (d + 1) 327 236 [(0, .ref 58), (1, .int l1)] [.int (2 : Int32), .int (m1.1 64 l1.toNatClampNeg), .int s1, .ref 58] m1 Q
    refine y_ine (t := 243) rfl rfl rfl (fun h => ?_) (fun h => ?_)
    · replace H := H.1 h; clear h
      show yP (xg xs) (d + 1) 327 243 [(0, .ref 58), (1, .int l1)] [.int s1, .ref 58] m1 Q
      refine y_headS (l2 := [(1, .int l1)]) [1] [1] [0, 1] rfl rfl (by decide) rfl (by decide) ?_
      exact H
    · replace H := H.2 h; clear h
      show yP (xg xs) (d + 1) 327 239 [(0, .ref 58), (1, .int l1)] [.int s1, .ref 58] m1 Q
      refine y_headS (l2 := [(1, .int l1)]) [1] [1] [0, 1] rfl rfl (by decide) rfl (by decide) ?_
      exact H
set_option maxRecDepth 20000 in
/-- CodeMakerModel.judgePlan from 239 on -/
theorem w327_239 (xs : List Int32) (d : Nat) (l1 : Int32) (s1 : Int32) (m : yM) (Q : Option Value → yM → Prop) (H : yP (xg xs) (d + 1) 327 244 [(1, .int l1)] [.int (1 : Int32), .int s1, .ref 58] m Q) : yP (xg xs) (d + 1) 327 239 [(1, .int l1)] [.int s1, .ref 58] m Q := by
  refine y_st rfl rfl rfl rfl rfl (fun _ _ => rfl) ?_
  refine y_st rfl rfl rfl rfl rfl (fun _ _ => rfl) ?_
  show yP (xg xs) (d + 1) 327 244 [(1, .int l1)] [.int (1 : Int32), .int s1, .ref 58] m Q
  exact H
set_option maxRecDepth 20000 in
/-- CodeMakerModel.judgePlan from 243 on -/
theorem w327_243 (xs : List Int32) (d : Nat) (l1 : Int32) (s1 : Int32) (m : yM) (Q : Option Value → yM → Prop) (H : yP (xg xs) (d + 1) 327 244 [(1, .int l1)] [.int (0 : Int32), .int s1, .ref 58] m Q) : yP (xg xs) (d + 1) 327 243 [(1, .int l1)] [.int s1, .ref 58] m Q := by
  refine y_st rfl rfl rfl rfl rfl (fun _ _ => rfl) ?_
  show yP (xg xs) (d + 1) 327 244 [(1, .int l1)] [.int (0 : Int32), .int s1, .ref 58] m Q
  exact H
set_option maxRecDepth 20000 in
/-- CodeMakerModel.judgePlan from 244 on -/
theorem w327_244 (xs : List Int32) (d : Nat) (l1 : Int32) (s1 : Int32) (s2 : Int32) (m : yM) (Q : Option Value → yM → Prop) (H : (yC (xg xs) d 323 [.ref 58, .int s1, .int s2, .int l1] m (fun v1 m1 => v1 = none ∧ Q none m1))) : yP (xg xs) (d + 1) 327 244 [(1, .int l1)] [.int s2, .int s1, .ref 58] m Q := by
  refine y_st rfl rfl rfl rfl rfl (fun _ _ => rfl) ?_
  show yP (xg xs) (d + 1) 327 245 [(1, .int l1)] [.int l1, .int s2, .int s1, .ref 58] m Q
  refine y_call rfl rfl rfl rfl rfl (Nat.le_of_ble_eq_true rfl) (Nat.le_of_ble_eq_true rfl) rfl (by decide) H (fun v1 m1 H => ?_)
  obtain ⟨rfl, H⟩ := H
  refine y_st rfl rfl rfl rfl rfl (fun _ _ => rfl) ?_
  show yP (xg xs) (d + 1) 327 442 [(1, .int l1)] [] m1 Q
  exact y_ret rfl rfl rfl rfl H
set_option maxRecDepth 20000 in
/-- CodeMakerModel.judgePlan from 352 on -/
theorem w327_352 (xs : List Int32) (d : Nat) (l1 : Int32) (m : yM) (Q : Option Value → yM → Prop) (H : yP (xg xs) (d + 1) 327 357 [(0, .ref 58), (1, .int l1)] [.int (1 : Int32)] m Q) : yP (xg xs) (d + 1) 327 352 [(0, .ref 58), (1, .int l1)] [] m Q := by
  refine y_st rfl rfl rfl rfl rfl (fun _ _ => rfl) ?_
  refine y_st rfl rfl rfl rfl rfl (fun _ _ => rfl) ?_
  show yP (xg xs) (d + 1) 327 357 [(0, .ref 58), (1, .int l1)] [.int (1 : Int32)] m Q
  exact H
set_option maxRecDepth 20000 in
/-- CodeMakerModel.judgePlan from 357 on -/
theorem w327_357 (xs : List Int32) (d : Nat) (l1 : Int32) (s0 : Int32) (m : yM) (Q : Option Value → yM → Prop) (H : (yC (xg xs) d 331 [.ref 58] m (fun v1 m1 => ∃ u1, v1 = some (Value.int u1) ∧ ((u1 = (1 : Int32) → yP (xg xs) (d + 1) 327 375 [(1, .int l1)] [.int (16 : Int32), .ref 58] m1 Q) ∧ (¬ u1 = (1 : Int32) → ((s0 = 0 → yP (xg xs) (d + 1) 327 380 [(1, .int l1)] [.int (0 : Int32), .int (16 : Int32), .ref 58] m1 Q) ∧ (¬ s0 = 0 → yP (xg xs) (d + 1) 327 375 [(1, .int l1)] [.int (16 : Int32), .ref 58] m1 Q))))))) : yP (xg xs) (d + 1) 327 357 [(0, .ref 58), (1, .int l1)] [.int s0] m Q := by
  refine y_st rfl rfl rfl rfl rfl (fun _ _ => rfl) ?_
  refine y_st rfl rfl rfl rfl rfl (fun _ _ => rfl) ?_
  refine y_st rfl rfl rfl rfl rfl (fun _ _ => rfl) ?_
  refine y_st rfl rfl rfl rfl rfl (fun _ _ => rfl) ?_
  show yP (xg xs) (d + 1) 327 363 [(5, .int s0), (0, .ref 58), (1, .int l1)] [.ref 58, .int (16 : Int32), .ref 58] m Q
  refine y_call rfl rfl rfl rfl rfl (Nat.le_of_ble_eq_true rfl) (Nat.le_of_ble_eq_true rfl) rfl (by decide) H (fun v1 m1 H => ?_)
  obtain ⟨u1, rfl, H⟩ := H
  refine y_st rfl rfl rfl rfl rfl (fun _ _ => rfl) ?_
  show yP (xg xs) (d + 1) 327 367 [(5, .int s0), (0, .ref 58), (1, .int l1)] [.int (1 : Int32), .int u1, .int (16 : Int32), .ref 58] m1 Q
  refine y_ieq (t := 375) rfl rfl rfl (fun h => ?_) (fun h => ?_)
  · replace H := H.1 h; clear h
    show yP (xg xs) (d + 1) 327 375 [(5, .int s0), (0, .ref 58), (1, .int l1)] [.int (16 : Int32), .ref 58] m1 Q
    refine y_headS (l2 := [(1, .int l1)]) [2] [1] [5, 0, 1] rfl rfl (by decide) rfl (by decide) ?_
    exact H
  · replace H := H.2 h; clear h
    refine y_st rfl rfl rfl rfl rfl (fun _ _ => rfl) ?_
    show yP (xg xs) (d + 1) 327 372 [(5, .int s0), (0, .ref 58), (1, .int l1)] [.int s0, .int (16 : Int32), .ref 58] m1 Q
    refine y_zeq (t := 379) rfl rfl rfl (fun h => ?_) (fun h => ?_)
    · replace H := H.1 h; clear h
      refine y_st rfl rfl rfl rfl rfl (fun _ _ => rfl) ?_
      show yP (xg xs) (d + 1) 327 380 [(5, .int s0), (0, .ref 58), (1, .int l1)] [.int (0 : Int32), .int (16 : Int32), .ref 58] m1 Q
      refine y_headS (l2 := [(1, .int l1)]) [2] [1] [5, 0, 1] rfl rfl (by decide) rfl (by decide) ?_
      exact H
    · replace H := H.2 h; clear h
      show yP (xg xs) (d + 1) 327 375 [(5, .int s0), (0, .ref 58), (1, .int l1)] [.int (16 : Int32), .ref 58] m1 Q
      refine y_headS (l2 := [(1, .int l1)]) [2] [1] [5, 0, 1] rfl rfl (by decide) rfl (by decide) ?_
      exact H
set_option maxRecDepth 20000 in
/-- CodeMakerModel.judgePlan from 375 on -/
theorem w327_375 (xs : List Int32) (d : Nat) (l1 : Int32) (s1 : Int32) (m : yM) (Q : Option Value → yM → Prop) (H : yP (xg xs) (d + 1) 327 380 [(1, .int l1)] [.int (1 : Int32), .int s1, .ref 58] m Q) : yP (xg xs) (d + 1) 327 375 [(1, .int l1)] [.int s1, .ref 58] m Q := by
  refine y_st rfl rfl rfl rfl rfl (fun _ _ => rfl) ?_
  refine y_st rfl rfl rfl rfl rfl (fun _ _ => rfl) ?_
  show yP (xg xs) (d + 1) 327 380 [(1, .int l1)] [.int (1 : Int32), .int s1, .ref 58] m Q
  exact H
set_option maxRecDepth 20000 in
/-- CodeMakerModel.judgePlan from 380 on -/
theorem w327_380 (xs : List Int32) (d : Nat) (l1 : Int32) (s1 : Int32) (s2 : Int32) (m : yM) (Q : Option Value → yM → Prop) (H : (yC (xg xs) d 323 [.ref 58, .int s1, .int s2, .int l1] m (fun v1 m1 => v1 = none ∧ Q none m1))) : yP (xg xs) (d + 1) 327 380 [(1, .int l1)] [.int s2, .int s1, .ref 58] m Q := by
  refine y_st rfl rfl rfl rfl rfl (fun _ _ => rfl) ?_
  show yP (xg xs) (d + 1) 327 381 [(1, .int l1)] [.int l1, .int s2, .int s1, .ref 58] m Q
  refine y_call rfl rfl rfl rfl rfl (Nat.le_of_ble_eq_true rfl) (Nat.le_of_ble_eq_true rfl) rfl (by decide) H (fun v1 m1 H => ?_)
  obtain ⟨rfl, H⟩ := H
  refine y_st rfl rfl rfl rfl rfl (fun _ _ => rfl) ?_
  show yP (xg xs) (d + 1) 327 442 [(1, .int l1)] [] m1 Q
  exact y_ret rfl rfl rfl rfl H
set_option maxRecDepth 20000 in
/-- CodeMakerModel.judgePlan from 430 on -/
theorem w327_430 (xs : List Int32) (d : Nat) (l1 : Int32) (s1 : Int32) (m : yM) (Q : Option Value → yM → Prop) (H : yP (xg xs) (d + 1) 327 435 [(1, .int l1)] [.int (1 : Int32), .int s1, .ref 58] m Q) : yP (xg xs) (d + 1) 327 430 [(1, .int l1)] [.int s1, .ref 58] m Q := by
  refine y_st rfl rfl rfl rfl rfl (fun _ _ => rfl) ?_
  refine y_st rfl rfl rfl rfl rfl (fun _ _ => rfl) ?_
  show yP (xg xs) (d + 1) 327 435 [(1, .int l1)] [.int (1 : Int32), .int s1, .ref 58] m Q
  exact H
set_option maxRecDepth 20000 in
/-- CodeMakerModel.judgePlan from 434 on -/
theorem w327_434 (xs : List Int32) (d : Nat) (l1 : Int32) (s1 : Int32) (m : yM) (Q : Option Value → yM → Prop) (H : yP (xg xs) (d + 1) 327 435 [(1, .int l1)] [.int (0 : Int32), .int s1, .ref 58] m Q) : yP (xg xs) (d + 1) 327 434 [(1, .int l1)] [.int s1, .ref 58] m Q := by
  refine y_st rfl rfl rfl rfl rfl (fun _ _ => rfl) ?_
  show yP (xg xs) (d + 1) 327 435 [(1, .int l1)] [.int (0 : Int32), .int s1, .ref 58] m Q
  exact H
set_option maxRecDepth 20000 in
/-- CodeMakerModel.judgePlan from 435 on -/
theorem w327_435 (xs : List Int32) (d : Nat) (l1 : Int32) (s1 : Int32) (s2 : Int32) (m : yM) (Q : Option Value → yM → Prop) (H : (yC (xg xs) d 323 [.ref 58, .int s1, .int s2, .int l1] m (fun v1 m1 => v1 = none ∧ Q none m1))) : yP (xg xs) (d + 1) 327 435 [(1, .int l1)] [.int s2, .int s1, .ref 58] m Q := by
  refine y_st rfl rfl rfl rfl rfl (fun _ _ => rfl) ?_
  show yP (xg xs) (d + 1) 327 436 [(1, .int l1)] [.int l1, .int s2, .int s1, .ref 58] m Q
  refine y_call rfl rfl rfl rfl rfl (Nat.le_of_ble_eq_true rfl) (Nat.le_of_ble_eq_true rfl) rfl (by decide) H (fun v1 m1 H => ?_)
  obtain ⟨rfl, H⟩ := H
  refine y_st rfl rfl rfl rfl rfl (fun _ _ => rfl) ?_
  show yP (xg xs) (d + 1) 327 442 [(1, .int l1)] [] m1 Q
  exact y_ret rfl rfl rfl rfl H
set_option maxRecDepth 20000 in
/-- CodeMakerModel.allCells from 0 on -/
theorem w328_0 (xs : List Int32) (d : Nat) (m : yM) (Q : Option Value → yM → Prop) (H : yP (xg xs) (d + 1) 328 4 [(0, .ref 58), (1, .int (0 : Int32)), (2, .int (0 : Int32))] [] m Q) : yP (xg xs) (d + 1) 328 0 [(0, .ref 58)] [] m Q := by
  refine y_st rfl rfl rfl rfl rfl (fun _ _ => rfl) ?_
  refine y_st rfl rfl rfl rfl rfl (fun _ _ => rfl) ?_
  refine y_st rfl rfl rfl rfl rfl (fun _ _ => rfl) ?_
  refine y_st rfl rfl rfl rfl rfl (fun _ _ => rfl) ?_
  show yP (xg xs) (d + 1) 328 4 [(2, .int (0 : Int32)), (1, .int (0 : Int32)), (0, .ref 58)] [] m Q
  refine y_headS (l2 := [(0, .ref 58), (1, .int (0 : Int32)), (2, .int (0 : Int32))]) [2, 1, 0] [0, 1, 2] [2, 1, 0] rfl rfl (by decide) rfl (by decide) ?_
  exact H
set_option maxRecDepth 20000 in
/-- CodeMakerModel.allCells from 4 on -/
theorem w328_4 (xs : List Int32) (d : Nat) (l1 : Int32) (l2 : Int32) (m : yM) (Q : Option Value → yM → Prop) (H : (((m.1 58 23) ≤ l2 → Q (some (.int l1)) m) ∧ (¬ (m.1 58 23) ≤ l2 → (x_in l2 400 = true ∧ (x_in (m.1 70 l2.toNatClampNeg) 20000 = true ∧ ((¬ (m.1 62 ((m.1 70 l2.toNatClampNeg).toNatClampNeg)) = (2 : Int32) → (x_in l2 400 = true ∧ yP (xg xs) (d + 1) 328 38 [(0, .ref 58), (2, .int l2)] [.int (m.1 72 l2.toNatClampNeg), .int l1] m Q)) ∧ ((m.1 62 ((m.1 70 l2.toNatClampNeg).toNatClampNeg)) = (2 : Int32) → yP (xg xs) (d + 1) 328 38 [(0, .ref 58), (2, .int l2)] [.int (0 : Int32), .int l1] m Q))))))) : yP (xg xs) (d + 1) 328 4 [(0, .ref 58), (1, .int l1), (2, .int l2)] [] m Q := by
  refine y_st rfl rfl rfl rfl rfl (fun _ _ => rfl) ?_
  refine y_st rfl rfl rfl rfl rfl (fun _ _ => rfl) ?_
  refine y_gf rfl rfl rfl rfl rfl ?_
  show yP (xg xs) (d + 1) 328 9 [(0, .ref 58), (1, .int l1), (2, .int l2)] [.int (m.1 58 23), .int l2] m Q
  refine y_ige (t := 46) rfl rfl rfl (fun h => ?_) (fun h => ?_)
  · replace H := H.1 h; clear h
    refine y_st rfl rfl rfl rfl rfl (fun _ _ => rfl) ?_
    show yP (xg xs) (d + 1) 328 47 [(0, .ref 58), (1, .int l1), (2, .int l2)] [.int l1] m Q
    exact y_iret rfl rfl rfl H
  · replace H := H.2 h; clear h
    refine y_st rfl rfl rfl rfl rfl (fun _ _ => rfl) ?_
    refine y_st rfl rfl rfl rfl rfl (fun _ _ => rfl) ?_
    refine y_gf rfl rfl rfl rfl rfl ?_
    refine y_st rfl rfl rfl rfl rfl (fun _ _ => rfl) ?_
    refine y_gf rfl rfl rfl rfl rfl ?_
    refine y_st rfl rfl rfl rfl rfl (fun _ _ => rfl) ?_
    show yP (xg xs) (d + 1) 328 22 [(0, .ref 58), (1, .int l1), (2, .int l2)] [.int l2, .ref 70, .ref 62, .int l1] m Q
    refine y_iald rfl rfl rfl (H.1) ?_
    replace H := H.2
    show yP (xg xs) (d + 1) 328 23 [(0, .ref 58), (1, .int l1), (2, .int l2)] [.int (m.1 70 l2.toNatClampNeg), .ref 62, .int l1] m Q
    refine y_iald rfl rfl rfl (H.1) ?_
    replace H := H.2
    refine y_st rfl rfl rfl rfl rfl (fun _ _ => rfl) ?_
    show yP (xg xs) (d + 1) 328 25 [(0, .ref 58), (1, .int l1), (2, .int l2)] [.int (2 : Int32), .int (m.1 62 ((m.1 70 l2.toNatClampNeg).toNatClampNeg)), .int l1] m Q
    refine y_ine (t := 32) rfl rfl rfl (fun h => ?_) (fun h => ?_)
    · replace H := H.1 h; clear h
      refine y_st rfl rfl rfl rfl rfl (fun _ _ => rfl) ?_
      refine y_gf rfl rfl rfl rfl rfl ?_
      refine y_st rfl rfl rfl rfl rfl (fun _ _ => rfl) ?_
      show yP (xg xs) (d + 1) 328 37 [(0, .ref 58), (1, .int l1), (2, .int l2)] [.int l2, .ref 72, .int l1] m Q
      refine y_iald rfl rfl rfl (H.1) ?_
      replace H := H.2
      show yP (xg xs) (d + 1) 328 38 [(0, .ref 58), (1, .int l1), (2, .int l2)] [.int (m.1 72 l2.toNatClampNeg), .int l1] m Q
      refine y_headS (l2 := [(0, .ref 58), (2, .int l2)]) [0, 2] [0, 2] [0, 1, 2] rfl rfl (by decide) rfl (by decide) ?_
      exact H
    · replace H := H.2 h; clear h
      refine y_st rfl rfl rfl rfl rfl (fun _ _ => rfl) ?_
      refine y_st rfl rfl rfl rfl rfl (fun _ _ => rfl) ?_
      show yP (xg xs) (d + 1) 328 38 [(0, .ref 58), (1, .int l1), (2, .int l2)] [.int (0 : Int32), .int l1] m Q
      refine y_headS (l2 := [(0, .ref 58), (2, .int l2)]) [0, 2] [0, 2] [0, 1, 2] rfl rfl (by decide) rfl (by decide) ?_
      exact H
set_option maxRecDepth 20000 in
/-- CodeMakerModel.allCells from 38 on -/
theorem w328_38 (xs : List Int32) (d : Nat) (l2 : Int32) (s0 : Int32) (s1 : Int32) (m : yM) (Q : Option Value → yM → Prop) (H : yP (xg xs) (d + 1) 328 4 [(0, .ref 58), (1, .int (s0 + s1)), (2, .int (l2 + (1 : Int32)))] [] m Q) : yP (xg xs) (d + 1) 328 38 [(0, .ref 58), (2, .int l2)] [.int s1, .int s0] m Q := by
  refine y_st rfl rfl rfl rfl rfl (fun _ _ => rfl) ?_
  refine y_st rfl rfl rfl rfl rfl (fun _ _ => rfl) ?_
  refine y_st rfl rfl rfl rfl rfl (fun _ _ => rfl) ?_
  refine y_st rfl rfl rfl rfl rfl (fun _ _ => rfl) ?_
  show yP (xg xs) (d + 1) 328 4 [(2, .int (l2 + (1 : Int32))), (1, .int (s0 + s1)), (0, .ref 58)] [] m Q
  refine y_headS (l2 := [(0, .ref 58), (1, .int (s0 + s1)), (2, .int (l2 + (1 : Int32)))]) [2, 1, 0] [0, 1, 2] [2, 1, 0] rfl rfl (by decide) rfl (by decide) ?_
  exact H
set_option maxRecDepth 20000 in
/-- CodeMakerModel.inputs from 0 on -/
theorem w329_0 (xs : List Int32) (d : Nat) (l1 : Int32) (m : yM) (Q : Option Value → yM → Prop) (H : ((¬ l1 = ((m.1 58 23) - (1 : Int32)) → (x_in (l1 + (1 : Int32)) 401 = true ∧ yP (xg xs) (d + 1) 329 27 [(0, .ref 58), (1, .int l1), (2, .int (0 : Int32))] [.int (m.1 73 ((l1 + (1 : Int32)).toNatClampNeg))] m Q)) ∧ (l1 = ((m.1 58 23) - (1 : Int32)) → yP (xg xs) (d + 1) 329 27 [(0, .ref 58), (1, .int l1), (2, .int (0 : Int32))] [.int (m.1 58 30)] m Q))) : yP (xg xs) (d + 1) 329 0 [(0, .ref 58), (1, .int l1)] [] m Q := by
  refine y_st rfl rfl rfl rfl rfl (fun _ _ => rfl) ?_
  refine y_st rfl rfl rfl rfl rfl (fun _ _ => rfl) ?_
  refine y_st rfl rfl rfl rfl rfl (fun _ _ => rfl) ?_
  refine y_st rfl rfl rfl rfl rfl (fun _ _ => rfl) ?_
  refine y_gf rfl rfl rfl rfl rfl ?_
  refine y_st rfl rfl rfl rfl rfl (fun _ _ => rfl) ?_
  refine y_st rfl rfl rfl rfl rfl (fun _ _ => rfl) ?_
  show yP (xg xs) (d + 1) 329 9 [(2, .int (0 : Int32)), (0, .ref 58), (1, .int l1)] [.int ((m.1 58 23) - (1 : Int32)), .int l1] m Q
  refine y_ine (t := 19) rfl rfl rfl (fun h => ?_) (fun h => ?_)
  · replace H := H.1 h; clear h
    refine y_st rfl rfl rfl rfl rfl (fun _ _ => rfl) ?_
    refine y_gf rfl rfl rfl rfl rfl ?_
    refine y_st rfl rfl rfl rfl rfl (fun _ _ => rfl) ?_
    refine y_st rfl rfl rfl rfl rfl (fun _ _ => rfl) ?_
    refine y_st rfl rfl rfl rfl rfl (fun _ _ => rfl) ?_
    show yP (xg xs) (d + 1) 329 26 [(2, .int (0 : Int32)), (0, .ref 58), (1, .int l1)] [.int (l1 + (1 : Int32)), .ref 73] m Q
    refine y_iald rfl rfl rfl (H.1) ?_
    replace H := H.2
    show yP (xg xs) (d + 1) 329 27 [(2, .int (0 : Int32)), (0, .ref 58), (1, .int l1)] [.int (m.1 73 ((l1 + (1 : Int32)).toNatClampNeg))] m Q
    refine y_headS (l2 := [(0, .ref 58), (1, .int l1), (2, .int (0 : Int32))]) [1, 2, 0] [0, 1, 2] [2, 0, 1] rfl rfl (by decide) rfl (by decide) ?_
    exact H
  · replace H := H.2 h; clear h
    refine y_st rfl rfl rfl rfl rfl (fun _ _ => rfl) ?_
    refine y_gf rfl rfl rfl rfl rfl ?_
    refine y_st rfl rfl rfl rfl rfl (fun _ _ => rfl) ?_
    show yP (xg xs) (d + 1) 329 27 [(2, .int (0 : Int32)), (0, .ref 58), (1, .int l1)] [.int (m.1 58 30)] m Q
    refine y_headS (l2 := [(0, .ref 58), (1, .int l1), (2, .int (0 : Int32))]) [1, 2, 0] [0, 1, 2] [2, 0, 1] rfl rfl (by decide) rfl (by decide) ?_
    exact H
set_option maxRecDepth 20000 in
/-- CodeMakerModel.inputs from 27 on -/
theorem w329_27 (xs : List Int32) (d : Nat) (l1 : Int32) (l2 : Int32) (s0 : Int32) (m : yM) (Q : Option Value → yM → Prop) (H : (x_in l1 401 = true ∧ yP (xg xs) (d + 1) 329 36 [(0, .ref 58), (2, .int l2), (3, .int s0), (4, .int (m.1 73 l1.toNatClampNeg))] [] m Q)) : yP (xg xs) (d + 1) 329 27 [(0, .ref 58), (1, .int l1), (2, .int l2)] [.int s0] m Q := by
  refine y_st rfl rfl rfl rfl rfl (fun _ _ => rfl) ?_
  refine y_st rfl rfl rfl rfl rfl (fun _ _ => rfl) ?_
  refine y_gf rfl rfl rfl rfl rfl ?_
  refine y_st rfl rfl rfl rfl rfl (fun _ _ => rfl) ?_
  show yP (xg xs) (d + 1) 329 33 [(3, .int s0), (0, .ref 58), (1, .int l1), (2, .int l2)] [.int l1, .ref 73] m Q
  refine y_iald rfl rfl rfl (H.1) ?_
  replace H := H.2
  refine y_st rfl rfl rfl rfl rfl (fun _ _ => rfl) ?_
  show yP (xg xs) (d + 1) 329 36 [(4, .int (m.1 73 l1.toNatClampNeg)), (3, .int s0), (0, .ref 58), (1, .int l1), (2, .int l2)] [] m Q
  refine y_headS (l2 := [(0, .ref 58), (2, .int l2), (3, .int s0), (4, .int (m.1 73 l1.toNatClampNeg))]) [2, 4, 1, 0] [0, 2, 3, 4] [4, 3, 0, 1, 2] rfl rfl (by decide) rfl (by decide) ?_
  exact H
set_option maxRecDepth 20000 in
/-- CodeMakerModel.inputs from 36 on -/
theorem w329_36 (xs : List Int32) (d : Nat) (l2 : Int32) (l3 : Int32) (l4 : Int32) (m : yM) (Q : Option Value → yM → Prop) (H : ((l3 ≤ l4 → Q (some (.int l2)) m) ∧ (¬ l3 ≤ l4 → (x_in l4 4700 = true ∧ ((¬ (m.1 81 l4.toNatClampNeg) = (1 : Int32) → yP (xg xs) (d + 1) 329 59 [(0, .ref 58), (3, .int l3), (4, .int l4)] [.int (0 : Int32), .int l2] m Q) ∧ ((m.1 81 l4.toNatClampNeg) = (1 : Int32) → yP (xg xs) (d + 1) 329 59 [(0, .ref 58), (3, .int l3), (4, .int l4)] [.int (1 : Int32), .int l2] m Q)))))) : yP (xg xs) (d + 1) 329 36 [(0, .ref 58), (2, .int l2), (3, .int l3), (4, .int l4)] [] m Q := by
  refine y_st rfl rfl rfl rfl rfl (fun _ _ => rfl) ?_
  refine y_st rfl rfl rfl rfl rfl (fun _ _ => rfl) ?_
  show yP (xg xs) (d + 1) 329 39 [(0, .ref 58), (2, .int l2), (3, .int l3), (4, .int l4)] [.int l3, .int l4] m Q
  refine y_ige (t := 67) rfl rfl rfl (fun h => ?_) (fun h => ?_)
  · replace H := H.1 h; clear h
    refine y_st rfl rfl rfl rfl rfl (fun _ _ => rfl) ?_
    show yP (xg xs) (d + 1) 329 68 [(0, .ref 58), (2, .int l2), (3, .int l3), (4, .int l4)] [.int l2] m Q
    exact y_iret rfl rfl rfl H
  · replace H := H.2 h; clear h
    refine y_st rfl rfl rfl rfl rfl (fun _ _ => rfl) ?_
    refine y_st rfl rfl rfl rfl rfl (fun _ _ => rfl) ?_
    refine y_gf rfl rfl rfl rfl rfl ?_
    refine y_st rfl rfl rfl rfl rfl (fun _ _ => rfl) ?_
    show yP (xg xs) (d + 1) 329 49 [(0, .ref 58), (2, .int l2), (3, .int l3), (4, .int l4)] [.int l4, .ref 81, .int l2] m Q
    refine y_iald rfl rfl rfl (H.1) ?_
    replace H := H.2
    refine y_st rfl rfl rfl rfl rfl (fun _ _ => rfl) ?_
    show yP (xg xs) (d + 1) 329 51 [(0, .ref 58), (2, .int l2), (3, .int l3), (4, .int l4)] [.int (1 : Int32), .int (m.1 81 l4.toNatClampNeg), .int l2] m Q
    refine y_ine (t := 58) rfl rfl rfl (fun h => ?_) (fun h => ?_)
    · replace H := H.1 h; clear h
      refine y_st rfl rfl rfl rfl rfl (fun _ _ => rfl) ?_
      show yP (xg xs) (d + 1) 329 59 [(0, .ref 58), (2, .int l2), (3, .int l3), (4, .int l4)] [.int (0 : Int32), .int l2] m Q
      refine y_headS (l2 := [(0, .ref 58), (3, .int l3), (4, .int l4)]) [0, 2, 3] [0, 3, 4] [0, 2, 3, 4] rfl rfl (by decide) rfl (by decide) ?_
      exact H
    · replace H := H.2 h; clear h
      refine y_st rfl rfl rfl rfl rfl (fun _ _ => rfl) ?_
      refine y_st rfl rfl rfl rfl rfl (fun _ _ => rfl) ?_
      show yP (xg xs) (d + 1) 329 59 [(0, .ref 58), (2, .int l2), (3, .int l3), (4, .int l4)] [.int (1 : Int32), .int l2] m Q
      refine y_headS (l2 := [(0, .ref 58), (3, .int l3), (4, .int l4)]) [0, 2, 3] [0, 3, 4] [0, 2, 3, 4] rfl rfl (by decide) rfl (by decide) ?_
      exact H
set_option maxRecDepth 20000 in
/-- CodeMakerModel.inputs from 59 on -/
theorem w329_59 (xs : List Int32) (d : Nat) (l3 : Int32) (l4 : Int32) (s0 : Int32) (s1 : Int32) (m : yM) (Q : Option Value → yM → Prop) (H : yP (xg xs) (d + 1) 329 36 [(0, .ref 58), (2, .int (s0 + s1)), (3, .int l3), (4, .int (l4 + (1 : Int32)))] [] m Q) : yP (xg xs) (d + 1) 329 59 [(0, .ref 58), (3, .int l3), (4, .int l4)] [.int s1, .int s0] m Q := by
  refine y_st rfl rfl rfl rfl rfl (fun _ _ => rfl) ?_
  refine y_st rfl rfl rfl rfl rfl (fun _ _ => rfl) ?_
  refine y_st rfl rfl rfl rfl rfl (fun _ _ => rfl) ?_
  refine y_st rfl rfl rfl rfl rfl (fun _ _ => rfl) ?_
  show yP (xg xs) (d + 1) 329 36 [(4, .int (l4 + (1 : Int32))), (2, .int (s0 + s1)), (0, .ref 58), (3, .int l3)] [] m Q
  refine y_headS (l2 := [(0, .ref 58), (2, .int (s0 + s1)), (3, .int l3), (4, .int (l4 + (1 : Int32)))]) [2, 1, 3, 0] [0, 2, 3, 4] [4, 2, 0, 3] rfl rfl (by decide) rfl (by decide) ?_
  exact H
set_option maxRecDepth 20000 in
/-- CodeMakerModel.ownCells from 0 on -/
theorem w330_0 (xs : List Int32) (d : Nat) (l1 : Int32) (l2 : Int32) (m : yM) (Q : Option Value → yM → Prop) (H : ((¬ l2 = 0 → (x_in l1 20000 = true ∧ ((¬ (m.1 62 l1.toNatClampNeg) = (25 : Int32) → yP (xg xs) (d + 1) 330 59 [(0, .ref 58), (1, .int l1), (2, .int l2)] [] m Q) ∧ ((m.1 62 l1.toNatClampNeg) = (25 : Int32) → (x_in l1 20000 = true ∧ (((m.1 64 l1.toNatClampNeg) ≤ (1 : Int32) → yP (xg xs) (d + 1) 330 59 [(0, .ref 58), (1, .int l1), (2, .int l2)] [] m Q) ∧ (¬ (m.1 64 l1.toNatClampNeg) ≤ (1 : Int32) → yP (xg xs) (d + 1) 330 60 [(0, .ref 58), (1, .int l1), (2, .int l2)] [.int (1 : Int32)] m Q))))))) ∧ (l2 = 0 → (x_in l1 20000 = true ∧ (((m.1 62 l1.toNatClampNeg) = (16 : Int32) → yP (xg xs) (d + 1) 330 26 [(0, .ref 58), (1, .int l1), (2, .int l2)] [] m Q) ∧ (¬ (m.1 62 l1.toNatClampNeg) = (16 : Int32) → (x_in l1 20000 = true ∧ ((¬ (m.1 62 l1.toNatClampNeg) = (19 : Int32) → yP (xg xs) (d + 1) 330 60 [(0, .ref 58), (1, .int l1), (2, .int l2)] [.int (0 : Int32)] m Q) ∧ ((m.1 62 l1.toNatClampNeg) = (19 : Int32) → yP (xg xs) (d + 1) 330 26 [(0, .ref 58), (1, .int l1), (2, .int l2)] [] m Q))))))))) : yP (xg xs) (d + 1) 330 0 [(0, .ref 58), (1, .int l1), (2, .int l2)] [] m Q := by
  refine y_st rfl rfl rfl rfl rfl (fun _ _ => rfl) ?_
  show yP (xg xs) (d + 1) 330 1 [(0, .ref 58), (1, .int l1), (2, .int l2)] [.int l2] m Q
  refine y_zne (t := 34) rfl rfl rfl (fun h => ?_) (fun h => ?_)
  · replace H := H.1 h; clear h
    refine y_st rfl rfl rfl rfl rfl (fun _ _ => rfl) ?_
    refine y_gf rfl rfl rfl rfl rfl ?_
    refine y_st rfl rfl rfl rfl rfl (fun _ _ => rfl) ?_
    show yP (xg xs) (d + 1) 330 39 [(0, .ref 58), (1, .int l1), (2, .int l2)] [.int l1, .ref 62] m Q
    refine y_iald rfl rfl rfl (H.1) ?_
    replace H := H.2
    refine y_st rfl rfl rfl rfl rfl (fun _ _ => rfl) ?_
    show yP (xg xs) (d + 1) 330 42 [(0, .ref 58), (1, .int l1), (2, .int l2)] [.int (25 : Int32), .int (m.1 62 l1.toNatClampNeg)] m Q
    refine y_ine (t := 59) rfl rfl rfl (fun h => ?_) (fun h => ?_)
    · replace H := H.1 h; clear h
      show yP (xg xs) (d + 1) 330 59 [(0, .ref 58), (1, .int l1), (2, .int l2)] [] m Q
      exact H
    · replace H := H.2 h; clear h
      refine y_st rfl rfl rfl rfl rfl (fun _ _ => rfl) ?_
      refine y_gf rfl rfl rfl rfl rfl ?_
      refine y_st rfl rfl rfl rfl rfl (fun _ _ => rfl) ?_
      show yP (xg xs) (d + 1) 330 50 [(0, .ref 58), (1, .int l1), (2, .int l2)] [.int l1, .ref 64] m Q
      refine y_iald rfl rfl rfl (H.1) ?_
      replace H := H.2
      refine y_st rfl rfl rfl rfl rfl (fun _ _ => rfl) ?_
      show yP (xg xs) (d + 1) 330 52 [(0, .ref 58), (1, .int l1), (2, .int l2)] [.int (1 : Int32), .int (m.1 64 l1.toNatClampNeg)] m Q
      refine y_ile (t := 59) rfl rfl rfl (fun h => ?_) (fun h => ?_)
      · replace H := H.1 h; clear h
        show yP (xg xs) (d + 1) 330 59 [(0, .ref 58), (1, .int l1), (2, .int l2)] [] m Q
        exact H
      · replace H := H.2 h; clear h
        refine y_st rfl rfl rfl rfl rfl (fun _ _ => rfl) ?_
        refine y_st rfl rfl rfl rfl rfl (fun _ _ => rfl) ?_
        show yP (xg xs) (d + 1) 330 60 [(0, .ref 58), (1, .int l1), (2, .int l2)] [.int (1 : Int32)] m Q
        exact H
  · replace H := H.2 h; clear h
    refine y_st rfl rfl rfl rfl rfl (fun _ _ => rfl) ?_
    refine y_gf rfl rfl rfl rfl rfl ?_
    refine y_st rfl rfl rfl rfl rfl (fun _ _ => rfl) ?_
    show yP (xg xs) (d + 1) 330 9 [(0, .ref 58), (1, .int l1), (2, .int l2)] [.int l1, .ref 62] m Q
    refine y_iald rfl rfl rfl (H.1) ?_
    replace H := H.2
    refine y_st rfl rfl rfl rfl rfl (fun _ _ => rfl) ?_
    show yP (xg xs) (d + 1) 330 12 [(0, .ref 58), (1, .int l1), (2, .int l2)] [.int (16 : Int32), .int (m.1 62 l1.toNatClampNeg)] m Q
    refine y_ieq (t := 26) rfl rfl rfl (fun h => ?_) (fun h => ?_)
    · replace H := H.1 h; clear h
      show yP (xg xs) (d + 1) 330 26 [(0, .ref 58), (1, .int l1), (2, .int l2)] [] m Q
      exact H
    · replace H := H.2 h; clear h
      refine y_st rfl rfl rfl rfl rfl (fun _ _ => rfl) ?_
      refine y_gf rfl rfl rfl rfl rfl ?_
      refine y_st rfl rfl rfl rfl rfl (fun _ _ => rfl) ?_
      show yP (xg xs) (d + 1) 330 20 [(0, .ref 58), (1, .int l1), (2, .int l2)] [.int l1, .ref 62] m Q
      refine y_iald rfl rfl rfl (H.1) ?_
      replace H := H.2
      refine y_st rfl rfl rfl rfl rfl (fun _ _ => rfl) ?_
      show yP (xg xs) (d + 1) 330 23 [(0, .ref 58), (1, .int l1), (2, .int l2)] [.int (19 : Int32), .int (m.1 62 l1.toNatClampNeg)] m Q
      refine y_ine (t := 30) rfl rfl rfl (fun h => ?_) (fun h => ?_)
      · replace H := H.1 h; clear h
        refine y_st rfl rfl rfl rfl rfl (fun _ _ => rfl) ?_
        refine y_st rfl rfl rfl rfl rfl (fun _ _ => rfl) ?_
        show yP (xg xs) (d + 1) 330 60 [(0, .ref 58), (1, .int l1), (2, .int l2)] [.int (0 : Int32)] m Q
        exact H
      · replace H := H.2 h; clear h
        show yP (xg xs) (d + 1) 330 26 [(0, .ref 58), (1, .int l1), (2, .int l2)] [] m Q
        exact H
set_option maxRecDepth 20000 in
/-- CodeMakerModel.ownCells from 26 on -/
theorem w330_26 (xs : List Int32) (d : Nat) (l1 : Int32) (l2 : Int32) (m : yM) (Q : Option Value → yM → Prop) (H : yP (xg xs) (d + 1) 330 60 [(0, .ref 58), (1, .int l1), (2, .int l2)] [.int (1 : Int32)] m Q) : yP (xg xs) (d + 1) 330 26 [(0, .ref 58), (1, .int l1), (2, .int l2)] [] m Q := by
  refine y_st rfl rfl rfl rfl rfl (fun _ _ => rfl) ?_
  refine y_st rfl rfl rfl rfl rfl (fun _ _ => rfl) ?_
  show yP (xg xs) (d + 1) 330 60 [(0, .ref 58), (1, .int l1), (2, .int l2)] [.int (1 : Int32)] m Q
  exact H
set_option maxRecDepth 20000 in
/-- CodeMakerModel.ownCells from 59 on -/
theorem w330_59 (xs : List Int32) (d : Nat) (l1 : Int32) (l2 : Int32) (m : yM) (Q : Option Value → yM → Prop) (H : yP (xg xs) (d + 1) 330 60 [(0, .ref 58), (1, .int l1), (2, .int l2)] [.int (0 : Int32)] m Q) : yP (xg xs) (d + 1) 330 59 [(0, .ref 58), (1, .int l1), (2, .int l2)] [] m Q := by
  refine y_st rfl rfl rfl rfl rfl (fun _ _ => rfl) ?_
  show yP (xg xs) (d + 1) 330 60 [(0, .ref 58), (1, .int l1), (2, .int l2)] [.int (0 : Int32)] m Q
  exact H
set_option maxRecDepth 20000 in
/-- CodeMakerModel.ownCells from 60 on -/
theorem w330_60 (xs : List Int32) (d : Nat) (l1 : Int32) (l2 : Int32) (s0 : Int32) (m : yM) (Q : Option Value → yM → Prop) (H : ((s0 = 0 → yP (xg xs) (d + 1) 330 97 [(0, .ref 58), (1, .int l1), (2, .int l2)] [] m Q) ∧ (¬ s0 = 0 → (x_in ((m.1 58 23) - (1 : Int32)) 400 = true ∧ (x_in l1 20000 = true ∧ (x_in ((m.1 58 23) - (1 : Int32)) 400 = true ∧ (x_in ((m.1 58 23) - (1 : Int32)) 400 = true ∧ yP (xg xs) (d + 1) 330 97 [(0, .ref 58), (1, .int l1), (2, .int l2)] [] (y_si (y_si m 86 l1.toNatClampNeg (m.1 72 (((m.1 58 23) - (1 : Int32)).toNatClampNeg))) 72 (((m.1 58 23) - (1 : Int32)).toNatClampNeg) ((m.1 72 (((m.1 58 23) - (1 : Int32)).toNatClampNeg)) + (1 : Int32))) Q))))))) : yP (xg xs) (d + 1) 330 60 [(0, .ref 58), (1, .int l1), (2, .int l2)] [.int s0] m Q := by
  refine y_st rfl rfl rfl rfl rfl (fun _ _ => rfl) ?_
  refine y_st rfl rfl rfl rfl rfl (fun _ _ => rfl) ?_
  show yP (xg xs) (d + 1) 330 62 [(3, .int s0), (0, .ref 58), (1, .int l1), (2, .int l2)] [.int s0] m Q
  refine y_zeq (t := 97) rfl rfl rfl (fun h => ?_) (fun h => ?_)
  · replace H := H.1 h; clear h
    show yP (xg xs) (d + 1) 330 97 [(3, .int s0), (0, .ref 58), (1, .int l1), (2, .int l2)] [] m Q
    refine y_headS (l2 := [(0, .ref 58), (1, .int l1), (2, .int l2)]) [1, 2, 3] [0, 1, 2] [3, 0, 1, 2] rfl rfl (by decide) rfl (by decide) ?_
    exact H
  · replace H := H.2 h; clear h
    refine y_st rfl rfl rfl rfl rfl (fun _ _ => rfl) ?_
    refine y_gf rfl rfl rfl rfl rfl ?_
    refine y_st rfl rfl rfl rfl rfl (fun _ _ => rfl) ?_
    refine y_st rfl rfl rfl rfl rfl (fun _ _ => rfl) ?_
    refine y_gf rfl rfl rfl rfl rfl ?_
    refine y_st rfl rfl rfl rfl rfl (fun _ _ => rfl) ?_
    refine y_gf rfl rfl rfl rfl rfl ?_
    refine y_st rfl rfl rfl rfl rfl (fun _ _ => rfl) ?_
    refine y_st rfl rfl rfl rfl rfl (fun _ _ => rfl) ?_
    show yP (xg xs) (d + 1) 330 80 [(3, .int s0), (0, .ref 58), (1, .int l1), (2, .int l2)] [.int ((m.1 58 23) - (1 : Int32)), .ref 72, .int l1, .ref 86] m Q
    refine y_iald rfl rfl rfl (H.1) ?_
    replace H := H.2
    show yP (xg xs) (d + 1) 330 81 [(3, .int s0), (0, .ref 58), (1, .int l1), (2, .int l2)] [.int (m.1 72 (((m.1 58 23) - (1 : Int32)).toNatClampNeg)), .int l1, .ref 86] m Q
    refine y_iast rfl rfl rfl (H.1) ?_
    replace H := H.2
    refine y_st rfl rfl rfl rfl rfl (fun _ _ => rfl) ?_
    refine y_gf rfl rfl rfl rfl rfl ?_
    refine y_st rfl rfl rfl rfl rfl (fun _ _ => rfl) ?_
    refine y_gf rfl rfl rfl rfl rfl ?_
    refine y_st rfl rfl rfl rfl rfl (fun _ _ => rfl) ?_
    refine y_st rfl rfl rfl rfl rfl (fun _ _ => rfl) ?_
    refine y_st rfl rfl rfl rfl rfl (fun _ _ => rfl) ?_
    show yP (xg xs) (d + 1) 330 93 [(3, .int s0), (0, .ref 58), (1, .int l1), (2, .int l2)] [.int ((m.1 58 23) - (1 : Int32)), .ref 72, .int ((m.1 58 23) - (1 : Int32)), .ref 72] (y_si m 86 l1.toNatClampNeg (m.1 72 (((m.1 58 23) - (1 : Int32)).toNatClampNeg))) Q
    refine y_iald rfl rfl rfl (H.1) ?_
    replace H := H.2
    refine y_st rfl rfl rfl rfl rfl (fun _ _ => rfl) ?_
    refine y_st rfl rfl rfl rfl rfl (fun _ _ => rfl) ?_
    show yP (xg xs) (d + 1) 330 96 [(3, .int s0), (0, .ref 58), (1, .int l1), (2, .int l2)] [.int ((m.1 72 (((m.1 58 23) - (1 : Int32)).toNatClampNeg)) + (1 : Int32)), .int ((m.1 58 23) - (1 : Int32)), .ref 72] (y_si m 86 l1.toNatClampNeg (m.1 72 (((m.1 58 23) - (1 : Int32)).toNatClampNeg))) Q
    refine y_iast rfl rfl rfl (H.1) ?_
    replace H := H.2
    show yP (xg xs) (d + 1) 330 97 [(3, .int s0), (0, .ref 58), (1, .int l1), (2, .int l2)] [] (y_si (y_si m 86 l1.toNatClampNeg (m.1 72 (((m.1 58 23) - (1 : Int32)).toNatClampNeg))) 72 (((m.1 58 23) - (1 : Int32)).toNatClampNeg) ((m.1 72 (((m.1 58 23) - (1 : Int32)).toNatClampNeg)) + (1 : Int32))) Q
    refine y_headS (l2 := [(0, .ref 58), (1, .int l1), (2, .int l2)]) [1, 2, 3] [0, 1, 2] [3, 0, 1, 2] rfl rfl (by decide) rfl (by decide) ?_
    exact H
set_option maxRecDepth 20000 in
/-- CodeMakerModel.ownCells from 97 on -/
theorem w330_97 (xs : List Int32) (d : Nat) (l1 : Int32) (l2 : Int32) (m : yM) (Q : Option Value → yM → Prop) (H : (x_in l1 20000 = true ∧ yP (xg xs) (d + 1) 330 105 [(0, .ref 58), (2, .int l2), (4, .int (m.1 66 l1.toNatClampNeg))] [] m Q)) : yP (xg xs) (d + 1) 330 97 [(0, .ref 58), (1, .int l1), (2, .int l2)] [] m Q := by
  refine y_st rfl rfl rfl rfl rfl (fun _ _ => rfl) ?_
  refine y_gf rfl rfl rfl rfl rfl ?_
  refine y_st rfl rfl rfl rfl rfl (fun _ _ => rfl) ?_
  show yP (xg xs) (d + 1) 330 102 [(0, .ref 58), (1, .int l1), (2, .int l2)] [.int l1, .ref 66] m Q
  refine y_iald rfl rfl rfl (H.1) ?_
  replace H := H.2
  refine y_st rfl rfl rfl rfl rfl (fun _ _ => rfl) ?_
  show yP (xg xs) (d + 1) 330 105 [(4, .int (m.1 66 l1.toNatClampNeg)), (0, .ref 58), (1, .int l1), (2, .int l2)] [] m Q
  refine y_headS (l2 := [(0, .ref 58), (2, .int l2), (4, .int (m.1 66 l1.toNatClampNeg))]) [1, 3, 0] [0, 2, 4] [4, 0, 1, 2] rfl rfl (by decide) rfl (by decide) ?_
  exact H
set_option maxRecDepth 20000 in
/-- CodeMakerModel.ownCells from 105 on -/
theorem w330_105 (xs : List Int32) (d : Nat) (l2 : Int32) (l4 : Int32) (m : yM) (Q : Option Value → yM → Prop) (H : ((l4 = ((-1) : Int32) → Q none m) ∧ (¬ l4 = ((-1) : Int32) → (yC (xg xs) d 330 [.ref 58, .int l4, .int l2] m (fun v1 m1 => v1 = none ∧ (x_in l4 20000 = true ∧ yP (xg xs) (d + 1) 330 105 [(0, .ref 58), (2, .int l2), (4, .int (m1.1 68 l4.toNatClampNeg))] [] m1 Q)))))) : yP (xg xs) (d + 1) 330 105 [(0, .ref 58), (2, .int l2), (4, .int l4)] [] m Q := by
  refine y_st rfl rfl rfl rfl rfl (fun _ _ => rfl) ?_
  refine y_st rfl rfl rfl rfl rfl (fun _ _ => rfl) ?_
  show yP (xg xs) (d + 1) 330 108 [(0, .ref 58), (2, .int l2), (4, .int l4)] [.int ((-1) : Int32), .int l4] m Q
  refine y_ieq (t := 130) rfl rfl rfl (fun h => ?_) (fun h => ?_)
  · replace H := H.1 h; clear h
    show yP (xg xs) (d + 1) 330 130 [(0, .ref 58), (2, .int l2), (4, .int l4)] [] m Q
    exact y_ret rfl rfl rfl rfl H
  · replace H := H.2 h; clear h
    refine y_st rfl rfl rfl rfl rfl (fun _ _ => rfl) ?_
    refine y_st rfl rfl rfl rfl rfl (fun _ _ => rfl) ?_
    refine y_st rfl rfl rfl rfl rfl (fun _ _ => rfl) ?_
    show yP (xg xs) (d + 1) 330 115 [(0, .ref 58), (2, .int l2), (4, .int l4)] [.int l2, .int l4, .ref 58] m Q
    refine y_call rfl rfl rfl rfl rfl (Nat.le_of_ble_eq_true rfl) (Nat.le_of_ble_eq_true rfl) rfl (by decide) H (fun v1 m1 H => ?_)
    obtain ⟨rfl, H⟩ := H
    refine y_st rfl rfl rfl rfl rfl (fun _ _ => rfl) ?_
    refine y_gf rfl rfl rfl rfl rfl ?_
    refine y_st rfl rfl rfl rfl rfl (fun _ _ => rfl) ?_
    show yP (xg xs) (d + 1) 330 124 [(0, .ref 58), (2, .int l2), (4, .int l4)] [.int l4, .ref 68] m1 Q
    refine y_iald rfl rfl rfl (H.1) ?_
    replace H := H.2
    refine y_st rfl rfl rfl rfl rfl (fun _ _ => rfl) ?_
    refine y_st rfl rfl rfl rfl rfl (fun _ _ => rfl) ?_
    show yP (xg xs) (d + 1) 330 105 [(4, .int (m1.1 68 l4.toNatClampNeg)), (0, .ref 58), (2, .int l2)] [] m1 Q
    refine y_headS (l2 := [(0, .ref 58), (2, .int l2), (4, .int (m1.1 68 l4.toNatClampNeg))]) [1, 2, 0] [0, 2, 4] [4, 0, 2] rfl rfl (by decide) rfl (by decide) ?_
    exact H
set_option maxRecDepth 20000 in
/-- CodeMakerModel.ownKind from 0 on -/
theorem w331_0 (xs : List Int32) (d : Nat) (m : yM) (Q : Option Value → yM → Prop) (H : (x_in ((m.1 58 23) - (1 : Int32)) 400 = true ∧ (x_in (m.1 70 (((m.1 58 23) - (1 : Int32)).toNatClampNeg)) 20000 = true ∧ Q (some (.int (m.1 62 ((m.1 70 (((m.1 58 23) - (1 : Int32)).toNatClampNeg)).toNatClampNeg)))) m))) : yP (xg xs) (d + 1) 331 0 [(0, .ref 58)] [] m Q := by
  refine y_st rfl rfl rfl rfl rfl (fun _ _ => rfl) ?_
  refine y_gf rfl rfl rfl rfl rfl ?_
  refine y_st rfl rfl rfl rfl rfl (fun _ _ => rfl) ?_
  refine y_gf rfl rfl rfl rfl rfl ?_
  refine y_st rfl rfl rfl rfl rfl (fun _ _ => rfl) ?_
  refine y_gf rfl rfl rfl rfl rfl ?_
  refine y_st rfl rfl rfl rfl rfl (fun _ _ => rfl) ?_
  refine y_st rfl rfl rfl rfl rfl (fun _ _ => rfl) ?_
  show yP (xg xs) (d + 1) 331 14 [(0, .ref 58)] [.int ((m.1 58 23) - (1 : Int32)), .ref 70, .ref 62] m Q
  refine y_iald rfl rfl rfl (H.1) ?_
  replace H := H.2
  show yP (xg xs) (d + 1) 331 15 [(0, .ref 58)] [.int (m.1 70 (((m.1 58 23) - (1 : Int32)).toNatClampNeg)), .ref 62] m Q
  refine y_iald rfl rfl rfl (H.1) ?_
  replace H := H.2
  show yP (xg xs) (d + 1) 331 16 [(0, .ref 58)] [.int (m.1 62 ((m.1 70 (((m.1 58 23) - (1 : Int32)).toNatClampNeg)).toNatClampNeg))] m Q
  exact y_iret rfl rfl rfl H
set_option maxRecDepth 20000 in
/-- CodeMakerModel.judgeDeclaration from 0 on -/
theorem w332_0 (xs : List Int32) (d : Nat) (l1 : Int32) (m : yM) (Q : Option Value → yM → Prop) (H : (x_in l1 20000 = true ∧ yP (xg xs) (d + 1) 332 9 [(0, .ref 58), (1, .int l1), (2, .int (0 : Int32)), (3, .int (m.1 66 l1.toNatClampNeg))] [] m Q)) : yP (xg xs) (d + 1) 332 0 [(0, .ref 58), (1, .int l1)] [] m Q := by
  refine y_st rfl rfl rfl rfl rfl (fun _ _ => rfl) ?_
  refine y_st rfl rfl rfl rfl rfl (fun _ _ => rfl) ?_
  refine y_st rfl rfl rfl rfl rfl (fun _ _ => rfl) ?_
  refine y_gf rfl rfl rfl rfl rfl ?_
  refine y_st rfl rfl rfl rfl rfl (fun _ _ => rfl) ?_
  show yP (xg xs) (d + 1) 332 7 [(2, .int (0 : Int32)), (0, .ref 58), (1, .int l1)] [.int l1, .ref 66] m Q
  refine y_iald rfl rfl rfl (H.1) ?_
  replace H := H.2
  refine y_st rfl rfl rfl rfl rfl (fun _ _ => rfl) ?_
  show yP (xg xs) (d + 1) 332 9 [(3, .int (m.1 66 l1.toNatClampNeg)), (2, .int (0 : Int32)), (0, .ref 58), (1, .int l1)] [] m Q
  refine y_headS (l2 := [(0, .ref 58), (1, .int l1), (2, .int (0 : Int32)), (3, .int (m.1 66 l1.toNatClampNeg))]) [2, 3, 1, 0] [0, 1, 2, 3] [3, 2, 0, 1] rfl rfl (by decide) rfl (by decide) ?_
  exact H
set_option maxRecDepth 20000 in
/-- CodeMakerModel.judgeDeclaration from 9 on -/
theorem w332_9 (xs : List Int32) (d : Nat) (l1 : Int32) (l2 : Int32) (l3 : Int32) (m : yM) (Q : Option Value → yM → Prop) (H : (x_in l3 20000 = true ∧ ((¬ (m.1 62 l3.toNatClampNeg) = (6 : Int32) → (x_in l3 20000 = true ∧ ((¬ (m.1 62 l3.toNatClampNeg) = (7 : Int32) → yP (xg xs) (d + 1) 332 54 [(0, .ref 58), (1, .int l1), (2, .int l2), (3, .int l3)] [.int ((-1) : Int32)] m Q) ∧ ((m.1 62 l3.toNatClampNeg) = (7 : Int32) → (x_in l3 20000 = true ∧ yP (xg xs) (d + 1) 332 54 [(0, .ref 58), (1, .int l1), (2, .int l2), (3, .int l3)] [.int (m.1 64 l3.toNatClampNeg)] m Q))))) ∧ ((m.1 62 l3.toNatClampNeg) = (6 : Int32) → (x_in l3 20000 = true ∧ yP (xg xs) (d + 1) 332 9 [(0, .ref 58), (1, .int l1), (2, .int (l2 + (1 : Int32))), (3, .int (m.1 68 l3.toNatClampNeg))] [] m Q))))) : yP (xg xs) (d + 1) 332 9 [(0, .ref 58), (1, .int l1), (2, .int l2), (3, .int l3)] [] m Q := by
  refine y_st rfl rfl rfl rfl rfl (fun _ _ => rfl) ?_
  refine y_gf rfl rfl rfl rfl rfl ?_
  refine y_st rfl rfl rfl rfl rfl (fun _ _ => rfl) ?_
  show yP (xg xs) (d + 1) 332 14 [(0, .ref 58), (1, .int l1), (2, .int l2), (3, .int l3)] [.int l3, .ref 62] m Q
  refine y_iald rfl rfl rfl (H.1) ?_
  replace H := H.2
  refine y_st rfl rfl rfl rfl rfl (fun _ _ => rfl) ?_
  show yP (xg xs) (d + 1) 332 17 [(0, .ref 58), (1, .int l1), (2, .int l2), (3, .int l3)] [.int (6 : Int32), .int (m.1 62 l3.toNatClampNeg)] m Q
  refine y_ine (t := 33) rfl rfl rfl (fun h => ?_) (fun h => ?_)
  · replace H := H.1 h; clear h
    refine y_st rfl rfl rfl rfl rfl (fun _ _ => rfl) ?_
    refine y_gf rfl rfl rfl rfl rfl ?_
    refine y_st rfl rfl rfl rfl rfl (fun _ _ => rfl) ?_
    show yP (xg xs) (d + 1) 332 38 [(0, .ref 58), (1, .int l1), (2, .int l2), (3, .int l3)] [.int l3, .ref 62] m Q
    refine y_iald rfl rfl rfl (H.1) ?_
    replace H := H.2
    refine y_st rfl rfl rfl rfl rfl (fun _ _ => rfl) ?_
    show yP (xg xs) (d + 1) 332 41 [(0, .ref 58), (1, .int l1), (2, .int l2), (3, .int l3)] [.int (7 : Int32), .int (m.1 62 l3.toNatClampNeg)] m Q
    refine y_ine (t := 53) rfl rfl rfl (fun h => ?_) (fun h => ?_)
    · replace H := H.1 h; clear h
      refine y_st rfl rfl rfl rfl rfl (fun _ _ => rfl) ?_
      show yP (xg xs) (d + 1) 332 54 [(0, .ref 58), (1, .int l1), (2, .int l2), (3, .int l3)] [.int ((-1) : Int32)] m Q
      exact H
    · replace H := H.2 h; clear h
      refine y_st rfl rfl rfl rfl rfl (fun _ _ => rfl) ?_
      refine y_gf rfl rfl rfl rfl rfl ?_
      refine y_st rfl rfl rfl rfl rfl (fun _ _ => rfl) ?_
      show yP (xg xs) (d + 1) 332 49 [(0, .ref 58), (1, .int l1), (2, .int l2), (3, .int l3)] [.int l3, .ref 64] m Q
      refine y_iald rfl rfl rfl (H.1) ?_
      replace H := H.2
      refine y_st rfl rfl rfl rfl rfl (fun _ _ => rfl) ?_
      show yP (xg xs) (d + 1) 332 54 [(0, .ref 58), (1, .int l1), (2, .int l2), (3, .int l3)] [.int (m.1 64 l3.toNatClampNeg)] m Q
      exact H
  · replace H := H.2 h; clear h
    refine y_st rfl rfl rfl rfl rfl (fun _ _ => rfl) ?_
    refine y_st rfl rfl rfl rfl rfl (fun _ _ => rfl) ?_
    refine y_gf rfl rfl rfl rfl rfl ?_
    refine y_st rfl rfl rfl rfl rfl (fun _ _ => rfl) ?_
    show yP (xg xs) (d + 1) 332 28 [(2, .int (l2 + (1 : Int32))), (0, .ref 58), (1, .int l1), (3, .int l3)] [.int l3, .ref 68] m Q
    refine y_iald rfl rfl rfl (H.1) ?_
    replace H := H.2
    refine y_st rfl rfl rfl rfl rfl (fun _ _ => rfl) ?_
    refine y_st rfl rfl rfl rfl rfl (fun _ _ => rfl) ?_
    show yP (xg xs) (d + 1) 332 9 [(3, .int (m.1 68 l3.toNatClampNeg)), (2, .int (l2 + (1 : Int32))), (0, .ref 58), (1, .int l1)] [] m Q
    refine y_headS (l2 := [(0, .ref 58), (1, .int l1), (2, .int (l2 + (1 : Int32))), (3, .int (m.1 68 l3.toNatClampNeg))]) [2, 3, 1, 0] [0, 1, 2, 3] [3, 2, 0, 1] rfl rfl (by decide) rfl (by decide) ?_
    exact H
set_option maxRecDepth 20000 in
/-- CodeMakerModel.judgeDeclaration from 54 on -/
theorem w332_54 (xs : List Int32) (d : Nat) (l1 : Int32) (l2 : Int32) (l3 : Int32) (s0 : Int32) (m : yM) (Q : Option Value → yM → Prop) (H : (x_in l3 20000 = true ∧ ((¬ (m.1 62 l3.toNatClampNeg) = (7 : Int32) → yP (xg xs) (d + 1) 332 77 [(0, .ref 58), (1, .int l1), (2, .int l2), (4, .int s0)] [.int l3] m Q) ∧ ((m.1 62 l3.toNatClampNeg) = (7 : Int32) → (x_in l3 20000 = true ∧ yP (xg xs) (d + 1) 332 77 [(0, .ref 58), (1, .int l1), (2, .int l2), (4, .int s0)] [.int (m.1 68 l3.toNatClampNeg)] m Q))))) : yP (xg xs) (d + 1) 332 54 [(0, .ref 58), (1, .int l1), (2, .int l2), (3, .int l3)] [.int s0] m Q := by
  refine y_st rfl rfl rfl rfl rfl (fun _ _ => rfl) ?_
  refine y_st rfl rfl rfl rfl rfl (fun _ _ => rfl) ?_
  refine y_gf rfl rfl rfl rfl rfl ?_
  refine y_st rfl rfl rfl rfl rfl (fun _ _ => rfl) ?_
  show yP (xg xs) (d + 1) 332 61 [(4, .int s0), (0, .ref 58), (1, .int l1), (2, .int l2), (3, .int l3)] [.int l3, .ref 62] m Q
  refine y_iald rfl rfl rfl (H.1) ?_
  replace H := H.2
  refine y_st rfl rfl rfl rfl rfl (fun _ _ => rfl) ?_
  show yP (xg xs) (d + 1) 332 64 [(4, .int s0), (0, .ref 58), (1, .int l1), (2, .int l2), (3, .int l3)] [.int (7 : Int32), .int (m.1 62 l3.toNatClampNeg)] m Q
  refine y_ine (t := 76) rfl rfl rfl (fun h => ?_) (fun h => ?_)
  · replace H := H.1 h; clear h
    refine y_st rfl rfl rfl rfl rfl (fun _ _ => rfl) ?_
    show yP (xg xs) (d + 1) 332 77 [(4, .int s0), (0, .ref 58), (1, .int l1), (2, .int l2), (3, .int l3)] [.int l3] m Q
    refine y_headS (l2 := [(0, .ref 58), (1, .int l1), (2, .int l2), (4, .int s0)]) [1, 2, 3, 0] [0, 1, 2, 4] [4, 0, 1, 2, 3] rfl rfl (by decide) rfl (by decide) ?_
    exact H
  · replace H := H.2 h; clear h
    refine y_st rfl rfl rfl rfl rfl (fun _ _ => rfl) ?_
    refine y_gf rfl rfl rfl rfl rfl ?_
    refine y_st rfl rfl rfl rfl rfl (fun _ _ => rfl) ?_
    show yP (xg xs) (d + 1) 332 72 [(4, .int s0), (0, .ref 58), (1, .int l1), (2, .int l2), (3, .int l3)] [.int l3, .ref 68] m Q
    refine y_iald rfl rfl rfl (H.1) ?_
    replace H := H.2
    refine y_st rfl rfl rfl rfl rfl (fun _ _ => rfl) ?_
    show yP (xg xs) (d + 1) 332 77 [(4, .int s0), (0, .ref 58), (1, .int l1), (2, .int l2), (3, .int l3)] [.int (m.1 68 l3.toNatClampNeg)] m Q
    refine y_headS (l2 := [(0, .ref 58), (1, .int l1), (2, .int l2), (4, .int s0)]) [1, 2, 3, 0] [0, 1, 2, 4] [4, 0, 1, 2, 3] rfl rfl (by decide) rfl (by decide) ?_
    exact H
set_option maxRecDepth 20000 in
/-- CodeMakerModel.judgeDeclaration from 77 on -/
theorem w332_77 (xs : List Int32) (d : Nat) (l1 : Int32) (l2 : Int32) (l4 : Int32) (s0 : Int32) (m : yM) (Q : Option Value → yM → Prop) (H : (x_in s0 20000 = true ∧ (x_in s0 20000 = true ∧ ((¬ (m.1 62 s0.toNatClampNeg) = (8 : Int32) → (x_in s0 20000 = true ∧ ((¬ (m.1 62 s0.toNatClampNeg) = (9 : Int32) → yP (xg xs) (d + 1) 332 121 [(0, .ref 58), (1, .int l1), (2, .int l2), (4, .int l4), (5, .int s0), (6, .int (m.1 68 s0.toNatClampNeg))] [.int (2 : Int32)] m Q) ∧ ((m.1 62 s0.toNatClampNeg) = (9 : Int32) → yP (xg xs) (d + 1) 332 121 [(0, .ref 58), (1, .int l1), (2, .int l2), (4, .int l4), (5, .int s0), (6, .int (m.1 68 s0.toNatClampNeg))] [.int (1 : Int32)] m Q)))) ∧ ((m.1 62 s0.toNatClampNeg) = (8 : Int32) → yP (xg xs) (d + 1) 332 121 [(0, .ref 58), (1, .int l1), (2, .int l2), (4, .int l4), (5, .int s0), (6, .int (m.1 68 s0.toNatClampNeg))] [.int (0 : Int32)] m Q))))) : yP (xg xs) (d + 1) 332 77 [(0, .ref 58), (1, .int l1), (2, .int l2), (4, .int l4)] [.int s0] m Q := by
  refine y_st rfl rfl rfl rfl rfl (fun _ _ => rfl) ?_
  refine y_st rfl rfl rfl rfl rfl (fun _ _ => rfl) ?_
  refine y_gf rfl rfl rfl rfl rfl ?_
  refine y_st rfl rfl rfl rfl rfl (fun _ _ => rfl) ?_
  show yP (xg xs) (d + 1) 332 85 [(5, .int s0), (0, .ref 58), (1, .int l1), (2, .int l2), (4, .int l4)] [.int s0, .ref 68] m Q
  refine y_iald rfl rfl rfl (H.1) ?_
  replace H := H.2
  refine y_st rfl rfl rfl rfl rfl (fun _ _ => rfl) ?_
  refine y_st rfl rfl rfl rfl rfl (fun _ _ => rfl) ?_
  refine y_gf rfl rfl rfl rfl rfl ?_
  refine y_st rfl rfl rfl rfl rfl (fun _ _ => rfl) ?_
  show yP (xg xs) (d + 1) 332 94 [(6, .int (m.1 68 s0.toNatClampNeg)), (5, .int s0), (0, .ref 58), (1, .int l1), (2, .int l2), (4, .int l4)] [.int s0, .ref 62] m Q
  refine y_iald rfl rfl rfl (H.1) ?_
  replace H := H.2
  refine y_st rfl rfl rfl rfl rfl (fun _ _ => rfl) ?_
  show yP (xg xs) (d + 1) 332 97 [(6, .int (m.1 68 s0.toNatClampNeg)), (5, .int s0), (0, .ref 58), (1, .int l1), (2, .int l2), (4, .int l4)] [.int (8 : Int32), .int (m.1 62 s0.toNatClampNeg)] m Q
  refine y_ine (t := 104) rfl rfl rfl (fun h => ?_) (fun h => ?_)
  · replace H := H.1 h; clear h
    refine y_st rfl rfl rfl rfl rfl (fun _ _ => rfl) ?_
    refine y_gf rfl rfl rfl rfl rfl ?_
    refine y_st rfl rfl rfl rfl rfl (fun _ _ => rfl) ?_
    show yP (xg xs) (d + 1) 332 110 [(6, .int (m.1 68 s0.toNatClampNeg)), (5, .int s0), (0, .ref 58), (1, .int l1), (2, .int l2), (4, .int l4)] [.int s0, .ref 62] m Q
    refine y_iald rfl rfl rfl (H.1) ?_
    replace H := H.2
    refine y_st rfl rfl rfl rfl rfl (fun _ _ => rfl) ?_
    show yP (xg xs) (d + 1) 332 113 [(6, .int (m.1 68 s0.toNatClampNeg)), (5, .int s0), (0, .ref 58), (1, .int l1), (2, .int l2), (4, .int l4)] [.int (9 : Int32), .int (m.1 62 s0.toNatClampNeg)] m Q
    refine y_ine (t := 120) rfl rfl rfl (fun h => ?_) (fun h => ?_)
    · replace H := H.1 h; clear h
      refine y_st rfl rfl rfl rfl rfl (fun _ _ => rfl) ?_
      show yP (xg xs) (d + 1) 332 121 [(6, .int (m.1 68 s0.toNatClampNeg)), (5, .int s0), (0, .ref 58), (1, .int l1), (2, .int l2), (4, .int l4)] [.int (2 : Int32)] m Q
      refine y_headS (l2 := [(0, .ref 58), (1, .int l1), (2, .int l2), (4, .int l4), (5, .int s0), (6, .int (m.1 68 s0.toNatClampNeg))]) [2, 3, 4, 5, 1, 0] [0, 1, 2, 4, 5, 6] [6, 5, 0, 1, 2, 4] rfl rfl (by decide) rfl (by decide) ?_
      exact H
    · replace H := H.2 h; clear h
      refine y_st rfl rfl rfl rfl rfl (fun _ _ => rfl) ?_
      refine y_st rfl rfl rfl rfl rfl (fun _ _ => rfl) ?_
      show yP (xg xs) (d + 1) 332 121 [(6, .int (m.1 68 s0.toNatClampNeg)), (5, .int s0), (0, .ref 58), (1, .int l1), (2, .int l2), (4, .int l4)] [.int (1 : Int32)] m Q
      refine y_headS (l2 := [(0, .ref 58), (1, .int l1), (2, .int l2), (4, .int l4), (5, .int s0), (6, .int (m.1 68 s0.toNatClampNeg))]) [2, 3, 4, 5, 1, 0] [0, 1, 2, 4, 5, 6] [6, 5, 0, 1, 2, 4] rfl rfl (by decide) rfl (by decide) ?_
      exact H
  · replace H := H.2 h; clear h
    refine y_st rfl rfl rfl rfl rfl (fun _ _ => rfl) ?_
    refine y_st rfl rfl rfl rfl rfl (fun _ _ => rfl) ?_
    show yP (xg xs) (d + 1) 332 121 [(6, .int (m.1 68 s0.toNatClampNeg)), (5, .int s0), (0, .ref 58), (1, .int l1), (2, .int l2), (4, .int l4)] [.int (0 : Int32)] m Q
    refine y_headS (l2 := [(0, .ref 58), (1, .int l1), (2, .int l2), (4, .int l4), (5, .int s0), (6, .int (m.1 68 s0.toNatClampNeg))]) [2, 3, 4, 5, 1, 0] [0, 1, 2, 4, 5, 6] [6, 5, 0, 1, 2, 4] rfl rfl (by decide) rfl (by decide) ?_
    exact H
set_option maxRecDepth 20000 in
/-- CodeMakerModel.judgeDeclaration from 121 on -/
theorem w332_121 (xs : List Int32) (d : Nat) (l1 : Int32) (l2 : Int32) (l4 : Int32) (l5 : Int32) (l6 : Int32) (s0 : Int32) (m : yM) (Q : Option Value → yM → Prop) (H : ((¬ s0 = 0 → ((¬ s0 = (1 : Int32) → yP (xg xs) (d + 1) 332 160 [(0, .ref 58), (1, .int l1), (2, .int l2), (4, .int l4), (5, .int l5), (6, .int l6), (7, .int s0)] [.int ((-1) : Int32)] m Q) ∧ (s0 = (1 : Int32) → (x_in l5 20000 = true ∧ (x_in (m.1 67 l5.toNatClampNeg) 20000 = true ∧ yP (xg xs) (d + 1) 332 160 [(0, .ref 58), (1, .int l1), (2, .int l2), (4, .int l4), (5, .int l5), (6, .int l6), (7, .int s0)] [.int (m.1 64 ((m.1 67 l5.toNatClampNeg).toNatClampNeg))] m Q))))) ∧ (s0 = 0 → (x_in l5 20000 = true ∧ yP (xg xs) (d + 1) 332 160 [(0, .ref 58), (1, .int l1), (2, .int l2), (4, .int l4), (5, .int l5), (6, .int l6), (7, .int s0)] [.int (m.1 64 l5.toNatClampNeg)] m Q)))) : yP (xg xs) (d + 1) 332 121 [(0, .ref 58), (1, .int l1), (2, .int l2), (4, .int l4), (5, .int l5), (6, .int l6)] [.int s0] m Q := by
  refine y_st rfl rfl rfl rfl rfl (fun _ _ => rfl) ?_
  refine y_st rfl rfl rfl rfl rfl (fun _ _ => rfl) ?_
  show yP (xg xs) (d + 1) 332 125 [(7, .int s0), (0, .ref 58), (1, .int l1), (2, .int l2), (4, .int l4), (5, .int l5), (6, .int l6)] [.int s0] m Q
  refine y_zne (t := 138) rfl rfl rfl (fun h => ?_) (fun h => ?_)
  · replace H := H.1 h; clear h
    refine y_st rfl rfl rfl rfl rfl (fun _ _ => rfl) ?_
    refine y_st rfl rfl rfl rfl rfl (fun _ _ => rfl) ?_
    show yP (xg xs) (d + 1) 332 141 [(7, .int s0), (0, .ref 58), (1, .int l1), (2, .int l2), (4, .int l4), (5, .int l5), (6, .int l6)] [.int (1 : Int32), .int s0] m Q
    refine y_ine (t := 159) rfl rfl rfl (fun h => ?_) (fun h => ?_)
    · replace H := H.1 h; clear h
      refine y_st rfl rfl rfl rfl rfl (fun _ _ => rfl) ?_
      show yP (xg xs) (d + 1) 332 160 [(7, .int s0), (0, .ref 58), (1, .int l1), (2, .int l2), (4, .int l4), (5, .int l5), (6, .int l6)] [.int ((-1) : Int32)] m Q
      refine y_headS (l2 := [(0, .ref 58), (1, .int l1), (2, .int l2), (4, .int l4), (5, .int l5), (6, .int l6), (7, .int s0)]) [1, 2, 3, 4, 5, 6, 0] [0, 1, 2, 4, 5, 6, 7] [7, 0, 1, 2, 4, 5, 6] rfl rfl (by decide) rfl (by decide) ?_
      exact H
    · replace H := H.2 h; clear h
      refine y_st rfl rfl rfl rfl rfl (fun _ _ => rfl) ?_
      refine y_gf rfl rfl rfl rfl rfl ?_
      refine y_st rfl rfl rfl rfl rfl (fun _ _ => rfl) ?_
      refine y_gf rfl rfl rfl rfl rfl ?_
      refine y_st rfl rfl rfl rfl rfl (fun _ _ => rfl) ?_
      show yP (xg xs) (d + 1) 332 154 [(7, .int s0), (0, .ref 58), (1, .int l1), (2, .int l2), (4, .int l4), (5, .int l5), (6, .int l6)] [.int l5, .ref 67, .ref 64] m Q
      refine y_iald rfl rfl rfl (H.1) ?_
      replace H := H.2
      show yP (xg xs) (d + 1) 332 155 [(7, .int s0), (0, .ref 58), (1, .int l1), (2, .int l2), (4, .int l4), (5, .int l5), (6, .int l6)] [.int (m.1 67 l5.toNatClampNeg), .ref 64] m Q
      refine y_iald rfl rfl rfl (H.1) ?_
      replace H := H.2
      refine y_st rfl rfl rfl rfl rfl (fun _ _ => rfl) ?_
      show yP (xg xs) (d + 1) 332 160 [(7, .int s0), (0, .ref 58), (1, .int l1), (2, .int l2), (4, .int l4), (5, .int l5), (6, .int l6)] [.int (m.1 64 ((m.1 67 l5.toNatClampNeg).toNatClampNeg))] m Q
      refine y_headS (l2 := [(0, .ref 58), (1, .int l1), (2, .int l2), (4, .int l4), (5, .int l5), (6, .int l6), (7, .int s0)]) [1, 2, 3, 4, 5, 6, 0] [0, 1, 2, 4, 5, 6, 7] [7, 0, 1, 2, 4, 5, 6] rfl rfl (by decide) rfl (by decide) ?_
      exact H
  · replace H := H.2 h; clear h
    refine y_st rfl rfl rfl rfl rfl (fun _ _ => rfl) ?_
    refine y_gf rfl rfl rfl rfl rfl ?_
    refine y_st rfl rfl rfl rfl rfl (fun _ _ => rfl) ?_
    show yP (xg xs) (d + 1) 332 134 [(7, .int s0), (0, .ref 58), (1, .int l1), (2, .int l2), (4, .int l4), (5, .int l5), (6, .int l6)] [.int l5, .ref 64] m Q
    refine y_iald rfl rfl rfl (H.1) ?_
    replace H := H.2
    refine y_st rfl rfl rfl rfl rfl (fun _ _ => rfl) ?_
    show yP (xg xs) (d + 1) 332 160 [(7, .int s0), (0, .ref 58), (1, .int l1), (2, .int l2), (4, .int l4), (5, .int l5), (6, .int l6)] [.int (m.1 64 l5.toNatClampNeg)] m Q
    refine y_headS (l2 := [(0, .ref 58), (1, .int l1), (2, .int l2), (4, .int l4), (5, .int l5), (6, .int l6), (7, .int s0)]) [1, 2, 3, 4, 5, 6, 0] [0, 1, 2, 4, 5, 6, 7] [7, 0, 1, 2, 4, 5, 6] rfl rfl (by decide) rfl (by decide) ?_
    exact H
set_option maxRecDepth 20000 in
/-- CodeMakerModel.judgeDeclaration from 160 on -/
theorem w332_160 (xs : List Int32) (d : Nat) (l1 : Int32) (l2 : Int32) (l4 : Int32) (l5 : Int32) (l6 : Int32) (l7 : Int32) (s0 : Int32) (m : yM) (Q : Option Value → yM → Prop) (H : (x_in l1 20000 = true ∧ (x_in (m.1 65 l1.toNatClampNeg) 20000 = true ∧ (((m.1 64 ((m.1 65 l1.toNatClampNeg).toNatClampNeg)) = 0 → yP (xg xs) (d + 1) 332 188 [(0, .ref 58), (1, .int l1), (2, .int l2), (4, .int l4), (5, .int l5), (6, .int l6), (7, .int l7), (8, .int s0)] [.int (43 : Int32), .ref 58] m Q) ∧ (¬ (m.1 64 ((m.1 65 l1.toNatClampNeg).toNatClampNeg)) = 0 → ((l7 = 0 → yP (xg xs) (d + 1) 332 188 [(0, .ref 58), (1, .int l1), (2, .int l2), (4, .int l4), (5, .int l5), (6, .int l6), (7, .int l7), (8, .int s0)] [.int (43 : Int32), .ref 58] m Q) ∧ (¬ l7 = 0 → yP (xg xs) (d + 1) 332 189 [(0, .ref 58), (1, .int l1), (2, .int l2), (4, .int l4), (5, .int l5), (6, .int l6), (7, .int l7), (8, .int s0)] [.int (1 : Int32), .int (43 : Int32), .ref 58] m Q))))))) : yP (xg xs) (d + 1) 332 160 [(0, .ref 58), (1, .int l1), (2, .int l2), (4, .int l4), (5, .int l5), (6, .int l6), (7, .int l7)] [.int s0] m Q := by
  refine y_st rfl rfl rfl rfl rfl (fun _ _ => rfl) ?_
  refine y_st rfl rfl rfl rfl rfl (fun _ _ => rfl) ?_
  refine y_st rfl rfl rfl rfl rfl (fun _ _ => rfl) ?_
  refine y_st rfl rfl rfl rfl rfl (fun _ _ => rfl) ?_
  refine y_gf rfl rfl rfl rfl rfl ?_
  refine y_st rfl rfl rfl rfl rfl (fun _ _ => rfl) ?_
  refine y_gf rfl rfl rfl rfl rfl ?_
  refine y_st rfl rfl rfl rfl rfl (fun _ _ => rfl) ?_
  show yP (xg xs) (d + 1) 332 174 [(8, .int s0), (0, .ref 58), (1, .int l1), (2, .int l2), (4, .int l4), (5, .int l5), (6, .int l6), (7, .int l7)] [.int l1, .ref 65, .ref 64, .int (43 : Int32), .ref 58] m Q
  refine y_iald rfl rfl rfl (H.1) ?_
  replace H := H.2
  show yP (xg xs) (d + 1) 332 175 [(8, .int s0), (0, .ref 58), (1, .int l1), (2, .int l2), (4, .int l4), (5, .int l5), (6, .int l6), (7, .int l7)] [.int (m.1 65 l1.toNatClampNeg), .ref 64, .int (43 : Int32), .ref 58] m Q
  refine y_iald rfl rfl rfl (H.1) ?_
  replace H := H.2
  show yP (xg xs) (d + 1) 332 176 [(8, .int s0), (0, .ref 58), (1, .int l1), (2, .int l2), (4, .int l4), (5, .int l5), (6, .int l6), (7, .int l7)] [.int (m.1 64 ((m.1 65 l1.toNatClampNeg).toNatClampNeg)), .int (43 : Int32), .ref 58] m Q
  refine y_zeq (t := 188) rfl rfl rfl (fun h => ?_) (fun h => ?_)
  · replace H := H.1 h; clear h
    show yP (xg xs) (d + 1) 332 188 [(8, .int s0), (0, .ref 58), (1, .int l1), (2, .int l2), (4, .int l4), (5, .int l5), (6, .int l6), (7, .int l7)] [.int (43 : Int32), .ref 58] m Q
    refine y_headS (l2 := [(0, .ref 58), (1, .int l1), (2, .int l2), (4, .int l4), (5, .int l5), (6, .int l6), (7, .int l7), (8, .int s0)]) [1, 2, 3, 4, 5, 6, 7, 0] [0, 1, 2, 4, 5, 6, 7, 8] [8, 0, 1, 2, 4, 5, 6, 7] rfl rfl (by decide) rfl (by decide) ?_
    exact H
  · replace H := H.2 h; clear h
    refine y_st rfl rfl rfl rfl rfl (fun _ _ => rfl) ?_
    show yP (xg xs) (d + 1) 332 181 [(8, .int s0), (0, .ref 58), (1, .int l1), (2, .int l2), (4, .int l4), (5, .int l5), (6, .int l6), (7, .int l7)] [.int l7, .int (43 : Int32), .ref 58] m Q
    refine y_zeq (t := 188) rfl rfl rfl (fun h => ?_) (fun h => ?_)
    · replace H := H.1 h; clear h
      show yP (xg xs) (d + 1) 332 188 [(8, .int s0), (0, .ref 58), (1, .int l1), (2, .int l2), (4, .int l4), (5, .int l5), (6, .int l6), (7, .int l7)] [.int (43 : Int32), .ref 58] m Q
      refine y_headS (l2 := [(0, .ref 58), (1, .int l1), (2, .int l2), (4, .int l4), (5, .int l5), (6, .int l6), (7, .int l7), (8, .int s0)]) [1, 2, 3, 4, 5, 6, 7, 0] [0, 1, 2, 4, 5, 6, 7, 8] [8, 0, 1, 2, 4, 5, 6, 7] rfl rfl (by decide) rfl (by decide) ?_
      exact H
    · replace H := H.2 h; clear h
      refine y_st rfl rfl rfl rfl rfl (fun _ _ => rfl) ?_
      refine y_st rfl rfl rfl rfl rfl (fun _ _ => rfl) ?_
      show yP (xg xs) (d + 1) 332 189 [(8, .int s0), (0, .ref 58), (1, .int l1), (2, .int l2), (4, .int l4), (5, .int l5), (6, .int l6), (7, .int l7)] [.int (1 : Int32), .int (43 : Int32), .ref 58] m Q
      refine y_headS (l2 := [(0, .ref 58), (1, .int l1), (2, .int l2), (4, .int l4), (5, .int l5), (6, .int l6), (7, .int l7), (8, .int s0)]) [1, 2, 3, 4, 5, 6, 7, 0] [0, 1, 2, 4, 5, 6, 7, 8] [8, 0, 1, 2, 4, 5, 6, 7] rfl rfl (by decide) rfl (by decide) ?_
      exact H
set_option maxRecDepth 20000 in
/-- CodeMakerModel.judgeDeclaration from 188 on -/
theorem w332_188 (xs : List Int32) (d : Nat) (l1 : Int32) (l2 : Int32) (l4 : Int32) (l5 : Int32) (l6 : Int32) (l7 : Int32) (l8 : Int32) (s1 : Int32) (m : yM) (Q : Option Value → yM → Prop) (H : yP (xg xs) (d + 1) 332 189 [(0, .ref 58), (1, .int l1), (2, .int l2), (4, .int l4), (5, .int l5), (6, .int l6), (7, .int l7), (8, .int l8)] [.int (0 : Int32), .int s1, .ref 58] m Q) : yP (xg xs) (d + 1) 332 188 [(0, .ref 58), (1, .int l1), (2, .int l2), (4, .int l4), (5, .int l5), (6, .int l6), (7, .int l7), (8, .int l8)] [.int s1, .ref 58] m Q := by
  refine y_st rfl rfl rfl rfl rfl (fun _ _ => rfl) ?_
  show yP (xg xs) (d + 1) 332 189 [(0, .ref 58), (1, .int l1), (2, .int l2), (4, .int l4), (5, .int l5), (6, .int l6), (7, .int l7), (8, .int l8)] [.int (0 : Int32), .int s1, .ref 58] m Q
  exact H
set_option maxRecDepth 20000 in
/-- CodeMakerModel.judgeDeclaration from 189 on -/
theorem w332_189 (xs : List Int32) (d : Nat) (l1 : Int32) (l2 : Int32) (l4 : Int32) (l5 : Int32) (l6 : Int32) (l7 : Int32) (l8 : Int32) (s1 : Int32) (s2 : Int32) (m : yM) (Q : Option Value → yM → Prop) (H : (yC (xg xs) d 323 [.ref 58, .int s1, .int s2, .int l1] m (fun v1 m1 => v1 = none ∧ ((l4 = ((-1) : Int32) → yP (xg xs) (d + 1) 332 231 [(0, .ref 58), (1, .int l1), (2, .int l2), (4, .int l4), (5, .int l5), (6, .int l6), (7, .int l7), (8, .int l8)] [.int (15 : Int32), .ref 58] m1 Q) ∧ (¬ l4 = ((-1) : Int32) → ((¬ l7 = 0 → yP (xg xs) (d + 1) 332 227 [(0, .ref 58), (1, .int l1), (2, .int l2), (4, .int l4), (5, .int l5), (6, .int l6), (7, .int l7), (8, .int l8)] [.int (15 : Int32), .ref 58] m1 Q) ∧ (l7 = 0 → (¬ (256 : Int32) = 0 ∧ (((3 : Int32) ≤ (l4 / (256 : Int32)) → yP (xg xs) (d + 1) 332 224 [(0, .ref 58), (1, .int l1), (2, .int l2), (4, .int l4), (5, .int l5), (6, .int l6), (7, .int l7), (8, .int l8)] [.int (1 : Int32), .int l8, .int (15 : Int32), .ref 58] m1 Q) ∧ (¬ (3 : Int32) ≤ (l4 / (256 : Int32)) → yP (xg xs) (d + 1) 332 224 [(0, .ref 58), (1, .int l1), (2, .int l2), (4, .int l4), (5, .int l5), (6, .int l6), (7, .int l7), (8, .int l8)] [.int (0 : Int32), .int l8, .int (15 : Int32), .ref 58] m1 Q)))))))))) : yP (xg xs) (d + 1) 332 189 [(0, .ref 58), (1, .int l1), (2, .int l2), (4, .int l4), (5, .int l5), (6, .int l6), (7, .int l7), (8, .int l8)] [.int s2, .int s1, .ref 58] m Q := by
  refine y_st rfl rfl rfl rfl rfl (fun _ _ => rfl) ?_
  show yP (xg xs) (d + 1) 332 190 [(0, .ref 58), (1, .int l1), (2, .int l2), (4, .int l4), (5, .int l5), (6, .int l6), (7, .int l7), (8, .int l8)] [.int l1, .int s2, .int s1, .ref 58] m Q
  refine y_call rfl rfl rfl rfl rfl (Nat.le_of_ble_eq_true rfl) (Nat.le_of_ble_eq_true rfl) rfl (by decide) H (fun v1 m1 H => ?_)
  obtain ⟨rfl, H⟩ := H
  refine y_st rfl rfl rfl rfl rfl (fun _ _ => rfl) ?_
  refine y_st rfl rfl rfl rfl rfl (fun _ _ => rfl) ?_
  refine y_st rfl rfl rfl rfl rfl (fun _ _ => rfl) ?_
  refine y_st rfl rfl rfl rfl rfl (fun _ _ => rfl) ?_
  show yP (xg xs) (d + 1) 332 199 [(0, .ref 58), (1, .int l1), (2, .int l2), (4, .int l4), (5, .int l5), (6, .int l6), (7, .int l7), (8, .int l8)] [.int ((-1) : Int32), .int l4, .int (15 : Int32), .ref 58] m1 Q
  refine y_ieq (t := 231) rfl rfl rfl (fun h => ?_) (fun h => ?_)
  · replace H := H.1 h; clear h
    show yP (xg xs) (d + 1) 332 231 [(0, .ref 58), (1, .int l1), (2, .int l2), (4, .int l4), (5, .int l5), (6, .int l6), (7, .int l7), (8, .int l8)] [.int (15 : Int32), .ref 58] m1 Q
    exact H
  · replace H := H.2 h; clear h
    refine y_st rfl rfl rfl rfl rfl (fun _ _ => rfl) ?_
    show yP (xg xs) (d + 1) 332 204 [(0, .ref 58), (1, .int l1), (2, .int l2), (4, .int l4), (5, .int l5), (6, .int l6), (7, .int l7), (8, .int l8)] [.int l7, .int (15 : Int32), .ref 58] m1 Q
    refine y_zne (t := 227) rfl rfl rfl (fun h => ?_) (fun h => ?_)
    · replace H := H.1 h; clear h
      show yP (xg xs) (d + 1) 332 227 [(0, .ref 58), (1, .int l1), (2, .int l2), (4, .int l4), (5, .int l5), (6, .int l6), (7, .int l7), (8, .int l8)] [.int (15 : Int32), .ref 58] m1 Q
      exact H
    · replace H := H.2 h; clear h
      refine y_st rfl rfl rfl rfl rfl (fun _ _ => rfl) ?_
      refine y_st rfl rfl rfl rfl rfl (fun _ _ => rfl) ?_
      refine y_st rfl rfl rfl rfl rfl (fun _ _ => rfl) ?_
      show yP (xg xs) (d + 1) 332 214 [(0, .ref 58), (1, .int l1), (2, .int l2), (4, .int l4), (5, .int l5), (6, .int l6), (7, .int l7), (8, .int l8)] [.int (256 : Int32), .int l4, .int l8, .int (15 : Int32), .ref 58] m1 Q
      refine y_idiv rfl rfl H.1 ?_
      replace H := H.2
      refine y_st rfl rfl rfl rfl rfl (fun _ _ => rfl) ?_
      show yP (xg xs) (d + 1) 332 216 [(0, .ref 58), (1, .int l1), (2, .int l2), (4, .int l4), (5, .int l5), (6, .int l6), (7, .int l7), (8, .int l8)] [.int (3 : Int32), .int (l4 / (256 : Int32)), .int l8, .int (15 : Int32), .ref 58] m1 Q
      refine y_ige (t := 223) rfl rfl rfl (fun h => ?_) (fun h => ?_)
      · replace H := H.1 h; clear h
        refine y_st rfl rfl rfl rfl rfl (fun _ _ => rfl) ?_
        show yP (xg xs) (d + 1) 332 224 [(0, .ref 58), (1, .int l1), (2, .int l2), (4, .int l4), (5, .int l5), (6, .int l6), (7, .int l7), (8, .int l8)] [.int (1 : Int32), .int l8, .int (15 : Int32), .ref 58] m1 Q
        exact H
      · replace H := H.2 h; clear h
        refine y_st rfl rfl rfl rfl rfl (fun _ _ => rfl) ?_
        refine y_st rfl rfl rfl rfl rfl (fun _ _ => rfl) ?_
        show yP (xg xs) (d + 1) 332 224 [(0, .ref 58), (1, .int l1), (2, .int l2), (4, .int l4), (5, .int l5), (6, .int l6), (7, .int l7), (8, .int l8)] [.int (0 : Int32), .int l8, .int (15 : Int32), .ref 58] m1 Q
        exact H
set_option maxRecDepth 20000 in
/-- CodeMakerModel.judgeDeclaration from 224 on -/
theorem w332_224 (xs : List Int32) (d : Nat) (l1 : Int32) (l2 : Int32) (l4 : Int32) (l5 : Int32) (l6 : Int32) (l7 : Int32) (l8 : Int32) (s1 : Int32) (s2 : Int32) (s3 : Int32) (m : yM) (Q : Option Value → yM → Prop) (H : ((s2 = s3 → yP (xg xs) (d + 1) 332 231 [(0, .ref 58), (1, .int l1), (2, .int l2), (4, .int l4), (5, .int l5), (6, .int l6), (7, .int l7), (8, .int l8)] [.int s1, .ref 58] m Q) ∧ (¬ s2 = s3 → yP (xg xs) (d + 1) 332 227 [(0, .ref 58), (1, .int l1), (2, .int l2), (4, .int l4), (5, .int l5), (6, .int l6), (7, .int l7), (8, .int l8)] [.int s1, .ref 58] m Q))) : yP (xg xs) (d + 1) 332 224 [(0, .ref 58), (1, .int l1), (2, .int l2), (4, .int l4), (5, .int l5), (6, .int l6), (7, .int l7), (8, .int l8)] [.int s3, .int s2, .int s1, .ref 58] m Q := by
  show yP (xg xs) (d + 1) 332 224 [(0, .ref 58), (1, .int l1), (2, .int l2), (4, .int l4), (5, .int l5), (6, .int l6), (7, .int l7), (8, .int l8)] [.int s3, .int s2, .int s1, .ref 58] m Q
  refine y_ieq (t := 231) rfl rfl rfl (fun h => ?_) (fun h => ?_)
  · replace H := H.1 h; clear h
    show yP (xg xs) (d + 1) 332 231 [(0, .ref 58), (1, .int l1), (2, .int l2), (4, .int l4), (5, .int l5), (6, .int l6), (7, .int l7), (8, .int l8)] [.int s1, .ref 58] m Q
    exact H
  · replace H := H.2 h; clear h
    show yP (xg xs) (d + 1) 332 227 [(0, .ref 58), (1, .int l1), (2, .int l2), (4, .int l4), (5, .int l5), (6, .int l6), (7, .int l7), (8, .int l8)] [.int s1, .ref 58] m Q
    exact H
set_option maxRecDepth 20000 in
/-- CodeMakerModel.judgeDeclaration from 227 on -/
theorem w332_227 (xs : List Int32) (d : Nat) (l1 : Int32) (l2 : Int32) (l4 : Int32) (l5 : Int32) (l6 : Int32) (l7 : Int32) (l8 : Int32) (s1 : Int32) (m : yM) (Q : Option Value → yM → Prop) (H : yP (xg xs) (d + 1) 332 232 [(0, .ref 58), (1, .int l1), (2, .int l2), (4, .int l4), (5, .int l5), (6, .int l6), (7, .int l7), (8, .int l8)] [.int (1 : Int32), .int s1, .ref 58] m Q) : yP (xg xs) (d + 1) 332 227 [(0, .ref 58), (1, .int l1), (2, .int l2), (4, .int l4), (5, .int l5), (6, .int l6), (7, .int l7), (8, .int l8)] [.int s1, .ref 58] m Q := by
  refine y_st rfl rfl rfl rfl rfl (fun _ _ => rfl) ?_
  refine y_st rfl rfl rfl rfl rfl (fun _ _ => rfl) ?_
  show yP (xg xs) (d + 1) 332 232 [(0, .ref 58), (1, .int l1), (2, .int l2), (4, .int l4), (5, .int l5), (6, .int l6), (7, .int l7), (8, .int l8)] [.int (1 : Int32), .int s1, .ref 58] m Q
  exact H
set_option maxRecDepth 20000 in
/-- CodeMakerModel.judgeDeclaration from 231 on -/
theorem w332_231 (xs : List Int32) (d : Nat) (l1 : Int32) (l2 : Int32) (l4 : Int32) (l5 : Int32) (l6 : Int32) (l7 : Int32) (l8 : Int32) (s1 : Int32) (m : yM) (Q : Option Value → yM → Prop) (H : yP (xg xs) (d + 1) 332 232 [(0, .ref 58), (1, .int l1), (2, .int l2), (4, .int l4), (5, .int l5), (6, .int l6), (7, .int l7), (8, .int l8)] [.int (0 : Int32), .int s1, .ref 58] m Q) : yP (xg xs) (d + 1) 332 231 [(0, .ref 58), (1, .int l1), (2, .int l2), (4, .int l4), (5, .int l5), (6, .int l6), (7, .int l7), (8, .int l8)] [.int s1, .ref 58] m Q := by
  refine y_st rfl rfl rfl rfl rfl (fun _ _ => rfl) ?_
  show yP (xg xs) (d + 1) 332 232 [(0, .ref 58), (1, .int l1), (2, .int l2), (4, .int l4), (5, .int l5), (6, .int l6), (7, .int l7), (8, .int l8)] [.int (0 : Int32), .int s1, .ref 58] m Q
  exact H
set_option maxRecDepth 20000 in
/-- CodeMakerModel.judgeDeclaration from 232 on -/
theorem w332_232 (xs : List Int32) (d : Nat) (l1 : Int32) (l2 : Int32) (l4 : Int32) (l5 : Int32) (l6 : Int32) (l7 : Int32) (l8 : Int32) (s1 : Int32) (s2 : Int32) (m : yM) (Q : Option Value → yM → Prop) (H : (yC (xg xs) d 323 [.ref 58, .int s1, .int s2, .int l1] m (fun v1 m1 => v1 = none ∧ ((l6 = ((-1) : Int32) → yP (xg xs) (d + 1) 332 355 [(0, .ref 58), (1, .int l1), (2, .int l2), (4, .int l4), (5, .int l5), (6, .int l6), (7, .int l7), (8, .int l8)] [] m1 Q) ∧ (¬ l6 = ((-1) : Int32) → (x_in l6 20000 = true ∧ ((¬ (m1.1 62 l6.toNatClampNeg) = (31 : Int32) → yP (xg xs) (d + 1) 332 259 [(0, .ref 58), (1, .int l1), (2, .int l2), (4, .int l4), (5, .int l5), (6, .int l6), (7, .int l7), (8, .int l8)] [.int (0 : Int32)] m1 Q) ∧ ((m1.1 62 l6.toNatClampNeg) = (31 : Int32) → yP (xg xs) (d + 1) 332 259 [(0, .ref 58), (1, .int l1), (2, .int l2), (4, .int l4), (5, .int l5), (6, .int l6), (7, .int l7), (8, .int l8)] [.int (1 : Int32)] m1 Q)))))))) : yP (xg xs) (d + 1) 332 232 [(0, .ref 58), (1, .int l1), (2, .int l2), (4, .int l4), (5, .int l5), (6, .int l6), (7, .int l7), (8, .int l8)] [.int s2, .int s1, .ref 58] m Q := by
  refine y_st rfl rfl rfl rfl rfl (fun _ _ => rfl) ?_
  show yP (xg xs) (d + 1) 332 233 [(0, .ref 58), (1, .int l1), (2, .int l2), (4, .int l4), (5, .int l5), (6, .int l6), (7, .int l7), (8, .int l8)] [.int l1, .int s2, .int s1, .ref 58] m Q
  refine y_call rfl rfl rfl rfl rfl (Nat.le_of_ble_eq_true rfl) (Nat.le_of_ble_eq_true rfl) rfl (by decide) H (fun v1 m1 H => ?_)
  obtain ⟨rfl, H⟩ := H
  refine y_st rfl rfl rfl rfl rfl (fun _ _ => rfl) ?_
  refine y_st rfl rfl rfl rfl rfl (fun _ _ => rfl) ?_
  show yP (xg xs) (d + 1) 332 239 [(0, .ref 58), (1, .int l1), (2, .int l2), (4, .int l4), (5, .int l5), (6, .int l6), (7, .int l7), (8, .int l8)] [.int ((-1) : Int32), .int l6] m1 Q
  refine y_ieq (t := 355) rfl rfl rfl (fun h => ?_) (fun h => ?_)
  · replace H := H.1 h; clear h
    show yP (xg xs) (d + 1) 332 355 [(0, .ref 58), (1, .int l1), (2, .int l2), (4, .int l4), (5, .int l5), (6, .int l6), (7, .int l7), (8, .int l8)] [] m1 Q
    exact H
  · replace H := H.2 h; clear h
    refine y_st rfl rfl rfl rfl rfl (fun _ _ => rfl) ?_
    refine y_gf rfl rfl rfl rfl rfl ?_
    refine y_st rfl rfl rfl rfl rfl (fun _ _ => rfl) ?_
    show yP (xg xs) (d + 1) 332 248 [(0, .ref 58), (1, .int l1), (2, .int l2), (4, .int l4), (5, .int l5), (6, .int l6), (7, .int l7), (8, .int l8)] [.int l6, .ref 62] m1 Q
    refine y_iald rfl rfl rfl (H.1) ?_
    replace H := H.2
    refine y_st rfl rfl rfl rfl rfl (fun _ _ => rfl) ?_
    show yP (xg xs) (d + 1) 332 251 [(0, .ref 58), (1, .int l1), (2, .int l2), (4, .int l4), (5, .int l5), (6, .int l6), (7, .int l7), (8, .int l8)] [.int (31 : Int32), .int (m1.1 62 l6.toNatClampNeg)] m1 Q
    refine y_ine (t := 258) rfl rfl rfl (fun h => ?_) (fun h => ?_)
    · replace H := H.1 h; clear h
      refine y_st rfl rfl rfl rfl rfl (fun _ _ => rfl) ?_
      show yP (xg xs) (d + 1) 332 259 [(0, .ref 58), (1, .int l1), (2, .int l2), (4, .int l4), (5, .int l5), (6, .int l6), (7, .int l7), (8, .int l8)] [.int (0 : Int32)] m1 Q
      exact H
    · replace H := H.2 h; clear h
      refine y_st rfl rfl rfl rfl rfl (fun _ _ => rfl) ?_
      refine y_st rfl rfl rfl rfl rfl (fun _ _ => rfl) ?_
      show yP (xg xs) (d + 1) 332 259 [(0, .ref 58), (1, .int l1), (2, .int l2), (4, .int l4), (5, .int l5), (6, .int l6), (7, .int l7), (8, .int l8)] [.int (1 : Int32)] m1 Q
      exact H
set_option maxRecDepth 20000 in
/-- CodeMakerModel.judgeDeclaration from 259 on -/
theorem w332_259 (xs : List Int32) (d : Nat) (l1 : Int32) (l2 : Int32) (l4 : Int32) (l5 : Int32) (l6 : Int32) (l7 : Int32) (l8 : Int32) (s0 : Int32) (m : yM) (Q : Option Value → yM → Prop) (H : (x_in l6 20000 = true ∧ (((m.1 64 l6.toNatClampNeg) < ((-32768) : Int32) → yP (xg xs) (d + 1) 332 287 [(0, .ref 58), (1, .int l1), (2, .int l2), (4, .int l4), (5, .int l5), (6, .int l6), (7, .int l7), (8, .int l8), (9, .int s0)] [] m Q) ∧ (¬ (m.1 64 l6.toNatClampNeg) < ((-32768) : Int32) → (x_in l6 20000 = true ∧ (((m.1 64 l6.toNatClampNeg) ≤ (32767 : Int32) → yP (xg xs) (d + 1) 332 292 [(0, .ref 58), (1, .int l1), (2, .int l2), (4, .int l4), (5, .int l5), (6, .int l6), (7, .int l7), (8, .int l8), (9, .int s0)] [.int (0 : Int32)] m Q) ∧ (¬ (m.1 64 l6.toNatClampNeg) ≤ (32767 : Int32) → yP (xg xs) (d + 1) 332 287 [(0, .ref 58), (1, .int l1), (2, .int l2), (4, .int l4), (5, .int l5), (6, .int l6), (7, .int l7), (8, .int l8), (9, .int s0)] [] m Q))))))) : yP (xg xs) (d + 1) 332 259 [(0, .ref 58), (1, .int l1), (2, .int l2), (4, .int l4), (5, .int l5), (6, .int l6), (7, .int l7), (8, .int l8)] [.int s0] m Q := by
  refine y_st rfl rfl rfl rfl rfl (fun _ _ => rfl) ?_
  refine y_st rfl rfl rfl rfl rfl (fun _ _ => rfl) ?_
  refine y_gf rfl rfl rfl rfl rfl ?_
  refine y_st rfl rfl rfl rfl rfl (fun _ _ => rfl) ?_
  show yP (xg xs) (d + 1) 332 267 [(9, .int s0), (0, .ref 58), (1, .int l1), (2, .int l2), (4, .int l4), (5, .int l5), (6, .int l6), (7, .int l7), (8, .int l8)] [.int l6, .ref 64] m Q
  refine y_iald rfl rfl rfl (H.1) ?_
  replace H := H.2
  refine y_st rfl rfl rfl rfl rfl (fun _ _ => rfl) ?_
  show yP (xg xs) (d + 1) 332 271 [(9, .int s0), (0, .ref 58), (1, .int l1), (2, .int l2), (4, .int l4), (5, .int l5), (6, .int l6), (7, .int l7), (8, .int l8)] [.int ((-32768) : Int32), .int (m.1 64 l6.toNatClampNeg)] m Q
  refine y_ilt (t := 287) rfl rfl rfl (fun h => ?_) (fun h => ?_)
  · replace H := H.1 h; clear h
    show yP (xg xs) (d + 1) 332 287 [(9, .int s0), (0, .ref 58), (1, .int l1), (2, .int l2), (4, .int l4), (5, .int l5), (6, .int l6), (7, .int l7), (8, .int l8)] [] m Q
    refine y_headS (l2 := [(0, .ref 58), (1, .int l1), (2, .int l2), (4, .int l4), (5, .int l5), (6, .int l6), (7, .int l7), (8, .int l8), (9, .int s0)]) [1, 2, 3, 4, 5, 6, 7, 8, 0] [0, 1, 2, 4, 5, 6, 7, 8, 9] [9, 0, 1, 2, 4, 5, 6, 7, 8] rfl rfl (by decide) rfl (by decide) ?_
    exact H
  · replace H := H.2 h; clear h
    refine y_st rfl rfl rfl rfl rfl (fun _ _ => rfl) ?_
    refine y_gf rfl rfl rfl rfl rfl ?_
    refine y_st rfl rfl rfl rfl rfl (fun _ _ => rfl) ?_
    show yP (xg xs) (d + 1) 332 280 [(9, .int s0), (0, .ref 58), (1, .int l1), (2, .int l2), (4, .int l4), (5, .int l5), (6, .int l6), (7, .int l7), (8, .int l8)] [.int l6, .ref 64] m Q
    refine y_iald rfl rfl rfl (H.1) ?_
    replace H := H.2
    refine y_st rfl rfl rfl rfl rfl (fun _ _ => rfl) ?_
    show yP (xg xs) (d + 1) 332 284 [(9, .int s0), (0, .ref 58), (1, .int l1), (2, .int l2), (4, .int l4), (5, .int l5), (6, .int l6), (7, .int l7), (8, .int l8)] [.int (32767 : Int32), .int (m.1 64 l6.toNatClampNeg)] m Q
    refine y_ile (t := 291) rfl rfl rfl (fun h => ?_) (fun h => ?_)
    · replace H := H.1 h; clear h
      refine y_st rfl rfl rfl rfl rfl (fun _ _ => rfl) ?_
      show yP (xg xs) (d + 1) 332 292 [(9, .int s0), (0, .ref 58), (1, .int l1), (2, .int l2), (4, .int l4), (5, .int l5), (6, .int l6), (7, .int l7), (8, .int l8)] [.int (0 : Int32)] m Q
      refine y_headS (l2 := [(0, .ref 58), (1, .int l1), (2, .int l2), (4, .int l4), (5, .int l5), (6, .int l6), (7, .int l7), (8, .int l8), (9, .int s0)]) [1, 2, 3, 4, 5, 6, 7, 8, 0] [0, 1, 2, 4, 5, 6, 7, 8, 9] [9, 0, 1, 2, 4, 5, 6, 7, 8] rfl rfl (by decide) rfl (by decide) ?_
      exact H
    · replace H := H.2 h; clear h
      show yP (xg xs) (d + 1) 332 287 [(9, .int s0), (0, .ref 58), (1, .int l1), (2, .int l2), (4, .int l4), (5, .int l5), (6, .int l6), (7, .int l7), (8, .int l8)] [] m Q
      refine y_headS (l2 := [(0, .ref 58), (1, .int l1), (2, .int l2), (4, .int l4), (5, .int l5), (6, .int l6), (7, .int l7), (8, .int l8), (9, .int s0)]) [1, 2, 3, 4, 5, 6, 7, 8, 0] [0, 1, 2, 4, 5, 6, 7, 8, 9] [9, 0, 1, 2, 4, 5, 6, 7, 8] rfl rfl (by decide) rfl (by decide) ?_
      exact H
set_option maxRecDepth 20000 in
/-- CodeMakerModel.judgeDeclaration from 287 on -/
theorem w332_287 (xs : List Int32) (d : Nat) (l1 : Int32) (l2 : Int32) (l4 : Int32) (l5 : Int32) (l6 : Int32) (l7 : Int32) (l8 : Int32) (l9 : Int32) (m : yM) (Q : Option Value → yM → Prop) (H : yP (xg xs) (d + 1) 332 292 [(0, .ref 58), (1, .int l1), (2, .int l2), (4, .int l4), (5, .int l5), (6, .int l6), (7, .int l7), (8, .int l8), (9, .int l9)] [.int (1 : Int32)] m Q) : yP (xg xs) (d + 1) 332 287 [(0, .ref 58), (1, .int l1), (2, .int l2), (4, .int l4), (5, .int l5), (6, .int l6), (7, .int l7), (8, .int l8), (9, .int l9)] [] m Q := by
  refine y_st rfl rfl rfl rfl rfl (fun _ _ => rfl) ?_
  refine y_st rfl rfl rfl rfl rfl (fun _ _ => rfl) ?_
  show yP (xg xs) (d + 1) 332 292 [(0, .ref 58), (1, .int l1), (2, .int l2), (4, .int l4), (5, .int l5), (6, .int l6), (7, .int l7), (8, .int l8), (9, .int l9)] [.int (1 : Int32)] m Q
  exact H
set_option maxRecDepth 20000 in
/-- CodeMakerModel.judgeDeclaration from 292 on -/
theorem w332_292 (xs : List Int32) (d : Nat) (l1 : Int32) (l2 : Int32) (l4 : Int32) (l5 : Int32) (l6 : Int32) (l7 : Int32) (l8 : Int32) (l9 : Int32) (s0 : Int32) (m : yM) (Q : Option Value → yM → Prop) (H : ((l7 = (2 : Int32) → yP (xg xs) (d + 1) 332 346 [(0, .ref 58), (1, .int l1), (2, .int l2), (4, .int l4), (5, .int l5), (6, .int l6), (7, .int l7), (8, .int l8)] [.int (18 : Int32), .ref 58] m Q) ∧ (¬ l7 = (2 : Int32) → ((l4 = ((-1) : Int32) → yP (xg xs) (d + 1) 332 320 [(0, .ref 58), (1, .int l1), (2, .int l2), (4, .int l4), (5, .int l5), (6, .int l6), (7, .int l7), (8, .int l8), (9, .int l9), (10, .int s0)] [.int (18 : Int32), .ref 58] m Q) ∧ (¬ l4 = ((-1) : Int32) → (¬ (256 : Int32) = 0 ∧ (¬ (3 : Int32) = 0 ∧ ((((l4 / (256 : Int32)) - (l4 / (256 : Int32)) / (3 : Int32) * (3 : Int32)) = 0 → yP (xg xs) (d + 1) 332 346 [(0, .ref 58), (1, .int l1), (2, .int l2), (4, .int l4), (5, .int l5), (6, .int l6), (7, .int l7), (8, .int l8)] [.int (18 : Int32), .ref 58] m Q) ∧ (¬ ((l4 / (256 : Int32)) - (l4 / (256 : Int32)) / (3 : Int32) * (3 : Int32)) = 0 → yP (xg xs) (d + 1) 332 320 [(0, .ref 58), (1, .int l1), (2, .int l2), (4, .int l4), (5, .int l5), (6, .int l6), (7, .int l7), (8, .int l8), (9, .int l9), (10, .int s0)] [.int (18 : Int32), .ref 58] m Q))))))))) : yP (xg xs) (d + 1) 332 292 [(0, .ref 58), (1, .int l1), (2, .int l2), (4, .int l4), (5, .int l5), (6, .int l6), (7, .int l7), (8, .int l8), (9, .int l9)] [.int s0] m Q := by
  refine y_st rfl rfl rfl rfl rfl (fun _ _ => rfl) ?_
  refine y_st rfl rfl rfl rfl rfl (fun _ _ => rfl) ?_
  refine y_st rfl rfl rfl rfl rfl (fun _ _ => rfl) ?_
  refine y_st rfl rfl rfl rfl rfl (fun _ _ => rfl) ?_
  refine y_st rfl rfl rfl rfl rfl (fun _ _ => rfl) ?_
  show yP (xg xs) (d + 1) 332 300 [(10, .int s0), (0, .ref 58), (1, .int l1), (2, .int l2), (4, .int l4), (5, .int l5), (6, .int l6), (7, .int l7), (8, .int l8), (9, .int l9)] [.int (2 : Int32), .int l7, .int (18 : Int32), .ref 58] m Q
  refine y_ieq (t := 346) rfl rfl rfl (fun h => ?_) (fun h => ?_)
  · replace H := H.1 h; clear h
    show yP (xg xs) (d + 1) 332 346 [(10, .int s0), (0, .ref 58), (1, .int l1), (2, .int l2), (4, .int l4), (5, .int l5), (6, .int l6), (7, .int l7), (8, .int l8), (9, .int l9)] [.int (18 : Int32), .ref 58] m Q
    refine y_headS (l2 := [(0, .ref 58), (1, .int l1), (2, .int l2), (4, .int l4), (5, .int l5), (6, .int l6), (7, .int l7), (8, .int l8)]) [1, 2, 3, 4, 5, 6, 7, 8] [0, 1, 2, 4, 5, 6, 7, 8] [10, 0, 1, 2, 4, 5, 6, 7, 8, 9] rfl rfl (by decide) rfl (by decide) ?_
    exact H
  · replace H := H.2 h; clear h
    refine y_st rfl rfl rfl rfl rfl (fun _ _ => rfl) ?_
    refine y_st rfl rfl rfl rfl rfl (fun _ _ => rfl) ?_
    show yP (xg xs) (d + 1) 332 306 [(10, .int s0), (0, .ref 58), (1, .int l1), (2, .int l2), (4, .int l4), (5, .int l5), (6, .int l6), (7, .int l7), (8, .int l8), (9, .int l9)] [.int ((-1) : Int32), .int l4, .int (18 : Int32), .ref 58] m Q
    refine y_ieq (t := 320) rfl rfl rfl (fun h => ?_) (fun h => ?_)
    · replace H := H.1 h; clear h
      show yP (xg xs) (d + 1) 332 320 [(10, .int s0), (0, .ref 58), (1, .int l1), (2, .int l2), (4, .int l4), (5, .int l5), (6, .int l6), (7, .int l7), (8, .int l8), (9, .int l9)] [.int (18 : Int32), .ref 58] m Q
      refine y_headS (l2 := [(0, .ref 58), (1, .int l1), (2, .int l2), (4, .int l4), (5, .int l5), (6, .int l6), (7, .int l7), (8, .int l8), (9, .int l9), (10, .int s0)]) [1, 2, 3, 4, 5, 6, 7, 8, 9, 0] [0, 1, 2, 4, 5, 6, 7, 8, 9, 10] [10, 0, 1, 2, 4, 5, 6, 7, 8, 9] rfl rfl (by decide) rfl (by decide) ?_
      exact H
    · replace H := H.2 h; clear h
      refine y_st rfl rfl rfl rfl rfl (fun _ _ => rfl) ?_
      refine y_st rfl rfl rfl rfl rfl (fun _ _ => rfl) ?_
      show yP (xg xs) (d + 1) 332 314 [(10, .int s0), (0, .ref 58), (1, .int l1), (2, .int l2), (4, .int l4), (5, .int l5), (6, .int l6), (7, .int l7), (8, .int l8), (9, .int l9)] [.int (256 : Int32), .int l4, .int (18 : Int32), .ref 58] m Q
      refine y_idiv rfl rfl H.1 ?_
      replace H := H.2
      refine y_st rfl rfl rfl rfl rfl (fun _ _ => rfl) ?_
      show yP (xg xs) (d + 1) 332 316 [(10, .int s0), (0, .ref 58), (1, .int l1), (2, .int l2), (4, .int l4), (5, .int l5), (6, .int l6), (7, .int l7), (8, .int l8), (9, .int l9)] [.int (3 : Int32), .int (l4 / (256 : Int32)), .int (18 : Int32), .ref 58] m Q
      refine y_irem rfl rfl H.1 ?_
      replace H := H.2
      show yP (xg xs) (d + 1) 332 317 [(10, .int s0), (0, .ref 58), (1, .int l1), (2, .int l2), (4, .int l4), (5, .int l5), (6, .int l6), (7, .int l7), (8, .int l8), (9, .int l9)] [.int ((l4 / (256 : Int32)) - (l4 / (256 : Int32)) / (3 : Int32) * (3 : Int32)), .int (18 : Int32), .ref 58] m Q
      refine y_zeq (t := 346) rfl rfl rfl (fun h => ?_) (fun h => ?_)
      · replace H := H.1 h; clear h
        show yP (xg xs) (d + 1) 332 346 [(10, .int s0), (0, .ref 58), (1, .int l1), (2, .int l2), (4, .int l4), (5, .int l5), (6, .int l6), (7, .int l7), (8, .int l8), (9, .int l9)] [.int (18 : Int32), .ref 58] m Q
        refine y_headS (l2 := [(0, .ref 58), (1, .int l1), (2, .int l2), (4, .int l4), (5, .int l5), (6, .int l6), (7, .int l7), (8, .int l8)]) [1, 2, 3, 4, 5, 6, 7, 8] [0, 1, 2, 4, 5, 6, 7, 8] [10, 0, 1, 2, 4, 5, 6, 7, 8, 9] rfl rfl (by decide) rfl (by decide) ?_
        exact H
      · replace H := H.2 h; clear h
        show yP (xg xs) (d + 1) 332 320 [(10, .int s0), (0, .ref 58), (1, .int l1), (2, .int l2), (4, .int l4), (5, .int l5), (6, .int l6), (7, .int l7), (8, .int l8), (9, .int l9)] [.int (18 : Int32), .ref 58] m Q
        refine y_headS (l2 := [(0, .ref 58), (1, .int l1), (2, .int l2), (4, .int l4), (5, .int l5), (6, .int l6), (7, .int l7), (8, .int l8), (9, .int l9), (10, .int s0)]) [1, 2, 3, 4, 5, 6, 7, 8, 9, 0] [0, 1, 2, 4, 5, 6, 7, 8, 9, 10] [10, 0, 1, 2, 4, 5, 6, 7, 8, 9] rfl rfl (by decide) rfl (by decide) ?_
        exact H
set_option maxRecDepth 20000 in
/-- CodeMakerModel.judgeDeclaration from 320 on -/
theorem w332_320 (xs : List Int32) (d : Nat) (l1 : Int32) (l2 : Int32) (l4 : Int32) (l5 : Int32) (l6 : Int32) (l7 : Int32) (l8 : Int32) (l9 : Int32) (l10 : Int32) (s1 : Int32) (m : yM) (Q : Option Value → yM → Prop) (H : ((¬ l8 = 0 → yP (xg xs) (d + 1) 332 332 [(0, .ref 58), (1, .int l1), (2, .int l2), (4, .int l4), (5, .int l5), (6, .int l6), (7, .int l7), (8, .int l8), (10, .int l10)] [.int (0 : Int32), .int l9, .int s1, .ref 58] m Q) ∧ (l8 = 0 → yP (xg xs) (d + 1) 332 332 [(0, .ref 58), (1, .int l1), (2, .int l2), (4, .int l4), (5, .int l5), (6, .int l6), (7, .int l7), (8, .int l8), (10, .int l10)] [.int (1 : Int32), .int l9, .int s1, .ref 58] m Q))) : yP (xg xs) (d + 1) 332 320 [(0, .ref 58), (1, .int l1), (2, .int l2), (4, .int l4), (5, .int l5), (6, .int l6), (7, .int l7), (8, .int l8), (9, .int l9), (10, .int l10)] [.int s1, .ref 58] m Q := by
  refine y_st rfl rfl rfl rfl rfl (fun _ _ => rfl) ?_
  refine y_st rfl rfl rfl rfl rfl (fun _ _ => rfl) ?_
  show yP (xg xs) (d + 1) 332 324 [(0, .ref 58), (1, .int l1), (2, .int l2), (4, .int l4), (5, .int l5), (6, .int l6), (7, .int l7), (8, .int l8), (9, .int l9), (10, .int l10)] [.int l8, .int l9, .int s1, .ref 58] m Q
  refine y_zne (t := 331) rfl rfl rfl (fun h => ?_) (fun h => ?_)
  · replace H := H.1 h; clear h
    refine y_st rfl rfl rfl rfl rfl (fun _ _ => rfl) ?_
    show yP (xg xs) (d + 1) 332 332 [(0, .ref 58), (1, .int l1), (2, .int l2), (4, .int l4), (5, .int l5), (6, .int l6), (7, .int l7), (8, .int l8), (9, .int l9), (10, .int l10)] [.int (0 : Int32), .int l9, .int s1, .ref 58] m Q
    refine y_headS (l2 := [(0, .ref 58), (1, .int l1), (2, .int l2), (4, .int l4), (5, .int l5), (6, .int l6), (7, .int l7), (8, .int l8), (10, .int l10)]) [0, 1, 2, 3, 4, 5, 6, 7, 9] [0, 1, 2, 4, 5, 6, 7, 8, 10] [0, 1, 2, 4, 5, 6, 7, 8, 9, 10] rfl rfl (by decide) rfl (by decide) ?_
    exact H
  · replace H := H.2 h; clear h
    refine y_st rfl rfl rfl rfl rfl (fun _ _ => rfl) ?_
    refine y_st rfl rfl rfl rfl rfl (fun _ _ => rfl) ?_
    show yP (xg xs) (d + 1) 332 332 [(0, .ref 58), (1, .int l1), (2, .int l2), (4, .int l4), (5, .int l5), (6, .int l6), (7, .int l7), (8, .int l8), (9, .int l9), (10, .int l10)] [.int (1 : Int32), .int l9, .int s1, .ref 58] m Q
    refine y_headS (l2 := [(0, .ref 58), (1, .int l1), (2, .int l2), (4, .int l4), (5, .int l5), (6, .int l6), (7, .int l7), (8, .int l8), (10, .int l10)]) [0, 1, 2, 3, 4, 5, 6, 7, 9] [0, 1, 2, 4, 5, 6, 7, 8, 10] [0, 1, 2, 4, 5, 6, 7, 8, 9, 10] rfl rfl (by decide) rfl (by decide) ?_
    exact H
set_option maxRecDepth 20000 in
/-- CodeMakerModel.judgeDeclaration from 332 on -/
theorem w332_332 (xs : List Int32) (d : Nat) (l1 : Int32) (l2 : Int32) (l4 : Int32) (l5 : Int32) (l6 : Int32) (l7 : Int32) (l8 : Int32) (l10 : Int32) (s1 : Int32) (s2 : Int32) (s3 : Int32) (m : yM) (Q : Option Value → yM → Prop) (H : ((¬ s2 = s3 → yP (xg xs) (d + 1) 332 346 [(0, .ref 58), (1, .int l1), (2, .int l2), (4, .int l4), (5, .int l5), (6, .int l6), (7, .int l7), (8, .int l8)] [.int s1, .ref 58] m Q) ∧ (s2 = s3 → ((¬ l8 = (1 : Int32) → yP (xg xs) (d + 1) 332 350 [(0, .ref 58), (1, .int l1), (2, .int l2), (4, .int l4), (5, .int l5), (6, .int l6), (7, .int l7), (8, .int l8)] [.int s1, .ref 58] m Q) ∧ (l8 = (1 : Int32) → ((l10 = 0 → yP (xg xs) (d + 1) 332 350 [(0, .ref 58), (1, .int l1), (2, .int l2), (4, .int l4), (5, .int l5), (6, .int l6), (7, .int l7), (8, .int l8)] [.int s1, .ref 58] m Q) ∧ (¬ l10 = 0 → yP (xg xs) (d + 1) 332 346 [(0, .ref 58), (1, .int l1), (2, .int l2), (4, .int l4), (5, .int l5), (6, .int l6), (7, .int l7), (8, .int l8)] [.int s1, .ref 58] m Q))))))) : yP (xg xs) (d + 1) 332 332 [(0, .ref 58), (1, .int l1), (2, .int l2), (4, .int l4), (5, .int l5), (6, .int l6), (7, .int l7), (8, .int l8), (10, .int l10)] [.int s3, .int s2, .int s1, .ref 58] m Q := by
  show yP (xg xs) (d + 1) 332 332 [(0, .ref 58), (1, .int l1), (2, .int l2), (4, .int l4), (5, .int l5), (6, .int l6), (7, .int l7), (8, .int l8), (10, .int l10)] [.int s3, .int s2, .int s1, .ref 58] m Q
  refine y_ine (t := 346) rfl rfl rfl (fun h => ?_) (fun h => ?_)
  · replace H := H.1 h; clear h
    show yP (xg xs) (d + 1) 332 346 [(0, .ref 58), (1, .int l1), (2, .int l2), (4, .int l4), (5, .int l5), (6, .int l6), (7, .int l7), (8, .int l8), (10, .int l10)] [.int s1, .ref 58] m Q
    refine y_headS (l2 := [(0, .ref 58), (1, .int l1), (2, .int l2), (4, .int l4), (5, .int l5), (6, .int l6), (7, .int l7), (8, .int l8)]) [0, 1, 2, 3, 4, 5, 6, 7] [0, 1, 2, 4, 5, 6, 7, 8] [0, 1, 2, 4, 5, 6, 7, 8, 10] rfl rfl (by decide) rfl (by decide) ?_
    exact H
  · replace H := H.2 h; clear h
    refine y_st rfl rfl rfl rfl rfl (fun _ _ => rfl) ?_
    refine y_st rfl rfl rfl rfl rfl (fun _ _ => rfl) ?_
    show yP (xg xs) (d + 1) 332 338 [(0, .ref 58), (1, .int l1), (2, .int l2), (4, .int l4), (5, .int l5), (6, .int l6), (7, .int l7), (8, .int l8), (10, .int l10)] [.int (1 : Int32), .int l8, .int s1, .ref 58] m Q
    refine y_ine (t := 350) rfl rfl rfl (fun h => ?_) (fun h => ?_)
    · replace H := H.1 h; clear h
      show yP (xg xs) (d + 1) 332 350 [(0, .ref 58), (1, .int l1), (2, .int l2), (4, .int l4), (5, .int l5), (6, .int l6), (7, .int l7), (8, .int l8), (10, .int l10)] [.int s1, .ref 58] m Q
      refine y_headS (l2 := [(0, .ref 58), (1, .int l1), (2, .int l2), (4, .int l4), (5, .int l5), (6, .int l6), (7, .int l7), (8, .int l8)]) [0, 1, 2, 3, 4, 5, 6, 7] [0, 1, 2, 4, 5, 6, 7, 8] [0, 1, 2, 4, 5, 6, 7, 8, 10] rfl rfl (by decide) rfl (by decide) ?_
      exact H
    · replace H := H.2 h; clear h
      refine y_st rfl rfl rfl rfl rfl (fun _ _ => rfl) ?_
      show yP (xg xs) (d + 1) 332 343 [(0, .ref 58), (1, .int l1), (2, .int l2), (4, .int l4), (5, .int l5), (6, .int l6), (7, .int l7), (8, .int l8), (10, .int l10)] [.int l10, .int s1, .ref 58] m Q
      refine y_zeq (t := 350) rfl rfl rfl (fun h => ?_) (fun h => ?_)
      · replace H := H.1 h; clear h
        show yP (xg xs) (d + 1) 332 350 [(0, .ref 58), (1, .int l1), (2, .int l2), (4, .int l4), (5, .int l5), (6, .int l6), (7, .int l7), (8, .int l8), (10, .int l10)] [.int s1, .ref 58] m Q
        refine y_headS (l2 := [(0, .ref 58), (1, .int l1), (2, .int l2), (4, .int l4), (5, .int l5), (6, .int l6), (7, .int l7), (8, .int l8)]) [0, 1, 2, 3, 4, 5, 6, 7] [0, 1, 2, 4, 5, 6, 7, 8] [0, 1, 2, 4, 5, 6, 7, 8, 10] rfl rfl (by decide) rfl (by decide) ?_
        exact H
      · replace H := H.2 h; clear h
        show yP (xg xs) (d + 1) 332 346 [(0, .ref 58), (1, .int l1), (2, .int l2), (4, .int l4), (5, .int l5), (6, .int l6), (7, .int l7), (8, .int l8), (10, .int l10)] [.int s1, .ref 58] m Q
        refine y_headS (l2 := [(0, .ref 58), (1, .int l1), (2, .int l2), (4, .int l4), (5, .int l5), (6, .int l6), (7, .int l7), (8, .int l8)]) [0, 1, 2, 3, 4, 5, 6, 7] [0, 1, 2, 4, 5, 6, 7, 8] [0, 1, 2, 4, 5, 6, 7, 8, 10] rfl rfl (by decide) rfl (by decide) ?_
        exact H
set_option maxRecDepth 20000 in
/-- CodeMakerModel.judgeDeclaration from 346 on -/
theorem w332_346 (xs : List Int32) (d : Nat) (l1 : Int32) (l2 : Int32) (l4 : Int32) (l5 : Int32) (l6 : Int32) (l7 : Int32) (l8 : Int32) (s1 : Int32) (m : yM) (Q : Option Value → yM → Prop) (H : yP (xg xs) (d + 1) 332 351 [(0, .ref 58), (1, .int l1), (2, .int l2), (4, .int l4), (5, .int l5), (6, .int l6), (7, .int l7), (8, .int l8)] [.int (1 : Int32), .int s1, .ref 58] m Q) : yP (xg xs) (d + 1) 332 346 [(0, .ref 58), (1, .int l1), (2, .int l2), (4, .int l4), (5, .int l5), (6, .int l6), (7, .int l7), (8, .int l8)] [.int s1, .ref 58] m Q := by
  refine y_st rfl rfl rfl rfl rfl (fun _ _ => rfl) ?_
  refine y_st rfl rfl rfl rfl rfl (fun _ _ => rfl) ?_
  show yP (xg xs) (d + 1) 332 351 [(0, .ref 58), (1, .int l1), (2, .int l2), (4, .int l4), (5, .int l5), (6, .int l6), (7, .int l7), (8, .int l8)] [.int (1 : Int32), .int s1, .ref 58] m Q
  exact H
set_option maxRecDepth 20000 in
/-- CodeMakerModel.judgeDeclaration from 350 on -/
theorem w332_350 (xs : List Int32) (d : Nat) (l1 : Int32) (l2 : Int32) (l4 : Int32) (l5 : Int32) (l6 : Int32) (l7 : Int32) (l8 : Int32) (s1 : Int32) (m : yM) (Q : Option Value → yM → Prop) (H : yP (xg xs) (d + 1) 332 351 [(0, .ref 58), (1, .int l1), (2, .int l2), (4, .int l4), (5, .int l5), (6, .int l6), (7, .int l7), (8, .int l8)] [.int (0 : Int32), .int s1, .ref 58] m Q) : yP (xg xs) (d + 1) 332 350 [(0, .ref 58), (1, .int l1), (2, .int l2), (4, .int l4), (5, .int l5), (6, .int l6), (7, .int l7), (8, .int l8)] [.int s1, .ref 58] m Q := by
  refine y_st rfl rfl rfl rfl rfl (fun _ _ => rfl) ?_
  show yP (xg xs) (d + 1) 332 351 [(0, .ref 58), (1, .int l1), (2, .int l2), (4, .int l4), (5, .int l5), (6, .int l6), (7, .int l7), (8, .int l8)] [.int (0 : Int32), .int s1, .ref 58] m Q
  exact H
set_option maxRecDepth 20000 in
/-- CodeMakerModel.judgeDeclaration from 351 on -/
theorem w332_351 (xs : List Int32) (d : Nat) (l1 : Int32) (l2 : Int32) (l4 : Int32) (l5 : Int32) (l6 : Int32) (l7 : Int32) (l8 : Int32) (s1 : Int32) (s2 : Int32) (m : yM) (Q : Option Value → yM → Prop) (H : (yC (xg xs) d 323 [.ref 58, .int s1, .int s2, .int l1] m (fun v1 m1 => v1 = none ∧ yP (xg xs) (d + 1) 332 355 [(0, .ref 58), (1, .int l1), (2, .int l2), (4, .int l4), (5, .int l5), (6, .int l6), (7, .int l7), (8, .int l8)] [] m1 Q))) : yP (xg xs) (d + 1) 332 351 [(0, .ref 58), (1, .int l1), (2, .int l2), (4, .int l4), (5, .int l5), (6, .int l6), (7, .int l7), (8, .int l8)] [.int s2, .int s1, .ref 58] m Q := by
  refine y_st rfl rfl rfl rfl rfl (fun _ _ => rfl) ?_
  show yP (xg xs) (d + 1) 332 352 [(0, .ref 58), (1, .int l1), (2, .int l2), (4, .int l4), (5, .int l5), (6, .int l6), (7, .int l7), (8, .int l8)] [.int l1, .int s2, .int s1, .ref 58] m Q
  refine y_call rfl rfl rfl rfl rfl (Nat.le_of_ble_eq_true rfl) (Nat.le_of_ble_eq_true rfl) rfl (by decide) H (fun v1 m1 H => ?_)
  obtain ⟨rfl, H⟩ := H
  show yP (xg xs) (d + 1) 332 355 [(0, .ref 58), (1, .int l1), (2, .int l2), (4, .int l4), (5, .int l5), (6, .int l6), (7, .int l7), (8, .int l8)] [] m1 Q
  exact H
set_option maxRecDepth 20000 in
/-- CodeMakerModel.judgeDeclaration from 355 on -/
theorem w332_355 (xs : List Int32) (d : Nat) (l1 : Int32) (l2 : Int32) (l4 : Int32) (l5 : Int32) (l6 : Int32) (l7 : Int32) (l8 : Int32) (m : yM) (Q : Option Value → yM → Prop) (H : (((m.1 58 3) ≤ 0 → yP (xg xs) (d + 1) 332 371 [(0, .ref 58), (1, .int l1), (4, .int l4), (5, .int l5), (6, .int l6), (7, .int l7), (8, .int l8), (9, .int ((m.1 58 30) - l2))] [] m Q) ∧ (¬ (m.1 58 3) ≤ 0 → Q none m))) : yP (xg xs) (d + 1) 332 355 [(0, .ref 58), (1, .int l1), (2, .int l2), (4, .int l4), (5, .int l5), (6, .int l6), (7, .int l7), (8, .int l8)] [] m Q := by
  refine y_st rfl rfl rfl rfl rfl (fun _ _ => rfl) ?_
  refine y_gf rfl rfl rfl rfl rfl ?_
  show yP (xg xs) (d + 1) 332 359 [(0, .ref 58), (1, .int l1), (2, .int l2), (4, .int l4), (5, .int l5), (6, .int l6), (7, .int l7), (8, .int l8)] [.int (m.1 58 3)] m Q
  refine y_zle (t := 363) rfl rfl rfl (fun h => ?_) (fun h => ?_)
  · replace H := H.1 h; clear h
    refine y_st rfl rfl rfl rfl rfl (fun _ _ => rfl) ?_
    refine y_gf rfl rfl rfl rfl rfl ?_
    refine y_st rfl rfl rfl rfl rfl (fun _ _ => rfl) ?_
    refine y_st rfl rfl rfl rfl rfl (fun _ _ => rfl) ?_
    refine y_st rfl rfl rfl rfl rfl (fun _ _ => rfl) ?_
    show yP (xg xs) (d + 1) 332 371 [(9, .int ((m.1 58 30) - l2)), (0, .ref 58), (1, .int l1), (2, .int l2), (4, .int l4), (5, .int l5), (6, .int l6), (7, .int l7), (8, .int l8)] [] m Q
    refine y_headS (l2 := [(0, .ref 58), (1, .int l1), (4, .int l4), (5, .int l5), (6, .int l6), (7, .int l7), (8, .int l8), (9, .int ((m.1 58 30) - l2))]) [1, 2, 4, 5, 6, 7, 8, 0] [0, 1, 4, 5, 6, 7, 8, 9] [9, 0, 1, 2, 4, 5, 6, 7, 8] rfl rfl (by decide) rfl (by decide) ?_
    exact H
  · replace H := H.2 h; clear h
    show yP (xg xs) (d + 1) 332 362 [(0, .ref 58), (1, .int l1), (2, .int l2), (4, .int l4), (5, .int l5), (6, .int l6), (7, .int l7), (8, .int l8)] [] m Q
    exact y_ret rfl rfl rfl rfl H
set_option maxRecDepth 20000 in
/-- CodeMakerModel.judgeDeclaration from 371 on -/
theorem w332_371 (xs : List Int32) (d : Nat) (l1 : Int32) (l4 : Int32) (l5 : Int32) (l6 : Int32) (l7 : Int32) (l8 : Int32) (l9 : Int32) (m : yM) (Q : Option Value → yM → Prop) (H : (((m.1 58 30) ≤ l9 → (x_in ((m.1 58 23) - (1 : Int32)) 400 = true ∧ (((m.1 72 (((m.1 58 23) - (1 : Int32)).toNatClampNeg)) ≤ (4096 : Int32) → yP (xg xs) (d + 1) 332 677 [(1, .int l1)] [.int (0 : Int32), .int (19 : Int32), .ref 58] m Q) ∧ (¬ (m.1 72 (((m.1 58 23) - (1 : Int32)).toNatClampNeg)) ≤ (4096 : Int32) → yP (xg xs) (d + 1) 332 677 [(1, .int l1)] [.int (1 : Int32), .int (19 : Int32), .ref 58] m Q)))) ∧ (¬ (m.1 58 30) ≤ l9 → (x_in l9 4700 = true ∧ (x_in l9 4700 = true ∧ (x_in l9 4700 = true ∧ ((¬ l6 = ((-1) : Int32) → (x_in l6 20000 = true ∧ yP (xg xs) (d + 1) 332 430 [(0, .ref 58), (1, .int l1), (4, .int l4), (5, .int l5), (6, .int l6), (7, .int l7), (8, .int l8), (9, .int l9)] [.int (m.1 64 l6.toNatClampNeg), .int l9, .ref 83] (y_si (y_si (y_si m 76 l9.toNatClampNeg l7) 77 l9.toNatClampNeg l8) 82 l9.toNatClampNeg l4) Q)) ∧ (l6 = ((-1) : Int32) → yP (xg xs) (d + 1) 332 430 [(0, .ref 58), (1, .int l1), (4, .int l4), (5, .int l5), (6, .int l6), (7, .int l7), (8, .int l8), (9, .int l9)] [.int (0 : Int32), .int l9, .ref 83] (y_si (y_si (y_si m 76 l9.toNatClampNeg l7) 77 l9.toNatClampNeg l8) 82 l9.toNatClampNeg l4) Q)))))))) : yP (xg xs) (d + 1) 332 371 [(0, .ref 58), (1, .int l1), (4, .int l4), (5, .int l5), (6, .int l6), (7, .int l7), (8, .int l8), (9, .int l9)] [] m Q := by
  refine y_st rfl rfl rfl rfl rfl (fun _ _ => rfl) ?_
  refine y_st rfl rfl rfl rfl rfl (fun _ _ => rfl) ?_
  refine y_gf rfl rfl rfl rfl rfl ?_
  show yP (xg xs) (d + 1) 332 377 [(0, .ref 58), (1, .int l1), (4, .int l4), (5, .int l5), (6, .int l6), (7, .int l7), (8, .int l8), (9, .int l9)] [.int (m.1 58 30), .int l9] m Q
  refine y_ige (t := 652) rfl rfl rfl (fun h => ?_) (fun h => ?_)
  · replace H := H.1 h; clear h
    refine y_st rfl rfl rfl rfl rfl (fun _ _ => rfl) ?_
    refine y_st rfl rfl rfl rfl rfl (fun _ _ => rfl) ?_
    refine y_st rfl rfl rfl rfl rfl (fun _ _ => rfl) ?_
    refine y_gf rfl rfl rfl rfl rfl ?_
    refine y_st rfl rfl rfl rfl rfl (fun _ _ => rfl) ?_
    refine y_gf rfl rfl rfl rfl rfl ?_
    refine y_st rfl rfl rfl rfl rfl (fun _ _ => rfl) ?_
    refine y_st rfl rfl rfl rfl rfl (fun _ _ => rfl) ?_
    show yP (xg xs) (d + 1) 332 665 [(0, .ref 58), (1, .int l1), (4, .int l4), (5, .int l5), (6, .int l6), (7, .int l7), (8, .int l8), (9, .int l9)] [.int ((m.1 58 23) - (1 : Int32)), .ref 72, .int (19 : Int32), .ref 58] m Q
    refine y_iald rfl rfl rfl (H.1) ?_
    replace H := H.2
    refine y_st rfl rfl rfl rfl rfl (fun _ _ => rfl) ?_
    show yP (xg xs) (d + 1) 332 669 [(0, .ref 58), (1, .int l1), (4, .int l4), (5, .int l5), (6, .int l6), (7, .int l7), (8, .int l8), (9, .int l9)] [.int (4096 : Int32), .int (m.1 72 (((m.1 58 23) - (1 : Int32)).toNatClampNeg)), .int (19 : Int32), .ref 58] m Q
    refine y_ile (t := 676) rfl rfl rfl (fun h => ?_) (fun h => ?_)
    · replace H := H.1 h; clear h
      refine y_st rfl rfl rfl rfl rfl (fun _ _ => rfl) ?_
      show yP (xg xs) (d + 1) 332 677 [(0, .ref 58), (1, .int l1), (4, .int l4), (5, .int l5), (6, .int l6), (7, .int l7), (8, .int l8), (9, .int l9)] [.int (0 : Int32), .int (19 : Int32), .ref 58] m Q
      refine y_headS (l2 := [(1, .int l1)]) [1] [1] [0, 1, 4, 5, 6, 7, 8, 9] rfl rfl (by decide) rfl (by decide) ?_
      exact H
    · replace H := H.2 h; clear h
      refine y_st rfl rfl rfl rfl rfl (fun _ _ => rfl) ?_
      refine y_st rfl rfl rfl rfl rfl (fun _ _ => rfl) ?_
      show yP (xg xs) (d + 1) 332 677 [(0, .ref 58), (1, .int l1), (4, .int l4), (5, .int l5), (6, .int l6), (7, .int l7), (8, .int l8), (9, .int l9)] [.int (1 : Int32), .int (19 : Int32), .ref 58] m Q
      refine y_headS (l2 := [(1, .int l1)]) [1] [1] [0, 1, 4, 5, 6, 7, 8, 9] rfl rfl (by decide) rfl (by decide) ?_
      exact H
  · replace H := H.2 h; clear h
    refine y_st rfl rfl rfl rfl rfl (fun _ _ => rfl) ?_
    refine y_gf rfl rfl rfl rfl rfl ?_
    refine y_st rfl rfl rfl rfl rfl (fun _ _ => rfl) ?_
    refine y_st rfl rfl rfl rfl rfl (fun _ _ => rfl) ?_
    show yP (xg xs) (d + 1) 332 388 [(0, .ref 58), (1, .int l1), (4, .int l4), (5, .int l5), (6, .int l6), (7, .int l7), (8, .int l8), (9, .int l9)] [.int l7, .int l9, .ref 76] m Q
    refine y_iast rfl rfl rfl (H.1) ?_
    replace H := H.2
    refine y_st rfl rfl rfl rfl rfl (fun _ _ => rfl) ?_
    refine y_gf rfl rfl rfl rfl rfl ?_
    refine y_st rfl rfl rfl rfl rfl (fun _ _ => rfl) ?_
    refine y_st rfl rfl rfl rfl rfl (fun _ _ => rfl) ?_
    show yP (xg xs) (d + 1) 332 397 [(0, .ref 58), (1, .int l1), (4, .int l4), (5, .int l5), (6, .int l6), (7, .int l7), (8, .int l8), (9, .int l9)] [.int l8, .int l9, .ref 77] (y_si m 76 l9.toNatClampNeg l7) Q
    refine y_iast rfl rfl rfl (H.1) ?_
    replace H := H.2
    refine y_st rfl rfl rfl rfl rfl (fun _ _ => rfl) ?_
    refine y_gf rfl rfl rfl rfl rfl ?_
    refine y_st rfl rfl rfl rfl rfl (fun _ _ => rfl) ?_
    refine y_st rfl rfl rfl rfl rfl (fun _ _ => rfl) ?_
    show yP (xg xs) (d + 1) 332 406 [(0, .ref 58), (1, .int l1), (4, .int l4), (5, .int l5), (6, .int l6), (7, .int l7), (8, .int l8), (9, .int l9)] [.int l4, .int l9, .ref 82] (y_si (y_si m 76 l9.toNatClampNeg l7) 77 l9.toNatClampNeg l8) Q
    refine y_iast rfl rfl rfl (H.1) ?_
    replace H := H.2
    refine y_st rfl rfl rfl rfl rfl (fun _ _ => rfl) ?_
    refine y_gf rfl rfl rfl rfl rfl ?_
    refine y_st rfl rfl rfl rfl rfl (fun _ _ => rfl) ?_
    refine y_st rfl rfl rfl rfl rfl (fun _ _ => rfl) ?_
    refine y_st rfl rfl rfl rfl rfl (fun _ _ => rfl) ?_
    show yP (xg xs) (d + 1) 332 416 [(0, .ref 58), (1, .int l1), (4, .int l4), (5, .int l5), (6, .int l6), (7, .int l7), (8, .int l8), (9, .int l9)] [.int ((-1) : Int32), .int l6, .int l9, .ref 83] (y_si (y_si (y_si m 76 l9.toNatClampNeg l7) 77 l9.toNatClampNeg l8) 82 l9.toNatClampNeg l4) Q
    refine y_ine (t := 423) rfl rfl rfl (fun h => ?_) (fun h => ?_)
    · replace H := H.1 h; clear h
      refine y_st rfl rfl rfl rfl rfl (fun _ _ => rfl) ?_
      refine y_gf rfl rfl rfl rfl rfl ?_
      refine y_st rfl rfl rfl rfl rfl (fun _ _ => rfl) ?_
      show yP (xg xs) (d + 1) 332 429 [(0, .ref 58), (1, .int l1), (4, .int l4), (5, .int l5), (6, .int l6), (7, .int l7), (8, .int l8), (9, .int l9)] [.int l6, .ref 64, .int l9, .ref 83] (y_si (y_si (y_si m 76 l9.toNatClampNeg l7) 77 l9.toNatClampNeg l8) 82 l9.toNatClampNeg l4) Q
      refine y_iald rfl rfl rfl (H.1) ?_
      replace H := H.2
      show yP (xg xs) (d + 1) 332 430 [(0, .ref 58), (1, .int l1), (4, .int l4), (5, .int l5), (6, .int l6), (7, .int l7), (8, .int l8), (9, .int l9)] [.int (m.1 64 l6.toNatClampNeg), .int l9, .ref 83] (y_si (y_si (y_si m 76 l9.toNatClampNeg l7) 77 l9.toNatClampNeg l8) 82 l9.toNatClampNeg l4) Q
      exact H
    · replace H := H.2 h; clear h
      refine y_st rfl rfl rfl rfl rfl (fun _ _ => rfl) ?_
      refine y_st rfl rfl rfl rfl rfl (fun _ _ => rfl) ?_
      show yP (xg xs) (d + 1) 332 430 [(0, .ref 58), (1, .int l1), (4, .int l4), (5, .int l5), (6, .int l6), (7, .int l7), (8, .int l8), (9, .int l9)] [.int (0 : Int32), .int l9, .ref 83] (y_si (y_si (y_si m 76 l9.toNatClampNeg l7) 77 l9.toNatClampNeg l8) 82 l9.toNatClampNeg l4) Q
      exact H
set_option maxRecDepth 20000 in
/-- CodeMakerModel.judgeDeclaration from 430 on -/
theorem w332_430 (xs : List Int32) (d : Nat) (l1 : Int32) (l4 : Int32) (l5 : Int32) (l6 : Int32) (l7 : Int32) (l8 : Int32) (l9 : Int32) (s1 : Int32) (s2 : Int32) (m : yM) (Q : Option Value → yM → Prop) (H : (x_in s1 4700 = true ∧ ((¬ l7 = (1 : Int32) → yP (xg xs) (d + 1) 332 502 [(0, .ref 58), (1, .int l1), (4, .int l4), (5, .int l5), (6, .int l6), (7, .int l7), (8, .int l8), (9, .int l9), (10, .int (1 : Int32))] [] (y_si m 83 s1.toNatClampNeg s2) Q) ∧ (l7 = (1 : Int32) → (x_in l5 20000 = true ∧ (x_in (m.1 66 l5.toNatClampNeg) 20000 = true ∧ (x_in l9 4700 = true ∧ (x_in l5 20000 = true ∧ (x_in (m.1 66 l5.toNatClampNeg) 20000 = true ∧ (x_in (m.1 68 ((m.1 66 l5.toNatClampNeg).toNatClampNeg)) 20000 = true ∧ (x_in l9 4700 = true ∧ (x_in l9 4700 = true ∧ (x_in l9 4700 = true ∧ yP (xg xs) (d + 1) 332 502 [(0, .ref 58), (1, .int l1), (4, .int l4), (5, .int l5), (6, .int l6), (7, .int l7), (8, .int l8), (9, .int l9), (10, .int ((y_si (y_si (y_si m 83 s1.toNatClampNeg s2) 78 l9.toNatClampNeg (m.1 64 ((m.1 66 l5.toNatClampNeg).toNatClampNeg))) 79 l9.toNatClampNeg (((m.1 64 ((m.1 68 ((m.1 66 l5.toNatClampNeg).toNatClampNeg)).toNatClampNeg)) - ((y_si (y_si m 83 s1.toNatClampNeg s2) 78 l9.toNatClampNeg (m.1 64 ((m.1 66 l5.toNatClampNeg).toNatClampNeg))).1 78 l9.toNatClampNeg)) + (1 : Int32))).1 79 l9.toNatClampNeg))] [] (y_si (y_si (y_si m 83 s1.toNatClampNeg s2) 78 l9.toNatClampNeg (m.1 64 ((m.1 66 l5.toNatClampNeg).toNatClampNeg))) 79 l9.toNatClampNeg (((m.1 64 ((m.1 68 ((m.1 66 l5.toNatClampNeg).toNatClampNeg)).toNatClampNeg)) - ((y_si (y_si m 83 s1.toNatClampNeg s2) 78 l9.toNatClampNeg (m.1 64 ((m.1 66 l5.toNatClampNeg).toNatClampNeg))).1 78 l9.toNatClampNeg)) + (1 : Int32))) Q))))))))))))) : yP (xg xs) (d + 1) 332 430 [(0, .ref 58), (1, .int l1), (4, .int l4), (5, .int l5), (6, .int l6), (7, .int l7), (8, .int l8), (9, .int l9)] [.int s2, .int s1, .ref 83] m Q := by
  show yP (xg xs) (d + 1) 332 430 [(0, .ref 58), (1, .int l1), (4, .int l4), (5, .int l5), (6, .int l6), (7, .int l7), (8, .int l8), (9, .int l9)] [.int s2, .int s1, .ref 83] m Q
  refine y_iast rfl rfl rfl (H.1) ?_
  replace H := H.2
  refine y_st rfl rfl rfl rfl rfl (fun _ _ => rfl) ?_
  refine y_st rfl rfl rfl rfl rfl (fun _ _ => rfl) ?_
  refine y_st rfl rfl rfl rfl rfl (fun _ _ => rfl) ?_
  refine y_st rfl rfl rfl rfl rfl (fun _ _ => rfl) ?_
  show yP (xg xs) (d + 1) 332 437 [(10, .int (1 : Int32)), (0, .ref 58), (1, .int l1), (4, .int l4), (5, .int l5), (6, .int l6), (7, .int l7), (8, .int l8), (9, .int l9)] [.int (1 : Int32), .int l7] (y_si m 83 s1.toNatClampNeg s2) Q
  refine y_ine (t := 502) rfl rfl rfl (fun h => ?_) (fun h => ?_)
  · replace H := H.1 h; clear h
    show yP (xg xs) (d + 1) 332 502 [(10, .int (1 : Int32)), (0, .ref 58), (1, .int l1), (4, .int l4), (5, .int l5), (6, .int l6), (7, .int l7), (8, .int l8), (9, .int l9)] [] (y_si m 83 s1.toNatClampNeg s2) Q
    refine y_headS (l2 := [(0, .ref 58), (1, .int l1), (4, .int l4), (5, .int l5), (6, .int l6), (7, .int l7), (8, .int l8), (9, .int l9), (10, .int (1 : Int32))]) [1, 2, 3, 4, 5, 6, 7, 8, 0] [0, 1, 4, 5, 6, 7, 8, 9, 10] [10, 0, 1, 4, 5, 6, 7, 8, 9] rfl rfl (by decide) rfl (by decide) ?_
    exact H
  · replace H := H.2 h; clear h
    refine y_st rfl rfl rfl rfl rfl (fun _ _ => rfl) ?_
    refine y_gf rfl rfl rfl rfl rfl ?_
    refine y_st rfl rfl rfl rfl rfl (fun _ _ => rfl) ?_
    refine y_st rfl rfl rfl rfl rfl (fun _ _ => rfl) ?_
    refine y_gf rfl rfl rfl rfl rfl ?_
    refine y_st rfl rfl rfl rfl rfl (fun _ _ => rfl) ?_
    refine y_gf rfl rfl rfl rfl rfl ?_
    refine y_st rfl rfl rfl rfl rfl (fun _ _ => rfl) ?_
    show yP (xg xs) (d + 1) 332 456 [(10, .int (1 : Int32)), (0, .ref 58), (1, .int l1), (4, .int l4), (5, .int l5), (6, .int l6), (7, .int l7), (8, .int l8), (9, .int l9)] [.int l5, .ref 66, .ref 64, .int l9, .ref 78] (y_si m 83 s1.toNatClampNeg s2) Q
    refine y_iald rfl rfl rfl (H.1) ?_
    replace H := H.2
    show yP (xg xs) (d + 1) 332 457 [(10, .int (1 : Int32)), (0, .ref 58), (1, .int l1), (4, .int l4), (5, .int l5), (6, .int l6), (7, .int l7), (8, .int l8), (9, .int l9)] [.int (m.1 66 l5.toNatClampNeg), .ref 64, .int l9, .ref 78] (y_si m 83 s1.toNatClampNeg s2) Q
    refine y_iald rfl rfl rfl (H.1) ?_
    replace H := H.2
    show yP (xg xs) (d + 1) 332 458 [(10, .int (1 : Int32)), (0, .ref 58), (1, .int l1), (4, .int l4), (5, .int l5), (6, .int l6), (7, .int l7), (8, .int l8), (9, .int l9)] [.int (m.1 64 ((m.1 66 l5.toNatClampNeg).toNatClampNeg)), .int l9, .ref 78] (y_si m 83 s1.toNatClampNeg s2) Q
    refine y_iast rfl rfl rfl (H.1) ?_
    replace H := H.2
    refine y_st rfl rfl rfl rfl rfl (fun _ _ => rfl) ?_
    refine y_gf rfl rfl rfl rfl rfl ?_
    refine y_st rfl rfl rfl rfl rfl (fun _ _ => rfl) ?_
    refine y_st rfl rfl rfl rfl rfl (fun _ _ => rfl) ?_
    refine y_gf rfl rfl rfl rfl rfl ?_
    refine y_st rfl rfl rfl rfl rfl (fun _ _ => rfl) ?_
    refine y_gf rfl rfl rfl rfl rfl ?_
    refine y_st rfl rfl rfl rfl rfl (fun _ _ => rfl) ?_
    refine y_gf rfl rfl rfl rfl rfl ?_
    refine y_st rfl rfl rfl rfl rfl (fun _ _ => rfl) ?_
    show yP (xg xs) (d + 1) 332 479 [(10, .int (1 : Int32)), (0, .ref 58), (1, .int l1), (4, .int l4), (5, .int l5), (6, .int l6), (7, .int l7), (8, .int l8), (9, .int l9)] [.int l5, .ref 66, .ref 68, .ref 64, .int l9, .ref 79] (y_si (y_si m 83 s1.toNatClampNeg s2) 78 l9.toNatClampNeg (m.1 64 ((m.1 66 l5.toNatClampNeg).toNatClampNeg))) Q
    refine y_iald rfl rfl rfl (H.1) ?_
    replace H := H.2
    show yP (xg xs) (d + 1) 332 480 [(10, .int (1 : Int32)), (0, .ref 58), (1, .int l1), (4, .int l4), (5, .int l5), (6, .int l6), (7, .int l7), (8, .int l8), (9, .int l9)] [.int (m.1 66 l5.toNatClampNeg), .ref 68, .ref 64, .int l9, .ref 79] (y_si (y_si m 83 s1.toNatClampNeg s2) 78 l9.toNatClampNeg (m.1 64 ((m.1 66 l5.toNatClampNeg).toNatClampNeg))) Q
    refine y_iald rfl rfl rfl (H.1) ?_
    replace H := H.2
    show yP (xg xs) (d + 1) 332 481 [(10, .int (1 : Int32)), (0, .ref 58), (1, .int l1), (4, .int l4), (5, .int l5), (6, .int l6), (7, .int l7), (8, .int l8), (9, .int l9)] [.int (m.1 68 ((m.1 66 l5.toNatClampNeg).toNatClampNeg)), .ref 64, .int l9, .ref 79] (y_si (y_si m 83 s1.toNatClampNeg s2) 78 l9.toNatClampNeg (m.1 64 ((m.1 66 l5.toNatClampNeg).toNatClampNeg))) Q
    refine y_iald rfl rfl rfl (H.1) ?_
    replace H := H.2
    refine y_st rfl rfl rfl rfl rfl (fun _ _ => rfl) ?_
    refine y_gf rfl rfl rfl rfl rfl ?_
    refine y_st rfl rfl rfl rfl rfl (fun _ _ => rfl) ?_
    show yP (xg xs) (d + 1) 332 488 [(10, .int (1 : Int32)), (0, .ref 58), (1, .int l1), (4, .int l4), (5, .int l5), (6, .int l6), (7, .int l7), (8, .int l8), (9, .int l9)] [.int l9, .ref 78, .int (m.1 64 ((m.1 68 ((m.1 66 l5.toNatClampNeg).toNatClampNeg)).toNatClampNeg)), .int l9, .ref 79] (y_si (y_si m 83 s1.toNatClampNeg s2) 78 l9.toNatClampNeg (m.1 64 ((m.1 66 l5.toNatClampNeg).toNatClampNeg))) Q
    refine y_iald rfl rfl rfl (H.1) ?_
    replace H := H.2
    refine y_st rfl rfl rfl rfl rfl (fun _ _ => rfl) ?_
    refine y_st rfl rfl rfl rfl rfl (fun _ _ => rfl) ?_
    refine y_st rfl rfl rfl rfl rfl (fun _ _ => rfl) ?_
    show yP (xg xs) (d + 1) 332 492 [(10, .int (1 : Int32)), (0, .ref 58), (1, .int l1), (4, .int l4), (5, .int l5), (6, .int l6), (7, .int l7), (8, .int l8), (9, .int l9)] [.int (((m.1 64 ((m.1 68 ((m.1 66 l5.toNatClampNeg).toNatClampNeg)).toNatClampNeg)) - ((y_si (y_si m 83 s1.toNatClampNeg s2) 78 l9.toNatClampNeg (m.1 64 ((m.1 66 l5.toNatClampNeg).toNatClampNeg))).1 78 l9.toNatClampNeg)) + (1 : Int32)), .int l9, .ref 79] (y_si (y_si m 83 s1.toNatClampNeg s2) 78 l9.toNatClampNeg (m.1 64 ((m.1 66 l5.toNatClampNeg).toNatClampNeg))) Q
    refine y_iast rfl rfl rfl (H.1) ?_
    replace H := H.2
    refine y_st rfl rfl rfl rfl rfl (fun _ _ => rfl) ?_
    refine y_gf rfl rfl rfl rfl rfl ?_
    refine y_st rfl rfl rfl rfl rfl (fun _ _ => rfl) ?_
    show yP (xg xs) (d + 1) 332 499 [(10, .int (1 : Int32)), (0, .ref 58), (1, .int l1), (4, .int l4), (5, .int l5), (6, .int l6), (7, .int l7), (8, .int l8), (9, .int l9)] [.int l9, .ref 79] (y_si (y_si (y_si m 83 s1.toNatClampNeg s2) 78 l9.toNatClampNeg (m.1 64 ((m.1 66 l5.toNatClampNeg).toNatClampNeg))) 79 l9.toNatClampNeg (((m.1 64 ((m.1 68 ((m.1 66 l5.toNatClampNeg).toNatClampNeg)).toNatClampNeg)) - ((y_si (y_si m 83 s1.toNatClampNeg s2) 78 l9.toNatClampNeg (m.1 64 ((m.1 66 l5.toNatClampNeg).toNatClampNeg))).1 78 l9.toNatClampNeg)) + (1 : Int32))) Q
    refine y_iald rfl rfl rfl (H.1) ?_
    replace H := H.2
    refine y_st rfl rfl rfl rfl rfl (fun _ _ => rfl) ?_
    show yP (xg xs) (d + 1) 332 502 [(10, .int ((y_si (y_si (y_si m 83 s1.toNatClampNeg s2) 78 l9.toNatClampNeg (m.1 64 ((m.1 66 l5.toNatClampNeg).toNatClampNeg))) 79 l9.toNatClampNeg (((m.1 64 ((m.1 68 ((m.1 66 l5.toNatClampNeg).toNatClampNeg)).toNatClampNeg)) - ((y_si (y_si m 83 s1.toNatClampNeg s2) 78 l9.toNatClampNeg (m.1 64 ((m.1 66 l5.toNatClampNeg).toNatClampNeg))).1 78 l9.toNatClampNeg)) + (1 : Int32))).1 79 l9.toNatClampNeg)), (0, .ref 58), (1, .int l1), (4, .int l4), (5, .int l5), (6, .int l6), (7, .int l7), (8, .int l8), (9, .int l9)] [] (y_si (y_si (y_si m 83 s1.toNatClampNeg s2) 78 l9.toNatClampNeg (m.1 64 ((m.1 66 l5.toNatClampNeg).toNatClampNeg))) 79 l9.toNatClampNeg (((m.1 64 ((m.1 68 ((m.1 66 l5.toNatClampNeg).toNatClampNeg)).toNatClampNeg)) - ((y_si (y_si m 83 s1.toNatClampNeg s2) 78 l9.toNatClampNeg (m.1 64 ((m.1 66 l5.toNatClampNeg).toNatClampNeg))).1 78 l9.toNatClampNeg)) + (1 : Int32))) Q
    refine y_headS (l2 := [(0, .ref 58), (1, .int l1), (4, .int l4), (5, .int l5), (6, .int l6), (7, .int l7), (8, .int l8), (9, .int l9), (10, .int ((y_si (y_si (y_si m 83 s1.toNatClampNeg s2) 78 l9.toNatClampNeg (m.1 64 ((m.1 66 l5.toNatClampNeg).toNatClampNeg))) 79 l9.toNatClampNeg (((m.1 64 ((m.1 68 ((m.1 66 l5.toNatClampNeg).toNatClampNeg)).toNatClampNeg)) - ((y_si (y_si m 83 s1.toNatClampNeg s2) 78 l9.toNatClampNeg (m.1 64 ((m.1 66 l5.toNatClampNeg).toNatClampNeg))).1 78 l9.toNatClampNeg)) + (1 : Int32))).1 79 l9.toNatClampNeg))]) [1, 2, 3, 4, 5, 6, 7, 8, 0] [0, 1, 4, 5, 6, 7, 8, 9, 10] [10, 0, 1, 4, 5, 6, 7, 8, 9] rfl rfl (by decide) rfl (by decide) ?_
    exact H
set_option maxRecDepth 20000 in
/-- CodeMakerModel.judgeDeclaration from 502 on -/
theorem w332_502 (xs : List Int32) (d : Nat) (l1 : Int32) (l4 : Int32) (l5 : Int32) (l6 : Int32) (l7 : Int32) (l8 : Int32) (l9 : Int32) (l10 : Int32) (m : yM) (Q : Option Value → yM → Prop) (H : ((¬ l7 = (2 : Int32) → yP (xg xs) (d + 1) 332 588 [(0, .ref 58), (1, .int l1), (4, .int l4), (5, .int l5), (6, .int l6), (7, .int l7), (8, .int l8), (9, .int l9), (10, .int l10)] [] m Q) ∧ (l7 = (2 : Int32) → (x_in l5 20000 = true ∧ (yC (xg xs) d 325 [.ref 58, .retAddr 25, .int (m.1 64 l5.toNatClampNeg)] m (fun v1 m1 => ∃ u1, v1 = some (Value.int u1) ∧ ((u1 = ((-1) : Int32) → (x_in l5 20000 = true ∧ (yC (xg xs) d 333 [.ref 58, .int (2 : Int32), .int (m1.1 64 l5.toNatClampNeg)] m1 (fun v2 m2 => ∃ u2, v2 = some (Value.int u2) ∧ yP (xg xs) (d + 1) 332 556 [(0, .ref 58), (1, .int l1), (4, .int l4), (5, .int l5), (6, .int l6), (7, .int l7), (8, .int l8), (9, .int l9), (11, .int u1)] [.int ((100 : Int32) + u2), .int l9, .ref 77] m2 Q)))) ∧ (¬ u1 = ((-1) : Int32) → yP (xg xs) (d + 1) 332 556 [(0, .ref 58), (1, .int l1), (4, .int l4), (5, .int l5), (6, .int l6), (7, .int l7), (8, .int l8), (9, .int l9), (11, .int u1)] [.int u1, .int l9, .ref 77] m1 Q)))))))) : yP (xg xs) (d + 1) 332 502 [(0, .ref 58), (1, .int l1), (4, .int l4), (5, .int l5), (6, .int l6), (7, .int l7), (8, .int l8), (9, .int l9), (10, .int l10)] [] m Q := by
  refine y_st rfl rfl rfl rfl rfl (fun _ _ => rfl) ?_
  refine y_st rfl rfl rfl rfl rfl (fun _ _ => rfl) ?_
  show yP (xg xs) (d + 1) 332 505 [(0, .ref 58), (1, .int l1), (4, .int l4), (5, .int l5), (6, .int l6), (7, .int l7), (8, .int l8), (9, .int l9), (10, .int l10)] [.int (2 : Int32), .int l7] m Q
  refine y_ine (t := 588) rfl rfl rfl (fun h => ?_) (fun h => ?_)
  · replace H := H.1 h; clear h
    show yP (xg xs) (d + 1) 332 588 [(0, .ref 58), (1, .int l1), (4, .int l4), (5, .int l5), (6, .int l6), (7, .int l7), (8, .int l8), (9, .int l9), (10, .int l10)] [] m Q
    exact H
  · replace H := H.2 h; clear h
    refine y_st rfl rfl rfl rfl rfl (fun _ _ => rfl) ?_
    refine y_st rfl rfl rfl rfl rfl (fun _ _ => rfl) ?_
    refine y_st rfl rfl rfl rfl rfl (fun _ _ => rfl) ?_
    refine y_gf rfl rfl rfl rfl rfl ?_
    refine y_st rfl rfl rfl rfl rfl (fun _ _ => rfl) ?_
    show yP (xg xs) (d + 1) 332 518 [(0, .ref 58), (1, .int l1), (4, .int l4), (5, .int l5), (6, .int l6), (7, .int l7), (8, .int l8), (9, .int l9), (10, .int l10)] [.int l5, .ref 64, .retAddr 25, .ref 58] m Q
    refine y_iald rfl rfl rfl (H.1) ?_
    replace H := H.2
    show yP (xg xs) (d + 1) 332 519 [(0, .ref 58), (1, .int l1), (4, .int l4), (5, .int l5), (6, .int l6), (7, .int l7), (8, .int l8), (9, .int l9), (10, .int l10)] [.int (m.1 64 l5.toNatClampNeg), .retAddr 25, .ref 58] m Q
    refine y_call rfl rfl rfl rfl rfl (Nat.le_of_ble_eq_true rfl) (Nat.le_of_ble_eq_true rfl) rfl (by decide) H (fun v1 m1 H => ?_)
    obtain ⟨u1, rfl, H⟩ := H
    refine y_st rfl rfl rfl rfl rfl (fun _ _ => rfl) ?_
    refine y_st rfl rfl rfl rfl rfl (fun _ _ => rfl) ?_
    refine y_gf rfl rfl rfl rfl rfl ?_
    refine y_st rfl rfl rfl rfl rfl (fun _ _ => rfl) ?_
    refine y_st rfl rfl rfl rfl rfl (fun _ _ => rfl) ?_
    refine y_st rfl rfl rfl rfl rfl (fun _ _ => rfl) ?_
    show yP (xg xs) (d + 1) 332 533 [(11, .int u1), (0, .ref 58), (1, .int l1), (4, .int l4), (5, .int l5), (6, .int l6), (7, .int l7), (8, .int l8), (9, .int l9), (10, .int l10)] [.int ((-1) : Int32), .int u1, .int l9, .ref 77] m1 Q
    refine y_ieq (t := 541) rfl rfl rfl (fun h => ?_) (fun h => ?_)
    · replace H := H.1 h; clear h
      refine y_st rfl rfl rfl rfl rfl (fun _ _ => rfl) ?_
      refine y_st rfl rfl rfl rfl rfl (fun _ _ => rfl) ?_
      refine y_st rfl rfl rfl rfl rfl (fun _ _ => rfl) ?_
      refine y_st rfl rfl rfl rfl rfl (fun _ _ => rfl) ?_
      refine y_gf rfl rfl rfl rfl rfl ?_
      refine y_st rfl rfl rfl rfl rfl (fun _ _ => rfl) ?_
      show yP (xg xs) (d + 1) 332 551 [(11, .int u1), (0, .ref 58), (1, .int l1), (4, .int l4), (5, .int l5), (6, .int l6), (7, .int l7), (8, .int l8), (9, .int l9), (10, .int l10)] [.int l5, .ref 64, .int (2 : Int32), .ref 58, .int (100 : Int32), .int l9, .ref 77] m1 Q
      refine y_iald rfl rfl rfl (H.1) ?_
      replace H := H.2
      show yP (xg xs) (d + 1) 332 552 [(11, .int u1), (0, .ref 58), (1, .int l1), (4, .int l4), (5, .int l5), (6, .int l6), (7, .int l7), (8, .int l8), (9, .int l9), (10, .int l10)] [.int (m1.1 64 l5.toNatClampNeg), .int (2 : Int32), .ref 58, .int (100 : Int32), .int l9, .ref 77] m1 Q
      refine y_call rfl rfl rfl rfl rfl (Nat.le_of_ble_eq_true rfl) (Nat.le_of_ble_eq_true rfl) rfl (by decide) H (fun v2 m2 H => ?_)
      obtain ⟨u2, rfl, H⟩ := H
      refine y_st rfl rfl rfl rfl rfl (fun _ _ => rfl) ?_
      show yP (xg xs) (d + 1) 332 556 [(11, .int u1), (0, .ref 58), (1, .int l1), (4, .int l4), (5, .int l5), (6, .int l6), (7, .int l7), (8, .int l8), (9, .int l9), (10, .int l10)] [.int ((100 : Int32) + u2), .int l9, .ref 77] m2 Q
      refine y_headS (l2 := [(0, .ref 58), (1, .int l1), (4, .int l4), (5, .int l5), (6, .int l6), (7, .int l7), (8, .int l8), (9, .int l9), (11, .int u1)]) [1, 2, 3, 4, 5, 6, 7, 8, 0] [0, 1, 4, 5, 6, 7, 8, 9, 11] [11, 0, 1, 4, 5, 6, 7, 8, 9, 10] rfl rfl (by decide) rfl (by decide) ?_
      exact H
    · replace H := H.2 h; clear h
      refine y_st rfl rfl rfl rfl rfl (fun _ _ => rfl) ?_
      refine y_st rfl rfl rfl rfl rfl (fun _ _ => rfl) ?_
      show yP (xg xs) (d + 1) 332 556 [(11, .int u1), (0, .ref 58), (1, .int l1), (4, .int l4), (5, .int l5), (6, .int l6), (7, .int l7), (8, .int l8), (9, .int l9), (10, .int l10)] [.int u1, .int l9, .ref 77] m1 Q
      refine y_headS (l2 := [(0, .ref 58), (1, .int l1), (4, .int l4), (5, .int l5), (6, .int l6), (7, .int l7), (8, .int l8), (9, .int l9), (11, .int u1)]) [1, 2, 3, 4, 5, 6, 7, 8, 0] [0, 1, 4, 5, 6, 7, 8, 9, 11] [11, 0, 1, 4, 5, 6, 7, 8, 9, 10] rfl rfl (by decide) rfl (by decide) ?_
      exact H
set_option maxRecDepth 20000 in
/-- CodeMakerModel.judgeDeclaration from 556 on -/
theorem w332_556 (xs : List Int32) (d : Nat) (l1 : Int32) (l4 : Int32) (l5 : Int32) (l6 : Int32) (l7 : Int32) (l8 : Int32) (l9 : Int32) (l11 : Int32) (s1 : Int32) (s2 : Int32) (m : yM) (Q : Option Value → yM → Prop) (H : (x_in s1 4700 = true ∧ ((l11 = ((-1) : Int32) → (x_in l9 4700 = true ∧ (x_in (((y_si m 77 s1.toNatClampNeg s2).1 77 l9.toNatClampNeg) - (100 : Int32)) 400 = true ∧ yP (xg xs) (d + 1) 332 586 [(0, .ref 58), (1, .int l1), (4, .int l4), (5, .int l5), (6, .int l6), (7, .int l7), (8, .int l8), (9, .int l9)] [.int (m.1 72 ((((y_si m 77 s1.toNatClampNeg s2).1 77 l9.toNatClampNeg) - (100 : Int32)).toNatClampNeg))] (y_si m 77 s1.toNatClampNeg s2) Q))) ∧ (¬ l11 = ((-1) : Int32) → (yC (xg xs) d 334 [.int l11] (y_si m 77 s1.toNatClampNeg s2) (fun v1 m1 => ∃ u1, v1 = some (Value.int u1) ∧ yP (xg xs) (d + 1) 332 586 [(0, .ref 58), (1, .int l1), (4, .int l4), (5, .int l5), (6, .int l6), (7, .int l7), (8, .int l8), (9, .int l9)] [.int u1] m1 Q)))))) : yP (xg xs) (d + 1) 332 556 [(0, .ref 58), (1, .int l1), (4, .int l4), (5, .int l5), (6, .int l6), (7, .int l7), (8, .int l8), (9, .int l9), (11, .int l11)] [.int s2, .int s1, .ref 77] m Q := by
  show yP (xg xs) (d + 1) 332 556 [(0, .ref 58), (1, .int l1), (4, .int l4), (5, .int l5), (6, .int l6), (7, .int l7), (8, .int l8), (9, .int l9), (11, .int l11)] [.int s2, .int s1, .ref 77] m Q
  refine y_iast rfl rfl rfl (H.1) ?_
  replace H := H.2
  refine y_st rfl rfl rfl rfl rfl (fun _ _ => rfl) ?_
  refine y_st rfl rfl rfl rfl rfl (fun _ _ => rfl) ?_
  show yP (xg xs) (d + 1) 332 560 [(0, .ref 58), (1, .int l1), (4, .int l4), (5, .int l5), (6, .int l6), (7, .int l7), (8, .int l8), (9, .int l9), (11, .int l11)] [.int ((-1) : Int32), .int l11] (y_si m 77 s1.toNatClampNeg s2) Q
  refine y_ieq (t := 571) rfl rfl rfl (fun h => ?_) (fun h => ?_)
  · replace H := H.1 h; clear h
    refine y_st rfl rfl rfl rfl rfl (fun _ _ => rfl) ?_
    refine y_gf rfl rfl rfl rfl rfl ?_
    refine y_st rfl rfl rfl rfl rfl (fun _ _ => rfl) ?_
    refine y_gf rfl rfl rfl rfl rfl ?_
    refine y_st rfl rfl rfl rfl rfl (fun _ _ => rfl) ?_
    show yP (xg xs) (d + 1) 332 581 [(0, .ref 58), (1, .int l1), (4, .int l4), (5, .int l5), (6, .int l6), (7, .int l7), (8, .int l8), (9, .int l9), (11, .int l11)] [.int l9, .ref 77, .ref 72] (y_si m 77 s1.toNatClampNeg s2) Q
    refine y_iald rfl rfl rfl (H.1) ?_
    replace H := H.2
    refine y_st rfl rfl rfl rfl rfl (fun _ _ => rfl) ?_
    refine y_st rfl rfl rfl rfl rfl (fun _ _ => rfl) ?_
    show yP (xg xs) (d + 1) 332 585 [(0, .ref 58), (1, .int l1), (4, .int l4), (5, .int l5), (6, .int l6), (7, .int l7), (8, .int l8), (9, .int l9), (11, .int l11)] [.int (((y_si m 77 s1.toNatClampNeg s2).1 77 l9.toNatClampNeg) - (100 : Int32)), .ref 72] (y_si m 77 s1.toNatClampNeg s2) Q
    refine y_iald rfl rfl rfl (H.1) ?_
    replace H := H.2
    show yP (xg xs) (d + 1) 332 586 [(0, .ref 58), (1, .int l1), (4, .int l4), (5, .int l5), (6, .int l6), (7, .int l7), (8, .int l8), (9, .int l9), (11, .int l11)] [.int (m.1 72 ((((y_si m 77 s1.toNatClampNeg s2).1 77 l9.toNatClampNeg) - (100 : Int32)).toNatClampNeg))] (y_si m 77 s1.toNatClampNeg s2) Q
    refine y_headS (l2 := [(0, .ref 58), (1, .int l1), (4, .int l4), (5, .int l5), (6, .int l6), (7, .int l7), (8, .int l8), (9, .int l9)]) [0, 1, 2, 3, 4, 5, 6, 7] [0, 1, 4, 5, 6, 7, 8, 9] [0, 1, 4, 5, 6, 7, 8, 9, 11] rfl rfl (by decide) rfl (by decide) ?_
    exact H
  · replace H := H.2 h; clear h
    refine y_st rfl rfl rfl rfl rfl (fun _ _ => rfl) ?_
    show yP (xg xs) (d + 1) 332 565 [(0, .ref 58), (1, .int l1), (4, .int l4), (5, .int l5), (6, .int l6), (7, .int l7), (8, .int l8), (9, .int l9), (11, .int l11)] [.int l11] (y_si m 77 s1.toNatClampNeg s2) Q
    refine y_call rfl rfl rfl rfl rfl (Nat.le_of_ble_eq_true rfl) (Nat.le_of_ble_eq_true rfl) rfl (by decide) H (fun v1 m1 H => ?_)
    obtain ⟨u1, rfl, H⟩ := H
    refine y_st rfl rfl rfl rfl rfl (fun _ _ => rfl) ?_
    show yP (xg xs) (d + 1) 332 586 [(0, .ref 58), (1, .int l1), (4, .int l4), (5, .int l5), (6, .int l6), (7, .int l7), (8, .int l8), (9, .int l9), (11, .int l11)] [.int u1] m1 Q
    refine y_headS (l2 := [(0, .ref 58), (1, .int l1), (4, .int l4), (5, .int l5), (6, .int l6), (7, .int l7), (8, .int l8), (9, .int l9)]) [0, 1, 2, 3, 4, 5, 6, 7] [0, 1, 4, 5, 6, 7, 8, 9] [0, 1, 4, 5, 6, 7, 8, 9, 11] rfl rfl (by decide) rfl (by decide) ?_
    exact H
set_option maxRecDepth 20000 in
/-- CodeMakerModel.judgeDeclaration from 586 on -/
theorem w332_586 (xs : List Int32) (d : Nat) (l1 : Int32) (l4 : Int32) (l5 : Int32) (l6 : Int32) (l7 : Int32) (l8 : Int32) (l9 : Int32) (s0 : Int32) (m : yM) (Q : Option Value → yM → Prop) (H : yP (xg xs) (d + 1) 332 588 [(0, .ref 58), (1, .int l1), (4, .int l4), (5, .int l5), (6, .int l6), (7, .int l7), (8, .int l8), (9, .int l9), (10, .int s0)] [] m Q) : yP (xg xs) (d + 1) 332 586 [(0, .ref 58), (1, .int l1), (4, .int l4), (5, .int l5), (6, .int l6), (7, .int l7), (8, .int l8), (9, .int l9)] [.int s0] m Q := by
  refine y_st rfl rfl rfl rfl rfl (fun _ _ => rfl) ?_
  show yP (xg xs) (d + 1) 332 588 [(10, .int s0), (0, .ref 58), (1, .int l1), (4, .int l4), (5, .int l5), (6, .int l6), (7, .int l7), (8, .int l8), (9, .int l9)] [] m Q
  refine y_headS (l2 := [(0, .ref 58), (1, .int l1), (4, .int l4), (5, .int l5), (6, .int l6), (7, .int l7), (8, .int l8), (9, .int l9), (10, .int s0)]) [1, 2, 3, 4, 5, 6, 7, 8, 0] [0, 1, 4, 5, 6, 7, 8, 9, 10] [10, 0, 1, 4, 5, 6, 7, 8, 9] rfl rfl (by decide) rfl (by decide) ?_
  exact H
set_option maxRecDepth 20000 in
/-- CodeMakerModel.judgeDeclaration from 588 on -/
theorem w332_588 (xs : List Int32) (d : Nat) (l1 : Int32) (l4 : Int32) (l5 : Int32) (l6 : Int32) (l7 : Int32) (l8 : Int32) (l9 : Int32) (l10 : Int32) (m : yM) (Q : Option Value → yM → Prop) (H : ((l4 = ((-1) : Int32) → (x_in ((m.1 58 23) - (1 : Int32)) 400 = true ∧ yP (xg xs) (d + 1) 332 619 [(0, .ref 58), (1, .int l1), (4, .int l4), (5, .int l5), (6, .int l6), (7, .int l7), (8, .int l8), (9, .int l9), (10, .int l10)] [.int (m.1 72 (((m.1 58 23) - (1 : Int32)).toNatClampNeg)), .int l9, .ref 80] m Q)) ∧ (¬ l4 = ((-1) : Int32) → (yC (xg xs) d 335 [.int l4] m (fun v1 m1 => ∃ u1, v1 = some (Value.int u1) ∧ yP (xg xs) (d + 1) 332 619 [(0, .ref 58), (1, .int l1), (4, .int l4), (5, .int l5), (6, .int l6), (7, .int l7), (8, .int l8), (9, .int l9), (10, .int l10)] [.int u1, .int l9, .ref 80] m1 Q))))) : yP (xg xs) (d + 1) 332 588 [(0, .ref 58), (1, .int l1), (4, .int l4), (5, .int l5), (6, .int l6), (7, .int l7), (8, .int l8), (9, .int l9), (10, .int l10)] [] m Q := by
  refine y_st rfl rfl rfl rfl rfl (fun _ _ => rfl) ?_
  refine y_gf rfl rfl rfl rfl rfl ?_
  refine y_st rfl rfl rfl rfl rfl (fun _ _ => rfl) ?_
  refine y_st rfl rfl rfl rfl rfl (fun _ _ => rfl) ?_
  refine y_st rfl rfl rfl rfl rfl (fun _ _ => rfl) ?_
  show yP (xg xs) (d + 1) 332 597 [(0, .ref 58), (1, .int l1), (4, .int l4), (5, .int l5), (6, .int l6), (7, .int l7), (8, .int l8), (9, .int l9), (10, .int l10)] [.int ((-1) : Int32), .int l4, .int l9, .ref 80] m Q
  refine y_ieq (t := 608) rfl rfl rfl (fun h => ?_) (fun h => ?_)
  · replace H := H.1 h; clear h
    refine y_st rfl rfl rfl rfl rfl (fun _ _ => rfl) ?_
    refine y_gf rfl rfl rfl rfl rfl ?_
    refine y_st rfl rfl rfl rfl rfl (fun _ _ => rfl) ?_
    refine y_gf rfl rfl rfl rfl rfl ?_
    refine y_st rfl rfl rfl rfl rfl (fun _ _ => rfl) ?_
    refine y_st rfl rfl rfl rfl rfl (fun _ _ => rfl) ?_
    show yP (xg xs) (d + 1) 332 618 [(0, .ref 58), (1, .int l1), (4, .int l4), (5, .int l5), (6, .int l6), (7, .int l7), (8, .int l8), (9, .int l9), (10, .int l10)] [.int ((m.1 58 23) - (1 : Int32)), .ref 72, .int l9, .ref 80] m Q
    refine y_iald rfl rfl rfl (H.1) ?_
    replace H := H.2
    show yP (xg xs) (d + 1) 332 619 [(0, .ref 58), (1, .int l1), (4, .int l4), (5, .int l5), (6, .int l6), (7, .int l7), (8, .int l8), (9, .int l9), (10, .int l10)] [.int (m.1 72 (((m.1 58 23) - (1 : Int32)).toNatClampNeg)), .int l9, .ref 80] m Q
    exact H
  · replace H := H.2 h; clear h
    refine y_st rfl rfl rfl rfl rfl (fun _ _ => rfl) ?_
    show yP (xg xs) (d + 1) 332 602 [(0, .ref 58), (1, .int l1), (4, .int l4), (5, .int l5), (6, .int l6), (7, .int l7), (8, .int l8), (9, .int l9), (10, .int l10)] [.int l4, .int l9, .ref 80] m Q
    refine y_call rfl rfl rfl rfl rfl (Nat.le_of_ble_eq_true rfl) (Nat.le_of_ble_eq_true rfl) rfl (by decide) H (fun v1 m1 H => ?_)
    obtain ⟨u1, rfl, H⟩ := H
    refine y_st rfl rfl rfl rfl rfl (fun _ _ => rfl) ?_
    show yP (xg xs) (d + 1) 332 619 [(0, .ref 58), (1, .int l1), (4, .int l4), (5, .int l5), (6, .int l6), (7, .int l7), (8, .int l8), (9, .int l9), (10, .int l10)] [.int u1, .int l9, .ref 80] m1 Q
    exact H
set_option maxRecDepth 20000 in
/-- CodeMakerModel.judgeDeclaration from 619 on -/
theorem w332_619 (xs : List Int32) (d : Nat) (l1 : Int32) (l4 : Int32) (l5 : Int32) (l6 : Int32) (l7 : Int32) (l8 : Int32) (l9 : Int32) (l10 : Int32) (s1 : Int32) (s2 : Int32) (m : yM) (Q : Option Value → yM → Prop) (H : (x_in s1 4700 = true ∧ (x_in ((m.1 58 23) - (1 : Int32)) 400 = true ∧ ((l4 = ((-1) : Int32) → yP (xg xs) (d + 1) 332 644 [(0, .ref 58), (1, .int l1), (4, .int l4), (5, .int l5), (6, .int l6), (7, .int l7), (8, .int l8), (9, .int l9)] [.int l10, .int (m.1 72 (((m.1 58 23) - (1 : Int32)).toNatClampNeg)), .int ((m.1 58 23) - (1 : Int32)), .ref 72] (y_si m 80 s1.toNatClampNeg s2) Q) ∧ (¬ l4 = ((-1) : Int32) → yP (xg xs) (d + 1) 332 644 [(0, .ref 58), (1, .int l1), (4, .int l4), (5, .int l5), (6, .int l6), (7, .int l7), (8, .int l8), (9, .int l9)] [.int (0 : Int32), .int (m.1 72 (((m.1 58 23) - (1 : Int32)).toNatClampNeg)), .int ((m.1 58 23) - (1 : Int32)), .ref 72] (y_si m 80 s1.toNatClampNeg s2) Q))))) : yP (xg xs) (d + 1) 332 619 [(0, .ref 58), (1, .int l1), (4, .int l4), (5, .int l5), (6, .int l6), (7, .int l7), (8, .int l8), (9, .int l9), (10, .int l10)] [.int s2, .int s1, .ref 80] m Q := by
  show yP (xg xs) (d + 1) 332 619 [(0, .ref 58), (1, .int l1), (4, .int l4), (5, .int l5), (6, .int l6), (7, .int l7), (8, .int l8), (9, .int l9), (10, .int l10)] [.int s2, .int s1, .ref 80] m Q
  refine y_iast rfl rfl rfl (H.1) ?_
  replace H := H.2
  refine y_st rfl rfl rfl rfl rfl (fun _ _ => rfl) ?_
  refine y_gf rfl rfl rfl rfl rfl ?_
  refine y_st rfl rfl rfl rfl rfl (fun _ _ => rfl) ?_
  refine y_gf rfl rfl rfl rfl rfl ?_
  refine y_st rfl rfl rfl rfl rfl (fun _ _ => rfl) ?_
  refine y_st rfl rfl rfl rfl rfl (fun _ _ => rfl) ?_
  refine y_st rfl rfl rfl rfl rfl (fun _ _ => rfl) ?_
  show yP (xg xs) (d + 1) 332 631 [(0, .ref 58), (1, .int l1), (4, .int l4), (5, .int l5), (6, .int l6), (7, .int l7), (8, .int l8), (9, .int l9), (10, .int l10)] [.int ((m.1 58 23) - (1 : Int32)), .ref 72, .int ((m.1 58 23) - (1 : Int32)), .ref 72] (y_si m 80 s1.toNatClampNeg s2) Q
  refine y_iald rfl rfl rfl (H.1) ?_
  replace H := H.2
  refine y_st rfl rfl rfl rfl rfl (fun _ _ => rfl) ?_
  refine y_st rfl rfl rfl rfl rfl (fun _ _ => rfl) ?_
  show yP (xg xs) (d + 1) 332 635 [(0, .ref 58), (1, .int l1), (4, .int l4), (5, .int l5), (6, .int l6), (7, .int l7), (8, .int l8), (9, .int l9), (10, .int l10)] [.int ((-1) : Int32), .int l4, .int (m.1 72 (((m.1 58 23) - (1 : Int32)).toNatClampNeg)), .int ((m.1 58 23) - (1 : Int32)), .ref 72] (y_si m 80 s1.toNatClampNeg s2) Q
  refine y_ieq (t := 642) rfl rfl rfl (fun h => ?_) (fun h => ?_)
  · replace H := H.1 h; clear h
    refine y_st rfl rfl rfl rfl rfl (fun _ _ => rfl) ?_
    show yP (xg xs) (d + 1) 332 644 [(0, .ref 58), (1, .int l1), (4, .int l4), (5, .int l5), (6, .int l6), (7, .int l7), (8, .int l8), (9, .int l9), (10, .int l10)] [.int l10, .int (m.1 72 (((m.1 58 23) - (1 : Int32)).toNatClampNeg)), .int ((m.1 58 23) - (1 : Int32)), .ref 72] (y_si m 80 s1.toNatClampNeg s2) Q
    refine y_headS (l2 := [(0, .ref 58), (1, .int l1), (4, .int l4), (5, .int l5), (6, .int l6), (7, .int l7), (8, .int l8), (9, .int l9)]) [0, 1, 2, 3, 4, 5, 6, 7] [0, 1, 4, 5, 6, 7, 8, 9] [0, 1, 4, 5, 6, 7, 8, 9, 10] rfl rfl (by decide) rfl (by decide) ?_
    exact H
  · replace H := H.2 h; clear h
    refine y_st rfl rfl rfl rfl rfl (fun _ _ => rfl) ?_
    refine y_st rfl rfl rfl rfl rfl (fun _ _ => rfl) ?_
    show yP (xg xs) (d + 1) 332 644 [(0, .ref 58), (1, .int l1), (4, .int l4), (5, .int l5), (6, .int l6), (7, .int l7), (8, .int l8), (9, .int l9), (10, .int l10)] [.int (0 : Int32), .int (m.1 72 (((m.1 58 23) - (1 : Int32)).toNatClampNeg)), .int ((m.1 58 23) - (1 : Int32)), .ref 72] (y_si m 80 s1.toNatClampNeg s2) Q
    refine y_headS (l2 := [(0, .ref 58), (1, .int l1), (4, .int l4), (5, .int l5), (6, .int l6), (7, .int l7), (8, .int l8), (9, .int l9)]) [0, 1, 2, 3, 4, 5, 6, 7] [0, 1, 4, 5, 6, 7, 8, 9] [0, 1, 4, 5, 6, 7, 8, 9, 10] rfl rfl (by decide) rfl (by decide) ?_
    exact H
set_option maxRecDepth 20000 in
/-- CodeMakerModel.judgeDeclaration from 644 on -/
theorem w332_644 (xs : List Int32) (d : Nat) (l1 : Int32) (l4 : Int32) (l5 : Int32) (l6 : Int32) (l7 : Int32) (l8 : Int32) (l9 : Int32) (s1 : Int32) (s2 : Int32) (s3 : Int32) (m : yM) (Q : Option Value → yM → Prop) (H : (x_in s1 400 = true ∧ yP (xg xs) (d + 1) 332 371 [(0, .ref 58), (1, .int l1), (4, .int l4), (5, .int l5), (6, .int l6), (7, .int l7), (8, .int l8), (9, .int (l9 + (1 : Int32)))] [] (y_si m 72 s1.toNatClampNeg (s2 + s3)) Q)) : yP (xg xs) (d + 1) 332 644 [(0, .ref 58), (1, .int l1), (4, .int l4), (5, .int l5), (6, .int l6), (7, .int l7), (8, .int l8), (9, .int l9)] [.int s3, .int s2, .int s1, .ref 72] m Q := by
  refine y_st rfl rfl rfl rfl rfl (fun _ _ => rfl) ?_
  show yP (xg xs) (d + 1) 332 645 [(0, .ref 58), (1, .int l1), (4, .int l4), (5, .int l5), (6, .int l6), (7, .int l7), (8, .int l8), (9, .int l9)] [.int (s2 + s3), .int s1, .ref 72] m Q
  refine y_iast rfl rfl rfl (H.1) ?_
  replace H := H.2
  refine y_st rfl rfl rfl rfl rfl (fun _ _ => rfl) ?_
  refine y_st rfl rfl rfl rfl rfl (fun _ _ => rfl) ?_
  show yP (xg xs) (d + 1) 332 371 [(9, .int (l9 + (1 : Int32))), (0, .ref 58), (1, .int l1), (4, .int l4), (5, .int l5), (6, .int l6), (7, .int l7), (8, .int l8)] [] (y_si m 72 s1.toNatClampNeg (s2 + s3)) Q
  refine y_headS (l2 := [(0, .ref 58), (1, .int l1), (4, .int l4), (5, .int l5), (6, .int l6), (7, .int l7), (8, .int l8), (9, .int (l9 + (1 : Int32)))]) [1, 2, 3, 4, 5, 6, 7, 0] [0, 1, 4, 5, 6, 7, 8, 9] [9, 0, 1, 4, 5, 6, 7, 8] rfl rfl (by decide) rfl (by decide) ?_
  exact H
set_option maxRecDepth 20000 in
/-- CodeMakerModel.judgeDeclaration from 677 on -/
theorem w332_677 (xs : List Int32) (d : Nat) (l1 : Int32) (s1 : Int32) (s2 : Int32) (m : yM) (Q : Option Value → yM → Prop) (H : (yC (xg xs) d 323 [.ref 58, .int s1, .int s2, .int l1] m (fun v1 m1 => v1 = none ∧ Q none m1))) : yP (xg xs) (d + 1) 332 677 [(1, .int l1)] [.int s2, .int s1, .ref 58] m Q := by
  refine y_st rfl rfl rfl rfl rfl (fun _ _ => rfl) ?_
  show yP (xg xs) (d + 1) 332 678 [(1, .int l1)] [.int l1, .int s2, .int s1, .ref 58] m Q
  refine y_call rfl rfl rfl rfl rfl (Nat.le_of_ble_eq_true rfl) (Nat.le_of_ble_eq_true rfl) rfl (by decide) H (fun v1 m1 H => ?_)
  obtain ⟨rfl, H⟩ := H
  show yP (xg xs) (d + 1) 332 681 [(1, .int l1)] [] m1 Q
  exact y_ret rfl rfl rfl rfl H
set_option maxRecDepth 20000 in
/-- CodeMakerModel.blockBefore from 0 on -/
theorem w333_0 (xs : List Int32) (d : Nat) (l1 : Int32) (l2 : Int32) (m : yM) (Q : Option Value → yM → Prop) (H : yP (xg xs) (d + 1) 333 2 [(0, .ref 58), (1, .int l1), (2, .int l2), (3, .int (0 : Int32))] [] m Q) : yP (xg xs) (d + 1) 333 0 [(0, .ref 58), (1, .int l1), (2, .int l2)] [] m Q := by
  refine y_st rfl rfl rfl rfl rfl (fun _ _ => rfl) ?_
  refine y_st rfl rfl rfl rfl rfl (fun _ _ => rfl) ?_
  show yP (xg xs) (d + 1) 333 2 [(3, .int (0 : Int32)), (0, .ref 58), (1, .int l1), (2, .int l2)] [] m Q
  refine y_headS (l2 := [(0, .ref 58), (1, .int l1), (2, .int l2), (3, .int (0 : Int32))]) [1, 2, 3, 0] [0, 1, 2, 3] [3, 0, 1, 2] rfl rfl (by decide) rfl (by decide) ?_
  exact H
set_option maxRecDepth 20000 in
/-- CodeMakerModel.blockBefore from 2 on -/
theorem w333_2 (xs : List Int32) (d : Nat) (l1 : Int32) (l2 : Int32) (l3 : Int32) (m : yM) (Q : Option Value → yM → Prop) (H : ((((m.1 58 23) - (1 : Int32)) ≤ l3 → Q (some (.int ((-1) : Int32))) m) ∧ (¬ ((m.1 58 23) - (1 : Int32)) ≤ l3 → (x_in l3 400 = true ∧ ((¬ (m.1 71 l3.toNatClampNeg) = l2 → yP (xg xs) (d + 1) 333 39 [(0, .ref 58), (1, .int l1), (2, .int l2), (3, .int l3)] [] m Q) ∧ ((m.1 71 l3.toNatClampNeg) = l2 → (x_in l3 400 = true ∧ (x_in (m.1 70 l3.toNatClampNeg) 20000 = true ∧ ((¬ (m.1 62 ((m.1 70 l3.toNatClampNeg).toNatClampNeg)) = l1 → yP (xg xs) (d + 1) 333 39 [(0, .ref 58), (1, .int l1), (2, .int l2), (3, .int l3)] [] m Q) ∧ ((m.1 62 ((m.1 70 l3.toNatClampNeg).toNatClampNeg)) = l1 → Q (some (.int l3)) m)))))))))) : yP (xg xs) (d + 1) 333 2 [(0, .ref 58), (1, .int l1), (2, .int l2), (3, .int l3)] [] m Q := by
  refine y_st rfl rfl rfl rfl rfl (fun _ _ => rfl) ?_
  refine y_st rfl rfl rfl rfl rfl (fun _ _ => rfl) ?_
  refine y_gf rfl rfl rfl rfl rfl ?_
  refine y_st rfl rfl rfl rfl rfl (fun _ _ => rfl) ?_
  refine y_st rfl rfl rfl rfl rfl (fun _ _ => rfl) ?_
  show yP (xg xs) (d + 1) 333 9 [(0, .ref 58), (1, .int l1), (2, .int l2), (3, .int l3)] [.int ((m.1 58 23) - (1 : Int32)), .int l3] m Q
  refine y_ige (t := 45) rfl rfl rfl (fun h => ?_) (fun h => ?_)
  · replace H := H.1 h; clear h
    refine y_st rfl rfl rfl rfl rfl (fun _ _ => rfl) ?_
    show yP (xg xs) (d + 1) 333 46 [(0, .ref 58), (1, .int l1), (2, .int l2), (3, .int l3)] [.int ((-1) : Int32)] m Q
    exact y_iret rfl rfl rfl H
  · replace H := H.2 h; clear h
    refine y_st rfl rfl rfl rfl rfl (fun _ _ => rfl) ?_
    refine y_gf rfl rfl rfl rfl rfl ?_
    refine y_st rfl rfl rfl rfl rfl (fun _ _ => rfl) ?_
    show yP (xg xs) (d + 1) 333 17 [(0, .ref 58), (1, .int l1), (2, .int l2), (3, .int l3)] [.int l3, .ref 71] m Q
    refine y_iald rfl rfl rfl (H.1) ?_
    replace H := H.2
    refine y_st rfl rfl rfl rfl rfl (fun _ _ => rfl) ?_
    show yP (xg xs) (d + 1) 333 19 [(0, .ref 58), (1, .int l1), (2, .int l2), (3, .int l3)] [.int l2, .int (m.1 71 l3.toNatClampNeg)] m Q
    refine y_ine (t := 39) rfl rfl rfl (fun h => ?_) (fun h => ?_)
    · replace H := H.1 h; clear h
      show yP (xg xs) (d + 1) 333 39 [(0, .ref 58), (1, .int l1), (2, .int l2), (3, .int l3)] [] m Q
      exact H
    · replace H := H.2 h; clear h
      refine y_st rfl rfl rfl rfl rfl (fun _ _ => rfl) ?_
      refine y_gf rfl rfl rfl rfl rfl ?_
      refine y_st rfl rfl rfl rfl rfl (fun _ _ => rfl) ?_
      refine y_gf rfl rfl rfl rfl rfl ?_
      refine y_st rfl rfl rfl rfl rfl (fun _ _ => rfl) ?_
      show yP (xg xs) (d + 1) 333 31 [(0, .ref 58), (1, .int l1), (2, .int l2), (3, .int l3)] [.int l3, .ref 70, .ref 62] m Q
      refine y_iald rfl rfl rfl (H.1) ?_
      replace H := H.2
      show yP (xg xs) (d + 1) 333 32 [(0, .ref 58), (1, .int l1), (2, .int l2), (3, .int l3)] [.int (m.1 70 l3.toNatClampNeg), .ref 62] m Q
      refine y_iald rfl rfl rfl (H.1) ?_
      replace H := H.2
      refine y_st rfl rfl rfl rfl rfl (fun _ _ => rfl) ?_
      show yP (xg xs) (d + 1) 333 34 [(0, .ref 58), (1, .int l1), (2, .int l2), (3, .int l3)] [.int l1, .int (m.1 62 ((m.1 70 l3.toNatClampNeg).toNatClampNeg))] m Q
      refine y_ine (t := 39) rfl rfl rfl (fun h => ?_) (fun h => ?_)
      · replace H := H.1 h; clear h
        show yP (xg xs) (d + 1) 333 39 [(0, .ref 58), (1, .int l1), (2, .int l2), (3, .int l3)] [] m Q
        exact H
      · replace H := H.2 h; clear h
        refine y_st rfl rfl rfl rfl rfl (fun _ _ => rfl) ?_
        show yP (xg xs) (d + 1) 333 38 [(0, .ref 58), (1, .int l1), (2, .int l2), (3, .int l3)] [.int l3] m Q
        exact y_iret rfl rfl rfl H
set_option maxRecDepth 20000 in
/-- CodeMakerModel.blockBefore from 39 on -/
theorem w333_39 (xs : List Int32) (d : Nat) (l1 : Int32) (l2 : Int32) (l3 : Int32) (m : yM) (Q : Option Value → yM → Prop) (H : yP (xg xs) (d + 1) 333 2 [(0, .ref 58), (1, .int l1), (2, .int l2), (3, .int (l3 + (1 : Int32)))] [] m Q) : yP (xg xs) (d + 1) 333 39 [(0, .ref 58), (1, .int l1), (2, .int l2), (3, .int l3)] [] m Q := by
  refine y_st rfl rfl rfl rfl rfl (fun _ _ => rfl) ?_
  refine y_st rfl rfl rfl rfl rfl (fun _ _ => rfl) ?_
  show yP (xg xs) (d + 1) 333 2 [(3, .int (l3 + (1 : Int32))), (0, .ref 58), (1, .int l1), (2, .int l2)] [] m Q
  refine y_headS (l2 := [(0, .ref 58), (1, .int l1), (2, .int l2), (3, .int (l3 + (1 : Int32)))]) [1, 2, 3, 0] [0, 1, 2, 3] [3, 0, 1, 2] rfl rfl (by decide) rfl (by decide) ?_
  exact H
set_option maxRecDepth 20000 in
/-- CodeMakerModel.standardCells from 0 on -/
theorem w334_0 (xs : List Int32) (d : Nat) (l0 : Int32) (m : yM) (Q : Option Value → yM → Prop) (H : (((5 : Int32) ≤ l0 → Q (some (.int (3 : Int32))) m) ∧ (¬ (5 : Int32) ≤ l0 → Q (some (.int (6 : Int32))) m))) : yP (xg xs) (d + 1) 334 0 [(0, .int l0)] [] m Q := by
  refine y_st rfl rfl rfl rfl rfl (fun _ _ => rfl) ?_
  refine y_st rfl rfl rfl rfl rfl (fun _ _ => rfl) ?_
  show yP (xg xs) (d + 1) 334 2 [(0, .int l0)] [.int (5 : Int32), .int l0] m Q
  refine y_ige (t := 10) rfl rfl rfl (fun h => ?_) (fun h => ?_)
  · replace H := H.1 h; clear h
    refine y_st rfl rfl rfl rfl rfl (fun _ _ => rfl) ?_
    show yP (xg xs) (d + 1) 334 11 [(0, .int l0)] [.int (3 : Int32)] m Q
    exact y_iret rfl rfl rfl H
  · replace H := H.2 h; clear h
    refine y_st rfl rfl rfl rfl rfl (fun _ _ => rfl) ?_
    refine y_st rfl rfl rfl rfl rfl (fun _ _ => rfl) ?_
    show yP (xg xs) (d + 1) 334 11 [(0, .int l0)] [.int (6 : Int32)] m Q
    exact y_iret rfl rfl rfl H
set_option maxRecDepth 20000 in
/-- CodeMakerModel.placeCell from 0 on -/
theorem w335_0 (xs : List Int32) (d : Nat) (l0 : Int32) (m : yM) (Q : Option Value → yM → Prop) (H : (¬ (256 : Int32) = 0 ∧ (((3 : Int32) ≤ (l0 / (256 : Int32)) → (¬ (256 : Int32) = 0 ∧ Q (some (.int (((768 : Int32) + ((64 : Int32) * ((l0 / (256 : Int32)) - (3 : Int32)))) + (l0 - l0 / (256 : Int32) * (256 : Int32))))) m)) ∧ (¬ (3 : Int32) ≤ (l0 / (256 : Int32)) → Q (some (.int l0)) m)))) : yP (xg xs) (d + 1) 335 0 [(0, .int l0)] [] m Q := by
  refine y_st rfl rfl rfl rfl rfl (fun _ _ => rfl) ?_
  refine y_st rfl rfl rfl rfl rfl (fun _ _ => rfl) ?_
  show yP (xg xs) (d + 1) 335 4 [(0, .int l0)] [.int (256 : Int32), .int l0] m Q
  refine y_idiv rfl rfl H.1 ?_
  replace H := H.2
  refine y_st rfl rfl rfl rfl rfl (fun _ _ => rfl) ?_
  refine y_st rfl rfl rfl rfl rfl (fun _ _ => rfl) ?_
  refine y_st rfl rfl rfl rfl rfl (fun _ _ => rfl) ?_
  show yP (xg xs) (d + 1) 335 8 [(1, .int (l0 / (256 : Int32))), (0, .int l0)] [.int (3 : Int32), .int (l0 / (256 : Int32))] m Q
  refine y_ige (t := 15) rfl rfl rfl (fun h => ?_) (fun h => ?_)
  · replace H := H.1 h; clear h
    refine y_st rfl rfl rfl rfl rfl (fun _ _ => rfl) ?_
    refine y_st rfl rfl rfl rfl rfl (fun _ _ => rfl) ?_
    refine y_st rfl rfl rfl rfl rfl (fun _ _ => rfl) ?_
    refine y_st rfl rfl rfl rfl rfl (fun _ _ => rfl) ?_
    refine y_st rfl rfl rfl rfl rfl (fun _ _ => rfl) ?_
    refine y_st rfl rfl rfl rfl rfl (fun _ _ => rfl) ?_
    refine y_st rfl rfl rfl rfl rfl (fun _ _ => rfl) ?_
    refine y_st rfl rfl rfl rfl rfl (fun _ _ => rfl) ?_
    refine y_st rfl rfl rfl rfl rfl (fun _ _ => rfl) ?_
    show yP (xg xs) (d + 1) 335 29 [(1, .int (l0 / (256 : Int32))), (0, .int l0)] [.int (256 : Int32), .int l0, .int ((768 : Int32) + ((64 : Int32) * ((l0 / (256 : Int32)) - (3 : Int32))))] m Q
    refine y_irem rfl rfl H.1 ?_
    replace H := H.2
    refine y_st rfl rfl rfl rfl rfl (fun _ _ => rfl) ?_
    show yP (xg xs) (d + 1) 335 31 [(1, .int (l0 / (256 : Int32))), (0, .int l0)] [.int (((768 : Int32) + ((64 : Int32) * ((l0 / (256 : Int32)) - (3 : Int32)))) + (l0 - l0 / (256 : Int32) * (256 : Int32)))] m Q
    exact y_iret rfl rfl rfl H
  · replace H := H.2 h; clear h
    refine y_st rfl rfl rfl rfl rfl (fun _ _ => rfl) ?_
    refine y_st rfl rfl rfl rfl rfl (fun _ _ => rfl) ?_
    show yP (xg xs) (d + 1) 335 31 [(1, .int (l0 / (256 : Int32))), (0, .int l0)] [.int l0] m Q
    exact y_iret rfl rfl rfl H
set_option maxRecDepth 20000 in
/-- CodeMakerModel.judgeName from 0 on -/
theorem w336_0 (xs : List Int32) (d : Nat) (l1 : Int32) (m : yM) (Q : Option Value → yM → Prop) (H : (x_in l1 20000 = true ∧ (x_in l1 20000 = true ∧ (x_in (m.1 65 l1.toNatClampNeg) 20000 = true ∧ ((¬ (m.1 62 ((m.1 65 l1.toNatClampNeg).toNatClampNeg)) = (33 : Int32) → (((m.1 62 ((m.1 65 l1.toNatClampNeg).toNatClampNeg)) = (5 : Int32) → (yC (xg xs) d 337 [.ref 58, .int (m.1 64 l1.toNatClampNeg)] m (fun v1 m1 => ∃ u1, v1 = some (Value.int u1) ∧ ((¬ u1 = ((-1) : Int32) → yP (xg xs) (d + 1) 336 146 [(0, .ref 58), (1, .int l1), (2, .int (m.1 64 l1.toNatClampNeg))] [] m1 Q) ∧ (u1 = ((-1) : Int32) → (yC (xg xs) d 324 [.ref 58, .int (m.1 64 l1.toNatClampNeg)] m1 (fun v2 m2 => ∃ u2, v2 = some (Value.int u2) ∧ ((u2 = 0 → yP (xg xs) (d + 1) 336 151 [(0, .ref 58), (1, .int l1), (2, .int (m.1 64 l1.toNatClampNeg))] [.int (0 : Int32)] m2 Q) ∧ (¬ u2 = 0 → yP (xg xs) (d + 1) 336 146 [(0, .ref 58), (1, .int l1), (2, .int (m.1 64 l1.toNatClampNeg))] [] m2 Q))))))))) ∧ (¬ (m.1 62 ((m.1 65 l1.toNatClampNeg).toNatClampNeg)) = (5 : Int32) → (x_in l1 20000 = true ∧ (yC (xg xs) d 337 [.ref 58, .int (m.1 64 l1.toNatClampNeg)] (y_si m 84 l1.toNatClampNeg ((-1) : Int32)) (fun v3 m3 => ∃ u3, v3 = some (Value.int u3) ∧ (x_in l1 20000 = true ∧ (x_in l1 20000 = true ∧ ((¬ ((y_si m3 85 l1.toNatClampNeg u3).1 85 l1.toNatClampNeg) = ((-1) : Int32) → yP (xg xs) (d + 1) 336 67 [(0, .ref 58), (1, .int l1)] [.int (0 : Int32), .int (20 : Int32), .ref 58] (y_si m3 85 l1.toNatClampNeg u3) Q) ∧ (((y_si m3 85 l1.toNatClampNeg u3).1 85 l1.toNatClampNeg) = ((-1) : Int32) → yP (xg xs) (d + 1) 336 67 [(0, .ref 58), (1, .int l1)] [.int (1 : Int32), .int (20 : Int32), .ref 58] (y_si m3 85 l1.toNatClampNeg u3) Q)))))))))) ∧ ((m.1 62 ((m.1 65 l1.toNatClampNeg).toNatClampNeg)) = (33 : Int32) → Q none m)))))) : yP (xg xs) (d + 1) 336 0 [(0, .ref 58), (1, .int l1)] [] m Q := by
  refine y_st rfl rfl rfl rfl rfl (fun _ _ => rfl) ?_
  refine y_gf rfl rfl rfl rfl rfl ?_
  refine y_st rfl rfl rfl rfl rfl (fun _ _ => rfl) ?_
  show yP (xg xs) (d + 1) 336 5 [(0, .ref 58), (1, .int l1)] [.int l1, .ref 64] m Q
  refine y_iald rfl rfl rfl (H.1) ?_
  replace H := H.2
  refine y_st rfl rfl rfl rfl rfl (fun _ _ => rfl) ?_
  refine y_st rfl rfl rfl rfl rfl (fun _ _ => rfl) ?_
  refine y_gf rfl rfl rfl rfl rfl ?_
  refine y_st rfl rfl rfl rfl rfl (fun _ _ => rfl) ?_
  refine y_gf rfl rfl rfl rfl rfl ?_
  refine y_st rfl rfl rfl rfl rfl (fun _ _ => rfl) ?_
  show yP (xg xs) (d + 1) 336 16 [(2, .int (m.1 64 l1.toNatClampNeg)), (0, .ref 58), (1, .int l1)] [.int l1, .ref 65, .ref 62] m Q
  refine y_iald rfl rfl rfl (H.1) ?_
  replace H := H.2
  show yP (xg xs) (d + 1) 336 17 [(2, .int (m.1 64 l1.toNatClampNeg)), (0, .ref 58), (1, .int l1)] [.int (m.1 65 l1.toNatClampNeg), .ref 62] m Q
  refine y_iald rfl rfl rfl (H.1) ?_
  replace H := H.2
  refine y_st rfl rfl rfl rfl rfl (fun _ _ => rfl) ?_
  refine y_st rfl rfl rfl rfl rfl (fun _ _ => rfl) ?_
  refine y_st rfl rfl rfl rfl rfl (fun _ _ => rfl) ?_
  show yP (xg xs) (d + 1) 336 22 [(3, .int (m.1 62 ((m.1 65 l1.toNatClampNeg).toNatClampNeg))), (2, .int (m.1 64 l1.toNatClampNeg)), (0, .ref 58), (1, .int l1)] [.int (33 : Int32), .int (m.1 62 ((m.1 65 l1.toNatClampNeg).toNatClampNeg))] m Q
  refine y_ine (t := 26) rfl rfl rfl (fun h => ?_) (fun h => ?_)
  · replace H := H.1 h; clear h
    refine y_st rfl rfl rfl rfl rfl (fun _ _ => rfl) ?_
    refine y_st rfl rfl rfl rfl rfl (fun _ _ => rfl) ?_
    show yP (xg xs) (d + 1) 336 28 [(3, .int (m.1 62 ((m.1 65 l1.toNatClampNeg).toNatClampNeg))), (2, .int (m.1 64 l1.toNatClampNeg)), (0, .ref 58), (1, .int l1)] [.int (5 : Int32), .int (m.1 62 ((m.1 65 l1.toNatClampNeg).toNatClampNeg))] m Q
    refine y_ieq (t := 129) rfl rfl rfl (fun h => ?_) (fun h => ?_)
    · replace H := H.1 h; clear h
      refine y_st rfl rfl rfl rfl rfl (fun _ _ => rfl) ?_
      refine y_st rfl rfl rfl rfl rfl (fun _ _ => rfl) ?_
      show yP (xg xs) (d + 1) 336 131 [(3, .int (m.1 62 ((m.1 65 l1.toNatClampNeg).toNatClampNeg))), (2, .int (m.1 64 l1.toNatClampNeg)), (0, .ref 58), (1, .int l1)] [.int (m.1 64 l1.toNatClampNeg), .ref 58] m Q
      refine y_call rfl rfl rfl rfl rfl (Nat.le_of_ble_eq_true rfl) (Nat.le_of_ble_eq_true rfl) rfl (by decide) H (fun v1 m1 H => ?_)
      obtain ⟨u1, rfl, H⟩ := H
      refine y_st rfl rfl rfl rfl rfl (fun _ _ => rfl) ?_
      show yP (xg xs) (d + 1) 336 135 [(3, .int (m.1 62 ((m.1 65 l1.toNatClampNeg).toNatClampNeg))), (2, .int (m.1 64 l1.toNatClampNeg)), (0, .ref 58), (1, .int l1)] [.int ((-1) : Int32), .int u1] m1 Q
      refine y_ine (t := 146) rfl rfl rfl (fun h => ?_) (fun h => ?_)
      · replace H := H.1 h; clear h
        show yP (xg xs) (d + 1) 336 146 [(3, .int (m.1 62 ((m.1 65 l1.toNatClampNeg).toNatClampNeg))), (2, .int (m.1 64 l1.toNatClampNeg)), (0, .ref 58), (1, .int l1)] [] m1 Q
        refine y_headS (l2 := [(0, .ref 58), (1, .int l1), (2, .int (m.1 64 l1.toNatClampNeg))]) [2, 3, 1] [0, 1, 2] [3, 2, 0, 1] rfl rfl (by decide) rfl (by decide) ?_
        exact H
      · replace H := H.2 h; clear h
        refine y_st rfl rfl rfl rfl rfl (fun _ _ => rfl) ?_
        refine y_st rfl rfl rfl rfl rfl (fun _ _ => rfl) ?_
        show yP (xg xs) (d + 1) 336 140 [(3, .int (m.1 62 ((m.1 65 l1.toNatClampNeg).toNatClampNeg))), (2, .int (m.1 64 l1.toNatClampNeg)), (0, .ref 58), (1, .int l1)] [.int (m.1 64 l1.toNatClampNeg), .ref 58] m1 Q
        refine y_call rfl rfl rfl rfl rfl (Nat.le_of_ble_eq_true rfl) (Nat.le_of_ble_eq_true rfl) rfl (by decide) H (fun v2 m2 H => ?_)
        obtain ⟨u2, rfl, H⟩ := H
        show yP (xg xs) (d + 1) 336 143 [(3, .int (m.1 62 ((m.1 65 l1.toNatClampNeg).toNatClampNeg))), (2, .int (m.1 64 l1.toNatClampNeg)), (0, .ref 58), (1, .int l1)] [.int u2] m2 Q
        refine y_zeq (t := 150) rfl rfl rfl (fun h => ?_) (fun h => ?_)
        · replace H := H.1 h; clear h
          refine y_st rfl rfl rfl rfl rfl (fun _ _ => rfl) ?_
          show yP (xg xs) (d + 1) 336 151 [(3, .int (m.1 62 ((m.1 65 l1.toNatClampNeg).toNatClampNeg))), (2, .int (m.1 64 l1.toNatClampNeg)), (0, .ref 58), (1, .int l1)] [.int (0 : Int32)] m2 Q
          refine y_headS (l2 := [(0, .ref 58), (1, .int l1), (2, .int (m.1 64 l1.toNatClampNeg))]) [2, 3, 1] [0, 1, 2] [3, 2, 0, 1] rfl rfl (by decide) rfl (by decide) ?_
          exact H
        · replace H := H.2 h; clear h
          show yP (xg xs) (d + 1) 336 146 [(3, .int (m.1 62 ((m.1 65 l1.toNatClampNeg).toNatClampNeg))), (2, .int (m.1 64 l1.toNatClampNeg)), (0, .ref 58), (1, .int l1)] [] m2 Q
          refine y_headS (l2 := [(0, .ref 58), (1, .int l1), (2, .int (m.1 64 l1.toNatClampNeg))]) [2, 3, 1] [0, 1, 2] [3, 2, 0, 1] rfl rfl (by decide) rfl (by decide) ?_
          exact H
    · replace H := H.2 h; clear h
      refine y_st rfl rfl rfl rfl rfl (fun _ _ => rfl) ?_
      refine y_gf rfl rfl rfl rfl rfl ?_
      refine y_st rfl rfl rfl rfl rfl (fun _ _ => rfl) ?_
      refine y_st rfl rfl rfl rfl rfl (fun _ _ => rfl) ?_
      show yP (xg xs) (d + 1) 336 37 [(3, .int (m.1 62 ((m.1 65 l1.toNatClampNeg).toNatClampNeg))), (2, .int (m.1 64 l1.toNatClampNeg)), (0, .ref 58), (1, .int l1)] [.int ((-1) : Int32), .int l1, .ref 84] m Q
      refine y_iast rfl rfl rfl (H.1) ?_
      replace H := H.2
      refine y_st rfl rfl rfl rfl rfl (fun _ _ => rfl) ?_
      refine y_gf rfl rfl rfl rfl rfl ?_
      refine y_st rfl rfl rfl rfl rfl (fun _ _ => rfl) ?_
      refine y_st rfl rfl rfl rfl rfl (fun _ _ => rfl) ?_
      refine y_st rfl rfl rfl rfl rfl (fun _ _ => rfl) ?_
      show yP (xg xs) (d + 1) 336 45 [(3, .int (m.1 62 ((m.1 65 l1.toNatClampNeg).toNatClampNeg))), (2, .int (m.1 64 l1.toNatClampNeg)), (0, .ref 58), (1, .int l1)] [.int (m.1 64 l1.toNatClampNeg), .ref 58, .int l1, .ref 85] (y_si m 84 l1.toNatClampNeg ((-1) : Int32)) Q
      refine y_call rfl rfl rfl rfl rfl (Nat.le_of_ble_eq_true rfl) (Nat.le_of_ble_eq_true rfl) rfl (by decide) H (fun v3 m3 H => ?_)
      obtain ⟨u3, rfl, H⟩ := H
      show yP (xg xs) (d + 1) 336 48 [(3, .int (m.1 62 ((m.1 65 l1.toNatClampNeg).toNatClampNeg))), (2, .int (m.1 64 l1.toNatClampNeg)), (0, .ref 58), (1, .int l1)] [.int u3, .int l1, .ref 85] m3 Q
      refine y_iast rfl rfl rfl (H.1) ?_
      replace H := H.2
      refine y_st rfl rfl rfl rfl rfl (fun _ _ => rfl) ?_
      refine y_st rfl rfl rfl rfl rfl (fun _ _ => rfl) ?_
      refine y_st rfl rfl rfl rfl rfl (fun _ _ => rfl) ?_
      refine y_gf rfl rfl rfl rfl rfl ?_
      refine y_st rfl rfl rfl rfl rfl (fun _ _ => rfl) ?_
      show yP (xg xs) (d + 1) 336 57 [(3, .int (m.1 62 ((m.1 65 l1.toNatClampNeg).toNatClampNeg))), (2, .int (m.1 64 l1.toNatClampNeg)), (0, .ref 58), (1, .int l1)] [.int l1, .ref 85, .int (20 : Int32), .ref 58] (y_si m3 85 l1.toNatClampNeg u3) Q
      refine y_iald rfl rfl rfl (H.1) ?_
      replace H := H.2
      refine y_st rfl rfl rfl rfl rfl (fun _ _ => rfl) ?_
      show yP (xg xs) (d + 1) 336 59 [(3, .int (m.1 62 ((m.1 65 l1.toNatClampNeg).toNatClampNeg))), (2, .int (m.1 64 l1.toNatClampNeg)), (0, .ref 58), (1, .int l1)] [.int ((-1) : Int32), .int ((y_si m3 85 l1.toNatClampNeg u3).1 85 l1.toNatClampNeg), .int (20 : Int32), .ref 58] (y_si m3 85 l1.toNatClampNeg u3) Q
      refine y_ine (t := 66) rfl rfl rfl (fun h => ?_) (fun h => ?_)
      · replace H := H.1 h; clear h
        refine y_st rfl rfl rfl rfl rfl (fun _ _ => rfl) ?_
        show yP (xg xs) (d + 1) 336 67 [(3, .int (m.1 62 ((m.1 65 l1.toNatClampNeg).toNatClampNeg))), (2, .int (m.1 64 l1.toNatClampNeg)), (0, .ref 58), (1, .int l1)] [.int (0 : Int32), .int (20 : Int32), .ref 58] (y_si m3 85 l1.toNatClampNeg u3) Q
        refine y_headS (l2 := [(0, .ref 58), (1, .int l1)]) [2, 3] [0, 1] [3, 2, 0, 1] rfl rfl (by decide) rfl (by decide) ?_
        exact H
      · replace H := H.2 h; clear h
        refine y_st rfl rfl rfl rfl rfl (fun _ _ => rfl) ?_
        refine y_st rfl rfl rfl rfl rfl (fun _ _ => rfl) ?_
        show yP (xg xs) (d + 1) 336 67 [(3, .int (m.1 62 ((m.1 65 l1.toNatClampNeg).toNatClampNeg))), (2, .int (m.1 64 l1.toNatClampNeg)), (0, .ref 58), (1, .int l1)] [.int (1 : Int32), .int (20 : Int32), .ref 58] (y_si m3 85 l1.toNatClampNeg u3) Q
        refine y_headS (l2 := [(0, .ref 58), (1, .int l1)]) [2, 3] [0, 1] [3, 2, 0, 1] rfl rfl (by decide) rfl (by decide) ?_
        exact H
  · replace H := H.2 h; clear h
    show yP (xg xs) (d + 1) 336 25 [(3, .int (m.1 62 ((m.1 65 l1.toNatClampNeg).toNatClampNeg))), (2, .int (m.1 64 l1.toNatClampNeg)), (0, .ref 58), (1, .int l1)] [] m Q
    exact y_ret rfl rfl rfl rfl H
set_option maxRecDepth 20000 in
/-- CodeMakerModel.judgeName from 67 on -/
theorem w336_67 (xs : List Int32) (d : Nat) (l1 : Int32) (s1 : Int32) (s2 : Int32) (m : yM) (Q : Option Value → yM → Prop) (H : (yC (xg xs) d 323 [.ref 58, .int s1, .int s2, .int l1] m (fun v1 m1 => v1 = none ∧ ((¬ (m1.1 58 3) = 0 → Q none m1) ∧ ((m1.1 58 3) = 0 → (x_in l1 20000 = true ∧ (x_in (m1.1 85 l1.toNatClampNeg) 4700 = true ∧ (((m1.1 76 ((m1.1 85 l1.toNatClampNeg).toNatClampNeg)) = 0 → yP (xg xs) (d + 1) 336 100 [(0, .ref 58), (1, .int l1)] [.int (0 : Int32), .int (21 : Int32), .ref 58] m1 Q) ∧ (¬ (m1.1 76 ((m1.1 85 l1.toNatClampNeg).toNatClampNeg)) = 0 → yP (xg xs) (d + 1) 336 100 [(0, .ref 58), (1, .int l1)] [.int (1 : Int32), .int (21 : Int32), .ref 58] m1 Q))))))))) : yP (xg xs) (d + 1) 336 67 [(0, .ref 58), (1, .int l1)] [.int s2, .int s1, .ref 58] m Q := by
  refine y_st rfl rfl rfl rfl rfl (fun _ _ => rfl) ?_
  show yP (xg xs) (d + 1) 336 68 [(0, .ref 58), (1, .int l1)] [.int l1, .int s2, .int s1, .ref 58] m Q
  refine y_call rfl rfl rfl rfl rfl (Nat.le_of_ble_eq_true rfl) (Nat.le_of_ble_eq_true rfl) rfl (by decide) H (fun v1 m1 H => ?_)
  obtain ⟨rfl, H⟩ := H
  refine y_st rfl rfl rfl rfl rfl (fun _ _ => rfl) ?_
  refine y_gf rfl rfl rfl rfl rfl ?_
  show yP (xg xs) (d + 1) 336 75 [(0, .ref 58), (1, .int l1)] [.int (m1.1 58 3)] m1 Q
  refine y_zne (t := 128) rfl rfl rfl (fun h => ?_) (fun h => ?_)
  · replace H := H.1 h; clear h
    show yP (xg xs) (d + 1) 336 128 [(0, .ref 58), (1, .int l1)] [] m1 Q
    exact y_ret rfl rfl rfl rfl H
  · replace H := H.2 h; clear h
    refine y_st rfl rfl rfl rfl rfl (fun _ _ => rfl) ?_
    refine y_st rfl rfl rfl rfl rfl (fun _ _ => rfl) ?_
    refine y_st rfl rfl rfl rfl rfl (fun _ _ => rfl) ?_
    refine y_gf rfl rfl rfl rfl rfl ?_
    refine y_st rfl rfl rfl rfl rfl (fun _ _ => rfl) ?_
    refine y_gf rfl rfl rfl rfl rfl ?_
    refine y_st rfl rfl rfl rfl rfl (fun _ _ => rfl) ?_
    show yP (xg xs) (d + 1) 336 90 [(0, .ref 58), (1, .int l1)] [.int l1, .ref 85, .ref 76, .int (21 : Int32), .ref 58] m1 Q
    refine y_iald rfl rfl rfl (H.1) ?_
    replace H := H.2
    show yP (xg xs) (d + 1) 336 91 [(0, .ref 58), (1, .int l1)] [.int (m1.1 85 l1.toNatClampNeg), .ref 76, .int (21 : Int32), .ref 58] m1 Q
    refine y_iald rfl rfl rfl (H.1) ?_
    replace H := H.2
    show yP (xg xs) (d + 1) 336 92 [(0, .ref 58), (1, .int l1)] [.int (m1.1 76 ((m1.1 85 l1.toNatClampNeg).toNatClampNeg)), .int (21 : Int32), .ref 58] m1 Q
    refine y_zeq (t := 99) rfl rfl rfl (fun h => ?_) (fun h => ?_)
    · replace H := H.1 h; clear h
      refine y_st rfl rfl rfl rfl rfl (fun _ _ => rfl) ?_
      show yP (xg xs) (d + 1) 336 100 [(0, .ref 58), (1, .int l1)] [.int (0 : Int32), .int (21 : Int32), .ref 58] m1 Q
      exact H
    · replace H := H.2 h; clear h
      refine y_st rfl rfl rfl rfl rfl (fun _ _ => rfl) ?_
      refine y_st rfl rfl rfl rfl rfl (fun _ _ => rfl) ?_
      show yP (xg xs) (d + 1) 336 100 [(0, .ref 58), (1, .int l1)] [.int (1 : Int32), .int (21 : Int32), .ref 58] m1 Q
      exact H
set_option maxRecDepth 20000 in
/-- CodeMakerModel.judgeName from 100 on -/
theorem w336_100 (xs : List Int32) (d : Nat) (l1 : Int32) (s1 : Int32) (s2 : Int32) (m : yM) (Q : Option Value → yM → Prop) (H : (yC (xg xs) d 323 [.ref 58, .int s1, .int s2, .int l1] m (fun v1 m1 => v1 = none ∧ (x_in l1 20000 = true ∧ (x_in (m1.1 85 l1.toNatClampNeg) 4700 = true ∧ (x_in l1 20000 = true ∧ (x_in l1 20000 = true ∧ Q none (y_si (y_si m1 84 l1.toNatClampNeg (m1.1 77 ((m1.1 85 l1.toNatClampNeg).toNatClampNeg))) 87 l1.toNatClampNeg (vp_nar .boolean (0 : Int32)))))))))) : yP (xg xs) (d + 1) 336 100 [(0, .ref 58), (1, .int l1)] [.int s2, .int s1, .ref 58] m Q := by
  refine y_st rfl rfl rfl rfl rfl (fun _ _ => rfl) ?_
  show yP (xg xs) (d + 1) 336 101 [(0, .ref 58), (1, .int l1)] [.int l1, .int s2, .int s1, .ref 58] m Q
  refine y_call rfl rfl rfl rfl rfl (Nat.le_of_ble_eq_true rfl) (Nat.le_of_ble_eq_true rfl) rfl (by decide) H (fun v1 m1 H => ?_)
  obtain ⟨rfl, H⟩ := H
  refine y_st rfl rfl rfl rfl rfl (fun _ _ => rfl) ?_
  refine y_gf rfl rfl rfl rfl rfl ?_
  refine y_st rfl rfl rfl rfl rfl (fun _ _ => rfl) ?_
  refine y_st rfl rfl rfl rfl rfl (fun _ _ => rfl) ?_
  refine y_gf rfl rfl rfl rfl rfl ?_
  refine y_st rfl rfl rfl rfl rfl (fun _ _ => rfl) ?_
  refine y_gf rfl rfl rfl rfl rfl ?_
  refine y_st rfl rfl rfl rfl rfl (fun _ _ => rfl) ?_
  show yP (xg xs) (d + 1) 336 118 [(0, .ref 58), (1, .int l1)] [.int l1, .ref 85, .ref 77, .int l1, .ref 84] m1 Q
  refine y_iald rfl rfl rfl (H.1) ?_
  replace H := H.2
  show yP (xg xs) (d + 1) 336 119 [(0, .ref 58), (1, .int l1)] [.int (m1.1 85 l1.toNatClampNeg), .ref 77, .int l1, .ref 84] m1 Q
  refine y_iald rfl rfl rfl (H.1) ?_
  replace H := H.2
  show yP (xg xs) (d + 1) 336 120 [(0, .ref 58), (1, .int l1)] [.int (m1.1 77 ((m1.1 85 l1.toNatClampNeg).toNatClampNeg)), .int l1, .ref 84] m1 Q
  refine y_iast rfl rfl rfl (H.1) ?_
  replace H := H.2
  refine y_st rfl rfl rfl rfl rfl (fun _ _ => rfl) ?_
  refine y_gf rfl rfl rfl rfl rfl ?_
  refine y_st rfl rfl rfl rfl rfl (fun _ _ => rfl) ?_
  refine y_st rfl rfl rfl rfl rfl (fun _ _ => rfl) ?_
  show yP (xg xs) (d + 1) 336 127 [(0, .ref 58), (1, .int l1)] [.int (0 : Int32), .int l1, .ref 87] (y_si m1 84 l1.toNatClampNeg (m1.1 77 ((m1.1 85 l1.toNatClampNeg).toNatClampNeg))) Q
  refine y_zast rfl rfl rfl (H.1) ?_
  replace H := H.2
  show yP (xg xs) (d + 1) 336 128 [(0, .ref 58), (1, .int l1)] [] (y_si (y_si m1 84 l1.toNatClampNeg (m1.1 77 ((m1.1 85 l1.toNatClampNeg).toNatClampNeg))) 87 l1.toNatClampNeg (vp_nar .boolean (0 : Int32))) Q
  exact y_ret rfl rfl rfl rfl H
set_option maxRecDepth 20000 in
/-- CodeMakerModel.judgeName from 146 on -/
theorem w336_146 (xs : List Int32) (d : Nat) (l1 : Int32) (l2 : Int32) (m : yM) (Q : Option Value → yM → Prop) (H : yP (xg xs) (d + 1) 336 151 [(0, .ref 58), (1, .int l1), (2, .int l2)] [.int (1 : Int32)] m Q) : yP (xg xs) (d + 1) 336 146 [(0, .ref 58), (1, .int l1), (2, .int l2)] [] m Q := by
  refine y_st rfl rfl rfl rfl rfl (fun _ _ => rfl) ?_
  refine y_st rfl rfl rfl rfl rfl (fun _ _ => rfl) ?_
  show yP (xg xs) (d + 1) 336 151 [(0, .ref 58), (1, .int l1), (2, .int l2)] [.int (1 : Int32)] m Q
  exact H
set_option maxRecDepth 20000 in
/-- CodeMakerModel.judgeName from 151 on -/
theorem w336_151 (xs : List Int32) (d : Nat) (l1 : Int32) (l2 : Int32) (s0 : Int32) (m : yM) (Q : Option Value → yM → Prop) (H : yP (xg xs) (d + 1) 336 156 [(0, .ref 58), (1, .int l1), (2, .int l2), (4, .int s0), (5, .int (0 : Int32))] [] m Q) : yP (xg xs) (d + 1) 336 151 [(0, .ref 58), (1, .int l1), (2, .int l2)] [.int s0] m Q := by
  refine y_st rfl rfl rfl rfl rfl (fun _ _ => rfl) ?_
  refine y_st rfl rfl rfl rfl rfl (fun _ _ => rfl) ?_
  refine y_st rfl rfl rfl rfl rfl (fun _ _ => rfl) ?_
  show yP (xg xs) (d + 1) 336 156 [(5, .int (0 : Int32)), (4, .int s0), (0, .ref 58), (1, .int l1), (2, .int l2)] [] m Q
  refine y_headS (l2 := [(0, .ref 58), (1, .int l1), (2, .int l2), (4, .int s0), (5, .int (0 : Int32))]) [2, 3, 4, 1, 0] [0, 1, 2, 4, 5] [5, 4, 0, 1, 2] rfl rfl (by decide) rfl (by decide) ?_
  exact H
set_option maxRecDepth 20000 in
/-- CodeMakerModel.judgeName from 156 on -/
theorem w336_156 (xs : List Int32) (d : Nat) (l1 : Int32) (l2 : Int32) (l4 : Int32) (l5 : Int32) (m : yM) (Q : Option Value → yM → Prop) (H : (((m.1 58 23) ≤ l5 → (yC (xg xs) d 323 [.ref 58, .int (12 : Int32), .int l4, .int l1] m (fun v1 m1 => v1 = none ∧ ((¬ (m1.1 58 3) = 0 → Q none m1) ∧ ((m1.1 58 3) = 0 → (yC (xg xs) d 326 [.ref 58, .int l2] m1 (fun v2 m2 => ∃ u2, v2 = some (Value.int u2) ∧ (x_in l1 20000 = true ∧ (x_in (m2.1 65 l1.toNatClampNeg) 20000 = true ∧ (x_in (m2.1 65 ((m2.1 65 l1.toNatClampNeg).toNatClampNeg)) 20000 = true ∧ (x_in u2 4700 = true ∧ Q none (y_si m2 81 u2.toNatClampNeg (m2.1 64 ((m2.1 65 ((m2.1 65 l1.toNatClampNeg).toNatClampNeg)).toNatClampNeg)))))))))))))) ∧ (¬ (m.1 58 23) ≤ l5 → ((¬ l4 = 0 → yP (xg xs) (d + 1) 336 181 [(0, .ref 58), (1, .int l1), (2, .int l2), (5, .int l5)] [] m Q) ∧ (l4 = 0 → (x_in l5 400 = true ∧ ((¬ (m.1 71 l5.toNatClampNeg) = l2 → yP (xg xs) (d + 1) 336 186 [(0, .ref 58), (1, .int l1), (2, .int l2), (5, .int l5)] [.int (0 : Int32)] m Q) ∧ ((m.1 71 l5.toNatClampNeg) = l2 → yP (xg xs) (d + 1) 336 181 [(0, .ref 58), (1, .int l1), (2, .int l2), (5, .int l5)] [] m Q)))))))) : yP (xg xs) (d + 1) 336 156 [(0, .ref 58), (1, .int l1), (2, .int l2), (4, .int l4), (5, .int l5)] [] m Q := by
  refine y_st rfl rfl rfl rfl rfl (fun _ _ => rfl) ?_
  refine y_st rfl rfl rfl rfl rfl (fun _ _ => rfl) ?_
  refine y_gf rfl rfl rfl rfl rfl ?_
  show yP (xg xs) (d + 1) 336 162 [(0, .ref 58), (1, .int l1), (2, .int l2), (4, .int l4), (5, .int l5)] [.int (m.1 58 23), .int l5] m Q
  refine y_ige (t := 194) rfl rfl rfl (fun h => ?_) (fun h => ?_)
  · replace H := H.1 h; clear h
    refine y_st rfl rfl rfl rfl rfl (fun _ _ => rfl) ?_
    refine y_st rfl rfl rfl rfl rfl (fun _ _ => rfl) ?_
    refine y_st rfl rfl rfl rfl rfl (fun _ _ => rfl) ?_
    refine y_st rfl rfl rfl rfl rfl (fun _ _ => rfl) ?_
    show yP (xg xs) (d + 1) 336 200 [(0, .ref 58), (1, .int l1), (2, .int l2), (4, .int l4), (5, .int l5)] [.int l1, .int l4, .int (12 : Int32), .ref 58] m Q
    refine y_call rfl rfl rfl rfl rfl (Nat.le_of_ble_eq_true rfl) (Nat.le_of_ble_eq_true rfl) rfl (by decide) H (fun v1 m1 H => ?_)
    obtain ⟨rfl, H⟩ := H
    refine y_st rfl rfl rfl rfl rfl (fun _ _ => rfl) ?_
    refine y_gf rfl rfl rfl rfl rfl ?_
    show yP (xg xs) (d + 1) 336 207 [(0, .ref 58), (1, .int l1), (2, .int l2), (4, .int l4), (5, .int l5)] [.int (m1.1 58 3)] m1 Q
    refine y_zne (t := 240) rfl rfl rfl (fun h => ?_) (fun h => ?_)
    · replace H := H.1 h; clear h
      show yP (xg xs) (d + 1) 336 240 [(0, .ref 58), (1, .int l1), (2, .int l2), (4, .int l4), (5, .int l5)] [] m1 Q
      exact y_ret rfl rfl rfl rfl H
    · replace H := H.2 h; clear h
      refine y_st rfl rfl rfl rfl rfl (fun _ _ => rfl) ?_
      refine y_st rfl rfl rfl rfl rfl (fun _ _ => rfl) ?_
      show yP (xg xs) (d + 1) 336 212 [(0, .ref 58), (1, .int l1), (2, .int l2), (4, .int l4), (5, .int l5)] [.int l2, .ref 58] m1 Q
      refine y_call rfl rfl rfl rfl rfl (Nat.le_of_ble_eq_true rfl) (Nat.le_of_ble_eq_true rfl) rfl (by decide) H (fun v2 m2 H => ?_)
      obtain ⟨u2, rfl, H⟩ := H
      refine y_st rfl rfl rfl rfl rfl (fun _ _ => rfl) ?_
      refine y_st rfl rfl rfl rfl rfl (fun _ _ => rfl) ?_
      refine y_gf rfl rfl rfl rfl rfl ?_
      refine y_st rfl rfl rfl rfl rfl (fun _ _ => rfl) ?_
      refine y_st rfl rfl rfl rfl rfl (fun _ _ => rfl) ?_
      refine y_gf rfl rfl rfl rfl rfl ?_
      refine y_st rfl rfl rfl rfl rfl (fun _ _ => rfl) ?_
      refine y_gf rfl rfl rfl rfl rfl ?_
      refine y_st rfl rfl rfl rfl rfl (fun _ _ => rfl) ?_
      refine y_gf rfl rfl rfl rfl rfl ?_
      refine y_st rfl rfl rfl rfl rfl (fun _ _ => rfl) ?_
      show yP (xg xs) (d + 1) 336 236 [(5, .int u2), (0, .ref 58), (1, .int l1), (2, .int l2), (4, .int l4)] [.int l1, .ref 65, .ref 65, .ref 64, .int u2, .ref 81] m2 Q
      refine y_iald rfl rfl rfl (H.1) ?_
      replace H := H.2
      show yP (xg xs) (d + 1) 336 237 [(5, .int u2), (0, .ref 58), (1, .int l1), (2, .int l2), (4, .int l4)] [.int (m2.1 65 l1.toNatClampNeg), .ref 65, .ref 64, .int u2, .ref 81] m2 Q
      refine y_iald rfl rfl rfl (H.1) ?_
      replace H := H.2
      show yP (xg xs) (d + 1) 336 238 [(5, .int u2), (0, .ref 58), (1, .int l1), (2, .int l2), (4, .int l4)] [.int (m2.1 65 ((m2.1 65 l1.toNatClampNeg).toNatClampNeg)), .ref 64, .int u2, .ref 81] m2 Q
      refine y_iald rfl rfl rfl (H.1) ?_
      replace H := H.2
      show yP (xg xs) (d + 1) 336 239 [(5, .int u2), (0, .ref 58), (1, .int l1), (2, .int l2), (4, .int l4)] [.int (m2.1 64 ((m2.1 65 ((m2.1 65 l1.toNatClampNeg).toNatClampNeg)).toNatClampNeg)), .int u2, .ref 81] m2 Q
      refine y_iast rfl rfl rfl (H.1) ?_
      replace H := H.2
      show yP (xg xs) (d + 1) 336 240 [(5, .int u2), (0, .ref 58), (1, .int l1), (2, .int l2), (4, .int l4)] [] (y_si m2 81 u2.toNatClampNeg (m2.1 64 ((m2.1 65 ((m2.1 65 l1.toNatClampNeg).toNatClampNeg)).toNatClampNeg))) Q
      exact y_ret rfl rfl rfl rfl H
  · replace H := H.2 h; clear h
    refine y_st rfl rfl rfl rfl rfl (fun _ _ => rfl) ?_
    show yP (xg xs) (d + 1) 336 167 [(0, .ref 58), (1, .int l1), (2, .int l2), (4, .int l4), (5, .int l5)] [.int l4] m Q
    refine y_zne (t := 181) rfl rfl rfl (fun h => ?_) (fun h => ?_)
    · replace H := H.1 h; clear h
      show yP (xg xs) (d + 1) 336 181 [(0, .ref 58), (1, .int l1), (2, .int l2), (4, .int l4), (5, .int l5)] [] m Q
      refine y_headS (l2 := [(0, .ref 58), (1, .int l1), (2, .int l2), (5, .int l5)]) [0, 1, 2, 4] [0, 1, 2, 5] [0, 1, 2, 4, 5] rfl rfl (by decide) rfl (by decide) ?_
      exact H
    · replace H := H.2 h; clear h
      refine y_st rfl rfl rfl rfl rfl (fun _ _ => rfl) ?_
      refine y_gf rfl rfl rfl rfl rfl ?_
      refine y_st rfl rfl rfl rfl rfl (fun _ _ => rfl) ?_
      show yP (xg xs) (d + 1) 336 176 [(0, .ref 58), (1, .int l1), (2, .int l2), (4, .int l4), (5, .int l5)] [.int l5, .ref 71] m Q
      refine y_iald rfl rfl rfl (H.1) ?_
      replace H := H.2
      refine y_st rfl rfl rfl rfl rfl (fun _ _ => rfl) ?_
      show yP (xg xs) (d + 1) 336 178 [(0, .ref 58), (1, .int l1), (2, .int l2), (4, .int l4), (5, .int l5)] [.int l2, .int (m.1 71 l5.toNatClampNeg)] m Q
      refine y_ine (t := 185) rfl rfl rfl (fun h => ?_) (fun h => ?_)
      · replace H := H.1 h; clear h
        refine y_st rfl rfl rfl rfl rfl (fun _ _ => rfl) ?_
        show yP (xg xs) (d + 1) 336 186 [(0, .ref 58), (1, .int l1), (2, .int l2), (4, .int l4), (5, .int l5)] [.int (0 : Int32)] m Q
        refine y_headS (l2 := [(0, .ref 58), (1, .int l1), (2, .int l2), (5, .int l5)]) [0, 1, 2, 4] [0, 1, 2, 5] [0, 1, 2, 4, 5] rfl rfl (by decide) rfl (by decide) ?_
        exact H
      · replace H := H.2 h; clear h
        show yP (xg xs) (d + 1) 336 181 [(0, .ref 58), (1, .int l1), (2, .int l2), (4, .int l4), (5, .int l5)] [] m Q
        refine y_headS (l2 := [(0, .ref 58), (1, .int l1), (2, .int l2), (5, .int l5)]) [0, 1, 2, 4] [0, 1, 2, 5] [0, 1, 2, 4, 5] rfl rfl (by decide) rfl (by decide) ?_
        exact H
set_option maxRecDepth 20000 in
/-- CodeMakerModel.judgeName from 181 on -/
theorem w336_181 (xs : List Int32) (d : Nat) (l1 : Int32) (l2 : Int32) (l5 : Int32) (m : yM) (Q : Option Value → yM → Prop) (H : yP (xg xs) (d + 1) 336 186 [(0, .ref 58), (1, .int l1), (2, .int l2), (5, .int l5)] [.int (1 : Int32)] m Q) : yP (xg xs) (d + 1) 336 181 [(0, .ref 58), (1, .int l1), (2, .int l2), (5, .int l5)] [] m Q := by
  refine y_st rfl rfl rfl rfl rfl (fun _ _ => rfl) ?_
  refine y_st rfl rfl rfl rfl rfl (fun _ _ => rfl) ?_
  show yP (xg xs) (d + 1) 336 186 [(0, .ref 58), (1, .int l1), (2, .int l2), (5, .int l5)] [.int (1 : Int32)] m Q
  exact H
set_option maxRecDepth 20000 in
/-- CodeMakerModel.judgeName from 186 on -/
theorem w336_186 (xs : List Int32) (d : Nat) (l1 : Int32) (l2 : Int32) (l5 : Int32) (s0 : Int32) (m : yM) (Q : Option Value → yM → Prop) (H : yP (xg xs) (d + 1) 336 156 [(0, .ref 58), (1, .int l1), (2, .int l2), (4, .int s0), (5, .int (l5 + (1 : Int32)))] [] m Q) : yP (xg xs) (d + 1) 336 186 [(0, .ref 58), (1, .int l1), (2, .int l2), (5, .int l5)] [.int s0] m Q := by
  refine y_st rfl rfl rfl rfl rfl (fun _ _ => rfl) ?_
  refine y_st rfl rfl rfl rfl rfl (fun _ _ => rfl) ?_
  refine y_st rfl rfl rfl rfl rfl (fun _ _ => rfl) ?_
  show yP (xg xs) (d + 1) 336 156 [(5, .int (l5 + (1 : Int32))), (4, .int s0), (0, .ref 58), (1, .int l1), (2, .int l2)] [] m Q
  refine y_headS (l2 := [(0, .ref 58), (1, .int l1), (2, .int l2), (4, .int s0), (5, .int (l5 + (1 : Int32)))]) [2, 3, 4, 1, 0] [0, 1, 2, 4, 5] [5, 4, 0, 1, 2] rfl rfl (by decide) rfl (by decide) ?_
  exact H
set_option maxRecDepth 20000 in
/-- CodeMakerModel.variable from 0 on -/
theorem w337_0 (xs : List Int32) (d : Nat) (l1 : Int32) (m : yM) (Q : Option Value → yM → Prop) (H : (yC (xg xs) d 338 [.ref 58, .int ((m.1 58 23) - (1 : Int32)), .int l1] m (fun v1 m1 => ∃ u1, v1 = some (Value.int u1) ∧ Q (some (.int u1)) m1))) : yP (xg xs) (d + 1) 337 0 [(0, .ref 58), (1, .int l1)] [] m Q := by
  refine y_st rfl rfl rfl rfl rfl (fun _ _ => rfl) ?_
  refine y_st rfl rfl rfl rfl rfl (fun _ _ => rfl) ?_
  refine y_gf rfl rfl rfl rfl rfl ?_
  refine y_st rfl rfl rfl rfl rfl (fun _ _ => rfl) ?_
  refine y_st rfl rfl rfl rfl rfl (fun _ _ => rfl) ?_
  refine y_st rfl rfl rfl rfl rfl (fun _ _ => rfl) ?_
  show yP (xg xs) (d + 1) 337 8 [(0, .ref 58), (1, .int l1)] [.int l1, .int ((m.1 58 23) - (1 : Int32)), .ref 58] m Q
  refine y_call rfl rfl rfl rfl rfl (Nat.le_of_ble_eq_true rfl) (Nat.le_of_ble_eq_true rfl) rfl (by decide) H (fun v1 m1 H => ?_)
  obtain ⟨u1, rfl, H⟩ := H
  show yP (xg xs) (d + 1) 337 11 [(0, .ref 58), (1, .int l1)] [.int u1] m1 Q
  exact y_iret rfl rfl rfl H
set_option maxRecDepth 20000 in
/-- CodeMakerModel.variableOf from 0 on -/
theorem w338_0 (xs : List Int32) (d : Nat) (l1 : Int32) (l2 : Int32) (m : yM) (Q : Option Value → yM → Prop) (H : ((¬ l1 = ((m.1 58 23) - (1 : Int32)) → (x_in (l1 + (1 : Int32)) 401 = true ∧ yP (xg xs) (d + 1) 338 25 [(0, .ref 58), (1, .int l1), (2, .int l2)] [.int (m.1 73 ((l1 + (1 : Int32)).toNatClampNeg))] m Q)) ∧ (l1 = ((m.1 58 23) - (1 : Int32)) → yP (xg xs) (d + 1) 338 25 [(0, .ref 58), (1, .int l1), (2, .int l2)] [.int (m.1 58 30)] m Q))) : yP (xg xs) (d + 1) 338 0 [(0, .ref 58), (1, .int l1), (2, .int l2)] [] m Q := by
  refine y_st rfl rfl rfl rfl rfl (fun _ _ => rfl) ?_
  refine y_st rfl rfl rfl rfl rfl (fun _ _ => rfl) ?_
  refine y_gf rfl rfl rfl rfl rfl ?_
  refine y_st rfl rfl rfl rfl rfl (fun _ _ => rfl) ?_
  refine y_st rfl rfl rfl rfl rfl (fun _ _ => rfl) ?_
  show yP (xg xs) (d + 1) 338 7 [(0, .ref 58), (1, .int l1), (2, .int l2)] [.int ((m.1 58 23) - (1 : Int32)), .int l1] m Q
  refine y_ine (t := 17) rfl rfl rfl (fun h => ?_) (fun h => ?_)
  · replace H := H.1 h; clear h
    refine y_st rfl rfl rfl rfl rfl (fun _ _ => rfl) ?_
    refine y_gf rfl rfl rfl rfl rfl ?_
    refine y_st rfl rfl rfl rfl rfl (fun _ _ => rfl) ?_
    refine y_st rfl rfl rfl rfl rfl (fun _ _ => rfl) ?_
    refine y_st rfl rfl rfl rfl rfl (fun _ _ => rfl) ?_
    show yP (xg xs) (d + 1) 338 24 [(0, .ref 58), (1, .int l1), (2, .int l2)] [.int (l1 + (1 : Int32)), .ref 73] m Q
    refine y_iald rfl rfl rfl (H.1) ?_
    replace H := H.2
    show yP (xg xs) (d + 1) 338 25 [(0, .ref 58), (1, .int l1), (2, .int l2)] [.int (m.1 73 ((l1 + (1 : Int32)).toNatClampNeg))] m Q
    exact H
  · replace H := H.2 h; clear h
    refine y_st rfl rfl rfl rfl rfl (fun _ _ => rfl) ?_
    refine y_gf rfl rfl rfl rfl rfl ?_
    refine y_st rfl rfl rfl rfl rfl (fun _ _ => rfl) ?_
    show yP (xg xs) (d + 1) 338 25 [(0, .ref 58), (1, .int l1), (2, .int l2)] [.int (m.1 58 30)] m Q
    exact H
set_option maxRecDepth 20000 in
/-- CodeMakerModel.variableOf from 25 on -/
theorem w338_25 (xs : List Int32) (d : Nat) (l1 : Int32) (l2 : Int32) (s0 : Int32) (m : yM) (Q : Option Value → yM → Prop) (H : (x_in l1 401 = true ∧ yP (xg xs) (d + 1) 338 34 [(0, .ref 58), (2, .int l2), (3, .int s0), (4, .int (m.1 73 l1.toNatClampNeg))] [] m Q)) : yP (xg xs) (d + 1) 338 25 [(0, .ref 58), (1, .int l1), (2, .int l2)] [.int s0] m Q := by
  refine y_st rfl rfl rfl rfl rfl (fun _ _ => rfl) ?_
  refine y_st rfl rfl rfl rfl rfl (fun _ _ => rfl) ?_
  refine y_gf rfl rfl rfl rfl rfl ?_
  refine y_st rfl rfl rfl rfl rfl (fun _ _ => rfl) ?_
  show yP (xg xs) (d + 1) 338 31 [(3, .int s0), (0, .ref 58), (1, .int l1), (2, .int l2)] [.int l1, .ref 73] m Q
  refine y_iald rfl rfl rfl (H.1) ?_
  replace H := H.2
  refine y_st rfl rfl rfl rfl rfl (fun _ _ => rfl) ?_
  show yP (xg xs) (d + 1) 338 34 [(4, .int (m.1 73 l1.toNatClampNeg)), (3, .int s0), (0, .ref 58), (1, .int l1), (2, .int l2)] [] m Q
  refine y_headS (l2 := [(0, .ref 58), (2, .int l2), (3, .int s0), (4, .int (m.1 73 l1.toNatClampNeg))]) [2, 4, 1, 0] [0, 2, 3, 4] [4, 3, 0, 1, 2] rfl rfl (by decide) rfl (by decide) ?_
  exact H
set_option maxRecDepth 20000 in
/-- CodeMakerModel.variableOf from 34 on -/
theorem w338_34 (xs : List Int32) (d : Nat) (l2 : Int32) (l3 : Int32) (l4 : Int32) (m : yM) (Q : Option Value → yM → Prop) (H : ((l3 ≤ l4 → Q (some (.int ((-1) : Int32))) m) ∧ (¬ l3 ≤ l4 → (x_in l4 4700 = true ∧ ((¬ (m.1 75 l4.toNatClampNeg) = l2 → yP (xg xs) (d + 1) 338 34 [(0, .ref 58), (2, .int l2), (3, .int l3), (4, .int (l4 + (1 : Int32)))] [] m Q) ∧ ((m.1 75 l4.toNatClampNeg) = l2 → Q (some (.int l4)) m)))))) : yP (xg xs) (d + 1) 338 34 [(0, .ref 58), (2, .int l2), (3, .int l3), (4, .int l4)] [] m Q := by
  refine y_st rfl rfl rfl rfl rfl (fun _ _ => rfl) ?_
  refine y_st rfl rfl rfl rfl rfl (fun _ _ => rfl) ?_
  show yP (xg xs) (d + 1) 338 37 [(0, .ref 58), (2, .int l2), (3, .int l3), (4, .int l4)] [.int l3, .int l4] m Q
  refine y_ige (t := 60) rfl rfl rfl (fun h => ?_) (fun h => ?_)
  · replace H := H.1 h; clear h
    refine y_st rfl rfl rfl rfl rfl (fun _ _ => rfl) ?_
    show yP (xg xs) (d + 1) 338 61 [(0, .ref 58), (2, .int l2), (3, .int l3), (4, .int l4)] [.int ((-1) : Int32)] m Q
    exact y_iret rfl rfl rfl H
  · replace H := H.2 h; clear h
    refine y_st rfl rfl rfl rfl rfl (fun _ _ => rfl) ?_
    refine y_gf rfl rfl rfl rfl rfl ?_
    refine y_st rfl rfl rfl rfl rfl (fun _ _ => rfl) ?_
    show yP (xg xs) (d + 1) 338 46 [(0, .ref 58), (2, .int l2), (3, .int l3), (4, .int l4)] [.int l4, .ref 75] m Q
    refine y_iald rfl rfl rfl (H.1) ?_
    replace H := H.2
    refine y_st rfl rfl rfl rfl rfl (fun _ _ => rfl) ?_
    show yP (xg xs) (d + 1) 338 48 [(0, .ref 58), (2, .int l2), (3, .int l3), (4, .int l4)] [.int l2, .int (m.1 75 l4.toNatClampNeg)] m Q
    refine y_ine (t := 54) rfl rfl rfl (fun h => ?_) (fun h => ?_)
    · replace H := H.1 h; clear h
      refine y_st rfl rfl rfl rfl rfl (fun _ _ => rfl) ?_
      refine y_st rfl rfl rfl rfl rfl (fun _ _ => rfl) ?_
      show yP (xg xs) (d + 1) 338 34 [(4, .int (l4 + (1 : Int32))), (0, .ref 58), (2, .int l2), (3, .int l3)] [] m Q
      refine y_headS (l2 := [(0, .ref 58), (2, .int l2), (3, .int l3), (4, .int (l4 + (1 : Int32)))]) [1, 2, 3, 0] [0, 2, 3, 4] [4, 0, 2, 3] rfl rfl (by decide) rfl (by decide) ?_
      exact H
    · replace H := H.2 h; clear h
      refine y_st rfl rfl rfl rfl rfl (fun _ _ => rfl) ?_
      show yP (xg xs) (d + 1) 338 53 [(0, .ref 58), (2, .int l2), (3, .int l3), (4, .int l4)] [.int l4] m Q
      exact y_iret rfl rfl rfl H
set_option maxRecDepth 20000 in
/-- CodeMakerModel.judgePlace from 0 on -/
theorem w339_0 (xs : List Int32) (d : Nat) (l1 : Int32) (m : yM) (Q : Option Value → yM → Prop) (H : (x_in ((m.1 58 23) - (1 : Int32)) 401 = true ∧ yP (xg xs) (d + 1) 339 14 [(0, .ref 58), (1, .int l1), (2, .int (0 : Int32)), (3, .int (m.1 73 (((m.1 58 23) - (1 : Int32)).toNatClampNeg)))] [] m Q)) : yP (xg xs) (d + 1) 339 0 [(0, .ref 58), (1, .int l1)] [] m Q := by
  refine y_st rfl rfl rfl rfl rfl (fun _ _ => rfl) ?_
  refine y_st rfl rfl rfl rfl rfl (fun _ _ => rfl) ?_
  refine y_st rfl rfl rfl rfl rfl (fun _ _ => rfl) ?_
  refine y_gf rfl rfl rfl rfl rfl ?_
  refine y_st rfl rfl rfl rfl rfl (fun _ _ => rfl) ?_
  refine y_gf rfl rfl rfl rfl rfl ?_
  refine y_st rfl rfl rfl rfl rfl (fun _ _ => rfl) ?_
  refine y_st rfl rfl rfl rfl rfl (fun _ _ => rfl) ?_
  show yP (xg xs) (d + 1) 339 12 [(2, .int (0 : Int32)), (0, .ref 58), (1, .int l1)] [.int ((m.1 58 23) - (1 : Int32)), .ref 73] m Q
  refine y_iald rfl rfl rfl (H.1) ?_
  replace H := H.2
  refine y_st rfl rfl rfl rfl rfl (fun _ _ => rfl) ?_
  show yP (xg xs) (d + 1) 339 14 [(3, .int (m.1 73 (((m.1 58 23) - (1 : Int32)).toNatClampNeg))), (2, .int (0 : Int32)), (0, .ref 58), (1, .int l1)] [] m Q
  refine y_headS (l2 := [(0, .ref 58), (1, .int l1), (2, .int (0 : Int32)), (3, .int (m.1 73 (((m.1 58 23) - (1 : Int32)).toNatClampNeg)))]) [2, 3, 1, 0] [0, 1, 2, 3] [3, 2, 0, 1] rfl rfl (by decide) rfl (by decide) ?_
  exact H
set_option maxRecDepth 20000 in
/-- CodeMakerModel.judgePlace from 14 on -/
theorem w339_14 (xs : List Int32) (d : Nat) (l1 : Int32) (l2 : Int32) (l3 : Int32) (m : yM) (Q : Option Value → yM → Prop) (H : (((m.1 58 30) ≤ l3 → (x_in l1 20000 = true ∧ (x_in (m.1 65 l1.toNatClampNeg) 20000 = true ∧ yP (xg xs) (d + 1) 339 68 [(0, .ref 58), (1, .int l1), (2, .int l2), (3, .int (0 : Int32)), (4, .int (m.1 66 ((m.1 65 l1.toNatClampNeg).toNatClampNeg)))] [] m Q))) ∧ (¬ (m.1 58 30) ≤ l3 → ((¬ l2 = 0 → yP (xg xs) (d + 1) 339 41 [(0, .ref 58), (1, .int l1), (3, .int l3)] [] m Q) ∧ (l2 = 0 → (x_in l3 4700 = true ∧ (x_in l1 20000 = true ∧ ((¬ (m.1 82 l3.toNatClampNeg) = (m.1 64 l1.toNatClampNeg) → yP (xg xs) (d + 1) 339 46 [(0, .ref 58), (1, .int l1), (3, .int l3)] [.int (0 : Int32)] m Q) ∧ ((m.1 82 l3.toNatClampNeg) = (m.1 64 l1.toNatClampNeg) → yP (xg xs) (d + 1) 339 41 [(0, .ref 58), (1, .int l1), (3, .int l3)] [] m Q))))))))) : yP (xg xs) (d + 1) 339 14 [(0, .ref 58), (1, .int l1), (2, .int l2), (3, .int l3)] [] m Q := by
  refine y_st rfl rfl rfl rfl rfl (fun _ _ => rfl) ?_
  refine y_st rfl rfl rfl rfl rfl (fun _ _ => rfl) ?_
  refine y_gf rfl rfl rfl rfl rfl ?_
  show yP (xg xs) (d + 1) 339 19 [(0, .ref 58), (1, .int l1), (2, .int l2), (3, .int l3)] [.int (m.1 58 30), .int l3] m Q
  refine y_ige (t := 53) rfl rfl rfl (fun h => ?_) (fun h => ?_)
  · replace H := H.1 h; clear h
    refine y_st rfl rfl rfl rfl rfl (fun _ _ => rfl) ?_
    refine y_st rfl rfl rfl rfl rfl (fun _ _ => rfl) ?_
    refine y_st rfl rfl rfl rfl rfl (fun _ _ => rfl) ?_
    refine y_gf rfl rfl rfl rfl rfl ?_
    refine y_st rfl rfl rfl rfl rfl (fun _ _ => rfl) ?_
    refine y_gf rfl rfl rfl rfl rfl ?_
    refine y_st rfl rfl rfl rfl rfl (fun _ _ => rfl) ?_
    show yP (xg xs) (d + 1) 339 64 [(3, .int (0 : Int32)), (0, .ref 58), (1, .int l1), (2, .int l2)] [.int l1, .ref 65, .ref 66] m Q
    refine y_iald rfl rfl rfl (H.1) ?_
    replace H := H.2
    show yP (xg xs) (d + 1) 339 65 [(3, .int (0 : Int32)), (0, .ref 58), (1, .int l1), (2, .int l2)] [.int (m.1 65 l1.toNatClampNeg), .ref 66] m Q
    refine y_iald rfl rfl rfl (H.1) ?_
    replace H := H.2
    refine y_st rfl rfl rfl rfl rfl (fun _ _ => rfl) ?_
    show yP (xg xs) (d + 1) 339 68 [(4, .int (m.1 66 ((m.1 65 l1.toNatClampNeg).toNatClampNeg))), (3, .int (0 : Int32)), (0, .ref 58), (1, .int l1), (2, .int l2)] [] m Q
    refine y_headS (l2 := [(0, .ref 58), (1, .int l1), (2, .int l2), (3, .int (0 : Int32)), (4, .int (m.1 66 ((m.1 65 l1.toNatClampNeg).toNatClampNeg)))]) [2, 3, 4, 1, 0] [0, 1, 2, 3, 4] [4, 3, 0, 1, 2] rfl rfl (by decide) rfl (by decide) ?_
    exact H
  · replace H := H.2 h; clear h
    refine y_st rfl rfl rfl rfl rfl (fun _ _ => rfl) ?_
    show yP (xg xs) (d + 1) 339 23 [(0, .ref 58), (1, .int l1), (2, .int l2), (3, .int l3)] [.int l2] m Q
    refine y_zne (t := 41) rfl rfl rfl (fun h => ?_) (fun h => ?_)
    · replace H := H.1 h; clear h
      show yP (xg xs) (d + 1) 339 41 [(0, .ref 58), (1, .int l1), (2, .int l2), (3, .int l3)] [] m Q
      refine y_headS (l2 := [(0, .ref 58), (1, .int l1), (3, .int l3)]) [0, 1, 3] [0, 1, 3] [0, 1, 2, 3] rfl rfl (by decide) rfl (by decide) ?_
      exact H
    · replace H := H.2 h; clear h
      refine y_st rfl rfl rfl rfl rfl (fun _ _ => rfl) ?_
      refine y_gf rfl rfl rfl rfl rfl ?_
      refine y_st rfl rfl rfl rfl rfl (fun _ _ => rfl) ?_
      show yP (xg xs) (d + 1) 339 31 [(0, .ref 58), (1, .int l1), (2, .int l2), (3, .int l3)] [.int l3, .ref 82] m Q
      refine y_iald rfl rfl rfl (H.1) ?_
      replace H := H.2
      refine y_st rfl rfl rfl rfl rfl (fun _ _ => rfl) ?_
      refine y_gf rfl rfl rfl rfl rfl ?_
      refine y_st rfl rfl rfl rfl rfl (fun _ _ => rfl) ?_
      show yP (xg xs) (d + 1) 339 37 [(0, .ref 58), (1, .int l1), (2, .int l2), (3, .int l3)] [.int l1, .ref 64, .int (m.1 82 l3.toNatClampNeg)] m Q
      refine y_iald rfl rfl rfl (H.1) ?_
      replace H := H.2
      show yP (xg xs) (d + 1) 339 38 [(0, .ref 58), (1, .int l1), (2, .int l2), (3, .int l3)] [.int (m.1 64 l1.toNatClampNeg), .int (m.1 82 l3.toNatClampNeg)] m Q
      refine y_ine (t := 45) rfl rfl rfl (fun h => ?_) (fun h => ?_)
      · replace H := H.1 h; clear h
        refine y_st rfl rfl rfl rfl rfl (fun _ _ => rfl) ?_
        show yP (xg xs) (d + 1) 339 46 [(0, .ref 58), (1, .int l1), (2, .int l2), (3, .int l3)] [.int (0 : Int32)] m Q
        refine y_headS (l2 := [(0, .ref 58), (1, .int l1), (3, .int l3)]) [0, 1, 3] [0, 1, 3] [0, 1, 2, 3] rfl rfl (by decide) rfl (by decide) ?_
        exact H
      · replace H := H.2 h; clear h
        show yP (xg xs) (d + 1) 339 41 [(0, .ref 58), (1, .int l1), (2, .int l2), (3, .int l3)] [] m Q
        refine y_headS (l2 := [(0, .ref 58), (1, .int l1), (3, .int l3)]) [0, 1, 3] [0, 1, 3] [0, 1, 2, 3] rfl rfl (by decide) rfl (by decide) ?_
        exact H
set_option maxRecDepth 20000 in
/-- CodeMakerModel.judgePlace from 41 on -/
theorem w339_41 (xs : List Int32) (d : Nat) (l1 : Int32) (l3 : Int32) (m : yM) (Q : Option Value → yM → Prop) (H : yP (xg xs) (d + 1) 339 46 [(0, .ref 58), (1, .int l1), (3, .int l3)] [.int (1 : Int32)] m Q) : yP (xg xs) (d + 1) 339 41 [(0, .ref 58), (1, .int l1), (3, .int l3)] [] m Q := by
  refine y_st rfl rfl rfl rfl rfl (fun _ _ => rfl) ?_
  refine y_st rfl rfl rfl rfl rfl (fun _ _ => rfl) ?_
  show yP (xg xs) (d + 1) 339 46 [(0, .ref 58), (1, .int l1), (3, .int l3)] [.int (1 : Int32)] m Q
  exact H
set_option maxRecDepth 20000 in
/-- CodeMakerModel.judgePlace from 46 on -/
theorem w339_46 (xs : List Int32) (d : Nat) (l1 : Int32) (l3 : Int32) (s0 : Int32) (m : yM) (Q : Option Value → yM → Prop) (H : yP (xg xs) (d + 1) 339 14 [(0, .ref 58), (1, .int l1), (2, .int s0), (3, .int (l3 + (1 : Int32)))] [] m Q) : yP (xg xs) (d + 1) 339 46 [(0, .ref 58), (1, .int l1), (3, .int l3)] [.int s0] m Q := by
  refine y_st rfl rfl rfl rfl rfl (fun _ _ => rfl) ?_
  refine y_st rfl rfl rfl rfl rfl (fun _ _ => rfl) ?_
  refine y_st rfl rfl rfl rfl rfl (fun _ _ => rfl) ?_
  show yP (xg xs) (d + 1) 339 14 [(3, .int (l3 + (1 : Int32))), (2, .int s0), (0, .ref 58), (1, .int l1)] [] m Q
  refine y_headS (l2 := [(0, .ref 58), (1, .int l1), (2, .int s0), (3, .int (l3 + (1 : Int32)))]) [2, 3, 1, 0] [0, 1, 2, 3] [3, 2, 0, 1] rfl rfl (by decide) rfl (by decide) ?_
  exact H
set_option maxRecDepth 20000 in
/-- CodeMakerModel.judgePlace from 68 on -/
theorem w339_68 (xs : List Int32) (d : Nat) (l1 : Int32) (l2 : Int32) (l3 : Int32) (l4 : Int32) (m : yM) (Q : Option Value → yM → Prop) (H : ((l4 = l1 → (yC (xg xs) d 331 [.ref 58] m (fun v1 m1 => ∃ u1, v1 = some (Value.int u1) ∧ ((¬ u1 = (3 : Int32) → yP (xg xs) (d + 1) 339 109 [(1, .int l1)] [.int (14 : Int32), .ref 58] m1 Q) ∧ (u1 = (3 : Int32) → (((1 : Int32) < l3 → yP (xg xs) (d + 1) 339 109 [(1, .int l1)] [.int (14 : Int32), .ref 58] m1 Q) ∧ (¬ (1 : Int32) < l3 → ((l2 = 0 → yP (xg xs) (d + 1) 339 114 [(1, .int l1)] [.int (0 : Int32), .int (14 : Int32), .ref 58] m1 Q) ∧ (¬ l2 = 0 → yP (xg xs) (d + 1) 339 109 [(1, .int l1)] [.int (14 : Int32), .ref 58] m1 Q))))))))) ∧ (¬ l4 = l1 → (x_in l4 20000 = true ∧ yP (xg xs) (d + 1) 339 68 [(0, .ref 58), (1, .int l1), (2, .int l2), (3, .int (l3 + (1 : Int32))), (4, .int (m.1 68 l4.toNatClampNeg))] [] m Q)))) : yP (xg xs) (d + 1) 339 68 [(0, .ref 58), (1, .int l1), (2, .int l2), (3, .int l3), (4, .int l4)] [] m Q := by
  refine y_st rfl rfl rfl rfl rfl (fun _ _ => rfl) ?_
  refine y_st rfl rfl rfl rfl rfl (fun _ _ => rfl) ?_
  show yP (xg xs) (d + 1) 339 71 [(0, .ref 58), (1, .int l1), (2, .int l2), (3, .int l3), (4, .int l4)] [.int l1, .int l4] m Q
  refine y_ieq (t := 89) rfl rfl rfl (fun h => ?_) (fun h => ?_)
  · replace H := H.1 h; clear h
    refine y_st rfl rfl rfl rfl rfl (fun _ _ => rfl) ?_
    refine y_st rfl rfl rfl rfl rfl (fun _ _ => rfl) ?_
    refine y_st rfl rfl rfl rfl rfl (fun _ _ => rfl) ?_
    show yP (xg xs) (d + 1) 339 93 [(0, .ref 58), (1, .int l1), (2, .int l2), (3, .int l3), (4, .int l4)] [.ref 58, .int (14 : Int32), .ref 58] m Q
    refine y_call rfl rfl rfl rfl rfl (Nat.le_of_ble_eq_true rfl) (Nat.le_of_ble_eq_true rfl) rfl (by decide) H (fun v1 m1 H => ?_)
    obtain ⟨u1, rfl, H⟩ := H
    refine y_st rfl rfl rfl rfl rfl (fun _ _ => rfl) ?_
    show yP (xg xs) (d + 1) 339 97 [(0, .ref 58), (1, .int l1), (2, .int l2), (3, .int l3), (4, .int l4)] [.int (3 : Int32), .int u1, .int (14 : Int32), .ref 58] m1 Q
    refine y_ine (t := 109) rfl rfl rfl (fun h => ?_) (fun h => ?_)
    · replace H := H.1 h; clear h
      show yP (xg xs) (d + 1) 339 109 [(0, .ref 58), (1, .int l1), (2, .int l2), (3, .int l3), (4, .int l4)] [.int (14 : Int32), .ref 58] m1 Q
      refine y_headS (l2 := [(1, .int l1)]) [1] [1] [0, 1, 2, 3, 4] rfl rfl (by decide) rfl (by decide) ?_
      exact H
    · replace H := H.2 h; clear h
      refine y_st rfl rfl rfl rfl rfl (fun _ _ => rfl) ?_
      refine y_st rfl rfl rfl rfl rfl (fun _ _ => rfl) ?_
      show yP (xg xs) (d + 1) 339 102 [(0, .ref 58), (1, .int l1), (2, .int l2), (3, .int l3), (4, .int l4)] [.int (1 : Int32), .int l3, .int (14 : Int32), .ref 58] m1 Q
      refine y_igt (t := 109) rfl rfl rfl (fun h => ?_) (fun h => ?_)
      · replace H := H.1 h; clear h
        show yP (xg xs) (d + 1) 339 109 [(0, .ref 58), (1, .int l1), (2, .int l2), (3, .int l3), (4, .int l4)] [.int (14 : Int32), .ref 58] m1 Q
        refine y_headS (l2 := [(1, .int l1)]) [1] [1] [0, 1, 2, 3, 4] rfl rfl (by decide) rfl (by decide) ?_
        exact H
      · replace H := H.2 h; clear h
        refine y_st rfl rfl rfl rfl rfl (fun _ _ => rfl) ?_
        show yP (xg xs) (d + 1) 339 106 [(0, .ref 58), (1, .int l1), (2, .int l2), (3, .int l3), (4, .int l4)] [.int l2, .int (14 : Int32), .ref 58] m1 Q
        refine y_zeq (t := 113) rfl rfl rfl (fun h => ?_) (fun h => ?_)
        · replace H := H.1 h; clear h
          refine y_st rfl rfl rfl rfl rfl (fun _ _ => rfl) ?_
          show yP (xg xs) (d + 1) 339 114 [(0, .ref 58), (1, .int l1), (2, .int l2), (3, .int l3), (4, .int l4)] [.int (0 : Int32), .int (14 : Int32), .ref 58] m1 Q
          refine y_headS (l2 := [(1, .int l1)]) [1] [1] [0, 1, 2, 3, 4] rfl rfl (by decide) rfl (by decide) ?_
          exact H
        · replace H := H.2 h; clear h
          show yP (xg xs) (d + 1) 339 109 [(0, .ref 58), (1, .int l1), (2, .int l2), (3, .int l3), (4, .int l4)] [.int (14 : Int32), .ref 58] m1 Q
          refine y_headS (l2 := [(1, .int l1)]) [1] [1] [0, 1, 2, 3, 4] rfl rfl (by decide) rfl (by decide) ?_
          exact H
  · replace H := H.2 h; clear h
    refine y_st rfl rfl rfl rfl rfl (fun _ _ => rfl) ?_
    refine y_st rfl rfl rfl rfl rfl (fun _ _ => rfl) ?_
    refine y_gf rfl rfl rfl rfl rfl ?_
    refine y_st rfl rfl rfl rfl rfl (fun _ _ => rfl) ?_
    show yP (xg xs) (d + 1) 339 83 [(3, .int (l3 + (1 : Int32))), (0, .ref 58), (1, .int l1), (2, .int l2), (4, .int l4)] [.int l4, .ref 68] m Q
    refine y_iald rfl rfl rfl (H.1) ?_
    replace H := H.2
    refine y_st rfl rfl rfl rfl rfl (fun _ _ => rfl) ?_
    refine y_st rfl rfl rfl rfl rfl (fun _ _ => rfl) ?_
    show yP (xg xs) (d + 1) 339 68 [(4, .int (m.1 68 l4.toNatClampNeg)), (3, .int (l3 + (1 : Int32))), (0, .ref 58), (1, .int l1), (2, .int l2)] [] m Q
    refine y_headS (l2 := [(0, .ref 58), (1, .int l1), (2, .int l2), (3, .int (l3 + (1 : Int32))), (4, .int (m.1 68 l4.toNatClampNeg))]) [2, 3, 4, 1, 0] [0, 1, 2, 3, 4] [4, 3, 0, 1, 2] rfl rfl (by decide) rfl (by decide) ?_
    exact H
set_option maxRecDepth 20000 in
/-- CodeMakerModel.judgePlace from 109 on -/
theorem w339_109 (xs : List Int32) (d : Nat) (l1 : Int32) (s1 : Int32) (m : yM) (Q : Option Value → yM → Prop) (H : yP (xg xs) (d + 1) 339 114 [(1, .int l1)] [.int (1 : Int32), .int s1, .ref 58] m Q) : yP (xg xs) (d + 1) 339 109 [(1, .int l1)] [.int s1, .ref 58] m Q := by
  refine y_st rfl rfl rfl rfl rfl (fun _ _ => rfl) ?_
  refine y_st rfl rfl rfl rfl rfl (fun _ _ => rfl) ?_
  show yP (xg xs) (d + 1) 339 114 [(1, .int l1)] [.int (1 : Int32), .int s1, .ref 58] m Q
  exact H
set_option maxRecDepth 20000 in
/-- CodeMakerModel.judgePlace from 114 on -/
theorem w339_114 (xs : List Int32) (d : Nat) (l1 : Int32) (s1 : Int32) (s2 : Int32) (m : yM) (Q : Option Value → yM → Prop) (H : (yC (xg xs) d 323 [.ref 58, .int s1, .int s2, .int l1] m (fun v1 m1 => v1 = none ∧ Q none m1))) : yP (xg xs) (d + 1) 339 114 [(1, .int l1)] [.int s2, .int s1, .ref 58] m Q := by
  refine y_st rfl rfl rfl rfl rfl (fun _ _ => rfl) ?_
  show yP (xg xs) (d + 1) 339 115 [(1, .int l1)] [.int l1, .int s2, .int s1, .ref 58] m Q
  refine y_call rfl rfl rfl rfl rfl (Nat.le_of_ble_eq_true rfl) (Nat.le_of_ble_eq_true rfl) rfl (by decide) H (fun v1 m1 H => ?_)
  obtain ⟨rfl, H⟩ := H
  show yP (xg xs) (d + 1) 339 118 [(1, .int l1)] [] m1 Q
  exact y_ret rfl rfl rfl rfl H
set_option maxRecDepth 20000 in
/-- CodeMakerModel.judgeStatement from 0 on -/
theorem w340_0 (xs : List Int32) (d : Nat) (l1 : Int32) (l2 : Int32) (m : yM) (Q : Option Value → yM → Prop) (H : ((l2 = (12 : Int32) → (x_in l1 20000 = true ∧ (x_in (m.1 66 l1.toNatClampNeg) 20000 = true ∧ (yC (xg xs) d 341 [.ref 58, .int l1, .int (m.1 85 ((m.1 66 l1.toNatClampNeg).toNatClampNeg))] m (fun v1 m1 => v1 = none ∧ (x_in (m.1 66 l1.toNatClampNeg) 20000 = true ∧ (x_in (m1.1 68 ((m.1 66 l1.toNatClampNeg).toNatClampNeg)) 20000 = true ∧ (x_in (m.1 66 l1.toNatClampNeg) 20000 = true ∧ (yC (xg xs) d 343 [.int (m1.1 84 ((m1.1 68 ((m.1 66 l1.toNatClampNeg).toNatClampNeg)).toNatClampNeg)), .int (m1.1 84 ((m.1 66 l1.toNatClampNeg).toNatClampNeg))] m1 (fun v2 m2 => ∃ u2, v2 = some (Value.int u2) ∧ ((¬ u2 = 0 → yP (xg xs) (d + 1) 340 101 [(1, .int l1)] [.int (0 : Int32), .int (31 : Int32), .ref 58] m2 Q) ∧ (u2 = 0 → yP (xg xs) (d + 1) 340 101 [(1, .int l1)] [.int (1 : Int32), .int (31 : Int32), .ref 58] m2 Q)))))))))))) ∧ (l2 = (13 : Int32) → (yC (xg xs) d 344 [.ref 58, .int l1, .int (2 : Int32)] m (fun v3 m3 => ∃ u3, v3 = some (Value.int u3) ∧ Q none m3))) ∧ (l2 = (14 : Int32) → (yC (xg xs) d 345 [.ref 58, .int l1] m (fun v4 m4 => v4 = none ∧ Q none m4))) ∧ (l2 = (15 : Int32) → (x_in l1 20000 = true ∧ yP (xg xs) (d + 1) 340 133 [(0, .ref 58), (1, .int l1), (3, .int (m.1 66 l1.toNatClampNeg))] [] m Q)) ∧ (l2 = (16 : Int32) → (x_in l1 20000 = true ∧ (x_in (m.1 66 l1.toNatClampNeg) 20000 = true ∧ ((¬ (m.1 84 ((m.1 66 l1.toNatClampNeg).toNatClampNeg)) = 0 → yP (xg xs) (d + 1) 340 205 [(1, .int l1)] [.int (0 : Int32), .int (34 : Int32), .ref 58] m Q) ∧ ((m.1 84 ((m.1 66 l1.toNatClampNeg).toNatClampNeg)) = 0 → yP (xg xs) (d + 1) 340 205 [(1, .int l1)] [.int (1 : Int32), .int (34 : Int32), .ref 58] m Q))))) ∧ (l2 = (18 : Int32) → (x_in l1 20000 = true ∧ (x_in l1 20000 = true ∧ (x_in (m.1 66 l1.toNatClampNeg) 20000 = true ∧ (((m.1 62 ((m.1 66 l1.toNatClampNeg).toNatClampNeg)) = (31 : Int32) → yP (xg xs) (d + 1) 340 269 [(1, .int l1)] [.int (35 : Int32), .ref 58] m Q) ∧ (¬ (m.1 62 ((m.1 66 l1.toNatClampNeg).toNatClampNeg)) = (31 : Int32) → (x_in (m.1 67 l1.toNatClampNeg) 20000 = true ∧ (((m.1 62 ((m.1 67 l1.toNatClampNeg).toNatClampNeg)) = (31 : Int32) → yP (xg xs) (d + 1) 340 269 [(1, .int l1)] [.int (35 : Int32), .ref 58] m Q) ∧ (¬ (m.1 62 ((m.1 67 l1.toNatClampNeg).toNatClampNeg)) = (31 : Int32) → (x_in (m.1 66 l1.toNatClampNeg) 20000 = true ∧ (x_in (m.1 67 l1.toNatClampNeg) 20000 = true ∧ (((m.1 64 ((m.1 66 l1.toNatClampNeg).toNatClampNeg)) ≤ (m.1 64 ((m.1 67 l1.toNatClampNeg).toNatClampNeg)) → yP (xg xs) (d + 1) 340 274 [(1, .int l1)] [.int (0 : Int32), .int (35 : Int32), .ref 58] m Q) ∧ (¬ (m.1 64 ((m.1 66 l1.toNatClampNeg).toNatClampNeg)) ≤ (m.1 64 ((m.1 67 l1.toNatClampNeg).toNatClampNeg)) → yP (xg xs) (d + 1) 340 269 [(1, .int l1)] [.int (35 : Int32), .ref 58] m Q))))))))))))) ∧ (l2 = (19 : Int32) → (yC (xg xs) d 348 [.ref 58, .int l1] m (fun v5 m5 => v5 = none ∧ Q none m5))) ∧ (l2 = (20 : Int32) → (yC (xg xs) d 342 [.ref 58, .int l1, .int ((-1) : Int32)] m (fun v6 m6 => ∃ u6, v6 = some (Value.int u6) ∧ ((¬ u6 = 0 → yP (xg xs) (d + 1) 340 306 [(1, .int l1)] [.int (0 : Int32), .int (37 : Int32), .ref 58] m6 Q) ∧ (u6 = 0 → yP (xg xs) (d + 1) 340 306 [(1, .int l1)] [.int (1 : Int32), .int (37 : Int32), .ref 58] m6 Q))))) ∧ (¬ l2 = (12 : Int32) → ¬ l2 = (13 : Int32) → ¬ l2 = (14 : Int32) → ¬ l2 = (15 : Int32) → ¬ l2 = (16 : Int32) → ¬ l2 = (18 : Int32) → ¬ l2 = (19 : Int32) → ¬ l2 = (20 : Int32) → Q none m))) : yP (xg xs) (d + 1) 340 0 [(0, .ref 58), (1, .int l1), (2, .int l2)] [] m Q := by
  refine y_st rfl rfl rfl rfl rfl (fun _ _ => rfl) ?_
  show yP (xg xs) (d + 1) 340 1 [(0, .ref 58), (1, .int l1), (2, .int l2)] [.int l2] m Q
  by_cases h12 : l2 = (12 : Int32)
  · replace H := H.1 h12
    refine y_tsw (t := 52) rfl rfl (by rw [h12]; rfl) ?_
    clear h12
    refine y_st rfl rfl rfl rfl rfl (fun _ _ => rfl) ?_
    refine y_gf rfl rfl rfl rfl rfl ?_
    refine y_st rfl rfl rfl rfl rfl (fun _ _ => rfl) ?_
    show yP (xg xs) (d + 1) 340 57 [(0, .ref 58), (1, .int l1), (2, .int l2)] [.int l1, .ref 66] m Q
    refine y_iald rfl rfl rfl (H.1) ?_
    replace H := H.2
    refine y_st rfl rfl rfl rfl rfl (fun _ _ => rfl) ?_
    refine y_st rfl rfl rfl rfl rfl (fun _ _ => rfl) ?_
    refine y_st rfl rfl rfl rfl rfl (fun _ _ => rfl) ?_
    refine y_st rfl rfl rfl rfl rfl (fun _ _ => rfl) ?_
    refine y_gf rfl rfl rfl rfl rfl ?_
    refine y_st rfl rfl rfl rfl rfl (fun _ _ => rfl) ?_
    show yP (xg xs) (d + 1) 340 66 [(3, .int (m.1 66 l1.toNatClampNeg)), (0, .ref 58), (1, .int l1), (2, .int l2)] [.int (m.1 66 l1.toNatClampNeg), .ref 85, .int l1, .ref 58] m Q
    refine y_iald rfl rfl rfl (H.1) ?_
    replace H := H.2
    show yP (xg xs) (d + 1) 340 67 [(3, .int (m.1 66 l1.toNatClampNeg)), (0, .ref 58), (1, .int l1), (2, .int l2)] [.int (m.1 85 ((m.1 66 l1.toNatClampNeg).toNatClampNeg)), .int l1, .ref 58] m Q
    refine y_call rfl rfl rfl rfl rfl (Nat.le_of_ble_eq_true rfl) (Nat.le_of_ble_eq_true rfl) rfl (by decide) H (fun v1 m1 H => ?_)
    obtain ⟨rfl, H⟩ := H
    refine y_st rfl rfl rfl rfl rfl (fun _ _ => rfl) ?_
    refine y_st rfl rfl rfl rfl rfl (fun _ _ => rfl) ?_
    refine y_st rfl rfl rfl rfl rfl (fun _ _ => rfl) ?_
    refine y_gf rfl rfl rfl rfl rfl ?_
    refine y_st rfl rfl rfl rfl rfl (fun _ _ => rfl) ?_
    refine y_gf rfl rfl rfl rfl rfl ?_
    refine y_st rfl rfl rfl rfl rfl (fun _ _ => rfl) ?_
    show yP (xg xs) (d + 1) 340 82 [(3, .int (m.1 66 l1.toNatClampNeg)), (0, .ref 58), (1, .int l1), (2, .int l2)] [.int (m.1 66 l1.toNatClampNeg), .ref 68, .ref 84, .int (31 : Int32), .ref 58] m1 Q
    refine y_iald rfl rfl rfl (H.1) ?_
    replace H := H.2
    show yP (xg xs) (d + 1) 340 83 [(3, .int (m.1 66 l1.toNatClampNeg)), (0, .ref 58), (1, .int l1), (2, .int l2)] [.int (m1.1 68 ((m.1 66 l1.toNatClampNeg).toNatClampNeg)), .ref 84, .int (31 : Int32), .ref 58] m1 Q
    refine y_iald rfl rfl rfl (H.1) ?_
    replace H := H.2
    refine y_st rfl rfl rfl rfl rfl (fun _ _ => rfl) ?_
    refine y_gf rfl rfl rfl rfl rfl ?_
    refine y_st rfl rfl rfl rfl rfl (fun _ _ => rfl) ?_
    show yP (xg xs) (d + 1) 340 89 [(3, .int (m.1 66 l1.toNatClampNeg)), (0, .ref 58), (1, .int l1), (2, .int l2)] [.int (m.1 66 l1.toNatClampNeg), .ref 84, .int (m1.1 84 ((m1.1 68 ((m.1 66 l1.toNatClampNeg).toNatClampNeg)).toNatClampNeg)), .int (31 : Int32), .ref 58] m1 Q
    refine y_iald rfl rfl rfl (H.1) ?_
    replace H := H.2
    show yP (xg xs) (d + 1) 340 90 [(3, .int (m.1 66 l1.toNatClampNeg)), (0, .ref 58), (1, .int l1), (2, .int l2)] [.int (m1.1 84 ((m.1 66 l1.toNatClampNeg).toNatClampNeg)), .int (m1.1 84 ((m1.1 68 ((m.1 66 l1.toNatClampNeg).toNatClampNeg)).toNatClampNeg)), .int (31 : Int32), .ref 58] m1 Q
    refine y_call rfl rfl rfl rfl rfl (Nat.le_of_ble_eq_true rfl) (Nat.le_of_ble_eq_true rfl) rfl (by decide) H (fun v2 m2 H => ?_)
    obtain ⟨u2, rfl, H⟩ := H
    show yP (xg xs) (d + 1) 340 93 [(3, .int (m.1 66 l1.toNatClampNeg)), (0, .ref 58), (1, .int l1), (2, .int l2)] [.int u2, .int (31 : Int32), .ref 58] m2 Q
    refine y_zne (t := 100) rfl rfl rfl (fun h => ?_) (fun h => ?_)
    · replace H := H.1 h; clear h
      refine y_st rfl rfl rfl rfl rfl (fun _ _ => rfl) ?_
      show yP (xg xs) (d + 1) 340 101 [(3, .int (m.1 66 l1.toNatClampNeg)), (0, .ref 58), (1, .int l1), (2, .int l2)] [.int (0 : Int32), .int (31 : Int32), .ref 58] m2 Q
      refine y_headS (l2 := [(1, .int l1)]) [2] [1] [3, 0, 1, 2] rfl rfl (by decide) rfl (by decide) ?_
      exact H
    · replace H := H.2 h; clear h
      refine y_st rfl rfl rfl rfl rfl (fun _ _ => rfl) ?_
      refine y_st rfl rfl rfl rfl rfl (fun _ _ => rfl) ?_
      show yP (xg xs) (d + 1) 340 101 [(3, .int (m.1 66 l1.toNatClampNeg)), (0, .ref 58), (1, .int l1), (2, .int l2)] [.int (1 : Int32), .int (31 : Int32), .ref 58] m2 Q
      refine y_headS (l2 := [(1, .int l1)]) [2] [1] [3, 0, 1, 2] rfl rfl (by decide) rfl (by decide) ?_
      exact H
  replace H := H.2
  by_cases h13 : l2 = (13 : Int32)
  · replace H := H.1 h13
    refine y_tsw (t := 108) rfl rfl (by rw [h13]; rfl) ?_
    clear h13 h12
    refine y_st rfl rfl rfl rfl rfl (fun _ _ => rfl) ?_
    refine y_st rfl rfl rfl rfl rfl (fun _ _ => rfl) ?_
    refine y_st rfl rfl rfl rfl rfl (fun _ _ => rfl) ?_
    show yP (xg xs) (d + 1) 340 111 [(0, .ref 58), (1, .int l1), (2, .int l2)] [.int (2 : Int32), .int l1, .ref 58] m Q
    refine y_call rfl rfl rfl rfl rfl (Nat.le_of_ble_eq_true rfl) (Nat.le_of_ble_eq_true rfl) rfl (by decide) H (fun v3 m3 H => ?_)
    obtain ⟨u3, rfl, H⟩ := H
    refine y_st rfl rfl rfl rfl rfl (fun _ _ => rfl) ?_
    refine y_st rfl rfl rfl rfl rfl (fun _ _ => rfl) ?_
    show yP (xg xs) (d + 1) 340 313 [(3, .int u3), (0, .ref 58), (1, .int l1), (2, .int l2)] [] m3 Q
    exact y_ret rfl rfl rfl rfl H
  replace H := H.2
  by_cases h14 : l2 = (14 : Int32)
  · replace H := H.1 h14
    refine y_tsw (t := 118) rfl rfl (by rw [h14]; rfl) ?_
    clear h14 h13 h12
    refine y_st rfl rfl rfl rfl rfl (fun _ _ => rfl) ?_
    refine y_st rfl rfl rfl rfl rfl (fun _ _ => rfl) ?_
    show yP (xg xs) (d + 1) 340 120 [(0, .ref 58), (1, .int l1), (2, .int l2)] [.int l1, .ref 58] m Q
    refine y_call rfl rfl rfl rfl rfl (Nat.le_of_ble_eq_true rfl) (Nat.le_of_ble_eq_true rfl) rfl (by decide) H (fun v4 m4 H => ?_)
    obtain ⟨rfl, H⟩ := H
    refine y_st rfl rfl rfl rfl rfl (fun _ _ => rfl) ?_
    show yP (xg xs) (d + 1) 340 313 [(0, .ref 58), (1, .int l1), (2, .int l2)] [] m4 Q
    exact y_ret rfl rfl rfl rfl H
  replace H := H.2
  by_cases h15 : l2 = (15 : Int32)
  · replace H := H.1 h15
    refine y_tsw (t := 126) rfl rfl (by rw [h15]; rfl) ?_
    clear h15 h14 h13 h12
    refine y_st rfl rfl rfl rfl rfl (fun _ _ => rfl) ?_
    refine y_gf rfl rfl rfl rfl rfl ?_
    refine y_st rfl rfl rfl rfl rfl (fun _ _ => rfl) ?_
    show yP (xg xs) (d + 1) 340 131 [(0, .ref 58), (1, .int l1), (2, .int l2)] [.int l1, .ref 66] m Q
    refine y_iald rfl rfl rfl (H.1) ?_
    replace H := H.2
    refine y_st rfl rfl rfl rfl rfl (fun _ _ => rfl) ?_
    show yP (xg xs) (d + 1) 340 133 [(3, .int (m.1 66 l1.toNatClampNeg)), (0, .ref 58), (1, .int l1), (2, .int l2)] [] m Q
    refine y_headS (l2 := [(0, .ref 58), (1, .int l1), (3, .int (m.1 66 l1.toNatClampNeg))]) [1, 2, 0] [0, 1, 3] [3, 0, 1, 2] rfl rfl (by decide) rfl (by decide) ?_
    exact H
  replace H := H.2
  by_cases h16 : l2 = (16 : Int32)
  · replace H := H.1 h16
    refine y_tsw (t := 183) rfl rfl (by rw [h16]; rfl) ?_
    clear h16 h15 h14 h13 h12
    refine y_st rfl rfl rfl rfl rfl (fun _ _ => rfl) ?_
    refine y_st rfl rfl rfl rfl rfl (fun _ _ => rfl) ?_
    refine y_st rfl rfl rfl rfl rfl (fun _ _ => rfl) ?_
    refine y_gf rfl rfl rfl rfl rfl ?_
    refine y_st rfl rfl rfl rfl rfl (fun _ _ => rfl) ?_
    refine y_gf rfl rfl rfl rfl rfl ?_
    refine y_st rfl rfl rfl rfl rfl (fun _ _ => rfl) ?_
    show yP (xg xs) (d + 1) 340 195 [(0, .ref 58), (1, .int l1), (2, .int l2)] [.int l1, .ref 66, .ref 84, .int (34 : Int32), .ref 58] m Q
    refine y_iald rfl rfl rfl (H.1) ?_
    replace H := H.2
    show yP (xg xs) (d + 1) 340 196 [(0, .ref 58), (1, .int l1), (2, .int l2)] [.int (m.1 66 l1.toNatClampNeg), .ref 84, .int (34 : Int32), .ref 58] m Q
    refine y_iald rfl rfl rfl (H.1) ?_
    replace H := H.2
    show yP (xg xs) (d + 1) 340 197 [(0, .ref 58), (1, .int l1), (2, .int l2)] [.int (m.1 84 ((m.1 66 l1.toNatClampNeg).toNatClampNeg)), .int (34 : Int32), .ref 58] m Q
    refine y_zne (t := 204) rfl rfl rfl (fun h => ?_) (fun h => ?_)
    · replace H := H.1 h; clear h
      refine y_st rfl rfl rfl rfl rfl (fun _ _ => rfl) ?_
      show yP (xg xs) (d + 1) 340 205 [(0, .ref 58), (1, .int l1), (2, .int l2)] [.int (0 : Int32), .int (34 : Int32), .ref 58] m Q
      refine y_headS (l2 := [(1, .int l1)]) [1] [1] [0, 1, 2] rfl rfl (by decide) rfl (by decide) ?_
      exact H
    · replace H := H.2 h; clear h
      refine y_st rfl rfl rfl rfl rfl (fun _ _ => rfl) ?_
      refine y_st rfl rfl rfl rfl rfl (fun _ _ => rfl) ?_
      show yP (xg xs) (d + 1) 340 205 [(0, .ref 58), (1, .int l1), (2, .int l2)] [.int (1 : Int32), .int (34 : Int32), .ref 58] m Q
      refine y_headS (l2 := [(1, .int l1)]) [1] [1] [0, 1, 2] rfl rfl (by decide) rfl (by decide) ?_
      exact H
  replace H := H.2
  by_cases h18 : l2 = (18 : Int32)
  · replace H := H.1 h18
    refine y_tsw (t := 212) rfl rfl (by rw [h18]; rfl) ?_
    clear h18 h16 h15 h14 h13 h12
    refine y_st rfl rfl rfl rfl rfl (fun _ _ => rfl) ?_
    refine y_gf rfl rfl rfl rfl rfl ?_
    refine y_st rfl rfl rfl rfl rfl (fun _ _ => rfl) ?_
    show yP (xg xs) (d + 1) 340 217 [(0, .ref 58), (1, .int l1), (2, .int l2)] [.int l1, .ref 66] m Q
    refine y_iald rfl rfl rfl (H.1) ?_
    replace H := H.2
    refine y_st rfl rfl rfl rfl rfl (fun _ _ => rfl) ?_
    refine y_st rfl rfl rfl rfl rfl (fun _ _ => rfl) ?_
    refine y_gf rfl rfl rfl rfl rfl ?_
    refine y_st rfl rfl rfl rfl rfl (fun _ _ => rfl) ?_
    show yP (xg xs) (d + 1) 340 224 [(3, .int (m.1 66 l1.toNatClampNeg)), (0, .ref 58), (1, .int l1), (2, .int l2)] [.int l1, .ref 67] m Q
    refine y_iald rfl rfl rfl (H.1) ?_
    replace H := H.2
    refine y_st rfl rfl rfl rfl rfl (fun _ _ => rfl) ?_
    refine y_st rfl rfl rfl rfl rfl (fun _ _ => rfl) ?_
    refine y_st rfl rfl rfl rfl rfl (fun _ _ => rfl) ?_
    refine y_st rfl rfl rfl rfl rfl (fun _ _ => rfl) ?_
    refine y_gf rfl rfl rfl rfl rfl ?_
    refine y_st rfl rfl rfl rfl rfl (fun _ _ => rfl) ?_
    show yP (xg xs) (d + 1) 340 235 [(4, .int (m.1 67 l1.toNatClampNeg)), (3, .int (m.1 66 l1.toNatClampNeg)), (0, .ref 58), (1, .int l1), (2, .int l2)] [.int (m.1 66 l1.toNatClampNeg), .ref 62, .int (35 : Int32), .ref 58] m Q
    refine y_iald rfl rfl rfl (H.1) ?_
    replace H := H.2
    refine y_st rfl rfl rfl rfl rfl (fun _ _ => rfl) ?_
    show yP (xg xs) (d + 1) 340 238 [(4, .int (m.1 67 l1.toNatClampNeg)), (3, .int (m.1 66 l1.toNatClampNeg)), (0, .ref 58), (1, .int l1), (2, .int l2)] [.int (31 : Int32), .int (m.1 62 ((m.1 66 l1.toNatClampNeg).toNatClampNeg)), .int (35 : Int32), .ref 58] m Q
    refine y_ieq (t := 269) rfl rfl rfl (fun h => ?_) (fun h => ?_)
    · replace H := H.1 h; clear h
      show yP (xg xs) (d + 1) 340 269 [(4, .int (m.1 67 l1.toNatClampNeg)), (3, .int (m.1 66 l1.toNatClampNeg)), (0, .ref 58), (1, .int l1), (2, .int l2)] [.int (35 : Int32), .ref 58] m Q
      refine y_headS (l2 := [(1, .int l1)]) [3] [1] [4, 3, 0, 1, 2] rfl rfl (by decide) rfl (by decide) ?_
      exact H
    · replace H := H.2 h; clear h
      refine y_st rfl rfl rfl rfl rfl (fun _ _ => rfl) ?_
      refine y_gf rfl rfl rfl rfl rfl ?_
      refine y_st rfl rfl rfl rfl rfl (fun _ _ => rfl) ?_
      show yP (xg xs) (d + 1) 340 247 [(4, .int (m.1 67 l1.toNatClampNeg)), (3, .int (m.1 66 l1.toNatClampNeg)), (0, .ref 58), (1, .int l1), (2, .int l2)] [.int (m.1 67 l1.toNatClampNeg), .ref 62, .int (35 : Int32), .ref 58] m Q
      refine y_iald rfl rfl rfl (H.1) ?_
      replace H := H.2
      refine y_st rfl rfl rfl rfl rfl (fun _ _ => rfl) ?_
      show yP (xg xs) (d + 1) 340 250 [(4, .int (m.1 67 l1.toNatClampNeg)), (3, .int (m.1 66 l1.toNatClampNeg)), (0, .ref 58), (1, .int l1), (2, .int l2)] [.int (31 : Int32), .int (m.1 62 ((m.1 67 l1.toNatClampNeg).toNatClampNeg)), .int (35 : Int32), .ref 58] m Q
      refine y_ieq (t := 269) rfl rfl rfl (fun h => ?_) (fun h => ?_)
      · replace H := H.1 h; clear h
        show yP (xg xs) (d + 1) 340 269 [(4, .int (m.1 67 l1.toNatClampNeg)), (3, .int (m.1 66 l1.toNatClampNeg)), (0, .ref 58), (1, .int l1), (2, .int l2)] [.int (35 : Int32), .ref 58] m Q
        refine y_headS (l2 := [(1, .int l1)]) [3] [1] [4, 3, 0, 1, 2] rfl rfl (by decide) rfl (by decide) ?_
        exact H
      · replace H := H.2 h; clear h
        refine y_st rfl rfl rfl rfl rfl (fun _ _ => rfl) ?_
        refine y_gf rfl rfl rfl rfl rfl ?_
        refine y_st rfl rfl rfl rfl rfl (fun _ _ => rfl) ?_
        show yP (xg xs) (d + 1) 340 258 [(4, .int (m.1 67 l1.toNatClampNeg)), (3, .int (m.1 66 l1.toNatClampNeg)), (0, .ref 58), (1, .int l1), (2, .int l2)] [.int (m.1 66 l1.toNatClampNeg), .ref 64, .int (35 : Int32), .ref 58] m Q
        refine y_iald rfl rfl rfl (H.1) ?_
        replace H := H.2
        refine y_st rfl rfl rfl rfl rfl (fun _ _ => rfl) ?_
        refine y_gf rfl rfl rfl rfl rfl ?_
        refine y_st rfl rfl rfl rfl rfl (fun _ _ => rfl) ?_
        show yP (xg xs) (d + 1) 340 265 [(4, .int (m.1 67 l1.toNatClampNeg)), (3, .int (m.1 66 l1.toNatClampNeg)), (0, .ref 58), (1, .int l1), (2, .int l2)] [.int (m.1 67 l1.toNatClampNeg), .ref 64, .int (m.1 64 ((m.1 66 l1.toNatClampNeg).toNatClampNeg)), .int (35 : Int32), .ref 58] m Q
        refine y_iald rfl rfl rfl (H.1) ?_
        replace H := H.2
        show yP (xg xs) (d + 1) 340 266 [(4, .int (m.1 67 l1.toNatClampNeg)), (3, .int (m.1 66 l1.toNatClampNeg)), (0, .ref 58), (1, .int l1), (2, .int l2)] [.int (m.1 64 ((m.1 67 l1.toNatClampNeg).toNatClampNeg)), .int (m.1 64 ((m.1 66 l1.toNatClampNeg).toNatClampNeg)), .int (35 : Int32), .ref 58] m Q
        refine y_ile (t := 273) rfl rfl rfl (fun h => ?_) (fun h => ?_)
        · replace H := H.1 h; clear h
          refine y_st rfl rfl rfl rfl rfl (fun _ _ => rfl) ?_
          show yP (xg xs) (d + 1) 340 274 [(4, .int (m.1 67 l1.toNatClampNeg)), (3, .int (m.1 66 l1.toNatClampNeg)), (0, .ref 58), (1, .int l1), (2, .int l2)] [.int (0 : Int32), .int (35 : Int32), .ref 58] m Q
          refine y_headS (l2 := [(1, .int l1)]) [3] [1] [4, 3, 0, 1, 2] rfl rfl (by decide) rfl (by decide) ?_
          exact H
        · replace H := H.2 h; clear h
          show yP (xg xs) (d + 1) 340 269 [(4, .int (m.1 67 l1.toNatClampNeg)), (3, .int (m.1 66 l1.toNatClampNeg)), (0, .ref 58), (1, .int l1), (2, .int l2)] [.int (35 : Int32), .ref 58] m Q
          refine y_headS (l2 := [(1, .int l1)]) [3] [1] [4, 3, 0, 1, 2] rfl rfl (by decide) rfl (by decide) ?_
          exact H
  replace H := H.2
  by_cases h19 : l2 = (19 : Int32)
  · replace H := H.1 h19
    refine y_tsw (t := 281) rfl rfl (by rw [h19]; rfl) ?_
    clear h19 h18 h16 h15 h14 h13 h12
    refine y_st rfl rfl rfl rfl rfl (fun _ _ => rfl) ?_
    refine y_st rfl rfl rfl rfl rfl (fun _ _ => rfl) ?_
    show yP (xg xs) (d + 1) 340 283 [(0, .ref 58), (1, .int l1), (2, .int l2)] [.int l1, .ref 58] m Q
    refine y_call rfl rfl rfl rfl rfl (Nat.le_of_ble_eq_true rfl) (Nat.le_of_ble_eq_true rfl) rfl (by decide) H (fun v5 m5 H => ?_)
    obtain ⟨rfl, H⟩ := H
    refine y_st rfl rfl rfl rfl rfl (fun _ _ => rfl) ?_
    show yP (xg xs) (d + 1) 340 313 [(0, .ref 58), (1, .int l1), (2, .int l2)] [] m5 Q
    exact y_ret rfl rfl rfl rfl H
  replace H := H.2
  by_cases h20 : l2 = (20 : Int32)
  · replace H := H.1 h20
    refine y_tsw (t := 289) rfl rfl (by rw [h20]; rfl) ?_
    clear h20 h19 h18 h16 h15 h14 h13 h12
    refine y_st rfl rfl rfl rfl rfl (fun _ _ => rfl) ?_
    refine y_st rfl rfl rfl rfl rfl (fun _ _ => rfl) ?_
    refine y_st rfl rfl rfl rfl rfl (fun _ _ => rfl) ?_
    refine y_st rfl rfl rfl rfl rfl (fun _ _ => rfl) ?_
    refine y_st rfl rfl rfl rfl rfl (fun _ _ => rfl) ?_
    show yP (xg xs) (d + 1) 340 295 [(0, .ref 58), (1, .int l1), (2, .int l2)] [.int ((-1) : Int32), .int l1, .ref 58, .int (37 : Int32), .ref 58] m Q
    refine y_call rfl rfl rfl rfl rfl (Nat.le_of_ble_eq_true rfl) (Nat.le_of_ble_eq_true rfl) rfl (by decide) H (fun v6 m6 H => ?_)
    obtain ⟨u6, rfl, H⟩ := H
    show yP (xg xs) (d + 1) 340 298 [(0, .ref 58), (1, .int l1), (2, .int l2)] [.int u6, .int (37 : Int32), .ref 58] m6 Q
    refine y_zne (t := 305) rfl rfl rfl (fun h => ?_) (fun h => ?_)
    · replace H := H.1 h; clear h
      refine y_st rfl rfl rfl rfl rfl (fun _ _ => rfl) ?_
      show yP (xg xs) (d + 1) 340 306 [(0, .ref 58), (1, .int l1), (2, .int l2)] [.int (0 : Int32), .int (37 : Int32), .ref 58] m6 Q
      refine y_headS (l2 := [(1, .int l1)]) [1] [1] [0, 1, 2] rfl rfl (by decide) rfl (by decide) ?_
      exact H
    · replace H := H.2 h; clear h
      refine y_st rfl rfl rfl rfl rfl (fun _ _ => rfl) ?_
      refine y_st rfl rfl rfl rfl rfl (fun _ _ => rfl) ?_
      show yP (xg xs) (d + 1) 340 306 [(0, .ref 58), (1, .int l1), (2, .int l2)] [.int (1 : Int32), .int (37 : Int32), .ref 58] m6 Q
      refine y_headS (l2 := [(1, .int l1)]) [1] [1] [0, 1, 2] rfl rfl (by decide) rfl (by decide) ?_
      exact H
  replace H := H.2
  refine y_tsw (t := 313) rfl rfl (by have g0 := ne_lit (12 : Int32) 12 rfl h12; have g1 := ne_lit (13 : Int32) 13 rfl h13; have g2 := ne_lit (14 : Int32) 14 rfl h14; have g3 := ne_lit (15 : Int32) 15 rfl h15; have g4 := ne_lit (16 : Int32) 16 rfl h16; have g5 := ne_lit (18 : Int32) 18 rfl h18; have g6 := ne_lit (19 : Int32) 19 rfl h19; have g7 := ne_lit (20 : Int32) 20 rfl h20; by_cases z : (l2).toInt < 12 ∨ 20 < (l2).toInt; exact (if_pos z).trans rfl; rw [if_neg z]; rcases (by omega : (l2).toInt = 17) with e <;> rw [e] <;> rfl) ?_
  replace H := H h12 h13 h14 h15 h16 h18 h19 h20
  clear h20 h19 h18 h16 h15 h14 h13 h12
  show yP (xg xs) (d + 1) 340 313 [(0, .ref 58), (1, .int l1), (2, .int l2)] [] m Q
  exact y_ret rfl rfl rfl rfl H
set_option maxRecDepth 20000 in
/-- CodeMakerModel.judgeStatement from 101 on -/
theorem w340_101 (xs : List Int32) (d : Nat) (l1 : Int32) (s1 : Int32) (s2 : Int32) (m : yM) (Q : Option Value → yM → Prop) (H : (yC (xg xs) d 323 [.ref 58, .int s1, .int s2, .int l1] m (fun v1 m1 => v1 = none ∧ Q none m1))) : yP (xg xs) (d + 1) 340 101 [(1, .int l1)] [.int s2, .int s1, .ref 58] m Q := by
  refine y_st rfl rfl rfl rfl rfl (fun _ _ => rfl) ?_
  show yP (xg xs) (d + 1) 340 102 [(1, .int l1)] [.int l1, .int s2, .int s1, .ref 58] m Q
  refine y_call rfl rfl rfl rfl rfl (Nat.le_of_ble_eq_true rfl) (Nat.le_of_ble_eq_true rfl) rfl (by decide) H (fun v1 m1 H => ?_)
  obtain ⟨rfl, H⟩ := H
  refine y_st rfl rfl rfl rfl rfl (fun _ _ => rfl) ?_
  show yP (xg xs) (d + 1) 340 313 [(1, .int l1)] [] m1 Q
  exact y_ret rfl rfl rfl rfl H
set_option maxRecDepth 20000 in
/-- CodeMakerModel.judgeStatement from 133 on -/
theorem w340_133 (xs : List Int32) (d : Nat) (l1 : Int32) (l3 : Int32) (m : yM) (Q : Option Value → yM → Prop) (H : ((l3 = ((-1) : Int32) → Q none m) ∧ (¬ l3 = ((-1) : Int32) → (x_in l3 20000 = true ∧ (((m.1 62 l3.toNatClampNeg) = (11 : Int32) → yP (xg xs) (d + 1) 340 165 [(0, .ref 58), (1, .int l1), (3, .int l3)] [.int (34 : Int32), .ref 58] m Q) ∧ (¬ (m.1 62 l3.toNatClampNeg) = (11 : Int32) → (x_in l3 20000 = true ∧ (((m.1 84 l3.toNatClampNeg) = 0 → yP (xg xs) (d + 1) 340 165 [(0, .ref 58), (1, .int l1), (3, .int l3)] [.int (34 : Int32), .ref 58] m Q) ∧ (¬ (m.1 84 l3.toNatClampNeg) = 0 → yP (xg xs) (d + 1) 340 166 [(0, .ref 58), (1, .int l1), (3, .int l3)] [.int (1 : Int32), .int (34 : Int32), .ref 58] m Q))))))))) : yP (xg xs) (d + 1) 340 133 [(0, .ref 58), (1, .int l1), (3, .int l3)] [] m Q := by
  refine y_st rfl rfl rfl rfl rfl (fun _ _ => rfl) ?_
  refine y_st rfl rfl rfl rfl rfl (fun _ _ => rfl) ?_
  show yP (xg xs) (d + 1) 340 135 [(0, .ref 58), (1, .int l1), (3, .int l3)] [.int ((-1) : Int32), .int l3] m Q
  refine y_ieq (t := 180) rfl rfl rfl (fun h => ?_) (fun h => ?_)
  · replace H := H.1 h; clear h
    refine y_st rfl rfl rfl rfl rfl (fun _ _ => rfl) ?_
    show yP (xg xs) (d + 1) 340 313 [(0, .ref 58), (1, .int l1), (3, .int l3)] [] m Q
    exact y_ret rfl rfl rfl rfl H
  · replace H := H.2 h; clear h
    refine y_st rfl rfl rfl rfl rfl (fun _ _ => rfl) ?_
    refine y_st rfl rfl rfl rfl rfl (fun _ _ => rfl) ?_
    refine y_st rfl rfl rfl rfl rfl (fun _ _ => rfl) ?_
    refine y_gf rfl rfl rfl rfl rfl ?_
    refine y_st rfl rfl rfl rfl rfl (fun _ _ => rfl) ?_
    show yP (xg xs) (d + 1) 340 146 [(0, .ref 58), (1, .int l1), (3, .int l3)] [.int l3, .ref 62, .int (34 : Int32), .ref 58] m Q
    refine y_iald rfl rfl rfl (H.1) ?_
    replace H := H.2
    refine y_st rfl rfl rfl rfl rfl (fun _ _ => rfl) ?_
    show yP (xg xs) (d + 1) 340 149 [(0, .ref 58), (1, .int l1), (3, .int l3)] [.int (11 : Int32), .int (m.1 62 l3.toNatClampNeg), .int (34 : Int32), .ref 58] m Q
    refine y_ieq (t := 165) rfl rfl rfl (fun h => ?_) (fun h => ?_)
    · replace H := H.1 h; clear h
      show yP (xg xs) (d + 1) 340 165 [(0, .ref 58), (1, .int l1), (3, .int l3)] [.int (34 : Int32), .ref 58] m Q
      exact H
    · replace H := H.2 h; clear h
      refine y_st rfl rfl rfl rfl rfl (fun _ _ => rfl) ?_
      refine y_gf rfl rfl rfl rfl rfl ?_
      refine y_st rfl rfl rfl rfl rfl (fun _ _ => rfl) ?_
      show yP (xg xs) (d + 1) 340 157 [(0, .ref 58), (1, .int l1), (3, .int l3)] [.int l3, .ref 84, .int (34 : Int32), .ref 58] m Q
      refine y_iald rfl rfl rfl (H.1) ?_
      replace H := H.2
      show yP (xg xs) (d + 1) 340 158 [(0, .ref 58), (1, .int l1), (3, .int l3)] [.int (m.1 84 l3.toNatClampNeg), .int (34 : Int32), .ref 58] m Q
      refine y_zeq (t := 165) rfl rfl rfl (fun h => ?_) (fun h => ?_)
      · replace H := H.1 h; clear h
        show yP (xg xs) (d + 1) 340 165 [(0, .ref 58), (1, .int l1), (3, .int l3)] [.int (34 : Int32), .ref 58] m Q
        exact H
      · replace H := H.2 h; clear h
        refine y_st rfl rfl rfl rfl rfl (fun _ _ => rfl) ?_
        refine y_st rfl rfl rfl rfl rfl (fun _ _ => rfl) ?_
        show yP (xg xs) (d + 1) 340 166 [(0, .ref 58), (1, .int l1), (3, .int l3)] [.int (1 : Int32), .int (34 : Int32), .ref 58] m Q
        exact H
set_option maxRecDepth 20000 in
/-- CodeMakerModel.judgeStatement from 165 on -/
theorem w340_165 (xs : List Int32) (d : Nat) (l1 : Int32) (l3 : Int32) (s1 : Int32) (m : yM) (Q : Option Value → yM → Prop) (H : yP (xg xs) (d + 1) 340 166 [(0, .ref 58), (1, .int l1), (3, .int l3)] [.int (0 : Int32), .int s1, .ref 58] m Q) : yP (xg xs) (d + 1) 340 165 [(0, .ref 58), (1, .int l1), (3, .int l3)] [.int s1, .ref 58] m Q := by
  refine y_st rfl rfl rfl rfl rfl (fun _ _ => rfl) ?_
  show yP (xg xs) (d + 1) 340 166 [(0, .ref 58), (1, .int l1), (3, .int l3)] [.int (0 : Int32), .int s1, .ref 58] m Q
  exact H
set_option maxRecDepth 20000 in
/-- CodeMakerModel.judgeStatement from 166 on -/
theorem w340_166 (xs : List Int32) (d : Nat) (l1 : Int32) (l3 : Int32) (s1 : Int32) (s2 : Int32) (m : yM) (Q : Option Value → yM → Prop) (H : (yC (xg xs) d 323 [.ref 58, .int s1, .int s2, .int l1] m (fun v1 m1 => v1 = none ∧ (x_in l3 20000 = true ∧ yP (xg xs) (d + 1) 340 133 [(0, .ref 58), (1, .int l1), (3, .int (m1.1 68 l3.toNatClampNeg))] [] m1 Q)))) : yP (xg xs) (d + 1) 340 166 [(0, .ref 58), (1, .int l1), (3, .int l3)] [.int s2, .int s1, .ref 58] m Q := by
  refine y_st rfl rfl rfl rfl rfl (fun _ _ => rfl) ?_
  show yP (xg xs) (d + 1) 340 167 [(0, .ref 58), (1, .int l1), (3, .int l3)] [.int l1, .int s2, .int s1, .ref 58] m Q
  refine y_call rfl rfl rfl rfl rfl (Nat.le_of_ble_eq_true rfl) (Nat.le_of_ble_eq_true rfl) rfl (by decide) H (fun v1 m1 H => ?_)
  obtain ⟨rfl, H⟩ := H
  refine y_st rfl rfl rfl rfl rfl (fun _ _ => rfl) ?_
  refine y_gf rfl rfl rfl rfl rfl ?_
  refine y_st rfl rfl rfl rfl rfl (fun _ _ => rfl) ?_
  show yP (xg xs) (d + 1) 340 175 [(0, .ref 58), (1, .int l1), (3, .int l3)] [.int l3, .ref 68] m1 Q
  refine y_iald rfl rfl rfl (H.1) ?_
  replace H := H.2
  refine y_st rfl rfl rfl rfl rfl (fun _ _ => rfl) ?_
  refine y_st rfl rfl rfl rfl rfl (fun _ _ => rfl) ?_
  show yP (xg xs) (d + 1) 340 133 [(3, .int (m1.1 68 l3.toNatClampNeg)), (0, .ref 58), (1, .int l1)] [] m1 Q
  refine y_headS (l2 := [(0, .ref 58), (1, .int l1), (3, .int (m1.1 68 l3.toNatClampNeg))]) [1, 2, 0] [0, 1, 3] [3, 0, 1] rfl rfl (by decide) rfl (by decide) ?_
  exact H
set_option maxRecDepth 20000 in
/-- CodeMakerModel.judgeStatement from 205 on -/
theorem w340_205 (xs : List Int32) (d : Nat) (l1 : Int32) (s1 : Int32) (s2 : Int32) (m : yM) (Q : Option Value → yM → Prop) (H : (yC (xg xs) d 323 [.ref 58, .int s1, .int s2, .int l1] m (fun v1 m1 => v1 = none ∧ Q none m1))) : yP (xg xs) (d + 1) 340 205 [(1, .int l1)] [.int s2, .int s1, .ref 58] m Q := by
  refine y_st rfl rfl rfl rfl rfl (fun _ _ => rfl) ?_
  show yP (xg xs) (d + 1) 340 206 [(1, .int l1)] [.int l1, .int s2, .int s1, .ref 58] m Q
  refine y_call rfl rfl rfl rfl rfl (Nat.le_of_ble_eq_true rfl) (Nat.le_of_ble_eq_true rfl) rfl (by decide) H (fun v1 m1 H => ?_)
  obtain ⟨rfl, H⟩ := H
  refine y_st rfl rfl rfl rfl rfl (fun _ _ => rfl) ?_
  show yP (xg xs) (d + 1) 340 313 [(1, .int l1)] [] m1 Q
  exact y_ret rfl rfl rfl rfl H
set_option maxRecDepth 20000 in
/-- CodeMakerModel.judgeStatement from 269 on -/
theorem w340_269 (xs : List Int32) (d : Nat) (l1 : Int32) (s1 : Int32) (m : yM) (Q : Option Value → yM → Prop) (H : yP (xg xs) (d + 1) 340 274 [(1, .int l1)] [.int (1 : Int32), .int s1, .ref 58] m Q) : yP (xg xs) (d + 1) 340 269 [(1, .int l1)] [.int s1, .ref 58] m Q := by
  refine y_st rfl rfl rfl rfl rfl (fun _ _ => rfl) ?_
  refine y_st rfl rfl rfl rfl rfl (fun _ _ => rfl) ?_
  show yP (xg xs) (d + 1) 340 274 [(1, .int l1)] [.int (1 : Int32), .int s1, .ref 58] m Q
  exact H
set_option maxRecDepth 20000 in
/-- CodeMakerModel.judgeStatement from 274 on -/
theorem w340_274 (xs : List Int32) (d : Nat) (l1 : Int32) (s1 : Int32) (s2 : Int32) (m : yM) (Q : Option Value → yM → Prop) (H : (yC (xg xs) d 323 [.ref 58, .int s1, .int s2, .int l1] m (fun v1 m1 => v1 = none ∧ Q none m1))) : yP (xg xs) (d + 1) 340 274 [(1, .int l1)] [.int s2, .int s1, .ref 58] m Q := by
  refine y_st rfl rfl rfl rfl rfl (fun _ _ => rfl) ?_
  show yP (xg xs) (d + 1) 340 275 [(1, .int l1)] [.int l1, .int s2, .int s1, .ref 58] m Q
  refine y_call rfl rfl rfl rfl rfl (Nat.le_of_ble_eq_true rfl) (Nat.le_of_ble_eq_true rfl) rfl (by decide) H (fun v1 m1 H => ?_)
  obtain ⟨rfl, H⟩ := H
  refine y_st rfl rfl rfl rfl rfl (fun _ _ => rfl) ?_
  show yP (xg xs) (d + 1) 340 313 [(1, .int l1)] [] m1 Q
  exact y_ret rfl rfl rfl rfl H
set_option maxRecDepth 20000 in
/-- CodeMakerModel.judgeStatement from 306 on -/
theorem w340_306 (xs : List Int32) (d : Nat) (l1 : Int32) (s1 : Int32) (s2 : Int32) (m : yM) (Q : Option Value → yM → Prop) (H : (yC (xg xs) d 323 [.ref 58, .int s1, .int s2, .int l1] m (fun v1 m1 => v1 = none ∧ Q none m1))) : yP (xg xs) (d + 1) 340 306 [(1, .int l1)] [.int s2, .int s1, .ref 58] m Q := by
  refine y_st rfl rfl rfl rfl rfl (fun _ _ => rfl) ?_
  show yP (xg xs) (d + 1) 340 307 [(1, .int l1)] [.int l1, .int s2, .int s1, .ref 58] m Q
  refine y_call rfl rfl rfl rfl rfl (Nat.le_of_ble_eq_true rfl) (Nat.le_of_ble_eq_true rfl) rfl (by decide) H (fun v1 m1 H => ?_)
  obtain ⟨rfl, H⟩ := H
  refine y_st rfl rfl rfl rfl rfl (fun _ _ => rfl) ?_
  show yP (xg xs) (d + 1) 340 313 [(1, .int l1)] [] m1 Q
  exact y_ret rfl rfl rfl rfl H
set_option maxRecDepth 20000 in
/-- CodeMakerModel.assigned from 0 on -/
theorem w341_0 (xs : List Int32) (d : Nat) (l1 : Int32) (l2 : Int32) (m : yM) (Q : Option Value → yM → Prop) (H : (x_in l2 4700 = true ∧ (((m.1 81 l2.toNatClampNeg) = (1 : Int32) → yP (xg xs) (d + 1) 341 38 [(0, .ref 58), (1, .int l1), (2, .int l2)] [.int (29 : Int32), .ref 58] m Q) ∧ (¬ (m.1 81 l2.toNatClampNeg) = (1 : Int32) → (x_in l2 4700 = true ∧ (((m.1 82 l2.toNatClampNeg) = ((-1) : Int32) → yP (xg xs) (d + 1) 341 42 [(0, .ref 58), (1, .int l1), (2, .int l2)] [.int (29 : Int32), .ref 58] m Q) ∧ (¬ (m.1 82 l2.toNatClampNeg) = ((-1) : Int32) → (x_in l2 4700 = true ∧ (¬ (256 : Int32) = 0 ∧ (¬ (3 : Int32) = 0 ∧ ((¬ (((m.1 82 l2.toNatClampNeg) / (256 : Int32)) - ((m.1 82 l2.toNatClampNeg) / (256 : Int32)) / (3 : Int32) * (3 : Int32)) = 0 → yP (xg xs) (d + 1) 341 42 [(0, .ref 58), (1, .int l1), (2, .int l2)] [.int (29 : Int32), .ref 58] m Q) ∧ ((((m.1 82 l2.toNatClampNeg) / (256 : Int32)) - ((m.1 82 l2.toNatClampNeg) / (256 : Int32)) / (3 : Int32) * (3 : Int32)) = 0 → yP (xg xs) (d + 1) 341 38 [(0, .ref 58), (1, .int l1), (2, .int l2)] [.int (29 : Int32), .ref 58] m Q)))))))))))) : yP (xg xs) (d + 1) 341 0 [(0, .ref 58), (1, .int l1), (2, .int l2)] [] m Q := by
  refine y_st rfl rfl rfl rfl rfl (fun _ _ => rfl) ?_
  refine y_st rfl rfl rfl rfl rfl (fun _ _ => rfl) ?_
  refine y_st rfl rfl rfl rfl rfl (fun _ _ => rfl) ?_
  refine y_gf rfl rfl rfl rfl rfl ?_
  refine y_st rfl rfl rfl rfl rfl (fun _ _ => rfl) ?_
  show yP (xg xs) (d + 1) 341 8 [(0, .ref 58), (1, .int l1), (2, .int l2)] [.int l2, .ref 81, .int (29 : Int32), .ref 58] m Q
  refine y_iald rfl rfl rfl (H.1) ?_
  replace H := H.2
  refine y_st rfl rfl rfl rfl rfl (fun _ _ => rfl) ?_
  show yP (xg xs) (d + 1) 341 10 [(0, .ref 58), (1, .int l1), (2, .int l2)] [.int (1 : Int32), .int (m.1 81 l2.toNatClampNeg), .int (29 : Int32), .ref 58] m Q
  refine y_ieq (t := 38) rfl rfl rfl (fun h => ?_) (fun h => ?_)
  · replace H := H.1 h; clear h
    show yP (xg xs) (d + 1) 341 38 [(0, .ref 58), (1, .int l1), (2, .int l2)] [.int (29 : Int32), .ref 58] m Q
    exact H
  · replace H := H.2 h; clear h
    refine y_st rfl rfl rfl rfl rfl (fun _ _ => rfl) ?_
    refine y_gf rfl rfl rfl rfl rfl ?_
    refine y_st rfl rfl rfl rfl rfl (fun _ _ => rfl) ?_
    show yP (xg xs) (d + 1) 341 18 [(0, .ref 58), (1, .int l1), (2, .int l2)] [.int l2, .ref 82, .int (29 : Int32), .ref 58] m Q
    refine y_iald rfl rfl rfl (H.1) ?_
    replace H := H.2
    refine y_st rfl rfl rfl rfl rfl (fun _ _ => rfl) ?_
    show yP (xg xs) (d + 1) 341 20 [(0, .ref 58), (1, .int l1), (2, .int l2)] [.int ((-1) : Int32), .int (m.1 82 l2.toNatClampNeg), .int (29 : Int32), .ref 58] m Q
    refine y_ieq (t := 42) rfl rfl rfl (fun h => ?_) (fun h => ?_)
    · replace H := H.1 h; clear h
      show yP (xg xs) (d + 1) 341 42 [(0, .ref 58), (1, .int l1), (2, .int l2)] [.int (29 : Int32), .ref 58] m Q
      exact H
    · replace H := H.2 h; clear h
      refine y_st rfl rfl rfl rfl rfl (fun _ _ => rfl) ?_
      refine y_gf rfl rfl rfl rfl rfl ?_
      refine y_st rfl rfl rfl rfl rfl (fun _ _ => rfl) ?_
      show yP (xg xs) (d + 1) 341 28 [(0, .ref 58), (1, .int l1), (2, .int l2)] [.int l2, .ref 82, .int (29 : Int32), .ref 58] m Q
      refine y_iald rfl rfl rfl (H.1) ?_
      replace H := H.2
      refine y_st rfl rfl rfl rfl rfl (fun _ _ => rfl) ?_
      show yP (xg xs) (d + 1) 341 32 [(0, .ref 58), (1, .int l1), (2, .int l2)] [.int (256 : Int32), .int (m.1 82 l2.toNatClampNeg), .int (29 : Int32), .ref 58] m Q
      refine y_idiv rfl rfl H.1 ?_
      replace H := H.2
      refine y_st rfl rfl rfl rfl rfl (fun _ _ => rfl) ?_
      show yP (xg xs) (d + 1) 341 34 [(0, .ref 58), (1, .int l1), (2, .int l2)] [.int (3 : Int32), .int ((m.1 82 l2.toNatClampNeg) / (256 : Int32)), .int (29 : Int32), .ref 58] m Q
      refine y_irem rfl rfl H.1 ?_
      replace H := H.2
      show yP (xg xs) (d + 1) 341 35 [(0, .ref 58), (1, .int l1), (2, .int l2)] [.int (((m.1 82 l2.toNatClampNeg) / (256 : Int32)) - ((m.1 82 l2.toNatClampNeg) / (256 : Int32)) / (3 : Int32) * (3 : Int32)), .int (29 : Int32), .ref 58] m Q
      refine y_zne (t := 42) rfl rfl rfl (fun h => ?_) (fun h => ?_)
      · replace H := H.1 h; clear h
        show yP (xg xs) (d + 1) 341 42 [(0, .ref 58), (1, .int l1), (2, .int l2)] [.int (29 : Int32), .ref 58] m Q
        exact H
      · replace H := H.2 h; clear h
        show yP (xg xs) (d + 1) 341 38 [(0, .ref 58), (1, .int l1), (2, .int l2)] [.int (29 : Int32), .ref 58] m Q
        exact H
set_option maxRecDepth 20000 in
/-- CodeMakerModel.assigned from 38 on -/
theorem w341_38 (xs : List Int32) (d : Nat) (l1 : Int32) (l2 : Int32) (s1 : Int32) (m : yM) (Q : Option Value → yM → Prop) (H : yP (xg xs) (d + 1) 341 43 [(0, .ref 58), (1, .int l1), (2, .int l2)] [.int (1 : Int32), .int s1, .ref 58] m Q) : yP (xg xs) (d + 1) 341 38 [(0, .ref 58), (1, .int l1), (2, .int l2)] [.int s1, .ref 58] m Q := by
  refine y_st rfl rfl rfl rfl rfl (fun _ _ => rfl) ?_
  refine y_st rfl rfl rfl rfl rfl (fun _ _ => rfl) ?_
  show yP (xg xs) (d + 1) 341 43 [(0, .ref 58), (1, .int l1), (2, .int l2)] [.int (1 : Int32), .int s1, .ref 58] m Q
  exact H
set_option maxRecDepth 20000 in
/-- CodeMakerModel.assigned from 42 on -/
theorem w341_42 (xs : List Int32) (d : Nat) (l1 : Int32) (l2 : Int32) (s1 : Int32) (m : yM) (Q : Option Value → yM → Prop) (H : yP (xg xs) (d + 1) 341 43 [(0, .ref 58), (1, .int l1), (2, .int l2)] [.int (0 : Int32), .int s1, .ref 58] m Q) : yP (xg xs) (d + 1) 341 42 [(0, .ref 58), (1, .int l1), (2, .int l2)] [.int s1, .ref 58] m Q := by
  refine y_st rfl rfl rfl rfl rfl (fun _ _ => rfl) ?_
  show yP (xg xs) (d + 1) 341 43 [(0, .ref 58), (1, .int l1), (2, .int l2)] [.int (0 : Int32), .int s1, .ref 58] m Q
  exact H
set_option maxRecDepth 20000 in
/-- CodeMakerModel.assigned from 43 on -/
theorem w341_43 (xs : List Int32) (d : Nat) (l1 : Int32) (l2 : Int32) (s1 : Int32) (s2 : Int32) (m : yM) (Q : Option Value → yM → Prop) (H : (yC (xg xs) d 323 [.ref 58, .int s1, .int s2, .int l1] m (fun v1 m1 => v1 = none ∧ (x_in l2 4700 = true ∧ (yC (xg xs) d 342 [.ref 58, .int l1, .int (m1.1 75 l2.toNatClampNeg)] m1 (fun v2 m2 => ∃ u2, v2 = some (Value.int u2) ∧ (yC (xg xs) d 323 [.ref 58, .int (30 : Int32), .int u2, .int l1] m2 (fun v3 m3 => v3 = none ∧ Q none m3)))))))) : yP (xg xs) (d + 1) 341 43 [(0, .ref 58), (1, .int l1), (2, .int l2)] [.int s2, .int s1, .ref 58] m Q := by
  refine y_st rfl rfl rfl rfl rfl (fun _ _ => rfl) ?_
  show yP (xg xs) (d + 1) 341 44 [(0, .ref 58), (1, .int l1), (2, .int l2)] [.int l1, .int s2, .int s1, .ref 58] m Q
  refine y_call rfl rfl rfl rfl rfl (Nat.le_of_ble_eq_true rfl) (Nat.le_of_ble_eq_true rfl) rfl (by decide) H (fun v1 m1 H => ?_)
  obtain ⟨rfl, H⟩ := H
  refine y_st rfl rfl rfl rfl rfl (fun _ _ => rfl) ?_
  refine y_st rfl rfl rfl rfl rfl (fun _ _ => rfl) ?_
  refine y_st rfl rfl rfl rfl rfl (fun _ _ => rfl) ?_
  refine y_st rfl rfl rfl rfl rfl (fun _ _ => rfl) ?_
  refine y_st rfl rfl rfl rfl rfl (fun _ _ => rfl) ?_
  refine y_gf rfl rfl rfl rfl rfl ?_
  refine y_st rfl rfl rfl rfl rfl (fun _ _ => rfl) ?_
  show yP (xg xs) (d + 1) 341 57 [(0, .ref 58), (1, .int l1), (2, .int l2)] [.int l2, .ref 75, .int l1, .ref 58, .int (30 : Int32), .ref 58] m1 Q
  refine y_iald rfl rfl rfl (H.1) ?_
  replace H := H.2
  show yP (xg xs) (d + 1) 341 58 [(0, .ref 58), (1, .int l1), (2, .int l2)] [.int (m1.1 75 l2.toNatClampNeg), .int l1, .ref 58, .int (30 : Int32), .ref 58] m1 Q
  refine y_call rfl rfl rfl rfl rfl (Nat.le_of_ble_eq_true rfl) (Nat.le_of_ble_eq_true rfl) rfl (by decide) H (fun v2 m2 H => ?_)
  obtain ⟨u2, rfl, H⟩ := H
  refine y_st rfl rfl rfl rfl rfl (fun _ _ => rfl) ?_
  show yP (xg xs) (d + 1) 341 62 [(0, .ref 58), (1, .int l1), (2, .int l2)] [.int l1, .int u2, .int (30 : Int32), .ref 58] m2 Q
  refine y_call rfl rfl rfl rfl rfl (Nat.le_of_ble_eq_true rfl) (Nat.le_of_ble_eq_true rfl) rfl (by decide) H (fun v3 m3 H => ?_)
  obtain ⟨rfl, H⟩ := H
  show yP (xg xs) (d + 1) 341 65 [(0, .ref 58), (1, .int l1), (2, .int l2)] [] m3 Q
  exact y_ret rfl rfl rfl rfl H
set_option maxRecDepth 20000 in
/-- CodeMakerModel.standsIn from 0 on -/
theorem w342_0 (xs : List Int32) (d : Nat) (l1 : Int32) (l2 : Int32) (m : yM) (Q : Option Value → yM → Prop) (H : (x_in l1 20000 = true ∧ yP (xg xs) (d + 1) 342 10 [(0, .ref 58), (2, .int l2), (3, .int (0 : Int32)), (4, .int (m.1 65 l1.toNatClampNeg))] [] m Q)) : yP (xg xs) (d + 1) 342 0 [(0, .ref 58), (1, .int l1), (2, .int l2)] [] m Q := by
  refine y_st rfl rfl rfl rfl rfl (fun _ _ => rfl) ?_
  refine y_st rfl rfl rfl rfl rfl (fun _ _ => rfl) ?_
  refine y_st rfl rfl rfl rfl rfl (fun _ _ => rfl) ?_
  refine y_gf rfl rfl rfl rfl rfl ?_
  refine y_st rfl rfl rfl rfl rfl (fun _ _ => rfl) ?_
  show yP (xg xs) (d + 1) 342 7 [(3, .int (0 : Int32)), (0, .ref 58), (1, .int l1), (2, .int l2)] [.int l1, .ref 65] m Q
  refine y_iald rfl rfl rfl (H.1) ?_
  replace H := H.2
  refine y_st rfl rfl rfl rfl rfl (fun _ _ => rfl) ?_
  show yP (xg xs) (d + 1) 342 10 [(4, .int (m.1 65 l1.toNatClampNeg)), (3, .int (0 : Int32)), (0, .ref 58), (1, .int l1), (2, .int l2)] [] m Q
  refine y_headS (l2 := [(0, .ref 58), (2, .int l2), (3, .int (0 : Int32)), (4, .int (m.1 65 l1.toNatClampNeg))]) [2, 4, 1, 0] [0, 2, 3, 4] [4, 3, 0, 1, 2] rfl rfl (by decide) rfl (by decide) ?_
  exact H
set_option maxRecDepth 20000 in
/-- CodeMakerModel.standsIn from 10 on -/
theorem w342_10 (xs : List Int32) (d : Nat) (l2 : Int32) (l3 : Int32) (l4 : Int32) (m : yM) (Q : Option Value → yM → Prop) (H : ((l4 = ((-1) : Int32) → ((l3 = 0 ∨ l3 = 1) ∧ Q (some (.int l3)) m)) ∧ (¬ l4 = ((-1) : Int32) → ((¬ l3 = 0 → yP (xg xs) (d + 1) 342 48 [(0, .ref 58), (2, .int l2), (4, .int l4)] [] m Q) ∧ (l3 = 0 → (x_in l4 20000 = true ∧ ((¬ (m.1 62 l4.toNatClampNeg) = (19 : Int32) → yP (xg xs) (d + 1) 342 52 [(0, .ref 58), (2, .int l2), (4, .int l4)] [] m Q) ∧ ((m.1 62 l4.toNatClampNeg) = (19 : Int32) → ((l2 = ((-1) : Int32) → yP (xg xs) (d + 1) 342 48 [(0, .ref 58), (2, .int l2), (4, .int l4)] [] m Q) ∧ (¬ l2 = ((-1) : Int32) → (x_in l4 20000 = true ∧ ((¬ (m.1 64 l4.toNatClampNeg) = l2 → yP (xg xs) (d + 1) 342 52 [(0, .ref 58), (2, .int l2), (4, .int l4)] [] m Q) ∧ ((m.1 64 l4.toNatClampNeg) = l2 → yP (xg xs) (d + 1) 342 48 [(0, .ref 58), (2, .int l2), (4, .int l4)] [] m Q))))))))))))) : yP (xg xs) (d + 1) 342 10 [(0, .ref 58), (2, .int l2), (3, .int l3), (4, .int l4)] [] m Q := by
  refine y_st rfl rfl rfl rfl rfl (fun _ _ => rfl) ?_
  refine y_st rfl rfl rfl rfl rfl (fun _ _ => rfl) ?_
  show yP (xg xs) (d + 1) 342 13 [(0, .ref 58), (2, .int l2), (3, .int l3), (4, .int l4)] [.int ((-1) : Int32), .int l4] m Q
  refine y_ieq (t := 66) rfl rfl rfl (fun h => ?_) (fun h => ?_)
  · replace H := H.1 h; clear h
    refine y_st rfl rfl rfl rfl rfl (fun _ _ => rfl) ?_
    show yP (xg xs) (d + 1) 342 67 [(0, .ref 58), (2, .int l2), (3, .int l3), (4, .int l4)] [.int l3] m Q
    exact y_zret rfl rfl rfl H.1 H.2
  · replace H := H.2 h; clear h
    refine y_st rfl rfl rfl rfl rfl (fun _ _ => rfl) ?_
    show yP (xg xs) (d + 1) 342 17 [(0, .ref 58), (2, .int l2), (3, .int l3), (4, .int l4)] [.int l3] m Q
    refine y_zne (t := 48) rfl rfl rfl (fun h => ?_) (fun h => ?_)
    · replace H := H.1 h; clear h
      show yP (xg xs) (d + 1) 342 48 [(0, .ref 58), (2, .int l2), (3, .int l3), (4, .int l4)] [] m Q
      refine y_headS (l2 := [(0, .ref 58), (2, .int l2), (4, .int l4)]) [0, 1, 3] [0, 2, 4] [0, 2, 3, 4] rfl rfl (by decide) rfl (by decide) ?_
      exact H
    · replace H := H.2 h; clear h
      refine y_st rfl rfl rfl rfl rfl (fun _ _ => rfl) ?_
      refine y_gf rfl rfl rfl rfl rfl ?_
      refine y_st rfl rfl rfl rfl rfl (fun _ _ => rfl) ?_
      show yP (xg xs) (d + 1) 342 26 [(0, .ref 58), (2, .int l2), (3, .int l3), (4, .int l4)] [.int l4, .ref 62] m Q
      refine y_iald rfl rfl rfl (H.1) ?_
      replace H := H.2
      refine y_st rfl rfl rfl rfl rfl (fun _ _ => rfl) ?_
      show yP (xg xs) (d + 1) 342 29 [(0, .ref 58), (2, .int l2), (3, .int l3), (4, .int l4)] [.int (19 : Int32), .int (m.1 62 l4.toNatClampNeg)] m Q
      refine y_ine (t := 52) rfl rfl rfl (fun h => ?_) (fun h => ?_)
      · replace H := H.1 h; clear h
        show yP (xg xs) (d + 1) 342 52 [(0, .ref 58), (2, .int l2), (3, .int l3), (4, .int l4)] [] m Q
        refine y_headS (l2 := [(0, .ref 58), (2, .int l2), (4, .int l4)]) [0, 1, 3] [0, 2, 4] [0, 2, 3, 4] rfl rfl (by decide) rfl (by decide) ?_
        exact H
      · replace H := H.2 h; clear h
        refine y_st rfl rfl rfl rfl rfl (fun _ _ => rfl) ?_
        refine y_st rfl rfl rfl rfl rfl (fun _ _ => rfl) ?_
        show yP (xg xs) (d + 1) 342 34 [(0, .ref 58), (2, .int l2), (3, .int l3), (4, .int l4)] [.int ((-1) : Int32), .int l2] m Q
        refine y_ieq (t := 48) rfl rfl rfl (fun h => ?_) (fun h => ?_)
        · replace H := H.1 h; clear h
          show yP (xg xs) (d + 1) 342 48 [(0, .ref 58), (2, .int l2), (3, .int l3), (4, .int l4)] [] m Q
          refine y_headS (l2 := [(0, .ref 58), (2, .int l2), (4, .int l4)]) [0, 1, 3] [0, 2, 4] [0, 2, 3, 4] rfl rfl (by decide) rfl (by decide) ?_
          exact H
        · replace H := H.2 h; clear h
          refine y_st rfl rfl rfl rfl rfl (fun _ _ => rfl) ?_
          refine y_gf rfl rfl rfl rfl rfl ?_
          refine y_st rfl rfl rfl rfl rfl (fun _ _ => rfl) ?_
          show yP (xg xs) (d + 1) 342 43 [(0, .ref 58), (2, .int l2), (3, .int l3), (4, .int l4)] [.int l4, .ref 64] m Q
          refine y_iald rfl rfl rfl (H.1) ?_
          replace H := H.2
          refine y_st rfl rfl rfl rfl rfl (fun _ _ => rfl) ?_
          show yP (xg xs) (d + 1) 342 45 [(0, .ref 58), (2, .int l2), (3, .int l3), (4, .int l4)] [.int l2, .int (m.1 64 l4.toNatClampNeg)] m Q
          refine y_ine (t := 52) rfl rfl rfl (fun h => ?_) (fun h => ?_)
          · replace H := H.1 h; clear h
            show yP (xg xs) (d + 1) 342 52 [(0, .ref 58), (2, .int l2), (3, .int l3), (4, .int l4)] [] m Q
            refine y_headS (l2 := [(0, .ref 58), (2, .int l2), (4, .int l4)]) [0, 1, 3] [0, 2, 4] [0, 2, 3, 4] rfl rfl (by decide) rfl (by decide) ?_
            exact H
          · replace H := H.2 h; clear h
            show yP (xg xs) (d + 1) 342 48 [(0, .ref 58), (2, .int l2), (3, .int l3), (4, .int l4)] [] m Q
            refine y_headS (l2 := [(0, .ref 58), (2, .int l2), (4, .int l4)]) [0, 1, 3] [0, 2, 4] [0, 2, 3, 4] rfl rfl (by decide) rfl (by decide) ?_
            exact H
set_option maxRecDepth 20000 in
/-- CodeMakerModel.standsIn from 48 on -/
theorem w342_48 (xs : List Int32) (d : Nat) (l2 : Int32) (l4 : Int32) (m : yM) (Q : Option Value → yM → Prop) (H : yP (xg xs) (d + 1) 342 53 [(0, .ref 58), (2, .int l2), (4, .int l4)] [.int (1 : Int32)] m Q) : yP (xg xs) (d + 1) 342 48 [(0, .ref 58), (2, .int l2), (4, .int l4)] [] m Q := by
  refine y_st rfl rfl rfl rfl rfl (fun _ _ => rfl) ?_
  refine y_st rfl rfl rfl rfl rfl (fun _ _ => rfl) ?_
  show yP (xg xs) (d + 1) 342 53 [(0, .ref 58), (2, .int l2), (4, .int l4)] [.int (1 : Int32)] m Q
  exact H
set_option maxRecDepth 20000 in
/-- CodeMakerModel.standsIn from 52 on -/
theorem w342_52 (xs : List Int32) (d : Nat) (l2 : Int32) (l4 : Int32) (m : yM) (Q : Option Value → yM → Prop) (H : yP (xg xs) (d + 1) 342 53 [(0, .ref 58), (2, .int l2), (4, .int l4)] [.int (0 : Int32)] m Q) : yP (xg xs) (d + 1) 342 52 [(0, .ref 58), (2, .int l2), (4, .int l4)] [] m Q := by
  refine y_st rfl rfl rfl rfl rfl (fun _ _ => rfl) ?_
  show yP (xg xs) (d + 1) 342 53 [(0, .ref 58), (2, .int l2), (4, .int l4)] [.int (0 : Int32)] m Q
  exact H
set_option maxRecDepth 20000 in
/-- CodeMakerModel.standsIn from 53 on -/
theorem w342_53 (xs : List Int32) (d : Nat) (l2 : Int32) (l4 : Int32) (s0 : Int32) (m : yM) (Q : Option Value → yM → Prop) (H : (x_in l4 20000 = true ∧ yP (xg xs) (d + 1) 342 10 [(0, .ref 58), (2, .int l2), (3, .int s0), (4, .int (m.1 65 l4.toNatClampNeg))] [] m Q)) : yP (xg xs) (d + 1) 342 53 [(0, .ref 58), (2, .int l2), (4, .int l4)] [.int s0] m Q := by
  refine y_st rfl rfl rfl rfl rfl (fun _ _ => rfl) ?_
  refine y_st rfl rfl rfl rfl rfl (fun _ _ => rfl) ?_
  refine y_gf rfl rfl rfl rfl rfl ?_
  refine y_st rfl rfl rfl rfl rfl (fun _ _ => rfl) ?_
  show yP (xg xs) (d + 1) 342 60 [(3, .int s0), (0, .ref 58), (2, .int l2), (4, .int l4)] [.int l4, .ref 65] m Q
  refine y_iald rfl rfl rfl (H.1) ?_
  replace H := H.2
  refine y_st rfl rfl rfl rfl rfl (fun _ _ => rfl) ?_
  refine y_st rfl rfl rfl rfl rfl (fun _ _ => rfl) ?_
  show yP (xg xs) (d + 1) 342 10 [(4, .int (m.1 65 l4.toNatClampNeg)), (3, .int s0), (0, .ref 58), (2, .int l2)] [] m Q
  refine y_headS (l2 := [(0, .ref 58), (2, .int l2), (3, .int s0), (4, .int (m.1 65 l4.toNatClampNeg))]) [2, 3, 1, 0] [0, 2, 3, 4] [4, 3, 0, 2] rfl rfl (by decide) rfl (by decide) ?_
  exact H
set_option maxRecDepth 20000 in
/-- CodeMakerModel.fits from 0 on -/
theorem w343_0 (xs : List Int32) (d : Nat) (l0 : Int32) (l1 : Int32) (m : yM) (Q : Option Value → yM → Prop) (H : ((l0 = l1 → Q (some (.int (1 : Int32))) m) ∧ (¬ l0 = l1 → ((¬ l0 = (1 : Int32) → Q (some (.int (0 : Int32))) m) ∧ (l0 = (1 : Int32) → ((¬ l1 = (2 : Int32) → Q (some (.int (0 : Int32))) m) ∧ (l1 = (2 : Int32) → Q (some (.int (1 : Int32))) m))))))) : yP (xg xs) (d + 1) 343 0 [(0, .int l0), (1, .int l1)] [] m Q := by
  refine y_st rfl rfl rfl rfl rfl (fun _ _ => rfl) ?_
  refine y_st rfl rfl rfl rfl rfl (fun _ _ => rfl) ?_
  show yP (xg xs) (d + 1) 343 2 [(0, .int l0), (1, .int l1)] [.int l1, .int l0] m Q
  refine y_ieq (t := 15) rfl rfl rfl (fun h => ?_) (fun h => ?_)
  · replace H := H.1 h; clear h
    refine y_st rfl rfl rfl rfl rfl (fun _ _ => rfl) ?_
    refine y_st rfl rfl rfl rfl rfl (fun _ _ => rfl) ?_
    show yP (xg xs) (d + 1) 343 20 [(0, .int l0), (1, .int l1)] [.int (1 : Int32)] m Q
    exact y_zret rfl rfl rfl (by decide) H
  · replace H := H.2 h; clear h
    refine y_st rfl rfl rfl rfl rfl (fun _ _ => rfl) ?_
    refine y_st rfl rfl rfl rfl rfl (fun _ _ => rfl) ?_
    show yP (xg xs) (d + 1) 343 7 [(0, .int l0), (1, .int l1)] [.int (1 : Int32), .int l0] m Q
    refine y_ine (t := 19) rfl rfl rfl (fun h => ?_) (fun h => ?_)
    · replace H := H.1 h; clear h
      refine y_st rfl rfl rfl rfl rfl (fun _ _ => rfl) ?_
      show yP (xg xs) (d + 1) 343 20 [(0, .int l0), (1, .int l1)] [.int (0 : Int32)] m Q
      exact y_zret rfl rfl rfl (by decide) H
    · replace H := H.2 h; clear h
      refine y_st rfl rfl rfl rfl rfl (fun _ _ => rfl) ?_
      refine y_st rfl rfl rfl rfl rfl (fun _ _ => rfl) ?_
      show yP (xg xs) (d + 1) 343 12 [(0, .int l0), (1, .int l1)] [.int (2 : Int32), .int l1] m Q
      refine y_ine (t := 19) rfl rfl rfl (fun h => ?_) (fun h => ?_)
      · replace H := H.1 h; clear h
        refine y_st rfl rfl rfl rfl rfl (fun _ _ => rfl) ?_
        show yP (xg xs) (d + 1) 343 20 [(0, .int l0), (1, .int l1)] [.int (0 : Int32)] m Q
        exact y_zret rfl rfl rfl (by decide) H
      · replace H := H.2 h; clear h
        refine y_st rfl rfl rfl rfl rfl (fun _ _ => rfl) ?_
        refine y_st rfl rfl rfl rfl rfl (fun _ _ => rfl) ?_
        show yP (xg xs) (d + 1) 343 20 [(0, .int l0), (1, .int l1)] [.int (1 : Int32)] m Q
        exact y_zret rfl rfl rfl (by decide) H
set_option maxRecDepth 20000 in
/-- CodeMakerModel.named from 0 on -/
theorem w344_0 (xs : List Int32) (d : Nat) (l1 : Int32) (l2 : Int32) (m : yM) (Q : Option Value → yM → Prop) (H : (x_in l1 20000 = true ∧ (yC (xg xs) d 337 [.ref 58, .int (m.1 64 l1.toNatClampNeg)] m (fun v1 m1 => ∃ u1, v1 = some (Value.int u1) ∧ ((¬ u1 = ((-1) : Int32) → yP (xg xs) (d + 1) 344 24 [(0, .ref 58), (1, .int l1), (2, .int l2), (3, .int u1)] [.int (0 : Int32), .int (20 : Int32), .ref 58] m1 Q) ∧ (u1 = ((-1) : Int32) → yP (xg xs) (d + 1) 344 24 [(0, .ref 58), (1, .int l1), (2, .int l2), (3, .int u1)] [.int (1 : Int32), .int (20 : Int32), .ref 58] m1 Q)))))) : yP (xg xs) (d + 1) 344 0 [(0, .ref 58), (1, .int l1), (2, .int l2)] [] m Q := by
  refine y_st rfl rfl rfl rfl rfl (fun _ _ => rfl) ?_
  refine y_st rfl rfl rfl rfl rfl (fun _ _ => rfl) ?_
  refine y_gf rfl rfl rfl rfl rfl ?_
  refine y_st rfl rfl rfl rfl rfl (fun _ _ => rfl) ?_
  show yP (xg xs) (d + 1) 344 6 [(0, .ref 58), (1, .int l1), (2, .int l2)] [.int l1, .ref 64, .ref 58] m Q
  refine y_iald rfl rfl rfl (H.1) ?_
  replace H := H.2
  show yP (xg xs) (d + 1) 344 7 [(0, .ref 58), (1, .int l1), (2, .int l2)] [.int (m.1 64 l1.toNatClampNeg), .ref 58] m Q
  refine y_call rfl rfl rfl rfl rfl (Nat.le_of_ble_eq_true rfl) (Nat.le_of_ble_eq_true rfl) rfl (by decide) H (fun v1 m1 H => ?_)
  obtain ⟨u1, rfl, H⟩ := H
  refine y_st rfl rfl rfl rfl rfl (fun _ _ => rfl) ?_
  refine y_st rfl rfl rfl rfl rfl (fun _ _ => rfl) ?_
  refine y_st rfl rfl rfl rfl rfl (fun _ _ => rfl) ?_
  refine y_st rfl rfl rfl rfl rfl (fun _ _ => rfl) ?_
  refine y_st rfl rfl rfl rfl rfl (fun _ _ => rfl) ?_
  show yP (xg xs) (d + 1) 344 16 [(3, .int u1), (0, .ref 58), (1, .int l1), (2, .int l2)] [.int ((-1) : Int32), .int u1, .int (20 : Int32), .ref 58] m1 Q
  refine y_ine (t := 23) rfl rfl rfl (fun h => ?_) (fun h => ?_)
  · replace H := H.1 h; clear h
    refine y_st rfl rfl rfl rfl rfl (fun _ _ => rfl) ?_
    show yP (xg xs) (d + 1) 344 24 [(3, .int u1), (0, .ref 58), (1, .int l1), (2, .int l2)] [.int (0 : Int32), .int (20 : Int32), .ref 58] m1 Q
    refine y_headS (l2 := [(0, .ref 58), (1, .int l1), (2, .int l2), (3, .int u1)]) [1, 2, 3, 0] [0, 1, 2, 3] [3, 0, 1, 2] rfl rfl (by decide) rfl (by decide) ?_
    exact H
  · replace H := H.2 h; clear h
    refine y_st rfl rfl rfl rfl rfl (fun _ _ => rfl) ?_
    refine y_st rfl rfl rfl rfl rfl (fun _ _ => rfl) ?_
    show yP (xg xs) (d + 1) 344 24 [(3, .int u1), (0, .ref 58), (1, .int l1), (2, .int l2)] [.int (1 : Int32), .int (20 : Int32), .ref 58] m1 Q
    refine y_headS (l2 := [(0, .ref 58), (1, .int l1), (2, .int l2), (3, .int u1)]) [1, 2, 3, 0] [0, 1, 2, 3] [3, 0, 1, 2] rfl rfl (by decide) rfl (by decide) ?_
    exact H
set_option maxRecDepth 20000 in
/-- CodeMakerModel.named from 24 on -/
theorem w344_24 (xs : List Int32) (d : Nat) (l1 : Int32) (l2 : Int32) (l3 : Int32) (s1 : Int32) (s2 : Int32) (m : yM) (Q : Option Value → yM → Prop) (H : (yC (xg xs) d 323 [.ref 58, .int s1, .int s2, .int l1] m (fun v1 m1 => v1 = none ∧ ((¬ (m1.1 58 3) = 0 → yP (xg xs) (d + 1) 344 57 [(0, .ref 58), (1, .int l1), (3, .int l3)] [] m1 Q) ∧ ((m1.1 58 3) = 0 → (x_in l3 4700 = true ∧ (((m1.1 76 l3.toNatClampNeg) = l2 → yP (xg xs) (d + 1) 344 53 [(0, .ref 58), (1, .int l1), (3, .int l3)] [.int (0 : Int32), .int (21 : Int32), .ref 58] m1 Q) ∧ (¬ (m1.1 76 l3.toNatClampNeg) = l2 → yP (xg xs) (d + 1) 344 53 [(0, .ref 58), (1, .int l1), (3, .int l3)] [.int (1 : Int32), .int (21 : Int32), .ref 58] m1 Q)))))))) : yP (xg xs) (d + 1) 344 24 [(0, .ref 58), (1, .int l1), (2, .int l2), (3, .int l3)] [.int s2, .int s1, .ref 58] m Q := by
  refine y_st rfl rfl rfl rfl rfl (fun _ _ => rfl) ?_
  show yP (xg xs) (d + 1) 344 25 [(0, .ref 58), (1, .int l1), (2, .int l2), (3, .int l3)] [.int l1, .int s2, .int s1, .ref 58] m Q
  refine y_call rfl rfl rfl rfl rfl (Nat.le_of_ble_eq_true rfl) (Nat.le_of_ble_eq_true rfl) rfl (by decide) H (fun v1 m1 H => ?_)
  obtain ⟨rfl, H⟩ := H
  refine y_st rfl rfl rfl rfl rfl (fun _ _ => rfl) ?_
  refine y_gf rfl rfl rfl rfl rfl ?_
  show yP (xg xs) (d + 1) 344 32 [(0, .ref 58), (1, .int l1), (2, .int l2), (3, .int l3)] [.int (m1.1 58 3)] m1 Q
  refine y_zne (t := 57) rfl rfl rfl (fun h => ?_) (fun h => ?_)
  · replace H := H.1 h; clear h
    show yP (xg xs) (d + 1) 344 57 [(0, .ref 58), (1, .int l1), (2, .int l2), (3, .int l3)] [] m1 Q
    refine y_headS (l2 := [(0, .ref 58), (1, .int l1), (3, .int l3)]) [0, 1, 3] [0, 1, 3] [0, 1, 2, 3] rfl rfl (by decide) rfl (by decide) ?_
    exact H
  · replace H := H.2 h; clear h
    refine y_st rfl rfl rfl rfl rfl (fun _ _ => rfl) ?_
    refine y_st rfl rfl rfl rfl rfl (fun _ _ => rfl) ?_
    refine y_st rfl rfl rfl rfl rfl (fun _ _ => rfl) ?_
    refine y_gf rfl rfl rfl rfl rfl ?_
    refine y_st rfl rfl rfl rfl rfl (fun _ _ => rfl) ?_
    show yP (xg xs) (d + 1) 344 43 [(0, .ref 58), (1, .int l1), (2, .int l2), (3, .int l3)] [.int l3, .ref 76, .int (21 : Int32), .ref 58] m1 Q
    refine y_iald rfl rfl rfl (H.1) ?_
    replace H := H.2
    refine y_st rfl rfl rfl rfl rfl (fun _ _ => rfl) ?_
    show yP (xg xs) (d + 1) 344 45 [(0, .ref 58), (1, .int l1), (2, .int l2), (3, .int l3)] [.int l2, .int (m1.1 76 l3.toNatClampNeg), .int (21 : Int32), .ref 58] m1 Q
    refine y_ieq (t := 52) rfl rfl rfl (fun h => ?_) (fun h => ?_)
    · replace H := H.1 h; clear h
      refine y_st rfl rfl rfl rfl rfl (fun _ _ => rfl) ?_
      show yP (xg xs) (d + 1) 344 53 [(0, .ref 58), (1, .int l1), (2, .int l2), (3, .int l3)] [.int (0 : Int32), .int (21 : Int32), .ref 58] m1 Q
      refine y_headS (l2 := [(0, .ref 58), (1, .int l1), (3, .int l3)]) [0, 1, 3] [0, 1, 3] [0, 1, 2, 3] rfl rfl (by decide) rfl (by decide) ?_
      exact H
    · replace H := H.2 h; clear h
      refine y_st rfl rfl rfl rfl rfl (fun _ _ => rfl) ?_
      refine y_st rfl rfl rfl rfl rfl (fun _ _ => rfl) ?_
      show yP (xg xs) (d + 1) 344 53 [(0, .ref 58), (1, .int l1), (2, .int l2), (3, .int l3)] [.int (1 : Int32), .int (21 : Int32), .ref 58] m1 Q
      refine y_headS (l2 := [(0, .ref 58), (1, .int l1), (3, .int l3)]) [0, 1, 3] [0, 1, 3] [0, 1, 2, 3] rfl rfl (by decide) rfl (by decide) ?_
      exact H
set_option maxRecDepth 20000 in
/-- CodeMakerModel.named from 53 on -/
theorem w344_53 (xs : List Int32) (d : Nat) (l1 : Int32) (l3 : Int32) (s1 : Int32) (s2 : Int32) (m : yM) (Q : Option Value → yM → Prop) (H : (yC (xg xs) d 323 [.ref 58, .int s1, .int s2, .int l1] m (fun v1 m1 => v1 = none ∧ yP (xg xs) (d + 1) 344 57 [(0, .ref 58), (1, .int l1), (3, .int l3)] [] m1 Q))) : yP (xg xs) (d + 1) 344 53 [(0, .ref 58), (1, .int l1), (3, .int l3)] [.int s2, .int s1, .ref 58] m Q := by
  refine y_st rfl rfl rfl rfl rfl (fun _ _ => rfl) ?_
  show yP (xg xs) (d + 1) 344 54 [(0, .ref 58), (1, .int l1), (3, .int l3)] [.int l1, .int s2, .int s1, .ref 58] m Q
  refine y_call rfl rfl rfl rfl rfl (Nat.le_of_ble_eq_true rfl) (Nat.le_of_ble_eq_true rfl) rfl (by decide) H (fun v1 m1 H => ?_)
  obtain ⟨rfl, H⟩ := H
  show yP (xg xs) (d + 1) 344 57 [(0, .ref 58), (1, .int l1), (3, .int l3)] [] m1 Q
  exact H
set_option maxRecDepth 20000 in
/-- CodeMakerModel.named from 57 on -/
theorem w344_57 (xs : List Int32) (d : Nat) (l1 : Int32) (l3 : Int32) (m : yM) (Q : Option Value → yM → Prop) (H : (x_in l1 20000 = true ∧ Q (some (.int l3)) (y_si m 85 l1.toNatClampNeg l3))) : yP (xg xs) (d + 1) 344 57 [(0, .ref 58), (1, .int l1), (3, .int l3)] [] m Q := by
  refine y_st rfl rfl rfl rfl rfl (fun _ _ => rfl) ?_
  refine y_gf rfl rfl rfl rfl rfl ?_
  refine y_st rfl rfl rfl rfl rfl (fun _ _ => rfl) ?_
  refine y_st rfl rfl rfl rfl rfl (fun _ _ => rfl) ?_
  show yP (xg xs) (d + 1) 344 63 [(0, .ref 58), (1, .int l1), (3, .int l3)] [.int l3, .int l1, .ref 85] m Q
  refine y_iast rfl rfl rfl (H.1) ?_
  replace H := H.2
  refine y_st rfl rfl rfl rfl rfl (fun _ _ => rfl) ?_
  show yP (xg xs) (d + 1) 344 65 [(0, .ref 58), (1, .int l1), (3, .int l3)] [.int l3] (y_si m 85 l1.toNatClampNeg l3) Q
  exact y_iret rfl rfl rfl H
set_option maxRecDepth 20000 in
/-- CodeMakerModel.judgeParameter from 0 on -/
theorem w345_0 (xs : List Int32) (d : Nat) (l1 : Int32) (m : yM) (Q : Option Value → yM → Prop) (H : (x_in l1 20000 = true ∧ (x_in (m.1 65 l1.toNatClampNeg) 20000 = true ∧ (yC (xg xs) d 337 [.ref 58, .int (m.1 64 ((m.1 65 l1.toNatClampNeg).toNatClampNeg))] m (fun v1 m1 => ∃ u1, v1 = some (Value.int u1) ∧ ((u1 = ((-1) : Int32) → Q none m1) ∧ (¬ u1 = ((-1) : Int32) → (x_in u1 4700 = true ∧ (((m1.1 76 u1.toNatClampNeg) = (2 : Int32) → (x_in u1 4700 = true ∧ (((100 : Int32) ≤ (m1.1 77 u1.toNatClampNeg) → (x_in u1 4700 = true ∧ (x_in l1 20000 = true ∧ (yC (xg xs) d 338 [.ref 58, .int ((m1.1 77 u1.toNatClampNeg) - (100 : Int32)), .int (m1.1 64 l1.toNatClampNeg)] m1 (fun v2 m2 => ∃ u2, v2 = some (Value.int u2) ∧ ((u2 = ((-1) : Int32) → yP (xg xs) (d + 1) 345 149 [(0, .ref 58), (1, .int l1), (2, .int u1), (4, .int u2)] [] m2 Q) ∧ (¬ u2 = ((-1) : Int32) → (x_in u2 4700 = true ∧ ((¬ (m2.1 81 u2.toNatClampNeg) = (1 : Int32) → yP (xg xs) (d + 1) 345 149 [(0, .ref 58), (1, .int l1), (2, .int u1), (4, .int u2)] [] m2 Q) ∧ ((m2.1 81 u2.toNatClampNeg) = (1 : Int32) → (x_in u2 4700 = true ∧ yP (xg xs) (d + 1) 345 150 [(0, .ref 58), (1, .int l1), (2, .int u1), (4, .int u2)] [.int (m2.1 77 u2.toNatClampNeg)] m2 Q))))))))))) ∧ (¬ (100 : Int32) ≤ (m1.1 77 u1.toNatClampNeg) → (x_in u1 4700 = true ∧ (x_in l1 20000 = true ∧ (yC (xg xs) d 346 [.ref 58, .int (m1.1 77 u1.toNatClampNeg), .int (m1.1 64 l1.toNatClampNeg), .int (0 : Int32)] m1 (fun v3 m3 => ∃ u3, v3 = some (Value.int u3) ∧ ((¬ u3 = ((-1) : Int32) → (¬ (10 : Int32) = 0 ∧ yP (xg xs) (d + 1) 345 79 [(0, .ref 58), (1, .int l1), (2, .int u1), (4, .int u3)] [.int (u3 - u3 / (10 : Int32) * (10 : Int32))] m3 Q)) ∧ (u3 = ((-1) : Int32) → yP (xg xs) (d + 1) 345 79 [(0, .ref 58), (1, .int l1), (2, .int u1), (4, .int u3)] [.int ((-1) : Int32)] m3 Q)))))))))) ∧ (¬ (m1.1 76 u1.toNatClampNeg) = (2 : Int32) → Q none m1)))))))))) : yP (xg xs) (d + 1) 345 0 [(0, .ref 58), (1, .int l1)] [] m Q := by
  refine y_st rfl rfl rfl rfl rfl (fun _ _ => rfl) ?_
  refine y_st rfl rfl rfl rfl rfl (fun _ _ => rfl) ?_
  refine y_gf rfl rfl rfl rfl rfl ?_
  refine y_st rfl rfl rfl rfl rfl (fun _ _ => rfl) ?_
  refine y_gf rfl rfl rfl rfl rfl ?_
  refine y_st rfl rfl rfl rfl rfl (fun _ _ => rfl) ?_
  show yP (xg xs) (d + 1) 345 10 [(0, .ref 58), (1, .int l1)] [.int l1, .ref 65, .ref 64, .ref 58] m Q
  refine y_iald rfl rfl rfl (H.1) ?_
  replace H := H.2
  show yP (xg xs) (d + 1) 345 11 [(0, .ref 58), (1, .int l1)] [.int (m.1 65 l1.toNatClampNeg), .ref 64, .ref 58] m Q
  refine y_iald rfl rfl rfl (H.1) ?_
  replace H := H.2
  show yP (xg xs) (d + 1) 345 12 [(0, .ref 58), (1, .int l1)] [.int (m.1 64 ((m.1 65 l1.toNatClampNeg).toNatClampNeg)), .ref 58] m Q
  refine y_call rfl rfl rfl rfl rfl (Nat.le_of_ble_eq_true rfl) (Nat.le_of_ble_eq_true rfl) rfl (by decide) H (fun v1 m1 H => ?_)
  obtain ⟨u1, rfl, H⟩ := H
  refine y_st rfl rfl rfl rfl rfl (fun _ _ => rfl) ?_
  refine y_st rfl rfl rfl rfl rfl (fun _ _ => rfl) ?_
  refine y_st rfl rfl rfl rfl rfl (fun _ _ => rfl) ?_
  show yP (xg xs) (d + 1) 345 18 [(2, .int u1), (0, .ref 58), (1, .int l1)] [.int ((-1) : Int32), .int u1] m1 Q
  refine y_ieq (t := 31) rfl rfl rfl (fun h => ?_) (fun h => ?_)
  · replace H := H.1 h; clear h
    show yP (xg xs) (d + 1) 345 31 [(2, .int u1), (0, .ref 58), (1, .int l1)] [] m1 Q
    exact y_ret rfl rfl rfl rfl H
  · replace H := H.2 h; clear h
    refine y_st rfl rfl rfl rfl rfl (fun _ _ => rfl) ?_
    refine y_gf rfl rfl rfl rfl rfl ?_
    refine y_st rfl rfl rfl rfl rfl (fun _ _ => rfl) ?_
    show yP (xg xs) (d + 1) 345 26 [(2, .int u1), (0, .ref 58), (1, .int l1)] [.int u1, .ref 76] m1 Q
    refine y_iald rfl rfl rfl (H.1) ?_
    replace H := H.2
    refine y_st rfl rfl rfl rfl rfl (fun _ _ => rfl) ?_
    show yP (xg xs) (d + 1) 345 28 [(2, .int u1), (0, .ref 58), (1, .int l1)] [.int (2 : Int32), .int (m1.1 76 u1.toNatClampNeg)] m1 Q
    refine y_ieq (t := 32) rfl rfl rfl (fun h => ?_) (fun h => ?_)
    · replace H := H.1 h; clear h
      refine y_st rfl rfl rfl rfl rfl (fun _ _ => rfl) ?_
      refine y_st rfl rfl rfl rfl rfl (fun _ _ => rfl) ?_
      refine y_st rfl rfl rfl rfl rfl (fun _ _ => rfl) ?_
      refine y_gf rfl rfl rfl rfl rfl ?_
      refine y_st rfl rfl rfl rfl rfl (fun _ _ => rfl) ?_
      show yP (xg xs) (d + 1) 345 39 [(3, .int ((-1) : Int32)), (2, .int u1), (0, .ref 58), (1, .int l1)] [.int u1, .ref 77] m1 Q
      refine y_iald rfl rfl rfl (H.1) ?_
      replace H := H.2
      refine y_st rfl rfl rfl rfl rfl (fun _ _ => rfl) ?_
      show yP (xg xs) (d + 1) 345 42 [(3, .int ((-1) : Int32)), (2, .int u1), (0, .ref 58), (1, .int l1)] [.int (100 : Int32), .int (m1.1 77 u1.toNatClampNeg)] m1 Q
      refine y_ige (t := 101) rfl rfl rfl (fun h => ?_) (fun h => ?_)
      · replace H := H.1 h; clear h
        refine y_st rfl rfl rfl rfl rfl (fun _ _ => rfl) ?_
        refine y_st rfl rfl rfl rfl rfl (fun _ _ => rfl) ?_
        refine y_gf rfl rfl rfl rfl rfl ?_
        refine y_st rfl rfl rfl rfl rfl (fun _ _ => rfl) ?_
        show yP (xg xs) (d + 1) 345 107 [(3, .int ((-1) : Int32)), (2, .int u1), (0, .ref 58), (1, .int l1)] [.int u1, .ref 77, .ref 58] m1 Q
        refine y_iald rfl rfl rfl (H.1) ?_
        replace H := H.2
        refine y_st rfl rfl rfl rfl rfl (fun _ _ => rfl) ?_
        refine y_st rfl rfl rfl rfl rfl (fun _ _ => rfl) ?_
        refine y_st rfl rfl rfl rfl rfl (fun _ _ => rfl) ?_
        refine y_gf rfl rfl rfl rfl rfl ?_
        refine y_st rfl rfl rfl rfl rfl (fun _ _ => rfl) ?_
        show yP (xg xs) (d + 1) 345 116 [(3, .int ((-1) : Int32)), (2, .int u1), (0, .ref 58), (1, .int l1)] [.int l1, .ref 64, .int ((m1.1 77 u1.toNatClampNeg) - (100 : Int32)), .ref 58] m1 Q
        refine y_iald rfl rfl rfl (H.1) ?_
        replace H := H.2
        show yP (xg xs) (d + 1) 345 117 [(3, .int ((-1) : Int32)), (2, .int u1), (0, .ref 58), (1, .int l1)] [.int (m1.1 64 l1.toNatClampNeg), .int ((m1.1 77 u1.toNatClampNeg) - (100 : Int32)), .ref 58] m1 Q
        refine y_call rfl rfl rfl rfl rfl (Nat.le_of_ble_eq_true rfl) (Nat.le_of_ble_eq_true rfl) rfl (by decide) H (fun v2 m2 H => ?_)
        obtain ⟨u2, rfl, H⟩ := H
        refine y_st rfl rfl rfl rfl rfl (fun _ _ => rfl) ?_
        refine y_st rfl rfl rfl rfl rfl (fun _ _ => rfl) ?_
        refine y_st rfl rfl rfl rfl rfl (fun _ _ => rfl) ?_
        show yP (xg xs) (d + 1) 345 125 [(4, .int u2), (3, .int ((-1) : Int32)), (2, .int u1), (0, .ref 58), (1, .int l1)] [.int ((-1) : Int32), .int u2] m2 Q
        refine y_ieq (t := 149) rfl rfl rfl (fun h => ?_) (fun h => ?_)
        · replace H := H.1 h; clear h
          show yP (xg xs) (d + 1) 345 149 [(4, .int u2), (3, .int ((-1) : Int32)), (2, .int u1), (0, .ref 58), (1, .int l1)] [] m2 Q
          refine y_headS (l2 := [(0, .ref 58), (1, .int l1), (2, .int u1), (4, .int u2)]) [3, 4, 2, 0] [0, 1, 2, 4] [4, 3, 2, 0, 1] rfl rfl (by decide) rfl (by decide) ?_
          exact H
        · replace H := H.2 h; clear h
          refine y_st rfl rfl rfl rfl rfl (fun _ _ => rfl) ?_
          refine y_gf rfl rfl rfl rfl rfl ?_
          refine y_st rfl rfl rfl rfl rfl (fun _ _ => rfl) ?_
          show yP (xg xs) (d + 1) 345 134 [(4, .int u2), (3, .int ((-1) : Int32)), (2, .int u1), (0, .ref 58), (1, .int l1)] [.int u2, .ref 81] m2 Q
          refine y_iald rfl rfl rfl (H.1) ?_
          replace H := H.2
          refine y_st rfl rfl rfl rfl rfl (fun _ _ => rfl) ?_
          show yP (xg xs) (d + 1) 345 136 [(4, .int u2), (3, .int ((-1) : Int32)), (2, .int u1), (0, .ref 58), (1, .int l1)] [.int (1 : Int32), .int (m2.1 81 u2.toNatClampNeg)] m2 Q
          refine y_ine (t := 149) rfl rfl rfl (fun h => ?_) (fun h => ?_)
          · replace H := H.1 h; clear h
            show yP (xg xs) (d + 1) 345 149 [(4, .int u2), (3, .int ((-1) : Int32)), (2, .int u1), (0, .ref 58), (1, .int l1)] [] m2 Q
            refine y_headS (l2 := [(0, .ref 58), (1, .int l1), (2, .int u1), (4, .int u2)]) [3, 4, 2, 0] [0, 1, 2, 4] [4, 3, 2, 0, 1] rfl rfl (by decide) rfl (by decide) ?_
            exact H
          · replace H := H.2 h; clear h
            refine y_st rfl rfl rfl rfl rfl (fun _ _ => rfl) ?_
            refine y_gf rfl rfl rfl rfl rfl ?_
            refine y_st rfl rfl rfl rfl rfl (fun _ _ => rfl) ?_
            show yP (xg xs) (d + 1) 345 145 [(4, .int u2), (3, .int ((-1) : Int32)), (2, .int u1), (0, .ref 58), (1, .int l1)] [.int u2, .ref 77] m2 Q
            refine y_iald rfl rfl rfl (H.1) ?_
            replace H := H.2
            refine y_st rfl rfl rfl rfl rfl (fun _ _ => rfl) ?_
            show yP (xg xs) (d + 1) 345 150 [(4, .int u2), (3, .int ((-1) : Int32)), (2, .int u1), (0, .ref 58), (1, .int l1)] [.int (m2.1 77 u2.toNatClampNeg)] m2 Q
            refine y_headS (l2 := [(0, .ref 58), (1, .int l1), (2, .int u1), (4, .int u2)]) [3, 4, 2, 0] [0, 1, 2, 4] [4, 3, 2, 0, 1] rfl rfl (by decide) rfl (by decide) ?_
            exact H
      · replace H := H.2 h; clear h
        refine y_st rfl rfl rfl rfl rfl (fun _ _ => rfl) ?_
        refine y_st rfl rfl rfl rfl rfl (fun _ _ => rfl) ?_
        refine y_gf rfl rfl rfl rfl rfl ?_
        refine y_st rfl rfl rfl rfl rfl (fun _ _ => rfl) ?_
        show yP (xg xs) (d + 1) 345 51 [(3, .int ((-1) : Int32)), (2, .int u1), (0, .ref 58), (1, .int l1)] [.int u1, .ref 77, .ref 58] m1 Q
        refine y_iald rfl rfl rfl (H.1) ?_
        replace H := H.2
        refine y_st rfl rfl rfl rfl rfl (fun _ _ => rfl) ?_
        refine y_gf rfl rfl rfl rfl rfl ?_
        refine y_st rfl rfl rfl rfl rfl (fun _ _ => rfl) ?_
        show yP (xg xs) (d + 1) 345 57 [(3, .int ((-1) : Int32)), (2, .int u1), (0, .ref 58), (1, .int l1)] [.int l1, .ref 64, .int (m1.1 77 u1.toNatClampNeg), .ref 58] m1 Q
        refine y_iald rfl rfl rfl (H.1) ?_
        replace H := H.2
        refine y_st rfl rfl rfl rfl rfl (fun _ _ => rfl) ?_
        show yP (xg xs) (d + 1) 345 59 [(3, .int ((-1) : Int32)), (2, .int u1), (0, .ref 58), (1, .int l1)] [.int (0 : Int32), .int (m1.1 64 l1.toNatClampNeg), .int (m1.1 77 u1.toNatClampNeg), .ref 58] m1 Q
        refine y_call rfl rfl rfl rfl rfl (Nat.le_of_ble_eq_true rfl) (Nat.le_of_ble_eq_true rfl) rfl (by decide) H (fun v3 m3 H => ?_)
        obtain ⟨u3, rfl, H⟩ := H
        refine y_st rfl rfl rfl rfl rfl (fun _ _ => rfl) ?_
        refine y_st rfl rfl rfl rfl rfl (fun _ _ => rfl) ?_
        refine y_st rfl rfl rfl rfl rfl (fun _ _ => rfl) ?_
        show yP (xg xs) (d + 1) 345 67 [(4, .int u3), (3, .int ((-1) : Int32)), (2, .int u1), (0, .ref 58), (1, .int l1)] [.int ((-1) : Int32), .int u3] m3 Q
        refine y_ine (t := 74) rfl rfl rfl (fun h => ?_) (fun h => ?_)
        · replace H := H.1 h; clear h
          refine y_st rfl rfl rfl rfl rfl (fun _ _ => rfl) ?_
          refine y_st rfl rfl rfl rfl rfl (fun _ _ => rfl) ?_
          show yP (xg xs) (d + 1) 345 78 [(4, .int u3), (3, .int ((-1) : Int32)), (2, .int u1), (0, .ref 58), (1, .int l1)] [.int (10 : Int32), .int u3] m3 Q
          refine y_irem rfl rfl H.1 ?_
          replace H := H.2
          show yP (xg xs) (d + 1) 345 79 [(4, .int u3), (3, .int ((-1) : Int32)), (2, .int u1), (0, .ref 58), (1, .int l1)] [.int (u3 - u3 / (10 : Int32) * (10 : Int32))] m3 Q
          refine y_headS (l2 := [(0, .ref 58), (1, .int l1), (2, .int u1), (4, .int u3)]) [3, 4, 2, 0] [0, 1, 2, 4] [4, 3, 2, 0, 1] rfl rfl (by decide) rfl (by decide) ?_
          exact H
        · replace H := H.2 h; clear h
          refine y_st rfl rfl rfl rfl rfl (fun _ _ => rfl) ?_
          refine y_st rfl rfl rfl rfl rfl (fun _ _ => rfl) ?_
          show yP (xg xs) (d + 1) 345 79 [(4, .int u3), (3, .int ((-1) : Int32)), (2, .int u1), (0, .ref 58), (1, .int l1)] [.int ((-1) : Int32)] m3 Q
          refine y_headS (l2 := [(0, .ref 58), (1, .int l1), (2, .int u1), (4, .int u3)]) [3, 4, 2, 0] [0, 1, 2, 4] [4, 3, 2, 0, 1] rfl rfl (by decide) rfl (by decide) ?_
          exact H
    · replace H := H.2 h; clear h
      show yP (xg xs) (d + 1) 345 31 [(2, .int u1), (0, .ref 58), (1, .int l1)] [] m1 Q
      exact y_ret rfl rfl rfl rfl H
set_option maxRecDepth 20000 in
/-- CodeMakerModel.judgeParameter from 79 on -/
theorem w345_79 (xs : List Int32) (d : Nat) (l1 : Int32) (l2 : Int32) (l4 : Int32) (s0 : Int32) (m : yM) (Q : Option Value → yM → Prop) (H : (x_in l2 4700 = true ∧ (¬ (10 : Int32) = 0 ∧ (x_in l1 20000 = true ∧ yP (xg xs) (d + 1) 345 181 [(0, .ref 58), (1, .int l1), (3, .int s0)] [] (y_si m 86 l1.toNatClampNeg ((m.1 80 l2.toNatClampNeg) + (l4 / (10 : Int32)))) Q)))) : yP (xg xs) (d + 1) 345 79 [(0, .ref 58), (1, .int l1), (2, .int l2), (4, .int l4)] [.int s0] m Q := by
  refine y_st rfl rfl rfl rfl rfl (fun _ _ => rfl) ?_
  refine y_st rfl rfl rfl rfl rfl (fun _ _ => rfl) ?_
  refine y_gf rfl rfl rfl rfl rfl ?_
  refine y_st rfl rfl rfl rfl rfl (fun _ _ => rfl) ?_
  refine y_st rfl rfl rfl rfl rfl (fun _ _ => rfl) ?_
  refine y_gf rfl rfl rfl rfl rfl ?_
  refine y_st rfl rfl rfl rfl rfl (fun _ _ => rfl) ?_
  show yP (xg xs) (d + 1) 345 90 [(3, .int s0), (0, .ref 58), (1, .int l1), (2, .int l2), (4, .int l4)] [.int l2, .ref 80, .int l1, .ref 86] m Q
  refine y_iald rfl rfl rfl (H.1) ?_
  replace H := H.2
  refine y_st rfl rfl rfl rfl rfl (fun _ _ => rfl) ?_
  refine y_st rfl rfl rfl rfl rfl (fun _ _ => rfl) ?_
  show yP (xg xs) (d + 1) 345 95 [(3, .int s0), (0, .ref 58), (1, .int l1), (2, .int l2), (4, .int l4)] [.int (10 : Int32), .int l4, .int (m.1 80 l2.toNatClampNeg), .int l1, .ref 86] m Q
  refine y_idiv rfl rfl H.1 ?_
  replace H := H.2
  refine y_st rfl rfl rfl rfl rfl (fun _ _ => rfl) ?_
  show yP (xg xs) (d + 1) 345 97 [(3, .int s0), (0, .ref 58), (1, .int l1), (2, .int l2), (4, .int l4)] [.int ((m.1 80 l2.toNatClampNeg) + (l4 / (10 : Int32))), .int l1, .ref 86] m Q
  refine y_iast rfl rfl rfl (H.1) ?_
  replace H := H.2
  refine y_st rfl rfl rfl rfl rfl (fun _ _ => rfl) ?_
  show yP (xg xs) (d + 1) 345 181 [(3, .int s0), (0, .ref 58), (1, .int l1), (2, .int l2), (4, .int l4)] [] (y_si m 86 l1.toNatClampNeg ((m.1 80 l2.toNatClampNeg) + (l4 / (10 : Int32)))) Q
  refine y_headS (l2 := [(0, .ref 58), (1, .int l1), (3, .int s0)]) [1, 2, 0] [0, 1, 3] [3, 0, 1, 2, 4] rfl rfl (by decide) rfl (by decide) ?_
  exact H
set_option maxRecDepth 20000 in
/-- CodeMakerModel.judgeParameter from 149 on -/
theorem w345_149 (xs : List Int32) (d : Nat) (l1 : Int32) (l2 : Int32) (l4 : Int32) (m : yM) (Q : Option Value → yM → Prop) (H : yP (xg xs) (d + 1) 345 150 [(0, .ref 58), (1, .int l1), (2, .int l2), (4, .int l4)] [.int ((-1) : Int32)] m Q) : yP (xg xs) (d + 1) 345 149 [(0, .ref 58), (1, .int l1), (2, .int l2), (4, .int l4)] [] m Q := by
  refine y_st rfl rfl rfl rfl rfl (fun _ _ => rfl) ?_
  show yP (xg xs) (d + 1) 345 150 [(0, .ref 58), (1, .int l1), (2, .int l2), (4, .int l4)] [.int ((-1) : Int32)] m Q
  exact H
set_option maxRecDepth 20000 in
/-- CodeMakerModel.judgeParameter from 150 on -/
theorem w345_150 (xs : List Int32) (d : Nat) (l1 : Int32) (l2 : Int32) (l4 : Int32) (s0 : Int32) (m : yM) (Q : Option Value → yM → Prop) (H : ((¬ l4 = ((-1) : Int32) → (x_in l2 4700 = true ∧ (x_in l4 4700 = true ∧ yP (xg xs) (d + 1) 345 180 [(0, .ref 58), (1, .int l1), (3, .int s0)] [.int ((m.1 80 l2.toNatClampNeg) + (m.1 80 l4.toNatClampNeg)), .int l1, .ref 86] m Q))) ∧ (l4 = ((-1) : Int32) → yP (xg xs) (d + 1) 345 180 [(0, .ref 58), (1, .int l1), (3, .int s0)] [.int (0 : Int32), .int l1, .ref 86] m Q))) : yP (xg xs) (d + 1) 345 150 [(0, .ref 58), (1, .int l1), (2, .int l2), (4, .int l4)] [.int s0] m Q := by
  refine y_st rfl rfl rfl rfl rfl (fun _ _ => rfl) ?_
  refine y_st rfl rfl rfl rfl rfl (fun _ _ => rfl) ?_
  refine y_gf rfl rfl rfl rfl rfl ?_
  refine y_st rfl rfl rfl rfl rfl (fun _ _ => rfl) ?_
  refine y_st rfl rfl rfl rfl rfl (fun _ _ => rfl) ?_
  refine y_st rfl rfl rfl rfl rfl (fun _ _ => rfl) ?_
  show yP (xg xs) (d + 1) 345 159 [(3, .int s0), (0, .ref 58), (1, .int l1), (2, .int l2), (4, .int l4)] [.int ((-1) : Int32), .int l4, .int l1, .ref 86] m Q
  refine y_ine (t := 166) rfl rfl rfl (fun h => ?_) (fun h => ?_)
  · replace H := H.1 h; clear h
    refine y_st rfl rfl rfl rfl rfl (fun _ _ => rfl) ?_
    refine y_gf rfl rfl rfl rfl rfl ?_
    refine y_st rfl rfl rfl rfl rfl (fun _ _ => rfl) ?_
    show yP (xg xs) (d + 1) 345 171 [(3, .int s0), (0, .ref 58), (1, .int l1), (2, .int l2), (4, .int l4)] [.int l2, .ref 80, .int l1, .ref 86] m Q
    refine y_iald rfl rfl rfl (H.1) ?_
    replace H := H.2
    refine y_st rfl rfl rfl rfl rfl (fun _ _ => rfl) ?_
    refine y_gf rfl rfl rfl rfl rfl ?_
    refine y_st rfl rfl rfl rfl rfl (fun _ _ => rfl) ?_
    show yP (xg xs) (d + 1) 345 178 [(3, .int s0), (0, .ref 58), (1, .int l1), (2, .int l2), (4, .int l4)] [.int l4, .ref 80, .int (m.1 80 l2.toNatClampNeg), .int l1, .ref 86] m Q
    refine y_iald rfl rfl rfl (H.1) ?_
    replace H := H.2
    refine y_st rfl rfl rfl rfl rfl (fun _ _ => rfl) ?_
    show yP (xg xs) (d + 1) 345 180 [(3, .int s0), (0, .ref 58), (1, .int l1), (2, .int l2), (4, .int l4)] [.int ((m.1 80 l2.toNatClampNeg) + (m.1 80 l4.toNatClampNeg)), .int l1, .ref 86] m Q
    refine y_headS (l2 := [(0, .ref 58), (1, .int l1), (3, .int s0)]) [1, 2, 0] [0, 1, 3] [3, 0, 1, 2, 4] rfl rfl (by decide) rfl (by decide) ?_
    exact H
  · replace H := H.2 h; clear h
    refine y_st rfl rfl rfl rfl rfl (fun _ _ => rfl) ?_
    refine y_st rfl rfl rfl rfl rfl (fun _ _ => rfl) ?_
    show yP (xg xs) (d + 1) 345 180 [(3, .int s0), (0, .ref 58), (1, .int l1), (2, .int l2), (4, .int l4)] [.int (0 : Int32), .int l1, .ref 86] m Q
    refine y_headS (l2 := [(0, .ref 58), (1, .int l1), (3, .int s0)]) [1, 2, 0] [0, 1, 3] [3, 0, 1, 2, 4] rfl rfl (by decide) rfl (by decide) ?_
    exact H
set_option maxRecDepth 20000 in
/-- CodeMakerModel.judgeParameter from 180 on -/
theorem w345_180 (xs : List Int32) (d : Nat) (l1 : Int32) (l3 : Int32) (s1 : Int32) (s2 : Int32) (m : yM) (Q : Option Value → yM → Prop) (H : (x_in s1 20000 = true ∧ yP (xg xs) (d + 1) 345 181 [(0, .ref 58), (1, .int l1), (3, .int l3)] [] (y_si m 86 s1.toNatClampNeg s2) Q)) : yP (xg xs) (d + 1) 345 180 [(0, .ref 58), (1, .int l1), (3, .int l3)] [.int s2, .int s1, .ref 86] m Q := by
  show yP (xg xs) (d + 1) 345 180 [(0, .ref 58), (1, .int l1), (3, .int l3)] [.int s2, .int s1, .ref 86] m Q
  refine y_iast rfl rfl rfl (H.1) ?_
  replace H := H.2
  show yP (xg xs) (d + 1) 345 181 [(0, .ref 58), (1, .int l1), (3, .int l3)] [] (y_si m 86 s1.toNatClampNeg s2) Q
  exact H
set_option maxRecDepth 20000 in
/-- CodeMakerModel.judgeParameter from 181 on -/
theorem w345_181 (xs : List Int32) (d : Nat) (l1 : Int32) (l3 : Int32) (m : yM) (Q : Option Value → yM → Prop) (H : ((¬ l3 = ((-1) : Int32) → yP (xg xs) (d + 1) 345 194 [(0, .ref 58), (1, .int l1), (3, .int l3)] [.int (0 : Int32), .int (32 : Int32), .ref 58] m Q) ∧ (l3 = ((-1) : Int32) → yP (xg xs) (d + 1) 345 194 [(0, .ref 58), (1, .int l1), (3, .int l3)] [.int (1 : Int32), .int (32 : Int32), .ref 58] m Q))) : yP (xg xs) (d + 1) 345 181 [(0, .ref 58), (1, .int l1), (3, .int l3)] [] m Q := by
  refine y_st rfl rfl rfl rfl rfl (fun _ _ => rfl) ?_
  refine y_st rfl rfl rfl rfl rfl (fun _ _ => rfl) ?_
  refine y_st rfl rfl rfl rfl rfl (fun _ _ => rfl) ?_
  refine y_st rfl rfl rfl rfl rfl (fun _ _ => rfl) ?_
  show yP (xg xs) (d + 1) 345 186 [(0, .ref 58), (1, .int l1), (3, .int l3)] [.int ((-1) : Int32), .int l3, .int (32 : Int32), .ref 58] m Q
  refine y_ine (t := 193) rfl rfl rfl (fun h => ?_) (fun h => ?_)
  · replace H := H.1 h; clear h
    refine y_st rfl rfl rfl rfl rfl (fun _ _ => rfl) ?_
    show yP (xg xs) (d + 1) 345 194 [(0, .ref 58), (1, .int l1), (3, .int l3)] [.int (0 : Int32), .int (32 : Int32), .ref 58] m Q
    exact H
  · replace H := H.2 h; clear h
    refine y_st rfl rfl rfl rfl rfl (fun _ _ => rfl) ?_
    refine y_st rfl rfl rfl rfl rfl (fun _ _ => rfl) ?_
    show yP (xg xs) (d + 1) 345 194 [(0, .ref 58), (1, .int l1), (3, .int l3)] [.int (1 : Int32), .int (32 : Int32), .ref 58] m Q
    exact H
set_option maxRecDepth 20000 in
/-- CodeMakerModel.judgeParameter from 194 on -/
theorem w345_194 (xs : List Int32) (d : Nat) (l1 : Int32) (l3 : Int32) (s1 : Int32) (s2 : Int32) (m : yM) (Q : Option Value → yM → Prop) (H : (yC (xg xs) d 323 [.ref 58, .int s1, .int s2, .int l1] m (fun v1 m1 => v1 = none ∧ (x_in l1 20000 = true ∧ (x_in (m1.1 65 l1.toNatClampNeg) 20000 = true ∧ yP (xg xs) (d + 1) 345 214 [(0, .ref 58), (1, .int l1), (3, .int l3), (4, .int (0 : Int32)), (5, .int (m1.1 66 ((m1.1 65 l1.toNatClampNeg).toNatClampNeg)))] [] m1 Q))))) : yP (xg xs) (d + 1) 345 194 [(0, .ref 58), (1, .int l1), (3, .int l3)] [.int s2, .int s1, .ref 58] m Q := by
  refine y_st rfl rfl rfl rfl rfl (fun _ _ => rfl) ?_
  show yP (xg xs) (d + 1) 345 195 [(0, .ref 58), (1, .int l1), (3, .int l3)] [.int l1, .int s2, .int s1, .ref 58] m Q
  refine y_call rfl rfl rfl rfl rfl (Nat.le_of_ble_eq_true rfl) (Nat.le_of_ble_eq_true rfl) rfl (by decide) H (fun v1 m1 H => ?_)
  obtain ⟨rfl, H⟩ := H
  refine y_st rfl rfl rfl rfl rfl (fun _ _ => rfl) ?_
  refine y_st rfl rfl rfl rfl rfl (fun _ _ => rfl) ?_
  refine y_st rfl rfl rfl rfl rfl (fun _ _ => rfl) ?_
  refine y_gf rfl rfl rfl rfl rfl ?_
  refine y_st rfl rfl rfl rfl rfl (fun _ _ => rfl) ?_
  refine y_gf rfl rfl rfl rfl rfl ?_
  refine y_st rfl rfl rfl rfl rfl (fun _ _ => rfl) ?_
  show yP (xg xs) (d + 1) 345 210 [(4, .int (0 : Int32)), (0, .ref 58), (1, .int l1), (3, .int l3)] [.int l1, .ref 65, .ref 66] m1 Q
  refine y_iald rfl rfl rfl (H.1) ?_
  replace H := H.2
  show yP (xg xs) (d + 1) 345 211 [(4, .int (0 : Int32)), (0, .ref 58), (1, .int l1), (3, .int l3)] [.int (m1.1 65 l1.toNatClampNeg), .ref 66] m1 Q
  refine y_iald rfl rfl rfl (H.1) ?_
  replace H := H.2
  refine y_st rfl rfl rfl rfl rfl (fun _ _ => rfl) ?_
  show yP (xg xs) (d + 1) 345 214 [(5, .int (m1.1 66 ((m1.1 65 l1.toNatClampNeg).toNatClampNeg))), (4, .int (0 : Int32)), (0, .ref 58), (1, .int l1), (3, .int l3)] [] m1 Q
  refine y_headS (l2 := [(0, .ref 58), (1, .int l1), (3, .int l3), (4, .int (0 : Int32)), (5, .int (m1.1 66 ((m1.1 65 l1.toNatClampNeg).toNatClampNeg)))]) [2, 3, 4, 1, 0] [0, 1, 3, 4, 5] [5, 4, 0, 1, 3] rfl rfl (by decide) rfl (by decide) ?_
  exact H
set_option maxRecDepth 20000 in
/-- CodeMakerModel.judgeParameter from 214 on -/
theorem w345_214 (xs : List Int32) (d : Nat) (l1 : Int32) (l3 : Int32) (l4 : Int32) (l5 : Int32) (m : yM) (Q : Option Value → yM → Prop) (H : ((l5 = l1 → (yC (xg xs) d 323 [.ref 58, .int (33 : Int32), .int l4, .int l1] m (fun v1 m1 => v1 = none ∧ (x_in l1 20000 = true ∧ (x_in (m1.1 66 l1.toNatClampNeg) 20000 = true ∧ (yC (xg xs) d 343 [.int (m1.1 84 ((m1.1 66 l1.toNatClampNeg).toNatClampNeg)), .int l3] m1 (fun v2 m2 => ∃ u2, v2 = some (Value.int u2) ∧ ((¬ u2 = 0 → yP (xg xs) (d + 1) 345 295 [(1, .int l1)] [.int (0 : Int32), .int (31 : Int32), .ref 58] m2 Q) ∧ (u2 = 0 → yP (xg xs) (d + 1) 345 295 [(1, .int l1)] [.int (1 : Int32), .int (31 : Int32), .ref 58] m2 Q))))))))) ∧ (¬ l5 = l1 → ((¬ l4 = 0 → yP (xg xs) (d + 1) 345 241 [(0, .ref 58), (1, .int l1), (3, .int l3), (5, .int l5)] [] m Q) ∧ (l4 = 0 → (x_in l5 20000 = true ∧ (x_in l1 20000 = true ∧ ((¬ (m.1 64 l5.toNatClampNeg) = (m.1 64 l1.toNatClampNeg) → yP (xg xs) (d + 1) 345 246 [(0, .ref 58), (1, .int l1), (3, .int l3), (5, .int l5)] [.int (0 : Int32)] m Q) ∧ ((m.1 64 l5.toNatClampNeg) = (m.1 64 l1.toNatClampNeg) → yP (xg xs) (d + 1) 345 241 [(0, .ref 58), (1, .int l1), (3, .int l3), (5, .int l5)] [] m Q))))))))) : yP (xg xs) (d + 1) 345 214 [(0, .ref 58), (1, .int l1), (3, .int l3), (4, .int l4), (5, .int l5)] [] m Q := by
  refine y_st rfl rfl rfl rfl rfl (fun _ _ => rfl) ?_
  refine y_st rfl rfl rfl rfl rfl (fun _ _ => rfl) ?_
  show yP (xg xs) (d + 1) 345 217 [(0, .ref 58), (1, .int l1), (3, .int l3), (4, .int l4), (5, .int l5)] [.int l1, .int l5] m Q
  refine y_ieq (t := 260) rfl rfl rfl (fun h => ?_) (fun h => ?_)
  · replace H := H.1 h; clear h
    refine y_st rfl rfl rfl rfl rfl (fun _ _ => rfl) ?_
    refine y_st rfl rfl rfl rfl rfl (fun _ _ => rfl) ?_
    refine y_st rfl rfl rfl rfl rfl (fun _ _ => rfl) ?_
    refine y_st rfl rfl rfl rfl rfl (fun _ _ => rfl) ?_
    show yP (xg xs) (d + 1) 345 266 [(0, .ref 58), (1, .int l1), (3, .int l3), (4, .int l4), (5, .int l5)] [.int l1, .int l4, .int (33 : Int32), .ref 58] m Q
    refine y_call rfl rfl rfl rfl rfl (Nat.le_of_ble_eq_true rfl) (Nat.le_of_ble_eq_true rfl) rfl (by decide) H (fun v1 m1 H => ?_)
    obtain ⟨rfl, H⟩ := H
    refine y_st rfl rfl rfl rfl rfl (fun _ _ => rfl) ?_
    refine y_st rfl rfl rfl rfl rfl (fun _ _ => rfl) ?_
    refine y_st rfl rfl rfl rfl rfl (fun _ _ => rfl) ?_
    refine y_gf rfl rfl rfl rfl rfl ?_
    refine y_st rfl rfl rfl rfl rfl (fun _ _ => rfl) ?_
    refine y_gf rfl rfl rfl rfl rfl ?_
    refine y_st rfl rfl rfl rfl rfl (fun _ _ => rfl) ?_
    show yP (xg xs) (d + 1) 345 281 [(0, .ref 58), (1, .int l1), (3, .int l3), (4, .int l4), (5, .int l5)] [.int l1, .ref 66, .ref 84, .int (31 : Int32), .ref 58] m1 Q
    refine y_iald rfl rfl rfl (H.1) ?_
    replace H := H.2
    show yP (xg xs) (d + 1) 345 282 [(0, .ref 58), (1, .int l1), (3, .int l3), (4, .int l4), (5, .int l5)] [.int (m1.1 66 l1.toNatClampNeg), .ref 84, .int (31 : Int32), .ref 58] m1 Q
    refine y_iald rfl rfl rfl (H.1) ?_
    replace H := H.2
    refine y_st rfl rfl rfl rfl rfl (fun _ _ => rfl) ?_
    show yP (xg xs) (d + 1) 345 284 [(0, .ref 58), (1, .int l1), (3, .int l3), (4, .int l4), (5, .int l5)] [.int l3, .int (m1.1 84 ((m1.1 66 l1.toNatClampNeg).toNatClampNeg)), .int (31 : Int32), .ref 58] m1 Q
    refine y_call rfl rfl rfl rfl rfl (Nat.le_of_ble_eq_true rfl) (Nat.le_of_ble_eq_true rfl) rfl (by decide) H (fun v2 m2 H => ?_)
    obtain ⟨u2, rfl, H⟩ := H
    show yP (xg xs) (d + 1) 345 287 [(0, .ref 58), (1, .int l1), (3, .int l3), (4, .int l4), (5, .int l5)] [.int u2, .int (31 : Int32), .ref 58] m2 Q
    refine y_zne (t := 294) rfl rfl rfl (fun h => ?_) (fun h => ?_)
    · replace H := H.1 h; clear h
      refine y_st rfl rfl rfl rfl rfl (fun _ _ => rfl) ?_
      show yP (xg xs) (d + 1) 345 295 [(0, .ref 58), (1, .int l1), (3, .int l3), (4, .int l4), (5, .int l5)] [.int (0 : Int32), .int (31 : Int32), .ref 58] m2 Q
      refine y_headS (l2 := [(1, .int l1)]) [1] [1] [0, 1, 3, 4, 5] rfl rfl (by decide) rfl (by decide) ?_
      exact H
    · replace H := H.2 h; clear h
      refine y_st rfl rfl rfl rfl rfl (fun _ _ => rfl) ?_
      refine y_st rfl rfl rfl rfl rfl (fun _ _ => rfl) ?_
      show yP (xg xs) (d + 1) 345 295 [(0, .ref 58), (1, .int l1), (3, .int l3), (4, .int l4), (5, .int l5)] [.int (1 : Int32), .int (31 : Int32), .ref 58] m2 Q
      refine y_headS (l2 := [(1, .int l1)]) [1] [1] [0, 1, 3, 4, 5] rfl rfl (by decide) rfl (by decide) ?_
      exact H
  · replace H := H.2 h; clear h
    refine y_st rfl rfl rfl rfl rfl (fun _ _ => rfl) ?_
    show yP (xg xs) (d + 1) 345 222 [(0, .ref 58), (1, .int l1), (3, .int l3), (4, .int l4), (5, .int l5)] [.int l4] m Q
    refine y_zne (t := 241) rfl rfl rfl (fun h => ?_) (fun h => ?_)
    · replace H := H.1 h; clear h
      show yP (xg xs) (d + 1) 345 241 [(0, .ref 58), (1, .int l1), (3, .int l3), (4, .int l4), (5, .int l5)] [] m Q
      refine y_headS (l2 := [(0, .ref 58), (1, .int l1), (3, .int l3), (5, .int l5)]) [0, 1, 2, 4] [0, 1, 3, 5] [0, 1, 3, 4, 5] rfl rfl (by decide) rfl (by decide) ?_
      exact H
    · replace H := H.2 h; clear h
      refine y_st rfl rfl rfl rfl rfl (fun _ _ => rfl) ?_
      refine y_gf rfl rfl rfl rfl rfl ?_
      refine y_st rfl rfl rfl rfl rfl (fun _ _ => rfl) ?_
      show yP (xg xs) (d + 1) 345 231 [(0, .ref 58), (1, .int l1), (3, .int l3), (4, .int l4), (5, .int l5)] [.int l5, .ref 64] m Q
      refine y_iald rfl rfl rfl (H.1) ?_
      replace H := H.2
      refine y_st rfl rfl rfl rfl rfl (fun _ _ => rfl) ?_
      refine y_gf rfl rfl rfl rfl rfl ?_
      refine y_st rfl rfl rfl rfl rfl (fun _ _ => rfl) ?_
      show yP (xg xs) (d + 1) 345 237 [(0, .ref 58), (1, .int l1), (3, .int l3), (4, .int l4), (5, .int l5)] [.int l1, .ref 64, .int (m.1 64 l5.toNatClampNeg)] m Q
      refine y_iald rfl rfl rfl (H.1) ?_
      replace H := H.2
      show yP (xg xs) (d + 1) 345 238 [(0, .ref 58), (1, .int l1), (3, .int l3), (4, .int l4), (5, .int l5)] [.int (m.1 64 l1.toNatClampNeg), .int (m.1 64 l5.toNatClampNeg)] m Q
      refine y_ine (t := 245) rfl rfl rfl (fun h => ?_) (fun h => ?_)
      · replace H := H.1 h; clear h
        refine y_st rfl rfl rfl rfl rfl (fun _ _ => rfl) ?_
        show yP (xg xs) (d + 1) 345 246 [(0, .ref 58), (1, .int l1), (3, .int l3), (4, .int l4), (5, .int l5)] [.int (0 : Int32)] m Q
        refine y_headS (l2 := [(0, .ref 58), (1, .int l1), (3, .int l3), (5, .int l5)]) [0, 1, 2, 4] [0, 1, 3, 5] [0, 1, 3, 4, 5] rfl rfl (by decide) rfl (by decide) ?_
        exact H
      · replace H := H.2 h; clear h
        show yP (xg xs) (d + 1) 345 241 [(0, .ref 58), (1, .int l1), (3, .int l3), (4, .int l4), (5, .int l5)] [] m Q
        refine y_headS (l2 := [(0, .ref 58), (1, .int l1), (3, .int l3), (5, .int l5)]) [0, 1, 2, 4] [0, 1, 3, 5] [0, 1, 3, 4, 5] rfl rfl (by decide) rfl (by decide) ?_
        exact H
set_option maxRecDepth 20000 in
/-- CodeMakerModel.judgeParameter from 241 on -/
theorem w345_241 (xs : List Int32) (d : Nat) (l1 : Int32) (l3 : Int32) (l5 : Int32) (m : yM) (Q : Option Value → yM → Prop) (H : yP (xg xs) (d + 1) 345 246 [(0, .ref 58), (1, .int l1), (3, .int l3), (5, .int l5)] [.int (1 : Int32)] m Q) : yP (xg xs) (d + 1) 345 241 [(0, .ref 58), (1, .int l1), (3, .int l3), (5, .int l5)] [] m Q := by
  refine y_st rfl rfl rfl rfl rfl (fun _ _ => rfl) ?_
  refine y_st rfl rfl rfl rfl rfl (fun _ _ => rfl) ?_
  show yP (xg xs) (d + 1) 345 246 [(0, .ref 58), (1, .int l1), (3, .int l3), (5, .int l5)] [.int (1 : Int32)] m Q
  exact H
set_option maxRecDepth 20000 in
/-- CodeMakerModel.judgeParameter from 246 on -/
theorem w345_246 (xs : List Int32) (d : Nat) (l1 : Int32) (l3 : Int32) (l5 : Int32) (s0 : Int32) (m : yM) (Q : Option Value → yM → Prop) (H : (x_in l5 20000 = true ∧ yP (xg xs) (d + 1) 345 214 [(0, .ref 58), (1, .int l1), (3, .int l3), (4, .int s0), (5, .int (m.1 68 l5.toNatClampNeg))] [] m Q)) : yP (xg xs) (d + 1) 345 246 [(0, .ref 58), (1, .int l1), (3, .int l3), (5, .int l5)] [.int s0] m Q := by
  refine y_st rfl rfl rfl rfl rfl (fun _ _ => rfl) ?_
  refine y_st rfl rfl rfl rfl rfl (fun _ _ => rfl) ?_
  refine y_gf rfl rfl rfl rfl rfl ?_
  refine y_st rfl rfl rfl rfl rfl (fun _ _ => rfl) ?_
  show yP (xg xs) (d + 1) 345 254 [(4, .int s0), (0, .ref 58), (1, .int l1), (3, .int l3), (5, .int l5)] [.int l5, .ref 68] m Q
  refine y_iald rfl rfl rfl (H.1) ?_
  replace H := H.2
  refine y_st rfl rfl rfl rfl rfl (fun _ _ => rfl) ?_
  refine y_st rfl rfl rfl rfl rfl (fun _ _ => rfl) ?_
  show yP (xg xs) (d + 1) 345 214 [(5, .int (m.1 68 l5.toNatClampNeg)), (4, .int s0), (0, .ref 58), (1, .int l1), (3, .int l3)] [] m Q
  refine y_headS (l2 := [(0, .ref 58), (1, .int l1), (3, .int l3), (4, .int s0), (5, .int (m.1 68 l5.toNatClampNeg))]) [2, 3, 4, 1, 0] [0, 1, 3, 4, 5] [5, 4, 0, 1, 3] rfl rfl (by decide) rfl (by decide) ?_
  exact H
set_option maxRecDepth 20000 in
/-- CodeMakerModel.judgeParameter from 295 on -/
theorem w345_295 (xs : List Int32) (d : Nat) (l1 : Int32) (s1 : Int32) (s2 : Int32) (m : yM) (Q : Option Value → yM → Prop) (H : (yC (xg xs) d 323 [.ref 58, .int s1, .int s2, .int l1] m (fun v1 m1 => v1 = none ∧ Q none m1))) : yP (xg xs) (d + 1) 345 295 [(1, .int l1)] [.int s2, .int s1, .ref 58] m Q := by
  refine y_st rfl rfl rfl rfl rfl (fun _ _ => rfl) ?_
  show yP (xg xs) (d + 1) 345 296 [(1, .int l1)] [.int l1, .int s2, .int s1, .ref 58] m Q
  refine y_call rfl rfl rfl rfl rfl (Nat.le_of_ble_eq_true rfl) (Nat.le_of_ble_eq_true rfl) rfl (by decide) H (fun v1 m1 H => ?_)
  obtain ⟨rfl, H⟩ := H
  show yP (xg xs) (d + 1) 345 299 [(1, .int l1)] [] m1 Q
  exact y_ret rfl rfl rfl rfl H
