/-! WHAT EACH METHOD COMES TO, group i: laid by wip/gen/wpall.py -/
set_option maxRecDepth 20000 in
/-- CodeMakerModel.judgeFor from 0 on -/
theorem w348_0 (xs : List Int32) (d : Nat) (l1 : Int32) (m : yM) (Q : Option Value → yM → Prop) (H : (yC (xg xs) d 344 [.ref 58, .int l1, .int (0 : Int32)] m (fun v1 m1 => ∃ u1, v1 = some (Value.int u1) ∧ (((m1.1 58 3) ≤ 0 → (x_in u1 4700 = true ∧ ((¬ (m1.1 77 u1.toNatClampNeg) = 0 → yP (xg xs) (d + 1) 348 32 [(0, .ref 58), (1, .int l1), (2, .int u1)] [.int (0 : Int32), .int (22 : Int32), .ref 58] m1 Q) ∧ ((m1.1 77 u1.toNatClampNeg) = 0 → yP (xg xs) (d + 1) 348 32 [(0, .ref 58), (1, .int l1), (2, .int u1)] [.int (1 : Int32), .int (22 : Int32), .ref 58] m1 Q)))) ∧ (¬ (m1.1 58 3) ≤ 0 → Q none m1))))) : yP (xg xs) (d + 1) 348 0 [(0, .ref 58), (1, .int l1)] [] m Q := by
  refine y_st rfl rfl rfl rfl rfl (fun _ _ => rfl) ?_
  refine y_st rfl rfl rfl rfl rfl (fun _ _ => rfl) ?_
  refine y_st rfl rfl rfl rfl rfl (fun _ _ => rfl) ?_
  show yP (xg xs) (d + 1) 348 3 [(0, .ref 58), (1, .int l1)] [.int (0 : Int32), .int l1, .ref 58] m Q
  refine y_call rfl rfl rfl rfl rfl (Nat.le_of_ble_eq_true rfl) (Nat.le_of_ble_eq_true rfl) rfl (by decide) H (fun v1 m1 H => ?_)
  obtain ⟨u1, rfl, H⟩ := H
  refine y_st rfl rfl rfl rfl rfl (fun _ _ => rfl) ?_
  refine y_st rfl rfl rfl rfl rfl (fun _ _ => rfl) ?_
  refine y_gf rfl rfl rfl rfl rfl ?_
  show yP (xg xs) (d + 1) 348 11 [(2, .int u1), (0, .ref 58), (1, .int l1)] [.int (m1.1 58 3)] m1 Q
  refine y_zle (t := 15) rfl rfl rfl (fun h => ?_) (fun h => ?_)
  · replace H := H.1 h; clear h
    refine y_st rfl rfl rfl rfl rfl (fun _ _ => rfl) ?_
    refine y_st rfl rfl rfl rfl rfl (fun _ _ => rfl) ?_
    refine y_st rfl rfl rfl rfl rfl (fun _ _ => rfl) ?_
    refine y_gf rfl rfl rfl rfl rfl ?_
    refine y_st rfl rfl rfl rfl rfl (fun _ _ => rfl) ?_
    show yP (xg xs) (d + 1) 348 23 [(2, .int u1), (0, .ref 58), (1, .int l1)] [.int u1, .ref 77, .int (22 : Int32), .ref 58] m1 Q
    refine y_iald rfl rfl rfl (H.1) ?_
    replace H := H.2
    show yP (xg xs) (d + 1) 348 24 [(2, .int u1), (0, .ref 58), (1, .int l1)] [.int (m1.1 77 u1.toNatClampNeg), .int (22 : Int32), .ref 58] m1 Q
    refine y_zne (t := 31) rfl rfl rfl (fun h => ?_) (fun h => ?_)
    · replace H := H.1 h; clear h
      refine y_st rfl rfl rfl rfl rfl (fun _ _ => rfl) ?_
      show yP (xg xs) (d + 1) 348 32 [(2, .int u1), (0, .ref 58), (1, .int l1)] [.int (0 : Int32), .int (22 : Int32), .ref 58] m1 Q
      refine y_headS (l2 := [(0, .ref 58), (1, .int l1), (2, .int u1)]) [1, 2, 0] [0, 1, 2] [2, 0, 1] rfl rfl (by decide) rfl (by decide) ?_
      exact H
    · replace H := H.2 h; clear h
      refine y_st rfl rfl rfl rfl rfl (fun _ _ => rfl) ?_
      refine y_st rfl rfl rfl rfl rfl (fun _ _ => rfl) ?_
      show yP (xg xs) (d + 1) 348 32 [(2, .int u1), (0, .ref 58), (1, .int l1)] [.int (1 : Int32), .int (22 : Int32), .ref 58] m1 Q
      refine y_headS (l2 := [(0, .ref 58), (1, .int l1), (2, .int u1)]) [1, 2, 0] [0, 1, 2] [2, 0, 1] rfl rfl (by decide) rfl (by decide) ?_
      exact H
  · replace H := H.2 h; clear h
    show yP (xg xs) (d + 1) 348 14 [(2, .int u1), (0, .ref 58), (1, .int l1)] [] m1 Q
    exact y_ret rfl rfl rfl rfl H
set_option maxRecDepth 20000 in
/-- CodeMakerModel.judgeFor from 32 on -/
theorem w348_32 (xs : List Int32) (d : Nat) (l1 : Int32) (l2 : Int32) (s1 : Int32) (s2 : Int32) (m : yM) (Q : Option Value → yM → Prop) (H : (yC (xg xs) d 323 [.ref 58, .int s1, .int s2, .int l1] m (fun v1 m1 => v1 = none ∧ (yC (xg xs) d 341 [.ref 58, .int l1, .int l2] m1 (fun v2 m2 => v2 = none ∧ (yC (xg xs) d 349 [.ref 58, .int l1] m2 (fun v3 m3 => ∃ u3, v3 = some (Value.int u3) ∧ ((u3 = 0 → yP (xg xs) (d + 1) 348 62 [(0, .ref 58), (1, .int l1), (2, .int l2)] [] m3 Q) ∧ (¬ u3 = 0 → (yC (xg xs) d 351 [.ref 58, .int l1] m3 (fun v4 m4 => ∃ u4, v4 = some (Value.long u4) ∧ (((lg_cmp u4 (1000000 : Int64)) ≤ 0 → yP (xg xs) (d + 1) 348 67 [(0, .ref 58), (1, .int l1), (2, .int l2)] [.int (0 : Int32)] m4 Q) ∧ (¬ (lg_cmp u4 (1000000 : Int64)) ≤ 0 → yP (xg xs) (d + 1) 348 62 [(0, .ref 58), (1, .int l1), (2, .int l2)] [] m4 Q))))))))))))) : yP (xg xs) (d + 1) 348 32 [(0, .ref 58), (1, .int l1), (2, .int l2)] [.int s2, .int s1, .ref 58] m Q := by
  refine y_st rfl rfl rfl rfl rfl (fun _ _ => rfl) ?_
  show yP (xg xs) (d + 1) 348 33 [(0, .ref 58), (1, .int l1), (2, .int l2)] [.int l1, .int s2, .int s1, .ref 58] m Q
  refine y_call rfl rfl rfl rfl rfl (Nat.le_of_ble_eq_true rfl) (Nat.le_of_ble_eq_true rfl) rfl (by decide) H (fun v1 m1 H => ?_)
  obtain ⟨rfl, H⟩ := H
  refine y_st rfl rfl rfl rfl rfl (fun _ _ => rfl) ?_
  refine y_st rfl rfl rfl rfl rfl (fun _ _ => rfl) ?_
  refine y_st rfl rfl rfl rfl rfl (fun _ _ => rfl) ?_
  show yP (xg xs) (d + 1) 348 39 [(0, .ref 58), (1, .int l1), (2, .int l2)] [.int l2, .int l1, .ref 58] m1 Q
  refine y_call rfl rfl rfl rfl rfl (Nat.le_of_ble_eq_true rfl) (Nat.le_of_ble_eq_true rfl) rfl (by decide) H (fun v2 m2 H => ?_)
  obtain ⟨rfl, H⟩ := H
  refine y_st rfl rfl rfl rfl rfl (fun _ _ => rfl) ?_
  refine y_st rfl rfl rfl rfl rfl (fun _ _ => rfl) ?_
  show yP (xg xs) (d + 1) 348 44 [(0, .ref 58), (1, .int l1), (2, .int l2)] [.int l1, .ref 58] m2 Q
  refine y_call rfl rfl rfl rfl rfl (Nat.le_of_ble_eq_true rfl) (Nat.le_of_ble_eq_true rfl) rfl (by decide) H (fun v3 m3 H => ?_)
  obtain ⟨u3, rfl, H⟩ := H
  show yP (xg xs) (d + 1) 348 47 [(0, .ref 58), (1, .int l1), (2, .int l2)] [.int u3] m3 Q
  refine y_zeq (t := 62) rfl rfl rfl (fun h => ?_) (fun h => ?_)
  · replace H := H.1 h; clear h
    show yP (xg xs) (d + 1) 348 62 [(0, .ref 58), (1, .int l1), (2, .int l2)] [] m3 Q
    exact H
  · replace H := H.2 h; clear h
    refine y_st rfl rfl rfl rfl rfl (fun _ _ => rfl) ?_
    refine y_st rfl rfl rfl rfl rfl (fun _ _ => rfl) ?_
    show yP (xg xs) (d + 1) 348 52 [(0, .ref 58), (1, .int l1), (2, .int l2)] [.int l1, .ref 58] m3 Q
    refine y_call rfl rfl rfl rfl rfl (Nat.le_of_ble_eq_true rfl) (Nat.le_of_ble_eq_true rfl) rfl (by decide) H (fun v4 m4 H => ?_)
    obtain ⟨u4, rfl, H⟩ := H
    refine y_st rfl rfl rfl rfl rfl (fun _ _ => rfl) ?_
    refine y_st rfl rfl rfl rfl rfl (fun _ _ => rfl) ?_
    show yP (xg xs) (d + 1) 348 59 [(0, .ref 58), (1, .int l1), (2, .int l2)] [.int (lg_cmp u4 (1000000 : Int64))] m4 Q
    refine y_zle (t := 66) rfl rfl rfl (fun h => ?_) (fun h => ?_)
    · replace H := H.1 h; clear h
      refine y_st rfl rfl rfl rfl rfl (fun _ _ => rfl) ?_
      show yP (xg xs) (d + 1) 348 67 [(0, .ref 58), (1, .int l1), (2, .int l2)] [.int (0 : Int32)] m4 Q
      exact H
    · replace H := H.2 h; clear h
      show yP (xg xs) (d + 1) 348 62 [(0, .ref 58), (1, .int l1), (2, .int l2)] [] m4 Q
      exact H
set_option maxRecDepth 20000 in
/-- CodeMakerModel.judgeFor from 62 on -/
theorem w348_62 (xs : List Int32) (d : Nat) (l1 : Int32) (l2 : Int32) (m : yM) (Q : Option Value → yM → Prop) (H : yP (xg xs) (d + 1) 348 67 [(0, .ref 58), (1, .int l1), (2, .int l2)] [.int (1 : Int32)] m Q) : yP (xg xs) (d + 1) 348 62 [(0, .ref 58), (1, .int l1), (2, .int l2)] [] m Q := by
  refine y_st rfl rfl rfl rfl rfl (fun _ _ => rfl) ?_
  refine y_st rfl rfl rfl rfl rfl (fun _ _ => rfl) ?_
  show yP (xg xs) (d + 1) 348 67 [(0, .ref 58), (1, .int l1), (2, .int l2)] [.int (1 : Int32)] m Q
  exact H
set_option maxRecDepth 20000 in
/-- CodeMakerModel.judgeFor from 67 on -/
theorem w348_67 (xs : List Int32) (d : Nat) (l1 : Int32) (l2 : Int32) (s0 : Int32) (m : yM) (Q : Option Value → yM → Prop) (H : (x_in l1 20000 = true ∧ yP (xg xs) (d + 1) 348 76 [(0, .ref 58), (1, .int l1), (2, .int l2), (3, .int s0), (4, .int (m.1 66 l1.toNatClampNeg))] [] m Q)) : yP (xg xs) (d + 1) 348 67 [(0, .ref 58), (1, .int l1), (2, .int l2)] [.int s0] m Q := by
  refine y_st rfl rfl rfl rfl rfl (fun _ _ => rfl) ?_
  refine y_st rfl rfl rfl rfl rfl (fun _ _ => rfl) ?_
  refine y_gf rfl rfl rfl rfl rfl ?_
  refine y_st rfl rfl rfl rfl rfl (fun _ _ => rfl) ?_
  show yP (xg xs) (d + 1) 348 73 [(3, .int s0), (0, .ref 58), (1, .int l1), (2, .int l2)] [.int l1, .ref 66] m Q
  refine y_iald rfl rfl rfl (H.1) ?_
  replace H := H.2
  refine y_st rfl rfl rfl rfl rfl (fun _ _ => rfl) ?_
  show yP (xg xs) (d + 1) 348 76 [(4, .int (m.1 66 l1.toNatClampNeg)), (3, .int s0), (0, .ref 58), (1, .int l1), (2, .int l2)] [] m Q
  refine y_headS (l2 := [(0, .ref 58), (1, .int l1), (2, .int l2), (3, .int s0), (4, .int (m.1 66 l1.toNatClampNeg))]) [2, 3, 4, 1, 0] [0, 1, 2, 3, 4] [4, 3, 0, 1, 2] rfl rfl (by decide) rfl (by decide) ?_
  exact H
set_option maxRecDepth 20000 in
/-- CodeMakerModel.judgeFor from 76 on -/
theorem w348_76 (xs : List Int32) (d : Nat) (l1 : Int32) (l2 : Int32) (l3 : Int32) (l4 : Int32) (m : yM) (Q : Option Value → yM → Prop) (H : (x_in l1 20000 = true ∧ ((l4 = (m.1 67 l1.toNatClampNeg) → (yC (xg xs) d 323 [.ref 58, .int (36 : Int32), .int l3, .int l1] m (fun v1 m1 => v1 = none ∧ Q none m1))) ∧ (¬ l4 = (m.1 67 l1.toNatClampNeg) → (x_in l4 20000 = true ∧ (((m.1 64 l4.toNatClampNeg) < ((-32768) : Int32) → yP (xg xs) (d + 1) 348 113 [(0, .ref 58), (1, .int l1), (2, .int l2), (3, .int l3), (4, .int l4)] [] m Q) ∧ (¬ (m.1 64 l4.toNatClampNeg) < ((-32768) : Int32) → (x_in l4 20000 = true ∧ (((m.1 64 l4.toNatClampNeg) ≤ (32767 : Int32) → yP (xg xs) (d + 1) 348 118 [(0, .ref 58), (1, .int l1), (2, .int l2), (3, .int l3), (4, .int l4)] [.int (0 : Int32)] m Q) ∧ (¬ (m.1 64 l4.toNatClampNeg) ≤ (32767 : Int32) → yP (xg xs) (d + 1) 348 113 [(0, .ref 58), (1, .int l1), (2, .int l2), (3, .int l3), (4, .int l4)] [] m Q)))))))))) : yP (xg xs) (d + 1) 348 76 [(0, .ref 58), (1, .int l1), (2, .int l2), (3, .int l3), (4, .int l4)] [] m Q := by
  refine y_st rfl rfl rfl rfl rfl (fun _ _ => rfl) ?_
  refine y_st rfl rfl rfl rfl rfl (fun _ _ => rfl) ?_
  refine y_gf rfl rfl rfl rfl rfl ?_
  refine y_st rfl rfl rfl rfl rfl (fun _ _ => rfl) ?_
  show yP (xg xs) (d + 1) 348 83 [(0, .ref 58), (1, .int l1), (2, .int l2), (3, .int l3), (4, .int l4)] [.int l1, .ref 67, .int l4] m Q
  refine y_iald rfl rfl rfl (H.1) ?_
  replace H := H.2
  show yP (xg xs) (d + 1) 348 84 [(0, .ref 58), (1, .int l1), (2, .int l2), (3, .int l3), (4, .int l4)] [.int (m.1 67 l1.toNatClampNeg), .int l4] m Q
  refine y_ieq (t := 169) rfl rfl rfl (fun h => ?_) (fun h => ?_)
  · replace H := H.1 h; clear h
    refine y_st rfl rfl rfl rfl rfl (fun _ _ => rfl) ?_
    refine y_st rfl rfl rfl rfl rfl (fun _ _ => rfl) ?_
    refine y_st rfl rfl rfl rfl rfl (fun _ _ => rfl) ?_
    refine y_st rfl rfl rfl rfl rfl (fun _ _ => rfl) ?_
    show yP (xg xs) (d + 1) 348 174 [(0, .ref 58), (1, .int l1), (2, .int l2), (3, .int l3), (4, .int l4)] [.int l1, .int l3, .int (36 : Int32), .ref 58] m Q
    refine y_call rfl rfl rfl rfl rfl (Nat.le_of_ble_eq_true rfl) (Nat.le_of_ble_eq_true rfl) rfl (by decide) H (fun v1 m1 H => ?_)
    obtain ⟨rfl, H⟩ := H
    show yP (xg xs) (d + 1) 348 177 [(0, .ref 58), (1, .int l1), (2, .int l2), (3, .int l3), (4, .int l4)] [] m1 Q
    exact y_ret rfl rfl rfl rfl H
  · replace H := H.2 h; clear h
    refine y_st rfl rfl rfl rfl rfl (fun _ _ => rfl) ?_
    refine y_gf rfl rfl rfl rfl rfl ?_
    refine y_st rfl rfl rfl rfl rfl (fun _ _ => rfl) ?_
    show yP (xg xs) (d + 1) 348 93 [(0, .ref 58), (1, .int l1), (2, .int l2), (3, .int l3), (4, .int l4)] [.int l4, .ref 64] m Q
    refine y_iald rfl rfl rfl (H.1) ?_
    replace H := H.2
    refine y_st rfl rfl rfl rfl rfl (fun _ _ => rfl) ?_
    show yP (xg xs) (d + 1) 348 97 [(0, .ref 58), (1, .int l1), (2, .int l2), (3, .int l3), (4, .int l4)] [.int ((-32768) : Int32), .int (m.1 64 l4.toNatClampNeg)] m Q
    refine y_ilt (t := 113) rfl rfl rfl (fun h => ?_) (fun h => ?_)
    · replace H := H.1 h; clear h
      show yP (xg xs) (d + 1) 348 113 [(0, .ref 58), (1, .int l1), (2, .int l2), (3, .int l3), (4, .int l4)] [] m Q
      exact H
    · replace H := H.2 h; clear h
      refine y_st rfl rfl rfl rfl rfl (fun _ _ => rfl) ?_
      refine y_gf rfl rfl rfl rfl rfl ?_
      refine y_st rfl rfl rfl rfl rfl (fun _ _ => rfl) ?_
      show yP (xg xs) (d + 1) 348 106 [(0, .ref 58), (1, .int l1), (2, .int l2), (3, .int l3), (4, .int l4)] [.int l4, .ref 64] m Q
      refine y_iald rfl rfl rfl (H.1) ?_
      replace H := H.2
      refine y_st rfl rfl rfl rfl rfl (fun _ _ => rfl) ?_
      show yP (xg xs) (d + 1) 348 110 [(0, .ref 58), (1, .int l1), (2, .int l2), (3, .int l3), (4, .int l4)] [.int (32767 : Int32), .int (m.1 64 l4.toNatClampNeg)] m Q
      refine y_ile (t := 117) rfl rfl rfl (fun h => ?_) (fun h => ?_)
      · replace H := H.1 h; clear h
        refine y_st rfl rfl rfl rfl rfl (fun _ _ => rfl) ?_
        show yP (xg xs) (d + 1) 348 118 [(0, .ref 58), (1, .int l1), (2, .int l2), (3, .int l3), (4, .int l4)] [.int (0 : Int32)] m Q
        exact H
      · replace H := H.2 h; clear h
        show yP (xg xs) (d + 1) 348 113 [(0, .ref 58), (1, .int l1), (2, .int l2), (3, .int l3), (4, .int l4)] [] m Q
        exact H
set_option maxRecDepth 20000 in
/-- CodeMakerModel.judgeFor from 113 on -/
theorem w348_113 (xs : List Int32) (d : Nat) (l1 : Int32) (l2 : Int32) (l3 : Int32) (l4 : Int32) (m : yM) (Q : Option Value → yM → Prop) (H : yP (xg xs) (d + 1) 348 118 [(0, .ref 58), (1, .int l1), (2, .int l2), (3, .int l3), (4, .int l4)] [.int (1 : Int32)] m Q) : yP (xg xs) (d + 1) 348 113 [(0, .ref 58), (1, .int l1), (2, .int l2), (3, .int l3), (4, .int l4)] [] m Q := by
  refine y_st rfl rfl rfl rfl rfl (fun _ _ => rfl) ?_
  refine y_st rfl rfl rfl rfl rfl (fun _ _ => rfl) ?_
  show yP (xg xs) (d + 1) 348 118 [(0, .ref 58), (1, .int l1), (2, .int l2), (3, .int l3), (4, .int l4)] [.int (1 : Int32)] m Q
  exact H
set_option maxRecDepth 20000 in
/-- CodeMakerModel.judgeFor from 118 on -/
theorem w348_118 (xs : List Int32) (d : Nat) (l1 : Int32) (l2 : Int32) (l3 : Int32) (l4 : Int32) (s0 : Int32) (m : yM) (Q : Option Value → yM → Prop) (H : ((¬ l3 = 0 → yP (xg xs) (d + 1) 348 151 [(0, .ref 58), (1, .int l1), (2, .int l2), (4, .int l4)] [] m Q) ∧ (l3 = 0 → (x_in l4 20000 = true ∧ (((m.1 62 l4.toNatClampNeg) = (31 : Int32) → yP (xg xs) (d + 1) 348 151 [(0, .ref 58), (1, .int l1), (2, .int l2), (4, .int l4)] [] m Q) ∧ (¬ (m.1 62 l4.toNatClampNeg) = (31 : Int32) → (x_in l2 4700 = true ∧ ((¬ (m.1 77 l2.toNatClampNeg) = (1 : Int32) → yP (xg xs) (d + 1) 348 155 [(0, .ref 58), (1, .int l1), (2, .int l2), (4, .int l4)] [] m Q) ∧ ((m.1 77 l2.toNatClampNeg) = (1 : Int32) → ((s0 = 0 → yP (xg xs) (d + 1) 348 155 [(0, .ref 58), (1, .int l1), (2, .int l2), (4, .int l4)] [] m Q) ∧ (¬ s0 = 0 → yP (xg xs) (d + 1) 348 151 [(0, .ref 58), (1, .int l1), (2, .int l2), (4, .int l4)] [] m Q))))))))))) : yP (xg xs) (d + 1) 348 118 [(0, .ref 58), (1, .int l1), (2, .int l2), (3, .int l3), (4, .int l4)] [.int s0] m Q := by
  refine y_st rfl rfl rfl rfl rfl (fun _ _ => rfl) ?_
  refine y_st rfl rfl rfl rfl rfl (fun _ _ => rfl) ?_
  show yP (xg xs) (d + 1) 348 121 [(5, .int s0), (0, .ref 58), (1, .int l1), (2, .int l2), (3, .int l3), (4, .int l4)] [.int l3] m Q
  refine y_zne (t := 151) rfl rfl rfl (fun h => ?_) (fun h => ?_)
  · replace H := H.1 h; clear h
    show yP (xg xs) (d + 1) 348 151 [(5, .int s0), (0, .ref 58), (1, .int l1), (2, .int l2), (3, .int l3), (4, .int l4)] [] m Q
    refine y_headS (l2 := [(0, .ref 58), (1, .int l1), (2, .int l2), (4, .int l4)]) [1, 2, 3, 5] [0, 1, 2, 4] [5, 0, 1, 2, 3, 4] rfl rfl (by decide) rfl (by decide) ?_
    exact H
  · replace H := H.2 h; clear h
    refine y_st rfl rfl rfl rfl rfl (fun _ _ => rfl) ?_
    refine y_gf rfl rfl rfl rfl rfl ?_
    refine y_st rfl rfl rfl rfl rfl (fun _ _ => rfl) ?_
    show yP (xg xs) (d + 1) 348 130 [(5, .int s0), (0, .ref 58), (1, .int l1), (2, .int l2), (3, .int l3), (4, .int l4)] [.int l4, .ref 62] m Q
    refine y_iald rfl rfl rfl (H.1) ?_
    replace H := H.2
    refine y_st rfl rfl rfl rfl rfl (fun _ _ => rfl) ?_
    show yP (xg xs) (d + 1) 348 133 [(5, .int s0), (0, .ref 58), (1, .int l1), (2, .int l2), (3, .int l3), (4, .int l4)] [.int (31 : Int32), .int (m.1 62 l4.toNatClampNeg)] m Q
    refine y_ieq (t := 151) rfl rfl rfl (fun h => ?_) (fun h => ?_)
    · replace H := H.1 h; clear h
      show yP (xg xs) (d + 1) 348 151 [(5, .int s0), (0, .ref 58), (1, .int l1), (2, .int l2), (3, .int l3), (4, .int l4)] [] m Q
      refine y_headS (l2 := [(0, .ref 58), (1, .int l1), (2, .int l2), (4, .int l4)]) [1, 2, 3, 5] [0, 1, 2, 4] [5, 0, 1, 2, 3, 4] rfl rfl (by decide) rfl (by decide) ?_
      exact H
    · replace H := H.2 h; clear h
      refine y_st rfl rfl rfl rfl rfl (fun _ _ => rfl) ?_
      refine y_gf rfl rfl rfl rfl rfl ?_
      refine y_st rfl rfl rfl rfl rfl (fun _ _ => rfl) ?_
      show yP (xg xs) (d + 1) 348 141 [(5, .int s0), (0, .ref 58), (1, .int l1), (2, .int l2), (3, .int l3), (4, .int l4)] [.int l2, .ref 77] m Q
      refine y_iald rfl rfl rfl (H.1) ?_
      replace H := H.2
      refine y_st rfl rfl rfl rfl rfl (fun _ _ => rfl) ?_
      show yP (xg xs) (d + 1) 348 143 [(5, .int s0), (0, .ref 58), (1, .int l1), (2, .int l2), (3, .int l3), (4, .int l4)] [.int (1 : Int32), .int (m.1 77 l2.toNatClampNeg)] m Q
      refine y_ine (t := 155) rfl rfl rfl (fun h => ?_) (fun h => ?_)
      · replace H := H.1 h; clear h
        show yP (xg xs) (d + 1) 348 155 [(5, .int s0), (0, .ref 58), (1, .int l1), (2, .int l2), (3, .int l3), (4, .int l4)] [] m Q
        refine y_headS (l2 := [(0, .ref 58), (1, .int l1), (2, .int l2), (4, .int l4)]) [1, 2, 3, 5] [0, 1, 2, 4] [5, 0, 1, 2, 3, 4] rfl rfl (by decide) rfl (by decide) ?_
        exact H
      · replace H := H.2 h; clear h
        refine y_st rfl rfl rfl rfl rfl (fun _ _ => rfl) ?_
        show yP (xg xs) (d + 1) 348 148 [(5, .int s0), (0, .ref 58), (1, .int l1), (2, .int l2), (3, .int l3), (4, .int l4)] [.int s0] m Q
        refine y_zeq (t := 155) rfl rfl rfl (fun h => ?_) (fun h => ?_)
        · replace H := H.1 h; clear h
          show yP (xg xs) (d + 1) 348 155 [(5, .int s0), (0, .ref 58), (1, .int l1), (2, .int l2), (3, .int l3), (4, .int l4)] [] m Q
          refine y_headS (l2 := [(0, .ref 58), (1, .int l1), (2, .int l2), (4, .int l4)]) [1, 2, 3, 5] [0, 1, 2, 4] [5, 0, 1, 2, 3, 4] rfl rfl (by decide) rfl (by decide) ?_
          exact H
        · replace H := H.2 h; clear h
          show yP (xg xs) (d + 1) 348 151 [(5, .int s0), (0, .ref 58), (1, .int l1), (2, .int l2), (3, .int l3), (4, .int l4)] [] m Q
          refine y_headS (l2 := [(0, .ref 58), (1, .int l1), (2, .int l2), (4, .int l4)]) [1, 2, 3, 5] [0, 1, 2, 4] [5, 0, 1, 2, 3, 4] rfl rfl (by decide) rfl (by decide) ?_
          exact H
set_option maxRecDepth 20000 in
/-- CodeMakerModel.judgeFor from 151 on -/
theorem w348_151 (xs : List Int32) (d : Nat) (l1 : Int32) (l2 : Int32) (l4 : Int32) (m : yM) (Q : Option Value → yM → Prop) (H : yP (xg xs) (d + 1) 348 156 [(0, .ref 58), (1, .int l1), (2, .int l2), (4, .int l4)] [.int (1 : Int32)] m Q) : yP (xg xs) (d + 1) 348 151 [(0, .ref 58), (1, .int l1), (2, .int l2), (4, .int l4)] [] m Q := by
  refine y_st rfl rfl rfl rfl rfl (fun _ _ => rfl) ?_
  refine y_st rfl rfl rfl rfl rfl (fun _ _ => rfl) ?_
  show yP (xg xs) (d + 1) 348 156 [(0, .ref 58), (1, .int l1), (2, .int l2), (4, .int l4)] [.int (1 : Int32)] m Q
  exact H
set_option maxRecDepth 20000 in
/-- CodeMakerModel.judgeFor from 155 on -/
theorem w348_155 (xs : List Int32) (d : Nat) (l1 : Int32) (l2 : Int32) (l4 : Int32) (m : yM) (Q : Option Value → yM → Prop) (H : yP (xg xs) (d + 1) 348 156 [(0, .ref 58), (1, .int l1), (2, .int l2), (4, .int l4)] [.int (0 : Int32)] m Q) : yP (xg xs) (d + 1) 348 155 [(0, .ref 58), (1, .int l1), (2, .int l2), (4, .int l4)] [] m Q := by
  refine y_st rfl rfl rfl rfl rfl (fun _ _ => rfl) ?_
  show yP (xg xs) (d + 1) 348 156 [(0, .ref 58), (1, .int l1), (2, .int l2), (4, .int l4)] [.int (0 : Int32)] m Q
  exact H
set_option maxRecDepth 20000 in
/-- CodeMakerModel.judgeFor from 156 on -/
theorem w348_156 (xs : List Int32) (d : Nat) (l1 : Int32) (l2 : Int32) (l4 : Int32) (s0 : Int32) (m : yM) (Q : Option Value → yM → Prop) (H : (x_in l4 20000 = true ∧ yP (xg xs) (d + 1) 348 76 [(0, .ref 58), (1, .int l1), (2, .int l2), (3, .int s0), (4, .int (m.1 68 l4.toNatClampNeg))] [] m Q)) : yP (xg xs) (d + 1) 348 156 [(0, .ref 58), (1, .int l1), (2, .int l2), (4, .int l4)] [.int s0] m Q := by
  refine y_st rfl rfl rfl rfl rfl (fun _ _ => rfl) ?_
  refine y_st rfl rfl rfl rfl rfl (fun _ _ => rfl) ?_
  refine y_gf rfl rfl rfl rfl rfl ?_
  refine y_st rfl rfl rfl rfl rfl (fun _ _ => rfl) ?_
  show yP (xg xs) (d + 1) 348 163 [(3, .int s0), (0, .ref 58), (1, .int l1), (2, .int l2), (4, .int l4)] [.int l4, .ref 68] m Q
  refine y_iald rfl rfl rfl (H.1) ?_
  replace H := H.2
  refine y_st rfl rfl rfl rfl rfl (fun _ _ => rfl) ?_
  refine y_st rfl rfl rfl rfl rfl (fun _ _ => rfl) ?_
  show yP (xg xs) (d + 1) 348 76 [(4, .int (m.1 68 l4.toNatClampNeg)), (3, .int s0), (0, .ref 58), (1, .int l1), (2, .int l2)] [] m Q
  refine y_headS (l2 := [(0, .ref 58), (1, .int l1), (2, .int l2), (3, .int s0), (4, .int (m.1 68 l4.toNatClampNeg))]) [2, 3, 4, 1, 0] [0, 1, 2, 3, 4] [4, 3, 0, 1, 2] rfl rfl (by decide) rfl (by decide) ?_
  exact H
set_option maxRecDepth 20000 in
/-- CodeMakerModel.stepOf from 0 on -/
theorem w349_0 (xs : List Int32) (d : Nat) (l1 : Int32) (m : yM) (Q : Option Value → yM → Prop) (H : (x_in l1 20000 = true ∧ ((¬ (m.1 69 l1.toNatClampNeg) = (4 : Int32) → Q (some (.int (1 : Int32))) m) ∧ ((m.1 69 l1.toNatClampNeg) = (4 : Int32) → (yC (xg xs) d 350 [.ref 58, .int l1, .int (2 : Int32)] m (fun v1 m1 => ∃ u1, v1 = some (Value.int u1) ∧ (x_in u1 20000 = true ∧ Q (some (.int (m1.1 64 u1.toNatClampNeg))) m1))))))) : yP (xg xs) (d + 1) 349 0 [(0, .ref 58), (1, .int l1)] [] m Q := by
  refine y_st rfl rfl rfl rfl rfl (fun _ _ => rfl) ?_
  refine y_gf rfl rfl rfl rfl rfl ?_
  refine y_st rfl rfl rfl rfl rfl (fun _ _ => rfl) ?_
  show yP (xg xs) (d + 1) 349 5 [(0, .ref 58), (1, .int l1)] [.int l1, .ref 69] m Q
  refine y_iald rfl rfl rfl (H.1) ?_
  replace H := H.2
  refine y_st rfl rfl rfl rfl rfl (fun _ _ => rfl) ?_
  show yP (xg xs) (d + 1) 349 7 [(0, .ref 58), (1, .int l1)] [.int (4 : Int32), .int (m.1 69 l1.toNatClampNeg)] m Q
  refine y_ine (t := 24) rfl rfl rfl (fun h => ?_) (fun h => ?_)
  · replace H := H.1 h; clear h
    refine y_st rfl rfl rfl rfl rfl (fun _ _ => rfl) ?_
    show yP (xg xs) (d + 1) 349 25 [(0, .ref 58), (1, .int l1)] [.int (1 : Int32)] m Q
    exact y_iret rfl rfl rfl H
  · replace H := H.2 h; clear h
    refine y_st rfl rfl rfl rfl rfl (fun _ _ => rfl) ?_
    refine y_gf rfl rfl rfl rfl rfl ?_
    refine y_st rfl rfl rfl rfl rfl (fun _ _ => rfl) ?_
    refine y_st rfl rfl rfl rfl rfl (fun _ _ => rfl) ?_
    refine y_st rfl rfl rfl rfl rfl (fun _ _ => rfl) ?_
    show yP (xg xs) (d + 1) 349 17 [(0, .ref 58), (1, .int l1)] [.int (2 : Int32), .int l1, .ref 58, .ref 64] m Q
    refine y_call rfl rfl rfl rfl rfl (Nat.le_of_ble_eq_true rfl) (Nat.le_of_ble_eq_true rfl) rfl (by decide) H (fun v1 m1 H => ?_)
    obtain ⟨u1, rfl, H⟩ := H
    show yP (xg xs) (d + 1) 349 20 [(0, .ref 58), (1, .int l1)] [.int u1, .ref 64] m1 Q
    refine y_iald rfl rfl rfl (H.1) ?_
    replace H := H.2
    refine y_st rfl rfl rfl rfl rfl (fun _ _ => rfl) ?_
    show yP (xg xs) (d + 1) 349 25 [(0, .ref 58), (1, .int l1)] [.int (m1.1 64 u1.toNatClampNeg)] m1 Q
    exact y_iret rfl rfl rfl H
set_option maxRecDepth 20000 in
/-- CodeMakerModel.child from 0 on -/
theorem w350_0 (xs : List Int32) (d : Nat) (l1 : Int32) (l2 : Int32) (m : yM) (Q : Option Value → yM → Prop) (H : (x_in l1 20000 = true ∧ yP (xg xs) (d + 1) 350 10 [(0, .ref 58), (2, .int l2), (3, .int (m.1 66 l1.toNatClampNeg)), (4, .int (0 : Int32))] [] m Q)) : yP (xg xs) (d + 1) 350 0 [(0, .ref 58), (1, .int l1), (2, .int l2)] [] m Q := by
  refine y_st rfl rfl rfl rfl rfl (fun _ _ => rfl) ?_
  refine y_gf rfl rfl rfl rfl rfl ?_
  refine y_st rfl rfl rfl rfl rfl (fun _ _ => rfl) ?_
  show yP (xg xs) (d + 1) 350 5 [(0, .ref 58), (1, .int l1), (2, .int l2)] [.int l1, .ref 66] m Q
  refine y_iald rfl rfl rfl (H.1) ?_
  replace H := H.2
  refine y_st rfl rfl rfl rfl rfl (fun _ _ => rfl) ?_
  refine y_st rfl rfl rfl rfl rfl (fun _ _ => rfl) ?_
  refine y_st rfl rfl rfl rfl rfl (fun _ _ => rfl) ?_
  show yP (xg xs) (d + 1) 350 10 [(4, .int (0 : Int32)), (3, .int (m.1 66 l1.toNatClampNeg)), (0, .ref 58), (1, .int l1), (2, .int l2)] [] m Q
  refine y_headS (l2 := [(0, .ref 58), (2, .int l2), (3, .int (m.1 66 l1.toNatClampNeg)), (4, .int (0 : Int32))]) [2, 4, 1, 0] [0, 2, 3, 4] [4, 3, 0, 1, 2] rfl rfl (by decide) rfl (by decide) ?_
  exact H
set_option maxRecDepth 20000 in
/-- CodeMakerModel.child from 10 on -/
theorem w350_10 (xs : List Int32) (d : Nat) (l2 : Int32) (l3 : Int32) (l4 : Int32) (m : yM) (Q : Option Value → yM → Prop) (H : ((l2 ≤ l4 → Q (some (.int l3)) m) ∧ (¬ l2 ≤ l4 → (x_in l3 20000 = true ∧ yP (xg xs) (d + 1) 350 10 [(0, .ref 58), (2, .int l2), (3, .int (m.1 68 l3.toNatClampNeg)), (4, .int (l4 + (1 : Int32)))] [] m Q)))) : yP (xg xs) (d + 1) 350 10 [(0, .ref 58), (2, .int l2), (3, .int l3), (4, .int l4)] [] m Q := by
  refine y_st rfl rfl rfl rfl rfl (fun _ _ => rfl) ?_
  refine y_st rfl rfl rfl rfl rfl (fun _ _ => rfl) ?_
  show yP (xg xs) (d + 1) 350 13 [(0, .ref 58), (2, .int l2), (3, .int l3), (4, .int l4)] [.int l2, .int l4] m Q
  refine y_ige (t := 29) rfl rfl rfl (fun h => ?_) (fun h => ?_)
  · replace H := H.1 h; clear h
    refine y_st rfl rfl rfl rfl rfl (fun _ _ => rfl) ?_
    show yP (xg xs) (d + 1) 350 30 [(0, .ref 58), (2, .int l2), (3, .int l3), (4, .int l4)] [.int l3] m Q
    exact y_iret rfl rfl rfl H
  · replace H := H.2 h; clear h
    refine y_st rfl rfl rfl rfl rfl (fun _ _ => rfl) ?_
    refine y_gf rfl rfl rfl rfl rfl ?_
    refine y_st rfl rfl rfl rfl rfl (fun _ _ => rfl) ?_
    show yP (xg xs) (d + 1) 350 21 [(0, .ref 58), (2, .int l2), (3, .int l3), (4, .int l4)] [.int l3, .ref 68] m Q
    refine y_iald rfl rfl rfl (H.1) ?_
    replace H := H.2
    refine y_st rfl rfl rfl rfl rfl (fun _ _ => rfl) ?_
    refine y_st rfl rfl rfl rfl rfl (fun _ _ => rfl) ?_
    refine y_st rfl rfl rfl rfl rfl (fun _ _ => rfl) ?_
    show yP (xg xs) (d + 1) 350 10 [(4, .int (l4 + (1 : Int32))), (3, .int (m.1 68 l3.toNatClampNeg)), (0, .ref 58), (2, .int l2)] [] m Q
    refine y_headS (l2 := [(0, .ref 58), (2, .int l2), (3, .int (m.1 68 l3.toNatClampNeg)), (4, .int (l4 + (1 : Int32)))]) [2, 3, 1, 0] [0, 2, 3, 4] [4, 3, 0, 2] rfl rfl (by decide) rfl (by decide) ?_
    exact H
set_option maxRecDepth 20000 in
/-- CodeMakerModel.times from 0 on -/
theorem w351_0 (xs : List Int32) (d : Nat) (l1 : Int32) (m : yM) (Q : Option Value → yM → Prop) (H : (yC (xg xs) d 350 [.ref 58, .int l1, .int (0 : Int32)] m (fun v1 m1 => ∃ u1, v1 = some (Value.int u1) ∧ (x_in u1 20000 = true ∧ (yC (xg xs) d 350 [.ref 58, .int l1, .int (1 : Int32)] m1 (fun v2 m2 => ∃ u2, v2 = some (Value.int u2) ∧ (x_in u2 20000 = true ∧ (yC (xg xs) d 349 [.ref 58, .int l1] m2 (fun v3 m3 => ∃ u3, v3 = some (Value.int u3) ∧ (((lg_cmp u3.toInt64 (0 : Int64)) ≤ 0 → ((0 ≤ (lg_cmp u3.toInt64 (0 : Int64)) → Q (some (.long (0 : Int64))) m3) ∧ (¬ 0 ≤ (lg_cmp u3.toInt64 (0 : Int64)) → ((0 ≤ (lg_cmp ((m1.1 64 u1.toNatClampNeg).toInt64) ((m2.1 64 u2.toNatClampNeg).toInt64)) → (¬ (-u3.toInt64) = 0 ∧ Q (some (.long (((((m1.1 64 u1.toNatClampNeg).toInt64) - ((m2.1 64 u2.toNatClampNeg).toInt64)) / (-u3.toInt64)) + (1 : Int64)))) m3)) ∧ (¬ 0 ≤ (lg_cmp ((m1.1 64 u1.toNatClampNeg).toInt64) ((m2.1 64 u2.toNatClampNeg).toInt64)) → Q (some (.long (0 : Int64))) m3))))) ∧ (¬ (lg_cmp u3.toInt64 (0 : Int64)) ≤ 0 → (((lg_cmp ((m1.1 64 u1.toNatClampNeg).toInt64) ((m2.1 64 u2.toNatClampNeg).toInt64)) ≤ 0 → (¬ u3.toInt64 = 0 ∧ Q (some (.long (((((m2.1 64 u2.toNatClampNeg).toInt64) - ((m1.1 64 u1.toNatClampNeg).toInt64)) / u3.toInt64) + (1 : Int64)))) m3)) ∧ (¬ (lg_cmp ((m1.1 64 u1.toNatClampNeg).toInt64) ((m2.1 64 u2.toNatClampNeg).toInt64)) ≤ 0 → Q (some (.long (0 : Int64))) m3))))))))))))) : yP (xg xs) (d + 1) 351 0 [(0, .ref 58), (1, .int l1)] [] m Q := by
  refine y_st rfl rfl rfl rfl rfl (fun _ _ => rfl) ?_
  refine y_gf rfl rfl rfl rfl rfl ?_
  refine y_st rfl rfl rfl rfl rfl (fun _ _ => rfl) ?_
  refine y_st rfl rfl rfl rfl rfl (fun _ _ => rfl) ?_
  refine y_st rfl rfl rfl rfl rfl (fun _ _ => rfl) ?_
  show yP (xg xs) (d + 1) 351 7 [(0, .ref 58), (1, .int l1)] [.int (0 : Int32), .int l1, .ref 58, .ref 64] m Q
  refine y_call rfl rfl rfl rfl rfl (Nat.le_of_ble_eq_true rfl) (Nat.le_of_ble_eq_true rfl) rfl (by decide) H (fun v1 m1 H => ?_)
  obtain ⟨u1, rfl, H⟩ := H
  show yP (xg xs) (d + 1) 351 10 [(0, .ref 58), (1, .int l1)] [.int u1, .ref 64] m1 Q
  refine y_iald rfl rfl rfl (H.1) ?_
  replace H := H.2
  refine y_st rfl rfl rfl rfl rfl (fun _ _ => rfl) ?_
  refine y_st rfl rfl rfl rfl rfl (fun _ _ => rfl) ?_
  refine y_st rfl rfl rfl rfl rfl (fun _ _ => rfl) ?_
  refine y_gf rfl rfl rfl rfl rfl ?_
  refine y_st rfl rfl rfl rfl rfl (fun _ _ => rfl) ?_
  refine y_st rfl rfl rfl rfl rfl (fun _ _ => rfl) ?_
  refine y_st rfl rfl rfl rfl rfl (fun _ _ => rfl) ?_
  show yP (xg xs) (d + 1) 351 20 [(2, .long ((m1.1 64 u1.toNatClampNeg).toInt64)), (0, .ref 58), (1, .int l1)] [.int (1 : Int32), .int l1, .ref 58, .ref 64] m1 Q
  refine y_call rfl rfl rfl rfl rfl (Nat.le_of_ble_eq_true rfl) (Nat.le_of_ble_eq_true rfl) rfl (by decide) H (fun v2 m2 H => ?_)
  obtain ⟨u2, rfl, H⟩ := H
  show yP (xg xs) (d + 1) 351 23 [(2, .long ((m1.1 64 u1.toNatClampNeg).toInt64)), (0, .ref 58), (1, .int l1)] [.int u2, .ref 64] m2 Q
  refine y_iald rfl rfl rfl (H.1) ?_
  replace H := H.2
  refine y_st rfl rfl rfl rfl rfl (fun _ _ => rfl) ?_
  refine y_st rfl rfl rfl rfl rfl (fun _ _ => rfl) ?_
  refine y_st rfl rfl rfl rfl rfl (fun _ _ => rfl) ?_
  refine y_st rfl rfl rfl rfl rfl (fun _ _ => rfl) ?_
  show yP (xg xs) (d + 1) 351 29 [(4, .long ((m2.1 64 u2.toNatClampNeg).toInt64)), (2, .long ((m1.1 64 u1.toNatClampNeg).toInt64)), (0, .ref 58), (1, .int l1)] [.int l1, .ref 58] m2 Q
  refine y_call rfl rfl rfl rfl rfl (Nat.le_of_ble_eq_true rfl) (Nat.le_of_ble_eq_true rfl) rfl (by decide) H (fun v3 m3 H => ?_)
  obtain ⟨u3, rfl, H⟩ := H
  refine y_st rfl rfl rfl rfl rfl (fun _ _ => rfl) ?_
  refine y_st rfl rfl rfl rfl rfl (fun _ _ => rfl) ?_
  refine y_st rfl rfl rfl rfl rfl (fun _ _ => rfl) ?_
  refine y_st rfl rfl rfl rfl rfl (fun _ _ => rfl) ?_
  refine y_st rfl rfl rfl rfl rfl (fun _ _ => rfl) ?_
  show yP (xg xs) (d + 1) 351 39 [(6, .long u3.toInt64), (4, .long ((m2.1 64 u2.toNatClampNeg).toInt64)), (2, .long ((m1.1 64 u1.toNatClampNeg).toInt64)), (0, .ref 58), (1, .int l1)] [.int (lg_cmp u3.toInt64 (0 : Int64))] m3 Q
  refine y_zle (t := 65) rfl rfl rfl (fun h => ?_) (fun h => ?_)
  · replace H := H.1 h; clear h
    refine y_st rfl rfl rfl rfl rfl (fun _ _ => rfl) ?_
    refine y_st rfl rfl rfl rfl rfl (fun _ _ => rfl) ?_
    refine y_st rfl rfl rfl rfl rfl (fun _ _ => rfl) ?_
    show yP (xg xs) (d + 1) 351 69 [(6, .long u3.toInt64), (4, .long ((m2.1 64 u2.toNatClampNeg).toInt64)), (2, .long ((m1.1 64 u1.toNatClampNeg).toInt64)), (0, .ref 58), (1, .int l1)] [.int (lg_cmp u3.toInt64 (0 : Int64))] m3 Q
    refine y_zge (t := 96) rfl rfl rfl (fun h => ?_) (fun h => ?_)
    · replace H := H.1 h; clear h
      refine y_st rfl rfl rfl rfl rfl (fun _ _ => rfl) ?_
      show yP (xg xs) (d + 1) 351 97 [(6, .long u3.toInt64), (4, .long ((m2.1 64 u2.toNatClampNeg).toInt64)), (2, .long ((m1.1 64 u1.toNatClampNeg).toInt64)), (0, .ref 58), (1, .int l1)] [.long (0 : Int64)] m3 Q
      exact y_ret rfl rfl rfl rfl H
    · replace H := H.2 h; clear h
      refine y_st rfl rfl rfl rfl rfl (fun _ _ => rfl) ?_
      refine y_st rfl rfl rfl rfl rfl (fun _ _ => rfl) ?_
      refine y_st rfl rfl rfl rfl rfl (fun _ _ => rfl) ?_
      show yP (xg xs) (d + 1) 351 76 [(6, .long u3.toInt64), (4, .long ((m2.1 64 u2.toNatClampNeg).toInt64)), (2, .long ((m1.1 64 u1.toNatClampNeg).toInt64)), (0, .ref 58), (1, .int l1)] [.int (lg_cmp ((m1.1 64 u1.toNatClampNeg).toInt64) ((m2.1 64 u2.toNatClampNeg).toInt64))] m3 Q
      refine y_zge (t := 83) rfl rfl rfl (fun h => ?_) (fun h => ?_)
      · replace H := H.1 h; clear h
        refine y_st rfl rfl rfl rfl rfl (fun _ _ => rfl) ?_
        refine y_st rfl rfl rfl rfl rfl (fun _ _ => rfl) ?_
        refine y_st rfl rfl rfl rfl rfl (fun _ _ => rfl) ?_
        refine y_st rfl rfl rfl rfl rfl (fun _ _ => rfl) ?_
        refine y_st rfl rfl rfl rfl rfl (fun _ _ => rfl) ?_
        show yP (xg xs) (d + 1) 351 90 [(6, .long u3.toInt64), (4, .long ((m2.1 64 u2.toNatClampNeg).toInt64)), (2, .long ((m1.1 64 u1.toNatClampNeg).toInt64)), (0, .ref 58), (1, .int l1)] [.long (-u3.toInt64), .long (((m1.1 64 u1.toNatClampNeg).toInt64) - ((m2.1 64 u2.toNatClampNeg).toInt64))] m3 Q
        refine y_ldiv rfl rfl H.1 ?_
        replace H := H.2
        refine y_st rfl rfl rfl rfl rfl (fun _ _ => rfl) ?_
        refine y_st rfl rfl rfl rfl rfl (fun _ _ => rfl) ?_
        refine y_st rfl rfl rfl rfl rfl (fun _ _ => rfl) ?_
        show yP (xg xs) (d + 1) 351 97 [(6, .long u3.toInt64), (4, .long ((m2.1 64 u2.toNatClampNeg).toInt64)), (2, .long ((m1.1 64 u1.toNatClampNeg).toInt64)), (0, .ref 58), (1, .int l1)] [.long (((((m1.1 64 u1.toNatClampNeg).toInt64) - ((m2.1 64 u2.toNatClampNeg).toInt64)) / (-u3.toInt64)) + (1 : Int64))] m3 Q
        exact y_ret rfl rfl rfl rfl H
      · replace H := H.2 h; clear h
        refine y_st rfl rfl rfl rfl rfl (fun _ _ => rfl) ?_
        refine y_st rfl rfl rfl rfl rfl (fun _ _ => rfl) ?_
        show yP (xg xs) (d + 1) 351 97 [(6, .long u3.toInt64), (4, .long ((m2.1 64 u2.toNatClampNeg).toInt64)), (2, .long ((m1.1 64 u1.toNatClampNeg).toInt64)), (0, .ref 58), (1, .int l1)] [.long (0 : Int64)] m3 Q
        exact y_ret rfl rfl rfl rfl H
  · replace H := H.2 h; clear h
    refine y_st rfl rfl rfl rfl rfl (fun _ _ => rfl) ?_
    refine y_st rfl rfl rfl rfl rfl (fun _ _ => rfl) ?_
    refine y_st rfl rfl rfl rfl rfl (fun _ _ => rfl) ?_
    show yP (xg xs) (d + 1) 351 46 [(6, .long u3.toInt64), (4, .long ((m2.1 64 u2.toNatClampNeg).toInt64)), (2, .long ((m1.1 64 u1.toNatClampNeg).toInt64)), (0, .ref 58), (1, .int l1)] [.int (lg_cmp ((m1.1 64 u1.toNatClampNeg).toInt64) ((m2.1 64 u2.toNatClampNeg).toInt64))] m3 Q
    refine y_zle (t := 53) rfl rfl rfl (fun h => ?_) (fun h => ?_)
    · replace H := H.1 h; clear h
      refine y_st rfl rfl rfl rfl rfl (fun _ _ => rfl) ?_
      refine y_st rfl rfl rfl rfl rfl (fun _ _ => rfl) ?_
      refine y_st rfl rfl rfl rfl rfl (fun _ _ => rfl) ?_
      refine y_st rfl rfl rfl rfl rfl (fun _ _ => rfl) ?_
      show yP (xg xs) (d + 1) 351 59 [(6, .long u3.toInt64), (4, .long ((m2.1 64 u2.toNatClampNeg).toInt64)), (2, .long ((m1.1 64 u1.toNatClampNeg).toInt64)), (0, .ref 58), (1, .int l1)] [.long u3.toInt64, .long (((m2.1 64 u2.toNatClampNeg).toInt64) - ((m1.1 64 u1.toNatClampNeg).toInt64))] m3 Q
      refine y_ldiv rfl rfl H.1 ?_
      replace H := H.2
      refine y_st rfl rfl rfl rfl rfl (fun _ _ => rfl) ?_
      refine y_st rfl rfl rfl rfl rfl (fun _ _ => rfl) ?_
      refine y_st rfl rfl rfl rfl rfl (fun _ _ => rfl) ?_
      show yP (xg xs) (d + 1) 351 97 [(6, .long u3.toInt64), (4, .long ((m2.1 64 u2.toNatClampNeg).toInt64)), (2, .long ((m1.1 64 u1.toNatClampNeg).toInt64)), (0, .ref 58), (1, .int l1)] [.long (((((m2.1 64 u2.toNatClampNeg).toInt64) - ((m1.1 64 u1.toNatClampNeg).toInt64)) / u3.toInt64) + (1 : Int64))] m3 Q
      exact y_ret rfl rfl rfl rfl H
    · replace H := H.2 h; clear h
      refine y_st rfl rfl rfl rfl rfl (fun _ _ => rfl) ?_
      refine y_st rfl rfl rfl rfl rfl (fun _ _ => rfl) ?_
      show yP (xg xs) (d + 1) 351 97 [(6, .long u3.toInt64), (4, .long ((m2.1 64 u2.toNatClampNeg).toInt64)), (2, .long ((m1.1 64 u1.toNatClampNeg).toInt64)), (0, .ref 58), (1, .int l1)] [.long (0 : Int64)] m3 Q
      exact y_ret rfl rfl rfl rfl H
set_option maxRecDepth 20000 in
/-- CodeMakerModel.judgeRung from 0 on -/
theorem w352_0 (xs : List Int32) (d : Nat) (l1 : Int32) (l2 : Int32) (m : yM) (Q : Option Value → yM → Prop) (H : ((¬ l2 = (23 : Int32) → ((¬ l2 = (25 : Int32) → ((¬ l2 = (28 : Int32) → ((¬ l2 = (29 : Int32) → Q none m) ∧ (l2 = (29 : Int32) → (x_in l1 20000 = true ∧ (x_in (m.1 65 l1.toNatClampNeg) 20000 = true ∧ ((¬ (m.1 68 ((m.1 65 l1.toNatClampNeg).toNatClampNeg)) = ((-1) : Int32) → yP (xg xs) (d + 1) 352 237 [(1, .int l1)] [.int (0 : Int32), .int (40 : Int32), .ref 58] m Q) ∧ ((m.1 68 ((m.1 65 l1.toNatClampNeg).toNatClampNeg)) = ((-1) : Int32) → yP (xg xs) (d + 1) 352 237 [(1, .int l1)] [.int (1 : Int32), .int (40 : Int32), .ref 58] m Q))))))) ∧ (l2 = (28 : Int32) → (x_in l1 20000 = true ∧ (((m.1 68 l1.toNatClampNeg) = ((-1) : Int32) → yP (xg xs) (d + 1) 352 159 [(0, .ref 58), (1, .int l1)] [.int (0 : Int32), .int (39 : Int32), .ref 58] m Q) ∧ (¬ (m.1 68 l1.toNatClampNeg) = ((-1) : Int32) → yP (xg xs) (d + 1) 352 159 [(0, .ref 58), (1, .int l1)] [.int (1 : Int32), .int (39 : Int32), .ref 58] m Q)))))) ∧ (l2 = (25 : Int32) → (x_in l1 20000 = true ∧ (x_in (m.1 66 l1.toNatClampNeg) 20000 = true ∧ (((m.1 84 ((m.1 66 l1.toNatClampNeg).toNatClampNeg)) = 0 → yP (xg xs) (d + 1) 352 128 [(1, .int l1)] [.int (0 : Int32), .int (41 : Int32), .ref 58] m Q) ∧ (¬ (m.1 84 ((m.1 66 l1.toNatClampNeg).toNatClampNeg)) = 0 → yP (xg xs) (d + 1) 352 128 [(1, .int l1)] [.int (1 : Int32), .int (41 : Int32), .ref 58] m Q))))))) ∧ (l2 = (23 : Int32) → (x_in l1 20000 = true ∧ (((m.1 69 l1.toNatClampNeg) ≤ (12 : Int32) → yP (xg xs) (d + 1) 352 22 [(0, .ref 58), (1, .int l1)] [.int (0 : Int32)] m Q) ∧ (¬ (m.1 69 l1.toNatClampNeg) ≤ (12 : Int32) → yP (xg xs) (d + 1) 352 22 [(0, .ref 58), (1, .int l1)] [.int (1 : Int32)] m Q)))))) : yP (xg xs) (d + 1) 352 0 [(0, .ref 58), (1, .int l1), (2, .int l2)] [] m Q := by
  refine y_st rfl rfl rfl rfl rfl (fun _ _ => rfl) ?_
  refine y_st rfl rfl rfl rfl rfl (fun _ _ => rfl) ?_
  show yP (xg xs) (d + 1) 352 3 [(0, .ref 58), (1, .int l1), (2, .int l2)] [.int (23 : Int32), .int l2] m Q
  refine y_ine (t := 100) rfl rfl rfl (fun h => ?_) (fun h => ?_)
  · replace H := H.1 h; clear h
    refine y_st rfl rfl rfl rfl rfl (fun _ _ => rfl) ?_
    refine y_st rfl rfl rfl rfl rfl (fun _ _ => rfl) ?_
    show yP (xg xs) (d + 1) 352 103 [(0, .ref 58), (1, .int l1), (2, .int l2)] [.int (25 : Int32), .int l2] m Q
    refine y_ine (t := 135) rfl rfl rfl (fun h => ?_) (fun h => ?_)
    · replace H := H.1 h; clear h
      refine y_st rfl rfl rfl rfl rfl (fun _ _ => rfl) ?_
      refine y_st rfl rfl rfl rfl rfl (fun _ _ => rfl) ?_
      show yP (xg xs) (d + 1) 352 138 [(0, .ref 58), (1, .int l1), (2, .int l2)] [.int (28 : Int32), .int l2] m Q
      refine y_ine (t := 208) rfl rfl rfl (fun h => ?_) (fun h => ?_)
      · replace H := H.1 h; clear h
        refine y_st rfl rfl rfl rfl rfl (fun _ _ => rfl) ?_
        refine y_st rfl rfl rfl rfl rfl (fun _ _ => rfl) ?_
        show yP (xg xs) (d + 1) 352 211 [(0, .ref 58), (1, .int l1), (2, .int l2)] [.int (29 : Int32), .int l2] m Q
        refine y_ine (t := 241) rfl rfl rfl (fun h => ?_) (fun h => ?_)
        · replace H := H.1 h; clear h
          show yP (xg xs) (d + 1) 352 241 [(0, .ref 58), (1, .int l1), (2, .int l2)] [] m Q
          exact y_ret rfl rfl rfl rfl H
        · replace H := H.2 h; clear h
          refine y_st rfl rfl rfl rfl rfl (fun _ _ => rfl) ?_
          refine y_st rfl rfl rfl rfl rfl (fun _ _ => rfl) ?_
          refine y_st rfl rfl rfl rfl rfl (fun _ _ => rfl) ?_
          refine y_gf rfl rfl rfl rfl rfl ?_
          refine y_st rfl rfl rfl rfl rfl (fun _ _ => rfl) ?_
          refine y_gf rfl rfl rfl rfl rfl ?_
          refine y_st rfl rfl rfl rfl rfl (fun _ _ => rfl) ?_
          show yP (xg xs) (d + 1) 352 226 [(0, .ref 58), (1, .int l1), (2, .int l2)] [.int l1, .ref 65, .ref 68, .int (40 : Int32), .ref 58] m Q
          refine y_iald rfl rfl rfl (H.1) ?_
          replace H := H.2
          show yP (xg xs) (d + 1) 352 227 [(0, .ref 58), (1, .int l1), (2, .int l2)] [.int (m.1 65 l1.toNatClampNeg), .ref 68, .int (40 : Int32), .ref 58] m Q
          refine y_iald rfl rfl rfl (H.1) ?_
          replace H := H.2
          refine y_st rfl rfl rfl rfl rfl (fun _ _ => rfl) ?_
          show yP (xg xs) (d + 1) 352 229 [(0, .ref 58), (1, .int l1), (2, .int l2)] [.int ((-1) : Int32), .int (m.1 68 ((m.1 65 l1.toNatClampNeg).toNatClampNeg)), .int (40 : Int32), .ref 58] m Q
          refine y_ine (t := 236) rfl rfl rfl (fun h => ?_) (fun h => ?_)
          · replace H := H.1 h; clear h
            refine y_st rfl rfl rfl rfl rfl (fun _ _ => rfl) ?_
            show yP (xg xs) (d + 1) 352 237 [(0, .ref 58), (1, .int l1), (2, .int l2)] [.int (0 : Int32), .int (40 : Int32), .ref 58] m Q
            refine y_headS (l2 := [(1, .int l1)]) [1] [1] [0, 1, 2] rfl rfl (by decide) rfl (by decide) ?_
            exact H
          · replace H := H.2 h; clear h
            refine y_st rfl rfl rfl rfl rfl (fun _ _ => rfl) ?_
            refine y_st rfl rfl rfl rfl rfl (fun _ _ => rfl) ?_
            show yP (xg xs) (d + 1) 352 237 [(0, .ref 58), (1, .int l1), (2, .int l2)] [.int (1 : Int32), .int (40 : Int32), .ref 58] m Q
            refine y_headS (l2 := [(1, .int l1)]) [1] [1] [0, 1, 2] rfl rfl (by decide) rfl (by decide) ?_
            exact H
      · replace H := H.2 h; clear h
        refine y_st rfl rfl rfl rfl rfl (fun _ _ => rfl) ?_
        refine y_st rfl rfl rfl rfl rfl (fun _ _ => rfl) ?_
        refine y_st rfl rfl rfl rfl rfl (fun _ _ => rfl) ?_
        refine y_gf rfl rfl rfl rfl rfl ?_
        refine y_st rfl rfl rfl rfl rfl (fun _ _ => rfl) ?_
        show yP (xg xs) (d + 1) 352 149 [(0, .ref 58), (1, .int l1), (2, .int l2)] [.int l1, .ref 68, .int (39 : Int32), .ref 58] m Q
        refine y_iald rfl rfl rfl (H.1) ?_
        replace H := H.2
        refine y_st rfl rfl rfl rfl rfl (fun _ _ => rfl) ?_
        show yP (xg xs) (d + 1) 352 151 [(0, .ref 58), (1, .int l1), (2, .int l2)] [.int ((-1) : Int32), .int (m.1 68 l1.toNatClampNeg), .int (39 : Int32), .ref 58] m Q
        refine y_ieq (t := 158) rfl rfl rfl (fun h => ?_) (fun h => ?_)
        · replace H := H.1 h; clear h
          refine y_st rfl rfl rfl rfl rfl (fun _ _ => rfl) ?_
          show yP (xg xs) (d + 1) 352 159 [(0, .ref 58), (1, .int l1), (2, .int l2)] [.int (0 : Int32), .int (39 : Int32), .ref 58] m Q
          refine y_headS (l2 := [(0, .ref 58), (1, .int l1)]) [0, 1] [0, 1] [0, 1, 2] rfl rfl (by decide) rfl (by decide) ?_
          exact H
        · replace H := H.2 h; clear h
          refine y_st rfl rfl rfl rfl rfl (fun _ _ => rfl) ?_
          refine y_st rfl rfl rfl rfl rfl (fun _ _ => rfl) ?_
          show yP (xg xs) (d + 1) 352 159 [(0, .ref 58), (1, .int l1), (2, .int l2)] [.int (1 : Int32), .int (39 : Int32), .ref 58] m Q
          refine y_headS (l2 := [(0, .ref 58), (1, .int l1)]) [0, 1] [0, 1] [0, 1, 2] rfl rfl (by decide) rfl (by decide) ?_
          exact H
    · replace H := H.2 h; clear h
      refine y_st rfl rfl rfl rfl rfl (fun _ _ => rfl) ?_
      refine y_st rfl rfl rfl rfl rfl (fun _ _ => rfl) ?_
      refine y_st rfl rfl rfl rfl rfl (fun _ _ => rfl) ?_
      refine y_gf rfl rfl rfl rfl rfl ?_
      refine y_st rfl rfl rfl rfl rfl (fun _ _ => rfl) ?_
      refine y_gf rfl rfl rfl rfl rfl ?_
      refine y_st rfl rfl rfl rfl rfl (fun _ _ => rfl) ?_
      show yP (xg xs) (d + 1) 352 118 [(0, .ref 58), (1, .int l1), (2, .int l2)] [.int l1, .ref 66, .ref 84, .int (41 : Int32), .ref 58] m Q
      refine y_iald rfl rfl rfl (H.1) ?_
      replace H := H.2
      show yP (xg xs) (d + 1) 352 119 [(0, .ref 58), (1, .int l1), (2, .int l2)] [.int (m.1 66 l1.toNatClampNeg), .ref 84, .int (41 : Int32), .ref 58] m Q
      refine y_iald rfl rfl rfl (H.1) ?_
      replace H := H.2
      show yP (xg xs) (d + 1) 352 120 [(0, .ref 58), (1, .int l1), (2, .int l2)] [.int (m.1 84 ((m.1 66 l1.toNatClampNeg).toNatClampNeg)), .int (41 : Int32), .ref 58] m Q
      refine y_zeq (t := 127) rfl rfl rfl (fun h => ?_) (fun h => ?_)
      · replace H := H.1 h; clear h
        refine y_st rfl rfl rfl rfl rfl (fun _ _ => rfl) ?_
        show yP (xg xs) (d + 1) 352 128 [(0, .ref 58), (1, .int l1), (2, .int l2)] [.int (0 : Int32), .int (41 : Int32), .ref 58] m Q
        refine y_headS (l2 := [(1, .int l1)]) [1] [1] [0, 1, 2] rfl rfl (by decide) rfl (by decide) ?_
        exact H
      · replace H := H.2 h; clear h
        refine y_st rfl rfl rfl rfl rfl (fun _ _ => rfl) ?_
        refine y_st rfl rfl rfl rfl rfl (fun _ _ => rfl) ?_
        show yP (xg xs) (d + 1) 352 128 [(0, .ref 58), (1, .int l1), (2, .int l2)] [.int (1 : Int32), .int (41 : Int32), .ref 58] m Q
        refine y_headS (l2 := [(1, .int l1)]) [1] [1] [0, 1, 2] rfl rfl (by decide) rfl (by decide) ?_
        exact H
  · replace H := H.2 h; clear h
    refine y_st rfl rfl rfl rfl rfl (fun _ _ => rfl) ?_
    refine y_gf rfl rfl rfl rfl rfl ?_
    refine y_st rfl rfl rfl rfl rfl (fun _ _ => rfl) ?_
    show yP (xg xs) (d + 1) 352 11 [(0, .ref 58), (1, .int l1), (2, .int l2)] [.int l1, .ref 69] m Q
    refine y_iald rfl rfl rfl (H.1) ?_
    replace H := H.2
    refine y_st rfl rfl rfl rfl rfl (fun _ _ => rfl) ?_
    show yP (xg xs) (d + 1) 352 14 [(0, .ref 58), (1, .int l1), (2, .int l2)] [.int (12 : Int32), .int (m.1 69 l1.toNatClampNeg)] m Q
    refine y_ile (t := 21) rfl rfl rfl (fun h => ?_) (fun h => ?_)
    · replace H := H.1 h; clear h
      refine y_st rfl rfl rfl rfl rfl (fun _ _ => rfl) ?_
      show yP (xg xs) (d + 1) 352 22 [(0, .ref 58), (1, .int l1), (2, .int l2)] [.int (0 : Int32)] m Q
      refine y_headS (l2 := [(0, .ref 58), (1, .int l1)]) [0, 1] [0, 1] [0, 1, 2] rfl rfl (by decide) rfl (by decide) ?_
      exact H
    · replace H := H.2 h; clear h
      refine y_st rfl rfl rfl rfl rfl (fun _ _ => rfl) ?_
      refine y_st rfl rfl rfl rfl rfl (fun _ _ => rfl) ?_
      show yP (xg xs) (d + 1) 352 22 [(0, .ref 58), (1, .int l1), (2, .int l2)] [.int (1 : Int32)] m Q
      refine y_headS (l2 := [(0, .ref 58), (1, .int l1)]) [0, 1] [0, 1] [0, 1, 2] rfl rfl (by decide) rfl (by decide) ?_
      exact H
set_option maxRecDepth 20000 in
/-- CodeMakerModel.judgeRung from 22 on -/
theorem w352_22 (xs : List Int32) (d : Nat) (l1 : Int32) (s0 : Int32) (m : yM) (Q : Option Value → yM → Prop) (H : (x_in l1 20000 = true ∧ yP (xg xs) (d + 1) 352 31 [(0, .ref 58), (1, .int l1), (3, .int s0), (4, .int (m.1 66 l1.toNatClampNeg))] [] m Q)) : yP (xg xs) (d + 1) 352 22 [(0, .ref 58), (1, .int l1)] [.int s0] m Q := by
  refine y_st rfl rfl rfl rfl rfl (fun _ _ => rfl) ?_
  refine y_st rfl rfl rfl rfl rfl (fun _ _ => rfl) ?_
  refine y_gf rfl rfl rfl rfl rfl ?_
  refine y_st rfl rfl rfl rfl rfl (fun _ _ => rfl) ?_
  show yP (xg xs) (d + 1) 352 28 [(3, .int s0), (0, .ref 58), (1, .int l1)] [.int l1, .ref 66] m Q
  refine y_iald rfl rfl rfl (H.1) ?_
  replace H := H.2
  refine y_st rfl rfl rfl rfl rfl (fun _ _ => rfl) ?_
  show yP (xg xs) (d + 1) 352 31 [(4, .int (m.1 66 l1.toNatClampNeg)), (3, .int s0), (0, .ref 58), (1, .int l1)] [] m Q
  refine y_headS (l2 := [(0, .ref 58), (1, .int l1), (3, .int s0), (4, .int (m.1 66 l1.toNatClampNeg))]) [2, 3, 1, 0] [0, 1, 3, 4] [4, 3, 0, 1] rfl rfl (by decide) rfl (by decide) ?_
  exact H
set_option maxRecDepth 20000 in
/-- CodeMakerModel.judgeRung from 31 on -/
theorem w352_31 (xs : List Int32) (d : Nat) (l1 : Int32) (l3 : Int32) (l4 : Int32) (m : yM) (Q : Option Value → yM → Prop) (H : ((l4 = ((-1) : Int32) → (yC (xg xs) d 323 [.ref 58, .int (38 : Int32), .int l3, .int l1] m (fun v1 m1 => v1 = none ∧ Q none m1))) ∧ (¬ l4 = ((-1) : Int32) → ((¬ l3 = 0 → yP (xg xs) (d + 1) 352 71 [(0, .ref 58), (1, .int l1), (4, .int l4)] [] m Q) ∧ (l3 = 0 → (yC (xg xs) d 353 [.ref 58, .int l4] m (fun v2 m2 => ∃ u2, v2 = some (Value.int u2) ∧ (((12 : Int32) < u2 → yP (xg xs) (d + 1) 352 71 [(0, .ref 58), (1, .int l1), (4, .int l4)] [] m2 Q) ∧ (¬ (12 : Int32) < u2 → (yC (xg xs) d 353 [.ref 58, .int l4] m2 (fun v3 m3 => ∃ u3, v3 = some (Value.int u3) ∧ (x_in l1 20000 = true ∧ (yC (xg xs) d 353 [.ref 58, .int (m3.1 66 l1.toNatClampNeg)] m3 (fun v4 m4 => ∃ u4, v4 = some (Value.int u4) ∧ ((u3 = u4 → yP (xg xs) (d + 1) 352 76 [(0, .ref 58), (1, .int l1), (4, .int l4)] [.int (0 : Int32)] m4 Q) ∧ (¬ u3 = u4 → yP (xg xs) (d + 1) 352 71 [(0, .ref 58), (1, .int l1), (4, .int l4)] [] m4 Q)))))))))))))))) : yP (xg xs) (d + 1) 352 31 [(0, .ref 58), (1, .int l1), (3, .int l3), (4, .int l4)] [] m Q := by
  refine y_st rfl rfl rfl rfl rfl (fun _ _ => rfl) ?_
  refine y_st rfl rfl rfl rfl rfl (fun _ _ => rfl) ?_
  show yP (xg xs) (d + 1) 352 34 [(0, .ref 58), (1, .int l1), (3, .int l3), (4, .int l4)] [.int ((-1) : Int32), .int l4] m Q
  refine y_ieq (t := 89) rfl rfl rfl (fun h => ?_) (fun h => ?_)
  · replace H := H.1 h; clear h
    refine y_st rfl rfl rfl rfl rfl (fun _ _ => rfl) ?_
    refine y_st rfl rfl rfl rfl rfl (fun _ _ => rfl) ?_
    refine y_st rfl rfl rfl rfl rfl (fun _ _ => rfl) ?_
    refine y_st rfl rfl rfl rfl rfl (fun _ _ => rfl) ?_
    show yP (xg xs) (d + 1) 352 94 [(0, .ref 58), (1, .int l1), (3, .int l3), (4, .int l4)] [.int l1, .int l3, .int (38 : Int32), .ref 58] m Q
    refine y_call rfl rfl rfl rfl rfl (Nat.le_of_ble_eq_true rfl) (Nat.le_of_ble_eq_true rfl) rfl (by decide) H (fun v1 m1 H => ?_)
    obtain ⟨rfl, H⟩ := H
    refine y_st rfl rfl rfl rfl rfl (fun _ _ => rfl) ?_
    show yP (xg xs) (d + 1) 352 241 [(0, .ref 58), (1, .int l1), (3, .int l3), (4, .int l4)] [] m1 Q
    exact y_ret rfl rfl rfl rfl H
  · replace H := H.2 h; clear h
    refine y_st rfl rfl rfl rfl rfl (fun _ _ => rfl) ?_
    show yP (xg xs) (d + 1) 352 38 [(0, .ref 58), (1, .int l1), (3, .int l3), (4, .int l4)] [.int l3] m Q
    refine y_zne (t := 71) rfl rfl rfl (fun h => ?_) (fun h => ?_)
    · replace H := H.1 h; clear h
      show yP (xg xs) (d + 1) 352 71 [(0, .ref 58), (1, .int l1), (3, .int l3), (4, .int l4)] [] m Q
      refine y_headS (l2 := [(0, .ref 58), (1, .int l1), (4, .int l4)]) [0, 1, 3] [0, 1, 4] [0, 1, 3, 4] rfl rfl (by decide) rfl (by decide) ?_
      exact H
    · replace H := H.2 h; clear h
      refine y_st rfl rfl rfl rfl rfl (fun _ _ => rfl) ?_
      refine y_st rfl rfl rfl rfl rfl (fun _ _ => rfl) ?_
      show yP (xg xs) (d + 1) 352 44 [(0, .ref 58), (1, .int l1), (3, .int l3), (4, .int l4)] [.int l4, .ref 58] m Q
      refine y_call rfl rfl rfl rfl rfl (Nat.le_of_ble_eq_true rfl) (Nat.le_of_ble_eq_true rfl) rfl (by decide) H (fun v2 m2 H => ?_)
      obtain ⟨u2, rfl, H⟩ := H
      refine y_st rfl rfl rfl rfl rfl (fun _ _ => rfl) ?_
      show yP (xg xs) (d + 1) 352 49 [(0, .ref 58), (1, .int l1), (3, .int l3), (4, .int l4)] [.int (12 : Int32), .int u2] m2 Q
      refine y_igt (t := 71) rfl rfl rfl (fun h => ?_) (fun h => ?_)
      · replace H := H.1 h; clear h
        show yP (xg xs) (d + 1) 352 71 [(0, .ref 58), (1, .int l1), (3, .int l3), (4, .int l4)] [] m2 Q
        refine y_headS (l2 := [(0, .ref 58), (1, .int l1), (4, .int l4)]) [0, 1, 3] [0, 1, 4] [0, 1, 3, 4] rfl rfl (by decide) rfl (by decide) ?_
        exact H
      · replace H := H.2 h; clear h
        refine y_st rfl rfl rfl rfl rfl (fun _ _ => rfl) ?_
        refine y_st rfl rfl rfl rfl rfl (fun _ _ => rfl) ?_
        show yP (xg xs) (d + 1) 352 55 [(0, .ref 58), (1, .int l1), (3, .int l3), (4, .int l4)] [.int l4, .ref 58] m2 Q
        refine y_call rfl rfl rfl rfl rfl (Nat.le_of_ble_eq_true rfl) (Nat.le_of_ble_eq_true rfl) rfl (by decide) H (fun v3 m3 H => ?_)
        obtain ⟨u3, rfl, H⟩ := H
        refine y_st rfl rfl rfl rfl rfl (fun _ _ => rfl) ?_
        refine y_st rfl rfl rfl rfl rfl (fun _ _ => rfl) ?_
        refine y_gf rfl rfl rfl rfl rfl ?_
        refine y_st rfl rfl rfl rfl rfl (fun _ _ => rfl) ?_
        show yP (xg xs) (d + 1) 352 64 [(0, .ref 58), (1, .int l1), (3, .int l3), (4, .int l4)] [.int l1, .ref 66, .ref 58, .int u3] m3 Q
        refine y_iald rfl rfl rfl (H.1) ?_
        replace H := H.2
        show yP (xg xs) (d + 1) 352 65 [(0, .ref 58), (1, .int l1), (3, .int l3), (4, .int l4)] [.int (m3.1 66 l1.toNatClampNeg), .ref 58, .int u3] m3 Q
        refine y_call rfl rfl rfl rfl rfl (Nat.le_of_ble_eq_true rfl) (Nat.le_of_ble_eq_true rfl) rfl (by decide) H (fun v4 m4 H => ?_)
        obtain ⟨u4, rfl, H⟩ := H
        show yP (xg xs) (d + 1) 352 68 [(0, .ref 58), (1, .int l1), (3, .int l3), (4, .int l4)] [.int u4, .int u3] m4 Q
        refine y_ieq (t := 75) rfl rfl rfl (fun h => ?_) (fun h => ?_)
        · replace H := H.1 h; clear h
          refine y_st rfl rfl rfl rfl rfl (fun _ _ => rfl) ?_
          show yP (xg xs) (d + 1) 352 76 [(0, .ref 58), (1, .int l1), (3, .int l3), (4, .int l4)] [.int (0 : Int32)] m4 Q
          refine y_headS (l2 := [(0, .ref 58), (1, .int l1), (4, .int l4)]) [0, 1, 3] [0, 1, 4] [0, 1, 3, 4] rfl rfl (by decide) rfl (by decide) ?_
          exact H
        · replace H := H.2 h; clear h
          show yP (xg xs) (d + 1) 352 71 [(0, .ref 58), (1, .int l1), (3, .int l3), (4, .int l4)] [] m4 Q
          refine y_headS (l2 := [(0, .ref 58), (1, .int l1), (4, .int l4)]) [0, 1, 3] [0, 1, 4] [0, 1, 3, 4] rfl rfl (by decide) rfl (by decide) ?_
          exact H
set_option maxRecDepth 20000 in
/-- CodeMakerModel.judgeRung from 71 on -/
theorem w352_71 (xs : List Int32) (d : Nat) (l1 : Int32) (l4 : Int32) (m : yM) (Q : Option Value → yM → Prop) (H : yP (xg xs) (d + 1) 352 76 [(0, .ref 58), (1, .int l1), (4, .int l4)] [.int (1 : Int32)] m Q) : yP (xg xs) (d + 1) 352 71 [(0, .ref 58), (1, .int l1), (4, .int l4)] [] m Q := by
  refine y_st rfl rfl rfl rfl rfl (fun _ _ => rfl) ?_
  refine y_st rfl rfl rfl rfl rfl (fun _ _ => rfl) ?_
  show yP (xg xs) (d + 1) 352 76 [(0, .ref 58), (1, .int l1), (4, .int l4)] [.int (1 : Int32)] m Q
  exact H
set_option maxRecDepth 20000 in
/-- CodeMakerModel.judgeRung from 76 on -/
theorem w352_76 (xs : List Int32) (d : Nat) (l1 : Int32) (l4 : Int32) (s0 : Int32) (m : yM) (Q : Option Value → yM → Prop) (H : (x_in l4 20000 = true ∧ yP (xg xs) (d + 1) 352 31 [(0, .ref 58), (1, .int l1), (3, .int s0), (4, .int (m.1 68 l4.toNatClampNeg))] [] m Q)) : yP (xg xs) (d + 1) 352 76 [(0, .ref 58), (1, .int l1), (4, .int l4)] [.int s0] m Q := by
  refine y_st rfl rfl rfl rfl rfl (fun _ _ => rfl) ?_
  refine y_st rfl rfl rfl rfl rfl (fun _ _ => rfl) ?_
  refine y_gf rfl rfl rfl rfl rfl ?_
  refine y_st rfl rfl rfl rfl rfl (fun _ _ => rfl) ?_
  show yP (xg xs) (d + 1) 352 83 [(3, .int s0), (0, .ref 58), (1, .int l1), (4, .int l4)] [.int l4, .ref 68] m Q
  refine y_iald rfl rfl rfl (H.1) ?_
  replace H := H.2
  refine y_st rfl rfl rfl rfl rfl (fun _ _ => rfl) ?_
  refine y_st rfl rfl rfl rfl rfl (fun _ _ => rfl) ?_
  show yP (xg xs) (d + 1) 352 31 [(4, .int (m.1 68 l4.toNatClampNeg)), (3, .int s0), (0, .ref 58), (1, .int l1)] [] m Q
  refine y_headS (l2 := [(0, .ref 58), (1, .int l1), (3, .int s0), (4, .int (m.1 68 l4.toNatClampNeg))]) [2, 3, 1, 0] [0, 1, 3, 4] [4, 3, 0, 1] rfl rfl (by decide) rfl (by decide) ?_
  exact H
set_option maxRecDepth 20000 in
/-- CodeMakerModel.judgeRung from 128 on -/
theorem w352_128 (xs : List Int32) (d : Nat) (l1 : Int32) (s1 : Int32) (s2 : Int32) (m : yM) (Q : Option Value → yM → Prop) (H : (yC (xg xs) d 323 [.ref 58, .int s1, .int s2, .int l1] m (fun v1 m1 => v1 = none ∧ Q none m1))) : yP (xg xs) (d + 1) 352 128 [(1, .int l1)] [.int s2, .int s1, .ref 58] m Q := by
  refine y_st rfl rfl rfl rfl rfl (fun _ _ => rfl) ?_
  show yP (xg xs) (d + 1) 352 129 [(1, .int l1)] [.int l1, .int s2, .int s1, .ref 58] m Q
  refine y_call rfl rfl rfl rfl rfl (Nat.le_of_ble_eq_true rfl) (Nat.le_of_ble_eq_true rfl) rfl (by decide) H (fun v1 m1 H => ?_)
  obtain ⟨rfl, H⟩ := H
  refine y_st rfl rfl rfl rfl rfl (fun _ _ => rfl) ?_
  show yP (xg xs) (d + 1) 352 241 [(1, .int l1)] [] m1 Q
  exact y_ret rfl rfl rfl rfl H
set_option maxRecDepth 20000 in
/-- CodeMakerModel.judgeRung from 159 on -/
theorem w352_159 (xs : List Int32) (d : Nat) (l1 : Int32) (s1 : Int32) (s2 : Int32) (m : yM) (Q : Option Value → yM → Prop) (H : (yC (xg xs) d 323 [.ref 58, .int s1, .int s2, .int l1] m (fun v1 m1 => v1 = none ∧ (x_in l1 20000 = true ∧ (x_in (m1.1 66 l1.toNatClampNeg) 20000 = true ∧ (((m1.1 84 ((m1.1 66 l1.toNatClampNeg).toNatClampNeg)) = 0 → yP (xg xs) (d + 1) 352 185 [(0, .ref 58), (1, .int l1)] [.int (0 : Int32), .int (41 : Int32), .ref 58] m1 Q) ∧ (¬ (m1.1 84 ((m1.1 66 l1.toNatClampNeg).toNatClampNeg)) = 0 → yP (xg xs) (d + 1) 352 185 [(0, .ref 58), (1, .int l1)] [.int (1 : Int32), .int (41 : Int32), .ref 58] m1 Q))))))) : yP (xg xs) (d + 1) 352 159 [(0, .ref 58), (1, .int l1)] [.int s2, .int s1, .ref 58] m Q := by
  refine y_st rfl rfl rfl rfl rfl (fun _ _ => rfl) ?_
  show yP (xg xs) (d + 1) 352 160 [(0, .ref 58), (1, .int l1)] [.int l1, .int s2, .int s1, .ref 58] m Q
  refine y_call rfl rfl rfl rfl rfl (Nat.le_of_ble_eq_true rfl) (Nat.le_of_ble_eq_true rfl) rfl (by decide) H (fun v1 m1 H => ?_)
  obtain ⟨rfl, H⟩ := H
  refine y_st rfl rfl rfl rfl rfl (fun _ _ => rfl) ?_
  refine y_st rfl rfl rfl rfl rfl (fun _ _ => rfl) ?_
  refine y_st rfl rfl rfl rfl rfl (fun _ _ => rfl) ?_
  refine y_gf rfl rfl rfl rfl rfl ?_
  refine y_st rfl rfl rfl rfl rfl (fun _ _ => rfl) ?_
  refine y_gf rfl rfl rfl rfl rfl ?_
  refine y_st rfl rfl rfl rfl rfl (fun _ _ => rfl) ?_
  show yP (xg xs) (d + 1) 352 175 [(0, .ref 58), (1, .int l1)] [.int l1, .ref 66, .ref 84, .int (41 : Int32), .ref 58] m1 Q
  refine y_iald rfl rfl rfl (H.1) ?_
  replace H := H.2
  show yP (xg xs) (d + 1) 352 176 [(0, .ref 58), (1, .int l1)] [.int (m1.1 66 l1.toNatClampNeg), .ref 84, .int (41 : Int32), .ref 58] m1 Q
  refine y_iald rfl rfl rfl (H.1) ?_
  replace H := H.2
  show yP (xg xs) (d + 1) 352 177 [(0, .ref 58), (1, .int l1)] [.int (m1.1 84 ((m1.1 66 l1.toNatClampNeg).toNatClampNeg)), .int (41 : Int32), .ref 58] m1 Q
  refine y_zeq (t := 184) rfl rfl rfl (fun h => ?_) (fun h => ?_)
  · replace H := H.1 h; clear h
    refine y_st rfl rfl rfl rfl rfl (fun _ _ => rfl) ?_
    show yP (xg xs) (d + 1) 352 185 [(0, .ref 58), (1, .int l1)] [.int (0 : Int32), .int (41 : Int32), .ref 58] m1 Q
    exact H
  · replace H := H.2 h; clear h
    refine y_st rfl rfl rfl rfl rfl (fun _ _ => rfl) ?_
    refine y_st rfl rfl rfl rfl rfl (fun _ _ => rfl) ?_
    show yP (xg xs) (d + 1) 352 185 [(0, .ref 58), (1, .int l1)] [.int (1 : Int32), .int (41 : Int32), .ref 58] m1 Q
    exact H
set_option maxRecDepth 20000 in
/-- CodeMakerModel.judgeRung from 185 on -/
theorem w352_185 (xs : List Int32) (d : Nat) (l1 : Int32) (s1 : Int32) (s2 : Int32) (m : yM) (Q : Option Value → yM → Prop) (H : (yC (xg xs) d 323 [.ref 58, .int s1, .int s2, .int l1] m (fun v1 m1 => v1 = none ∧ (x_in l1 20000 = true ∧ (x_in (m1.1 66 l1.toNatClampNeg) 20000 = true ∧ (yC (xg xs) d 341 [.ref 58, .int l1, .int (m1.1 85 ((m1.1 66 l1.toNatClampNeg).toNatClampNeg))] m1 (fun v2 m2 => v2 = none ∧ Q none m2))))))) : yP (xg xs) (d + 1) 352 185 [(0, .ref 58), (1, .int l1)] [.int s2, .int s1, .ref 58] m Q := by
  refine y_st rfl rfl rfl rfl rfl (fun _ _ => rfl) ?_
  show yP (xg xs) (d + 1) 352 186 [(0, .ref 58), (1, .int l1)] [.int l1, .int s2, .int s1, .ref 58] m Q
  refine y_call rfl rfl rfl rfl rfl (Nat.le_of_ble_eq_true rfl) (Nat.le_of_ble_eq_true rfl) rfl (by decide) H (fun v1 m1 H => ?_)
  obtain ⟨rfl, H⟩ := H
  refine y_st rfl rfl rfl rfl rfl (fun _ _ => rfl) ?_
  refine y_st rfl rfl rfl rfl rfl (fun _ _ => rfl) ?_
  refine y_st rfl rfl rfl rfl rfl (fun _ _ => rfl) ?_
  refine y_gf rfl rfl rfl rfl rfl ?_
  refine y_st rfl rfl rfl rfl rfl (fun _ _ => rfl) ?_
  refine y_gf rfl rfl rfl rfl rfl ?_
  refine y_st rfl rfl rfl rfl rfl (fun _ _ => rfl) ?_
  show yP (xg xs) (d + 1) 352 200 [(0, .ref 58), (1, .int l1)] [.int l1, .ref 66, .ref 85, .int l1, .ref 58] m1 Q
  refine y_iald rfl rfl rfl (H.1) ?_
  replace H := H.2
  show yP (xg xs) (d + 1) 352 201 [(0, .ref 58), (1, .int l1)] [.int (m1.1 66 l1.toNatClampNeg), .ref 85, .int l1, .ref 58] m1 Q
  refine y_iald rfl rfl rfl (H.1) ?_
  replace H := H.2
  show yP (xg xs) (d + 1) 352 202 [(0, .ref 58), (1, .int l1)] [.int (m1.1 85 ((m1.1 66 l1.toNatClampNeg).toNatClampNeg)), .int l1, .ref 58] m1 Q
  refine y_call rfl rfl rfl rfl rfl (Nat.le_of_ble_eq_true rfl) (Nat.le_of_ble_eq_true rfl) rfl (by decide) H (fun v2 m2 H => ?_)
  obtain ⟨rfl, H⟩ := H
  refine y_st rfl rfl rfl rfl rfl (fun _ _ => rfl) ?_
  show yP (xg xs) (d + 1) 352 241 [(0, .ref 58), (1, .int l1)] [] m2 Q
  exact y_ret rfl rfl rfl rfl H
set_option maxRecDepth 20000 in
/-- CodeMakerModel.judgeRung from 237 on -/
theorem w352_237 (xs : List Int32) (d : Nat) (l1 : Int32) (s1 : Int32) (s2 : Int32) (m : yM) (Q : Option Value → yM → Prop) (H : (yC (xg xs) d 323 [.ref 58, .int s1, .int s2, .int l1] m (fun v1 m1 => v1 = none ∧ Q none m1))) : yP (xg xs) (d + 1) 352 237 [(1, .int l1)] [.int s2, .int s1, .ref 58] m Q := by
  refine y_st rfl rfl rfl rfl rfl (fun _ _ => rfl) ?_
  show yP (xg xs) (d + 1) 352 238 [(1, .int l1)] [.int l1, .int s2, .int s1, .ref 58] m Q
  refine y_call rfl rfl rfl rfl rfl (Nat.le_of_ble_eq_true rfl) (Nat.le_of_ble_eq_true rfl) rfl (by decide) H (fun v1 m1 H => ?_)
  obtain ⟨rfl, H⟩ := H
  show yP (xg xs) (d + 1) 352 241 [(1, .int l1)] [] m1 Q
  exact y_ret rfl rfl rfl rfl H
set_option maxRecDepth 20000 in
/-- CodeMakerModel.cellsOf from 0 on -/
theorem w353_0 (xs : List Int32) (d : Nat) (l1 : Int32) (m : yM) (Q : Option Value → yM → Prop) (H : (x_in l1 20000 = true ∧ yP (xg xs) (d + 1) 353 9 [(0, .ref 58), (2, .int (0 : Int32)), (3, .int (m.1 66 l1.toNatClampNeg))] [] m Q)) : yP (xg xs) (d + 1) 353 0 [(0, .ref 58), (1, .int l1)] [] m Q := by
  refine y_st rfl rfl rfl rfl rfl (fun _ _ => rfl) ?_
  refine y_st rfl rfl rfl rfl rfl (fun _ _ => rfl) ?_
  refine y_st rfl rfl rfl rfl rfl (fun _ _ => rfl) ?_
  refine y_gf rfl rfl rfl rfl rfl ?_
  refine y_st rfl rfl rfl rfl rfl (fun _ _ => rfl) ?_
  show yP (xg xs) (d + 1) 353 7 [(2, .int (0 : Int32)), (0, .ref 58), (1, .int l1)] [.int l1, .ref 66] m Q
  refine y_iald rfl rfl rfl (H.1) ?_
  replace H := H.2
  refine y_st rfl rfl rfl rfl rfl (fun _ _ => rfl) ?_
  show yP (xg xs) (d + 1) 353 9 [(3, .int (m.1 66 l1.toNatClampNeg)), (2, .int (0 : Int32)), (0, .ref 58), (1, .int l1)] [] m Q
  refine y_headS (l2 := [(0, .ref 58), (2, .int (0 : Int32)), (3, .int (m.1 66 l1.toNatClampNeg))]) [2, 1, 0] [0, 2, 3] [3, 2, 0, 1] rfl rfl (by decide) rfl (by decide) ?_
  exact H
set_option maxRecDepth 20000 in
/-- CodeMakerModel.cellsOf from 9 on -/
theorem w353_9 (xs : List Int32) (d : Nat) (l2 : Int32) (l3 : Int32) (m : yM) (Q : Option Value → yM → Prop) (H : ((l3 = ((-1) : Int32) → Q (some (.int l2)) m) ∧ (¬ l3 = ((-1) : Int32) → (x_in l3 20000 = true ∧ ((¬ (m.1 62 l3.toNatClampNeg) = (29 : Int32) → yP (xg xs) (d + 1) 353 31 [(0, .ref 58), (3, .int l3)] [.int (1 : Int32), .int l2] m Q) ∧ ((m.1 62 l3.toNatClampNeg) = (29 : Int32) → yP (xg xs) (d + 1) 353 31 [(0, .ref 58), (3, .int l3)] [.int (0 : Int32), .int l2] m Q)))))) : yP (xg xs) (d + 1) 353 9 [(0, .ref 58), (2, .int l2), (3, .int l3)] [] m Q := by
  refine y_st rfl rfl rfl rfl rfl (fun _ _ => rfl) ?_
  refine y_st rfl rfl rfl rfl rfl (fun _ _ => rfl) ?_
  show yP (xg xs) (d + 1) 353 11 [(0, .ref 58), (2, .int l2), (3, .int l3)] [.int ((-1) : Int32), .int l3] m Q
  refine y_ieq (t := 43) rfl rfl rfl (fun h => ?_) (fun h => ?_)
  · replace H := H.1 h; clear h
    refine y_st rfl rfl rfl rfl rfl (fun _ _ => rfl) ?_
    show yP (xg xs) (d + 1) 353 44 [(0, .ref 58), (2, .int l2), (3, .int l3)] [.int l2] m Q
    exact y_iret rfl rfl rfl H
  · replace H := H.2 h; clear h
    refine y_st rfl rfl rfl rfl rfl (fun _ _ => rfl) ?_
    refine y_st rfl rfl rfl rfl rfl (fun _ _ => rfl) ?_
    refine y_gf rfl rfl rfl rfl rfl ?_
    refine y_st rfl rfl rfl rfl rfl (fun _ _ => rfl) ?_
    show yP (xg xs) (d + 1) 353 20 [(0, .ref 58), (2, .int l2), (3, .int l3)] [.int l3, .ref 62, .int l2] m Q
    refine y_iald rfl rfl rfl (H.1) ?_
    replace H := H.2
    refine y_st rfl rfl rfl rfl rfl (fun _ _ => rfl) ?_
    show yP (xg xs) (d + 1) 353 23 [(0, .ref 58), (2, .int l2), (3, .int l3)] [.int (29 : Int32), .int (m.1 62 l3.toNatClampNeg), .int l2] m Q
    refine y_ine (t := 30) rfl rfl rfl (fun h => ?_) (fun h => ?_)
    · replace H := H.1 h; clear h
      refine y_st rfl rfl rfl rfl rfl (fun _ _ => rfl) ?_
      show yP (xg xs) (d + 1) 353 31 [(0, .ref 58), (2, .int l2), (3, .int l3)] [.int (1 : Int32), .int l2] m Q
      refine y_headS (l2 := [(0, .ref 58), (3, .int l3)]) [0, 2] [0, 3] [0, 2, 3] rfl rfl (by decide) rfl (by decide) ?_
      exact H
    · replace H := H.2 h; clear h
      refine y_st rfl rfl rfl rfl rfl (fun _ _ => rfl) ?_
      refine y_st rfl rfl rfl rfl rfl (fun _ _ => rfl) ?_
      show yP (xg xs) (d + 1) 353 31 [(0, .ref 58), (2, .int l2), (3, .int l3)] [.int (0 : Int32), .int l2] m Q
      refine y_headS (l2 := [(0, .ref 58), (3, .int l3)]) [0, 2] [0, 3] [0, 2, 3] rfl rfl (by decide) rfl (by decide) ?_
      exact H
set_option maxRecDepth 20000 in
/-- CodeMakerModel.cellsOf from 31 on -/
theorem w353_31 (xs : List Int32) (d : Nat) (l3 : Int32) (s0 : Int32) (s1 : Int32) (m : yM) (Q : Option Value → yM → Prop) (H : (x_in l3 20000 = true ∧ yP (xg xs) (d + 1) 353 9 [(0, .ref 58), (2, .int (s0 + s1)), (3, .int (m.1 68 l3.toNatClampNeg))] [] m Q)) : yP (xg xs) (d + 1) 353 31 [(0, .ref 58), (3, .int l3)] [.int s1, .int s0] m Q := by
  refine y_st rfl rfl rfl rfl rfl (fun _ _ => rfl) ?_
  refine y_st rfl rfl rfl rfl rfl (fun _ _ => rfl) ?_
  refine y_st rfl rfl rfl rfl rfl (fun _ _ => rfl) ?_
  refine y_gf rfl rfl rfl rfl rfl ?_
  refine y_st rfl rfl rfl rfl rfl (fun _ _ => rfl) ?_
  show yP (xg xs) (d + 1) 353 38 [(2, .int (s0 + s1)), (0, .ref 58), (3, .int l3)] [.int l3, .ref 68] m Q
  refine y_iald rfl rfl rfl (H.1) ?_
  replace H := H.2
  refine y_st rfl rfl rfl rfl rfl (fun _ _ => rfl) ?_
  refine y_st rfl rfl rfl rfl rfl (fun _ _ => rfl) ?_
  show yP (xg xs) (d + 1) 353 9 [(3, .int (m.1 68 l3.toNatClampNeg)), (2, .int (s0 + s1)), (0, .ref 58)] [] m Q
  refine y_headS (l2 := [(0, .ref 58), (2, .int (s0 + s1)), (3, .int (m.1 68 l3.toNatClampNeg))]) [2, 1, 0] [0, 2, 3] [3, 2, 0] rfl rfl (by decide) rfl (by decide) ?_
  exact H
set_option maxRecDepth 20000 in
/-- CodeMakerModel.judgeExpression from 0 on -/
theorem w354_0 (xs : List Int32) (d : Nat) (l1 : Int32) (l2 : Int32) (m : yM) (Q : Option Value → yM → Prop) (H : ((l2 = (30 : Int32) → (x_in l1 20000 = true ∧ (((m.1 64 l1.toNatClampNeg) ≤ (32767 : Int32) → yP (xg xs) (d + 1) 354 62 [(0, .ref 58), (1, .int l1)] [.int (1 : Int32), .int l1, .ref 84] m Q) ∧ (¬ (m.1 64 l1.toNatClampNeg) ≤ (32767 : Int32) → yP (xg xs) (d + 1) 354 62 [(0, .ref 58), (1, .int l1)] [.int (2 : Int32), .int l1, .ref 84] m Q)))) ∧ (l2 = (31 : Int32) → (x_in l1 20000 = true ∧ (x_in l1 20000 = true ∧ (yC (xg xs) d 355 [.ref 58, .int l1, .int (1 : Int32), .int (m.1 64 l1.toNatClampNeg)] (y_si m 84 l1.toNatClampNeg (0 : Int32)) (fun v1 m1 => v1 = none ∧ Q none m1))))) ∧ (l2 = (32 : Int32) → (yC (xg xs) d 344 [.ref 58, .int l1, .int (1 : Int32)] m (fun v2 m2 => ∃ u2, v2 = some (Value.int u2) ∧ ((¬ (m2.1 58 3) = 0 → Q none m2) ∧ ((m2.1 58 3) = 0 → (x_in l1 20000 = true ∧ (x_in (m2.1 66 l1.toNatClampNeg) 20000 = true ∧ ((¬ (m2.1 84 ((m2.1 66 l1.toNatClampNeg).toNatClampNeg)) = 0 → yP (xg xs) (d + 1) 354 136 [(0, .ref 58), (1, .int l1), (3, .int u2)] [.int (0 : Int32), .int (22 : Int32), .ref 58] m2 Q) ∧ ((m2.1 84 ((m2.1 66 l1.toNatClampNeg).toNatClampNeg)) = 0 → yP (xg xs) (d + 1) 354 136 [(0, .ref 58), (1, .int l1), (3, .int u2)] [.int (1 : Int32), .int (22 : Int32), .ref 58] m2 Q))))))))) ∧ (l2 = (33 : Int32) → (yC (xg xs) d 344 [.ref 58, .int l1, .int (2 : Int32)] m (fun v3 m3 => ∃ u3, v3 = some (Value.int u3) ∧ ((¬ (m3.1 58 3) = 0 → Q none m3) ∧ ((m3.1 58 3) = 0 → (yC (xg xs) d 356 [.ref 58, .int l1, .int u3] m3 (fun v4 m4 => v4 = none ∧ Q none m4))))))) ∧ (l2 = (34 : Int32) → (yC (xg xs) d 357 [.ref 58, .int l1] m (fun v5 m5 => v5 = none ∧ Q none m5))) ∧ (l2 = (35 : Int32) → (yC (xg xs) d 364 [.ref 58, .int l1] m (fun v6 m6 => v6 = none ∧ Q none m6))) ∧ (¬ l2 = (30 : Int32) → ¬ l2 = (31 : Int32) → ¬ l2 = (32 : Int32) → ¬ l2 = (33 : Int32) → ¬ l2 = (34 : Int32) → ¬ l2 = (35 : Int32) → (x_in l1 20000 = true ∧ (x_in l1 20000 = true ∧ ((¬ (m.1 64 l1.toNatClampNeg) = 0 → yP (xg xs) (d + 1) 354 233 [(0, .ref 58), (1, .int l1), (3, .int (m.1 66 l1.toNatClampNeg))] [.int (28 : Int32), .ref 58] m Q) ∧ ((m.1 64 l1.toNatClampNeg) = 0 → (x_in (m.1 66 l1.toNatClampNeg) 20000 = true ∧ ((¬ (m.1 84 ((m.1 66 l1.toNatClampNeg).toNatClampNeg)) = 0 → yP (xg xs) (d + 1) 354 233 [(0, .ref 58), (1, .int l1), (3, .int (m.1 66 l1.toNatClampNeg))] [.int (28 : Int32), .ref 58] m Q) ∧ ((m.1 84 ((m.1 66 l1.toNatClampNeg).toNatClampNeg)) = 0 → yP (xg xs) (d + 1) 354 234 [(0, .ref 58), (1, .int l1), (3, .int (m.1 66 l1.toNatClampNeg))] [.int (1 : Int32), .int (28 : Int32), .ref 58] m Q)))))))))) : yP (xg xs) (d + 1) 354 0 [(0, .ref 58), (1, .int l1), (2, .int l2)] [] m Q := by
  refine y_st rfl rfl rfl rfl rfl (fun _ _ => rfl) ?_
  show yP (xg xs) (d + 1) 354 1 [(0, .ref 58), (1, .int l1), (2, .int l2)] [.int l2] m Q
  by_cases h30 : l2 = (30 : Int32)
  · replace H := H.1 h30
    refine y_tsw (t := 40) rfl rfl (by rw [h30]; rfl) ?_
    clear h30
    refine y_st rfl rfl rfl rfl rfl (fun _ _ => rfl) ?_
    refine y_gf rfl rfl rfl rfl rfl ?_
    refine y_st rfl rfl rfl rfl rfl (fun _ _ => rfl) ?_
    refine y_st rfl rfl rfl rfl rfl (fun _ _ => rfl) ?_
    refine y_gf rfl rfl rfl rfl rfl ?_
    refine y_st rfl rfl rfl rfl rfl (fun _ _ => rfl) ?_
    show yP (xg xs) (d + 1) 354 50 [(0, .ref 58), (1, .int l1), (2, .int l2)] [.int l1, .ref 64, .int l1, .ref 84] m Q
    refine y_iald rfl rfl rfl (H.1) ?_
    replace H := H.2
    refine y_st rfl rfl rfl rfl rfl (fun _ _ => rfl) ?_
    show yP (xg xs) (d + 1) 354 54 [(0, .ref 58), (1, .int l1), (2, .int l2)] [.int (32767 : Int32), .int (m.1 64 l1.toNatClampNeg), .int l1, .ref 84] m Q
    refine y_ile (t := 61) rfl rfl rfl (fun h => ?_) (fun h => ?_)
    · replace H := H.1 h; clear h
      refine y_st rfl rfl rfl rfl rfl (fun _ _ => rfl) ?_
      show yP (xg xs) (d + 1) 354 62 [(0, .ref 58), (1, .int l1), (2, .int l2)] [.int (1 : Int32), .int l1, .ref 84] m Q
      refine y_headS (l2 := [(0, .ref 58), (1, .int l1)]) [0, 1] [0, 1] [0, 1, 2] rfl rfl (by decide) rfl (by decide) ?_
      exact H
    · replace H := H.2 h; clear h
      refine y_st rfl rfl rfl rfl rfl (fun _ _ => rfl) ?_
      refine y_st rfl rfl rfl rfl rfl (fun _ _ => rfl) ?_
      show yP (xg xs) (d + 1) 354 62 [(0, .ref 58), (1, .int l1), (2, .int l2)] [.int (2 : Int32), .int l1, .ref 84] m Q
      refine y_headS (l2 := [(0, .ref 58), (1, .int l1)]) [0, 1] [0, 1] [0, 1, 2] rfl rfl (by decide) rfl (by decide) ?_
      exact H
  replace H := H.2
  by_cases h31 : l2 = (31 : Int32)
  · replace H := H.1 h31
    refine y_tsw (t := 78) rfl rfl (by rw [h31]; rfl) ?_
    clear h31 h30
    refine y_st rfl rfl rfl rfl rfl (fun _ _ => rfl) ?_
    refine y_gf rfl rfl rfl rfl rfl ?_
    refine y_st rfl rfl rfl rfl rfl (fun _ _ => rfl) ?_
    refine y_st rfl rfl rfl rfl rfl (fun _ _ => rfl) ?_
    show yP (xg xs) (d + 1) 354 84 [(0, .ref 58), (1, .int l1), (2, .int l2)] [.int (0 : Int32), .int l1, .ref 84] m Q
    refine y_iast rfl rfl rfl (H.1) ?_
    replace H := H.2
    refine y_st rfl rfl rfl rfl rfl (fun _ _ => rfl) ?_
    refine y_st rfl rfl rfl rfl rfl (fun _ _ => rfl) ?_
    refine y_st rfl rfl rfl rfl rfl (fun _ _ => rfl) ?_
    refine y_st rfl rfl rfl rfl rfl (fun _ _ => rfl) ?_
    refine y_gf rfl rfl rfl rfl rfl ?_
    refine y_st rfl rfl rfl rfl rfl (fun _ _ => rfl) ?_
    show yP (xg xs) (d + 1) 354 93 [(0, .ref 58), (1, .int l1), (2, .int l2)] [.int l1, .ref 64, .int (1 : Int32), .int l1, .ref 58] (y_si m 84 l1.toNatClampNeg (0 : Int32)) Q
    refine y_iald rfl rfl rfl (H.1) ?_
    replace H := H.2
    show yP (xg xs) (d + 1) 354 94 [(0, .ref 58), (1, .int l1), (2, .int l2)] [.int (m.1 64 l1.toNatClampNeg), .int (1 : Int32), .int l1, .ref 58] (y_si m 84 l1.toNatClampNeg (0 : Int32)) Q
    refine y_call rfl rfl rfl rfl rfl (Nat.le_of_ble_eq_true rfl) (Nat.le_of_ble_eq_true rfl) rfl (by decide) H (fun v1 m1 H => ?_)
    obtain ⟨rfl, H⟩ := H
    refine y_st rfl rfl rfl rfl rfl (fun _ _ => rfl) ?_
    show yP (xg xs) (d + 1) 354 291 [(0, .ref 58), (1, .int l1), (2, .int l2)] [] m1 Q
    exact y_ret rfl rfl rfl rfl H
  replace H := H.2
  by_cases h32 : l2 = (32 : Int32)
  · replace H := H.1 h32
    refine y_tsw (t := 100) rfl rfl (by rw [h32]; rfl) ?_
    clear h32 h31 h30
    refine y_st rfl rfl rfl rfl rfl (fun _ _ => rfl) ?_
    refine y_st rfl rfl rfl rfl rfl (fun _ _ => rfl) ?_
    refine y_st rfl rfl rfl rfl rfl (fun _ _ => rfl) ?_
    show yP (xg xs) (d + 1) 354 103 [(0, .ref 58), (1, .int l1), (2, .int l2)] [.int (1 : Int32), .int l1, .ref 58] m Q
    refine y_call rfl rfl rfl rfl rfl (Nat.le_of_ble_eq_true rfl) (Nat.le_of_ble_eq_true rfl) rfl (by decide) H (fun v2 m2 H => ?_)
    obtain ⟨u2, rfl, H⟩ := H
    refine y_st rfl rfl rfl rfl rfl (fun _ _ => rfl) ?_
    refine y_st rfl rfl rfl rfl rfl (fun _ _ => rfl) ?_
    refine y_gf rfl rfl rfl rfl rfl ?_
    show yP (xg xs) (d + 1) 354 111 [(3, .int u2), (0, .ref 58), (1, .int l1), (2, .int l2)] [.int (m2.1 58 3)] m2 Q
    refine y_zne (t := 291) rfl rfl rfl (fun h => ?_) (fun h => ?_)
    · replace H := H.1 h; clear h
      show yP (xg xs) (d + 1) 354 291 [(3, .int u2), (0, .ref 58), (1, .int l1), (2, .int l2)] [] m2 Q
      exact y_ret rfl rfl rfl rfl H
    · replace H := H.2 h; clear h
      refine y_st rfl rfl rfl rfl rfl (fun _ _ => rfl) ?_
      refine y_st rfl rfl rfl rfl rfl (fun _ _ => rfl) ?_
      refine y_st rfl rfl rfl rfl rfl (fun _ _ => rfl) ?_
      refine y_gf rfl rfl rfl rfl rfl ?_
      refine y_st rfl rfl rfl rfl rfl (fun _ _ => rfl) ?_
      refine y_gf rfl rfl rfl rfl rfl ?_
      refine y_st rfl rfl rfl rfl rfl (fun _ _ => rfl) ?_
      show yP (xg xs) (d + 1) 354 126 [(3, .int u2), (0, .ref 58), (1, .int l1), (2, .int l2)] [.int l1, .ref 66, .ref 84, .int (22 : Int32), .ref 58] m2 Q
      refine y_iald rfl rfl rfl (H.1) ?_
      replace H := H.2
      show yP (xg xs) (d + 1) 354 127 [(3, .int u2), (0, .ref 58), (1, .int l1), (2, .int l2)] [.int (m2.1 66 l1.toNatClampNeg), .ref 84, .int (22 : Int32), .ref 58] m2 Q
      refine y_iald rfl rfl rfl (H.1) ?_
      replace H := H.2
      show yP (xg xs) (d + 1) 354 128 [(3, .int u2), (0, .ref 58), (1, .int l1), (2, .int l2)] [.int (m2.1 84 ((m2.1 66 l1.toNatClampNeg).toNatClampNeg)), .int (22 : Int32), .ref 58] m2 Q
      refine y_zne (t := 135) rfl rfl rfl (fun h => ?_) (fun h => ?_)
      · replace H := H.1 h; clear h
        refine y_st rfl rfl rfl rfl rfl (fun _ _ => rfl) ?_
        show yP (xg xs) (d + 1) 354 136 [(3, .int u2), (0, .ref 58), (1, .int l1), (2, .int l2)] [.int (0 : Int32), .int (22 : Int32), .ref 58] m2 Q
        refine y_headS (l2 := [(0, .ref 58), (1, .int l1), (3, .int u2)]) [1, 2, 0] [0, 1, 3] [3, 0, 1, 2] rfl rfl (by decide) rfl (by decide) ?_
        exact H
      · replace H := H.2 h; clear h
        refine y_st rfl rfl rfl rfl rfl (fun _ _ => rfl) ?_
        refine y_st rfl rfl rfl rfl rfl (fun _ _ => rfl) ?_
        show yP (xg xs) (d + 1) 354 136 [(3, .int u2), (0, .ref 58), (1, .int l1), (2, .int l2)] [.int (1 : Int32), .int (22 : Int32), .ref 58] m2 Q
        refine y_headS (l2 := [(0, .ref 58), (1, .int l1), (3, .int u2)]) [1, 2, 0] [0, 1, 3] [3, 0, 1, 2] rfl rfl (by decide) rfl (by decide) ?_
        exact H
  replace H := H.2
  by_cases h33 : l2 = (33 : Int32)
  · replace H := H.1 h33
    refine y_tsw (t := 162) rfl rfl (by rw [h33]; rfl) ?_
    clear h33 h32 h31 h30
    refine y_st rfl rfl rfl rfl rfl (fun _ _ => rfl) ?_
    refine y_st rfl rfl rfl rfl rfl (fun _ _ => rfl) ?_
    refine y_st rfl rfl rfl rfl rfl (fun _ _ => rfl) ?_
    show yP (xg xs) (d + 1) 354 165 [(0, .ref 58), (1, .int l1), (2, .int l2)] [.int (2 : Int32), .int l1, .ref 58] m Q
    refine y_call rfl rfl rfl rfl rfl (Nat.le_of_ble_eq_true rfl) (Nat.le_of_ble_eq_true rfl) rfl (by decide) H (fun v3 m3 H => ?_)
    obtain ⟨u3, rfl, H⟩ := H
    refine y_st rfl rfl rfl rfl rfl (fun _ _ => rfl) ?_
    refine y_st rfl rfl rfl rfl rfl (fun _ _ => rfl) ?_
    refine y_gf rfl rfl rfl rfl rfl ?_
    show yP (xg xs) (d + 1) 354 173 [(3, .int u3), (0, .ref 58), (1, .int l1), (2, .int l2)] [.int (m3.1 58 3)] m3 Q
    refine y_zne (t := 291) rfl rfl rfl (fun h => ?_) (fun h => ?_)
    · replace H := H.1 h; clear h
      show yP (xg xs) (d + 1) 354 291 [(3, .int u3), (0, .ref 58), (1, .int l1), (2, .int l2)] [] m3 Q
      exact y_ret rfl rfl rfl rfl H
    · replace H := H.2 h; clear h
      refine y_st rfl rfl rfl rfl rfl (fun _ _ => rfl) ?_
      refine y_st rfl rfl rfl rfl rfl (fun _ _ => rfl) ?_
      refine y_st rfl rfl rfl rfl rfl (fun _ _ => rfl) ?_
      show yP (xg xs) (d + 1) 354 179 [(3, .int u3), (0, .ref 58), (1, .int l1), (2, .int l2)] [.int u3, .int l1, .ref 58] m3 Q
      refine y_call rfl rfl rfl rfl rfl (Nat.le_of_ble_eq_true rfl) (Nat.le_of_ble_eq_true rfl) rfl (by decide) H (fun v4 m4 H => ?_)
      obtain ⟨rfl, H⟩ := H
      refine y_st rfl rfl rfl rfl rfl (fun _ _ => rfl) ?_
      show yP (xg xs) (d + 1) 354 291 [(3, .int u3), (0, .ref 58), (1, .int l1), (2, .int l2)] [] m4 Q
      exact y_ret rfl rfl rfl rfl H
  replace H := H.2
  by_cases h34 : l2 = (34 : Int32)
  · replace H := H.1 h34
    refine y_tsw (t := 185) rfl rfl (by rw [h34]; rfl) ?_
    clear h34 h33 h32 h31 h30
    refine y_st rfl rfl rfl rfl rfl (fun _ _ => rfl) ?_
    refine y_st rfl rfl rfl rfl rfl (fun _ _ => rfl) ?_
    show yP (xg xs) (d + 1) 354 187 [(0, .ref 58), (1, .int l1), (2, .int l2)] [.int l1, .ref 58] m Q
    refine y_call rfl rfl rfl rfl rfl (Nat.le_of_ble_eq_true rfl) (Nat.le_of_ble_eq_true rfl) rfl (by decide) H (fun v5 m5 H => ?_)
    obtain ⟨rfl, H⟩ := H
    refine y_st rfl rfl rfl rfl rfl (fun _ _ => rfl) ?_
    show yP (xg xs) (d + 1) 354 291 [(0, .ref 58), (1, .int l1), (2, .int l2)] [] m5 Q
    exact y_ret rfl rfl rfl rfl H
  replace H := H.2
  by_cases h35 : l2 = (35 : Int32)
  · replace H := H.1 h35
    refine y_tsw (t := 193) rfl rfl (by rw [h35]; rfl) ?_
    clear h35 h34 h33 h32 h31 h30
    refine y_st rfl rfl rfl rfl rfl (fun _ _ => rfl) ?_
    refine y_st rfl rfl rfl rfl rfl (fun _ _ => rfl) ?_
    show yP (xg xs) (d + 1) 354 195 [(0, .ref 58), (1, .int l1), (2, .int l2)] [.int l1, .ref 58] m Q
    refine y_call rfl rfl rfl rfl rfl (Nat.le_of_ble_eq_true rfl) (Nat.le_of_ble_eq_true rfl) rfl (by decide) H (fun v6 m6 H => ?_)
    obtain ⟨rfl, H⟩ := H
    refine y_st rfl rfl rfl rfl rfl (fun _ _ => rfl) ?_
    show yP (xg xs) (d + 1) 354 291 [(0, .ref 58), (1, .int l1), (2, .int l2)] [] m6 Q
    exact y_ret rfl rfl rfl rfl H
  replace H := H.2
  refine y_tsw (t := 201) rfl rfl ((if_pos (by have g0 := ne_lit (30 : Int32) 30 rfl h30; have g1 := ne_lit (31 : Int32) 31 rfl h31; have g2 := ne_lit (32 : Int32) 32 rfl h32; have g3 := ne_lit (33 : Int32) 33 rfl h33; have g4 := ne_lit (34 : Int32) 34 rfl h34; have g5 := ne_lit (35 : Int32) 35 rfl h35; omega)).trans rfl) ?_
  replace H := H h30 h31 h32 h33 h34 h35
  clear h35 h34 h33 h32 h31 h30
  refine y_st rfl rfl rfl rfl rfl (fun _ _ => rfl) ?_
  refine y_gf rfl rfl rfl rfl rfl ?_
  refine y_st rfl rfl rfl rfl rfl (fun _ _ => rfl) ?_
  show yP (xg xs) (d + 1) 354 206 [(0, .ref 58), (1, .int l1), (2, .int l2)] [.int l1, .ref 66] m Q
  refine y_iald rfl rfl rfl (H.1) ?_
  replace H := H.2
  refine y_st rfl rfl rfl rfl rfl (fun _ _ => rfl) ?_
  refine y_st rfl rfl rfl rfl rfl (fun _ _ => rfl) ?_
  refine y_st rfl rfl rfl rfl rfl (fun _ _ => rfl) ?_
  refine y_st rfl rfl rfl rfl rfl (fun _ _ => rfl) ?_
  refine y_gf rfl rfl rfl rfl rfl ?_
  refine y_st rfl rfl rfl rfl rfl (fun _ _ => rfl) ?_
  show yP (xg xs) (d + 1) 354 216 [(3, .int (m.1 66 l1.toNatClampNeg)), (0, .ref 58), (1, .int l1), (2, .int l2)] [.int l1, .ref 64, .int (28 : Int32), .ref 58] m Q
  refine y_iald rfl rfl rfl (H.1) ?_
  replace H := H.2
  show yP (xg xs) (d + 1) 354 217 [(3, .int (m.1 66 l1.toNatClampNeg)), (0, .ref 58), (1, .int l1), (2, .int l2)] [.int (m.1 64 l1.toNatClampNeg), .int (28 : Int32), .ref 58] m Q
  refine y_zne (t := 233) rfl rfl rfl (fun h => ?_) (fun h => ?_)
  · replace H := H.1 h; clear h
    show yP (xg xs) (d + 1) 354 233 [(3, .int (m.1 66 l1.toNatClampNeg)), (0, .ref 58), (1, .int l1), (2, .int l2)] [.int (28 : Int32), .ref 58] m Q
    refine y_headS (l2 := [(0, .ref 58), (1, .int l1), (3, .int (m.1 66 l1.toNatClampNeg))]) [1, 2, 0] [0, 1, 3] [3, 0, 1, 2] rfl rfl (by decide) rfl (by decide) ?_
    exact H
  · replace H := H.2 h; clear h
    refine y_st rfl rfl rfl rfl rfl (fun _ _ => rfl) ?_
    refine y_gf rfl rfl rfl rfl rfl ?_
    refine y_st rfl rfl rfl rfl rfl (fun _ _ => rfl) ?_
    show yP (xg xs) (d + 1) 354 225 [(3, .int (m.1 66 l1.toNatClampNeg)), (0, .ref 58), (1, .int l1), (2, .int l2)] [.int (m.1 66 l1.toNatClampNeg), .ref 84, .int (28 : Int32), .ref 58] m Q
    refine y_iald rfl rfl rfl (H.1) ?_
    replace H := H.2
    show yP (xg xs) (d + 1) 354 226 [(3, .int (m.1 66 l1.toNatClampNeg)), (0, .ref 58), (1, .int l1), (2, .int l2)] [.int (m.1 84 ((m.1 66 l1.toNatClampNeg).toNatClampNeg)), .int (28 : Int32), .ref 58] m Q
    refine y_zne (t := 233) rfl rfl rfl (fun h => ?_) (fun h => ?_)
    · replace H := H.1 h; clear h
      show yP (xg xs) (d + 1) 354 233 [(3, .int (m.1 66 l1.toNatClampNeg)), (0, .ref 58), (1, .int l1), (2, .int l2)] [.int (28 : Int32), .ref 58] m Q
      refine y_headS (l2 := [(0, .ref 58), (1, .int l1), (3, .int (m.1 66 l1.toNatClampNeg))]) [1, 2, 0] [0, 1, 3] [3, 0, 1, 2] rfl rfl (by decide) rfl (by decide) ?_
      exact H
    · replace H := H.2 h; clear h
      refine y_st rfl rfl rfl rfl rfl (fun _ _ => rfl) ?_
      refine y_st rfl rfl rfl rfl rfl (fun _ _ => rfl) ?_
      show yP (xg xs) (d + 1) 354 234 [(3, .int (m.1 66 l1.toNatClampNeg)), (0, .ref 58), (1, .int l1), (2, .int l2)] [.int (1 : Int32), .int (28 : Int32), .ref 58] m Q
      refine y_headS (l2 := [(0, .ref 58), (1, .int l1), (3, .int (m.1 66 l1.toNatClampNeg))]) [1, 2, 0] [0, 1, 3] [3, 0, 1, 2] rfl rfl (by decide) rfl (by decide) ?_
      exact H
set_option maxRecDepth 20000 in
/-- CodeMakerModel.judgeExpression from 62 on -/
theorem w354_62 (xs : List Int32) (d : Nat) (l1 : Int32) (s1 : Int32) (s2 : Int32) (m : yM) (Q : Option Value → yM → Prop) (H : (x_in s1 20000 = true ∧ (x_in l1 20000 = true ∧ (yC (xg xs) d 355 [.ref 58, .int l1, .int (1 : Int32), .int (m.1 64 l1.toNatClampNeg)] (y_si m 84 s1.toNatClampNeg s2) (fun v1 m1 => v1 = none ∧ Q none m1))))) : yP (xg xs) (d + 1) 354 62 [(0, .ref 58), (1, .int l1)] [.int s2, .int s1, .ref 84] m Q := by
  show yP (xg xs) (d + 1) 354 62 [(0, .ref 58), (1, .int l1)] [.int s2, .int s1, .ref 84] m Q
  refine y_iast rfl rfl rfl (H.1) ?_
  replace H := H.2
  refine y_st rfl rfl rfl rfl rfl (fun _ _ => rfl) ?_
  refine y_st rfl rfl rfl rfl rfl (fun _ _ => rfl) ?_
  refine y_st rfl rfl rfl rfl rfl (fun _ _ => rfl) ?_
  refine y_st rfl rfl rfl rfl rfl (fun _ _ => rfl) ?_
  refine y_gf rfl rfl rfl rfl rfl ?_
  refine y_st rfl rfl rfl rfl rfl (fun _ _ => rfl) ?_
  show yP (xg xs) (d + 1) 354 71 [(0, .ref 58), (1, .int l1)] [.int l1, .ref 64, .int (1 : Int32), .int l1, .ref 58] (y_si m 84 s1.toNatClampNeg s2) Q
  refine y_iald rfl rfl rfl (H.1) ?_
  replace H := H.2
  show yP (xg xs) (d + 1) 354 72 [(0, .ref 58), (1, .int l1)] [.int (m.1 64 l1.toNatClampNeg), .int (1 : Int32), .int l1, .ref 58] (y_si m 84 s1.toNatClampNeg s2) Q
  refine y_call rfl rfl rfl rfl rfl (Nat.le_of_ble_eq_true rfl) (Nat.le_of_ble_eq_true rfl) rfl (by decide) H (fun v1 m1 H => ?_)
  obtain ⟨rfl, H⟩ := H
  refine y_st rfl rfl rfl rfl rfl (fun _ _ => rfl) ?_
  show yP (xg xs) (d + 1) 354 291 [(0, .ref 58), (1, .int l1)] [] m1 Q
  exact y_ret rfl rfl rfl rfl H
set_option maxRecDepth 20000 in
/-- CodeMakerModel.judgeExpression from 136 on -/
theorem w354_136 (xs : List Int32) (d : Nat) (l1 : Int32) (l3 : Int32) (s1 : Int32) (s2 : Int32) (m : yM) (Q : Option Value → yM → Prop) (H : (yC (xg xs) d 323 [.ref 58, .int s1, .int s2, .int l1] m (fun v1 m1 => v1 = none ∧ (x_in l3 4700 = true ∧ (x_in l1 20000 = true ∧ (x_in l1 20000 = true ∧ Q none (y_si (y_si m1 84 l1.toNatClampNeg (m1.1 77 l3.toNatClampNeg)) 87 l1.toNatClampNeg (vp_nar .boolean (0 : Int32))))))))) : yP (xg xs) (d + 1) 354 136 [(0, .ref 58), (1, .int l1), (3, .int l3)] [.int s2, .int s1, .ref 58] m Q := by
  refine y_st rfl rfl rfl rfl rfl (fun _ _ => rfl) ?_
  show yP (xg xs) (d + 1) 354 137 [(0, .ref 58), (1, .int l1), (3, .int l3)] [.int l1, .int s2, .int s1, .ref 58] m Q
  refine y_call rfl rfl rfl rfl rfl (Nat.le_of_ble_eq_true rfl) (Nat.le_of_ble_eq_true rfl) rfl (by decide) H (fun v1 m1 H => ?_)
  obtain ⟨rfl, H⟩ := H
  refine y_st rfl rfl rfl rfl rfl (fun _ _ => rfl) ?_
  refine y_gf rfl rfl rfl rfl rfl ?_
  refine y_st rfl rfl rfl rfl rfl (fun _ _ => rfl) ?_
  refine y_st rfl rfl rfl rfl rfl (fun _ _ => rfl) ?_
  refine y_gf rfl rfl rfl rfl rfl ?_
  refine y_st rfl rfl rfl rfl rfl (fun _ _ => rfl) ?_
  show yP (xg xs) (d + 1) 354 150 [(0, .ref 58), (1, .int l1), (3, .int l3)] [.int l3, .ref 77, .int l1, .ref 84] m1 Q
  refine y_iald rfl rfl rfl (H.1) ?_
  replace H := H.2
  show yP (xg xs) (d + 1) 354 151 [(0, .ref 58), (1, .int l1), (3, .int l3)] [.int (m1.1 77 l3.toNatClampNeg), .int l1, .ref 84] m1 Q
  refine y_iast rfl rfl rfl (H.1) ?_
  replace H := H.2
  refine y_st rfl rfl rfl rfl rfl (fun _ _ => rfl) ?_
  refine y_gf rfl rfl rfl rfl rfl ?_
  refine y_st rfl rfl rfl rfl rfl (fun _ _ => rfl) ?_
  refine y_st rfl rfl rfl rfl rfl (fun _ _ => rfl) ?_
  show yP (xg xs) (d + 1) 354 158 [(0, .ref 58), (1, .int l1), (3, .int l3)] [.int (0 : Int32), .int l1, .ref 87] (y_si m1 84 l1.toNatClampNeg (m1.1 77 l3.toNatClampNeg)) Q
  refine y_zast rfl rfl rfl (H.1) ?_
  replace H := H.2
  refine y_st rfl rfl rfl rfl rfl (fun _ _ => rfl) ?_
  show yP (xg xs) (d + 1) 354 291 [(0, .ref 58), (1, .int l1), (3, .int l3)] [] (y_si (y_si m1 84 l1.toNatClampNeg (m1.1 77 l3.toNatClampNeg)) 87 l1.toNatClampNeg (vp_nar .boolean (0 : Int32))) Q
  exact y_ret rfl rfl rfl rfl H
set_option maxRecDepth 20000 in
/-- CodeMakerModel.judgeExpression from 233 on -/
theorem w354_233 (xs : List Int32) (d : Nat) (l1 : Int32) (l3 : Int32) (s1 : Int32) (m : yM) (Q : Option Value → yM → Prop) (H : yP (xg xs) (d + 1) 354 234 [(0, .ref 58), (1, .int l1), (3, .int l3)] [.int (0 : Int32), .int s1, .ref 58] m Q) : yP (xg xs) (d + 1) 354 233 [(0, .ref 58), (1, .int l1), (3, .int l3)] [.int s1, .ref 58] m Q := by
  refine y_st rfl rfl rfl rfl rfl (fun _ _ => rfl) ?_
  show yP (xg xs) (d + 1) 354 234 [(0, .ref 58), (1, .int l1), (3, .int l3)] [.int (0 : Int32), .int s1, .ref 58] m Q
  exact H
set_option maxRecDepth 20000 in
/-- CodeMakerModel.judgeExpression from 234 on -/
theorem w354_234 (xs : List Int32) (d : Nat) (l1 : Int32) (l3 : Int32) (s1 : Int32) (s2 : Int32) (m : yM) (Q : Option Value → yM → Prop) (H : (yC (xg xs) d 323 [.ref 58, .int s1, .int s2, .int l1] m (fun v1 m1 => v1 = none ∧ (x_in l3 20000 = true ∧ (x_in l1 20000 = true ∧ (x_in l3 20000 = true ∧ (x_in l3 20000 = true ∧ (((m1.1 87 l3.toNatClampNeg) = 0 → yP (xg xs) (d + 1) 354 285 [] [.int (0 : Int32), .int (m1.1 87 l3.toNatClampNeg), .int l1, .ref 58] (y_si m1 84 l1.toNatClampNeg (m1.1 84 l3.toNatClampNeg)) Q) ∧ (¬ (m1.1 87 l3.toNatClampNeg) = 0 → (yC (xg xs) d 366 [.ref 58, .int l1] (y_si m1 84 l1.toNatClampNeg (m1.1 84 l3.toNatClampNeg)) (fun v2 m2 => ∃ u2, v2 = some (Value.int u2) ∧ (x_in l3 20000 = true ∧ (yC (xg xs) d 361 [.int u2, .int (m2.1 88 l3.toNatClampNeg)] m2 (fun v3 m3 => ∃ u3, v3 = some (Value.int u3) ∧ yP (xg xs) (d + 1) 354 285 [] [.int u3, .int (m1.1 87 l3.toNatClampNeg), .int l1, .ref 58] m3 Q)))))))))))))) : yP (xg xs) (d + 1) 354 234 [(0, .ref 58), (1, .int l1), (3, .int l3)] [.int s2, .int s1, .ref 58] m Q := by
  refine y_st rfl rfl rfl rfl rfl (fun _ _ => rfl) ?_
  show yP (xg xs) (d + 1) 354 235 [(0, .ref 58), (1, .int l1), (3, .int l3)] [.int l1, .int s2, .int s1, .ref 58] m Q
  refine y_call rfl rfl rfl rfl rfl (Nat.le_of_ble_eq_true rfl) (Nat.le_of_ble_eq_true rfl) rfl (by decide) H (fun v1 m1 H => ?_)
  obtain ⟨rfl, H⟩ := H
  refine y_st rfl rfl rfl rfl rfl (fun _ _ => rfl) ?_
  refine y_gf rfl rfl rfl rfl rfl ?_
  refine y_st rfl rfl rfl rfl rfl (fun _ _ => rfl) ?_
  refine y_st rfl rfl rfl rfl rfl (fun _ _ => rfl) ?_
  refine y_gf rfl rfl rfl rfl rfl ?_
  refine y_st rfl rfl rfl rfl rfl (fun _ _ => rfl) ?_
  show yP (xg xs) (d + 1) 354 248 [(0, .ref 58), (1, .int l1), (3, .int l3)] [.int l3, .ref 84, .int l1, .ref 84] m1 Q
  refine y_iald rfl rfl rfl (H.1) ?_
  replace H := H.2
  show yP (xg xs) (d + 1) 354 249 [(0, .ref 58), (1, .int l1), (3, .int l3)] [.int (m1.1 84 l3.toNatClampNeg), .int l1, .ref 84] m1 Q
  refine y_iast rfl rfl rfl (H.1) ?_
  replace H := H.2
  refine y_st rfl rfl rfl rfl rfl (fun _ _ => rfl) ?_
  refine y_st rfl rfl rfl rfl rfl (fun _ _ => rfl) ?_
  refine y_st rfl rfl rfl rfl rfl (fun _ _ => rfl) ?_
  refine y_gf rfl rfl rfl rfl rfl ?_
  refine y_st rfl rfl rfl rfl rfl (fun _ _ => rfl) ?_
  show yP (xg xs) (d + 1) 354 257 [(0, .ref 58), (1, .int l1), (3, .int l3)] [.int l3, .ref 87, .int l1, .ref 58] (y_si m1 84 l1.toNatClampNeg (m1.1 84 l3.toNatClampNeg)) Q
  refine y_bald rfl rfl rfl (by decide) (H.1) ?_
  replace H := H.2
  refine y_st rfl rfl rfl rfl rfl (fun _ _ => rfl) ?_
  refine y_gf rfl rfl rfl rfl rfl ?_
  refine y_st rfl rfl rfl rfl rfl (fun _ _ => rfl) ?_
  show yP (xg xs) (d + 1) 354 263 [(0, .ref 58), (1, .int l1), (3, .int l3)] [.int l3, .ref 87, .int (m1.1 87 l3.toNatClampNeg), .int l1, .ref 58] (y_si m1 84 l1.toNatClampNeg (m1.1 84 l3.toNatClampNeg)) Q
  refine y_bald rfl rfl rfl (by decide) (H.1) ?_
  replace H := H.2
  show yP (xg xs) (d + 1) 354 264 [(0, .ref 58), (1, .int l1), (3, .int l3)] [.int (m1.1 87 l3.toNatClampNeg), .int (m1.1 87 l3.toNatClampNeg), .int l1, .ref 58] (y_si m1 84 l1.toNatClampNeg (m1.1 84 l3.toNatClampNeg)) Q
  refine y_zeq (t := 284) rfl rfl rfl (fun h => ?_) (fun h => ?_)
  · replace H := H.1 h; clear h
    refine y_st rfl rfl rfl rfl rfl (fun _ _ => rfl) ?_
    show yP (xg xs) (d + 1) 354 285 [(0, .ref 58), (1, .int l1), (3, .int l3)] [.int (0 : Int32), .int (m1.1 87 l3.toNatClampNeg), .int l1, .ref 58] (y_si m1 84 l1.toNatClampNeg (m1.1 84 l3.toNatClampNeg)) Q
    refine y_headS (l2 := []) [] [] [0, 1, 3] rfl rfl (by decide) rfl (by decide) ?_
    exact H
  · replace H := H.2 h; clear h
    refine y_st rfl rfl rfl rfl rfl (fun _ _ => rfl) ?_
    refine y_st rfl rfl rfl rfl rfl (fun _ _ => rfl) ?_
    show yP (xg xs) (d + 1) 354 269 [(0, .ref 58), (1, .int l1), (3, .int l3)] [.int l1, .ref 58, .int (m1.1 87 l3.toNatClampNeg), .int l1, .ref 58] (y_si m1 84 l1.toNatClampNeg (m1.1 84 l3.toNatClampNeg)) Q
    refine y_call rfl rfl rfl rfl rfl (Nat.le_of_ble_eq_true rfl) (Nat.le_of_ble_eq_true rfl) rfl (by decide) H (fun v2 m2 H => ?_)
    obtain ⟨u2, rfl, H⟩ := H
    refine y_st rfl rfl rfl rfl rfl (fun _ _ => rfl) ?_
    refine y_gf rfl rfl rfl rfl rfl ?_
    refine y_st rfl rfl rfl rfl rfl (fun _ _ => rfl) ?_
    show yP (xg xs) (d + 1) 354 277 [(0, .ref 58), (1, .int l1), (3, .int l3)] [.int l3, .ref 88, .int u2, .int (m1.1 87 l3.toNatClampNeg), .int l1, .ref 58] m2 Q
    refine y_iald rfl rfl rfl (H.1) ?_
    replace H := H.2
    show yP (xg xs) (d + 1) 354 278 [(0, .ref 58), (1, .int l1), (3, .int l3)] [.int (m2.1 88 l3.toNatClampNeg), .int u2, .int (m1.1 87 l3.toNatClampNeg), .int l1, .ref 58] m2 Q
    refine y_call rfl rfl rfl rfl rfl (Nat.le_of_ble_eq_true rfl) (Nat.le_of_ble_eq_true rfl) rfl (by decide) H (fun v3 m3 H => ?_)
    obtain ⟨u3, rfl, H⟩ := H
    refine y_st rfl rfl rfl rfl rfl (fun _ _ => rfl) ?_
    show yP (xg xs) (d + 1) 354 285 [(0, .ref 58), (1, .int l1), (3, .int l3)] [.int u3, .int (m1.1 87 l3.toNatClampNeg), .int l1, .ref 58] m3 Q
    refine y_headS (l2 := []) [] [] [0, 1, 3] rfl rfl (by decide) rfl (by decide) ?_
    exact H
set_option maxRecDepth 20000 in
/-- CodeMakerModel.judgeExpression from 285 on -/
theorem w354_285 (xs : List Int32) (d : Nat) (s1 : Int32) (s2 : Int32) (s3 : Int32) (m : yM) (Q : Option Value → yM → Prop) (H : (yC (xg xs) d 355 [.ref 58, .int s1, .int s2, .int s3] m (fun v1 m1 => v1 = none ∧ Q none m1))) : yP (xg xs) (d + 1) 354 285 [] [.int s3, .int s2, .int s1, .ref 58] m Q := by
  show yP (xg xs) (d + 1) 354 285 [] [.int s3, .int s2, .int s1, .ref 58] m Q
  refine y_call rfl rfl rfl rfl rfl (Nat.le_of_ble_eq_true rfl) (Nat.le_of_ble_eq_true rfl) rfl (by decide) H (fun v1 m1 H => ?_)
  obtain ⟨rfl, H⟩ := H
  refine y_st rfl rfl rfl rfl rfl (fun _ _ => rfl) ?_
  show yP (xg xs) (d + 1) 354 291 [] [] m1 Q
  exact y_ret rfl rfl rfl rfl H
set_option maxRecDepth 20000 in
/-- CodeMakerModel.fix from 0 on -/
theorem w355_0 (xs : List Int32) (d : Nat) (l1 : Int32) (l2 : Int32) (l3 : Int32) (m : yM) (Q : Option Value → yM → Prop) (H : (x_in l1 20000 = true ∧ (x_in l1 20000 = true ∧ Q none (y_si (y_si m 87 l1.toNatClampNeg (vp_nar .boolean l2)) 88 l1.toNatClampNeg l3)))) : yP (xg xs) (d + 1) 355 0 [(0, .ref 58), (1, .int l1), (2, .int l2), (3, .int l3)] [] m Q := by
  refine y_st rfl rfl rfl rfl rfl (fun _ _ => rfl) ?_
  refine y_gf rfl rfl rfl rfl rfl ?_
  refine y_st rfl rfl rfl rfl rfl (fun _ _ => rfl) ?_
  refine y_st rfl rfl rfl rfl rfl (fun _ _ => rfl) ?_
  show yP (xg xs) (d + 1) 355 6 [(0, .ref 58), (1, .int l1), (2, .int l2), (3, .int l3)] [.int l2, .int l1, .ref 87] m Q
  refine y_zast rfl rfl rfl (H.1) ?_
  replace H := H.2
  refine y_st rfl rfl rfl rfl rfl (fun _ _ => rfl) ?_
  refine y_gf rfl rfl rfl rfl rfl ?_
  refine y_st rfl rfl rfl rfl rfl (fun _ _ => rfl) ?_
  refine y_st rfl rfl rfl rfl rfl (fun _ _ => rfl) ?_
  show yP (xg xs) (d + 1) 355 13 [(0, .ref 58), (1, .int l1), (2, .int l2), (3, .int l3)] [.int l3, .int l1, .ref 88] (y_si m 87 l1.toNatClampNeg (vp_nar .boolean l2)) Q
  refine y_iast rfl rfl rfl (H.1) ?_
  replace H := H.2
  show yP (xg xs) (d + 1) 355 14 [(0, .ref 58), (1, .int l1), (2, .int l2), (3, .int l3)] [] (y_si (y_si m 87 l1.toNatClampNeg (vp_nar .boolean l2)) 88 l1.toNatClampNeg l3) Q
  exact y_ret rfl rfl rfl rfl H
set_option maxRecDepth 20000 in
/-- CodeMakerModel.judgeOutput from 0 on -/
theorem w356_0 (xs : List Int32) (d : Nat) (l1 : Int32) (l2 : Int32) (m : yM) (Q : Option Value → yM → Prop) (H : (x_in l1 20000 = true ∧ (x_in (m.1 66 l1.toNatClampNeg) 20000 = true ∧ (x_in l2 4700 = true ∧ (((100 : Int32) ≤ (m.1 77 l2.toNatClampNeg) → (x_in l2 4700 = true ∧ (yC (xg xs) d 338 [.ref 58, .int ((m.1 77 l2.toNatClampNeg) - (100 : Int32)), .int (m.1 64 ((m.1 66 l1.toNatClampNeg).toNatClampNeg))] m (fun v1 m1 => ∃ u1, v1 = some (Value.int u1) ∧ ((u1 = ((-1) : Int32) → yP (xg xs) (d + 1) 356 121 [(0, .ref 58), (1, .int l1), (2, .int l2), (5, .int u1)] [] m1 Q) ∧ (¬ u1 = ((-1) : Int32) → (x_in u1 4700 = true ∧ ((¬ (m1.1 81 u1.toNatClampNeg) = (2 : Int32) → yP (xg xs) (d + 1) 356 121 [(0, .ref 58), (1, .int l1), (2, .int l2), (5, .int u1)] [] m1 Q) ∧ ((m1.1 81 u1.toNatClampNeg) = (2 : Int32) → (x_in u1 4700 = true ∧ yP (xg xs) (d + 1) 356 122 [(0, .ref 58), (1, .int l1), (2, .int l2), (5, .int u1)] [.int (m1.1 77 u1.toNatClampNeg)] m1 Q)))))))))) ∧ (¬ (100 : Int32) ≤ (m.1 77 l2.toNatClampNeg) → (x_in l2 4700 = true ∧ (yC (xg xs) d 346 [.ref 58, .int (m.1 77 l2.toNatClampNeg), .int (m.1 64 ((m.1 66 l1.toNatClampNeg).toNatClampNeg)), .int (1 : Int32)] m (fun v2 m2 => ∃ u2, v2 = some (Value.int u2) ∧ ((¬ u2 = ((-1) : Int32) → (¬ (10 : Int32) = 0 ∧ yP (xg xs) (d + 1) 356 55 [(0, .ref 58), (1, .int l1), (2, .int l2), (5, .int u2)] [.int (u2 - u2 / (10 : Int32) * (10 : Int32))] m2 Q)) ∧ (u2 = ((-1) : Int32) → yP (xg xs) (d + 1) 356 55 [(0, .ref 58), (1, .int l1), (2, .int l2), (5, .int u2)] [.int ((-1) : Int32)] m2 Q))))))))))) : yP (xg xs) (d + 1) 356 0 [(0, .ref 58), (1, .int l1), (2, .int l2)] [] m Q := by
  refine y_st rfl rfl rfl rfl rfl (fun _ _ => rfl) ?_
  refine y_gf rfl rfl rfl rfl rfl ?_
  refine y_st rfl rfl rfl rfl rfl (fun _ _ => rfl) ?_
  refine y_gf rfl rfl rfl rfl rfl ?_
  refine y_st rfl rfl rfl rfl rfl (fun _ _ => rfl) ?_
  show yP (xg xs) (d + 1) 356 9 [(0, .ref 58), (1, .int l1), (2, .int l2)] [.int l1, .ref 66, .ref 64] m Q
  refine y_iald rfl rfl rfl (H.1) ?_
  replace H := H.2
  show yP (xg xs) (d + 1) 356 10 [(0, .ref 58), (1, .int l1), (2, .int l2)] [.int (m.1 66 l1.toNatClampNeg), .ref 64] m Q
  refine y_iald rfl rfl rfl (H.1) ?_
  replace H := H.2
  refine y_st rfl rfl rfl rfl rfl (fun _ _ => rfl) ?_
  refine y_st rfl rfl rfl rfl rfl (fun _ _ => rfl) ?_
  refine y_st rfl rfl rfl rfl rfl (fun _ _ => rfl) ?_
  refine y_st rfl rfl rfl rfl rfl (fun _ _ => rfl) ?_
  refine y_gf rfl rfl rfl rfl rfl ?_
  refine y_st rfl rfl rfl rfl rfl (fun _ _ => rfl) ?_
  show yP (xg xs) (d + 1) 356 20 [(4, .int ((-1) : Int32)), (3, .int (m.1 64 ((m.1 66 l1.toNatClampNeg).toNatClampNeg))), (0, .ref 58), (1, .int l1), (2, .int l2)] [.int l2, .ref 77] m Q
  refine y_iald rfl rfl rfl (H.1) ?_
  replace H := H.2
  refine y_st rfl rfl rfl rfl rfl (fun _ _ => rfl) ?_
  show yP (xg xs) (d + 1) 356 23 [(4, .int ((-1) : Int32)), (3, .int (m.1 64 ((m.1 66 l1.toNatClampNeg).toNatClampNeg))), (0, .ref 58), (1, .int l1), (2, .int l2)] [.int (100 : Int32), .int (m.1 77 l2.toNatClampNeg)] m Q
  refine y_ige (t := 78) rfl rfl rfl (fun h => ?_) (fun h => ?_)
  · replace H := H.1 h; clear h
    refine y_st rfl rfl rfl rfl rfl (fun _ _ => rfl) ?_
    refine y_st rfl rfl rfl rfl rfl (fun _ _ => rfl) ?_
    refine y_gf rfl rfl rfl rfl rfl ?_
    refine y_st rfl rfl rfl rfl rfl (fun _ _ => rfl) ?_
    show yP (xg xs) (d + 1) 356 84 [(4, .int ((-1) : Int32)), (3, .int (m.1 64 ((m.1 66 l1.toNatClampNeg).toNatClampNeg))), (0, .ref 58), (1, .int l1), (2, .int l2)] [.int l2, .ref 77, .ref 58] m Q
    refine y_iald rfl rfl rfl (H.1) ?_
    replace H := H.2
    refine y_st rfl rfl rfl rfl rfl (fun _ _ => rfl) ?_
    refine y_st rfl rfl rfl rfl rfl (fun _ _ => rfl) ?_
    refine y_st rfl rfl rfl rfl rfl (fun _ _ => rfl) ?_
    show yP (xg xs) (d + 1) 356 89 [(4, .int ((-1) : Int32)), (3, .int (m.1 64 ((m.1 66 l1.toNatClampNeg).toNatClampNeg))), (0, .ref 58), (1, .int l1), (2, .int l2)] [.int (m.1 64 ((m.1 66 l1.toNatClampNeg).toNatClampNeg)), .int ((m.1 77 l2.toNatClampNeg) - (100 : Int32)), .ref 58] m Q
    refine y_call rfl rfl rfl rfl rfl (Nat.le_of_ble_eq_true rfl) (Nat.le_of_ble_eq_true rfl) rfl (by decide) H (fun v1 m1 H => ?_)
    obtain ⟨u1, rfl, H⟩ := H
    refine y_st rfl rfl rfl rfl rfl (fun _ _ => rfl) ?_
    refine y_st rfl rfl rfl rfl rfl (fun _ _ => rfl) ?_
    refine y_st rfl rfl rfl rfl rfl (fun _ _ => rfl) ?_
    show yP (xg xs) (d + 1) 356 97 [(5, .int u1), (4, .int ((-1) : Int32)), (3, .int (m.1 64 ((m.1 66 l1.toNatClampNeg).toNatClampNeg))), (0, .ref 58), (1, .int l1), (2, .int l2)] [.int ((-1) : Int32), .int u1] m1 Q
    refine y_ieq (t := 121) rfl rfl rfl (fun h => ?_) (fun h => ?_)
    · replace H := H.1 h; clear h
      show yP (xg xs) (d + 1) 356 121 [(5, .int u1), (4, .int ((-1) : Int32)), (3, .int (m.1 64 ((m.1 66 l1.toNatClampNeg).toNatClampNeg))), (0, .ref 58), (1, .int l1), (2, .int l2)] [] m1 Q
      refine y_headS (l2 := [(0, .ref 58), (1, .int l1), (2, .int l2), (5, .int u1)]) [3, 4, 5, 0] [0, 1, 2, 5] [5, 4, 3, 0, 1, 2] rfl rfl (by decide) rfl (by decide) ?_
      exact H
    · replace H := H.2 h; clear h
      refine y_st rfl rfl rfl rfl rfl (fun _ _ => rfl) ?_
      refine y_gf rfl rfl rfl rfl rfl ?_
      refine y_st rfl rfl rfl rfl rfl (fun _ _ => rfl) ?_
      show yP (xg xs) (d + 1) 356 106 [(5, .int u1), (4, .int ((-1) : Int32)), (3, .int (m.1 64 ((m.1 66 l1.toNatClampNeg).toNatClampNeg))), (0, .ref 58), (1, .int l1), (2, .int l2)] [.int u1, .ref 81] m1 Q
      refine y_iald rfl rfl rfl (H.1) ?_
      replace H := H.2
      refine y_st rfl rfl rfl rfl rfl (fun _ _ => rfl) ?_
      show yP (xg xs) (d + 1) 356 108 [(5, .int u1), (4, .int ((-1) : Int32)), (3, .int (m.1 64 ((m.1 66 l1.toNatClampNeg).toNatClampNeg))), (0, .ref 58), (1, .int l1), (2, .int l2)] [.int (2 : Int32), .int (m1.1 81 u1.toNatClampNeg)] m1 Q
      refine y_ine (t := 121) rfl rfl rfl (fun h => ?_) (fun h => ?_)
      · replace H := H.1 h; clear h
        show yP (xg xs) (d + 1) 356 121 [(5, .int u1), (4, .int ((-1) : Int32)), (3, .int (m.1 64 ((m.1 66 l1.toNatClampNeg).toNatClampNeg))), (0, .ref 58), (1, .int l1), (2, .int l2)] [] m1 Q
        refine y_headS (l2 := [(0, .ref 58), (1, .int l1), (2, .int l2), (5, .int u1)]) [3, 4, 5, 0] [0, 1, 2, 5] [5, 4, 3, 0, 1, 2] rfl rfl (by decide) rfl (by decide) ?_
        exact H
      · replace H := H.2 h; clear h
        refine y_st rfl rfl rfl rfl rfl (fun _ _ => rfl) ?_
        refine y_gf rfl rfl rfl rfl rfl ?_
        refine y_st rfl rfl rfl rfl rfl (fun _ _ => rfl) ?_
        show yP (xg xs) (d + 1) 356 117 [(5, .int u1), (4, .int ((-1) : Int32)), (3, .int (m.1 64 ((m.1 66 l1.toNatClampNeg).toNatClampNeg))), (0, .ref 58), (1, .int l1), (2, .int l2)] [.int u1, .ref 77] m1 Q
        refine y_iald rfl rfl rfl (H.1) ?_
        replace H := H.2
        refine y_st rfl rfl rfl rfl rfl (fun _ _ => rfl) ?_
        show yP (xg xs) (d + 1) 356 122 [(5, .int u1), (4, .int ((-1) : Int32)), (3, .int (m.1 64 ((m.1 66 l1.toNatClampNeg).toNatClampNeg))), (0, .ref 58), (1, .int l1), (2, .int l2)] [.int (m1.1 77 u1.toNatClampNeg)] m1 Q
        refine y_headS (l2 := [(0, .ref 58), (1, .int l1), (2, .int l2), (5, .int u1)]) [3, 4, 5, 0] [0, 1, 2, 5] [5, 4, 3, 0, 1, 2] rfl rfl (by decide) rfl (by decide) ?_
        exact H
  · replace H := H.2 h; clear h
    refine y_st rfl rfl rfl rfl rfl (fun _ _ => rfl) ?_
    refine y_st rfl rfl rfl rfl rfl (fun _ _ => rfl) ?_
    refine y_gf rfl rfl rfl rfl rfl ?_
    refine y_st rfl rfl rfl rfl rfl (fun _ _ => rfl) ?_
    show yP (xg xs) (d + 1) 356 32 [(4, .int ((-1) : Int32)), (3, .int (m.1 64 ((m.1 66 l1.toNatClampNeg).toNatClampNeg))), (0, .ref 58), (1, .int l1), (2, .int l2)] [.int l2, .ref 77, .ref 58] m Q
    refine y_iald rfl rfl rfl (H.1) ?_
    replace H := H.2
    refine y_st rfl rfl rfl rfl rfl (fun _ _ => rfl) ?_
    refine y_st rfl rfl rfl rfl rfl (fun _ _ => rfl) ?_
    show yP (xg xs) (d + 1) 356 35 [(4, .int ((-1) : Int32)), (3, .int (m.1 64 ((m.1 66 l1.toNatClampNeg).toNatClampNeg))), (0, .ref 58), (1, .int l1), (2, .int l2)] [.int (1 : Int32), .int (m.1 64 ((m.1 66 l1.toNatClampNeg).toNatClampNeg)), .int (m.1 77 l2.toNatClampNeg), .ref 58] m Q
    refine y_call rfl rfl rfl rfl rfl (Nat.le_of_ble_eq_true rfl) (Nat.le_of_ble_eq_true rfl) rfl (by decide) H (fun v2 m2 H => ?_)
    obtain ⟨u2, rfl, H⟩ := H
    refine y_st rfl rfl rfl rfl rfl (fun _ _ => rfl) ?_
    refine y_st rfl rfl rfl rfl rfl (fun _ _ => rfl) ?_
    refine y_st rfl rfl rfl rfl rfl (fun _ _ => rfl) ?_
    show yP (xg xs) (d + 1) 356 43 [(5, .int u2), (4, .int ((-1) : Int32)), (3, .int (m.1 64 ((m.1 66 l1.toNatClampNeg).toNatClampNeg))), (0, .ref 58), (1, .int l1), (2, .int l2)] [.int ((-1) : Int32), .int u2] m2 Q
    refine y_ine (t := 50) rfl rfl rfl (fun h => ?_) (fun h => ?_)
    · replace H := H.1 h; clear h
      refine y_st rfl rfl rfl rfl rfl (fun _ _ => rfl) ?_
      refine y_st rfl rfl rfl rfl rfl (fun _ _ => rfl) ?_
      show yP (xg xs) (d + 1) 356 54 [(5, .int u2), (4, .int ((-1) : Int32)), (3, .int (m.1 64 ((m.1 66 l1.toNatClampNeg).toNatClampNeg))), (0, .ref 58), (1, .int l1), (2, .int l2)] [.int (10 : Int32), .int u2] m2 Q
      refine y_irem rfl rfl H.1 ?_
      replace H := H.2
      show yP (xg xs) (d + 1) 356 55 [(5, .int u2), (4, .int ((-1) : Int32)), (3, .int (m.1 64 ((m.1 66 l1.toNatClampNeg).toNatClampNeg))), (0, .ref 58), (1, .int l1), (2, .int l2)] [.int (u2 - u2 / (10 : Int32) * (10 : Int32))] m2 Q
      refine y_headS (l2 := [(0, .ref 58), (1, .int l1), (2, .int l2), (5, .int u2)]) [3, 4, 5, 0] [0, 1, 2, 5] [5, 4, 3, 0, 1, 2] rfl rfl (by decide) rfl (by decide) ?_
      exact H
    · replace H := H.2 h; clear h
      refine y_st rfl rfl rfl rfl rfl (fun _ _ => rfl) ?_
      refine y_st rfl rfl rfl rfl rfl (fun _ _ => rfl) ?_
      show yP (xg xs) (d + 1) 356 55 [(5, .int u2), (4, .int ((-1) : Int32)), (3, .int (m.1 64 ((m.1 66 l1.toNatClampNeg).toNatClampNeg))), (0, .ref 58), (1, .int l1), (2, .int l2)] [.int ((-1) : Int32)] m2 Q
      refine y_headS (l2 := [(0, .ref 58), (1, .int l1), (2, .int l2), (5, .int u2)]) [3, 4, 5, 0] [0, 1, 2, 5] [5, 4, 3, 0, 1, 2] rfl rfl (by decide) rfl (by decide) ?_
      exact H
set_option maxRecDepth 20000 in
/-- CodeMakerModel.judgeOutput from 55 on -/
theorem w356_55 (xs : List Int32) (d : Nat) (l1 : Int32) (l2 : Int32) (l5 : Int32) (s0 : Int32) (m : yM) (Q : Option Value → yM → Prop) (H : (x_in l2 4700 = true ∧ (¬ (10 : Int32) = 0 ∧ (x_in l1 20000 = true ∧ yP (xg xs) (d + 1) 356 154 [(0, .ref 58), (1, .int l1), (4, .int s0)] [] (y_si m 86 l1.toNatClampNeg ((m.1 80 l2.toNatClampNeg) + (l5 / (10 : Int32)))) Q)))) : yP (xg xs) (d + 1) 356 55 [(0, .ref 58), (1, .int l1), (2, .int l2), (5, .int l5)] [.int s0] m Q := by
  refine y_st rfl rfl rfl rfl rfl (fun _ _ => rfl) ?_
  refine y_st rfl rfl rfl rfl rfl (fun _ _ => rfl) ?_
  refine y_gf rfl rfl rfl rfl rfl ?_
  refine y_st rfl rfl rfl rfl rfl (fun _ _ => rfl) ?_
  refine y_st rfl rfl rfl rfl rfl (fun _ _ => rfl) ?_
  refine y_gf rfl rfl rfl rfl rfl ?_
  refine y_st rfl rfl rfl rfl rfl (fun _ _ => rfl) ?_
  show yP (xg xs) (d + 1) 356 67 [(4, .int s0), (0, .ref 58), (1, .int l1), (2, .int l2), (5, .int l5)] [.int l2, .ref 80, .int l1, .ref 86] m Q
  refine y_iald rfl rfl rfl (H.1) ?_
  replace H := H.2
  refine y_st rfl rfl rfl rfl rfl (fun _ _ => rfl) ?_
  refine y_st rfl rfl rfl rfl rfl (fun _ _ => rfl) ?_
  show yP (xg xs) (d + 1) 356 72 [(4, .int s0), (0, .ref 58), (1, .int l1), (2, .int l2), (5, .int l5)] [.int (10 : Int32), .int l5, .int (m.1 80 l2.toNatClampNeg), .int l1, .ref 86] m Q
  refine y_idiv rfl rfl H.1 ?_
  replace H := H.2
  refine y_st rfl rfl rfl rfl rfl (fun _ _ => rfl) ?_
  show yP (xg xs) (d + 1) 356 74 [(4, .int s0), (0, .ref 58), (1, .int l1), (2, .int l2), (5, .int l5)] [.int ((m.1 80 l2.toNatClampNeg) + (l5 / (10 : Int32))), .int l1, .ref 86] m Q
  refine y_iast rfl rfl rfl (H.1) ?_
  replace H := H.2
  refine y_st rfl rfl rfl rfl rfl (fun _ _ => rfl) ?_
  show yP (xg xs) (d + 1) 356 154 [(4, .int s0), (0, .ref 58), (1, .int l1), (2, .int l2), (5, .int l5)] [] (y_si m 86 l1.toNatClampNeg ((m.1 80 l2.toNatClampNeg) + (l5 / (10 : Int32)))) Q
  refine y_headS (l2 := [(0, .ref 58), (1, .int l1), (4, .int s0)]) [1, 2, 0] [0, 1, 4] [4, 0, 1, 2, 5] rfl rfl (by decide) rfl (by decide) ?_
  exact H
set_option maxRecDepth 20000 in
/-- CodeMakerModel.judgeOutput from 121 on -/
theorem w356_121 (xs : List Int32) (d : Nat) (l1 : Int32) (l2 : Int32) (l5 : Int32) (m : yM) (Q : Option Value → yM → Prop) (H : yP (xg xs) (d + 1) 356 122 [(0, .ref 58), (1, .int l1), (2, .int l2), (5, .int l5)] [.int ((-1) : Int32)] m Q) : yP (xg xs) (d + 1) 356 121 [(0, .ref 58), (1, .int l1), (2, .int l2), (5, .int l5)] [] m Q := by
  refine y_st rfl rfl rfl rfl rfl (fun _ _ => rfl) ?_
  show yP (xg xs) (d + 1) 356 122 [(0, .ref 58), (1, .int l1), (2, .int l2), (5, .int l5)] [.int ((-1) : Int32)] m Q
  exact H
set_option maxRecDepth 20000 in
/-- CodeMakerModel.judgeOutput from 122 on -/
theorem w356_122 (xs : List Int32) (d : Nat) (l1 : Int32) (l2 : Int32) (l5 : Int32) (s0 : Int32) (m : yM) (Q : Option Value → yM → Prop) (H : ((¬ l5 = ((-1) : Int32) → (x_in l2 4700 = true ∧ (x_in l5 4700 = true ∧ yP (xg xs) (d + 1) 356 153 [(0, .ref 58), (1, .int l1), (4, .int s0)] [.int ((m.1 80 l2.toNatClampNeg) + (m.1 80 l5.toNatClampNeg)), .int l1, .ref 86] m Q))) ∧ (l5 = ((-1) : Int32) → yP (xg xs) (d + 1) 356 153 [(0, .ref 58), (1, .int l1), (4, .int s0)] [.int (0 : Int32), .int l1, .ref 86] m Q))) : yP (xg xs) (d + 1) 356 122 [(0, .ref 58), (1, .int l1), (2, .int l2), (5, .int l5)] [.int s0] m Q := by
  refine y_st rfl rfl rfl rfl rfl (fun _ _ => rfl) ?_
  refine y_st rfl rfl rfl rfl rfl (fun _ _ => rfl) ?_
  refine y_gf rfl rfl rfl rfl rfl ?_
  refine y_st rfl rfl rfl rfl rfl (fun _ _ => rfl) ?_
  refine y_st rfl rfl rfl rfl rfl (fun _ _ => rfl) ?_
  refine y_st rfl rfl rfl rfl rfl (fun _ _ => rfl) ?_
  show yP (xg xs) (d + 1) 356 132 [(4, .int s0), (0, .ref 58), (1, .int l1), (2, .int l2), (5, .int l5)] [.int ((-1) : Int32), .int l5, .int l1, .ref 86] m Q
  refine y_ine (t := 139) rfl rfl rfl (fun h => ?_) (fun h => ?_)
  · replace H := H.1 h; clear h
    refine y_st rfl rfl rfl rfl rfl (fun _ _ => rfl) ?_
    refine y_gf rfl rfl rfl rfl rfl ?_
    refine y_st rfl rfl rfl rfl rfl (fun _ _ => rfl) ?_
    show yP (xg xs) (d + 1) 356 144 [(4, .int s0), (0, .ref 58), (1, .int l1), (2, .int l2), (5, .int l5)] [.int l2, .ref 80, .int l1, .ref 86] m Q
    refine y_iald rfl rfl rfl (H.1) ?_
    replace H := H.2
    refine y_st rfl rfl rfl rfl rfl (fun _ _ => rfl) ?_
    refine y_gf rfl rfl rfl rfl rfl ?_
    refine y_st rfl rfl rfl rfl rfl (fun _ _ => rfl) ?_
    show yP (xg xs) (d + 1) 356 151 [(4, .int s0), (0, .ref 58), (1, .int l1), (2, .int l2), (5, .int l5)] [.int l5, .ref 80, .int (m.1 80 l2.toNatClampNeg), .int l1, .ref 86] m Q
    refine y_iald rfl rfl rfl (H.1) ?_
    replace H := H.2
    refine y_st rfl rfl rfl rfl rfl (fun _ _ => rfl) ?_
    show yP (xg xs) (d + 1) 356 153 [(4, .int s0), (0, .ref 58), (1, .int l1), (2, .int l2), (5, .int l5)] [.int ((m.1 80 l2.toNatClampNeg) + (m.1 80 l5.toNatClampNeg)), .int l1, .ref 86] m Q
    refine y_headS (l2 := [(0, .ref 58), (1, .int l1), (4, .int s0)]) [1, 2, 0] [0, 1, 4] [4, 0, 1, 2, 5] rfl rfl (by decide) rfl (by decide) ?_
    exact H
  · replace H := H.2 h; clear h
    refine y_st rfl rfl rfl rfl rfl (fun _ _ => rfl) ?_
    refine y_st rfl rfl rfl rfl rfl (fun _ _ => rfl) ?_
    show yP (xg xs) (d + 1) 356 153 [(4, .int s0), (0, .ref 58), (1, .int l1), (2, .int l2), (5, .int l5)] [.int (0 : Int32), .int l1, .ref 86] m Q
    refine y_headS (l2 := [(0, .ref 58), (1, .int l1), (4, .int s0)]) [1, 2, 0] [0, 1, 4] [4, 0, 1, 2, 5] rfl rfl (by decide) rfl (by decide) ?_
    exact H
set_option maxRecDepth 20000 in
/-- CodeMakerModel.judgeOutput from 153 on -/
theorem w356_153 (xs : List Int32) (d : Nat) (l1 : Int32) (l4 : Int32) (s1 : Int32) (s2 : Int32) (m : yM) (Q : Option Value → yM → Prop) (H : (x_in s1 20000 = true ∧ yP (xg xs) (d + 1) 356 154 [(0, .ref 58), (1, .int l1), (4, .int l4)] [] (y_si m 86 s1.toNatClampNeg s2) Q)) : yP (xg xs) (d + 1) 356 153 [(0, .ref 58), (1, .int l1), (4, .int l4)] [.int s2, .int s1, .ref 86] m Q := by
  show yP (xg xs) (d + 1) 356 153 [(0, .ref 58), (1, .int l1), (4, .int l4)] [.int s2, .int s1, .ref 86] m Q
  refine y_iast rfl rfl rfl (H.1) ?_
  replace H := H.2
  show yP (xg xs) (d + 1) 356 154 [(0, .ref 58), (1, .int l1), (4, .int l4)] [] (y_si m 86 s1.toNatClampNeg s2) Q
  exact H
set_option maxRecDepth 20000 in
/-- CodeMakerModel.judgeOutput from 154 on -/
theorem w356_154 (xs : List Int32) (d : Nat) (l1 : Int32) (l4 : Int32) (m : yM) (Q : Option Value → yM → Prop) (H : ((¬ l4 = ((-1) : Int32) → yP (xg xs) (d + 1) 356 168 [(0, .ref 58), (1, .int l1), (4, .int l4)] [.int (0 : Int32), .int (23 : Int32), .ref 58] m Q) ∧ (l4 = ((-1) : Int32) → yP (xg xs) (d + 1) 356 168 [(0, .ref 58), (1, .int l1), (4, .int l4)] [.int (1 : Int32), .int (23 : Int32), .ref 58] m Q))) : yP (xg xs) (d + 1) 356 154 [(0, .ref 58), (1, .int l1), (4, .int l4)] [] m Q := by
  refine y_st rfl rfl rfl rfl rfl (fun _ _ => rfl) ?_
  refine y_st rfl rfl rfl rfl rfl (fun _ _ => rfl) ?_
  refine y_st rfl rfl rfl rfl rfl (fun _ _ => rfl) ?_
  refine y_st rfl rfl rfl rfl rfl (fun _ _ => rfl) ?_
  show yP (xg xs) (d + 1) 356 160 [(0, .ref 58), (1, .int l1), (4, .int l4)] [.int ((-1) : Int32), .int l4, .int (23 : Int32), .ref 58] m Q
  refine y_ine (t := 167) rfl rfl rfl (fun h => ?_) (fun h => ?_)
  · replace H := H.1 h; clear h
    refine y_st rfl rfl rfl rfl rfl (fun _ _ => rfl) ?_
    show yP (xg xs) (d + 1) 356 168 [(0, .ref 58), (1, .int l1), (4, .int l4)] [.int (0 : Int32), .int (23 : Int32), .ref 58] m Q
    exact H
  · replace H := H.2 h; clear h
    refine y_st rfl rfl rfl rfl rfl (fun _ _ => rfl) ?_
    refine y_st rfl rfl rfl rfl rfl (fun _ _ => rfl) ?_
    show yP (xg xs) (d + 1) 356 168 [(0, .ref 58), (1, .int l1), (4, .int l4)] [.int (1 : Int32), .int (23 : Int32), .ref 58] m Q
    exact H
set_option maxRecDepth 20000 in
/-- CodeMakerModel.judgeOutput from 168 on -/
theorem w356_168 (xs : List Int32) (d : Nat) (l1 : Int32) (l4 : Int32) (s1 : Int32) (s2 : Int32) (m : yM) (Q : Option Value → yM → Prop) (H : (yC (xg xs) d 323 [.ref 58, .int s1, .int s2, .int l1] m (fun v1 m1 => v1 = none ∧ (x_in l1 20000 = true ∧ (x_in l1 20000 = true ∧ Q none (y_si (y_si m1 84 l1.toNatClampNeg l4) 87 l1.toNatClampNeg (vp_nar .boolean (0 : Int32)))))))) : yP (xg xs) (d + 1) 356 168 [(0, .ref 58), (1, .int l1), (4, .int l4)] [.int s2, .int s1, .ref 58] m Q := by
  refine y_st rfl rfl rfl rfl rfl (fun _ _ => rfl) ?_
  show yP (xg xs) (d + 1) 356 169 [(0, .ref 58), (1, .int l1), (4, .int l4)] [.int l1, .int s2, .int s1, .ref 58] m Q
  refine y_call rfl rfl rfl rfl rfl (Nat.le_of_ble_eq_true rfl) (Nat.le_of_ble_eq_true rfl) rfl (by decide) H (fun v1 m1 H => ?_)
  obtain ⟨rfl, H⟩ := H
  refine y_st rfl rfl rfl rfl rfl (fun _ _ => rfl) ?_
  refine y_gf rfl rfl rfl rfl rfl ?_
  refine y_st rfl rfl rfl rfl rfl (fun _ _ => rfl) ?_
  refine y_st rfl rfl rfl rfl rfl (fun _ _ => rfl) ?_
  show yP (xg xs) (d + 1) 356 179 [(0, .ref 58), (1, .int l1), (4, .int l4)] [.int l4, .int l1, .ref 84] m1 Q
  refine y_iast rfl rfl rfl (H.1) ?_
  replace H := H.2
  refine y_st rfl rfl rfl rfl rfl (fun _ _ => rfl) ?_
  refine y_gf rfl rfl rfl rfl rfl ?_
  refine y_st rfl rfl rfl rfl rfl (fun _ _ => rfl) ?_
  refine y_st rfl rfl rfl rfl rfl (fun _ _ => rfl) ?_
  show yP (xg xs) (d + 1) 356 186 [(0, .ref 58), (1, .int l1), (4, .int l4)] [.int (0 : Int32), .int l1, .ref 87] (y_si m1 84 l1.toNatClampNeg l4) Q
  refine y_zast rfl rfl rfl (H.1) ?_
  replace H := H.2
  show yP (xg xs) (d + 1) 356 187 [(0, .ref 58), (1, .int l1), (4, .int l4)] [] (y_si (y_si m1 84 l1.toNatClampNeg l4) 87 l1.toNatClampNeg (vp_nar .boolean (0 : Int32))) Q
  exact y_ret rfl rfl rfl rfl H
set_option maxRecDepth 20000 in
/-- CodeMakerModel.judgeCall from 0 on -/
theorem w357_0 (xs : List Int32) (d : Nat) (l1 : Int32) (m : yM) (Q : Option Value → yM → Prop) (H : (yC (xg xs) d 358 [.ref 58, .int l1] m (fun v1 m1 => ∃ u1, v1 = some (Value.int u1) ∧ ((¬ u1 = ((-1) : Int32) → yP (xg xs) (d + 1) 357 19 [(0, .ref 58), (1, .int l1), (2, .int u1)] [.int (0 : Int32), .int (24 : Int32), .ref 58] m1 Q) ∧ (u1 = ((-1) : Int32) → yP (xg xs) (d + 1) 357 19 [(0, .ref 58), (1, .int l1), (2, .int u1)] [.int (1 : Int32), .int (24 : Int32), .ref 58] m1 Q))))) : yP (xg xs) (d + 1) 357 0 [(0, .ref 58), (1, .int l1)] [] m Q := by
  refine y_st rfl rfl rfl rfl rfl (fun _ _ => rfl) ?_
  refine y_st rfl rfl rfl rfl rfl (fun _ _ => rfl) ?_
  show yP (xg xs) (d + 1) 357 2 [(0, .ref 58), (1, .int l1)] [.int l1, .ref 58] m Q
  refine y_call rfl rfl rfl rfl rfl (Nat.le_of_ble_eq_true rfl) (Nat.le_of_ble_eq_true rfl) rfl (by decide) H (fun v1 m1 H => ?_)
  obtain ⟨u1, rfl, H⟩ := H
  refine y_st rfl rfl rfl rfl rfl (fun _ _ => rfl) ?_
  refine y_st rfl rfl rfl rfl rfl (fun _ _ => rfl) ?_
  refine y_st rfl rfl rfl rfl rfl (fun _ _ => rfl) ?_
  refine y_st rfl rfl rfl rfl rfl (fun _ _ => rfl) ?_
  refine y_st rfl rfl rfl rfl rfl (fun _ _ => rfl) ?_
  show yP (xg xs) (d + 1) 357 11 [(2, .int u1), (0, .ref 58), (1, .int l1)] [.int ((-1) : Int32), .int u1, .int (24 : Int32), .ref 58] m1 Q
  refine y_ine (t := 18) rfl rfl rfl (fun h => ?_) (fun h => ?_)
  · replace H := H.1 h; clear h
    refine y_st rfl rfl rfl rfl rfl (fun _ _ => rfl) ?_
    show yP (xg xs) (d + 1) 357 19 [(2, .int u1), (0, .ref 58), (1, .int l1)] [.int (0 : Int32), .int (24 : Int32), .ref 58] m1 Q
    refine y_headS (l2 := [(0, .ref 58), (1, .int l1), (2, .int u1)]) [1, 2, 0] [0, 1, 2] [2, 0, 1] rfl rfl (by decide) rfl (by decide) ?_
    exact H
  · replace H := H.2 h; clear h
    refine y_st rfl rfl rfl rfl rfl (fun _ _ => rfl) ?_
    refine y_st rfl rfl rfl rfl rfl (fun _ _ => rfl) ?_
    show yP (xg xs) (d + 1) 357 19 [(2, .int u1), (0, .ref 58), (1, .int l1)] [.int (1 : Int32), .int (24 : Int32), .ref 58] m1 Q
    refine y_headS (l2 := [(0, .ref 58), (1, .int l1), (2, .int u1)]) [1, 2, 0] [0, 1, 2] [2, 0, 1] rfl rfl (by decide) rfl (by decide) ?_
    exact H
set_option maxRecDepth 20000 in
/-- CodeMakerModel.judgeCall from 19 on -/
theorem w357_19 (xs : List Int32) (d : Nat) (l1 : Int32) (l2 : Int32) (s1 : Int32) (s2 : Int32) (m : yM) (Q : Option Value → yM → Prop) (H : (yC (xg xs) d 323 [.ref 58, .int s1, .int s2, .int l1] m (fun v1 m1 => v1 = none ∧ (((m1.1 58 3) ≤ 0 → (x_in l1 20000 = true ∧ ((l2 < (100 : Int32) → ((l2 = (3 : Int32) → yP (xg xs) (d + 1) 357 65 [(0, .ref 58), (1, .int l1), (2, .int l2)] [] (y_si m1 85 l1.toNatClampNeg l2) Q) ∧ (¬ l2 = (3 : Int32) → ((¬ l2 = (4 : Int32) → ((l2 = 0 → yP (xg xs) (d + 1) 357 79 [(0, .ref 58), (1, .int l1), (2, .int l2)] [] (y_si m1 85 l1.toNatClampNeg l2) Q) ∧ (¬ l2 = 0 → ((l2 ≤ (6 : Int32) → yP (xg xs) (d + 1) 357 84 [(0, .ref 58), (1, .int l1), (2, .int l2)] [.int (2 : Int32)] (y_si m1 85 l1.toNatClampNeg l2) Q) ∧ (¬ l2 ≤ (6 : Int32) → yP (xg xs) (d + 1) 357 79 [(0, .ref 58), (1, .int l1), (2, .int l2)] [] (y_si m1 85 l1.toNatClampNeg l2) Q))))) ∧ (l2 = (4 : Int32) → yP (xg xs) (d + 1) 357 65 [(0, .ref 58), (1, .int l1), (2, .int l2)] [] (y_si m1 85 l1.toNatClampNeg l2) Q))))) ∧ (¬ l2 < (100 : Int32) → (yC (xg xs) d 329 [.ref 58, .int (l2 - (100 : Int32))] (y_si m1 85 l1.toNatClampNeg l2) (fun v2 m2 => ∃ u2, v2 = some (Value.int u2) ∧ yP (xg xs) (d + 1) 357 84 [(0, .ref 58), (1, .int l1), (2, .int l2)] [.int u2] m2 Q)))))) ∧ (¬ (m1.1 58 3) ≤ 0 → Q none m1))))) : yP (xg xs) (d + 1) 357 19 [(0, .ref 58), (1, .int l1), (2, .int l2)] [.int s2, .int s1, .ref 58] m Q := by
  refine y_st rfl rfl rfl rfl rfl (fun _ _ => rfl) ?_
  show yP (xg xs) (d + 1) 357 20 [(0, .ref 58), (1, .int l1), (2, .int l2)] [.int l1, .int s2, .int s1, .ref 58] m Q
  refine y_call rfl rfl rfl rfl rfl (Nat.le_of_ble_eq_true rfl) (Nat.le_of_ble_eq_true rfl) rfl (by decide) H (fun v1 m1 H => ?_)
  obtain ⟨rfl, H⟩ := H
  refine y_st rfl rfl rfl rfl rfl (fun _ _ => rfl) ?_
  refine y_gf rfl rfl rfl rfl rfl ?_
  show yP (xg xs) (d + 1) 357 27 [(0, .ref 58), (1, .int l1), (2, .int l2)] [.int (m1.1 58 3)] m1 Q
  refine y_zle (t := 31) rfl rfl rfl (fun h => ?_) (fun h => ?_)
  · replace H := H.1 h; clear h
    refine y_st rfl rfl rfl rfl rfl (fun _ _ => rfl) ?_
    refine y_gf rfl rfl rfl rfl rfl ?_
    refine y_st rfl rfl rfl rfl rfl (fun _ _ => rfl) ?_
    refine y_st rfl rfl rfl rfl rfl (fun _ _ => rfl) ?_
    show yP (xg xs) (d + 1) 357 37 [(0, .ref 58), (1, .int l1), (2, .int l2)] [.int l2, .int l1, .ref 85] m1 Q
    refine y_iast rfl rfl rfl (H.1) ?_
    replace H := H.2
    refine y_st rfl rfl rfl rfl rfl (fun _ _ => rfl) ?_
    refine y_st rfl rfl rfl rfl rfl (fun _ _ => rfl) ?_
    show yP (xg xs) (d + 1) 357 41 [(0, .ref 58), (1, .int l1), (2, .int l2)] [.int (100 : Int32), .int l2] (y_si m1 85 l1.toNatClampNeg l2) Q
    refine y_ilt (t := 55) rfl rfl rfl (fun h => ?_) (fun h => ?_)
    · replace H := H.1 h; clear h
      refine y_st rfl rfl rfl rfl rfl (fun _ _ => rfl) ?_
      refine y_st rfl rfl rfl rfl rfl (fun _ _ => rfl) ?_
      show yP (xg xs) (d + 1) 357 57 [(0, .ref 58), (1, .int l1), (2, .int l2)] [.int (3 : Int32), .int l2] (y_si m1 85 l1.toNatClampNeg l2) Q
      refine y_ieq (t := 65) rfl rfl rfl (fun h => ?_) (fun h => ?_)
      · replace H := H.1 h; clear h
        show yP (xg xs) (d + 1) 357 65 [(0, .ref 58), (1, .int l1), (2, .int l2)] [] (y_si m1 85 l1.toNatClampNeg l2) Q
        exact H
      · replace H := H.2 h; clear h
        refine y_st rfl rfl rfl rfl rfl (fun _ _ => rfl) ?_
        refine y_st rfl rfl rfl rfl rfl (fun _ _ => rfl) ?_
        show yP (xg xs) (d + 1) 357 62 [(0, .ref 58), (1, .int l1), (2, .int l2)] [.int (4 : Int32), .int l2] (y_si m1 85 l1.toNatClampNeg l2) Q
        refine y_ine (t := 69) rfl rfl rfl (fun h => ?_) (fun h => ?_)
        · replace H := H.1 h; clear h
          refine y_st rfl rfl rfl rfl rfl (fun _ _ => rfl) ?_
          show yP (xg xs) (d + 1) 357 70 [(0, .ref 58), (1, .int l1), (2, .int l2)] [.int l2] (y_si m1 85 l1.toNatClampNeg l2) Q
          refine y_zeq (t := 79) rfl rfl rfl (fun h => ?_) (fun h => ?_)
          · replace H := H.1 h; clear h
            show yP (xg xs) (d + 1) 357 79 [(0, .ref 58), (1, .int l1), (2, .int l2)] [] (y_si m1 85 l1.toNatClampNeg l2) Q
            exact H
          · replace H := H.2 h; clear h
            refine y_st rfl rfl rfl rfl rfl (fun _ _ => rfl) ?_
            refine y_st rfl rfl rfl rfl rfl (fun _ _ => rfl) ?_
            show yP (xg xs) (d + 1) 357 76 [(0, .ref 58), (1, .int l1), (2, .int l2)] [.int (6 : Int32), .int l2] (y_si m1 85 l1.toNatClampNeg l2) Q
            refine y_ile (t := 83) rfl rfl rfl (fun h => ?_) (fun h => ?_)
            · replace H := H.1 h; clear h
              refine y_st rfl rfl rfl rfl rfl (fun _ _ => rfl) ?_
              show yP (xg xs) (d + 1) 357 84 [(0, .ref 58), (1, .int l1), (2, .int l2)] [.int (2 : Int32)] (y_si m1 85 l1.toNatClampNeg l2) Q
              exact H
            · replace H := H.2 h; clear h
              show yP (xg xs) (d + 1) 357 79 [(0, .ref 58), (1, .int l1), (2, .int l2)] [] (y_si m1 85 l1.toNatClampNeg l2) Q
              exact H
        · replace H := H.2 h; clear h
          show yP (xg xs) (d + 1) 357 65 [(0, .ref 58), (1, .int l1), (2, .int l2)] [] (y_si m1 85 l1.toNatClampNeg l2) Q
          exact H
    · replace H := H.2 h; clear h
      refine y_st rfl rfl rfl rfl rfl (fun _ _ => rfl) ?_
      refine y_st rfl rfl rfl rfl rfl (fun _ _ => rfl) ?_
      refine y_st rfl rfl rfl rfl rfl (fun _ _ => rfl) ?_
      refine y_st rfl rfl rfl rfl rfl (fun _ _ => rfl) ?_
      show yP (xg xs) (d + 1) 357 49 [(0, .ref 58), (1, .int l1), (2, .int l2)] [.int (l2 - (100 : Int32)), .ref 58] (y_si m1 85 l1.toNatClampNeg l2) Q
      refine y_call rfl rfl rfl rfl rfl (Nat.le_of_ble_eq_true rfl) (Nat.le_of_ble_eq_true rfl) rfl (by decide) H (fun v2 m2 H => ?_)
      obtain ⟨u2, rfl, H⟩ := H
      refine y_st rfl rfl rfl rfl rfl (fun _ _ => rfl) ?_
      show yP (xg xs) (d + 1) 357 84 [(0, .ref 58), (1, .int l1), (2, .int l2)] [.int u2] m2 Q
      exact H
  · replace H := H.2 h; clear h
    show yP (xg xs) (d + 1) 357 30 [(0, .ref 58), (1, .int l1), (2, .int l2)] [] m1 Q
    exact y_ret rfl rfl rfl rfl H
set_option maxRecDepth 20000 in
/-- CodeMakerModel.judgeCall from 65 on -/
theorem w357_65 (xs : List Int32) (d : Nat) (l1 : Int32) (l2 : Int32) (m : yM) (Q : Option Value → yM → Prop) (H : yP (xg xs) (d + 1) 357 84 [(0, .ref 58), (1, .int l1), (2, .int l2)] [.int (3 : Int32)] m Q) : yP (xg xs) (d + 1) 357 65 [(0, .ref 58), (1, .int l1), (2, .int l2)] [] m Q := by
  refine y_st rfl rfl rfl rfl rfl (fun _ _ => rfl) ?_
  refine y_st rfl rfl rfl rfl rfl (fun _ _ => rfl) ?_
  show yP (xg xs) (d + 1) 357 84 [(0, .ref 58), (1, .int l1), (2, .int l2)] [.int (3 : Int32)] m Q
  exact H
set_option maxRecDepth 20000 in
/-- CodeMakerModel.judgeCall from 79 on -/
theorem w357_79 (xs : List Int32) (d : Nat) (l1 : Int32) (l2 : Int32) (m : yM) (Q : Option Value → yM → Prop) (H : yP (xg xs) (d + 1) 357 84 [(0, .ref 58), (1, .int l1), (2, .int l2)] [.int (1 : Int32)] m Q) : yP (xg xs) (d + 1) 357 79 [(0, .ref 58), (1, .int l1), (2, .int l2)] [] m Q := by
  refine y_st rfl rfl rfl rfl rfl (fun _ _ => rfl) ?_
  refine y_st rfl rfl rfl rfl rfl (fun _ _ => rfl) ?_
  show yP (xg xs) (d + 1) 357 84 [(0, .ref 58), (1, .int l1), (2, .int l2)] [.int (1 : Int32)] m Q
  exact H
set_option maxRecDepth 20000 in
/-- CodeMakerModel.judgeCall from 84 on -/
theorem w357_84 (xs : List Int32) (d : Nat) (l1 : Int32) (l2 : Int32) (s0 : Int32) (m : yM) (Q : Option Value → yM → Prop) (H : (x_in l1 20000 = true ∧ (((m.1 69 l1.toNatClampNeg) = s0 → yP (xg xs) (d + 1) 357 103 [(0, .ref 58), (1, .int l1), (2, .int l2)] [.int (0 : Int32), .int (25 : Int32), .ref 58] m Q) ∧ (¬ (m.1 69 l1.toNatClampNeg) = s0 → yP (xg xs) (d + 1) 357 103 [(0, .ref 58), (1, .int l1), (2, .int l2)] [.int (1 : Int32), .int (25 : Int32), .ref 58] m Q)))) : yP (xg xs) (d + 1) 357 84 [(0, .ref 58), (1, .int l1), (2, .int l2)] [.int s0] m Q := by
  refine y_st rfl rfl rfl rfl rfl (fun _ _ => rfl) ?_
  refine y_st rfl rfl rfl rfl rfl (fun _ _ => rfl) ?_
  refine y_st rfl rfl rfl rfl rfl (fun _ _ => rfl) ?_
  refine y_st rfl rfl rfl rfl rfl (fun _ _ => rfl) ?_
  refine y_gf rfl rfl rfl rfl rfl ?_
  refine y_st rfl rfl rfl rfl rfl (fun _ _ => rfl) ?_
  show yP (xg xs) (d + 1) 357 93 [(3, .int s0), (0, .ref 58), (1, .int l1), (2, .int l2)] [.int l1, .ref 69, .int (25 : Int32), .ref 58] m Q
  refine y_iald rfl rfl rfl (H.1) ?_
  replace H := H.2
  refine y_st rfl rfl rfl rfl rfl (fun _ _ => rfl) ?_
  show yP (xg xs) (d + 1) 357 95 [(3, .int s0), (0, .ref 58), (1, .int l1), (2, .int l2)] [.int s0, .int (m.1 69 l1.toNatClampNeg), .int (25 : Int32), .ref 58] m Q
  refine y_ieq (t := 102) rfl rfl rfl (fun h => ?_) (fun h => ?_)
  · replace H := H.1 h; clear h
    refine y_st rfl rfl rfl rfl rfl (fun _ _ => rfl) ?_
    show yP (xg xs) (d + 1) 357 103 [(3, .int s0), (0, .ref 58), (1, .int l1), (2, .int l2)] [.int (0 : Int32), .int (25 : Int32), .ref 58] m Q
    refine y_headS (l2 := [(0, .ref 58), (1, .int l1), (2, .int l2)]) [1, 2, 3] [0, 1, 2] [3, 0, 1, 2] rfl rfl (by decide) rfl (by decide) ?_
    exact H
  · replace H := H.2 h; clear h
    refine y_st rfl rfl rfl rfl rfl (fun _ _ => rfl) ?_
    refine y_st rfl rfl rfl rfl rfl (fun _ _ => rfl) ?_
    show yP (xg xs) (d + 1) 357 103 [(3, .int s0), (0, .ref 58), (1, .int l1), (2, .int l2)] [.int (1 : Int32), .int (25 : Int32), .ref 58] m Q
    refine y_headS (l2 := [(0, .ref 58), (1, .int l1), (2, .int l2)]) [1, 2, 3] [0, 1, 2] [3, 0, 1, 2] rfl rfl (by decide) rfl (by decide) ?_
    exact H
set_option maxRecDepth 20000 in
/-- CodeMakerModel.judgeCall from 103 on -/
theorem w357_103 (xs : List Int32) (d : Nat) (l1 : Int32) (l2 : Int32) (s1 : Int32) (s2 : Int32) (m : yM) (Q : Option Value → yM → Prop) (H : (yC (xg xs) d 323 [.ref 58, .int s1, .int s2, .int l1] m (fun v1 m1 => v1 = none ∧ (((m1.1 58 3) ≤ 0 → ((l2 < (100 : Int32) → (x_in l1 20000 = true ∧ (x_in l1 20000 = true ∧ (((m1.1 69 l1.toNatClampNeg) ≤ (1 : Int32) → yP (xg xs) (d + 1) 357 290 [(0, .ref 58), (1, .int l1), (2, .int l2), (4, .int (m1.1 66 l1.toNatClampNeg))] [.int (m1.1 66 l1.toNatClampNeg)] m1 Q) ∧ (¬ (m1.1 69 l1.toNatClampNeg) ≤ (1 : Int32) → (x_in (m1.1 66 l1.toNatClampNeg) 20000 = true ∧ yP (xg xs) (d + 1) 357 290 [(0, .ref 58), (1, .int l1), (2, .int l2), (4, .int (m1.1 66 l1.toNatClampNeg))] [.int (m1.1 68 ((m1.1 66 l1.toNatClampNeg).toNatClampNeg))] m1 Q)))))) ∧ (¬ l2 < (100 : Int32) → (x_in l1 20000 = true ∧ (x_in (l2 - (100 : Int32)) 401 = true ∧ yP (xg xs) (d + 1) 357 143 [(0, .ref 58), (1, .int l1), (2, .int l2), (4, .int (1 : Int32)), (5, .int (m1.1 66 l1.toNatClampNeg)), (6, .int (m1.1 73 ((l2 - (100 : Int32)).toNatClampNeg)))] [] m1 Q))))) ∧ (¬ (m1.1 58 3) ≤ 0 → Q none m1))))) : yP (xg xs) (d + 1) 357 103 [(0, .ref 58), (1, .int l1), (2, .int l2)] [.int s2, .int s1, .ref 58] m Q := by
  refine y_st rfl rfl rfl rfl rfl (fun _ _ => rfl) ?_
  show yP (xg xs) (d + 1) 357 104 [(0, .ref 58), (1, .int l1), (2, .int l2)] [.int l1, .int s2, .int s1, .ref 58] m Q
  refine y_call rfl rfl rfl rfl rfl (Nat.le_of_ble_eq_true rfl) (Nat.le_of_ble_eq_true rfl) rfl (by decide) H (fun v1 m1 H => ?_)
  obtain ⟨rfl, H⟩ := H
  refine y_st rfl rfl rfl rfl rfl (fun _ _ => rfl) ?_
  refine y_gf rfl rfl rfl rfl rfl ?_
  show yP (xg xs) (d + 1) 357 111 [(0, .ref 58), (1, .int l1), (2, .int l2)] [.int (m1.1 58 3)] m1 Q
  refine y_zle (t := 115) rfl rfl rfl (fun h => ?_) (fun h => ?_)
  · replace H := H.1 h; clear h
    refine y_st rfl rfl rfl rfl rfl (fun _ _ => rfl) ?_
    refine y_st rfl rfl rfl rfl rfl (fun _ _ => rfl) ?_
    show yP (xg xs) (d + 1) 357 118 [(0, .ref 58), (1, .int l1), (2, .int l2)] [.int (100 : Int32), .int l2] m1 Q
    refine y_ilt (t := 260) rfl rfl rfl (fun h => ?_) (fun h => ?_)
    · replace H := H.1 h; clear h
      refine y_st rfl rfl rfl rfl rfl (fun _ _ => rfl) ?_
      refine y_gf rfl rfl rfl rfl rfl ?_
      refine y_st rfl rfl rfl rfl rfl (fun _ _ => rfl) ?_
      show yP (xg xs) (d + 1) 357 265 [(0, .ref 58), (1, .int l1), (2, .int l2)] [.int l1, .ref 66] m1 Q
      refine y_iald rfl rfl rfl (H.1) ?_
      replace H := H.2
      refine y_st rfl rfl rfl rfl rfl (fun _ _ => rfl) ?_
      refine y_st rfl rfl rfl rfl rfl (fun _ _ => rfl) ?_
      refine y_gf rfl rfl rfl rfl rfl ?_
      refine y_st rfl rfl rfl rfl rfl (fun _ _ => rfl) ?_
      show yP (xg xs) (d + 1) 357 273 [(4, .int (m1.1 66 l1.toNatClampNeg)), (0, .ref 58), (1, .int l1), (2, .int l2)] [.int l1, .ref 69] m1 Q
      refine y_iald rfl rfl rfl (H.1) ?_
      replace H := H.2
      refine y_st rfl rfl rfl rfl rfl (fun _ _ => rfl) ?_
      show yP (xg xs) (d + 1) 357 275 [(4, .int (m1.1 66 l1.toNatClampNeg)), (0, .ref 58), (1, .int l1), (2, .int l2)] [.int (1 : Int32), .int (m1.1 69 l1.toNatClampNeg)] m1 Q
      refine y_ile (t := 288) rfl rfl rfl (fun h => ?_) (fun h => ?_)
      · replace H := H.1 h; clear h
        refine y_st rfl rfl rfl rfl rfl (fun _ _ => rfl) ?_
        show yP (xg xs) (d + 1) 357 290 [(4, .int (m1.1 66 l1.toNatClampNeg)), (0, .ref 58), (1, .int l1), (2, .int l2)] [.int (m1.1 66 l1.toNatClampNeg)] m1 Q
        refine y_headS (l2 := [(0, .ref 58), (1, .int l1), (2, .int l2), (4, .int (m1.1 66 l1.toNatClampNeg))]) [1, 2, 3, 0] [0, 1, 2, 4] [4, 0, 1, 2] rfl rfl (by decide) rfl (by decide) ?_
        exact H
      · replace H := H.2 h; clear h
        refine y_st rfl rfl rfl rfl rfl (fun _ _ => rfl) ?_
        refine y_gf rfl rfl rfl rfl rfl ?_
        refine y_st rfl rfl rfl rfl rfl (fun _ _ => rfl) ?_
        show yP (xg xs) (d + 1) 357 284 [(4, .int (m1.1 66 l1.toNatClampNeg)), (0, .ref 58), (1, .int l1), (2, .int l2)] [.int (m1.1 66 l1.toNatClampNeg), .ref 68] m1 Q
        refine y_iald rfl rfl rfl (H.1) ?_
        replace H := H.2
        refine y_st rfl rfl rfl rfl rfl (fun _ _ => rfl) ?_
        show yP (xg xs) (d + 1) 357 290 [(4, .int (m1.1 66 l1.toNatClampNeg)), (0, .ref 58), (1, .int l1), (2, .int l2)] [.int (m1.1 68 ((m1.1 66 l1.toNatClampNeg).toNatClampNeg))] m1 Q
        refine y_headS (l2 := [(0, .ref 58), (1, .int l1), (2, .int l2), (4, .int (m1.1 66 l1.toNatClampNeg))]) [1, 2, 3, 0] [0, 1, 2, 4] [4, 0, 1, 2] rfl rfl (by decide) rfl (by decide) ?_
        exact H
    · replace H := H.2 h; clear h
      refine y_st rfl rfl rfl rfl rfl (fun _ _ => rfl) ?_
      refine y_st rfl rfl rfl rfl rfl (fun _ _ => rfl) ?_
      refine y_st rfl rfl rfl rfl rfl (fun _ _ => rfl) ?_
      refine y_gf rfl rfl rfl rfl rfl ?_
      refine y_st rfl rfl rfl rfl rfl (fun _ _ => rfl) ?_
      show yP (xg xs) (d + 1) 357 129 [(4, .int (1 : Int32)), (0, .ref 58), (1, .int l1), (2, .int l2)] [.int l1, .ref 66] m1 Q
      refine y_iald rfl rfl rfl (H.1) ?_
      replace H := H.2
      refine y_st rfl rfl rfl rfl rfl (fun _ _ => rfl) ?_
      refine y_st rfl rfl rfl rfl rfl (fun _ _ => rfl) ?_
      refine y_gf rfl rfl rfl rfl rfl ?_
      refine y_st rfl rfl rfl rfl rfl (fun _ _ => rfl) ?_
      refine y_st rfl rfl rfl rfl rfl (fun _ _ => rfl) ?_
      refine y_st rfl rfl rfl rfl rfl (fun _ _ => rfl) ?_
      show yP (xg xs) (d + 1) 357 140 [(5, .int (m1.1 66 l1.toNatClampNeg)), (4, .int (1 : Int32)), (0, .ref 58), (1, .int l1), (2, .int l2)] [.int (l2 - (100 : Int32)), .ref 73] m1 Q
      refine y_iald rfl rfl rfl (H.1) ?_
      replace H := H.2
      refine y_st rfl rfl rfl rfl rfl (fun _ _ => rfl) ?_
      show yP (xg xs) (d + 1) 357 143 [(6, .int (m1.1 73 ((l2 - (100 : Int32)).toNatClampNeg))), (5, .int (m1.1 66 l1.toNatClampNeg)), (4, .int (1 : Int32)), (0, .ref 58), (1, .int l1), (2, .int l2)] [] m1 Q
      refine y_headS (l2 := [(0, .ref 58), (1, .int l1), (2, .int l2), (4, .int (1 : Int32)), (5, .int (m1.1 66 l1.toNatClampNeg)), (6, .int (m1.1 73 ((l2 - (100 : Int32)).toNatClampNeg)))]) [3, 4, 5, 2, 1, 0] [0, 1, 2, 4, 5, 6] [6, 5, 4, 0, 1, 2] rfl rfl (by decide) rfl (by decide) ?_
      exact H
  · replace H := H.2 h; clear h
    show yP (xg xs) (d + 1) 357 114 [(0, .ref 58), (1, .int l1), (2, .int l2)] [] m1 Q
    exact y_ret rfl rfl rfl rfl H
set_option maxRecDepth 20000 in
/-- CodeMakerModel.judgeCall from 143 on -/
theorem w357_143 (xs : List Int32) (d : Nat) (l1 : Int32) (l2 : Int32) (l4 : Int32) (l5 : Int32) (l6 : Int32) (m : yM) (Q : Option Value → yM → Prop) (H : (x_in (l2 - (99 : Int32)) 401 = true ∧ (((m.1 73 ((l2 - (99 : Int32)).toNatClampNeg)) ≤ l6 → ((¬ l4 = 0 → yP (xg xs) (d + 1) 357 228 [(0, .ref 58), (1, .int l1), (2, .int l2)] [.int (0 : Int32), .int (26 : Int32), .ref 58] m Q) ∧ (l4 = 0 → yP (xg xs) (d + 1) 357 228 [(0, .ref 58), (1, .int l1), (2, .int l2)] [.int (1 : Int32), .int (26 : Int32), .ref 58] m Q))) ∧ (¬ (m.1 73 ((l2 - (99 : Int32)).toNatClampNeg)) ≤ l6 → (x_in l6 4700 = true ∧ ((¬ (m.1 81 l6.toNatClampNeg) = (1 : Int32) → yP (xg xs) (d + 1) 357 209 [(0, .ref 58), (1, .int l1), (2, .int l2), (4, .int l4), (5, .int l5), (6, .int l6)] [] m Q) ∧ ((m.1 81 l6.toNatClampNeg) = (1 : Int32) → ((l4 = 0 → yP (xg xs) (d + 1) 357 197 [(0, .ref 58), (1, .int l1), (2, .int l2), (5, .int l5), (6, .int l6)] [] m Q) ∧ (¬ l4 = 0 → (x_in l5 20000 = true ∧ (x_in l6 4700 = true ∧ (yC (xg xs) d 343 [.int (m.1 84 l5.toNatClampNeg), .int (m.1 77 l6.toNatClampNeg)] m (fun v1 m1 => ∃ u1, v1 = some (Value.int u1) ∧ ((u1 = 0 → yP (xg xs) (d + 1) 357 197 [(0, .ref 58), (1, .int l1), (2, .int l2), (5, .int l5), (6, .int l6)] [] m1 Q) ∧ (¬ u1 = 0 → yP (xg xs) (d + 1) 357 198 [(0, .ref 58), (1, .int l1), (2, .int l2), (5, .int l5), (6, .int l6)] [.int (1 : Int32)] m1 Q))))))))))))))) : yP (xg xs) (d + 1) 357 143 [(0, .ref 58), (1, .int l1), (2, .int l2), (4, .int l4), (5, .int l5), (6, .int l6)] [] m Q := by
  refine y_st rfl rfl rfl rfl rfl (fun _ _ => rfl) ?_
  refine y_st rfl rfl rfl rfl rfl (fun _ _ => rfl) ?_
  refine y_gf rfl rfl rfl rfl rfl ?_
  refine y_st rfl rfl rfl rfl rfl (fun _ _ => rfl) ?_
  refine y_st rfl rfl rfl rfl rfl (fun _ _ => rfl) ?_
  refine y_st rfl rfl rfl rfl rfl (fun _ _ => rfl) ?_
  show yP (xg xs) (d + 1) 357 153 [(0, .ref 58), (1, .int l1), (2, .int l2), (4, .int l4), (5, .int l5), (6, .int l6)] [.int (l2 - (99 : Int32)), .ref 73, .int l6] m Q
  refine y_iald rfl rfl rfl (H.1) ?_
  replace H := H.2
  show yP (xg xs) (d + 1) 357 154 [(0, .ref 58), (1, .int l1), (2, .int l2), (4, .int l4), (5, .int l5), (6, .int l6)] [.int (m.1 73 ((l2 - (99 : Int32)).toNatClampNeg)), .int l6] m Q
  refine y_ige (t := 215) rfl rfl rfl (fun h => ?_) (fun h => ?_)
  · replace H := H.1 h; clear h
    refine y_st rfl rfl rfl rfl rfl (fun _ _ => rfl) ?_
    refine y_st rfl rfl rfl rfl rfl (fun _ _ => rfl) ?_
    refine y_st rfl rfl rfl rfl rfl (fun _ _ => rfl) ?_
    show yP (xg xs) (d + 1) 357 220 [(0, .ref 58), (1, .int l1), (2, .int l2), (4, .int l4), (5, .int l5), (6, .int l6)] [.int l4, .int (26 : Int32), .ref 58] m Q
    refine y_zne (t := 227) rfl rfl rfl (fun h => ?_) (fun h => ?_)
    · replace H := H.1 h; clear h
      refine y_st rfl rfl rfl rfl rfl (fun _ _ => rfl) ?_
      show yP (xg xs) (d + 1) 357 228 [(0, .ref 58), (1, .int l1), (2, .int l2), (4, .int l4), (5, .int l5), (6, .int l6)] [.int (0 : Int32), .int (26 : Int32), .ref 58] m Q
      refine y_headS (l2 := [(0, .ref 58), (1, .int l1), (2, .int l2)]) [0, 1, 2] [0, 1, 2] [0, 1, 2, 4, 5, 6] rfl rfl (by decide) rfl (by decide) ?_
      exact H
    · replace H := H.2 h; clear h
      refine y_st rfl rfl rfl rfl rfl (fun _ _ => rfl) ?_
      refine y_st rfl rfl rfl rfl rfl (fun _ _ => rfl) ?_
      show yP (xg xs) (d + 1) 357 228 [(0, .ref 58), (1, .int l1), (2, .int l2), (4, .int l4), (5, .int l5), (6, .int l6)] [.int (1 : Int32), .int (26 : Int32), .ref 58] m Q
      refine y_headS (l2 := [(0, .ref 58), (1, .int l1), (2, .int l2)]) [0, 1, 2] [0, 1, 2] [0, 1, 2, 4, 5, 6] rfl rfl (by decide) rfl (by decide) ?_
      exact H
  · replace H := H.2 h; clear h
    refine y_st rfl rfl rfl rfl rfl (fun _ _ => rfl) ?_
    refine y_gf rfl rfl rfl rfl rfl ?_
    refine y_st rfl rfl rfl rfl rfl (fun _ _ => rfl) ?_
    show yP (xg xs) (d + 1) 357 163 [(0, .ref 58), (1, .int l1), (2, .int l2), (4, .int l4), (5, .int l5), (6, .int l6)] [.int l6, .ref 81] m Q
    refine y_iald rfl rfl rfl (H.1) ?_
    replace H := H.2
    refine y_st rfl rfl rfl rfl rfl (fun _ _ => rfl) ?_
    show yP (xg xs) (d + 1) 357 165 [(0, .ref 58), (1, .int l1), (2, .int l2), (4, .int l4), (5, .int l5), (6, .int l6)] [.int (1 : Int32), .int (m.1 81 l6.toNatClampNeg)] m Q
    refine y_ine (t := 209) rfl rfl rfl (fun h => ?_) (fun h => ?_)
    · replace H := H.1 h; clear h
      show yP (xg xs) (d + 1) 357 209 [(0, .ref 58), (1, .int l1), (2, .int l2), (4, .int l4), (5, .int l5), (6, .int l6)] [] m Q
      exact H
    · replace H := H.2 h; clear h
      refine y_st rfl rfl rfl rfl rfl (fun _ _ => rfl) ?_
      show yP (xg xs) (d + 1) 357 170 [(0, .ref 58), (1, .int l1), (2, .int l2), (4, .int l4), (5, .int l5), (6, .int l6)] [.int l4] m Q
      refine y_zeq (t := 197) rfl rfl rfl (fun h => ?_) (fun h => ?_)
      · replace H := H.1 h; clear h
        show yP (xg xs) (d + 1) 357 197 [(0, .ref 58), (1, .int l1), (2, .int l2), (4, .int l4), (5, .int l5), (6, .int l6)] [] m Q
        refine y_headS (l2 := [(0, .ref 58), (1, .int l1), (2, .int l2), (5, .int l5), (6, .int l6)]) [0, 1, 2, 4, 5] [0, 1, 2, 5, 6] [0, 1, 2, 4, 5, 6] rfl rfl (by decide) rfl (by decide) ?_
        exact H
      · replace H := H.2 h; clear h
        refine y_st rfl rfl rfl rfl rfl (fun _ _ => rfl) ?_
        refine y_gf rfl rfl rfl rfl rfl ?_
        refine y_st rfl rfl rfl rfl rfl (fun _ _ => rfl) ?_
        show yP (xg xs) (d + 1) 357 179 [(0, .ref 58), (1, .int l1), (2, .int l2), (4, .int l4), (5, .int l5), (6, .int l6)] [.int l5, .ref 84] m Q
        refine y_iald rfl rfl rfl (H.1) ?_
        replace H := H.2
        refine y_st rfl rfl rfl rfl rfl (fun _ _ => rfl) ?_
        refine y_gf rfl rfl rfl rfl rfl ?_
        refine y_st rfl rfl rfl rfl rfl (fun _ _ => rfl) ?_
        show yP (xg xs) (d + 1) 357 186 [(0, .ref 58), (1, .int l1), (2, .int l2), (4, .int l4), (5, .int l5), (6, .int l6)] [.int l6, .ref 77, .int (m.1 84 l5.toNatClampNeg)] m Q
        refine y_iald rfl rfl rfl (H.1) ?_
        replace H := H.2
        show yP (xg xs) (d + 1) 357 187 [(0, .ref 58), (1, .int l1), (2, .int l2), (4, .int l4), (5, .int l5), (6, .int l6)] [.int (m.1 77 l6.toNatClampNeg), .int (m.1 84 l5.toNatClampNeg)] m Q
        refine y_call rfl rfl rfl rfl rfl (Nat.le_of_ble_eq_true rfl) (Nat.le_of_ble_eq_true rfl) rfl (by decide) H (fun v1 m1 H => ?_)
        obtain ⟨u1, rfl, H⟩ := H
        show yP (xg xs) (d + 1) 357 190 [(0, .ref 58), (1, .int l1), (2, .int l2), (4, .int l4), (5, .int l5), (6, .int l6)] [.int u1] m1 Q
        refine y_zeq (t := 197) rfl rfl rfl (fun h => ?_) (fun h => ?_)
        · replace H := H.1 h; clear h
          show yP (xg xs) (d + 1) 357 197 [(0, .ref 58), (1, .int l1), (2, .int l2), (4, .int l4), (5, .int l5), (6, .int l6)] [] m1 Q
          refine y_headS (l2 := [(0, .ref 58), (1, .int l1), (2, .int l2), (5, .int l5), (6, .int l6)]) [0, 1, 2, 4, 5] [0, 1, 2, 5, 6] [0, 1, 2, 4, 5, 6] rfl rfl (by decide) rfl (by decide) ?_
          exact H
        · replace H := H.2 h; clear h
          refine y_st rfl rfl rfl rfl rfl (fun _ _ => rfl) ?_
          refine y_st rfl rfl rfl rfl rfl (fun _ _ => rfl) ?_
          show yP (xg xs) (d + 1) 357 198 [(0, .ref 58), (1, .int l1), (2, .int l2), (4, .int l4), (5, .int l5), (6, .int l6)] [.int (1 : Int32)] m1 Q
          refine y_headS (l2 := [(0, .ref 58), (1, .int l1), (2, .int l2), (5, .int l5), (6, .int l6)]) [0, 1, 2, 4, 5] [0, 1, 2, 5, 6] [0, 1, 2, 4, 5, 6] rfl rfl (by decide) rfl (by decide) ?_
          exact H
set_option maxRecDepth 20000 in
/-- CodeMakerModel.judgeCall from 197 on -/
theorem w357_197 (xs : List Int32) (d : Nat) (l1 : Int32) (l2 : Int32) (l5 : Int32) (l6 : Int32) (m : yM) (Q : Option Value → yM → Prop) (H : yP (xg xs) (d + 1) 357 198 [(0, .ref 58), (1, .int l1), (2, .int l2), (5, .int l5), (6, .int l6)] [.int (0 : Int32)] m Q) : yP (xg xs) (d + 1) 357 197 [(0, .ref 58), (1, .int l1), (2, .int l2), (5, .int l5), (6, .int l6)] [] m Q := by
  refine y_st rfl rfl rfl rfl rfl (fun _ _ => rfl) ?_
  show yP (xg xs) (d + 1) 357 198 [(0, .ref 58), (1, .int l1), (2, .int l2), (5, .int l5), (6, .int l6)] [.int (0 : Int32)] m Q
  exact H
set_option maxRecDepth 20000 in
/-- CodeMakerModel.judgeCall from 198 on -/
theorem w357_198 (xs : List Int32) (d : Nat) (l1 : Int32) (l2 : Int32) (l5 : Int32) (l6 : Int32) (s0 : Int32) (m : yM) (Q : Option Value → yM → Prop) (H : (x_in l5 20000 = true ∧ yP (xg xs) (d + 1) 357 209 [(0, .ref 58), (1, .int l1), (2, .int l2), (4, .int s0), (5, .int (m.1 68 l5.toNatClampNeg)), (6, .int l6)] [] m Q)) : yP (xg xs) (d + 1) 357 198 [(0, .ref 58), (1, .int l1), (2, .int l2), (5, .int l5), (6, .int l6)] [.int s0] m Q := by
  refine y_st rfl rfl rfl rfl rfl (fun _ _ => rfl) ?_
  refine y_st rfl rfl rfl rfl rfl (fun _ _ => rfl) ?_
  refine y_gf rfl rfl rfl rfl rfl ?_
  refine y_st rfl rfl rfl rfl rfl (fun _ _ => rfl) ?_
  show yP (xg xs) (d + 1) 357 206 [(4, .int s0), (0, .ref 58), (1, .int l1), (2, .int l2), (5, .int l5), (6, .int l6)] [.int l5, .ref 68] m Q
  refine y_iald rfl rfl rfl (H.1) ?_
  replace H := H.2
  refine y_st rfl rfl rfl rfl rfl (fun _ _ => rfl) ?_
  show yP (xg xs) (d + 1) 357 209 [(5, .int (m.1 68 l5.toNatClampNeg)), (4, .int s0), (0, .ref 58), (1, .int l1), (2, .int l2), (6, .int l6)] [] m Q
  refine y_headS (l2 := [(0, .ref 58), (1, .int l1), (2, .int l2), (4, .int s0), (5, .int (m.1 68 l5.toNatClampNeg)), (6, .int l6)]) [2, 3, 4, 1, 0, 5] [0, 1, 2, 4, 5, 6] [5, 4, 0, 1, 2, 6] rfl rfl (by decide) rfl (by decide) ?_
  exact H
set_option maxRecDepth 20000 in
/-- CodeMakerModel.judgeCall from 209 on -/
theorem w357_209 (xs : List Int32) (d : Nat) (l1 : Int32) (l2 : Int32) (l4 : Int32) (l5 : Int32) (l6 : Int32) (m : yM) (Q : Option Value → yM → Prop) (H : yP (xg xs) (d + 1) 357 143 [(0, .ref 58), (1, .int l1), (2, .int l2), (4, .int l4), (5, .int l5), (6, .int (l6 + (1 : Int32)))] [] m Q) : yP (xg xs) (d + 1) 357 209 [(0, .ref 58), (1, .int l1), (2, .int l2), (4, .int l4), (5, .int l5), (6, .int l6)] [] m Q := by
  refine y_st rfl rfl rfl rfl rfl (fun _ _ => rfl) ?_
  refine y_st rfl rfl rfl rfl rfl (fun _ _ => rfl) ?_
  show yP (xg xs) (d + 1) 357 143 [(6, .int (l6 + (1 : Int32))), (0, .ref 58), (1, .int l1), (2, .int l2), (4, .int l4), (5, .int l5)] [] m Q
  refine y_headS (l2 := [(0, .ref 58), (1, .int l1), (2, .int l2), (4, .int l4), (5, .int l5), (6, .int (l6 + (1 : Int32)))]) [1, 2, 3, 4, 5, 0] [0, 1, 2, 4, 5, 6] [6, 0, 1, 2, 4, 5] rfl rfl (by decide) rfl (by decide) ?_
  exact H
set_option maxRecDepth 20000 in
/-- CodeMakerModel.judgeCall from 228 on -/
theorem w357_228 (xs : List Int32) (d : Nat) (l1 : Int32) (l2 : Int32) (s1 : Int32) (s2 : Int32) (m : yM) (Q : Option Value → yM → Prop) (H : (yC (xg xs) d 323 [.ref 58, .int s1, .int s2, .int l1] m (fun v1 m1 => v1 = none ∧ (x_in (l2 - (100 : Int32)) 401 = true ∧ (x_in (m1.1 73 ((l2 - (100 : Int32)).toNatClampNeg)) 4700 = true ∧ (x_in l1 20000 = true ∧ (x_in l1 20000 = true ∧ Q none (y_si (y_si m1 84 l1.toNatClampNeg (m1.1 77 ((m1.1 73 ((l2 - (100 : Int32)).toNatClampNeg)).toNatClampNeg))) 87 l1.toNatClampNeg (vp_nar .boolean (0 : Int32)))))))))) : yP (xg xs) (d + 1) 357 228 [(0, .ref 58), (1, .int l1), (2, .int l2)] [.int s2, .int s1, .ref 58] m Q := by
  refine y_st rfl rfl rfl rfl rfl (fun _ _ => rfl) ?_
  show yP (xg xs) (d + 1) 357 229 [(0, .ref 58), (1, .int l1), (2, .int l2)] [.int l1, .int s2, .int s1, .ref 58] m Q
  refine y_call rfl rfl rfl rfl rfl (Nat.le_of_ble_eq_true rfl) (Nat.le_of_ble_eq_true rfl) rfl (by decide) H (fun v1 m1 H => ?_)
  obtain ⟨rfl, H⟩ := H
  refine y_st rfl rfl rfl rfl rfl (fun _ _ => rfl) ?_
  refine y_gf rfl rfl rfl rfl rfl ?_
  refine y_st rfl rfl rfl rfl rfl (fun _ _ => rfl) ?_
  refine y_st rfl rfl rfl rfl rfl (fun _ _ => rfl) ?_
  refine y_gf rfl rfl rfl rfl rfl ?_
  refine y_st rfl rfl rfl rfl rfl (fun _ _ => rfl) ?_
  refine y_gf rfl rfl rfl rfl rfl ?_
  refine y_st rfl rfl rfl rfl rfl (fun _ _ => rfl) ?_
  refine y_st rfl rfl rfl rfl rfl (fun _ _ => rfl) ?_
  refine y_st rfl rfl rfl rfl rfl (fun _ _ => rfl) ?_
  show yP (xg xs) (d + 1) 357 249 [(0, .ref 58), (1, .int l1), (2, .int l2)] [.int (l2 - (100 : Int32)), .ref 73, .ref 77, .int l1, .ref 84] m1 Q
  refine y_iald rfl rfl rfl (H.1) ?_
  replace H := H.2
  show yP (xg xs) (d + 1) 357 250 [(0, .ref 58), (1, .int l1), (2, .int l2)] [.int (m1.1 73 ((l2 - (100 : Int32)).toNatClampNeg)), .ref 77, .int l1, .ref 84] m1 Q
  refine y_iald rfl rfl rfl (H.1) ?_
  replace H := H.2
  show yP (xg xs) (d + 1) 357 251 [(0, .ref 58), (1, .int l1), (2, .int l2)] [.int (m1.1 77 ((m1.1 73 ((l2 - (100 : Int32)).toNatClampNeg)).toNatClampNeg)), .int l1, .ref 84] m1 Q
  refine y_iast rfl rfl rfl (H.1) ?_
  replace H := H.2
  refine y_st rfl rfl rfl rfl rfl (fun _ _ => rfl) ?_
  refine y_gf rfl rfl rfl rfl rfl ?_
  refine y_st rfl rfl rfl rfl rfl (fun _ _ => rfl) ?_
  refine y_st rfl rfl rfl rfl rfl (fun _ _ => rfl) ?_
  show yP (xg xs) (d + 1) 357 258 [(0, .ref 58), (1, .int l1), (2, .int l2)] [.int (0 : Int32), .int l1, .ref 87] (y_si m1 84 l1.toNatClampNeg (m1.1 77 ((m1.1 73 ((l2 - (100 : Int32)).toNatClampNeg)).toNatClampNeg))) Q
  refine y_zast rfl rfl rfl (H.1) ?_
  replace H := H.2
  show yP (xg xs) (d + 1) 357 259 [(0, .ref 58), (1, .int l1), (2, .int l2)] [] (y_si (y_si m1 84 l1.toNatClampNeg (m1.1 77 ((m1.1 73 ((l2 - (100 : Int32)).toNatClampNeg)).toNatClampNeg))) 87 l1.toNatClampNeg (vp_nar .boolean (0 : Int32))) Q
  exact y_ret rfl rfl rfl rfl H
set_option maxRecDepth 20000 in
/-- CodeMakerModel.judgeCall from 290 on -/
theorem w357_290 (xs : List Int32) (d : Nat) (l1 : Int32) (l2 : Int32) (l4 : Int32) (s0 : Int32) (m : yM) (Q : Option Value → yM → Prop) (H : (x_in l1 20000 = true ∧ (((m.1 69 l1.toNatClampNeg) ≤ (2 : Int32) → yP (xg xs) (d + 1) 357 314 [(0, .ref 58), (1, .int l1), (2, .int l2), (4, .int l4), (5, .int s0)] [.int s0] m Q) ∧ (¬ (m.1 69 l1.toNatClampNeg) ≤ (2 : Int32) → (x_in s0 20000 = true ∧ yP (xg xs) (d + 1) 357 314 [(0, .ref 58), (1, .int l1), (2, .int l2), (4, .int l4), (5, .int s0)] [.int (m.1 68 s0.toNatClampNeg)] m Q))))) : yP (xg xs) (d + 1) 357 290 [(0, .ref 58), (1, .int l1), (2, .int l2), (4, .int l4)] [.int s0] m Q := by
  refine y_st rfl rfl rfl rfl rfl (fun _ _ => rfl) ?_
  refine y_st rfl rfl rfl rfl rfl (fun _ _ => rfl) ?_
  refine y_gf rfl rfl rfl rfl rfl ?_
  refine y_st rfl rfl rfl rfl rfl (fun _ _ => rfl) ?_
  show yP (xg xs) (d + 1) 357 297 [(5, .int s0), (0, .ref 58), (1, .int l1), (2, .int l2), (4, .int l4)] [.int l1, .ref 69] m Q
  refine y_iald rfl rfl rfl (H.1) ?_
  replace H := H.2
  refine y_st rfl rfl rfl rfl rfl (fun _ _ => rfl) ?_
  show yP (xg xs) (d + 1) 357 299 [(5, .int s0), (0, .ref 58), (1, .int l1), (2, .int l2), (4, .int l4)] [.int (2 : Int32), .int (m.1 69 l1.toNatClampNeg)] m Q
  refine y_ile (t := 312) rfl rfl rfl (fun h => ?_) (fun h => ?_)
  · replace H := H.1 h; clear h
    refine y_st rfl rfl rfl rfl rfl (fun _ _ => rfl) ?_
    show yP (xg xs) (d + 1) 357 314 [(5, .int s0), (0, .ref 58), (1, .int l1), (2, .int l2), (4, .int l4)] [.int s0] m Q
    refine y_headS (l2 := [(0, .ref 58), (1, .int l1), (2, .int l2), (4, .int l4), (5, .int s0)]) [1, 2, 3, 4, 0] [0, 1, 2, 4, 5] [5, 0, 1, 2, 4] rfl rfl (by decide) rfl (by decide) ?_
    exact H
  · replace H := H.2 h; clear h
    refine y_st rfl rfl rfl rfl rfl (fun _ _ => rfl) ?_
    refine y_gf rfl rfl rfl rfl rfl ?_
    refine y_st rfl rfl rfl rfl rfl (fun _ _ => rfl) ?_
    show yP (xg xs) (d + 1) 357 308 [(5, .int s0), (0, .ref 58), (1, .int l1), (2, .int l2), (4, .int l4)] [.int s0, .ref 68] m Q
    refine y_iald rfl rfl rfl (H.1) ?_
    replace H := H.2
    refine y_st rfl rfl rfl rfl rfl (fun _ _ => rfl) ?_
    show yP (xg xs) (d + 1) 357 314 [(5, .int s0), (0, .ref 58), (1, .int l1), (2, .int l2), (4, .int l4)] [.int (m.1 68 s0.toNatClampNeg)] m Q
    refine y_headS (l2 := [(0, .ref 58), (1, .int l1), (2, .int l2), (4, .int l4), (5, .int s0)]) [1, 2, 3, 4, 0] [0, 1, 2, 4, 5] [5, 0, 1, 2, 4] rfl rfl (by decide) rfl (by decide) ?_
    exact H
set_option maxRecDepth 20000 in
/-- CodeMakerModel.judgeCall from 314 on -/
theorem w357_314 (xs : List Int32) (d : Nat) (l1 : Int32) (l2 : Int32) (l4 : Int32) (l5 : Int32) (s0 : Int32) (m : yM) (Q : Option Value → yM → Prop) (H : (x_in l4 20000 = true ∧ (((m.1 84 l4.toNatClampNeg) ≤ 0 → yP (xg xs) (d + 1) 357 350 [(0, .ref 58), (1, .int l1), (2, .int l2), (4, .int l4), (5, .int l5), (6, .int s0)] [] m Q) ∧ (¬ (m.1 84 l4.toNatClampNeg) ≤ 0 → (x_in l5 20000 = true ∧ (((m.1 84 l5.toNatClampNeg) ≤ 0 → yP (xg xs) (d + 1) 357 350 [(0, .ref 58), (1, .int l1), (2, .int l2), (4, .int l4), (5, .int l5), (6, .int s0)] [] m Q) ∧ (¬ (m.1 84 l5.toNatClampNeg) ≤ 0 → (x_in s0 20000 = true ∧ (((m.1 84 s0.toNatClampNeg) ≤ 0 → yP (xg xs) (d + 1) 357 350 [(0, .ref 58), (1, .int l1), (2, .int l2), (4, .int l4), (5, .int l5), (6, .int s0)] [] m Q) ∧ (¬ (m.1 84 s0.toNatClampNeg) ≤ 0 → yP (xg xs) (d + 1) 357 351 [(0, .ref 58), (1, .int l1), (2, .int l2), (4, .int l4), (5, .int l5), (6, .int s0)] [.int (1 : Int32)] m Q)))))))))) : yP (xg xs) (d + 1) 357 314 [(0, .ref 58), (1, .int l1), (2, .int l2), (4, .int l4), (5, .int l5)] [.int s0] m Q := by
  refine y_st rfl rfl rfl rfl rfl (fun _ _ => rfl) ?_
  refine y_st rfl rfl rfl rfl rfl (fun _ _ => rfl) ?_
  refine y_gf rfl rfl rfl rfl rfl ?_
  refine y_st rfl rfl rfl rfl rfl (fun _ _ => rfl) ?_
  show yP (xg xs) (d + 1) 357 322 [(6, .int s0), (0, .ref 58), (1, .int l1), (2, .int l2), (4, .int l4), (5, .int l5)] [.int l4, .ref 84] m Q
  refine y_iald rfl rfl rfl (H.1) ?_
  replace H := H.2
  show yP (xg xs) (d + 1) 357 323 [(6, .int s0), (0, .ref 58), (1, .int l1), (2, .int l2), (4, .int l4), (5, .int l5)] [.int (m.1 84 l4.toNatClampNeg)] m Q
  refine y_zle (t := 350) rfl rfl rfl (fun h => ?_) (fun h => ?_)
  · replace H := H.1 h; clear h
    show yP (xg xs) (d + 1) 357 350 [(6, .int s0), (0, .ref 58), (1, .int l1), (2, .int l2), (4, .int l4), (5, .int l5)] [] m Q
    refine y_headS (l2 := [(0, .ref 58), (1, .int l1), (2, .int l2), (4, .int l4), (5, .int l5), (6, .int s0)]) [1, 2, 3, 4, 5, 0] [0, 1, 2, 4, 5, 6] [6, 0, 1, 2, 4, 5] rfl rfl (by decide) rfl (by decide) ?_
    exact H
  · replace H := H.2 h; clear h
    refine y_st rfl rfl rfl rfl rfl (fun _ _ => rfl) ?_
    refine y_gf rfl rfl rfl rfl rfl ?_
    refine y_st rfl rfl rfl rfl rfl (fun _ _ => rfl) ?_
    show yP (xg xs) (d + 1) 357 332 [(6, .int s0), (0, .ref 58), (1, .int l1), (2, .int l2), (4, .int l4), (5, .int l5)] [.int l5, .ref 84] m Q
    refine y_iald rfl rfl rfl (H.1) ?_
    replace H := H.2
    show yP (xg xs) (d + 1) 357 333 [(6, .int s0), (0, .ref 58), (1, .int l1), (2, .int l2), (4, .int l4), (5, .int l5)] [.int (m.1 84 l5.toNatClampNeg)] m Q
    refine y_zle (t := 350) rfl rfl rfl (fun h => ?_) (fun h => ?_)
    · replace H := H.1 h; clear h
      show yP (xg xs) (d + 1) 357 350 [(6, .int s0), (0, .ref 58), (1, .int l1), (2, .int l2), (4, .int l4), (5, .int l5)] [] m Q
      refine y_headS (l2 := [(0, .ref 58), (1, .int l1), (2, .int l2), (4, .int l4), (5, .int l5), (6, .int s0)]) [1, 2, 3, 4, 5, 0] [0, 1, 2, 4, 5, 6] [6, 0, 1, 2, 4, 5] rfl rfl (by decide) rfl (by decide) ?_
      exact H
    · replace H := H.2 h; clear h
      refine y_st rfl rfl rfl rfl rfl (fun _ _ => rfl) ?_
      refine y_gf rfl rfl rfl rfl rfl ?_
      refine y_st rfl rfl rfl rfl rfl (fun _ _ => rfl) ?_
      show yP (xg xs) (d + 1) 357 342 [(6, .int s0), (0, .ref 58), (1, .int l1), (2, .int l2), (4, .int l4), (5, .int l5)] [.int s0, .ref 84] m Q
      refine y_iald rfl rfl rfl (H.1) ?_
      replace H := H.2
      show yP (xg xs) (d + 1) 357 343 [(6, .int s0), (0, .ref 58), (1, .int l1), (2, .int l2), (4, .int l4), (5, .int l5)] [.int (m.1 84 s0.toNatClampNeg)] m Q
      refine y_zle (t := 350) rfl rfl rfl (fun h => ?_) (fun h => ?_)
      · replace H := H.1 h; clear h
        show yP (xg xs) (d + 1) 357 350 [(6, .int s0), (0, .ref 58), (1, .int l1), (2, .int l2), (4, .int l4), (5, .int l5)] [] m Q
        refine y_headS (l2 := [(0, .ref 58), (1, .int l1), (2, .int l2), (4, .int l4), (5, .int l5), (6, .int s0)]) [1, 2, 3, 4, 5, 0] [0, 1, 2, 4, 5, 6] [6, 0, 1, 2, 4, 5] rfl rfl (by decide) rfl (by decide) ?_
        exact H
      · replace H := H.2 h; clear h
        refine y_st rfl rfl rfl rfl rfl (fun _ _ => rfl) ?_
        refine y_st rfl rfl rfl rfl rfl (fun _ _ => rfl) ?_
        show yP (xg xs) (d + 1) 357 351 [(6, .int s0), (0, .ref 58), (1, .int l1), (2, .int l2), (4, .int l4), (5, .int l5)] [.int (1 : Int32)] m Q
        refine y_headS (l2 := [(0, .ref 58), (1, .int l1), (2, .int l2), (4, .int l4), (5, .int l5), (6, .int s0)]) [1, 2, 3, 4, 5, 0] [0, 1, 2, 4, 5, 6] [6, 0, 1, 2, 4, 5] rfl rfl (by decide) rfl (by decide) ?_
        exact H
set_option maxRecDepth 20000 in
/-- CodeMakerModel.judgeCall from 350 on -/
theorem w357_350 (xs : List Int32) (d : Nat) (l1 : Int32) (l2 : Int32) (l4 : Int32) (l5 : Int32) (l6 : Int32) (m : yM) (Q : Option Value → yM → Prop) (H : yP (xg xs) (d + 1) 357 351 [(0, .ref 58), (1, .int l1), (2, .int l2), (4, .int l4), (5, .int l5), (6, .int l6)] [.int (0 : Int32)] m Q) : yP (xg xs) (d + 1) 357 350 [(0, .ref 58), (1, .int l1), (2, .int l2), (4, .int l4), (5, .int l5), (6, .int l6)] [] m Q := by
  refine y_st rfl rfl rfl rfl rfl (fun _ _ => rfl) ?_
  show yP (xg xs) (d + 1) 357 351 [(0, .ref 58), (1, .int l1), (2, .int l2), (4, .int l4), (5, .int l5), (6, .int l6)] [.int (0 : Int32)] m Q
  exact H
set_option maxRecDepth 20000 in
/-- CodeMakerModel.judgeCall from 351 on -/
theorem w357_351 (xs : List Int32) (d : Nat) (l1 : Int32) (l2 : Int32) (l4 : Int32) (l5 : Int32) (l6 : Int32) (s0 : Int32) (m : yM) (Q : Option Value → yM → Prop) (H : (x_in l5 20000 = true ∧ ((¬ (m.1 84 l5.toNatClampNeg) = 0 → yP (xg xs) (d + 1) 357 373 [(0, .ref 58), (1, .int l1), (2, .int l2), (4, .int l4), (5, .int l5), (6, .int l6), (7, .int s0)] [] m Q) ∧ ((m.1 84 l5.toNatClampNeg) = 0 → (x_in l6 20000 = true ∧ (((m.1 84 l6.toNatClampNeg) = 0 → yP (xg xs) (d + 1) 357 393 [(0, .ref 58), (1, .int l1), (2, .int l2), (4, .int l4), (5, .int l5), (6, .int l6), (7, .int s0)] [] m Q) ∧ (¬ (m.1 84 l6.toNatClampNeg) = 0 → yP (xg xs) (d + 1) 357 373 [(0, .ref 58), (1, .int l1), (2, .int l2), (4, .int l4), (5, .int l5), (6, .int l6), (7, .int s0)] [] m Q))))))) : yP (xg xs) (d + 1) 357 351 [(0, .ref 58), (1, .int l1), (2, .int l2), (4, .int l4), (5, .int l5), (6, .int l6)] [.int s0] m Q := by
  refine y_st rfl rfl rfl rfl rfl (fun _ _ => rfl) ?_
  refine y_st rfl rfl rfl rfl rfl (fun _ _ => rfl) ?_
  refine y_gf rfl rfl rfl rfl rfl ?_
  refine y_st rfl rfl rfl rfl rfl (fun _ _ => rfl) ?_
  show yP (xg xs) (d + 1) 357 359 [(7, .int s0), (0, .ref 58), (1, .int l1), (2, .int l2), (4, .int l4), (5, .int l5), (6, .int l6)] [.int l5, .ref 84] m Q
  refine y_iald rfl rfl rfl (H.1) ?_
  replace H := H.2
  show yP (xg xs) (d + 1) 357 360 [(7, .int s0), (0, .ref 58), (1, .int l1), (2, .int l2), (4, .int l4), (5, .int l5), (6, .int l6)] [.int (m.1 84 l5.toNatClampNeg)] m Q
  refine y_zne (t := 373) rfl rfl rfl (fun h => ?_) (fun h => ?_)
  · replace H := H.1 h; clear h
    show yP (xg xs) (d + 1) 357 373 [(7, .int s0), (0, .ref 58), (1, .int l1), (2, .int l2), (4, .int l4), (5, .int l5), (6, .int l6)] [] m Q
    refine y_headS (l2 := [(0, .ref 58), (1, .int l1), (2, .int l2), (4, .int l4), (5, .int l5), (6, .int l6), (7, .int s0)]) [1, 2, 3, 4, 5, 6, 0] [0, 1, 2, 4, 5, 6, 7] [7, 0, 1, 2, 4, 5, 6] rfl rfl (by decide) rfl (by decide) ?_
    exact H
  · replace H := H.2 h; clear h
    refine y_st rfl rfl rfl rfl rfl (fun _ _ => rfl) ?_
    refine y_gf rfl rfl rfl rfl rfl ?_
    refine y_st rfl rfl rfl rfl rfl (fun _ _ => rfl) ?_
    show yP (xg xs) (d + 1) 357 369 [(7, .int s0), (0, .ref 58), (1, .int l1), (2, .int l2), (4, .int l4), (5, .int l5), (6, .int l6)] [.int l6, .ref 84] m Q
    refine y_iald rfl rfl rfl (H.1) ?_
    replace H := H.2
    show yP (xg xs) (d + 1) 357 370 [(7, .int s0), (0, .ref 58), (1, .int l1), (2, .int l2), (4, .int l4), (5, .int l5), (6, .int l6)] [.int (m.1 84 l6.toNatClampNeg)] m Q
    refine y_zeq (t := 393) rfl rfl rfl (fun h => ?_) (fun h => ?_)
    · replace H := H.1 h; clear h
      show yP (xg xs) (d + 1) 357 393 [(7, .int s0), (0, .ref 58), (1, .int l1), (2, .int l2), (4, .int l4), (5, .int l5), (6, .int l6)] [] m Q
      refine y_headS (l2 := [(0, .ref 58), (1, .int l1), (2, .int l2), (4, .int l4), (5, .int l5), (6, .int l6), (7, .int s0)]) [1, 2, 3, 4, 5, 6, 0] [0, 1, 2, 4, 5, 6, 7] [7, 0, 1, 2, 4, 5, 6] rfl rfl (by decide) rfl (by decide) ?_
      exact H
    · replace H := H.2 h; clear h
      show yP (xg xs) (d + 1) 357 373 [(7, .int s0), (0, .ref 58), (1, .int l1), (2, .int l2), (4, .int l4), (5, .int l5), (6, .int l6)] [] m Q
      refine y_headS (l2 := [(0, .ref 58), (1, .int l1), (2, .int l2), (4, .int l4), (5, .int l5), (6, .int l6), (7, .int s0)]) [1, 2, 3, 4, 5, 6, 0] [0, 1, 2, 4, 5, 6, 7] [7, 0, 1, 2, 4, 5, 6] rfl rfl (by decide) rfl (by decide) ?_
      exact H
set_option maxRecDepth 20000 in
/-- CodeMakerModel.judgeCall from 373 on -/
theorem w357_373 (xs : List Int32) (d : Nat) (l1 : Int32) (l2 : Int32) (l4 : Int32) (l5 : Int32) (l6 : Int32) (l7 : Int32) (m : yM) (Q : Option Value → yM → Prop) (H : (x_in l5 20000 = true ∧ (((m.1 84 l5.toNatClampNeg) ≤ 0 → yP (xg xs) (d + 1) 357 397 [(0, .ref 58), (1, .int l1), (2, .int l2), (4, .int l4), (5, .int l5), (6, .int l6), (7, .int l7)] [] m Q) ∧ (¬ (m.1 84 l5.toNatClampNeg) ≤ 0 → (x_in l6 20000 = true ∧ (((m.1 84 l6.toNatClampNeg) ≤ 0 → yP (xg xs) (d + 1) 357 397 [(0, .ref 58), (1, .int l1), (2, .int l2), (4, .int l4), (5, .int l5), (6, .int l6), (7, .int l7)] [] m Q) ∧ (¬ (m.1 84 l6.toNatClampNeg) ≤ 0 → yP (xg xs) (d + 1) 357 393 [(0, .ref 58), (1, .int l1), (2, .int l2), (4, .int l4), (5, .int l5), (6, .int l6), (7, .int l7)] [] m Q))))))) : yP (xg xs) (d + 1) 357 373 [(0, .ref 58), (1, .int l1), (2, .int l2), (4, .int l4), (5, .int l5), (6, .int l6), (7, .int l7)] [] m Q := by
  refine y_st rfl rfl rfl rfl rfl (fun _ _ => rfl) ?_
  refine y_gf rfl rfl rfl rfl rfl ?_
  refine y_st rfl rfl rfl rfl rfl (fun _ _ => rfl) ?_
  show yP (xg xs) (d + 1) 357 379 [(0, .ref 58), (1, .int l1), (2, .int l2), (4, .int l4), (5, .int l5), (6, .int l6), (7, .int l7)] [.int l5, .ref 84] m Q
  refine y_iald rfl rfl rfl (H.1) ?_
  replace H := H.2
  show yP (xg xs) (d + 1) 357 380 [(0, .ref 58), (1, .int l1), (2, .int l2), (4, .int l4), (5, .int l5), (6, .int l6), (7, .int l7)] [.int (m.1 84 l5.toNatClampNeg)] m Q
  refine y_zle (t := 397) rfl rfl rfl (fun h => ?_) (fun h => ?_)
  · replace H := H.1 h; clear h
    show yP (xg xs) (d + 1) 357 397 [(0, .ref 58), (1, .int l1), (2, .int l2), (4, .int l4), (5, .int l5), (6, .int l6), (7, .int l7)] [] m Q
    exact H
  · replace H := H.2 h; clear h
    refine y_st rfl rfl rfl rfl rfl (fun _ _ => rfl) ?_
    refine y_gf rfl rfl rfl rfl rfl ?_
    refine y_st rfl rfl rfl rfl rfl (fun _ _ => rfl) ?_
    show yP (xg xs) (d + 1) 357 389 [(0, .ref 58), (1, .int l1), (2, .int l2), (4, .int l4), (5, .int l5), (6, .int l6), (7, .int l7)] [.int l6, .ref 84] m Q
    refine y_iald rfl rfl rfl (H.1) ?_
    replace H := H.2
    show yP (xg xs) (d + 1) 357 390 [(0, .ref 58), (1, .int l1), (2, .int l2), (4, .int l4), (5, .int l5), (6, .int l6), (7, .int l7)] [.int (m.1 84 l6.toNatClampNeg)] m Q
    refine y_zle (t := 397) rfl rfl rfl (fun h => ?_) (fun h => ?_)
    · replace H := H.1 h; clear h
      show yP (xg xs) (d + 1) 357 397 [(0, .ref 58), (1, .int l1), (2, .int l2), (4, .int l4), (5, .int l5), (6, .int l6), (7, .int l7)] [] m Q
      exact H
    · replace H := H.2 h; clear h
      show yP (xg xs) (d + 1) 357 393 [(0, .ref 58), (1, .int l1), (2, .int l2), (4, .int l4), (5, .int l5), (6, .int l6), (7, .int l7)] [] m Q
      exact H
set_option maxRecDepth 20000 in
/-- CodeMakerModel.judgeCall from 393 on -/
theorem w357_393 (xs : List Int32) (d : Nat) (l1 : Int32) (l2 : Int32) (l4 : Int32) (l5 : Int32) (l6 : Int32) (l7 : Int32) (m : yM) (Q : Option Value → yM → Prop) (H : yP (xg xs) (d + 1) 357 398 [(0, .ref 58), (1, .int l1), (2, .int l2), (4, .int l4), (5, .int l5), (6, .int l6), (7, .int l7)] [.int (1 : Int32)] m Q) : yP (xg xs) (d + 1) 357 393 [(0, .ref 58), (1, .int l1), (2, .int l2), (4, .int l4), (5, .int l5), (6, .int l6), (7, .int l7)] [] m Q := by
  refine y_st rfl rfl rfl rfl rfl (fun _ _ => rfl) ?_
  refine y_st rfl rfl rfl rfl rfl (fun _ _ => rfl) ?_
  show yP (xg xs) (d + 1) 357 398 [(0, .ref 58), (1, .int l1), (2, .int l2), (4, .int l4), (5, .int l5), (6, .int l6), (7, .int l7)] [.int (1 : Int32)] m Q
  exact H
set_option maxRecDepth 20000 in
/-- CodeMakerModel.judgeCall from 397 on -/
theorem w357_397 (xs : List Int32) (d : Nat) (l1 : Int32) (l2 : Int32) (l4 : Int32) (l5 : Int32) (l6 : Int32) (l7 : Int32) (m : yM) (Q : Option Value → yM → Prop) (H : yP (xg xs) (d + 1) 357 398 [(0, .ref 58), (1, .int l1), (2, .int l2), (4, .int l4), (5, .int l5), (6, .int l6), (7, .int l7)] [.int (0 : Int32)] m Q) : yP (xg xs) (d + 1) 357 397 [(0, .ref 58), (1, .int l1), (2, .int l2), (4, .int l4), (5, .int l5), (6, .int l6), (7, .int l7)] [] m Q := by
  refine y_st rfl rfl rfl rfl rfl (fun _ _ => rfl) ?_
  show yP (xg xs) (d + 1) 357 398 [(0, .ref 58), (1, .int l1), (2, .int l2), (4, .int l4), (5, .int l5), (6, .int l6), (7, .int l7)] [.int (0 : Int32)] m Q
  exact H
set_option maxRecDepth 20000 in
/-- CodeMakerModel.judgeCall from 398 on -/
theorem w357_398 (xs : List Int32) (d : Nat) (l1 : Int32) (l2 : Int32) (l4 : Int32) (l5 : Int32) (l6 : Int32) (l7 : Int32) (s0 : Int32) (m : yM) (Q : Option Value → yM → Prop) (H : ((¬ l2 = (4 : Int32) → ((l2 < (7 : Int32) → yP (xg xs) (d + 1) 357 443 [(0, .ref 58), (1, .int l1), (2, .int l2), (4, .int l4), (5, .int l5), (6, .int l6), (7, .int l7)] [.int (26 : Int32), .ref 58] m Q) ∧ (¬ l2 < (7 : Int32) → ((¬ l2 = (9 : Int32) → yP (xg xs) (d + 1) 357 457 [(0, .ref 58), (1, .int l1), (2, .int l2), (4, .int l4), (5, .int l5), (6, .int l6)] [.int (0 : Int32), .int (26 : Int32), .ref 58] m Q) ∧ (l2 = (9 : Int32) → yP (xg xs) (d + 1) 357 443 [(0, .ref 58), (1, .int l1), (2, .int l2), (4, .int l4), (5, .int l5), (6, .int l6), (7, .int l7)] [.int (26 : Int32), .ref 58] m Q))))) ∧ (l2 = (4 : Int32) → (x_in l4 20000 = true ∧ ((¬ (m.1 84 l4.toNatClampNeg) = 0 → yP (xg xs) (d + 1) 357 423 [(0, .ref 58), (1, .int l1), (2, .int l2), (4, .int l4), (5, .int l5), (6, .int l6)] [.int (26 : Int32), .ref 58] m Q) ∧ ((m.1 84 l4.toNatClampNeg) = 0 → ((¬ s0 = 0 → yP (xg xs) (d + 1) 357 457 [(0, .ref 58), (1, .int l1), (2, .int l2), (4, .int l4), (5, .int l5), (6, .int l6)] [.int (0 : Int32), .int (26 : Int32), .ref 58] m Q) ∧ (s0 = 0 → yP (xg xs) (d + 1) 357 423 [(0, .ref 58), (1, .int l1), (2, .int l2), (4, .int l4), (5, .int l5), (6, .int l6)] [.int (26 : Int32), .ref 58] m Q)))))))) : yP (xg xs) (d + 1) 357 398 [(0, .ref 58), (1, .int l1), (2, .int l2), (4, .int l4), (5, .int l5), (6, .int l6), (7, .int l7)] [.int s0] m Q := by
  refine y_st rfl rfl rfl rfl rfl (fun _ _ => rfl) ?_
  refine y_st rfl rfl rfl rfl rfl (fun _ _ => rfl) ?_
  refine y_st rfl rfl rfl rfl rfl (fun _ _ => rfl) ?_
  refine y_st rfl rfl rfl rfl rfl (fun _ _ => rfl) ?_
  refine y_st rfl rfl rfl rfl rfl (fun _ _ => rfl) ?_
  show yP (xg xs) (d + 1) 357 405 [(8, .int s0), (0, .ref 58), (1, .int l1), (2, .int l2), (4, .int l4), (5, .int l5), (6, .int l6), (7, .int l7)] [.int (4 : Int32), .int l2, .int (26 : Int32), .ref 58] m Q
  refine y_ine (t := 431) rfl rfl rfl (fun h => ?_) (fun h => ?_)
  · replace H := H.1 h; clear h
    refine y_st rfl rfl rfl rfl rfl (fun _ _ => rfl) ?_
    refine y_st rfl rfl rfl rfl rfl (fun _ _ => rfl) ?_
    show yP (xg xs) (d + 1) 357 434 [(8, .int s0), (0, .ref 58), (1, .int l1), (2, .int l2), (4, .int l4), (5, .int l5), (6, .int l6), (7, .int l7)] [.int (7 : Int32), .int l2, .int (26 : Int32), .ref 58] m Q
    refine y_ilt (t := 443) rfl rfl rfl (fun h => ?_) (fun h => ?_)
    · replace H := H.1 h; clear h
      show yP (xg xs) (d + 1) 357 443 [(8, .int s0), (0, .ref 58), (1, .int l1), (2, .int l2), (4, .int l4), (5, .int l5), (6, .int l6), (7, .int l7)] [.int (26 : Int32), .ref 58] m Q
      refine y_headS (l2 := [(0, .ref 58), (1, .int l1), (2, .int l2), (4, .int l4), (5, .int l5), (6, .int l6), (7, .int l7)]) [1, 2, 3, 4, 5, 6, 7] [0, 1, 2, 4, 5, 6, 7] [8, 0, 1, 2, 4, 5, 6, 7] rfl rfl (by decide) rfl (by decide) ?_
      exact H
    · replace H := H.2 h; clear h
      refine y_st rfl rfl rfl rfl rfl (fun _ _ => rfl) ?_
      refine y_st rfl rfl rfl rfl rfl (fun _ _ => rfl) ?_
      show yP (xg xs) (d + 1) 357 440 [(8, .int s0), (0, .ref 58), (1, .int l1), (2, .int l2), (4, .int l4), (5, .int l5), (6, .int l6), (7, .int l7)] [.int (9 : Int32), .int l2, .int (26 : Int32), .ref 58] m Q
      refine y_ine (t := 456) rfl rfl rfl (fun h => ?_) (fun h => ?_)
      · replace H := H.1 h; clear h
        refine y_st rfl rfl rfl rfl rfl (fun _ _ => rfl) ?_
        show yP (xg xs) (d + 1) 357 457 [(8, .int s0), (0, .ref 58), (1, .int l1), (2, .int l2), (4, .int l4), (5, .int l5), (6, .int l6), (7, .int l7)] [.int (0 : Int32), .int (26 : Int32), .ref 58] m Q
        refine y_headS (l2 := [(0, .ref 58), (1, .int l1), (2, .int l2), (4, .int l4), (5, .int l5), (6, .int l6)]) [1, 2, 3, 4, 5, 6] [0, 1, 2, 4, 5, 6] [8, 0, 1, 2, 4, 5, 6, 7] rfl rfl (by decide) rfl (by decide) ?_
        exact H
      · replace H := H.2 h; clear h
        show yP (xg xs) (d + 1) 357 443 [(8, .int s0), (0, .ref 58), (1, .int l1), (2, .int l2), (4, .int l4), (5, .int l5), (6, .int l6), (7, .int l7)] [.int (26 : Int32), .ref 58] m Q
        refine y_headS (l2 := [(0, .ref 58), (1, .int l1), (2, .int l2), (4, .int l4), (5, .int l5), (6, .int l6), (7, .int l7)]) [1, 2, 3, 4, 5, 6, 7] [0, 1, 2, 4, 5, 6, 7] [8, 0, 1, 2, 4, 5, 6, 7] rfl rfl (by decide) rfl (by decide) ?_
        exact H
  · replace H := H.2 h; clear h
    refine y_st rfl rfl rfl rfl rfl (fun _ _ => rfl) ?_
    refine y_gf rfl rfl rfl rfl rfl ?_
    refine y_st rfl rfl rfl rfl rfl (fun _ _ => rfl) ?_
    show yP (xg xs) (d + 1) 357 414 [(8, .int s0), (0, .ref 58), (1, .int l1), (2, .int l2), (4, .int l4), (5, .int l5), (6, .int l6), (7, .int l7)] [.int l4, .ref 84, .int (26 : Int32), .ref 58] m Q
    refine y_iald rfl rfl rfl (H.1) ?_
    replace H := H.2
    show yP (xg xs) (d + 1) 357 415 [(8, .int s0), (0, .ref 58), (1, .int l1), (2, .int l2), (4, .int l4), (5, .int l5), (6, .int l6), (7, .int l7)] [.int (m.1 84 l4.toNatClampNeg), .int (26 : Int32), .ref 58] m Q
    refine y_zne (t := 423) rfl rfl rfl (fun h => ?_) (fun h => ?_)
    · replace H := H.1 h; clear h
      show yP (xg xs) (d + 1) 357 423 [(8, .int s0), (0, .ref 58), (1, .int l1), (2, .int l2), (4, .int l4), (5, .int l5), (6, .int l6), (7, .int l7)] [.int (26 : Int32), .ref 58] m Q
      refine y_headS (l2 := [(0, .ref 58), (1, .int l1), (2, .int l2), (4, .int l4), (5, .int l5), (6, .int l6)]) [1, 2, 3, 4, 5, 6] [0, 1, 2, 4, 5, 6] [8, 0, 1, 2, 4, 5, 6, 7] rfl rfl (by decide) rfl (by decide) ?_
      exact H
    · replace H := H.2 h; clear h
      refine y_st rfl rfl rfl rfl rfl (fun _ _ => rfl) ?_
      show yP (xg xs) (d + 1) 357 420 [(8, .int s0), (0, .ref 58), (1, .int l1), (2, .int l2), (4, .int l4), (5, .int l5), (6, .int l6), (7, .int l7)] [.int s0, .int (26 : Int32), .ref 58] m Q
      refine y_zne (t := 427) rfl rfl rfl (fun h => ?_) (fun h => ?_)
      · replace H := H.1 h; clear h
        refine y_st rfl rfl rfl rfl rfl (fun _ _ => rfl) ?_
        refine y_st rfl rfl rfl rfl rfl (fun _ _ => rfl) ?_
        show yP (xg xs) (d + 1) 357 457 [(8, .int s0), (0, .ref 58), (1, .int l1), (2, .int l2), (4, .int l4), (5, .int l5), (6, .int l6), (7, .int l7)] [.int (0 : Int32), .int (26 : Int32), .ref 58] m Q
        refine y_headS (l2 := [(0, .ref 58), (1, .int l1), (2, .int l2), (4, .int l4), (5, .int l5), (6, .int l6)]) [1, 2, 3, 4, 5, 6] [0, 1, 2, 4, 5, 6] [8, 0, 1, 2, 4, 5, 6, 7] rfl rfl (by decide) rfl (by decide) ?_
        exact H
      · replace H := H.2 h; clear h
        show yP (xg xs) (d + 1) 357 423 [(8, .int s0), (0, .ref 58), (1, .int l1), (2, .int l2), (4, .int l4), (5, .int l5), (6, .int l6), (7, .int l7)] [.int (26 : Int32), .ref 58] m Q
        refine y_headS (l2 := [(0, .ref 58), (1, .int l1), (2, .int l2), (4, .int l4), (5, .int l5), (6, .int l6)]) [1, 2, 3, 4, 5, 6] [0, 1, 2, 4, 5, 6] [8, 0, 1, 2, 4, 5, 6, 7] rfl rfl (by decide) rfl (by decide) ?_
        exact H
set_option maxRecDepth 20000 in
/-- CodeMakerModel.judgeCall from 423 on -/
theorem w357_423 (xs : List Int32) (d : Nat) (l1 : Int32) (l2 : Int32) (l4 : Int32) (l5 : Int32) (l6 : Int32) (s1 : Int32) (m : yM) (Q : Option Value → yM → Prop) (H : yP (xg xs) (d + 1) 357 457 [(0, .ref 58), (1, .int l1), (2, .int l2), (4, .int l4), (5, .int l5), (6, .int l6)] [.int (1 : Int32), .int s1, .ref 58] m Q) : yP (xg xs) (d + 1) 357 423 [(0, .ref 58), (1, .int l1), (2, .int l2), (4, .int l4), (5, .int l5), (6, .int l6)] [.int s1, .ref 58] m Q := by
  refine y_st rfl rfl rfl rfl rfl (fun _ _ => rfl) ?_
  refine y_st rfl rfl rfl rfl rfl (fun _ _ => rfl) ?_
  show yP (xg xs) (d + 1) 357 457 [(0, .ref 58), (1, .int l1), (2, .int l2), (4, .int l4), (5, .int l5), (6, .int l6)] [.int (1 : Int32), .int s1, .ref 58] m Q
  exact H
set_option maxRecDepth 20000 in
/-- CodeMakerModel.judgeCall from 443 on -/
theorem w357_443 (xs : List Int32) (d : Nat) (l1 : Int32) (l2 : Int32) (l4 : Int32) (l5 : Int32) (l6 : Int32) (l7 : Int32) (s1 : Int32) (m : yM) (Q : Option Value → yM → Prop) (H : ((¬ l7 = 0 → yP (xg xs) (d + 1) 357 457 [(0, .ref 58), (1, .int l1), (2, .int l2), (4, .int l4), (5, .int l5), (6, .int l6)] [.int (0 : Int32), .int s1, .ref 58] m Q) ∧ (l7 = 0 → yP (xg xs) (d + 1) 357 457 [(0, .ref 58), (1, .int l1), (2, .int l2), (4, .int l4), (5, .int l5), (6, .int l6)] [.int (1 : Int32), .int s1, .ref 58] m Q))) : yP (xg xs) (d + 1) 357 443 [(0, .ref 58), (1, .int l1), (2, .int l2), (4, .int l4), (5, .int l5), (6, .int l6), (7, .int l7)] [.int s1, .ref 58] m Q := by
  refine y_st rfl rfl rfl rfl rfl (fun _ _ => rfl) ?_
  show yP (xg xs) (d + 1) 357 445 [(0, .ref 58), (1, .int l1), (2, .int l2), (4, .int l4), (5, .int l5), (6, .int l6), (7, .int l7)] [.int l7, .int s1, .ref 58] m Q
  refine y_zne (t := 452) rfl rfl rfl (fun h => ?_) (fun h => ?_)
  · replace H := H.1 h; clear h
    refine y_st rfl rfl rfl rfl rfl (fun _ _ => rfl) ?_
    refine y_st rfl rfl rfl rfl rfl (fun _ _ => rfl) ?_
    show yP (xg xs) (d + 1) 357 457 [(0, .ref 58), (1, .int l1), (2, .int l2), (4, .int l4), (5, .int l5), (6, .int l6), (7, .int l7)] [.int (0 : Int32), .int s1, .ref 58] m Q
    refine y_headS (l2 := [(0, .ref 58), (1, .int l1), (2, .int l2), (4, .int l4), (5, .int l5), (6, .int l6)]) [0, 1, 2, 3, 4, 5] [0, 1, 2, 4, 5, 6] [0, 1, 2, 4, 5, 6, 7] rfl rfl (by decide) rfl (by decide) ?_
    exact H
  · replace H := H.2 h; clear h
    refine y_st rfl rfl rfl rfl rfl (fun _ _ => rfl) ?_
    refine y_st rfl rfl rfl rfl rfl (fun _ _ => rfl) ?_
    show yP (xg xs) (d + 1) 357 457 [(0, .ref 58), (1, .int l1), (2, .int l2), (4, .int l4), (5, .int l5), (6, .int l6), (7, .int l7)] [.int (1 : Int32), .int s1, .ref 58] m Q
    refine y_headS (l2 := [(0, .ref 58), (1, .int l1), (2, .int l2), (4, .int l4), (5, .int l5), (6, .int l6)]) [0, 1, 2, 3, 4, 5] [0, 1, 2, 4, 5, 6] [0, 1, 2, 4, 5, 6, 7] rfl rfl (by decide) rfl (by decide) ?_
    exact H
set_option maxRecDepth 20000 in
/-- CodeMakerModel.judgeCall from 457 on -/
theorem w357_457 (xs : List Int32) (d : Nat) (l1 : Int32) (l2 : Int32) (l4 : Int32) (l5 : Int32) (l6 : Int32) (s1 : Int32) (s2 : Int32) (m : yM) (Q : Option Value → yM → Prop) (H : (yC (xg xs) d 323 [.ref 58, .int s1, .int s2, .int l1] m (fun v1 m1 => v1 = none ∧ ((¬ l2 = (4 : Int32) → ((l2 = (5 : Int32) → yP (xg xs) (d + 1) 357 516 [(0, .ref 58), (1, .int l1), (2, .int l2), (4, .int l4), (5, .int l5), (6, .int l6)] [.int l1, .ref 84] m1 Q) ∧ (¬ l2 = (5 : Int32) → ((¬ l2 = (6 : Int32) → ((¬ l2 = (7 : Int32) → ((¬ l2 = (8 : Int32) → ((¬ l2 = (9 : Int32) → (x_in l4 20000 = true ∧ (x_in l5 20000 = true ∧ (yC (xg xs) d 359 [.int (m1.1 84 l4.toNatClampNeg), .int (m1.1 84 l5.toNatClampNeg)] m1 (fun v2 m2 => ∃ u2, v2 = some (Value.int u2) ∧ (x_in l6 20000 = true ∧ (yC (xg xs) d 359 [.int u2, .int (m2.1 84 l6.toNatClampNeg)] m2 (fun v3 m3 => ∃ u3, v3 = some (Value.int u3) ∧ yP (xg xs) (d + 1) 357 583 [(0, .ref 58), (1, .int l1), (2, .int l2), (4, .int l4), (5, .int l5), (6, .int l6)] [.int u3, .int l1, .ref 84] m3 Q)))))))) ∧ (l2 = (9 : Int32) → yP (xg xs) (d + 1) 357 583 [(0, .ref 58), (1, .int l1), (2, .int l2), (4, .int l4), (5, .int l5), (6, .int l6)] [.int (0 : Int32), .int l1, .ref 84] m1 Q))) ∧ (l2 = (8 : Int32) → yP (xg xs) (d + 1) 357 583 [(0, .ref 58), (1, .int l1), (2, .int l2), (4, .int l4), (5, .int l5), (6, .int l6)] [.int (2 : Int32), .int l1, .ref 84] m1 Q))) ∧ (l2 = (7 : Int32) → yP (xg xs) (d + 1) 357 583 [(0, .ref 58), (1, .int l1), (2, .int l2), (4, .int l4), (5, .int l5), (6, .int l6)] [.int (1 : Int32), .int l1, .ref 84] m1 Q))) ∧ (l2 = (6 : Int32) → yP (xg xs) (d + 1) 357 516 [(0, .ref 58), (1, .int l1), (2, .int l2), (4, .int l4), (5, .int l5), (6, .int l6)] [.int l1, .ref 84] m1 Q))))) ∧ (l2 = (4 : Int32) → (x_in l5 20000 = true ∧ ((¬ (m1.1 84 l5.toNatClampNeg) = 0 → (x_in l5 20000 = true ∧ (x_in l6 20000 = true ∧ (yC (xg xs) d 359 [.int (m1.1 84 l5.toNatClampNeg), .int (m1.1 84 l6.toNatClampNeg)] m1 (fun v4 m4 => ∃ u4, v4 = some (Value.int u4) ∧ yP (xg xs) (d + 1) 357 583 [(0, .ref 58), (1, .int l1), (2, .int l2), (4, .int l4), (5, .int l5), (6, .int l6)] [.int u4, .int l1, .ref 84] m4 Q))))) ∧ ((m1.1 84 l5.toNatClampNeg) = 0 → yP (xg xs) (d + 1) 357 583 [(0, .ref 58), (1, .int l1), (2, .int l2), (4, .int l4), (5, .int l5), (6, .int l6)] [.int (0 : Int32), .int l1, .ref 84] m1 Q)))))))) : yP (xg xs) (d + 1) 357 457 [(0, .ref 58), (1, .int l1), (2, .int l2), (4, .int l4), (5, .int l5), (6, .int l6)] [.int s2, .int s1, .ref 58] m Q := by
  refine y_st rfl rfl rfl rfl rfl (fun _ _ => rfl) ?_
  show yP (xg xs) (d + 1) 357 458 [(0, .ref 58), (1, .int l1), (2, .int l2), (4, .int l4), (5, .int l5), (6, .int l6)] [.int l1, .int s2, .int s1, .ref 58] m Q
  refine y_call rfl rfl rfl rfl rfl (Nat.le_of_ble_eq_true rfl) (Nat.le_of_ble_eq_true rfl) rfl (by decide) H (fun v1 m1 H => ?_)
  obtain ⟨rfl, H⟩ := H
  refine y_st rfl rfl rfl rfl rfl (fun _ _ => rfl) ?_
  refine y_gf rfl rfl rfl rfl rfl ?_
  refine y_st rfl rfl rfl rfl rfl (fun _ _ => rfl) ?_
  refine y_st rfl rfl rfl rfl rfl (fun _ _ => rfl) ?_
  refine y_st rfl rfl rfl rfl rfl (fun _ _ => rfl) ?_
  show yP (xg xs) (d + 1) 357 468 [(0, .ref 58), (1, .int l1), (2, .int l2), (4, .int l4), (5, .int l5), (6, .int l6)] [.int (4 : Int32), .int l2, .int l1, .ref 84] m1 Q
  refine y_ine (t := 505) rfl rfl rfl (fun h => ?_) (fun h => ?_)
  · replace H := H.1 h; clear h
    refine y_st rfl rfl rfl rfl rfl (fun _ _ => rfl) ?_
    refine y_st rfl rfl rfl rfl rfl (fun _ _ => rfl) ?_
    show yP (xg xs) (d + 1) 357 507 [(0, .ref 58), (1, .int l1), (2, .int l2), (4, .int l4), (5, .int l5), (6, .int l6)] [.int (5 : Int32), .int l2, .int l1, .ref 84] m1 Q
    refine y_ieq (t := 516) rfl rfl rfl (fun h => ?_) (fun h => ?_)
    · replace H := H.1 h; clear h
      show yP (xg xs) (d + 1) 357 516 [(0, .ref 58), (1, .int l1), (2, .int l2), (4, .int l4), (5, .int l5), (6, .int l6)] [.int l1, .ref 84] m1 Q
      exact H
    · replace H := H.2 h; clear h
      refine y_st rfl rfl rfl rfl rfl (fun _ _ => rfl) ?_
      refine y_st rfl rfl rfl rfl rfl (fun _ _ => rfl) ?_
      show yP (xg xs) (d + 1) 357 513 [(0, .ref 58), (1, .int l1), (2, .int l2), (4, .int l4), (5, .int l5), (6, .int l6)] [.int (6 : Int32), .int l2, .int l1, .ref 84] m1 Q
      refine y_ine (t := 526) rfl rfl rfl (fun h => ?_) (fun h => ?_)
      · replace H := H.1 h; clear h
        refine y_st rfl rfl rfl rfl rfl (fun _ _ => rfl) ?_
        refine y_st rfl rfl rfl rfl rfl (fun _ _ => rfl) ?_
        show yP (xg xs) (d + 1) 357 529 [(0, .ref 58), (1, .int l1), (2, .int l2), (4, .int l4), (5, .int l5), (6, .int l6)] [.int (7 : Int32), .int l2, .int l1, .ref 84] m1 Q
        refine y_ine (t := 536) rfl rfl rfl (fun h => ?_) (fun h => ?_)
        · replace H := H.1 h; clear h
          refine y_st rfl rfl rfl rfl rfl (fun _ _ => rfl) ?_
          refine y_st rfl rfl rfl rfl rfl (fun _ _ => rfl) ?_
          show yP (xg xs) (d + 1) 357 539 [(0, .ref 58), (1, .int l1), (2, .int l2), (4, .int l4), (5, .int l5), (6, .int l6)] [.int (8 : Int32), .int l2, .int l1, .ref 84] m1 Q
          refine y_ine (t := 546) rfl rfl rfl (fun h => ?_) (fun h => ?_)
          · replace H := H.1 h; clear h
            refine y_st rfl rfl rfl rfl rfl (fun _ _ => rfl) ?_
            refine y_st rfl rfl rfl rfl rfl (fun _ _ => rfl) ?_
            show yP (xg xs) (d + 1) 357 549 [(0, .ref 58), (1, .int l1), (2, .int l2), (4, .int l4), (5, .int l5), (6, .int l6)] [.int (9 : Int32), .int l2, .int l1, .ref 84] m1 Q
            refine y_ine (t := 556) rfl rfl rfl (fun h => ?_) (fun h => ?_)
            · replace H := H.1 h; clear h
              refine y_st rfl rfl rfl rfl rfl (fun _ _ => rfl) ?_
              refine y_gf rfl rfl rfl rfl rfl ?_
              refine y_st rfl rfl rfl rfl rfl (fun _ _ => rfl) ?_
              show yP (xg xs) (d + 1) 357 562 [(0, .ref 58), (1, .int l1), (2, .int l2), (4, .int l4), (5, .int l5), (6, .int l6)] [.int l4, .ref 84, .int l1, .ref 84] m1 Q
              refine y_iald rfl rfl rfl (H.1) ?_
              replace H := H.2
              refine y_st rfl rfl rfl rfl rfl (fun _ _ => rfl) ?_
              refine y_gf rfl rfl rfl rfl rfl ?_
              refine y_st rfl rfl rfl rfl rfl (fun _ _ => rfl) ?_
              show yP (xg xs) (d + 1) 357 569 [(0, .ref 58), (1, .int l1), (2, .int l2), (4, .int l4), (5, .int l5), (6, .int l6)] [.int l5, .ref 84, .int (m1.1 84 l4.toNatClampNeg), .int l1, .ref 84] m1 Q
              refine y_iald rfl rfl rfl (H.1) ?_
              replace H := H.2
              show yP (xg xs) (d + 1) 357 570 [(0, .ref 58), (1, .int l1), (2, .int l2), (4, .int l4), (5, .int l5), (6, .int l6)] [.int (m1.1 84 l5.toNatClampNeg), .int (m1.1 84 l4.toNatClampNeg), .int l1, .ref 84] m1 Q
              refine y_call rfl rfl rfl rfl rfl (Nat.le_of_ble_eq_true rfl) (Nat.le_of_ble_eq_true rfl) rfl (by decide) H (fun v2 m2 H => ?_)
              obtain ⟨u2, rfl, H⟩ := H
              refine y_st rfl rfl rfl rfl rfl (fun _ _ => rfl) ?_
              refine y_gf rfl rfl rfl rfl rfl ?_
              refine y_st rfl rfl rfl rfl rfl (fun _ _ => rfl) ?_
              show yP (xg xs) (d + 1) 357 579 [(0, .ref 58), (1, .int l1), (2, .int l2), (4, .int l4), (5, .int l5), (6, .int l6)] [.int l6, .ref 84, .int u2, .int l1, .ref 84] m2 Q
              refine y_iald rfl rfl rfl (H.1) ?_
              replace H := H.2
              show yP (xg xs) (d + 1) 357 580 [(0, .ref 58), (1, .int l1), (2, .int l2), (4, .int l4), (5, .int l5), (6, .int l6)] [.int (m2.1 84 l6.toNatClampNeg), .int u2, .int l1, .ref 84] m2 Q
              refine y_call rfl rfl rfl rfl rfl (Nat.le_of_ble_eq_true rfl) (Nat.le_of_ble_eq_true rfl) rfl (by decide) H (fun v3 m3 H => ?_)
              obtain ⟨u3, rfl, H⟩ := H
              show yP (xg xs) (d + 1) 357 583 [(0, .ref 58), (1, .int l1), (2, .int l2), (4, .int l4), (5, .int l5), (6, .int l6)] [.int u3, .int l1, .ref 84] m3 Q
              exact H
            · replace H := H.2 h; clear h
              refine y_st rfl rfl rfl rfl rfl (fun _ _ => rfl) ?_
              refine y_st rfl rfl rfl rfl rfl (fun _ _ => rfl) ?_
              show yP (xg xs) (d + 1) 357 583 [(0, .ref 58), (1, .int l1), (2, .int l2), (4, .int l4), (5, .int l5), (6, .int l6)] [.int (0 : Int32), .int l1, .ref 84] m1 Q
              exact H
          · replace H := H.2 h; clear h
            refine y_st rfl rfl rfl rfl rfl (fun _ _ => rfl) ?_
            refine y_st rfl rfl rfl rfl rfl (fun _ _ => rfl) ?_
            show yP (xg xs) (d + 1) 357 583 [(0, .ref 58), (1, .int l1), (2, .int l2), (4, .int l4), (5, .int l5), (6, .int l6)] [.int (2 : Int32), .int l1, .ref 84] m1 Q
            exact H
        · replace H := H.2 h; clear h
          refine y_st rfl rfl rfl rfl rfl (fun _ _ => rfl) ?_
          refine y_st rfl rfl rfl rfl rfl (fun _ _ => rfl) ?_
          show yP (xg xs) (d + 1) 357 583 [(0, .ref 58), (1, .int l1), (2, .int l2), (4, .int l4), (5, .int l5), (6, .int l6)] [.int (1 : Int32), .int l1, .ref 84] m1 Q
          exact H
      · replace H := H.2 h; clear h
        show yP (xg xs) (d + 1) 357 516 [(0, .ref 58), (1, .int l1), (2, .int l2), (4, .int l4), (5, .int l5), (6, .int l6)] [.int l1, .ref 84] m1 Q
        exact H
  · replace H := H.2 h; clear h
    refine y_st rfl rfl rfl rfl rfl (fun _ _ => rfl) ?_
    refine y_gf rfl rfl rfl rfl rfl ?_
    refine y_st rfl rfl rfl rfl rfl (fun _ _ => rfl) ?_
    show yP (xg xs) (d + 1) 357 477 [(0, .ref 58), (1, .int l1), (2, .int l2), (4, .int l4), (5, .int l5), (6, .int l6)] [.int l5, .ref 84, .int l1, .ref 84] m1 Q
    refine y_iald rfl rfl rfl (H.1) ?_
    replace H := H.2
    show yP (xg xs) (d + 1) 357 478 [(0, .ref 58), (1, .int l1), (2, .int l2), (4, .int l4), (5, .int l5), (6, .int l6)] [.int (m1.1 84 l5.toNatClampNeg), .int l1, .ref 84] m1 Q
    refine y_zne (t := 485) rfl rfl rfl (fun h => ?_) (fun h => ?_)
    · replace H := H.1 h; clear h
      refine y_st rfl rfl rfl rfl rfl (fun _ _ => rfl) ?_
      refine y_gf rfl rfl rfl rfl rfl ?_
      refine y_st rfl rfl rfl rfl rfl (fun _ _ => rfl) ?_
      show yP (xg xs) (d + 1) 357 491 [(0, .ref 58), (1, .int l1), (2, .int l2), (4, .int l4), (5, .int l5), (6, .int l6)] [.int l5, .ref 84, .int l1, .ref 84] m1 Q
      refine y_iald rfl rfl rfl (H.1) ?_
      replace H := H.2
      refine y_st rfl rfl rfl rfl rfl (fun _ _ => rfl) ?_
      refine y_gf rfl rfl rfl rfl rfl ?_
      refine y_st rfl rfl rfl rfl rfl (fun _ _ => rfl) ?_
      show yP (xg xs) (d + 1) 357 498 [(0, .ref 58), (1, .int l1), (2, .int l2), (4, .int l4), (5, .int l5), (6, .int l6)] [.int l6, .ref 84, .int (m1.1 84 l5.toNatClampNeg), .int l1, .ref 84] m1 Q
      refine y_iald rfl rfl rfl (H.1) ?_
      replace H := H.2
      show yP (xg xs) (d + 1) 357 499 [(0, .ref 58), (1, .int l1), (2, .int l2), (4, .int l4), (5, .int l5), (6, .int l6)] [.int (m1.1 84 l6.toNatClampNeg), .int (m1.1 84 l5.toNatClampNeg), .int l1, .ref 84] m1 Q
      refine y_call rfl rfl rfl rfl rfl (Nat.le_of_ble_eq_true rfl) (Nat.le_of_ble_eq_true rfl) rfl (by decide) H (fun v4 m4 H => ?_)
      obtain ⟨u4, rfl, H⟩ := H
      refine y_st rfl rfl rfl rfl rfl (fun _ _ => rfl) ?_
      show yP (xg xs) (d + 1) 357 583 [(0, .ref 58), (1, .int l1), (2, .int l2), (4, .int l4), (5, .int l5), (6, .int l6)] [.int u4, .int l1, .ref 84] m4 Q
      exact H
    · replace H := H.2 h; clear h
      refine y_st rfl rfl rfl rfl rfl (fun _ _ => rfl) ?_
      refine y_st rfl rfl rfl rfl rfl (fun _ _ => rfl) ?_
      show yP (xg xs) (d + 1) 357 583 [(0, .ref 58), (1, .int l1), (2, .int l2), (4, .int l4), (5, .int l5), (6, .int l6)] [.int (0 : Int32), .int l1, .ref 84] m1 Q
      exact H
set_option maxRecDepth 20000 in
/-- CodeMakerModel.judgeCall from 516 on -/
theorem w357_516 (xs : List Int32) (d : Nat) (l1 : Int32) (l2 : Int32) (l4 : Int32) (l5 : Int32) (l6 : Int32) (s1 : Int32) (m : yM) (Q : Option Value → yM → Prop) (H : (x_in l4 20000 = true ∧ yP (xg xs) (d + 1) 357 583 [(0, .ref 58), (1, .int l1), (2, .int l2), (4, .int l4), (5, .int l5), (6, .int l6)] [.int (m.1 84 l4.toNatClampNeg), .int s1, .ref 84] m Q)) : yP (xg xs) (d + 1) 357 516 [(0, .ref 58), (1, .int l1), (2, .int l2), (4, .int l4), (5, .int l5), (6, .int l6)] [.int s1, .ref 84] m Q := by
  refine y_st rfl rfl rfl rfl rfl (fun _ _ => rfl) ?_
  refine y_gf rfl rfl rfl rfl rfl ?_
  refine y_st rfl rfl rfl rfl rfl (fun _ _ => rfl) ?_
  show yP (xg xs) (d + 1) 357 522 [(0, .ref 58), (1, .int l1), (2, .int l2), (4, .int l4), (5, .int l5), (6, .int l6)] [.int l4, .ref 84, .int s1, .ref 84] m Q
  refine y_iald rfl rfl rfl (H.1) ?_
  replace H := H.2
  refine y_st rfl rfl rfl rfl rfl (fun _ _ => rfl) ?_
  show yP (xg xs) (d + 1) 357 583 [(0, .ref 58), (1, .int l1), (2, .int l2), (4, .int l4), (5, .int l5), (6, .int l6)] [.int (m.1 84 l4.toNatClampNeg), .int s1, .ref 84] m Q
  exact H
set_option maxRecDepth 20000 in
/-- CodeMakerModel.judgeCall from 583 on -/
theorem w357_583 (xs : List Int32) (d : Nat) (l1 : Int32) (l2 : Int32) (l4 : Int32) (l5 : Int32) (l6 : Int32) (s1 : Int32) (s2 : Int32) (m : yM) (Q : Option Value → yM → Prop) (H : (x_in s1 20000 = true ∧ (x_in l4 20000 = true ∧ (((m.1 87 l4.toNatClampNeg) = 0 → yP (xg xs) (d + 1) 357 618 [(0, .ref 58), (1, .int l1), (2, .int l2), (4, .int l4), (5, .int l5), (6, .int l6)] [] (y_si m 84 s1.toNatClampNeg s2) Q) ∧ (¬ (m.1 87 l4.toNatClampNeg) = 0 → (x_in l5 20000 = true ∧ (((m.1 87 l5.toNatClampNeg) = 0 → yP (xg xs) (d + 1) 357 618 [(0, .ref 58), (1, .int l1), (2, .int l2), (4, .int l4), (5, .int l5), (6, .int l6)] [] (y_si m 84 s1.toNatClampNeg s2) Q) ∧ (¬ (m.1 87 l5.toNatClampNeg) = 0 → (x_in l6 20000 = true ∧ (((m.1 87 l6.toNatClampNeg) = 0 → yP (xg xs) (d + 1) 357 618 [(0, .ref 58), (1, .int l1), (2, .int l2), (4, .int l4), (5, .int l5), (6, .int l6)] [] (y_si m 84 s1.toNatClampNeg s2) Q) ∧ (¬ (m.1 87 l6.toNatClampNeg) = 0 → yP (xg xs) (d + 1) 357 619 [(0, .ref 58), (1, .int l1), (2, .int l2), (4, .int l4), (5, .int l5), (6, .int l6)] [.int (1 : Int32)] (y_si m 84 s1.toNatClampNeg s2) Q))))))))))) : yP (xg xs) (d + 1) 357 583 [(0, .ref 58), (1, .int l1), (2, .int l2), (4, .int l4), (5, .int l5), (6, .int l6)] [.int s2, .int s1, .ref 84] m Q := by
  show yP (xg xs) (d + 1) 357 583 [(0, .ref 58), (1, .int l1), (2, .int l2), (4, .int l4), (5, .int l5), (6, .int l6)] [.int s2, .int s1, .ref 84] m Q
  refine y_iast rfl rfl rfl (H.1) ?_
  replace H := H.2
  refine y_st rfl rfl rfl rfl rfl (fun _ _ => rfl) ?_
  refine y_gf rfl rfl rfl rfl rfl ?_
  refine y_st rfl rfl rfl rfl rfl (fun _ _ => rfl) ?_
  show yP (xg xs) (d + 1) 357 590 [(0, .ref 58), (1, .int l1), (2, .int l2), (4, .int l4), (5, .int l5), (6, .int l6)] [.int l4, .ref 87] (y_si m 84 s1.toNatClampNeg s2) Q
  refine y_bald rfl rfl rfl (by decide) (H.1) ?_
  replace H := H.2
  show yP (xg xs) (d + 1) 357 591 [(0, .ref 58), (1, .int l1), (2, .int l2), (4, .int l4), (5, .int l5), (6, .int l6)] [.int (m.1 87 l4.toNatClampNeg)] (y_si m 84 s1.toNatClampNeg s2) Q
  refine y_zeq (t := 618) rfl rfl rfl (fun h => ?_) (fun h => ?_)
  · replace H := H.1 h; clear h
    show yP (xg xs) (d + 1) 357 618 [(0, .ref 58), (1, .int l1), (2, .int l2), (4, .int l4), (5, .int l5), (6, .int l6)] [] (y_si m 84 s1.toNatClampNeg s2) Q
    exact H
  · replace H := H.2 h; clear h
    refine y_st rfl rfl rfl rfl rfl (fun _ _ => rfl) ?_
    refine y_gf rfl rfl rfl rfl rfl ?_
    refine y_st rfl rfl rfl rfl rfl (fun _ _ => rfl) ?_
    show yP (xg xs) (d + 1) 357 600 [(0, .ref 58), (1, .int l1), (2, .int l2), (4, .int l4), (5, .int l5), (6, .int l6)] [.int l5, .ref 87] (y_si m 84 s1.toNatClampNeg s2) Q
    refine y_bald rfl rfl rfl (by decide) (H.1) ?_
    replace H := H.2
    show yP (xg xs) (d + 1) 357 601 [(0, .ref 58), (1, .int l1), (2, .int l2), (4, .int l4), (5, .int l5), (6, .int l6)] [.int (m.1 87 l5.toNatClampNeg)] (y_si m 84 s1.toNatClampNeg s2) Q
    refine y_zeq (t := 618) rfl rfl rfl (fun h => ?_) (fun h => ?_)
    · replace H := H.1 h; clear h
      show yP (xg xs) (d + 1) 357 618 [(0, .ref 58), (1, .int l1), (2, .int l2), (4, .int l4), (5, .int l5), (6, .int l6)] [] (y_si m 84 s1.toNatClampNeg s2) Q
      exact H
    · replace H := H.2 h; clear h
      refine y_st rfl rfl rfl rfl rfl (fun _ _ => rfl) ?_
      refine y_gf rfl rfl rfl rfl rfl ?_
      refine y_st rfl rfl rfl rfl rfl (fun _ _ => rfl) ?_
      show yP (xg xs) (d + 1) 357 610 [(0, .ref 58), (1, .int l1), (2, .int l2), (4, .int l4), (5, .int l5), (6, .int l6)] [.int l6, .ref 87] (y_si m 84 s1.toNatClampNeg s2) Q
      refine y_bald rfl rfl rfl (by decide) (H.1) ?_
      replace H := H.2
      show yP (xg xs) (d + 1) 357 611 [(0, .ref 58), (1, .int l1), (2, .int l2), (4, .int l4), (5, .int l5), (6, .int l6)] [.int (m.1 87 l6.toNatClampNeg)] (y_si m 84 s1.toNatClampNeg s2) Q
      refine y_zeq (t := 618) rfl rfl rfl (fun h => ?_) (fun h => ?_)
      · replace H := H.1 h; clear h
        show yP (xg xs) (d + 1) 357 618 [(0, .ref 58), (1, .int l1), (2, .int l2), (4, .int l4), (5, .int l5), (6, .int l6)] [] (y_si m 84 s1.toNatClampNeg s2) Q
        exact H
      · replace H := H.2 h; clear h
        refine y_st rfl rfl rfl rfl rfl (fun _ _ => rfl) ?_
        refine y_st rfl rfl rfl rfl rfl (fun _ _ => rfl) ?_
        show yP (xg xs) (d + 1) 357 619 [(0, .ref 58), (1, .int l1), (2, .int l2), (4, .int l4), (5, .int l5), (6, .int l6)] [.int (1 : Int32)] (y_si m 84 s1.toNatClampNeg s2) Q
        exact H
set_option maxRecDepth 20000 in
/-- CodeMakerModel.judgeCall from 618 on -/
theorem w357_618 (xs : List Int32) (d : Nat) (l1 : Int32) (l2 : Int32) (l4 : Int32) (l5 : Int32) (l6 : Int32) (m : yM) (Q : Option Value → yM → Prop) (H : yP (xg xs) (d + 1) 357 619 [(0, .ref 58), (1, .int l1), (2, .int l2), (4, .int l4), (5, .int l5), (6, .int l6)] [.int (0 : Int32)] m Q) : yP (xg xs) (d + 1) 357 618 [(0, .ref 58), (1, .int l1), (2, .int l2), (4, .int l4), (5, .int l5), (6, .int l6)] [] m Q := by
  refine y_st rfl rfl rfl rfl rfl (fun _ _ => rfl) ?_
  show yP (xg xs) (d + 1) 357 619 [(0, .ref 58), (1, .int l1), (2, .int l2), (4, .int l4), (5, .int l5), (6, .int l6)] [.int (0 : Int32)] m Q
  exact H
set_option maxRecDepth 20000 in
/-- CodeMakerModel.judgeCall from 619 on -/
theorem w357_619 (xs : List Int32) (d : Nat) (l1 : Int32) (l2 : Int32) (l4 : Int32) (l5 : Int32) (l6 : Int32) (s0 : Int32) (m : yM) (Q : Option Value → yM → Prop) (H : ((s0 = 0 → yP (xg xs) (d + 1) 357 666 [] [.int (0 : Int32), .int s0, .int l1, .ref 58] m Q) ∧ (¬ s0 = 0 → (x_in l4 20000 = true ∧ (x_in l4 20000 = true ∧ (x_in l5 20000 = true ∧ (x_in l6 20000 = true ∧ (yC (xg xs) d 360 [.int l2, .int (m.1 84 l4.toNatClampNeg), .int (m.1 88 l4.toNatClampNeg), .int (m.1 88 l5.toNatClampNeg), .int (m.1 88 l6.toNatClampNeg)] m (fun v1 m1 => ∃ u1, v1 = some (Value.int u1) ∧ yP (xg xs) (d + 1) 357 666 [] [.int u1, .int s0, .int l1, .ref 58] m1 Q))))))))) : yP (xg xs) (d + 1) 357 619 [(0, .ref 58), (1, .int l1), (2, .int l2), (4, .int l4), (5, .int l5), (6, .int l6)] [.int s0] m Q := by
  refine y_st rfl rfl rfl rfl rfl (fun _ _ => rfl) ?_
  refine y_st rfl rfl rfl rfl rfl (fun _ _ => rfl) ?_
  refine y_st rfl rfl rfl rfl rfl (fun _ _ => rfl) ?_
  refine y_st rfl rfl rfl rfl rfl (fun _ _ => rfl) ?_
  refine y_st rfl rfl rfl rfl rfl (fun _ _ => rfl) ?_
  show yP (xg xs) (d + 1) 357 627 [(9, .int s0), (0, .ref 58), (1, .int l1), (2, .int l2), (4, .int l4), (5, .int l5), (6, .int l6)] [.int s0, .int s0, .int l1, .ref 58] m Q
  refine y_zeq (t := 665) rfl rfl rfl (fun h => ?_) (fun h => ?_)
  · replace H := H.1 h; clear h
    refine y_st rfl rfl rfl rfl rfl (fun _ _ => rfl) ?_
    show yP (xg xs) (d + 1) 357 666 [(9, .int s0), (0, .ref 58), (1, .int l1), (2, .int l2), (4, .int l4), (5, .int l5), (6, .int l6)] [.int (0 : Int32), .int s0, .int l1, .ref 58] m Q
    refine y_headS (l2 := []) [] [] [9, 0, 1, 2, 4, 5, 6] rfl rfl (by decide) rfl (by decide) ?_
    exact H
  · replace H := H.2 h; clear h
    refine y_st rfl rfl rfl rfl rfl (fun _ _ => rfl) ?_
    refine y_st rfl rfl rfl rfl rfl (fun _ _ => rfl) ?_
    refine y_gf rfl rfl rfl rfl rfl ?_
    refine y_st rfl rfl rfl rfl rfl (fun _ _ => rfl) ?_
    show yP (xg xs) (d + 1) 357 637 [(9, .int s0), (0, .ref 58), (1, .int l1), (2, .int l2), (4, .int l4), (5, .int l5), (6, .int l6)] [.int l4, .ref 84, .int l2, .int s0, .int l1, .ref 58] m Q
    refine y_iald rfl rfl rfl (H.1) ?_
    replace H := H.2
    refine y_st rfl rfl rfl rfl rfl (fun _ _ => rfl) ?_
    refine y_gf rfl rfl rfl rfl rfl ?_
    refine y_st rfl rfl rfl rfl rfl (fun _ _ => rfl) ?_
    show yP (xg xs) (d + 1) 357 644 [(9, .int s0), (0, .ref 58), (1, .int l1), (2, .int l2), (4, .int l4), (5, .int l5), (6, .int l6)] [.int l4, .ref 88, .int (m.1 84 l4.toNatClampNeg), .int l2, .int s0, .int l1, .ref 58] m Q
    refine y_iald rfl rfl rfl (H.1) ?_
    replace H := H.2
    refine y_st rfl rfl rfl rfl rfl (fun _ _ => rfl) ?_
    refine y_gf rfl rfl rfl rfl rfl ?_
    refine y_st rfl rfl rfl rfl rfl (fun _ _ => rfl) ?_
    show yP (xg xs) (d + 1) 357 651 [(9, .int s0), (0, .ref 58), (1, .int l1), (2, .int l2), (4, .int l4), (5, .int l5), (6, .int l6)] [.int l5, .ref 88, .int (m.1 88 l4.toNatClampNeg), .int (m.1 84 l4.toNatClampNeg), .int l2, .int s0, .int l1, .ref 58] m Q
    refine y_iald rfl rfl rfl (H.1) ?_
    replace H := H.2
    refine y_st rfl rfl rfl rfl rfl (fun _ _ => rfl) ?_
    refine y_gf rfl rfl rfl rfl rfl ?_
    refine y_st rfl rfl rfl rfl rfl (fun _ _ => rfl) ?_
    show yP (xg xs) (d + 1) 357 658 [(9, .int s0), (0, .ref 58), (1, .int l1), (2, .int l2), (4, .int l4), (5, .int l5), (6, .int l6)] [.int l6, .ref 88, .int (m.1 88 l5.toNatClampNeg), .int (m.1 88 l4.toNatClampNeg), .int (m.1 84 l4.toNatClampNeg), .int l2, .int s0, .int l1, .ref 58] m Q
    refine y_iald rfl rfl rfl (H.1) ?_
    replace H := H.2
    show yP (xg xs) (d + 1) 357 659 [(9, .int s0), (0, .ref 58), (1, .int l1), (2, .int l2), (4, .int l4), (5, .int l5), (6, .int l6)] [.int (m.1 88 l6.toNatClampNeg), .int (m.1 88 l5.toNatClampNeg), .int (m.1 88 l4.toNatClampNeg), .int (m.1 84 l4.toNatClampNeg), .int l2, .int s0, .int l1, .ref 58] m Q
    refine y_call rfl rfl rfl rfl rfl (Nat.le_of_ble_eq_true rfl) (Nat.le_of_ble_eq_true rfl) rfl (by decide) H (fun v1 m1 H => ?_)
    obtain ⟨u1, rfl, H⟩ := H
    refine y_st rfl rfl rfl rfl rfl (fun _ _ => rfl) ?_
    show yP (xg xs) (d + 1) 357 666 [(9, .int s0), (0, .ref 58), (1, .int l1), (2, .int l2), (4, .int l4), (5, .int l5), (6, .int l6)] [.int u1, .int s0, .int l1, .ref 58] m1 Q
    refine y_headS (l2 := []) [] [] [9, 0, 1, 2, 4, 5, 6] rfl rfl (by decide) rfl (by decide) ?_
    exact H
set_option maxRecDepth 20000 in
/-- CodeMakerModel.judgeCall from 666 on -/
theorem w357_666 (xs : List Int32) (d : Nat) (s1 : Int32) (s2 : Int32) (s3 : Int32) (m : yM) (Q : Option Value → yM → Prop) (H : (yC (xg xs) d 355 [.ref 58, .int s1, .int s2, .int s3] m (fun v1 m1 => v1 = none ∧ Q none m1))) : yP (xg xs) (d + 1) 357 666 [] [.int s3, .int s2, .int s1, .ref 58] m Q := by
  show yP (xg xs) (d + 1) 357 666 [] [.int s3, .int s2, .int s1, .ref 58] m Q
  refine y_call rfl rfl rfl rfl rfl (Nat.le_of_ble_eq_true rfl) (Nat.le_of_ble_eq_true rfl) rfl (by decide) H (fun v1 m1 H => ?_)
  obtain ⟨rfl, H⟩ := H
  show yP (xg xs) (d + 1) 357 669 [] [] m1 Q
  exact y_ret rfl rfl rfl rfl H
set_option maxRecDepth 20000 in
/-- CodeMakerModel.calledBy from 0 on -/
theorem w358_0 (xs : List Int32) (d : Nat) (l1 : Int32) (m : yM) (Q : Option Value → yM → Prop) (H : (x_in l1 20000 = true ∧ (yC (xg xs) d 325 [.ref 58, .retAddr 26, .int (m.1 64 l1.toNatClampNeg)] m (fun v1 m1 => ∃ u1, v1 = some (Value.int u1) ∧ (x_in l1 20000 = true ∧ (yC (xg xs) d 333 [.ref 58, .int (1 : Int32), .int (m1.1 64 l1.toNatClampNeg)] m1 (fun v2 m2 => ∃ u2, v2 = some (Value.int u2) ∧ ((u1 = ((-1) : Int32) → ((u2 = ((-1) : Int32) → Q (some (.int ((-1) : Int32))) m2) ∧ (¬ u2 = ((-1) : Int32) → Q (some (.int ((100 : Int32) + u2))) m2))) ∧ (¬ u1 = ((-1) : Int32) → Q (some (.int u1)) m2))))))))) : yP (xg xs) (d + 1) 358 0 [(0, .ref 58), (1, .int l1)] [] m Q := by
  refine y_st rfl rfl rfl rfl rfl (fun _ _ => rfl) ?_
  refine y_st rfl rfl rfl rfl rfl (fun _ _ => rfl) ?_
  refine y_st rfl rfl rfl rfl rfl (fun _ _ => rfl) ?_
  refine y_gf rfl rfl rfl rfl rfl ?_
  refine y_st rfl rfl rfl rfl rfl (fun _ _ => rfl) ?_
  show yP (xg xs) (d + 1) 358 9 [(0, .ref 58), (1, .int l1)] [.int l1, .ref 64, .retAddr 26, .ref 58] m Q
  refine y_iald rfl rfl rfl (H.1) ?_
  replace H := H.2
  show yP (xg xs) (d + 1) 358 10 [(0, .ref 58), (1, .int l1)] [.int (m.1 64 l1.toNatClampNeg), .retAddr 26, .ref 58] m Q
  refine y_call rfl rfl rfl rfl rfl (Nat.le_of_ble_eq_true rfl) (Nat.le_of_ble_eq_true rfl) rfl (by decide) H (fun v1 m1 H => ?_)
  obtain ⟨u1, rfl, H⟩ := H
  refine y_st rfl rfl rfl rfl rfl (fun _ _ => rfl) ?_
  refine y_st rfl rfl rfl rfl rfl (fun _ _ => rfl) ?_
  refine y_st rfl rfl rfl rfl rfl (fun _ _ => rfl) ?_
  refine y_st rfl rfl rfl rfl rfl (fun _ _ => rfl) ?_
  refine y_gf rfl rfl rfl rfl rfl ?_
  refine y_st rfl rfl rfl rfl rfl (fun _ _ => rfl) ?_
  show yP (xg xs) (d + 1) 358 21 [(2, .int u1), (0, .ref 58), (1, .int l1)] [.int l1, .ref 64, .int (1 : Int32), .ref 58] m1 Q
  refine y_iald rfl rfl rfl (H.1) ?_
  replace H := H.2
  show yP (xg xs) (d + 1) 358 22 [(2, .int u1), (0, .ref 58), (1, .int l1)] [.int (m1.1 64 l1.toNatClampNeg), .int (1 : Int32), .ref 58] m1 Q
  refine y_call rfl rfl rfl rfl rfl (Nat.le_of_ble_eq_true rfl) (Nat.le_of_ble_eq_true rfl) rfl (by decide) H (fun v2 m2 H => ?_)
  obtain ⟨u2, rfl, H⟩ := H
  refine y_st rfl rfl rfl rfl rfl (fun _ _ => rfl) ?_
  refine y_st rfl rfl rfl rfl rfl (fun _ _ => rfl) ?_
  refine y_st rfl rfl rfl rfl rfl (fun _ _ => rfl) ?_
  show yP (xg xs) (d + 1) 358 28 [(3, .int u2), (2, .int u1), (0, .ref 58), (1, .int l1)] [.int ((-1) : Int32), .int u1] m2 Q
  refine y_ieq (t := 35) rfl rfl rfl (fun h => ?_) (fun h => ?_)
  · replace H := H.1 h; clear h
    refine y_st rfl rfl rfl rfl rfl (fun _ _ => rfl) ?_
    refine y_st rfl rfl rfl rfl rfl (fun _ _ => rfl) ?_
    show yP (xg xs) (d + 1) 358 37 [(3, .int u2), (2, .int u1), (0, .ref 58), (1, .int l1)] [.int ((-1) : Int32), .int u2] m2 Q
    refine y_ieq (t := 47) rfl rfl rfl (fun h => ?_) (fun h => ?_)
    · replace H := H.1 h; clear h
      refine y_st rfl rfl rfl rfl rfl (fun _ _ => rfl) ?_
      show yP (xg xs) (d + 1) 358 48 [(3, .int u2), (2, .int u1), (0, .ref 58), (1, .int l1)] [.int ((-1) : Int32)] m2 Q
      exact y_iret rfl rfl rfl H
    · replace H := H.2 h; clear h
      refine y_st rfl rfl rfl rfl rfl (fun _ _ => rfl) ?_
      refine y_st rfl rfl rfl rfl rfl (fun _ _ => rfl) ?_
      refine y_st rfl rfl rfl rfl rfl (fun _ _ => rfl) ?_
      refine y_st rfl rfl rfl rfl rfl (fun _ _ => rfl) ?_
      show yP (xg xs) (d + 1) 358 48 [(3, .int u2), (2, .int u1), (0, .ref 58), (1, .int l1)] [.int ((100 : Int32) + u2)] m2 Q
      exact y_iret rfl rfl rfl H
  · replace H := H.2 h; clear h
    refine y_st rfl rfl rfl rfl rfl (fun _ _ => rfl) ?_
    refine y_st rfl rfl rfl rfl rfl (fun _ _ => rfl) ?_
    show yP (xg xs) (d + 1) 358 48 [(3, .int u2), (2, .int u1), (0, .ref 58), (1, .int l1)] [.int u1] m2 Q
    exact y_iret rfl rfl rfl H
set_option maxRecDepth 20000 in
/-- CodeMakerModel.wider from 0 on -/
theorem w359_0 (xs : List Int32) (d : Nat) (l0 : Int32) (l1 : Int32) (m : yM) (Q : Option Value → yM → Prop) (H : ((l0 = (2 : Int32) → Q (some (.int (2 : Int32))) m) ∧ (¬ l0 = (2 : Int32) → ((¬ l1 = (2 : Int32) → Q (some (.int (1 : Int32))) m) ∧ (l1 = (2 : Int32) → Q (some (.int (2 : Int32))) m))))) : yP (xg xs) (d + 1) 359 0 [(0, .int l0), (1, .int l1)] [] m Q := by
  refine y_st rfl rfl rfl rfl rfl (fun _ _ => rfl) ?_
  refine y_st rfl rfl rfl rfl rfl (fun _ _ => rfl) ?_
  show yP (xg xs) (d + 1) 359 2 [(0, .int l0), (1, .int l1)] [.int (2 : Int32), .int l0] m Q
  refine y_ieq (t := 10) rfl rfl rfl (fun h => ?_) (fun h => ?_)
  · replace H := H.1 h; clear h
    refine y_st rfl rfl rfl rfl rfl (fun _ _ => rfl) ?_
    refine y_st rfl rfl rfl rfl rfl (fun _ _ => rfl) ?_
    show yP (xg xs) (d + 1) 359 15 [(0, .int l0), (1, .int l1)] [.int (2 : Int32)] m Q
    exact y_iret rfl rfl rfl H
  · replace H := H.2 h; clear h
    refine y_st rfl rfl rfl rfl rfl (fun _ _ => rfl) ?_
    refine y_st rfl rfl rfl rfl rfl (fun _ _ => rfl) ?_
    show yP (xg xs) (d + 1) 359 7 [(0, .int l0), (1, .int l1)] [.int (2 : Int32), .int l1] m Q
    refine y_ine (t := 14) rfl rfl rfl (fun h => ?_) (fun h => ?_)
    · replace H := H.1 h; clear h
      refine y_st rfl rfl rfl rfl rfl (fun _ _ => rfl) ?_
      show yP (xg xs) (d + 1) 359 15 [(0, .int l0), (1, .int l1)] [.int (1 : Int32)] m Q
      exact y_iret rfl rfl rfl H
    · replace H := H.2 h; clear h
      refine y_st rfl rfl rfl rfl rfl (fun _ _ => rfl) ?_
      refine y_st rfl rfl rfl rfl rfl (fun _ _ => rfl) ?_
      show yP (xg xs) (d + 1) 359 15 [(0, .int l0), (1, .int l1)] [.int (2 : Int32)] m Q
      exact y_iret rfl rfl rfl H
set_option maxRecDepth 20000 in
/-- CodeMakerModel.standard from 0 on -/
theorem w360_0 (xs : List Int32) (d : Nat) (l0 : Int32) (l1 : Int32) (l2 : Int32) (l3 : Int32) (l4 : Int32) (m : yM) (Q : Option Value → yM → Prop) (H : ((l0 = (0 : Int32) → ((¬ l1 = (1 : Int32) → yP (xg xs) (d + 1) 360 62 [(2, .int l2)] [.int (5 : Int32)] m Q) ∧ (l1 = (1 : Int32) → yP (xg xs) (d + 1) 360 62 [(2, .int l2)] [.int (4 : Int32)] m Q))) ∧ (l0 = (1 : Int32) → (yC (xg xs) d 363 [.int (23 : Int32), .int l2, .int l3] m (fun v1 m1 => ∃ u1, v1 = some (Value.int u1) ∧ Q (some (.int u1)) m1))) ∧ (l0 = (2 : Int32) → (yC (xg xs) d 363 [.int (24 : Int32), .int l2, .int l3] m (fun v2 m2 => ∃ u2, v2 = some (Value.int u2) ∧ Q (some (.int u2)) m2))) ∧ (l0 = (3 : Int32) → (yC (xg xs) d 363 [.int (24 : Int32), .int l2, .int l3] m (fun v3 m3 => ∃ u3, v3 = some (Value.int u3) ∧ (yC (xg xs) d 363 [.int (23 : Int32), .int u3, .int l4] m3 (fun v4 m4 => ∃ u4, v4 = some (Value.int u4) ∧ Q (some (.int u4)) m4))))) ∧ (l0 = (4 : Int32) → ((l2 = 0 → Q (some (.int l3)) m) ∧ (¬ l2 = 0 → Q (some (.int l4)) m))) ∧ (l0 = (5 : Int32) → ((¬ l1 = (1 : Int32) → yP (xg xs) (d + 1) 360 121 [(2, .int l2), (3, .int l3)] [.int (21 : Int32)] m Q) ∧ (l1 = (1 : Int32) → yP (xg xs) (d + 1) 360 121 [(2, .int l2), (3, .int l3)] [.int (19 : Int32)] m Q))) ∧ (l0 = (6 : Int32) → ((¬ l1 = (1 : Int32) → yP (xg xs) (d + 1) 360 139 [(2, .int l2), (3, .int l3)] [.int (22 : Int32)] m Q) ∧ (l1 = (1 : Int32) → yP (xg xs) (d + 1) 360 139 [(2, .int l2), (3, .int l3)] [.int (20 : Int32)] m Q))) ∧ (l0 = (7 : Int32) → (yC (xg xs) d 361 [.int (6 : Int32), .int l2] m (fun v5 m5 => ∃ u5, v5 = some (Value.int u5) ∧ Q (some (.int u5)) m5))) ∧ (l0 = (8 : Int32) → Q (some (.int l2)) m) ∧ (¬ l0 = (0 : Int32) → ¬ l0 = (1 : Int32) → ¬ l0 = (2 : Int32) → ¬ l0 = (3 : Int32) → ¬ l0 = (4 : Int32) → ¬ l0 = (5 : Int32) → ¬ l0 = (6 : Int32) → ¬ l0 = (7 : Int32) → ¬ l0 = (8 : Int32) → (yC (xg xs) d 361 [.int (7 : Int32), .int l2] m (fun v6 m6 => ∃ u6, v6 = some (Value.int u6) ∧ Q (some (.int u6)) m6))))) : yP (xg xs) (d + 1) 360 0 [(0, .int l0), (1, .int l1), (2, .int l2), (3, .int l3), (4, .int l4)] [] m Q := by
  refine y_st rfl rfl rfl rfl rfl (fun _ _ => rfl) ?_
  show yP (xg xs) (d + 1) 360 1 [(0, .int l0), (1, .int l1), (2, .int l2), (3, .int l3), (4, .int l4)] [.int l0] m Q
  by_cases h0 : l0 = (0 : Int32)
  · replace H := H.1 h0
    refine y_tsw (t := 52) rfl rfl (by rw [h0]; rfl) ?_
    clear h0
    refine y_st rfl rfl rfl rfl rfl (fun _ _ => rfl) ?_
    refine y_st rfl rfl rfl rfl rfl (fun _ _ => rfl) ?_
    show yP (xg xs) (d + 1) 360 54 [(0, .int l0), (1, .int l1), (2, .int l2), (3, .int l3), (4, .int l4)] [.int (1 : Int32), .int l1] m Q
    refine y_ine (t := 61) rfl rfl rfl (fun h => ?_) (fun h => ?_)
    · replace H := H.1 h; clear h
      refine y_st rfl rfl rfl rfl rfl (fun _ _ => rfl) ?_
      show yP (xg xs) (d + 1) 360 62 [(0, .int l0), (1, .int l1), (2, .int l2), (3, .int l3), (4, .int l4)] [.int (5 : Int32)] m Q
      refine y_headS (l2 := [(2, .int l2)]) [2] [2] [0, 1, 2, 3, 4] rfl rfl (by decide) rfl (by decide) ?_
      exact H
    · replace H := H.2 h; clear h
      refine y_st rfl rfl rfl rfl rfl (fun _ _ => rfl) ?_
      refine y_st rfl rfl rfl rfl rfl (fun _ _ => rfl) ?_
      show yP (xg xs) (d + 1) 360 62 [(0, .int l0), (1, .int l1), (2, .int l2), (3, .int l3), (4, .int l4)] [.int (4 : Int32)] m Q
      refine y_headS (l2 := [(2, .int l2)]) [2] [2] [0, 1, 2, 3, 4] rfl rfl (by decide) rfl (by decide) ?_
      exact H
  replace H := H.2
  by_cases h1 : l0 = (1 : Int32)
  · replace H := H.1 h1
    refine y_tsw (t := 67) rfl rfl (by rw [h1]; rfl) ?_
    clear h1 h0
    refine y_st rfl rfl rfl rfl rfl (fun _ _ => rfl) ?_
    refine y_st rfl rfl rfl rfl rfl (fun _ _ => rfl) ?_
    refine y_st rfl rfl rfl rfl rfl (fun _ _ => rfl) ?_
    show yP (xg xs) (d + 1) 360 71 [(0, .int l0), (1, .int l1), (2, .int l2), (3, .int l3), (4, .int l4)] [.int l3, .int l2, .int (23 : Int32)] m Q
    refine y_call rfl rfl rfl rfl rfl (Nat.le_of_ble_eq_true rfl) (Nat.le_of_ble_eq_true rfl) rfl (by decide) H (fun v1 m1 H => ?_)
    obtain ⟨u1, rfl, H⟩ := H
    show yP (xg xs) (d + 1) 360 74 [(0, .int l0), (1, .int l1), (2, .int l2), (3, .int l3), (4, .int l4)] [.int u1] m1 Q
    exact y_iret rfl rfl rfl H
  replace H := H.2
  by_cases h2 : l0 = (2 : Int32)
  · replace H := H.1 h2
    refine y_tsw (t := 75) rfl rfl (by rw [h2]; rfl) ?_
    clear h2 h1 h0
    refine y_st rfl rfl rfl rfl rfl (fun _ _ => rfl) ?_
    refine y_st rfl rfl rfl rfl rfl (fun _ _ => rfl) ?_
    refine y_st rfl rfl rfl rfl rfl (fun _ _ => rfl) ?_
    show yP (xg xs) (d + 1) 360 79 [(0, .int l0), (1, .int l1), (2, .int l2), (3, .int l3), (4, .int l4)] [.int l3, .int l2, .int (24 : Int32)] m Q
    refine y_call rfl rfl rfl rfl rfl (Nat.le_of_ble_eq_true rfl) (Nat.le_of_ble_eq_true rfl) rfl (by decide) H (fun v2 m2 H => ?_)
    obtain ⟨u2, rfl, H⟩ := H
    show yP (xg xs) (d + 1) 360 82 [(0, .int l0), (1, .int l1), (2, .int l2), (3, .int l3), (4, .int l4)] [.int u2] m2 Q
    exact y_iret rfl rfl rfl H
  replace H := H.2
  by_cases h3 : l0 = (3 : Int32)
  · replace H := H.1 h3
    refine y_tsw (t := 83) rfl rfl (by rw [h3]; rfl) ?_
    clear h3 h2 h1 h0
    refine y_st rfl rfl rfl rfl rfl (fun _ _ => rfl) ?_
    refine y_st rfl rfl rfl rfl rfl (fun _ _ => rfl) ?_
    refine y_st rfl rfl rfl rfl rfl (fun _ _ => rfl) ?_
    refine y_st rfl rfl rfl rfl rfl (fun _ _ => rfl) ?_
    show yP (xg xs) (d + 1) 360 89 [(0, .int l0), (1, .int l1), (2, .int l2), (3, .int l3), (4, .int l4)] [.int l3, .int l2, .int (24 : Int32), .int (23 : Int32)] m Q
    refine y_call rfl rfl rfl rfl rfl (Nat.le_of_ble_eq_true rfl) (Nat.le_of_ble_eq_true rfl) rfl (by decide) H (fun v3 m3 H => ?_)
    obtain ⟨u3, rfl, H⟩ := H
    refine y_st rfl rfl rfl rfl rfl (fun _ _ => rfl) ?_
    show yP (xg xs) (d + 1) 360 94 [(0, .int l0), (1, .int l1), (2, .int l2), (3, .int l3), (4, .int l4)] [.int l4, .int u3, .int (23 : Int32)] m3 Q
    refine y_call rfl rfl rfl rfl rfl (Nat.le_of_ble_eq_true rfl) (Nat.le_of_ble_eq_true rfl) rfl (by decide) H (fun v4 m4 H => ?_)
    obtain ⟨u4, rfl, H⟩ := H
    show yP (xg xs) (d + 1) 360 97 [(0, .int l0), (1, .int l1), (2, .int l2), (3, .int l3), (4, .int l4)] [.int u4] m4 Q
    exact y_iret rfl rfl rfl H
  replace H := H.2
  by_cases h4 : l0 = (4 : Int32)
  · replace H := H.1 h4
    refine y_tsw (t := 98) rfl rfl (by rw [h4]; rfl) ?_
    clear h4 h3 h2 h1 h0
    refine y_st rfl rfl rfl rfl rfl (fun _ _ => rfl) ?_
    show yP (xg xs) (d + 1) 360 99 [(0, .int l0), (1, .int l1), (2, .int l2), (3, .int l3), (4, .int l4)] [.int l2] m Q
    refine y_zeq (t := 107) rfl rfl rfl (fun h => ?_) (fun h => ?_)
    · replace H := H.1 h; clear h
      refine y_st rfl rfl rfl rfl rfl (fun _ _ => rfl) ?_
      show yP (xg xs) (d + 1) 360 108 [(0, .int l0), (1, .int l1), (2, .int l2), (3, .int l3), (4, .int l4)] [.int l3] m Q
      exact y_iret rfl rfl rfl H
    · replace H := H.2 h; clear h
      refine y_st rfl rfl rfl rfl rfl (fun _ _ => rfl) ?_
      refine y_st rfl rfl rfl rfl rfl (fun _ _ => rfl) ?_
      show yP (xg xs) (d + 1) 360 108 [(0, .int l0), (1, .int l1), (2, .int l2), (3, .int l3), (4, .int l4)] [.int l4] m Q
      exact y_iret rfl rfl rfl H
  replace H := H.2
  by_cases h5 : l0 = (5 : Int32)
  · replace H := H.1 h5
    refine y_tsw (t := 109) rfl rfl (by rw [h5]; rfl) ?_
    clear h5 h4 h3 h2 h1 h0
    refine y_st rfl rfl rfl rfl rfl (fun _ _ => rfl) ?_
    refine y_st rfl rfl rfl rfl rfl (fun _ _ => rfl) ?_
    show yP (xg xs) (d + 1) 360 111 [(0, .int l0), (1, .int l1), (2, .int l2), (3, .int l3), (4, .int l4)] [.int (1 : Int32), .int l1] m Q
    refine y_ine (t := 119) rfl rfl rfl (fun h => ?_) (fun h => ?_)
    · replace H := H.1 h; clear h
      refine y_st rfl rfl rfl rfl rfl (fun _ _ => rfl) ?_
      show yP (xg xs) (d + 1) 360 121 [(0, .int l0), (1, .int l1), (2, .int l2), (3, .int l3), (4, .int l4)] [.int (21 : Int32)] m Q
      refine y_headS (l2 := [(2, .int l2), (3, .int l3)]) [2, 3] [2, 3] [0, 1, 2, 3, 4] rfl rfl (by decide) rfl (by decide) ?_
      exact H
    · replace H := H.2 h; clear h
      refine y_st rfl rfl rfl rfl rfl (fun _ _ => rfl) ?_
      refine y_st rfl rfl rfl rfl rfl (fun _ _ => rfl) ?_
      show yP (xg xs) (d + 1) 360 121 [(0, .int l0), (1, .int l1), (2, .int l2), (3, .int l3), (4, .int l4)] [.int (19 : Int32)] m Q
      refine y_headS (l2 := [(2, .int l2), (3, .int l3)]) [2, 3] [2, 3] [0, 1, 2, 3, 4] rfl rfl (by decide) rfl (by decide) ?_
      exact H
  replace H := H.2
  by_cases h6 : l0 = (6 : Int32)
  · replace H := H.1 h6
    refine y_tsw (t := 127) rfl rfl (by rw [h6]; rfl) ?_
    clear h6 h5 h4 h3 h2 h1 h0
    refine y_st rfl rfl rfl rfl rfl (fun _ _ => rfl) ?_
    refine y_st rfl rfl rfl rfl rfl (fun _ _ => rfl) ?_
    show yP (xg xs) (d + 1) 360 129 [(0, .int l0), (1, .int l1), (2, .int l2), (3, .int l3), (4, .int l4)] [.int (1 : Int32), .int l1] m Q
    refine y_ine (t := 137) rfl rfl rfl (fun h => ?_) (fun h => ?_)
    · replace H := H.1 h; clear h
      refine y_st rfl rfl rfl rfl rfl (fun _ _ => rfl) ?_
      show yP (xg xs) (d + 1) 360 139 [(0, .int l0), (1, .int l1), (2, .int l2), (3, .int l3), (4, .int l4)] [.int (22 : Int32)] m Q
      refine y_headS (l2 := [(2, .int l2), (3, .int l3)]) [2, 3] [2, 3] [0, 1, 2, 3, 4] rfl rfl (by decide) rfl (by decide) ?_
      exact H
    · replace H := H.2 h; clear h
      refine y_st rfl rfl rfl rfl rfl (fun _ _ => rfl) ?_
      refine y_st rfl rfl rfl rfl rfl (fun _ _ => rfl) ?_
      show yP (xg xs) (d + 1) 360 139 [(0, .int l0), (1, .int l1), (2, .int l2), (3, .int l3), (4, .int l4)] [.int (20 : Int32)] m Q
      refine y_headS (l2 := [(2, .int l2), (3, .int l3)]) [2, 3] [2, 3] [0, 1, 2, 3, 4] rfl rfl (by decide) rfl (by decide) ?_
      exact H
  replace H := H.2
  by_cases h7 : l0 = (7 : Int32)
  · replace H := H.1 h7
    refine y_tsw (t := 145) rfl rfl (by rw [h7]; rfl) ?_
    clear h7 h6 h5 h4 h3 h2 h1 h0
    refine y_st rfl rfl rfl rfl rfl (fun _ _ => rfl) ?_
    refine y_st rfl rfl rfl rfl rfl (fun _ _ => rfl) ?_
    show yP (xg xs) (d + 1) 360 148 [(0, .int l0), (1, .int l1), (2, .int l2), (3, .int l3), (4, .int l4)] [.int l2, .int (6 : Int32)] m Q
    refine y_call rfl rfl rfl rfl rfl (Nat.le_of_ble_eq_true rfl) (Nat.le_of_ble_eq_true rfl) rfl (by decide) H (fun v5 m5 H => ?_)
    obtain ⟨u5, rfl, H⟩ := H
    show yP (xg xs) (d + 1) 360 151 [(0, .int l0), (1, .int l1), (2, .int l2), (3, .int l3), (4, .int l4)] [.int u5] m5 Q
    exact y_iret rfl rfl rfl H
  replace H := H.2
  by_cases h8 : l0 = (8 : Int32)
  · replace H := H.1 h8
    refine y_tsw (t := 152) rfl rfl (by rw [h8]; rfl) ?_
    clear h8 h7 h6 h5 h4 h3 h2 h1 h0
    refine y_st rfl rfl rfl rfl rfl (fun _ _ => rfl) ?_
    show yP (xg xs) (d + 1) 360 153 [(0, .int l0), (1, .int l1), (2, .int l2), (3, .int l3), (4, .int l4)] [.int l2] m Q
    exact y_iret rfl rfl rfl H
  replace H := H.2
  refine y_tsw (t := 154) rfl rfl ((if_pos (by have g0 := ne_lit (0 : Int32) 0 rfl h0; have g1 := ne_lit (1 : Int32) 1 rfl h1; have g2 := ne_lit (2 : Int32) 2 rfl h2; have g3 := ne_lit (3 : Int32) 3 rfl h3; have g4 := ne_lit (4 : Int32) 4 rfl h4; have g5 := ne_lit (5 : Int32) 5 rfl h5; have g6 := ne_lit (6 : Int32) 6 rfl h6; have g7 := ne_lit (7 : Int32) 7 rfl h7; have g8 := ne_lit (8 : Int32) 8 rfl h8; omega)).trans rfl) ?_
  replace H := H h0 h1 h2 h3 h4 h5 h6 h7 h8
  clear h8 h7 h6 h5 h4 h3 h2 h1 h0
  refine y_st rfl rfl rfl rfl rfl (fun _ _ => rfl) ?_
  refine y_st rfl rfl rfl rfl rfl (fun _ _ => rfl) ?_
  show yP (xg xs) (d + 1) 360 157 [(0, .int l0), (1, .int l1), (2, .int l2), (3, .int l3), (4, .int l4)] [.int l2, .int (7 : Int32)] m Q
  refine y_call rfl rfl rfl rfl rfl (Nat.le_of_ble_eq_true rfl) (Nat.le_of_ble_eq_true rfl) rfl (by decide) H (fun v6 m6 H => ?_)
  obtain ⟨u6, rfl, H⟩ := H
  show yP (xg xs) (d + 1) 360 160 [(0, .int l0), (1, .int l1), (2, .int l2), (3, .int l3), (4, .int l4)] [.int u6] m6 Q
  exact y_iret rfl rfl rfl H
set_option maxRecDepth 20000 in
/-- CodeMakerModel.standard from 62 on -/
theorem w360_62 (xs : List Int32) (d : Nat) (l2 : Int32) (s0 : Int32) (m : yM) (Q : Option Value → yM → Prop) (H : (yC (xg xs) d 361 [.int s0, .int l2] m (fun v1 m1 => ∃ u1, v1 = some (Value.int u1) ∧ Q (some (.int u1)) m1))) : yP (xg xs) (d + 1) 360 62 [(2, .int l2)] [.int s0] m Q := by
  refine y_st rfl rfl rfl rfl rfl (fun _ _ => rfl) ?_
  show yP (xg xs) (d + 1) 360 63 [(2, .int l2)] [.int l2, .int s0] m Q
  refine y_call rfl rfl rfl rfl rfl (Nat.le_of_ble_eq_true rfl) (Nat.le_of_ble_eq_true rfl) rfl (by decide) H (fun v1 m1 H => ?_)
  obtain ⟨u1, rfl, H⟩ := H
  show yP (xg xs) (d + 1) 360 66 [(2, .int l2)] [.int u1] m1 Q
  exact y_iret rfl rfl rfl H
set_option maxRecDepth 20000 in
/-- CodeMakerModel.standard from 121 on -/
theorem w360_121 (xs : List Int32) (d : Nat) (l2 : Int32) (l3 : Int32) (s0 : Int32) (m : yM) (Q : Option Value → yM → Prop) (H : (yC (xg xs) d 363 [.int s0, .int l2, .int l3] m (fun v1 m1 => ∃ u1, v1 = some (Value.int u1) ∧ Q (some (.int u1)) m1))) : yP (xg xs) (d + 1) 360 121 [(2, .int l2), (3, .int l3)] [.int s0] m Q := by
  refine y_st rfl rfl rfl rfl rfl (fun _ _ => rfl) ?_
  refine y_st rfl rfl rfl rfl rfl (fun _ _ => rfl) ?_
  show yP (xg xs) (d + 1) 360 123 [(2, .int l2), (3, .int l3)] [.int l3, .int l2, .int s0] m Q
  refine y_call rfl rfl rfl rfl rfl (Nat.le_of_ble_eq_true rfl) (Nat.le_of_ble_eq_true rfl) rfl (by decide) H (fun v1 m1 H => ?_)
  obtain ⟨u1, rfl, H⟩ := H
  show yP (xg xs) (d + 1) 360 126 [(2, .int l2), (3, .int l3)] [.int u1] m1 Q
  exact y_iret rfl rfl rfl H
set_option maxRecDepth 20000 in
/-- CodeMakerModel.standard from 139 on -/
theorem w360_139 (xs : List Int32) (d : Nat) (l2 : Int32) (l3 : Int32) (s0 : Int32) (m : yM) (Q : Option Value → yM → Prop) (H : (yC (xg xs) d 363 [.int s0, .int l2, .int l3] m (fun v1 m1 => ∃ u1, v1 = some (Value.int u1) ∧ Q (some (.int u1)) m1))) : yP (xg xs) (d + 1) 360 139 [(2, .int l2), (3, .int l3)] [.int s0] m Q := by
  refine y_st rfl rfl rfl rfl rfl (fun _ _ => rfl) ?_
  refine y_st rfl rfl rfl rfl rfl (fun _ _ => rfl) ?_
  show yP (xg xs) (d + 1) 360 141 [(2, .int l2), (3, .int l3)] [.int l3, .int l2, .int s0] m Q
  refine y_call rfl rfl rfl rfl rfl (Nat.le_of_ble_eq_true rfl) (Nat.le_of_ble_eq_true rfl) rfl (by decide) H (fun v1 m1 H => ?_)
  obtain ⟨u1, rfl, H⟩ := H
  show yP (xg xs) (d + 1) 360 144 [(2, .int l2), (3, .int l3)] [.int u1] m1 Q
  exact y_iret rfl rfl rfl H
set_option maxRecDepth 20000 in
/-- CodeMakerModel.one from 0 on -/
theorem w361_0 (xs : List Int32) (d : Nat) (l0 : Int32) (l1 : Int32) (m : yM) (Q : Option Value → yM → Prop) (H : ((l0 = (0 : Int32) → (yC (xg xs) d 362 [.int (-l1)] m (fun v1 m1 => ∃ u1, v1 = some (Value.int u1) ∧ Q (some (.int u1)) m1))) ∧ (l0 = (1 : Int32) → Q (some (.int (-l1))) m) ∧ (l0 = (2 : Int32) → ((¬ l1 = 0 → Q (some (.int (0 : Int32))) m) ∧ (l1 = 0 → Q (some (.int (1 : Int32))) m))) ∧ (l0 = (3 : Int32) → Q (some (.int (l1 ^^^ ((-1) : Int32)))) m) ∧ (l0 = (4 : Int32) → ((0 ≤ l1 → yP (xg xs) (d + 1) 361 77 [] [.int l1] m Q) ∧ (¬ 0 ≤ l1 → yP (xg xs) (d + 1) 361 77 [] [.int (-l1)] m Q))) ∧ (l0 = (5 : Int32) → ((0 ≤ l1 → Q (some (.int l1)) m) ∧ (¬ 0 ≤ l1 → Q (some (.int (-l1))) m))) ∧ (l0 = (6 : Int32) → (yC (xg xs) d 362 [.int l1] m (fun v2 m2 => ∃ u2, v2 = some (Value.int u2) ∧ Q (some (.int u2)) m2))) ∧ (¬ l0 = (0 : Int32) → ¬ l0 = (1 : Int32) → ¬ l0 = (2 : Int32) → ¬ l0 = (3 : Int32) → ¬ l0 = (4 : Int32) → ¬ l0 = (5 : Int32) → ¬ l0 = (6 : Int32) → ((¬ l1 = 0 → Q (some (.int (1 : Int32))) m) ∧ (l1 = 0 → Q (some (.int (0 : Int32))) m))))) : yP (xg xs) (d + 1) 361 0 [(0, .int l0), (1, .int l1)] [] m Q := by
  refine y_st rfl rfl rfl rfl rfl (fun _ _ => rfl) ?_
  show yP (xg xs) (d + 1) 361 1 [(0, .int l0), (1, .int l1)] [.int l0] m Q
  by_cases h0 : l0 = (0 : Int32)
  · replace H := H.1 h0
    refine y_tsw (t := 44) rfl rfl (by rw [h0]; rfl) ?_
    clear h0
    refine y_st rfl rfl rfl rfl rfl (fun _ _ => rfl) ?_
    refine y_st rfl rfl rfl rfl rfl (fun _ _ => rfl) ?_
    show yP (xg xs) (d + 1) 361 46 [(0, .int l0), (1, .int l1)] [.int (-l1)] m Q
    refine y_call rfl rfl rfl rfl rfl (Nat.le_of_ble_eq_true rfl) (Nat.le_of_ble_eq_true rfl) rfl (by decide) H (fun v1 m1 H => ?_)
    obtain ⟨u1, rfl, H⟩ := H
    show yP (xg xs) (d + 1) 361 49 [(0, .int l0), (1, .int l1)] [.int u1] m1 Q
    exact y_iret rfl rfl rfl H
  replace H := H.2
  by_cases h1 : l0 = (1 : Int32)
  · replace H := H.1 h1
    refine y_tsw (t := 50) rfl rfl (by rw [h1]; rfl) ?_
    clear h1 h0
    refine y_st rfl rfl rfl rfl rfl (fun _ _ => rfl) ?_
    refine y_st rfl rfl rfl rfl rfl (fun _ _ => rfl) ?_
    show yP (xg xs) (d + 1) 361 52 [(0, .int l0), (1, .int l1)] [.int (-l1)] m Q
    exact y_iret rfl rfl rfl H
  replace H := H.2
  by_cases h2 : l0 = (2 : Int32)
  · replace H := H.1 h2
    refine y_tsw (t := 53) rfl rfl (by rw [h2]; rfl) ?_
    clear h2 h1 h0
    refine y_st rfl rfl rfl rfl rfl (fun _ _ => rfl) ?_
    show yP (xg xs) (d + 1) 361 54 [(0, .int l0), (1, .int l1)] [.int l1] m Q
    refine y_zne (t := 61) rfl rfl rfl (fun h => ?_) (fun h => ?_)
    · replace H := H.1 h; clear h
      refine y_st rfl rfl rfl rfl rfl (fun _ _ => rfl) ?_
      show yP (xg xs) (d + 1) 361 62 [(0, .int l0), (1, .int l1)] [.int (0 : Int32)] m Q
      exact y_iret rfl rfl rfl H
    · replace H := H.2 h; clear h
      refine y_st rfl rfl rfl rfl rfl (fun _ _ => rfl) ?_
      refine y_st rfl rfl rfl rfl rfl (fun _ _ => rfl) ?_
      show yP (xg xs) (d + 1) 361 62 [(0, .int l0), (1, .int l1)] [.int (1 : Int32)] m Q
      exact y_iret rfl rfl rfl H
  replace H := H.2
  by_cases h3 : l0 = (3 : Int32)
  · replace H := H.1 h3
    refine y_tsw (t := 63) rfl rfl (by rw [h3]; rfl) ?_
    clear h3 h2 h1 h0
    refine y_st rfl rfl rfl rfl rfl (fun _ _ => rfl) ?_
    refine y_st rfl rfl rfl rfl rfl (fun _ _ => rfl) ?_
    refine y_st rfl rfl rfl rfl rfl (fun _ _ => rfl) ?_
    show yP (xg xs) (d + 1) 361 66 [(0, .int l0), (1, .int l1)] [.int (l1 ^^^ ((-1) : Int32))] m Q
    exact y_iret rfl rfl rfl H
  replace H := H.2
  by_cases h4 : l0 = (4 : Int32)
  · replace H := H.1 h4
    refine y_tsw (t := 67) rfl rfl (by rw [h4]; rfl) ?_
    clear h4 h3 h2 h1 h0
    refine y_st rfl rfl rfl rfl rfl (fun _ _ => rfl) ?_
    show yP (xg xs) (d + 1) 361 68 [(0, .int l0), (1, .int l1)] [.int l1] m Q
    refine y_zge (t := 76) rfl rfl rfl (fun h => ?_) (fun h => ?_)
    · replace H := H.1 h; clear h
      refine y_st rfl rfl rfl rfl rfl (fun _ _ => rfl) ?_
      show yP (xg xs) (d + 1) 361 77 [(0, .int l0), (1, .int l1)] [.int l1] m Q
      refine y_headS (l2 := []) [] [] [0, 1] rfl rfl (by decide) rfl (by decide) ?_
      exact H
    · replace H := H.2 h; clear h
      refine y_st rfl rfl rfl rfl rfl (fun _ _ => rfl) ?_
      refine y_st rfl rfl rfl rfl rfl (fun _ _ => rfl) ?_
      refine y_st rfl rfl rfl rfl rfl (fun _ _ => rfl) ?_
      show yP (xg xs) (d + 1) 361 77 [(0, .int l0), (1, .int l1)] [.int (-l1)] m Q
      refine y_headS (l2 := []) [] [] [0, 1] rfl rfl (by decide) rfl (by decide) ?_
      exact H
  replace H := H.2
  by_cases h5 : l0 = (5 : Int32)
  · replace H := H.1 h5
    refine y_tsw (t := 81) rfl rfl (by rw [h5]; rfl) ?_
    clear h5 h4 h3 h2 h1 h0
    refine y_st rfl rfl rfl rfl rfl (fun _ _ => rfl) ?_
    show yP (xg xs) (d + 1) 361 82 [(0, .int l0), (1, .int l1)] [.int l1] m Q
    refine y_zge (t := 90) rfl rfl rfl (fun h => ?_) (fun h => ?_)
    · replace H := H.1 h; clear h
      refine y_st rfl rfl rfl rfl rfl (fun _ _ => rfl) ?_
      show yP (xg xs) (d + 1) 361 91 [(0, .int l0), (1, .int l1)] [.int l1] m Q
      exact y_iret rfl rfl rfl H
    · replace H := H.2 h; clear h
      refine y_st rfl rfl rfl rfl rfl (fun _ _ => rfl) ?_
      refine y_st rfl rfl rfl rfl rfl (fun _ _ => rfl) ?_
      refine y_st rfl rfl rfl rfl rfl (fun _ _ => rfl) ?_
      show yP (xg xs) (d + 1) 361 91 [(0, .int l0), (1, .int l1)] [.int (-l1)] m Q
      exact y_iret rfl rfl rfl H
  replace H := H.2
  by_cases h6 : l0 = (6 : Int32)
  · replace H := H.1 h6
    refine y_tsw (t := 92) rfl rfl (by rw [h6]; rfl) ?_
    clear h6 h5 h4 h3 h2 h1 h0
    refine y_st rfl rfl rfl rfl rfl (fun _ _ => rfl) ?_
    show yP (xg xs) (d + 1) 361 93 [(0, .int l0), (1, .int l1)] [.int l1] m Q
    refine y_call rfl rfl rfl rfl rfl (Nat.le_of_ble_eq_true rfl) (Nat.le_of_ble_eq_true rfl) rfl (by decide) H (fun v2 m2 H => ?_)
    obtain ⟨u2, rfl, H⟩ := H
    show yP (xg xs) (d + 1) 361 96 [(0, .int l0), (1, .int l1)] [.int u2] m2 Q
    exact y_iret rfl rfl rfl H
  replace H := H.2
  refine y_tsw (t := 97) rfl rfl ((if_pos (by have g0 := ne_lit (0 : Int32) 0 rfl h0; have g1 := ne_lit (1 : Int32) 1 rfl h1; have g2 := ne_lit (2 : Int32) 2 rfl h2; have g3 := ne_lit (3 : Int32) 3 rfl h3; have g4 := ne_lit (4 : Int32) 4 rfl h4; have g5 := ne_lit (5 : Int32) 5 rfl h5; have g6 := ne_lit (6 : Int32) 6 rfl h6; omega)).trans rfl) ?_
  replace H := H h0 h1 h2 h3 h4 h5 h6
  clear h6 h5 h4 h3 h2 h1 h0
  refine y_st rfl rfl rfl rfl rfl (fun _ _ => rfl) ?_
  show yP (xg xs) (d + 1) 361 98 [(0, .int l0), (1, .int l1)] [.int l1] m Q
  refine y_zne (t := 105) rfl rfl rfl (fun h => ?_) (fun h => ?_)
  · replace H := H.1 h; clear h
    refine y_st rfl rfl rfl rfl rfl (fun _ _ => rfl) ?_
    show yP (xg xs) (d + 1) 361 106 [(0, .int l0), (1, .int l1)] [.int (1 : Int32)] m Q
    exact y_iret rfl rfl rfl H
  · replace H := H.2 h; clear h
    refine y_st rfl rfl rfl rfl rfl (fun _ _ => rfl) ?_
    refine y_st rfl rfl rfl rfl rfl (fun _ _ => rfl) ?_
    show yP (xg xs) (d + 1) 361 106 [(0, .int l0), (1, .int l1)] [.int (0 : Int32)] m Q
    exact y_iret rfl rfl rfl H
set_option maxRecDepth 20000 in
/-- CodeMakerModel.one from 77 on -/
theorem w361_77 (xs : List Int32) (d : Nat) (s0 : Int32) (m : yM) (Q : Option Value → yM → Prop) (H : (yC (xg xs) d 362 [.int s0] m (fun v1 m1 => ∃ u1, v1 = some (Value.int u1) ∧ Q (some (.int u1)) m1))) : yP (xg xs) (d + 1) 361 77 [] [.int s0] m Q := by
  show yP (xg xs) (d + 1) 361 77 [] [.int s0] m Q
  refine y_call rfl rfl rfl rfl rfl (Nat.le_of_ble_eq_true rfl) (Nat.le_of_ble_eq_true rfl) rfl (by decide) H (fun v1 m1 H => ?_)
  obtain ⟨u1, rfl, H⟩ := H
  show yP (xg xs) (d + 1) 361 80 [] [.int u1] m1 Q
  exact y_iret rfl rfl rfl H
set_option maxRecDepth 20000 in
/-- CodeMakerModel.low16 from 0 on -/
theorem w362_0 (xs : List Int32) (d : Nat) (l0 : Int32) (m : yM) (Q : Option Value → yM → Prop) (H : Q (some (.int ((l0 <<< ((16 : Int32) &&& 31)) >>> ((16 : Int32) &&& 31)))) m) : yP (xg xs) (d + 1) 362 0 [(0, .int l0)] [] m Q := by
  refine y_st rfl rfl rfl rfl rfl (fun _ _ => rfl) ?_
  refine y_st rfl rfl rfl rfl rfl (fun _ _ => rfl) ?_
  refine y_st rfl rfl rfl rfl rfl (fun _ _ => rfl) ?_
  refine y_st rfl rfl rfl rfl rfl (fun _ _ => rfl) ?_
  refine y_st rfl rfl rfl rfl rfl (fun _ _ => rfl) ?_
  show yP (xg xs) (d + 1) 362 7 [(0, .int l0)] [.int ((l0 <<< ((16 : Int32) &&& 31)) >>> ((16 : Int32) &&& 31))] m Q
  exact y_iret rfl rfl rfl H
set_option maxRecDepth 20000 in
/-- CodeMakerModel.two from 0 on -/
theorem w363_0 (xs : List Int32) (d : Nat) (l0 : Int32) (l1 : Int32) (l2 : Int32) (m : yM) (Q : Option Value → yM → Prop) (H : ((l2 < 0 → yP (xg xs) (d + 1) 363 14 [(0, .int l0), (1, .int l1), (2, .int l2)] [] m Q) ∧ (¬ l2 < 0 → (((16 : Int32) ≤ l2 → yP (xg xs) (d + 1) 363 14 [(0, .int l0), (1, .int l1), (2, .int l2)] [] m Q) ∧ (¬ (16 : Int32) ≤ l2 → yP (xg xs) (d + 1) 363 15 [(0, .int l0), (1, .int l1), (2, .int l2)] [.int (1 : Int32)] m Q))))) : yP (xg xs) (d + 1) 363 0 [(0, .int l0), (1, .int l1), (2, .int l2)] [] m Q := by
  refine y_st rfl rfl rfl rfl rfl (fun _ _ => rfl) ?_
  show yP (xg xs) (d + 1) 363 1 [(0, .int l0), (1, .int l1), (2, .int l2)] [.int l2] m Q
  refine y_zlt (t := 14) rfl rfl rfl (fun h => ?_) (fun h => ?_)
  · replace H := H.1 h; clear h
    show yP (xg xs) (d + 1) 363 14 [(0, .int l0), (1, .int l1), (2, .int l2)] [] m Q
    exact H
  · replace H := H.2 h; clear h
    refine y_st rfl rfl rfl rfl rfl (fun _ _ => rfl) ?_
    refine y_st rfl rfl rfl rfl rfl (fun _ _ => rfl) ?_
    show yP (xg xs) (d + 1) 363 7 [(0, .int l0), (1, .int l1), (2, .int l2)] [.int (16 : Int32), .int l2] m Q
    refine y_ige (t := 14) rfl rfl rfl (fun h => ?_) (fun h => ?_)
    · replace H := H.1 h; clear h
      show yP (xg xs) (d + 1) 363 14 [(0, .int l0), (1, .int l1), (2, .int l2)] [] m Q
      exact H
    · replace H := H.2 h; clear h
      refine y_st rfl rfl rfl rfl rfl (fun _ _ => rfl) ?_
      refine y_st rfl rfl rfl rfl rfl (fun _ _ => rfl) ?_
      show yP (xg xs) (d + 1) 363 15 [(0, .int l0), (1, .int l1), (2, .int l2)] [.int (1 : Int32)] m Q
      exact H
set_option maxRecDepth 20000 in
/-- CodeMakerModel.two from 14 on -/
theorem w363_14 (xs : List Int32) (d : Nat) (l0 : Int32) (l1 : Int32) (l2 : Int32) (m : yM) (Q : Option Value → yM → Prop) (H : yP (xg xs) (d + 1) 363 15 [(0, .int l0), (1, .int l1), (2, .int l2)] [.int (0 : Int32)] m Q) : yP (xg xs) (d + 1) 363 14 [(0, .int l0), (1, .int l1), (2, .int l2)] [] m Q := by
  refine y_st rfl rfl rfl rfl rfl (fun _ _ => rfl) ?_
  show yP (xg xs) (d + 1) 363 15 [(0, .int l0), (1, .int l1), (2, .int l2)] [.int (0 : Int32)] m Q
  exact H
set_option maxRecDepth 20000 in
/-- CodeMakerModel.two from 15 on -/
theorem w363_15 (xs : List Int32) (d : Nat) (l0 : Int32) (l1 : Int32) (l2 : Int32) (s0 : Int32) (m : yM) (Q : Option Value → yM → Prop) (H : ((l2 < 0 → yP (xg xs) (d + 1) 363 30 [(0, .int l0), (1, .int l1), (2, .int l2), (3, .int s0)] [] m Q) ∧ (¬ l2 < 0 → (((32 : Int32) ≤ l2 → yP (xg xs) (d + 1) 363 30 [(0, .int l0), (1, .int l1), (2, .int l2), (3, .int s0)] [] m Q) ∧ (¬ (32 : Int32) ≤ l2 → yP (xg xs) (d + 1) 363 31 [(0, .int l0), (1, .int l1), (2, .int l2), (3, .int s0)] [.int (1 : Int32)] m Q))))) : yP (xg xs) (d + 1) 363 15 [(0, .int l0), (1, .int l1), (2, .int l2)] [.int s0] m Q := by
  refine y_st rfl rfl rfl rfl rfl (fun _ _ => rfl) ?_
  refine y_st rfl rfl rfl rfl rfl (fun _ _ => rfl) ?_
  show yP (xg xs) (d + 1) 363 17 [(3, .int s0), (0, .int l0), (1, .int l1), (2, .int l2)] [.int l2] m Q
  refine y_zlt (t := 30) rfl rfl rfl (fun h => ?_) (fun h => ?_)
  · replace H := H.1 h; clear h
    show yP (xg xs) (d + 1) 363 30 [(3, .int s0), (0, .int l0), (1, .int l1), (2, .int l2)] [] m Q
    refine y_headS (l2 := [(0, .int l0), (1, .int l1), (2, .int l2), (3, .int s0)]) [1, 2, 3, 0] [0, 1, 2, 3] [3, 0, 1, 2] rfl rfl (by decide) rfl (by decide) ?_
    exact H
  · replace H := H.2 h; clear h
    refine y_st rfl rfl rfl rfl rfl (fun _ _ => rfl) ?_
    refine y_st rfl rfl rfl rfl rfl (fun _ _ => rfl) ?_
    show yP (xg xs) (d + 1) 363 23 [(3, .int s0), (0, .int l0), (1, .int l1), (2, .int l2)] [.int (32 : Int32), .int l2] m Q
    refine y_ige (t := 30) rfl rfl rfl (fun h => ?_) (fun h => ?_)
    · replace H := H.1 h; clear h
      show yP (xg xs) (d + 1) 363 30 [(3, .int s0), (0, .int l0), (1, .int l1), (2, .int l2)] [] m Q
      refine y_headS (l2 := [(0, .int l0), (1, .int l1), (2, .int l2), (3, .int s0)]) [1, 2, 3, 0] [0, 1, 2, 3] [3, 0, 1, 2] rfl rfl (by decide) rfl (by decide) ?_
      exact H
    · replace H := H.2 h; clear h
      refine y_st rfl rfl rfl rfl rfl (fun _ _ => rfl) ?_
      refine y_st rfl rfl rfl rfl rfl (fun _ _ => rfl) ?_
      show yP (xg xs) (d + 1) 363 31 [(3, .int s0), (0, .int l0), (1, .int l1), (2, .int l2)] [.int (1 : Int32)] m Q
      refine y_headS (l2 := [(0, .int l0), (1, .int l1), (2, .int l2), (3, .int s0)]) [1, 2, 3, 0] [0, 1, 2, 3] [3, 0, 1, 2] rfl rfl (by decide) rfl (by decide) ?_
      exact H
set_option maxRecDepth 20000 in
/-- CodeMakerModel.two from 30 on -/
theorem w363_30 (xs : List Int32) (d : Nat) (l0 : Int32) (l1 : Int32) (l2 : Int32) (l3 : Int32) (m : yM) (Q : Option Value → yM → Prop) (H : yP (xg xs) (d + 1) 363 31 [(0, .int l0), (1, .int l1), (2, .int l2), (3, .int l3)] [.int (0 : Int32)] m Q) : yP (xg xs) (d + 1) 363 30 [(0, .int l0), (1, .int l1), (2, .int l2), (3, .int l3)] [] m Q := by
  refine y_st rfl rfl rfl rfl rfl (fun _ _ => rfl) ?_
  show yP (xg xs) (d + 1) 363 31 [(0, .int l0), (1, .int l1), (2, .int l2), (3, .int l3)] [.int (0 : Int32)] m Q
  exact H
set_option maxRecDepth 20000 in
/-- CodeMakerModel.two from 31 on -/
theorem w363_31 (xs : List Int32) (d : Nat) (l0 : Int32) (l1 : Int32) (l2 : Int32) (l3 : Int32) (s0 : Int32) (m : yM) (Q : Option Value → yM → Prop) (H : ((l0 = (0 : Int32) → (yC (xg xs) d 362 [.int (l1 + l2)] m (fun v1 m1 => ∃ u1, v1 = some (Value.int u1) ∧ Q (some (.int u1)) m1))) ∧ (l0 = (1 : Int32) → (yC (xg xs) d 362 [.int (l1 - l2)] m (fun v2 m2 => ∃ u2, v2 = some (Value.int u2) ∧ Q (some (.int u2)) m2))) ∧ (l0 = (2 : Int32) → (yC (xg xs) d 362 [.int (l1 * l2)] m (fun v3 m3 => ∃ u3, v3 = some (Value.int u3) ∧ Q (some (.int u3)) m3))) ∧ (l0 = (3 : Int32) → (¬ l2 = 0 ∧ (yC (xg xs) d 362 [.int (l1 / l2)] m (fun v4 m4 => ∃ u4, v4 = some (Value.int u4) ∧ Q (some (.int u4)) m4)))) ∧ (l0 = (4 : Int32) → (¬ l2 = 0 ∧ (yC (xg xs) d 362 [.int (l1 - l1 / l2 * l2)] m (fun v5 m5 => ∃ u5, v5 = some (Value.int u5) ∧ Q (some (.int u5)) m5)))) ∧ (l0 = (5 : Int32) → Q (some (.int (l1 + l2))) m) ∧ (l0 = (6 : Int32) → Q (some (.int (l1 - l2))) m) ∧ (l0 = (7 : Int32) → Q (some (.int (l1 * l2))) m) ∧ (l0 = (8 : Int32) → (¬ l2 = 0 ∧ Q (some (.int (l1 / l2))) m)) ∧ (l0 = (9 : Int32) → (¬ l2 = 0 ∧ Q (some (.int (l1 - l1 / l2 * l2))) m)) ∧ (l0 = (10 : Int32) → Q (some (.int (l1 &&& l2))) m) ∧ (l0 = (11 : Int32) → Q (some (.int (l1 ||| l2))) m) ∧ (l0 = (12 : Int32) → Q (some (.int (l1 ^^^ l2))) m) ∧ (l0 = (13 : Int32) → ((¬ l1 = l2 → Q (some (.int (0 : Int32))) m) ∧ (l1 = l2 → Q (some (.int (1 : Int32))) m))) ∧ (l0 = (14 : Int32) → ((l1 = l2 → Q (some (.int (0 : Int32))) m) ∧ (¬ l1 = l2 → Q (some (.int (1 : Int32))) m))) ∧ (l0 = (15 : Int32) → ((l2 ≤ l1 → Q (some (.int (0 : Int32))) m) ∧ (¬ l2 ≤ l1 → Q (some (.int (1 : Int32))) m))) ∧ (l0 = (16 : Int32) → ((l1 ≤ l2 → Q (some (.int (0 : Int32))) m) ∧ (¬ l1 ≤ l2 → Q (some (.int (1 : Int32))) m))) ∧ (l0 = (17 : Int32) → ((l2 < l1 → Q (some (.int (0 : Int32))) m) ∧ (¬ l2 < l1 → Q (some (.int (1 : Int32))) m))) ∧ (l0 = (18 : Int32) → ((l1 < l2 → Q (some (.int (0 : Int32))) m) ∧ (¬ l1 < l2 → Q (some (.int (1 : Int32))) m))) ∧ (l0 = (19 : Int32) → ((l3 = 0 → Q (some (.int (0 : Int32))) m) ∧ (¬ l3 = 0 → (yC (xg xs) d 362 [.int (l1 <<< (l2 &&& 31))] m (fun v6 m6 => ∃ u6, v6 = some (Value.int u6) ∧ Q (some (.int u6)) m6))))) ∧ (l0 = (20 : Int32) → ((l3 = 0 → Q (some (.int (0 : Int32))) m) ∧ (¬ l3 = 0 → (yC (xg xs) d 362 [.int ((l1 &&& (65535 : Int32)) >>> (l2 &&& 31))] m (fun v7 m7 => ∃ u7, v7 = some (Value.int u7) ∧ Q (some (.int u7)) m7))))) ∧ (l0 = (21 : Int32) → ((s0 = 0 → Q (some (.int (0 : Int32))) m) ∧ (¬ s0 = 0 → Q (some (.int (l1 <<< (l2 &&& 31)))) m))) ∧ (l0 = (22 : Int32) → ((s0 = 0 → Q (some (.int (0 : Int32))) m) ∧ (¬ s0 = 0 → Q (some (.int ((l1.toUInt32 >>> (l2.toUInt32 &&& Int32.toUInt32 31)).toInt32))) m))) ∧ (l0 = (23 : Int32) → ((l2 ≤ l1 → Q (some (.int l2)) m) ∧ (¬ l2 ≤ l1 → Q (some (.int l1)) m))) ∧ (¬ l0 = (0 : Int32) → ¬ l0 = (1 : Int32) → ¬ l0 = (2 : Int32) → ¬ l0 = (3 : Int32) → ¬ l0 = (4 : Int32) → ¬ l0 = (5 : Int32) → ¬ l0 = (6 : Int32) → ¬ l0 = (7 : Int32) → ¬ l0 = (8 : Int32) → ¬ l0 = (9 : Int32) → ¬ l0 = (10 : Int32) → ¬ l0 = (11 : Int32) → ¬ l0 = (12 : Int32) → ¬ l0 = (13 : Int32) → ¬ l0 = (14 : Int32) → ¬ l0 = (15 : Int32) → ¬ l0 = (16 : Int32) → ¬ l0 = (17 : Int32) → ¬ l0 = (18 : Int32) → ¬ l0 = (19 : Int32) → ¬ l0 = (20 : Int32) → ¬ l0 = (21 : Int32) → ¬ l0 = (22 : Int32) → ¬ l0 = (23 : Int32) → ((l1 ≤ l2 → Q (some (.int l2)) m) ∧ (¬ l1 ≤ l2 → Q (some (.int l1)) m))))) : yP (xg xs) (d + 1) 363 31 [(0, .int l0), (1, .int l1), (2, .int l2), (3, .int l3)] [.int s0] m Q := by
  refine y_st rfl rfl rfl rfl rfl (fun _ _ => rfl) ?_
  refine y_st rfl rfl rfl rfl rfl (fun _ _ => rfl) ?_
  show yP (xg xs) (d + 1) 363 34 [(4, .int s0), (0, .int l0), (1, .int l1), (2, .int l2), (3, .int l3)] [.int l0] m Q
  by_cases h0 : l0 = (0 : Int32)
  · replace H := H.1 h0
    refine y_tsw (t := 144) rfl rfl (by rw [h0]; rfl) ?_
    clear h0
    refine y_st rfl rfl rfl rfl rfl (fun _ _ => rfl) ?_
    refine y_st rfl rfl rfl rfl rfl (fun _ _ => rfl) ?_
    refine y_st rfl rfl rfl rfl rfl (fun _ _ => rfl) ?_
    show yP (xg xs) (d + 1) 363 147 [(4, .int s0), (0, .int l0), (1, .int l1), (2, .int l2), (3, .int l3)] [.int (l1 + l2)] m Q
    refine y_call rfl rfl rfl rfl rfl (Nat.le_of_ble_eq_true rfl) (Nat.le_of_ble_eq_true rfl) rfl (by decide) H (fun v1 m1 H => ?_)
    obtain ⟨u1, rfl, H⟩ := H
    show yP (xg xs) (d + 1) 363 150 [(4, .int s0), (0, .int l0), (1, .int l1), (2, .int l2), (3, .int l3)] [.int u1] m1 Q
    exact y_iret rfl rfl rfl H
  replace H := H.2
  by_cases h1 : l0 = (1 : Int32)
  · replace H := H.1 h1
    refine y_tsw (t := 151) rfl rfl (by rw [h1]; rfl) ?_
    clear h1 h0
    refine y_st rfl rfl rfl rfl rfl (fun _ _ => rfl) ?_
    refine y_st rfl rfl rfl rfl rfl (fun _ _ => rfl) ?_
    refine y_st rfl rfl rfl rfl rfl (fun _ _ => rfl) ?_
    show yP (xg xs) (d + 1) 363 154 [(4, .int s0), (0, .int l0), (1, .int l1), (2, .int l2), (3, .int l3)] [.int (l1 - l2)] m Q
    refine y_call rfl rfl rfl rfl rfl (Nat.le_of_ble_eq_true rfl) (Nat.le_of_ble_eq_true rfl) rfl (by decide) H (fun v2 m2 H => ?_)
    obtain ⟨u2, rfl, H⟩ := H
    show yP (xg xs) (d + 1) 363 157 [(4, .int s0), (0, .int l0), (1, .int l1), (2, .int l2), (3, .int l3)] [.int u2] m2 Q
    exact y_iret rfl rfl rfl H
  replace H := H.2
  by_cases h2 : l0 = (2 : Int32)
  · replace H := H.1 h2
    refine y_tsw (t := 158) rfl rfl (by rw [h2]; rfl) ?_
    clear h2 h1 h0
    refine y_st rfl rfl rfl rfl rfl (fun _ _ => rfl) ?_
    refine y_st rfl rfl rfl rfl rfl (fun _ _ => rfl) ?_
    refine y_st rfl rfl rfl rfl rfl (fun _ _ => rfl) ?_
    show yP (xg xs) (d + 1) 363 161 [(4, .int s0), (0, .int l0), (1, .int l1), (2, .int l2), (3, .int l3)] [.int (l1 * l2)] m Q
    refine y_call rfl rfl rfl rfl rfl (Nat.le_of_ble_eq_true rfl) (Nat.le_of_ble_eq_true rfl) rfl (by decide) H (fun v3 m3 H => ?_)
    obtain ⟨u3, rfl, H⟩ := H
    show yP (xg xs) (d + 1) 363 164 [(4, .int s0), (0, .int l0), (1, .int l1), (2, .int l2), (3, .int l3)] [.int u3] m3 Q
    exact y_iret rfl rfl rfl H
  replace H := H.2
  by_cases h3 : l0 = (3 : Int32)
  · replace H := H.1 h3
    refine y_tsw (t := 165) rfl rfl (by rw [h3]; rfl) ?_
    clear h3 h2 h1 h0
    refine y_st rfl rfl rfl rfl rfl (fun _ _ => rfl) ?_
    refine y_st rfl rfl rfl rfl rfl (fun _ _ => rfl) ?_
    show yP (xg xs) (d + 1) 363 167 [(4, .int s0), (0, .int l0), (1, .int l1), (2, .int l2), (3, .int l3)] [.int l2, .int l1] m Q
    refine y_idiv rfl rfl H.1 ?_
    replace H := H.2
    show yP (xg xs) (d + 1) 363 168 [(4, .int s0), (0, .int l0), (1, .int l1), (2, .int l2), (3, .int l3)] [.int (l1 / l2)] m Q
    refine y_call rfl rfl rfl rfl rfl (Nat.le_of_ble_eq_true rfl) (Nat.le_of_ble_eq_true rfl) rfl (by decide) H (fun v4 m4 H => ?_)
    obtain ⟨u4, rfl, H⟩ := H
    show yP (xg xs) (d + 1) 363 171 [(4, .int s0), (0, .int l0), (1, .int l1), (2, .int l2), (3, .int l3)] [.int u4] m4 Q
    exact y_iret rfl rfl rfl H
  replace H := H.2
  by_cases h4 : l0 = (4 : Int32)
  · replace H := H.1 h4
    refine y_tsw (t := 172) rfl rfl (by rw [h4]; rfl) ?_
    clear h4 h3 h2 h1 h0
    refine y_st rfl rfl rfl rfl rfl (fun _ _ => rfl) ?_
    refine y_st rfl rfl rfl rfl rfl (fun _ _ => rfl) ?_
    show yP (xg xs) (d + 1) 363 174 [(4, .int s0), (0, .int l0), (1, .int l1), (2, .int l2), (3, .int l3)] [.int l2, .int l1] m Q
    refine y_irem rfl rfl H.1 ?_
    replace H := H.2
    show yP (xg xs) (d + 1) 363 175 [(4, .int s0), (0, .int l0), (1, .int l1), (2, .int l2), (3, .int l3)] [.int (l1 - l1 / l2 * l2)] m Q
    refine y_call rfl rfl rfl rfl rfl (Nat.le_of_ble_eq_true rfl) (Nat.le_of_ble_eq_true rfl) rfl (by decide) H (fun v5 m5 H => ?_)
    obtain ⟨u5, rfl, H⟩ := H
    show yP (xg xs) (d + 1) 363 178 [(4, .int s0), (0, .int l0), (1, .int l1), (2, .int l2), (3, .int l3)] [.int u5] m5 Q
    exact y_iret rfl rfl rfl H
  replace H := H.2
  by_cases h5 : l0 = (5 : Int32)
  · replace H := H.1 h5
    refine y_tsw (t := 179) rfl rfl (by rw [h5]; rfl) ?_
    clear h5 h4 h3 h2 h1 h0
    refine y_st rfl rfl rfl rfl rfl (fun _ _ => rfl) ?_
    refine y_st rfl rfl rfl rfl rfl (fun _ _ => rfl) ?_
    refine y_st rfl rfl rfl rfl rfl (fun _ _ => rfl) ?_
    show yP (xg xs) (d + 1) 363 182 [(4, .int s0), (0, .int l0), (1, .int l1), (2, .int l2), (3, .int l3)] [.int (l1 + l2)] m Q
    exact y_iret rfl rfl rfl H
  replace H := H.2
  by_cases h6 : l0 = (6 : Int32)
  · replace H := H.1 h6
    refine y_tsw (t := 183) rfl rfl (by rw [h6]; rfl) ?_
    clear h6 h5 h4 h3 h2 h1 h0
    refine y_st rfl rfl rfl rfl rfl (fun _ _ => rfl) ?_
    refine y_st rfl rfl rfl rfl rfl (fun _ _ => rfl) ?_
    refine y_st rfl rfl rfl rfl rfl (fun _ _ => rfl) ?_
    show yP (xg xs) (d + 1) 363 186 [(4, .int s0), (0, .int l0), (1, .int l1), (2, .int l2), (3, .int l3)] [.int (l1 - l2)] m Q
    exact y_iret rfl rfl rfl H
  replace H := H.2
  by_cases h7 : l0 = (7 : Int32)
  · replace H := H.1 h7
    refine y_tsw (t := 187) rfl rfl (by rw [h7]; rfl) ?_
    clear h7 h6 h5 h4 h3 h2 h1 h0
    refine y_st rfl rfl rfl rfl rfl (fun _ _ => rfl) ?_
    refine y_st rfl rfl rfl rfl rfl (fun _ _ => rfl) ?_
    refine y_st rfl rfl rfl rfl rfl (fun _ _ => rfl) ?_
    show yP (xg xs) (d + 1) 363 190 [(4, .int s0), (0, .int l0), (1, .int l1), (2, .int l2), (3, .int l3)] [.int (l1 * l2)] m Q
    exact y_iret rfl rfl rfl H
  replace H := H.2
  by_cases h8 : l0 = (8 : Int32)
  · replace H := H.1 h8
    refine y_tsw (t := 191) rfl rfl (by rw [h8]; rfl) ?_
    clear h8 h7 h6 h5 h4 h3 h2 h1 h0
    refine y_st rfl rfl rfl rfl rfl (fun _ _ => rfl) ?_
    refine y_st rfl rfl rfl rfl rfl (fun _ _ => rfl) ?_
    show yP (xg xs) (d + 1) 363 193 [(4, .int s0), (0, .int l0), (1, .int l1), (2, .int l2), (3, .int l3)] [.int l2, .int l1] m Q
    refine y_idiv rfl rfl H.1 ?_
    replace H := H.2
    show yP (xg xs) (d + 1) 363 194 [(4, .int s0), (0, .int l0), (1, .int l1), (2, .int l2), (3, .int l3)] [.int (l1 / l2)] m Q
    exact y_iret rfl rfl rfl H
  replace H := H.2
  by_cases h9 : l0 = (9 : Int32)
  · replace H := H.1 h9
    refine y_tsw (t := 195) rfl rfl (by rw [h9]; rfl) ?_
    clear h9 h8 h7 h6 h5 h4 h3 h2 h1 h0
    refine y_st rfl rfl rfl rfl rfl (fun _ _ => rfl) ?_
    refine y_st rfl rfl rfl rfl rfl (fun _ _ => rfl) ?_
    show yP (xg xs) (d + 1) 363 197 [(4, .int s0), (0, .int l0), (1, .int l1), (2, .int l2), (3, .int l3)] [.int l2, .int l1] m Q
    refine y_irem rfl rfl H.1 ?_
    replace H := H.2
    show yP (xg xs) (d + 1) 363 198 [(4, .int s0), (0, .int l0), (1, .int l1), (2, .int l2), (3, .int l3)] [.int (l1 - l1 / l2 * l2)] m Q
    exact y_iret rfl rfl rfl H
  replace H := H.2
  by_cases h10 : l0 = (10 : Int32)
  · replace H := H.1 h10
    refine y_tsw (t := 199) rfl rfl (by rw [h10]; rfl) ?_
    clear h10 h9 h8 h7 h6 h5 h4 h3 h2 h1 h0
    refine y_st rfl rfl rfl rfl rfl (fun _ _ => rfl) ?_
    refine y_st rfl rfl rfl rfl rfl (fun _ _ => rfl) ?_
    refine y_st rfl rfl rfl rfl rfl (fun _ _ => rfl) ?_
    show yP (xg xs) (d + 1) 363 202 [(4, .int s0), (0, .int l0), (1, .int l1), (2, .int l2), (3, .int l3)] [.int (l1 &&& l2)] m Q
    exact y_iret rfl rfl rfl H
  replace H := H.2
  by_cases h11 : l0 = (11 : Int32)
  · replace H := H.1 h11
    refine y_tsw (t := 203) rfl rfl (by rw [h11]; rfl) ?_
    clear h11 h10 h9 h8 h7 h6 h5 h4 h3 h2 h1 h0
    refine y_st rfl rfl rfl rfl rfl (fun _ _ => rfl) ?_
    refine y_st rfl rfl rfl rfl rfl (fun _ _ => rfl) ?_
    refine y_st rfl rfl rfl rfl rfl (fun _ _ => rfl) ?_
    show yP (xg xs) (d + 1) 363 206 [(4, .int s0), (0, .int l0), (1, .int l1), (2, .int l2), (3, .int l3)] [.int (l1 ||| l2)] m Q
    exact y_iret rfl rfl rfl H
  replace H := H.2
  by_cases h12 : l0 = (12 : Int32)
  · replace H := H.1 h12
    refine y_tsw (t := 207) rfl rfl (by rw [h12]; rfl) ?_
    clear h12 h11 h10 h9 h8 h7 h6 h5 h4 h3 h2 h1 h0
    refine y_st rfl rfl rfl rfl rfl (fun _ _ => rfl) ?_
    refine y_st rfl rfl rfl rfl rfl (fun _ _ => rfl) ?_
    refine y_st rfl rfl rfl rfl rfl (fun _ _ => rfl) ?_
    show yP (xg xs) (d + 1) 363 210 [(4, .int s0), (0, .int l0), (1, .int l1), (2, .int l2), (3, .int l3)] [.int (l1 ^^^ l2)] m Q
    exact y_iret rfl rfl rfl H
  replace H := H.2
  by_cases h13 : l0 = (13 : Int32)
  · replace H := H.1 h13
    refine y_tsw (t := 211) rfl rfl (by rw [h13]; rfl) ?_
    clear h13 h12 h11 h10 h9 h8 h7 h6 h5 h4 h3 h2 h1 h0
    refine y_st rfl rfl rfl rfl rfl (fun _ _ => rfl) ?_
    refine y_st rfl rfl rfl rfl rfl (fun _ _ => rfl) ?_
    show yP (xg xs) (d + 1) 363 213 [(4, .int s0), (0, .int l0), (1, .int l1), (2, .int l2), (3, .int l3)] [.int l2, .int l1] m Q
    refine y_ine (t := 220) rfl rfl rfl (fun h => ?_) (fun h => ?_)
    · replace H := H.1 h; clear h
      refine y_st rfl rfl rfl rfl rfl (fun _ _ => rfl) ?_
      show yP (xg xs) (d + 1) 363 221 [(4, .int s0), (0, .int l0), (1, .int l1), (2, .int l2), (3, .int l3)] [.int (0 : Int32)] m Q
      exact y_iret rfl rfl rfl H
    · replace H := H.2 h; clear h
      refine y_st rfl rfl rfl rfl rfl (fun _ _ => rfl) ?_
      refine y_st rfl rfl rfl rfl rfl (fun _ _ => rfl) ?_
      show yP (xg xs) (d + 1) 363 221 [(4, .int s0), (0, .int l0), (1, .int l1), (2, .int l2), (3, .int l3)] [.int (1 : Int32)] m Q
      exact y_iret rfl rfl rfl H
  replace H := H.2
  by_cases h14 : l0 = (14 : Int32)
  · replace H := H.1 h14
    refine y_tsw (t := 222) rfl rfl (by rw [h14]; rfl) ?_
    clear h14 h13 h12 h11 h10 h9 h8 h7 h6 h5 h4 h3 h2 h1 h0
    refine y_st rfl rfl rfl rfl rfl (fun _ _ => rfl) ?_
    refine y_st rfl rfl rfl rfl rfl (fun _ _ => rfl) ?_
    show yP (xg xs) (d + 1) 363 224 [(4, .int s0), (0, .int l0), (1, .int l1), (2, .int l2), (3, .int l3)] [.int l2, .int l1] m Q
    refine y_ieq (t := 231) rfl rfl rfl (fun h => ?_) (fun h => ?_)
    · replace H := H.1 h; clear h
      refine y_st rfl rfl rfl rfl rfl (fun _ _ => rfl) ?_
      show yP (xg xs) (d + 1) 363 232 [(4, .int s0), (0, .int l0), (1, .int l1), (2, .int l2), (3, .int l3)] [.int (0 : Int32)] m Q
      exact y_iret rfl rfl rfl H
    · replace H := H.2 h; clear h
      refine y_st rfl rfl rfl rfl rfl (fun _ _ => rfl) ?_
      refine y_st rfl rfl rfl rfl rfl (fun _ _ => rfl) ?_
      show yP (xg xs) (d + 1) 363 232 [(4, .int s0), (0, .int l0), (1, .int l1), (2, .int l2), (3, .int l3)] [.int (1 : Int32)] m Q
      exact y_iret rfl rfl rfl H
  replace H := H.2
  by_cases h15 : l0 = (15 : Int32)
  · replace H := H.1 h15
    refine y_tsw (t := 233) rfl rfl (by rw [h15]; rfl) ?_
    clear h15 h14 h13 h12 h11 h10 h9 h8 h7 h6 h5 h4 h3 h2 h1 h0
    refine y_st rfl rfl rfl rfl rfl (fun _ _ => rfl) ?_
    refine y_st rfl rfl rfl rfl rfl (fun _ _ => rfl) ?_
    show yP (xg xs) (d + 1) 363 235 [(4, .int s0), (0, .int l0), (1, .int l1), (2, .int l2), (3, .int l3)] [.int l2, .int l1] m Q
    refine y_ige (t := 242) rfl rfl rfl (fun h => ?_) (fun h => ?_)
    · replace H := H.1 h; clear h
      refine y_st rfl rfl rfl rfl rfl (fun _ _ => rfl) ?_
      show yP (xg xs) (d + 1) 363 243 [(4, .int s0), (0, .int l0), (1, .int l1), (2, .int l2), (3, .int l3)] [.int (0 : Int32)] m Q
      exact y_iret rfl rfl rfl H
    · replace H := H.2 h; clear h
      refine y_st rfl rfl rfl rfl rfl (fun _ _ => rfl) ?_
      refine y_st rfl rfl rfl rfl rfl (fun _ _ => rfl) ?_
      show yP (xg xs) (d + 1) 363 243 [(4, .int s0), (0, .int l0), (1, .int l1), (2, .int l2), (3, .int l3)] [.int (1 : Int32)] m Q
      exact y_iret rfl rfl rfl H
  replace H := H.2
  by_cases h16 : l0 = (16 : Int32)
  · replace H := H.1 h16
    refine y_tsw (t := 244) rfl rfl (by rw [h16]; rfl) ?_
    clear h16 h15 h14 h13 h12 h11 h10 h9 h8 h7 h6 h5 h4 h3 h2 h1 h0
    refine y_st rfl rfl rfl rfl rfl (fun _ _ => rfl) ?_
    refine y_st rfl rfl rfl rfl rfl (fun _ _ => rfl) ?_
    show yP (xg xs) (d + 1) 363 246 [(4, .int s0), (0, .int l0), (1, .int l1), (2, .int l2), (3, .int l3)] [.int l2, .int l1] m Q
    refine y_ile (t := 253) rfl rfl rfl (fun h => ?_) (fun h => ?_)
    · replace H := H.1 h; clear h
      refine y_st rfl rfl rfl rfl rfl (fun _ _ => rfl) ?_
      show yP (xg xs) (d + 1) 363 254 [(4, .int s0), (0, .int l0), (1, .int l1), (2, .int l2), (3, .int l3)] [.int (0 : Int32)] m Q
      exact y_iret rfl rfl rfl H
    · replace H := H.2 h; clear h
      refine y_st rfl rfl rfl rfl rfl (fun _ _ => rfl) ?_
      refine y_st rfl rfl rfl rfl rfl (fun _ _ => rfl) ?_
      show yP (xg xs) (d + 1) 363 254 [(4, .int s0), (0, .int l0), (1, .int l1), (2, .int l2), (3, .int l3)] [.int (1 : Int32)] m Q
      exact y_iret rfl rfl rfl H
  replace H := H.2
  by_cases h17 : l0 = (17 : Int32)
  · replace H := H.1 h17
    refine y_tsw (t := 255) rfl rfl (by rw [h17]; rfl) ?_
    clear h17 h16 h15 h14 h13 h12 h11 h10 h9 h8 h7 h6 h5 h4 h3 h2 h1 h0
    refine y_st rfl rfl rfl rfl rfl (fun _ _ => rfl) ?_
    refine y_st rfl rfl rfl rfl rfl (fun _ _ => rfl) ?_
    show yP (xg xs) (d + 1) 363 257 [(4, .int s0), (0, .int l0), (1, .int l1), (2, .int l2), (3, .int l3)] [.int l2, .int l1] m Q
    refine y_igt (t := 264) rfl rfl rfl (fun h => ?_) (fun h => ?_)
    · replace H := H.1 h; clear h
      refine y_st rfl rfl rfl rfl rfl (fun _ _ => rfl) ?_
      show yP (xg xs) (d + 1) 363 265 [(4, .int s0), (0, .int l0), (1, .int l1), (2, .int l2), (3, .int l3)] [.int (0 : Int32)] m Q
      exact y_iret rfl rfl rfl H
    · replace H := H.2 h; clear h
      refine y_st rfl rfl rfl rfl rfl (fun _ _ => rfl) ?_
      refine y_st rfl rfl rfl rfl rfl (fun _ _ => rfl) ?_
      show yP (xg xs) (d + 1) 363 265 [(4, .int s0), (0, .int l0), (1, .int l1), (2, .int l2), (3, .int l3)] [.int (1 : Int32)] m Q
      exact y_iret rfl rfl rfl H
  replace H := H.2
  by_cases h18 : l0 = (18 : Int32)
  · replace H := H.1 h18
    refine y_tsw (t := 266) rfl rfl (by rw [h18]; rfl) ?_
    clear h18 h17 h16 h15 h14 h13 h12 h11 h10 h9 h8 h7 h6 h5 h4 h3 h2 h1 h0
    refine y_st rfl rfl rfl rfl rfl (fun _ _ => rfl) ?_
    refine y_st rfl rfl rfl rfl rfl (fun _ _ => rfl) ?_
    show yP (xg xs) (d + 1) 363 268 [(4, .int s0), (0, .int l0), (1, .int l1), (2, .int l2), (3, .int l3)] [.int l2, .int l1] m Q
    refine y_ilt (t := 275) rfl rfl rfl (fun h => ?_) (fun h => ?_)
    · replace H := H.1 h; clear h
      refine y_st rfl rfl rfl rfl rfl (fun _ _ => rfl) ?_
      show yP (xg xs) (d + 1) 363 276 [(4, .int s0), (0, .int l0), (1, .int l1), (2, .int l2), (3, .int l3)] [.int (0 : Int32)] m Q
      exact y_iret rfl rfl rfl H
    · replace H := H.2 h; clear h
      refine y_st rfl rfl rfl rfl rfl (fun _ _ => rfl) ?_
      refine y_st rfl rfl rfl rfl rfl (fun _ _ => rfl) ?_
      show yP (xg xs) (d + 1) 363 276 [(4, .int s0), (0, .int l0), (1, .int l1), (2, .int l2), (3, .int l3)] [.int (1 : Int32)] m Q
      exact y_iret rfl rfl rfl H
  replace H := H.2
  by_cases h19 : l0 = (19 : Int32)
  · replace H := H.1 h19
    refine y_tsw (t := 277) rfl rfl (by rw [h19]; rfl) ?_
    clear h19 h18 h17 h16 h15 h14 h13 h12 h11 h10 h9 h8 h7 h6 h5 h4 h3 h2 h1 h0
    refine y_st rfl rfl rfl rfl rfl (fun _ _ => rfl) ?_
    show yP (xg xs) (d + 1) 363 278 [(4, .int s0), (0, .int l0), (1, .int l1), (2, .int l2), (3, .int l3)] [.int l3] m Q
    refine y_zeq (t := 290) rfl rfl rfl (fun h => ?_) (fun h => ?_)
    · replace H := H.1 h; clear h
      refine y_st rfl rfl rfl rfl rfl (fun _ _ => rfl) ?_
      show yP (xg xs) (d + 1) 363 291 [(4, .int s0), (0, .int l0), (1, .int l1), (2, .int l2), (3, .int l3)] [.int (0 : Int32)] m Q
      exact y_iret rfl rfl rfl H
    · replace H := H.2 h; clear h
      refine y_st rfl rfl rfl rfl rfl (fun _ _ => rfl) ?_
      refine y_st rfl rfl rfl rfl rfl (fun _ _ => rfl) ?_
      refine y_st rfl rfl rfl rfl rfl (fun _ _ => rfl) ?_
      show yP (xg xs) (d + 1) 363 284 [(4, .int s0), (0, .int l0), (1, .int l1), (2, .int l2), (3, .int l3)] [.int (l1 <<< (l2 &&& 31))] m Q
      refine y_call rfl rfl rfl rfl rfl (Nat.le_of_ble_eq_true rfl) (Nat.le_of_ble_eq_true rfl) rfl (by decide) H (fun v6 m6 H => ?_)
      obtain ⟨u6, rfl, H⟩ := H
      refine y_st rfl rfl rfl rfl rfl (fun _ _ => rfl) ?_
      show yP (xg xs) (d + 1) 363 291 [(4, .int s0), (0, .int l0), (1, .int l1), (2, .int l2), (3, .int l3)] [.int u6] m6 Q
      exact y_iret rfl rfl rfl H
  replace H := H.2
  by_cases h20 : l0 = (20 : Int32)
  · replace H := H.1 h20
    refine y_tsw (t := 292) rfl rfl (by rw [h20]; rfl) ?_
    clear h20 h19 h18 h17 h16 h15 h14 h13 h12 h11 h10 h9 h8 h7 h6 h5 h4 h3 h2 h1 h0
    refine y_st rfl rfl rfl rfl rfl (fun _ _ => rfl) ?_
    show yP (xg xs) (d + 1) 363 293 [(4, .int s0), (0, .int l0), (1, .int l1), (2, .int l2), (3, .int l3)] [.int l3] m Q
    refine y_zeq (t := 309) rfl rfl rfl (fun h => ?_) (fun h => ?_)
    · replace H := H.1 h; clear h
      refine y_st rfl rfl rfl rfl rfl (fun _ _ => rfl) ?_
      show yP (xg xs) (d + 1) 363 310 [(4, .int s0), (0, .int l0), (1, .int l1), (2, .int l2), (3, .int l3)] [.int (0 : Int32)] m Q
      exact y_iret rfl rfl rfl H
    · replace H := H.2 h; clear h
      refine y_st rfl rfl rfl rfl rfl (fun _ _ => rfl) ?_
      refine y_st rfl rfl rfl rfl rfl (fun _ _ => rfl) ?_
      refine y_st rfl rfl rfl rfl rfl (fun _ _ => rfl) ?_
      refine y_st rfl rfl rfl rfl rfl (fun _ _ => rfl) ?_
      refine y_st rfl rfl rfl rfl rfl (fun _ _ => rfl) ?_
      show yP (xg xs) (d + 1) 363 303 [(4, .int s0), (0, .int l0), (1, .int l1), (2, .int l2), (3, .int l3)] [.int ((l1 &&& (65535 : Int32)) >>> (l2 &&& 31))] m Q
      refine y_call rfl rfl rfl rfl rfl (Nat.le_of_ble_eq_true rfl) (Nat.le_of_ble_eq_true rfl) rfl (by decide) H (fun v7 m7 H => ?_)
      obtain ⟨u7, rfl, H⟩ := H
      refine y_st rfl rfl rfl rfl rfl (fun _ _ => rfl) ?_
      show yP (xg xs) (d + 1) 363 310 [(4, .int s0), (0, .int l0), (1, .int l1), (2, .int l2), (3, .int l3)] [.int u7] m7 Q
      exact y_iret rfl rfl rfl H
  replace H := H.2
  by_cases h21 : l0 = (21 : Int32)
  · replace H := H.1 h21
    refine y_tsw (t := 311) rfl rfl (by rw [h21]; rfl) ?_
    clear h21 h20 h19 h18 h17 h16 h15 h14 h13 h12 h11 h10 h9 h8 h7 h6 h5 h4 h3 h2 h1 h0
    refine y_st rfl rfl rfl rfl rfl (fun _ _ => rfl) ?_
    show yP (xg xs) (d + 1) 363 313 [(4, .int s0), (0, .int l0), (1, .int l1), (2, .int l2), (3, .int l3)] [.int s0] m Q
    refine y_zeq (t := 322) rfl rfl rfl (fun h => ?_) (fun h => ?_)
    · replace H := H.1 h; clear h
      refine y_st rfl rfl rfl rfl rfl (fun _ _ => rfl) ?_
      show yP (xg xs) (d + 1) 363 323 [(4, .int s0), (0, .int l0), (1, .int l1), (2, .int l2), (3, .int l3)] [.int (0 : Int32)] m Q
      exact y_iret rfl rfl rfl H
    · replace H := H.2 h; clear h
      refine y_st rfl rfl rfl rfl rfl (fun _ _ => rfl) ?_
      refine y_st rfl rfl rfl rfl rfl (fun _ _ => rfl) ?_
      refine y_st rfl rfl rfl rfl rfl (fun _ _ => rfl) ?_
      refine y_st rfl rfl rfl rfl rfl (fun _ _ => rfl) ?_
      show yP (xg xs) (d + 1) 363 323 [(4, .int s0), (0, .int l0), (1, .int l1), (2, .int l2), (3, .int l3)] [.int (l1 <<< (l2 &&& 31))] m Q
      exact y_iret rfl rfl rfl H
  replace H := H.2
  by_cases h22 : l0 = (22 : Int32)
  · replace H := H.1 h22
    refine y_tsw (t := 324) rfl rfl (by rw [h22]; rfl) ?_
    clear h22 h21 h20 h19 h18 h17 h16 h15 h14 h13 h12 h11 h10 h9 h8 h7 h6 h5 h4 h3 h2 h1 h0
    refine y_st rfl rfl rfl rfl rfl (fun _ _ => rfl) ?_
    show yP (xg xs) (d + 1) 363 326 [(4, .int s0), (0, .int l0), (1, .int l1), (2, .int l2), (3, .int l3)] [.int s0] m Q
    refine y_zeq (t := 335) rfl rfl rfl (fun h => ?_) (fun h => ?_)
    · replace H := H.1 h; clear h
      refine y_st rfl rfl rfl rfl rfl (fun _ _ => rfl) ?_
      show yP (xg xs) (d + 1) 363 336 [(4, .int s0), (0, .int l0), (1, .int l1), (2, .int l2), (3, .int l3)] [.int (0 : Int32)] m Q
      exact y_iret rfl rfl rfl H
    · replace H := H.2 h; clear h
      refine y_st rfl rfl rfl rfl rfl (fun _ _ => rfl) ?_
      refine y_st rfl rfl rfl rfl rfl (fun _ _ => rfl) ?_
      refine y_st rfl rfl rfl rfl rfl (fun _ _ => rfl) ?_
      refine y_st rfl rfl rfl rfl rfl (fun _ _ => rfl) ?_
      show yP (xg xs) (d + 1) 363 336 [(4, .int s0), (0, .int l0), (1, .int l1), (2, .int l2), (3, .int l3)] [.int ((l1.toUInt32 >>> (l2.toUInt32 &&& Int32.toUInt32 31)).toInt32)] m Q
      exact y_iret rfl rfl rfl H
  replace H := H.2
  by_cases h23 : l0 = (23 : Int32)
  · replace H := H.1 h23
    refine y_tsw (t := 337) rfl rfl (by rw [h23]; rfl) ?_
    clear h23 h22 h21 h20 h19 h18 h17 h16 h15 h14 h13 h12 h11 h10 h9 h8 h7 h6 h5 h4 h3 h2 h1 h0
    refine y_st rfl rfl rfl rfl rfl (fun _ _ => rfl) ?_
    refine y_st rfl rfl rfl rfl rfl (fun _ _ => rfl) ?_
    show yP (xg xs) (d + 1) 363 339 [(4, .int s0), (0, .int l0), (1, .int l1), (2, .int l2), (3, .int l3)] [.int l2, .int l1] m Q
    refine y_ige (t := 346) rfl rfl rfl (fun h => ?_) (fun h => ?_)
    · replace H := H.1 h; clear h
      refine y_st rfl rfl rfl rfl rfl (fun _ _ => rfl) ?_
      show yP (xg xs) (d + 1) 363 347 [(4, .int s0), (0, .int l0), (1, .int l1), (2, .int l2), (3, .int l3)] [.int l2] m Q
      exact y_iret rfl rfl rfl H
    · replace H := H.2 h; clear h
      refine y_st rfl rfl rfl rfl rfl (fun _ _ => rfl) ?_
      refine y_st rfl rfl rfl rfl rfl (fun _ _ => rfl) ?_
      show yP (xg xs) (d + 1) 363 347 [(4, .int s0), (0, .int l0), (1, .int l1), (2, .int l2), (3, .int l3)] [.int l1] m Q
      exact y_iret rfl rfl rfl H
  replace H := H.2
  refine y_tsw (t := 348) rfl rfl ((if_pos (by have g0 := ne_lit (0 : Int32) 0 rfl h0; have g1 := ne_lit (1 : Int32) 1 rfl h1; have g2 := ne_lit (2 : Int32) 2 rfl h2; have g3 := ne_lit (3 : Int32) 3 rfl h3; have g4 := ne_lit (4 : Int32) 4 rfl h4; have g5 := ne_lit (5 : Int32) 5 rfl h5; have g6 := ne_lit (6 : Int32) 6 rfl h6; have g7 := ne_lit (7 : Int32) 7 rfl h7; have g8 := ne_lit (8 : Int32) 8 rfl h8; have g9 := ne_lit (9 : Int32) 9 rfl h9; have g10 := ne_lit (10 : Int32) 10 rfl h10; have g11 := ne_lit (11 : Int32) 11 rfl h11; have g12 := ne_lit (12 : Int32) 12 rfl h12; have g13 := ne_lit (13 : Int32) 13 rfl h13; have g14 := ne_lit (14 : Int32) 14 rfl h14; have g15 := ne_lit (15 : Int32) 15 rfl h15; have g16 := ne_lit (16 : Int32) 16 rfl h16; have g17 := ne_lit (17 : Int32) 17 rfl h17; have g18 := ne_lit (18 : Int32) 18 rfl h18; have g19 := ne_lit (19 : Int32) 19 rfl h19; have g20 := ne_lit (20 : Int32) 20 rfl h20; have g21 := ne_lit (21 : Int32) 21 rfl h21; have g22 := ne_lit (22 : Int32) 22 rfl h22; have g23 := ne_lit (23 : Int32) 23 rfl h23; omega)).trans rfl) ?_
  replace H := H h0 h1 h2 h3 h4 h5 h6 h7 h8 h9 h10 h11 h12 h13 h14 h15 h16 h17 h18 h19 h20 h21 h22 h23
  clear h23 h22 h21 h20 h19 h18 h17 h16 h15 h14 h13 h12 h11 h10 h9 h8 h7 h6 h5 h4 h3 h2 h1 h0
  refine y_st rfl rfl rfl rfl rfl (fun _ _ => rfl) ?_
  refine y_st rfl rfl rfl rfl rfl (fun _ _ => rfl) ?_
  show yP (xg xs) (d + 1) 363 350 [(4, .int s0), (0, .int l0), (1, .int l1), (2, .int l2), (3, .int l3)] [.int l2, .int l1] m Q
  refine y_ile (t := 357) rfl rfl rfl (fun h => ?_) (fun h => ?_)
  · replace H := H.1 h; clear h
    refine y_st rfl rfl rfl rfl rfl (fun _ _ => rfl) ?_
    show yP (xg xs) (d + 1) 363 358 [(4, .int s0), (0, .int l0), (1, .int l1), (2, .int l2), (3, .int l3)] [.int l2] m Q
    exact y_iret rfl rfl rfl H
  · replace H := H.2 h; clear h
    refine y_st rfl rfl rfl rfl rfl (fun _ _ => rfl) ?_
    refine y_st rfl rfl rfl rfl rfl (fun _ _ => rfl) ?_
    show yP (xg xs) (d + 1) 363 358 [(4, .int s0), (0, .int l0), (1, .int l1), (2, .int l2), (3, .int l3)] [.int l1] m Q
    exact y_iret rfl rfl rfl H
set_option maxRecDepth 20000 in
/-- CodeMakerModel.judgeTwo from 0 on -/
theorem w364_0 (xs : List Int32) (d : Nat) (l1 : Int32) (m : yM) (Q : Option Value → yM → Prop) (H : (x_in l1 20000 = true ∧ (x_in (m.1 66 l1.toNatClampNeg) 20000 = true ∧ (x_in l1 20000 = true ∧ (x_in (m.1 66 l1.toNatClampNeg) 20000 = true ∧ ((¬ (m.1 84 ((m.1 66 l1.toNatClampNeg).toNatClampNeg)) = 0 → yP (xg xs) (d + 1) 364 44 [(0, .ref 58), (1, .int l1), (2, .int (m.1 66 l1.toNatClampNeg)), (3, .int (m.1 68 ((m.1 66 l1.toNatClampNeg).toNatClampNeg))), (4, .int (m.1 64 l1.toNatClampNeg))] [] m Q) ∧ ((m.1 84 ((m.1 66 l1.toNatClampNeg).toNatClampNeg)) = 0 → (x_in (m.1 68 ((m.1 66 l1.toNatClampNeg).toNatClampNeg)) 20000 = true ∧ ((¬ (m.1 84 ((m.1 68 ((m.1 66 l1.toNatClampNeg).toNatClampNeg)).toNatClampNeg)) = 0 → yP (xg xs) (d + 1) 364 44 [(0, .ref 58), (1, .int l1), (2, .int (m.1 66 l1.toNatClampNeg)), (3, .int (m.1 68 ((m.1 66 l1.toNatClampNeg).toNatClampNeg))), (4, .int (m.1 64 l1.toNatClampNeg))] [] m Q) ∧ ((m.1 84 ((m.1 68 ((m.1 66 l1.toNatClampNeg).toNatClampNeg)).toNatClampNeg)) = 0 → yP (xg xs) (d + 1) 364 45 [(0, .ref 58), (1, .int l1), (2, .int (m.1 66 l1.toNatClampNeg)), (3, .int (m.1 68 ((m.1 66 l1.toNatClampNeg).toNatClampNeg))), (4, .int (m.1 64 l1.toNatClampNeg))] [.int (1 : Int32)] m Q)))))))))) : yP (xg xs) (d + 1) 364 0 [(0, .ref 58), (1, .int l1)] [] m Q := by
  refine y_st rfl rfl rfl rfl rfl (fun _ _ => rfl) ?_
  refine y_gf rfl rfl rfl rfl rfl ?_
  refine y_st rfl rfl rfl rfl rfl (fun _ _ => rfl) ?_
  show yP (xg xs) (d + 1) 364 5 [(0, .ref 58), (1, .int l1)] [.int l1, .ref 66] m Q
  refine y_iald rfl rfl rfl (H.1) ?_
  replace H := H.2
  refine y_st rfl rfl rfl rfl rfl (fun _ _ => rfl) ?_
  refine y_st rfl rfl rfl rfl rfl (fun _ _ => rfl) ?_
  refine y_gf rfl rfl rfl rfl rfl ?_
  refine y_st rfl rfl rfl rfl rfl (fun _ _ => rfl) ?_
  show yP (xg xs) (d + 1) 364 12 [(2, .int (m.1 66 l1.toNatClampNeg)), (0, .ref 58), (1, .int l1)] [.int (m.1 66 l1.toNatClampNeg), .ref 68] m Q
  refine y_iald rfl rfl rfl (H.1) ?_
  replace H := H.2
  refine y_st rfl rfl rfl rfl rfl (fun _ _ => rfl) ?_
  refine y_st rfl rfl rfl rfl rfl (fun _ _ => rfl) ?_
  refine y_gf rfl rfl rfl rfl rfl ?_
  refine y_st rfl rfl rfl rfl rfl (fun _ _ => rfl) ?_
  show yP (xg xs) (d + 1) 364 19 [(3, .int (m.1 68 ((m.1 66 l1.toNatClampNeg).toNatClampNeg))), (2, .int (m.1 66 l1.toNatClampNeg)), (0, .ref 58), (1, .int l1)] [.int l1, .ref 64] m Q
  refine y_iald rfl rfl rfl (H.1) ?_
  replace H := H.2
  refine y_st rfl rfl rfl rfl rfl (fun _ _ => rfl) ?_
  refine y_st rfl rfl rfl rfl rfl (fun _ _ => rfl) ?_
  refine y_gf rfl rfl rfl rfl rfl ?_
  refine y_st rfl rfl rfl rfl rfl (fun _ _ => rfl) ?_
  show yP (xg xs) (d + 1) 364 27 [(4, .int (m.1 64 l1.toNatClampNeg)), (3, .int (m.1 68 ((m.1 66 l1.toNatClampNeg).toNatClampNeg))), (2, .int (m.1 66 l1.toNatClampNeg)), (0, .ref 58), (1, .int l1)] [.int (m.1 66 l1.toNatClampNeg), .ref 84] m Q
  refine y_iald rfl rfl rfl (H.1) ?_
  replace H := H.2
  show yP (xg xs) (d + 1) 364 28 [(4, .int (m.1 64 l1.toNatClampNeg)), (3, .int (m.1 68 ((m.1 66 l1.toNatClampNeg).toNatClampNeg))), (2, .int (m.1 66 l1.toNatClampNeg)), (0, .ref 58), (1, .int l1)] [.int (m.1 84 ((m.1 66 l1.toNatClampNeg).toNatClampNeg))] m Q
  refine y_zne (t := 44) rfl rfl rfl (fun h => ?_) (fun h => ?_)
  · replace H := H.1 h; clear h
    show yP (xg xs) (d + 1) 364 44 [(4, .int (m.1 64 l1.toNatClampNeg)), (3, .int (m.1 68 ((m.1 66 l1.toNatClampNeg).toNatClampNeg))), (2, .int (m.1 66 l1.toNatClampNeg)), (0, .ref 58), (1, .int l1)] [] m Q
    refine y_headS (l2 := [(0, .ref 58), (1, .int l1), (2, .int (m.1 66 l1.toNatClampNeg)), (3, .int (m.1 68 ((m.1 66 l1.toNatClampNeg).toNatClampNeg))), (4, .int (m.1 64 l1.toNatClampNeg))]) [3, 4, 2, 1, 0] [0, 1, 2, 3, 4] [4, 3, 2, 0, 1] rfl rfl (by decide) rfl (by decide) ?_
    exact H
  · replace H := H.2 h; clear h
    refine y_st rfl rfl rfl rfl rfl (fun _ _ => rfl) ?_
    refine y_gf rfl rfl rfl rfl rfl ?_
    refine y_st rfl rfl rfl rfl rfl (fun _ _ => rfl) ?_
    show yP (xg xs) (d + 1) 364 36 [(4, .int (m.1 64 l1.toNatClampNeg)), (3, .int (m.1 68 ((m.1 66 l1.toNatClampNeg).toNatClampNeg))), (2, .int (m.1 66 l1.toNatClampNeg)), (0, .ref 58), (1, .int l1)] [.int (m.1 68 ((m.1 66 l1.toNatClampNeg).toNatClampNeg)), .ref 84] m Q
    refine y_iald rfl rfl rfl (H.1) ?_
    replace H := H.2
    show yP (xg xs) (d + 1) 364 37 [(4, .int (m.1 64 l1.toNatClampNeg)), (3, .int (m.1 68 ((m.1 66 l1.toNatClampNeg).toNatClampNeg))), (2, .int (m.1 66 l1.toNatClampNeg)), (0, .ref 58), (1, .int l1)] [.int (m.1 84 ((m.1 68 ((m.1 66 l1.toNatClampNeg).toNatClampNeg)).toNatClampNeg))] m Q
    refine y_zne (t := 44) rfl rfl rfl (fun h => ?_) (fun h => ?_)
    · replace H := H.1 h; clear h
      show yP (xg xs) (d + 1) 364 44 [(4, .int (m.1 64 l1.toNatClampNeg)), (3, .int (m.1 68 ((m.1 66 l1.toNatClampNeg).toNatClampNeg))), (2, .int (m.1 66 l1.toNatClampNeg)), (0, .ref 58), (1, .int l1)] [] m Q
      refine y_headS (l2 := [(0, .ref 58), (1, .int l1), (2, .int (m.1 66 l1.toNatClampNeg)), (3, .int (m.1 68 ((m.1 66 l1.toNatClampNeg).toNatClampNeg))), (4, .int (m.1 64 l1.toNatClampNeg))]) [3, 4, 2, 1, 0] [0, 1, 2, 3, 4] [4, 3, 2, 0, 1] rfl rfl (by decide) rfl (by decide) ?_
      exact H
    · replace H := H.2 h; clear h
      refine y_st rfl rfl rfl rfl rfl (fun _ _ => rfl) ?_
      refine y_st rfl rfl rfl rfl rfl (fun _ _ => rfl) ?_
      show yP (xg xs) (d + 1) 364 45 [(4, .int (m.1 64 l1.toNatClampNeg)), (3, .int (m.1 68 ((m.1 66 l1.toNatClampNeg).toNatClampNeg))), (2, .int (m.1 66 l1.toNatClampNeg)), (0, .ref 58), (1, .int l1)] [.int (1 : Int32)] m Q
      refine y_headS (l2 := [(0, .ref 58), (1, .int l1), (2, .int (m.1 66 l1.toNatClampNeg)), (3, .int (m.1 68 ((m.1 66 l1.toNatClampNeg).toNatClampNeg))), (4, .int (m.1 64 l1.toNatClampNeg))]) [3, 4, 2, 1, 0] [0, 1, 2, 3, 4] [4, 3, 2, 0, 1] rfl rfl (by decide) rfl (by decide) ?_
      exact H
set_option maxRecDepth 20000 in
/-- CodeMakerModel.judgeTwo from 44 on -/
theorem w364_44 (xs : List Int32) (d : Nat) (l1 : Int32) (l2 : Int32) (l3 : Int32) (l4 : Int32) (m : yM) (Q : Option Value → yM → Prop) (H : yP (xg xs) (d + 1) 364 45 [(0, .ref 58), (1, .int l1), (2, .int l2), (3, .int l3), (4, .int l4)] [.int (0 : Int32)] m Q) : yP (xg xs) (d + 1) 364 44 [(0, .ref 58), (1, .int l1), (2, .int l2), (3, .int l3), (4, .int l4)] [] m Q := by
  refine y_st rfl rfl rfl rfl rfl (fun _ _ => rfl) ?_
  show yP (xg xs) (d + 1) 364 45 [(0, .ref 58), (1, .int l1), (2, .int l2), (3, .int l3), (4, .int l4)] [.int (0 : Int32)] m Q
  exact H
set_option maxRecDepth 20000 in
/-- CodeMakerModel.judgeTwo from 45 on -/
theorem w364_45 (xs : List Int32) (d : Nat) (l1 : Int32) (l2 : Int32) (l3 : Int32) (l4 : Int32) (s0 : Int32) (m : yM) (Q : Option Value → yM → Prop) (H : (x_in l2 20000 = true ∧ (((m.1 84 l2.toNatClampNeg) ≤ 0 → yP (xg xs) (d + 1) 364 69 [(0, .ref 58), (1, .int l1), (2, .int l2), (3, .int l3), (4, .int l4), (5, .int s0)] [] m Q) ∧ (¬ (m.1 84 l2.toNatClampNeg) ≤ 0 → (x_in l3 20000 = true ∧ (((m.1 84 l3.toNatClampNeg) ≤ 0 → yP (xg xs) (d + 1) 364 69 [(0, .ref 58), (1, .int l1), (2, .int l2), (3, .int l3), (4, .int l4), (5, .int s0)] [] m Q) ∧ (¬ (m.1 84 l3.toNatClampNeg) ≤ 0 → yP (xg xs) (d + 1) 364 70 [(0, .ref 58), (1, .int l1), (2, .int l2), (3, .int l3), (4, .int l4), (5, .int s0)] [.int (1 : Int32)] m Q))))))) : yP (xg xs) (d + 1) 364 45 [(0, .ref 58), (1, .int l1), (2, .int l2), (3, .int l3), (4, .int l4)] [.int s0] m Q := by
  refine y_st rfl rfl rfl rfl rfl (fun _ _ => rfl) ?_
  refine y_st rfl rfl rfl rfl rfl (fun _ _ => rfl) ?_
  refine y_gf rfl rfl rfl rfl rfl ?_
  refine y_st rfl rfl rfl rfl rfl (fun _ _ => rfl) ?_
  show yP (xg xs) (d + 1) 364 52 [(5, .int s0), (0, .ref 58), (1, .int l1), (2, .int l2), (3, .int l3), (4, .int l4)] [.int l2, .ref 84] m Q
  refine y_iald rfl rfl rfl (H.1) ?_
  replace H := H.2
  show yP (xg xs) (d + 1) 364 53 [(5, .int s0), (0, .ref 58), (1, .int l1), (2, .int l2), (3, .int l3), (4, .int l4)] [.int (m.1 84 l2.toNatClampNeg)] m Q
  refine y_zle (t := 69) rfl rfl rfl (fun h => ?_) (fun h => ?_)
  · replace H := H.1 h; clear h
    show yP (xg xs) (d + 1) 364 69 [(5, .int s0), (0, .ref 58), (1, .int l1), (2, .int l2), (3, .int l3), (4, .int l4)] [] m Q
    refine y_headS (l2 := [(0, .ref 58), (1, .int l1), (2, .int l2), (3, .int l3), (4, .int l4), (5, .int s0)]) [1, 2, 3, 4, 5, 0] [0, 1, 2, 3, 4, 5] [5, 0, 1, 2, 3, 4] rfl rfl (by decide) rfl (by decide) ?_
    exact H
  · replace H := H.2 h; clear h
    refine y_st rfl rfl rfl rfl rfl (fun _ _ => rfl) ?_
    refine y_gf rfl rfl rfl rfl rfl ?_
    refine y_st rfl rfl rfl rfl rfl (fun _ _ => rfl) ?_
    show yP (xg xs) (d + 1) 364 61 [(5, .int s0), (0, .ref 58), (1, .int l1), (2, .int l2), (3, .int l3), (4, .int l4)] [.int l3, .ref 84] m Q
    refine y_iald rfl rfl rfl (H.1) ?_
    replace H := H.2
    show yP (xg xs) (d + 1) 364 62 [(5, .int s0), (0, .ref 58), (1, .int l1), (2, .int l2), (3, .int l3), (4, .int l4)] [.int (m.1 84 l3.toNatClampNeg)] m Q
    refine y_zle (t := 69) rfl rfl rfl (fun h => ?_) (fun h => ?_)
    · replace H := H.1 h; clear h
      show yP (xg xs) (d + 1) 364 69 [(5, .int s0), (0, .ref 58), (1, .int l1), (2, .int l2), (3, .int l3), (4, .int l4)] [] m Q
      refine y_headS (l2 := [(0, .ref 58), (1, .int l1), (2, .int l2), (3, .int l3), (4, .int l4), (5, .int s0)]) [1, 2, 3, 4, 5, 0] [0, 1, 2, 3, 4, 5] [5, 0, 1, 2, 3, 4] rfl rfl (by decide) rfl (by decide) ?_
      exact H
    · replace H := H.2 h; clear h
      refine y_st rfl rfl rfl rfl rfl (fun _ _ => rfl) ?_
      refine y_st rfl rfl rfl rfl rfl (fun _ _ => rfl) ?_
      show yP (xg xs) (d + 1) 364 70 [(5, .int s0), (0, .ref 58), (1, .int l1), (2, .int l2), (3, .int l3), (4, .int l4)] [.int (1 : Int32)] m Q
      refine y_headS (l2 := [(0, .ref 58), (1, .int l1), (2, .int l2), (3, .int l3), (4, .int l4), (5, .int s0)]) [1, 2, 3, 4, 5, 0] [0, 1, 2, 3, 4, 5] [5, 0, 1, 2, 3, 4] rfl rfl (by decide) rfl (by decide) ?_
      exact H
set_option maxRecDepth 20000 in
/-- CodeMakerModel.judgeTwo from 69 on -/
theorem w364_69 (xs : List Int32) (d : Nat) (l1 : Int32) (l2 : Int32) (l3 : Int32) (l4 : Int32) (l5 : Int32) (m : yM) (Q : Option Value → yM → Prop) (H : yP (xg xs) (d + 1) 364 70 [(0, .ref 58), (1, .int l1), (2, .int l2), (3, .int l3), (4, .int l4), (5, .int l5)] [.int (0 : Int32)] m Q) : yP (xg xs) (d + 1) 364 69 [(0, .ref 58), (1, .int l1), (2, .int l2), (3, .int l3), (4, .int l4), (5, .int l5)] [] m Q := by
  refine y_st rfl rfl rfl rfl rfl (fun _ _ => rfl) ?_
  show yP (xg xs) (d + 1) 364 70 [(0, .ref 58), (1, .int l1), (2, .int l2), (3, .int l3), (4, .int l4), (5, .int l5)] [.int (0 : Int32)] m Q
  exact H
set_option maxRecDepth 20000 in
/-- CodeMakerModel.judgeTwo from 70 on -/
theorem w364_70 (xs : List Int32) (d : Nat) (l1 : Int32) (l2 : Int32) (l3 : Int32) (l4 : Int32) (l5 : Int32) (s0 : Int32) (m : yM) (Q : Option Value → yM → Prop) (H : (((5 : Int32) ≤ l4 → ((¬ s0 = 0 → yP (xg xs) (d + 1) 364 109 [(0, .ref 58), (1, .int l1), (2, .int l2), (3, .int l3), (4, .int l4), (5, .int l5)] [.int (0 : Int32), .int (27 : Int32), .ref 58] m Q) ∧ (s0 = 0 → yP (xg xs) (d + 1) 364 109 [(0, .ref 58), (1, .int l1), (2, .int l2), (3, .int l3), (4, .int l4), (5, .int l5)] [.int (1 : Int32), .int (27 : Int32), .ref 58] m Q))) ∧ (¬ (5 : Int32) ≤ l4 → ((¬ l5 = 0 → yP (xg xs) (d + 1) 364 95 [(0, .ref 58), (1, .int l1), (2, .int l2), (3, .int l3), (4, .int l4), (5, .int l5)] [.int (27 : Int32), .ref 58] m Q) ∧ (l5 = 0 → ((¬ s0 = 0 → yP (xg xs) (d + 1) 364 95 [(0, .ref 58), (1, .int l1), (2, .int l2), (3, .int l3), (4, .int l4), (5, .int l5)] [.int (27 : Int32), .ref 58] m Q) ∧ (s0 = 0 → yP (xg xs) (d + 1) 364 109 [(0, .ref 58), (1, .int l1), (2, .int l2), (3, .int l3), (4, .int l4), (5, .int l5)] [.int (1 : Int32), .int (27 : Int32), .ref 58] m Q))))))) : yP (xg xs) (d + 1) 364 70 [(0, .ref 58), (1, .int l1), (2, .int l2), (3, .int l3), (4, .int l4), (5, .int l5)] [.int s0] m Q := by
  refine y_st rfl rfl rfl rfl rfl (fun _ _ => rfl) ?_
  refine y_st rfl rfl rfl rfl rfl (fun _ _ => rfl) ?_
  refine y_st rfl rfl rfl rfl rfl (fun _ _ => rfl) ?_
  refine y_st rfl rfl rfl rfl rfl (fun _ _ => rfl) ?_
  refine y_st rfl rfl rfl rfl rfl (fun _ _ => rfl) ?_
  show yP (xg xs) (d + 1) 364 78 [(6, .int s0), (0, .ref 58), (1, .int l1), (2, .int l2), (3, .int l3), (4, .int l4), (5, .int l5)] [.int (5 : Int32), .int l4, .int (27 : Int32), .ref 58] m Q
  refine y_ige (t := 99) rfl rfl rfl (fun h => ?_) (fun h => ?_)
  · replace H := H.1 h; clear h
    refine y_st rfl rfl rfl rfl rfl (fun _ _ => rfl) ?_
    show yP (xg xs) (d + 1) 364 101 [(6, .int s0), (0, .ref 58), (1, .int l1), (2, .int l2), (3, .int l3), (4, .int l4), (5, .int l5)] [.int s0, .int (27 : Int32), .ref 58] m Q
    refine y_zne (t := 108) rfl rfl rfl (fun h => ?_) (fun h => ?_)
    · replace H := H.1 h; clear h
      refine y_st rfl rfl rfl rfl rfl (fun _ _ => rfl) ?_
      show yP (xg xs) (d + 1) 364 109 [(6, .int s0), (0, .ref 58), (1, .int l1), (2, .int l2), (3, .int l3), (4, .int l4), (5, .int l5)] [.int (0 : Int32), .int (27 : Int32), .ref 58] m Q
      refine y_headS (l2 := [(0, .ref 58), (1, .int l1), (2, .int l2), (3, .int l3), (4, .int l4), (5, .int l5)]) [1, 2, 3, 4, 5, 6] [0, 1, 2, 3, 4, 5] [6, 0, 1, 2, 3, 4, 5] rfl rfl (by decide) rfl (by decide) ?_
      exact H
    · replace H := H.2 h; clear h
      refine y_st rfl rfl rfl rfl rfl (fun _ _ => rfl) ?_
      refine y_st rfl rfl rfl rfl rfl (fun _ _ => rfl) ?_
      show yP (xg xs) (d + 1) 364 109 [(6, .int s0), (0, .ref 58), (1, .int l1), (2, .int l2), (3, .int l3), (4, .int l4), (5, .int l5)] [.int (1 : Int32), .int (27 : Int32), .ref 58] m Q
      refine y_headS (l2 := [(0, .ref 58), (1, .int l1), (2, .int l2), (3, .int l3), (4, .int l4), (5, .int l5)]) [1, 2, 3, 4, 5, 6] [0, 1, 2, 3, 4, 5] [6, 0, 1, 2, 3, 4, 5] rfl rfl (by decide) rfl (by decide) ?_
      exact H
  · replace H := H.2 h; clear h
    refine y_st rfl rfl rfl rfl rfl (fun _ _ => rfl) ?_
    show yP (xg xs) (d + 1) 364 83 [(6, .int s0), (0, .ref 58), (1, .int l1), (2, .int l2), (3, .int l3), (4, .int l4), (5, .int l5)] [.int l5, .int (27 : Int32), .ref 58] m Q
    refine y_zne (t := 95) rfl rfl rfl (fun h => ?_) (fun h => ?_)
    · replace H := H.1 h; clear h
      show yP (xg xs) (d + 1) 364 95 [(6, .int s0), (0, .ref 58), (1, .int l1), (2, .int l2), (3, .int l3), (4, .int l4), (5, .int l5)] [.int (27 : Int32), .ref 58] m Q
      refine y_headS (l2 := [(0, .ref 58), (1, .int l1), (2, .int l2), (3, .int l3), (4, .int l4), (5, .int l5)]) [1, 2, 3, 4, 5, 6] [0, 1, 2, 3, 4, 5] [6, 0, 1, 2, 3, 4, 5] rfl rfl (by decide) rfl (by decide) ?_
      exact H
    · replace H := H.2 h; clear h
      refine y_st rfl rfl rfl rfl rfl (fun _ _ => rfl) ?_
      show yP (xg xs) (d + 1) 364 88 [(6, .int s0), (0, .ref 58), (1, .int l1), (2, .int l2), (3, .int l3), (4, .int l4), (5, .int l5)] [.int s0, .int (27 : Int32), .ref 58] m Q
      refine y_zne (t := 95) rfl rfl rfl (fun h => ?_) (fun h => ?_)
      · replace H := H.1 h; clear h
        show yP (xg xs) (d + 1) 364 95 [(6, .int s0), (0, .ref 58), (1, .int l1), (2, .int l2), (3, .int l3), (4, .int l4), (5, .int l5)] [.int (27 : Int32), .ref 58] m Q
        refine y_headS (l2 := [(0, .ref 58), (1, .int l1), (2, .int l2), (3, .int l3), (4, .int l4), (5, .int l5)]) [1, 2, 3, 4, 5, 6] [0, 1, 2, 3, 4, 5] [6, 0, 1, 2, 3, 4, 5] rfl rfl (by decide) rfl (by decide) ?_
        exact H
      · replace H := H.2 h; clear h
        refine y_st rfl rfl rfl rfl rfl (fun _ _ => rfl) ?_
        refine y_st rfl rfl rfl rfl rfl (fun _ _ => rfl) ?_
        show yP (xg xs) (d + 1) 364 109 [(6, .int s0), (0, .ref 58), (1, .int l1), (2, .int l2), (3, .int l3), (4, .int l4), (5, .int l5)] [.int (1 : Int32), .int (27 : Int32), .ref 58] m Q
        refine y_headS (l2 := [(0, .ref 58), (1, .int l1), (2, .int l2), (3, .int l3), (4, .int l4), (5, .int l5)]) [1, 2, 3, 4, 5, 6] [0, 1, 2, 3, 4, 5] [6, 0, 1, 2, 3, 4, 5] rfl rfl (by decide) rfl (by decide) ?_
        exact H
set_option maxRecDepth 20000 in
/-- CodeMakerModel.judgeTwo from 95 on -/
theorem w364_95 (xs : List Int32) (d : Nat) (l1 : Int32) (l2 : Int32) (l3 : Int32) (l4 : Int32) (l5 : Int32) (s1 : Int32) (m : yM) (Q : Option Value → yM → Prop) (H : yP (xg xs) (d + 1) 364 109 [(0, .ref 58), (1, .int l1), (2, .int l2), (3, .int l3), (4, .int l4), (5, .int l5)] [.int (0 : Int32), .int s1, .ref 58] m Q) : yP (xg xs) (d + 1) 364 95 [(0, .ref 58), (1, .int l1), (2, .int l2), (3, .int l3), (4, .int l4), (5, .int l5)] [.int s1, .ref 58] m Q := by
  refine y_st rfl rfl rfl rfl rfl (fun _ _ => rfl) ?_
  refine y_st rfl rfl rfl rfl rfl (fun _ _ => rfl) ?_
  show yP (xg xs) (d + 1) 364 109 [(0, .ref 58), (1, .int l1), (2, .int l2), (3, .int l3), (4, .int l4), (5, .int l5)] [.int (0 : Int32), .int s1, .ref 58] m Q
  exact H
set_option maxRecDepth 20000 in
/-- CodeMakerModel.judgeTwo from 109 on -/
theorem w364_109 (xs : List Int32) (d : Nat) (l1 : Int32) (l2 : Int32) (l3 : Int32) (l4 : Int32) (l5 : Int32) (s1 : Int32) (s2 : Int32) (m : yM) (Q : Option Value → yM → Prop) (H : (yC (xg xs) d 323 [.ref 58, .int s1, .int s2, .int l1] m (fun v1 m1 => v1 = none ∧ ((l4 ≤ (2 : Int32) → yP (xg xs) (d + 1) 364 135 [(0, .ref 58), (1, .int l1), (2, .int l2), (3, .int l3), (4, .int l4), (5, .int l5)] [.int l1, .ref 84] m1 Q) ∧ (¬ l4 ≤ (2 : Int32) → (((9 : Int32) ≤ l4 → yP (xg xs) (d + 1) 364 135 [(0, .ref 58), (1, .int l1), (2, .int l2), (3, .int l3), (4, .int l4), (5, .int l5)] [.int l1, .ref 84] m1 Q) ∧ (¬ (9 : Int32) ≤ l4 → yP (xg xs) (d + 1) 364 159 [(0, .ref 58), (1, .int l1), (2, .int l2), (3, .int l3), (4, .int l4)] [.int (0 : Int32), .int l1, .ref 84] m1 Q))))))) : yP (xg xs) (d + 1) 364 109 [(0, .ref 58), (1, .int l1), (2, .int l2), (3, .int l3), (4, .int l4), (5, .int l5)] [.int s2, .int s1, .ref 58] m Q := by
  refine y_st rfl rfl rfl rfl rfl (fun _ _ => rfl) ?_
  show yP (xg xs) (d + 1) 364 110 [(0, .ref 58), (1, .int l1), (2, .int l2), (3, .int l3), (4, .int l4), (5, .int l5)] [.int l1, .int s2, .int s1, .ref 58] m Q
  refine y_call rfl rfl rfl rfl rfl (Nat.le_of_ble_eq_true rfl) (Nat.le_of_ble_eq_true rfl) rfl (by decide) H (fun v1 m1 H => ?_)
  obtain ⟨rfl, H⟩ := H
  refine y_st rfl rfl rfl rfl rfl (fun _ _ => rfl) ?_
  refine y_gf rfl rfl rfl rfl rfl ?_
  refine y_st rfl rfl rfl rfl rfl (fun _ _ => rfl) ?_
  refine y_st rfl rfl rfl rfl rfl (fun _ _ => rfl) ?_
  refine y_st rfl rfl rfl rfl rfl (fun _ _ => rfl) ?_
  show yP (xg xs) (d + 1) 364 121 [(0, .ref 58), (1, .int l1), (2, .int l2), (3, .int l3), (4, .int l4), (5, .int l5)] [.int (2 : Int32), .int l4, .int l1, .ref 84] m1 Q
  refine y_ile (t := 135) rfl rfl rfl (fun h => ?_) (fun h => ?_)
  · replace H := H.1 h; clear h
    show yP (xg xs) (d + 1) 364 135 [(0, .ref 58), (1, .int l1), (2, .int l2), (3, .int l3), (4, .int l4), (5, .int l5)] [.int l1, .ref 84] m1 Q
    exact H
  · replace H := H.2 h; clear h
    refine y_st rfl rfl rfl rfl rfl (fun _ _ => rfl) ?_
    refine y_st rfl rfl rfl rfl rfl (fun _ _ => rfl) ?_
    show yP (xg xs) (d + 1) 364 128 [(0, .ref 58), (1, .int l1), (2, .int l2), (3, .int l3), (4, .int l4), (5, .int l5)] [.int (9 : Int32), .int l4, .int l1, .ref 84] m1 Q
    refine y_ige (t := 135) rfl rfl rfl (fun h => ?_) (fun h => ?_)
    · replace H := H.1 h; clear h
      show yP (xg xs) (d + 1) 364 135 [(0, .ref 58), (1, .int l1), (2, .int l2), (3, .int l3), (4, .int l4), (5, .int l5)] [.int l1, .ref 84] m1 Q
      exact H
    · replace H := H.2 h; clear h
      refine y_st rfl rfl rfl rfl rfl (fun _ _ => rfl) ?_
      refine y_st rfl rfl rfl rfl rfl (fun _ _ => rfl) ?_
      show yP (xg xs) (d + 1) 364 159 [(0, .ref 58), (1, .int l1), (2, .int l2), (3, .int l3), (4, .int l4), (5, .int l5)] [.int (0 : Int32), .int l1, .ref 84] m1 Q
      refine y_headS (l2 := [(0, .ref 58), (1, .int l1), (2, .int l2), (3, .int l3), (4, .int l4)]) [0, 1, 2, 3, 4] [0, 1, 2, 3, 4] [0, 1, 2, 3, 4, 5] rfl rfl (by decide) rfl (by decide) ?_
      exact H
set_option maxRecDepth 20000 in
/-- CodeMakerModel.judgeTwo from 135 on -/
theorem w364_135 (xs : List Int32) (d : Nat) (l1 : Int32) (l2 : Int32) (l3 : Int32) (l4 : Int32) (l5 : Int32) (s1 : Int32) (m : yM) (Q : Option Value → yM → Prop) (H : ((l5 = 0 → (x_in l2 20000 = true ∧ (x_in l3 20000 = true ∧ (yC (xg xs) d 359 [.int (m.1 84 l2.toNatClampNeg), .int (m.1 84 l3.toNatClampNeg)] m (fun v1 m1 => ∃ u1, v1 = some (Value.int u1) ∧ yP (xg xs) (d + 1) 364 159 [(0, .ref 58), (1, .int l1), (2, .int l2), (3, .int l3), (4, .int l4)] [.int u1, .int s1, .ref 84] m1 Q))))) ∧ (¬ l5 = 0 → yP (xg xs) (d + 1) 364 159 [(0, .ref 58), (1, .int l1), (2, .int l2), (3, .int l3), (4, .int l4)] [.int (0 : Int32), .int s1, .ref 84] m Q))) : yP (xg xs) (d + 1) 364 135 [(0, .ref 58), (1, .int l1), (2, .int l2), (3, .int l3), (4, .int l4), (5, .int l5)] [.int s1, .ref 84] m Q := by
  refine y_st rfl rfl rfl rfl rfl (fun _ _ => rfl) ?_
  show yP (xg xs) (d + 1) 364 137 [(0, .ref 58), (1, .int l1), (2, .int l2), (3, .int l3), (4, .int l4), (5, .int l5)] [.int l5, .int s1, .ref 84] m Q
  refine y_zeq (t := 144) rfl rfl rfl (fun h => ?_) (fun h => ?_)
  · replace H := H.1 h; clear h
    refine y_st rfl rfl rfl rfl rfl (fun _ _ => rfl) ?_
    refine y_gf rfl rfl rfl rfl rfl ?_
    refine y_st rfl rfl rfl rfl rfl (fun _ _ => rfl) ?_
    show yP (xg xs) (d + 1) 364 149 [(0, .ref 58), (1, .int l1), (2, .int l2), (3, .int l3), (4, .int l4), (5, .int l5)] [.int l2, .ref 84, .int s1, .ref 84] m Q
    refine y_iald rfl rfl rfl (H.1) ?_
    replace H := H.2
    refine y_st rfl rfl rfl rfl rfl (fun _ _ => rfl) ?_
    refine y_gf rfl rfl rfl rfl rfl ?_
    refine y_st rfl rfl rfl rfl rfl (fun _ _ => rfl) ?_
    show yP (xg xs) (d + 1) 364 155 [(0, .ref 58), (1, .int l1), (2, .int l2), (3, .int l3), (4, .int l4), (5, .int l5)] [.int l3, .ref 84, .int (m.1 84 l2.toNatClampNeg), .int s1, .ref 84] m Q
    refine y_iald rfl rfl rfl (H.1) ?_
    replace H := H.2
    show yP (xg xs) (d + 1) 364 156 [(0, .ref 58), (1, .int l1), (2, .int l2), (3, .int l3), (4, .int l4), (5, .int l5)] [.int (m.1 84 l3.toNatClampNeg), .int (m.1 84 l2.toNatClampNeg), .int s1, .ref 84] m Q
    refine y_call rfl rfl rfl rfl rfl (Nat.le_of_ble_eq_true rfl) (Nat.le_of_ble_eq_true rfl) rfl (by decide) H (fun v1 m1 H => ?_)
    obtain ⟨u1, rfl, H⟩ := H
    show yP (xg xs) (d + 1) 364 159 [(0, .ref 58), (1, .int l1), (2, .int l2), (3, .int l3), (4, .int l4), (5, .int l5)] [.int u1, .int s1, .ref 84] m1 Q
    refine y_headS (l2 := [(0, .ref 58), (1, .int l1), (2, .int l2), (3, .int l3), (4, .int l4)]) [0, 1, 2, 3, 4] [0, 1, 2, 3, 4] [0, 1, 2, 3, 4, 5] rfl rfl (by decide) rfl (by decide) ?_
    exact H
  · replace H := H.2 h; clear h
    refine y_st rfl rfl rfl rfl rfl (fun _ _ => rfl) ?_
    refine y_st rfl rfl rfl rfl rfl (fun _ _ => rfl) ?_
    show yP (xg xs) (d + 1) 364 159 [(0, .ref 58), (1, .int l1), (2, .int l2), (3, .int l3), (4, .int l4), (5, .int l5)] [.int (0 : Int32), .int s1, .ref 84] m Q
    refine y_headS (l2 := [(0, .ref 58), (1, .int l1), (2, .int l2), (3, .int l3), (4, .int l4)]) [0, 1, 2, 3, 4] [0, 1, 2, 3, 4] [0, 1, 2, 3, 4, 5] rfl rfl (by decide) rfl (by decide) ?_
    exact H
set_option maxRecDepth 20000 in
/-- CodeMakerModel.judgeTwo from 159 on -/
theorem w364_159 (xs : List Int32) (d : Nat) (l1 : Int32) (l2 : Int32) (l3 : Int32) (l4 : Int32) (s1 : Int32) (s2 : Int32) (m : yM) (Q : Option Value → yM → Prop) (H : (x_in s1 20000 = true ∧ ((l4 = (12 : Int32) → yP (xg xs) (d + 1) 364 174 [(0, .ref 58), (1, .int l1), (2, .int l2), (3, .int l3)] [] (y_si m 84 s1.toNatClampNeg s2) Q) ∧ (¬ l4 = (12 : Int32) → ((¬ l4 = (13 : Int32) → yP (xg xs) (d + 1) 364 196 [(0, .ref 58), (1, .int l1), (2, .int l2), (3, .int l3)] [] (y_si m 84 s1.toNatClampNeg s2) Q) ∧ (l4 = (13 : Int32) → yP (xg xs) (d + 1) 364 174 [(0, .ref 58), (1, .int l1), (2, .int l2), (3, .int l3)] [] (y_si m 84 s1.toNatClampNeg s2) Q)))))) : yP (xg xs) (d + 1) 364 159 [(0, .ref 58), (1, .int l1), (2, .int l2), (3, .int l3), (4, .int l4)] [.int s2, .int s1, .ref 84] m Q := by
  show yP (xg xs) (d + 1) 364 159 [(0, .ref 58), (1, .int l1), (2, .int l2), (3, .int l3), (4, .int l4)] [.int s2, .int s1, .ref 84] m Q
  refine y_iast rfl rfl rfl (H.1) ?_
  replace H := H.2
  refine y_st rfl rfl rfl rfl rfl (fun _ _ => rfl) ?_
  refine y_st rfl rfl rfl rfl rfl (fun _ _ => rfl) ?_
  show yP (xg xs) (d + 1) 364 164 [(0, .ref 58), (1, .int l1), (2, .int l2), (3, .int l3), (4, .int l4)] [.int (12 : Int32), .int l4] (y_si m 84 s1.toNatClampNeg s2) Q
  refine y_ieq (t := 174) rfl rfl rfl (fun h => ?_) (fun h => ?_)
  · replace H := H.1 h; clear h
    show yP (xg xs) (d + 1) 364 174 [(0, .ref 58), (1, .int l1), (2, .int l2), (3, .int l3), (4, .int l4)] [] (y_si m 84 s1.toNatClampNeg s2) Q
    refine y_headS (l2 := [(0, .ref 58), (1, .int l1), (2, .int l2), (3, .int l3)]) [0, 1, 2, 3] [0, 1, 2, 3] [0, 1, 2, 3, 4] rfl rfl (by decide) rfl (by decide) ?_
    exact H
  · replace H := H.2 h; clear h
    refine y_st rfl rfl rfl rfl rfl (fun _ _ => rfl) ?_
    refine y_st rfl rfl rfl rfl rfl (fun _ _ => rfl) ?_
    show yP (xg xs) (d + 1) 364 171 [(0, .ref 58), (1, .int l1), (2, .int l2), (3, .int l3), (4, .int l4)] [.int (13 : Int32), .int l4] (y_si m 84 s1.toNatClampNeg s2) Q
    refine y_ine (t := 196) rfl rfl rfl (fun h => ?_) (fun h => ?_)
    · replace H := H.1 h; clear h
      show yP (xg xs) (d + 1) 364 196 [(0, .ref 58), (1, .int l1), (2, .int l2), (3, .int l3), (4, .int l4)] [] (y_si m 84 s1.toNatClampNeg s2) Q
      refine y_headS (l2 := [(0, .ref 58), (1, .int l1), (2, .int l2), (3, .int l3)]) [0, 1, 2, 3] [0, 1, 2, 3] [0, 1, 2, 3, 4] rfl rfl (by decide) rfl (by decide) ?_
      exact H
    · replace H := H.2 h; clear h
      show yP (xg xs) (d + 1) 364 174 [(0, .ref 58), (1, .int l1), (2, .int l2), (3, .int l3), (4, .int l4)] [] (y_si m 84 s1.toNatClampNeg s2) Q
      refine y_headS (l2 := [(0, .ref 58), (1, .int l1), (2, .int l2), (3, .int l3)]) [0, 1, 2, 3] [0, 1, 2, 3] [0, 1, 2, 3, 4] rfl rfl (by decide) rfl (by decide) ?_
      exact H
set_option maxRecDepth 20000 in
/-- CodeMakerModel.judgeTwo from 174 on -/
theorem w364_174 (xs : List Int32) (d : Nat) (l1 : Int32) (l2 : Int32) (l3 : Int32) (m : yM) (Q : Option Value → yM → Prop) (H : (x_in l3 20000 = true ∧ (((m.1 87 l3.toNatClampNeg) = 0 → yP (xg xs) (d + 1) 364 196 [(0, .ref 58), (1, .int l1), (2, .int l2), (3, .int l3)] [] m Q) ∧ (¬ (m.1 87 l3.toNatClampNeg) = 0 → (x_in l3 20000 = true ∧ ((¬ (m.1 88 l3.toNatClampNeg) = 0 → yP (xg xs) (d + 1) 364 196 [(0, .ref 58), (1, .int l1), (2, .int l2), (3, .int l3)] [] m Q) ∧ ((m.1 88 l3.toNatClampNeg) = 0 → yP (xg xs) (d + 1) 364 197 [(0, .ref 58), (1, .int l1), (2, .int l2), (3, .int l3)] [.int (1 : Int32)] m Q))))))) : yP (xg xs) (d + 1) 364 174 [(0, .ref 58), (1, .int l1), (2, .int l2), (3, .int l3)] [] m Q := by
  refine y_st rfl rfl rfl rfl rfl (fun _ _ => rfl) ?_
  refine y_gf rfl rfl rfl rfl rfl ?_
  refine y_st rfl rfl rfl rfl rfl (fun _ _ => rfl) ?_
  show yP (xg xs) (d + 1) 364 179 [(0, .ref 58), (1, .int l1), (2, .int l2), (3, .int l3)] [.int l3, .ref 87] m Q
  refine y_bald rfl rfl rfl (by decide) (H.1) ?_
  replace H := H.2
  show yP (xg xs) (d + 1) 364 180 [(0, .ref 58), (1, .int l1), (2, .int l2), (3, .int l3)] [.int (m.1 87 l3.toNatClampNeg)] m Q
  refine y_zeq (t := 196) rfl rfl rfl (fun h => ?_) (fun h => ?_)
  · replace H := H.1 h; clear h
    show yP (xg xs) (d + 1) 364 196 [(0, .ref 58), (1, .int l1), (2, .int l2), (3, .int l3)] [] m Q
    exact H
  · replace H := H.2 h; clear h
    refine y_st rfl rfl rfl rfl rfl (fun _ _ => rfl) ?_
    refine y_gf rfl rfl rfl rfl rfl ?_
    refine y_st rfl rfl rfl rfl rfl (fun _ _ => rfl) ?_
    show yP (xg xs) (d + 1) 364 188 [(0, .ref 58), (1, .int l1), (2, .int l2), (3, .int l3)] [.int l3, .ref 88] m Q
    refine y_iald rfl rfl rfl (H.1) ?_
    replace H := H.2
    show yP (xg xs) (d + 1) 364 189 [(0, .ref 58), (1, .int l1), (2, .int l2), (3, .int l3)] [.int (m.1 88 l3.toNatClampNeg)] m Q
    refine y_zne (t := 196) rfl rfl rfl (fun h => ?_) (fun h => ?_)
    · replace H := H.1 h; clear h
      show yP (xg xs) (d + 1) 364 196 [(0, .ref 58), (1, .int l1), (2, .int l2), (3, .int l3)] [] m Q
      exact H
    · replace H := H.2 h; clear h
      refine y_st rfl rfl rfl rfl rfl (fun _ _ => rfl) ?_
      refine y_st rfl rfl rfl rfl rfl (fun _ _ => rfl) ?_
      show yP (xg xs) (d + 1) 364 197 [(0, .ref 58), (1, .int l1), (2, .int l2), (3, .int l3)] [.int (1 : Int32)] m Q
      exact H
set_option maxRecDepth 20000 in
/-- CodeMakerModel.judgeTwo from 196 on -/
theorem w364_196 (xs : List Int32) (d : Nat) (l1 : Int32) (l2 : Int32) (l3 : Int32) (m : yM) (Q : Option Value → yM → Prop) (H : yP (xg xs) (d + 1) 364 197 [(0, .ref 58), (1, .int l1), (2, .int l2), (3, .int l3)] [.int (0 : Int32)] m Q) : yP (xg xs) (d + 1) 364 196 [(0, .ref 58), (1, .int l1), (2, .int l2), (3, .int l3)] [] m Q := by
  refine y_st rfl rfl rfl rfl rfl (fun _ _ => rfl) ?_
  show yP (xg xs) (d + 1) 364 197 [(0, .ref 58), (1, .int l1), (2, .int l2), (3, .int l3)] [.int (0 : Int32)] m Q
  exact H
set_option maxRecDepth 20000 in
/-- CodeMakerModel.judgeTwo from 197 on -/
theorem w364_197 (xs : List Int32) (d : Nat) (l1 : Int32) (l2 : Int32) (l3 : Int32) (s0 : Int32) (m : yM) (Q : Option Value → yM → Prop) (H : (x_in l2 20000 = true ∧ (((m.1 87 l2.toNatClampNeg) = 0 → yP (xg xs) (d + 1) 364 226 [(0, .ref 58), (1, .int l1), (2, .int l2), (3, .int l3)] [] m Q) ∧ (¬ (m.1 87 l2.toNatClampNeg) = 0 → (x_in l3 20000 = true ∧ (((m.1 87 l3.toNatClampNeg) = 0 → yP (xg xs) (d + 1) 364 226 [(0, .ref 58), (1, .int l1), (2, .int l2), (3, .int l3)] [] m Q) ∧ (¬ (m.1 87 l3.toNatClampNeg) = 0 → ((¬ s0 = 0 → yP (xg xs) (d + 1) 364 226 [(0, .ref 58), (1, .int l1), (2, .int l2), (3, .int l3)] [] m Q) ∧ (s0 = 0 → yP (xg xs) (d + 1) 364 227 [(0, .ref 58), (1, .int l1), (2, .int l2), (3, .int l3)] [.int (1 : Int32)] m Q))))))))) : yP (xg xs) (d + 1) 364 197 [(0, .ref 58), (1, .int l1), (2, .int l2), (3, .int l3)] [.int s0] m Q := by
  refine y_st rfl rfl rfl rfl rfl (fun _ _ => rfl) ?_
  refine y_st rfl rfl rfl rfl rfl (fun _ _ => rfl) ?_
  refine y_gf rfl rfl rfl rfl rfl ?_
  refine y_st rfl rfl rfl rfl rfl (fun _ _ => rfl) ?_
  show yP (xg xs) (d + 1) 364 204 [(7, .int s0), (0, .ref 58), (1, .int l1), (2, .int l2), (3, .int l3)] [.int l2, .ref 87] m Q
  refine y_bald rfl rfl rfl (by decide) (H.1) ?_
  replace H := H.2
  show yP (xg xs) (d + 1) 364 205 [(7, .int s0), (0, .ref 58), (1, .int l1), (2, .int l2), (3, .int l3)] [.int (m.1 87 l2.toNatClampNeg)] m Q
  refine y_zeq (t := 226) rfl rfl rfl (fun h => ?_) (fun h => ?_)
  · replace H := H.1 h; clear h
    show yP (xg xs) (d + 1) 364 226 [(7, .int s0), (0, .ref 58), (1, .int l1), (2, .int l2), (3, .int l3)] [] m Q
    refine y_headS (l2 := [(0, .ref 58), (1, .int l1), (2, .int l2), (3, .int l3)]) [1, 2, 3, 4] [0, 1, 2, 3] [7, 0, 1, 2, 3] rfl rfl (by decide) rfl (by decide) ?_
    exact H
  · replace H := H.2 h; clear h
    refine y_st rfl rfl rfl rfl rfl (fun _ _ => rfl) ?_
    refine y_gf rfl rfl rfl rfl rfl ?_
    refine y_st rfl rfl rfl rfl rfl (fun _ _ => rfl) ?_
    show yP (xg xs) (d + 1) 364 213 [(7, .int s0), (0, .ref 58), (1, .int l1), (2, .int l2), (3, .int l3)] [.int l3, .ref 87] m Q
    refine y_bald rfl rfl rfl (by decide) (H.1) ?_
    replace H := H.2
    show yP (xg xs) (d + 1) 364 214 [(7, .int s0), (0, .ref 58), (1, .int l1), (2, .int l2), (3, .int l3)] [.int (m.1 87 l3.toNatClampNeg)] m Q
    refine y_zeq (t := 226) rfl rfl rfl (fun h => ?_) (fun h => ?_)
    · replace H := H.1 h; clear h
      show yP (xg xs) (d + 1) 364 226 [(7, .int s0), (0, .ref 58), (1, .int l1), (2, .int l2), (3, .int l3)] [] m Q
      refine y_headS (l2 := [(0, .ref 58), (1, .int l1), (2, .int l2), (3, .int l3)]) [1, 2, 3, 4] [0, 1, 2, 3] [7, 0, 1, 2, 3] rfl rfl (by decide) rfl (by decide) ?_
      exact H
    · replace H := H.2 h; clear h
      refine y_st rfl rfl rfl rfl rfl (fun _ _ => rfl) ?_
      show yP (xg xs) (d + 1) 364 219 [(7, .int s0), (0, .ref 58), (1, .int l1), (2, .int l2), (3, .int l3)] [.int s0] m Q
      refine y_zne (t := 226) rfl rfl rfl (fun h => ?_) (fun h => ?_)
      · replace H := H.1 h; clear h
        show yP (xg xs) (d + 1) 364 226 [(7, .int s0), (0, .ref 58), (1, .int l1), (2, .int l2), (3, .int l3)] [] m Q
        refine y_headS (l2 := [(0, .ref 58), (1, .int l1), (2, .int l2), (3, .int l3)]) [1, 2, 3, 4] [0, 1, 2, 3] [7, 0, 1, 2, 3] rfl rfl (by decide) rfl (by decide) ?_
        exact H
      · replace H := H.2 h; clear h
        refine y_st rfl rfl rfl rfl rfl (fun _ _ => rfl) ?_
        refine y_st rfl rfl rfl rfl rfl (fun _ _ => rfl) ?_
        show yP (xg xs) (d + 1) 364 227 [(7, .int s0), (0, .ref 58), (1, .int l1), (2, .int l2), (3, .int l3)] [.int (1 : Int32)] m Q
        refine y_headS (l2 := [(0, .ref 58), (1, .int l1), (2, .int l2), (3, .int l3)]) [1, 2, 3, 4] [0, 1, 2, 3] [7, 0, 1, 2, 3] rfl rfl (by decide) rfl (by decide) ?_
        exact H
set_option maxRecDepth 20000 in
/-- CodeMakerModel.judgeTwo from 226 on -/
theorem w364_226 (xs : List Int32) (d : Nat) (l1 : Int32) (l2 : Int32) (l3 : Int32) (m : yM) (Q : Option Value → yM → Prop) (H : yP (xg xs) (d + 1) 364 227 [(0, .ref 58), (1, .int l1), (2, .int l2), (3, .int l3)] [.int (0 : Int32)] m Q) : yP (xg xs) (d + 1) 364 226 [(0, .ref 58), (1, .int l1), (2, .int l2), (3, .int l3)] [] m Q := by
  refine y_st rfl rfl rfl rfl rfl (fun _ _ => rfl) ?_
  show yP (xg xs) (d + 1) 364 227 [(0, .ref 58), (1, .int l1), (2, .int l2), (3, .int l3)] [.int (0 : Int32)] m Q
  exact H
set_option maxRecDepth 20000 in
/-- CodeMakerModel.judgeTwo from 227 on -/
theorem w364_227 (xs : List Int32) (d : Nat) (l1 : Int32) (l2 : Int32) (l3 : Int32) (s0 : Int32) (m : yM) (Q : Option Value → yM → Prop) (H : ((s0 = 0 → yP (xg xs) (d + 1) 364 262 [] [.int (0 : Int32), .int s0, .int l1, .ref 58] m Q) ∧ (¬ s0 = 0 → (yC (xg xs) d 365 [.ref 58, .int l1] m (fun v1 m1 => ∃ u1, v1 = some (Value.int u1) ∧ (x_in l2 20000 = true ∧ (x_in l3 20000 = true ∧ (yC (xg xs) d 363 [.int u1, .int (m1.1 88 l2.toNatClampNeg), .int (m1.1 88 l3.toNatClampNeg)] m1 (fun v2 m2 => ∃ u2, v2 = some (Value.int u2) ∧ yP (xg xs) (d + 1) 364 262 [] [.int u2, .int s0, .int l1, .ref 58] m2 Q))))))))) : yP (xg xs) (d + 1) 364 227 [(0, .ref 58), (1, .int l1), (2, .int l2), (3, .int l3)] [.int s0] m Q := by
  refine y_st rfl rfl rfl rfl rfl (fun _ _ => rfl) ?_
  refine y_st rfl rfl rfl rfl rfl (fun _ _ => rfl) ?_
  refine y_st rfl rfl rfl rfl rfl (fun _ _ => rfl) ?_
  refine y_st rfl rfl rfl rfl rfl (fun _ _ => rfl) ?_
  refine y_st rfl rfl rfl rfl rfl (fun _ _ => rfl) ?_
  show yP (xg xs) (d + 1) 364 235 [(8, .int s0), (0, .ref 58), (1, .int l1), (2, .int l2), (3, .int l3)] [.int s0, .int s0, .int l1, .ref 58] m Q
  refine y_zeq (t := 261) rfl rfl rfl (fun h => ?_) (fun h => ?_)
  · replace H := H.1 h; clear h
    refine y_st rfl rfl rfl rfl rfl (fun _ _ => rfl) ?_
    show yP (xg xs) (d + 1) 364 262 [(8, .int s0), (0, .ref 58), (1, .int l1), (2, .int l2), (3, .int l3)] [.int (0 : Int32), .int s0, .int l1, .ref 58] m Q
    refine y_headS (l2 := []) [] [] [8, 0, 1, 2, 3] rfl rfl (by decide) rfl (by decide) ?_
    exact H
  · replace H := H.2 h; clear h
    refine y_st rfl rfl rfl rfl rfl (fun _ _ => rfl) ?_
    refine y_st rfl rfl rfl rfl rfl (fun _ _ => rfl) ?_
    show yP (xg xs) (d + 1) 364 240 [(8, .int s0), (0, .ref 58), (1, .int l1), (2, .int l2), (3, .int l3)] [.int l1, .ref 58, .int s0, .int l1, .ref 58] m Q
    refine y_call rfl rfl rfl rfl rfl (Nat.le_of_ble_eq_true rfl) (Nat.le_of_ble_eq_true rfl) rfl (by decide) H (fun v1 m1 H => ?_)
    obtain ⟨u1, rfl, H⟩ := H
    refine y_st rfl rfl rfl rfl rfl (fun _ _ => rfl) ?_
    refine y_gf rfl rfl rfl rfl rfl ?_
    refine y_st rfl rfl rfl rfl rfl (fun _ _ => rfl) ?_
    show yP (xg xs) (d + 1) 364 248 [(8, .int s0), (0, .ref 58), (1, .int l1), (2, .int l2), (3, .int l3)] [.int l2, .ref 88, .int u1, .int s0, .int l1, .ref 58] m1 Q
    refine y_iald rfl rfl rfl (H.1) ?_
    replace H := H.2
    refine y_st rfl rfl rfl rfl rfl (fun _ _ => rfl) ?_
    refine y_gf rfl rfl rfl rfl rfl ?_
    refine y_st rfl rfl rfl rfl rfl (fun _ _ => rfl) ?_
    show yP (xg xs) (d + 1) 364 254 [(8, .int s0), (0, .ref 58), (1, .int l1), (2, .int l2), (3, .int l3)] [.int l3, .ref 88, .int (m1.1 88 l2.toNatClampNeg), .int u1, .int s0, .int l1, .ref 58] m1 Q
    refine y_iald rfl rfl rfl (H.1) ?_
    replace H := H.2
    show yP (xg xs) (d + 1) 364 255 [(8, .int s0), (0, .ref 58), (1, .int l1), (2, .int l2), (3, .int l3)] [.int (m1.1 88 l3.toNatClampNeg), .int (m1.1 88 l2.toNatClampNeg), .int u1, .int s0, .int l1, .ref 58] m1 Q
    refine y_call rfl rfl rfl rfl rfl (Nat.le_of_ble_eq_true rfl) (Nat.le_of_ble_eq_true rfl) rfl (by decide) H (fun v2 m2 H => ?_)
    obtain ⟨u2, rfl, H⟩ := H
    refine y_st rfl rfl rfl rfl rfl (fun _ _ => rfl) ?_
    show yP (xg xs) (d + 1) 364 262 [(8, .int s0), (0, .ref 58), (1, .int l1), (2, .int l2), (3, .int l3)] [.int u2, .int s0, .int l1, .ref 58] m2 Q
    refine y_headS (l2 := []) [] [] [8, 0, 1, 2, 3] rfl rfl (by decide) rfl (by decide) ?_
    exact H
set_option maxRecDepth 20000 in
/-- CodeMakerModel.judgeTwo from 262 on -/
theorem w364_262 (xs : List Int32) (d : Nat) (s1 : Int32) (s2 : Int32) (s3 : Int32) (m : yM) (Q : Option Value → yM → Prop) (H : (yC (xg xs) d 355 [.ref 58, .int s1, .int s2, .int s3] m (fun v1 m1 => v1 = none ∧ Q none m1))) : yP (xg xs) (d + 1) 364 262 [] [.int s3, .int s2, .int s1, .ref 58] m Q := by
  show yP (xg xs) (d + 1) 364 262 [] [.int s3, .int s2, .int s1, .ref 58] m Q
  refine y_call rfl rfl rfl rfl rfl (Nat.le_of_ble_eq_true rfl) (Nat.le_of_ble_eq_true rfl) rfl (by decide) H (fun v1 m1 H => ?_)
  obtain ⟨rfl, H⟩ := H
  show yP (xg xs) (d + 1) 364 265 [] [] m1 Q
  exact y_ret rfl rfl rfl rfl H
set_option maxRecDepth 20000 in
/-- CodeMakerModel.twoOf from 0 on -/
theorem w365_0 (xs : List Int32) (d : Nat) (l1 : Int32) (m : yM) (Q : Option Value → yM → Prop) (H : (x_in l1 20000 = true ∧ ((¬ (m.1 64 l1.toNatClampNeg) = 0 → ((¬ (m.1 64 l1.toNatClampNeg) = (1 : Int32) → ((¬ (m.1 64 l1.toNatClampNeg) = (2 : Int32) → (((9 : Int32) ≤ (m.1 64 l1.toNatClampNeg) → (x_in l1 20000 = true ∧ ((¬ (m.1 84 l1.toNatClampNeg) = (1 : Int32) → Q (some (.int ((m.1 64 l1.toNatClampNeg) - (4 : Int32)))) m) ∧ ((m.1 84 l1.toNatClampNeg) = (1 : Int32) → Q (some (.int ((m.1 64 l1.toNatClampNeg) - (9 : Int32)))) m)))) ∧ (¬ (9 : Int32) ≤ (m.1 64 l1.toNatClampNeg) → Q (some (.int ((m.1 64 l1.toNatClampNeg) + (10 : Int32)))) m))) ∧ ((m.1 64 l1.toNatClampNeg) = (2 : Int32) → Q (some (.int (10 : Int32))) m))) ∧ ((m.1 64 l1.toNatClampNeg) = (1 : Int32) → Q (some (.int (12 : Int32))) m))) ∧ ((m.1 64 l1.toNatClampNeg) = 0 → Q (some (.int (11 : Int32))) m)))) : yP (xg xs) (d + 1) 365 0 [(0, .ref 58), (1, .int l1)] [] m Q := by
  refine y_st rfl rfl rfl rfl rfl (fun _ _ => rfl) ?_
  refine y_gf rfl rfl rfl rfl rfl ?_
  refine y_st rfl rfl rfl rfl rfl (fun _ _ => rfl) ?_
  show yP (xg xs) (d + 1) 365 5 [(0, .ref 58), (1, .int l1)] [.int l1, .ref 64] m Q
  refine y_iald rfl rfl rfl (H.1) ?_
  replace H := H.2
  refine y_st rfl rfl rfl rfl rfl (fun _ _ => rfl) ?_
  refine y_st rfl rfl rfl rfl rfl (fun _ _ => rfl) ?_
  show yP (xg xs) (d + 1) 365 8 [(2, .int (m.1 64 l1.toNatClampNeg)), (0, .ref 58), (1, .int l1)] [.int (m.1 64 l1.toNatClampNeg)] m Q
  refine y_zne (t := 16) rfl rfl rfl (fun h => ?_) (fun h => ?_)
  · replace H := H.1 h; clear h
    refine y_st rfl rfl rfl rfl rfl (fun _ _ => rfl) ?_
    refine y_st rfl rfl rfl rfl rfl (fun _ _ => rfl) ?_
    show yP (xg xs) (d + 1) 365 18 [(2, .int (m.1 64 l1.toNatClampNeg)), (0, .ref 58), (1, .int l1)] [.int (1 : Int32), .int (m.1 64 l1.toNatClampNeg)] m Q
    refine y_ine (t := 26) rfl rfl rfl (fun h => ?_) (fun h => ?_)
    · replace H := H.1 h; clear h
      refine y_st rfl rfl rfl rfl rfl (fun _ _ => rfl) ?_
      refine y_st rfl rfl rfl rfl rfl (fun _ _ => rfl) ?_
      show yP (xg xs) (d + 1) 365 28 [(2, .int (m.1 64 l1.toNatClampNeg)), (0, .ref 58), (1, .int l1)] [.int (2 : Int32), .int (m.1 64 l1.toNatClampNeg)] m Q
      refine y_ine (t := 36) rfl rfl rfl (fun h => ?_) (fun h => ?_)
      · replace H := H.1 h; clear h
        refine y_st rfl rfl rfl rfl rfl (fun _ _ => rfl) ?_
        refine y_st rfl rfl rfl rfl rfl (fun _ _ => rfl) ?_
        show yP (xg xs) (d + 1) 365 39 [(2, .int (m.1 64 l1.toNatClampNeg)), (0, .ref 58), (1, .int l1)] [.int (9 : Int32), .int (m.1 64 l1.toNatClampNeg)] m Q
        refine y_ige (t := 49) rfl rfl rfl (fun h => ?_) (fun h => ?_)
        · replace H := H.1 h; clear h
          refine y_st rfl rfl rfl rfl rfl (fun _ _ => rfl) ?_
          refine y_gf rfl rfl rfl rfl rfl ?_
          refine y_st rfl rfl rfl rfl rfl (fun _ _ => rfl) ?_
          show yP (xg xs) (d + 1) 365 54 [(2, .int (m.1 64 l1.toNatClampNeg)), (0, .ref 58), (1, .int l1)] [.int l1, .ref 84] m Q
          refine y_iald rfl rfl rfl (H.1) ?_
          replace H := H.2
          refine y_st rfl rfl rfl rfl rfl (fun _ _ => rfl) ?_
          show yP (xg xs) (d + 1) 365 56 [(2, .int (m.1 64 l1.toNatClampNeg)), (0, .ref 58), (1, .int l1)] [.int (1 : Int32), .int (m.1 84 l1.toNatClampNeg)] m Q
          refine y_ine (t := 66) rfl rfl rfl (fun h => ?_) (fun h => ?_)
          · replace H := H.1 h; clear h
            refine y_st rfl rfl rfl rfl rfl (fun _ _ => rfl) ?_
            refine y_st rfl rfl rfl rfl rfl (fun _ _ => rfl) ?_
            refine y_st rfl rfl rfl rfl rfl (fun _ _ => rfl) ?_
            show yP (xg xs) (d + 1) 365 69 [(2, .int (m.1 64 l1.toNatClampNeg)), (0, .ref 58), (1, .int l1)] [.int ((m.1 64 l1.toNatClampNeg) - (4 : Int32))] m Q
            exact y_iret rfl rfl rfl H
          · replace H := H.2 h; clear h
            refine y_st rfl rfl rfl rfl rfl (fun _ _ => rfl) ?_
            refine y_st rfl rfl rfl rfl rfl (fun _ _ => rfl) ?_
            refine y_st rfl rfl rfl rfl rfl (fun _ _ => rfl) ?_
            refine y_st rfl rfl rfl rfl rfl (fun _ _ => rfl) ?_
            show yP (xg xs) (d + 1) 365 69 [(2, .int (m.1 64 l1.toNatClampNeg)), (0, .ref 58), (1, .int l1)] [.int ((m.1 64 l1.toNatClampNeg) - (9 : Int32))] m Q
            exact y_iret rfl rfl rfl H
        · replace H := H.2 h; clear h
          refine y_st rfl rfl rfl rfl rfl (fun _ _ => rfl) ?_
          refine y_st rfl rfl rfl rfl rfl (fun _ _ => rfl) ?_
          refine y_st rfl rfl rfl rfl rfl (fun _ _ => rfl) ?_
          refine y_st rfl rfl rfl rfl rfl (fun _ _ => rfl) ?_
          show yP (xg xs) (d + 1) 365 69 [(2, .int (m.1 64 l1.toNatClampNeg)), (0, .ref 58), (1, .int l1)] [.int ((m.1 64 l1.toNatClampNeg) + (10 : Int32))] m Q
          exact y_iret rfl rfl rfl H
      · replace H := H.2 h; clear h
        refine y_st rfl rfl rfl rfl rfl (fun _ _ => rfl) ?_
        refine y_st rfl rfl rfl rfl rfl (fun _ _ => rfl) ?_
        show yP (xg xs) (d + 1) 365 69 [(2, .int (m.1 64 l1.toNatClampNeg)), (0, .ref 58), (1, .int l1)] [.int (10 : Int32)] m Q
        exact y_iret rfl rfl rfl H
    · replace H := H.2 h; clear h
      refine y_st rfl rfl rfl rfl rfl (fun _ _ => rfl) ?_
      refine y_st rfl rfl rfl rfl rfl (fun _ _ => rfl) ?_
      show yP (xg xs) (d + 1) 365 69 [(2, .int (m.1 64 l1.toNatClampNeg)), (0, .ref 58), (1, .int l1)] [.int (12 : Int32)] m Q
      exact y_iret rfl rfl rfl H
  · replace H := H.2 h; clear h
    refine y_st rfl rfl rfl rfl rfl (fun _ _ => rfl) ?_
    refine y_st rfl rfl rfl rfl rfl (fun _ _ => rfl) ?_
    show yP (xg xs) (d + 1) 365 69 [(2, .int (m.1 64 l1.toNatClampNeg)), (0, .ref 58), (1, .int l1)] [.int (11 : Int32)] m Q
    exact y_iret rfl rfl rfl H
set_option maxRecDepth 20000 in
/-- CodeMakerModel.oneOf from 0 on -/
theorem w366_0 (xs : List Int32) (d : Nat) (l1 : Int32) (m : yM) (Q : Option Value → yM → Prop) (H : (x_in l1 20000 = true ∧ ((¬ (m.1 64 l1.toNatClampNeg) = 0 → (x_in l1 20000 = true ∧ ((¬ (m.1 84 l1.toNatClampNeg) = 0 → Q (some (.int (3 : Int32))) m) ∧ ((m.1 84 l1.toNatClampNeg) = 0 → Q (some (.int (2 : Int32))) m)))) ∧ ((m.1 64 l1.toNatClampNeg) = 0 → (x_in l1 20000 = true ∧ ((¬ (m.1 84 l1.toNatClampNeg) = (1 : Int32) → Q (some (.int (1 : Int32))) m) ∧ ((m.1 84 l1.toNatClampNeg) = (1 : Int32) → Q (some (.int (0 : Int32))) m))))))) : yP (xg xs) (d + 1) 366 0 [(0, .ref 58), (1, .int l1)] [] m Q := by
  refine y_st rfl rfl rfl rfl rfl (fun _ _ => rfl) ?_
  refine y_gf rfl rfl rfl rfl rfl ?_
  refine y_st rfl rfl rfl rfl rfl (fun _ _ => rfl) ?_
  show yP (xg xs) (d + 1) 366 5 [(0, .ref 58), (1, .int l1)] [.int l1, .ref 64] m Q
  refine y_iald rfl rfl rfl (H.1) ?_
  replace H := H.2
  show yP (xg xs) (d + 1) 366 6 [(0, .ref 58), (1, .int l1)] [.int (m.1 64 l1.toNatClampNeg)] m Q
  refine y_zne (t := 27) rfl rfl rfl (fun h => ?_) (fun h => ?_)
  · replace H := H.1 h; clear h
    refine y_st rfl rfl rfl rfl rfl (fun _ _ => rfl) ?_
    refine y_gf rfl rfl rfl rfl rfl ?_
    refine y_st rfl rfl rfl rfl rfl (fun _ _ => rfl) ?_
    show yP (xg xs) (d + 1) 366 32 [(0, .ref 58), (1, .int l1)] [.int l1, .ref 84] m Q
    refine y_iald rfl rfl rfl (H.1) ?_
    replace H := H.2
    show yP (xg xs) (d + 1) 366 33 [(0, .ref 58), (1, .int l1)] [.int (m.1 84 l1.toNatClampNeg)] m Q
    refine y_zne (t := 40) rfl rfl rfl (fun h => ?_) (fun h => ?_)
    · replace H := H.1 h; clear h
      refine y_st rfl rfl rfl rfl rfl (fun _ _ => rfl) ?_
      show yP (xg xs) (d + 1) 366 41 [(0, .ref 58), (1, .int l1)] [.int (3 : Int32)] m Q
      exact y_iret rfl rfl rfl H
    · replace H := H.2 h; clear h
      refine y_st rfl rfl rfl rfl rfl (fun _ _ => rfl) ?_
      refine y_st rfl rfl rfl rfl rfl (fun _ _ => rfl) ?_
      show yP (xg xs) (d + 1) 366 41 [(0, .ref 58), (1, .int l1)] [.int (2 : Int32)] m Q
      exact y_iret rfl rfl rfl H
  · replace H := H.2 h; clear h
    refine y_st rfl rfl rfl rfl rfl (fun _ _ => rfl) ?_
    refine y_gf rfl rfl rfl rfl rfl ?_
    refine y_st rfl rfl rfl rfl rfl (fun _ _ => rfl) ?_
    show yP (xg xs) (d + 1) 366 14 [(0, .ref 58), (1, .int l1)] [.int l1, .ref 84] m Q
    refine y_iald rfl rfl rfl (H.1) ?_
    replace H := H.2
    refine y_st rfl rfl rfl rfl rfl (fun _ _ => rfl) ?_
    show yP (xg xs) (d + 1) 366 16 [(0, .ref 58), (1, .int l1)] [.int (1 : Int32), .int (m.1 84 l1.toNatClampNeg)] m Q
    refine y_ine (t := 23) rfl rfl rfl (fun h => ?_) (fun h => ?_)
    · replace H := H.1 h; clear h
      refine y_st rfl rfl rfl rfl rfl (fun _ _ => rfl) ?_
      refine y_st rfl rfl rfl rfl rfl (fun _ _ => rfl) ?_
      show yP (xg xs) (d + 1) 366 41 [(0, .ref 58), (1, .int l1)] [.int (1 : Int32)] m Q
      exact y_iret rfl rfl rfl H
    · replace H := H.2 h; clear h
      refine y_st rfl rfl rfl rfl rfl (fun _ _ => rfl) ?_
      refine y_st rfl rfl rfl rfl rfl (fun _ _ => rfl) ?_
      show yP (xg xs) (d + 1) 366 41 [(0, .ref 58), (1, .int l1)] [.int (0 : Int32)] m Q
      exact y_iret rfl rfl rfl H
