/-! WHAT EACH METHOD COMES TO, group g: laid by wip/gen/wpall.py -/
set_option maxRecDepth 20000 in
/-- CodeMakerModel.make from 0 on -/
theorem w269_0 (xs : List Int32) (d : Nat) (m : yM) (Q : Option Value → yM → Prop) (H : (yC (xg xs) d 270 [.ref 58] (y_si (y_si (y_si (y_si (y_si (y_si (y_si (y_si (y_si (y_si (y_si (y_si m 58 0 (0 : Int32)) 58 3 (0 : Int32)) 58 4 ((-1) : Int32)) 58 5 (0 : Int32)) 58 8 (0 : Int32)) 58 12 (0 : Int32)) 58 21 (0 : Int32)) 58 22 (0 : Int32)) 58 23 (0 : Int32)) 58 30 (0 : Int32)) 58 29 (0 : Int32)) 58 61 (0 : Int32)) (fun v1 m1 => ∃ u1, v1 = some (Value.int u1) ∧ ((¬ (m1.1 58 3) = 0 → yP (xg xs) (d + 1) 269 77 [(0, .ref 58), (1, .int u1)] [] m1 Q) ∧ ((m1.1 58 3) = 0 → (yC (xg xs) d 321 [.ref 58, .int u1] m1 (fun v2 m2 => v2 = none ∧ yP (xg xs) (d + 1) 269 77 [(0, .ref 58), (1, .int u1)] [] m2 Q))))))) : yP (xg xs) (d + 1) 269 0 [(0, .ref 58)] [] m Q := by
  refine y_st rfl rfl rfl rfl rfl (fun _ _ => rfl) ?_
  refine y_st rfl rfl rfl rfl rfl (fun _ _ => rfl) ?_
  refine y_pfi rfl rfl rfl rfl rfl (x_fit_i _) ?_
  show yP (xg xs) (d + 1) 269 5 [(0, .ref 58)] [] (y_si m 58 0 (0 : Int32)) Q
  refine y_st rfl rfl rfl rfl rfl (fun _ _ => rfl) ?_
  refine y_st rfl rfl rfl rfl rfl (fun _ _ => rfl) ?_
  refine y_pfi rfl rfl rfl rfl rfl (x_fit_i _) ?_
  show yP (xg xs) (d + 1) 269 10 [(0, .ref 58)] [] (y_si (y_si m 58 0 (0 : Int32)) 58 3 (0 : Int32)) Q
  refine y_st rfl rfl rfl rfl rfl (fun _ _ => rfl) ?_
  refine y_st rfl rfl rfl rfl rfl (fun _ _ => rfl) ?_
  refine y_pfi rfl rfl rfl rfl rfl (x_fit_i _) ?_
  show yP (xg xs) (d + 1) 269 15 [(0, .ref 58)] [] (y_si (y_si (y_si m 58 0 (0 : Int32)) 58 3 (0 : Int32)) 58 4 ((-1) : Int32)) Q
  refine y_st rfl rfl rfl rfl rfl (fun _ _ => rfl) ?_
  refine y_st rfl rfl rfl rfl rfl (fun _ _ => rfl) ?_
  refine y_pfi rfl rfl rfl rfl rfl (x_fit_i _) ?_
  show yP (xg xs) (d + 1) 269 20 [(0, .ref 58)] [] (y_si (y_si (y_si (y_si m 58 0 (0 : Int32)) 58 3 (0 : Int32)) 58 4 ((-1) : Int32)) 58 5 (0 : Int32)) Q
  refine y_st rfl rfl rfl rfl rfl (fun _ _ => rfl) ?_
  refine y_st rfl rfl rfl rfl rfl (fun _ _ => rfl) ?_
  refine y_pfi rfl rfl rfl rfl rfl (x_fit_i _) ?_
  show yP (xg xs) (d + 1) 269 25 [(0, .ref 58)] [] (y_si (y_si (y_si (y_si (y_si m 58 0 (0 : Int32)) 58 3 (0 : Int32)) 58 4 ((-1) : Int32)) 58 5 (0 : Int32)) 58 8 (0 : Int32)) Q
  refine y_st rfl rfl rfl rfl rfl (fun _ _ => rfl) ?_
  refine y_st rfl rfl rfl rfl rfl (fun _ _ => rfl) ?_
  refine y_pfi rfl rfl rfl rfl rfl (x_fit_i _) ?_
  show yP (xg xs) (d + 1) 269 30 [(0, .ref 58)] [] (y_si (y_si (y_si (y_si (y_si (y_si m 58 0 (0 : Int32)) 58 3 (0 : Int32)) 58 4 ((-1) : Int32)) 58 5 (0 : Int32)) 58 8 (0 : Int32)) 58 12 (0 : Int32)) Q
  refine y_st rfl rfl rfl rfl rfl (fun _ _ => rfl) ?_
  refine y_st rfl rfl rfl rfl rfl (fun _ _ => rfl) ?_
  refine y_pfi rfl rfl rfl rfl rfl (x_fit_i _) ?_
  show yP (xg xs) (d + 1) 269 35 [(0, .ref 58)] [] (y_si (y_si (y_si (y_si (y_si (y_si (y_si m 58 0 (0 : Int32)) 58 3 (0 : Int32)) 58 4 ((-1) : Int32)) 58 5 (0 : Int32)) 58 8 (0 : Int32)) 58 12 (0 : Int32)) 58 21 (0 : Int32)) Q
  refine y_st rfl rfl rfl rfl rfl (fun _ _ => rfl) ?_
  refine y_st rfl rfl rfl rfl rfl (fun _ _ => rfl) ?_
  refine y_pfi rfl rfl rfl rfl rfl (x_fit_i _) ?_
  show yP (xg xs) (d + 1) 269 40 [(0, .ref 58)] [] (y_si (y_si (y_si (y_si (y_si (y_si (y_si (y_si m 58 0 (0 : Int32)) 58 3 (0 : Int32)) 58 4 ((-1) : Int32)) 58 5 (0 : Int32)) 58 8 (0 : Int32)) 58 12 (0 : Int32)) 58 21 (0 : Int32)) 58 22 (0 : Int32)) Q
  refine y_st rfl rfl rfl rfl rfl (fun _ _ => rfl) ?_
  refine y_st rfl rfl rfl rfl rfl (fun _ _ => rfl) ?_
  refine y_pfi rfl rfl rfl rfl rfl (x_fit_i _) ?_
  show yP (xg xs) (d + 1) 269 45 [(0, .ref 58)] [] (y_si (y_si (y_si (y_si (y_si (y_si (y_si (y_si (y_si m 58 0 (0 : Int32)) 58 3 (0 : Int32)) 58 4 ((-1) : Int32)) 58 5 (0 : Int32)) 58 8 (0 : Int32)) 58 12 (0 : Int32)) 58 21 (0 : Int32)) 58 22 (0 : Int32)) 58 23 (0 : Int32)) Q
  refine y_st rfl rfl rfl rfl rfl (fun _ _ => rfl) ?_
  refine y_st rfl rfl rfl rfl rfl (fun _ _ => rfl) ?_
  refine y_pfi rfl rfl rfl rfl rfl (x_fit_i _) ?_
  show yP (xg xs) (d + 1) 269 50 [(0, .ref 58)] [] (y_si (y_si (y_si (y_si (y_si (y_si (y_si (y_si (y_si (y_si m 58 0 (0 : Int32)) 58 3 (0 : Int32)) 58 4 ((-1) : Int32)) 58 5 (0 : Int32)) 58 8 (0 : Int32)) 58 12 (0 : Int32)) 58 21 (0 : Int32)) 58 22 (0 : Int32)) 58 23 (0 : Int32)) 58 30 (0 : Int32)) Q
  refine y_st rfl rfl rfl rfl rfl (fun _ _ => rfl) ?_
  refine y_st rfl rfl rfl rfl rfl (fun _ _ => rfl) ?_
  refine y_pfi rfl rfl rfl rfl rfl (x_fit_z (by decide)) ?_
  show yP (xg xs) (d + 1) 269 55 [(0, .ref 58)] [] (y_si (y_si (y_si (y_si (y_si (y_si (y_si (y_si (y_si (y_si (y_si m 58 0 (0 : Int32)) 58 3 (0 : Int32)) 58 4 ((-1) : Int32)) 58 5 (0 : Int32)) 58 8 (0 : Int32)) 58 12 (0 : Int32)) 58 21 (0 : Int32)) 58 22 (0 : Int32)) 58 23 (0 : Int32)) 58 30 (0 : Int32)) 58 29 (0 : Int32)) Q
  refine y_st rfl rfl rfl rfl rfl (fun _ _ => rfl) ?_
  refine y_st rfl rfl rfl rfl rfl (fun _ _ => rfl) ?_
  refine y_pfi rfl rfl rfl rfl rfl (x_fit_z (by decide)) ?_
  show yP (xg xs) (d + 1) 269 60 [(0, .ref 58)] [] (y_si (y_si (y_si (y_si (y_si (y_si (y_si (y_si (y_si (y_si (y_si (y_si m 58 0 (0 : Int32)) 58 3 (0 : Int32)) 58 4 ((-1) : Int32)) 58 5 (0 : Int32)) 58 8 (0 : Int32)) 58 12 (0 : Int32)) 58 21 (0 : Int32)) 58 22 (0 : Int32)) 58 23 (0 : Int32)) 58 30 (0 : Int32)) 58 29 (0 : Int32)) 58 61 (0 : Int32)) Q
  refine y_st rfl rfl rfl rfl rfl (fun _ _ => rfl) ?_
  show yP (xg xs) (d + 1) 269 61 [(0, .ref 58)] [.ref 58] (y_si (y_si (y_si (y_si (y_si (y_si (y_si (y_si (y_si (y_si (y_si (y_si m 58 0 (0 : Int32)) 58 3 (0 : Int32)) 58 4 ((-1) : Int32)) 58 5 (0 : Int32)) 58 8 (0 : Int32)) 58 12 (0 : Int32)) 58 21 (0 : Int32)) 58 22 (0 : Int32)) 58 23 (0 : Int32)) 58 30 (0 : Int32)) 58 29 (0 : Int32)) 58 61 (0 : Int32)) Q
  refine y_call rfl rfl rfl rfl rfl (Nat.le_of_ble_eq_true rfl) (Nat.le_of_ble_eq_true rfl) rfl (by decide) H (fun v1 m1 H => ?_)
  obtain ⟨u1, rfl, H⟩ := H
  refine y_st rfl rfl rfl rfl rfl (fun _ _ => rfl) ?_
  refine y_st rfl rfl rfl rfl rfl (fun _ _ => rfl) ?_
  refine y_gf rfl rfl rfl rfl rfl ?_
  show yP (xg xs) (d + 1) 269 69 [(1, .int u1), (0, .ref 58)] [.int (m1.1 58 3)] m1 Q
  refine y_zne (t := 77) rfl rfl rfl (fun h => ?_) (fun h => ?_)
  · replace H := H.1 h; clear h
    show yP (xg xs) (d + 1) 269 77 [(1, .int u1), (0, .ref 58)] [] m1 Q
    refine y_headS (l2 := [(0, .ref 58), (1, .int u1)]) [1, 0] [0, 1] [1, 0] rfl rfl (by decide) rfl (by decide) ?_
    exact H
  · replace H := H.2 h; clear h
    refine y_st rfl rfl rfl rfl rfl (fun _ _ => rfl) ?_
    refine y_st rfl rfl rfl rfl rfl (fun _ _ => rfl) ?_
    show yP (xg xs) (d + 1) 269 74 [(1, .int u1), (0, .ref 58)] [.int u1, .ref 58] m1 Q
    refine y_call rfl rfl rfl rfl rfl (Nat.le_of_ble_eq_true rfl) (Nat.le_of_ble_eq_true rfl) rfl (by decide) H (fun v2 m2 H => ?_)
    obtain ⟨rfl, H⟩ := H
    show yP (xg xs) (d + 1) 269 77 [(1, .int u1), (0, .ref 58)] [] m2 Q
    refine y_headS (l2 := [(0, .ref 58), (1, .int u1)]) [1, 0] [0, 1] [1, 0] rfl rfl (by decide) rfl (by decide) ?_
    exact H
set_option maxRecDepth 20000 in
/-- CodeMakerModel.make from 77 on -/
theorem w269_77 (xs : List Int32) (d : Nat) (l1 : Int32) (m : yM) (Q : Option Value → yM → Prop) (H : ((¬ (m.1 58 3) = 0 → yP (xg xs) (d + 1) 269 89 [(0, .ref 58)] [] m Q) ∧ ((m.1 58 3) = 0 → (yC (xg xs) d 367 [.ref 58, .int l1] m (fun v1 m1 => v1 = none ∧ yP (xg xs) (d + 1) 269 89 [(0, .ref 58)] [] m1 Q))))) : yP (xg xs) (d + 1) 269 77 [(0, .ref 58), (1, .int l1)] [] m Q := by
  refine y_st rfl rfl rfl rfl rfl (fun _ _ => rfl) ?_
  refine y_gf rfl rfl rfl rfl rfl ?_
  show yP (xg xs) (d + 1) 269 81 [(0, .ref 58), (1, .int l1)] [.int (m.1 58 3)] m Q
  refine y_zne (t := 89) rfl rfl rfl (fun h => ?_) (fun h => ?_)
  · replace H := H.1 h; clear h
    show yP (xg xs) (d + 1) 269 89 [(0, .ref 58), (1, .int l1)] [] m Q
    refine y_headS (l2 := [(0, .ref 58)]) [0] [0] [0, 1] rfl rfl (by decide) rfl (by decide) ?_
    exact H
  · replace H := H.2 h; clear h
    refine y_st rfl rfl rfl rfl rfl (fun _ _ => rfl) ?_
    refine y_st rfl rfl rfl rfl rfl (fun _ _ => rfl) ?_
    show yP (xg xs) (d + 1) 269 86 [(0, .ref 58), (1, .int l1)] [.int l1, .ref 58] m Q
    refine y_call rfl rfl rfl rfl rfl (Nat.le_of_ble_eq_true rfl) (Nat.le_of_ble_eq_true rfl) rfl (by decide) H (fun v1 m1 H => ?_)
    obtain ⟨rfl, H⟩ := H
    show yP (xg xs) (d + 1) 269 89 [(0, .ref 58), (1, .int l1)] [] m1 Q
    refine y_headS (l2 := [(0, .ref 58)]) [0] [0] [0, 1] rfl rfl (by decide) rfl (by decide) ?_
    exact H
set_option maxRecDepth 20000 in
/-- CodeMakerModel.make from 89 on -/
theorem w269_89 (xs : List Int32) (d : Nat) (m : yM) (Q : Option Value → yM → Prop) (H : (((m.1 58 3) ≤ 0 → (yC (xg xs) d 328 [.ref 58] m (fun v1 m1 => ∃ u1, v1 = some (Value.int u1) ∧ yP (xg xs) (d + 1) 269 111 [(0, .ref 58), (2, .int (0 : Int32))] [] (y_si m1 58 62 u1) Q))) ∧ (¬ (m.1 58 3) ≤ 0 → Q (some (.int (m.1 58 3))) m))) : yP (xg xs) (d + 1) 269 89 [(0, .ref 58)] [] m Q := by
  refine y_st rfl rfl rfl rfl rfl (fun _ _ => rfl) ?_
  refine y_gf rfl rfl rfl rfl rfl ?_
  show yP (xg xs) (d + 1) 269 93 [(0, .ref 58)] [.int (m.1 58 3)] m Q
  refine y_zle (t := 101) rfl rfl rfl (fun h => ?_) (fun h => ?_)
  · replace H := H.1 h; clear h
    refine y_st rfl rfl rfl rfl rfl (fun _ _ => rfl) ?_
    refine y_st rfl rfl rfl rfl rfl (fun _ _ => rfl) ?_
    show yP (xg xs) (d + 1) 269 103 [(0, .ref 58)] [.ref 58, .ref 58] m Q
    refine y_call rfl rfl rfl rfl rfl (Nat.le_of_ble_eq_true rfl) (Nat.le_of_ble_eq_true rfl) rfl (by decide) H (fun v1 m1 H => ?_)
    obtain ⟨u1, rfl, H⟩ := H
    refine y_pfi rfl rfl rfl rfl rfl (x_fit_i _) ?_
    show yP (xg xs) (d + 1) 269 109 [(0, .ref 58)] [] (y_si m1 58 62 u1) Q
    refine y_st rfl rfl rfl rfl rfl (fun _ _ => rfl) ?_
    refine y_st rfl rfl rfl rfl rfl (fun _ _ => rfl) ?_
    show yP (xg xs) (d + 1) 269 111 [(2, .int (0 : Int32)), (0, .ref 58)] [] (y_si m1 58 62 u1) Q
    refine y_headS (l2 := [(0, .ref 58), (2, .int (0 : Int32))]) [1, 0] [0, 2] [2, 0] rfl rfl (by decide) rfl (by decide) ?_
    exact H
  · replace H := H.2 h; clear h
    refine y_st rfl rfl rfl rfl rfl (fun _ _ => rfl) ?_
    refine y_gf rfl rfl rfl rfl rfl ?_
    show yP (xg xs) (d + 1) 269 100 [(0, .ref 58)] [.int (m.1 58 3)] m Q
    exact y_iret rfl rfl rfl H
set_option maxRecDepth 20000 in
/-- CodeMakerModel.make from 111 on -/
theorem w269_111 (xs : List Int32) (d : Nat) (l2 : Int32) (m : yM) (Q : Option Value → yM → Prop) (H : (((8192 : Int32) ≤ l2 → (x_in ((m.1 58 23) - (1 : Int32)) 400 = true ∧ yP (xg xs) (d + 1) 269 145 [(0, .ref 58), (2, .int (m.1 72 (((m.1 58 23) - (1 : Int32)).toNatClampNeg))), (3, .int (0 : Int32))] [] m Q)) ∧ (¬ (8192 : Int32) ≤ l2 → (x_in l2 8192 = true ∧ yP (xg xs) (d + 1) 269 111 [(0, .ref 58), (2, .int (l2 + (1 : Int32)))] [] (y_si m 98 l2.toNatClampNeg (0 : Int32)) Q)))) : yP (xg xs) (d + 1) 269 111 [(0, .ref 58), (2, .int l2)] [] m Q := by
  refine y_st rfl rfl rfl rfl rfl (fun _ _ => rfl) ?_
  refine y_st rfl rfl rfl rfl rfl (fun _ _ => rfl) ?_
  show yP (xg xs) (d + 1) 269 115 [(0, .ref 58), (2, .int l2)] [.int (8192 : Int32), .int l2] m Q
  refine y_ige (t := 131) rfl rfl rfl (fun h => ?_) (fun h => ?_)
  · replace H := H.1 h; clear h
    refine y_st rfl rfl rfl rfl rfl (fun _ _ => rfl) ?_
    refine y_gf rfl rfl rfl rfl rfl ?_
    refine y_st rfl rfl rfl rfl rfl (fun _ _ => rfl) ?_
    refine y_gf rfl rfl rfl rfl rfl ?_
    refine y_st rfl rfl rfl rfl rfl (fun _ _ => rfl) ?_
    refine y_st rfl rfl rfl rfl rfl (fun _ _ => rfl) ?_
    show yP (xg xs) (d + 1) 269 141 [(0, .ref 58), (2, .int l2)] [.int ((m.1 58 23) - (1 : Int32)), .ref 72] m Q
    refine y_iald rfl rfl rfl (H.1) ?_
    replace H := H.2
    refine y_st rfl rfl rfl rfl rfl (fun _ _ => rfl) ?_
    refine y_st rfl rfl rfl rfl rfl (fun _ _ => rfl) ?_
    refine y_st rfl rfl rfl rfl rfl (fun _ _ => rfl) ?_
    show yP (xg xs) (d + 1) 269 145 [(3, .int (0 : Int32)), (2, .int (m.1 72 (((m.1 58 23) - (1 : Int32)).toNatClampNeg))), (0, .ref 58)] [] m Q
    refine y_headS (l2 := [(0, .ref 58), (2, .int (m.1 72 (((m.1 58 23) - (1 : Int32)).toNatClampNeg))), (3, .int (0 : Int32))]) [2, 1, 0] [0, 2, 3] [3, 2, 0] rfl rfl (by decide) rfl (by decide) ?_
    exact H
  · replace H := H.2 h; clear h
    refine y_st rfl rfl rfl rfl rfl (fun _ _ => rfl) ?_
    refine y_gf rfl rfl rfl rfl rfl ?_
    refine y_st rfl rfl rfl rfl rfl (fun _ _ => rfl) ?_
    refine y_st rfl rfl rfl rfl rfl (fun _ _ => rfl) ?_
    show yP (xg xs) (d + 1) 269 124 [(0, .ref 58), (2, .int l2)] [.int (0 : Int32), .int l2, .ref 98] m Q
    refine y_iast rfl rfl rfl (H.1) ?_
    replace H := H.2
    refine y_st rfl rfl rfl rfl rfl (fun _ _ => rfl) ?_
    refine y_st rfl rfl rfl rfl rfl (fun _ _ => rfl) ?_
    show yP (xg xs) (d + 1) 269 111 [(2, .int (l2 + (1 : Int32))), (0, .ref 58)] [] (y_si m 98 l2.toNatClampNeg (0 : Int32)) Q
    refine y_headS (l2 := [(0, .ref 58), (2, .int (l2 + (1 : Int32)))]) [1, 0] [0, 2] [2, 0] rfl rfl (by decide) rfl (by decide) ?_
    exact H
set_option maxRecDepth 20000 in
/-- CodeMakerModel.make from 145 on -/
theorem w269_145 (xs : List Int32) (d : Nat) (l2 : Int32) (l3 : Int32) (m : yM) (Q : Option Value → yM → Prop) (H : ((((m.1 58 23) - (1 : Int32)) ≤ l3 → (yC (xg xs) d 393 [.ref 58, .int ((m.1 58 23) - (1 : Int32)), .int (0 : Int32)] m (fun v1 m1 => v1 = none ∧ Q (some (.int (0 : Int32))) (y_si (y_si (y_si m1 58 64 (0 : Int32)) 58 65 (0 : Int32)) 58 61 (1 : Int32))))) ∧ (¬ ((m.1 58 23) - (1 : Int32)) ≤ l3 → (x_in l3 400 = true ∧ (x_in l3 400 = true ∧ (x_in (m.1 70 l3.toNatClampNeg) 20000 = true ∧ ((¬ (m.1 62 ((m.1 70 l3.toNatClampNeg).toNatClampNeg)) = (1 : Int32) → yP (xg xs) (d + 1) 269 188 [(0, .ref 58), (3, .int l3)] [.int (0 : Int32), .int l2] (y_si m 74 l3.toNatClampNeg l2) Q) ∧ ((m.1 62 ((m.1 70 l3.toNatClampNeg).toNatClampNeg)) = (1 : Int32) → (x_in l3 400 = true ∧ yP (xg xs) (d + 1) 269 188 [(0, .ref 58), (3, .int l3)] [.int (m.1 72 l3.toNatClampNeg), .int l2] (y_si m 74 l3.toNatClampNeg l2) Q))))))))) : yP (xg xs) (d + 1) 269 145 [(0, .ref 58), (2, .int l2), (3, .int l3)] [] m Q := by
  refine y_st rfl rfl rfl rfl rfl (fun _ _ => rfl) ?_
  refine y_st rfl rfl rfl rfl rfl (fun _ _ => rfl) ?_
  refine y_gf rfl rfl rfl rfl rfl ?_
  refine y_st rfl rfl rfl rfl rfl (fun _ _ => rfl) ?_
  refine y_st rfl rfl rfl rfl rfl (fun _ _ => rfl) ?_
  show yP (xg xs) (d + 1) 269 152 [(0, .ref 58), (2, .int l2), (3, .int l3)] [.int ((m.1 58 23) - (1 : Int32)), .int l3] m Q
  refine y_ige (t := 222) rfl rfl rfl (fun h => ?_) (fun h => ?_)
  · replace H := H.1 h; clear h
    refine y_st rfl rfl rfl rfl rfl (fun _ _ => rfl) ?_
    refine y_st rfl rfl rfl rfl rfl (fun _ _ => rfl) ?_
    refine y_gf rfl rfl rfl rfl rfl ?_
    refine y_st rfl rfl rfl rfl rfl (fun _ _ => rfl) ?_
    refine y_st rfl rfl rfl rfl rfl (fun _ _ => rfl) ?_
    refine y_st rfl rfl rfl rfl rfl (fun _ _ => rfl) ?_
    show yP (xg xs) (d + 1) 269 230 [(0, .ref 58), (2, .int l2), (3, .int l3)] [.int (0 : Int32), .int ((m.1 58 23) - (1 : Int32)), .ref 58] m Q
    refine y_call rfl rfl rfl rfl rfl (Nat.le_of_ble_eq_true rfl) (Nat.le_of_ble_eq_true rfl) rfl (by decide) H (fun v1 m1 H => ?_)
    obtain ⟨rfl, H⟩ := H
    refine y_st rfl rfl rfl rfl rfl (fun _ _ => rfl) ?_
    refine y_st rfl rfl rfl rfl rfl (fun _ _ => rfl) ?_
    refine y_pfi rfl rfl rfl rfl rfl (x_fit_i _) ?_
    show yP (xg xs) (d + 1) 269 238 [(0, .ref 58), (2, .int l2), (3, .int l3)] [] (y_si m1 58 64 (0 : Int32)) Q
    refine y_st rfl rfl rfl rfl rfl (fun _ _ => rfl) ?_
    refine y_st rfl rfl rfl rfl rfl (fun _ _ => rfl) ?_
    refine y_pfi rfl rfl rfl rfl rfl (x_fit_i _) ?_
    show yP (xg xs) (d + 1) 269 243 [(0, .ref 58), (2, .int l2), (3, .int l3)] [] (y_si (y_si m1 58 64 (0 : Int32)) 58 65 (0 : Int32)) Q
    refine y_st rfl rfl rfl rfl rfl (fun _ _ => rfl) ?_
    refine y_st rfl rfl rfl rfl rfl (fun _ _ => rfl) ?_
    refine y_pfi rfl rfl rfl rfl rfl (x_fit_z (by decide)) ?_
    show yP (xg xs) (d + 1) 269 248 [(0, .ref 58), (2, .int l2), (3, .int l3)] [] (y_si (y_si (y_si m1 58 64 (0 : Int32)) 58 65 (0 : Int32)) 58 61 (1 : Int32)) Q
    refine y_st rfl rfl rfl rfl rfl (fun _ _ => rfl) ?_
    show yP (xg xs) (d + 1) 269 249 [(0, .ref 58), (2, .int l2), (3, .int l3)] [.int (0 : Int32)] (y_si (y_si (y_si m1 58 64 (0 : Int32)) 58 65 (0 : Int32)) 58 61 (1 : Int32)) Q
    exact y_iret rfl rfl rfl H
  · replace H := H.2 h; clear h
    refine y_st rfl rfl rfl rfl rfl (fun _ _ => rfl) ?_
    refine y_gf rfl rfl rfl rfl rfl ?_
    refine y_st rfl rfl rfl rfl rfl (fun _ _ => rfl) ?_
    refine y_st rfl rfl rfl rfl rfl (fun _ _ => rfl) ?_
    show yP (xg xs) (d + 1) 269 161 [(0, .ref 58), (2, .int l2), (3, .int l3)] [.int l2, .int l3, .ref 74] m Q
    refine y_iast rfl rfl rfl (H.1) ?_
    replace H := H.2
    refine y_st rfl rfl rfl rfl rfl (fun _ _ => rfl) ?_
    refine y_st rfl rfl rfl rfl rfl (fun _ _ => rfl) ?_
    refine y_gf rfl rfl rfl rfl rfl ?_
    refine y_st rfl rfl rfl rfl rfl (fun _ _ => rfl) ?_
    refine y_gf rfl rfl rfl rfl rfl ?_
    refine y_st rfl rfl rfl rfl rfl (fun _ _ => rfl) ?_
    show yP (xg xs) (d + 1) 269 172 [(0, .ref 58), (2, .int l2), (3, .int l3)] [.int l3, .ref 70, .ref 62, .int l2] (y_si m 74 l3.toNatClampNeg l2) Q
    refine y_iald rfl rfl rfl (H.1) ?_
    replace H := H.2
    show yP (xg xs) (d + 1) 269 173 [(0, .ref 58), (2, .int l2), (3, .int l3)] [.int (m.1 70 l3.toNatClampNeg), .ref 62, .int l2] (y_si m 74 l3.toNatClampNeg l2) Q
    refine y_iald rfl rfl rfl (H.1) ?_
    replace H := H.2
    refine y_st rfl rfl rfl rfl rfl (fun _ _ => rfl) ?_
    show yP (xg xs) (d + 1) 269 175 [(0, .ref 58), (2, .int l2), (3, .int l3)] [.int (1 : Int32), .int (m.1 62 ((m.1 70 l3.toNatClampNeg).toNatClampNeg)), .int l2] (y_si m 74 l3.toNatClampNeg l2) Q
    refine y_ine (t := 187) rfl rfl rfl (fun h => ?_) (fun h => ?_)
    · replace H := H.1 h; clear h
      refine y_st rfl rfl rfl rfl rfl (fun _ _ => rfl) ?_
      show yP (xg xs) (d + 1) 269 188 [(0, .ref 58), (2, .int l2), (3, .int l3)] [.int (0 : Int32), .int l2] (y_si m 74 l3.toNatClampNeg l2) Q
      refine y_headS (l2 := [(0, .ref 58), (3, .int l3)]) [0, 2] [0, 3] [0, 2, 3] rfl rfl (by decide) rfl (by decide) ?_
      exact H
    · replace H := H.2 h; clear h
      refine y_st rfl rfl rfl rfl rfl (fun _ _ => rfl) ?_
      refine y_gf rfl rfl rfl rfl rfl ?_
      refine y_st rfl rfl rfl rfl rfl (fun _ _ => rfl) ?_
      show yP (xg xs) (d + 1) 269 183 [(0, .ref 58), (2, .int l2), (3, .int l3)] [.int l3, .ref 72, .int l2] (y_si m 74 l3.toNatClampNeg l2) Q
      refine y_iald rfl rfl rfl (H.1) ?_
      replace H := H.2
      refine y_st rfl rfl rfl rfl rfl (fun _ _ => rfl) ?_
      show yP (xg xs) (d + 1) 269 188 [(0, .ref 58), (2, .int l2), (3, .int l3)] [.int (m.1 72 l3.toNatClampNeg), .int l2] (y_si m 74 l3.toNatClampNeg l2) Q
      refine y_headS (l2 := [(0, .ref 58), (3, .int l3)]) [0, 2] [0, 3] [0, 2, 3] rfl rfl (by decide) rfl (by decide) ?_
      exact H
set_option maxRecDepth 20000 in
/-- CodeMakerModel.make from 188 on -/
theorem w269_188 (xs : List Int32) (d : Nat) (l3 : Int32) (s0 : Int32) (s1 : Int32) (m : yM) (Q : Option Value → yM → Prop) (H : (x_in l3 400 = true ∧ (x_in (m.1 70 l3.toNatClampNeg) 20000 = true ∧ ((¬ (m.1 62 ((m.1 70 l3.toNatClampNeg).toNatClampNeg)) = (1 : Int32) → yP (xg xs) (d + 1) 269 216 [(0, .ref 58), (2, .int (s0 + s1)), (3, .int l3)] [] m Q) ∧ ((m.1 62 ((m.1 70 l3.toNatClampNeg).toNatClampNeg)) = (1 : Int32) → (x_in l3 400 = true ∧ (yC (xg xs) d 393 [.ref 58, .int l3, .int (m.1 74 l3.toNatClampNeg)] m (fun v1 m1 => v1 = none ∧ yP (xg xs) (d + 1) 269 216 [(0, .ref 58), (2, .int (s0 + s1)), (3, .int l3)] [] m1 Q)))))))) : yP (xg xs) (d + 1) 269 188 [(0, .ref 58), (3, .int l3)] [.int s1, .int s0] m Q := by
  refine y_st rfl rfl rfl rfl rfl (fun _ _ => rfl) ?_
  refine y_st rfl rfl rfl rfl rfl (fun _ _ => rfl) ?_
  refine y_st rfl rfl rfl rfl rfl (fun _ _ => rfl) ?_
  refine y_gf rfl rfl rfl rfl rfl ?_
  refine y_st rfl rfl rfl rfl rfl (fun _ _ => rfl) ?_
  refine y_gf rfl rfl rfl rfl rfl ?_
  refine y_st rfl rfl rfl rfl rfl (fun _ _ => rfl) ?_
  show yP (xg xs) (d + 1) 269 199 [(2, .int (s0 + s1)), (0, .ref 58), (3, .int l3)] [.int l3, .ref 70, .ref 62] m Q
  refine y_iald rfl rfl rfl (H.1) ?_
  replace H := H.2
  show yP (xg xs) (d + 1) 269 200 [(2, .int (s0 + s1)), (0, .ref 58), (3, .int l3)] [.int (m.1 70 l3.toNatClampNeg), .ref 62] m Q
  refine y_iald rfl rfl rfl (H.1) ?_
  replace H := H.2
  refine y_st rfl rfl rfl rfl rfl (fun _ _ => rfl) ?_
  show yP (xg xs) (d + 1) 269 202 [(2, .int (s0 + s1)), (0, .ref 58), (3, .int l3)] [.int (1 : Int32), .int (m.1 62 ((m.1 70 l3.toNatClampNeg).toNatClampNeg))] m Q
  refine y_ine (t := 216) rfl rfl rfl (fun h => ?_) (fun h => ?_)
  · replace H := H.1 h; clear h
    show yP (xg xs) (d + 1) 269 216 [(2, .int (s0 + s1)), (0, .ref 58), (3, .int l3)] [] m Q
    refine y_headS (l2 := [(0, .ref 58), (2, .int (s0 + s1)), (3, .int l3)]) [1, 0, 2] [0, 2, 3] [2, 0, 3] rfl rfl (by decide) rfl (by decide) ?_
    exact H
  · replace H := H.2 h; clear h
    refine y_st rfl rfl rfl rfl rfl (fun _ _ => rfl) ?_
    refine y_st rfl rfl rfl rfl rfl (fun _ _ => rfl) ?_
    refine y_st rfl rfl rfl rfl rfl (fun _ _ => rfl) ?_
    refine y_gf rfl rfl rfl rfl rfl ?_
    refine y_st rfl rfl rfl rfl rfl (fun _ _ => rfl) ?_
    show yP (xg xs) (d + 1) 269 212 [(2, .int (s0 + s1)), (0, .ref 58), (3, .int l3)] [.int l3, .ref 74, .int l3, .ref 58] m Q
    refine y_iald rfl rfl rfl (H.1) ?_
    replace H := H.2
    show yP (xg xs) (d + 1) 269 213 [(2, .int (s0 + s1)), (0, .ref 58), (3, .int l3)] [.int (m.1 74 l3.toNatClampNeg), .int l3, .ref 58] m Q
    refine y_call rfl rfl rfl rfl rfl (Nat.le_of_ble_eq_true rfl) (Nat.le_of_ble_eq_true rfl) rfl (by decide) H (fun v1 m1 H => ?_)
    obtain ⟨rfl, H⟩ := H
    show yP (xg xs) (d + 1) 269 216 [(2, .int (s0 + s1)), (0, .ref 58), (3, .int l3)] [] m1 Q
    refine y_headS (l2 := [(0, .ref 58), (2, .int (s0 + s1)), (3, .int l3)]) [1, 0, 2] [0, 2, 3] [2, 0, 3] rfl rfl (by decide) rfl (by decide) ?_
    exact H
set_option maxRecDepth 20000 in
/-- CodeMakerModel.make from 216 on -/
theorem w269_216 (xs : List Int32) (d : Nat) (l2 : Int32) (l3 : Int32) (m : yM) (Q : Option Value → yM → Prop) (H : yP (xg xs) (d + 1) 269 145 [(0, .ref 58), (2, .int l2), (3, .int (l3 + (1 : Int32)))] [] m Q) : yP (xg xs) (d + 1) 269 216 [(0, .ref 58), (2, .int l2), (3, .int l3)] [] m Q := by
  refine y_st rfl rfl rfl rfl rfl (fun _ _ => rfl) ?_
  refine y_st rfl rfl rfl rfl rfl (fun _ _ => rfl) ?_
  show yP (xg xs) (d + 1) 269 145 [(3, .int (l3 + (1 : Int32))), (0, .ref 58), (2, .int l2)] [] m Q
  refine y_headS (l2 := [(0, .ref 58), (2, .int l2), (3, .int (l3 + (1 : Int32)))]) [1, 2, 0] [0, 2, 3] [3, 0, 2] rfl rfl (by decide) rfl (by decide) ?_
  exact H
set_option maxRecDepth 20000 in
/-- CodeMakerModel.readText from 0 on -/
theorem w270_0 (xs : List Int32) (d : Nat) (m : yM) (Q : Option Value → yM → Prop) (H : (yC (xg xs) d 271 [.ref 58, .int (0 : Int32), .int (0 : Int32), .int (0 : Int32)] m (fun v1 m1 => ∃ u1, v1 = some (Value.int u1) ∧ (yC (xg xs) d 272 [.ref 58] m1 (fun v2 m2 => v2 = none ∧ yP (xg xs) (d + 1) 270 12 [(0, .ref 58), (1, .int u1)] [] m2 Q))))) : yP (xg xs) (d + 1) 270 0 [(0, .ref 58)] [] m Q := by
  refine y_st rfl rfl rfl rfl rfl (fun _ _ => rfl) ?_
  refine y_st rfl rfl rfl rfl rfl (fun _ _ => rfl) ?_
  refine y_st rfl rfl rfl rfl rfl (fun _ _ => rfl) ?_
  refine y_st rfl rfl rfl rfl rfl (fun _ _ => rfl) ?_
  show yP (xg xs) (d + 1) 270 4 [(0, .ref 58)] [.int (0 : Int32), .int (0 : Int32), .int (0 : Int32), .ref 58] m Q
  refine y_call rfl rfl rfl rfl rfl (Nat.le_of_ble_eq_true rfl) (Nat.le_of_ble_eq_true rfl) rfl (by decide) H (fun v1 m1 H => ?_)
  obtain ⟨u1, rfl, H⟩ := H
  refine y_st rfl rfl rfl rfl rfl (fun _ _ => rfl) ?_
  refine y_st rfl rfl rfl rfl rfl (fun _ _ => rfl) ?_
  show yP (xg xs) (d + 1) 270 9 [(1, .int u1), (0, .ref 58)] [.ref 58] m1 Q
  refine y_call rfl rfl rfl rfl rfl (Nat.le_of_ble_eq_true rfl) (Nat.le_of_ble_eq_true rfl) rfl (by decide) H (fun v2 m2 H => ?_)
  obtain ⟨rfl, H⟩ := H
  show yP (xg xs) (d + 1) 270 12 [(1, .int u1), (0, .ref 58)] [] m2 Q
  refine y_headS (l2 := [(0, .ref 58), (1, .int u1)]) [1, 0] [0, 1] [1, 0] rfl rfl (by decide) rfl (by decide) ?_
  exact H
set_option maxRecDepth 20000 in
/-- CodeMakerModel.readText from 12 on -/
theorem w270_12 (xs : List Int32) (d : Nat) (l1 : Int32) (m : yM) (Q : Option Value → yM → Prop) (H : ((¬ (m.1 58 3) = 0 → Q (some (.int l1)) m) ∧ ((m.1 58 3) = 0 → (((m.1 58 6) = 0 → Q (some (.int l1)) m) ∧ (¬ (m.1 58 6) = 0 → (yC (xg xs) d 290 [.ref 58, .int (0 : Int32)] m (fun v1 m1 => ∃ u1, v1 = some (Value.int u1) ∧ ((¬ u1 = 0 → yP (xg xs) (d + 1) 270 51 [(0, .ref 58), (1, .int l1)] [.ref 58] m1 Q) ∧ (u1 = 0 → (yC (xg xs) d 290 [.ref 58, .int (2 : Int32)] m1 (fun v2 m2 => ∃ u2, v2 = some (Value.int u2) ∧ ((¬ u2 = 0 → yP (xg xs) (d + 1) 270 51 [(0, .ref 58), (1, .int l1)] [.ref 58] m2 Q) ∧ (u2 = 0 → (yC (xg xs) d 290 [.ref 58, .int (4 : Int32)] m2 (fun v3 m3 => ∃ u3, v3 = some (Value.int u3) ∧ ((u3 = 0 → yP (xg xs) (d + 1) 270 56 [(0, .ref 58), (1, .int l1)] [.int (0 : Int32), .ref 58] m3 Q) ∧ (¬ u3 = 0 → yP (xg xs) (d + 1) 270 51 [(0, .ref 58), (1, .int l1)] [.ref 58] m3 Q))))))))))))))))) : yP (xg xs) (d + 1) 270 12 [(0, .ref 58), (1, .int l1)] [] m Q := by
  refine y_st rfl rfl rfl rfl rfl (fun _ _ => rfl) ?_
  refine y_gf rfl rfl rfl rfl rfl ?_
  show yP (xg xs) (d + 1) 270 16 [(0, .ref 58), (1, .int l1)] [.int (m.1 58 3)] m Q
  refine y_zne (t := 78) rfl rfl rfl (fun h => ?_) (fun h => ?_)
  · replace H := H.1 h; clear h
    refine y_st rfl rfl rfl rfl rfl (fun _ _ => rfl) ?_
    show yP (xg xs) (d + 1) 270 79 [(0, .ref 58), (1, .int l1)] [.int l1] m Q
    exact y_iret rfl rfl rfl H
  · replace H := H.2 h; clear h
    refine y_st rfl rfl rfl rfl rfl (fun _ _ => rfl) ?_
    refine y_gf rfl rfl rfl rfl rfl ?_
    show yP (xg xs) (d + 1) 270 23 [(0, .ref 58), (1, .int l1)] [.int (m.1 58 6)] m Q
    refine y_zeq (t := 78) rfl rfl rfl (fun h => ?_) (fun h => ?_)
    · replace H := H.1 h; clear h
      refine y_st rfl rfl rfl rfl rfl (fun _ _ => rfl) ?_
      show yP (xg xs) (d + 1) 270 79 [(0, .ref 58), (1, .int l1)] [.int l1] m Q
      exact y_iret rfl rfl rfl H
    · replace H := H.2 h; clear h
      refine y_st rfl rfl rfl rfl rfl (fun _ _ => rfl) ?_
      refine y_st rfl rfl rfl rfl rfl (fun _ _ => rfl) ?_
      refine y_st rfl rfl rfl rfl rfl (fun _ _ => rfl) ?_
      show yP (xg xs) (d + 1) 270 29 [(0, .ref 58), (1, .int l1)] [.int (0 : Int32), .ref 58, .ref 58] m Q
      refine y_call rfl rfl rfl rfl rfl (Nat.le_of_ble_eq_true rfl) (Nat.le_of_ble_eq_true rfl) rfl (by decide) H (fun v1 m1 H => ?_)
      obtain ⟨u1, rfl, H⟩ := H
      show yP (xg xs) (d + 1) 270 32 [(0, .ref 58), (1, .int l1)] [.int u1, .ref 58] m1 Q
      refine y_zne (t := 51) rfl rfl rfl (fun h => ?_) (fun h => ?_)
      · replace H := H.1 h; clear h
        show yP (xg xs) (d + 1) 270 51 [(0, .ref 58), (1, .int l1)] [.ref 58] m1 Q
        exact H
      · replace H := H.2 h; clear h
        refine y_st rfl rfl rfl rfl rfl (fun _ _ => rfl) ?_
        refine y_st rfl rfl rfl rfl rfl (fun _ _ => rfl) ?_
        show yP (xg xs) (d + 1) 270 37 [(0, .ref 58), (1, .int l1)] [.int (2 : Int32), .ref 58, .ref 58] m1 Q
        refine y_call rfl rfl rfl rfl rfl (Nat.le_of_ble_eq_true rfl) (Nat.le_of_ble_eq_true rfl) rfl (by decide) H (fun v2 m2 H => ?_)
        obtain ⟨u2, rfl, H⟩ := H
        show yP (xg xs) (d + 1) 270 40 [(0, .ref 58), (1, .int l1)] [.int u2, .ref 58] m2 Q
        refine y_zne (t := 51) rfl rfl rfl (fun h => ?_) (fun h => ?_)
        · replace H := H.1 h; clear h
          show yP (xg xs) (d + 1) 270 51 [(0, .ref 58), (1, .int l1)] [.ref 58] m2 Q
          exact H
        · replace H := H.2 h; clear h
          refine y_st rfl rfl rfl rfl rfl (fun _ _ => rfl) ?_
          refine y_st rfl rfl rfl rfl rfl (fun _ _ => rfl) ?_
          show yP (xg xs) (d + 1) 270 45 [(0, .ref 58), (1, .int l1)] [.int (4 : Int32), .ref 58, .ref 58] m2 Q
          refine y_call rfl rfl rfl rfl rfl (Nat.le_of_ble_eq_true rfl) (Nat.le_of_ble_eq_true rfl) rfl (by decide) H (fun v3 m3 H => ?_)
          obtain ⟨u3, rfl, H⟩ := H
          show yP (xg xs) (d + 1) 270 48 [(0, .ref 58), (1, .int l1)] [.int u3, .ref 58] m3 Q
          refine y_zeq (t := 55) rfl rfl rfl (fun h => ?_) (fun h => ?_)
          · replace H := H.1 h; clear h
            refine y_st rfl rfl rfl rfl rfl (fun _ _ => rfl) ?_
            show yP (xg xs) (d + 1) 270 56 [(0, .ref 58), (1, .int l1)] [.int (0 : Int32), .ref 58] m3 Q
            exact H
          · replace H := H.2 h; clear h
            show yP (xg xs) (d + 1) 270 51 [(0, .ref 58), (1, .int l1)] [.ref 58] m3 Q
            exact H
set_option maxRecDepth 20000 in
/-- CodeMakerModel.readText from 51 on -/
theorem w270_51 (xs : List Int32) (d : Nat) (l1 : Int32) (m : yM) (Q : Option Value → yM → Prop) (H : yP (xg xs) (d + 1) 270 56 [(0, .ref 58), (1, .int l1)] [.int (1 : Int32), .ref 58] m Q) : yP (xg xs) (d + 1) 270 51 [(0, .ref 58), (1, .int l1)] [.ref 58] m Q := by
  refine y_st rfl rfl rfl rfl rfl (fun _ _ => rfl) ?_
  refine y_st rfl rfl rfl rfl rfl (fun _ _ => rfl) ?_
  show yP (xg xs) (d + 1) 270 56 [(0, .ref 58), (1, .int l1)] [.int (1 : Int32), .ref 58] m Q
  exact H
set_option maxRecDepth 20000 in
/-- CodeMakerModel.readText from 56 on -/
theorem w270_56 (xs : List Int32) (d : Nat) (l1 : Int32) (s1 : Int32) (m : yM) (Q : Option Value → yM → Prop) (H : (yC (xg xs) d 291 [.ref 58, .int s1] m (fun v1 m1 => v1 = none ∧ ((¬ (m1.1 58 3) = 0 → yP (xg xs) (d + 1) 270 12 [(0, .ref 58), (1, .int l1)] [] m1 Q) ∧ ((m1.1 58 3) = 0 → (yC (xg xs) d 292 [.ref 58] m1 (fun v2 m2 => ∃ u2, v2 = some (Value.int u2) ∧ (yC (xg xs) d 297 [.ref 58, .int l1, .int u2] m2 (fun v3 m3 => v3 = none ∧ yP (xg xs) (d + 1) 270 12 [(0, .ref 58), (1, .int l1)] [] m3 Q))))))))) : yP (xg xs) (d + 1) 270 56 [(0, .ref 58), (1, .int l1)] [.int s1, .ref 58] m Q := by
  show yP (xg xs) (d + 1) 270 56 [(0, .ref 58), (1, .int l1)] [.int s1, .ref 58] m Q
  refine y_call rfl rfl rfl rfl rfl (Nat.le_of_ble_eq_true rfl) (Nat.le_of_ble_eq_true rfl) rfl (by decide) H (fun v1 m1 H => ?_)
  obtain ⟨rfl, H⟩ := H
  refine y_st rfl rfl rfl rfl rfl (fun _ _ => rfl) ?_
  refine y_gf rfl rfl rfl rfl rfl ?_
  show yP (xg xs) (d + 1) 270 63 [(0, .ref 58), (1, .int l1)] [.int (m1.1 58 3)] m1 Q
  refine y_zne (t := 12) rfl rfl rfl (fun h => ?_) (fun h => ?_)
  · replace H := H.1 h; clear h
    show yP (xg xs) (d + 1) 270 12 [(0, .ref 58), (1, .int l1)] [] m1 Q
    exact H
  · replace H := H.2 h; clear h
    refine y_st rfl rfl rfl rfl rfl (fun _ _ => rfl) ?_
    refine y_st rfl rfl rfl rfl rfl (fun _ _ => rfl) ?_
    refine y_st rfl rfl rfl rfl rfl (fun _ _ => rfl) ?_
    show yP (xg xs) (d + 1) 270 69 [(0, .ref 58), (1, .int l1)] [.ref 58, .int l1, .ref 58] m1 Q
    refine y_call rfl rfl rfl rfl rfl (Nat.le_of_ble_eq_true rfl) (Nat.le_of_ble_eq_true rfl) rfl (by decide) H (fun v2 m2 H => ?_)
    obtain ⟨u2, rfl, H⟩ := H
    show yP (xg xs) (d + 1) 270 72 [(0, .ref 58), (1, .int l1)] [.int u2, .int l1, .ref 58] m2 Q
    refine y_call rfl rfl rfl rfl rfl (Nat.le_of_ble_eq_true rfl) (Nat.le_of_ble_eq_true rfl) rfl (by decide) H (fun v3 m3 H => ?_)
    obtain ⟨rfl, H⟩ := H
    refine y_st rfl rfl rfl rfl rfl (fun _ _ => rfl) ?_
    show yP (xg xs) (d + 1) 270 12 [(0, .ref 58), (1, .int l1)] [] m3 Q
    exact H
set_option maxRecDepth 20000 in
/-- CodeMakerModel.node from 0 on -/
theorem w271_0 (xs : List Int32) (d : Nat) (l1 : Int32) (l2 : Int32) (l3 : Int32) (m : yM) (Q : Option Value → yM → Prop) (H : (x_in (m.1 58 21) 20000 = true ∧ (x_in (m.1 58 21) 20000 = true ∧ (x_in (m.1 58 21) 20000 = true ∧ (x_in (m.1 58 21) 20000 = true ∧ (x_in (m.1 58 21) 20000 = true ∧ (x_in (m.1 58 21) 20000 = true ∧ (x_in (m.1 58 21) 20000 = true ∧ (x_in (m.1 58 21) 20000 = true ∧ (((19999 : Int32) ≤ (m.1 58 21) → Q (some (.int (m.1 58 21))) (y_si (y_si (y_si (y_si (y_si (y_si (y_si (y_si (y_si m 62 ((m.1 58 21).toNatClampNeg) l1) 63 ((m.1 58 21).toNatClampNeg) l2) 64 ((m.1 58 21).toNatClampNeg) l3) 65 ((m.1 58 21).toNatClampNeg) ((-1) : Int32)) 66 ((m.1 58 21).toNatClampNeg) ((-1) : Int32)) 67 ((m.1 58 21).toNatClampNeg) ((-1) : Int32)) 68 ((m.1 58 21).toNatClampNeg) ((-1) : Int32)) 69 ((m.1 58 21).toNatClampNeg) (0 : Int32)) 58 21 (m.1 58 21))) ∧ (¬ (19999 : Int32) ≤ (m.1 58 21) → Q (some (.int (m.1 58 21))) (y_si (y_si (y_si (y_si (y_si (y_si (y_si (y_si (y_si m 62 ((m.1 58 21).toNatClampNeg) l1) 63 ((m.1 58 21).toNatClampNeg) l2) 64 ((m.1 58 21).toNatClampNeg) l3) 65 ((m.1 58 21).toNatClampNeg) ((-1) : Int32)) 66 ((m.1 58 21).toNatClampNeg) ((-1) : Int32)) 67 ((m.1 58 21).toNatClampNeg) ((-1) : Int32)) 68 ((m.1 58 21).toNatClampNeg) ((-1) : Int32)) 69 ((m.1 58 21).toNatClampNeg) (0 : Int32)) 58 21 ((m.1 58 21) + (1 : Int32)))))))))))))) : yP (xg xs) (d + 1) 271 0 [(0, .ref 58), (1, .int l1), (2, .int l2), (3, .int l3)] [] m Q := by
  refine y_st rfl rfl rfl rfl rfl (fun _ _ => rfl) ?_
  refine y_gf rfl rfl rfl rfl rfl ?_
  refine y_st rfl rfl rfl rfl rfl (fun _ _ => rfl) ?_
  refine y_st rfl rfl rfl rfl rfl (fun _ _ => rfl) ?_
  refine y_gf rfl rfl rfl rfl rfl ?_
  refine y_st rfl rfl rfl rfl rfl (fun _ _ => rfl) ?_
  refine y_st rfl rfl rfl rfl rfl (fun _ _ => rfl) ?_
  show yP (xg xs) (d + 1) 271 13 [(4, .int (m.1 58 21)), (0, .ref 58), (1, .int l1), (2, .int l2), (3, .int l3)] [.int l1, .int (m.1 58 21), .ref 62] m Q
  refine y_iast rfl rfl rfl (H.1) ?_
  replace H := H.2
  refine y_st rfl rfl rfl rfl rfl (fun _ _ => rfl) ?_
  refine y_gf rfl rfl rfl rfl rfl ?_
  refine y_st rfl rfl rfl rfl rfl (fun _ _ => rfl) ?_
  refine y_st rfl rfl rfl rfl rfl (fun _ _ => rfl) ?_
  show yP (xg xs) (d + 1) 271 21 [(4, .int (m.1 58 21)), (0, .ref 58), (1, .int l1), (2, .int l2), (3, .int l3)] [.int l2, .int (m.1 58 21), .ref 63] (y_si m 62 ((m.1 58 21).toNatClampNeg) l1) Q
  refine y_iast rfl rfl rfl (H.1) ?_
  replace H := H.2
  refine y_st rfl rfl rfl rfl rfl (fun _ _ => rfl) ?_
  refine y_gf rfl rfl rfl rfl rfl ?_
  refine y_st rfl rfl rfl rfl rfl (fun _ _ => rfl) ?_
  refine y_st rfl rfl rfl rfl rfl (fun _ _ => rfl) ?_
  show yP (xg xs) (d + 1) 271 29 [(4, .int (m.1 58 21)), (0, .ref 58), (1, .int l1), (2, .int l2), (3, .int l3)] [.int l3, .int (m.1 58 21), .ref 64] (y_si (y_si m 62 ((m.1 58 21).toNatClampNeg) l1) 63 ((m.1 58 21).toNatClampNeg) l2) Q
  refine y_iast rfl rfl rfl (H.1) ?_
  replace H := H.2
  refine y_st rfl rfl rfl rfl rfl (fun _ _ => rfl) ?_
  refine y_gf rfl rfl rfl rfl rfl ?_
  refine y_st rfl rfl rfl rfl rfl (fun _ _ => rfl) ?_
  refine y_st rfl rfl rfl rfl rfl (fun _ _ => rfl) ?_
  show yP (xg xs) (d + 1) 271 37 [(4, .int (m.1 58 21)), (0, .ref 58), (1, .int l1), (2, .int l2), (3, .int l3)] [.int ((-1) : Int32), .int (m.1 58 21), .ref 65] (y_si (y_si (y_si m 62 ((m.1 58 21).toNatClampNeg) l1) 63 ((m.1 58 21).toNatClampNeg) l2) 64 ((m.1 58 21).toNatClampNeg) l3) Q
  refine y_iast rfl rfl rfl (H.1) ?_
  replace H := H.2
  refine y_st rfl rfl rfl rfl rfl (fun _ _ => rfl) ?_
  refine y_gf rfl rfl rfl rfl rfl ?_
  refine y_st rfl rfl rfl rfl rfl (fun _ _ => rfl) ?_
  refine y_st rfl rfl rfl rfl rfl (fun _ _ => rfl) ?_
  show yP (xg xs) (d + 1) 271 45 [(4, .int (m.1 58 21)), (0, .ref 58), (1, .int l1), (2, .int l2), (3, .int l3)] [.int ((-1) : Int32), .int (m.1 58 21), .ref 66] (y_si (y_si (y_si (y_si m 62 ((m.1 58 21).toNatClampNeg) l1) 63 ((m.1 58 21).toNatClampNeg) l2) 64 ((m.1 58 21).toNatClampNeg) l3) 65 ((m.1 58 21).toNatClampNeg) ((-1) : Int32)) Q
  refine y_iast rfl rfl rfl (H.1) ?_
  replace H := H.2
  refine y_st rfl rfl rfl rfl rfl (fun _ _ => rfl) ?_
  refine y_gf rfl rfl rfl rfl rfl ?_
  refine y_st rfl rfl rfl rfl rfl (fun _ _ => rfl) ?_
  refine y_st rfl rfl rfl rfl rfl (fun _ _ => rfl) ?_
  show yP (xg xs) (d + 1) 271 53 [(4, .int (m.1 58 21)), (0, .ref 58), (1, .int l1), (2, .int l2), (3, .int l3)] [.int ((-1) : Int32), .int (m.1 58 21), .ref 67] (y_si (y_si (y_si (y_si (y_si m 62 ((m.1 58 21).toNatClampNeg) l1) 63 ((m.1 58 21).toNatClampNeg) l2) 64 ((m.1 58 21).toNatClampNeg) l3) 65 ((m.1 58 21).toNatClampNeg) ((-1) : Int32)) 66 ((m.1 58 21).toNatClampNeg) ((-1) : Int32)) Q
  refine y_iast rfl rfl rfl (H.1) ?_
  replace H := H.2
  refine y_st rfl rfl rfl rfl rfl (fun _ _ => rfl) ?_
  refine y_gf rfl rfl rfl rfl rfl ?_
  refine y_st rfl rfl rfl rfl rfl (fun _ _ => rfl) ?_
  refine y_st rfl rfl rfl rfl rfl (fun _ _ => rfl) ?_
  show yP (xg xs) (d + 1) 271 61 [(4, .int (m.1 58 21)), (0, .ref 58), (1, .int l1), (2, .int l2), (3, .int l3)] [.int ((-1) : Int32), .int (m.1 58 21), .ref 68] (y_si (y_si (y_si (y_si (y_si (y_si m 62 ((m.1 58 21).toNatClampNeg) l1) 63 ((m.1 58 21).toNatClampNeg) l2) 64 ((m.1 58 21).toNatClampNeg) l3) 65 ((m.1 58 21).toNatClampNeg) ((-1) : Int32)) 66 ((m.1 58 21).toNatClampNeg) ((-1) : Int32)) 67 ((m.1 58 21).toNatClampNeg) ((-1) : Int32)) Q
  refine y_iast rfl rfl rfl (H.1) ?_
  replace H := H.2
  refine y_st rfl rfl rfl rfl rfl (fun _ _ => rfl) ?_
  refine y_gf rfl rfl rfl rfl rfl ?_
  refine y_st rfl rfl rfl rfl rfl (fun _ _ => rfl) ?_
  refine y_st rfl rfl rfl rfl rfl (fun _ _ => rfl) ?_
  show yP (xg xs) (d + 1) 271 69 [(4, .int (m.1 58 21)), (0, .ref 58), (1, .int l1), (2, .int l2), (3, .int l3)] [.int (0 : Int32), .int (m.1 58 21), .ref 69] (y_si (y_si (y_si (y_si (y_si (y_si (y_si m 62 ((m.1 58 21).toNatClampNeg) l1) 63 ((m.1 58 21).toNatClampNeg) l2) 64 ((m.1 58 21).toNatClampNeg) l3) 65 ((m.1 58 21).toNatClampNeg) ((-1) : Int32)) 66 ((m.1 58 21).toNatClampNeg) ((-1) : Int32)) 67 ((m.1 58 21).toNatClampNeg) ((-1) : Int32)) 68 ((m.1 58 21).toNatClampNeg) ((-1) : Int32)) Q
  refine y_iast rfl rfl rfl (H.1) ?_
  replace H := H.2
  refine y_st rfl rfl rfl rfl rfl (fun _ _ => rfl) ?_
  refine y_st rfl rfl rfl rfl rfl (fun _ _ => rfl) ?_
  refine y_gf rfl rfl rfl rfl rfl ?_
  refine y_st rfl rfl rfl rfl rfl (fun _ _ => rfl) ?_
  show yP (xg xs) (d + 1) 271 78 [(4, .int (m.1 58 21)), (0, .ref 58), (1, .int l1), (2, .int l2), (3, .int l3)] [.int (19999 : Int32), .int (m.1 58 21), .ref 58] (y_si (y_si (y_si (y_si (y_si (y_si (y_si (y_si m 62 ((m.1 58 21).toNatClampNeg) l1) 63 ((m.1 58 21).toNatClampNeg) l2) 64 ((m.1 58 21).toNatClampNeg) l3) 65 ((m.1 58 21).toNatClampNeg) ((-1) : Int32)) 66 ((m.1 58 21).toNatClampNeg) ((-1) : Int32)) 67 ((m.1 58 21).toNatClampNeg) ((-1) : Int32)) 68 ((m.1 58 21).toNatClampNeg) ((-1) : Int32)) 69 ((m.1 58 21).toNatClampNeg) (0 : Int32)) Q
  refine y_ige (t := 90) rfl rfl rfl (fun h => ?_) (fun h => ?_)
  · replace H := H.1 h; clear h
    refine y_st rfl rfl rfl rfl rfl (fun _ _ => rfl) ?_
    refine y_gf rfl rfl rfl rfl rfl ?_
    refine y_pfi rfl rfl rfl rfl rfl (x_fit_i _) ?_
    show yP (xg xs) (d + 1) 271 97 [(4, .int (m.1 58 21)), (0, .ref 58), (1, .int l1), (2, .int l2), (3, .int l3)] [] (y_si (y_si (y_si (y_si (y_si (y_si (y_si (y_si (y_si m 62 ((m.1 58 21).toNatClampNeg) l1) 63 ((m.1 58 21).toNatClampNeg) l2) 64 ((m.1 58 21).toNatClampNeg) l3) 65 ((m.1 58 21).toNatClampNeg) ((-1) : Int32)) 66 ((m.1 58 21).toNatClampNeg) ((-1) : Int32)) 67 ((m.1 58 21).toNatClampNeg) ((-1) : Int32)) 68 ((m.1 58 21).toNatClampNeg) ((-1) : Int32)) 69 ((m.1 58 21).toNatClampNeg) (0 : Int32)) 58 21 (m.1 58 21)) Q
    refine y_st rfl rfl rfl rfl rfl (fun _ _ => rfl) ?_
    show yP (xg xs) (d + 1) 271 99 [(4, .int (m.1 58 21)), (0, .ref 58), (1, .int l1), (2, .int l2), (3, .int l3)] [.int (m.1 58 21)] (y_si (y_si (y_si (y_si (y_si (y_si (y_si (y_si (y_si m 62 ((m.1 58 21).toNatClampNeg) l1) 63 ((m.1 58 21).toNatClampNeg) l2) 64 ((m.1 58 21).toNatClampNeg) l3) 65 ((m.1 58 21).toNatClampNeg) ((-1) : Int32)) 66 ((m.1 58 21).toNatClampNeg) ((-1) : Int32)) 67 ((m.1 58 21).toNatClampNeg) ((-1) : Int32)) 68 ((m.1 58 21).toNatClampNeg) ((-1) : Int32)) 69 ((m.1 58 21).toNatClampNeg) (0 : Int32)) 58 21 (m.1 58 21)) Q
    exact y_iret rfl rfl rfl H
  · replace H := H.2 h; clear h
    refine y_st rfl rfl rfl rfl rfl (fun _ _ => rfl) ?_
    refine y_gf rfl rfl rfl rfl rfl ?_
    refine y_st rfl rfl rfl rfl rfl (fun _ _ => rfl) ?_
    refine y_st rfl rfl rfl rfl rfl (fun _ _ => rfl) ?_
    refine y_st rfl rfl rfl rfl rfl (fun _ _ => rfl) ?_
    refine y_pfi rfl rfl rfl rfl rfl (x_fit_i _) ?_
    show yP (xg xs) (d + 1) 271 97 [(4, .int (m.1 58 21)), (0, .ref 58), (1, .int l1), (2, .int l2), (3, .int l3)] [] (y_si (y_si (y_si (y_si (y_si (y_si (y_si (y_si (y_si m 62 ((m.1 58 21).toNatClampNeg) l1) 63 ((m.1 58 21).toNatClampNeg) l2) 64 ((m.1 58 21).toNatClampNeg) l3) 65 ((m.1 58 21).toNatClampNeg) ((-1) : Int32)) 66 ((m.1 58 21).toNatClampNeg) ((-1) : Int32)) 67 ((m.1 58 21).toNatClampNeg) ((-1) : Int32)) 68 ((m.1 58 21).toNatClampNeg) ((-1) : Int32)) 69 ((m.1 58 21).toNatClampNeg) (0 : Int32)) 58 21 ((m.1 58 21) + (1 : Int32))) Q
    refine y_st rfl rfl rfl rfl rfl (fun _ _ => rfl) ?_
    show yP (xg xs) (d + 1) 271 99 [(4, .int (m.1 58 21)), (0, .ref 58), (1, .int l1), (2, .int l2), (3, .int l3)] [.int (m.1 58 21)] (y_si (y_si (y_si (y_si (y_si (y_si (y_si (y_si (y_si m 62 ((m.1 58 21).toNatClampNeg) l1) 63 ((m.1 58 21).toNatClampNeg) l2) 64 ((m.1 58 21).toNatClampNeg) l3) 65 ((m.1 58 21).toNatClampNeg) ((-1) : Int32)) 66 ((m.1 58 21).toNatClampNeg) ((-1) : Int32)) 67 ((m.1 58 21).toNatClampNeg) ((-1) : Int32)) 68 ((m.1 58 21).toNatClampNeg) ((-1) : Int32)) 69 ((m.1 58 21).toNatClampNeg) (0 : Int32)) 58 21 ((m.1 58 21) + (1 : Int32))) Q
    exact y_iret rfl rfl rfl H
set_option maxRecDepth 20000 in
/-- CodeMakerModel.next from 0 on -/
theorem w272_0 (xs : List Int32) (d : Nat) (m : yM) (Q : Option Value → yM → Prop) (H : (((m.1 58 3) ≤ 0 → (yC (xg xs) d 273 [.ref 58] (y_si m 58 9 (m.1 58 8)) (fun v1 m1 => ∃ u1, v1 = some (Value.int u1) ∧ ((¬ u1 = 0 → (yC (xg xs) d 274 [.ref 58, .int (m1.1 58 5)] (y_si m1 58 8 (m1.1 58 5)) (fun v2 m2 => ∃ u2, v2 = some (Value.int u2) ∧ (((m2.1 58 5) < (m2.1 58 2) → (yC (xg xs) d 278 [.int u2] m2 (fun v3 m3 => ∃ u3, v3 = some (Value.int u3) ∧ ((¬ u3 = 0 → yP (xg xs) (d + 1) 272 111 [(0, .ref 58)] [] m3 Q) ∧ (u3 = 0 → (yC (xg xs) d 279 [.int u2] m3 (fun v4 m4 => ∃ u4, v4 = some (Value.int u4) ∧ ((¬ u4 = (84 : Int32) → yP (xg xs) (d + 1) 272 118 [(0, .ref 58), (1, .int u2)] [] m4 Q) ∧ (u4 = (84 : Int32) → (yC (xg xs) d 274 [.ref 58, .int ((m4.1 58 5) + (1 : Int32))] m4 (fun v5 m5 => ∃ u5, v5 = some (Value.int u5) ∧ ((¬ u5 = (35 : Int32) → yP (xg xs) (d + 1) 272 118 [(0, .ref 58), (1, .int u2)] [] m5 Q) ∧ (u5 = (35 : Int32) → yP (xg xs) (d + 1) 272 111 [(0, .ref 58)] [] m5 Q))))))))))))) ∧ (¬ (m2.1 58 5) < (m2.1 58 2) → (yC (xg xs) d 277 [.ref 58, .int (0 : Int32), .int (0 : Int32), .int (m2.1 58 2)] m2 (fun v6 m6 => v6 = none ∧ Q none m6))))))) ∧ (u1 = 0 → (yC (xg xs) d 275 [.ref 58, .int (2 : Int32), .int (m1.1 58 5)] m1 (fun v7 m7 => v7 = none ∧ Q none m7))))))) ∧ (¬ (m.1 58 3) ≤ 0 → Q none (y_si m 58 6 (6 : Int32))))) : yP (xg xs) (d + 1) 272 0 [(0, .ref 58)] [] m Q := by
  refine y_st rfl rfl rfl rfl rfl (fun _ _ => rfl) ?_
  refine y_gf rfl rfl rfl rfl rfl ?_
  show yP (xg xs) (d + 1) 272 4 [(0, .ref 58)] [.int (m.1 58 3)] m Q
  refine y_zle (t := 14) rfl rfl rfl (fun h => ?_) (fun h => ?_)
  · replace H := H.1 h; clear h
    refine y_st rfl rfl rfl rfl rfl (fun _ _ => rfl) ?_
    refine y_st rfl rfl rfl rfl rfl (fun _ _ => rfl) ?_
    refine y_gf rfl rfl rfl rfl rfl ?_
    refine y_pfi rfl rfl rfl rfl rfl (x_fit_i _) ?_
    show yP (xg xs) (d + 1) 272 22 [(0, .ref 58)] [] (y_si m 58 9 (m.1 58 8)) Q
    refine y_st rfl rfl rfl rfl rfl (fun _ _ => rfl) ?_
    show yP (xg xs) (d + 1) 272 23 [(0, .ref 58)] [.ref 58] (y_si m 58 9 (m.1 58 8)) Q
    refine y_call rfl rfl rfl rfl rfl (Nat.le_of_ble_eq_true rfl) (Nat.le_of_ble_eq_true rfl) rfl (by decide) H (fun v1 m1 H => ?_)
    obtain ⟨u1, rfl, H⟩ := H
    show yP (xg xs) (d + 1) 272 26 [(0, .ref 58)] [.int u1] m1 Q
    refine y_zne (t := 39) rfl rfl rfl (fun h => ?_) (fun h => ?_)
    · replace H := H.1 h; clear h
      refine y_st rfl rfl rfl rfl rfl (fun _ _ => rfl) ?_
      refine y_st rfl rfl rfl rfl rfl (fun _ _ => rfl) ?_
      refine y_gf rfl rfl rfl rfl rfl ?_
      refine y_pfi rfl rfl rfl rfl rfl (x_fit_i _) ?_
      show yP (xg xs) (d + 1) 272 47 [(0, .ref 58)] [] (y_si m1 58 8 (m1.1 58 5)) Q
      refine y_st rfl rfl rfl rfl rfl (fun _ _ => rfl) ?_
      refine y_st rfl rfl rfl rfl rfl (fun _ _ => rfl) ?_
      refine y_gf rfl rfl rfl rfl rfl ?_
      show yP (xg xs) (d + 1) 272 52 [(0, .ref 58)] [.int (m1.1 58 5), .ref 58] (y_si m1 58 8 (m1.1 58 5)) Q
      refine y_call rfl rfl rfl rfl rfl (Nat.le_of_ble_eq_true rfl) (Nat.le_of_ble_eq_true rfl) rfl (by decide) H (fun v2 m2 H => ?_)
      obtain ⟨u2, rfl, H⟩ := H
      refine y_st rfl rfl rfl rfl rfl (fun _ _ => rfl) ?_
      refine y_st rfl rfl rfl rfl rfl (fun _ _ => rfl) ?_
      refine y_gf rfl rfl rfl rfl rfl ?_
      refine y_st rfl rfl rfl rfl rfl (fun _ _ => rfl) ?_
      refine y_gf rfl rfl rfl rfl rfl ?_
      show yP (xg xs) (d + 1) 272 64 [(1, .int u2), (0, .ref 58)] [.int (m2.1 58 2), .int (m2.1 58 5)] m2 Q
      refine y_ilt (t := 80) rfl rfl rfl (fun h => ?_) (fun h => ?_)
      · replace H := H.1 h; clear h
        refine y_st rfl rfl rfl rfl rfl (fun _ _ => rfl) ?_
        show yP (xg xs) (d + 1) 272 81 [(1, .int u2), (0, .ref 58)] [.int u2] m2 Q
        refine y_call rfl rfl rfl rfl rfl (Nat.le_of_ble_eq_true rfl) (Nat.le_of_ble_eq_true rfl) rfl (by decide) H (fun v3 m3 H => ?_)
        obtain ⟨u3, rfl, H⟩ := H
        show yP (xg xs) (d + 1) 272 84 [(1, .int u2), (0, .ref 58)] [.int u3] m3 Q
        refine y_zne (t := 111) rfl rfl rfl (fun h => ?_) (fun h => ?_)
        · replace H := H.1 h; clear h
          show yP (xg xs) (d + 1) 272 111 [(1, .int u2), (0, .ref 58)] [] m3 Q
          refine y_headS (l2 := [(0, .ref 58)]) [1] [0] [1, 0] rfl rfl (by decide) rfl (by decide) ?_
          exact H
        · replace H := H.2 h; clear h
          refine y_st rfl rfl rfl rfl rfl (fun _ _ => rfl) ?_
          show yP (xg xs) (d + 1) 272 88 [(1, .int u2), (0, .ref 58)] [.int u2] m3 Q
          refine y_call rfl rfl rfl rfl rfl (Nat.le_of_ble_eq_true rfl) (Nat.le_of_ble_eq_true rfl) rfl (by decide) H (fun v4 m4 H => ?_)
          obtain ⟨u4, rfl, H⟩ := H
          refine y_st rfl rfl rfl rfl rfl (fun _ _ => rfl) ?_
          show yP (xg xs) (d + 1) 272 93 [(1, .int u2), (0, .ref 58)] [.int (84 : Int32), .int u4] m4 Q
          refine y_ine (t := 118) rfl rfl rfl (fun h => ?_) (fun h => ?_)
          · replace H := H.1 h; clear h
            show yP (xg xs) (d + 1) 272 118 [(1, .int u2), (0, .ref 58)] [] m4 Q
            refine y_headS (l2 := [(0, .ref 58), (1, .int u2)]) [1, 0] [0, 1] [1, 0] rfl rfl (by decide) rfl (by decide) ?_
            exact H
          · replace H := H.2 h; clear h
            refine y_st rfl rfl rfl rfl rfl (fun _ _ => rfl) ?_
            refine y_st rfl rfl rfl rfl rfl (fun _ _ => rfl) ?_
            refine y_gf rfl rfl rfl rfl rfl ?_
            refine y_st rfl rfl rfl rfl rfl (fun _ _ => rfl) ?_
            refine y_st rfl rfl rfl rfl rfl (fun _ _ => rfl) ?_
            show yP (xg xs) (d + 1) 272 103 [(1, .int u2), (0, .ref 58)] [.int ((m4.1 58 5) + (1 : Int32)), .ref 58] m4 Q
            refine y_call rfl rfl rfl rfl rfl (Nat.le_of_ble_eq_true rfl) (Nat.le_of_ble_eq_true rfl) rfl (by decide) H (fun v5 m5 H => ?_)
            obtain ⟨u5, rfl, H⟩ := H
            refine y_st rfl rfl rfl rfl rfl (fun _ _ => rfl) ?_
            show yP (xg xs) (d + 1) 272 108 [(1, .int u2), (0, .ref 58)] [.int (35 : Int32), .int u5] m5 Q
            refine y_ine (t := 118) rfl rfl rfl (fun h => ?_) (fun h => ?_)
            · replace H := H.1 h; clear h
              show yP (xg xs) (d + 1) 272 118 [(1, .int u2), (0, .ref 58)] [] m5 Q
              refine y_headS (l2 := [(0, .ref 58), (1, .int u2)]) [1, 0] [0, 1] [1, 0] rfl rfl (by decide) rfl (by decide) ?_
              exact H
            · replace H := H.2 h; clear h
              show yP (xg xs) (d + 1) 272 111 [(1, .int u2), (0, .ref 58)] [] m5 Q
              refine y_headS (l2 := [(0, .ref 58)]) [1] [0] [1, 0] rfl rfl (by decide) rfl (by decide) ?_
              exact H
      · replace H := H.2 h; clear h
        refine y_st rfl rfl rfl rfl rfl (fun _ _ => rfl) ?_
        refine y_st rfl rfl rfl rfl rfl (fun _ _ => rfl) ?_
        refine y_st rfl rfl rfl rfl rfl (fun _ _ => rfl) ?_
        refine y_st rfl rfl rfl rfl rfl (fun _ _ => rfl) ?_
        refine y_gf rfl rfl rfl rfl rfl ?_
        show yP (xg xs) (d + 1) 272 74 [(1, .int u2), (0, .ref 58)] [.int (m2.1 58 2), .int (0 : Int32), .int (0 : Int32), .ref 58] m2 Q
        refine y_call rfl rfl rfl rfl rfl (Nat.le_of_ble_eq_true rfl) (Nat.le_of_ble_eq_true rfl) rfl (by decide) H (fun v6 m6 H => ?_)
        obtain ⟨rfl, H⟩ := H
        refine y_st rfl rfl rfl rfl rfl (fun _ _ => rfl) ?_
        show yP (xg xs) (d + 1) 272 150 [(1, .int u2), (0, .ref 58)] [] m6 Q
        exact y_ret rfl rfl rfl rfl H
    · replace H := H.2 h; clear h
      refine y_st rfl rfl rfl rfl rfl (fun _ _ => rfl) ?_
      refine y_st rfl rfl rfl rfl rfl (fun _ _ => rfl) ?_
      refine y_st rfl rfl rfl rfl rfl (fun _ _ => rfl) ?_
      refine y_gf rfl rfl rfl rfl rfl ?_
      show yP (xg xs) (d + 1) 272 35 [(0, .ref 58)] [.int (m1.1 58 5), .int (2 : Int32), .ref 58] m1 Q
      refine y_call rfl rfl rfl rfl rfl (Nat.le_of_ble_eq_true rfl) (Nat.le_of_ble_eq_true rfl) rfl (by decide) H (fun v7 m7 H => ?_)
      obtain ⟨rfl, H⟩ := H
      show yP (xg xs) (d + 1) 272 38 [(0, .ref 58)] [] m7 Q
      exact y_ret rfl rfl rfl rfl H
  · replace H := H.2 h; clear h
    refine y_st rfl rfl rfl rfl rfl (fun _ _ => rfl) ?_
    refine y_st rfl rfl rfl rfl rfl (fun _ _ => rfl) ?_
    refine y_pfi rfl rfl rfl rfl rfl (x_fit_i _) ?_
    show yP (xg xs) (d + 1) 272 13 [(0, .ref 58)] [] (y_si m 58 6 (6 : Int32)) Q
    show yP (xg xs) (d + 1) 272 13 [(0, .ref 58)] [] (y_si m 58 6 (6 : Int32)) Q
    exact y_ret rfl rfl rfl rfl H
set_option maxRecDepth 20000 in
/-- CodeMakerModel.next from 111 on -/
theorem w272_111 (xs : List Int32) (d : Nat) (m : yM) (Q : Option Value → yM → Prop) (H : (yC (xg xs) d 280 [.ref 58] m (fun v1 m1 => v1 = none ∧ Q none m1))) : yP (xg xs) (d + 1) 272 111 [(0, .ref 58)] [] m Q := by
  refine y_st rfl rfl rfl rfl rfl (fun _ _ => rfl) ?_
  show yP (xg xs) (d + 1) 272 112 [(0, .ref 58)] [.ref 58] m Q
  refine y_call rfl rfl rfl rfl rfl (Nat.le_of_ble_eq_true rfl) (Nat.le_of_ble_eq_true rfl) rfl (by decide) H (fun v1 m1 H => ?_)
  obtain ⟨rfl, H⟩ := H
  refine y_st rfl rfl rfl rfl rfl (fun _ _ => rfl) ?_
  show yP (xg xs) (d + 1) 272 150 [(0, .ref 58)] [] m1 Q
  exact y_ret rfl rfl rfl rfl H
set_option maxRecDepth 20000 in
/-- CodeMakerModel.next from 118 on -/
theorem w272_118 (xs : List Int32) (d : Nat) (l1 : Int32) (m : yM) (Q : Option Value → yM → Prop) (H : (yC (xg xs) d 284 [.int l1] m (fun v1 m1 => ∃ u1, v1 = some (Value.int u1) ∧ ((u1 = 0 → ((¬ l1 = (37 : Int32) → (yC (xg xs) d 289 [.ref 58, .int l1] m1 (fun v2 m2 => v2 = none ∧ Q none m2))) ∧ (l1 = (37 : Int32) → (yC (xg xs) d 288 [.ref 58] m1 (fun v3 m3 => v3 = none ∧ Q none m3))))) ∧ (¬ u1 = 0 → (yC (xg xs) d 285 [.ref 58] m1 (fun v4 m4 => v4 = none ∧ Q none m4))))))) : yP (xg xs) (d + 1) 272 118 [(0, .ref 58), (1, .int l1)] [] m Q := by
  refine y_st rfl rfl rfl rfl rfl (fun _ _ => rfl) ?_
  show yP (xg xs) (d + 1) 272 119 [(0, .ref 58), (1, .int l1)] [.int l1] m Q
  refine y_call rfl rfl rfl rfl rfl (Nat.le_of_ble_eq_true rfl) (Nat.le_of_ble_eq_true rfl) rfl (by decide) H (fun v1 m1 H => ?_)
  obtain ⟨u1, rfl, H⟩ := H
  show yP (xg xs) (d + 1) 272 122 [(0, .ref 58), (1, .int l1)] [.int u1] m1 Q
  refine y_zeq (t := 132) rfl rfl rfl (fun h => ?_) (fun h => ?_)
  · replace H := H.1 h; clear h
    refine y_st rfl rfl rfl rfl rfl (fun _ _ => rfl) ?_
    refine y_st rfl rfl rfl rfl rfl (fun _ _ => rfl) ?_
    show yP (xg xs) (d + 1) 272 135 [(0, .ref 58), (1, .int l1)] [.int (37 : Int32), .int l1] m1 Q
    refine y_ine (t := 145) rfl rfl rfl (fun h => ?_) (fun h => ?_)
    · replace H := H.1 h; clear h
      refine y_st rfl rfl rfl rfl rfl (fun _ _ => rfl) ?_
      refine y_st rfl rfl rfl rfl rfl (fun _ _ => rfl) ?_
      show yP (xg xs) (d + 1) 272 147 [(0, .ref 58), (1, .int l1)] [.int l1, .ref 58] m1 Q
      refine y_call rfl rfl rfl rfl rfl (Nat.le_of_ble_eq_true rfl) (Nat.le_of_ble_eq_true rfl) rfl (by decide) H (fun v2 m2 H => ?_)
      obtain ⟨rfl, H⟩ := H
      show yP (xg xs) (d + 1) 272 150 [(0, .ref 58), (1, .int l1)] [] m2 Q
      exact y_ret rfl rfl rfl rfl H
    · replace H := H.2 h; clear h
      refine y_st rfl rfl rfl rfl rfl (fun _ _ => rfl) ?_
      show yP (xg xs) (d + 1) 272 139 [(0, .ref 58), (1, .int l1)] [.ref 58] m1 Q
      refine y_call rfl rfl rfl rfl rfl (Nat.le_of_ble_eq_true rfl) (Nat.le_of_ble_eq_true rfl) rfl (by decide) H (fun v3 m3 H => ?_)
      obtain ⟨rfl, H⟩ := H
      refine y_st rfl rfl rfl rfl rfl (fun _ _ => rfl) ?_
      show yP (xg xs) (d + 1) 272 150 [(0, .ref 58), (1, .int l1)] [] m3 Q
      exact y_ret rfl rfl rfl rfl H
  · replace H := H.2 h; clear h
    refine y_st rfl rfl rfl rfl rfl (fun _ _ => rfl) ?_
    show yP (xg xs) (d + 1) 272 126 [(0, .ref 58), (1, .int l1)] [.ref 58] m1 Q
    refine y_call rfl rfl rfl rfl rfl (Nat.le_of_ble_eq_true rfl) (Nat.le_of_ble_eq_true rfl) rfl (by decide) H (fun v4 m4 H => ?_)
    obtain ⟨rfl, H⟩ := H
    refine y_st rfl rfl rfl rfl rfl (fun _ _ => rfl) ?_
    show yP (xg xs) (d + 1) 272 150 [(0, .ref 58), (1, .int l1)] [] m4 Q
    exact y_ret rfl rfl rfl rfl H
set_option maxRecDepth 20000 in
/-- CodeMakerModel.skip from 0 on -/
theorem w273_0 (xs : List Int32) (d : Nat) (m : yM) (Q : Option Value → yM → Prop) (H : yP (xg xs) (d + 1) 273 2 [(0, .ref 58), (1, .int (1 : Int32))] [] m Q) : yP (xg xs) (d + 1) 273 0 [(0, .ref 58)] [] m Q := by
  refine y_st rfl rfl rfl rfl rfl (fun _ _ => rfl) ?_
  refine y_st rfl rfl rfl rfl rfl (fun _ _ => rfl) ?_
  show yP (xg xs) (d + 1) 273 2 [(1, .int (1 : Int32)), (0, .ref 58)] [] m Q
  refine y_headS (l2 := [(0, .ref 58), (1, .int (1 : Int32))]) [1, 0] [0, 1] [1, 0] rfl rfl (by decide) rfl (by decide) ?_
  exact H
set_option maxRecDepth 20000 in
/-- CodeMakerModel.skip from 2 on -/
theorem w273_2 (xs : List Int32) (d : Nat) (l1 : Int32) (m : yM) (Q : Option Value → yM → Prop) (H : ((l1 = 0 → Q (some (.int (1 : Int32))) m) ∧ (¬ l1 = 0 → (yC (xg xs) d 274 [.ref 58, .int (m.1 58 5)] m (fun v1 m1 => ∃ u1, v1 = some (Value.int u1) ∧ (((m1.1 58 2) ≤ (m1.1 58 5) → yP (xg xs) (d + 1) 273 54 [(0, .ref 58), (2, .int u1)] [] m1 Q) ∧ (¬ (m1.1 58 2) ≤ (m1.1 58 5) → ((u1 = (9 : Int32) → yP (xg xs) (d + 1) 273 50 [(0, .ref 58), (2, .int u1)] [] m1 Q) ∧ (¬ u1 = (9 : Int32) → ((u1 = (10 : Int32) → yP (xg xs) (d + 1) 273 50 [(0, .ref 58), (2, .int u1)] [] m1 Q) ∧ (¬ u1 = (10 : Int32) → ((u1 = (13 : Int32) → yP (xg xs) (d + 1) 273 50 [(0, .ref 58), (2, .int u1)] [] m1 Q) ∧ (¬ u1 = (13 : Int32) → ((¬ u1 = (32 : Int32) → yP (xg xs) (d + 1) 273 54 [(0, .ref 58), (2, .int u1)] [] m1 Q) ∧ (u1 = (32 : Int32) → yP (xg xs) (d + 1) 273 50 [(0, .ref 58), (2, .int u1)] [] m1 Q))))))))))))))) : yP (xg xs) (d + 1) 273 2 [(0, .ref 58), (1, .int l1)] [] m Q := by
  refine y_st rfl rfl rfl rfl rfl (fun _ _ => rfl) ?_
  show yP (xg xs) (d + 1) 273 3 [(0, .ref 58), (1, .int l1)] [.int l1] m Q
  refine y_zeq (t := 174) rfl rfl rfl (fun h => ?_) (fun h => ?_)
  · replace H := H.1 h; clear h
    refine y_st rfl rfl rfl rfl rfl (fun _ _ => rfl) ?_
    show yP (xg xs) (d + 1) 273 175 [(0, .ref 58), (1, .int l1)] [.int (1 : Int32)] m Q
    exact y_zret rfl rfl rfl (by decide) H
  · replace H := H.2 h; clear h
    refine y_st rfl rfl rfl rfl rfl (fun _ _ => rfl) ?_
    refine y_st rfl rfl rfl rfl rfl (fun _ _ => rfl) ?_
    refine y_gf rfl rfl rfl rfl rfl ?_
    show yP (xg xs) (d + 1) 273 11 [(0, .ref 58), (1, .int l1)] [.int (m.1 58 5), .ref 58] m Q
    refine y_call rfl rfl rfl rfl rfl (Nat.le_of_ble_eq_true rfl) (Nat.le_of_ble_eq_true rfl) rfl (by decide) H (fun v1 m1 H => ?_)
    obtain ⟨u1, rfl, H⟩ := H
    refine y_st rfl rfl rfl rfl rfl (fun _ _ => rfl) ?_
    refine y_st rfl rfl rfl rfl rfl (fun _ _ => rfl) ?_
    refine y_gf rfl rfl rfl rfl rfl ?_
    refine y_st rfl rfl rfl rfl rfl (fun _ _ => rfl) ?_
    refine y_gf rfl rfl rfl rfl rfl ?_
    show yP (xg xs) (d + 1) 273 23 [(2, .int u1), (0, .ref 58), (1, .int l1)] [.int (m1.1 58 2), .int (m1.1 58 5)] m1 Q
    refine y_ige (t := 54) rfl rfl rfl (fun h => ?_) (fun h => ?_)
    · replace H := H.1 h; clear h
      show yP (xg xs) (d + 1) 273 54 [(2, .int u1), (0, .ref 58), (1, .int l1)] [] m1 Q
      refine y_headS (l2 := [(0, .ref 58), (2, .int u1)]) [1, 0] [0, 2] [2, 0, 1] rfl rfl (by decide) rfl (by decide) ?_
      exact H
    · replace H := H.2 h; clear h
      refine y_st rfl rfl rfl rfl rfl (fun _ _ => rfl) ?_
      refine y_st rfl rfl rfl rfl rfl (fun _ _ => rfl) ?_
      show yP (xg xs) (d + 1) 273 29 [(2, .int u1), (0, .ref 58), (1, .int l1)] [.int (9 : Int32), .int u1] m1 Q
      refine y_ieq (t := 50) rfl rfl rfl (fun h => ?_) (fun h => ?_)
      · replace H := H.1 h; clear h
        show yP (xg xs) (d + 1) 273 50 [(2, .int u1), (0, .ref 58), (1, .int l1)] [] m1 Q
        refine y_headS (l2 := [(0, .ref 58), (2, .int u1)]) [1, 0] [0, 2] [2, 0, 1] rfl rfl (by decide) rfl (by decide) ?_
        exact H
      · replace H := H.2 h; clear h
        refine y_st rfl rfl rfl rfl rfl (fun _ _ => rfl) ?_
        refine y_st rfl rfl rfl rfl rfl (fun _ _ => rfl) ?_
        show yP (xg xs) (d + 1) 273 35 [(2, .int u1), (0, .ref 58), (1, .int l1)] [.int (10 : Int32), .int u1] m1 Q
        refine y_ieq (t := 50) rfl rfl rfl (fun h => ?_) (fun h => ?_)
        · replace H := H.1 h; clear h
          show yP (xg xs) (d + 1) 273 50 [(2, .int u1), (0, .ref 58), (1, .int l1)] [] m1 Q
          refine y_headS (l2 := [(0, .ref 58), (2, .int u1)]) [1, 0] [0, 2] [2, 0, 1] rfl rfl (by decide) rfl (by decide) ?_
          exact H
        · replace H := H.2 h; clear h
          refine y_st rfl rfl rfl rfl rfl (fun _ _ => rfl) ?_
          refine y_st rfl rfl rfl rfl rfl (fun _ _ => rfl) ?_
          show yP (xg xs) (d + 1) 273 41 [(2, .int u1), (0, .ref 58), (1, .int l1)] [.int (13 : Int32), .int u1] m1 Q
          refine y_ieq (t := 50) rfl rfl rfl (fun h => ?_) (fun h => ?_)
          · replace H := H.1 h; clear h
            show yP (xg xs) (d + 1) 273 50 [(2, .int u1), (0, .ref 58), (1, .int l1)] [] m1 Q
            refine y_headS (l2 := [(0, .ref 58), (2, .int u1)]) [1, 0] [0, 2] [2, 0, 1] rfl rfl (by decide) rfl (by decide) ?_
            exact H
          · replace H := H.2 h; clear h
            refine y_st rfl rfl rfl rfl rfl (fun _ _ => rfl) ?_
            refine y_st rfl rfl rfl rfl rfl (fun _ _ => rfl) ?_
            show yP (xg xs) (d + 1) 273 47 [(2, .int u1), (0, .ref 58), (1, .int l1)] [.int (32 : Int32), .int u1] m1 Q
            refine y_ine (t := 54) rfl rfl rfl (fun h => ?_) (fun h => ?_)
            · replace H := H.1 h; clear h
              show yP (xg xs) (d + 1) 273 54 [(2, .int u1), (0, .ref 58), (1, .int l1)] [] m1 Q
              refine y_headS (l2 := [(0, .ref 58), (2, .int u1)]) [1, 0] [0, 2] [2, 0, 1] rfl rfl (by decide) rfl (by decide) ?_
              exact H
            · replace H := H.2 h; clear h
              show yP (xg xs) (d + 1) 273 50 [(2, .int u1), (0, .ref 58), (1, .int l1)] [] m1 Q
              refine y_headS (l2 := [(0, .ref 58), (2, .int u1)]) [1, 0] [0, 2] [2, 0, 1] rfl rfl (by decide) rfl (by decide) ?_
              exact H
set_option maxRecDepth 20000 in
/-- CodeMakerModel.skip from 50 on -/
theorem w273_50 (xs : List Int32) (d : Nat) (l2 : Int32) (m : yM) (Q : Option Value → yM → Prop) (H : yP (xg xs) (d + 1) 273 55 [(0, .ref 58), (2, .int l2)] [.int (1 : Int32)] m Q) : yP (xg xs) (d + 1) 273 50 [(0, .ref 58), (2, .int l2)] [] m Q := by
  refine y_st rfl rfl rfl rfl rfl (fun _ _ => rfl) ?_
  refine y_st rfl rfl rfl rfl rfl (fun _ _ => rfl) ?_
  show yP (xg xs) (d + 1) 273 55 [(0, .ref 58), (2, .int l2)] [.int (1 : Int32)] m Q
  exact H
set_option maxRecDepth 20000 in
/-- CodeMakerModel.skip from 54 on -/
theorem w273_54 (xs : List Int32) (d : Nat) (l2 : Int32) (m : yM) (Q : Option Value → yM → Prop) (H : yP (xg xs) (d + 1) 273 55 [(0, .ref 58), (2, .int l2)] [.int (0 : Int32)] m Q) : yP (xg xs) (d + 1) 273 54 [(0, .ref 58), (2, .int l2)] [] m Q := by
  refine y_st rfl rfl rfl rfl rfl (fun _ _ => rfl) ?_
  show yP (xg xs) (d + 1) 273 55 [(0, .ref 58), (2, .int l2)] [.int (0 : Int32)] m Q
  exact H
set_option maxRecDepth 20000 in
/-- CodeMakerModel.skip from 55 on -/
theorem w273_55 (xs : List Int32) (d : Nat) (l2 : Int32) (s0 : Int32) (m : yM) (Q : Option Value → yM → Prop) (H : ((s0 = 0 → (((m.1 58 2) ≤ (m.1 58 5) → yP (xg xs) (d + 1) 273 171 [(0, .ref 58), (1, .int s0)] [] m Q) ∧ (¬ (m.1 58 2) ≤ (m.1 58 5) → ((¬ l2 = (40 : Int32) → yP (xg xs) (d + 1) 273 171 [(0, .ref 58), (1, .int s0)] [] m Q) ∧ (l2 = (40 : Int32) → (yC (xg xs) d 274 [.ref 58, .int ((m.1 58 5) + (1 : Int32))] m (fun v1 m1 => ∃ u1, v1 = some (Value.int u1) ∧ ((¬ u1 = (42 : Int32) → yP (xg xs) (d + 1) 273 171 [(0, .ref 58), (1, .int s0)] [] m1 Q) ∧ (u1 = (42 : Int32) → yP (xg xs) (d + 1) 273 112 [(0, .ref 58), (3, .int ((m1.1 58 5) + (2 : Int32)))] [] m1 Q))))))))) ∧ (¬ s0 = 0 → yP (xg xs) (d + 1) 273 171 [(0, .ref 58), (1, .int s0)] [] (y_si m 58 5 ((m.1 58 5) + (1 : Int32))) Q))) : yP (xg xs) (d + 1) 273 55 [(0, .ref 58), (2, .int l2)] [.int s0] m Q := by
  refine y_st rfl rfl rfl rfl rfl (fun _ _ => rfl) ?_
  refine y_st rfl rfl rfl rfl rfl (fun _ _ => rfl) ?_
  show yP (xg xs) (d + 1) 273 57 [(1, .int s0), (0, .ref 58), (2, .int l2)] [.int s0] m Q
  refine y_zeq (t := 73) rfl rfl rfl (fun h => ?_) (fun h => ?_)
  · replace H := H.1 h; clear h
    refine y_st rfl rfl rfl rfl rfl (fun _ _ => rfl) ?_
    refine y_gf rfl rfl rfl rfl rfl ?_
    refine y_st rfl rfl rfl rfl rfl (fun _ _ => rfl) ?_
    refine y_gf rfl rfl rfl rfl rfl ?_
    show yP (xg xs) (d + 1) 273 81 [(1, .int s0), (0, .ref 58), (2, .int l2)] [.int (m.1 58 2), .int (m.1 58 5)] m Q
    refine y_ige (t := 171) rfl rfl rfl (fun h => ?_) (fun h => ?_)
    · replace H := H.1 h; clear h
      show yP (xg xs) (d + 1) 273 171 [(1, .int s0), (0, .ref 58), (2, .int l2)] [] m Q
      refine y_headS (l2 := [(0, .ref 58), (1, .int s0)]) [1, 0] [0, 1] [1, 0, 2] rfl rfl (by decide) rfl (by decide) ?_
      exact H
    · replace H := H.2 h; clear h
      refine y_st rfl rfl rfl rfl rfl (fun _ _ => rfl) ?_
      refine y_st rfl rfl rfl rfl rfl (fun _ _ => rfl) ?_
      show yP (xg xs) (d + 1) 273 87 [(1, .int s0), (0, .ref 58), (2, .int l2)] [.int (40 : Int32), .int l2] m Q
      refine y_ine (t := 171) rfl rfl rfl (fun h => ?_) (fun h => ?_)
      · replace H := H.1 h; clear h
        show yP (xg xs) (d + 1) 273 171 [(1, .int s0), (0, .ref 58), (2, .int l2)] [] m Q
        refine y_headS (l2 := [(0, .ref 58), (1, .int s0)]) [1, 0] [0, 1] [1, 0, 2] rfl rfl (by decide) rfl (by decide) ?_
        exact H
      · replace H := H.2 h; clear h
        refine y_st rfl rfl rfl rfl rfl (fun _ _ => rfl) ?_
        refine y_st rfl rfl rfl rfl rfl (fun _ _ => rfl) ?_
        refine y_gf rfl rfl rfl rfl rfl ?_
        refine y_st rfl rfl rfl rfl rfl (fun _ _ => rfl) ?_
        refine y_st rfl rfl rfl rfl rfl (fun _ _ => rfl) ?_
        show yP (xg xs) (d + 1) 273 97 [(1, .int s0), (0, .ref 58), (2, .int l2)] [.int ((m.1 58 5) + (1 : Int32)), .ref 58] m Q
        refine y_call rfl rfl rfl rfl rfl (Nat.le_of_ble_eq_true rfl) (Nat.le_of_ble_eq_true rfl) rfl (by decide) H (fun v1 m1 H => ?_)
        obtain ⟨u1, rfl, H⟩ := H
        refine y_st rfl rfl rfl rfl rfl (fun _ _ => rfl) ?_
        show yP (xg xs) (d + 1) 273 102 [(1, .int s0), (0, .ref 58), (2, .int l2)] [.int (42 : Int32), .int u1] m1 Q
        refine y_ine (t := 171) rfl rfl rfl (fun h => ?_) (fun h => ?_)
        · replace H := H.1 h; clear h
          show yP (xg xs) (d + 1) 273 171 [(1, .int s0), (0, .ref 58), (2, .int l2)] [] m1 Q
          refine y_headS (l2 := [(0, .ref 58), (1, .int s0)]) [1, 0] [0, 1] [1, 0, 2] rfl rfl (by decide) rfl (by decide) ?_
          exact H
        · replace H := H.2 h; clear h
          refine y_st rfl rfl rfl rfl rfl (fun _ _ => rfl) ?_
          refine y_gf rfl rfl rfl rfl rfl ?_
          refine y_st rfl rfl rfl rfl rfl (fun _ _ => rfl) ?_
          refine y_st rfl rfl rfl rfl rfl (fun _ _ => rfl) ?_
          refine y_st rfl rfl rfl rfl rfl (fun _ _ => rfl) ?_
          show yP (xg xs) (d + 1) 273 112 [(3, .int ((m1.1 58 5) + (2 : Int32))), (1, .int s0), (0, .ref 58), (2, .int l2)] [] m1 Q
          refine y_headS (l2 := [(0, .ref 58), (3, .int ((m1.1 58 5) + (2 : Int32)))]) [2, 0] [0, 3] [3, 1, 0, 2] rfl rfl (by decide) rfl (by decide) ?_
          exact H
  · replace H := H.2 h; clear h
    refine y_st rfl rfl rfl rfl rfl (fun _ _ => rfl) ?_
    refine y_st rfl rfl rfl rfl rfl (fun _ _ => rfl) ?_
    refine y_gf rfl rfl rfl rfl rfl ?_
    refine y_st rfl rfl rfl rfl rfl (fun _ _ => rfl) ?_
    refine y_st rfl rfl rfl rfl rfl (fun _ _ => rfl) ?_
    refine y_pfi rfl rfl rfl rfl rfl (x_fit_i _) ?_
    show yP (xg xs) (d + 1) 273 70 [(1, .int s0), (0, .ref 58), (2, .int l2)] [] (y_si m 58 5 ((m.1 58 5) + (1 : Int32))) Q
    refine y_st rfl rfl rfl rfl rfl (fun _ _ => rfl) ?_
    show yP (xg xs) (d + 1) 273 171 [(1, .int s0), (0, .ref 58), (2, .int l2)] [] (y_si m 58 5 ((m.1 58 5) + (1 : Int32))) Q
    refine y_headS (l2 := [(0, .ref 58), (1, .int s0)]) [1, 0] [0, 1] [1, 0, 2] rfl rfl (by decide) rfl (by decide) ?_
    exact H
set_option maxRecDepth 20000 in
/-- CodeMakerModel.skip from 112 on -/
theorem w273_112 (xs : List Int32) (d : Nat) (l3 : Int32) (m : yM) (Q : Option Value → yM → Prop) (H : (((m.1 58 2) ≤ (l3 + (1 : Int32)) → yP (xg xs) (d + 1) 273 150 [(0, .ref 58), (3, .int l3)] [] m Q) ∧ (¬ (m.1 58 2) ≤ (l3 + (1 : Int32)) → (yC (xg xs) d 274 [.ref 58, .int l3] m (fun v1 m1 => ∃ u1, v1 = some (Value.int u1) ∧ ((¬ u1 = (42 : Int32) → yP (xg xs) (d + 1) 273 144 [(0, .ref 58), (3, .int l3)] [] m1 Q) ∧ (u1 = (42 : Int32) → (yC (xg xs) d 274 [.ref 58, .int (l3 + (1 : Int32))] m1 (fun v2 m2 => ∃ u2, v2 = some (Value.int u2) ∧ ((u2 = (41 : Int32) → yP (xg xs) (d + 1) 273 150 [(0, .ref 58), (3, .int l3)] [] m2 Q) ∧ (¬ u2 = (41 : Int32) → yP (xg xs) (d + 1) 273 144 [(0, .ref 58), (3, .int l3)] [] m2 Q))))))))))) : yP (xg xs) (d + 1) 273 112 [(0, .ref 58), (3, .int l3)] [] m Q := by
  refine y_st rfl rfl rfl rfl rfl (fun _ _ => rfl) ?_
  refine y_st rfl rfl rfl rfl rfl (fun _ _ => rfl) ?_
  refine y_st rfl rfl rfl rfl rfl (fun _ _ => rfl) ?_
  refine y_st rfl rfl rfl rfl rfl (fun _ _ => rfl) ?_
  refine y_gf rfl rfl rfl rfl rfl ?_
  show yP (xg xs) (d + 1) 273 119 [(0, .ref 58), (3, .int l3)] [.int (m.1 58 2), .int (l3 + (1 : Int32))] m Q
  refine y_ige (t := 150) rfl rfl rfl (fun h => ?_) (fun h => ?_)
  · replace H := H.1 h; clear h
    show yP (xg xs) (d + 1) 273 150 [(0, .ref 58), (3, .int l3)] [] m Q
    exact H
  · replace H := H.2 h; clear h
    refine y_st rfl rfl rfl rfl rfl (fun _ _ => rfl) ?_
    refine y_st rfl rfl rfl rfl rfl (fun _ _ => rfl) ?_
    show yP (xg xs) (d + 1) 273 124 [(0, .ref 58), (3, .int l3)] [.int l3, .ref 58] m Q
    refine y_call rfl rfl rfl rfl rfl (Nat.le_of_ble_eq_true rfl) (Nat.le_of_ble_eq_true rfl) rfl (by decide) H (fun v1 m1 H => ?_)
    obtain ⟨u1, rfl, H⟩ := H
    refine y_st rfl rfl rfl rfl rfl (fun _ _ => rfl) ?_
    show yP (xg xs) (d + 1) 273 129 [(0, .ref 58), (3, .int l3)] [.int (42 : Int32), .int u1] m1 Q
    refine y_ine (t := 144) rfl rfl rfl (fun h => ?_) (fun h => ?_)
    · replace H := H.1 h; clear h
      show yP (xg xs) (d + 1) 273 144 [(0, .ref 58), (3, .int l3)] [] m1 Q
      exact H
    · replace H := H.2 h; clear h
      refine y_st rfl rfl rfl rfl rfl (fun _ _ => rfl) ?_
      refine y_st rfl rfl rfl rfl rfl (fun _ _ => rfl) ?_
      refine y_st rfl rfl rfl rfl rfl (fun _ _ => rfl) ?_
      refine y_st rfl rfl rfl rfl rfl (fun _ _ => rfl) ?_
      show yP (xg xs) (d + 1) 273 136 [(0, .ref 58), (3, .int l3)] [.int (l3 + (1 : Int32)), .ref 58] m1 Q
      refine y_call rfl rfl rfl rfl rfl (Nat.le_of_ble_eq_true rfl) (Nat.le_of_ble_eq_true rfl) rfl (by decide) H (fun v2 m2 H => ?_)
      obtain ⟨u2, rfl, H⟩ := H
      refine y_st rfl rfl rfl rfl rfl (fun _ _ => rfl) ?_
      show yP (xg xs) (d + 1) 273 141 [(0, .ref 58), (3, .int l3)] [.int (41 : Int32), .int u2] m2 Q
      refine y_ieq (t := 150) rfl rfl rfl (fun h => ?_) (fun h => ?_)
      · replace H := H.1 h; clear h
        show yP (xg xs) (d + 1) 273 150 [(0, .ref 58), (3, .int l3)] [] m2 Q
        exact H
      · replace H := H.2 h; clear h
        show yP (xg xs) (d + 1) 273 144 [(0, .ref 58), (3, .int l3)] [] m2 Q
        exact H
set_option maxRecDepth 20000 in
/-- CodeMakerModel.skip from 144 on -/
theorem w273_144 (xs : List Int32) (d : Nat) (l3 : Int32) (m : yM) (Q : Option Value → yM → Prop) (H : yP (xg xs) (d + 1) 273 112 [(0, .ref 58), (3, .int (l3 + (1 : Int32)))] [] m Q) : yP (xg xs) (d + 1) 273 144 [(0, .ref 58), (3, .int l3)] [] m Q := by
  refine y_st rfl rfl rfl rfl rfl (fun _ _ => rfl) ?_
  refine y_st rfl rfl rfl rfl rfl (fun _ _ => rfl) ?_
  show yP (xg xs) (d + 1) 273 112 [(3, .int (l3 + (1 : Int32))), (0, .ref 58)] [] m Q
  refine y_headS (l2 := [(0, .ref 58), (3, .int (l3 + (1 : Int32)))]) [1, 0] [0, 3] [3, 0] rfl rfl (by decide) rfl (by decide) ?_
  exact H
set_option maxRecDepth 20000 in
/-- CodeMakerModel.skip from 150 on -/
theorem w273_150 (xs : List Int32) (d : Nat) (l3 : Int32) (m : yM) (Q : Option Value → yM → Prop) (H : (((l3 + (1 : Int32)) < (m.1 58 2) → yP (xg xs) (d + 1) 273 171 [(0, .ref 58), (1, .int (1 : Int32))] [] (y_si m 58 5 (l3 + (2 : Int32))) Q) ∧ (¬ (l3 + (1 : Int32)) < (m.1 58 2) → Q (some (.int (0 : Int32))) m))) : yP (xg xs) (d + 1) 273 150 [(0, .ref 58), (3, .int l3)] [] m Q := by
  refine y_st rfl rfl rfl rfl rfl (fun _ _ => rfl) ?_
  refine y_st rfl rfl rfl rfl rfl (fun _ _ => rfl) ?_
  refine y_st rfl rfl rfl rfl rfl (fun _ _ => rfl) ?_
  refine y_st rfl rfl rfl rfl rfl (fun _ _ => rfl) ?_
  refine y_gf rfl rfl rfl rfl rfl ?_
  show yP (xg xs) (d + 1) 273 157 [(0, .ref 58), (3, .int l3)] [.int (m.1 58 2), .int (l3 + (1 : Int32))] m Q
  refine y_ilt (t := 162) rfl rfl rfl (fun h => ?_) (fun h => ?_)
  · replace H := H.1 h; clear h
    refine y_st rfl rfl rfl rfl rfl (fun _ _ => rfl) ?_
    refine y_st rfl rfl rfl rfl rfl (fun _ _ => rfl) ?_
    refine y_st rfl rfl rfl rfl rfl (fun _ _ => rfl) ?_
    refine y_st rfl rfl rfl rfl rfl (fun _ _ => rfl) ?_
    refine y_pfi rfl rfl rfl rfl rfl (x_fit_i _) ?_
    show yP (xg xs) (d + 1) 273 169 [(0, .ref 58), (3, .int l3)] [] (y_si m 58 5 (l3 + (2 : Int32))) Q
    refine y_st rfl rfl rfl rfl rfl (fun _ _ => rfl) ?_
    refine y_st rfl rfl rfl rfl rfl (fun _ _ => rfl) ?_
    show yP (xg xs) (d + 1) 273 171 [(1, .int (1 : Int32)), (0, .ref 58), (3, .int l3)] [] (y_si m 58 5 (l3 + (2 : Int32))) Q
    refine y_headS (l2 := [(0, .ref 58), (1, .int (1 : Int32))]) [1, 0] [0, 1] [1, 0, 3] rfl rfl (by decide) rfl (by decide) ?_
    exact H
  · replace H := H.2 h; clear h
    refine y_st rfl rfl rfl rfl rfl (fun _ _ => rfl) ?_
    show yP (xg xs) (d + 1) 273 161 [(0, .ref 58), (3, .int l3)] [.int (0 : Int32)] m Q
    exact y_zret rfl rfl rfl (by decide) H
set_option maxRecDepth 20000 in
/-- CodeMakerModel.skip from 171 on -/
theorem w273_171 (xs : List Int32) (d : Nat) (l1 : Int32) (m : yM) (Q : Option Value → yM → Prop) (H : yP (xg xs) (d + 1) 273 2 [(0, .ref 58), (1, .int l1)] [] m Q) : yP (xg xs) (d + 1) 273 171 [(0, .ref 58), (1, .int l1)] [] m Q := by
  refine y_st rfl rfl rfl rfl rfl (fun _ _ => rfl) ?_
  show yP (xg xs) (d + 1) 273 2 [(0, .ref 58), (1, .int l1)] [] m Q
  exact H
set_option maxRecDepth 20000 in
/-- CodeMakerModel.look from 0 on -/
theorem w274_0 (xs : List Int32) (d : Nat) (l1 : Int32) (m : yM) (Q : Option Value → yM → Prop) (H : (((m.1 58 2) ≤ l1 → Q (some (.int (0 : Int32))) m) ∧ (¬ (m.1 58 2) ≤ l1 → (x_in l1 8192 = true ∧ Q (some (.int ((m.1 59 l1.toNatClampNeg) &&& (255 : Int32)))) m)))) : yP (xg xs) (d + 1) 274 0 [(0, .ref 58), (1, .int l1)] [] m Q := by
  refine y_st rfl rfl rfl rfl rfl (fun _ _ => rfl) ?_
  refine y_st rfl rfl rfl rfl rfl (fun _ _ => rfl) ?_
  refine y_gf rfl rfl rfl rfl rfl ?_
  show yP (xg xs) (d + 1) 274 5 [(0, .ref 58), (1, .int l1)] [.int (m.1 58 2), .int l1] m Q
  refine y_ige (t := 21) rfl rfl rfl (fun h => ?_) (fun h => ?_)
  · replace H := H.1 h; clear h
    refine y_st rfl rfl rfl rfl rfl (fun _ _ => rfl) ?_
    show yP (xg xs) (d + 1) 274 22 [(0, .ref 58), (1, .int l1)] [.int (0 : Int32)] m Q
    exact y_iret rfl rfl rfl H
  · replace H := H.2 h; clear h
    refine y_st rfl rfl rfl rfl rfl (fun _ _ => rfl) ?_
    refine y_gf rfl rfl rfl rfl rfl ?_
    refine y_st rfl rfl rfl rfl rfl (fun _ _ => rfl) ?_
    show yP (xg xs) (d + 1) 274 13 [(0, .ref 58), (1, .int l1)] [.int l1, .ref 59] m Q
    refine y_bald rfl rfl rfl (by decide) (H.1) ?_
    replace H := H.2
    refine y_st rfl rfl rfl rfl rfl (fun _ _ => rfl) ?_
    refine y_st rfl rfl rfl rfl rfl (fun _ _ => rfl) ?_
    refine y_st rfl rfl rfl rfl rfl (fun _ _ => rfl) ?_
    show yP (xg xs) (d + 1) 274 22 [(0, .ref 58), (1, .int l1)] [.int ((m.1 59 l1.toNatClampNeg) &&& (255 : Int32))] m Q
    exact y_iret rfl rfl rfl H
set_option maxRecDepth 20000 in
/-- CodeMakerModel.bad from 0 on -/
theorem w275_0 (xs : List Int32) (d : Nat) (l1 : Int32) (l2 : Int32) (m : yM) (Q : Option Value → yM → Prop) (H : (yC (xg xs) d 276 [.ref 58, .int l1, .int l2] m (fun v1 m1 => v1 = none ∧ Q none (y_si m1 58 6 (6 : Int32))))) : yP (xg xs) (d + 1) 275 0 [(0, .ref 58), (1, .int l1), (2, .int l2)] [] m Q := by
  refine y_st rfl rfl rfl rfl rfl (fun _ _ => rfl) ?_
  refine y_st rfl rfl rfl rfl rfl (fun _ _ => rfl) ?_
  refine y_st rfl rfl rfl rfl rfl (fun _ _ => rfl) ?_
  show yP (xg xs) (d + 1) 275 3 [(0, .ref 58), (1, .int l1), (2, .int l2)] [.int l2, .int l1, .ref 58] m Q
  refine y_call rfl rfl rfl rfl rfl (Nat.le_of_ble_eq_true rfl) (Nat.le_of_ble_eq_true rfl) rfl (by decide) H (fun v1 m1 H => ?_)
  obtain ⟨rfl, H⟩ := H
  refine y_st rfl rfl rfl rfl rfl (fun _ _ => rfl) ?_
  refine y_st rfl rfl rfl rfl rfl (fun _ _ => rfl) ?_
  refine y_pfi rfl rfl rfl rfl rfl (x_fit_i _) ?_
  show yP (xg xs) (d + 1) 275 12 [(0, .ref 58), (1, .int l1), (2, .int l2)] [] (y_si m1 58 6 (6 : Int32)) Q
  show yP (xg xs) (d + 1) 275 12 [(0, .ref 58), (1, .int l1), (2, .int l2)] [] (y_si m1 58 6 (6 : Int32)) Q
  exact y_ret rfl rfl rfl rfl H
set_option maxRecDepth 20000 in
/-- CodeMakerModel.fail from 0 on -/
theorem w276_0 (xs : List Int32) (d : Nat) (l1 : Int32) (l2 : Int32) (m : yM) (Q : Option Value → yM → Prop) (H : ((¬ (m.1 58 3) = 0 → Q none m) ∧ ((m.1 58 3) = 0 → Q none (y_si (y_si m 58 3 l1) 58 4 l2)))) : yP (xg xs) (d + 1) 276 0 [(0, .ref 58), (1, .int l1), (2, .int l2)] [] m Q := by
  refine y_st rfl rfl rfl rfl rfl (fun _ _ => rfl) ?_
  refine y_gf rfl rfl rfl rfl rfl ?_
  show yP (xg xs) (d + 1) 276 4 [(0, .ref 58), (1, .int l1), (2, .int l2)] [.int (m.1 58 3)] m Q
  refine y_zne (t := 17) rfl rfl rfl (fun h => ?_) (fun h => ?_)
  · replace H := H.1 h; clear h
    show yP (xg xs) (d + 1) 276 17 [(0, .ref 58), (1, .int l1), (2, .int l2)] [] m Q
    exact y_ret rfl rfl rfl rfl H
  · replace H := H.2 h; clear h
    refine y_st rfl rfl rfl rfl rfl (fun _ _ => rfl) ?_
    refine y_st rfl rfl rfl rfl rfl (fun _ _ => rfl) ?_
    refine y_pfi rfl rfl rfl rfl rfl (x_fit_i _) ?_
    show yP (xg xs) (d + 1) 276 12 [(0, .ref 58), (1, .int l1), (2, .int l2)] [] (y_si m 58 3 l1) Q
    refine y_st rfl rfl rfl rfl rfl (fun _ _ => rfl) ?_
    refine y_st rfl rfl rfl rfl rfl (fun _ _ => rfl) ?_
    refine y_pfi rfl rfl rfl rfl rfl (x_fit_i _) ?_
    show yP (xg xs) (d + 1) 276 17 [(0, .ref 58), (1, .int l1), (2, .int l2)] [] (y_si (y_si m 58 3 l1) 58 4 l2) Q
    show yP (xg xs) (d + 1) 276 17 [(0, .ref 58), (1, .int l1), (2, .int l2)] [] (y_si (y_si m 58 3 l1) 58 4 l2) Q
    exact y_ret rfl rfl rfl rfl H
set_option maxRecDepth 20000 in
/-- CodeMakerModel.token from 0 on -/
theorem w277_0 (xs : List Int32) (d : Nat) (l1 : Int32) (l2 : Int32) (l3 : Int32) (m : yM) (Q : Option Value → yM → Prop) (H : Q none (y_si (y_si (y_si m 58 6 l1) 58 7 l2) 58 5 l3)) : yP (xg xs) (d + 1) 277 0 [(0, .ref 58), (1, .int l1), (2, .int l2), (3, .int l3)] [] m Q := by
  refine y_st rfl rfl rfl rfl rfl (fun _ _ => rfl) ?_
  refine y_st rfl rfl rfl rfl rfl (fun _ _ => rfl) ?_
  refine y_pfi rfl rfl rfl rfl rfl (x_fit_i _) ?_
  show yP (xg xs) (d + 1) 277 5 [(0, .ref 58), (1, .int l1), (2, .int l2), (3, .int l3)] [] (y_si m 58 6 l1) Q
  refine y_st rfl rfl rfl rfl rfl (fun _ _ => rfl) ?_
  refine y_st rfl rfl rfl rfl rfl (fun _ _ => rfl) ?_
  refine y_pfi rfl rfl rfl rfl rfl (x_fit_i _) ?_
  show yP (xg xs) (d + 1) 277 10 [(0, .ref 58), (1, .int l1), (2, .int l2), (3, .int l3)] [] (y_si (y_si m 58 6 l1) 58 7 l2) Q
  refine y_st rfl rfl rfl rfl rfl (fun _ _ => rfl) ?_
  refine y_st rfl rfl rfl rfl rfl (fun _ _ => rfl) ?_
  refine y_pfi rfl rfl rfl rfl rfl (x_fit_i _) ?_
  show yP (xg xs) (d + 1) 277 15 [(0, .ref 58), (1, .int l1), (2, .int l2), (3, .int l3)] [] (y_si (y_si (y_si m 58 6 l1) 58 7 l2) 58 5 l3) Q
  show yP (xg xs) (d + 1) 277 15 [(0, .ref 58), (1, .int l1), (2, .int l2), (3, .int l3)] [] (y_si (y_si (y_si m 58 6 l1) 58 7 l2) 58 5 l3) Q
  exact y_ret rfl rfl rfl rfl H
set_option maxRecDepth 20000 in
/-- CodeMakerModel.isDigit from 0 on -/
theorem w278_0 (xs : List Int32) (d : Nat) (l0 : Int32) (m : yM) (Q : Option Value → yM → Prop) (H : ((l0 < (48 : Int32) → Q (some (.int (0 : Int32))) m) ∧ (¬ l0 < (48 : Int32) → (((57 : Int32) < l0 → Q (some (.int (0 : Int32))) m) ∧ (¬ (57 : Int32) < l0 → Q (some (.int (1 : Int32))) m))))) : yP (xg xs) (d + 1) 278 0 [(0, .int l0)] [] m Q := by
  refine y_st rfl rfl rfl rfl rfl (fun _ _ => rfl) ?_
  refine y_st rfl rfl rfl rfl rfl (fun _ _ => rfl) ?_
  show yP (xg xs) (d + 1) 278 3 [(0, .int l0)] [.int (48 : Int32), .int l0] m Q
  refine y_ilt (t := 16) rfl rfl rfl (fun h => ?_) (fun h => ?_)
  · replace H := H.1 h; clear h
    refine y_st rfl rfl rfl rfl rfl (fun _ _ => rfl) ?_
    show yP (xg xs) (d + 1) 278 17 [(0, .int l0)] [.int (0 : Int32)] m Q
    exact y_zret rfl rfl rfl (by decide) H
  · replace H := H.2 h; clear h
    refine y_st rfl rfl rfl rfl rfl (fun _ _ => rfl) ?_
    refine y_st rfl rfl rfl rfl rfl (fun _ _ => rfl) ?_
    show yP (xg xs) (d + 1) 278 9 [(0, .int l0)] [.int (57 : Int32), .int l0] m Q
    refine y_igt (t := 16) rfl rfl rfl (fun h => ?_) (fun h => ?_)
    · replace H := H.1 h; clear h
      refine y_st rfl rfl rfl rfl rfl (fun _ _ => rfl) ?_
      show yP (xg xs) (d + 1) 278 17 [(0, .int l0)] [.int (0 : Int32)] m Q
      exact y_zret rfl rfl rfl (by decide) H
    · replace H := H.2 h; clear h
      refine y_st rfl rfl rfl rfl rfl (fun _ _ => rfl) ?_
      refine y_st rfl rfl rfl rfl rfl (fun _ _ => rfl) ?_
      show yP (xg xs) (d + 1) 278 17 [(0, .int l0)] [.int (1 : Int32)] m Q
      exact y_zret rfl rfl rfl (by decide) H
set_option maxRecDepth 20000 in
/-- CodeMakerModel.great from 0 on -/
theorem w279_0 (xs : List Int32) (d : Nat) (l0 : Int32) (m : yM) (Q : Option Value → yM → Prop) (H : ((l0 < (97 : Int32) → Q (some (.int l0)) m) ∧ (¬ l0 < (97 : Int32) → (((122 : Int32) < l0 → Q (some (.int l0)) m) ∧ (¬ (122 : Int32) < l0 → Q (some (.int (l0 - (32 : Int32)))) m))))) : yP (xg xs) (d + 1) 279 0 [(0, .int l0)] [] m Q := by
  refine y_st rfl rfl rfl rfl rfl (fun _ _ => rfl) ?_
  refine y_st rfl rfl rfl rfl rfl (fun _ _ => rfl) ?_
  show yP (xg xs) (d + 1) 279 3 [(0, .int l0)] [.int (97 : Int32), .int l0] m Q
  refine y_ilt (t := 19) rfl rfl rfl (fun h => ?_) (fun h => ?_)
  · replace H := H.1 h; clear h
    refine y_st rfl rfl rfl rfl rfl (fun _ _ => rfl) ?_
    show yP (xg xs) (d + 1) 279 20 [(0, .int l0)] [.int l0] m Q
    exact y_iret rfl rfl rfl H
  · replace H := H.2 h; clear h
    refine y_st rfl rfl rfl rfl rfl (fun _ _ => rfl) ?_
    refine y_st rfl rfl rfl rfl rfl (fun _ _ => rfl) ?_
    show yP (xg xs) (d + 1) 279 9 [(0, .int l0)] [.int (122 : Int32), .int l0] m Q
    refine y_igt (t := 19) rfl rfl rfl (fun h => ?_) (fun h => ?_)
    · replace H := H.1 h; clear h
      refine y_st rfl rfl rfl rfl rfl (fun _ _ => rfl) ?_
      show yP (xg xs) (d + 1) 279 20 [(0, .int l0)] [.int l0] m Q
      exact y_iret rfl rfl rfl H
    · replace H := H.2 h; clear h
      refine y_st rfl rfl rfl rfl rfl (fun _ _ => rfl) ?_
      refine y_st rfl rfl rfl rfl rfl (fun _ _ => rfl) ?_
      refine y_st rfl rfl rfl rfl rfl (fun _ _ => rfl) ?_
      refine y_st rfl rfl rfl rfl rfl (fun _ _ => rfl) ?_
      show yP (xg xs) (d + 1) 279 20 [(0, .int l0)] [.int (l0 - (32 : Int32))] m Q
      exact y_iret rfl rfl rfl H
set_option maxRecDepth 20000 in
/-- CodeMakerModel.readNumber from 0 on -/
theorem w280_0 (xs : List Int32) (d : Nat) (m : yM) (Q : Option Value → yM → Prop) (H : (yC (xg xs) d 274 [.ref 58, .int (m.1 58 5)] m (fun v1 m1 => ∃ u1, v1 = some (Value.int u1) ∧ (yC (xg xs) d 278 [.int u1] m1 (fun v2 m2 => ∃ u2, v2 = some (Value.int u2) ∧ ((¬ u2 = 0 → yP (xg xs) (d + 1) 280 26 [(0, .ref 58), (1, .int (m.1 58 5)), (2, .long (0 : Int64)), (4, .int (1 : Int32))] [.int (0 : Int32)] m2 Q) ∧ (u2 = 0 → yP (xg xs) (d + 1) 280 26 [(0, .ref 58), (1, .int (m.1 58 5)), (2, .long (0 : Int64)), (4, .int (1 : Int32))] [.int (1 : Int32)] m2 Q))))))) : yP (xg xs) (d + 1) 280 0 [(0, .ref 58)] [] m Q := by
  refine y_st rfl rfl rfl rfl rfl (fun _ _ => rfl) ?_
  refine y_gf rfl rfl rfl rfl rfl ?_
  refine y_st rfl rfl rfl rfl rfl (fun _ _ => rfl) ?_
  refine y_st rfl rfl rfl rfl rfl (fun _ _ => rfl) ?_
  refine y_st rfl rfl rfl rfl rfl (fun _ _ => rfl) ?_
  refine y_st rfl rfl rfl rfl rfl (fun _ _ => rfl) ?_
  refine y_st rfl rfl rfl rfl rfl (fun _ _ => rfl) ?_
  refine y_st rfl rfl rfl rfl rfl (fun _ _ => rfl) ?_
  refine y_st rfl rfl rfl rfl rfl (fun _ _ => rfl) ?_
  show yP (xg xs) (d + 1) 280 12 [(4, .int (1 : Int32)), (2, .long (0 : Int64)), (1, .int (m.1 58 5)), (0, .ref 58)] [.int (m.1 58 5), .ref 58] m Q
  refine y_call rfl rfl rfl rfl rfl (Nat.le_of_ble_eq_true rfl) (Nat.le_of_ble_eq_true rfl) rfl (by decide) H (fun v1 m1 H => ?_)
  obtain ⟨u1, rfl, H⟩ := H
  show yP (xg xs) (d + 1) 280 15 [(4, .int (1 : Int32)), (2, .long (0 : Int64)), (1, .int (m.1 58 5)), (0, .ref 58)] [.int u1] m1 Q
  refine y_call rfl rfl rfl rfl rfl (Nat.le_of_ble_eq_true rfl) (Nat.le_of_ble_eq_true rfl) rfl (by decide) H (fun v2 m2 H => ?_)
  obtain ⟨u2, rfl, H⟩ := H
  show yP (xg xs) (d + 1) 280 18 [(4, .int (1 : Int32)), (2, .long (0 : Int64)), (1, .int (m.1 58 5)), (0, .ref 58)] [.int u2] m2 Q
  refine y_zne (t := 25) rfl rfl rfl (fun h => ?_) (fun h => ?_)
  · replace H := H.1 h; clear h
    refine y_st rfl rfl rfl rfl rfl (fun _ _ => rfl) ?_
    show yP (xg xs) (d + 1) 280 26 [(4, .int (1 : Int32)), (2, .long (0 : Int64)), (1, .int (m.1 58 5)), (0, .ref 58)] [.int (0 : Int32)] m2 Q
    refine y_headS (l2 := [(0, .ref 58), (1, .int (m.1 58 5)), (2, .long (0 : Int64)), (4, .int (1 : Int32))]) [3, 2, 1, 0] [0, 1, 2, 4] [4, 2, 1, 0] rfl rfl (by decide) rfl (by decide) ?_
    exact H
  · replace H := H.2 h; clear h
    refine y_st rfl rfl rfl rfl rfl (fun _ _ => rfl) ?_
    refine y_st rfl rfl rfl rfl rfl (fun _ _ => rfl) ?_
    show yP (xg xs) (d + 1) 280 26 [(4, .int (1 : Int32)), (2, .long (0 : Int64)), (1, .int (m.1 58 5)), (0, .ref 58)] [.int (1 : Int32)] m2 Q
    refine y_headS (l2 := [(0, .ref 58), (1, .int (m.1 58 5)), (2, .long (0 : Int64)), (4, .int (1 : Int32))]) [3, 2, 1, 0] [0, 1, 2, 4] [4, 2, 1, 0] rfl rfl (by decide) rfl (by decide) ?_
    exact H
set_option maxRecDepth 20000 in
/-- CodeMakerModel.readNumber from 26 on -/
theorem w280_26 (xs : List Int32) (d : Nat) (l1 : Int32) (l2 : Int64) (l4 : Int32) (s0 : Int32) (m : yM) (Q : Option Value → yM → Prop) (H : ((s0 = 0 → yP (xg xs) (d + 1) 280 40 [(0, .ref 58), (2, .long l2), (4, .int l4), (5, .int s0)] [.int l1] m Q) ∧ (¬ s0 = 0 → yP (xg xs) (d + 1) 280 40 [(0, .ref 58), (2, .long l2), (4, .int l4), (5, .int s0)] [.int (l1 + (2 : Int32))] m Q))) : yP (xg xs) (d + 1) 280 26 [(0, .ref 58), (1, .int l1), (2, .long l2), (4, .int l4)] [.int s0] m Q := by
  refine y_st rfl rfl rfl rfl rfl (fun _ _ => rfl) ?_
  refine y_st rfl rfl rfl rfl rfl (fun _ _ => rfl) ?_
  show yP (xg xs) (d + 1) 280 30 [(5, .int s0), (0, .ref 58), (1, .int l1), (2, .long l2), (4, .int l4)] [.int s0] m Q
  refine y_zeq (t := 39) rfl rfl rfl (fun h => ?_) (fun h => ?_)
  · replace H := H.1 h; clear h
    refine y_st rfl rfl rfl rfl rfl (fun _ _ => rfl) ?_
    show yP (xg xs) (d + 1) 280 40 [(5, .int s0), (0, .ref 58), (1, .int l1), (2, .long l2), (4, .int l4)] [.int l1] m Q
    refine y_headS (l2 := [(0, .ref 58), (2, .long l2), (4, .int l4), (5, .int s0)]) [1, 3, 4, 0] [0, 2, 4, 5] [5, 0, 1, 2, 4] rfl rfl (by decide) rfl (by decide) ?_
    exact H
  · replace H := H.2 h; clear h
    refine y_st rfl rfl rfl rfl rfl (fun _ _ => rfl) ?_
    refine y_st rfl rfl rfl rfl rfl (fun _ _ => rfl) ?_
    refine y_st rfl rfl rfl rfl rfl (fun _ _ => rfl) ?_
    refine y_st rfl rfl rfl rfl rfl (fun _ _ => rfl) ?_
    show yP (xg xs) (d + 1) 280 40 [(5, .int s0), (0, .ref 58), (1, .int l1), (2, .long l2), (4, .int l4)] [.int (l1 + (2 : Int32))] m Q
    refine y_headS (l2 := [(0, .ref 58), (2, .long l2), (4, .int l4), (5, .int s0)]) [1, 3, 4, 0] [0, 2, 4, 5] [5, 0, 1, 2, 4] rfl rfl (by decide) rfl (by decide) ?_
    exact H
set_option maxRecDepth 20000 in
/-- CodeMakerModel.readNumber from 40 on -/
theorem w280_40 (xs : List Int32) (d : Nat) (l2 : Int64) (l4 : Int32) (l5 : Int32) (s0 : Int32) (m : yM) (Q : Option Value → yM → Prop) (H : yP (xg xs) (d + 1) 280 44 [(0, .ref 58), (1, .int s0), (2, .long l2), (4, .int l4), (5, .int l5), (6, .int s0)] [] m Q) : yP (xg xs) (d + 1) 280 40 [(0, .ref 58), (2, .long l2), (4, .int l4), (5, .int l5)] [.int s0] m Q := by
  refine y_st rfl rfl rfl rfl rfl (fun _ _ => rfl) ?_
  refine y_st rfl rfl rfl rfl rfl (fun _ _ => rfl) ?_
  refine y_st rfl rfl rfl rfl rfl (fun _ _ => rfl) ?_
  show yP (xg xs) (d + 1) 280 44 [(6, .int s0), (1, .int s0), (0, .ref 58), (2, .long l2), (4, .int l4), (5, .int l5)] [] m Q
  refine y_headS (l2 := [(0, .ref 58), (1, .int s0), (2, .long l2), (4, .int l4), (5, .int l5), (6, .int s0)]) [2, 1, 3, 4, 5, 0] [0, 1, 2, 4, 5, 6] [6, 1, 0, 2, 4, 5] rfl rfl (by decide) rfl (by decide) ?_
  exact H
set_option maxRecDepth 20000 in
/-- CodeMakerModel.readNumber from 44 on -/
theorem w280_44 (xs : List Int32) (d : Nat) (l1 : Int32) (l2 : Int64) (l4 : Int32) (l5 : Int32) (l6 : Int32) (m : yM) (Q : Option Value → yM → Prop) (H : (yC (xg xs) d 274 [.ref 58, .int l1] m (fun v1 m1 => ∃ u1, v1 = some (Value.int u1) ∧ (yC (xg xs) d 278 [.int u1] m1 (fun v2 m2 => ∃ u2, v2 = some (Value.int u2) ∧ ((u2 = 0 → ((l5 = 0 → (yC (xg xs) d 274 [.ref 58, .int l1] m2 (fun v3 m3 => ∃ u3, v3 = some (Value.int u3) ∧ ((¬ u3 = (35 : Int32) → yP (xg xs) (d + 1) 280 323 [(0, .ref 58), (1, .int l1), (2, .long l2), (4, .int l4)] [] m3 Q) ∧ (u3 = (35 : Int32) → ((¬ (lg_cmp l2 (16 : Int64)) = 0 → yP (xg xs) (d + 1) 280 238 [(0, .ref 58), (1, .int l1), (2, .long l2)] [.int (2 : Int32)] m3 Q) ∧ ((lg_cmp l2 (16 : Int64)) = 0 → yP (xg xs) (d + 1) 280 238 [(0, .ref 58), (1, .int l1), (2, .long l2)] [.int (16 : Int32)] m3 Q))))))) ∧ (¬ l5 = 0 → (yC (xg xs) d 274 [.ref 58, .int l1] m2 (fun v4 m4 => ∃ u4, v4 = some (Value.int u4) ∧ (yC (xg xs) d 279 [.int u4] m4 (fun v5 m5 => ∃ u5, v5 = some (Value.int u5) ∧ ((¬ u5 = (77 : Int32) → yP (xg xs) (d + 1) 280 117 [(0, .ref 58), (1, .int l1), (2, .long l2), (6, .int l6), (7, .int u5)] [] m5 Q) ∧ (u5 = (77 : Int32) → (yC (xg xs) d 274 [.ref 58, .int (l1 + (1 : Int32))] m5 (fun v6 m6 => ∃ u6, v6 = some (Value.int u6) ∧ (yC (xg xs) d 279 [.int u6] m6 (fun v7 m7 => ∃ u7, v7 = some (Value.int u7) ∧ ((¬ u7 = (83 : Int32) → yP (xg xs) (d + 1) 280 117 [(0, .ref 58), (1, .int l1), (2, .long l2), (6, .int l6), (7, .int u5)] [] m7 Q) ∧ (u7 = (83 : Int32) → yP (xg xs) (d + 1) 280 118 [(0, .ref 58), (1, .int l1), (2, .long l2), (6, .int l6), (7, .int u5)] [.int (1 : Int32)] m7 Q))))))))))))))) ∧ (¬ u2 = 0 → (yC (xg xs) d 274 [.ref 58, .int l1] m2 (fun v8 m8 => ∃ u8, v8 = some (Value.int u8) ∧ (yC (xg xs) d 281 [.long l2, .int (10 : Int32), .int (u8 - (48 : Int32))] m8 (fun v9 m9 => ∃ u9, v9 = some (Value.long u9) ∧ yP (xg xs) (d + 1) 280 44 [(0, .ref 58), (1, .int (l1 + (1 : Int32))), (2, .long u9), (4, .int l4), (5, .int l5), (6, .int l6)] [] m9 Q))))))))))) : yP (xg xs) (d + 1) 280 44 [(0, .ref 58), (1, .int l1), (2, .long l2), (4, .int l4), (5, .int l5), (6, .int l6)] [] m Q := by
  refine y_st rfl rfl rfl rfl rfl (fun _ _ => rfl) ?_
  refine y_st rfl rfl rfl rfl rfl (fun _ _ => rfl) ?_
  show yP (xg xs) (d + 1) 280 46 [(0, .ref 58), (1, .int l1), (2, .long l2), (4, .int l4), (5, .int l5), (6, .int l6)] [.int l1, .ref 58] m Q
  refine y_call rfl rfl rfl rfl rfl (Nat.le_of_ble_eq_true rfl) (Nat.le_of_ble_eq_true rfl) rfl (by decide) H (fun v1 m1 H => ?_)
  obtain ⟨u1, rfl, H⟩ := H
  show yP (xg xs) (d + 1) 280 49 [(0, .ref 58), (1, .int l1), (2, .long l2), (4, .int l4), (5, .int l5), (6, .int l6)] [.int u1] m1 Q
  refine y_call rfl rfl rfl rfl rfl (Nat.le_of_ble_eq_true rfl) (Nat.le_of_ble_eq_true rfl) rfl (by decide) H (fun v2 m2 H => ?_)
  obtain ⟨u2, rfl, H⟩ := H
  show yP (xg xs) (d + 1) 280 52 [(0, .ref 58), (1, .int l1), (2, .long l2), (4, .int l4), (5, .int l5), (6, .int l6)] [.int u2] m2 Q
  refine y_zeq (t := 76) rfl rfl rfl (fun h => ?_) (fun h => ?_)
  · replace H := H.1 h; clear h
    refine y_st rfl rfl rfl rfl rfl (fun _ _ => rfl) ?_
    show yP (xg xs) (d + 1) 280 78 [(0, .ref 58), (1, .int l1), (2, .long l2), (4, .int l4), (5, .int l5), (6, .int l6)] [.int l5] m2 Q
    refine y_zeq (t := 214) rfl rfl rfl (fun h => ?_) (fun h => ?_)
    · replace H := H.1 h; clear h
      refine y_st rfl rfl rfl rfl rfl (fun _ _ => rfl) ?_
      refine y_st rfl rfl rfl rfl rfl (fun _ _ => rfl) ?_
      show yP (xg xs) (d + 1) 280 216 [(0, .ref 58), (1, .int l1), (2, .long l2), (4, .int l4), (5, .int l5), (6, .int l6)] [.int l1, .ref 58] m2 Q
      refine y_call rfl rfl rfl rfl rfl (Nat.le_of_ble_eq_true rfl) (Nat.le_of_ble_eq_true rfl) rfl (by decide) H (fun v3 m3 H => ?_)
      obtain ⟨u3, rfl, H⟩ := H
      refine y_st rfl rfl rfl rfl rfl (fun _ _ => rfl) ?_
      show yP (xg xs) (d + 1) 280 221 [(0, .ref 58), (1, .int l1), (2, .long l2), (4, .int l4), (5, .int l5), (6, .int l6)] [.int (35 : Int32), .int u3] m3 Q
      refine y_ine (t := 323) rfl rfl rfl (fun h => ?_) (fun h => ?_)
      · replace H := H.1 h; clear h
        show yP (xg xs) (d + 1) 280 323 [(0, .ref 58), (1, .int l1), (2, .long l2), (4, .int l4), (5, .int l5), (6, .int l6)] [] m3 Q
        refine y_headS (l2 := [(0, .ref 58), (1, .int l1), (2, .long l2), (4, .int l4)]) [0, 1, 2, 3] [0, 1, 2, 4] [0, 1, 2, 4, 5, 6] rfl rfl (by decide) rfl (by decide) ?_
        exact H
      · replace H := H.2 h; clear h
        refine y_st rfl rfl rfl rfl rfl (fun _ _ => rfl) ?_
        refine y_st rfl rfl rfl rfl rfl (fun _ _ => rfl) ?_
        refine y_st rfl rfl rfl rfl rfl (fun _ _ => rfl) ?_
        show yP (xg xs) (d + 1) 280 229 [(0, .ref 58), (1, .int l1), (2, .long l2), (4, .int l4), (5, .int l5), (6, .int l6)] [.int (lg_cmp l2 (16 : Int64))] m3 Q
        refine y_zne (t := 237) rfl rfl rfl (fun h => ?_) (fun h => ?_)
        · replace H := H.1 h; clear h
          refine y_st rfl rfl rfl rfl rfl (fun _ _ => rfl) ?_
          show yP (xg xs) (d + 1) 280 238 [(0, .ref 58), (1, .int l1), (2, .long l2), (4, .int l4), (5, .int l5), (6, .int l6)] [.int (2 : Int32)] m3 Q
          refine y_headS (l2 := [(0, .ref 58), (1, .int l1), (2, .long l2)]) [0, 1, 2] [0, 1, 2] [0, 1, 2, 4, 5, 6] rfl rfl (by decide) rfl (by decide) ?_
          exact H
        · replace H := H.2 h; clear h
          refine y_st rfl rfl rfl rfl rfl (fun _ _ => rfl) ?_
          refine y_st rfl rfl rfl rfl rfl (fun _ _ => rfl) ?_
          show yP (xg xs) (d + 1) 280 238 [(0, .ref 58), (1, .int l1), (2, .long l2), (4, .int l4), (5, .int l5), (6, .int l6)] [.int (16 : Int32)] m3 Q
          refine y_headS (l2 := [(0, .ref 58), (1, .int l1), (2, .long l2)]) [0, 1, 2] [0, 1, 2] [0, 1, 2, 4, 5, 6] rfl rfl (by decide) rfl (by decide) ?_
          exact H
    · replace H := H.2 h; clear h
      refine y_st rfl rfl rfl rfl rfl (fun _ _ => rfl) ?_
      refine y_st rfl rfl rfl rfl rfl (fun _ _ => rfl) ?_
      show yP (xg xs) (d + 1) 280 83 [(0, .ref 58), (1, .int l1), (2, .long l2), (4, .int l4), (5, .int l5), (6, .int l6)] [.int l1, .ref 58] m2 Q
      refine y_call rfl rfl rfl rfl rfl (Nat.le_of_ble_eq_true rfl) (Nat.le_of_ble_eq_true rfl) rfl (by decide) H (fun v4 m4 H => ?_)
      obtain ⟨u4, rfl, H⟩ := H
      show yP (xg xs) (d + 1) 280 86 [(0, .ref 58), (1, .int l1), (2, .long l2), (4, .int l4), (5, .int l5), (6, .int l6)] [.int u4] m4 Q
      refine y_call rfl rfl rfl rfl rfl (Nat.le_of_ble_eq_true rfl) (Nat.le_of_ble_eq_true rfl) rfl (by decide) H (fun v5 m5 H => ?_)
      obtain ⟨u5, rfl, H⟩ := H
      refine y_st rfl rfl rfl rfl rfl (fun _ _ => rfl) ?_
      refine y_st rfl rfl rfl rfl rfl (fun _ _ => rfl) ?_
      refine y_st rfl rfl rfl rfl rfl (fun _ _ => rfl) ?_
      show yP (xg xs) (d + 1) 280 95 [(7, .int u5), (0, .ref 58), (1, .int l1), (2, .long l2), (4, .int l4), (5, .int l5), (6, .int l6)] [.int (77 : Int32), .int u5] m5 Q
      refine y_ine (t := 117) rfl rfl rfl (fun h => ?_) (fun h => ?_)
      · replace H := H.1 h; clear h
        show yP (xg xs) (d + 1) 280 117 [(7, .int u5), (0, .ref 58), (1, .int l1), (2, .long l2), (4, .int l4), (5, .int l5), (6, .int l6)] [] m5 Q
        refine y_headS (l2 := [(0, .ref 58), (1, .int l1), (2, .long l2), (6, .int l6), (7, .int u5)]) [1, 2, 3, 6, 0] [0, 1, 2, 6, 7] [7, 0, 1, 2, 4, 5, 6] rfl rfl (by decide) rfl (by decide) ?_
        exact H
      · replace H := H.2 h; clear h
        refine y_st rfl rfl rfl rfl rfl (fun _ _ => rfl) ?_
        refine y_st rfl rfl rfl rfl rfl (fun _ _ => rfl) ?_
        refine y_st rfl rfl rfl rfl rfl (fun _ _ => rfl) ?_
        refine y_st rfl rfl rfl rfl rfl (fun _ _ => rfl) ?_
        show yP (xg xs) (d + 1) 280 102 [(7, .int u5), (0, .ref 58), (1, .int l1), (2, .long l2), (4, .int l4), (5, .int l5), (6, .int l6)] [.int (l1 + (1 : Int32)), .ref 58] m5 Q
        refine y_call rfl rfl rfl rfl rfl (Nat.le_of_ble_eq_true rfl) (Nat.le_of_ble_eq_true rfl) rfl (by decide) H (fun v6 m6 H => ?_)
        obtain ⟨u6, rfl, H⟩ := H
        show yP (xg xs) (d + 1) 280 105 [(7, .int u5), (0, .ref 58), (1, .int l1), (2, .long l2), (4, .int l4), (5, .int l5), (6, .int l6)] [.int u6] m6 Q
        refine y_call rfl rfl rfl rfl rfl (Nat.le_of_ble_eq_true rfl) (Nat.le_of_ble_eq_true rfl) rfl (by decide) H (fun v7 m7 H => ?_)
        obtain ⟨u7, rfl, H⟩ := H
        refine y_st rfl rfl rfl rfl rfl (fun _ _ => rfl) ?_
        show yP (xg xs) (d + 1) 280 110 [(7, .int u5), (0, .ref 58), (1, .int l1), (2, .long l2), (4, .int l4), (5, .int l5), (6, .int l6)] [.int (83 : Int32), .int u7] m7 Q
        refine y_ine (t := 117) rfl rfl rfl (fun h => ?_) (fun h => ?_)
        · replace H := H.1 h; clear h
          show yP (xg xs) (d + 1) 280 117 [(7, .int u5), (0, .ref 58), (1, .int l1), (2, .long l2), (4, .int l4), (5, .int l5), (6, .int l6)] [] m7 Q
          refine y_headS (l2 := [(0, .ref 58), (1, .int l1), (2, .long l2), (6, .int l6), (7, .int u5)]) [1, 2, 3, 6, 0] [0, 1, 2, 6, 7] [7, 0, 1, 2, 4, 5, 6] rfl rfl (by decide) rfl (by decide) ?_
          exact H
        · replace H := H.2 h; clear h
          refine y_st rfl rfl rfl rfl rfl (fun _ _ => rfl) ?_
          refine y_st rfl rfl rfl rfl rfl (fun _ _ => rfl) ?_
          show yP (xg xs) (d + 1) 280 118 [(7, .int u5), (0, .ref 58), (1, .int l1), (2, .long l2), (4, .int l4), (5, .int l5), (6, .int l6)] [.int (1 : Int32)] m7 Q
          refine y_headS (l2 := [(0, .ref 58), (1, .int l1), (2, .long l2), (6, .int l6), (7, .int u5)]) [1, 2, 3, 6, 0] [0, 1, 2, 6, 7] [7, 0, 1, 2, 4, 5, 6] rfl rfl (by decide) rfl (by decide) ?_
          exact H
  · replace H := H.2 h; clear h
    refine y_st rfl rfl rfl rfl rfl (fun _ _ => rfl) ?_
    refine y_st rfl rfl rfl rfl rfl (fun _ _ => rfl) ?_
    refine y_st rfl rfl rfl rfl rfl (fun _ _ => rfl) ?_
    refine y_st rfl rfl rfl rfl rfl (fun _ _ => rfl) ?_
    show yP (xg xs) (d + 1) 280 60 [(0, .ref 58), (1, .int l1), (2, .long l2), (4, .int l4), (5, .int l5), (6, .int l6)] [.int l1, .ref 58, .int (10 : Int32), .long l2] m2 Q
    refine y_call rfl rfl rfl rfl rfl (Nat.le_of_ble_eq_true rfl) (Nat.le_of_ble_eq_true rfl) rfl (by decide) H (fun v8 m8 H => ?_)
    obtain ⟨u8, rfl, H⟩ := H
    refine y_st rfl rfl rfl rfl rfl (fun _ _ => rfl) ?_
    refine y_st rfl rfl rfl rfl rfl (fun _ _ => rfl) ?_
    show yP (xg xs) (d + 1) 280 66 [(0, .ref 58), (1, .int l1), (2, .long l2), (4, .int l4), (5, .int l5), (6, .int l6)] [.int (u8 - (48 : Int32)), .int (10 : Int32), .long l2] m8 Q
    refine y_call rfl rfl rfl rfl rfl (Nat.le_of_ble_eq_true rfl) (Nat.le_of_ble_eq_true rfl) rfl (by decide) H (fun v9 m9 H => ?_)
    obtain ⟨u9, rfl, H⟩ := H
    refine y_st rfl rfl rfl rfl rfl (fun _ _ => rfl) ?_
    refine y_st rfl rfl rfl rfl rfl (fun _ _ => rfl) ?_
    refine y_st rfl rfl rfl rfl rfl (fun _ _ => rfl) ?_
    show yP (xg xs) (d + 1) 280 44 [(1, .int (l1 + (1 : Int32))), (2, .long u9), (0, .ref 58), (4, .int l4), (5, .int l5), (6, .int l6)] [] m9 Q
    refine y_headS (l2 := [(0, .ref 58), (1, .int (l1 + (1 : Int32))), (2, .long u9), (4, .int l4), (5, .int l5), (6, .int l6)]) [2, 0, 1, 3, 4, 5] [0, 1, 2, 4, 5, 6] [1, 2, 0, 4, 5, 6] rfl rfl (by decide) rfl (by decide) ?_
    exact H
set_option maxRecDepth 20000 in
/-- CodeMakerModel.readNumber from 117 on -/
theorem w280_117 (xs : List Int32) (d : Nat) (l1 : Int32) (l2 : Int64) (l6 : Int32) (l7 : Int32) (m : yM) (Q : Option Value → yM → Prop) (H : yP (xg xs) (d + 1) 280 118 [(0, .ref 58), (1, .int l1), (2, .long l2), (6, .int l6), (7, .int l7)] [.int (0 : Int32)] m Q) : yP (xg xs) (d + 1) 280 117 [(0, .ref 58), (1, .int l1), (2, .long l2), (6, .int l6), (7, .int l7)] [] m Q := by
  refine y_st rfl rfl rfl rfl rfl (fun _ _ => rfl) ?_
  show yP (xg xs) (d + 1) 280 118 [(0, .ref 58), (1, .int l1), (2, .long l2), (6, .int l6), (7, .int l7)] [.int (0 : Int32)] m Q
  exact H
set_option maxRecDepth 20000 in
/-- CodeMakerModel.readNumber from 118 on -/
theorem w280_118 (xs : List Int32) (d : Nat) (l1 : Int32) (l2 : Int64) (l6 : Int32) (l7 : Int32) (s0 : Int32) (m : yM) (Q : Option Value → yM → Prop) (H : ((s0 = 0 → ((¬ l7 = (83 : Int32) → ((¬ l7 = (77 : Int32) → ((¬ l7 = (72 : Int32) → yP (xg xs) (d + 1) 280 169 [(0, .ref 58), (1, .int l1), (2, .long l2), (6, .int l6), (8, .int s0)] [.long (0 : Int64)] m Q) ∧ (l7 = (72 : Int32) → yP (xg xs) (d + 1) 280 169 [(0, .ref 58), (1, .int l1), (2, .long l2), (6, .int l6), (8, .int s0)] [.long (3600000 : Int64)] m Q))) ∧ (l7 = (77 : Int32) → yP (xg xs) (d + 1) 280 169 [(0, .ref 58), (1, .int l1), (2, .long l2), (6, .int l6), (8, .int s0)] [.long (60000 : Int64)] m Q))) ∧ (l7 = (83 : Int32) → yP (xg xs) (d + 1) 280 169 [(0, .ref 58), (1, .int l1), (2, .long l2), (6, .int l6), (8, .int s0)] [.long (1000 : Int64)] m Q))) ∧ (¬ s0 = 0 → yP (xg xs) (d + 1) 280 169 [(0, .ref 58), (1, .int l1), (2, .long l2), (6, .int l6), (8, .int s0)] [.long (1 : Int64)] m Q))) : yP (xg xs) (d + 1) 280 118 [(0, .ref 58), (1, .int l1), (2, .long l2), (6, .int l6), (7, .int l7)] [.int s0] m Q := by
  refine y_st rfl rfl rfl rfl rfl (fun _ _ => rfl) ?_
  refine y_st rfl rfl rfl rfl rfl (fun _ _ => rfl) ?_
  show yP (xg xs) (d + 1) 280 122 [(8, .int s0), (0, .ref 58), (1, .int l1), (2, .long l2), (6, .int l6), (7, .int l7)] [.int s0] m Q
  refine y_zeq (t := 129) rfl rfl rfl (fun h => ?_) (fun h => ?_)
  · replace H := H.1 h; clear h
    refine y_st rfl rfl rfl rfl rfl (fun _ _ => rfl) ?_
    refine y_st rfl rfl rfl rfl rfl (fun _ _ => rfl) ?_
    show yP (xg xs) (d + 1) 280 133 [(8, .int s0), (0, .ref 58), (1, .int l1), (2, .long l2), (6, .int l6), (7, .int l7)] [.int (83 : Int32), .int l7] m Q
    refine y_ine (t := 142) rfl rfl rfl (fun h => ?_) (fun h => ?_)
    · replace H := H.1 h; clear h
      refine y_st rfl rfl rfl rfl rfl (fun _ _ => rfl) ?_
      refine y_st rfl rfl rfl rfl rfl (fun _ _ => rfl) ?_
      show yP (xg xs) (d + 1) 280 146 [(8, .int s0), (0, .ref 58), (1, .int l1), (2, .long l2), (6, .int l6), (7, .int l7)] [.int (77 : Int32), .int l7] m Q
      refine y_ine (t := 155) rfl rfl rfl (fun h => ?_) (fun h => ?_)
      · replace H := H.1 h; clear h
        refine y_st rfl rfl rfl rfl rfl (fun _ _ => rfl) ?_
        refine y_st rfl rfl rfl rfl rfl (fun _ _ => rfl) ?_
        show yP (xg xs) (d + 1) 280 159 [(8, .int s0), (0, .ref 58), (1, .int l1), (2, .long l2), (6, .int l6), (7, .int l7)] [.int (72 : Int32), .int l7] m Q
        refine y_ine (t := 168) rfl rfl rfl (fun h => ?_) (fun h => ?_)
        · replace H := H.1 h; clear h
          refine y_st rfl rfl rfl rfl rfl (fun _ _ => rfl) ?_
          show yP (xg xs) (d + 1) 280 169 [(8, .int s0), (0, .ref 58), (1, .int l1), (2, .long l2), (6, .int l6), (7, .int l7)] [.long (0 : Int64)] m Q
          refine y_headS (l2 := [(0, .ref 58), (1, .int l1), (2, .long l2), (6, .int l6), (8, .int s0)]) [1, 2, 3, 4, 0] [0, 1, 2, 6, 8] [8, 0, 1, 2, 6, 7] rfl rfl (by decide) rfl (by decide) ?_
          exact H
        · replace H := H.2 h; clear h
          refine y_st rfl rfl rfl rfl rfl (fun _ _ => rfl) ?_
          refine y_st rfl rfl rfl rfl rfl (fun _ _ => rfl) ?_
          show yP (xg xs) (d + 1) 280 169 [(8, .int s0), (0, .ref 58), (1, .int l1), (2, .long l2), (6, .int l6), (7, .int l7)] [.long (3600000 : Int64)] m Q
          refine y_headS (l2 := [(0, .ref 58), (1, .int l1), (2, .long l2), (6, .int l6), (8, .int s0)]) [1, 2, 3, 4, 0] [0, 1, 2, 6, 8] [8, 0, 1, 2, 6, 7] rfl rfl (by decide) rfl (by decide) ?_
          exact H
      · replace H := H.2 h; clear h
        refine y_st rfl rfl rfl rfl rfl (fun _ _ => rfl) ?_
        refine y_st rfl rfl rfl rfl rfl (fun _ _ => rfl) ?_
        show yP (xg xs) (d + 1) 280 169 [(8, .int s0), (0, .ref 58), (1, .int l1), (2, .long l2), (6, .int l6), (7, .int l7)] [.long (60000 : Int64)] m Q
        refine y_headS (l2 := [(0, .ref 58), (1, .int l1), (2, .long l2), (6, .int l6), (8, .int s0)]) [1, 2, 3, 4, 0] [0, 1, 2, 6, 8] [8, 0, 1, 2, 6, 7] rfl rfl (by decide) rfl (by decide) ?_
        exact H
    · replace H := H.2 h; clear h
      refine y_st rfl rfl rfl rfl rfl (fun _ _ => rfl) ?_
      refine y_st rfl rfl rfl rfl rfl (fun _ _ => rfl) ?_
      show yP (xg xs) (d + 1) 280 169 [(8, .int s0), (0, .ref 58), (1, .int l1), (2, .long l2), (6, .int l6), (7, .int l7)] [.long (1000 : Int64)] m Q
      refine y_headS (l2 := [(0, .ref 58), (1, .int l1), (2, .long l2), (6, .int l6), (8, .int s0)]) [1, 2, 3, 4, 0] [0, 1, 2, 6, 8] [8, 0, 1, 2, 6, 7] rfl rfl (by decide) rfl (by decide) ?_
      exact H
  · replace H := H.2 h; clear h
    refine y_st rfl rfl rfl rfl rfl (fun _ _ => rfl) ?_
    refine y_st rfl rfl rfl rfl rfl (fun _ _ => rfl) ?_
    show yP (xg xs) (d + 1) 280 169 [(8, .int s0), (0, .ref 58), (1, .int l1), (2, .long l2), (6, .int l6), (7, .int l7)] [.long (1 : Int64)] m Q
    refine y_headS (l2 := [(0, .ref 58), (1, .int l1), (2, .long l2), (6, .int l6), (8, .int s0)]) [1, 2, 3, 4, 0] [0, 1, 2, 6, 8] [8, 0, 1, 2, 6, 7] rfl rfl (by decide) rfl (by decide) ?_
    exact H
set_option maxRecDepth 20000 in
/-- CodeMakerModel.readNumber from 169 on -/
theorem w280_169 (xs : List Int32) (d : Nat) (l1 : Int32) (l2 : Int64) (l6 : Int32) (l8 : Int32) (s0 : Int64) (m : yM) (Q : Option Value → yM → Prop) (H : ((l1 ≤ l6 → yP (xg xs) (d + 1) 280 188 [(0, .ref 58), (1, .int l1), (2, .long l2), (8, .int l8), (9, .long s0)] [] m Q) ∧ (¬ l1 ≤ l6 → (((lg_cmp s0 (0 : Int64)) ≤ 0 → yP (xg xs) (d + 1) 280 188 [(0, .ref 58), (1, .int l1), (2, .long l2), (8, .int l8), (9, .long s0)] [] m Q) ∧ (¬ (lg_cmp s0 (0 : Int64)) ≤ 0 → yP (xg xs) (d + 1) 280 189 [(0, .ref 58), (1, .int l1), (2, .long l2), (8, .int l8), (9, .long s0)] [.int (1 : Int32)] m Q))))) : yP (xg xs) (d + 1) 280 169 [(0, .ref 58), (1, .int l1), (2, .long l2), (6, .int l6), (8, .int l8)] [.long s0] m Q := by
  refine y_st rfl rfl rfl rfl rfl (fun _ _ => rfl) ?_
  refine y_st rfl rfl rfl rfl rfl (fun _ _ => rfl) ?_
  refine y_st rfl rfl rfl rfl rfl (fun _ _ => rfl) ?_
  show yP (xg xs) (d + 1) 280 174 [(9, .long s0), (0, .ref 58), (1, .int l1), (2, .long l2), (6, .int l6), (8, .int l8)] [.int l6, .int l1] m Q
  refine y_ile (t := 188) rfl rfl rfl (fun h => ?_) (fun h => ?_)
  · replace H := H.1 h; clear h
    show yP (xg xs) (d + 1) 280 188 [(9, .long s0), (0, .ref 58), (1, .int l1), (2, .long l2), (6, .int l6), (8, .int l8)] [] m Q
    refine y_headS (l2 := [(0, .ref 58), (1, .int l1), (2, .long l2), (8, .int l8), (9, .long s0)]) [1, 2, 3, 5, 0] [0, 1, 2, 8, 9] [9, 0, 1, 2, 6, 8] rfl rfl (by decide) rfl (by decide) ?_
    exact H
  · replace H := H.2 h; clear h
    refine y_st rfl rfl rfl rfl rfl (fun _ _ => rfl) ?_
    refine y_st rfl rfl rfl rfl rfl (fun _ _ => rfl) ?_
    refine y_st rfl rfl rfl rfl rfl (fun _ _ => rfl) ?_
    show yP (xg xs) (d + 1) 280 181 [(9, .long s0), (0, .ref 58), (1, .int l1), (2, .long l2), (6, .int l6), (8, .int l8)] [.int (lg_cmp s0 (0 : Int64))] m Q
    refine y_zle (t := 188) rfl rfl rfl (fun h => ?_) (fun h => ?_)
    · replace H := H.1 h; clear h
      show yP (xg xs) (d + 1) 280 188 [(9, .long s0), (0, .ref 58), (1, .int l1), (2, .long l2), (6, .int l6), (8, .int l8)] [] m Q
      refine y_headS (l2 := [(0, .ref 58), (1, .int l1), (2, .long l2), (8, .int l8), (9, .long s0)]) [1, 2, 3, 5, 0] [0, 1, 2, 8, 9] [9, 0, 1, 2, 6, 8] rfl rfl (by decide) rfl (by decide) ?_
      exact H
    · replace H := H.2 h; clear h
      refine y_st rfl rfl rfl rfl rfl (fun _ _ => rfl) ?_
      refine y_st rfl rfl rfl rfl rfl (fun _ _ => rfl) ?_
      show yP (xg xs) (d + 1) 280 189 [(9, .long s0), (0, .ref 58), (1, .int l1), (2, .long l2), (6, .int l6), (8, .int l8)] [.int (1 : Int32)] m Q
      refine y_headS (l2 := [(0, .ref 58), (1, .int l1), (2, .long l2), (8, .int l8), (9, .long s0)]) [1, 2, 3, 5, 0] [0, 1, 2, 8, 9] [9, 0, 1, 2, 6, 8] rfl rfl (by decide) rfl (by decide) ?_
      exact H
set_option maxRecDepth 20000 in
/-- CodeMakerModel.readNumber from 188 on -/
theorem w280_188 (xs : List Int32) (d : Nat) (l1 : Int32) (l2 : Int64) (l8 : Int32) (l9 : Int64) (m : yM) (Q : Option Value → yM → Prop) (H : yP (xg xs) (d + 1) 280 189 [(0, .ref 58), (1, .int l1), (2, .long l2), (8, .int l8), (9, .long l9)] [.int (0 : Int32)] m Q) : yP (xg xs) (d + 1) 280 188 [(0, .ref 58), (1, .int l1), (2, .long l2), (8, .int l8), (9, .long l9)] [] m Q := by
  refine y_st rfl rfl rfl rfl rfl (fun _ _ => rfl) ?_
  show yP (xg xs) (d + 1) 280 189 [(0, .ref 58), (1, .int l1), (2, .long l2), (8, .int l8), (9, .long l9)] [.int (0 : Int32)] m Q
  exact H
set_option maxRecDepth 20000 in
/-- CodeMakerModel.readNumber from 189 on -/
theorem w280_189 (xs : List Int32) (d : Nat) (l1 : Int32) (l2 : Int64) (l8 : Int32) (l9 : Int64) (s0 : Int32) (m : yM) (Q : Option Value → yM → Prop) (H : ((l8 = 0 → yP (xg xs) (d + 1) 280 210 [(0, .ref 58), (2, .long (l2 * l9)), (4, .int s0)] [.int (l1 + (1 : Int32))] m Q) ∧ (¬ l8 = 0 → yP (xg xs) (d + 1) 280 210 [(0, .ref 58), (2, .long (l2 * l9)), (4, .int s0)] [.int (l1 + (2 : Int32))] m Q))) : yP (xg xs) (d + 1) 280 189 [(0, .ref 58), (1, .int l1), (2, .long l2), (8, .int l8), (9, .long l9)] [.int s0] m Q := by
  refine y_st rfl rfl rfl rfl rfl (fun _ _ => rfl) ?_
  refine y_st rfl rfl rfl rfl rfl (fun _ _ => rfl) ?_
  refine y_st rfl rfl rfl rfl rfl (fun _ _ => rfl) ?_
  refine y_st rfl rfl rfl rfl rfl (fun _ _ => rfl) ?_
  refine y_st rfl rfl rfl rfl rfl (fun _ _ => rfl) ?_
  refine y_st rfl rfl rfl rfl rfl (fun _ _ => rfl) ?_
  show yP (xg xs) (d + 1) 280 198 [(2, .long (l2 * l9)), (4, .int s0), (0, .ref 58), (1, .int l1), (8, .int l8), (9, .long l9)] [.int l8] m Q
  refine y_zeq (t := 207) rfl rfl rfl (fun h => ?_) (fun h => ?_)
  · replace H := H.1 h; clear h
    refine y_st rfl rfl rfl rfl rfl (fun _ _ => rfl) ?_
    refine y_st rfl rfl rfl rfl rfl (fun _ _ => rfl) ?_
    refine y_st rfl rfl rfl rfl rfl (fun _ _ => rfl) ?_
    show yP (xg xs) (d + 1) 280 210 [(2, .long (l2 * l9)), (4, .int s0), (0, .ref 58), (1, .int l1), (8, .int l8), (9, .long l9)] [.int (l1 + (1 : Int32))] m Q
    refine y_headS (l2 := [(0, .ref 58), (2, .long (l2 * l9)), (4, .int s0)]) [2, 0, 1] [0, 2, 4] [2, 4, 0, 1, 8, 9] rfl rfl (by decide) rfl (by decide) ?_
    exact H
  · replace H := H.2 h; clear h
    refine y_st rfl rfl rfl rfl rfl (fun _ _ => rfl) ?_
    refine y_st rfl rfl rfl rfl rfl (fun _ _ => rfl) ?_
    refine y_st rfl rfl rfl rfl rfl (fun _ _ => rfl) ?_
    refine y_st rfl rfl rfl rfl rfl (fun _ _ => rfl) ?_
    show yP (xg xs) (d + 1) 280 210 [(2, .long (l2 * l9)), (4, .int s0), (0, .ref 58), (1, .int l1), (8, .int l8), (9, .long l9)] [.int (l1 + (2 : Int32))] m Q
    refine y_headS (l2 := [(0, .ref 58), (2, .long (l2 * l9)), (4, .int s0)]) [2, 0, 1] [0, 2, 4] [2, 4, 0, 1, 8, 9] rfl rfl (by decide) rfl (by decide) ?_
    exact H
set_option maxRecDepth 20000 in
/-- CodeMakerModel.readNumber from 210 on -/
theorem w280_210 (xs : List Int32) (d : Nat) (l2 : Int64) (l4 : Int32) (s0 : Int32) (m : yM) (Q : Option Value → yM → Prop) (H : yP (xg xs) (d + 1) 280 323 [(0, .ref 58), (1, .int s0), (2, .long l2), (4, .int l4)] [] m Q) : yP (xg xs) (d + 1) 280 210 [(0, .ref 58), (2, .long l2), (4, .int l4)] [.int s0] m Q := by
  refine y_st rfl rfl rfl rfl rfl (fun _ _ => rfl) ?_
  refine y_st rfl rfl rfl rfl rfl (fun _ _ => rfl) ?_
  show yP (xg xs) (d + 1) 280 323 [(1, .int s0), (0, .ref 58), (2, .long l2), (4, .int l4)] [] m Q
  refine y_headS (l2 := [(0, .ref 58), (1, .int s0), (2, .long l2), (4, .int l4)]) [1, 0, 2, 3] [0, 1, 2, 4] [1, 0, 2, 4] rfl rfl (by decide) rfl (by decide) ?_
  exact H
set_option maxRecDepth 20000 in
/-- CodeMakerModel.readNumber from 238 on -/
theorem w280_238 (xs : List Int32) (d : Nat) (l1 : Int32) (l2 : Int64) (s0 : Int32) (m : yM) (Q : Option Value → yM → Prop) (H : (((lg_cmp l2 (16 : Int64)) = 0 → yP (xg xs) (d + 1) 280 256 [(0, .ref 58), (1, .int l1), (7, .int s0)] [] m Q) ∧ (¬ (lg_cmp l2 (16 : Int64)) = 0 → ((¬ (lg_cmp l2 (2 : Int64)) = 0 → yP (xg xs) (d + 1) 280 261 [(0, .ref 58), (1, .int l1), (7, .int s0)] [.int (0 : Int32)] m Q) ∧ ((lg_cmp l2 (2 : Int64)) = 0 → yP (xg xs) (d + 1) 280 256 [(0, .ref 58), (1, .int l1), (7, .int s0)] [] m Q))))) : yP (xg xs) (d + 1) 280 238 [(0, .ref 58), (1, .int l1), (2, .long l2)] [.int s0] m Q := by
  refine y_st rfl rfl rfl rfl rfl (fun _ _ => rfl) ?_
  refine y_st rfl rfl rfl rfl rfl (fun _ _ => rfl) ?_
  refine y_st rfl rfl rfl rfl rfl (fun _ _ => rfl) ?_
  refine y_st rfl rfl rfl rfl rfl (fun _ _ => rfl) ?_
  show yP (xg xs) (d + 1) 280 245 [(7, .int s0), (0, .ref 58), (1, .int l1), (2, .long l2)] [.int (lg_cmp l2 (16 : Int64))] m Q
  refine y_zeq (t := 256) rfl rfl rfl (fun h => ?_) (fun h => ?_)
  · replace H := H.1 h; clear h
    show yP (xg xs) (d + 1) 280 256 [(7, .int s0), (0, .ref 58), (1, .int l1), (2, .long l2)] [] m Q
    refine y_headS (l2 := [(0, .ref 58), (1, .int l1), (7, .int s0)]) [1, 2, 0] [0, 1, 7] [7, 0, 1, 2] rfl rfl (by decide) rfl (by decide) ?_
    exact H
  · replace H := H.2 h; clear h
    refine y_st rfl rfl rfl rfl rfl (fun _ _ => rfl) ?_
    refine y_st rfl rfl rfl rfl rfl (fun _ _ => rfl) ?_
    refine y_st rfl rfl rfl rfl rfl (fun _ _ => rfl) ?_
    show yP (xg xs) (d + 1) 280 253 [(7, .int s0), (0, .ref 58), (1, .int l1), (2, .long l2)] [.int (lg_cmp l2 (2 : Int64))] m Q
    refine y_zne (t := 260) rfl rfl rfl (fun h => ?_) (fun h => ?_)
    · replace H := H.1 h; clear h
      refine y_st rfl rfl rfl rfl rfl (fun _ _ => rfl) ?_
      show yP (xg xs) (d + 1) 280 261 [(7, .int s0), (0, .ref 58), (1, .int l1), (2, .long l2)] [.int (0 : Int32)] m Q
      refine y_headS (l2 := [(0, .ref 58), (1, .int l1), (7, .int s0)]) [1, 2, 0] [0, 1, 7] [7, 0, 1, 2] rfl rfl (by decide) rfl (by decide) ?_
      exact H
    · replace H := H.2 h; clear h
      show yP (xg xs) (d + 1) 280 256 [(7, .int s0), (0, .ref 58), (1, .int l1), (2, .long l2)] [] m Q
      refine y_headS (l2 := [(0, .ref 58), (1, .int l1), (7, .int s0)]) [1, 2, 0] [0, 1, 7] [7, 0, 1, 2] rfl rfl (by decide) rfl (by decide) ?_
      exact H
set_option maxRecDepth 20000 in
/-- CodeMakerModel.readNumber from 256 on -/
theorem w280_256 (xs : List Int32) (d : Nat) (l1 : Int32) (l7 : Int32) (m : yM) (Q : Option Value → yM → Prop) (H : yP (xg xs) (d + 1) 280 261 [(0, .ref 58), (1, .int l1), (7, .int l7)] [.int (1 : Int32)] m Q) : yP (xg xs) (d + 1) 280 256 [(0, .ref 58), (1, .int l1), (7, .int l7)] [] m Q := by
  refine y_st rfl rfl rfl rfl rfl (fun _ _ => rfl) ?_
  refine y_st rfl rfl rfl rfl rfl (fun _ _ => rfl) ?_
  show yP (xg xs) (d + 1) 280 261 [(0, .ref 58), (1, .int l1), (7, .int l7)] [.int (1 : Int32)] m Q
  exact H
set_option maxRecDepth 20000 in
/-- CodeMakerModel.readNumber from 261 on -/
theorem w280_261 (xs : List Int32) (d : Nat) (l1 : Int32) (l7 : Int32) (s0 : Int32) (m : yM) (Q : Option Value → yM → Prop) (H : yP (xg xs) (d + 1) 280 271 [(0, .ref 58), (1, .int (l1 + (1 : Int32))), (2, .long (0 : Int64)), (4, .int s0), (6, .int (l1 + (1 : Int32))), (7, .int l7)] [] m Q) : yP (xg xs) (d + 1) 280 261 [(0, .ref 58), (1, .int l1), (7, .int l7)] [.int s0] m Q := by
  refine y_st rfl rfl rfl rfl rfl (fun _ _ => rfl) ?_
  refine y_st rfl rfl rfl rfl rfl (fun _ _ => rfl) ?_
  refine y_st rfl rfl rfl rfl rfl (fun _ _ => rfl) ?_
  refine y_st rfl rfl rfl rfl rfl (fun _ _ => rfl) ?_
  refine y_st rfl rfl rfl rfl rfl (fun _ _ => rfl) ?_
  refine y_st rfl rfl rfl rfl rfl (fun _ _ => rfl) ?_
  show yP (xg xs) (d + 1) 280 271 [(2, .long (0 : Int64)), (6, .int (l1 + (1 : Int32))), (1, .int (l1 + (1 : Int32))), (4, .int s0), (0, .ref 58), (7, .int l7)] [] m Q
  refine y_headS (l2 := [(0, .ref 58), (1, .int (l1 + (1 : Int32))), (2, .long (0 : Int64)), (4, .int s0), (6, .int (l1 + (1 : Int32))), (7, .int l7)]) [4, 2, 0, 3, 1, 5] [0, 1, 2, 4, 6, 7] [2, 6, 1, 4, 0, 7] rfl rfl (by decide) rfl (by decide) ?_
  exact H
set_option maxRecDepth 20000 in
/-- CodeMakerModel.readNumber from 271 on -/
theorem w280_271 (xs : List Int32) (d : Nat) (l1 : Int32) (l2 : Int64) (l4 : Int32) (l6 : Int32) (l7 : Int32) (m : yM) (Q : Option Value → yM → Prop) (H : (yC (xg xs) d 274 [.ref 58, .int l1] m (fun v1 m1 => ∃ u1, v1 = some (Value.int u1) ∧ (yC (xg xs) d 282 [.int u1] m1 (fun v2 m2 => ∃ u2, v2 = some (Value.int u2) ∧ ((l7 ≤ u2 → ((l4 = 0 → yP (xg xs) (d + 1) 280 320 [(0, .ref 58), (1, .int l1), (2, .long l2)] [] m2 Q) ∧ (¬ l4 = 0 → ((l1 ≤ l6 → yP (xg xs) (d + 1) 280 320 [(0, .ref 58), (1, .int l1), (2, .long l2)] [] m2 Q) ∧ (¬ l1 ≤ l6 → yP (xg xs) (d + 1) 280 321 [(0, .ref 58), (1, .int l1), (2, .long l2)] [.int (1 : Int32)] m2 Q))))) ∧ (¬ l7 ≤ u2 → (yC (xg xs) d 274 [.ref 58, .int l1] m2 (fun v3 m3 => ∃ u3, v3 = some (Value.int u3) ∧ (yC (xg xs) d 282 [.int u3] m3 (fun v4 m4 => ∃ u4, v4 = some (Value.int u4) ∧ (yC (xg xs) d 281 [.long l2, .int l7, .int u4] m4 (fun v5 m5 => ∃ u5, v5 = some (Value.long u5) ∧ yP (xg xs) (d + 1) 280 271 [(0, .ref 58), (1, .int (l1 + (1 : Int32))), (2, .long u5), (4, .int l4), (6, .int l6), (7, .int l7)] [] m5 Q))))))))))))) : yP (xg xs) (d + 1) 280 271 [(0, .ref 58), (1, .int l1), (2, .long l2), (4, .int l4), (6, .int l6), (7, .int l7)] [] m Q := by
  refine y_st rfl rfl rfl rfl rfl (fun _ _ => rfl) ?_
  refine y_st rfl rfl rfl rfl rfl (fun _ _ => rfl) ?_
  show yP (xg xs) (d + 1) 280 273 [(0, .ref 58), (1, .int l1), (2, .long l2), (4, .int l4), (6, .int l6), (7, .int l7)] [.int l1, .ref 58] m Q
  refine y_call rfl rfl rfl rfl rfl (Nat.le_of_ble_eq_true rfl) (Nat.le_of_ble_eq_true rfl) rfl (by decide) H (fun v1 m1 H => ?_)
  obtain ⟨u1, rfl, H⟩ := H
  show yP (xg xs) (d + 1) 280 276 [(0, .ref 58), (1, .int l1), (2, .long l2), (4, .int l4), (6, .int l6), (7, .int l7)] [.int u1] m1 Q
  refine y_call rfl rfl rfl rfl rfl (Nat.le_of_ble_eq_true rfl) (Nat.le_of_ble_eq_true rfl) rfl (by decide) H (fun v2 m2 H => ?_)
  obtain ⟨u2, rfl, H⟩ := H
  refine y_st rfl rfl rfl rfl rfl (fun _ _ => rfl) ?_
  show yP (xg xs) (d + 1) 280 281 [(0, .ref 58), (1, .int l1), (2, .long l2), (4, .int l4), (6, .int l6), (7, .int l7)] [.int l7, .int u2] m2 Q
  refine y_ige (t := 305) rfl rfl rfl (fun h => ?_) (fun h => ?_)
  · replace H := H.1 h; clear h
    refine y_st rfl rfl rfl rfl rfl (fun _ _ => rfl) ?_
    show yP (xg xs) (d + 1) 280 307 [(0, .ref 58), (1, .int l1), (2, .long l2), (4, .int l4), (6, .int l6), (7, .int l7)] [.int l4] m2 Q
    refine y_zeq (t := 320) rfl rfl rfl (fun h => ?_) (fun h => ?_)
    · replace H := H.1 h; clear h
      show yP (xg xs) (d + 1) 280 320 [(0, .ref 58), (1, .int l1), (2, .long l2), (4, .int l4), (6, .int l6), (7, .int l7)] [] m2 Q
      refine y_headS (l2 := [(0, .ref 58), (1, .int l1), (2, .long l2)]) [0, 1, 2] [0, 1, 2] [0, 1, 2, 4, 6, 7] rfl rfl (by decide) rfl (by decide) ?_
      exact H
    · replace H := H.2 h; clear h
      refine y_st rfl rfl rfl rfl rfl (fun _ _ => rfl) ?_
      refine y_st rfl rfl rfl rfl rfl (fun _ _ => rfl) ?_
      show yP (xg xs) (d + 1) 280 313 [(0, .ref 58), (1, .int l1), (2, .long l2), (4, .int l4), (6, .int l6), (7, .int l7)] [.int l6, .int l1] m2 Q
      refine y_ile (t := 320) rfl rfl rfl (fun h => ?_) (fun h => ?_)
      · replace H := H.1 h; clear h
        show yP (xg xs) (d + 1) 280 320 [(0, .ref 58), (1, .int l1), (2, .long l2), (4, .int l4), (6, .int l6), (7, .int l7)] [] m2 Q
        refine y_headS (l2 := [(0, .ref 58), (1, .int l1), (2, .long l2)]) [0, 1, 2] [0, 1, 2] [0, 1, 2, 4, 6, 7] rfl rfl (by decide) rfl (by decide) ?_
        exact H
      · replace H := H.2 h; clear h
        refine y_st rfl rfl rfl rfl rfl (fun _ _ => rfl) ?_
        refine y_st rfl rfl rfl rfl rfl (fun _ _ => rfl) ?_
        show yP (xg xs) (d + 1) 280 321 [(0, .ref 58), (1, .int l1), (2, .long l2), (4, .int l4), (6, .int l6), (7, .int l7)] [.int (1 : Int32)] m2 Q
        refine y_headS (l2 := [(0, .ref 58), (1, .int l1), (2, .long l2)]) [0, 1, 2] [0, 1, 2] [0, 1, 2, 4, 6, 7] rfl rfl (by decide) rfl (by decide) ?_
        exact H
  · replace H := H.2 h; clear h
    refine y_st rfl rfl rfl rfl rfl (fun _ _ => rfl) ?_
    refine y_st rfl rfl rfl rfl rfl (fun _ _ => rfl) ?_
    refine y_st rfl rfl rfl rfl rfl (fun _ _ => rfl) ?_
    refine y_st rfl rfl rfl rfl rfl (fun _ _ => rfl) ?_
    show yP (xg xs) (d + 1) 280 289 [(0, .ref 58), (1, .int l1), (2, .long l2), (4, .int l4), (6, .int l6), (7, .int l7)] [.int l1, .ref 58, .int l7, .long l2] m2 Q
    refine y_call rfl rfl rfl rfl rfl (Nat.le_of_ble_eq_true rfl) (Nat.le_of_ble_eq_true rfl) rfl (by decide) H (fun v3 m3 H => ?_)
    obtain ⟨u3, rfl, H⟩ := H
    show yP (xg xs) (d + 1) 280 292 [(0, .ref 58), (1, .int l1), (2, .long l2), (4, .int l4), (6, .int l6), (7, .int l7)] [.int u3, .int l7, .long l2] m3 Q
    refine y_call rfl rfl rfl rfl rfl (Nat.le_of_ble_eq_true rfl) (Nat.le_of_ble_eq_true rfl) rfl (by decide) H (fun v4 m4 H => ?_)
    obtain ⟨u4, rfl, H⟩ := H
    show yP (xg xs) (d + 1) 280 295 [(0, .ref 58), (1, .int l1), (2, .long l2), (4, .int l4), (6, .int l6), (7, .int l7)] [.int u4, .int l7, .long l2] m4 Q
    refine y_call rfl rfl rfl rfl rfl (Nat.le_of_ble_eq_true rfl) (Nat.le_of_ble_eq_true rfl) rfl (by decide) H (fun v5 m5 H => ?_)
    obtain ⟨u5, rfl, H⟩ := H
    refine y_st rfl rfl rfl rfl rfl (fun _ _ => rfl) ?_
    refine y_st rfl rfl rfl rfl rfl (fun _ _ => rfl) ?_
    refine y_st rfl rfl rfl rfl rfl (fun _ _ => rfl) ?_
    show yP (xg xs) (d + 1) 280 271 [(1, .int (l1 + (1 : Int32))), (2, .long u5), (0, .ref 58), (4, .int l4), (6, .int l6), (7, .int l7)] [] m5 Q
    refine y_headS (l2 := [(0, .ref 58), (1, .int (l1 + (1 : Int32))), (2, .long u5), (4, .int l4), (6, .int l6), (7, .int l7)]) [2, 0, 1, 3, 4, 5] [0, 1, 2, 4, 6, 7] [1, 2, 0, 4, 6, 7] rfl rfl (by decide) rfl (by decide) ?_
    exact H
set_option maxRecDepth 20000 in
/-- CodeMakerModel.readNumber from 320 on -/
theorem w280_320 (xs : List Int32) (d : Nat) (l1 : Int32) (l2 : Int64) (m : yM) (Q : Option Value → yM → Prop) (H : yP (xg xs) (d + 1) 280 321 [(0, .ref 58), (1, .int l1), (2, .long l2)] [.int (0 : Int32)] m Q) : yP (xg xs) (d + 1) 280 320 [(0, .ref 58), (1, .int l1), (2, .long l2)] [] m Q := by
  refine y_st rfl rfl rfl rfl rfl (fun _ _ => rfl) ?_
  show yP (xg xs) (d + 1) 280 321 [(0, .ref 58), (1, .int l1), (2, .long l2)] [.int (0 : Int32)] m Q
  exact H
set_option maxRecDepth 20000 in
/-- CodeMakerModel.readNumber from 321 on -/
theorem w280_321 (xs : List Int32) (d : Nat) (l1 : Int32) (l2 : Int64) (s0 : Int32) (m : yM) (Q : Option Value → yM → Prop) (H : yP (xg xs) (d + 1) 280 323 [(0, .ref 58), (1, .int l1), (2, .long l2), (4, .int s0)] [] m Q) : yP (xg xs) (d + 1) 280 321 [(0, .ref 58), (1, .int l1), (2, .long l2)] [.int s0] m Q := by
  refine y_st rfl rfl rfl rfl rfl (fun _ _ => rfl) ?_
  show yP (xg xs) (d + 1) 280 323 [(4, .int s0), (0, .ref 58), (1, .int l1), (2, .long l2)] [] m Q
  refine y_headS (l2 := [(0, .ref 58), (1, .int l1), (2, .long l2), (4, .int s0)]) [1, 2, 3, 0] [0, 1, 2, 4] [4, 0, 1, 2] rfl rfl (by decide) rfl (by decide) ?_
  exact H
set_option maxRecDepth 20000 in
/-- CodeMakerModel.readNumber from 323 on -/
theorem w280_323 (xs : List Int32) (d : Nat) (l1 : Int32) (l2 : Int64) (l4 : Int32) (m : yM) (Q : Option Value → yM → Prop) (H : ((l4 = 0 → yP (xg xs) (d + 1) 280 347 [(0, .ref 58)] [] m Q) ∧ (¬ l4 = 0 → (yC (xg xs) d 274 [.ref 58, .int l1] m (fun v1 m1 => ∃ u1, v1 = some (Value.int u1) ∧ (yC (xg xs) d 283 [.int u1] m1 (fun v2 m2 => ∃ u2, v2 = some (Value.int u2) ∧ ((¬ u2 = 0 → yP (xg xs) (d + 1) 280 347 [(0, .ref 58)] [] m2 Q) ∧ (u2 = 0 → (((lg_cmp l2 (2147483647 : Int64)) ≤ 0 → (yC (xg xs) d 277 [.ref 58, .int (3 : Int32), .int l2.toInt32, .int l1] m2 (fun v3 m3 => v3 = none ∧ Q none m3))) ∧ (¬ (lg_cmp l2 (2147483647 : Int64)) ≤ 0 → yP (xg xs) (d + 1) 280 347 [(0, .ref 58)] [] m2 Q))))))))))) : yP (xg xs) (d + 1) 280 323 [(0, .ref 58), (1, .int l1), (2, .long l2), (4, .int l4)] [] m Q := by
  refine y_st rfl rfl rfl rfl rfl (fun _ _ => rfl) ?_
  show yP (xg xs) (d + 1) 280 325 [(0, .ref 58), (1, .int l1), (2, .long l2), (4, .int l4)] [.int l4] m Q
  refine y_zeq (t := 347) rfl rfl rfl (fun h => ?_) (fun h => ?_)
  · replace H := H.1 h; clear h
    show yP (xg xs) (d + 1) 280 347 [(0, .ref 58), (1, .int l1), (2, .long l2), (4, .int l4)] [] m Q
    refine y_headS (l2 := [(0, .ref 58)]) [0] [0] [0, 1, 2, 4] rfl rfl (by decide) rfl (by decide) ?_
    exact H
  · replace H := H.2 h; clear h
    refine y_st rfl rfl rfl rfl rfl (fun _ _ => rfl) ?_
    refine y_st rfl rfl rfl rfl rfl (fun _ _ => rfl) ?_
    show yP (xg xs) (d + 1) 280 330 [(0, .ref 58), (1, .int l1), (2, .long l2), (4, .int l4)] [.int l1, .ref 58] m Q
    refine y_call rfl rfl rfl rfl rfl (Nat.le_of_ble_eq_true rfl) (Nat.le_of_ble_eq_true rfl) rfl (by decide) H (fun v1 m1 H => ?_)
    obtain ⟨u1, rfl, H⟩ := H
    show yP (xg xs) (d + 1) 280 333 [(0, .ref 58), (1, .int l1), (2, .long l2), (4, .int l4)] [.int u1] m1 Q
    refine y_call rfl rfl rfl rfl rfl (Nat.le_of_ble_eq_true rfl) (Nat.le_of_ble_eq_true rfl) rfl (by decide) H (fun v2 m2 H => ?_)
    obtain ⟨u2, rfl, H⟩ := H
    show yP (xg xs) (d + 1) 280 336 [(0, .ref 58), (1, .int l1), (2, .long l2), (4, .int l4)] [.int u2] m2 Q
    refine y_zne (t := 347) rfl rfl rfl (fun h => ?_) (fun h => ?_)
    · replace H := H.1 h; clear h
      show yP (xg xs) (d + 1) 280 347 [(0, .ref 58), (1, .int l1), (2, .long l2), (4, .int l4)] [] m2 Q
      refine y_headS (l2 := [(0, .ref 58)]) [0] [0] [0, 1, 2, 4] rfl rfl (by decide) rfl (by decide) ?_
      exact H
    · replace H := H.2 h; clear h
      refine y_st rfl rfl rfl rfl rfl (fun _ _ => rfl) ?_
      refine y_st rfl rfl rfl rfl rfl (fun _ _ => rfl) ?_
      refine y_st rfl rfl rfl rfl rfl (fun _ _ => rfl) ?_
      show yP (xg xs) (d + 1) 280 344 [(0, .ref 58), (1, .int l1), (2, .long l2), (4, .int l4)] [.int (lg_cmp l2 (2147483647 : Int64))] m2 Q
      refine y_zle (t := 357) rfl rfl rfl (fun h => ?_) (fun h => ?_)
      · replace H := H.1 h; clear h
        refine y_st rfl rfl rfl rfl rfl (fun _ _ => rfl) ?_
        refine y_st rfl rfl rfl rfl rfl (fun _ _ => rfl) ?_
        refine y_st rfl rfl rfl rfl rfl (fun _ _ => rfl) ?_
        refine y_st rfl rfl rfl rfl rfl (fun _ _ => rfl) ?_
        refine y_st rfl rfl rfl rfl rfl (fun _ _ => rfl) ?_
        show yP (xg xs) (d + 1) 280 362 [(0, .ref 58), (1, .int l1), (2, .long l2), (4, .int l4)] [.int l1, .int l2.toInt32, .int (3 : Int32), .ref 58] m2 Q
        refine y_call rfl rfl rfl rfl rfl (Nat.le_of_ble_eq_true rfl) (Nat.le_of_ble_eq_true rfl) rfl (by decide) H (fun v3 m3 H => ?_)
        obtain ⟨rfl, H⟩ := H
        show yP (xg xs) (d + 1) 280 365 [(0, .ref 58), (1, .int l1), (2, .long l2), (4, .int l4)] [] m3 Q
        exact y_ret rfl rfl rfl rfl H
      · replace H := H.2 h; clear h
        show yP (xg xs) (d + 1) 280 347 [(0, .ref 58), (1, .int l1), (2, .long l2), (4, .int l4)] [] m2 Q
        refine y_headS (l2 := [(0, .ref 58)]) [0] [0] [0, 1, 2, 4] rfl rfl (by decide) rfl (by decide) ?_
        exact H
set_option maxRecDepth 20000 in
/-- CodeMakerModel.readNumber from 347 on -/
theorem w280_347 (xs : List Int32) (d : Nat) (m : yM) (Q : Option Value → yM → Prop) (H : (yC (xg xs) d 275 [.ref 58, .int (4 : Int32), .int (m.1 58 5)] m (fun v1 m1 => v1 = none ∧ Q none m1))) : yP (xg xs) (d + 1) 280 347 [(0, .ref 58)] [] m Q := by
  refine y_st rfl rfl rfl rfl rfl (fun _ _ => rfl) ?_
  refine y_st rfl rfl rfl rfl rfl (fun _ _ => rfl) ?_
  refine y_st rfl rfl rfl rfl rfl (fun _ _ => rfl) ?_
  refine y_gf rfl rfl rfl rfl rfl ?_
  show yP (xg xs) (d + 1) 280 353 [(0, .ref 58)] [.int (m.1 58 5), .int (4 : Int32), .ref 58] m Q
  refine y_call rfl rfl rfl rfl rfl (Nat.le_of_ble_eq_true rfl) (Nat.le_of_ble_eq_true rfl) rfl (by decide) H (fun v1 m1 H => ?_)
  obtain ⟨rfl, H⟩ := H
  show yP (xg xs) (d + 1) 280 356 [(0, .ref 58)] [] m1 Q
  exact y_ret rfl rfl rfl rfl H
set_option maxRecDepth 20000 in
/-- CodeMakerModel.more from 0 on -/
theorem w281_0 (xs : List Int32) (d : Nat) (l0 : Int64) (l2 : Int32) (l3 : Int32) (m : yM) (Q : Option Value → yM → Prop) (H : (((lg_cmp l0 (8589934592 : Int64)) ≤ 0 → Q (some (.long ((l0 * l2.toInt64) + l3.toInt64))) m) ∧ (¬ (lg_cmp l0 (8589934592 : Int64)) ≤ 0 → Q (some (.long l0)) m))) : yP (xg xs) (d + 1) 281 0 [(0, .long l0), (2, .int l2), (3, .int l3)] [] m Q := by
  refine y_st rfl rfl rfl rfl rfl (fun _ _ => rfl) ?_
  refine y_st rfl rfl rfl rfl rfl (fun _ _ => rfl) ?_
  refine y_st rfl rfl rfl rfl rfl (fun _ _ => rfl) ?_
  show yP (xg xs) (d + 1) 281 5 [(0, .long l0), (2, .int l2), (3, .int l3)] [.int (lg_cmp l0 (8589934592 : Int64))] m Q
  refine y_zle (t := 12) rfl rfl rfl (fun h => ?_) (fun h => ?_)
  · replace H := H.1 h; clear h
    refine y_st rfl rfl rfl rfl rfl (fun _ _ => rfl) ?_
    refine y_st rfl rfl rfl rfl rfl (fun _ _ => rfl) ?_
    refine y_st rfl rfl rfl rfl rfl (fun _ _ => rfl) ?_
    refine y_st rfl rfl rfl rfl rfl (fun _ _ => rfl) ?_
    refine y_st rfl rfl rfl rfl rfl (fun _ _ => rfl) ?_
    refine y_st rfl rfl rfl rfl rfl (fun _ _ => rfl) ?_
    refine y_st rfl rfl rfl rfl rfl (fun _ _ => rfl) ?_
    show yP (xg xs) (d + 1) 281 19 [(0, .long l0), (2, .int l2), (3, .int l3)] [.long ((l0 * l2.toInt64) + l3.toInt64)] m Q
    exact y_ret rfl rfl rfl rfl H
  · replace H := H.2 h; clear h
    refine y_st rfl rfl rfl rfl rfl (fun _ _ => rfl) ?_
    refine y_st rfl rfl rfl rfl rfl (fun _ _ => rfl) ?_
    show yP (xg xs) (d + 1) 281 19 [(0, .long l0), (2, .int l2), (3, .int l3)] [.long l0] m Q
    exact y_ret rfl rfl rfl rfl H
set_option maxRecDepth 20000 in
/-- CodeMakerModel.digitOf from 0 on -/
theorem w282_0 (xs : List Int32) (d : Nat) (l0 : Int32) (m : yM) (Q : Option Value → yM → Prop) (H : (yC (xg xs) d 278 [.int l0] m (fun v1 m1 => ∃ u1, v1 = some (Value.int u1) ∧ ((u1 = 0 → (yC (xg xs) d 279 [.int l0] m1 (fun v2 m2 => ∃ u2, v2 = some (Value.int u2) ∧ ((u2 < (65 : Int32) → Q (some (.int (99 : Int32))) m2) ∧ (¬ u2 < (65 : Int32) → (yC (xg xs) d 279 [.int l0] m2 (fun v3 m3 => ∃ u3, v3 = some (Value.int u3) ∧ (((70 : Int32) < u3 → Q (some (.int (99 : Int32))) m3) ∧ (¬ (70 : Int32) < u3 → (yC (xg xs) d 279 [.int l0] m3 (fun v4 m4 => ∃ u4, v4 = some (Value.int u4) ∧ Q (some (.int ((u4 - (65 : Int32)) + (10 : Int32)))) m4))))))))))) ∧ (¬ u1 = 0 → Q (some (.int (l0 - (48 : Int32)))) m1))))) : yP (xg xs) (d + 1) 282 0 [(0, .int l0)] [] m Q := by
  refine y_st rfl rfl rfl rfl rfl (fun _ _ => rfl) ?_
  show yP (xg xs) (d + 1) 282 1 [(0, .int l0)] [.int l0] m Q
  refine y_call rfl rfl rfl rfl rfl (Nat.le_of_ble_eq_true rfl) (Nat.le_of_ble_eq_true rfl) rfl (by decide) H (fun v1 m1 H => ?_)
  obtain ⟨u1, rfl, H⟩ := H
  show yP (xg xs) (d + 1) 282 4 [(0, .int l0)] [.int u1] m1 Q
  refine y_zeq (t := 14) rfl rfl rfl (fun h => ?_) (fun h => ?_)
  · replace H := H.1 h; clear h
    refine y_st rfl rfl rfl rfl rfl (fun _ _ => rfl) ?_
    show yP (xg xs) (d + 1) 282 15 [(0, .int l0)] [.int l0] m1 Q
    refine y_call rfl rfl rfl rfl rfl (Nat.le_of_ble_eq_true rfl) (Nat.le_of_ble_eq_true rfl) rfl (by decide) H (fun v2 m2 H => ?_)
    obtain ⟨u2, rfl, H⟩ := H
    refine y_st rfl rfl rfl rfl rfl (fun _ _ => rfl) ?_
    show yP (xg xs) (d + 1) 282 20 [(0, .int l0)] [.int (65 : Int32), .int u2] m2 Q
    refine y_ilt (t := 45) rfl rfl rfl (fun h => ?_) (fun h => ?_)
    · replace H := H.1 h; clear h
      refine y_st rfl rfl rfl rfl rfl (fun _ _ => rfl) ?_
      show yP (xg xs) (d + 1) 282 47 [(0, .int l0)] [.int (99 : Int32)] m2 Q
      exact y_iret rfl rfl rfl H
    · replace H := H.2 h; clear h
      refine y_st rfl rfl rfl rfl rfl (fun _ _ => rfl) ?_
      show yP (xg xs) (d + 1) 282 24 [(0, .int l0)] [.int l0] m2 Q
      refine y_call rfl rfl rfl rfl rfl (Nat.le_of_ble_eq_true rfl) (Nat.le_of_ble_eq_true rfl) rfl (by decide) H (fun v3 m3 H => ?_)
      obtain ⟨u3, rfl, H⟩ := H
      refine y_st rfl rfl rfl rfl rfl (fun _ _ => rfl) ?_
      show yP (xg xs) (d + 1) 282 29 [(0, .int l0)] [.int (70 : Int32), .int u3] m3 Q
      refine y_igt (t := 45) rfl rfl rfl (fun h => ?_) (fun h => ?_)
      · replace H := H.1 h; clear h
        refine y_st rfl rfl rfl rfl rfl (fun _ _ => rfl) ?_
        show yP (xg xs) (d + 1) 282 47 [(0, .int l0)] [.int (99 : Int32)] m3 Q
        exact y_iret rfl rfl rfl H
      · replace H := H.2 h; clear h
        refine y_st rfl rfl rfl rfl rfl (fun _ _ => rfl) ?_
        show yP (xg xs) (d + 1) 282 33 [(0, .int l0)] [.int l0] m3 Q
        refine y_call rfl rfl rfl rfl rfl (Nat.le_of_ble_eq_true rfl) (Nat.le_of_ble_eq_true rfl) rfl (by decide) H (fun v4 m4 H => ?_)
        obtain ⟨u4, rfl, H⟩ := H
        refine y_st rfl rfl rfl rfl rfl (fun _ _ => rfl) ?_
        refine y_st rfl rfl rfl rfl rfl (fun _ _ => rfl) ?_
        refine y_st rfl rfl rfl rfl rfl (fun _ _ => rfl) ?_
        refine y_st rfl rfl rfl rfl rfl (fun _ _ => rfl) ?_
        refine y_st rfl rfl rfl rfl rfl (fun _ _ => rfl) ?_
        show yP (xg xs) (d + 1) 282 47 [(0, .int l0)] [.int ((u4 - (65 : Int32)) + (10 : Int32))] m4 Q
        exact y_iret rfl rfl rfl H
  · replace H := H.2 h; clear h
    refine y_st rfl rfl rfl rfl rfl (fun _ _ => rfl) ?_
    refine y_st rfl rfl rfl rfl rfl (fun _ _ => rfl) ?_
    refine y_st rfl rfl rfl rfl rfl (fun _ _ => rfl) ?_
    refine y_st rfl rfl rfl rfl rfl (fun _ _ => rfl) ?_
    show yP (xg xs) (d + 1) 282 47 [(0, .int l0)] [.int (l0 - (48 : Int32))] m1 Q
    exact y_iret rfl rfl rfl H
set_option maxRecDepth 20000 in
/-- CodeMakerModel.isPart from 0 on -/
theorem w283_0 (xs : List Int32) (d : Nat) (l0 : Int32) (m : yM) (Q : Option Value → yM → Prop) (H : (yC (xg xs) d 284 [.int l0] m (fun v1 m1 => ∃ u1, v1 = some (Value.int u1) ∧ ((¬ u1 = 0 → Q (some (.int (1 : Int32))) m1) ∧ (u1 = 0 → (yC (xg xs) d 278 [.int l0] m1 (fun v2 m2 => ∃ u2, v2 = some (Value.int u2) ∧ ((u2 = 0 → Q (some (.int (0 : Int32))) m2) ∧ (¬ u2 = 0 → Q (some (.int (1 : Int32))) m2))))))))) : yP (xg xs) (d + 1) 283 0 [(0, .int l0)] [] m Q := by
  refine y_st rfl rfl rfl rfl rfl (fun _ _ => rfl) ?_
  show yP (xg xs) (d + 1) 283 1 [(0, .int l0)] [.int l0] m Q
  refine y_call rfl rfl rfl rfl rfl (Nat.le_of_ble_eq_true rfl) (Nat.le_of_ble_eq_true rfl) rfl (by decide) H (fun v1 m1 H => ?_)
  obtain ⟨u1, rfl, H⟩ := H
  show yP (xg xs) (d + 1) 283 4 [(0, .int l0)] [.int u1] m1 Q
  refine y_zne (t := 14) rfl rfl rfl (fun h => ?_) (fun h => ?_)
  · replace H := H.1 h; clear h
    refine y_st rfl rfl rfl rfl rfl (fun _ _ => rfl) ?_
    refine y_st rfl rfl rfl rfl rfl (fun _ _ => rfl) ?_
    show yP (xg xs) (d + 1) 283 19 [(0, .int l0)] [.int (1 : Int32)] m1 Q
    exact y_zret rfl rfl rfl (by decide) H
  · replace H := H.2 h; clear h
    refine y_st rfl rfl rfl rfl rfl (fun _ _ => rfl) ?_
    show yP (xg xs) (d + 1) 283 8 [(0, .int l0)] [.int l0] m1 Q
    refine y_call rfl rfl rfl rfl rfl (Nat.le_of_ble_eq_true rfl) (Nat.le_of_ble_eq_true rfl) rfl (by decide) H (fun v2 m2 H => ?_)
    obtain ⟨u2, rfl, H⟩ := H
    show yP (xg xs) (d + 1) 283 11 [(0, .int l0)] [.int u2] m2 Q
    refine y_zeq (t := 18) rfl rfl rfl (fun h => ?_) (fun h => ?_)
    · replace H := H.1 h; clear h
      refine y_st rfl rfl rfl rfl rfl (fun _ _ => rfl) ?_
      show yP (xg xs) (d + 1) 283 19 [(0, .int l0)] [.int (0 : Int32)] m2 Q
      exact y_zret rfl rfl rfl (by decide) H
    · replace H := H.2 h; clear h
      refine y_st rfl rfl rfl rfl rfl (fun _ _ => rfl) ?_
      refine y_st rfl rfl rfl rfl rfl (fun _ _ => rfl) ?_
      show yP (xg xs) (d + 1) 283 19 [(0, .int l0)] [.int (1 : Int32)] m2 Q
      exact y_zret rfl rfl rfl (by decide) H
set_option maxRecDepth 20000 in
/-- CodeMakerModel.isLetter from 0 on -/
theorem w284_0 (xs : List Int32) (d : Nat) (l0 : Int32) (m : yM) (Q : Option Value → yM → Prop) (H : (yC (xg xs) d 279 [.int l0] m (fun v1 m1 => ∃ u1, v1 = some (Value.int u1) ∧ ((u1 < (65 : Int32) → yP (xg xs) (d + 1) 284 18 [(0, .int l0)] [] m1 Q) ∧ (¬ u1 < (65 : Int32) → (yC (xg xs) d 279 [.int l0] m1 (fun v2 m2 => ∃ u2, v2 = some (Value.int u2) ∧ ((u2 ≤ (90 : Int32) → Q (some (.int (1 : Int32))) m2) ∧ (¬ u2 ≤ (90 : Int32) → yP (xg xs) (d + 1) 284 18 [(0, .int l0)] [] m2 Q))))))))) : yP (xg xs) (d + 1) 284 0 [(0, .int l0)] [] m Q := by
  refine y_st rfl rfl rfl rfl rfl (fun _ _ => rfl) ?_
  show yP (xg xs) (d + 1) 284 1 [(0, .int l0)] [.int l0] m Q
  refine y_call rfl rfl rfl rfl rfl (Nat.le_of_ble_eq_true rfl) (Nat.le_of_ble_eq_true rfl) rfl (by decide) H (fun v1 m1 H => ?_)
  obtain ⟨u1, rfl, H⟩ := H
  refine y_st rfl rfl rfl rfl rfl (fun _ _ => rfl) ?_
  show yP (xg xs) (d + 1) 284 6 [(0, .int l0)] [.int (65 : Int32), .int u1] m1 Q
  refine y_ilt (t := 18) rfl rfl rfl (fun h => ?_) (fun h => ?_)
  · replace H := H.1 h; clear h
    show yP (xg xs) (d + 1) 284 18 [(0, .int l0)] [] m1 Q
    exact H
  · replace H := H.2 h; clear h
    refine y_st rfl rfl rfl rfl rfl (fun _ _ => rfl) ?_
    show yP (xg xs) (d + 1) 284 10 [(0, .int l0)] [.int l0] m1 Q
    refine y_call rfl rfl rfl rfl rfl (Nat.le_of_ble_eq_true rfl) (Nat.le_of_ble_eq_true rfl) rfl (by decide) H (fun v2 m2 H => ?_)
    obtain ⟨u2, rfl, H⟩ := H
    refine y_st rfl rfl rfl rfl rfl (fun _ _ => rfl) ?_
    show yP (xg xs) (d + 1) 284 15 [(0, .int l0)] [.int (90 : Int32), .int u2] m2 Q
    refine y_ile (t := 24) rfl rfl rfl (fun h => ?_) (fun h => ?_)
    · replace H := H.1 h; clear h
      refine y_st rfl rfl rfl rfl rfl (fun _ _ => rfl) ?_
      refine y_st rfl rfl rfl rfl rfl (fun _ _ => rfl) ?_
      show yP (xg xs) (d + 1) 284 29 [(0, .int l0)] [.int (1 : Int32)] m2 Q
      exact y_zret rfl rfl rfl (by decide) H
    · replace H := H.2 h; clear h
      show yP (xg xs) (d + 1) 284 18 [(0, .int l0)] [] m2 Q
      exact H
set_option maxRecDepth 20000 in
/-- CodeMakerModel.isLetter from 18 on -/
theorem w284_18 (xs : List Int32) (d : Nat) (l0 : Int32) (m : yM) (Q : Option Value → yM → Prop) (H : ((¬ l0 = (95 : Int32) → Q (some (.int (0 : Int32))) m) ∧ (l0 = (95 : Int32) → Q (some (.int (1 : Int32))) m))) : yP (xg xs) (d + 1) 284 18 [(0, .int l0)] [] m Q := by
  refine y_st rfl rfl rfl rfl rfl (fun _ _ => rfl) ?_
  refine y_st rfl rfl rfl rfl rfl (fun _ _ => rfl) ?_
  show yP (xg xs) (d + 1) 284 21 [(0, .int l0)] [.int (95 : Int32), .int l0] m Q
  refine y_ine (t := 28) rfl rfl rfl (fun h => ?_) (fun h => ?_)
  · replace H := H.1 h; clear h
    refine y_st rfl rfl rfl rfl rfl (fun _ _ => rfl) ?_
    show yP (xg xs) (d + 1) 284 29 [(0, .int l0)] [.int (0 : Int32)] m Q
    exact y_zret rfl rfl rfl (by decide) H
  · replace H := H.2 h; clear h
    refine y_st rfl rfl rfl rfl rfl (fun _ _ => rfl) ?_
    refine y_st rfl rfl rfl rfl rfl (fun _ _ => rfl) ?_
    show yP (xg xs) (d + 1) 284 29 [(0, .int l0)] [.int (1 : Int32)] m Q
    exact y_zret rfl rfl rfl (by decide) H
set_option maxRecDepth 20000 in
/-- CodeMakerModel.readName from 0 on -/
theorem w285_0 (xs : List Int32) (d : Nat) (m : yM) (Q : Option Value → yM → Prop) (H : yP (xg xs) (d + 1) 285 5 [(0, .ref 58), (1, .int (m.1 58 5))] [] m Q) : yP (xg xs) (d + 1) 285 0 [(0, .ref 58)] [] m Q := by
  refine y_st rfl rfl rfl rfl rfl (fun _ _ => rfl) ?_
  refine y_gf rfl rfl rfl rfl rfl ?_
  refine y_st rfl rfl rfl rfl rfl (fun _ _ => rfl) ?_
  show yP (xg xs) (d + 1) 285 5 [(1, .int (m.1 58 5)), (0, .ref 58)] [] m Q
  refine y_headS (l2 := [(0, .ref 58), (1, .int (m.1 58 5))]) [1, 0] [0, 1] [1, 0] rfl rfl (by decide) rfl (by decide) ?_
  exact H
set_option maxRecDepth 20000 in
/-- CodeMakerModel.readName from 5 on -/
theorem w285_5 (xs : List Int32) (d : Nat) (l1 : Int32) (m : yM) (Q : Option Value → yM → Prop) (H : (yC (xg xs) d 274 [.ref 58, .int l1] m (fun v1 m1 => ∃ u1, v1 = some (Value.int u1) ∧ (yC (xg xs) d 283 [.int u1] m1 (fun v2 m2 => ∃ u2, v2 = some (Value.int u2) ∧ ((u2 = 0 → (((l1 - (m2.1 58 5)) ≤ (32 : Int32) → (yC (xg xs) d 286 [.ref 58, .int (l1 - (m2.1 58 5))] m2 (fun v3 m3 => ∃ u3, v3 = some (Value.int u3) ∧ ((u3 = ((-1) : Int32) → (yC (xg xs) d 287 [.ref 58, .int (l1 - (m2.1 58 5))] m3 (fun v4 m4 => ∃ u4, v4 = some (Value.int u4) ∧ (yC (xg xs) d 277 [.ref 58, .int (2 : Int32), .int u4, .int l1] m4 (fun v5 m5 => v5 = none ∧ Q none m5))))) ∧ (¬ u3 = ((-1) : Int32) → (yC (xg xs) d 277 [.ref 58, .int (1 : Int32), .int u3, .int l1] m3 (fun v6 m6 => v6 = none ∧ Q none m6))))))) ∧ (¬ (l1 - (m2.1 58 5)) ≤ (32 : Int32) → (yC (xg xs) d 275 [.ref 58, .int (3 : Int32), .int (m2.1 58 5)] m2 (fun v7 m7 => v7 = none ∧ Q none m7))))) ∧ (¬ u2 = 0 → yP (xg xs) (d + 1) 285 5 [(0, .ref 58), (1, .int (l1 + (1 : Int32)))] [] m2 Q))))))) : yP (xg xs) (d + 1) 285 5 [(0, .ref 58), (1, .int l1)] [] m Q := by
  refine y_st rfl rfl rfl rfl rfl (fun _ _ => rfl) ?_
  refine y_st rfl rfl rfl rfl rfl (fun _ _ => rfl) ?_
  show yP (xg xs) (d + 1) 285 7 [(0, .ref 58), (1, .int l1)] [.int l1, .ref 58] m Q
  refine y_call rfl rfl rfl rfl rfl (Nat.le_of_ble_eq_true rfl) (Nat.le_of_ble_eq_true rfl) rfl (by decide) H (fun v1 m1 H => ?_)
  obtain ⟨u1, rfl, H⟩ := H
  show yP (xg xs) (d + 1) 285 10 [(0, .ref 58), (1, .int l1)] [.int u1] m1 Q
  refine y_call rfl rfl rfl rfl rfl (Nat.le_of_ble_eq_true rfl) (Nat.le_of_ble_eq_true rfl) rfl (by decide) H (fun v2 m2 H => ?_)
  obtain ⟨u2, rfl, H⟩ := H
  show yP (xg xs) (d + 1) 285 13 [(0, .ref 58), (1, .int l1)] [.int u2] m2 Q
  refine y_zeq (t := 22) rfl rfl rfl (fun h => ?_) (fun h => ?_)
  · replace H := H.1 h; clear h
    refine y_st rfl rfl rfl rfl rfl (fun _ _ => rfl) ?_
    refine y_st rfl rfl rfl rfl rfl (fun _ _ => rfl) ?_
    refine y_gf rfl rfl rfl rfl rfl ?_
    refine y_st rfl rfl rfl rfl rfl (fun _ _ => rfl) ?_
    refine y_st rfl rfl rfl rfl rfl (fun _ _ => rfl) ?_
    refine y_st rfl rfl rfl rfl rfl (fun _ _ => rfl) ?_
    refine y_st rfl rfl rfl rfl rfl (fun _ _ => rfl) ?_
    show yP (xg xs) (d + 1) 285 32 [(2, .int (l1 - (m2.1 58 5))), (0, .ref 58), (1, .int l1)] [.int (32 : Int32), .int (l1 - (m2.1 58 5))] m2 Q
    refine y_ile (t := 45) rfl rfl rfl (fun h => ?_) (fun h => ?_)
    · replace H := H.1 h; clear h
      refine y_st rfl rfl rfl rfl rfl (fun _ _ => rfl) ?_
      refine y_st rfl rfl rfl rfl rfl (fun _ _ => rfl) ?_
      show yP (xg xs) (d + 1) 285 47 [(2, .int (l1 - (m2.1 58 5))), (0, .ref 58), (1, .int l1)] [.int (l1 - (m2.1 58 5)), .ref 58] m2 Q
      refine y_call rfl rfl rfl rfl rfl (Nat.le_of_ble_eq_true rfl) (Nat.le_of_ble_eq_true rfl) rfl (by decide) H (fun v3 m3 H => ?_)
      obtain ⟨u3, rfl, H⟩ := H
      refine y_st rfl rfl rfl rfl rfl (fun _ _ => rfl) ?_
      refine y_st rfl rfl rfl rfl rfl (fun _ _ => rfl) ?_
      refine y_st rfl rfl rfl rfl rfl (fun _ _ => rfl) ?_
      show yP (xg xs) (d + 1) 285 53 [(3, .int u3), (2, .int (l1 - (m2.1 58 5))), (0, .ref 58), (1, .int l1)] [.int ((-1) : Int32), .int u3] m3 Q
      refine y_ieq (t := 66) rfl rfl rfl (fun h => ?_) (fun h => ?_)
      · replace H := H.1 h; clear h
        refine y_st rfl rfl rfl rfl rfl (fun _ _ => rfl) ?_
        refine y_st rfl rfl rfl rfl rfl (fun _ _ => rfl) ?_
        refine y_st rfl rfl rfl rfl rfl (fun _ _ => rfl) ?_
        refine y_st rfl rfl rfl rfl rfl (fun _ _ => rfl) ?_
        show yP (xg xs) (d + 1) 285 70 [(3, .int u3), (2, .int (l1 - (m2.1 58 5))), (0, .ref 58), (1, .int l1)] [.int (l1 - (m2.1 58 5)), .ref 58, .int (2 : Int32), .ref 58] m3 Q
        refine y_call rfl rfl rfl rfl rfl (Nat.le_of_ble_eq_true rfl) (Nat.le_of_ble_eq_true rfl) rfl (by decide) H (fun v4 m4 H => ?_)
        obtain ⟨u4, rfl, H⟩ := H
        refine y_st rfl rfl rfl rfl rfl (fun _ _ => rfl) ?_
        show yP (xg xs) (d + 1) 285 74 [(3, .int u3), (2, .int (l1 - (m2.1 58 5))), (0, .ref 58), (1, .int l1)] [.int l1, .int u4, .int (2 : Int32), .ref 58] m4 Q
        refine y_call rfl rfl rfl rfl rfl (Nat.le_of_ble_eq_true rfl) (Nat.le_of_ble_eq_true rfl) rfl (by decide) H (fun v5 m5 H => ?_)
        obtain ⟨rfl, H⟩ := H
        show yP (xg xs) (d + 1) 285 77 [(3, .int u3), (2, .int (l1 - (m2.1 58 5))), (0, .ref 58), (1, .int l1)] [] m5 Q
        exact y_ret rfl rfl rfl rfl H
      · replace H := H.2 h; clear h
        refine y_st rfl rfl rfl rfl rfl (fun _ _ => rfl) ?_
        refine y_st rfl rfl rfl rfl rfl (fun _ _ => rfl) ?_
        refine y_st rfl rfl rfl rfl rfl (fun _ _ => rfl) ?_
        refine y_st rfl rfl rfl rfl rfl (fun _ _ => rfl) ?_
        show yP (xg xs) (d + 1) 285 60 [(3, .int u3), (2, .int (l1 - (m2.1 58 5))), (0, .ref 58), (1, .int l1)] [.int l1, .int u3, .int (1 : Int32), .ref 58] m3 Q
        refine y_call rfl rfl rfl rfl rfl (Nat.le_of_ble_eq_true rfl) (Nat.le_of_ble_eq_true rfl) rfl (by decide) H (fun v6 m6 H => ?_)
        obtain ⟨rfl, H⟩ := H
        refine y_st rfl rfl rfl rfl rfl (fun _ _ => rfl) ?_
        show yP (xg xs) (d + 1) 285 77 [(3, .int u3), (2, .int (l1 - (m2.1 58 5))), (0, .ref 58), (1, .int l1)] [] m6 Q
        exact y_ret rfl rfl rfl rfl H
    · replace H := H.2 h; clear h
      refine y_st rfl rfl rfl rfl rfl (fun _ _ => rfl) ?_
      refine y_st rfl rfl rfl rfl rfl (fun _ _ => rfl) ?_
      refine y_st rfl rfl rfl rfl rfl (fun _ _ => rfl) ?_
      refine y_gf rfl rfl rfl rfl rfl ?_
      show yP (xg xs) (d + 1) 285 41 [(2, .int (l1 - (m2.1 58 5))), (0, .ref 58), (1, .int l1)] [.int (m2.1 58 5), .int (3 : Int32), .ref 58] m2 Q
      refine y_call rfl rfl rfl rfl rfl (Nat.le_of_ble_eq_true rfl) (Nat.le_of_ble_eq_true rfl) rfl (by decide) H (fun v7 m7 H => ?_)
      obtain ⟨rfl, H⟩ := H
      show yP (xg xs) (d + 1) 285 44 [(2, .int (l1 - (m2.1 58 5))), (0, .ref 58), (1, .int l1)] [] m7 Q
      exact y_ret rfl rfl rfl rfl H
  · replace H := H.2 h; clear h
    refine y_st rfl rfl rfl rfl rfl (fun _ _ => rfl) ?_
    refine y_st rfl rfl rfl rfl rfl (fun _ _ => rfl) ?_
    show yP (xg xs) (d + 1) 285 5 [(1, .int (l1 + (1 : Int32))), (0, .ref 58)] [] m2 Q
    refine y_headS (l2 := [(0, .ref 58), (1, .int (l1 + (1 : Int32)))]) [1, 0] [0, 1] [1, 0] rfl rfl (by decide) rfl (by decide) ?_
    exact H
set_option maxRecDepth 20000 in
/-- CodeMakerModel.wordAt from 0 on -/
theorem w286_0 (xs : List Int32) (d : Nat) (l1 : Int32) (m : yM) (Q : Option Value → yM → Prop) (H : yP (xg xs) (d + 1) 286 4 [(0, .ref 58), (1, .int l1), (2, .int (0 : Int32)), (3, .int (1 : Int32))] [] m Q) : yP (xg xs) (d + 1) 286 0 [(0, .ref 58), (1, .int l1)] [] m Q := by
  refine y_st rfl rfl rfl rfl rfl (fun _ _ => rfl) ?_
  refine y_st rfl rfl rfl rfl rfl (fun _ _ => rfl) ?_
  refine y_st rfl rfl rfl rfl rfl (fun _ _ => rfl) ?_
  refine y_st rfl rfl rfl rfl rfl (fun _ _ => rfl) ?_
  show yP (xg xs) (d + 1) 286 4 [(3, .int (1 : Int32)), (2, .int (0 : Int32)), (0, .ref 58), (1, .int l1)] [] m Q
  refine y_headS (l2 := [(0, .ref 58), (1, .int l1), (2, .int (0 : Int32)), (3, .int (1 : Int32))]) [2, 3, 1, 0] [0, 1, 2, 3] [3, 2, 0, 1] rfl rfl (by decide) rfl (by decide) ?_
  exact H
set_option maxRecDepth 20000 in
/-- CodeMakerModel.wordAt from 4 on -/
theorem w286_4 (xs : List Int32) (d : Nat) (l1 : Int32) (l2 : Int32) (l3 : Int32) (m : yM) (Q : Option Value → yM → Prop) (H : (yC (xg xs) d 22 [.retAddr 23] m (fun v1 m1 => ∃ u1, v1 = some (Value.int u1) ∧ ((u1 ≤ l3 → Q (some (.int ((-1) : Int32))) m1) ∧ (¬ u1 ≤ l3 → yP (xg xs) (d + 1) 286 16 [(0, .ref 58), (1, .int l1), (2, .int l2), (3, .int l3), (4, .int (0 : Int32))] [] m1 Q))))) : yP (xg xs) (d + 1) 286 4 [(0, .ref 58), (1, .int l1), (2, .int l2), (3, .int l3)] [] m Q := by
  refine y_st rfl rfl rfl rfl rfl (fun _ _ => rfl) ?_
  refine y_st rfl rfl rfl rfl rfl (fun _ _ => rfl) ?_
  show yP (xg xs) (d + 1) 286 7 [(0, .ref 58), (1, .int l1), (2, .int l2), (3, .int l3)] [.retAddr 23, .int l3] m Q
  refine y_call rfl rfl rfl rfl rfl (Nat.le_of_ble_eq_true rfl) (Nat.le_of_ble_eq_true rfl) rfl (by decide) H (fun v1 m1 H => ?_)
  obtain ⟨u1, rfl, H⟩ := H
  show yP (xg xs) (d + 1) 286 10 [(0, .ref 58), (1, .int l1), (2, .int l2), (3, .int l3)] [.int u1, .int l3] m1 Q
  refine y_ige (t := 116) rfl rfl rfl (fun h => ?_) (fun h => ?_)
  · replace H := H.1 h; clear h
    refine y_st rfl rfl rfl rfl rfl (fun _ _ => rfl) ?_
    show yP (xg xs) (d + 1) 286 117 [(0, .ref 58), (1, .int l1), (2, .int l2), (3, .int l3)] [.int ((-1) : Int32)] m1 Q
    exact y_iret rfl rfl rfl H
  · replace H := H.2 h; clear h
    refine y_st rfl rfl rfl rfl rfl (fun _ _ => rfl) ?_
    refine y_st rfl rfl rfl rfl rfl (fun _ _ => rfl) ?_
    show yP (xg xs) (d + 1) 286 16 [(4, .int (0 : Int32)), (0, .ref 58), (1, .int l1), (2, .int l2), (3, .int l3)] [] m1 Q
    refine y_headS (l2 := [(0, .ref 58), (1, .int l1), (2, .int l2), (3, .int l3), (4, .int (0 : Int32))]) [1, 2, 3, 4, 0] [0, 1, 2, 3, 4] [4, 0, 1, 2, 3] rfl rfl (by decide) rfl (by decide) ?_
    exact H
set_option maxRecDepth 20000 in
/-- CodeMakerModel.wordAt from 16 on -/
theorem w286_16 (xs : List Int32) (d : Nat) (l1 : Int32) (l2 : Int32) (l3 : Int32) (l4 : Int32) (m : yM) (Q : Option Value → yM → Prop) (H : ((l1 ≤ l4 → yP (xg xs) (d + 1) 286 68 [(0, .ref 58), (1, .int l1), (2, .int l2), (3, .int l3), (4, .int l4)] [] m Q) ∧ (¬ l1 ≤ l4 → (yC (xg xs) d 24 [.retAddr 23, .int (l3 + l4)] m (fun v1 m1 => ∃ u1, v1 = some (Value.int u1) ∧ (yC (xg xs) d 274 [.ref 58, .int ((m1.1 58 5) + l4)] m1 (fun v2 m2 => ∃ u2, v2 = some (Value.int u2) ∧ (yC (xg xs) d 279 [.int u2] m2 (fun v3 m3 => ∃ u3, v3 = some (Value.int u3) ∧ ((¬ u1 = u3 → yP (xg xs) (d + 1) 286 68 [(0, .ref 58), (1, .int l1), (2, .int l2), (3, .int l3), (4, .int l4)] [] m3 Q) ∧ (u1 = u3 → (yC (xg xs) d 24 [.retAddr 23, .int (l3 + l4)] m3 (fun v4 m4 => ∃ u4, v4 = some (Value.int u4) ∧ ((u4 = (32 : Int32) → yP (xg xs) (d + 1) 286 68 [(0, .ref 58), (1, .int l1), (2, .int l2), (3, .int l3), (4, .int l4)] [] m4 Q) ∧ (¬ u4 = (32 : Int32) → yP (xg xs) (d + 1) 286 16 [(0, .ref 58), (1, .int l1), (2, .int l2), (3, .int l3), (4, .int (l4 + (1 : Int32)))] [] m4 Q))))))))))))))) : yP (xg xs) (d + 1) 286 16 [(0, .ref 58), (1, .int l1), (2, .int l2), (3, .int l3), (4, .int l4)] [] m Q := by
  refine y_st rfl rfl rfl rfl rfl (fun _ _ => rfl) ?_
  refine y_st rfl rfl rfl rfl rfl (fun _ _ => rfl) ?_
  show yP (xg xs) (d + 1) 286 19 [(0, .ref 58), (1, .int l1), (2, .int l2), (3, .int l3), (4, .int l4)] [.int l1, .int l4] m Q
  refine y_ige (t := 68) rfl rfl rfl (fun h => ?_) (fun h => ?_)
  · replace H := H.1 h; clear h
    show yP (xg xs) (d + 1) 286 68 [(0, .ref 58), (1, .int l1), (2, .int l2), (3, .int l3), (4, .int l4)] [] m Q
    exact H
  · replace H := H.2 h; clear h
    refine y_st rfl rfl rfl rfl rfl (fun _ _ => rfl) ?_
    refine y_st rfl rfl rfl rfl rfl (fun _ _ => rfl) ?_
    refine y_st rfl rfl rfl rfl rfl (fun _ _ => rfl) ?_
    refine y_st rfl rfl rfl rfl rfl (fun _ _ => rfl) ?_
    show yP (xg xs) (d + 1) 286 28 [(0, .ref 58), (1, .int l1), (2, .int l2), (3, .int l3), (4, .int l4)] [.int (l3 + l4), .retAddr 23] m Q
    refine y_call rfl rfl rfl rfl rfl (Nat.le_of_ble_eq_true rfl) (Nat.le_of_ble_eq_true rfl) rfl (by decide) H (fun v1 m1 H => ?_)
    obtain ⟨u1, rfl, H⟩ := H
    refine y_st rfl rfl rfl rfl rfl (fun _ _ => rfl) ?_
    refine y_st rfl rfl rfl rfl rfl (fun _ _ => rfl) ?_
    refine y_gf rfl rfl rfl rfl rfl ?_
    refine y_st rfl rfl rfl rfl rfl (fun _ _ => rfl) ?_
    refine y_st rfl rfl rfl rfl rfl (fun _ _ => rfl) ?_
    show yP (xg xs) (d + 1) 286 39 [(0, .ref 58), (1, .int l1), (2, .int l2), (3, .int l3), (4, .int l4)] [.int ((m1.1 58 5) + l4), .ref 58, .int u1] m1 Q
    refine y_call rfl rfl rfl rfl rfl (Nat.le_of_ble_eq_true rfl) (Nat.le_of_ble_eq_true rfl) rfl (by decide) H (fun v2 m2 H => ?_)
    obtain ⟨u2, rfl, H⟩ := H
    show yP (xg xs) (d + 1) 286 42 [(0, .ref 58), (1, .int l1), (2, .int l2), (3, .int l3), (4, .int l4)] [.int u2, .int u1] m2 Q
    refine y_call rfl rfl rfl rfl rfl (Nat.le_of_ble_eq_true rfl) (Nat.le_of_ble_eq_true rfl) rfl (by decide) H (fun v3 m3 H => ?_)
    obtain ⟨u3, rfl, H⟩ := H
    show yP (xg xs) (d + 1) 286 45 [(0, .ref 58), (1, .int l1), (2, .int l2), (3, .int l3), (4, .int l4)] [.int u3, .int u1] m3 Q
    refine y_ine (t := 68) rfl rfl rfl (fun h => ?_) (fun h => ?_)
    · replace H := H.1 h; clear h
      show yP (xg xs) (d + 1) 286 68 [(0, .ref 58), (1, .int l1), (2, .int l2), (3, .int l3), (4, .int l4)] [] m3 Q
      exact H
    · replace H := H.2 h; clear h
      refine y_st rfl rfl rfl rfl rfl (fun _ _ => rfl) ?_
      refine y_st rfl rfl rfl rfl rfl (fun _ _ => rfl) ?_
      refine y_st rfl rfl rfl rfl rfl (fun _ _ => rfl) ?_
      refine y_st rfl rfl rfl rfl rfl (fun _ _ => rfl) ?_
      show yP (xg xs) (d + 1) 286 54 [(0, .ref 58), (1, .int l1), (2, .int l2), (3, .int l3), (4, .int l4)] [.int (l3 + l4), .retAddr 23] m3 Q
      refine y_call rfl rfl rfl rfl rfl (Nat.le_of_ble_eq_true rfl) (Nat.le_of_ble_eq_true rfl) rfl (by decide) H (fun v4 m4 H => ?_)
      obtain ⟨u4, rfl, H⟩ := H
      refine y_st rfl rfl rfl rfl rfl (fun _ _ => rfl) ?_
      show yP (xg xs) (d + 1) 286 59 [(0, .ref 58), (1, .int l1), (2, .int l2), (3, .int l3), (4, .int l4)] [.int (32 : Int32), .int u4] m4 Q
      refine y_ieq (t := 68) rfl rfl rfl (fun h => ?_) (fun h => ?_)
      · replace H := H.1 h; clear h
        show yP (xg xs) (d + 1) 286 68 [(0, .ref 58), (1, .int l1), (2, .int l2), (3, .int l3), (4, .int l4)] [] m4 Q
        exact H
      · replace H := H.2 h; clear h
        refine y_st rfl rfl rfl rfl rfl (fun _ _ => rfl) ?_
        refine y_st rfl rfl rfl rfl rfl (fun _ _ => rfl) ?_
        show yP (xg xs) (d + 1) 286 16 [(4, .int (l4 + (1 : Int32))), (0, .ref 58), (1, .int l1), (2, .int l2), (3, .int l3)] [] m4 Q
        refine y_headS (l2 := [(0, .ref 58), (1, .int l1), (2, .int l2), (3, .int l3), (4, .int (l4 + (1 : Int32)))]) [1, 2, 3, 4, 0] [0, 1, 2, 3, 4] [4, 0, 1, 2, 3] rfl rfl (by decide) rfl (by decide) ?_
        exact H
set_option maxRecDepth 20000 in
/-- CodeMakerModel.wordAt from 68 on -/
theorem w286_68 (xs : List Int32) (d : Nat) (l1 : Int32) (l2 : Int32) (l3 : Int32) (l4 : Int32) (m : yM) (Q : Option Value → yM → Prop) (H : ((¬ l4 = l1 → yP (xg xs) (d + 1) 286 90 [(0, .ref 58), (1, .int l1), (2, .int l2), (3, .int l3)] [] m Q) ∧ (l4 = l1 → (yC (xg xs) d 24 [.retAddr 23, .int (l3 + l4)] m (fun v1 m1 => ∃ u1, v1 = some (Value.int u1) ∧ ((¬ u1 = (32 : Int32) → yP (xg xs) (d + 1) 286 90 [(0, .ref 58), (1, .int l1), (2, .int l2), (3, .int l3)] [] m1 Q) ∧ (u1 = (32 : Int32) → Q (some (.int l2)) m1))))))) : yP (xg xs) (d + 1) 286 68 [(0, .ref 58), (1, .int l1), (2, .int l2), (3, .int l3), (4, .int l4)] [] m Q := by
  refine y_st rfl rfl rfl rfl rfl (fun _ _ => rfl) ?_
  refine y_st rfl rfl rfl rfl rfl (fun _ _ => rfl) ?_
  show yP (xg xs) (d + 1) 286 71 [(0, .ref 58), (1, .int l1), (2, .int l2), (3, .int l3), (4, .int l4)] [.int l1, .int l4] m Q
  refine y_ine (t := 90) rfl rfl rfl (fun h => ?_) (fun h => ?_)
  · replace H := H.1 h; clear h
    show yP (xg xs) (d + 1) 286 90 [(0, .ref 58), (1, .int l1), (2, .int l2), (3, .int l3), (4, .int l4)] [] m Q
    refine y_headS (l2 := [(0, .ref 58), (1, .int l1), (2, .int l2), (3, .int l3)]) [0, 1, 2, 3] [0, 1, 2, 3] [0, 1, 2, 3, 4] rfl rfl (by decide) rfl (by decide) ?_
    exact H
  · replace H := H.2 h; clear h
    refine y_st rfl rfl rfl rfl rfl (fun _ _ => rfl) ?_
    refine y_st rfl rfl rfl rfl rfl (fun _ _ => rfl) ?_
    refine y_st rfl rfl rfl rfl rfl (fun _ _ => rfl) ?_
    refine y_st rfl rfl rfl rfl rfl (fun _ _ => rfl) ?_
    show yP (xg xs) (d + 1) 286 80 [(0, .ref 58), (1, .int l1), (2, .int l2), (3, .int l3), (4, .int l4)] [.int (l3 + l4), .retAddr 23] m Q
    refine y_call rfl rfl rfl rfl rfl (Nat.le_of_ble_eq_true rfl) (Nat.le_of_ble_eq_true rfl) rfl (by decide) H (fun v1 m1 H => ?_)
    obtain ⟨u1, rfl, H⟩ := H
    refine y_st rfl rfl rfl rfl rfl (fun _ _ => rfl) ?_
    show yP (xg xs) (d + 1) 286 85 [(0, .ref 58), (1, .int l1), (2, .int l2), (3, .int l3), (4, .int l4)] [.int (32 : Int32), .int u1] m1 Q
    refine y_ine (t := 90) rfl rfl rfl (fun h => ?_) (fun h => ?_)
    · replace H := H.1 h; clear h
      show yP (xg xs) (d + 1) 286 90 [(0, .ref 58), (1, .int l1), (2, .int l2), (3, .int l3), (4, .int l4)] [] m1 Q
      refine y_headS (l2 := [(0, .ref 58), (1, .int l1), (2, .int l2), (3, .int l3)]) [0, 1, 2, 3] [0, 1, 2, 3] [0, 1, 2, 3, 4] rfl rfl (by decide) rfl (by decide) ?_
      exact H
    · replace H := H.2 h; clear h
      refine y_st rfl rfl rfl rfl rfl (fun _ _ => rfl) ?_
      show yP (xg xs) (d + 1) 286 89 [(0, .ref 58), (1, .int l1), (2, .int l2), (3, .int l3), (4, .int l4)] [.int l2] m1 Q
      exact y_iret rfl rfl rfl H
set_option maxRecDepth 20000 in
/-- CodeMakerModel.wordAt from 90 on -/
theorem w286_90 (xs : List Int32) (d : Nat) (l1 : Int32) (l2 : Int32) (l3 : Int32) (m : yM) (Q : Option Value → yM → Prop) (H : (yC (xg xs) d 24 [.retAddr 23, .int l3] m (fun v1 m1 => ∃ u1, v1 = some (Value.int u1) ∧ ((u1 = (32 : Int32) → yP (xg xs) (d + 1) 286 4 [(0, .ref 58), (1, .int l1), (2, .int (l2 + (1 : Int32))), (3, .int (l3 + (1 : Int32)))] [] m1 Q) ∧ (¬ u1 = (32 : Int32) → yP (xg xs) (d + 1) 286 90 [(0, .ref 58), (1, .int l1), (2, .int l2), (3, .int (l3 + (1 : Int32)))] [] m1 Q))))) : yP (xg xs) (d + 1) 286 90 [(0, .ref 58), (1, .int l1), (2, .int l2), (3, .int l3)] [] m Q := by
  refine y_st rfl rfl rfl rfl rfl (fun _ _ => rfl) ?_
  refine y_st rfl rfl rfl rfl rfl (fun _ _ => rfl) ?_
  show yP (xg xs) (d + 1) 286 93 [(0, .ref 58), (1, .int l1), (2, .int l2), (3, .int l3)] [.int l3, .retAddr 23] m Q
  refine y_call rfl rfl rfl rfl rfl (Nat.le_of_ble_eq_true rfl) (Nat.le_of_ble_eq_true rfl) rfl (by decide) H (fun v1 m1 H => ?_)
  obtain ⟨u1, rfl, H⟩ := H
  refine y_st rfl rfl rfl rfl rfl (fun _ _ => rfl) ?_
  show yP (xg xs) (d + 1) 286 98 [(0, .ref 58), (1, .int l1), (2, .int l2), (3, .int l3)] [.int (32 : Int32), .int u1] m1 Q
  refine y_ieq (t := 107) rfl rfl rfl (fun h => ?_) (fun h => ?_)
  · replace H := H.1 h; clear h
    refine y_st rfl rfl rfl rfl rfl (fun _ _ => rfl) ?_
    refine y_st rfl rfl rfl rfl rfl (fun _ _ => rfl) ?_
    refine y_st rfl rfl rfl rfl rfl (fun _ _ => rfl) ?_
    show yP (xg xs) (d + 1) 286 4 [(2, .int (l2 + (1 : Int32))), (3, .int (l3 + (1 : Int32))), (0, .ref 58), (1, .int l1)] [] m1 Q
    refine y_headS (l2 := [(0, .ref 58), (1, .int l1), (2, .int (l2 + (1 : Int32))), (3, .int (l3 + (1 : Int32)))]) [2, 3, 0, 1] [0, 1, 2, 3] [2, 3, 0, 1] rfl rfl (by decide) rfl (by decide) ?_
    exact H
  · replace H := H.2 h; clear h
    refine y_st rfl rfl rfl rfl rfl (fun _ _ => rfl) ?_
    refine y_st rfl rfl rfl rfl rfl (fun _ _ => rfl) ?_
    show yP (xg xs) (d + 1) 286 90 [(3, .int (l3 + (1 : Int32))), (0, .ref 58), (1, .int l1), (2, .int l2)] [] m1 Q
    refine y_headS (l2 := [(0, .ref 58), (1, .int l1), (2, .int l2), (3, .int (l3 + (1 : Int32)))]) [1, 2, 3, 0] [0, 1, 2, 3] [3, 0, 1, 2] rfl rfl (by decide) rfl (by decide) ?_
    exact H
set_option maxRecDepth 20000 in
/-- CodeMakerModel.nameAt from 0 on -/
theorem w287_0 (xs : List Int32) (d : Nat) (l1 : Int32) (m : yM) (Q : Option Value → yM → Prop) (H : yP (xg xs) (d + 1) 287 2 [(0, .ref 58), (1, .int l1), (2, .int (0 : Int32))] [] m Q) : yP (xg xs) (d + 1) 287 0 [(0, .ref 58), (1, .int l1)] [] m Q := by
  refine y_st rfl rfl rfl rfl rfl (fun _ _ => rfl) ?_
  refine y_st rfl rfl rfl rfl rfl (fun _ _ => rfl) ?_
  show yP (xg xs) (d + 1) 287 2 [(2, .int (0 : Int32)), (0, .ref 58), (1, .int l1)] [] m Q
  refine y_headS (l2 := [(0, .ref 58), (1, .int l1), (2, .int (0 : Int32))]) [1, 2, 0] [0, 1, 2] [2, 0, 1] rfl rfl (by decide) rfl (by decide) ?_
  exact H
set_option maxRecDepth 20000 in
/-- CodeMakerModel.nameAt from 2 on -/
theorem w287_2 (xs : List Int32) (d : Nat) (l1 : Int32) (l2 : Int32) (m : yM) (Q : Option Value → yM → Prop) (H : (((m.1 58 12) ≤ l2 → yP (xg xs) (d + 1) 287 106 [(0, .ref 58), (1, .int l1), (2, .int (0 : Int32))] [] m Q) ∧ (¬ (m.1 58 12) ≤ l2 → (x_in l2 8200 = true ∧ (x_in (l2 + (1 : Int32)) 8200 = true ∧ ((¬ ((m.1 61 ((l2 + (1 : Int32)).toNatClampNeg)) - (m.1 61 l2.toNatClampNeg)) = l1 → yP (xg xs) (d + 1) 287 36 [(0, .ref 58), (1, .int l1), (2, .int l2), (3, .int (m.1 61 l2.toNatClampNeg))] [.int (0 : Int32)] m Q) ∧ (((m.1 61 ((l2 + (1 : Int32)).toNatClampNeg)) - (m.1 61 l2.toNatClampNeg)) = l1 → yP (xg xs) (d + 1) 287 36 [(0, .ref 58), (1, .int l1), (2, .int l2), (3, .int (m.1 61 l2.toNatClampNeg))] [.int (1 : Int32)] m Q))))))) : yP (xg xs) (d + 1) 287 2 [(0, .ref 58), (1, .int l1), (2, .int l2)] [] m Q := by
  refine y_st rfl rfl rfl rfl rfl (fun _ _ => rfl) ?_
  refine y_st rfl rfl rfl rfl rfl (fun _ _ => rfl) ?_
  refine y_gf rfl rfl rfl rfl rfl ?_
  show yP (xg xs) (d + 1) 287 7 [(0, .ref 58), (1, .int l1), (2, .int l2)] [.int (m.1 58 12), .int l2] m Q
  refine y_ige (t := 104) rfl rfl rfl (fun h => ?_) (fun h => ?_)
  · replace H := H.1 h; clear h
    refine y_st rfl rfl rfl rfl rfl (fun _ _ => rfl) ?_
    refine y_st rfl rfl rfl rfl rfl (fun _ _ => rfl) ?_
    show yP (xg xs) (d + 1) 287 106 [(2, .int (0 : Int32)), (0, .ref 58), (1, .int l1)] [] m Q
    refine y_headS (l2 := [(0, .ref 58), (1, .int l1), (2, .int (0 : Int32))]) [1, 2, 0] [0, 1, 2] [2, 0, 1] rfl rfl (by decide) rfl (by decide) ?_
    exact H
  · replace H := H.2 h; clear h
    refine y_st rfl rfl rfl rfl rfl (fun _ _ => rfl) ?_
    refine y_gf rfl rfl rfl rfl rfl ?_
    refine y_st rfl rfl rfl rfl rfl (fun _ _ => rfl) ?_
    show yP (xg xs) (d + 1) 287 15 [(0, .ref 58), (1, .int l1), (2, .int l2)] [.int l2, .ref 61] m Q
    refine y_iald rfl rfl rfl (H.1) ?_
    replace H := H.2
    refine y_st rfl rfl rfl rfl rfl (fun _ _ => rfl) ?_
    refine y_st rfl rfl rfl rfl rfl (fun _ _ => rfl) ?_
    refine y_gf rfl rfl rfl rfl rfl ?_
    refine y_st rfl rfl rfl rfl rfl (fun _ _ => rfl) ?_
    refine y_st rfl rfl rfl rfl rfl (fun _ _ => rfl) ?_
    refine y_st rfl rfl rfl rfl rfl (fun _ _ => rfl) ?_
    show yP (xg xs) (d + 1) 287 24 [(3, .int (m.1 61 l2.toNatClampNeg)), (0, .ref 58), (1, .int l1), (2, .int l2)] [.int (l2 + (1 : Int32)), .ref 61] m Q
    refine y_iald rfl rfl rfl (H.1) ?_
    replace H := H.2
    refine y_st rfl rfl rfl rfl rfl (fun _ _ => rfl) ?_
    refine y_st rfl rfl rfl rfl rfl (fun _ _ => rfl) ?_
    refine y_st rfl rfl rfl rfl rfl (fun _ _ => rfl) ?_
    show yP (xg xs) (d + 1) 287 28 [(3, .int (m.1 61 l2.toNatClampNeg)), (0, .ref 58), (1, .int l1), (2, .int l2)] [.int l1, .int ((m.1 61 ((l2 + (1 : Int32)).toNatClampNeg)) - (m.1 61 l2.toNatClampNeg))] m Q
    refine y_ine (t := 35) rfl rfl rfl (fun h => ?_) (fun h => ?_)
    · replace H := H.1 h; clear h
      refine y_st rfl rfl rfl rfl rfl (fun _ _ => rfl) ?_
      show yP (xg xs) (d + 1) 287 36 [(3, .int (m.1 61 l2.toNatClampNeg)), (0, .ref 58), (1, .int l1), (2, .int l2)] [.int (0 : Int32)] m Q
      refine y_headS (l2 := [(0, .ref 58), (1, .int l1), (2, .int l2), (3, .int (m.1 61 l2.toNatClampNeg))]) [1, 2, 3, 0] [0, 1, 2, 3] [3, 0, 1, 2] rfl rfl (by decide) rfl (by decide) ?_
      exact H
    · replace H := H.2 h; clear h
      refine y_st rfl rfl rfl rfl rfl (fun _ _ => rfl) ?_
      refine y_st rfl rfl rfl rfl rfl (fun _ _ => rfl) ?_
      show yP (xg xs) (d + 1) 287 36 [(3, .int (m.1 61 l2.toNatClampNeg)), (0, .ref 58), (1, .int l1), (2, .int l2)] [.int (1 : Int32)] m Q
      refine y_headS (l2 := [(0, .ref 58), (1, .int l1), (2, .int l2), (3, .int (m.1 61 l2.toNatClampNeg))]) [1, 2, 3, 0] [0, 1, 2, 3] [3, 0, 1, 2] rfl rfl (by decide) rfl (by decide) ?_
      exact H
set_option maxRecDepth 20000 in
/-- CodeMakerModel.nameAt from 36 on -/
theorem w287_36 (xs : List Int32) (d : Nat) (l1 : Int32) (l2 : Int32) (l3 : Int32) (s0 : Int32) (m : yM) (Q : Option Value → yM → Prop) (H : yP (xg xs) (d + 1) 287 41 [(0, .ref 58), (1, .int l1), (2, .int l2), (3, .int l3), (4, .int s0), (5, .int (0 : Int32))] [] m Q) : yP (xg xs) (d + 1) 287 36 [(0, .ref 58), (1, .int l1), (2, .int l2), (3, .int l3)] [.int s0] m Q := by
  refine y_st rfl rfl rfl rfl rfl (fun _ _ => rfl) ?_
  refine y_st rfl rfl rfl rfl rfl (fun _ _ => rfl) ?_
  refine y_st rfl rfl rfl rfl rfl (fun _ _ => rfl) ?_
  show yP (xg xs) (d + 1) 287 41 [(5, .int (0 : Int32)), (4, .int s0), (0, .ref 58), (1, .int l1), (2, .int l2), (3, .int l3)] [] m Q
  refine y_headS (l2 := [(0, .ref 58), (1, .int l1), (2, .int l2), (3, .int l3), (4, .int s0), (5, .int (0 : Int32))]) [2, 3, 4, 5, 1, 0] [0, 1, 2, 3, 4, 5] [5, 4, 0, 1, 2, 3] rfl rfl (by decide) rfl (by decide) ?_
  exact H
set_option maxRecDepth 20000 in
/-- CodeMakerModel.nameAt from 41 on -/
theorem w287_41 (xs : List Int32) (d : Nat) (l1 : Int32) (l2 : Int32) (l3 : Int32) (l4 : Int32) (l5 : Int32) (m : yM) (Q : Option Value → yM → Prop) (H : ((l1 ≤ l5 → yP (xg xs) (d + 1) 287 91 [(0, .ref 58), (1, .int l1), (2, .int l2), (4, .int l4)] [] m Q) ∧ (¬ l1 ≤ l5 → ((l4 = 0 → yP (xg xs) (d + 1) 287 91 [(0, .ref 58), (1, .int l1), (2, .int l2), (4, .int l4)] [] m Q) ∧ (¬ l4 = 0 → (x_in (l3 + l5) 8200 = true ∧ (yC (xg xs) d 274 [.ref 58, .int ((m.1 58 5) + l5)] m (fun v1 m1 => ∃ u1, v1 = some (Value.int u1) ∧ (yC (xg xs) d 279 [.int u1] m1 (fun v2 m2 => ∃ u2, v2 = some (Value.int u2) ∧ ((¬ (m.1 60 ((l3 + l5).toNatClampNeg)) = u2 → yP (xg xs) (d + 1) 287 83 [(0, .ref 58), (1, .int l1), (2, .int l2), (3, .int l3), (5, .int l5)] [.int (0 : Int32)] m2 Q) ∧ ((m.1 60 ((l3 + l5).toNatClampNeg)) = u2 → yP (xg xs) (d + 1) 287 83 [(0, .ref 58), (1, .int l1), (2, .int l2), (3, .int l3), (5, .int l5)] [.int (1 : Int32)] m2 Q)))))))))))) : yP (xg xs) (d + 1) 287 41 [(0, .ref 58), (1, .int l1), (2, .int l2), (3, .int l3), (4, .int l4), (5, .int l5)] [] m Q := by
  refine y_st rfl rfl rfl rfl rfl (fun _ _ => rfl) ?_
  refine y_st rfl rfl rfl rfl rfl (fun _ _ => rfl) ?_
  show yP (xg xs) (d + 1) 287 44 [(0, .ref 58), (1, .int l1), (2, .int l2), (3, .int l3), (4, .int l4), (5, .int l5)] [.int l1, .int l5] m Q
  refine y_ige (t := 91) rfl rfl rfl (fun h => ?_) (fun h => ?_)
  · replace H := H.1 h; clear h
    show yP (xg xs) (d + 1) 287 91 [(0, .ref 58), (1, .int l1), (2, .int l2), (3, .int l3), (4, .int l4), (5, .int l5)] [] m Q
    refine y_headS (l2 := [(0, .ref 58), (1, .int l1), (2, .int l2), (4, .int l4)]) [0, 1, 2, 4] [0, 1, 2, 4] [0, 1, 2, 3, 4, 5] rfl rfl (by decide) rfl (by decide) ?_
    exact H
  · replace H := H.2 h; clear h
    refine y_st rfl rfl rfl rfl rfl (fun _ _ => rfl) ?_
    show yP (xg xs) (d + 1) 287 49 [(0, .ref 58), (1, .int l1), (2, .int l2), (3, .int l3), (4, .int l4), (5, .int l5)] [.int l4] m Q
    refine y_zeq (t := 91) rfl rfl rfl (fun h => ?_) (fun h => ?_)
    · replace H := H.1 h; clear h
      show yP (xg xs) (d + 1) 287 91 [(0, .ref 58), (1, .int l1), (2, .int l2), (3, .int l3), (4, .int l4), (5, .int l5)] [] m Q
      refine y_headS (l2 := [(0, .ref 58), (1, .int l1), (2, .int l2), (4, .int l4)]) [0, 1, 2, 4] [0, 1, 2, 4] [0, 1, 2, 3, 4, 5] rfl rfl (by decide) rfl (by decide) ?_
      exact H
    · replace H := H.2 h; clear h
      refine y_st rfl rfl rfl rfl rfl (fun _ _ => rfl) ?_
      refine y_gf rfl rfl rfl rfl rfl ?_
      refine y_st rfl rfl rfl rfl rfl (fun _ _ => rfl) ?_
      refine y_st rfl rfl rfl rfl rfl (fun _ _ => rfl) ?_
      refine y_st rfl rfl rfl rfl rfl (fun _ _ => rfl) ?_
      show yP (xg xs) (d + 1) 287 60 [(0, .ref 58), (1, .int l1), (2, .int l2), (3, .int l3), (4, .int l4), (5, .int l5)] [.int (l3 + l5), .ref 60] m Q
      refine y_bald rfl rfl rfl (by decide) (H.1) ?_
      replace H := H.2
      refine y_st rfl rfl rfl rfl rfl (fun _ _ => rfl) ?_
      refine y_st rfl rfl rfl rfl rfl (fun _ _ => rfl) ?_
      refine y_gf rfl rfl rfl rfl rfl ?_
      refine y_st rfl rfl rfl rfl rfl (fun _ _ => rfl) ?_
      refine y_st rfl rfl rfl rfl rfl (fun _ _ => rfl) ?_
      show yP (xg xs) (d + 1) 287 69 [(0, .ref 58), (1, .int l1), (2, .int l2), (3, .int l3), (4, .int l4), (5, .int l5)] [.int ((m.1 58 5) + l5), .ref 58, .int (m.1 60 ((l3 + l5).toNatClampNeg))] m Q
      refine y_call rfl rfl rfl rfl rfl (Nat.le_of_ble_eq_true rfl) (Nat.le_of_ble_eq_true rfl) rfl (by decide) H (fun v1 m1 H => ?_)
      obtain ⟨u1, rfl, H⟩ := H
      show yP (xg xs) (d + 1) 287 72 [(0, .ref 58), (1, .int l1), (2, .int l2), (3, .int l3), (4, .int l4), (5, .int l5)] [.int u1, .int (m.1 60 ((l3 + l5).toNatClampNeg))] m1 Q
      refine y_call rfl rfl rfl rfl rfl (Nat.le_of_ble_eq_true rfl) (Nat.le_of_ble_eq_true rfl) rfl (by decide) H (fun v2 m2 H => ?_)
      obtain ⟨u2, rfl, H⟩ := H
      show yP (xg xs) (d + 1) 287 75 [(0, .ref 58), (1, .int l1), (2, .int l2), (3, .int l3), (4, .int l4), (5, .int l5)] [.int u2, .int (m.1 60 ((l3 + l5).toNatClampNeg))] m2 Q
      refine y_ine (t := 82) rfl rfl rfl (fun h => ?_) (fun h => ?_)
      · replace H := H.1 h; clear h
        refine y_st rfl rfl rfl rfl rfl (fun _ _ => rfl) ?_
        show yP (xg xs) (d + 1) 287 83 [(0, .ref 58), (1, .int l1), (2, .int l2), (3, .int l3), (4, .int l4), (5, .int l5)] [.int (0 : Int32)] m2 Q
        refine y_headS (l2 := [(0, .ref 58), (1, .int l1), (2, .int l2), (3, .int l3), (5, .int l5)]) [0, 1, 2, 3, 5] [0, 1, 2, 3, 5] [0, 1, 2, 3, 4, 5] rfl rfl (by decide) rfl (by decide) ?_
        exact H
      · replace H := H.2 h; clear h
        refine y_st rfl rfl rfl rfl rfl (fun _ _ => rfl) ?_
        refine y_st rfl rfl rfl rfl rfl (fun _ _ => rfl) ?_
        show yP (xg xs) (d + 1) 287 83 [(0, .ref 58), (1, .int l1), (2, .int l2), (3, .int l3), (4, .int l4), (5, .int l5)] [.int (1 : Int32)] m2 Q
        refine y_headS (l2 := [(0, .ref 58), (1, .int l1), (2, .int l2), (3, .int l3), (5, .int l5)]) [0, 1, 2, 3, 5] [0, 1, 2, 3, 5] [0, 1, 2, 3, 4, 5] rfl rfl (by decide) rfl (by decide) ?_
        exact H
set_option maxRecDepth 20000 in
/-- CodeMakerModel.nameAt from 83 on -/
theorem w287_83 (xs : List Int32) (d : Nat) (l1 : Int32) (l2 : Int32) (l3 : Int32) (l5 : Int32) (s0 : Int32) (m : yM) (Q : Option Value → yM → Prop) (H : yP (xg xs) (d + 1) 287 41 [(0, .ref 58), (1, .int l1), (2, .int l2), (3, .int l3), (4, .int s0), (5, .int (l5 + (1 : Int32)))] [] m Q) : yP (xg xs) (d + 1) 287 83 [(0, .ref 58), (1, .int l1), (2, .int l2), (3, .int l3), (5, .int l5)] [.int s0] m Q := by
  refine y_st rfl rfl rfl rfl rfl (fun _ _ => rfl) ?_
  refine y_st rfl rfl rfl rfl rfl (fun _ _ => rfl) ?_
  refine y_st rfl rfl rfl rfl rfl (fun _ _ => rfl) ?_
  show yP (xg xs) (d + 1) 287 41 [(5, .int (l5 + (1 : Int32))), (4, .int s0), (0, .ref 58), (1, .int l1), (2, .int l2), (3, .int l3)] [] m Q
  refine y_headS (l2 := [(0, .ref 58), (1, .int l1), (2, .int l2), (3, .int l3), (4, .int s0), (5, .int (l5 + (1 : Int32)))]) [2, 3, 4, 5, 1, 0] [0, 1, 2, 3, 4, 5] [5, 4, 0, 1, 2, 3] rfl rfl (by decide) rfl (by decide) ?_
  exact H
set_option maxRecDepth 20000 in
/-- CodeMakerModel.nameAt from 91 on -/
theorem w287_91 (xs : List Int32) (d : Nat) (l1 : Int32) (l2 : Int32) (l4 : Int32) (m : yM) (Q : Option Value → yM → Prop) (H : ((l4 = 0 → yP (xg xs) (d + 1) 287 2 [(0, .ref 58), (1, .int l1), (2, .int (l2 + (1 : Int32)))] [] m Q) ∧ (¬ l4 = 0 → Q (some (.int l2)) m))) : yP (xg xs) (d + 1) 287 91 [(0, .ref 58), (1, .int l1), (2, .int l2), (4, .int l4)] [] m Q := by
  refine y_st rfl rfl rfl rfl rfl (fun _ _ => rfl) ?_
  show yP (xg xs) (d + 1) 287 93 [(0, .ref 58), (1, .int l1), (2, .int l2), (4, .int l4)] [.int l4] m Q
  refine y_zeq (t := 98) rfl rfl rfl (fun h => ?_) (fun h => ?_)
  · replace H := H.1 h; clear h
    refine y_st rfl rfl rfl rfl rfl (fun _ _ => rfl) ?_
    refine y_st rfl rfl rfl rfl rfl (fun _ _ => rfl) ?_
    show yP (xg xs) (d + 1) 287 2 [(2, .int (l2 + (1 : Int32))), (0, .ref 58), (1, .int l1), (4, .int l4)] [] m Q
    refine y_headS (l2 := [(0, .ref 58), (1, .int l1), (2, .int (l2 + (1 : Int32)))]) [1, 2, 0] [0, 1, 2] [2, 0, 1, 4] rfl rfl (by decide) rfl (by decide) ?_
    exact H
  · replace H := H.2 h; clear h
    refine y_st rfl rfl rfl rfl rfl (fun _ _ => rfl) ?_
    show yP (xg xs) (d + 1) 287 97 [(0, .ref 58), (1, .int l1), (2, .int l2), (4, .int l4)] [.int l2] m Q
    exact y_iret rfl rfl rfl H
set_option maxRecDepth 20000 in
/-- CodeMakerModel.nameAt from 106 on -/
theorem w287_106 (xs : List Int32) (d : Nat) (l1 : Int32) (l2 : Int32) (m : yM) (Q : Option Value → yM → Prop) (H : ((l1 ≤ l2 → (x_in (m.1 58 12) 8200 = true ∧ (x_in ((m.1 58 12) + (1 : Int32)) 8200 = true ∧ Q (some (.int (((m.1 58 12) + (1 : Int32)) - (1 : Int32)))) (y_si (y_si m 61 (((m.1 58 12) + (1 : Int32)).toNatClampNeg) ((m.1 61 ((m.1 58 12).toNatClampNeg)) + l1)) 58 12 ((m.1 58 12) + (1 : Int32)))))) ∧ (¬ l1 ≤ l2 → (x_in (m.1 58 12) 8200 = true ∧ (yC (xg xs) d 274 [.ref 58, .int ((m.1 58 5) + l2)] m (fun v1 m1 => ∃ u1, v1 = some (Value.int u1) ∧ (yC (xg xs) d 279 [.int u1] m1 (fun v2 m2 => ∃ u2, v2 = some (Value.int u2) ∧ (x_in ((m.1 61 ((m.1 58 12).toNatClampNeg)) + l2) 8200 = true ∧ yP (xg xs) (d + 1) 287 106 [(0, .ref 58), (1, .int l1), (2, .int (l2 + (1 : Int32)))] [] (y_si m2 60 (((m.1 61 ((m.1 58 12).toNatClampNeg)) + l2).toNatClampNeg) (vp_nar .byte u2.toInt8.toInt32)) Q))))))))) : yP (xg xs) (d + 1) 287 106 [(0, .ref 58), (1, .int l1), (2, .int l2)] [] m Q := by
  refine y_st rfl rfl rfl rfl rfl (fun _ _ => rfl) ?_
  refine y_st rfl rfl rfl rfl rfl (fun _ _ => rfl) ?_
  show yP (xg xs) (d + 1) 287 108 [(0, .ref 58), (1, .int l1), (2, .int l2)] [.int l1, .int l2] m Q
  refine y_ige (t := 147) rfl rfl rfl (fun h => ?_) (fun h => ?_)
  · replace H := H.1 h; clear h
    refine y_st rfl rfl rfl rfl rfl (fun _ _ => rfl) ?_
    refine y_gf rfl rfl rfl rfl rfl ?_
    refine y_st rfl rfl rfl rfl rfl (fun _ _ => rfl) ?_
    refine y_gf rfl rfl rfl rfl rfl ?_
    refine y_st rfl rfl rfl rfl rfl (fun _ _ => rfl) ?_
    refine y_st rfl rfl rfl rfl rfl (fun _ _ => rfl) ?_
    refine y_st rfl rfl rfl rfl rfl (fun _ _ => rfl) ?_
    refine y_gf rfl rfl rfl rfl rfl ?_
    refine y_st rfl rfl rfl rfl rfl (fun _ _ => rfl) ?_
    refine y_gf rfl rfl rfl rfl rfl ?_
    show yP (xg xs) (d + 1) 287 165 [(0, .ref 58), (1, .int l1), (2, .int l2)] [.int (m.1 58 12), .ref 61, .int ((m.1 58 12) + (1 : Int32)), .ref 61] m Q
    refine y_iald rfl rfl rfl (H.1) ?_
    replace H := H.2
    refine y_st rfl rfl rfl rfl rfl (fun _ _ => rfl) ?_
    refine y_st rfl rfl rfl rfl rfl (fun _ _ => rfl) ?_
    show yP (xg xs) (d + 1) 287 168 [(0, .ref 58), (1, .int l1), (2, .int l2)] [.int ((m.1 61 ((m.1 58 12).toNatClampNeg)) + l1), .int ((m.1 58 12) + (1 : Int32)), .ref 61] m Q
    refine y_iast rfl rfl rfl (H.1) ?_
    replace H := H.2
    refine y_st rfl rfl rfl rfl rfl (fun _ _ => rfl) ?_
    refine y_st rfl rfl rfl rfl rfl (fun _ _ => rfl) ?_
    refine y_gf rfl rfl rfl rfl rfl ?_
    refine y_st rfl rfl rfl rfl rfl (fun _ _ => rfl) ?_
    refine y_st rfl rfl rfl rfl rfl (fun _ _ => rfl) ?_
    refine y_pfi rfl rfl rfl rfl rfl (x_fit_i _) ?_
    show yP (xg xs) (d + 1) 287 179 [(0, .ref 58), (1, .int l1), (2, .int l2)] [] (y_si (y_si m 61 (((m.1 58 12) + (1 : Int32)).toNatClampNeg) ((m.1 61 ((m.1 58 12).toNatClampNeg)) + l1)) 58 12 ((m.1 58 12) + (1 : Int32))) Q
    refine y_st rfl rfl rfl rfl rfl (fun _ _ => rfl) ?_
    refine y_gf rfl rfl rfl rfl rfl ?_
    refine y_st rfl rfl rfl rfl rfl (fun _ _ => rfl) ?_
    refine y_st rfl rfl rfl rfl rfl (fun _ _ => rfl) ?_
    show yP (xg xs) (d + 1) 287 185 [(0, .ref 58), (1, .int l1), (2, .int l2)] [.int (((m.1 58 12) + (1 : Int32)) - (1 : Int32))] (y_si (y_si m 61 (((m.1 58 12) + (1 : Int32)).toNatClampNeg) ((m.1 61 ((m.1 58 12).toNatClampNeg)) + l1)) 58 12 ((m.1 58 12) + (1 : Int32))) Q
    exact y_iret rfl rfl rfl H
  · replace H := H.2 h; clear h
    refine y_st rfl rfl rfl rfl rfl (fun _ _ => rfl) ?_
    refine y_gf rfl rfl rfl rfl rfl ?_
    refine y_st rfl rfl rfl rfl rfl (fun _ _ => rfl) ?_
    refine y_gf rfl rfl rfl rfl rfl ?_
    refine y_st rfl rfl rfl rfl rfl (fun _ _ => rfl) ?_
    refine y_gf rfl rfl rfl rfl rfl ?_
    show yP (xg xs) (d + 1) 287 123 [(0, .ref 58), (1, .int l1), (2, .int l2)] [.int (m.1 58 12), .ref 61, .ref 60] m Q
    refine y_iald rfl rfl rfl (H.1) ?_
    replace H := H.2
    refine y_st rfl rfl rfl rfl rfl (fun _ _ => rfl) ?_
    refine y_st rfl rfl rfl rfl rfl (fun _ _ => rfl) ?_
    refine y_st rfl rfl rfl rfl rfl (fun _ _ => rfl) ?_
    refine y_st rfl rfl rfl rfl rfl (fun _ _ => rfl) ?_
    refine y_gf rfl rfl rfl rfl rfl ?_
    refine y_st rfl rfl rfl rfl rfl (fun _ _ => rfl) ?_
    refine y_st rfl rfl rfl rfl rfl (fun _ _ => rfl) ?_
    show yP (xg xs) (d + 1) 287 133 [(0, .ref 58), (1, .int l1), (2, .int l2)] [.int ((m.1 58 5) + l2), .ref 58, .int ((m.1 61 ((m.1 58 12).toNatClampNeg)) + l2), .ref 60] m Q
    refine y_call rfl rfl rfl rfl rfl (Nat.le_of_ble_eq_true rfl) (Nat.le_of_ble_eq_true rfl) rfl (by decide) H (fun v1 m1 H => ?_)
    obtain ⟨u1, rfl, H⟩ := H
    show yP (xg xs) (d + 1) 287 136 [(0, .ref 58), (1, .int l1), (2, .int l2)] [.int u1, .int ((m.1 61 ((m.1 58 12).toNatClampNeg)) + l2), .ref 60] m1 Q
    refine y_call rfl rfl rfl rfl rfl (Nat.le_of_ble_eq_true rfl) (Nat.le_of_ble_eq_true rfl) rfl (by decide) H (fun v2 m2 H => ?_)
    obtain ⟨u2, rfl, H⟩ := H
    refine y_st rfl rfl rfl rfl rfl (fun _ _ => rfl) ?_
    show yP (xg xs) (d + 1) 287 140 [(0, .ref 58), (1, .int l1), (2, .int l2)] [.int u2.toInt8.toInt32, .int ((m.1 61 ((m.1 58 12).toNatClampNeg)) + l2), .ref 60] m2 Q
    refine y_bast rfl rfl rfl (H.1) ?_
    replace H := H.2
    refine y_st rfl rfl rfl rfl rfl (fun _ _ => rfl) ?_
    refine y_st rfl rfl rfl rfl rfl (fun _ _ => rfl) ?_
    show yP (xg xs) (d + 1) 287 106 [(2, .int (l2 + (1 : Int32))), (0, .ref 58), (1, .int l1)] [] (y_si m2 60 (((m.1 61 ((m.1 58 12).toNatClampNeg)) + l2).toNatClampNeg) (vp_nar .byte u2.toInt8.toInt32)) Q
    refine y_headS (l2 := [(0, .ref 58), (1, .int l1), (2, .int (l2 + (1 : Int32)))]) [1, 2, 0] [0, 1, 2] [2, 0, 1] rfl rfl (by decide) rfl (by decide) ?_
    exact H
set_option maxRecDepth 20000 in
/-- CodeMakerModel.readPlace from 0 on -/
theorem w288_0 (xs : List Int32) (d : Nat) (m : yM) (Q : Option Value → yM → Prop) (H : (yC (xg xs) d 274 [.ref 58, .int ((m.1 58 5) + (1 : Int32))] m (fun v1 m1 => ∃ u1, v1 = some (Value.int u1) ∧ (yC (xg xs) d 279 [.int u1] m1 (fun v2 m2 => ∃ u2, v2 = some (Value.int u2) ∧ (yC (xg xs) d 274 [.ref 58, .int ((m2.1 58 5) + (2 : Int32))] m2 (fun v3 m3 => ∃ u3, v3 = some (Value.int u3) ∧ (yC (xg xs) d 279 [.int u3] m3 (fun v4 m4 => ∃ u4, v4 = some (Value.int u4) ∧ ((¬ u2 = (73 : Int32) → ((¬ u2 = (81 : Int32) → ((¬ u2 = (77 : Int32) → yP (xg xs) (d + 1) 288 59 [(0, .ref 58), (2, .int u4)] [.int ((-1) : Int32)] m4 Q) ∧ (u2 = (77 : Int32) → yP (xg xs) (d + 1) 288 59 [(0, .ref 58), (2, .int u4)] [.int (2 : Int32)] m4 Q))) ∧ (u2 = (81 : Int32) → yP (xg xs) (d + 1) 288 59 [(0, .ref 58), (2, .int u4)] [.int (1 : Int32)] m4 Q))) ∧ (u2 = (73 : Int32) → yP (xg xs) (d + 1) 288 59 [(0, .ref 58), (2, .int u4)] [.int (0 : Int32)] m4 Q))))))))))) : yP (xg xs) (d + 1) 288 0 [(0, .ref 58)] [] m Q := by
  refine y_st rfl rfl rfl rfl rfl (fun _ _ => rfl) ?_
  refine y_st rfl rfl rfl rfl rfl (fun _ _ => rfl) ?_
  refine y_gf rfl rfl rfl rfl rfl ?_
  refine y_st rfl rfl rfl rfl rfl (fun _ _ => rfl) ?_
  refine y_st rfl rfl rfl rfl rfl (fun _ _ => rfl) ?_
  show yP (xg xs) (d + 1) 288 7 [(0, .ref 58)] [.int ((m.1 58 5) + (1 : Int32)), .ref 58] m Q
  refine y_call rfl rfl rfl rfl rfl (Nat.le_of_ble_eq_true rfl) (Nat.le_of_ble_eq_true rfl) rfl (by decide) H (fun v1 m1 H => ?_)
  obtain ⟨u1, rfl, H⟩ := H
  show yP (xg xs) (d + 1) 288 10 [(0, .ref 58)] [.int u1] m1 Q
  refine y_call rfl rfl rfl rfl rfl (Nat.le_of_ble_eq_true rfl) (Nat.le_of_ble_eq_true rfl) rfl (by decide) H (fun v2 m2 H => ?_)
  obtain ⟨u2, rfl, H⟩ := H
  refine y_st rfl rfl rfl rfl rfl (fun _ _ => rfl) ?_
  refine y_st rfl rfl rfl rfl rfl (fun _ _ => rfl) ?_
  refine y_st rfl rfl rfl rfl rfl (fun _ _ => rfl) ?_
  refine y_gf rfl rfl rfl rfl rfl ?_
  refine y_st rfl rfl rfl rfl rfl (fun _ _ => rfl) ?_
  refine y_st rfl rfl rfl rfl rfl (fun _ _ => rfl) ?_
  show yP (xg xs) (d + 1) 288 21 [(1, .int u2), (0, .ref 58)] [.int ((m2.1 58 5) + (2 : Int32)), .ref 58] m2 Q
  refine y_call rfl rfl rfl rfl rfl (Nat.le_of_ble_eq_true rfl) (Nat.le_of_ble_eq_true rfl) rfl (by decide) H (fun v3 m3 H => ?_)
  obtain ⟨u3, rfl, H⟩ := H
  show yP (xg xs) (d + 1) 288 24 [(1, .int u2), (0, .ref 58)] [.int u3] m3 Q
  refine y_call rfl rfl rfl rfl rfl (Nat.le_of_ble_eq_true rfl) (Nat.le_of_ble_eq_true rfl) rfl (by decide) H (fun v4 m4 H => ?_)
  obtain ⟨u4, rfl, H⟩ := H
  refine y_st rfl rfl rfl rfl rfl (fun _ _ => rfl) ?_
  refine y_st rfl rfl rfl rfl rfl (fun _ _ => rfl) ?_
  refine y_st rfl rfl rfl rfl rfl (fun _ _ => rfl) ?_
  show yP (xg xs) (d + 1) 288 31 [(2, .int u4), (1, .int u2), (0, .ref 58)] [.int (73 : Int32), .int u2] m4 Q
  refine y_ine (t := 38) rfl rfl rfl (fun h => ?_) (fun h => ?_)
  · replace H := H.1 h; clear h
    refine y_st rfl rfl rfl rfl rfl (fun _ _ => rfl) ?_
    refine y_st rfl rfl rfl rfl rfl (fun _ _ => rfl) ?_
    show yP (xg xs) (d + 1) 288 41 [(2, .int u4), (1, .int u2), (0, .ref 58)] [.int (81 : Int32), .int u2] m4 Q
    refine y_ine (t := 48) rfl rfl rfl (fun h => ?_) (fun h => ?_)
    · replace H := H.1 h; clear h
      refine y_st rfl rfl rfl rfl rfl (fun _ _ => rfl) ?_
      refine y_st rfl rfl rfl rfl rfl (fun _ _ => rfl) ?_
      show yP (xg xs) (d + 1) 288 51 [(2, .int u4), (1, .int u2), (0, .ref 58)] [.int (77 : Int32), .int u2] m4 Q
      refine y_ine (t := 58) rfl rfl rfl (fun h => ?_) (fun h => ?_)
      · replace H := H.1 h; clear h
        refine y_st rfl rfl rfl rfl rfl (fun _ _ => rfl) ?_
        show yP (xg xs) (d + 1) 288 59 [(2, .int u4), (1, .int u2), (0, .ref 58)] [.int ((-1) : Int32)] m4 Q
        refine y_headS (l2 := [(0, .ref 58), (2, .int u4)]) [2, 0] [0, 2] [2, 1, 0] rfl rfl (by decide) rfl (by decide) ?_
        exact H
      · replace H := H.2 h; clear h
        refine y_st rfl rfl rfl rfl rfl (fun _ _ => rfl) ?_
        refine y_st rfl rfl rfl rfl rfl (fun _ _ => rfl) ?_
        show yP (xg xs) (d + 1) 288 59 [(2, .int u4), (1, .int u2), (0, .ref 58)] [.int (2 : Int32)] m4 Q
        refine y_headS (l2 := [(0, .ref 58), (2, .int u4)]) [2, 0] [0, 2] [2, 1, 0] rfl rfl (by decide) rfl (by decide) ?_
        exact H
    · replace H := H.2 h; clear h
      refine y_st rfl rfl rfl rfl rfl (fun _ _ => rfl) ?_
      refine y_st rfl rfl rfl rfl rfl (fun _ _ => rfl) ?_
      show yP (xg xs) (d + 1) 288 59 [(2, .int u4), (1, .int u2), (0, .ref 58)] [.int (1 : Int32)] m4 Q
      refine y_headS (l2 := [(0, .ref 58), (2, .int u4)]) [2, 0] [0, 2] [2, 1, 0] rfl rfl (by decide) rfl (by decide) ?_
      exact H
  · replace H := H.2 h; clear h
    refine y_st rfl rfl rfl rfl rfl (fun _ _ => rfl) ?_
    refine y_st rfl rfl rfl rfl rfl (fun _ _ => rfl) ?_
    show yP (xg xs) (d + 1) 288 59 [(2, .int u4), (1, .int u2), (0, .ref 58)] [.int (0 : Int32)] m4 Q
    refine y_headS (l2 := [(0, .ref 58), (2, .int u4)]) [2, 0] [0, 2] [2, 1, 0] rfl rfl (by decide) rfl (by decide) ?_
    exact H
set_option maxRecDepth 20000 in
/-- CodeMakerModel.readPlace from 59 on -/
theorem w288_59 (xs : List Int32) (d : Nat) (l2 : Int32) (s0 : Int32) (m : yM) (Q : Option Value → yM → Prop) (H : yP (xg xs) (d + 1) 288 71 [(0, .ref 58), (2, .int l2), (3, .int s0), (4, .int ((m.1 58 5) + (3 : Int32))), (5, .long (0 : Int64))] [] m Q) : yP (xg xs) (d + 1) 288 59 [(0, .ref 58), (2, .int l2)] [.int s0] m Q := by
  refine y_st rfl rfl rfl rfl rfl (fun _ _ => rfl) ?_
  refine y_st rfl rfl rfl rfl rfl (fun _ _ => rfl) ?_
  refine y_gf rfl rfl rfl rfl rfl ?_
  refine y_st rfl rfl rfl rfl rfl (fun _ _ => rfl) ?_
  refine y_st rfl rfl rfl rfl rfl (fun _ _ => rfl) ?_
  refine y_st rfl rfl rfl rfl rfl (fun _ _ => rfl) ?_
  refine y_st rfl rfl rfl rfl rfl (fun _ _ => rfl) ?_
  refine y_st rfl rfl rfl rfl rfl (fun _ _ => rfl) ?_
  show yP (xg xs) (d + 1) 288 71 [(5, .long (0 : Int64)), (4, .int ((m.1 58 5) + (3 : Int32))), (3, .int s0), (0, .ref 58), (2, .int l2)] [] m Q
  refine y_headS (l2 := [(0, .ref 58), (2, .int l2), (3, .int s0), (4, .int ((m.1 58 5) + (3 : Int32))), (5, .long (0 : Int64))]) [3, 4, 2, 1, 0] [0, 2, 3, 4, 5] [5, 4, 3, 0, 2] rfl rfl (by decide) rfl (by decide) ?_
  exact H
set_option maxRecDepth 20000 in
/-- CodeMakerModel.readPlace from 71 on -/
theorem w288_71 (xs : List Int32) (d : Nat) (l2 : Int32) (l3 : Int32) (l4 : Int32) (l5 : Int64) (m : yM) (Q : Option Value → yM → Prop) (H : (yC (xg xs) d 274 [.ref 58, .int l4] m (fun v1 m1 => ∃ u1, v1 = some (Value.int u1) ∧ (yC (xg xs) d 278 [.int u1] m1 (fun v2 m2 => ∃ u2, v2 = some (Value.int u2) ∧ ((u2 = 0 → ((l3 = ((-1) : Int32) → yP (xg xs) (d + 1) 288 172 [(0, .ref 58), (2, .int l2), (3, .int l3), (4, .int l4), (5, .long l5)] [] m2 Q) ∧ (¬ l3 = ((-1) : Int32) → ((l2 = (88 : Int32) → yP (xg xs) (d + 1) 288 124 [(0, .ref 58), (2, .int l2), (3, .int l3), (4, .int l4), (5, .long l5)] [] m2 Q) ∧ (¬ l2 = (88 : Int32) → ((¬ l2 = (87 : Int32) → yP (xg xs) (d + 1) 288 172 [(0, .ref 58), (2, .int l2), (3, .int l3), (4, .int l4), (5, .long l5)] [] m2 Q) ∧ (l2 = (87 : Int32) → yP (xg xs) (d + 1) 288 124 [(0, .ref 58), (2, .int l2), (3, .int l3), (4, .int l4), (5, .long l5)] [] m2 Q))))))) ∧ (¬ u2 = 0 → (yC (xg xs) d 274 [.ref 58, .int l4] m2 (fun v3 m3 => ∃ u3, v3 = some (Value.int u3) ∧ (yC (xg xs) d 281 [.long l5, .int (10 : Int32), .int (u3 - (48 : Int32))] m3 (fun v4 m4 => ∃ u4, v4 = some (Value.long u4) ∧ yP (xg xs) (d + 1) 288 71 [(0, .ref 58), (2, .int l2), (3, .int l3), (4, .int (l4 + (1 : Int32))), (5, .long u4)] [] m4 Q))))))))))) : yP (xg xs) (d + 1) 288 71 [(0, .ref 58), (2, .int l2), (3, .int l3), (4, .int l4), (5, .long l5)] [] m Q := by
  refine y_st rfl rfl rfl rfl rfl (fun _ _ => rfl) ?_
  refine y_st rfl rfl rfl rfl rfl (fun _ _ => rfl) ?_
  show yP (xg xs) (d + 1) 288 74 [(0, .ref 58), (2, .int l2), (3, .int l3), (4, .int l4), (5, .long l5)] [.int l4, .ref 58] m Q
  refine y_call rfl rfl rfl rfl rfl (Nat.le_of_ble_eq_true rfl) (Nat.le_of_ble_eq_true rfl) rfl (by decide) H (fun v1 m1 H => ?_)
  obtain ⟨u1, rfl, H⟩ := H
  show yP (xg xs) (d + 1) 288 77 [(0, .ref 58), (2, .int l2), (3, .int l3), (4, .int l4), (5, .long l5)] [.int u1] m1 Q
  refine y_call rfl rfl rfl rfl rfl (Nat.le_of_ble_eq_true rfl) (Nat.le_of_ble_eq_true rfl) rfl (by decide) H (fun v2 m2 H => ?_)
  obtain ⟨u2, rfl, H⟩ := H
  show yP (xg xs) (d + 1) 288 80 [(0, .ref 58), (2, .int l2), (3, .int l3), (4, .int l4), (5, .long l5)] [.int u2] m2 Q
  refine y_zeq (t := 107) rfl rfl rfl (fun h => ?_) (fun h => ?_)
  · replace H := H.1 h; clear h
    refine y_st rfl rfl rfl rfl rfl (fun _ _ => rfl) ?_
    refine y_st rfl rfl rfl rfl rfl (fun _ _ => rfl) ?_
    show yP (xg xs) (d + 1) 288 109 [(0, .ref 58), (2, .int l2), (3, .int l3), (4, .int l4), (5, .long l5)] [.int ((-1) : Int32), .int l3] m2 Q
    refine y_ieq (t := 172) rfl rfl rfl (fun h => ?_) (fun h => ?_)
    · replace H := H.1 h; clear h
      show yP (xg xs) (d + 1) 288 172 [(0, .ref 58), (2, .int l2), (3, .int l3), (4, .int l4), (5, .long l5)] [] m2 Q
      exact H
    · replace H := H.2 h; clear h
      refine y_st rfl rfl rfl rfl rfl (fun _ _ => rfl) ?_
      refine y_st rfl rfl rfl rfl rfl (fun _ _ => rfl) ?_
      show yP (xg xs) (d + 1) 288 115 [(0, .ref 58), (2, .int l2), (3, .int l3), (4, .int l4), (5, .long l5)] [.int (88 : Int32), .int l2] m2 Q
      refine y_ieq (t := 124) rfl rfl rfl (fun h => ?_) (fun h => ?_)
      · replace H := H.1 h; clear h
        show yP (xg xs) (d + 1) 288 124 [(0, .ref 58), (2, .int l2), (3, .int l3), (4, .int l4), (5, .long l5)] [] m2 Q
        exact H
      · replace H := H.2 h; clear h
        refine y_st rfl rfl rfl rfl rfl (fun _ _ => rfl) ?_
        refine y_st rfl rfl rfl rfl rfl (fun _ _ => rfl) ?_
        show yP (xg xs) (d + 1) 288 121 [(0, .ref 58), (2, .int l2), (3, .int l3), (4, .int l4), (5, .long l5)] [.int (87 : Int32), .int l2] m2 Q
        refine y_ine (t := 172) rfl rfl rfl (fun h => ?_) (fun h => ?_)
        · replace H := H.1 h; clear h
          show yP (xg xs) (d + 1) 288 172 [(0, .ref 58), (2, .int l2), (3, .int l3), (4, .int l4), (5, .long l5)] [] m2 Q
          exact H
        · replace H := H.2 h; clear h
          show yP (xg xs) (d + 1) 288 124 [(0, .ref 58), (2, .int l2), (3, .int l3), (4, .int l4), (5, .long l5)] [] m2 Q
          exact H
  · replace H := H.2 h; clear h
    refine y_st rfl rfl rfl rfl rfl (fun _ _ => rfl) ?_
    refine y_st rfl rfl rfl rfl rfl (fun _ _ => rfl) ?_
    refine y_st rfl rfl rfl rfl rfl (fun _ _ => rfl) ?_
    refine y_st rfl rfl rfl rfl rfl (fun _ _ => rfl) ?_
    show yP (xg xs) (d + 1) 288 90 [(0, .ref 58), (2, .int l2), (3, .int l3), (4, .int l4), (5, .long l5)] [.int l4, .ref 58, .int (10 : Int32), .long l5] m2 Q
    refine y_call rfl rfl rfl rfl rfl (Nat.le_of_ble_eq_true rfl) (Nat.le_of_ble_eq_true rfl) rfl (by decide) H (fun v3 m3 H => ?_)
    obtain ⟨u3, rfl, H⟩ := H
    refine y_st rfl rfl rfl rfl rfl (fun _ _ => rfl) ?_
    refine y_st rfl rfl rfl rfl rfl (fun _ _ => rfl) ?_
    show yP (xg xs) (d + 1) 288 96 [(0, .ref 58), (2, .int l2), (3, .int l3), (4, .int l4), (5, .long l5)] [.int (u3 - (48 : Int32)), .int (10 : Int32), .long l5] m3 Q
    refine y_call rfl rfl rfl rfl rfl (Nat.le_of_ble_eq_true rfl) (Nat.le_of_ble_eq_true rfl) rfl (by decide) H (fun v4 m4 H => ?_)
    obtain ⟨u4, rfl, H⟩ := H
    refine y_st rfl rfl rfl rfl rfl (fun _ _ => rfl) ?_
    refine y_st rfl rfl rfl rfl rfl (fun _ _ => rfl) ?_
    refine y_st rfl rfl rfl rfl rfl (fun _ _ => rfl) ?_
    show yP (xg xs) (d + 1) 288 71 [(4, .int (l4 + (1 : Int32))), (5, .long u4), (0, .ref 58), (2, .int l2), (3, .int l3)] [] m4 Q
    refine y_headS (l2 := [(0, .ref 58), (2, .int l2), (3, .int l3), (4, .int (l4 + (1 : Int32))), (5, .long u4)]) [2, 3, 4, 0, 1] [0, 2, 3, 4, 5] [4, 5, 0, 2, 3] rfl rfl (by decide) rfl (by decide) ?_
    exact H
set_option maxRecDepth 20000 in
/-- CodeMakerModel.readPlace from 124 on -/
theorem w288_124 (xs : List Int32) (d : Nat) (l2 : Int32) (l3 : Int32) (l4 : Int32) (l5 : Int64) (m : yM) (Q : Option Value → yM → Prop) (H : ((l4 ≤ ((m.1 58 5) + (3 : Int32)) → yP (xg xs) (d + 1) 288 172 [(0, .ref 58), (2, .int l2), (3, .int l3), (4, .int l4), (5, .long l5)] [] m Q) ∧ (¬ l4 ≤ ((m.1 58 5) + (3 : Int32)) → (yC (xg xs) d 274 [.ref 58, .int l4] m (fun v1 m1 => ∃ u1, v1 = some (Value.int u1) ∧ (yC (xg xs) d 283 [.int u1] m1 (fun v2 m2 => ∃ u2, v2 = some (Value.int u2) ∧ ((¬ u2 = 0 → yP (xg xs) (d + 1) 288 172 [(0, .ref 58), (2, .int l2), (3, .int l3), (4, .int l4), (5, .long l5)] [] m2 Q) ∧ (u2 = 0 → ((¬ l2 = (88 : Int32) → yP (xg xs) (d + 1) 288 164 [(0, .ref 58), (2, .int l2), (3, .int l3), (4, .int l4), (5, .long l5)] [.long (63 : Int64), .long l5] m2 Q) ∧ (l2 = (88 : Int32) → yP (xg xs) (d + 1) 288 164 [(0, .ref 58), (2, .int l2), (3, .int l3), (4, .int l4), (5, .long l5)] [.long (255 : Int64), .long l5] m2 Q))))))))))) : yP (xg xs) (d + 1) 288 124 [(0, .ref 58), (2, .int l2), (3, .int l3), (4, .int l4), (5, .long l5)] [] m Q := by
  refine y_st rfl rfl rfl rfl rfl (fun _ _ => rfl) ?_
  refine y_st rfl rfl rfl rfl rfl (fun _ _ => rfl) ?_
  refine y_gf rfl rfl rfl rfl rfl ?_
  refine y_st rfl rfl rfl rfl rfl (fun _ _ => rfl) ?_
  refine y_st rfl rfl rfl rfl rfl (fun _ _ => rfl) ?_
  show yP (xg xs) (d + 1) 288 132 [(0, .ref 58), (2, .int l2), (3, .int l3), (4, .int l4), (5, .long l5)] [.int ((m.1 58 5) + (3 : Int32)), .int l4] m Q
  refine y_ile (t := 172) rfl rfl rfl (fun h => ?_) (fun h => ?_)
  · replace H := H.1 h; clear h
    show yP (xg xs) (d + 1) 288 172 [(0, .ref 58), (2, .int l2), (3, .int l3), (4, .int l4), (5, .long l5)] [] m Q
    exact H
  · replace H := H.2 h; clear h
    refine y_st rfl rfl rfl rfl rfl (fun _ _ => rfl) ?_
    refine y_st rfl rfl rfl rfl rfl (fun _ _ => rfl) ?_
    show yP (xg xs) (d + 1) 288 138 [(0, .ref 58), (2, .int l2), (3, .int l3), (4, .int l4), (5, .long l5)] [.int l4, .ref 58] m Q
    refine y_call rfl rfl rfl rfl rfl (Nat.le_of_ble_eq_true rfl) (Nat.le_of_ble_eq_true rfl) rfl (by decide) H (fun v1 m1 H => ?_)
    obtain ⟨u1, rfl, H⟩ := H
    show yP (xg xs) (d + 1) 288 141 [(0, .ref 58), (2, .int l2), (3, .int l3), (4, .int l4), (5, .long l5)] [.int u1] m1 Q
    refine y_call rfl rfl rfl rfl rfl (Nat.le_of_ble_eq_true rfl) (Nat.le_of_ble_eq_true rfl) rfl (by decide) H (fun v2 m2 H => ?_)
    obtain ⟨u2, rfl, H⟩ := H
    show yP (xg xs) (d + 1) 288 144 [(0, .ref 58), (2, .int l2), (3, .int l3), (4, .int l4), (5, .long l5)] [.int u2] m2 Q
    refine y_zne (t := 172) rfl rfl rfl (fun h => ?_) (fun h => ?_)
    · replace H := H.1 h; clear h
      show yP (xg xs) (d + 1) 288 172 [(0, .ref 58), (2, .int l2), (3, .int l3), (4, .int l4), (5, .long l5)] [] m2 Q
      exact H
    · replace H := H.2 h; clear h
      refine y_st rfl rfl rfl rfl rfl (fun _ _ => rfl) ?_
      refine y_st rfl rfl rfl rfl rfl (fun _ _ => rfl) ?_
      refine y_st rfl rfl rfl rfl rfl (fun _ _ => rfl) ?_
      show yP (xg xs) (d + 1) 288 152 [(0, .ref 58), (2, .int l2), (3, .int l3), (4, .int l4), (5, .long l5)] [.int (88 : Int32), .int l2, .long l5] m2 Q
      refine y_ine (t := 161) rfl rfl rfl (fun h => ?_) (fun h => ?_)
      · replace H := H.1 h; clear h
        refine y_st rfl rfl rfl rfl rfl (fun _ _ => rfl) ?_
        show yP (xg xs) (d + 1) 288 164 [(0, .ref 58), (2, .int l2), (3, .int l3), (4, .int l4), (5, .long l5)] [.long (63 : Int64), .long l5] m2 Q
        exact H
      · replace H := H.2 h; clear h
        refine y_st rfl rfl rfl rfl rfl (fun _ _ => rfl) ?_
        refine y_st rfl rfl rfl rfl rfl (fun _ _ => rfl) ?_
        show yP (xg xs) (d + 1) 288 164 [(0, .ref 58), (2, .int l2), (3, .int l3), (4, .int l4), (5, .long l5)] [.long (255 : Int64), .long l5] m2 Q
        exact H
set_option maxRecDepth 20000 in
/-- CodeMakerModel.readPlace from 164 on -/
theorem w288_164 (xs : List Int32) (d : Nat) (l2 : Int32) (l3 : Int32) (l4 : Int32) (l5 : Int64) (s0 : Int64) (s1 : Int64) (m : yM) (Q : Option Value → yM → Prop) (H : ((0 < (lg_cmp s0 s1) → yP (xg xs) (d + 1) 288 172 [(0, .ref 58), (2, .int l2), (3, .int l3), (4, .int l4), (5, .long l5)] [] m Q) ∧ (¬ 0 < (lg_cmp s0 s1) → yP (xg xs) (d + 1) 288 173 [(0, .ref 58), (2, .int l2), (3, .int l3), (4, .int l4), (5, .long l5)] [.int (1 : Int32)] m Q))) : yP (xg xs) (d + 1) 288 164 [(0, .ref 58), (2, .int l2), (3, .int l3), (4, .int l4), (5, .long l5)] [.long s1, .long s0] m Q := by
  refine y_st rfl rfl rfl rfl rfl (fun _ _ => rfl) ?_
  show yP (xg xs) (d + 1) 288 165 [(0, .ref 58), (2, .int l2), (3, .int l3), (4, .int l4), (5, .long l5)] [.int (lg_cmp s0 s1)] m Q
  refine y_zgt (t := 172) rfl rfl rfl (fun h => ?_) (fun h => ?_)
  · replace H := H.1 h; clear h
    show yP (xg xs) (d + 1) 288 172 [(0, .ref 58), (2, .int l2), (3, .int l3), (4, .int l4), (5, .long l5)] [] m Q
    exact H
  · replace H := H.2 h; clear h
    refine y_st rfl rfl rfl rfl rfl (fun _ _ => rfl) ?_
    refine y_st rfl rfl rfl rfl rfl (fun _ _ => rfl) ?_
    show yP (xg xs) (d + 1) 288 173 [(0, .ref 58), (2, .int l2), (3, .int l3), (4, .int l4), (5, .long l5)] [.int (1 : Int32)] m Q
    exact H
set_option maxRecDepth 20000 in
/-- CodeMakerModel.readPlace from 172 on -/
theorem w288_172 (xs : List Int32) (d : Nat) (l2 : Int32) (l3 : Int32) (l4 : Int32) (l5 : Int64) (m : yM) (Q : Option Value → yM → Prop) (H : yP (xg xs) (d + 1) 288 173 [(0, .ref 58), (2, .int l2), (3, .int l3), (4, .int l4), (5, .long l5)] [.int (0 : Int32)] m Q) : yP (xg xs) (d + 1) 288 172 [(0, .ref 58), (2, .int l2), (3, .int l3), (4, .int l4), (5, .long l5)] [] m Q := by
  refine y_st rfl rfl rfl rfl rfl (fun _ _ => rfl) ?_
  show yP (xg xs) (d + 1) 288 173 [(0, .ref 58), (2, .int l2), (3, .int l3), (4, .int l4), (5, .long l5)] [.int (0 : Int32)] m Q
  exact H
set_option maxRecDepth 20000 in
/-- CodeMakerModel.readPlace from 173 on -/
theorem w288_173 (xs : List Int32) (d : Nat) (l2 : Int32) (l3 : Int32) (l4 : Int32) (l5 : Int64) (s0 : Int32) (m : yM) (Q : Option Value → yM → Prop) (H : ((¬ s0 = 0 → ((¬ l2 = (88 : Int32) → yP (xg xs) (d + 1) 288 208 [(4, .int l4), (5, .long l5)] [.int ((3 : Int32) + l3), .int (256 : Int32), .int (4 : Int32), .ref 58] m Q) ∧ (l2 = (88 : Int32) → yP (xg xs) (d + 1) 288 208 [(4, .int l4), (5, .long l5)] [.int l3, .int (256 : Int32), .int (4 : Int32), .ref 58] m Q))) ∧ (s0 = 0 → (yC (xg xs) d 275 [.ref 58, .int (5 : Int32), .int (m.1 58 5)] m (fun v1 m1 => v1 = none ∧ Q none m1))))) : yP (xg xs) (d + 1) 288 173 [(0, .ref 58), (2, .int l2), (3, .int l3), (4, .int l4), (5, .long l5)] [.int s0] m Q := by
  refine y_st rfl rfl rfl rfl rfl (fun _ _ => rfl) ?_
  refine y_st rfl rfl rfl rfl rfl (fun _ _ => rfl) ?_
  show yP (xg xs) (d + 1) 288 177 [(7, .int s0), (0, .ref 58), (2, .int l2), (3, .int l3), (4, .int l4), (5, .long l5)] [.int s0] m Q
  refine y_zne (t := 190) rfl rfl rfl (fun h => ?_) (fun h => ?_)
  · replace H := H.1 h; clear h
    refine y_st rfl rfl rfl rfl rfl (fun _ _ => rfl) ?_
    refine y_st rfl rfl rfl rfl rfl (fun _ _ => rfl) ?_
    refine y_st rfl rfl rfl rfl rfl (fun _ _ => rfl) ?_
    refine y_st rfl rfl rfl rfl rfl (fun _ _ => rfl) ?_
    refine y_st rfl rfl rfl rfl rfl (fun _ _ => rfl) ?_
    show yP (xg xs) (d + 1) 288 198 [(7, .int s0), (0, .ref 58), (2, .int l2), (3, .int l3), (4, .int l4), (5, .long l5)] [.int (88 : Int32), .int l2, .int (256 : Int32), .int (4 : Int32), .ref 58] m Q
    refine y_ine (t := 205) rfl rfl rfl (fun h => ?_) (fun h => ?_)
    · replace H := H.1 h; clear h
      refine y_st rfl rfl rfl rfl rfl (fun _ _ => rfl) ?_
      refine y_st rfl rfl rfl rfl rfl (fun _ _ => rfl) ?_
      refine y_st rfl rfl rfl rfl rfl (fun _ _ => rfl) ?_
      show yP (xg xs) (d + 1) 288 208 [(7, .int s0), (0, .ref 58), (2, .int l2), (3, .int l3), (4, .int l4), (5, .long l5)] [.int ((3 : Int32) + l3), .int (256 : Int32), .int (4 : Int32), .ref 58] m Q
      refine y_headS (l2 := [(4, .int l4), (5, .long l5)]) [4, 5] [4, 5] [7, 0, 2, 3, 4, 5] rfl rfl (by decide) rfl (by decide) ?_
      exact H
    · replace H := H.2 h; clear h
      refine y_st rfl rfl rfl rfl rfl (fun _ _ => rfl) ?_
      refine y_st rfl rfl rfl rfl rfl (fun _ _ => rfl) ?_
      show yP (xg xs) (d + 1) 288 208 [(7, .int s0), (0, .ref 58), (2, .int l2), (3, .int l3), (4, .int l4), (5, .long l5)] [.int l3, .int (256 : Int32), .int (4 : Int32), .ref 58] m Q
      refine y_headS (l2 := [(4, .int l4), (5, .long l5)]) [4, 5] [4, 5] [7, 0, 2, 3, 4, 5] rfl rfl (by decide) rfl (by decide) ?_
      exact H
  · replace H := H.2 h; clear h
    refine y_st rfl rfl rfl rfl rfl (fun _ _ => rfl) ?_
    refine y_st rfl rfl rfl rfl rfl (fun _ _ => rfl) ?_
    refine y_st rfl rfl rfl rfl rfl (fun _ _ => rfl) ?_
    refine y_gf rfl rfl rfl rfl rfl ?_
    show yP (xg xs) (d + 1) 288 186 [(7, .int s0), (0, .ref 58), (2, .int l2), (3, .int l3), (4, .int l4), (5, .long l5)] [.int (m.1 58 5), .int (5 : Int32), .ref 58] m Q
    refine y_call rfl rfl rfl rfl rfl (Nat.le_of_ble_eq_true rfl) (Nat.le_of_ble_eq_true rfl) rfl (by decide) H (fun v1 m1 H => ?_)
    obtain ⟨rfl, H⟩ := H
    show yP (xg xs) (d + 1) 288 189 [(7, .int s0), (0, .ref 58), (2, .int l2), (3, .int l3), (4, .int l4), (5, .long l5)] [] m1 Q
    exact y_ret rfl rfl rfl rfl H
set_option maxRecDepth 20000 in
/-- CodeMakerModel.readPlace from 208 on -/
theorem w288_208 (xs : List Int32) (d : Nat) (l4 : Int32) (l5 : Int64) (s1 : Int32) (s2 : Int32) (s3 : Int32) (m : yM) (Q : Option Value → yM → Prop) (H : (yC (xg xs) d 277 [.ref 58, .int s1, .int ((s2 * s3) + l5.toInt32), .int l4] m (fun v1 m1 => v1 = none ∧ Q none m1))) : yP (xg xs) (d + 1) 288 208 [(4, .int l4), (5, .long l5)] [.int s3, .int s2, .int s1, .ref 58] m Q := by
  refine y_st rfl rfl rfl rfl rfl (fun _ _ => rfl) ?_
  refine y_st rfl rfl rfl rfl rfl (fun _ _ => rfl) ?_
  refine y_st rfl rfl rfl rfl rfl (fun _ _ => rfl) ?_
  refine y_st rfl rfl rfl rfl rfl (fun _ _ => rfl) ?_
  refine y_st rfl rfl rfl rfl rfl (fun _ _ => rfl) ?_
  show yP (xg xs) (d + 1) 288 215 [(4, .int l4), (5, .long l5)] [.int l4, .int ((s2 * s3) + l5.toInt32), .int s1, .ref 58] m Q
  refine y_call rfl rfl rfl rfl rfl (Nat.le_of_ble_eq_true rfl) (Nat.le_of_ble_eq_true rfl) rfl (by decide) H (fun v1 m1 H => ?_)
  obtain ⟨rfl, H⟩ := H
  show yP (xg xs) (d + 1) 288 218 [(4, .int l4), (5, .long l5)] [] m1 Q
  exact y_ret rfl rfl rfl rfl H
set_option maxRecDepth 20000 in
/-- CodeMakerModel.readSign from 0 on -/
theorem w289_0 (xs : List Int32) (d : Nat) (l1 : Int32) (m : yM) (Q : Option Value → yM → Prop) (H : (yC (xg xs) d 274 [.ref 58, .int ((m.1 58 5) + (1 : Int32))] m (fun v1 m1 => ∃ u1, v1 = some (Value.int u1) ∧ ((¬ l1 = (58 : Int32) → yP (xg xs) (d + 1) 289 27 [(0, .ref 58), (1, .int l1), (2, .int u1)] [] m1 Q) ∧ (l1 = (58 : Int32) → ((¬ u1 = (61 : Int32) → yP (xg xs) (d + 1) 289 27 [(0, .ref 58), (1, .int l1), (2, .int u1)] [] m1 Q) ∧ (u1 = (61 : Int32) → yP (xg xs) (d + 1) 289 92 [(0, .ref 58), (1, .int l1)] [.int (1 : Int32)] m1 Q))))))) : yP (xg xs) (d + 1) 289 0 [(0, .ref 58), (1, .int l1)] [] m Q := by
  refine y_st rfl rfl rfl rfl rfl (fun _ _ => rfl) ?_
  refine y_st rfl rfl rfl rfl rfl (fun _ _ => rfl) ?_
  refine y_gf rfl rfl rfl rfl rfl ?_
  refine y_st rfl rfl rfl rfl rfl (fun _ _ => rfl) ?_
  refine y_st rfl rfl rfl rfl rfl (fun _ _ => rfl) ?_
  show yP (xg xs) (d + 1) 289 7 [(0, .ref 58), (1, .int l1)] [.int ((m.1 58 5) + (1 : Int32)), .ref 58] m Q
  refine y_call rfl rfl rfl rfl rfl (Nat.le_of_ble_eq_true rfl) (Nat.le_of_ble_eq_true rfl) rfl (by decide) H (fun v1 m1 H => ?_)
  obtain ⟨u1, rfl, H⟩ := H
  refine y_st rfl rfl rfl rfl rfl (fun _ _ => rfl) ?_
  refine y_st rfl rfl rfl rfl rfl (fun _ _ => rfl) ?_
  refine y_st rfl rfl rfl rfl rfl (fun _ _ => rfl) ?_
  show yP (xg xs) (d + 1) 289 14 [(2, .int u1), (0, .ref 58), (1, .int l1)] [.int (58 : Int32), .int l1] m1 Q
  refine y_ine (t := 27) rfl rfl rfl (fun h => ?_) (fun h => ?_)
  · replace H := H.1 h; clear h
    show yP (xg xs) (d + 1) 289 27 [(2, .int u1), (0, .ref 58), (1, .int l1)] [] m1 Q
    refine y_headS (l2 := [(0, .ref 58), (1, .int l1), (2, .int u1)]) [1, 2, 0] [0, 1, 2] [2, 0, 1] rfl rfl (by decide) rfl (by decide) ?_
    exact H
  · replace H := H.2 h; clear h
    refine y_st rfl rfl rfl rfl rfl (fun _ _ => rfl) ?_
    refine y_st rfl rfl rfl rfl rfl (fun _ _ => rfl) ?_
    show yP (xg xs) (d + 1) 289 20 [(2, .int u1), (0, .ref 58), (1, .int l1)] [.int (61 : Int32), .int u1] m1 Q
    refine y_ine (t := 27) rfl rfl rfl (fun h => ?_) (fun h => ?_)
    · replace H := H.1 h; clear h
      show yP (xg xs) (d + 1) 289 27 [(2, .int u1), (0, .ref 58), (1, .int l1)] [] m1 Q
      refine y_headS (l2 := [(0, .ref 58), (1, .int l1), (2, .int u1)]) [1, 2, 0] [0, 1, 2] [2, 0, 1] rfl rfl (by decide) rfl (by decide) ?_
      exact H
    · replace H := H.2 h; clear h
      refine y_st rfl rfl rfl rfl rfl (fun _ _ => rfl) ?_
      refine y_st rfl rfl rfl rfl rfl (fun _ _ => rfl) ?_
      show yP (xg xs) (d + 1) 289 92 [(2, .int u1), (0, .ref 58), (1, .int l1)] [.int (1 : Int32)] m1 Q
      refine y_headS (l2 := [(0, .ref 58), (1, .int l1)]) [1, 2] [0, 1] [2, 0, 1] rfl rfl (by decide) rfl (by decide) ?_
      exact H
set_option maxRecDepth 20000 in
/-- CodeMakerModel.readSign from 27 on -/
theorem w289_27 (xs : List Int32) (d : Nat) (l1 : Int32) (l2 : Int32) (m : yM) (Q : Option Value → yM → Prop) (H : ((¬ l1 = (46 : Int32) → yP (xg xs) (d + 1) 289 43 [(0, .ref 58), (1, .int l1), (2, .int l2)] [] m Q) ∧ (l1 = (46 : Int32) → ((¬ l2 = (46 : Int32) → yP (xg xs) (d + 1) 289 43 [(0, .ref 58), (1, .int l1), (2, .int l2)] [] m Q) ∧ (l2 = (46 : Int32) → yP (xg xs) (d + 1) 289 92 [(0, .ref 58), (1, .int l1)] [.int (2 : Int32)] m Q))))) : yP (xg xs) (d + 1) 289 27 [(0, .ref 58), (1, .int l1), (2, .int l2)] [] m Q := by
  refine y_st rfl rfl rfl rfl rfl (fun _ _ => rfl) ?_
  refine y_st rfl rfl rfl rfl rfl (fun _ _ => rfl) ?_
  show yP (xg xs) (d + 1) 289 30 [(0, .ref 58), (1, .int l1), (2, .int l2)] [.int (46 : Int32), .int l1] m Q
  refine y_ine (t := 43) rfl rfl rfl (fun h => ?_) (fun h => ?_)
  · replace H := H.1 h; clear h
    show yP (xg xs) (d + 1) 289 43 [(0, .ref 58), (1, .int l1), (2, .int l2)] [] m Q
    exact H
  · replace H := H.2 h; clear h
    refine y_st rfl rfl rfl rfl rfl (fun _ _ => rfl) ?_
    refine y_st rfl rfl rfl rfl rfl (fun _ _ => rfl) ?_
    show yP (xg xs) (d + 1) 289 36 [(0, .ref 58), (1, .int l1), (2, .int l2)] [.int (46 : Int32), .int l2] m Q
    refine y_ine (t := 43) rfl rfl rfl (fun h => ?_) (fun h => ?_)
    · replace H := H.1 h; clear h
      show yP (xg xs) (d + 1) 289 43 [(0, .ref 58), (1, .int l1), (2, .int l2)] [] m Q
      exact H
    · replace H := H.2 h; clear h
      refine y_st rfl rfl rfl rfl rfl (fun _ _ => rfl) ?_
      refine y_st rfl rfl rfl rfl rfl (fun _ _ => rfl) ?_
      show yP (xg xs) (d + 1) 289 92 [(0, .ref 58), (1, .int l1), (2, .int l2)] [.int (2 : Int32)] m Q
      refine y_headS (l2 := [(0, .ref 58), (1, .int l1)]) [0, 1] [0, 1] [0, 1, 2] rfl rfl (by decide) rfl (by decide) ?_
      exact H
set_option maxRecDepth 20000 in
/-- CodeMakerModel.readSign from 43 on -/
theorem w289_43 (xs : List Int32) (d : Nat) (l1 : Int32) (l2 : Int32) (m : yM) (Q : Option Value → yM → Prop) (H : ((¬ l1 = (60 : Int32) → yP (xg xs) (d + 1) 289 59 [(0, .ref 58), (1, .int l1), (2, .int l2)] [] m Q) ∧ (l1 = (60 : Int32) → ((¬ l2 = (61 : Int32) → yP (xg xs) (d + 1) 289 59 [(0, .ref 58), (1, .int l1), (2, .int l2)] [] m Q) ∧ (l2 = (61 : Int32) → yP (xg xs) (d + 1) 289 92 [(0, .ref 58), (1, .int l1)] [.int (3 : Int32)] m Q))))) : yP (xg xs) (d + 1) 289 43 [(0, .ref 58), (1, .int l1), (2, .int l2)] [] m Q := by
  refine y_st rfl rfl rfl rfl rfl (fun _ _ => rfl) ?_
  refine y_st rfl rfl rfl rfl rfl (fun _ _ => rfl) ?_
  show yP (xg xs) (d + 1) 289 46 [(0, .ref 58), (1, .int l1), (2, .int l2)] [.int (60 : Int32), .int l1] m Q
  refine y_ine (t := 59) rfl rfl rfl (fun h => ?_) (fun h => ?_)
  · replace H := H.1 h; clear h
    show yP (xg xs) (d + 1) 289 59 [(0, .ref 58), (1, .int l1), (2, .int l2)] [] m Q
    exact H
  · replace H := H.2 h; clear h
    refine y_st rfl rfl rfl rfl rfl (fun _ _ => rfl) ?_
    refine y_st rfl rfl rfl rfl rfl (fun _ _ => rfl) ?_
    show yP (xg xs) (d + 1) 289 52 [(0, .ref 58), (1, .int l1), (2, .int l2)] [.int (61 : Int32), .int l2] m Q
    refine y_ine (t := 59) rfl rfl rfl (fun h => ?_) (fun h => ?_)
    · replace H := H.1 h; clear h
      show yP (xg xs) (d + 1) 289 59 [(0, .ref 58), (1, .int l1), (2, .int l2)] [] m Q
      exact H
    · replace H := H.2 h; clear h
      refine y_st rfl rfl rfl rfl rfl (fun _ _ => rfl) ?_
      refine y_st rfl rfl rfl rfl rfl (fun _ _ => rfl) ?_
      show yP (xg xs) (d + 1) 289 92 [(0, .ref 58), (1, .int l1), (2, .int l2)] [.int (3 : Int32)] m Q
      refine y_headS (l2 := [(0, .ref 58), (1, .int l1)]) [0, 1] [0, 1] [0, 1, 2] rfl rfl (by decide) rfl (by decide) ?_
      exact H
set_option maxRecDepth 20000 in
/-- CodeMakerModel.readSign from 59 on -/
theorem w289_59 (xs : List Int32) (d : Nat) (l1 : Int32) (l2 : Int32) (m : yM) (Q : Option Value → yM → Prop) (H : ((¬ l1 = (62 : Int32) → yP (xg xs) (d + 1) 289 75 [(0, .ref 58), (1, .int l1), (2, .int l2)] [] m Q) ∧ (l1 = (62 : Int32) → ((¬ l2 = (61 : Int32) → yP (xg xs) (d + 1) 289 75 [(0, .ref 58), (1, .int l1), (2, .int l2)] [] m Q) ∧ (l2 = (61 : Int32) → yP (xg xs) (d + 1) 289 92 [(0, .ref 58), (1, .int l1)] [.int (4 : Int32)] m Q))))) : yP (xg xs) (d + 1) 289 59 [(0, .ref 58), (1, .int l1), (2, .int l2)] [] m Q := by
  refine y_st rfl rfl rfl rfl rfl (fun _ _ => rfl) ?_
  refine y_st rfl rfl rfl rfl rfl (fun _ _ => rfl) ?_
  show yP (xg xs) (d + 1) 289 62 [(0, .ref 58), (1, .int l1), (2, .int l2)] [.int (62 : Int32), .int l1] m Q
  refine y_ine (t := 75) rfl rfl rfl (fun h => ?_) (fun h => ?_)
  · replace H := H.1 h; clear h
    show yP (xg xs) (d + 1) 289 75 [(0, .ref 58), (1, .int l1), (2, .int l2)] [] m Q
    exact H
  · replace H := H.2 h; clear h
    refine y_st rfl rfl rfl rfl rfl (fun _ _ => rfl) ?_
    refine y_st rfl rfl rfl rfl rfl (fun _ _ => rfl) ?_
    show yP (xg xs) (d + 1) 289 68 [(0, .ref 58), (1, .int l1), (2, .int l2)] [.int (61 : Int32), .int l2] m Q
    refine y_ine (t := 75) rfl rfl rfl (fun h => ?_) (fun h => ?_)
    · replace H := H.1 h; clear h
      show yP (xg xs) (d + 1) 289 75 [(0, .ref 58), (1, .int l1), (2, .int l2)] [] m Q
      exact H
    · replace H := H.2 h; clear h
      refine y_st rfl rfl rfl rfl rfl (fun _ _ => rfl) ?_
      refine y_st rfl rfl rfl rfl rfl (fun _ _ => rfl) ?_
      show yP (xg xs) (d + 1) 289 92 [(0, .ref 58), (1, .int l1), (2, .int l2)] [.int (4 : Int32)] m Q
      refine y_headS (l2 := [(0, .ref 58), (1, .int l1)]) [0, 1] [0, 1] [0, 1, 2] rfl rfl (by decide) rfl (by decide) ?_
      exact H
set_option maxRecDepth 20000 in
/-- CodeMakerModel.readSign from 75 on -/
theorem w289_75 (xs : List Int32) (d : Nat) (l1 : Int32) (l2 : Int32) (m : yM) (Q : Option Value → yM → Prop) (H : ((¬ l1 = (60 : Int32) → yP (xg xs) (d + 1) 289 91 [(0, .ref 58), (1, .int l1)] [] m Q) ∧ (l1 = (60 : Int32) → ((¬ l2 = (62 : Int32) → yP (xg xs) (d + 1) 289 91 [(0, .ref 58), (1, .int l1)] [] m Q) ∧ (l2 = (62 : Int32) → yP (xg xs) (d + 1) 289 92 [(0, .ref 58), (1, .int l1)] [.int (5 : Int32)] m Q))))) : yP (xg xs) (d + 1) 289 75 [(0, .ref 58), (1, .int l1), (2, .int l2)] [] m Q := by
  refine y_st rfl rfl rfl rfl rfl (fun _ _ => rfl) ?_
  refine y_st rfl rfl rfl rfl rfl (fun _ _ => rfl) ?_
  show yP (xg xs) (d + 1) 289 78 [(0, .ref 58), (1, .int l1), (2, .int l2)] [.int (60 : Int32), .int l1] m Q
  refine y_ine (t := 91) rfl rfl rfl (fun h => ?_) (fun h => ?_)
  · replace H := H.1 h; clear h
    show yP (xg xs) (d + 1) 289 91 [(0, .ref 58), (1, .int l1), (2, .int l2)] [] m Q
    refine y_headS (l2 := [(0, .ref 58), (1, .int l1)]) [0, 1] [0, 1] [0, 1, 2] rfl rfl (by decide) rfl (by decide) ?_
    exact H
  · replace H := H.2 h; clear h
    refine y_st rfl rfl rfl rfl rfl (fun _ _ => rfl) ?_
    refine y_st rfl rfl rfl rfl rfl (fun _ _ => rfl) ?_
    show yP (xg xs) (d + 1) 289 84 [(0, .ref 58), (1, .int l1), (2, .int l2)] [.int (62 : Int32), .int l2] m Q
    refine y_ine (t := 91) rfl rfl rfl (fun h => ?_) (fun h => ?_)
    · replace H := H.1 h; clear h
      show yP (xg xs) (d + 1) 289 91 [(0, .ref 58), (1, .int l1), (2, .int l2)] [] m Q
      refine y_headS (l2 := [(0, .ref 58), (1, .int l1)]) [0, 1] [0, 1] [0, 1, 2] rfl rfl (by decide) rfl (by decide) ?_
      exact H
    · replace H := H.2 h; clear h
      refine y_st rfl rfl rfl rfl rfl (fun _ _ => rfl) ?_
      refine y_st rfl rfl rfl rfl rfl (fun _ _ => rfl) ?_
      show yP (xg xs) (d + 1) 289 92 [(0, .ref 58), (1, .int l1), (2, .int l2)] [.int (5 : Int32)] m Q
      refine y_headS (l2 := [(0, .ref 58), (1, .int l1)]) [0, 1] [0, 1] [0, 1, 2] rfl rfl (by decide) rfl (by decide) ?_
      exact H
set_option maxRecDepth 20000 in
/-- CodeMakerModel.readSign from 91 on -/
theorem w289_91 (xs : List Int32) (d : Nat) (l1 : Int32) (m : yM) (Q : Option Value → yM → Prop) (H : yP (xg xs) (d + 1) 289 92 [(0, .ref 58), (1, .int l1)] [.int ((-1) : Int32)] m Q) : yP (xg xs) (d + 1) 289 91 [(0, .ref 58), (1, .int l1)] [] m Q := by
  refine y_st rfl rfl rfl rfl rfl (fun _ _ => rfl) ?_
  show yP (xg xs) (d + 1) 289 92 [(0, .ref 58), (1, .int l1)] [.int ((-1) : Int32)] m Q
  exact H
set_option maxRecDepth 20000 in
/-- CodeMakerModel.readSign from 92 on -/
theorem w289_92 (xs : List Int32) (d : Nat) (l1 : Int32) (s0 : Int32) (m : yM) (Q : Option Value → yM → Prop) (H : yP (xg xs) (d + 1) 289 99 [(0, .ref 58), (1, .int l1), (3, .int s0), (4, .int (0 : Int32)), (5, .int (0 : Int32))] [] m Q) : yP (xg xs) (d + 1) 289 92 [(0, .ref 58), (1, .int l1)] [.int s0] m Q := by
  refine y_st rfl rfl rfl rfl rfl (fun _ _ => rfl) ?_
  refine y_st rfl rfl rfl rfl rfl (fun _ _ => rfl) ?_
  refine y_st rfl rfl rfl rfl rfl (fun _ _ => rfl) ?_
  refine y_st rfl rfl rfl rfl rfl (fun _ _ => rfl) ?_
  refine y_st rfl rfl rfl rfl rfl (fun _ _ => rfl) ?_
  show yP (xg xs) (d + 1) 289 99 [(5, .int (0 : Int32)), (4, .int (0 : Int32)), (3, .int s0), (0, .ref 58), (1, .int l1)] [] m Q
  refine y_headS (l2 := [(0, .ref 58), (1, .int l1), (3, .int s0), (4, .int (0 : Int32)), (5, .int (0 : Int32))]) [3, 4, 2, 1, 0] [0, 1, 3, 4, 5] [5, 4, 3, 0, 1] rfl rfl (by decide) rfl (by decide) ?_
  exact H
set_option maxRecDepth 20000 in
/-- CodeMakerModel.readSign from 99 on -/
theorem w289_99 (xs : List Int32) (d : Nat) (l1 : Int32) (l3 : Int32) (l4 : Int32) (l5 : Int32) (m : yM) (Q : Option Value → yM → Prop) (H : (((17 : Int32) ≤ l5 → ((l3 = ((-1) : Int32) → ((l4 = 0 → (yC (xg xs) d 275 [.ref 58, .int (1 : Int32), .int (m.1 58 5)] m (fun v1 m1 => v1 = none ∧ Q none m1))) ∧ (¬ l4 = 0 → (yC (xg xs) d 277 [.ref 58, .int (5 : Int32), .int l1, .int ((m.1 58 5) + (1 : Int32))] m (fun v2 m2 => v2 = none ∧ Q none m2))))) ∧ (¬ l3 = ((-1) : Int32) → (yC (xg xs) d 277 [.ref 58, .int (5 : Int32), .int l3, .int ((m.1 58 5) + (2 : Int32))] m (fun v3 m3 => v3 = none ∧ Q none m3))))) ∧ (¬ (17 : Int32) ≤ l5 → ((¬ l4 = 0 → yP (xg xs) (d + 1) 289 123 [(0, .ref 58), (1, .int l1), (3, .int l3), (5, .int l5)] [] m Q) ∧ (l4 = 0 → (yC (xg xs) d 24 [.retAddr 24, .int l5] m (fun v4 m4 => ∃ u4, v4 = some (Value.int u4) ∧ ((¬ u4 = l1 → yP (xg xs) (d + 1) 289 128 [(0, .ref 58), (1, .int l1), (3, .int l3), (5, .int l5)] [.int (0 : Int32)] m4 Q) ∧ (u4 = l1 → yP (xg xs) (d + 1) 289 123 [(0, .ref 58), (1, .int l1), (3, .int l3), (5, .int l5)] [] m4 Q))))))))) : yP (xg xs) (d + 1) 289 99 [(0, .ref 58), (1, .int l1), (3, .int l3), (4, .int l4), (5, .int l5)] [] m Q := by
  refine y_st rfl rfl rfl rfl rfl (fun _ _ => rfl) ?_
  refine y_st rfl rfl rfl rfl rfl (fun _ _ => rfl) ?_
  show yP (xg xs) (d + 1) 289 103 [(0, .ref 58), (1, .int l1), (3, .int l3), (4, .int l4), (5, .int l5)] [.int (17 : Int32), .int l5] m Q
  refine y_ige (t := 136) rfl rfl rfl (fun h => ?_) (fun h => ?_)
  · replace H := H.1 h; clear h
    refine y_st rfl rfl rfl rfl rfl (fun _ _ => rfl) ?_
    refine y_st rfl rfl rfl rfl rfl (fun _ _ => rfl) ?_
    show yP (xg xs) (d + 1) 289 138 [(0, .ref 58), (1, .int l1), (3, .int l3), (4, .int l4), (5, .int l5)] [.int ((-1) : Int32), .int l3] m Q
    refine y_ieq (t := 156) rfl rfl rfl (fun h => ?_) (fun h => ?_)
    · replace H := H.1 h; clear h
      refine y_st rfl rfl rfl rfl rfl (fun _ _ => rfl) ?_
      show yP (xg xs) (d + 1) 289 158 [(0, .ref 58), (1, .int l1), (3, .int l3), (4, .int l4), (5, .int l5)] [.int l4] m Q
      refine y_zeq (t := 176) rfl rfl rfl (fun h => ?_) (fun h => ?_)
      · replace H := H.1 h; clear h
        refine y_st rfl rfl rfl rfl rfl (fun _ _ => rfl) ?_
        refine y_st rfl rfl rfl rfl rfl (fun _ _ => rfl) ?_
        refine y_st rfl rfl rfl rfl rfl (fun _ _ => rfl) ?_
        refine y_gf rfl rfl rfl rfl rfl ?_
        show yP (xg xs) (d + 1) 289 182 [(0, .ref 58), (1, .int l1), (3, .int l3), (4, .int l4), (5, .int l5)] [.int (m.1 58 5), .int (1 : Int32), .ref 58] m Q
        refine y_call rfl rfl rfl rfl rfl (Nat.le_of_ble_eq_true rfl) (Nat.le_of_ble_eq_true rfl) rfl (by decide) H (fun v1 m1 H => ?_)
        obtain ⟨rfl, H⟩ := H
        show yP (xg xs) (d + 1) 289 185 [(0, .ref 58), (1, .int l1), (3, .int l3), (4, .int l4), (5, .int l5)] [] m1 Q
        exact y_ret rfl rfl rfl rfl H
      · replace H := H.2 h; clear h
        refine y_st rfl rfl rfl rfl rfl (fun _ _ => rfl) ?_
        refine y_st rfl rfl rfl rfl rfl (fun _ _ => rfl) ?_
        refine y_st rfl rfl rfl rfl rfl (fun _ _ => rfl) ?_
        refine y_st rfl rfl rfl rfl rfl (fun _ _ => rfl) ?_
        refine y_gf rfl rfl rfl rfl rfl ?_
        refine y_st rfl rfl rfl rfl rfl (fun _ _ => rfl) ?_
        refine y_st rfl rfl rfl rfl rfl (fun _ _ => rfl) ?_
        show yP (xg xs) (d + 1) 289 170 [(0, .ref 58), (1, .int l1), (3, .int l3), (4, .int l4), (5, .int l5)] [.int ((m.1 58 5) + (1 : Int32)), .int l1, .int (5 : Int32), .ref 58] m Q
        refine y_call rfl rfl rfl rfl rfl (Nat.le_of_ble_eq_true rfl) (Nat.le_of_ble_eq_true rfl) rfl (by decide) H (fun v2 m2 H => ?_)
        obtain ⟨rfl, H⟩ := H
        refine y_st rfl rfl rfl rfl rfl (fun _ _ => rfl) ?_
        show yP (xg xs) (d + 1) 289 185 [(0, .ref 58), (1, .int l1), (3, .int l3), (4, .int l4), (5, .int l5)] [] m2 Q
        exact y_ret rfl rfl rfl rfl H
    · replace H := H.2 h; clear h
      refine y_st rfl rfl rfl rfl rfl (fun _ _ => rfl) ?_
      refine y_st rfl rfl rfl rfl rfl (fun _ _ => rfl) ?_
      refine y_st rfl rfl rfl rfl rfl (fun _ _ => rfl) ?_
      refine y_st rfl rfl rfl rfl rfl (fun _ _ => rfl) ?_
      refine y_gf rfl rfl rfl rfl rfl ?_
      refine y_st rfl rfl rfl rfl rfl (fun _ _ => rfl) ?_
      refine y_st rfl rfl rfl rfl rfl (fun _ _ => rfl) ?_
      show yP (xg xs) (d + 1) 289 150 [(0, .ref 58), (1, .int l1), (3, .int l3), (4, .int l4), (5, .int l5)] [.int ((m.1 58 5) + (2 : Int32)), .int l3, .int (5 : Int32), .ref 58] m Q
      refine y_call rfl rfl rfl rfl rfl (Nat.le_of_ble_eq_true rfl) (Nat.le_of_ble_eq_true rfl) rfl (by decide) H (fun v3 m3 H => ?_)
      obtain ⟨rfl, H⟩ := H
      refine y_st rfl rfl rfl rfl rfl (fun _ _ => rfl) ?_
      show yP (xg xs) (d + 1) 289 185 [(0, .ref 58), (1, .int l1), (3, .int l3), (4, .int l4), (5, .int l5)] [] m3 Q
      exact y_ret rfl rfl rfl rfl H
  · replace H := H.2 h; clear h
    refine y_st rfl rfl rfl rfl rfl (fun _ _ => rfl) ?_
    show yP (xg xs) (d + 1) 289 108 [(0, .ref 58), (1, .int l1), (3, .int l3), (4, .int l4), (5, .int l5)] [.int l4] m Q
    refine y_zne (t := 123) rfl rfl rfl (fun h => ?_) (fun h => ?_)
    · replace H := H.1 h; clear h
      show yP (xg xs) (d + 1) 289 123 [(0, .ref 58), (1, .int l1), (3, .int l3), (4, .int l4), (5, .int l5)] [] m Q
      refine y_headS (l2 := [(0, .ref 58), (1, .int l1), (3, .int l3), (5, .int l5)]) [0, 1, 2, 4] [0, 1, 3, 5] [0, 1, 3, 4, 5] rfl rfl (by decide) rfl (by decide) ?_
      exact H
    · replace H := H.2 h; clear h
      refine y_st rfl rfl rfl rfl rfl (fun _ _ => rfl) ?_
      refine y_st rfl rfl rfl rfl rfl (fun _ _ => rfl) ?_
      show yP (xg xs) (d + 1) 289 116 [(0, .ref 58), (1, .int l1), (3, .int l3), (4, .int l4), (5, .int l5)] [.int l5, .retAddr 24] m Q
      refine y_call rfl rfl rfl rfl rfl (Nat.le_of_ble_eq_true rfl) (Nat.le_of_ble_eq_true rfl) rfl (by decide) H (fun v4 m4 H => ?_)
      obtain ⟨u4, rfl, H⟩ := H
      refine y_st rfl rfl rfl rfl rfl (fun _ _ => rfl) ?_
      show yP (xg xs) (d + 1) 289 120 [(0, .ref 58), (1, .int l1), (3, .int l3), (4, .int l4), (5, .int l5)] [.int l1, .int u4] m4 Q
      refine y_ine (t := 127) rfl rfl rfl (fun h => ?_) (fun h => ?_)
      · replace H := H.1 h; clear h
        refine y_st rfl rfl rfl rfl rfl (fun _ _ => rfl) ?_
        show yP (xg xs) (d + 1) 289 128 [(0, .ref 58), (1, .int l1), (3, .int l3), (4, .int l4), (5, .int l5)] [.int (0 : Int32)] m4 Q
        refine y_headS (l2 := [(0, .ref 58), (1, .int l1), (3, .int l3), (5, .int l5)]) [0, 1, 2, 4] [0, 1, 3, 5] [0, 1, 3, 4, 5] rfl rfl (by decide) rfl (by decide) ?_
        exact H
      · replace H := H.2 h; clear h
        show yP (xg xs) (d + 1) 289 123 [(0, .ref 58), (1, .int l1), (3, .int l3), (4, .int l4), (5, .int l5)] [] m4 Q
        refine y_headS (l2 := [(0, .ref 58), (1, .int l1), (3, .int l3), (5, .int l5)]) [0, 1, 2, 4] [0, 1, 3, 5] [0, 1, 3, 4, 5] rfl rfl (by decide) rfl (by decide) ?_
        exact H
set_option maxRecDepth 20000 in
/-- CodeMakerModel.readSign from 123 on -/
theorem w289_123 (xs : List Int32) (d : Nat) (l1 : Int32) (l3 : Int32) (l5 : Int32) (m : yM) (Q : Option Value → yM → Prop) (H : yP (xg xs) (d + 1) 289 128 [(0, .ref 58), (1, .int l1), (3, .int l3), (5, .int l5)] [.int (1 : Int32)] m Q) : yP (xg xs) (d + 1) 289 123 [(0, .ref 58), (1, .int l1), (3, .int l3), (5, .int l5)] [] m Q := by
  refine y_st rfl rfl rfl rfl rfl (fun _ _ => rfl) ?_
  refine y_st rfl rfl rfl rfl rfl (fun _ _ => rfl) ?_
  show yP (xg xs) (d + 1) 289 128 [(0, .ref 58), (1, .int l1), (3, .int l3), (5, .int l5)] [.int (1 : Int32)] m Q
  exact H
set_option maxRecDepth 20000 in
/-- CodeMakerModel.readSign from 128 on -/
theorem w289_128 (xs : List Int32) (d : Nat) (l1 : Int32) (l3 : Int32) (l5 : Int32) (s0 : Int32) (m : yM) (Q : Option Value → yM → Prop) (H : yP (xg xs) (d + 1) 289 99 [(0, .ref 58), (1, .int l1), (3, .int l3), (4, .int s0), (5, .int (l5 + (1 : Int32)))] [] m Q) : yP (xg xs) (d + 1) 289 128 [(0, .ref 58), (1, .int l1), (3, .int l3), (5, .int l5)] [.int s0] m Q := by
  refine y_st rfl rfl rfl rfl rfl (fun _ _ => rfl) ?_
  refine y_st rfl rfl rfl rfl rfl (fun _ _ => rfl) ?_
  refine y_st rfl rfl rfl rfl rfl (fun _ _ => rfl) ?_
  show yP (xg xs) (d + 1) 289 99 [(5, .int (l5 + (1 : Int32))), (4, .int s0), (0, .ref 58), (1, .int l1), (3, .int l3)] [] m Q
  refine y_headS (l2 := [(0, .ref 58), (1, .int l1), (3, .int l3), (4, .int s0), (5, .int (l5 + (1 : Int32)))]) [2, 3, 4, 1, 0] [0, 1, 3, 4, 5] [5, 4, 0, 1, 3] rfl rfl (by decide) rfl (by decide) ?_
  exact H
set_option maxRecDepth 20000 in
/-- CodeMakerModel.isWord from 0 on -/
theorem w290_0 (xs : List Int32) (d : Nat) (l1 : Int32) (m : yM) (Q : Option Value → yM → Prop) (H : ((¬ (m.1 58 3) = 0 → Q (some (.int (0 : Int32))) m) ∧ ((m.1 58 3) = 0 → ((¬ (m.1 58 6) = (1 : Int32) → Q (some (.int (0 : Int32))) m) ∧ ((m.1 58 6) = (1 : Int32) → ((¬ (m.1 58 7) = l1 → Q (some (.int (0 : Int32))) m) ∧ ((m.1 58 7) = l1 → Q (some (.int (1 : Int32))) m))))))) : yP (xg xs) (d + 1) 290 0 [(0, .ref 58), (1, .int l1)] [] m Q := by
  refine y_st rfl rfl rfl rfl rfl (fun _ _ => rfl) ?_
  refine y_gf rfl rfl rfl rfl rfl ?_
  show yP (xg xs) (d + 1) 290 4 [(0, .ref 58), (1, .int l1)] [.int (m.1 58 3)] m Q
  refine y_zne (t := 27) rfl rfl rfl (fun h => ?_) (fun h => ?_)
  · replace H := H.1 h; clear h
    refine y_st rfl rfl rfl rfl rfl (fun _ _ => rfl) ?_
    show yP (xg xs) (d + 1) 290 28 [(0, .ref 58), (1, .int l1)] [.int (0 : Int32)] m Q
    exact y_zret rfl rfl rfl (by decide) H
  · replace H := H.2 h; clear h
    refine y_st rfl rfl rfl rfl rfl (fun _ _ => rfl) ?_
    refine y_gf rfl rfl rfl rfl rfl ?_
    refine y_st rfl rfl rfl rfl rfl (fun _ _ => rfl) ?_
    show yP (xg xs) (d + 1) 290 12 [(0, .ref 58), (1, .int l1)] [.int (1 : Int32), .int (m.1 58 6)] m Q
    refine y_ine (t := 27) rfl rfl rfl (fun h => ?_) (fun h => ?_)
    · replace H := H.1 h; clear h
      refine y_st rfl rfl rfl rfl rfl (fun _ _ => rfl) ?_
      show yP (xg xs) (d + 1) 290 28 [(0, .ref 58), (1, .int l1)] [.int (0 : Int32)] m Q
      exact y_zret rfl rfl rfl (by decide) H
    · replace H := H.2 h; clear h
      refine y_st rfl rfl rfl rfl rfl (fun _ _ => rfl) ?_
      refine y_gf rfl rfl rfl rfl rfl ?_
      refine y_st rfl rfl rfl rfl rfl (fun _ _ => rfl) ?_
      show yP (xg xs) (d + 1) 290 20 [(0, .ref 58), (1, .int l1)] [.int l1, .int (m.1 58 7)] m Q
      refine y_ine (t := 27) rfl rfl rfl (fun h => ?_) (fun h => ?_)
      · replace H := H.1 h; clear h
        refine y_st rfl rfl rfl rfl rfl (fun _ _ => rfl) ?_
        show yP (xg xs) (d + 1) 290 28 [(0, .ref 58), (1, .int l1)] [.int (0 : Int32)] m Q
        exact y_zret rfl rfl rfl (by decide) H
      · replace H := H.2 h; clear h
        refine y_st rfl rfl rfl rfl rfl (fun _ _ => rfl) ?_
        refine y_st rfl rfl rfl rfl rfl (fun _ _ => rfl) ?_
        show yP (xg xs) (d + 1) 290 28 [(0, .ref 58), (1, .int l1)] [.int (1 : Int32)] m Q
        exact y_zret rfl rfl rfl (by decide) H
set_option maxRecDepth 20000 in
/-- CodeMakerModel.must from 0 on -/
theorem w291_0 (xs : List Int32) (d : Nat) (l1 : Int32) (m : yM) (Q : Option Value → yM → Prop) (H : ((¬ l1 = 0 → Q none m) ∧ (l1 = 0 → (yC (xg xs) d 276 [.ref 58, .int (6 : Int32), .int (m.1 58 8)] m (fun v1 m1 => v1 = none ∧ Q none m1))))) : yP (xg xs) (d + 1) 291 0 [(0, .ref 58), (1, .int l1)] [] m Q := by
  refine y_st rfl rfl rfl rfl rfl (fun _ _ => rfl) ?_
  show yP (xg xs) (d + 1) 291 1 [(0, .ref 58), (1, .int l1)] [.int l1] m Q
  refine y_zne (t := 14) rfl rfl rfl (fun h => ?_) (fun h => ?_)
  · replace H := H.1 h; clear h
    show yP (xg xs) (d + 1) 291 14 [(0, .ref 58), (1, .int l1)] [] m Q
    exact y_ret rfl rfl rfl rfl H
  · replace H := H.2 h; clear h
    refine y_st rfl rfl rfl rfl rfl (fun _ _ => rfl) ?_
    refine y_st rfl rfl rfl rfl rfl (fun _ _ => rfl) ?_
    refine y_st rfl rfl rfl rfl rfl (fun _ _ => rfl) ?_
    refine y_gf rfl rfl rfl rfl rfl ?_
    show yP (xg xs) (d + 1) 291 11 [(0, .ref 58), (1, .int l1)] [.int (m.1 58 8), .int (6 : Int32), .ref 58] m Q
    refine y_call rfl rfl rfl rfl rfl (Nat.le_of_ble_eq_true rfl) (Nat.le_of_ble_eq_true rfl) rfl (by decide) H (fun v1 m1 H => ?_)
    obtain ⟨rfl, H⟩ := H
    show yP (xg xs) (d + 1) 291 14 [(0, .ref 58), (1, .int l1)] [] m1 Q
    exact y_ret rfl rfl rfl rfl H
set_option maxRecDepth 20000 in
/-- CodeMakerModel.readBlock from 0 on -/
theorem w292_0 (xs : List Int32) (d : Nat) (m : yM) (Q : Option Value → yM → Prop) (H : ((¬ (m.1 58 7) = 0 → ((¬ (m.1 58 7) = (2 : Int32) → yP (xg xs) (d + 1) 292 24 [(0, .ref 58), (1, .int (m.1 58 7))] [.int (3 : Int32), .ref 58] m Q) ∧ ((m.1 58 7) = (2 : Int32) → yP (xg xs) (d + 1) 292 24 [(0, .ref 58), (1, .int (m.1 58 7))] [.int (2 : Int32), .ref 58] m Q))) ∧ ((m.1 58 7) = 0 → yP (xg xs) (d + 1) 292 24 [(0, .ref 58), (1, .int (m.1 58 7))] [.int (1 : Int32), .ref 58] m Q))) : yP (xg xs) (d + 1) 292 0 [(0, .ref 58)] [] m Q := by
  refine y_st rfl rfl rfl rfl rfl (fun _ _ => rfl) ?_
  refine y_gf rfl rfl rfl rfl rfl ?_
  refine y_st rfl rfl rfl rfl rfl (fun _ _ => rfl) ?_
  refine y_st rfl rfl rfl rfl rfl (fun _ _ => rfl) ?_
  refine y_st rfl rfl rfl rfl rfl (fun _ _ => rfl) ?_
  show yP (xg xs) (d + 1) 292 7 [(1, .int (m.1 58 7)), (0, .ref 58)] [.int (m.1 58 7), .ref 58] m Q
  refine y_zne (t := 14) rfl rfl rfl (fun h => ?_) (fun h => ?_)
  · replace H := H.1 h; clear h
    refine y_st rfl rfl rfl rfl rfl (fun _ _ => rfl) ?_
    refine y_st rfl rfl rfl rfl rfl (fun _ _ => rfl) ?_
    show yP (xg xs) (d + 1) 292 16 [(1, .int (m.1 58 7)), (0, .ref 58)] [.int (2 : Int32), .int (m.1 58 7), .ref 58] m Q
    refine y_ine (t := 23) rfl rfl rfl (fun h => ?_) (fun h => ?_)
    · replace H := H.1 h; clear h
      refine y_st rfl rfl rfl rfl rfl (fun _ _ => rfl) ?_
      show yP (xg xs) (d + 1) 292 24 [(1, .int (m.1 58 7)), (0, .ref 58)] [.int (3 : Int32), .ref 58] m Q
      refine y_headS (l2 := [(0, .ref 58), (1, .int (m.1 58 7))]) [1, 0] [0, 1] [1, 0] rfl rfl (by decide) rfl (by decide) ?_
      exact H
    · replace H := H.2 h; clear h
      refine y_st rfl rfl rfl rfl rfl (fun _ _ => rfl) ?_
      refine y_st rfl rfl rfl rfl rfl (fun _ _ => rfl) ?_
      show yP (xg xs) (d + 1) 292 24 [(1, .int (m.1 58 7)), (0, .ref 58)] [.int (2 : Int32), .ref 58] m Q
      refine y_headS (l2 := [(0, .ref 58), (1, .int (m.1 58 7))]) [1, 0] [0, 1] [1, 0] rfl rfl (by decide) rfl (by decide) ?_
      exact H
  · replace H := H.2 h; clear h
    refine y_st rfl rfl rfl rfl rfl (fun _ _ => rfl) ?_
    refine y_st rfl rfl rfl rfl rfl (fun _ _ => rfl) ?_
    show yP (xg xs) (d + 1) 292 24 [(1, .int (m.1 58 7)), (0, .ref 58)] [.int (1 : Int32), .ref 58] m Q
    refine y_headS (l2 := [(0, .ref 58), (1, .int (m.1 58 7))]) [1, 0] [0, 1] [1, 0] rfl rfl (by decide) rfl (by decide) ?_
    exact H
set_option maxRecDepth 20000 in
/-- CodeMakerModel.readBlock from 24 on -/
theorem w292_24 (xs : List Int32) (d : Nat) (l1 : Int32) (s1 : Int32) (m : yM) (Q : Option Value → yM → Prop) (H : (yC (xg xs) d 271 [.ref 58, .int s1, .int (m.1 58 8), .int (0 : Int32)] m (fun v1 m1 => ∃ u1, v1 = some (Value.int u1) ∧ (yC (xg xs) d 272 [.ref 58] m1 (fun v2 m2 => v2 = none ∧ (yC (xg xs) d 293 [.ref 58, .int (2 : Int32)] m2 (fun v3 m3 => ∃ u3, v3 = some (Value.int u3) ∧ (yC (xg xs) d 291 [.ref 58, .int u3] m3 (fun v4 m4 => v4 = none ∧ (x_in u1 20000 = true ∧ (yC (xg xs) d 272 [.ref 58] (y_si m4 64 u1.toNatClampNeg (m4.1 58 7)) (fun v5 m5 => v5 = none ∧ ((¬ l1 = 0 → yP (xg xs) (d + 1) 292 79 [(0, .ref 58), (1, .int l1), (2, .int u1)] [] m5 Q) ∧ (l1 = 0 → (yC (xg xs) d 294 [.ref 58, .int (58 : Int32)] m5 (fun v6 m6 => v6 = none ∧ (yC (xg xs) d 296 [.ref 58] m6 (fun v7 m7 => ∃ u7, v7 = some (Value.int u7) ∧ (yC (xg xs) d 297 [.ref 58, .int u1, .int u7] m7 (fun v8 m8 => v8 = none ∧ yP (xg xs) (d + 1) 292 79 [(0, .ref 58), (1, .int l1), (2, .int u1)] [] m8 Q)))))))))))))))))))) : yP (xg xs) (d + 1) 292 24 [(0, .ref 58), (1, .int l1)] [.int s1, .ref 58] m Q := by
  refine y_st rfl rfl rfl rfl rfl (fun _ _ => rfl) ?_
  refine y_gf rfl rfl rfl rfl rfl ?_
  refine y_st rfl rfl rfl rfl rfl (fun _ _ => rfl) ?_
  show yP (xg xs) (d + 1) 292 29 [(0, .ref 58), (1, .int l1)] [.int (0 : Int32), .int (m.1 58 8), .int s1, .ref 58] m Q
  refine y_call rfl rfl rfl rfl rfl (Nat.le_of_ble_eq_true rfl) (Nat.le_of_ble_eq_true rfl) rfl (by decide) H (fun v1 m1 H => ?_)
  obtain ⟨u1, rfl, H⟩ := H
  refine y_st rfl rfl rfl rfl rfl (fun _ _ => rfl) ?_
  refine y_st rfl rfl rfl rfl rfl (fun _ _ => rfl) ?_
  show yP (xg xs) (d + 1) 292 34 [(2, .int u1), (0, .ref 58), (1, .int l1)] [.ref 58] m1 Q
  refine y_call rfl rfl rfl rfl rfl (Nat.le_of_ble_eq_true rfl) (Nat.le_of_ble_eq_true rfl) rfl (by decide) H (fun v2 m2 H => ?_)
  obtain ⟨rfl, H⟩ := H
  refine y_st rfl rfl rfl rfl rfl (fun _ _ => rfl) ?_
  refine y_st rfl rfl rfl rfl rfl (fun _ _ => rfl) ?_
  refine y_st rfl rfl rfl rfl rfl (fun _ _ => rfl) ?_
  show yP (xg xs) (d + 1) 292 40 [(2, .int u1), (0, .ref 58), (1, .int l1)] [.int (2 : Int32), .ref 58, .ref 58] m2 Q
  refine y_call rfl rfl rfl rfl rfl (Nat.le_of_ble_eq_true rfl) (Nat.le_of_ble_eq_true rfl) rfl (by decide) H (fun v3 m3 H => ?_)
  obtain ⟨u3, rfl, H⟩ := H
  show yP (xg xs) (d + 1) 292 43 [(2, .int u1), (0, .ref 58), (1, .int l1)] [.int u3, .ref 58] m3 Q
  refine y_call rfl rfl rfl rfl rfl (Nat.le_of_ble_eq_true rfl) (Nat.le_of_ble_eq_true rfl) rfl (by decide) H (fun v4 m4 H => ?_)
  obtain ⟨rfl, H⟩ := H
  refine y_st rfl rfl rfl rfl rfl (fun _ _ => rfl) ?_
  refine y_gf rfl rfl rfl rfl rfl ?_
  refine y_st rfl rfl rfl rfl rfl (fun _ _ => rfl) ?_
  refine y_st rfl rfl rfl rfl rfl (fun _ _ => rfl) ?_
  refine y_gf rfl rfl rfl rfl rfl ?_
  show yP (xg xs) (d + 1) 292 55 [(2, .int u1), (0, .ref 58), (1, .int l1)] [.int (m4.1 58 7), .int u1, .ref 64] m4 Q
  refine y_iast rfl rfl rfl (H.1) ?_
  replace H := H.2
  refine y_st rfl rfl rfl rfl rfl (fun _ _ => rfl) ?_
  show yP (xg xs) (d + 1) 292 57 [(2, .int u1), (0, .ref 58), (1, .int l1)] [.ref 58] (y_si m4 64 u1.toNatClampNeg (m4.1 58 7)) Q
  refine y_call rfl rfl rfl rfl rfl (Nat.le_of_ble_eq_true rfl) (Nat.le_of_ble_eq_true rfl) rfl (by decide) H (fun v5 m5 H => ?_)
  obtain ⟨rfl, H⟩ := H
  refine y_st rfl rfl rfl rfl rfl (fun _ _ => rfl) ?_
  show yP (xg xs) (d + 1) 292 61 [(2, .int u1), (0, .ref 58), (1, .int l1)] [.int l1] m5 Q
  refine y_zne (t := 79) rfl rfl rfl (fun h => ?_) (fun h => ?_)
  · replace H := H.1 h; clear h
    show yP (xg xs) (d + 1) 292 79 [(2, .int u1), (0, .ref 58), (1, .int l1)] [] m5 Q
    refine y_headS (l2 := [(0, .ref 58), (1, .int l1), (2, .int u1)]) [1, 2, 0] [0, 1, 2] [2, 0, 1] rfl rfl (by decide) rfl (by decide) ?_
    exact H
  · replace H := H.2 h; clear h
    refine y_st rfl rfl rfl rfl rfl (fun _ _ => rfl) ?_
    refine y_st rfl rfl rfl rfl rfl (fun _ _ => rfl) ?_
    show yP (xg xs) (d + 1) 292 67 [(2, .int u1), (0, .ref 58), (1, .int l1)] [.int (58 : Int32), .ref 58] m5 Q
    refine y_call rfl rfl rfl rfl rfl (Nat.le_of_ble_eq_true rfl) (Nat.le_of_ble_eq_true rfl) rfl (by decide) H (fun v6 m6 H => ?_)
    obtain ⟨rfl, H⟩ := H
    refine y_st rfl rfl rfl rfl rfl (fun _ _ => rfl) ?_
    refine y_st rfl rfl rfl rfl rfl (fun _ _ => rfl) ?_
    refine y_st rfl rfl rfl rfl rfl (fun _ _ => rfl) ?_
    show yP (xg xs) (d + 1) 292 73 [(2, .int u1), (0, .ref 58), (1, .int l1)] [.ref 58, .int u1, .ref 58] m6 Q
    refine y_call rfl rfl rfl rfl rfl (Nat.le_of_ble_eq_true rfl) (Nat.le_of_ble_eq_true rfl) rfl (by decide) H (fun v7 m7 H => ?_)
    obtain ⟨u7, rfl, H⟩ := H
    show yP (xg xs) (d + 1) 292 76 [(2, .int u1), (0, .ref 58), (1, .int l1)] [.int u7, .int u1, .ref 58] m7 Q
    refine y_call rfl rfl rfl rfl rfl (Nat.le_of_ble_eq_true rfl) (Nat.le_of_ble_eq_true rfl) rfl (by decide) H (fun v8 m8 H => ?_)
    obtain ⟨rfl, H⟩ := H
    show yP (xg xs) (d + 1) 292 79 [(2, .int u1), (0, .ref 58), (1, .int l1)] [] m8 Q
    refine y_headS (l2 := [(0, .ref 58), (1, .int l1), (2, .int u1)]) [1, 2, 0] [0, 1, 2] [2, 0, 1] rfl rfl (by decide) rfl (by decide) ?_
    exact H
set_option maxRecDepth 20000 in
/-- CodeMakerModel.readBlock from 79 on -/
theorem w292_79 (xs : List Int32) (d : Nat) (l1 : Int32) (l2 : Int32) (m : yM) (Q : Option Value → yM → Prop) (H : ((¬ (m.1 58 3) = 0 → yP (xg xs) (d + 1) 292 124 [(0, .ref 58), (1, .int l1), (2, .int l2)] [] m Q) ∧ ((m.1 58 3) = 0 → ((¬ (m.1 58 6) = (1 : Int32) → yP (xg xs) (d + 1) 292 124 [(0, .ref 58), (1, .int l1), (2, .int l2)] [] m Q) ∧ ((m.1 58 6) = (1 : Int32) → (((m.1 58 7) < (6 : Int32) → yP (xg xs) (d + 1) 292 124 [(0, .ref 58), (1, .int l1), (2, .int l2)] [] m Q) ∧ (¬ (m.1 58 7) < (6 : Int32) → (((9 : Int32) ≤ (m.1 58 7) → yP (xg xs) (d + 1) 292 124 [(0, .ref 58), (1, .int l1), (2, .int l2)] [] m Q) ∧ (¬ (9 : Int32) ≤ (m.1 58 7) → (yC (xg xs) d 298 [.ref 58] m (fun v1 m1 => ∃ u1, v1 = some (Value.int u1) ∧ (yC (xg xs) d 297 [.ref 58, .int l2, .int u1] m1 (fun v2 m2 => v2 = none ∧ yP (xg xs) (d + 1) 292 79 [(0, .ref 58), (1, .int l1), (2, .int l2)] [] m2 Q))))))))))))) : yP (xg xs) (d + 1) 292 79 [(0, .ref 58), (1, .int l1), (2, .int l2)] [] m Q := by
  refine y_st rfl rfl rfl rfl rfl (fun _ _ => rfl) ?_
  refine y_gf rfl rfl rfl rfl rfl ?_
  show yP (xg xs) (d + 1) 292 83 [(0, .ref 58), (1, .int l1), (2, .int l2)] [.int (m.1 58 3)] m Q
  refine y_zne (t := 124) rfl rfl rfl (fun h => ?_) (fun h => ?_)
  · replace H := H.1 h; clear h
    show yP (xg xs) (d + 1) 292 124 [(0, .ref 58), (1, .int l1), (2, .int l2)] [] m Q
    exact H
  · replace H := H.2 h; clear h
    refine y_st rfl rfl rfl rfl rfl (fun _ _ => rfl) ?_
    refine y_gf rfl rfl rfl rfl rfl ?_
    refine y_st rfl rfl rfl rfl rfl (fun _ _ => rfl) ?_
    show yP (xg xs) (d + 1) 292 91 [(0, .ref 58), (1, .int l1), (2, .int l2)] [.int (1 : Int32), .int (m.1 58 6)] m Q
    refine y_ine (t := 124) rfl rfl rfl (fun h => ?_) (fun h => ?_)
    · replace H := H.1 h; clear h
      show yP (xg xs) (d + 1) 292 124 [(0, .ref 58), (1, .int l1), (2, .int l2)] [] m Q
      exact H
    · replace H := H.2 h; clear h
      refine y_st rfl rfl rfl rfl rfl (fun _ _ => rfl) ?_
      refine y_gf rfl rfl rfl rfl rfl ?_
      refine y_st rfl rfl rfl rfl rfl (fun _ _ => rfl) ?_
      show yP (xg xs) (d + 1) 292 100 [(0, .ref 58), (1, .int l1), (2, .int l2)] [.int (6 : Int32), .int (m.1 58 7)] m Q
      refine y_ilt (t := 124) rfl rfl rfl (fun h => ?_) (fun h => ?_)
      · replace H := H.1 h; clear h
        show yP (xg xs) (d + 1) 292 124 [(0, .ref 58), (1, .int l1), (2, .int l2)] [] m Q
        exact H
      · replace H := H.2 h; clear h
        refine y_st rfl rfl rfl rfl rfl (fun _ _ => rfl) ?_
        refine y_gf rfl rfl rfl rfl rfl ?_
        refine y_st rfl rfl rfl rfl rfl (fun _ _ => rfl) ?_
        show yP (xg xs) (d + 1) 292 109 [(0, .ref 58), (1, .int l1), (2, .int l2)] [.int (9 : Int32), .int (m.1 58 7)] m Q
        refine y_ige (t := 124) rfl rfl rfl (fun h => ?_) (fun h => ?_)
        · replace H := H.1 h; clear h
          show yP (xg xs) (d + 1) 292 124 [(0, .ref 58), (1, .int l1), (2, .int l2)] [] m Q
          exact H
        · replace H := H.2 h; clear h
          refine y_st rfl rfl rfl rfl rfl (fun _ _ => rfl) ?_
          refine y_st rfl rfl rfl rfl rfl (fun _ _ => rfl) ?_
          refine y_st rfl rfl rfl rfl rfl (fun _ _ => rfl) ?_
          show yP (xg xs) (d + 1) 292 115 [(0, .ref 58), (1, .int l1), (2, .int l2)] [.ref 58, .int l2, .ref 58] m Q
          refine y_call rfl rfl rfl rfl rfl (Nat.le_of_ble_eq_true rfl) (Nat.le_of_ble_eq_true rfl) rfl (by decide) H (fun v1 m1 H => ?_)
          obtain ⟨u1, rfl, H⟩ := H
          show yP (xg xs) (d + 1) 292 118 [(0, .ref 58), (1, .int l1), (2, .int l2)] [.int u1, .int l2, .ref 58] m1 Q
          refine y_call rfl rfl rfl rfl rfl (Nat.le_of_ble_eq_true rfl) (Nat.le_of_ble_eq_true rfl) rfl (by decide) H (fun v2 m2 H => ?_)
          obtain ⟨rfl, H⟩ := H
          refine y_st rfl rfl rfl rfl rfl (fun _ _ => rfl) ?_
          show yP (xg xs) (d + 1) 292 79 [(0, .ref 58), (1, .int l1), (2, .int l2)] [] m2 Q
          exact H
set_option maxRecDepth 20000 in
/-- CodeMakerModel.readBlock from 124 on -/
theorem w292_124 (xs : List Int32) (d : Nat) (l1 : Int32) (l2 : Int32) (m : yM) (Q : Option Value → yM → Prop) (H : (yC (xg xs) d 303 [.ref 58] m (fun v1 m1 => ∃ u1, v1 = some (Value.int u1) ∧ (yC (xg xs) d 297 [.ref 58, .int l2, .int u1] m1 (fun v2 m2 => v2 = none ∧ (yC (xg xs) d 302 [.ref 58, .int (l1 + (1 : Int32))] m2 (fun v3 m3 => v3 = none ∧ Q (some (.int l2)) m3))))))) : yP (xg xs) (d + 1) 292 124 [(0, .ref 58), (1, .int l1), (2, .int l2)] [] m Q := by
  refine y_st rfl rfl rfl rfl rfl (fun _ _ => rfl) ?_
  refine y_st rfl rfl rfl rfl rfl (fun _ _ => rfl) ?_
  refine y_st rfl rfl rfl rfl rfl (fun _ _ => rfl) ?_
  show yP (xg xs) (d + 1) 292 127 [(0, .ref 58), (1, .int l1), (2, .int l2)] [.ref 58, .int l2, .ref 58] m Q
  refine y_call rfl rfl rfl rfl rfl (Nat.le_of_ble_eq_true rfl) (Nat.le_of_ble_eq_true rfl) rfl (by decide) H (fun v1 m1 H => ?_)
  obtain ⟨u1, rfl, H⟩ := H
  show yP (xg xs) (d + 1) 292 130 [(0, .ref 58), (1, .int l1), (2, .int l2)] [.int u1, .int l2, .ref 58] m1 Q
  refine y_call rfl rfl rfl rfl rfl (Nat.le_of_ble_eq_true rfl) (Nat.le_of_ble_eq_true rfl) rfl (by decide) H (fun v2 m2 H => ?_)
  obtain ⟨rfl, H⟩ := H
  refine y_st rfl rfl rfl rfl rfl (fun _ _ => rfl) ?_
  refine y_st rfl rfl rfl rfl rfl (fun _ _ => rfl) ?_
  refine y_st rfl rfl rfl rfl rfl (fun _ _ => rfl) ?_
  refine y_st rfl rfl rfl rfl rfl (fun _ _ => rfl) ?_
  show yP (xg xs) (d + 1) 292 137 [(0, .ref 58), (1, .int l1), (2, .int l2)] [.int (l1 + (1 : Int32)), .ref 58] m2 Q
  refine y_call rfl rfl rfl rfl rfl (Nat.le_of_ble_eq_true rfl) (Nat.le_of_ble_eq_true rfl) rfl (by decide) H (fun v3 m3 H => ?_)
  obtain ⟨rfl, H⟩ := H
  refine y_st rfl rfl rfl rfl rfl (fun _ _ => rfl) ?_
  show yP (xg xs) (d + 1) 292 141 [(0, .ref 58), (1, .int l1), (2, .int l2)] [.int l2] m3 Q
  exact y_iret rfl rfl rfl H
set_option maxRecDepth 20000 in
/-- CodeMakerModel.is from 0 on -/
theorem w293_0 (xs : List Int32) (d : Nat) (l1 : Int32) (m : yM) (Q : Option Value → yM → Prop) (H : ((¬ (m.1 58 3) = 0 → Q (some (.int (0 : Int32))) m) ∧ ((m.1 58 3) = 0 → ((¬ (m.1 58 6) = l1 → Q (some (.int (0 : Int32))) m) ∧ ((m.1 58 6) = l1 → Q (some (.int (1 : Int32))) m))))) : yP (xg xs) (d + 1) 293 0 [(0, .ref 58), (1, .int l1)] [] m Q := by
  refine y_st rfl rfl rfl rfl rfl (fun _ _ => rfl) ?_
  refine y_gf rfl rfl rfl rfl rfl ?_
  show yP (xg xs) (d + 1) 293 4 [(0, .ref 58), (1, .int l1)] [.int (m.1 58 3)] m Q
  refine y_zne (t := 19) rfl rfl rfl (fun h => ?_) (fun h => ?_)
  · replace H := H.1 h; clear h
    refine y_st rfl rfl rfl rfl rfl (fun _ _ => rfl) ?_
    show yP (xg xs) (d + 1) 293 20 [(0, .ref 58), (1, .int l1)] [.int (0 : Int32)] m Q
    exact y_zret rfl rfl rfl (by decide) H
  · replace H := H.2 h; clear h
    refine y_st rfl rfl rfl rfl rfl (fun _ _ => rfl) ?_
    refine y_gf rfl rfl rfl rfl rfl ?_
    refine y_st rfl rfl rfl rfl rfl (fun _ _ => rfl) ?_
    show yP (xg xs) (d + 1) 293 12 [(0, .ref 58), (1, .int l1)] [.int l1, .int (m.1 58 6)] m Q
    refine y_ine (t := 19) rfl rfl rfl (fun h => ?_) (fun h => ?_)
    · replace H := H.1 h; clear h
      refine y_st rfl rfl rfl rfl rfl (fun _ _ => rfl) ?_
      show yP (xg xs) (d + 1) 293 20 [(0, .ref 58), (1, .int l1)] [.int (0 : Int32)] m Q
      exact y_zret rfl rfl rfl (by decide) H
    · replace H := H.2 h; clear h
      refine y_st rfl rfl rfl rfl rfl (fun _ _ => rfl) ?_
      refine y_st rfl rfl rfl rfl rfl (fun _ _ => rfl) ?_
      show yP (xg xs) (d + 1) 293 20 [(0, .ref 58), (1, .int l1)] [.int (1 : Int32)] m Q
      exact y_zret rfl rfl rfl (by decide) H
set_option maxRecDepth 20000 in
/-- CodeMakerModel.sign from 0 on -/
theorem w294_0 (xs : List Int32) (d : Nat) (l1 : Int32) (m : yM) (Q : Option Value → yM → Prop) (H : (yC (xg xs) d 295 [.ref 58, .int l1] m (fun v1 m1 => ∃ u1, v1 = some (Value.int u1) ∧ (yC (xg xs) d 291 [.ref 58, .int u1] m1 (fun v2 m2 => v2 = none ∧ (yC (xg xs) d 272 [.ref 58] m2 (fun v3 m3 => v3 = none ∧ Q none m3))))))) : yP (xg xs) (d + 1) 294 0 [(0, .ref 58), (1, .int l1)] [] m Q := by
  refine y_st rfl rfl rfl rfl rfl (fun _ _ => rfl) ?_
  refine y_st rfl rfl rfl rfl rfl (fun _ _ => rfl) ?_
  refine y_st rfl rfl rfl rfl rfl (fun _ _ => rfl) ?_
  show yP (xg xs) (d + 1) 294 3 [(0, .ref 58), (1, .int l1)] [.int l1, .ref 58, .ref 58] m Q
  refine y_call rfl rfl rfl rfl rfl (Nat.le_of_ble_eq_true rfl) (Nat.le_of_ble_eq_true rfl) rfl (by decide) H (fun v1 m1 H => ?_)
  obtain ⟨u1, rfl, H⟩ := H
  show yP (xg xs) (d + 1) 294 6 [(0, .ref 58), (1, .int l1)] [.int u1, .ref 58] m1 Q
  refine y_call rfl rfl rfl rfl rfl (Nat.le_of_ble_eq_true rfl) (Nat.le_of_ble_eq_true rfl) rfl (by decide) H (fun v2 m2 H => ?_)
  obtain ⟨rfl, H⟩ := H
  refine y_st rfl rfl rfl rfl rfl (fun _ _ => rfl) ?_
  show yP (xg xs) (d + 1) 294 10 [(0, .ref 58), (1, .int l1)] [.ref 58] m2 Q
  refine y_call rfl rfl rfl rfl rfl (Nat.le_of_ble_eq_true rfl) (Nat.le_of_ble_eq_true rfl) rfl (by decide) H (fun v3 m3 H => ?_)
  obtain ⟨rfl, H⟩ := H
  show yP (xg xs) (d + 1) 294 13 [(0, .ref 58), (1, .int l1)] [] m3 Q
  exact y_ret rfl rfl rfl rfl H
set_option maxRecDepth 20000 in
/-- CodeMakerModel.isSign from 0 on -/
theorem w295_0 (xs : List Int32) (d : Nat) (l1 : Int32) (m : yM) (Q : Option Value → yM → Prop) (H : ((¬ (m.1 58 3) = 0 → Q (some (.int (0 : Int32))) m) ∧ ((m.1 58 3) = 0 → ((¬ (m.1 58 6) = (5 : Int32) → Q (some (.int (0 : Int32))) m) ∧ ((m.1 58 6) = (5 : Int32) → ((¬ (m.1 58 7) = l1 → Q (some (.int (0 : Int32))) m) ∧ ((m.1 58 7) = l1 → Q (some (.int (1 : Int32))) m))))))) : yP (xg xs) (d + 1) 295 0 [(0, .ref 58), (1, .int l1)] [] m Q := by
  refine y_st rfl rfl rfl rfl rfl (fun _ _ => rfl) ?_
  refine y_gf rfl rfl rfl rfl rfl ?_
  show yP (xg xs) (d + 1) 295 4 [(0, .ref 58), (1, .int l1)] [.int (m.1 58 3)] m Q
  refine y_zne (t := 27) rfl rfl rfl (fun h => ?_) (fun h => ?_)
  · replace H := H.1 h; clear h
    refine y_st rfl rfl rfl rfl rfl (fun _ _ => rfl) ?_
    show yP (xg xs) (d + 1) 295 28 [(0, .ref 58), (1, .int l1)] [.int (0 : Int32)] m Q
    exact y_zret rfl rfl rfl (by decide) H
  · replace H := H.2 h; clear h
    refine y_st rfl rfl rfl rfl rfl (fun _ _ => rfl) ?_
    refine y_gf rfl rfl rfl rfl rfl ?_
    refine y_st rfl rfl rfl rfl rfl (fun _ _ => rfl) ?_
    show yP (xg xs) (d + 1) 295 12 [(0, .ref 58), (1, .int l1)] [.int (5 : Int32), .int (m.1 58 6)] m Q
    refine y_ine (t := 27) rfl rfl rfl (fun h => ?_) (fun h => ?_)
    · replace H := H.1 h; clear h
      refine y_st rfl rfl rfl rfl rfl (fun _ _ => rfl) ?_
      show yP (xg xs) (d + 1) 295 28 [(0, .ref 58), (1, .int l1)] [.int (0 : Int32)] m Q
      exact y_zret rfl rfl rfl (by decide) H
    · replace H := H.2 h; clear h
      refine y_st rfl rfl rfl rfl rfl (fun _ _ => rfl) ?_
      refine y_gf rfl rfl rfl rfl rfl ?_
      refine y_st rfl rfl rfl rfl rfl (fun _ _ => rfl) ?_
      show yP (xg xs) (d + 1) 295 20 [(0, .ref 58), (1, .int l1)] [.int l1, .int (m.1 58 7)] m Q
      refine y_ine (t := 27) rfl rfl rfl (fun h => ?_) (fun h => ?_)
      · replace H := H.1 h; clear h
        refine y_st rfl rfl rfl rfl rfl (fun _ _ => rfl) ?_
        show yP (xg xs) (d + 1) 295 28 [(0, .ref 58), (1, .int l1)] [.int (0 : Int32)] m Q
        exact y_zret rfl rfl rfl (by decide) H
      · replace H := H.2 h; clear h
        refine y_st rfl rfl rfl rfl rfl (fun _ _ => rfl) ?_
        refine y_st rfl rfl rfl rfl rfl (fun _ _ => rfl) ?_
        show yP (xg xs) (d + 1) 295 28 [(0, .ref 58), (1, .int l1)] [.int (1 : Int32)] m Q
        exact y_zret rfl rfl rfl (by decide) H
set_option maxRecDepth 20000 in
/-- CodeMakerModel.readSimple from 0 on -/
theorem w296_0 (xs : List Int32) (d : Nat) (m : yM) (Q : Option Value → yM → Prop) (H : ((¬ (m.1 58 3) = 0 → yP (xg xs) (d + 1) 296 38 [(0, .ref 58)] [.ref 58] m Q) ∧ ((m.1 58 3) = 0 → ((¬ (m.1 58 6) = (1 : Int32) → yP (xg xs) (d + 1) 296 38 [(0, .ref 58)] [.ref 58] m Q) ∧ ((m.1 58 6) = (1 : Int32) → (((m.1 58 7) < (11 : Int32) → yP (xg xs) (d + 1) 296 38 [(0, .ref 58)] [.ref 58] m Q) ∧ (¬ (m.1 58 7) < (11 : Int32) → (((13 : Int32) < (m.1 58 7) → yP (xg xs) (d + 1) 296 38 [(0, .ref 58)] [.ref 58] m Q) ∧ (¬ (13 : Int32) < (m.1 58 7) → yP (xg xs) (d + 1) 296 39 [(0, .ref 58)] [.int (1 : Int32), .ref 58] m Q))))))))) : yP (xg xs) (d + 1) 296 0 [(0, .ref 58)] [] m Q := by
  refine y_st rfl rfl rfl rfl rfl (fun _ _ => rfl) ?_
  refine y_st rfl rfl rfl rfl rfl (fun _ _ => rfl) ?_
  refine y_gf rfl rfl rfl rfl rfl ?_
  show yP (xg xs) (d + 1) 296 5 [(0, .ref 58)] [.int (m.1 58 3), .ref 58] m Q
  refine y_zne (t := 38) rfl rfl rfl (fun h => ?_) (fun h => ?_)
  · replace H := H.1 h; clear h
    show yP (xg xs) (d + 1) 296 38 [(0, .ref 58)] [.ref 58] m Q
    exact H
  · replace H := H.2 h; clear h
    refine y_st rfl rfl rfl rfl rfl (fun _ _ => rfl) ?_
    refine y_gf rfl rfl rfl rfl rfl ?_
    refine y_st rfl rfl rfl rfl rfl (fun _ _ => rfl) ?_
    show yP (xg xs) (d + 1) 296 13 [(0, .ref 58)] [.int (1 : Int32), .int (m.1 58 6), .ref 58] m Q
    refine y_ine (t := 38) rfl rfl rfl (fun h => ?_) (fun h => ?_)
    · replace H := H.1 h; clear h
      show yP (xg xs) (d + 1) 296 38 [(0, .ref 58)] [.ref 58] m Q
      exact H
    · replace H := H.2 h; clear h
      refine y_st rfl rfl rfl rfl rfl (fun _ _ => rfl) ?_
      refine y_gf rfl rfl rfl rfl rfl ?_
      refine y_st rfl rfl rfl rfl rfl (fun _ _ => rfl) ?_
      show yP (xg xs) (d + 1) 296 22 [(0, .ref 58)] [.int (11 : Int32), .int (m.1 58 7), .ref 58] m Q
      refine y_ilt (t := 38) rfl rfl rfl (fun h => ?_) (fun h => ?_)
      · replace H := H.1 h; clear h
        show yP (xg xs) (d + 1) 296 38 [(0, .ref 58)] [.ref 58] m Q
        exact H
      · replace H := H.2 h; clear h
        refine y_st rfl rfl rfl rfl rfl (fun _ _ => rfl) ?_
        refine y_gf rfl rfl rfl rfl rfl ?_
        refine y_st rfl rfl rfl rfl rfl (fun _ _ => rfl) ?_
        show yP (xg xs) (d + 1) 296 31 [(0, .ref 58)] [.int (13 : Int32), .int (m.1 58 7), .ref 58] m Q
        refine y_igt (t := 38) rfl rfl rfl (fun h => ?_) (fun h => ?_)
        · replace H := H.1 h; clear h
          show yP (xg xs) (d + 1) 296 38 [(0, .ref 58)] [.ref 58] m Q
          exact H
        · replace H := H.2 h; clear h
          refine y_st rfl rfl rfl rfl rfl (fun _ _ => rfl) ?_
          refine y_st rfl rfl rfl rfl rfl (fun _ _ => rfl) ?_
          show yP (xg xs) (d + 1) 296 39 [(0, .ref 58)] [.int (1 : Int32), .ref 58] m Q
          exact H
set_option maxRecDepth 20000 in
/-- CodeMakerModel.readSimple from 38 on -/
theorem w296_38 (xs : List Int32) (d : Nat) (m : yM) (Q : Option Value → yM → Prop) (H : yP (xg xs) (d + 1) 296 39 [(0, .ref 58)] [.int (0 : Int32), .ref 58] m Q) : yP (xg xs) (d + 1) 296 38 [(0, .ref 58)] [.ref 58] m Q := by
  refine y_st rfl rfl rfl rfl rfl (fun _ _ => rfl) ?_
  show yP (xg xs) (d + 1) 296 39 [(0, .ref 58)] [.int (0 : Int32), .ref 58] m Q
  exact H
set_option maxRecDepth 20000 in
/-- CodeMakerModel.readSimple from 39 on -/
theorem w296_39 (xs : List Int32) (d : Nat) (s1 : Int32) (m : yM) (Q : Option Value → yM → Prop) (H : (yC (xg xs) d 291 [.ref 58, .int s1] m (fun v1 m1 => v1 = none ∧ (yC (xg xs) d 271 [.ref 58, .int (8 : Int32), .int (m1.1 58 8), .int ((m1.1 58 7) - (11 : Int32))] m1 (fun v2 m2 => ∃ u2, v2 = some (Value.int u2) ∧ (yC (xg xs) d 272 [.ref 58] m2 (fun v3 m3 => v3 = none ∧ Q (some (.int u2)) m3))))))) : yP (xg xs) (d + 1) 296 39 [(0, .ref 58)] [.int s1, .ref 58] m Q := by
  show yP (xg xs) (d + 1) 296 39 [(0, .ref 58)] [.int s1, .ref 58] m Q
  refine y_call rfl rfl rfl rfl rfl (Nat.le_of_ble_eq_true rfl) (Nat.le_of_ble_eq_true rfl) rfl (by decide) H (fun v1 m1 H => ?_)
  obtain ⟨rfl, H⟩ := H
  refine y_st rfl rfl rfl rfl rfl (fun _ _ => rfl) ?_
  refine y_st rfl rfl rfl rfl rfl (fun _ _ => rfl) ?_
  refine y_st rfl rfl rfl rfl rfl (fun _ _ => rfl) ?_
  refine y_gf rfl rfl rfl rfl rfl ?_
  refine y_st rfl rfl rfl rfl rfl (fun _ _ => rfl) ?_
  refine y_gf rfl rfl rfl rfl rfl ?_
  refine y_st rfl rfl rfl rfl rfl (fun _ _ => rfl) ?_
  refine y_st rfl rfl rfl rfl rfl (fun _ _ => rfl) ?_
  show yP (xg xs) (d + 1) 296 56 [(0, .ref 58)] [.int ((m1.1 58 7) - (11 : Int32)), .int (m1.1 58 8), .int (8 : Int32), .ref 58] m1 Q
  refine y_call rfl rfl rfl rfl rfl (Nat.le_of_ble_eq_true rfl) (Nat.le_of_ble_eq_true rfl) rfl (by decide) H (fun v2 m2 H => ?_)
  obtain ⟨u2, rfl, H⟩ := H
  refine y_st rfl rfl rfl rfl rfl (fun _ _ => rfl) ?_
  refine y_st rfl rfl rfl rfl rfl (fun _ _ => rfl) ?_
  show yP (xg xs) (d + 1) 296 61 [(1, .int u2), (0, .ref 58)] [.ref 58] m2 Q
  refine y_call rfl rfl rfl rfl rfl (Nat.le_of_ble_eq_true rfl) (Nat.le_of_ble_eq_true rfl) rfl (by decide) H (fun v3 m3 H => ?_)
  obtain ⟨rfl, H⟩ := H
  refine y_st rfl rfl rfl rfl rfl (fun _ _ => rfl) ?_
  show yP (xg xs) (d + 1) 296 65 [(1, .int u2), (0, .ref 58)] [.int u2] m3 Q
  exact y_iret rfl rfl rfl H
set_option maxRecDepth 20000 in
/-- CodeMakerModel.add from 0 on -/
theorem w297_0 (xs : List Int32) (d : Nat) (l1 : Int32) (l2 : Int32) (m : yM) (Q : Option Value → yM → Prop) (H : (x_in l2 20000 = true ∧ (x_in l1 20000 = true ∧ ((¬ (m.1 66 l1.toNatClampNeg) = ((-1) : Int32) → (x_in l1 20000 = true ∧ (x_in (m.1 67 l1.toNatClampNeg) 20000 = true ∧ yP (xg xs) (d + 1) 297 39 [(0, .ref 58), (1, .int l1), (2, .int l2)] [] (y_si (y_si m 65 l2.toNatClampNeg l1) 68 ((m.1 67 l1.toNatClampNeg).toNatClampNeg) l2) Q))) ∧ ((m.1 66 l1.toNatClampNeg) = ((-1) : Int32) → (x_in l1 20000 = true ∧ yP (xg xs) (d + 1) 297 39 [(0, .ref 58), (1, .int l1), (2, .int l2)] [] (y_si (y_si m 65 l2.toNatClampNeg l1) 66 l1.toNatClampNeg l2) Q)))))) : yP (xg xs) (d + 1) 297 0 [(0, .ref 58), (1, .int l1), (2, .int l2)] [] m Q := by
  refine y_st rfl rfl rfl rfl rfl (fun _ _ => rfl) ?_
  refine y_gf rfl rfl rfl rfl rfl ?_
  refine y_st rfl rfl rfl rfl rfl (fun _ _ => rfl) ?_
  refine y_st rfl rfl rfl rfl rfl (fun _ _ => rfl) ?_
  show yP (xg xs) (d + 1) 297 6 [(0, .ref 58), (1, .int l1), (2, .int l2)] [.int l1, .int l2, .ref 65] m Q
  refine y_iast rfl rfl rfl (H.1) ?_
  replace H := H.2
  refine y_st rfl rfl rfl rfl rfl (fun _ _ => rfl) ?_
  refine y_gf rfl rfl rfl rfl rfl ?_
  refine y_st rfl rfl rfl rfl rfl (fun _ _ => rfl) ?_
  show yP (xg xs) (d + 1) 297 12 [(0, .ref 58), (1, .int l1), (2, .int l2)] [.int l1, .ref 66] (y_si m 65 l2.toNatClampNeg l1) Q
  refine y_iald rfl rfl rfl (H.1) ?_
  replace H := H.2
  refine y_st rfl rfl rfl rfl rfl (fun _ _ => rfl) ?_
  show yP (xg xs) (d + 1) 297 14 [(0, .ref 58), (1, .int l1), (2, .int l2)] [.int ((-1) : Int32), .int (m.1 66 l1.toNatClampNeg)] (y_si m 65 l2.toNatClampNeg l1) Q
  refine y_ine (t := 27) rfl rfl rfl (fun h => ?_) (fun h => ?_)
  · replace H := H.1 h; clear h
    refine y_st rfl rfl rfl rfl rfl (fun _ _ => rfl) ?_
    refine y_gf rfl rfl rfl rfl rfl ?_
    refine y_st rfl rfl rfl rfl rfl (fun _ _ => rfl) ?_
    refine y_gf rfl rfl rfl rfl rfl ?_
    refine y_st rfl rfl rfl rfl rfl (fun _ _ => rfl) ?_
    show yP (xg xs) (d + 1) 297 36 [(0, .ref 58), (1, .int l1), (2, .int l2)] [.int l1, .ref 67, .ref 68] (y_si m 65 l2.toNatClampNeg l1) Q
    refine y_iald rfl rfl rfl (H.1) ?_
    replace H := H.2
    refine y_st rfl rfl rfl rfl rfl (fun _ _ => rfl) ?_
    show yP (xg xs) (d + 1) 297 38 [(0, .ref 58), (1, .int l1), (2, .int l2)] [.int l2, .int (m.1 67 l1.toNatClampNeg), .ref 68] (y_si m 65 l2.toNatClampNeg l1) Q
    refine y_iast rfl rfl rfl (H.1) ?_
    replace H := H.2
    show yP (xg xs) (d + 1) 297 39 [(0, .ref 58), (1, .int l1), (2, .int l2)] [] (y_si (y_si m 65 l2.toNatClampNeg l1) 68 ((m.1 67 l1.toNatClampNeg).toNatClampNeg) l2) Q
    exact H
  · replace H := H.2 h; clear h
    refine y_st rfl rfl rfl rfl rfl (fun _ _ => rfl) ?_
    refine y_gf rfl rfl rfl rfl rfl ?_
    refine y_st rfl rfl rfl rfl rfl (fun _ _ => rfl) ?_
    refine y_st rfl rfl rfl rfl rfl (fun _ _ => rfl) ?_
    show yP (xg xs) (d + 1) 297 23 [(0, .ref 58), (1, .int l1), (2, .int l2)] [.int l2, .int l1, .ref 66] (y_si m 65 l2.toNatClampNeg l1) Q
    refine y_iast rfl rfl rfl (H.1) ?_
    replace H := H.2
    refine y_st rfl rfl rfl rfl rfl (fun _ _ => rfl) ?_
    show yP (xg xs) (d + 1) 297 39 [(0, .ref 58), (1, .int l1), (2, .int l2)] [] (y_si (y_si m 65 l2.toNatClampNeg l1) 66 l1.toNatClampNeg l2) Q
    exact H
set_option maxRecDepth 20000 in
/-- CodeMakerModel.add from 39 on -/
theorem w297_39 (xs : List Int32) (d : Nat) (l1 : Int32) (l2 : Int32) (m : yM) (Q : Option Value → yM → Prop) (H : (x_in l1 20000 = true ∧ (x_in l1 20000 = true ∧ (x_in l1 20000 = true ∧ Q none (y_si (y_si m 67 l1.toNatClampNeg l2) 69 l1.toNatClampNeg ((m.1 69 l1.toNatClampNeg) + (1 : Int32))))))) : yP (xg xs) (d + 1) 297 39 [(0, .ref 58), (1, .int l1), (2, .int l2)] [] m Q := by
  refine y_st rfl rfl rfl rfl rfl (fun _ _ => rfl) ?_
  refine y_gf rfl rfl rfl rfl rfl ?_
  refine y_st rfl rfl rfl rfl rfl (fun _ _ => rfl) ?_
  refine y_st rfl rfl rfl rfl rfl (fun _ _ => rfl) ?_
  show yP (xg xs) (d + 1) 297 45 [(0, .ref 58), (1, .int l1), (2, .int l2)] [.int l2, .int l1, .ref 67] m Q
  refine y_iast rfl rfl rfl (H.1) ?_
  replace H := H.2
  refine y_st rfl rfl rfl rfl rfl (fun _ _ => rfl) ?_
  refine y_gf rfl rfl rfl rfl rfl ?_
  refine y_st rfl rfl rfl rfl rfl (fun _ _ => rfl) ?_
  refine y_st rfl rfl rfl rfl rfl (fun _ _ => rfl) ?_
  show yP (xg xs) (d + 1) 297 52 [(0, .ref 58), (1, .int l1), (2, .int l2)] [.int l1, .ref 69, .int l1, .ref 69] (y_si m 67 l1.toNatClampNeg l2) Q
  refine y_iald rfl rfl rfl (H.1) ?_
  replace H := H.2
  refine y_st rfl rfl rfl rfl rfl (fun _ _ => rfl) ?_
  refine y_st rfl rfl rfl rfl rfl (fun _ _ => rfl) ?_
  show yP (xg xs) (d + 1) 297 55 [(0, .ref 58), (1, .int l1), (2, .int l2)] [.int ((m.1 69 l1.toNatClampNeg) + (1 : Int32)), .int l1, .ref 69] (y_si m 67 l1.toNatClampNeg l2) Q
  refine y_iast rfl rfl rfl (H.1) ?_
  replace H := H.2
  show yP (xg xs) (d + 1) 297 56 [(0, .ref 58), (1, .int l1), (2, .int l2)] [] (y_si (y_si m 67 l1.toNatClampNeg l2) 69 l1.toNatClampNeg ((m.1 69 l1.toNatClampNeg) + (1 : Int32))) Q
  exact y_ret rfl rfl rfl rfl H
set_option maxRecDepth 20000 in
/-- CodeMakerModel.readSection from 0 on -/
theorem w298_0 (xs : List Int32) (d : Nat) (m : yM) (Q : Option Value → yM → Prop) (H : (yC (xg xs) d 271 [.ref 58, .int (4 : Int32), .int (m.1 58 8), .int ((m.1 58 7) - (6 : Int32))] m (fun v1 m1 => ∃ u1, v1 = some (Value.int u1) ∧ (yC (xg xs) d 272 [.ref 58] m1 (fun v2 m2 => v2 = none ∧ yP (xg xs) (d + 1) 298 21 [(0, .ref 58), (1, .int u1)] [] m2 Q))))) : yP (xg xs) (d + 1) 298 0 [(0, .ref 58)] [] m Q := by
  refine y_st rfl rfl rfl rfl rfl (fun _ _ => rfl) ?_
  refine y_st rfl rfl rfl rfl rfl (fun _ _ => rfl) ?_
  refine y_st rfl rfl rfl rfl rfl (fun _ _ => rfl) ?_
  refine y_gf rfl rfl rfl rfl rfl ?_
  refine y_st rfl rfl rfl rfl rfl (fun _ _ => rfl) ?_
  refine y_gf rfl rfl rfl rfl rfl ?_
  refine y_st rfl rfl rfl rfl rfl (fun _ _ => rfl) ?_
  refine y_st rfl rfl rfl rfl rfl (fun _ _ => rfl) ?_
  show yP (xg xs) (d + 1) 298 13 [(0, .ref 58)] [.int ((m.1 58 7) - (6 : Int32)), .int (m.1 58 8), .int (4 : Int32), .ref 58] m Q
  refine y_call rfl rfl rfl rfl rfl (Nat.le_of_ble_eq_true rfl) (Nat.le_of_ble_eq_true rfl) rfl (by decide) H (fun v1 m1 H => ?_)
  obtain ⟨u1, rfl, H⟩ := H
  refine y_st rfl rfl rfl rfl rfl (fun _ _ => rfl) ?_
  refine y_st rfl rfl rfl rfl rfl (fun _ _ => rfl) ?_
  show yP (xg xs) (d + 1) 298 18 [(1, .int u1), (0, .ref 58)] [.ref 58] m1 Q
  refine y_call rfl rfl rfl rfl rfl (Nat.le_of_ble_eq_true rfl) (Nat.le_of_ble_eq_true rfl) rfl (by decide) H (fun v2 m2 H => ?_)
  obtain ⟨rfl, H⟩ := H
  show yP (xg xs) (d + 1) 298 21 [(1, .int u1), (0, .ref 58)] [] m2 Q
  refine y_headS (l2 := [(0, .ref 58), (1, .int u1)]) [1, 0] [0, 1] [1, 0] rfl rfl (by decide) rfl (by decide) ?_
  exact H
set_option maxRecDepth 20000 in
/-- CodeMakerModel.readSection from 21 on -/
theorem w298_21 (xs : List Int32) (d : Nat) (l1 : Int32) (m : yM) (Q : Option Value → yM → Prop) (H : (yC (xg xs) d 293 [.ref 58, .int (2 : Int32)] m (fun v1 m1 => ∃ u1, v1 = some (Value.int u1) ∧ ((u1 = 0 → (yC (xg xs) d 302 [.ref 58, .int (9 : Int32)] m1 (fun v2 m2 => v2 = none ∧ Q (some (.int l1)) m2))) ∧ (¬ u1 = 0 → (yC (xg xs) d 299 [.ref 58] m1 (fun v3 m3 => ∃ u3, v3 = some (Value.int u3) ∧ (yC (xg xs) d 297 [.ref 58, .int l1, .int u3] m3 (fun v4 m4 => v4 = none ∧ yP (xg xs) (d + 1) 298 21 [(0, .ref 58), (1, .int l1)] [] m4 Q))))))))) : yP (xg xs) (d + 1) 298 21 [(0, .ref 58), (1, .int l1)] [] m Q := by
  refine y_st rfl rfl rfl rfl rfl (fun _ _ => rfl) ?_
  refine y_st rfl rfl rfl rfl rfl (fun _ _ => rfl) ?_
  show yP (xg xs) (d + 1) 298 23 [(0, .ref 58), (1, .int l1)] [.int (2 : Int32), .ref 58] m Q
  refine y_call rfl rfl rfl rfl rfl (Nat.le_of_ble_eq_true rfl) (Nat.le_of_ble_eq_true rfl) rfl (by decide) H (fun v1 m1 H => ?_)
  obtain ⟨u1, rfl, H⟩ := H
  show yP (xg xs) (d + 1) 298 26 [(0, .ref 58), (1, .int l1)] [.int u1] m1 Q
  refine y_zeq (t := 41) rfl rfl rfl (fun h => ?_) (fun h => ?_)
  · replace H := H.1 h; clear h
    refine y_st rfl rfl rfl rfl rfl (fun _ _ => rfl) ?_
    refine y_st rfl rfl rfl rfl rfl (fun _ _ => rfl) ?_
    show yP (xg xs) (d + 1) 298 44 [(0, .ref 58), (1, .int l1)] [.int (9 : Int32), .ref 58] m1 Q
    refine y_call rfl rfl rfl rfl rfl (Nat.le_of_ble_eq_true rfl) (Nat.le_of_ble_eq_true rfl) rfl (by decide) H (fun v2 m2 H => ?_)
    obtain ⟨rfl, H⟩ := H
    refine y_st rfl rfl rfl rfl rfl (fun _ _ => rfl) ?_
    show yP (xg xs) (d + 1) 298 48 [(0, .ref 58), (1, .int l1)] [.int l1] m2 Q
    exact y_iret rfl rfl rfl H
  · replace H := H.2 h; clear h
    refine y_st rfl rfl rfl rfl rfl (fun _ _ => rfl) ?_
    refine y_st rfl rfl rfl rfl rfl (fun _ _ => rfl) ?_
    refine y_st rfl rfl rfl rfl rfl (fun _ _ => rfl) ?_
    show yP (xg xs) (d + 1) 298 32 [(0, .ref 58), (1, .int l1)] [.ref 58, .int l1, .ref 58] m1 Q
    refine y_call rfl rfl rfl rfl rfl (Nat.le_of_ble_eq_true rfl) (Nat.le_of_ble_eq_true rfl) rfl (by decide) H (fun v3 m3 H => ?_)
    obtain ⟨u3, rfl, H⟩ := H
    show yP (xg xs) (d + 1) 298 35 [(0, .ref 58), (1, .int l1)] [.int u3, .int l1, .ref 58] m3 Q
    refine y_call rfl rfl rfl rfl rfl (Nat.le_of_ble_eq_true rfl) (Nat.le_of_ble_eq_true rfl) rfl (by decide) H (fun v4 m4 H => ?_)
    obtain ⟨rfl, H⟩ := H
    refine y_st rfl rfl rfl rfl rfl (fun _ _ => rfl) ?_
    show yP (xg xs) (d + 1) 298 21 [(0, .ref 58), (1, .int l1)] [] m4 Q
    exact H
set_option maxRecDepth 20000 in
/-- CodeMakerModel.readDeclaration from 0 on -/
theorem w299_0 (xs : List Int32) (d : Nat) (m : yM) (Q : Option Value → yM → Prop) (H : (yC (xg xs) d 271 [.ref 58, .int (5 : Int32), .int (m.1 58 8), .int (0 : Int32)] m (fun v1 m1 => ∃ u1, v1 = some (Value.int u1) ∧ (yC (xg xs) d 271 [.ref 58, .int (6 : Int32), .int (m1.1 58 8), .int (m1.1 58 7)] m1 (fun v2 m2 => ∃ u2, v2 = some (Value.int u2) ∧ (yC (xg xs) d 297 [.ref 58, .int u1, .int u2] m2 (fun v3 m3 => v3 = none ∧ (yC (xg xs) d 272 [.ref 58] m3 (fun v4 m4 => v4 = none ∧ yP (xg xs) (d + 1) 299 34 [(0, .ref 58), (1, .int u1)] [] m4 Q))))))))) : yP (xg xs) (d + 1) 299 0 [(0, .ref 58)] [] m Q := by
  refine y_st rfl rfl rfl rfl rfl (fun _ _ => rfl) ?_
  refine y_st rfl rfl rfl rfl rfl (fun _ _ => rfl) ?_
  refine y_st rfl rfl rfl rfl rfl (fun _ _ => rfl) ?_
  refine y_gf rfl rfl rfl rfl rfl ?_
  refine y_st rfl rfl rfl rfl rfl (fun _ _ => rfl) ?_
  show yP (xg xs) (d + 1) 299 7 [(0, .ref 58)] [.int (0 : Int32), .int (m.1 58 8), .int (5 : Int32), .ref 58] m Q
  refine y_call rfl rfl rfl rfl rfl (Nat.le_of_ble_eq_true rfl) (Nat.le_of_ble_eq_true rfl) rfl (by decide) H (fun v1 m1 H => ?_)
  obtain ⟨u1, rfl, H⟩ := H
  refine y_st rfl rfl rfl rfl rfl (fun _ _ => rfl) ?_
  refine y_st rfl rfl rfl rfl rfl (fun _ _ => rfl) ?_
  refine y_st rfl rfl rfl rfl rfl (fun _ _ => rfl) ?_
  refine y_st rfl rfl rfl rfl rfl (fun _ _ => rfl) ?_
  refine y_st rfl rfl rfl rfl rfl (fun _ _ => rfl) ?_
  refine y_st rfl rfl rfl rfl rfl (fun _ _ => rfl) ?_
  refine y_gf rfl rfl rfl rfl rfl ?_
  refine y_st rfl rfl rfl rfl rfl (fun _ _ => rfl) ?_
  refine y_gf rfl rfl rfl rfl rfl ?_
  show yP (xg xs) (d + 1) 299 24 [(1, .int u1), (0, .ref 58)] [.int (m1.1 58 7), .int (m1.1 58 8), .int (6 : Int32), .ref 58, .int u1, .ref 58] m1 Q
  refine y_call rfl rfl rfl rfl rfl (Nat.le_of_ble_eq_true rfl) (Nat.le_of_ble_eq_true rfl) rfl (by decide) H (fun v2 m2 H => ?_)
  obtain ⟨u2, rfl, H⟩ := H
  show yP (xg xs) (d + 1) 299 27 [(1, .int u1), (0, .ref 58)] [.int u2, .int u1, .ref 58] m2 Q
  refine y_call rfl rfl rfl rfl rfl (Nat.le_of_ble_eq_true rfl) (Nat.le_of_ble_eq_true rfl) rfl (by decide) H (fun v3 m3 H => ?_)
  obtain ⟨rfl, H⟩ := H
  refine y_st rfl rfl rfl rfl rfl (fun _ _ => rfl) ?_
  show yP (xg xs) (d + 1) 299 31 [(1, .int u1), (0, .ref 58)] [.ref 58] m3 Q
  refine y_call rfl rfl rfl rfl rfl (Nat.le_of_ble_eq_true rfl) (Nat.le_of_ble_eq_true rfl) rfl (by decide) H (fun v4 m4 H => ?_)
  obtain ⟨rfl, H⟩ := H
  show yP (xg xs) (d + 1) 299 34 [(1, .int u1), (0, .ref 58)] [] m4 Q
  refine y_headS (l2 := [(0, .ref 58), (1, .int u1)]) [1, 0] [0, 1] [1, 0] rfl rfl (by decide) rfl (by decide) ?_
  exact H
set_option maxRecDepth 20000 in
/-- CodeMakerModel.readDeclaration from 34 on -/
theorem w299_34 (xs : List Int32) (d : Nat) (l1 : Int32) (m : yM) (Q : Option Value → yM → Prop) (H : (yC (xg xs) d 295 [.ref 58, .int (44 : Int32)] m (fun v1 m1 => ∃ u1, v1 = some (Value.int u1) ∧ ((u1 = 0 → (yC (xg xs) d 290 [.ref 58, .int (10 : Int32)] m1 (fun v2 m2 => ∃ u2, v2 = some (Value.int u2) ∧ ((u2 = 0 → yP (xg xs) (d + 1) 299 127 [(0, .ref 58), (1, .int l1)] [] m2 Q) ∧ (¬ u2 = 0 → (yC (xg xs) d 272 [.ref 58] m2 (fun v3 m3 => v3 = none ∧ (yC (xg xs) d 293 [.ref 58, .int (4 : Int32)] m3 (fun v4 m4 => ∃ u4, v4 = some (Value.int u4) ∧ (yC (xg xs) d 291 [.ref 58, .int u4] m4 (fun v5 m5 => v5 = none ∧ (yC (xg xs) d 271 [.ref 58, .int (7 : Int32), .int (m5.1 58 8), .int (m5.1 58 7)] m5 (fun v6 m6 => ∃ u6, v6 = some (Value.int u6) ∧ (yC (xg xs) d 297 [.ref 58, .int l1, .int u6] m6 (fun v7 m7 => v7 = none ∧ (yC (xg xs) d 272 [.ref 58] m7 (fun v8 m8 => v8 = none ∧ yP (xg xs) (d + 1) 299 127 [(0, .ref 58), (1, .int l1)] [] m8 Q))))))))))))))))) ∧ (¬ u1 = 0 → (yC (xg xs) d 272 [.ref 58] m1 (fun v9 m9 => v9 = none ∧ (yC (xg xs) d 293 [.ref 58, .int (2 : Int32)] m9 (fun v10 m10 => ∃ u10, v10 = some (Value.int u10) ∧ (yC (xg xs) d 291 [.ref 58, .int u10] m10 (fun v11 m11 => v11 = none ∧ (yC (xg xs) d 271 [.ref 58, .int (6 : Int32), .int (m11.1 58 8), .int (m11.1 58 7)] m11 (fun v12 m12 => ∃ u12, v12 = some (Value.int u12) ∧ (yC (xg xs) d 297 [.ref 58, .int l1, .int u12] m12 (fun v13 m13 => v13 = none ∧ (yC (xg xs) d 272 [.ref 58] m13 (fun v14 m14 => v14 = none ∧ yP (xg xs) (d + 1) 299 34 [(0, .ref 58), (1, .int l1)] [] m14 Q))))))))))))))))) : yP (xg xs) (d + 1) 299 34 [(0, .ref 58), (1, .int l1)] [] m Q := by
  refine y_st rfl rfl rfl rfl rfl (fun _ _ => rfl) ?_
  refine y_st rfl rfl rfl rfl rfl (fun _ _ => rfl) ?_
  show yP (xg xs) (d + 1) 299 37 [(0, .ref 58), (1, .int l1)] [.int (44 : Int32), .ref 58] m Q
  refine y_call rfl rfl rfl rfl rfl (Nat.le_of_ble_eq_true rfl) (Nat.le_of_ble_eq_true rfl) rfl (by decide) H (fun v1 m1 H => ?_)
  obtain ⟨u1, rfl, H⟩ := H
  show yP (xg xs) (d + 1) 299 40 [(0, .ref 58), (1, .int l1)] [.int u1] m1 Q
  refine y_zeq (t := 82) rfl rfl rfl (fun h => ?_) (fun h => ?_)
  · replace H := H.1 h; clear h
    refine y_st rfl rfl rfl rfl rfl (fun _ _ => rfl) ?_
    refine y_st rfl rfl rfl rfl rfl (fun _ _ => rfl) ?_
    show yP (xg xs) (d + 1) 299 85 [(0, .ref 58), (1, .int l1)] [.int (10 : Int32), .ref 58] m1 Q
    refine y_call rfl rfl rfl rfl rfl (Nat.le_of_ble_eq_true rfl) (Nat.le_of_ble_eq_true rfl) rfl (by decide) H (fun v2 m2 H => ?_)
    obtain ⟨u2, rfl, H⟩ := H
    show yP (xg xs) (d + 1) 299 88 [(0, .ref 58), (1, .int l1)] [.int u2] m2 Q
    refine y_zeq (t := 127) rfl rfl rfl (fun h => ?_) (fun h => ?_)
    · replace H := H.1 h; clear h
      show yP (xg xs) (d + 1) 299 127 [(0, .ref 58), (1, .int l1)] [] m2 Q
      exact H
    · replace H := H.2 h; clear h
      refine y_st rfl rfl rfl rfl rfl (fun _ _ => rfl) ?_
      show yP (xg xs) (d + 1) 299 92 [(0, .ref 58), (1, .int l1)] [.ref 58] m2 Q
      refine y_call rfl rfl rfl rfl rfl (Nat.le_of_ble_eq_true rfl) (Nat.le_of_ble_eq_true rfl) rfl (by decide) H (fun v3 m3 H => ?_)
      obtain ⟨rfl, H⟩ := H
      refine y_st rfl rfl rfl rfl rfl (fun _ _ => rfl) ?_
      refine y_st rfl rfl rfl rfl rfl (fun _ _ => rfl) ?_
      refine y_st rfl rfl rfl rfl rfl (fun _ _ => rfl) ?_
      show yP (xg xs) (d + 1) 299 98 [(0, .ref 58), (1, .int l1)] [.int (4 : Int32), .ref 58, .ref 58] m3 Q
      refine y_call rfl rfl rfl rfl rfl (Nat.le_of_ble_eq_true rfl) (Nat.le_of_ble_eq_true rfl) rfl (by decide) H (fun v4 m4 H => ?_)
      obtain ⟨u4, rfl, H⟩ := H
      show yP (xg xs) (d + 1) 299 101 [(0, .ref 58), (1, .int l1)] [.int u4, .ref 58] m4 Q
      refine y_call rfl rfl rfl rfl rfl (Nat.le_of_ble_eq_true rfl) (Nat.le_of_ble_eq_true rfl) rfl (by decide) H (fun v5 m5 H => ?_)
      obtain ⟨rfl, H⟩ := H
      refine y_st rfl rfl rfl rfl rfl (fun _ _ => rfl) ?_
      refine y_st rfl rfl rfl rfl rfl (fun _ _ => rfl) ?_
      refine y_st rfl rfl rfl rfl rfl (fun _ _ => rfl) ?_
      refine y_st rfl rfl rfl rfl rfl (fun _ _ => rfl) ?_
      refine y_st rfl rfl rfl rfl rfl (fun _ _ => rfl) ?_
      refine y_gf rfl rfl rfl rfl rfl ?_
      refine y_st rfl rfl rfl rfl rfl (fun _ _ => rfl) ?_
      refine y_gf rfl rfl rfl rfl rfl ?_
      show yP (xg xs) (d + 1) 299 117 [(0, .ref 58), (1, .int l1)] [.int (m5.1 58 7), .int (m5.1 58 8), .int (7 : Int32), .ref 58, .int l1, .ref 58] m5 Q
      refine y_call rfl rfl rfl rfl rfl (Nat.le_of_ble_eq_true rfl) (Nat.le_of_ble_eq_true rfl) rfl (by decide) H (fun v6 m6 H => ?_)
      obtain ⟨u6, rfl, H⟩ := H
      show yP (xg xs) (d + 1) 299 120 [(0, .ref 58), (1, .int l1)] [.int u6, .int l1, .ref 58] m6 Q
      refine y_call rfl rfl rfl rfl rfl (Nat.le_of_ble_eq_true rfl) (Nat.le_of_ble_eq_true rfl) rfl (by decide) H (fun v7 m7 H => ?_)
      obtain ⟨rfl, H⟩ := H
      refine y_st rfl rfl rfl rfl rfl (fun _ _ => rfl) ?_
      show yP (xg xs) (d + 1) 299 124 [(0, .ref 58), (1, .int l1)] [.ref 58] m7 Q
      refine y_call rfl rfl rfl rfl rfl (Nat.le_of_ble_eq_true rfl) (Nat.le_of_ble_eq_true rfl) rfl (by decide) H (fun v8 m8 H => ?_)
      obtain ⟨rfl, H⟩ := H
      show yP (xg xs) (d + 1) 299 127 [(0, .ref 58), (1, .int l1)] [] m8 Q
      exact H
  · replace H := H.2 h; clear h
    refine y_st rfl rfl rfl rfl rfl (fun _ _ => rfl) ?_
    show yP (xg xs) (d + 1) 299 44 [(0, .ref 58), (1, .int l1)] [.ref 58] m1 Q
    refine y_call rfl rfl rfl rfl rfl (Nat.le_of_ble_eq_true rfl) (Nat.le_of_ble_eq_true rfl) rfl (by decide) H (fun v9 m9 H => ?_)
    obtain ⟨rfl, H⟩ := H
    refine y_st rfl rfl rfl rfl rfl (fun _ _ => rfl) ?_
    refine y_st rfl rfl rfl rfl rfl (fun _ _ => rfl) ?_
    refine y_st rfl rfl rfl rfl rfl (fun _ _ => rfl) ?_
    show yP (xg xs) (d + 1) 299 50 [(0, .ref 58), (1, .int l1)] [.int (2 : Int32), .ref 58, .ref 58] m9 Q
    refine y_call rfl rfl rfl rfl rfl (Nat.le_of_ble_eq_true rfl) (Nat.le_of_ble_eq_true rfl) rfl (by decide) H (fun v10 m10 H => ?_)
    obtain ⟨u10, rfl, H⟩ := H
    show yP (xg xs) (d + 1) 299 53 [(0, .ref 58), (1, .int l1)] [.int u10, .ref 58] m10 Q
    refine y_call rfl rfl rfl rfl rfl (Nat.le_of_ble_eq_true rfl) (Nat.le_of_ble_eq_true rfl) rfl (by decide) H (fun v11 m11 H => ?_)
    obtain ⟨rfl, H⟩ := H
    refine y_st rfl rfl rfl rfl rfl (fun _ _ => rfl) ?_
    refine y_st rfl rfl rfl rfl rfl (fun _ _ => rfl) ?_
    refine y_st rfl rfl rfl rfl rfl (fun _ _ => rfl) ?_
    refine y_st rfl rfl rfl rfl rfl (fun _ _ => rfl) ?_
    refine y_st rfl rfl rfl rfl rfl (fun _ _ => rfl) ?_
    refine y_gf rfl rfl rfl rfl rfl ?_
    refine y_st rfl rfl rfl rfl rfl (fun _ _ => rfl) ?_
    refine y_gf rfl rfl rfl rfl rfl ?_
    show yP (xg xs) (d + 1) 299 69 [(0, .ref 58), (1, .int l1)] [.int (m11.1 58 7), .int (m11.1 58 8), .int (6 : Int32), .ref 58, .int l1, .ref 58] m11 Q
    refine y_call rfl rfl rfl rfl rfl (Nat.le_of_ble_eq_true rfl) (Nat.le_of_ble_eq_true rfl) rfl (by decide) H (fun v12 m12 H => ?_)
    obtain ⟨u12, rfl, H⟩ := H
    show yP (xg xs) (d + 1) 299 72 [(0, .ref 58), (1, .int l1)] [.int u12, .int l1, .ref 58] m12 Q
    refine y_call rfl rfl rfl rfl rfl (Nat.le_of_ble_eq_true rfl) (Nat.le_of_ble_eq_true rfl) rfl (by decide) H (fun v13 m13 H => ?_)
    obtain ⟨rfl, H⟩ := H
    refine y_st rfl rfl rfl rfl rfl (fun _ _ => rfl) ?_
    show yP (xg xs) (d + 1) 299 76 [(0, .ref 58), (1, .int l1)] [.ref 58] m13 Q
    refine y_call rfl rfl rfl rfl rfl (Nat.le_of_ble_eq_true rfl) (Nat.le_of_ble_eq_true rfl) rfl (by decide) H (fun v14 m14 H => ?_)
    obtain ⟨rfl, H⟩ := H
    refine y_st rfl rfl rfl rfl rfl (fun _ _ => rfl) ?_
    show yP (xg xs) (d + 1) 299 34 [(0, .ref 58), (1, .int l1)] [] m14 Q
    exact H
set_option maxRecDepth 20000 in
/-- CodeMakerModel.readDeclaration from 127 on -/
theorem w299_127 (xs : List Int32) (d : Nat) (l1 : Int32) (m : yM) (Q : Option Value → yM → Prop) (H : (yC (xg xs) d 294 [.ref 58, .int (58 : Int32)] m (fun v1 m1 => v1 = none ∧ (yC (xg xs) d 300 [.ref 58] m1 (fun v2 m2 => ∃ u2, v2 = some (Value.int u2) ∧ (yC (xg xs) d 297 [.ref 58, .int l1, .int u2] m2 (fun v3 m3 => v3 = none ∧ (yC (xg xs) d 295 [.ref 58, .int (1 : Int32)] m3 (fun v4 m4 => ∃ u4, v4 = some (Value.int u4) ∧ ((u4 = 0 → yP (xg xs) (d + 1) 299 163 [(0, .ref 58), (1, .int l1)] [] m4 Q) ∧ (¬ u4 = 0 → (yC (xg xs) d 272 [.ref 58] m4 (fun v5 m5 => v5 = none ∧ (yC (xg xs) d 301 [.ref 58] m5 (fun v6 m6 => ∃ u6, v6 = some (Value.int u6) ∧ (yC (xg xs) d 297 [.ref 58, .int l1, .int u6] m6 (fun v7 m7 => v7 = none ∧ yP (xg xs) (d + 1) 299 163 [(0, .ref 58), (1, .int l1)] [] m7 Q))))))))))))))))) : yP (xg xs) (d + 1) 299 127 [(0, .ref 58), (1, .int l1)] [] m Q := by
  refine y_st rfl rfl rfl rfl rfl (fun _ _ => rfl) ?_
  refine y_st rfl rfl rfl rfl rfl (fun _ _ => rfl) ?_
  show yP (xg xs) (d + 1) 299 130 [(0, .ref 58), (1, .int l1)] [.int (58 : Int32), .ref 58] m Q
  refine y_call rfl rfl rfl rfl rfl (Nat.le_of_ble_eq_true rfl) (Nat.le_of_ble_eq_true rfl) rfl (by decide) H (fun v1 m1 H => ?_)
  obtain ⟨rfl, H⟩ := H
  refine y_st rfl rfl rfl rfl rfl (fun _ _ => rfl) ?_
  refine y_st rfl rfl rfl rfl rfl (fun _ _ => rfl) ?_
  refine y_st rfl rfl rfl rfl rfl (fun _ _ => rfl) ?_
  show yP (xg xs) (d + 1) 299 136 [(0, .ref 58), (1, .int l1)] [.ref 58, .int l1, .ref 58] m1 Q
  refine y_call rfl rfl rfl rfl rfl (Nat.le_of_ble_eq_true rfl) (Nat.le_of_ble_eq_true rfl) rfl (by decide) H (fun v2 m2 H => ?_)
  obtain ⟨u2, rfl, H⟩ := H
  show yP (xg xs) (d + 1) 299 139 [(0, .ref 58), (1, .int l1)] [.int u2, .int l1, .ref 58] m2 Q
  refine y_call rfl rfl rfl rfl rfl (Nat.le_of_ble_eq_true rfl) (Nat.le_of_ble_eq_true rfl) rfl (by decide) H (fun v3 m3 H => ?_)
  obtain ⟨rfl, H⟩ := H
  refine y_st rfl rfl rfl rfl rfl (fun _ _ => rfl) ?_
  refine y_st rfl rfl rfl rfl rfl (fun _ _ => rfl) ?_
  show yP (xg xs) (d + 1) 299 144 [(0, .ref 58), (1, .int l1)] [.int (1 : Int32), .ref 58] m3 Q
  refine y_call rfl rfl rfl rfl rfl (Nat.le_of_ble_eq_true rfl) (Nat.le_of_ble_eq_true rfl) rfl (by decide) H (fun v4 m4 H => ?_)
  obtain ⟨u4, rfl, H⟩ := H
  show yP (xg xs) (d + 1) 299 147 [(0, .ref 58), (1, .int l1)] [.int u4] m4 Q
  refine y_zeq (t := 163) rfl rfl rfl (fun h => ?_) (fun h => ?_)
  · replace H := H.1 h; clear h
    show yP (xg xs) (d + 1) 299 163 [(0, .ref 58), (1, .int l1)] [] m4 Q
    exact H
  · replace H := H.2 h; clear h
    refine y_st rfl rfl rfl rfl rfl (fun _ _ => rfl) ?_
    show yP (xg xs) (d + 1) 299 151 [(0, .ref 58), (1, .int l1)] [.ref 58] m4 Q
    refine y_call rfl rfl rfl rfl rfl (Nat.le_of_ble_eq_true rfl) (Nat.le_of_ble_eq_true rfl) rfl (by decide) H (fun v5 m5 H => ?_)
    obtain ⟨rfl, H⟩ := H
    refine y_st rfl rfl rfl rfl rfl (fun _ _ => rfl) ?_
    refine y_st rfl rfl rfl rfl rfl (fun _ _ => rfl) ?_
    refine y_st rfl rfl rfl rfl rfl (fun _ _ => rfl) ?_
    show yP (xg xs) (d + 1) 299 157 [(0, .ref 58), (1, .int l1)] [.ref 58, .int l1, .ref 58] m5 Q
    refine y_call rfl rfl rfl rfl rfl (Nat.le_of_ble_eq_true rfl) (Nat.le_of_ble_eq_true rfl) rfl (by decide) H (fun v6 m6 H => ?_)
    obtain ⟨u6, rfl, H⟩ := H
    show yP (xg xs) (d + 1) 299 160 [(0, .ref 58), (1, .int l1)] [.int u6, .int l1, .ref 58] m6 Q
    refine y_call rfl rfl rfl rfl rfl (Nat.le_of_ble_eq_true rfl) (Nat.le_of_ble_eq_true rfl) rfl (by decide) H (fun v7 m7 H => ?_)
    obtain ⟨rfl, H⟩ := H
    show yP (xg xs) (d + 1) 299 163 [(0, .ref 58), (1, .int l1)] [] m7 Q
    exact H
set_option maxRecDepth 20000 in
/-- CodeMakerModel.readDeclaration from 163 on -/
theorem w299_163 (xs : List Int32) (d : Nat) (l1 : Int32) (m : yM) (Q : Option Value → yM → Prop) (H : (yC (xg xs) d 294 [.ref 58, .int (59 : Int32)] m (fun v1 m1 => v1 = none ∧ Q (some (.int l1)) m1))) : yP (xg xs) (d + 1) 299 163 [(0, .ref 58), (1, .int l1)] [] m Q := by
  refine y_st rfl rfl rfl rfl rfl (fun _ _ => rfl) ?_
  refine y_st rfl rfl rfl rfl rfl (fun _ _ => rfl) ?_
  show yP (xg xs) (d + 1) 299 166 [(0, .ref 58), (1, .int l1)] [.int (59 : Int32), .ref 58] m Q
  refine y_call rfl rfl rfl rfl rfl (Nat.le_of_ble_eq_true rfl) (Nat.le_of_ble_eq_true rfl) rfl (by decide) H (fun v1 m1 H => ?_)
  obtain ⟨rfl, H⟩ := H
  refine y_st rfl rfl rfl rfl rfl (fun _ _ => rfl) ?_
  show yP (xg xs) (d + 1) 299 170 [(0, .ref 58), (1, .int l1)] [.int l1] m1 Q
  exact y_iret rfl rfl rfl H
set_option maxRecDepth 20000 in
/-- CodeMakerModel.readType from 0 on -/
theorem w300_0 (xs : List Int32) (d : Nat) (m : yM) (Q : Option Value → yM → Prop) (H : (yC (xg xs) d 293 [.ref 58, .int (2 : Int32)] m (fun v1 m1 => ∃ u1, v1 = some (Value.int u1) ∧ ((u1 = 0 → (yC (xg xs) d 290 [.ref 58, .int (14 : Int32)] m1 (fun v2 m2 => ∃ u2, v2 = some (Value.int u2) ∧ ((¬ u2 = 0 → (yC (xg xs) d 271 [.ref 58, .int (9 : Int32), .int (m2.1 58 8), .int (0 : Int32)] m2 (fun v3 m3 => ∃ u3, v3 = some (Value.int u3) ∧ (yC (xg xs) d 272 [.ref 58] m3 (fun v4 m4 => v4 = none ∧ (yC (xg xs) d 294 [.ref 58, .int (91 : Int32)] m4 (fun v5 m5 => v5 = none ∧ (yC (xg xs) d 301 [.ref 58] m5 (fun v6 m6 => ∃ u6, v6 = some (Value.int u6) ∧ (yC (xg xs) d 297 [.ref 58, .int u3, .int u6] m6 (fun v7 m7 => v7 = none ∧ (yC (xg xs) d 294 [.ref 58, .int (2 : Int32)] m7 (fun v8 m8 => v8 = none ∧ (yC (xg xs) d 301 [.ref 58] m8 (fun v9 m9 => ∃ u9, v9 = some (Value.int u9) ∧ (yC (xg xs) d 297 [.ref 58, .int u3, .int u9] m9 (fun v10 m10 => v10 = none ∧ (yC (xg xs) d 294 [.ref 58, .int (93 : Int32)] m10 (fun v11 m11 => v11 = none ∧ (yC (xg xs) d 302 [.ref 58, .int (15 : Int32)] m11 (fun v12 m12 => v12 = none ∧ (yC (xg xs) d 296 [.ref 58] m12 (fun v13 m13 => ∃ u13, v13 = some (Value.int u13) ∧ (yC (xg xs) d 297 [.ref 58, .int u3, .int u13] m13 (fun v14 m14 => v14 = none ∧ Q (some (.int u3)) m14))))))))))))))))))))))))) ∧ (u2 = 0 → (yC (xg xs) d 296 [.ref 58] m2 (fun v15 m15 => ∃ u15, v15 = some (Value.int u15) ∧ Q (some (.int u15)) m15))))))) ∧ (¬ u1 = 0 → (yC (xg xs) d 271 [.ref 58, .int (10 : Int32), .int (m1.1 58 8), .int (m1.1 58 7)] m1 (fun v16 m16 => ∃ u16, v16 = some (Value.int u16) ∧ (yC (xg xs) d 272 [.ref 58] m16 (fun v17 m17 => v17 = none ∧ Q (some (.int u16)) m17))))))))) : yP (xg xs) (d + 1) 300 0 [(0, .ref 58)] [] m Q := by
  refine y_st rfl rfl rfl rfl rfl (fun _ _ => rfl) ?_
  refine y_st rfl rfl rfl rfl rfl (fun _ _ => rfl) ?_
  show yP (xg xs) (d + 1) 300 2 [(0, .ref 58)] [.int (2 : Int32), .ref 58] m Q
  refine y_call rfl rfl rfl rfl rfl (Nat.le_of_ble_eq_true rfl) (Nat.le_of_ble_eq_true rfl) rfl (by decide) H (fun v1 m1 H => ?_)
  obtain ⟨u1, rfl, H⟩ := H
  show yP (xg xs) (d + 1) 300 5 [(0, .ref 58)] [.int u1] m1 Q
  refine y_zeq (t := 29) rfl rfl rfl (fun h => ?_) (fun h => ?_)
  · replace H := H.1 h; clear h
    refine y_st rfl rfl rfl rfl rfl (fun _ _ => rfl) ?_
    refine y_st rfl rfl rfl rfl rfl (fun _ _ => rfl) ?_
    show yP (xg xs) (d + 1) 300 32 [(0, .ref 58)] [.int (14 : Int32), .ref 58] m1 Q
    refine y_call rfl rfl rfl rfl rfl (Nat.le_of_ble_eq_true rfl) (Nat.le_of_ble_eq_true rfl) rfl (by decide) H (fun v2 m2 H => ?_)
    obtain ⟨u2, rfl, H⟩ := H
    show yP (xg xs) (d + 1) 300 35 [(0, .ref 58)] [.int u2] m2 Q
    refine y_zne (t := 43) rfl rfl rfl (fun h => ?_) (fun h => ?_)
    · replace H := H.1 h; clear h
      refine y_st rfl rfl rfl rfl rfl (fun _ _ => rfl) ?_
      refine y_st rfl rfl rfl rfl rfl (fun _ _ => rfl) ?_
      refine y_st rfl rfl rfl rfl rfl (fun _ _ => rfl) ?_
      refine y_gf rfl rfl rfl rfl rfl ?_
      refine y_st rfl rfl rfl rfl rfl (fun _ _ => rfl) ?_
      show yP (xg xs) (d + 1) 300 51 [(0, .ref 58)] [.int (0 : Int32), .int (m2.1 58 8), .int (9 : Int32), .ref 58] m2 Q
      refine y_call rfl rfl rfl rfl rfl (Nat.le_of_ble_eq_true rfl) (Nat.le_of_ble_eq_true rfl) rfl (by decide) H (fun v3 m3 H => ?_)
      obtain ⟨u3, rfl, H⟩ := H
      refine y_st rfl rfl rfl rfl rfl (fun _ _ => rfl) ?_
      refine y_st rfl rfl rfl rfl rfl (fun _ _ => rfl) ?_
      show yP (xg xs) (d + 1) 300 56 [(1, .int u3), (0, .ref 58)] [.ref 58] m3 Q
      refine y_call rfl rfl rfl rfl rfl (Nat.le_of_ble_eq_true rfl) (Nat.le_of_ble_eq_true rfl) rfl (by decide) H (fun v4 m4 H => ?_)
      obtain ⟨rfl, H⟩ := H
      refine y_st rfl rfl rfl rfl rfl (fun _ _ => rfl) ?_
      refine y_st rfl rfl rfl rfl rfl (fun _ _ => rfl) ?_
      show yP (xg xs) (d + 1) 300 62 [(1, .int u3), (0, .ref 58)] [.int (91 : Int32), .ref 58] m4 Q
      refine y_call rfl rfl rfl rfl rfl (Nat.le_of_ble_eq_true rfl) (Nat.le_of_ble_eq_true rfl) rfl (by decide) H (fun v5 m5 H => ?_)
      obtain ⟨rfl, H⟩ := H
      refine y_st rfl rfl rfl rfl rfl (fun _ _ => rfl) ?_
      refine y_st rfl rfl rfl rfl rfl (fun _ _ => rfl) ?_
      refine y_st rfl rfl rfl rfl rfl (fun _ _ => rfl) ?_
      show yP (xg xs) (d + 1) 300 68 [(1, .int u3), (0, .ref 58)] [.ref 58, .int u3, .ref 58] m5 Q
      refine y_call rfl rfl rfl rfl rfl (Nat.le_of_ble_eq_true rfl) (Nat.le_of_ble_eq_true rfl) rfl (by decide) H (fun v6 m6 H => ?_)
      obtain ⟨u6, rfl, H⟩ := H
      show yP (xg xs) (d + 1) 300 71 [(1, .int u3), (0, .ref 58)] [.int u6, .int u3, .ref 58] m6 Q
      refine y_call rfl rfl rfl rfl rfl (Nat.le_of_ble_eq_true rfl) (Nat.le_of_ble_eq_true rfl) rfl (by decide) H (fun v7 m7 H => ?_)
      obtain ⟨rfl, H⟩ := H
      refine y_st rfl rfl rfl rfl rfl (fun _ _ => rfl) ?_
      refine y_st rfl rfl rfl rfl rfl (fun _ _ => rfl) ?_
      show yP (xg xs) (d + 1) 300 76 [(1, .int u3), (0, .ref 58)] [.int (2 : Int32), .ref 58] m7 Q
      refine y_call rfl rfl rfl rfl rfl (Nat.le_of_ble_eq_true rfl) (Nat.le_of_ble_eq_true rfl) rfl (by decide) H (fun v8 m8 H => ?_)
      obtain ⟨rfl, H⟩ := H
      refine y_st rfl rfl rfl rfl rfl (fun _ _ => rfl) ?_
      refine y_st rfl rfl rfl rfl rfl (fun _ _ => rfl) ?_
      refine y_st rfl rfl rfl rfl rfl (fun _ _ => rfl) ?_
      show yP (xg xs) (d + 1) 300 82 [(1, .int u3), (0, .ref 58)] [.ref 58, .int u3, .ref 58] m8 Q
      refine y_call rfl rfl rfl rfl rfl (Nat.le_of_ble_eq_true rfl) (Nat.le_of_ble_eq_true rfl) rfl (by decide) H (fun v9 m9 H => ?_)
      obtain ⟨u9, rfl, H⟩ := H
      show yP (xg xs) (d + 1) 300 85 [(1, .int u3), (0, .ref 58)] [.int u9, .int u3, .ref 58] m9 Q
      refine y_call rfl rfl rfl rfl rfl (Nat.le_of_ble_eq_true rfl) (Nat.le_of_ble_eq_true rfl) rfl (by decide) H (fun v10 m10 H => ?_)
      obtain ⟨rfl, H⟩ := H
      refine y_st rfl rfl rfl rfl rfl (fun _ _ => rfl) ?_
      refine y_st rfl rfl rfl rfl rfl (fun _ _ => rfl) ?_
      show yP (xg xs) (d + 1) 300 91 [(1, .int u3), (0, .ref 58)] [.int (93 : Int32), .ref 58] m10 Q
      refine y_call rfl rfl rfl rfl rfl (Nat.le_of_ble_eq_true rfl) (Nat.le_of_ble_eq_true rfl) rfl (by decide) H (fun v11 m11 H => ?_)
      obtain ⟨rfl, H⟩ := H
      refine y_st rfl rfl rfl rfl rfl (fun _ _ => rfl) ?_
      refine y_st rfl rfl rfl rfl rfl (fun _ _ => rfl) ?_
      show yP (xg xs) (d + 1) 300 97 [(1, .int u3), (0, .ref 58)] [.int (15 : Int32), .ref 58] m11 Q
      refine y_call rfl rfl rfl rfl rfl (Nat.le_of_ble_eq_true rfl) (Nat.le_of_ble_eq_true rfl) rfl (by decide) H (fun v12 m12 H => ?_)
      obtain ⟨rfl, H⟩ := H
      refine y_st rfl rfl rfl rfl rfl (fun _ _ => rfl) ?_
      refine y_st rfl rfl rfl rfl rfl (fun _ _ => rfl) ?_
      refine y_st rfl rfl rfl rfl rfl (fun _ _ => rfl) ?_
      show yP (xg xs) (d + 1) 300 103 [(1, .int u3), (0, .ref 58)] [.ref 58, .int u3, .ref 58] m12 Q
      refine y_call rfl rfl rfl rfl rfl (Nat.le_of_ble_eq_true rfl) (Nat.le_of_ble_eq_true rfl) rfl (by decide) H (fun v13 m13 H => ?_)
      obtain ⟨u13, rfl, H⟩ := H
      show yP (xg xs) (d + 1) 300 106 [(1, .int u3), (0, .ref 58)] [.int u13, .int u3, .ref 58] m13 Q
      refine y_call rfl rfl rfl rfl rfl (Nat.le_of_ble_eq_true rfl) (Nat.le_of_ble_eq_true rfl) rfl (by decide) H (fun v14 m14 H => ?_)
      obtain ⟨rfl, H⟩ := H
      refine y_st rfl rfl rfl rfl rfl (fun _ _ => rfl) ?_
      show yP (xg xs) (d + 1) 300 110 [(1, .int u3), (0, .ref 58)] [.int u3] m14 Q
      exact y_iret rfl rfl rfl H
    · replace H := H.2 h; clear h
      refine y_st rfl rfl rfl rfl rfl (fun _ _ => rfl) ?_
      show yP (xg xs) (d + 1) 300 39 [(0, .ref 58)] [.ref 58] m2 Q
      refine y_call rfl rfl rfl rfl rfl (Nat.le_of_ble_eq_true rfl) (Nat.le_of_ble_eq_true rfl) rfl (by decide) H (fun v15 m15 H => ?_)
      obtain ⟨u15, rfl, H⟩ := H
      show yP (xg xs) (d + 1) 300 42 [(0, .ref 58)] [.int u15] m15 Q
      exact y_iret rfl rfl rfl H
  · replace H := H.2 h; clear h
    refine y_st rfl rfl rfl rfl rfl (fun _ _ => rfl) ?_
    refine y_st rfl rfl rfl rfl rfl (fun _ _ => rfl) ?_
    refine y_st rfl rfl rfl rfl rfl (fun _ _ => rfl) ?_
    refine y_gf rfl rfl rfl rfl rfl ?_
    refine y_st rfl rfl rfl rfl rfl (fun _ _ => rfl) ?_
    refine y_gf rfl rfl rfl rfl rfl ?_
    show yP (xg xs) (d + 1) 300 19 [(0, .ref 58)] [.int (m1.1 58 7), .int (m1.1 58 8), .int (10 : Int32), .ref 58] m1 Q
    refine y_call rfl rfl rfl rfl rfl (Nat.le_of_ble_eq_true rfl) (Nat.le_of_ble_eq_true rfl) rfl (by decide) H (fun v16 m16 H => ?_)
    obtain ⟨u16, rfl, H⟩ := H
    refine y_st rfl rfl rfl rfl rfl (fun _ _ => rfl) ?_
    refine y_st rfl rfl rfl rfl rfl (fun _ _ => rfl) ?_
    show yP (xg xs) (d + 1) 300 24 [(1, .int u16), (0, .ref 58)] [.ref 58] m16 Q
    refine y_call rfl rfl rfl rfl rfl (Nat.le_of_ble_eq_true rfl) (Nat.le_of_ble_eq_true rfl) rfl (by decide) H (fun v17 m17 H => ?_)
    obtain ⟨rfl, H⟩ := H
    refine y_st rfl rfl rfl rfl rfl (fun _ _ => rfl) ?_
    show yP (xg xs) (d + 1) 300 28 [(1, .int u16), (0, .ref 58)] [.int u16] m17 Q
    exact y_iret rfl rfl rfl H
set_option maxRecDepth 20000 in
/-- CodeMakerModel.readConstant from 0 on -/
theorem w301_0 (xs : List Int32) (d : Nat) (m : yM) (Q : Option Value → yM → Prop) (H : (yC (xg xs) d 295 [.ref 58, .int (45 : Int32)] m (fun v1 m1 => ∃ u1, v1 = some (Value.int u1) ∧ ((u1 = 0 → (yC (xg xs) d 293 [.ref 58, .int (3 : Int32)] m1 (fun v2 m2 => ∃ u2, v2 = some (Value.int u2) ∧ ((¬ u2 = 0 → yP (xg xs) (d + 1) 301 73 [(0, .ref 58), (1, .int (m.1 58 8))] [.ref 58] m2 Q) ∧ (u2 = 0 → (yC (xg xs) d 290 [.ref 58, .int (35 : Int32)] m2 (fun v3 m3 => ∃ u3, v3 = some (Value.int u3) ∧ ((¬ u3 = 0 → yP (xg xs) (d + 1) 301 73 [(0, .ref 58), (1, .int (m.1 58 8))] [.ref 58] m3 Q) ∧ (u3 = 0 → (yC (xg xs) d 290 [.ref 58, .int (36 : Int32)] m3 (fun v4 m4 => ∃ u4, v4 = some (Value.int u4) ∧ ((u4 = 0 → yP (xg xs) (d + 1) 301 78 [(0, .ref 58), (1, .int (m.1 58 8))] [.int (0 : Int32), .ref 58] m4 Q) ∧ (¬ u4 = 0 → yP (xg xs) (d + 1) 301 73 [(0, .ref 58), (1, .int (m.1 58 8))] [.ref 58] m4 Q))))))))))))) ∧ (¬ u1 = 0 → (yC (xg xs) d 272 [.ref 58] m1 (fun v5 m5 => v5 = none ∧ (yC (xg xs) d 293 [.ref 58, .int (3 : Int32)] m5 (fun v6 m6 => ∃ u6, v6 = some (Value.int u6) ∧ (yC (xg xs) d 291 [.ref 58, .int u6] m6 (fun v7 m7 => v7 = none ∧ (yC (xg xs) d 271 [.ref 58, .int (30 : Int32), .int (m.1 58 8), .int (-(m7.1 58 7))] m7 (fun v8 m8 => ∃ u8, v8 = some (Value.int u8) ∧ (yC (xg xs) d 272 [.ref 58] m8 (fun v9 m9 => v9 = none ∧ Q (some (.int u8)) m9))))))))))))))) : yP (xg xs) (d + 1) 301 0 [(0, .ref 58)] [] m Q := by
  refine y_st rfl rfl rfl rfl rfl (fun _ _ => rfl) ?_
  refine y_gf rfl rfl rfl rfl rfl ?_
  refine y_st rfl rfl rfl rfl rfl (fun _ _ => rfl) ?_
  refine y_st rfl rfl rfl rfl rfl (fun _ _ => rfl) ?_
  refine y_st rfl rfl rfl rfl rfl (fun _ _ => rfl) ?_
  show yP (xg xs) (d + 1) 301 8 [(1, .int (m.1 58 8)), (0, .ref 58)] [.int (45 : Int32), .ref 58] m Q
  refine y_call rfl rfl rfl rfl rfl (Nat.le_of_ble_eq_true rfl) (Nat.le_of_ble_eq_true rfl) rfl (by decide) H (fun v1 m1 H => ?_)
  obtain ⟨u1, rfl, H⟩ := H
  show yP (xg xs) (d + 1) 301 11 [(1, .int (m.1 58 8)), (0, .ref 58)] [.int u1] m1 Q
  refine y_zeq (t := 46) rfl rfl rfl (fun h => ?_) (fun h => ?_)
  · replace H := H.1 h; clear h
    refine y_st rfl rfl rfl rfl rfl (fun _ _ => rfl) ?_
    refine y_st rfl rfl rfl rfl rfl (fun _ _ => rfl) ?_
    refine y_st rfl rfl rfl rfl rfl (fun _ _ => rfl) ?_
    show yP (xg xs) (d + 1) 301 49 [(1, .int (m.1 58 8)), (0, .ref 58)] [.int (3 : Int32), .ref 58, .ref 58] m1 Q
    refine y_call rfl rfl rfl rfl rfl (Nat.le_of_ble_eq_true rfl) (Nat.le_of_ble_eq_true rfl) rfl (by decide) H (fun v2 m2 H => ?_)
    obtain ⟨u2, rfl, H⟩ := H
    show yP (xg xs) (d + 1) 301 52 [(1, .int (m.1 58 8)), (0, .ref 58)] [.int u2, .ref 58] m2 Q
    refine y_zne (t := 73) rfl rfl rfl (fun h => ?_) (fun h => ?_)
    · replace H := H.1 h; clear h
      show yP (xg xs) (d + 1) 301 73 [(1, .int (m.1 58 8)), (0, .ref 58)] [.ref 58] m2 Q
      refine y_headS (l2 := [(0, .ref 58), (1, .int (m.1 58 8))]) [1, 0] [0, 1] [1, 0] rfl rfl (by decide) rfl (by decide) ?_
      exact H
    · replace H := H.2 h; clear h
      refine y_st rfl rfl rfl rfl rfl (fun _ _ => rfl) ?_
      refine y_st rfl rfl rfl rfl rfl (fun _ _ => rfl) ?_
      show yP (xg xs) (d + 1) 301 58 [(1, .int (m.1 58 8)), (0, .ref 58)] [.int (35 : Int32), .ref 58, .ref 58] m2 Q
      refine y_call rfl rfl rfl rfl rfl (Nat.le_of_ble_eq_true rfl) (Nat.le_of_ble_eq_true rfl) rfl (by decide) H (fun v3 m3 H => ?_)
      obtain ⟨u3, rfl, H⟩ := H
      show yP (xg xs) (d + 1) 301 61 [(1, .int (m.1 58 8)), (0, .ref 58)] [.int u3, .ref 58] m3 Q
      refine y_zne (t := 73) rfl rfl rfl (fun h => ?_) (fun h => ?_)
      · replace H := H.1 h; clear h
        show yP (xg xs) (d + 1) 301 73 [(1, .int (m.1 58 8)), (0, .ref 58)] [.ref 58] m3 Q
        refine y_headS (l2 := [(0, .ref 58), (1, .int (m.1 58 8))]) [1, 0] [0, 1] [1, 0] rfl rfl (by decide) rfl (by decide) ?_
        exact H
      · replace H := H.2 h; clear h
        refine y_st rfl rfl rfl rfl rfl (fun _ _ => rfl) ?_
        refine y_st rfl rfl rfl rfl rfl (fun _ _ => rfl) ?_
        show yP (xg xs) (d + 1) 301 67 [(1, .int (m.1 58 8)), (0, .ref 58)] [.int (36 : Int32), .ref 58, .ref 58] m3 Q
        refine y_call rfl rfl rfl rfl rfl (Nat.le_of_ble_eq_true rfl) (Nat.le_of_ble_eq_true rfl) rfl (by decide) H (fun v4 m4 H => ?_)
        obtain ⟨u4, rfl, H⟩ := H
        show yP (xg xs) (d + 1) 301 70 [(1, .int (m.1 58 8)), (0, .ref 58)] [.int u4, .ref 58] m4 Q
        refine y_zeq (t := 77) rfl rfl rfl (fun h => ?_) (fun h => ?_)
        · replace H := H.1 h; clear h
          refine y_st rfl rfl rfl rfl rfl (fun _ _ => rfl) ?_
          show yP (xg xs) (d + 1) 301 78 [(1, .int (m.1 58 8)), (0, .ref 58)] [.int (0 : Int32), .ref 58] m4 Q
          refine y_headS (l2 := [(0, .ref 58), (1, .int (m.1 58 8))]) [1, 0] [0, 1] [1, 0] rfl rfl (by decide) rfl (by decide) ?_
          exact H
        · replace H := H.2 h; clear h
          show yP (xg xs) (d + 1) 301 73 [(1, .int (m.1 58 8)), (0, .ref 58)] [.ref 58] m4 Q
          refine y_headS (l2 := [(0, .ref 58), (1, .int (m.1 58 8))]) [1, 0] [0, 1] [1, 0] rfl rfl (by decide) rfl (by decide) ?_
          exact H
  · replace H := H.2 h; clear h
    refine y_st rfl rfl rfl rfl rfl (fun _ _ => rfl) ?_
    show yP (xg xs) (d + 1) 301 15 [(1, .int (m.1 58 8)), (0, .ref 58)] [.ref 58] m1 Q
    refine y_call rfl rfl rfl rfl rfl (Nat.le_of_ble_eq_true rfl) (Nat.le_of_ble_eq_true rfl) rfl (by decide) H (fun v5 m5 H => ?_)
    obtain ⟨rfl, H⟩ := H
    refine y_st rfl rfl rfl rfl rfl (fun _ _ => rfl) ?_
    refine y_st rfl rfl rfl rfl rfl (fun _ _ => rfl) ?_
    refine y_st rfl rfl rfl rfl rfl (fun _ _ => rfl) ?_
    show yP (xg xs) (d + 1) 301 21 [(1, .int (m.1 58 8)), (0, .ref 58)] [.int (3 : Int32), .ref 58, .ref 58] m5 Q
    refine y_call rfl rfl rfl rfl rfl (Nat.le_of_ble_eq_true rfl) (Nat.le_of_ble_eq_true rfl) rfl (by decide) H (fun v6 m6 H => ?_)
    obtain ⟨u6, rfl, H⟩ := H
    show yP (xg xs) (d + 1) 301 24 [(1, .int (m.1 58 8)), (0, .ref 58)] [.int u6, .ref 58] m6 Q
    refine y_call rfl rfl rfl rfl rfl (Nat.le_of_ble_eq_true rfl) (Nat.le_of_ble_eq_true rfl) rfl (by decide) H (fun v7 m7 H => ?_)
    obtain ⟨rfl, H⟩ := H
    refine y_st rfl rfl rfl rfl rfl (fun _ _ => rfl) ?_
    refine y_st rfl rfl rfl rfl rfl (fun _ _ => rfl) ?_
    refine y_st rfl rfl rfl rfl rfl (fun _ _ => rfl) ?_
    refine y_st rfl rfl rfl rfl rfl (fun _ _ => rfl) ?_
    refine y_gf rfl rfl rfl rfl rfl ?_
    refine y_st rfl rfl rfl rfl rfl (fun _ _ => rfl) ?_
    show yP (xg xs) (d + 1) 301 36 [(1, .int (m.1 58 8)), (0, .ref 58)] [.int (-(m7.1 58 7)), .int (m.1 58 8), .int (30 : Int32), .ref 58] m7 Q
    refine y_call rfl rfl rfl rfl rfl (Nat.le_of_ble_eq_true rfl) (Nat.le_of_ble_eq_true rfl) rfl (by decide) H (fun v8 m8 H => ?_)
    obtain ⟨u8, rfl, H⟩ := H
    refine y_st rfl rfl rfl rfl rfl (fun _ _ => rfl) ?_
    refine y_st rfl rfl rfl rfl rfl (fun _ _ => rfl) ?_
    show yP (xg xs) (d + 1) 301 41 [(2, .int u8), (1, .int (m.1 58 8)), (0, .ref 58)] [.ref 58] m8 Q
    refine y_call rfl rfl rfl rfl rfl (Nat.le_of_ble_eq_true rfl) (Nat.le_of_ble_eq_true rfl) rfl (by decide) H (fun v9 m9 H => ?_)
    obtain ⟨rfl, H⟩ := H
    refine y_st rfl rfl rfl rfl rfl (fun _ _ => rfl) ?_
    show yP (xg xs) (d + 1) 301 45 [(2, .int u8), (1, .int (m.1 58 8)), (0, .ref 58)] [.int u8] m9 Q
    exact y_iret rfl rfl rfl H
set_option maxRecDepth 20000 in
/-- CodeMakerModel.readConstant from 73 on -/
theorem w301_73 (xs : List Int32) (d : Nat) (l1 : Int32) (m : yM) (Q : Option Value → yM → Prop) (H : yP (xg xs) (d + 1) 301 78 [(0, .ref 58), (1, .int l1)] [.int (1 : Int32), .ref 58] m Q) : yP (xg xs) (d + 1) 301 73 [(0, .ref 58), (1, .int l1)] [.ref 58] m Q := by
  refine y_st rfl rfl rfl rfl rfl (fun _ _ => rfl) ?_
  refine y_st rfl rfl rfl rfl rfl (fun _ _ => rfl) ?_
  show yP (xg xs) (d + 1) 301 78 [(0, .ref 58), (1, .int l1)] [.int (1 : Int32), .ref 58] m Q
  exact H
set_option maxRecDepth 20000 in
/-- CodeMakerModel.readConstant from 78 on -/
theorem w301_78 (xs : List Int32) (d : Nat) (l1 : Int32) (s1 : Int32) (m : yM) (Q : Option Value → yM → Prop) (H : (yC (xg xs) d 291 [.ref 58, .int s1] m (fun v1 m1 => v1 = none ∧ (yC (xg xs) d 293 [.ref 58, .int (3 : Int32)] m1 (fun v2 m2 => ∃ u2, v2 = some (Value.int u2) ∧ ((u2 = 0 → (yC (xg xs) d 290 [.ref 58, .int (35 : Int32)] m2 (fun v3 m3 => ∃ u3, v3 = some (Value.int u3) ∧ ((u3 = 0 → yP (xg xs) (d + 1) 301 121 [(0, .ref 58)] [.int (0 : Int32), .int l1, .int (31 : Int32), .ref 58] m3 Q) ∧ (¬ u3 = 0 → yP (xg xs) (d + 1) 301 121 [(0, .ref 58)] [.int (1 : Int32), .int l1, .int (31 : Int32), .ref 58] m3 Q))))) ∧ (¬ u2 = 0 → (yC (xg xs) d 271 [.ref 58, .int (30 : Int32), .int l1, .int (m2.1 58 7)] m2 (fun v4 m4 => ∃ u4, v4 = some (Value.int u4) ∧ yP (xg xs) (d + 1) 301 124 [(0, .ref 58)] [.int u4] m4 Q))))))))) : yP (xg xs) (d + 1) 301 78 [(0, .ref 58), (1, .int l1)] [.int s1, .ref 58] m Q := by
  show yP (xg xs) (d + 1) 301 78 [(0, .ref 58), (1, .int l1)] [.int s1, .ref 58] m Q
  refine y_call rfl rfl rfl rfl rfl (Nat.le_of_ble_eq_true rfl) (Nat.le_of_ble_eq_true rfl) rfl (by decide) H (fun v1 m1 H => ?_)
  obtain ⟨rfl, H⟩ := H
  refine y_st rfl rfl rfl rfl rfl (fun _ _ => rfl) ?_
  refine y_st rfl rfl rfl rfl rfl (fun _ _ => rfl) ?_
  show yP (xg xs) (d + 1) 301 83 [(0, .ref 58), (1, .int l1)] [.int (3 : Int32), .ref 58] m1 Q
  refine y_call rfl rfl rfl rfl rfl (Nat.le_of_ble_eq_true rfl) (Nat.le_of_ble_eq_true rfl) rfl (by decide) H (fun v2 m2 H => ?_)
  obtain ⟨u2, rfl, H⟩ := H
  show yP (xg xs) (d + 1) 301 86 [(0, .ref 58), (1, .int l1)] [.int u2] m2 Q
  refine y_zeq (t := 103) rfl rfl rfl (fun h => ?_) (fun h => ?_)
  · replace H := H.1 h; clear h
    refine y_st rfl rfl rfl rfl rfl (fun _ _ => rfl) ?_
    refine y_st rfl rfl rfl rfl rfl (fun _ _ => rfl) ?_
    refine y_st rfl rfl rfl rfl rfl (fun _ _ => rfl) ?_
    refine y_st rfl rfl rfl rfl rfl (fun _ _ => rfl) ?_
    refine y_st rfl rfl rfl rfl rfl (fun _ _ => rfl) ?_
    show yP (xg xs) (d + 1) 301 110 [(0, .ref 58), (1, .int l1)] [.int (35 : Int32), .ref 58, .int l1, .int (31 : Int32), .ref 58] m2 Q
    refine y_call rfl rfl rfl rfl rfl (Nat.le_of_ble_eq_true rfl) (Nat.le_of_ble_eq_true rfl) rfl (by decide) H (fun v3 m3 H => ?_)
    obtain ⟨u3, rfl, H⟩ := H
    show yP (xg xs) (d + 1) 301 113 [(0, .ref 58), (1, .int l1)] [.int u3, .int l1, .int (31 : Int32), .ref 58] m3 Q
    refine y_zeq (t := 120) rfl rfl rfl (fun h => ?_) (fun h => ?_)
    · replace H := H.1 h; clear h
      refine y_st rfl rfl rfl rfl rfl (fun _ _ => rfl) ?_
      show yP (xg xs) (d + 1) 301 121 [(0, .ref 58), (1, .int l1)] [.int (0 : Int32), .int l1, .int (31 : Int32), .ref 58] m3 Q
      refine y_headS (l2 := [(0, .ref 58)]) [0] [0] [0, 1] rfl rfl (by decide) rfl (by decide) ?_
      exact H
    · replace H := H.2 h; clear h
      refine y_st rfl rfl rfl rfl rfl (fun _ _ => rfl) ?_
      refine y_st rfl rfl rfl rfl rfl (fun _ _ => rfl) ?_
      show yP (xg xs) (d + 1) 301 121 [(0, .ref 58), (1, .int l1)] [.int (1 : Int32), .int l1, .int (31 : Int32), .ref 58] m3 Q
      refine y_headS (l2 := [(0, .ref 58)]) [0] [0] [0, 1] rfl rfl (by decide) rfl (by decide) ?_
      exact H
  · replace H := H.2 h; clear h
    refine y_st rfl rfl rfl rfl rfl (fun _ _ => rfl) ?_
    refine y_st rfl rfl rfl rfl rfl (fun _ _ => rfl) ?_
    refine y_st rfl rfl rfl rfl rfl (fun _ _ => rfl) ?_
    refine y_st rfl rfl rfl rfl rfl (fun _ _ => rfl) ?_
    refine y_gf rfl rfl rfl rfl rfl ?_
    show yP (xg xs) (d + 1) 301 97 [(0, .ref 58), (1, .int l1)] [.int (m2.1 58 7), .int l1, .int (30 : Int32), .ref 58] m2 Q
    refine y_call rfl rfl rfl rfl rfl (Nat.le_of_ble_eq_true rfl) (Nat.le_of_ble_eq_true rfl) rfl (by decide) H (fun v4 m4 H => ?_)
    obtain ⟨u4, rfl, H⟩ := H
    refine y_st rfl rfl rfl rfl rfl (fun _ _ => rfl) ?_
    show yP (xg xs) (d + 1) 301 124 [(0, .ref 58), (1, .int l1)] [.int u4] m4 Q
    refine y_headS (l2 := [(0, .ref 58)]) [0] [0] [0, 1] rfl rfl (by decide) rfl (by decide) ?_
    exact H
set_option maxRecDepth 20000 in
/-- CodeMakerModel.readConstant from 121 on -/
theorem w301_121 (xs : List Int32) (d : Nat) (s1 : Int32) (s2 : Int32) (s3 : Int32) (m : yM) (Q : Option Value → yM → Prop) (H : (yC (xg xs) d 271 [.ref 58, .int s1, .int s2, .int s3] m (fun v1 m1 => ∃ u1, v1 = some (Value.int u1) ∧ yP (xg xs) (d + 1) 301 124 [(0, .ref 58)] [.int u1] m1 Q))) : yP (xg xs) (d + 1) 301 121 [(0, .ref 58)] [.int s3, .int s2, .int s1, .ref 58] m Q := by
  show yP (xg xs) (d + 1) 301 121 [(0, .ref 58)] [.int s3, .int s2, .int s1, .ref 58] m Q
  refine y_call rfl rfl rfl rfl rfl (Nat.le_of_ble_eq_true rfl) (Nat.le_of_ble_eq_true rfl) rfl (by decide) H (fun v1 m1 H => ?_)
  obtain ⟨u1, rfl, H⟩ := H
  show yP (xg xs) (d + 1) 301 124 [(0, .ref 58)] [.int u1] m1 Q
  exact H
set_option maxRecDepth 20000 in
/-- CodeMakerModel.readConstant from 124 on -/
theorem w301_124 (xs : List Int32) (d : Nat) (s0 : Int32) (m : yM) (Q : Option Value → yM → Prop) (H : (yC (xg xs) d 272 [.ref 58] m (fun v1 m1 => v1 = none ∧ Q (some (.int s0)) m1))) : yP (xg xs) (d + 1) 301 124 [(0, .ref 58)] [.int s0] m Q := by
  refine y_st rfl rfl rfl rfl rfl (fun _ _ => rfl) ?_
  refine y_st rfl rfl rfl rfl rfl (fun _ _ => rfl) ?_
  show yP (xg xs) (d + 1) 301 126 [(2, .int s0), (0, .ref 58)] [.ref 58] m Q
  refine y_call rfl rfl rfl rfl rfl (Nat.le_of_ble_eq_true rfl) (Nat.le_of_ble_eq_true rfl) rfl (by decide) H (fun v1 m1 H => ?_)
  obtain ⟨rfl, H⟩ := H
  refine y_st rfl rfl rfl rfl rfl (fun _ _ => rfl) ?_
  show yP (xg xs) (d + 1) 301 130 [(2, .int s0), (0, .ref 58)] [.int s0] m1 Q
  exact y_iret rfl rfl rfl H
set_option maxRecDepth 20000 in
/-- CodeMakerModel.word from 0 on -/
theorem w302_0 (xs : List Int32) (d : Nat) (l1 : Int32) (m : yM) (Q : Option Value → yM → Prop) (H : (yC (xg xs) d 290 [.ref 58, .int l1] m (fun v1 m1 => ∃ u1, v1 = some (Value.int u1) ∧ (yC (xg xs) d 291 [.ref 58, .int u1] m1 (fun v2 m2 => v2 = none ∧ (yC (xg xs) d 272 [.ref 58] m2 (fun v3 m3 => v3 = none ∧ Q none m3))))))) : yP (xg xs) (d + 1) 302 0 [(0, .ref 58), (1, .int l1)] [] m Q := by
  refine y_st rfl rfl rfl rfl rfl (fun _ _ => rfl) ?_
  refine y_st rfl rfl rfl rfl rfl (fun _ _ => rfl) ?_
  refine y_st rfl rfl rfl rfl rfl (fun _ _ => rfl) ?_
  show yP (xg xs) (d + 1) 302 3 [(0, .ref 58), (1, .int l1)] [.int l1, .ref 58, .ref 58] m Q
  refine y_call rfl rfl rfl rfl rfl (Nat.le_of_ble_eq_true rfl) (Nat.le_of_ble_eq_true rfl) rfl (by decide) H (fun v1 m1 H => ?_)
  obtain ⟨u1, rfl, H⟩ := H
  show yP (xg xs) (d + 1) 302 6 [(0, .ref 58), (1, .int l1)] [.int u1, .ref 58] m1 Q
  refine y_call rfl rfl rfl rfl rfl (Nat.le_of_ble_eq_true rfl) (Nat.le_of_ble_eq_true rfl) rfl (by decide) H (fun v2 m2 H => ?_)
  obtain ⟨rfl, H⟩ := H
  refine y_st rfl rfl rfl rfl rfl (fun _ _ => rfl) ?_
  show yP (xg xs) (d + 1) 302 10 [(0, .ref 58), (1, .int l1)] [.ref 58] m2 Q
  refine y_call rfl rfl rfl rfl rfl (Nat.le_of_ble_eq_true rfl) (Nat.le_of_ble_eq_true rfl) rfl (by decide) H (fun v3 m3 H => ?_)
  obtain ⟨rfl, H⟩ := H
  show yP (xg xs) (d + 1) 302 13 [(0, .ref 58), (1, .int l1)] [] m3 Q
  exact y_ret rfl rfl rfl rfl H
set_option maxRecDepth 20000 in
/-- CodeMakerModel.readBody from 0 on -/
theorem w303_0 (xs : List Int32) (d : Nat) (m : yM) (Q : Option Value → yM → Prop) (H : (yC (xg xs) d 290 [.ref 58, .int (37 : Int32)] m (fun v1 m1 => ∃ u1, v1 = some (Value.int u1) ∧ ((¬ u1 = 0 → (yC (xg xs) d 271 [.ref 58, .int (22 : Int32), .int (m1.1 58 8), .int (0 : Int32)] m1 (fun v2 m2 => ∃ u2, v2 = some (Value.int u2) ∧ (yC (xg xs) d 272 [.ref 58] m2 (fun v3 m3 => v3 = none ∧ yP (xg xs) (d + 1) 303 30 [(0, .ref 58), (1, .int u2)] [] m3 Q))))) ∧ (u1 = 0 → (yC (xg xs) d 304 [.ref 58] m1 (fun v4 m4 => ∃ u4, v4 = some (Value.int u4) ∧ Q (some (.int u4)) m4))))))) : yP (xg xs) (d + 1) 303 0 [(0, .ref 58)] [] m Q := by
  refine y_st rfl rfl rfl rfl rfl (fun _ _ => rfl) ?_
  refine y_st rfl rfl rfl rfl rfl (fun _ _ => rfl) ?_
  show yP (xg xs) (d + 1) 303 3 [(0, .ref 58)] [.int (37 : Int32), .ref 58] m Q
  refine y_call rfl rfl rfl rfl rfl (Nat.le_of_ble_eq_true rfl) (Nat.le_of_ble_eq_true rfl) rfl (by decide) H (fun v1 m1 H => ?_)
  obtain ⟨u1, rfl, H⟩ := H
  show yP (xg xs) (d + 1) 303 6 [(0, .ref 58)] [.int u1] m1 Q
  refine y_zne (t := 14) rfl rfl rfl (fun h => ?_) (fun h => ?_)
  · replace H := H.1 h; clear h
    refine y_st rfl rfl rfl rfl rfl (fun _ _ => rfl) ?_
    refine y_st rfl rfl rfl rfl rfl (fun _ _ => rfl) ?_
    refine y_st rfl rfl rfl rfl rfl (fun _ _ => rfl) ?_
    refine y_gf rfl rfl rfl rfl rfl ?_
    refine y_st rfl rfl rfl rfl rfl (fun _ _ => rfl) ?_
    show yP (xg xs) (d + 1) 303 22 [(0, .ref 58)] [.int (0 : Int32), .int (m1.1 58 8), .int (22 : Int32), .ref 58] m1 Q
    refine y_call rfl rfl rfl rfl rfl (Nat.le_of_ble_eq_true rfl) (Nat.le_of_ble_eq_true rfl) rfl (by decide) H (fun v2 m2 H => ?_)
    obtain ⟨u2, rfl, H⟩ := H
    refine y_st rfl rfl rfl rfl rfl (fun _ _ => rfl) ?_
    refine y_st rfl rfl rfl rfl rfl (fun _ _ => rfl) ?_
    show yP (xg xs) (d + 1) 303 27 [(1, .int u2), (0, .ref 58)] [.ref 58] m2 Q
    refine y_call rfl rfl rfl rfl rfl (Nat.le_of_ble_eq_true rfl) (Nat.le_of_ble_eq_true rfl) rfl (by decide) H (fun v3 m3 H => ?_)
    obtain ⟨rfl, H⟩ := H
    show yP (xg xs) (d + 1) 303 30 [(1, .int u2), (0, .ref 58)] [] m3 Q
    refine y_headS (l2 := [(0, .ref 58), (1, .int u2)]) [1, 0] [0, 1] [1, 0] rfl rfl (by decide) rfl (by decide) ?_
    exact H
  · replace H := H.2 h; clear h
    refine y_st rfl rfl rfl rfl rfl (fun _ _ => rfl) ?_
    show yP (xg xs) (d + 1) 303 10 [(0, .ref 58)] [.ref 58] m1 Q
    refine y_call rfl rfl rfl rfl rfl (Nat.le_of_ble_eq_true rfl) (Nat.le_of_ble_eq_true rfl) rfl (by decide) H (fun v4 m4 H => ?_)
    obtain ⟨u4, rfl, H⟩ := H
    show yP (xg xs) (d + 1) 303 13 [(0, .ref 58)] [.int u4] m4 Q
    exact y_iret rfl rfl rfl H
set_option maxRecDepth 20000 in
/-- CodeMakerModel.readBody from 30 on -/
theorem w303_30 (xs : List Int32) (d : Nat) (l1 : Int32) (m : yM) (Q : Option Value → yM → Prop) (H : (yC (xg xs) d 290 [.ref 58, .int (39 : Int32)] m (fun v1 m1 => ∃ u1, v1 = some (Value.int u1) ∧ ((u1 = 0 → (yC (xg xs) d 302 [.ref 58, .int (38 : Int32)] m1 (fun v2 m2 => v2 = none ∧ Q (some (.int l1)) m2))) ∧ (¬ u1 = 0 → (yC (xg xs) d 318 [.ref 58] m1 (fun v3 m3 => ∃ u3, v3 = some (Value.int u3) ∧ (yC (xg xs) d 297 [.ref 58, .int l1, .int u3] m3 (fun v4 m4 => v4 = none ∧ yP (xg xs) (d + 1) 303 30 [(0, .ref 58), (1, .int l1)] [] m4 Q))))))))) : yP (xg xs) (d + 1) 303 30 [(0, .ref 58), (1, .int l1)] [] m Q := by
  refine y_st rfl rfl rfl rfl rfl (fun _ _ => rfl) ?_
  refine y_st rfl rfl rfl rfl rfl (fun _ _ => rfl) ?_
  show yP (xg xs) (d + 1) 303 33 [(0, .ref 58), (1, .int l1)] [.int (39 : Int32), .ref 58] m Q
  refine y_call rfl rfl rfl rfl rfl (Nat.le_of_ble_eq_true rfl) (Nat.le_of_ble_eq_true rfl) rfl (by decide) H (fun v1 m1 H => ?_)
  obtain ⟨u1, rfl, H⟩ := H
  show yP (xg xs) (d + 1) 303 36 [(0, .ref 58), (1, .int l1)] [.int u1] m1 Q
  refine y_zeq (t := 51) rfl rfl rfl (fun h => ?_) (fun h => ?_)
  · replace H := H.1 h; clear h
    refine y_st rfl rfl rfl rfl rfl (fun _ _ => rfl) ?_
    refine y_st rfl rfl rfl rfl rfl (fun _ _ => rfl) ?_
    show yP (xg xs) (d + 1) 303 54 [(0, .ref 58), (1, .int l1)] [.int (38 : Int32), .ref 58] m1 Q
    refine y_call rfl rfl rfl rfl rfl (Nat.le_of_ble_eq_true rfl) (Nat.le_of_ble_eq_true rfl) rfl (by decide) H (fun v2 m2 H => ?_)
    obtain ⟨rfl, H⟩ := H
    refine y_st rfl rfl rfl rfl rfl (fun _ _ => rfl) ?_
    show yP (xg xs) (d + 1) 303 58 [(0, .ref 58), (1, .int l1)] [.int l1] m2 Q
    exact y_iret rfl rfl rfl H
  · replace H := H.2 h; clear h
    refine y_st rfl rfl rfl rfl rfl (fun _ _ => rfl) ?_
    refine y_st rfl rfl rfl rfl rfl (fun _ _ => rfl) ?_
    refine y_st rfl rfl rfl rfl rfl (fun _ _ => rfl) ?_
    show yP (xg xs) (d + 1) 303 42 [(0, .ref 58), (1, .int l1)] [.ref 58, .int l1, .ref 58] m1 Q
    refine y_call rfl rfl rfl rfl rfl (Nat.le_of_ble_eq_true rfl) (Nat.le_of_ble_eq_true rfl) rfl (by decide) H (fun v3 m3 H => ?_)
    obtain ⟨u3, rfl, H⟩ := H
    show yP (xg xs) (d + 1) 303 45 [(0, .ref 58), (1, .int l1)] [.int u3, .int l1, .ref 58] m3 Q
    refine y_call rfl rfl rfl rfl rfl (Nat.le_of_ble_eq_true rfl) (Nat.le_of_ble_eq_true rfl) rfl (by decide) H (fun v4 m4 H => ?_)
    obtain ⟨rfl, H⟩ := H
    refine y_st rfl rfl rfl rfl rfl (fun _ _ => rfl) ?_
    show yP (xg xs) (d + 1) 303 30 [(0, .ref 58), (1, .int l1)] [] m4 Q
    exact H
set_option maxRecDepth 20000 in
/-- CodeMakerModel.readStatements from 0 on -/
theorem w304_0 (xs : List Int32) (d : Nat) (m : yM) (Q : Option Value → yM → Prop) (H : (yC (xg xs) d 271 [.ref 58, .int (11 : Int32), .int (m.1 58 9), .int (0 : Int32)] m (fun v1 m1 => ∃ u1, v1 = some (Value.int u1) ∧ yP (xg xs) (d + 1) 304 14 [(0, .ref 58), (1, .int u1), (2, .int (1 : Int32))] [] m1 Q))) : yP (xg xs) (d + 1) 304 0 [(0, .ref 58)] [] m Q := by
  refine y_st rfl rfl rfl rfl rfl (fun _ _ => rfl) ?_
  refine y_st rfl rfl rfl rfl rfl (fun _ _ => rfl) ?_
  refine y_st rfl rfl rfl rfl rfl (fun _ _ => rfl) ?_
  refine y_gf rfl rfl rfl rfl rfl ?_
  refine y_st rfl rfl rfl rfl rfl (fun _ _ => rfl) ?_
  show yP (xg xs) (d + 1) 304 8 [(0, .ref 58)] [.int (0 : Int32), .int (m.1 58 9), .int (11 : Int32), .ref 58] m Q
  refine y_call rfl rfl rfl rfl rfl (Nat.le_of_ble_eq_true rfl) (Nat.le_of_ble_eq_true rfl) rfl (by decide) H (fun v1 m1 H => ?_)
  obtain ⟨u1, rfl, H⟩ := H
  refine y_st rfl rfl rfl rfl rfl (fun _ _ => rfl) ?_
  refine y_st rfl rfl rfl rfl rfl (fun _ _ => rfl) ?_
  refine y_st rfl rfl rfl rfl rfl (fun _ _ => rfl) ?_
  show yP (xg xs) (d + 1) 304 14 [(2, .int (1 : Int32)), (1, .int u1), (0, .ref 58)] [] m1 Q
  refine y_headS (l2 := [(0, .ref 58), (1, .int u1), (2, .int (1 : Int32))]) [2, 1, 0] [0, 1, 2] [2, 1, 0] rfl rfl (by decide) rfl (by decide) ?_
  exact H
set_option maxRecDepth 20000 in
/-- CodeMakerModel.readStatements from 14 on -/
theorem w304_14 (xs : List Int32) (d : Nat) (l1 : Int32) (l2 : Int32) (m : yM) (Q : Option Value → yM → Prop) (H : ((l2 = 0 → Q (some (.int l1)) m) ∧ (¬ l2 = 0 → ((¬ (m.1 58 3) = 0 → yP (xg xs) (d + 1) 304 91 [(0, .ref 58), (1, .int l1)] [] m Q) ∧ ((m.1 58 3) = 0 → (((m.1 58 6) = (2 : Int32) → yP (xg xs) (d + 1) 304 87 [(0, .ref 58), (1, .int l1)] [] m Q) ∧ (¬ (m.1 58 6) = (2 : Int32) → (yC (xg xs) d 295 [.ref 58, .int (59 : Int32)] m (fun v1 m1 => ∃ u1, v1 = some (Value.int u1) ∧ ((¬ u1 = 0 → yP (xg xs) (d + 1) 304 87 [(0, .ref 58), (1, .int l1)] [] m1 Q) ∧ (u1 = 0 → (yC (xg xs) d 290 [.ref 58, .int (16 : Int32)] m1 (fun v2 m2 => ∃ u2, v2 = some (Value.int u2) ∧ ((¬ u2 = 0 → yP (xg xs) (d + 1) 304 87 [(0, .ref 58), (1, .int l1)] [] m2 Q) ∧ (u2 = 0 → (yC (xg xs) d 290 [.ref 58, .int (21 : Int32)] m2 (fun v3 m3 => ∃ u3, v3 = some (Value.int u3) ∧ ((¬ u3 = 0 → yP (xg xs) (d + 1) 304 87 [(0, .ref 58), (1, .int l1)] [] m3 Q) ∧ (u3 = 0 → (yC (xg xs) d 290 [.ref 58, .int (23 : Int32)] m3 (fun v4 m4 => ∃ u4, v4 = some (Value.int u4) ∧ ((¬ u4 = 0 → yP (xg xs) (d + 1) 304 87 [(0, .ref 58), (1, .int l1)] [] m4 Q) ∧ (u4 = 0 → (yC (xg xs) d 290 [.ref 58, .int (28 : Int32)] m4 (fun v5 m5 => ∃ u5, v5 = some (Value.int u5) ∧ ((¬ u5 = 0 → yP (xg xs) (d + 1) 304 87 [(0, .ref 58), (1, .int l1)] [] m5 Q) ∧ (u5 = 0 → (yC (xg xs) d 290 [.ref 58, .int (29 : Int32)] m5 (fun v6 m6 => ∃ u6, v6 = some (Value.int u6) ∧ ((u6 = 0 → yP (xg xs) (d + 1) 304 91 [(0, .ref 58), (1, .int l1)] [] m6 Q) ∧ (¬ u6 = 0 → yP (xg xs) (d + 1) 304 87 [(0, .ref 58), (1, .int l1)] [] m6 Q))))))))))))))))))))))))))))))) : yP (xg xs) (d + 1) 304 14 [(0, .ref 58), (1, .int l1), (2, .int l2)] [] m Q := by
  refine y_st rfl rfl rfl rfl rfl (fun _ _ => rfl) ?_
  show yP (xg xs) (d + 1) 304 15 [(0, .ref 58), (1, .int l1), (2, .int l2)] [.int l2] m Q
  refine y_zeq (t := 135) rfl rfl rfl (fun h => ?_) (fun h => ?_)
  · replace H := H.1 h; clear h
    refine y_st rfl rfl rfl rfl rfl (fun _ _ => rfl) ?_
    show yP (xg xs) (d + 1) 304 136 [(0, .ref 58), (1, .int l1), (2, .int l2)] [.int l1] m Q
    exact y_iret rfl rfl rfl H
  · replace H := H.2 h; clear h
    refine y_st rfl rfl rfl rfl rfl (fun _ _ => rfl) ?_
    refine y_gf rfl rfl rfl rfl rfl ?_
    show yP (xg xs) (d + 1) 304 22 [(0, .ref 58), (1, .int l1), (2, .int l2)] [.int (m.1 58 3)] m Q
    refine y_zne (t := 91) rfl rfl rfl (fun h => ?_) (fun h => ?_)
    · replace H := H.1 h; clear h
      show yP (xg xs) (d + 1) 304 91 [(0, .ref 58), (1, .int l1), (2, .int l2)] [] m Q
      refine y_headS (l2 := [(0, .ref 58), (1, .int l1)]) [0, 1] [0, 1] [0, 1, 2] rfl rfl (by decide) rfl (by decide) ?_
      exact H
    · replace H := H.2 h; clear h
      refine y_st rfl rfl rfl rfl rfl (fun _ _ => rfl) ?_
      refine y_gf rfl rfl rfl rfl rfl ?_
      refine y_st rfl rfl rfl rfl rfl (fun _ _ => rfl) ?_
      show yP (xg xs) (d + 1) 304 30 [(0, .ref 58), (1, .int l1), (2, .int l2)] [.int (2 : Int32), .int (m.1 58 6)] m Q
      refine y_ieq (t := 87) rfl rfl rfl (fun h => ?_) (fun h => ?_)
      · replace H := H.1 h; clear h
        show yP (xg xs) (d + 1) 304 87 [(0, .ref 58), (1, .int l1), (2, .int l2)] [] m Q
        refine y_headS (l2 := [(0, .ref 58), (1, .int l1)]) [0, 1] [0, 1] [0, 1, 2] rfl rfl (by decide) rfl (by decide) ?_
        exact H
      · replace H := H.2 h; clear h
        refine y_st rfl rfl rfl rfl rfl (fun _ _ => rfl) ?_
        refine y_st rfl rfl rfl rfl rfl (fun _ _ => rfl) ?_
        show yP (xg xs) (d + 1) 304 36 [(0, .ref 58), (1, .int l1), (2, .int l2)] [.int (59 : Int32), .ref 58] m Q
        refine y_call rfl rfl rfl rfl rfl (Nat.le_of_ble_eq_true rfl) (Nat.le_of_ble_eq_true rfl) rfl (by decide) H (fun v1 m1 H => ?_)
        obtain ⟨u1, rfl, H⟩ := H
        show yP (xg xs) (d + 1) 304 39 [(0, .ref 58), (1, .int l1), (2, .int l2)] [.int u1] m1 Q
        refine y_zne (t := 87) rfl rfl rfl (fun h => ?_) (fun h => ?_)
        · replace H := H.1 h; clear h
          show yP (xg xs) (d + 1) 304 87 [(0, .ref 58), (1, .int l1), (2, .int l2)] [] m1 Q
          refine y_headS (l2 := [(0, .ref 58), (1, .int l1)]) [0, 1] [0, 1] [0, 1, 2] rfl rfl (by decide) rfl (by decide) ?_
          exact H
        · replace H := H.2 h; clear h
          refine y_st rfl rfl rfl rfl rfl (fun _ _ => rfl) ?_
          refine y_st rfl rfl rfl rfl rfl (fun _ _ => rfl) ?_
          show yP (xg xs) (d + 1) 304 45 [(0, .ref 58), (1, .int l1), (2, .int l2)] [.int (16 : Int32), .ref 58] m1 Q
          refine y_call rfl rfl rfl rfl rfl (Nat.le_of_ble_eq_true rfl) (Nat.le_of_ble_eq_true rfl) rfl (by decide) H (fun v2 m2 H => ?_)
          obtain ⟨u2, rfl, H⟩ := H
          show yP (xg xs) (d + 1) 304 48 [(0, .ref 58), (1, .int l1), (2, .int l2)] [.int u2] m2 Q
          refine y_zne (t := 87) rfl rfl rfl (fun h => ?_) (fun h => ?_)
          · replace H := H.1 h; clear h
            show yP (xg xs) (d + 1) 304 87 [(0, .ref 58), (1, .int l1), (2, .int l2)] [] m2 Q
            refine y_headS (l2 := [(0, .ref 58), (1, .int l1)]) [0, 1] [0, 1] [0, 1, 2] rfl rfl (by decide) rfl (by decide) ?_
            exact H
          · replace H := H.2 h; clear h
            refine y_st rfl rfl rfl rfl rfl (fun _ _ => rfl) ?_
            refine y_st rfl rfl rfl rfl rfl (fun _ _ => rfl) ?_
            show yP (xg xs) (d + 1) 304 54 [(0, .ref 58), (1, .int l1), (2, .int l2)] [.int (21 : Int32), .ref 58] m2 Q
            refine y_call rfl rfl rfl rfl rfl (Nat.le_of_ble_eq_true rfl) (Nat.le_of_ble_eq_true rfl) rfl (by decide) H (fun v3 m3 H => ?_)
            obtain ⟨u3, rfl, H⟩ := H
            show yP (xg xs) (d + 1) 304 57 [(0, .ref 58), (1, .int l1), (2, .int l2)] [.int u3] m3 Q
            refine y_zne (t := 87) rfl rfl rfl (fun h => ?_) (fun h => ?_)
            · replace H := H.1 h; clear h
              show yP (xg xs) (d + 1) 304 87 [(0, .ref 58), (1, .int l1), (2, .int l2)] [] m3 Q
              refine y_headS (l2 := [(0, .ref 58), (1, .int l1)]) [0, 1] [0, 1] [0, 1, 2] rfl rfl (by decide) rfl (by decide) ?_
              exact H
            · replace H := H.2 h; clear h
              refine y_st rfl rfl rfl rfl rfl (fun _ _ => rfl) ?_
              refine y_st rfl rfl rfl rfl rfl (fun _ _ => rfl) ?_
              show yP (xg xs) (d + 1) 304 63 [(0, .ref 58), (1, .int l1), (2, .int l2)] [.int (23 : Int32), .ref 58] m3 Q
              refine y_call rfl rfl rfl rfl rfl (Nat.le_of_ble_eq_true rfl) (Nat.le_of_ble_eq_true rfl) rfl (by decide) H (fun v4 m4 H => ?_)
              obtain ⟨u4, rfl, H⟩ := H
              show yP (xg xs) (d + 1) 304 66 [(0, .ref 58), (1, .int l1), (2, .int l2)] [.int u4] m4 Q
              refine y_zne (t := 87) rfl rfl rfl (fun h => ?_) (fun h => ?_)
              · replace H := H.1 h; clear h
                show yP (xg xs) (d + 1) 304 87 [(0, .ref 58), (1, .int l1), (2, .int l2)] [] m4 Q
                refine y_headS (l2 := [(0, .ref 58), (1, .int l1)]) [0, 1] [0, 1] [0, 1, 2] rfl rfl (by decide) rfl (by decide) ?_
                exact H
              · replace H := H.2 h; clear h
                refine y_st rfl rfl rfl rfl rfl (fun _ _ => rfl) ?_
                refine y_st rfl rfl rfl rfl rfl (fun _ _ => rfl) ?_
                show yP (xg xs) (d + 1) 304 72 [(0, .ref 58), (1, .int l1), (2, .int l2)] [.int (28 : Int32), .ref 58] m4 Q
                refine y_call rfl rfl rfl rfl rfl (Nat.le_of_ble_eq_true rfl) (Nat.le_of_ble_eq_true rfl) rfl (by decide) H (fun v5 m5 H => ?_)
                obtain ⟨u5, rfl, H⟩ := H
                show yP (xg xs) (d + 1) 304 75 [(0, .ref 58), (1, .int l1), (2, .int l2)] [.int u5] m5 Q
                refine y_zne (t := 87) rfl rfl rfl (fun h => ?_) (fun h => ?_)
                · replace H := H.1 h; clear h
                  show yP (xg xs) (d + 1) 304 87 [(0, .ref 58), (1, .int l1), (2, .int l2)] [] m5 Q
                  refine y_headS (l2 := [(0, .ref 58), (1, .int l1)]) [0, 1] [0, 1] [0, 1, 2] rfl rfl (by decide) rfl (by decide) ?_
                  exact H
                · replace H := H.2 h; clear h
                  refine y_st rfl rfl rfl rfl rfl (fun _ _ => rfl) ?_
                  refine y_st rfl rfl rfl rfl rfl (fun _ _ => rfl) ?_
                  show yP (xg xs) (d + 1) 304 81 [(0, .ref 58), (1, .int l1), (2, .int l2)] [.int (29 : Int32), .ref 58] m5 Q
                  refine y_call rfl rfl rfl rfl rfl (Nat.le_of_ble_eq_true rfl) (Nat.le_of_ble_eq_true rfl) rfl (by decide) H (fun v6 m6 H => ?_)
                  obtain ⟨u6, rfl, H⟩ := H
                  show yP (xg xs) (d + 1) 304 84 [(0, .ref 58), (1, .int l1), (2, .int l2)] [.int u6] m6 Q
                  refine y_zeq (t := 91) rfl rfl rfl (fun h => ?_) (fun h => ?_)
                  · replace H := H.1 h; clear h
                    show yP (xg xs) (d + 1) 304 91 [(0, .ref 58), (1, .int l1), (2, .int l2)] [] m6 Q
                    refine y_headS (l2 := [(0, .ref 58), (1, .int l1)]) [0, 1] [0, 1] [0, 1, 2] rfl rfl (by decide) rfl (by decide) ?_
                    exact H
                  · replace H := H.2 h; clear h
                    show yP (xg xs) (d + 1) 304 87 [(0, .ref 58), (1, .int l1), (2, .int l2)] [] m6 Q
                    refine y_headS (l2 := [(0, .ref 58), (1, .int l1)]) [0, 1] [0, 1] [0, 1, 2] rfl rfl (by decide) rfl (by decide) ?_
                    exact H
set_option maxRecDepth 20000 in
/-- CodeMakerModel.readStatements from 87 on -/
theorem w304_87 (xs : List Int32) (d : Nat) (l1 : Int32) (m : yM) (Q : Option Value → yM → Prop) (H : yP (xg xs) (d + 1) 304 92 [(0, .ref 58), (1, .int l1)] [.int (1 : Int32)] m Q) : yP (xg xs) (d + 1) 304 87 [(0, .ref 58), (1, .int l1)] [] m Q := by
  refine y_st rfl rfl rfl rfl rfl (fun _ _ => rfl) ?_
  refine y_st rfl rfl rfl rfl rfl (fun _ _ => rfl) ?_
  show yP (xg xs) (d + 1) 304 92 [(0, .ref 58), (1, .int l1)] [.int (1 : Int32)] m Q
  exact H
set_option maxRecDepth 20000 in
/-- CodeMakerModel.readStatements from 91 on -/
theorem w304_91 (xs : List Int32) (d : Nat) (l1 : Int32) (m : yM) (Q : Option Value → yM → Prop) (H : yP (xg xs) (d + 1) 304 92 [(0, .ref 58), (1, .int l1)] [.int (0 : Int32)] m Q) : yP (xg xs) (d + 1) 304 91 [(0, .ref 58), (1, .int l1)] [] m Q := by
  refine y_st rfl rfl rfl rfl rfl (fun _ _ => rfl) ?_
  show yP (xg xs) (d + 1) 304 92 [(0, .ref 58), (1, .int l1)] [.int (0 : Int32)] m Q
  exact H
set_option maxRecDepth 20000 in
/-- CodeMakerModel.readStatements from 92 on -/
theorem w304_92 (xs : List Int32) (d : Nat) (l1 : Int32) (s0 : Int32) (m : yM) (Q : Option Value → yM → Prop) (H : ((s0 = 0 → yP (xg xs) (d + 1) 304 113 [(0, .ref 58), (1, .int l1), (2, .int s0)] [] m Q) ∧ (¬ s0 = 0 → (yC (xg xs) d 295 [.ref 58, .int (59 : Int32)] m (fun v1 m1 => ∃ u1, v1 = some (Value.int u1) ∧ ((u1 = 0 → yP (xg xs) (d + 1) 304 113 [(0, .ref 58), (1, .int l1), (2, .int s0)] [] m1 Q) ∧ (¬ u1 = 0 → (yC (xg xs) d 272 [.ref 58] m1 (fun v2 m2 => v2 = none ∧ yP (xg xs) (d + 1) 304 14 [(0, .ref 58), (1, .int l1), (2, .int s0)] [] m2 Q))))))))) : yP (xg xs) (d + 1) 304 92 [(0, .ref 58), (1, .int l1)] [.int s0] m Q := by
  refine y_st rfl rfl rfl rfl rfl (fun _ _ => rfl) ?_
  refine y_st rfl rfl rfl rfl rfl (fun _ _ => rfl) ?_
  show yP (xg xs) (d + 1) 304 94 [(2, .int s0), (0, .ref 58), (1, .int l1)] [.int s0] m Q
  refine y_zeq (t := 113) rfl rfl rfl (fun h => ?_) (fun h => ?_)
  · replace H := H.1 h; clear h
    show yP (xg xs) (d + 1) 304 113 [(2, .int s0), (0, .ref 58), (1, .int l1)] [] m Q
    refine y_headS (l2 := [(0, .ref 58), (1, .int l1), (2, .int s0)]) [1, 2, 0] [0, 1, 2] [2, 0, 1] rfl rfl (by decide) rfl (by decide) ?_
    exact H
  · replace H := H.2 h; clear h
    refine y_st rfl rfl rfl rfl rfl (fun _ _ => rfl) ?_
    refine y_st rfl rfl rfl rfl rfl (fun _ _ => rfl) ?_
    show yP (xg xs) (d + 1) 304 100 [(2, .int s0), (0, .ref 58), (1, .int l1)] [.int (59 : Int32), .ref 58] m Q
    refine y_call rfl rfl rfl rfl rfl (Nat.le_of_ble_eq_true rfl) (Nat.le_of_ble_eq_true rfl) rfl (by decide) H (fun v1 m1 H => ?_)
    obtain ⟨u1, rfl, H⟩ := H
    show yP (xg xs) (d + 1) 304 103 [(2, .int s0), (0, .ref 58), (1, .int l1)] [.int u1] m1 Q
    refine y_zeq (t := 113) rfl rfl rfl (fun h => ?_) (fun h => ?_)
    · replace H := H.1 h; clear h
      show yP (xg xs) (d + 1) 304 113 [(2, .int s0), (0, .ref 58), (1, .int l1)] [] m1 Q
      refine y_headS (l2 := [(0, .ref 58), (1, .int l1), (2, .int s0)]) [1, 2, 0] [0, 1, 2] [2, 0, 1] rfl rfl (by decide) rfl (by decide) ?_
      exact H
    · replace H := H.2 h; clear h
      refine y_st rfl rfl rfl rfl rfl (fun _ _ => rfl) ?_
      show yP (xg xs) (d + 1) 304 107 [(2, .int s0), (0, .ref 58), (1, .int l1)] [.ref 58] m1 Q
      refine y_call rfl rfl rfl rfl rfl (Nat.le_of_ble_eq_true rfl) (Nat.le_of_ble_eq_true rfl) rfl (by decide) H (fun v2 m2 H => ?_)
      obtain ⟨rfl, H⟩ := H
      refine y_st rfl rfl rfl rfl rfl (fun _ _ => rfl) ?_
      show yP (xg xs) (d + 1) 304 14 [(2, .int s0), (0, .ref 58), (1, .int l1)] [] m2 Q
      refine y_headS (l2 := [(0, .ref 58), (1, .int l1), (2, .int s0)]) [1, 2, 0] [0, 1, 2] [2, 0, 1] rfl rfl (by decide) rfl (by decide) ?_
      exact H
set_option maxRecDepth 20000 in
/-- CodeMakerModel.readStatements from 113 on -/
theorem w304_113 (xs : List Int32) (d : Nat) (l1 : Int32) (l2 : Int32) (m : yM) (Q : Option Value → yM → Prop) (H : ((l2 = 0 → yP (xg xs) (d + 1) 304 14 [(0, .ref 58), (1, .int l1), (2, .int l2)] [] m Q) ∧ (¬ l2 = 0 → (yC (xg xs) d 305 [.ref 58] m (fun v1 m1 => ∃ u1, v1 = some (Value.int u1) ∧ (yC (xg xs) d 297 [.ref 58, .int l1, .int u1] m1 (fun v2 m2 => v2 = none ∧ (yC (xg xs) d 294 [.ref 58, .int (59 : Int32)] m2 (fun v3 m3 => v3 = none ∧ yP (xg xs) (d + 1) 304 14 [(0, .ref 58), (1, .int l1), (2, .int l2)] [] m3 Q))))))))) : yP (xg xs) (d + 1) 304 113 [(0, .ref 58), (1, .int l1), (2, .int l2)] [] m Q := by
  refine y_st rfl rfl rfl rfl rfl (fun _ _ => rfl) ?_
  show yP (xg xs) (d + 1) 304 114 [(0, .ref 58), (1, .int l1), (2, .int l2)] [.int l2] m Q
  refine y_zeq (t := 14) rfl rfl rfl (fun h => ?_) (fun h => ?_)
  · replace H := H.1 h; clear h
    show yP (xg xs) (d + 1) 304 14 [(0, .ref 58), (1, .int l1), (2, .int l2)] [] m Q
    exact H
  · replace H := H.2 h; clear h
    refine y_st rfl rfl rfl rfl rfl (fun _ _ => rfl) ?_
    refine y_st rfl rfl rfl rfl rfl (fun _ _ => rfl) ?_
    refine y_st rfl rfl rfl rfl rfl (fun _ _ => rfl) ?_
    show yP (xg xs) (d + 1) 304 120 [(0, .ref 58), (1, .int l1), (2, .int l2)] [.ref 58, .int l1, .ref 58] m Q
    refine y_call rfl rfl rfl rfl rfl (Nat.le_of_ble_eq_true rfl) (Nat.le_of_ble_eq_true rfl) rfl (by decide) H (fun v1 m1 H => ?_)
    obtain ⟨u1, rfl, H⟩ := H
    show yP (xg xs) (d + 1) 304 123 [(0, .ref 58), (1, .int l1), (2, .int l2)] [.int u1, .int l1, .ref 58] m1 Q
    refine y_call rfl rfl rfl rfl rfl (Nat.le_of_ble_eq_true rfl) (Nat.le_of_ble_eq_true rfl) rfl (by decide) H (fun v2 m2 H => ?_)
    obtain ⟨rfl, H⟩ := H
    refine y_st rfl rfl rfl rfl rfl (fun _ _ => rfl) ?_
    refine y_st rfl rfl rfl rfl rfl (fun _ _ => rfl) ?_
    show yP (xg xs) (d + 1) 304 129 [(0, .ref 58), (1, .int l1), (2, .int l2)] [.int (59 : Int32), .ref 58] m2 Q
    refine y_call rfl rfl rfl rfl rfl (Nat.le_of_ble_eq_true rfl) (Nat.le_of_ble_eq_true rfl) rfl (by decide) H (fun v3 m3 H => ?_)
    obtain ⟨rfl, H⟩ := H
    refine y_st rfl rfl rfl rfl rfl (fun _ _ => rfl) ?_
    show yP (xg xs) (d + 1) 304 14 [(0, .ref 58), (1, .int l1), (2, .int l2)] [] m3 Q
    exact H
set_option maxRecDepth 20000 in
/-- CodeMakerModel.readStatement from 0 on -/
theorem w305_0 (xs : List Int32) (d : Nat) (m : yM) (Q : Option Value → yM → Prop) (H : (yC (xg xs) d 290 [.ref 58, .int (16 : Int32)] m (fun v1 m1 => ∃ u1, v1 = some (Value.int u1) ∧ ((u1 = 0 → (yC (xg xs) d 290 [.ref 58, .int (21 : Int32)] m1 (fun v2 m2 => ∃ u2, v2 = some (Value.int u2) ∧ ((u2 = 0 → (yC (xg xs) d 290 [.ref 58, .int (23 : Int32)] m2 (fun v3 m3 => ∃ u3, v3 = some (Value.int u3) ∧ ((u3 = 0 → ((¬ (m3.1 58 6) = (1 : Int32) → (yC (xg xs) d 272 [.ref 58] m3 (fun v4 m4 => v4 = none ∧ (yC (xg xs) d 295 [.ref 58, .int (40 : Int32)] m4 (fun v5 m5 => ∃ u5, v5 = some (Value.int u5) ∧ ((u5 = 0 → (yC (xg xs) d 295 [.ref 58, .int (91 : Int32)] m5 (fun v6 m6 => ∃ u6, v6 = some (Value.int u6) ∧ ((u6 = 0 → (yC (xg xs) d 271 [.ref 58, .int (6 : Int32), .int (m3.1 58 8), .int (m3.1 58 7)] m6 (fun v7 m7 => ∃ u7, v7 = some (Value.int u7) ∧ yP (xg xs) (d + 1) 305 139 [(0, .ref 58)] [.int u7] m7 Q))) ∧ (¬ u6 = 0 → (yC (xg xs) d 311 [.ref 58, .int (m3.1 58 8), .int (m3.1 58 7), .int (1 : Int32)] m6 (fun v8 m8 => ∃ u8, v8 = some (Value.int u8) ∧ yP (xg xs) (d + 1) 305 139 [(0, .ref 58)] [.int u8] m8 Q))))))) ∧ (¬ u5 = 0 → (yC (xg xs) d 317 [.ref 58, .int (m3.1 58 8), .int (m3.1 58 7)] m5 (fun v9 m9 => ∃ u9, v9 = some (Value.int u9) ∧ Q (some (.int u9)) m9))))))))) ∧ ((m3.1 58 6) = (1 : Int32) → (yC (xg xs) d 290 [.ref 58, .int (28 : Int32)] m3 (fun v10 m10 => ∃ u10, v10 = some (Value.int u10) ∧ ((u10 = 0 → yP (xg xs) (d + 1) 305 67 [(0, .ref 58)] [.int (21 : Int32), .ref 58] m10 Q) ∧ (¬ u10 = 0 → yP (xg xs) (d + 1) 305 67 [(0, .ref 58)] [.int (20 : Int32), .ref 58] m10 Q))))))) ∧ (¬ u3 = 0 → (yC (xg xs) d 316 [.ref 58] m3 (fun v11 m11 => ∃ u11, v11 = some (Value.int u11) ∧ Q (some (.int u11)) m11))))))) ∧ (¬ u2 = 0 → (yC (xg xs) d 314 [.ref 58] m2 (fun v12 m12 => ∃ u12, v12 = some (Value.int u12) ∧ Q (some (.int u12)) m12))))))) ∧ (¬ u1 = 0 → (yC (xg xs) d 306 [.ref 58] m1 (fun v13 m13 => ∃ u13, v13 = some (Value.int u13) ∧ Q (some (.int u13)) m13))))))) : yP (xg xs) (d + 1) 305 0 [(0, .ref 58)] [] m Q := by
  refine y_st rfl rfl rfl rfl rfl (fun _ _ => rfl) ?_
  refine y_st rfl rfl rfl rfl rfl (fun _ _ => rfl) ?_
  show yP (xg xs) (d + 1) 305 3 [(0, .ref 58)] [.int (16 : Int32), .ref 58] m Q
  refine y_call rfl rfl rfl rfl rfl (Nat.le_of_ble_eq_true rfl) (Nat.le_of_ble_eq_true rfl) rfl (by decide) H (fun v1 m1 H => ?_)
  obtain ⟨u1, rfl, H⟩ := H
  show yP (xg xs) (d + 1) 305 6 [(0, .ref 58)] [.int u1] m1 Q
  refine y_zeq (t := 14) rfl rfl rfl (fun h => ?_) (fun h => ?_)
  · replace H := H.1 h; clear h
    refine y_st rfl rfl rfl rfl rfl (fun _ _ => rfl) ?_
    refine y_st rfl rfl rfl rfl rfl (fun _ _ => rfl) ?_
    show yP (xg xs) (d + 1) 305 17 [(0, .ref 58)] [.int (21 : Int32), .ref 58] m1 Q
    refine y_call rfl rfl rfl rfl rfl (Nat.le_of_ble_eq_true rfl) (Nat.le_of_ble_eq_true rfl) rfl (by decide) H (fun v2 m2 H => ?_)
    obtain ⟨u2, rfl, H⟩ := H
    show yP (xg xs) (d + 1) 305 20 [(0, .ref 58)] [.int u2] m2 Q
    refine y_zeq (t := 28) rfl rfl rfl (fun h => ?_) (fun h => ?_)
    · replace H := H.1 h; clear h
      refine y_st rfl rfl rfl rfl rfl (fun _ _ => rfl) ?_
      refine y_st rfl rfl rfl rfl rfl (fun _ _ => rfl) ?_
      show yP (xg xs) (d + 1) 305 31 [(0, .ref 58)] [.int (23 : Int32), .ref 58] m2 Q
      refine y_call rfl rfl rfl rfl rfl (Nat.le_of_ble_eq_true rfl) (Nat.le_of_ble_eq_true rfl) rfl (by decide) H (fun v3 m3 H => ?_)
      obtain ⟨u3, rfl, H⟩ := H
      show yP (xg xs) (d + 1) 305 34 [(0, .ref 58)] [.int u3] m3 Q
      refine y_zeq (t := 42) rfl rfl rfl (fun h => ?_) (fun h => ?_)
      · replace H := H.1 h; clear h
        refine y_st rfl rfl rfl rfl rfl (fun _ _ => rfl) ?_
        refine y_gf rfl rfl rfl rfl rfl ?_
        refine y_st rfl rfl rfl rfl rfl (fun _ _ => rfl) ?_
        show yP (xg xs) (d + 1) 305 47 [(0, .ref 58)] [.int (1 : Int32), .int (m3.1 58 6)] m3 Q
        refine y_ine (t := 82) rfl rfl rfl (fun h => ?_) (fun h => ?_)
        · replace H := H.1 h; clear h
          refine y_st rfl rfl rfl rfl rfl (fun _ _ => rfl) ?_
          refine y_gf rfl rfl rfl rfl rfl ?_
          refine y_st rfl rfl rfl rfl rfl (fun _ _ => rfl) ?_
          refine y_st rfl rfl rfl rfl rfl (fun _ _ => rfl) ?_
          refine y_gf rfl rfl rfl rfl rfl ?_
          refine y_st rfl rfl rfl rfl rfl (fun _ _ => rfl) ?_
          refine y_st rfl rfl rfl rfl rfl (fun _ _ => rfl) ?_
          show yP (xg xs) (d + 1) 305 93 [(2, .int (m3.1 58 7)), (1, .int (m3.1 58 8)), (0, .ref 58)] [.ref 58] m3 Q
          refine y_call rfl rfl rfl rfl rfl (Nat.le_of_ble_eq_true rfl) (Nat.le_of_ble_eq_true rfl) rfl (by decide) H (fun v4 m4 H => ?_)
          obtain ⟨rfl, H⟩ := H
          refine y_st rfl rfl rfl rfl rfl (fun _ _ => rfl) ?_
          refine y_st rfl rfl rfl rfl rfl (fun _ _ => rfl) ?_
          show yP (xg xs) (d + 1) 305 99 [(2, .int (m3.1 58 7)), (1, .int (m3.1 58 8)), (0, .ref 58)] [.int (40 : Int32), .ref 58] m4 Q
          refine y_call rfl rfl rfl rfl rfl (Nat.le_of_ble_eq_true rfl) (Nat.le_of_ble_eq_true rfl) rfl (by decide) H (fun v5 m5 H => ?_)
          obtain ⟨u5, rfl, H⟩ := H
          show yP (xg xs) (d + 1) 305 102 [(2, .int (m3.1 58 7)), (1, .int (m3.1 58 8)), (0, .ref 58)] [.int u5] m5 Q
          refine y_zeq (t := 112) rfl rfl rfl (fun h => ?_) (fun h => ?_)
          · replace H := H.1 h; clear h
            refine y_st rfl rfl rfl rfl rfl (fun _ _ => rfl) ?_
            refine y_st rfl rfl rfl rfl rfl (fun _ _ => rfl) ?_
            show yP (xg xs) (d + 1) 305 115 [(2, .int (m3.1 58 7)), (1, .int (m3.1 58 8)), (0, .ref 58)] [.int (91 : Int32), .ref 58] m5 Q
            refine y_call rfl rfl rfl rfl rfl (Nat.le_of_ble_eq_true rfl) (Nat.le_of_ble_eq_true rfl) rfl (by decide) H (fun v6 m6 H => ?_)
            obtain ⟨u6, rfl, H⟩ := H
            show yP (xg xs) (d + 1) 305 118 [(2, .int (m3.1 58 7)), (1, .int (m3.1 58 8)), (0, .ref 58)] [.int u6] m6 Q
            refine y_zeq (t := 131) rfl rfl rfl (fun h => ?_) (fun h => ?_)
            · replace H := H.1 h; clear h
              refine y_st rfl rfl rfl rfl rfl (fun _ _ => rfl) ?_
              refine y_st rfl rfl rfl rfl rfl (fun _ _ => rfl) ?_
              refine y_st rfl rfl rfl rfl rfl (fun _ _ => rfl) ?_
              refine y_st rfl rfl rfl rfl rfl (fun _ _ => rfl) ?_
              show yP (xg xs) (d + 1) 305 136 [(2, .int (m3.1 58 7)), (1, .int (m3.1 58 8)), (0, .ref 58)] [.int (m3.1 58 7), .int (m3.1 58 8), .int (6 : Int32), .ref 58] m6 Q
              refine y_call rfl rfl rfl rfl rfl (Nat.le_of_ble_eq_true rfl) (Nat.le_of_ble_eq_true rfl) rfl (by decide) H (fun v7 m7 H => ?_)
              obtain ⟨u7, rfl, H⟩ := H
              show yP (xg xs) (d + 1) 305 139 [(2, .int (m3.1 58 7)), (1, .int (m3.1 58 8)), (0, .ref 58)] [.int u7] m7 Q
              refine y_headS (l2 := [(0, .ref 58)]) [2] [0] [2, 1, 0] rfl rfl (by decide) rfl (by decide) ?_
              exact H
            · replace H := H.2 h; clear h
              refine y_st rfl rfl rfl rfl rfl (fun _ _ => rfl) ?_
              refine y_st rfl rfl rfl rfl rfl (fun _ _ => rfl) ?_
              refine y_st rfl rfl rfl rfl rfl (fun _ _ => rfl) ?_
              refine y_st rfl rfl rfl rfl rfl (fun _ _ => rfl) ?_
              show yP (xg xs) (d + 1) 305 125 [(2, .int (m3.1 58 7)), (1, .int (m3.1 58 8)), (0, .ref 58)] [.int (1 : Int32), .int (m3.1 58 7), .int (m3.1 58 8), .ref 58] m6 Q
              refine y_call rfl rfl rfl rfl rfl (Nat.le_of_ble_eq_true rfl) (Nat.le_of_ble_eq_true rfl) rfl (by decide) H (fun v8 m8 H => ?_)
              obtain ⟨u8, rfl, H⟩ := H
              refine y_st rfl rfl rfl rfl rfl (fun _ _ => rfl) ?_
              show yP (xg xs) (d + 1) 305 139 [(2, .int (m3.1 58 7)), (1, .int (m3.1 58 8)), (0, .ref 58)] [.int u8] m8 Q
              refine y_headS (l2 := [(0, .ref 58)]) [2] [0] [2, 1, 0] rfl rfl (by decide) rfl (by decide) ?_
              exact H
          · replace H := H.2 h; clear h
            refine y_st rfl rfl rfl rfl rfl (fun _ _ => rfl) ?_
            refine y_st rfl rfl rfl rfl rfl (fun _ _ => rfl) ?_
            refine y_st rfl rfl rfl rfl rfl (fun _ _ => rfl) ?_
            show yP (xg xs) (d + 1) 305 108 [(2, .int (m3.1 58 7)), (1, .int (m3.1 58 8)), (0, .ref 58)] [.int (m3.1 58 7), .int (m3.1 58 8), .ref 58] m5 Q
            refine y_call rfl rfl rfl rfl rfl (Nat.le_of_ble_eq_true rfl) (Nat.le_of_ble_eq_true rfl) rfl (by decide) H (fun v9 m9 H => ?_)
            obtain ⟨u9, rfl, H⟩ := H
            show yP (xg xs) (d + 1) 305 111 [(2, .int (m3.1 58 7)), (1, .int (m3.1 58 8)), (0, .ref 58)] [.int u9] m9 Q
            exact y_iret rfl rfl rfl H
        · replace H := H.2 h; clear h
          refine y_st rfl rfl rfl rfl rfl (fun _ _ => rfl) ?_
          refine y_st rfl rfl rfl rfl rfl (fun _ _ => rfl) ?_
          refine y_st rfl rfl rfl rfl rfl (fun _ _ => rfl) ?_
          show yP (xg xs) (d + 1) 305 54 [(0, .ref 58)] [.int (28 : Int32), .ref 58, .ref 58] m3 Q
          refine y_call rfl rfl rfl rfl rfl (Nat.le_of_ble_eq_true rfl) (Nat.le_of_ble_eq_true rfl) rfl (by decide) H (fun v10 m10 H => ?_)
          obtain ⟨u10, rfl, H⟩ := H
          show yP (xg xs) (d + 1) 305 57 [(0, .ref 58)] [.int u10, .ref 58] m10 Q
          refine y_zeq (t := 65) rfl rfl rfl (fun h => ?_) (fun h => ?_)
          · replace H := H.1 h; clear h
            refine y_st rfl rfl rfl rfl rfl (fun _ _ => rfl) ?_
            show yP (xg xs) (d + 1) 305 67 [(0, .ref 58)] [.int (21 : Int32), .ref 58] m10 Q
            exact H
          · replace H := H.2 h; clear h
            refine y_st rfl rfl rfl rfl rfl (fun _ _ => rfl) ?_
            refine y_st rfl rfl rfl rfl rfl (fun _ _ => rfl) ?_
            show yP (xg xs) (d + 1) 305 67 [(0, .ref 58)] [.int (20 : Int32), .ref 58] m10 Q
            exact H
      · replace H := H.2 h; clear h
        refine y_st rfl rfl rfl rfl rfl (fun _ _ => rfl) ?_
        show yP (xg xs) (d + 1) 305 38 [(0, .ref 58)] [.ref 58] m3 Q
        refine y_call rfl rfl rfl rfl rfl (Nat.le_of_ble_eq_true rfl) (Nat.le_of_ble_eq_true rfl) rfl (by decide) H (fun v11 m11 H => ?_)
        obtain ⟨u11, rfl, H⟩ := H
        show yP (xg xs) (d + 1) 305 41 [(0, .ref 58)] [.int u11] m11 Q
        exact y_iret rfl rfl rfl H
    · replace H := H.2 h; clear h
      refine y_st rfl rfl rfl rfl rfl (fun _ _ => rfl) ?_
      show yP (xg xs) (d + 1) 305 24 [(0, .ref 58)] [.ref 58] m2 Q
      refine y_call rfl rfl rfl rfl rfl (Nat.le_of_ble_eq_true rfl) (Nat.le_of_ble_eq_true rfl) rfl (by decide) H (fun v12 m12 H => ?_)
      obtain ⟨u12, rfl, H⟩ := H
      show yP (xg xs) (d + 1) 305 27 [(0, .ref 58)] [.int u12] m12 Q
      exact y_iret rfl rfl rfl H
  · replace H := H.2 h; clear h
    refine y_st rfl rfl rfl rfl rfl (fun _ _ => rfl) ?_
    show yP (xg xs) (d + 1) 305 10 [(0, .ref 58)] [.ref 58] m1 Q
    refine y_call rfl rfl rfl rfl rfl (Nat.le_of_ble_eq_true rfl) (Nat.le_of_ble_eq_true rfl) rfl (by decide) H (fun v13 m13 H => ?_)
    obtain ⟨u13, rfl, H⟩ := H
    show yP (xg xs) (d + 1) 305 13 [(0, .ref 58)] [.int u13] m13 Q
    exact y_iret rfl rfl rfl H
set_option maxRecDepth 20000 in
/-- CodeMakerModel.readStatement from 67 on -/
theorem w305_67 (xs : List Int32) (d : Nat) (s1 : Int32) (m : yM) (Q : Option Value → yM → Prop) (H : (yC (xg xs) d 271 [.ref 58, .int s1, .int (m.1 58 8), .int (0 : Int32)] m (fun v1 m1 => ∃ u1, v1 = some (Value.int u1) ∧ (yC (xg xs) d 272 [.ref 58] m1 (fun v2 m2 => v2 = none ∧ Q (some (.int u1)) m2))))) : yP (xg xs) (d + 1) 305 67 [(0, .ref 58)] [.int s1, .ref 58] m Q := by
  refine y_st rfl rfl rfl rfl rfl (fun _ _ => rfl) ?_
  refine y_gf rfl rfl rfl rfl rfl ?_
  refine y_st rfl rfl rfl rfl rfl (fun _ _ => rfl) ?_
  show yP (xg xs) (d + 1) 305 72 [(0, .ref 58)] [.int (0 : Int32), .int (m.1 58 8), .int s1, .ref 58] m Q
  refine y_call rfl rfl rfl rfl rfl (Nat.le_of_ble_eq_true rfl) (Nat.le_of_ble_eq_true rfl) rfl (by decide) H (fun v1 m1 H => ?_)
  obtain ⟨u1, rfl, H⟩ := H
  refine y_st rfl rfl rfl rfl rfl (fun _ _ => rfl) ?_
  refine y_st rfl rfl rfl rfl rfl (fun _ _ => rfl) ?_
  show yP (xg xs) (d + 1) 305 77 [(1, .int u1), (0, .ref 58)] [.ref 58] m1 Q
  refine y_call rfl rfl rfl rfl rfl (Nat.le_of_ble_eq_true rfl) (Nat.le_of_ble_eq_true rfl) rfl (by decide) H (fun v2 m2 H => ?_)
  obtain ⟨rfl, H⟩ := H
  refine y_st rfl rfl rfl rfl rfl (fun _ _ => rfl) ?_
  show yP (xg xs) (d + 1) 305 81 [(1, .int u1), (0, .ref 58)] [.int u1] m2 Q
  exact y_iret rfl rfl rfl H
set_option maxRecDepth 20000 in
/-- CodeMakerModel.readStatement from 139 on -/
theorem w305_139 (xs : List Int32) (d : Nat) (s0 : Int32) (m : yM) (Q : Option Value → yM → Prop) (H : (yC (xg xs) d 295 [.ref 58, .int (1 : Int32)] m (fun v1 m1 => ∃ u1, v1 = some (Value.int u1) ∧ (yC (xg xs) d 291 [.ref 58, .int u1] m1 (fun v2 m2 => v2 = none ∧ (yC (xg xs) d 271 [.ref 58, .int (12 : Int32), .int (m2.1 58 8), .int (0 : Int32)] m2 (fun v3 m3 => ∃ u3, v3 = some (Value.int u3) ∧ (yC (xg xs) d 297 [.ref 58, .int u3, .int s0] m3 (fun v4 m4 => v4 = none ∧ (yC (xg xs) d 272 [.ref 58] m4 (fun v5 m5 => v5 = none ∧ (yC (xg xs) d 308 [.ref 58] m5 (fun v6 m6 => ∃ u6, v6 = some (Value.int u6) ∧ (yC (xg xs) d 297 [.ref 58, .int u3, .int u6] m6 (fun v7 m7 => v7 = none ∧ Q (some (.int u3)) m7))))))))))))))) : yP (xg xs) (d + 1) 305 139 [(0, .ref 58)] [.int s0] m Q := by
  refine y_st rfl rfl rfl rfl rfl (fun _ _ => rfl) ?_
  refine y_st rfl rfl rfl rfl rfl (fun _ _ => rfl) ?_
  refine y_st rfl rfl rfl rfl rfl (fun _ _ => rfl) ?_
  refine y_st rfl rfl rfl rfl rfl (fun _ _ => rfl) ?_
  show yP (xg xs) (d + 1) 305 143 [(3, .int s0), (0, .ref 58)] [.int (1 : Int32), .ref 58, .ref 58] m Q
  refine y_call rfl rfl rfl rfl rfl (Nat.le_of_ble_eq_true rfl) (Nat.le_of_ble_eq_true rfl) rfl (by decide) H (fun v1 m1 H => ?_)
  obtain ⟨u1, rfl, H⟩ := H
  show yP (xg xs) (d + 1) 305 146 [(3, .int s0), (0, .ref 58)] [.int u1, .ref 58] m1 Q
  refine y_call rfl rfl rfl rfl rfl (Nat.le_of_ble_eq_true rfl) (Nat.le_of_ble_eq_true rfl) rfl (by decide) H (fun v2 m2 H => ?_)
  obtain ⟨rfl, H⟩ := H
  refine y_st rfl rfl rfl rfl rfl (fun _ _ => rfl) ?_
  refine y_st rfl rfl rfl rfl rfl (fun _ _ => rfl) ?_
  refine y_st rfl rfl rfl rfl rfl (fun _ _ => rfl) ?_
  refine y_gf rfl rfl rfl rfl rfl ?_
  refine y_st rfl rfl rfl rfl rfl (fun _ _ => rfl) ?_
  show yP (xg xs) (d + 1) 305 157 [(3, .int s0), (0, .ref 58)] [.int (0 : Int32), .int (m2.1 58 8), .int (12 : Int32), .ref 58] m2 Q
  refine y_call rfl rfl rfl rfl rfl (Nat.le_of_ble_eq_true rfl) (Nat.le_of_ble_eq_true rfl) rfl (by decide) H (fun v3 m3 H => ?_)
  obtain ⟨u3, rfl, H⟩ := H
  refine y_st rfl rfl rfl rfl rfl (fun _ _ => rfl) ?_
  refine y_st rfl rfl rfl rfl rfl (fun _ _ => rfl) ?_
  refine y_st rfl rfl rfl rfl rfl (fun _ _ => rfl) ?_
  refine y_st rfl rfl rfl rfl rfl (fun _ _ => rfl) ?_
  show yP (xg xs) (d + 1) 305 166 [(4, .int u3), (3, .int s0), (0, .ref 58)] [.int s0, .int u3, .ref 58] m3 Q
  refine y_call rfl rfl rfl rfl rfl (Nat.le_of_ble_eq_true rfl) (Nat.le_of_ble_eq_true rfl) rfl (by decide) H (fun v4 m4 H => ?_)
  obtain ⟨rfl, H⟩ := H
  refine y_st rfl rfl rfl rfl rfl (fun _ _ => rfl) ?_
  show yP (xg xs) (d + 1) 305 170 [(4, .int u3), (3, .int s0), (0, .ref 58)] [.ref 58] m4 Q
  refine y_call rfl rfl rfl rfl rfl (Nat.le_of_ble_eq_true rfl) (Nat.le_of_ble_eq_true rfl) rfl (by decide) H (fun v5 m5 H => ?_)
  obtain ⟨rfl, H⟩ := H
  refine y_st rfl rfl rfl rfl rfl (fun _ _ => rfl) ?_
  refine y_st rfl rfl rfl rfl rfl (fun _ _ => rfl) ?_
  refine y_st rfl rfl rfl rfl rfl (fun _ _ => rfl) ?_
  show yP (xg xs) (d + 1) 305 177 [(4, .int u3), (3, .int s0), (0, .ref 58)] [.ref 58, .int u3, .ref 58] m5 Q
  refine y_call rfl rfl rfl rfl rfl (Nat.le_of_ble_eq_true rfl) (Nat.le_of_ble_eq_true rfl) rfl (by decide) H (fun v6 m6 H => ?_)
  obtain ⟨u6, rfl, H⟩ := H
  show yP (xg xs) (d + 1) 305 180 [(4, .int u3), (3, .int s0), (0, .ref 58)] [.int u6, .int u3, .ref 58] m6 Q
  refine y_call rfl rfl rfl rfl rfl (Nat.le_of_ble_eq_true rfl) (Nat.le_of_ble_eq_true rfl) rfl (by decide) H (fun v7 m7 H => ?_)
  obtain ⟨rfl, H⟩ := H
  refine y_st rfl rfl rfl rfl rfl (fun _ _ => rfl) ?_
  show yP (xg xs) (d + 1) 305 185 [(4, .int u3), (3, .int s0), (0, .ref 58)] [.int u3] m7 Q
  exact y_iret rfl rfl rfl H
set_option maxRecDepth 20000 in
/-- CodeMakerModel.readIf from 0 on -/
theorem w306_0 (xs : List Int32) (d : Nat) (m : yM) (Q : Option Value → yM → Prop) (H : (yC (xg xs) d 271 [.ref 58, .int (15 : Int32), .int (m.1 58 8), .int (0 : Int32)] m (fun v1 m1 => ∃ u1, v1 = some (Value.int u1) ∧ (yC (xg xs) d 307 [.ref 58] m1 (fun v2 m2 => v2 = none ∧ yP (xg xs) (d + 1) 306 18 [(0, .ref 58), (1, .int u1), (2, .int (1 : Int32))] [] m2 Q))))) : yP (xg xs) (d + 1) 306 0 [(0, .ref 58)] [] m Q := by
  refine y_st rfl rfl rfl rfl rfl (fun _ _ => rfl) ?_
  refine y_st rfl rfl rfl rfl rfl (fun _ _ => rfl) ?_
  refine y_st rfl rfl rfl rfl rfl (fun _ _ => rfl) ?_
  refine y_gf rfl rfl rfl rfl rfl ?_
  refine y_st rfl rfl rfl rfl rfl (fun _ _ => rfl) ?_
  show yP (xg xs) (d + 1) 306 8 [(0, .ref 58)] [.int (0 : Int32), .int (m.1 58 8), .int (15 : Int32), .ref 58] m Q
  refine y_call rfl rfl rfl rfl rfl (Nat.le_of_ble_eq_true rfl) (Nat.le_of_ble_eq_true rfl) rfl (by decide) H (fun v1 m1 H => ?_)
  obtain ⟨u1, rfl, H⟩ := H
  refine y_st rfl rfl rfl rfl rfl (fun _ _ => rfl) ?_
  refine y_st rfl rfl rfl rfl rfl (fun _ _ => rfl) ?_
  show yP (xg xs) (d + 1) 306 13 [(1, .int u1), (0, .ref 58)] [.ref 58] m1 Q
  refine y_call rfl rfl rfl rfl rfl (Nat.le_of_ble_eq_true rfl) (Nat.le_of_ble_eq_true rfl) rfl (by decide) H (fun v2 m2 H => ?_)
  obtain ⟨rfl, H⟩ := H
  refine y_st rfl rfl rfl rfl rfl (fun _ _ => rfl) ?_
  refine y_st rfl rfl rfl rfl rfl (fun _ _ => rfl) ?_
  show yP (xg xs) (d + 1) 306 18 [(2, .int (1 : Int32)), (1, .int u1), (0, .ref 58)] [] m2 Q
  refine y_headS (l2 := [(0, .ref 58), (1, .int u1), (2, .int (1 : Int32))]) [2, 1, 0] [0, 1, 2] [2, 1, 0] rfl rfl (by decide) rfl (by decide) ?_
  exact H
set_option maxRecDepth 20000 in
/-- CodeMakerModel.readIf from 18 on -/
theorem w306_18 (xs : List Int32) (d : Nat) (l1 : Int32) (l2 : Int32) (m : yM) (Q : Option Value → yM → Prop) (H : ((l2 = 0 → yP (xg xs) (d + 1) 306 67 [(0, .ref 58), (1, .int l1)] [] m Q) ∧ (¬ l2 = 0 → ((¬ (m.1 58 3) = 0 → yP (xg xs) (d + 1) 306 67 [(0, .ref 58), (1, .int l1)] [] m Q) ∧ ((m.1 58 3) = 0 → (yC (xg xs) d 272 [.ref 58] m (fun v1 m1 => v1 = none ∧ (yC (xg xs) d 308 [.ref 58] m1 (fun v2 m2 => ∃ u2, v2 = some (Value.int u2) ∧ (yC (xg xs) d 297 [.ref 58, .int l1, .int u2] m2 (fun v3 m3 => v3 = none ∧ (yC (xg xs) d 302 [.ref 58, .int (17 : Int32)] m3 (fun v4 m4 => v4 = none ∧ (yC (xg xs) d 304 [.ref 58] m4 (fun v5 m5 => ∃ u5, v5 = some (Value.int u5) ∧ (yC (xg xs) d 297 [.ref 58, .int l1, .int u5] m5 (fun v6 m6 => v6 = none ∧ (yC (xg xs) d 290 [.ref 58, .int (18 : Int32)] m6 (fun v7 m7 => ∃ u7, v7 = some (Value.int u7) ∧ yP (xg xs) (d + 1) 306 18 [(0, .ref 58), (1, .int l1), (2, .int u7)] [] m7 Q))))))))))))))))))) : yP (xg xs) (d + 1) 306 18 [(0, .ref 58), (1, .int l1), (2, .int l2)] [] m Q := by
  refine y_st rfl rfl rfl rfl rfl (fun _ _ => rfl) ?_
  show yP (xg xs) (d + 1) 306 19 [(0, .ref 58), (1, .int l1), (2, .int l2)] [.int l2] m Q
  refine y_zeq (t := 67) rfl rfl rfl (fun h => ?_) (fun h => ?_)
  · replace H := H.1 h; clear h
    show yP (xg xs) (d + 1) 306 67 [(0, .ref 58), (1, .int l1), (2, .int l2)] [] m Q
    refine y_headS (l2 := [(0, .ref 58), (1, .int l1)]) [0, 1] [0, 1] [0, 1, 2] rfl rfl (by decide) rfl (by decide) ?_
    exact H
  · replace H := H.2 h; clear h
    refine y_st rfl rfl rfl rfl rfl (fun _ _ => rfl) ?_
    refine y_gf rfl rfl rfl rfl rfl ?_
    show yP (xg xs) (d + 1) 306 26 [(0, .ref 58), (1, .int l1), (2, .int l2)] [.int (m.1 58 3)] m Q
    refine y_zne (t := 67) rfl rfl rfl (fun h => ?_) (fun h => ?_)
    · replace H := H.1 h; clear h
      show yP (xg xs) (d + 1) 306 67 [(0, .ref 58), (1, .int l1), (2, .int l2)] [] m Q
      refine y_headS (l2 := [(0, .ref 58), (1, .int l1)]) [0, 1] [0, 1] [0, 1, 2] rfl rfl (by decide) rfl (by decide) ?_
      exact H
    · replace H := H.2 h; clear h
      refine y_st rfl rfl rfl rfl rfl (fun _ _ => rfl) ?_
      show yP (xg xs) (d + 1) 306 30 [(0, .ref 58), (1, .int l1), (2, .int l2)] [.ref 58] m Q
      refine y_call rfl rfl rfl rfl rfl (Nat.le_of_ble_eq_true rfl) (Nat.le_of_ble_eq_true rfl) rfl (by decide) H (fun v1 m1 H => ?_)
      obtain ⟨rfl, H⟩ := H
      refine y_st rfl rfl rfl rfl rfl (fun _ _ => rfl) ?_
      refine y_st rfl rfl rfl rfl rfl (fun _ _ => rfl) ?_
      refine y_st rfl rfl rfl rfl rfl (fun _ _ => rfl) ?_
      show yP (xg xs) (d + 1) 306 36 [(0, .ref 58), (1, .int l1), (2, .int l2)] [.ref 58, .int l1, .ref 58] m1 Q
      refine y_call rfl rfl rfl rfl rfl (Nat.le_of_ble_eq_true rfl) (Nat.le_of_ble_eq_true rfl) rfl (by decide) H (fun v2 m2 H => ?_)
      obtain ⟨u2, rfl, H⟩ := H
      show yP (xg xs) (d + 1) 306 39 [(0, .ref 58), (1, .int l1), (2, .int l2)] [.int u2, .int l1, .ref 58] m2 Q
      refine y_call rfl rfl rfl rfl rfl (Nat.le_of_ble_eq_true rfl) (Nat.le_of_ble_eq_true rfl) rfl (by decide) H (fun v3 m3 H => ?_)
      obtain ⟨rfl, H⟩ := H
      refine y_st rfl rfl rfl rfl rfl (fun _ _ => rfl) ?_
      refine y_st rfl rfl rfl rfl rfl (fun _ _ => rfl) ?_
      show yP (xg xs) (d + 1) 306 45 [(0, .ref 58), (1, .int l1), (2, .int l2)] [.int (17 : Int32), .ref 58] m3 Q
      refine y_call rfl rfl rfl rfl rfl (Nat.le_of_ble_eq_true rfl) (Nat.le_of_ble_eq_true rfl) rfl (by decide) H (fun v4 m4 H => ?_)
      obtain ⟨rfl, H⟩ := H
      refine y_st rfl rfl rfl rfl rfl (fun _ _ => rfl) ?_
      refine y_st rfl rfl rfl rfl rfl (fun _ _ => rfl) ?_
      refine y_st rfl rfl rfl rfl rfl (fun _ _ => rfl) ?_
      show yP (xg xs) (d + 1) 306 51 [(0, .ref 58), (1, .int l1), (2, .int l2)] [.ref 58, .int l1, .ref 58] m4 Q
      refine y_call rfl rfl rfl rfl rfl (Nat.le_of_ble_eq_true rfl) (Nat.le_of_ble_eq_true rfl) rfl (by decide) H (fun v5 m5 H => ?_)
      obtain ⟨u5, rfl, H⟩ := H
      show yP (xg xs) (d + 1) 306 54 [(0, .ref 58), (1, .int l1), (2, .int l2)] [.int u5, .int l1, .ref 58] m5 Q
      refine y_call rfl rfl rfl rfl rfl (Nat.le_of_ble_eq_true rfl) (Nat.le_of_ble_eq_true rfl) rfl (by decide) H (fun v6 m6 H => ?_)
      obtain ⟨rfl, H⟩ := H
      refine y_st rfl rfl rfl rfl rfl (fun _ _ => rfl) ?_
      refine y_st rfl rfl rfl rfl rfl (fun _ _ => rfl) ?_
      show yP (xg xs) (d + 1) 306 60 [(0, .ref 58), (1, .int l1), (2, .int l2)] [.int (18 : Int32), .ref 58] m6 Q
      refine y_call rfl rfl rfl rfl rfl (Nat.le_of_ble_eq_true rfl) (Nat.le_of_ble_eq_true rfl) rfl (by decide) H (fun v7 m7 H => ?_)
      obtain ⟨u7, rfl, H⟩ := H
      refine y_st rfl rfl rfl rfl rfl (fun _ _ => rfl) ?_
      refine y_st rfl rfl rfl rfl rfl (fun _ _ => rfl) ?_
      show yP (xg xs) (d + 1) 306 18 [(2, .int u7), (0, .ref 58), (1, .int l1)] [] m7 Q
      refine y_headS (l2 := [(0, .ref 58), (1, .int l1), (2, .int u7)]) [1, 2, 0] [0, 1, 2] [2, 0, 1] rfl rfl (by decide) rfl (by decide) ?_
      exact H
set_option maxRecDepth 20000 in
/-- CodeMakerModel.readIf from 67 on -/
theorem w306_67 (xs : List Int32) (d : Nat) (l1 : Int32) (m : yM) (Q : Option Value → yM → Prop) (H : (yC (xg xs) d 290 [.ref 58, .int (19 : Int32)] m (fun v1 m1 => ∃ u1, v1 = some (Value.int u1) ∧ ((u1 = 0 → yP (xg xs) (d + 1) 306 89 [(0, .ref 58), (1, .int l1)] [] m1 Q) ∧ (¬ u1 = 0 → (yC (xg xs) d 272 [.ref 58] m1 (fun v2 m2 => v2 = none ∧ (yC (xg xs) d 304 [.ref 58] m2 (fun v3 m3 => ∃ u3, v3 = some (Value.int u3) ∧ (yC (xg xs) d 297 [.ref 58, .int l1, .int u3] m3 (fun v4 m4 => v4 = none ∧ yP (xg xs) (d + 1) 306 89 [(0, .ref 58), (1, .int l1)] [] m4 Q))))))))))) : yP (xg xs) (d + 1) 306 67 [(0, .ref 58), (1, .int l1)] [] m Q := by
  refine y_st rfl rfl rfl rfl rfl (fun _ _ => rfl) ?_
  refine y_st rfl rfl rfl rfl rfl (fun _ _ => rfl) ?_
  show yP (xg xs) (d + 1) 306 70 [(0, .ref 58), (1, .int l1)] [.int (19 : Int32), .ref 58] m Q
  refine y_call rfl rfl rfl rfl rfl (Nat.le_of_ble_eq_true rfl) (Nat.le_of_ble_eq_true rfl) rfl (by decide) H (fun v1 m1 H => ?_)
  obtain ⟨u1, rfl, H⟩ := H
  show yP (xg xs) (d + 1) 306 73 [(0, .ref 58), (1, .int l1)] [.int u1] m1 Q
  refine y_zeq (t := 89) rfl rfl rfl (fun h => ?_) (fun h => ?_)
  · replace H := H.1 h; clear h
    show yP (xg xs) (d + 1) 306 89 [(0, .ref 58), (1, .int l1)] [] m1 Q
    exact H
  · replace H := H.2 h; clear h
    refine y_st rfl rfl rfl rfl rfl (fun _ _ => rfl) ?_
    show yP (xg xs) (d + 1) 306 77 [(0, .ref 58), (1, .int l1)] [.ref 58] m1 Q
    refine y_call rfl rfl rfl rfl rfl (Nat.le_of_ble_eq_true rfl) (Nat.le_of_ble_eq_true rfl) rfl (by decide) H (fun v2 m2 H => ?_)
    obtain ⟨rfl, H⟩ := H
    refine y_st rfl rfl rfl rfl rfl (fun _ _ => rfl) ?_
    refine y_st rfl rfl rfl rfl rfl (fun _ _ => rfl) ?_
    refine y_st rfl rfl rfl rfl rfl (fun _ _ => rfl) ?_
    show yP (xg xs) (d + 1) 306 83 [(0, .ref 58), (1, .int l1)] [.ref 58, .int l1, .ref 58] m2 Q
    refine y_call rfl rfl rfl rfl rfl (Nat.le_of_ble_eq_true rfl) (Nat.le_of_ble_eq_true rfl) rfl (by decide) H (fun v3 m3 H => ?_)
    obtain ⟨u3, rfl, H⟩ := H
    show yP (xg xs) (d + 1) 306 86 [(0, .ref 58), (1, .int l1)] [.int u3, .int l1, .ref 58] m3 Q
    refine y_call rfl rfl rfl rfl rfl (Nat.le_of_ble_eq_true rfl) (Nat.le_of_ble_eq_true rfl) rfl (by decide) H (fun v4 m4 H => ?_)
    obtain ⟨rfl, H⟩ := H
    show yP (xg xs) (d + 1) 306 89 [(0, .ref 58), (1, .int l1)] [] m4 Q
    exact H
set_option maxRecDepth 20000 in
/-- CodeMakerModel.readIf from 89 on -/
theorem w306_89 (xs : List Int32) (d : Nat) (l1 : Int32) (m : yM) (Q : Option Value → yM → Prop) (H : (yC (xg xs) d 302 [.ref 58, .int (20 : Int32)] m (fun v1 m1 => v1 = none ∧ Q (some (.int l1)) (y_si m1 58 22 ((m1.1 58 22) - (1 : Int32)))))) : yP (xg xs) (d + 1) 306 89 [(0, .ref 58), (1, .int l1)] [] m Q := by
  refine y_st rfl rfl rfl rfl rfl (fun _ _ => rfl) ?_
  refine y_st rfl rfl rfl rfl rfl (fun _ _ => rfl) ?_
  show yP (xg xs) (d + 1) 306 92 [(0, .ref 58), (1, .int l1)] [.int (20 : Int32), .ref 58] m Q
  refine y_call rfl rfl rfl rfl rfl (Nat.le_of_ble_eq_true rfl) (Nat.le_of_ble_eq_true rfl) rfl (by decide) H (fun v1 m1 H => ?_)
  obtain ⟨rfl, H⟩ := H
  refine y_st rfl rfl rfl rfl rfl (fun _ _ => rfl) ?_
  refine y_st rfl rfl rfl rfl rfl (fun _ _ => rfl) ?_
  refine y_gf rfl rfl rfl rfl rfl ?_
  refine y_st rfl rfl rfl rfl rfl (fun _ _ => rfl) ?_
  refine y_st rfl rfl rfl rfl rfl (fun _ _ => rfl) ?_
  refine y_pfi rfl rfl rfl rfl rfl (x_fit_i _) ?_
  show yP (xg xs) (d + 1) 306 105 [(0, .ref 58), (1, .int l1)] [] (y_si m1 58 22 ((m1.1 58 22) - (1 : Int32))) Q
  refine y_st rfl rfl rfl rfl rfl (fun _ _ => rfl) ?_
  show yP (xg xs) (d + 1) 306 106 [(0, .ref 58), (1, .int l1)] [.int l1] (y_si m1 58 22 ((m1.1 58 22) - (1 : Int32))) Q
  exact y_iret rfl rfl rfl H
set_option maxRecDepth 20000 in
/-- CodeMakerModel.opens from 0 on -/
theorem w307_0 (xs : List Int32) (d : Nat) (m : yM) (Q : Option Value → yM → Prop) (H : ((¬ (m.1 58 22) = (60 : Int32) → yP (xg xs) (d + 1) 307 19 [(0, .ref 58)] [] m Q) ∧ ((m.1 58 22) = (60 : Int32) → (yC (xg xs) d 276 [.ref 58, .int (7 : Int32), .int (m.1 58 8)] m (fun v1 m1 => v1 = none ∧ yP (xg xs) (d + 1) 307 19 [(0, .ref 58)] [] m1 Q))))) : yP (xg xs) (d + 1) 307 0 [(0, .ref 58)] [] m Q := by
  refine y_st rfl rfl rfl rfl rfl (fun _ _ => rfl) ?_
  refine y_gf rfl rfl rfl rfl rfl ?_
  refine y_st rfl rfl rfl rfl rfl (fun _ _ => rfl) ?_
  show yP (xg xs) (d + 1) 307 6 [(0, .ref 58)] [.int (60 : Int32), .int (m.1 58 22)] m Q
  refine y_ine (t := 19) rfl rfl rfl (fun h => ?_) (fun h => ?_)
  · replace H := H.1 h; clear h
    show yP (xg xs) (d + 1) 307 19 [(0, .ref 58)] [] m Q
    exact H
  · replace H := H.2 h; clear h
    refine y_st rfl rfl rfl rfl rfl (fun _ _ => rfl) ?_
    refine y_st rfl rfl rfl rfl rfl (fun _ _ => rfl) ?_
    refine y_st rfl rfl rfl rfl rfl (fun _ _ => rfl) ?_
    refine y_gf rfl rfl rfl rfl rfl ?_
    show yP (xg xs) (d + 1) 307 16 [(0, .ref 58)] [.int (m.1 58 8), .int (7 : Int32), .ref 58] m Q
    refine y_call rfl rfl rfl rfl rfl (Nat.le_of_ble_eq_true rfl) (Nat.le_of_ble_eq_true rfl) rfl (by decide) H (fun v1 m1 H => ?_)
    obtain ⟨rfl, H⟩ := H
    show yP (xg xs) (d + 1) 307 19 [(0, .ref 58)] [] m1 Q
    exact H
set_option maxRecDepth 20000 in
/-- CodeMakerModel.opens from 19 on -/
theorem w307_19 (xs : List Int32) (d : Nat) (m : yM) (Q : Option Value → yM → Prop) (H : Q none (y_si m 58 22 ((m.1 58 22) + (1 : Int32)))) : yP (xg xs) (d + 1) 307 19 [(0, .ref 58)] [] m Q := by
  refine y_st rfl rfl rfl rfl rfl (fun _ _ => rfl) ?_
  refine y_st rfl rfl rfl rfl rfl (fun _ _ => rfl) ?_
  refine y_gf rfl rfl rfl rfl rfl ?_
  refine y_st rfl rfl rfl rfl rfl (fun _ _ => rfl) ?_
  refine y_st rfl rfl rfl rfl rfl (fun _ _ => rfl) ?_
  refine y_pfi rfl rfl rfl rfl rfl (x_fit_i _) ?_
  show yP (xg xs) (d + 1) 307 29 [(0, .ref 58)] [] (y_si m 58 22 ((m.1 58 22) + (1 : Int32))) Q
  show yP (xg xs) (d + 1) 307 29 [(0, .ref 58)] [] (y_si m 58 22 ((m.1 58 22) + (1 : Int32))) Q
  exact y_ret rfl rfl rfl rfl H
set_option maxRecDepth 20000 in
/-- CodeMakerModel.readWhole from 0 on -/
theorem w308_0 (xs : List Int32) (d : Nat) (m : yM) (Q : Option Value → yM → Prop) (H : (yC (xg xs) d 309 [.ref 58, .int (0 : Int32)] m (fun v1 m1 => ∃ u1, v1 = some (Value.int u1) ∧ Q (some (.int u1)) (y_si m1 58 22 (m.1 58 22))))) : yP (xg xs) (d + 1) 308 0 [(0, .ref 58)] [] m Q := by
  refine y_st rfl rfl rfl rfl rfl (fun _ _ => rfl) ?_
  refine y_gf rfl rfl rfl rfl rfl ?_
  refine y_st rfl rfl rfl rfl rfl (fun _ _ => rfl) ?_
  refine y_st rfl rfl rfl rfl rfl (fun _ _ => rfl) ?_
  refine y_st rfl rfl rfl rfl rfl (fun _ _ => rfl) ?_
  show yP (xg xs) (d + 1) 308 7 [(1, .int (m.1 58 22)), (0, .ref 58)] [.int (0 : Int32), .ref 58] m Q
  refine y_call rfl rfl rfl rfl rfl (Nat.le_of_ble_eq_true rfl) (Nat.le_of_ble_eq_true rfl) rfl (by decide) H (fun v1 m1 H => ?_)
  obtain ⟨u1, rfl, H⟩ := H
  refine y_st rfl rfl rfl rfl rfl (fun _ _ => rfl) ?_
  refine y_st rfl rfl rfl rfl rfl (fun _ _ => rfl) ?_
  refine y_st rfl rfl rfl rfl rfl (fun _ _ => rfl) ?_
  refine y_pfi rfl rfl rfl rfl rfl (x_fit_i _) ?_
  show yP (xg xs) (d + 1) 308 16 [(2, .int u1), (1, .int (m.1 58 22)), (0, .ref 58)] [] (y_si m1 58 22 (m.1 58 22)) Q
  refine y_st rfl rfl rfl rfl rfl (fun _ _ => rfl) ?_
  show yP (xg xs) (d + 1) 308 17 [(2, .int u1), (1, .int (m.1 58 22)), (0, .ref 58)] [.int u1] (y_si m1 58 22 (m.1 58 22)) Q
  exact y_iret rfl rfl rfl H
set_option maxRecDepth 20000 in
/-- CodeMakerModel.readLevel from 0 on -/
theorem w309_0 (xs : List Int32) (d : Nat) (l1 : Int32) (m : yM) (Q : Option Value → yM → Prop) (H : ((¬ l1 = (7 : Int32) → (yC (xg xs) d 309 [.ref 58, .int (l1 + (1 : Int32))] m (fun v1 m1 => ∃ u1, v1 = some (Value.int u1) ∧ (yC (xg xs) d 313 [.ref 58, .int l1] m1 (fun v2 m2 => ∃ u2, v2 = some (Value.int u2) ∧ yP (xg xs) (d + 1) 309 25 [(0, .ref 58), (1, .int l1), (2, .int u1), (3, .int u2)] [] m2 Q))))) ∧ (l1 = (7 : Int32) → (yC (xg xs) d 310 [.ref 58] m (fun v3 m3 => ∃ u3, v3 = some (Value.int u3) ∧ Q (some (.int u3)) m3))))) : yP (xg xs) (d + 1) 309 0 [(0, .ref 58), (1, .int l1)] [] m Q := by
  refine y_st rfl rfl rfl rfl rfl (fun _ _ => rfl) ?_
  refine y_st rfl rfl rfl rfl rfl (fun _ _ => rfl) ?_
  show yP (xg xs) (d + 1) 309 3 [(0, .ref 58), (1, .int l1)] [.int (7 : Int32), .int l1] m Q
  refine y_ine (t := 11) rfl rfl rfl (fun h => ?_) (fun h => ?_)
  · replace H := H.1 h; clear h
    refine y_st rfl rfl rfl rfl rfl (fun _ _ => rfl) ?_
    refine y_st rfl rfl rfl rfl rfl (fun _ _ => rfl) ?_
    refine y_st rfl rfl rfl rfl rfl (fun _ _ => rfl) ?_
    refine y_st rfl rfl rfl rfl rfl (fun _ _ => rfl) ?_
    show yP (xg xs) (d + 1) 309 15 [(0, .ref 58), (1, .int l1)] [.int (l1 + (1 : Int32)), .ref 58] m Q
    refine y_call rfl rfl rfl rfl rfl (Nat.le_of_ble_eq_true rfl) (Nat.le_of_ble_eq_true rfl) rfl (by decide) H (fun v1 m1 H => ?_)
    obtain ⟨u1, rfl, H⟩ := H
    refine y_st rfl rfl rfl rfl rfl (fun _ _ => rfl) ?_
    refine y_st rfl rfl rfl rfl rfl (fun _ _ => rfl) ?_
    refine y_st rfl rfl rfl rfl rfl (fun _ _ => rfl) ?_
    show yP (xg xs) (d + 1) 309 21 [(2, .int u1), (0, .ref 58), (1, .int l1)] [.int l1, .ref 58] m1 Q
    refine y_call rfl rfl rfl rfl rfl (Nat.le_of_ble_eq_true rfl) (Nat.le_of_ble_eq_true rfl) rfl (by decide) H (fun v2 m2 H => ?_)
    obtain ⟨u2, rfl, H⟩ := H
    refine y_st rfl rfl rfl rfl rfl (fun _ _ => rfl) ?_
    show yP (xg xs) (d + 1) 309 25 [(3, .int u2), (2, .int u1), (0, .ref 58), (1, .int l1)] [] m2 Q
    refine y_headS (l2 := [(0, .ref 58), (1, .int l1), (2, .int u1), (3, .int u2)]) [2, 3, 1, 0] [0, 1, 2, 3] [3, 2, 0, 1] rfl rfl (by decide) rfl (by decide) ?_
    exact H
  · replace H := H.2 h; clear h
    refine y_st rfl rfl rfl rfl rfl (fun _ _ => rfl) ?_
    show yP (xg xs) (d + 1) 309 7 [(0, .ref 58), (1, .int l1)] [.ref 58] m Q
    refine y_call rfl rfl rfl rfl rfl (Nat.le_of_ble_eq_true rfl) (Nat.le_of_ble_eq_true rfl) rfl (by decide) H (fun v3 m3 H => ?_)
    obtain ⟨u3, rfl, H⟩ := H
    show yP (xg xs) (d + 1) 309 10 [(0, .ref 58), (1, .int l1)] [.int u3] m3 Q
    exact y_iret rfl rfl rfl H
set_option maxRecDepth 20000 in
/-- CodeMakerModel.readLevel from 25 on -/
theorem w309_25 (xs : List Int32) (d : Nat) (l1 : Int32) (l2 : Int32) (l3 : Int32) (m : yM) (Q : Option Value → yM → Prop) (H : ((l3 = ((-1) : Int32) → Q (some (.int l2)) m) ∧ (¬ l3 = ((-1) : Int32) → (yC (xg xs) d 307 [.ref 58] m (fun v1 m1 => v1 = none ∧ (yC (xg xs) d 271 [.ref 58, .int (35 : Int32), .int (m1.1 58 8), .int l3] m1 (fun v2 m2 => ∃ u2, v2 = some (Value.int u2) ∧ (yC (xg xs) d 272 [.ref 58] m2 (fun v3 m3 => v3 = none ∧ (yC (xg xs) d 297 [.ref 58, .int u2, .int l2] m3 (fun v4 m4 => v4 = none ∧ (yC (xg xs) d 309 [.ref 58, .int (l1 + (1 : Int32))] m4 (fun v5 m5 => ∃ u5, v5 = some (Value.int u5) ∧ (yC (xg xs) d 297 [.ref 58, .int u2, .int u5] m5 (fun v6 m6 => v6 = none ∧ (yC (xg xs) d 313 [.ref 58, .int l1] m6 (fun v7 m7 => ∃ u7, v7 = some (Value.int u7) ∧ yP (xg xs) (d + 1) 309 25 [(0, .ref 58), (1, .int l1), (2, .int u2), (3, .int u7)] [] m7 Q))))))))))))))))) : yP (xg xs) (d + 1) 309 25 [(0, .ref 58), (1, .int l1), (2, .int l2), (3, .int l3)] [] m Q := by
  refine y_st rfl rfl rfl rfl rfl (fun _ _ => rfl) ?_
  refine y_st rfl rfl rfl rfl rfl (fun _ _ => rfl) ?_
  show yP (xg xs) (d + 1) 309 27 [(0, .ref 58), (1, .int l1), (2, .int l2), (3, .int l3)] [.int ((-1) : Int32), .int l3] m Q
  refine y_ieq (t := 83) rfl rfl rfl (fun h => ?_) (fun h => ?_)
  · replace H := H.1 h; clear h
    refine y_st rfl rfl rfl rfl rfl (fun _ _ => rfl) ?_
    show yP (xg xs) (d + 1) 309 84 [(0, .ref 58), (1, .int l1), (2, .int l2), (3, .int l3)] [.int l2] m Q
    exact y_iret rfl rfl rfl H
  · replace H := H.2 h; clear h
    refine y_st rfl rfl rfl rfl rfl (fun _ _ => rfl) ?_
    show yP (xg xs) (d + 1) 309 31 [(0, .ref 58), (1, .int l1), (2, .int l2), (3, .int l3)] [.ref 58] m Q
    refine y_call rfl rfl rfl rfl rfl (Nat.le_of_ble_eq_true rfl) (Nat.le_of_ble_eq_true rfl) rfl (by decide) H (fun v1 m1 H => ?_)
    obtain ⟨rfl, H⟩ := H
    refine y_st rfl rfl rfl rfl rfl (fun _ _ => rfl) ?_
    refine y_st rfl rfl rfl rfl rfl (fun _ _ => rfl) ?_
    refine y_st rfl rfl rfl rfl rfl (fun _ _ => rfl) ?_
    refine y_gf rfl rfl rfl rfl rfl ?_
    refine y_st rfl rfl rfl rfl rfl (fun _ _ => rfl) ?_
    show yP (xg xs) (d + 1) 309 42 [(0, .ref 58), (1, .int l1), (2, .int l2), (3, .int l3)] [.int l3, .int (m1.1 58 8), .int (35 : Int32), .ref 58] m1 Q
    refine y_call rfl rfl rfl rfl rfl (Nat.le_of_ble_eq_true rfl) (Nat.le_of_ble_eq_true rfl) rfl (by decide) H (fun v2 m2 H => ?_)
    obtain ⟨u2, rfl, H⟩ := H
    refine y_st rfl rfl rfl rfl rfl (fun _ _ => rfl) ?_
    refine y_st rfl rfl rfl rfl rfl (fun _ _ => rfl) ?_
    show yP (xg xs) (d + 1) 309 48 [(4, .int u2), (0, .ref 58), (1, .int l1), (2, .int l2), (3, .int l3)] [.ref 58] m2 Q
    refine y_call rfl rfl rfl rfl rfl (Nat.le_of_ble_eq_true rfl) (Nat.le_of_ble_eq_true rfl) rfl (by decide) H (fun v3 m3 H => ?_)
    obtain ⟨rfl, H⟩ := H
    refine y_st rfl rfl rfl rfl rfl (fun _ _ => rfl) ?_
    refine y_st rfl rfl rfl rfl rfl (fun _ _ => rfl) ?_
    refine y_st rfl rfl rfl rfl rfl (fun _ _ => rfl) ?_
    show yP (xg xs) (d + 1) 309 55 [(4, .int u2), (0, .ref 58), (1, .int l1), (2, .int l2), (3, .int l3)] [.int l2, .int u2, .ref 58] m3 Q
    refine y_call rfl rfl rfl rfl rfl (Nat.le_of_ble_eq_true rfl) (Nat.le_of_ble_eq_true rfl) rfl (by decide) H (fun v4 m4 H => ?_)
    obtain ⟨rfl, H⟩ := H
    refine y_st rfl rfl rfl rfl rfl (fun _ _ => rfl) ?_
    refine y_st rfl rfl rfl rfl rfl (fun _ _ => rfl) ?_
    refine y_st rfl rfl rfl rfl rfl (fun _ _ => rfl) ?_
    refine y_st rfl rfl rfl rfl rfl (fun _ _ => rfl) ?_
    refine y_st rfl rfl rfl rfl rfl (fun _ _ => rfl) ?_
    refine y_st rfl rfl rfl rfl rfl (fun _ _ => rfl) ?_
    show yP (xg xs) (d + 1) 309 65 [(4, .int u2), (0, .ref 58), (1, .int l1), (2, .int l2), (3, .int l3)] [.int (l1 + (1 : Int32)), .ref 58, .int u2, .ref 58] m4 Q
    refine y_call rfl rfl rfl rfl rfl (Nat.le_of_ble_eq_true rfl) (Nat.le_of_ble_eq_true rfl) rfl (by decide) H (fun v5 m5 H => ?_)
    obtain ⟨u5, rfl, H⟩ := H
    show yP (xg xs) (d + 1) 309 68 [(4, .int u2), (0, .ref 58), (1, .int l1), (2, .int l2), (3, .int l3)] [.int u5, .int u2, .ref 58] m5 Q
    refine y_call rfl rfl rfl rfl rfl (Nat.le_of_ble_eq_true rfl) (Nat.le_of_ble_eq_true rfl) rfl (by decide) H (fun v6 m6 H => ?_)
    obtain ⟨rfl, H⟩ := H
    refine y_st rfl rfl rfl rfl rfl (fun _ _ => rfl) ?_
    refine y_st rfl rfl rfl rfl rfl (fun _ _ => rfl) ?_
    refine y_st rfl rfl rfl rfl rfl (fun _ _ => rfl) ?_
    refine y_st rfl rfl rfl rfl rfl (fun _ _ => rfl) ?_
    show yP (xg xs) (d + 1) 309 76 [(2, .int u2), (4, .int u2), (0, .ref 58), (1, .int l1), (3, .int l3)] [.int l1, .ref 58] m6 Q
    refine y_call rfl rfl rfl rfl rfl (Nat.le_of_ble_eq_true rfl) (Nat.le_of_ble_eq_true rfl) rfl (by decide) H (fun v7 m7 H => ?_)
    obtain ⟨u7, rfl, H⟩ := H
    refine y_st rfl rfl rfl rfl rfl (fun _ _ => rfl) ?_
    refine y_st rfl rfl rfl rfl rfl (fun _ _ => rfl) ?_
    show yP (xg xs) (d + 1) 309 25 [(3, .int u7), (2, .int u2), (4, .int u2), (0, .ref 58), (1, .int l1)] [] m7 Q
    refine y_headS (l2 := [(0, .ref 58), (1, .int l1), (2, .int u2), (3, .int u7)]) [3, 4, 1, 0] [0, 1, 2, 3] [3, 2, 4, 0, 1] rfl rfl (by decide) rfl (by decide) ?_
    exact H
set_option maxRecDepth 20000 in
/-- CodeMakerModel.readOperand from 0 on -/
theorem w310_0 (xs : List Int32) (d : Nat) (m : yM) (Q : Option Value → yM → Prop) (H : (yC (xg xs) d 295 [.ref 58, .int (45 : Int32)] m (fun v1 m1 => ∃ u1, v1 = some (Value.int u1) ∧ ((¬ u1 = 0 → yP (xg xs) (d + 1) 310 23 [(0, .ref 58), (1, .int (m.1 58 8))] [] m1 Q) ∧ (u1 = 0 → (yC (xg xs) d 290 [.ref 58, .int (34 : Int32)] m1 (fun v2 m2 => ∃ u2, v2 = some (Value.int u2) ∧ ((u2 = 0 → (yC (xg xs) d 295 [.ref 58, .int (40 : Int32)] m2 (fun v3 m3 => ∃ u3, v3 = some (Value.int u3) ∧ ((u3 = 0 → (yC (xg xs) d 293 [.ref 58, .int (3 : Int32)] m3 (fun v4 m4 => ∃ u4, v4 = some (Value.int u4) ∧ ((¬ u4 = 0 → yP (xg xs) (d + 1) 310 141 [(0, .ref 58)] [] m4 Q) ∧ (u4 = 0 → (yC (xg xs) d 290 [.ref 58, .int (35 : Int32)] m4 (fun v5 m5 => ∃ u5, v5 = some (Value.int u5) ∧ ((¬ u5 = 0 → yP (xg xs) (d + 1) 310 141 [(0, .ref 58)] [] m5 Q) ∧ (u5 = 0 → (yC (xg xs) d 290 [.ref 58, .int (36 : Int32)] m5 (fun v6 m6 => ∃ u6, v6 = some (Value.int u6) ∧ ((u6 = 0 → (yC (xg xs) d 293 [.ref 58, .int (2 : Int32)] m6 (fun v7 m7 => ∃ u7, v7 = some (Value.int u7) ∧ (yC (xg xs) d 291 [.ref 58, .int u7] m7 (fun v8 m8 => v8 = none ∧ (yC (xg xs) d 272 [.ref 58] m8 (fun v9 m9 => v9 = none ∧ (yC (xg xs) d 295 [.ref 58, .int (91 : Int32)] m9 (fun v10 m10 => ∃ u10, v10 = some (Value.int u10) ∧ ((u10 = 0 → (yC (xg xs) d 295 [.ref 58, .int (46 : Int32)] m10 (fun v11 m11 => ∃ u11, v11 = some (Value.int u11) ∧ ((u11 = 0 → (yC (xg xs) d 295 [.ref 58, .int (40 : Int32)] m11 (fun v12 m12 => ∃ u12, v12 = some (Value.int u12) ∧ ((u12 = 0 → (yC (xg xs) d 271 [.ref 58, .int (6 : Int32), .int (m.1 58 8), .int (m8.1 58 7)] m12 (fun v13 m13 => ∃ u13, v13 = some (Value.int u13) ∧ Q (some (.int u13)) m13))) ∧ (¬ u12 = 0 → (yC (xg xs) d 312 [.ref 58, .int (m.1 58 8), .int (m8.1 58 7)] m12 (fun v14 m14 => ∃ u14, v14 = some (Value.int u14) ∧ Q (some (.int u14)) m14))))))) ∧ (¬ u11 = 0 → (yC (xg xs) d 271 [.ref 58, .int (33 : Int32), .int (m.1 58 8), .int (m8.1 58 7)] m11 (fun v15 m15 => ∃ u15, v15 = some (Value.int u15) ∧ (yC (xg xs) d 272 [.ref 58] m15 (fun v16 m16 => v16 = none ∧ (yC (xg xs) d 293 [.ref 58, .int (2 : Int32)] m16 (fun v17 m17 => ∃ u17, v17 = some (Value.int u17) ∧ (yC (xg xs) d 291 [.ref 58, .int u17] m17 (fun v18 m18 => v18 = none ∧ (yC (xg xs) d 271 [.ref 58, .int (6 : Int32), .int (m18.1 58 8), .int (m18.1 58 7)] m18 (fun v19 m19 => ∃ u19, v19 = some (Value.int u19) ∧ (yC (xg xs) d 297 [.ref 58, .int u15, .int u19] m19 (fun v20 m20 => v20 = none ∧ (yC (xg xs) d 272 [.ref 58] m20 (fun v21 m21 => v21 = none ∧ Q (some (.int u15)) m21))))))))))))))))))) ∧ (¬ u10 = 0 → (yC (xg xs) d 311 [.ref 58, .int (m.1 58 8), .int (m8.1 58 7), .int (0 : Int32)] m10 (fun v22 m22 => ∃ u22, v22 = some (Value.int u22) ∧ Q (some (.int u22)) m22))))))))))))) ∧ (¬ u6 = 0 → yP (xg xs) (d + 1) 310 141 [(0, .ref 58)] [] m6 Q))))))))))))) ∧ (¬ u3 = 0 → (yC (xg xs) d 307 [.ref 58] m3 (fun v23 m23 => v23 = none ∧ (yC (xg xs) d 272 [.ref 58] m23 (fun v24 m24 => v24 = none ∧ (yC (xg xs) d 309 [.ref 58, .int (0 : Int32)] m24 (fun v25 m25 => ∃ u25, v25 = some (Value.int u25) ∧ (yC (xg xs) d 294 [.ref 58, .int (41 : Int32)] m25 (fun v26 m26 => v26 = none ∧ Q (some (.int u25)) (y_si m26 58 22 ((m26.1 58 22) - (1 : Int32)))))))))))))))) ∧ (¬ u2 = 0 → yP (xg xs) (d + 1) 310 23 [(0, .ref 58), (1, .int (m.1 58 8))] [] m2 Q))))))))) : yP (xg xs) (d + 1) 310 0 [(0, .ref 58)] [] m Q := by
  refine y_st rfl rfl rfl rfl rfl (fun _ _ => rfl) ?_
  refine y_gf rfl rfl rfl rfl rfl ?_
  refine y_st rfl rfl rfl rfl rfl (fun _ _ => rfl) ?_
  refine y_st rfl rfl rfl rfl rfl (fun _ _ => rfl) ?_
  refine y_st rfl rfl rfl rfl rfl (fun _ _ => rfl) ?_
  show yP (xg xs) (d + 1) 310 8 [(1, .int (m.1 58 8)), (0, .ref 58)] [.int (45 : Int32), .ref 58] m Q
  refine y_call rfl rfl rfl rfl rfl (Nat.le_of_ble_eq_true rfl) (Nat.le_of_ble_eq_true rfl) rfl (by decide) H (fun v1 m1 H => ?_)
  obtain ⟨u1, rfl, H⟩ := H
  show yP (xg xs) (d + 1) 310 11 [(1, .int (m.1 58 8)), (0, .ref 58)] [.int u1] m1 Q
  refine y_zne (t := 23) rfl rfl rfl (fun h => ?_) (fun h => ?_)
  · replace H := H.1 h; clear h
    show yP (xg xs) (d + 1) 310 23 [(1, .int (m.1 58 8)), (0, .ref 58)] [] m1 Q
    refine y_headS (l2 := [(0, .ref 58), (1, .int (m.1 58 8))]) [1, 0] [0, 1] [1, 0] rfl rfl (by decide) rfl (by decide) ?_
    exact H
  · replace H := H.2 h; clear h
    refine y_st rfl rfl rfl rfl rfl (fun _ _ => rfl) ?_
    refine y_st rfl rfl rfl rfl rfl (fun _ _ => rfl) ?_
    show yP (xg xs) (d + 1) 310 17 [(1, .int (m.1 58 8)), (0, .ref 58)] [.int (34 : Int32), .ref 58] m1 Q
    refine y_call rfl rfl rfl rfl rfl (Nat.le_of_ble_eq_true rfl) (Nat.le_of_ble_eq_true rfl) rfl (by decide) H (fun v2 m2 H => ?_)
    obtain ⟨u2, rfl, H⟩ := H
    show yP (xg xs) (d + 1) 310 20 [(1, .int (m.1 58 8)), (0, .ref 58)] [.int u2] m2 Q
    refine y_zeq (t := 74) rfl rfl rfl (fun h => ?_) (fun h => ?_)
    · replace H := H.1 h; clear h
      refine y_st rfl rfl rfl rfl rfl (fun _ _ => rfl) ?_
      refine y_st rfl rfl rfl rfl rfl (fun _ _ => rfl) ?_
      show yP (xg xs) (d + 1) 310 77 [(1, .int (m.1 58 8)), (0, .ref 58)] [.int (40 : Int32), .ref 58] m2 Q
      refine y_call rfl rfl rfl rfl rfl (Nat.le_of_ble_eq_true rfl) (Nat.le_of_ble_eq_true rfl) rfl (by decide) H (fun v3 m3 H => ?_)
      obtain ⟨u3, rfl, H⟩ := H
      show yP (xg xs) (d + 1) 310 80 [(1, .int (m.1 58 8)), (0, .ref 58)] [.int u3] m3 Q
      refine y_zeq (t := 115) rfl rfl rfl (fun h => ?_) (fun h => ?_)
      · replace H := H.1 h; clear h
        refine y_st rfl rfl rfl rfl rfl (fun _ _ => rfl) ?_
        refine y_st rfl rfl rfl rfl rfl (fun _ _ => rfl) ?_
        show yP (xg xs) (d + 1) 310 117 [(1, .int (m.1 58 8)), (0, .ref 58)] [.int (3 : Int32), .ref 58] m3 Q
        refine y_call rfl rfl rfl rfl rfl (Nat.le_of_ble_eq_true rfl) (Nat.le_of_ble_eq_true rfl) rfl (by decide) H (fun v4 m4 H => ?_)
        obtain ⟨u4, rfl, H⟩ := H
        show yP (xg xs) (d + 1) 310 120 [(1, .int (m.1 58 8)), (0, .ref 58)] [.int u4] m4 Q
        refine y_zne (t := 141) rfl rfl rfl (fun h => ?_) (fun h => ?_)
        · replace H := H.1 h; clear h
          show yP (xg xs) (d + 1) 310 141 [(1, .int (m.1 58 8)), (0, .ref 58)] [] m4 Q
          refine y_headS (l2 := [(0, .ref 58)]) [1] [0] [1, 0] rfl rfl (by decide) rfl (by decide) ?_
          exact H
        · replace H := H.2 h; clear h
          refine y_st rfl rfl rfl rfl rfl (fun _ _ => rfl) ?_
          refine y_st rfl rfl rfl rfl rfl (fun _ _ => rfl) ?_
          show yP (xg xs) (d + 1) 310 126 [(1, .int (m.1 58 8)), (0, .ref 58)] [.int (35 : Int32), .ref 58] m4 Q
          refine y_call rfl rfl rfl rfl rfl (Nat.le_of_ble_eq_true rfl) (Nat.le_of_ble_eq_true rfl) rfl (by decide) H (fun v5 m5 H => ?_)
          obtain ⟨u5, rfl, H⟩ := H
          show yP (xg xs) (d + 1) 310 129 [(1, .int (m.1 58 8)), (0, .ref 58)] [.int u5] m5 Q
          refine y_zne (t := 141) rfl rfl rfl (fun h => ?_) (fun h => ?_)
          · replace H := H.1 h; clear h
            show yP (xg xs) (d + 1) 310 141 [(1, .int (m.1 58 8)), (0, .ref 58)] [] m5 Q
            refine y_headS (l2 := [(0, .ref 58)]) [1] [0] [1, 0] rfl rfl (by decide) rfl (by decide) ?_
            exact H
          · replace H := H.2 h; clear h
            refine y_st rfl rfl rfl rfl rfl (fun _ _ => rfl) ?_
            refine y_st rfl rfl rfl rfl rfl (fun _ _ => rfl) ?_
            show yP (xg xs) (d + 1) 310 135 [(1, .int (m.1 58 8)), (0, .ref 58)] [.int (36 : Int32), .ref 58] m5 Q
            refine y_call rfl rfl rfl rfl rfl (Nat.le_of_ble_eq_true rfl) (Nat.le_of_ble_eq_true rfl) rfl (by decide) H (fun v6 m6 H => ?_)
            obtain ⟨u6, rfl, H⟩ := H
            show yP (xg xs) (d + 1) 310 138 [(1, .int (m.1 58 8)), (0, .ref 58)] [.int u6] m6 Q
            refine y_zeq (t := 146) rfl rfl rfl (fun h => ?_) (fun h => ?_)
            · replace H := H.1 h; clear h
              refine y_st rfl rfl rfl rfl rfl (fun _ _ => rfl) ?_
              refine y_st rfl rfl rfl rfl rfl (fun _ _ => rfl) ?_
              refine y_st rfl rfl rfl rfl rfl (fun _ _ => rfl) ?_
              show yP (xg xs) (d + 1) 310 149 [(1, .int (m.1 58 8)), (0, .ref 58)] [.int (2 : Int32), .ref 58, .ref 58] m6 Q
              refine y_call rfl rfl rfl rfl rfl (Nat.le_of_ble_eq_true rfl) (Nat.le_of_ble_eq_true rfl) rfl (by decide) H (fun v7 m7 H => ?_)
              obtain ⟨u7, rfl, H⟩ := H
              show yP (xg xs) (d + 1) 310 152 [(1, .int (m.1 58 8)), (0, .ref 58)] [.int u7, .ref 58] m7 Q
              refine y_call rfl rfl rfl rfl rfl (Nat.le_of_ble_eq_true rfl) (Nat.le_of_ble_eq_true rfl) rfl (by decide) H (fun v8 m8 H => ?_)
              obtain ⟨rfl, H⟩ := H
              refine y_st rfl rfl rfl rfl rfl (fun _ _ => rfl) ?_
              refine y_gf rfl rfl rfl rfl rfl ?_
              refine y_st rfl rfl rfl rfl rfl (fun _ _ => rfl) ?_
              refine y_st rfl rfl rfl rfl rfl (fun _ _ => rfl) ?_
              show yP (xg xs) (d + 1) 310 161 [(2, .int (m8.1 58 7)), (1, .int (m.1 58 8)), (0, .ref 58)] [.ref 58] m8 Q
              refine y_call rfl rfl rfl rfl rfl (Nat.le_of_ble_eq_true rfl) (Nat.le_of_ble_eq_true rfl) rfl (by decide) H (fun v9 m9 H => ?_)
              obtain ⟨rfl, H⟩ := H
              refine y_st rfl rfl rfl rfl rfl (fun _ _ => rfl) ?_
              refine y_st rfl rfl rfl rfl rfl (fun _ _ => rfl) ?_
              show yP (xg xs) (d + 1) 310 167 [(2, .int (m8.1 58 7)), (1, .int (m.1 58 8)), (0, .ref 58)] [.int (91 : Int32), .ref 58] m9 Q
              refine y_call rfl rfl rfl rfl rfl (Nat.le_of_ble_eq_true rfl) (Nat.le_of_ble_eq_true rfl) rfl (by decide) H (fun v10 m10 H => ?_)
              obtain ⟨u10, rfl, H⟩ := H
              show yP (xg xs) (d + 1) 310 170 [(2, .int (m8.1 58 7)), (1, .int (m.1 58 8)), (0, .ref 58)] [.int u10] m10 Q
              refine y_zeq (t := 181) rfl rfl rfl (fun h => ?_) (fun h => ?_)
              · replace H := H.1 h; clear h
                refine y_st rfl rfl rfl rfl rfl (fun _ _ => rfl) ?_
                refine y_st rfl rfl rfl rfl rfl (fun _ _ => rfl) ?_
                show yP (xg xs) (d + 1) 310 184 [(2, .int (m8.1 58 7)), (1, .int (m.1 58 8)), (0, .ref 58)] [.int (46 : Int32), .ref 58] m10 Q
                refine y_call rfl rfl rfl rfl rfl (Nat.le_of_ble_eq_true rfl) (Nat.le_of_ble_eq_true rfl) rfl (by decide) H (fun v11 m11 H => ?_)
                obtain ⟨u11, rfl, H⟩ := H
                show yP (xg xs) (d + 1) 310 187 [(2, .int (m8.1 58 7)), (1, .int (m.1 58 8)), (0, .ref 58)] [.int u11] m11 Q
                refine y_zeq (t := 237) rfl rfl rfl (fun h => ?_) (fun h => ?_)
                · replace H := H.1 h; clear h
                  refine y_st rfl rfl rfl rfl rfl (fun _ _ => rfl) ?_
                  refine y_st rfl rfl rfl rfl rfl (fun _ _ => rfl) ?_
                  show yP (xg xs) (d + 1) 310 240 [(2, .int (m8.1 58 7)), (1, .int (m.1 58 8)), (0, .ref 58)] [.int (40 : Int32), .ref 58] m11 Q
                  refine y_call rfl rfl rfl rfl rfl (Nat.le_of_ble_eq_true rfl) (Nat.le_of_ble_eq_true rfl) rfl (by decide) H (fun v12 m12 H => ?_)
                  obtain ⟨u12, rfl, H⟩ := H
                  show yP (xg xs) (d + 1) 310 243 [(2, .int (m8.1 58 7)), (1, .int (m.1 58 8)), (0, .ref 58)] [.int u12] m12 Q
                  refine y_zeq (t := 255) rfl rfl rfl (fun h => ?_) (fun h => ?_)
                  · replace H := H.1 h; clear h
                    refine y_st rfl rfl rfl rfl rfl (fun _ _ => rfl) ?_
                    refine y_st rfl rfl rfl rfl rfl (fun _ _ => rfl) ?_
                    refine y_st rfl rfl rfl rfl rfl (fun _ _ => rfl) ?_
                    refine y_st rfl rfl rfl rfl rfl (fun _ _ => rfl) ?_
                    show yP (xg xs) (d + 1) 310 260 [(2, .int (m8.1 58 7)), (1, .int (m.1 58 8)), (0, .ref 58)] [.int (m8.1 58 7), .int (m.1 58 8), .int (6 : Int32), .ref 58] m12 Q
                    refine y_call rfl rfl rfl rfl rfl (Nat.le_of_ble_eq_true rfl) (Nat.le_of_ble_eq_true rfl) rfl (by decide) H (fun v13 m13 H => ?_)
                    obtain ⟨u13, rfl, H⟩ := H
                    show yP (xg xs) (d + 1) 310 263 [(2, .int (m8.1 58 7)), (1, .int (m.1 58 8)), (0, .ref 58)] [.int u13] m13 Q
                    exact y_iret rfl rfl rfl H
                  · replace H := H.2 h; clear h
                    refine y_st rfl rfl rfl rfl rfl (fun _ _ => rfl) ?_
                    refine y_st rfl rfl rfl rfl rfl (fun _ _ => rfl) ?_
                    refine y_st rfl rfl rfl rfl rfl (fun _ _ => rfl) ?_
                    show yP (xg xs) (d + 1) 310 249 [(2, .int (m8.1 58 7)), (1, .int (m.1 58 8)), (0, .ref 58)] [.int (m8.1 58 7), .int (m.1 58 8), .ref 58] m12 Q
                    refine y_call rfl rfl rfl rfl rfl (Nat.le_of_ble_eq_true rfl) (Nat.le_of_ble_eq_true rfl) rfl (by decide) H (fun v14 m14 H => ?_)
                    obtain ⟨u14, rfl, H⟩ := H
                    refine y_st rfl rfl rfl rfl rfl (fun _ _ => rfl) ?_
                    show yP (xg xs) (d + 1) 310 263 [(2, .int (m8.1 58 7)), (1, .int (m.1 58 8)), (0, .ref 58)] [.int u14] m14 Q
                    exact y_iret rfl rfl rfl H
                · replace H := H.2 h; clear h
                  refine y_st rfl rfl rfl rfl rfl (fun _ _ => rfl) ?_
                  refine y_st rfl rfl rfl rfl rfl (fun _ _ => rfl) ?_
                  refine y_st rfl rfl rfl rfl rfl (fun _ _ => rfl) ?_
                  refine y_st rfl rfl rfl rfl rfl (fun _ _ => rfl) ?_
                  show yP (xg xs) (d + 1) 310 195 [(2, .int (m8.1 58 7)), (1, .int (m.1 58 8)), (0, .ref 58)] [.int (m8.1 58 7), .int (m.1 58 8), .int (33 : Int32), .ref 58] m11 Q
                  refine y_call rfl rfl rfl rfl rfl (Nat.le_of_ble_eq_true rfl) (Nat.le_of_ble_eq_true rfl) rfl (by decide) H (fun v15 m15 H => ?_)
                  obtain ⟨u15, rfl, H⟩ := H
                  refine y_st rfl rfl rfl rfl rfl (fun _ _ => rfl) ?_
                  refine y_st rfl rfl rfl rfl rfl (fun _ _ => rfl) ?_
                  show yP (xg xs) (d + 1) 310 200 [(3, .int u15), (2, .int (m8.1 58 7)), (1, .int (m.1 58 8)), (0, .ref 58)] [.ref 58] m15 Q
                  refine y_call rfl rfl rfl rfl rfl (Nat.le_of_ble_eq_true rfl) (Nat.le_of_ble_eq_true rfl) rfl (by decide) H (fun v16 m16 H => ?_)
                  obtain ⟨rfl, H⟩ := H
                  refine y_st rfl rfl rfl rfl rfl (fun _ _ => rfl) ?_
                  refine y_st rfl rfl rfl rfl rfl (fun _ _ => rfl) ?_
                  refine y_st rfl rfl rfl rfl rfl (fun _ _ => rfl) ?_
                  show yP (xg xs) (d + 1) 310 206 [(3, .int u15), (2, .int (m8.1 58 7)), (1, .int (m.1 58 8)), (0, .ref 58)] [.int (2 : Int32), .ref 58, .ref 58] m16 Q
                  refine y_call rfl rfl rfl rfl rfl (Nat.le_of_ble_eq_true rfl) (Nat.le_of_ble_eq_true rfl) rfl (by decide) H (fun v17 m17 H => ?_)
                  obtain ⟨u17, rfl, H⟩ := H
                  show yP (xg xs) (d + 1) 310 209 [(3, .int u15), (2, .int (m8.1 58 7)), (1, .int (m.1 58 8)), (0, .ref 58)] [.int u17, .ref 58] m17 Q
                  refine y_call rfl rfl rfl rfl rfl (Nat.le_of_ble_eq_true rfl) (Nat.le_of_ble_eq_true rfl) rfl (by decide) H (fun v18 m18 H => ?_)
                  obtain ⟨rfl, H⟩ := H
                  refine y_st rfl rfl rfl rfl rfl (fun _ _ => rfl) ?_
                  refine y_st rfl rfl rfl rfl rfl (fun _ _ => rfl) ?_
                  refine y_st rfl rfl rfl rfl rfl (fun _ _ => rfl) ?_
                  refine y_st rfl rfl rfl rfl rfl (fun _ _ => rfl) ?_
                  refine y_st rfl rfl rfl rfl rfl (fun _ _ => rfl) ?_
                  refine y_gf rfl rfl rfl rfl rfl ?_
                  refine y_st rfl rfl rfl rfl rfl (fun _ _ => rfl) ?_
                  refine y_gf rfl rfl rfl rfl rfl ?_
                  show yP (xg xs) (d + 1) 310 225 [(3, .int u15), (2, .int (m8.1 58 7)), (1, .int (m.1 58 8)), (0, .ref 58)] [.int (m18.1 58 7), .int (m18.1 58 8), .int (6 : Int32), .ref 58, .int u15, .ref 58] m18 Q
                  refine y_call rfl rfl rfl rfl rfl (Nat.le_of_ble_eq_true rfl) (Nat.le_of_ble_eq_true rfl) rfl (by decide) H (fun v19 m19 H => ?_)
                  obtain ⟨u19, rfl, H⟩ := H
                  show yP (xg xs) (d + 1) 310 228 [(3, .int u15), (2, .int (m8.1 58 7)), (1, .int (m.1 58 8)), (0, .ref 58)] [.int u19, .int u15, .ref 58] m19 Q
                  refine y_call rfl rfl rfl rfl rfl (Nat.le_of_ble_eq_true rfl) (Nat.le_of_ble_eq_true rfl) rfl (by decide) H (fun v20 m20 H => ?_)
                  obtain ⟨rfl, H⟩ := H
                  refine y_st rfl rfl rfl rfl rfl (fun _ _ => rfl) ?_
                  show yP (xg xs) (d + 1) 310 232 [(3, .int u15), (2, .int (m8.1 58 7)), (1, .int (m.1 58 8)), (0, .ref 58)] [.ref 58] m20 Q
                  refine y_call rfl rfl rfl rfl rfl (Nat.le_of_ble_eq_true rfl) (Nat.le_of_ble_eq_true rfl) rfl (by decide) H (fun v21 m21 H => ?_)
                  obtain ⟨rfl, H⟩ := H
                  refine y_st rfl rfl rfl rfl rfl (fun _ _ => rfl) ?_
                  show yP (xg xs) (d + 1) 310 236 [(3, .int u15), (2, .int (m8.1 58 7)), (1, .int (m.1 58 8)), (0, .ref 58)] [.int u15] m21 Q
                  exact y_iret rfl rfl rfl H
              · replace H := H.2 h; clear h
                refine y_st rfl rfl rfl rfl rfl (fun _ _ => rfl) ?_
                refine y_st rfl rfl rfl rfl rfl (fun _ _ => rfl) ?_
                refine y_st rfl rfl rfl rfl rfl (fun _ _ => rfl) ?_
                refine y_st rfl rfl rfl rfl rfl (fun _ _ => rfl) ?_
                show yP (xg xs) (d + 1) 310 177 [(2, .int (m8.1 58 7)), (1, .int (m.1 58 8)), (0, .ref 58)] [.int (0 : Int32), .int (m8.1 58 7), .int (m.1 58 8), .ref 58] m10 Q
                refine y_call rfl rfl rfl rfl rfl (Nat.le_of_ble_eq_true rfl) (Nat.le_of_ble_eq_true rfl) rfl (by decide) H (fun v22 m22 H => ?_)
                obtain ⟨u22, rfl, H⟩ := H
                show yP (xg xs) (d + 1) 310 180 [(2, .int (m8.1 58 7)), (1, .int (m.1 58 8)), (0, .ref 58)] [.int u22] m22 Q
                exact y_iret rfl rfl rfl H
            · replace H := H.2 h; clear h
              show yP (xg xs) (d + 1) 310 141 [(1, .int (m.1 58 8)), (0, .ref 58)] [] m6 Q
              refine y_headS (l2 := [(0, .ref 58)]) [1] [0] [1, 0] rfl rfl (by decide) rfl (by decide) ?_
              exact H
      · replace H := H.2 h; clear h
        refine y_st rfl rfl rfl rfl rfl (fun _ _ => rfl) ?_
        show yP (xg xs) (d + 1) 310 84 [(1, .int (m.1 58 8)), (0, .ref 58)] [.ref 58] m3 Q
        refine y_call rfl rfl rfl rfl rfl (Nat.le_of_ble_eq_true rfl) (Nat.le_of_ble_eq_true rfl) rfl (by decide) H (fun v23 m23 H => ?_)
        obtain ⟨rfl, H⟩ := H
        refine y_st rfl rfl rfl rfl rfl (fun _ _ => rfl) ?_
        show yP (xg xs) (d + 1) 310 88 [(1, .int (m.1 58 8)), (0, .ref 58)] [.ref 58] m23 Q
        refine y_call rfl rfl rfl rfl rfl (Nat.le_of_ble_eq_true rfl) (Nat.le_of_ble_eq_true rfl) rfl (by decide) H (fun v24 m24 H => ?_)
        obtain ⟨rfl, H⟩ := H
        refine y_st rfl rfl rfl rfl rfl (fun _ _ => rfl) ?_
        refine y_st rfl rfl rfl rfl rfl (fun _ _ => rfl) ?_
        show yP (xg xs) (d + 1) 310 93 [(1, .int (m.1 58 8)), (0, .ref 58)] [.int (0 : Int32), .ref 58] m24 Q
        refine y_call rfl rfl rfl rfl rfl (Nat.le_of_ble_eq_true rfl) (Nat.le_of_ble_eq_true rfl) rfl (by decide) H (fun v25 m25 H => ?_)
        obtain ⟨u25, rfl, H⟩ := H
        refine y_st rfl rfl rfl rfl rfl (fun _ _ => rfl) ?_
        refine y_st rfl rfl rfl rfl rfl (fun _ _ => rfl) ?_
        refine y_st rfl rfl rfl rfl rfl (fun _ _ => rfl) ?_
        show yP (xg xs) (d + 1) 310 100 [(2, .int u25), (1, .int (m.1 58 8)), (0, .ref 58)] [.int (41 : Int32), .ref 58] m25 Q
        refine y_call rfl rfl rfl rfl rfl (Nat.le_of_ble_eq_true rfl) (Nat.le_of_ble_eq_true rfl) rfl (by decide) H (fun v26 m26 H => ?_)
        obtain ⟨rfl, H⟩ := H
        refine y_st rfl rfl rfl rfl rfl (fun _ _ => rfl) ?_
        refine y_st rfl rfl rfl rfl rfl (fun _ _ => rfl) ?_
        refine y_gf rfl rfl rfl rfl rfl ?_
        refine y_st rfl rfl rfl rfl rfl (fun _ _ => rfl) ?_
        refine y_st rfl rfl rfl rfl rfl (fun _ _ => rfl) ?_
        refine y_pfi rfl rfl rfl rfl rfl (x_fit_i _) ?_
        show yP (xg xs) (d + 1) 310 113 [(2, .int u25), (1, .int (m.1 58 8)), (0, .ref 58)] [] (y_si m26 58 22 ((m26.1 58 22) - (1 : Int32))) Q
        refine y_st rfl rfl rfl rfl rfl (fun _ _ => rfl) ?_
        show yP (xg xs) (d + 1) 310 114 [(2, .int u25), (1, .int (m.1 58 8)), (0, .ref 58)] [.int u25] (y_si m26 58 22 ((m26.1 58 22) - (1 : Int32))) Q
        exact y_iret rfl rfl rfl H
    · replace H := H.2 h; clear h
      show yP (xg xs) (d + 1) 310 23 [(1, .int (m.1 58 8)), (0, .ref 58)] [] m2 Q
      refine y_headS (l2 := [(0, .ref 58), (1, .int (m.1 58 8))]) [1, 0] [0, 1] [1, 0] rfl rfl (by decide) rfl (by decide) ?_
      exact H
set_option maxRecDepth 20000 in
/-- CodeMakerModel.readOperand from 23 on -/
theorem w310_23 (xs : List Int32) (d : Nat) (l1 : Int32) (m : yM) (Q : Option Value → yM → Prop) (H : (yC (xg xs) d 295 [.ref 58, .int (45 : Int32)] m (fun v1 m1 => ∃ u1, v1 = some (Value.int u1) ∧ ((u1 = 0 → yP (xg xs) (d + 1) 310 41 [(0, .ref 58)] [.int (1 : Int32), .int l1, .int (36 : Int32), .ref 58] m1 Q) ∧ (¬ u1 = 0 → yP (xg xs) (d + 1) 310 41 [(0, .ref 58)] [.int (0 : Int32), .int l1, .int (36 : Int32), .ref 58] m1 Q))))) : yP (xg xs) (d + 1) 310 23 [(0, .ref 58), (1, .int l1)] [] m Q := by
  refine y_st rfl rfl rfl rfl rfl (fun _ _ => rfl) ?_
  refine y_st rfl rfl rfl rfl rfl (fun _ _ => rfl) ?_
  refine y_st rfl rfl rfl rfl rfl (fun _ _ => rfl) ?_
  refine y_st rfl rfl rfl rfl rfl (fun _ _ => rfl) ?_
  refine y_st rfl rfl rfl rfl rfl (fun _ _ => rfl) ?_
  show yP (xg xs) (d + 1) 310 30 [(0, .ref 58), (1, .int l1)] [.int (45 : Int32), .ref 58, .int l1, .int (36 : Int32), .ref 58] m Q
  refine y_call rfl rfl rfl rfl rfl (Nat.le_of_ble_eq_true rfl) (Nat.le_of_ble_eq_true rfl) rfl (by decide) H (fun v1 m1 H => ?_)
  obtain ⟨u1, rfl, H⟩ := H
  show yP (xg xs) (d + 1) 310 33 [(0, .ref 58), (1, .int l1)] [.int u1, .int l1, .int (36 : Int32), .ref 58] m1 Q
  refine y_zeq (t := 40) rfl rfl rfl (fun h => ?_) (fun h => ?_)
  · replace H := H.1 h; clear h
    refine y_st rfl rfl rfl rfl rfl (fun _ _ => rfl) ?_
    show yP (xg xs) (d + 1) 310 41 [(0, .ref 58), (1, .int l1)] [.int (1 : Int32), .int l1, .int (36 : Int32), .ref 58] m1 Q
    refine y_headS (l2 := [(0, .ref 58)]) [0] [0] [0, 1] rfl rfl (by decide) rfl (by decide) ?_
    exact H
  · replace H := H.2 h; clear h
    refine y_st rfl rfl rfl rfl rfl (fun _ _ => rfl) ?_
    refine y_st rfl rfl rfl rfl rfl (fun _ _ => rfl) ?_
    show yP (xg xs) (d + 1) 310 41 [(0, .ref 58), (1, .int l1)] [.int (0 : Int32), .int l1, .int (36 : Int32), .ref 58] m1 Q
    refine y_headS (l2 := [(0, .ref 58)]) [0] [0] [0, 1] rfl rfl (by decide) rfl (by decide) ?_
    exact H
set_option maxRecDepth 20000 in
/-- CodeMakerModel.readOperand from 41 on -/
theorem w310_41 (xs : List Int32) (d : Nat) (s1 : Int32) (s2 : Int32) (s3 : Int32) (m : yM) (Q : Option Value → yM → Prop) (H : (yC (xg xs) d 271 [.ref 58, .int s1, .int s2, .int s3] m (fun v1 m1 => ∃ u1, v1 = some (Value.int u1) ∧ (yC (xg xs) d 307 [.ref 58] m1 (fun v2 m2 => v2 = none ∧ (yC (xg xs) d 272 [.ref 58] m2 (fun v3 m3 => v3 = none ∧ (yC (xg xs) d 310 [.ref 58] m3 (fun v4 m4 => ∃ u4, v4 = some (Value.int u4) ∧ (yC (xg xs) d 297 [.ref 58, .int u1, .int u4] m4 (fun v5 m5 => v5 = none ∧ Q (some (.int u1)) (y_si m5 58 22 ((m5.1 58 22) - (1 : Int32)))))))))))))) : yP (xg xs) (d + 1) 310 41 [(0, .ref 58)] [.int s3, .int s2, .int s1, .ref 58] m Q := by
  show yP (xg xs) (d + 1) 310 41 [(0, .ref 58)] [.int s3, .int s2, .int s1, .ref 58] m Q
  refine y_call rfl rfl rfl rfl rfl (Nat.le_of_ble_eq_true rfl) (Nat.le_of_ble_eq_true rfl) rfl (by decide) H (fun v1 m1 H => ?_)
  obtain ⟨u1, rfl, H⟩ := H
  refine y_st rfl rfl rfl rfl rfl (fun _ _ => rfl) ?_
  refine y_st rfl rfl rfl rfl rfl (fun _ _ => rfl) ?_
  show yP (xg xs) (d + 1) 310 46 [(2, .int u1), (0, .ref 58)] [.ref 58] m1 Q
  refine y_call rfl rfl rfl rfl rfl (Nat.le_of_ble_eq_true rfl) (Nat.le_of_ble_eq_true rfl) rfl (by decide) H (fun v2 m2 H => ?_)
  obtain ⟨rfl, H⟩ := H
  refine y_st rfl rfl rfl rfl rfl (fun _ _ => rfl) ?_
  show yP (xg xs) (d + 1) 310 50 [(2, .int u1), (0, .ref 58)] [.ref 58] m2 Q
  refine y_call rfl rfl rfl rfl rfl (Nat.le_of_ble_eq_true rfl) (Nat.le_of_ble_eq_true rfl) rfl (by decide) H (fun v3 m3 H => ?_)
  obtain ⟨rfl, H⟩ := H
  refine y_st rfl rfl rfl rfl rfl (fun _ _ => rfl) ?_
  refine y_st rfl rfl rfl rfl rfl (fun _ _ => rfl) ?_
  refine y_st rfl rfl rfl rfl rfl (fun _ _ => rfl) ?_
  show yP (xg xs) (d + 1) 310 56 [(2, .int u1), (0, .ref 58)] [.ref 58, .int u1, .ref 58] m3 Q
  refine y_call rfl rfl rfl rfl rfl (Nat.le_of_ble_eq_true rfl) (Nat.le_of_ble_eq_true rfl) rfl (by decide) H (fun v4 m4 H => ?_)
  obtain ⟨u4, rfl, H⟩ := H
  show yP (xg xs) (d + 1) 310 59 [(2, .int u1), (0, .ref 58)] [.int u4, .int u1, .ref 58] m4 Q
  refine y_call rfl rfl rfl rfl rfl (Nat.le_of_ble_eq_true rfl) (Nat.le_of_ble_eq_true rfl) rfl (by decide) H (fun v5 m5 H => ?_)
  obtain ⟨rfl, H⟩ := H
  refine y_st rfl rfl rfl rfl rfl (fun _ _ => rfl) ?_
  refine y_st rfl rfl rfl rfl rfl (fun _ _ => rfl) ?_
  refine y_gf rfl rfl rfl rfl rfl ?_
  refine y_st rfl rfl rfl rfl rfl (fun _ _ => rfl) ?_
  refine y_st rfl rfl rfl rfl rfl (fun _ _ => rfl) ?_
  refine y_pfi rfl rfl rfl rfl rfl (x_fit_i _) ?_
  show yP (xg xs) (d + 1) 310 72 [(2, .int u1), (0, .ref 58)] [] (y_si m5 58 22 ((m5.1 58 22) - (1 : Int32))) Q
  refine y_st rfl rfl rfl rfl rfl (fun _ _ => rfl) ?_
  show yP (xg xs) (d + 1) 310 73 [(2, .int u1), (0, .ref 58)] [.int u1] (y_si m5 58 22 ((m5.1 58 22) - (1 : Int32))) Q
  exact y_iret rfl rfl rfl H
set_option maxRecDepth 20000 in
/-- CodeMakerModel.readOperand from 141 on -/
theorem w310_141 (xs : List Int32) (d : Nat) (m : yM) (Q : Option Value → yM → Prop) (H : (yC (xg xs) d 301 [.ref 58] m (fun v1 m1 => ∃ u1, v1 = some (Value.int u1) ∧ Q (some (.int u1)) m1))) : yP (xg xs) (d + 1) 310 141 [(0, .ref 58)] [] m Q := by
  refine y_st rfl rfl rfl rfl rfl (fun _ _ => rfl) ?_
  show yP (xg xs) (d + 1) 310 142 [(0, .ref 58)] [.ref 58] m Q
  refine y_call rfl rfl rfl rfl rfl (Nat.le_of_ble_eq_true rfl) (Nat.le_of_ble_eq_true rfl) rfl (by decide) H (fun v1 m1 H => ?_)
  obtain ⟨u1, rfl, H⟩ := H
  show yP (xg xs) (d + 1) 310 145 [(0, .ref 58)] [.int u1] m1 Q
  exact y_iret rfl rfl rfl H
set_option maxRecDepth 20000 in
/-- CodeMakerModel.readElement from 0 on -/
theorem w311_0 (xs : List Int32) (d : Nat) (l1 : Int32) (l2 : Int32) (l3 : Int32) (m : yM) (Q : Option Value → yM → Prop) (H : (yC (xg xs) d 271 [.ref 58, .int (32 : Int32), .int l1, .int l2] m (fun v1 m1 => ∃ u1, v1 = some (Value.int u1) ∧ (yC (xg xs) d 307 [.ref 58] m1 (fun v2 m2 => v2 = none ∧ (yC (xg xs) d 272 [.ref 58] m2 (fun v3 m3 => v3 = none ∧ ((l3 = 0 → (yC (xg xs) d 309 [.ref 58, .int (0 : Int32)] m3 (fun v4 m4 => ∃ u4, v4 = some (Value.int u4) ∧ yP (xg xs) (d + 1) 311 37 [(0, .ref 58), (4, .int u1)] [.int u4, .int u1, .ref 58] m4 Q))) ∧ (¬ l3 = 0 → (yC (xg xs) d 308 [.ref 58] m3 (fun v5 m5 => ∃ u5, v5 = some (Value.int u5) ∧ yP (xg xs) (d + 1) 311 37 [(0, .ref 58), (4, .int u1)] [.int u5, .int u1, .ref 58] m5 Q))))))))))) : yP (xg xs) (d + 1) 311 0 [(0, .ref 58), (1, .int l1), (2, .int l2), (3, .int l3)] [] m Q := by
  refine y_st rfl rfl rfl rfl rfl (fun _ _ => rfl) ?_
  refine y_st rfl rfl rfl rfl rfl (fun _ _ => rfl) ?_
  refine y_st rfl rfl rfl rfl rfl (fun _ _ => rfl) ?_
  refine y_st rfl rfl rfl rfl rfl (fun _ _ => rfl) ?_
  show yP (xg xs) (d + 1) 311 5 [(0, .ref 58), (1, .int l1), (2, .int l2), (3, .int l3)] [.int l2, .int l1, .int (32 : Int32), .ref 58] m Q
  refine y_call rfl rfl rfl rfl rfl (Nat.le_of_ble_eq_true rfl) (Nat.le_of_ble_eq_true rfl) rfl (by decide) H (fun v1 m1 H => ?_)
  obtain ⟨u1, rfl, H⟩ := H
  refine y_st rfl rfl rfl rfl rfl (fun _ _ => rfl) ?_
  refine y_st rfl rfl rfl rfl rfl (fun _ _ => rfl) ?_
  show yP (xg xs) (d + 1) 311 11 [(4, .int u1), (0, .ref 58), (1, .int l1), (2, .int l2), (3, .int l3)] [.ref 58] m1 Q
  refine y_call rfl rfl rfl rfl rfl (Nat.le_of_ble_eq_true rfl) (Nat.le_of_ble_eq_true rfl) rfl (by decide) H (fun v2 m2 H => ?_)
  obtain ⟨rfl, H⟩ := H
  refine y_st rfl rfl rfl rfl rfl (fun _ _ => rfl) ?_
  show yP (xg xs) (d + 1) 311 15 [(4, .int u1), (0, .ref 58), (1, .int l1), (2, .int l2), (3, .int l3)] [.ref 58] m2 Q
  refine y_call rfl rfl rfl rfl rfl (Nat.le_of_ble_eq_true rfl) (Nat.le_of_ble_eq_true rfl) rfl (by decide) H (fun v3 m3 H => ?_)
  obtain ⟨rfl, H⟩ := H
  refine y_st rfl rfl rfl rfl rfl (fun _ _ => rfl) ?_
  refine y_st rfl rfl rfl rfl rfl (fun _ _ => rfl) ?_
  refine y_st rfl rfl rfl rfl rfl (fun _ _ => rfl) ?_
  show yP (xg xs) (d + 1) 311 22 [(4, .int u1), (0, .ref 58), (1, .int l1), (2, .int l2), (3, .int l3)] [.int l3, .int u1, .ref 58] m3 Q
  refine y_zeq (t := 32) rfl rfl rfl (fun h => ?_) (fun h => ?_)
  · replace H := H.1 h; clear h
    refine y_st rfl rfl rfl rfl rfl (fun _ _ => rfl) ?_
    refine y_st rfl rfl rfl rfl rfl (fun _ _ => rfl) ?_
    show yP (xg xs) (d + 1) 311 34 [(4, .int u1), (0, .ref 58), (1, .int l1), (2, .int l2), (3, .int l3)] [.int (0 : Int32), .ref 58, .int u1, .ref 58] m3 Q
    refine y_call rfl rfl rfl rfl rfl (Nat.le_of_ble_eq_true rfl) (Nat.le_of_ble_eq_true rfl) rfl (by decide) H (fun v4 m4 H => ?_)
    obtain ⟨u4, rfl, H⟩ := H
    show yP (xg xs) (d + 1) 311 37 [(4, .int u1), (0, .ref 58), (1, .int l1), (2, .int l2), (3, .int l3)] [.int u4, .int u1, .ref 58] m4 Q
    refine y_headS (l2 := [(0, .ref 58), (4, .int u1)]) [1, 0] [0, 4] [4, 0, 1, 2, 3] rfl rfl (by decide) rfl (by decide) ?_
    exact H
  · replace H := H.2 h; clear h
    refine y_st rfl rfl rfl rfl rfl (fun _ _ => rfl) ?_
    show yP (xg xs) (d + 1) 311 26 [(4, .int u1), (0, .ref 58), (1, .int l1), (2, .int l2), (3, .int l3)] [.ref 58, .int u1, .ref 58] m3 Q
    refine y_call rfl rfl rfl rfl rfl (Nat.le_of_ble_eq_true rfl) (Nat.le_of_ble_eq_true rfl) rfl (by decide) H (fun v5 m5 H => ?_)
    obtain ⟨u5, rfl, H⟩ := H
    refine y_st rfl rfl rfl rfl rfl (fun _ _ => rfl) ?_
    show yP (xg xs) (d + 1) 311 37 [(4, .int u1), (0, .ref 58), (1, .int l1), (2, .int l2), (3, .int l3)] [.int u5, .int u1, .ref 58] m5 Q
    refine y_headS (l2 := [(0, .ref 58), (4, .int u1)]) [1, 0] [0, 4] [4, 0, 1, 2, 3] rfl rfl (by decide) rfl (by decide) ?_
    exact H
set_option maxRecDepth 20000 in
/-- CodeMakerModel.readElement from 37 on -/
theorem w311_37 (xs : List Int32) (d : Nat) (l4 : Int32) (s1 : Int32) (s2 : Int32) (m : yM) (Q : Option Value → yM → Prop) (H : (yC (xg xs) d 297 [.ref 58, .int s1, .int s2] m (fun v1 m1 => v1 = none ∧ (yC (xg xs) d 294 [.ref 58, .int (93 : Int32)] m1 (fun v2 m2 => v2 = none ∧ Q (some (.int l4)) (y_si m2 58 22 ((m2.1 58 22) - (1 : Int32)))))))) : yP (xg xs) (d + 1) 311 37 [(0, .ref 58), (4, .int l4)] [.int s2, .int s1, .ref 58] m Q := by
  show yP (xg xs) (d + 1) 311 37 [(0, .ref 58), (4, .int l4)] [.int s2, .int s1, .ref 58] m Q
  refine y_call rfl rfl rfl rfl rfl (Nat.le_of_ble_eq_true rfl) (Nat.le_of_ble_eq_true rfl) rfl (by decide) H (fun v1 m1 H => ?_)
  obtain ⟨rfl, H⟩ := H
  refine y_st rfl rfl rfl rfl rfl (fun _ _ => rfl) ?_
  refine y_st rfl rfl rfl rfl rfl (fun _ _ => rfl) ?_
  show yP (xg xs) (d + 1) 311 43 [(0, .ref 58), (4, .int l4)] [.int (93 : Int32), .ref 58] m1 Q
  refine y_call rfl rfl rfl rfl rfl (Nat.le_of_ble_eq_true rfl) (Nat.le_of_ble_eq_true rfl) rfl (by decide) H (fun v2 m2 H => ?_)
  obtain ⟨rfl, H⟩ := H
  refine y_st rfl rfl rfl rfl rfl (fun _ _ => rfl) ?_
  refine y_st rfl rfl rfl rfl rfl (fun _ _ => rfl) ?_
  refine y_gf rfl rfl rfl rfl rfl ?_
  refine y_st rfl rfl rfl rfl rfl (fun _ _ => rfl) ?_
  refine y_st rfl rfl rfl rfl rfl (fun _ _ => rfl) ?_
  refine y_pfi rfl rfl rfl rfl rfl (x_fit_i _) ?_
  show yP (xg xs) (d + 1) 311 56 [(0, .ref 58), (4, .int l4)] [] (y_si m2 58 22 ((m2.1 58 22) - (1 : Int32))) Q
  refine y_st rfl rfl rfl rfl rfl (fun _ _ => rfl) ?_
  show yP (xg xs) (d + 1) 311 58 [(0, .ref 58), (4, .int l4)] [.int l4] (y_si m2 58 22 ((m2.1 58 22) - (1 : Int32))) Q
  exact y_iret rfl rfl rfl H
set_option maxRecDepth 20000 in
/-- CodeMakerModel.readCall from 0 on -/
theorem w312_0 (xs : List Int32) (d : Nat) (l1 : Int32) (l2 : Int32) (m : yM) (Q : Option Value → yM → Prop) (H : (yC (xg xs) d 271 [.ref 58, .int (34 : Int32), .int l1, .int l2] m (fun v1 m1 => ∃ u1, v1 = some (Value.int u1) ∧ (yC (xg xs) d 307 [.ref 58] m1 (fun v2 m2 => v2 = none ∧ (yC (xg xs) d 272 [.ref 58] m2 (fun v3 m3 => v3 = none ∧ (yC (xg xs) d 295 [.ref 58, .int (41 : Int32)] m3 (fun v4 m4 => ∃ u4, v4 = some (Value.int u4) ∧ ((¬ u4 = 0 → yP (xg xs) (d + 1) 312 31 [(0, .ref 58), (3, .int u1)] [.int (0 : Int32)] m4 Q) ∧ (u4 = 0 → yP (xg xs) (d + 1) 312 31 [(0, .ref 58), (3, .int u1)] [.int (1 : Int32)] m4 Q))))))))))) : yP (xg xs) (d + 1) 312 0 [(0, .ref 58), (1, .int l1), (2, .int l2)] [] m Q := by
  refine y_st rfl rfl rfl rfl rfl (fun _ _ => rfl) ?_
  refine y_st rfl rfl rfl rfl rfl (fun _ _ => rfl) ?_
  refine y_st rfl rfl rfl rfl rfl (fun _ _ => rfl) ?_
  refine y_st rfl rfl rfl rfl rfl (fun _ _ => rfl) ?_
  show yP (xg xs) (d + 1) 312 5 [(0, .ref 58), (1, .int l1), (2, .int l2)] [.int l2, .int l1, .int (34 : Int32), .ref 58] m Q
  refine y_call rfl rfl rfl rfl rfl (Nat.le_of_ble_eq_true rfl) (Nat.le_of_ble_eq_true rfl) rfl (by decide) H (fun v1 m1 H => ?_)
  obtain ⟨u1, rfl, H⟩ := H
  refine y_st rfl rfl rfl rfl rfl (fun _ _ => rfl) ?_
  refine y_st rfl rfl rfl rfl rfl (fun _ _ => rfl) ?_
  show yP (xg xs) (d + 1) 312 10 [(3, .int u1), (0, .ref 58), (1, .int l1), (2, .int l2)] [.ref 58] m1 Q
  refine y_call rfl rfl rfl rfl rfl (Nat.le_of_ble_eq_true rfl) (Nat.le_of_ble_eq_true rfl) rfl (by decide) H (fun v2 m2 H => ?_)
  obtain ⟨rfl, H⟩ := H
  refine y_st rfl rfl rfl rfl rfl (fun _ _ => rfl) ?_
  show yP (xg xs) (d + 1) 312 14 [(3, .int u1), (0, .ref 58), (1, .int l1), (2, .int l2)] [.ref 58] m2 Q
  refine y_call rfl rfl rfl rfl rfl (Nat.le_of_ble_eq_true rfl) (Nat.le_of_ble_eq_true rfl) rfl (by decide) H (fun v3 m3 H => ?_)
  obtain ⟨rfl, H⟩ := H
  refine y_st rfl rfl rfl rfl rfl (fun _ _ => rfl) ?_
  refine y_st rfl rfl rfl rfl rfl (fun _ _ => rfl) ?_
  show yP (xg xs) (d + 1) 312 20 [(3, .int u1), (0, .ref 58), (1, .int l1), (2, .int l2)] [.int (41 : Int32), .ref 58] m3 Q
  refine y_call rfl rfl rfl rfl rfl (Nat.le_of_ble_eq_true rfl) (Nat.le_of_ble_eq_true rfl) rfl (by decide) H (fun v4 m4 H => ?_)
  obtain ⟨u4, rfl, H⟩ := H
  show yP (xg xs) (d + 1) 312 23 [(3, .int u1), (0, .ref 58), (1, .int l1), (2, .int l2)] [.int u4] m4 Q
  refine y_zne (t := 30) rfl rfl rfl (fun h => ?_) (fun h => ?_)
  · replace H := H.1 h; clear h
    refine y_st rfl rfl rfl rfl rfl (fun _ _ => rfl) ?_
    show yP (xg xs) (d + 1) 312 31 [(3, .int u1), (0, .ref 58), (1, .int l1), (2, .int l2)] [.int (0 : Int32)] m4 Q
    refine y_headS (l2 := [(0, .ref 58), (3, .int u1)]) [1, 0] [0, 3] [3, 0, 1, 2] rfl rfl (by decide) rfl (by decide) ?_
    exact H
  · replace H := H.2 h; clear h
    refine y_st rfl rfl rfl rfl rfl (fun _ _ => rfl) ?_
    refine y_st rfl rfl rfl rfl rfl (fun _ _ => rfl) ?_
    show yP (xg xs) (d + 1) 312 31 [(3, .int u1), (0, .ref 58), (1, .int l1), (2, .int l2)] [.int (1 : Int32)] m4 Q
    refine y_headS (l2 := [(0, .ref 58), (3, .int u1)]) [1, 0] [0, 3] [3, 0, 1, 2] rfl rfl (by decide) rfl (by decide) ?_
    exact H
set_option maxRecDepth 20000 in
/-- CodeMakerModel.readCall from 31 on -/
theorem w312_31 (xs : List Int32) (d : Nat) (l3 : Int32) (s0 : Int32) (m : yM) (Q : Option Value → yM → Prop) (H : yP (xg xs) (d + 1) 312 33 [(0, .ref 58), (3, .int l3), (4, .int s0)] [] m Q) : yP (xg xs) (d + 1) 312 31 [(0, .ref 58), (3, .int l3)] [.int s0] m Q := by
  refine y_st rfl rfl rfl rfl rfl (fun _ _ => rfl) ?_
  show yP (xg xs) (d + 1) 312 33 [(4, .int s0), (0, .ref 58), (3, .int l3)] [] m Q
  refine y_headS (l2 := [(0, .ref 58), (3, .int l3), (4, .int s0)]) [1, 2, 0] [0, 3, 4] [4, 0, 3] rfl rfl (by decide) rfl (by decide) ?_
  exact H
set_option maxRecDepth 20000 in
/-- CodeMakerModel.readCall from 33 on -/
theorem w312_33 (xs : List Int32) (d : Nat) (l3 : Int32) (l4 : Int32) (m : yM) (Q : Option Value → yM → Prop) (H : ((l4 = 0 → yP (xg xs) (d + 1) 312 75 [(0, .ref 58), (3, .int l3)] [] m Q) ∧ (¬ l4 = 0 → ((¬ (m.1 58 3) = 0 → yP (xg xs) (d + 1) 312 75 [(0, .ref 58), (3, .int l3)] [] m Q) ∧ ((m.1 58 3) = 0 → (yC (xg xs) d 309 [.ref 58, .int (0 : Int32)] m (fun v1 m1 => ∃ u1, v1 = some (Value.int u1) ∧ (yC (xg xs) d 297 [.ref 58, .int l3, .int u1] m1 (fun v2 m2 => v2 = none ∧ (yC (xg xs) d 295 [.ref 58, .int (44 : Int32)] m2 (fun v3 m3 => ∃ u3, v3 = some (Value.int u3) ∧ ((u3 = 0 → yP (xg xs) (d + 1) 312 33 [(0, .ref 58), (3, .int l3), (4, .int u3)] [] m3 Q) ∧ (¬ u3 = 0 → (yC (xg xs) d 272 [.ref 58] m3 (fun v4 m4 => v4 = none ∧ yP (xg xs) (d + 1) 312 33 [(0, .ref 58), (3, .int l3), (4, .int u3)] [] m4 Q))))))))))))))) : yP (xg xs) (d + 1) 312 33 [(0, .ref 58), (3, .int l3), (4, .int l4)] [] m Q := by
  refine y_st rfl rfl rfl rfl rfl (fun _ _ => rfl) ?_
  show yP (xg xs) (d + 1) 312 35 [(0, .ref 58), (3, .int l3), (4, .int l4)] [.int l4] m Q
  refine y_zeq (t := 75) rfl rfl rfl (fun h => ?_) (fun h => ?_)
  · replace H := H.1 h; clear h
    show yP (xg xs) (d + 1) 312 75 [(0, .ref 58), (3, .int l3), (4, .int l4)] [] m Q
    refine y_headS (l2 := [(0, .ref 58), (3, .int l3)]) [0, 1] [0, 3] [0, 3, 4] rfl rfl (by decide) rfl (by decide) ?_
    exact H
  · replace H := H.2 h; clear h
    refine y_st rfl rfl rfl rfl rfl (fun _ _ => rfl) ?_
    refine y_gf rfl rfl rfl rfl rfl ?_
    show yP (xg xs) (d + 1) 312 42 [(0, .ref 58), (3, .int l3), (4, .int l4)] [.int (m.1 58 3)] m Q
    refine y_zne (t := 75) rfl rfl rfl (fun h => ?_) (fun h => ?_)
    · replace H := H.1 h; clear h
      show yP (xg xs) (d + 1) 312 75 [(0, .ref 58), (3, .int l3), (4, .int l4)] [] m Q
      refine y_headS (l2 := [(0, .ref 58), (3, .int l3)]) [0, 1] [0, 3] [0, 3, 4] rfl rfl (by decide) rfl (by decide) ?_
      exact H
    · replace H := H.2 h; clear h
      refine y_st rfl rfl rfl rfl rfl (fun _ _ => rfl) ?_
      refine y_st rfl rfl rfl rfl rfl (fun _ _ => rfl) ?_
      refine y_st rfl rfl rfl rfl rfl (fun _ _ => rfl) ?_
      refine y_st rfl rfl rfl rfl rfl (fun _ _ => rfl) ?_
      show yP (xg xs) (d + 1) 312 49 [(0, .ref 58), (3, .int l3), (4, .int l4)] [.int (0 : Int32), .ref 58, .int l3, .ref 58] m Q
      refine y_call rfl rfl rfl rfl rfl (Nat.le_of_ble_eq_true rfl) (Nat.le_of_ble_eq_true rfl) rfl (by decide) H (fun v1 m1 H => ?_)
      obtain ⟨u1, rfl, H⟩ := H
      show yP (xg xs) (d + 1) 312 52 [(0, .ref 58), (3, .int l3), (4, .int l4)] [.int u1, .int l3, .ref 58] m1 Q
      refine y_call rfl rfl rfl rfl rfl (Nat.le_of_ble_eq_true rfl) (Nat.le_of_ble_eq_true rfl) rfl (by decide) H (fun v2 m2 H => ?_)
      obtain ⟨rfl, H⟩ := H
      refine y_st rfl rfl rfl rfl rfl (fun _ _ => rfl) ?_
      refine y_st rfl rfl rfl rfl rfl (fun _ _ => rfl) ?_
      show yP (xg xs) (d + 1) 312 58 [(0, .ref 58), (3, .int l3), (4, .int l4)] [.int (44 : Int32), .ref 58] m2 Q
      refine y_call rfl rfl rfl rfl rfl (Nat.le_of_ble_eq_true rfl) (Nat.le_of_ble_eq_true rfl) rfl (by decide) H (fun v3 m3 H => ?_)
      obtain ⟨u3, rfl, H⟩ := H
      refine y_st rfl rfl rfl rfl rfl (fun _ _ => rfl) ?_
      refine y_st rfl rfl rfl rfl rfl (fun _ _ => rfl) ?_
      show yP (xg xs) (d + 1) 312 65 [(4, .int u3), (0, .ref 58), (3, .int l3)] [.int u3] m3 Q
      refine y_zeq (t := 33) rfl rfl rfl (fun h => ?_) (fun h => ?_)
      · replace H := H.1 h; clear h
        show yP (xg xs) (d + 1) 312 33 [(4, .int u3), (0, .ref 58), (3, .int l3)] [] m3 Q
        refine y_headS (l2 := [(0, .ref 58), (3, .int l3), (4, .int u3)]) [1, 2, 0] [0, 3, 4] [4, 0, 3] rfl rfl (by decide) rfl (by decide) ?_
        exact H
      · replace H := H.2 h; clear h
        refine y_st rfl rfl rfl rfl rfl (fun _ _ => rfl) ?_
        show yP (xg xs) (d + 1) 312 69 [(4, .int u3), (0, .ref 58), (3, .int l3)] [.ref 58] m3 Q
        refine y_call rfl rfl rfl rfl rfl (Nat.le_of_ble_eq_true rfl) (Nat.le_of_ble_eq_true rfl) rfl (by decide) H (fun v4 m4 H => ?_)
        obtain ⟨rfl, H⟩ := H
        refine y_st rfl rfl rfl rfl rfl (fun _ _ => rfl) ?_
        show yP (xg xs) (d + 1) 312 33 [(4, .int u3), (0, .ref 58), (3, .int l3)] [] m4 Q
        refine y_headS (l2 := [(0, .ref 58), (3, .int l3), (4, .int u3)]) [1, 2, 0] [0, 3, 4] [4, 0, 3] rfl rfl (by decide) rfl (by decide) ?_
        exact H
set_option maxRecDepth 20000 in
/-- CodeMakerModel.readCall from 75 on -/
theorem w312_75 (xs : List Int32) (d : Nat) (l3 : Int32) (m : yM) (Q : Option Value → yM → Prop) (H : (yC (xg xs) d 294 [.ref 58, .int (41 : Int32)] m (fun v1 m1 => v1 = none ∧ Q (some (.int l3)) (y_si m1 58 22 ((m1.1 58 22) - (1 : Int32)))))) : yP (xg xs) (d + 1) 312 75 [(0, .ref 58), (3, .int l3)] [] m Q := by
  refine y_st rfl rfl rfl rfl rfl (fun _ _ => rfl) ?_
  refine y_st rfl rfl rfl rfl rfl (fun _ _ => rfl) ?_
  show yP (xg xs) (d + 1) 312 78 [(0, .ref 58), (3, .int l3)] [.int (41 : Int32), .ref 58] m Q
  refine y_call rfl rfl rfl rfl rfl (Nat.le_of_ble_eq_true rfl) (Nat.le_of_ble_eq_true rfl) rfl (by decide) H (fun v1 m1 H => ?_)
  obtain ⟨rfl, H⟩ := H
  refine y_st rfl rfl rfl rfl rfl (fun _ _ => rfl) ?_
  refine y_st rfl rfl rfl rfl rfl (fun _ _ => rfl) ?_
  refine y_gf rfl rfl rfl rfl rfl ?_
  refine y_st rfl rfl rfl rfl rfl (fun _ _ => rfl) ?_
  refine y_st rfl rfl rfl rfl rfl (fun _ _ => rfl) ?_
  refine y_pfi rfl rfl rfl rfl rfl (x_fit_i _) ?_
  show yP (xg xs) (d + 1) 312 91 [(0, .ref 58), (3, .int l3)] [] (y_si m1 58 22 ((m1.1 58 22) - (1 : Int32))) Q
  refine y_st rfl rfl rfl rfl rfl (fun _ _ => rfl) ?_
  show yP (xg xs) (d + 1) 312 92 [(0, .ref 58), (3, .int l3)] [.int l3] (y_si m1 58 22 ((m1.1 58 22) - (1 : Int32))) Q
  exact y_iret rfl rfl rfl H
set_option maxRecDepth 20000 in
/-- CodeMakerModel.operation from 0 on -/
theorem w313_0 (xs : List Int32) (d : Nat) (l1 : Int32) (m : yM) (Q : Option Value → yM → Prop) (H : ((l1 = (0 : Int32) → (yC (xg xs) d 290 [.ref 58, .int (30 : Int32)] m (fun v1 m1 => ∃ u1, v1 = some (Value.int u1) ∧ ((u1 = 0 → Q (some (.int ((-1) : Int32))) m1) ∧ (¬ u1 = 0 → Q (some (.int (0 : Int32))) m1))))) ∧ (l1 = (1 : Int32) → (yC (xg xs) d 290 [.ref 58, .int (31 : Int32)] m (fun v2 m2 => ∃ u2, v2 = some (Value.int u2) ∧ ((u2 = 0 → Q (some (.int ((-1) : Int32))) m2) ∧ (¬ u2 = 0 → Q (some (.int (1 : Int32))) m2))))) ∧ (l1 = (2 : Int32) → (yC (xg xs) d 290 [.ref 58, .int (32 : Int32)] m (fun v3 m3 => ∃ u3, v3 = some (Value.int u3) ∧ ((¬ u3 = 0 → Q (some (.int (2 : Int32))) m3) ∧ (u3 = 0 → (yC (xg xs) d 295 [.ref 58, .int (38 : Int32)] m3 (fun v4 m4 => ∃ u4, v4 = some (Value.int u4) ∧ ((u4 = 0 → Q (some (.int ((-1) : Int32))) m4) ∧ (¬ u4 = 0 → Q (some (.int (2 : Int32))) m4))))))))) ∧ (l1 = (3 : Int32) → (yC (xg xs) d 295 [.ref 58, .int (61 : Int32)] m (fun v5 m5 => ∃ u5, v5 = some (Value.int u5) ∧ ((u5 = 0 → (yC (xg xs) d 295 [.ref 58, .int (5 : Int32)] m5 (fun v6 m6 => ∃ u6, v6 = some (Value.int u6) ∧ ((u6 = 0 → Q (some (.int ((-1) : Int32))) m6) ∧ (¬ u6 = 0 → Q (some (.int (4 : Int32))) m6))))) ∧ (¬ u5 = 0 → Q (some (.int (3 : Int32))) m5))))) ∧ (l1 = (4 : Int32) → (yC (xg xs) d 295 [.ref 58, .int (60 : Int32)] m (fun v7 m7 => ∃ u7, v7 = some (Value.int u7) ∧ ((u7 = 0 → (yC (xg xs) d 295 [.ref 58, .int (62 : Int32)] m7 (fun v8 m8 => ∃ u8, v8 = some (Value.int u8) ∧ ((u8 = 0 → (yC (xg xs) d 295 [.ref 58, .int (3 : Int32)] m8 (fun v9 m9 => ∃ u9, v9 = some (Value.int u9) ∧ ((u9 = 0 → (yC (xg xs) d 295 [.ref 58, .int (4 : Int32)] m9 (fun v10 m10 => ∃ u10, v10 = some (Value.int u10) ∧ ((u10 = 0 → Q (some (.int ((-1) : Int32))) m10) ∧ (¬ u10 = 0 → Q (some (.int (8 : Int32))) m10))))) ∧ (¬ u9 = 0 → Q (some (.int (7 : Int32))) m9))))) ∧ (¬ u8 = 0 → Q (some (.int (6 : Int32))) m8))))) ∧ (¬ u7 = 0 → Q (some (.int (5 : Int32))) m7))))) ∧ (l1 = (5 : Int32) → (yC (xg xs) d 295 [.ref 58, .int (43 : Int32)] m (fun v11 m11 => ∃ u11, v11 = some (Value.int u11) ∧ ((u11 = 0 → (yC (xg xs) d 295 [.ref 58, .int (45 : Int32)] m11 (fun v12 m12 => ∃ u12, v12 = some (Value.int u12) ∧ ((u12 = 0 → Q (some (.int ((-1) : Int32))) m12) ∧ (¬ u12 = 0 → Q (some (.int (10 : Int32))) m12))))) ∧ (¬ u11 = 0 → Q (some (.int (9 : Int32))) m11))))) ∧ (¬ l1 = (0 : Int32) → ¬ l1 = (1 : Int32) → ¬ l1 = (2 : Int32) → ¬ l1 = (3 : Int32) → ¬ l1 = (4 : Int32) → ¬ l1 = (5 : Int32) → (yC (xg xs) d 295 [.ref 58, .int (42 : Int32)] m (fun v13 m13 => ∃ u13, v13 = some (Value.int u13) ∧ ((u13 = 0 → (yC (xg xs) d 295 [.ref 58, .int (47 : Int32)] m13 (fun v14 m14 => ∃ u14, v14 = some (Value.int u14) ∧ ((u14 = 0 → (yC (xg xs) d 290 [.ref 58, .int (33 : Int32)] m14 (fun v15 m15 => ∃ u15, v15 = some (Value.int u15) ∧ ((u15 = 0 → Q (some (.int ((-1) : Int32))) m15) ∧ (¬ u15 = 0 → Q (some (.int (13 : Int32))) m15))))) ∧ (¬ u14 = 0 → Q (some (.int (12 : Int32))) m14))))) ∧ (¬ u13 = 0 → Q (some (.int (11 : Int32))) m13))))))) : yP (xg xs) (d + 1) 313 0 [(0, .ref 58), (1, .int l1)] [] m Q := by
  refine y_st rfl rfl rfl rfl rfl (fun _ _ => rfl) ?_
  show yP (xg xs) (d + 1) 313 1 [(0, .ref 58), (1, .int l1)] [.int l1] m Q
  by_cases h0 : l1 = (0 : Int32)
  · replace H := H.1 h0
    refine y_tsw (t := 40) rfl rfl (by rw [h0]; rfl) ?_
    clear h0
    refine y_st rfl rfl rfl rfl rfl (fun _ _ => rfl) ?_
    refine y_st rfl rfl rfl rfl rfl (fun _ _ => rfl) ?_
    show yP (xg xs) (d + 1) 313 43 [(0, .ref 58), (1, .int l1)] [.int (30 : Int32), .ref 58] m Q
    refine y_call rfl rfl rfl rfl rfl (Nat.le_of_ble_eq_true rfl) (Nat.le_of_ble_eq_true rfl) rfl (by decide) H (fun v1 m1 H => ?_)
    obtain ⟨u1, rfl, H⟩ := H
    show yP (xg xs) (d + 1) 313 46 [(0, .ref 58), (1, .int l1)] [.int u1] m1 Q
    refine y_zeq (t := 53) rfl rfl rfl (fun h => ?_) (fun h => ?_)
    · replace H := H.1 h; clear h
      refine y_st rfl rfl rfl rfl rfl (fun _ _ => rfl) ?_
      show yP (xg xs) (d + 1) 313 54 [(0, .ref 58), (1, .int l1)] [.int ((-1) : Int32)] m1 Q
      exact y_iret rfl rfl rfl H
    · replace H := H.2 h; clear h
      refine y_st rfl rfl rfl rfl rfl (fun _ _ => rfl) ?_
      refine y_st rfl rfl rfl rfl rfl (fun _ _ => rfl) ?_
      show yP (xg xs) (d + 1) 313 54 [(0, .ref 58), (1, .int l1)] [.int (0 : Int32)] m1 Q
      exact y_iret rfl rfl rfl H
  replace H := H.2
  by_cases h1 : l1 = (1 : Int32)
  · replace H := H.1 h1
    refine y_tsw (t := 55) rfl rfl (by rw [h1]; rfl) ?_
    clear h1 h0
    refine y_st rfl rfl rfl rfl rfl (fun _ _ => rfl) ?_
    refine y_st rfl rfl rfl rfl rfl (fun _ _ => rfl) ?_
    show yP (xg xs) (d + 1) 313 58 [(0, .ref 58), (1, .int l1)] [.int (31 : Int32), .ref 58] m Q
    refine y_call rfl rfl rfl rfl rfl (Nat.le_of_ble_eq_true rfl) (Nat.le_of_ble_eq_true rfl) rfl (by decide) H (fun v2 m2 H => ?_)
    obtain ⟨u2, rfl, H⟩ := H
    show yP (xg xs) (d + 1) 313 61 [(0, .ref 58), (1, .int l1)] [.int u2] m2 Q
    refine y_zeq (t := 68) rfl rfl rfl (fun h => ?_) (fun h => ?_)
    · replace H := H.1 h; clear h
      refine y_st rfl rfl rfl rfl rfl (fun _ _ => rfl) ?_
      show yP (xg xs) (d + 1) 313 69 [(0, .ref 58), (1, .int l1)] [.int ((-1) : Int32)] m2 Q
      exact y_iret rfl rfl rfl H
    · replace H := H.2 h; clear h
      refine y_st rfl rfl rfl rfl rfl (fun _ _ => rfl) ?_
      refine y_st rfl rfl rfl rfl rfl (fun _ _ => rfl) ?_
      show yP (xg xs) (d + 1) 313 69 [(0, .ref 58), (1, .int l1)] [.int (1 : Int32)] m2 Q
      exact y_iret rfl rfl rfl H
  replace H := H.2
  by_cases h2 : l1 = (2 : Int32)
  · replace H := H.1 h2
    refine y_tsw (t := 70) rfl rfl (by rw [h2]; rfl) ?_
    clear h2 h1 h0
    refine y_st rfl rfl rfl rfl rfl (fun _ _ => rfl) ?_
    refine y_st rfl rfl rfl rfl rfl (fun _ _ => rfl) ?_
    show yP (xg xs) (d + 1) 313 73 [(0, .ref 58), (1, .int l1)] [.int (32 : Int32), .ref 58] m Q
    refine y_call rfl rfl rfl rfl rfl (Nat.le_of_ble_eq_true rfl) (Nat.le_of_ble_eq_true rfl) rfl (by decide) H (fun v3 m3 H => ?_)
    obtain ⟨u3, rfl, H⟩ := H
    show yP (xg xs) (d + 1) 313 76 [(0, .ref 58), (1, .int l1)] [.int u3] m3 Q
    refine y_zne (t := 88) rfl rfl rfl (fun h => ?_) (fun h => ?_)
    · replace H := H.1 h; clear h
      refine y_st rfl rfl rfl rfl rfl (fun _ _ => rfl) ?_
      refine y_st rfl rfl rfl rfl rfl (fun _ _ => rfl) ?_
      show yP (xg xs) (d + 1) 313 93 [(0, .ref 58), (1, .int l1)] [.int (2 : Int32)] m3 Q
      exact y_iret rfl rfl rfl H
    · replace H := H.2 h; clear h
      refine y_st rfl rfl rfl rfl rfl (fun _ _ => rfl) ?_
      refine y_st rfl rfl rfl rfl rfl (fun _ _ => rfl) ?_
      show yP (xg xs) (d + 1) 313 82 [(0, .ref 58), (1, .int l1)] [.int (38 : Int32), .ref 58] m3 Q
      refine y_call rfl rfl rfl rfl rfl (Nat.le_of_ble_eq_true rfl) (Nat.le_of_ble_eq_true rfl) rfl (by decide) H (fun v4 m4 H => ?_)
      obtain ⟨u4, rfl, H⟩ := H
      show yP (xg xs) (d + 1) 313 85 [(0, .ref 58), (1, .int l1)] [.int u4] m4 Q
      refine y_zeq (t := 92) rfl rfl rfl (fun h => ?_) (fun h => ?_)
      · replace H := H.1 h; clear h
        refine y_st rfl rfl rfl rfl rfl (fun _ _ => rfl) ?_
        show yP (xg xs) (d + 1) 313 93 [(0, .ref 58), (1, .int l1)] [.int ((-1) : Int32)] m4 Q
        exact y_iret rfl rfl rfl H
      · replace H := H.2 h; clear h
        refine y_st rfl rfl rfl rfl rfl (fun _ _ => rfl) ?_
        refine y_st rfl rfl rfl rfl rfl (fun _ _ => rfl) ?_
        show yP (xg xs) (d + 1) 313 93 [(0, .ref 58), (1, .int l1)] [.int (2 : Int32)] m4 Q
        exact y_iret rfl rfl rfl H
  replace H := H.2
  by_cases h3 : l1 = (3 : Int32)
  · replace H := H.1 h3
    refine y_tsw (t := 94) rfl rfl (by rw [h3]; rfl) ?_
    clear h3 h2 h1 h0
    refine y_st rfl rfl rfl rfl rfl (fun _ _ => rfl) ?_
    refine y_st rfl rfl rfl rfl rfl (fun _ _ => rfl) ?_
    show yP (xg xs) (d + 1) 313 97 [(0, .ref 58), (1, .int l1)] [.int (61 : Int32), .ref 58] m Q
    refine y_call rfl rfl rfl rfl rfl (Nat.le_of_ble_eq_true rfl) (Nat.le_of_ble_eq_true rfl) rfl (by decide) H (fun v5 m5 H => ?_)
    obtain ⟨u5, rfl, H⟩ := H
    show yP (xg xs) (d + 1) 313 100 [(0, .ref 58), (1, .int l1)] [.int u5] m5 Q
    refine y_zeq (t := 107) rfl rfl rfl (fun h => ?_) (fun h => ?_)
    · replace H := H.1 h; clear h
      refine y_st rfl rfl rfl rfl rfl (fun _ _ => rfl) ?_
      refine y_st rfl rfl rfl rfl rfl (fun _ _ => rfl) ?_
      show yP (xg xs) (d + 1) 313 109 [(0, .ref 58), (1, .int l1)] [.int (5 : Int32), .ref 58] m5 Q
      refine y_call rfl rfl rfl rfl rfl (Nat.le_of_ble_eq_true rfl) (Nat.le_of_ble_eq_true rfl) rfl (by decide) H (fun v6 m6 H => ?_)
      obtain ⟨u6, rfl, H⟩ := H
      show yP (xg xs) (d + 1) 313 112 [(0, .ref 58), (1, .int l1)] [.int u6] m6 Q
      refine y_zeq (t := 119) rfl rfl rfl (fun h => ?_) (fun h => ?_)
      · replace H := H.1 h; clear h
        refine y_st rfl rfl rfl rfl rfl (fun _ _ => rfl) ?_
        show yP (xg xs) (d + 1) 313 120 [(0, .ref 58), (1, .int l1)] [.int ((-1) : Int32)] m6 Q
        exact y_iret rfl rfl rfl H
      · replace H := H.2 h; clear h
        refine y_st rfl rfl rfl rfl rfl (fun _ _ => rfl) ?_
        refine y_st rfl rfl rfl rfl rfl (fun _ _ => rfl) ?_
        show yP (xg xs) (d + 1) 313 120 [(0, .ref 58), (1, .int l1)] [.int (4 : Int32)] m6 Q
        exact y_iret rfl rfl rfl H
    · replace H := H.2 h; clear h
      refine y_st rfl rfl rfl rfl rfl (fun _ _ => rfl) ?_
      refine y_st rfl rfl rfl rfl rfl (fun _ _ => rfl) ?_
      show yP (xg xs) (d + 1) 313 120 [(0, .ref 58), (1, .int l1)] [.int (3 : Int32)] m5 Q
      exact y_iret rfl rfl rfl H
  replace H := H.2
  by_cases h4 : l1 = (4 : Int32)
  · replace H := H.1 h4
    refine y_tsw (t := 121) rfl rfl (by rw [h4]; rfl) ?_
    clear h4 h3 h2 h1 h0
    refine y_st rfl rfl rfl rfl rfl (fun _ _ => rfl) ?_
    refine y_st rfl rfl rfl rfl rfl (fun _ _ => rfl) ?_
    show yP (xg xs) (d + 1) 313 124 [(0, .ref 58), (1, .int l1)] [.int (60 : Int32), .ref 58] m Q
    refine y_call rfl rfl rfl rfl rfl (Nat.le_of_ble_eq_true rfl) (Nat.le_of_ble_eq_true rfl) rfl (by decide) H (fun v7 m7 H => ?_)
    obtain ⟨u7, rfl, H⟩ := H
    show yP (xg xs) (d + 1) 313 127 [(0, .ref 58), (1, .int l1)] [.int u7] m7 Q
    refine y_zeq (t := 134) rfl rfl rfl (fun h => ?_) (fun h => ?_)
    · replace H := H.1 h; clear h
      refine y_st rfl rfl rfl rfl rfl (fun _ _ => rfl) ?_
      refine y_st rfl rfl rfl rfl rfl (fun _ _ => rfl) ?_
      show yP (xg xs) (d + 1) 313 137 [(0, .ref 58), (1, .int l1)] [.int (62 : Int32), .ref 58] m7 Q
      refine y_call rfl rfl rfl rfl rfl (Nat.le_of_ble_eq_true rfl) (Nat.le_of_ble_eq_true rfl) rfl (by decide) H (fun v8 m8 H => ?_)
      obtain ⟨u8, rfl, H⟩ := H
      show yP (xg xs) (d + 1) 313 140 [(0, .ref 58), (1, .int l1)] [.int u8] m8 Q
      refine y_zeq (t := 148) rfl rfl rfl (fun h => ?_) (fun h => ?_)
      · replace H := H.1 h; clear h
        refine y_st rfl rfl rfl rfl rfl (fun _ _ => rfl) ?_
        refine y_st rfl rfl rfl rfl rfl (fun _ _ => rfl) ?_
        show yP (xg xs) (d + 1) 313 150 [(0, .ref 58), (1, .int l1)] [.int (3 : Int32), .ref 58] m8 Q
        refine y_call rfl rfl rfl rfl rfl (Nat.le_of_ble_eq_true rfl) (Nat.le_of_ble_eq_true rfl) rfl (by decide) H (fun v9 m9 H => ?_)
        obtain ⟨u9, rfl, H⟩ := H
        show yP (xg xs) (d + 1) 313 153 [(0, .ref 58), (1, .int l1)] [.int u9] m9 Q
        refine y_zeq (t := 161) rfl rfl rfl (fun h => ?_) (fun h => ?_)
        · replace H := H.1 h; clear h
          refine y_st rfl rfl rfl rfl rfl (fun _ _ => rfl) ?_
          refine y_st rfl rfl rfl rfl rfl (fun _ _ => rfl) ?_
          show yP (xg xs) (d + 1) 313 163 [(0, .ref 58), (1, .int l1)] [.int (4 : Int32), .ref 58] m9 Q
          refine y_call rfl rfl rfl rfl rfl (Nat.le_of_ble_eq_true rfl) (Nat.le_of_ble_eq_true rfl) rfl (by decide) H (fun v10 m10 H => ?_)
          obtain ⟨u10, rfl, H⟩ := H
          show yP (xg xs) (d + 1) 313 166 [(0, .ref 58), (1, .int l1)] [.int u10] m10 Q
          refine y_zeq (t := 174) rfl rfl rfl (fun h => ?_) (fun h => ?_)
          · replace H := H.1 h; clear h
            refine y_st rfl rfl rfl rfl rfl (fun _ _ => rfl) ?_
            show yP (xg xs) (d + 1) 313 175 [(0, .ref 58), (1, .int l1)] [.int ((-1) : Int32)] m10 Q
            exact y_iret rfl rfl rfl H
          · replace H := H.2 h; clear h
            refine y_st rfl rfl rfl rfl rfl (fun _ _ => rfl) ?_
            refine y_st rfl rfl rfl rfl rfl (fun _ _ => rfl) ?_
            show yP (xg xs) (d + 1) 313 175 [(0, .ref 58), (1, .int l1)] [.int (8 : Int32)] m10 Q
            exact y_iret rfl rfl rfl H
        · replace H := H.2 h; clear h
          refine y_st rfl rfl rfl rfl rfl (fun _ _ => rfl) ?_
          refine y_st rfl rfl rfl rfl rfl (fun _ _ => rfl) ?_
          show yP (xg xs) (d + 1) 313 175 [(0, .ref 58), (1, .int l1)] [.int (7 : Int32)] m9 Q
          exact y_iret rfl rfl rfl H
      · replace H := H.2 h; clear h
        refine y_st rfl rfl rfl rfl rfl (fun _ _ => rfl) ?_
        refine y_st rfl rfl rfl rfl rfl (fun _ _ => rfl) ?_
        show yP (xg xs) (d + 1) 313 175 [(0, .ref 58), (1, .int l1)] [.int (6 : Int32)] m8 Q
        exact y_iret rfl rfl rfl H
    · replace H := H.2 h; clear h
      refine y_st rfl rfl rfl rfl rfl (fun _ _ => rfl) ?_
      refine y_st rfl rfl rfl rfl rfl (fun _ _ => rfl) ?_
      show yP (xg xs) (d + 1) 313 175 [(0, .ref 58), (1, .int l1)] [.int (5 : Int32)] m7 Q
      exact y_iret rfl rfl rfl H
  replace H := H.2
  by_cases h5 : l1 = (5 : Int32)
  · replace H := H.1 h5
    refine y_tsw (t := 176) rfl rfl (by rw [h5]; rfl) ?_
    clear h5 h4 h3 h2 h1 h0
    refine y_st rfl rfl rfl rfl rfl (fun _ _ => rfl) ?_
    refine y_st rfl rfl rfl rfl rfl (fun _ _ => rfl) ?_
    show yP (xg xs) (d + 1) 313 179 [(0, .ref 58), (1, .int l1)] [.int (43 : Int32), .ref 58] m Q
    refine y_call rfl rfl rfl rfl rfl (Nat.le_of_ble_eq_true rfl) (Nat.le_of_ble_eq_true rfl) rfl (by decide) H (fun v11 m11 H => ?_)
    obtain ⟨u11, rfl, H⟩ := H
    show yP (xg xs) (d + 1) 313 182 [(0, .ref 58), (1, .int l1)] [.int u11] m11 Q
    refine y_zeq (t := 190) rfl rfl rfl (fun h => ?_) (fun h => ?_)
    · replace H := H.1 h; clear h
      refine y_st rfl rfl rfl rfl rfl (fun _ _ => rfl) ?_
      refine y_st rfl rfl rfl rfl rfl (fun _ _ => rfl) ?_
      show yP (xg xs) (d + 1) 313 193 [(0, .ref 58), (1, .int l1)] [.int (45 : Int32), .ref 58] m11 Q
      refine y_call rfl rfl rfl rfl rfl (Nat.le_of_ble_eq_true rfl) (Nat.le_of_ble_eq_true rfl) rfl (by decide) H (fun v12 m12 H => ?_)
      obtain ⟨u12, rfl, H⟩ := H
      show yP (xg xs) (d + 1) 313 196 [(0, .ref 58), (1, .int l1)] [.int u12] m12 Q
      refine y_zeq (t := 204) rfl rfl rfl (fun h => ?_) (fun h => ?_)
      · replace H := H.1 h; clear h
        refine y_st rfl rfl rfl rfl rfl (fun _ _ => rfl) ?_
        show yP (xg xs) (d + 1) 313 205 [(0, .ref 58), (1, .int l1)] [.int ((-1) : Int32)] m12 Q
        exact y_iret rfl rfl rfl H
      · replace H := H.2 h; clear h
        refine y_st rfl rfl rfl rfl rfl (fun _ _ => rfl) ?_
        refine y_st rfl rfl rfl rfl rfl (fun _ _ => rfl) ?_
        show yP (xg xs) (d + 1) 313 205 [(0, .ref 58), (1, .int l1)] [.int (10 : Int32)] m12 Q
        exact y_iret rfl rfl rfl H
    · replace H := H.2 h; clear h
      refine y_st rfl rfl rfl rfl rfl (fun _ _ => rfl) ?_
      refine y_st rfl rfl rfl rfl rfl (fun _ _ => rfl) ?_
      show yP (xg xs) (d + 1) 313 205 [(0, .ref 58), (1, .int l1)] [.int (9 : Int32)] m11 Q
      exact y_iret rfl rfl rfl H
  replace H := H.2
  refine y_tsw (t := 206) rfl rfl ((if_pos (by have g0 := ne_lit (0 : Int32) 0 rfl h0; have g1 := ne_lit (1 : Int32) 1 rfl h1; have g2 := ne_lit (2 : Int32) 2 rfl h2; have g3 := ne_lit (3 : Int32) 3 rfl h3; have g4 := ne_lit (4 : Int32) 4 rfl h4; have g5 := ne_lit (5 : Int32) 5 rfl h5; omega)).trans rfl) ?_
  replace H := H h0 h1 h2 h3 h4 h5
  clear h5 h4 h3 h2 h1 h0
  refine y_st rfl rfl rfl rfl rfl (fun _ _ => rfl) ?_
  refine y_st rfl rfl rfl rfl rfl (fun _ _ => rfl) ?_
  show yP (xg xs) (d + 1) 313 209 [(0, .ref 58), (1, .int l1)] [.int (42 : Int32), .ref 58] m Q
  refine y_call rfl rfl rfl rfl rfl (Nat.le_of_ble_eq_true rfl) (Nat.le_of_ble_eq_true rfl) rfl (by decide) H (fun v13 m13 H => ?_)
  obtain ⟨u13, rfl, H⟩ := H
  show yP (xg xs) (d + 1) 313 212 [(0, .ref 58), (1, .int l1)] [.int u13] m13 Q
  refine y_zeq (t := 220) rfl rfl rfl (fun h => ?_) (fun h => ?_)
  · replace H := H.1 h; clear h
    refine y_st rfl rfl rfl rfl rfl (fun _ _ => rfl) ?_
    refine y_st rfl rfl rfl rfl rfl (fun _ _ => rfl) ?_
    show yP (xg xs) (d + 1) 313 223 [(0, .ref 58), (1, .int l1)] [.int (47 : Int32), .ref 58] m13 Q
    refine y_call rfl rfl rfl rfl rfl (Nat.le_of_ble_eq_true rfl) (Nat.le_of_ble_eq_true rfl) rfl (by decide) H (fun v14 m14 H => ?_)
    obtain ⟨u14, rfl, H⟩ := H
    show yP (xg xs) (d + 1) 313 226 [(0, .ref 58), (1, .int l1)] [.int u14] m14 Q
    refine y_zeq (t := 234) rfl rfl rfl (fun h => ?_) (fun h => ?_)
    · replace H := H.1 h; clear h
      refine y_st rfl rfl rfl rfl rfl (fun _ _ => rfl) ?_
      refine y_st rfl rfl rfl rfl rfl (fun _ _ => rfl) ?_
      show yP (xg xs) (d + 1) 313 237 [(0, .ref 58), (1, .int l1)] [.int (33 : Int32), .ref 58] m14 Q
      refine y_call rfl rfl rfl rfl rfl (Nat.le_of_ble_eq_true rfl) (Nat.le_of_ble_eq_true rfl) rfl (by decide) H (fun v15 m15 H => ?_)
      obtain ⟨u15, rfl, H⟩ := H
      show yP (xg xs) (d + 1) 313 240 [(0, .ref 58), (1, .int l1)] [.int u15] m15 Q
      refine y_zeq (t := 248) rfl rfl rfl (fun h => ?_) (fun h => ?_)
      · replace H := H.1 h; clear h
        refine y_st rfl rfl rfl rfl rfl (fun _ _ => rfl) ?_
        show yP (xg xs) (d + 1) 313 249 [(0, .ref 58), (1, .int l1)] [.int ((-1) : Int32)] m15 Q
        exact y_iret rfl rfl rfl H
      · replace H := H.2 h; clear h
        refine y_st rfl rfl rfl rfl rfl (fun _ _ => rfl) ?_
        refine y_st rfl rfl rfl rfl rfl (fun _ _ => rfl) ?_
        show yP (xg xs) (d + 1) 313 249 [(0, .ref 58), (1, .int l1)] [.int (13 : Int32)] m15 Q
        exact y_iret rfl rfl rfl H
    · replace H := H.2 h; clear h
      refine y_st rfl rfl rfl rfl rfl (fun _ _ => rfl) ?_
      refine y_st rfl rfl rfl rfl rfl (fun _ _ => rfl) ?_
      show yP (xg xs) (d + 1) 313 249 [(0, .ref 58), (1, .int l1)] [.int (12 : Int32)] m14 Q
      exact y_iret rfl rfl rfl H
  · replace H := H.2 h; clear h
    refine y_st rfl rfl rfl rfl rfl (fun _ _ => rfl) ?_
    refine y_st rfl rfl rfl rfl rfl (fun _ _ => rfl) ?_
    show yP (xg xs) (d + 1) 313 249 [(0, .ref 58), (1, .int l1)] [.int (11 : Int32)] m13 Q
    exact y_iret rfl rfl rfl H
set_option maxRecDepth 20000 in
/-- CodeMakerModel.readCase from 0 on -/
theorem w314_0 (xs : List Int32) (d : Nat) (m : yM) (Q : Option Value → yM → Prop) (H : (yC (xg xs) d 271 [.ref 58, .int (16 : Int32), .int (m.1 58 8), .int (0 : Int32)] m (fun v1 m1 => ∃ u1, v1 = some (Value.int u1) ∧ (yC (xg xs) d 307 [.ref 58] m1 (fun v2 m2 => v2 = none ∧ (yC (xg xs) d 272 [.ref 58] m2 (fun v3 m3 => v3 = none ∧ (yC (xg xs) d 308 [.ref 58] m3 (fun v4 m4 => ∃ u4, v4 = some (Value.int u4) ∧ (yC (xg xs) d 297 [.ref 58, .int u1, .int u4] m4 (fun v5 m5 => v5 = none ∧ (yC (xg xs) d 302 [.ref 58, .int (15 : Int32)] m5 (fun v6 m6 => v6 = none ∧ yP (xg xs) (d + 1) 314 35 [(0, .ref 58), (1, .int u1)] [] m6 Q))))))))))))) : yP (xg xs) (d + 1) 314 0 [(0, .ref 58)] [] m Q := by
  refine y_st rfl rfl rfl rfl rfl (fun _ _ => rfl) ?_
  refine y_st rfl rfl rfl rfl rfl (fun _ _ => rfl) ?_
  refine y_st rfl rfl rfl rfl rfl (fun _ _ => rfl) ?_
  refine y_gf rfl rfl rfl rfl rfl ?_
  refine y_st rfl rfl rfl rfl rfl (fun _ _ => rfl) ?_
  show yP (xg xs) (d + 1) 314 8 [(0, .ref 58)] [.int (0 : Int32), .int (m.1 58 8), .int (16 : Int32), .ref 58] m Q
  refine y_call rfl rfl rfl rfl rfl (Nat.le_of_ble_eq_true rfl) (Nat.le_of_ble_eq_true rfl) rfl (by decide) H (fun v1 m1 H => ?_)
  obtain ⟨u1, rfl, H⟩ := H
  refine y_st rfl rfl rfl rfl rfl (fun _ _ => rfl) ?_
  refine y_st rfl rfl rfl rfl rfl (fun _ _ => rfl) ?_
  show yP (xg xs) (d + 1) 314 13 [(1, .int u1), (0, .ref 58)] [.ref 58] m1 Q
  refine y_call rfl rfl rfl rfl rfl (Nat.le_of_ble_eq_true rfl) (Nat.le_of_ble_eq_true rfl) rfl (by decide) H (fun v2 m2 H => ?_)
  obtain ⟨rfl, H⟩ := H
  refine y_st rfl rfl rfl rfl rfl (fun _ _ => rfl) ?_
  show yP (xg xs) (d + 1) 314 17 [(1, .int u1), (0, .ref 58)] [.ref 58] m2 Q
  refine y_call rfl rfl rfl rfl rfl (Nat.le_of_ble_eq_true rfl) (Nat.le_of_ble_eq_true rfl) rfl (by decide) H (fun v3 m3 H => ?_)
  obtain ⟨rfl, H⟩ := H
  refine y_st rfl rfl rfl rfl rfl (fun _ _ => rfl) ?_
  refine y_st rfl rfl rfl rfl rfl (fun _ _ => rfl) ?_
  refine y_st rfl rfl rfl rfl rfl (fun _ _ => rfl) ?_
  show yP (xg xs) (d + 1) 314 23 [(1, .int u1), (0, .ref 58)] [.ref 58, .int u1, .ref 58] m3 Q
  refine y_call rfl rfl rfl rfl rfl (Nat.le_of_ble_eq_true rfl) (Nat.le_of_ble_eq_true rfl) rfl (by decide) H (fun v4 m4 H => ?_)
  obtain ⟨u4, rfl, H⟩ := H
  show yP (xg xs) (d + 1) 314 26 [(1, .int u1), (0, .ref 58)] [.int u4, .int u1, .ref 58] m4 Q
  refine y_call rfl rfl rfl rfl rfl (Nat.le_of_ble_eq_true rfl) (Nat.le_of_ble_eq_true rfl) rfl (by decide) H (fun v5 m5 H => ?_)
  obtain ⟨rfl, H⟩ := H
  refine y_st rfl rfl rfl rfl rfl (fun _ _ => rfl) ?_
  refine y_st rfl rfl rfl rfl rfl (fun _ _ => rfl) ?_
  show yP (xg xs) (d + 1) 314 32 [(1, .int u1), (0, .ref 58)] [.int (15 : Int32), .ref 58] m5 Q
  refine y_call rfl rfl rfl rfl rfl (Nat.le_of_ble_eq_true rfl) (Nat.le_of_ble_eq_true rfl) rfl (by decide) H (fun v6 m6 H => ?_)
  obtain ⟨rfl, H⟩ := H
  show yP (xg xs) (d + 1) 314 35 [(1, .int u1), (0, .ref 58)] [] m6 Q
  refine y_headS (l2 := [(0, .ref 58), (1, .int u1)]) [1, 0] [0, 1] [1, 0] rfl rfl (by decide) rfl (by decide) ?_
  exact H
set_option maxRecDepth 20000 in
/-- CodeMakerModel.readCase from 35 on -/
theorem w314_35 (xs : List Int32) (d : Nat) (l1 : Int32) (m : yM) (Q : Option Value → yM → Prop) (H : ((¬ (m.1 58 3) = 0 → yP (xg xs) (d + 1) 314 89 [(0, .ref 58), (1, .int l1)] [] m Q) ∧ ((m.1 58 3) = 0 → (((m.1 58 6) = (3 : Int32) → yP (xg xs) (d + 1) 314 77 [(0, .ref 58), (1, .int l1)] [] m Q) ∧ (¬ (m.1 58 6) = (3 : Int32) → (yC (xg xs) d 295 [.ref 58, .int (45 : Int32)] m (fun v1 m1 => ∃ u1, v1 = some (Value.int u1) ∧ ((¬ u1 = 0 → yP (xg xs) (d + 1) 314 77 [(0, .ref 58), (1, .int l1)] [] m1 Q) ∧ (u1 = 0 → (yC (xg xs) d 290 [.ref 58, .int (35 : Int32)] m1 (fun v2 m2 => ∃ u2, v2 = some (Value.int u2) ∧ ((¬ u2 = 0 → yP (xg xs) (d + 1) 314 77 [(0, .ref 58), (1, .int l1)] [] m2 Q) ∧ (u2 = 0 → (yC (xg xs) d 290 [.ref 58, .int (36 : Int32)] m2 (fun v3 m3 => ∃ u3, v3 = some (Value.int u3) ∧ ((u3 = 0 → yP (xg xs) (d + 1) 314 89 [(0, .ref 58), (1, .int l1)] [] m3 Q) ∧ (¬ u3 = 0 → yP (xg xs) (d + 1) 314 77 [(0, .ref 58), (1, .int l1)] [] m3 Q))))))))))))))))) : yP (xg xs) (d + 1) 314 35 [(0, .ref 58), (1, .int l1)] [] m Q := by
  refine y_st rfl rfl rfl rfl rfl (fun _ _ => rfl) ?_
  refine y_gf rfl rfl rfl rfl rfl ?_
  show yP (xg xs) (d + 1) 314 39 [(0, .ref 58), (1, .int l1)] [.int (m.1 58 3)] m Q
  refine y_zne (t := 89) rfl rfl rfl (fun h => ?_) (fun h => ?_)
  · replace H := H.1 h; clear h
    show yP (xg xs) (d + 1) 314 89 [(0, .ref 58), (1, .int l1)] [] m Q
    exact H
  · replace H := H.2 h; clear h
    refine y_st rfl rfl rfl rfl rfl (fun _ _ => rfl) ?_
    refine y_gf rfl rfl rfl rfl rfl ?_
    refine y_st rfl rfl rfl rfl rfl (fun _ _ => rfl) ?_
    show yP (xg xs) (d + 1) 314 47 [(0, .ref 58), (1, .int l1)] [.int (3 : Int32), .int (m.1 58 6)] m Q
    refine y_ieq (t := 77) rfl rfl rfl (fun h => ?_) (fun h => ?_)
    · replace H := H.1 h; clear h
      show yP (xg xs) (d + 1) 314 77 [(0, .ref 58), (1, .int l1)] [] m Q
      exact H
    · replace H := H.2 h; clear h
      refine y_st rfl rfl rfl rfl rfl (fun _ _ => rfl) ?_
      refine y_st rfl rfl rfl rfl rfl (fun _ _ => rfl) ?_
      show yP (xg xs) (d + 1) 314 53 [(0, .ref 58), (1, .int l1)] [.int (45 : Int32), .ref 58] m Q
      refine y_call rfl rfl rfl rfl rfl (Nat.le_of_ble_eq_true rfl) (Nat.le_of_ble_eq_true rfl) rfl (by decide) H (fun v1 m1 H => ?_)
      obtain ⟨u1, rfl, H⟩ := H
      show yP (xg xs) (d + 1) 314 56 [(0, .ref 58), (1, .int l1)] [.int u1] m1 Q
      refine y_zne (t := 77) rfl rfl rfl (fun h => ?_) (fun h => ?_)
      · replace H := H.1 h; clear h
        show yP (xg xs) (d + 1) 314 77 [(0, .ref 58), (1, .int l1)] [] m1 Q
        exact H
      · replace H := H.2 h; clear h
        refine y_st rfl rfl rfl rfl rfl (fun _ _ => rfl) ?_
        refine y_st rfl rfl rfl rfl rfl (fun _ _ => rfl) ?_
        show yP (xg xs) (d + 1) 314 62 [(0, .ref 58), (1, .int l1)] [.int (35 : Int32), .ref 58] m1 Q
        refine y_call rfl rfl rfl rfl rfl (Nat.le_of_ble_eq_true rfl) (Nat.le_of_ble_eq_true rfl) rfl (by decide) H (fun v2 m2 H => ?_)
        obtain ⟨u2, rfl, H⟩ := H
        show yP (xg xs) (d + 1) 314 65 [(0, .ref 58), (1, .int l1)] [.int u2] m2 Q
        refine y_zne (t := 77) rfl rfl rfl (fun h => ?_) (fun h => ?_)
        · replace H := H.1 h; clear h
          show yP (xg xs) (d + 1) 314 77 [(0, .ref 58), (1, .int l1)] [] m2 Q
          exact H
        · replace H := H.2 h; clear h
          refine y_st rfl rfl rfl rfl rfl (fun _ _ => rfl) ?_
          refine y_st rfl rfl rfl rfl rfl (fun _ _ => rfl) ?_
          show yP (xg xs) (d + 1) 314 71 [(0, .ref 58), (1, .int l1)] [.int (36 : Int32), .ref 58] m2 Q
          refine y_call rfl rfl rfl rfl rfl (Nat.le_of_ble_eq_true rfl) (Nat.le_of_ble_eq_true rfl) rfl (by decide) H (fun v3 m3 H => ?_)
          obtain ⟨u3, rfl, H⟩ := H
          show yP (xg xs) (d + 1) 314 74 [(0, .ref 58), (1, .int l1)] [.int u3] m3 Q
          refine y_zeq (t := 89) rfl rfl rfl (fun h => ?_) (fun h => ?_)
          · replace H := H.1 h; clear h
            show yP (xg xs) (d + 1) 314 89 [(0, .ref 58), (1, .int l1)] [] m3 Q
            exact H
          · replace H := H.2 h; clear h
            show yP (xg xs) (d + 1) 314 77 [(0, .ref 58), (1, .int l1)] [] m3 Q
            exact H
set_option maxRecDepth 20000 in
/-- CodeMakerModel.readCase from 77 on -/
theorem w314_77 (xs : List Int32) (d : Nat) (l1 : Int32) (m : yM) (Q : Option Value → yM → Prop) (H : (yC (xg xs) d 315 [.ref 58] m (fun v1 m1 => ∃ u1, v1 = some (Value.int u1) ∧ (yC (xg xs) d 297 [.ref 58, .int l1, .int u1] m1 (fun v2 m2 => v2 = none ∧ yP (xg xs) (d + 1) 314 35 [(0, .ref 58), (1, .int l1)] [] m2 Q))))) : yP (xg xs) (d + 1) 314 77 [(0, .ref 58), (1, .int l1)] [] m Q := by
  refine y_st rfl rfl rfl rfl rfl (fun _ _ => rfl) ?_
  refine y_st rfl rfl rfl rfl rfl (fun _ _ => rfl) ?_
  refine y_st rfl rfl rfl rfl rfl (fun _ _ => rfl) ?_
  show yP (xg xs) (d + 1) 314 80 [(0, .ref 58), (1, .int l1)] [.ref 58, .int l1, .ref 58] m Q
  refine y_call rfl rfl rfl rfl rfl (Nat.le_of_ble_eq_true rfl) (Nat.le_of_ble_eq_true rfl) rfl (by decide) H (fun v1 m1 H => ?_)
  obtain ⟨u1, rfl, H⟩ := H
  show yP (xg xs) (d + 1) 314 83 [(0, .ref 58), (1, .int l1)] [.int u1, .int l1, .ref 58] m1 Q
  refine y_call rfl rfl rfl rfl rfl (Nat.le_of_ble_eq_true rfl) (Nat.le_of_ble_eq_true rfl) rfl (by decide) H (fun v2 m2 H => ?_)
  obtain ⟨rfl, H⟩ := H
  refine y_st rfl rfl rfl rfl rfl (fun _ _ => rfl) ?_
  show yP (xg xs) (d + 1) 314 35 [(0, .ref 58), (1, .int l1)] [] m2 Q
  exact H
set_option maxRecDepth 20000 in
/-- CodeMakerModel.readCase from 89 on -/
theorem w314_89 (xs : List Int32) (d : Nat) (l1 : Int32) (m : yM) (Q : Option Value → yM → Prop) (H : (yC (xg xs) d 290 [.ref 58, .int (19 : Int32)] m (fun v1 m1 => ∃ u1, v1 = some (Value.int u1) ∧ ((u1 = 0 → yP (xg xs) (d + 1) 314 111 [(0, .ref 58), (1, .int l1)] [] m1 Q) ∧ (¬ u1 = 0 → (yC (xg xs) d 272 [.ref 58] m1 (fun v2 m2 => v2 = none ∧ (yC (xg xs) d 304 [.ref 58] m2 (fun v3 m3 => ∃ u3, v3 = some (Value.int u3) ∧ (yC (xg xs) d 297 [.ref 58, .int l1, .int u3] m3 (fun v4 m4 => v4 = none ∧ yP (xg xs) (d + 1) 314 111 [(0, .ref 58), (1, .int l1)] [] m4 Q))))))))))) : yP (xg xs) (d + 1) 314 89 [(0, .ref 58), (1, .int l1)] [] m Q := by
  refine y_st rfl rfl rfl rfl rfl (fun _ _ => rfl) ?_
  refine y_st rfl rfl rfl rfl rfl (fun _ _ => rfl) ?_
  show yP (xg xs) (d + 1) 314 92 [(0, .ref 58), (1, .int l1)] [.int (19 : Int32), .ref 58] m Q
  refine y_call rfl rfl rfl rfl rfl (Nat.le_of_ble_eq_true rfl) (Nat.le_of_ble_eq_true rfl) rfl (by decide) H (fun v1 m1 H => ?_)
  obtain ⟨u1, rfl, H⟩ := H
  show yP (xg xs) (d + 1) 314 95 [(0, .ref 58), (1, .int l1)] [.int u1] m1 Q
  refine y_zeq (t := 111) rfl rfl rfl (fun h => ?_) (fun h => ?_)
  · replace H := H.1 h; clear h
    show yP (xg xs) (d + 1) 314 111 [(0, .ref 58), (1, .int l1)] [] m1 Q
    exact H
  · replace H := H.2 h; clear h
    refine y_st rfl rfl rfl rfl rfl (fun _ _ => rfl) ?_
    show yP (xg xs) (d + 1) 314 99 [(0, .ref 58), (1, .int l1)] [.ref 58] m1 Q
    refine y_call rfl rfl rfl rfl rfl (Nat.le_of_ble_eq_true rfl) (Nat.le_of_ble_eq_true rfl) rfl (by decide) H (fun v2 m2 H => ?_)
    obtain ⟨rfl, H⟩ := H
    refine y_st rfl rfl rfl rfl rfl (fun _ _ => rfl) ?_
    refine y_st rfl rfl rfl rfl rfl (fun _ _ => rfl) ?_
    refine y_st rfl rfl rfl rfl rfl (fun _ _ => rfl) ?_
    show yP (xg xs) (d + 1) 314 105 [(0, .ref 58), (1, .int l1)] [.ref 58, .int l1, .ref 58] m2 Q
    refine y_call rfl rfl rfl rfl rfl (Nat.le_of_ble_eq_true rfl) (Nat.le_of_ble_eq_true rfl) rfl (by decide) H (fun v3 m3 H => ?_)
    obtain ⟨u3, rfl, H⟩ := H
    show yP (xg xs) (d + 1) 314 108 [(0, .ref 58), (1, .int l1)] [.int u3, .int l1, .ref 58] m3 Q
    refine y_call rfl rfl rfl rfl rfl (Nat.le_of_ble_eq_true rfl) (Nat.le_of_ble_eq_true rfl) rfl (by decide) H (fun v4 m4 H => ?_)
    obtain ⟨rfl, H⟩ := H
    show yP (xg xs) (d + 1) 314 111 [(0, .ref 58), (1, .int l1)] [] m4 Q
    exact H
set_option maxRecDepth 20000 in
/-- CodeMakerModel.readCase from 111 on -/
theorem w314_111 (xs : List Int32) (d : Nat) (l1 : Int32) (m : yM) (Q : Option Value → yM → Prop) (H : (yC (xg xs) d 302 [.ref 58, .int (22 : Int32)] m (fun v1 m1 => v1 = none ∧ Q (some (.int l1)) (y_si m1 58 22 ((m1.1 58 22) - (1 : Int32)))))) : yP (xg xs) (d + 1) 314 111 [(0, .ref 58), (1, .int l1)] [] m Q := by
  refine y_st rfl rfl rfl rfl rfl (fun _ _ => rfl) ?_
  refine y_st rfl rfl rfl rfl rfl (fun _ _ => rfl) ?_
  show yP (xg xs) (d + 1) 314 114 [(0, .ref 58), (1, .int l1)] [.int (22 : Int32), .ref 58] m Q
  refine y_call rfl rfl rfl rfl rfl (Nat.le_of_ble_eq_true rfl) (Nat.le_of_ble_eq_true rfl) rfl (by decide) H (fun v1 m1 H => ?_)
  obtain ⟨rfl, H⟩ := H
  refine y_st rfl rfl rfl rfl rfl (fun _ _ => rfl) ?_
  refine y_st rfl rfl rfl rfl rfl (fun _ _ => rfl) ?_
  refine y_gf rfl rfl rfl rfl rfl ?_
  refine y_st rfl rfl rfl rfl rfl (fun _ _ => rfl) ?_
  refine y_st rfl rfl rfl rfl rfl (fun _ _ => rfl) ?_
  refine y_pfi rfl rfl rfl rfl rfl (x_fit_i _) ?_
  show yP (xg xs) (d + 1) 314 127 [(0, .ref 58), (1, .int l1)] [] (y_si m1 58 22 ((m1.1 58 22) - (1 : Int32))) Q
  refine y_st rfl rfl rfl rfl rfl (fun _ _ => rfl) ?_
  show yP (xg xs) (d + 1) 314 128 [(0, .ref 58), (1, .int l1)] [.int l1] (y_si m1 58 22 ((m1.1 58 22) - (1 : Int32))) Q
  exact y_iret rfl rfl rfl H
set_option maxRecDepth 20000 in
/-- CodeMakerModel.readChoice from 0 on -/
theorem w315_0 (xs : List Int32) (d : Nat) (m : yM) (Q : Option Value → yM → Prop) (H : (yC (xg xs) d 271 [.ref 58, .int (17 : Int32), .int (m.1 58 8), .int (0 : Int32)] m (fun v1 m1 => ∃ u1, v1 = some (Value.int u1) ∧ yP (xg xs) (d + 1) 315 14 [(0, .ref 58), (1, .int u1), (2, .int (1 : Int32))] [] m1 Q))) : yP (xg xs) (d + 1) 315 0 [(0, .ref 58)] [] m Q := by
  refine y_st rfl rfl rfl rfl rfl (fun _ _ => rfl) ?_
  refine y_st rfl rfl rfl rfl rfl (fun _ _ => rfl) ?_
  refine y_st rfl rfl rfl rfl rfl (fun _ _ => rfl) ?_
  refine y_gf rfl rfl rfl rfl rfl ?_
  refine y_st rfl rfl rfl rfl rfl (fun _ _ => rfl) ?_
  show yP (xg xs) (d + 1) 315 8 [(0, .ref 58)] [.int (0 : Int32), .int (m.1 58 8), .int (17 : Int32), .ref 58] m Q
  refine y_call rfl rfl rfl rfl rfl (Nat.le_of_ble_eq_true rfl) (Nat.le_of_ble_eq_true rfl) rfl (by decide) H (fun v1 m1 H => ?_)
  obtain ⟨u1, rfl, H⟩ := H
  refine y_st rfl rfl rfl rfl rfl (fun _ _ => rfl) ?_
  refine y_st rfl rfl rfl rfl rfl (fun _ _ => rfl) ?_
  refine y_st rfl rfl rfl rfl rfl (fun _ _ => rfl) ?_
  show yP (xg xs) (d + 1) 315 14 [(2, .int (1 : Int32)), (1, .int u1), (0, .ref 58)] [] m1 Q
  refine y_headS (l2 := [(0, .ref 58), (1, .int u1), (2, .int (1 : Int32))]) [2, 1, 0] [0, 1, 2] [2, 1, 0] rfl rfl (by decide) rfl (by decide) ?_
  exact H
set_option maxRecDepth 20000 in
/-- CodeMakerModel.readChoice from 14 on -/
theorem w315_14 (xs : List Int32) (d : Nat) (l1 : Int32) (l2 : Int32) (m : yM) (Q : Option Value → yM → Prop) (H : ((l2 = 0 → yP (xg xs) (d + 1) 315 91 [(0, .ref 58), (1, .int l1)] [] m Q) ∧ (¬ l2 = 0 → ((¬ (m.1 58 3) = 0 → yP (xg xs) (d + 1) 315 91 [(0, .ref 58), (1, .int l1)] [] m Q) ∧ ((m.1 58 3) = 0 → (yC (xg xs) d 271 [.ref 58, .int (18 : Int32), .int (m.1 58 8), .int (0 : Int32)] m (fun v1 m1 => ∃ u1, v1 = some (Value.int u1) ∧ (yC (xg xs) d 301 [.ref 58] m1 (fun v2 m2 => ∃ u2, v2 = some (Value.int u2) ∧ (yC (xg xs) d 297 [.ref 58, .int u1, .int u2] m2 (fun v3 m3 => v3 = none ∧ (yC (xg xs) d 295 [.ref 58, .int (2 : Int32)] m3 (fun v4 m4 => ∃ u4, v4 = some (Value.int u4) ∧ ((u4 = 0 → yP (xg xs) (d + 1) 315 67 [(0, .ref 58), (1, .int l1), (3, .int u1)] [] m4 Q) ∧ (¬ u4 = 0 → (yC (xg xs) d 272 [.ref 58] m4 (fun v5 m5 => v5 = none ∧ (yC (xg xs) d 301 [.ref 58] m5 (fun v6 m6 => ∃ u6, v6 = some (Value.int u6) ∧ (yC (xg xs) d 297 [.ref 58, .int u1, .int u6] m6 (fun v7 m7 => v7 = none ∧ yP (xg xs) (d + 1) 315 67 [(0, .ref 58), (1, .int l1), (3, .int u1)] [] m7 Q))))))))))))))))))))) : yP (xg xs) (d + 1) 315 14 [(0, .ref 58), (1, .int l1), (2, .int l2)] [] m Q := by
  refine y_st rfl rfl rfl rfl rfl (fun _ _ => rfl) ?_
  show yP (xg xs) (d + 1) 315 15 [(0, .ref 58), (1, .int l1), (2, .int l2)] [.int l2] m Q
  refine y_zeq (t := 91) rfl rfl rfl (fun h => ?_) (fun h => ?_)
  · replace H := H.1 h; clear h
    show yP (xg xs) (d + 1) 315 91 [(0, .ref 58), (1, .int l1), (2, .int l2)] [] m Q
    refine y_headS (l2 := [(0, .ref 58), (1, .int l1)]) [0, 1] [0, 1] [0, 1, 2] rfl rfl (by decide) rfl (by decide) ?_
    exact H
  · replace H := H.2 h; clear h
    refine y_st rfl rfl rfl rfl rfl (fun _ _ => rfl) ?_
    refine y_gf rfl rfl rfl rfl rfl ?_
    show yP (xg xs) (d + 1) 315 22 [(0, .ref 58), (1, .int l1), (2, .int l2)] [.int (m.1 58 3)] m Q
    refine y_zne (t := 91) rfl rfl rfl (fun h => ?_) (fun h => ?_)
    · replace H := H.1 h; clear h
      show yP (xg xs) (d + 1) 315 91 [(0, .ref 58), (1, .int l1), (2, .int l2)] [] m Q
      refine y_headS (l2 := [(0, .ref 58), (1, .int l1)]) [0, 1] [0, 1] [0, 1, 2] rfl rfl (by decide) rfl (by decide) ?_
      exact H
    · replace H := H.2 h; clear h
      refine y_st rfl rfl rfl rfl rfl (fun _ _ => rfl) ?_
      refine y_st rfl rfl rfl rfl rfl (fun _ _ => rfl) ?_
      refine y_st rfl rfl rfl rfl rfl (fun _ _ => rfl) ?_
      refine y_gf rfl rfl rfl rfl rfl ?_
      refine y_st rfl rfl rfl rfl rfl (fun _ _ => rfl) ?_
      show yP (xg xs) (d + 1) 315 33 [(0, .ref 58), (1, .int l1), (2, .int l2)] [.int (0 : Int32), .int (m.1 58 8), .int (18 : Int32), .ref 58] m Q
      refine y_call rfl rfl rfl rfl rfl (Nat.le_of_ble_eq_true rfl) (Nat.le_of_ble_eq_true rfl) rfl (by decide) H (fun v1 m1 H => ?_)
      obtain ⟨u1, rfl, H⟩ := H
      refine y_st rfl rfl rfl rfl rfl (fun _ _ => rfl) ?_
      refine y_st rfl rfl rfl rfl rfl (fun _ _ => rfl) ?_
      refine y_st rfl rfl rfl rfl rfl (fun _ _ => rfl) ?_
      refine y_st rfl rfl rfl rfl rfl (fun _ _ => rfl) ?_
      show yP (xg xs) (d + 1) 315 40 [(3, .int u1), (0, .ref 58), (1, .int l1), (2, .int l2)] [.ref 58, .int u1, .ref 58] m1 Q
      refine y_call rfl rfl rfl rfl rfl (Nat.le_of_ble_eq_true rfl) (Nat.le_of_ble_eq_true rfl) rfl (by decide) H (fun v2 m2 H => ?_)
      obtain ⟨u2, rfl, H⟩ := H
      show yP (xg xs) (d + 1) 315 43 [(3, .int u1), (0, .ref 58), (1, .int l1), (2, .int l2)] [.int u2, .int u1, .ref 58] m2 Q
      refine y_call rfl rfl rfl rfl rfl (Nat.le_of_ble_eq_true rfl) (Nat.le_of_ble_eq_true rfl) rfl (by decide) H (fun v3 m3 H => ?_)
      obtain ⟨rfl, H⟩ := H
      refine y_st rfl rfl rfl rfl rfl (fun _ _ => rfl) ?_
      refine y_st rfl rfl rfl rfl rfl (fun _ _ => rfl) ?_
      show yP (xg xs) (d + 1) 315 48 [(3, .int u1), (0, .ref 58), (1, .int l1), (2, .int l2)] [.int (2 : Int32), .ref 58] m3 Q
      refine y_call rfl rfl rfl rfl rfl (Nat.le_of_ble_eq_true rfl) (Nat.le_of_ble_eq_true rfl) rfl (by decide) H (fun v4 m4 H => ?_)
      obtain ⟨u4, rfl, H⟩ := H
      show yP (xg xs) (d + 1) 315 51 [(3, .int u1), (0, .ref 58), (1, .int l1), (2, .int l2)] [.int u4] m4 Q
      refine y_zeq (t := 67) rfl rfl rfl (fun h => ?_) (fun h => ?_)
      · replace H := H.1 h; clear h
        show yP (xg xs) (d + 1) 315 67 [(3, .int u1), (0, .ref 58), (1, .int l1), (2, .int l2)] [] m4 Q
        refine y_headS (l2 := [(0, .ref 58), (1, .int l1), (3, .int u1)]) [1, 2, 0] [0, 1, 3] [3, 0, 1, 2] rfl rfl (by decide) rfl (by decide) ?_
        exact H
      · replace H := H.2 h; clear h
        refine y_st rfl rfl rfl rfl rfl (fun _ _ => rfl) ?_
        show yP (xg xs) (d + 1) 315 55 [(3, .int u1), (0, .ref 58), (1, .int l1), (2, .int l2)] [.ref 58] m4 Q
        refine y_call rfl rfl rfl rfl rfl (Nat.le_of_ble_eq_true rfl) (Nat.le_of_ble_eq_true rfl) rfl (by decide) H (fun v5 m5 H => ?_)
        obtain ⟨rfl, H⟩ := H
        refine y_st rfl rfl rfl rfl rfl (fun _ _ => rfl) ?_
        refine y_st rfl rfl rfl rfl rfl (fun _ _ => rfl) ?_
        refine y_st rfl rfl rfl rfl rfl (fun _ _ => rfl) ?_
        show yP (xg xs) (d + 1) 315 61 [(3, .int u1), (0, .ref 58), (1, .int l1), (2, .int l2)] [.ref 58, .int u1, .ref 58] m5 Q
        refine y_call rfl rfl rfl rfl rfl (Nat.le_of_ble_eq_true rfl) (Nat.le_of_ble_eq_true rfl) rfl (by decide) H (fun v6 m6 H => ?_)
        obtain ⟨u6, rfl, H⟩ := H
        show yP (xg xs) (d + 1) 315 64 [(3, .int u1), (0, .ref 58), (1, .int l1), (2, .int l2)] [.int u6, .int u1, .ref 58] m6 Q
        refine y_call rfl rfl rfl rfl rfl (Nat.le_of_ble_eq_true rfl) (Nat.le_of_ble_eq_true rfl) rfl (by decide) H (fun v7 m7 H => ?_)
        obtain ⟨rfl, H⟩ := H
        show yP (xg xs) (d + 1) 315 67 [(3, .int u1), (0, .ref 58), (1, .int l1), (2, .int l2)] [] m7 Q
        refine y_headS (l2 := [(0, .ref 58), (1, .int l1), (3, .int u1)]) [1, 2, 0] [0, 1, 3] [3, 0, 1, 2] rfl rfl (by decide) rfl (by decide) ?_
        exact H
set_option maxRecDepth 20000 in
/-- CodeMakerModel.readChoice from 67 on -/
theorem w315_67 (xs : List Int32) (d : Nat) (l1 : Int32) (l3 : Int32) (m : yM) (Q : Option Value → yM → Prop) (H : (yC (xg xs) d 297 [.ref 58, .int l1, .int l3] m (fun v1 m1 => v1 = none ∧ (yC (xg xs) d 295 [.ref 58, .int (44 : Int32)] m1 (fun v2 m2 => ∃ u2, v2 = some (Value.int u2) ∧ ((u2 = 0 → yP (xg xs) (d + 1) 315 88 [(0, .ref 58), (1, .int l1), (2, .int u2)] [] m2 Q) ∧ (¬ u2 = 0 → (yC (xg xs) d 272 [.ref 58] m2 (fun v3 m3 => v3 = none ∧ yP (xg xs) (d + 1) 315 88 [(0, .ref 58), (1, .int l1), (2, .int u2)] [] m3 Q))))))))) : yP (xg xs) (d + 1) 315 67 [(0, .ref 58), (1, .int l1), (3, .int l3)] [] m Q := by
  refine y_st rfl rfl rfl rfl rfl (fun _ _ => rfl) ?_
  refine y_st rfl rfl rfl rfl rfl (fun _ _ => rfl) ?_
  refine y_st rfl rfl rfl rfl rfl (fun _ _ => rfl) ?_
  show yP (xg xs) (d + 1) 315 70 [(0, .ref 58), (1, .int l1), (3, .int l3)] [.int l3, .int l1, .ref 58] m Q
  refine y_call rfl rfl rfl rfl rfl (Nat.le_of_ble_eq_true rfl) (Nat.le_of_ble_eq_true rfl) rfl (by decide) H (fun v1 m1 H => ?_)
  obtain ⟨rfl, H⟩ := H
  refine y_st rfl rfl rfl rfl rfl (fun _ _ => rfl) ?_
  refine y_st rfl rfl rfl rfl rfl (fun _ _ => rfl) ?_
  show yP (xg xs) (d + 1) 315 76 [(0, .ref 58), (1, .int l1), (3, .int l3)] [.int (44 : Int32), .ref 58] m1 Q
  refine y_call rfl rfl rfl rfl rfl (Nat.le_of_ble_eq_true rfl) (Nat.le_of_ble_eq_true rfl) rfl (by decide) H (fun v2 m2 H => ?_)
  obtain ⟨u2, rfl, H⟩ := H
  refine y_st rfl rfl rfl rfl rfl (fun _ _ => rfl) ?_
  refine y_st rfl rfl rfl rfl rfl (fun _ _ => rfl) ?_
  show yP (xg xs) (d + 1) 315 81 [(2, .int u2), (0, .ref 58), (1, .int l1), (3, .int l3)] [.int u2] m2 Q
  refine y_zeq (t := 88) rfl rfl rfl (fun h => ?_) (fun h => ?_)
  · replace H := H.1 h; clear h
    show yP (xg xs) (d + 1) 315 88 [(2, .int u2), (0, .ref 58), (1, .int l1), (3, .int l3)] [] m2 Q
    refine y_headS (l2 := [(0, .ref 58), (1, .int l1), (2, .int u2)]) [1, 2, 0] [0, 1, 2] [2, 0, 1, 3] rfl rfl (by decide) rfl (by decide) ?_
    exact H
  · replace H := H.2 h; clear h
    refine y_st rfl rfl rfl rfl rfl (fun _ _ => rfl) ?_
    show yP (xg xs) (d + 1) 315 85 [(2, .int u2), (0, .ref 58), (1, .int l1), (3, .int l3)] [.ref 58] m2 Q
    refine y_call rfl rfl rfl rfl rfl (Nat.le_of_ble_eq_true rfl) (Nat.le_of_ble_eq_true rfl) rfl (by decide) H (fun v3 m3 H => ?_)
    obtain ⟨rfl, H⟩ := H
    show yP (xg xs) (d + 1) 315 88 [(2, .int u2), (0, .ref 58), (1, .int l1), (3, .int l3)] [] m3 Q
    refine y_headS (l2 := [(0, .ref 58), (1, .int l1), (2, .int u2)]) [1, 2, 0] [0, 1, 2] [2, 0, 1, 3] rfl rfl (by decide) rfl (by decide) ?_
    exact H
set_option maxRecDepth 20000 in
/-- CodeMakerModel.readChoice from 88 on -/
theorem w315_88 (xs : List Int32) (d : Nat) (l1 : Int32) (l2 : Int32) (m : yM) (Q : Option Value → yM → Prop) (H : yP (xg xs) (d + 1) 315 14 [(0, .ref 58), (1, .int l1), (2, .int l2)] [] m Q) : yP (xg xs) (d + 1) 315 88 [(0, .ref 58), (1, .int l1), (2, .int l2)] [] m Q := by
  refine y_st rfl rfl rfl rfl rfl (fun _ _ => rfl) ?_
  show yP (xg xs) (d + 1) 315 14 [(0, .ref 58), (1, .int l1), (2, .int l2)] [] m Q
  exact H
set_option maxRecDepth 20000 in
/-- CodeMakerModel.readChoice from 91 on -/
theorem w315_91 (xs : List Int32) (d : Nat) (l1 : Int32) (m : yM) (Q : Option Value → yM → Prop) (H : (yC (xg xs) d 294 [.ref 58, .int (58 : Int32)] m (fun v1 m1 => v1 = none ∧ (yC (xg xs) d 304 [.ref 58] m1 (fun v2 m2 => ∃ u2, v2 = some (Value.int u2) ∧ (yC (xg xs) d 297 [.ref 58, .int l1, .int u2] m2 (fun v3 m3 => v3 = none ∧ Q (some (.int l1)) m3))))))) : yP (xg xs) (d + 1) 315 91 [(0, .ref 58), (1, .int l1)] [] m Q := by
  refine y_st rfl rfl rfl rfl rfl (fun _ _ => rfl) ?_
  refine y_st rfl rfl rfl rfl rfl (fun _ _ => rfl) ?_
  show yP (xg xs) (d + 1) 315 94 [(0, .ref 58), (1, .int l1)] [.int (58 : Int32), .ref 58] m Q
  refine y_call rfl rfl rfl rfl rfl (Nat.le_of_ble_eq_true rfl) (Nat.le_of_ble_eq_true rfl) rfl (by decide) H (fun v1 m1 H => ?_)
  obtain ⟨rfl, H⟩ := H
  refine y_st rfl rfl rfl rfl rfl (fun _ _ => rfl) ?_
  refine y_st rfl rfl rfl rfl rfl (fun _ _ => rfl) ?_
  refine y_st rfl rfl rfl rfl rfl (fun _ _ => rfl) ?_
  show yP (xg xs) (d + 1) 315 100 [(0, .ref 58), (1, .int l1)] [.ref 58, .int l1, .ref 58] m1 Q
  refine y_call rfl rfl rfl rfl rfl (Nat.le_of_ble_eq_true rfl) (Nat.le_of_ble_eq_true rfl) rfl (by decide) H (fun v2 m2 H => ?_)
  obtain ⟨u2, rfl, H⟩ := H
  show yP (xg xs) (d + 1) 315 103 [(0, .ref 58), (1, .int l1)] [.int u2, .int l1, .ref 58] m2 Q
  refine y_call rfl rfl rfl rfl rfl (Nat.le_of_ble_eq_true rfl) (Nat.le_of_ble_eq_true rfl) rfl (by decide) H (fun v3 m3 H => ?_)
  obtain ⟨rfl, H⟩ := H
  refine y_st rfl rfl rfl rfl rfl (fun _ _ => rfl) ?_
  show yP (xg xs) (d + 1) 315 107 [(0, .ref 58), (1, .int l1)] [.int l1] m3 Q
  exact y_iret rfl rfl rfl H
set_option maxRecDepth 20000 in
/-- CodeMakerModel.readFor from 0 on -/
theorem w316_0 (xs : List Int32) (d : Nat) (m : yM) (Q : Option Value → yM → Prop) (H : (yC (xg xs) d 271 [.ref 58, .int (19 : Int32), .int (m.1 58 8), .int (0 : Int32)] m (fun v1 m1 => ∃ u1, v1 = some (Value.int u1) ∧ (yC (xg xs) d 307 [.ref 58] m1 (fun v2 m2 => v2 = none ∧ (yC (xg xs) d 272 [.ref 58] m2 (fun v3 m3 => v3 = none ∧ (yC (xg xs) d 293 [.ref 58, .int (2 : Int32)] m3 (fun v4 m4 => ∃ u4, v4 = some (Value.int u4) ∧ (yC (xg xs) d 291 [.ref 58, .int u4] m4 (fun v5 m5 => v5 = none ∧ (x_in u1 20000 = true ∧ (yC (xg xs) d 272 [.ref 58] (y_si m5 64 u1.toNatClampNeg (m5.1 58 7)) (fun v6 m6 => v6 = none ∧ (yC (xg xs) d 294 [.ref 58, .int (1 : Int32)] m6 (fun v7 m7 => v7 = none ∧ (yC (xg xs) d 301 [.ref 58] m7 (fun v8 m8 => ∃ u8, v8 = some (Value.int u8) ∧ (yC (xg xs) d 297 [.ref 58, .int u1, .int u8] m8 (fun v9 m9 => v9 = none ∧ (yC (xg xs) d 302 [.ref 58, .int (24 : Int32)] m9 (fun v10 m10 => v10 = none ∧ (yC (xg xs) d 301 [.ref 58] m10 (fun v11 m11 => ∃ u11, v11 = some (Value.int u11) ∧ (yC (xg xs) d 297 [.ref 58, .int u1, .int u11] m11 (fun v12 m12 => v12 = none ∧ (yC (xg xs) d 290 [.ref 58, .int (25 : Int32)] m12 (fun v13 m13 => ∃ u13, v13 = some (Value.int u13) ∧ ((u13 = 0 → yP (xg xs) (d + 1) 316 94 [(0, .ref 58), (1, .int u1)] [] m13 Q) ∧ (¬ u13 = 0 → (yC (xg xs) d 272 [.ref 58] m13 (fun v14 m14 => v14 = none ∧ (yC (xg xs) d 301 [.ref 58] m14 (fun v15 m15 => ∃ u15, v15 = some (Value.int u15) ∧ (yC (xg xs) d 297 [.ref 58, .int u1, .int u15] m15 (fun v16 m16 => v16 = none ∧ yP (xg xs) (d + 1) 316 94 [(0, .ref 58), (1, .int u1)] [] m16 Q)))))))))))))))))))))))))))))))))))) : yP (xg xs) (d + 1) 316 0 [(0, .ref 58)] [] m Q := by
  refine y_st rfl rfl rfl rfl rfl (fun _ _ => rfl) ?_
  refine y_st rfl rfl rfl rfl rfl (fun _ _ => rfl) ?_
  refine y_st rfl rfl rfl rfl rfl (fun _ _ => rfl) ?_
  refine y_gf rfl rfl rfl rfl rfl ?_
  refine y_st rfl rfl rfl rfl rfl (fun _ _ => rfl) ?_
  show yP (xg xs) (d + 1) 316 8 [(0, .ref 58)] [.int (0 : Int32), .int (m.1 58 8), .int (19 : Int32), .ref 58] m Q
  refine y_call rfl rfl rfl rfl rfl (Nat.le_of_ble_eq_true rfl) (Nat.le_of_ble_eq_true rfl) rfl (by decide) H (fun v1 m1 H => ?_)
  obtain ⟨u1, rfl, H⟩ := H
  refine y_st rfl rfl rfl rfl rfl (fun _ _ => rfl) ?_
  refine y_st rfl rfl rfl rfl rfl (fun _ _ => rfl) ?_
  show yP (xg xs) (d + 1) 316 13 [(1, .int u1), (0, .ref 58)] [.ref 58] m1 Q
  refine y_call rfl rfl rfl rfl rfl (Nat.le_of_ble_eq_true rfl) (Nat.le_of_ble_eq_true rfl) rfl (by decide) H (fun v2 m2 H => ?_)
  obtain ⟨rfl, H⟩ := H
  refine y_st rfl rfl rfl rfl rfl (fun _ _ => rfl) ?_
  show yP (xg xs) (d + 1) 316 17 [(1, .int u1), (0, .ref 58)] [.ref 58] m2 Q
  refine y_call rfl rfl rfl rfl rfl (Nat.le_of_ble_eq_true rfl) (Nat.le_of_ble_eq_true rfl) rfl (by decide) H (fun v3 m3 H => ?_)
  obtain ⟨rfl, H⟩ := H
  refine y_st rfl rfl rfl rfl rfl (fun _ _ => rfl) ?_
  refine y_st rfl rfl rfl rfl rfl (fun _ _ => rfl) ?_
  refine y_st rfl rfl rfl rfl rfl (fun _ _ => rfl) ?_
  show yP (xg xs) (d + 1) 316 23 [(1, .int u1), (0, .ref 58)] [.int (2 : Int32), .ref 58, .ref 58] m3 Q
  refine y_call rfl rfl rfl rfl rfl (Nat.le_of_ble_eq_true rfl) (Nat.le_of_ble_eq_true rfl) rfl (by decide) H (fun v4 m4 H => ?_)
  obtain ⟨u4, rfl, H⟩ := H
  show yP (xg xs) (d + 1) 316 26 [(1, .int u1), (0, .ref 58)] [.int u4, .ref 58] m4 Q
  refine y_call rfl rfl rfl rfl rfl (Nat.le_of_ble_eq_true rfl) (Nat.le_of_ble_eq_true rfl) rfl (by decide) H (fun v5 m5 H => ?_)
  obtain ⟨rfl, H⟩ := H
  refine y_st rfl rfl rfl rfl rfl (fun _ _ => rfl) ?_
  refine y_gf rfl rfl rfl rfl rfl ?_
  refine y_st rfl rfl rfl rfl rfl (fun _ _ => rfl) ?_
  refine y_st rfl rfl rfl rfl rfl (fun _ _ => rfl) ?_
  refine y_gf rfl rfl rfl rfl rfl ?_
  show yP (xg xs) (d + 1) 316 38 [(1, .int u1), (0, .ref 58)] [.int (m5.1 58 7), .int u1, .ref 64] m5 Q
  refine y_iast rfl rfl rfl (H.1) ?_
  replace H := H.2
  refine y_st rfl rfl rfl rfl rfl (fun _ _ => rfl) ?_
  show yP (xg xs) (d + 1) 316 40 [(1, .int u1), (0, .ref 58)] [.ref 58] (y_si m5 64 u1.toNatClampNeg (m5.1 58 7)) Q
  refine y_call rfl rfl rfl rfl rfl (Nat.le_of_ble_eq_true rfl) (Nat.le_of_ble_eq_true rfl) rfl (by decide) H (fun v6 m6 H => ?_)
  obtain ⟨rfl, H⟩ := H
  refine y_st rfl rfl rfl rfl rfl (fun _ _ => rfl) ?_
  refine y_st rfl rfl rfl rfl rfl (fun _ _ => rfl) ?_
  show yP (xg xs) (d + 1) 316 45 [(1, .int u1), (0, .ref 58)] [.int (1 : Int32), .ref 58] m6 Q
  refine y_call rfl rfl rfl rfl rfl (Nat.le_of_ble_eq_true rfl) (Nat.le_of_ble_eq_true rfl) rfl (by decide) H (fun v7 m7 H => ?_)
  obtain ⟨rfl, H⟩ := H
  refine y_st rfl rfl rfl rfl rfl (fun _ _ => rfl) ?_
  refine y_st rfl rfl rfl rfl rfl (fun _ _ => rfl) ?_
  refine y_st rfl rfl rfl rfl rfl (fun _ _ => rfl) ?_
  show yP (xg xs) (d + 1) 316 51 [(1, .int u1), (0, .ref 58)] [.ref 58, .int u1, .ref 58] m7 Q
  refine y_call rfl rfl rfl rfl rfl (Nat.le_of_ble_eq_true rfl) (Nat.le_of_ble_eq_true rfl) rfl (by decide) H (fun v8 m8 H => ?_)
  obtain ⟨u8, rfl, H⟩ := H
  show yP (xg xs) (d + 1) 316 54 [(1, .int u1), (0, .ref 58)] [.int u8, .int u1, .ref 58] m8 Q
  refine y_call rfl rfl rfl rfl rfl (Nat.le_of_ble_eq_true rfl) (Nat.le_of_ble_eq_true rfl) rfl (by decide) H (fun v9 m9 H => ?_)
  obtain ⟨rfl, H⟩ := H
  refine y_st rfl rfl rfl rfl rfl (fun _ _ => rfl) ?_
  refine y_st rfl rfl rfl rfl rfl (fun _ _ => rfl) ?_
  show yP (xg xs) (d + 1) 316 60 [(1, .int u1), (0, .ref 58)] [.int (24 : Int32), .ref 58] m9 Q
  refine y_call rfl rfl rfl rfl rfl (Nat.le_of_ble_eq_true rfl) (Nat.le_of_ble_eq_true rfl) rfl (by decide) H (fun v10 m10 H => ?_)
  obtain ⟨rfl, H⟩ := H
  refine y_st rfl rfl rfl rfl rfl (fun _ _ => rfl) ?_
  refine y_st rfl rfl rfl rfl rfl (fun _ _ => rfl) ?_
  refine y_st rfl rfl rfl rfl rfl (fun _ _ => rfl) ?_
  show yP (xg xs) (d + 1) 316 66 [(1, .int u1), (0, .ref 58)] [.ref 58, .int u1, .ref 58] m10 Q
  refine y_call rfl rfl rfl rfl rfl (Nat.le_of_ble_eq_true rfl) (Nat.le_of_ble_eq_true rfl) rfl (by decide) H (fun v11 m11 H => ?_)
  obtain ⟨u11, rfl, H⟩ := H
  show yP (xg xs) (d + 1) 316 69 [(1, .int u1), (0, .ref 58)] [.int u11, .int u1, .ref 58] m11 Q
  refine y_call rfl rfl rfl rfl rfl (Nat.le_of_ble_eq_true rfl) (Nat.le_of_ble_eq_true rfl) rfl (by decide) H (fun v12 m12 H => ?_)
  obtain ⟨rfl, H⟩ := H
  refine y_st rfl rfl rfl rfl rfl (fun _ _ => rfl) ?_
  refine y_st rfl rfl rfl rfl rfl (fun _ _ => rfl) ?_
  show yP (xg xs) (d + 1) 316 75 [(1, .int u1), (0, .ref 58)] [.int (25 : Int32), .ref 58] m12 Q
  refine y_call rfl rfl rfl rfl rfl (Nat.le_of_ble_eq_true rfl) (Nat.le_of_ble_eq_true rfl) rfl (by decide) H (fun v13 m13 H => ?_)
  obtain ⟨u13, rfl, H⟩ := H
  show yP (xg xs) (d + 1) 316 78 [(1, .int u1), (0, .ref 58)] [.int u13] m13 Q
  refine y_zeq (t := 94) rfl rfl rfl (fun h => ?_) (fun h => ?_)
  · replace H := H.1 h; clear h
    show yP (xg xs) (d + 1) 316 94 [(1, .int u1), (0, .ref 58)] [] m13 Q
    refine y_headS (l2 := [(0, .ref 58), (1, .int u1)]) [1, 0] [0, 1] [1, 0] rfl rfl (by decide) rfl (by decide) ?_
    exact H
  · replace H := H.2 h; clear h
    refine y_st rfl rfl rfl rfl rfl (fun _ _ => rfl) ?_
    show yP (xg xs) (d + 1) 316 82 [(1, .int u1), (0, .ref 58)] [.ref 58] m13 Q
    refine y_call rfl rfl rfl rfl rfl (Nat.le_of_ble_eq_true rfl) (Nat.le_of_ble_eq_true rfl) rfl (by decide) H (fun v14 m14 H => ?_)
    obtain ⟨rfl, H⟩ := H
    refine y_st rfl rfl rfl rfl rfl (fun _ _ => rfl) ?_
    refine y_st rfl rfl rfl rfl rfl (fun _ _ => rfl) ?_
    refine y_st rfl rfl rfl rfl rfl (fun _ _ => rfl) ?_
    show yP (xg xs) (d + 1) 316 88 [(1, .int u1), (0, .ref 58)] [.ref 58, .int u1, .ref 58] m14 Q
    refine y_call rfl rfl rfl rfl rfl (Nat.le_of_ble_eq_true rfl) (Nat.le_of_ble_eq_true rfl) rfl (by decide) H (fun v15 m15 H => ?_)
    obtain ⟨u15, rfl, H⟩ := H
    show yP (xg xs) (d + 1) 316 91 [(1, .int u1), (0, .ref 58)] [.int u15, .int u1, .ref 58] m15 Q
    refine y_call rfl rfl rfl rfl rfl (Nat.le_of_ble_eq_true rfl) (Nat.le_of_ble_eq_true rfl) rfl (by decide) H (fun v16 m16 H => ?_)
    obtain ⟨rfl, H⟩ := H
    show yP (xg xs) (d + 1) 316 94 [(1, .int u1), (0, .ref 58)] [] m16 Q
    refine y_headS (l2 := [(0, .ref 58), (1, .int u1)]) [1, 0] [0, 1] [1, 0] rfl rfl (by decide) rfl (by decide) ?_
    exact H
set_option maxRecDepth 20000 in
/-- CodeMakerModel.readFor from 94 on -/
theorem w316_94 (xs : List Int32) (d : Nat) (l1 : Int32) (m : yM) (Q : Option Value → yM → Prop) (H : (yC (xg xs) d 302 [.ref 58, .int (26 : Int32)] m (fun v1 m1 => v1 = none ∧ (yC (xg xs) d 304 [.ref 58] m1 (fun v2 m2 => ∃ u2, v2 = some (Value.int u2) ∧ (yC (xg xs) d 297 [.ref 58, .int l1, .int u2] m2 (fun v3 m3 => v3 = none ∧ (yC (xg xs) d 302 [.ref 58, .int (27 : Int32)] m3 (fun v4 m4 => v4 = none ∧ Q (some (.int l1)) (y_si m4 58 22 ((m4.1 58 22) - (1 : Int32)))))))))))) : yP (xg xs) (d + 1) 316 94 [(0, .ref 58), (1, .int l1)] [] m Q := by
  refine y_st rfl rfl rfl rfl rfl (fun _ _ => rfl) ?_
  refine y_st rfl rfl rfl rfl rfl (fun _ _ => rfl) ?_
  show yP (xg xs) (d + 1) 316 97 [(0, .ref 58), (1, .int l1)] [.int (26 : Int32), .ref 58] m Q
  refine y_call rfl rfl rfl rfl rfl (Nat.le_of_ble_eq_true rfl) (Nat.le_of_ble_eq_true rfl) rfl (by decide) H (fun v1 m1 H => ?_)
  obtain ⟨rfl, H⟩ := H
  refine y_st rfl rfl rfl rfl rfl (fun _ _ => rfl) ?_
  refine y_st rfl rfl rfl rfl rfl (fun _ _ => rfl) ?_
  refine y_st rfl rfl rfl rfl rfl (fun _ _ => rfl) ?_
  show yP (xg xs) (d + 1) 316 103 [(0, .ref 58), (1, .int l1)] [.ref 58, .int l1, .ref 58] m1 Q
  refine y_call rfl rfl rfl rfl rfl (Nat.le_of_ble_eq_true rfl) (Nat.le_of_ble_eq_true rfl) rfl (by decide) H (fun v2 m2 H => ?_)
  obtain ⟨u2, rfl, H⟩ := H
  show yP (xg xs) (d + 1) 316 106 [(0, .ref 58), (1, .int l1)] [.int u2, .int l1, .ref 58] m2 Q
  refine y_call rfl rfl rfl rfl rfl (Nat.le_of_ble_eq_true rfl) (Nat.le_of_ble_eq_true rfl) rfl (by decide) H (fun v3 m3 H => ?_)
  obtain ⟨rfl, H⟩ := H
  refine y_st rfl rfl rfl rfl rfl (fun _ _ => rfl) ?_
  refine y_st rfl rfl rfl rfl rfl (fun _ _ => rfl) ?_
  show yP (xg xs) (d + 1) 316 112 [(0, .ref 58), (1, .int l1)] [.int (27 : Int32), .ref 58] m3 Q
  refine y_call rfl rfl rfl rfl rfl (Nat.le_of_ble_eq_true rfl) (Nat.le_of_ble_eq_true rfl) rfl (by decide) H (fun v4 m4 H => ?_)
  obtain ⟨rfl, H⟩ := H
  refine y_st rfl rfl rfl rfl rfl (fun _ _ => rfl) ?_
  refine y_st rfl rfl rfl rfl rfl (fun _ _ => rfl) ?_
  refine y_gf rfl rfl rfl rfl rfl ?_
  refine y_st rfl rfl rfl rfl rfl (fun _ _ => rfl) ?_
  refine y_st rfl rfl rfl rfl rfl (fun _ _ => rfl) ?_
  refine y_pfi rfl rfl rfl rfl rfl (x_fit_i _) ?_
  show yP (xg xs) (d + 1) 316 125 [(0, .ref 58), (1, .int l1)] [] (y_si m4 58 22 ((m4.1 58 22) - (1 : Int32))) Q
  refine y_st rfl rfl rfl rfl rfl (fun _ _ => rfl) ?_
  show yP (xg xs) (d + 1) 316 126 [(0, .ref 58), (1, .int l1)] [.int l1] (y_si m4 58 22 ((m4.1 58 22) - (1 : Int32))) Q
  exact y_iret rfl rfl rfl H
set_option maxRecDepth 20000 in
/-- CodeMakerModel.readInvocation from 0 on -/
theorem w317_0 (xs : List Int32) (d : Nat) (l1 : Int32) (l2 : Int32) (m : yM) (Q : Option Value → yM → Prop) (H : (yC (xg xs) d 271 [.ref 58, .int (13 : Int32), .int l1, .int l2] m (fun v1 m1 => ∃ u1, v1 = some (Value.int u1) ∧ (yC (xg xs) d 307 [.ref 58] m1 (fun v2 m2 => v2 = none ∧ (yC (xg xs) d 272 [.ref 58] m2 (fun v3 m3 => v3 = none ∧ (yC (xg xs) d 295 [.ref 58, .int (41 : Int32)] m3 (fun v4 m4 => ∃ u4, v4 = some (Value.int u4) ∧ ((¬ u4 = 0 → yP (xg xs) (d + 1) 317 31 [(0, .ref 58), (3, .int u1)] [.int (0 : Int32)] m4 Q) ∧ (u4 = 0 → yP (xg xs) (d + 1) 317 31 [(0, .ref 58), (3, .int u1)] [.int (1 : Int32)] m4 Q))))))))))) : yP (xg xs) (d + 1) 317 0 [(0, .ref 58), (1, .int l1), (2, .int l2)] [] m Q := by
  refine y_st rfl rfl rfl rfl rfl (fun _ _ => rfl) ?_
  refine y_st rfl rfl rfl rfl rfl (fun _ _ => rfl) ?_
  refine y_st rfl rfl rfl rfl rfl (fun _ _ => rfl) ?_
  refine y_st rfl rfl rfl rfl rfl (fun _ _ => rfl) ?_
  show yP (xg xs) (d + 1) 317 5 [(0, .ref 58), (1, .int l1), (2, .int l2)] [.int l2, .int l1, .int (13 : Int32), .ref 58] m Q
  refine y_call rfl rfl rfl rfl rfl (Nat.le_of_ble_eq_true rfl) (Nat.le_of_ble_eq_true rfl) rfl (by decide) H (fun v1 m1 H => ?_)
  obtain ⟨u1, rfl, H⟩ := H
  refine y_st rfl rfl rfl rfl rfl (fun _ _ => rfl) ?_
  refine y_st rfl rfl rfl rfl rfl (fun _ _ => rfl) ?_
  show yP (xg xs) (d + 1) 317 10 [(3, .int u1), (0, .ref 58), (1, .int l1), (2, .int l2)] [.ref 58] m1 Q
  refine y_call rfl rfl rfl rfl rfl (Nat.le_of_ble_eq_true rfl) (Nat.le_of_ble_eq_true rfl) rfl (by decide) H (fun v2 m2 H => ?_)
  obtain ⟨rfl, H⟩ := H
  refine y_st rfl rfl rfl rfl rfl (fun _ _ => rfl) ?_
  show yP (xg xs) (d + 1) 317 14 [(3, .int u1), (0, .ref 58), (1, .int l1), (2, .int l2)] [.ref 58] m2 Q
  refine y_call rfl rfl rfl rfl rfl (Nat.le_of_ble_eq_true rfl) (Nat.le_of_ble_eq_true rfl) rfl (by decide) H (fun v3 m3 H => ?_)
  obtain ⟨rfl, H⟩ := H
  refine y_st rfl rfl rfl rfl rfl (fun _ _ => rfl) ?_
  refine y_st rfl rfl rfl rfl rfl (fun _ _ => rfl) ?_
  show yP (xg xs) (d + 1) 317 20 [(3, .int u1), (0, .ref 58), (1, .int l1), (2, .int l2)] [.int (41 : Int32), .ref 58] m3 Q
  refine y_call rfl rfl rfl rfl rfl (Nat.le_of_ble_eq_true rfl) (Nat.le_of_ble_eq_true rfl) rfl (by decide) H (fun v4 m4 H => ?_)
  obtain ⟨u4, rfl, H⟩ := H
  show yP (xg xs) (d + 1) 317 23 [(3, .int u1), (0, .ref 58), (1, .int l1), (2, .int l2)] [.int u4] m4 Q
  refine y_zne (t := 30) rfl rfl rfl (fun h => ?_) (fun h => ?_)
  · replace H := H.1 h; clear h
    refine y_st rfl rfl rfl rfl rfl (fun _ _ => rfl) ?_
    show yP (xg xs) (d + 1) 317 31 [(3, .int u1), (0, .ref 58), (1, .int l1), (2, .int l2)] [.int (0 : Int32)] m4 Q
    refine y_headS (l2 := [(0, .ref 58), (3, .int u1)]) [1, 0] [0, 3] [3, 0, 1, 2] rfl rfl (by decide) rfl (by decide) ?_
    exact H
  · replace H := H.2 h; clear h
    refine y_st rfl rfl rfl rfl rfl (fun _ _ => rfl) ?_
    refine y_st rfl rfl rfl rfl rfl (fun _ _ => rfl) ?_
    show yP (xg xs) (d + 1) 317 31 [(3, .int u1), (0, .ref 58), (1, .int l1), (2, .int l2)] [.int (1 : Int32)] m4 Q
    refine y_headS (l2 := [(0, .ref 58), (3, .int u1)]) [1, 0] [0, 3] [3, 0, 1, 2] rfl rfl (by decide) rfl (by decide) ?_
    exact H
set_option maxRecDepth 20000 in
/-- CodeMakerModel.readInvocation from 31 on -/
theorem w317_31 (xs : List Int32) (d : Nat) (l3 : Int32) (s0 : Int32) (m : yM) (Q : Option Value → yM → Prop) (H : yP (xg xs) (d + 1) 317 33 [(0, .ref 58), (3, .int l3), (4, .int s0)] [] m Q) : yP (xg xs) (d + 1) 317 31 [(0, .ref 58), (3, .int l3)] [.int s0] m Q := by
  refine y_st rfl rfl rfl rfl rfl (fun _ _ => rfl) ?_
  show yP (xg xs) (d + 1) 317 33 [(4, .int s0), (0, .ref 58), (3, .int l3)] [] m Q
  refine y_headS (l2 := [(0, .ref 58), (3, .int l3), (4, .int s0)]) [1, 2, 0] [0, 3, 4] [4, 0, 3] rfl rfl (by decide) rfl (by decide) ?_
  exact H
set_option maxRecDepth 20000 in
/-- CodeMakerModel.readInvocation from 33 on -/
theorem w317_33 (xs : List Int32) (d : Nat) (l3 : Int32) (l4 : Int32) (m : yM) (Q : Option Value → yM → Prop) (H : ((l4 = 0 → yP (xg xs) (d + 1) 317 116 [(0, .ref 58), (3, .int l3)] [] m Q) ∧ (¬ l4 = 0 → ((¬ (m.1 58 3) = 0 → yP (xg xs) (d + 1) 317 116 [(0, .ref 58), (3, .int l3)] [] m Q) ∧ ((m.1 58 3) = 0 → (yC (xg xs) d 293 [.ref 58, .int (2 : Int32)] m (fun v1 m1 => ∃ u1, v1 = some (Value.int u1) ∧ (yC (xg xs) d 291 [.ref 58, .int u1] m1 (fun v2 m2 => v2 = none ∧ (yC (xg xs) d 271 [.ref 58, .int (14 : Int32), .int (m2.1 58 8), .int (m2.1 58 7)] m2 (fun v3 m3 => ∃ u3, v3 = some (Value.int u3) ∧ (yC (xg xs) d 272 [.ref 58] m3 (fun v4 m4 => v4 = none ∧ (yC (xg xs) d 294 [.ref 58, .int (1 : Int32)] m4 (fun v5 m5 => v5 = none ∧ (yC (xg xs) d 308 [.ref 58] m5 (fun v6 m6 => ∃ u6, v6 = some (Value.int u6) ∧ (yC (xg xs) d 297 [.ref 58, .int u3, .int u6] m6 (fun v7 m7 => v7 = none ∧ (yC (xg xs) d 297 [.ref 58, .int l3, .int u3] m7 (fun v8 m8 => v8 = none ∧ (yC (xg xs) d 295 [.ref 58, .int (44 : Int32)] m8 (fun v9 m9 => ∃ u9, v9 = some (Value.int u9) ∧ ((u9 = 0 → yP (xg xs) (d + 1) 317 113 [(0, .ref 58), (3, .int l3), (4, .int u9)] [] m9 Q) ∧ (¬ u9 = 0 → (yC (xg xs) d 272 [.ref 58] m9 (fun v10 m10 => v10 = none ∧ yP (xg xs) (d + 1) 317 113 [(0, .ref 58), (3, .int l3), (4, .int u9)] [] m10 Q))))))))))))))))))))))))))) : yP (xg xs) (d + 1) 317 33 [(0, .ref 58), (3, .int l3), (4, .int l4)] [] m Q := by
  refine y_st rfl rfl rfl rfl rfl (fun _ _ => rfl) ?_
  show yP (xg xs) (d + 1) 317 35 [(0, .ref 58), (3, .int l3), (4, .int l4)] [.int l4] m Q
  refine y_zeq (t := 116) rfl rfl rfl (fun h => ?_) (fun h => ?_)
  · replace H := H.1 h; clear h
    show yP (xg xs) (d + 1) 317 116 [(0, .ref 58), (3, .int l3), (4, .int l4)] [] m Q
    refine y_headS (l2 := [(0, .ref 58), (3, .int l3)]) [0, 1] [0, 3] [0, 3, 4] rfl rfl (by decide) rfl (by decide) ?_
    exact H
  · replace H := H.2 h; clear h
    refine y_st rfl rfl rfl rfl rfl (fun _ _ => rfl) ?_
    refine y_gf rfl rfl rfl rfl rfl ?_
    show yP (xg xs) (d + 1) 317 42 [(0, .ref 58), (3, .int l3), (4, .int l4)] [.int (m.1 58 3)] m Q
    refine y_zne (t := 116) rfl rfl rfl (fun h => ?_) (fun h => ?_)
    · replace H := H.1 h; clear h
      show yP (xg xs) (d + 1) 317 116 [(0, .ref 58), (3, .int l3), (4, .int l4)] [] m Q
      refine y_headS (l2 := [(0, .ref 58), (3, .int l3)]) [0, 1] [0, 3] [0, 3, 4] rfl rfl (by decide) rfl (by decide) ?_
      exact H
    · replace H := H.2 h; clear h
      refine y_st rfl rfl rfl rfl rfl (fun _ _ => rfl) ?_
      refine y_st rfl rfl rfl rfl rfl (fun _ _ => rfl) ?_
      refine y_st rfl rfl rfl rfl rfl (fun _ _ => rfl) ?_
      show yP (xg xs) (d + 1) 317 48 [(0, .ref 58), (3, .int l3), (4, .int l4)] [.int (2 : Int32), .ref 58, .ref 58] m Q
      refine y_call rfl rfl rfl rfl rfl (Nat.le_of_ble_eq_true rfl) (Nat.le_of_ble_eq_true rfl) rfl (by decide) H (fun v1 m1 H => ?_)
      obtain ⟨u1, rfl, H⟩ := H
      show yP (xg xs) (d + 1) 317 51 [(0, .ref 58), (3, .int l3), (4, .int l4)] [.int u1, .ref 58] m1 Q
      refine y_call rfl rfl rfl rfl rfl (Nat.le_of_ble_eq_true rfl) (Nat.le_of_ble_eq_true rfl) rfl (by decide) H (fun v2 m2 H => ?_)
      obtain ⟨rfl, H⟩ := H
      refine y_st rfl rfl rfl rfl rfl (fun _ _ => rfl) ?_
      refine y_st rfl rfl rfl rfl rfl (fun _ _ => rfl) ?_
      refine y_st rfl rfl rfl rfl rfl (fun _ _ => rfl) ?_
      refine y_gf rfl rfl rfl rfl rfl ?_
      refine y_st rfl rfl rfl rfl rfl (fun _ _ => rfl) ?_
      refine y_gf rfl rfl rfl rfl rfl ?_
      show yP (xg xs) (d + 1) 317 65 [(0, .ref 58), (3, .int l3), (4, .int l4)] [.int (m2.1 58 7), .int (m2.1 58 8), .int (14 : Int32), .ref 58] m2 Q
      refine y_call rfl rfl rfl rfl rfl (Nat.le_of_ble_eq_true rfl) (Nat.le_of_ble_eq_true rfl) rfl (by decide) H (fun v3 m3 H => ?_)
      obtain ⟨u3, rfl, H⟩ := H
      refine y_st rfl rfl rfl rfl rfl (fun _ _ => rfl) ?_
      refine y_st rfl rfl rfl rfl rfl (fun _ _ => rfl) ?_
      show yP (xg xs) (d + 1) 317 71 [(5, .int u3), (0, .ref 58), (3, .int l3), (4, .int l4)] [.ref 58] m3 Q
      refine y_call rfl rfl rfl rfl rfl (Nat.le_of_ble_eq_true rfl) (Nat.le_of_ble_eq_true rfl) rfl (by decide) H (fun v4 m4 H => ?_)
      obtain ⟨rfl, H⟩ := H
      refine y_st rfl rfl rfl rfl rfl (fun _ _ => rfl) ?_
      refine y_st rfl rfl rfl rfl rfl (fun _ _ => rfl) ?_
      show yP (xg xs) (d + 1) 317 76 [(5, .int u3), (0, .ref 58), (3, .int l3), (4, .int l4)] [.int (1 : Int32), .ref 58] m4 Q
      refine y_call rfl rfl rfl rfl rfl (Nat.le_of_ble_eq_true rfl) (Nat.le_of_ble_eq_true rfl) rfl (by decide) H (fun v5 m5 H => ?_)
      obtain ⟨rfl, H⟩ := H
      refine y_st rfl rfl rfl rfl rfl (fun _ _ => rfl) ?_
      refine y_st rfl rfl rfl rfl rfl (fun _ _ => rfl) ?_
      refine y_st rfl rfl rfl rfl rfl (fun _ _ => rfl) ?_
      show yP (xg xs) (d + 1) 317 83 [(5, .int u3), (0, .ref 58), (3, .int l3), (4, .int l4)] [.ref 58, .int u3, .ref 58] m5 Q
      refine y_call rfl rfl rfl rfl rfl (Nat.le_of_ble_eq_true rfl) (Nat.le_of_ble_eq_true rfl) rfl (by decide) H (fun v6 m6 H => ?_)
      obtain ⟨u6, rfl, H⟩ := H
      show yP (xg xs) (d + 1) 317 86 [(5, .int u3), (0, .ref 58), (3, .int l3), (4, .int l4)] [.int u6, .int u3, .ref 58] m6 Q
      refine y_call rfl rfl rfl rfl rfl (Nat.le_of_ble_eq_true rfl) (Nat.le_of_ble_eq_true rfl) rfl (by decide) H (fun v7 m7 H => ?_)
      obtain ⟨rfl, H⟩ := H
      refine y_st rfl rfl rfl rfl rfl (fun _ _ => rfl) ?_
      refine y_st rfl rfl rfl rfl rfl (fun _ _ => rfl) ?_
      refine y_st rfl rfl rfl rfl rfl (fun _ _ => rfl) ?_
      show yP (xg xs) (d + 1) 317 93 [(5, .int u3), (0, .ref 58), (3, .int l3), (4, .int l4)] [.int u3, .int l3, .ref 58] m7 Q
      refine y_call rfl rfl rfl rfl rfl (Nat.le_of_ble_eq_true rfl) (Nat.le_of_ble_eq_true rfl) rfl (by decide) H (fun v8 m8 H => ?_)
      obtain ⟨rfl, H⟩ := H
      refine y_st rfl rfl rfl rfl rfl (fun _ _ => rfl) ?_
      refine y_st rfl rfl rfl rfl rfl (fun _ _ => rfl) ?_
      show yP (xg xs) (d + 1) 317 99 [(5, .int u3), (0, .ref 58), (3, .int l3), (4, .int l4)] [.int (44 : Int32), .ref 58] m8 Q
      refine y_call rfl rfl rfl rfl rfl (Nat.le_of_ble_eq_true rfl) (Nat.le_of_ble_eq_true rfl) rfl (by decide) H (fun v9 m9 H => ?_)
      obtain ⟨u9, rfl, H⟩ := H
      refine y_st rfl rfl rfl rfl rfl (fun _ _ => rfl) ?_
      refine y_st rfl rfl rfl rfl rfl (fun _ _ => rfl) ?_
      show yP (xg xs) (d + 1) 317 106 [(4, .int u9), (5, .int u3), (0, .ref 58), (3, .int l3)] [.int u9] m9 Q
      refine y_zeq (t := 113) rfl rfl rfl (fun h => ?_) (fun h => ?_)
      · replace H := H.1 h; clear h
        show yP (xg xs) (d + 1) 317 113 [(4, .int u9), (5, .int u3), (0, .ref 58), (3, .int l3)] [] m9 Q
        refine y_headS (l2 := [(0, .ref 58), (3, .int l3), (4, .int u9)]) [2, 3, 0] [0, 3, 4] [4, 5, 0, 3] rfl rfl (by decide) rfl (by decide) ?_
        exact H
      · replace H := H.2 h; clear h
        refine y_st rfl rfl rfl rfl rfl (fun _ _ => rfl) ?_
        show yP (xg xs) (d + 1) 317 110 [(4, .int u9), (5, .int u3), (0, .ref 58), (3, .int l3)] [.ref 58] m9 Q
        refine y_call rfl rfl rfl rfl rfl (Nat.le_of_ble_eq_true rfl) (Nat.le_of_ble_eq_true rfl) rfl (by decide) H (fun v10 m10 H => ?_)
        obtain ⟨rfl, H⟩ := H
        show yP (xg xs) (d + 1) 317 113 [(4, .int u9), (5, .int u3), (0, .ref 58), (3, .int l3)] [] m10 Q
        refine y_headS (l2 := [(0, .ref 58), (3, .int l3), (4, .int u9)]) [2, 3, 0] [0, 3, 4] [4, 5, 0, 3] rfl rfl (by decide) rfl (by decide) ?_
        exact H
set_option maxRecDepth 20000 in
/-- CodeMakerModel.readInvocation from 113 on -/
theorem w317_113 (xs : List Int32) (d : Nat) (l3 : Int32) (l4 : Int32) (m : yM) (Q : Option Value → yM → Prop) (H : yP (xg xs) (d + 1) 317 33 [(0, .ref 58), (3, .int l3), (4, .int l4)] [] m Q) : yP (xg xs) (d + 1) 317 113 [(0, .ref 58), (3, .int l3), (4, .int l4)] [] m Q := by
  refine y_st rfl rfl rfl rfl rfl (fun _ _ => rfl) ?_
  show yP (xg xs) (d + 1) 317 33 [(0, .ref 58), (3, .int l3), (4, .int l4)] [] m Q
  exact H
set_option maxRecDepth 20000 in
/-- CodeMakerModel.readInvocation from 116 on -/
theorem w317_116 (xs : List Int32) (d : Nat) (l3 : Int32) (m : yM) (Q : Option Value → yM → Prop) (H : (yC (xg xs) d 294 [.ref 58, .int (41 : Int32)] m (fun v1 m1 => v1 = none ∧ Q (some (.int l3)) (y_si m1 58 22 ((m1.1 58 22) - (1 : Int32)))))) : yP (xg xs) (d + 1) 317 116 [(0, .ref 58), (3, .int l3)] [] m Q := by
  refine y_st rfl rfl rfl rfl rfl (fun _ _ => rfl) ?_
  refine y_st rfl rfl rfl rfl rfl (fun _ _ => rfl) ?_
  show yP (xg xs) (d + 1) 317 119 [(0, .ref 58), (3, .int l3)] [.int (41 : Int32), .ref 58] m Q
  refine y_call rfl rfl rfl rfl rfl (Nat.le_of_ble_eq_true rfl) (Nat.le_of_ble_eq_true rfl) rfl (by decide) H (fun v1 m1 H => ?_)
  obtain ⟨rfl, H⟩ := H
  refine y_st rfl rfl rfl rfl rfl (fun _ _ => rfl) ?_
  refine y_st rfl rfl rfl rfl rfl (fun _ _ => rfl) ?_
  refine y_gf rfl rfl rfl rfl rfl ?_
  refine y_st rfl rfl rfl rfl rfl (fun _ _ => rfl) ?_
  refine y_st rfl rfl rfl rfl rfl (fun _ _ => rfl) ?_
  refine y_pfi rfl rfl rfl rfl rfl (x_fit_i _) ?_
  show yP (xg xs) (d + 1) 317 132 [(0, .ref 58), (3, .int l3)] [] (y_si m1 58 22 ((m1.1 58 22) - (1 : Int32))) Q
  refine y_st rfl rfl rfl rfl rfl (fun _ _ => rfl) ?_
  show yP (xg xs) (d + 1) 317 133 [(0, .ref 58), (3, .int l3)] [.int l3] (y_si m1 58 22 ((m1.1 58 22) - (1 : Int32))) Q
  exact y_iret rfl rfl rfl H
set_option maxRecDepth 20000 in
/-- CodeMakerModel.readRung from 0 on -/
theorem w318_0 (xs : List Int32) (d : Nat) (m : yM) (Q : Option Value → yM → Prop) (H : (yC (xg xs) d 271 [.ref 58, .int (23 : Int32), .int (m.1 58 8), .int (0 : Int32)] m (fun v1 m1 => ∃ u1, v1 = some (Value.int u1) ∧ (yC (xg xs) d 272 [.ref 58] m1 (fun v2 m2 => v2 = none ∧ yP (xg xs) (d + 1) 318 18 [(0, .ref 58), (1, .int u1), (2, .int (1 : Int32))] [] m2 Q))))) : yP (xg xs) (d + 1) 318 0 [(0, .ref 58)] [] m Q := by
  refine y_st rfl rfl rfl rfl rfl (fun _ _ => rfl) ?_
  refine y_st rfl rfl rfl rfl rfl (fun _ _ => rfl) ?_
  refine y_st rfl rfl rfl rfl rfl (fun _ _ => rfl) ?_
  refine y_gf rfl rfl rfl rfl rfl ?_
  refine y_st rfl rfl rfl rfl rfl (fun _ _ => rfl) ?_
  show yP (xg xs) (d + 1) 318 8 [(0, .ref 58)] [.int (0 : Int32), .int (m.1 58 8), .int (23 : Int32), .ref 58] m Q
  refine y_call rfl rfl rfl rfl rfl (Nat.le_of_ble_eq_true rfl) (Nat.le_of_ble_eq_true rfl) rfl (by decide) H (fun v1 m1 H => ?_)
  obtain ⟨u1, rfl, H⟩ := H
  refine y_st rfl rfl rfl rfl rfl (fun _ _ => rfl) ?_
  refine y_st rfl rfl rfl rfl rfl (fun _ _ => rfl) ?_
  show yP (xg xs) (d + 1) 318 13 [(1, .int u1), (0, .ref 58)] [.ref 58] m1 Q
  refine y_call rfl rfl rfl rfl rfl (Nat.le_of_ble_eq_true rfl) (Nat.le_of_ble_eq_true rfl) rfl (by decide) H (fun v2 m2 H => ?_)
  obtain ⟨rfl, H⟩ := H
  refine y_st rfl rfl rfl rfl rfl (fun _ _ => rfl) ?_
  refine y_st rfl rfl rfl rfl rfl (fun _ _ => rfl) ?_
  show yP (xg xs) (d + 1) 318 18 [(2, .int (1 : Int32)), (1, .int u1), (0, .ref 58)] [] m2 Q
  refine y_headS (l2 := [(0, .ref 58), (1, .int u1), (2, .int (1 : Int32))]) [2, 1, 0] [0, 1, 2] [2, 1, 0] rfl rfl (by decide) rfl (by decide) ?_
  exact H
set_option maxRecDepth 20000 in
/-- CodeMakerModel.readRung from 18 on -/
theorem w318_18 (xs : List Int32) (d : Nat) (l1 : Int32) (l2 : Int32) (m : yM) (Q : Option Value → yM → Prop) (H : ((l2 = 0 → yP (xg xs) (d + 1) 318 63 [(0, .ref 58), (1, .int l1)] [] m Q) ∧ (¬ l2 = 0 → ((¬ (m.1 58 3) = 0 → yP (xg xs) (d + 1) 318 63 [(0, .ref 58), (1, .int l1)] [] m Q) ∧ ((m.1 58 3) = 0 → (yC (xg xs) d 319 [.ref 58] m (fun v1 m1 => ∃ u1, v1 = some (Value.int u1) ∧ (yC (xg xs) d 297 [.ref 58, .int l1, .int u1] m1 (fun v2 m2 => v2 = none ∧ ((¬ (m2.1 58 3) = 0 → yP (xg xs) (d + 1) 318 58 [(0, .ref 58), (1, .int l1)] [] m2 Q) ∧ ((m2.1 58 3) = 0 → (yC (xg xs) d 290 [.ref 58, .int (40 : Int32)] m2 (fun v3 m3 => ∃ u3, v3 = some (Value.int u3) ∧ ((¬ u3 = 0 → yP (xg xs) (d + 1) 318 58 [(0, .ref 58), (1, .int l1)] [] m3 Q) ∧ (u3 = 0 → yP (xg xs) (d + 1) 318 59 [(0, .ref 58), (1, .int l1)] [.int (1 : Int32)] m3 Q))))))))))))))) : yP (xg xs) (d + 1) 318 18 [(0, .ref 58), (1, .int l1), (2, .int l2)] [] m Q := by
  refine y_st rfl rfl rfl rfl rfl (fun _ _ => rfl) ?_
  show yP (xg xs) (d + 1) 318 19 [(0, .ref 58), (1, .int l1), (2, .int l2)] [.int l2] m Q
  refine y_zeq (t := 63) rfl rfl rfl (fun h => ?_) (fun h => ?_)
  · replace H := H.1 h; clear h
    show yP (xg xs) (d + 1) 318 63 [(0, .ref 58), (1, .int l1), (2, .int l2)] [] m Q
    refine y_headS (l2 := [(0, .ref 58), (1, .int l1)]) [0, 1] [0, 1] [0, 1, 2] rfl rfl (by decide) rfl (by decide) ?_
    exact H
  · replace H := H.2 h; clear h
    refine y_st rfl rfl rfl rfl rfl (fun _ _ => rfl) ?_
    refine y_gf rfl rfl rfl rfl rfl ?_
    show yP (xg xs) (d + 1) 318 26 [(0, .ref 58), (1, .int l1), (2, .int l2)] [.int (m.1 58 3)] m Q
    refine y_zne (t := 63) rfl rfl rfl (fun h => ?_) (fun h => ?_)
    · replace H := H.1 h; clear h
      show yP (xg xs) (d + 1) 318 63 [(0, .ref 58), (1, .int l1), (2, .int l2)] [] m Q
      refine y_headS (l2 := [(0, .ref 58), (1, .int l1)]) [0, 1] [0, 1] [0, 1, 2] rfl rfl (by decide) rfl (by decide) ?_
      exact H
    · replace H := H.2 h; clear h
      refine y_st rfl rfl rfl rfl rfl (fun _ _ => rfl) ?_
      refine y_st rfl rfl rfl rfl rfl (fun _ _ => rfl) ?_
      refine y_st rfl rfl rfl rfl rfl (fun _ _ => rfl) ?_
      show yP (xg xs) (d + 1) 318 32 [(0, .ref 58), (1, .int l1), (2, .int l2)] [.ref 58, .int l1, .ref 58] m Q
      refine y_call rfl rfl rfl rfl rfl (Nat.le_of_ble_eq_true rfl) (Nat.le_of_ble_eq_true rfl) rfl (by decide) H (fun v1 m1 H => ?_)
      obtain ⟨u1, rfl, H⟩ := H
      show yP (xg xs) (d + 1) 318 35 [(0, .ref 58), (1, .int l1), (2, .int l2)] [.int u1, .int l1, .ref 58] m1 Q
      refine y_call rfl rfl rfl rfl rfl (Nat.le_of_ble_eq_true rfl) (Nat.le_of_ble_eq_true rfl) rfl (by decide) H (fun v2 m2 H => ?_)
      obtain ⟨rfl, H⟩ := H
      refine y_st rfl rfl rfl rfl rfl (fun _ _ => rfl) ?_
      refine y_gf rfl rfl rfl rfl rfl ?_
      show yP (xg xs) (d + 1) 318 42 [(0, .ref 58), (1, .int l1), (2, .int l2)] [.int (m2.1 58 3)] m2 Q
      refine y_zne (t := 58) rfl rfl rfl (fun h => ?_) (fun h => ?_)
      · replace H := H.1 h; clear h
        show yP (xg xs) (d + 1) 318 58 [(0, .ref 58), (1, .int l1), (2, .int l2)] [] m2 Q
        refine y_headS (l2 := [(0, .ref 58), (1, .int l1)]) [0, 1] [0, 1] [0, 1, 2] rfl rfl (by decide) rfl (by decide) ?_
        exact H
      · replace H := H.2 h; clear h
        refine y_st rfl rfl rfl rfl rfl (fun _ _ => rfl) ?_
        refine y_st rfl rfl rfl rfl rfl (fun _ _ => rfl) ?_
        show yP (xg xs) (d + 1) 318 48 [(0, .ref 58), (1, .int l1), (2, .int l2)] [.int (40 : Int32), .ref 58] m2 Q
        refine y_call rfl rfl rfl rfl rfl (Nat.le_of_ble_eq_true rfl) (Nat.le_of_ble_eq_true rfl) rfl (by decide) H (fun v3 m3 H => ?_)
        obtain ⟨u3, rfl, H⟩ := H
        show yP (xg xs) (d + 1) 318 51 [(0, .ref 58), (1, .int l1), (2, .int l2)] [.int u3] m3 Q
        refine y_zne (t := 58) rfl rfl rfl (fun h => ?_) (fun h => ?_)
        · replace H := H.1 h; clear h
          show yP (xg xs) (d + 1) 318 58 [(0, .ref 58), (1, .int l1), (2, .int l2)] [] m3 Q
          refine y_headS (l2 := [(0, .ref 58), (1, .int l1)]) [0, 1] [0, 1] [0, 1, 2] rfl rfl (by decide) rfl (by decide) ?_
          exact H
        · replace H := H.2 h; clear h
          refine y_st rfl rfl rfl rfl rfl (fun _ _ => rfl) ?_
          refine y_st rfl rfl rfl rfl rfl (fun _ _ => rfl) ?_
          show yP (xg xs) (d + 1) 318 59 [(0, .ref 58), (1, .int l1), (2, .int l2)] [.int (1 : Int32)] m3 Q
          refine y_headS (l2 := [(0, .ref 58), (1, .int l1)]) [0, 1] [0, 1] [0, 1, 2] rfl rfl (by decide) rfl (by decide) ?_
          exact H
set_option maxRecDepth 20000 in
/-- CodeMakerModel.readRung from 58 on -/
theorem w318_58 (xs : List Int32) (d : Nat) (l1 : Int32) (m : yM) (Q : Option Value → yM → Prop) (H : yP (xg xs) (d + 1) 318 59 [(0, .ref 58), (1, .int l1)] [.int (0 : Int32)] m Q) : yP (xg xs) (d + 1) 318 58 [(0, .ref 58), (1, .int l1)] [] m Q := by
  refine y_st rfl rfl rfl rfl rfl (fun _ _ => rfl) ?_
  show yP (xg xs) (d + 1) 318 59 [(0, .ref 58), (1, .int l1)] [.int (0 : Int32)] m Q
  exact H
set_option maxRecDepth 20000 in
/-- CodeMakerModel.readRung from 59 on -/
theorem w318_59 (xs : List Int32) (d : Nat) (l1 : Int32) (s0 : Int32) (m : yM) (Q : Option Value → yM → Prop) (H : yP (xg xs) (d + 1) 318 18 [(0, .ref 58), (1, .int l1), (2, .int s0)] [] m Q) : yP (xg xs) (d + 1) 318 59 [(0, .ref 58), (1, .int l1)] [.int s0] m Q := by
  refine y_st rfl rfl rfl rfl rfl (fun _ _ => rfl) ?_
  refine y_st rfl rfl rfl rfl rfl (fun _ _ => rfl) ?_
  show yP (xg xs) (d + 1) 318 18 [(2, .int s0), (0, .ref 58), (1, .int l1)] [] m Q
  refine y_headS (l2 := [(0, .ref 58), (1, .int l1), (2, .int s0)]) [1, 2, 0] [0, 1, 2] [2, 0, 1] rfl rfl (by decide) rfl (by decide) ?_
  exact H
set_option maxRecDepth 20000 in
/-- CodeMakerModel.readRung from 63 on -/
theorem w318_63 (xs : List Int32) (d : Nat) (l1 : Int32) (m : yM) (Q : Option Value → yM → Prop) (H : (yC (xg xs) d 302 [.ref 58, .int (40 : Int32)] m (fun v1 m1 => v1 = none ∧ Q (some (.int l1)) m1))) : yP (xg xs) (d + 1) 318 63 [(0, .ref 58), (1, .int l1)] [] m Q := by
  refine y_st rfl rfl rfl rfl rfl (fun _ _ => rfl) ?_
  refine y_st rfl rfl rfl rfl rfl (fun _ _ => rfl) ?_
  show yP (xg xs) (d + 1) 318 66 [(0, .ref 58), (1, .int l1)] [.int (40 : Int32), .ref 58] m Q
  refine y_call rfl rfl rfl rfl rfl (Nat.le_of_ble_eq_true rfl) (Nat.le_of_ble_eq_true rfl) rfl (by decide) H (fun v1 m1 H => ?_)
  obtain ⟨rfl, H⟩ := H
  refine y_st rfl rfl rfl rfl rfl (fun _ _ => rfl) ?_
  show yP (xg xs) (d + 1) 318 70 [(0, .ref 58), (1, .int l1)] [.int l1] m1 Q
  exact y_iret rfl rfl rfl H
set_option maxRecDepth 20000 in
/-- CodeMakerModel.readRow from 0 on -/
theorem w319_0 (xs : List Int32) (d : Nat) (m : yM) (Q : Option Value → yM → Prop) (H : (yC (xg xs) d 271 [.ref 58, .int (24 : Int32), .int (m.1 58 8), .int (0 : Int32)] m (fun v1 m1 => ∃ u1, v1 = some (Value.int u1) ∧ (yC (xg xs) d 320 [.ref 58] m1 (fun v2 m2 => ∃ u2, v2 = some (Value.int u2) ∧ (yC (xg xs) d 297 [.ref 58, .int u1, .int u2] m2 (fun v3 m3 => v3 = none ∧ yP (xg xs) (d + 1) 319 21 [(0, .ref 58), (1, .int u1)] [] m3 Q))))))) : yP (xg xs) (d + 1) 319 0 [(0, .ref 58)] [] m Q := by
  refine y_st rfl rfl rfl rfl rfl (fun _ _ => rfl) ?_
  refine y_st rfl rfl rfl rfl rfl (fun _ _ => rfl) ?_
  refine y_st rfl rfl rfl rfl rfl (fun _ _ => rfl) ?_
  refine y_gf rfl rfl rfl rfl rfl ?_
  refine y_st rfl rfl rfl rfl rfl (fun _ _ => rfl) ?_
  show yP (xg xs) (d + 1) 319 8 [(0, .ref 58)] [.int (0 : Int32), .int (m.1 58 8), .int (24 : Int32), .ref 58] m Q
  refine y_call rfl rfl rfl rfl rfl (Nat.le_of_ble_eq_true rfl) (Nat.le_of_ble_eq_true rfl) rfl (by decide) H (fun v1 m1 H => ?_)
  obtain ⟨u1, rfl, H⟩ := H
  refine y_st rfl rfl rfl rfl rfl (fun _ _ => rfl) ?_
  refine y_st rfl rfl rfl rfl rfl (fun _ _ => rfl) ?_
  refine y_st rfl rfl rfl rfl rfl (fun _ _ => rfl) ?_
  refine y_st rfl rfl rfl rfl rfl (fun _ _ => rfl) ?_
  show yP (xg xs) (d + 1) 319 15 [(1, .int u1), (0, .ref 58)] [.ref 58, .int u1, .ref 58] m1 Q
  refine y_call rfl rfl rfl rfl rfl (Nat.le_of_ble_eq_true rfl) (Nat.le_of_ble_eq_true rfl) rfl (by decide) H (fun v2 m2 H => ?_)
  obtain ⟨u2, rfl, H⟩ := H
  show yP (xg xs) (d + 1) 319 18 [(1, .int u1), (0, .ref 58)] [.int u2, .int u1, .ref 58] m2 Q
  refine y_call rfl rfl rfl rfl rfl (Nat.le_of_ble_eq_true rfl) (Nat.le_of_ble_eq_true rfl) rfl (by decide) H (fun v3 m3 H => ?_)
  obtain ⟨rfl, H⟩ := H
  show yP (xg xs) (d + 1) 319 21 [(1, .int u1), (0, .ref 58)] [] m3 Q
  refine y_headS (l2 := [(0, .ref 58), (1, .int u1)]) [1, 0] [0, 1] [1, 0] rfl rfl (by decide) rfl (by decide) ?_
  exact H
set_option maxRecDepth 20000 in
/-- CodeMakerModel.readRow from 21 on -/
theorem w319_21 (xs : List Int32) (d : Nat) (l1 : Int32) (m : yM) (Q : Option Value → yM → Prop) (H : ((¬ (m.1 58 3) = 0 → yP (xg xs) (d + 1) 319 78 [(0, .ref 58), (1, .int l1)] [] m Q) ∧ ((m.1 58 3) = 0 → (yC (xg xs) d 295 [.ref 58, .int (59 : Int32)] m (fun v1 m1 => ∃ u1, v1 = some (Value.int u1) ∧ ((¬ u1 = 0 → yP (xg xs) (d + 1) 319 78 [(0, .ref 58), (1, .int l1)] [] m1 Q) ∧ (u1 = 0 → (yC (xg xs) d 295 [.ref 58, .int (124 : Int32)] m1 (fun v2 m2 => ∃ u2, v2 = some (Value.int u2) ∧ ((u2 = 0 → yP (xg xs) (d + 1) 319 66 [(0, .ref 58), (1, .int l1)] [] m2 Q) ∧ (¬ u2 = 0 → (yC (xg xs) d 271 [.ref 58, .int (29 : Int32), .int (m2.1 58 8), .int (0 : Int32)] m2 (fun v3 m3 => ∃ u3, v3 = some (Value.int u3) ∧ (yC (xg xs) d 297 [.ref 58, .int l1, .int u3] m3 (fun v4 m4 => v4 = none ∧ (yC (xg xs) d 272 [.ref 58] m4 (fun v5 m5 => v5 = none ∧ yP (xg xs) (d + 1) 319 66 [(0, .ref 58), (1, .int l1)] [] m5 Q))))))))))))))))) : yP (xg xs) (d + 1) 319 21 [(0, .ref 58), (1, .int l1)] [] m Q := by
  refine y_st rfl rfl rfl rfl rfl (fun _ _ => rfl) ?_
  refine y_gf rfl rfl rfl rfl rfl ?_
  show yP (xg xs) (d + 1) 319 25 [(0, .ref 58), (1, .int l1)] [.int (m.1 58 3)] m Q
  refine y_zne (t := 78) rfl rfl rfl (fun h => ?_) (fun h => ?_)
  · replace H := H.1 h; clear h
    show yP (xg xs) (d + 1) 319 78 [(0, .ref 58), (1, .int l1)] [] m Q
    exact H
  · replace H := H.2 h; clear h
    refine y_st rfl rfl rfl rfl rfl (fun _ _ => rfl) ?_
    refine y_st rfl rfl rfl rfl rfl (fun _ _ => rfl) ?_
    show yP (xg xs) (d + 1) 319 31 [(0, .ref 58), (1, .int l1)] [.int (59 : Int32), .ref 58] m Q
    refine y_call rfl rfl rfl rfl rfl (Nat.le_of_ble_eq_true rfl) (Nat.le_of_ble_eq_true rfl) rfl (by decide) H (fun v1 m1 H => ?_)
    obtain ⟨u1, rfl, H⟩ := H
    show yP (xg xs) (d + 1) 319 34 [(0, .ref 58), (1, .int l1)] [.int u1] m1 Q
    refine y_zne (t := 78) rfl rfl rfl (fun h => ?_) (fun h => ?_)
    · replace H := H.1 h; clear h
      show yP (xg xs) (d + 1) 319 78 [(0, .ref 58), (1, .int l1)] [] m1 Q
      exact H
    · replace H := H.2 h; clear h
      refine y_st rfl rfl rfl rfl rfl (fun _ _ => rfl) ?_
      refine y_st rfl rfl rfl rfl rfl (fun _ _ => rfl) ?_
      show yP (xg xs) (d + 1) 319 40 [(0, .ref 58), (1, .int l1)] [.int (124 : Int32), .ref 58] m1 Q
      refine y_call rfl rfl rfl rfl rfl (Nat.le_of_ble_eq_true rfl) (Nat.le_of_ble_eq_true rfl) rfl (by decide) H (fun v2 m2 H => ?_)
      obtain ⟨u2, rfl, H⟩ := H
      show yP (xg xs) (d + 1) 319 43 [(0, .ref 58), (1, .int l1)] [.int u2] m2 Q
      refine y_zeq (t := 66) rfl rfl rfl (fun h => ?_) (fun h => ?_)
      · replace H := H.1 h; clear h
        show yP (xg xs) (d + 1) 319 66 [(0, .ref 58), (1, .int l1)] [] m2 Q
        exact H
      · replace H := H.2 h; clear h
        refine y_st rfl rfl rfl rfl rfl (fun _ _ => rfl) ?_
        refine y_st rfl rfl rfl rfl rfl (fun _ _ => rfl) ?_
        refine y_st rfl rfl rfl rfl rfl (fun _ _ => rfl) ?_
        refine y_st rfl rfl rfl rfl rfl (fun _ _ => rfl) ?_
        refine y_st rfl rfl rfl rfl rfl (fun _ _ => rfl) ?_
        refine y_gf rfl rfl rfl rfl rfl ?_
        refine y_st rfl rfl rfl rfl rfl (fun _ _ => rfl) ?_
        show yP (xg xs) (d + 1) 319 56 [(0, .ref 58), (1, .int l1)] [.int (0 : Int32), .int (m2.1 58 8), .int (29 : Int32), .ref 58, .int l1, .ref 58] m2 Q
        refine y_call rfl rfl rfl rfl rfl (Nat.le_of_ble_eq_true rfl) (Nat.le_of_ble_eq_true rfl) rfl (by decide) H (fun v3 m3 H => ?_)
        obtain ⟨u3, rfl, H⟩ := H
        show yP (xg xs) (d + 1) 319 59 [(0, .ref 58), (1, .int l1)] [.int u3, .int l1, .ref 58] m3 Q
        refine y_call rfl rfl rfl rfl rfl (Nat.le_of_ble_eq_true rfl) (Nat.le_of_ble_eq_true rfl) rfl (by decide) H (fun v4 m4 H => ?_)
        obtain ⟨rfl, H⟩ := H
        refine y_st rfl rfl rfl rfl rfl (fun _ _ => rfl) ?_
        show yP (xg xs) (d + 1) 319 63 [(0, .ref 58), (1, .int l1)] [.ref 58] m4 Q
        refine y_call rfl rfl rfl rfl rfl (Nat.le_of_ble_eq_true rfl) (Nat.le_of_ble_eq_true rfl) rfl (by decide) H (fun v5 m5 H => ?_)
        obtain ⟨rfl, H⟩ := H
        show yP (xg xs) (d + 1) 319 66 [(0, .ref 58), (1, .int l1)] [] m5 Q
        exact H
set_option maxRecDepth 20000 in
/-- CodeMakerModel.readRow from 66 on -/
theorem w319_66 (xs : List Int32) (d : Nat) (l1 : Int32) (m : yM) (Q : Option Value → yM → Prop) (H : (yC (xg xs) d 320 [.ref 58] m (fun v1 m1 => ∃ u1, v1 = some (Value.int u1) ∧ (yC (xg xs) d 297 [.ref 58, .int l1, .int u1] m1 (fun v2 m2 => v2 = none ∧ yP (xg xs) (d + 1) 319 21 [(0, .ref 58), (1, .int l1)] [] m2 Q))))) : yP (xg xs) (d + 1) 319 66 [(0, .ref 58), (1, .int l1)] [] m Q := by
  refine y_st rfl rfl rfl rfl rfl (fun _ _ => rfl) ?_
  refine y_st rfl rfl rfl rfl rfl (fun _ _ => rfl) ?_
  refine y_st rfl rfl rfl rfl rfl (fun _ _ => rfl) ?_
  show yP (xg xs) (d + 1) 319 69 [(0, .ref 58), (1, .int l1)] [.ref 58, .int l1, .ref 58] m Q
  refine y_call rfl rfl rfl rfl rfl (Nat.le_of_ble_eq_true rfl) (Nat.le_of_ble_eq_true rfl) rfl (by decide) H (fun v1 m1 H => ?_)
  obtain ⟨u1, rfl, H⟩ := H
  show yP (xg xs) (d + 1) 319 72 [(0, .ref 58), (1, .int l1)] [.int u1, .int l1, .ref 58] m1 Q
  refine y_call rfl rfl rfl rfl rfl (Nat.le_of_ble_eq_true rfl) (Nat.le_of_ble_eq_true rfl) rfl (by decide) H (fun v2 m2 H => ?_)
  obtain ⟨rfl, H⟩ := H
  refine y_st rfl rfl rfl rfl rfl (fun _ _ => rfl) ?_
  show yP (xg xs) (d + 1) 319 21 [(0, .ref 58), (1, .int l1)] [] m2 Q
  exact H
set_option maxRecDepth 20000 in
/-- CodeMakerModel.readRow from 78 on -/
theorem w319_78 (xs : List Int32) (d : Nat) (l1 : Int32) (m : yM) (Q : Option Value → yM → Prop) (H : (yC (xg xs) d 294 [.ref 58, .int (59 : Int32)] m (fun v1 m1 => v1 = none ∧ Q (some (.int l1)) m1))) : yP (xg xs) (d + 1) 319 78 [(0, .ref 58), (1, .int l1)] [] m Q := by
  refine y_st rfl rfl rfl rfl rfl (fun _ _ => rfl) ?_
  refine y_st rfl rfl rfl rfl rfl (fun _ _ => rfl) ?_
  show yP (xg xs) (d + 1) 319 81 [(0, .ref 58), (1, .int l1)] [.int (59 : Int32), .ref 58] m Q
  refine y_call rfl rfl rfl rfl rfl (Nat.le_of_ble_eq_true rfl) (Nat.le_of_ble_eq_true rfl) rfl (by decide) H (fun v1 m1 H => ?_)
  obtain ⟨rfl, H⟩ := H
  refine y_st rfl rfl rfl rfl rfl (fun _ _ => rfl) ?_
  show yP (xg xs) (d + 1) 319 85 [(0, .ref 58), (1, .int l1)] [.int l1] m1 Q
  exact y_iret rfl rfl rfl H
set_option maxRecDepth 20000 in
/-- CodeMakerModel.readCell from 0 on -/
theorem w320_0 (xs : List Int32) (d : Nat) (m : yM) (Q : Option Value → yM → Prop) (H : (yC (xg xs) d 295 [.ref 58, .int (45 : Int32)] m (fun v1 m1 => ∃ u1, v1 = some (Value.int u1) ∧ ((¬ u1 = 0 → yP (xg xs) (d + 1) 320 23 [(0, .ref 58), (1, .int (m.1 58 8))] [] m1 Q) ∧ (u1 = 0 → (yC (xg xs) d 295 [.ref 58, .int (42 : Int32)] m1 (fun v2 m2 => ∃ u2, v2 = some (Value.int u2) ∧ ((u2 = 0 → (yC (xg xs) d 295 [.ref 58, .int (40 : Int32)] m2 (fun v3 m3 => ∃ u3, v3 = some (Value.int u3) ∧ ((u3 = 0 → (yC (xg xs) d 295 [.ref 58, .int (47 : Int32)] m3 (fun v4 m4 => ∃ u4, v4 = some (Value.int u4) ∧ ((u4 = 0 → (yC (xg xs) d 295 [.ref 58, .int (62 : Int32)] m4 (fun v5 m5 => ∃ u5, v5 = some (Value.int u5) ∧ ((u5 = 0 → (yC (xg xs) d 295 [.ref 58, .int (60 : Int32)] m5 (fun v6 m6 => ∃ u6, v6 = some (Value.int u6) ∧ ((u6 = 0 → yP (xg xs) (d + 1) 320 203 [(0, .ref 58), (1, .int (m.1 58 8))] [.int (0 : Int32)] m6 Q) ∧ (¬ u6 = 0 → yP (xg xs) (d + 1) 320 203 [(0, .ref 58), (1, .int (m.1 58 8))] [.int (3 : Int32)] m6 Q))))) ∧ (¬ u5 = 0 → yP (xg xs) (d + 1) 320 203 [(0, .ref 58), (1, .int (m.1 58 8))] [.int (2 : Int32)] m5 Q))))) ∧ (¬ u4 = 0 → yP (xg xs) (d + 1) 320 203 [(0, .ref 58), (1, .int (m.1 58 8))] [.int (1 : Int32)] m4 Q))))) ∧ (¬ u3 = 0 → (yC (xg xs) d 272 [.ref 58] m3 (fun v7 m7 => v7 = none ∧ (yC (xg xs) d 295 [.ref 58, .int (47 : Int32)] m7 (fun v8 m8 => ∃ u8, v8 = some (Value.int u8) ∧ ((u8 = 0 → (yC (xg xs) d 295 [.ref 58, .int (43 : Int32)] m8 (fun v9 m9 => ∃ u9, v9 = some (Value.int u9) ∧ ((u9 = 0 → (yC (xg xs) d 295 [.ref 58, .int (45 : Int32)] m9 (fun v10 m10 => ∃ u10, v10 = some (Value.int u10) ∧ ((u10 = 0 → yP (xg xs) (d + 1) 320 105 [(0, .ref 58), (1, .int (m.1 58 8))] [.int (0 : Int32)] m10 Q) ∧ (¬ u10 = 0 → yP (xg xs) (d + 1) 320 105 [(0, .ref 58), (1, .int (m.1 58 8))] [.int (3 : Int32)] m10 Q))))) ∧ (¬ u9 = 0 → yP (xg xs) (d + 1) 320 105 [(0, .ref 58), (1, .int (m.1 58 8))] [.int (2 : Int32)] m9 Q))))) ∧ (¬ u8 = 0 → yP (xg xs) (d + 1) 320 105 [(0, .ref 58), (1, .int (m.1 58 8))] [.int (1 : Int32)] m8 Q))))))))))) ∧ (¬ u2 = 0 → yP (xg xs) (d + 1) 320 23 [(0, .ref 58), (1, .int (m.1 58 8))] [] m2 Q))))))))) : yP (xg xs) (d + 1) 320 0 [(0, .ref 58)] [] m Q := by
  refine y_st rfl rfl rfl rfl rfl (fun _ _ => rfl) ?_
  refine y_gf rfl rfl rfl rfl rfl ?_
  refine y_st rfl rfl rfl rfl rfl (fun _ _ => rfl) ?_
  refine y_st rfl rfl rfl rfl rfl (fun _ _ => rfl) ?_
  refine y_st rfl rfl rfl rfl rfl (fun _ _ => rfl) ?_
  show yP (xg xs) (d + 1) 320 8 [(1, .int (m.1 58 8)), (0, .ref 58)] [.int (45 : Int32), .ref 58] m Q
  refine y_call rfl rfl rfl rfl rfl (Nat.le_of_ble_eq_true rfl) (Nat.le_of_ble_eq_true rfl) rfl (by decide) H (fun v1 m1 H => ?_)
  obtain ⟨u1, rfl, H⟩ := H
  show yP (xg xs) (d + 1) 320 11 [(1, .int (m.1 58 8)), (0, .ref 58)] [.int u1] m1 Q
  refine y_zne (t := 23) rfl rfl rfl (fun h => ?_) (fun h => ?_)
  · replace H := H.1 h; clear h
    show yP (xg xs) (d + 1) 320 23 [(1, .int (m.1 58 8)), (0, .ref 58)] [] m1 Q
    refine y_headS (l2 := [(0, .ref 58), (1, .int (m.1 58 8))]) [1, 0] [0, 1] [1, 0] rfl rfl (by decide) rfl (by decide) ?_
    exact H
  · replace H := H.2 h; clear h
    refine y_st rfl rfl rfl rfl rfl (fun _ _ => rfl) ?_
    refine y_st rfl rfl rfl rfl rfl (fun _ _ => rfl) ?_
    show yP (xg xs) (d + 1) 320 17 [(1, .int (m.1 58 8)), (0, .ref 58)] [.int (42 : Int32), .ref 58] m1 Q
    refine y_call rfl rfl rfl rfl rfl (Nat.le_of_ble_eq_true rfl) (Nat.le_of_ble_eq_true rfl) rfl (by decide) H (fun v2 m2 H => ?_)
    obtain ⟨u2, rfl, H⟩ := H
    show yP (xg xs) (d + 1) 320 20 [(1, .int (m.1 58 8)), (0, .ref 58)] [.int u2] m2 Q
    refine y_zeq (t := 52) rfl rfl rfl (fun h => ?_) (fun h => ?_)
    · replace H := H.1 h; clear h
      refine y_st rfl rfl rfl rfl rfl (fun _ _ => rfl) ?_
      refine y_st rfl rfl rfl rfl rfl (fun _ _ => rfl) ?_
      show yP (xg xs) (d + 1) 320 55 [(1, .int (m.1 58 8)), (0, .ref 58)] [.int (40 : Int32), .ref 58] m2 Q
      refine y_call rfl rfl rfl rfl rfl (Nat.le_of_ble_eq_true rfl) (Nat.le_of_ble_eq_true rfl) rfl (by decide) H (fun v3 m3 H => ?_)
      obtain ⟨u3, rfl, H⟩ := H
      show yP (xg xs) (d + 1) 320 58 [(1, .int (m.1 58 8)), (0, .ref 58)] [.int u3] m3 Q
      refine y_zeq (t := 163) rfl rfl rfl (fun h => ?_) (fun h => ?_)
      · replace H := H.1 h; clear h
        refine y_st rfl rfl rfl rfl rfl (fun _ _ => rfl) ?_
        refine y_st rfl rfl rfl rfl rfl (fun _ _ => rfl) ?_
        show yP (xg xs) (d + 1) 320 166 [(1, .int (m.1 58 8)), (0, .ref 58)] [.int (47 : Int32), .ref 58] m3 Q
        refine y_call rfl rfl rfl rfl rfl (Nat.le_of_ble_eq_true rfl) (Nat.le_of_ble_eq_true rfl) rfl (by decide) H (fun v4 m4 H => ?_)
        obtain ⟨u4, rfl, H⟩ := H
        show yP (xg xs) (d + 1) 320 169 [(1, .int (m.1 58 8)), (0, .ref 58)] [.int u4] m4 Q
        refine y_zeq (t := 176) rfl rfl rfl (fun h => ?_) (fun h => ?_)
        · replace H := H.1 h; clear h
          refine y_st rfl rfl rfl rfl rfl (fun _ _ => rfl) ?_
          refine y_st rfl rfl rfl rfl rfl (fun _ _ => rfl) ?_
          show yP (xg xs) (d + 1) 320 179 [(1, .int (m.1 58 8)), (0, .ref 58)] [.int (62 : Int32), .ref 58] m4 Q
          refine y_call rfl rfl rfl rfl rfl (Nat.le_of_ble_eq_true rfl) (Nat.le_of_ble_eq_true rfl) rfl (by decide) H (fun v5 m5 H => ?_)
          obtain ⟨u5, rfl, H⟩ := H
          show yP (xg xs) (d + 1) 320 182 [(1, .int (m.1 58 8)), (0, .ref 58)] [.int u5] m5 Q
          refine y_zeq (t := 189) rfl rfl rfl (fun h => ?_) (fun h => ?_)
          · replace H := H.1 h; clear h
            refine y_st rfl rfl rfl rfl rfl (fun _ _ => rfl) ?_
            refine y_st rfl rfl rfl rfl rfl (fun _ _ => rfl) ?_
            show yP (xg xs) (d + 1) 320 192 [(1, .int (m.1 58 8)), (0, .ref 58)] [.int (60 : Int32), .ref 58] m5 Q
            refine y_call rfl rfl rfl rfl rfl (Nat.le_of_ble_eq_true rfl) (Nat.le_of_ble_eq_true rfl) rfl (by decide) H (fun v6 m6 H => ?_)
            obtain ⟨u6, rfl, H⟩ := H
            show yP (xg xs) (d + 1) 320 195 [(1, .int (m.1 58 8)), (0, .ref 58)] [.int u6] m6 Q
            refine y_zeq (t := 202) rfl rfl rfl (fun h => ?_) (fun h => ?_)
            · replace H := H.1 h; clear h
              refine y_st rfl rfl rfl rfl rfl (fun _ _ => rfl) ?_
              show yP (xg xs) (d + 1) 320 203 [(1, .int (m.1 58 8)), (0, .ref 58)] [.int (0 : Int32)] m6 Q
              refine y_headS (l2 := [(0, .ref 58), (1, .int (m.1 58 8))]) [1, 0] [0, 1] [1, 0] rfl rfl (by decide) rfl (by decide) ?_
              exact H
            · replace H := H.2 h; clear h
              refine y_st rfl rfl rfl rfl rfl (fun _ _ => rfl) ?_
              refine y_st rfl rfl rfl rfl rfl (fun _ _ => rfl) ?_
              show yP (xg xs) (d + 1) 320 203 [(1, .int (m.1 58 8)), (0, .ref 58)] [.int (3 : Int32)] m6 Q
              refine y_headS (l2 := [(0, .ref 58), (1, .int (m.1 58 8))]) [1, 0] [0, 1] [1, 0] rfl rfl (by decide) rfl (by decide) ?_
              exact H
          · replace H := H.2 h; clear h
            refine y_st rfl rfl rfl rfl rfl (fun _ _ => rfl) ?_
            refine y_st rfl rfl rfl rfl rfl (fun _ _ => rfl) ?_
            show yP (xg xs) (d + 1) 320 203 [(1, .int (m.1 58 8)), (0, .ref 58)] [.int (2 : Int32)] m5 Q
            refine y_headS (l2 := [(0, .ref 58), (1, .int (m.1 58 8))]) [1, 0] [0, 1] [1, 0] rfl rfl (by decide) rfl (by decide) ?_
            exact H
        · replace H := H.2 h; clear h
          refine y_st rfl rfl rfl rfl rfl (fun _ _ => rfl) ?_
          refine y_st rfl rfl rfl rfl rfl (fun _ _ => rfl) ?_
          show yP (xg xs) (d + 1) 320 203 [(1, .int (m.1 58 8)), (0, .ref 58)] [.int (1 : Int32)] m4 Q
          refine y_headS (l2 := [(0, .ref 58), (1, .int (m.1 58 8))]) [1, 0] [0, 1] [1, 0] rfl rfl (by decide) rfl (by decide) ?_
          exact H
      · replace H := H.2 h; clear h
        refine y_st rfl rfl rfl rfl rfl (fun _ _ => rfl) ?_
        show yP (xg xs) (d + 1) 320 62 [(1, .int (m.1 58 8)), (0, .ref 58)] [.ref 58] m3 Q
        refine y_call rfl rfl rfl rfl rfl (Nat.le_of_ble_eq_true rfl) (Nat.le_of_ble_eq_true rfl) rfl (by decide) H (fun v7 m7 H => ?_)
        obtain ⟨rfl, H⟩ := H
        refine y_st rfl rfl rfl rfl rfl (fun _ _ => rfl) ?_
        refine y_st rfl rfl rfl rfl rfl (fun _ _ => rfl) ?_
        show yP (xg xs) (d + 1) 320 68 [(1, .int (m.1 58 8)), (0, .ref 58)] [.int (47 : Int32), .ref 58] m7 Q
        refine y_call rfl rfl rfl rfl rfl (Nat.le_of_ble_eq_true rfl) (Nat.le_of_ble_eq_true rfl) rfl (by decide) H (fun v8 m8 H => ?_)
        obtain ⟨u8, rfl, H⟩ := H
        show yP (xg xs) (d + 1) 320 71 [(1, .int (m.1 58 8)), (0, .ref 58)] [.int u8] m8 Q
        refine y_zeq (t := 78) rfl rfl rfl (fun h => ?_) (fun h => ?_)
        · replace H := H.1 h; clear h
          refine y_st rfl rfl rfl rfl rfl (fun _ _ => rfl) ?_
          refine y_st rfl rfl rfl rfl rfl (fun _ _ => rfl) ?_
          show yP (xg xs) (d + 1) 320 81 [(1, .int (m.1 58 8)), (0, .ref 58)] [.int (43 : Int32), .ref 58] m8 Q
          refine y_call rfl rfl rfl rfl rfl (Nat.le_of_ble_eq_true rfl) (Nat.le_of_ble_eq_true rfl) rfl (by decide) H (fun v9 m9 H => ?_)
          obtain ⟨u9, rfl, H⟩ := H
          show yP (xg xs) (d + 1) 320 84 [(1, .int (m.1 58 8)), (0, .ref 58)] [.int u9] m9 Q
          refine y_zeq (t := 91) rfl rfl rfl (fun h => ?_) (fun h => ?_)
          · replace H := H.1 h; clear h
            refine y_st rfl rfl rfl rfl rfl (fun _ _ => rfl) ?_
            refine y_st rfl rfl rfl rfl rfl (fun _ _ => rfl) ?_
            show yP (xg xs) (d + 1) 320 94 [(1, .int (m.1 58 8)), (0, .ref 58)] [.int (45 : Int32), .ref 58] m9 Q
            refine y_call rfl rfl rfl rfl rfl (Nat.le_of_ble_eq_true rfl) (Nat.le_of_ble_eq_true rfl) rfl (by decide) H (fun v10 m10 H => ?_)
            obtain ⟨u10, rfl, H⟩ := H
            show yP (xg xs) (d + 1) 320 97 [(1, .int (m.1 58 8)), (0, .ref 58)] [.int u10] m10 Q
            refine y_zeq (t := 104) rfl rfl rfl (fun h => ?_) (fun h => ?_)
            · replace H := H.1 h; clear h
              refine y_st rfl rfl rfl rfl rfl (fun _ _ => rfl) ?_
              show yP (xg xs) (d + 1) 320 105 [(1, .int (m.1 58 8)), (0, .ref 58)] [.int (0 : Int32)] m10 Q
              refine y_headS (l2 := [(0, .ref 58), (1, .int (m.1 58 8))]) [1, 0] [0, 1] [1, 0] rfl rfl (by decide) rfl (by decide) ?_
              exact H
            · replace H := H.2 h; clear h
              refine y_st rfl rfl rfl rfl rfl (fun _ _ => rfl) ?_
              refine y_st rfl rfl rfl rfl rfl (fun _ _ => rfl) ?_
              show yP (xg xs) (d + 1) 320 105 [(1, .int (m.1 58 8)), (0, .ref 58)] [.int (3 : Int32)] m10 Q
              refine y_headS (l2 := [(0, .ref 58), (1, .int (m.1 58 8))]) [1, 0] [0, 1] [1, 0] rfl rfl (by decide) rfl (by decide) ?_
              exact H
          · replace H := H.2 h; clear h
            refine y_st rfl rfl rfl rfl rfl (fun _ _ => rfl) ?_
            refine y_st rfl rfl rfl rfl rfl (fun _ _ => rfl) ?_
            show yP (xg xs) (d + 1) 320 105 [(1, .int (m.1 58 8)), (0, .ref 58)] [.int (2 : Int32)] m9 Q
            refine y_headS (l2 := [(0, .ref 58), (1, .int (m.1 58 8))]) [1, 0] [0, 1] [1, 0] rfl rfl (by decide) rfl (by decide) ?_
            exact H
        · replace H := H.2 h; clear h
          refine y_st rfl rfl rfl rfl rfl (fun _ _ => rfl) ?_
          refine y_st rfl rfl rfl rfl rfl (fun _ _ => rfl) ?_
          show yP (xg xs) (d + 1) 320 105 [(1, .int (m.1 58 8)), (0, .ref 58)] [.int (1 : Int32)] m8 Q
          refine y_headS (l2 := [(0, .ref 58), (1, .int (m.1 58 8))]) [1, 0] [0, 1] [1, 0] rfl rfl (by decide) rfl (by decide) ?_
          exact H
    · replace H := H.2 h; clear h
      show yP (xg xs) (d + 1) 320 23 [(1, .int (m.1 58 8)), (0, .ref 58)] [] m2 Q
      refine y_headS (l2 := [(0, .ref 58), (1, .int (m.1 58 8))]) [1, 0] [0, 1] [1, 0] rfl rfl (by decide) rfl (by decide) ?_
      exact H
set_option maxRecDepth 20000 in
/-- CodeMakerModel.readCell from 23 on -/
theorem w320_23 (xs : List Int32) (d : Nat) (l1 : Int32) (m : yM) (Q : Option Value → yM → Prop) (H : (yC (xg xs) d 295 [.ref 58, .int (45 : Int32)] m (fun v1 m1 => ∃ u1, v1 = some (Value.int u1) ∧ ((u1 = 0 → yP (xg xs) (d + 1) 320 40 [(0, .ref 58), (1, .int l1)] [.int (27 : Int32), .ref 58] m1 Q) ∧ (¬ u1 = 0 → yP (xg xs) (d + 1) 320 40 [(0, .ref 58), (1, .int l1)] [.int (26 : Int32), .ref 58] m1 Q))))) : yP (xg xs) (d + 1) 320 23 [(0, .ref 58), (1, .int l1)] [] m Q := by
  refine y_st rfl rfl rfl rfl rfl (fun _ _ => rfl) ?_
  refine y_st rfl rfl rfl rfl rfl (fun _ _ => rfl) ?_
  refine y_st rfl rfl rfl rfl rfl (fun _ _ => rfl) ?_
  show yP (xg xs) (d + 1) 320 27 [(0, .ref 58), (1, .int l1)] [.int (45 : Int32), .ref 58, .ref 58] m Q
  refine y_call rfl rfl rfl rfl rfl (Nat.le_of_ble_eq_true rfl) (Nat.le_of_ble_eq_true rfl) rfl (by decide) H (fun v1 m1 H => ?_)
  obtain ⟨u1, rfl, H⟩ := H
  show yP (xg xs) (d + 1) 320 30 [(0, .ref 58), (1, .int l1)] [.int u1, .ref 58] m1 Q
  refine y_zeq (t := 38) rfl rfl rfl (fun h => ?_) (fun h => ?_)
  · replace H := H.1 h; clear h
    refine y_st rfl rfl rfl rfl rfl (fun _ _ => rfl) ?_
    show yP (xg xs) (d + 1) 320 40 [(0, .ref 58), (1, .int l1)] [.int (27 : Int32), .ref 58] m1 Q
    exact H
  · replace H := H.2 h; clear h
    refine y_st rfl rfl rfl rfl rfl (fun _ _ => rfl) ?_
    refine y_st rfl rfl rfl rfl rfl (fun _ _ => rfl) ?_
    show yP (xg xs) (d + 1) 320 40 [(0, .ref 58), (1, .int l1)] [.int (26 : Int32), .ref 58] m1 Q
    exact H
set_option maxRecDepth 20000 in
/-- CodeMakerModel.readCell from 40 on -/
theorem w320_40 (xs : List Int32) (d : Nat) (l1 : Int32) (s1 : Int32) (m : yM) (Q : Option Value → yM → Prop) (H : (yC (xg xs) d 271 [.ref 58, .int s1, .int l1, .int (0 : Int32)] m (fun v1 m1 => ∃ u1, v1 = some (Value.int u1) ∧ (yC (xg xs) d 272 [.ref 58] m1 (fun v2 m2 => v2 = none ∧ Q (some (.int u1)) m2))))) : yP (xg xs) (d + 1) 320 40 [(0, .ref 58), (1, .int l1)] [.int s1, .ref 58] m Q := by
  refine y_st rfl rfl rfl rfl rfl (fun _ _ => rfl) ?_
  refine y_st rfl rfl rfl rfl rfl (fun _ _ => rfl) ?_
  show yP (xg xs) (d + 1) 320 42 [(0, .ref 58), (1, .int l1)] [.int (0 : Int32), .int l1, .int s1, .ref 58] m Q
  refine y_call rfl rfl rfl rfl rfl (Nat.le_of_ble_eq_true rfl) (Nat.le_of_ble_eq_true rfl) rfl (by decide) H (fun v1 m1 H => ?_)
  obtain ⟨u1, rfl, H⟩ := H
  refine y_st rfl rfl rfl rfl rfl (fun _ _ => rfl) ?_
  refine y_st rfl rfl rfl rfl rfl (fun _ _ => rfl) ?_
  show yP (xg xs) (d + 1) 320 47 [(2, .int u1), (0, .ref 58), (1, .int l1)] [.ref 58] m1 Q
  refine y_call rfl rfl rfl rfl rfl (Nat.le_of_ble_eq_true rfl) (Nat.le_of_ble_eq_true rfl) rfl (by decide) H (fun v2 m2 H => ?_)
  obtain ⟨rfl, H⟩ := H
  refine y_st rfl rfl rfl rfl rfl (fun _ _ => rfl) ?_
  show yP (xg xs) (d + 1) 320 51 [(2, .int u1), (0, .ref 58), (1, .int l1)] [.int u1] m2 Q
  exact y_iret rfl rfl rfl H
set_option maxRecDepth 20000 in
/-- CodeMakerModel.readCell from 105 on -/
theorem w320_105 (xs : List Int32) (d : Nat) (l1 : Int32) (s0 : Int32) (m : yM) (Q : Option Value → yM → Prop) (H : ((s0 ≤ 0 → yP (xg xs) (d + 1) 320 114 [(0, .ref 58), (1, .int l1), (2, .int s0)] [] m Q) ∧ (¬ s0 ≤ 0 → (yC (xg xs) d 272 [.ref 58] m (fun v1 m1 => v1 = none ∧ yP (xg xs) (d + 1) 320 114 [(0, .ref 58), (1, .int l1), (2, .int s0)] [] m1 Q))))) : yP (xg xs) (d + 1) 320 105 [(0, .ref 58), (1, .int l1)] [.int s0] m Q := by
  refine y_st rfl rfl rfl rfl rfl (fun _ _ => rfl) ?_
  refine y_st rfl rfl rfl rfl rfl (fun _ _ => rfl) ?_
  show yP (xg xs) (d + 1) 320 107 [(2, .int s0), (0, .ref 58), (1, .int l1)] [.int s0] m Q
  refine y_zle (t := 114) rfl rfl rfl (fun h => ?_) (fun h => ?_)
  · replace H := H.1 h; clear h
    show yP (xg xs) (d + 1) 320 114 [(2, .int s0), (0, .ref 58), (1, .int l1)] [] m Q
    refine y_headS (l2 := [(0, .ref 58), (1, .int l1), (2, .int s0)]) [1, 2, 0] [0, 1, 2] [2, 0, 1] rfl rfl (by decide) rfl (by decide) ?_
    exact H
  · replace H := H.2 h; clear h
    refine y_st rfl rfl rfl rfl rfl (fun _ _ => rfl) ?_
    show yP (xg xs) (d + 1) 320 111 [(2, .int s0), (0, .ref 58), (1, .int l1)] [.ref 58] m Q
    refine y_call rfl rfl rfl rfl rfl (Nat.le_of_ble_eq_true rfl) (Nat.le_of_ble_eq_true rfl) rfl (by decide) H (fun v1 m1 H => ?_)
    obtain ⟨rfl, H⟩ := H
    show yP (xg xs) (d + 1) 320 114 [(2, .int s0), (0, .ref 58), (1, .int l1)] [] m1 Q
    refine y_headS (l2 := [(0, .ref 58), (1, .int l1), (2, .int s0)]) [1, 2, 0] [0, 1, 2] [2, 0, 1] rfl rfl (by decide) rfl (by decide) ?_
    exact H
set_option maxRecDepth 20000 in
/-- CodeMakerModel.readCell from 114 on -/
theorem w320_114 (xs : List Int32) (d : Nat) (l1 : Int32) (l2 : Int32) (m : yM) (Q : Option Value → yM → Prop) (H : (yC (xg xs) d 271 [.ref 58, .int (28 : Int32), .int l1, .int l2] m (fun v1 m1 => ∃ u1, v1 = some (Value.int u1) ∧ (yC (xg xs) d 293 [.ref 58, .int (2 : Int32)] m1 (fun v2 m2 => ∃ u2, v2 = some (Value.int u2) ∧ (yC (xg xs) d 291 [.ref 58, .int u2] m2 (fun v3 m3 => v3 = none ∧ (yC (xg xs) d 271 [.ref 58, .int (6 : Int32), .int (m3.1 58 8), .int (m3.1 58 7)] m3 (fun v4 m4 => ∃ u4, v4 = some (Value.int u4) ∧ (yC (xg xs) d 297 [.ref 58, .int u1, .int u4] m4 (fun v5 m5 => v5 = none ∧ (yC (xg xs) d 272 [.ref 58] m5 (fun v6 m6 => v6 = none ∧ (yC (xg xs) d 294 [.ref 58, .int (41 : Int32)] m6 (fun v7 m7 => v7 = none ∧ Q (some (.int u1)) m7))))))))))))))) : yP (xg xs) (d + 1) 320 114 [(0, .ref 58), (1, .int l1), (2, .int l2)] [] m Q := by
  refine y_st rfl rfl rfl rfl rfl (fun _ _ => rfl) ?_
  refine y_st rfl rfl rfl rfl rfl (fun _ _ => rfl) ?_
  refine y_st rfl rfl rfl rfl rfl (fun _ _ => rfl) ?_
  refine y_st rfl rfl rfl rfl rfl (fun _ _ => rfl) ?_
  show yP (xg xs) (d + 1) 320 119 [(0, .ref 58), (1, .int l1), (2, .int l2)] [.int l2, .int l1, .int (28 : Int32), .ref 58] m Q
  refine y_call rfl rfl rfl rfl rfl (Nat.le_of_ble_eq_true rfl) (Nat.le_of_ble_eq_true rfl) rfl (by decide) H (fun v1 m1 H => ?_)
  obtain ⟨u1, rfl, H⟩ := H
  refine y_st rfl rfl rfl rfl rfl (fun _ _ => rfl) ?_
  refine y_st rfl rfl rfl rfl rfl (fun _ _ => rfl) ?_
  refine y_st rfl rfl rfl rfl rfl (fun _ _ => rfl) ?_
  refine y_st rfl rfl rfl rfl rfl (fun _ _ => rfl) ?_
  show yP (xg xs) (d + 1) 320 126 [(3, .int u1), (0, .ref 58), (1, .int l1), (2, .int l2)] [.int (2 : Int32), .ref 58, .ref 58] m1 Q
  refine y_call rfl rfl rfl rfl rfl (Nat.le_of_ble_eq_true rfl) (Nat.le_of_ble_eq_true rfl) rfl (by decide) H (fun v2 m2 H => ?_)
  obtain ⟨u2, rfl, H⟩ := H
  show yP (xg xs) (d + 1) 320 129 [(3, .int u1), (0, .ref 58), (1, .int l1), (2, .int l2)] [.int u2, .ref 58] m2 Q
  refine y_call rfl rfl rfl rfl rfl (Nat.le_of_ble_eq_true rfl) (Nat.le_of_ble_eq_true rfl) rfl (by decide) H (fun v3 m3 H => ?_)
  obtain ⟨rfl, H⟩ := H
  refine y_st rfl rfl rfl rfl rfl (fun _ _ => rfl) ?_
  refine y_st rfl rfl rfl rfl rfl (fun _ _ => rfl) ?_
  refine y_st rfl rfl rfl rfl rfl (fun _ _ => rfl) ?_
  refine y_st rfl rfl rfl rfl rfl (fun _ _ => rfl) ?_
  refine y_st rfl rfl rfl rfl rfl (fun _ _ => rfl) ?_
  refine y_gf rfl rfl rfl rfl rfl ?_
  refine y_st rfl rfl rfl rfl rfl (fun _ _ => rfl) ?_
  refine y_gf rfl rfl rfl rfl rfl ?_
  show yP (xg xs) (d + 1) 320 145 [(3, .int u1), (0, .ref 58), (1, .int l1), (2, .int l2)] [.int (m3.1 58 7), .int (m3.1 58 8), .int (6 : Int32), .ref 58, .int u1, .ref 58] m3 Q
  refine y_call rfl rfl rfl rfl rfl (Nat.le_of_ble_eq_true rfl) (Nat.le_of_ble_eq_true rfl) rfl (by decide) H (fun v4 m4 H => ?_)
  obtain ⟨u4, rfl, H⟩ := H
  show yP (xg xs) (d + 1) 320 148 [(3, .int u1), (0, .ref 58), (1, .int l1), (2, .int l2)] [.int u4, .int u1, .ref 58] m4 Q
  refine y_call rfl rfl rfl rfl rfl (Nat.le_of_ble_eq_true rfl) (Nat.le_of_ble_eq_true rfl) rfl (by decide) H (fun v5 m5 H => ?_)
  obtain ⟨rfl, H⟩ := H
  refine y_st rfl rfl rfl rfl rfl (fun _ _ => rfl) ?_
  show yP (xg xs) (d + 1) 320 152 [(3, .int u1), (0, .ref 58), (1, .int l1), (2, .int l2)] [.ref 58] m5 Q
  refine y_call rfl rfl rfl rfl rfl (Nat.le_of_ble_eq_true rfl) (Nat.le_of_ble_eq_true rfl) rfl (by decide) H (fun v6 m6 H => ?_)
  obtain ⟨rfl, H⟩ := H
  refine y_st rfl rfl rfl rfl rfl (fun _ _ => rfl) ?_
  refine y_st rfl rfl rfl rfl rfl (fun _ _ => rfl) ?_
  show yP (xg xs) (d + 1) 320 158 [(3, .int u1), (0, .ref 58), (1, .int l1), (2, .int l2)] [.int (41 : Int32), .ref 58] m6 Q
  refine y_call rfl rfl rfl rfl rfl (Nat.le_of_ble_eq_true rfl) (Nat.le_of_ble_eq_true rfl) rfl (by decide) H (fun v7 m7 H => ?_)
  obtain ⟨rfl, H⟩ := H
  refine y_st rfl rfl rfl rfl rfl (fun _ _ => rfl) ?_
  show yP (xg xs) (d + 1) 320 162 [(3, .int u1), (0, .ref 58), (1, .int l1), (2, .int l2)] [.int u1] m7 Q
  exact y_iret rfl rfl rfl H
set_option maxRecDepth 20000 in
/-- CodeMakerModel.readCell from 203 on -/
theorem w320_203 (xs : List Int32) (d : Nat) (l1 : Int32) (s0 : Int32) (m : yM) (Q : Option Value → yM → Prop) (H : ((s0 ≤ 0 → yP (xg xs) (d + 1) 320 212 [(0, .ref 58), (1, .int l1), (2, .int s0)] [] m Q) ∧ (¬ s0 ≤ 0 → (yC (xg xs) d 272 [.ref 58] m (fun v1 m1 => v1 = none ∧ yP (xg xs) (d + 1) 320 212 [(0, .ref 58), (1, .int l1), (2, .int s0)] [] m1 Q))))) : yP (xg xs) (d + 1) 320 203 [(0, .ref 58), (1, .int l1)] [.int s0] m Q := by
  refine y_st rfl rfl rfl rfl rfl (fun _ _ => rfl) ?_
  refine y_st rfl rfl rfl rfl rfl (fun _ _ => rfl) ?_
  show yP (xg xs) (d + 1) 320 205 [(2, .int s0), (0, .ref 58), (1, .int l1)] [.int s0] m Q
  refine y_zle (t := 212) rfl rfl rfl (fun h => ?_) (fun h => ?_)
  · replace H := H.1 h; clear h
    show yP (xg xs) (d + 1) 320 212 [(2, .int s0), (0, .ref 58), (1, .int l1)] [] m Q
    refine y_headS (l2 := [(0, .ref 58), (1, .int l1), (2, .int s0)]) [1, 2, 0] [0, 1, 2] [2, 0, 1] rfl rfl (by decide) rfl (by decide) ?_
    exact H
  · replace H := H.2 h; clear h
    refine y_st rfl rfl rfl rfl rfl (fun _ _ => rfl) ?_
    show yP (xg xs) (d + 1) 320 209 [(2, .int s0), (0, .ref 58), (1, .int l1)] [.ref 58] m Q
    refine y_call rfl rfl rfl rfl rfl (Nat.le_of_ble_eq_true rfl) (Nat.le_of_ble_eq_true rfl) rfl (by decide) H (fun v1 m1 H => ?_)
    obtain ⟨rfl, H⟩ := H
    show yP (xg xs) (d + 1) 320 212 [(2, .int s0), (0, .ref 58), (1, .int l1)] [] m1 Q
    refine y_headS (l2 := [(0, .ref 58), (1, .int l1), (2, .int s0)]) [1, 2, 0] [0, 1, 2] [2, 0, 1] rfl rfl (by decide) rfl (by decide) ?_
    exact H
set_option maxRecDepth 20000 in
/-- CodeMakerModel.readCell from 212 on -/
theorem w320_212 (xs : List Int32) (d : Nat) (l1 : Int32) (l2 : Int32) (m : yM) (Q : Option Value → yM → Prop) (H : (yC (xg xs) d 271 [.ref 58, .int (25 : Int32), .int l1, .int l2] m (fun v1 m1 => ∃ u1, v1 = some (Value.int u1) ∧ (yC (xg xs) d 293 [.ref 58, .int (2 : Int32)] m1 (fun v2 m2 => ∃ u2, v2 = some (Value.int u2) ∧ (yC (xg xs) d 291 [.ref 58, .int u2] m2 (fun v3 m3 => v3 = none ∧ (yC (xg xs) d 272 [.ref 58] m3 (fun v4 m4 => v4 = none ∧ (yC (xg xs) d 295 [.ref 58, .int (46 : Int32)] m4 (fun v5 m5 => ∃ u5, v5 = some (Value.int u5) ∧ ((u5 = 0 → (yC (xg xs) d 271 [.ref 58, .int (6 : Int32), .int (m3.1 58 8), .int (m3.1 58 7)] m5 (fun v6 m6 => ∃ u6, v6 = some (Value.int u6) ∧ (yC (xg xs) d 297 [.ref 58, .int u1, .int u6] m6 (fun v7 m7 => v7 = none ∧ Q (some (.int u1)) m7))))) ∧ (¬ u5 = 0 → (yC (xg xs) d 271 [.ref 58, .int (33 : Int32), .int (m3.1 58 8), .int (m3.1 58 7)] m5 (fun v8 m8 => ∃ u8, v8 = some (Value.int u8) ∧ (yC (xg xs) d 272 [.ref 58] m8 (fun v9 m9 => v9 = none ∧ (yC (xg xs) d 293 [.ref 58, .int (2 : Int32)] m9 (fun v10 m10 => ∃ u10, v10 = some (Value.int u10) ∧ (yC (xg xs) d 291 [.ref 58, .int u10] m10 (fun v11 m11 => v11 = none ∧ (yC (xg xs) d 271 [.ref 58, .int (6 : Int32), .int (m11.1 58 8), .int (m11.1 58 7)] m11 (fun v12 m12 => ∃ u12, v12 = some (Value.int u12) ∧ (yC (xg xs) d 297 [.ref 58, .int u8, .int u12] m12 (fun v13 m13 => v13 = none ∧ (yC (xg xs) d 272 [.ref 58] m13 (fun v14 m14 => v14 = none ∧ (yC (xg xs) d 297 [.ref 58, .int u1, .int u8] m14 (fun v15 m15 => v15 = none ∧ Q (some (.int u1)) m15))))))))))))))))))))))))))))) : yP (xg xs) (d + 1) 320 212 [(0, .ref 58), (1, .int l1), (2, .int l2)] [] m Q := by
  refine y_st rfl rfl rfl rfl rfl (fun _ _ => rfl) ?_
  refine y_st rfl rfl rfl rfl rfl (fun _ _ => rfl) ?_
  refine y_st rfl rfl rfl rfl rfl (fun _ _ => rfl) ?_
  refine y_st rfl rfl rfl rfl rfl (fun _ _ => rfl) ?_
  show yP (xg xs) (d + 1) 320 217 [(0, .ref 58), (1, .int l1), (2, .int l2)] [.int l2, .int l1, .int (25 : Int32), .ref 58] m Q
  refine y_call rfl rfl rfl rfl rfl (Nat.le_of_ble_eq_true rfl) (Nat.le_of_ble_eq_true rfl) rfl (by decide) H (fun v1 m1 H => ?_)
  obtain ⟨u1, rfl, H⟩ := H
  refine y_st rfl rfl rfl rfl rfl (fun _ _ => rfl) ?_
  refine y_st rfl rfl rfl rfl rfl (fun _ _ => rfl) ?_
  refine y_st rfl rfl rfl rfl rfl (fun _ _ => rfl) ?_
  refine y_st rfl rfl rfl rfl rfl (fun _ _ => rfl) ?_
  show yP (xg xs) (d + 1) 320 224 [(3, .int u1), (0, .ref 58), (1, .int l1), (2, .int l2)] [.int (2 : Int32), .ref 58, .ref 58] m1 Q
  refine y_call rfl rfl rfl rfl rfl (Nat.le_of_ble_eq_true rfl) (Nat.le_of_ble_eq_true rfl) rfl (by decide) H (fun v2 m2 H => ?_)
  obtain ⟨u2, rfl, H⟩ := H
  show yP (xg xs) (d + 1) 320 227 [(3, .int u1), (0, .ref 58), (1, .int l1), (2, .int l2)] [.int u2, .ref 58] m2 Q
  refine y_call rfl rfl rfl rfl rfl (Nat.le_of_ble_eq_true rfl) (Nat.le_of_ble_eq_true rfl) rfl (by decide) H (fun v3 m3 H => ?_)
  obtain ⟨rfl, H⟩ := H
  refine y_st rfl rfl rfl rfl rfl (fun _ _ => rfl) ?_
  refine y_gf rfl rfl rfl rfl rfl ?_
  refine y_st rfl rfl rfl rfl rfl (fun _ _ => rfl) ?_
  refine y_st rfl rfl rfl rfl rfl (fun _ _ => rfl) ?_
  refine y_gf rfl rfl rfl rfl rfl ?_
  refine y_st rfl rfl rfl rfl rfl (fun _ _ => rfl) ?_
  refine y_st rfl rfl rfl rfl rfl (fun _ _ => rfl) ?_
  show yP (xg xs) (d + 1) 320 243 [(5, .int (m3.1 58 7)), (4, .int (m3.1 58 8)), (3, .int u1), (0, .ref 58), (1, .int l1), (2, .int l2)] [.ref 58] m3 Q
  refine y_call rfl rfl rfl rfl rfl (Nat.le_of_ble_eq_true rfl) (Nat.le_of_ble_eq_true rfl) rfl (by decide) H (fun v4 m4 H => ?_)
  obtain ⟨rfl, H⟩ := H
  refine y_st rfl rfl rfl rfl rfl (fun _ _ => rfl) ?_
  refine y_st rfl rfl rfl rfl rfl (fun _ _ => rfl) ?_
  show yP (xg xs) (d + 1) 320 249 [(5, .int (m3.1 58 7)), (4, .int (m3.1 58 8)), (3, .int u1), (0, .ref 58), (1, .int l1), (2, .int l2)] [.int (46 : Int32), .ref 58] m4 Q
  refine y_call rfl rfl rfl rfl rfl (Nat.le_of_ble_eq_true rfl) (Nat.le_of_ble_eq_true rfl) rfl (by decide) H (fun v5 m5 H => ?_)
  obtain ⟨u5, rfl, H⟩ := H
  show yP (xg xs) (d + 1) 320 252 [(5, .int (m3.1 58 7)), (4, .int (m3.1 58 8)), (3, .int u1), (0, .ref 58), (1, .int l1), (2, .int l2)] [.int u5] m5 Q
  refine y_zeq (t := 314) rfl rfl rfl (fun h => ?_) (fun h => ?_)
  · replace H := H.1 h; clear h
    refine y_st rfl rfl rfl rfl rfl (fun _ _ => rfl) ?_
    refine y_st rfl rfl rfl rfl rfl (fun _ _ => rfl) ?_
    refine y_st rfl rfl rfl rfl rfl (fun _ _ => rfl) ?_
    refine y_st rfl rfl rfl rfl rfl (fun _ _ => rfl) ?_
    refine y_st rfl rfl rfl rfl rfl (fun _ _ => rfl) ?_
    refine y_st rfl rfl rfl rfl rfl (fun _ _ => rfl) ?_
    show yP (xg xs) (d + 1) 320 323 [(5, .int (m3.1 58 7)), (4, .int (m3.1 58 8)), (3, .int u1), (0, .ref 58), (1, .int l1), (2, .int l2)] [.int (m3.1 58 7), .int (m3.1 58 8), .int (6 : Int32), .ref 58, .int u1, .ref 58] m5 Q
    refine y_call rfl rfl rfl rfl rfl (Nat.le_of_ble_eq_true rfl) (Nat.le_of_ble_eq_true rfl) rfl (by decide) H (fun v6 m6 H => ?_)
    obtain ⟨u6, rfl, H⟩ := H
    show yP (xg xs) (d + 1) 320 326 [(5, .int (m3.1 58 7)), (4, .int (m3.1 58 8)), (3, .int u1), (0, .ref 58), (1, .int l1), (2, .int l2)] [.int u6, .int u1, .ref 58] m6 Q
    refine y_call rfl rfl rfl rfl rfl (Nat.le_of_ble_eq_true rfl) (Nat.le_of_ble_eq_true rfl) rfl (by decide) H (fun v7 m7 H => ?_)
    obtain ⟨rfl, H⟩ := H
    refine y_st rfl rfl rfl rfl rfl (fun _ _ => rfl) ?_
    show yP (xg xs) (d + 1) 320 330 [(5, .int (m3.1 58 7)), (4, .int (m3.1 58 8)), (3, .int u1), (0, .ref 58), (1, .int l1), (2, .int l2)] [.int u1] m7 Q
    exact y_iret rfl rfl rfl H
  · replace H := H.2 h; clear h
    refine y_st rfl rfl rfl rfl rfl (fun _ _ => rfl) ?_
    refine y_st rfl rfl rfl rfl rfl (fun _ _ => rfl) ?_
    refine y_st rfl rfl rfl rfl rfl (fun _ _ => rfl) ?_
    refine y_st rfl rfl rfl rfl rfl (fun _ _ => rfl) ?_
    show yP (xg xs) (d + 1) 320 262 [(5, .int (m3.1 58 7)), (4, .int (m3.1 58 8)), (3, .int u1), (0, .ref 58), (1, .int l1), (2, .int l2)] [.int (m3.1 58 7), .int (m3.1 58 8), .int (33 : Int32), .ref 58] m5 Q
    refine y_call rfl rfl rfl rfl rfl (Nat.le_of_ble_eq_true rfl) (Nat.le_of_ble_eq_true rfl) rfl (by decide) H (fun v8 m8 H => ?_)
    obtain ⟨u8, rfl, H⟩ := H
    refine y_st rfl rfl rfl rfl rfl (fun _ _ => rfl) ?_
    refine y_st rfl rfl rfl rfl rfl (fun _ _ => rfl) ?_
    show yP (xg xs) (d + 1) 320 268 [(6, .int u8), (5, .int (m3.1 58 7)), (4, .int (m3.1 58 8)), (3, .int u1), (0, .ref 58), (1, .int l1), (2, .int l2)] [.ref 58] m8 Q
    refine y_call rfl rfl rfl rfl rfl (Nat.le_of_ble_eq_true rfl) (Nat.le_of_ble_eq_true rfl) rfl (by decide) H (fun v9 m9 H => ?_)
    obtain ⟨rfl, H⟩ := H
    refine y_st rfl rfl rfl rfl rfl (fun _ _ => rfl) ?_
    refine y_st rfl rfl rfl rfl rfl (fun _ _ => rfl) ?_
    refine y_st rfl rfl rfl rfl rfl (fun _ _ => rfl) ?_
    show yP (xg xs) (d + 1) 320 274 [(6, .int u8), (5, .int (m3.1 58 7)), (4, .int (m3.1 58 8)), (3, .int u1), (0, .ref 58), (1, .int l1), (2, .int l2)] [.int (2 : Int32), .ref 58, .ref 58] m9 Q
    refine y_call rfl rfl rfl rfl rfl (Nat.le_of_ble_eq_true rfl) (Nat.le_of_ble_eq_true rfl) rfl (by decide) H (fun v10 m10 H => ?_)
    obtain ⟨u10, rfl, H⟩ := H
    show yP (xg xs) (d + 1) 320 277 [(6, .int u8), (5, .int (m3.1 58 7)), (4, .int (m3.1 58 8)), (3, .int u1), (0, .ref 58), (1, .int l1), (2, .int l2)] [.int u10, .ref 58] m10 Q
    refine y_call rfl rfl rfl rfl rfl (Nat.le_of_ble_eq_true rfl) (Nat.le_of_ble_eq_true rfl) rfl (by decide) H (fun v11 m11 H => ?_)
    obtain ⟨rfl, H⟩ := H
    refine y_st rfl rfl rfl rfl rfl (fun _ _ => rfl) ?_
    refine y_st rfl rfl rfl rfl rfl (fun _ _ => rfl) ?_
    refine y_st rfl rfl rfl rfl rfl (fun _ _ => rfl) ?_
    refine y_st rfl rfl rfl rfl rfl (fun _ _ => rfl) ?_
    refine y_st rfl rfl rfl rfl rfl (fun _ _ => rfl) ?_
    refine y_gf rfl rfl rfl rfl rfl ?_
    refine y_st rfl rfl rfl rfl rfl (fun _ _ => rfl) ?_
    refine y_gf rfl rfl rfl rfl rfl ?_
    show yP (xg xs) (d + 1) 320 294 [(6, .int u8), (5, .int (m3.1 58 7)), (4, .int (m3.1 58 8)), (3, .int u1), (0, .ref 58), (1, .int l1), (2, .int l2)] [.int (m11.1 58 7), .int (m11.1 58 8), .int (6 : Int32), .ref 58, .int u8, .ref 58] m11 Q
    refine y_call rfl rfl rfl rfl rfl (Nat.le_of_ble_eq_true rfl) (Nat.le_of_ble_eq_true rfl) rfl (by decide) H (fun v12 m12 H => ?_)
    obtain ⟨u12, rfl, H⟩ := H
    show yP (xg xs) (d + 1) 320 297 [(6, .int u8), (5, .int (m3.1 58 7)), (4, .int (m3.1 58 8)), (3, .int u1), (0, .ref 58), (1, .int l1), (2, .int l2)] [.int u12, .int u8, .ref 58] m12 Q
    refine y_call rfl rfl rfl rfl rfl (Nat.le_of_ble_eq_true rfl) (Nat.le_of_ble_eq_true rfl) rfl (by decide) H (fun v13 m13 H => ?_)
    obtain ⟨rfl, H⟩ := H
    refine y_st rfl rfl rfl rfl rfl (fun _ _ => rfl) ?_
    show yP (xg xs) (d + 1) 320 301 [(6, .int u8), (5, .int (m3.1 58 7)), (4, .int (m3.1 58 8)), (3, .int u1), (0, .ref 58), (1, .int l1), (2, .int l2)] [.ref 58] m13 Q
    refine y_call rfl rfl rfl rfl rfl (Nat.le_of_ble_eq_true rfl) (Nat.le_of_ble_eq_true rfl) rfl (by decide) H (fun v14 m14 H => ?_)
    obtain ⟨rfl, H⟩ := H
    refine y_st rfl rfl rfl rfl rfl (fun _ _ => rfl) ?_
    refine y_st rfl rfl rfl rfl rfl (fun _ _ => rfl) ?_
    refine y_st rfl rfl rfl rfl rfl (fun _ _ => rfl) ?_
    show yP (xg xs) (d + 1) 320 308 [(6, .int u8), (5, .int (m3.1 58 7)), (4, .int (m3.1 58 8)), (3, .int u1), (0, .ref 58), (1, .int l1), (2, .int l2)] [.int u8, .int u1, .ref 58] m14 Q
    refine y_call rfl rfl rfl rfl rfl (Nat.le_of_ble_eq_true rfl) (Nat.le_of_ble_eq_true rfl) rfl (by decide) H (fun v15 m15 H => ?_)
    obtain ⟨rfl, H⟩ := H
    refine y_st rfl rfl rfl rfl rfl (fun _ _ => rfl) ?_
    refine y_st rfl rfl rfl rfl rfl (fun _ _ => rfl) ?_
    show yP (xg xs) (d + 1) 320 330 [(6, .int u8), (5, .int (m3.1 58 7)), (4, .int (m3.1 58 8)), (3, .int u1), (0, .ref 58), (1, .int l1), (2, .int l2)] [.int u1] m15 Q
    exact y_iret rfl rfl rfl H
