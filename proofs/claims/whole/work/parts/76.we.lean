/-! WHAT EACH METHOD COMES TO, group e: laid by wip/gen/wpall.py -/
set_option maxRecDepth 20000 in
/-- CodeMaker.Writer.unit from 0 on -/
theorem w190_0 (xs : List Int32) (d : Nat) (l1 : Int32) (m : yM) (Q : Option Value → yM → Prop) (H : (yC (xg xs) d 191 [.ref 35] m (fun v1 m1 => ∃ u1, v1 = some (Value.int u1) ∧ (x_in l1 512 = true ∧ (x_in l1 512 = true ∧ ((¬ (m1.1 24 l1.toNatClampNeg) = (1 : Int32) → yP (xg xs) (d + 1) 190 51 [(0, .ref 42), (1, .int l1)] [] (y_si (y_si (y_si m1 42 7 u1) 42 8 ((m1.1 26 l1.toNatClampNeg) - (156 : Int32))) 42 9 ((-1) : Int32)) Q) ∧ ((m1.1 24 l1.toNatClampNeg) = (1 : Int32) → (yC (xg xs) d 192 [.ref 42, .int l1] (y_si (y_si (y_si m1 42 7 u1) 42 8 ((m1.1 26 l1.toNatClampNeg) - (156 : Int32))) 42 9 ((-1) : Int32)) (fun v2 m2 => v2 = none ∧ yP (xg xs) (d + 1) 190 51 [(0, .ref 42), (1, .int l1)] [] m2 Q))))))))) : yP (xg xs) (d + 1) 190 0 [(0, .ref 42), (1, .int l1)] [] m Q := by
  refine y_st rfl rfl rfl rfl rfl (fun _ _ => rfl) ?_
  refine y_st rfl rfl rfl rfl rfl (fun _ _ => rfl) ?_
  refine y_gf rfl rfl rfl rfl rfl ?_
  show yP (xg xs) (d + 1) 190 5 [(0, .ref 42), (1, .int l1)] [.ref 35, .ref 42] m Q
  refine y_call rfl rfl rfl rfl rfl (Nat.le_of_ble_eq_true rfl) (Nat.le_of_ble_eq_true rfl) rfl (by decide) H (fun v1 m1 H => ?_)
  obtain ⟨u1, rfl, H⟩ := H
  refine y_pfi rfl rfl rfl rfl rfl (x_fit_i _) ?_
  show yP (xg xs) (d + 1) 190 11 [(0, .ref 42), (1, .int l1)] [] (y_si m1 42 7 u1) Q
  refine y_st rfl rfl rfl rfl rfl (fun _ _ => rfl) ?_
  refine y_st rfl rfl rfl rfl rfl (fun _ _ => rfl) ?_
  refine y_gf rfl rfl rfl rfl rfl ?_
  refine y_gf rfl rfl rfl rfl rfl ?_
  refine y_st rfl rfl rfl rfl rfl (fun _ _ => rfl) ?_
  show yP (xg xs) (d + 1) 190 20 [(0, .ref 42), (1, .int l1)] [.int l1, .ref 26, .ref 42] (y_si m1 42 7 u1) Q
  refine y_iald rfl rfl rfl (H.1) ?_
  replace H := H.2
  refine y_st rfl rfl rfl rfl rfl (fun _ _ => rfl) ?_
  refine y_st rfl rfl rfl rfl rfl (fun _ _ => rfl) ?_
  refine y_pfi rfl rfl rfl rfl rfl (x_fit_i _) ?_
  show yP (xg xs) (d + 1) 190 28 [(0, .ref 42), (1, .int l1)] [] (y_si (y_si m1 42 7 u1) 42 8 ((m1.1 26 l1.toNatClampNeg) - (156 : Int32))) Q
  refine y_st rfl rfl rfl rfl rfl (fun _ _ => rfl) ?_
  refine y_st rfl rfl rfl rfl rfl (fun _ _ => rfl) ?_
  refine y_pfi rfl rfl rfl rfl rfl (x_fit_i _) ?_
  show yP (xg xs) (d + 1) 190 33 [(0, .ref 42), (1, .int l1)] [] (y_si (y_si (y_si m1 42 7 u1) 42 8 ((m1.1 26 l1.toNatClampNeg) - (156 : Int32))) 42 9 ((-1) : Int32)) Q
  refine y_st rfl rfl rfl rfl rfl (fun _ _ => rfl) ?_
  refine y_gf rfl rfl rfl rfl rfl ?_
  refine y_gf rfl rfl rfl rfl rfl ?_
  refine y_st rfl rfl rfl rfl rfl (fun _ _ => rfl) ?_
  show yP (xg xs) (d + 1) 190 41 [(0, .ref 42), (1, .int l1)] [.int l1, .ref 24] (y_si (y_si (y_si m1 42 7 u1) 42 8 ((m1.1 26 l1.toNatClampNeg) - (156 : Int32))) 42 9 ((-1) : Int32)) Q
  refine y_iald rfl rfl rfl (H.1) ?_
  replace H := H.2
  refine y_st rfl rfl rfl rfl rfl (fun _ _ => rfl) ?_
  show yP (xg xs) (d + 1) 190 43 [(0, .ref 42), (1, .int l1)] [.int (1 : Int32), .int (m1.1 24 l1.toNatClampNeg)] (y_si (y_si (y_si m1 42 7 u1) 42 8 ((m1.1 26 l1.toNatClampNeg) - (156 : Int32))) 42 9 ((-1) : Int32)) Q
  refine y_ine (t := 51) rfl rfl rfl (fun h => ?_) (fun h => ?_)
  · replace H := H.1 h; clear h
    show yP (xg xs) (d + 1) 190 51 [(0, .ref 42), (1, .int l1)] [] (y_si (y_si (y_si m1 42 7 u1) 42 8 ((m1.1 26 l1.toNatClampNeg) - (156 : Int32))) 42 9 ((-1) : Int32)) Q
    exact H
  · replace H := H.2 h; clear h
    refine y_st rfl rfl rfl rfl rfl (fun _ _ => rfl) ?_
    refine y_st rfl rfl rfl rfl rfl (fun _ _ => rfl) ?_
    show yP (xg xs) (d + 1) 190 48 [(0, .ref 42), (1, .int l1)] [.int l1, .ref 42] (y_si (y_si (y_si m1 42 7 u1) 42 8 ((m1.1 26 l1.toNatClampNeg) - (156 : Int32))) 42 9 ((-1) : Int32)) Q
    refine y_call rfl rfl rfl rfl rfl (Nat.le_of_ble_eq_true rfl) (Nat.le_of_ble_eq_true rfl) rfl (by decide) H (fun v2 m2 H => ?_)
    obtain ⟨rfl, H⟩ := H
    show yP (xg xs) (d + 1) 190 51 [(0, .ref 42), (1, .int l1)] [] m2 Q
    exact H
set_option maxRecDepth 20000 in
/-- CodeMaker.Writer.unit from 51 on -/
theorem w190_51 (xs : List Int32) (d : Nat) (l1 : Int32) (m : yM) (Q : Option Value → yM → Prop) (H : (x_in l1 512 = true ∧ yP (xg xs) (d + 1) 190 65 [(0, .ref 42), (2, .int (m.1 25 l1.toNatClampNeg)), (3, .int ((m.1 25 l1.toNatClampNeg) + (1 : Int32)))] [] m Q)) : yP (xg xs) (d + 1) 190 51 [(0, .ref 42), (1, .int l1)] [] m Q := by
  refine y_st rfl rfl rfl rfl rfl (fun _ _ => rfl) ?_
  refine y_gf rfl rfl rfl rfl rfl ?_
  refine y_gf rfl rfl rfl rfl rfl ?_
  refine y_st rfl rfl rfl rfl rfl (fun _ _ => rfl) ?_
  show yP (xg xs) (d + 1) 190 59 [(0, .ref 42), (1, .int l1)] [.int l1, .ref 25] m Q
  refine y_iald rfl rfl rfl (H.1) ?_
  replace H := H.2
  refine y_st rfl rfl rfl rfl rfl (fun _ _ => rfl) ?_
  refine y_st rfl rfl rfl rfl rfl (fun _ _ => rfl) ?_
  refine y_st rfl rfl rfl rfl rfl (fun _ _ => rfl) ?_
  refine y_st rfl rfl rfl rfl rfl (fun _ _ => rfl) ?_
  refine y_st rfl rfl rfl rfl rfl (fun _ _ => rfl) ?_
  show yP (xg xs) (d + 1) 190 65 [(3, .int ((m.1 25 l1.toNatClampNeg) + (1 : Int32))), (2, .int (m.1 25 l1.toNatClampNeg)), (0, .ref 42), (1, .int l1)] [] m Q
  refine y_headS (l2 := [(0, .ref 42), (2, .int (m.1 25 l1.toNatClampNeg)), (3, .int ((m.1 25 l1.toNatClampNeg) + (1 : Int32)))]) [2, 1, 0] [0, 2, 3] [3, 2, 0, 1] rfl rfl (by decide) rfl (by decide) ?_
  exact H
set_option maxRecDepth 20000 in
/-- CodeMaker.Writer.unit from 65 on -/
theorem w190_65 (xs : List Int32) (d : Nat) (l2 : Int32) (l3 : Int32) (m : yM) (Q : Option Value → yM → Prop) (H : (x_in l2 16401 = true ∧ (((m.1 7 l2.toNatClampNeg) ≤ l3 → Q none m) ∧ (¬ (m.1 7 l2.toNatClampNeg) ≤ l3 → (x_in l3 16401 = true ∧ ((¬ (m.1 3 l3.toNatClampNeg) = (11 : Int32) → (x_in l3 16401 = true ∧ ((¬ (m.1 3 l3.toNatClampNeg) = (22 : Int32) → yP (xg xs) (d + 1) 190 119 [(0, .ref 42), (2, .int l2), (3, .int l3)] [] m Q) ∧ ((m.1 3 l3.toNatClampNeg) = (22 : Int32) → (yC (xg xs) d 210 [.ref 42, .int l3] m (fun v1 m1 => v1 = none ∧ yP (xg xs) (d + 1) 190 119 [(0, .ref 42), (2, .int l2), (3, .int l3)] [] m1 Q)))))) ∧ ((m.1 3 l3.toNatClampNeg) = (11 : Int32) → (yC (xg xs) d 195 [.ref 42, .int l3] m (fun v2 m2 => v2 = none ∧ yP (xg xs) (d + 1) 190 119 [(0, .ref 42), (2, .int l2), (3, .int l3)] [] m2 Q))))))))) : yP (xg xs) (d + 1) 190 65 [(0, .ref 42), (2, .int l2), (3, .int l3)] [] m Q := by
  refine y_st rfl rfl rfl rfl rfl (fun _ _ => rfl) ?_
  refine y_st rfl rfl rfl rfl rfl (fun _ _ => rfl) ?_
  refine y_gf rfl rfl rfl rfl rfl ?_
  refine y_gf rfl rfl rfl rfl rfl ?_
  refine y_st rfl rfl rfl rfl rfl (fun _ _ => rfl) ?_
  show yP (xg xs) (d + 1) 190 74 [(0, .ref 42), (2, .int l2), (3, .int l3)] [.int l2, .ref 7, .int l3] m Q
  refine y_iald rfl rfl rfl (H.1) ?_
  replace H := H.2
  show yP (xg xs) (d + 1) 190 75 [(0, .ref 42), (2, .int l2), (3, .int l3)] [.int (m.1 7 l2.toNatClampNeg), .int l3] m Q
  refine y_ige (t := 132) rfl rfl rfl (fun h => ?_) (fun h => ?_)
  · replace H := H.1 h; clear h
    show yP (xg xs) (d + 1) 190 132 [(0, .ref 42), (2, .int l2), (3, .int l3)] [] m Q
    exact y_ret rfl rfl rfl rfl H
  · replace H := H.2 h; clear h
    refine y_st rfl rfl rfl rfl rfl (fun _ _ => rfl) ?_
    refine y_gf rfl rfl rfl rfl rfl ?_
    refine y_gf rfl rfl rfl rfl rfl ?_
    refine y_st rfl rfl rfl rfl rfl (fun _ _ => rfl) ?_
    show yP (xg xs) (d + 1) 190 86 [(0, .ref 42), (2, .int l2), (3, .int l3)] [.int l3, .ref 3] m Q
    refine y_iald rfl rfl rfl (H.1) ?_
    replace H := H.2
    refine y_st rfl rfl rfl rfl rfl (fun _ _ => rfl) ?_
    show yP (xg xs) (d + 1) 190 89 [(0, .ref 42), (2, .int l2), (3, .int l3)] [.int (11 : Int32), .int (m.1 3 l3.toNatClampNeg)] m Q
    refine y_ine (t := 100) rfl rfl rfl (fun h => ?_) (fun h => ?_)
    · replace H := H.1 h; clear h
      refine y_st rfl rfl rfl rfl rfl (fun _ _ => rfl) ?_
      refine y_gf rfl rfl rfl rfl rfl ?_
      refine y_gf rfl rfl rfl rfl rfl ?_
      refine y_st rfl rfl rfl rfl rfl (fun _ _ => rfl) ?_
      show yP (xg xs) (d + 1) 190 108 [(0, .ref 42), (2, .int l2), (3, .int l3)] [.int l3, .ref 3] m Q
      refine y_iald rfl rfl rfl (H.1) ?_
      replace H := H.2
      refine y_st rfl rfl rfl rfl rfl (fun _ _ => rfl) ?_
      show yP (xg xs) (d + 1) 190 111 [(0, .ref 42), (2, .int l2), (3, .int l3)] [.int (22 : Int32), .int (m.1 3 l3.toNatClampNeg)] m Q
      refine y_ine (t := 119) rfl rfl rfl (fun h => ?_) (fun h => ?_)
      · replace H := H.1 h; clear h
        show yP (xg xs) (d + 1) 190 119 [(0, .ref 42), (2, .int l2), (3, .int l3)] [] m Q
        exact H
      · replace H := H.2 h; clear h
        refine y_st rfl rfl rfl rfl rfl (fun _ _ => rfl) ?_
        refine y_st rfl rfl rfl rfl rfl (fun _ _ => rfl) ?_
        show yP (xg xs) (d + 1) 190 116 [(0, .ref 42), (2, .int l2), (3, .int l3)] [.int l3, .ref 42] m Q
        refine y_call rfl rfl rfl rfl rfl (Nat.le_of_ble_eq_true rfl) (Nat.le_of_ble_eq_true rfl) rfl (by decide) H (fun v1 m1 H => ?_)
        obtain ⟨rfl, H⟩ := H
        show yP (xg xs) (d + 1) 190 119 [(0, .ref 42), (2, .int l2), (3, .int l3)] [] m1 Q
        exact H
    · replace H := H.2 h; clear h
      refine y_st rfl rfl rfl rfl rfl (fun _ _ => rfl) ?_
      refine y_st rfl rfl rfl rfl rfl (fun _ _ => rfl) ?_
      show yP (xg xs) (d + 1) 190 94 [(0, .ref 42), (2, .int l2), (3, .int l3)] [.int l3, .ref 42] m Q
      refine y_call rfl rfl rfl rfl rfl (Nat.le_of_ble_eq_true rfl) (Nat.le_of_ble_eq_true rfl) rfl (by decide) H (fun v2 m2 H => ?_)
      obtain ⟨rfl, H⟩ := H
      refine y_st rfl rfl rfl rfl rfl (fun _ _ => rfl) ?_
      show yP (xg xs) (d + 1) 190 119 [(0, .ref 42), (2, .int l2), (3, .int l3)] [] m2 Q
      exact H
set_option maxRecDepth 20000 in
/-- CodeMaker.Writer.unit from 119 on -/
theorem w190_119 (xs : List Int32) (d : Nat) (l2 : Int32) (l3 : Int32) (m : yM) (Q : Option Value → yM → Prop) (H : (x_in l3 16401 = true ∧ yP (xg xs) (d + 1) 190 65 [(0, .ref 42), (2, .int l2), (3, .int (m.1 7 l3.toNatClampNeg))] [] m Q)) : yP (xg xs) (d + 1) 190 119 [(0, .ref 42), (2, .int l2), (3, .int l3)] [] m Q := by
  refine y_st rfl rfl rfl rfl rfl (fun _ _ => rfl) ?_
  refine y_gf rfl rfl rfl rfl rfl ?_
  refine y_gf rfl rfl rfl rfl rfl ?_
  refine y_st rfl rfl rfl rfl rfl (fun _ _ => rfl) ?_
  show yP (xg xs) (d + 1) 190 127 [(0, .ref 42), (2, .int l2), (3, .int l3)] [.int l3, .ref 7] m Q
  refine y_iald rfl rfl rfl (H.1) ?_
  replace H := H.2
  refine y_st rfl rfl rfl rfl rfl (fun _ _ => rfl) ?_
  refine y_st rfl rfl rfl rfl rfl (fun _ _ => rfl) ?_
  show yP (xg xs) (d + 1) 190 65 [(3, .int (m.1 7 l3.toNatClampNeg)), (0, .ref 42), (2, .int l2)] [] m Q
  refine y_headS (l2 := [(0, .ref 42), (2, .int l2), (3, .int (m.1 7 l3.toNatClampNeg))]) [1, 2, 0] [0, 2, 3] [3, 0, 2] rfl rfl (by decide) rfl (by decide) ?_
  exact H
set_option maxRecDepth 20000 in
/-- CodeMaker.Code.begin from 0 on -/
theorem w191_0 (xs : List Int32) (d : Nat) (m : yM) (Q : Option Value → yM → Prop) (H : (x_in ((if (16 : Int32) < ((m.1 35 7) + (1 : Int32)) then (16 : Int32) else ((m.1 35 7) + (1 : Int32))) - (1 : Int32)) 16 = true ∧ Q (some (.int (m.1 35 6))) (y_si (y_si m 35 7 (if (16 : Int32) < ((m.1 35 7) + (1 : Int32)) then (16 : Int32) else ((m.1 35 7) + (1 : Int32)))) 40 (((if (16 : Int32) < ((m.1 35 7) + (1 : Int32)) then (16 : Int32) else ((m.1 35 7) + (1 : Int32))) - (1 : Int32)).toNatClampNeg) (m.1 35 6)))) : yP (xg xs) (d + 1) 191 0 [(0, .ref 35)] [] m Q := by
  refine y_st rfl rfl rfl rfl rfl (fun _ _ => rfl) ?_
  refine y_st rfl rfl rfl rfl rfl (fun _ _ => rfl) ?_
  refine y_gf rfl rfl rfl rfl rfl ?_
  refine y_st rfl rfl rfl rfl rfl (fun _ _ => rfl) ?_
  refine y_st rfl rfl rfl rfl rfl (fun _ _ => rfl) ?_
  refine y_st rfl rfl rfl rfl rfl (fun _ _ => rfl) ?_
  refine y_mi rfl rfl rfl rfl rfl (Nat.le_of_ble_eq_true rfl) (by omega) ?_
  refine y_pfi rfl rfl rfl rfl rfl (x_fit_i _) ?_
  show yP (xg xs) (d + 1) 191 15 [(0, .ref 35)] [] (y_si m 35 7 (if (16 : Int32) < ((m.1 35 7) + (1 : Int32)) then (16 : Int32) else ((m.1 35 7) + (1 : Int32)))) Q
  refine y_st rfl rfl rfl rfl rfl (fun _ _ => rfl) ?_
  refine y_gf rfl rfl rfl rfl rfl ?_
  refine y_st rfl rfl rfl rfl rfl (fun _ _ => rfl) ?_
  refine y_gf rfl rfl rfl rfl rfl ?_
  refine y_st rfl rfl rfl rfl rfl (fun _ _ => rfl) ?_
  refine y_st rfl rfl rfl rfl rfl (fun _ _ => rfl) ?_
  refine y_st rfl rfl rfl rfl rfl (fun _ _ => rfl) ?_
  refine y_gf rfl rfl rfl rfl rfl ?_
  show yP (xg xs) (d + 1) 191 29 [(0, .ref 35)] [.int (m.1 35 6), .int ((if (16 : Int32) < ((m.1 35 7) + (1 : Int32)) then (16 : Int32) else ((m.1 35 7) + (1 : Int32))) - (1 : Int32)), .ref 40] (y_si m 35 7 (if (16 : Int32) < ((m.1 35 7) + (1 : Int32)) then (16 : Int32) else ((m.1 35 7) + (1 : Int32)))) Q
  refine y_iast rfl rfl rfl (H.1) ?_
  replace H := H.2
  refine y_st rfl rfl rfl rfl rfl (fun _ _ => rfl) ?_
  refine y_gf rfl rfl rfl rfl rfl ?_
  show yP (xg xs) (d + 1) 191 34 [(0, .ref 35)] [.int (m.1 35 6)] (y_si (y_si m 35 7 (if (16 : Int32) < ((m.1 35 7) + (1 : Int32)) then (16 : Int32) else ((m.1 35 7) + (1 : Int32)))) 40 (((if (16 : Int32) < ((m.1 35 7) + (1 : Int32)) then (16 : Int32) else ((m.1 35 7) + (1 : Int32))) - (1 : Int32)).toNatClampNeg) (m.1 35 6)) Q
  exact y_iret rfl rfl rfl H
set_option maxRecDepth 20000 in
/-- CodeMaker.Writer.beginAnew from 0 on -/
theorem w192_0 (xs : List Int32) (d : Nat) (l1 : Int32) (m : yM) (Q : Option Value → yM → Prop) (H : (yC (xg xs) d 193 [.ref 42, .int (0 : Int32), .int (0 : Int32)] m (fun v1 m1 => v1 = none ∧ (yC (xg xs) d 193 [.ref 42, .int (2 : Int32), .int (0 : Int32)] m1 (fun v2 m2 => v2 = none ∧ (yC (xg xs) d 119 [.ref 18, .int l1] m2 (fun v3 m3 => ∃ u3, v3 = some (Value.int u3) ∧ yP (xg xs) (d + 1) 192 21 [(0, .ref 42), (1, .int l1), (2, .int u3)] [] m3 Q))))))) : yP (xg xs) (d + 1) 192 0 [(0, .ref 42), (1, .int l1)] [] m Q := by
  refine y_st rfl rfl rfl rfl rfl (fun _ _ => rfl) ?_
  refine y_st rfl rfl rfl rfl rfl (fun _ _ => rfl) ?_
  refine y_st rfl rfl rfl rfl rfl (fun _ _ => rfl) ?_
  show yP (xg xs) (d + 1) 192 3 [(0, .ref 42), (1, .int l1)] [.int (0 : Int32), .int (0 : Int32), .ref 42] m Q
  refine y_call rfl rfl rfl rfl rfl (Nat.le_of_ble_eq_true rfl) (Nat.le_of_ble_eq_true rfl) rfl (by decide) H (fun v1 m1 H => ?_)
  obtain ⟨rfl, H⟩ := H
  refine y_st rfl rfl rfl rfl rfl (fun _ _ => rfl) ?_
  refine y_st rfl rfl rfl rfl rfl (fun _ _ => rfl) ?_
  refine y_st rfl rfl rfl rfl rfl (fun _ _ => rfl) ?_
  show yP (xg xs) (d + 1) 192 9 [(0, .ref 42), (1, .int l1)] [.int (0 : Int32), .int (2 : Int32), .ref 42] m1 Q
  refine y_call rfl rfl rfl rfl rfl (Nat.le_of_ble_eq_true rfl) (Nat.le_of_ble_eq_true rfl) rfl (by decide) H (fun v2 m2 H => ?_)
  obtain ⟨rfl, H⟩ := H
  refine y_st rfl rfl rfl rfl rfl (fun _ _ => rfl) ?_
  refine y_gf rfl rfl rfl rfl rfl ?_
  refine y_st rfl rfl rfl rfl rfl (fun _ _ => rfl) ?_
  show yP (xg xs) (d + 1) 192 17 [(0, .ref 42), (1, .int l1)] [.int l1, .ref 18] m2 Q
  refine y_call rfl rfl rfl rfl rfl (Nat.le_of_ble_eq_true rfl) (Nat.le_of_ble_eq_true rfl) rfl (by decide) H (fun v3 m3 H => ?_)
  obtain ⟨u3, rfl, H⟩ := H
  refine y_st rfl rfl rfl rfl rfl (fun _ _ => rfl) ?_
  show yP (xg xs) (d + 1) 192 21 [(2, .int u3), (0, .ref 42), (1, .int l1)] [] m3 Q
  refine y_headS (l2 := [(0, .ref 42), (1, .int l1), (2, .int u3)]) [1, 2, 0] [0, 1, 2] [2, 0, 1] rfl rfl (by decide) rfl (by decide) ?_
  exact H
set_option maxRecDepth 20000 in
/-- CodeMaker.Writer.beginAnew from 21 on -/
theorem w192_21 (xs : List Int32) (d : Nat) (l1 : Int32) (l2 : Int32) (m : yM) (Q : Option Value → yM → Prop) (H : (yC (xg xs) d 120 [.ref 18, .int l1] m (fun v1 m1 => ∃ u1, v1 = some (Value.int u1) ∧ ((u1 ≤ l2 → Q none m1) ∧ (¬ u1 ≤ l2 → (x_in l2 4097 = true ∧ ((¬ (m1.1 22 l2.toNatClampNeg) = 0 → yP (xg xs) (d + 1) 192 73 [(0, .ref 42), (1, .int l1), (2, .int l2)] [] m1 Q) ∧ ((m1.1 22 l2.toNatClampNeg) = 0 → (x_in l2 4097 = true ∧ (yC (xg xs) d 193 [.ref 42, .int (0 : Int32), .int (m1.1 23 l2.toNatClampNeg)] m1 (fun v2 m2 => v2 = none ∧ (x_in l2 4097 = true ∧ (yC (xg xs) d 193 [.ref 42, .int (2 : Int32), .int (m2.1 20 l2.toNatClampNeg)] m2 (fun v3 m3 => v3 = none ∧ yP (xg xs) (d + 1) 192 73 [(0, .ref 42), (1, .int l1), (2, .int l2)] [] m3 Q)))))))))))))) : yP (xg xs) (d + 1) 192 21 [(0, .ref 42), (1, .int l1), (2, .int l2)] [] m Q := by
  refine y_st rfl rfl rfl rfl rfl (fun _ _ => rfl) ?_
  refine y_st rfl rfl rfl rfl rfl (fun _ _ => rfl) ?_
  refine y_gf rfl rfl rfl rfl rfl ?_
  refine y_st rfl rfl rfl rfl rfl (fun _ _ => rfl) ?_
  show yP (xg xs) (d + 1) 192 27 [(0, .ref 42), (1, .int l1), (2, .int l2)] [.int l1, .ref 18, .int l2] m Q
  refine y_call rfl rfl rfl rfl rfl (Nat.le_of_ble_eq_true rfl) (Nat.le_of_ble_eq_true rfl) rfl (by decide) H (fun v1 m1 H => ?_)
  obtain ⟨u1, rfl, H⟩ := H
  show yP (xg xs) (d + 1) 192 30 [(0, .ref 42), (1, .int l1), (2, .int l2)] [.int u1, .int l2] m1 Q
  refine y_ige (t := 79) rfl rfl rfl (fun h => ?_) (fun h => ?_)
  · replace H := H.1 h; clear h
    show yP (xg xs) (d + 1) 192 79 [(0, .ref 42), (1, .int l1), (2, .int l2)] [] m1 Q
    exact y_ret rfl rfl rfl rfl H
  · replace H := H.2 h; clear h
    refine y_st rfl rfl rfl rfl rfl (fun _ _ => rfl) ?_
    refine y_gf rfl rfl rfl rfl rfl ?_
    refine y_gf rfl rfl rfl rfl rfl ?_
    refine y_st rfl rfl rfl rfl rfl (fun _ _ => rfl) ?_
    show yP (xg xs) (d + 1) 192 41 [(0, .ref 42), (1, .int l1), (2, .int l2)] [.int l2, .ref 22] m1 Q
    refine y_iald rfl rfl rfl (H.1) ?_
    replace H := H.2
    show yP (xg xs) (d + 1) 192 42 [(0, .ref 42), (1, .int l1), (2, .int l2)] [.int (m1.1 22 l2.toNatClampNeg)] m1 Q
    refine y_zne (t := 73) rfl rfl rfl (fun h => ?_) (fun h => ?_)
    · replace H := H.1 h; clear h
      show yP (xg xs) (d + 1) 192 73 [(0, .ref 42), (1, .int l1), (2, .int l2)] [] m1 Q
      exact H
    · replace H := H.2 h; clear h
      refine y_st rfl rfl rfl rfl rfl (fun _ _ => rfl) ?_
      refine y_st rfl rfl rfl rfl rfl (fun _ _ => rfl) ?_
      refine y_st rfl rfl rfl rfl rfl (fun _ _ => rfl) ?_
      refine y_gf rfl rfl rfl rfl rfl ?_
      refine y_gf rfl rfl rfl rfl rfl ?_
      refine y_st rfl rfl rfl rfl rfl (fun _ _ => rfl) ?_
      show yP (xg xs) (d + 1) 192 55 [(0, .ref 42), (1, .int l1), (2, .int l2)] [.int l2, .ref 23, .int (0 : Int32), .ref 42] m1 Q
      refine y_iald rfl rfl rfl (H.1) ?_
      replace H := H.2
      show yP (xg xs) (d + 1) 192 56 [(0, .ref 42), (1, .int l1), (2, .int l2)] [.int (m1.1 23 l2.toNatClampNeg), .int (0 : Int32), .ref 42] m1 Q
      refine y_call rfl rfl rfl rfl rfl (Nat.le_of_ble_eq_true rfl) (Nat.le_of_ble_eq_true rfl) rfl (by decide) H (fun v2 m2 H => ?_)
      obtain ⟨rfl, H⟩ := H
      refine y_st rfl rfl rfl rfl rfl (fun _ _ => rfl) ?_
      refine y_st rfl rfl rfl rfl rfl (fun _ _ => rfl) ?_
      refine y_st rfl rfl rfl rfl rfl (fun _ _ => rfl) ?_
      refine y_gf rfl rfl rfl rfl rfl ?_
      refine y_gf rfl rfl rfl rfl rfl ?_
      refine y_st rfl rfl rfl rfl rfl (fun _ _ => rfl) ?_
      show yP (xg xs) (d + 1) 192 69 [(0, .ref 42), (1, .int l1), (2, .int l2)] [.int l2, .ref 20, .int (2 : Int32), .ref 42] m2 Q
      refine y_iald rfl rfl rfl (H.1) ?_
      replace H := H.2
      show yP (xg xs) (d + 1) 192 70 [(0, .ref 42), (1, .int l1), (2, .int l2)] [.int (m2.1 20 l2.toNatClampNeg), .int (2 : Int32), .ref 42] m2 Q
      refine y_call rfl rfl rfl rfl rfl (Nat.le_of_ble_eq_true rfl) (Nat.le_of_ble_eq_true rfl) rfl (by decide) H (fun v3 m3 H => ?_)
      obtain ⟨rfl, H⟩ := H
      show yP (xg xs) (d + 1) 192 73 [(0, .ref 42), (1, .int l1), (2, .int l2)] [] m3 Q
      exact H
set_option maxRecDepth 20000 in
/-- CodeMaker.Writer.beginAnew from 73 on -/
theorem w192_73 (xs : List Int32) (d : Nat) (l1 : Int32) (l2 : Int32) (m : yM) (Q : Option Value → yM → Prop) (H : yP (xg xs) (d + 1) 192 21 [(0, .ref 42), (1, .int l1), (2, .int (l2 + (1 : Int32)))] [] m Q) : yP (xg xs) (d + 1) 192 73 [(0, .ref 42), (1, .int l1), (2, .int l2)] [] m Q := by
  refine y_st rfl rfl rfl rfl rfl (fun _ _ => rfl) ?_
  refine y_st rfl rfl rfl rfl rfl (fun _ _ => rfl) ?_
  show yP (xg xs) (d + 1) 192 21 [(2, .int (l2 + (1 : Int32))), (0, .ref 42), (1, .int l1)] [] m Q
  refine y_headS (l2 := [(0, .ref 42), (1, .int l1), (2, .int (l2 + (1 : Int32)))]) [1, 2, 0] [0, 1, 2] [2, 0, 1] rfl rfl (by decide) rfl (by decide) ?_
  exact H
set_option maxRecDepth 20000 in
/-- CodeMaker.Writer.add from 0 on -/
theorem w193_0 (xs : List Int32) (d : Nat) (l1 : Int32) (l2 : Int32) (m : yM) (Q : Option Value → yM → Prop) (H : (yC (xg xs) d 194 [.ref 35, .int l1, .int l2, .int (0 : Int32), .int (0 : Int32)] m (fun v1 m1 => ∃ u1, v1 = some (Value.int u1) ∧ Q none m1))) : yP (xg xs) (d + 1) 193 0 [(0, .ref 42), (1, .int l1), (2, .int l2)] [] m Q := by
  refine y_st rfl rfl rfl rfl rfl (fun _ _ => rfl) ?_
  refine y_gf rfl rfl rfl rfl rfl ?_
  refine y_st rfl rfl rfl rfl rfl (fun _ _ => rfl) ?_
  refine y_st rfl rfl rfl rfl rfl (fun _ _ => rfl) ?_
  refine y_st rfl rfl rfl rfl rfl (fun _ _ => rfl) ?_
  refine y_st rfl rfl rfl rfl rfl (fun _ _ => rfl) ?_
  show yP (xg xs) (d + 1) 193 8 [(0, .ref 42), (1, .int l1), (2, .int l2)] [.int (0 : Int32), .int (0 : Int32), .int l2, .int l1, .ref 35] m Q
  refine y_call rfl rfl rfl rfl rfl (Nat.le_of_ble_eq_true rfl) (Nat.le_of_ble_eq_true rfl) rfl (by decide) H (fun v1 m1 H => ?_)
  obtain ⟨u1, rfl, H⟩ := H
  refine y_st rfl rfl rfl rfl rfl (fun _ _ => rfl) ?_
  show yP (xg xs) (d + 1) 193 12 [(0, .ref 42), (1, .int l1), (2, .int l2)] [] m1 Q
  exact y_ret rfl rfl rfl rfl H
set_option maxRecDepth 20000 in
/-- CodeMaker.Code.add from 0 on -/
theorem w194_0 (xs : List Int32) (d : Nat) (l1 : Int32) (l2 : Int32) (l3 : Int32) (l4 : Int32) (m : yM) (Q : Option Value → yM → Prop) (H : (((3000 : Int32) ≤ (m.1 35 6) → yP (xg xs) (d + 1) 194 51 [(0, .ref 35)] [] m Q) ∧ (¬ (3000 : Int32) ≤ (m.1 35 6) → (x_in (m.1 35 6) 3000 = true ∧ (x_in (m.1 35 6) 3000 = true ∧ (x_in (m.1 35 6) 3000 = true ∧ (x_in (m.1 35 6) 3000 = true ∧ yP (xg xs) (d + 1) 194 51 [(0, .ref 35)] [] (y_si (y_si (y_si (y_si m 36 ((m.1 35 6).toNatClampNeg) l1) 37 ((m.1 35 6).toNatClampNeg) l2) 38 ((m.1 35 6).toNatClampNeg) l3) 39 ((m.1 35 6).toNatClampNeg) l4) Q))))))) : yP (xg xs) (d + 1) 194 0 [(0, .ref 35), (1, .int l1), (2, .int l2), (3, .int l3), (4, .int l4)] [] m Q := by
  refine y_st rfl rfl rfl rfl rfl (fun _ _ => rfl) ?_
  refine y_gf rfl rfl rfl rfl rfl ?_
  refine y_st rfl rfl rfl rfl rfl (fun _ _ => rfl) ?_
  show yP (xg xs) (d + 1) 194 7 [(0, .ref 35), (1, .int l1), (2, .int l2), (3, .int l3), (4, .int l4)] [.int (3000 : Int32), .int (m.1 35 6)] m Q
  refine y_ige (t := 51) rfl rfl rfl (fun h => ?_) (fun h => ?_)
  · replace H := H.1 h; clear h
    show yP (xg xs) (d + 1) 194 51 [(0, .ref 35), (1, .int l1), (2, .int l2), (3, .int l3), (4, .int l4)] [] m Q
    refine y_headS (l2 := [(0, .ref 35)]) [0] [0] [0, 1, 2, 3, 4] rfl rfl (by decide) rfl (by decide) ?_
    exact H
  · replace H := H.2 h; clear h
    refine y_st rfl rfl rfl rfl rfl (fun _ _ => rfl) ?_
    refine y_gf rfl rfl rfl rfl rfl ?_
    refine y_st rfl rfl rfl rfl rfl (fun _ _ => rfl) ?_
    refine y_gf rfl rfl rfl rfl rfl ?_
    refine y_st rfl rfl rfl rfl rfl (fun _ _ => rfl) ?_
    show yP (xg xs) (d + 1) 194 19 [(0, .ref 35), (1, .int l1), (2, .int l2), (3, .int l3), (4, .int l4)] [.int l1, .int (m.1 35 6), .ref 36] m Q
    refine y_iast rfl rfl rfl (H.1) ?_
    replace H := H.2
    refine y_st rfl rfl rfl rfl rfl (fun _ _ => rfl) ?_
    refine y_gf rfl rfl rfl rfl rfl ?_
    refine y_st rfl rfl rfl rfl rfl (fun _ _ => rfl) ?_
    refine y_gf rfl rfl rfl rfl rfl ?_
    refine y_st rfl rfl rfl rfl rfl (fun _ _ => rfl) ?_
    show yP (xg xs) (d + 1) 194 29 [(0, .ref 35), (1, .int l1), (2, .int l2), (3, .int l3), (4, .int l4)] [.int l2, .int (m.1 35 6), .ref 37] (y_si m 36 ((m.1 35 6).toNatClampNeg) l1) Q
    refine y_iast rfl rfl rfl (H.1) ?_
    replace H := H.2
    refine y_st rfl rfl rfl rfl rfl (fun _ _ => rfl) ?_
    refine y_gf rfl rfl rfl rfl rfl ?_
    refine y_st rfl rfl rfl rfl rfl (fun _ _ => rfl) ?_
    refine y_gf rfl rfl rfl rfl rfl ?_
    refine y_st rfl rfl rfl rfl rfl (fun _ _ => rfl) ?_
    show yP (xg xs) (d + 1) 194 39 [(0, .ref 35), (1, .int l1), (2, .int l2), (3, .int l3), (4, .int l4)] [.int l3, .int (m.1 35 6), .ref 38] (y_si (y_si m 36 ((m.1 35 6).toNatClampNeg) l1) 37 ((m.1 35 6).toNatClampNeg) l2) Q
    refine y_iast rfl rfl rfl (H.1) ?_
    replace H := H.2
    refine y_st rfl rfl rfl rfl rfl (fun _ _ => rfl) ?_
    refine y_gf rfl rfl rfl rfl rfl ?_
    refine y_st rfl rfl rfl rfl rfl (fun _ _ => rfl) ?_
    refine y_gf rfl rfl rfl rfl rfl ?_
    refine y_st rfl rfl rfl rfl rfl (fun _ _ => rfl) ?_
    show yP (xg xs) (d + 1) 194 50 [(0, .ref 35), (1, .int l1), (2, .int l2), (3, .int l3), (4, .int l4)] [.int l4, .int (m.1 35 6), .ref 39] (y_si (y_si (y_si m 36 ((m.1 35 6).toNatClampNeg) l1) 37 ((m.1 35 6).toNatClampNeg) l2) 38 ((m.1 35 6).toNatClampNeg) l3) Q
    refine y_iast rfl rfl rfl (H.1) ?_
    replace H := H.2
    show yP (xg xs) (d + 1) 194 51 [(0, .ref 35), (1, .int l1), (2, .int l2), (3, .int l3), (4, .int l4)] [] (y_si (y_si (y_si (y_si m 36 ((m.1 35 6).toNatClampNeg) l1) 37 ((m.1 35 6).toNatClampNeg) l2) 38 ((m.1 35 6).toNatClampNeg) l3) 39 ((m.1 35 6).toNatClampNeg) l4) Q
    refine y_headS (l2 := [(0, .ref 35)]) [0] [0] [0, 1, 2, 3, 4] rfl rfl (by decide) rfl (by decide) ?_
    exact H
set_option maxRecDepth 20000 in
/-- CodeMaker.Code.add from 51 on -/
theorem w194_51 (xs : List Int32) (d : Nat) (m : yM) (Q : Option Value → yM → Prop) (H : Q (some (.int (((m.1 35 6) + (1 : Int32)) - (1 : Int32)))) (y_si m 35 6 ((m.1 35 6) + (1 : Int32)))) : yP (xg xs) (d + 1) 194 51 [(0, .ref 35)] [] m Q := by
  refine y_st rfl rfl rfl rfl rfl (fun _ _ => rfl) ?_
  refine y_st rfl rfl rfl rfl rfl (fun _ _ => rfl) ?_
  refine y_gf rfl rfl rfl rfl rfl ?_
  refine y_st rfl rfl rfl rfl rfl (fun _ _ => rfl) ?_
  refine y_st rfl rfl rfl rfl rfl (fun _ _ => rfl) ?_
  refine y_pfi rfl rfl rfl rfl rfl (x_fit_i _) ?_
  show yP (xg xs) (d + 1) 194 61 [(0, .ref 35)] [] (y_si m 35 6 ((m.1 35 6) + (1 : Int32))) Q
  refine y_st rfl rfl rfl rfl rfl (fun _ _ => rfl) ?_
  refine y_gf rfl rfl rfl rfl rfl ?_
  refine y_st rfl rfl rfl rfl rfl (fun _ _ => rfl) ?_
  refine y_st rfl rfl rfl rfl rfl (fun _ _ => rfl) ?_
  show yP (xg xs) (d + 1) 194 67 [(0, .ref 35)] [.int (((m.1 35 6) + (1 : Int32)) - (1 : Int32))] (y_si m 35 6 ((m.1 35 6) + (1 : Int32))) Q
  exact y_iret rfl rfl rfl H
set_option maxRecDepth 20000 in
/-- CodeMaker.Writer.body from 0 on -/
theorem w195_0 (xs : List Int32) (d : Nat) (l1 : Int32) (m : yM) (Q : Option Value → yM → Prop) (H : yP (xg xs) (d + 1) 195 4 [(0, .ref 42), (1, .int l1), (2, .int (l1 + (1 : Int32)))] [] m Q) : yP (xg xs) (d + 1) 195 0 [(0, .ref 42), (1, .int l1)] [] m Q := by
  refine y_st rfl rfl rfl rfl rfl (fun _ _ => rfl) ?_
  refine y_st rfl rfl rfl rfl rfl (fun _ _ => rfl) ?_
  refine y_st rfl rfl rfl rfl rfl (fun _ _ => rfl) ?_
  refine y_st rfl rfl rfl rfl rfl (fun _ _ => rfl) ?_
  show yP (xg xs) (d + 1) 195 4 [(2, .int (l1 + (1 : Int32))), (0, .ref 42), (1, .int l1)] [] m Q
  refine y_headS (l2 := [(0, .ref 42), (1, .int l1), (2, .int (l1 + (1 : Int32)))]) [1, 2, 0] [0, 1, 2] [2, 0, 1] rfl rfl (by decide) rfl (by decide) ?_
  exact H
set_option maxRecDepth 20000 in
/-- CodeMaker.Writer.body from 4 on -/
theorem w195_4 (xs : List Int32) (d : Nat) (l1 : Int32) (l2 : Int32) (m : yM) (Q : Option Value → yM → Prop) (H : (x_in l1 16401 = true ∧ (((m.1 7 l1.toNatClampNeg) ≤ l2 → Q none m) ∧ (¬ (m.1 7 l1.toNatClampNeg) ≤ l2 → (x_in l2 16401 = true ∧ (((m.1 3 l2.toNatClampNeg) = (12 : Int32) → (yC (xg xs) d 196 [.ref 42, .int l2] m (fun v1 m1 => v1 = none ∧ yP (xg xs) (d + 1) 195 145 [(0, .ref 42), (1, .int l1), (2, .int l2)] [] m1 Q))) ∧ ((m.1 3 l2.toNatClampNeg) = (13 : Int32) → (yC (xg xs) d 202 [.ref 42, .int l2] m (fun v2 m2 => v2 = none ∧ yP (xg xs) (d + 1) 195 145 [(0, .ref 42), (1, .int l1), (2, .int l2)] [] m2 Q))) ∧ ((m.1 3 l2.toNatClampNeg) = (15 : Int32) → (yC (xg xs) d 203 [.ref 42, .int l2] m (fun v3 m3 => v3 = none ∧ yP (xg xs) (d + 1) 195 145 [(0, .ref 42), (1, .int l1), (2, .int l2)] [] m3 Q))) ∧ ((m.1 3 l2.toNatClampNeg) = (16 : Int32) → (yC (xg xs) d 207 [.ref 42, .int l2] m (fun v4 m4 => v4 = none ∧ yP (xg xs) (d + 1) 195 145 [(0, .ref 42), (1, .int l1), (2, .int l2)] [] m4 Q))) ∧ ((m.1 3 l2.toNatClampNeg) = (19 : Int32) → (yC (xg xs) d 209 [.ref 42, .int l2] m (fun v5 m5 => v5 = none ∧ yP (xg xs) (d + 1) 195 145 [(0, .ref 42), (1, .int l1), (2, .int l2)] [] m5 Q))) ∧ ((m.1 3 l2.toNatClampNeg) = (20 : Int32) → (yC (xg xs) d 194 [.ref 35, .int (10 : Int32), .int (m.1 42 9), .int (0 : Int32), .int (0 : Int32)] m (fun v6 m6 => ∃ u6, v6 = some (Value.int u6) ∧ yP (xg xs) (d + 1) 195 145 [(0, .ref 42), (1, .int l1), (2, .int l2)] [] (y_si m6 42 9 u6) Q))) ∧ (¬ (m.1 3 l2.toNatClampNeg) = (12 : Int32) → ¬ (m.1 3 l2.toNatClampNeg) = (13 : Int32) → ¬ (m.1 3 l2.toNatClampNeg) = (15 : Int32) → ¬ (m.1 3 l2.toNatClampNeg) = (16 : Int32) → ¬ (m.1 3 l2.toNatClampNeg) = (19 : Int32) → ¬ (m.1 3 l2.toNatClampNeg) = (20 : Int32) → (yC (xg xs) d 193 [.ref 42, .int (18 : Int32), .int (0 : Int32)] m (fun v7 m7 => v7 = none ∧ yP (xg xs) (d + 1) 195 145 [(0, .ref 42), (1, .int l1), (2, .int l2)] [] m7 Q))))))))) : yP (xg xs) (d + 1) 195 4 [(0, .ref 42), (1, .int l1), (2, .int l2)] [] m Q := by
  refine y_st rfl rfl rfl rfl rfl (fun _ _ => rfl) ?_
  refine y_st rfl rfl rfl rfl rfl (fun _ _ => rfl) ?_
  refine y_gf rfl rfl rfl rfl rfl ?_
  refine y_gf rfl rfl rfl rfl rfl ?_
  refine y_st rfl rfl rfl rfl rfl (fun _ _ => rfl) ?_
  show yP (xg xs) (d + 1) 195 13 [(0, .ref 42), (1, .int l1), (2, .int l2)] [.int l1, .ref 7, .int l2] m Q
  refine y_iald rfl rfl rfl (H.1) ?_
  replace H := H.2
  show yP (xg xs) (d + 1) 195 14 [(0, .ref 42), (1, .int l1), (2, .int l2)] [.int (m.1 7 l1.toNatClampNeg), .int l2] m Q
  refine y_ige (t := 158) rfl rfl rfl (fun h => ?_) (fun h => ?_)
  · replace H := H.1 h; clear h
    show yP (xg xs) (d + 1) 195 158 [(0, .ref 42), (1, .int l1), (2, .int l2)] [] m Q
    exact y_ret rfl rfl rfl rfl H
  · replace H := H.2 h; clear h
    refine y_st rfl rfl rfl rfl rfl (fun _ _ => rfl) ?_
    refine y_gf rfl rfl rfl rfl rfl ?_
    refine y_gf rfl rfl rfl rfl rfl ?_
    refine y_st rfl rfl rfl rfl rfl (fun _ _ => rfl) ?_
    show yP (xg xs) (d + 1) 195 25 [(0, .ref 42), (1, .int l1), (2, .int l2)] [.int l2, .ref 3] m Q
    refine y_iald rfl rfl rfl (H.1) ?_
    replace H := H.2
    show yP (xg xs) (d + 1) 195 26 [(0, .ref 42), (1, .int l1), (2, .int l2)] [.int (m.1 3 l2.toNatClampNeg)] m Q
    by_cases h12 : m.1 3 l2.toNatClampNeg = (12 : Int32)
    · replace H := H.1 h12
      refine y_tsw (t := 76) rfl rfl (by rw [h12]; rfl) ?_
      clear h12
      refine y_st rfl rfl rfl rfl rfl (fun _ _ => rfl) ?_
      refine y_st rfl rfl rfl rfl rfl (fun _ _ => rfl) ?_
      show yP (xg xs) (d + 1) 195 78 [(0, .ref 42), (1, .int l1), (2, .int l2)] [.int l2, .ref 42] m Q
      refine y_call rfl rfl rfl rfl rfl (Nat.le_of_ble_eq_true rfl) (Nat.le_of_ble_eq_true rfl) rfl (by decide) H (fun v1 m1 H => ?_)
      obtain ⟨rfl, H⟩ := H
      refine y_st rfl rfl rfl rfl rfl (fun _ _ => rfl) ?_
      show yP (xg xs) (d + 1) 195 145 [(0, .ref 42), (1, .int l1), (2, .int l2)] [] m1 Q
      exact H
    replace H := H.2
    by_cases h13 : m.1 3 l2.toNatClampNeg = (13 : Int32)
    · replace H := H.1 h13
      refine y_tsw (t := 84) rfl rfl (by rw [h13]; rfl) ?_
      clear h13 h12
      refine y_st rfl rfl rfl rfl rfl (fun _ _ => rfl) ?_
      refine y_st rfl rfl rfl rfl rfl (fun _ _ => rfl) ?_
      show yP (xg xs) (d + 1) 195 86 [(0, .ref 42), (1, .int l1), (2, .int l2)] [.int l2, .ref 42] m Q
      refine y_call rfl rfl rfl rfl rfl (Nat.le_of_ble_eq_true rfl) (Nat.le_of_ble_eq_true rfl) rfl (by decide) H (fun v2 m2 H => ?_)
      obtain ⟨rfl, H⟩ := H
      refine y_st rfl rfl rfl rfl rfl (fun _ _ => rfl) ?_
      show yP (xg xs) (d + 1) 195 145 [(0, .ref 42), (1, .int l1), (2, .int l2)] [] m2 Q
      exact H
    replace H := H.2
    by_cases h15 : m.1 3 l2.toNatClampNeg = (15 : Int32)
    · replace H := H.1 h15
      refine y_tsw (t := 92) rfl rfl (by rw [h15]; rfl) ?_
      clear h15 h13 h12
      refine y_st rfl rfl rfl rfl rfl (fun _ _ => rfl) ?_
      refine y_st rfl rfl rfl rfl rfl (fun _ _ => rfl) ?_
      show yP (xg xs) (d + 1) 195 94 [(0, .ref 42), (1, .int l1), (2, .int l2)] [.int l2, .ref 42] m Q
      refine y_call rfl rfl rfl rfl rfl (Nat.le_of_ble_eq_true rfl) (Nat.le_of_ble_eq_true rfl) rfl (by decide) H (fun v3 m3 H => ?_)
      obtain ⟨rfl, H⟩ := H
      refine y_st rfl rfl rfl rfl rfl (fun _ _ => rfl) ?_
      show yP (xg xs) (d + 1) 195 145 [(0, .ref 42), (1, .int l1), (2, .int l2)] [] m3 Q
      exact H
    replace H := H.2
    by_cases h16 : m.1 3 l2.toNatClampNeg = (16 : Int32)
    · replace H := H.1 h16
      refine y_tsw (t := 100) rfl rfl (by rw [h16]; rfl) ?_
      clear h16 h15 h13 h12
      refine y_st rfl rfl rfl rfl rfl (fun _ _ => rfl) ?_
      refine y_st rfl rfl rfl rfl rfl (fun _ _ => rfl) ?_
      show yP (xg xs) (d + 1) 195 102 [(0, .ref 42), (1, .int l1), (2, .int l2)] [.int l2, .ref 42] m Q
      refine y_call rfl rfl rfl rfl rfl (Nat.le_of_ble_eq_true rfl) (Nat.le_of_ble_eq_true rfl) rfl (by decide) H (fun v4 m4 H => ?_)
      obtain ⟨rfl, H⟩ := H
      refine y_st rfl rfl rfl rfl rfl (fun _ _ => rfl) ?_
      show yP (xg xs) (d + 1) 195 145 [(0, .ref 42), (1, .int l1), (2, .int l2)] [] m4 Q
      exact H
    replace H := H.2
    by_cases h19 : m.1 3 l2.toNatClampNeg = (19 : Int32)
    · replace H := H.1 h19
      refine y_tsw (t := 108) rfl rfl (by rw [h19]; rfl) ?_
      clear h19 h16 h15 h13 h12
      refine y_st rfl rfl rfl rfl rfl (fun _ _ => rfl) ?_
      refine y_st rfl rfl rfl rfl rfl (fun _ _ => rfl) ?_
      show yP (xg xs) (d + 1) 195 110 [(0, .ref 42), (1, .int l1), (2, .int l2)] [.int l2, .ref 42] m Q
      refine y_call rfl rfl rfl rfl rfl (Nat.le_of_ble_eq_true rfl) (Nat.le_of_ble_eq_true rfl) rfl (by decide) H (fun v5 m5 H => ?_)
      obtain ⟨rfl, H⟩ := H
      refine y_st rfl rfl rfl rfl rfl (fun _ _ => rfl) ?_
      show yP (xg xs) (d + 1) 195 145 [(0, .ref 42), (1, .int l1), (2, .int l2)] [] m5 Q
      exact H
    replace H := H.2
    by_cases h20 : m.1 3 l2.toNatClampNeg = (20 : Int32)
    · replace H := H.1 h20
      refine y_tsw (t := 116) rfl rfl (by rw [h20]; rfl) ?_
      clear h20 h19 h16 h15 h13 h12
      refine y_st rfl rfl rfl rfl rfl (fun _ _ => rfl) ?_
      refine y_st rfl rfl rfl rfl rfl (fun _ _ => rfl) ?_
      refine y_gf rfl rfl rfl rfl rfl ?_
      refine y_st rfl rfl rfl rfl rfl (fun _ _ => rfl) ?_
      refine y_st rfl rfl rfl rfl rfl (fun _ _ => rfl) ?_
      refine y_gf rfl rfl rfl rfl rfl ?_
      refine y_st rfl rfl rfl rfl rfl (fun _ _ => rfl) ?_
      refine y_st rfl rfl rfl rfl rfl (fun _ _ => rfl) ?_
      show yP (xg xs) (d + 1) 195 129 [(0, .ref 42), (1, .int l1), (2, .int l2)] [.int (0 : Int32), .int (0 : Int32), .int (m.1 42 9), .int (10 : Int32), .ref 35, .ref 42] m Q
      refine y_call rfl rfl rfl rfl rfl (Nat.le_of_ble_eq_true rfl) (Nat.le_of_ble_eq_true rfl) rfl (by decide) H (fun v6 m6 H => ?_)
      obtain ⟨u6, rfl, H⟩ := H
      refine y_pfi rfl rfl rfl rfl rfl (x_fit_i _) ?_
      show yP (xg xs) (d + 1) 195 135 [(0, .ref 42), (1, .int l1), (2, .int l2)] [] (y_si m6 42 9 u6) Q
      refine y_st rfl rfl rfl rfl rfl (fun _ _ => rfl) ?_
      show yP (xg xs) (d + 1) 195 145 [(0, .ref 42), (1, .int l1), (2, .int l2)] [] (y_si m6 42 9 u6) Q
      exact H
    replace H := H.2
    refine y_tsw (t := 138) rfl rfl (by have g0 := ne_lit (12 : Int32) 12 rfl h12; have g1 := ne_lit (13 : Int32) 13 rfl h13; have g2 := ne_lit (15 : Int32) 15 rfl h15; have g3 := ne_lit (16 : Int32) 16 rfl h16; have g4 := ne_lit (19 : Int32) 19 rfl h19; have g5 := ne_lit (20 : Int32) 20 rfl h20; by_cases z : ((m.1 3 l2.toNatClampNeg)).toInt < 12 ∨ 20 < ((m.1 3 l2.toNatClampNeg)).toInt; exact (if_pos z).trans rfl; rw [if_neg z]; rcases (by omega : ((m.1 3 l2.toNatClampNeg)).toInt = 14 ∨ ((m.1 3 l2.toNatClampNeg)).toInt = 17 ∨ ((m.1 3 l2.toNatClampNeg)).toInt = 18) with e | e | e <;> rw [e] <;> rfl) ?_
    replace H := H h12 h13 h15 h16 h19 h20
    clear h20 h19 h16 h15 h13 h12
    refine y_st rfl rfl rfl rfl rfl (fun _ _ => rfl) ?_
    refine y_st rfl rfl rfl rfl rfl (fun _ _ => rfl) ?_
    refine y_st rfl rfl rfl rfl rfl (fun _ _ => rfl) ?_
    show yP (xg xs) (d + 1) 195 142 [(0, .ref 42), (1, .int l1), (2, .int l2)] [.int (0 : Int32), .int (18 : Int32), .ref 42] m Q
    refine y_call rfl rfl rfl rfl rfl (Nat.le_of_ble_eq_true rfl) (Nat.le_of_ble_eq_true rfl) rfl (by decide) H (fun v7 m7 H => ?_)
    obtain ⟨rfl, H⟩ := H
    show yP (xg xs) (d + 1) 195 145 [(0, .ref 42), (1, .int l1), (2, .int l2)] [] m7 Q
    exact H
set_option maxRecDepth 20000 in
/-- CodeMaker.Writer.body from 145 on -/
theorem w195_145 (xs : List Int32) (d : Nat) (l1 : Int32) (l2 : Int32) (m : yM) (Q : Option Value → yM → Prop) (H : (x_in l2 16401 = true ∧ yP (xg xs) (d + 1) 195 4 [(0, .ref 42), (1, .int l1), (2, .int (m.1 7 l2.toNatClampNeg))] [] m Q)) : yP (xg xs) (d + 1) 195 145 [(0, .ref 42), (1, .int l1), (2, .int l2)] [] m Q := by
  refine y_st rfl rfl rfl rfl rfl (fun _ _ => rfl) ?_
  refine y_gf rfl rfl rfl rfl rfl ?_
  refine y_gf rfl rfl rfl rfl rfl ?_
  refine y_st rfl rfl rfl rfl rfl (fun _ _ => rfl) ?_
  show yP (xg xs) (d + 1) 195 153 [(0, .ref 42), (1, .int l1), (2, .int l2)] [.int l2, .ref 7] m Q
  refine y_iald rfl rfl rfl (H.1) ?_
  replace H := H.2
  refine y_st rfl rfl rfl rfl rfl (fun _ _ => rfl) ?_
  refine y_st rfl rfl rfl rfl rfl (fun _ _ => rfl) ?_
  show yP (xg xs) (d + 1) 195 4 [(2, .int (m.1 7 l2.toNatClampNeg)), (0, .ref 42), (1, .int l1)] [] m Q
  refine y_headS (l2 := [(0, .ref 42), (1, .int l1), (2, .int (m.1 7 l2.toNatClampNeg))]) [1, 2, 0] [0, 1, 2] [2, 0, 1] rfl rfl (by decide) rfl (by decide) ?_
  exact H
set_option maxRecDepth 20000 in
/-- CodeMaker.Writer.assignment from 0 on -/
theorem w196_0 (xs : List Int32) (d : Nat) (l1 : Int32) (m : yM) (Q : Option Value → yM → Prop) (H : (x_in (l1 + (1 : Int32)) 16401 = true ∧ (x_in (l1 + (1 : Int32)) 16401 = true ∧ ((¬ (m.1 3 ((l1 + (1 : Int32)).toNatClampNeg)) = (32 : Int32) → (yC (xg xs) d 197 [.ref 42, .int (m.1 7 ((l1 + (1 : Int32)).toNatClampNeg))] m (fun v1 m1 => v1 = none ∧ (x_in (l1 + (1 : Int32)) 16401 = true ∧ (x_in (m1.1 5 ((l1 + (1 : Int32)).toNatClampNeg)) 4097 = true ∧ (yC (xg xs) d 193 [.ref 42, .int (2 : Int32), .int (m1.1 20 ((m1.1 5 ((l1 + (1 : Int32)).toNatClampNeg)).toNatClampNeg))] m1 (fun v2 m2 => v2 = none ∧ Q none m2))))))) ∧ ((m.1 3 ((l1 + (1 : Int32)).toNatClampNeg)) = (32 : Int32) → (yC (xg xs) d 197 [.ref 42, .int ((l1 + (1 : Int32)) + (1 : Int32))] m (fun v3 m3 => v3 = none ∧ (yC (xg xs) d 197 [.ref 42, .int (m.1 7 ((l1 + (1 : Int32)).toNatClampNeg))] m3 (fun v4 m4 => v4 = none ∧ (x_in (l1 + (1 : Int32)) 16401 = true ∧ (yC (xg xs) d 199 [.ref 42, .int (4 : Int32), .int (m4.1 5 ((l1 + (1 : Int32)).toNatClampNeg))] m4 (fun v5 m5 => v5 = none ∧ Q none m5)))))))))))) : yP (xg xs) (d + 1) 196 0 [(0, .ref 42), (1, .int l1)] [] m Q := by
  refine y_st rfl rfl rfl rfl rfl (fun _ _ => rfl) ?_
  refine y_st rfl rfl rfl rfl rfl (fun _ _ => rfl) ?_
  refine y_st rfl rfl rfl rfl rfl (fun _ _ => rfl) ?_
  refine y_st rfl rfl rfl rfl rfl (fun _ _ => rfl) ?_
  refine y_st rfl rfl rfl rfl rfl (fun _ _ => rfl) ?_
  refine y_gf rfl rfl rfl rfl rfl ?_
  refine y_gf rfl rfl rfl rfl rfl ?_
  refine y_st rfl rfl rfl rfl rfl (fun _ _ => rfl) ?_
  show yP (xg xs) (d + 1) 196 12 [(2, .int (l1 + (1 : Int32))), (0, .ref 42), (1, .int l1)] [.int (l1 + (1 : Int32)), .ref 7] m Q
  refine y_iald rfl rfl rfl (H.1) ?_
  replace H := H.2
  refine y_st rfl rfl rfl rfl rfl (fun _ _ => rfl) ?_
  refine y_st rfl rfl rfl rfl rfl (fun _ _ => rfl) ?_
  refine y_gf rfl rfl rfl rfl rfl ?_
  refine y_gf rfl rfl rfl rfl rfl ?_
  refine y_st rfl rfl rfl rfl rfl (fun _ _ => rfl) ?_
  show yP (xg xs) (d + 1) 196 22 [(3, .int (m.1 7 ((l1 + (1 : Int32)).toNatClampNeg))), (2, .int (l1 + (1 : Int32))), (0, .ref 42), (1, .int l1)] [.int (l1 + (1 : Int32)), .ref 3] m Q
  refine y_iald rfl rfl rfl (H.1) ?_
  replace H := H.2
  refine y_st rfl rfl rfl rfl rfl (fun _ _ => rfl) ?_
  show yP (xg xs) (d + 1) 196 25 [(3, .int (m.1 7 ((l1 + (1 : Int32)).toNatClampNeg))), (2, .int (l1 + (1 : Int32))), (0, .ref 42), (1, .int l1)] [.int (32 : Int32), .int (m.1 3 ((l1 + (1 : Int32)).toNatClampNeg))] m Q
  refine y_ine (t := 57) rfl rfl rfl (fun h => ?_) (fun h => ?_)
  · replace H := H.1 h; clear h
    refine y_st rfl rfl rfl rfl rfl (fun _ _ => rfl) ?_
    refine y_st rfl rfl rfl rfl rfl (fun _ _ => rfl) ?_
    show yP (xg xs) (d + 1) 196 59 [(3, .int (m.1 7 ((l1 + (1 : Int32)).toNatClampNeg))), (2, .int (l1 + (1 : Int32))), (0, .ref 42), (1, .int l1)] [.int (m.1 7 ((l1 + (1 : Int32)).toNatClampNeg)), .ref 42] m Q
    refine y_call rfl rfl rfl rfl rfl (Nat.le_of_ble_eq_true rfl) (Nat.le_of_ble_eq_true rfl) rfl (by decide) H (fun v1 m1 H => ?_)
    obtain ⟨rfl, H⟩ := H
    refine y_st rfl rfl rfl rfl rfl (fun _ _ => rfl) ?_
    refine y_st rfl rfl rfl rfl rfl (fun _ _ => rfl) ?_
    refine y_st rfl rfl rfl rfl rfl (fun _ _ => rfl) ?_
    refine y_gf rfl rfl rfl rfl rfl ?_
    refine y_gf rfl rfl rfl rfl rfl ?_
    refine y_st rfl rfl rfl rfl rfl (fun _ _ => rfl) ?_
    refine y_gf rfl rfl rfl rfl rfl ?_
    refine y_gf rfl rfl rfl rfl rfl ?_
    refine y_st rfl rfl rfl rfl rfl (fun _ _ => rfl) ?_
    show yP (xg xs) (d + 1) 196 79 [(3, .int (m.1 7 ((l1 + (1 : Int32)).toNatClampNeg))), (2, .int (l1 + (1 : Int32))), (0, .ref 42), (1, .int l1)] [.int (l1 + (1 : Int32)), .ref 5, .ref 20, .int (2 : Int32), .ref 42] m1 Q
    refine y_iald rfl rfl rfl (H.1) ?_
    replace H := H.2
    show yP (xg xs) (d + 1) 196 80 [(3, .int (m.1 7 ((l1 + (1 : Int32)).toNatClampNeg))), (2, .int (l1 + (1 : Int32))), (0, .ref 42), (1, .int l1)] [.int (m1.1 5 ((l1 + (1 : Int32)).toNatClampNeg)), .ref 20, .int (2 : Int32), .ref 42] m1 Q
    refine y_iald rfl rfl rfl (H.1) ?_
    replace H := H.2
    show yP (xg xs) (d + 1) 196 81 [(3, .int (m.1 7 ((l1 + (1 : Int32)).toNatClampNeg))), (2, .int (l1 + (1 : Int32))), (0, .ref 42), (1, .int l1)] [.int (m1.1 20 ((m1.1 5 ((l1 + (1 : Int32)).toNatClampNeg)).toNatClampNeg)), .int (2 : Int32), .ref 42] m1 Q
    refine y_call rfl rfl rfl rfl rfl (Nat.le_of_ble_eq_true rfl) (Nat.le_of_ble_eq_true rfl) rfl (by decide) H (fun v2 m2 H => ?_)
    obtain ⟨rfl, H⟩ := H
    show yP (xg xs) (d + 1) 196 84 [(3, .int (m.1 7 ((l1 + (1 : Int32)).toNatClampNeg))), (2, .int (l1 + (1 : Int32))), (0, .ref 42), (1, .int l1)] [] m2 Q
    exact y_ret rfl rfl rfl rfl H
  · replace H := H.2 h; clear h
    refine y_st rfl rfl rfl rfl rfl (fun _ _ => rfl) ?_
    refine y_st rfl rfl rfl rfl rfl (fun _ _ => rfl) ?_
    refine y_st rfl rfl rfl rfl rfl (fun _ _ => rfl) ?_
    refine y_st rfl rfl rfl rfl rfl (fun _ _ => rfl) ?_
    show yP (xg xs) (d + 1) 196 32 [(3, .int (m.1 7 ((l1 + (1 : Int32)).toNatClampNeg))), (2, .int (l1 + (1 : Int32))), (0, .ref 42), (1, .int l1)] [.int ((l1 + (1 : Int32)) + (1 : Int32)), .ref 42] m Q
    refine y_call rfl rfl rfl rfl rfl (Nat.le_of_ble_eq_true rfl) (Nat.le_of_ble_eq_true rfl) rfl (by decide) H (fun v3 m3 H => ?_)
    obtain ⟨rfl, H⟩ := H
    refine y_st rfl rfl rfl rfl rfl (fun _ _ => rfl) ?_
    refine y_st rfl rfl rfl rfl rfl (fun _ _ => rfl) ?_
    show yP (xg xs) (d + 1) 196 37 [(3, .int (m.1 7 ((l1 + (1 : Int32)).toNatClampNeg))), (2, .int (l1 + (1 : Int32))), (0, .ref 42), (1, .int l1)] [.int (m.1 7 ((l1 + (1 : Int32)).toNatClampNeg)), .ref 42] m3 Q
    refine y_call rfl rfl rfl rfl rfl (Nat.le_of_ble_eq_true rfl) (Nat.le_of_ble_eq_true rfl) rfl (by decide) H (fun v4 m4 H => ?_)
    obtain ⟨rfl, H⟩ := H
    refine y_st rfl rfl rfl rfl rfl (fun _ _ => rfl) ?_
    refine y_st rfl rfl rfl rfl rfl (fun _ _ => rfl) ?_
    refine y_st rfl rfl rfl rfl rfl (fun _ _ => rfl) ?_
    refine y_gf rfl rfl rfl rfl rfl ?_
    refine y_gf rfl rfl rfl rfl rfl ?_
    refine y_st rfl rfl rfl rfl rfl (fun _ _ => rfl) ?_
    show yP (xg xs) (d + 1) 196 50 [(3, .int (m.1 7 ((l1 + (1 : Int32)).toNatClampNeg))), (2, .int (l1 + (1 : Int32))), (0, .ref 42), (1, .int l1)] [.int (l1 + (1 : Int32)), .ref 5, .int (4 : Int32), .ref 42] m4 Q
    refine y_iald rfl rfl rfl (H.1) ?_
    replace H := H.2
    show yP (xg xs) (d + 1) 196 51 [(3, .int (m.1 7 ((l1 + (1 : Int32)).toNatClampNeg))), (2, .int (l1 + (1 : Int32))), (0, .ref 42), (1, .int l1)] [.int (m4.1 5 ((l1 + (1 : Int32)).toNatClampNeg)), .int (4 : Int32), .ref 42] m4 Q
    refine y_call rfl rfl rfl rfl rfl (Nat.le_of_ble_eq_true rfl) (Nat.le_of_ble_eq_true rfl) rfl (by decide) H (fun v5 m5 H => ?_)
    obtain ⟨rfl, H⟩ := H
    refine y_st rfl rfl rfl rfl rfl (fun _ _ => rfl) ?_
    show yP (xg xs) (d + 1) 196 84 [(3, .int (m.1 7 ((l1 + (1 : Int32)).toNatClampNeg))), (2, .int (l1 + (1 : Int32))), (0, .ref 42), (1, .int l1)] [] m5 Q
    exact y_ret rfl rfl rfl rfl H
set_option maxRecDepth 20000 in
/-- CodeMaker.Writer.expression from 0 on -/
theorem w197_0 (xs : List Int32) (d : Nat) (l1 : Int32) (m : yM) (Q : Option Value → yM → Prop) (H : (x_in l1 16401 = true ∧ (((m.1 3 l1.toNatClampNeg) = (6 : Int32) → (yC (xg xs) d 198 [.ref 42, .int l1] m (fun v1 m1 => ∃ u1, v1 = some (Value.int u1) ∧ (yC (xg xs) d 193 [.ref 42, .int (1 : Int32), .int u1] m1 (fun v2 m2 => v2 = none ∧ Q none m2))))) ∧ ((m.1 3 l1.toNatClampNeg) = (32 : Int32) → (yC (xg xs) d 197 [.ref 42, .int (l1 + (1 : Int32))] m (fun v3 m3 => v3 = none ∧ (x_in l1 16401 = true ∧ (yC (xg xs) d 199 [.ref 42, .int (3 : Int32), .int (m3.1 5 l1.toNatClampNeg)] m3 (fun v4 m4 => v4 = none ∧ Q none m4)))))) ∧ ((m.1 3 l1.toNatClampNeg) = (33 : Int32) → (yC (xg xs) d 198 [.ref 42, .int l1] m (fun v5 m5 => ∃ u5, v5 = some (Value.int u5) ∧ (yC (xg xs) d 193 [.ref 42, .int (1 : Int32), .int u5] m5 (fun v6 m6 => v6 = none ∧ Q none m6))))) ∧ ((m.1 3 l1.toNatClampNeg) = (34 : Int32) → (yC (xg xs) d 200 [.ref 42, .int l1] m (fun v7 m7 => v7 = none ∧ Q none m7))) ∧ ((m.1 3 l1.toNatClampNeg) = (35 : Int32) → (yC (xg xs) d 197 [.ref 42, .int (l1 + (1 : Int32))] m (fun v8 m8 => v8 = none ∧ (x_in (l1 + (1 : Int32)) 16401 = true ∧ (yC (xg xs) d 197 [.ref 42, .int (m8.1 7 ((l1 + (1 : Int32)).toNatClampNeg))] m8 (fun v9 m9 => v9 = none ∧ (x_in l1 16401 = true ∧ (x_in l1 16401 = true ∧ (yC (xg xs) d 181 [.int (m9.1 5 l1.toNatClampNeg), .int (m9.1 6 l1.toNatClampNeg)] m9 (fun v10 m10 => ∃ u10, v10 = some (Value.int u10) ∧ (yC (xg xs) d 193 [.ref 42, .int (7 : Int32), .int u10] m10 (fun v11 m11 => v11 = none ∧ Q none m11)))))))))))) ∧ ((m.1 3 l1.toNatClampNeg) = (36 : Int32) → (yC (xg xs) d 197 [.ref 42, .int (l1 + (1 : Int32))] m (fun v12 m12 => v12 = none ∧ (x_in l1 16401 = true ∧ (x_in l1 16401 = true ∧ (yC (xg xs) d 183 [.int (m12.1 5 l1.toNatClampNeg), .int (m12.1 6 l1.toNatClampNeg)] m12 (fun v13 m13 => ∃ u13, v13 = some (Value.int u13) ∧ (yC (xg xs) d 193 [.ref 42, .int (8 : Int32), .int u13] m13 (fun v14 m14 => v14 = none ∧ Q none m14))))))))) ∧ (¬ (m.1 3 l1.toNatClampNeg) = (6 : Int32) → ¬ (m.1 3 l1.toNatClampNeg) = (32 : Int32) → ¬ (m.1 3 l1.toNatClampNeg) = (33 : Int32) → ¬ (m.1 3 l1.toNatClampNeg) = (34 : Int32) → ¬ (m.1 3 l1.toNatClampNeg) = (35 : Int32) → ¬ (m.1 3 l1.toNatClampNeg) = (36 : Int32) → (x_in l1 16401 = true ∧ (yC (xg xs) d 193 [.ref 42, .int (0 : Int32), .int (m.1 5 l1.toNatClampNeg)] m (fun v15 m15 => v15 = none ∧ Q none m15))))))) : yP (xg xs) (d + 1) 197 0 [(0, .ref 42), (1, .int l1)] [] m Q := by
  refine y_st rfl rfl rfl rfl rfl (fun _ _ => rfl) ?_
  refine y_gf rfl rfl rfl rfl rfl ?_
  refine y_gf rfl rfl rfl rfl rfl ?_
  refine y_st rfl rfl rfl rfl rfl (fun _ _ => rfl) ?_
  show yP (xg xs) (d + 1) 197 8 [(0, .ref 42), (1, .int l1)] [.int l1, .ref 3] m Q
  refine y_iald rfl rfl rfl (H.1) ?_
  replace H := H.2
  show yP (xg xs) (d + 1) 197 9 [(0, .ref 42), (1, .int l1)] [.int (m.1 3 l1.toNatClampNeg)] m Q
  by_cases h6 : m.1 3 l1.toNatClampNeg = (6 : Int32)
  · replace H := H.1 h6
    refine y_lsw (t := 68) rfl rfl rfl (by rw [h6]; rfl) ?_
    clear h6
    refine y_st rfl rfl rfl rfl rfl (fun _ _ => rfl) ?_
    refine y_st rfl rfl rfl rfl rfl (fun _ _ => rfl) ?_
    refine y_st rfl rfl rfl rfl rfl (fun _ _ => rfl) ?_
    refine y_st rfl rfl rfl rfl rfl (fun _ _ => rfl) ?_
    show yP (xg xs) (d + 1) 197 72 [(0, .ref 42), (1, .int l1)] [.int l1, .ref 42, .int (1 : Int32), .ref 42] m Q
    refine y_call rfl rfl rfl rfl rfl (Nat.le_of_ble_eq_true rfl) (Nat.le_of_ble_eq_true rfl) rfl (by decide) H (fun v1 m1 H => ?_)
    obtain ⟨u1, rfl, H⟩ := H
    show yP (xg xs) (d + 1) 197 75 [(0, .ref 42), (1, .int l1)] [.int u1, .int (1 : Int32), .ref 42] m1 Q
    refine y_call rfl rfl rfl rfl rfl (Nat.le_of_ble_eq_true rfl) (Nat.le_of_ble_eq_true rfl) rfl (by decide) H (fun v2 m2 H => ?_)
    obtain ⟨rfl, H⟩ := H
    refine y_st rfl rfl rfl rfl rfl (fun _ _ => rfl) ?_
    show yP (xg xs) (d + 1) 197 216 [(0, .ref 42), (1, .int l1)] [] m2 Q
    exact y_ret rfl rfl rfl rfl H
  replace H := H.2
  by_cases h32 : m.1 3 l1.toNatClampNeg = (32 : Int32)
  · replace H := H.1 h32
    refine y_lsw (t := 81) rfl rfl rfl (by rw [h32]; rfl) ?_
    clear h32 h6
    refine y_st rfl rfl rfl rfl rfl (fun _ _ => rfl) ?_
    refine y_st rfl rfl rfl rfl rfl (fun _ _ => rfl) ?_
    refine y_st rfl rfl rfl rfl rfl (fun _ _ => rfl) ?_
    refine y_st rfl rfl rfl rfl rfl (fun _ _ => rfl) ?_
    show yP (xg xs) (d + 1) 197 85 [(0, .ref 42), (1, .int l1)] [.int (l1 + (1 : Int32)), .ref 42] m Q
    refine y_call rfl rfl rfl rfl rfl (Nat.le_of_ble_eq_true rfl) (Nat.le_of_ble_eq_true rfl) rfl (by decide) H (fun v3 m3 H => ?_)
    obtain ⟨rfl, H⟩ := H
    refine y_st rfl rfl rfl rfl rfl (fun _ _ => rfl) ?_
    refine y_st rfl rfl rfl rfl rfl (fun _ _ => rfl) ?_
    refine y_st rfl rfl rfl rfl rfl (fun _ _ => rfl) ?_
    refine y_gf rfl rfl rfl rfl rfl ?_
    refine y_gf rfl rfl rfl rfl rfl ?_
    refine y_st rfl rfl rfl rfl rfl (fun _ _ => rfl) ?_
    show yP (xg xs) (d + 1) 197 98 [(0, .ref 42), (1, .int l1)] [.int l1, .ref 5, .int (3 : Int32), .ref 42] m3 Q
    refine y_iald rfl rfl rfl (H.1) ?_
    replace H := H.2
    show yP (xg xs) (d + 1) 197 99 [(0, .ref 42), (1, .int l1)] [.int (m3.1 5 l1.toNatClampNeg), .int (3 : Int32), .ref 42] m3 Q
    refine y_call rfl rfl rfl rfl rfl (Nat.le_of_ble_eq_true rfl) (Nat.le_of_ble_eq_true rfl) rfl (by decide) H (fun v4 m4 H => ?_)
    obtain ⟨rfl, H⟩ := H
    refine y_st rfl rfl rfl rfl rfl (fun _ _ => rfl) ?_
    show yP (xg xs) (d + 1) 197 216 [(0, .ref 42), (1, .int l1)] [] m4 Q
    exact y_ret rfl rfl rfl rfl H
  replace H := H.2
  by_cases h33 : m.1 3 l1.toNatClampNeg = (33 : Int32)
  · replace H := H.1 h33
    refine y_lsw (t := 68) rfl rfl rfl (by rw [h33]; rfl) ?_
    clear h33 h32 h6
    refine y_st rfl rfl rfl rfl rfl (fun _ _ => rfl) ?_
    refine y_st rfl rfl rfl rfl rfl (fun _ _ => rfl) ?_
    refine y_st rfl rfl rfl rfl rfl (fun _ _ => rfl) ?_
    refine y_st rfl rfl rfl rfl rfl (fun _ _ => rfl) ?_
    show yP (xg xs) (d + 1) 197 72 [(0, .ref 42), (1, .int l1)] [.int l1, .ref 42, .int (1 : Int32), .ref 42] m Q
    refine y_call rfl rfl rfl rfl rfl (Nat.le_of_ble_eq_true rfl) (Nat.le_of_ble_eq_true rfl) rfl (by decide) H (fun v5 m5 H => ?_)
    obtain ⟨u5, rfl, H⟩ := H
    show yP (xg xs) (d + 1) 197 75 [(0, .ref 42), (1, .int l1)] [.int u5, .int (1 : Int32), .ref 42] m5 Q
    refine y_call rfl rfl rfl rfl rfl (Nat.le_of_ble_eq_true rfl) (Nat.le_of_ble_eq_true rfl) rfl (by decide) H (fun v6 m6 H => ?_)
    obtain ⟨rfl, H⟩ := H
    refine y_st rfl rfl rfl rfl rfl (fun _ _ => rfl) ?_
    show yP (xg xs) (d + 1) 197 216 [(0, .ref 42), (1, .int l1)] [] m6 Q
    exact y_ret rfl rfl rfl rfl H
  replace H := H.2
  by_cases h34 : m.1 3 l1.toNatClampNeg = (34 : Int32)
  · replace H := H.1 h34
    refine y_lsw (t := 105) rfl rfl rfl (by rw [h34]; rfl) ?_
    clear h34 h33 h32 h6
    refine y_st rfl rfl rfl rfl rfl (fun _ _ => rfl) ?_
    refine y_st rfl rfl rfl rfl rfl (fun _ _ => rfl) ?_
    show yP (xg xs) (d + 1) 197 107 [(0, .ref 42), (1, .int l1)] [.int l1, .ref 42] m Q
    refine y_call rfl rfl rfl rfl rfl (Nat.le_of_ble_eq_true rfl) (Nat.le_of_ble_eq_true rfl) rfl (by decide) H (fun v7 m7 H => ?_)
    obtain ⟨rfl, H⟩ := H
    refine y_st rfl rfl rfl rfl rfl (fun _ _ => rfl) ?_
    show yP (xg xs) (d + 1) 197 216 [(0, .ref 42), (1, .int l1)] [] m7 Q
    exact y_ret rfl rfl rfl rfl H
  replace H := H.2
  by_cases h35 : m.1 3 l1.toNatClampNeg = (35 : Int32)
  · replace H := H.1 h35
    refine y_lsw (t := 113) rfl rfl rfl (by rw [h35]; rfl) ?_
    clear h35 h34 h33 h32 h6
    refine y_st rfl rfl rfl rfl rfl (fun _ _ => rfl) ?_
    refine y_st rfl rfl rfl rfl rfl (fun _ _ => rfl) ?_
    refine y_st rfl rfl rfl rfl rfl (fun _ _ => rfl) ?_
    refine y_st rfl rfl rfl rfl rfl (fun _ _ => rfl) ?_
    show yP (xg xs) (d + 1) 197 117 [(0, .ref 42), (1, .int l1)] [.int (l1 + (1 : Int32)), .ref 42] m Q
    refine y_call rfl rfl rfl rfl rfl (Nat.le_of_ble_eq_true rfl) (Nat.le_of_ble_eq_true rfl) rfl (by decide) H (fun v8 m8 H => ?_)
    obtain ⟨rfl, H⟩ := H
    refine y_st rfl rfl rfl rfl rfl (fun _ _ => rfl) ?_
    refine y_st rfl rfl rfl rfl rfl (fun _ _ => rfl) ?_
    refine y_gf rfl rfl rfl rfl rfl ?_
    refine y_gf rfl rfl rfl rfl rfl ?_
    refine y_st rfl rfl rfl rfl rfl (fun _ _ => rfl) ?_
    refine y_st rfl rfl rfl rfl rfl (fun _ _ => rfl) ?_
    refine y_st rfl rfl rfl rfl rfl (fun _ _ => rfl) ?_
    show yP (xg xs) (d + 1) 197 131 [(0, .ref 42), (1, .int l1)] [.int (l1 + (1 : Int32)), .ref 7, .ref 42] m8 Q
    refine y_iald rfl rfl rfl (H.1) ?_
    replace H := H.2
    show yP (xg xs) (d + 1) 197 132 [(0, .ref 42), (1, .int l1)] [.int (m8.1 7 ((l1 + (1 : Int32)).toNatClampNeg)), .ref 42] m8 Q
    refine y_call rfl rfl rfl rfl rfl (Nat.le_of_ble_eq_true rfl) (Nat.le_of_ble_eq_true rfl) rfl (by decide) H (fun v9 m9 H => ?_)
    obtain ⟨rfl, H⟩ := H
    refine y_st rfl rfl rfl rfl rfl (fun _ _ => rfl) ?_
    refine y_st rfl rfl rfl rfl rfl (fun _ _ => rfl) ?_
    refine y_st rfl rfl rfl rfl rfl (fun _ _ => rfl) ?_
    refine y_gf rfl rfl rfl rfl rfl ?_
    refine y_gf rfl rfl rfl rfl rfl ?_
    refine y_st rfl rfl rfl rfl rfl (fun _ _ => rfl) ?_
    show yP (xg xs) (d + 1) 197 146 [(0, .ref 42), (1, .int l1)] [.int l1, .ref 5, .int (7 : Int32), .ref 42] m9 Q
    refine y_iald rfl rfl rfl (H.1) ?_
    replace H := H.2
    refine y_st rfl rfl rfl rfl rfl (fun _ _ => rfl) ?_
    refine y_gf rfl rfl rfl rfl rfl ?_
    refine y_gf rfl rfl rfl rfl rfl ?_
    refine y_st rfl rfl rfl rfl rfl (fun _ _ => rfl) ?_
    show yP (xg xs) (d + 1) 197 155 [(0, .ref 42), (1, .int l1)] [.int l1, .ref 6, .int (m9.1 5 l1.toNatClampNeg), .int (7 : Int32), .ref 42] m9 Q
    refine y_iald rfl rfl rfl (H.1) ?_
    replace H := H.2
    show yP (xg xs) (d + 1) 197 156 [(0, .ref 42), (1, .int l1)] [.int (m9.1 6 l1.toNatClampNeg), .int (m9.1 5 l1.toNatClampNeg), .int (7 : Int32), .ref 42] m9 Q
    refine y_call rfl rfl rfl rfl rfl (Nat.le_of_ble_eq_true rfl) (Nat.le_of_ble_eq_true rfl) rfl (by decide) H (fun v10 m10 H => ?_)
    obtain ⟨u10, rfl, H⟩ := H
    show yP (xg xs) (d + 1) 197 159 [(0, .ref 42), (1, .int l1)] [.int u10, .int (7 : Int32), .ref 42] m10 Q
    refine y_call rfl rfl rfl rfl rfl (Nat.le_of_ble_eq_true rfl) (Nat.le_of_ble_eq_true rfl) rfl (by decide) H (fun v11 m11 H => ?_)
    obtain ⟨rfl, H⟩ := H
    refine y_st rfl rfl rfl rfl rfl (fun _ _ => rfl) ?_
    show yP (xg xs) (d + 1) 197 216 [(0, .ref 42), (1, .int l1)] [] m11 Q
    exact y_ret rfl rfl rfl rfl H
  replace H := H.2
  by_cases h36 : m.1 3 l1.toNatClampNeg = (36 : Int32)
  · replace H := H.1 h36
    refine y_lsw (t := 165) rfl rfl rfl (by rw [h36]; rfl) ?_
    clear h36 h35 h34 h33 h32 h6
    refine y_st rfl rfl rfl rfl rfl (fun _ _ => rfl) ?_
    refine y_st rfl rfl rfl rfl rfl (fun _ _ => rfl) ?_
    refine y_st rfl rfl rfl rfl rfl (fun _ _ => rfl) ?_
    refine y_st rfl rfl rfl rfl rfl (fun _ _ => rfl) ?_
    show yP (xg xs) (d + 1) 197 169 [(0, .ref 42), (1, .int l1)] [.int (l1 + (1 : Int32)), .ref 42] m Q
    refine y_call rfl rfl rfl rfl rfl (Nat.le_of_ble_eq_true rfl) (Nat.le_of_ble_eq_true rfl) rfl (by decide) H (fun v12 m12 H => ?_)
    obtain ⟨rfl, H⟩ := H
    refine y_st rfl rfl rfl rfl rfl (fun _ _ => rfl) ?_
    refine y_st rfl rfl rfl rfl rfl (fun _ _ => rfl) ?_
    refine y_st rfl rfl rfl rfl rfl (fun _ _ => rfl) ?_
    refine y_gf rfl rfl rfl rfl rfl ?_
    refine y_gf rfl rfl rfl rfl rfl ?_
    refine y_st rfl rfl rfl rfl rfl (fun _ _ => rfl) ?_
    show yP (xg xs) (d + 1) 197 183 [(0, .ref 42), (1, .int l1)] [.int l1, .ref 5, .int (8 : Int32), .ref 42] m12 Q
    refine y_iald rfl rfl rfl (H.1) ?_
    replace H := H.2
    refine y_st rfl rfl rfl rfl rfl (fun _ _ => rfl) ?_
    refine y_gf rfl rfl rfl rfl rfl ?_
    refine y_gf rfl rfl rfl rfl rfl ?_
    refine y_st rfl rfl rfl rfl rfl (fun _ _ => rfl) ?_
    show yP (xg xs) (d + 1) 197 192 [(0, .ref 42), (1, .int l1)] [.int l1, .ref 6, .int (m12.1 5 l1.toNatClampNeg), .int (8 : Int32), .ref 42] m12 Q
    refine y_iald rfl rfl rfl (H.1) ?_
    replace H := H.2
    show yP (xg xs) (d + 1) 197 193 [(0, .ref 42), (1, .int l1)] [.int (m12.1 6 l1.toNatClampNeg), .int (m12.1 5 l1.toNatClampNeg), .int (8 : Int32), .ref 42] m12 Q
    refine y_call rfl rfl rfl rfl rfl (Nat.le_of_ble_eq_true rfl) (Nat.le_of_ble_eq_true rfl) rfl (by decide) H (fun v13 m13 H => ?_)
    obtain ⟨u13, rfl, H⟩ := H
    show yP (xg xs) (d + 1) 197 196 [(0, .ref 42), (1, .int l1)] [.int u13, .int (8 : Int32), .ref 42] m13 Q
    refine y_call rfl rfl rfl rfl rfl (Nat.le_of_ble_eq_true rfl) (Nat.le_of_ble_eq_true rfl) rfl (by decide) H (fun v14 m14 H => ?_)
    obtain ⟨rfl, H⟩ := H
    refine y_st rfl rfl rfl rfl rfl (fun _ _ => rfl) ?_
    show yP (xg xs) (d + 1) 197 216 [(0, .ref 42), (1, .int l1)] [] m14 Q
    exact y_ret rfl rfl rfl rfl H
  replace H := H.2
  refine y_lsw (t := 202) rfl rfl rfl (by have g0 := ne_lit (6 : Int32) 6 rfl h6; have g1 := ne_lit (32 : Int32) 32 rfl h32; have g2 := ne_lit (33 : Int32) 33 rfl h33; have g3 := ne_lit (34 : Int32) 34 rfl h34; have g4 := ne_lit (35 : Int32) 35 rfl h35; have g5 := ne_lit (36 : Int32) 36 rfl h36; simp [Op.lookupswitch.offset, Ne.symm g0, Ne.symm g1, Ne.symm g2, Ne.symm g3, Ne.symm g4, Ne.symm g5]; rfl) ?_
  replace H := H h6 h32 h33 h34 h35 h36
  clear h36 h35 h34 h33 h32 h6
  refine y_st rfl rfl rfl rfl rfl (fun _ _ => rfl) ?_
  refine y_st rfl rfl rfl rfl rfl (fun _ _ => rfl) ?_
  refine y_st rfl rfl rfl rfl rfl (fun _ _ => rfl) ?_
  refine y_gf rfl rfl rfl rfl rfl ?_
  refine y_gf rfl rfl rfl rfl rfl ?_
  refine y_st rfl rfl rfl rfl rfl (fun _ _ => rfl) ?_
  show yP (xg xs) (d + 1) 197 212 [(0, .ref 42), (1, .int l1)] [.int l1, .ref 5, .int (0 : Int32), .ref 42] m Q
  refine y_iald rfl rfl rfl (H.1) ?_
  replace H := H.2
  show yP (xg xs) (d + 1) 197 213 [(0, .ref 42), (1, .int l1)] [.int (m.1 5 l1.toNatClampNeg), .int (0 : Int32), .ref 42] m Q
  refine y_call rfl rfl rfl rfl rfl (Nat.le_of_ble_eq_true rfl) (Nat.le_of_ble_eq_true rfl) rfl (by decide) H (fun v15 m15 H => ?_)
  obtain ⟨rfl, H⟩ := H
  show yP (xg xs) (d + 1) 197 216 [(0, .ref 42), (1, .int l1)] [] m15 Q
  exact y_ret rfl rfl rfl rfl H
set_option maxRecDepth 20000 in
/-- CodeMaker.Writer.cellOf from 0 on -/
theorem w198_0 (xs : List Int32) (d : Nat) (l1 : Int32) (m : yM) (Q : Option Value → yM → Prop) (H : (x_in l1 16401 = true ∧ ((¬ (m.1 3 l1.toNatClampNeg) = (6 : Int32) → (x_in l1 16401 = true ∧ Q (some (.int (m.1 5 l1.toNatClampNeg))) m)) ∧ ((m.1 3 l1.toNatClampNeg) = (6 : Int32) → (x_in l1 16401 = true ∧ (x_in (m.1 5 l1.toNatClampNeg) 4097 = true ∧ Q (some (.int (m.1 20 ((m.1 5 l1.toNatClampNeg).toNatClampNeg)))) m)))))) : yP (xg xs) (d + 1) 198 0 [(0, .ref 42), (1, .int l1)] [] m Q := by
  refine y_st rfl rfl rfl rfl rfl (fun _ _ => rfl) ?_
  refine y_gf rfl rfl rfl rfl rfl ?_
  refine y_gf rfl rfl rfl rfl rfl ?_
  refine y_st rfl rfl rfl rfl rfl (fun _ _ => rfl) ?_
  show yP (xg xs) (d + 1) 198 8 [(0, .ref 42), (1, .int l1)] [.int l1, .ref 3] m Q
  refine y_iald rfl rfl rfl (H.1) ?_
  replace H := H.2
  refine y_st rfl rfl rfl rfl rfl (fun _ _ => rfl) ?_
  show yP (xg xs) (d + 1) 198 11 [(0, .ref 42), (1, .int l1)] [.int (6 : Int32), .int (m.1 3 l1.toNatClampNeg)] m Q
  refine y_ine (t := 34) rfl rfl rfl (fun h => ?_) (fun h => ?_)
  · replace H := H.1 h; clear h
    refine y_st rfl rfl rfl rfl rfl (fun _ _ => rfl) ?_
    refine y_gf rfl rfl rfl rfl rfl ?_
    refine y_gf rfl rfl rfl rfl rfl ?_
    refine y_st rfl rfl rfl rfl rfl (fun _ _ => rfl) ?_
    show yP (xg xs) (d + 1) 198 42 [(0, .ref 42), (1, .int l1)] [.int l1, .ref 5] m Q
    refine y_iald rfl rfl rfl (H.1) ?_
    replace H := H.2
    show yP (xg xs) (d + 1) 198 43 [(0, .ref 42), (1, .int l1)] [.int (m.1 5 l1.toNatClampNeg)] m Q
    exact y_iret rfl rfl rfl H
  · replace H := H.2 h; clear h
    refine y_st rfl rfl rfl rfl rfl (fun _ _ => rfl) ?_
    refine y_gf rfl rfl rfl rfl rfl ?_
    refine y_gf rfl rfl rfl rfl rfl ?_
    refine y_st rfl rfl rfl rfl rfl (fun _ _ => rfl) ?_
    refine y_gf rfl rfl rfl rfl rfl ?_
    refine y_gf rfl rfl rfl rfl rfl ?_
    refine y_st rfl rfl rfl rfl rfl (fun _ _ => rfl) ?_
    show yP (xg xs) (d + 1) 198 29 [(0, .ref 42), (1, .int l1)] [.int l1, .ref 5, .ref 20] m Q
    refine y_iald rfl rfl rfl (H.1) ?_
    replace H := H.2
    show yP (xg xs) (d + 1) 198 30 [(0, .ref 42), (1, .int l1)] [.int (m.1 5 l1.toNatClampNeg), .ref 20] m Q
    refine y_iald rfl rfl rfl (H.1) ?_
    replace H := H.2
    refine y_st rfl rfl rfl rfl rfl (fun _ _ => rfl) ?_
    show yP (xg xs) (d + 1) 198 43 [(0, .ref 42), (1, .int l1)] [.int (m.1 20 ((m.1 5 l1.toNatClampNeg).toNatClampNeg))] m Q
    exact y_iret rfl rfl rfl H
set_option maxRecDepth 20000 in
/-- CodeMaker.Writer.element from 0 on -/
theorem w199_0 (xs : List Int32) (d : Nat) (l1 : Int32) (l2 : Int32) (m : yM) (Q : Option Value → yM → Prop) (H : (x_in l2 4097 = true ∧ (x_in l2 4097 = true ∧ (x_in ((m.1 21 l2.toNatClampNeg) + (1 : Int32)) 16401 = true ∧ (x_in (m.1 21 l2.toNatClampNeg) 16401 = true ∧ (yC (xg xs) d 194 [.ref 35, .int l1, .int (m.1 20 l2.toNatClampNeg), .int (m.1 5 (((m.1 21 l2.toNatClampNeg) + (1 : Int32)).toNatClampNeg)), .int (m.1 5 ((m.1 21 l2.toNatClampNeg).toNatClampNeg))] m (fun v1 m1 => ∃ u1, v1 = some (Value.int u1) ∧ Q none m1))))))) : yP (xg xs) (d + 1) 199 0 [(0, .ref 42), (1, .int l1), (2, .int l2)] [] m Q := by
  refine y_st rfl rfl rfl rfl rfl (fun _ _ => rfl) ?_
  refine y_gf rfl rfl rfl rfl rfl ?_
  refine y_gf rfl rfl rfl rfl rfl ?_
  refine y_st rfl rfl rfl rfl rfl (fun _ _ => rfl) ?_
  show yP (xg xs) (d + 1) 199 8 [(0, .ref 42), (1, .int l1), (2, .int l2)] [.int l2, .ref 21] m Q
  refine y_iald rfl rfl rfl (H.1) ?_
  replace H := H.2
  refine y_st rfl rfl rfl rfl rfl (fun _ _ => rfl) ?_
  refine y_st rfl rfl rfl rfl rfl (fun _ _ => rfl) ?_
  refine y_gf rfl rfl rfl rfl rfl ?_
  refine y_st rfl rfl rfl rfl rfl (fun _ _ => rfl) ?_
  refine y_st rfl rfl rfl rfl rfl (fun _ _ => rfl) ?_
  refine y_gf rfl rfl rfl rfl rfl ?_
  refine y_gf rfl rfl rfl rfl rfl ?_
  refine y_st rfl rfl rfl rfl rfl (fun _ _ => rfl) ?_
  show yP (xg xs) (d + 1) 199 23 [(3, .int (m.1 21 l2.toNatClampNeg)), (0, .ref 42), (1, .int l1), (2, .int l2)] [.int l2, .ref 20, .int l1, .ref 35] m Q
  refine y_iald rfl rfl rfl (H.1) ?_
  replace H := H.2
  refine y_st rfl rfl rfl rfl rfl (fun _ _ => rfl) ?_
  refine y_gf rfl rfl rfl rfl rfl ?_
  refine y_gf rfl rfl rfl rfl rfl ?_
  refine y_st rfl rfl rfl rfl rfl (fun _ _ => rfl) ?_
  refine y_st rfl rfl rfl rfl rfl (fun _ _ => rfl) ?_
  refine y_st rfl rfl rfl rfl rfl (fun _ _ => rfl) ?_
  show yP (xg xs) (d + 1) 199 34 [(3, .int (m.1 21 l2.toNatClampNeg)), (0, .ref 42), (1, .int l1), (2, .int l2)] [.int ((m.1 21 l2.toNatClampNeg) + (1 : Int32)), .ref 5, .int (m.1 20 l2.toNatClampNeg), .int l1, .ref 35] m Q
  refine y_iald rfl rfl rfl (H.1) ?_
  replace H := H.2
  refine y_st rfl rfl rfl rfl rfl (fun _ _ => rfl) ?_
  refine y_gf rfl rfl rfl rfl rfl ?_
  refine y_gf rfl rfl rfl rfl rfl ?_
  refine y_st rfl rfl rfl rfl rfl (fun _ _ => rfl) ?_
  show yP (xg xs) (d + 1) 199 43 [(3, .int (m.1 21 l2.toNatClampNeg)), (0, .ref 42), (1, .int l1), (2, .int l2)] [.int (m.1 21 l2.toNatClampNeg), .ref 5, .int (m.1 5 (((m.1 21 l2.toNatClampNeg) + (1 : Int32)).toNatClampNeg)), .int (m.1 20 l2.toNatClampNeg), .int l1, .ref 35] m Q
  refine y_iald rfl rfl rfl (H.1) ?_
  replace H := H.2
  show yP (xg xs) (d + 1) 199 44 [(3, .int (m.1 21 l2.toNatClampNeg)), (0, .ref 42), (1, .int l1), (2, .int l2)] [.int (m.1 5 ((m.1 21 l2.toNatClampNeg).toNatClampNeg)), .int (m.1 5 (((m.1 21 l2.toNatClampNeg) + (1 : Int32)).toNatClampNeg)), .int (m.1 20 l2.toNatClampNeg), .int l1, .ref 35] m Q
  refine y_call rfl rfl rfl rfl rfl (Nat.le_of_ble_eq_true rfl) (Nat.le_of_ble_eq_true rfl) rfl (by decide) H (fun v1 m1 H => ?_)
  obtain ⟨u1, rfl, H⟩ := H
  refine y_st rfl rfl rfl rfl rfl (fun _ _ => rfl) ?_
  show yP (xg xs) (d + 1) 199 48 [(3, .int (m.1 21 l2.toNatClampNeg)), (0, .ref 42), (1, .int l1), (2, .int l2)] [] m1 Q
  exact y_ret rfl rfl rfl rfl H
set_option maxRecDepth 20000 in
/-- CodeMaker.Writer.call from 0 on -/
theorem w200_0 (xs : List Int32) (d : Nat) (l1 : Int32) (m : yM) (Q : Option Value → yM → Prop) (H : (x_in l1 16401 = true ∧ yP (xg xs) (d + 1) 200 17 [(0, .ref 42), (1, .int l1), (2, .int (m.1 5 l1.toNatClampNeg)), (3, .int (0 : Int32)), (4, .int (l1 + (1 : Int32)))] [] m Q)) : yP (xg xs) (d + 1) 200 0 [(0, .ref 42), (1, .int l1)] [] m Q := by
  refine y_st rfl rfl rfl rfl rfl (fun _ _ => rfl) ?_
  refine y_gf rfl rfl rfl rfl rfl ?_
  refine y_gf rfl rfl rfl rfl rfl ?_
  refine y_st rfl rfl rfl rfl rfl (fun _ _ => rfl) ?_
  show yP (xg xs) (d + 1) 200 8 [(0, .ref 42), (1, .int l1)] [.int l1, .ref 5] m Q
  refine y_iald rfl rfl rfl (H.1) ?_
  replace H := H.2
  refine y_st rfl rfl rfl rfl rfl (fun _ _ => rfl) ?_
  refine y_st rfl rfl rfl rfl rfl (fun _ _ => rfl) ?_
  refine y_st rfl rfl rfl rfl rfl (fun _ _ => rfl) ?_
  refine y_st rfl rfl rfl rfl rfl (fun _ _ => rfl) ?_
  refine y_st rfl rfl rfl rfl rfl (fun _ _ => rfl) ?_
  refine y_st rfl rfl rfl rfl rfl (fun _ _ => rfl) ?_
  refine y_st rfl rfl rfl rfl rfl (fun _ _ => rfl) ?_
  show yP (xg xs) (d + 1) 200 17 [(4, .int (l1 + (1 : Int32))), (3, .int (0 : Int32)), (2, .int (m.1 5 l1.toNatClampNeg)), (0, .ref 42), (1, .int l1)] [] m Q
  refine y_headS (l2 := [(0, .ref 42), (1, .int l1), (2, .int (m.1 5 l1.toNatClampNeg)), (3, .int (0 : Int32)), (4, .int (l1 + (1 : Int32)))]) [3, 4, 2, 1, 0] [0, 1, 2, 3, 4] [4, 3, 2, 0, 1] rfl rfl (by decide) rfl (by decide) ?_
  exact H
set_option maxRecDepth 20000 in
/-- CodeMaker.Writer.call from 17 on -/
theorem w200_17 (xs : List Int32) (d : Nat) (l1 : Int32) (l2 : Int32) (l3 : Int32) (l4 : Int32) (m : yM) (Q : Option Value → yM → Prop) (H : (x_in l1 16401 = true ∧ (((m.1 7 l1.toNatClampNeg) ≤ l4 → ((l2 < (10 : Int32) → ((¬ l2 = (4 : Int32) → ((l2 = (3 : Int32) → Q none m) ∧ (¬ l2 = (3 : Int32) → ((l2 = (8 : Int32) → Q none m) ∧ (¬ l2 = (8 : Int32) → ((¬ l3 = (1 : Int32) → yP (xg xs) (d + 1) 200 139 [(0, .ref 42), (1, .int l1), (2, .int l2)] [.int (7 : Int32), .ref 42] m Q) ∧ (l3 = (1 : Int32) → yP (xg xs) (d + 1) 200 139 [(0, .ref 42), (1, .int l1), (2, .int l2)] [.int (8 : Int32), .ref 42] m Q))))))) ∧ (l2 = (4 : Int32) → (yC (xg xs) d 193 [.ref 42, .int (9 : Int32), .int (0 : Int32)] m (fun v1 m1 => v1 = none ∧ Q none m1))))) ∧ (¬ l2 < (10 : Int32) → (yC (xg xs) d 201 [.ref 42, .int (l2 - (10 : Int32))] m (fun v2 m2 => v2 = none ∧ Q none m2))))) ∧ (¬ (m.1 7 l1.toNatClampNeg) ≤ l4 → (yC (xg xs) d 197 [.ref 42, .int l4] m (fun v3 m3 => v3 = none ∧ ((¬ l2 = (3 : Int32) → yP (xg xs) (d + 1) 200 68 [(0, .ref 42), (1, .int l1), (2, .int l2), (3, .int (l3 + (1 : Int32))), (4, .int l4)] [] m3 Q) ∧ (l2 = (3 : Int32) → (((l3 + (1 : Int32)) ≤ (1 : Int32) → yP (xg xs) (d + 1) 200 68 [(0, .ref 42), (1, .int l1), (2, .int l2), (3, .int (l3 + (1 : Int32))), (4, .int l4)] [] m3 Q) ∧ (¬ (l3 + (1 : Int32)) ≤ (1 : Int32) → ((¬ (l3 + (1 : Int32)) = (2 : Int32) → yP (xg xs) (d + 1) 200 65 [(0, .ref 42), (1, .int l1), (2, .int l2), (3, .int (l3 + (1 : Int32))), (4, .int l4)] [.int (23 : Int32), .int (7 : Int32), .ref 42] m3 Q) ∧ ((l3 + (1 : Int32)) = (2 : Int32) → yP (xg xs) (d + 1) 200 65 [(0, .ref 42), (1, .int l1), (2, .int l2), (3, .int (l3 + (1 : Int32))), (4, .int l4)] [.int (24 : Int32), .int (7 : Int32), .ref 42] m3 Q)))))))))))) : yP (xg xs) (d + 1) 200 17 [(0, .ref 42), (1, .int l1), (2, .int l2), (3, .int l3), (4, .int l4)] [] m Q := by
  refine y_st rfl rfl rfl rfl rfl (fun _ _ => rfl) ?_
  refine y_st rfl rfl rfl rfl rfl (fun _ _ => rfl) ?_
  refine y_gf rfl rfl rfl rfl rfl ?_
  refine y_gf rfl rfl rfl rfl rfl ?_
  refine y_st rfl rfl rfl rfl rfl (fun _ _ => rfl) ?_
  show yP (xg xs) (d + 1) 200 27 [(0, .ref 42), (1, .int l1), (2, .int l2), (3, .int l3), (4, .int l4)] [.int l1, .ref 7, .int l4] m Q
  refine y_iald rfl rfl rfl (H.1) ?_
  replace H := H.2
  show yP (xg xs) (d + 1) 200 28 [(0, .ref 42), (1, .int l1), (2, .int l2), (3, .int l3), (4, .int l4)] [.int (m.1 7 l1.toNatClampNeg), .int l4] m Q
  refine y_ige (t := 83) rfl rfl rfl (fun h => ?_) (fun h => ?_)
  · replace H := H.1 h; clear h
    refine y_st rfl rfl rfl rfl rfl (fun _ _ => rfl) ?_
    refine y_st rfl rfl rfl rfl rfl (fun _ _ => rfl) ?_
    show yP (xg xs) (d + 1) 200 86 [(0, .ref 42), (1, .int l1), (2, .int l2), (3, .int l3), (4, .int l4)] [.int (10 : Int32), .int l2] m Q
    refine y_ilt (t := 100) rfl rfl rfl (fun h => ?_) (fun h => ?_)
    · replace H := H.1 h; clear h
      refine y_st rfl rfl rfl rfl rfl (fun _ _ => rfl) ?_
      refine y_st rfl rfl rfl rfl rfl (fun _ _ => rfl) ?_
      show yP (xg xs) (d + 1) 200 102 [(0, .ref 42), (1, .int l1), (2, .int l2), (3, .int l3), (4, .int l4)] [.int (4 : Int32), .int l2] m Q
      refine y_ine (t := 115) rfl rfl rfl (fun h => ?_) (fun h => ?_)
      · replace H := H.1 h; clear h
        refine y_st rfl rfl rfl rfl rfl (fun _ _ => rfl) ?_
        refine y_st rfl rfl rfl rfl rfl (fun _ _ => rfl) ?_
        show yP (xg xs) (d + 1) 200 117 [(0, .ref 42), (1, .int l1), (2, .int l2), (3, .int l3), (4, .int l4)] [.int (3 : Int32), .int l2] m Q
        refine y_ieq (t := 157) rfl rfl rfl (fun h => ?_) (fun h => ?_)
        · replace H := H.1 h; clear h
          show yP (xg xs) (d + 1) 200 157 [(0, .ref 42), (1, .int l1), (2, .int l2), (3, .int l3), (4, .int l4)] [] m Q
          exact y_ret rfl rfl rfl rfl H
        · replace H := H.2 h; clear h
          refine y_st rfl rfl rfl rfl rfl (fun _ _ => rfl) ?_
          refine y_st rfl rfl rfl rfl rfl (fun _ _ => rfl) ?_
          show yP (xg xs) (d + 1) 200 123 [(0, .ref 42), (1, .int l1), (2, .int l2), (3, .int l3), (4, .int l4)] [.int (8 : Int32), .int l2] m Q
          refine y_ieq (t := 157) rfl rfl rfl (fun h => ?_) (fun h => ?_)
          · replace H := H.1 h; clear h
            show yP (xg xs) (d + 1) 200 157 [(0, .ref 42), (1, .int l1), (2, .int l2), (3, .int l3), (4, .int l4)] [] m Q
            exact y_ret rfl rfl rfl rfl H
          · replace H := H.2 h; clear h
            refine y_st rfl rfl rfl rfl rfl (fun _ _ => rfl) ?_
            refine y_st rfl rfl rfl rfl rfl (fun _ _ => rfl) ?_
            refine y_st rfl rfl rfl rfl rfl (fun _ _ => rfl) ?_
            show yP (xg xs) (d + 1) 200 129 [(0, .ref 42), (1, .int l1), (2, .int l2), (3, .int l3), (4, .int l4)] [.int (1 : Int32), .int l3, .ref 42] m Q
            refine y_ine (t := 137) rfl rfl rfl (fun h => ?_) (fun h => ?_)
            · replace H := H.1 h; clear h
              refine y_st rfl rfl rfl rfl rfl (fun _ _ => rfl) ?_
              show yP (xg xs) (d + 1) 200 139 [(0, .ref 42), (1, .int l1), (2, .int l2), (3, .int l3), (4, .int l4)] [.int (7 : Int32), .ref 42] m Q
              refine y_headS (l2 := [(0, .ref 42), (1, .int l1), (2, .int l2)]) [0, 1, 2] [0, 1, 2] [0, 1, 2, 3, 4] rfl rfl (by decide) rfl (by decide) ?_
              exact H
            · replace H := H.2 h; clear h
              refine y_st rfl rfl rfl rfl rfl (fun _ _ => rfl) ?_
              refine y_st rfl rfl rfl rfl rfl (fun _ _ => rfl) ?_
              show yP (xg xs) (d + 1) 200 139 [(0, .ref 42), (1, .int l1), (2, .int l2), (3, .int l3), (4, .int l4)] [.int (8 : Int32), .ref 42] m Q
              refine y_headS (l2 := [(0, .ref 42), (1, .int l1), (2, .int l2)]) [0, 1, 2] [0, 1, 2] [0, 1, 2, 3, 4] rfl rfl (by decide) rfl (by decide) ?_
              exact H
      · replace H := H.2 h; clear h
        refine y_st rfl rfl rfl rfl rfl (fun _ _ => rfl) ?_
        refine y_st rfl rfl rfl rfl rfl (fun _ _ => rfl) ?_
        refine y_st rfl rfl rfl rfl rfl (fun _ _ => rfl) ?_
        show yP (xg xs) (d + 1) 200 109 [(0, .ref 42), (1, .int l1), (2, .int l2), (3, .int l3), (4, .int l4)] [.int (0 : Int32), .int (9 : Int32), .ref 42] m Q
        refine y_call rfl rfl rfl rfl rfl (Nat.le_of_ble_eq_true rfl) (Nat.le_of_ble_eq_true rfl) rfl (by decide) H (fun v1 m1 H => ?_)
        obtain ⟨rfl, H⟩ := H
        refine y_st rfl rfl rfl rfl rfl (fun _ _ => rfl) ?_
        show yP (xg xs) (d + 1) 200 157 [(0, .ref 42), (1, .int l1), (2, .int l2), (3, .int l3), (4, .int l4)] [] m1 Q
        exact y_ret rfl rfl rfl rfl H
    · replace H := H.2 h; clear h
      refine y_st rfl rfl rfl rfl rfl (fun _ _ => rfl) ?_
      refine y_st rfl rfl rfl rfl rfl (fun _ _ => rfl) ?_
      refine y_st rfl rfl rfl rfl rfl (fun _ _ => rfl) ?_
      refine y_st rfl rfl rfl rfl rfl (fun _ _ => rfl) ?_
      show yP (xg xs) (d + 1) 200 94 [(0, .ref 42), (1, .int l1), (2, .int l2), (3, .int l3), (4, .int l4)] [.int (l2 - (10 : Int32)), .ref 42] m Q
      refine y_call rfl rfl rfl rfl rfl (Nat.le_of_ble_eq_true rfl) (Nat.le_of_ble_eq_true rfl) rfl (by decide) H (fun v2 m2 H => ?_)
      obtain ⟨rfl, H⟩ := H
      refine y_st rfl rfl rfl rfl rfl (fun _ _ => rfl) ?_
      show yP (xg xs) (d + 1) 200 157 [(0, .ref 42), (1, .int l1), (2, .int l2), (3, .int l3), (4, .int l4)] [] m2 Q
      exact y_ret rfl rfl rfl rfl H
  · replace H := H.2 h; clear h
    refine y_st rfl rfl rfl rfl rfl (fun _ _ => rfl) ?_
    refine y_st rfl rfl rfl rfl rfl (fun _ _ => rfl) ?_
    show yP (xg xs) (d + 1) 200 34 [(0, .ref 42), (1, .int l1), (2, .int l2), (3, .int l3), (4, .int l4)] [.int l4, .ref 42] m Q
    refine y_call rfl rfl rfl rfl rfl (Nat.le_of_ble_eq_true rfl) (Nat.le_of_ble_eq_true rfl) rfl (by decide) H (fun v3 m3 H => ?_)
    obtain ⟨rfl, H⟩ := H
    refine y_st rfl rfl rfl rfl rfl (fun _ _ => rfl) ?_
    refine y_st rfl rfl rfl rfl rfl (fun _ _ => rfl) ?_
    refine y_st rfl rfl rfl rfl rfl (fun _ _ => rfl) ?_
    show yP (xg xs) (d + 1) 200 42 [(3, .int (l3 + (1 : Int32))), (0, .ref 42), (1, .int l1), (2, .int l2), (4, .int l4)] [.int (3 : Int32), .int l2] m3 Q
    refine y_ine (t := 68) rfl rfl rfl (fun h => ?_) (fun h => ?_)
    · replace H := H.1 h; clear h
      show yP (xg xs) (d + 1) 200 68 [(3, .int (l3 + (1 : Int32))), (0, .ref 42), (1, .int l1), (2, .int l2), (4, .int l4)] [] m3 Q
      refine y_headS (l2 := [(0, .ref 42), (1, .int l1), (2, .int l2), (3, .int (l3 + (1 : Int32))), (4, .int l4)]) [1, 2, 3, 0, 4] [0, 1, 2, 3, 4] [3, 0, 1, 2, 4] rfl rfl (by decide) rfl (by decide) ?_
      exact H
    · replace H := H.2 h; clear h
      refine y_st rfl rfl rfl rfl rfl (fun _ _ => rfl) ?_
      refine y_st rfl rfl rfl rfl rfl (fun _ _ => rfl) ?_
      show yP (xg xs) (d + 1) 200 47 [(3, .int (l3 + (1 : Int32))), (0, .ref 42), (1, .int l1), (2, .int l2), (4, .int l4)] [.int (1 : Int32), .int (l3 + (1 : Int32))] m3 Q
      refine y_ile (t := 68) rfl rfl rfl (fun h => ?_) (fun h => ?_)
      · replace H := H.1 h; clear h
        show yP (xg xs) (d + 1) 200 68 [(3, .int (l3 + (1 : Int32))), (0, .ref 42), (1, .int l1), (2, .int l2), (4, .int l4)] [] m3 Q
        refine y_headS (l2 := [(0, .ref 42), (1, .int l1), (2, .int l2), (3, .int (l3 + (1 : Int32))), (4, .int l4)]) [1, 2, 3, 0, 4] [0, 1, 2, 3, 4] [3, 0, 1, 2, 4] rfl rfl (by decide) rfl (by decide) ?_
        exact H
      · replace H := H.2 h; clear h
        refine y_st rfl rfl rfl rfl rfl (fun _ _ => rfl) ?_
        refine y_st rfl rfl rfl rfl rfl (fun _ _ => rfl) ?_
        refine y_st rfl rfl rfl rfl rfl (fun _ _ => rfl) ?_
        refine y_st rfl rfl rfl rfl rfl (fun _ _ => rfl) ?_
        show yP (xg xs) (d + 1) 200 55 [(3, .int (l3 + (1 : Int32))), (0, .ref 42), (1, .int l1), (2, .int l2), (4, .int l4)] [.int (2 : Int32), .int (l3 + (1 : Int32)), .int (7 : Int32), .ref 42] m3 Q
        refine y_ine (t := 63) rfl rfl rfl (fun h => ?_) (fun h => ?_)
        · replace H := H.1 h; clear h
          refine y_st rfl rfl rfl rfl rfl (fun _ _ => rfl) ?_
          show yP (xg xs) (d + 1) 200 65 [(3, .int (l3 + (1 : Int32))), (0, .ref 42), (1, .int l1), (2, .int l2), (4, .int l4)] [.int (23 : Int32), .int (7 : Int32), .ref 42] m3 Q
          refine y_headS (l2 := [(0, .ref 42), (1, .int l1), (2, .int l2), (3, .int (l3 + (1 : Int32))), (4, .int l4)]) [1, 2, 3, 0, 4] [0, 1, 2, 3, 4] [3, 0, 1, 2, 4] rfl rfl (by decide) rfl (by decide) ?_
          exact H
        · replace H := H.2 h; clear h
          refine y_st rfl rfl rfl rfl rfl (fun _ _ => rfl) ?_
          refine y_st rfl rfl rfl rfl rfl (fun _ _ => rfl) ?_
          show yP (xg xs) (d + 1) 200 65 [(3, .int (l3 + (1 : Int32))), (0, .ref 42), (1, .int l1), (2, .int l2), (4, .int l4)] [.int (24 : Int32), .int (7 : Int32), .ref 42] m3 Q
          refine y_headS (l2 := [(0, .ref 42), (1, .int l1), (2, .int l2), (3, .int (l3 + (1 : Int32))), (4, .int l4)]) [1, 2, 3, 0, 4] [0, 1, 2, 3, 4] [3, 0, 1, 2, 4] rfl rfl (by decide) rfl (by decide) ?_
          exact H
set_option maxRecDepth 20000 in
/-- CodeMaker.Writer.call from 65 on -/
theorem w200_65 (xs : List Int32) (d : Nat) (l1 : Int32) (l2 : Int32) (l3 : Int32) (l4 : Int32) (s1 : Int32) (s2 : Int32) (m : yM) (Q : Option Value → yM → Prop) (H : (yC (xg xs) d 193 [.ref 42, .int s1, .int s2] m (fun v1 m1 => v1 = none ∧ yP (xg xs) (d + 1) 200 68 [(0, .ref 42), (1, .int l1), (2, .int l2), (3, .int l3), (4, .int l4)] [] m1 Q))) : yP (xg xs) (d + 1) 200 65 [(0, .ref 42), (1, .int l1), (2, .int l2), (3, .int l3), (4, .int l4)] [.int s2, .int s1, .ref 42] m Q := by
  show yP (xg xs) (d + 1) 200 65 [(0, .ref 42), (1, .int l1), (2, .int l2), (3, .int l3), (4, .int l4)] [.int s2, .int s1, .ref 42] m Q
  refine y_call rfl rfl rfl rfl rfl (Nat.le_of_ble_eq_true rfl) (Nat.le_of_ble_eq_true rfl) rfl (by decide) H (fun v1 m1 H => ?_)
  obtain ⟨rfl, H⟩ := H
  show yP (xg xs) (d + 1) 200 68 [(0, .ref 42), (1, .int l1), (2, .int l2), (3, .int l3), (4, .int l4)] [] m1 Q
  exact H
set_option maxRecDepth 20000 in
/-- CodeMaker.Writer.call from 68 on -/
theorem w200_68 (xs : List Int32) (d : Nat) (l1 : Int32) (l2 : Int32) (l3 : Int32) (l4 : Int32) (m : yM) (Q : Option Value → yM → Prop) (H : (x_in l4 16401 = true ∧ yP (xg xs) (d + 1) 200 17 [(0, .ref 42), (1, .int l1), (2, .int l2), (3, .int l3), (4, .int (m.1 7 l4.toNatClampNeg))] [] m Q)) : yP (xg xs) (d + 1) 200 68 [(0, .ref 42), (1, .int l1), (2, .int l2), (3, .int l3), (4, .int l4)] [] m Q := by
  refine y_st rfl rfl rfl rfl rfl (fun _ _ => rfl) ?_
  refine y_gf rfl rfl rfl rfl rfl ?_
  refine y_gf rfl rfl rfl rfl rfl ?_
  refine y_st rfl rfl rfl rfl rfl (fun _ _ => rfl) ?_
  show yP (xg xs) (d + 1) 200 77 [(0, .ref 42), (1, .int l1), (2, .int l2), (3, .int l3), (4, .int l4)] [.int l4, .ref 7] m Q
  refine y_iald rfl rfl rfl (H.1) ?_
  replace H := H.2
  refine y_st rfl rfl rfl rfl rfl (fun _ _ => rfl) ?_
  refine y_st rfl rfl rfl rfl rfl (fun _ _ => rfl) ?_
  show yP (xg xs) (d + 1) 200 17 [(4, .int (m.1 7 l4.toNatClampNeg)), (0, .ref 42), (1, .int l1), (2, .int l2), (3, .int l3)] [] m Q
  refine y_headS (l2 := [(0, .ref 42), (1, .int l1), (2, .int l2), (3, .int l3), (4, .int (m.1 7 l4.toNatClampNeg))]) [1, 2, 3, 4, 0] [0, 1, 2, 3, 4] [4, 0, 1, 2, 3] rfl rfl (by decide) rfl (by decide) ?_
  exact H
set_option maxRecDepth 20000 in
/-- CodeMaker.Writer.call from 139 on -/
theorem w200_139 (xs : List Int32) (d : Nat) (l1 : Int32) (l2 : Int32) (s1 : Int32) (m : yM) (Q : Option Value → yM → Prop) (H : (x_in (l1 + (1 : Int32)) 16401 = true ∧ (yC (xg xs) d 174 [.int l2, .int (m.1 6 ((l1 + (1 : Int32)).toNatClampNeg))] m (fun v1 m1 => ∃ u1, v1 = some (Value.int u1) ∧ (yC (xg xs) d 193 [.ref 42, .int s1, .int u1] m1 (fun v2 m2 => v2 = none ∧ Q none m2)))))) : yP (xg xs) (d + 1) 200 139 [(0, .ref 42), (1, .int l1), (2, .int l2)] [.int s1, .ref 42] m Q := by
  refine y_st rfl rfl rfl rfl rfl (fun _ _ => rfl) ?_
  refine y_st rfl rfl rfl rfl rfl (fun _ _ => rfl) ?_
  refine y_gf rfl rfl rfl rfl rfl ?_
  refine y_gf rfl rfl rfl rfl rfl ?_
  refine y_st rfl rfl rfl rfl rfl (fun _ _ => rfl) ?_
  refine y_st rfl rfl rfl rfl rfl (fun _ _ => rfl) ?_
  refine y_st rfl rfl rfl rfl rfl (fun _ _ => rfl) ?_
  show yP (xg xs) (d + 1) 200 150 [(0, .ref 42), (1, .int l1), (2, .int l2)] [.int (l1 + (1 : Int32)), .ref 6, .int l2, .int s1, .ref 42] m Q
  refine y_iald rfl rfl rfl (H.1) ?_
  replace H := H.2
  show yP (xg xs) (d + 1) 200 151 [(0, .ref 42), (1, .int l1), (2, .int l2)] [.int (m.1 6 ((l1 + (1 : Int32)).toNatClampNeg)), .int l2, .int s1, .ref 42] m Q
  refine y_call rfl rfl rfl rfl rfl (Nat.le_of_ble_eq_true rfl) (Nat.le_of_ble_eq_true rfl) rfl (by decide) H (fun v1 m1 H => ?_)
  obtain ⟨u1, rfl, H⟩ := H
  show yP (xg xs) (d + 1) 200 154 [(0, .ref 42), (1, .int l1), (2, .int l2)] [.int u1, .int s1, .ref 42] m1 Q
  refine y_call rfl rfl rfl rfl rfl (Nat.le_of_ble_eq_true rfl) (Nat.le_of_ble_eq_true rfl) rfl (by decide) H (fun v2 m2 H => ?_)
  obtain ⟨rfl, H⟩ := H
  show yP (xg xs) (d + 1) 200 157 [(0, .ref 42), (1, .int l1), (2, .int l2)] [] m2 Q
  exact y_ret rfl rfl rfl rfl H
set_option maxRecDepth 20000 in
/-- CodeMaker.Writer.callOwn from 0 on -/
theorem w201_0 (xs : List Int32) (d : Nat) (l1 : Int32) (m : yM) (Q : Option Value → yM → Prop) (H : (yC (xg xs) d 120 [.ref 18, .int l1] m (fun v1 m1 => ∃ u1, v1 = some (Value.int u1) ∧ yP (xg xs) (d + 1) 201 11 [(0, .ref 42), (1, .int l1), (2, .int (u1 - (1 : Int32)))] [] m1 Q))) : yP (xg xs) (d + 1) 201 0 [(0, .ref 42), (1, .int l1)] [] m Q := by
  refine y_st rfl rfl rfl rfl rfl (fun _ _ => rfl) ?_
  refine y_gf rfl rfl rfl rfl rfl ?_
  refine y_st rfl rfl rfl rfl rfl (fun _ _ => rfl) ?_
  show yP (xg xs) (d + 1) 201 5 [(0, .ref 42), (1, .int l1)] [.int l1, .ref 18] m Q
  refine y_call rfl rfl rfl rfl rfl (Nat.le_of_ble_eq_true rfl) (Nat.le_of_ble_eq_true rfl) rfl (by decide) H (fun v1 m1 H => ?_)
  obtain ⟨u1, rfl, H⟩ := H
  refine y_st rfl rfl rfl rfl rfl (fun _ _ => rfl) ?_
  refine y_st rfl rfl rfl rfl rfl (fun _ _ => rfl) ?_
  refine y_st rfl rfl rfl rfl rfl (fun _ _ => rfl) ?_
  show yP (xg xs) (d + 1) 201 11 [(2, .int (u1 - (1 : Int32))), (0, .ref 42), (1, .int l1)] [] m1 Q
  refine y_headS (l2 := [(0, .ref 42), (1, .int l1), (2, .int (u1 - (1 : Int32)))]) [1, 2, 0] [0, 1, 2] [2, 0, 1] rfl rfl (by decide) rfl (by decide) ?_
  exact H
set_option maxRecDepth 20000 in
/-- CodeMaker.Writer.callOwn from 11 on -/
theorem w201_11 (xs : List Int32) (d : Nat) (l1 : Int32) (l2 : Int32) (m : yM) (Q : Option Value → yM → Prop) (H : (yC (xg xs) d 119 [.ref 18, .int l1] m (fun v1 m1 => ∃ u1, v1 = some (Value.int u1) ∧ ((l2 < u1 → (yC (xg xs) d 194 [.ref 35, .int (16 : Int32), .int l1, .int (0 : Int32), .int (0 : Int32)] m1 (fun v2 m2 => ∃ u2, v2 = some (Value.int u2) ∧ (yC (xg xs) d 194 [.ref 35, .int (5 : Int32), .int l1, .int (0 : Int32), .int (0 : Int32)] m2 (fun v3 m3 => ∃ u3, v3 = some (Value.int u3) ∧ Q none m3))))) ∧ (¬ l2 < u1 → (x_in l2 4097 = true ∧ ((¬ (m1.1 22 l2.toNatClampNeg) = (1 : Int32) → yP (xg xs) (d + 1) 201 57 [(0, .ref 42), (1, .int l1), (2, .int l2)] [] m1 Q) ∧ ((m1.1 22 l2.toNatClampNeg) = (1 : Int32) → (x_in l2 4097 = true ∧ (yC (xg xs) d 194 [.ref 35, .int (6 : Int32), .int l1, .int (m1.1 20 l2.toNatClampNeg), .int (0 : Int32)] m1 (fun v4 m4 => ∃ u4, v4 = some (Value.int u4) ∧ yP (xg xs) (d + 1) 201 57 [(0, .ref 42), (1, .int l1), (2, .int l2)] [] m4 Q))))))))))) : yP (xg xs) (d + 1) 201 11 [(0, .ref 42), (1, .int l1), (2, .int l2)] [] m Q := by
  refine y_st rfl rfl rfl rfl rfl (fun _ _ => rfl) ?_
  refine y_st rfl rfl rfl rfl rfl (fun _ _ => rfl) ?_
  refine y_gf rfl rfl rfl rfl rfl ?_
  refine y_st rfl rfl rfl rfl rfl (fun _ _ => rfl) ?_
  show yP (xg xs) (d + 1) 201 17 [(0, .ref 42), (1, .int l1), (2, .int l2)] [.int l1, .ref 18, .int l2] m Q
  refine y_call rfl rfl rfl rfl rfl (Nat.le_of_ble_eq_true rfl) (Nat.le_of_ble_eq_true rfl) rfl (by decide) H (fun v1 m1 H => ?_)
  obtain ⟨u1, rfl, H⟩ := H
  show yP (xg xs) (d + 1) 201 20 [(0, .ref 42), (1, .int l1), (2, .int l2)] [.int u1, .int l2] m1 Q
  refine y_ilt (t := 63) rfl rfl rfl (fun h => ?_) (fun h => ?_)
  · replace H := H.1 h; clear h
    refine y_st rfl rfl rfl rfl rfl (fun _ _ => rfl) ?_
    refine y_gf rfl rfl rfl rfl rfl ?_
    refine y_st rfl rfl rfl rfl rfl (fun _ _ => rfl) ?_
    refine y_st rfl rfl rfl rfl rfl (fun _ _ => rfl) ?_
    refine y_st rfl rfl rfl rfl rfl (fun _ _ => rfl) ?_
    refine y_st rfl rfl rfl rfl rfl (fun _ _ => rfl) ?_
    show yP (xg xs) (d + 1) 201 72 [(0, .ref 42), (1, .int l1), (2, .int l2)] [.int (0 : Int32), .int (0 : Int32), .int l1, .int (16 : Int32), .ref 35] m1 Q
    refine y_call rfl rfl rfl rfl rfl (Nat.le_of_ble_eq_true rfl) (Nat.le_of_ble_eq_true rfl) rfl (by decide) H (fun v2 m2 H => ?_)
    obtain ⟨u2, rfl, H⟩ := H
    refine y_st rfl rfl rfl rfl rfl (fun _ _ => rfl) ?_
    refine y_st rfl rfl rfl rfl rfl (fun _ _ => rfl) ?_
    refine y_gf rfl rfl rfl rfl rfl ?_
    refine y_st rfl rfl rfl rfl rfl (fun _ _ => rfl) ?_
    refine y_st rfl rfl rfl rfl rfl (fun _ _ => rfl) ?_
    refine y_st rfl rfl rfl rfl rfl (fun _ _ => rfl) ?_
    refine y_st rfl rfl rfl rfl rfl (fun _ _ => rfl) ?_
    show yP (xg xs) (d + 1) 201 84 [(0, .ref 42), (1, .int l1), (2, .int l2)] [.int (0 : Int32), .int (0 : Int32), .int l1, .int (5 : Int32), .ref 35] m2 Q
    refine y_call rfl rfl rfl rfl rfl (Nat.le_of_ble_eq_true rfl) (Nat.le_of_ble_eq_true rfl) rfl (by decide) H (fun v3 m3 H => ?_)
    obtain ⟨u3, rfl, H⟩ := H
    refine y_st rfl rfl rfl rfl rfl (fun _ _ => rfl) ?_
    show yP (xg xs) (d + 1) 201 88 [(0, .ref 42), (1, .int l1), (2, .int l2)] [] m3 Q
    exact y_ret rfl rfl rfl rfl H
  · replace H := H.2 h; clear h
    refine y_st rfl rfl rfl rfl rfl (fun _ _ => rfl) ?_
    refine y_gf rfl rfl rfl rfl rfl ?_
    refine y_gf rfl rfl rfl rfl rfl ?_
    refine y_st rfl rfl rfl rfl rfl (fun _ _ => rfl) ?_
    show yP (xg xs) (d + 1) 201 31 [(0, .ref 42), (1, .int l1), (2, .int l2)] [.int l2, .ref 22] m1 Q
    refine y_iald rfl rfl rfl (H.1) ?_
    replace H := H.2
    refine y_st rfl rfl rfl rfl rfl (fun _ _ => rfl) ?_
    show yP (xg xs) (d + 1) 201 33 [(0, .ref 42), (1, .int l1), (2, .int l2)] [.int (1 : Int32), .int (m1.1 22 l2.toNatClampNeg)] m1 Q
    refine y_ine (t := 57) rfl rfl rfl (fun h => ?_) (fun h => ?_)
    · replace H := H.1 h; clear h
      show yP (xg xs) (d + 1) 201 57 [(0, .ref 42), (1, .int l1), (2, .int l2)] [] m1 Q
      exact H
    · replace H := H.2 h; clear h
      refine y_st rfl rfl rfl rfl rfl (fun _ _ => rfl) ?_
      refine y_gf rfl rfl rfl rfl rfl ?_
      refine y_st rfl rfl rfl rfl rfl (fun _ _ => rfl) ?_
      refine y_st rfl rfl rfl rfl rfl (fun _ _ => rfl) ?_
      refine y_st rfl rfl rfl rfl rfl (fun _ _ => rfl) ?_
      refine y_gf rfl rfl rfl rfl rfl ?_
      refine y_gf rfl rfl rfl rfl rfl ?_
      refine y_st rfl rfl rfl rfl rfl (fun _ _ => rfl) ?_
      show yP (xg xs) (d + 1) 201 51 [(0, .ref 42), (1, .int l1), (2, .int l2)] [.int l2, .ref 20, .int l1, .int (6 : Int32), .ref 35] m1 Q
      refine y_iald rfl rfl rfl (H.1) ?_
      replace H := H.2
      refine y_st rfl rfl rfl rfl rfl (fun _ _ => rfl) ?_
      show yP (xg xs) (d + 1) 201 53 [(0, .ref 42), (1, .int l1), (2, .int l2)] [.int (0 : Int32), .int (m1.1 20 l2.toNatClampNeg), .int l1, .int (6 : Int32), .ref 35] m1 Q
      refine y_call rfl rfl rfl rfl rfl (Nat.le_of_ble_eq_true rfl) (Nat.le_of_ble_eq_true rfl) rfl (by decide) H (fun v4 m4 H => ?_)
      obtain ⟨u4, rfl, H⟩ := H
      refine y_st rfl rfl rfl rfl rfl (fun _ _ => rfl) ?_
      show yP (xg xs) (d + 1) 201 57 [(0, .ref 42), (1, .int l1), (2, .int l2)] [] m4 Q
      exact H
set_option maxRecDepth 20000 in
/-- CodeMaker.Writer.callOwn from 57 on -/
theorem w201_57 (xs : List Int32) (d : Nat) (l1 : Int32) (l2 : Int32) (m : yM) (Q : Option Value → yM → Prop) (H : yP (xg xs) (d + 1) 201 11 [(0, .ref 42), (1, .int l1), (2, .int (l2 + ((-1) : Int32)))] [] m Q) : yP (xg xs) (d + 1) 201 57 [(0, .ref 42), (1, .int l1), (2, .int l2)] [] m Q := by
  refine y_st rfl rfl rfl rfl rfl (fun _ _ => rfl) ?_
  refine y_st rfl rfl rfl rfl rfl (fun _ _ => rfl) ?_
  show yP (xg xs) (d + 1) 201 11 [(2, .int (l2 + ((-1) : Int32))), (0, .ref 42), (1, .int l1)] [] m Q
  refine y_headS (l2 := [(0, .ref 42), (1, .int l1), (2, .int (l2 + ((-1) : Int32)))]) [1, 2, 0] [0, 1, 2] [2, 0, 1] rfl rfl (by decide) rfl (by decide) ?_
  exact H
set_option maxRecDepth 20000 in
/-- CodeMaker.Writer.invocation from 0 on -/
theorem w202_0 (xs : List Int32) (d : Nat) (l1 : Int32) (m : yM) (Q : Option Value → yM → Prop) (H : yP (xg xs) (d + 1) 202 4 [(0, .ref 42), (1, .int l1), (2, .int (l1 + (1 : Int32)))] [] m Q) : yP (xg xs) (d + 1) 202 0 [(0, .ref 42), (1, .int l1)] [] m Q := by
  refine y_st rfl rfl rfl rfl rfl (fun _ _ => rfl) ?_
  refine y_st rfl rfl rfl rfl rfl (fun _ _ => rfl) ?_
  refine y_st rfl rfl rfl rfl rfl (fun _ _ => rfl) ?_
  refine y_st rfl rfl rfl rfl rfl (fun _ _ => rfl) ?_
  show yP (xg xs) (d + 1) 202 4 [(2, .int (l1 + (1 : Int32))), (0, .ref 42), (1, .int l1)] [] m Q
  refine y_headS (l2 := [(0, .ref 42), (1, .int l1), (2, .int (l1 + (1 : Int32)))]) [1, 2, 0] [0, 1, 2] [2, 0, 1] rfl rfl (by decide) rfl (by decide) ?_
  exact H
set_option maxRecDepth 20000 in
/-- CodeMaker.Writer.invocation from 4 on -/
theorem w202_4 (xs : List Int32) (d : Nat) (l1 : Int32) (l2 : Int32) (m : yM) (Q : Option Value → yM → Prop) (H : (x_in l1 16401 = true ∧ (((m.1 7 l1.toNatClampNeg) ≤ l2 → (x_in l1 16401 = true ∧ (x_in (m.1 5 l1.toNatClampNeg) 4097 = true ∧ (x_in l1 16401 = true ∧ (yC (xg xs) d 153 [.ref 18, .int (m.1 5 l1.toNatClampNeg)] m (fun v1 m1 => ∃ u1, v1 = some (Value.int u1) ∧ (((9 : Int32) ≤ u1 → (yC (xg xs) d 194 [.ref 35, .int (15 : Int32), .int (u1 - (9 : Int32)), .int (m.1 20 ((m.1 5 l1.toNatClampNeg).toNatClampNeg)), .int (0 : Int32)] m1 (fun v2 m2 => ∃ u2, v2 = some (Value.int u2) ∧ Q none m2))) ∧ (¬ (9 : Int32) ≤ u1 → (yC (xg xs) d 194 [.ref 35, .int (17 : Int32), .int u1, .int (m.1 20 ((m.1 5 l1.toNatClampNeg).toNatClampNeg)), .int (0 : Int32)] m1 (fun v3 m3 => ∃ u3, v3 = some (Value.int u3) ∧ Q none m3)))))))))) ∧ (¬ (m.1 7 l1.toNatClampNeg) ≤ l2 → (yC (xg xs) d 197 [.ref 42, .int (l2 + (1 : Int32))] m (fun v4 m4 => v4 = none ∧ (x_in l2 16401 = true ∧ (yC (xg xs) d 193 [.ref 42, .int (2 : Int32), .int (m4.1 5 l2.toNatClampNeg)] m4 (fun v5 m5 => v5 = none ∧ (x_in l2 16401 = true ∧ yP (xg xs) (d + 1) 202 4 [(0, .ref 42), (1, .int l1), (2, .int (m5.1 7 l2.toNatClampNeg))] [] m5 Q)))))))))) : yP (xg xs) (d + 1) 202 4 [(0, .ref 42), (1, .int l1), (2, .int l2)] [] m Q := by
  refine y_st rfl rfl rfl rfl rfl (fun _ _ => rfl) ?_
  refine y_st rfl rfl rfl rfl rfl (fun _ _ => rfl) ?_
  refine y_gf rfl rfl rfl rfl rfl ?_
  refine y_gf rfl rfl rfl rfl rfl ?_
  refine y_st rfl rfl rfl rfl rfl (fun _ _ => rfl) ?_
  show yP (xg xs) (d + 1) 202 13 [(0, .ref 42), (1, .int l1), (2, .int l2)] [.int l1, .ref 7, .int l2] m Q
  refine y_iald rfl rfl rfl (H.1) ?_
  replace H := H.2
  show yP (xg xs) (d + 1) 202 14 [(0, .ref 42), (1, .int l1), (2, .int l2)] [.int (m.1 7 l1.toNatClampNeg), .int l2] m Q
  refine y_ige (t := 51) rfl rfl rfl (fun h => ?_) (fun h => ?_)
  · replace H := H.1 h; clear h
    refine y_st rfl rfl rfl rfl rfl (fun _ _ => rfl) ?_
    refine y_gf rfl rfl rfl rfl rfl ?_
    refine y_gf rfl rfl rfl rfl rfl ?_
    refine y_st rfl rfl rfl rfl rfl (fun _ _ => rfl) ?_
    refine y_gf rfl rfl rfl rfl rfl ?_
    refine y_gf rfl rfl rfl rfl rfl ?_
    refine y_st rfl rfl rfl rfl rfl (fun _ _ => rfl) ?_
    show yP (xg xs) (d + 1) 202 66 [(0, .ref 42), (1, .int l1), (2, .int l2)] [.int l1, .ref 5, .ref 20] m Q
    refine y_iald rfl rfl rfl (H.1) ?_
    replace H := H.2
    show yP (xg xs) (d + 1) 202 67 [(0, .ref 42), (1, .int l1), (2, .int l2)] [.int (m.1 5 l1.toNatClampNeg), .ref 20] m Q
    refine y_iald rfl rfl rfl (H.1) ?_
    replace H := H.2
    refine y_st rfl rfl rfl rfl rfl (fun _ _ => rfl) ?_
    refine y_st rfl rfl rfl rfl rfl (fun _ _ => rfl) ?_
    refine y_gf rfl rfl rfl rfl rfl ?_
    refine y_st rfl rfl rfl rfl rfl (fun _ _ => rfl) ?_
    refine y_gf rfl rfl rfl rfl rfl ?_
    refine y_gf rfl rfl rfl rfl rfl ?_
    refine y_st rfl rfl rfl rfl rfl (fun _ _ => rfl) ?_
    show yP (xg xs) (d + 1) 202 81 [(2, .int (m.1 20 ((m.1 5 l1.toNatClampNeg).toNatClampNeg))), (0, .ref 42), (1, .int l1)] [.int l1, .ref 5, .ref 18] m Q
    refine y_iald rfl rfl rfl (H.1) ?_
    replace H := H.2
    show yP (xg xs) (d + 1) 202 82 [(2, .int (m.1 20 ((m.1 5 l1.toNatClampNeg).toNatClampNeg))), (0, .ref 42), (1, .int l1)] [.int (m.1 5 l1.toNatClampNeg), .ref 18] m Q
    refine y_call rfl rfl rfl rfl rfl (Nat.le_of_ble_eq_true rfl) (Nat.le_of_ble_eq_true rfl) rfl (by decide) H (fun v1 m1 H => ?_)
    obtain ⟨u1, rfl, H⟩ := H
    refine y_st rfl rfl rfl rfl rfl (fun _ _ => rfl) ?_
    refine y_st rfl rfl rfl rfl rfl (fun _ _ => rfl) ?_
    refine y_st rfl rfl rfl rfl rfl (fun _ _ => rfl) ?_
    show yP (xg xs) (d + 1) 202 89 [(3, .int u1), (2, .int (m.1 20 ((m.1 5 l1.toNatClampNeg).toNatClampNeg))), (0, .ref 42), (1, .int l1)] [.int (9 : Int32), .int u1] m1 Q
    refine y_ige (t := 108) rfl rfl rfl (fun h => ?_) (fun h => ?_)
    · replace H := H.1 h; clear h
      refine y_st rfl rfl rfl rfl rfl (fun _ _ => rfl) ?_
      refine y_gf rfl rfl rfl rfl rfl ?_
      refine y_st rfl rfl rfl rfl rfl (fun _ _ => rfl) ?_
      refine y_st rfl rfl rfl rfl rfl (fun _ _ => rfl) ?_
      refine y_st rfl rfl rfl rfl rfl (fun _ _ => rfl) ?_
      refine y_st rfl rfl rfl rfl rfl (fun _ _ => rfl) ?_
      refine y_st rfl rfl rfl rfl rfl (fun _ _ => rfl) ?_
      refine y_st rfl rfl rfl rfl rfl (fun _ _ => rfl) ?_
      show yP (xg xs) (d + 1) 202 120 [(3, .int u1), (2, .int (m.1 20 ((m.1 5 l1.toNatClampNeg).toNatClampNeg))), (0, .ref 42), (1, .int l1)] [.int (0 : Int32), .int (m.1 20 ((m.1 5 l1.toNatClampNeg).toNatClampNeg)), .int (u1 - (9 : Int32)), .int (15 : Int32), .ref 35] m1 Q
      refine y_call rfl rfl rfl rfl rfl (Nat.le_of_ble_eq_true rfl) (Nat.le_of_ble_eq_true rfl) rfl (by decide) H (fun v2 m2 H => ?_)
      obtain ⟨u2, rfl, H⟩ := H
      refine y_st rfl rfl rfl rfl rfl (fun _ _ => rfl) ?_
      show yP (xg xs) (d + 1) 202 124 [(3, .int u1), (2, .int (m.1 20 ((m.1 5 l1.toNatClampNeg).toNatClampNeg))), (0, .ref 42), (1, .int l1)] [] m2 Q
      exact y_ret rfl rfl rfl rfl H
    · replace H := H.2 h; clear h
      refine y_st rfl rfl rfl rfl rfl (fun _ _ => rfl) ?_
      refine y_gf rfl rfl rfl rfl rfl ?_
      refine y_st rfl rfl rfl rfl rfl (fun _ _ => rfl) ?_
      refine y_st rfl rfl rfl rfl rfl (fun _ _ => rfl) ?_
      refine y_st rfl rfl rfl rfl rfl (fun _ _ => rfl) ?_
      refine y_st rfl rfl rfl rfl rfl (fun _ _ => rfl) ?_
      show yP (xg xs) (d + 1) 202 101 [(3, .int u1), (2, .int (m.1 20 ((m.1 5 l1.toNatClampNeg).toNatClampNeg))), (0, .ref 42), (1, .int l1)] [.int (0 : Int32), .int (m.1 20 ((m.1 5 l1.toNatClampNeg).toNatClampNeg)), .int u1, .int (17 : Int32), .ref 35] m1 Q
      refine y_call rfl rfl rfl rfl rfl (Nat.le_of_ble_eq_true rfl) (Nat.le_of_ble_eq_true rfl) rfl (by decide) H (fun v3 m3 H => ?_)
      obtain ⟨u3, rfl, H⟩ := H
      refine y_st rfl rfl rfl rfl rfl (fun _ _ => rfl) ?_
      refine y_st rfl rfl rfl rfl rfl (fun _ _ => rfl) ?_
      show yP (xg xs) (d + 1) 202 124 [(3, .int u1), (2, .int (m.1 20 ((m.1 5 l1.toNatClampNeg).toNatClampNeg))), (0, .ref 42), (1, .int l1)] [] m3 Q
      exact y_ret rfl rfl rfl rfl H
  · replace H := H.2 h; clear h
    refine y_st rfl rfl rfl rfl rfl (fun _ _ => rfl) ?_
    refine y_st rfl rfl rfl rfl rfl (fun _ _ => rfl) ?_
    refine y_st rfl rfl rfl rfl rfl (fun _ _ => rfl) ?_
    refine y_st rfl rfl rfl rfl rfl (fun _ _ => rfl) ?_
    show yP (xg xs) (d + 1) 202 21 [(0, .ref 42), (1, .int l1), (2, .int l2)] [.int (l2 + (1 : Int32)), .ref 42] m Q
    refine y_call rfl rfl rfl rfl rfl (Nat.le_of_ble_eq_true rfl) (Nat.le_of_ble_eq_true rfl) rfl (by decide) H (fun v4 m4 H => ?_)
    obtain ⟨rfl, H⟩ := H
    refine y_st rfl rfl rfl rfl rfl (fun _ _ => rfl) ?_
    refine y_st rfl rfl rfl rfl rfl (fun _ _ => rfl) ?_
    refine y_st rfl rfl rfl rfl rfl (fun _ _ => rfl) ?_
    refine y_gf rfl rfl rfl rfl rfl ?_
    refine y_gf rfl rfl rfl rfl rfl ?_
    refine y_st rfl rfl rfl rfl rfl (fun _ _ => rfl) ?_
    show yP (xg xs) (d + 1) 202 34 [(0, .ref 42), (1, .int l1), (2, .int l2)] [.int l2, .ref 5, .int (2 : Int32), .ref 42] m4 Q
    refine y_iald rfl rfl rfl (H.1) ?_
    replace H := H.2
    show yP (xg xs) (d + 1) 202 35 [(0, .ref 42), (1, .int l1), (2, .int l2)] [.int (m4.1 5 l2.toNatClampNeg), .int (2 : Int32), .ref 42] m4 Q
    refine y_call rfl rfl rfl rfl rfl (Nat.le_of_ble_eq_true rfl) (Nat.le_of_ble_eq_true rfl) rfl (by decide) H (fun v5 m5 H => ?_)
    obtain ⟨rfl, H⟩ := H
    refine y_st rfl rfl rfl rfl rfl (fun _ _ => rfl) ?_
    refine y_gf rfl rfl rfl rfl rfl ?_
    refine y_gf rfl rfl rfl rfl rfl ?_
    refine y_st rfl rfl rfl rfl rfl (fun _ _ => rfl) ?_
    show yP (xg xs) (d + 1) 202 46 [(0, .ref 42), (1, .int l1), (2, .int l2)] [.int l2, .ref 7] m5 Q
    refine y_iald rfl rfl rfl (H.1) ?_
    replace H := H.2
    refine y_st rfl rfl rfl rfl rfl (fun _ _ => rfl) ?_
    refine y_st rfl rfl rfl rfl rfl (fun _ _ => rfl) ?_
    show yP (xg xs) (d + 1) 202 4 [(2, .int (m5.1 7 l2.toNatClampNeg)), (0, .ref 42), (1, .int l1)] [] m5 Q
    refine y_headS (l2 := [(0, .ref 42), (1, .int l1), (2, .int (m5.1 7 l2.toNatClampNeg))]) [1, 2, 0] [0, 1, 2] [2, 0, 1] rfl rfl (by decide) rfl (by decide) ?_
    exact H
set_option maxRecDepth 20000 in
/-- CodeMaker.Writer.ifStatement from 0 on -/
theorem w203_0 (xs : List Int32) (d : Nat) (l1 : Int32) (m : yM) (Q : Option Value → yM → Prop) (H : yP (xg xs) (d + 1) 203 9 [(0, .ref 42), (1, .int l1), (2, .int ((-1) : Int32)), (3, .int (0 : Int32)), (4, .int (l1 + (1 : Int32)))] [] m Q) : yP (xg xs) (d + 1) 203 0 [(0, .ref 42), (1, .int l1)] [] m Q := by
  refine y_st rfl rfl rfl rfl rfl (fun _ _ => rfl) ?_
  refine y_st rfl rfl rfl rfl rfl (fun _ _ => rfl) ?_
  refine y_st rfl rfl rfl rfl rfl (fun _ _ => rfl) ?_
  refine y_st rfl rfl rfl rfl rfl (fun _ _ => rfl) ?_
  refine y_st rfl rfl rfl rfl rfl (fun _ _ => rfl) ?_
  refine y_st rfl rfl rfl rfl rfl (fun _ _ => rfl) ?_
  refine y_st rfl rfl rfl rfl rfl (fun _ _ => rfl) ?_
  refine y_st rfl rfl rfl rfl rfl (fun _ _ => rfl) ?_
  show yP (xg xs) (d + 1) 203 9 [(4, .int (l1 + (1 : Int32))), (3, .int (0 : Int32)), (2, .int ((-1) : Int32)), (0, .ref 42), (1, .int l1)] [] m Q
  refine y_headS (l2 := [(0, .ref 42), (1, .int l1), (2, .int ((-1) : Int32)), (3, .int (0 : Int32)), (4, .int (l1 + (1 : Int32)))]) [3, 4, 2, 1, 0] [0, 1, 2, 3, 4] [4, 3, 2, 0, 1] rfl rfl (by decide) rfl (by decide) ?_
  exact H
set_option maxRecDepth 20000 in
/-- CodeMaker.Writer.ifStatement from 9 on -/
theorem w203_9 (xs : List Int32) (d : Nat) (l1 : Int32) (l2 : Int32) (l3 : Int32) (l4 : Int32) (m : yM) (Q : Option Value → yM → Prop) (H : (x_in l1 16401 = true ∧ (((m.1 7 l1.toNatClampNeg) ≤ l4 → (yC (xg xs) d 205 [.ref 42] m (fun v1 m1 => ∃ u1, v1 = some (Value.int u1) ∧ (yC (xg xs) d 206 [.ref 35, .int l2, .int u1] m1 (fun v2 m2 => v2 = none ∧ Q none m2))))) ∧ (¬ (m.1 7 l1.toNatClampNeg) ≤ l4 → (x_in l4 16401 = true ∧ (((m.1 3 l4.toNatClampNeg) = (11 : Int32) → ((l3 = 0 → (yC (xg xs) d 195 [.ref 42, .int l4] m (fun v3 m3 => v3 = none ∧ yP (xg xs) (d + 1) 203 77 [(0, .ref 42), (1, .int l1), (2, .int l2), (4, .int l4)] [] m3 Q))) ∧ (¬ l3 = 0 → (x_in l1 16401 = true ∧ (yC (xg xs) d 204 [.ref 42, .int l4, .int (m.1 7 l1.toNatClampNeg), .int l2] m (fun v4 m4 => ∃ u4, v4 = some (Value.int u4) ∧ yP (xg xs) (d + 1) 203 77 [(0, .ref 42), (1, .int l1), (2, .int u4), (4, .int l4)] [] m4 Q)))))) ∧ (¬ (m.1 3 l4.toNatClampNeg) = (11 : Int32) → (yC (xg xs) d 197 [.ref 42, .int l4] m (fun v5 m5 => v5 = none ∧ yP (xg xs) (d + 1) 203 77 [(0, .ref 42), (1, .int l1), (2, .int l2), (4, .int l4)] [] m5 Q))))))))) : yP (xg xs) (d + 1) 203 9 [(0, .ref 42), (1, .int l1), (2, .int l2), (3, .int l3), (4, .int l4)] [] m Q := by
  refine y_st rfl rfl rfl rfl rfl (fun _ _ => rfl) ?_
  refine y_st rfl rfl rfl rfl rfl (fun _ _ => rfl) ?_
  refine y_gf rfl rfl rfl rfl rfl ?_
  refine y_gf rfl rfl rfl rfl rfl ?_
  refine y_st rfl rfl rfl rfl rfl (fun _ _ => rfl) ?_
  show yP (xg xs) (d + 1) 203 19 [(0, .ref 42), (1, .int l1), (2, .int l2), (3, .int l3), (4, .int l4)] [.int l1, .ref 7, .int l4] m Q
  refine y_iald rfl rfl rfl (H.1) ?_
  replace H := H.2
  show yP (xg xs) (d + 1) 203 20 [(0, .ref 42), (1, .int l1), (2, .int l2), (3, .int l3), (4, .int l4)] [.int (m.1 7 l1.toNatClampNeg), .int l4] m Q
  refine y_ige (t := 113) rfl rfl rfl (fun h => ?_) (fun h => ?_)
  · replace H := H.1 h; clear h
    refine y_st rfl rfl rfl rfl rfl (fun _ _ => rfl) ?_
    refine y_gf rfl rfl rfl rfl rfl ?_
    refine y_st rfl rfl rfl rfl rfl (fun _ _ => rfl) ?_
    refine y_st rfl rfl rfl rfl rfl (fun _ _ => rfl) ?_
    show yP (xg xs) (d + 1) 203 119 [(0, .ref 42), (1, .int l1), (2, .int l2), (3, .int l3), (4, .int l4)] [.ref 42, .int l2, .ref 35] m Q
    refine y_call rfl rfl rfl rfl rfl (Nat.le_of_ble_eq_true rfl) (Nat.le_of_ble_eq_true rfl) rfl (by decide) H (fun v1 m1 H => ?_)
    obtain ⟨u1, rfl, H⟩ := H
    show yP (xg xs) (d + 1) 203 122 [(0, .ref 42), (1, .int l1), (2, .int l2), (3, .int l3), (4, .int l4)] [.int u1, .int l2, .ref 35] m1 Q
    refine y_call rfl rfl rfl rfl rfl (Nat.le_of_ble_eq_true rfl) (Nat.le_of_ble_eq_true rfl) rfl (by decide) H (fun v2 m2 H => ?_)
    obtain ⟨rfl, H⟩ := H
    show yP (xg xs) (d + 1) 203 125 [(0, .ref 42), (1, .int l1), (2, .int l2), (3, .int l3), (4, .int l4)] [] m2 Q
    exact y_ret rfl rfl rfl rfl H
  · replace H := H.2 h; clear h
    refine y_st rfl rfl rfl rfl rfl (fun _ _ => rfl) ?_
    refine y_gf rfl rfl rfl rfl rfl ?_
    refine y_gf rfl rfl rfl rfl rfl ?_
    refine y_st rfl rfl rfl rfl rfl (fun _ _ => rfl) ?_
    show yP (xg xs) (d + 1) 203 32 [(0, .ref 42), (1, .int l1), (2, .int l2), (3, .int l3), (4, .int l4)] [.int l4, .ref 3] m Q
    refine y_iald rfl rfl rfl (H.1) ?_
    replace H := H.2
    refine y_st rfl rfl rfl rfl rfl (fun _ _ => rfl) ?_
    show yP (xg xs) (d + 1) 203 35 [(0, .ref 42), (1, .int l1), (2, .int l2), (3, .int l3), (4, .int l4)] [.int (11 : Int32), .int (m.1 3 l4.toNatClampNeg)] m Q
    refine y_ieq (t := 47) rfl rfl rfl (fun h => ?_) (fun h => ?_)
    · replace H := H.1 h; clear h
      refine y_st rfl rfl rfl rfl rfl (fun _ _ => rfl) ?_
      show yP (xg xs) (d + 1) 203 48 [(0, .ref 42), (1, .int l1), (2, .int l2), (3, .int l3), (4, .int l4)] [.int l3] m Q
      refine y_zeq (t := 71) rfl rfl rfl (fun h => ?_) (fun h => ?_)
      · replace H := H.1 h; clear h
        refine y_st rfl rfl rfl rfl rfl (fun _ _ => rfl) ?_
        refine y_st rfl rfl rfl rfl rfl (fun _ _ => rfl) ?_
        show yP (xg xs) (d + 1) 203 74 [(0, .ref 42), (1, .int l1), (2, .int l2), (3, .int l3), (4, .int l4)] [.int l4, .ref 42] m Q
        refine y_call rfl rfl rfl rfl rfl (Nat.le_of_ble_eq_true rfl) (Nat.le_of_ble_eq_true rfl) rfl (by decide) H (fun v3 m3 H => ?_)
        obtain ⟨rfl, H⟩ := H
        show yP (xg xs) (d + 1) 203 77 [(0, .ref 42), (1, .int l1), (2, .int l2), (3, .int l3), (4, .int l4)] [] m3 Q
        refine y_headS (l2 := [(0, .ref 42), (1, .int l1), (2, .int l2), (4, .int l4)]) [0, 1, 2, 4] [0, 1, 2, 4] [0, 1, 2, 3, 4] rfl rfl (by decide) rfl (by decide) ?_
        exact H
      · replace H := H.2 h; clear h
        refine y_st rfl rfl rfl rfl rfl (fun _ _ => rfl) ?_
        refine y_st rfl rfl rfl rfl rfl (fun _ _ => rfl) ?_
        refine y_st rfl rfl rfl rfl rfl (fun _ _ => rfl) ?_
        refine y_gf rfl rfl rfl rfl rfl ?_
        refine y_gf rfl rfl rfl rfl rfl ?_
        refine y_st rfl rfl rfl rfl rfl (fun _ _ => rfl) ?_
        show yP (xg xs) (d + 1) 203 62 [(0, .ref 42), (1, .int l1), (2, .int l2), (3, .int l3), (4, .int l4)] [.int l1, .ref 7, .int l4, .ref 42] m Q
        refine y_iald rfl rfl rfl (H.1) ?_
        replace H := H.2
        refine y_st rfl rfl rfl rfl rfl (fun _ _ => rfl) ?_
        show yP (xg xs) (d + 1) 203 64 [(0, .ref 42), (1, .int l1), (2, .int l2), (3, .int l3), (4, .int l4)] [.int l2, .int (m.1 7 l1.toNatClampNeg), .int l4, .ref 42] m Q
        refine y_call rfl rfl rfl rfl rfl (Nat.le_of_ble_eq_true rfl) (Nat.le_of_ble_eq_true rfl) rfl (by decide) H (fun v4 m4 H => ?_)
        obtain ⟨u4, rfl, H⟩ := H
        refine y_st rfl rfl rfl rfl rfl (fun _ _ => rfl) ?_
        refine y_st rfl rfl rfl rfl rfl (fun _ _ => rfl) ?_
        show yP (xg xs) (d + 1) 203 77 [(2, .int u4), (0, .ref 42), (1, .int l1), (3, .int l3), (4, .int l4)] [] m4 Q
        refine y_headS (l2 := [(0, .ref 42), (1, .int l1), (2, .int u4), (4, .int l4)]) [1, 2, 0, 4] [0, 1, 2, 4] [2, 0, 1, 3, 4] rfl rfl (by decide) rfl (by decide) ?_
        exact H
    · replace H := H.2 h; clear h
      refine y_st rfl rfl rfl rfl rfl (fun _ _ => rfl) ?_
      refine y_st rfl rfl rfl rfl rfl (fun _ _ => rfl) ?_
      show yP (xg xs) (d + 1) 203 41 [(0, .ref 42), (1, .int l1), (2, .int l2), (3, .int l3), (4, .int l4)] [.int l4, .ref 42] m Q
      refine y_call rfl rfl rfl rfl rfl (Nat.le_of_ble_eq_true rfl) (Nat.le_of_ble_eq_true rfl) rfl (by decide) H (fun v5 m5 H => ?_)
      obtain ⟨rfl, H⟩ := H
      refine y_st rfl rfl rfl rfl rfl (fun _ _ => rfl) ?_
      show yP (xg xs) (d + 1) 203 77 [(0, .ref 42), (1, .int l1), (2, .int l2), (3, .int l3), (4, .int l4)] [] m5 Q
      refine y_headS (l2 := [(0, .ref 42), (1, .int l1), (2, .int l2), (4, .int l4)]) [0, 1, 2, 4] [0, 1, 2, 4] [0, 1, 2, 3, 4] rfl rfl (by decide) rfl (by decide) ?_
      exact H
set_option maxRecDepth 20000 in
/-- CodeMaker.Writer.ifStatement from 77 on -/
theorem w203_77 (xs : List Int32) (d : Nat) (l1 : Int32) (l2 : Int32) (l4 : Int32) (m : yM) (Q : Option Value → yM → Prop) (H : (x_in l4 16401 = true ∧ (((m.1 3 l4.toNatClampNeg) = (11 : Int32) → yP (xg xs) (d + 1) 203 97 [(0, .ref 42), (1, .int l1), (2, .int l2), (4, .int l4)] [.int (0 : Int32)] m Q) ∧ (¬ (m.1 3 l4.toNatClampNeg) = (11 : Int32) → yP (xg xs) (d + 1) 203 97 [(0, .ref 42), (1, .int l1), (2, .int l2), (4, .int l4)] [.int (1 : Int32)] m Q)))) : yP (xg xs) (d + 1) 203 77 [(0, .ref 42), (1, .int l1), (2, .int l2), (4, .int l4)] [] m Q := by
  refine y_st rfl rfl rfl rfl rfl (fun _ _ => rfl) ?_
  refine y_gf rfl rfl rfl rfl rfl ?_
  refine y_gf rfl rfl rfl rfl rfl ?_
  refine y_st rfl rfl rfl rfl rfl (fun _ _ => rfl) ?_
  show yP (xg xs) (d + 1) 203 86 [(0, .ref 42), (1, .int l1), (2, .int l2), (4, .int l4)] [.int l4, .ref 3] m Q
  refine y_iald rfl rfl rfl (H.1) ?_
  replace H := H.2
  refine y_st rfl rfl rfl rfl rfl (fun _ _ => rfl) ?_
  show yP (xg xs) (d + 1) 203 89 [(0, .ref 42), (1, .int l1), (2, .int l2), (4, .int l4)] [.int (11 : Int32), .int (m.1 3 l4.toNatClampNeg)] m Q
  refine y_ieq (t := 96) rfl rfl rfl (fun h => ?_) (fun h => ?_)
  · replace H := H.1 h; clear h
    refine y_st rfl rfl rfl rfl rfl (fun _ _ => rfl) ?_
    show yP (xg xs) (d + 1) 203 97 [(0, .ref 42), (1, .int l1), (2, .int l2), (4, .int l4)] [.int (0 : Int32)] m Q
    exact H
  · replace H := H.2 h; clear h
    refine y_st rfl rfl rfl rfl rfl (fun _ _ => rfl) ?_
    refine y_st rfl rfl rfl rfl rfl (fun _ _ => rfl) ?_
    show yP (xg xs) (d + 1) 203 97 [(0, .ref 42), (1, .int l1), (2, .int l2), (4, .int l4)] [.int (1 : Int32)] m Q
    exact H
set_option maxRecDepth 20000 in
/-- CodeMaker.Writer.ifStatement from 97 on -/
theorem w203_97 (xs : List Int32) (d : Nat) (l1 : Int32) (l2 : Int32) (l4 : Int32) (s0 : Int32) (m : yM) (Q : Option Value → yM → Prop) (H : (x_in l4 16401 = true ∧ yP (xg xs) (d + 1) 203 9 [(0, .ref 42), (1, .int l1), (2, .int l2), (3, .int s0), (4, .int (m.1 7 l4.toNatClampNeg))] [] m Q)) : yP (xg xs) (d + 1) 203 97 [(0, .ref 42), (1, .int l1), (2, .int l2), (4, .int l4)] [.int s0] m Q := by
  refine y_st rfl rfl rfl rfl rfl (fun _ _ => rfl) ?_
  refine y_st rfl rfl rfl rfl rfl (fun _ _ => rfl) ?_
  refine y_gf rfl rfl rfl rfl rfl ?_
  refine y_gf rfl rfl rfl rfl rfl ?_
  refine y_st rfl rfl rfl rfl rfl (fun _ _ => rfl) ?_
  show yP (xg xs) (d + 1) 203 107 [(3, .int s0), (0, .ref 42), (1, .int l1), (2, .int l2), (4, .int l4)] [.int l4, .ref 7] m Q
  refine y_iald rfl rfl rfl (H.1) ?_
  replace H := H.2
  refine y_st rfl rfl rfl rfl rfl (fun _ _ => rfl) ?_
  refine y_st rfl rfl rfl rfl rfl (fun _ _ => rfl) ?_
  show yP (xg xs) (d + 1) 203 9 [(4, .int (m.1 7 l4.toNatClampNeg)), (3, .int s0), (0, .ref 42), (1, .int l1), (2, .int l2)] [] m Q
  refine y_headS (l2 := [(0, .ref 42), (1, .int l1), (2, .int l2), (3, .int s0), (4, .int (m.1 7 l4.toNatClampNeg))]) [2, 3, 4, 1, 0] [0, 1, 2, 3, 4] [4, 3, 0, 1, 2] rfl rfl (by decide) rfl (by decide) ?_
  exact H
set_option maxRecDepth 20000 in
/-- CodeMaker.Writer.guardedBody from 0 on -/
theorem w204_0 (xs : List Int32) (d : Nat) (l1 : Int32) (l2 : Int32) (l3 : Int32) (m : yM) (Q : Option Value → yM → Prop) (H : (yC (xg xs) d 194 [.ref 35, .int (11 : Int32), .int ((-1) : Int32), .int (0 : Int32), .int (0 : Int32)] m (fun v1 m1 => ∃ u1, v1 = some (Value.int u1) ∧ (yC (xg xs) d 195 [.ref 42, .int l1] m1 (fun v2 m2 => v2 = none ∧ (x_in l1 16401 = true ∧ ((l2 ≤ (m2.1 7 l1.toNatClampNeg) → yP (xg xs) (d + 1) 204 48 [(0, .ref 42), (4, .int u1)] [.int l3] m2 Q) ∧ (¬ l2 ≤ (m2.1 7 l1.toNatClampNeg) → (yC (xg xs) d 194 [.ref 35, .int (10 : Int32), .int l3, .int (0 : Int32), .int (0 : Int32)] m2 (fun v3 m3 => ∃ u3, v3 = some (Value.int u3) ∧ yP (xg xs) (d + 1) 204 48 [(0, .ref 42), (4, .int u1)] [.int u3] m3 Q)))))))))) : yP (xg xs) (d + 1) 204 0 [(0, .ref 42), (1, .int l1), (2, .int l2), (3, .int l3)] [] m Q := by
  refine y_st rfl rfl rfl rfl rfl (fun _ _ => rfl) ?_
  refine y_gf rfl rfl rfl rfl rfl ?_
  refine y_st rfl rfl rfl rfl rfl (fun _ _ => rfl) ?_
  refine y_st rfl rfl rfl rfl rfl (fun _ _ => rfl) ?_
  refine y_st rfl rfl rfl rfl rfl (fun _ _ => rfl) ?_
  refine y_st rfl rfl rfl rfl rfl (fun _ _ => rfl) ?_
  show yP (xg xs) (d + 1) 204 9 [(0, .ref 42), (1, .int l1), (2, .int l2), (3, .int l3)] [.int (0 : Int32), .int (0 : Int32), .int ((-1) : Int32), .int (11 : Int32), .ref 35] m Q
  refine y_call rfl rfl rfl rfl rfl (Nat.le_of_ble_eq_true rfl) (Nat.le_of_ble_eq_true rfl) rfl (by decide) H (fun v1 m1 H => ?_)
  obtain ⟨u1, rfl, H⟩ := H
  refine y_st rfl rfl rfl rfl rfl (fun _ _ => rfl) ?_
  refine y_st rfl rfl rfl rfl rfl (fun _ _ => rfl) ?_
  refine y_st rfl rfl rfl rfl rfl (fun _ _ => rfl) ?_
  show yP (xg xs) (d + 1) 204 16 [(4, .int u1), (0, .ref 42), (1, .int l1), (2, .int l2), (3, .int l3)] [.int l1, .ref 42] m1 Q
  refine y_call rfl rfl rfl rfl rfl (Nat.le_of_ble_eq_true rfl) (Nat.le_of_ble_eq_true rfl) rfl (by decide) H (fun v2 m2 H => ?_)
  obtain ⟨rfl, H⟩ := H
  refine y_st rfl rfl rfl rfl rfl (fun _ _ => rfl) ?_
  refine y_gf rfl rfl rfl rfl rfl ?_
  refine y_gf rfl rfl rfl rfl rfl ?_
  refine y_st rfl rfl rfl rfl rfl (fun _ _ => rfl) ?_
  show yP (xg xs) (d + 1) 204 27 [(4, .int u1), (0, .ref 42), (1, .int l1), (2, .int l2), (3, .int l3)] [.int l1, .ref 7] m2 Q
  refine y_iald rfl rfl rfl (H.1) ?_
  replace H := H.2
  refine y_st rfl rfl rfl rfl rfl (fun _ _ => rfl) ?_
  show yP (xg xs) (d + 1) 204 29 [(4, .int u1), (0, .ref 42), (1, .int l1), (2, .int l2), (3, .int l3)] [.int l2, .int (m2.1 7 l1.toNatClampNeg)] m2 Q
  refine y_ige (t := 47) rfl rfl rfl (fun h => ?_) (fun h => ?_)
  · replace H := H.1 h; clear h
    refine y_st rfl rfl rfl rfl rfl (fun _ _ => rfl) ?_
    show yP (xg xs) (d + 1) 204 48 [(4, .int u1), (0, .ref 42), (1, .int l1), (2, .int l2), (3, .int l3)] [.int l3] m2 Q
    refine y_headS (l2 := [(0, .ref 42), (4, .int u1)]) [1, 0] [0, 4] [4, 0, 1, 2, 3] rfl rfl (by decide) rfl (by decide) ?_
    exact H
  · replace H := H.2 h; clear h
    refine y_st rfl rfl rfl rfl rfl (fun _ _ => rfl) ?_
    refine y_gf rfl rfl rfl rfl rfl ?_
    refine y_st rfl rfl rfl rfl rfl (fun _ _ => rfl) ?_
    refine y_st rfl rfl rfl rfl rfl (fun _ _ => rfl) ?_
    refine y_st rfl rfl rfl rfl rfl (fun _ _ => rfl) ?_
    refine y_st rfl rfl rfl rfl rfl (fun _ _ => rfl) ?_
    show yP (xg xs) (d + 1) 204 41 [(4, .int u1), (0, .ref 42), (1, .int l1), (2, .int l2), (3, .int l3)] [.int (0 : Int32), .int (0 : Int32), .int l3, .int (10 : Int32), .ref 35] m2 Q
    refine y_call rfl rfl rfl rfl rfl (Nat.le_of_ble_eq_true rfl) (Nat.le_of_ble_eq_true rfl) rfl (by decide) H (fun v3 m3 H => ?_)
    obtain ⟨u3, rfl, H⟩ := H
    refine y_st rfl rfl rfl rfl rfl (fun _ _ => rfl) ?_
    show yP (xg xs) (d + 1) 204 48 [(4, .int u1), (0, .ref 42), (1, .int l1), (2, .int l2), (3, .int l3)] [.int u3] m3 Q
    refine y_headS (l2 := [(0, .ref 42), (4, .int u1)]) [1, 0] [0, 4] [4, 0, 1, 2, 3] rfl rfl (by decide) rfl (by decide) ?_
    exact H
set_option maxRecDepth 20000 in
/-- CodeMaker.Writer.guardedBody from 48 on -/
theorem w204_48 (xs : List Int32) (d : Nat) (l4 : Int32) (s0 : Int32) (m : yM) (Q : Option Value → yM → Prop) (H : (yC (xg xs) d 205 [.ref 42] m (fun v1 m1 => ∃ u1, v1 = some (Value.int u1) ∧ (yC (xg xs) d 206 [.ref 35, .int l4, .int u1] m1 (fun v2 m2 => v2 = none ∧ Q (some (.int s0)) m2))))) : yP (xg xs) (d + 1) 204 48 [(0, .ref 42), (4, .int l4)] [.int s0] m Q := by
  refine y_st rfl rfl rfl rfl rfl (fun _ _ => rfl) ?_
  refine y_st rfl rfl rfl rfl rfl (fun _ _ => rfl) ?_
  refine y_gf rfl rfl rfl rfl rfl ?_
  refine y_st rfl rfl rfl rfl rfl (fun _ _ => rfl) ?_
  refine y_st rfl rfl rfl rfl rfl (fun _ _ => rfl) ?_
  show yP (xg xs) (d + 1) 204 57 [(5, .int s0), (0, .ref 42), (4, .int l4)] [.ref 42, .int l4, .ref 35] m Q
  refine y_call rfl rfl rfl rfl rfl (Nat.le_of_ble_eq_true rfl) (Nat.le_of_ble_eq_true rfl) rfl (by decide) H (fun v1 m1 H => ?_)
  obtain ⟨u1, rfl, H⟩ := H
  show yP (xg xs) (d + 1) 204 60 [(5, .int s0), (0, .ref 42), (4, .int l4)] [.int u1, .int l4, .ref 35] m1 Q
  refine y_call rfl rfl rfl rfl rfl (Nat.le_of_ble_eq_true rfl) (Nat.le_of_ble_eq_true rfl) rfl (by decide) H (fun v2 m2 H => ?_)
  obtain ⟨rfl, H⟩ := H
  refine y_st rfl rfl rfl rfl rfl (fun _ _ => rfl) ?_
  show yP (xg xs) (d + 1) 204 65 [(5, .int s0), (0, .ref 42), (4, .int l4)] [.int s0] m2 Q
  exact y_iret rfl rfl rfl H
set_option maxRecDepth 20000 in
/-- CodeMaker.Writer.here from 0 on -/
theorem w205_0 (xs : List Int32) (d : Nat) (m : yM) (Q : Option Value → yM → Prop) (H : Q (some (.int ((m.1 35 6) - (m.1 42 7)))) m) : yP (xg xs) (d + 1) 205 0 [(0, .ref 42)] [] m Q := by
  refine y_st rfl rfl rfl rfl rfl (fun _ _ => rfl) ?_
  refine y_gf rfl rfl rfl rfl rfl ?_
  refine y_gf rfl rfl rfl rfl rfl ?_
  refine y_st rfl rfl rfl rfl rfl (fun _ _ => rfl) ?_
  refine y_gf rfl rfl rfl rfl rfl ?_
  refine y_st rfl rfl rfl rfl rfl (fun _ _ => rfl) ?_
  show yP (xg xs) (d + 1) 205 12 [(0, .ref 42)] [.int ((m.1 35 6) - (m.1 42 7))] m Q
  exact y_iret rfl rfl rfl H
set_option maxRecDepth 20000 in
/-- CodeMaker.Code.aimAll from 0 on -/
theorem w206_0 (xs : List Int32) (d : Nat) (l1 : Int32) (l2 : Int32) (m : yM) (Q : Option Value → yM → Prop) (H : yP (xg xs) (d + 1) 206 5 [(0, .ref 35), (2, .int l2), (3, .int l1), (4, .int (0 : Int32))] [] m Q) : yP (xg xs) (d + 1) 206 0 [(0, .ref 35), (1, .int l1), (2, .int l2)] [] m Q := by
  refine y_st rfl rfl rfl rfl rfl (fun _ _ => rfl) ?_
  refine y_st rfl rfl rfl rfl rfl (fun _ _ => rfl) ?_
  refine y_st rfl rfl rfl rfl rfl (fun _ _ => rfl) ?_
  refine y_st rfl rfl rfl rfl rfl (fun _ _ => rfl) ?_
  show yP (xg xs) (d + 1) 206 5 [(4, .int (0 : Int32)), (3, .int l1), (0, .ref 35), (1, .int l1), (2, .int l2)] [] m Q
  refine y_headS (l2 := [(0, .ref 35), (2, .int l2), (3, .int l1), (4, .int (0 : Int32))]) [2, 4, 1, 0] [0, 2, 3, 4] [4, 3, 0, 1, 2] rfl rfl (by decide) rfl (by decide) ?_
  exact H
set_option maxRecDepth 20000 in
/-- CodeMaker.Code.aimAll from 5 on -/
theorem w206_5 (xs : List Int32) (d : Nat) (l2 : Int32) (l3 : Int32) (l4 : Int32) (m : yM) (Q : Option Value → yM → Prop) (H : (((3000 : Int32) ≤ l4 → Q none m) ∧ (¬ (3000 : Int32) ≤ l4 → ((l3 < 0 → Q none m) ∧ (¬ l3 < 0 → (((3000 : Int32) ≤ l3 → Q none m) ∧ (¬ (3000 : Int32) ≤ l3 → (x_in l3 3000 = true ∧ (x_in l3 3000 = true ∧ yP (xg xs) (d + 1) 206 5 [(0, .ref 35), (2, .int l2), (3, .int (m.1 37 l3.toNatClampNeg)), (4, .int (l4 + (1 : Int32)))] [] (y_si m 37 l3.toNatClampNeg l2) Q))))))))) : yP (xg xs) (d + 1) 206 5 [(0, .ref 35), (2, .int l2), (3, .int l3), (4, .int l4)] [] m Q := by
  refine y_st rfl rfl rfl rfl rfl (fun _ _ => rfl) ?_
  refine y_st rfl rfl rfl rfl rfl (fun _ _ => rfl) ?_
  show yP (xg xs) (d + 1) 206 10 [(0, .ref 35), (2, .int l2), (3, .int l3), (4, .int l4)] [.int (3000 : Int32), .int l4] m Q
  refine y_ige (t := 48) rfl rfl rfl (fun h => ?_) (fun h => ?_)
  · replace H := H.1 h; clear h
    show yP (xg xs) (d + 1) 206 48 [(0, .ref 35), (2, .int l2), (3, .int l3), (4, .int l4)] [] m Q
    exact y_ret rfl rfl rfl rfl H
  · replace H := H.2 h; clear h
    refine y_st rfl rfl rfl rfl rfl (fun _ _ => rfl) ?_
    show yP (xg xs) (d + 1) 206 14 [(0, .ref 35), (2, .int l2), (3, .int l3), (4, .int l4)] [.int l3] m Q
    refine y_zlt (t := 48) rfl rfl rfl (fun h => ?_) (fun h => ?_)
    · replace H := H.1 h; clear h
      show yP (xg xs) (d + 1) 206 48 [(0, .ref 35), (2, .int l2), (3, .int l3), (4, .int l4)] [] m Q
      exact y_ret rfl rfl rfl rfl H
    · replace H := H.2 h; clear h
      refine y_st rfl rfl rfl rfl rfl (fun _ _ => rfl) ?_
      refine y_st rfl rfl rfl rfl rfl (fun _ _ => rfl) ?_
      show yP (xg xs) (d + 1) 206 21 [(0, .ref 35), (2, .int l2), (3, .int l3), (4, .int l4)] [.int (3000 : Int32), .int l3] m Q
      refine y_ige (t := 48) rfl rfl rfl (fun h => ?_) (fun h => ?_)
      · replace H := H.1 h; clear h
        show yP (xg xs) (d + 1) 206 48 [(0, .ref 35), (2, .int l2), (3, .int l3), (4, .int l4)] [] m Q
        exact y_ret rfl rfl rfl rfl H
      · replace H := H.2 h; clear h
        refine y_st rfl rfl rfl rfl rfl (fun _ _ => rfl) ?_
        refine y_gf rfl rfl rfl rfl rfl ?_
        refine y_st rfl rfl rfl rfl rfl (fun _ _ => rfl) ?_
        show yP (xg xs) (d + 1) 206 29 [(0, .ref 35), (2, .int l2), (3, .int l3), (4, .int l4)] [.int l3, .ref 37] m Q
        refine y_iald rfl rfl rfl (H.1) ?_
        replace H := H.2
        refine y_st rfl rfl rfl rfl rfl (fun _ _ => rfl) ?_
        refine y_st rfl rfl rfl rfl rfl (fun _ _ => rfl) ?_
        refine y_gf rfl rfl rfl rfl rfl ?_
        refine y_st rfl rfl rfl rfl rfl (fun _ _ => rfl) ?_
        refine y_st rfl rfl rfl rfl rfl (fun _ _ => rfl) ?_
        show yP (xg xs) (d + 1) 206 38 [(5, .int (m.1 37 l3.toNatClampNeg)), (0, .ref 35), (2, .int l2), (3, .int l3), (4, .int l4)] [.int l2, .int l3, .ref 37] m Q
        refine y_iast rfl rfl rfl (H.1) ?_
        replace H := H.2
        refine y_st rfl rfl rfl rfl rfl (fun _ _ => rfl) ?_
        refine y_st rfl rfl rfl rfl rfl (fun _ _ => rfl) ?_
        refine y_st rfl rfl rfl rfl rfl (fun _ _ => rfl) ?_
        refine y_st rfl rfl rfl rfl rfl (fun _ _ => rfl) ?_
        show yP (xg xs) (d + 1) 206 5 [(4, .int (l4 + (1 : Int32))), (3, .int (m.1 37 l3.toNatClampNeg)), (5, .int (m.1 37 l3.toNatClampNeg)), (0, .ref 35), (2, .int l2)] [] (y_si m 37 l3.toNatClampNeg l2) Q
        refine y_headS (l2 := [(0, .ref 35), (2, .int l2), (3, .int (m.1 37 l3.toNatClampNeg)), (4, .int (l4 + (1 : Int32)))]) [3, 4, 1, 0] [0, 2, 3, 4] [4, 3, 5, 0, 2] rfl rfl (by decide) rfl (by decide) ?_
        exact H
set_option maxRecDepth 20000 in
/-- CodeMaker.Writer.caseStatement from 0 on -/
theorem w207_0 (xs : List Int32) (d : Nat) (l1 : Int32) (m : yM) (Q : Option Value → yM → Prop) (H : (x_in l1 16401 = true ∧ (yC (xg xs) d 197 [.ref 42, .int (l1 + (1 : Int32))] m (fun v1 m1 => v1 = none ∧ (yC (xg xs) d 193 [.ref 42, .int (2 : Int32), .int (m.1 6 l1.toNatClampNeg)] m1 (fun v2 m2 => v2 = none ∧ (x_in (l1 + (1 : Int32)) 16401 = true ∧ yP (xg xs) (d + 1) 207 38 [(0, .ref 42), (1, .int l1), (2, .int (m.1 6 l1.toNatClampNeg)), (3, .int ((-1) : Int32)), (4, .int (m2.1 7 ((l1 + (1 : Int32)).toNatClampNeg)))] [] m2 Q))))))) : yP (xg xs) (d + 1) 207 0 [(0, .ref 42), (1, .int l1)] [] m Q := by
  refine y_st rfl rfl rfl rfl rfl (fun _ _ => rfl) ?_
  refine y_gf rfl rfl rfl rfl rfl ?_
  refine y_gf rfl rfl rfl rfl rfl ?_
  refine y_st rfl rfl rfl rfl rfl (fun _ _ => rfl) ?_
  show yP (xg xs) (d + 1) 207 8 [(0, .ref 42), (1, .int l1)] [.int l1, .ref 6] m Q
  refine y_iald rfl rfl rfl (H.1) ?_
  replace H := H.2
  refine y_st rfl rfl rfl rfl rfl (fun _ _ => rfl) ?_
  refine y_st rfl rfl rfl rfl rfl (fun _ _ => rfl) ?_
  refine y_st rfl rfl rfl rfl rfl (fun _ _ => rfl) ?_
  refine y_st rfl rfl rfl rfl rfl (fun _ _ => rfl) ?_
  refine y_st rfl rfl rfl rfl rfl (fun _ _ => rfl) ?_
  refine y_st rfl rfl rfl rfl rfl (fun _ _ => rfl) ?_
  refine y_st rfl rfl rfl rfl rfl (fun _ _ => rfl) ?_
  show yP (xg xs) (d + 1) 207 16 [(3, .int ((-1) : Int32)), (2, .int (m.1 6 l1.toNatClampNeg)), (0, .ref 42), (1, .int l1)] [.int (l1 + (1 : Int32)), .ref 42] m Q
  refine y_call rfl rfl rfl rfl rfl (Nat.le_of_ble_eq_true rfl) (Nat.le_of_ble_eq_true rfl) rfl (by decide) H (fun v1 m1 H => ?_)
  obtain ⟨rfl, H⟩ := H
  refine y_st rfl rfl rfl rfl rfl (fun _ _ => rfl) ?_
  refine y_st rfl rfl rfl rfl rfl (fun _ _ => rfl) ?_
  refine y_st rfl rfl rfl rfl rfl (fun _ _ => rfl) ?_
  show yP (xg xs) (d + 1) 207 22 [(3, .int ((-1) : Int32)), (2, .int (m.1 6 l1.toNatClampNeg)), (0, .ref 42), (1, .int l1)] [.int (m.1 6 l1.toNatClampNeg), .int (2 : Int32), .ref 42] m1 Q
  refine y_call rfl rfl rfl rfl rfl (Nat.le_of_ble_eq_true rfl) (Nat.le_of_ble_eq_true rfl) rfl (by decide) H (fun v2 m2 H => ?_)
  obtain ⟨rfl, H⟩ := H
  refine y_st rfl rfl rfl rfl rfl (fun _ _ => rfl) ?_
  refine y_gf rfl rfl rfl rfl rfl ?_
  refine y_gf rfl rfl rfl rfl rfl ?_
  refine y_st rfl rfl rfl rfl rfl (fun _ _ => rfl) ?_
  refine y_st rfl rfl rfl rfl rfl (fun _ _ => rfl) ?_
  refine y_st rfl rfl rfl rfl rfl (fun _ _ => rfl) ?_
  show yP (xg xs) (d + 1) 207 35 [(3, .int ((-1) : Int32)), (2, .int (m.1 6 l1.toNatClampNeg)), (0, .ref 42), (1, .int l1)] [.int (l1 + (1 : Int32)), .ref 7] m2 Q
  refine y_iald rfl rfl rfl (H.1) ?_
  replace H := H.2
  refine y_st rfl rfl rfl rfl rfl (fun _ _ => rfl) ?_
  show yP (xg xs) (d + 1) 207 38 [(4, .int (m2.1 7 ((l1 + (1 : Int32)).toNatClampNeg))), (3, .int ((-1) : Int32)), (2, .int (m.1 6 l1.toNatClampNeg)), (0, .ref 42), (1, .int l1)] [] m2 Q
  refine y_headS (l2 := [(0, .ref 42), (1, .int l1), (2, .int (m.1 6 l1.toNatClampNeg)), (3, .int ((-1) : Int32)), (4, .int (m2.1 7 ((l1 + (1 : Int32)).toNatClampNeg)))]) [3, 4, 2, 1, 0] [0, 1, 2, 3, 4] [4, 3, 2, 0, 1] rfl rfl (by decide) rfl (by decide) ?_
  exact H
set_option maxRecDepth 20000 in
/-- CodeMaker.Writer.caseStatement from 38 on -/
theorem w207_38 (xs : List Int32) (d : Nat) (l1 : Int32) (l2 : Int32) (l3 : Int32) (l4 : Int32) (m : yM) (Q : Option Value → yM → Prop) (H : (x_in l1 16401 = true ∧ (((m.1 7 l1.toNatClampNeg) ≤ l4 → (yC (xg xs) d 205 [.ref 42] m (fun v1 m1 => ∃ u1, v1 = some (Value.int u1) ∧ (yC (xg xs) d 206 [.ref 35, .int l3, .int u1] m1 (fun v2 m2 => v2 = none ∧ Q none m2))))) ∧ (¬ (m.1 7 l1.toNatClampNeg) ≤ l4 → (x_in l4 16401 = true ∧ ((¬ (m.1 3 l4.toNatClampNeg) = (11 : Int32) → (yC (xg xs) d 208 [.ref 42, .int l4, .int l2] m (fun v3 m3 => ∃ u3, v3 = some (Value.int u3) ∧ (x_in l1 16401 = true ∧ (yC (xg xs) d 204 [.ref 42, .int u3, .int (m3.1 7 l1.toNatClampNeg), .int l3] m3 (fun v4 m4 => ∃ u4, v4 = some (Value.int u4) ∧ yP (xg xs) (d + 1) 207 98 [(0, .ref 42), (1, .int l1), (2, .int l2), (3, .int u4), (4, .int l4)] [] m4 Q)))))) ∧ ((m.1 3 l4.toNatClampNeg) = (11 : Int32) → (yC (xg xs) d 195 [.ref 42, .int l4] m (fun v5 m5 => v5 = none ∧ yP (xg xs) (d + 1) 207 98 [(0, .ref 42), (1, .int l1), (2, .int l2), (3, .int l3), (4, .int l4)] [] m5 Q))))))))) : yP (xg xs) (d + 1) 207 38 [(0, .ref 42), (1, .int l1), (2, .int l2), (3, .int l3), (4, .int l4)] [] m Q := by
  refine y_st rfl rfl rfl rfl rfl (fun _ _ => rfl) ?_
  refine y_st rfl rfl rfl rfl rfl (fun _ _ => rfl) ?_
  refine y_gf rfl rfl rfl rfl rfl ?_
  refine y_gf rfl rfl rfl rfl rfl ?_
  refine y_st rfl rfl rfl rfl rfl (fun _ _ => rfl) ?_
  show yP (xg xs) (d + 1) 207 48 [(0, .ref 42), (1, .int l1), (2, .int l2), (3, .int l3), (4, .int l4)] [.int l1, .ref 7, .int l4] m Q
  refine y_iald rfl rfl rfl (H.1) ?_
  replace H := H.2
  show yP (xg xs) (d + 1) 207 49 [(0, .ref 42), (1, .int l1), (2, .int l2), (3, .int l3), (4, .int l4)] [.int (m.1 7 l1.toNatClampNeg), .int l4] m Q
  refine y_ige (t := 113) rfl rfl rfl (fun h => ?_) (fun h => ?_)
  · replace H := H.1 h; clear h
    refine y_st rfl rfl rfl rfl rfl (fun _ _ => rfl) ?_
    refine y_gf rfl rfl rfl rfl rfl ?_
    refine y_st rfl rfl rfl rfl rfl (fun _ _ => rfl) ?_
    refine y_st rfl rfl rfl rfl rfl (fun _ _ => rfl) ?_
    show yP (xg xs) (d + 1) 207 119 [(0, .ref 42), (1, .int l1), (2, .int l2), (3, .int l3), (4, .int l4)] [.ref 42, .int l3, .ref 35] m Q
    refine y_call rfl rfl rfl rfl rfl (Nat.le_of_ble_eq_true rfl) (Nat.le_of_ble_eq_true rfl) rfl (by decide) H (fun v1 m1 H => ?_)
    obtain ⟨u1, rfl, H⟩ := H
    show yP (xg xs) (d + 1) 207 122 [(0, .ref 42), (1, .int l1), (2, .int l2), (3, .int l3), (4, .int l4)] [.int u1, .int l3, .ref 35] m1 Q
    refine y_call rfl rfl rfl rfl rfl (Nat.le_of_ble_eq_true rfl) (Nat.le_of_ble_eq_true rfl) rfl (by decide) H (fun v2 m2 H => ?_)
    obtain ⟨rfl, H⟩ := H
    show yP (xg xs) (d + 1) 207 125 [(0, .ref 42), (1, .int l1), (2, .int l2), (3, .int l3), (4, .int l4)] [] m2 Q
    exact y_ret rfl rfl rfl rfl H
  · replace H := H.2 h; clear h
    refine y_st rfl rfl rfl rfl rfl (fun _ _ => rfl) ?_
    refine y_gf rfl rfl rfl rfl rfl ?_
    refine y_gf rfl rfl rfl rfl rfl ?_
    refine y_st rfl rfl rfl rfl rfl (fun _ _ => rfl) ?_
    show yP (xg xs) (d + 1) 207 61 [(0, .ref 42), (1, .int l1), (2, .int l2), (3, .int l3), (4, .int l4)] [.int l4, .ref 3] m Q
    refine y_iald rfl rfl rfl (H.1) ?_
    replace H := H.2
    refine y_st rfl rfl rfl rfl rfl (fun _ _ => rfl) ?_
    show yP (xg xs) (d + 1) 207 64 [(0, .ref 42), (1, .int l1), (2, .int l2), (3, .int l3), (4, .int l4)] [.int (11 : Int32), .int (m.1 3 l4.toNatClampNeg)] m Q
    refine y_ine (t := 76) rfl rfl rfl (fun h => ?_) (fun h => ?_)
    · replace H := H.1 h; clear h
      refine y_st rfl rfl rfl rfl rfl (fun _ _ => rfl) ?_
      refine y_st rfl rfl rfl rfl rfl (fun _ _ => rfl) ?_
      refine y_st rfl rfl rfl rfl rfl (fun _ _ => rfl) ?_
      refine y_st rfl rfl rfl rfl rfl (fun _ _ => rfl) ?_
      show yP (xg xs) (d + 1) 207 81 [(0, .ref 42), (1, .int l1), (2, .int l2), (3, .int l3), (4, .int l4)] [.int l2, .int l4, .ref 42, .ref 42] m Q
      refine y_call rfl rfl rfl rfl rfl (Nat.le_of_ble_eq_true rfl) (Nat.le_of_ble_eq_true rfl) rfl (by decide) H (fun v3 m3 H => ?_)
      obtain ⟨u3, rfl, H⟩ := H
      refine y_st rfl rfl rfl rfl rfl (fun _ _ => rfl) ?_
      refine y_gf rfl rfl rfl rfl rfl ?_
      refine y_gf rfl rfl rfl rfl rfl ?_
      refine y_st rfl rfl rfl rfl rfl (fun _ _ => rfl) ?_
      show yP (xg xs) (d + 1) 207 92 [(0, .ref 42), (1, .int l1), (2, .int l2), (3, .int l3), (4, .int l4)] [.int l1, .ref 7, .int u3, .ref 42] m3 Q
      refine y_iald rfl rfl rfl (H.1) ?_
      replace H := H.2
      refine y_st rfl rfl rfl rfl rfl (fun _ _ => rfl) ?_
      show yP (xg xs) (d + 1) 207 94 [(0, .ref 42), (1, .int l1), (2, .int l2), (3, .int l3), (4, .int l4)] [.int l3, .int (m3.1 7 l1.toNatClampNeg), .int u3, .ref 42] m3 Q
      refine y_call rfl rfl rfl rfl rfl (Nat.le_of_ble_eq_true rfl) (Nat.le_of_ble_eq_true rfl) rfl (by decide) H (fun v4 m4 H => ?_)
      obtain ⟨u4, rfl, H⟩ := H
      refine y_st rfl rfl rfl rfl rfl (fun _ _ => rfl) ?_
      show yP (xg xs) (d + 1) 207 98 [(3, .int u4), (0, .ref 42), (1, .int l1), (2, .int l2), (4, .int l4)] [] m4 Q
      refine y_headS (l2 := [(0, .ref 42), (1, .int l1), (2, .int l2), (3, .int u4), (4, .int l4)]) [1, 2, 3, 0, 4] [0, 1, 2, 3, 4] [3, 0, 1, 2, 4] rfl rfl (by decide) rfl (by decide) ?_
      exact H
    · replace H := H.2 h; clear h
      refine y_st rfl rfl rfl rfl rfl (fun _ _ => rfl) ?_
      refine y_st rfl rfl rfl rfl rfl (fun _ _ => rfl) ?_
      show yP (xg xs) (d + 1) 207 70 [(0, .ref 42), (1, .int l1), (2, .int l2), (3, .int l3), (4, .int l4)] [.int l4, .ref 42] m Q
      refine y_call rfl rfl rfl rfl rfl (Nat.le_of_ble_eq_true rfl) (Nat.le_of_ble_eq_true rfl) rfl (by decide) H (fun v5 m5 H => ?_)
      obtain ⟨rfl, H⟩ := H
      refine y_st rfl rfl rfl rfl rfl (fun _ _ => rfl) ?_
      show yP (xg xs) (d + 1) 207 98 [(0, .ref 42), (1, .int l1), (2, .int l2), (3, .int l3), (4, .int l4)] [] m5 Q
      exact H
set_option maxRecDepth 20000 in
/-- CodeMaker.Writer.caseStatement from 98 on -/
theorem w207_98 (xs : List Int32) (d : Nat) (l1 : Int32) (l2 : Int32) (l3 : Int32) (l4 : Int32) (m : yM) (Q : Option Value → yM → Prop) (H : (x_in l4 16401 = true ∧ yP (xg xs) (d + 1) 207 38 [(0, .ref 42), (1, .int l1), (2, .int l2), (3, .int l3), (4, .int (m.1 7 l4.toNatClampNeg))] [] m Q)) : yP (xg xs) (d + 1) 207 98 [(0, .ref 42), (1, .int l1), (2, .int l2), (3, .int l3), (4, .int l4)] [] m Q := by
  refine y_st rfl rfl rfl rfl rfl (fun _ _ => rfl) ?_
  refine y_gf rfl rfl rfl rfl rfl ?_
  refine y_gf rfl rfl rfl rfl rfl ?_
  refine y_st rfl rfl rfl rfl rfl (fun _ _ => rfl) ?_
  show yP (xg xs) (d + 1) 207 107 [(0, .ref 42), (1, .int l1), (2, .int l2), (3, .int l3), (4, .int l4)] [.int l4, .ref 7] m Q
  refine y_iald rfl rfl rfl (H.1) ?_
  replace H := H.2
  refine y_st rfl rfl rfl rfl rfl (fun _ _ => rfl) ?_
  refine y_st rfl rfl rfl rfl rfl (fun _ _ => rfl) ?_
  show yP (xg xs) (d + 1) 207 38 [(4, .int (m.1 7 l4.toNatClampNeg)), (0, .ref 42), (1, .int l1), (2, .int l2), (3, .int l3)] [] m Q
  refine y_headS (l2 := [(0, .ref 42), (1, .int l1), (2, .int l2), (3, .int l3), (4, .int (m.1 7 l4.toNatClampNeg))]) [1, 2, 3, 4, 0] [0, 1, 2, 3, 4] [4, 0, 1, 2, 3] rfl rfl (by decide) rfl (by decide) ?_
  exact H
set_option maxRecDepth 20000 in
/-- CodeMaker.Writer.ranges from 0 on -/
theorem w208_0 (xs : List Int32) (d : Nat) (l1 : Int32) (l2 : Int32) (m : yM) (Q : Option Value → yM → Prop) (H : yP (xg xs) (d + 1) 208 7 [(0, .ref 42), (2, .int l2), (3, .int (l1 + (1 : Int32))), (4, .int (0 : Int32))] [] m Q) : yP (xg xs) (d + 1) 208 0 [(0, .ref 42), (1, .int l1), (2, .int l2)] [] m Q := by
  refine y_st rfl rfl rfl rfl rfl (fun _ _ => rfl) ?_
  refine y_st rfl rfl rfl rfl rfl (fun _ _ => rfl) ?_
  refine y_st rfl rfl rfl rfl rfl (fun _ _ => rfl) ?_
  refine y_st rfl rfl rfl rfl rfl (fun _ _ => rfl) ?_
  refine y_st rfl rfl rfl rfl rfl (fun _ _ => rfl) ?_
  refine y_st rfl rfl rfl rfl rfl (fun _ _ => rfl) ?_
  show yP (xg xs) (d + 1) 208 7 [(4, .int (0 : Int32)), (3, .int (l1 + (1 : Int32))), (0, .ref 42), (1, .int l1), (2, .int l2)] [] m Q
  refine y_headS (l2 := [(0, .ref 42), (2, .int l2), (3, .int (l1 + (1 : Int32))), (4, .int (0 : Int32))]) [2, 4, 1, 0] [0, 2, 3, 4] [4, 3, 0, 1, 2] rfl rfl (by decide) rfl (by decide) ?_
  exact H
set_option maxRecDepth 20000 in
/-- CodeMaker.Writer.ranges from 7 on -/
theorem w208_7 (xs : List Int32) (d : Nat) (l2 : Int32) (l3 : Int32) (l4 : Int32) (m : yM) (Q : Option Value → yM → Prop) (H : (((8192 : Int32) ≤ l4 → Q (some (.int l3)) m) ∧ (¬ (8192 : Int32) ≤ l4 → (x_in l3 16401 = true ∧ ((¬ (m.1 3 l3.toNatClampNeg) = (18 : Int32) → Q (some (.int l3)) m) ∧ ((m.1 3 l3.toNatClampNeg) = (18 : Int32) → (yC (xg xs) d 193 [.ref 42, .int (1 : Int32), .int l2] m (fun v1 m1 => v1 = none ∧ (x_in (l3 + (1 : Int32)) 16401 = true ∧ (yC (xg xs) d 193 [.ref 42, .int (0 : Int32), .int (m1.1 5 ((l3 + (1 : Int32)).toNatClampNeg))] m1 (fun v2 m2 => v2 = none ∧ (x_in l3 16401 = true ∧ ((¬ (m2.1 7 l3.toNatClampNeg) = (l3 + (2 : Int32)) → (yC (xg xs) d 193 [.ref 42, .int (7 : Int32), .int (18 : Int32)] m2 (fun v3 m3 => v3 = none ∧ (yC (xg xs) d 193 [.ref 42, .int (1 : Int32), .int l2] m3 (fun v4 m4 => v4 = none ∧ (x_in (l3 + (2 : Int32)) 16401 = true ∧ (yC (xg xs) d 193 [.ref 42, .int (0 : Int32), .int (m4.1 5 ((l3 + (2 : Int32)).toNatClampNeg))] m4 (fun v5 m5 => v5 = none ∧ (yC (xg xs) d 193 [.ref 42, .int (7 : Int32), .int (17 : Int32)] m5 (fun v6 m6 => v6 = none ∧ (yC (xg xs) d 193 [.ref 42, .int (7 : Int32), .int (10 : Int32)] m6 (fun v7 m7 => v7 = none ∧ yP (xg xs) (d + 1) 208 123 [(0, .ref 42), (2, .int l2), (3, .int l3), (4, .int l4)] [] m7 Q)))))))))))) ∧ ((m2.1 7 l3.toNatClampNeg) = (l3 + (2 : Int32)) → (yC (xg xs) d 193 [.ref 42, .int (7 : Int32), .int (13 : Int32)] m2 (fun v8 m8 => v8 = none ∧ yP (xg xs) (d + 1) 208 123 [(0, .ref 42), (2, .int l2), (3, .int l3), (4, .int l4)] [] m8 Q)))))))))))))))) : yP (xg xs) (d + 1) 208 7 [(0, .ref 42), (2, .int l2), (3, .int l3), (4, .int l4)] [] m Q := by
  refine y_st rfl rfl rfl rfl rfl (fun _ _ => rfl) ?_
  refine y_st rfl rfl rfl rfl rfl (fun _ _ => rfl) ?_
  show yP (xg xs) (d + 1) 208 12 [(0, .ref 42), (2, .int l2), (3, .int l3), (4, .int l4)] [.int (8192 : Int32), .int l4] m Q
  refine y_ige (t := 152) rfl rfl rfl (fun h => ?_) (fun h => ?_)
  · replace H := H.1 h; clear h
    refine y_st rfl rfl rfl rfl rfl (fun _ _ => rfl) ?_
    show yP (xg xs) (d + 1) 208 153 [(0, .ref 42), (2, .int l2), (3, .int l3), (4, .int l4)] [.int l3] m Q
    exact y_iret rfl rfl rfl H
  · replace H := H.2 h; clear h
    refine y_st rfl rfl rfl rfl rfl (fun _ _ => rfl) ?_
    refine y_gf rfl rfl rfl rfl rfl ?_
    refine y_gf rfl rfl rfl rfl rfl ?_
    refine y_st rfl rfl rfl rfl rfl (fun _ _ => rfl) ?_
    show yP (xg xs) (d + 1) 208 23 [(0, .ref 42), (2, .int l2), (3, .int l3), (4, .int l4)] [.int l3, .ref 3] m Q
    refine y_iald rfl rfl rfl (H.1) ?_
    replace H := H.2
    refine y_st rfl rfl rfl rfl rfl (fun _ _ => rfl) ?_
    show yP (xg xs) (d + 1) 208 26 [(0, .ref 42), (2, .int l2), (3, .int l3), (4, .int l4)] [.int (18 : Int32), .int (m.1 3 l3.toNatClampNeg)] m Q
    refine y_ine (t := 152) rfl rfl rfl (fun h => ?_) (fun h => ?_)
    · replace H := H.1 h; clear h
      refine y_st rfl rfl rfl rfl rfl (fun _ _ => rfl) ?_
      show yP (xg xs) (d + 1) 208 153 [(0, .ref 42), (2, .int l2), (3, .int l3), (4, .int l4)] [.int l3] m Q
      exact y_iret rfl rfl rfl H
    · replace H := H.2 h; clear h
      refine y_st rfl rfl rfl rfl rfl (fun _ _ => rfl) ?_
      refine y_st rfl rfl rfl rfl rfl (fun _ _ => rfl) ?_
      refine y_st rfl rfl rfl rfl rfl (fun _ _ => rfl) ?_
      show yP (xg xs) (d + 1) 208 32 [(0, .ref 42), (2, .int l2), (3, .int l3), (4, .int l4)] [.int l2, .int (1 : Int32), .ref 42] m Q
      refine y_call rfl rfl rfl rfl rfl (Nat.le_of_ble_eq_true rfl) (Nat.le_of_ble_eq_true rfl) rfl (by decide) H (fun v1 m1 H => ?_)
      obtain ⟨rfl, H⟩ := H
      refine y_st rfl rfl rfl rfl rfl (fun _ _ => rfl) ?_
      refine y_st rfl rfl rfl rfl rfl (fun _ _ => rfl) ?_
      refine y_st rfl rfl rfl rfl rfl (fun _ _ => rfl) ?_
      refine y_gf rfl rfl rfl rfl rfl ?_
      refine y_gf rfl rfl rfl rfl rfl ?_
      refine y_st rfl rfl rfl rfl rfl (fun _ _ => rfl) ?_
      refine y_st rfl rfl rfl rfl rfl (fun _ _ => rfl) ?_
      refine y_st rfl rfl rfl rfl rfl (fun _ _ => rfl) ?_
      show yP (xg xs) (d + 1) 208 47 [(0, .ref 42), (2, .int l2), (3, .int l3), (4, .int l4)] [.int (l3 + (1 : Int32)), .ref 5, .int (0 : Int32), .ref 42] m1 Q
      refine y_iald rfl rfl rfl (H.1) ?_
      replace H := H.2
      show yP (xg xs) (d + 1) 208 48 [(0, .ref 42), (2, .int l2), (3, .int l3), (4, .int l4)] [.int (m1.1 5 ((l3 + (1 : Int32)).toNatClampNeg)), .int (0 : Int32), .ref 42] m1 Q
      refine y_call rfl rfl rfl rfl rfl (Nat.le_of_ble_eq_true rfl) (Nat.le_of_ble_eq_true rfl) rfl (by decide) H (fun v2 m2 H => ?_)
      obtain ⟨rfl, H⟩ := H
      refine y_st rfl rfl rfl rfl rfl (fun _ _ => rfl) ?_
      refine y_gf rfl rfl rfl rfl rfl ?_
      refine y_gf rfl rfl rfl rfl rfl ?_
      refine y_st rfl rfl rfl rfl rfl (fun _ _ => rfl) ?_
      show yP (xg xs) (d + 1) 208 59 [(0, .ref 42), (2, .int l2), (3, .int l3), (4, .int l4)] [.int l3, .ref 7] m2 Q
      refine y_iald rfl rfl rfl (H.1) ?_
      replace H := H.2
      refine y_st rfl rfl rfl rfl rfl (fun _ _ => rfl) ?_
      refine y_st rfl rfl rfl rfl rfl (fun _ _ => rfl) ?_
      refine y_st rfl rfl rfl rfl rfl (fun _ _ => rfl) ?_
      show yP (xg xs) (d + 1) 208 63 [(0, .ref 42), (2, .int l2), (3, .int l3), (4, .int l4)] [.int (l3 + (2 : Int32)), .int (m2.1 7 l3.toNatClampNeg)] m2 Q
      refine y_ine (t := 77) rfl rfl rfl (fun h => ?_) (fun h => ?_)
      · replace H := H.1 h; clear h
        refine y_st rfl rfl rfl rfl rfl (fun _ _ => rfl) ?_
        refine y_st rfl rfl rfl rfl rfl (fun _ _ => rfl) ?_
        refine y_st rfl rfl rfl rfl rfl (fun _ _ => rfl) ?_
        show yP (xg xs) (d + 1) 208 82 [(0, .ref 42), (2, .int l2), (3, .int l3), (4, .int l4)] [.int (18 : Int32), .int (7 : Int32), .ref 42] m2 Q
        refine y_call rfl rfl rfl rfl rfl (Nat.le_of_ble_eq_true rfl) (Nat.le_of_ble_eq_true rfl) rfl (by decide) H (fun v3 m3 H => ?_)
        obtain ⟨rfl, H⟩ := H
        refine y_st rfl rfl rfl rfl rfl (fun _ _ => rfl) ?_
        refine y_st rfl rfl rfl rfl rfl (fun _ _ => rfl) ?_
        refine y_st rfl rfl rfl rfl rfl (fun _ _ => rfl) ?_
        show yP (xg xs) (d + 1) 208 88 [(0, .ref 42), (2, .int l2), (3, .int l3), (4, .int l4)] [.int l2, .int (1 : Int32), .ref 42] m3 Q
        refine y_call rfl rfl rfl rfl rfl (Nat.le_of_ble_eq_true rfl) (Nat.le_of_ble_eq_true rfl) rfl (by decide) H (fun v4 m4 H => ?_)
        obtain ⟨rfl, H⟩ := H
        refine y_st rfl rfl rfl rfl rfl (fun _ _ => rfl) ?_
        refine y_st rfl rfl rfl rfl rfl (fun _ _ => rfl) ?_
        refine y_st rfl rfl rfl rfl rfl (fun _ _ => rfl) ?_
        refine y_gf rfl rfl rfl rfl rfl ?_
        refine y_gf rfl rfl rfl rfl rfl ?_
        refine y_st rfl rfl rfl rfl rfl (fun _ _ => rfl) ?_
        refine y_st rfl rfl rfl rfl rfl (fun _ _ => rfl) ?_
        refine y_st rfl rfl rfl rfl rfl (fun _ _ => rfl) ?_
        show yP (xg xs) (d + 1) 208 103 [(0, .ref 42), (2, .int l2), (3, .int l3), (4, .int l4)] [.int (l3 + (2 : Int32)), .ref 5, .int (0 : Int32), .ref 42] m4 Q
        refine y_iald rfl rfl rfl (H.1) ?_
        replace H := H.2
        show yP (xg xs) (d + 1) 208 104 [(0, .ref 42), (2, .int l2), (3, .int l3), (4, .int l4)] [.int (m4.1 5 ((l3 + (2 : Int32)).toNatClampNeg)), .int (0 : Int32), .ref 42] m4 Q
        refine y_call rfl rfl rfl rfl rfl (Nat.le_of_ble_eq_true rfl) (Nat.le_of_ble_eq_true rfl) rfl (by decide) H (fun v5 m5 H => ?_)
        obtain ⟨rfl, H⟩ := H
        refine y_st rfl rfl rfl rfl rfl (fun _ _ => rfl) ?_
        refine y_st rfl rfl rfl rfl rfl (fun _ _ => rfl) ?_
        refine y_st rfl rfl rfl rfl rfl (fun _ _ => rfl) ?_
        show yP (xg xs) (d + 1) 208 112 [(0, .ref 42), (2, .int l2), (3, .int l3), (4, .int l4)] [.int (17 : Int32), .int (7 : Int32), .ref 42] m5 Q
        refine y_call rfl rfl rfl rfl rfl (Nat.le_of_ble_eq_true rfl) (Nat.le_of_ble_eq_true rfl) rfl (by decide) H (fun v6 m6 H => ?_)
        obtain ⟨rfl, H⟩ := H
        refine y_st rfl rfl rfl rfl rfl (fun _ _ => rfl) ?_
        refine y_st rfl rfl rfl rfl rfl (fun _ _ => rfl) ?_
        refine y_st rfl rfl rfl rfl rfl (fun _ _ => rfl) ?_
        show yP (xg xs) (d + 1) 208 120 [(0, .ref 42), (2, .int l2), (3, .int l3), (4, .int l4)] [.int (10 : Int32), .int (7 : Int32), .ref 42] m6 Q
        refine y_call rfl rfl rfl rfl rfl (Nat.le_of_ble_eq_true rfl) (Nat.le_of_ble_eq_true rfl) rfl (by decide) H (fun v7 m7 H => ?_)
        obtain ⟨rfl, H⟩ := H
        show yP (xg xs) (d + 1) 208 123 [(0, .ref 42), (2, .int l2), (3, .int l3), (4, .int l4)] [] m7 Q
        exact H
      · replace H := H.2 h; clear h
        refine y_st rfl rfl rfl rfl rfl (fun _ _ => rfl) ?_
        refine y_st rfl rfl rfl rfl rfl (fun _ _ => rfl) ?_
        refine y_st rfl rfl rfl rfl rfl (fun _ _ => rfl) ?_
        show yP (xg xs) (d + 1) 208 71 [(0, .ref 42), (2, .int l2), (3, .int l3), (4, .int l4)] [.int (13 : Int32), .int (7 : Int32), .ref 42] m2 Q
        refine y_call rfl rfl rfl rfl rfl (Nat.le_of_ble_eq_true rfl) (Nat.le_of_ble_eq_true rfl) rfl (by decide) H (fun v8 m8 H => ?_)
        obtain ⟨rfl, H⟩ := H
        refine y_st rfl rfl rfl rfl rfl (fun _ _ => rfl) ?_
        show yP (xg xs) (d + 1) 208 123 [(0, .ref 42), (2, .int l2), (3, .int l3), (4, .int l4)] [] m8 Q
        exact H
set_option maxRecDepth 20000 in
/-- CodeMaker.Writer.ranges from 123 on -/
theorem w208_123 (xs : List Int32) (d : Nat) (l2 : Int32) (l3 : Int32) (l4 : Int32) (m : yM) (Q : Option Value → yM → Prop) (H : ((l4 ≤ 0 → yP (xg xs) (d + 1) 208 136 [(0, .ref 42), (2, .int l2), (3, .int l3), (4, .int l4)] [] m Q) ∧ (¬ l4 ≤ 0 → (yC (xg xs) d 193 [.ref 42, .int (7 : Int32), .int (11 : Int32)] m (fun v1 m1 => v1 = none ∧ yP (xg xs) (d + 1) 208 136 [(0, .ref 42), (2, .int l2), (3, .int l3), (4, .int l4)] [] m1 Q))))) : yP (xg xs) (d + 1) 208 123 [(0, .ref 42), (2, .int l2), (3, .int l3), (4, .int l4)] [] m Q := by
  refine y_st rfl rfl rfl rfl rfl (fun _ _ => rfl) ?_
  show yP (xg xs) (d + 1) 208 125 [(0, .ref 42), (2, .int l2), (3, .int l3), (4, .int l4)] [.int l4] m Q
  refine y_zle (t := 136) rfl rfl rfl (fun h => ?_) (fun h => ?_)
  · replace H := H.1 h; clear h
    show yP (xg xs) (d + 1) 208 136 [(0, .ref 42), (2, .int l2), (3, .int l3), (4, .int l4)] [] m Q
    exact H
  · replace H := H.2 h; clear h
    refine y_st rfl rfl rfl rfl rfl (fun _ _ => rfl) ?_
    refine y_st rfl rfl rfl rfl rfl (fun _ _ => rfl) ?_
    refine y_st rfl rfl rfl rfl rfl (fun _ _ => rfl) ?_
    show yP (xg xs) (d + 1) 208 133 [(0, .ref 42), (2, .int l2), (3, .int l3), (4, .int l4)] [.int (11 : Int32), .int (7 : Int32), .ref 42] m Q
    refine y_call rfl rfl rfl rfl rfl (Nat.le_of_ble_eq_true rfl) (Nat.le_of_ble_eq_true rfl) rfl (by decide) H (fun v1 m1 H => ?_)
    obtain ⟨rfl, H⟩ := H
    show yP (xg xs) (d + 1) 208 136 [(0, .ref 42), (2, .int l2), (3, .int l3), (4, .int l4)] [] m1 Q
    exact H
set_option maxRecDepth 20000 in
/-- CodeMaker.Writer.ranges from 136 on -/
theorem w208_136 (xs : List Int32) (d : Nat) (l2 : Int32) (l3 : Int32) (l4 : Int32) (m : yM) (Q : Option Value → yM → Prop) (H : (x_in l3 16401 = true ∧ yP (xg xs) (d + 1) 208 7 [(0, .ref 42), (2, .int l2), (3, .int (m.1 7 l3.toNatClampNeg)), (4, .int (l4 + (1 : Int32)))] [] m Q)) : yP (xg xs) (d + 1) 208 136 [(0, .ref 42), (2, .int l2), (3, .int l3), (4, .int l4)] [] m Q := by
  refine y_st rfl rfl rfl rfl rfl (fun _ _ => rfl) ?_
  refine y_gf rfl rfl rfl rfl rfl ?_
  refine y_gf rfl rfl rfl rfl rfl ?_
  refine y_st rfl rfl rfl rfl rfl (fun _ _ => rfl) ?_
  show yP (xg xs) (d + 1) 208 144 [(0, .ref 42), (2, .int l2), (3, .int l3), (4, .int l4)] [.int l3, .ref 7] m Q
  refine y_iald rfl rfl rfl (H.1) ?_
  replace H := H.2
  refine y_st rfl rfl rfl rfl rfl (fun _ _ => rfl) ?_
  refine y_st rfl rfl rfl rfl rfl (fun _ _ => rfl) ?_
  refine y_st rfl rfl rfl rfl rfl (fun _ _ => rfl) ?_
  show yP (xg xs) (d + 1) 208 7 [(4, .int (l4 + (1 : Int32))), (3, .int (m.1 7 l3.toNatClampNeg)), (0, .ref 42), (2, .int l2)] [] m Q
  refine y_headS (l2 := [(0, .ref 42), (2, .int l2), (3, .int (m.1 7 l3.toNatClampNeg)), (4, .int (l4 + (1 : Int32)))]) [2, 3, 1, 0] [0, 2, 3, 4] [4, 3, 0, 2] rfl rfl (by decide) rfl (by decide) ?_
  exact H
set_option maxRecDepth 20000 in
/-- CodeMaker.Writer.forStatement from 0 on -/
theorem w209_0 (xs : List Int32) (d : Nat) (l1 : Int32) (m : yM) (Q : Option Value → yM → Prop) (H : (x_in l1 16401 = true ∧ (x_in l1 16401 = true ∧ (x_in (m.1 5 l1.toNatClampNeg) 4097 = true ∧ (x_in (l1 + (1 : Int32)) 16401 = true ∧ (yC (xg xs) d 193 [.ref 42, .int (0 : Int32), .int (m.1 5 ((l1 + (1 : Int32)).toNatClampNeg))] (y_si m 42 9 ((-1) : Int32)) (fun v1 m1 => v1 = none ∧ (yC (xg xs) d 193 [.ref 42, .int (2 : Int32), .int (m.1 20 ((m.1 5 l1.toNatClampNeg).toNatClampNeg))] m1 (fun v2 m2 => v2 = none ∧ (yC (xg xs) d 160 [.ref 2, .int l1] m2 (fun v3 m3 => ∃ u3, v3 = some (Value.long u3) ∧ (yC (xg xs) d 194 [.ref 35, .int (12 : Int32), .int (m.1 6 l1.toNatClampNeg), .int u3.toInt32, .int (0 : Int32)] m3 (fun v4 m4 => ∃ u4, v4 = some (Value.int u4) ∧ (yC (xg xs) d 205 [.ref 42] m4 (fun v5 m5 => ∃ u5, v5 = some (Value.int u5) ∧ (yC (xg xs) d 194 [.ref 35, .int (13 : Int32), .int (m.1 6 l1.toNatClampNeg), .int (0 : Int32), .int (0 : Int32)] m5 (fun v6 m6 => ∃ u6, v6 = some (Value.int u6) ∧ (x_in (l1 + (3 : Int32)) 16401 = true ∧ ((¬ (m6.1 3 ((l1 + (3 : Int32)).toNatClampNeg)) = (11 : Int32) → yP (xg xs) (d + 1) 209 128 [(0, .ref 42), (1, .int l1), (3, .int (m.1 20 ((m.1 5 l1.toNatClampNeg).toNatClampNeg))), (4, .int (m.1 42 9)), (5, .int u5), (6, .int u6)] [.int (l1 + (4 : Int32)), .ref 42] m6 Q) ∧ ((m6.1 3 ((l1 + (3 : Int32)).toNatClampNeg)) = (11 : Int32) → yP (xg xs) (d + 1) 209 128 [(0, .ref 42), (1, .int l1), (3, .int (m.1 20 ((m.1 5 l1.toNatClampNeg).toNatClampNeg))), (4, .int (m.1 42 9)), (5, .int u5), (6, .int u6)] [.int (l1 + (3 : Int32)), .ref 42] m6 Q)))))))))))))))))))) : yP (xg xs) (d + 1) 209 0 [(0, .ref 42), (1, .int l1)] [] m Q := by
  refine y_st rfl rfl rfl rfl rfl (fun _ _ => rfl) ?_
  refine y_gf rfl rfl rfl rfl rfl ?_
  refine y_gf rfl rfl rfl rfl rfl ?_
  refine y_st rfl rfl rfl rfl rfl (fun _ _ => rfl) ?_
  show yP (xg xs) (d + 1) 209 8 [(0, .ref 42), (1, .int l1)] [.int l1, .ref 6] m Q
  refine y_iald rfl rfl rfl (H.1) ?_
  replace H := H.2
  refine y_st rfl rfl rfl rfl rfl (fun _ _ => rfl) ?_
  refine y_st rfl rfl rfl rfl rfl (fun _ _ => rfl) ?_
  refine y_gf rfl rfl rfl rfl rfl ?_
  refine y_gf rfl rfl rfl rfl rfl ?_
  refine y_st rfl rfl rfl rfl rfl (fun _ _ => rfl) ?_
  refine y_gf rfl rfl rfl rfl rfl ?_
  refine y_gf rfl rfl rfl rfl rfl ?_
  refine y_st rfl rfl rfl rfl rfl (fun _ _ => rfl) ?_
  show yP (xg xs) (d + 1) 209 25 [(2, .int (m.1 6 l1.toNatClampNeg)), (0, .ref 42), (1, .int l1)] [.int l1, .ref 5, .ref 20] m Q
  refine y_iald rfl rfl rfl (H.1) ?_
  replace H := H.2
  show yP (xg xs) (d + 1) 209 26 [(2, .int (m.1 6 l1.toNatClampNeg)), (0, .ref 42), (1, .int l1)] [.int (m.1 5 l1.toNatClampNeg), .ref 20] m Q
  refine y_iald rfl rfl rfl (H.1) ?_
  replace H := H.2
  refine y_st rfl rfl rfl rfl rfl (fun _ _ => rfl) ?_
  refine y_st rfl rfl rfl rfl rfl (fun _ _ => rfl) ?_
  refine y_gf rfl rfl rfl rfl rfl ?_
  refine y_st rfl rfl rfl rfl rfl (fun _ _ => rfl) ?_
  refine y_st rfl rfl rfl rfl rfl (fun _ _ => rfl) ?_
  refine y_st rfl rfl rfl rfl rfl (fun _ _ => rfl) ?_
  refine y_pfi rfl rfl rfl rfl rfl (x_fit_i _) ?_
  show yP (xg xs) (d + 1) 209 39 [(4, .int (m.1 42 9)), (3, .int (m.1 20 ((m.1 5 l1.toNatClampNeg).toNatClampNeg))), (2, .int (m.1 6 l1.toNatClampNeg)), (0, .ref 42), (1, .int l1)] [] (y_si m 42 9 ((-1) : Int32)) Q
  refine y_st rfl rfl rfl rfl rfl (fun _ _ => rfl) ?_
  refine y_st rfl rfl rfl rfl rfl (fun _ _ => rfl) ?_
  refine y_st rfl rfl rfl rfl rfl (fun _ _ => rfl) ?_
  refine y_gf rfl rfl rfl rfl rfl ?_
  refine y_gf rfl rfl rfl rfl rfl ?_
  refine y_st rfl rfl rfl rfl rfl (fun _ _ => rfl) ?_
  refine y_st rfl rfl rfl rfl rfl (fun _ _ => rfl) ?_
  refine y_st rfl rfl rfl rfl rfl (fun _ _ => rfl) ?_
  show yP (xg xs) (d + 1) 209 51 [(4, .int (m.1 42 9)), (3, .int (m.1 20 ((m.1 5 l1.toNatClampNeg).toNatClampNeg))), (2, .int (m.1 6 l1.toNatClampNeg)), (0, .ref 42), (1, .int l1)] [.int (l1 + (1 : Int32)), .ref 5, .int (0 : Int32), .ref 42] (y_si m 42 9 ((-1) : Int32)) Q
  refine y_iald rfl rfl rfl (H.1) ?_
  replace H := H.2
  show yP (xg xs) (d + 1) 209 52 [(4, .int (m.1 42 9)), (3, .int (m.1 20 ((m.1 5 l1.toNatClampNeg).toNatClampNeg))), (2, .int (m.1 6 l1.toNatClampNeg)), (0, .ref 42), (1, .int l1)] [.int (m.1 5 ((l1 + (1 : Int32)).toNatClampNeg)), .int (0 : Int32), .ref 42] (y_si m 42 9 ((-1) : Int32)) Q
  refine y_call rfl rfl rfl rfl rfl (Nat.le_of_ble_eq_true rfl) (Nat.le_of_ble_eq_true rfl) rfl (by decide) H (fun v1 m1 H => ?_)
  obtain ⟨rfl, H⟩ := H
  refine y_st rfl rfl rfl rfl rfl (fun _ _ => rfl) ?_
  refine y_st rfl rfl rfl rfl rfl (fun _ _ => rfl) ?_
  refine y_st rfl rfl rfl rfl rfl (fun _ _ => rfl) ?_
  show yP (xg xs) (d + 1) 209 58 [(4, .int (m.1 42 9)), (3, .int (m.1 20 ((m.1 5 l1.toNatClampNeg).toNatClampNeg))), (2, .int (m.1 6 l1.toNatClampNeg)), (0, .ref 42), (1, .int l1)] [.int (m.1 20 ((m.1 5 l1.toNatClampNeg).toNatClampNeg)), .int (2 : Int32), .ref 42] m1 Q
  refine y_call rfl rfl rfl rfl rfl (Nat.le_of_ble_eq_true rfl) (Nat.le_of_ble_eq_true rfl) rfl (by decide) H (fun v2 m2 H => ?_)
  obtain ⟨rfl, H⟩ := H
  refine y_st rfl rfl rfl rfl rfl (fun _ _ => rfl) ?_
  refine y_gf rfl rfl rfl rfl rfl ?_
  refine y_st rfl rfl rfl rfl rfl (fun _ _ => rfl) ?_
  refine y_st rfl rfl rfl rfl rfl (fun _ _ => rfl) ?_
  refine y_st rfl rfl rfl rfl rfl (fun _ _ => rfl) ?_
  refine y_gf rfl rfl rfl rfl rfl ?_
  refine y_st rfl rfl rfl rfl rfl (fun _ _ => rfl) ?_
  show yP (xg xs) (d + 1) 209 73 [(4, .int (m.1 42 9)), (3, .int (m.1 20 ((m.1 5 l1.toNatClampNeg).toNatClampNeg))), (2, .int (m.1 6 l1.toNatClampNeg)), (0, .ref 42), (1, .int l1)] [.int l1, .ref 2, .int (m.1 6 l1.toNatClampNeg), .int (12 : Int32), .ref 35] m2 Q
  refine y_call rfl rfl rfl rfl rfl (Nat.le_of_ble_eq_true rfl) (Nat.le_of_ble_eq_true rfl) rfl (by decide) H (fun v3 m3 H => ?_)
  obtain ⟨u3, rfl, H⟩ := H
  refine y_st rfl rfl rfl rfl rfl (fun _ _ => rfl) ?_
  refine y_st rfl rfl rfl rfl rfl (fun _ _ => rfl) ?_
  show yP (xg xs) (d + 1) 209 78 [(4, .int (m.1 42 9)), (3, .int (m.1 20 ((m.1 5 l1.toNatClampNeg).toNatClampNeg))), (2, .int (m.1 6 l1.toNatClampNeg)), (0, .ref 42), (1, .int l1)] [.int (0 : Int32), .int u3.toInt32, .int (m.1 6 l1.toNatClampNeg), .int (12 : Int32), .ref 35] m3 Q
  refine y_call rfl rfl rfl rfl rfl (Nat.le_of_ble_eq_true rfl) (Nat.le_of_ble_eq_true rfl) rfl (by decide) H (fun v4 m4 H => ?_)
  obtain ⟨u4, rfl, H⟩ := H
  refine y_st rfl rfl rfl rfl rfl (fun _ _ => rfl) ?_
  refine y_st rfl rfl rfl rfl rfl (fun _ _ => rfl) ?_
  show yP (xg xs) (d + 1) 209 83 [(4, .int (m.1 42 9)), (3, .int (m.1 20 ((m.1 5 l1.toNatClampNeg).toNatClampNeg))), (2, .int (m.1 6 l1.toNatClampNeg)), (0, .ref 42), (1, .int l1)] [.ref 42] m4 Q
  refine y_call rfl rfl rfl rfl rfl (Nat.le_of_ble_eq_true rfl) (Nat.le_of_ble_eq_true rfl) rfl (by decide) H (fun v5 m5 H => ?_)
  obtain ⟨u5, rfl, H⟩ := H
  refine y_st rfl rfl rfl rfl rfl (fun _ _ => rfl) ?_
  refine y_st rfl rfl rfl rfl rfl (fun _ _ => rfl) ?_
  refine y_gf rfl rfl rfl rfl rfl ?_
  refine y_st rfl rfl rfl rfl rfl (fun _ _ => rfl) ?_
  refine y_st rfl rfl rfl rfl rfl (fun _ _ => rfl) ?_
  refine y_st rfl rfl rfl rfl rfl (fun _ _ => rfl) ?_
  refine y_st rfl rfl rfl rfl rfl (fun _ _ => rfl) ?_
  show yP (xg xs) (d + 1) 209 97 [(5, .int u5), (4, .int (m.1 42 9)), (3, .int (m.1 20 ((m.1 5 l1.toNatClampNeg).toNatClampNeg))), (2, .int (m.1 6 l1.toNatClampNeg)), (0, .ref 42), (1, .int l1)] [.int (0 : Int32), .int (0 : Int32), .int (m.1 6 l1.toNatClampNeg), .int (13 : Int32), .ref 35] m5 Q
  refine y_call rfl rfl rfl rfl rfl (Nat.le_of_ble_eq_true rfl) (Nat.le_of_ble_eq_true rfl) rfl (by decide) H (fun v6 m6 H => ?_)
  obtain ⟨u6, rfl, H⟩ := H
  refine y_st rfl rfl rfl rfl rfl (fun _ _ => rfl) ?_
  refine y_st rfl rfl rfl rfl rfl (fun _ _ => rfl) ?_
  refine y_st rfl rfl rfl rfl rfl (fun _ _ => rfl) ?_
  refine y_gf rfl rfl rfl rfl rfl ?_
  refine y_gf rfl rfl rfl rfl rfl ?_
  refine y_st rfl rfl rfl rfl rfl (fun _ _ => rfl) ?_
  refine y_st rfl rfl rfl rfl rfl (fun _ _ => rfl) ?_
  refine y_st rfl rfl rfl rfl rfl (fun _ _ => rfl) ?_
  show yP (xg xs) (d + 1) 209 113 [(6, .int u6), (5, .int u5), (4, .int (m.1 42 9)), (3, .int (m.1 20 ((m.1 5 l1.toNatClampNeg).toNatClampNeg))), (2, .int (m.1 6 l1.toNatClampNeg)), (0, .ref 42), (1, .int l1)] [.int (l1 + (3 : Int32)), .ref 3, .ref 42] m6 Q
  refine y_iald rfl rfl rfl (H.1) ?_
  replace H := H.2
  refine y_st rfl rfl rfl rfl rfl (fun _ _ => rfl) ?_
  show yP (xg xs) (d + 1) 209 116 [(6, .int u6), (5, .int u5), (4, .int (m.1 42 9)), (3, .int (m.1 20 ((m.1 5 l1.toNatClampNeg).toNatClampNeg))), (2, .int (m.1 6 l1.toNatClampNeg)), (0, .ref 42), (1, .int l1)] [.int (11 : Int32), .int (m6.1 3 ((l1 + (3 : Int32)).toNatClampNeg)), .ref 42] m6 Q
  refine y_ine (t := 125) rfl rfl rfl (fun h => ?_) (fun h => ?_)
  · replace H := H.1 h; clear h
    refine y_st rfl rfl rfl rfl rfl (fun _ _ => rfl) ?_
    refine y_st rfl rfl rfl rfl rfl (fun _ _ => rfl) ?_
    refine y_st rfl rfl rfl rfl rfl (fun _ _ => rfl) ?_
    show yP (xg xs) (d + 1) 209 128 [(6, .int u6), (5, .int u5), (4, .int (m.1 42 9)), (3, .int (m.1 20 ((m.1 5 l1.toNatClampNeg).toNatClampNeg))), (2, .int (m.1 6 l1.toNatClampNeg)), (0, .ref 42), (1, .int l1)] [.int (l1 + (4 : Int32)), .ref 42] m6 Q
    refine y_headS (l2 := [(0, .ref 42), (1, .int l1), (3, .int (m.1 20 ((m.1 5 l1.toNatClampNeg).toNatClampNeg))), (4, .int (m.1 42 9)), (5, .int u5), (6, .int u6)]) [5, 6, 3, 2, 1, 0] [0, 1, 3, 4, 5, 6] [6, 5, 4, 3, 2, 0, 1] rfl rfl (by decide) rfl (by decide) ?_
    exact H
  · replace H := H.2 h; clear h
    refine y_st rfl rfl rfl rfl rfl (fun _ _ => rfl) ?_
    refine y_st rfl rfl rfl rfl rfl (fun _ _ => rfl) ?_
    refine y_st rfl rfl rfl rfl rfl (fun _ _ => rfl) ?_
    refine y_st rfl rfl rfl rfl rfl (fun _ _ => rfl) ?_
    show yP (xg xs) (d + 1) 209 128 [(6, .int u6), (5, .int u5), (4, .int (m.1 42 9)), (3, .int (m.1 20 ((m.1 5 l1.toNatClampNeg).toNatClampNeg))), (2, .int (m.1 6 l1.toNatClampNeg)), (0, .ref 42), (1, .int l1)] [.int (l1 + (3 : Int32)), .ref 42] m6 Q
    refine y_headS (l2 := [(0, .ref 42), (1, .int l1), (3, .int (m.1 20 ((m.1 5 l1.toNatClampNeg).toNatClampNeg))), (4, .int (m.1 42 9)), (5, .int u5), (6, .int u6)]) [5, 6, 3, 2, 1, 0] [0, 1, 3, 4, 5, 6] [6, 5, 4, 3, 2, 0, 1] rfl rfl (by decide) rfl (by decide) ?_
    exact H
set_option maxRecDepth 20000 in
/-- CodeMaker.Writer.forStatement from 128 on -/
theorem w209_128 (xs : List Int32) (d : Nat) (l1 : Int32) (l3 : Int32) (l4 : Int32) (l5 : Int32) (l6 : Int32) (s1 : Int32) (m : yM) (Q : Option Value → yM → Prop) (H : (yC (xg xs) d 195 [.ref 42, .int s1] m (fun v1 m1 => v1 = none ∧ (yC (xg xs) d 193 [.ref 42, .int (1 : Int32), .int l3] m1 (fun v2 m2 => v2 = none ∧ (yC (xg xs) d 159 [.ref 2, .int l1] m2 (fun v3 m3 => ∃ u3, v3 = some (Value.int u3) ∧ (yC (xg xs) d 193 [.ref 42, .int (0 : Int32), .int u3] m3 (fun v4 m4 => v4 = none ∧ (x_in l1 16401 = true ∧ (yC (xg xs) d 136 [.ref 18, .int (m4.1 5 l1.toNatClampNeg)] m4 (fun v5 m5 => ∃ u5, v5 = some (Value.int u5) ∧ ((¬ u5 = (1 : Int32) → yP (xg xs) (d + 1) 209 178 [(0, .ref 42), (3, .int l3), (4, .int l4), (5, .int l5), (6, .int l6)] [.int (5 : Int32), .int (7 : Int32), .ref 42] m5 Q) ∧ (u5 = (1 : Int32) → yP (xg xs) (d + 1) 209 178 [(0, .ref 42), (3, .int l3), (4, .int l4), (5, .int l5), (6, .int l6)] [.int (0 : Int32), .int (7 : Int32), .ref 42] m5 Q)))))))))))))) : yP (xg xs) (d + 1) 209 128 [(0, .ref 42), (1, .int l1), (3, .int l3), (4, .int l4), (5, .int l5), (6, .int l6)] [.int s1, .ref 42] m Q := by
  show yP (xg xs) (d + 1) 209 128 [(0, .ref 42), (1, .int l1), (3, .int l3), (4, .int l4), (5, .int l5), (6, .int l6)] [.int s1, .ref 42] m Q
  refine y_call rfl rfl rfl rfl rfl (Nat.le_of_ble_eq_true rfl) (Nat.le_of_ble_eq_true rfl) rfl (by decide) H (fun v1 m1 H => ?_)
  obtain ⟨rfl, H⟩ := H
  refine y_st rfl rfl rfl rfl rfl (fun _ _ => rfl) ?_
  refine y_st rfl rfl rfl rfl rfl (fun _ _ => rfl) ?_
  refine y_st rfl rfl rfl rfl rfl (fun _ _ => rfl) ?_
  show yP (xg xs) (d + 1) 209 134 [(0, .ref 42), (1, .int l1), (3, .int l3), (4, .int l4), (5, .int l5), (6, .int l6)] [.int l3, .int (1 : Int32), .ref 42] m1 Q
  refine y_call rfl rfl rfl rfl rfl (Nat.le_of_ble_eq_true rfl) (Nat.le_of_ble_eq_true rfl) rfl (by decide) H (fun v2 m2 H => ?_)
  obtain ⟨rfl, H⟩ := H
  refine y_st rfl rfl rfl rfl rfl (fun _ _ => rfl) ?_
  refine y_st rfl rfl rfl rfl rfl (fun _ _ => rfl) ?_
  refine y_st rfl rfl rfl rfl rfl (fun _ _ => rfl) ?_
  refine y_gf rfl rfl rfl rfl rfl ?_
  refine y_st rfl rfl rfl rfl rfl (fun _ _ => rfl) ?_
  show yP (xg xs) (d + 1) 209 144 [(0, .ref 42), (1, .int l1), (3, .int l3), (4, .int l4), (5, .int l5), (6, .int l6)] [.int l1, .ref 2, .int (0 : Int32), .ref 42] m2 Q
  refine y_call rfl rfl rfl rfl rfl (Nat.le_of_ble_eq_true rfl) (Nat.le_of_ble_eq_true rfl) rfl (by decide) H (fun v3 m3 H => ?_)
  obtain ⟨u3, rfl, H⟩ := H
  show yP (xg xs) (d + 1) 209 147 [(0, .ref 42), (1, .int l1), (3, .int l3), (4, .int l4), (5, .int l5), (6, .int l6)] [.int u3, .int (0 : Int32), .ref 42] m3 Q
  refine y_call rfl rfl rfl rfl rfl (Nat.le_of_ble_eq_true rfl) (Nat.le_of_ble_eq_true rfl) rfl (by decide) H (fun v4 m4 H => ?_)
  obtain ⟨rfl, H⟩ := H
  refine y_st rfl rfl rfl rfl rfl (fun _ _ => rfl) ?_
  refine y_st rfl rfl rfl rfl rfl (fun _ _ => rfl) ?_
  refine y_st rfl rfl rfl rfl rfl (fun _ _ => rfl) ?_
  refine y_gf rfl rfl rfl rfl rfl ?_
  refine y_st rfl rfl rfl rfl rfl (fun _ _ => rfl) ?_
  refine y_gf rfl rfl rfl rfl rfl ?_
  refine y_gf rfl rfl rfl rfl rfl ?_
  refine y_st rfl rfl rfl rfl rfl (fun _ _ => rfl) ?_
  show yP (xg xs) (d + 1) 209 165 [(0, .ref 42), (1, .int l1), (3, .int l3), (4, .int l4), (5, .int l5), (6, .int l6)] [.int l1, .ref 5, .ref 18, .int (7 : Int32), .ref 42] m4 Q
  refine y_iald rfl rfl rfl (H.1) ?_
  replace H := H.2
  show yP (xg xs) (d + 1) 209 166 [(0, .ref 42), (1, .int l1), (3, .int l3), (4, .int l4), (5, .int l5), (6, .int l6)] [.int (m4.1 5 l1.toNatClampNeg), .ref 18, .int (7 : Int32), .ref 42] m4 Q
  refine y_call rfl rfl rfl rfl rfl (Nat.le_of_ble_eq_true rfl) (Nat.le_of_ble_eq_true rfl) rfl (by decide) H (fun v5 m5 H => ?_)
  obtain ⟨u5, rfl, H⟩ := H
  refine y_st rfl rfl rfl rfl rfl (fun _ _ => rfl) ?_
  show yP (xg xs) (d + 1) 209 170 [(0, .ref 42), (1, .int l1), (3, .int l3), (4, .int l4), (5, .int l5), (6, .int l6)] [.int (1 : Int32), .int u5, .int (7 : Int32), .ref 42] m5 Q
  refine y_ine (t := 177) rfl rfl rfl (fun h => ?_) (fun h => ?_)
  · replace H := H.1 h; clear h
    refine y_st rfl rfl rfl rfl rfl (fun _ _ => rfl) ?_
    show yP (xg xs) (d + 1) 209 178 [(0, .ref 42), (1, .int l1), (3, .int l3), (4, .int l4), (5, .int l5), (6, .int l6)] [.int (5 : Int32), .int (7 : Int32), .ref 42] m5 Q
    refine y_headS (l2 := [(0, .ref 42), (3, .int l3), (4, .int l4), (5, .int l5), (6, .int l6)]) [0, 2, 3, 4, 5] [0, 3, 4, 5, 6] [0, 1, 3, 4, 5, 6] rfl rfl (by decide) rfl (by decide) ?_
    exact H
  · replace H := H.2 h; clear h
    refine y_st rfl rfl rfl rfl rfl (fun _ _ => rfl) ?_
    refine y_st rfl rfl rfl rfl rfl (fun _ _ => rfl) ?_
    show yP (xg xs) (d + 1) 209 178 [(0, .ref 42), (1, .int l1), (3, .int l3), (4, .int l4), (5, .int l5), (6, .int l6)] [.int (0 : Int32), .int (7 : Int32), .ref 42] m5 Q
    refine y_headS (l2 := [(0, .ref 42), (3, .int l3), (4, .int l4), (5, .int l5), (6, .int l6)]) [0, 2, 3, 4, 5] [0, 3, 4, 5, 6] [0, 1, 3, 4, 5, 6] rfl rfl (by decide) rfl (by decide) ?_
    exact H
set_option maxRecDepth 20000 in
/-- CodeMaker.Writer.forStatement from 178 on -/
theorem w209_178 (xs : List Int32) (d : Nat) (l3 : Int32) (l4 : Int32) (l5 : Int32) (l6 : Int32) (s1 : Int32) (s2 : Int32) (m : yM) (Q : Option Value → yM → Prop) (H : (yC (xg xs) d 193 [.ref 42, .int s1, .int s2] m (fun v1 m1 => v1 = none ∧ (yC (xg xs) d 193 [.ref 42, .int (2 : Int32), .int l3] m1 (fun v2 m2 => v2 = none ∧ (yC (xg xs) d 193 [.ref 42, .int (14 : Int32), .int l5] m2 (fun v3 m3 => v3 = none ∧ (((3000 : Int32) ≤ l6 → yP (xg xs) (d + 1) 209 217 [(0, .ref 42), (4, .int l4)] [] m3 Q) ∧ (¬ (3000 : Int32) ≤ l6 → (yC (xg xs) d 205 [.ref 42] m3 (fun v4 m4 => ∃ u4, v4 = some (Value.int u4) ∧ (x_in l6 3000 = true ∧ yP (xg xs) (d + 1) 209 217 [(0, .ref 42), (4, .int l4)] [] (y_si m4 38 l6.toNatClampNeg u4) Q)))))))))))) : yP (xg xs) (d + 1) 209 178 [(0, .ref 42), (3, .int l3), (4, .int l4), (5, .int l5), (6, .int l6)] [.int s2, .int s1, .ref 42] m Q := by
  show yP (xg xs) (d + 1) 209 178 [(0, .ref 42), (3, .int l3), (4, .int l4), (5, .int l5), (6, .int l6)] [.int s2, .int s1, .ref 42] m Q
  refine y_call rfl rfl rfl rfl rfl (Nat.le_of_ble_eq_true rfl) (Nat.le_of_ble_eq_true rfl) rfl (by decide) H (fun v1 m1 H => ?_)
  obtain ⟨rfl, H⟩ := H
  refine y_st rfl rfl rfl rfl rfl (fun _ _ => rfl) ?_
  refine y_st rfl rfl rfl rfl rfl (fun _ _ => rfl) ?_
  refine y_st rfl rfl rfl rfl rfl (fun _ _ => rfl) ?_
  show yP (xg xs) (d + 1) 209 184 [(0, .ref 42), (3, .int l3), (4, .int l4), (5, .int l5), (6, .int l6)] [.int l3, .int (2 : Int32), .ref 42] m1 Q
  refine y_call rfl rfl rfl rfl rfl (Nat.le_of_ble_eq_true rfl) (Nat.le_of_ble_eq_true rfl) rfl (by decide) H (fun v2 m2 H => ?_)
  obtain ⟨rfl, H⟩ := H
  refine y_st rfl rfl rfl rfl rfl (fun _ _ => rfl) ?_
  refine y_st rfl rfl rfl rfl rfl (fun _ _ => rfl) ?_
  refine y_st rfl rfl rfl rfl rfl (fun _ _ => rfl) ?_
  show yP (xg xs) (d + 1) 209 192 [(0, .ref 42), (3, .int l3), (4, .int l4), (5, .int l5), (6, .int l6)] [.int l5, .int (14 : Int32), .ref 42] m2 Q
  refine y_call rfl rfl rfl rfl rfl (Nat.le_of_ble_eq_true rfl) (Nat.le_of_ble_eq_true rfl) rfl (by decide) H (fun v3 m3 H => ?_)
  obtain ⟨rfl, H⟩ := H
  refine y_st rfl rfl rfl rfl rfl (fun _ _ => rfl) ?_
  refine y_st rfl rfl rfl rfl rfl (fun _ _ => rfl) ?_
  show yP (xg xs) (d + 1) 209 200 [(0, .ref 42), (3, .int l3), (4, .int l4), (5, .int l5), (6, .int l6)] [.int (3000 : Int32), .int l6] m3 Q
  refine y_ige (t := 217) rfl rfl rfl (fun h => ?_) (fun h => ?_)
  · replace H := H.1 h; clear h
    show yP (xg xs) (d + 1) 209 217 [(0, .ref 42), (3, .int l3), (4, .int l4), (5, .int l5), (6, .int l6)] [] m3 Q
    refine y_headS (l2 := [(0, .ref 42), (4, .int l4)]) [0, 2] [0, 4] [0, 3, 4, 5, 6] rfl rfl (by decide) rfl (by decide) ?_
    exact H
  · replace H := H.2 h; clear h
    refine y_st rfl rfl rfl rfl rfl (fun _ _ => rfl) ?_
    refine y_gf rfl rfl rfl rfl rfl ?_
    refine y_gf rfl rfl rfl rfl rfl ?_
    refine y_st rfl rfl rfl rfl rfl (fun _ _ => rfl) ?_
    refine y_st rfl rfl rfl rfl rfl (fun _ _ => rfl) ?_
    show yP (xg xs) (d + 1) 209 213 [(0, .ref 42), (3, .int l3), (4, .int l4), (5, .int l5), (6, .int l6)] [.ref 42, .int l6, .ref 38] m3 Q
    refine y_call rfl rfl rfl rfl rfl (Nat.le_of_ble_eq_true rfl) (Nat.le_of_ble_eq_true rfl) rfl (by decide) H (fun v4 m4 H => ?_)
    obtain ⟨u4, rfl, H⟩ := H
    show yP (xg xs) (d + 1) 209 216 [(0, .ref 42), (3, .int l3), (4, .int l4), (5, .int l5), (6, .int l6)] [.int u4, .int l6, .ref 38] m4 Q
    refine y_iast rfl rfl rfl (H.1) ?_
    replace H := H.2
    show yP (xg xs) (d + 1) 209 217 [(0, .ref 42), (3, .int l3), (4, .int l4), (5, .int l5), (6, .int l6)] [] (y_si m4 38 l6.toNatClampNeg u4) Q
    refine y_headS (l2 := [(0, .ref 42), (4, .int l4)]) [0, 2] [0, 4] [0, 3, 4, 5, 6] rfl rfl (by decide) rfl (by decide) ?_
    exact H
set_option maxRecDepth 20000 in
/-- CodeMaker.Writer.forStatement from 217 on -/
theorem w209_217 (xs : List Int32) (d : Nat) (l4 : Int32) (m : yM) (Q : Option Value → yM → Prop) (H : (yC (xg xs) d 205 [.ref 42] m (fun v1 m1 => ∃ u1, v1 = some (Value.int u1) ∧ (yC (xg xs) d 206 [.ref 35, .int (m.1 42 9), .int u1] m1 (fun v2 m2 => v2 = none ∧ Q none (y_si m2 42 9 l4)))))) : yP (xg xs) (d + 1) 209 217 [(0, .ref 42), (4, .int l4)] [] m Q := by
  refine y_st rfl rfl rfl rfl rfl (fun _ _ => rfl) ?_
  refine y_gf rfl rfl rfl rfl rfl ?_
  refine y_st rfl rfl rfl rfl rfl (fun _ _ => rfl) ?_
  refine y_gf rfl rfl rfl rfl rfl ?_
  refine y_st rfl rfl rfl rfl rfl (fun _ _ => rfl) ?_
  show yP (xg xs) (d + 1) 209 226 [(0, .ref 42), (4, .int l4)] [.ref 42, .int (m.1 42 9), .ref 35] m Q
  refine y_call rfl rfl rfl rfl rfl (Nat.le_of_ble_eq_true rfl) (Nat.le_of_ble_eq_true rfl) rfl (by decide) H (fun v1 m1 H => ?_)
  obtain ⟨u1, rfl, H⟩ := H
  show yP (xg xs) (d + 1) 209 229 [(0, .ref 42), (4, .int l4)] [.int u1, .int (m.1 42 9), .ref 35] m1 Q
  refine y_call rfl rfl rfl rfl rfl (Nat.le_of_ble_eq_true rfl) (Nat.le_of_ble_eq_true rfl) rfl (by decide) H (fun v2 m2 H => ?_)
  obtain ⟨rfl, H⟩ := H
  refine y_st rfl rfl rfl rfl rfl (fun _ _ => rfl) ?_
  refine y_st rfl rfl rfl rfl rfl (fun _ _ => rfl) ?_
  refine y_pfi rfl rfl rfl rfl rfl (x_fit_i _) ?_
  show yP (xg xs) (d + 1) 209 238 [(0, .ref 42), (4, .int l4)] [] (y_si m2 42 9 l4) Q
  show yP (xg xs) (d + 1) 209 238 [(0, .ref 42), (4, .int l4)] [] (y_si m2 42 9 l4) Q
  exact y_ret rfl rfl rfl rfl H
set_option maxRecDepth 20000 in
/-- CodeMaker.Writer.ladder from 0 on -/
theorem w210_0 (xs : List Int32) (d : Nat) (l1 : Int32) (m : yM) (Q : Option Value → yM → Prop) (H : yP (xg xs) (d + 1) 210 4 [(0, .ref 42), (1, .int l1), (2, .int (l1 + (1 : Int32)))] [] m Q) : yP (xg xs) (d + 1) 210 0 [(0, .ref 42), (1, .int l1)] [] m Q := by
  refine y_st rfl rfl rfl rfl rfl (fun _ _ => rfl) ?_
  refine y_st rfl rfl rfl rfl rfl (fun _ _ => rfl) ?_
  refine y_st rfl rfl rfl rfl rfl (fun _ _ => rfl) ?_
  refine y_st rfl rfl rfl rfl rfl (fun _ _ => rfl) ?_
  show yP (xg xs) (d + 1) 210 4 [(2, .int (l1 + (1 : Int32))), (0, .ref 42), (1, .int l1)] [] m Q
  refine y_headS (l2 := [(0, .ref 42), (1, .int l1), (2, .int (l1 + (1 : Int32)))]) [1, 2, 0] [0, 1, 2] [2, 0, 1] rfl rfl (by decide) rfl (by decide) ?_
  exact H
set_option maxRecDepth 20000 in
/-- CodeMaker.Writer.ladder from 4 on -/
theorem w210_4 (xs : List Int32) (d : Nat) (l1 : Int32) (l2 : Int32) (m : yM) (Q : Option Value → yM → Prop) (H : (x_in l1 16401 = true ∧ (((m.1 7 l1.toNatClampNeg) ≤ l2 → Q none m) ∧ (¬ (m.1 7 l1.toNatClampNeg) ≤ l2 → (yC (xg xs) d 211 [.ref 42, .int l2] m (fun v1 m1 => v1 = none ∧ yP (xg xs) (d + 1) 210 24 [(0, .ref 42), (1, .int l1), (2, .int l2), (3, .int (1 : Int32))] [] m1 Q)))))) : yP (xg xs) (d + 1) 210 4 [(0, .ref 42), (1, .int l1), (2, .int l2)] [] m Q := by
  refine y_st rfl rfl rfl rfl rfl (fun _ _ => rfl) ?_
  refine y_st rfl rfl rfl rfl rfl (fun _ _ => rfl) ?_
  refine y_gf rfl rfl rfl rfl rfl ?_
  refine y_gf rfl rfl rfl rfl rfl ?_
  refine y_st rfl rfl rfl rfl rfl (fun _ _ => rfl) ?_
  show yP (xg xs) (d + 1) 210 13 [(0, .ref 42), (1, .int l1), (2, .int l2)] [.int l1, .ref 7, .int l2] m Q
  refine y_iald rfl rfl rfl (H.1) ?_
  replace H := H.2
  show yP (xg xs) (d + 1) 210 14 [(0, .ref 42), (1, .int l1), (2, .int l2)] [.int (m.1 7 l1.toNatClampNeg), .int l2] m Q
  refine y_ige (t := 192) rfl rfl rfl (fun h => ?_) (fun h => ?_)
  · replace H := H.1 h; clear h
    show yP (xg xs) (d + 1) 210 192 [(0, .ref 42), (1, .int l1), (2, .int l2)] [] m Q
    exact y_ret rfl rfl rfl rfl H
  · replace H := H.2 h; clear h
    refine y_st rfl rfl rfl rfl rfl (fun _ _ => rfl) ?_
    refine y_st rfl rfl rfl rfl rfl (fun _ _ => rfl) ?_
    show yP (xg xs) (d + 1) 210 19 [(0, .ref 42), (1, .int l1), (2, .int l2)] [.int l2, .ref 42] m Q
    refine y_call rfl rfl rfl rfl rfl (Nat.le_of_ble_eq_true rfl) (Nat.le_of_ble_eq_true rfl) rfl (by decide) H (fun v1 m1 H => ?_)
    obtain ⟨rfl, H⟩ := H
    refine y_st rfl rfl rfl rfl rfl (fun _ _ => rfl) ?_
    refine y_st rfl rfl rfl rfl rfl (fun _ _ => rfl) ?_
    show yP (xg xs) (d + 1) 210 24 [(3, .int (1 : Int32)), (0, .ref 42), (1, .int l1), (2, .int l2)] [] m1 Q
    refine y_headS (l2 := [(0, .ref 42), (1, .int l1), (2, .int l2), (3, .int (1 : Int32))]) [1, 2, 3, 0] [0, 1, 2, 3] [3, 0, 1, 2] rfl rfl (by decide) rfl (by decide) ?_
    exact H
set_option maxRecDepth 20000 in
/-- CodeMaker.Writer.ladder from 24 on -/
theorem w210_24 (xs : List Int32) (d : Nat) (l1 : Int32) (l2 : Int32) (l3 : Int32) (m : yM) (Q : Option Value → yM → Prop) (H : (((m.1 42 6) < l3 → yP (xg xs) (d + 1) 210 129 [(0, .ref 42), (1, .int l1), (2, .int l2), (3, .int (0 : Int32))] [] m Q) ∧ (¬ (m.1 42 6) < l3 → yP (xg xs) (d + 1) 210 35 [(0, .ref 42), (1, .int l1), (2, .int l2), (3, .int l3), (4, .int (0 : Int32))] [] m Q))) : yP (xg xs) (d + 1) 210 24 [(0, .ref 42), (1, .int l1), (2, .int l2), (3, .int l3)] [] m Q := by
  refine y_st rfl rfl rfl rfl rfl (fun _ _ => rfl) ?_
  refine y_st rfl rfl rfl rfl rfl (fun _ _ => rfl) ?_
  refine y_gf rfl rfl rfl rfl rfl ?_
  show yP (xg xs) (d + 1) 210 29 [(0, .ref 42), (1, .int l1), (2, .int l2), (3, .int l3)] [.int (m.1 42 6), .int l3] m Q
  refine y_igt (t := 127) rfl rfl rfl (fun h => ?_) (fun h => ?_)
  · replace H := H.1 h; clear h
    refine y_st rfl rfl rfl rfl rfl (fun _ _ => rfl) ?_
    refine y_st rfl rfl rfl rfl rfl (fun _ _ => rfl) ?_
    show yP (xg xs) (d + 1) 210 129 [(3, .int (0 : Int32)), (0, .ref 42), (1, .int l1), (2, .int l2)] [] m Q
    refine y_headS (l2 := [(0, .ref 42), (1, .int l1), (2, .int l2), (3, .int (0 : Int32))]) [1, 2, 3, 0] [0, 1, 2, 3] [3, 0, 1, 2] rfl rfl (by decide) rfl (by decide) ?_
    exact H
  · replace H := H.2 h; clear h
    refine y_st rfl rfl rfl rfl rfl (fun _ _ => rfl) ?_
    refine y_st rfl rfl rfl rfl rfl (fun _ _ => rfl) ?_
    show yP (xg xs) (d + 1) 210 35 [(4, .int (0 : Int32)), (0, .ref 42), (1, .int l1), (2, .int l2), (3, .int l3)] [] m Q
    refine y_headS (l2 := [(0, .ref 42), (1, .int l1), (2, .int l2), (3, .int l3), (4, .int (0 : Int32))]) [1, 2, 3, 4, 0] [0, 1, 2, 3, 4] [4, 0, 1, 2, 3] rfl rfl (by decide) rfl (by decide) ?_
    exact H
set_option maxRecDepth 20000 in
/-- CodeMaker.Writer.ladder from 35 on -/
theorem w210_35 (xs : List Int32) (d : Nat) (l1 : Int32) (l2 : Int32) (l3 : Int32) (l4 : Int32) (m : yM) (Q : Option Value → yM → Prop) (H : (((m.1 42 5) ≤ l4 → yP (xg xs) (d + 1) 210 24 [(0, .ref 42), (1, .int l1), (2, .int l2), (3, .int (l3 + (1 : Int32)))] [] m Q) ∧ (¬ (m.1 42 5) ≤ l4 → (yC (xg xs) d 212 [.ref 42, .int l4, .int l3] m (fun v1 m1 => ∃ u1, v1 = some (Value.int u1) ∧ ((u1 = l4 → yP (xg xs) (d + 1) 210 61 [(0, .ref 42), (1, .int l1), (2, .int l2), (3, .int l3), (4, .int l4)] [.int (0 : Int32)] m1 Q) ∧ (¬ u1 = l4 → yP (xg xs) (d + 1) 210 61 [(0, .ref 42), (1, .int l1), (2, .int l2), (3, .int l3), (4, .int l4)] [.int (1 : Int32)] m1 Q))))))) : yP (xg xs) (d + 1) 210 35 [(0, .ref 42), (1, .int l1), (2, .int l2), (3, .int l3), (4, .int l4)] [] m Q := by
  refine y_st rfl rfl rfl rfl rfl (fun _ _ => rfl) ?_
  refine y_st rfl rfl rfl rfl rfl (fun _ _ => rfl) ?_
  refine y_gf rfl rfl rfl rfl rfl ?_
  show yP (xg xs) (d + 1) 210 41 [(0, .ref 42), (1, .int l1), (2, .int l2), (3, .int l3), (4, .int l4)] [.int (m.1 42 5), .int l4] m Q
  refine y_ige (t := 121) rfl rfl rfl (fun h => ?_) (fun h => ?_)
  · replace H := H.1 h; clear h
    refine y_st rfl rfl rfl rfl rfl (fun _ _ => rfl) ?_
    refine y_st rfl rfl rfl rfl rfl (fun _ _ => rfl) ?_
    show yP (xg xs) (d + 1) 210 24 [(3, .int (l3 + (1 : Int32))), (0, .ref 42), (1, .int l1), (2, .int l2), (4, .int l4)] [] m Q
    refine y_headS (l2 := [(0, .ref 42), (1, .int l1), (2, .int l2), (3, .int (l3 + (1 : Int32)))]) [1, 2, 3, 0] [0, 1, 2, 3] [3, 0, 1, 2, 4] rfl rfl (by decide) rfl (by decide) ?_
    exact H
  · replace H := H.2 h; clear h
    refine y_st rfl rfl rfl rfl rfl (fun _ _ => rfl) ?_
    refine y_st rfl rfl rfl rfl rfl (fun _ _ => rfl) ?_
    refine y_st rfl rfl rfl rfl rfl (fun _ _ => rfl) ?_
    show yP (xg xs) (d + 1) 210 48 [(0, .ref 42), (1, .int l1), (2, .int l2), (3, .int l3), (4, .int l4)] [.int l3, .int l4, .ref 42] m Q
    refine y_call rfl rfl rfl rfl rfl (Nat.le_of_ble_eq_true rfl) (Nat.le_of_ble_eq_true rfl) rfl (by decide) H (fun v1 m1 H => ?_)
    obtain ⟨u1, rfl, H⟩ := H
    refine y_st rfl rfl rfl rfl rfl (fun _ _ => rfl) ?_
    show yP (xg xs) (d + 1) 210 53 [(0, .ref 42), (1, .int l1), (2, .int l2), (3, .int l3), (4, .int l4)] [.int l4, .int u1] m1 Q
    refine y_ieq (t := 60) rfl rfl rfl (fun h => ?_) (fun h => ?_)
    · replace H := H.1 h; clear h
      refine y_st rfl rfl rfl rfl rfl (fun _ _ => rfl) ?_
      show yP (xg xs) (d + 1) 210 61 [(0, .ref 42), (1, .int l1), (2, .int l2), (3, .int l3), (4, .int l4)] [.int (0 : Int32)] m1 Q
      exact H
    · replace H := H.2 h; clear h
      refine y_st rfl rfl rfl rfl rfl (fun _ _ => rfl) ?_
      refine y_st rfl rfl rfl rfl rfl (fun _ _ => rfl) ?_
      show yP (xg xs) (d + 1) 210 61 [(0, .ref 42), (1, .int l1), (2, .int l2), (3, .int l3), (4, .int l4)] [.int (1 : Int32)] m1 Q
      exact H
set_option maxRecDepth 20000 in
/-- CodeMaker.Writer.ladder from 61 on -/
theorem w210_61 (xs : List Int32) (d : Nat) (l1 : Int32) (l2 : Int32) (l3 : Int32) (l4 : Int32) (s0 : Int32) (m : yM) (Q : Option Value → yM → Prop) (H : ((¬ l3 = (m.1 42 6) → yP (xg xs) (d + 1) 210 95 [(0, .ref 42), (1, .int l1), (2, .int l2), (3, .int l3), (4, .int l4), (5, .int s0)] [] m Q) ∧ (l3 = (m.1 42 6) → (yC (xg xs) d 213 [.ref 42, .int l4, .int l3] m (fun v1 m1 => ∃ u1, v1 = some (Value.int u1) ∧ (x_in u1 16401 = true ∧ ((¬ (m1.1 3 u1.toNatClampNeg) = (28 : Int32) → yP (xg xs) (d + 1) 210 95 [(0, .ref 42), (1, .int l1), (2, .int l2), (3, .int l3), (4, .int l4), (5, .int s0)] [] m1 Q) ∧ ((m1.1 3 u1.toNatClampNeg) = (28 : Int32) → yP (xg xs) (d + 1) 210 96 [(0, .ref 42), (1, .int l1), (2, .int l2), (3, .int l3), (4, .int l4), (5, .int s0)] [.int (1 : Int32)] m1 Q)))))))) : yP (xg xs) (d + 1) 210 61 [(0, .ref 42), (1, .int l1), (2, .int l2), (3, .int l3), (4, .int l4)] [.int s0] m Q := by
  refine y_st rfl rfl rfl rfl rfl (fun _ _ => rfl) ?_
  refine y_st rfl rfl rfl rfl rfl (fun _ _ => rfl) ?_
  refine y_st rfl rfl rfl rfl rfl (fun _ _ => rfl) ?_
  refine y_gf rfl rfl rfl rfl rfl ?_
  show yP (xg xs) (d + 1) 210 68 [(5, .int s0), (0, .ref 42), (1, .int l1), (2, .int l2), (3, .int l3), (4, .int l4)] [.int (m.1 42 6), .int l3] m Q
  refine y_ine (t := 95) rfl rfl rfl (fun h => ?_) (fun h => ?_)
  · replace H := H.1 h; clear h
    show yP (xg xs) (d + 1) 210 95 [(5, .int s0), (0, .ref 42), (1, .int l1), (2, .int l2), (3, .int l3), (4, .int l4)] [] m Q
    refine y_headS (l2 := [(0, .ref 42), (1, .int l1), (2, .int l2), (3, .int l3), (4, .int l4), (5, .int s0)]) [1, 2, 3, 4, 5, 0] [0, 1, 2, 3, 4, 5] [5, 0, 1, 2, 3, 4] rfl rfl (by decide) rfl (by decide) ?_
    exact H
  · replace H := H.2 h; clear h
    refine y_st rfl rfl rfl rfl rfl (fun _ _ => rfl) ?_
    refine y_gf rfl rfl rfl rfl rfl ?_
    refine y_gf rfl rfl rfl rfl rfl ?_
    refine y_st rfl rfl rfl rfl rfl (fun _ _ => rfl) ?_
    refine y_st rfl rfl rfl rfl rfl (fun _ _ => rfl) ?_
    refine y_st rfl rfl rfl rfl rfl (fun _ _ => rfl) ?_
    show yP (xg xs) (d + 1) 210 82 [(5, .int s0), (0, .ref 42), (1, .int l1), (2, .int l2), (3, .int l3), (4, .int l4)] [.int l3, .int l4, .ref 42, .ref 3] m Q
    refine y_call rfl rfl rfl rfl rfl (Nat.le_of_ble_eq_true rfl) (Nat.le_of_ble_eq_true rfl) rfl (by decide) H (fun v1 m1 H => ?_)
    obtain ⟨u1, rfl, H⟩ := H
    show yP (xg xs) (d + 1) 210 85 [(5, .int s0), (0, .ref 42), (1, .int l1), (2, .int l2), (3, .int l3), (4, .int l4)] [.int u1, .ref 3] m1 Q
    refine y_iald rfl rfl rfl (H.1) ?_
    replace H := H.2
    refine y_st rfl rfl rfl rfl rfl (fun _ _ => rfl) ?_
    show yP (xg xs) (d + 1) 210 88 [(5, .int s0), (0, .ref 42), (1, .int l1), (2, .int l2), (3, .int l3), (4, .int l4)] [.int (28 : Int32), .int (m1.1 3 u1.toNatClampNeg)] m1 Q
    refine y_ine (t := 95) rfl rfl rfl (fun h => ?_) (fun h => ?_)
    · replace H := H.1 h; clear h
      show yP (xg xs) (d + 1) 210 95 [(5, .int s0), (0, .ref 42), (1, .int l1), (2, .int l2), (3, .int l3), (4, .int l4)] [] m1 Q
      refine y_headS (l2 := [(0, .ref 42), (1, .int l1), (2, .int l2), (3, .int l3), (4, .int l4), (5, .int s0)]) [1, 2, 3, 4, 5, 0] [0, 1, 2, 3, 4, 5] [5, 0, 1, 2, 3, 4] rfl rfl (by decide) rfl (by decide) ?_
      exact H
    · replace H := H.2 h; clear h
      refine y_st rfl rfl rfl rfl rfl (fun _ _ => rfl) ?_
      refine y_st rfl rfl rfl rfl rfl (fun _ _ => rfl) ?_
      show yP (xg xs) (d + 1) 210 96 [(5, .int s0), (0, .ref 42), (1, .int l1), (2, .int l2), (3, .int l3), (4, .int l4)] [.int (1 : Int32)] m1 Q
      refine y_headS (l2 := [(0, .ref 42), (1, .int l1), (2, .int l2), (3, .int l3), (4, .int l4), (5, .int s0)]) [1, 2, 3, 4, 5, 0] [0, 1, 2, 3, 4, 5] [5, 0, 1, 2, 3, 4] rfl rfl (by decide) rfl (by decide) ?_
      exact H
set_option maxRecDepth 20000 in
/-- CodeMaker.Writer.ladder from 95 on -/
theorem w210_95 (xs : List Int32) (d : Nat) (l1 : Int32) (l2 : Int32) (l3 : Int32) (l4 : Int32) (l5 : Int32) (m : yM) (Q : Option Value → yM → Prop) (H : yP (xg xs) (d + 1) 210 96 [(0, .ref 42), (1, .int l1), (2, .int l2), (3, .int l3), (4, .int l4), (5, .int l5)] [.int (0 : Int32)] m Q) : yP (xg xs) (d + 1) 210 95 [(0, .ref 42), (1, .int l1), (2, .int l2), (3, .int l3), (4, .int l4), (5, .int l5)] [] m Q := by
  refine y_st rfl rfl rfl rfl rfl (fun _ _ => rfl) ?_
  show yP (xg xs) (d + 1) 210 96 [(0, .ref 42), (1, .int l1), (2, .int l2), (3, .int l3), (4, .int l4), (5, .int l5)] [.int (0 : Int32)] m Q
  exact H
set_option maxRecDepth 20000 in
/-- CodeMaker.Writer.ladder from 96 on -/
theorem w210_96 (xs : List Int32) (d : Nat) (l1 : Int32) (l2 : Int32) (l3 : Int32) (l4 : Int32) (l5 : Int32) (s0 : Int32) (m : yM) (Q : Option Value → yM → Prop) (H : ((¬ l5 = 0 → yP (xg xs) (d + 1) 210 115 [(0, .ref 42), (1, .int l1), (2, .int l2), (3, .int l3), (4, .int l4)] [] m Q) ∧ (l5 = 0 → ((¬ s0 = 0 → yP (xg xs) (d + 1) 210 115 [(0, .ref 42), (1, .int l1), (2, .int l2), (3, .int l3), (4, .int l4)] [] m Q) ∧ (s0 = 0 → (yC (xg xs) d 214 [.ref 42, .int l4, .int l3] m (fun v1 m1 => v1 = none ∧ yP (xg xs) (d + 1) 210 115 [(0, .ref 42), (1, .int l1), (2, .int l2), (3, .int l3), (4, .int l4)] [] m1 Q))))))) : yP (xg xs) (d + 1) 210 96 [(0, .ref 42), (1, .int l1), (2, .int l2), (3, .int l3), (4, .int l4), (5, .int l5)] [.int s0] m Q := by
  refine y_st rfl rfl rfl rfl rfl (fun _ _ => rfl) ?_
  refine y_st rfl rfl rfl rfl rfl (fun _ _ => rfl) ?_
  show yP (xg xs) (d + 1) 210 100 [(6, .int s0), (0, .ref 42), (1, .int l1), (2, .int l2), (3, .int l3), (4, .int l4), (5, .int l5)] [.int l5] m Q
  refine y_zne (t := 115) rfl rfl rfl (fun h => ?_) (fun h => ?_)
  · replace H := H.1 h; clear h
    show yP (xg xs) (d + 1) 210 115 [(6, .int s0), (0, .ref 42), (1, .int l1), (2, .int l2), (3, .int l3), (4, .int l4), (5, .int l5)] [] m Q
    refine y_headS (l2 := [(0, .ref 42), (1, .int l1), (2, .int l2), (3, .int l3), (4, .int l4)]) [1, 2, 3, 4, 5] [0, 1, 2, 3, 4] [6, 0, 1, 2, 3, 4, 5] rfl rfl (by decide) rfl (by decide) ?_
    exact H
  · replace H := H.2 h; clear h
    refine y_st rfl rfl rfl rfl rfl (fun _ _ => rfl) ?_
    show yP (xg xs) (d + 1) 210 105 [(6, .int s0), (0, .ref 42), (1, .int l1), (2, .int l2), (3, .int l3), (4, .int l4), (5, .int l5)] [.int s0] m Q
    refine y_zne (t := 115) rfl rfl rfl (fun h => ?_) (fun h => ?_)
    · replace H := H.1 h; clear h
      show yP (xg xs) (d + 1) 210 115 [(6, .int s0), (0, .ref 42), (1, .int l1), (2, .int l2), (3, .int l3), (4, .int l4), (5, .int l5)] [] m Q
      refine y_headS (l2 := [(0, .ref 42), (1, .int l1), (2, .int l2), (3, .int l3), (4, .int l4)]) [1, 2, 3, 4, 5] [0, 1, 2, 3, 4] [6, 0, 1, 2, 3, 4, 5] rfl rfl (by decide) rfl (by decide) ?_
      exact H
    · replace H := H.2 h; clear h
      refine y_st rfl rfl rfl rfl rfl (fun _ _ => rfl) ?_
      refine y_st rfl rfl rfl rfl rfl (fun _ _ => rfl) ?_
      refine y_st rfl rfl rfl rfl rfl (fun _ _ => rfl) ?_
      show yP (xg xs) (d + 1) 210 112 [(6, .int s0), (0, .ref 42), (1, .int l1), (2, .int l2), (3, .int l3), (4, .int l4), (5, .int l5)] [.int l3, .int l4, .ref 42] m Q
      refine y_call rfl rfl rfl rfl rfl (Nat.le_of_ble_eq_true rfl) (Nat.le_of_ble_eq_true rfl) rfl (by decide) H (fun v1 m1 H => ?_)
      obtain ⟨rfl, H⟩ := H
      show yP (xg xs) (d + 1) 210 115 [(6, .int s0), (0, .ref 42), (1, .int l1), (2, .int l2), (3, .int l3), (4, .int l4), (5, .int l5)] [] m1 Q
      refine y_headS (l2 := [(0, .ref 42), (1, .int l1), (2, .int l2), (3, .int l3), (4, .int l4)]) [1, 2, 3, 4, 5] [0, 1, 2, 3, 4] [6, 0, 1, 2, 3, 4, 5] rfl rfl (by decide) rfl (by decide) ?_
      exact H
set_option maxRecDepth 20000 in
/-- CodeMaker.Writer.ladder from 115 on -/
theorem w210_115 (xs : List Int32) (d : Nat) (l1 : Int32) (l2 : Int32) (l3 : Int32) (l4 : Int32) (m : yM) (Q : Option Value → yM → Prop) (H : yP (xg xs) (d + 1) 210 35 [(0, .ref 42), (1, .int l1), (2, .int l2), (3, .int l3), (4, .int (l4 + (1 : Int32)))] [] m Q) : yP (xg xs) (d + 1) 210 115 [(0, .ref 42), (1, .int l1), (2, .int l2), (3, .int l3), (4, .int l4)] [] m Q := by
  refine y_st rfl rfl rfl rfl rfl (fun _ _ => rfl) ?_
  refine y_st rfl rfl rfl rfl rfl (fun _ _ => rfl) ?_
  show yP (xg xs) (d + 1) 210 35 [(4, .int (l4 + (1 : Int32))), (0, .ref 42), (1, .int l1), (2, .int l2), (3, .int l3)] [] m Q
  refine y_headS (l2 := [(0, .ref 42), (1, .int l1), (2, .int l2), (3, .int l3), (4, .int (l4 + (1 : Int32)))]) [1, 2, 3, 4, 0] [0, 1, 2, 3, 4] [4, 0, 1, 2, 3] rfl rfl (by decide) rfl (by decide) ?_
  exact H
set_option maxRecDepth 20000 in
/-- CodeMaker.Writer.ladder from 129 on -/
theorem w210_129 (xs : List Int32) (d : Nat) (l1 : Int32) (l2 : Int32) (l3 : Int32) (m : yM) (Q : Option Value → yM → Prop) (H : (((m.1 42 5) ≤ l3 → (x_in l2 16401 = true ∧ yP (xg xs) (d + 1) 210 4 [(0, .ref 42), (1, .int l1), (2, .int (m.1 7 l2.toNatClampNeg))] [] m Q)) ∧ (¬ (m.1 42 5) ≤ l3 → (yC (xg xs) d 213 [.ref 42, .int l3, .int (m.1 42 6)] m (fun v1 m1 => ∃ u1, v1 = some (Value.int u1) ∧ (x_in u1 16401 = true ∧ ((¬ (m1.1 3 u1.toNatClampNeg) = (28 : Int32) → yP (xg xs) (d + 1) 210 173 [(0, .ref 42), (1, .int l1), (2, .int l2), (3, .int l3)] [] m1 Q) ∧ ((m1.1 3 u1.toNatClampNeg) = (28 : Int32) → (yC (xg xs) d 213 [.ref 42, .int l3, .int (m1.1 42 6)] m1 (fun v2 m2 => ∃ u2, v2 = some (Value.int u2) ∧ (yC (xg xs) d 217 [.ref 42, .int u2, .int l3] m2 (fun v3 m3 => v3 = none ∧ yP (xg xs) (d + 1) 210 173 [(0, .ref 42), (1, .int l1), (2, .int l2), (3, .int l3)] [] m3 Q)))))))))))) : yP (xg xs) (d + 1) 210 129 [(0, .ref 42), (1, .int l1), (2, .int l2), (3, .int l3)] [] m Q := by
  refine y_st rfl rfl rfl rfl rfl (fun _ _ => rfl) ?_
  refine y_st rfl rfl rfl rfl rfl (fun _ _ => rfl) ?_
  refine y_gf rfl rfl rfl rfl rfl ?_
  show yP (xg xs) (d + 1) 210 134 [(0, .ref 42), (1, .int l1), (2, .int l2), (3, .int l3)] [.int (m.1 42 5), .int l3] m Q
  refine y_ige (t := 179) rfl rfl rfl (fun h => ?_) (fun h => ?_)
  · replace H := H.1 h; clear h
    refine y_st rfl rfl rfl rfl rfl (fun _ _ => rfl) ?_
    refine y_gf rfl rfl rfl rfl rfl ?_
    refine y_gf rfl rfl rfl rfl rfl ?_
    refine y_st rfl rfl rfl rfl rfl (fun _ _ => rfl) ?_
    show yP (xg xs) (d + 1) 210 187 [(0, .ref 42), (1, .int l1), (2, .int l2), (3, .int l3)] [.int l2, .ref 7] m Q
    refine y_iald rfl rfl rfl (H.1) ?_
    replace H := H.2
    refine y_st rfl rfl rfl rfl rfl (fun _ _ => rfl) ?_
    refine y_st rfl rfl rfl rfl rfl (fun _ _ => rfl) ?_
    show yP (xg xs) (d + 1) 210 4 [(2, .int (m.1 7 l2.toNatClampNeg)), (0, .ref 42), (1, .int l1), (3, .int l3)] [] m Q
    refine y_headS (l2 := [(0, .ref 42), (1, .int l1), (2, .int (m.1 7 l2.toNatClampNeg))]) [1, 2, 0] [0, 1, 2] [2, 0, 1, 3] rfl rfl (by decide) rfl (by decide) ?_
    exact H
  · replace H := H.2 h; clear h
    refine y_st rfl rfl rfl rfl rfl (fun _ _ => rfl) ?_
    refine y_gf rfl rfl rfl rfl rfl ?_
    refine y_gf rfl rfl rfl rfl rfl ?_
    refine y_st rfl rfl rfl rfl rfl (fun _ _ => rfl) ?_
    refine y_st rfl rfl rfl rfl rfl (fun _ _ => rfl) ?_
    refine y_st rfl rfl rfl rfl rfl (fun _ _ => rfl) ?_
    refine y_gf rfl rfl rfl rfl rfl ?_
    show yP (xg xs) (d + 1) 210 150 [(0, .ref 42), (1, .int l1), (2, .int l2), (3, .int l3)] [.int (m.1 42 6), .int l3, .ref 42, .ref 3] m Q
    refine y_call rfl rfl rfl rfl rfl (Nat.le_of_ble_eq_true rfl) (Nat.le_of_ble_eq_true rfl) rfl (by decide) H (fun v1 m1 H => ?_)
    obtain ⟨u1, rfl, H⟩ := H
    show yP (xg xs) (d + 1) 210 153 [(0, .ref 42), (1, .int l1), (2, .int l2), (3, .int l3)] [.int u1, .ref 3] m1 Q
    refine y_iald rfl rfl rfl (H.1) ?_
    replace H := H.2
    refine y_st rfl rfl rfl rfl rfl (fun _ _ => rfl) ?_
    show yP (xg xs) (d + 1) 210 156 [(0, .ref 42), (1, .int l1), (2, .int l2), (3, .int l3)] [.int (28 : Int32), .int (m1.1 3 u1.toNatClampNeg)] m1 Q
    refine y_ine (t := 173) rfl rfl rfl (fun h => ?_) (fun h => ?_)
    · replace H := H.1 h; clear h
      show yP (xg xs) (d + 1) 210 173 [(0, .ref 42), (1, .int l1), (2, .int l2), (3, .int l3)] [] m1 Q
      exact H
    · replace H := H.2 h; clear h
      refine y_st rfl rfl rfl rfl rfl (fun _ _ => rfl) ?_
      refine y_st rfl rfl rfl rfl rfl (fun _ _ => rfl) ?_
      refine y_st rfl rfl rfl rfl rfl (fun _ _ => rfl) ?_
      refine y_st rfl rfl rfl rfl rfl (fun _ _ => rfl) ?_
      refine y_gf rfl rfl rfl rfl rfl ?_
      show yP (xg xs) (d + 1) 210 166 [(0, .ref 42), (1, .int l1), (2, .int l2), (3, .int l3)] [.int (m1.1 42 6), .int l3, .ref 42, .ref 42] m1 Q
      refine y_call rfl rfl rfl rfl rfl (Nat.le_of_ble_eq_true rfl) (Nat.le_of_ble_eq_true rfl) rfl (by decide) H (fun v2 m2 H => ?_)
      obtain ⟨u2, rfl, H⟩ := H
      refine y_st rfl rfl rfl rfl rfl (fun _ _ => rfl) ?_
      show yP (xg xs) (d + 1) 210 170 [(0, .ref 42), (1, .int l1), (2, .int l2), (3, .int l3)] [.int l3, .int u2, .ref 42] m2 Q
      refine y_call rfl rfl rfl rfl rfl (Nat.le_of_ble_eq_true rfl) (Nat.le_of_ble_eq_true rfl) rfl (by decide) H (fun v3 m3 H => ?_)
      obtain ⟨rfl, H⟩ := H
      show yP (xg xs) (d + 1) 210 173 [(0, .ref 42), (1, .int l1), (2, .int l2), (3, .int l3)] [] m3 Q
      exact H
set_option maxRecDepth 20000 in
/-- CodeMaker.Writer.ladder from 173 on -/
theorem w210_173 (xs : List Int32) (d : Nat) (l1 : Int32) (l2 : Int32) (l3 : Int32) (m : yM) (Q : Option Value → yM → Prop) (H : yP (xg xs) (d + 1) 210 129 [(0, .ref 42), (1, .int l1), (2, .int l2), (3, .int (l3 + (1 : Int32)))] [] m Q) : yP (xg xs) (d + 1) 210 173 [(0, .ref 42), (1, .int l1), (2, .int l2), (3, .int l3)] [] m Q := by
  refine y_st rfl rfl rfl rfl rfl (fun _ _ => rfl) ?_
  refine y_st rfl rfl rfl rfl rfl (fun _ _ => rfl) ?_
  show yP (xg xs) (d + 1) 210 129 [(3, .int (l3 + (1 : Int32))), (0, .ref 42), (1, .int l1), (2, .int l2)] [] m Q
  refine y_headS (l2 := [(0, .ref 42), (1, .int l1), (2, .int l2), (3, .int (l3 + (1 : Int32)))]) [1, 2, 3, 0] [0, 1, 2, 3] [3, 0, 1, 2] rfl rfl (by decide) rfl (by decide) ?_
  exact H
set_option maxRecDepth 20000 in
/-- CodeMaker.Writer.layOut from 0 on -/
theorem w211_0 (xs : List Int32) (d : Nat) (l1 : Int32) (m : yM) (Q : Option Value → yM → Prop) (H : yP (xg xs) (d + 1) 211 14 [(0, .ref 42), (1, .int l1), (2, .int (l1 + (1 : Int32)))] [] (y_si (y_si m 42 5 (0 : Int32)) 42 6 (0 : Int32)) Q) : yP (xg xs) (d + 1) 211 0 [(0, .ref 42), (1, .int l1)] [] m Q := by
  refine y_st rfl rfl rfl rfl rfl (fun _ _ => rfl) ?_
  refine y_st rfl rfl rfl rfl rfl (fun _ _ => rfl) ?_
  refine y_pfi rfl rfl rfl rfl rfl (x_fit_i _) ?_
  show yP (xg xs) (d + 1) 211 5 [(0, .ref 42), (1, .int l1)] [] (y_si m 42 5 (0 : Int32)) Q
  refine y_st rfl rfl rfl rfl rfl (fun _ _ => rfl) ?_
  refine y_st rfl rfl rfl rfl rfl (fun _ _ => rfl) ?_
  refine y_pfi rfl rfl rfl rfl rfl (x_fit_i _) ?_
  show yP (xg xs) (d + 1) 211 10 [(0, .ref 42), (1, .int l1)] [] (y_si (y_si m 42 5 (0 : Int32)) 42 6 (0 : Int32)) Q
  refine y_st rfl rfl rfl rfl rfl (fun _ _ => rfl) ?_
  refine y_st rfl rfl rfl rfl rfl (fun _ _ => rfl) ?_
  refine y_st rfl rfl rfl rfl rfl (fun _ _ => rfl) ?_
  refine y_st rfl rfl rfl rfl rfl (fun _ _ => rfl) ?_
  show yP (xg xs) (d + 1) 211 14 [(2, .int (l1 + (1 : Int32))), (0, .ref 42), (1, .int l1)] [] (y_si (y_si m 42 5 (0 : Int32)) 42 6 (0 : Int32)) Q
  refine y_headS (l2 := [(0, .ref 42), (1, .int l1), (2, .int (l1 + (1 : Int32)))]) [1, 2, 0] [0, 1, 2] [2, 0, 1] rfl rfl (by decide) rfl (by decide) ?_
  exact H
set_option maxRecDepth 20000 in
/-- CodeMaker.Writer.layOut from 14 on -/
theorem w211_14 (xs : List Int32) (d : Nat) (l1 : Int32) (l2 : Int32) (m : yM) (Q : Option Value → yM → Prop) (H : (x_in l1 16401 = true ∧ (((m.1 7 l1.toNatClampNeg) ≤ l2 → Q none m) ∧ (¬ (m.1 7 l1.toNatClampNeg) ≤ l2 → (((12 : Int32) ≤ (m.1 42 5) → Q none m) ∧ (¬ (12 : Int32) ≤ (m.1 42 5) → yP (xg xs) (d + 1) 211 45 [(0, .ref 42), (1, .int l1), (2, .int l2), (3, .int (l2 + (1 : Int32)))] [] (y_si m 42 6 (0 : Int32)) Q)))))) : yP (xg xs) (d + 1) 211 14 [(0, .ref 42), (1, .int l1), (2, .int l2)] [] m Q := by
  refine y_st rfl rfl rfl rfl rfl (fun _ _ => rfl) ?_
  refine y_st rfl rfl rfl rfl rfl (fun _ _ => rfl) ?_
  refine y_gf rfl rfl rfl rfl rfl ?_
  refine y_gf rfl rfl rfl rfl rfl ?_
  refine y_st rfl rfl rfl rfl rfl (fun _ _ => rfl) ?_
  show yP (xg xs) (d + 1) 211 23 [(0, .ref 42), (1, .int l1), (2, .int l2)] [.int l1, .ref 7, .int l2] m Q
  refine y_iald rfl rfl rfl (H.1) ?_
  replace H := H.2
  show yP (xg xs) (d + 1) 211 24 [(0, .ref 42), (1, .int l1), (2, .int l2)] [.int (m.1 7 l1.toNatClampNeg), .int l2] m Q
  refine y_ige (t := 193) rfl rfl rfl (fun h => ?_) (fun h => ?_)
  · replace H := H.1 h; clear h
    show yP (xg xs) (d + 1) 211 193 [(0, .ref 42), (1, .int l1), (2, .int l2)] [] m Q
    exact y_ret rfl rfl rfl rfl H
  · replace H := H.2 h; clear h
    refine y_st rfl rfl rfl rfl rfl (fun _ _ => rfl) ?_
    refine y_gf rfl rfl rfl rfl rfl ?_
    refine y_st rfl rfl rfl rfl rfl (fun _ _ => rfl) ?_
    show yP (xg xs) (d + 1) 211 33 [(0, .ref 42), (1, .int l1), (2, .int l2)] [.int (12 : Int32), .int (m.1 42 5)] m Q
    refine y_ige (t := 193) rfl rfl rfl (fun h => ?_) (fun h => ?_)
    · replace H := H.1 h; clear h
      show yP (xg xs) (d + 1) 211 193 [(0, .ref 42), (1, .int l1), (2, .int l2)] [] m Q
      exact y_ret rfl rfl rfl rfl H
    · replace H := H.2 h; clear h
      refine y_st rfl rfl rfl rfl rfl (fun _ _ => rfl) ?_
      refine y_st rfl rfl rfl rfl rfl (fun _ _ => rfl) ?_
      refine y_pfi rfl rfl rfl rfl rfl (x_fit_i _) ?_
      show yP (xg xs) (d + 1) 211 41 [(0, .ref 42), (1, .int l1), (2, .int l2)] [] (y_si m 42 6 (0 : Int32)) Q
      refine y_st rfl rfl rfl rfl rfl (fun _ _ => rfl) ?_
      refine y_st rfl rfl rfl rfl rfl (fun _ _ => rfl) ?_
      refine y_st rfl rfl rfl rfl rfl (fun _ _ => rfl) ?_
      refine y_st rfl rfl rfl rfl rfl (fun _ _ => rfl) ?_
      show yP (xg xs) (d + 1) 211 45 [(3, .int (l2 + (1 : Int32))), (0, .ref 42), (1, .int l1), (2, .int l2)] [] (y_si m 42 6 (0 : Int32)) Q
      refine y_headS (l2 := [(0, .ref 42), (1, .int l1), (2, .int l2), (3, .int (l2 + (1 : Int32)))]) [1, 2, 3, 0] [0, 1, 2, 3] [3, 0, 1, 2] rfl rfl (by decide) rfl (by decide) ?_
      exact H
set_option maxRecDepth 20000 in
/-- CodeMaker.Writer.layOut from 45 on -/
theorem w211_45 (xs : List Int32) (d : Nat) (l1 : Int32) (l2 : Int32) (l3 : Int32) (m : yM) (Q : Option Value → yM → Prop) (H : (x_in l2 16401 = true ∧ (((m.1 7 l2.toNatClampNeg) ≤ l3 → (x_in l2 16401 = true ∧ yP (xg xs) (d + 1) 211 14 [(0, .ref 42), (1, .int l1), (2, .int (m.1 7 l2.toNatClampNeg))] [] (y_si m 42 5 ((m.1 42 5) + (1 : Int32))) Q)) ∧ (¬ (m.1 7 l2.toNatClampNeg) ≤ l3 → (x_in l3 16401 = true ∧ (((m.1 3 l3.toNatClampNeg) = (29 : Int32) → yP (xg xs) (d + 1) 211 130 [(0, .ref 42), (1, .int l1), (2, .int l2), (3, .int l3)] [] m Q) ∧ (¬ (m.1 3 l3.toNatClampNeg) = (29 : Int32) → (((12 : Int32) ≤ (m.1 42 6) → yP (xg xs) (d + 1) 211 130 [(0, .ref 42), (1, .int l1), (2, .int l2), (3, .int l3)] [] m Q) ∧ (¬ (12 : Int32) ≤ (m.1 42 6) → (x_in (((m.1 42 5) * (12 : Int32)) + (m.1 42 6)) 144 = true ∧ (x_in (((m.1 42 5) * (12 : Int32)) + (m.1 42 6)) 144 = true ∧ yP (xg xs) (d + 1) 211 157 [(0, .ref 42), (1, .int l1), (2, .int l2), (3, .int l3)] [] (y_si (y_si (y_si m 43 ((((m.1 42 5) * (12 : Int32)) + (m.1 42 6)).toNatClampNeg) l3) 44 ((((m.1 42 5) * (12 : Int32)) + (m.1 42 6)).toNatClampNeg) (vp_nar .boolean (0 : Int32))) 42 6 ((m.1 42 6) + (1 : Int32))) Q))))))))))) : yP (xg xs) (d + 1) 211 45 [(0, .ref 42), (1, .int l1), (2, .int l2), (3, .int l3)] [] m Q := by
  refine y_st rfl rfl rfl rfl rfl (fun _ _ => rfl) ?_
  refine y_st rfl rfl rfl rfl rfl (fun _ _ => rfl) ?_
  refine y_gf rfl rfl rfl rfl rfl ?_
  refine y_gf rfl rfl rfl rfl rfl ?_
  refine y_st rfl rfl rfl rfl rfl (fun _ _ => rfl) ?_
  show yP (xg xs) (d + 1) 211 54 [(0, .ref 42), (1, .int l1), (2, .int l2), (3, .int l3)] [.int l2, .ref 7, .int l3] m Q
  refine y_iald rfl rfl rfl (H.1) ?_
  replace H := H.2
  show yP (xg xs) (d + 1) 211 55 [(0, .ref 42), (1, .int l1), (2, .int l2), (3, .int l3)] [.int (m.1 7 l2.toNatClampNeg), .int l3] m Q
  refine y_ige (t := 170) rfl rfl rfl (fun h => ?_) (fun h => ?_)
  · replace H := H.1 h; clear h
    refine y_st rfl rfl rfl rfl rfl (fun _ _ => rfl) ?_
    refine y_st rfl rfl rfl rfl rfl (fun _ _ => rfl) ?_
    refine y_gf rfl rfl rfl rfl rfl ?_
    refine y_st rfl rfl rfl rfl rfl (fun _ _ => rfl) ?_
    refine y_st rfl rfl rfl rfl rfl (fun _ _ => rfl) ?_
    refine y_pfi rfl rfl rfl rfl rfl (x_fit_i _) ?_
    show yP (xg xs) (d + 1) 211 180 [(0, .ref 42), (1, .int l1), (2, .int l2), (3, .int l3)] [] (y_si m 42 5 ((m.1 42 5) + (1 : Int32))) Q
    refine y_st rfl rfl rfl rfl rfl (fun _ _ => rfl) ?_
    refine y_gf rfl rfl rfl rfl rfl ?_
    refine y_gf rfl rfl rfl rfl rfl ?_
    refine y_st rfl rfl rfl rfl rfl (fun _ _ => rfl) ?_
    show yP (xg xs) (d + 1) 211 188 [(0, .ref 42), (1, .int l1), (2, .int l2), (3, .int l3)] [.int l2, .ref 7] (y_si m 42 5 ((m.1 42 5) + (1 : Int32))) Q
    refine y_iald rfl rfl rfl (H.1) ?_
    replace H := H.2
    refine y_st rfl rfl rfl rfl rfl (fun _ _ => rfl) ?_
    refine y_st rfl rfl rfl rfl rfl (fun _ _ => rfl) ?_
    show yP (xg xs) (d + 1) 211 14 [(2, .int (m.1 7 l2.toNatClampNeg)), (0, .ref 42), (1, .int l1), (3, .int l3)] [] (y_si m 42 5 ((m.1 42 5) + (1 : Int32))) Q
    refine y_headS (l2 := [(0, .ref 42), (1, .int l1), (2, .int (m.1 7 l2.toNatClampNeg))]) [1, 2, 0] [0, 1, 2] [2, 0, 1, 3] rfl rfl (by decide) rfl (by decide) ?_
    exact H
  · replace H := H.2 h; clear h
    refine y_st rfl rfl rfl rfl rfl (fun _ _ => rfl) ?_
    refine y_gf rfl rfl rfl rfl rfl ?_
    refine y_gf rfl rfl rfl rfl rfl ?_
    refine y_st rfl rfl rfl rfl rfl (fun _ _ => rfl) ?_
    show yP (xg xs) (d + 1) 211 66 [(0, .ref 42), (1, .int l1), (2, .int l2), (3, .int l3)] [.int l3, .ref 3] m Q
    refine y_iald rfl rfl rfl (H.1) ?_
    replace H := H.2
    refine y_st rfl rfl rfl rfl rfl (fun _ _ => rfl) ?_
    show yP (xg xs) (d + 1) 211 69 [(0, .ref 42), (1, .int l1), (2, .int l2), (3, .int l3)] [.int (29 : Int32), .int (m.1 3 l3.toNatClampNeg)] m Q
    refine y_ieq (t := 130) rfl rfl rfl (fun h => ?_) (fun h => ?_)
    · replace H := H.1 h; clear h
      show yP (xg xs) (d + 1) 211 130 [(0, .ref 42), (1, .int l1), (2, .int l2), (3, .int l3)] [] m Q
      exact H
    · replace H := H.2 h; clear h
      refine y_st rfl rfl rfl rfl rfl (fun _ _ => rfl) ?_
      refine y_gf rfl rfl rfl rfl rfl ?_
      refine y_st rfl rfl rfl rfl rfl (fun _ _ => rfl) ?_
      show yP (xg xs) (d + 1) 211 78 [(0, .ref 42), (1, .int l1), (2, .int l2), (3, .int l3)] [.int (12 : Int32), .int (m.1 42 6)] m Q
      refine y_ige (t := 130) rfl rfl rfl (fun h => ?_) (fun h => ?_)
      · replace H := H.1 h; clear h
        show yP (xg xs) (d + 1) 211 130 [(0, .ref 42), (1, .int l1), (2, .int l2), (3, .int l3)] [] m Q
        exact H
      · replace H := H.2 h; clear h
        refine y_st rfl rfl rfl rfl rfl (fun _ _ => rfl) ?_
        refine y_gf rfl rfl rfl rfl rfl ?_
        refine y_st rfl rfl rfl rfl rfl (fun _ _ => rfl) ?_
        refine y_gf rfl rfl rfl rfl rfl ?_
        refine y_st rfl rfl rfl rfl rfl (fun _ _ => rfl) ?_
        refine y_st rfl rfl rfl rfl rfl (fun _ _ => rfl) ?_
        refine y_st rfl rfl rfl rfl rfl (fun _ _ => rfl) ?_
        refine y_gf rfl rfl rfl rfl rfl ?_
        refine y_st rfl rfl rfl rfl rfl (fun _ _ => rfl) ?_
        refine y_st rfl rfl rfl rfl rfl (fun _ _ => rfl) ?_
        show yP (xg xs) (d + 1) 211 98 [(0, .ref 42), (1, .int l1), (2, .int l2), (3, .int l3)] [.int l3, .int (((m.1 42 5) * (12 : Int32)) + (m.1 42 6)), .ref 43] m Q
        refine y_iast rfl rfl rfl (H.1) ?_
        replace H := H.2
        refine y_st rfl rfl rfl rfl rfl (fun _ _ => rfl) ?_
        refine y_gf rfl rfl rfl rfl rfl ?_
        refine y_st rfl rfl rfl rfl rfl (fun _ _ => rfl) ?_
        refine y_gf rfl rfl rfl rfl rfl ?_
        refine y_st rfl rfl rfl rfl rfl (fun _ _ => rfl) ?_
        refine y_st rfl rfl rfl rfl rfl (fun _ _ => rfl) ?_
        refine y_st rfl rfl rfl rfl rfl (fun _ _ => rfl) ?_
        refine y_gf rfl rfl rfl rfl rfl ?_
        refine y_st rfl rfl rfl rfl rfl (fun _ _ => rfl) ?_
        refine y_st rfl rfl rfl rfl rfl (fun _ _ => rfl) ?_
        show yP (xg xs) (d + 1) 211 116 [(0, .ref 42), (1, .int l1), (2, .int l2), (3, .int l3)] [.int (0 : Int32), .int (((m.1 42 5) * (12 : Int32)) + (m.1 42 6)), .ref 44] (y_si m 43 ((((m.1 42 5) * (12 : Int32)) + (m.1 42 6)).toNatClampNeg) l3) Q
        refine y_zast rfl rfl rfl (H.1) ?_
        replace H := H.2
        refine y_st rfl rfl rfl rfl rfl (fun _ _ => rfl) ?_
        refine y_st rfl rfl rfl rfl rfl (fun _ _ => rfl) ?_
        refine y_gf rfl rfl rfl rfl rfl ?_
        refine y_st rfl rfl rfl rfl rfl (fun _ _ => rfl) ?_
        refine y_st rfl rfl rfl rfl rfl (fun _ _ => rfl) ?_
        refine y_pfi rfl rfl rfl rfl rfl (x_fit_i _) ?_
        show yP (xg xs) (d + 1) 211 127 [(0, .ref 42), (1, .int l1), (2, .int l2), (3, .int l3)] [] (y_si (y_si (y_si m 43 ((((m.1 42 5) * (12 : Int32)) + (m.1 42 6)).toNatClampNeg) l3) 44 ((((m.1 42 5) * (12 : Int32)) + (m.1 42 6)).toNatClampNeg) (vp_nar .boolean (0 : Int32))) 42 6 ((m.1 42 6) + (1 : Int32))) Q
        refine y_st rfl rfl rfl rfl rfl (fun _ _ => rfl) ?_
        show yP (xg xs) (d + 1) 211 157 [(0, .ref 42), (1, .int l1), (2, .int l2), (3, .int l3)] [] (y_si (y_si (y_si m 43 ((((m.1 42 5) * (12 : Int32)) + (m.1 42 6)).toNatClampNeg) l3) 44 ((((m.1 42 5) * (12 : Int32)) + (m.1 42 6)).toNatClampNeg) (vp_nar .boolean (0 : Int32))) 42 6 ((m.1 42 6) + (1 : Int32))) Q
        exact H
set_option maxRecDepth 20000 in
/-- CodeMaker.Writer.layOut from 130 on -/
theorem w211_130 (xs : List Int32) (d : Nat) (l1 : Int32) (l2 : Int32) (l3 : Int32) (m : yM) (Q : Option Value → yM → Prop) (H : (((m.1 42 6) ≤ 0 → yP (xg xs) (d + 1) 211 157 [(0, .ref 42), (1, .int l1), (2, .int l2), (3, .int l3)] [] m Q) ∧ (¬ (m.1 42 6) ≤ 0 → (x_in ((((m.1 42 5) * (12 : Int32)) + (m.1 42 6)) - (1 : Int32)) 144 = true ∧ yP (xg xs) (d + 1) 211 157 [(0, .ref 42), (1, .int l1), (2, .int l2), (3, .int l3)] [] (y_si m 44 (((((m.1 42 5) * (12 : Int32)) + (m.1 42 6)) - (1 : Int32)).toNatClampNeg) (vp_nar .boolean (1 : Int32))) Q)))) : yP (xg xs) (d + 1) 211 130 [(0, .ref 42), (1, .int l1), (2, .int l2), (3, .int l3)] [] m Q := by
  refine y_st rfl rfl rfl rfl rfl (fun _ _ => rfl) ?_
  refine y_gf rfl rfl rfl rfl rfl ?_
  show yP (xg xs) (d + 1) 211 134 [(0, .ref 42), (1, .int l1), (2, .int l2), (3, .int l3)] [.int (m.1 42 6)] m Q
  refine y_zle (t := 157) rfl rfl rfl (fun h => ?_) (fun h => ?_)
  · replace H := H.1 h; clear h
    show yP (xg xs) (d + 1) 211 157 [(0, .ref 42), (1, .int l1), (2, .int l2), (3, .int l3)] [] m Q
    exact H
  · replace H := H.2 h; clear h
    refine y_st rfl rfl rfl rfl rfl (fun _ _ => rfl) ?_
    refine y_gf rfl rfl rfl rfl rfl ?_
    refine y_st rfl rfl rfl rfl rfl (fun _ _ => rfl) ?_
    refine y_gf rfl rfl rfl rfl rfl ?_
    refine y_st rfl rfl rfl rfl rfl (fun _ _ => rfl) ?_
    refine y_st rfl rfl rfl rfl rfl (fun _ _ => rfl) ?_
    refine y_st rfl rfl rfl rfl rfl (fun _ _ => rfl) ?_
    refine y_gf rfl rfl rfl rfl rfl ?_
    refine y_st rfl rfl rfl rfl rfl (fun _ _ => rfl) ?_
    refine y_st rfl rfl rfl rfl rfl (fun _ _ => rfl) ?_
    refine y_st rfl rfl rfl rfl rfl (fun _ _ => rfl) ?_
    refine y_st rfl rfl rfl rfl rfl (fun _ _ => rfl) ?_
    show yP (xg xs) (d + 1) 211 156 [(0, .ref 42), (1, .int l1), (2, .int l2), (3, .int l3)] [.int (1 : Int32), .int ((((m.1 42 5) * (12 : Int32)) + (m.1 42 6)) - (1 : Int32)), .ref 44] m Q
    refine y_zast rfl rfl rfl (H.1) ?_
    replace H := H.2
    show yP (xg xs) (d + 1) 211 157 [(0, .ref 42), (1, .int l1), (2, .int l2), (3, .int l3)] [] (y_si m 44 (((((m.1 42 5) * (12 : Int32)) + (m.1 42 6)) - (1 : Int32)).toNatClampNeg) (vp_nar .boolean (1 : Int32))) Q
    exact H
set_option maxRecDepth 20000 in
/-- CodeMaker.Writer.layOut from 157 on -/
theorem w211_157 (xs : List Int32) (d : Nat) (l1 : Int32) (l2 : Int32) (l3 : Int32) (m : yM) (Q : Option Value → yM → Prop) (H : (x_in l3 16401 = true ∧ yP (xg xs) (d + 1) 211 45 [(0, .ref 42), (1, .int l1), (2, .int l2), (3, .int (m.1 7 l3.toNatClampNeg))] [] m Q)) : yP (xg xs) (d + 1) 211 157 [(0, .ref 42), (1, .int l1), (2, .int l2), (3, .int l3)] [] m Q := by
  refine y_st rfl rfl rfl rfl rfl (fun _ _ => rfl) ?_
  refine y_gf rfl rfl rfl rfl rfl ?_
  refine y_gf rfl rfl rfl rfl rfl ?_
  refine y_st rfl rfl rfl rfl rfl (fun _ _ => rfl) ?_
  show yP (xg xs) (d + 1) 211 165 [(0, .ref 42), (1, .int l1), (2, .int l2), (3, .int l3)] [.int l3, .ref 7] m Q
  refine y_iald rfl rfl rfl (H.1) ?_
  replace H := H.2
  refine y_st rfl rfl rfl rfl rfl (fun _ _ => rfl) ?_
  refine y_st rfl rfl rfl rfl rfl (fun _ _ => rfl) ?_
  show yP (xg xs) (d + 1) 211 45 [(3, .int (m.1 7 l3.toNatClampNeg)), (0, .ref 42), (1, .int l1), (2, .int l2)] [] m Q
  refine y_headS (l2 := [(0, .ref 42), (1, .int l1), (2, .int l2), (3, .int (m.1 7 l3.toNatClampNeg))]) [1, 2, 3, 0] [0, 1, 2, 3] [3, 0, 1, 2] rfl rfl (by decide) rfl (by decide) ?_
  exact H
set_option maxRecDepth 20000 in
/-- CodeMaker.Writer.leastRow from 0 on -/
theorem w212_0 (xs : List Int32) (d : Nat) (l1 : Int32) (l2 : Int32) (m : yM) (Q : Option Value → yM → Prop) (H : yP (xg xs) (d + 1) 212 2 [(0, .ref 42), (2, .int l2), (3, .int l1)] [] m Q) : yP (xg xs) (d + 1) 212 0 [(0, .ref 42), (1, .int l1), (2, .int l2)] [] m Q := by
  refine y_st rfl rfl rfl rfl rfl (fun _ _ => rfl) ?_
  refine y_st rfl rfl rfl rfl rfl (fun _ _ => rfl) ?_
  show yP (xg xs) (d + 1) 212 2 [(3, .int l1), (0, .ref 42), (1, .int l1), (2, .int l2)] [] m Q
  refine y_headS (l2 := [(0, .ref 42), (2, .int l2), (3, .int l1)]) [1, 3, 0] [0, 2, 3] [3, 0, 1, 2] rfl rfl (by decide) rfl (by decide) ?_
  exact H
set_option maxRecDepth 20000 in
/-- CodeMaker.Writer.leastRow from 2 on -/
theorem w212_2 (xs : List Int32) (d : Nat) (l2 : Int32) (l3 : Int32) (m : yM) (Q : Option Value → yM → Prop) (H : ((l3 ≤ 0 → Q (some (.int l3)) m) ∧ (¬ l3 ≤ 0 → (x_in ((((l3 - (1 : Int32)) * (12 : Int32)) + l2) - (1 : Int32)) 144 = true ∧ (((m.1 44 (((((l3 - (1 : Int32)) * (12 : Int32)) + l2) - (1 : Int32)).toNatClampNeg)) = 0 → Q (some (.int l3)) m) ∧ (¬ (m.1 44 (((((l3 - (1 : Int32)) * (12 : Int32)) + l2) - (1 : Int32)).toNatClampNeg)) = 0 → yP (xg xs) (d + 1) 212 2 [(0, .ref 42), (2, .int l2), (3, .int (l3 + ((-1) : Int32)))] [] m Q)))))) : yP (xg xs) (d + 1) 212 2 [(0, .ref 42), (2, .int l2), (3, .int l3)] [] m Q := by
  refine y_st rfl rfl rfl rfl rfl (fun _ _ => rfl) ?_
  show yP (xg xs) (d + 1) 212 3 [(0, .ref 42), (2, .int l2), (3, .int l3)] [.int l3] m Q
  refine y_zle (t := 30) rfl rfl rfl (fun h => ?_) (fun h => ?_)
  · replace H := H.1 h; clear h
    refine y_st rfl rfl rfl rfl rfl (fun _ _ => rfl) ?_
    show yP (xg xs) (d + 1) 212 31 [(0, .ref 42), (2, .int l2), (3, .int l3)] [.int l3] m Q
    exact y_iret rfl rfl rfl H
  · replace H := H.2 h; clear h
    refine y_st rfl rfl rfl rfl rfl (fun _ _ => rfl) ?_
    refine y_gf rfl rfl rfl rfl rfl ?_
    refine y_st rfl rfl rfl rfl rfl (fun _ _ => rfl) ?_
    refine y_st rfl rfl rfl rfl rfl (fun _ _ => rfl) ?_
    refine y_st rfl rfl rfl rfl rfl (fun _ _ => rfl) ?_
    refine y_st rfl rfl rfl rfl rfl (fun _ _ => rfl) ?_
    refine y_st rfl rfl rfl rfl rfl (fun _ _ => rfl) ?_
    refine y_st rfl rfl rfl rfl rfl (fun _ _ => rfl) ?_
    refine y_st rfl rfl rfl rfl rfl (fun _ _ => rfl) ?_
    refine y_st rfl rfl rfl rfl rfl (fun _ _ => rfl) ?_
    refine y_st rfl rfl rfl rfl rfl (fun _ _ => rfl) ?_
    show yP (xg xs) (d + 1) 212 20 [(0, .ref 42), (2, .int l2), (3, .int l3)] [.int ((((l3 - (1 : Int32)) * (12 : Int32)) + l2) - (1 : Int32)), .ref 44] m Q
    refine y_bald rfl rfl rfl (by decide) (H.1) ?_
    replace H := H.2
    show yP (xg xs) (d + 1) 212 21 [(0, .ref 42), (2, .int l2), (3, .int l3)] [.int (m.1 44 (((((l3 - (1 : Int32)) * (12 : Int32)) + l2) - (1 : Int32)).toNatClampNeg))] m Q
    refine y_zeq (t := 30) rfl rfl rfl (fun h => ?_) (fun h => ?_)
    · replace H := H.1 h; clear h
      refine y_st rfl rfl rfl rfl rfl (fun _ _ => rfl) ?_
      show yP (xg xs) (d + 1) 212 31 [(0, .ref 42), (2, .int l2), (3, .int l3)] [.int l3] m Q
      exact y_iret rfl rfl rfl H
    · replace H := H.2 h; clear h
      refine y_st rfl rfl rfl rfl rfl (fun _ _ => rfl) ?_
      refine y_st rfl rfl rfl rfl rfl (fun _ _ => rfl) ?_
      show yP (xg xs) (d + 1) 212 2 [(3, .int (l3 + ((-1) : Int32))), (0, .ref 42), (2, .int l2)] [] m Q
      refine y_headS (l2 := [(0, .ref 42), (2, .int l2), (3, .int (l3 + ((-1) : Int32)))]) [1, 2, 0] [0, 2, 3] [3, 0, 2] rfl rfl (by decide) rfl (by decide) ?_
      exact H
set_option maxRecDepth 20000 in
/-- CodeMaker.Writer.cellAt from 0 on -/
theorem w213_0 (xs : List Int32) (d : Nat) (l1 : Int32) (l2 : Int32) (m : yM) (Q : Option Value → yM → Prop) (H : (x_in (((l1 * (12 : Int32)) + l2) - (1 : Int32)) 144 = true ∧ Q (some (.int (m.1 43 ((((l1 * (12 : Int32)) + l2) - (1 : Int32)).toNatClampNeg)))) m)) : yP (xg xs) (d + 1) 213 0 [(0, .ref 42), (1, .int l1), (2, .int l2)] [] m Q := by
  refine y_st rfl rfl rfl rfl rfl (fun _ _ => rfl) ?_
  refine y_gf rfl rfl rfl rfl rfl ?_
  refine y_st rfl rfl rfl rfl rfl (fun _ _ => rfl) ?_
  refine y_st rfl rfl rfl rfl rfl (fun _ _ => rfl) ?_
  refine y_st rfl rfl rfl rfl rfl (fun _ _ => rfl) ?_
  refine y_st rfl rfl rfl rfl rfl (fun _ _ => rfl) ?_
  refine y_st rfl rfl rfl rfl rfl (fun _ _ => rfl) ?_
  refine y_st rfl rfl rfl rfl rfl (fun _ _ => rfl) ?_
  refine y_st rfl rfl rfl rfl rfl (fun _ _ => rfl) ?_
  show yP (xg xs) (d + 1) 213 12 [(0, .ref 42), (1, .int l1), (2, .int l2)] [.int (((l1 * (12 : Int32)) + l2) - (1 : Int32)), .ref 43] m Q
  refine y_iald rfl rfl rfl (H.1) ?_
  replace H := H.2
  show yP (xg xs) (d + 1) 213 13 [(0, .ref 42), (1, .int l1), (2, .int l2)] [.int (m.1 43 ((((l1 * (12 : Int32)) + l2) - (1 : Int32)).toNatClampNeg))] m Q
  exact y_iret rfl rfl rfl H
set_option maxRecDepth 20000 in
/-- CodeMaker.Writer.group from 0 on -/
theorem w214_0 (xs : List Int32) (d : Nat) (l1 : Int32) (l2 : Int32) (m : yM) (Q : Option Value → yM → Prop) (H : yP (xg xs) (d + 1) 214 5 [(0, .ref 42), (1, .int l1), (2, .int l2), (3, .int (0 : Int32)), (4, .int l1)] [] m Q) : yP (xg xs) (d + 1) 214 0 [(0, .ref 42), (1, .int l1), (2, .int l2)] [] m Q := by
  refine y_st rfl rfl rfl rfl rfl (fun _ _ => rfl) ?_
  refine y_st rfl rfl rfl rfl rfl (fun _ _ => rfl) ?_
  refine y_st rfl rfl rfl rfl rfl (fun _ _ => rfl) ?_
  refine y_st rfl rfl rfl rfl rfl (fun _ _ => rfl) ?_
  show yP (xg xs) (d + 1) 214 5 [(4, .int l1), (3, .int (0 : Int32)), (0, .ref 42), (1, .int l1), (2, .int l2)] [] m Q
  refine y_headS (l2 := [(0, .ref 42), (1, .int l1), (2, .int l2), (3, .int (0 : Int32)), (4, .int l1)]) [2, 3, 4, 1, 0] [0, 1, 2, 3, 4] [4, 3, 0, 1, 2] rfl rfl (by decide) rfl (by decide) ?_
  exact H
set_option maxRecDepth 20000 in
/-- CodeMaker.Writer.group from 5 on -/
theorem w214_5 (xs : List Int32) (d : Nat) (l1 : Int32) (l2 : Int32) (l3 : Int32) (l4 : Int32) (m : yM) (Q : Option Value → yM → Prop) (H : (((m.1 42 5) ≤ l4 → yP (xg xs) (d + 1) 214 119 [(0, .ref 42), (1, .int l1), (2, .int l2), (3, .int l3)] [] m Q) ∧ (¬ (m.1 42 5) ≤ l4 → (yC (xg xs) d 212 [.ref 42, .int l4, .int l2] m (fun v1 m1 => ∃ u1, v1 = some (Value.int u1) ∧ ((¬ u1 = l1 → yP (xg xs) (d + 1) 214 119 [(0, .ref 42), (1, .int l1), (2, .int l2), (3, .int l3)] [] m1 Q) ∧ (u1 = l1 → (yC (xg xs) d 213 [.ref 42, .int l4, .int l2] m1 (fun v2 m2 => ∃ u2, v2 = some (Value.int u2) ∧ (x_in u2 16401 = true ∧ (((m2.1 3 u2.toNatClampNeg) = (27 : Int32) → yP (xg xs) (d + 1) 214 113 [(0, .ref 42), (1, .int l1), (2, .int l2), (3, .int l3), (4, .int l4)] [] m2 Q) ∧ (¬ (m2.1 3 u2.toNatClampNeg) = (27 : Int32) → ((¬ l2 = (1 : Int32) → (yC (xg xs) d 215 [.ref 42, .int l4, .int (l2 - (1 : Int32))] m2 (fun v3 m3 => ∃ u3, v3 = some (Value.int u3) ∧ (yC (xg xs) d 193 [.ref 42, .int (1 : Int32), .int u3] m3 (fun v4 m4 => v4 = none ∧ yP (xg xs) (d + 1) 214 77 [(0, .ref 42), (1, .int l1), (2, .int l2), (3, .int l3), (4, .int l4), (5, .int u2)] [] m4 Q))))) ∧ (l2 = (1 : Int32) → (yC (xg xs) d 193 [.ref 42, .int (0 : Int32), .int (1 : Int32)] m2 (fun v5 m5 => v5 = none ∧ yP (xg xs) (d + 1) 214 77 [(0, .ref 42), (1, .int l1), (2, .int l2), (3, .int l3), (4, .int l4), (5, .int u2)] [] m5 Q)))))))))))))))) : yP (xg xs) (d + 1) 214 5 [(0, .ref 42), (1, .int l1), (2, .int l2), (3, .int l3), (4, .int l4)] [] m Q := by
  refine y_st rfl rfl rfl rfl rfl (fun _ _ => rfl) ?_
  refine y_st rfl rfl rfl rfl rfl (fun _ _ => rfl) ?_
  refine y_gf rfl rfl rfl rfl rfl ?_
  show yP (xg xs) (d + 1) 214 11 [(0, .ref 42), (1, .int l1), (2, .int l2), (3, .int l3), (4, .int l4)] [.int (m.1 42 5), .int l4] m Q
  refine y_ige (t := 119) rfl rfl rfl (fun h => ?_) (fun h => ?_)
  · replace H := H.1 h; clear h
    show yP (xg xs) (d + 1) 214 119 [(0, .ref 42), (1, .int l1), (2, .int l2), (3, .int l3), (4, .int l4)] [] m Q
    refine y_headS (l2 := [(0, .ref 42), (1, .int l1), (2, .int l2), (3, .int l3)]) [0, 1, 2, 3] [0, 1, 2, 3] [0, 1, 2, 3, 4] rfl rfl (by decide) rfl (by decide) ?_
    exact H
  · replace H := H.2 h; clear h
    refine y_st rfl rfl rfl rfl rfl (fun _ _ => rfl) ?_
    refine y_st rfl rfl rfl rfl rfl (fun _ _ => rfl) ?_
    refine y_st rfl rfl rfl rfl rfl (fun _ _ => rfl) ?_
    show yP (xg xs) (d + 1) 214 18 [(0, .ref 42), (1, .int l1), (2, .int l2), (3, .int l3), (4, .int l4)] [.int l2, .int l4, .ref 42] m Q
    refine y_call rfl rfl rfl rfl rfl (Nat.le_of_ble_eq_true rfl) (Nat.le_of_ble_eq_true rfl) rfl (by decide) H (fun v1 m1 H => ?_)
    obtain ⟨u1, rfl, H⟩ := H
    refine y_st rfl rfl rfl rfl rfl (fun _ _ => rfl) ?_
    show yP (xg xs) (d + 1) 214 22 [(0, .ref 42), (1, .int l1), (2, .int l2), (3, .int l3), (4, .int l4)] [.int l1, .int u1] m1 Q
    refine y_ine (t := 119) rfl rfl rfl (fun h => ?_) (fun h => ?_)
    · replace H := H.1 h; clear h
      show yP (xg xs) (d + 1) 214 119 [(0, .ref 42), (1, .int l1), (2, .int l2), (3, .int l3), (4, .int l4)] [] m1 Q
      refine y_headS (l2 := [(0, .ref 42), (1, .int l1), (2, .int l2), (3, .int l3)]) [0, 1, 2, 3] [0, 1, 2, 3] [0, 1, 2, 3, 4] rfl rfl (by decide) rfl (by decide) ?_
      exact H
    · replace H := H.2 h; clear h
      refine y_st rfl rfl rfl rfl rfl (fun _ _ => rfl) ?_
      refine y_st rfl rfl rfl rfl rfl (fun _ _ => rfl) ?_
      refine y_st rfl rfl rfl rfl rfl (fun _ _ => rfl) ?_
      show yP (xg xs) (d + 1) 214 29 [(0, .ref 42), (1, .int l1), (2, .int l2), (3, .int l3), (4, .int l4)] [.int l2, .int l4, .ref 42] m1 Q
      refine y_call rfl rfl rfl rfl rfl (Nat.le_of_ble_eq_true rfl) (Nat.le_of_ble_eq_true rfl) rfl (by decide) H (fun v2 m2 H => ?_)
      obtain ⟨u2, rfl, H⟩ := H
      refine y_st rfl rfl rfl rfl rfl (fun _ _ => rfl) ?_
      refine y_st rfl rfl rfl rfl rfl (fun _ _ => rfl) ?_
      refine y_gf rfl rfl rfl rfl rfl ?_
      refine y_gf rfl rfl rfl rfl rfl ?_
      refine y_st rfl rfl rfl rfl rfl (fun _ _ => rfl) ?_
      show yP (xg xs) (d + 1) 214 43 [(5, .int u2), (0, .ref 42), (1, .int l1), (2, .int l2), (3, .int l3), (4, .int l4)] [.int u2, .ref 3] m2 Q
      refine y_iald rfl rfl rfl (H.1) ?_
      replace H := H.2
      refine y_st rfl rfl rfl rfl rfl (fun _ _ => rfl) ?_
      show yP (xg xs) (d + 1) 214 46 [(5, .int u2), (0, .ref 42), (1, .int l1), (2, .int l2), (3, .int l3), (4, .int l4)] [.int (27 : Int32), .int (m2.1 3 u2.toNatClampNeg)] m2 Q
      refine y_ieq (t := 113) rfl rfl rfl (fun h => ?_) (fun h => ?_)
      · replace H := H.1 h; clear h
        show yP (xg xs) (d + 1) 214 113 [(5, .int u2), (0, .ref 42), (1, .int l1), (2, .int l2), (3, .int l3), (4, .int l4)] [] m2 Q
        refine y_headS (l2 := [(0, .ref 42), (1, .int l1), (2, .int l2), (3, .int l3), (4, .int l4)]) [1, 2, 3, 4, 5] [0, 1, 2, 3, 4] [5, 0, 1, 2, 3, 4] rfl rfl (by decide) rfl (by decide) ?_
        exact H
      · replace H := H.2 h; clear h
        refine y_st rfl rfl rfl rfl rfl (fun _ _ => rfl) ?_
        refine y_st rfl rfl rfl rfl rfl (fun _ _ => rfl) ?_
        show yP (xg xs) (d + 1) 214 51 [(5, .int u2), (0, .ref 42), (1, .int l1), (2, .int l2), (3, .int l3), (4, .int l4)] [.int (1 : Int32), .int l2] m2 Q
        refine y_ine (t := 63) rfl rfl rfl (fun h => ?_) (fun h => ?_)
        · replace H := H.1 h; clear h
          refine y_st rfl rfl rfl rfl rfl (fun _ _ => rfl) ?_
          refine y_st rfl rfl rfl rfl rfl (fun _ _ => rfl) ?_
          refine y_st rfl rfl rfl rfl rfl (fun _ _ => rfl) ?_
          refine y_st rfl rfl rfl rfl rfl (fun _ _ => rfl) ?_
          refine y_st rfl rfl rfl rfl rfl (fun _ _ => rfl) ?_
          refine y_st rfl rfl rfl rfl rfl (fun _ _ => rfl) ?_
          refine y_st rfl rfl rfl rfl rfl (fun _ _ => rfl) ?_
          show yP (xg xs) (d + 1) 214 71 [(5, .int u2), (0, .ref 42), (1, .int l1), (2, .int l2), (3, .int l3), (4, .int l4)] [.int (l2 - (1 : Int32)), .int l4, .ref 42, .int (1 : Int32), .ref 42] m2 Q
          refine y_call rfl rfl rfl rfl rfl (Nat.le_of_ble_eq_true rfl) (Nat.le_of_ble_eq_true rfl) rfl (by decide) H (fun v3 m3 H => ?_)
          obtain ⟨u3, rfl, H⟩ := H
          show yP (xg xs) (d + 1) 214 74 [(5, .int u2), (0, .ref 42), (1, .int l1), (2, .int l2), (3, .int l3), (4, .int l4)] [.int u3, .int (1 : Int32), .ref 42] m3 Q
          refine y_call rfl rfl rfl rfl rfl (Nat.le_of_ble_eq_true rfl) (Nat.le_of_ble_eq_true rfl) rfl (by decide) H (fun v4 m4 H => ?_)
          obtain ⟨rfl, H⟩ := H
          show yP (xg xs) (d + 1) 214 77 [(5, .int u2), (0, .ref 42), (1, .int l1), (2, .int l2), (3, .int l3), (4, .int l4)] [] m4 Q
          refine y_headS (l2 := [(0, .ref 42), (1, .int l1), (2, .int l2), (3, .int l3), (4, .int l4), (5, .int u2)]) [1, 2, 3, 4, 5, 0] [0, 1, 2, 3, 4, 5] [5, 0, 1, 2, 3, 4] rfl rfl (by decide) rfl (by decide) ?_
          exact H
        · replace H := H.2 h; clear h
          refine y_st rfl rfl rfl rfl rfl (fun _ _ => rfl) ?_
          refine y_st rfl rfl rfl rfl rfl (fun _ _ => rfl) ?_
          refine y_st rfl rfl rfl rfl rfl (fun _ _ => rfl) ?_
          show yP (xg xs) (d + 1) 214 57 [(5, .int u2), (0, .ref 42), (1, .int l1), (2, .int l2), (3, .int l3), (4, .int l4)] [.int (1 : Int32), .int (0 : Int32), .ref 42] m2 Q
          refine y_call rfl rfl rfl rfl rfl (Nat.le_of_ble_eq_true rfl) (Nat.le_of_ble_eq_true rfl) rfl (by decide) H (fun v5 m5 H => ?_)
          obtain ⟨rfl, H⟩ := H
          refine y_st rfl rfl rfl rfl rfl (fun _ _ => rfl) ?_
          show yP (xg xs) (d + 1) 214 77 [(5, .int u2), (0, .ref 42), (1, .int l1), (2, .int l2), (3, .int l3), (4, .int l4)] [] m5 Q
          refine y_headS (l2 := [(0, .ref 42), (1, .int l1), (2, .int l2), (3, .int l3), (4, .int l4), (5, .int u2)]) [1, 2, 3, 4, 5, 0] [0, 1, 2, 3, 4, 5] [5, 0, 1, 2, 3, 4] rfl rfl (by decide) rfl (by decide) ?_
          exact H
set_option maxRecDepth 20000 in
/-- CodeMaker.Writer.group from 77 on -/
theorem w214_77 (xs : List Int32) (d : Nat) (l1 : Int32) (l2 : Int32) (l3 : Int32) (l4 : Int32) (l5 : Int32) (m : yM) (Q : Option Value → yM → Prop) (H : (x_in l5 16401 = true ∧ ((¬ (m.1 3 l5.toNatClampNeg) = (25 : Int32) → yP (xg xs) (d + 1) 214 98 [(0, .ref 42), (1, .int l1), (2, .int l2), (3, .int l3), (4, .int l4)] [] m Q) ∧ ((m.1 3 l5.toNatClampNeg) = (25 : Int32) → (yC (xg xs) d 216 [.ref 42, .int l5] m (fun v1 m1 => v1 = none ∧ yP (xg xs) (d + 1) 214 98 [(0, .ref 42), (1, .int l1), (2, .int l2), (3, .int l3), (4, .int l4)] [] m1 Q)))))) : yP (xg xs) (d + 1) 214 77 [(0, .ref 42), (1, .int l1), (2, .int l2), (3, .int l3), (4, .int l4), (5, .int l5)] [] m Q := by
  refine y_st rfl rfl rfl rfl rfl (fun _ _ => rfl) ?_
  refine y_gf rfl rfl rfl rfl rfl ?_
  refine y_gf rfl rfl rfl rfl rfl ?_
  refine y_st rfl rfl rfl rfl rfl (fun _ _ => rfl) ?_
  show yP (xg xs) (d + 1) 214 86 [(0, .ref 42), (1, .int l1), (2, .int l2), (3, .int l3), (4, .int l4), (5, .int l5)] [.int l5, .ref 3] m Q
  refine y_iald rfl rfl rfl (H.1) ?_
  replace H := H.2
  refine y_st rfl rfl rfl rfl rfl (fun _ _ => rfl) ?_
  show yP (xg xs) (d + 1) 214 89 [(0, .ref 42), (1, .int l1), (2, .int l2), (3, .int l3), (4, .int l4), (5, .int l5)] [.int (25 : Int32), .int (m.1 3 l5.toNatClampNeg)] m Q
  refine y_ine (t := 98) rfl rfl rfl (fun h => ?_) (fun h => ?_)
  · replace H := H.1 h; clear h
    show yP (xg xs) (d + 1) 214 98 [(0, .ref 42), (1, .int l1), (2, .int l2), (3, .int l3), (4, .int l4), (5, .int l5)] [] m Q
    refine y_headS (l2 := [(0, .ref 42), (1, .int l1), (2, .int l2), (3, .int l3), (4, .int l4)]) [0, 1, 2, 3, 4] [0, 1, 2, 3, 4] [0, 1, 2, 3, 4, 5] rfl rfl (by decide) rfl (by decide) ?_
    exact H
  · replace H := H.2 h; clear h
    refine y_st rfl rfl rfl rfl rfl (fun _ _ => rfl) ?_
    refine y_st rfl rfl rfl rfl rfl (fun _ _ => rfl) ?_
    show yP (xg xs) (d + 1) 214 95 [(0, .ref 42), (1, .int l1), (2, .int l2), (3, .int l3), (4, .int l4), (5, .int l5)] [.int l5, .ref 42] m Q
    refine y_call rfl rfl rfl rfl rfl (Nat.le_of_ble_eq_true rfl) (Nat.le_of_ble_eq_true rfl) rfl (by decide) H (fun v1 m1 H => ?_)
    obtain ⟨rfl, H⟩ := H
    show yP (xg xs) (d + 1) 214 98 [(0, .ref 42), (1, .int l1), (2, .int l2), (3, .int l3), (4, .int l4), (5, .int l5)] [] m1 Q
    refine y_headS (l2 := [(0, .ref 42), (1, .int l1), (2, .int l2), (3, .int l3), (4, .int l4)]) [0, 1, 2, 3, 4] [0, 1, 2, 3, 4] [0, 1, 2, 3, 4, 5] rfl rfl (by decide) rfl (by decide) ?_
    exact H
set_option maxRecDepth 20000 in
/-- CodeMaker.Writer.group from 98 on -/
theorem w214_98 (xs : List Int32) (d : Nat) (l1 : Int32) (l2 : Int32) (l3 : Int32) (l4 : Int32) (m : yM) (Q : Option Value → yM → Prop) (H : ((l3 ≤ 0 → yP (xg xs) (d + 1) 214 110 [(0, .ref 42), (1, .int l1), (2, .int l2), (3, .int l3), (4, .int l4)] [] m Q) ∧ (¬ l3 ≤ 0 → (yC (xg xs) d 193 [.ref 42, .int (7 : Int32), .int (11 : Int32)] m (fun v1 m1 => v1 = none ∧ yP (xg xs) (d + 1) 214 110 [(0, .ref 42), (1, .int l1), (2, .int l2), (3, .int l3), (4, .int l4)] [] m1 Q))))) : yP (xg xs) (d + 1) 214 98 [(0, .ref 42), (1, .int l1), (2, .int l2), (3, .int l3), (4, .int l4)] [] m Q := by
  refine y_st rfl rfl rfl rfl rfl (fun _ _ => rfl) ?_
  show yP (xg xs) (d + 1) 214 99 [(0, .ref 42), (1, .int l1), (2, .int l2), (3, .int l3), (4, .int l4)] [.int l3] m Q
  refine y_zle (t := 110) rfl rfl rfl (fun h => ?_) (fun h => ?_)
  · replace H := H.1 h; clear h
    show yP (xg xs) (d + 1) 214 110 [(0, .ref 42), (1, .int l1), (2, .int l2), (3, .int l3), (4, .int l4)] [] m Q
    exact H
  · replace H := H.2 h; clear h
    refine y_st rfl rfl rfl rfl rfl (fun _ _ => rfl) ?_
    refine y_st rfl rfl rfl rfl rfl (fun _ _ => rfl) ?_
    refine y_st rfl rfl rfl rfl rfl (fun _ _ => rfl) ?_
    show yP (xg xs) (d + 1) 214 107 [(0, .ref 42), (1, .int l1), (2, .int l2), (3, .int l3), (4, .int l4)] [.int (11 : Int32), .int (7 : Int32), .ref 42] m Q
    refine y_call rfl rfl rfl rfl rfl (Nat.le_of_ble_eq_true rfl) (Nat.le_of_ble_eq_true rfl) rfl (by decide) H (fun v1 m1 H => ?_)
    obtain ⟨rfl, H⟩ := H
    show yP (xg xs) (d + 1) 214 110 [(0, .ref 42), (1, .int l1), (2, .int l2), (3, .int l3), (4, .int l4)] [] m1 Q
    exact H
set_option maxRecDepth 20000 in
/-- CodeMaker.Writer.group from 110 on -/
theorem w214_110 (xs : List Int32) (d : Nat) (l1 : Int32) (l2 : Int32) (l3 : Int32) (l4 : Int32) (m : yM) (Q : Option Value → yM → Prop) (H : yP (xg xs) (d + 1) 214 113 [(0, .ref 42), (1, .int l1), (2, .int l2), (3, .int (l3 + (1 : Int32))), (4, .int l4)] [] m Q) : yP (xg xs) (d + 1) 214 110 [(0, .ref 42), (1, .int l1), (2, .int l2), (3, .int l3), (4, .int l4)] [] m Q := by
  refine y_st rfl rfl rfl rfl rfl (fun _ _ => rfl) ?_
  show yP (xg xs) (d + 1) 214 113 [(3, .int (l3 + (1 : Int32))), (0, .ref 42), (1, .int l1), (2, .int l2), (4, .int l4)] [] m Q
  refine y_headS (l2 := [(0, .ref 42), (1, .int l1), (2, .int l2), (3, .int (l3 + (1 : Int32))), (4, .int l4)]) [1, 2, 3, 0, 4] [0, 1, 2, 3, 4] [3, 0, 1, 2, 4] rfl rfl (by decide) rfl (by decide) ?_
  exact H
set_option maxRecDepth 20000 in
/-- CodeMaker.Writer.group from 113 on -/
theorem w214_113 (xs : List Int32) (d : Nat) (l1 : Int32) (l2 : Int32) (l3 : Int32) (l4 : Int32) (m : yM) (Q : Option Value → yM → Prop) (H : yP (xg xs) (d + 1) 214 5 [(0, .ref 42), (1, .int l1), (2, .int l2), (3, .int l3), (4, .int (l4 + (1 : Int32)))] [] m Q) : yP (xg xs) (d + 1) 214 113 [(0, .ref 42), (1, .int l1), (2, .int l2), (3, .int l3), (4, .int l4)] [] m Q := by
  refine y_st rfl rfl rfl rfl rfl (fun _ _ => rfl) ?_
  refine y_st rfl rfl rfl rfl rfl (fun _ _ => rfl) ?_
  show yP (xg xs) (d + 1) 214 5 [(4, .int (l4 + (1 : Int32))), (0, .ref 42), (1, .int l1), (2, .int l2), (3, .int l3)] [] m Q
  refine y_headS (l2 := [(0, .ref 42), (1, .int l1), (2, .int l2), (3, .int l3), (4, .int (l4 + (1 : Int32)))]) [1, 2, 3, 4, 0] [0, 1, 2, 3, 4] [4, 0, 1, 2, 3] rfl rfl (by decide) rfl (by decide) ?_
  exact H
set_option maxRecDepth 20000 in
/-- CodeMaker.Writer.group from 119 on -/
theorem w214_119 (xs : List Int32) (d : Nat) (l1 : Int32) (l2 : Int32) (l3 : Int32) (m : yM) (Q : Option Value → yM → Prop) (H : ((¬ l3 = 0 → yP (xg xs) (d + 1) 214 129 [(0, .ref 42), (1, .int l1), (2, .int l2)] [] m Q) ∧ (l3 = 0 → (yC (xg xs) d 193 [.ref 42, .int (0 : Int32), .int (0 : Int32)] m (fun v1 m1 => v1 = none ∧ yP (xg xs) (d + 1) 214 129 [(0, .ref 42), (1, .int l1), (2, .int l2)] [] m1 Q))))) : yP (xg xs) (d + 1) 214 119 [(0, .ref 42), (1, .int l1), (2, .int l2), (3, .int l3)] [] m Q := by
  refine y_st rfl rfl rfl rfl rfl (fun _ _ => rfl) ?_
  show yP (xg xs) (d + 1) 214 120 [(0, .ref 42), (1, .int l1), (2, .int l2), (3, .int l3)] [.int l3] m Q
  refine y_zne (t := 129) rfl rfl rfl (fun h => ?_) (fun h => ?_)
  · replace H := H.1 h; clear h
    show yP (xg xs) (d + 1) 214 129 [(0, .ref 42), (1, .int l1), (2, .int l2), (3, .int l3)] [] m Q
    refine y_headS (l2 := [(0, .ref 42), (1, .int l1), (2, .int l2)]) [0, 1, 2] [0, 1, 2] [0, 1, 2, 3] rfl rfl (by decide) rfl (by decide) ?_
    exact H
  · replace H := H.2 h; clear h
    refine y_st rfl rfl rfl rfl rfl (fun _ _ => rfl) ?_
    refine y_st rfl rfl rfl rfl rfl (fun _ _ => rfl) ?_
    refine y_st rfl rfl rfl rfl rfl (fun _ _ => rfl) ?_
    show yP (xg xs) (d + 1) 214 126 [(0, .ref 42), (1, .int l1), (2, .int l2), (3, .int l3)] [.int (0 : Int32), .int (0 : Int32), .ref 42] m Q
    refine y_call rfl rfl rfl rfl rfl (Nat.le_of_ble_eq_true rfl) (Nat.le_of_ble_eq_true rfl) rfl (by decide) H (fun v1 m1 H => ?_)
    obtain ⟨rfl, H⟩ := H
    show yP (xg xs) (d + 1) 214 129 [(0, .ref 42), (1, .int l1), (2, .int l2), (3, .int l3)] [] m1 Q
    refine y_headS (l2 := [(0, .ref 42), (1, .int l1), (2, .int l2)]) [0, 1, 2] [0, 1, 2] [0, 1, 2, 3] rfl rfl (by decide) rfl (by decide) ?_
    exact H
set_option maxRecDepth 20000 in
/-- CodeMaker.Writer.group from 129 on -/
theorem w214_129 (xs : List Int32) (d : Nat) (l1 : Int32) (l2 : Int32) (m : yM) (Q : Option Value → yM → Prop) (H : (yC (xg xs) d 215 [.ref 42, .int l1, .int l2] m (fun v1 m1 => ∃ u1, v1 = some (Value.int u1) ∧ (yC (xg xs) d 193 [.ref 42, .int (2 : Int32), .int u1] m1 (fun v2 m2 => v2 = none ∧ Q none m2))))) : yP (xg xs) (d + 1) 214 129 [(0, .ref 42), (1, .int l1), (2, .int l2)] [] m Q := by
  refine y_st rfl rfl rfl rfl rfl (fun _ _ => rfl) ?_
  refine y_st rfl rfl rfl rfl rfl (fun _ _ => rfl) ?_
  refine y_st rfl rfl rfl rfl rfl (fun _ _ => rfl) ?_
  refine y_st rfl rfl rfl rfl rfl (fun _ _ => rfl) ?_
  refine y_st rfl rfl rfl rfl rfl (fun _ _ => rfl) ?_
  show yP (xg xs) (d + 1) 214 134 [(0, .ref 42), (1, .int l1), (2, .int l2)] [.int l2, .int l1, .ref 42, .int (2 : Int32), .ref 42] m Q
  refine y_call rfl rfl rfl rfl rfl (Nat.le_of_ble_eq_true rfl) (Nat.le_of_ble_eq_true rfl) rfl (by decide) H (fun v1 m1 H => ?_)
  obtain ⟨u1, rfl, H⟩ := H
  show yP (xg xs) (d + 1) 214 137 [(0, .ref 42), (1, .int l1), (2, .int l2)] [.int u1, .int (2 : Int32), .ref 42] m1 Q
  refine y_call rfl rfl rfl rfl rfl (Nat.le_of_ble_eq_true rfl) (Nat.le_of_ble_eq_true rfl) rfl (by decide) H (fun v2 m2 H => ?_)
  obtain ⟨rfl, H⟩ := H
  show yP (xg xs) (d + 1) 214 140 [(0, .ref 42), (1, .int l1), (2, .int l2)] [] m2 Q
  exact y_ret rfl rfl rfl rfl H
set_option maxRecDepth 20000 in
/-- CodeMaker.Writer.powerOf from 0 on -/
theorem w215_0 (xs : List Int32) (d : Nat) (l1 : Int32) (l2 : Int32) (m : yM) (Q : Option Value → yM → Prop) (H : (yC (xg xs) d 212 [.ref 42, .int l1, .int l2] m (fun v1 m1 => ∃ u1, v1 = some (Value.int u1) ∧ Q (some (.int (((m.1 42 8) + ((12 : Int32) * (l2 - (1 : Int32)))) + u1))) m1))) : yP (xg xs) (d + 1) 215 0 [(0, .ref 42), (1, .int l1), (2, .int l2)] [] m Q := by
  refine y_st rfl rfl rfl rfl rfl (fun _ _ => rfl) ?_
  refine y_gf rfl rfl rfl rfl rfl ?_
  refine y_st rfl rfl rfl rfl rfl (fun _ _ => rfl) ?_
  refine y_st rfl rfl rfl rfl rfl (fun _ _ => rfl) ?_
  refine y_st rfl rfl rfl rfl rfl (fun _ _ => rfl) ?_
  refine y_st rfl rfl rfl rfl rfl (fun _ _ => rfl) ?_
  refine y_st rfl rfl rfl rfl rfl (fun _ _ => rfl) ?_
  refine y_st rfl rfl rfl rfl rfl (fun _ _ => rfl) ?_
  refine y_st rfl rfl rfl rfl rfl (fun _ _ => rfl) ?_
  refine y_st rfl rfl rfl rfl rfl (fun _ _ => rfl) ?_
  refine y_st rfl rfl rfl rfl rfl (fun _ _ => rfl) ?_
  show yP (xg xs) (d + 1) 215 14 [(0, .ref 42), (1, .int l1), (2, .int l2)] [.int l2, .int l1, .ref 42, .int ((m.1 42 8) + ((12 : Int32) * (l2 - (1 : Int32))))] m Q
  refine y_call rfl rfl rfl rfl rfl (Nat.le_of_ble_eq_true rfl) (Nat.le_of_ble_eq_true rfl) rfl (by decide) H (fun v1 m1 H => ?_)
  obtain ⟨u1, rfl, H⟩ := H
  refine y_st rfl rfl rfl rfl rfl (fun _ _ => rfl) ?_
  show yP (xg xs) (d + 1) 215 18 [(0, .ref 42), (1, .int l1), (2, .int l2)] [.int (((m.1 42 8) + ((12 : Int32) * (l2 - (1 : Int32)))) + u1)] m1 Q
  exact y_iret rfl rfl rfl H
set_option maxRecDepth 20000 in
/-- CodeMaker.Writer.contact from 0 on -/
theorem w216_0 (xs : List Int32) (d : Nat) (l1 : Int32) (m : yM) (Q : Option Value → yM → Prop) (H : (x_in l1 16401 = true ∧ (yC (xg xs) d 198 [.ref 42, .int (l1 + (1 : Int32))] m (fun v1 m1 => ∃ u1, v1 = some (Value.int u1) ∧ (x_in l1 16401 = true ∧ ((¬ (m.1 5 l1.toNatClampNeg) = (3 : Int32) → yP (xg xs) (d + 1) 216 41 [(0, .ref 42), (2, .int (m.1 5 l1.toNatClampNeg)), (3, .int u1), (4, .int (m1.1 6 l1.toNatClampNeg))] [] m1 Q) ∧ ((m.1 5 l1.toNatClampNeg) = (3 : Int32) → (yC (xg xs) d 193 [.ref 42, .int (1 : Int32), .int (m1.1 6 l1.toNatClampNeg)] m1 (fun v2 m2 => v2 = none ∧ yP (xg xs) (d + 1) 216 41 [(0, .ref 42), (2, .int (m.1 5 l1.toNatClampNeg)), (3, .int u1), (4, .int (m1.1 6 l1.toNatClampNeg))] [] m2 Q))))))))) : yP (xg xs) (d + 1) 216 0 [(0, .ref 42), (1, .int l1)] [] m Q := by
  refine y_st rfl rfl rfl rfl rfl (fun _ _ => rfl) ?_
  refine y_gf rfl rfl rfl rfl rfl ?_
  refine y_gf rfl rfl rfl rfl rfl ?_
  refine y_st rfl rfl rfl rfl rfl (fun _ _ => rfl) ?_
  show yP (xg xs) (d + 1) 216 8 [(0, .ref 42), (1, .int l1)] [.int l1, .ref 5] m Q
  refine y_iald rfl rfl rfl (H.1) ?_
  replace H := H.2
  refine y_st rfl rfl rfl rfl rfl (fun _ _ => rfl) ?_
  refine y_st rfl rfl rfl rfl rfl (fun _ _ => rfl) ?_
  refine y_st rfl rfl rfl rfl rfl (fun _ _ => rfl) ?_
  refine y_st rfl rfl rfl rfl rfl (fun _ _ => rfl) ?_
  refine y_st rfl rfl rfl rfl rfl (fun _ _ => rfl) ?_
  show yP (xg xs) (d + 1) 216 14 [(2, .int (m.1 5 l1.toNatClampNeg)), (0, .ref 42), (1, .int l1)] [.int (l1 + (1 : Int32)), .ref 42] m Q
  refine y_call rfl rfl rfl rfl rfl (Nat.le_of_ble_eq_true rfl) (Nat.le_of_ble_eq_true rfl) rfl (by decide) H (fun v1 m1 H => ?_)
  obtain ⟨u1, rfl, H⟩ := H
  refine y_st rfl rfl rfl rfl rfl (fun _ _ => rfl) ?_
  refine y_st rfl rfl rfl rfl rfl (fun _ _ => rfl) ?_
  refine y_gf rfl rfl rfl rfl rfl ?_
  refine y_gf rfl rfl rfl rfl rfl ?_
  refine y_st rfl rfl rfl rfl rfl (fun _ _ => rfl) ?_
  show yP (xg xs) (d + 1) 216 26 [(3, .int u1), (2, .int (m.1 5 l1.toNatClampNeg)), (0, .ref 42), (1, .int l1)] [.int l1, .ref 6] m1 Q
  refine y_iald rfl rfl rfl (H.1) ?_
  replace H := H.2
  refine y_st rfl rfl rfl rfl rfl (fun _ _ => rfl) ?_
  refine y_st rfl rfl rfl rfl rfl (fun _ _ => rfl) ?_
  refine y_st rfl rfl rfl rfl rfl (fun _ _ => rfl) ?_
  show yP (xg xs) (d + 1) 216 31 [(4, .int (m1.1 6 l1.toNatClampNeg)), (3, .int u1), (2, .int (m.1 5 l1.toNatClampNeg)), (0, .ref 42), (1, .int l1)] [.int (3 : Int32), .int (m.1 5 l1.toNatClampNeg)] m1 Q
  refine y_ine (t := 41) rfl rfl rfl (fun h => ?_) (fun h => ?_)
  · replace H := H.1 h; clear h
    show yP (xg xs) (d + 1) 216 41 [(4, .int (m1.1 6 l1.toNatClampNeg)), (3, .int u1), (2, .int (m.1 5 l1.toNatClampNeg)), (0, .ref 42), (1, .int l1)] [] m1 Q
    refine y_headS (l2 := [(0, .ref 42), (2, .int (m.1 5 l1.toNatClampNeg)), (3, .int u1), (4, .int (m1.1 6 l1.toNatClampNeg))]) [3, 2, 1, 0] [0, 2, 3, 4] [4, 3, 2, 0, 1] rfl rfl (by decide) rfl (by decide) ?_
    exact H
  · replace H := H.2 h; clear h
    refine y_st rfl rfl rfl rfl rfl (fun _ _ => rfl) ?_
    refine y_st rfl rfl rfl rfl rfl (fun _ _ => rfl) ?_
    refine y_st rfl rfl rfl rfl rfl (fun _ _ => rfl) ?_
    show yP (xg xs) (d + 1) 216 38 [(4, .int (m1.1 6 l1.toNatClampNeg)), (3, .int u1), (2, .int (m.1 5 l1.toNatClampNeg)), (0, .ref 42), (1, .int l1)] [.int (m1.1 6 l1.toNatClampNeg), .int (1 : Int32), .ref 42] m1 Q
    refine y_call rfl rfl rfl rfl rfl (Nat.le_of_ble_eq_true rfl) (Nat.le_of_ble_eq_true rfl) rfl (by decide) H (fun v2 m2 H => ?_)
    obtain ⟨rfl, H⟩ := H
    show yP (xg xs) (d + 1) 216 41 [(4, .int (m1.1 6 l1.toNatClampNeg)), (3, .int u1), (2, .int (m.1 5 l1.toNatClampNeg)), (0, .ref 42), (1, .int l1)] [] m2 Q
    refine y_headS (l2 := [(0, .ref 42), (2, .int (m.1 5 l1.toNatClampNeg)), (3, .int u1), (4, .int (m1.1 6 l1.toNatClampNeg))]) [3, 2, 1, 0] [0, 2, 3, 4] [4, 3, 2, 0, 1] rfl rfl (by decide) rfl (by decide) ?_
    exact H
set_option maxRecDepth 20000 in
/-- CodeMaker.Writer.contact from 41 on -/
theorem w216_41 (xs : List Int32) (d : Nat) (l2 : Int32) (l3 : Int32) (l4 : Int32) (m : yM) (Q : Option Value → yM → Prop) (H : (yC (xg xs) d 193 [.ref 42, .int (1 : Int32), .int l3] m (fun v1 m1 => v1 = none ∧ ((¬ l2 = (2 : Int32) → yP (xg xs) (d + 1) 216 59 [(0, .ref 42), (2, .int l2), (3, .int l3), (4, .int l4)] [] m1 Q) ∧ (l2 = (2 : Int32) → (yC (xg xs) d 193 [.ref 42, .int (1 : Int32), .int l4] m1 (fun v2 m2 => v2 = none ∧ yP (xg xs) (d + 1) 216 59 [(0, .ref 42), (2, .int l2), (3, .int l3), (4, .int l4)] [] m2 Q))))))) : yP (xg xs) (d + 1) 216 41 [(0, .ref 42), (2, .int l2), (3, .int l3), (4, .int l4)] [] m Q := by
  refine y_st rfl rfl rfl rfl rfl (fun _ _ => rfl) ?_
  refine y_st rfl rfl rfl rfl rfl (fun _ _ => rfl) ?_
  refine y_st rfl rfl rfl rfl rfl (fun _ _ => rfl) ?_
  show yP (xg xs) (d + 1) 216 44 [(0, .ref 42), (2, .int l2), (3, .int l3), (4, .int l4)] [.int l3, .int (1 : Int32), .ref 42] m Q
  refine y_call rfl rfl rfl rfl rfl (Nat.le_of_ble_eq_true rfl) (Nat.le_of_ble_eq_true rfl) rfl (by decide) H (fun v1 m1 H => ?_)
  obtain ⟨rfl, H⟩ := H
  refine y_st rfl rfl rfl rfl rfl (fun _ _ => rfl) ?_
  refine y_st rfl rfl rfl rfl rfl (fun _ _ => rfl) ?_
  show yP (xg xs) (d + 1) 216 49 [(0, .ref 42), (2, .int l2), (3, .int l3), (4, .int l4)] [.int (2 : Int32), .int l2] m1 Q
  refine y_ine (t := 59) rfl rfl rfl (fun h => ?_) (fun h => ?_)
  · replace H := H.1 h; clear h
    show yP (xg xs) (d + 1) 216 59 [(0, .ref 42), (2, .int l2), (3, .int l3), (4, .int l4)] [] m1 Q
    exact H
  · replace H := H.2 h; clear h
    refine y_st rfl rfl rfl rfl rfl (fun _ _ => rfl) ?_
    refine y_st rfl rfl rfl rfl rfl (fun _ _ => rfl) ?_
    refine y_st rfl rfl rfl rfl rfl (fun _ _ => rfl) ?_
    show yP (xg xs) (d + 1) 216 56 [(0, .ref 42), (2, .int l2), (3, .int l3), (4, .int l4)] [.int l4, .int (1 : Int32), .ref 42] m1 Q
    refine y_call rfl rfl rfl rfl rfl (Nat.le_of_ble_eq_true rfl) (Nat.le_of_ble_eq_true rfl) rfl (by decide) H (fun v2 m2 H => ?_)
    obtain ⟨rfl, H⟩ := H
    show yP (xg xs) (d + 1) 216 59 [(0, .ref 42), (2, .int l2), (3, .int l3), (4, .int l4)] [] m2 Q
    exact H
set_option maxRecDepth 20000 in
/-- CodeMaker.Writer.contact from 59 on -/
theorem w216_59 (xs : List Int32) (d : Nat) (l2 : Int32) (l3 : Int32) (l4 : Int32) (m : yM) (Q : Option Value → yM → Prop) (H : ((l2 = 0 → yP (xg xs) (d + 1) 216 70 [(0, .ref 42), (2, .int l2), (3, .int l3), (4, .int l4)] [] m Q) ∧ (¬ l2 = 0 → (yC (xg xs) d 193 [.ref 42, .int (8 : Int32), .int (2 : Int32)] m (fun v1 m1 => v1 = none ∧ yP (xg xs) (d + 1) 216 70 [(0, .ref 42), (2, .int l2), (3, .int l3), (4, .int l4)] [] m1 Q))))) : yP (xg xs) (d + 1) 216 59 [(0, .ref 42), (2, .int l2), (3, .int l3), (4, .int l4)] [] m Q := by
  refine y_st rfl rfl rfl rfl rfl (fun _ _ => rfl) ?_
  show yP (xg xs) (d + 1) 216 60 [(0, .ref 42), (2, .int l2), (3, .int l3), (4, .int l4)] [.int l2] m Q
  refine y_zeq (t := 70) rfl rfl rfl (fun h => ?_) (fun h => ?_)
  · replace H := H.1 h; clear h
    show yP (xg xs) (d + 1) 216 70 [(0, .ref 42), (2, .int l2), (3, .int l3), (4, .int l4)] [] m Q
    exact H
  · replace H := H.2 h; clear h
    refine y_st rfl rfl rfl rfl rfl (fun _ _ => rfl) ?_
    refine y_st rfl rfl rfl rfl rfl (fun _ _ => rfl) ?_
    refine y_st rfl rfl rfl rfl rfl (fun _ _ => rfl) ?_
    show yP (xg xs) (d + 1) 216 67 [(0, .ref 42), (2, .int l2), (3, .int l3), (4, .int l4)] [.int (2 : Int32), .int (8 : Int32), .ref 42] m Q
    refine y_call rfl rfl rfl rfl rfl (Nat.le_of_ble_eq_true rfl) (Nat.le_of_ble_eq_true rfl) rfl (by decide) H (fun v1 m1 H => ?_)
    obtain ⟨rfl, H⟩ := H
    show yP (xg xs) (d + 1) 216 70 [(0, .ref 42), (2, .int l2), (3, .int l3), (4, .int l4)] [] m1 Q
    exact H
set_option maxRecDepth 20000 in
/-- CodeMaker.Writer.contact from 70 on -/
theorem w216_70 (xs : List Int32) (d : Nat) (l2 : Int32) (l3 : Int32) (l4 : Int32) (m : yM) (Q : Option Value → yM → Prop) (H : (yC (xg xs) d 193 [.ref 42, .int (7 : Int32), .int (10 : Int32)] m (fun v1 m1 => v1 = none ∧ ((l2 < (2 : Int32) → Q none m1) ∧ (¬ l2 < (2 : Int32) → (yC (xg xs) d 193 [.ref 42, .int (7 : Int32), .int (10 : Int32)] m1 (fun v2 m2 => v2 = none ∧ (yC (xg xs) d 193 [.ref 42, .int (1 : Int32), .int l3] m2 (fun v3 m3 => v3 = none ∧ (yC (xg xs) d 193 [.ref 42, .int (2 : Int32), .int l4] m3 (fun v4 m4 => v4 = none ∧ Q none m4))))))))))) : yP (xg xs) (d + 1) 216 70 [(0, .ref 42), (2, .int l2), (3, .int l3), (4, .int l4)] [] m Q := by
  refine y_st rfl rfl rfl rfl rfl (fun _ _ => rfl) ?_
  refine y_st rfl rfl rfl rfl rfl (fun _ _ => rfl) ?_
  refine y_st rfl rfl rfl rfl rfl (fun _ _ => rfl) ?_
  show yP (xg xs) (d + 1) 216 75 [(0, .ref 42), (2, .int l2), (3, .int l3), (4, .int l4)] [.int (10 : Int32), .int (7 : Int32), .ref 42] m Q
  refine y_call rfl rfl rfl rfl rfl (Nat.le_of_ble_eq_true rfl) (Nat.le_of_ble_eq_true rfl) rfl (by decide) H (fun v1 m1 H => ?_)
  obtain ⟨rfl, H⟩ := H
  refine y_st rfl rfl rfl rfl rfl (fun _ _ => rfl) ?_
  refine y_st rfl rfl rfl rfl rfl (fun _ _ => rfl) ?_
  show yP (xg xs) (d + 1) 216 80 [(0, .ref 42), (2, .int l2), (3, .int l3), (4, .int l4)] [.int (2 : Int32), .int l2] m1 Q
  refine y_ilt (t := 104) rfl rfl rfl (fun h => ?_) (fun h => ?_)
  · replace H := H.1 h; clear h
    show yP (xg xs) (d + 1) 216 104 [(0, .ref 42), (2, .int l2), (3, .int l3), (4, .int l4)] [] m1 Q
    exact y_ret rfl rfl rfl rfl H
  · replace H := H.2 h; clear h
    refine y_st rfl rfl rfl rfl rfl (fun _ _ => rfl) ?_
    refine y_st rfl rfl rfl rfl rfl (fun _ _ => rfl) ?_
    refine y_st rfl rfl rfl rfl rfl (fun _ _ => rfl) ?_
    show yP (xg xs) (d + 1) 216 88 [(0, .ref 42), (2, .int l2), (3, .int l3), (4, .int l4)] [.int (10 : Int32), .int (7 : Int32), .ref 42] m1 Q
    refine y_call rfl rfl rfl rfl rfl (Nat.le_of_ble_eq_true rfl) (Nat.le_of_ble_eq_true rfl) rfl (by decide) H (fun v2 m2 H => ?_)
    obtain ⟨rfl, H⟩ := H
    refine y_st rfl rfl rfl rfl rfl (fun _ _ => rfl) ?_
    refine y_st rfl rfl rfl rfl rfl (fun _ _ => rfl) ?_
    refine y_st rfl rfl rfl rfl rfl (fun _ _ => rfl) ?_
    show yP (xg xs) (d + 1) 216 94 [(0, .ref 42), (2, .int l2), (3, .int l3), (4, .int l4)] [.int l3, .int (1 : Int32), .ref 42] m2 Q
    refine y_call rfl rfl rfl rfl rfl (Nat.le_of_ble_eq_true rfl) (Nat.le_of_ble_eq_true rfl) rfl (by decide) H (fun v3 m3 H => ?_)
    obtain ⟨rfl, H⟩ := H
    refine y_st rfl rfl rfl rfl rfl (fun _ _ => rfl) ?_
    refine y_st rfl rfl rfl rfl rfl (fun _ _ => rfl) ?_
    refine y_st rfl rfl rfl rfl rfl (fun _ _ => rfl) ?_
    show yP (xg xs) (d + 1) 216 101 [(0, .ref 42), (2, .int l2), (3, .int l3), (4, .int l4)] [.int l4, .int (2 : Int32), .ref 42] m3 Q
    refine y_call rfl rfl rfl rfl rfl (Nat.le_of_ble_eq_true rfl) (Nat.le_of_ble_eq_true rfl) rfl (by decide) H (fun v4 m4 H => ?_)
    obtain ⟨rfl, H⟩ := H
    show yP (xg xs) (d + 1) 216 104 [(0, .ref 42), (2, .int l2), (3, .int l3), (4, .int l4)] [] m4 Q
    exact y_ret rfl rfl rfl rfl H
set_option maxRecDepth 20000 in
/-- CodeMaker.Writer.coil from 0 on -/
theorem w217_0 (xs : List Int32) (d : Nat) (l1 : Int32) (l2 : Int32) (m : yM) (Q : Option Value → yM → Prop) (H : (x_in l1 16401 = true ∧ (yC (xg xs) d 198 [.ref 42, .int (l1 + (1 : Int32))] m (fun v1 m1 => ∃ u1, v1 = some (Value.int u1) ∧ (((m.1 5 l1.toNatClampNeg) < (2 : Int32) → yP (xg xs) (d + 1) 217 31 [(0, .ref 42), (2, .int l2), (3, .int (m.1 5 l1.toNatClampNeg)), (4, .int u1)] [] m1 Q) ∧ (¬ (m.1 5 l1.toNatClampNeg) < (2 : Int32) → (yC (xg xs) d 193 [.ref 42, .int (1 : Int32), .int u1] m1 (fun v2 m2 => v2 = none ∧ yP (xg xs) (d + 1) 217 31 [(0, .ref 42), (2, .int l2), (3, .int (m.1 5 l1.toNatClampNeg)), (4, .int u1)] [] m2 Q)))))))) : yP (xg xs) (d + 1) 217 0 [(0, .ref 42), (1, .int l1), (2, .int l2)] [] m Q := by
  refine y_st rfl rfl rfl rfl rfl (fun _ _ => rfl) ?_
  refine y_gf rfl rfl rfl rfl rfl ?_
  refine y_gf rfl rfl rfl rfl rfl ?_
  refine y_st rfl rfl rfl rfl rfl (fun _ _ => rfl) ?_
  show yP (xg xs) (d + 1) 217 8 [(0, .ref 42), (1, .int l1), (2, .int l2)] [.int l1, .ref 5] m Q
  refine y_iald rfl rfl rfl (H.1) ?_
  replace H := H.2
  refine y_st rfl rfl rfl rfl rfl (fun _ _ => rfl) ?_
  refine y_st rfl rfl rfl rfl rfl (fun _ _ => rfl) ?_
  refine y_st rfl rfl rfl rfl rfl (fun _ _ => rfl) ?_
  refine y_st rfl rfl rfl rfl rfl (fun _ _ => rfl) ?_
  refine y_st rfl rfl rfl rfl rfl (fun _ _ => rfl) ?_
  show yP (xg xs) (d + 1) 217 14 [(3, .int (m.1 5 l1.toNatClampNeg)), (0, .ref 42), (1, .int l1), (2, .int l2)] [.int (l1 + (1 : Int32)), .ref 42] m Q
  refine y_call rfl rfl rfl rfl rfl (Nat.le_of_ble_eq_true rfl) (Nat.le_of_ble_eq_true rfl) rfl (by decide) H (fun v1 m1 H => ?_)
  obtain ⟨u1, rfl, H⟩ := H
  refine y_st rfl rfl rfl rfl rfl (fun _ _ => rfl) ?_
  refine y_st rfl rfl rfl rfl rfl (fun _ _ => rfl) ?_
  refine y_st rfl rfl rfl rfl rfl (fun _ _ => rfl) ?_
  show yP (xg xs) (d + 1) 217 21 [(4, .int u1), (3, .int (m.1 5 l1.toNatClampNeg)), (0, .ref 42), (1, .int l1), (2, .int l2)] [.int (2 : Int32), .int (m.1 5 l1.toNatClampNeg)] m1 Q
  refine y_ilt (t := 31) rfl rfl rfl (fun h => ?_) (fun h => ?_)
  · replace H := H.1 h; clear h
    show yP (xg xs) (d + 1) 217 31 [(4, .int u1), (3, .int (m.1 5 l1.toNatClampNeg)), (0, .ref 42), (1, .int l1), (2, .int l2)] [] m1 Q
    refine y_headS (l2 := [(0, .ref 42), (2, .int l2), (3, .int (m.1 5 l1.toNatClampNeg)), (4, .int u1)]) [2, 4, 1, 0] [0, 2, 3, 4] [4, 3, 0, 1, 2] rfl rfl (by decide) rfl (by decide) ?_
    exact H
  · replace H := H.2 h; clear h
    refine y_st rfl rfl rfl rfl rfl (fun _ _ => rfl) ?_
    refine y_st rfl rfl rfl rfl rfl (fun _ _ => rfl) ?_
    refine y_st rfl rfl rfl rfl rfl (fun _ _ => rfl) ?_
    show yP (xg xs) (d + 1) 217 28 [(4, .int u1), (3, .int (m.1 5 l1.toNatClampNeg)), (0, .ref 42), (1, .int l1), (2, .int l2)] [.int u1, .int (1 : Int32), .ref 42] m1 Q
    refine y_call rfl rfl rfl rfl rfl (Nat.le_of_ble_eq_true rfl) (Nat.le_of_ble_eq_true rfl) rfl (by decide) H (fun v2 m2 H => ?_)
    obtain ⟨rfl, H⟩ := H
    show yP (xg xs) (d + 1) 217 31 [(4, .int u1), (3, .int (m.1 5 l1.toNatClampNeg)), (0, .ref 42), (1, .int l1), (2, .int l2)] [] m2 Q
    refine y_headS (l2 := [(0, .ref 42), (2, .int l2), (3, .int (m.1 5 l1.toNatClampNeg)), (4, .int u1)]) [2, 4, 1, 0] [0, 2, 3, 4] [4, 3, 0, 1, 2] rfl rfl (by decide) rfl (by decide) ?_
    exact H
set_option maxRecDepth 20000 in
/-- CodeMaker.Writer.coil from 31 on -/
theorem w217_31 (xs : List Int32) (d : Nat) (l2 : Int32) (l3 : Int32) (l4 : Int32) (m : yM) (Q : Option Value → yM → Prop) (H : ((¬ (m.1 42 6) = (1 : Int32) → (yC (xg xs) d 215 [.ref 42, .int l2, .int ((m.1 42 6) - (1 : Int32))] m (fun v1 m1 => ∃ u1, v1 = some (Value.int u1) ∧ (yC (xg xs) d 193 [.ref 42, .int (1 : Int32), .int u1] m1 (fun v2 m2 => v2 = none ∧ yP (xg xs) (d + 1) 217 64 [(0, .ref 42), (3, .int l3), (4, .int l4)] [] m2 Q))))) ∧ ((m.1 42 6) = (1 : Int32) → (yC (xg xs) d 193 [.ref 42, .int (0 : Int32), .int (1 : Int32)] m (fun v3 m3 => v3 = none ∧ yP (xg xs) (d + 1) 217 64 [(0, .ref 42), (3, .int l3), (4, .int l4)] [] m3 Q))))) : yP (xg xs) (d + 1) 217 31 [(0, .ref 42), (2, .int l2), (3, .int l3), (4, .int l4)] [] m Q := by
  refine y_st rfl rfl rfl rfl rfl (fun _ _ => rfl) ?_
  refine y_gf rfl rfl rfl rfl rfl ?_
  refine y_st rfl rfl rfl rfl rfl (fun _ _ => rfl) ?_
  show yP (xg xs) (d + 1) 217 36 [(0, .ref 42), (2, .int l2), (3, .int l3), (4, .int l4)] [.int (1 : Int32), .int (m.1 42 6)] m Q
  refine y_ine (t := 48) rfl rfl rfl (fun h => ?_) (fun h => ?_)
  · replace H := H.1 h; clear h
    refine y_st rfl rfl rfl rfl rfl (fun _ _ => rfl) ?_
    refine y_st rfl rfl rfl rfl rfl (fun _ _ => rfl) ?_
    refine y_st rfl rfl rfl rfl rfl (fun _ _ => rfl) ?_
    refine y_st rfl rfl rfl rfl rfl (fun _ _ => rfl) ?_
    refine y_st rfl rfl rfl rfl rfl (fun _ _ => rfl) ?_
    refine y_gf rfl rfl rfl rfl rfl ?_
    refine y_st rfl rfl rfl rfl rfl (fun _ _ => rfl) ?_
    refine y_st rfl rfl rfl rfl rfl (fun _ _ => rfl) ?_
    show yP (xg xs) (d + 1) 217 58 [(0, .ref 42), (2, .int l2), (3, .int l3), (4, .int l4)] [.int ((m.1 42 6) - (1 : Int32)), .int l2, .ref 42, .int (1 : Int32), .ref 42] m Q
    refine y_call rfl rfl rfl rfl rfl (Nat.le_of_ble_eq_true rfl) (Nat.le_of_ble_eq_true rfl) rfl (by decide) H (fun v1 m1 H => ?_)
    obtain ⟨u1, rfl, H⟩ := H
    show yP (xg xs) (d + 1) 217 61 [(0, .ref 42), (2, .int l2), (3, .int l3), (4, .int l4)] [.int u1, .int (1 : Int32), .ref 42] m1 Q
    refine y_call rfl rfl rfl rfl rfl (Nat.le_of_ble_eq_true rfl) (Nat.le_of_ble_eq_true rfl) rfl (by decide) H (fun v2 m2 H => ?_)
    obtain ⟨rfl, H⟩ := H
    show yP (xg xs) (d + 1) 217 64 [(0, .ref 42), (2, .int l2), (3, .int l3), (4, .int l4)] [] m2 Q
    refine y_headS (l2 := [(0, .ref 42), (3, .int l3), (4, .int l4)]) [0, 2, 3] [0, 3, 4] [0, 2, 3, 4] rfl rfl (by decide) rfl (by decide) ?_
    exact H
  · replace H := H.2 h; clear h
    refine y_st rfl rfl rfl rfl rfl (fun _ _ => rfl) ?_
    refine y_st rfl rfl rfl rfl rfl (fun _ _ => rfl) ?_
    refine y_st rfl rfl rfl rfl rfl (fun _ _ => rfl) ?_
    show yP (xg xs) (d + 1) 217 42 [(0, .ref 42), (2, .int l2), (3, .int l3), (4, .int l4)] [.int (1 : Int32), .int (0 : Int32), .ref 42] m Q
    refine y_call rfl rfl rfl rfl rfl (Nat.le_of_ble_eq_true rfl) (Nat.le_of_ble_eq_true rfl) rfl (by decide) H (fun v3 m3 H => ?_)
    obtain ⟨rfl, H⟩ := H
    refine y_st rfl rfl rfl rfl rfl (fun _ _ => rfl) ?_
    show yP (xg xs) (d + 1) 217 64 [(0, .ref 42), (2, .int l2), (3, .int l3), (4, .int l4)] [] m3 Q
    refine y_headS (l2 := [(0, .ref 42), (3, .int l3), (4, .int l4)]) [0, 2, 3] [0, 3, 4] [0, 2, 3, 4] rfl rfl (by decide) rfl (by decide) ?_
    exact H
set_option maxRecDepth 20000 in
/-- CodeMaker.Writer.coil from 64 on -/
theorem w217_64 (xs : List Int32) (d : Nat) (l3 : Int32) (l4 : Int32) (m : yM) (Q : Option Value → yM → Prop) (H : ((l3 = (1 : Int32) → yP (xg xs) (d + 1) 217 74 [(0, .ref 42), (3, .int l3), (4, .int l4)] [] m Q) ∧ (¬ l3 = (1 : Int32) → ((¬ l3 = (3 : Int32) → yP (xg xs) (d + 1) 217 81 [(0, .ref 42), (3, .int l3), (4, .int l4)] [] m Q) ∧ (l3 = (3 : Int32) → yP (xg xs) (d + 1) 217 74 [(0, .ref 42), (3, .int l3), (4, .int l4)] [] m Q))))) : yP (xg xs) (d + 1) 217 64 [(0, .ref 42), (3, .int l3), (4, .int l4)] [] m Q := by
  refine y_st rfl rfl rfl rfl rfl (fun _ _ => rfl) ?_
  refine y_st rfl rfl rfl rfl rfl (fun _ _ => rfl) ?_
  show yP (xg xs) (d + 1) 217 66 [(0, .ref 42), (3, .int l3), (4, .int l4)] [.int (1 : Int32), .int l3] m Q
  refine y_ieq (t := 74) rfl rfl rfl (fun h => ?_) (fun h => ?_)
  · replace H := H.1 h; clear h
    show yP (xg xs) (d + 1) 217 74 [(0, .ref 42), (3, .int l3), (4, .int l4)] [] m Q
    exact H
  · replace H := H.2 h; clear h
    refine y_st rfl rfl rfl rfl rfl (fun _ _ => rfl) ?_
    refine y_st rfl rfl rfl rfl rfl (fun _ _ => rfl) ?_
    show yP (xg xs) (d + 1) 217 71 [(0, .ref 42), (3, .int l3), (4, .int l4)] [.int (3 : Int32), .int l3] m Q
    refine y_ine (t := 81) rfl rfl rfl (fun h => ?_) (fun h => ?_)
    · replace H := H.1 h; clear h
      show yP (xg xs) (d + 1) 217 81 [(0, .ref 42), (3, .int l3), (4, .int l4)] [] m Q
      exact H
    · replace H := H.2 h; clear h
      show yP (xg xs) (d + 1) 217 74 [(0, .ref 42), (3, .int l3), (4, .int l4)] [] m Q
      exact H
set_option maxRecDepth 20000 in
/-- CodeMaker.Writer.coil from 74 on -/
theorem w217_74 (xs : List Int32) (d : Nat) (l3 : Int32) (l4 : Int32) (m : yM) (Q : Option Value → yM → Prop) (H : (yC (xg xs) d 193 [.ref 42, .int (8 : Int32), .int (2 : Int32)] m (fun v1 m1 => v1 = none ∧ yP (xg xs) (d + 1) 217 81 [(0, .ref 42), (3, .int l3), (4, .int l4)] [] m1 Q))) : yP (xg xs) (d + 1) 217 74 [(0, .ref 42), (3, .int l3), (4, .int l4)] [] m Q := by
  refine y_st rfl rfl rfl rfl rfl (fun _ _ => rfl) ?_
  refine y_st rfl rfl rfl rfl rfl (fun _ _ => rfl) ?_
  refine y_st rfl rfl rfl rfl rfl (fun _ _ => rfl) ?_
  show yP (xg xs) (d + 1) 217 78 [(0, .ref 42), (3, .int l3), (4, .int l4)] [.int (2 : Int32), .int (8 : Int32), .ref 42] m Q
  refine y_call rfl rfl rfl rfl rfl (Nat.le_of_ble_eq_true rfl) (Nat.le_of_ble_eq_true rfl) rfl (by decide) H (fun v1 m1 H => ?_)
  obtain ⟨rfl, H⟩ := H
  show yP (xg xs) (d + 1) 217 81 [(0, .ref 42), (3, .int l3), (4, .int l4)] [] m1 Q
  exact H
set_option maxRecDepth 20000 in
/-- CodeMaker.Writer.coil from 81 on -/
theorem w217_81 (xs : List Int32) (d : Nat) (l3 : Int32) (l4 : Int32) (m : yM) (Q : Option Value → yM → Prop) (H : ((l3 < (2 : Int32) → yP (xg xs) (d + 1) 217 104 [(0, .ref 42), (4, .int l4)] [] m Q) ∧ (¬ l3 < (2 : Int32) → ((¬ l3 = (2 : Int32) → yP (xg xs) (d + 1) 217 101 [(0, .ref 42), (4, .int l4)] [.int (10 : Int32), .int (7 : Int32), .ref 42] m Q) ∧ (l3 = (2 : Int32) → yP (xg xs) (d + 1) 217 101 [(0, .ref 42), (4, .int l4)] [.int (11 : Int32), .int (7 : Int32), .ref 42] m Q))))) : yP (xg xs) (d + 1) 217 81 [(0, .ref 42), (3, .int l3), (4, .int l4)] [] m Q := by
  refine y_st rfl rfl rfl rfl rfl (fun _ _ => rfl) ?_
  refine y_st rfl rfl rfl rfl rfl (fun _ _ => rfl) ?_
  show yP (xg xs) (d + 1) 217 83 [(0, .ref 42), (3, .int l3), (4, .int l4)] [.int (2 : Int32), .int l3] m Q
  refine y_ilt (t := 104) rfl rfl rfl (fun h => ?_) (fun h => ?_)
  · replace H := H.1 h; clear h
    show yP (xg xs) (d + 1) 217 104 [(0, .ref 42), (3, .int l3), (4, .int l4)] [] m Q
    refine y_headS (l2 := [(0, .ref 42), (4, .int l4)]) [0, 2] [0, 4] [0, 3, 4] rfl rfl (by decide) rfl (by decide) ?_
    exact H
  · replace H := H.2 h; clear h
    refine y_st rfl rfl rfl rfl rfl (fun _ _ => rfl) ?_
    refine y_st rfl rfl rfl rfl rfl (fun _ _ => rfl) ?_
    refine y_st rfl rfl rfl rfl rfl (fun _ _ => rfl) ?_
    refine y_st rfl rfl rfl rfl rfl (fun _ _ => rfl) ?_
    show yP (xg xs) (d + 1) 217 91 [(0, .ref 42), (3, .int l3), (4, .int l4)] [.int (2 : Int32), .int l3, .int (7 : Int32), .ref 42] m Q
    refine y_ine (t := 99) rfl rfl rfl (fun h => ?_) (fun h => ?_)
    · replace H := H.1 h; clear h
      refine y_st rfl rfl rfl rfl rfl (fun _ _ => rfl) ?_
      show yP (xg xs) (d + 1) 217 101 [(0, .ref 42), (3, .int l3), (4, .int l4)] [.int (10 : Int32), .int (7 : Int32), .ref 42] m Q
      refine y_headS (l2 := [(0, .ref 42), (4, .int l4)]) [0, 2] [0, 4] [0, 3, 4] rfl rfl (by decide) rfl (by decide) ?_
      exact H
    · replace H := H.2 h; clear h
      refine y_st rfl rfl rfl rfl rfl (fun _ _ => rfl) ?_
      refine y_st rfl rfl rfl rfl rfl (fun _ _ => rfl) ?_
      show yP (xg xs) (d + 1) 217 101 [(0, .ref 42), (3, .int l3), (4, .int l4)] [.int (11 : Int32), .int (7 : Int32), .ref 42] m Q
      refine y_headS (l2 := [(0, .ref 42), (4, .int l4)]) [0, 2] [0, 4] [0, 3, 4] rfl rfl (by decide) rfl (by decide) ?_
      exact H
set_option maxRecDepth 20000 in
/-- CodeMaker.Writer.coil from 101 on -/
theorem w217_101 (xs : List Int32) (d : Nat) (l4 : Int32) (s1 : Int32) (s2 : Int32) (m : yM) (Q : Option Value → yM → Prop) (H : (yC (xg xs) d 193 [.ref 42, .int s1, .int s2] m (fun v1 m1 => v1 = none ∧ yP (xg xs) (d + 1) 217 104 [(0, .ref 42), (4, .int l4)] [] m1 Q))) : yP (xg xs) (d + 1) 217 101 [(0, .ref 42), (4, .int l4)] [.int s2, .int s1, .ref 42] m Q := by
  show yP (xg xs) (d + 1) 217 101 [(0, .ref 42), (4, .int l4)] [.int s2, .int s1, .ref 42] m Q
  refine y_call rfl rfl rfl rfl rfl (Nat.le_of_ble_eq_true rfl) (Nat.le_of_ble_eq_true rfl) rfl (by decide) H (fun v1 m1 H => ?_)
  obtain ⟨rfl, H⟩ := H
  show yP (xg xs) (d + 1) 217 104 [(0, .ref 42), (4, .int l4)] [] m1 Q
  exact H
set_option maxRecDepth 20000 in
/-- CodeMaker.Writer.coil from 104 on -/
theorem w217_104 (xs : List Int32) (d : Nat) (l4 : Int32) (m : yM) (Q : Option Value → yM → Prop) (H : (yC (xg xs) d 193 [.ref 42, .int (2 : Int32), .int l4] m (fun v1 m1 => v1 = none ∧ Q none m1))) : yP (xg xs) (d + 1) 217 104 [(0, .ref 42), (4, .int l4)] [] m Q := by
  refine y_st rfl rfl rfl rfl rfl (fun _ _ => rfl) ?_
  refine y_st rfl rfl rfl rfl rfl (fun _ _ => rfl) ?_
  refine y_st rfl rfl rfl rfl rfl (fun _ _ => rfl) ?_
  show yP (xg xs) (d + 1) 217 108 [(0, .ref 42), (4, .int l4)] [.int l4, .int (2 : Int32), .ref 42] m Q
  refine y_call rfl rfl rfl rfl rfl (Nat.le_of_ble_eq_true rfl) (Nat.le_of_ble_eq_true rfl) rfl (by decide) H (fun v1 m1 H => ?_)
  obtain ⟨rfl, H⟩ := H
  show yP (xg xs) (d + 1) 217 111 [(0, .ref 42), (4, .int l4)] [] m1 Q
  exact y_ret rfl rfl rfl rfl H
