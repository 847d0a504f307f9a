/-! WHAT EACH METHOD COMES TO, group a: laid by wip/gen/wpall.py -/
set_option maxRecDepth 20000 in
/-- CodeMaker.make from 0 on -/
theorem w18_0 (xs : List Int32) (d : Nat) (m : yM) (Q : Option Value → yM → Prop) (H : (yC (xg xs) d 19 [.ref 8, .ref 1, .int (m.1 0 9)] (y_si m 0 12 (0 : Int32)) (fun v1 m1 => v1 = none ∧ (yC (xg xs) d 71 [.ref 17] m1 (fun v2 m2 => ∃ u2, v2 = some (Value.int u2) ∧ ((¬ u2 = 0 → yP (xg xs) (d + 1) 18 71 [(0, .ref 0)] [] (y_si (y_si m2 0 10 u2) 0 11 (m2.1 17 0)) Q) ∧ (u2 = 0 → (yC (xg xs) d 110 [.ref 31] (y_si (y_si m2 0 10 u2) 0 11 (m2.1 17 0)) (fun v3 m3 => ∃ u3, v3 = some (Value.int u3) ∧ yP (xg xs) (d + 1) 18 71 [(0, .ref 0)] [] (y_si (y_si m3 0 10 u3) 0 11 (m3.1 31 0)) Q))))))))) : yP (xg xs) (d + 1) 18 0 [(0, .ref 0)] [] m Q := by
  refine y_st rfl rfl rfl rfl rfl (fun _ _ => rfl) ?_
  refine y_st rfl rfl rfl rfl rfl (fun _ _ => rfl) ?_
  refine y_pfi rfl rfl rfl rfl rfl (x_fit_z (by decide)) ?_
  show yP (xg xs) (d + 1) 18 5 [(0, .ref 0)] [] (y_si m 0 12 (0 : Int32)) Q
  refine y_st rfl rfl rfl rfl rfl (fun _ _ => rfl) ?_
  refine y_gf rfl rfl rfl rfl rfl ?_
  refine y_st rfl rfl rfl rfl rfl (fun _ _ => rfl) ?_
  refine y_gf rfl rfl rfl rfl rfl ?_
  refine y_st rfl rfl rfl rfl rfl (fun _ _ => rfl) ?_
  refine y_gf rfl rfl rfl rfl rfl ?_
  show yP (xg xs) (d + 1) 18 17 [(0, .ref 0)] [.int (m.1 0 9), .ref 1, .ref 8] (y_si m 0 12 (0 : Int32)) Q
  refine y_call rfl rfl rfl rfl rfl (Nat.le_of_ble_eq_true rfl) (Nat.le_of_ble_eq_true rfl) rfl (by decide) H (fun v1 m1 H => ?_)
  obtain ⟨rfl, H⟩ := H
  refine y_st rfl rfl rfl rfl rfl (fun _ _ => rfl) ?_
  refine y_st rfl rfl rfl rfl rfl (fun _ _ => rfl) ?_
  refine y_gf rfl rfl rfl rfl rfl ?_
  show yP (xg xs) (d + 1) 18 25 [(0, .ref 0)] [.ref 17, .ref 0] m1 Q
  refine y_call rfl rfl rfl rfl rfl (Nat.le_of_ble_eq_true rfl) (Nat.le_of_ble_eq_true rfl) rfl (by decide) H (fun v2 m2 H => ?_)
  obtain ⟨u2, rfl, H⟩ := H
  refine y_pfi rfl rfl rfl rfl rfl (x_fit_i _) ?_
  show yP (xg xs) (d + 1) 18 31 [(0, .ref 0)] [] (y_si m2 0 10 u2) Q
  refine y_st rfl rfl rfl rfl rfl (fun _ _ => rfl) ?_
  refine y_st rfl rfl rfl rfl rfl (fun _ _ => rfl) ?_
  refine y_gf rfl rfl rfl rfl rfl ?_
  refine y_gf rfl rfl rfl rfl rfl ?_
  refine y_pfi rfl rfl rfl rfl rfl (x_fit_i _) ?_
  show yP (xg xs) (d + 1) 18 42 [(0, .ref 0)] [] (y_si (y_si m2 0 10 u2) 0 11 (m2.1 17 0)) Q
  refine y_st rfl rfl rfl rfl rfl (fun _ _ => rfl) ?_
  refine y_gf rfl rfl rfl rfl rfl ?_
  show yP (xg xs) (d + 1) 18 46 [(0, .ref 0)] [.int u2] (y_si (y_si m2 0 10 u2) 0 11 (m2.1 17 0)) Q
  refine y_zne (t := 71) rfl rfl rfl (fun h => ?_) (fun h => ?_)
  · replace H := H.1 h; clear h
    show yP (xg xs) (d + 1) 18 71 [(0, .ref 0)] [] (y_si (y_si m2 0 10 u2) 0 11 (m2.1 17 0)) Q
    exact H
  · replace H := H.2 h; clear h
    refine y_st rfl rfl rfl rfl rfl (fun _ _ => rfl) ?_
    refine y_st rfl rfl rfl rfl rfl (fun _ _ => rfl) ?_
    refine y_gf rfl rfl rfl rfl rfl ?_
    show yP (xg xs) (d + 1) 18 54 [(0, .ref 0)] [.ref 31, .ref 0] (y_si (y_si m2 0 10 u2) 0 11 (m2.1 17 0)) Q
    refine y_call rfl rfl rfl rfl rfl (Nat.le_of_ble_eq_true rfl) (Nat.le_of_ble_eq_true rfl) rfl (by decide) H (fun v3 m3 H => ?_)
    obtain ⟨u3, rfl, H⟩ := H
    refine y_pfi rfl rfl rfl rfl rfl (x_fit_i _) ?_
    show yP (xg xs) (d + 1) 18 60 [(0, .ref 0)] [] (y_si m3 0 10 u3) Q
    refine y_st rfl rfl rfl rfl rfl (fun _ _ => rfl) ?_
    refine y_st rfl rfl rfl rfl rfl (fun _ _ => rfl) ?_
    refine y_gf rfl rfl rfl rfl rfl ?_
    refine y_gf rfl rfl rfl rfl rfl ?_
    refine y_pfi rfl rfl rfl rfl rfl (x_fit_i _) ?_
    show yP (xg xs) (d + 1) 18 71 [(0, .ref 0)] [] (y_si (y_si m3 0 10 u3) 0 11 (m3.1 31 0)) Q
    show yP (xg xs) (d + 1) 18 71 [(0, .ref 0)] [] (y_si (y_si m3 0 10 u3) 0 11 (m3.1 31 0)) Q
    exact H
set_option maxRecDepth 20000 in
/-- CodeMaker.make from 71 on -/
theorem w18_71 (xs : List Int32) (d : Nat) (m : yM) (Q : Option Value → yM → Prop) (H : ((¬ (m.1 0 10) = 0 → yP (xg xs) (d + 1) 18 86 [(0, .ref 0)] [] m Q) ∧ ((m.1 0 10) = 0 → (yC (xg xs) d 188 [.ref 0] m (fun v1 m1 => ∃ u1, v1 = some (Value.int u1) ∧ yP (xg xs) (d + 1) 18 86 [(0, .ref 0)] [] (y_si m1 0 10 u1) Q))))) : yP (xg xs) (d + 1) 18 71 [(0, .ref 0)] [] m Q := by
  refine y_st rfl rfl rfl rfl rfl (fun _ _ => rfl) ?_
  refine y_gf rfl rfl rfl rfl rfl ?_
  show yP (xg xs) (d + 1) 18 75 [(0, .ref 0)] [.int (m.1 0 10)] m Q
  refine y_zne (t := 86) rfl rfl rfl (fun h => ?_) (fun h => ?_)
  · replace H := H.1 h; clear h
    show yP (xg xs) (d + 1) 18 86 [(0, .ref 0)] [] m Q
    exact H
  · replace H := H.2 h; clear h
    refine y_st rfl rfl rfl rfl rfl (fun _ _ => rfl) ?_
    refine y_st rfl rfl rfl rfl rfl (fun _ _ => rfl) ?_
    show yP (xg xs) (d + 1) 18 80 [(0, .ref 0)] [.ref 0, .ref 0] m Q
    refine y_call rfl rfl rfl rfl rfl (Nat.le_of_ble_eq_true rfl) (Nat.le_of_ble_eq_true rfl) rfl (by decide) H (fun v1 m1 H => ?_)
    obtain ⟨u1, rfl, H⟩ := H
    refine y_pfi rfl rfl rfl rfl rfl (x_fit_i _) ?_
    show yP (xg xs) (d + 1) 18 86 [(0, .ref 0)] [] (y_si m1 0 10 u1) Q
    show yP (xg xs) (d + 1) 18 86 [(0, .ref 0)] [] (y_si m1 0 10 u1) Q
    exact H
set_option maxRecDepth 20000 in
/-- CodeMaker.make from 86 on -/
theorem w18_86 (xs : List Int32) (d : Nat) (m : yM) (Q : Option Value → yM → Prop) (H : ((¬ (m.1 0 10) = 0 → Q (some (.int (m.1 0 10))) m) ∧ ((m.1 0 10) = 0 → (yC (xg xs) d 231 [.ref 52] (y_si (y_si m 0 11 ((-1) : Int32)) 0 12 (1 : Int32)) (fun v1 m1 => v1 = none ∧ Q (some (.int (m1.1 0 10))) m1))))) : yP (xg xs) (d + 1) 18 86 [(0, .ref 0)] [] m Q := by
  refine y_st rfl rfl rfl rfl rfl (fun _ _ => rfl) ?_
  refine y_gf rfl rfl rfl rfl rfl ?_
  show yP (xg xs) (d + 1) 18 90 [(0, .ref 0)] [.int (m.1 0 10)] m Q
  refine y_zne (t := 110) rfl rfl rfl (fun h => ?_) (fun h => ?_)
  · replace H := H.1 h; clear h
    refine y_st rfl rfl rfl rfl rfl (fun _ _ => rfl) ?_
    refine y_gf rfl rfl rfl rfl rfl ?_
    show yP (xg xs) (d + 1) 18 114 [(0, .ref 0)] [.int (m.1 0 10)] m Q
    exact y_iret rfl rfl rfl H
  · replace H := H.2 h; clear h
    refine y_st rfl rfl rfl rfl rfl (fun _ _ => rfl) ?_
    refine y_st rfl rfl rfl rfl rfl (fun _ _ => rfl) ?_
    refine y_pfi rfl rfl rfl rfl rfl (x_fit_i _) ?_
    show yP (xg xs) (d + 1) 18 98 [(0, .ref 0)] [] (y_si m 0 11 ((-1) : Int32)) Q
    refine y_st rfl rfl rfl rfl rfl (fun _ _ => rfl) ?_
    refine y_st rfl rfl rfl rfl rfl (fun _ _ => rfl) ?_
    refine y_pfi rfl rfl rfl rfl rfl (x_fit_z (by decide)) ?_
    show yP (xg xs) (d + 1) 18 103 [(0, .ref 0)] [] (y_si (y_si m 0 11 ((-1) : Int32)) 0 12 (1 : Int32)) Q
    refine y_st rfl rfl rfl rfl rfl (fun _ _ => rfl) ?_
    refine y_gf rfl rfl rfl rfl rfl ?_
    show yP (xg xs) (d + 1) 18 107 [(0, .ref 0)] [.ref 52] (y_si (y_si m 0 11 ((-1) : Int32)) 0 12 (1 : Int32)) Q
    refine y_call rfl rfl rfl rfl rfl (Nat.le_of_ble_eq_true rfl) (Nat.le_of_ble_eq_true rfl) rfl (by decide) H (fun v1 m1 H => ?_)
    obtain ⟨rfl, H⟩ := H
    refine y_st rfl rfl rfl rfl rfl (fun _ _ => rfl) ?_
    refine y_gf rfl rfl rfl rfl rfl ?_
    show yP (xg xs) (d + 1) 18 114 [(0, .ref 0)] [.int (m1.1 0 10)] m1 Q
    exact y_iret rfl rfl rfl H
set_option maxRecDepth 20000 in
/-- CodeMaker.Tokens.scan from 0 on -/
theorem w19_0 (xs : List Int32) (d : Nat) (l2 : Int32) (m : yM) (Q : Option Value → yM → Prop) (H : (yC (xg xs) d 20 [.ref 12] (y_si (y_si (y_si (y_si m 8 4 (1 : Int32)) 8 5 l2) 8 6 (0 : Int32)) 8 8 (0 : Int32)) (fun v1 m1 => v1 = none ∧ yP (xg xs) (d + 1) 19 32 [(0, .ref 8), (3, .int (0 : Int32)), (4, .int (0 : Int32))] [] m1 Q))) : yP (xg xs) (d + 1) 19 0 [(0, .ref 8), (1, .ref 1), (2, .int l2)] [] m Q := by
  refine y_st rfl rfl rfl rfl rfl (fun _ _ => rfl) ?_
  refine y_st rfl rfl rfl rfl rfl (fun _ _ => rfl) ?_
  refine y_pfr rfl rfl rfl rfl rfl rfl ?_
  show yP (xg xs) (d + 1) 19 5 [(0, .ref 8), (1, .ref 1), (2, .int l2)] [] (y_si m 8 4 (1 : Int32)) Q
  refine y_st rfl rfl rfl rfl rfl (fun _ _ => rfl) ?_
  refine y_st rfl rfl rfl rfl rfl (fun _ _ => rfl) ?_
  refine y_pfi rfl rfl rfl rfl rfl (x_fit_i _) ?_
  show yP (xg xs) (d + 1) 19 10 [(0, .ref 8), (1, .ref 1), (2, .int l2)] [] (y_si (y_si m 8 4 (1 : Int32)) 8 5 l2) Q
  refine y_st rfl rfl rfl rfl rfl (fun _ _ => rfl) ?_
  refine y_st rfl rfl rfl rfl rfl (fun _ _ => rfl) ?_
  refine y_pfi rfl rfl rfl rfl rfl (x_fit_i _) ?_
  show yP (xg xs) (d + 1) 19 15 [(0, .ref 8), (1, .ref 1), (2, .int l2)] [] (y_si (y_si (y_si m 8 4 (1 : Int32)) 8 5 l2) 8 6 (0 : Int32)) Q
  refine y_st rfl rfl rfl rfl rfl (fun _ _ => rfl) ?_
  refine y_st rfl rfl rfl rfl rfl (fun _ _ => rfl) ?_
  refine y_pfi rfl rfl rfl rfl rfl (x_fit_z (by decide)) ?_
  show yP (xg xs) (d + 1) 19 20 [(0, .ref 8), (1, .ref 1), (2, .int l2)] [] (y_si (y_si (y_si (y_si m 8 4 (1 : Int32)) 8 5 l2) 8 6 (0 : Int32)) 8 8 (0 : Int32)) Q
  refine y_st rfl rfl rfl rfl rfl (fun _ _ => rfl) ?_
  refine y_gf rfl rfl rfl rfl rfl ?_
  show yP (xg xs) (d + 1) 19 24 [(0, .ref 8), (1, .ref 1), (2, .int l2)] [.ref 12] (y_si (y_si (y_si (y_si m 8 4 (1 : Int32)) 8 5 l2) 8 6 (0 : Int32)) 8 8 (0 : Int32)) Q
  refine y_call rfl rfl rfl rfl rfl (Nat.le_of_ble_eq_true rfl) (Nat.le_of_ble_eq_true rfl) rfl (by decide) H (fun v1 m1 H => ?_)
  obtain ⟨rfl, H⟩ := H
  refine y_st rfl rfl rfl rfl rfl (fun _ _ => rfl) ?_
  refine y_st rfl rfl rfl rfl rfl (fun _ _ => rfl) ?_
  refine y_st rfl rfl rfl rfl rfl (fun _ _ => rfl) ?_
  refine y_st rfl rfl rfl rfl rfl (fun _ _ => rfl) ?_
  show yP (xg xs) (d + 1) 19 32 [(4, .int (0 : Int32)), (3, .int (0 : Int32)), (0, .ref 8), (1, .ref 1), (2, .int l2)] [] m1 Q
  refine y_headS (l2 := [(0, .ref 8), (3, .int (0 : Int32)), (4, .int (0 : Int32))]) [2, 1, 0] [0, 3, 4] [4, 3, 0, 1, 2] rfl rfl (by decide) rfl (by decide) ?_
  exact H
set_option maxRecDepth 20000 in
/-- CodeMaker.Tokens.scan from 32 on -/
theorem w19_32 (xs : List Int32) (d : Nat) (l3 : Int32) (l4 : Int32) (m : yM) (Q : Option Value → yM → Prop) (H : (((8192 : Int32) < l4 → Q none m) ∧ (¬ (8192 : Int32) < l4 → ((¬ (m.1 8 8) = 0 → Q none m) ∧ ((m.1 8 8) = 0 → (yC (xg xs) d 35 [.ref 8, .int l3] m (fun v1 m1 => ∃ u1, v1 = some (Value.int u1) ∧ ((¬ (m1.1 8 8) = 0 → yP (xg xs) (d + 1) 19 66 [(0, .ref 8), (3, .int u1), (4, .int l4)] [] m1 Q) ∧ ((m1.1 8 8) = 0 → (yC (xg xs) d 40 [.ref 8, .int u1] m1 (fun v2 m2 => ∃ u2, v2 = some (Value.int u2) ∧ yP (xg xs) (d + 1) 19 66 [(0, .ref 8), (3, .int u2), (4, .int l4)] [] m2 Q))))))))))) : yP (xg xs) (d + 1) 19 32 [(0, .ref 8), (3, .int l3), (4, .int l4)] [] m Q := by
  refine y_st rfl rfl rfl rfl rfl (fun _ _ => rfl) ?_
  refine y_st rfl rfl rfl rfl rfl (fun _ _ => rfl) ?_
  show yP (xg xs) (d + 1) 19 37 [(0, .ref 8), (3, .int l3), (4, .int l4)] [.int (8192 : Int32), .int l4] m Q
  refine y_igt (t := 72) rfl rfl rfl (fun h => ?_) (fun h => ?_)
  · replace H := H.1 h; clear h
    show yP (xg xs) (d + 1) 19 72 [(0, .ref 8), (3, .int l3), (4, .int l4)] [] m Q
    exact y_ret rfl rfl rfl rfl H
  · replace H := H.2 h; clear h
    refine y_st rfl rfl rfl rfl rfl (fun _ _ => rfl) ?_
    refine y_gf rfl rfl rfl rfl rfl ?_
    show yP (xg xs) (d + 1) 19 44 [(0, .ref 8), (3, .int l3), (4, .int l4)] [.int (m.1 8 8)] m Q
    refine y_zne (t := 72) rfl rfl rfl (fun h => ?_) (fun h => ?_)
    · replace H := H.1 h; clear h
      show yP (xg xs) (d + 1) 19 72 [(0, .ref 8), (3, .int l3), (4, .int l4)] [] m Q
      exact y_ret rfl rfl rfl rfl H
    · replace H := H.2 h; clear h
      refine y_st rfl rfl rfl rfl rfl (fun _ _ => rfl) ?_
      refine y_st rfl rfl rfl rfl rfl (fun _ _ => rfl) ?_
      show yP (xg xs) (d + 1) 19 49 [(0, .ref 8), (3, .int l3), (4, .int l4)] [.int l3, .ref 8] m Q
      refine y_call rfl rfl rfl rfl rfl (Nat.le_of_ble_eq_true rfl) (Nat.le_of_ble_eq_true rfl) rfl (by decide) H (fun v1 m1 H => ?_)
      obtain ⟨u1, rfl, H⟩ := H
      refine y_st rfl rfl rfl rfl rfl (fun _ _ => rfl) ?_
      refine y_st rfl rfl rfl rfl rfl (fun _ _ => rfl) ?_
      refine y_gf rfl rfl rfl rfl rfl ?_
      show yP (xg xs) (d + 1) 19 57 [(3, .int u1), (0, .ref 8), (4, .int l4)] [.int (m1.1 8 8)] m1 Q
      refine y_zne (t := 66) rfl rfl rfl (fun h => ?_) (fun h => ?_)
      · replace H := H.1 h; clear h
        show yP (xg xs) (d + 1) 19 66 [(3, .int u1), (0, .ref 8), (4, .int l4)] [] m1 Q
        refine y_headS (l2 := [(0, .ref 8), (3, .int u1), (4, .int l4)]) [1, 0, 2] [0, 3, 4] [3, 0, 4] rfl rfl (by decide) rfl (by decide) ?_
        exact H
      · replace H := H.2 h; clear h
        refine y_st rfl rfl rfl rfl rfl (fun _ _ => rfl) ?_
        refine y_st rfl rfl rfl rfl rfl (fun _ _ => rfl) ?_
        show yP (xg xs) (d + 1) 19 62 [(3, .int u1), (0, .ref 8), (4, .int l4)] [.int u1, .ref 8] m1 Q
        refine y_call rfl rfl rfl rfl rfl (Nat.le_of_ble_eq_true rfl) (Nat.le_of_ble_eq_true rfl) rfl (by decide) H (fun v2 m2 H => ?_)
        obtain ⟨u2, rfl, H⟩ := H
        refine y_st rfl rfl rfl rfl rfl (fun _ _ => rfl) ?_
        show yP (xg xs) (d + 1) 19 66 [(3, .int u2), (0, .ref 8), (4, .int l4)] [] m2 Q
        refine y_headS (l2 := [(0, .ref 8), (3, .int u2), (4, .int l4)]) [1, 0, 2] [0, 3, 4] [3, 0, 4] rfl rfl (by decide) rfl (by decide) ?_
        exact H
set_option maxRecDepth 20000 in
/-- CodeMaker.Tokens.scan from 66 on -/
theorem w19_66 (xs : List Int32) (d : Nat) (l3 : Int32) (l4 : Int32) (m : yM) (Q : Option Value → yM → Prop) (H : yP (xg xs) (d + 1) 19 32 [(0, .ref 8), (3, .int l3), (4, .int (l4 + (1 : Int32)))] [] m Q) : yP (xg xs) (d + 1) 19 66 [(0, .ref 8), (3, .int l3), (4, .int l4)] [] m Q := by
  refine y_st rfl rfl rfl rfl rfl (fun _ _ => rfl) ?_
  refine y_st rfl rfl rfl rfl rfl (fun _ _ => rfl) ?_
  show yP (xg xs) (d + 1) 19 32 [(4, .int (l4 + (1 : Int32))), (0, .ref 8), (3, .int l3)] [] m Q
  refine y_headS (l2 := [(0, .ref 8), (3, .int l3), (4, .int (l4 + (1 : Int32)))]) [1, 2, 0] [0, 3, 4] [4, 0, 3] rfl rfl (by decide) rfl (by decide) ?_
  exact H
set_option maxRecDepth 20000 in
/-- CodeMaker.Names.forget from 0 on -/
theorem w20_0 (xs : List Int32) (d : Nat) (m : yM) (Q : Option Value → yM → Prop) (H : (yC (xg xs) d 21 [.ref 16, .int ((-1) : Int32)] m (fun v1 m1 => v1 = none ∧ yP (xg xs) (d + 1) 20 17 [(0, .ref 12), (1, .int (0 : Int32)), (2, .int (0 : Int32))] [] (y_si m1 12 4 (0 : Int32)) Q))) : yP (xg xs) (d + 1) 20 0 [(0, .ref 12)] [] m Q := by
  refine y_st rfl rfl rfl rfl rfl (fun _ _ => rfl) ?_
  refine y_gf rfl rfl rfl rfl rfl ?_
  refine y_st rfl rfl rfl rfl rfl (fun _ _ => rfl) ?_
  show yP (xg xs) (d + 1) 20 5 [(0, .ref 12)] [.int ((-1) : Int32), .ref 16] m Q
  refine y_call rfl rfl rfl rfl rfl (Nat.le_of_ble_eq_true rfl) (Nat.le_of_ble_eq_true rfl) rfl (by decide) H (fun v1 m1 H => ?_)
  obtain ⟨rfl, H⟩ := H
  refine y_st rfl rfl rfl rfl rfl (fun _ _ => rfl) ?_
  refine y_st rfl rfl rfl rfl rfl (fun _ _ => rfl) ?_
  refine y_pfi rfl rfl rfl rfl rfl (x_fit_i _) ?_
  show yP (xg xs) (d + 1) 20 13 [(0, .ref 12)] [] (y_si m1 12 4 (0 : Int32)) Q
  refine y_st rfl rfl rfl rfl rfl (fun _ _ => rfl) ?_
  refine y_st rfl rfl rfl rfl rfl (fun _ _ => rfl) ?_
  refine y_st rfl rfl rfl rfl rfl (fun _ _ => rfl) ?_
  refine y_st rfl rfl rfl rfl rfl (fun _ _ => rfl) ?_
  show yP (xg xs) (d + 1) 20 17 [(2, .int (0 : Int32)), (1, .int (0 : Int32)), (0, .ref 12)] [] (y_si m1 12 4 (0 : Int32)) Q
  refine y_headS (l2 := [(0, .ref 12), (1, .int (0 : Int32)), (2, .int (0 : Int32))]) [2, 1, 0] [0, 1, 2] [2, 1, 0] rfl rfl (by decide) rfl (by decide) ?_
  exact H
set_option maxRecDepth 20000 in
/-- CodeMaker.Names.forget from 17 on -/
theorem w20_17 (xs : List Int32) (d : Nat) (l1 : Int32) (l2 : Int32) (m : yM) (Q : Option Value → yM → Prop) (H : (yC (xg xs) d 22 [.retAddr 20] m (fun v1 m1 => ∃ u1, v1 = some (Value.int u1) ∧ ((u1 ≤ l2 → Q none m1) ∧ (¬ u1 ≤ l2 → (yC (xg xs) d 24 [.retAddr 20, .int l2] m1 (fun v2 m2 => ∃ u2, v2 = some (Value.int u2) ∧ ((¬ u2 = (32 : Int32) → (x_in (m2.1 12 4) 4173 = true ∧ (yC (xg xs) d 24 [.retAddr 20, .int l2] m2 (fun v3 m3 => ∃ u3, v3 = some (Value.int u3) ∧ (x_in (((m2.1 14 ((m2.1 12 4).toNatClampNeg)) + l2) - l1) 8704 = true ∧ yP (xg xs) (d + 1) 20 77 [(0, .ref 12), (1, .int l1), (2, .int l2)] [] (y_si m3 13 ((((m2.1 14 ((m2.1 12 4).toNatClampNeg)) + l2) - l1).toNatClampNeg) (vp_nar .byte u3.toInt8.toInt32)) Q))))) ∧ (u2 = (32 : Int32) → (yC (xg xs) d 33 [.ref 12, .int (l2 - l1)] m2 (fun v4 m4 => ∃ u4, v4 = some (Value.int u4) ∧ yP (xg xs) (d + 1) 20 77 [(0, .ref 12), (1, .int (l2 + (1 : Int32))), (2, .int l2)] [] m4 Q))))))))))) : yP (xg xs) (d + 1) 20 17 [(0, .ref 12), (1, .int l1), (2, .int l2)] [] m Q := by
  refine y_st rfl rfl rfl rfl rfl (fun _ _ => rfl) ?_
  refine y_st rfl rfl rfl rfl rfl (fun _ _ => rfl) ?_
  show yP (xg xs) (d + 1) 20 20 [(0, .ref 12), (1, .int l1), (2, .int l2)] [.retAddr 20, .int l2] m Q
  refine y_call rfl rfl rfl rfl rfl (Nat.le_of_ble_eq_true rfl) (Nat.le_of_ble_eq_true rfl) rfl (by decide) H (fun v1 m1 H => ?_)
  obtain ⟨u1, rfl, H⟩ := H
  show yP (xg xs) (d + 1) 20 23 [(0, .ref 12), (1, .int l1), (2, .int l2)] [.int u1, .int l2] m1 Q
  refine y_ige (t := 83) rfl rfl rfl (fun h => ?_) (fun h => ?_)
  · replace H := H.1 h; clear h
    show yP (xg xs) (d + 1) 20 83 [(0, .ref 12), (1, .int l1), (2, .int l2)] [] m1 Q
    exact y_ret rfl rfl rfl rfl H
  · replace H := H.2 h; clear h
    refine y_st rfl rfl rfl rfl rfl (fun _ _ => rfl) ?_
    refine y_st rfl rfl rfl rfl rfl (fun _ _ => rfl) ?_
    show yP (xg xs) (d + 1) 20 29 [(0, .ref 12), (1, .int l1), (2, .int l2)] [.int l2, .retAddr 20] m1 Q
    refine y_call rfl rfl rfl rfl rfl (Nat.le_of_ble_eq_true rfl) (Nat.le_of_ble_eq_true rfl) rfl (by decide) H (fun v2 m2 H => ?_)
    obtain ⟨u2, rfl, H⟩ := H
    refine y_st rfl rfl rfl rfl rfl (fun _ _ => rfl) ?_
    show yP (xg xs) (d + 1) 20 34 [(0, .ref 12), (1, .int l1), (2, .int l2)] [.int (32 : Int32), .int u2] m2 Q
    refine y_ine (t := 52) rfl rfl rfl (fun h => ?_) (fun h => ?_)
    · replace H := H.1 h; clear h
      refine y_st rfl rfl rfl rfl rfl (fun _ _ => rfl) ?_
      refine y_gf rfl rfl rfl rfl rfl ?_
      refine y_st rfl rfl rfl rfl rfl (fun _ _ => rfl) ?_
      refine y_gf rfl rfl rfl rfl rfl ?_
      refine y_st rfl rfl rfl rfl rfl (fun _ _ => rfl) ?_
      refine y_gf rfl rfl rfl rfl rfl ?_
      show yP (xg xs) (d + 1) 20 64 [(0, .ref 12), (1, .int l1), (2, .int l2)] [.int (m2.1 12 4), .ref 14, .ref 13] m2 Q
      refine y_iald rfl rfl rfl (H.1) ?_
      replace H := H.2
      refine y_st rfl rfl rfl rfl rfl (fun _ _ => rfl) ?_
      refine y_st rfl rfl rfl rfl rfl (fun _ _ => rfl) ?_
      refine y_st rfl rfl rfl rfl rfl (fun _ _ => rfl) ?_
      refine y_st rfl rfl rfl rfl rfl (fun _ _ => rfl) ?_
      refine y_st rfl rfl rfl rfl rfl (fun _ _ => rfl) ?_
      refine y_st rfl rfl rfl rfl rfl (fun _ _ => rfl) ?_
      show yP (xg xs) (d + 1) 20 72 [(0, .ref 12), (1, .int l1), (2, .int l2)] [.int l2, .retAddr 20, .int (((m2.1 14 ((m2.1 12 4).toNatClampNeg)) + l2) - l1), .ref 13] m2 Q
      refine y_call rfl rfl rfl rfl rfl (Nat.le_of_ble_eq_true rfl) (Nat.le_of_ble_eq_true rfl) rfl (by decide) H (fun v3 m3 H => ?_)
      obtain ⟨u3, rfl, H⟩ := H
      refine y_st rfl rfl rfl rfl rfl (fun _ _ => rfl) ?_
      show yP (xg xs) (d + 1) 20 76 [(0, .ref 12), (1, .int l1), (2, .int l2)] [.int u3.toInt8.toInt32, .int (((m2.1 14 ((m2.1 12 4).toNatClampNeg)) + l2) - l1), .ref 13] m3 Q
      refine y_bast rfl rfl rfl (H.1) ?_
      replace H := H.2
      show yP (xg xs) (d + 1) 20 77 [(0, .ref 12), (1, .int l1), (2, .int l2)] [] (y_si m3 13 ((((m2.1 14 ((m2.1 12 4).toNatClampNeg)) + l2) - l1).toNatClampNeg) (vp_nar .byte u3.toInt8.toInt32)) Q
      exact H
    · replace H := H.2 h; clear h
      refine y_st rfl rfl rfl rfl rfl (fun _ _ => rfl) ?_
      refine y_st rfl rfl rfl rfl rfl (fun _ _ => rfl) ?_
      refine y_st rfl rfl rfl rfl rfl (fun _ _ => rfl) ?_
      refine y_st rfl rfl rfl rfl rfl (fun _ _ => rfl) ?_
      show yP (xg xs) (d + 1) 20 41 [(0, .ref 12), (1, .int l1), (2, .int l2)] [.int (l2 - l1), .ref 12] m2 Q
      refine y_call rfl rfl rfl rfl rfl (Nat.le_of_ble_eq_true rfl) (Nat.le_of_ble_eq_true rfl) rfl (by decide) H (fun v4 m4 H => ?_)
      obtain ⟨u4, rfl, H⟩ := H
      refine y_st rfl rfl rfl rfl rfl (fun _ _ => rfl) ?_
      refine y_st rfl rfl rfl rfl rfl (fun _ _ => rfl) ?_
      refine y_st rfl rfl rfl rfl rfl (fun _ _ => rfl) ?_
      refine y_st rfl rfl rfl rfl rfl (fun _ _ => rfl) ?_
      refine y_st rfl rfl rfl rfl rfl (fun _ _ => rfl) ?_
      refine y_st rfl rfl rfl rfl rfl (fun _ _ => rfl) ?_
      show yP (xg xs) (d + 1) 20 77 [(1, .int (l2 + (1 : Int32))), (0, .ref 12), (2, .int l2)] [] m4 Q
      refine y_headS (l2 := [(0, .ref 12), (1, .int (l2 + (1 : Int32))), (2, .int l2)]) [1, 0, 2] [0, 1, 2] [1, 0, 2] rfl rfl (by decide) rfl (by decide) ?_
      exact H
set_option maxRecDepth 20000 in
/-- CodeMaker.Names.forget from 77 on -/
theorem w20_77 (xs : List Int32) (d : Nat) (l1 : Int32) (l2 : Int32) (m : yM) (Q : Option Value → yM → Prop) (H : yP (xg xs) (d + 1) 20 17 [(0, .ref 12), (1, .int l1), (2, .int (l2 + (1 : Int32)))] [] m Q) : yP (xg xs) (d + 1) 20 77 [(0, .ref 12), (1, .int l1), (2, .int l2)] [] m Q := by
  refine y_st rfl rfl rfl rfl rfl (fun _ _ => rfl) ?_
  refine y_st rfl rfl rfl rfl rfl (fun _ _ => rfl) ?_
  show yP (xg xs) (d + 1) 20 17 [(2, .int (l2 + (1 : Int32))), (0, .ref 12), (1, .int l1)] [] m Q
  refine y_headS (l2 := [(0, .ref 12), (1, .int l1), (2, .int (l2 + (1 : Int32)))]) [1, 2, 0] [0, 1, 2] [2, 0, 1] rfl rfl (by decide) rfl (by decide) ?_
  exact H
set_option maxRecDepth 20000 in
/-- CodeMaker.Names.settle from 0 on -/
theorem w33_0 (xs : List Int32) (d : Nat) (l1 : Int32) (m : yM) (Q : Option Value → yM → Prop) (H : (x_in (m.1 12 4) 4173 = true ∧ yP (xg xs) (d + 1) 33 15 [(0, .ref 12), (1, .int l1), (2, .int (m.1 14 ((m.1 12 4).toNatClampNeg))), (3, .int l1), (4, .int (0 : Int32))] [] m Q)) : yP (xg xs) (d + 1) 33 0 [(0, .ref 12), (1, .int l1)] [] m Q := by
  refine y_st rfl rfl rfl rfl rfl (fun _ _ => rfl) ?_
  refine y_gf rfl rfl rfl rfl rfl ?_
  refine y_st rfl rfl rfl rfl rfl (fun _ _ => rfl) ?_
  refine y_gf rfl rfl rfl rfl rfl ?_
  show yP (xg xs) (d + 1) 33 8 [(0, .ref 12), (1, .int l1)] [.int (m.1 12 4), .ref 14] m Q
  refine y_iald rfl rfl rfl (H.1) ?_
  replace H := H.2
  refine y_st rfl rfl rfl rfl rfl (fun _ _ => rfl) ?_
  refine y_st rfl rfl rfl rfl rfl (fun _ _ => rfl) ?_
  refine y_st rfl rfl rfl rfl rfl (fun _ _ => rfl) ?_
  refine y_st rfl rfl rfl rfl rfl (fun _ _ => rfl) ?_
  refine y_st rfl rfl rfl rfl rfl (fun _ _ => rfl) ?_
  show yP (xg xs) (d + 1) 33 15 [(4, .int (0 : Int32)), (3, .int l1), (2, .int (m.1 14 ((m.1 12 4).toNatClampNeg))), (0, .ref 12), (1, .int l1)] [] m Q
  refine y_headS (l2 := [(0, .ref 12), (1, .int l1), (2, .int (m.1 14 ((m.1 12 4).toNatClampNeg))), (3, .int l1), (4, .int (0 : Int32))]) [3, 4, 2, 1, 0] [0, 1, 2, 3, 4] [4, 3, 2, 0, 1] rfl rfl (by decide) rfl (by decide) ?_
  exact H
set_option maxRecDepth 20000 in
/-- CodeMaker.Names.settle from 15 on -/
theorem w33_15 (xs : List Int32) (d : Nat) (l1 : Int32) (l2 : Int32) (l3 : Int32) (l4 : Int32) (m : yM) (Q : Option Value → yM → Prop) (H : ((l1 ≤ l4 → (x_in ((l3 ^^^ ((l3.toUInt32 >>> ((10 : Int32).toUInt32 &&& Int32.toUInt32 31)).toInt32)) &&& (1023 : Int32)) 1024 = true ∧ yP (xg xs) (d + 1) 33 63 [(0, .ref 12), (1, .int l1), (2, .int l2), (4, .int ((l3 ^^^ ((l3.toUInt32 >>> ((10 : Int32).toUInt32 &&& Int32.toUInt32 31)).toInt32)) &&& (1023 : Int32))), (5, .int (m.1 16 (((l3 ^^^ ((l3.toUInt32 >>> ((10 : Int32).toUInt32 &&& Int32.toUInt32 31)).toInt32)) &&& (1023 : Int32)).toNatClampNeg)))] [] m Q)) ∧ (¬ l1 ≤ l4 → (x_in (l2 + l4) 8704 = true ∧ yP (xg xs) (d + 1) 33 15 [(0, .ref 12), (1, .int l1), (2, .int l2), (3, .int ((l3 * (31 : Int32)) + (m.1 13 ((l2 + l4).toNatClampNeg)))), (4, .int (l4 + (1 : Int32)))] [] m Q)))) : yP (xg xs) (d + 1) 33 15 [(0, .ref 12), (1, .int l1), (2, .int l2), (3, .int l3), (4, .int l4)] [] m Q := by
  refine y_st rfl rfl rfl rfl rfl (fun _ _ => rfl) ?_
  refine y_st rfl rfl rfl rfl rfl (fun _ _ => rfl) ?_
  show yP (xg xs) (d + 1) 33 18 [(0, .ref 12), (1, .int l1), (2, .int l2), (3, .int l3), (4, .int l4)] [.int l1, .int l4] m Q
  refine y_ige (t := 42) rfl rfl rfl (fun h => ?_) (fun h => ?_)
  · replace H := H.1 h; clear h
    refine y_st rfl rfl rfl rfl rfl (fun _ _ => rfl) ?_
    refine y_st rfl rfl rfl rfl rfl (fun _ _ => rfl) ?_
    refine y_st rfl rfl rfl rfl rfl (fun _ _ => rfl) ?_
    refine y_st rfl rfl rfl rfl rfl (fun _ _ => rfl) ?_
    refine y_st rfl rfl rfl rfl rfl (fun _ _ => rfl) ?_
    refine y_st rfl rfl rfl rfl rfl (fun _ _ => rfl) ?_
    refine y_st rfl rfl rfl rfl rfl (fun _ _ => rfl) ?_
    refine y_st rfl rfl rfl rfl rfl (fun _ _ => rfl) ?_
    refine y_st rfl rfl rfl rfl rfl (fun _ _ => rfl) ?_
    refine y_gf rfl rfl rfl rfl rfl ?_
    refine y_st rfl rfl rfl rfl rfl (fun _ _ => rfl) ?_
    show yP (xg xs) (d + 1) 33 60 [(4, .int ((l3 ^^^ ((l3.toUInt32 >>> ((10 : Int32).toUInt32 &&& Int32.toUInt32 31)).toInt32)) &&& (1023 : Int32))), (0, .ref 12), (1, .int l1), (2, .int l2), (3, .int l3)] [.int ((l3 ^^^ ((l3.toUInt32 >>> ((10 : Int32).toUInt32 &&& Int32.toUInt32 31)).toInt32)) &&& (1023 : Int32)), .ref 16] m Q
    refine y_iald rfl rfl rfl (H.1) ?_
    replace H := H.2
    refine y_st rfl rfl rfl rfl rfl (fun _ _ => rfl) ?_
    show yP (xg xs) (d + 1) 33 63 [(5, .int (m.1 16 (((l3 ^^^ ((l3.toUInt32 >>> ((10 : Int32).toUInt32 &&& Int32.toUInt32 31)).toInt32)) &&& (1023 : Int32)).toNatClampNeg))), (4, .int ((l3 ^^^ ((l3.toUInt32 >>> ((10 : Int32).toUInt32 &&& Int32.toUInt32 31)).toInt32)) &&& (1023 : Int32))), (0, .ref 12), (1, .int l1), (2, .int l2), (3, .int l3)] [] m Q
    refine y_headS (l2 := [(0, .ref 12), (1, .int l1), (2, .int l2), (4, .int ((l3 ^^^ ((l3.toUInt32 >>> ((10 : Int32).toUInt32 &&& Int32.toUInt32 31)).toInt32)) &&& (1023 : Int32))), (5, .int (m.1 16 (((l3 ^^^ ((l3.toUInt32 >>> ((10 : Int32).toUInt32 &&& Int32.toUInt32 31)).toInt32)) &&& (1023 : Int32)).toNatClampNeg)))]) [2, 3, 4, 1, 0] [0, 1, 2, 4, 5] [5, 4, 0, 1, 2, 3] rfl rfl (by decide) rfl (by decide) ?_
    exact H
  · replace H := H.2 h; clear h
    refine y_st rfl rfl rfl rfl rfl (fun _ _ => rfl) ?_
    refine y_st rfl rfl rfl rfl rfl (fun _ _ => rfl) ?_
    refine y_st rfl rfl rfl rfl rfl (fun _ _ => rfl) ?_
    refine y_st rfl rfl rfl rfl rfl (fun _ _ => rfl) ?_
    refine y_gf rfl rfl rfl rfl rfl ?_
    refine y_st rfl rfl rfl rfl rfl (fun _ _ => rfl) ?_
    refine y_st rfl rfl rfl rfl rfl (fun _ _ => rfl) ?_
    refine y_st rfl rfl rfl rfl rfl (fun _ _ => rfl) ?_
    show yP (xg xs) (d + 1) 33 33 [(0, .ref 12), (1, .int l1), (2, .int l2), (3, .int l3), (4, .int l4)] [.int (l2 + l4), .ref 13, .int (l3 * (31 : Int32))] m Q
    refine y_bald rfl rfl rfl (by decide) (H.1) ?_
    replace H := H.2
    refine y_st rfl rfl rfl rfl rfl (fun _ _ => rfl) ?_
    refine y_st rfl rfl rfl rfl rfl (fun _ _ => rfl) ?_
    refine y_st rfl rfl rfl rfl rfl (fun _ _ => rfl) ?_
    refine y_st rfl rfl rfl rfl rfl (fun _ _ => rfl) ?_
    show yP (xg xs) (d + 1) 33 15 [(4, .int (l4 + (1 : Int32))), (3, .int ((l3 * (31 : Int32)) + (m.1 13 ((l2 + l4).toNatClampNeg)))), (0, .ref 12), (1, .int l1), (2, .int l2)] [] m Q
    refine y_headS (l2 := [(0, .ref 12), (1, .int l1), (2, .int l2), (3, .int ((l3 * (31 : Int32)) + (m.1 13 ((l2 + l4).toNatClampNeg)))), (4, .int (l4 + (1 : Int32)))]) [2, 3, 4, 1, 0] [0, 1, 2, 3, 4] [4, 3, 0, 1, 2] rfl rfl (by decide) rfl (by decide) ?_
    exact H
set_option maxRecDepth 20000 in
/-- CodeMaker.Names.settle from 63 on -/
theorem w33_63 (xs : List Int32) (d : Nat) (l1 : Int32) (l2 : Int32) (l4 : Int32) (l5 : Int32) (m : yM) (Q : Option Value → yM → Prop) (H : ((l5 < 0 → (((m.1 12 4) < (4172 : Int32) → (x_in l4 1024 = true ∧ (x_in (m.1 12 4) 4172 = true ∧ (x_in l4 1024 = true ∧ (x_in ((m.1 12 4) + (1 : Int32)) 4173 = true ∧ Q (some (.int (((m.1 12 4) + (1 : Int32)) - (1 : Int32)))) (y_si (y_si (y_si (y_si m 15 ((m.1 12 4).toNatClampNeg) (m.1 16 l4.toNatClampNeg)) 16 l4.toNatClampNeg (m.1 12 4)) 14 (((m.1 12 4) + (1 : Int32)).toNatClampNeg) (l2 + l1)) 12 4 ((m.1 12 4) + (1 : Int32)))))))) ∧ (¬ (m.1 12 4) < (4172 : Int32) → Q (some (.int (74 : Int32))) m))) ∧ (¬ l5 < 0 → (yC (xg xs) d 34 [.ref 12, .int l5, .int l2, .int l1] m (fun v1 m1 => ∃ u1, v1 = some (Value.int u1) ∧ ((u1 = 0 → (x_in l5 4172 = true ∧ yP (xg xs) (d + 1) 33 63 [(0, .ref 12), (1, .int l1), (2, .int l2), (4, .int l4), (5, .int (m1.1 15 l5.toNatClampNeg))] [] m1 Q)) ∧ (¬ u1 = 0 → Q (some (.int l5)) m1))))))) : yP (xg xs) (d + 1) 33 63 [(0, .ref 12), (1, .int l1), (2, .int l2), (4, .int l4), (5, .int l5)] [] m Q := by
  refine y_st rfl rfl rfl rfl rfl (fun _ _ => rfl) ?_
  show yP (xg xs) (d + 1) 33 65 [(0, .ref 12), (1, .int l1), (2, .int l2), (4, .int l4), (5, .int l5)] [.int l5] m Q
  refine y_zlt (t := 94) rfl rfl rfl (fun h => ?_) (fun h => ?_)
  · replace H := H.1 h; clear h
    refine y_st rfl rfl rfl rfl rfl (fun _ _ => rfl) ?_
    refine y_gf rfl rfl rfl rfl rfl ?_
    refine y_st rfl rfl rfl rfl rfl (fun _ _ => rfl) ?_
    show yP (xg xs) (d + 1) 33 101 [(0, .ref 12), (1, .int l1), (2, .int l2), (4, .int l4), (5, .int l5)] [.int (4172 : Int32), .int (m.1 12 4)] m Q
    refine y_ilt (t := 107) rfl rfl rfl (fun h => ?_) (fun h => ?_)
    · replace H := H.1 h; clear h
      refine y_st rfl rfl rfl rfl rfl (fun _ _ => rfl) ?_
      refine y_gf rfl rfl rfl rfl rfl ?_
      refine y_st rfl rfl rfl rfl rfl (fun _ _ => rfl) ?_
      refine y_gf rfl rfl rfl rfl rfl ?_
      refine y_st rfl rfl rfl rfl rfl (fun _ _ => rfl) ?_
      refine y_gf rfl rfl rfl rfl rfl ?_
      refine y_st rfl rfl rfl rfl rfl (fun _ _ => rfl) ?_
      show yP (xg xs) (d + 1) 33 121 [(0, .ref 12), (1, .int l1), (2, .int l2), (4, .int l4), (5, .int l5)] [.int l4, .ref 16, .int (m.1 12 4), .ref 15] m Q
      refine y_iald rfl rfl rfl (H.1) ?_
      replace H := H.2
      show yP (xg xs) (d + 1) 33 122 [(0, .ref 12), (1, .int l1), (2, .int l2), (4, .int l4), (5, .int l5)] [.int (m.1 16 l4.toNatClampNeg), .int (m.1 12 4), .ref 15] m Q
      refine y_iast rfl rfl rfl (H.1) ?_
      replace H := H.2
      refine y_st rfl rfl rfl rfl rfl (fun _ _ => rfl) ?_
      refine y_gf rfl rfl rfl rfl rfl ?_
      refine y_st rfl rfl rfl rfl rfl (fun _ _ => rfl) ?_
      refine y_st rfl rfl rfl rfl rfl (fun _ _ => rfl) ?_
      refine y_gf rfl rfl rfl rfl rfl ?_
      show yP (xg xs) (d + 1) 33 133 [(0, .ref 12), (1, .int l1), (2, .int l2), (4, .int l4), (5, .int l5)] [.int (m.1 12 4), .int l4, .ref 16] (y_si m 15 ((m.1 12 4).toNatClampNeg) (m.1 16 l4.toNatClampNeg)) Q
      refine y_iast rfl rfl rfl (H.1) ?_
      replace H := H.2
      refine y_st rfl rfl rfl rfl rfl (fun _ _ => rfl) ?_
      refine y_gf rfl rfl rfl rfl rfl ?_
      refine y_st rfl rfl rfl rfl rfl (fun _ _ => rfl) ?_
      refine y_gf rfl rfl rfl rfl rfl ?_
      refine y_st rfl rfl rfl rfl rfl (fun _ _ => rfl) ?_
      refine y_st rfl rfl rfl rfl rfl (fun _ _ => rfl) ?_
      refine y_st rfl rfl rfl rfl rfl (fun _ _ => rfl) ?_
      refine y_st rfl rfl rfl rfl rfl (fun _ _ => rfl) ?_
      refine y_st rfl rfl rfl rfl rfl (fun _ _ => rfl) ?_
      show yP (xg xs) (d + 1) 33 147 [(0, .ref 12), (1, .int l1), (2, .int l2), (4, .int l4), (5, .int l5)] [.int (l2 + l1), .int ((m.1 12 4) + (1 : Int32)), .ref 14] (y_si (y_si m 15 ((m.1 12 4).toNatClampNeg) (m.1 16 l4.toNatClampNeg)) 16 l4.toNatClampNeg (m.1 12 4)) Q
      refine y_iast rfl rfl rfl (H.1) ?_
      replace H := H.2
      refine y_st rfl rfl rfl rfl rfl (fun _ _ => rfl) ?_
      refine y_st rfl rfl rfl rfl rfl (fun _ _ => rfl) ?_
      refine y_gf rfl rfl rfl rfl rfl ?_
      refine y_st rfl rfl rfl rfl rfl (fun _ _ => rfl) ?_
      refine y_st rfl rfl rfl rfl rfl (fun _ _ => rfl) ?_
      refine y_pfi rfl rfl rfl rfl rfl (x_fit_i _) ?_
      show yP (xg xs) (d + 1) 33 158 [(0, .ref 12), (1, .int l1), (2, .int l2), (4, .int l4), (5, .int l5)] [] (y_si (y_si (y_si (y_si m 15 ((m.1 12 4).toNatClampNeg) (m.1 16 l4.toNatClampNeg)) 16 l4.toNatClampNeg (m.1 12 4)) 14 (((m.1 12 4) + (1 : Int32)).toNatClampNeg) (l2 + l1)) 12 4 ((m.1 12 4) + (1 : Int32))) Q
      refine y_st rfl rfl rfl rfl rfl (fun _ _ => rfl) ?_
      refine y_gf rfl rfl rfl rfl rfl ?_
      refine y_st rfl rfl rfl rfl rfl (fun _ _ => rfl) ?_
      refine y_st rfl rfl rfl rfl rfl (fun _ _ => rfl) ?_
      show yP (xg xs) (d + 1) 33 164 [(0, .ref 12), (1, .int l1), (2, .int l2), (4, .int l4), (5, .int l5)] [.int (((m.1 12 4) + (1 : Int32)) - (1 : Int32))] (y_si (y_si (y_si (y_si m 15 ((m.1 12 4).toNatClampNeg) (m.1 16 l4.toNatClampNeg)) 16 l4.toNatClampNeg (m.1 12 4)) 14 (((m.1 12 4) + (1 : Int32)).toNatClampNeg) (l2 + l1)) 12 4 ((m.1 12 4) + (1 : Int32))) Q
      exact y_iret rfl rfl rfl H
    · replace H := H.2 h; clear h
      refine y_st rfl rfl rfl rfl rfl (fun _ _ => rfl) ?_
      show yP (xg xs) (d + 1) 33 106 [(0, .ref 12), (1, .int l1), (2, .int l2), (4, .int l4), (5, .int l5)] [.int (74 : Int32)] m Q
      exact y_iret rfl rfl rfl H
  · replace H := H.2 h; clear h
    refine y_st rfl rfl rfl rfl rfl (fun _ _ => rfl) ?_
    refine y_st rfl rfl rfl rfl rfl (fun _ _ => rfl) ?_
    refine y_st rfl rfl rfl rfl rfl (fun _ _ => rfl) ?_
    refine y_st rfl rfl rfl rfl rfl (fun _ _ => rfl) ?_
    show yP (xg xs) (d + 1) 33 73 [(0, .ref 12), (1, .int l1), (2, .int l2), (4, .int l4), (5, .int l5)] [.int l1, .int l2, .int l5, .ref 12] m Q
    refine y_call rfl rfl rfl rfl rfl (Nat.le_of_ble_eq_true rfl) (Nat.le_of_ble_eq_true rfl) rfl (by decide) H (fun v1 m1 H => ?_)
    obtain ⟨u1, rfl, H⟩ := H
    show yP (xg xs) (d + 1) 33 76 [(0, .ref 12), (1, .int l1), (2, .int l2), (4, .int l4), (5, .int l5)] [.int u1] m1 Q
    refine y_zeq (t := 82) rfl rfl rfl (fun h => ?_) (fun h => ?_)
    · replace H := H.1 h; clear h
      refine y_st rfl rfl rfl rfl rfl (fun _ _ => rfl) ?_
      refine y_gf rfl rfl rfl rfl rfl ?_
      refine y_st rfl rfl rfl rfl rfl (fun _ _ => rfl) ?_
      show yP (xg xs) (d + 1) 33 88 [(0, .ref 12), (1, .int l1), (2, .int l2), (4, .int l4), (5, .int l5)] [.int l5, .ref 15] m1 Q
      refine y_iald rfl rfl rfl (H.1) ?_
      replace H := H.2
      refine y_st rfl rfl rfl rfl rfl (fun _ _ => rfl) ?_
      refine y_st rfl rfl rfl rfl rfl (fun _ _ => rfl) ?_
      show yP (xg xs) (d + 1) 33 63 [(5, .int (m1.1 15 l5.toNatClampNeg)), (0, .ref 12), (1, .int l1), (2, .int l2), (4, .int l4)] [] m1 Q
      refine y_headS (l2 := [(0, .ref 12), (1, .int l1), (2, .int l2), (4, .int l4), (5, .int (m1.1 15 l5.toNatClampNeg))]) [1, 2, 3, 4, 0] [0, 1, 2, 4, 5] [5, 0, 1, 2, 4] rfl rfl (by decide) rfl (by decide) ?_
      exact H
    · replace H := H.2 h; clear h
      refine y_st rfl rfl rfl rfl rfl (fun _ _ => rfl) ?_
      show yP (xg xs) (d + 1) 33 81 [(0, .ref 12), (1, .int l1), (2, .int l2), (4, .int l4), (5, .int l5)] [.int l5] m1 Q
      exact y_iret rfl rfl rfl H
set_option maxRecDepth 20000 in
/-- CodeMaker.Names.isSame from 0 on -/
theorem w34_0 (xs : List Int32) (d : Nat) (l1 : Int32) (l2 : Int32) (l3 : Int32) (m : yM) (Q : Option Value → yM → Prop) (H : (x_in (l1 + (1 : Int32)) 4173 = true ∧ (x_in l1 4173 = true ∧ ((((m.1 14 ((l1 + (1 : Int32)).toNatClampNeg)) - (m.1 14 l1.toNatClampNeg)) = l3 → yP (xg xs) (d + 1) 34 24 [(0, .ref 12), (1, .int l1), (2, .int l2), (3, .int l3), (4, .int (0 : Int32))] [] m Q) ∧ (¬ ((m.1 14 ((l1 + (1 : Int32)).toNatClampNeg)) - (m.1 14 l1.toNatClampNeg)) = l3 → Q (some (.int (0 : Int32))) m))))) : yP (xg xs) (d + 1) 34 0 [(0, .ref 12), (1, .int l1), (2, .int l2), (3, .int l3)] [] m Q := by
  refine y_st rfl rfl rfl rfl rfl (fun _ _ => rfl) ?_
  refine y_gf rfl rfl rfl rfl rfl ?_
  refine y_st rfl rfl rfl rfl rfl (fun _ _ => rfl) ?_
  refine y_st rfl rfl rfl rfl rfl (fun _ _ => rfl) ?_
  refine y_st rfl rfl rfl rfl rfl (fun _ _ => rfl) ?_
  show yP (xg xs) (d + 1) 34 7 [(0, .ref 12), (1, .int l1), (2, .int l2), (3, .int l3)] [.int (l1 + (1 : Int32)), .ref 14] m Q
  refine y_iald rfl rfl rfl (H.1) ?_
  replace H := H.2
  refine y_st rfl rfl rfl rfl rfl (fun _ _ => rfl) ?_
  refine y_gf rfl rfl rfl rfl rfl ?_
  refine y_st rfl rfl rfl rfl rfl (fun _ _ => rfl) ?_
  show yP (xg xs) (d + 1) 34 13 [(0, .ref 12), (1, .int l1), (2, .int l2), (3, .int l3)] [.int l1, .ref 14, .int (m.1 14 ((l1 + (1 : Int32)).toNatClampNeg))] m Q
  refine y_iald rfl rfl rfl (H.1) ?_
  replace H := H.2
  refine y_st rfl rfl rfl rfl rfl (fun _ _ => rfl) ?_
  refine y_st rfl rfl rfl rfl rfl (fun _ _ => rfl) ?_
  show yP (xg xs) (d + 1) 34 16 [(0, .ref 12), (1, .int l1), (2, .int l2), (3, .int l3)] [.int l3, .int ((m.1 14 ((l1 + (1 : Int32)).toNatClampNeg)) - (m.1 14 l1.toNatClampNeg))] m Q
  refine y_ieq (t := 21) rfl rfl rfl (fun h => ?_) (fun h => ?_)
  · replace H := H.1 h; clear h
    refine y_st rfl rfl rfl rfl rfl (fun _ _ => rfl) ?_
    refine y_st rfl rfl rfl rfl rfl (fun _ _ => rfl) ?_
    show yP (xg xs) (d + 1) 34 24 [(4, .int (0 : Int32)), (0, .ref 12), (1, .int l1), (2, .int l2), (3, .int l3)] [] m Q
    refine y_headS (l2 := [(0, .ref 12), (1, .int l1), (2, .int l2), (3, .int l3), (4, .int (0 : Int32))]) [1, 2, 3, 4, 0] [0, 1, 2, 3, 4] [4, 0, 1, 2, 3] rfl rfl (by decide) rfl (by decide) ?_
    exact H
  · replace H := H.2 h; clear h
    refine y_st rfl rfl rfl rfl rfl (fun _ _ => rfl) ?_
    show yP (xg xs) (d + 1) 34 20 [(0, .ref 12), (1, .int l1), (2, .int l2), (3, .int l3)] [.int (0 : Int32)] m Q
    exact y_zret rfl rfl rfl (by decide) H
set_option maxRecDepth 20000 in
/-- CodeMaker.Names.isSame from 24 on -/
theorem w34_24 (xs : List Int32) (d : Nat) (l1 : Int32) (l2 : Int32) (l3 : Int32) (l4 : Int32) (m : yM) (Q : Option Value → yM → Prop) (H : ((l3 ≤ l4 → Q (some (.int (1 : Int32))) m) ∧ (¬ l3 ≤ l4 → (x_in l1 4173 = true ∧ (x_in ((m.1 14 l1.toNatClampNeg) + l4) 8704 = true ∧ (x_in (l2 + l4) 8704 = true ∧ (((m.1 13 (((m.1 14 l1.toNatClampNeg) + l4).toNatClampNeg)) = (m.1 13 ((l2 + l4).toNatClampNeg)) → yP (xg xs) (d + 1) 34 24 [(0, .ref 12), (1, .int l1), (2, .int l2), (3, .int l3), (4, .int (l4 + (1 : Int32)))] [] m Q) ∧ (¬ (m.1 13 (((m.1 14 l1.toNatClampNeg) + l4).toNatClampNeg)) = (m.1 13 ((l2 + l4).toNatClampNeg)) → Q (some (.int (0 : Int32))) m)))))))) : yP (xg xs) (d + 1) 34 24 [(0, .ref 12), (1, .int l1), (2, .int l2), (3, .int l3), (4, .int l4)] [] m Q := by
  refine y_st rfl rfl rfl rfl rfl (fun _ _ => rfl) ?_
  refine y_st rfl rfl rfl rfl rfl (fun _ _ => rfl) ?_
  show yP (xg xs) (d + 1) 34 27 [(0, .ref 12), (1, .int l1), (2, .int l2), (3, .int l3), (4, .int l4)] [.int l3, .int l4] m Q
  refine y_ige (t := 64) rfl rfl rfl (fun h => ?_) (fun h => ?_)
  · replace H := H.1 h; clear h
    refine y_st rfl rfl rfl rfl rfl (fun _ _ => rfl) ?_
    show yP (xg xs) (d + 1) 34 65 [(0, .ref 12), (1, .int l1), (2, .int l2), (3, .int l3), (4, .int l4)] [.int (1 : Int32)] m Q
    exact y_zret rfl rfl rfl (by decide) H
  · replace H := H.2 h; clear h
    refine y_st rfl rfl rfl rfl rfl (fun _ _ => rfl) ?_
    refine y_gf rfl rfl rfl rfl rfl ?_
    refine y_st rfl rfl rfl rfl rfl (fun _ _ => rfl) ?_
    refine y_gf rfl rfl rfl rfl rfl ?_
    refine y_st rfl rfl rfl rfl rfl (fun _ _ => rfl) ?_
    show yP (xg xs) (d + 1) 34 39 [(0, .ref 12), (1, .int l1), (2, .int l2), (3, .int l3), (4, .int l4)] [.int l1, .ref 14, .ref 13] m Q
    refine y_iald rfl rfl rfl (H.1) ?_
    replace H := H.2
    refine y_st rfl rfl rfl rfl rfl (fun _ _ => rfl) ?_
    refine y_st rfl rfl rfl rfl rfl (fun _ _ => rfl) ?_
    show yP (xg xs) (d + 1) 34 43 [(0, .ref 12), (1, .int l1), (2, .int l2), (3, .int l3), (4, .int l4)] [.int ((m.1 14 l1.toNatClampNeg) + l4), .ref 13] m Q
    refine y_bald rfl rfl rfl (by decide) (H.1) ?_
    replace H := H.2
    refine y_st rfl rfl rfl rfl rfl (fun _ _ => rfl) ?_
    refine y_gf rfl rfl rfl rfl rfl ?_
    refine y_st rfl rfl rfl rfl rfl (fun _ _ => rfl) ?_
    refine y_st rfl rfl rfl rfl rfl (fun _ _ => rfl) ?_
    refine y_st rfl rfl rfl rfl rfl (fun _ _ => rfl) ?_
    show yP (xg xs) (d + 1) 34 52 [(0, .ref 12), (1, .int l1), (2, .int l2), (3, .int l3), (4, .int l4)] [.int (l2 + l4), .ref 13, .int (m.1 13 (((m.1 14 l1.toNatClampNeg) + l4).toNatClampNeg))] m Q
    refine y_bald rfl rfl rfl (by decide) (H.1) ?_
    replace H := H.2
    show yP (xg xs) (d + 1) 34 53 [(0, .ref 12), (1, .int l1), (2, .int l2), (3, .int l3), (4, .int l4)] [.int (m.1 13 ((l2 + l4).toNatClampNeg)), .int (m.1 13 (((m.1 14 l1.toNatClampNeg) + l4).toNatClampNeg))] m Q
    refine y_ieq (t := 58) rfl rfl rfl (fun h => ?_) (fun h => ?_)
    · replace H := H.1 h; clear h
      refine y_st rfl rfl rfl rfl rfl (fun _ _ => rfl) ?_
      refine y_st rfl rfl rfl rfl rfl (fun _ _ => rfl) ?_
      show yP (xg xs) (d + 1) 34 24 [(4, .int (l4 + (1 : Int32))), (0, .ref 12), (1, .int l1), (2, .int l2), (3, .int l3)] [] m Q
      refine y_headS (l2 := [(0, .ref 12), (1, .int l1), (2, .int l2), (3, .int l3), (4, .int (l4 + (1 : Int32)))]) [1, 2, 3, 4, 0] [0, 1, 2, 3, 4] [4, 0, 1, 2, 3] rfl rfl (by decide) rfl (by decide) ?_
      exact H
    · replace H := H.2 h; clear h
      refine y_st rfl rfl rfl rfl rfl (fun _ _ => rfl) ?_
      show yP (xg xs) (d + 1) 34 57 [(0, .ref 12), (1, .int l1), (2, .int l2), (3, .int l3), (4, .int l4)] [.int (0 : Int32)] m Q
      exact y_zret rfl rfl rfl (by decide) H
set_option maxRecDepth 20000 in
/-- CodeMaker.Tokens.behindBlanks from 0 on -/
theorem w35_0 (xs : List Int32) (d : Nat) (l1 : Int32) (m : yM) (Q : Option Value → yM → Prop) (H : yP (xg xs) (d + 1) 35 4 [(0, .ref 8), (2, .int l1), (3, .int (0 : Int32))] [] m Q) : yP (xg xs) (d + 1) 35 0 [(0, .ref 8), (1, .int l1)] [] m Q := by
  refine y_st rfl rfl rfl rfl rfl (fun _ _ => rfl) ?_
  refine y_st rfl rfl rfl rfl rfl (fun _ _ => rfl) ?_
  refine y_st rfl rfl rfl rfl rfl (fun _ _ => rfl) ?_
  refine y_st rfl rfl rfl rfl rfl (fun _ _ => rfl) ?_
  show yP (xg xs) (d + 1) 35 4 [(3, .int (0 : Int32)), (2, .int l1), (0, .ref 8), (1, .int l1)] [] m Q
  refine y_headS (l2 := [(0, .ref 8), (2, .int l1), (3, .int (0 : Int32))]) [2, 1, 0] [0, 2, 3] [3, 2, 0, 1] rfl rfl (by decide) rfl (by decide) ?_
  exact H
set_option maxRecDepth 20000 in
/-- CodeMaker.Tokens.behindBlanks from 4 on -/
theorem w35_4 (xs : List Int32) (d : Nat) (l2 : Int32) (l3 : Int32) (m : yM) (Q : Option Value → yM → Prop) (H : (((8192 : Int32) ≤ l3 → Q (some (.int l2)) m) ∧ (¬ (8192 : Int32) ≤ l3 → (yC (xg xs) d 36 [.ref 8, .int l2] m (fun v1 m1 => ∃ u1, v1 = some (Value.int u1) ∧ ((u1 = (9 : Int32) → yP (xg xs) (d + 1) 35 46 [(0, .ref 8), (2, .int l2), (3, .int l3)] [] m1 Q) ∧ (¬ u1 = (9 : Int32) → ((u1 = (10 : Int32) → yP (xg xs) (d + 1) 35 46 [(0, .ref 8), (2, .int l2), (3, .int l3)] [] m1 Q) ∧ (¬ u1 = (10 : Int32) → ((u1 = (13 : Int32) → yP (xg xs) (d + 1) 35 46 [(0, .ref 8), (2, .int l2), (3, .int l3)] [] m1 Q) ∧ (¬ u1 = (13 : Int32) → ((¬ u1 = (32 : Int32) → ((¬ u1 = (40 : Int32) → Q (some (.int l2)) m1) ∧ (u1 = (40 : Int32) → (yC (xg xs) d 36 [.ref 8, .int (l2 + (1 : Int32))] m1 (fun v2 m2 => ∃ u2, v2 = some (Value.int u2) ∧ ((¬ u2 = (42 : Int32) → Q (some (.int l2)) m2) ∧ (u2 = (42 : Int32) → (yC (xg xs) d 37 [.ref 8, .int (l2 + (2 : Int32))] m2 (fun v3 m3 => ∃ u3, v3 = some (Value.int u3) ∧ ((¬ u3 = ((-1) : Int32) → yP (xg xs) (d + 1) 35 101 [(0, .ref 8), (2, .int u3), (3, .int l3)] [] m3 Q) ∧ (u3 = ((-1) : Int32) → (yC (xg xs) d 38 [.ref 8, .int (2 : Int32), .int l2] m3 (fun v4 m4 => ∃ u4, v4 = some (Value.int u4) ∧ Q (some (.int u4)) m4))))))))))))) ∧ (u1 = (32 : Int32) → yP (xg xs) (d + 1) 35 46 [(0, .ref 8), (2, .int l2), (3, .int l3)] [] m1 Q))))))))))))) : yP (xg xs) (d + 1) 35 4 [(0, .ref 8), (2, .int l2), (3, .int l3)] [] m Q := by
  refine y_st rfl rfl rfl rfl rfl (fun _ _ => rfl) ?_
  refine y_st rfl rfl rfl rfl rfl (fun _ _ => rfl) ?_
  show yP (xg xs) (d + 1) 35 8 [(0, .ref 8), (2, .int l2), (3, .int l3)] [.int (8192 : Int32), .int l3] m Q
  refine y_ige (t := 107) rfl rfl rfl (fun h => ?_) (fun h => ?_)
  · replace H := H.1 h; clear h
    refine y_st rfl rfl rfl rfl rfl (fun _ _ => rfl) ?_
    show yP (xg xs) (d + 1) 35 108 [(0, .ref 8), (2, .int l2), (3, .int l3)] [.int l2] m Q
    exact y_iret rfl rfl rfl H
  · replace H := H.2 h; clear h
    refine y_st rfl rfl rfl rfl rfl (fun _ _ => rfl) ?_
    refine y_st rfl rfl rfl rfl rfl (fun _ _ => rfl) ?_
    show yP (xg xs) (d + 1) 35 13 [(0, .ref 8), (2, .int l2), (3, .int l3)] [.int l2, .ref 8] m Q
    refine y_call rfl rfl rfl rfl rfl (Nat.le_of_ble_eq_true rfl) (Nat.le_of_ble_eq_true rfl) rfl (by decide) H (fun v1 m1 H => ?_)
    obtain ⟨u1, rfl, H⟩ := H
    refine y_st rfl rfl rfl rfl rfl (fun _ _ => rfl) ?_
    refine y_st rfl rfl rfl rfl rfl (fun _ _ => rfl) ?_
    refine y_st rfl rfl rfl rfl rfl (fun _ _ => rfl) ?_
    show yP (xg xs) (d + 1) 35 22 [(4, .int u1), (0, .ref 8), (2, .int l2), (3, .int l3)] [.int (9 : Int32), .int u1] m1 Q
    refine y_ieq (t := 46) rfl rfl rfl (fun h => ?_) (fun h => ?_)
    · replace H := H.1 h; clear h
      show yP (xg xs) (d + 1) 35 46 [(4, .int u1), (0, .ref 8), (2, .int l2), (3, .int l3)] [] m1 Q
      refine y_headS (l2 := [(0, .ref 8), (2, .int l2), (3, .int l3)]) [1, 2, 3] [0, 2, 3] [4, 0, 2, 3] rfl rfl (by decide) rfl (by decide) ?_
      exact H
    · replace H := H.2 h; clear h
      refine y_st rfl rfl rfl rfl rfl (fun _ _ => rfl) ?_
      refine y_st rfl rfl rfl rfl rfl (fun _ _ => rfl) ?_
      show yP (xg xs) (d + 1) 35 29 [(4, .int u1), (0, .ref 8), (2, .int l2), (3, .int l3)] [.int (10 : Int32), .int u1] m1 Q
      refine y_ieq (t := 46) rfl rfl rfl (fun h => ?_) (fun h => ?_)
      · replace H := H.1 h; clear h
        show yP (xg xs) (d + 1) 35 46 [(4, .int u1), (0, .ref 8), (2, .int l2), (3, .int l3)] [] m1 Q
        refine y_headS (l2 := [(0, .ref 8), (2, .int l2), (3, .int l3)]) [1, 2, 3] [0, 2, 3] [4, 0, 2, 3] rfl rfl (by decide) rfl (by decide) ?_
        exact H
      · replace H := H.2 h; clear h
        refine y_st rfl rfl rfl rfl rfl (fun _ _ => rfl) ?_
        refine y_st rfl rfl rfl rfl rfl (fun _ _ => rfl) ?_
        show yP (xg xs) (d + 1) 35 36 [(4, .int u1), (0, .ref 8), (2, .int l2), (3, .int l3)] [.int (13 : Int32), .int u1] m1 Q
        refine y_ieq (t := 46) rfl rfl rfl (fun h => ?_) (fun h => ?_)
        · replace H := H.1 h; clear h
          show yP (xg xs) (d + 1) 35 46 [(4, .int u1), (0, .ref 8), (2, .int l2), (3, .int l3)] [] m1 Q
          refine y_headS (l2 := [(0, .ref 8), (2, .int l2), (3, .int l3)]) [1, 2, 3] [0, 2, 3] [4, 0, 2, 3] rfl rfl (by decide) rfl (by decide) ?_
          exact H
        · replace H := H.2 h; clear h
          refine y_st rfl rfl rfl rfl rfl (fun _ _ => rfl) ?_
          refine y_st rfl rfl rfl rfl rfl (fun _ _ => rfl) ?_
          show yP (xg xs) (d + 1) 35 43 [(4, .int u1), (0, .ref 8), (2, .int l2), (3, .int l3)] [.int (32 : Int32), .int u1] m1 Q
          refine y_ine (t := 52) rfl rfl rfl (fun h => ?_) (fun h => ?_)
          · replace H := H.1 h; clear h
            refine y_st rfl rfl rfl rfl rfl (fun _ _ => rfl) ?_
            refine y_st rfl rfl rfl rfl rfl (fun _ _ => rfl) ?_
            show yP (xg xs) (d + 1) 35 56 [(4, .int u1), (0, .ref 8), (2, .int l2), (3, .int l3)] [.int (40 : Int32), .int u1] m1 Q
            refine y_ine (t := 99) rfl rfl rfl (fun h => ?_) (fun h => ?_)
            · replace H := H.1 h; clear h
              refine y_st rfl rfl rfl rfl rfl (fun _ _ => rfl) ?_
              show yP (xg xs) (d + 1) 35 100 [(4, .int u1), (0, .ref 8), (2, .int l2), (3, .int l3)] [.int l2] m1 Q
              exact y_iret rfl rfl rfl H
            · replace H := H.2 h; clear h
              refine y_st rfl rfl rfl rfl rfl (fun _ _ => rfl) ?_
              refine y_st rfl rfl rfl rfl rfl (fun _ _ => rfl) ?_
              refine y_st rfl rfl rfl rfl rfl (fun _ _ => rfl) ?_
              refine y_st rfl rfl rfl rfl rfl (fun _ _ => rfl) ?_
              show yP (xg xs) (d + 1) 35 63 [(4, .int u1), (0, .ref 8), (2, .int l2), (3, .int l3)] [.int (l2 + (1 : Int32)), .ref 8] m1 Q
              refine y_call rfl rfl rfl rfl rfl (Nat.le_of_ble_eq_true rfl) (Nat.le_of_ble_eq_true rfl) rfl (by decide) H (fun v2 m2 H => ?_)
              obtain ⟨u2, rfl, H⟩ := H
              refine y_st rfl rfl rfl rfl rfl (fun _ _ => rfl) ?_
              show yP (xg xs) (d + 1) 35 68 [(4, .int u1), (0, .ref 8), (2, .int l2), (3, .int l3)] [.int (42 : Int32), .int u2] m2 Q
              refine y_ine (t := 99) rfl rfl rfl (fun h => ?_) (fun h => ?_)
              · replace H := H.1 h; clear h
                refine y_st rfl rfl rfl rfl rfl (fun _ _ => rfl) ?_
                show yP (xg xs) (d + 1) 35 100 [(4, .int u1), (0, .ref 8), (2, .int l2), (3, .int l3)] [.int l2] m2 Q
                exact y_iret rfl rfl rfl H
              · replace H := H.2 h; clear h
                refine y_st rfl rfl rfl rfl rfl (fun _ _ => rfl) ?_
                refine y_st rfl rfl rfl rfl rfl (fun _ _ => rfl) ?_
                refine y_st rfl rfl rfl rfl rfl (fun _ _ => rfl) ?_
                refine y_st rfl rfl rfl rfl rfl (fun _ _ => rfl) ?_
                show yP (xg xs) (d + 1) 35 75 [(4, .int u1), (0, .ref 8), (2, .int l2), (3, .int l3)] [.int (l2 + (2 : Int32)), .ref 8] m2 Q
                refine y_call rfl rfl rfl rfl rfl (Nat.le_of_ble_eq_true rfl) (Nat.le_of_ble_eq_true rfl) rfl (by decide) H (fun v3 m3 H => ?_)
                obtain ⟨u3, rfl, H⟩ := H
                refine y_st rfl rfl rfl rfl rfl (fun _ _ => rfl) ?_
                refine y_st rfl rfl rfl rfl rfl (fun _ _ => rfl) ?_
                refine y_st rfl rfl rfl rfl rfl (fun _ _ => rfl) ?_
                show yP (xg xs) (d + 1) 35 83 [(5, .int u3), (4, .int u1), (0, .ref 8), (2, .int l2), (3, .int l3)] [.int ((-1) : Int32), .int u3] m3 Q
                refine y_ine (t := 93) rfl rfl rfl (fun h => ?_) (fun h => ?_)
                · replace H := H.1 h; clear h
                  refine y_st rfl rfl rfl rfl rfl (fun _ _ => rfl) ?_
                  refine y_st rfl rfl rfl rfl rfl (fun _ _ => rfl) ?_
                  refine y_st rfl rfl rfl rfl rfl (fun _ _ => rfl) ?_
                  show yP (xg xs) (d + 1) 35 101 [(2, .int u3), (5, .int u3), (4, .int u1), (0, .ref 8), (3, .int l3)] [] m3 Q
                  refine y_headS (l2 := [(0, .ref 8), (2, .int u3), (3, .int l3)]) [3, 0, 4] [0, 2, 3] [2, 5, 4, 0, 3] rfl rfl (by decide) rfl (by decide) ?_
                  exact H
                · replace H := H.2 h; clear h
                  refine y_st rfl rfl rfl rfl rfl (fun _ _ => rfl) ?_
                  refine y_st rfl rfl rfl rfl rfl (fun _ _ => rfl) ?_
                  refine y_st rfl rfl rfl rfl rfl (fun _ _ => rfl) ?_
                  show yP (xg xs) (d + 1) 35 89 [(5, .int u3), (4, .int u1), (0, .ref 8), (2, .int l2), (3, .int l3)] [.int l2, .int (2 : Int32), .ref 8] m3 Q
                  refine y_call rfl rfl rfl rfl rfl (Nat.le_of_ble_eq_true rfl) (Nat.le_of_ble_eq_true rfl) rfl (by decide) H (fun v4 m4 H => ?_)
                  obtain ⟨u4, rfl, H⟩ := H
                  show yP (xg xs) (d + 1) 35 92 [(5, .int u3), (4, .int u1), (0, .ref 8), (2, .int l2), (3, .int l3)] [.int u4] m4 Q
                  exact y_iret rfl rfl rfl H
          · replace H := H.2 h; clear h
            show yP (xg xs) (d + 1) 35 46 [(4, .int u1), (0, .ref 8), (2, .int l2), (3, .int l3)] [] m1 Q
            refine y_headS (l2 := [(0, .ref 8), (2, .int l2), (3, .int l3)]) [1, 2, 3] [0, 2, 3] [4, 0, 2, 3] rfl rfl (by decide) rfl (by decide) ?_
            exact H
set_option maxRecDepth 20000 in
/-- CodeMaker.Tokens.behindBlanks from 46 on -/
theorem w35_46 (xs : List Int32) (d : Nat) (l2 : Int32) (l3 : Int32) (m : yM) (Q : Option Value → yM → Prop) (H : yP (xg xs) (d + 1) 35 101 [(0, .ref 8), (2, .int (l2 + (1 : Int32))), (3, .int l3)] [] m Q) : yP (xg xs) (d + 1) 35 46 [(0, .ref 8), (2, .int l2), (3, .int l3)] [] m Q := by
  refine y_st rfl rfl rfl rfl rfl (fun _ _ => rfl) ?_
  refine y_st rfl rfl rfl rfl rfl (fun _ _ => rfl) ?_
  show yP (xg xs) (d + 1) 35 101 [(2, .int (l2 + (1 : Int32))), (0, .ref 8), (3, .int l3)] [] m Q
  refine y_headS (l2 := [(0, .ref 8), (2, .int (l2 + (1 : Int32))), (3, .int l3)]) [1, 0, 2] [0, 2, 3] [2, 0, 3] rfl rfl (by decide) rfl (by decide) ?_
  exact H
set_option maxRecDepth 20000 in
/-- CodeMaker.Tokens.behindBlanks from 101 on -/
theorem w35_101 (xs : List Int32) (d : Nat) (l2 : Int32) (l3 : Int32) (m : yM) (Q : Option Value → yM → Prop) (H : yP (xg xs) (d + 1) 35 4 [(0, .ref 8), (2, .int l2), (3, .int (l3 + (1 : Int32)))] [] m Q) : yP (xg xs) (d + 1) 35 101 [(0, .ref 8), (2, .int l2), (3, .int l3)] [] m Q := by
  refine y_st rfl rfl rfl rfl rfl (fun _ _ => rfl) ?_
  refine y_st rfl rfl rfl rfl rfl (fun _ _ => rfl) ?_
  show yP (xg xs) (d + 1) 35 4 [(3, .int (l3 + (1 : Int32))), (0, .ref 8), (2, .int l2)] [] m Q
  refine y_headS (l2 := [(0, .ref 8), (2, .int l2), (3, .int (l3 + (1 : Int32)))]) [1, 2, 0] [0, 2, 3] [3, 0, 2] rfl rfl (by decide) rfl (by decide) ?_
  exact H
set_option maxRecDepth 20000 in
/-- CodeMaker.Tokens.byteAt from 0 on -/
theorem w36_0 (xs : List Int32) (d : Nat) (l1 : Int32) (m : yM) (Q : Option Value → yM → Prop) (H : ((l1 < 0 → Q (some (.int ((-1) : Int32))) m) ∧ (¬ l1 < 0 → (((m.1 8 5) ≤ l1 → Q (some (.int ((-1) : Int32))) m) ∧ (¬ (m.1 8 5) ≤ l1 → (¬ m.1 8 4 = 0 ∧ (x_in l1 8192 = true ∧ Q (some (.int ((m.1 1 l1.toNatClampNeg) &&& (255 : Int32)))) m))))))) : yP (xg xs) (d + 1) 36 0 [(0, .ref 8), (1, .int l1)] [] m Q := by
  refine y_st rfl rfl rfl rfl rfl (fun _ _ => rfl) ?_
  show yP (xg xs) (d + 1) 36 1 [(0, .ref 8), (1, .int l1)] [.int l1] m Q
  refine y_zlt (t := 25) rfl rfl rfl (fun h => ?_) (fun h => ?_)
  · replace H := H.1 h; clear h
    refine y_st rfl rfl rfl rfl rfl (fun _ _ => rfl) ?_
    show yP (xg xs) (d + 1) 36 26 [(0, .ref 8), (1, .int l1)] [.int ((-1) : Int32)] m Q
    exact y_iret rfl rfl rfl H
  · replace H := H.2 h; clear h
    refine y_st rfl rfl rfl rfl rfl (fun _ _ => rfl) ?_
    refine y_st rfl rfl rfl rfl rfl (fun _ _ => rfl) ?_
    refine y_gf rfl rfl rfl rfl rfl ?_
    show yP (xg xs) (d + 1) 36 9 [(0, .ref 8), (1, .int l1)] [.int (m.1 8 5), .int l1] m Q
    refine y_ige (t := 25) rfl rfl rfl (fun h => ?_) (fun h => ?_)
    · replace H := H.1 h; clear h
      refine y_st rfl rfl rfl rfl rfl (fun _ _ => rfl) ?_
      show yP (xg xs) (d + 1) 36 26 [(0, .ref 8), (1, .int l1)] [.int ((-1) : Int32)] m Q
      exact y_iret rfl rfl rfl H
    · replace H := H.2 h; clear h
      refine y_st rfl rfl rfl rfl rfl (fun _ _ => rfl) ?_
      refine y_gf rfl rfl rfl rfl rfl ?_
      rw [show y_v _ 8 _ (.retAddr 1) = .ref 1 from if_neg H.1]
      replace H := H.2
      refine y_st rfl rfl rfl rfl rfl (fun _ _ => rfl) ?_
      show yP (xg xs) (d + 1) 36 17 [(0, .ref 8), (1, .int l1)] [.int l1, .ref 1] m Q
      refine y_bald rfl rfl rfl (by decide) (H.1) ?_
      replace H := H.2
      refine y_st rfl rfl rfl rfl rfl (fun _ _ => rfl) ?_
      refine y_st rfl rfl rfl rfl rfl (fun _ _ => rfl) ?_
      refine y_st rfl rfl rfl rfl rfl (fun _ _ => rfl) ?_
      show yP (xg xs) (d + 1) 36 26 [(0, .ref 8), (1, .int l1)] [.int ((m.1 1 l1.toNatClampNeg) &&& (255 : Int32))] m Q
      exact y_iret rfl rfl rfl H
set_option maxRecDepth 20000 in
/-- CodeMaker.Tokens.behindRemark from 0 on -/
theorem w37_0 (xs : List Int32) (d : Nat) (l1 : Int32) (m : yM) (Q : Option Value → yM → Prop) (H : yP (xg xs) (d + 1) 37 2 [(0, .ref 8), (2, .int l1)] [] m Q) : yP (xg xs) (d + 1) 37 0 [(0, .ref 8), (1, .int l1)] [] m Q := by
  refine y_st rfl rfl rfl rfl rfl (fun _ _ => rfl) ?_
  refine y_st rfl rfl rfl rfl rfl (fun _ _ => rfl) ?_
  show yP (xg xs) (d + 1) 37 2 [(2, .int l1), (0, .ref 8), (1, .int l1)] [] m Q
  refine y_headS (l2 := [(0, .ref 8), (2, .int l1)]) [1, 0] [0, 2] [2, 0, 1] rfl rfl (by decide) rfl (by decide) ?_
  exact H
set_option maxRecDepth 20000 in
/-- CodeMaker.Tokens.behindRemark from 2 on -/
theorem w37_2 (xs : List Int32) (d : Nat) (l2 : Int32) (m : yM) (Q : Option Value → yM → Prop) (H : (((m.1 8 5) ≤ (l2 + (1 : Int32)) → Q (some (.int ((-1) : Int32))) m) ∧ (¬ (m.1 8 5) ≤ (l2 + (1 : Int32)) → (¬ m.1 8 4 = 0 ∧ (x_in l2 8192 = true ∧ ((¬ (m.1 1 l2.toNatClampNeg) = (42 : Int32) → yP (xg xs) (d + 1) 37 40 [(0, .ref 8), (2, .int l2)] [] m Q) ∧ ((m.1 1 l2.toNatClampNeg) = (42 : Int32) → (¬ m.1 8 4 = 0 ∧ (x_in (l2 + (1 : Int32)) 8192 = true ∧ ((¬ (m.1 1 ((l2 + (1 : Int32)).toNatClampNeg)) = (41 : Int32) → yP (xg xs) (d + 1) 37 40 [(0, .ref 8), (2, .int l2)] [] m Q) ∧ ((m.1 1 ((l2 + (1 : Int32)).toNatClampNeg)) = (41 : Int32) → Q (some (.int (l2 + (2 : Int32)))) m))))))))))) : yP (xg xs) (d + 1) 37 2 [(0, .ref 8), (2, .int l2)] [] m Q := by
  refine y_st rfl rfl rfl rfl rfl (fun _ _ => rfl) ?_
  refine y_st rfl rfl rfl rfl rfl (fun _ _ => rfl) ?_
  refine y_st rfl rfl rfl rfl rfl (fun _ _ => rfl) ?_
  refine y_st rfl rfl rfl rfl rfl (fun _ _ => rfl) ?_
  refine y_gf rfl rfl rfl rfl rfl ?_
  show yP (xg xs) (d + 1) 37 9 [(0, .ref 8), (2, .int l2)] [.int (m.1 8 5), .int (l2 + (1 : Int32))] m Q
  refine y_ige (t := 46) rfl rfl rfl (fun h => ?_) (fun h => ?_)
  · replace H := H.1 h; clear h
    refine y_st rfl rfl rfl rfl rfl (fun _ _ => rfl) ?_
    show yP (xg xs) (d + 1) 37 47 [(0, .ref 8), (2, .int l2)] [.int ((-1) : Int32)] m Q
    exact y_iret rfl rfl rfl H
  · replace H := H.2 h; clear h
    refine y_st rfl rfl rfl rfl rfl (fun _ _ => rfl) ?_
    refine y_gf rfl rfl rfl rfl rfl ?_
    rw [show y_v _ 8 _ (.retAddr 1) = .ref 1 from if_neg H.1]
    replace H := H.2
    refine y_st rfl rfl rfl rfl rfl (fun _ _ => rfl) ?_
    show yP (xg xs) (d + 1) 37 17 [(0, .ref 8), (2, .int l2)] [.int l2, .ref 1] m Q
    refine y_bald rfl rfl rfl (by decide) (H.1) ?_
    replace H := H.2
    refine y_st rfl rfl rfl rfl rfl (fun _ _ => rfl) ?_
    show yP (xg xs) (d + 1) 37 20 [(0, .ref 8), (2, .int l2)] [.int (42 : Int32), .int (m.1 1 l2.toNatClampNeg)] m Q
    refine y_ine (t := 40) rfl rfl rfl (fun h => ?_) (fun h => ?_)
    · replace H := H.1 h; clear h
      show yP (xg xs) (d + 1) 37 40 [(0, .ref 8), (2, .int l2)] [] m Q
      exact H
    · replace H := H.2 h; clear h
      refine y_st rfl rfl rfl rfl rfl (fun _ _ => rfl) ?_
      refine y_gf rfl rfl rfl rfl rfl ?_
      rw [show y_v _ 8 _ (.retAddr 1) = .ref 1 from if_neg H.1]
      replace H := H.2
      refine y_st rfl rfl rfl rfl rfl (fun _ _ => rfl) ?_
      refine y_st rfl rfl rfl rfl rfl (fun _ _ => rfl) ?_
      refine y_st rfl rfl rfl rfl rfl (fun _ _ => rfl) ?_
      show yP (xg xs) (d + 1) 37 30 [(0, .ref 8), (2, .int l2)] [.int (l2 + (1 : Int32)), .ref 1] m Q
      refine y_bald rfl rfl rfl (by decide) (H.1) ?_
      replace H := H.2
      refine y_st rfl rfl rfl rfl rfl (fun _ _ => rfl) ?_
      show yP (xg xs) (d + 1) 37 33 [(0, .ref 8), (2, .int l2)] [.int (41 : Int32), .int (m.1 1 ((l2 + (1 : Int32)).toNatClampNeg))] m Q
      refine y_ine (t := 40) rfl rfl rfl (fun h => ?_) (fun h => ?_)
      · replace H := H.1 h; clear h
        show yP (xg xs) (d + 1) 37 40 [(0, .ref 8), (2, .int l2)] [] m Q
        exact H
      · replace H := H.2 h; clear h
        refine y_st rfl rfl rfl rfl rfl (fun _ _ => rfl) ?_
        refine y_st rfl rfl rfl rfl rfl (fun _ _ => rfl) ?_
        refine y_st rfl rfl rfl rfl rfl (fun _ _ => rfl) ?_
        show yP (xg xs) (d + 1) 37 39 [(0, .ref 8), (2, .int l2)] [.int (l2 + (2 : Int32))] m Q
        exact y_iret rfl rfl rfl H
set_option maxRecDepth 20000 in
/-- CodeMaker.Tokens.behindRemark from 40 on -/
theorem w37_40 (xs : List Int32) (d : Nat) (l2 : Int32) (m : yM) (Q : Option Value → yM → Prop) (H : yP (xg xs) (d + 1) 37 2 [(0, .ref 8), (2, .int (l2 + (1 : Int32)))] [] m Q) : yP (xg xs) (d + 1) 37 40 [(0, .ref 8), (2, .int l2)] [] m Q := by
  refine y_st rfl rfl rfl rfl rfl (fun _ _ => rfl) ?_
  refine y_st rfl rfl rfl rfl rfl (fun _ _ => rfl) ?_
  show yP (xg xs) (d + 1) 37 2 [(2, .int (l2 + (1 : Int32))), (0, .ref 8)] [] m Q
  refine y_headS (l2 := [(0, .ref 8), (2, .int (l2 + (1 : Int32)))]) [1, 0] [0, 2] [2, 0] rfl rfl (by decide) rfl (by decide) ?_
  exact H
set_option maxRecDepth 20000 in
/-- CodeMaker.Tokens.bad from 0 on -/
theorem w38_0 (xs : List Int32) (d : Nat) (l1 : Int32) (l2 : Int32) (m : yM) (Q : Option Value → yM → Prop) (H : (yC (xg xs) d 39 [.ref 8, .int (68 : Int32), .int l2, .int l1] m (fun v1 m1 => v1 = none ∧ Q (some (.int (m1.1 8 5))) (y_si m1 8 8 (1 : Int32))))) : yP (xg xs) (d + 1) 38 0 [(0, .ref 8), (1, .int l1), (2, .int l2)] [] m Q := by
  refine y_st rfl rfl rfl rfl rfl (fun _ _ => rfl) ?_
  refine y_st rfl rfl rfl rfl rfl (fun _ _ => rfl) ?_
  refine y_st rfl rfl rfl rfl rfl (fun _ _ => rfl) ?_
  refine y_st rfl rfl rfl rfl rfl (fun _ _ => rfl) ?_
  show yP (xg xs) (d + 1) 38 5 [(0, .ref 8), (1, .int l1), (2, .int l2)] [.int l1, .int l2, .int (68 : Int32), .ref 8] m Q
  refine y_call rfl rfl rfl rfl rfl (Nat.le_of_ble_eq_true rfl) (Nat.le_of_ble_eq_true rfl) rfl (by decide) H (fun v1 m1 H => ?_)
  obtain ⟨rfl, H⟩ := H
  refine y_st rfl rfl rfl rfl rfl (fun _ _ => rfl) ?_
  refine y_st rfl rfl rfl rfl rfl (fun _ _ => rfl) ?_
  refine y_pfi rfl rfl rfl rfl rfl (x_fit_z (by decide)) ?_
  show yP (xg xs) (d + 1) 38 13 [(0, .ref 8), (1, .int l1), (2, .int l2)] [] (y_si m1 8 8 (1 : Int32)) Q
  refine y_st rfl rfl rfl rfl rfl (fun _ _ => rfl) ?_
  refine y_gf rfl rfl rfl rfl rfl ?_
  show yP (xg xs) (d + 1) 38 17 [(0, .ref 8), (1, .int l1), (2, .int l2)] [.int (m1.1 8 5)] (y_si m1 8 8 (1 : Int32)) Q
  exact y_iret rfl rfl rfl H
set_option maxRecDepth 20000 in
/-- CodeMaker.Tokens.add from 0 on -/
theorem w39_0 (xs : List Int32) (d : Nat) (l1 : Int32) (l2 : Int32) (l3 : Int32) (m : yM) (Q : Option Value → yM → Prop) (H : (((8192 : Int32) < (m.1 8 6) → Q none m) ∧ (¬ (8192 : Int32) < (m.1 8 6) → (x_in (m.1 8 6) 8193 = true ∧ (x_in (m.1 8 6) 8193 = true ∧ (x_in (m.1 8 6) 8193 = true ∧ Q none (y_si (y_si (y_si (y_si m 9 ((m.1 8 6).toNatClampNeg) l1) 10 ((m.1 8 6).toNatClampNeg) l2) 11 ((m.1 8 6).toNatClampNeg) l3) 8 6 ((m.1 8 6) + (1 : Int32))))))))) : yP (xg xs) (d + 1) 39 0 [(0, .ref 8), (1, .int l1), (2, .int l2), (3, .int l3)] [] m Q := by
  refine y_st rfl rfl rfl rfl rfl (fun _ _ => rfl) ?_
  refine y_gf rfl rfl rfl rfl rfl ?_
  refine y_st rfl rfl rfl rfl rfl (fun _ _ => rfl) ?_
  show yP (xg xs) (d + 1) 39 7 [(0, .ref 8), (1, .int l1), (2, .int l2), (3, .int l3)] [.int (8192 : Int32), .int (m.1 8 6)] m Q
  refine y_igt (t := 50) rfl rfl rfl (fun h => ?_) (fun h => ?_)
  · replace H := H.1 h; clear h
    show yP (xg xs) (d + 1) 39 50 [(0, .ref 8), (1, .int l1), (2, .int l2), (3, .int l3)] [] m Q
    exact y_ret rfl rfl rfl rfl H
  · replace H := H.2 h; clear h
    refine y_st rfl rfl rfl rfl rfl (fun _ _ => rfl) ?_
    refine y_gf rfl rfl rfl rfl rfl ?_
    refine y_st rfl rfl rfl rfl rfl (fun _ _ => rfl) ?_
    refine y_gf rfl rfl rfl rfl rfl ?_
    refine y_st rfl rfl rfl rfl rfl (fun _ _ => rfl) ?_
    show yP (xg xs) (d + 1) 39 19 [(0, .ref 8), (1, .int l1), (2, .int l2), (3, .int l3)] [.int l1, .int (m.1 8 6), .ref 9] m Q
    refine y_iast rfl rfl rfl (H.1) ?_
    replace H := H.2
    refine y_st rfl rfl rfl rfl rfl (fun _ _ => rfl) ?_
    refine y_gf rfl rfl rfl rfl rfl ?_
    refine y_st rfl rfl rfl rfl rfl (fun _ _ => rfl) ?_
    refine y_gf rfl rfl rfl rfl rfl ?_
    refine y_st rfl rfl rfl rfl rfl (fun _ _ => rfl) ?_
    show yP (xg xs) (d + 1) 39 29 [(0, .ref 8), (1, .int l1), (2, .int l2), (3, .int l3)] [.int l2, .int (m.1 8 6), .ref 10] (y_si m 9 ((m.1 8 6).toNatClampNeg) l1) Q
    refine y_iast rfl rfl rfl (H.1) ?_
    replace H := H.2
    refine y_st rfl rfl rfl rfl rfl (fun _ _ => rfl) ?_
    refine y_gf rfl rfl rfl rfl rfl ?_
    refine y_st rfl rfl rfl rfl rfl (fun _ _ => rfl) ?_
    refine y_gf rfl rfl rfl rfl rfl ?_
    refine y_st rfl rfl rfl rfl rfl (fun _ _ => rfl) ?_
    show yP (xg xs) (d + 1) 39 39 [(0, .ref 8), (1, .int l1), (2, .int l2), (3, .int l3)] [.int l3, .int (m.1 8 6), .ref 11] (y_si (y_si m 9 ((m.1 8 6).toNatClampNeg) l1) 10 ((m.1 8 6).toNatClampNeg) l2) Q
    refine y_iast rfl rfl rfl (H.1) ?_
    replace H := H.2
    refine y_st rfl rfl rfl rfl rfl (fun _ _ => rfl) ?_
    refine y_st rfl rfl rfl rfl rfl (fun _ _ => rfl) ?_
    refine y_gf rfl rfl rfl rfl rfl ?_
    refine y_st rfl rfl rfl rfl rfl (fun _ _ => rfl) ?_
    refine y_st rfl rfl rfl rfl rfl (fun _ _ => rfl) ?_
    refine y_pfi rfl rfl rfl rfl rfl (x_fit_i _) ?_
    show yP (xg xs) (d + 1) 39 50 [(0, .ref 8), (1, .int l1), (2, .int l2), (3, .int l3)] [] (y_si (y_si (y_si (y_si m 9 ((m.1 8 6).toNatClampNeg) l1) 10 ((m.1 8 6).toNatClampNeg) l2) 11 ((m.1 8 6).toNatClampNeg) l3) 8 6 ((m.1 8 6) + (1 : Int32))) Q
    show yP (xg xs) (d + 1) 39 50 [(0, .ref 8), (1, .int l1), (2, .int l2), (3, .int l3)] [] (y_si (y_si (y_si (y_si m 9 ((m.1 8 6).toNatClampNeg) l1) 10 ((m.1 8 6).toNatClampNeg) l2) 11 ((m.1 8 6).toNatClampNeg) l3) 8 6 ((m.1 8 6) + (1 : Int32))) Q
    exact y_ret rfl rfl rfl rfl H
set_option maxRecDepth 20000 in
/-- CodeMaker.Tokens.behindToken from 0 on -/
theorem w40_0 (xs : List Int32) (d : Nat) (l1 : Int32) (m : yM) (Q : Option Value → yM → Prop) (H : (yC (xg xs) d 36 [.ref 8, .int l1] m (fun v1 m1 => ∃ u1, v1 = some (Value.int u1) ∧ ((¬ u1 = ((-1) : Int32) → (yC (xg xs) d 41 [.int u1] m1 (fun v2 m2 => ∃ u2, v2 = some (Value.int u2) ∧ ((¬ u2 = (84 : Int32) → yP (xg xs) (d + 1) 40 56 [(0, .ref 8), (1, .int l1), (2, .int u1)] [] m2 Q) ∧ (u2 = (84 : Int32) → (yC (xg xs) d 36 [.ref 8, .int (l1 + (1 : Int32))] m2 (fun v3 m3 => ∃ u3, v3 = some (Value.int u3) ∧ ((¬ u3 = (35 : Int32) → yP (xg xs) (d + 1) 40 56 [(0, .ref 8), (1, .int l1), (2, .int u1)] [] m3 Q) ∧ (u3 = (35 : Int32) → (yC (xg xs) d 42 [.ref 8, .int l1] m3 (fun v4 m4 => ∃ u4, v4 = some (Value.int u4) ∧ Q (some (.int u4)) m4))))))))))) ∧ (u1 = ((-1) : Int32) → (yC (xg xs) d 39 [.ref 8, .int (67 : Int32), .int (m1.1 8 5), .int (0 : Int32)] m1 (fun v5 m5 => v5 = none ∧ Q (some (.int l1)) (y_si m5 8 8 (1 : Int32))))))))) : yP (xg xs) (d + 1) 40 0 [(0, .ref 8), (1, .int l1)] [] m Q := by
  refine y_st rfl rfl rfl rfl rfl (fun _ _ => rfl) ?_
  refine y_st rfl rfl rfl rfl rfl (fun _ _ => rfl) ?_
  show yP (xg xs) (d + 1) 40 2 [(0, .ref 8), (1, .int l1)] [.int l1, .ref 8] m Q
  refine y_call rfl rfl rfl rfl rfl (Nat.le_of_ble_eq_true rfl) (Nat.le_of_ble_eq_true rfl) rfl (by decide) H (fun v1 m1 H => ?_)
  obtain ⟨u1, rfl, H⟩ := H
  refine y_st rfl rfl rfl rfl rfl (fun _ _ => rfl) ?_
  refine y_st rfl rfl rfl rfl rfl (fun _ _ => rfl) ?_
  refine y_st rfl rfl rfl rfl rfl (fun _ _ => rfl) ?_
  show yP (xg xs) (d + 1) 40 8 [(2, .int u1), (0, .ref 8), (1, .int l1)] [.int ((-1) : Int32), .int u1] m1 Q
  refine y_ine (t := 29) rfl rfl rfl (fun h => ?_) (fun h => ?_)
  · replace H := H.1 h; clear h
    refine y_st rfl rfl rfl rfl rfl (fun _ _ => rfl) ?_
    show yP (xg xs) (d + 1) 40 30 [(2, .int u1), (0, .ref 8), (1, .int l1)] [.int u1] m1 Q
    refine y_call rfl rfl rfl rfl rfl (Nat.le_of_ble_eq_true rfl) (Nat.le_of_ble_eq_true rfl) rfl (by decide) H (fun v2 m2 H => ?_)
    obtain ⟨u2, rfl, H⟩ := H
    refine y_st rfl rfl rfl rfl rfl (fun _ _ => rfl) ?_
    show yP (xg xs) (d + 1) 40 35 [(2, .int u1), (0, .ref 8), (1, .int l1)] [.int (84 : Int32), .int u2] m2 Q
    refine y_ine (t := 56) rfl rfl rfl (fun h => ?_) (fun h => ?_)
    · replace H := H.1 h; clear h
      show yP (xg xs) (d + 1) 40 56 [(2, .int u1), (0, .ref 8), (1, .int l1)] [] m2 Q
      refine y_headS (l2 := [(0, .ref 8), (1, .int l1), (2, .int u1)]) [1, 2, 0] [0, 1, 2] [2, 0, 1] rfl rfl (by decide) rfl (by decide) ?_
      exact H
    · replace H := H.2 h; clear h
      refine y_st rfl rfl rfl rfl rfl (fun _ _ => rfl) ?_
      refine y_st rfl rfl rfl rfl rfl (fun _ _ => rfl) ?_
      refine y_st rfl rfl rfl rfl rfl (fun _ _ => rfl) ?_
      refine y_st rfl rfl rfl rfl rfl (fun _ _ => rfl) ?_
      show yP (xg xs) (d + 1) 40 42 [(2, .int u1), (0, .ref 8), (1, .int l1)] [.int (l1 + (1 : Int32)), .ref 8] m2 Q
      refine y_call rfl rfl rfl rfl rfl (Nat.le_of_ble_eq_true rfl) (Nat.le_of_ble_eq_true rfl) rfl (by decide) H (fun v3 m3 H => ?_)
      obtain ⟨u3, rfl, H⟩ := H
      refine y_st rfl rfl rfl rfl rfl (fun _ _ => rfl) ?_
      show yP (xg xs) (d + 1) 40 47 [(2, .int u1), (0, .ref 8), (1, .int l1)] [.int (35 : Int32), .int u3] m3 Q
      refine y_ine (t := 56) rfl rfl rfl (fun h => ?_) (fun h => ?_)
      · replace H := H.1 h; clear h
        show yP (xg xs) (d + 1) 40 56 [(2, .int u1), (0, .ref 8), (1, .int l1)] [] m3 Q
        refine y_headS (l2 := [(0, .ref 8), (1, .int l1), (2, .int u1)]) [1, 2, 0] [0, 1, 2] [2, 0, 1] rfl rfl (by decide) rfl (by decide) ?_
        exact H
      · replace H := H.2 h; clear h
        refine y_st rfl rfl rfl rfl rfl (fun _ _ => rfl) ?_
        refine y_st rfl rfl rfl rfl rfl (fun _ _ => rfl) ?_
        show yP (xg xs) (d + 1) 40 52 [(2, .int u1), (0, .ref 8), (1, .int l1)] [.int l1, .ref 8] m3 Q
        refine y_call rfl rfl rfl rfl rfl (Nat.le_of_ble_eq_true rfl) (Nat.le_of_ble_eq_true rfl) rfl (by decide) H (fun v4 m4 H => ?_)
        obtain ⟨u4, rfl, H⟩ := H
        show yP (xg xs) (d + 1) 40 55 [(2, .int u1), (0, .ref 8), (1, .int l1)] [.int u4] m4 Q
        exact y_iret rfl rfl rfl H
  · replace H := H.2 h; clear h
    refine y_st rfl rfl rfl rfl rfl (fun _ _ => rfl) ?_
    refine y_st rfl rfl rfl rfl rfl (fun _ _ => rfl) ?_
    refine y_st rfl rfl rfl rfl rfl (fun _ _ => rfl) ?_
    refine y_gf rfl rfl rfl rfl rfl ?_
    refine y_st rfl rfl rfl rfl rfl (fun _ _ => rfl) ?_
    show yP (xg xs) (d + 1) 40 19 [(2, .int u1), (0, .ref 8), (1, .int l1)] [.int (0 : Int32), .int (m1.1 8 5), .int (67 : Int32), .ref 8] m1 Q
    refine y_call rfl rfl rfl rfl rfl (Nat.le_of_ble_eq_true rfl) (Nat.le_of_ble_eq_true rfl) rfl (by decide) H (fun v5 m5 H => ?_)
    obtain ⟨rfl, H⟩ := H
    refine y_st rfl rfl rfl rfl rfl (fun _ _ => rfl) ?_
    refine y_st rfl rfl rfl rfl rfl (fun _ _ => rfl) ?_
    refine y_pfi rfl rfl rfl rfl rfl (x_fit_z (by decide)) ?_
    show yP (xg xs) (d + 1) 40 27 [(2, .int u1), (0, .ref 8), (1, .int l1)] [] (y_si m5 8 8 (1 : Int32)) Q
    refine y_st rfl rfl rfl rfl rfl (fun _ _ => rfl) ?_
    show yP (xg xs) (d + 1) 40 28 [(2, .int u1), (0, .ref 8), (1, .int l1)] [.int l1] (y_si m5 8 8 (1 : Int32)) Q
    exact y_iret rfl rfl rfl H
set_option maxRecDepth 20000 in
/-- CodeMaker.Tokens.behindToken from 56 on -/
theorem w40_56 (xs : List Int32) (d : Nat) (l1 : Int32) (l2 : Int32) (m : yM) (Q : Option Value → yM → Prop) (H : (yC (xg xs) d 44 [.int l2, .int (10 : Int32)] m (fun v1 m1 => ∃ u1, v1 = some (Value.int u1) ∧ ((u1 = ((-1) : Int32) → (yC (xg xs) d 47 [.int l2] m1 (fun v2 m2 => ∃ u2, v2 = some (Value.int u2) ∧ ((u2 = 0 → ((¬ l2 = (37 : Int32) → (yC (xg xs) d 69 [.ref 8, .int l1, .int l2] m2 (fun v3 m3 => ∃ u3, v3 = some (Value.int u3) ∧ Q (some (.int u3)) m3))) ∧ (l2 = (37 : Int32) → (yC (xg xs) d 51 [.ref 8, .int l1] m2 (fun v4 m4 => ∃ u4, v4 = some (Value.int u4) ∧ Q (some (.int u4)) m4))))) ∧ (¬ u2 = 0 → (yC (xg xs) d 49 [.ref 8, .int l1] m2 (fun v5 m5 => ∃ u5, v5 = some (Value.int u5) ∧ Q (some (.int u5)) m5))))))) ∧ (¬ u1 = ((-1) : Int32) → (yC (xg xs) d 48 [.ref 8, .int l1] m1 (fun v6 m6 => ∃ u6, v6 = some (Value.int u6) ∧ Q (some (.int u6)) m6))))))) : yP (xg xs) (d + 1) 40 56 [(0, .ref 8), (1, .int l1), (2, .int l2)] [] m Q := by
  refine y_st rfl rfl rfl rfl rfl (fun _ _ => rfl) ?_
  refine y_st rfl rfl rfl rfl rfl (fun _ _ => rfl) ?_
  show yP (xg xs) (d + 1) 40 59 [(0, .ref 8), (1, .int l1), (2, .int l2)] [.int (10 : Int32), .int l2] m Q
  refine y_call rfl rfl rfl rfl rfl (Nat.le_of_ble_eq_true rfl) (Nat.le_of_ble_eq_true rfl) rfl (by decide) H (fun v1 m1 H => ?_)
  obtain ⟨u1, rfl, H⟩ := H
  refine y_st rfl rfl rfl rfl rfl (fun _ _ => rfl) ?_
  show yP (xg xs) (d + 1) 40 63 [(0, .ref 8), (1, .int l1), (2, .int l2)] [.int ((-1) : Int32), .int u1] m1 Q
  refine y_ieq (t := 72) rfl rfl rfl (fun h => ?_) (fun h => ?_)
  · replace H := H.1 h; clear h
    refine y_st rfl rfl rfl rfl rfl (fun _ _ => rfl) ?_
    show yP (xg xs) (d + 1) 40 73 [(0, .ref 8), (1, .int l1), (2, .int l2)] [.int l2] m1 Q
    refine y_call rfl rfl rfl rfl rfl (Nat.le_of_ble_eq_true rfl) (Nat.le_of_ble_eq_true rfl) rfl (by decide) H (fun v2 m2 H => ?_)
    obtain ⟨u2, rfl, H⟩ := H
    show yP (xg xs) (d + 1) 40 76 [(0, .ref 8), (1, .int l1), (2, .int l2)] [.int u2] m2 Q
    refine y_zeq (t := 85) rfl rfl rfl (fun h => ?_) (fun h => ?_)
    · replace H := H.1 h; clear h
      refine y_st rfl rfl rfl rfl rfl (fun _ _ => rfl) ?_
      refine y_st rfl rfl rfl rfl rfl (fun _ _ => rfl) ?_
      show yP (xg xs) (d + 1) 40 88 [(0, .ref 8), (1, .int l1), (2, .int l2)] [.int (37 : Int32), .int l2] m2 Q
      refine y_ine (t := 99) rfl rfl rfl (fun h => ?_) (fun h => ?_)
      · replace H := H.1 h; clear h
        refine y_st rfl rfl rfl rfl rfl (fun _ _ => rfl) ?_
        refine y_st rfl rfl rfl rfl rfl (fun _ _ => rfl) ?_
        refine y_st rfl rfl rfl rfl rfl (fun _ _ => rfl) ?_
        show yP (xg xs) (d + 1) 40 102 [(0, .ref 8), (1, .int l1), (2, .int l2)] [.int l2, .int l1, .ref 8] m2 Q
        refine y_call rfl rfl rfl rfl rfl (Nat.le_of_ble_eq_true rfl) (Nat.le_of_ble_eq_true rfl) rfl (by decide) H (fun v3 m3 H => ?_)
        obtain ⟨u3, rfl, H⟩ := H
        show yP (xg xs) (d + 1) 40 105 [(0, .ref 8), (1, .int l1), (2, .int l2)] [.int u3] m3 Q
        exact y_iret rfl rfl rfl H
      · replace H := H.2 h; clear h
        refine y_st rfl rfl rfl rfl rfl (fun _ _ => rfl) ?_
        refine y_st rfl rfl rfl rfl rfl (fun _ _ => rfl) ?_
        show yP (xg xs) (d + 1) 40 93 [(0, .ref 8), (1, .int l1), (2, .int l2)] [.int l1, .ref 8] m2 Q
        refine y_call rfl rfl rfl rfl rfl (Nat.le_of_ble_eq_true rfl) (Nat.le_of_ble_eq_true rfl) rfl (by decide) H (fun v4 m4 H => ?_)
        obtain ⟨u4, rfl, H⟩ := H
        refine y_st rfl rfl rfl rfl rfl (fun _ _ => rfl) ?_
        show yP (xg xs) (d + 1) 40 105 [(0, .ref 8), (1, .int l1), (2, .int l2)] [.int u4] m4 Q
        exact y_iret rfl rfl rfl H
    · replace H := H.2 h; clear h
      refine y_st rfl rfl rfl rfl rfl (fun _ _ => rfl) ?_
      refine y_st rfl rfl rfl rfl rfl (fun _ _ => rfl) ?_
      show yP (xg xs) (d + 1) 40 81 [(0, .ref 8), (1, .int l1), (2, .int l2)] [.int l1, .ref 8] m2 Q
      refine y_call rfl rfl rfl rfl rfl (Nat.le_of_ble_eq_true rfl) (Nat.le_of_ble_eq_true rfl) rfl (by decide) H (fun v5 m5 H => ?_)
      obtain ⟨u5, rfl, H⟩ := H
      show yP (xg xs) (d + 1) 40 84 [(0, .ref 8), (1, .int l1), (2, .int l2)] [.int u5] m5 Q
      exact y_iret rfl rfl rfl H
  · replace H := H.2 h; clear h
    refine y_st rfl rfl rfl rfl rfl (fun _ _ => rfl) ?_
    refine y_st rfl rfl rfl rfl rfl (fun _ _ => rfl) ?_
    show yP (xg xs) (d + 1) 40 68 [(0, .ref 8), (1, .int l1), (2, .int l2)] [.int l1, .ref 8] m1 Q
    refine y_call rfl rfl rfl rfl rfl (Nat.le_of_ble_eq_true rfl) (Nat.le_of_ble_eq_true rfl) rfl (by decide) H (fun v6 m6 H => ?_)
    obtain ⟨u6, rfl, H⟩ := H
    show yP (xg xs) (d + 1) 40 71 [(0, .ref 8), (1, .int l1), (2, .int l2)] [.int u6] m6 Q
    exact y_iret rfl rfl rfl H
set_option maxRecDepth 20000 in
/-- CodeMaker.Names.great from 0 on -/
theorem w41_0 (xs : List Int32) (d : Nat) (l0 : Int32) (m : yM) (Q : Option Value → yM → Prop) (H : ((l0 < (97 : Int32) → Q (some (.int l0)) m) ∧ (¬ l0 < (97 : Int32) → (((122 : Int32) < l0 → Q (some (.int l0)) m) ∧ (¬ (122 : Int32) < l0 → Q (some (.int (l0 - (32 : Int32)))) m))))) : yP (xg xs) (d + 1) 41 0 [(0, .int l0)] [] m Q := by
  refine y_st rfl rfl rfl rfl rfl (fun _ _ => rfl) ?_
  refine y_st rfl rfl rfl rfl rfl (fun _ _ => rfl) ?_
  show yP (xg xs) (d + 1) 41 3 [(0, .int l0)] [.int (97 : Int32), .int l0] m Q
  refine y_ilt (t := 19) rfl rfl rfl (fun h => ?_) (fun h => ?_)
  · replace H := H.1 h; clear h
    refine y_st rfl rfl rfl rfl rfl (fun _ _ => rfl) ?_
    show yP (xg xs) (d + 1) 41 20 [(0, .int l0)] [.int l0] m Q
    exact y_iret rfl rfl rfl H
  · replace H := H.2 h; clear h
    refine y_st rfl rfl rfl rfl rfl (fun _ _ => rfl) ?_
    refine y_st rfl rfl rfl rfl rfl (fun _ _ => rfl) ?_
    show yP (xg xs) (d + 1) 41 9 [(0, .int l0)] [.int (122 : Int32), .int l0] m Q
    refine y_igt (t := 19) rfl rfl rfl (fun h => ?_) (fun h => ?_)
    · replace H := H.1 h; clear h
      refine y_st rfl rfl rfl rfl rfl (fun _ _ => rfl) ?_
      show yP (xg xs) (d + 1) 41 20 [(0, .int l0)] [.int l0] m Q
      exact y_iret rfl rfl rfl H
    · replace H := H.2 h; clear h
      refine y_st rfl rfl rfl rfl rfl (fun _ _ => rfl) ?_
      refine y_st rfl rfl rfl rfl rfl (fun _ _ => rfl) ?_
      refine y_st rfl rfl rfl rfl rfl (fun _ _ => rfl) ?_
      refine y_st rfl rfl rfl rfl rfl (fun _ _ => rfl) ?_
      show yP (xg xs) (d + 1) 41 20 [(0, .int l0)] [.int (l0 - (32 : Int32))] m Q
      exact y_iret rfl rfl rfl H
set_option maxRecDepth 20000 in
/-- CodeMaker.Tokens.time from 0 on -/
theorem w42_0 (xs : List Int32) (d : Nat) (l1 : Int32) (m : yM) (Q : Option Value → yM → Prop) (H : (yC (xg xs) d 43 [.ref 8, .int (l1 + (2 : Int32)), .int (10 : Int32)] m (fun v1 m1 => ∃ u1, v1 = some (Value.long u1) ∧ ((¬ (m1.1 8 7) = (l1 + (2 : Int32)) → (yC (xg xs) d 36 [.ref 8, .int (m1.1 8 7)] m1 (fun v2 m2 => ∃ u2, v2 = some (Value.int u2) ∧ (yC (xg xs) d 41 [.int u2] m2 (fun v3 m3 => ∃ u3, v3 = some (Value.int u3) ∧ ((¬ u3 = (77 : Int32) → yP (xg xs) (d + 1) 42 78 [(0, .ref 8), (1, .int l1), (2, .long u1), (4, .int u3)] [] m3 Q) ∧ (u3 = (77 : Int32) → (yC (xg xs) d 36 [.ref 8, .int ((m3.1 8 7) + (1 : Int32))] m3 (fun v4 m4 => ∃ u4, v4 = some (Value.int u4) ∧ (yC (xg xs) d 41 [.int u4] m4 (fun v5 m5 => ∃ u5, v5 = some (Value.int u5) ∧ ((¬ u5 = (83 : Int32) → yP (xg xs) (d + 1) 42 78 [(0, .ref 8), (1, .int l1), (2, .long u1), (4, .int u3)] [] m5 Q) ∧ (u5 = (83 : Int32) → yP (xg xs) (d + 1) 42 150 [(0, .ref 8), (1, .int l1), (2, .long u1)] [] (y_si m5 8 7 ((m5.1 8 7) + (2 : Int32))) Q))))))))))))) ∧ ((m1.1 8 7) = (l1 + (2 : Int32)) → (yC (xg xs) d 38 [.ref 8, .int (4 : Int32), .int l1] m1 (fun v6 m6 => ∃ u6, v6 = some (Value.int u6) ∧ Q (some (.int u6)) m6))))))) : yP (xg xs) (d + 1) 42 0 [(0, .ref 8), (1, .int l1)] [] m Q := by
  refine y_st rfl rfl rfl rfl rfl (fun _ _ => rfl) ?_
  refine y_st rfl rfl rfl rfl rfl (fun _ _ => rfl) ?_
  refine y_st rfl rfl rfl rfl rfl (fun _ _ => rfl) ?_
  refine y_st rfl rfl rfl rfl rfl (fun _ _ => rfl) ?_
  refine y_st rfl rfl rfl rfl rfl (fun _ _ => rfl) ?_
  show yP (xg xs) (d + 1) 42 6 [(0, .ref 8), (1, .int l1)] [.int (10 : Int32), .int (l1 + (2 : Int32)), .ref 8] m Q
  refine y_call rfl rfl rfl rfl rfl (Nat.le_of_ble_eq_true rfl) (Nat.le_of_ble_eq_true rfl) rfl (by decide) H (fun v1 m1 H => ?_)
  obtain ⟨u1, rfl, H⟩ := H
  refine y_st rfl rfl rfl rfl rfl (fun _ _ => rfl) ?_
  refine y_st rfl rfl rfl rfl rfl (fun _ _ => rfl) ?_
  refine y_gf rfl rfl rfl rfl rfl ?_
  refine y_st rfl rfl rfl rfl rfl (fun _ _ => rfl) ?_
  refine y_st rfl rfl rfl rfl rfl (fun _ _ => rfl) ?_
  refine y_st rfl rfl rfl rfl rfl (fun _ _ => rfl) ?_
  show yP (xg xs) (d + 1) 42 17 [(2, .long u1), (0, .ref 8), (1, .int l1)] [.int (l1 + (2 : Int32)), .int (m1.1 8 7)] m1 Q
  refine y_ine (t := 27) rfl rfl rfl (fun h => ?_) (fun h => ?_)
  · replace H := H.1 h; clear h
    refine y_st rfl rfl rfl rfl rfl (fun _ _ => rfl) ?_
    refine y_st rfl rfl rfl rfl rfl (fun _ _ => rfl) ?_
    refine y_gf rfl rfl rfl rfl rfl ?_
    show yP (xg xs) (d + 1) 42 32 [(2, .long u1), (0, .ref 8), (1, .int l1)] [.int (m1.1 8 7), .ref 8] m1 Q
    refine y_call rfl rfl rfl rfl rfl (Nat.le_of_ble_eq_true rfl) (Nat.le_of_ble_eq_true rfl) rfl (by decide) H (fun v2 m2 H => ?_)
    obtain ⟨u2, rfl, H⟩ := H
    show yP (xg xs) (d + 1) 42 35 [(2, .long u1), (0, .ref 8), (1, .int l1)] [.int u2] m2 Q
    refine y_call rfl rfl rfl rfl rfl (Nat.le_of_ble_eq_true rfl) (Nat.le_of_ble_eq_true rfl) rfl (by decide) H (fun v3 m3 H => ?_)
    obtain ⟨u3, rfl, H⟩ := H
    refine y_st rfl rfl rfl rfl rfl (fun _ _ => rfl) ?_
    refine y_st rfl rfl rfl rfl rfl (fun _ _ => rfl) ?_
    refine y_st rfl rfl rfl rfl rfl (fun _ _ => rfl) ?_
    show yP (xg xs) (d + 1) 42 44 [(4, .int u3), (2, .long u1), (0, .ref 8), (1, .int l1)] [.int (77 : Int32), .int u3] m3 Q
    refine y_ine (t := 78) rfl rfl rfl (fun h => ?_) (fun h => ?_)
    · replace H := H.1 h; clear h
      show yP (xg xs) (d + 1) 42 78 [(4, .int u3), (2, .long u1), (0, .ref 8), (1, .int l1)] [] m3 Q
      refine y_headS (l2 := [(0, .ref 8), (1, .int l1), (2, .long u1), (4, .int u3)]) [2, 3, 1, 0] [0, 1, 2, 4] [4, 2, 0, 1] rfl rfl (by decide) rfl (by decide) ?_
      exact H
    · replace H := H.2 h; clear h
      refine y_st rfl rfl rfl rfl rfl (fun _ _ => rfl) ?_
      refine y_st rfl rfl rfl rfl rfl (fun _ _ => rfl) ?_
      refine y_gf rfl rfl rfl rfl rfl ?_
      refine y_st rfl rfl rfl rfl rfl (fun _ _ => rfl) ?_
      refine y_st rfl rfl rfl rfl rfl (fun _ _ => rfl) ?_
      show yP (xg xs) (d + 1) 42 54 [(4, .int u3), (2, .long u1), (0, .ref 8), (1, .int l1)] [.int ((m3.1 8 7) + (1 : Int32)), .ref 8] m3 Q
      refine y_call rfl rfl rfl rfl rfl (Nat.le_of_ble_eq_true rfl) (Nat.le_of_ble_eq_true rfl) rfl (by decide) H (fun v4 m4 H => ?_)
      obtain ⟨u4, rfl, H⟩ := H
      show yP (xg xs) (d + 1) 42 57 [(4, .int u3), (2, .long u1), (0, .ref 8), (1, .int l1)] [.int u4] m4 Q
      refine y_call rfl rfl rfl rfl rfl (Nat.le_of_ble_eq_true rfl) (Nat.le_of_ble_eq_true rfl) rfl (by decide) H (fun v5 m5 H => ?_)
      obtain ⟨u5, rfl, H⟩ := H
      refine y_st rfl rfl rfl rfl rfl (fun _ _ => rfl) ?_
      show yP (xg xs) (d + 1) 42 62 [(4, .int u3), (2, .long u1), (0, .ref 8), (1, .int l1)] [.int (83 : Int32), .int u5] m5 Q
      refine y_ine (t := 78) rfl rfl rfl (fun h => ?_) (fun h => ?_)
      · replace H := H.1 h; clear h
        show yP (xg xs) (d + 1) 42 78 [(4, .int u3), (2, .long u1), (0, .ref 8), (1, .int l1)] [] m5 Q
        refine y_headS (l2 := [(0, .ref 8), (1, .int l1), (2, .long u1), (4, .int u3)]) [2, 3, 1, 0] [0, 1, 2, 4] [4, 2, 0, 1] rfl rfl (by decide) rfl (by decide) ?_
        exact H
      · replace H := H.2 h; clear h
        refine y_st rfl rfl rfl rfl rfl (fun _ _ => rfl) ?_
        refine y_st rfl rfl rfl rfl rfl (fun _ _ => rfl) ?_
        refine y_gf rfl rfl rfl rfl rfl ?_
        refine y_st rfl rfl rfl rfl rfl (fun _ _ => rfl) ?_
        refine y_st rfl rfl rfl rfl rfl (fun _ _ => rfl) ?_
        refine y_pfi rfl rfl rfl rfl rfl (x_fit_i _) ?_
        show yP (xg xs) (d + 1) 42 75 [(4, .int u3), (2, .long u1), (0, .ref 8), (1, .int l1)] [] (y_si m5 8 7 ((m5.1 8 7) + (2 : Int32))) Q
        refine y_st rfl rfl rfl rfl rfl (fun _ _ => rfl) ?_
        show yP (xg xs) (d + 1) 42 150 [(4, .int u3), (2, .long u1), (0, .ref 8), (1, .int l1)] [] (y_si m5 8 7 ((m5.1 8 7) + (2 : Int32))) Q
        refine y_headS (l2 := [(0, .ref 8), (1, .int l1), (2, .long u1)]) [2, 3, 1] [0, 1, 2] [4, 2, 0, 1] rfl rfl (by decide) rfl (by decide) ?_
        exact H
  · replace H := H.2 h; clear h
    refine y_st rfl rfl rfl rfl rfl (fun _ _ => rfl) ?_
    refine y_st rfl rfl rfl rfl rfl (fun _ _ => rfl) ?_
    refine y_st rfl rfl rfl rfl rfl (fun _ _ => rfl) ?_
    show yP (xg xs) (d + 1) 42 23 [(2, .long u1), (0, .ref 8), (1, .int l1)] [.int l1, .int (4 : Int32), .ref 8] m1 Q
    refine y_call rfl rfl rfl rfl rfl (Nat.le_of_ble_eq_true rfl) (Nat.le_of_ble_eq_true rfl) rfl (by decide) H (fun v6 m6 H => ?_)
    obtain ⟨u6, rfl, H⟩ := H
    show yP (xg xs) (d + 1) 42 26 [(2, .long u1), (0, .ref 8), (1, .int l1)] [.int u6] m6 Q
    exact y_iret rfl rfl rfl H
set_option maxRecDepth 20000 in
/-- CodeMaker.Tokens.time from 78 on -/
theorem w42_78 (xs : List Int32) (d : Nat) (l1 : Int32) (l2 : Int64) (l4 : Int32) (m : yM) (Q : Option Value → yM → Prop) (H : ((l4 = (83 : Int32) → yP (xg xs) (d + 1) 42 99 [(0, .ref 8), (1, .int l1), (2, .long l2), (4, .int l4)] [] m Q) ∧ (¬ l4 = (83 : Int32) → ((l4 = (77 : Int32) → yP (xg xs) (d + 1) 42 99 [(0, .ref 8), (1, .int l1), (2, .long l2), (4, .int l4)] [] m Q) ∧ (¬ l4 = (77 : Int32) → ((¬ l4 = (72 : Int32) → (yC (xg xs) d 38 [.ref 8, .int (4 : Int32), .int l1] m (fun v1 m1 => ∃ u1, v1 = some (Value.int u1) ∧ Q (some (.int u1)) m1))) ∧ (l4 = (72 : Int32) → yP (xg xs) (d + 1) 42 99 [(0, .ref 8), (1, .int l1), (2, .long l2), (4, .int l4)] [] m Q))))))) : yP (xg xs) (d + 1) 42 78 [(0, .ref 8), (1, .int l1), (2, .long l2), (4, .int l4)] [] m Q := by
  refine y_st rfl rfl rfl rfl rfl (fun _ _ => rfl) ?_
  refine y_st rfl rfl rfl rfl rfl (fun _ _ => rfl) ?_
  show yP (xg xs) (d + 1) 42 82 [(0, .ref 8), (1, .int l1), (2, .long l2), (4, .int l4)] [.int (83 : Int32), .int l4] m Q
  refine y_ieq (t := 99) rfl rfl rfl (fun h => ?_) (fun h => ?_)
  · replace H := H.1 h; clear h
    show yP (xg xs) (d + 1) 42 99 [(0, .ref 8), (1, .int l1), (2, .long l2), (4, .int l4)] [] m Q
    exact H
  · replace H := H.2 h; clear h
    refine y_st rfl rfl rfl rfl rfl (fun _ _ => rfl) ?_
    refine y_st rfl rfl rfl rfl rfl (fun _ _ => rfl) ?_
    show yP (xg xs) (d + 1) 42 89 [(0, .ref 8), (1, .int l1), (2, .long l2), (4, .int l4)] [.int (77 : Int32), .int l4] m Q
    refine y_ieq (t := 99) rfl rfl rfl (fun h => ?_) (fun h => ?_)
    · replace H := H.1 h; clear h
      show yP (xg xs) (d + 1) 42 99 [(0, .ref 8), (1, .int l1), (2, .long l2), (4, .int l4)] [] m Q
      exact H
    · replace H := H.2 h; clear h
      refine y_st rfl rfl rfl rfl rfl (fun _ _ => rfl) ?_
      refine y_st rfl rfl rfl rfl rfl (fun _ _ => rfl) ?_
      show yP (xg xs) (d + 1) 42 96 [(0, .ref 8), (1, .int l1), (2, .long l2), (4, .int l4)] [.int (72 : Int32), .int l4] m Q
      refine y_ine (t := 143) rfl rfl rfl (fun h => ?_) (fun h => ?_)
      · replace H := H.1 h; clear h
        refine y_st rfl rfl rfl rfl rfl (fun _ _ => rfl) ?_
        refine y_st rfl rfl rfl rfl rfl (fun _ _ => rfl) ?_
        refine y_st rfl rfl rfl rfl rfl (fun _ _ => rfl) ?_
        show yP (xg xs) (d + 1) 42 146 [(0, .ref 8), (1, .int l1), (2, .long l2), (4, .int l4)] [.int l1, .int (4 : Int32), .ref 8] m Q
        refine y_call rfl rfl rfl rfl rfl (Nat.le_of_ble_eq_true rfl) (Nat.le_of_ble_eq_true rfl) rfl (by decide) H (fun v1 m1 H => ?_)
        obtain ⟨u1, rfl, H⟩ := H
        show yP (xg xs) (d + 1) 42 149 [(0, .ref 8), (1, .int l1), (2, .long l2), (4, .int l4)] [.int u1] m1 Q
        exact y_iret rfl rfl rfl H
      · replace H := H.2 h; clear h
        show yP (xg xs) (d + 1) 42 99 [(0, .ref 8), (1, .int l1), (2, .long l2), (4, .int l4)] [] m Q
        exact H
set_option maxRecDepth 20000 in
/-- CodeMaker.Tokens.time from 99 on -/
theorem w42_99 (xs : List Int32) (d : Nat) (l1 : Int32) (l2 : Int64) (l4 : Int32) (m : yM) (Q : Option Value → yM → Prop) (H : ((¬ l4 = (83 : Int32) → ((¬ l4 = (77 : Int32) → yP (xg xs) (d + 1) 42 127 [(0, .ref 8), (1, .int l1)] [.int (3600000 : Int32), .long l2] m Q) ∧ (l4 = (77 : Int32) → yP (xg xs) (d + 1) 42 127 [(0, .ref 8), (1, .int l1)] [.int (60000 : Int32), .long l2] m Q))) ∧ (l4 = (83 : Int32) → yP (xg xs) (d + 1) 42 127 [(0, .ref 8), (1, .int l1)] [.int (1000 : Int32), .long l2] m Q))) : yP (xg xs) (d + 1) 42 99 [(0, .ref 8), (1, .int l1), (2, .long l2), (4, .int l4)] [] m Q := by
  refine y_st rfl rfl rfl rfl rfl (fun _ _ => rfl) ?_
  refine y_st rfl rfl rfl rfl rfl (fun _ _ => rfl) ?_
  refine y_st rfl rfl rfl rfl rfl (fun _ _ => rfl) ?_
  show yP (xg xs) (d + 1) 42 104 [(0, .ref 8), (1, .int l1), (2, .long l2), (4, .int l4)] [.int (83 : Int32), .int l4, .long l2] m Q
  refine y_ine (t := 113) rfl rfl rfl (fun h => ?_) (fun h => ?_)
  · replace H := H.1 h; clear h
    refine y_st rfl rfl rfl rfl rfl (fun _ _ => rfl) ?_
    refine y_st rfl rfl rfl rfl rfl (fun _ _ => rfl) ?_
    show yP (xg xs) (d + 1) 42 117 [(0, .ref 8), (1, .int l1), (2, .long l2), (4, .int l4)] [.int (77 : Int32), .int l4, .long l2] m Q
    refine y_ine (t := 125) rfl rfl rfl (fun h => ?_) (fun h => ?_)
    · replace H := H.1 h; clear h
      refine y_st rfl rfl rfl rfl rfl (fun _ _ => rfl) ?_
      show yP (xg xs) (d + 1) 42 127 [(0, .ref 8), (1, .int l1), (2, .long l2), (4, .int l4)] [.int (3600000 : Int32), .long l2] m Q
      refine y_headS (l2 := [(0, .ref 8), (1, .int l1)]) [0, 1] [0, 1] [0, 1, 2, 4] rfl rfl (by decide) rfl (by decide) ?_
      exact H
    · replace H := H.2 h; clear h
      refine y_st rfl rfl rfl rfl rfl (fun _ _ => rfl) ?_
      refine y_st rfl rfl rfl rfl rfl (fun _ _ => rfl) ?_
      show yP (xg xs) (d + 1) 42 127 [(0, .ref 8), (1, .int l1), (2, .long l2), (4, .int l4)] [.int (60000 : Int32), .long l2] m Q
      refine y_headS (l2 := [(0, .ref 8), (1, .int l1)]) [0, 1] [0, 1] [0, 1, 2, 4] rfl rfl (by decide) rfl (by decide) ?_
      exact H
  · replace H := H.2 h; clear h
    refine y_st rfl rfl rfl rfl rfl (fun _ _ => rfl) ?_
    refine y_st rfl rfl rfl rfl rfl (fun _ _ => rfl) ?_
    show yP (xg xs) (d + 1) 42 127 [(0, .ref 8), (1, .int l1), (2, .long l2), (4, .int l4)] [.int (1000 : Int32), .long l2] m Q
    refine y_headS (l2 := [(0, .ref 8), (1, .int l1)]) [0, 1] [0, 1] [0, 1, 2, 4] rfl rfl (by decide) rfl (by decide) ?_
    exact H
set_option maxRecDepth 20000 in
/-- CodeMaker.Tokens.time from 127 on -/
theorem w42_127 (xs : List Int32) (d : Nat) (l1 : Int32) (s0 : Int64) (s1 : Int32) (m : yM) (Q : Option Value → yM → Prop) (H : yP (xg xs) (d + 1) 42 150 [(0, .ref 8), (1, .int l1), (2, .long (s0 * s1.toInt64))] [] (y_si m 8 7 ((m.1 8 7) + (1 : Int32))) Q) : yP (xg xs) (d + 1) 42 127 [(0, .ref 8), (1, .int l1)] [.int s1, .long s0] m Q := by
  refine y_st rfl rfl rfl rfl rfl (fun _ _ => rfl) ?_
  refine y_st rfl rfl rfl rfl rfl (fun _ _ => rfl) ?_
  refine y_st rfl rfl rfl rfl rfl (fun _ _ => rfl) ?_
  refine y_st rfl rfl rfl rfl rfl (fun _ _ => rfl) ?_
  refine y_st rfl rfl rfl rfl rfl (fun _ _ => rfl) ?_
  refine y_gf rfl rfl rfl rfl rfl ?_
  refine y_st rfl rfl rfl rfl rfl (fun _ _ => rfl) ?_
  refine y_st rfl rfl rfl rfl rfl (fun _ _ => rfl) ?_
  refine y_pfi rfl rfl rfl rfl rfl (x_fit_i _) ?_
  show yP (xg xs) (d + 1) 42 140 [(2, .long (s0 * s1.toInt64)), (0, .ref 8), (1, .int l1)] [] (y_si m 8 7 ((m.1 8 7) + (1 : Int32))) Q
  refine y_st rfl rfl rfl rfl rfl (fun _ _ => rfl) ?_
  show yP (xg xs) (d + 1) 42 150 [(2, .long (s0 * s1.toInt64)), (0, .ref 8), (1, .int l1)] [] (y_si m 8 7 ((m.1 8 7) + (1 : Int32))) Q
  refine y_headS (l2 := [(0, .ref 8), (1, .int l1), (2, .long (s0 * s1.toInt64))]) [1, 2, 0] [0, 1, 2] [2, 0, 1] rfl rfl (by decide) rfl (by decide) ?_
  exact H
set_option maxRecDepth 20000 in
/-- CodeMaker.Tokens.time from 150 on -/
theorem w42_150 (xs : List Int32) (d : Nat) (l1 : Int32) (l2 : Int64) (m : yM) (Q : Option Value → yM → Prop) (H : (yC (xg xs) d 46 [.ref 8, .int l1, .long l2] m (fun v1 m1 => ∃ u1, v1 = some (Value.int u1) ∧ Q (some (.int u1)) m1))) : yP (xg xs) (d + 1) 42 150 [(0, .ref 8), (1, .int l1), (2, .long l2)] [] m Q := by
  refine y_st rfl rfl rfl rfl rfl (fun _ _ => rfl) ?_
  refine y_st rfl rfl rfl rfl rfl (fun _ _ => rfl) ?_
  refine y_st rfl rfl rfl rfl rfl (fun _ _ => rfl) ?_
  show yP (xg xs) (d + 1) 42 153 [(0, .ref 8), (1, .int l1), (2, .long l2)] [.long l2, .int l1, .ref 8] m Q
  refine y_call rfl rfl rfl rfl rfl (Nat.le_of_ble_eq_true rfl) (Nat.le_of_ble_eq_true rfl) rfl (by decide) H (fun v1 m1 H => ?_)
  obtain ⟨u1, rfl, H⟩ := H
  show yP (xg xs) (d + 1) 42 156 [(0, .ref 8), (1, .int l1), (2, .long l2)] [.int u1] m1 Q
  exact y_iret rfl rfl rfl H
set_option maxRecDepth 20000 in
/-- CodeMaker.Tokens.digits from 0 on -/
theorem w43_0 (xs : List Int32) (d : Nat) (l1 : Int32) (l2 : Int32) (m : yM) (Q : Option Value → yM → Prop) (H : yP (xg xs) (d + 1) 43 5 [(0, .ref 8), (2, .int l2), (3, .long (0 : Int64)), (5, .int l1)] [] m Q) : yP (xg xs) (d + 1) 43 0 [(0, .ref 8), (1, .int l1), (2, .int l2)] [] m Q := by
  refine y_st rfl rfl rfl rfl rfl (fun _ _ => rfl) ?_
  refine y_st rfl rfl rfl rfl rfl (fun _ _ => rfl) ?_
  refine y_st rfl rfl rfl rfl rfl (fun _ _ => rfl) ?_
  refine y_st rfl rfl rfl rfl rfl (fun _ _ => rfl) ?_
  show yP (xg xs) (d + 1) 43 5 [(5, .int l1), (3, .long (0 : Int64)), (0, .ref 8), (1, .int l1), (2, .int l2)] [] m Q
  refine y_headS (l2 := [(0, .ref 8), (2, .int l2), (3, .long (0 : Int64)), (5, .int l1)]) [2, 4, 1, 0] [0, 2, 3, 5] [5, 3, 0, 1, 2] rfl rfl (by decide) rfl (by decide) ?_
  exact H
set_option maxRecDepth 20000 in
/-- CodeMaker.Tokens.digits from 5 on -/
theorem w43_5 (xs : List Int32) (d : Nat) (l2 : Int32) (l3 : Int64) (l5 : Int32) (m : yM) (Q : Option Value → yM → Prop) (H : (((m.1 8 5) ≤ l5 → Q (some (.long l3)) (y_si m 8 7 l5)) ∧ (¬ (m.1 8 5) ≤ l5 → (yC (xg xs) d 36 [.ref 8, .int l5] m (fun v1 m1 => ∃ u1, v1 = some (Value.int u1) ∧ (yC (xg xs) d 44 [.int u1, .int l2] m1 (fun v2 m2 => ∃ u2, v2 = some (Value.int u2) ∧ ((u2 = ((-1) : Int32) → Q (some (.long l3)) (y_si m2 8 7 l5)) ∧ (¬ u2 = ((-1) : Int32) → (yC (xg xs) d 36 [.ref 8, .int l5] m2 (fun v3 m3 => ∃ u3, v3 = some (Value.int u3) ∧ (yC (xg xs) d 44 [.int u3, .int l2] m3 (fun v4 m4 => ∃ u4, v4 = some (Value.int u4) ∧ yP (xg xs) (d + 1) 43 5 [(0, .ref 8), (2, .int l2), (3, .long (if (1099511627776 : Int64) < ((l3 * l2.toInt64) + u4.toInt64) then (1099511627776 : Int64) else ((l3 * l2.toInt64) + u4.toInt64))), (5, .int (l5 + (1 : Int32)))] [] m4 Q))))))))))))) : yP (xg xs) (d + 1) 43 5 [(0, .ref 8), (2, .int l2), (3, .long l3), (5, .int l5)] [] m Q := by
  refine y_st rfl rfl rfl rfl rfl (fun _ _ => rfl) ?_
  refine y_st rfl rfl rfl rfl rfl (fun _ _ => rfl) ?_
  refine y_gf rfl rfl rfl rfl rfl ?_
  show yP (xg xs) (d + 1) 43 11 [(0, .ref 8), (2, .int l2), (3, .long l3), (5, .int l5)] [.int (m.1 8 5), .int l5] m Q
  refine y_ige (t := 57) rfl rfl rfl (fun h => ?_) (fun h => ?_)
  · replace H := H.1 h; clear h
    refine y_st rfl rfl rfl rfl rfl (fun _ _ => rfl) ?_
    refine y_st rfl rfl rfl rfl rfl (fun _ _ => rfl) ?_
    refine y_pfi rfl rfl rfl rfl rfl (x_fit_i _) ?_
    show yP (xg xs) (d + 1) 43 63 [(0, .ref 8), (2, .int l2), (3, .long l3), (5, .int l5)] [] (y_si m 8 7 l5) Q
    refine y_st rfl rfl rfl rfl rfl (fun _ _ => rfl) ?_
    show yP (xg xs) (d + 1) 43 64 [(0, .ref 8), (2, .int l2), (3, .long l3), (5, .int l5)] [.long l3] (y_si m 8 7 l5) Q
    exact y_ret rfl rfl rfl rfl H
  · replace H := H.2 h; clear h
    refine y_st rfl rfl rfl rfl rfl (fun _ _ => rfl) ?_
    refine y_st rfl rfl rfl rfl rfl (fun _ _ => rfl) ?_
    show yP (xg xs) (d + 1) 43 17 [(0, .ref 8), (2, .int l2), (3, .long l3), (5, .int l5)] [.int l5, .ref 8] m Q
    refine y_call rfl rfl rfl rfl rfl (Nat.le_of_ble_eq_true rfl) (Nat.le_of_ble_eq_true rfl) rfl (by decide) H (fun v1 m1 H => ?_)
    obtain ⟨u1, rfl, H⟩ := H
    refine y_st rfl rfl rfl rfl rfl (fun _ _ => rfl) ?_
    show yP (xg xs) (d + 1) 43 21 [(0, .ref 8), (2, .int l2), (3, .long l3), (5, .int l5)] [.int l2, .int u1] m1 Q
    refine y_call rfl rfl rfl rfl rfl (Nat.le_of_ble_eq_true rfl) (Nat.le_of_ble_eq_true rfl) rfl (by decide) H (fun v2 m2 H => ?_)
    obtain ⟨u2, rfl, H⟩ := H
    refine y_st rfl rfl rfl rfl rfl (fun _ _ => rfl) ?_
    show yP (xg xs) (d + 1) 43 25 [(0, .ref 8), (2, .int l2), (3, .long l3), (5, .int l5)] [.int ((-1) : Int32), .int u2] m2 Q
    refine y_ieq (t := 57) rfl rfl rfl (fun h => ?_) (fun h => ?_)
    · replace H := H.1 h; clear h
      refine y_st rfl rfl rfl rfl rfl (fun _ _ => rfl) ?_
      refine y_st rfl rfl rfl rfl rfl (fun _ _ => rfl) ?_
      refine y_pfi rfl rfl rfl rfl rfl (x_fit_i _) ?_
      show yP (xg xs) (d + 1) 43 63 [(0, .ref 8), (2, .int l2), (3, .long l3), (5, .int l5)] [] (y_si m2 8 7 l5) Q
      refine y_st rfl rfl rfl rfl rfl (fun _ _ => rfl) ?_
      show yP (xg xs) (d + 1) 43 64 [(0, .ref 8), (2, .int l2), (3, .long l3), (5, .int l5)] [.long l3] (y_si m2 8 7 l5) Q
      exact y_ret rfl rfl rfl rfl H
    · replace H := H.2 h; clear h
      refine y_st rfl rfl rfl rfl rfl (fun _ _ => rfl) ?_
      refine y_st rfl rfl rfl rfl rfl (fun _ _ => rfl) ?_
      refine y_st rfl rfl rfl rfl rfl (fun _ _ => rfl) ?_
      refine y_st rfl rfl rfl rfl rfl (fun _ _ => rfl) ?_
      refine y_st rfl rfl rfl rfl rfl (fun _ _ => rfl) ?_
      refine y_st rfl rfl rfl rfl rfl (fun _ _ => rfl) ?_
      show yP (xg xs) (d + 1) 43 35 [(0, .ref 8), (2, .int l2), (3, .long l3), (5, .int l5)] [.int l5, .ref 8, .long (l3 * l2.toInt64)] m2 Q
      refine y_call rfl rfl rfl rfl rfl (Nat.le_of_ble_eq_true rfl) (Nat.le_of_ble_eq_true rfl) rfl (by decide) H (fun v3 m3 H => ?_)
      obtain ⟨u3, rfl, H⟩ := H
      refine y_st rfl rfl rfl rfl rfl (fun _ _ => rfl) ?_
      show yP (xg xs) (d + 1) 43 39 [(0, .ref 8), (2, .int l2), (3, .long l3), (5, .int l5)] [.int l2, .int u3, .long (l3 * l2.toInt64)] m3 Q
      refine y_call rfl rfl rfl rfl rfl (Nat.le_of_ble_eq_true rfl) (Nat.le_of_ble_eq_true rfl) rfl (by decide) H (fun v4 m4 H => ?_)
      obtain ⟨u4, rfl, H⟩ := H
      refine y_st rfl rfl rfl rfl rfl (fun _ _ => rfl) ?_
      refine y_st rfl rfl rfl rfl rfl (fun _ _ => rfl) ?_
      refine y_st rfl rfl rfl rfl rfl (fun _ _ => rfl) ?_
      refine y_mi rfl rfl rfl rfl rfl (Nat.le_of_ble_eq_true rfl) (by omega) ?_
      refine y_st rfl rfl rfl rfl rfl (fun _ _ => rfl) ?_
      refine y_st rfl rfl rfl rfl rfl (fun _ _ => rfl) ?_
      refine y_st rfl rfl rfl rfl rfl (fun _ _ => rfl) ?_
      show yP (xg xs) (d + 1) 43 5 [(5, .int (l5 + (1 : Int32))), (3, .long (if (1099511627776 : Int64) < ((l3 * l2.toInt64) + u4.toInt64) then (1099511627776 : Int64) else ((l3 * l2.toInt64) + u4.toInt64))), (0, .ref 8), (2, .int l2)] [] m4 Q
      refine y_headS (l2 := [(0, .ref 8), (2, .int l2), (3, .long (if (1099511627776 : Int64) < ((l3 * l2.toInt64) + u4.toInt64) then (1099511627776 : Int64) else ((l3 * l2.toInt64) + u4.toInt64))), (5, .int (l5 + (1 : Int32)))]) [2, 3, 1, 0] [0, 2, 3, 5] [5, 3, 0, 2] rfl rfl (by decide) rfl (by decide) ?_
      exact H
set_option maxRecDepth 20000 in
/-- CodeMaker.Tokens.digit from 0 on -/
theorem w44_0 (xs : List Int32) (d : Nat) (l0 : Int32) (l1 : Int32) (m : yM) (Q : Option Value → yM → Prop) (H : (yC (xg xs) d 41 [.int l0] m (fun v1 m1 => ∃ u1, v1 = some (Value.int u1) ∧ ((u1 < (48 : Int32) → yP (xg xs) (d + 1) 44 27 [(1, .int l1), (2, .int u1), (3, .int ((-1) : Int32))] [] m1 Q) ∧ (¬ u1 < (48 : Int32) → (((57 : Int32) < u1 → yP (xg xs) (d + 1) 44 27 [(1, .int l1), (2, .int u1), (3, .int ((-1) : Int32))] [] m1 Q) ∧ (¬ (57 : Int32) < u1 → yP (xg xs) (d + 1) 44 47 [(1, .int l1), (3, .int (u1 - (48 : Int32)))] [] m1 Q))))))) : yP (xg xs) (d + 1) 44 0 [(0, .int l0), (1, .int l1)] [] m Q := by
  refine y_st rfl rfl rfl rfl rfl (fun _ _ => rfl) ?_
  show yP (xg xs) (d + 1) 44 1 [(0, .int l0), (1, .int l1)] [.int l0] m Q
  refine y_call rfl rfl rfl rfl rfl (Nat.le_of_ble_eq_true rfl) (Nat.le_of_ble_eq_true rfl) rfl (by decide) H (fun v1 m1 H => ?_)
  obtain ⟨u1, rfl, H⟩ := H
  refine y_st rfl rfl rfl rfl rfl (fun _ _ => rfl) ?_
  refine y_st rfl rfl rfl rfl rfl (fun _ _ => rfl) ?_
  refine y_st rfl rfl rfl rfl rfl (fun _ _ => rfl) ?_
  refine y_st rfl rfl rfl rfl rfl (fun _ _ => rfl) ?_
  refine y_st rfl rfl rfl rfl rfl (fun _ _ => rfl) ?_
  show yP (xg xs) (d + 1) 44 10 [(3, .int ((-1) : Int32)), (2, .int u1), (0, .int l0), (1, .int l1)] [.int (48 : Int32), .int u1] m1 Q
  refine y_ilt (t := 27) rfl rfl rfl (fun h => ?_) (fun h => ?_)
  · replace H := H.1 h; clear h
    show yP (xg xs) (d + 1) 44 27 [(3, .int ((-1) : Int32)), (2, .int u1), (0, .int l0), (1, .int l1)] [] m1 Q
    refine y_headS (l2 := [(1, .int l1), (2, .int u1), (3, .int ((-1) : Int32))]) [3, 1, 0] [1, 2, 3] [3, 2, 0, 1] rfl rfl (by decide) rfl (by decide) ?_
    exact H
  · replace H := H.2 h; clear h
    refine y_st rfl rfl rfl rfl rfl (fun _ _ => rfl) ?_
    refine y_st rfl rfl rfl rfl rfl (fun _ _ => rfl) ?_
    show yP (xg xs) (d + 1) 44 16 [(3, .int ((-1) : Int32)), (2, .int u1), (0, .int l0), (1, .int l1)] [.int (57 : Int32), .int u1] m1 Q
    refine y_igt (t := 27) rfl rfl rfl (fun h => ?_) (fun h => ?_)
    · replace H := H.1 h; clear h
      show yP (xg xs) (d + 1) 44 27 [(3, .int ((-1) : Int32)), (2, .int u1), (0, .int l0), (1, .int l1)] [] m1 Q
      refine y_headS (l2 := [(1, .int l1), (2, .int u1), (3, .int ((-1) : Int32))]) [3, 1, 0] [1, 2, 3] [3, 2, 0, 1] rfl rfl (by decide) rfl (by decide) ?_
      exact H
    · replace H := H.2 h; clear h
      refine y_st rfl rfl rfl rfl rfl (fun _ _ => rfl) ?_
      refine y_st rfl rfl rfl rfl rfl (fun _ _ => rfl) ?_
      refine y_st rfl rfl rfl rfl rfl (fun _ _ => rfl) ?_
      refine y_st rfl rfl rfl rfl rfl (fun _ _ => rfl) ?_
      refine y_st rfl rfl rfl rfl rfl (fun _ _ => rfl) ?_
      show yP (xg xs) (d + 1) 44 47 [(3, .int (u1 - (48 : Int32))), (2, .int u1), (0, .int l0), (1, .int l1)] [] m1 Q
      refine y_headS (l2 := [(1, .int l1), (3, .int (u1 - (48 : Int32)))]) [3, 0] [1, 3] [3, 2, 0, 1] rfl rfl (by decide) rfl (by decide) ?_
      exact H
set_option maxRecDepth 20000 in
/-- CodeMaker.Tokens.digit from 27 on -/
theorem w44_27 (xs : List Int32) (d : Nat) (l1 : Int32) (l2 : Int32) (l3 : Int32) (m : yM) (Q : Option Value → yM → Prop) (H : ((l2 < (65 : Int32) → yP (xg xs) (d + 1) 44 47 [(1, .int l1), (3, .int l3)] [] m Q) ∧ (¬ l2 < (65 : Int32) → (((70 : Int32) < l2 → yP (xg xs) (d + 1) 44 47 [(1, .int l1), (3, .int l3)] [] m Q) ∧ (¬ (70 : Int32) < l2 → yP (xg xs) (d + 1) 44 47 [(1, .int l1), (3, .int ((l2 - (65 : Int32)) + (10 : Int32)))] [] m Q))))) : yP (xg xs) (d + 1) 44 27 [(1, .int l1), (2, .int l2), (3, .int l3)] [] m Q := by
  refine y_st rfl rfl rfl rfl rfl (fun _ _ => rfl) ?_
  refine y_st rfl rfl rfl rfl rfl (fun _ _ => rfl) ?_
  show yP (xg xs) (d + 1) 44 30 [(1, .int l1), (2, .int l2), (3, .int l3)] [.int (65 : Int32), .int l2] m Q
  refine y_ilt (t := 47) rfl rfl rfl (fun h => ?_) (fun h => ?_)
  · replace H := H.1 h; clear h
    show yP (xg xs) (d + 1) 44 47 [(1, .int l1), (2, .int l2), (3, .int l3)] [] m Q
    refine y_headS (l2 := [(1, .int l1), (3, .int l3)]) [0, 2] [1, 3] [1, 2, 3] rfl rfl (by decide) rfl (by decide) ?_
    exact H
  · replace H := H.2 h; clear h
    refine y_st rfl rfl rfl rfl rfl (fun _ _ => rfl) ?_
    refine y_st rfl rfl rfl rfl rfl (fun _ _ => rfl) ?_
    show yP (xg xs) (d + 1) 44 36 [(1, .int l1), (2, .int l2), (3, .int l3)] [.int (70 : Int32), .int l2] m Q
    refine y_igt (t := 47) rfl rfl rfl (fun h => ?_) (fun h => ?_)
    · replace H := H.1 h; clear h
      show yP (xg xs) (d + 1) 44 47 [(1, .int l1), (2, .int l2), (3, .int l3)] [] m Q
      refine y_headS (l2 := [(1, .int l1), (3, .int l3)]) [0, 2] [1, 3] [1, 2, 3] rfl rfl (by decide) rfl (by decide) ?_
      exact H
    · replace H := H.2 h; clear h
      refine y_st rfl rfl rfl rfl rfl (fun _ _ => rfl) ?_
      refine y_st rfl rfl rfl rfl rfl (fun _ _ => rfl) ?_
      refine y_st rfl rfl rfl rfl rfl (fun _ _ => rfl) ?_
      refine y_st rfl rfl rfl rfl rfl (fun _ _ => rfl) ?_
      refine y_st rfl rfl rfl rfl rfl (fun _ _ => rfl) ?_
      refine y_st rfl rfl rfl rfl rfl (fun _ _ => rfl) ?_
      show yP (xg xs) (d + 1) 44 47 [(3, .int ((l2 - (65 : Int32)) + (10 : Int32))), (1, .int l1), (2, .int l2)] [] m Q
      refine y_headS (l2 := [(1, .int l1), (3, .int ((l2 - (65 : Int32)) + (10 : Int32)))]) [1, 0] [1, 3] [3, 1, 2] rfl rfl (by decide) rfl (by decide) ?_
      exact H
set_option maxRecDepth 20000 in
/-- CodeMaker.Tokens.digit from 47 on -/
theorem w44_47 (xs : List Int32) (d : Nat) (l1 : Int32) (l3 : Int32) (m : yM) (Q : Option Value → yM → Prop) (H : ((l1 ≤ l3 → Q (some (.int ((-1) : Int32))) m) ∧ (¬ l1 ≤ l3 → Q (some (.int l3)) m))) : yP (xg xs) (d + 1) 44 47 [(1, .int l1), (3, .int l3)] [] m Q := by
  refine y_st rfl rfl rfl rfl rfl (fun _ _ => rfl) ?_
  refine y_st rfl rfl rfl rfl rfl (fun _ _ => rfl) ?_
  show yP (xg xs) (d + 1) 44 49 [(1, .int l1), (3, .int l3)] [.int l1, .int l3] m Q
  refine y_ige (t := 56) rfl rfl rfl (fun h => ?_) (fun h => ?_)
  · replace H := H.1 h; clear h
    refine y_st rfl rfl rfl rfl rfl (fun _ _ => rfl) ?_
    show yP (xg xs) (d + 1) 44 57 [(1, .int l1), (3, .int l3)] [.int ((-1) : Int32)] m Q
    exact y_iret rfl rfl rfl H
  · replace H := H.2 h; clear h
    refine y_st rfl rfl rfl rfl rfl (fun _ _ => rfl) ?_
    refine y_st rfl rfl rfl rfl rfl (fun _ _ => rfl) ?_
    show yP (xg xs) (d + 1) 44 57 [(1, .int l1), (3, .int l3)] [.int l3] m Q
    exact y_iret rfl rfl rfl H
set_option maxRecDepth 20000 in
/-- CodeMaker.Tokens.numberEnd from 0 on -/
theorem w46_0 (xs : List Int32) (d : Nat) (l1 : Int32) (l2 : Int64) (m : yM) (Q : Option Value → yM → Prop) (H : ((0 < (lg_cmp l2 (2147483647 : Int64)) → yP (xg xs) (d + 1) 46 22 [(0, .ref 8), (1, .int l1)] [] m Q) ∧ (¬ 0 < (lg_cmp l2 (2147483647 : Int64)) → (yC (xg xs) d 36 [.ref 8, .int (m.1 8 7)] m (fun v1 m1 => ∃ u1, v1 = some (Value.int u1) ∧ (yC (xg xs) d 47 [.int u1] m1 (fun v2 m2 => ∃ u2, v2 = some (Value.int u2) ∧ ((u2 = 0 → (yC (xg xs) d 39 [.ref 8, .int (65 : Int32), .int l1, .int l2.toInt32] m2 (fun v3 m3 => v3 = none ∧ Q (some (.int (m3.1 8 7))) m3))) ∧ (¬ u2 = 0 → yP (xg xs) (d + 1) 46 22 [(0, .ref 8), (1, .int l1)] [] m2 Q))))))))) : yP (xg xs) (d + 1) 46 0 [(0, .ref 8), (1, .int l1), (2, .long l2)] [] m Q := by
  refine y_st rfl rfl rfl rfl rfl (fun _ _ => rfl) ?_
  refine y_st rfl rfl rfl rfl rfl (fun _ _ => rfl) ?_
  refine y_st rfl rfl rfl rfl rfl (fun _ _ => rfl) ?_
  show yP (xg xs) (d + 1) 46 5 [(0, .ref 8), (1, .int l1), (2, .long l2)] [.int (lg_cmp l2 (2147483647 : Int64))] m Q
  refine y_zgt (t := 22) rfl rfl rfl (fun h => ?_) (fun h => ?_)
  · replace H := H.1 h; clear h
    show yP (xg xs) (d + 1) 46 22 [(0, .ref 8), (1, .int l1), (2, .long l2)] [] m Q
    refine y_headS (l2 := [(0, .ref 8), (1, .int l1)]) [0, 1] [0, 1] [0, 1, 2] rfl rfl (by decide) rfl (by decide) ?_
    exact H
  · replace H := H.2 h; clear h
    refine y_st rfl rfl rfl rfl rfl (fun _ _ => rfl) ?_
    refine y_st rfl rfl rfl rfl rfl (fun _ _ => rfl) ?_
    refine y_gf rfl rfl rfl rfl rfl ?_
    show yP (xg xs) (d + 1) 46 13 [(0, .ref 8), (1, .int l1), (2, .long l2)] [.int (m.1 8 7), .ref 8] m Q
    refine y_call rfl rfl rfl rfl rfl (Nat.le_of_ble_eq_true rfl) (Nat.le_of_ble_eq_true rfl) rfl (by decide) H (fun v1 m1 H => ?_)
    obtain ⟨u1, rfl, H⟩ := H
    show yP (xg xs) (d + 1) 46 16 [(0, .ref 8), (1, .int l1), (2, .long l2)] [.int u1] m1 Q
    refine y_call rfl rfl rfl rfl rfl (Nat.le_of_ble_eq_true rfl) (Nat.le_of_ble_eq_true rfl) rfl (by decide) H (fun v2 m2 H => ?_)
    obtain ⟨u2, rfl, H⟩ := H
    show yP (xg xs) (d + 1) 46 19 [(0, .ref 8), (1, .int l1), (2, .long l2)] [.int u2] m2 Q
    refine y_zeq (t := 29) rfl rfl rfl (fun h => ?_) (fun h => ?_)
    · replace H := H.1 h; clear h
      refine y_st rfl rfl rfl rfl rfl (fun _ _ => rfl) ?_
      refine y_st rfl rfl rfl rfl rfl (fun _ _ => rfl) ?_
      refine y_st rfl rfl rfl rfl rfl (fun _ _ => rfl) ?_
      refine y_st rfl rfl rfl rfl rfl (fun _ _ => rfl) ?_
      refine y_st rfl rfl rfl rfl rfl (fun _ _ => rfl) ?_
      show yP (xg xs) (d + 1) 46 35 [(0, .ref 8), (1, .int l1), (2, .long l2)] [.int l2.toInt32, .int l1, .int (65 : Int32), .ref 8] m2 Q
      refine y_call rfl rfl rfl rfl rfl (Nat.le_of_ble_eq_true rfl) (Nat.le_of_ble_eq_true rfl) rfl (by decide) H (fun v3 m3 H => ?_)
      obtain ⟨rfl, H⟩ := H
      refine y_st rfl rfl rfl rfl rfl (fun _ _ => rfl) ?_
      refine y_gf rfl rfl rfl rfl rfl ?_
      show yP (xg xs) (d + 1) 46 42 [(0, .ref 8), (1, .int l1), (2, .long l2)] [.int (m3.1 8 7)] m3 Q
      exact y_iret rfl rfl rfl H
    · replace H := H.2 h; clear h
      show yP (xg xs) (d + 1) 46 22 [(0, .ref 8), (1, .int l1), (2, .long l2)] [] m2 Q
      refine y_headS (l2 := [(0, .ref 8), (1, .int l1)]) [0, 1] [0, 1] [0, 1, 2] rfl rfl (by decide) rfl (by decide) ?_
      exact H
set_option maxRecDepth 20000 in
/-- CodeMaker.Tokens.numberEnd from 22 on -/
theorem w46_22 (xs : List Int32) (d : Nat) (l1 : Int32) (m : yM) (Q : Option Value → yM → Prop) (H : (yC (xg xs) d 38 [.ref 8, .int (4 : Int32), .int l1] m (fun v1 m1 => ∃ u1, v1 = some (Value.int u1) ∧ Q (some (.int u1)) m1))) : yP (xg xs) (d + 1) 46 22 [(0, .ref 8), (1, .int l1)] [] m Q := by
  refine y_st rfl rfl rfl rfl rfl (fun _ _ => rfl) ?_
  refine y_st rfl rfl rfl rfl rfl (fun _ _ => rfl) ?_
  refine y_st rfl rfl rfl rfl rfl (fun _ _ => rfl) ?_
  show yP (xg xs) (d + 1) 46 25 [(0, .ref 8), (1, .int l1)] [.int l1, .int (4 : Int32), .ref 8] m Q
  refine y_call rfl rfl rfl rfl rfl (Nat.le_of_ble_eq_true rfl) (Nat.le_of_ble_eq_true rfl) rfl (by decide) H (fun v1 m1 H => ?_)
  obtain ⟨u1, rfl, H⟩ := H
  show yP (xg xs) (d + 1) 46 28 [(0, .ref 8), (1, .int l1)] [.int u1] m1 Q
  exact y_iret rfl rfl rfl H
set_option maxRecDepth 20000 in
/-- CodeMaker.Tokens.isNameByte from 0 on -/
theorem w47_0 (xs : List Int32) (d : Nat) (l0 : Int32) (m : yM) (Q : Option Value → yM → Prop) (H : (yC (xg xs) d 41 [.int l0] m (fun v1 m1 => ∃ u1, v1 = some (Value.int u1) ∧ ((u1 < (65 : Int32) → yP (xg xs) (d + 1) 47 17 [(1, .int u1)] [] m1 Q) ∧ (¬ u1 < (65 : Int32) → ((u1 ≤ (90 : Int32) → Q (some (.int (1 : Int32))) m1) ∧ (¬ u1 ≤ (90 : Int32) → yP (xg xs) (d + 1) 47 17 [(1, .int u1)] [] m1 Q))))))) : yP (xg xs) (d + 1) 47 0 [(0, .int l0)] [] m Q := by
  refine y_st rfl rfl rfl rfl rfl (fun _ _ => rfl) ?_
  show yP (xg xs) (d + 1) 47 1 [(0, .int l0)] [.int l0] m Q
  refine y_call rfl rfl rfl rfl rfl (Nat.le_of_ble_eq_true rfl) (Nat.le_of_ble_eq_true rfl) rfl (by decide) H (fun v1 m1 H => ?_)
  obtain ⟨u1, rfl, H⟩ := H
  refine y_st rfl rfl rfl rfl rfl (fun _ _ => rfl) ?_
  refine y_st rfl rfl rfl rfl rfl (fun _ _ => rfl) ?_
  refine y_st rfl rfl rfl rfl rfl (fun _ _ => rfl) ?_
  show yP (xg xs) (d + 1) 47 8 [(1, .int u1), (0, .int l0)] [.int (65 : Int32), .int u1] m1 Q
  refine y_ilt (t := 17) rfl rfl rfl (fun h => ?_) (fun h => ?_)
  · replace H := H.1 h; clear h
    show yP (xg xs) (d + 1) 47 17 [(1, .int u1), (0, .int l0)] [] m1 Q
    refine y_headS (l2 := [(1, .int u1)]) [0] [1] [1, 0] rfl rfl (by decide) rfl (by decide) ?_
    exact H
  · replace H := H.2 h; clear h
    refine y_st rfl rfl rfl rfl rfl (fun _ _ => rfl) ?_
    refine y_st rfl rfl rfl rfl rfl (fun _ _ => rfl) ?_
    show yP (xg xs) (d + 1) 47 14 [(1, .int u1), (0, .int l0)] [.int (90 : Int32), .int u1] m1 Q
    refine y_ile (t := 35) rfl rfl rfl (fun h => ?_) (fun h => ?_)
    · replace H := H.1 h; clear h
      refine y_st rfl rfl rfl rfl rfl (fun _ _ => rfl) ?_
      refine y_st rfl rfl rfl rfl rfl (fun _ _ => rfl) ?_
      show yP (xg xs) (d + 1) 47 40 [(1, .int u1), (0, .int l0)] [.int (1 : Int32)] m1 Q
      exact y_zret rfl rfl rfl (by decide) H
    · replace H := H.2 h; clear h
      show yP (xg xs) (d + 1) 47 17 [(1, .int u1), (0, .int l0)] [] m1 Q
      refine y_headS (l2 := [(1, .int u1)]) [0] [1] [1, 0] rfl rfl (by decide) rfl (by decide) ?_
      exact H
set_option maxRecDepth 20000 in
/-- CodeMaker.Tokens.isNameByte from 17 on -/
theorem w47_17 (xs : List Int32) (d : Nat) (l1 : Int32) (m : yM) (Q : Option Value → yM → Prop) (H : ((l1 < (48 : Int32) → yP (xg xs) (d + 1) 47 29 [(1, .int l1)] [] m Q) ∧ (¬ l1 < (48 : Int32) → ((l1 ≤ (57 : Int32) → Q (some (.int (1 : Int32))) m) ∧ (¬ l1 ≤ (57 : Int32) → yP (xg xs) (d + 1) 47 29 [(1, .int l1)] [] m Q))))) : yP (xg xs) (d + 1) 47 17 [(1, .int l1)] [] m Q := by
  refine y_st rfl rfl rfl rfl rfl (fun _ _ => rfl) ?_
  refine y_st rfl rfl rfl rfl rfl (fun _ _ => rfl) ?_
  show yP (xg xs) (d + 1) 47 20 [(1, .int l1)] [.int (48 : Int32), .int l1] m Q
  refine y_ilt (t := 29) rfl rfl rfl (fun h => ?_) (fun h => ?_)
  · replace H := H.1 h; clear h
    show yP (xg xs) (d + 1) 47 29 [(1, .int l1)] [] m Q
    exact H
  · replace H := H.2 h; clear h
    refine y_st rfl rfl rfl rfl rfl (fun _ _ => rfl) ?_
    refine y_st rfl rfl rfl rfl rfl (fun _ _ => rfl) ?_
    show yP (xg xs) (d + 1) 47 26 [(1, .int l1)] [.int (57 : Int32), .int l1] m Q
    refine y_ile (t := 35) rfl rfl rfl (fun h => ?_) (fun h => ?_)
    · replace H := H.1 h; clear h
      refine y_st rfl rfl rfl rfl rfl (fun _ _ => rfl) ?_
      refine y_st rfl rfl rfl rfl rfl (fun _ _ => rfl) ?_
      show yP (xg xs) (d + 1) 47 40 [(1, .int l1)] [.int (1 : Int32)] m Q
      exact y_zret rfl rfl rfl (by decide) H
    · replace H := H.2 h; clear h
      show yP (xg xs) (d + 1) 47 29 [(1, .int l1)] [] m Q
      exact H
set_option maxRecDepth 20000 in
/-- CodeMaker.Tokens.isNameByte from 29 on -/
theorem w47_29 (xs : List Int32) (d : Nat) (l1 : Int32) (m : yM) (Q : Option Value → yM → Prop) (H : ((¬ l1 = (95 : Int32) → Q (some (.int (0 : Int32))) m) ∧ (l1 = (95 : Int32) → Q (some (.int (1 : Int32))) m))) : yP (xg xs) (d + 1) 47 29 [(1, .int l1)] [] m Q := by
  refine y_st rfl rfl rfl rfl rfl (fun _ _ => rfl) ?_
  refine y_st rfl rfl rfl rfl rfl (fun _ _ => rfl) ?_
  show yP (xg xs) (d + 1) 47 32 [(1, .int l1)] [.int (95 : Int32), .int l1] m Q
  refine y_ine (t := 39) rfl rfl rfl (fun h => ?_) (fun h => ?_)
  · replace H := H.1 h; clear h
    refine y_st rfl rfl rfl rfl rfl (fun _ _ => rfl) ?_
    show yP (xg xs) (d + 1) 47 40 [(1, .int l1)] [.int (0 : Int32)] m Q
    exact y_zret rfl rfl rfl (by decide) H
  · replace H := H.2 h; clear h
    refine y_st rfl rfl rfl rfl rfl (fun _ _ => rfl) ?_
    refine y_st rfl rfl rfl rfl rfl (fun _ _ => rfl) ?_
    show yP (xg xs) (d + 1) 47 40 [(1, .int l1)] [.int (1 : Int32)] m Q
    exact y_zret rfl rfl rfl (by decide) H
set_option maxRecDepth 20000 in
/-- CodeMaker.Tokens.number from 0 on -/
theorem w48_0 (xs : List Int32) (d : Nat) (l1 : Int32) (m : yM) (Q : Option Value → yM → Prop) (H : (yC (xg xs) d 43 [.ref 8, .int l1, .int (10 : Int32)] m (fun v1 m1 => ∃ u1, v1 = some (Value.long u1) ∧ (yC (xg xs) d 36 [.ref 8, .int (m1.1 8 7)] m1 (fun v2 m2 => ∃ u2, v2 = some (Value.int u2) ∧ ((¬ u2 = (35 : Int32) → yP (xg xs) (d + 1) 48 77 [(0, .ref 8), (1, .int l1), (2, .long u1)] [] m2 Q) ∧ (u2 = (35 : Int32) → (((lg_cmp u1 (16 : Int64)) = 0 → yP (xg xs) (d + 1) 48 44 [(0, .ref 8), (1, .int l1), (2, .long u1)] [] m2 Q) ∧ (¬ (lg_cmp u1 (16 : Int64)) = 0 → (((lg_cmp u1 (2 : Int64)) = 0 → yP (xg xs) (d + 1) 48 44 [(0, .ref 8), (1, .int l1), (2, .long u1)] [] m2 Q) ∧ (¬ (lg_cmp u1 (2 : Int64)) = 0 → (yC (xg xs) d 38 [.ref 8, .int (4 : Int32), .int l1] m2 (fun v3 m3 => ∃ u3, v3 = some (Value.int u3) ∧ Q (some (.int u3)) m3))))))))))))) : yP (xg xs) (d + 1) 48 0 [(0, .ref 8), (1, .int l1)] [] m Q := by
  refine y_st rfl rfl rfl rfl rfl (fun _ _ => rfl) ?_
  refine y_st rfl rfl rfl rfl rfl (fun _ _ => rfl) ?_
  refine y_st rfl rfl rfl rfl rfl (fun _ _ => rfl) ?_
  show yP (xg xs) (d + 1) 48 4 [(0, .ref 8), (1, .int l1)] [.int (10 : Int32), .int l1, .ref 8] m Q
  refine y_call rfl rfl rfl rfl rfl (Nat.le_of_ble_eq_true rfl) (Nat.le_of_ble_eq_true rfl) rfl (by decide) H (fun v1 m1 H => ?_)
  obtain ⟨u1, rfl, H⟩ := H
  refine y_st rfl rfl rfl rfl rfl (fun _ _ => rfl) ?_
  refine y_st rfl rfl rfl rfl rfl (fun _ _ => rfl) ?_
  refine y_st rfl rfl rfl rfl rfl (fun _ _ => rfl) ?_
  refine y_gf rfl rfl rfl rfl rfl ?_
  show yP (xg xs) (d + 1) 48 13 [(2, .long u1), (0, .ref 8), (1, .int l1)] [.int (m1.1 8 7), .ref 8] m1 Q
  refine y_call rfl rfl rfl rfl rfl (Nat.le_of_ble_eq_true rfl) (Nat.le_of_ble_eq_true rfl) rfl (by decide) H (fun v2 m2 H => ?_)
  obtain ⟨u2, rfl, H⟩ := H
  refine y_st rfl rfl rfl rfl rfl (fun _ _ => rfl) ?_
  show yP (xg xs) (d + 1) 48 18 [(2, .long u1), (0, .ref 8), (1, .int l1)] [.int (35 : Int32), .int u2] m2 Q
  refine y_ine (t := 77) rfl rfl rfl (fun h => ?_) (fun h => ?_)
  · replace H := H.1 h; clear h
    show yP (xg xs) (d + 1) 48 77 [(2, .long u1), (0, .ref 8), (1, .int l1)] [] m2 Q
    refine y_headS (l2 := [(0, .ref 8), (1, .int l1), (2, .long u1)]) [1, 2, 0] [0, 1, 2] [2, 0, 1] rfl rfl (by decide) rfl (by decide) ?_
    exact H
  · replace H := H.2 h; clear h
    refine y_st rfl rfl rfl rfl rfl (fun _ _ => rfl) ?_
    refine y_st rfl rfl rfl rfl rfl (fun _ _ => rfl) ?_
    refine y_st rfl rfl rfl rfl rfl (fun _ _ => rfl) ?_
    show yP (xg xs) (d + 1) 48 26 [(2, .long u1), (0, .ref 8), (1, .int l1)] [.int (lg_cmp u1 (16 : Int64))] m2 Q
    refine y_zeq (t := 44) rfl rfl rfl (fun h => ?_) (fun h => ?_)
    · replace H := H.1 h; clear h
      show yP (xg xs) (d + 1) 48 44 [(2, .long u1), (0, .ref 8), (1, .int l1)] [] m2 Q
      refine y_headS (l2 := [(0, .ref 8), (1, .int l1), (2, .long u1)]) [1, 2, 0] [0, 1, 2] [2, 0, 1] rfl rfl (by decide) rfl (by decide) ?_
      exact H
    · replace H := H.2 h; clear h
      refine y_st rfl rfl rfl rfl rfl (fun _ _ => rfl) ?_
      refine y_st rfl rfl rfl rfl rfl (fun _ _ => rfl) ?_
      refine y_st rfl rfl rfl rfl rfl (fun _ _ => rfl) ?_
      show yP (xg xs) (d + 1) 48 34 [(2, .long u1), (0, .ref 8), (1, .int l1)] [.int (lg_cmp u1 (2 : Int64))] m2 Q
      refine y_zeq (t := 44) rfl rfl rfl (fun h => ?_) (fun h => ?_)
      · replace H := H.1 h; clear h
        show yP (xg xs) (d + 1) 48 44 [(2, .long u1), (0, .ref 8), (1, .int l1)] [] m2 Q
        refine y_headS (l2 := [(0, .ref 8), (1, .int l1), (2, .long u1)]) [1, 2, 0] [0, 1, 2] [2, 0, 1] rfl rfl (by decide) rfl (by decide) ?_
        exact H
      · replace H := H.2 h; clear h
        refine y_st rfl rfl rfl rfl rfl (fun _ _ => rfl) ?_
        refine y_st rfl rfl rfl rfl rfl (fun _ _ => rfl) ?_
        refine y_st rfl rfl rfl rfl rfl (fun _ _ => rfl) ?_
        show yP (xg xs) (d + 1) 48 40 [(2, .long u1), (0, .ref 8), (1, .int l1)] [.int l1, .int (4 : Int32), .ref 8] m2 Q
        refine y_call rfl rfl rfl rfl rfl (Nat.le_of_ble_eq_true rfl) (Nat.le_of_ble_eq_true rfl) rfl (by decide) H (fun v3 m3 H => ?_)
        obtain ⟨u3, rfl, H⟩ := H
        show yP (xg xs) (d + 1) 48 43 [(2, .long u1), (0, .ref 8), (1, .int l1)] [.int u3] m3 Q
        exact y_iret rfl rfl rfl H
set_option maxRecDepth 20000 in
/-- CodeMaker.Tokens.number from 44 on -/
theorem w48_44 (xs : List Int32) (d : Nat) (l1 : Int32) (l2 : Int64) (m : yM) (Q : Option Value → yM → Prop) (H : (yC (xg xs) d 43 [.ref 8, .int ((m.1 8 7) + (1 : Int32)), .int l2.toInt32] m (fun v1 m1 => ∃ u1, v1 = some (Value.long u1) ∧ ((¬ (m1.1 8 7) = ((m.1 8 7) + (1 : Int32)) → yP (xg xs) (d + 1) 48 77 [(0, .ref 8), (1, .int l1), (2, .long u1)] [] m1 Q) ∧ ((m1.1 8 7) = ((m.1 8 7) + (1 : Int32)) → (yC (xg xs) d 38 [.ref 8, .int (4 : Int32), .int l1] m1 (fun v2 m2 => ∃ u2, v2 = some (Value.int u2) ∧ Q (some (.int u2)) m2))))))) : yP (xg xs) (d + 1) 48 44 [(0, .ref 8), (1, .int l1), (2, .long l2)] [] m Q := by
  refine y_st rfl rfl rfl rfl rfl (fun _ _ => rfl) ?_
  refine y_gf rfl rfl rfl rfl rfl ?_
  refine y_st rfl rfl rfl rfl rfl (fun _ _ => rfl) ?_
  refine y_st rfl rfl rfl rfl rfl (fun _ _ => rfl) ?_
  refine y_st rfl rfl rfl rfl rfl (fun _ _ => rfl) ?_
  refine y_st rfl rfl rfl rfl rfl (fun _ _ => rfl) ?_
  refine y_st rfl rfl rfl rfl rfl (fun _ _ => rfl) ?_
  refine y_st rfl rfl rfl rfl rfl (fun _ _ => rfl) ?_
  refine y_st rfl rfl rfl rfl rfl (fun _ _ => rfl) ?_
  show yP (xg xs) (d + 1) 48 57 [(4, .int ((m.1 8 7) + (1 : Int32))), (0, .ref 8), (1, .int l1), (2, .long l2)] [.int l2.toInt32, .int ((m.1 8 7) + (1 : Int32)), .ref 8] m Q
  refine y_call rfl rfl rfl rfl rfl (Nat.le_of_ble_eq_true rfl) (Nat.le_of_ble_eq_true rfl) rfl (by decide) H (fun v1 m1 H => ?_)
  obtain ⟨u1, rfl, H⟩ := H
  refine y_st rfl rfl rfl rfl rfl (fun _ _ => rfl) ?_
  refine y_st rfl rfl rfl rfl rfl (fun _ _ => rfl) ?_
  refine y_gf rfl rfl rfl rfl rfl ?_
  refine y_st rfl rfl rfl rfl rfl (fun _ _ => rfl) ?_
  show yP (xg xs) (d + 1) 48 67 [(2, .long u1), (4, .int ((m.1 8 7) + (1 : Int32))), (0, .ref 8), (1, .int l1)] [.int ((m.1 8 7) + (1 : Int32)), .int (m1.1 8 7)] m1 Q
  refine y_ine (t := 77) rfl rfl rfl (fun h => ?_) (fun h => ?_)
  · replace H := H.1 h; clear h
    show yP (xg xs) (d + 1) 48 77 [(2, .long u1), (4, .int ((m.1 8 7) + (1 : Int32))), (0, .ref 8), (1, .int l1)] [] m1 Q
    refine y_headS (l2 := [(0, .ref 8), (1, .int l1), (2, .long u1)]) [2, 3, 0] [0, 1, 2] [2, 4, 0, 1] rfl rfl (by decide) rfl (by decide) ?_
    exact H
  · replace H := H.2 h; clear h
    refine y_st rfl rfl rfl rfl rfl (fun _ _ => rfl) ?_
    refine y_st rfl rfl rfl rfl rfl (fun _ _ => rfl) ?_
    refine y_st rfl rfl rfl rfl rfl (fun _ _ => rfl) ?_
    show yP (xg xs) (d + 1) 48 73 [(2, .long u1), (4, .int ((m.1 8 7) + (1 : Int32))), (0, .ref 8), (1, .int l1)] [.int l1, .int (4 : Int32), .ref 8] m1 Q
    refine y_call rfl rfl rfl rfl rfl (Nat.le_of_ble_eq_true rfl) (Nat.le_of_ble_eq_true rfl) rfl (by decide) H (fun v2 m2 H => ?_)
    obtain ⟨u2, rfl, H⟩ := H
    show yP (xg xs) (d + 1) 48 76 [(2, .long u1), (4, .int ((m.1 8 7) + (1 : Int32))), (0, .ref 8), (1, .int l1)] [.int u2] m2 Q
    exact y_iret rfl rfl rfl H
set_option maxRecDepth 20000 in
/-- CodeMaker.Tokens.number from 77 on -/
theorem w48_77 (xs : List Int32) (d : Nat) (l1 : Int32) (l2 : Int64) (m : yM) (Q : Option Value → yM → Prop) (H : (yC (xg xs) d 46 [.ref 8, .int l1, .long l2] m (fun v1 m1 => ∃ u1, v1 = some (Value.int u1) ∧ Q (some (.int u1)) m1))) : yP (xg xs) (d + 1) 48 77 [(0, .ref 8), (1, .int l1), (2, .long l2)] [] m Q := by
  refine y_st rfl rfl rfl rfl rfl (fun _ _ => rfl) ?_
  refine y_st rfl rfl rfl rfl rfl (fun _ _ => rfl) ?_
  refine y_st rfl rfl rfl rfl rfl (fun _ _ => rfl) ?_
  show yP (xg xs) (d + 1) 48 80 [(0, .ref 8), (1, .int l1), (2, .long l2)] [.long l2, .int l1, .ref 8] m Q
  refine y_call rfl rfl rfl rfl rfl (Nat.le_of_ble_eq_true rfl) (Nat.le_of_ble_eq_true rfl) rfl (by decide) H (fun v1 m1 H => ?_)
  obtain ⟨u1, rfl, H⟩ := H
  show yP (xg xs) (d + 1) 48 83 [(0, .ref 8), (1, .int l1), (2, .long l2)] [.int u1] m1 Q
  exact y_iret rfl rfl rfl H
set_option maxRecDepth 20000 in
/-- CodeMaker.Tokens.name from 0 on -/
theorem w49_0 (xs : List Int32) (d : Nat) (l1 : Int32) (m : yM) (Q : Option Value → yM → Prop) (H : yP (xg xs) (d + 1) 49 2 [(0, .ref 8), (1, .int l1), (2, .int l1)] [] m Q) : yP (xg xs) (d + 1) 49 0 [(0, .ref 8), (1, .int l1)] [] m Q := by
  refine y_st rfl rfl rfl rfl rfl (fun _ _ => rfl) ?_
  refine y_st rfl rfl rfl rfl rfl (fun _ _ => rfl) ?_
  show yP (xg xs) (d + 1) 49 2 [(2, .int l1), (0, .ref 8), (1, .int l1)] [] m Q
  refine y_headS (l2 := [(0, .ref 8), (1, .int l1), (2, .int l1)]) [1, 2, 0] [0, 1, 2] [2, 0, 1] rfl rfl (by decide) rfl (by decide) ?_
  exact H
set_option maxRecDepth 20000 in
/-- CodeMaker.Tokens.name from 2 on -/
theorem w49_2 (xs : List Int32) (d : Nat) (l1 : Int32) (l2 : Int32) (m : yM) (Q : Option Value → yM → Prop) (H : (((m.1 8 5) ≤ l2 → yP (xg xs) (d + 1) 49 27 [(0, .ref 8), (1, .int l1), (2, .int l2)] [] m Q) ∧ (¬ (m.1 8 5) ≤ l2 → (yC (xg xs) d 36 [.ref 8, .int l2] m (fun v1 m1 => ∃ u1, v1 = some (Value.int u1) ∧ (yC (xg xs) d 47 [.int u1] m1 (fun v2 m2 => ∃ u2, v2 = some (Value.int u2) ∧ ((u2 = 0 → yP (xg xs) (d + 1) 49 27 [(0, .ref 8), (1, .int l1), (2, .int l2)] [] m2 Q) ∧ (¬ u2 = 0 → yP (xg xs) (d + 1) 49 2 [(0, .ref 8), (1, .int l1), (2, .int (l2 + (1 : Int32)))] [] m2 Q))))))))) : yP (xg xs) (d + 1) 49 2 [(0, .ref 8), (1, .int l1), (2, .int l2)] [] m Q := by
  refine y_st rfl rfl rfl rfl rfl (fun _ _ => rfl) ?_
  refine y_st rfl rfl rfl rfl rfl (fun _ _ => rfl) ?_
  refine y_gf rfl rfl rfl rfl rfl ?_
  show yP (xg xs) (d + 1) 49 7 [(0, .ref 8), (1, .int l1), (2, .int l2)] [.int (m.1 8 5), .int l2] m Q
  refine y_ige (t := 27) rfl rfl rfl (fun h => ?_) (fun h => ?_)
  · replace H := H.1 h; clear h
    show yP (xg xs) (d + 1) 49 27 [(0, .ref 8), (1, .int l1), (2, .int l2)] [] m Q
    exact H
  · replace H := H.2 h; clear h
    refine y_st rfl rfl rfl rfl rfl (fun _ _ => rfl) ?_
    refine y_st rfl rfl rfl rfl rfl (fun _ _ => rfl) ?_
    show yP (xg xs) (d + 1) 49 12 [(0, .ref 8), (1, .int l1), (2, .int l2)] [.int l2, .ref 8] m Q
    refine y_call rfl rfl rfl rfl rfl (Nat.le_of_ble_eq_true rfl) (Nat.le_of_ble_eq_true rfl) rfl (by decide) H (fun v1 m1 H => ?_)
    obtain ⟨u1, rfl, H⟩ := H
    show yP (xg xs) (d + 1) 49 15 [(0, .ref 8), (1, .int l1), (2, .int l2)] [.int u1] m1 Q
    refine y_call rfl rfl rfl rfl rfl (Nat.le_of_ble_eq_true rfl) (Nat.le_of_ble_eq_true rfl) rfl (by decide) H (fun v2 m2 H => ?_)
    obtain ⟨u2, rfl, H⟩ := H
    show yP (xg xs) (d + 1) 49 18 [(0, .ref 8), (1, .int l1), (2, .int l2)] [.int u2] m2 Q
    refine y_zeq (t := 27) rfl rfl rfl (fun h => ?_) (fun h => ?_)
    · replace H := H.1 h; clear h
      show yP (xg xs) (d + 1) 49 27 [(0, .ref 8), (1, .int l1), (2, .int l2)] [] m2 Q
      exact H
    · replace H := H.2 h; clear h
      refine y_st rfl rfl rfl rfl rfl (fun _ _ => rfl) ?_
      refine y_st rfl rfl rfl rfl rfl (fun _ _ => rfl) ?_
      show yP (xg xs) (d + 1) 49 2 [(2, .int (l2 + (1 : Int32))), (0, .ref 8), (1, .int l1)] [] m2 Q
      refine y_headS (l2 := [(0, .ref 8), (1, .int l1), (2, .int (l2 + (1 : Int32)))]) [1, 2, 0] [0, 1, 2] [2, 0, 1] rfl rfl (by decide) rfl (by decide) ?_
      exact H
set_option maxRecDepth 20000 in
/-- CodeMaker.Tokens.name from 27 on -/
theorem w49_27 (xs : List Int32) (d : Nat) (l1 : Int32) (l2 : Int32) (m : yM) (Q : Option Value → yM → Prop) (H : (((l2 - l1) ≤ (32 : Int32) → (¬ m.1 8 4 = 0 ∧ (yC (xg xs) d 50 [.ref 12, .ref 1, .int l1, .int (l2 - l1)] m (fun v1 m1 => ∃ u1, v1 = some (Value.int u1) ∧ (((41 : Int32) ≤ u1 → yP (xg xs) (d + 1) 49 71 [(1, .int l1), (2, .int l2), (3, .int u1)] [.int (64 : Int32), .ref 8] m1 Q) ∧ (¬ (41 : Int32) ≤ u1 → yP (xg xs) (d + 1) 49 71 [(1, .int l1), (2, .int l2), (3, .int u1)] [.int u1, .ref 8] m1 Q)))))) ∧ (¬ (l2 - l1) ≤ (32 : Int32) → (yC (xg xs) d 38 [.ref 8, .int (3 : Int32), .int l1] m (fun v2 m2 => ∃ u2, v2 = some (Value.int u2) ∧ Q (some (.int u2)) m2))))) : yP (xg xs) (d + 1) 49 27 [(0, .ref 8), (1, .int l1), (2, .int l2)] [] m Q := by
  refine y_st rfl rfl rfl rfl rfl (fun _ _ => rfl) ?_
  refine y_st rfl rfl rfl rfl rfl (fun _ _ => rfl) ?_
  refine y_st rfl rfl rfl rfl rfl (fun _ _ => rfl) ?_
  refine y_st rfl rfl rfl rfl rfl (fun _ _ => rfl) ?_
  show yP (xg xs) (d + 1) 49 32 [(0, .ref 8), (1, .int l1), (2, .int l2)] [.int (32 : Int32), .int (l2 - l1)] m Q
  refine y_ile (t := 42) rfl rfl rfl (fun h => ?_) (fun h => ?_)
  · replace H := H.1 h; clear h
    refine y_st rfl rfl rfl rfl rfl (fun _ _ => rfl) ?_
    refine y_gf rfl rfl rfl rfl rfl ?_
    refine y_st rfl rfl rfl rfl rfl (fun _ _ => rfl) ?_
    refine y_gf rfl rfl rfl rfl rfl ?_
    rw [show y_v _ 8 _ (.retAddr 1) = .ref 1 from if_neg H.1]
    replace H := H.2
    refine y_st rfl rfl rfl rfl rfl (fun _ _ => rfl) ?_
    refine y_st rfl rfl rfl rfl rfl (fun _ _ => rfl) ?_
    refine y_st rfl rfl rfl rfl rfl (fun _ _ => rfl) ?_
    refine y_st rfl rfl rfl rfl rfl (fun _ _ => rfl) ?_
    show yP (xg xs) (d + 1) 49 54 [(0, .ref 8), (1, .int l1), (2, .int l2)] [.int (l2 - l1), .int l1, .ref 1, .ref 12] m Q
    refine y_call rfl rfl rfl rfl rfl (Nat.le_of_ble_eq_true rfl) (Nat.le_of_ble_eq_true rfl) rfl (by decide) H (fun v1 m1 H => ?_)
    obtain ⟨u1, rfl, H⟩ := H
    refine y_st rfl rfl rfl rfl rfl (fun _ _ => rfl) ?_
    refine y_st rfl rfl rfl rfl rfl (fun _ _ => rfl) ?_
    refine y_st rfl rfl rfl rfl rfl (fun _ _ => rfl) ?_
    refine y_st rfl rfl rfl rfl rfl (fun _ _ => rfl) ?_
    show yP (xg xs) (d + 1) 49 62 [(3, .int u1), (0, .ref 8), (1, .int l1), (2, .int l2)] [.int (41 : Int32), .int u1, .ref 8] m1 Q
    refine y_ige (t := 69) rfl rfl rfl (fun h => ?_) (fun h => ?_)
    · replace H := H.1 h; clear h
      refine y_st rfl rfl rfl rfl rfl (fun _ _ => rfl) ?_
      show yP (xg xs) (d + 1) 49 71 [(3, .int u1), (0, .ref 8), (1, .int l1), (2, .int l2)] [.int (64 : Int32), .ref 8] m1 Q
      refine y_headS (l2 := [(1, .int l1), (2, .int l2), (3, .int u1)]) [2, 3, 0] [1, 2, 3] [3, 0, 1, 2] rfl rfl (by decide) rfl (by decide) ?_
      exact H
    · replace H := H.2 h; clear h
      refine y_st rfl rfl rfl rfl rfl (fun _ _ => rfl) ?_
      refine y_st rfl rfl rfl rfl rfl (fun _ _ => rfl) ?_
      show yP (xg xs) (d + 1) 49 71 [(3, .int u1), (0, .ref 8), (1, .int l1), (2, .int l2)] [.int u1, .ref 8] m1 Q
      refine y_headS (l2 := [(1, .int l1), (2, .int l2), (3, .int u1)]) [2, 3, 0] [1, 2, 3] [3, 0, 1, 2] rfl rfl (by decide) rfl (by decide) ?_
      exact H
  · replace H := H.2 h; clear h
    refine y_st rfl rfl rfl rfl rfl (fun _ _ => rfl) ?_
    refine y_st rfl rfl rfl rfl rfl (fun _ _ => rfl) ?_
    refine y_st rfl rfl rfl rfl rfl (fun _ _ => rfl) ?_
    show yP (xg xs) (d + 1) 49 38 [(0, .ref 8), (1, .int l1), (2, .int l2)] [.int l1, .int (3 : Int32), .ref 8] m Q
    refine y_call rfl rfl rfl rfl rfl (Nat.le_of_ble_eq_true rfl) (Nat.le_of_ble_eq_true rfl) rfl (by decide) H (fun v2 m2 H => ?_)
    obtain ⟨u2, rfl, H⟩ := H
    show yP (xg xs) (d + 1) 49 41 [(0, .ref 8), (1, .int l1), (2, .int l2)] [.int u2] m2 Q
    exact y_iret rfl rfl rfl H
set_option maxRecDepth 20000 in
/-- CodeMaker.Tokens.name from 71 on -/
theorem w49_71 (xs : List Int32) (d : Nat) (l1 : Int32) (l2 : Int32) (l3 : Int32) (s1 : Int32) (m : yM) (Q : Option Value → yM → Prop) (H : (yC (xg xs) d 39 [.ref 8, .int s1, .int l1, .int l3] m (fun v1 m1 => v1 = none ∧ Q (some (.int l2)) m1))) : yP (xg xs) (d + 1) 49 71 [(1, .int l1), (2, .int l2), (3, .int l3)] [.int s1, .ref 8] m Q := by
  refine y_st rfl rfl rfl rfl rfl (fun _ _ => rfl) ?_
  refine y_st rfl rfl rfl rfl rfl (fun _ _ => rfl) ?_
  show yP (xg xs) (d + 1) 49 73 [(1, .int l1), (2, .int l2), (3, .int l3)] [.int l3, .int l1, .int s1, .ref 8] m Q
  refine y_call rfl rfl rfl rfl rfl (Nat.le_of_ble_eq_true rfl) (Nat.le_of_ble_eq_true rfl) rfl (by decide) H (fun v1 m1 H => ?_)
  obtain ⟨rfl, H⟩ := H
  refine y_st rfl rfl rfl rfl rfl (fun _ _ => rfl) ?_
  show yP (xg xs) (d + 1) 49 77 [(1, .int l1), (2, .int l2), (3, .int l3)] [.int l2] m1 Q
  exact y_iret rfl rfl rfl H
set_option maxRecDepth 20000 in
/-- CodeMaker.Names.numberOf from 0 on -/
theorem w50_0 (xs : List Int32) (d : Nat) (l2 : Int32) (l3 : Int32) (m : yM) (Q : Option Value → yM → Prop) (H : (x_in (m.1 12 4) 4173 = true ∧ ((((m.1 14 ((m.1 12 4).toNatClampNeg)) + l3) ≤ (8704 : Int32) → yP (xg xs) (d + 1) 50 29 [(0, .ref 12), (1, .ref 1), (2, .int l2), (3, .int l3), (4, .int (m.1 14 ((m.1 12 4).toNatClampNeg))), (5, .int (0 : Int32))] [] m Q) ∧ (¬ ((m.1 14 ((m.1 12 4).toNatClampNeg)) + l3) ≤ (8704 : Int32) → Q (some (.int (74 : Int32))) m)))) : yP (xg xs) (d + 1) 50 0 [(0, .ref 12), (1, .ref 1), (2, .int l2), (3, .int l3)] [] m Q := by
  refine y_st rfl rfl rfl rfl rfl (fun _ _ => rfl) ?_
  refine y_gf rfl rfl rfl rfl rfl ?_
  refine y_st rfl rfl rfl rfl rfl (fun _ _ => rfl) ?_
  refine y_gf rfl rfl rfl rfl rfl ?_
  show yP (xg xs) (d + 1) 50 8 [(0, .ref 12), (1, .ref 1), (2, .int l2), (3, .int l3)] [.int (m.1 12 4), .ref 14] m Q
  refine y_iald rfl rfl rfl (H.1) ?_
  replace H := H.2
  refine y_st rfl rfl rfl rfl rfl (fun _ _ => rfl) ?_
  refine y_st rfl rfl rfl rfl rfl (fun _ _ => rfl) ?_
  refine y_st rfl rfl rfl rfl rfl (fun _ _ => rfl) ?_
  refine y_st rfl rfl rfl rfl rfl (fun _ _ => rfl) ?_
  refine y_st rfl rfl rfl rfl rfl (fun _ _ => rfl) ?_
  refine y_gf rfl rfl rfl rfl rfl ?_
  refine y_st rfl rfl rfl rfl rfl (fun _ _ => rfl) ?_
  show yP (xg xs) (d + 1) 50 20 [(4, .int (m.1 14 ((m.1 12 4).toNatClampNeg))), (0, .ref 12), (1, .ref 1), (2, .int l2), (3, .int l3)] [.int (8704 : Int32), .int ((m.1 14 ((m.1 12 4).toNatClampNeg)) + l3)] m Q
  refine y_ile (t := 26) rfl rfl rfl (fun h => ?_) (fun h => ?_)
  · replace H := H.1 h; clear h
    refine y_st rfl rfl rfl rfl rfl (fun _ _ => rfl) ?_
    refine y_st rfl rfl rfl rfl rfl (fun _ _ => rfl) ?_
    show yP (xg xs) (d + 1) 50 29 [(5, .int (0 : Int32)), (4, .int (m.1 14 ((m.1 12 4).toNatClampNeg))), (0, .ref 12), (1, .ref 1), (2, .int l2), (3, .int l3)] [] m Q
    refine y_headS (l2 := [(0, .ref 12), (1, .ref 1), (2, .int l2), (3, .int l3), (4, .int (m.1 14 ((m.1 12 4).toNatClampNeg))), (5, .int (0 : Int32))]) [2, 3, 4, 5, 1, 0] [0, 1, 2, 3, 4, 5] [5, 4, 0, 1, 2, 3] rfl rfl (by decide) rfl (by decide) ?_
    exact H
  · replace H := H.2 h; clear h
    refine y_st rfl rfl rfl rfl rfl (fun _ _ => rfl) ?_
    show yP (xg xs) (d + 1) 50 25 [(4, .int (m.1 14 ((m.1 12 4).toNatClampNeg))), (0, .ref 12), (1, .ref 1), (2, .int l2), (3, .int l3)] [.int (74 : Int32)] m Q
    exact y_iret rfl rfl rfl H
set_option maxRecDepth 20000 in
/-- CodeMaker.Names.numberOf from 29 on -/
theorem w50_29 (xs : List Int32) (d : Nat) (l2 : Int32) (l3 : Int32) (l4 : Int32) (l5 : Int32) (m : yM) (Q : Option Value → yM → Prop) (H : ((l3 ≤ l5 → (yC (xg xs) d 33 [.ref 12, .int l3] m (fun v1 m1 => ∃ u1, v1 = some (Value.int u1) ∧ Q (some (.int u1)) m1))) ∧ (¬ l3 ≤ l5 → (x_in (l2 + l5) 8192 = true ∧ (yC (xg xs) d 41 [.int (m.1 1 ((l2 + l5).toNatClampNeg))] m (fun v2 m2 => ∃ u2, v2 = some (Value.int u2) ∧ (x_in (l4 + l5) 8704 = true ∧ yP (xg xs) (d + 1) 50 29 [(0, .ref 12), (1, .ref 1), (2, .int l2), (3, .int l3), (4, .int l4), (5, .int (l5 + (1 : Int32)))] [] (y_si m2 13 ((l4 + l5).toNatClampNeg) (vp_nar .byte u2.toInt8.toInt32)) Q))))))) : yP (xg xs) (d + 1) 50 29 [(0, .ref 12), (1, .ref 1), (2, .int l2), (3, .int l3), (4, .int l4), (5, .int l5)] [] m Q := by
  refine y_st rfl rfl rfl rfl rfl (fun _ _ => rfl) ?_
  refine y_st rfl rfl rfl rfl rfl (fun _ _ => rfl) ?_
  show yP (xg xs) (d + 1) 50 32 [(0, .ref 12), (1, .ref 1), (2, .int l2), (3, .int l3), (4, .int l4), (5, .int l5)] [.int l3, .int l5] m Q
  refine y_ige (t := 61) rfl rfl rfl (fun h => ?_) (fun h => ?_)
  · replace H := H.1 h; clear h
    refine y_st rfl rfl rfl rfl rfl (fun _ _ => rfl) ?_
    refine y_st rfl rfl rfl rfl rfl (fun _ _ => rfl) ?_
    show yP (xg xs) (d + 1) 50 63 [(0, .ref 12), (1, .ref 1), (2, .int l2), (3, .int l3), (4, .int l4), (5, .int l5)] [.int l3, .ref 12] m Q
    refine y_call rfl rfl rfl rfl rfl (Nat.le_of_ble_eq_true rfl) (Nat.le_of_ble_eq_true rfl) rfl (by decide) H (fun v1 m1 H => ?_)
    obtain ⟨u1, rfl, H⟩ := H
    show yP (xg xs) (d + 1) 50 66 [(0, .ref 12), (1, .ref 1), (2, .int l2), (3, .int l3), (4, .int l4), (5, .int l5)] [.int u1] m1 Q
    exact y_iret rfl rfl rfl H
  · replace H := H.2 h; clear h
    refine y_st rfl rfl rfl rfl rfl (fun _ _ => rfl) ?_
    refine y_gf rfl rfl rfl rfl rfl ?_
    refine y_st rfl rfl rfl rfl rfl (fun _ _ => rfl) ?_
    refine y_st rfl rfl rfl rfl rfl (fun _ _ => rfl) ?_
    refine y_st rfl rfl rfl rfl rfl (fun _ _ => rfl) ?_
    refine y_st rfl rfl rfl rfl rfl (fun _ _ => rfl) ?_
    refine y_st rfl rfl rfl rfl rfl (fun _ _ => rfl) ?_
    refine y_st rfl rfl rfl rfl rfl (fun _ _ => rfl) ?_
    refine y_st rfl rfl rfl rfl rfl (fun _ _ => rfl) ?_
    show yP (xg xs) (d + 1) 50 49 [(0, .ref 12), (1, .ref 1), (2, .int l2), (3, .int l3), (4, .int l4), (5, .int l5)] [.int (l2 + l5), .ref 1, .int (l4 + l5), .ref 13] m Q
    refine y_bald rfl rfl rfl (by decide) (H.1) ?_
    replace H := H.2
    show yP (xg xs) (d + 1) 50 50 [(0, .ref 12), (1, .ref 1), (2, .int l2), (3, .int l3), (4, .int l4), (5, .int l5)] [.int (m.1 1 ((l2 + l5).toNatClampNeg)), .int (l4 + l5), .ref 13] m Q
    refine y_call rfl rfl rfl rfl rfl (Nat.le_of_ble_eq_true rfl) (Nat.le_of_ble_eq_true rfl) rfl (by decide) H (fun v2 m2 H => ?_)
    obtain ⟨u2, rfl, H⟩ := H
    refine y_st rfl rfl rfl rfl rfl (fun _ _ => rfl) ?_
    show yP (xg xs) (d + 1) 50 54 [(0, .ref 12), (1, .ref 1), (2, .int l2), (3, .int l3), (4, .int l4), (5, .int l5)] [.int u2.toInt8.toInt32, .int (l4 + l5), .ref 13] m2 Q
    refine y_bast rfl rfl rfl (H.1) ?_
    replace H := H.2
    refine y_st rfl rfl rfl rfl rfl (fun _ _ => rfl) ?_
    refine y_st rfl rfl rfl rfl rfl (fun _ _ => rfl) ?_
    show yP (xg xs) (d + 1) 50 29 [(5, .int (l5 + (1 : Int32))), (0, .ref 12), (1, .ref 1), (2, .int l2), (3, .int l3), (4, .int l4)] [] (y_si m2 13 ((l4 + l5).toNatClampNeg) (vp_nar .byte u2.toInt8.toInt32)) Q
    refine y_headS (l2 := [(0, .ref 12), (1, .ref 1), (2, .int l2), (3, .int l3), (4, .int l4), (5, .int (l5 + (1 : Int32)))]) [1, 2, 3, 4, 5, 0] [0, 1, 2, 3, 4, 5] [5, 0, 1, 2, 3, 4] rfl rfl (by decide) rfl (by decide) ?_
    exact H
set_option maxRecDepth 20000 in
/-- CodeMaker.Tokens.placeName from 0 on -/
theorem w51_0 (xs : List Int32) (d : Nat) (l1 : Int32) (m : yM) (Q : Option Value → yM → Prop) (H : (yC (xg xs) d 36 [.ref 8, .int (l1 + (1 : Int32))] m (fun v1 m1 => ∃ u1, v1 = some (Value.int u1) ∧ (yC (xg xs) d 41 [.int u1] m1 (fun v2 m2 => ∃ u2, v2 = some (Value.int u2) ∧ (yC (xg xs) d 52 [.retAddr 21, .int (((u2 &&& (255 : Int32)).toUInt32 % 65536).toInt32)] m2 (fun v3 m3 => ∃ u3, v3 = some (Value.int u3) ∧ (yC (xg xs) d 36 [.ref 8, .int (l1 + (2 : Int32))] m3 (fun v4 m4 => ∃ u4, v4 = some (Value.int u4) ∧ (yC (xg xs) d 41 [.int u4] m4 (fun v5 m5 => ∃ u5, v5 = some (Value.int u5) ∧ ((u3 < 0 → yP (xg xs) (d + 1) 51 48 [(0, .ref 8), (1, .int l1)] [] m5 Q) ∧ (¬ u3 < 0 → ((u5 = (88 : Int32) → yP (xg xs) (d + 1) 51 55 [(0, .ref 8), (1, .int l1), (2, .int u3), (3, .int u5)] [] m5 Q) ∧ (¬ u5 = (88 : Int32) → ((u5 = (87 : Int32) → yP (xg xs) (d + 1) 51 55 [(0, .ref 8), (1, .int l1), (2, .int u3), (3, .int u5)] [] m5 Q) ∧ (¬ u5 = (87 : Int32) → yP (xg xs) (d + 1) 51 48 [(0, .ref 8), (1, .int l1)] [] m5 Q))))))))))))))))) : yP (xg xs) (d + 1) 51 0 [(0, .ref 8), (1, .int l1)] [] m Q := by
  refine y_st rfl rfl rfl rfl rfl (fun _ _ => rfl) ?_
  refine y_st rfl rfl rfl rfl rfl (fun _ _ => rfl) ?_
  refine y_st rfl rfl rfl rfl rfl (fun _ _ => rfl) ?_
  refine y_st rfl rfl rfl rfl rfl (fun _ _ => rfl) ?_
  refine y_st rfl rfl rfl rfl rfl (fun _ _ => rfl) ?_
  show yP (xg xs) (d + 1) 51 6 [(0, .ref 8), (1, .int l1)] [.int (l1 + (1 : Int32)), .ref 8, .retAddr 21] m Q
  refine y_call rfl rfl rfl rfl rfl (Nat.le_of_ble_eq_true rfl) (Nat.le_of_ble_eq_true rfl) rfl (by decide) H (fun v1 m1 H => ?_)
  obtain ⟨u1, rfl, H⟩ := H
  show yP (xg xs) (d + 1) 51 9 [(0, .ref 8), (1, .int l1)] [.int u1, .retAddr 21] m1 Q
  refine y_call rfl rfl rfl rfl rfl (Nat.le_of_ble_eq_true rfl) (Nat.le_of_ble_eq_true rfl) rfl (by decide) H (fun v2 m2 H => ?_)
  obtain ⟨u2, rfl, H⟩ := H
  refine y_st rfl rfl rfl rfl rfl (fun _ _ => rfl) ?_
  refine y_st rfl rfl rfl rfl rfl (fun _ _ => rfl) ?_
  refine y_st rfl rfl rfl rfl rfl (fun _ _ => rfl) ?_
  show yP (xg xs) (d + 1) 51 17 [(0, .ref 8), (1, .int l1)] [.int (((u2 &&& (255 : Int32)).toUInt32 % 65536).toInt32), .retAddr 21] m2 Q
  refine y_call rfl rfl rfl rfl rfl (Nat.le_of_ble_eq_true rfl) (Nat.le_of_ble_eq_true rfl) rfl (by decide) H (fun v3 m3 H => ?_)
  obtain ⟨u3, rfl, H⟩ := H
  refine y_st rfl rfl rfl rfl rfl (fun _ _ => rfl) ?_
  refine y_st rfl rfl rfl rfl rfl (fun _ _ => rfl) ?_
  refine y_st rfl rfl rfl rfl rfl (fun _ _ => rfl) ?_
  refine y_st rfl rfl rfl rfl rfl (fun _ _ => rfl) ?_
  refine y_st rfl rfl rfl rfl rfl (fun _ _ => rfl) ?_
  show yP (xg xs) (d + 1) 51 25 [(2, .int u3), (0, .ref 8), (1, .int l1)] [.int (l1 + (2 : Int32)), .ref 8] m3 Q
  refine y_call rfl rfl rfl rfl rfl (Nat.le_of_ble_eq_true rfl) (Nat.le_of_ble_eq_true rfl) rfl (by decide) H (fun v4 m4 H => ?_)
  obtain ⟨u4, rfl, H⟩ := H
  show yP (xg xs) (d + 1) 51 28 [(2, .int u3), (0, .ref 8), (1, .int l1)] [.int u4] m4 Q
  refine y_call rfl rfl rfl rfl rfl (Nat.le_of_ble_eq_true rfl) (Nat.le_of_ble_eq_true rfl) rfl (by decide) H (fun v5 m5 H => ?_)
  obtain ⟨u5, rfl, H⟩ := H
  refine y_st rfl rfl rfl rfl rfl (fun _ _ => rfl) ?_
  refine y_st rfl rfl rfl rfl rfl (fun _ _ => rfl) ?_
  show yP (xg xs) (d + 1) 51 33 [(3, .int u5), (2, .int u3), (0, .ref 8), (1, .int l1)] [.int u3] m5 Q
  refine y_zlt (t := 48) rfl rfl rfl (fun h => ?_) (fun h => ?_)
  · replace H := H.1 h; clear h
    show yP (xg xs) (d + 1) 51 48 [(3, .int u5), (2, .int u3), (0, .ref 8), (1, .int l1)] [] m5 Q
    refine y_headS (l2 := [(0, .ref 8), (1, .int l1)]) [2, 3] [0, 1] [3, 2, 0, 1] rfl rfl (by decide) rfl (by decide) ?_
    exact H
  · replace H := H.2 h; clear h
    refine y_st rfl rfl rfl rfl rfl (fun _ _ => rfl) ?_
    refine y_st rfl rfl rfl rfl rfl (fun _ _ => rfl) ?_
    show yP (xg xs) (d + 1) 51 39 [(3, .int u5), (2, .int u3), (0, .ref 8), (1, .int l1)] [.int (88 : Int32), .int u5] m5 Q
    refine y_ieq (t := 55) rfl rfl rfl (fun h => ?_) (fun h => ?_)
    · replace H := H.1 h; clear h
      show yP (xg xs) (d + 1) 51 55 [(3, .int u5), (2, .int u3), (0, .ref 8), (1, .int l1)] [] m5 Q
      refine y_headS (l2 := [(0, .ref 8), (1, .int l1), (2, .int u3), (3, .int u5)]) [2, 3, 1, 0] [0, 1, 2, 3] [3, 2, 0, 1] rfl rfl (by decide) rfl (by decide) ?_
      exact H
    · replace H := H.2 h; clear h
      refine y_st rfl rfl rfl rfl rfl (fun _ _ => rfl) ?_
      refine y_st rfl rfl rfl rfl rfl (fun _ _ => rfl) ?_
      show yP (xg xs) (d + 1) 51 45 [(3, .int u5), (2, .int u3), (0, .ref 8), (1, .int l1)] [.int (87 : Int32), .int u5] m5 Q
      refine y_ieq (t := 55) rfl rfl rfl (fun h => ?_) (fun h => ?_)
      · replace H := H.1 h; clear h
        show yP (xg xs) (d + 1) 51 55 [(3, .int u5), (2, .int u3), (0, .ref 8), (1, .int l1)] [] m5 Q
        refine y_headS (l2 := [(0, .ref 8), (1, .int l1), (2, .int u3), (3, .int u5)]) [2, 3, 1, 0] [0, 1, 2, 3] [3, 2, 0, 1] rfl rfl (by decide) rfl (by decide) ?_
        exact H
      · replace H := H.2 h; clear h
        show yP (xg xs) (d + 1) 51 48 [(3, .int u5), (2, .int u3), (0, .ref 8), (1, .int l1)] [] m5 Q
        refine y_headS (l2 := [(0, .ref 8), (1, .int l1)]) [2, 3] [0, 1] [3, 2, 0, 1] rfl rfl (by decide) rfl (by decide) ?_
        exact H
set_option maxRecDepth 20000 in
/-- CodeMaker.Tokens.placeName from 48 on -/
theorem w51_48 (xs : List Int32) (d : Nat) (l1 : Int32) (m : yM) (Q : Option Value → yM → Prop) (H : (yC (xg xs) d 38 [.ref 8, .int (5 : Int32), .int l1] m (fun v1 m1 => ∃ u1, v1 = some (Value.int u1) ∧ Q (some (.int u1)) m1))) : yP (xg xs) (d + 1) 51 48 [(0, .ref 8), (1, .int l1)] [] m Q := by
  refine y_st rfl rfl rfl rfl rfl (fun _ _ => rfl) ?_
  refine y_st rfl rfl rfl rfl rfl (fun _ _ => rfl) ?_
  refine y_st rfl rfl rfl rfl rfl (fun _ _ => rfl) ?_
  show yP (xg xs) (d + 1) 51 51 [(0, .ref 8), (1, .int l1)] [.int l1, .int (5 : Int32), .ref 8] m Q
  refine y_call rfl rfl rfl rfl rfl (Nat.le_of_ble_eq_true rfl) (Nat.le_of_ble_eq_true rfl) rfl (by decide) H (fun v1 m1 H => ?_)
  obtain ⟨u1, rfl, H⟩ := H
  show yP (xg xs) (d + 1) 51 54 [(0, .ref 8), (1, .int l1)] [.int u1] m1 Q
  exact y_iret rfl rfl rfl H
set_option maxRecDepth 20000 in
/-- CodeMaker.Tokens.placeName from 55 on -/
theorem w51_55 (xs : List Int32) (d : Nat) (l1 : Int32) (l2 : Int32) (l3 : Int32) (m : yM) (Q : Option Value → yM → Prop) (H : (yC (xg xs) d 43 [.ref 8, .int (l1 + (3 : Int32)), .int (10 : Int32)] m (fun v1 m1 => ∃ u1, v1 = some (Value.long u1) ∧ (((m1.1 8 7) = (l1 + (3 : Int32)) → yP (xg xs) (d + 1) 51 111 [(0, .ref 8), (1, .int l1)] [] m1 Q) ∧ (¬ (m1.1 8 7) = (l1 + (3 : Int32)) → ((¬ l3 = (88 : Int32) → yP (xg xs) (d + 1) 51 92 [(0, .ref 8), (1, .int l1), (2, .int l2), (3, .int l3), (4, .long u1)] [.int (63 : Int32), .long u1] m1 Q) ∧ (l3 = (88 : Int32) → yP (xg xs) (d + 1) 51 92 [(0, .ref 8), (1, .int l1), (2, .int l2), (3, .int l3), (4, .long u1)] [.int (255 : Int32), .long u1] m1 Q))))))) : yP (xg xs) (d + 1) 51 55 [(0, .ref 8), (1, .int l1), (2, .int l2), (3, .int l3)] [] m Q := by
  refine y_st rfl rfl rfl rfl rfl (fun _ _ => rfl) ?_
  refine y_st rfl rfl rfl rfl rfl (fun _ _ => rfl) ?_
  refine y_st rfl rfl rfl rfl rfl (fun _ _ => rfl) ?_
  refine y_st rfl rfl rfl rfl rfl (fun _ _ => rfl) ?_
  refine y_st rfl rfl rfl rfl rfl (fun _ _ => rfl) ?_
  show yP (xg xs) (d + 1) 51 61 [(0, .ref 8), (1, .int l1), (2, .int l2), (3, .int l3)] [.int (10 : Int32), .int (l1 + (3 : Int32)), .ref 8] m Q
  refine y_call rfl rfl rfl rfl rfl (Nat.le_of_ble_eq_true rfl) (Nat.le_of_ble_eq_true rfl) rfl (by decide) H (fun v1 m1 H => ?_)
  obtain ⟨u1, rfl, H⟩ := H
  refine y_st rfl rfl rfl rfl rfl (fun _ _ => rfl) ?_
  refine y_st rfl rfl rfl rfl rfl (fun _ _ => rfl) ?_
  refine y_gf rfl rfl rfl rfl rfl ?_
  refine y_st rfl rfl rfl rfl rfl (fun _ _ => rfl) ?_
  refine y_st rfl rfl rfl rfl rfl (fun _ _ => rfl) ?_
  refine y_st rfl rfl rfl rfl rfl (fun _ _ => rfl) ?_
  show yP (xg xs) (d + 1) 51 73 [(4, .long u1), (0, .ref 8), (1, .int l1), (2, .int l2), (3, .int l3)] [.int (l1 + (3 : Int32)), .int (m1.1 8 7)] m1 Q
  refine y_ieq (t := 111) rfl rfl rfl (fun h => ?_) (fun h => ?_)
  · replace H := H.1 h; clear h
    show yP (xg xs) (d + 1) 51 111 [(4, .long u1), (0, .ref 8), (1, .int l1), (2, .int l2), (3, .int l3)] [] m1 Q
    refine y_headS (l2 := [(0, .ref 8), (1, .int l1)]) [1, 2] [0, 1] [4, 0, 1, 2, 3] rfl rfl (by decide) rfl (by decide) ?_
    exact H
  · replace H := H.2 h; clear h
    refine y_st rfl rfl rfl rfl rfl (fun _ _ => rfl) ?_
    refine y_st rfl rfl rfl rfl rfl (fun _ _ => rfl) ?_
    refine y_st rfl rfl rfl rfl rfl (fun _ _ => rfl) ?_
    show yP (xg xs) (d + 1) 51 81 [(4, .long u1), (0, .ref 8), (1, .int l1), (2, .int l2), (3, .int l3)] [.int (88 : Int32), .int l3, .long u1] m1 Q
    refine y_ine (t := 90) rfl rfl rfl (fun h => ?_) (fun h => ?_)
    · replace H := H.1 h; clear h
      refine y_st rfl rfl rfl rfl rfl (fun _ _ => rfl) ?_
      show yP (xg xs) (d + 1) 51 92 [(4, .long u1), (0, .ref 8), (1, .int l1), (2, .int l2), (3, .int l3)] [.int (63 : Int32), .long u1] m1 Q
      refine y_headS (l2 := [(0, .ref 8), (1, .int l1), (2, .int l2), (3, .int l3), (4, .long u1)]) [1, 2, 3, 4, 0] [0, 1, 2, 3, 4] [4, 0, 1, 2, 3] rfl rfl (by decide) rfl (by decide) ?_
      exact H
    · replace H := H.2 h; clear h
      refine y_st rfl rfl rfl rfl rfl (fun _ _ => rfl) ?_
      refine y_st rfl rfl rfl rfl rfl (fun _ _ => rfl) ?_
      show yP (xg xs) (d + 1) 51 92 [(4, .long u1), (0, .ref 8), (1, .int l1), (2, .int l2), (3, .int l3)] [.int (255 : Int32), .long u1] m1 Q
      refine y_headS (l2 := [(0, .ref 8), (1, .int l1), (2, .int l2), (3, .int l3), (4, .long u1)]) [1, 2, 3, 4, 0] [0, 1, 2, 3, 4] [4, 0, 1, 2, 3] rfl rfl (by decide) rfl (by decide) ?_
      exact H
set_option maxRecDepth 20000 in
/-- CodeMaker.Tokens.placeName from 92 on -/
theorem w51_92 (xs : List Int32) (d : Nat) (l1 : Int32) (l2 : Int32) (l3 : Int32) (l4 : Int64) (s0 : Int64) (s1 : Int32) (m : yM) (Q : Option Value → yM → Prop) (H : ((0 < (lg_cmp s0 s1.toInt64) → yP (xg xs) (d + 1) 51 111 [(0, .ref 8), (1, .int l1)] [] m Q) ∧ (¬ 0 < (lg_cmp s0 s1.toInt64) → (yC (xg xs) d 36 [.ref 8, .int (m.1 8 7)] m (fun v1 m1 => ∃ u1, v1 = some (Value.int u1) ∧ (yC (xg xs) d 47 [.int u1] m1 (fun v2 m2 => ∃ u2, v2 = some (Value.int u2) ∧ ((u2 = 0 → ((¬ l3 = (88 : Int32) → yP (xg xs) (d + 1) 51 138 [(0, .ref 8), (4, .long l4)] [.int (l2 + (3 : Int32)), .int (256 : Int32), .int l1, .int (66 : Int32), .ref 8] m2 Q) ∧ (l3 = (88 : Int32) → yP (xg xs) (d + 1) 51 138 [(0, .ref 8), (4, .long l4)] [.int l2, .int (256 : Int32), .int l1, .int (66 : Int32), .ref 8] m2 Q))) ∧ (¬ u2 = 0 → yP (xg xs) (d + 1) 51 111 [(0, .ref 8), (1, .int l1)] [] m2 Q))))))))) : yP (xg xs) (d + 1) 51 92 [(0, .ref 8), (1, .int l1), (2, .int l2), (3, .int l3), (4, .long l4)] [.int s1, .long s0] m Q := by
  refine y_st rfl rfl rfl rfl rfl (fun _ _ => rfl) ?_
  refine y_st rfl rfl rfl rfl rfl (fun _ _ => rfl) ?_
  show yP (xg xs) (d + 1) 51 94 [(0, .ref 8), (1, .int l1), (2, .int l2), (3, .int l3), (4, .long l4)] [.int (lg_cmp s0 s1.toInt64)] m Q
  refine y_zgt (t := 111) rfl rfl rfl (fun h => ?_) (fun h => ?_)
  · replace H := H.1 h; clear h
    show yP (xg xs) (d + 1) 51 111 [(0, .ref 8), (1, .int l1), (2, .int l2), (3, .int l3), (4, .long l4)] [] m Q
    refine y_headS (l2 := [(0, .ref 8), (1, .int l1)]) [0, 1] [0, 1] [0, 1, 2, 3, 4] rfl rfl (by decide) rfl (by decide) ?_
    exact H
  · replace H := H.2 h; clear h
    refine y_st rfl rfl rfl rfl rfl (fun _ _ => rfl) ?_
    refine y_st rfl rfl rfl rfl rfl (fun _ _ => rfl) ?_
    refine y_gf rfl rfl rfl rfl rfl ?_
    show yP (xg xs) (d + 1) 51 102 [(0, .ref 8), (1, .int l1), (2, .int l2), (3, .int l3), (4, .long l4)] [.int (m.1 8 7), .ref 8] m Q
    refine y_call rfl rfl rfl rfl rfl (Nat.le_of_ble_eq_true rfl) (Nat.le_of_ble_eq_true rfl) rfl (by decide) H (fun v1 m1 H => ?_)
    obtain ⟨u1, rfl, H⟩ := H
    show yP (xg xs) (d + 1) 51 105 [(0, .ref 8), (1, .int l1), (2, .int l2), (3, .int l3), (4, .long l4)] [.int u1] m1 Q
    refine y_call rfl rfl rfl rfl rfl (Nat.le_of_ble_eq_true rfl) (Nat.le_of_ble_eq_true rfl) rfl (by decide) H (fun v2 m2 H => ?_)
    obtain ⟨u2, rfl, H⟩ := H
    show yP (xg xs) (d + 1) 51 108 [(0, .ref 8), (1, .int l1), (2, .int l2), (3, .int l3), (4, .long l4)] [.int u2] m2 Q
    refine y_zeq (t := 118) rfl rfl rfl (fun h => ?_) (fun h => ?_)
    · replace H := H.1 h; clear h
      refine y_st rfl rfl rfl rfl rfl (fun _ _ => rfl) ?_
      refine y_st rfl rfl rfl rfl rfl (fun _ _ => rfl) ?_
      refine y_st rfl rfl rfl rfl rfl (fun _ _ => rfl) ?_
      refine y_st rfl rfl rfl rfl rfl (fun _ _ => rfl) ?_
      refine y_st rfl rfl rfl rfl rfl (fun _ _ => rfl) ?_
      refine y_st rfl rfl rfl rfl rfl (fun _ _ => rfl) ?_
      show yP (xg xs) (d + 1) 51 128 [(0, .ref 8), (1, .int l1), (2, .int l2), (3, .int l3), (4, .long l4)] [.int (88 : Int32), .int l3, .int (256 : Int32), .int l1, .int (66 : Int32), .ref 8] m2 Q
      refine y_ine (t := 135) rfl rfl rfl (fun h => ?_) (fun h => ?_)
      · replace H := H.1 h; clear h
        refine y_st rfl rfl rfl rfl rfl (fun _ _ => rfl) ?_
        refine y_st rfl rfl rfl rfl rfl (fun _ _ => rfl) ?_
        refine y_st rfl rfl rfl rfl rfl (fun _ _ => rfl) ?_
        show yP (xg xs) (d + 1) 51 138 [(0, .ref 8), (1, .int l1), (2, .int l2), (3, .int l3), (4, .long l4)] [.int (l2 + (3 : Int32)), .int (256 : Int32), .int l1, .int (66 : Int32), .ref 8] m2 Q
        refine y_headS (l2 := [(0, .ref 8), (4, .long l4)]) [0, 4] [0, 4] [0, 1, 2, 3, 4] rfl rfl (by decide) rfl (by decide) ?_
        exact H
      · replace H := H.2 h; clear h
        refine y_st rfl rfl rfl rfl rfl (fun _ _ => rfl) ?_
        refine y_st rfl rfl rfl rfl rfl (fun _ _ => rfl) ?_
        show yP (xg xs) (d + 1) 51 138 [(0, .ref 8), (1, .int l1), (2, .int l2), (3, .int l3), (4, .long l4)] [.int l2, .int (256 : Int32), .int l1, .int (66 : Int32), .ref 8] m2 Q
        refine y_headS (l2 := [(0, .ref 8), (4, .long l4)]) [0, 4] [0, 4] [0, 1, 2, 3, 4] rfl rfl (by decide) rfl (by decide) ?_
        exact H
    · replace H := H.2 h; clear h
      show yP (xg xs) (d + 1) 51 111 [(0, .ref 8), (1, .int l1), (2, .int l2), (3, .int l3), (4, .long l4)] [] m2 Q
      refine y_headS (l2 := [(0, .ref 8), (1, .int l1)]) [0, 1] [0, 1] [0, 1, 2, 3, 4] rfl rfl (by decide) rfl (by decide) ?_
      exact H
set_option maxRecDepth 20000 in
/-- CodeMaker.Tokens.placeName from 111 on -/
theorem w51_111 (xs : List Int32) (d : Nat) (l1 : Int32) (m : yM) (Q : Option Value → yM → Prop) (H : (yC (xg xs) d 38 [.ref 8, .int (5 : Int32), .int l1] m (fun v1 m1 => ∃ u1, v1 = some (Value.int u1) ∧ Q (some (.int u1)) m1))) : yP (xg xs) (d + 1) 51 111 [(0, .ref 8), (1, .int l1)] [] m Q := by
  refine y_st rfl rfl rfl rfl rfl (fun _ _ => rfl) ?_
  refine y_st rfl rfl rfl rfl rfl (fun _ _ => rfl) ?_
  refine y_st rfl rfl rfl rfl rfl (fun _ _ => rfl) ?_
  show yP (xg xs) (d + 1) 51 114 [(0, .ref 8), (1, .int l1)] [.int l1, .int (5 : Int32), .ref 8] m Q
  refine y_call rfl rfl rfl rfl rfl (Nat.le_of_ble_eq_true rfl) (Nat.le_of_ble_eq_true rfl) rfl (by decide) H (fun v1 m1 H => ?_)
  obtain ⟨u1, rfl, H⟩ := H
  show yP (xg xs) (d + 1) 51 117 [(0, .ref 8), (1, .int l1)] [.int u1] m1 Q
  exact y_iret rfl rfl rfl H
set_option maxRecDepth 20000 in
/-- CodeMaker.Tokens.placeName from 138 on -/
theorem w51_138 (xs : List Int32) (d : Nat) (l4 : Int64) (s1 : Int32) (s2 : Int32) (s3 : Int32) (s4 : Int32) (m : yM) (Q : Option Value → yM → Prop) (H : (yC (xg xs) d 39 [.ref 8, .int s1, .int s2, .int ((s3 * s4) + l4.toInt32)] m (fun v1 m1 => v1 = none ∧ Q (some (.int (m1.1 8 7))) m1))) : yP (xg xs) (d + 1) 51 138 [(0, .ref 8), (4, .long l4)] [.int s4, .int s3, .int s2, .int s1, .ref 8] m Q := by
  refine y_st rfl rfl rfl rfl rfl (fun _ _ => rfl) ?_
  refine y_st rfl rfl rfl rfl rfl (fun _ _ => rfl) ?_
  refine y_st rfl rfl rfl rfl rfl (fun _ _ => rfl) ?_
  refine y_st rfl rfl rfl rfl rfl (fun _ _ => rfl) ?_
  show yP (xg xs) (d + 1) 51 143 [(0, .ref 8), (4, .long l4)] [.int ((s3 * s4) + l4.toInt32), .int s2, .int s1, .ref 8] m Q
  refine y_call rfl rfl rfl rfl rfl (Nat.le_of_ble_eq_true rfl) (Nat.le_of_ble_eq_true rfl) rfl (by decide) H (fun v1 m1 H => ?_)
  obtain ⟨rfl, H⟩ := H
  refine y_st rfl rfl rfl rfl rfl (fun _ _ => rfl) ?_
  refine y_gf rfl rfl rfl rfl rfl ?_
  show yP (xg xs) (d + 1) 51 150 [(0, .ref 8), (4, .long l4)] [.int (m1.1 8 7)] m1 Q
  exact y_iret rfl rfl rfl H
set_option maxRecDepth 20000 in
/-- CodeMaker.Tokens.sign from 0 on -/
theorem w69_0 (xs : List Int32) (d : Nat) (l1 : Int32) (l2 : Int32) (m : yM) (Q : Option Value → yM → Prop) (H : (yC (xg xs) d 36 [.ref 8, .int (l1 + (1 : Int32))] m (fun v1 m1 => ∃ u1, v1 = some (Value.int u1) ∧ (yC (xg xs) d 70 [.int l2, .int u1] m1 (fun v2 m2 => ∃ u2, v2 = some (Value.int u2) ∧ ((u2 = ((-1) : Int32) → (yC (xg xs) d 52 [.retAddr 22, .int ((l2.toUInt32 % 65536).toInt32)] m2 (fun v3 m3 => ∃ u3, v3 = some (Value.int u3) ∧ ((0 ≤ u3 → (yC (xg xs) d 39 [.ref 8, .int ((128 : Int32) + l2), .int l1, .int (0 : Int32)] m3 (fun v4 m4 => v4 = none ∧ Q (some (.int (l1 + (1 : Int32)))) m4))) ∧ (¬ 0 ≤ u3 → (yC (xg xs) d 38 [.ref 8, .int (1 : Int32), .int l1] m3 (fun v5 m5 => ∃ u5, v5 = some (Value.int u5) ∧ Q (some (.int u5)) m5))))))) ∧ (¬ u2 = ((-1) : Int32) → (yC (xg xs) d 39 [.ref 8, .int u2, .int l1, .int (0 : Int32)] m2 (fun v6 m6 => v6 = none ∧ Q (some (.int (l1 + (2 : Int32)))) m6))))))))) : yP (xg xs) (d + 1) 69 0 [(0, .ref 8), (1, .int l1), (2, .int l2)] [] m Q := by
  refine y_st rfl rfl rfl rfl rfl (fun _ _ => rfl) ?_
  refine y_st rfl rfl rfl rfl rfl (fun _ _ => rfl) ?_
  refine y_st rfl rfl rfl rfl rfl (fun _ _ => rfl) ?_
  refine y_st rfl rfl rfl rfl rfl (fun _ _ => rfl) ?_
  refine y_st rfl rfl rfl rfl rfl (fun _ _ => rfl) ?_
  show yP (xg xs) (d + 1) 69 5 [(0, .ref 8), (1, .int l1), (2, .int l2)] [.int (l1 + (1 : Int32)), .ref 8, .int l2] m Q
  refine y_call rfl rfl rfl rfl rfl (Nat.le_of_ble_eq_true rfl) (Nat.le_of_ble_eq_true rfl) rfl (by decide) H (fun v1 m1 H => ?_)
  obtain ⟨u1, rfl, H⟩ := H
  show yP (xg xs) (d + 1) 69 8 [(0, .ref 8), (1, .int l1), (2, .int l2)] [.int u1, .int l2] m1 Q
  refine y_call rfl rfl rfl rfl rfl (Nat.le_of_ble_eq_true rfl) (Nat.le_of_ble_eq_true rfl) rfl (by decide) H (fun v2 m2 H => ?_)
  obtain ⟨u2, rfl, H⟩ := H
  refine y_st rfl rfl rfl rfl rfl (fun _ _ => rfl) ?_
  refine y_st rfl rfl rfl rfl rfl (fun _ _ => rfl) ?_
  refine y_st rfl rfl rfl rfl rfl (fun _ _ => rfl) ?_
  show yP (xg xs) (d + 1) 69 14 [(3, .int u2), (0, .ref 8), (1, .int l1), (2, .int l2)] [.int ((-1) : Int32), .int u2] m2 Q
  refine y_ieq (t := 28) rfl rfl rfl (fun h => ?_) (fun h => ?_)
  · replace H := H.1 h; clear h
    refine y_st rfl rfl rfl rfl rfl (fun _ _ => rfl) ?_
    refine y_st rfl rfl rfl rfl rfl (fun _ _ => rfl) ?_
    refine y_st rfl rfl rfl rfl rfl (fun _ _ => rfl) ?_
    show yP (xg xs) (d + 1) 69 32 [(3, .int u2), (0, .ref 8), (1, .int l1), (2, .int l2)] [.int ((l2.toUInt32 % 65536).toInt32), .retAddr 22] m2 Q
    refine y_call rfl rfl rfl rfl rfl (Nat.le_of_ble_eq_true rfl) (Nat.le_of_ble_eq_true rfl) rfl (by decide) H (fun v3 m3 H => ?_)
    obtain ⟨u3, rfl, H⟩ := H
    show yP (xg xs) (d + 1) 69 35 [(3, .int u2), (0, .ref 8), (1, .int l1), (2, .int l2)] [.int u3] m3 Q
    refine y_zge (t := 45) rfl rfl rfl (fun h => ?_) (fun h => ?_)
    · replace H := H.1 h; clear h
      refine y_st rfl rfl rfl rfl rfl (fun _ _ => rfl) ?_
      refine y_st rfl rfl rfl rfl rfl (fun _ _ => rfl) ?_
      refine y_st rfl rfl rfl rfl rfl (fun _ _ => rfl) ?_
      refine y_st rfl rfl rfl rfl rfl (fun _ _ => rfl) ?_
      refine y_st rfl rfl rfl rfl rfl (fun _ _ => rfl) ?_
      refine y_st rfl rfl rfl rfl rfl (fun _ _ => rfl) ?_
      show yP (xg xs) (d + 1) 69 53 [(3, .int u2), (0, .ref 8), (1, .int l1), (2, .int l2)] [.int (0 : Int32), .int l1, .int ((128 : Int32) + l2), .ref 8] m3 Q
      refine y_call rfl rfl rfl rfl rfl (Nat.le_of_ble_eq_true rfl) (Nat.le_of_ble_eq_true rfl) rfl (by decide) H (fun v4 m4 H => ?_)
      obtain ⟨rfl, H⟩ := H
      refine y_st rfl rfl rfl rfl rfl (fun _ _ => rfl) ?_
      refine y_st rfl rfl rfl rfl rfl (fun _ _ => rfl) ?_
      refine y_st rfl rfl rfl rfl rfl (fun _ _ => rfl) ?_
      show yP (xg xs) (d + 1) 69 59 [(3, .int u2), (0, .ref 8), (1, .int l1), (2, .int l2)] [.int (l1 + (1 : Int32))] m4 Q
      exact y_iret rfl rfl rfl H
    · replace H := H.2 h; clear h
      refine y_st rfl rfl rfl rfl rfl (fun _ _ => rfl) ?_
      refine y_st rfl rfl rfl rfl rfl (fun _ _ => rfl) ?_
      refine y_st rfl rfl rfl rfl rfl (fun _ _ => rfl) ?_
      show yP (xg xs) (d + 1) 69 41 [(3, .int u2), (0, .ref 8), (1, .int l1), (2, .int l2)] [.int l1, .int (1 : Int32), .ref 8] m3 Q
      refine y_call rfl rfl rfl rfl rfl (Nat.le_of_ble_eq_true rfl) (Nat.le_of_ble_eq_true rfl) rfl (by decide) H (fun v5 m5 H => ?_)
      obtain ⟨u5, rfl, H⟩ := H
      show yP (xg xs) (d + 1) 69 44 [(3, .int u2), (0, .ref 8), (1, .int l1), (2, .int l2)] [.int u5] m5 Q
      exact y_iret rfl rfl rfl H
  · replace H := H.2 h; clear h
    refine y_st rfl rfl rfl rfl rfl (fun _ _ => rfl) ?_
    refine y_st rfl rfl rfl rfl rfl (fun _ _ => rfl) ?_
    refine y_st rfl rfl rfl rfl rfl (fun _ _ => rfl) ?_
    refine y_st rfl rfl rfl rfl rfl (fun _ _ => rfl) ?_
    show yP (xg xs) (d + 1) 69 21 [(3, .int u2), (0, .ref 8), (1, .int l1), (2, .int l2)] [.int (0 : Int32), .int l1, .int u2, .ref 8] m2 Q
    refine y_call rfl rfl rfl rfl rfl (Nat.le_of_ble_eq_true rfl) (Nat.le_of_ble_eq_true rfl) rfl (by decide) H (fun v6 m6 H => ?_)
    obtain ⟨rfl, H⟩ := H
    refine y_st rfl rfl rfl rfl rfl (fun _ _ => rfl) ?_
    refine y_st rfl rfl rfl rfl rfl (fun _ _ => rfl) ?_
    refine y_st rfl rfl rfl rfl rfl (fun _ _ => rfl) ?_
    show yP (xg xs) (d + 1) 69 27 [(3, .int u2), (0, .ref 8), (1, .int l1), (2, .int l2)] [.int (l1 + (2 : Int32))] m6 Q
    exact y_iret rfl rfl rfl H
set_option maxRecDepth 20000 in
/-- CodeMaker.Tokens.twoByteSign from 0 on -/
theorem w70_0 (xs : List Int32) (d : Nat) (l0 : Int32) (l1 : Int32) (m : yM) (Q : Option Value → yM → Prop) (H : ((¬ l1 = (61 : Int32) → ((¬ l0 = (46 : Int32) → yP (xg xs) (d + 1) 70 56 [(0, .int l0), (1, .int l1)] [] m Q) ∧ (l0 = (46 : Int32) → ((¬ l1 = (46 : Int32) → yP (xg xs) (d + 1) 70 56 [(0, .int l0), (1, .int l1)] [] m Q) ∧ (l1 = (46 : Int32) → Q (some (.int (71 : Int32))) m))))) ∧ (l1 = (61 : Int32) → ((¬ l0 = (58 : Int32) → ((¬ l0 = (60 : Int32) → ((¬ l0 = (62 : Int32) → Q (some (.int ((-1) : Int32))) m) ∧ (l0 = (62 : Int32) → Q (some (.int (73 : Int32))) m))) ∧ (l0 = (60 : Int32) → Q (some (.int (72 : Int32))) m))) ∧ (l0 = (58 : Int32) → Q (some (.int (70 : Int32))) m))))) : yP (xg xs) (d + 1) 70 0 [(0, .int l0), (1, .int l1)] [] m Q := by
  refine y_st rfl rfl rfl rfl rfl (fun _ _ => rfl) ?_
  refine y_st rfl rfl rfl rfl rfl (fun _ _ => rfl) ?_
  show yP (xg xs) (d + 1) 70 3 [(0, .int l0), (1, .int l1)] [.int (61 : Int32), .int l1] m Q
  refine y_ine (t := 41) rfl rfl rfl (fun h => ?_) (fun h => ?_)
  · replace H := H.1 h; clear h
    refine y_st rfl rfl rfl rfl rfl (fun _ _ => rfl) ?_
    refine y_st rfl rfl rfl rfl rfl (fun _ _ => rfl) ?_
    show yP (xg xs) (d + 1) 70 44 [(0, .int l0), (1, .int l1)] [.int (46 : Int32), .int l0] m Q
    refine y_ine (t := 56) rfl rfl rfl (fun h => ?_) (fun h => ?_)
    · replace H := H.1 h; clear h
      show yP (xg xs) (d + 1) 70 56 [(0, .int l0), (1, .int l1)] [] m Q
      exact H
    · replace H := H.2 h; clear h
      refine y_st rfl rfl rfl rfl rfl (fun _ _ => rfl) ?_
      refine y_st rfl rfl rfl rfl rfl (fun _ _ => rfl) ?_
      show yP (xg xs) (d + 1) 70 50 [(0, .int l0), (1, .int l1)] [.int (46 : Int32), .int l1] m Q
      refine y_ine (t := 56) rfl rfl rfl (fun h => ?_) (fun h => ?_)
      · replace H := H.1 h; clear h
        show yP (xg xs) (d + 1) 70 56 [(0, .int l0), (1, .int l1)] [] m Q
        exact H
      · replace H := H.2 h; clear h
        refine y_st rfl rfl rfl rfl rfl (fun _ _ => rfl) ?_
        show yP (xg xs) (d + 1) 70 55 [(0, .int l0), (1, .int l1)] [.int (71 : Int32)] m Q
        exact y_iret rfl rfl rfl H
  · replace H := H.2 h; clear h
    refine y_st rfl rfl rfl rfl rfl (fun _ _ => rfl) ?_
    refine y_st rfl rfl rfl rfl rfl (fun _ _ => rfl) ?_
    show yP (xg xs) (d + 1) 70 9 [(0, .int l0), (1, .int l1)] [.int (58 : Int32), .int l0] m Q
    refine y_ine (t := 17) rfl rfl rfl (fun h => ?_) (fun h => ?_)
    · replace H := H.1 h; clear h
      refine y_st rfl rfl rfl rfl rfl (fun _ _ => rfl) ?_
      refine y_st rfl rfl rfl rfl rfl (fun _ _ => rfl) ?_
      show yP (xg xs) (d + 1) 70 20 [(0, .int l0), (1, .int l1)] [.int (60 : Int32), .int l0] m Q
      refine y_ine (t := 28) rfl rfl rfl (fun h => ?_) (fun h => ?_)
      · replace H := H.1 h; clear h
        refine y_st rfl rfl rfl rfl rfl (fun _ _ => rfl) ?_
        refine y_st rfl rfl rfl rfl rfl (fun _ _ => rfl) ?_
        show yP (xg xs) (d + 1) 70 31 [(0, .int l0), (1, .int l1)] [.int (62 : Int32), .int l0] m Q
        refine y_ine (t := 39) rfl rfl rfl (fun h => ?_) (fun h => ?_)
        · replace H := H.1 h; clear h
          refine y_st rfl rfl rfl rfl rfl (fun _ _ => rfl) ?_
          show yP (xg xs) (d + 1) 70 40 [(0, .int l0), (1, .int l1)] [.int ((-1) : Int32)] m Q
          exact y_iret rfl rfl rfl H
        · replace H := H.2 h; clear h
          refine y_st rfl rfl rfl rfl rfl (fun _ _ => rfl) ?_
          refine y_st rfl rfl rfl rfl rfl (fun _ _ => rfl) ?_
          show yP (xg xs) (d + 1) 70 40 [(0, .int l0), (1, .int l1)] [.int (73 : Int32)] m Q
          exact y_iret rfl rfl rfl H
      · replace H := H.2 h; clear h
        refine y_st rfl rfl rfl rfl rfl (fun _ _ => rfl) ?_
        refine y_st rfl rfl rfl rfl rfl (fun _ _ => rfl) ?_
        show yP (xg xs) (d + 1) 70 40 [(0, .int l0), (1, .int l1)] [.int (72 : Int32)] m Q
        exact y_iret rfl rfl rfl H
    · replace H := H.2 h; clear h
      refine y_st rfl rfl rfl rfl rfl (fun _ _ => rfl) ?_
      refine y_st rfl rfl rfl rfl rfl (fun _ _ => rfl) ?_
      show yP (xg xs) (d + 1) 70 40 [(0, .int l0), (1, .int l1)] [.int (70 : Int32)] m Q
      exact y_iret rfl rfl rfl H
set_option maxRecDepth 20000 in
/-- CodeMaker.Tokens.twoByteSign from 56 on -/
theorem w70_56 (xs : List Int32) (d : Nat) (l0 : Int32) (l1 : Int32) (m : yM) (Q : Option Value → yM → Prop) (H : ((¬ l0 = (60 : Int32) → Q (some (.int ((-1) : Int32))) m) ∧ (l0 = (60 : Int32) → ((¬ l1 = (62 : Int32) → Q (some (.int ((-1) : Int32))) m) ∧ (l1 = (62 : Int32) → Q (some (.int (74 : Int32))) m))))) : yP (xg xs) (d + 1) 70 56 [(0, .int l0), (1, .int l1)] [] m Q := by
  refine y_st rfl rfl rfl rfl rfl (fun _ _ => rfl) ?_
  refine y_st rfl rfl rfl rfl rfl (fun _ _ => rfl) ?_
  show yP (xg xs) (d + 1) 70 59 [(0, .int l0), (1, .int l1)] [.int (60 : Int32), .int l0] m Q
  refine y_ine (t := 73) rfl rfl rfl (fun h => ?_) (fun h => ?_)
  · replace H := H.1 h; clear h
    refine y_st rfl rfl rfl rfl rfl (fun _ _ => rfl) ?_
    show yP (xg xs) (d + 1) 70 74 [(0, .int l0), (1, .int l1)] [.int ((-1) : Int32)] m Q
    exact y_iret rfl rfl rfl H
  · replace H := H.2 h; clear h
    refine y_st rfl rfl rfl rfl rfl (fun _ _ => rfl) ?_
    refine y_st rfl rfl rfl rfl rfl (fun _ _ => rfl) ?_
    show yP (xg xs) (d + 1) 70 65 [(0, .int l0), (1, .int l1)] [.int (62 : Int32), .int l1] m Q
    refine y_ine (t := 73) rfl rfl rfl (fun h => ?_) (fun h => ?_)
    · replace H := H.1 h; clear h
      refine y_st rfl rfl rfl rfl rfl (fun _ _ => rfl) ?_
      show yP (xg xs) (d + 1) 70 74 [(0, .int l0), (1, .int l1)] [.int ((-1) : Int32)] m Q
      exact y_iret rfl rfl rfl H
    · replace H := H.2 h; clear h
      refine y_st rfl rfl rfl rfl rfl (fun _ _ => rfl) ?_
      refine y_st rfl rfl rfl rfl rfl (fun _ _ => rfl) ?_
      show yP (xg xs) (d + 1) 70 74 [(0, .int l0), (1, .int l1)] [.int (74 : Int32)] m Q
      exact y_iret rfl rfl rfl H
