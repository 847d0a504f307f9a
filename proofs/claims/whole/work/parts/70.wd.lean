/-! WHAT EACH METHOD COMES TO, group d: laid by wip/gen/wpall.py -/
set_option maxRecDepth 20000 in
/-- CodeMaker.Expressions.fits from 0 on -/
theorem w150_0 (xs : List Int32) (d : Nat) (l0 : Int32) (l1 : Int32) (m : yM) (Q : Option Value → yM → Prop) (H : ((l0 = l1 → Q (some (.int (1 : Int32))) m) ∧ (¬ l0 = l1 → ((¬ l0 = (1 : Int32) → Q (some (.int (0 : Int32))) m) ∧ (l0 = (1 : Int32) → ((¬ l1 = (2 : Int32) → Q (some (.int (0 : Int32))) m) ∧ (l1 = (2 : Int32) → Q (some (.int (1 : Int32))) m))))))) : yP (xg xs) (d + 1) 150 0 [(0, .int l0), (1, .int l1)] [] m Q := by
  refine y_st rfl rfl rfl rfl rfl (fun _ _ => rfl) ?_
  refine y_st rfl rfl rfl rfl rfl (fun _ _ => rfl) ?_
  show yP (xg xs) (d + 1) 150 2 [(0, .int l0), (1, .int l1)] [.int l1, .int l0] m Q
  refine y_ieq (t := 15) rfl rfl rfl (fun h => ?_) (fun h => ?_)
  · replace H := H.1 h; clear h
    refine y_st rfl rfl rfl rfl rfl (fun _ _ => rfl) ?_
    refine y_st rfl rfl rfl rfl rfl (fun _ _ => rfl) ?_
    show yP (xg xs) (d + 1) 150 20 [(0, .int l0), (1, .int l1)] [.int (1 : Int32)] m Q
    exact y_zret rfl rfl rfl (by decide) H
  · replace H := H.2 h; clear h
    refine y_st rfl rfl rfl rfl rfl (fun _ _ => rfl) ?_
    refine y_st rfl rfl rfl rfl rfl (fun _ _ => rfl) ?_
    show yP (xg xs) (d + 1) 150 7 [(0, .int l0), (1, .int l1)] [.int (1 : Int32), .int l0] m Q
    refine y_ine (t := 19) rfl rfl rfl (fun h => ?_) (fun h => ?_)
    · replace H := H.1 h; clear h
      refine y_st rfl rfl rfl rfl rfl (fun _ _ => rfl) ?_
      show yP (xg xs) (d + 1) 150 20 [(0, .int l0), (1, .int l1)] [.int (0 : Int32)] m Q
      exact y_zret rfl rfl rfl (by decide) H
    · replace H := H.2 h; clear h
      refine y_st rfl rfl rfl rfl rfl (fun _ _ => rfl) ?_
      refine y_st rfl rfl rfl rfl rfl (fun _ _ => rfl) ?_
      show yP (xg xs) (d + 1) 150 12 [(0, .int l0), (1, .int l1)] [.int (2 : Int32), .int l1] m Q
      refine y_ine (t := 19) rfl rfl rfl (fun h => ?_) (fun h => ?_)
      · replace H := H.1 h; clear h
        refine y_st rfl rfl rfl rfl rfl (fun _ _ => rfl) ?_
        show yP (xg xs) (d + 1) 150 20 [(0, .int l0), (1, .int l1)] [.int (0 : Int32)] m Q
        exact y_zret rfl rfl rfl (by decide) H
      · replace H := H.2 h; clear h
        refine y_st rfl rfl rfl rfl rfl (fun _ _ => rfl) ?_
        refine y_st rfl rfl rfl rfl rfl (fun _ _ => rfl) ?_
        show yP (xg xs) (d + 1) 150 20 [(0, .int l0), (1, .int l1)] [.int (1 : Int32)] m Q
        exact y_zret rfl rfl rfl (by decide) H
set_option maxRecDepth 20000 in
/-- CodeMaker.Rules.lookAtInvocation from 0 on -/
theorem w151_0 (xs : List Int32) (d : Nat) (l1 : Int32) (m : yM) (Q : Option Value → yM → Prop) (H : (x_in l1 16401 = true ∧ (yC (xg xs) d 134 [.ref 18, .int (m.1 5 l1.toNatClampNeg)] m (fun v1 m1 => ∃ u1, v1 = some (Value.int u1) ∧ ((¬ u1 = ((-1) : Int32) → (x_in l1 16401 = true ∧ (yC (xg xs) d 135 [.ref 18, .int u1] (y_si m1 5 l1.toNatClampNeg u1) (fun v2 m2 => ∃ u2, v2 = some (Value.int u2) ∧ ((¬ u2 = (10 : Int32) → Q (some (.int (21 : Int32))) m2) ∧ (u2 = (10 : Int32) → Q (some (.int (0 : Int32))) m2)))))) ∧ (u1 = ((-1) : Int32) → Q (some (.int (20 : Int32))) m1)))))) : yP (xg xs) (d + 1) 151 0 [(0, .ref 31), (1, .int l1)] [] m Q := by
  refine y_st rfl rfl rfl rfl rfl (fun _ _ => rfl) ?_
  refine y_gf rfl rfl rfl rfl rfl ?_
  refine y_st rfl rfl rfl rfl rfl (fun _ _ => rfl) ?_
  refine y_gf rfl rfl rfl rfl rfl ?_
  refine y_gf rfl rfl rfl rfl rfl ?_
  refine y_st rfl rfl rfl rfl rfl (fun _ _ => rfl) ?_
  show yP (xg xs) (d + 1) 151 12 [(0, .ref 31), (1, .int l1)] [.int l1, .ref 5, .ref 18] m Q
  refine y_iald rfl rfl rfl (H.1) ?_
  replace H := H.2
  show yP (xg xs) (d + 1) 151 13 [(0, .ref 31), (1, .int l1)] [.int (m.1 5 l1.toNatClampNeg), .ref 18] m Q
  refine y_call rfl rfl rfl rfl rfl (Nat.le_of_ble_eq_true rfl) (Nat.le_of_ble_eq_true rfl) rfl (by decide) H (fun v1 m1 H => ?_)
  obtain ⟨u1, rfl, H⟩ := H
  refine y_st rfl rfl rfl rfl rfl (fun _ _ => rfl) ?_
  refine y_st rfl rfl rfl rfl rfl (fun _ _ => rfl) ?_
  refine y_st rfl rfl rfl rfl rfl (fun _ _ => rfl) ?_
  show yP (xg xs) (d + 1) 151 19 [(2, .int u1), (0, .ref 31), (1, .int l1)] [.int ((-1) : Int32), .int u1] m1 Q
  refine y_ine (t := 25) rfl rfl rfl (fun h => ?_) (fun h => ?_)
  · replace H := H.1 h; clear h
    refine y_st rfl rfl rfl rfl rfl (fun _ _ => rfl) ?_
    refine y_gf rfl rfl rfl rfl rfl ?_
    refine y_gf rfl rfl rfl rfl rfl ?_
    refine y_st rfl rfl rfl rfl rfl (fun _ _ => rfl) ?_
    refine y_st rfl rfl rfl rfl rfl (fun _ _ => rfl) ?_
    show yP (xg xs) (d + 1) 151 34 [(2, .int u1), (0, .ref 31), (1, .int l1)] [.int u1, .int l1, .ref 5] m1 Q
    refine y_iast rfl rfl rfl (H.1) ?_
    replace H := H.2
    refine y_st rfl rfl rfl rfl rfl (fun _ _ => rfl) ?_
    refine y_gf rfl rfl rfl rfl rfl ?_
    refine y_st rfl rfl rfl rfl rfl (fun _ _ => rfl) ?_
    show yP (xg xs) (d + 1) 151 40 [(2, .int u1), (0, .ref 31), (1, .int l1)] [.int u1, .ref 18] (y_si m1 5 l1.toNatClampNeg u1) Q
    refine y_call rfl rfl rfl rfl rfl (Nat.le_of_ble_eq_true rfl) (Nat.le_of_ble_eq_true rfl) rfl (by decide) H (fun v2 m2 H => ?_)
    obtain ⟨u2, rfl, H⟩ := H
    refine y_st rfl rfl rfl rfl rfl (fun _ _ => rfl) ?_
    show yP (xg xs) (d + 1) 151 45 [(2, .int u1), (0, .ref 31), (1, .int l1)] [.int (10 : Int32), .int u2] m2 Q
    refine y_ine (t := 52) rfl rfl rfl (fun h => ?_) (fun h => ?_)
    · replace H := H.1 h; clear h
      refine y_st rfl rfl rfl rfl rfl (fun _ _ => rfl) ?_
      show yP (xg xs) (d + 1) 151 54 [(2, .int u1), (0, .ref 31), (1, .int l1)] [.int (21 : Int32)] m2 Q
      exact y_iret rfl rfl rfl H
    · replace H := H.2 h; clear h
      refine y_st rfl rfl rfl rfl rfl (fun _ _ => rfl) ?_
      refine y_st rfl rfl rfl rfl rfl (fun _ _ => rfl) ?_
      show yP (xg xs) (d + 1) 151 54 [(2, .int u1), (0, .ref 31), (1, .int l1)] [.int (0 : Int32)] m2 Q
      exact y_iret rfl rfl rfl H
  · replace H := H.2 h; clear h
    refine y_st rfl rfl rfl rfl rfl (fun _ _ => rfl) ?_
    show yP (xg xs) (d + 1) 151 24 [(2, .int u1), (0, .ref 31), (1, .int l1)] [.int (20 : Int32)] m1 Q
    exact y_iret rfl rfl rfl H
set_option maxRecDepth 20000 in
/-- CodeMaker.Rules.lookAtParameter from 0 on -/
theorem w152_0 (xs : List Int32) (d : Nat) (l1 : Int32) (m : yM) (Q : Option Value → yM → Prop) (H : (yC (xg xs) d 124 [.ref 31] m (fun v1 m1 => ∃ u1, v1 = some (Value.int u1) ∧ (x_in u1 16401 = true ∧ (yC (xg xs) d 134 [.ref 18, .int (m1.1 5 u1.toNatClampNeg)] m1 (fun v2 m2 => ∃ u2, v2 = some (Value.int u2) ∧ ((u2 = ((-1) : Int32) → Q (some (.int (0 : Int32))) m2) ∧ (¬ u2 = ((-1) : Int32) → (yC (xg xs) d 135 [.ref 18, .int u2] m2 (fun v3 m3 => ∃ u3, v3 = some (Value.int u3) ∧ ((u3 = (10 : Int32) → (yC (xg xs) d 153 [.ref 18, .int u2] m3 (fun v4 m4 => ∃ u4, v4 = some (Value.int u4) ∧ (x_in l1 16401 = true ∧ (yC (xg xs) d 154 [.ref 18, .int u4, .int (m4.1 5 l1.toNatClampNeg), .int (1 : Int32)] m4 (fun v5 m5 => ∃ u5, v5 = some (Value.int u5) ∧ ((¬ u5 = ((-1) : Int32) → (x_in u2 4097 = true ∧ (yC (xg xs) d 124 [.ref 31] m5 (fun v6 m6 => ∃ u6, v6 = some (Value.int u6) ∧ yP (xg xs) (d + 1) 152 97 [(0, .ref 31), (1, .int l1), (3, .int u5), (4, .int ((m5.1 20 u2.toNatClampNeg) + (u5 >>> ((2 : Int32) &&& 31)))), (5, .int (u6 + (1 : Int32)))] [] m6 Q)))) ∧ (u5 = ((-1) : Int32) → Q (some (.int (32 : Int32))) m5)))))))) ∧ (¬ u3 = (10 : Int32) → Q (some (.int (0 : Int32))) m3)))))))))))) : yP (xg xs) (d + 1) 152 0 [(0, .ref 31), (1, .int l1)] [] m Q := by
  refine y_st rfl rfl rfl rfl rfl (fun _ _ => rfl) ?_
  refine y_gf rfl rfl rfl rfl rfl ?_
  refine y_st rfl rfl rfl rfl rfl (fun _ _ => rfl) ?_
  refine y_gf rfl rfl rfl rfl rfl ?_
  refine y_gf rfl rfl rfl rfl rfl ?_
  refine y_st rfl rfl rfl rfl rfl (fun _ _ => rfl) ?_
  show yP (xg xs) (d + 1) 152 12 [(0, .ref 31), (1, .int l1)] [.ref 31, .ref 5, .ref 18] m Q
  refine y_call rfl rfl rfl rfl rfl (Nat.le_of_ble_eq_true rfl) (Nat.le_of_ble_eq_true rfl) rfl (by decide) H (fun v1 m1 H => ?_)
  obtain ⟨u1, rfl, H⟩ := H
  show yP (xg xs) (d + 1) 152 15 [(0, .ref 31), (1, .int l1)] [.int u1, .ref 5, .ref 18] m1 Q
  refine y_iald rfl rfl rfl (H.1) ?_
  replace H := H.2
  show yP (xg xs) (d + 1) 152 16 [(0, .ref 31), (1, .int l1)] [.int (m1.1 5 u1.toNatClampNeg), .ref 18] m1 Q
  refine y_call rfl rfl rfl rfl rfl (Nat.le_of_ble_eq_true rfl) (Nat.le_of_ble_eq_true rfl) rfl (by decide) H (fun v2 m2 H => ?_)
  obtain ⟨u2, rfl, H⟩ := H
  refine y_st rfl rfl rfl rfl rfl (fun _ _ => rfl) ?_
  refine y_st rfl rfl rfl rfl rfl (fun _ _ => rfl) ?_
  refine y_st rfl rfl rfl rfl rfl (fun _ _ => rfl) ?_
  show yP (xg xs) (d + 1) 152 22 [(2, .int u2), (0, .ref 31), (1, .int l1)] [.int ((-1) : Int32), .int u2] m2 Q
  refine y_ieq (t := 38) rfl rfl rfl (fun h => ?_) (fun h => ?_)
  · replace H := H.1 h; clear h
    refine y_st rfl rfl rfl rfl rfl (fun _ _ => rfl) ?_
    show yP (xg xs) (d + 1) 152 39 [(2, .int u2), (0, .ref 31), (1, .int l1)] [.int (0 : Int32)] m2 Q
    exact y_iret rfl rfl rfl H
  · replace H := H.2 h; clear h
    refine y_st rfl rfl rfl rfl rfl (fun _ _ => rfl) ?_
    refine y_gf rfl rfl rfl rfl rfl ?_
    refine y_st rfl rfl rfl rfl rfl (fun _ _ => rfl) ?_
    show yP (xg xs) (d + 1) 152 30 [(2, .int u2), (0, .ref 31), (1, .int l1)] [.int u2, .ref 18] m2 Q
    refine y_call rfl rfl rfl rfl rfl (Nat.le_of_ble_eq_true rfl) (Nat.le_of_ble_eq_true rfl) rfl (by decide) H (fun v3 m3 H => ?_)
    obtain ⟨u3, rfl, H⟩ := H
    refine y_st rfl rfl rfl rfl rfl (fun _ _ => rfl) ?_
    show yP (xg xs) (d + 1) 152 35 [(2, .int u2), (0, .ref 31), (1, .int l1)] [.int (10 : Int32), .int u3] m3 Q
    refine y_ieq (t := 40) rfl rfl rfl (fun h => ?_) (fun h => ?_)
    · replace H := H.1 h; clear h
      refine y_st rfl rfl rfl rfl rfl (fun _ _ => rfl) ?_
      refine y_gf rfl rfl rfl rfl rfl ?_
      refine y_st rfl rfl rfl rfl rfl (fun _ _ => rfl) ?_
      refine y_gf rfl rfl rfl rfl rfl ?_
      refine y_st rfl rfl rfl rfl rfl (fun _ _ => rfl) ?_
      show yP (xg xs) (d + 1) 152 49 [(2, .int u2), (0, .ref 31), (1, .int l1)] [.int u2, .ref 18, .ref 18] m3 Q
      refine y_call rfl rfl rfl rfl rfl (Nat.le_of_ble_eq_true rfl) (Nat.le_of_ble_eq_true rfl) rfl (by decide) H (fun v4 m4 H => ?_)
      obtain ⟨u4, rfl, H⟩ := H
      refine y_st rfl rfl rfl rfl rfl (fun _ _ => rfl) ?_
      refine y_gf rfl rfl rfl rfl rfl ?_
      refine y_gf rfl rfl rfl rfl rfl ?_
      refine y_st rfl rfl rfl rfl rfl (fun _ _ => rfl) ?_
      show yP (xg xs) (d + 1) 152 60 [(2, .int u2), (0, .ref 31), (1, .int l1)] [.int l1, .ref 5, .int u4, .ref 18] m4 Q
      refine y_iald rfl rfl rfl (H.1) ?_
      replace H := H.2
      refine y_st rfl rfl rfl rfl rfl (fun _ _ => rfl) ?_
      show yP (xg xs) (d + 1) 152 62 [(2, .int u2), (0, .ref 31), (1, .int l1)] [.int (1 : Int32), .int (m4.1 5 l1.toNatClampNeg), .int u4, .ref 18] m4 Q
      refine y_call rfl rfl rfl rfl rfl (Nat.le_of_ble_eq_true rfl) (Nat.le_of_ble_eq_true rfl) rfl (by decide) H (fun v5 m5 H => ?_)
      obtain ⟨u5, rfl, H⟩ := H
      refine y_st rfl rfl rfl rfl rfl (fun _ _ => rfl) ?_
      refine y_st rfl rfl rfl rfl rfl (fun _ _ => rfl) ?_
      refine y_st rfl rfl rfl rfl rfl (fun _ _ => rfl) ?_
      show yP (xg xs) (d + 1) 152 68 [(3, .int u5), (2, .int u2), (0, .ref 31), (1, .int l1)] [.int ((-1) : Int32), .int u5] m5 Q
      refine y_ine (t := 74) rfl rfl rfl (fun h => ?_) (fun h => ?_)
      · replace H := H.1 h; clear h
        refine y_st rfl rfl rfl rfl rfl (fun _ _ => rfl) ?_
        refine y_gf rfl rfl rfl rfl rfl ?_
        refine y_gf rfl rfl rfl rfl rfl ?_
        refine y_st rfl rfl rfl rfl rfl (fun _ _ => rfl) ?_
        show yP (xg xs) (d + 1) 152 82 [(3, .int u5), (2, .int u2), (0, .ref 31), (1, .int l1)] [.int u2, .ref 20] m5 Q
        refine y_iald rfl rfl rfl (H.1) ?_
        replace H := H.2
        refine y_st rfl rfl rfl rfl rfl (fun _ _ => rfl) ?_
        refine y_st rfl rfl rfl rfl rfl (fun _ _ => rfl) ?_
        refine y_st rfl rfl rfl rfl rfl (fun _ _ => rfl) ?_
        refine y_st rfl rfl rfl rfl rfl (fun _ _ => rfl) ?_
        refine y_st rfl rfl rfl rfl rfl (fun _ _ => rfl) ?_
        refine y_st rfl rfl rfl rfl rfl (fun _ _ => rfl) ?_
        show yP (xg xs) (d + 1) 152 90 [(4, .int ((m5.1 20 u2.toNatClampNeg) + (u5 >>> ((2 : Int32) &&& 31)))), (3, .int u5), (2, .int u2), (0, .ref 31), (1, .int l1)] [.ref 31] m5 Q
        refine y_call rfl rfl rfl rfl rfl (Nat.le_of_ble_eq_true rfl) (Nat.le_of_ble_eq_true rfl) rfl (by decide) H (fun v6 m6 H => ?_)
        obtain ⟨u6, rfl, H⟩ := H
        refine y_st rfl rfl rfl rfl rfl (fun _ _ => rfl) ?_
        refine y_st rfl rfl rfl rfl rfl (fun _ _ => rfl) ?_
        refine y_st rfl rfl rfl rfl rfl (fun _ _ => rfl) ?_
        show yP (xg xs) (d + 1) 152 97 [(5, .int (u6 + (1 : Int32))), (4, .int ((m5.1 20 u2.toNatClampNeg) + (u5 >>> ((2 : Int32) &&& 31)))), (3, .int u5), (2, .int u2), (0, .ref 31), (1, .int l1)] [] m6 Q
        refine y_headS (l2 := [(0, .ref 31), (1, .int l1), (3, .int u5), (4, .int ((m5.1 20 u2.toNatClampNeg) + (u5 >>> ((2 : Int32) &&& 31)))), (5, .int (u6 + (1 : Int32)))]) [4, 5, 2, 1, 0] [0, 1, 3, 4, 5] [5, 4, 3, 2, 0, 1] rfl rfl (by decide) rfl (by decide) ?_
        exact H
      · replace H := H.2 h; clear h
        refine y_st rfl rfl rfl rfl rfl (fun _ _ => rfl) ?_
        show yP (xg xs) (d + 1) 152 73 [(3, .int u5), (2, .int u2), (0, .ref 31), (1, .int l1)] [.int (32 : Int32)] m5 Q
        exact y_iret rfl rfl rfl H
    · replace H := H.2 h; clear h
      refine y_st rfl rfl rfl rfl rfl (fun _ _ => rfl) ?_
      show yP (xg xs) (d + 1) 152 39 [(2, .int u2), (0, .ref 31), (1, .int l1)] [.int (0 : Int32)] m3 Q
      exact y_iret rfl rfl rfl H
set_option maxRecDepth 20000 in
/-- CodeMaker.Rules.lookAtParameter from 97 on -/
theorem w152_97 (xs : List Int32) (d : Nat) (l1 : Int32) (l3 : Int32) (l4 : Int32) (l5 : Int32) (m : yM) (Q : Option Value → yM → Prop) (H : ((l1 ≤ l5 → (x_in l1 16401 = true ∧ (x_in (l1 + (1 : Int32)) 16401 = true ∧ (yC (xg xs) d 150 [.int (m.1 6 ((l1 + (1 : Int32)).toNatClampNeg)), .int (l3 &&& (3 : Int32))] (y_si m 5 l1.toNatClampNeg l4) (fun v1 m1 => ∃ u1, v1 = some (Value.int u1) ∧ ((u1 = 0 → Q (some (.int (31 : Int32))) m1) ∧ (¬ u1 = 0 → Q (some (.int (0 : Int32))) m1))))))) ∧ (¬ l1 ≤ l5 → (x_in l5 16401 = true ∧ ((¬ (m.1 5 l5.toNatClampNeg) = l4 → (x_in l5 16401 = true ∧ yP (xg xs) (d + 1) 152 97 [(0, .ref 31), (1, .int l1), (3, .int l3), (4, .int l4), (5, .int (m.1 7 l5.toNatClampNeg))] [] m Q)) ∧ ((m.1 5 l5.toNatClampNeg) = l4 → Q (some (.int (33 : Int32))) m)))))) : yP (xg xs) (d + 1) 152 97 [(0, .ref 31), (1, .int l1), (3, .int l3), (4, .int l4), (5, .int l5)] [] m Q := by
  refine y_st rfl rfl rfl rfl rfl (fun _ _ => rfl) ?_
  refine y_st rfl rfl rfl rfl rfl (fun _ _ => rfl) ?_
  show yP (xg xs) (d + 1) 152 100 [(0, .ref 31), (1, .int l1), (3, .int l3), (4, .int l4), (5, .int l5)] [.int l1, .int l5] m Q
  refine y_ige (t := 136) rfl rfl rfl (fun h => ?_) (fun h => ?_)
  · replace H := H.1 h; clear h
    refine y_st rfl rfl rfl rfl rfl (fun _ _ => rfl) ?_
    refine y_gf rfl rfl rfl rfl rfl ?_
    refine y_gf rfl rfl rfl rfl rfl ?_
    refine y_st rfl rfl rfl rfl rfl (fun _ _ => rfl) ?_
    refine y_st rfl rfl rfl rfl rfl (fun _ _ => rfl) ?_
    show yP (xg xs) (d + 1) 152 146 [(0, .ref 31), (1, .int l1), (3, .int l3), (4, .int l4), (5, .int l5)] [.int l4, .int l1, .ref 5] m Q
    refine y_iast rfl rfl rfl (H.1) ?_
    replace H := H.2
    refine y_st rfl rfl rfl rfl rfl (fun _ _ => rfl) ?_
    refine y_gf rfl rfl rfl rfl rfl ?_
    refine y_gf rfl rfl rfl rfl rfl ?_
    refine y_st rfl rfl rfl rfl rfl (fun _ _ => rfl) ?_
    refine y_st rfl rfl rfl rfl rfl (fun _ _ => rfl) ?_
    refine y_st rfl rfl rfl rfl rfl (fun _ _ => rfl) ?_
    show yP (xg xs) (d + 1) 152 157 [(0, .ref 31), (1, .int l1), (3, .int l3), (4, .int l4), (5, .int l5)] [.int (l1 + (1 : Int32)), .ref 6] (y_si m 5 l1.toNatClampNeg l4) Q
    refine y_iald rfl rfl rfl (H.1) ?_
    replace H := H.2
    refine y_st rfl rfl rfl rfl rfl (fun _ _ => rfl) ?_
    refine y_st rfl rfl rfl rfl rfl (fun _ _ => rfl) ?_
    refine y_st rfl rfl rfl rfl rfl (fun _ _ => rfl) ?_
    show yP (xg xs) (d + 1) 152 161 [(0, .ref 31), (1, .int l1), (3, .int l3), (4, .int l4), (5, .int l5)] [.int (l3 &&& (3 : Int32)), .int (m.1 6 ((l1 + (1 : Int32)).toNatClampNeg))] (y_si m 5 l1.toNatClampNeg l4) Q
    refine y_call rfl rfl rfl rfl rfl (Nat.le_of_ble_eq_true rfl) (Nat.le_of_ble_eq_true rfl) rfl (by decide) H (fun v1 m1 H => ?_)
    obtain ⟨u1, rfl, H⟩ := H
    show yP (xg xs) (d + 1) 152 164 [(0, .ref 31), (1, .int l1), (3, .int l3), (4, .int l4), (5, .int l5)] [.int u1] m1 Q
    refine y_zeq (t := 171) rfl rfl rfl (fun h => ?_) (fun h => ?_)
    · replace H := H.1 h; clear h
      refine y_st rfl rfl rfl rfl rfl (fun _ _ => rfl) ?_
      show yP (xg xs) (d + 1) 152 173 [(0, .ref 31), (1, .int l1), (3, .int l3), (4, .int l4), (5, .int l5)] [.int (31 : Int32)] m1 Q
      exact y_iret rfl rfl rfl H
    · replace H := H.2 h; clear h
      refine y_st rfl rfl rfl rfl rfl (fun _ _ => rfl) ?_
      refine y_st rfl rfl rfl rfl rfl (fun _ _ => rfl) ?_
      show yP (xg xs) (d + 1) 152 173 [(0, .ref 31), (1, .int l1), (3, .int l3), (4, .int l4), (5, .int l5)] [.int (0 : Int32)] m1 Q
      exact y_iret rfl rfl rfl H
  · replace H := H.2 h; clear h
    refine y_st rfl rfl rfl rfl rfl (fun _ _ => rfl) ?_
    refine y_gf rfl rfl rfl rfl rfl ?_
    refine y_gf rfl rfl rfl rfl rfl ?_
    refine y_st rfl rfl rfl rfl rfl (fun _ _ => rfl) ?_
    show yP (xg xs) (d + 1) 152 112 [(0, .ref 31), (1, .int l1), (3, .int l3), (4, .int l4), (5, .int l5)] [.int l5, .ref 5] m Q
    refine y_iald rfl rfl rfl (H.1) ?_
    replace H := H.2
    refine y_st rfl rfl rfl rfl rfl (fun _ _ => rfl) ?_
    show yP (xg xs) (d + 1) 152 115 [(0, .ref 31), (1, .int l1), (3, .int l3), (4, .int l4), (5, .int l5)] [.int l4, .int (m.1 5 l5.toNatClampNeg)] m Q
    refine y_ine (t := 121) rfl rfl rfl (fun h => ?_) (fun h => ?_)
    · replace H := H.1 h; clear h
      refine y_st rfl rfl rfl rfl rfl (fun _ _ => rfl) ?_
      refine y_gf rfl rfl rfl rfl rfl ?_
      refine y_gf rfl rfl rfl rfl rfl ?_
      refine y_st rfl rfl rfl rfl rfl (fun _ _ => rfl) ?_
      show yP (xg xs) (d + 1) 152 130 [(0, .ref 31), (1, .int l1), (3, .int l3), (4, .int l4), (5, .int l5)] [.int l5, .ref 7] m Q
      refine y_iald rfl rfl rfl (H.1) ?_
      replace H := H.2
      refine y_st rfl rfl rfl rfl rfl (fun _ _ => rfl) ?_
      refine y_st rfl rfl rfl rfl rfl (fun _ _ => rfl) ?_
      show yP (xg xs) (d + 1) 152 97 [(5, .int (m.1 7 l5.toNatClampNeg)), (0, .ref 31), (1, .int l1), (3, .int l3), (4, .int l4)] [] m Q
      refine y_headS (l2 := [(0, .ref 31), (1, .int l1), (3, .int l3), (4, .int l4), (5, .int (m.1 7 l5.toNatClampNeg))]) [1, 2, 3, 4, 0] [0, 1, 3, 4, 5] [5, 0, 1, 3, 4] rfl rfl (by decide) rfl (by decide) ?_
      exact H
    · replace H := H.2 h; clear h
      refine y_st rfl rfl rfl rfl rfl (fun _ _ => rfl) ?_
      show yP (xg xs) (d + 1) 152 120 [(0, .ref 31), (1, .int l1), (3, .int l3), (4, .int l4), (5, .int l5)] [.int (33 : Int32)] m Q
      exact y_iret rfl rfl rfl H
set_option maxRecDepth 20000 in
/-- CodeMaker.Scope.blockTypeOf from 0 on -/
theorem w153_0 (xs : List Int32) (d : Nat) (l1 : Int32) (m : yM) (Q : Option Value → yM → Prop) (H : (x_in l1 4097 = true ∧ (x_in (m.1 21 l1.toNatClampNeg) 16401 = true ∧ Q (some (.int (m.1 5 ((m.1 21 l1.toNatClampNeg).toNatClampNeg)))) m))) : yP (xg xs) (d + 1) 153 0 [(0, .ref 18), (1, .int l1)] [] m Q := by
  refine y_st rfl rfl rfl rfl rfl (fun _ _ => rfl) ?_
  refine y_gf rfl rfl rfl rfl rfl ?_
  refine y_gf rfl rfl rfl rfl rfl ?_
  refine y_st rfl rfl rfl rfl rfl (fun _ _ => rfl) ?_
  refine y_gf rfl rfl rfl rfl rfl ?_
  refine y_st rfl rfl rfl rfl rfl (fun _ _ => rfl) ?_
  show yP (xg xs) (d + 1) 153 12 [(0, .ref 18), (1, .int l1)] [.int l1, .ref 21, .ref 5] m Q
  refine y_iald rfl rfl rfl (H.1) ?_
  replace H := H.2
  show yP (xg xs) (d + 1) 153 13 [(0, .ref 18), (1, .int l1)] [.int (m.1 21 l1.toNatClampNeg), .ref 5] m Q
  refine y_iald rfl rfl rfl (H.1) ?_
  replace H := H.2
  show yP (xg xs) (d + 1) 153 14 [(0, .ref 18), (1, .int l1)] [.int (m.1 5 ((m.1 21 l1.toNatClampNeg).toNatClampNeg))] m Q
  exact y_iret rfl rfl rfl H
set_option maxRecDepth 20000 in
/-- CodeMaker.Scope.port from 0 on -/
theorem w154_0 (xs : List Int32) (d : Nat) (l1 : Int32) (l2 : Int32) (l3 : Int32) (m : yM) (Q : Option Value → yM → Prop) (H : (((9 : Int32) ≤ l1 → (yC (xg xs) d 119 [.ref 18, .int (l1 - (9 : Int32))] m (fun v1 m1 => ∃ u1, v1 = some (Value.int u1) ∧ yP (xg xs) (d + 1) 154 27 [(0, .ref 18), (2, .int l2), (3, .int l3), (4, .int (l1 - (9 : Int32))), (5, .int u1)] [] m1 Q))) ∧ (¬ (9 : Int32) ≤ l1 → (yC (xg xs) d 155 [.int l1, .int l2, .int l3] m (fun v2 m2 => ∃ u2, v2 = some (Value.int u2) ∧ Q (some (.int u2)) m2))))) : yP (xg xs) (d + 1) 154 0 [(0, .ref 18), (1, .int l1), (2, .int l2), (3, .int l3)] [] m Q := by
  refine y_st rfl rfl rfl rfl rfl (fun _ _ => rfl) ?_
  refine y_st rfl rfl rfl rfl rfl (fun _ _ => rfl) ?_
  show yP (xg xs) (d + 1) 154 3 [(0, .ref 18), (1, .int l1), (2, .int l2), (3, .int l3)] [.int (9 : Int32), .int l1] m Q
  refine y_ige (t := 13) rfl rfl rfl (fun h => ?_) (fun h => ?_)
  · replace H := H.1 h; clear h
    refine y_st rfl rfl rfl rfl rfl (fun _ _ => rfl) ?_
    refine y_st rfl rfl rfl rfl rfl (fun _ _ => rfl) ?_
    refine y_st rfl rfl rfl rfl rfl (fun _ _ => rfl) ?_
    refine y_st rfl rfl rfl rfl rfl (fun _ _ => rfl) ?_
    refine y_st rfl rfl rfl rfl rfl (fun _ _ => rfl) ?_
    refine y_st rfl rfl rfl rfl rfl (fun _ _ => rfl) ?_
    show yP (xg xs) (d + 1) 154 22 [(4, .int (l1 - (9 : Int32))), (0, .ref 18), (1, .int l1), (2, .int l2), (3, .int l3)] [.int (l1 - (9 : Int32)), .ref 18] m Q
    refine y_call rfl rfl rfl rfl rfl (Nat.le_of_ble_eq_true rfl) (Nat.le_of_ble_eq_true rfl) rfl (by decide) H (fun v1 m1 H => ?_)
    obtain ⟨u1, rfl, H⟩ := H
    refine y_st rfl rfl rfl rfl rfl (fun _ _ => rfl) ?_
    show yP (xg xs) (d + 1) 154 27 [(5, .int u1), (4, .int (l1 - (9 : Int32))), (0, .ref 18), (1, .int l1), (2, .int l2), (3, .int l3)] [] m1 Q
    refine y_headS (l2 := [(0, .ref 18), (2, .int l2), (3, .int l3), (4, .int (l1 - (9 : Int32))), (5, .int u1)]) [2, 4, 5, 1, 0] [0, 2, 3, 4, 5] [5, 4, 0, 1, 2, 3] rfl rfl (by decide) rfl (by decide) ?_
    exact H
  · replace H := H.2 h; clear h
    refine y_st rfl rfl rfl rfl rfl (fun _ _ => rfl) ?_
    refine y_st rfl rfl rfl rfl rfl (fun _ _ => rfl) ?_
    refine y_st rfl rfl rfl rfl rfl (fun _ _ => rfl) ?_
    show yP (xg xs) (d + 1) 154 9 [(0, .ref 18), (1, .int l1), (2, .int l2), (3, .int l3)] [.int l3, .int l2, .int l1] m Q
    refine y_call rfl rfl rfl rfl rfl (Nat.le_of_ble_eq_true rfl) (Nat.le_of_ble_eq_true rfl) rfl (by decide) H (fun v2 m2 H => ?_)
    obtain ⟨u2, rfl, H⟩ := H
    show yP (xg xs) (d + 1) 154 12 [(0, .ref 18), (1, .int l1), (2, .int l2), (3, .int l3)] [.int u2] m2 Q
    exact y_iret rfl rfl rfl H
set_option maxRecDepth 20000 in
/-- CodeMaker.Scope.port from 27 on -/
theorem w154_27 (xs : List Int32) (d : Nat) (l2 : Int32) (l3 : Int32) (l4 : Int32) (l5 : Int32) (m : yM) (Q : Option Value → yM → Prop) (H : (yC (xg xs) d 120 [.ref 18, .int l4] m (fun v1 m1 => ∃ u1, v1 = some (Value.int u1) ∧ ((u1 ≤ l5 → Q (some (.int ((-1) : Int32))) m1) ∧ (¬ u1 ≤ l5 → (x_in l5 4097 = true ∧ ((¬ (m1.1 19 l5.toNatClampNeg) = l2 → yP (xg xs) (d + 1) 154 77 [(0, .ref 18), (2, .int l2), (3, .int l3), (4, .int l4), (5, .int l5)] [] m1 Q) ∧ ((m1.1 19 l5.toNatClampNeg) = l2 → (x_in l5 4097 = true ∧ ((¬ (m1.1 22 l5.toNatClampNeg) = l3 → yP (xg xs) (d + 1) 154 77 [(0, .ref 18), (2, .int l2), (3, .int l3), (4, .int l4), (5, .int l5)] [] m1 Q) ∧ ((m1.1 22 l5.toNatClampNeg) = l3 → (x_in l5 4097 = true ∧ (yC (xg xs) d 136 [.ref 18, .int l5] m1 (fun v2 m2 => ∃ u2, v2 = some (Value.int u2) ∧ Q (some (.int (((4 : Int32) * (m1.1 20 l5.toNatClampNeg)) + u2))) m2)))))))))))))) : yP (xg xs) (d + 1) 154 27 [(0, .ref 18), (2, .int l2), (3, .int l3), (4, .int l4), (5, .int l5)] [] m Q := by
  refine y_st rfl rfl rfl rfl rfl (fun _ _ => rfl) ?_
  refine y_st rfl rfl rfl rfl rfl (fun _ _ => rfl) ?_
  refine y_st rfl rfl rfl rfl rfl (fun _ _ => rfl) ?_
  show yP (xg xs) (d + 1) 154 32 [(0, .ref 18), (2, .int l2), (3, .int l3), (4, .int l4), (5, .int l5)] [.int l4, .ref 18, .int l5] m Q
  refine y_call rfl rfl rfl rfl rfl (Nat.le_of_ble_eq_true rfl) (Nat.le_of_ble_eq_true rfl) rfl (by decide) H (fun v1 m1 H => ?_)
  obtain ⟨u1, rfl, H⟩ := H
  show yP (xg xs) (d + 1) 154 35 [(0, .ref 18), (2, .int l2), (3, .int l3), (4, .int l4), (5, .int l5)] [.int u1, .int l5] m1 Q
  refine y_ige (t := 83) rfl rfl rfl (fun h => ?_) (fun h => ?_)
  · replace H := H.1 h; clear h
    refine y_st rfl rfl rfl rfl rfl (fun _ _ => rfl) ?_
    show yP (xg xs) (d + 1) 154 84 [(0, .ref 18), (2, .int l2), (3, .int l3), (4, .int l4), (5, .int l5)] [.int ((-1) : Int32)] m1 Q
    exact y_iret rfl rfl rfl H
  · replace H := H.2 h; clear h
    refine y_st rfl rfl rfl rfl rfl (fun _ _ => rfl) ?_
    refine y_gf rfl rfl rfl rfl rfl ?_
    refine y_st rfl rfl rfl rfl rfl (fun _ _ => rfl) ?_
    show yP (xg xs) (d + 1) 154 44 [(0, .ref 18), (2, .int l2), (3, .int l3), (4, .int l4), (5, .int l5)] [.int l5, .ref 19] m1 Q
    refine y_iald rfl rfl rfl (H.1) ?_
    replace H := H.2
    refine y_st rfl rfl rfl rfl rfl (fun _ _ => rfl) ?_
    show yP (xg xs) (d + 1) 154 46 [(0, .ref 18), (2, .int l2), (3, .int l3), (4, .int l4), (5, .int l5)] [.int l2, .int (m1.1 19 l5.toNatClampNeg)] m1 Q
    refine y_ine (t := 77) rfl rfl rfl (fun h => ?_) (fun h => ?_)
    · replace H := H.1 h; clear h
      show yP (xg xs) (d + 1) 154 77 [(0, .ref 18), (2, .int l2), (3, .int l3), (4, .int l4), (5, .int l5)] [] m1 Q
      exact H
    · replace H := H.2 h; clear h
      refine y_st rfl rfl rfl rfl rfl (fun _ _ => rfl) ?_
      refine y_gf rfl rfl rfl rfl rfl ?_
      refine y_st rfl rfl rfl rfl rfl (fun _ _ => rfl) ?_
      show yP (xg xs) (d + 1) 154 55 [(0, .ref 18), (2, .int l2), (3, .int l3), (4, .int l4), (5, .int l5)] [.int l5, .ref 22] m1 Q
      refine y_iald rfl rfl rfl (H.1) ?_
      replace H := H.2
      refine y_st rfl rfl rfl rfl rfl (fun _ _ => rfl) ?_
      show yP (xg xs) (d + 1) 154 57 [(0, .ref 18), (2, .int l2), (3, .int l3), (4, .int l4), (5, .int l5)] [.int l3, .int (m1.1 22 l5.toNatClampNeg)] m1 Q
      refine y_ine (t := 77) rfl rfl rfl (fun h => ?_) (fun h => ?_)
      · replace H := H.1 h; clear h
        show yP (xg xs) (d + 1) 154 77 [(0, .ref 18), (2, .int l2), (3, .int l3), (4, .int l4), (5, .int l5)] [] m1 Q
        exact H
      · replace H := H.2 h; clear h
        refine y_st rfl rfl rfl rfl rfl (fun _ _ => rfl) ?_
        refine y_st rfl rfl rfl rfl rfl (fun _ _ => rfl) ?_
        refine y_gf rfl rfl rfl rfl rfl ?_
        refine y_st rfl rfl rfl rfl rfl (fun _ _ => rfl) ?_
        show yP (xg xs) (d + 1) 154 67 [(0, .ref 18), (2, .int l2), (3, .int l3), (4, .int l4), (5, .int l5)] [.int l5, .ref 20, .int (4 : Int32)] m1 Q
        refine y_iald rfl rfl rfl (H.1) ?_
        replace H := H.2
        refine y_st rfl rfl rfl rfl rfl (fun _ _ => rfl) ?_
        refine y_st rfl rfl rfl rfl rfl (fun _ _ => rfl) ?_
        refine y_st rfl rfl rfl rfl rfl (fun _ _ => rfl) ?_
        show yP (xg xs) (d + 1) 154 72 [(0, .ref 18), (2, .int l2), (3, .int l3), (4, .int l4), (5, .int l5)] [.int l5, .ref 18, .int ((4 : Int32) * (m1.1 20 l5.toNatClampNeg))] m1 Q
        refine y_call rfl rfl rfl rfl rfl (Nat.le_of_ble_eq_true rfl) (Nat.le_of_ble_eq_true rfl) rfl (by decide) H (fun v2 m2 H => ?_)
        obtain ⟨u2, rfl, H⟩ := H
        refine y_st rfl rfl rfl rfl rfl (fun _ _ => rfl) ?_
        show yP (xg xs) (d + 1) 154 76 [(0, .ref 18), (2, .int l2), (3, .int l3), (4, .int l4), (5, .int l5)] [.int (((4 : Int32) * (m1.1 20 l5.toNatClampNeg)) + u2)] m2 Q
        exact y_iret rfl rfl rfl H
set_option maxRecDepth 20000 in
/-- CodeMaker.Scope.port from 77 on -/
theorem w154_77 (xs : List Int32) (d : Nat) (l2 : Int32) (l3 : Int32) (l4 : Int32) (l5 : Int32) (m : yM) (Q : Option Value → yM → Prop) (H : yP (xg xs) (d + 1) 154 27 [(0, .ref 18), (2, .int l2), (3, .int l3), (4, .int l4), (5, .int (l5 + (1 : Int32)))] [] m Q) : yP (xg xs) (d + 1) 154 77 [(0, .ref 18), (2, .int l2), (3, .int l3), (4, .int l4), (5, .int l5)] [] m Q := by
  refine y_st rfl rfl rfl rfl rfl (fun _ _ => rfl) ?_
  refine y_st rfl rfl rfl rfl rfl (fun _ _ => rfl) ?_
  show yP (xg xs) (d + 1) 154 27 [(5, .int (l5 + (1 : Int32))), (0, .ref 18), (2, .int l2), (3, .int l3), (4, .int l4)] [] m Q
  refine y_headS (l2 := [(0, .ref 18), (2, .int l2), (3, .int l3), (4, .int l4), (5, .int (l5 + (1 : Int32)))]) [1, 2, 3, 4, 0] [0, 2, 3, 4, 5] [5, 0, 2, 3, 4] rfl rfl (by decide) rfl (by decide) ?_
  exact H
set_option maxRecDepth 20000 in
/-- CodeMaker.Scope.standardPort from 0 on -/
theorem w155_0 (xs : List Int32) (d : Nat) (l0 : Int32) (l1 : Int32) (l2 : Int32) (m : yM) (Q : Option Value → yM → Prop) (H : yP (xg xs) (d + 1) 155 2 [(0, .int l0), (1, .int l1), (2, .int l2), (3, .int (0 : Int32))] [] m Q) : yP (xg xs) (d + 1) 155 0 [(0, .int l0), (1, .int l1), (2, .int l2)] [] m Q := by
  refine y_st rfl rfl rfl rfl rfl (fun _ _ => rfl) ?_
  refine y_st rfl rfl rfl rfl rfl (fun _ _ => rfl) ?_
  show yP (xg xs) (d + 1) 155 2 [(3, .int (0 : Int32)), (0, .int l0), (1, .int l1), (2, .int l2)] [] m Q
  refine y_headS (l2 := [(0, .int l0), (1, .int l1), (2, .int l2), (3, .int (0 : Int32))]) [1, 2, 3, 0] [0, 1, 2, 3] [3, 0, 1, 2] rfl rfl (by decide) rfl (by decide) ?_
  exact H
set_option maxRecDepth 20000 in
/-- CodeMaker.Scope.standardPort from 2 on -/
theorem w155_2 (xs : List Int32) (d : Nat) (l0 : Int32) (l1 : Int32) (l2 : Int32) (l3 : Int32) (m : yM) (Q : Option Value → yM → Prop) (H : (((160 : Int32) < (l3 + (5 : Int32)) → Q (some (.int ((-1) : Int32))) m) ∧ (¬ (160 : Int32) < (l3 + (5 : Int32)) → (x_in l3 xar_4.length = true ∧ ((¬ (xar_4.getD l3.toNatClampNeg 0) = l0 → yP (xg xs) (d + 1) 155 61 [(0, .int l0), (1, .int l1), (2, .int l2), (3, .int l3)] [] m Q) ∧ ((xar_4.getD l3.toNatClampNeg 0) = l0 → (x_in (l3 + (1 : Int32)) xar_4.length = true ∧ ((¬ (xar_4.getD ((l3 + (1 : Int32)).toNatClampNeg) 0) = l2 → yP (xg xs) (d + 1) 155 61 [(0, .int l0), (1, .int l1), (2, .int l2), (3, .int l3)] [] m Q) ∧ ((xar_4.getD ((l3 + (1 : Int32)).toNatClampNeg) 0) = l2 → (x_in (l3 + (2 : Int32)) xar_4.length = true ∧ ((¬ (xar_4.getD ((l3 + (2 : Int32)).toNatClampNeg) 0) = l1 → yP (xg xs) (d + 1) 155 61 [(0, .int l0), (1, .int l1), (2, .int l2), (3, .int l3)] [] m Q) ∧ ((xar_4.getD ((l3 + (2 : Int32)).toNatClampNeg) 0) = l1 → (x_in (l3 + (3 : Int32)) xar_4.length = true ∧ (x_in (l3 + (4 : Int32)) xar_4.length = true ∧ Q (some (.int (((4 : Int32) * (xar_4.getD ((l3 + (3 : Int32)).toNatClampNeg) 0)) + (xar_4.getD ((l3 + (4 : Int32)).toNatClampNeg) 0)))) m)))))))))))))) : yP (xg xs) (d + 1) 155 2 [(0, .int l0), (1, .int l1), (2, .int l2), (3, .int l3)] [] m Q := by
  refine y_st rfl rfl rfl rfl rfl (fun _ _ => rfl) ?_
  refine y_st rfl rfl rfl rfl rfl (fun _ _ => rfl) ?_
  refine y_st rfl rfl rfl rfl rfl (fun _ _ => rfl) ?_
  refine y_st rfl rfl rfl rfl rfl (fun _ _ => rfl) ?_
  refine y_st rfl rfl rfl rfl rfl (fun _ _ => rfl) ?_
  show yP (xg xs) (d + 1) 155 9 [(0, .int l0), (1, .int l1), (2, .int l2), (3, .int l3)] [.int (160 : Int32), .int (l3 + (5 : Int32))] m Q
  refine y_igt (t := 67) rfl rfl rfl (fun h => ?_) (fun h => ?_)
  · replace H := H.1 h; clear h
    refine y_st rfl rfl rfl rfl rfl (fun _ _ => rfl) ?_
    show yP (xg xs) (d + 1) 155 68 [(0, .int l0), (1, .int l1), (2, .int l2), (3, .int l3)] [.int ((-1) : Int32)] m Q
    exact y_iret rfl rfl rfl H
  · replace H := H.2 h; clear h
    refine y_st rfl rfl rfl rfl rfl (fun _ _ => rfl) ?_
    refine y_st rfl rfl rfl rfl rfl (fun _ _ => rfl) ?_
    show yP (xg xs) (d + 1) 155 16 [(0, .int l0), (1, .int l1), (2, .int l2), (3, .int l3)] [.int l3, .retAddr 4] m Q
    refine y_cald rfl rfl rfl H.1 ?_
    replace H := H.2
    refine y_st rfl rfl rfl rfl rfl (fun _ _ => rfl) ?_
    show yP (xg xs) (d + 1) 155 18 [(0, .int l0), (1, .int l1), (2, .int l2), (3, .int l3)] [.int l0, .int (xar_4.getD l3.toNatClampNeg 0)] m Q
    refine y_ine (t := 61) rfl rfl rfl (fun h => ?_) (fun h => ?_)
    · replace H := H.1 h; clear h
      show yP (xg xs) (d + 1) 155 61 [(0, .int l0), (1, .int l1), (2, .int l2), (3, .int l3)] [] m Q
      exact H
    · replace H := H.2 h; clear h
      refine y_st rfl rfl rfl rfl rfl (fun _ _ => rfl) ?_
      refine y_st rfl rfl rfl rfl rfl (fun _ _ => rfl) ?_
      refine y_st rfl rfl rfl rfl rfl (fun _ _ => rfl) ?_
      refine y_st rfl rfl rfl rfl rfl (fun _ _ => rfl) ?_
      show yP (xg xs) (d + 1) 155 27 [(0, .int l0), (1, .int l1), (2, .int l2), (3, .int l3)] [.int (l3 + (1 : Int32)), .retAddr 4] m Q
      refine y_cald rfl rfl rfl H.1 ?_
      replace H := H.2
      refine y_st rfl rfl rfl rfl rfl (fun _ _ => rfl) ?_
      show yP (xg xs) (d + 1) 155 29 [(0, .int l0), (1, .int l1), (2, .int l2), (3, .int l3)] [.int l2, .int (xar_4.getD ((l3 + (1 : Int32)).toNatClampNeg) 0)] m Q
      refine y_ine (t := 61) rfl rfl rfl (fun h => ?_) (fun h => ?_)
      · replace H := H.1 h; clear h
        show yP (xg xs) (d + 1) 155 61 [(0, .int l0), (1, .int l1), (2, .int l2), (3, .int l3)] [] m Q
        exact H
      · replace H := H.2 h; clear h
        refine y_st rfl rfl rfl rfl rfl (fun _ _ => rfl) ?_
        refine y_st rfl rfl rfl rfl rfl (fun _ _ => rfl) ?_
        refine y_st rfl rfl rfl rfl rfl (fun _ _ => rfl) ?_
        refine y_st rfl rfl rfl rfl rfl (fun _ _ => rfl) ?_
        show yP (xg xs) (d + 1) 155 38 [(0, .int l0), (1, .int l1), (2, .int l2), (3, .int l3)] [.int (l3 + (2 : Int32)), .retAddr 4] m Q
        refine y_cald rfl rfl rfl H.1 ?_
        replace H := H.2
        refine y_st rfl rfl rfl rfl rfl (fun _ _ => rfl) ?_
        show yP (xg xs) (d + 1) 155 40 [(0, .int l0), (1, .int l1), (2, .int l2), (3, .int l3)] [.int l1, .int (xar_4.getD ((l3 + (2 : Int32)).toNatClampNeg) 0)] m Q
        refine y_ine (t := 61) rfl rfl rfl (fun h => ?_) (fun h => ?_)
        · replace H := H.1 h; clear h
          show yP (xg xs) (d + 1) 155 61 [(0, .int l0), (1, .int l1), (2, .int l2), (3, .int l3)] [] m Q
          exact H
        · replace H := H.2 h; clear h
          refine y_st rfl rfl rfl rfl rfl (fun _ _ => rfl) ?_
          refine y_st rfl rfl rfl rfl rfl (fun _ _ => rfl) ?_
          refine y_st rfl rfl rfl rfl rfl (fun _ _ => rfl) ?_
          refine y_st rfl rfl rfl rfl rfl (fun _ _ => rfl) ?_
          refine y_st rfl rfl rfl rfl rfl (fun _ _ => rfl) ?_
          show yP (xg xs) (d + 1) 155 50 [(0, .int l0), (1, .int l1), (2, .int l2), (3, .int l3)] [.int (l3 + (3 : Int32)), .retAddr 4, .int (4 : Int32)] m Q
          refine y_cald rfl rfl rfl H.1 ?_
          replace H := H.2
          refine y_st rfl rfl rfl rfl rfl (fun _ _ => rfl) ?_
          refine y_st rfl rfl rfl rfl rfl (fun _ _ => rfl) ?_
          refine y_st rfl rfl rfl rfl rfl (fun _ _ => rfl) ?_
          refine y_st rfl rfl rfl rfl rfl (fun _ _ => rfl) ?_
          refine y_st rfl rfl rfl rfl rfl (fun _ _ => rfl) ?_
          show yP (xg xs) (d + 1) 155 58 [(0, .int l0), (1, .int l1), (2, .int l2), (3, .int l3)] [.int (l3 + (4 : Int32)), .retAddr 4, .int ((4 : Int32) * (xar_4.getD ((l3 + (3 : Int32)).toNatClampNeg) 0))] m Q
          refine y_cald rfl rfl rfl H.1 ?_
          replace H := H.2
          refine y_st rfl rfl rfl rfl rfl (fun _ _ => rfl) ?_
          show yP (xg xs) (d + 1) 155 60 [(0, .int l0), (1, .int l1), (2, .int l2), (3, .int l3)] [.int (((4 : Int32) * (xar_4.getD ((l3 + (3 : Int32)).toNatClampNeg) 0)) + (xar_4.getD ((l3 + (4 : Int32)).toNatClampNeg) 0))] m Q
          exact y_iret rfl rfl rfl H
set_option maxRecDepth 20000 in
/-- CodeMaker.Scope.standardPort from 61 on -/
theorem w155_61 (xs : List Int32) (d : Nat) (l0 : Int32) (l1 : Int32) (l2 : Int32) (l3 : Int32) (m : yM) (Q : Option Value → yM → Prop) (H : yP (xg xs) (d + 1) 155 2 [(0, .int l0), (1, .int l1), (2, .int l2), (3, .int (l3 + (5 : Int32)))] [] m Q) : yP (xg xs) (d + 1) 155 61 [(0, .int l0), (1, .int l1), (2, .int l2), (3, .int l3)] [] m Q := by
  refine y_st rfl rfl rfl rfl rfl (fun _ _ => rfl) ?_
  refine y_st rfl rfl rfl rfl rfl (fun _ _ => rfl) ?_
  show yP (xg xs) (d + 1) 155 2 [(3, .int (l3 + (5 : Int32))), (0, .int l0), (1, .int l1), (2, .int l2)] [] m Q
  refine y_headS (l2 := [(0, .int l0), (1, .int l1), (2, .int l2), (3, .int (l3 + (5 : Int32)))]) [1, 2, 3, 0] [0, 1, 2, 3] [3, 0, 1, 2] rfl rfl (by decide) rfl (by decide) ?_
  exact H
set_option maxRecDepth 20000 in
/-- CodeMaker.Rules.lookAtIf from 0 on -/
theorem w156_0 (xs : List Int32) (d : Nat) (l1 : Int32) (m : yM) (Q : Option Value → yM → Prop) (H : yP (xg xs) (d + 1) 156 4 [(0, .ref 31), (1, .int l1), (2, .int (l1 + (1 : Int32)))] [] m Q) : yP (xg xs) (d + 1) 156 0 [(0, .ref 31), (1, .int l1)] [] m Q := by
  refine y_st rfl rfl rfl rfl rfl (fun _ _ => rfl) ?_
  refine y_st rfl rfl rfl rfl rfl (fun _ _ => rfl) ?_
  refine y_st rfl rfl rfl rfl rfl (fun _ _ => rfl) ?_
  refine y_st rfl rfl rfl rfl rfl (fun _ _ => rfl) ?_
  show yP (xg xs) (d + 1) 156 4 [(2, .int (l1 + (1 : Int32))), (0, .ref 31), (1, .int l1)] [] m Q
  refine y_headS (l2 := [(0, .ref 31), (1, .int l1), (2, .int (l1 + (1 : Int32)))]) [1, 2, 0] [0, 1, 2] [2, 0, 1] rfl rfl (by decide) rfl (by decide) ?_
  exact H
set_option maxRecDepth 20000 in
/-- CodeMaker.Rules.lookAtIf from 4 on -/
theorem w156_4 (xs : List Int32) (d : Nat) (l1 : Int32) (l2 : Int32) (m : yM) (Q : Option Value → yM → Prop) (H : (x_in l1 16401 = true ∧ (((m.1 7 l1.toNatClampNeg) ≤ l2 → Q (some (.int (0 : Int32))) m) ∧ (¬ (m.1 7 l1.toNatClampNeg) ≤ l2 → (x_in l2 16401 = true ∧ (((m.1 3 l2.toNatClampNeg) = (11 : Int32) → yP (xg xs) (d + 1) 156 46 [(0, .ref 31), (1, .int l1), (2, .int l2)] [] m Q) ∧ (¬ (m.1 3 l2.toNatClampNeg) = (11 : Int32) → (x_in l2 16401 = true ∧ (((m.1 6 l2.toNatClampNeg) = 0 → yP (xg xs) (d + 1) 156 46 [(0, .ref 31), (1, .int l1), (2, .int l2)] [] m Q) ∧ (¬ (m.1 6 l2.toNatClampNeg) = 0 → Q (some (.int (34 : Int32))) m)))))))))) : yP (xg xs) (d + 1) 156 4 [(0, .ref 31), (1, .int l1), (2, .int l2)] [] m Q := by
  refine y_st rfl rfl rfl rfl rfl (fun _ _ => rfl) ?_
  refine y_st rfl rfl rfl rfl rfl (fun _ _ => rfl) ?_
  refine y_gf rfl rfl rfl rfl rfl ?_
  refine y_gf rfl rfl rfl rfl rfl ?_
  refine y_st rfl rfl rfl rfl rfl (fun _ _ => rfl) ?_
  show yP (xg xs) (d + 1) 156 13 [(0, .ref 31), (1, .int l1), (2, .int l2)] [.int l1, .ref 7, .int l2] m Q
  refine y_iald rfl rfl rfl (H.1) ?_
  replace H := H.2
  show yP (xg xs) (d + 1) 156 14 [(0, .ref 31), (1, .int l1), (2, .int l2)] [.int (m.1 7 l1.toNatClampNeg), .int l2] m Q
  refine y_ige (t := 59) rfl rfl rfl (fun h => ?_) (fun h => ?_)
  · replace H := H.1 h; clear h
    refine y_st rfl rfl rfl rfl rfl (fun _ _ => rfl) ?_
    show yP (xg xs) (d + 1) 156 60 [(0, .ref 31), (1, .int l1), (2, .int l2)] [.int (0 : Int32)] m Q
    exact y_iret rfl rfl rfl H
  · replace H := H.2 h; clear h
    refine y_st rfl rfl rfl rfl rfl (fun _ _ => rfl) ?_
    refine y_gf rfl rfl rfl rfl rfl ?_
    refine y_gf rfl rfl rfl rfl rfl ?_
    refine y_st rfl rfl rfl rfl rfl (fun _ _ => rfl) ?_
    show yP (xg xs) (d + 1) 156 25 [(0, .ref 31), (1, .int l1), (2, .int l2)] [.int l2, .ref 3] m Q
    refine y_iald rfl rfl rfl (H.1) ?_
    replace H := H.2
    refine y_st rfl rfl rfl rfl rfl (fun _ _ => rfl) ?_
    show yP (xg xs) (d + 1) 156 28 [(0, .ref 31), (1, .int l1), (2, .int l2)] [.int (11 : Int32), .int (m.1 3 l2.toNatClampNeg)] m Q
    refine y_ieq (t := 46) rfl rfl rfl (fun h => ?_) (fun h => ?_)
    · replace H := H.1 h; clear h
      show yP (xg xs) (d + 1) 156 46 [(0, .ref 31), (1, .int l1), (2, .int l2)] [] m Q
      exact H
    · replace H := H.2 h; clear h
      refine y_st rfl rfl rfl rfl rfl (fun _ _ => rfl) ?_
      refine y_gf rfl rfl rfl rfl rfl ?_
      refine y_gf rfl rfl rfl rfl rfl ?_
      refine y_st rfl rfl rfl rfl rfl (fun _ _ => rfl) ?_
      show yP (xg xs) (d + 1) 156 39 [(0, .ref 31), (1, .int l1), (2, .int l2)] [.int l2, .ref 6] m Q
      refine y_iald rfl rfl rfl (H.1) ?_
      replace H := H.2
      show yP (xg xs) (d + 1) 156 40 [(0, .ref 31), (1, .int l1), (2, .int l2)] [.int (m.1 6 l2.toNatClampNeg)] m Q
      refine y_zeq (t := 46) rfl rfl rfl (fun h => ?_) (fun h => ?_)
      · replace H := H.1 h; clear h
        show yP (xg xs) (d + 1) 156 46 [(0, .ref 31), (1, .int l1), (2, .int l2)] [] m Q
        exact H
      · replace H := H.2 h; clear h
        refine y_st rfl rfl rfl rfl rfl (fun _ _ => rfl) ?_
        show yP (xg xs) (d + 1) 156 45 [(0, .ref 31), (1, .int l1), (2, .int l2)] [.int (34 : Int32)] m Q
        exact y_iret rfl rfl rfl H
set_option maxRecDepth 20000 in
/-- CodeMaker.Rules.lookAtIf from 46 on -/
theorem w156_46 (xs : List Int32) (d : Nat) (l1 : Int32) (l2 : Int32) (m : yM) (Q : Option Value → yM → Prop) (H : (x_in l2 16401 = true ∧ yP (xg xs) (d + 1) 156 4 [(0, .ref 31), (1, .int l1), (2, .int (m.1 7 l2.toNatClampNeg))] [] m Q)) : yP (xg xs) (d + 1) 156 46 [(0, .ref 31), (1, .int l1), (2, .int l2)] [] m Q := by
  refine y_st rfl rfl rfl rfl rfl (fun _ _ => rfl) ?_
  refine y_gf rfl rfl rfl rfl rfl ?_
  refine y_gf rfl rfl rfl rfl rfl ?_
  refine y_st rfl rfl rfl rfl rfl (fun _ _ => rfl) ?_
  show yP (xg xs) (d + 1) 156 54 [(0, .ref 31), (1, .int l1), (2, .int l2)] [.int l2, .ref 7] m Q
  refine y_iald rfl rfl rfl (H.1) ?_
  replace H := H.2
  refine y_st rfl rfl rfl rfl rfl (fun _ _ => rfl) ?_
  refine y_st rfl rfl rfl rfl rfl (fun _ _ => rfl) ?_
  show yP (xg xs) (d + 1) 156 4 [(2, .int (m.1 7 l2.toNatClampNeg)), (0, .ref 31), (1, .int l1)] [] m Q
  refine y_headS (l2 := [(0, .ref 31), (1, .int l1), (2, .int (m.1 7 l2.toNatClampNeg))]) [1, 2, 0] [0, 1, 2] [2, 0, 1] rfl rfl (by decide) rfl (by decide) ?_
  exact H
set_option maxRecDepth 20000 in
/-- CodeMaker.Rules.lookAtRange from 0 on -/
theorem w157_0 (xs : List Int32) (d : Nat) (l1 : Int32) (m : yM) (Q : Option Value → yM → Prop) (H : (x_in l1 16401 = true ∧ (x_in (l1 + (1 : Int32)) 16401 = true ∧ (((m.1 3 ((l1 + (1 : Int32)).toNatClampNeg)) = (31 : Int32) → yP (xg xs) (d + 1) 157 65 [] [] m Q) ∧ (¬ (m.1 3 ((l1 + (1 : Int32)).toNatClampNeg)) = (31 : Int32) → (x_in ((m.1 7 l1.toNatClampNeg) - (1 : Int32)) 16401 = true ∧ (((m.1 3 (((m.1 7 l1.toNatClampNeg) - (1 : Int32)).toNatClampNeg)) = (31 : Int32) → yP (xg xs) (d + 1) 157 65 [] [] m Q) ∧ (¬ (m.1 3 (((m.1 7 l1.toNatClampNeg) - (1 : Int32)).toNatClampNeg)) = (31 : Int32) → (x_in (l1 + (1 : Int32)) 16401 = true ∧ (x_in ((m.1 7 l1.toNatClampNeg) - (1 : Int32)) 16401 = true ∧ (((m.1 5 ((l1 + (1 : Int32)).toNatClampNeg)) ≤ (m.1 5 (((m.1 7 l1.toNatClampNeg) - (1 : Int32)).toNatClampNeg)) → yP (xg xs) (d + 1) 157 70 [] [.int (0 : Int32)] m Q) ∧ (¬ (m.1 5 ((l1 + (1 : Int32)).toNatClampNeg)) ≤ (m.1 5 (((m.1 7 l1.toNatClampNeg) - (1 : Int32)).toNatClampNeg)) → yP (xg xs) (d + 1) 157 65 [] [] m Q)))))))))))) : yP (xg xs) (d + 1) 157 0 [(0, .ref 31), (1, .int l1)] [] m Q := by
  refine y_st rfl rfl rfl rfl rfl (fun _ _ => rfl) ?_
  refine y_st rfl rfl rfl rfl rfl (fun _ _ => rfl) ?_
  refine y_st rfl rfl rfl rfl rfl (fun _ _ => rfl) ?_
  refine y_st rfl rfl rfl rfl rfl (fun _ _ => rfl) ?_
  refine y_st rfl rfl rfl rfl rfl (fun _ _ => rfl) ?_
  refine y_gf rfl rfl rfl rfl rfl ?_
  refine y_gf rfl rfl rfl rfl rfl ?_
  refine y_st rfl rfl rfl rfl rfl (fun _ _ => rfl) ?_
  show yP (xg xs) (d + 1) 157 12 [(2, .int (l1 + (1 : Int32))), (0, .ref 31), (1, .int l1)] [.int l1, .ref 7] m Q
  refine y_iald rfl rfl rfl (H.1) ?_
  replace H := H.2
  refine y_st rfl rfl rfl rfl rfl (fun _ _ => rfl) ?_
  refine y_st rfl rfl rfl rfl rfl (fun _ _ => rfl) ?_
  refine y_st rfl rfl rfl rfl rfl (fun _ _ => rfl) ?_
  refine y_st rfl rfl rfl rfl rfl (fun _ _ => rfl) ?_
  refine y_gf rfl rfl rfl rfl rfl ?_
  refine y_gf rfl rfl rfl rfl rfl ?_
  refine y_st rfl rfl rfl rfl rfl (fun _ _ => rfl) ?_
  show yP (xg xs) (d + 1) 157 24 [(3, .int ((m.1 7 l1.toNatClampNeg) - (1 : Int32))), (2, .int (l1 + (1 : Int32))), (0, .ref 31), (1, .int l1)] [.int (l1 + (1 : Int32)), .ref 3] m Q
  refine y_iald rfl rfl rfl (H.1) ?_
  replace H := H.2
  refine y_st rfl rfl rfl rfl rfl (fun _ _ => rfl) ?_
  show yP (xg xs) (d + 1) 157 27 [(3, .int ((m.1 7 l1.toNatClampNeg) - (1 : Int32))), (2, .int (l1 + (1 : Int32))), (0, .ref 31), (1, .int l1)] [.int (31 : Int32), .int (m.1 3 ((l1 + (1 : Int32)).toNatClampNeg))] m Q
  refine y_ieq (t := 65) rfl rfl rfl (fun h => ?_) (fun h => ?_)
  · replace H := H.1 h; clear h
    show yP (xg xs) (d + 1) 157 65 [(3, .int ((m.1 7 l1.toNatClampNeg) - (1 : Int32))), (2, .int (l1 + (1 : Int32))), (0, .ref 31), (1, .int l1)] [] m Q
    refine y_headS (l2 := []) [] [] [3, 2, 0, 1] rfl rfl (by decide) rfl (by decide) ?_
    exact H
  · replace H := H.2 h; clear h
    refine y_st rfl rfl rfl rfl rfl (fun _ _ => rfl) ?_
    refine y_gf rfl rfl rfl rfl rfl ?_
    refine y_gf rfl rfl rfl rfl rfl ?_
    refine y_st rfl rfl rfl rfl rfl (fun _ _ => rfl) ?_
    show yP (xg xs) (d + 1) 157 38 [(3, .int ((m.1 7 l1.toNatClampNeg) - (1 : Int32))), (2, .int (l1 + (1 : Int32))), (0, .ref 31), (1, .int l1)] [.int ((m.1 7 l1.toNatClampNeg) - (1 : Int32)), .ref 3] m Q
    refine y_iald rfl rfl rfl (H.1) ?_
    replace H := H.2
    refine y_st rfl rfl rfl rfl rfl (fun _ _ => rfl) ?_
    show yP (xg xs) (d + 1) 157 41 [(3, .int ((m.1 7 l1.toNatClampNeg) - (1 : Int32))), (2, .int (l1 + (1 : Int32))), (0, .ref 31), (1, .int l1)] [.int (31 : Int32), .int (m.1 3 (((m.1 7 l1.toNatClampNeg) - (1 : Int32)).toNatClampNeg))] m Q
    refine y_ieq (t := 65) rfl rfl rfl (fun h => ?_) (fun h => ?_)
    · replace H := H.1 h; clear h
      show yP (xg xs) (d + 1) 157 65 [(3, .int ((m.1 7 l1.toNatClampNeg) - (1 : Int32))), (2, .int (l1 + (1 : Int32))), (0, .ref 31), (1, .int l1)] [] m Q
      refine y_headS (l2 := []) [] [] [3, 2, 0, 1] rfl rfl (by decide) rfl (by decide) ?_
      exact H
    · replace H := H.2 h; clear h
      refine y_st rfl rfl rfl rfl rfl (fun _ _ => rfl) ?_
      refine y_gf rfl rfl rfl rfl rfl ?_
      refine y_gf rfl rfl rfl rfl rfl ?_
      refine y_st rfl rfl rfl rfl rfl (fun _ _ => rfl) ?_
      show yP (xg xs) (d + 1) 157 52 [(3, .int ((m.1 7 l1.toNatClampNeg) - (1 : Int32))), (2, .int (l1 + (1 : Int32))), (0, .ref 31), (1, .int l1)] [.int (l1 + (1 : Int32)), .ref 5] m Q
      refine y_iald rfl rfl rfl (H.1) ?_
      replace H := H.2
      refine y_st rfl rfl rfl rfl rfl (fun _ _ => rfl) ?_
      refine y_gf rfl rfl rfl rfl rfl ?_
      refine y_gf rfl rfl rfl rfl rfl ?_
      refine y_st rfl rfl rfl rfl rfl (fun _ _ => rfl) ?_
      show yP (xg xs) (d + 1) 157 61 [(3, .int ((m.1 7 l1.toNatClampNeg) - (1 : Int32))), (2, .int (l1 + (1 : Int32))), (0, .ref 31), (1, .int l1)] [.int ((m.1 7 l1.toNatClampNeg) - (1 : Int32)), .ref 5, .int (m.1 5 ((l1 + (1 : Int32)).toNatClampNeg))] m Q
      refine y_iald rfl rfl rfl (H.1) ?_
      replace H := H.2
      show yP (xg xs) (d + 1) 157 62 [(3, .int ((m.1 7 l1.toNatClampNeg) - (1 : Int32))), (2, .int (l1 + (1 : Int32))), (0, .ref 31), (1, .int l1)] [.int (m.1 5 (((m.1 7 l1.toNatClampNeg) - (1 : Int32)).toNatClampNeg)), .int (m.1 5 ((l1 + (1 : Int32)).toNatClampNeg))] m Q
      refine y_ile (t := 69) rfl rfl rfl (fun h => ?_) (fun h => ?_)
      · replace H := H.1 h; clear h
        refine y_st rfl rfl rfl rfl rfl (fun _ _ => rfl) ?_
        show yP (xg xs) (d + 1) 157 70 [(3, .int ((m.1 7 l1.toNatClampNeg) - (1 : Int32))), (2, .int (l1 + (1 : Int32))), (0, .ref 31), (1, .int l1)] [.int (0 : Int32)] m Q
        refine y_headS (l2 := []) [] [] [3, 2, 0, 1] rfl rfl (by decide) rfl (by decide) ?_
        exact H
      · replace H := H.2 h; clear h
        show yP (xg xs) (d + 1) 157 65 [(3, .int ((m.1 7 l1.toNatClampNeg) - (1 : Int32))), (2, .int (l1 + (1 : Int32))), (0, .ref 31), (1, .int l1)] [] m Q
        refine y_headS (l2 := []) [] [] [3, 2, 0, 1] rfl rfl (by decide) rfl (by decide) ?_
        exact H
set_option maxRecDepth 20000 in
/-- CodeMaker.Rules.lookAtRange from 65 on -/
theorem w157_65 (xs : List Int32) (d : Nat) (m : yM) (Q : Option Value → yM → Prop) (H : yP (xg xs) (d + 1) 157 70 [] [.int (1 : Int32)] m Q) : yP (xg xs) (d + 1) 157 65 [] [] m Q := by
  refine y_st rfl rfl rfl rfl rfl (fun _ _ => rfl) ?_
  refine y_st rfl rfl rfl rfl rfl (fun _ _ => rfl) ?_
  show yP (xg xs) (d + 1) 157 70 [] [.int (1 : Int32)] m Q
  exact H
set_option maxRecDepth 20000 in
/-- CodeMaker.Rules.lookAtRange from 70 on -/
theorem w157_70 (xs : List Int32) (d : Nat) (s0 : Int32) (m : yM) (Q : Option Value → yM → Prop) (H : ((s0 = 0 → Q (some (.int (0 : Int32))) m) ∧ (¬ s0 = 0 → Q (some (.int (35 : Int32))) m))) : yP (xg xs) (d + 1) 157 70 [] [.int s0] m Q := by
  refine y_st rfl rfl rfl rfl rfl (fun _ _ => rfl) ?_
  refine y_st rfl rfl rfl rfl rfl (fun _ _ => rfl) ?_
  show yP (xg xs) (d + 1) 157 74 [(4, .int s0)] [.int s0] m Q
  refine y_zeq (t := 82) rfl rfl rfl (fun h => ?_) (fun h => ?_)
  · replace H := H.1 h; clear h
    refine y_st rfl rfl rfl rfl rfl (fun _ _ => rfl) ?_
    show yP (xg xs) (d + 1) 157 83 [(4, .int s0)] [.int (0 : Int32)] m Q
    exact y_iret rfl rfl rfl H
  · replace H := H.2 h; clear h
    refine y_st rfl rfl rfl rfl rfl (fun _ _ => rfl) ?_
    refine y_st rfl rfl rfl rfl rfl (fun _ _ => rfl) ?_
    show yP (xg xs) (d + 1) 157 83 [(4, .int s0)] [.int (35 : Int32)] m Q
    exact y_iret rfl rfl rfl H
set_option maxRecDepth 20000 in
/-- CodeMaker.Rules.lookAtFor from 0 on -/
theorem w158_0 (xs : List Int32) (d : Nat) (l1 : Int32) (m : yM) (Q : Option Value → yM → Prop) (H : (x_in l1 16401 = true ∧ (yC (xg xs) d 134 [.ref 18, .int (m.1 5 l1.toNatClampNeg)] m (fun v1 m1 => ∃ u1, v1 = some (Value.int u1) ∧ ((¬ u1 = ((-1) : Int32) → (yC (xg xs) d 135 [.ref 18, .int u1] m1 (fun v2 m2 => ∃ u2, v2 = some (Value.int u2) ∧ ((u2 = (8 : Int32) → (yC (xg xs) d 136 [.ref 18, .int u1] m2 (fun v3 m3 => ∃ u3, v3 = some (Value.int u3) ∧ ((¬ u3 = 0 → (yC (xg xs) d 146 [.ref 31, .int u1] m3 (fun v4 m4 => ∃ u4, v4 = some (Value.int u4) ∧ ((u4 = 0 → (x_in l1 16401 = true ∧ yP (xg xs) (d + 1) 158 87 [(0, .ref 31), (1, .int l1), (3, .int u3), (5, .int (l1 + (1 : Int32)))] [] (y_si m4 5 l1.toNatClampNeg u1) Q)) ∧ (¬ u4 = 0 → Q (some (.int u4)) m4))))) ∧ (u3 = 0 → Q (some (.int (22 : Int32))) m3))))) ∧ (¬ u2 = (8 : Int32) → Q (some (.int (21 : Int32))) m2))))) ∧ (u1 = ((-1) : Int32) → Q (some (.int (20 : Int32))) m1)))))) : yP (xg xs) (d + 1) 158 0 [(0, .ref 31), (1, .int l1)] [] m Q := by
  refine y_st rfl rfl rfl rfl rfl (fun _ _ => rfl) ?_
  refine y_gf rfl rfl rfl rfl rfl ?_
  refine y_st rfl rfl rfl rfl rfl (fun _ _ => rfl) ?_
  refine y_gf rfl rfl rfl rfl rfl ?_
  refine y_gf rfl rfl rfl rfl rfl ?_
  refine y_st rfl rfl rfl rfl rfl (fun _ _ => rfl) ?_
  show yP (xg xs) (d + 1) 158 12 [(0, .ref 31), (1, .int l1)] [.int l1, .ref 5, .ref 18] m Q
  refine y_iald rfl rfl rfl (H.1) ?_
  replace H := H.2
  show yP (xg xs) (d + 1) 158 13 [(0, .ref 31), (1, .int l1)] [.int (m.1 5 l1.toNatClampNeg), .ref 18] m Q
  refine y_call rfl rfl rfl rfl rfl (Nat.le_of_ble_eq_true rfl) (Nat.le_of_ble_eq_true rfl) rfl (by decide) H (fun v1 m1 H => ?_)
  obtain ⟨u1, rfl, H⟩ := H
  refine y_st rfl rfl rfl rfl rfl (fun _ _ => rfl) ?_
  refine y_st rfl rfl rfl rfl rfl (fun _ _ => rfl) ?_
  refine y_st rfl rfl rfl rfl rfl (fun _ _ => rfl) ?_
  show yP (xg xs) (d + 1) 158 19 [(2, .int u1), (0, .ref 31), (1, .int l1)] [.int ((-1) : Int32), .int u1] m1 Q
  refine y_ine (t := 25) rfl rfl rfl (fun h => ?_) (fun h => ?_)
  · replace H := H.1 h; clear h
    refine y_st rfl rfl rfl rfl rfl (fun _ _ => rfl) ?_
    refine y_gf rfl rfl rfl rfl rfl ?_
    refine y_st rfl rfl rfl rfl rfl (fun _ _ => rfl) ?_
    show yP (xg xs) (d + 1) 158 30 [(2, .int u1), (0, .ref 31), (1, .int l1)] [.int u1, .ref 18] m1 Q
    refine y_call rfl rfl rfl rfl rfl (Nat.le_of_ble_eq_true rfl) (Nat.le_of_ble_eq_true rfl) rfl (by decide) H (fun v2 m2 H => ?_)
    obtain ⟨u2, rfl, H⟩ := H
    refine y_st rfl rfl rfl rfl rfl (fun _ _ => rfl) ?_
    show yP (xg xs) (d + 1) 158 35 [(2, .int u1), (0, .ref 31), (1, .int l1)] [.int (8 : Int32), .int u2] m2 Q
    refine y_ieq (t := 41) rfl rfl rfl (fun h => ?_) (fun h => ?_)
    · replace H := H.1 h; clear h
      refine y_st rfl rfl rfl rfl rfl (fun _ _ => rfl) ?_
      refine y_gf rfl rfl rfl rfl rfl ?_
      refine y_st rfl rfl rfl rfl rfl (fun _ _ => rfl) ?_
      show yP (xg xs) (d + 1) 158 46 [(2, .int u1), (0, .ref 31), (1, .int l1)] [.int u1, .ref 18] m2 Q
      refine y_call rfl rfl rfl rfl rfl (Nat.le_of_ble_eq_true rfl) (Nat.le_of_ble_eq_true rfl) rfl (by decide) H (fun v3 m3 H => ?_)
      obtain ⟨u3, rfl, H⟩ := H
      refine y_st rfl rfl rfl rfl rfl (fun _ _ => rfl) ?_
      refine y_st rfl rfl rfl rfl rfl (fun _ _ => rfl) ?_
      show yP (xg xs) (d + 1) 158 51 [(3, .int u3), (2, .int u1), (0, .ref 31), (1, .int l1)] [.int u3] m3 Q
      refine y_zne (t := 57) rfl rfl rfl (fun h => ?_) (fun h => ?_)
      · replace H := H.1 h; clear h
        refine y_st rfl rfl rfl rfl rfl (fun _ _ => rfl) ?_
        refine y_st rfl rfl rfl rfl rfl (fun _ _ => rfl) ?_
        show yP (xg xs) (d + 1) 158 59 [(3, .int u3), (2, .int u1), (0, .ref 31), (1, .int l1)] [.int u1, .ref 31] m3 Q
        refine y_call rfl rfl rfl rfl rfl (Nat.le_of_ble_eq_true rfl) (Nat.le_of_ble_eq_true rfl) rfl (by decide) H (fun v4 m4 H => ?_)
        obtain ⟨u4, rfl, H⟩ := H
        refine y_st rfl rfl rfl rfl rfl (fun _ _ => rfl) ?_
        refine y_st rfl rfl rfl rfl rfl (fun _ _ => rfl) ?_
        show yP (xg xs) (d + 1) 158 66 [(4, .int u4), (3, .int u3), (2, .int u1), (0, .ref 31), (1, .int l1)] [.int u4] m4 Q
        refine y_zeq (t := 72) rfl rfl rfl (fun h => ?_) (fun h => ?_)
        · replace H := H.1 h; clear h
          refine y_st rfl rfl rfl rfl rfl (fun _ _ => rfl) ?_
          refine y_gf rfl rfl rfl rfl rfl ?_
          refine y_gf rfl rfl rfl rfl rfl ?_
          refine y_st rfl rfl rfl rfl rfl (fun _ _ => rfl) ?_
          refine y_st rfl rfl rfl rfl rfl (fun _ _ => rfl) ?_
          show yP (xg xs) (d + 1) 158 81 [(4, .int u4), (3, .int u3), (2, .int u1), (0, .ref 31), (1, .int l1)] [.int u1, .int l1, .ref 5] m4 Q
          refine y_iast rfl rfl rfl (H.1) ?_
          replace H := H.2
          refine y_st rfl rfl rfl rfl rfl (fun _ _ => rfl) ?_
          refine y_st rfl rfl rfl rfl rfl (fun _ _ => rfl) ?_
          refine y_st rfl rfl rfl rfl rfl (fun _ _ => rfl) ?_
          refine y_st rfl rfl rfl rfl rfl (fun _ _ => rfl) ?_
          show yP (xg xs) (d + 1) 158 87 [(5, .int (l1 + (1 : Int32))), (4, .int u4), (3, .int u3), (2, .int u1), (0, .ref 31), (1, .int l1)] [] (y_si m4 5 l1.toNatClampNeg u1) Q
          refine y_headS (l2 := [(0, .ref 31), (1, .int l1), (3, .int u3), (5, .int (l1 + (1 : Int32)))]) [4, 5, 2, 0] [0, 1, 3, 5] [5, 4, 3, 2, 0, 1] rfl rfl (by decide) rfl (by decide) ?_
          exact H
        · replace H := H.2 h; clear h
          refine y_st rfl rfl rfl rfl rfl (fun _ _ => rfl) ?_
          show yP (xg xs) (d + 1) 158 71 [(4, .int u4), (3, .int u3), (2, .int u1), (0, .ref 31), (1, .int l1)] [.int u4] m4 Q
          exact y_iret rfl rfl rfl H
      · replace H := H.2 h; clear h
        refine y_st rfl rfl rfl rfl rfl (fun _ _ => rfl) ?_
        show yP (xg xs) (d + 1) 158 56 [(3, .int u3), (2, .int u1), (0, .ref 31), (1, .int l1)] [.int (22 : Int32)] m3 Q
        exact y_iret rfl rfl rfl H
    · replace H := H.2 h; clear h
      refine y_st rfl rfl rfl rfl rfl (fun _ _ => rfl) ?_
      show yP (xg xs) (d + 1) 158 40 [(2, .int u1), (0, .ref 31), (1, .int l1)] [.int (21 : Int32)] m2 Q
      exact y_iret rfl rfl rfl H
  · replace H := H.2 h; clear h
    refine y_st rfl rfl rfl rfl rfl (fun _ _ => rfl) ?_
    show yP (xg xs) (d + 1) 158 24 [(2, .int u1), (0, .ref 31), (1, .int l1)] [.int (20 : Int32)] m1 Q
    exact y_iret rfl rfl rfl H
set_option maxRecDepth 20000 in
/-- CodeMaker.Rules.lookAtFor from 87 on -/
theorem w158_87 (xs : List Int32) (d : Nat) (l1 : Int32) (l3 : Int32) (l5 : Int32) (m : yM) (Q : Option Value → yM → Prop) (H : (x_in l5 16401 = true ∧ (((m.1 3 l5.toNatClampNeg) = (11 : Int32) → yP (xg xs) (d + 1) 158 151 [(0, .ref 31), (1, .int l1)] [] m Q) ∧ (¬ (m.1 3 l5.toNatClampNeg) = (11 : Int32) → (((l1 + (3 : Int32)) < l5 → yP (xg xs) (d + 1) 158 151 [(0, .ref 31), (1, .int l1)] [] m Q) ∧ (¬ (l1 + (3 : Int32)) < l5 → (x_in l5 16401 = true ∧ (((m.1 3 l5.toNatClampNeg) = (31 : Int32) → Q (some (.int (36 : Int32))) m) ∧ (¬ (m.1 3 l5.toNatClampNeg) = (31 : Int32) → (x_in l5 16401 = true ∧ (yC (xg xs) d 128 [.int (m.1 5 l5.toNatClampNeg), .int l3] m (fun v1 m1 => ∃ u1, v1 = some (Value.int u1) ∧ ((¬ u1 = 0 → yP (xg xs) (d + 1) 158 87 [(0, .ref 31), (1, .int l1), (3, .int l3), (5, .int (l5 + (1 : Int32)))] [] m1 Q) ∧ (u1 = 0 → Q (some (.int (36 : Int32))) m1)))))))))))))) : yP (xg xs) (d + 1) 158 87 [(0, .ref 31), (1, .int l1), (3, .int l3), (5, .int l5)] [] m Q := by
  refine y_st rfl rfl rfl rfl rfl (fun _ _ => rfl) ?_
  refine y_gf rfl rfl rfl rfl rfl ?_
  refine y_gf rfl rfl rfl rfl rfl ?_
  refine y_st rfl rfl rfl rfl rfl (fun _ _ => rfl) ?_
  show yP (xg xs) (d + 1) 158 96 [(0, .ref 31), (1, .int l1), (3, .int l3), (5, .int l5)] [.int l5, .ref 3] m Q
  refine y_iald rfl rfl rfl (H.1) ?_
  replace H := H.2
  refine y_st rfl rfl rfl rfl rfl (fun _ _ => rfl) ?_
  show yP (xg xs) (d + 1) 158 99 [(0, .ref 31), (1, .int l1), (3, .int l3), (5, .int l5)] [.int (11 : Int32), .int (m.1 3 l5.toNatClampNeg)] m Q
  refine y_ieq (t := 151) rfl rfl rfl (fun h => ?_) (fun h => ?_)
  · replace H := H.1 h; clear h
    show yP (xg xs) (d + 1) 158 151 [(0, .ref 31), (1, .int l1), (3, .int l3), (5, .int l5)] [] m Q
    refine y_headS (l2 := [(0, .ref 31), (1, .int l1)]) [0, 1] [0, 1] [0, 1, 3, 5] rfl rfl (by decide) rfl (by decide) ?_
    exact H
  · replace H := H.2 h; clear h
    refine y_st rfl rfl rfl rfl rfl (fun _ _ => rfl) ?_
    refine y_st rfl rfl rfl rfl rfl (fun _ _ => rfl) ?_
    refine y_st rfl rfl rfl rfl rfl (fun _ _ => rfl) ?_
    refine y_st rfl rfl rfl rfl rfl (fun _ _ => rfl) ?_
    show yP (xg xs) (d + 1) 158 107 [(0, .ref 31), (1, .int l1), (3, .int l3), (5, .int l5)] [.int (l1 + (3 : Int32)), .int l5] m Q
    refine y_igt (t := 151) rfl rfl rfl (fun h => ?_) (fun h => ?_)
    · replace H := H.1 h; clear h
      show yP (xg xs) (d + 1) 158 151 [(0, .ref 31), (1, .int l1), (3, .int l3), (5, .int l5)] [] m Q
      refine y_headS (l2 := [(0, .ref 31), (1, .int l1)]) [0, 1] [0, 1] [0, 1, 3, 5] rfl rfl (by decide) rfl (by decide) ?_
      exact H
    · replace H := H.2 h; clear h
      refine y_st rfl rfl rfl rfl rfl (fun _ _ => rfl) ?_
      refine y_gf rfl rfl rfl rfl rfl ?_
      refine y_gf rfl rfl rfl rfl rfl ?_
      refine y_st rfl rfl rfl rfl rfl (fun _ _ => rfl) ?_
      show yP (xg xs) (d + 1) 158 119 [(0, .ref 31), (1, .int l1), (3, .int l3), (5, .int l5)] [.int l5, .ref 3] m Q
      refine y_iald rfl rfl rfl (H.1) ?_
      replace H := H.2
      refine y_st rfl rfl rfl rfl rfl (fun _ _ => rfl) ?_
      show yP (xg xs) (d + 1) 158 122 [(0, .ref 31), (1, .int l1), (3, .int l3), (5, .int l5)] [.int (31 : Int32), .int (m.1 3 l5.toNatClampNeg)] m Q
      refine y_ieq (t := 142) rfl rfl rfl (fun h => ?_) (fun h => ?_)
      · replace H := H.1 h; clear h
        refine y_st rfl rfl rfl rfl rfl (fun _ _ => rfl) ?_
        show yP (xg xs) (d + 1) 158 144 [(0, .ref 31), (1, .int l1), (3, .int l3), (5, .int l5)] [.int (36 : Int32)] m Q
        exact y_iret rfl rfl rfl H
      · replace H := H.2 h; clear h
        refine y_st rfl rfl rfl rfl rfl (fun _ _ => rfl) ?_
        refine y_gf rfl rfl rfl rfl rfl ?_
        refine y_gf rfl rfl rfl rfl rfl ?_
        refine y_st rfl rfl rfl rfl rfl (fun _ _ => rfl) ?_
        show yP (xg xs) (d + 1) 158 134 [(0, .ref 31), (1, .int l1), (3, .int l3), (5, .int l5)] [.int l5, .ref 5] m Q
        refine y_iald rfl rfl rfl (H.1) ?_
        replace H := H.2
        refine y_st rfl rfl rfl rfl rfl (fun _ _ => rfl) ?_
        show yP (xg xs) (d + 1) 158 136 [(0, .ref 31), (1, .int l1), (3, .int l3), (5, .int l5)] [.int l3, .int (m.1 5 l5.toNatClampNeg)] m Q
        refine y_call rfl rfl rfl rfl rfl (Nat.le_of_ble_eq_true rfl) (Nat.le_of_ble_eq_true rfl) rfl (by decide) H (fun v1 m1 H => ?_)
        obtain ⟨u1, rfl, H⟩ := H
        show yP (xg xs) (d + 1) 158 139 [(0, .ref 31), (1, .int l1), (3, .int l3), (5, .int l5)] [.int u1] m1 Q
        refine y_zne (t := 145) rfl rfl rfl (fun h => ?_) (fun h => ?_)
        · replace H := H.1 h; clear h
          refine y_st rfl rfl rfl rfl rfl (fun _ _ => rfl) ?_
          refine y_st rfl rfl rfl rfl rfl (fun _ _ => rfl) ?_
          show yP (xg xs) (d + 1) 158 87 [(5, .int (l5 + (1 : Int32))), (0, .ref 31), (1, .int l1), (3, .int l3)] [] m1 Q
          refine y_headS (l2 := [(0, .ref 31), (1, .int l1), (3, .int l3), (5, .int (l5 + (1 : Int32)))]) [1, 2, 3, 0] [0, 1, 3, 5] [5, 0, 1, 3] rfl rfl (by decide) rfl (by decide) ?_
          exact H
        · replace H := H.2 h; clear h
          refine y_st rfl rfl rfl rfl rfl (fun _ _ => rfl) ?_
          show yP (xg xs) (d + 1) 158 144 [(0, .ref 31), (1, .int l1), (3, .int l3), (5, .int l5)] [.int (36 : Int32)] m1 Q
          exact y_iret rfl rfl rfl H
set_option maxRecDepth 20000 in
/-- CodeMaker.Rules.lookAtFor from 151 on -/
theorem w158_151 (xs : List Int32) (d : Nat) (l1 : Int32) (m : yM) (Q : Option Value → yM → Prop) (H : (yC (xg xs) d 159 [.ref 2, .int l1] m (fun v1 m1 => ∃ u1, v1 = some (Value.int u1) ∧ ((u1 = 0 → Q (some (.int (36 : Int32))) m1) ∧ (¬ u1 = 0 → (yC (xg xs) d 160 [.ref 2, .int l1] m1 (fun v2 m2 => ∃ u2, v2 = some (Value.long u2) ∧ (((lg_cmp u2 (1000000 : Int64)) ≤ 0 → Q (some (.int (0 : Int32))) m2) ∧ (¬ (lg_cmp u2 (1000000 : Int64)) ≤ 0 → Q (some (.int (36 : Int32))) m2))))))))) : yP (xg xs) (d + 1) 158 151 [(0, .ref 31), (1, .int l1)] [] m Q := by
  refine y_st rfl rfl rfl rfl rfl (fun _ _ => rfl) ?_
  refine y_gf rfl rfl rfl rfl rfl ?_
  refine y_st rfl rfl rfl rfl rfl (fun _ _ => rfl) ?_
  show yP (xg xs) (d + 1) 158 156 [(0, .ref 31), (1, .int l1)] [.int l1, .ref 2] m Q
  refine y_call rfl rfl rfl rfl rfl (Nat.le_of_ble_eq_true rfl) (Nat.le_of_ble_eq_true rfl) rfl (by decide) H (fun v1 m1 H => ?_)
  obtain ⟨u1, rfl, H⟩ := H
  show yP (xg xs) (d + 1) 158 159 [(0, .ref 31), (1, .int l1)] [.int u1] m1 Q
  refine y_zeq (t := 177) rfl rfl rfl (fun h => ?_) (fun h => ?_)
  · replace H := H.1 h; clear h
    refine y_st rfl rfl rfl rfl rfl (fun _ _ => rfl) ?_
    refine y_st rfl rfl rfl rfl rfl (fun _ _ => rfl) ?_
    show yP (xg xs) (d + 1) 158 183 [(0, .ref 31), (1, .int l1)] [.int (36 : Int32)] m1 Q
    exact y_iret rfl rfl rfl H
  · replace H := H.2 h; clear h
    refine y_st rfl rfl rfl rfl rfl (fun _ _ => rfl) ?_
    refine y_gf rfl rfl rfl rfl rfl ?_
    refine y_st rfl rfl rfl rfl rfl (fun _ _ => rfl) ?_
    show yP (xg xs) (d + 1) 158 167 [(0, .ref 31), (1, .int l1)] [.int l1, .ref 2] m1 Q
    refine y_call rfl rfl rfl rfl rfl (Nat.le_of_ble_eq_true rfl) (Nat.le_of_ble_eq_true rfl) rfl (by decide) H (fun v2 m2 H => ?_)
    obtain ⟨u2, rfl, H⟩ := H
    refine y_st rfl rfl rfl rfl rfl (fun _ _ => rfl) ?_
    refine y_st rfl rfl rfl rfl rfl (fun _ _ => rfl) ?_
    show yP (xg xs) (d + 1) 158 174 [(0, .ref 31), (1, .int l1)] [.int (lg_cmp u2 (1000000 : Int64))] m2 Q
    refine y_zle (t := 182) rfl rfl rfl (fun h => ?_) (fun h => ?_)
    · replace H := H.1 h; clear h
      refine y_st rfl rfl rfl rfl rfl (fun _ _ => rfl) ?_
      show yP (xg xs) (d + 1) 158 183 [(0, .ref 31), (1, .int l1)] [.int (0 : Int32)] m2 Q
      exact y_iret rfl rfl rfl H
    · replace H := H.2 h; clear h
      refine y_st rfl rfl rfl rfl rfl (fun _ _ => rfl) ?_
      refine y_st rfl rfl rfl rfl rfl (fun _ _ => rfl) ?_
      show yP (xg xs) (d + 1) 158 183 [(0, .ref 31), (1, .int l1)] [.int (36 : Int32)] m2 Q
      exact y_iret rfl rfl rfl H
set_option maxRecDepth 20000 in
/-- CodeMaker.Tree.stepOf from 0 on -/
theorem w159_0 (xs : List Int32) (d : Nat) (l1 : Int32) (m : yM) (Q : Option Value → yM → Prop) (H : (x_in (l1 + (3 : Int32)) 16401 = true ∧ ((¬ (m.1 3 ((l1 + (3 : Int32)).toNatClampNeg)) = (11 : Int32) → (x_in (l1 + (3 : Int32)) 16401 = true ∧ Q (some (.int (m.1 5 ((l1 + (3 : Int32)).toNatClampNeg)))) m)) ∧ ((m.1 3 ((l1 + (3 : Int32)).toNatClampNeg)) = (11 : Int32) → Q (some (.int (1 : Int32))) m)))) : yP (xg xs) (d + 1) 159 0 [(0, .ref 2), (1, .int l1)] [] m Q := by
  refine y_st rfl rfl rfl rfl rfl (fun _ _ => rfl) ?_
  refine y_gf rfl rfl rfl rfl rfl ?_
  refine y_st rfl rfl rfl rfl rfl (fun _ _ => rfl) ?_
  refine y_st rfl rfl rfl rfl rfl (fun _ _ => rfl) ?_
  refine y_st rfl rfl rfl rfl rfl (fun _ _ => rfl) ?_
  show yP (xg xs) (d + 1) 159 7 [(0, .ref 2), (1, .int l1)] [.int (l1 + (3 : Int32)), .ref 3] m Q
  refine y_iald rfl rfl rfl (H.1) ?_
  replace H := H.2
  refine y_st rfl rfl rfl rfl rfl (fun _ _ => rfl) ?_
  show yP (xg xs) (d + 1) 159 10 [(0, .ref 2), (1, .int l1)] [.int (11 : Int32), .int (m.1 3 ((l1 + (3 : Int32)).toNatClampNeg))] m Q
  refine y_ine (t := 17) rfl rfl rfl (fun h => ?_) (fun h => ?_)
  · replace H := H.1 h; clear h
    refine y_st rfl rfl rfl rfl rfl (fun _ _ => rfl) ?_
    refine y_gf rfl rfl rfl rfl rfl ?_
    refine y_st rfl rfl rfl rfl rfl (fun _ _ => rfl) ?_
    refine y_st rfl rfl rfl rfl rfl (fun _ _ => rfl) ?_
    refine y_st rfl rfl rfl rfl rfl (fun _ _ => rfl) ?_
    show yP (xg xs) (d + 1) 159 24 [(0, .ref 2), (1, .int l1)] [.int (l1 + (3 : Int32)), .ref 5] m Q
    refine y_iald rfl rfl rfl (H.1) ?_
    replace H := H.2
    show yP (xg xs) (d + 1) 159 25 [(0, .ref 2), (1, .int l1)] [.int (m.1 5 ((l1 + (3 : Int32)).toNatClampNeg))] m Q
    exact y_iret rfl rfl rfl H
  · replace H := H.2 h; clear h
    refine y_st rfl rfl rfl rfl rfl (fun _ _ => rfl) ?_
    refine y_st rfl rfl rfl rfl rfl (fun _ _ => rfl) ?_
    show yP (xg xs) (d + 1) 159 25 [(0, .ref 2), (1, .int l1)] [.int (1 : Int32)] m Q
    exact y_iret rfl rfl rfl H
set_option maxRecDepth 20000 in
/-- CodeMaker.Tree.timesOf from 0 on -/
theorem w160_0 (xs : List Int32) (d : Nat) (l1 : Int32) (m : yM) (Q : Option Value → yM → Prop) (H : (yC (xg xs) d 159 [.ref 2, .int l1] m (fun v1 m1 => ∃ u1, v1 = some (Value.int u1) ∧ (x_in (l1 + (2 : Int32)) 16401 = true ∧ (x_in (l1 + (1 : Int32)) 16401 = true ∧ (((lg_cmp u1.toInt64 (0 : Int64)) = 0 → Q (some (.long (0 : Int64))) m1) ∧ (¬ (lg_cmp u1.toInt64 (0 : Int64)) = 0 → (((lg_cmp (((m1.1 5 ((l1 + (2 : Int32)).toNatClampNeg)).toInt64) - ((m1.1 5 ((l1 + (1 : Int32)).toNatClampNeg)).toInt64)) (0 : Int64)) = 0 → (¬ u1.toInt64 = 0 ∧ Q (some (.long (((((m1.1 5 ((l1 + (2 : Int32)).toNatClampNeg)).toInt64) - ((m1.1 5 ((l1 + (1 : Int32)).toNatClampNeg)).toInt64)) / u1.toInt64) + (1 : Int64)))) m1)) ∧ (¬ (lg_cmp (((m1.1 5 ((l1 + (2 : Int32)).toNatClampNeg)).toInt64) - ((m1.1 5 ((l1 + (1 : Int32)).toNatClampNeg)).toInt64)) (0 : Int64)) = 0 → ((0 ≤ (lg_cmp (((m1.1 5 ((l1 + (2 : Int32)).toNatClampNeg)).toInt64) - ((m1.1 5 ((l1 + (1 : Int32)).toNatClampNeg)).toInt64)) (0 : Int64)) → yP (xg xs) (d + 1) 160 53 [(2, .long u1.toInt64), (4, .long (((m1.1 5 ((l1 + (2 : Int32)).toNatClampNeg)).toInt64) - ((m1.1 5 ((l1 + (1 : Int32)).toNatClampNeg)).toInt64)))] [.int (0 : Int32)] m1 Q) ∧ (¬ 0 ≤ (lg_cmp (((m1.1 5 ((l1 + (2 : Int32)).toNatClampNeg)).toInt64) - ((m1.1 5 ((l1 + (1 : Int32)).toNatClampNeg)).toInt64)) (0 : Int64)) → yP (xg xs) (d + 1) 160 53 [(2, .long u1.toInt64), (4, .long (((m1.1 5 ((l1 + (2 : Int32)).toNatClampNeg)).toInt64) - ((m1.1 5 ((l1 + (1 : Int32)).toNatClampNeg)).toInt64)))] [.int (1 : Int32)] m1 Q))))))))))) : yP (xg xs) (d + 1) 160 0 [(0, .ref 2), (1, .int l1)] [] m Q := by
  refine y_st rfl rfl rfl rfl rfl (fun _ _ => rfl) ?_
  refine y_st rfl rfl rfl rfl rfl (fun _ _ => rfl) ?_
  show yP (xg xs) (d + 1) 160 2 [(0, .ref 2), (1, .int l1)] [.int l1, .ref 2] m Q
  refine y_call rfl rfl rfl rfl rfl (Nat.le_of_ble_eq_true rfl) (Nat.le_of_ble_eq_true rfl) rfl (by decide) H (fun v1 m1 H => ?_)
  obtain ⟨u1, rfl, H⟩ := H
  refine y_st rfl rfl rfl rfl rfl (fun _ _ => rfl) ?_
  refine y_st rfl rfl rfl rfl rfl (fun _ _ => rfl) ?_
  refine y_st rfl rfl rfl rfl rfl (fun _ _ => rfl) ?_
  refine y_gf rfl rfl rfl rfl rfl ?_
  refine y_st rfl rfl rfl rfl rfl (fun _ _ => rfl) ?_
  refine y_st rfl rfl rfl rfl rfl (fun _ _ => rfl) ?_
  refine y_st rfl rfl rfl rfl rfl (fun _ _ => rfl) ?_
  show yP (xg xs) (d + 1) 160 14 [(2, .long u1.toInt64), (0, .ref 2), (1, .int l1)] [.int (l1 + (2 : Int32)), .ref 5] m1 Q
  refine y_iald rfl rfl rfl (H.1) ?_
  replace H := H.2
  refine y_st rfl rfl rfl rfl rfl (fun _ _ => rfl) ?_
  refine y_st rfl rfl rfl rfl rfl (fun _ _ => rfl) ?_
  refine y_gf rfl rfl rfl rfl rfl ?_
  refine y_st rfl rfl rfl rfl rfl (fun _ _ => rfl) ?_
  refine y_st rfl rfl rfl rfl rfl (fun _ _ => rfl) ?_
  refine y_st rfl rfl rfl rfl rfl (fun _ _ => rfl) ?_
  show yP (xg xs) (d + 1) 160 23 [(2, .long u1.toInt64), (0, .ref 2), (1, .int l1)] [.int (l1 + (1 : Int32)), .ref 5, .long ((m1.1 5 ((l1 + (2 : Int32)).toNatClampNeg)).toInt64)] m1 Q
  refine y_iald rfl rfl rfl (H.1) ?_
  replace H := H.2
  refine y_st rfl rfl rfl rfl rfl (fun _ _ => rfl) ?_
  refine y_st rfl rfl rfl rfl rfl (fun _ _ => rfl) ?_
  refine y_st rfl rfl rfl rfl rfl (fun _ _ => rfl) ?_
  refine y_st rfl rfl rfl rfl rfl (fun _ _ => rfl) ?_
  refine y_st rfl rfl rfl rfl rfl (fun _ _ => rfl) ?_
  refine y_st rfl rfl rfl rfl rfl (fun _ _ => rfl) ?_
  show yP (xg xs) (d + 1) 160 31 [(4, .long (((m1.1 5 ((l1 + (2 : Int32)).toNatClampNeg)).toInt64) - ((m1.1 5 ((l1 + (1 : Int32)).toNatClampNeg)).toInt64))), (2, .long u1.toInt64), (0, .ref 2), (1, .int l1)] [.int (lg_cmp u1.toInt64 (0 : Int64))] m1 Q
  refine y_zeq (t := 67) rfl rfl rfl (fun h => ?_) (fun h => ?_)
  · replace H := H.1 h; clear h
    refine y_st rfl rfl rfl rfl rfl (fun _ _ => rfl) ?_
    show yP (xg xs) (d + 1) 160 68 [(4, .long (((m1.1 5 ((l1 + (2 : Int32)).toNatClampNeg)).toInt64) - ((m1.1 5 ((l1 + (1 : Int32)).toNatClampNeg)).toInt64))), (2, .long u1.toInt64), (0, .ref 2), (1, .int l1)] [.long (0 : Int64)] m1 Q
    exact y_ret rfl rfl rfl rfl H
  · replace H := H.2 h; clear h
    refine y_st rfl rfl rfl rfl rfl (fun _ _ => rfl) ?_
    refine y_st rfl rfl rfl rfl rfl (fun _ _ => rfl) ?_
    refine y_st rfl rfl rfl rfl rfl (fun _ _ => rfl) ?_
    show yP (xg xs) (d + 1) 160 38 [(4, .long (((m1.1 5 ((l1 + (2 : Int32)).toNatClampNeg)).toInt64) - ((m1.1 5 ((l1 + (1 : Int32)).toNatClampNeg)).toInt64))), (2, .long u1.toInt64), (0, .ref 2), (1, .int l1)] [.int (lg_cmp (((m1.1 5 ((l1 + (2 : Int32)).toNatClampNeg)).toInt64) - ((m1.1 5 ((l1 + (1 : Int32)).toNatClampNeg)).toInt64)) (0 : Int64))] m1 Q
    refine y_zeq (t := 69) rfl rfl rfl (fun h => ?_) (fun h => ?_)
    · replace H := H.1 h; clear h
      refine y_st rfl rfl rfl rfl rfl (fun _ _ => rfl) ?_
      refine y_st rfl rfl rfl rfl rfl (fun _ _ => rfl) ?_
      show yP (xg xs) (d + 1) 160 72 [(4, .long (((m1.1 5 ((l1 + (2 : Int32)).toNatClampNeg)).toInt64) - ((m1.1 5 ((l1 + (1 : Int32)).toNatClampNeg)).toInt64))), (2, .long u1.toInt64), (0, .ref 2), (1, .int l1)] [.long u1.toInt64, .long (((m1.1 5 ((l1 + (2 : Int32)).toNatClampNeg)).toInt64) - ((m1.1 5 ((l1 + (1 : Int32)).toNatClampNeg)).toInt64))] m1 Q
      refine y_ldiv rfl rfl H.1 ?_
      replace H := H.2
      refine y_st rfl rfl rfl rfl rfl (fun _ _ => rfl) ?_
      refine y_st rfl rfl rfl rfl rfl (fun _ _ => rfl) ?_
      show yP (xg xs) (d + 1) 160 75 [(4, .long (((m1.1 5 ((l1 + (2 : Int32)).toNatClampNeg)).toInt64) - ((m1.1 5 ((l1 + (1 : Int32)).toNatClampNeg)).toInt64))), (2, .long u1.toInt64), (0, .ref 2), (1, .int l1)] [.long (((((m1.1 5 ((l1 + (2 : Int32)).toNatClampNeg)).toInt64) - ((m1.1 5 ((l1 + (1 : Int32)).toNatClampNeg)).toInt64)) / u1.toInt64) + (1 : Int64))] m1 Q
      exact y_ret rfl rfl rfl rfl H
    · replace H := H.2 h; clear h
      refine y_st rfl rfl rfl rfl rfl (fun _ _ => rfl) ?_
      refine y_st rfl rfl rfl rfl rfl (fun _ _ => rfl) ?_
      refine y_st rfl rfl rfl rfl rfl (fun _ _ => rfl) ?_
      show yP (xg xs) (d + 1) 160 45 [(4, .long (((m1.1 5 ((l1 + (2 : Int32)).toNatClampNeg)).toInt64) - ((m1.1 5 ((l1 + (1 : Int32)).toNatClampNeg)).toInt64))), (2, .long u1.toInt64), (0, .ref 2), (1, .int l1)] [.int (lg_cmp (((m1.1 5 ((l1 + (2 : Int32)).toNatClampNeg)).toInt64) - ((m1.1 5 ((l1 + (1 : Int32)).toNatClampNeg)).toInt64)) (0 : Int64))] m1 Q
      refine y_zge (t := 52) rfl rfl rfl (fun h => ?_) (fun h => ?_)
      · replace H := H.1 h; clear h
        refine y_st rfl rfl rfl rfl rfl (fun _ _ => rfl) ?_
        show yP (xg xs) (d + 1) 160 53 [(4, .long (((m1.1 5 ((l1 + (2 : Int32)).toNatClampNeg)).toInt64) - ((m1.1 5 ((l1 + (1 : Int32)).toNatClampNeg)).toInt64))), (2, .long u1.toInt64), (0, .ref 2), (1, .int l1)] [.int (0 : Int32)] m1 Q
        refine y_headS (l2 := [(2, .long u1.toInt64), (4, .long (((m1.1 5 ((l1 + (2 : Int32)).toNatClampNeg)).toInt64) - ((m1.1 5 ((l1 + (1 : Int32)).toNatClampNeg)).toInt64)))]) [1, 0] [2, 4] [4, 2, 0, 1] rfl rfl (by decide) rfl (by decide) ?_
        exact H
      · replace H := H.2 h; clear h
        refine y_st rfl rfl rfl rfl rfl (fun _ _ => rfl) ?_
        refine y_st rfl rfl rfl rfl rfl (fun _ _ => rfl) ?_
        show yP (xg xs) (d + 1) 160 53 [(4, .long (((m1.1 5 ((l1 + (2 : Int32)).toNatClampNeg)).toInt64) - ((m1.1 5 ((l1 + (1 : Int32)).toNatClampNeg)).toInt64))), (2, .long u1.toInt64), (0, .ref 2), (1, .int l1)] [.int (1 : Int32)] m1 Q
        refine y_headS (l2 := [(2, .long u1.toInt64), (4, .long (((m1.1 5 ((l1 + (2 : Int32)).toNatClampNeg)).toInt64) - ((m1.1 5 ((l1 + (1 : Int32)).toNatClampNeg)).toInt64)))]) [1, 0] [2, 4] [4, 2, 0, 1] rfl rfl (by decide) rfl (by decide) ?_
        exact H
set_option maxRecDepth 20000 in
/-- CodeMaker.Tree.timesOf from 53 on -/
theorem w160_53 (xs : List Int32) (d : Nat) (l2 : Int64) (l4 : Int64) (s0 : Int32) (m : yM) (Q : Option Value → yM → Prop) (H : ((0 ≤ (lg_cmp l2 (0 : Int64)) → yP (xg xs) (d + 1) 160 64 [(2, .long l2), (4, .long l4)] [.int (0 : Int32), .int s0] m Q) ∧ (¬ 0 ≤ (lg_cmp l2 (0 : Int64)) → yP (xg xs) (d + 1) 160 64 [(2, .long l2), (4, .long l4)] [.int (1 : Int32), .int s0] m Q))) : yP (xg xs) (d + 1) 160 53 [(2, .long l2), (4, .long l4)] [.int s0] m Q := by
  refine y_st rfl rfl rfl rfl rfl (fun _ _ => rfl) ?_
  refine y_st rfl rfl rfl rfl rfl (fun _ _ => rfl) ?_
  refine y_st rfl rfl rfl rfl rfl (fun _ _ => rfl) ?_
  show yP (xg xs) (d + 1) 160 56 [(2, .long l2), (4, .long l4)] [.int (lg_cmp l2 (0 : Int64)), .int s0] m Q
  refine y_zge (t := 63) rfl rfl rfl (fun h => ?_) (fun h => ?_)
  · replace H := H.1 h; clear h
    refine y_st rfl rfl rfl rfl rfl (fun _ _ => rfl) ?_
    show yP (xg xs) (d + 1) 160 64 [(2, .long l2), (4, .long l4)] [.int (0 : Int32), .int s0] m Q
    exact H
  · replace H := H.2 h; clear h
    refine y_st rfl rfl rfl rfl rfl (fun _ _ => rfl) ?_
    refine y_st rfl rfl rfl rfl rfl (fun _ _ => rfl) ?_
    show yP (xg xs) (d + 1) 160 64 [(2, .long l2), (4, .long l4)] [.int (1 : Int32), .int s0] m Q
    exact H
set_option maxRecDepth 20000 in
/-- CodeMaker.Tree.timesOf from 64 on -/
theorem w160_64 (xs : List Int32) (d : Nat) (l2 : Int64) (l4 : Int64) (s0 : Int32) (s1 : Int32) (m : yM) (Q : Option Value → yM → Prop) (H : ((s0 = s1 → (¬ l2 = 0 ∧ Q (some (.long ((l4 / l2) + (1 : Int64)))) m)) ∧ (¬ s0 = s1 → Q (some (.long (0 : Int64))) m))) : yP (xg xs) (d + 1) 160 64 [(2, .long l2), (4, .long l4)] [.int s1, .int s0] m Q := by
  show yP (xg xs) (d + 1) 160 64 [(2, .long l2), (4, .long l4)] [.int s1, .int s0] m Q
  refine y_ieq (t := 69) rfl rfl rfl (fun h => ?_) (fun h => ?_)
  · replace H := H.1 h; clear h
    refine y_st rfl rfl rfl rfl rfl (fun _ _ => rfl) ?_
    refine y_st rfl rfl rfl rfl rfl (fun _ _ => rfl) ?_
    show yP (xg xs) (d + 1) 160 72 [(2, .long l2), (4, .long l4)] [.long l2, .long l4] m Q
    refine y_ldiv rfl rfl H.1 ?_
    replace H := H.2
    refine y_st rfl rfl rfl rfl rfl (fun _ _ => rfl) ?_
    refine y_st rfl rfl rfl rfl rfl (fun _ _ => rfl) ?_
    show yP (xg xs) (d + 1) 160 75 [(2, .long l2), (4, .long l4)] [.long ((l4 / l2) + (1 : Int64))] m Q
    exact y_ret rfl rfl rfl rfl H
  · replace H := H.2 h; clear h
    refine y_st rfl rfl rfl rfl rfl (fun _ _ => rfl) ?_
    show yP (xg xs) (d + 1) 160 68 [(2, .long l2), (4, .long l4)] [.long (0 : Int64)] m Q
    exact y_ret rfl rfl rfl rfl H
set_option maxRecDepth 20000 in
/-- CodeMaker.Rules.isInLoop from 0 on -/
theorem w161_0 (xs : List Int32) (d : Nat) (m : yM) (Q : Option Value → yM → Prop) (H : yP (xg xs) (d + 1) 161 2 [(0, .ref 31), (1, .int (0 : Int32))] [] m Q) : yP (xg xs) (d + 1) 161 0 [(0, .ref 31)] [] m Q := by
  refine y_st rfl rfl rfl rfl rfl (fun _ _ => rfl) ?_
  refine y_st rfl rfl rfl rfl rfl (fun _ _ => rfl) ?_
  show yP (xg xs) (d + 1) 161 2 [(1, .int (0 : Int32)), (0, .ref 31)] [] m Q
  refine y_headS (l2 := [(0, .ref 31), (1, .int (0 : Int32))]) [1, 0] [0, 1] [1, 0] rfl rfl (by decide) rfl (by decide) ?_
  exact H
set_option maxRecDepth 20000 in
/-- CodeMaker.Rules.isInLoop from 2 on -/
theorem w161_2 (xs : List Int32) (d : Nat) (l1 : Int32) (m : yM) (Q : Option Value → yM → Prop) (H : (((m.1 31 6) ≤ l1 → Q (some (.int (0 : Int32))) m) ∧ (¬ (m.1 31 6) ≤ l1 → (x_in l1 256 = true ∧ (x_in (m.1 32 l1.toNatClampNeg) 16401 = true ∧ ((¬ (m.1 3 ((m.1 32 l1.toNatClampNeg).toNatClampNeg)) = (19 : Int32) → yP (xg xs) (d + 1) 161 2 [(0, .ref 31), (1, .int (l1 + (1 : Int32)))] [] m Q) ∧ ((m.1 3 ((m.1 32 l1.toNatClampNeg).toNatClampNeg)) = (19 : Int32) → Q (some (.int (1 : Int32))) m))))))) : yP (xg xs) (d + 1) 161 2 [(0, .ref 31), (1, .int l1)] [] m Q := by
  refine y_st rfl rfl rfl rfl rfl (fun _ _ => rfl) ?_
  refine y_st rfl rfl rfl rfl rfl (fun _ _ => rfl) ?_
  refine y_gf rfl rfl rfl rfl rfl ?_
  show yP (xg xs) (d + 1) 161 7 [(0, .ref 31), (1, .int l1)] [.int (m.1 31 6), .int l1] m Q
  refine y_ige (t := 37) rfl rfl rfl (fun h => ?_) (fun h => ?_)
  · replace H := H.1 h; clear h
    refine y_st rfl rfl rfl rfl rfl (fun _ _ => rfl) ?_
    show yP (xg xs) (d + 1) 161 38 [(0, .ref 31), (1, .int l1)] [.int (0 : Int32)] m Q
    exact y_zret rfl rfl rfl (by decide) H
  · replace H := H.2 h; clear h
    refine y_st rfl rfl rfl rfl rfl (fun _ _ => rfl) ?_
    refine y_gf rfl rfl rfl rfl rfl ?_
    refine y_gf rfl rfl rfl rfl rfl ?_
    refine y_st rfl rfl rfl rfl rfl (fun _ _ => rfl) ?_
    refine y_gf rfl rfl rfl rfl rfl ?_
    refine y_st rfl rfl rfl rfl rfl (fun _ _ => rfl) ?_
    show yP (xg xs) (d + 1) 161 22 [(0, .ref 31), (1, .int l1)] [.int l1, .ref 32, .ref 3] m Q
    refine y_iald rfl rfl rfl (H.1) ?_
    replace H := H.2
    show yP (xg xs) (d + 1) 161 23 [(0, .ref 31), (1, .int l1)] [.int (m.1 32 l1.toNatClampNeg), .ref 3] m Q
    refine y_iald rfl rfl rfl (H.1) ?_
    replace H := H.2
    refine y_st rfl rfl rfl rfl rfl (fun _ _ => rfl) ?_
    show yP (xg xs) (d + 1) 161 26 [(0, .ref 31), (1, .int l1)] [.int (19 : Int32), .int (m.1 3 ((m.1 32 l1.toNatClampNeg).toNatClampNeg))] m Q
    refine y_ine (t := 31) rfl rfl rfl (fun h => ?_) (fun h => ?_)
    · replace H := H.1 h; clear h
      refine y_st rfl rfl rfl rfl rfl (fun _ _ => rfl) ?_
      refine y_st rfl rfl rfl rfl rfl (fun _ _ => rfl) ?_
      show yP (xg xs) (d + 1) 161 2 [(1, .int (l1 + (1 : Int32))), (0, .ref 31)] [] m Q
      refine y_headS (l2 := [(0, .ref 31), (1, .int (l1 + (1 : Int32)))]) [1, 0] [0, 1] [1, 0] rfl rfl (by decide) rfl (by decide) ?_
      exact H
    · replace H := H.2 h; clear h
      refine y_st rfl rfl rfl rfl rfl (fun _ _ => rfl) ?_
      show yP (xg xs) (d + 1) 161 30 [(0, .ref 31), (1, .int l1)] [.int (1 : Int32)] m Q
      exact y_zret rfl rfl rfl (by decide) H
set_option maxRecDepth 20000 in
/-- CodeMaker.Expressions.look from 0 on -/
theorem w162_0 (xs : List Int32) (d : Nat) (l1 : Int32) (m : yM) (Q : Option Value → yM → Prop) (H : (x_in l1 16401 = true ∧ (((m.1 3 l1.toNatClampNeg) = (30 : Int32) → (x_in l1 16401 = true ∧ (((32767 : Int32) < (m.1 5 l1.toNatClampNeg) → yP (xg xs) (d + 1) 162 80 [] [.int (2 : Int32), .int l1, .ref 6] m Q) ∧ (¬ (32767 : Int32) < (m.1 5 l1.toNatClampNeg) → yP (xg xs) (d + 1) 162 80 [] [.int (1 : Int32), .int l1, .ref 6] m Q)))) ∧ ((m.1 3 l1.toNatClampNeg) = (32 : Int32) → (yC (xg xs) d 163 [.ref 34, .int l1] m (fun v1 m1 => ∃ u1, v1 = some (Value.int u1) ∧ Q (some (.int u1)) m1))) ∧ ((m.1 3 l1.toNatClampNeg) = (33 : Int32) → (yC (xg xs) d 164 [.ref 34, .int l1] m (fun v2 m2 => ∃ u2, v2 = some (Value.int u2) ∧ Q (some (.int u2)) m2))) ∧ ((m.1 3 l1.toNatClampNeg) = (34 : Int32) → (yC (xg xs) d 165 [.ref 34, .int l1] m (fun v3 m3 => ∃ u3, v3 = some (Value.int u3) ∧ Q (some (.int u3)) m3))) ∧ ((m.1 3 l1.toNatClampNeg) = (35 : Int32) → (yC (xg xs) d 180 [.ref 34, .int l1] m (fun v4 m4 => ∃ u4, v4 = some (Value.int u4) ∧ Q (some (.int u4)) m4))) ∧ ((m.1 3 l1.toNatClampNeg) = (36 : Int32) → (yC (xg xs) d 182 [.ref 34, .int l1] m (fun v5 m5 => ∃ u5, v5 = some (Value.int u5) ∧ Q (some (.int u5)) m5))) ∧ (¬ (m.1 3 l1.toNatClampNeg) = (30 : Int32) → ¬ (m.1 3 l1.toNatClampNeg) = (32 : Int32) → ¬ (m.1 3 l1.toNatClampNeg) = (33 : Int32) → ¬ (m.1 3 l1.toNatClampNeg) = (34 : Int32) → ¬ (m.1 3 l1.toNatClampNeg) = (35 : Int32) → ¬ (m.1 3 l1.toNatClampNeg) = (36 : Int32) → Q (some (.int (0 : Int32))) m)))) : yP (xg xs) (d + 1) 162 0 [(0, .ref 34), (1, .int l1)] [] m Q := by
  refine y_st rfl rfl rfl rfl rfl (fun _ _ => rfl) ?_
  refine y_gf rfl rfl rfl rfl rfl ?_
  refine y_gf rfl rfl rfl rfl rfl ?_
  refine y_st rfl rfl rfl rfl rfl (fun _ _ => rfl) ?_
  show yP (xg xs) (d + 1) 162 8 [(0, .ref 34), (1, .int l1)] [.int l1, .ref 3] m Q
  refine y_iald rfl rfl rfl (H.1) ?_
  replace H := H.2
  show yP (xg xs) (d + 1) 162 9 [(0, .ref 34), (1, .int l1)] [.int (m.1 3 l1.toNatClampNeg)] m Q
  by_cases h30 : m.1 3 l1.toNatClampNeg = (30 : Int32)
  · replace H := H.1 h30
    refine y_tsw (t := 52) rfl rfl (by rw [h30]; rfl) ?_
    clear h30
    refine y_st rfl rfl rfl rfl rfl (fun _ _ => rfl) ?_
    refine y_gf rfl rfl rfl rfl rfl ?_
    refine y_gf rfl rfl rfl rfl rfl ?_
    refine y_st rfl rfl rfl rfl rfl (fun _ _ => rfl) ?_
    refine y_st rfl rfl rfl rfl rfl (fun _ _ => rfl) ?_
    refine y_gf rfl rfl rfl rfl rfl ?_
    refine y_gf rfl rfl rfl rfl rfl ?_
    refine y_st rfl rfl rfl rfl rfl (fun _ _ => rfl) ?_
    show yP (xg xs) (d + 1) 162 68 [(0, .ref 34), (1, .int l1)] [.int l1, .ref 5, .int l1, .ref 6] m Q
    refine y_iald rfl rfl rfl (H.1) ?_
    replace H := H.2
    refine y_st rfl rfl rfl rfl rfl (fun _ _ => rfl) ?_
    show yP (xg xs) (d + 1) 162 72 [(0, .ref 34), (1, .int l1)] [.int (32767 : Int32), .int (m.1 5 l1.toNatClampNeg), .int l1, .ref 6] m Q
    refine y_igt (t := 79) rfl rfl rfl (fun h => ?_) (fun h => ?_)
    · replace H := H.1 h; clear h
      refine y_st rfl rfl rfl rfl rfl (fun _ _ => rfl) ?_
      show yP (xg xs) (d + 1) 162 80 [(0, .ref 34), (1, .int l1)] [.int (2 : Int32), .int l1, .ref 6] m Q
      refine y_headS (l2 := []) [] [] [0, 1] rfl rfl (by decide) rfl (by decide) ?_
      exact H
    · replace H := H.2 h; clear h
      refine y_st rfl rfl rfl rfl rfl (fun _ _ => rfl) ?_
      refine y_st rfl rfl rfl rfl rfl (fun _ _ => rfl) ?_
      show yP (xg xs) (d + 1) 162 80 [(0, .ref 34), (1, .int l1)] [.int (1 : Int32), .int l1, .ref 6] m Q
      refine y_headS (l2 := []) [] [] [0, 1] rfl rfl (by decide) rfl (by decide) ?_
      exact H
  replace H := H.2
  by_cases h32 : m.1 3 l1.toNatClampNeg = (32 : Int32)
  · replace H := H.1 h32
    refine y_tsw (t := 83) rfl rfl (by rw [h32]; rfl) ?_
    clear h32 h30
    refine y_st rfl rfl rfl rfl rfl (fun _ _ => rfl) ?_
    refine y_st rfl rfl rfl rfl rfl (fun _ _ => rfl) ?_
    show yP (xg xs) (d + 1) 162 85 [(0, .ref 34), (1, .int l1)] [.int l1, .ref 34] m Q
    refine y_call rfl rfl rfl rfl rfl (Nat.le_of_ble_eq_true rfl) (Nat.le_of_ble_eq_true rfl) rfl (by decide) H (fun v1 m1 H => ?_)
    obtain ⟨u1, rfl, H⟩ := H
    show yP (xg xs) (d + 1) 162 88 [(0, .ref 34), (1, .int l1)] [.int u1] m1 Q
    exact y_iret rfl rfl rfl H
  replace H := H.2
  by_cases h33 : m.1 3 l1.toNatClampNeg = (33 : Int32)
  · replace H := H.1 h33
    refine y_tsw (t := 89) rfl rfl (by rw [h33]; rfl) ?_
    clear h33 h32 h30
    refine y_st rfl rfl rfl rfl rfl (fun _ _ => rfl) ?_
    refine y_st rfl rfl rfl rfl rfl (fun _ _ => rfl) ?_
    show yP (xg xs) (d + 1) 162 91 [(0, .ref 34), (1, .int l1)] [.int l1, .ref 34] m Q
    refine y_call rfl rfl rfl rfl rfl (Nat.le_of_ble_eq_true rfl) (Nat.le_of_ble_eq_true rfl) rfl (by decide) H (fun v2 m2 H => ?_)
    obtain ⟨u2, rfl, H⟩ := H
    show yP (xg xs) (d + 1) 162 94 [(0, .ref 34), (1, .int l1)] [.int u2] m2 Q
    exact y_iret rfl rfl rfl H
  replace H := H.2
  by_cases h34 : m.1 3 l1.toNatClampNeg = (34 : Int32)
  · replace H := H.1 h34
    refine y_tsw (t := 95) rfl rfl (by rw [h34]; rfl) ?_
    clear h34 h33 h32 h30
    refine y_st rfl rfl rfl rfl rfl (fun _ _ => rfl) ?_
    refine y_st rfl rfl rfl rfl rfl (fun _ _ => rfl) ?_
    show yP (xg xs) (d + 1) 162 97 [(0, .ref 34), (1, .int l1)] [.int l1, .ref 34] m Q
    refine y_call rfl rfl rfl rfl rfl (Nat.le_of_ble_eq_true rfl) (Nat.le_of_ble_eq_true rfl) rfl (by decide) H (fun v3 m3 H => ?_)
    obtain ⟨u3, rfl, H⟩ := H
    show yP (xg xs) (d + 1) 162 100 [(0, .ref 34), (1, .int l1)] [.int u3] m3 Q
    exact y_iret rfl rfl rfl H
  replace H := H.2
  by_cases h35 : m.1 3 l1.toNatClampNeg = (35 : Int32)
  · replace H := H.1 h35
    refine y_tsw (t := 101) rfl rfl (by rw [h35]; rfl) ?_
    clear h35 h34 h33 h32 h30
    refine y_st rfl rfl rfl rfl rfl (fun _ _ => rfl) ?_
    refine y_st rfl rfl rfl rfl rfl (fun _ _ => rfl) ?_
    show yP (xg xs) (d + 1) 162 103 [(0, .ref 34), (1, .int l1)] [.int l1, .ref 34] m Q
    refine y_call rfl rfl rfl rfl rfl (Nat.le_of_ble_eq_true rfl) (Nat.le_of_ble_eq_true rfl) rfl (by decide) H (fun v4 m4 H => ?_)
    obtain ⟨u4, rfl, H⟩ := H
    show yP (xg xs) (d + 1) 162 106 [(0, .ref 34), (1, .int l1)] [.int u4] m4 Q
    exact y_iret rfl rfl rfl H
  replace H := H.2
  by_cases h36 : m.1 3 l1.toNatClampNeg = (36 : Int32)
  · replace H := H.1 h36
    refine y_tsw (t := 107) rfl rfl (by rw [h36]; rfl) ?_
    clear h36 h35 h34 h33 h32 h30
    refine y_st rfl rfl rfl rfl rfl (fun _ _ => rfl) ?_
    refine y_st rfl rfl rfl rfl rfl (fun _ _ => rfl) ?_
    show yP (xg xs) (d + 1) 162 109 [(0, .ref 34), (1, .int l1)] [.int l1, .ref 34] m Q
    refine y_call rfl rfl rfl rfl rfl (Nat.le_of_ble_eq_true rfl) (Nat.le_of_ble_eq_true rfl) rfl (by decide) H (fun v5 m5 H => ?_)
    obtain ⟨u5, rfl, H⟩ := H
    show yP (xg xs) (d + 1) 162 112 [(0, .ref 34), (1, .int l1)] [.int u5] m5 Q
    exact y_iret rfl rfl rfl H
  replace H := H.2
  refine y_tsw (t := 113) rfl rfl (by have g0 := ne_lit (30 : Int32) 30 rfl h30; have g1 := ne_lit (32 : Int32) 32 rfl h32; have g2 := ne_lit (33 : Int32) 33 rfl h33; have g3 := ne_lit (34 : Int32) 34 rfl h34; have g4 := ne_lit (35 : Int32) 35 rfl h35; have g5 := ne_lit (36 : Int32) 36 rfl h36; by_cases z : ((m.1 3 l1.toNatClampNeg)).toInt < 30 ∨ 36 < ((m.1 3 l1.toNatClampNeg)).toInt; exact (if_pos z).trans rfl; rw [if_neg z]; rcases (by omega : ((m.1 3 l1.toNatClampNeg)).toInt = 31) with e <;> rw [e] <;> rfl) ?_
  replace H := H h30 h32 h33 h34 h35 h36
  clear h36 h35 h34 h33 h32 h30
  refine y_st rfl rfl rfl rfl rfl (fun _ _ => rfl) ?_
  show yP (xg xs) (d + 1) 162 114 [(0, .ref 34), (1, .int l1)] [.int (0 : Int32)] m Q
  exact y_iret rfl rfl rfl H
set_option maxRecDepth 20000 in
/-- CodeMaker.Expressions.look from 80 on -/
theorem w162_80 (xs : List Int32) (d : Nat) (s1 : Int32) (s2 : Int32) (m : yM) (Q : Option Value → yM → Prop) (H : (x_in s1 16401 = true ∧ Q (some (.int (0 : Int32))) (y_si m 6 s1.toNatClampNeg s2))) : yP (xg xs) (d + 1) 162 80 [] [.int s2, .int s1, .ref 6] m Q := by
  show yP (xg xs) (d + 1) 162 80 [] [.int s2, .int s1, .ref 6] m Q
  refine y_iast rfl rfl rfl (H.1) ?_
  replace H := H.2
  refine y_st rfl rfl rfl rfl rfl (fun _ _ => rfl) ?_
  show yP (xg xs) (d + 1) 162 82 [] [.int (0 : Int32)] (y_si m 6 s1.toNatClampNeg s2) Q
  exact y_iret rfl rfl rfl H
set_option maxRecDepth 20000 in
/-- CodeMaker.Expressions.lookAtElement from 0 on -/
theorem w163_0 (xs : List Int32) (d : Nat) (l1 : Int32) (m : yM) (Q : Option Value → yM → Prop) (H : (x_in l1 16401 = true ∧ (yC (xg xs) d 134 [.ref 18, .int (m.1 5 l1.toNatClampNeg)] m (fun v1 m1 => ∃ u1, v1 = some (Value.int u1) ∧ ((¬ u1 = ((-1) : Int32) → (yC (xg xs) d 135 [.ref 18, .int u1] m1 (fun v2 m2 => ∃ u2, v2 = some (Value.int u2) ∧ ((u2 = (9 : Int32) → (x_in (l1 + (1 : Int32)) 16401 = true ∧ ((¬ (m2.1 6 ((l1 + (1 : Int32)).toNatClampNeg)) = 0 → (x_in l1 16401 = true ∧ (yC (xg xs) d 136 [.ref 18, .int u1] (y_si m2 5 l1.toNatClampNeg u1) (fun v3 m3 => ∃ u3, v3 = some (Value.int u3) ∧ (x_in l1 16401 = true ∧ Q (some (.int (0 : Int32))) (y_si m3 6 l1.toNatClampNeg u3)))))) ∧ ((m2.1 6 ((l1 + (1 : Int32)).toNatClampNeg)) = 0 → Q (some (.int (22 : Int32))) m2)))) ∧ (¬ u2 = (9 : Int32) → Q (some (.int (21 : Int32))) m2))))) ∧ (u1 = ((-1) : Int32) → Q (some (.int (20 : Int32))) m1)))))) : yP (xg xs) (d + 1) 163 0 [(0, .ref 34), (1, .int l1)] [] m Q := by
  refine y_st rfl rfl rfl rfl rfl (fun _ _ => rfl) ?_
  refine y_gf rfl rfl rfl rfl rfl ?_
  refine y_st rfl rfl rfl rfl rfl (fun _ _ => rfl) ?_
  refine y_gf rfl rfl rfl rfl rfl ?_
  refine y_gf rfl rfl rfl rfl rfl ?_
  refine y_st rfl rfl rfl rfl rfl (fun _ _ => rfl) ?_
  show yP (xg xs) (d + 1) 163 12 [(0, .ref 34), (1, .int l1)] [.int l1, .ref 5, .ref 18] m Q
  refine y_iald rfl rfl rfl (H.1) ?_
  replace H := H.2
  show yP (xg xs) (d + 1) 163 13 [(0, .ref 34), (1, .int l1)] [.int (m.1 5 l1.toNatClampNeg), .ref 18] m Q
  refine y_call rfl rfl rfl rfl rfl (Nat.le_of_ble_eq_true rfl) (Nat.le_of_ble_eq_true rfl) rfl (by decide) H (fun v1 m1 H => ?_)
  obtain ⟨u1, rfl, H⟩ := H
  refine y_st rfl rfl rfl rfl rfl (fun _ _ => rfl) ?_
  refine y_st rfl rfl rfl rfl rfl (fun _ _ => rfl) ?_
  refine y_st rfl rfl rfl rfl rfl (fun _ _ => rfl) ?_
  show yP (xg xs) (d + 1) 163 19 [(2, .int u1), (0, .ref 34), (1, .int l1)] [.int ((-1) : Int32), .int u1] m1 Q
  refine y_ine (t := 25) rfl rfl rfl (fun h => ?_) (fun h => ?_)
  · replace H := H.1 h; clear h
    refine y_st rfl rfl rfl rfl rfl (fun _ _ => rfl) ?_
    refine y_gf rfl rfl rfl rfl rfl ?_
    refine y_st rfl rfl rfl rfl rfl (fun _ _ => rfl) ?_
    show yP (xg xs) (d + 1) 163 30 [(2, .int u1), (0, .ref 34), (1, .int l1)] [.int u1, .ref 18] m1 Q
    refine y_call rfl rfl rfl rfl rfl (Nat.le_of_ble_eq_true rfl) (Nat.le_of_ble_eq_true rfl) rfl (by decide) H (fun v2 m2 H => ?_)
    obtain ⟨u2, rfl, H⟩ := H
    refine y_st rfl rfl rfl rfl rfl (fun _ _ => rfl) ?_
    show yP (xg xs) (d + 1) 163 35 [(2, .int u1), (0, .ref 34), (1, .int l1)] [.int (9 : Int32), .int u2] m2 Q
    refine y_ieq (t := 41) rfl rfl rfl (fun h => ?_) (fun h => ?_)
    · replace H := H.1 h; clear h
      refine y_st rfl rfl rfl rfl rfl (fun _ _ => rfl) ?_
      refine y_gf rfl rfl rfl rfl rfl ?_
      refine y_gf rfl rfl rfl rfl rfl ?_
      refine y_st rfl rfl rfl rfl rfl (fun _ _ => rfl) ?_
      refine y_st rfl rfl rfl rfl rfl (fun _ _ => rfl) ?_
      refine y_st rfl rfl rfl rfl rfl (fun _ _ => rfl) ?_
      show yP (xg xs) (d + 1) 163 51 [(2, .int u1), (0, .ref 34), (1, .int l1)] [.int (l1 + (1 : Int32)), .ref 6] m2 Q
      refine y_iald rfl rfl rfl (H.1) ?_
      replace H := H.2
      show yP (xg xs) (d + 1) 163 52 [(2, .int u1), (0, .ref 34), (1, .int l1)] [.int (m2.1 6 ((l1 + (1 : Int32)).toNatClampNeg))] m2 Q
      refine y_zne (t := 58) rfl rfl rfl (fun h => ?_) (fun h => ?_)
      · replace H := H.1 h; clear h
        refine y_st rfl rfl rfl rfl rfl (fun _ _ => rfl) ?_
        refine y_gf rfl rfl rfl rfl rfl ?_
        refine y_gf rfl rfl rfl rfl rfl ?_
        refine y_st rfl rfl rfl rfl rfl (fun _ _ => rfl) ?_
        refine y_st rfl rfl rfl rfl rfl (fun _ _ => rfl) ?_
        show yP (xg xs) (d + 1) 163 67 [(2, .int u1), (0, .ref 34), (1, .int l1)] [.int u1, .int l1, .ref 5] m2 Q
        refine y_iast rfl rfl rfl (H.1) ?_
        replace H := H.2
        refine y_st rfl rfl rfl rfl rfl (fun _ _ => rfl) ?_
        refine y_gf rfl rfl rfl rfl rfl ?_
        refine y_gf rfl rfl rfl rfl rfl ?_
        refine y_st rfl rfl rfl rfl rfl (fun _ _ => rfl) ?_
        refine y_st rfl rfl rfl rfl rfl (fun _ _ => rfl) ?_
        refine y_gf rfl rfl rfl rfl rfl ?_
        refine y_st rfl rfl rfl rfl rfl (fun _ _ => rfl) ?_
        show yP (xg xs) (d + 1) 163 81 [(2, .int u1), (0, .ref 34), (1, .int l1)] [.int u1, .ref 18, .int l1, .ref 6] (y_si m2 5 l1.toNatClampNeg u1) Q
        refine y_call rfl rfl rfl rfl rfl (Nat.le_of_ble_eq_true rfl) (Nat.le_of_ble_eq_true rfl) rfl (by decide) H (fun v3 m3 H => ?_)
        obtain ⟨u3, rfl, H⟩ := H
        show yP (xg xs) (d + 1) 163 84 [(2, .int u1), (0, .ref 34), (1, .int l1)] [.int u3, .int l1, .ref 6] m3 Q
        refine y_iast rfl rfl rfl (H.1) ?_
        replace H := H.2
        refine y_st rfl rfl rfl rfl rfl (fun _ _ => rfl) ?_
        show yP (xg xs) (d + 1) 163 86 [(2, .int u1), (0, .ref 34), (1, .int l1)] [.int (0 : Int32)] (y_si m3 6 l1.toNatClampNeg u3) Q
        exact y_iret rfl rfl rfl H
      · replace H := H.2 h; clear h
        refine y_st rfl rfl rfl rfl rfl (fun _ _ => rfl) ?_
        show yP (xg xs) (d + 1) 163 57 [(2, .int u1), (0, .ref 34), (1, .int l1)] [.int (22 : Int32)] m2 Q
        exact y_iret rfl rfl rfl H
    · replace H := H.2 h; clear h
      refine y_st rfl rfl rfl rfl rfl (fun _ _ => rfl) ?_
      show yP (xg xs) (d + 1) 163 40 [(2, .int u1), (0, .ref 34), (1, .int l1)] [.int (21 : Int32)] m2 Q
      exact y_iret rfl rfl rfl H
  · replace H := H.2 h; clear h
    refine y_st rfl rfl rfl rfl rfl (fun _ _ => rfl) ?_
    show yP (xg xs) (d + 1) 163 24 [(2, .int u1), (0, .ref 34), (1, .int l1)] [.int (20 : Int32)] m1 Q
    exact y_iret rfl rfl rfl H
set_option maxRecDepth 20000 in
/-- CodeMaker.Expressions.lookAtOutput from 0 on -/
theorem w164_0 (xs : List Int32) (d : Nat) (l1 : Int32) (m : yM) (Q : Option Value → yM → Prop) (H : (x_in l1 16401 = true ∧ (yC (xg xs) d 134 [.ref 18, .int (m.1 5 l1.toNatClampNeg)] m (fun v1 m1 => ∃ u1, v1 = some (Value.int u1) ∧ ((¬ u1 = ((-1) : Int32) → (yC (xg xs) d 135 [.ref 18, .int u1] m1 (fun v2 m2 => ∃ u2, v2 = some (Value.int u2) ∧ ((u2 = (10 : Int32) → (yC (xg xs) d 153 [.ref 18, .int u1] m2 (fun v3 m3 => ∃ u3, v3 = some (Value.int u3) ∧ (x_in (l1 + (1 : Int32)) 16401 = true ∧ (yC (xg xs) d 154 [.ref 18, .int u3, .int (m3.1 5 ((l1 + (1 : Int32)).toNatClampNeg)), .int (2 : Int32)] m3 (fun v4 m4 => ∃ u4, v4 = some (Value.int u4) ∧ ((¬ u4 = ((-1) : Int32) → (x_in u1 4097 = true ∧ (x_in l1 16401 = true ∧ (x_in l1 16401 = true ∧ Q (some (.int (0 : Int32))) (y_si (y_si m4 5 l1.toNatClampNeg ((m4.1 20 u1.toNatClampNeg) + (u4 >>> ((2 : Int32) &&& 31)))) 6 l1.toNatClampNeg (u4 &&& (3 : Int32))))))) ∧ (u4 = ((-1) : Int32) → Q (some (.int (23 : Int32))) m4)))))))) ∧ (¬ u2 = (10 : Int32) → Q (some (.int (21 : Int32))) m2))))) ∧ (u1 = ((-1) : Int32) → Q (some (.int (20 : Int32))) m1)))))) : yP (xg xs) (d + 1) 164 0 [(0, .ref 34), (1, .int l1)] [] m Q := by
  refine y_st rfl rfl rfl rfl rfl (fun _ _ => rfl) ?_
  refine y_gf rfl rfl rfl rfl rfl ?_
  refine y_st rfl rfl rfl rfl rfl (fun _ _ => rfl) ?_
  refine y_gf rfl rfl rfl rfl rfl ?_
  refine y_gf rfl rfl rfl rfl rfl ?_
  refine y_st rfl rfl rfl rfl rfl (fun _ _ => rfl) ?_
  show yP (xg xs) (d + 1) 164 12 [(0, .ref 34), (1, .int l1)] [.int l1, .ref 5, .ref 18] m Q
  refine y_iald rfl rfl rfl (H.1) ?_
  replace H := H.2
  show yP (xg xs) (d + 1) 164 13 [(0, .ref 34), (1, .int l1)] [.int (m.1 5 l1.toNatClampNeg), .ref 18] m Q
  refine y_call rfl rfl rfl rfl rfl (Nat.le_of_ble_eq_true rfl) (Nat.le_of_ble_eq_true rfl) rfl (by decide) H (fun v1 m1 H => ?_)
  obtain ⟨u1, rfl, H⟩ := H
  refine y_st rfl rfl rfl rfl rfl (fun _ _ => rfl) ?_
  refine y_st rfl rfl rfl rfl rfl (fun _ _ => rfl) ?_
  refine y_st rfl rfl rfl rfl rfl (fun _ _ => rfl) ?_
  show yP (xg xs) (d + 1) 164 19 [(2, .int u1), (0, .ref 34), (1, .int l1)] [.int ((-1) : Int32), .int u1] m1 Q
  refine y_ine (t := 25) rfl rfl rfl (fun h => ?_) (fun h => ?_)
  · replace H := H.1 h; clear h
    refine y_st rfl rfl rfl rfl rfl (fun _ _ => rfl) ?_
    refine y_gf rfl rfl rfl rfl rfl ?_
    refine y_st rfl rfl rfl rfl rfl (fun _ _ => rfl) ?_
    show yP (xg xs) (d + 1) 164 30 [(2, .int u1), (0, .ref 34), (1, .int l1)] [.int u1, .ref 18] m1 Q
    refine y_call rfl rfl rfl rfl rfl (Nat.le_of_ble_eq_true rfl) (Nat.le_of_ble_eq_true rfl) rfl (by decide) H (fun v2 m2 H => ?_)
    obtain ⟨u2, rfl, H⟩ := H
    refine y_st rfl rfl rfl rfl rfl (fun _ _ => rfl) ?_
    show yP (xg xs) (d + 1) 164 35 [(2, .int u1), (0, .ref 34), (1, .int l1)] [.int (10 : Int32), .int u2] m2 Q
    refine y_ieq (t := 41) rfl rfl rfl (fun h => ?_) (fun h => ?_)
    · replace H := H.1 h; clear h
      refine y_st rfl rfl rfl rfl rfl (fun _ _ => rfl) ?_
      refine y_gf rfl rfl rfl rfl rfl ?_
      refine y_st rfl rfl rfl rfl rfl (fun _ _ => rfl) ?_
      refine y_gf rfl rfl rfl rfl rfl ?_
      refine y_st rfl rfl rfl rfl rfl (fun _ _ => rfl) ?_
      show yP (xg xs) (d + 1) 164 50 [(2, .int u1), (0, .ref 34), (1, .int l1)] [.int u1, .ref 18, .ref 18] m2 Q
      refine y_call rfl rfl rfl rfl rfl (Nat.le_of_ble_eq_true rfl) (Nat.le_of_ble_eq_true rfl) rfl (by decide) H (fun v3 m3 H => ?_)
      obtain ⟨u3, rfl, H⟩ := H
      refine y_st rfl rfl rfl rfl rfl (fun _ _ => rfl) ?_
      refine y_gf rfl rfl rfl rfl rfl ?_
      refine y_gf rfl rfl rfl rfl rfl ?_
      refine y_st rfl rfl rfl rfl rfl (fun _ _ => rfl) ?_
      refine y_st rfl rfl rfl rfl rfl (fun _ _ => rfl) ?_
      refine y_st rfl rfl rfl rfl rfl (fun _ _ => rfl) ?_
      show yP (xg xs) (d + 1) 164 63 [(2, .int u1), (0, .ref 34), (1, .int l1)] [.int (l1 + (1 : Int32)), .ref 5, .int u3, .ref 18] m3 Q
      refine y_iald rfl rfl rfl (H.1) ?_
      replace H := H.2
      refine y_st rfl rfl rfl rfl rfl (fun _ _ => rfl) ?_
      show yP (xg xs) (d + 1) 164 65 [(2, .int u1), (0, .ref 34), (1, .int l1)] [.int (2 : Int32), .int (m3.1 5 ((l1 + (1 : Int32)).toNatClampNeg)), .int u3, .ref 18] m3 Q
      refine y_call rfl rfl rfl rfl rfl (Nat.le_of_ble_eq_true rfl) (Nat.le_of_ble_eq_true rfl) rfl (by decide) H (fun v4 m4 H => ?_)
      obtain ⟨u4, rfl, H⟩ := H
      refine y_st rfl rfl rfl rfl rfl (fun _ _ => rfl) ?_
      refine y_st rfl rfl rfl rfl rfl (fun _ _ => rfl) ?_
      refine y_st rfl rfl rfl rfl rfl (fun _ _ => rfl) ?_
      show yP (xg xs) (d + 1) 164 71 [(3, .int u4), (2, .int u1), (0, .ref 34), (1, .int l1)] [.int ((-1) : Int32), .int u4] m4 Q
      refine y_ine (t := 77) rfl rfl rfl (fun h => ?_) (fun h => ?_)
      · replace H := H.1 h; clear h
        refine y_st rfl rfl rfl rfl rfl (fun _ _ => rfl) ?_
        refine y_gf rfl rfl rfl rfl rfl ?_
        refine y_gf rfl rfl rfl rfl rfl ?_
        refine y_st rfl rfl rfl rfl rfl (fun _ _ => rfl) ?_
        refine y_st rfl rfl rfl rfl rfl (fun _ _ => rfl) ?_
        refine y_gf rfl rfl rfl rfl rfl ?_
        refine y_gf rfl rfl rfl rfl rfl ?_
        refine y_st rfl rfl rfl rfl rfl (fun _ _ => rfl) ?_
        show yP (xg xs) (d + 1) 164 93 [(3, .int u4), (2, .int u1), (0, .ref 34), (1, .int l1)] [.int u1, .ref 20, .int l1, .ref 5] m4 Q
        refine y_iald rfl rfl rfl (H.1) ?_
        replace H := H.2
        refine y_st rfl rfl rfl rfl rfl (fun _ _ => rfl) ?_
        refine y_st rfl rfl rfl rfl rfl (fun _ _ => rfl) ?_
        refine y_st rfl rfl rfl rfl rfl (fun _ _ => rfl) ?_
        refine y_st rfl rfl rfl rfl rfl (fun _ _ => rfl) ?_
        show yP (xg xs) (d + 1) 164 98 [(3, .int u4), (2, .int u1), (0, .ref 34), (1, .int l1)] [.int ((m4.1 20 u1.toNatClampNeg) + (u4 >>> ((2 : Int32) &&& 31))), .int l1, .ref 5] m4 Q
        refine y_iast rfl rfl rfl (H.1) ?_
        replace H := H.2
        refine y_st rfl rfl rfl rfl rfl (fun _ _ => rfl) ?_
        refine y_gf rfl rfl rfl rfl rfl ?_
        refine y_gf rfl rfl rfl rfl rfl ?_
        refine y_st rfl rfl rfl rfl rfl (fun _ _ => rfl) ?_
        refine y_st rfl rfl rfl rfl rfl (fun _ _ => rfl) ?_
        refine y_st rfl rfl rfl rfl rfl (fun _ _ => rfl) ?_
        refine y_st rfl rfl rfl rfl rfl (fun _ _ => rfl) ?_
        show yP (xg xs) (d + 1) 164 110 [(3, .int u4), (2, .int u1), (0, .ref 34), (1, .int l1)] [.int (u4 &&& (3 : Int32)), .int l1, .ref 6] (y_si m4 5 l1.toNatClampNeg ((m4.1 20 u1.toNatClampNeg) + (u4 >>> ((2 : Int32) &&& 31)))) Q
        refine y_iast rfl rfl rfl (H.1) ?_
        replace H := H.2
        refine y_st rfl rfl rfl rfl rfl (fun _ _ => rfl) ?_
        show yP (xg xs) (d + 1) 164 112 [(3, .int u4), (2, .int u1), (0, .ref 34), (1, .int l1)] [.int (0 : Int32)] (y_si (y_si m4 5 l1.toNatClampNeg ((m4.1 20 u1.toNatClampNeg) + (u4 >>> ((2 : Int32) &&& 31)))) 6 l1.toNatClampNeg (u4 &&& (3 : Int32))) Q
        exact y_iret rfl rfl rfl H
      · replace H := H.2 h; clear h
        refine y_st rfl rfl rfl rfl rfl (fun _ _ => rfl) ?_
        show yP (xg xs) (d + 1) 164 76 [(3, .int u4), (2, .int u1), (0, .ref 34), (1, .int l1)] [.int (23 : Int32)] m4 Q
        exact y_iret rfl rfl rfl H
    · replace H := H.2 h; clear h
      refine y_st rfl rfl rfl rfl rfl (fun _ _ => rfl) ?_
      show yP (xg xs) (d + 1) 164 40 [(2, .int u1), (0, .ref 34), (1, .int l1)] [.int (21 : Int32)] m2 Q
      exact y_iret rfl rfl rfl H
  · replace H := H.2 h; clear h
    refine y_st rfl rfl rfl rfl rfl (fun _ _ => rfl) ?_
    show yP (xg xs) (d + 1) 164 24 [(2, .int u1), (0, .ref 34), (1, .int l1)] [.int (20 : Int32)] m1 Q
    exact y_iret rfl rfl rfl H
set_option maxRecDepth 20000 in
/-- CodeMaker.Expressions.lookAtCall from 0 on -/
theorem w165_0 (xs : List Int32) (d : Nat) (l1 : Int32) (m : yM) (Q : Option Value → yM → Prop) (H : (x_in l1 16401 = true ∧ (yC (xg xs) d 166 [.ref 18, .int (m.1 5 l1.toNatClampNeg)] m (fun v1 m1 => ∃ u1, v1 = some (Value.int u1) ∧ ((¬ u1 = ((-1) : Int32) → yP (xg xs) (d + 1) 165 32 [(0, .ref 34), (1, .int l1), (2, .int u1), (3, .int (0 : Int32)), (4, .int (l1 + (1 : Int32)))] [] m1 Q) ∧ (u1 = ((-1) : Int32) → Q (some (.int (24 : Int32))) m1)))))) : yP (xg xs) (d + 1) 165 0 [(0, .ref 34), (1, .int l1)] [] m Q := by
  refine y_st rfl rfl rfl rfl rfl (fun _ _ => rfl) ?_
  refine y_gf rfl rfl rfl rfl rfl ?_
  refine y_st rfl rfl rfl rfl rfl (fun _ _ => rfl) ?_
  refine y_gf rfl rfl rfl rfl rfl ?_
  refine y_gf rfl rfl rfl rfl rfl ?_
  refine y_st rfl rfl rfl rfl rfl (fun _ _ => rfl) ?_
  show yP (xg xs) (d + 1) 165 12 [(0, .ref 34), (1, .int l1)] [.int l1, .ref 5, .ref 18] m Q
  refine y_iald rfl rfl rfl (H.1) ?_
  replace H := H.2
  show yP (xg xs) (d + 1) 165 13 [(0, .ref 34), (1, .int l1)] [.int (m.1 5 l1.toNatClampNeg), .ref 18] m Q
  refine y_call rfl rfl rfl rfl rfl (Nat.le_of_ble_eq_true rfl) (Nat.le_of_ble_eq_true rfl) rfl (by decide) H (fun v1 m1 H => ?_)
  obtain ⟨u1, rfl, H⟩ := H
  refine y_st rfl rfl rfl rfl rfl (fun _ _ => rfl) ?_
  refine y_st rfl rfl rfl rfl rfl (fun _ _ => rfl) ?_
  refine y_st rfl rfl rfl rfl rfl (fun _ _ => rfl) ?_
  show yP (xg xs) (d + 1) 165 19 [(2, .int u1), (0, .ref 34), (1, .int l1)] [.int ((-1) : Int32), .int u1] m1 Q
  refine y_ine (t := 25) rfl rfl rfl (fun h => ?_) (fun h => ?_)
  · replace H := H.1 h; clear h
    refine y_st rfl rfl rfl rfl rfl (fun _ _ => rfl) ?_
    refine y_st rfl rfl rfl rfl rfl (fun _ _ => rfl) ?_
    refine y_st rfl rfl rfl rfl rfl (fun _ _ => rfl) ?_
    refine y_st rfl rfl rfl rfl rfl (fun _ _ => rfl) ?_
    refine y_st rfl rfl rfl rfl rfl (fun _ _ => rfl) ?_
    refine y_st rfl rfl rfl rfl rfl (fun _ _ => rfl) ?_
    show yP (xg xs) (d + 1) 165 32 [(4, .int (l1 + (1 : Int32))), (3, .int (0 : Int32)), (2, .int u1), (0, .ref 34), (1, .int l1)] [] m1 Q
    refine y_headS (l2 := [(0, .ref 34), (1, .int l1), (2, .int u1), (3, .int (0 : Int32)), (4, .int (l1 + (1 : Int32)))]) [3, 4, 2, 1, 0] [0, 1, 2, 3, 4] [4, 3, 2, 0, 1] rfl rfl (by decide) rfl (by decide) ?_
    exact H
  · replace H := H.2 h; clear h
    refine y_st rfl rfl rfl rfl rfl (fun _ _ => rfl) ?_
    show yP (xg xs) (d + 1) 165 24 [(2, .int u1), (0, .ref 34), (1, .int l1)] [.int (24 : Int32)] m1 Q
    exact y_iret rfl rfl rfl H
set_option maxRecDepth 20000 in
/-- CodeMaker.Expressions.lookAtCall from 32 on -/
theorem w165_32 (xs : List Int32) (d : Nat) (l1 : Int32) (l2 : Int32) (l3 : Int32) (l4 : Int32) (m : yM) (Q : Option Value → yM → Prop) (H : (x_in l1 16401 = true ∧ (((m.1 7 l1.toNatClampNeg) ≤ l4 → (((10 : Int32) ≤ l2 → yP (xg xs) (d + 1) 165 75 [(0, .ref 34), (1, .int l1), (2, .int l2), (3, .int l3)] [.int (0 : Int32)] m Q) ∧ (¬ (10 : Int32) ≤ l2 → yP (xg xs) (d + 1) 165 75 [(0, .ref 34), (1, .int l1), (2, .int l2), (3, .int l3)] [.int (1 : Int32)] m Q))) ∧ (¬ (m.1 7 l1.toNatClampNeg) ≤ l4 → (x_in l4 16401 = true ∧ yP (xg xs) (d + 1) 165 32 [(0, .ref 34), (1, .int l1), (2, .int l2), (3, .int (l3 + (1 : Int32))), (4, .int (m.1 7 l4.toNatClampNeg))] [] m Q))))) : yP (xg xs) (d + 1) 165 32 [(0, .ref 34), (1, .int l1), (2, .int l2), (3, .int l3), (4, .int l4)] [] m Q := by
  refine y_st rfl rfl rfl rfl rfl (fun _ _ => rfl) ?_
  refine y_st rfl rfl rfl rfl rfl (fun _ _ => rfl) ?_
  refine y_gf rfl rfl rfl rfl rfl ?_
  refine y_gf rfl rfl rfl rfl rfl ?_
  refine y_st rfl rfl rfl rfl rfl (fun _ _ => rfl) ?_
  show yP (xg xs) (d + 1) 165 42 [(0, .ref 34), (1, .int l1), (2, .int l2), (3, .int l3), (4, .int l4)] [.int l1, .ref 7, .int l4] m Q
  refine y_iald rfl rfl rfl (H.1) ?_
  replace H := H.2
  show yP (xg xs) (d + 1) 165 43 [(0, .ref 34), (1, .int l1), (2, .int l2), (3, .int l3), (4, .int l4)] [.int (m.1 7 l1.toNatClampNeg), .int l4] m Q
  refine y_ige (t := 64) rfl rfl rfl (fun h => ?_) (fun h => ?_)
  · replace H := H.1 h; clear h
    refine y_st rfl rfl rfl rfl rfl (fun _ _ => rfl) ?_
    refine y_st rfl rfl rfl rfl rfl (fun _ _ => rfl) ?_
    show yP (xg xs) (d + 1) 165 67 [(0, .ref 34), (1, .int l1), (2, .int l2), (3, .int l3), (4, .int l4)] [.int (10 : Int32), .int l2] m Q
    refine y_ige (t := 74) rfl rfl rfl (fun h => ?_) (fun h => ?_)
    · replace H := H.1 h; clear h
      refine y_st rfl rfl rfl rfl rfl (fun _ _ => rfl) ?_
      show yP (xg xs) (d + 1) 165 75 [(0, .ref 34), (1, .int l1), (2, .int l2), (3, .int l3), (4, .int l4)] [.int (0 : Int32)] m Q
      refine y_headS (l2 := [(0, .ref 34), (1, .int l1), (2, .int l2), (3, .int l3)]) [0, 1, 2, 3] [0, 1, 2, 3] [0, 1, 2, 3, 4] rfl rfl (by decide) rfl (by decide) ?_
      exact H
    · replace H := H.2 h; clear h
      refine y_st rfl rfl rfl rfl rfl (fun _ _ => rfl) ?_
      refine y_st rfl rfl rfl rfl rfl (fun _ _ => rfl) ?_
      show yP (xg xs) (d + 1) 165 75 [(0, .ref 34), (1, .int l1), (2, .int l2), (3, .int l3), (4, .int l4)] [.int (1 : Int32)] m Q
      refine y_headS (l2 := [(0, .ref 34), (1, .int l1), (2, .int l2), (3, .int l3)]) [0, 1, 2, 3] [0, 1, 2, 3] [0, 1, 2, 3, 4] rfl rfl (by decide) rfl (by decide) ?_
      exact H
  · replace H := H.2 h; clear h
    refine y_st rfl rfl rfl rfl rfl (fun _ _ => rfl) ?_
    refine y_st rfl rfl rfl rfl rfl (fun _ _ => rfl) ?_
    refine y_gf rfl rfl rfl rfl rfl ?_
    refine y_gf rfl rfl rfl rfl rfl ?_
    refine y_st rfl rfl rfl rfl rfl (fun _ _ => rfl) ?_
    show yP (xg xs) (d + 1) 165 58 [(3, .int (l3 + (1 : Int32))), (0, .ref 34), (1, .int l1), (2, .int l2), (4, .int l4)] [.int l4, .ref 7] m Q
    refine y_iald rfl rfl rfl (H.1) ?_
    replace H := H.2
    refine y_st rfl rfl rfl rfl rfl (fun _ _ => rfl) ?_
    refine y_st rfl rfl rfl rfl rfl (fun _ _ => rfl) ?_
    show yP (xg xs) (d + 1) 165 32 [(4, .int (m.1 7 l4.toNatClampNeg)), (3, .int (l3 + (1 : Int32))), (0, .ref 34), (1, .int l1), (2, .int l2)] [] m Q
    refine y_headS (l2 := [(0, .ref 34), (1, .int l1), (2, .int l2), (3, .int (l3 + (1 : Int32))), (4, .int (m.1 7 l4.toNatClampNeg))]) [2, 3, 4, 1, 0] [0, 1, 2, 3, 4] [4, 3, 0, 1, 2] rfl rfl (by decide) rfl (by decide) ?_
    exact H
set_option maxRecDepth 20000 in
/-- CodeMaker.Expressions.lookAtCall from 75 on -/
theorem w165_75 (xs : List Int32) (d : Nat) (l1 : Int32) (l2 : Int32) (l3 : Int32) (s0 : Int32) (m : yM) (Q : Option Value → yM → Prop) (H : ((s0 = 0 → (yC (xg xs) d 118 [.ref 18, .int (l2 - (10 : Int32))] m (fun v1 m1 => ∃ u1, v1 = some (Value.int u1) ∧ yP (xg xs) (d + 1) 165 106 [(0, .ref 34), (1, .int l1), (2, .int l2), (4, .int s0), (5, .int (l2 - (10 : Int32)))] [.int u1, .int l3] m1 Q))) ∧ (¬ s0 = 0 → (x_in l2 xar_5.length = true ∧ yP (xg xs) (d + 1) 165 106 [(0, .ref 34), (1, .int l1), (2, .int l2), (4, .int s0), (5, .int (l2 - (10 : Int32)))] [.int (xar_5.getD l2.toNatClampNeg 0), .int l3] m Q)))) : yP (xg xs) (d + 1) 165 75 [(0, .ref 34), (1, .int l1), (2, .int l2), (3, .int l3)] [.int s0] m Q := by
  refine y_st rfl rfl rfl rfl rfl (fun _ _ => rfl) ?_
  refine y_st rfl rfl rfl rfl rfl (fun _ _ => rfl) ?_
  refine y_st rfl rfl rfl rfl rfl (fun _ _ => rfl) ?_
  refine y_st rfl rfl rfl rfl rfl (fun _ _ => rfl) ?_
  refine y_st rfl rfl rfl rfl rfl (fun _ _ => rfl) ?_
  refine y_st rfl rfl rfl rfl rfl (fun _ _ => rfl) ?_
  refine y_st rfl rfl rfl rfl rfl (fun _ _ => rfl) ?_
  show yP (xg xs) (d + 1) 165 86 [(5, .int (l2 - (10 : Int32))), (4, .int s0), (0, .ref 34), (1, .int l1), (2, .int l2), (3, .int l3)] [.int s0, .int l3] m Q
  refine y_zeq (t := 97) rfl rfl rfl (fun h => ?_) (fun h => ?_)
  · replace H := H.1 h; clear h
    refine y_st rfl rfl rfl rfl rfl (fun _ _ => rfl) ?_
    refine y_gf rfl rfl rfl rfl rfl ?_
    refine y_st rfl rfl rfl rfl rfl (fun _ _ => rfl) ?_
    show yP (xg xs) (d + 1) 165 103 [(5, .int (l2 - (10 : Int32))), (4, .int s0), (0, .ref 34), (1, .int l1), (2, .int l2), (3, .int l3)] [.int (l2 - (10 : Int32)), .ref 18, .int l3] m Q
    refine y_call rfl rfl rfl rfl rfl (Nat.le_of_ble_eq_true rfl) (Nat.le_of_ble_eq_true rfl) rfl (by decide) H (fun v1 m1 H => ?_)
    obtain ⟨u1, rfl, H⟩ := H
    show yP (xg xs) (d + 1) 165 106 [(5, .int (l2 - (10 : Int32))), (4, .int s0), (0, .ref 34), (1, .int l1), (2, .int l2), (3, .int l3)] [.int u1, .int l3] m1 Q
    refine y_headS (l2 := [(0, .ref 34), (1, .int l1), (2, .int l2), (4, .int s0), (5, .int (l2 - (10 : Int32)))]) [2, 3, 4, 1, 0] [0, 1, 2, 4, 5] [5, 4, 0, 1, 2, 3] rfl rfl (by decide) rfl (by decide) ?_
    exact H
  · replace H := H.2 h; clear h
    refine y_st rfl rfl rfl rfl rfl (fun _ _ => rfl) ?_
    refine y_st rfl rfl rfl rfl rfl (fun _ _ => rfl) ?_
    show yP (xg xs) (d + 1) 165 93 [(5, .int (l2 - (10 : Int32))), (4, .int s0), (0, .ref 34), (1, .int l1), (2, .int l2), (3, .int l3)] [.int l2, .retAddr 5, .int l3] m Q
    refine y_cald rfl rfl rfl H.1 ?_
    replace H := H.2
    refine y_st rfl rfl rfl rfl rfl (fun _ _ => rfl) ?_
    show yP (xg xs) (d + 1) 165 106 [(5, .int (l2 - (10 : Int32))), (4, .int s0), (0, .ref 34), (1, .int l1), (2, .int l2), (3, .int l3)] [.int (xar_5.getD l2.toNatClampNeg 0), .int l3] m Q
    refine y_headS (l2 := [(0, .ref 34), (1, .int l1), (2, .int l2), (4, .int s0), (5, .int (l2 - (10 : Int32)))]) [2, 3, 4, 1, 0] [0, 1, 2, 4, 5] [5, 4, 0, 1, 2, 3] rfl rfl (by decide) rfl (by decide) ?_
    exact H
set_option maxRecDepth 20000 in
/-- CodeMaker.Expressions.lookAtCall from 106 on -/
theorem w165_106 (xs : List Int32) (d : Nat) (l1 : Int32) (l2 : Int32) (l4 : Int32) (l5 : Int32) (s0 : Int32) (s1 : Int32) (m : yM) (Q : Option Value → yM → Prop) (H : ((s0 = s1 → ((l4 = 0 → (yC (xg xs) d 170 [.ref 34, .int l1, .int l5] m (fun v1 m1 => ∃ u1, v1 = some (Value.int u1) ∧ yP (xg xs) (d + 1) 165 133 [(0, .ref 34), (1, .int l1), (2, .int l2), (4, .int l4)] [.int u1] m1 Q))) ∧ (¬ l4 = 0 → (yC (xg xs) d 167 [.ref 34, .int l1, .int l2] m (fun v2 m2 => ∃ u2, v2 = some (Value.int u2) ∧ yP (xg xs) (d + 1) 165 133 [(0, .ref 34), (1, .int l1), (2, .int l2), (4, .int l4)] [.int u2] m2 Q))))) ∧ (¬ s0 = s1 → Q (some (.int (25 : Int32))) m))) : yP (xg xs) (d + 1) 165 106 [(0, .ref 34), (1, .int l1), (2, .int l2), (4, .int l4), (5, .int l5)] [.int s1, .int s0] m Q := by
  show yP (xg xs) (d + 1) 165 106 [(0, .ref 34), (1, .int l1), (2, .int l2), (4, .int l4), (5, .int l5)] [.int s1, .int s0] m Q
  refine y_ieq (t := 112) rfl rfl rfl (fun h => ?_) (fun h => ?_)
  · replace H := H.1 h; clear h
    refine y_st rfl rfl rfl rfl rfl (fun _ _ => rfl) ?_
    show yP (xg xs) (d + 1) 165 114 [(0, .ref 34), (1, .int l1), (2, .int l2), (4, .int l4), (5, .int l5)] [.int l4] m Q
    refine y_zeq (t := 126) rfl rfl rfl (fun h => ?_) (fun h => ?_)
    · replace H := H.1 h; clear h
      refine y_st rfl rfl rfl rfl rfl (fun _ _ => rfl) ?_
      refine y_st rfl rfl rfl rfl rfl (fun _ _ => rfl) ?_
      refine y_st rfl rfl rfl rfl rfl (fun _ _ => rfl) ?_
      show yP (xg xs) (d + 1) 165 130 [(0, .ref 34), (1, .int l1), (2, .int l2), (4, .int l4), (5, .int l5)] [.int l5, .int l1, .ref 34] m Q
      refine y_call rfl rfl rfl rfl rfl (Nat.le_of_ble_eq_true rfl) (Nat.le_of_ble_eq_true rfl) rfl (by decide) H (fun v1 m1 H => ?_)
      obtain ⟨u1, rfl, H⟩ := H
      show yP (xg xs) (d + 1) 165 133 [(0, .ref 34), (1, .int l1), (2, .int l2), (4, .int l4), (5, .int l5)] [.int u1] m1 Q
      refine y_headS (l2 := [(0, .ref 34), (1, .int l1), (2, .int l2), (4, .int l4)]) [0, 1, 2, 3] [0, 1, 2, 4] [0, 1, 2, 4, 5] rfl rfl (by decide) rfl (by decide) ?_
      exact H
    · replace H := H.2 h; clear h
      refine y_st rfl rfl rfl rfl rfl (fun _ _ => rfl) ?_
      refine y_st rfl rfl rfl rfl rfl (fun _ _ => rfl) ?_
      refine y_st rfl rfl rfl rfl rfl (fun _ _ => rfl) ?_
      show yP (xg xs) (d + 1) 165 120 [(0, .ref 34), (1, .int l1), (2, .int l2), (4, .int l4), (5, .int l5)] [.int l2, .int l1, .ref 34] m Q
      refine y_call rfl rfl rfl rfl rfl (Nat.le_of_ble_eq_true rfl) (Nat.le_of_ble_eq_true rfl) rfl (by decide) H (fun v2 m2 H => ?_)
      obtain ⟨u2, rfl, H⟩ := H
      refine y_st rfl rfl rfl rfl rfl (fun _ _ => rfl) ?_
      show yP (xg xs) (d + 1) 165 133 [(0, .ref 34), (1, .int l1), (2, .int l2), (4, .int l4), (5, .int l5)] [.int u2] m2 Q
      refine y_headS (l2 := [(0, .ref 34), (1, .int l1), (2, .int l2), (4, .int l4)]) [0, 1, 2, 3] [0, 1, 2, 4] [0, 1, 2, 4, 5] rfl rfl (by decide) rfl (by decide) ?_
      exact H
  · replace H := H.2 h; clear h
    refine y_st rfl rfl rfl rfl rfl (fun _ _ => rfl) ?_
    show yP (xg xs) (d + 1) 165 111 [(0, .ref 34), (1, .int l1), (2, .int l2), (4, .int l4), (5, .int l5)] [.int (25 : Int32)] m Q
    exact y_iret rfl rfl rfl H
set_option maxRecDepth 20000 in
/-- CodeMaker.Expressions.lookAtCall from 133 on -/
theorem w165_133 (xs : List Int32) (d : Nat) (l1 : Int32) (l2 : Int32) (l4 : Int32) (s0 : Int32) (m : yM) (Q : Option Value → yM → Prop) (H : ((¬ s0 = ((-1) : Int32) → (x_in l1 16401 = true ∧ (x_in l1 16401 = true ∧ ((l4 = 0 → Q (some (.int (0 : Int32))) (y_si (y_si m 5 l1.toNatClampNeg l2) 6 l1.toNatClampNeg s0)) ∧ (¬ l4 = 0 → (yC (xg xs) d 171 [.ref 34, .int l1] (y_si (y_si m 5 l1.toNatClampNeg l2) 6 l1.toNatClampNeg s0) (fun v1 m1 => ∃ u1, v1 = some (Value.int u1) ∧ ((u1 = 0 → Q (some (.int (0 : Int32))) m1) ∧ (¬ u1 = 0 → (yC (xg xs) d 173 [.ref 34, .int l1, .int l2] m1 (fun v2 m2 => ∃ u2, v2 = some (Value.int u2) ∧ (yC (xg xs) d 179 [.ref 2, .int l1, .int u2] m2 (fun v3 m3 => v3 = none ∧ Q (some (.int (0 : Int32))) m3))))))))))))) ∧ (s0 = ((-1) : Int32) → Q (some (.int (26 : Int32))) m))) : yP (xg xs) (d + 1) 165 133 [(0, .ref 34), (1, .int l1), (2, .int l2), (4, .int l4)] [.int s0] m Q := by
  refine y_st rfl rfl rfl rfl rfl (fun _ _ => rfl) ?_
  refine y_st rfl rfl rfl rfl rfl (fun _ _ => rfl) ?_
  refine y_st rfl rfl rfl rfl rfl (fun _ _ => rfl) ?_
  show yP (xg xs) (d + 1) 165 138 [(6, .int s0), (0, .ref 34), (1, .int l1), (2, .int l2), (4, .int l4)] [.int ((-1) : Int32), .int s0] m Q
  refine y_ine (t := 144) rfl rfl rfl (fun h => ?_) (fun h => ?_)
  · replace H := H.1 h; clear h
    refine y_st rfl rfl rfl rfl rfl (fun _ _ => rfl) ?_
    refine y_gf rfl rfl rfl rfl rfl ?_
    refine y_gf rfl rfl rfl rfl rfl ?_
    refine y_st rfl rfl rfl rfl rfl (fun _ _ => rfl) ?_
    refine y_st rfl rfl rfl rfl rfl (fun _ _ => rfl) ?_
    show yP (xg xs) (d + 1) 165 153 [(6, .int s0), (0, .ref 34), (1, .int l1), (2, .int l2), (4, .int l4)] [.int l2, .int l1, .ref 5] m Q
    refine y_iast rfl rfl rfl (H.1) ?_
    replace H := H.2
    refine y_st rfl rfl rfl rfl rfl (fun _ _ => rfl) ?_
    refine y_gf rfl rfl rfl rfl rfl ?_
    refine y_gf rfl rfl rfl rfl rfl ?_
    refine y_st rfl rfl rfl rfl rfl (fun _ _ => rfl) ?_
    refine y_st rfl rfl rfl rfl rfl (fun _ _ => rfl) ?_
    show yP (xg xs) (d + 1) 165 164 [(6, .int s0), (0, .ref 34), (1, .int l1), (2, .int l2), (4, .int l4)] [.int s0, .int l1, .ref 6] (y_si m 5 l1.toNatClampNeg l2) Q
    refine y_iast rfl rfl rfl (H.1) ?_
    replace H := H.2
    refine y_st rfl rfl rfl rfl rfl (fun _ _ => rfl) ?_
    show yP (xg xs) (d + 1) 165 167 [(6, .int s0), (0, .ref 34), (1, .int l1), (2, .int l2), (4, .int l4)] [.int l4] (y_si (y_si m 5 l1.toNatClampNeg l2) 6 l1.toNatClampNeg s0) Q
    refine y_zeq (t := 192) rfl rfl rfl (fun h => ?_) (fun h => ?_)
    · replace H := H.1 h; clear h
      refine y_st rfl rfl rfl rfl rfl (fun _ _ => rfl) ?_
      show yP (xg xs) (d + 1) 165 193 [(6, .int s0), (0, .ref 34), (1, .int l1), (2, .int l2), (4, .int l4)] [.int (0 : Int32)] (y_si (y_si m 5 l1.toNatClampNeg l2) 6 l1.toNatClampNeg s0) Q
      exact y_iret rfl rfl rfl H
    · replace H := H.2 h; clear h
      refine y_st rfl rfl rfl rfl rfl (fun _ _ => rfl) ?_
      refine y_st rfl rfl rfl rfl rfl (fun _ _ => rfl) ?_
      show yP (xg xs) (d + 1) 165 172 [(6, .int s0), (0, .ref 34), (1, .int l1), (2, .int l2), (4, .int l4)] [.int l1, .ref 34] (y_si (y_si m 5 l1.toNatClampNeg l2) 6 l1.toNatClampNeg s0) Q
      refine y_call rfl rfl rfl rfl rfl (Nat.le_of_ble_eq_true rfl) (Nat.le_of_ble_eq_true rfl) rfl (by decide) H (fun v1 m1 H => ?_)
      obtain ⟨u1, rfl, H⟩ := H
      show yP (xg xs) (d + 1) 165 175 [(6, .int s0), (0, .ref 34), (1, .int l1), (2, .int l2), (4, .int l4)] [.int u1] m1 Q
      refine y_zeq (t := 192) rfl rfl rfl (fun h => ?_) (fun h => ?_)
      · replace H := H.1 h; clear h
        refine y_st rfl rfl rfl rfl rfl (fun _ _ => rfl) ?_
        show yP (xg xs) (d + 1) 165 193 [(6, .int s0), (0, .ref 34), (1, .int l1), (2, .int l2), (4, .int l4)] [.int (0 : Int32)] m1 Q
        exact y_iret rfl rfl rfl H
      · replace H := H.2 h; clear h
        refine y_st rfl rfl rfl rfl rfl (fun _ _ => rfl) ?_
        refine y_gf rfl rfl rfl rfl rfl ?_
        refine y_st rfl rfl rfl rfl rfl (fun _ _ => rfl) ?_
        refine y_st rfl rfl rfl rfl rfl (fun _ _ => rfl) ?_
        refine y_st rfl rfl rfl rfl rfl (fun _ _ => rfl) ?_
        refine y_st rfl rfl rfl rfl rfl (fun _ _ => rfl) ?_
        show yP (xg xs) (d + 1) 165 186 [(6, .int s0), (0, .ref 34), (1, .int l1), (2, .int l2), (4, .int l4)] [.int l2, .int l1, .ref 34, .int l1, .ref 2] m1 Q
        refine y_call rfl rfl rfl rfl rfl (Nat.le_of_ble_eq_true rfl) (Nat.le_of_ble_eq_true rfl) rfl (by decide) H (fun v2 m2 H => ?_)
        obtain ⟨u2, rfl, H⟩ := H
        show yP (xg xs) (d + 1) 165 189 [(6, .int s0), (0, .ref 34), (1, .int l1), (2, .int l2), (4, .int l4)] [.int u2, .int l1, .ref 2] m2 Q
        refine y_call rfl rfl rfl rfl rfl (Nat.le_of_ble_eq_true rfl) (Nat.le_of_ble_eq_true rfl) rfl (by decide) H (fun v3 m3 H => ?_)
        obtain ⟨rfl, H⟩ := H
        refine y_st rfl rfl rfl rfl rfl (fun _ _ => rfl) ?_
        show yP (xg xs) (d + 1) 165 193 [(6, .int s0), (0, .ref 34), (1, .int l1), (2, .int l2), (4, .int l4)] [.int (0 : Int32)] m3 Q
        exact y_iret rfl rfl rfl H
  · replace H := H.2 h; clear h
    refine y_st rfl rfl rfl rfl rfl (fun _ _ => rfl) ?_
    show yP (xg xs) (d + 1) 165 143 [(6, .int s0), (0, .ref 34), (1, .int l1), (2, .int l2), (4, .int l4)] [.int (26 : Int32)] m Q
    exact y_iret rfl rfl rfl H
set_option maxRecDepth 20000 in
/-- CodeMaker.Scope.functionNamed from 0 on -/
theorem w166_0 (xs : List Int32) (d : Nat) (l1 : Int32) (m : yM) (Q : Option Value → yM → Prop) (H : ((l1 < (50 : Int32) → yP (xg xs) (d + 1) 166 17 [(0, .ref 18), (1, .int l1)] [] m Q) ∧ (¬ l1 < (50 : Int32) → (((60 : Int32) ≤ l1 → yP (xg xs) (d + 1) 166 17 [(0, .ref 18), (1, .int l1)] [] m Q) ∧ (¬ (60 : Int32) ≤ l1 → Q (some (.int (l1 - (50 : Int32)))) m))))) : yP (xg xs) (d + 1) 166 0 [(0, .ref 18), (1, .int l1)] [] m Q := by
  refine y_st rfl rfl rfl rfl rfl (fun _ _ => rfl) ?_
  refine y_st rfl rfl rfl rfl rfl (fun _ _ => rfl) ?_
  show yP (xg xs) (d + 1) 166 3 [(0, .ref 18), (1, .int l1)] [.int (50 : Int32), .int l1] m Q
  refine y_ilt (t := 17) rfl rfl rfl (fun h => ?_) (fun h => ?_)
  · replace H := H.1 h; clear h
    show yP (xg xs) (d + 1) 166 17 [(0, .ref 18), (1, .int l1)] [] m Q
    exact H
  · replace H := H.2 h; clear h
    refine y_st rfl rfl rfl rfl rfl (fun _ _ => rfl) ?_
    refine y_st rfl rfl rfl rfl rfl (fun _ _ => rfl) ?_
    show yP (xg xs) (d + 1) 166 9 [(0, .ref 18), (1, .int l1)] [.int (60 : Int32), .int l1] m Q
    refine y_ige (t := 17) rfl rfl rfl (fun h => ?_) (fun h => ?_)
    · replace H := H.1 h; clear h
      show yP (xg xs) (d + 1) 166 17 [(0, .ref 18), (1, .int l1)] [] m Q
      exact H
    · replace H := H.2 h; clear h
      refine y_st rfl rfl rfl rfl rfl (fun _ _ => rfl) ?_
      refine y_st rfl rfl rfl rfl rfl (fun _ _ => rfl) ?_
      refine y_st rfl rfl rfl rfl rfl (fun _ _ => rfl) ?_
      show yP (xg xs) (d + 1) 166 16 [(0, .ref 18), (1, .int l1)] [.int (l1 - (50 : Int32))] m Q
      exact y_iret rfl rfl rfl H
set_option maxRecDepth 20000 in
/-- CodeMaker.Scope.functionNamed from 17 on -/
theorem w166_17 (xs : List Int32) (d : Nat) (l1 : Int32) (m : yM) (Q : Option Value → yM → Prop) (H : (x_in l1 4172 = true ∧ (((m.1 30 l1.toNatClampNeg) = ((-1) : Int32) → Q (some (.int ((-1) : Int32))) m) ∧ (¬ (m.1 30 l1.toNatClampNeg) = ((-1) : Int32) → (yC (xg xs) d 116 [.ref 18] m (fun v1 m1 => ∃ u1, v1 = some (Value.int u1) ∧ ((u1 ≤ (m.1 30 l1.toNatClampNeg) → Q (some (.int ((-1) : Int32))) m1) ∧ (¬ u1 ≤ (m.1 30 l1.toNatClampNeg) → (x_in (m.1 30 l1.toNatClampNeg) 512 = true ∧ ((¬ (m1.1 24 ((m.1 30 l1.toNatClampNeg).toNatClampNeg)) = (1 : Int32) → Q (some (.int ((-1) : Int32))) m1) ∧ ((m1.1 24 ((m.1 30 l1.toNatClampNeg).toNatClampNeg)) = (1 : Int32) → Q (some (.int ((10 : Int32) + (m.1 30 l1.toNatClampNeg)))) m1))))))))))) : yP (xg xs) (d + 1) 166 17 [(0, .ref 18), (1, .int l1)] [] m Q := by
  refine y_st rfl rfl rfl rfl rfl (fun _ _ => rfl) ?_
  refine y_gf rfl rfl rfl rfl rfl ?_
  refine y_st rfl rfl rfl rfl rfl (fun _ _ => rfl) ?_
  show yP (xg xs) (d + 1) 166 22 [(0, .ref 18), (1, .int l1)] [.int l1, .ref 30] m Q
  refine y_iald rfl rfl rfl (H.1) ?_
  replace H := H.2
  refine y_st rfl rfl rfl rfl rfl (fun _ _ => rfl) ?_
  refine y_st rfl rfl rfl rfl rfl (fun _ _ => rfl) ?_
  refine y_st rfl rfl rfl rfl rfl (fun _ _ => rfl) ?_
  show yP (xg xs) (d + 1) 166 26 [(2, .int (m.1 30 l1.toNatClampNeg)), (0, .ref 18), (1, .int l1)] [.int ((-1) : Int32), .int (m.1 30 l1.toNatClampNeg)] m Q
  refine y_ieq (t := 54) rfl rfl rfl (fun h => ?_) (fun h => ?_)
  · replace H := H.1 h; clear h
    refine y_st rfl rfl rfl rfl rfl (fun _ _ => rfl) ?_
    show yP (xg xs) (d + 1) 166 55 [(2, .int (m.1 30 l1.toNatClampNeg)), (0, .ref 18), (1, .int l1)] [.int ((-1) : Int32)] m Q
    exact y_iret rfl rfl rfl H
  · replace H := H.2 h; clear h
    refine y_st rfl rfl rfl rfl rfl (fun _ _ => rfl) ?_
    refine y_st rfl rfl rfl rfl rfl (fun _ _ => rfl) ?_
    show yP (xg xs) (d + 1) 166 31 [(2, .int (m.1 30 l1.toNatClampNeg)), (0, .ref 18), (1, .int l1)] [.ref 18, .int (m.1 30 l1.toNatClampNeg)] m Q
    refine y_call rfl rfl rfl rfl rfl (Nat.le_of_ble_eq_true rfl) (Nat.le_of_ble_eq_true rfl) rfl (by decide) H (fun v1 m1 H => ?_)
    obtain ⟨u1, rfl, H⟩ := H
    show yP (xg xs) (d + 1) 166 34 [(2, .int (m.1 30 l1.toNatClampNeg)), (0, .ref 18), (1, .int l1)] [.int u1, .int (m.1 30 l1.toNatClampNeg)] m1 Q
    refine y_ige (t := 54) rfl rfl rfl (fun h => ?_) (fun h => ?_)
    · replace H := H.1 h; clear h
      refine y_st rfl rfl rfl rfl rfl (fun _ _ => rfl) ?_
      show yP (xg xs) (d + 1) 166 55 [(2, .int (m.1 30 l1.toNatClampNeg)), (0, .ref 18), (1, .int l1)] [.int ((-1) : Int32)] m1 Q
      exact y_iret rfl rfl rfl H
    · replace H := H.2 h; clear h
      refine y_st rfl rfl rfl rfl rfl (fun _ _ => rfl) ?_
      refine y_gf rfl rfl rfl rfl rfl ?_
      refine y_st rfl rfl rfl rfl rfl (fun _ _ => rfl) ?_
      show yP (xg xs) (d + 1) 166 42 [(2, .int (m.1 30 l1.toNatClampNeg)), (0, .ref 18), (1, .int l1)] [.int (m.1 30 l1.toNatClampNeg), .ref 24] m1 Q
      refine y_iald rfl rfl rfl (H.1) ?_
      replace H := H.2
      refine y_st rfl rfl rfl rfl rfl (fun _ _ => rfl) ?_
      show yP (xg xs) (d + 1) 166 44 [(2, .int (m.1 30 l1.toNatClampNeg)), (0, .ref 18), (1, .int l1)] [.int (1 : Int32), .int (m1.1 24 ((m.1 30 l1.toNatClampNeg).toNatClampNeg))] m1 Q
      refine y_ine (t := 54) rfl rfl rfl (fun h => ?_) (fun h => ?_)
      · replace H := H.1 h; clear h
        refine y_st rfl rfl rfl rfl rfl (fun _ _ => rfl) ?_
        show yP (xg xs) (d + 1) 166 55 [(2, .int (m.1 30 l1.toNatClampNeg)), (0, .ref 18), (1, .int l1)] [.int ((-1) : Int32)] m1 Q
        exact y_iret rfl rfl rfl H
      · replace H := H.2 h; clear h
        refine y_st rfl rfl rfl rfl rfl (fun _ _ => rfl) ?_
        refine y_st rfl rfl rfl rfl rfl (fun _ _ => rfl) ?_
        refine y_st rfl rfl rfl rfl rfl (fun _ _ => rfl) ?_
        refine y_st rfl rfl rfl rfl rfl (fun _ _ => rfl) ?_
        show yP (xg xs) (d + 1) 166 55 [(2, .int (m.1 30 l1.toNatClampNeg)), (0, .ref 18), (1, .int l1)] [.int ((10 : Int32) + (m.1 30 l1.toNatClampNeg))] m1 Q
        exact y_iret rfl rfl rfl H
set_option maxRecDepth 20000 in
/-- CodeMaker.Expressions.standardType from 0 on -/
theorem w167_0 (xs : List Int32) (d : Nat) (l1 : Int32) (l2 : Int32) (m : yM) (Q : Option Value → yM → Prop) (H : yP (xg xs) (d + 1) 167 10 [(0, .ref 34), (1, .int l1), (2, .int l2), (3, .int (1 : Int32)), (4, .int (0 : Int32)), (5, .int (l1 + (1 : Int32)))] [] m Q) : yP (xg xs) (d + 1) 167 0 [(0, .ref 34), (1, .int l1), (2, .int l2)] [] m Q := by
  refine y_st rfl rfl rfl rfl rfl (fun _ _ => rfl) ?_
  refine y_st rfl rfl rfl rfl rfl (fun _ _ => rfl) ?_
  refine y_st rfl rfl rfl rfl rfl (fun _ _ => rfl) ?_
  refine y_st rfl rfl rfl rfl rfl (fun _ _ => rfl) ?_
  refine y_st rfl rfl rfl rfl rfl (fun _ _ => rfl) ?_
  refine y_st rfl rfl rfl rfl rfl (fun _ _ => rfl) ?_
  refine y_st rfl rfl rfl rfl rfl (fun _ _ => rfl) ?_
  refine y_st rfl rfl rfl rfl rfl (fun _ _ => rfl) ?_
  show yP (xg xs) (d + 1) 167 10 [(5, .int (l1 + (1 : Int32))), (4, .int (0 : Int32)), (3, .int (1 : Int32)), (0, .ref 34), (1, .int l1), (2, .int l2)] [] m Q
  refine y_headS (l2 := [(0, .ref 34), (1, .int l1), (2, .int l2), (3, .int (1 : Int32)), (4, .int (0 : Int32)), (5, .int (l1 + (1 : Int32)))]) [3, 4, 5, 2, 1, 0] [0, 1, 2, 3, 4, 5] [5, 4, 3, 0, 1, 2] rfl rfl (by decide) rfl (by decide) ?_
  exact H
set_option maxRecDepth 20000 in
/-- CodeMaker.Expressions.standardType from 10 on -/
theorem w167_10 (xs : List Int32) (d : Nat) (l1 : Int32) (l2 : Int32) (l3 : Int32) (l4 : Int32) (l5 : Int32) (m : yM) (Q : Option Value → yM → Prop) (H : (x_in l1 16401 = true ∧ (((m.1 7 l1.toNatClampNeg) ≤ l5 → ((l2 = (4 : Int32) → (yC (xg xs) d 168 [.ref 34, .int l1] m (fun v1 m1 => ∃ u1, v1 = some (Value.int u1) ∧ Q (some (.int u1)) m1))) ∧ (l2 = (5 : Int32) → ((l3 = 0 → Q (some (.int ((-1) : Int32))) m) ∧ (¬ l3 = 0 → (x_in (l1 + (1 : Int32)) 16401 = true ∧ Q (some (.int (m.1 6 ((l1 + (1 : Int32)).toNatClampNeg)))) m)))) ∧ (l2 = (6 : Int32) → ((l3 = 0 → Q (some (.int ((-1) : Int32))) m) ∧ (¬ l3 = 0 → (x_in (l1 + (1 : Int32)) 16401 = true ∧ Q (some (.int (m.1 6 ((l1 + (1 : Int32)).toNatClampNeg)))) m)))) ∧ (l2 = (7 : Int32) → Q (some (.int (1 : Int32))) m) ∧ (l2 = (8 : Int32) → Q (some (.int (2 : Int32))) m) ∧ (l2 = (9 : Int32) → ((l3 = 0 → Q (some (.int ((-1) : Int32))) m) ∧ (¬ l3 = 0 → Q (some (.int (0 : Int32))) m))) ∧ (¬ l2 = (4 : Int32) → ¬ l2 = (5 : Int32) → ¬ l2 = (6 : Int32) → ¬ l2 = (7 : Int32) → ¬ l2 = (8 : Int32) → ¬ l2 = (9 : Int32) → ((l3 = 0 → Q (some (.int ((-1) : Int32))) m) ∧ (¬ l3 = 0 → Q (some (.int l4)) m))))) ∧ (¬ (m.1 7 l1.toNatClampNeg) ≤ l5 → (x_in l5 16401 = true ∧ (((m.1 6 l5.toNatClampNeg) = 0 → yP (xg xs) (d + 1) 167 43 [(0, .ref 34), (1, .int l1), (2, .int l2), (4, .int l4), (5, .int l5)] [.int (0 : Int32), .int l3] m Q) ∧ (¬ (m.1 6 l5.toNatClampNeg) = 0 → yP (xg xs) (d + 1) 167 43 [(0, .ref 34), (1, .int l1), (2, .int l2), (4, .int l4), (5, .int l5)] [.int (1 : Int32), .int l3] m Q))))))) : yP (xg xs) (d + 1) 167 10 [(0, .ref 34), (1, .int l1), (2, .int l2), (3, .int l3), (4, .int l4), (5, .int l5)] [] m Q := by
  refine y_st rfl rfl rfl rfl rfl (fun _ _ => rfl) ?_
  refine y_st rfl rfl rfl rfl rfl (fun _ _ => rfl) ?_
  refine y_gf rfl rfl rfl rfl rfl ?_
  refine y_gf rfl rfl rfl rfl rfl ?_
  refine y_st rfl rfl rfl rfl rfl (fun _ _ => rfl) ?_
  show yP (xg xs) (d + 1) 167 20 [(0, .ref 34), (1, .int l1), (2, .int l2), (3, .int l3), (4, .int l4), (5, .int l5)] [.int l1, .ref 7, .int l5] m Q
  refine y_iald rfl rfl rfl (H.1) ?_
  replace H := H.2
  show yP (xg xs) (d + 1) 167 21 [(0, .ref 34), (1, .int l1), (2, .int l2), (3, .int l3), (4, .int l4), (5, .int l5)] [.int (m.1 7 l1.toNatClampNeg), .int l5] m Q
  refine y_ige (t := 77) rfl rfl rfl (fun h => ?_) (fun h => ?_)
  · replace H := H.1 h; clear h
    refine y_st rfl rfl rfl rfl rfl (fun _ _ => rfl) ?_
    show yP (xg xs) (d + 1) 167 78 [(0, .ref 34), (1, .int l1), (2, .int l2), (3, .int l3), (4, .int l4), (5, .int l5)] [.int l2] m Q
    by_cases h4 : l2 = (4 : Int32)
    · replace H := H.1 h4
      refine y_tsw (t := 130) rfl rfl (by rw [h4]; rfl) ?_
      clear h4
      refine y_st rfl rfl rfl rfl rfl (fun _ _ => rfl) ?_
      refine y_st rfl rfl rfl rfl rfl (fun _ _ => rfl) ?_
      show yP (xg xs) (d + 1) 167 132 [(0, .ref 34), (1, .int l1), (2, .int l2), (3, .int l3), (4, .int l4), (5, .int l5)] [.int l1, .ref 34] m Q
      refine y_call rfl rfl rfl rfl rfl (Nat.le_of_ble_eq_true rfl) (Nat.le_of_ble_eq_true rfl) rfl (by decide) H (fun v1 m1 H => ?_)
      obtain ⟨u1, rfl, H⟩ := H
      show yP (xg xs) (d + 1) 167 135 [(0, .ref 34), (1, .int l1), (2, .int l2), (3, .int l3), (4, .int l4), (5, .int l5)] [.int u1] m1 Q
      exact y_iret rfl rfl rfl H
    replace H := H.2
    by_cases h5 : l2 = (5 : Int32)
    · replace H := H.1 h5
      refine y_tsw (t := 136) rfl rfl (by rw [h5]; rfl) ?_
      clear h5 h4
      refine y_st rfl rfl rfl rfl rfl (fun _ _ => rfl) ?_
      show yP (xg xs) (d + 1) 167 137 [(0, .ref 34), (1, .int l1), (2, .int l2), (3, .int l3), (4, .int l4), (5, .int l5)] [.int l3] m Q
      refine y_zeq (t := 154) rfl rfl rfl (fun h => ?_) (fun h => ?_)
      · replace H := H.1 h; clear h
        refine y_st rfl rfl rfl rfl rfl (fun _ _ => rfl) ?_
        show yP (xg xs) (d + 1) 167 155 [(0, .ref 34), (1, .int l1), (2, .int l2), (3, .int l3), (4, .int l4), (5, .int l5)] [.int ((-1) : Int32)] m Q
        exact y_iret rfl rfl rfl H
      · replace H := H.2 h; clear h
        refine y_st rfl rfl rfl rfl rfl (fun _ _ => rfl) ?_
        refine y_gf rfl rfl rfl rfl rfl ?_
        refine y_gf rfl rfl rfl rfl rfl ?_
        refine y_st rfl rfl rfl rfl rfl (fun _ _ => rfl) ?_
        refine y_st rfl rfl rfl rfl rfl (fun _ _ => rfl) ?_
        refine y_st rfl rfl rfl rfl rfl (fun _ _ => rfl) ?_
        show yP (xg xs) (d + 1) 167 150 [(0, .ref 34), (1, .int l1), (2, .int l2), (3, .int l3), (4, .int l4), (5, .int l5)] [.int (l1 + (1 : Int32)), .ref 6] m Q
        refine y_iald rfl rfl rfl (H.1) ?_
        replace H := H.2
        refine y_st rfl rfl rfl rfl rfl (fun _ _ => rfl) ?_
        show yP (xg xs) (d + 1) 167 155 [(0, .ref 34), (1, .int l1), (2, .int l2), (3, .int l3), (4, .int l4), (5, .int l5)] [.int (m.1 6 ((l1 + (1 : Int32)).toNatClampNeg))] m Q
        exact y_iret rfl rfl rfl H
    replace H := H.2
    by_cases h6 : l2 = (6 : Int32)
    · replace H := H.1 h6
      refine y_tsw (t := 136) rfl rfl (by rw [h6]; rfl) ?_
      clear h6 h5 h4
      refine y_st rfl rfl rfl rfl rfl (fun _ _ => rfl) ?_
      show yP (xg xs) (d + 1) 167 137 [(0, .ref 34), (1, .int l1), (2, .int l2), (3, .int l3), (4, .int l4), (5, .int l5)] [.int l3] m Q
      refine y_zeq (t := 154) rfl rfl rfl (fun h => ?_) (fun h => ?_)
      · replace H := H.1 h; clear h
        refine y_st rfl rfl rfl rfl rfl (fun _ _ => rfl) ?_
        show yP (xg xs) (d + 1) 167 155 [(0, .ref 34), (1, .int l1), (2, .int l2), (3, .int l3), (4, .int l4), (5, .int l5)] [.int ((-1) : Int32)] m Q
        exact y_iret rfl rfl rfl H
      · replace H := H.2 h; clear h
        refine y_st rfl rfl rfl rfl rfl (fun _ _ => rfl) ?_
        refine y_gf rfl rfl rfl rfl rfl ?_
        refine y_gf rfl rfl rfl rfl rfl ?_
        refine y_st rfl rfl rfl rfl rfl (fun _ _ => rfl) ?_
        refine y_st rfl rfl rfl rfl rfl (fun _ _ => rfl) ?_
        refine y_st rfl rfl rfl rfl rfl (fun _ _ => rfl) ?_
        show yP (xg xs) (d + 1) 167 150 [(0, .ref 34), (1, .int l1), (2, .int l2), (3, .int l3), (4, .int l4), (5, .int l5)] [.int (l1 + (1 : Int32)), .ref 6] m Q
        refine y_iald rfl rfl rfl (H.1) ?_
        replace H := H.2
        refine y_st rfl rfl rfl rfl rfl (fun _ _ => rfl) ?_
        show yP (xg xs) (d + 1) 167 155 [(0, .ref 34), (1, .int l1), (2, .int l2), (3, .int l3), (4, .int l4), (5, .int l5)] [.int (m.1 6 ((l1 + (1 : Int32)).toNatClampNeg))] m Q
        exact y_iret rfl rfl rfl H
    replace H := H.2
    by_cases h7 : l2 = (7 : Int32)
    · replace H := H.1 h7
      refine y_tsw (t := 116) rfl rfl (by rw [h7]; rfl) ?_
      clear h7 h6 h5 h4
      refine y_st rfl rfl rfl rfl rfl (fun _ _ => rfl) ?_
      show yP (xg xs) (d + 1) 167 117 [(0, .ref 34), (1, .int l1), (2, .int l2), (3, .int l3), (4, .int l4), (5, .int l5)] [.int (1 : Int32)] m Q
      exact y_iret rfl rfl rfl H
    replace H := H.2
    by_cases h8 : l2 = (8 : Int32)
    · replace H := H.1 h8
      refine y_tsw (t := 118) rfl rfl (by rw [h8]; rfl) ?_
      clear h8 h7 h6 h5 h4
      refine y_st rfl rfl rfl rfl rfl (fun _ _ => rfl) ?_
      show yP (xg xs) (d + 1) 167 119 [(0, .ref 34), (1, .int l1), (2, .int l2), (3, .int l3), (4, .int l4), (5, .int l5)] [.int (2 : Int32)] m Q
      exact y_iret rfl rfl rfl H
    replace H := H.2
    by_cases h9 : l2 = (9 : Int32)
    · replace H := H.1 h9
      refine y_tsw (t := 120) rfl rfl (by rw [h9]; rfl) ?_
      clear h9 h8 h7 h6 h5 h4
      refine y_st rfl rfl rfl rfl rfl (fun _ _ => rfl) ?_
      show yP (xg xs) (d + 1) 167 121 [(0, .ref 34), (1, .int l1), (2, .int l2), (3, .int l3), (4, .int l4), (5, .int l5)] [.int l3] m Q
      refine y_zeq (t := 128) rfl rfl rfl (fun h => ?_) (fun h => ?_)
      · replace H := H.1 h; clear h
        refine y_st rfl rfl rfl rfl rfl (fun _ _ => rfl) ?_
        show yP (xg xs) (d + 1) 167 129 [(0, .ref 34), (1, .int l1), (2, .int l2), (3, .int l3), (4, .int l4), (5, .int l5)] [.int ((-1) : Int32)] m Q
        exact y_iret rfl rfl rfl H
      · replace H := H.2 h; clear h
        refine y_st rfl rfl rfl rfl rfl (fun _ _ => rfl) ?_
        refine y_st rfl rfl rfl rfl rfl (fun _ _ => rfl) ?_
        show yP (xg xs) (d + 1) 167 129 [(0, .ref 34), (1, .int l1), (2, .int l2), (3, .int l3), (4, .int l4), (5, .int l5)] [.int (0 : Int32)] m Q
        exact y_iret rfl rfl rfl H
    replace H := H.2
    refine y_tsw (t := 156) rfl rfl ((if_pos (by have g0 := ne_lit (4 : Int32) 4 rfl h4; have g1 := ne_lit (5 : Int32) 5 rfl h5; have g2 := ne_lit (6 : Int32) 6 rfl h6; have g3 := ne_lit (7 : Int32) 7 rfl h7; have g4 := ne_lit (8 : Int32) 8 rfl h8; have g5 := ne_lit (9 : Int32) 9 rfl h9; omega)).trans rfl) ?_
    replace H := H h4 h5 h6 h7 h8 h9
    clear h9 h8 h7 h6 h5 h4
    refine y_st rfl rfl rfl rfl rfl (fun _ _ => rfl) ?_
    show yP (xg xs) (d + 1) 167 157 [(0, .ref 34), (1, .int l1), (2, .int l2), (3, .int l3), (4, .int l4), (5, .int l5)] [.int l3] m Q
    refine y_zeq (t := 165) rfl rfl rfl (fun h => ?_) (fun h => ?_)
    · replace H := H.1 h; clear h
      refine y_st rfl rfl rfl rfl rfl (fun _ _ => rfl) ?_
      show yP (xg xs) (d + 1) 167 166 [(0, .ref 34), (1, .int l1), (2, .int l2), (3, .int l3), (4, .int l4), (5, .int l5)] [.int ((-1) : Int32)] m Q
      exact y_iret rfl rfl rfl H
    · replace H := H.2 h; clear h
      refine y_st rfl rfl rfl rfl rfl (fun _ _ => rfl) ?_
      refine y_st rfl rfl rfl rfl rfl (fun _ _ => rfl) ?_
      show yP (xg xs) (d + 1) 167 166 [(0, .ref 34), (1, .int l1), (2, .int l2), (3, .int l3), (4, .int l4), (5, .int l5)] [.int l4] m Q
      exact y_iret rfl rfl rfl H
  · replace H := H.2 h; clear h
    refine y_st rfl rfl rfl rfl rfl (fun _ _ => rfl) ?_
    refine y_st rfl rfl rfl rfl rfl (fun _ _ => rfl) ?_
    refine y_gf rfl rfl rfl rfl rfl ?_
    refine y_gf rfl rfl rfl rfl rfl ?_
    refine y_st rfl rfl rfl rfl rfl (fun _ _ => rfl) ?_
    show yP (xg xs) (d + 1) 167 34 [(0, .ref 34), (1, .int l1), (2, .int l2), (3, .int l3), (4, .int l4), (5, .int l5)] [.int l5, .ref 6, .int l3] m Q
    refine y_iald rfl rfl rfl (H.1) ?_
    replace H := H.2
    show yP (xg xs) (d + 1) 167 35 [(0, .ref 34), (1, .int l1), (2, .int l2), (3, .int l3), (4, .int l4), (5, .int l5)] [.int (m.1 6 l5.toNatClampNeg), .int l3] m Q
    refine y_zeq (t := 42) rfl rfl rfl (fun h => ?_) (fun h => ?_)
    · replace H := H.1 h; clear h
      refine y_st rfl rfl rfl rfl rfl (fun _ _ => rfl) ?_
      show yP (xg xs) (d + 1) 167 43 [(0, .ref 34), (1, .int l1), (2, .int l2), (3, .int l3), (4, .int l4), (5, .int l5)] [.int (0 : Int32), .int l3] m Q
      refine y_headS (l2 := [(0, .ref 34), (1, .int l1), (2, .int l2), (4, .int l4), (5, .int l5)]) [0, 1, 2, 4, 5] [0, 1, 2, 4, 5] [0, 1, 2, 3, 4, 5] rfl rfl (by decide) rfl (by decide) ?_
      exact H
    · replace H := H.2 h; clear h
      refine y_st rfl rfl rfl rfl rfl (fun _ _ => rfl) ?_
      refine y_st rfl rfl rfl rfl rfl (fun _ _ => rfl) ?_
      show yP (xg xs) (d + 1) 167 43 [(0, .ref 34), (1, .int l1), (2, .int l2), (3, .int l3), (4, .int l4), (5, .int l5)] [.int (1 : Int32), .int l3] m Q
      refine y_headS (l2 := [(0, .ref 34), (1, .int l1), (2, .int l2), (4, .int l4), (5, .int l5)]) [0, 1, 2, 4, 5] [0, 1, 2, 4, 5] [0, 1, 2, 3, 4, 5] rfl rfl (by decide) rfl (by decide) ?_
      exact H
set_option maxRecDepth 20000 in
/-- CodeMaker.Expressions.standardType from 43 on -/
theorem w167_43 (xs : List Int32) (d : Nat) (l1 : Int32) (l2 : Int32) (l4 : Int32) (l5 : Int32) (s0 : Int32) (s1 : Int32) (m : yM) (Q : Option Value → yM → Prop) (H : (x_in l5 16401 = true ∧ (x_in l5 16401 = true ∧ yP (xg xs) (d + 1) 167 10 [(0, .ref 34), (1, .int l1), (2, .int l2), (3, .int (s0 &&& s1)), (4, .int (if l4 < (m.1 6 l5.toNatClampNeg) then (m.1 6 l5.toNatClampNeg) else l4)), (5, .int (m.1 7 l5.toNatClampNeg))] [] m Q))) : yP (xg xs) (d + 1) 167 43 [(0, .ref 34), (1, .int l1), (2, .int l2), (4, .int l4), (5, .int l5)] [.int s1, .int s0] m Q := by
  refine y_st rfl rfl rfl rfl rfl (fun _ _ => rfl) ?_
  refine y_st rfl rfl rfl rfl rfl (fun _ _ => rfl) ?_
  refine y_st rfl rfl rfl rfl rfl (fun _ _ => rfl) ?_
  refine y_st rfl rfl rfl rfl rfl (fun _ _ => rfl) ?_
  refine y_gf rfl rfl rfl rfl rfl ?_
  refine y_gf rfl rfl rfl rfl rfl ?_
  refine y_st rfl rfl rfl rfl rfl (fun _ _ => rfl) ?_
  show yP (xg xs) (d + 1) 167 56 [(3, .int (s0 &&& s1)), (0, .ref 34), (1, .int l1), (2, .int l2), (4, .int l4), (5, .int l5)] [.int l5, .ref 6, .int l4] m Q
  refine y_iald rfl rfl rfl (H.1) ?_
  replace H := H.2
  refine y_mi rfl rfl rfl rfl rfl (Nat.le_of_ble_eq_true rfl) (by omega) ?_
  refine y_st rfl rfl rfl rfl rfl (fun _ _ => rfl) ?_
  refine y_st rfl rfl rfl rfl rfl (fun _ _ => rfl) ?_
  refine y_gf rfl rfl rfl rfl rfl ?_
  refine y_gf rfl rfl rfl rfl rfl ?_
  refine y_st rfl rfl rfl rfl rfl (fun _ _ => rfl) ?_
  show yP (xg xs) (d + 1) 167 71 [(4, .int (if l4 < (m.1 6 l5.toNatClampNeg) then (m.1 6 l5.toNatClampNeg) else l4)), (3, .int (s0 &&& s1)), (0, .ref 34), (1, .int l1), (2, .int l2), (5, .int l5)] [.int l5, .ref 7] m Q
  refine y_iald rfl rfl rfl (H.1) ?_
  replace H := H.2
  refine y_st rfl rfl rfl rfl rfl (fun _ _ => rfl) ?_
  refine y_st rfl rfl rfl rfl rfl (fun _ _ => rfl) ?_
  show yP (xg xs) (d + 1) 167 10 [(5, .int (m.1 7 l5.toNatClampNeg)), (4, .int (if l4 < (m.1 6 l5.toNatClampNeg) then (m.1 6 l5.toNatClampNeg) else l4)), (3, .int (s0 &&& s1)), (0, .ref 34), (1, .int l1), (2, .int l2)] [] m Q
  refine y_headS (l2 := [(0, .ref 34), (1, .int l1), (2, .int l2), (3, .int (s0 &&& s1)), (4, .int (if l4 < (m.1 6 l5.toNatClampNeg) then (m.1 6 l5.toNatClampNeg) else l4)), (5, .int (m.1 7 l5.toNatClampNeg))]) [3, 4, 5, 2, 1, 0] [0, 1, 2, 3, 4, 5] [5, 4, 3, 0, 1, 2] rfl rfl (by decide) rfl (by decide) ?_
  exact H
set_option maxRecDepth 20000 in
/-- CodeMaker.Expressions.chosenType from 0 on -/
theorem w168_0 (xs : List Int32) (d : Nat) (l1 : Int32) (m : yM) (Q : Option Value → yM → Prop) (H : (x_in (l1 + (1 : Int32)) 16401 = true ∧ (x_in (m.1 7 ((l1 + (1 : Int32)).toNatClampNeg)) 16401 = true ∧ (x_in (l1 + (1 : Int32)) 16401 = true ∧ ((¬ (m.1 6 ((l1 + (1 : Int32)).toNatClampNeg)) = 0 → Q (some (.int ((-1) : Int32))) m) ∧ ((m.1 6 ((l1 + (1 : Int32)).toNatClampNeg)) = 0 → (x_in (m.1 7 ((l1 + (1 : Int32)).toNatClampNeg)) 16401 = true ∧ (x_in (m.1 7 ((m.1 7 ((l1 + (1 : Int32)).toNatClampNeg)).toNatClampNeg)) 16401 = true ∧ (yC (xg xs) d 169 [.int (m.1 6 ((m.1 7 ((l1 + (1 : Int32)).toNatClampNeg)).toNatClampNeg)), .int (m.1 6 ((m.1 7 ((m.1 7 ((l1 + (1 : Int32)).toNatClampNeg)).toNatClampNeg)).toNatClampNeg))] m (fun v1 m1 => ∃ u1, v1 = some (Value.int u1) ∧ Q (some (.int u1)) m1)))))))))) : yP (xg xs) (d + 1) 168 0 [(0, .ref 34), (1, .int l1)] [] m Q := by
  refine y_st rfl rfl rfl rfl rfl (fun _ _ => rfl) ?_
  refine y_gf rfl rfl rfl rfl rfl ?_
  refine y_gf rfl rfl rfl rfl rfl ?_
  refine y_st rfl rfl rfl rfl rfl (fun _ _ => rfl) ?_
  refine y_st rfl rfl rfl rfl rfl (fun _ _ => rfl) ?_
  refine y_st rfl rfl rfl rfl rfl (fun _ _ => rfl) ?_
  show yP (xg xs) (d + 1) 168 10 [(0, .ref 34), (1, .int l1)] [.int (l1 + (1 : Int32)), .ref 7] m Q
  refine y_iald rfl rfl rfl (H.1) ?_
  replace H := H.2
  refine y_st rfl rfl rfl rfl rfl (fun _ _ => rfl) ?_
  refine y_st rfl rfl rfl rfl rfl (fun _ _ => rfl) ?_
  refine y_gf rfl rfl rfl rfl rfl ?_
  refine y_gf rfl rfl rfl rfl rfl ?_
  refine y_st rfl rfl rfl rfl rfl (fun _ _ => rfl) ?_
  show yP (xg xs) (d + 1) 168 20 [(2, .int (m.1 7 ((l1 + (1 : Int32)).toNatClampNeg))), (0, .ref 34), (1, .int l1)] [.int (m.1 7 ((l1 + (1 : Int32)).toNatClampNeg)), .ref 7] m Q
  refine y_iald rfl rfl rfl (H.1) ?_
  replace H := H.2
  refine y_st rfl rfl rfl rfl rfl (fun _ _ => rfl) ?_
  refine y_st rfl rfl rfl rfl rfl (fun _ _ => rfl) ?_
  refine y_gf rfl rfl rfl rfl rfl ?_
  refine y_gf rfl rfl rfl rfl rfl ?_
  refine y_st rfl rfl rfl rfl rfl (fun _ _ => rfl) ?_
  refine y_st rfl rfl rfl rfl rfl (fun _ _ => rfl) ?_
  refine y_st rfl rfl rfl rfl rfl (fun _ _ => rfl) ?_
  show yP (xg xs) (d + 1) 168 32 [(3, .int (m.1 7 ((m.1 7 ((l1 + (1 : Int32)).toNatClampNeg)).toNatClampNeg))), (2, .int (m.1 7 ((l1 + (1 : Int32)).toNatClampNeg))), (0, .ref 34), (1, .int l1)] [.int (l1 + (1 : Int32)), .ref 6] m Q
  refine y_iald rfl rfl rfl (H.1) ?_
  replace H := H.2
  show yP (xg xs) (d + 1) 168 33 [(3, .int (m.1 7 ((m.1 7 ((l1 + (1 : Int32)).toNatClampNeg)).toNatClampNeg))), (2, .int (m.1 7 ((l1 + (1 : Int32)).toNatClampNeg))), (0, .ref 34), (1, .int l1)] [.int (m.1 6 ((l1 + (1 : Int32)).toNatClampNeg))] m Q
  refine y_zne (t := 60) rfl rfl rfl (fun h => ?_) (fun h => ?_)
  · replace H := H.1 h; clear h
    refine y_st rfl rfl rfl rfl rfl (fun _ _ => rfl) ?_
    show yP (xg xs) (d + 1) 168 61 [(3, .int (m.1 7 ((m.1 7 ((l1 + (1 : Int32)).toNatClampNeg)).toNatClampNeg))), (2, .int (m.1 7 ((l1 + (1 : Int32)).toNatClampNeg))), (0, .ref 34), (1, .int l1)] [.int ((-1) : Int32)] m Q
    exact y_iret rfl rfl rfl H
  · replace H := H.2 h; clear h
    refine y_st rfl rfl rfl rfl rfl (fun _ _ => rfl) ?_
    refine y_gf rfl rfl rfl rfl rfl ?_
    refine y_gf rfl rfl rfl rfl rfl ?_
    refine y_st rfl rfl rfl rfl rfl (fun _ _ => rfl) ?_
    show yP (xg xs) (d + 1) 168 44 [(3, .int (m.1 7 ((m.1 7 ((l1 + (1 : Int32)).toNatClampNeg)).toNatClampNeg))), (2, .int (m.1 7 ((l1 + (1 : Int32)).toNatClampNeg))), (0, .ref 34), (1, .int l1)] [.int (m.1 7 ((l1 + (1 : Int32)).toNatClampNeg)), .ref 6] m Q
    refine y_iald rfl rfl rfl (H.1) ?_
    replace H := H.2
    refine y_st rfl rfl rfl rfl rfl (fun _ _ => rfl) ?_
    refine y_gf rfl rfl rfl rfl rfl ?_
    refine y_gf rfl rfl rfl rfl rfl ?_
    refine y_st rfl rfl rfl rfl rfl (fun _ _ => rfl) ?_
    show yP (xg xs) (d + 1) 168 53 [(3, .int (m.1 7 ((m.1 7 ((l1 + (1 : Int32)).toNatClampNeg)).toNatClampNeg))), (2, .int (m.1 7 ((l1 + (1 : Int32)).toNatClampNeg))), (0, .ref 34), (1, .int l1)] [.int (m.1 7 ((m.1 7 ((l1 + (1 : Int32)).toNatClampNeg)).toNatClampNeg)), .ref 6, .int (m.1 6 ((m.1 7 ((l1 + (1 : Int32)).toNatClampNeg)).toNatClampNeg))] m Q
    refine y_iald rfl rfl rfl (H.1) ?_
    replace H := H.2
    show yP (xg xs) (d + 1) 168 54 [(3, .int (m.1 7 ((m.1 7 ((l1 + (1 : Int32)).toNatClampNeg)).toNatClampNeg))), (2, .int (m.1 7 ((l1 + (1 : Int32)).toNatClampNeg))), (0, .ref 34), (1, .int l1)] [.int (m.1 6 ((m.1 7 ((m.1 7 ((l1 + (1 : Int32)).toNatClampNeg)).toNatClampNeg)).toNatClampNeg)), .int (m.1 6 ((m.1 7 ((l1 + (1 : Int32)).toNatClampNeg)).toNatClampNeg))] m Q
    refine y_call rfl rfl rfl rfl rfl (Nat.le_of_ble_eq_true rfl) (Nat.le_of_ble_eq_true rfl) rfl (by decide) H (fun v1 m1 H => ?_)
    obtain ⟨u1, rfl, H⟩ := H
    refine y_st rfl rfl rfl rfl rfl (fun _ _ => rfl) ?_
    show yP (xg xs) (d + 1) 168 61 [(3, .int (m.1 7 ((m.1 7 ((l1 + (1 : Int32)).toNatClampNeg)).toNatClampNeg))), (2, .int (m.1 7 ((l1 + (1 : Int32)).toNatClampNeg))), (0, .ref 34), (1, .int l1)] [.int u1] m1 Q
    exact y_iret rfl rfl rfl H
set_option maxRecDepth 20000 in
/-- CodeMaker.Expressions.commonType from 0 on -/
theorem w169_0 (xs : List Int32) (d : Nat) (l0 : Int32) (l1 : Int32) (m : yM) (Q : Option Value → yM → Prop) (H : ((¬ l0 = 0 → yP (xg xs) (d + 1) 169 9 [(0, .int l0), (1, .int l1)] [.int (0 : Int32)] m Q) ∧ (l0 = 0 → yP (xg xs) (d + 1) 169 9 [(0, .int l0), (1, .int l1)] [.int (1 : Int32)] m Q))) : yP (xg xs) (d + 1) 169 0 [(0, .int l0), (1, .int l1)] [] m Q := by
  refine y_st rfl rfl rfl rfl rfl (fun _ _ => rfl) ?_
  show yP (xg xs) (d + 1) 169 1 [(0, .int l0), (1, .int l1)] [.int l0] m Q
  refine y_zne (t := 8) rfl rfl rfl (fun h => ?_) (fun h => ?_)
  · replace H := H.1 h; clear h
    refine y_st rfl rfl rfl rfl rfl (fun _ _ => rfl) ?_
    show yP (xg xs) (d + 1) 169 9 [(0, .int l0), (1, .int l1)] [.int (0 : Int32)] m Q
    exact H
  · replace H := H.2 h; clear h
    refine y_st rfl rfl rfl rfl rfl (fun _ _ => rfl) ?_
    refine y_st rfl rfl rfl rfl rfl (fun _ _ => rfl) ?_
    show yP (xg xs) (d + 1) 169 9 [(0, .int l0), (1, .int l1)] [.int (1 : Int32)] m Q
    exact H
set_option maxRecDepth 20000 in
/-- CodeMaker.Expressions.commonType from 9 on -/
theorem w169_9 (xs : List Int32) (d : Nat) (l0 : Int32) (l1 : Int32) (s0 : Int32) (m : yM) (Q : Option Value → yM → Prop) (H : ((¬ l1 = 0 → yP (xg xs) (d + 1) 169 18 [(0, .int l0), (1, .int l1)] [.int (0 : Int32), .int s0] m Q) ∧ (l1 = 0 → yP (xg xs) (d + 1) 169 18 [(0, .int l0), (1, .int l1)] [.int (1 : Int32), .int s0] m Q))) : yP (xg xs) (d + 1) 169 9 [(0, .int l0), (1, .int l1)] [.int s0] m Q := by
  refine y_st rfl rfl rfl rfl rfl (fun _ _ => rfl) ?_
  show yP (xg xs) (d + 1) 169 10 [(0, .int l0), (1, .int l1)] [.int l1, .int s0] m Q
  refine y_zne (t := 17) rfl rfl rfl (fun h => ?_) (fun h => ?_)
  · replace H := H.1 h; clear h
    refine y_st rfl rfl rfl rfl rfl (fun _ _ => rfl) ?_
    show yP (xg xs) (d + 1) 169 18 [(0, .int l0), (1, .int l1)] [.int (0 : Int32), .int s0] m Q
    exact H
  · replace H := H.2 h; clear h
    refine y_st rfl rfl rfl rfl rfl (fun _ _ => rfl) ?_
    refine y_st rfl rfl rfl rfl rfl (fun _ _ => rfl) ?_
    show yP (xg xs) (d + 1) 169 18 [(0, .int l0), (1, .int l1)] [.int (1 : Int32), .int s0] m Q
    exact H
set_option maxRecDepth 20000 in
/-- CodeMaker.Expressions.commonType from 18 on -/
theorem w169_18 (xs : List Int32) (d : Nat) (l0 : Int32) (l1 : Int32) (s0 : Int32) (s1 : Int32) (m : yM) (Q : Option Value → yM → Prop) (H : ((¬ s0 = s1 → Q (some (.int ((-1) : Int32))) m) ∧ (s0 = s1 → Q (some (.int (if l0 < l1 then l1 else l0))) m))) : yP (xg xs) (d + 1) 169 18 [(0, .int l0), (1, .int l1)] [.int s1, .int s0] m Q := by
  show yP (xg xs) (d + 1) 169 18 [(0, .int l0), (1, .int l1)] [.int s1, .int s0] m Q
  refine y_ine (t := 29) rfl rfl rfl (fun h => ?_) (fun h => ?_)
  · replace H := H.1 h; clear h
    refine y_st rfl rfl rfl rfl rfl (fun _ _ => rfl) ?_
    show yP (xg xs) (d + 1) 169 30 [(0, .int l0), (1, .int l1)] [.int ((-1) : Int32)] m Q
    exact y_iret rfl rfl rfl H
  · replace H := H.2 h; clear h
    refine y_st rfl rfl rfl rfl rfl (fun _ _ => rfl) ?_
    refine y_st rfl rfl rfl rfl rfl (fun _ _ => rfl) ?_
    refine y_mi rfl rfl rfl rfl rfl (Nat.le_of_ble_eq_true rfl) (by omega) ?_
    refine y_st rfl rfl rfl rfl rfl (fun _ _ => rfl) ?_
    show yP (xg xs) (d + 1) 169 30 [(0, .int l0), (1, .int l1)] [.int (if l0 < l1 then l1 else l0)] m Q
    exact y_iret rfl rfl rfl H
set_option maxRecDepth 20000 in
/-- CodeMaker.Expressions.ownType from 0 on -/
theorem w170_0 (xs : List Int32) (d : Nat) (l1 : Int32) (l2 : Int32) (m : yM) (Q : Option Value → yM → Prop) (H : (yC (xg xs) d 119 [.ref 18, .int l2] m (fun v1 m1 => ∃ u1, v1 = some (Value.int u1) ∧ yP (xg xs) (d + 1) 170 14 [(0, .ref 34), (2, .int l2), (3, .int (l1 + (1 : Int32))), (4, .int u1)] [] m1 Q))) : yP (xg xs) (d + 1) 170 0 [(0, .ref 34), (1, .int l1), (2, .int l2)] [] m Q := by
  refine y_st rfl rfl rfl rfl rfl (fun _ _ => rfl) ?_
  refine y_st rfl rfl rfl rfl rfl (fun _ _ => rfl) ?_
  refine y_st rfl rfl rfl rfl rfl (fun _ _ => rfl) ?_
  refine y_st rfl rfl rfl rfl rfl (fun _ _ => rfl) ?_
  refine y_st rfl rfl rfl rfl rfl (fun _ _ => rfl) ?_
  refine y_gf rfl rfl rfl rfl rfl ?_
  refine y_st rfl rfl rfl rfl rfl (fun _ _ => rfl) ?_
  show yP (xg xs) (d + 1) 170 9 [(3, .int (l1 + (1 : Int32))), (0, .ref 34), (1, .int l1), (2, .int l2)] [.int l2, .ref 18] m Q
  refine y_call rfl rfl rfl rfl rfl (Nat.le_of_ble_eq_true rfl) (Nat.le_of_ble_eq_true rfl) rfl (by decide) H (fun v1 m1 H => ?_)
  obtain ⟨u1, rfl, H⟩ := H
  refine y_st rfl rfl rfl rfl rfl (fun _ _ => rfl) ?_
  show yP (xg xs) (d + 1) 170 14 [(4, .int u1), (3, .int (l1 + (1 : Int32))), (0, .ref 34), (1, .int l1), (2, .int l2)] [] m1 Q
  refine y_headS (l2 := [(0, .ref 34), (2, .int l2), (3, .int (l1 + (1 : Int32))), (4, .int u1)]) [2, 4, 1, 0] [0, 2, 3, 4] [4, 3, 0, 1, 2] rfl rfl (by decide) rfl (by decide) ?_
  exact H
set_option maxRecDepth 20000 in
/-- CodeMaker.Expressions.ownType from 14 on -/
theorem w170_14 (xs : List Int32) (d : Nat) (l2 : Int32) (l3 : Int32) (l4 : Int32) (m : yM) (Q : Option Value → yM → Prop) (H : (yC (xg xs) d 120 [.ref 18, .int l2] m (fun v1 m1 => ∃ u1, v1 = some (Value.int u1) ∧ ((u1 ≤ l4 → (yC (xg xs) d 119 [.ref 18, .int l2] m1 (fun v2 m2 => ∃ u2, v2 = some (Value.int u2) ∧ (yC (xg xs) d 136 [.ref 18, .int u2] m2 (fun v3 m3 => ∃ u3, v3 = some (Value.int u3) ∧ Q (some (.int u3)) m3))))) ∧ (¬ u1 ≤ l4 → (x_in l4 4097 = true ∧ ((¬ (m1.1 22 l4.toNatClampNeg) = (1 : Int32) → yP (xg xs) (d + 1) 170 77 [(0, .ref 34), (2, .int l2), (3, .int l3), (4, .int l4)] [] m1 Q) ∧ ((m1.1 22 l4.toNatClampNeg) = (1 : Int32) → (x_in l3 16401 = true ∧ (yC (xg xs) d 136 [.ref 18, .int l4] m1 (fun v4 m4 => ∃ u4, v4 = some (Value.int u4) ∧ (yC (xg xs) d 150 [.int (m1.1 6 l3.toNatClampNeg), .int u4] m4 (fun v5 m5 => ∃ u5, v5 = some (Value.int u5) ∧ ((¬ u5 = 0 → (x_in l3 16401 = true ∧ yP (xg xs) (d + 1) 170 77 [(0, .ref 34), (2, .int l2), (3, .int (m5.1 7 l3.toNatClampNeg)), (4, .int l4)] [] m5 Q)) ∧ (u5 = 0 → Q (some (.int ((-1) : Int32))) m5))))))))))))))) : yP (xg xs) (d + 1) 170 14 [(0, .ref 34), (2, .int l2), (3, .int l3), (4, .int l4)] [] m Q := by
  refine y_st rfl rfl rfl rfl rfl (fun _ _ => rfl) ?_
  refine y_st rfl rfl rfl rfl rfl (fun _ _ => rfl) ?_
  refine y_gf rfl rfl rfl rfl rfl ?_
  refine y_st rfl rfl rfl rfl rfl (fun _ _ => rfl) ?_
  show yP (xg xs) (d + 1) 170 21 [(0, .ref 34), (2, .int l2), (3, .int l3), (4, .int l4)] [.int l2, .ref 18, .int l4] m Q
  refine y_call rfl rfl rfl rfl rfl (Nat.le_of_ble_eq_true rfl) (Nat.le_of_ble_eq_true rfl) rfl (by decide) H (fun v1 m1 H => ?_)
  obtain ⟨u1, rfl, H⟩ := H
  show yP (xg xs) (d + 1) 170 24 [(0, .ref 34), (2, .int l2), (3, .int l3), (4, .int l4)] [.int u1, .int l4] m1 Q
  refine y_ige (t := 83) rfl rfl rfl (fun h => ?_) (fun h => ?_)
  · replace H := H.1 h; clear h
    refine y_st rfl rfl rfl rfl rfl (fun _ _ => rfl) ?_
    refine y_gf rfl rfl rfl rfl rfl ?_
    refine y_st rfl rfl rfl rfl rfl (fun _ _ => rfl) ?_
    refine y_gf rfl rfl rfl rfl rfl ?_
    refine y_st rfl rfl rfl rfl rfl (fun _ _ => rfl) ?_
    show yP (xg xs) (d + 1) 170 92 [(0, .ref 34), (2, .int l2), (3, .int l3), (4, .int l4)] [.int l2, .ref 18, .ref 18] m1 Q
    refine y_call rfl rfl rfl rfl rfl (Nat.le_of_ble_eq_true rfl) (Nat.le_of_ble_eq_true rfl) rfl (by decide) H (fun v2 m2 H => ?_)
    obtain ⟨u2, rfl, H⟩ := H
    show yP (xg xs) (d + 1) 170 95 [(0, .ref 34), (2, .int l2), (3, .int l3), (4, .int l4)] [.int u2, .ref 18] m2 Q
    refine y_call rfl rfl rfl rfl rfl (Nat.le_of_ble_eq_true rfl) (Nat.le_of_ble_eq_true rfl) rfl (by decide) H (fun v3 m3 H => ?_)
    obtain ⟨u3, rfl, H⟩ := H
    show yP (xg xs) (d + 1) 170 98 [(0, .ref 34), (2, .int l2), (3, .int l3), (4, .int l4)] [.int u3] m3 Q
    exact y_iret rfl rfl rfl H
  · replace H := H.2 h; clear h
    refine y_st rfl rfl rfl rfl rfl (fun _ _ => rfl) ?_
    refine y_gf rfl rfl rfl rfl rfl ?_
    refine y_gf rfl rfl rfl rfl rfl ?_
    refine y_st rfl rfl rfl rfl rfl (fun _ _ => rfl) ?_
    show yP (xg xs) (d + 1) 170 36 [(0, .ref 34), (2, .int l2), (3, .int l3), (4, .int l4)] [.int l4, .ref 22] m1 Q
    refine y_iald rfl rfl rfl (H.1) ?_
    replace H := H.2
    refine y_st rfl rfl rfl rfl rfl (fun _ _ => rfl) ?_
    show yP (xg xs) (d + 1) 170 38 [(0, .ref 34), (2, .int l2), (3, .int l3), (4, .int l4)] [.int (1 : Int32), .int (m1.1 22 l4.toNatClampNeg)] m1 Q
    refine y_ine (t := 77) rfl rfl rfl (fun h => ?_) (fun h => ?_)
    · replace H := H.1 h; clear h
      show yP (xg xs) (d + 1) 170 77 [(0, .ref 34), (2, .int l2), (3, .int l3), (4, .int l4)] [] m1 Q
      exact H
    · replace H := H.2 h; clear h
      refine y_st rfl rfl rfl rfl rfl (fun _ _ => rfl) ?_
      refine y_gf rfl rfl rfl rfl rfl ?_
      refine y_gf rfl rfl rfl rfl rfl ?_
      refine y_st rfl rfl rfl rfl rfl (fun _ _ => rfl) ?_
      show yP (xg xs) (d + 1) 170 49 [(0, .ref 34), (2, .int l2), (3, .int l3), (4, .int l4)] [.int l3, .ref 6] m1 Q
      refine y_iald rfl rfl rfl (H.1) ?_
      replace H := H.2
      refine y_st rfl rfl rfl rfl rfl (fun _ _ => rfl) ?_
      refine y_gf rfl rfl rfl rfl rfl ?_
      refine y_st rfl rfl rfl rfl rfl (fun _ _ => rfl) ?_
      show yP (xg xs) (d + 1) 170 56 [(0, .ref 34), (2, .int l2), (3, .int l3), (4, .int l4)] [.int l4, .ref 18, .int (m1.1 6 l3.toNatClampNeg)] m1 Q
      refine y_call rfl rfl rfl rfl rfl (Nat.le_of_ble_eq_true rfl) (Nat.le_of_ble_eq_true rfl) rfl (by decide) H (fun v4 m4 H => ?_)
      obtain ⟨u4, rfl, H⟩ := H
      show yP (xg xs) (d + 1) 170 59 [(0, .ref 34), (2, .int l2), (3, .int l3), (4, .int l4)] [.int u4, .int (m1.1 6 l3.toNatClampNeg)] m4 Q
      refine y_call rfl rfl rfl rfl rfl (Nat.le_of_ble_eq_true rfl) (Nat.le_of_ble_eq_true rfl) rfl (by decide) H (fun v5 m5 H => ?_)
      obtain ⟨u5, rfl, H⟩ := H
      show yP (xg xs) (d + 1) 170 62 [(0, .ref 34), (2, .int l2), (3, .int l3), (4, .int l4)] [.int u5] m5 Q
      refine y_zne (t := 67) rfl rfl rfl (fun h => ?_) (fun h => ?_)
      · replace H := H.1 h; clear h
        refine y_st rfl rfl rfl rfl rfl (fun _ _ => rfl) ?_
        refine y_gf rfl rfl rfl rfl rfl ?_
        refine y_gf rfl rfl rfl rfl rfl ?_
        refine y_st rfl rfl rfl rfl rfl (fun _ _ => rfl) ?_
        show yP (xg xs) (d + 1) 170 75 [(0, .ref 34), (2, .int l2), (3, .int l3), (4, .int l4)] [.int l3, .ref 7] m5 Q
        refine y_iald rfl rfl rfl (H.1) ?_
        replace H := H.2
        refine y_st rfl rfl rfl rfl rfl (fun _ _ => rfl) ?_
        show yP (xg xs) (d + 1) 170 77 [(3, .int (m5.1 7 l3.toNatClampNeg)), (0, .ref 34), (2, .int l2), (4, .int l4)] [] m5 Q
        refine y_headS (l2 := [(0, .ref 34), (2, .int l2), (3, .int (m5.1 7 l3.toNatClampNeg)), (4, .int l4)]) [1, 2, 0, 3] [0, 2, 3, 4] [3, 0, 2, 4] rfl rfl (by decide) rfl (by decide) ?_
        exact H
      · replace H := H.2 h; clear h
        refine y_st rfl rfl rfl rfl rfl (fun _ _ => rfl) ?_
        show yP (xg xs) (d + 1) 170 66 [(0, .ref 34), (2, .int l2), (3, .int l3), (4, .int l4)] [.int ((-1) : Int32)] m5 Q
        exact y_iret rfl rfl rfl H
set_option maxRecDepth 20000 in
/-- CodeMaker.Expressions.ownType from 77 on -/
theorem w170_77 (xs : List Int32) (d : Nat) (l2 : Int32) (l3 : Int32) (l4 : Int32) (m : yM) (Q : Option Value → yM → Prop) (H : yP (xg xs) (d + 1) 170 14 [(0, .ref 34), (2, .int l2), (3, .int l3), (4, .int (l4 + (1 : Int32)))] [] m Q) : yP (xg xs) (d + 1) 170 77 [(0, .ref 34), (2, .int l2), (3, .int l3), (4, .int l4)] [] m Q := by
  refine y_st rfl rfl rfl rfl rfl (fun _ _ => rfl) ?_
  refine y_st rfl rfl rfl rfl rfl (fun _ _ => rfl) ?_
  show yP (xg xs) (d + 1) 170 14 [(4, .int (l4 + (1 : Int32))), (0, .ref 34), (2, .int l2), (3, .int l3)] [] m Q
  refine y_headS (l2 := [(0, .ref 34), (2, .int l2), (3, .int l3), (4, .int (l4 + (1 : Int32)))]) [1, 2, 3, 0] [0, 2, 3, 4] [4, 0, 2, 3] rfl rfl (by decide) rfl (by decide) ?_
  exact H
set_option maxRecDepth 20000 in
/-- CodeMaker.Expressions.hasConstants from 0 on -/
theorem w171_0 (xs : List Int32) (d : Nat) (l1 : Int32) (m : yM) (Q : Option Value → yM → Prop) (H : yP (xg xs) (d + 1) 171 4 [(0, .ref 34), (1, .int l1), (2, .int (l1 + (1 : Int32)))] [] m Q) : yP (xg xs) (d + 1) 171 0 [(0, .ref 34), (1, .int l1)] [] m Q := by
  refine y_st rfl rfl rfl rfl rfl (fun _ _ => rfl) ?_
  refine y_st rfl rfl rfl rfl rfl (fun _ _ => rfl) ?_
  refine y_st rfl rfl rfl rfl rfl (fun _ _ => rfl) ?_
  refine y_st rfl rfl rfl rfl rfl (fun _ _ => rfl) ?_
  show yP (xg xs) (d + 1) 171 4 [(2, .int (l1 + (1 : Int32))), (0, .ref 34), (1, .int l1)] [] m Q
  refine y_headS (l2 := [(0, .ref 34), (1, .int l1), (2, .int (l1 + (1 : Int32)))]) [1, 2, 0] [0, 1, 2] [2, 0, 1] rfl rfl (by decide) rfl (by decide) ?_
  exact H
set_option maxRecDepth 20000 in
/-- CodeMaker.Expressions.hasConstants from 4 on -/
theorem w171_4 (xs : List Int32) (d : Nat) (l1 : Int32) (l2 : Int32) (m : yM) (Q : Option Value → yM → Prop) (H : (x_in l1 16401 = true ∧ (((m.1 7 l1.toNatClampNeg) ≤ l2 → Q (some (.int (1 : Int32))) m) ∧ (¬ (m.1 7 l1.toNatClampNeg) ≤ l2 → (yC (xg xs) d 172 [.ref 2, .int l2] m (fun v1 m1 => ∃ u1, v1 = some (Value.int u1) ∧ ((¬ u1 = 0 → (x_in l2 16401 = true ∧ yP (xg xs) (d + 1) 171 4 [(0, .ref 34), (1, .int l1), (2, .int (m1.1 7 l2.toNatClampNeg))] [] m1 Q)) ∧ (u1 = 0 → Q (some (.int (0 : Int32))) m1)))))))) : yP (xg xs) (d + 1) 171 4 [(0, .ref 34), (1, .int l1), (2, .int l2)] [] m Q := by
  refine y_st rfl rfl rfl rfl rfl (fun _ _ => rfl) ?_
  refine y_st rfl rfl rfl rfl rfl (fun _ _ => rfl) ?_
  refine y_gf rfl rfl rfl rfl rfl ?_
  refine y_gf rfl rfl rfl rfl rfl ?_
  refine y_st rfl rfl rfl rfl rfl (fun _ _ => rfl) ?_
  show yP (xg xs) (d + 1) 171 13 [(0, .ref 34), (1, .int l1), (2, .int l2)] [.int l1, .ref 7, .int l2] m Q
  refine y_iald rfl rfl rfl (H.1) ?_
  replace H := H.2
  show yP (xg xs) (d + 1) 171 14 [(0, .ref 34), (1, .int l1), (2, .int l2)] [.int (m.1 7 l1.toNatClampNeg), .int l2] m Q
  refine y_ige (t := 43) rfl rfl rfl (fun h => ?_) (fun h => ?_)
  · replace H := H.1 h; clear h
    refine y_st rfl rfl rfl rfl rfl (fun _ _ => rfl) ?_
    show yP (xg xs) (d + 1) 171 44 [(0, .ref 34), (1, .int l1), (2, .int l2)] [.int (1 : Int32)] m Q
    exact y_zret rfl rfl rfl (by decide) H
  · replace H := H.2 h; clear h
    refine y_st rfl rfl rfl rfl rfl (fun _ _ => rfl) ?_
    refine y_gf rfl rfl rfl rfl rfl ?_
    refine y_st rfl rfl rfl rfl rfl (fun _ _ => rfl) ?_
    show yP (xg xs) (d + 1) 171 22 [(0, .ref 34), (1, .int l1), (2, .int l2)] [.int l2, .ref 2] m Q
    refine y_call rfl rfl rfl rfl rfl (Nat.le_of_ble_eq_true rfl) (Nat.le_of_ble_eq_true rfl) rfl (by decide) H (fun v1 m1 H => ?_)
    obtain ⟨u1, rfl, H⟩ := H
    show yP (xg xs) (d + 1) 171 25 [(0, .ref 34), (1, .int l1), (2, .int l2)] [.int u1] m1 Q
    refine y_zne (t := 30) rfl rfl rfl (fun h => ?_) (fun h => ?_)
    · replace H := H.1 h; clear h
      refine y_st rfl rfl rfl rfl rfl (fun _ _ => rfl) ?_
      refine y_gf rfl rfl rfl rfl rfl ?_
      refine y_gf rfl rfl rfl rfl rfl ?_
      refine y_st rfl rfl rfl rfl rfl (fun _ _ => rfl) ?_
      show yP (xg xs) (d + 1) 171 38 [(0, .ref 34), (1, .int l1), (2, .int l2)] [.int l2, .ref 7] m1 Q
      refine y_iald rfl rfl rfl (H.1) ?_
      replace H := H.2
      refine y_st rfl rfl rfl rfl rfl (fun _ _ => rfl) ?_
      refine y_st rfl rfl rfl rfl rfl (fun _ _ => rfl) ?_
      show yP (xg xs) (d + 1) 171 4 [(2, .int (m1.1 7 l2.toNatClampNeg)), (0, .ref 34), (1, .int l1)] [] m1 Q
      refine y_headS (l2 := [(0, .ref 34), (1, .int l1), (2, .int (m1.1 7 l2.toNatClampNeg))]) [1, 2, 0] [0, 1, 2] [2, 0, 1] rfl rfl (by decide) rfl (by decide) ?_
      exact H
    · replace H := H.2 h; clear h
      refine y_st rfl rfl rfl rfl rfl (fun _ _ => rfl) ?_
      show yP (xg xs) (d + 1) 171 29 [(0, .ref 34), (1, .int l1), (2, .int l2)] [.int (0 : Int32)] m1 Q
      exact y_zret rfl rfl rfl (by decide) H
set_option maxRecDepth 20000 in
/-- CodeMaker.Tree.isConstant from 0 on -/
theorem w172_0 (xs : List Int32) (d : Nat) (l1 : Int32) (m : yM) (Q : Option Value → yM → Prop) (H : (x_in l1 16401 = true ∧ (((m.1 3 l1.toNatClampNeg) = (30 : Int32) → Q (some (.int (1 : Int32))) m) ∧ (¬ (m.1 3 l1.toNatClampNeg) = (30 : Int32) → (x_in l1 16401 = true ∧ ((¬ (m.1 3 l1.toNatClampNeg) = (31 : Int32) → Q (some (.int (0 : Int32))) m) ∧ ((m.1 3 l1.toNatClampNeg) = (31 : Int32) → Q (some (.int (1 : Int32))) m))))))) : yP (xg xs) (d + 1) 172 0 [(0, .ref 2), (1, .int l1)] [] m Q := by
  refine y_st rfl rfl rfl rfl rfl (fun _ _ => rfl) ?_
  refine y_gf rfl rfl rfl rfl rfl ?_
  refine y_st rfl rfl rfl rfl rfl (fun _ _ => rfl) ?_
  show yP (xg xs) (d + 1) 172 5 [(0, .ref 2), (1, .int l1)] [.int l1, .ref 3] m Q
  refine y_iald rfl rfl rfl (H.1) ?_
  replace H := H.2
  refine y_st rfl rfl rfl rfl rfl (fun _ _ => rfl) ?_
  show yP (xg xs) (d + 1) 172 8 [(0, .ref 2), (1, .int l1)] [.int (30 : Int32), .int (m.1 3 l1.toNatClampNeg)] m Q
  refine y_ieq (t := 22) rfl rfl rfl (fun h => ?_) (fun h => ?_)
  · replace H := H.1 h; clear h
    refine y_st rfl rfl rfl rfl rfl (fun _ _ => rfl) ?_
    refine y_st rfl rfl rfl rfl rfl (fun _ _ => rfl) ?_
    show yP (xg xs) (d + 1) 172 27 [(0, .ref 2), (1, .int l1)] [.int (1 : Int32)] m Q
    exact y_zret rfl rfl rfl (by decide) H
  · replace H := H.2 h; clear h
    refine y_st rfl rfl rfl rfl rfl (fun _ _ => rfl) ?_
    refine y_gf rfl rfl rfl rfl rfl ?_
    refine y_st rfl rfl rfl rfl rfl (fun _ _ => rfl) ?_
    show yP (xg xs) (d + 1) 172 16 [(0, .ref 2), (1, .int l1)] [.int l1, .ref 3] m Q
    refine y_iald rfl rfl rfl (H.1) ?_
    replace H := H.2
    refine y_st rfl rfl rfl rfl rfl (fun _ _ => rfl) ?_
    show yP (xg xs) (d + 1) 172 19 [(0, .ref 2), (1, .int l1)] [.int (31 : Int32), .int (m.1 3 l1.toNatClampNeg)] m Q
    refine y_ine (t := 26) rfl rfl rfl (fun h => ?_) (fun h => ?_)
    · replace H := H.1 h; clear h
      refine y_st rfl rfl rfl rfl rfl (fun _ _ => rfl) ?_
      show yP (xg xs) (d + 1) 172 27 [(0, .ref 2), (1, .int l1)] [.int (0 : Int32)] m Q
      exact y_zret rfl rfl rfl (by decide) H
    · replace H := H.2 h; clear h
      refine y_st rfl rfl rfl rfl rfl (fun _ _ => rfl) ?_
      refine y_st rfl rfl rfl rfl rfl (fun _ _ => rfl) ?_
      show yP (xg xs) (d + 1) 172 27 [(0, .ref 2), (1, .int l1)] [.int (1 : Int32)] m Q
      exact y_zret rfl rfl rfl (by decide) H
set_option maxRecDepth 20000 in
/-- CodeMaker.Expressions.called from 0 on -/
theorem w173_0 (xs : List Int32) (d : Nat) (l1 : Int32) (l2 : Int32) (m : yM) (Q : Option Value → yM → Prop) (H : (x_in (l1 + (1 : Int32)) 16401 = true ∧ (x_in l2 xar_5.length = true ∧ (((xar_5.getD l2.toNatClampNeg 0) ≤ (1 : Int32) → yP (xg xs) (d + 1) 173 36 [(0, .ref 34), (1, .int l1), (2, .int l2), (3, .int (m.1 5 ((l1 + (1 : Int32)).toNatClampNeg)))] [.int l1] m Q) ∧ (¬ (xar_5.getD l2.toNatClampNeg 0) ≤ (1 : Int32) → (x_in (l1 + (1 : Int32)) 16401 = true ∧ yP (xg xs) (d + 1) 173 36 [(0, .ref 34), (1, .int l1), (2, .int l2), (3, .int (m.1 5 ((l1 + (1 : Int32)).toNatClampNeg)))] [.int (m.1 7 ((l1 + (1 : Int32)).toNatClampNeg))] m Q)))))) : yP (xg xs) (d + 1) 173 0 [(0, .ref 34), (1, .int l1), (2, .int l2)] [] m Q := by
  refine y_st rfl rfl rfl rfl rfl (fun _ _ => rfl) ?_
  refine y_gf rfl rfl rfl rfl rfl ?_
  refine y_gf rfl rfl rfl rfl rfl ?_
  refine y_st rfl rfl rfl rfl rfl (fun _ _ => rfl) ?_
  refine y_st rfl rfl rfl rfl rfl (fun _ _ => rfl) ?_
  refine y_st rfl rfl rfl rfl rfl (fun _ _ => rfl) ?_
  show yP (xg xs) (d + 1) 173 10 [(0, .ref 34), (1, .int l1), (2, .int l2)] [.int (l1 + (1 : Int32)), .ref 5] m Q
  refine y_iald rfl rfl rfl (H.1) ?_
  replace H := H.2
  refine y_st rfl rfl rfl rfl rfl (fun _ _ => rfl) ?_
  refine y_st rfl rfl rfl rfl rfl (fun _ _ => rfl) ?_
  refine y_st rfl rfl rfl rfl rfl (fun _ _ => rfl) ?_
  show yP (xg xs) (d + 1) 173 16 [(3, .int (m.1 5 ((l1 + (1 : Int32)).toNatClampNeg))), (0, .ref 34), (1, .int l1), (2, .int l2)] [.int l2, .retAddr 5] m Q
  refine y_cald rfl rfl rfl H.1 ?_
  replace H := H.2
  refine y_st rfl rfl rfl rfl rfl (fun _ _ => rfl) ?_
  show yP (xg xs) (d + 1) 173 18 [(3, .int (m.1 5 ((l1 + (1 : Int32)).toNatClampNeg))), (0, .ref 34), (1, .int l1), (2, .int l2)] [.int (1 : Int32), .int (xar_5.getD l2.toNatClampNeg 0)] m Q
  refine y_ile (t := 35) rfl rfl rfl (fun h => ?_) (fun h => ?_)
  · replace H := H.1 h; clear h
    refine y_st rfl rfl rfl rfl rfl (fun _ _ => rfl) ?_
    show yP (xg xs) (d + 1) 173 36 [(3, .int (m.1 5 ((l1 + (1 : Int32)).toNatClampNeg))), (0, .ref 34), (1, .int l1), (2, .int l2)] [.int l1] m Q
    refine y_headS (l2 := [(0, .ref 34), (1, .int l1), (2, .int l2), (3, .int (m.1 5 ((l1 + (1 : Int32)).toNatClampNeg)))]) [1, 2, 3, 0] [0, 1, 2, 3] [3, 0, 1, 2] rfl rfl (by decide) rfl (by decide) ?_
    exact H
  · replace H := H.2 h; clear h
    refine y_st rfl rfl rfl rfl rfl (fun _ _ => rfl) ?_
    refine y_gf rfl rfl rfl rfl rfl ?_
    refine y_gf rfl rfl rfl rfl rfl ?_
    refine y_st rfl rfl rfl rfl rfl (fun _ _ => rfl) ?_
    refine y_st rfl rfl rfl rfl rfl (fun _ _ => rfl) ?_
    refine y_st rfl rfl rfl rfl rfl (fun _ _ => rfl) ?_
    show yP (xg xs) (d + 1) 173 31 [(3, .int (m.1 5 ((l1 + (1 : Int32)).toNatClampNeg))), (0, .ref 34), (1, .int l1), (2, .int l2)] [.int (l1 + (1 : Int32)), .ref 7] m Q
    refine y_iald rfl rfl rfl (H.1) ?_
    replace H := H.2
    refine y_st rfl rfl rfl rfl rfl (fun _ _ => rfl) ?_
    show yP (xg xs) (d + 1) 173 36 [(3, .int (m.1 5 ((l1 + (1 : Int32)).toNatClampNeg))), (0, .ref 34), (1, .int l1), (2, .int l2)] [.int (m.1 7 ((l1 + (1 : Int32)).toNatClampNeg))] m Q
    refine y_headS (l2 := [(0, .ref 34), (1, .int l1), (2, .int l2), (3, .int (m.1 5 ((l1 + (1 : Int32)).toNatClampNeg)))]) [1, 2, 3, 0] [0, 1, 2, 3] [3, 0, 1, 2] rfl rfl (by decide) rfl (by decide) ?_
    exact H
set_option maxRecDepth 20000 in
/-- CodeMaker.Expressions.called from 36 on -/
theorem w173_36 (xs : List Int32) (d : Nat) (l1 : Int32) (l2 : Int32) (l3 : Int32) (s0 : Int32) (m : yM) (Q : Option Value → yM → Prop) (H : (x_in l2 xar_5.length = true ∧ (((xar_5.getD l2.toNatClampNeg 0) ≤ (2 : Int32) → yP (xg xs) (d + 1) 173 61 [(0, .ref 34), (1, .int l1), (2, .int l2), (3, .int l3), (4, .int s0)] [.int l1] m Q) ∧ (¬ (xar_5.getD l2.toNatClampNeg 0) ≤ (2 : Int32) → (x_in s0 16401 = true ∧ yP (xg xs) (d + 1) 173 61 [(0, .ref 34), (1, .int l1), (2, .int l2), (3, .int l3), (4, .int s0)] [.int (m.1 7 s0.toNatClampNeg)] m Q))))) : yP (xg xs) (d + 1) 173 36 [(0, .ref 34), (1, .int l1), (2, .int l2), (3, .int l3)] [.int s0] m Q := by
  refine y_st rfl rfl rfl rfl rfl (fun _ _ => rfl) ?_
  refine y_st rfl rfl rfl rfl rfl (fun _ _ => rfl) ?_
  refine y_st rfl rfl rfl rfl rfl (fun _ _ => rfl) ?_
  show yP (xg xs) (d + 1) 173 42 [(4, .int s0), (0, .ref 34), (1, .int l1), (2, .int l2), (3, .int l3)] [.int l2, .retAddr 5] m Q
  refine y_cald rfl rfl rfl H.1 ?_
  replace H := H.2
  refine y_st rfl rfl rfl rfl rfl (fun _ _ => rfl) ?_
  show yP (xg xs) (d + 1) 173 44 [(4, .int s0), (0, .ref 34), (1, .int l1), (2, .int l2), (3, .int l3)] [.int (2 : Int32), .int (xar_5.getD l2.toNatClampNeg 0)] m Q
  refine y_ile (t := 60) rfl rfl rfl (fun h => ?_) (fun h => ?_)
  · replace H := H.1 h; clear h
    refine y_st rfl rfl rfl rfl rfl (fun _ _ => rfl) ?_
    show yP (xg xs) (d + 1) 173 61 [(4, .int s0), (0, .ref 34), (1, .int l1), (2, .int l2), (3, .int l3)] [.int l1] m Q
    refine y_headS (l2 := [(0, .ref 34), (1, .int l1), (2, .int l2), (3, .int l3), (4, .int s0)]) [1, 2, 3, 4, 0] [0, 1, 2, 3, 4] [4, 0, 1, 2, 3] rfl rfl (by decide) rfl (by decide) ?_
    exact H
  · replace H := H.2 h; clear h
    refine y_st rfl rfl rfl rfl rfl (fun _ _ => rfl) ?_
    refine y_gf rfl rfl rfl rfl rfl ?_
    refine y_gf rfl rfl rfl rfl rfl ?_
    refine y_st rfl rfl rfl rfl rfl (fun _ _ => rfl) ?_
    show yP (xg xs) (d + 1) 173 56 [(4, .int s0), (0, .ref 34), (1, .int l1), (2, .int l2), (3, .int l3)] [.int s0, .ref 7] m Q
    refine y_iald rfl rfl rfl (H.1) ?_
    replace H := H.2
    refine y_st rfl rfl rfl rfl rfl (fun _ _ => rfl) ?_
    show yP (xg xs) (d + 1) 173 61 [(4, .int s0), (0, .ref 34), (1, .int l1), (2, .int l2), (3, .int l3)] [.int (m.1 7 s0.toNatClampNeg)] m Q
    refine y_headS (l2 := [(0, .ref 34), (1, .int l1), (2, .int l2), (3, .int l3), (4, .int s0)]) [1, 2, 3, 4, 0] [0, 1, 2, 3, 4] [4, 0, 1, 2, 3] rfl rfl (by decide) rfl (by decide) ?_
    exact H
set_option maxRecDepth 20000 in
/-- CodeMaker.Expressions.called from 61 on -/
theorem w173_61 (xs : List Int32) (d : Nat) (l1 : Int32) (l2 : Int32) (l3 : Int32) (l4 : Int32) (s0 : Int32) (m : yM) (Q : Option Value → yM → Prop) (H : (x_in l4 16401 = true ∧ (x_in s0 16401 = true ∧ (x_in (l1 + (1 : Int32)) 16401 = true ∧ (yC (xg xs) d 174 [.int l2, .int (m.1 6 ((l1 + (1 : Int32)).toNatClampNeg))] m (fun v1 m1 => ∃ u1, v1 = some (Value.int u1) ∧ ((l2 = (3 : Int32) → (yC (xg xs) d 175 [.int (24 : Int32), .int l3, .int (m.1 5 l4.toNatClampNeg)] m1 (fun v2 m2 => ∃ u2, v2 = some (Value.int u2) ∧ (yC (xg xs) d 175 [.int (23 : Int32), .int u2, .int (m.1 5 s0.toNatClampNeg)] m2 (fun v3 m3 => ∃ u3, v3 = some (Value.int u3) ∧ Q (some (.int u3)) m3))))) ∧ (l2 = (4 : Int32) → ((l3 = 0 → Q (some (.int (m.1 5 l4.toNatClampNeg))) m1) ∧ (¬ l3 = 0 → Q (some (.int (m.1 5 s0.toNatClampNeg))) m1))) ∧ (l2 = (8 : Int32) → Q (some (.int l3)) m1) ∧ (¬ l2 = (3 : Int32) → ¬ l2 = (4 : Int32) → ¬ l2 = (8 : Int32) → (x_in l2 xar_5.length = true ∧ ((¬ (xar_5.getD l2.toNatClampNeg 0) = (1 : Int32) → (yC (xg xs) d 175 [.int u1, .int l3, .int (m.1 5 l4.toNatClampNeg)] m1 (fun v4 m4 => ∃ u4, v4 = some (Value.int u4) ∧ Q (some (.int u4)) m4))) ∧ ((xar_5.getD l2.toNatClampNeg 0) = (1 : Int32) → (yC (xg xs) d 178 [.int u1, .int l3] m1 (fun v5 m5 => ∃ u5, v5 = some (Value.int u5) ∧ Q (some (.int u5)) m5))))))))))))) : yP (xg xs) (d + 1) 173 61 [(0, .ref 34), (1, .int l1), (2, .int l2), (3, .int l3), (4, .int l4)] [.int s0] m Q := by
  refine y_st rfl rfl rfl rfl rfl (fun _ _ => rfl) ?_
  refine y_st rfl rfl rfl rfl rfl (fun _ _ => rfl) ?_
  refine y_gf rfl rfl rfl rfl rfl ?_
  refine y_gf rfl rfl rfl rfl rfl ?_
  refine y_st rfl rfl rfl rfl rfl (fun _ _ => rfl) ?_
  show yP (xg xs) (d + 1) 173 72 [(5, .int s0), (0, .ref 34), (1, .int l1), (2, .int l2), (3, .int l3), (4, .int l4)] [.int l4, .ref 5] m Q
  refine y_iald rfl rfl rfl (H.1) ?_
  replace H := H.2
  refine y_st rfl rfl rfl rfl rfl (fun _ _ => rfl) ?_
  refine y_st rfl rfl rfl rfl rfl (fun _ _ => rfl) ?_
  refine y_gf rfl rfl rfl rfl rfl ?_
  refine y_gf rfl rfl rfl rfl rfl ?_
  refine y_st rfl rfl rfl rfl rfl (fun _ _ => rfl) ?_
  show yP (xg xs) (d + 1) 173 84 [(6, .int (m.1 5 l4.toNatClampNeg)), (5, .int s0), (0, .ref 34), (1, .int l1), (2, .int l2), (3, .int l3), (4, .int l4)] [.int s0, .ref 5] m Q
  refine y_iald rfl rfl rfl (H.1) ?_
  replace H := H.2
  refine y_st rfl rfl rfl rfl rfl (fun _ _ => rfl) ?_
  refine y_st rfl rfl rfl rfl rfl (fun _ _ => rfl) ?_
  refine y_st rfl rfl rfl rfl rfl (fun _ _ => rfl) ?_
  refine y_gf rfl rfl rfl rfl rfl ?_
  refine y_gf rfl rfl rfl rfl rfl ?_
  refine y_st rfl rfl rfl rfl rfl (fun _ _ => rfl) ?_
  refine y_st rfl rfl rfl rfl rfl (fun _ _ => rfl) ?_
  refine y_st rfl rfl rfl rfl rfl (fun _ _ => rfl) ?_
  show yP (xg xs) (d + 1) 173 98 [(7, .int (m.1 5 s0.toNatClampNeg)), (6, .int (m.1 5 l4.toNatClampNeg)), (5, .int s0), (0, .ref 34), (1, .int l1), (2, .int l2), (3, .int l3), (4, .int l4)] [.int (l1 + (1 : Int32)), .ref 6, .int l2] m Q
  refine y_iald rfl rfl rfl (H.1) ?_
  replace H := H.2
  show yP (xg xs) (d + 1) 173 99 [(7, .int (m.1 5 s0.toNatClampNeg)), (6, .int (m.1 5 l4.toNatClampNeg)), (5, .int s0), (0, .ref 34), (1, .int l1), (2, .int l2), (3, .int l3), (4, .int l4)] [.int (m.1 6 ((l1 + (1 : Int32)).toNatClampNeg)), .int l2] m Q
  refine y_call rfl rfl rfl rfl rfl (Nat.le_of_ble_eq_true rfl) (Nat.le_of_ble_eq_true rfl) rfl (by decide) H (fun v1 m1 H => ?_)
  obtain ⟨u1, rfl, H⟩ := H
  refine y_st rfl rfl rfl rfl rfl (fun _ _ => rfl) ?_
  refine y_st rfl rfl rfl rfl rfl (fun _ _ => rfl) ?_
  show yP (xg xs) (d + 1) 173 105 [(8, .int u1), (7, .int (m.1 5 s0.toNatClampNeg)), (6, .int (m.1 5 l4.toNatClampNeg)), (5, .int s0), (0, .ref 34), (1, .int l1), (2, .int l2), (3, .int l3), (4, .int l4)] [.int l2] m1 Q
  by_cases h3 : l2 = (3 : Int32)
  · replace H := H.1 h3
    refine y_lsw (t := 140) rfl rfl rfl (by rw [h3]; rfl) ?_
    clear h3
    refine y_st rfl rfl rfl rfl rfl (fun _ _ => rfl) ?_
    refine y_st rfl rfl rfl rfl rfl (fun _ _ => rfl) ?_
    refine y_st rfl rfl rfl rfl rfl (fun _ _ => rfl) ?_
    refine y_st rfl rfl rfl rfl rfl (fun _ _ => rfl) ?_
    show yP (xg xs) (d + 1) 173 147 [(8, .int u1), (7, .int (m.1 5 s0.toNatClampNeg)), (6, .int (m.1 5 l4.toNatClampNeg)), (5, .int s0), (0, .ref 34), (1, .int l1), (2, .int l2), (3, .int l3), (4, .int l4)] [.int (m.1 5 l4.toNatClampNeg), .int l3, .int (24 : Int32), .int (23 : Int32)] m1 Q
    refine y_call rfl rfl rfl rfl rfl (Nat.le_of_ble_eq_true rfl) (Nat.le_of_ble_eq_true rfl) rfl (by decide) H (fun v2 m2 H => ?_)
    obtain ⟨u2, rfl, H⟩ := H
    refine y_st rfl rfl rfl rfl rfl (fun _ _ => rfl) ?_
    show yP (xg xs) (d + 1) 173 152 [(8, .int u1), (7, .int (m.1 5 s0.toNatClampNeg)), (6, .int (m.1 5 l4.toNatClampNeg)), (5, .int s0), (0, .ref 34), (1, .int l1), (2, .int l2), (3, .int l3), (4, .int l4)] [.int (m.1 5 s0.toNatClampNeg), .int u2, .int (23 : Int32)] m2 Q
    refine y_call rfl rfl rfl rfl rfl (Nat.le_of_ble_eq_true rfl) (Nat.le_of_ble_eq_true rfl) rfl (by decide) H (fun v3 m3 H => ?_)
    obtain ⟨u3, rfl, H⟩ := H
    show yP (xg xs) (d + 1) 173 155 [(8, .int u1), (7, .int (m.1 5 s0.toNatClampNeg)), (6, .int (m.1 5 l4.toNatClampNeg)), (5, .int s0), (0, .ref 34), (1, .int l1), (2, .int l2), (3, .int l3), (4, .int l4)] [.int u3] m3 Q
    exact y_iret rfl rfl rfl H
  replace H := H.2
  by_cases h4 : l2 = (4 : Int32)
  · replace H := H.1 h4
    refine y_lsw (t := 156) rfl rfl rfl (by rw [h4]; rfl) ?_
    clear h4 h3
    refine y_st rfl rfl rfl rfl rfl (fun _ _ => rfl) ?_
    show yP (xg xs) (d + 1) 173 157 [(8, .int u1), (7, .int (m.1 5 s0.toNatClampNeg)), (6, .int (m.1 5 l4.toNatClampNeg)), (5, .int s0), (0, .ref 34), (1, .int l1), (2, .int l2), (3, .int l3), (4, .int l4)] [.int l3] m1 Q
    refine y_zeq (t := 165) rfl rfl rfl (fun h => ?_) (fun h => ?_)
    · replace H := H.1 h; clear h
      refine y_st rfl rfl rfl rfl rfl (fun _ _ => rfl) ?_
      show yP (xg xs) (d + 1) 173 167 [(8, .int u1), (7, .int (m.1 5 s0.toNatClampNeg)), (6, .int (m.1 5 l4.toNatClampNeg)), (5, .int s0), (0, .ref 34), (1, .int l1), (2, .int l2), (3, .int l3), (4, .int l4)] [.int (m.1 5 l4.toNatClampNeg)] m1 Q
      exact y_iret rfl rfl rfl H
    · replace H := H.2 h; clear h
      refine y_st rfl rfl rfl rfl rfl (fun _ _ => rfl) ?_
      refine y_st rfl rfl rfl rfl rfl (fun _ _ => rfl) ?_
      show yP (xg xs) (d + 1) 173 167 [(8, .int u1), (7, .int (m.1 5 s0.toNatClampNeg)), (6, .int (m.1 5 l4.toNatClampNeg)), (5, .int s0), (0, .ref 34), (1, .int l1), (2, .int l2), (3, .int l3), (4, .int l4)] [.int (m.1 5 s0.toNatClampNeg)] m1 Q
      exact y_iret rfl rfl rfl H
  replace H := H.2
  by_cases h8 : l2 = (8 : Int32)
  · replace H := H.1 h8
    refine y_lsw (t := 168) rfl rfl rfl (by rw [h8]; rfl) ?_
    clear h8 h4 h3
    refine y_st rfl rfl rfl rfl rfl (fun _ _ => rfl) ?_
    show yP (xg xs) (d + 1) 173 169 [(8, .int u1), (7, .int (m.1 5 s0.toNatClampNeg)), (6, .int (m.1 5 l4.toNatClampNeg)), (5, .int s0), (0, .ref 34), (1, .int l1), (2, .int l2), (3, .int l3), (4, .int l4)] [.int l3] m1 Q
    exact y_iret rfl rfl rfl H
  replace H := H.2
  refine y_lsw (t := 170) rfl rfl rfl (by have g0 := ne_lit (3 : Int32) 3 rfl h3; have g1 := ne_lit (4 : Int32) 4 rfl h4; have g2 := ne_lit (8 : Int32) 8 rfl h8; simp [Op.lookupswitch.offset, Ne.symm g0, Ne.symm g1, Ne.symm g2]; rfl) ?_
  replace H := H h3 h4 h8
  clear h8 h4 h3
  refine y_st rfl rfl rfl rfl rfl (fun _ _ => rfl) ?_
  refine y_st rfl rfl rfl rfl rfl (fun _ _ => rfl) ?_
  show yP (xg xs) (d + 1) 173 174 [(8, .int u1), (7, .int (m.1 5 s0.toNatClampNeg)), (6, .int (m.1 5 l4.toNatClampNeg)), (5, .int s0), (0, .ref 34), (1, .int l1), (2, .int l2), (3, .int l3), (4, .int l4)] [.int l2, .retAddr 5] m1 Q
  refine y_cald rfl rfl rfl H.1 ?_
  replace H := H.2
  refine y_st rfl rfl rfl rfl rfl (fun _ _ => rfl) ?_
  show yP (xg xs) (d + 1) 173 176 [(8, .int u1), (7, .int (m.1 5 s0.toNatClampNeg)), (6, .int (m.1 5 l4.toNatClampNeg)), (5, .int s0), (0, .ref 34), (1, .int l1), (2, .int l2), (3, .int l3), (4, .int l4)] [.int (1 : Int32), .int (xar_5.getD l2.toNatClampNeg 0)] m1 Q
  refine y_ine (t := 188) rfl rfl rfl (fun h => ?_) (fun h => ?_)
  · replace H := H.1 h; clear h
    refine y_st rfl rfl rfl rfl rfl (fun _ _ => rfl) ?_
    refine y_st rfl rfl rfl rfl rfl (fun _ _ => rfl) ?_
    refine y_st rfl rfl rfl rfl rfl (fun _ _ => rfl) ?_
    show yP (xg xs) (d + 1) 173 193 [(8, .int u1), (7, .int (m.1 5 s0.toNatClampNeg)), (6, .int (m.1 5 l4.toNatClampNeg)), (5, .int s0), (0, .ref 34), (1, .int l1), (2, .int l2), (3, .int l3), (4, .int l4)] [.int (m.1 5 l4.toNatClampNeg), .int l3, .int u1] m1 Q
    refine y_call rfl rfl rfl rfl rfl (Nat.le_of_ble_eq_true rfl) (Nat.le_of_ble_eq_true rfl) rfl (by decide) H (fun v4 m4 H => ?_)
    obtain ⟨u4, rfl, H⟩ := H
    show yP (xg xs) (d + 1) 173 196 [(8, .int u1), (7, .int (m.1 5 s0.toNatClampNeg)), (6, .int (m.1 5 l4.toNatClampNeg)), (5, .int s0), (0, .ref 34), (1, .int l1), (2, .int l2), (3, .int l3), (4, .int l4)] [.int u4] m4 Q
    exact y_iret rfl rfl rfl H
  · replace H := H.2 h; clear h
    refine y_st rfl rfl rfl rfl rfl (fun _ _ => rfl) ?_
    refine y_st rfl rfl rfl rfl rfl (fun _ _ => rfl) ?_
    show yP (xg xs) (d + 1) 173 182 [(8, .int u1), (7, .int (m.1 5 s0.toNatClampNeg)), (6, .int (m.1 5 l4.toNatClampNeg)), (5, .int s0), (0, .ref 34), (1, .int l1), (2, .int l2), (3, .int l3), (4, .int l4)] [.int l3, .int u1] m1 Q
    refine y_call rfl rfl rfl rfl rfl (Nat.le_of_ble_eq_true rfl) (Nat.le_of_ble_eq_true rfl) rfl (by decide) H (fun v5 m5 H => ?_)
    obtain ⟨u5, rfl, H⟩ := H
    refine y_st rfl rfl rfl rfl rfl (fun _ _ => rfl) ?_
    show yP (xg xs) (d + 1) 173 196 [(8, .int u1), (7, .int (m.1 5 s0.toNatClampNeg)), (6, .int (m.1 5 l4.toNatClampNeg)), (5, .int s0), (0, .ref 34), (1, .int l1), (2, .int l2), (3, .int l3), (4, .int l4)] [.int u5] m5 Q
    exact y_iret rfl rfl rfl H
set_option maxRecDepth 20000 in
/-- CodeMaker.Code.numberOfFunction from 0 on -/
theorem w174_0 (xs : List Int32) (d : Nat) (l0 : Int32) (l1 : Int32) (m : yM) (Q : Option Value → yM → Prop) (H : ((l0 = (0 : Int32) → ((¬ l1 = (1 : Int32) → Q (some (.int (5 : Int32))) m) ∧ (l1 = (1 : Int32) → Q (some (.int (4 : Int32))) m))) ∧ (l0 = (1 : Int32) → Q (some (.int (23 : Int32))) m) ∧ (l0 = (2 : Int32) → Q (some (.int (24 : Int32))) m) ∧ (l0 = (5 : Int32) → ((¬ l1 = (1 : Int32) → Q (some (.int (21 : Int32))) m) ∧ (l1 = (1 : Int32) → Q (some (.int (19 : Int32))) m))) ∧ (l0 = (6 : Int32) → ((¬ l1 = (1 : Int32) → Q (some (.int (22 : Int32))) m) ∧ (l1 = (1 : Int32) → Q (some (.int (20 : Int32))) m))) ∧ (l0 = (7 : Int32) → Q (some (.int (6 : Int32))) m) ∧ (¬ l0 = (0 : Int32) → ¬ l0 = (1 : Int32) → ¬ l0 = (2 : Int32) → ¬ l0 = (5 : Int32) → ¬ l0 = (6 : Int32) → ¬ l0 = (7 : Int32) → Q (some (.int (7 : Int32))) m))) : yP (xg xs) (d + 1) 174 0 [(0, .int l0), (1, .int l1)] [] m Q := by
  refine y_st rfl rfl rfl rfl rfl (fun _ _ => rfl) ?_
  show yP (xg xs) (d + 1) 174 1 [(0, .int l0), (1, .int l1)] [.int l0] m Q
  by_cases h0 : l0 = (0 : Int32)
  · replace H := H.1 h0
    refine y_tsw (t := 48) rfl rfl (by rw [h0]; rfl) ?_
    clear h0
    refine y_st rfl rfl rfl rfl rfl (fun _ _ => rfl) ?_
    refine y_st rfl rfl rfl rfl rfl (fun _ _ => rfl) ?_
    show yP (xg xs) (d + 1) 174 50 [(0, .int l0), (1, .int l1)] [.int (1 : Int32), .int l1] m Q
    refine y_ine (t := 57) rfl rfl rfl (fun h => ?_) (fun h => ?_)
    · replace H := H.1 h; clear h
      refine y_st rfl rfl rfl rfl rfl (fun _ _ => rfl) ?_
      show yP (xg xs) (d + 1) 174 58 [(0, .int l0), (1, .int l1)] [.int (5 : Int32)] m Q
      exact y_iret rfl rfl rfl H
    · replace H := H.2 h; clear h
      refine y_st rfl rfl rfl rfl rfl (fun _ _ => rfl) ?_
      refine y_st rfl rfl rfl rfl rfl (fun _ _ => rfl) ?_
      show yP (xg xs) (d + 1) 174 58 [(0, .int l0), (1, .int l1)] [.int (4 : Int32)] m Q
      exact y_iret rfl rfl rfl H
  replace H := H.2
  by_cases h1 : l0 = (1 : Int32)
  · replace H := H.1 h1
    refine y_tsw (t := 59) rfl rfl (by rw [h1]; rfl) ?_
    clear h1 h0
    refine y_st rfl rfl rfl rfl rfl (fun _ _ => rfl) ?_
    show yP (xg xs) (d + 1) 174 61 [(0, .int l0), (1, .int l1)] [.int (23 : Int32)] m Q
    exact y_iret rfl rfl rfl H
  replace H := H.2
  by_cases h2 : l0 = (2 : Int32)
  · replace H := H.1 h2
    refine y_tsw (t := 62) rfl rfl (by rw [h2]; rfl) ?_
    clear h2 h1 h0
    refine y_st rfl rfl rfl rfl rfl (fun _ _ => rfl) ?_
    show yP (xg xs) (d + 1) 174 64 [(0, .int l0), (1, .int l1)] [.int (24 : Int32)] m Q
    exact y_iret rfl rfl rfl H
  replace H := H.2
  by_cases h5 : l0 = (5 : Int32)
  · replace H := H.1 h5
    refine y_tsw (t := 65) rfl rfl (by rw [h5]; rfl) ?_
    clear h5 h2 h1 h0
    refine y_st rfl rfl rfl rfl rfl (fun _ _ => rfl) ?_
    refine y_st rfl rfl rfl rfl rfl (fun _ _ => rfl) ?_
    show yP (xg xs) (d + 1) 174 67 [(0, .int l0), (1, .int l1)] [.int (1 : Int32), .int l1] m Q
    refine y_ine (t := 75) rfl rfl rfl (fun h => ?_) (fun h => ?_)
    · replace H := H.1 h; clear h
      refine y_st rfl rfl rfl rfl rfl (fun _ _ => rfl) ?_
      show yP (xg xs) (d + 1) 174 77 [(0, .int l0), (1, .int l1)] [.int (21 : Int32)] m Q
      exact y_iret rfl rfl rfl H
    · replace H := H.2 h; clear h
      refine y_st rfl rfl rfl rfl rfl (fun _ _ => rfl) ?_
      refine y_st rfl rfl rfl rfl rfl (fun _ _ => rfl) ?_
      show yP (xg xs) (d + 1) 174 77 [(0, .int l0), (1, .int l1)] [.int (19 : Int32)] m Q
      exact y_iret rfl rfl rfl H
  replace H := H.2
  by_cases h6 : l0 = (6 : Int32)
  · replace H := H.1 h6
    refine y_tsw (t := 78) rfl rfl (by rw [h6]; rfl) ?_
    clear h6 h5 h2 h1 h0
    refine y_st rfl rfl rfl rfl rfl (fun _ _ => rfl) ?_
    refine y_st rfl rfl rfl rfl rfl (fun _ _ => rfl) ?_
    show yP (xg xs) (d + 1) 174 80 [(0, .int l0), (1, .int l1)] [.int (1 : Int32), .int l1] m Q
    refine y_ine (t := 88) rfl rfl rfl (fun h => ?_) (fun h => ?_)
    · replace H := H.1 h; clear h
      refine y_st rfl rfl rfl rfl rfl (fun _ _ => rfl) ?_
      show yP (xg xs) (d + 1) 174 90 [(0, .int l0), (1, .int l1)] [.int (22 : Int32)] m Q
      exact y_iret rfl rfl rfl H
    · replace H := H.2 h; clear h
      refine y_st rfl rfl rfl rfl rfl (fun _ _ => rfl) ?_
      refine y_st rfl rfl rfl rfl rfl (fun _ _ => rfl) ?_
      show yP (xg xs) (d + 1) 174 90 [(0, .int l0), (1, .int l1)] [.int (20 : Int32)] m Q
      exact y_iret rfl rfl rfl H
  replace H := H.2
  by_cases h7 : l0 = (7 : Int32)
  · replace H := H.1 h7
    refine y_tsw (t := 91) rfl rfl (by rw [h7]; rfl) ?_
    clear h7 h6 h5 h2 h1 h0
    refine y_st rfl rfl rfl rfl rfl (fun _ _ => rfl) ?_
    show yP (xg xs) (d + 1) 174 93 [(0, .int l0), (1, .int l1)] [.int (6 : Int32)] m Q
    exact y_iret rfl rfl rfl H
  replace H := H.2
  refine y_tsw (t := 94) rfl rfl (by have g0 := ne_lit (0 : Int32) 0 rfl h0; have g1 := ne_lit (1 : Int32) 1 rfl h1; have g2 := ne_lit (2 : Int32) 2 rfl h2; have g3 := ne_lit (5 : Int32) 5 rfl h5; have g4 := ne_lit (6 : Int32) 6 rfl h6; have g5 := ne_lit (7 : Int32) 7 rfl h7; by_cases z : (l0).toInt < 0 ∨ 7 < (l0).toInt; exact (if_pos z).trans rfl; rw [if_neg z]; rcases (by omega : (l0).toInt = 3 ∨ (l0).toInt = 4) with e | e <;> rw [e] <;> rfl) ?_
  replace H := H h0 h1 h2 h5 h6 h7
  clear h7 h6 h5 h2 h1 h0
  refine y_st rfl rfl rfl rfl rfl (fun _ _ => rfl) ?_
  show yP (xg xs) (d + 1) 174 96 [(0, .int l0), (1, .int l1)] [.int (7 : Int32)] m Q
  exact y_iret rfl rfl rfl H
set_option maxRecDepth 20000 in
/-- CodeMaker.Machine.two from 0 on -/
theorem w175_0 (xs : List Int32) (d : Nat) (l0 : Int32) (l1 : Int32) (l2 : Int32) (m : yM) (Q : Option Value → yM → Prop) (H : ((l0 = (0 : Int32) → Q (some (.int ((l1 + l2).toInt16.toInt32))) m) ∧ (l0 = (1 : Int32) → Q (some (.int ((l1 - l2).toInt16.toInt32))) m) ∧ (l0 = (2 : Int32) → Q (some (.int ((l1 * l2).toInt16.toInt32))) m) ∧ (l0 = (3 : Int32) → ((¬ l2 = 0 → (¬ l2 = 0 ∧ Q (some (.int ((l1 / l2).toInt16.toInt32))) m)) ∧ (l2 = 0 → Q (some (.int (0 : Int32))) m))) ∧ (l0 = (4 : Int32) → ((¬ l2 = 0 → (¬ l2 = 0 ∧ Q (some (.int ((l1 - l1 / l2 * l2).toInt16.toInt32))) m)) ∧ (l2 = 0 → Q (some (.int (0 : Int32))) m))) ∧ (l0 = (5 : Int32) → Q (some (.int (l1 + l2))) m) ∧ (l0 = (6 : Int32) → Q (some (.int (l1 - l2))) m) ∧ (l0 = (7 : Int32) → Q (some (.int (l1 * l2))) m) ∧ (l0 = (8 : Int32) → ((¬ l2 = 0 → (¬ l2 = 0 ∧ Q (some (.int (l1 / l2))) m)) ∧ (l2 = 0 → Q (some (.int (0 : Int32))) m))) ∧ (l0 = (9 : Int32) → ((¬ l2 = 0 → (¬ l2 = 0 ∧ Q (some (.int (l1 - l1 / l2 * l2))) m)) ∧ (l2 = 0 → Q (some (.int (0 : Int32))) m))) ∧ (l0 = (10 : Int32) → Q (some (.int (l1 &&& l2))) m) ∧ (l0 = (11 : Int32) → Q (some (.int (l1 ||| l2))) m) ∧ (l0 = (12 : Int32) → Q (some (.int (l1 ^^^ l2))) m) ∧ (¬ l0 = (0 : Int32) → ¬ l0 = (1 : Int32) → ¬ l0 = (2 : Int32) → ¬ l0 = (3 : Int32) → ¬ l0 = (4 : Int32) → ¬ l0 = (5 : Int32) → ¬ l0 = (6 : Int32) → ¬ l0 = (7 : Int32) → ¬ l0 = (8 : Int32) → ¬ l0 = (9 : Int32) → ¬ l0 = (10 : Int32) → ¬ l0 = (11 : Int32) → ¬ l0 = (12 : Int32) → (((19 : Int32) ≤ l0 → (yC (xg xs) d 177 [.int l0, .int l1, .int l2] m (fun v1 m1 => ∃ u1, v1 = some (Value.int u1) ∧ Q (some (.int u1)) m1))) ∧ (¬ (19 : Int32) ≤ l0 → (yC (xg xs) d 176 [.int l0, .int l1, .int l2] m (fun v2 m2 => ∃ u2, v2 = some (Value.int u2) ∧ Q (some (.int u2)) m2))))))) : yP (xg xs) (d + 1) 175 0 [(0, .int l0), (1, .int l1), (2, .int l2)] [] m Q := by
  refine y_st rfl rfl rfl rfl rfl (fun _ _ => rfl) ?_
  show yP (xg xs) (d + 1) 175 1 [(0, .int l0), (1, .int l1), (2, .int l2)] [.int l0] m Q
  by_cases h0 : l0 = (0 : Int32)
  · replace H := H.1 h0
    refine y_tsw (t := 68) rfl rfl (by rw [h0]; rfl) ?_
    clear h0
    refine y_st rfl rfl rfl rfl rfl (fun _ _ => rfl) ?_
    refine y_st rfl rfl rfl rfl rfl (fun _ _ => rfl) ?_
    refine y_st rfl rfl rfl rfl rfl (fun _ _ => rfl) ?_
    refine y_st rfl rfl rfl rfl rfl (fun _ _ => rfl) ?_
    show yP (xg xs) (d + 1) 175 72 [(0, .int l0), (1, .int l1), (2, .int l2)] [.int ((l1 + l2).toInt16.toInt32)] m Q
    exact y_iret rfl rfl rfl H
  replace H := H.2
  by_cases h1 : l0 = (1 : Int32)
  · replace H := H.1 h1
    refine y_tsw (t := 73) rfl rfl (by rw [h1]; rfl) ?_
    clear h1 h0
    refine y_st rfl rfl rfl rfl rfl (fun _ _ => rfl) ?_
    refine y_st rfl rfl rfl rfl rfl (fun _ _ => rfl) ?_
    refine y_st rfl rfl rfl rfl rfl (fun _ _ => rfl) ?_
    refine y_st rfl rfl rfl rfl rfl (fun _ _ => rfl) ?_
    show yP (xg xs) (d + 1) 175 77 [(0, .int l0), (1, .int l1), (2, .int l2)] [.int ((l1 - l2).toInt16.toInt32)] m Q
    exact y_iret rfl rfl rfl H
  replace H := H.2
  by_cases h2 : l0 = (2 : Int32)
  · replace H := H.1 h2
    refine y_tsw (t := 78) rfl rfl (by rw [h2]; rfl) ?_
    clear h2 h1 h0
    refine y_st rfl rfl rfl rfl rfl (fun _ _ => rfl) ?_
    refine y_st rfl rfl rfl rfl rfl (fun _ _ => rfl) ?_
    refine y_st rfl rfl rfl rfl rfl (fun _ _ => rfl) ?_
    refine y_st rfl rfl rfl rfl rfl (fun _ _ => rfl) ?_
    show yP (xg xs) (d + 1) 175 82 [(0, .int l0), (1, .int l1), (2, .int l2)] [.int ((l1 * l2).toInt16.toInt32)] m Q
    exact y_iret rfl rfl rfl H
  replace H := H.2
  by_cases h3 : l0 = (3 : Int32)
  · replace H := H.1 h3
    refine y_tsw (t := 83) rfl rfl (by rw [h3]; rfl) ?_
    clear h3 h2 h1 h0
    refine y_st rfl rfl rfl rfl rfl (fun _ _ => rfl) ?_
    show yP (xg xs) (d + 1) 175 84 [(0, .int l0), (1, .int l1), (2, .int l2)] [.int l2] m Q
    refine y_zne (t := 91) rfl rfl rfl (fun h => ?_) (fun h => ?_)
    · replace H := H.1 h; clear h
      refine y_st rfl rfl rfl rfl rfl (fun _ _ => rfl) ?_
      refine y_st rfl rfl rfl rfl rfl (fun _ _ => rfl) ?_
      show yP (xg xs) (d + 1) 175 93 [(0, .int l0), (1, .int l1), (2, .int l2)] [.int l2, .int l1] m Q
      refine y_idiv rfl rfl H.1 ?_
      replace H := H.2
      refine y_st rfl rfl rfl rfl rfl (fun _ _ => rfl) ?_
      show yP (xg xs) (d + 1) 175 95 [(0, .int l0), (1, .int l1), (2, .int l2)] [.int ((l1 / l2).toInt16.toInt32)] m Q
      exact y_iret rfl rfl rfl H
    · replace H := H.2 h; clear h
      refine y_st rfl rfl rfl rfl rfl (fun _ _ => rfl) ?_
      refine y_st rfl rfl rfl rfl rfl (fun _ _ => rfl) ?_
      show yP (xg xs) (d + 1) 175 95 [(0, .int l0), (1, .int l1), (2, .int l2)] [.int (0 : Int32)] m Q
      exact y_iret rfl rfl rfl H
  replace H := H.2
  by_cases h4 : l0 = (4 : Int32)
  · replace H := H.1 h4
    refine y_tsw (t := 96) rfl rfl (by rw [h4]; rfl) ?_
    clear h4 h3 h2 h1 h0
    refine y_st rfl rfl rfl rfl rfl (fun _ _ => rfl) ?_
    show yP (xg xs) (d + 1) 175 97 [(0, .int l0), (1, .int l1), (2, .int l2)] [.int l2] m Q
    refine y_zne (t := 104) rfl rfl rfl (fun h => ?_) (fun h => ?_)
    · replace H := H.1 h; clear h
      refine y_st rfl rfl rfl rfl rfl (fun _ _ => rfl) ?_
      refine y_st rfl rfl rfl rfl rfl (fun _ _ => rfl) ?_
      show yP (xg xs) (d + 1) 175 106 [(0, .int l0), (1, .int l1), (2, .int l2)] [.int l2, .int l1] m Q
      refine y_irem rfl rfl H.1 ?_
      replace H := H.2
      refine y_st rfl rfl rfl rfl rfl (fun _ _ => rfl) ?_
      show yP (xg xs) (d + 1) 175 108 [(0, .int l0), (1, .int l1), (2, .int l2)] [.int ((l1 - l1 / l2 * l2).toInt16.toInt32)] m Q
      exact y_iret rfl rfl rfl H
    · replace H := H.2 h; clear h
      refine y_st rfl rfl rfl rfl rfl (fun _ _ => rfl) ?_
      refine y_st rfl rfl rfl rfl rfl (fun _ _ => rfl) ?_
      show yP (xg xs) (d + 1) 175 108 [(0, .int l0), (1, .int l1), (2, .int l2)] [.int (0 : Int32)] m Q
      exact y_iret rfl rfl rfl H
  replace H := H.2
  by_cases h5 : l0 = (5 : Int32)
  · replace H := H.1 h5
    refine y_tsw (t := 109) rfl rfl (by rw [h5]; rfl) ?_
    clear h5 h4 h3 h2 h1 h0
    refine y_st rfl rfl rfl rfl rfl (fun _ _ => rfl) ?_
    refine y_st rfl rfl rfl rfl rfl (fun _ _ => rfl) ?_
    refine y_st rfl rfl rfl rfl rfl (fun _ _ => rfl) ?_
    show yP (xg xs) (d + 1) 175 112 [(0, .int l0), (1, .int l1), (2, .int l2)] [.int (l1 + l2)] m Q
    exact y_iret rfl rfl rfl H
  replace H := H.2
  by_cases h6 : l0 = (6 : Int32)
  · replace H := H.1 h6
    refine y_tsw (t := 113) rfl rfl (by rw [h6]; rfl) ?_
    clear h6 h5 h4 h3 h2 h1 h0
    refine y_st rfl rfl rfl rfl rfl (fun _ _ => rfl) ?_
    refine y_st rfl rfl rfl rfl rfl (fun _ _ => rfl) ?_
    refine y_st rfl rfl rfl rfl rfl (fun _ _ => rfl) ?_
    show yP (xg xs) (d + 1) 175 116 [(0, .int l0), (1, .int l1), (2, .int l2)] [.int (l1 - l2)] m Q
    exact y_iret rfl rfl rfl H
  replace H := H.2
  by_cases h7 : l0 = (7 : Int32)
  · replace H := H.1 h7
    refine y_tsw (t := 117) rfl rfl (by rw [h7]; rfl) ?_
    clear h7 h6 h5 h4 h3 h2 h1 h0
    refine y_st rfl rfl rfl rfl rfl (fun _ _ => rfl) ?_
    refine y_st rfl rfl rfl rfl rfl (fun _ _ => rfl) ?_
    refine y_st rfl rfl rfl rfl rfl (fun _ _ => rfl) ?_
    show yP (xg xs) (d + 1) 175 120 [(0, .int l0), (1, .int l1), (2, .int l2)] [.int (l1 * l2)] m Q
    exact y_iret rfl rfl rfl H
  replace H := H.2
  by_cases h8 : l0 = (8 : Int32)
  · replace H := H.1 h8
    refine y_tsw (t := 121) rfl rfl (by rw [h8]; rfl) ?_
    clear h8 h7 h6 h5 h4 h3 h2 h1 h0
    refine y_st rfl rfl rfl rfl rfl (fun _ _ => rfl) ?_
    show yP (xg xs) (d + 1) 175 122 [(0, .int l0), (1, .int l1), (2, .int l2)] [.int l2] m Q
    refine y_zne (t := 129) rfl rfl rfl (fun h => ?_) (fun h => ?_)
    · replace H := H.1 h; clear h
      refine y_st rfl rfl rfl rfl rfl (fun _ _ => rfl) ?_
      refine y_st rfl rfl rfl rfl rfl (fun _ _ => rfl) ?_
      show yP (xg xs) (d + 1) 175 131 [(0, .int l0), (1, .int l1), (2, .int l2)] [.int l2, .int l1] m Q
      refine y_idiv rfl rfl H.1 ?_
      replace H := H.2
      show yP (xg xs) (d + 1) 175 132 [(0, .int l0), (1, .int l1), (2, .int l2)] [.int (l1 / l2)] m Q
      exact y_iret rfl rfl rfl H
    · replace H := H.2 h; clear h
      refine y_st rfl rfl rfl rfl rfl (fun _ _ => rfl) ?_
      refine y_st rfl rfl rfl rfl rfl (fun _ _ => rfl) ?_
      show yP (xg xs) (d + 1) 175 132 [(0, .int l0), (1, .int l1), (2, .int l2)] [.int (0 : Int32)] m Q
      exact y_iret rfl rfl rfl H
  replace H := H.2
  by_cases h9 : l0 = (9 : Int32)
  · replace H := H.1 h9
    refine y_tsw (t := 133) rfl rfl (by rw [h9]; rfl) ?_
    clear h9 h8 h7 h6 h5 h4 h3 h2 h1 h0
    refine y_st rfl rfl rfl rfl rfl (fun _ _ => rfl) ?_
    show yP (xg xs) (d + 1) 175 134 [(0, .int l0), (1, .int l1), (2, .int l2)] [.int l2] m Q
    refine y_zne (t := 141) rfl rfl rfl (fun h => ?_) (fun h => ?_)
    · replace H := H.1 h; clear h
      refine y_st rfl rfl rfl rfl rfl (fun _ _ => rfl) ?_
      refine y_st rfl rfl rfl rfl rfl (fun _ _ => rfl) ?_
      show yP (xg xs) (d + 1) 175 143 [(0, .int l0), (1, .int l1), (2, .int l2)] [.int l2, .int l1] m Q
      refine y_irem rfl rfl H.1 ?_
      replace H := H.2
      show yP (xg xs) (d + 1) 175 144 [(0, .int l0), (1, .int l1), (2, .int l2)] [.int (l1 - l1 / l2 * l2)] m Q
      exact y_iret rfl rfl rfl H
    · replace H := H.2 h; clear h
      refine y_st rfl rfl rfl rfl rfl (fun _ _ => rfl) ?_
      refine y_st rfl rfl rfl rfl rfl (fun _ _ => rfl) ?_
      show yP (xg xs) (d + 1) 175 144 [(0, .int l0), (1, .int l1), (2, .int l2)] [.int (0 : Int32)] m Q
      exact y_iret rfl rfl rfl H
  replace H := H.2
  by_cases h10 : l0 = (10 : Int32)
  · replace H := H.1 h10
    refine y_tsw (t := 145) rfl rfl (by rw [h10]; rfl) ?_
    clear h10 h9 h8 h7 h6 h5 h4 h3 h2 h1 h0
    refine y_st rfl rfl rfl rfl rfl (fun _ _ => rfl) ?_
    refine y_st rfl rfl rfl rfl rfl (fun _ _ => rfl) ?_
    refine y_st rfl rfl rfl rfl rfl (fun _ _ => rfl) ?_
    show yP (xg xs) (d + 1) 175 148 [(0, .int l0), (1, .int l1), (2, .int l2)] [.int (l1 &&& l2)] m Q
    exact y_iret rfl rfl rfl H
  replace H := H.2
  by_cases h11 : l0 = (11 : Int32)
  · replace H := H.1 h11
    refine y_tsw (t := 149) rfl rfl (by rw [h11]; rfl) ?_
    clear h11 h10 h9 h8 h7 h6 h5 h4 h3 h2 h1 h0
    refine y_st rfl rfl rfl rfl rfl (fun _ _ => rfl) ?_
    refine y_st rfl rfl rfl rfl rfl (fun _ _ => rfl) ?_
    refine y_st rfl rfl rfl rfl rfl (fun _ _ => rfl) ?_
    show yP (xg xs) (d + 1) 175 152 [(0, .int l0), (1, .int l1), (2, .int l2)] [.int (l1 ||| l2)] m Q
    exact y_iret rfl rfl rfl H
  replace H := H.2
  by_cases h12 : l0 = (12 : Int32)
  · replace H := H.1 h12
    refine y_tsw (t := 153) rfl rfl (by rw [h12]; rfl) ?_
    clear h12 h11 h10 h9 h8 h7 h6 h5 h4 h3 h2 h1 h0
    refine y_st rfl rfl rfl rfl rfl (fun _ _ => rfl) ?_
    refine y_st rfl rfl rfl rfl rfl (fun _ _ => rfl) ?_
    refine y_st rfl rfl rfl rfl rfl (fun _ _ => rfl) ?_
    show yP (xg xs) (d + 1) 175 156 [(0, .int l0), (1, .int l1), (2, .int l2)] [.int (l1 ^^^ l2)] m Q
    exact y_iret rfl rfl rfl H
  replace H := H.2
  refine y_tsw (t := 157) rfl rfl ((if_pos (by have g0 := ne_lit (0 : Int32) 0 rfl h0; have g1 := ne_lit (1 : Int32) 1 rfl h1; have g2 := ne_lit (2 : Int32) 2 rfl h2; have g3 := ne_lit (3 : Int32) 3 rfl h3; have g4 := ne_lit (4 : Int32) 4 rfl h4; have g5 := ne_lit (5 : Int32) 5 rfl h5; have g6 := ne_lit (6 : Int32) 6 rfl h6; have g7 := ne_lit (7 : Int32) 7 rfl h7; have g8 := ne_lit (8 : Int32) 8 rfl h8; have g9 := ne_lit (9 : Int32) 9 rfl h9; have g10 := ne_lit (10 : Int32) 10 rfl h10; have g11 := ne_lit (11 : Int32) 11 rfl h11; have g12 := ne_lit (12 : Int32) 12 rfl h12; omega)).trans rfl) ?_
  replace H := H h0 h1 h2 h3 h4 h5 h6 h7 h8 h9 h10 h11 h12
  clear h12 h11 h10 h9 h8 h7 h6 h5 h4 h3 h2 h1 h0
  refine y_st rfl rfl rfl rfl rfl (fun _ _ => rfl) ?_
  refine y_st rfl rfl rfl rfl rfl (fun _ _ => rfl) ?_
  show yP (xg xs) (d + 1) 175 160 [(0, .int l0), (1, .int l1), (2, .int l2)] [.int (19 : Int32), .int l0] m Q
  refine y_ige (t := 172) rfl rfl rfl (fun h => ?_) (fun h => ?_)
  · replace H := H.1 h; clear h
    refine y_st rfl rfl rfl rfl rfl (fun _ _ => rfl) ?_
    refine y_st rfl rfl rfl rfl rfl (fun _ _ => rfl) ?_
    refine y_st rfl rfl rfl rfl rfl (fun _ _ => rfl) ?_
    show yP (xg xs) (d + 1) 175 175 [(0, .int l0), (1, .int l1), (2, .int l2)] [.int l2, .int l1, .int l0] m Q
    refine y_call rfl rfl rfl rfl rfl (Nat.le_of_ble_eq_true rfl) (Nat.le_of_ble_eq_true rfl) rfl (by decide) H (fun v1 m1 H => ?_)
    obtain ⟨u1, rfl, H⟩ := H
    show yP (xg xs) (d + 1) 175 178 [(0, .int l0), (1, .int l1), (2, .int l2)] [.int u1] m1 Q
    exact y_iret rfl rfl rfl H
  · replace H := H.2 h; clear h
    refine y_st rfl rfl rfl rfl rfl (fun _ _ => rfl) ?_
    refine y_st rfl rfl rfl rfl rfl (fun _ _ => rfl) ?_
    refine y_st rfl rfl rfl rfl rfl (fun _ _ => rfl) ?_
    show yP (xg xs) (d + 1) 175 166 [(0, .int l0), (1, .int l1), (2, .int l2)] [.int l2, .int l1, .int l0] m Q
    refine y_call rfl rfl rfl rfl rfl (Nat.le_of_ble_eq_true rfl) (Nat.le_of_ble_eq_true rfl) rfl (by decide) H (fun v2 m2 H => ?_)
    obtain ⟨u2, rfl, H⟩ := H
    refine y_st rfl rfl rfl rfl rfl (fun _ _ => rfl) ?_
    show yP (xg xs) (d + 1) 175 178 [(0, .int l0), (1, .int l1), (2, .int l2)] [.int u2] m2 Q
    exact y_iret rfl rfl rfl H
set_option maxRecDepth 20000 in
/-- CodeMaker.Machine.compared from 0 on -/
theorem w176_0 (xs : List Int32) (d : Nat) (l0 : Int32) (l1 : Int32) (l2 : Int32) (m : yM) (Q : Option Value → yM → Prop) (H : ((l0 = (13 : Int32) → ((¬ l1 = l2 → yP (xg xs) (d + 1) 176 46 [] [.int (0 : Int32)] m Q) ∧ (l1 = l2 → yP (xg xs) (d + 1) 176 46 [] [.int (1 : Int32)] m Q))) ∧ (l0 = (14 : Int32) → ((l1 = l2 → yP (xg xs) (d + 1) 176 60 [] [.int (0 : Int32)] m Q) ∧ (¬ l1 = l2 → yP (xg xs) (d + 1) 176 60 [] [.int (1 : Int32)] m Q))) ∧ (l0 = (15 : Int32) → ((l2 ≤ l1 → yP (xg xs) (d + 1) 176 74 [] [.int (0 : Int32)] m Q) ∧ (¬ l2 ≤ l1 → yP (xg xs) (d + 1) 176 74 [] [.int (1 : Int32)] m Q))) ∧ (l0 = (16 : Int32) → ((l1 ≤ l2 → yP (xg xs) (d + 1) 176 88 [] [.int (0 : Int32)] m Q) ∧ (¬ l1 ≤ l2 → yP (xg xs) (d + 1) 176 88 [] [.int (1 : Int32)] m Q))) ∧ (l0 = (17 : Int32) → ((l2 < l1 → yP (xg xs) (d + 1) 176 102 [] [.int (0 : Int32)] m Q) ∧ (¬ l2 < l1 → yP (xg xs) (d + 1) 176 102 [] [.int (1 : Int32)] m Q))) ∧ (¬ l0 = (13 : Int32) → ¬ l0 = (14 : Int32) → ¬ l0 = (15 : Int32) → ¬ l0 = (16 : Int32) → ¬ l0 = (17 : Int32) → ((l1 < l2 → yP (xg xs) (d + 1) 176 116 [] [.int (0 : Int32)] m Q) ∧ (¬ l1 < l2 → yP (xg xs) (d + 1) 176 116 [] [.int (1 : Int32)] m Q))))) : yP (xg xs) (d + 1) 176 0 [(0, .int l0), (1, .int l1), (2, .int l2)] [] m Q := by
  refine y_st rfl rfl rfl rfl rfl (fun _ _ => rfl) ?_
  show yP (xg xs) (d + 1) 176 1 [(0, .int l0), (1, .int l1), (2, .int l2)] [.int l0] m Q
  by_cases h13 : l0 = (13 : Int32)
  · replace H := H.1 h13
    refine y_tsw (t := 36) rfl rfl (by rw [h13]; rfl) ?_
    clear h13
    refine y_st rfl rfl rfl rfl rfl (fun _ _ => rfl) ?_
    refine y_st rfl rfl rfl rfl rfl (fun _ _ => rfl) ?_
    show yP (xg xs) (d + 1) 176 38 [(0, .int l0), (1, .int l1), (2, .int l2)] [.int l2, .int l1] m Q
    refine y_ine (t := 45) rfl rfl rfl (fun h => ?_) (fun h => ?_)
    · replace H := H.1 h; clear h
      refine y_st rfl rfl rfl rfl rfl (fun _ _ => rfl) ?_
      show yP (xg xs) (d + 1) 176 46 [(0, .int l0), (1, .int l1), (2, .int l2)] [.int (0 : Int32)] m Q
      refine y_headS (l2 := []) [] [] [0, 1, 2] rfl rfl (by decide) rfl (by decide) ?_
      exact H
    · replace H := H.2 h; clear h
      refine y_st rfl rfl rfl rfl rfl (fun _ _ => rfl) ?_
      refine y_st rfl rfl rfl rfl rfl (fun _ _ => rfl) ?_
      show yP (xg xs) (d + 1) 176 46 [(0, .int l0), (1, .int l1), (2, .int l2)] [.int (1 : Int32)] m Q
      refine y_headS (l2 := []) [] [] [0, 1, 2] rfl rfl (by decide) rfl (by decide) ?_
      exact H
  replace H := H.2
  by_cases h14 : l0 = (14 : Int32)
  · replace H := H.1 h14
    refine y_tsw (t := 50) rfl rfl (by rw [h14]; rfl) ?_
    clear h14 h13
    refine y_st rfl rfl rfl rfl rfl (fun _ _ => rfl) ?_
    refine y_st rfl rfl rfl rfl rfl (fun _ _ => rfl) ?_
    show yP (xg xs) (d + 1) 176 52 [(0, .int l0), (1, .int l1), (2, .int l2)] [.int l2, .int l1] m Q
    refine y_ieq (t := 59) rfl rfl rfl (fun h => ?_) (fun h => ?_)
    · replace H := H.1 h; clear h
      refine y_st rfl rfl rfl rfl rfl (fun _ _ => rfl) ?_
      show yP (xg xs) (d + 1) 176 60 [(0, .int l0), (1, .int l1), (2, .int l2)] [.int (0 : Int32)] m Q
      refine y_headS (l2 := []) [] [] [0, 1, 2] rfl rfl (by decide) rfl (by decide) ?_
      exact H
    · replace H := H.2 h; clear h
      refine y_st rfl rfl rfl rfl rfl (fun _ _ => rfl) ?_
      refine y_st rfl rfl rfl rfl rfl (fun _ _ => rfl) ?_
      show yP (xg xs) (d + 1) 176 60 [(0, .int l0), (1, .int l1), (2, .int l2)] [.int (1 : Int32)] m Q
      refine y_headS (l2 := []) [] [] [0, 1, 2] rfl rfl (by decide) rfl (by decide) ?_
      exact H
  replace H := H.2
  by_cases h15 : l0 = (15 : Int32)
  · replace H := H.1 h15
    refine y_tsw (t := 64) rfl rfl (by rw [h15]; rfl) ?_
    clear h15 h14 h13
    refine y_st rfl rfl rfl rfl rfl (fun _ _ => rfl) ?_
    refine y_st rfl rfl rfl rfl rfl (fun _ _ => rfl) ?_
    show yP (xg xs) (d + 1) 176 66 [(0, .int l0), (1, .int l1), (2, .int l2)] [.int l2, .int l1] m Q
    refine y_ige (t := 73) rfl rfl rfl (fun h => ?_) (fun h => ?_)
    · replace H := H.1 h; clear h
      refine y_st rfl rfl rfl rfl rfl (fun _ _ => rfl) ?_
      show yP (xg xs) (d + 1) 176 74 [(0, .int l0), (1, .int l1), (2, .int l2)] [.int (0 : Int32)] m Q
      refine y_headS (l2 := []) [] [] [0, 1, 2] rfl rfl (by decide) rfl (by decide) ?_
      exact H
    · replace H := H.2 h; clear h
      refine y_st rfl rfl rfl rfl rfl (fun _ _ => rfl) ?_
      refine y_st rfl rfl rfl rfl rfl (fun _ _ => rfl) ?_
      show yP (xg xs) (d + 1) 176 74 [(0, .int l0), (1, .int l1), (2, .int l2)] [.int (1 : Int32)] m Q
      refine y_headS (l2 := []) [] [] [0, 1, 2] rfl rfl (by decide) rfl (by decide) ?_
      exact H
  replace H := H.2
  by_cases h16 : l0 = (16 : Int32)
  · replace H := H.1 h16
    refine y_tsw (t := 78) rfl rfl (by rw [h16]; rfl) ?_
    clear h16 h15 h14 h13
    refine y_st rfl rfl rfl rfl rfl (fun _ _ => rfl) ?_
    refine y_st rfl rfl rfl rfl rfl (fun _ _ => rfl) ?_
    show yP (xg xs) (d + 1) 176 80 [(0, .int l0), (1, .int l1), (2, .int l2)] [.int l2, .int l1] m Q
    refine y_ile (t := 87) rfl rfl rfl (fun h => ?_) (fun h => ?_)
    · replace H := H.1 h; clear h
      refine y_st rfl rfl rfl rfl rfl (fun _ _ => rfl) ?_
      show yP (xg xs) (d + 1) 176 88 [(0, .int l0), (1, .int l1), (2, .int l2)] [.int (0 : Int32)] m Q
      refine y_headS (l2 := []) [] [] [0, 1, 2] rfl rfl (by decide) rfl (by decide) ?_
      exact H
    · replace H := H.2 h; clear h
      refine y_st rfl rfl rfl rfl rfl (fun _ _ => rfl) ?_
      refine y_st rfl rfl rfl rfl rfl (fun _ _ => rfl) ?_
      show yP (xg xs) (d + 1) 176 88 [(0, .int l0), (1, .int l1), (2, .int l2)] [.int (1 : Int32)] m Q
      refine y_headS (l2 := []) [] [] [0, 1, 2] rfl rfl (by decide) rfl (by decide) ?_
      exact H
  replace H := H.2
  by_cases h17 : l0 = (17 : Int32)
  · replace H := H.1 h17
    refine y_tsw (t := 92) rfl rfl (by rw [h17]; rfl) ?_
    clear h17 h16 h15 h14 h13
    refine y_st rfl rfl rfl rfl rfl (fun _ _ => rfl) ?_
    refine y_st rfl rfl rfl rfl rfl (fun _ _ => rfl) ?_
    show yP (xg xs) (d + 1) 176 94 [(0, .int l0), (1, .int l1), (2, .int l2)] [.int l2, .int l1] m Q
    refine y_igt (t := 101) rfl rfl rfl (fun h => ?_) (fun h => ?_)
    · replace H := H.1 h; clear h
      refine y_st rfl rfl rfl rfl rfl (fun _ _ => rfl) ?_
      show yP (xg xs) (d + 1) 176 102 [(0, .int l0), (1, .int l1), (2, .int l2)] [.int (0 : Int32)] m Q
      refine y_headS (l2 := []) [] [] [0, 1, 2] rfl rfl (by decide) rfl (by decide) ?_
      exact H
    · replace H := H.2 h; clear h
      refine y_st rfl rfl rfl rfl rfl (fun _ _ => rfl) ?_
      refine y_st rfl rfl rfl rfl rfl (fun _ _ => rfl) ?_
      show yP (xg xs) (d + 1) 176 102 [(0, .int l0), (1, .int l1), (2, .int l2)] [.int (1 : Int32)] m Q
      refine y_headS (l2 := []) [] [] [0, 1, 2] rfl rfl (by decide) rfl (by decide) ?_
      exact H
  replace H := H.2
  refine y_tsw (t := 106) rfl rfl ((if_pos (by have g0 := ne_lit (13 : Int32) 13 rfl h13; have g1 := ne_lit (14 : Int32) 14 rfl h14; have g2 := ne_lit (15 : Int32) 15 rfl h15; have g3 := ne_lit (16 : Int32) 16 rfl h16; have g4 := ne_lit (17 : Int32) 17 rfl h17; omega)).trans rfl) ?_
  replace H := H h13 h14 h15 h16 h17
  clear h17 h16 h15 h14 h13
  refine y_st rfl rfl rfl rfl rfl (fun _ _ => rfl) ?_
  refine y_st rfl rfl rfl rfl rfl (fun _ _ => rfl) ?_
  show yP (xg xs) (d + 1) 176 108 [(0, .int l0), (1, .int l1), (2, .int l2)] [.int l2, .int l1] m Q
  refine y_ilt (t := 115) rfl rfl rfl (fun h => ?_) (fun h => ?_)
  · replace H := H.1 h; clear h
    refine y_st rfl rfl rfl rfl rfl (fun _ _ => rfl) ?_
    show yP (xg xs) (d + 1) 176 116 [(0, .int l0), (1, .int l1), (2, .int l2)] [.int (0 : Int32)] m Q
    refine y_headS (l2 := []) [] [] [0, 1, 2] rfl rfl (by decide) rfl (by decide) ?_
    exact H
  · replace H := H.2 h; clear h
    refine y_st rfl rfl rfl rfl rfl (fun _ _ => rfl) ?_
    refine y_st rfl rfl rfl rfl rfl (fun _ _ => rfl) ?_
    show yP (xg xs) (d + 1) 176 116 [(0, .int l0), (1, .int l1), (2, .int l2)] [.int (1 : Int32)] m Q
    refine y_headS (l2 := []) [] [] [0, 1, 2] rfl rfl (by decide) rfl (by decide) ?_
    exact H
set_option maxRecDepth 20000 in
/-- CodeMaker.Machine.compared from 46 on -/
theorem w176_46 (xs : List Int32) (d : Nat) (s0 : Int32) (m : yM) (Q : Option Value → yM → Prop) (H : yP (xg xs) (d + 1) 176 117 [(3, .int s0)] [] m Q) : yP (xg xs) (d + 1) 176 46 [] [.int s0] m Q := by
  refine y_st rfl rfl rfl rfl rfl (fun _ _ => rfl) ?_
  refine y_st rfl rfl rfl rfl rfl (fun _ _ => rfl) ?_
  show yP (xg xs) (d + 1) 176 117 [(3, .int s0)] [] m Q
  exact H
set_option maxRecDepth 20000 in
/-- CodeMaker.Machine.compared from 60 on -/
theorem w176_60 (xs : List Int32) (d : Nat) (s0 : Int32) (m : yM) (Q : Option Value → yM → Prop) (H : yP (xg xs) (d + 1) 176 117 [(3, .int s0)] [] m Q) : yP (xg xs) (d + 1) 176 60 [] [.int s0] m Q := by
  refine y_st rfl rfl rfl rfl rfl (fun _ _ => rfl) ?_
  refine y_st rfl rfl rfl rfl rfl (fun _ _ => rfl) ?_
  show yP (xg xs) (d + 1) 176 117 [(3, .int s0)] [] m Q
  exact H
set_option maxRecDepth 20000 in
/-- CodeMaker.Machine.compared from 74 on -/
theorem w176_74 (xs : List Int32) (d : Nat) (s0 : Int32) (m : yM) (Q : Option Value → yM → Prop) (H : yP (xg xs) (d + 1) 176 117 [(3, .int s0)] [] m Q) : yP (xg xs) (d + 1) 176 74 [] [.int s0] m Q := by
  refine y_st rfl rfl rfl rfl rfl (fun _ _ => rfl) ?_
  refine y_st rfl rfl rfl rfl rfl (fun _ _ => rfl) ?_
  show yP (xg xs) (d + 1) 176 117 [(3, .int s0)] [] m Q
  exact H
set_option maxRecDepth 20000 in
/-- CodeMaker.Machine.compared from 88 on -/
theorem w176_88 (xs : List Int32) (d : Nat) (s0 : Int32) (m : yM) (Q : Option Value → yM → Prop) (H : yP (xg xs) (d + 1) 176 117 [(3, .int s0)] [] m Q) : yP (xg xs) (d + 1) 176 88 [] [.int s0] m Q := by
  refine y_st rfl rfl rfl rfl rfl (fun _ _ => rfl) ?_
  refine y_st rfl rfl rfl rfl rfl (fun _ _ => rfl) ?_
  show yP (xg xs) (d + 1) 176 117 [(3, .int s0)] [] m Q
  exact H
set_option maxRecDepth 20000 in
/-- CodeMaker.Machine.compared from 102 on -/
theorem w176_102 (xs : List Int32) (d : Nat) (s0 : Int32) (m : yM) (Q : Option Value → yM → Prop) (H : yP (xg xs) (d + 1) 176 117 [(3, .int s0)] [] m Q) : yP (xg xs) (d + 1) 176 102 [] [.int s0] m Q := by
  refine y_st rfl rfl rfl rfl rfl (fun _ _ => rfl) ?_
  refine y_st rfl rfl rfl rfl rfl (fun _ _ => rfl) ?_
  show yP (xg xs) (d + 1) 176 117 [(3, .int s0)] [] m Q
  exact H
set_option maxRecDepth 20000 in
/-- CodeMaker.Machine.compared from 116 on -/
theorem w176_116 (xs : List Int32) (d : Nat) (s0 : Int32) (m : yM) (Q : Option Value → yM → Prop) (H : yP (xg xs) (d + 1) 176 117 [(3, .int s0)] [] m Q) : yP (xg xs) (d + 1) 176 116 [] [.int s0] m Q := by
  refine y_st rfl rfl rfl rfl rfl (fun _ _ => rfl) ?_
  show yP (xg xs) (d + 1) 176 117 [(3, .int s0)] [] m Q
  exact H
set_option maxRecDepth 20000 in
/-- CodeMaker.Machine.compared from 117 on -/
theorem w176_117 (xs : List Int32) (d : Nat) (l3 : Int32) (m : yM) (Q : Option Value → yM → Prop) (H : ((l3 = 0 → Q (some (.int (0 : Int32))) m) ∧ (¬ l3 = 0 → Q (some (.int (1 : Int32))) m))) : yP (xg xs) (d + 1) 176 117 [(3, .int l3)] [] m Q := by
  refine y_st rfl rfl rfl rfl rfl (fun _ _ => rfl) ?_
  show yP (xg xs) (d + 1) 176 118 [(3, .int l3)] [.int l3] m Q
  refine y_zeq (t := 125) rfl rfl rfl (fun h => ?_) (fun h => ?_)
  · replace H := H.1 h; clear h
    refine y_st rfl rfl rfl rfl rfl (fun _ _ => rfl) ?_
    show yP (xg xs) (d + 1) 176 126 [(3, .int l3)] [.int (0 : Int32)] m Q
    exact y_iret rfl rfl rfl H
  · replace H := H.2 h; clear h
    refine y_st rfl rfl rfl rfl rfl (fun _ _ => rfl) ?_
    refine y_st rfl rfl rfl rfl rfl (fun _ _ => rfl) ?_
    show yP (xg xs) (d + 1) 176 126 [(3, .int l3)] [.int (1 : Int32)] m Q
    exact y_iret rfl rfl rfl H
set_option maxRecDepth 20000 in
/-- CodeMaker.Machine.shifted from 0 on -/
theorem w177_0 (xs : List Int32) (d : Nat) (l0 : Int32) (l1 : Int32) (l2 : Int32) (m : yM) (Q : Option Value → yM → Prop) (H : ((l0 < (23 : Int32) → ((l2 < 0 → Q (some (.int (0 : Int32))) m) ∧ (¬ l2 < 0 → (((21 : Int32) ≤ l0 → yP (xg xs) (d + 1) 177 44 [(0, .int l0), (1, .int l1), (2, .int l2)] [.int (31 : Int32), .int l2] m Q) ∧ (¬ (21 : Int32) ≤ l0 → yP (xg xs) (d + 1) 177 44 [(0, .int l0), (1, .int l1), (2, .int l2)] [.int (15 : Int32), .int l2] m Q))))) ∧ (¬ l0 < (23 : Int32) → ((¬ l0 = (23 : Int32) → Q (some (.int (if l1 < l2 then l2 else l1))) m) ∧ (l0 = (23 : Int32) → Q (some (.int (if l2 < l1 then l2 else l1))) m))))) : yP (xg xs) (d + 1) 177 0 [(0, .int l0), (1, .int l1), (2, .int l2)] [] m Q := by
  refine y_st rfl rfl rfl rfl rfl (fun _ _ => rfl) ?_
  refine y_st rfl rfl rfl rfl rfl (fun _ _ => rfl) ?_
  show yP (xg xs) (d + 1) 177 3 [(0, .int l0), (1, .int l1), (2, .int l2)] [.int (23 : Int32), .int l0] m Q
  refine y_ilt (t := 26) rfl rfl rfl (fun h => ?_) (fun h => ?_)
  · replace H := H.1 h; clear h
    refine y_st rfl rfl rfl rfl rfl (fun _ _ => rfl) ?_
    show yP (xg xs) (d + 1) 177 27 [(0, .int l0), (1, .int l1), (2, .int l2)] [.int l2] m Q
    refine y_zlt (t := 47) rfl rfl rfl (fun h => ?_) (fun h => ?_)
    · replace H := H.1 h; clear h
      refine y_st rfl rfl rfl rfl rfl (fun _ _ => rfl) ?_
      show yP (xg xs) (d + 1) 177 48 [(0, .int l0), (1, .int l1), (2, .int l2)] [.int (0 : Int32)] m Q
      exact y_iret rfl rfl rfl H
    · replace H := H.2 h; clear h
      refine y_st rfl rfl rfl rfl rfl (fun _ _ => rfl) ?_
      refine y_st rfl rfl rfl rfl rfl (fun _ _ => rfl) ?_
      refine y_st rfl rfl rfl rfl rfl (fun _ _ => rfl) ?_
      show yP (xg xs) (d + 1) 177 34 [(0, .int l0), (1, .int l1), (2, .int l2)] [.int (21 : Int32), .int l0, .int l2] m Q
      refine y_ige (t := 42) rfl rfl rfl (fun h => ?_) (fun h => ?_)
      · replace H := H.1 h; clear h
        refine y_st rfl rfl rfl rfl rfl (fun _ _ => rfl) ?_
        show yP (xg xs) (d + 1) 177 44 [(0, .int l0), (1, .int l1), (2, .int l2)] [.int (31 : Int32), .int l2] m Q
        exact H
      · replace H := H.2 h; clear h
        refine y_st rfl rfl rfl rfl rfl (fun _ _ => rfl) ?_
        refine y_st rfl rfl rfl rfl rfl (fun _ _ => rfl) ?_
        show yP (xg xs) (d + 1) 177 44 [(0, .int l0), (1, .int l1), (2, .int l2)] [.int (15 : Int32), .int l2] m Q
        exact H
  · replace H := H.2 h; clear h
    refine y_st rfl rfl rfl rfl rfl (fun _ _ => rfl) ?_
    refine y_st rfl rfl rfl rfl rfl (fun _ _ => rfl) ?_
    show yP (xg xs) (d + 1) 177 9 [(0, .int l0), (1, .int l1), (2, .int l2)] [.int (23 : Int32), .int l0] m Q
    refine y_ine (t := 20) rfl rfl rfl (fun h => ?_) (fun h => ?_)
    · replace H := H.1 h; clear h
      refine y_st rfl rfl rfl rfl rfl (fun _ _ => rfl) ?_
      refine y_st rfl rfl rfl rfl rfl (fun _ _ => rfl) ?_
      refine y_mi rfl rfl rfl rfl rfl (Nat.le_of_ble_eq_true rfl) (by omega) ?_
      show yP (xg xs) (d + 1) 177 25 [(0, .int l0), (1, .int l1), (2, .int l2)] [.int (if l1 < l2 then l2 else l1)] m Q
      exact y_iret rfl rfl rfl H
    · replace H := H.2 h; clear h
      refine y_st rfl rfl rfl rfl rfl (fun _ _ => rfl) ?_
      refine y_st rfl rfl rfl rfl rfl (fun _ _ => rfl) ?_
      refine y_mi rfl rfl rfl rfl rfl (Nat.le_of_ble_eq_true rfl) (by omega) ?_
      refine y_st rfl rfl rfl rfl rfl (fun _ _ => rfl) ?_
      show yP (xg xs) (d + 1) 177 25 [(0, .int l0), (1, .int l1), (2, .int l2)] [.int (if l2 < l1 then l2 else l1)] m Q
      exact y_iret rfl rfl rfl H
set_option maxRecDepth 20000 in
/-- CodeMaker.Machine.shifted from 44 on -/
theorem w177_44 (xs : List Int32) (d : Nat) (l0 : Int32) (l1 : Int32) (l2 : Int32) (s0 : Int32) (s1 : Int32) (m : yM) (Q : Option Value → yM → Prop) (H : ((s0 ≤ s1 → ((l0 = (19 : Int32) → Q (some (.int ((l1 <<< (l2 &&& 31)).toInt16.toInt32))) m) ∧ (l0 = (20 : Int32) → Q (some (.int ((((l1 &&& (65535 : Int32)).toUInt32 >>> (l2.toUInt32 &&& Int32.toUInt32 31)).toInt32).toInt16.toInt32))) m) ∧ (l0 = (21 : Int32) → Q (some (.int (l1 <<< (l2 &&& 31)))) m) ∧ (¬ l0 = (19 : Int32) → ¬ l0 = (20 : Int32) → ¬ l0 = (21 : Int32) → Q (some (.int ((l1.toUInt32 >>> (l2.toUInt32 &&& Int32.toUInt32 31)).toInt32))) m))) ∧ (¬ s0 ≤ s1 → Q (some (.int (0 : Int32))) m))) : yP (xg xs) (d + 1) 177 44 [(0, .int l0), (1, .int l1), (2, .int l2)] [.int s1, .int s0] m Q := by
  show yP (xg xs) (d + 1) 177 44 [(0, .int l0), (1, .int l1), (2, .int l2)] [.int s1, .int s0] m Q
  refine y_ile (t := 49) rfl rfl rfl (fun h => ?_) (fun h => ?_)
  · replace H := H.1 h; clear h
    refine y_st rfl rfl rfl rfl rfl (fun _ _ => rfl) ?_
    show yP (xg xs) (d + 1) 177 50 [(0, .int l0), (1, .int l1), (2, .int l2)] [.int l0] m Q
    by_cases h19 : l0 = (19 : Int32)
    · replace H := H.1 h19
      refine y_tsw (t := 76) rfl rfl (by rw [h19]; rfl) ?_
      clear h19
      refine y_st rfl rfl rfl rfl rfl (fun _ _ => rfl) ?_
      refine y_st rfl rfl rfl rfl rfl (fun _ _ => rfl) ?_
      refine y_st rfl rfl rfl rfl rfl (fun _ _ => rfl) ?_
      refine y_st rfl rfl rfl rfl rfl (fun _ _ => rfl) ?_
      show yP (xg xs) (d + 1) 177 80 [(0, .int l0), (1, .int l1), (2, .int l2)] [.int ((l1 <<< (l2 &&& 31)).toInt16.toInt32)] m Q
      exact y_iret rfl rfl rfl H
    replace H := H.2
    by_cases h20 : l0 = (20 : Int32)
    · replace H := H.1 h20
      refine y_tsw (t := 81) rfl rfl (by rw [h20]; rfl) ?_
      clear h20 h19
      refine y_st rfl rfl rfl rfl rfl (fun _ _ => rfl) ?_
      refine y_st rfl rfl rfl rfl rfl (fun _ _ => rfl) ?_
      refine y_st rfl rfl rfl rfl rfl (fun _ _ => rfl) ?_
      refine y_st rfl rfl rfl rfl rfl (fun _ _ => rfl) ?_
      refine y_st rfl rfl rfl rfl rfl (fun _ _ => rfl) ?_
      refine y_st rfl rfl rfl rfl rfl (fun _ _ => rfl) ?_
      show yP (xg xs) (d + 1) 177 88 [(0, .int l0), (1, .int l1), (2, .int l2)] [.int ((((l1 &&& (65535 : Int32)).toUInt32 >>> (l2.toUInt32 &&& Int32.toUInt32 31)).toInt32).toInt16.toInt32)] m Q
      exact y_iret rfl rfl rfl H
    replace H := H.2
    by_cases h21 : l0 = (21 : Int32)
    · replace H := H.1 h21
      refine y_tsw (t := 89) rfl rfl (by rw [h21]; rfl) ?_
      clear h21 h20 h19
      refine y_st rfl rfl rfl rfl rfl (fun _ _ => rfl) ?_
      refine y_st rfl rfl rfl rfl rfl (fun _ _ => rfl) ?_
      refine y_st rfl rfl rfl rfl rfl (fun _ _ => rfl) ?_
      show yP (xg xs) (d + 1) 177 92 [(0, .int l0), (1, .int l1), (2, .int l2)] [.int (l1 <<< (l2 &&& 31))] m Q
      exact y_iret rfl rfl rfl H
    replace H := H.2
    refine y_tsw (t := 93) rfl rfl ((if_pos (by have g0 := ne_lit (19 : Int32) 19 rfl h19; have g1 := ne_lit (20 : Int32) 20 rfl h20; have g2 := ne_lit (21 : Int32) 21 rfl h21; omega)).trans rfl) ?_
    replace H := H h19 h20 h21
    clear h21 h20 h19
    refine y_st rfl rfl rfl rfl rfl (fun _ _ => rfl) ?_
    refine y_st rfl rfl rfl rfl rfl (fun _ _ => rfl) ?_
    refine y_st rfl rfl rfl rfl rfl (fun _ _ => rfl) ?_
    show yP (xg xs) (d + 1) 177 96 [(0, .int l0), (1, .int l1), (2, .int l2)] [.int ((l1.toUInt32 >>> (l2.toUInt32 &&& Int32.toUInt32 31)).toInt32)] m Q
    exact y_iret rfl rfl rfl H
  · replace H := H.2 h; clear h
    refine y_st rfl rfl rfl rfl rfl (fun _ _ => rfl) ?_
    show yP (xg xs) (d + 1) 177 48 [(0, .int l0), (1, .int l1), (2, .int l2)] [.int (0 : Int32)] m Q
    exact y_iret rfl rfl rfl H
set_option maxRecDepth 20000 in
/-- CodeMaker.Machine.one from 0 on -/
theorem w178_0 (xs : List Int32) (d : Nat) (l0 : Int32) (l1 : Int32) (m : yM) (Q : Option Value → yM → Prop) (H : ((l0 = (0 : Int32) → Q (some (.int ((-l1).toInt16.toInt32))) m) ∧ (l0 = (1 : Int32) → Q (some (.int (-l1))) m) ∧ (l0 = (2 : Int32) → ((¬ l1 = 0 → Q (some (.int (0 : Int32))) m) ∧ (l1 = 0 → Q (some (.int (1 : Int32))) m))) ∧ (l0 = (3 : Int32) → Q (some (.int (l1 ^^^ ((-1) : Int32)))) m) ∧ (l0 = (4 : Int32) → ((0 ≤ l1 → Q (some (.int l1.toInt16.toInt32)) m) ∧ (¬ 0 ≤ l1 → Q (some (.int ((-l1).toInt16.toInt32))) m))) ∧ (l0 = (5 : Int32) → ((0 ≤ l1 → Q (some (.int l1)) m) ∧ (¬ 0 ≤ l1 → Q (some (.int (-l1))) m))) ∧ (l0 = (6 : Int32) → Q (some (.int l1.toInt16.toInt32)) m) ∧ (¬ l0 = (0 : Int32) → ¬ l0 = (1 : Int32) → ¬ l0 = (2 : Int32) → ¬ l0 = (3 : Int32) → ¬ l0 = (4 : Int32) → ¬ l0 = (5 : Int32) → ¬ l0 = (6 : Int32) → ((¬ l1 = 0 → Q (some (.int (1 : Int32))) m) ∧ (l1 = 0 → Q (some (.int (0 : Int32))) m))))) : yP (xg xs) (d + 1) 178 0 [(0, .int l0), (1, .int l1)] [] m Q := by
  refine y_st rfl rfl rfl rfl rfl (fun _ _ => rfl) ?_
  show yP (xg xs) (d + 1) 178 1 [(0, .int l0), (1, .int l1)] [.int l0] m Q
  by_cases h0 : l0 = (0 : Int32)
  · replace H := H.1 h0
    refine y_tsw (t := 44) rfl rfl (by rw [h0]; rfl) ?_
    clear h0
    refine y_st rfl rfl rfl rfl rfl (fun _ _ => rfl) ?_
    refine y_st rfl rfl rfl rfl rfl (fun _ _ => rfl) ?_
    refine y_st rfl rfl rfl rfl rfl (fun _ _ => rfl) ?_
    show yP (xg xs) (d + 1) 178 47 [(0, .int l0), (1, .int l1)] [.int ((-l1).toInt16.toInt32)] m Q
    exact y_iret rfl rfl rfl H
  replace H := H.2
  by_cases h1 : l0 = (1 : Int32)
  · replace H := H.1 h1
    refine y_tsw (t := 48) rfl rfl (by rw [h1]; rfl) ?_
    clear h1 h0
    refine y_st rfl rfl rfl rfl rfl (fun _ _ => rfl) ?_
    refine y_st rfl rfl rfl rfl rfl (fun _ _ => rfl) ?_
    show yP (xg xs) (d + 1) 178 50 [(0, .int l0), (1, .int l1)] [.int (-l1)] m Q
    exact y_iret rfl rfl rfl H
  replace H := H.2
  by_cases h2 : l0 = (2 : Int32)
  · replace H := H.1 h2
    refine y_tsw (t := 51) rfl rfl (by rw [h2]; rfl) ?_
    clear h2 h1 h0
    refine y_st rfl rfl rfl rfl rfl (fun _ _ => rfl) ?_
    show yP (xg xs) (d + 1) 178 52 [(0, .int l0), (1, .int l1)] [.int l1] m Q
    refine y_zne (t := 59) rfl rfl rfl (fun h => ?_) (fun h => ?_)
    · replace H := H.1 h; clear h
      refine y_st rfl rfl rfl rfl rfl (fun _ _ => rfl) ?_
      show yP (xg xs) (d + 1) 178 60 [(0, .int l0), (1, .int l1)] [.int (0 : Int32)] m Q
      exact y_iret rfl rfl rfl H
    · replace H := H.2 h; clear h
      refine y_st rfl rfl rfl rfl rfl (fun _ _ => rfl) ?_
      refine y_st rfl rfl rfl rfl rfl (fun _ _ => rfl) ?_
      show yP (xg xs) (d + 1) 178 60 [(0, .int l0), (1, .int l1)] [.int (1 : Int32)] m Q
      exact y_iret rfl rfl rfl H
  replace H := H.2
  by_cases h3 : l0 = (3 : Int32)
  · replace H := H.1 h3
    refine y_tsw (t := 61) rfl rfl (by rw [h3]; rfl) ?_
    clear h3 h2 h1 h0
    refine y_st rfl rfl rfl rfl rfl (fun _ _ => rfl) ?_
    refine y_st rfl rfl rfl rfl rfl (fun _ _ => rfl) ?_
    refine y_st rfl rfl rfl rfl rfl (fun _ _ => rfl) ?_
    show yP (xg xs) (d + 1) 178 64 [(0, .int l0), (1, .int l1)] [.int (l1 ^^^ ((-1) : Int32))] m Q
    exact y_iret rfl rfl rfl H
  replace H := H.2
  by_cases h4 : l0 = (4 : Int32)
  · replace H := H.1 h4
    refine y_tsw (t := 65) rfl rfl (by rw [h4]; rfl) ?_
    clear h4 h3 h2 h1 h0
    refine y_st rfl rfl rfl rfl rfl (fun _ _ => rfl) ?_
    show yP (xg xs) (d + 1) 178 66 [(0, .int l0), (1, .int l1)] [.int l1] m Q
    refine y_zge (t := 74) rfl rfl rfl (fun h => ?_) (fun h => ?_)
    · replace H := H.1 h; clear h
      refine y_st rfl rfl rfl rfl rfl (fun _ _ => rfl) ?_
      refine y_st rfl rfl rfl rfl rfl (fun _ _ => rfl) ?_
      show yP (xg xs) (d + 1) 178 76 [(0, .int l0), (1, .int l1)] [.int l1.toInt16.toInt32] m Q
      exact y_iret rfl rfl rfl H
    · replace H := H.2 h; clear h
      refine y_st rfl rfl rfl rfl rfl (fun _ _ => rfl) ?_
      refine y_st rfl rfl rfl rfl rfl (fun _ _ => rfl) ?_
      refine y_st rfl rfl rfl rfl rfl (fun _ _ => rfl) ?_
      refine y_st rfl rfl rfl rfl rfl (fun _ _ => rfl) ?_
      show yP (xg xs) (d + 1) 178 76 [(0, .int l0), (1, .int l1)] [.int ((-l1).toInt16.toInt32)] m Q
      exact y_iret rfl rfl rfl H
  replace H := H.2
  by_cases h5 : l0 = (5 : Int32)
  · replace H := H.1 h5
    refine y_tsw (t := 77) rfl rfl (by rw [h5]; rfl) ?_
    clear h5 h4 h3 h2 h1 h0
    refine y_st rfl rfl rfl rfl rfl (fun _ _ => rfl) ?_
    show yP (xg xs) (d + 1) 178 78 [(0, .int l0), (1, .int l1)] [.int l1] m Q
    refine y_zge (t := 86) rfl rfl rfl (fun h => ?_) (fun h => ?_)
    · replace H := H.1 h; clear h
      refine y_st rfl rfl rfl rfl rfl (fun _ _ => rfl) ?_
      show yP (xg xs) (d + 1) 178 87 [(0, .int l0), (1, .int l1)] [.int l1] m Q
      exact y_iret rfl rfl rfl H
    · replace H := H.2 h; clear h
      refine y_st rfl rfl rfl rfl rfl (fun _ _ => rfl) ?_
      refine y_st rfl rfl rfl rfl rfl (fun _ _ => rfl) ?_
      refine y_st rfl rfl rfl rfl rfl (fun _ _ => rfl) ?_
      show yP (xg xs) (d + 1) 178 87 [(0, .int l0), (1, .int l1)] [.int (-l1)] m Q
      exact y_iret rfl rfl rfl H
  replace H := H.2
  by_cases h6 : l0 = (6 : Int32)
  · replace H := H.1 h6
    refine y_tsw (t := 88) rfl rfl (by rw [h6]; rfl) ?_
    clear h6 h5 h4 h3 h2 h1 h0
    refine y_st rfl rfl rfl rfl rfl (fun _ _ => rfl) ?_
    refine y_st rfl rfl rfl rfl rfl (fun _ _ => rfl) ?_
    show yP (xg xs) (d + 1) 178 90 [(0, .int l0), (1, .int l1)] [.int l1.toInt16.toInt32] m Q
    exact y_iret rfl rfl rfl H
  replace H := H.2
  refine y_tsw (t := 91) rfl rfl ((if_pos (by have g0 := ne_lit (0 : Int32) 0 rfl h0; have g1 := ne_lit (1 : Int32) 1 rfl h1; have g2 := ne_lit (2 : Int32) 2 rfl h2; have g3 := ne_lit (3 : Int32) 3 rfl h3; have g4 := ne_lit (4 : Int32) 4 rfl h4; have g5 := ne_lit (5 : Int32) 5 rfl h5; have g6 := ne_lit (6 : Int32) 6 rfl h6; omega)).trans rfl) ?_
  replace H := H h0 h1 h2 h3 h4 h5 h6
  clear h6 h5 h4 h3 h2 h1 h0
  refine y_st rfl rfl rfl rfl rfl (fun _ _ => rfl) ?_
  show yP (xg xs) (d + 1) 178 92 [(0, .int l0), (1, .int l1)] [.int l1] m Q
  refine y_zne (t := 99) rfl rfl rfl (fun h => ?_) (fun h => ?_)
  · replace H := H.1 h; clear h
    refine y_st rfl rfl rfl rfl rfl (fun _ _ => rfl) ?_
    show yP (xg xs) (d + 1) 178 100 [(0, .int l0), (1, .int l1)] [.int (1 : Int32)] m Q
    exact y_iret rfl rfl rfl H
  · replace H := H.2 h; clear h
    refine y_st rfl rfl rfl rfl rfl (fun _ _ => rfl) ?_
    refine y_st rfl rfl rfl rfl rfl (fun _ _ => rfl) ?_
    show yP (xg xs) (d + 1) 178 100 [(0, .int l0), (1, .int l1)] [.int (0 : Int32)] m Q
    exact y_iret rfl rfl rfl H
set_option maxRecDepth 20000 in
/-- CodeMaker.Tree.becomeNumber from 0 on -/
theorem w179_0 (xs : List Int32) (d : Nat) (l1 : Int32) (l2 : Int32) (m : yM) (Q : Option Value → yM → Prop) (H : (x_in l1 16401 = true ∧ (x_in l1 16401 = true ∧ Q none (y_si (y_si m 3 l1.toNatClampNeg (30 : Int32)) 5 l1.toNatClampNeg l2)))) : yP (xg xs) (d + 1) 179 0 [(0, .ref 2), (1, .int l1), (2, .int l2)] [] m Q := by
  refine y_st rfl rfl rfl rfl rfl (fun _ _ => rfl) ?_
  refine y_gf rfl rfl rfl rfl rfl ?_
  refine y_st rfl rfl rfl rfl rfl (fun _ _ => rfl) ?_
  refine y_st rfl rfl rfl rfl rfl (fun _ _ => rfl) ?_
  show yP (xg xs) (d + 1) 179 7 [(0, .ref 2), (1, .int l1), (2, .int l2)] [.int (30 : Int32), .int l1, .ref 3] m Q
  refine y_iast rfl rfl rfl (H.1) ?_
  replace H := H.2
  refine y_st rfl rfl rfl rfl rfl (fun _ _ => rfl) ?_
  refine y_gf rfl rfl rfl rfl rfl ?_
  refine y_st rfl rfl rfl rfl rfl (fun _ _ => rfl) ?_
  refine y_st rfl rfl rfl rfl rfl (fun _ _ => rfl) ?_
  show yP (xg xs) (d + 1) 179 14 [(0, .ref 2), (1, .int l1), (2, .int l2)] [.int l2, .int l1, .ref 5] (y_si m 3 l1.toNatClampNeg (30 : Int32)) Q
  refine y_iast rfl rfl rfl (H.1) ?_
  replace H := H.2
  show yP (xg xs) (d + 1) 179 15 [(0, .ref 2), (1, .int l1), (2, .int l2)] [] (y_si (y_si m 3 l1.toNatClampNeg (30 : Int32)) 5 l1.toNatClampNeg l2) Q
  exact y_ret rfl rfl rfl rfl H
set_option maxRecDepth 20000 in
/-- CodeMaker.Expressions.lookAtTwo from 0 on -/
theorem w180_0 (xs : List Int32) (d : Nat) (l1 : Int32) (m : yM) (Q : Option Value → yM → Prop) (H : (x_in (l1 + (1 : Int32)) 16401 = true ∧ (x_in l1 16401 = true ∧ (x_in (l1 + (1 : Int32)) 16401 = true ∧ (x_in (m.1 7 ((l1 + (1 : Int32)).toNatClampNeg)) 16401 = true ∧ (yC (xg xs) d 169 [.int (m.1 6 ((l1 + (1 : Int32)).toNatClampNeg)), .int (m.1 6 ((m.1 7 ((l1 + (1 : Int32)).toNatClampNeg)).toNatClampNeg))] m (fun v1 m1 => ∃ u1, v1 = some (Value.int u1) ∧ ((u1 = ((-1) : Int32) → Q (some (.int (27 : Int32))) m1) ∧ (¬ u1 = ((-1) : Int32) → (((m.1 5 l1.toNatClampNeg) ≤ (4 : Int32) → yP (xg xs) (d + 1) 180 68 [(0, .ref 34), (1, .int l1), (2, .int (l1 + (1 : Int32))), (3, .int (m.1 7 ((l1 + (1 : Int32)).toNatClampNeg))), (4, .int (m.1 5 l1.toNatClampNeg)), (5, .int u1)] [] m1 Q) ∧ (¬ (m.1 5 l1.toNatClampNeg) ≤ (4 : Int32) → ((¬ u1 = 0 → yP (xg xs) (d + 1) 180 68 [(0, .ref 34), (1, .int l1), (2, .int (l1 + (1 : Int32))), (3, .int (m.1 7 ((l1 + (1 : Int32)).toNatClampNeg))), (4, .int (m.1 5 l1.toNatClampNeg)), (5, .int u1)] [] m1 Q) ∧ (u1 = 0 → Q (some (.int (27 : Int32))) m1))))))))))))) : yP (xg xs) (d + 1) 180 0 [(0, .ref 34), (1, .int l1)] [] m Q := by
  refine y_st rfl rfl rfl rfl rfl (fun _ _ => rfl) ?_
  refine y_st rfl rfl rfl rfl rfl (fun _ _ => rfl) ?_
  refine y_st rfl rfl rfl rfl rfl (fun _ _ => rfl) ?_
  refine y_st rfl rfl rfl rfl rfl (fun _ _ => rfl) ?_
  refine y_st rfl rfl rfl rfl rfl (fun _ _ => rfl) ?_
  refine y_gf rfl rfl rfl rfl rfl ?_
  refine y_gf rfl rfl rfl rfl rfl ?_
  refine y_st rfl rfl rfl rfl rfl (fun _ _ => rfl) ?_
  show yP (xg xs) (d + 1) 180 12 [(2, .int (l1 + (1 : Int32))), (0, .ref 34), (1, .int l1)] [.int (l1 + (1 : Int32)), .ref 7] m Q
  refine y_iald rfl rfl rfl (H.1) ?_
  replace H := H.2
  refine y_st rfl rfl rfl rfl rfl (fun _ _ => rfl) ?_
  refine y_st rfl rfl rfl rfl rfl (fun _ _ => rfl) ?_
  refine y_gf rfl rfl rfl rfl rfl ?_
  refine y_gf rfl rfl rfl rfl rfl ?_
  refine y_st rfl rfl rfl rfl rfl (fun _ _ => rfl) ?_
  show yP (xg xs) (d + 1) 180 22 [(3, .int (m.1 7 ((l1 + (1 : Int32)).toNatClampNeg))), (2, .int (l1 + (1 : Int32))), (0, .ref 34), (1, .int l1)] [.int l1, .ref 5] m Q
  refine y_iald rfl rfl rfl (H.1) ?_
  replace H := H.2
  refine y_st rfl rfl rfl rfl rfl (fun _ _ => rfl) ?_
  refine y_st rfl rfl rfl rfl rfl (fun _ _ => rfl) ?_
  refine y_gf rfl rfl rfl rfl rfl ?_
  refine y_gf rfl rfl rfl rfl rfl ?_
  refine y_st rfl rfl rfl rfl rfl (fun _ _ => rfl) ?_
  show yP (xg xs) (d + 1) 180 33 [(4, .int (m.1 5 l1.toNatClampNeg)), (3, .int (m.1 7 ((l1 + (1 : Int32)).toNatClampNeg))), (2, .int (l1 + (1 : Int32))), (0, .ref 34), (1, .int l1)] [.int (l1 + (1 : Int32)), .ref 6] m Q
  refine y_iald rfl rfl rfl (H.1) ?_
  replace H := H.2
  refine y_st rfl rfl rfl rfl rfl (fun _ _ => rfl) ?_
  refine y_gf rfl rfl rfl rfl rfl ?_
  refine y_gf rfl rfl rfl rfl rfl ?_
  refine y_st rfl rfl rfl rfl rfl (fun _ _ => rfl) ?_
  show yP (xg xs) (d + 1) 180 42 [(4, .int (m.1 5 l1.toNatClampNeg)), (3, .int (m.1 7 ((l1 + (1 : Int32)).toNatClampNeg))), (2, .int (l1 + (1 : Int32))), (0, .ref 34), (1, .int l1)] [.int (m.1 7 ((l1 + (1 : Int32)).toNatClampNeg)), .ref 6, .int (m.1 6 ((l1 + (1 : Int32)).toNatClampNeg))] m Q
  refine y_iald rfl rfl rfl (H.1) ?_
  replace H := H.2
  show yP (xg xs) (d + 1) 180 43 [(4, .int (m.1 5 l1.toNatClampNeg)), (3, .int (m.1 7 ((l1 + (1 : Int32)).toNatClampNeg))), (2, .int (l1 + (1 : Int32))), (0, .ref 34), (1, .int l1)] [.int (m.1 6 ((m.1 7 ((l1 + (1 : Int32)).toNatClampNeg)).toNatClampNeg)), .int (m.1 6 ((l1 + (1 : Int32)).toNatClampNeg))] m Q
  refine y_call rfl rfl rfl rfl rfl (Nat.le_of_ble_eq_true rfl) (Nat.le_of_ble_eq_true rfl) rfl (by decide) H (fun v1 m1 H => ?_)
  obtain ⟨u1, rfl, H⟩ := H
  refine y_st rfl rfl rfl rfl rfl (fun _ _ => rfl) ?_
  refine y_st rfl rfl rfl rfl rfl (fun _ _ => rfl) ?_
  refine y_st rfl rfl rfl rfl rfl (fun _ _ => rfl) ?_
  show yP (xg xs) (d + 1) 180 51 [(5, .int u1), (4, .int (m.1 5 l1.toNatClampNeg)), (3, .int (m.1 7 ((l1 + (1 : Int32)).toNatClampNeg))), (2, .int (l1 + (1 : Int32))), (0, .ref 34), (1, .int l1)] [.int ((-1) : Int32), .int u1] m1 Q
  refine y_ieq (t := 65) rfl rfl rfl (fun h => ?_) (fun h => ?_)
  · replace H := H.1 h; clear h
    refine y_st rfl rfl rfl rfl rfl (fun _ _ => rfl) ?_
    show yP (xg xs) (d + 1) 180 67 [(5, .int u1), (4, .int (m.1 5 l1.toNatClampNeg)), (3, .int (m.1 7 ((l1 + (1 : Int32)).toNatClampNeg))), (2, .int (l1 + (1 : Int32))), (0, .ref 34), (1, .int l1)] [.int (27 : Int32)] m1 Q
    exact y_iret rfl rfl rfl H
  · replace H := H.2 h; clear h
    refine y_st rfl rfl rfl rfl rfl (fun _ _ => rfl) ?_
    refine y_st rfl rfl rfl rfl rfl (fun _ _ => rfl) ?_
    show yP (xg xs) (d + 1) 180 57 [(5, .int u1), (4, .int (m.1 5 l1.toNatClampNeg)), (3, .int (m.1 7 ((l1 + (1 : Int32)).toNatClampNeg))), (2, .int (l1 + (1 : Int32))), (0, .ref 34), (1, .int l1)] [.int (4 : Int32), .int (m.1 5 l1.toNatClampNeg)] m1 Q
    refine y_ile (t := 68) rfl rfl rfl (fun h => ?_) (fun h => ?_)
    · replace H := H.1 h; clear h
      show yP (xg xs) (d + 1) 180 68 [(5, .int u1), (4, .int (m.1 5 l1.toNatClampNeg)), (3, .int (m.1 7 ((l1 + (1 : Int32)).toNatClampNeg))), (2, .int (l1 + (1 : Int32))), (0, .ref 34), (1, .int l1)] [] m1 Q
      refine y_headS (l2 := [(0, .ref 34), (1, .int l1), (2, .int (l1 + (1 : Int32))), (3, .int (m.1 7 ((l1 + (1 : Int32)).toNatClampNeg))), (4, .int (m.1 5 l1.toNatClampNeg)), (5, .int u1)]) [4, 5, 3, 2, 1, 0] [0, 1, 2, 3, 4, 5] [5, 4, 3, 2, 0, 1] rfl rfl (by decide) rfl (by decide) ?_
      exact H
    · replace H := H.2 h; clear h
      refine y_st rfl rfl rfl rfl rfl (fun _ _ => rfl) ?_
      show yP (xg xs) (d + 1) 180 62 [(5, .int u1), (4, .int (m.1 5 l1.toNatClampNeg)), (3, .int (m.1 7 ((l1 + (1 : Int32)).toNatClampNeg))), (2, .int (l1 + (1 : Int32))), (0, .ref 34), (1, .int l1)] [.int u1] m1 Q
      refine y_zne (t := 68) rfl rfl rfl (fun h => ?_) (fun h => ?_)
      · replace H := H.1 h; clear h
        show yP (xg xs) (d + 1) 180 68 [(5, .int u1), (4, .int (m.1 5 l1.toNatClampNeg)), (3, .int (m.1 7 ((l1 + (1 : Int32)).toNatClampNeg))), (2, .int (l1 + (1 : Int32))), (0, .ref 34), (1, .int l1)] [] m1 Q
        refine y_headS (l2 := [(0, .ref 34), (1, .int l1), (2, .int (l1 + (1 : Int32))), (3, .int (m.1 7 ((l1 + (1 : Int32)).toNatClampNeg))), (4, .int (m.1 5 l1.toNatClampNeg)), (5, .int u1)]) [4, 5, 3, 2, 1, 0] [0, 1, 2, 3, 4, 5] [5, 4, 3, 2, 0, 1] rfl rfl (by decide) rfl (by decide) ?_
        exact H
      · replace H := H.2 h; clear h
        refine y_st rfl rfl rfl rfl rfl (fun _ _ => rfl) ?_
        show yP (xg xs) (d + 1) 180 67 [(5, .int u1), (4, .int (m.1 5 l1.toNatClampNeg)), (3, .int (m.1 7 ((l1 + (1 : Int32)).toNatClampNeg))), (2, .int (l1 + (1 : Int32))), (0, .ref 34), (1, .int l1)] [.int (27 : Int32)] m1 Q
        exact y_iret rfl rfl rfl H
set_option maxRecDepth 20000 in
/-- CodeMaker.Expressions.lookAtTwo from 68 on -/
theorem w180_68 (xs : List Int32) (d : Nat) (l1 : Int32) (l2 : Int32) (l3 : Int32) (l4 : Int32) (l5 : Int32) (m : yM) (Q : Option Value → yM → Prop) (H : ((l4 < (3 : Int32) → yP (xg xs) (d + 1) 180 85 [(0, .ref 34), (1, .int l1), (2, .int l2), (3, .int l3), (4, .int l4), (5, .int l5)] [] m Q) ∧ (¬ l4 < (3 : Int32) → (((8 : Int32) < l4 → yP (xg xs) (d + 1) 180 85 [(0, .ref 34), (1, .int l1), (2, .int l2), (3, .int l3), (4, .int l4), (5, .int l5)] [] m Q) ∧ (¬ (8 : Int32) < l4 → yP (xg xs) (d + 1) 180 86 [(0, .ref 34), (1, .int l1), (2, .int l2), (3, .int l3), (4, .int l4), (5, .int l5)] [.int (1 : Int32)] m Q))))) : yP (xg xs) (d + 1) 180 68 [(0, .ref 34), (1, .int l1), (2, .int l2), (3, .int l3), (4, .int l4), (5, .int l5)] [] m Q := by
  refine y_st rfl rfl rfl rfl rfl (fun _ _ => rfl) ?_
  refine y_st rfl rfl rfl rfl rfl (fun _ _ => rfl) ?_
  show yP (xg xs) (d + 1) 180 71 [(0, .ref 34), (1, .int l1), (2, .int l2), (3, .int l3), (4, .int l4), (5, .int l5)] [.int (3 : Int32), .int l4] m Q
  refine y_ilt (t := 85) rfl rfl rfl (fun h => ?_) (fun h => ?_)
  · replace H := H.1 h; clear h
    show yP (xg xs) (d + 1) 180 85 [(0, .ref 34), (1, .int l1), (2, .int l2), (3, .int l3), (4, .int l4), (5, .int l5)] [] m Q
    exact H
  · replace H := H.2 h; clear h
    refine y_st rfl rfl rfl rfl rfl (fun _ _ => rfl) ?_
    refine y_st rfl rfl rfl rfl rfl (fun _ _ => rfl) ?_
    show yP (xg xs) (d + 1) 180 78 [(0, .ref 34), (1, .int l1), (2, .int l2), (3, .int l3), (4, .int l4), (5, .int l5)] [.int (8 : Int32), .int l4] m Q
    refine y_igt (t := 85) rfl rfl rfl (fun h => ?_) (fun h => ?_)
    · replace H := H.1 h; clear h
      show yP (xg xs) (d + 1) 180 85 [(0, .ref 34), (1, .int l1), (2, .int l2), (3, .int l3), (4, .int l4), (5, .int l5)] [] m Q
      exact H
    · replace H := H.2 h; clear h
      refine y_st rfl rfl rfl rfl rfl (fun _ _ => rfl) ?_
      refine y_st rfl rfl rfl rfl rfl (fun _ _ => rfl) ?_
      show yP (xg xs) (d + 1) 180 86 [(0, .ref 34), (1, .int l1), (2, .int l2), (3, .int l3), (4, .int l4), (5, .int l5)] [.int (1 : Int32)] m Q
      exact H
set_option maxRecDepth 20000 in
/-- CodeMaker.Expressions.lookAtTwo from 85 on -/
theorem w180_85 (xs : List Int32) (d : Nat) (l1 : Int32) (l2 : Int32) (l3 : Int32) (l4 : Int32) (l5 : Int32) (m : yM) (Q : Option Value → yM → Prop) (H : yP (xg xs) (d + 1) 180 86 [(0, .ref 34), (1, .int l1), (2, .int l2), (3, .int l3), (4, .int l4), (5, .int l5)] [.int (0 : Int32)] m Q) : yP (xg xs) (d + 1) 180 85 [(0, .ref 34), (1, .int l1), (2, .int l2), (3, .int l3), (4, .int l4), (5, .int l5)] [] m Q := by
  refine y_st rfl rfl rfl rfl rfl (fun _ _ => rfl) ?_
  show yP (xg xs) (d + 1) 180 86 [(0, .ref 34), (1, .int l1), (2, .int l2), (3, .int l3), (4, .int l4), (5, .int l5)] [.int (0 : Int32)] m Q
  exact H
set_option maxRecDepth 20000 in
/-- CodeMaker.Expressions.lookAtTwo from 86 on -/
theorem w180_86 (xs : List Int32) (d : Nat) (l1 : Int32) (l2 : Int32) (l3 : Int32) (l4 : Int32) (l5 : Int32) (s0 : Int32) (m : yM) (Q : Option Value → yM → Prop) (H : ((s0 = 0 → yP (xg xs) (d + 1) 180 107 [(0, .ref 34), (1, .int l1), (2, .int l2), (3, .int l3), (4, .int l4)] [.int l5, .int l1, .ref 6] m Q) ∧ (¬ s0 = 0 → yP (xg xs) (d + 1) 180 107 [(0, .ref 34), (1, .int l1), (2, .int l2), (3, .int l3), (4, .int l4)] [.int (0 : Int32), .int l1, .ref 6] m Q))) : yP (xg xs) (d + 1) 180 86 [(0, .ref 34), (1, .int l1), (2, .int l2), (3, .int l3), (4, .int l4), (5, .int l5)] [.int s0] m Q := by
  refine y_st rfl rfl rfl rfl rfl (fun _ _ => rfl) ?_
  refine y_st rfl rfl rfl rfl rfl (fun _ _ => rfl) ?_
  refine y_gf rfl rfl rfl rfl rfl ?_
  refine y_gf rfl rfl rfl rfl rfl ?_
  refine y_st rfl rfl rfl rfl rfl (fun _ _ => rfl) ?_
  refine y_st rfl rfl rfl rfl rfl (fun _ _ => rfl) ?_
  show yP (xg xs) (d + 1) 180 98 [(6, .int s0), (0, .ref 34), (1, .int l1), (2, .int l2), (3, .int l3), (4, .int l4), (5, .int l5)] [.int s0, .int l1, .ref 6] m Q
  refine y_zeq (t := 105) rfl rfl rfl (fun h => ?_) (fun h => ?_)
  · replace H := H.1 h; clear h
    refine y_st rfl rfl rfl rfl rfl (fun _ _ => rfl) ?_
    show yP (xg xs) (d + 1) 180 107 [(6, .int s0), (0, .ref 34), (1, .int l1), (2, .int l2), (3, .int l3), (4, .int l4), (5, .int l5)] [.int l5, .int l1, .ref 6] m Q
    refine y_headS (l2 := [(0, .ref 34), (1, .int l1), (2, .int l2), (3, .int l3), (4, .int l4)]) [1, 2, 3, 4, 5] [0, 1, 2, 3, 4] [6, 0, 1, 2, 3, 4, 5] rfl rfl (by decide) rfl (by decide) ?_
    exact H
  · replace H := H.2 h; clear h
    refine y_st rfl rfl rfl rfl rfl (fun _ _ => rfl) ?_
    refine y_st rfl rfl rfl rfl rfl (fun _ _ => rfl) ?_
    show yP (xg xs) (d + 1) 180 107 [(6, .int s0), (0, .ref 34), (1, .int l1), (2, .int l2), (3, .int l3), (4, .int l4), (5, .int l5)] [.int (0 : Int32), .int l1, .ref 6] m Q
    refine y_headS (l2 := [(0, .ref 34), (1, .int l1), (2, .int l2), (3, .int l3), (4, .int l4)]) [1, 2, 3, 4, 5] [0, 1, 2, 3, 4] [6, 0, 1, 2, 3, 4, 5] rfl rfl (by decide) rfl (by decide) ?_
    exact H
set_option maxRecDepth 20000 in
/-- CodeMaker.Expressions.lookAtTwo from 107 on -/
theorem w180_107 (xs : List Int32) (d : Nat) (l1 : Int32) (l2 : Int32) (l3 : Int32) (l4 : Int32) (s1 : Int32) (s2 : Int32) (m : yM) (Q : Option Value → yM → Prop) (H : (x_in s1 16401 = true ∧ ((l4 < (12 : Int32) → yP (xg xs) (d + 1) 180 131 [(0, .ref 34), (1, .int l1), (2, .int l2), (3, .int l3), (4, .int l4)] [] (y_si m 6 s1.toNatClampNeg s2) Q) ∧ (¬ l4 < (12 : Int32) → (x_in l3 16401 = true ∧ ((¬ (m.1 5 l3.toNatClampNeg) = 0 → yP (xg xs) (d + 1) 180 131 [(0, .ref 34), (1, .int l1), (2, .int l2), (3, .int l3), (4, .int l4)] [] (y_si m 6 s1.toNatClampNeg s2) Q) ∧ ((m.1 5 l3.toNatClampNeg) = 0 → yP (xg xs) (d + 1) 180 132 [(0, .ref 34), (1, .int l1), (2, .int l2), (3, .int l3), (4, .int l4)] [.int (1 : Int32)] (y_si m 6 s1.toNatClampNeg s2) Q))))))) : yP (xg xs) (d + 1) 180 107 [(0, .ref 34), (1, .int l1), (2, .int l2), (3, .int l3), (4, .int l4)] [.int s2, .int s1, .ref 6] m Q := by
  show yP (xg xs) (d + 1) 180 107 [(0, .ref 34), (1, .int l1), (2, .int l2), (3, .int l3), (4, .int l4)] [.int s2, .int s1, .ref 6] m Q
  refine y_iast rfl rfl rfl (H.1) ?_
  replace H := H.2
  refine y_st rfl rfl rfl rfl rfl (fun _ _ => rfl) ?_
  refine y_st rfl rfl rfl rfl rfl (fun _ _ => rfl) ?_
  show yP (xg xs) (d + 1) 180 112 [(0, .ref 34), (1, .int l1), (2, .int l2), (3, .int l3), (4, .int l4)] [.int (12 : Int32), .int l4] (y_si m 6 s1.toNatClampNeg s2) Q
  refine y_ilt (t := 131) rfl rfl rfl (fun h => ?_) (fun h => ?_)
  · replace H := H.1 h; clear h
    show yP (xg xs) (d + 1) 180 131 [(0, .ref 34), (1, .int l1), (2, .int l2), (3, .int l3), (4, .int l4)] [] (y_si m 6 s1.toNatClampNeg s2) Q
    exact H
  · replace H := H.2 h; clear h
    refine y_st rfl rfl rfl rfl rfl (fun _ _ => rfl) ?_
    refine y_gf rfl rfl rfl rfl rfl ?_
    refine y_gf rfl rfl rfl rfl rfl ?_
    refine y_st rfl rfl rfl rfl rfl (fun _ _ => rfl) ?_
    show yP (xg xs) (d + 1) 180 123 [(0, .ref 34), (1, .int l1), (2, .int l2), (3, .int l3), (4, .int l4)] [.int l3, .ref 5] (y_si m 6 s1.toNatClampNeg s2) Q
    refine y_iald rfl rfl rfl (H.1) ?_
    replace H := H.2
    show yP (xg xs) (d + 1) 180 124 [(0, .ref 34), (1, .int l1), (2, .int l2), (3, .int l3), (4, .int l4)] [.int (m.1 5 l3.toNatClampNeg)] (y_si m 6 s1.toNatClampNeg s2) Q
    refine y_zne (t := 131) rfl rfl rfl (fun h => ?_) (fun h => ?_)
    · replace H := H.1 h; clear h
      show yP (xg xs) (d + 1) 180 131 [(0, .ref 34), (1, .int l1), (2, .int l2), (3, .int l3), (4, .int l4)] [] (y_si m 6 s1.toNatClampNeg s2) Q
      exact H
    · replace H := H.2 h; clear h
      refine y_st rfl rfl rfl rfl rfl (fun _ _ => rfl) ?_
      refine y_st rfl rfl rfl rfl rfl (fun _ _ => rfl) ?_
      show yP (xg xs) (d + 1) 180 132 [(0, .ref 34), (1, .int l1), (2, .int l2), (3, .int l3), (4, .int l4)] [.int (1 : Int32)] (y_si m 6 s1.toNatClampNeg s2) Q
      exact H
set_option maxRecDepth 20000 in
/-- CodeMaker.Expressions.lookAtTwo from 131 on -/
theorem w180_131 (xs : List Int32) (d : Nat) (l1 : Int32) (l2 : Int32) (l3 : Int32) (l4 : Int32) (m : yM) (Q : Option Value → yM → Prop) (H : yP (xg xs) (d + 1) 180 132 [(0, .ref 34), (1, .int l1), (2, .int l2), (3, .int l3), (4, .int l4)] [.int (0 : Int32)] m Q) : yP (xg xs) (d + 1) 180 131 [(0, .ref 34), (1, .int l1), (2, .int l2), (3, .int l3), (4, .int l4)] [] m Q := by
  refine y_st rfl rfl rfl rfl rfl (fun _ _ => rfl) ?_
  show yP (xg xs) (d + 1) 180 132 [(0, .ref 34), (1, .int l1), (2, .int l2), (3, .int l3), (4, .int l4)] [.int (0 : Int32)] m Q
  exact H
set_option maxRecDepth 20000 in
/-- CodeMaker.Expressions.lookAtTwo from 132 on -/
theorem w180_132 (xs : List Int32) (d : Nat) (l1 : Int32) (l2 : Int32) (l3 : Int32) (l4 : Int32) (s0 : Int32) (m : yM) (Q : Option Value → yM → Prop) (H : (yC (xg xs) d 171 [.ref 34, .int l1] m (fun v1 m1 => ∃ u1, v1 = some (Value.int u1) ∧ ((u1 = 0 → Q (some (.int (0 : Int32))) m1) ∧ (¬ u1 = 0 → ((¬ s0 = 0 → Q (some (.int (0 : Int32))) m1) ∧ (s0 = 0 → (x_in l1 16401 = true ∧ (yC (xg xs) d 181 [.int l4, .int (m1.1 6 l1.toNatClampNeg)] m1 (fun v2 m2 => ∃ u2, v2 = some (Value.int u2) ∧ (x_in l2 16401 = true ∧ (x_in l3 16401 = true ∧ (yC (xg xs) d 175 [.int u2, .int (m2.1 5 l2.toNatClampNeg), .int (m2.1 5 l3.toNatClampNeg)] m2 (fun v3 m3 => ∃ u3, v3 = some (Value.int u3) ∧ (yC (xg xs) d 179 [.ref 2, .int l1, .int u3] m3 (fun v4 m4 => v4 = none ∧ Q (some (.int (0 : Int32))) m4)))))))))))))))) : yP (xg xs) (d + 1) 180 132 [(0, .ref 34), (1, .int l1), (2, .int l2), (3, .int l3), (4, .int l4)] [.int s0] m Q := by
  refine y_st rfl rfl rfl rfl rfl (fun _ _ => rfl) ?_
  refine y_st rfl rfl rfl rfl rfl (fun _ _ => rfl) ?_
  refine y_st rfl rfl rfl rfl rfl (fun _ _ => rfl) ?_
  show yP (xg xs) (d + 1) 180 136 [(7, .int s0), (0, .ref 34), (1, .int l1), (2, .int l2), (3, .int l3), (4, .int l4)] [.int l1, .ref 34] m Q
  refine y_call rfl rfl rfl rfl rfl (Nat.le_of_ble_eq_true rfl) (Nat.le_of_ble_eq_true rfl) rfl (by decide) H (fun v1 m1 H => ?_)
  obtain ⟨u1, rfl, H⟩ := H
  show yP (xg xs) (d + 1) 180 139 [(7, .int s0), (0, .ref 34), (1, .int l1), (2, .int l2), (3, .int l3), (4, .int l4)] [.int u1] m1 Q
  refine y_zeq (t := 194) rfl rfl rfl (fun h => ?_) (fun h => ?_)
  · replace H := H.1 h; clear h
    refine y_st rfl rfl rfl rfl rfl (fun _ _ => rfl) ?_
    show yP (xg xs) (d + 1) 180 195 [(7, .int s0), (0, .ref 34), (1, .int l1), (2, .int l2), (3, .int l3), (4, .int l4)] [.int (0 : Int32)] m1 Q
    exact y_iret rfl rfl rfl H
  · replace H := H.2 h; clear h
    refine y_st rfl rfl rfl rfl rfl (fun _ _ => rfl) ?_
    show yP (xg xs) (d + 1) 180 144 [(7, .int s0), (0, .ref 34), (1, .int l1), (2, .int l2), (3, .int l3), (4, .int l4)] [.int s0] m1 Q
    refine y_zne (t := 194) rfl rfl rfl (fun h => ?_) (fun h => ?_)
    · replace H := H.1 h; clear h
      refine y_st rfl rfl rfl rfl rfl (fun _ _ => rfl) ?_
      show yP (xg xs) (d + 1) 180 195 [(7, .int s0), (0, .ref 34), (1, .int l1), (2, .int l2), (3, .int l3), (4, .int l4)] [.int (0 : Int32)] m1 Q
      exact y_iret rfl rfl rfl H
    · replace H := H.2 h; clear h
      refine y_st rfl rfl rfl rfl rfl (fun _ _ => rfl) ?_
      refine y_st rfl rfl rfl rfl rfl (fun _ _ => rfl) ?_
      refine y_gf rfl rfl rfl rfl rfl ?_
      refine y_gf rfl rfl rfl rfl rfl ?_
      refine y_st rfl rfl rfl rfl rfl (fun _ _ => rfl) ?_
      show yP (xg xs) (d + 1) 180 157 [(7, .int s0), (0, .ref 34), (1, .int l1), (2, .int l2), (3, .int l3), (4, .int l4)] [.int l1, .ref 6, .int l4] m1 Q
      refine y_iald rfl rfl rfl (H.1) ?_
      replace H := H.2
      show yP (xg xs) (d + 1) 180 158 [(7, .int s0), (0, .ref 34), (1, .int l1), (2, .int l2), (3, .int l3), (4, .int l4)] [.int (m1.1 6 l1.toNatClampNeg), .int l4] m1 Q
      refine y_call rfl rfl rfl rfl rfl (Nat.le_of_ble_eq_true rfl) (Nat.le_of_ble_eq_true rfl) rfl (by decide) H (fun v2 m2 H => ?_)
      obtain ⟨u2, rfl, H⟩ := H
      refine y_st rfl rfl rfl rfl rfl (fun _ _ => rfl) ?_
      refine y_st rfl rfl rfl rfl rfl (fun _ _ => rfl) ?_
      refine y_gf rfl rfl rfl rfl rfl ?_
      refine y_st rfl rfl rfl rfl rfl (fun _ _ => rfl) ?_
      refine y_st rfl rfl rfl rfl rfl (fun _ _ => rfl) ?_
      refine y_st rfl rfl rfl rfl rfl (fun _ _ => rfl) ?_
      refine y_gf rfl rfl rfl rfl rfl ?_
      refine y_gf rfl rfl rfl rfl rfl ?_
      refine y_st rfl rfl rfl rfl rfl (fun _ _ => rfl) ?_
      show yP (xg xs) (d + 1) 180 178 [(8, .int u2), (7, .int s0), (0, .ref 34), (1, .int l1), (2, .int l2), (3, .int l3), (4, .int l4)] [.int l2, .ref 5, .int u2, .int l1, .ref 2] m2 Q
      refine y_iald rfl rfl rfl (H.1) ?_
      replace H := H.2
      refine y_st rfl rfl rfl rfl rfl (fun _ _ => rfl) ?_
      refine y_gf rfl rfl rfl rfl rfl ?_
      refine y_gf rfl rfl rfl rfl rfl ?_
      refine y_st rfl rfl rfl rfl rfl (fun _ _ => rfl) ?_
      show yP (xg xs) (d + 1) 180 187 [(8, .int u2), (7, .int s0), (0, .ref 34), (1, .int l1), (2, .int l2), (3, .int l3), (4, .int l4)] [.int l3, .ref 5, .int (m2.1 5 l2.toNatClampNeg), .int u2, .int l1, .ref 2] m2 Q
      refine y_iald rfl rfl rfl (H.1) ?_
      replace H := H.2
      show yP (xg xs) (d + 1) 180 188 [(8, .int u2), (7, .int s0), (0, .ref 34), (1, .int l1), (2, .int l2), (3, .int l3), (4, .int l4)] [.int (m2.1 5 l3.toNatClampNeg), .int (m2.1 5 l2.toNatClampNeg), .int u2, .int l1, .ref 2] m2 Q
      refine y_call rfl rfl rfl rfl rfl (Nat.le_of_ble_eq_true rfl) (Nat.le_of_ble_eq_true rfl) rfl (by decide) H (fun v3 m3 H => ?_)
      obtain ⟨u3, rfl, H⟩ := H
      show yP (xg xs) (d + 1) 180 191 [(8, .int u2), (7, .int s0), (0, .ref 34), (1, .int l1), (2, .int l2), (3, .int l3), (4, .int l4)] [.int u3, .int l1, .ref 2] m3 Q
      refine y_call rfl rfl rfl rfl rfl (Nat.le_of_ble_eq_true rfl) (Nat.le_of_ble_eq_true rfl) rfl (by decide) H (fun v4 m4 H => ?_)
      obtain ⟨rfl, H⟩ := H
      refine y_st rfl rfl rfl rfl rfl (fun _ _ => rfl) ?_
      show yP (xg xs) (d + 1) 180 195 [(8, .int u2), (7, .int s0), (0, .ref 34), (1, .int l1), (2, .int l2), (3, .int l3), (4, .int l4)] [.int (0 : Int32)] m4 Q
      exact y_iret rfl rfl rfl H
set_option maxRecDepth 20000 in
/-- CodeMaker.Code.numberOfTwo from 0 on -/
theorem w181_0 (xs : List Int32) (d : Nat) (l0 : Int32) (l1 : Int32) (m : yM) (Q : Option Value → yM → Prop) (H : (((3 : Int32) ≤ l0 → (((8 : Int32) < l0 → ((¬ l1 = (1 : Int32) → Q (some (.int ((l0 - (9 : Int32)) + (5 : Int32)))) m) ∧ (l1 = (1 : Int32) → Q (some (.int ((l0 - (9 : Int32)) + (0 : Int32)))) m))) ∧ (¬ (8 : Int32) < l0 → Q (some (.int (((13 : Int32) + l0) - (3 : Int32)))) m))) ∧ (¬ (3 : Int32) ≤ l0 → ((¬ l0 = 0 → ((¬ l0 = (1 : Int32) → Q (some (.int (10 : Int32))) m) ∧ (l0 = (1 : Int32) → Q (some (.int (12 : Int32))) m))) ∧ (l0 = 0 → Q (some (.int (11 : Int32))) m))))) : yP (xg xs) (d + 1) 181 0 [(0, .int l0), (1, .int l1)] [] m Q := by
  refine y_st rfl rfl rfl rfl rfl (fun _ _ => rfl) ?_
  refine y_st rfl rfl rfl rfl rfl (fun _ _ => rfl) ?_
  show yP (xg xs) (d + 1) 181 2 [(0, .int l0), (1, .int l1)] [.int (3 : Int32), .int l0] m Q
  refine y_ige (t := 27) rfl rfl rfl (fun h => ?_) (fun h => ?_)
  · replace H := H.1 h; clear h
    refine y_st rfl rfl rfl rfl rfl (fun _ _ => rfl) ?_
    refine y_st rfl rfl rfl rfl rfl (fun _ _ => rfl) ?_
    show yP (xg xs) (d + 1) 181 30 [(0, .int l0), (1, .int l1)] [.int (8 : Int32), .int l0] m Q
    refine y_igt (t := 40) rfl rfl rfl (fun h => ?_) (fun h => ?_)
    · replace H := H.1 h; clear h
      refine y_st rfl rfl rfl rfl rfl (fun _ _ => rfl) ?_
      refine y_st rfl rfl rfl rfl rfl (fun _ _ => rfl) ?_
      refine y_st rfl rfl rfl rfl rfl (fun _ _ => rfl) ?_
      refine y_st rfl rfl rfl rfl rfl (fun _ _ => rfl) ?_
      refine y_st rfl rfl rfl rfl rfl (fun _ _ => rfl) ?_
      show yP (xg xs) (d + 1) 181 46 [(0, .int l0), (1, .int l1)] [.int (1 : Int32), .int l1, .int (l0 - (9 : Int32))] m Q
      refine y_ine (t := 53) rfl rfl rfl (fun h => ?_) (fun h => ?_)
      · replace H := H.1 h; clear h
        refine y_st rfl rfl rfl rfl rfl (fun _ _ => rfl) ?_
        refine y_st rfl rfl rfl rfl rfl (fun _ _ => rfl) ?_
        show yP (xg xs) (d + 1) 181 55 [(0, .int l0), (1, .int l1)] [.int ((l0 - (9 : Int32)) + (5 : Int32))] m Q
        exact y_iret rfl rfl rfl H
      · replace H := H.2 h; clear h
        refine y_st rfl rfl rfl rfl rfl (fun _ _ => rfl) ?_
        refine y_st rfl rfl rfl rfl rfl (fun _ _ => rfl) ?_
        refine y_st rfl rfl rfl rfl rfl (fun _ _ => rfl) ?_
        show yP (xg xs) (d + 1) 181 55 [(0, .int l0), (1, .int l1)] [.int ((l0 - (9 : Int32)) + (0 : Int32))] m Q
        exact y_iret rfl rfl rfl H
    · replace H := H.2 h; clear h
      refine y_st rfl rfl rfl rfl rfl (fun _ _ => rfl) ?_
      refine y_st rfl rfl rfl rfl rfl (fun _ _ => rfl) ?_
      refine y_st rfl rfl rfl rfl rfl (fun _ _ => rfl) ?_
      refine y_st rfl rfl rfl rfl rfl (fun _ _ => rfl) ?_
      refine y_st rfl rfl rfl rfl rfl (fun _ _ => rfl) ?_
      show yP (xg xs) (d + 1) 181 39 [(0, .int l0), (1, .int l1)] [.int (((13 : Int32) + l0) - (3 : Int32))] m Q
      exact y_iret rfl rfl rfl H
  · replace H := H.2 h; clear h
    refine y_st rfl rfl rfl rfl rfl (fun _ _ => rfl) ?_
    show yP (xg xs) (d + 1) 181 6 [(0, .int l0), (1, .int l1)] [.int l0] m Q
    refine y_zne (t := 14) rfl rfl rfl (fun h => ?_) (fun h => ?_)
    · replace H := H.1 h; clear h
      refine y_st rfl rfl rfl rfl rfl (fun _ _ => rfl) ?_
      refine y_st rfl rfl rfl rfl rfl (fun _ _ => rfl) ?_
      show yP (xg xs) (d + 1) 181 16 [(0, .int l0), (1, .int l1)] [.int (1 : Int32), .int l0] m Q
      refine y_ine (t := 24) rfl rfl rfl (fun h => ?_) (fun h => ?_)
      · replace H := H.1 h; clear h
        refine y_st rfl rfl rfl rfl rfl (fun _ _ => rfl) ?_
        show yP (xg xs) (d + 1) 181 26 [(0, .int l0), (1, .int l1)] [.int (10 : Int32)] m Q
        exact y_iret rfl rfl rfl H
      · replace H := H.2 h; clear h
        refine y_st rfl rfl rfl rfl rfl (fun _ _ => rfl) ?_
        refine y_st rfl rfl rfl rfl rfl (fun _ _ => rfl) ?_
        show yP (xg xs) (d + 1) 181 26 [(0, .int l0), (1, .int l1)] [.int (12 : Int32)] m Q
        exact y_iret rfl rfl rfl H
    · replace H := H.2 h; clear h
      refine y_st rfl rfl rfl rfl rfl (fun _ _ => rfl) ?_
      refine y_st rfl rfl rfl rfl rfl (fun _ _ => rfl) ?_
      show yP (xg xs) (d + 1) 181 26 [(0, .int l0), (1, .int l1)] [.int (11 : Int32)] m Q
      exact y_iret rfl rfl rfl H
set_option maxRecDepth 20000 in
/-- CodeMaker.Expressions.lookAtOne from 0 on -/
theorem w182_0 (xs : List Int32) (d : Nat) (l1 : Int32) (m : yM) (Q : Option Value → yM → Prop) (H : (x_in l1 16401 = true ∧ ((¬ (m.1 5 l1.toNatClampNeg) = 0 → yP (xg xs) (d + 1) 182 31 [(0, .ref 34), (1, .int l1), (2, .int (l1 + (1 : Int32)))] [] m Q) ∧ ((m.1 5 l1.toNatClampNeg) = 0 → (x_in (l1 + (1 : Int32)) 16401 = true ∧ ((¬ (m.1 6 ((l1 + (1 : Int32)).toNatClampNeg)) = 0 → yP (xg xs) (d + 1) 182 31 [(0, .ref 34), (1, .int l1), (2, .int (l1 + (1 : Int32)))] [] m Q) ∧ ((m.1 6 ((l1 + (1 : Int32)).toNatClampNeg)) = 0 → Q (some (.int (28 : Int32))) m))))))) : yP (xg xs) (d + 1) 182 0 [(0, .ref 34), (1, .int l1)] [] m Q := by
  refine y_st rfl rfl rfl rfl rfl (fun _ _ => rfl) ?_
  refine y_st rfl rfl rfl rfl rfl (fun _ _ => rfl) ?_
  refine y_st rfl rfl rfl rfl rfl (fun _ _ => rfl) ?_
  refine y_st rfl rfl rfl rfl rfl (fun _ _ => rfl) ?_
  refine y_st rfl rfl rfl rfl rfl (fun _ _ => rfl) ?_
  refine y_gf rfl rfl rfl rfl rfl ?_
  refine y_gf rfl rfl rfl rfl rfl ?_
  refine y_st rfl rfl rfl rfl rfl (fun _ _ => rfl) ?_
  show yP (xg xs) (d + 1) 182 12 [(2, .int (l1 + (1 : Int32))), (0, .ref 34), (1, .int l1)] [.int l1, .ref 5] m Q
  refine y_iald rfl rfl rfl (H.1) ?_
  replace H := H.2
  show yP (xg xs) (d + 1) 182 13 [(2, .int (l1 + (1 : Int32))), (0, .ref 34), (1, .int l1)] [.int (m.1 5 l1.toNatClampNeg)] m Q
  refine y_zne (t := 31) rfl rfl rfl (fun h => ?_) (fun h => ?_)
  · replace H := H.1 h; clear h
    show yP (xg xs) (d + 1) 182 31 [(2, .int (l1 + (1 : Int32))), (0, .ref 34), (1, .int l1)] [] m Q
    refine y_headS (l2 := [(0, .ref 34), (1, .int l1), (2, .int (l1 + (1 : Int32)))]) [1, 2, 0] [0, 1, 2] [2, 0, 1] rfl rfl (by decide) rfl (by decide) ?_
    exact H
  · replace H := H.2 h; clear h
    refine y_st rfl rfl rfl rfl rfl (fun _ _ => rfl) ?_
    refine y_gf rfl rfl rfl rfl rfl ?_
    refine y_gf rfl rfl rfl rfl rfl ?_
    refine y_st rfl rfl rfl rfl rfl (fun _ _ => rfl) ?_
    show yP (xg xs) (d + 1) 182 24 [(2, .int (l1 + (1 : Int32))), (0, .ref 34), (1, .int l1)] [.int (l1 + (1 : Int32)), .ref 6] m Q
    refine y_iald rfl rfl rfl (H.1) ?_
    replace H := H.2
    show yP (xg xs) (d + 1) 182 25 [(2, .int (l1 + (1 : Int32))), (0, .ref 34), (1, .int l1)] [.int (m.1 6 ((l1 + (1 : Int32)).toNatClampNeg))] m Q
    refine y_zne (t := 31) rfl rfl rfl (fun h => ?_) (fun h => ?_)
    · replace H := H.1 h; clear h
      show yP (xg xs) (d + 1) 182 31 [(2, .int (l1 + (1 : Int32))), (0, .ref 34), (1, .int l1)] [] m Q
      refine y_headS (l2 := [(0, .ref 34), (1, .int l1), (2, .int (l1 + (1 : Int32)))]) [1, 2, 0] [0, 1, 2] [2, 0, 1] rfl rfl (by decide) rfl (by decide) ?_
      exact H
    · replace H := H.2 h; clear h
      refine y_st rfl rfl rfl rfl rfl (fun _ _ => rfl) ?_
      show yP (xg xs) (d + 1) 182 30 [(2, .int (l1 + (1 : Int32))), (0, .ref 34), (1, .int l1)] [.int (28 : Int32)] m Q
      exact y_iret rfl rfl rfl H
set_option maxRecDepth 20000 in
/-- CodeMaker.Expressions.lookAtOne from 31 on -/
theorem w182_31 (xs : List Int32) (d : Nat) (l1 : Int32) (l2 : Int32) (m : yM) (Q : Option Value → yM → Prop) (H : (x_in l2 16401 = true ∧ (x_in l1 16401 = true ∧ (yC (xg xs) d 171 [.ref 34, .int l1] (y_si m 6 l1.toNatClampNeg (m.1 6 l2.toNatClampNeg)) (fun v1 m1 => ∃ u1, v1 = some (Value.int u1) ∧ ((u1 = 0 → Q (some (.int (0 : Int32))) m1) ∧ (¬ u1 = 0 → (x_in l1 16401 = true ∧ (x_in l1 16401 = true ∧ (yC (xg xs) d 183 [.int (m1.1 5 l1.toNatClampNeg), .int (m1.1 6 l1.toNatClampNeg)] m1 (fun v2 m2 => ∃ u2, v2 = some (Value.int u2) ∧ (x_in l2 16401 = true ∧ (yC (xg xs) d 178 [.int u2, .int (m2.1 5 l2.toNatClampNeg)] m2 (fun v3 m3 => ∃ u3, v3 = some (Value.int u3) ∧ (yC (xg xs) d 179 [.ref 2, .int l1, .int u3] m3 (fun v4 m4 => v4 = none ∧ Q (some (.int (0 : Int32))) m4)))))))))))))))) : yP (xg xs) (d + 1) 182 31 [(0, .ref 34), (1, .int l1), (2, .int l2)] [] m Q := by
  refine y_st rfl rfl rfl rfl rfl (fun _ _ => rfl) ?_
  refine y_gf rfl rfl rfl rfl rfl ?_
  refine y_gf rfl rfl rfl rfl rfl ?_
  refine y_st rfl rfl rfl rfl rfl (fun _ _ => rfl) ?_
  refine y_st rfl rfl rfl rfl rfl (fun _ _ => rfl) ?_
  refine y_gf rfl rfl rfl rfl rfl ?_
  refine y_gf rfl rfl rfl rfl rfl ?_
  refine y_st rfl rfl rfl rfl rfl (fun _ _ => rfl) ?_
  show yP (xg xs) (d + 1) 182 47 [(0, .ref 34), (1, .int l1), (2, .int l2)] [.int l2, .ref 6, .int l1, .ref 6] m Q
  refine y_iald rfl rfl rfl (H.1) ?_
  replace H := H.2
  show yP (xg xs) (d + 1) 182 48 [(0, .ref 34), (1, .int l1), (2, .int l2)] [.int (m.1 6 l2.toNatClampNeg), .int l1, .ref 6] m Q
  refine y_iast rfl rfl rfl (H.1) ?_
  replace H := H.2
  refine y_st rfl rfl rfl rfl rfl (fun _ _ => rfl) ?_
  refine y_st rfl rfl rfl rfl rfl (fun _ _ => rfl) ?_
  show yP (xg xs) (d + 1) 182 51 [(0, .ref 34), (1, .int l1), (2, .int l2)] [.int l1, .ref 34] (y_si m 6 l1.toNatClampNeg (m.1 6 l2.toNatClampNeg)) Q
  refine y_call rfl rfl rfl rfl rfl (Nat.le_of_ble_eq_true rfl) (Nat.le_of_ble_eq_true rfl) rfl (by decide) H (fun v1 m1 H => ?_)
  obtain ⟨u1, rfl, H⟩ := H
  show yP (xg xs) (d + 1) 182 54 [(0, .ref 34), (1, .int l1), (2, .int l2)] [.int u1] m1 Q
  refine y_zeq (t := 100) rfl rfl rfl (fun h => ?_) (fun h => ?_)
  · replace H := H.1 h; clear h
    refine y_st rfl rfl rfl rfl rfl (fun _ _ => rfl) ?_
    show yP (xg xs) (d + 1) 182 101 [(0, .ref 34), (1, .int l1), (2, .int l2)] [.int (0 : Int32)] m1 Q
    exact y_iret rfl rfl rfl H
  · replace H := H.2 h; clear h
    refine y_st rfl rfl rfl rfl rfl (fun _ _ => rfl) ?_
    refine y_gf rfl rfl rfl rfl rfl ?_
    refine y_gf rfl rfl rfl rfl rfl ?_
    refine y_st rfl rfl rfl rfl rfl (fun _ _ => rfl) ?_
    show yP (xg xs) (d + 1) 182 65 [(0, .ref 34), (1, .int l1), (2, .int l2)] [.int l1, .ref 5] m1 Q
    refine y_iald rfl rfl rfl (H.1) ?_
    replace H := H.2
    refine y_st rfl rfl rfl rfl rfl (fun _ _ => rfl) ?_
    refine y_gf rfl rfl rfl rfl rfl ?_
    refine y_gf rfl rfl rfl rfl rfl ?_
    refine y_st rfl rfl rfl rfl rfl (fun _ _ => rfl) ?_
    show yP (xg xs) (d + 1) 182 74 [(0, .ref 34), (1, .int l1), (2, .int l2)] [.int l1, .ref 6, .int (m1.1 5 l1.toNatClampNeg)] m1 Q
    refine y_iald rfl rfl rfl (H.1) ?_
    replace H := H.2
    show yP (xg xs) (d + 1) 182 75 [(0, .ref 34), (1, .int l1), (2, .int l2)] [.int (m1.1 6 l1.toNatClampNeg), .int (m1.1 5 l1.toNatClampNeg)] m1 Q
    refine y_call rfl rfl rfl rfl rfl (Nat.le_of_ble_eq_true rfl) (Nat.le_of_ble_eq_true rfl) rfl (by decide) H (fun v2 m2 H => ?_)
    obtain ⟨u2, rfl, H⟩ := H
    refine y_st rfl rfl rfl rfl rfl (fun _ _ => rfl) ?_
    refine y_st rfl rfl rfl rfl rfl (fun _ _ => rfl) ?_
    refine y_gf rfl rfl rfl rfl rfl ?_
    refine y_st rfl rfl rfl rfl rfl (fun _ _ => rfl) ?_
    refine y_st rfl rfl rfl rfl rfl (fun _ _ => rfl) ?_
    refine y_st rfl rfl rfl rfl rfl (fun _ _ => rfl) ?_
    refine y_gf rfl rfl rfl rfl rfl ?_
    refine y_gf rfl rfl rfl rfl rfl ?_
    refine y_st rfl rfl rfl rfl rfl (fun _ _ => rfl) ?_
    show yP (xg xs) (d + 1) 182 93 [(3, .int u2), (0, .ref 34), (1, .int l1), (2, .int l2)] [.int l2, .ref 5, .int u2, .int l1, .ref 2] m2 Q
    refine y_iald rfl rfl rfl (H.1) ?_
    replace H := H.2
    show yP (xg xs) (d + 1) 182 94 [(3, .int u2), (0, .ref 34), (1, .int l1), (2, .int l2)] [.int (m2.1 5 l2.toNatClampNeg), .int u2, .int l1, .ref 2] m2 Q
    refine y_call rfl rfl rfl rfl rfl (Nat.le_of_ble_eq_true rfl) (Nat.le_of_ble_eq_true rfl) rfl (by decide) H (fun v3 m3 H => ?_)
    obtain ⟨u3, rfl, H⟩ := H
    show yP (xg xs) (d + 1) 182 97 [(3, .int u2), (0, .ref 34), (1, .int l1), (2, .int l2)] [.int u3, .int l1, .ref 2] m3 Q
    refine y_call rfl rfl rfl rfl rfl (Nat.le_of_ble_eq_true rfl) (Nat.le_of_ble_eq_true rfl) rfl (by decide) H (fun v4 m4 H => ?_)
    obtain ⟨rfl, H⟩ := H
    refine y_st rfl rfl rfl rfl rfl (fun _ _ => rfl) ?_
    show yP (xg xs) (d + 1) 182 101 [(3, .int u2), (0, .ref 34), (1, .int l1), (2, .int l2)] [.int (0 : Int32)] m4 Q
    exact y_iret rfl rfl rfl H
set_option maxRecDepth 20000 in
/-- CodeMaker.Code.numberOfOne from 0 on -/
theorem w183_0 (xs : List Int32) (d : Nat) (l0 : Int32) (l1 : Int32) (m : yM) (Q : Option Value → yM → Prop) (H : ((¬ l0 = 0 → ((¬ l1 = 0 → Q (some (.int (3 : Int32))) m) ∧ (l1 = 0 → Q (some (.int (2 : Int32))) m))) ∧ (l0 = 0 → ((¬ l1 = (1 : Int32) → Q (some (.int (1 : Int32))) m) ∧ (l1 = (1 : Int32) → Q (some (.int (0 : Int32))) m))))) : yP (xg xs) (d + 1) 183 0 [(0, .int l0), (1, .int l1)] [] m Q := by
  refine y_st rfl rfl rfl rfl rfl (fun _ _ => rfl) ?_
  show yP (xg xs) (d + 1) 183 1 [(0, .int l0), (1, .int l1)] [.int l0] m Q
  refine y_zne (t := 15) rfl rfl rfl (fun h => ?_) (fun h => ?_)
  · replace H := H.1 h; clear h
    refine y_st rfl rfl rfl rfl rfl (fun _ _ => rfl) ?_
    show yP (xg xs) (d + 1) 183 16 [(0, .int l0), (1, .int l1)] [.int l1] m Q
    refine y_zne (t := 23) rfl rfl rfl (fun h => ?_) (fun h => ?_)
    · replace H := H.1 h; clear h
      refine y_st rfl rfl rfl rfl rfl (fun _ _ => rfl) ?_
      show yP (xg xs) (d + 1) 183 24 [(0, .int l0), (1, .int l1)] [.int (3 : Int32)] m Q
      exact y_iret rfl rfl rfl H
    · replace H := H.2 h; clear h
      refine y_st rfl rfl rfl rfl rfl (fun _ _ => rfl) ?_
      refine y_st rfl rfl rfl rfl rfl (fun _ _ => rfl) ?_
      show yP (xg xs) (d + 1) 183 24 [(0, .int l0), (1, .int l1)] [.int (2 : Int32)] m Q
      exact y_iret rfl rfl rfl H
  · replace H := H.2 h; clear h
    refine y_st rfl rfl rfl rfl rfl (fun _ _ => rfl) ?_
    refine y_st rfl rfl rfl rfl rfl (fun _ _ => rfl) ?_
    show yP (xg xs) (d + 1) 183 6 [(0, .int l0), (1, .int l1)] [.int (1 : Int32), .int l1] m Q
    refine y_ine (t := 13) rfl rfl rfl (fun h => ?_) (fun h => ?_)
    · replace H := H.1 h; clear h
      refine y_st rfl rfl rfl rfl rfl (fun _ _ => rfl) ?_
      show yP (xg xs) (d + 1) 183 14 [(0, .int l0), (1, .int l1)] [.int (1 : Int32)] m Q
      exact y_iret rfl rfl rfl H
    · replace H := H.2 h; clear h
      refine y_st rfl rfl rfl rfl rfl (fun _ _ => rfl) ?_
      refine y_st rfl rfl rfl rfl rfl (fun _ _ => rfl) ?_
      show yP (xg xs) (d + 1) 183 14 [(0, .int l0), (1, .int l1)] [.int (0 : Int32)] m Q
      exact y_iret rfl rfl rfl H
set_option maxRecDepth 20000 in
/-- CodeMaker.Rules.tell from 0 on -/
theorem w184_0 (xs : List Int32) (d : Nat) (l1 : Int32) (l2 : Int32) (m : yM) (Q : Option Value → yM → Prop) (H : ((l1 = 0 → Q none m) ∧ (¬ l1 = 0 → (x_in l2 16401 = true ∧ Q none (y_si (y_si m 31 7 l1) 31 0 (m.1 4 l2.toNatClampNeg)))))) : yP (xg xs) (d + 1) 184 0 [(0, .ref 31), (1, .int l1), (2, .int l2)] [] m Q := by
  refine y_st rfl rfl rfl rfl rfl (fun _ _ => rfl) ?_
  show yP (xg xs) (d + 1) 184 1 [(0, .ref 31), (1, .int l1), (2, .int l2)] [.int l1] m Q
  refine y_zeq (t := 22) rfl rfl rfl (fun h => ?_) (fun h => ?_)
  · replace H := H.1 h; clear h
    show yP (xg xs) (d + 1) 184 22 [(0, .ref 31), (1, .int l1), (2, .int l2)] [] m Q
    exact y_ret rfl rfl rfl rfl H
  · replace H := H.2 h; clear h
    refine y_st rfl rfl rfl rfl rfl (fun _ _ => rfl) ?_
    refine y_st rfl rfl rfl rfl rfl (fun _ _ => rfl) ?_
    refine y_pfi rfl rfl rfl rfl rfl (x_fit_i _) ?_
    show yP (xg xs) (d + 1) 184 9 [(0, .ref 31), (1, .int l1), (2, .int l2)] [] (y_si m 31 7 l1) Q
    refine y_st rfl rfl rfl rfl rfl (fun _ _ => rfl) ?_
    refine y_st rfl rfl rfl rfl rfl (fun _ _ => rfl) ?_
    refine y_gf rfl rfl rfl rfl rfl ?_
    refine y_gf rfl rfl rfl rfl rfl ?_
    refine y_st rfl rfl rfl rfl rfl (fun _ _ => rfl) ?_
    show yP (xg xs) (d + 1) 184 18 [(0, .ref 31), (1, .int l1), (2, .int l2)] [.int l2, .ref 4, .ref 31] (y_si m 31 7 l1) Q
    refine y_iald rfl rfl rfl (H.1) ?_
    replace H := H.2
    refine y_pfi rfl rfl rfl rfl rfl (x_fit_i _) ?_
    show yP (xg xs) (d + 1) 184 22 [(0, .ref 31), (1, .int l1), (2, .int l2)] [] (y_si (y_si m 31 7 l1) 31 0 (m.1 4 l2.toNatClampNeg)) Q
    show yP (xg xs) (d + 1) 184 22 [(0, .ref 31), (1, .int l1), (2, .int l2)] [] (y_si (y_si m 31 7 l1) 31 0 (m.1 4 l2.toNatClampNeg)) Q
    exact y_ret rfl rfl rfl rfl H
set_option maxRecDepth 20000 in
/-- CodeMaker.Rules.enter from 0 on -/
theorem w185_0 (xs : List Int32) (d : Nat) (l1 : Int32) (m : yM) (Q : Option Value → yM → Prop) (H : (x_in l1 16401 = true ∧ (((m.1 3 l1.toNatClampNeg) < (1 : Int32) → yP (xg xs) (d + 1) 185 36 [(0, .ref 31), (1, .int l1)] [] m Q) ∧ (¬ (m.1 3 l1.toNatClampNeg) < (1 : Int32) → (x_in l1 16401 = true ∧ (((3 : Int32) < (m.1 3 l1.toNatClampNeg) → yP (xg xs) (d + 1) 185 36 [(0, .ref 31), (1, .int l1)] [] m Q) ∧ (¬ (3 : Int32) < (m.1 3 l1.toNatClampNeg) → (yC (xg xs) d 186 [.ref 31, .int l1] m (fun v1 m1 => ∃ u1, v1 = some (Value.int u1) ∧ (yC (xg xs) d 184 [.ref 31, .int u1, .int l1] m1 (fun v2 m2 => v2 = none ∧ yP (xg xs) (d + 1) 185 36 [(0, .ref 31), (1, .int l1)] [] m2 Q))))))))))) : yP (xg xs) (d + 1) 185 0 [(0, .ref 31), (1, .int l1)] [] m Q := by
  refine y_st rfl rfl rfl rfl rfl (fun _ _ => rfl) ?_
  refine y_gf rfl rfl rfl rfl rfl ?_
  refine y_gf rfl rfl rfl rfl rfl ?_
  refine y_st rfl rfl rfl rfl rfl (fun _ _ => rfl) ?_
  show yP (xg xs) (d + 1) 185 8 [(0, .ref 31), (1, .int l1)] [.int l1, .ref 3] m Q
  refine y_iald rfl rfl rfl (H.1) ?_
  replace H := H.2
  refine y_st rfl rfl rfl rfl rfl (fun _ _ => rfl) ?_
  show yP (xg xs) (d + 1) 185 10 [(0, .ref 31), (1, .int l1)] [.int (1 : Int32), .int (m.1 3 l1.toNatClampNeg)] m Q
  refine y_ilt (t := 36) rfl rfl rfl (fun h => ?_) (fun h => ?_)
  · replace H := H.1 h; clear h
    show yP (xg xs) (d + 1) 185 36 [(0, .ref 31), (1, .int l1)] [] m Q
    exact H
  · replace H := H.2 h; clear h
    refine y_st rfl rfl rfl rfl rfl (fun _ _ => rfl) ?_
    refine y_gf rfl rfl rfl rfl rfl ?_
    refine y_gf rfl rfl rfl rfl rfl ?_
    refine y_st rfl rfl rfl rfl rfl (fun _ _ => rfl) ?_
    show yP (xg xs) (d + 1) 185 21 [(0, .ref 31), (1, .int l1)] [.int l1, .ref 3] m Q
    refine y_iald rfl rfl rfl (H.1) ?_
    replace H := H.2
    refine y_st rfl rfl rfl rfl rfl (fun _ _ => rfl) ?_
    show yP (xg xs) (d + 1) 185 23 [(0, .ref 31), (1, .int l1)] [.int (3 : Int32), .int (m.1 3 l1.toNatClampNeg)] m Q
    refine y_igt (t := 36) rfl rfl rfl (fun h => ?_) (fun h => ?_)
    · replace H := H.1 h; clear h
      show yP (xg xs) (d + 1) 185 36 [(0, .ref 31), (1, .int l1)] [] m Q
      exact H
    · replace H := H.2 h; clear h
      refine y_st rfl rfl rfl rfl rfl (fun _ _ => rfl) ?_
      refine y_st rfl rfl rfl rfl rfl (fun _ _ => rfl) ?_
      refine y_st rfl rfl rfl rfl rfl (fun _ _ => rfl) ?_
      show yP (xg xs) (d + 1) 185 29 [(0, .ref 31), (1, .int l1)] [.int l1, .ref 31, .ref 31] m Q
      refine y_call rfl rfl rfl rfl rfl (Nat.le_of_ble_eq_true rfl) (Nat.le_of_ble_eq_true rfl) rfl (by decide) H (fun v1 m1 H => ?_)
      obtain ⟨u1, rfl, H⟩ := H
      refine y_st rfl rfl rfl rfl rfl (fun _ _ => rfl) ?_
      show yP (xg xs) (d + 1) 185 33 [(0, .ref 31), (1, .int l1)] [.int l1, .int u1, .ref 31] m1 Q
      refine y_call rfl rfl rfl rfl rfl (Nat.le_of_ble_eq_true rfl) (Nat.le_of_ble_eq_true rfl) rfl (by decide) H (fun v2 m2 H => ?_)
      obtain ⟨rfl, H⟩ := H
      show yP (xg xs) (d + 1) 185 36 [(0, .ref 31), (1, .int l1)] [] m2 Q
      exact H
set_option maxRecDepth 20000 in
/-- CodeMaker.Rules.enter from 36 on -/
theorem w185_36 (xs : List Int32) (d : Nat) (l1 : Int32) (m : yM) (Q : Option Value → yM → Prop) (H : (((256 : Int32) ≤ (m.1 31 6) → Q none m) ∧ (¬ (256 : Int32) ≤ (m.1 31 6) → (x_in (m.1 31 6) 256 = true ∧ Q none (y_si (y_si m 32 ((m.1 31 6).toNatClampNeg) l1) 31 6 ((m.1 31 6) + (1 : Int32))))))) : yP (xg xs) (d + 1) 185 36 [(0, .ref 31), (1, .int l1)] [] m Q := by
  refine y_st rfl rfl rfl rfl rfl (fun _ _ => rfl) ?_
  refine y_gf rfl rfl rfl rfl rfl ?_
  refine y_st rfl rfl rfl rfl rfl (fun _ _ => rfl) ?_
  show yP (xg xs) (d + 1) 185 43 [(0, .ref 31), (1, .int l1)] [.int (256 : Int32), .int (m.1 31 6)] m Q
  refine y_ige (t := 66) rfl rfl rfl (fun h => ?_) (fun h => ?_)
  · replace H := H.1 h; clear h
    show yP (xg xs) (d + 1) 185 66 [(0, .ref 31), (1, .int l1)] [] m Q
    exact y_ret rfl rfl rfl rfl H
  · replace H := H.2 h; clear h
    refine y_st rfl rfl rfl rfl rfl (fun _ _ => rfl) ?_
    refine y_gf rfl rfl rfl rfl rfl ?_
    refine y_st rfl rfl rfl rfl rfl (fun _ _ => rfl) ?_
    refine y_gf rfl rfl rfl rfl rfl ?_
    refine y_st rfl rfl rfl rfl rfl (fun _ _ => rfl) ?_
    show yP (xg xs) (d + 1) 185 55 [(0, .ref 31), (1, .int l1)] [.int l1, .int (m.1 31 6), .ref 32] m Q
    refine y_iast rfl rfl rfl (H.1) ?_
    replace H := H.2
    refine y_st rfl rfl rfl rfl rfl (fun _ _ => rfl) ?_
    refine y_st rfl rfl rfl rfl rfl (fun _ _ => rfl) ?_
    refine y_gf rfl rfl rfl rfl rfl ?_
    refine y_st rfl rfl rfl rfl rfl (fun _ _ => rfl) ?_
    refine y_st rfl rfl rfl rfl rfl (fun _ _ => rfl) ?_
    refine y_pfi rfl rfl rfl rfl rfl (x_fit_i _) ?_
    show yP (xg xs) (d + 1) 185 66 [(0, .ref 31), (1, .int l1)] [] (y_si (y_si m 32 ((m.1 31 6).toNatClampNeg) l1) 31 6 ((m.1 31 6) + (1 : Int32))) Q
    show yP (xg xs) (d + 1) 185 66 [(0, .ref 31), (1, .int l1)] [] (y_si (y_si m 32 ((m.1 31 6).toNatClampNeg) l1) 31 6 ((m.1 31 6) + (1 : Int32))) Q
    exact y_ret rfl rfl rfl rfl H
set_option maxRecDepth 20000 in
/-- CodeMaker.Rules.begin from 0 on -/
theorem w186_0 (xs : List Int32) (d : Nat) (l1 : Int32) (m : yM) (Q : Option Value → yM → Prop) (H : (x_in l1 16401 = true ∧ (yC (xg xs) d 114 [.ref 18, .int (3 : Int32)] m (fun v1 m1 => ∃ u1, v1 = some (Value.int u1) ∧ ((u1 = 0 → (yC (xg xs) d 138 [.int (m.1 5 l1.toNatClampNeg)] m1 (fun v2 m2 => ∃ u2, v2 = some (Value.int u2) ∧ ((¬ u2 = 0 → Q (some (.int (11 : Int32))) m2) ∧ (u2 = 0 → (yC (xg xs) d 137 [.ref 18, .int (m.1 5 l1.toNatClampNeg)] m2 (fun v3 m3 => ∃ u3, v3 = some (Value.int u3) ∧ ((u3 = 0 → (yC (xg xs) d 187 [.ref 18, .int l1] m3 (fun v4 m4 => v4 = none ∧ Q (some (.int (0 : Int32))) m4))) ∧ (¬ u3 = 0 → Q (some (.int (11 : Int32))) m3))))))))) ∧ (¬ u1 = 0 → Q (some (.int (10 : Int32))) m1)))))) : yP (xg xs) (d + 1) 186 0 [(0, .ref 31), (1, .int l1)] [] m Q := by
  refine y_st rfl rfl rfl rfl rfl (fun _ _ => rfl) ?_
  refine y_gf rfl rfl rfl rfl rfl ?_
  refine y_gf rfl rfl rfl rfl rfl ?_
  refine y_st rfl rfl rfl rfl rfl (fun _ _ => rfl) ?_
  show yP (xg xs) (d + 1) 186 8 [(0, .ref 31), (1, .int l1)] [.int l1, .ref 5] m Q
  refine y_iald rfl rfl rfl (H.1) ?_
  replace H := H.2
  refine y_st rfl rfl rfl rfl rfl (fun _ _ => rfl) ?_
  refine y_st rfl rfl rfl rfl rfl (fun _ _ => rfl) ?_
  refine y_gf rfl rfl rfl rfl rfl ?_
  refine y_st rfl rfl rfl rfl rfl (fun _ _ => rfl) ?_
  show yP (xg xs) (d + 1) 186 15 [(2, .int (m.1 5 l1.toNatClampNeg)), (0, .ref 31), (1, .int l1)] [.int (3 : Int32), .ref 18] m Q
  refine y_call rfl rfl rfl rfl rfl (Nat.le_of_ble_eq_true rfl) (Nat.le_of_ble_eq_true rfl) rfl (by decide) H (fun v1 m1 H => ?_)
  obtain ⟨u1, rfl, H⟩ := H
  show yP (xg xs) (d + 1) 186 18 [(2, .int (m.1 5 l1.toNatClampNeg)), (0, .ref 31), (1, .int l1)] [.int u1] m1 Q
  refine y_zeq (t := 24) rfl rfl rfl (fun h => ?_) (fun h => ?_)
  · replace H := H.1 h; clear h
    refine y_st rfl rfl rfl rfl rfl (fun _ _ => rfl) ?_
    show yP (xg xs) (d + 1) 186 25 [(2, .int (m.1 5 l1.toNatClampNeg)), (0, .ref 31), (1, .int l1)] [.int (m.1 5 l1.toNatClampNeg)] m1 Q
    refine y_call rfl rfl rfl rfl rfl (Nat.le_of_ble_eq_true rfl) (Nat.le_of_ble_eq_true rfl) rfl (by decide) H (fun v2 m2 H => ?_)
    obtain ⟨u2, rfl, H⟩ := H
    show yP (xg xs) (d + 1) 186 28 [(2, .int (m.1 5 l1.toNatClampNeg)), (0, .ref 31), (1, .int l1)] [.int u2] m2 Q
    refine y_zne (t := 42) rfl rfl rfl (fun h => ?_) (fun h => ?_)
    · replace H := H.1 h; clear h
      refine y_st rfl rfl rfl rfl rfl (fun _ _ => rfl) ?_
      show yP (xg xs) (d + 1) 186 44 [(2, .int (m.1 5 l1.toNatClampNeg)), (0, .ref 31), (1, .int l1)] [.int (11 : Int32)] m2 Q
      exact y_iret rfl rfl rfl H
    · replace H := H.2 h; clear h
      refine y_st rfl rfl rfl rfl rfl (fun _ _ => rfl) ?_
      refine y_gf rfl rfl rfl rfl rfl ?_
      refine y_st rfl rfl rfl rfl rfl (fun _ _ => rfl) ?_
      show yP (xg xs) (d + 1) 186 36 [(2, .int (m.1 5 l1.toNatClampNeg)), (0, .ref 31), (1, .int l1)] [.int (m.1 5 l1.toNatClampNeg), .ref 18] m2 Q
      refine y_call rfl rfl rfl rfl rfl (Nat.le_of_ble_eq_true rfl) (Nat.le_of_ble_eq_true rfl) rfl (by decide) H (fun v3 m3 H => ?_)
      obtain ⟨u3, rfl, H⟩ := H
      show yP (xg xs) (d + 1) 186 39 [(2, .int (m.1 5 l1.toNatClampNeg)), (0, .ref 31), (1, .int l1)] [.int u3] m3 Q
      refine y_zeq (t := 45) rfl rfl rfl (fun h => ?_) (fun h => ?_)
      · replace H := H.1 h; clear h
        refine y_st rfl rfl rfl rfl rfl (fun _ _ => rfl) ?_
        refine y_gf rfl rfl rfl rfl rfl ?_
        refine y_st rfl rfl rfl rfl rfl (fun _ _ => rfl) ?_
        show yP (xg xs) (d + 1) 186 50 [(2, .int (m.1 5 l1.toNatClampNeg)), (0, .ref 31), (1, .int l1)] [.int l1, .ref 18] m3 Q
        refine y_call rfl rfl rfl rfl rfl (Nat.le_of_ble_eq_true rfl) (Nat.le_of_ble_eq_true rfl) rfl (by decide) H (fun v4 m4 H => ?_)
        obtain ⟨rfl, H⟩ := H
        refine y_st rfl rfl rfl rfl rfl (fun _ _ => rfl) ?_
        show yP (xg xs) (d + 1) 186 54 [(2, .int (m.1 5 l1.toNatClampNeg)), (0, .ref 31), (1, .int l1)] [.int (0 : Int32)] m4 Q
        exact y_iret rfl rfl rfl H
      · replace H := H.2 h; clear h
        refine y_st rfl rfl rfl rfl rfl (fun _ _ => rfl) ?_
        show yP (xg xs) (d + 1) 186 44 [(2, .int (m.1 5 l1.toNatClampNeg)), (0, .ref 31), (1, .int l1)] [.int (11 : Int32)] m3 Q
        exact y_iret rfl rfl rfl H
  · replace H := H.2 h; clear h
    refine y_st rfl rfl rfl rfl rfl (fun _ _ => rfl) ?_
    show yP (xg xs) (d + 1) 186 23 [(2, .int (m.1 5 l1.toNatClampNeg)), (0, .ref 31), (1, .int l1)] [.int (10 : Int32)] m1 Q
    exact y_iret rfl rfl rfl H
set_option maxRecDepth 20000 in
/-- CodeMaker.Scope.begin from 0 on -/
theorem w187_0 (xs : List Int32) (d : Nat) (l1 : Int32) (m : yM) (Q : Option Value → yM → Prop) (H : (x_in l1 16401 = true ∧ (x_in (if (511 : Int32) < (m.1 18 9) then (511 : Int32) else (m.1 18 9)) 512 = true ∧ (x_in (if (511 : Int32) < (m.1 18 9) then (511 : Int32) else (m.1 18 9)) 512 = true ∧ (x_in (if (511 : Int32) < (m.1 18 9) then (511 : Int32) else (m.1 18 9)) 512 = true ∧ (x_in (if (511 : Int32) < (m.1 18 9) then (511 : Int32) else (m.1 18 9)) 512 = true ∧ (x_in l1 16401 = true ∧ (x_in (m.1 5 l1.toNatClampNeg) 4172 = true ∧ (x_in (if (511 : Int32) < (m.1 18 9) then (511 : Int32) else (m.1 18 9)) 512 = true ∧ ((¬ ((y_si (y_si m 18 9 ((if (511 : Int32) < (m.1 18 9) then (511 : Int32) else (m.1 18 9)) + (1 : Int32))) 24 ((if (511 : Int32) < (m.1 18 9) then (511 : Int32) else (m.1 18 9)).toNatClampNeg) (m.1 3 l1.toNatClampNeg)).1 24 ((if (511 : Int32) < (m.1 18 9) then (511 : Int32) else (m.1 18 9)).toNatClampNeg)) = (3 : Int32) → yP (xg xs) (d + 1) 187 94 [(0, .ref 18), (1, .int l1), (2, .int (if (511 : Int32) < (m.1 18 9) then (511 : Int32) else (m.1 18 9)))] [.int (0 : Int32), .int (if (511 : Int32) < (m.1 18 9) then (511 : Int32) else (m.1 18 9)), .ref 26] (y_si (y_si (y_si (y_si (y_si (y_si m 18 9 ((if (511 : Int32) < (m.1 18 9) then (511 : Int32) else (m.1 18 9)) + (1 : Int32))) 24 ((if (511 : Int32) < (m.1 18 9) then (511 : Int32) else (m.1 18 9)).toNatClampNeg) (m.1 3 l1.toNatClampNeg)) 25 ((if (511 : Int32) < (m.1 18 9) then (511 : Int32) else (m.1 18 9)).toNatClampNeg) l1) 27 ((if (511 : Int32) < (m.1 18 9) then (511 : Int32) else (m.1 18 9)).toNatClampNeg) (0 : Int32)) 28 ((if (511 : Int32) < (m.1 18 9) then (511 : Int32) else (m.1 18 9)).toNatClampNeg) (m.1 18 15)) 30 ((m.1 5 l1.toNatClampNeg).toNatClampNeg) (if (511 : Int32) < (m.1 18 9) then (511 : Int32) else (m.1 18 9))) Q) ∧ (((y_si (y_si m 18 9 ((if (511 : Int32) < (m.1 18 9) then (511 : Int32) else (m.1 18 9)) + (1 : Int32))) 24 ((if (511 : Int32) < (m.1 18 9) then (511 : Int32) else (m.1 18 9)).toNatClampNeg) (m.1 3 l1.toNatClampNeg)).1 24 ((if (511 : Int32) < (m.1 18 9) then (511 : Int32) else (m.1 18 9)).toNatClampNeg)) = (3 : Int32) → yP (xg xs) (d + 1) 187 94 [(0, .ref 18), (1, .int l1), (2, .int (if (511 : Int32) < (m.1 18 9) then (511 : Int32) else (m.1 18 9)))] [.int (960 : Int32), .int (if (511 : Int32) < (m.1 18 9) then (511 : Int32) else (m.1 18 9)), .ref 26] (y_si (y_si (y_si (y_si (y_si (y_si m 18 9 ((if (511 : Int32) < (m.1 18 9) then (511 : Int32) else (m.1 18 9)) + (1 : Int32))) 24 ((if (511 : Int32) < (m.1 18 9) then (511 : Int32) else (m.1 18 9)).toNatClampNeg) (m.1 3 l1.toNatClampNeg)) 25 ((if (511 : Int32) < (m.1 18 9) then (511 : Int32) else (m.1 18 9)).toNatClampNeg) l1) 27 ((if (511 : Int32) < (m.1 18 9) then (511 : Int32) else (m.1 18 9)).toNatClampNeg) (0 : Int32)) 28 ((if (511 : Int32) < (m.1 18 9) then (511 : Int32) else (m.1 18 9)).toNatClampNeg) (m.1 18 15)) 30 ((m.1 5 l1.toNatClampNeg).toNatClampNeg) (if (511 : Int32) < (m.1 18 9) then (511 : Int32) else (m.1 18 9))) Q))))))))))) : yP (xg xs) (d + 1) 187 0 [(0, .ref 18), (1, .int l1)] [] m Q := by
  refine y_st rfl rfl rfl rfl rfl (fun _ _ => rfl) ?_
  refine y_gf rfl rfl rfl rfl rfl ?_
  refine y_st rfl rfl rfl rfl rfl (fun _ _ => rfl) ?_
  refine y_mi rfl rfl rfl rfl rfl (Nat.le_of_ble_eq_true rfl) (by omega) ?_
  refine y_st rfl rfl rfl rfl rfl (fun _ _ => rfl) ?_
  refine y_st rfl rfl rfl rfl rfl (fun _ _ => rfl) ?_
  refine y_st rfl rfl rfl rfl rfl (fun _ _ => rfl) ?_
  refine y_st rfl rfl rfl rfl rfl (fun _ _ => rfl) ?_
  refine y_st rfl rfl rfl rfl rfl (fun _ _ => rfl) ?_
  refine y_pfi rfl rfl rfl rfl rfl (x_fit_i _) ?_
  show yP (xg xs) (d + 1) 187 18 [(2, .int (if (511 : Int32) < (m.1 18 9) then (511 : Int32) else (m.1 18 9))), (0, .ref 18), (1, .int l1)] [] (y_si m 18 9 ((if (511 : Int32) < (m.1 18 9) then (511 : Int32) else (m.1 18 9)) + (1 : Int32))) Q
  refine y_st rfl rfl rfl rfl rfl (fun _ _ => rfl) ?_
  refine y_gf rfl rfl rfl rfl rfl ?_
  refine y_st rfl rfl rfl rfl rfl (fun _ _ => rfl) ?_
  refine y_st rfl rfl rfl rfl rfl (fun _ _ => rfl) ?_
  refine y_gf rfl rfl rfl rfl rfl ?_
  refine y_gf rfl rfl rfl rfl rfl ?_
  refine y_st rfl rfl rfl rfl rfl (fun _ _ => rfl) ?_
  show yP (xg xs) (d + 1) 187 31 [(2, .int (if (511 : Int32) < (m.1 18 9) then (511 : Int32) else (m.1 18 9))), (0, .ref 18), (1, .int l1)] [.int l1, .ref 3, .int (if (511 : Int32) < (m.1 18 9) then (511 : Int32) else (m.1 18 9)), .ref 24] (y_si m 18 9 ((if (511 : Int32) < (m.1 18 9) then (511 : Int32) else (m.1 18 9)) + (1 : Int32))) Q
  refine y_iald rfl rfl rfl (H.1) ?_
  replace H := H.2
  show yP (xg xs) (d + 1) 187 32 [(2, .int (if (511 : Int32) < (m.1 18 9) then (511 : Int32) else (m.1 18 9))), (0, .ref 18), (1, .int l1)] [.int (m.1 3 l1.toNatClampNeg), .int (if (511 : Int32) < (m.1 18 9) then (511 : Int32) else (m.1 18 9)), .ref 24] (y_si m 18 9 ((if (511 : Int32) < (m.1 18 9) then (511 : Int32) else (m.1 18 9)) + (1 : Int32))) Q
  refine y_iast rfl rfl rfl (H.1) ?_
  replace H := H.2
  refine y_st rfl rfl rfl rfl rfl (fun _ _ => rfl) ?_
  refine y_gf rfl rfl rfl rfl rfl ?_
  refine y_st rfl rfl rfl rfl rfl (fun _ _ => rfl) ?_
  refine y_st rfl rfl rfl rfl rfl (fun _ _ => rfl) ?_
  show yP (xg xs) (d + 1) 187 39 [(2, .int (if (511 : Int32) < (m.1 18 9) then (511 : Int32) else (m.1 18 9))), (0, .ref 18), (1, .int l1)] [.int l1, .int (if (511 : Int32) < (m.1 18 9) then (511 : Int32) else (m.1 18 9)), .ref 25] (y_si (y_si m 18 9 ((if (511 : Int32) < (m.1 18 9) then (511 : Int32) else (m.1 18 9)) + (1 : Int32))) 24 ((if (511 : Int32) < (m.1 18 9) then (511 : Int32) else (m.1 18 9)).toNatClampNeg) (m.1 3 l1.toNatClampNeg)) Q
  refine y_iast rfl rfl rfl (H.1) ?_
  replace H := H.2
  refine y_st rfl rfl rfl rfl rfl (fun _ _ => rfl) ?_
  refine y_gf rfl rfl rfl rfl rfl ?_
  refine y_st rfl rfl rfl rfl rfl (fun _ _ => rfl) ?_
  refine y_st rfl rfl rfl rfl rfl (fun _ _ => rfl) ?_
  show yP (xg xs) (d + 1) 187 46 [(2, .int (if (511 : Int32) < (m.1 18 9) then (511 : Int32) else (m.1 18 9))), (0, .ref 18), (1, .int l1)] [.int (0 : Int32), .int (if (511 : Int32) < (m.1 18 9) then (511 : Int32) else (m.1 18 9)), .ref 27] (y_si (y_si (y_si m 18 9 ((if (511 : Int32) < (m.1 18 9) then (511 : Int32) else (m.1 18 9)) + (1 : Int32))) 24 ((if (511 : Int32) < (m.1 18 9) then (511 : Int32) else (m.1 18 9)).toNatClampNeg) (m.1 3 l1.toNatClampNeg)) 25 ((if (511 : Int32) < (m.1 18 9) then (511 : Int32) else (m.1 18 9)).toNatClampNeg) l1) Q
  refine y_iast rfl rfl rfl (H.1) ?_
  replace H := H.2
  refine y_st rfl rfl rfl rfl rfl (fun _ _ => rfl) ?_
  refine y_gf rfl rfl rfl rfl rfl ?_
  refine y_st rfl rfl rfl rfl rfl (fun _ _ => rfl) ?_
  refine y_st rfl rfl rfl rfl rfl (fun _ _ => rfl) ?_
  refine y_gf rfl rfl rfl rfl rfl ?_
  show yP (xg xs) (d + 1) 187 56 [(2, .int (if (511 : Int32) < (m.1 18 9) then (511 : Int32) else (m.1 18 9))), (0, .ref 18), (1, .int l1)] [.int (m.1 18 15), .int (if (511 : Int32) < (m.1 18 9) then (511 : Int32) else (m.1 18 9)), .ref 28] (y_si (y_si (y_si (y_si m 18 9 ((if (511 : Int32) < (m.1 18 9) then (511 : Int32) else (m.1 18 9)) + (1 : Int32))) 24 ((if (511 : Int32) < (m.1 18 9) then (511 : Int32) else (m.1 18 9)).toNatClampNeg) (m.1 3 l1.toNatClampNeg)) 25 ((if (511 : Int32) < (m.1 18 9) then (511 : Int32) else (m.1 18 9)).toNatClampNeg) l1) 27 ((if (511 : Int32) < (m.1 18 9) then (511 : Int32) else (m.1 18 9)).toNatClampNeg) (0 : Int32)) Q
  refine y_iast rfl rfl rfl (H.1) ?_
  replace H := H.2
  refine y_st rfl rfl rfl rfl rfl (fun _ _ => rfl) ?_
  refine y_gf rfl rfl rfl rfl rfl ?_
  refine y_st rfl rfl rfl rfl rfl (fun _ _ => rfl) ?_
  refine y_gf rfl rfl rfl rfl rfl ?_
  refine y_gf rfl rfl rfl rfl rfl ?_
  refine y_st rfl rfl rfl rfl rfl (fun _ _ => rfl) ?_
  show yP (xg xs) (d + 1) 187 69 [(2, .int (if (511 : Int32) < (m.1 18 9) then (511 : Int32) else (m.1 18 9))), (0, .ref 18), (1, .int l1)] [.int l1, .ref 5, .ref 30] (y_si (y_si (y_si (y_si (y_si m 18 9 ((if (511 : Int32) < (m.1 18 9) then (511 : Int32) else (m.1 18 9)) + (1 : Int32))) 24 ((if (511 : Int32) < (m.1 18 9) then (511 : Int32) else (m.1 18 9)).toNatClampNeg) (m.1 3 l1.toNatClampNeg)) 25 ((if (511 : Int32) < (m.1 18 9) then (511 : Int32) else (m.1 18 9)).toNatClampNeg) l1) 27 ((if (511 : Int32) < (m.1 18 9) then (511 : Int32) else (m.1 18 9)).toNatClampNeg) (0 : Int32)) 28 ((if (511 : Int32) < (m.1 18 9) then (511 : Int32) else (m.1 18 9)).toNatClampNeg) (m.1 18 15)) Q
  refine y_iald rfl rfl rfl (H.1) ?_
  replace H := H.2
  refine y_st rfl rfl rfl rfl rfl (fun _ _ => rfl) ?_
  show yP (xg xs) (d + 1) 187 71 [(2, .int (if (511 : Int32) < (m.1 18 9) then (511 : Int32) else (m.1 18 9))), (0, .ref 18), (1, .int l1)] [.int (if (511 : Int32) < (m.1 18 9) then (511 : Int32) else (m.1 18 9)), .int (m.1 5 l1.toNatClampNeg), .ref 30] (y_si (y_si (y_si (y_si (y_si m 18 9 ((if (511 : Int32) < (m.1 18 9) then (511 : Int32) else (m.1 18 9)) + (1 : Int32))) 24 ((if (511 : Int32) < (m.1 18 9) then (511 : Int32) else (m.1 18 9)).toNatClampNeg) (m.1 3 l1.toNatClampNeg)) 25 ((if (511 : Int32) < (m.1 18 9) then (511 : Int32) else (m.1 18 9)).toNatClampNeg) l1) 27 ((if (511 : Int32) < (m.1 18 9) then (511 : Int32) else (m.1 18 9)).toNatClampNeg) (0 : Int32)) 28 ((if (511 : Int32) < (m.1 18 9) then (511 : Int32) else (m.1 18 9)).toNatClampNeg) (m.1 18 15)) Q
  refine y_iast rfl rfl rfl (H.1) ?_
  replace H := H.2
  refine y_st rfl rfl rfl rfl rfl (fun _ _ => rfl) ?_
  refine y_gf rfl rfl rfl rfl rfl ?_
  refine y_st rfl rfl rfl rfl rfl (fun _ _ => rfl) ?_
  refine y_st rfl rfl rfl rfl rfl (fun _ _ => rfl) ?_
  refine y_gf rfl rfl rfl rfl rfl ?_
  refine y_st rfl rfl rfl rfl rfl (fun _ _ => rfl) ?_
  show yP (xg xs) (d + 1) 187 82 [(2, .int (if (511 : Int32) < (m.1 18 9) then (511 : Int32) else (m.1 18 9))), (0, .ref 18), (1, .int l1)] [.int (if (511 : Int32) < (m.1 18 9) then (511 : Int32) else (m.1 18 9)), .ref 24, .int (if (511 : Int32) < (m.1 18 9) then (511 : Int32) else (m.1 18 9)), .ref 26] (y_si (y_si (y_si (y_si (y_si (y_si m 18 9 ((if (511 : Int32) < (m.1 18 9) then (511 : Int32) else (m.1 18 9)) + (1 : Int32))) 24 ((if (511 : Int32) < (m.1 18 9) then (511 : Int32) else (m.1 18 9)).toNatClampNeg) (m.1 3 l1.toNatClampNeg)) 25 ((if (511 : Int32) < (m.1 18 9) then (511 : Int32) else (m.1 18 9)).toNatClampNeg) l1) 27 ((if (511 : Int32) < (m.1 18 9) then (511 : Int32) else (m.1 18 9)).toNatClampNeg) (0 : Int32)) 28 ((if (511 : Int32) < (m.1 18 9) then (511 : Int32) else (m.1 18 9)).toNatClampNeg) (m.1 18 15)) 30 ((m.1 5 l1.toNatClampNeg).toNatClampNeg) (if (511 : Int32) < (m.1 18 9) then (511 : Int32) else (m.1 18 9))) Q
  refine y_iald rfl rfl rfl (H.1) ?_
  replace H := H.2
  refine y_st rfl rfl rfl rfl rfl (fun _ _ => rfl) ?_
  show yP (xg xs) (d + 1) 187 84 [(2, .int (if (511 : Int32) < (m.1 18 9) then (511 : Int32) else (m.1 18 9))), (0, .ref 18), (1, .int l1)] [.int (3 : Int32), .int ((y_si (y_si m 18 9 ((if (511 : Int32) < (m.1 18 9) then (511 : Int32) else (m.1 18 9)) + (1 : Int32))) 24 ((if (511 : Int32) < (m.1 18 9) then (511 : Int32) else (m.1 18 9)).toNatClampNeg) (m.1 3 l1.toNatClampNeg)).1 24 ((if (511 : Int32) < (m.1 18 9) then (511 : Int32) else (m.1 18 9)).toNatClampNeg)), .int (if (511 : Int32) < (m.1 18 9) then (511 : Int32) else (m.1 18 9)), .ref 26] (y_si (y_si (y_si (y_si (y_si (y_si m 18 9 ((if (511 : Int32) < (m.1 18 9) then (511 : Int32) else (m.1 18 9)) + (1 : Int32))) 24 ((if (511 : Int32) < (m.1 18 9) then (511 : Int32) else (m.1 18 9)).toNatClampNeg) (m.1 3 l1.toNatClampNeg)) 25 ((if (511 : Int32) < (m.1 18 9) then (511 : Int32) else (m.1 18 9)).toNatClampNeg) l1) 27 ((if (511 : Int32) < (m.1 18 9) then (511 : Int32) else (m.1 18 9)).toNatClampNeg) (0 : Int32)) 28 ((if (511 : Int32) < (m.1 18 9) then (511 : Int32) else (m.1 18 9)).toNatClampNeg) (m.1 18 15)) 30 ((m.1 5 l1.toNatClampNeg).toNatClampNeg) (if (511 : Int32) < (m.1 18 9) then (511 : Int32) else (m.1 18 9))) Q
  refine y_ine (t := 93) rfl rfl rfl (fun h => ?_) (fun h => ?_)
  · replace H := H.1 h; clear h
    refine y_st rfl rfl rfl rfl rfl (fun _ _ => rfl) ?_
    show yP (xg xs) (d + 1) 187 94 [(2, .int (if (511 : Int32) < (m.1 18 9) then (511 : Int32) else (m.1 18 9))), (0, .ref 18), (1, .int l1)] [.int (0 : Int32), .int (if (511 : Int32) < (m.1 18 9) then (511 : Int32) else (m.1 18 9)), .ref 26] (y_si (y_si (y_si (y_si (y_si (y_si m 18 9 ((if (511 : Int32) < (m.1 18 9) then (511 : Int32) else (m.1 18 9)) + (1 : Int32))) 24 ((if (511 : Int32) < (m.1 18 9) then (511 : Int32) else (m.1 18 9)).toNatClampNeg) (m.1 3 l1.toNatClampNeg)) 25 ((if (511 : Int32) < (m.1 18 9) then (511 : Int32) else (m.1 18 9)).toNatClampNeg) l1) 27 ((if (511 : Int32) < (m.1 18 9) then (511 : Int32) else (m.1 18 9)).toNatClampNeg) (0 : Int32)) 28 ((if (511 : Int32) < (m.1 18 9) then (511 : Int32) else (m.1 18 9)).toNatClampNeg) (m.1 18 15)) 30 ((m.1 5 l1.toNatClampNeg).toNatClampNeg) (if (511 : Int32) < (m.1 18 9) then (511 : Int32) else (m.1 18 9))) Q
    refine y_headS (l2 := [(0, .ref 18), (1, .int l1), (2, .int (if (511 : Int32) < (m.1 18 9) then (511 : Int32) else (m.1 18 9)))]) [1, 2, 0] [0, 1, 2] [2, 0, 1] rfl rfl (by decide) rfl (by decide) ?_
    exact H
  · replace H := H.2 h; clear h
    refine y_st rfl rfl rfl rfl rfl (fun _ _ => rfl) ?_
    refine y_st rfl rfl rfl rfl rfl (fun _ _ => rfl) ?_
    show yP (xg xs) (d + 1) 187 94 [(2, .int (if (511 : Int32) < (m.1 18 9) then (511 : Int32) else (m.1 18 9))), (0, .ref 18), (1, .int l1)] [.int (960 : Int32), .int (if (511 : Int32) < (m.1 18 9) then (511 : Int32) else (m.1 18 9)), .ref 26] (y_si (y_si (y_si (y_si (y_si (y_si m 18 9 ((if (511 : Int32) < (m.1 18 9) then (511 : Int32) else (m.1 18 9)) + (1 : Int32))) 24 ((if (511 : Int32) < (m.1 18 9) then (511 : Int32) else (m.1 18 9)).toNatClampNeg) (m.1 3 l1.toNatClampNeg)) 25 ((if (511 : Int32) < (m.1 18 9) then (511 : Int32) else (m.1 18 9)).toNatClampNeg) l1) 27 ((if (511 : Int32) < (m.1 18 9) then (511 : Int32) else (m.1 18 9)).toNatClampNeg) (0 : Int32)) 28 ((if (511 : Int32) < (m.1 18 9) then (511 : Int32) else (m.1 18 9)).toNatClampNeg) (m.1 18 15)) 30 ((m.1 5 l1.toNatClampNeg).toNatClampNeg) (if (511 : Int32) < (m.1 18 9) then (511 : Int32) else (m.1 18 9))) Q
    refine y_headS (l2 := [(0, .ref 18), (1, .int l1), (2, .int (if (511 : Int32) < (m.1 18 9) then (511 : Int32) else (m.1 18 9)))]) [1, 2, 0] [0, 1, 2] [2, 0, 1] rfl rfl (by decide) rfl (by decide) ?_
    exact H
set_option maxRecDepth 20000 in
/-- CodeMaker.Scope.begin from 94 on -/
theorem w187_94 (xs : List Int32) (d : Nat) (l1 : Int32) (l2 : Int32) (s1 : Int32) (s2 : Int32) (m : yM) (Q : Option Value → yM → Prop) (H : (x_in s1 512 = true ∧ (x_in l2 512 = true ∧ ((¬ (m.1 24 l2.toNatClampNeg) = (1 : Int32) → Q none (y_si m 26 s1.toNatClampNeg s2)) ∧ ((m.1 24 l2.toNatClampNeg) = (1 : Int32) → (x_in l1 16401 = true ∧ (yC (xg xs) d 139 [.ref 18, .int (m.1 5 l1.toNatClampNeg)] (y_si m 26 s1.toNatClampNeg s2) (fun v1 m1 => v1 = none ∧ (yC (xg xs) d 130 [.ref 18, .int ((m1.1 18 15) - (1 : Int32)), .int (l1 + (1 : Int32)), .int (3 : Int32), .int (0 : Int32)] m1 (fun v2 m2 => v2 = none ∧ (x_in l2 512 = true ∧ Q none (y_si m2 26 l2.toNatClampNeg (1 : Int32))))))))))))) : yP (xg xs) (d + 1) 187 94 [(0, .ref 18), (1, .int l1), (2, .int l2)] [.int s2, .int s1, .ref 26] m Q := by
  show yP (xg xs) (d + 1) 187 94 [(0, .ref 18), (1, .int l1), (2, .int l2)] [.int s2, .int s1, .ref 26] m Q
  refine y_iast rfl rfl rfl (H.1) ?_
  replace H := H.2
  refine y_st rfl rfl rfl rfl rfl (fun _ _ => rfl) ?_
  refine y_gf rfl rfl rfl rfl rfl ?_
  refine y_st rfl rfl rfl rfl rfl (fun _ _ => rfl) ?_
  show yP (xg xs) (d + 1) 187 100 [(0, .ref 18), (1, .int l1), (2, .int l2)] [.int l2, .ref 24] (y_si m 26 s1.toNatClampNeg s2) Q
  refine y_iald rfl rfl rfl (H.1) ?_
  replace H := H.2
  refine y_st rfl rfl rfl rfl rfl (fun _ _ => rfl) ?_
  show yP (xg xs) (d + 1) 187 102 [(0, .ref 18), (1, .int l1), (2, .int l2)] [.int (1 : Int32), .int (m.1 24 l2.toNatClampNeg)] (y_si m 26 s1.toNatClampNeg s2) Q
  refine y_ine (t := 140) rfl rfl rfl (fun h => ?_) (fun h => ?_)
  · replace H := H.1 h; clear h
    show yP (xg xs) (d + 1) 187 140 [(0, .ref 18), (1, .int l1), (2, .int l2)] [] (y_si m 26 s1.toNatClampNeg s2) Q
    exact y_ret rfl rfl rfl rfl H
  · replace H := H.2 h; clear h
    refine y_st rfl rfl rfl rfl rfl (fun _ _ => rfl) ?_
    refine y_st rfl rfl rfl rfl rfl (fun _ _ => rfl) ?_
    refine y_gf rfl rfl rfl rfl rfl ?_
    refine y_gf rfl rfl rfl rfl rfl ?_
    refine y_st rfl rfl rfl rfl rfl (fun _ _ => rfl) ?_
    show yP (xg xs) (d + 1) 187 114 [(0, .ref 18), (1, .int l1), (2, .int l2)] [.int l1, .ref 5, .ref 18] (y_si m 26 s1.toNatClampNeg s2) Q
    refine y_iald rfl rfl rfl (H.1) ?_
    replace H := H.2
    show yP (xg xs) (d + 1) 187 115 [(0, .ref 18), (1, .int l1), (2, .int l2)] [.int (m.1 5 l1.toNatClampNeg), .ref 18] (y_si m 26 s1.toNatClampNeg s2) Q
    refine y_call rfl rfl rfl rfl rfl (Nat.le_of_ble_eq_true rfl) (Nat.le_of_ble_eq_true rfl) rfl (by decide) H (fun v1 m1 H => ?_)
    obtain ⟨rfl, H⟩ := H
    refine y_st rfl rfl rfl rfl rfl (fun _ _ => rfl) ?_
    refine y_st rfl rfl rfl rfl rfl (fun _ _ => rfl) ?_
    refine y_gf rfl rfl rfl rfl rfl ?_
    refine y_st rfl rfl rfl rfl rfl (fun _ _ => rfl) ?_
    refine y_st rfl rfl rfl rfl rfl (fun _ _ => rfl) ?_
    refine y_st rfl rfl rfl rfl rfl (fun _ _ => rfl) ?_
    refine y_st rfl rfl rfl rfl rfl (fun _ _ => rfl) ?_
    refine y_st rfl rfl rfl rfl rfl (fun _ _ => rfl) ?_
    refine y_st rfl rfl rfl rfl rfl (fun _ _ => rfl) ?_
    refine y_st rfl rfl rfl rfl rfl (fun _ _ => rfl) ?_
    show yP (xg xs) (d + 1) 187 130 [(0, .ref 18), (1, .int l1), (2, .int l2)] [.int (0 : Int32), .int (3 : Int32), .int (l1 + (1 : Int32)), .int ((m1.1 18 15) - (1 : Int32)), .ref 18] m1 Q
    refine y_call rfl rfl rfl rfl rfl (Nat.le_of_ble_eq_true rfl) (Nat.le_of_ble_eq_true rfl) rfl (by decide) H (fun v2 m2 H => ?_)
    obtain ⟨rfl, H⟩ := H
    refine y_st rfl rfl rfl rfl rfl (fun _ _ => rfl) ?_
    refine y_gf rfl rfl rfl rfl rfl ?_
    refine y_st rfl rfl rfl rfl rfl (fun _ _ => rfl) ?_
    refine y_st rfl rfl rfl rfl rfl (fun _ _ => rfl) ?_
    show yP (xg xs) (d + 1) 187 139 [(0, .ref 18), (1, .int l1), (2, .int l2)] [.int (1 : Int32), .int l2, .ref 26] m2 Q
    refine y_iast rfl rfl rfl (H.1) ?_
    replace H := H.2
    show yP (xg xs) (d + 1) 187 140 [(0, .ref 18), (1, .int l1), (2, .int l2)] [] (y_si m2 26 l2.toNatClampNeg (1 : Int32)) Q
    exact y_ret rfl rfl rfl rfl H
set_option maxRecDepth 20000 in
/-- CodeMaker.produce from 0 on -/
theorem w188_0 (xs : List Int32) (d : Nat) (m : yM) (Q : Option Value → yM → Prop) (H : (((m.1 18 9) ≤ (16 : Int32) → (yC (xg xs) d 189 [.ref 35] (y_si m 0 11 (0 : Int32)) (fun v1 m1 => v1 = none ∧ yP (xg xs) (d + 1) 188 29 [(0, .ref 0), (1, .int (0 : Int32))] [] m1 Q))) ∧ (¬ (m.1 18 9) ≤ (16 : Int32) → Q (some (.int (50 : Int32))) (y_si m 0 11 (0 : Int32))))) : yP (xg xs) (d + 1) 188 0 [(0, .ref 0)] [] m Q := by
  refine y_st rfl rfl rfl rfl rfl (fun _ _ => rfl) ?_
  refine y_st rfl rfl rfl rfl rfl (fun _ _ => rfl) ?_
  refine y_pfi rfl rfl rfl rfl rfl (x_fit_i _) ?_
  show yP (xg xs) (d + 1) 188 5 [(0, .ref 0)] [] (y_si m 0 11 (0 : Int32)) Q
  refine y_st rfl rfl rfl rfl rfl (fun _ _ => rfl) ?_
  refine y_gf rfl rfl rfl rfl rfl ?_
  refine y_gf rfl rfl rfl rfl rfl ?_
  refine y_st rfl rfl rfl rfl rfl (fun _ _ => rfl) ?_
  show yP (xg xs) (d + 1) 188 14 [(0, .ref 0)] [.int (16 : Int32), .int (m.1 18 9)] (y_si m 0 11 (0 : Int32)) Q
  refine y_ile (t := 20) rfl rfl rfl (fun h => ?_) (fun h => ?_)
  · replace H := H.1 h; clear h
    refine y_st rfl rfl rfl rfl rfl (fun _ _ => rfl) ?_
    refine y_gf rfl rfl rfl rfl rfl ?_
    show yP (xg xs) (d + 1) 188 24 [(0, .ref 0)] [.ref 35] (y_si m 0 11 (0 : Int32)) Q
    refine y_call rfl rfl rfl rfl rfl (Nat.le_of_ble_eq_true rfl) (Nat.le_of_ble_eq_true rfl) rfl (by decide) H (fun v1 m1 H => ?_)
    obtain ⟨rfl, H⟩ := H
    refine y_st rfl rfl rfl rfl rfl (fun _ _ => rfl) ?_
    refine y_st rfl rfl rfl rfl rfl (fun _ _ => rfl) ?_
    show yP (xg xs) (d + 1) 188 29 [(1, .int (0 : Int32)), (0, .ref 0)] [] m1 Q
    refine y_headS (l2 := [(0, .ref 0), (1, .int (0 : Int32))]) [1, 0] [0, 1] [1, 0] rfl rfl (by decide) rfl (by decide) ?_
    exact H
  · replace H := H.2 h; clear h
    refine y_st rfl rfl rfl rfl rfl (fun _ _ => rfl) ?_
    show yP (xg xs) (d + 1) 188 19 [(0, .ref 0)] [.int (50 : Int32)] (y_si m 0 11 (0 : Int32)) Q
    exact y_iret rfl rfl rfl H
set_option maxRecDepth 20000 in
/-- CodeMaker.produce from 29 on -/
theorem w188_29 (xs : List Int32) (d : Nat) (l1 : Int32) (m : yM) (Q : Option Value → yM → Prop) (H : (((m.1 18 9) ≤ l1 → (((m.1 35 6) ≤ (3000 : Int32) → yP (xg xs) (d + 1) 188 72 [(0, .ref 0), (1, .int (0 : Int32))] [] m Q) ∧ (¬ (m.1 35 6) ≤ (3000 : Int32) → Q (some (.int (50 : Int32))) m))) ∧ (¬ (m.1 18 9) ≤ l1 → (yC (xg xs) d 190 [.ref 42, .int l1] m (fun v1 m1 => v1 = none ∧ yP (xg xs) (d + 1) 188 29 [(0, .ref 0), (1, .int (l1 + (1 : Int32)))] [] m1 Q))))) : yP (xg xs) (d + 1) 188 29 [(0, .ref 0), (1, .int l1)] [] m Q := by
  refine y_st rfl rfl rfl rfl rfl (fun _ _ => rfl) ?_
  refine y_st rfl rfl rfl rfl rfl (fun _ _ => rfl) ?_
  refine y_gf rfl rfl rfl rfl rfl ?_
  refine y_gf rfl rfl rfl rfl rfl ?_
  show yP (xg xs) (d + 1) 188 37 [(0, .ref 0), (1, .int l1)] [.int (m.1 18 9), .int l1] m Q
  refine y_ige (t := 54) rfl rfl rfl (fun h => ?_) (fun h => ?_)
  · replace H := H.1 h; clear h
    refine y_st rfl rfl rfl rfl rfl (fun _ _ => rfl) ?_
    refine y_gf rfl rfl rfl rfl rfl ?_
    refine y_gf rfl rfl rfl rfl rfl ?_
    refine y_st rfl rfl rfl rfl rfl (fun _ _ => rfl) ?_
    show yP (xg xs) (d + 1) 188 64 [(0, .ref 0), (1, .int l1)] [.int (3000 : Int32), .int (m.1 35 6)] m Q
    refine y_ile (t := 70) rfl rfl rfl (fun h => ?_) (fun h => ?_)
    · replace H := H.1 h; clear h
      refine y_st rfl rfl rfl rfl rfl (fun _ _ => rfl) ?_
      refine y_st rfl rfl rfl rfl rfl (fun _ _ => rfl) ?_
      show yP (xg xs) (d + 1) 188 72 [(1, .int (0 : Int32)), (0, .ref 0)] [] m Q
      refine y_headS (l2 := [(0, .ref 0), (1, .int (0 : Int32))]) [1, 0] [0, 1] [1, 0] rfl rfl (by decide) rfl (by decide) ?_
      exact H
    · replace H := H.2 h; clear h
      refine y_st rfl rfl rfl rfl rfl (fun _ _ => rfl) ?_
      show yP (xg xs) (d + 1) 188 69 [(0, .ref 0), (1, .int l1)] [.int (50 : Int32)] m Q
      exact y_iret rfl rfl rfl H
  · replace H := H.2 h; clear h
    refine y_st rfl rfl rfl rfl rfl (fun _ _ => rfl) ?_
    refine y_gf rfl rfl rfl rfl rfl ?_
    refine y_st rfl rfl rfl rfl rfl (fun _ _ => rfl) ?_
    show yP (xg xs) (d + 1) 188 45 [(0, .ref 0), (1, .int l1)] [.int l1, .ref 42] m Q
    refine y_call rfl rfl rfl rfl rfl (Nat.le_of_ble_eq_true rfl) (Nat.le_of_ble_eq_true rfl) rfl (by decide) H (fun v1 m1 H => ?_)
    obtain ⟨rfl, H⟩ := H
    refine y_st rfl rfl rfl rfl rfl (fun _ _ => rfl) ?_
    refine y_st rfl rfl rfl rfl rfl (fun _ _ => rfl) ?_
    show yP (xg xs) (d + 1) 188 29 [(1, .int (l1 + (1 : Int32))), (0, .ref 0)] [] m1 Q
    refine y_headS (l2 := [(0, .ref 0), (1, .int (l1 + (1 : Int32)))]) [1, 0] [0, 1] [1, 0] rfl rfl (by decide) rfl (by decide) ?_
    exact H
set_option maxRecDepth 20000 in
/-- CodeMaker.produce from 72 on -/
theorem w188_72 (xs : List Int32) (d : Nat) (l1 : Int32) (m : yM) (Q : Option Value → yM → Prop) (H : (((m.1 18 9) ≤ l1 → Q (some (.int (0 : Int32))) m) ∧ (¬ (m.1 18 9) ≤ l1 → (yC (xg xs) d 218 [.ref 45, .int l1] m (fun v1 m1 => ∃ u1, v1 = some (Value.int u1) ∧ ((u1 = 0 → yP (xg xs) (d + 1) 188 72 [(0, .ref 0), (1, .int (l1 + (1 : Int32)))] [] m1 Q) ∧ (¬ u1 = 0 → (yC (xg xs) d 230 [.ref 18, .int l1] m1 (fun v2 m2 => ∃ u2, v2 = some (Value.int u2) ∧ Q (some (.int u1)) (y_si m2 0 11 u2)))))))))) : yP (xg xs) (d + 1) 188 72 [(0, .ref 0), (1, .int l1)] [] m Q := by
  refine y_st rfl rfl rfl rfl rfl (fun _ _ => rfl) ?_
  refine y_st rfl rfl rfl rfl rfl (fun _ _ => rfl) ?_
  refine y_gf rfl rfl rfl rfl rfl ?_
  refine y_gf rfl rfl rfl rfl rfl ?_
  show yP (xg xs) (d + 1) 188 80 [(0, .ref 0), (1, .int l1)] [.int (m.1 18 9), .int l1] m Q
  refine y_ige (t := 116) rfl rfl rfl (fun h => ?_) (fun h => ?_)
  · replace H := H.1 h; clear h
    refine y_st rfl rfl rfl rfl rfl (fun _ _ => rfl) ?_
    show yP (xg xs) (d + 1) 188 117 [(0, .ref 0), (1, .int l1)] [.int (0 : Int32)] m Q
    exact y_iret rfl rfl rfl H
  · replace H := H.2 h; clear h
    refine y_st rfl rfl rfl rfl rfl (fun _ _ => rfl) ?_
    refine y_gf rfl rfl rfl rfl rfl ?_
    refine y_st rfl rfl rfl rfl rfl (fun _ _ => rfl) ?_
    show yP (xg xs) (d + 1) 188 88 [(0, .ref 0), (1, .int l1)] [.int l1, .ref 45] m Q
    refine y_call rfl rfl rfl rfl rfl (Nat.le_of_ble_eq_true rfl) (Nat.le_of_ble_eq_true rfl) rfl (by decide) H (fun v1 m1 H => ?_)
    obtain ⟨u1, rfl, H⟩ := H
    refine y_st rfl rfl rfl rfl rfl (fun _ _ => rfl) ?_
    refine y_st rfl rfl rfl rfl rfl (fun _ _ => rfl) ?_
    show yP (xg xs) (d + 1) 188 93 [(2, .int u1), (0, .ref 0), (1, .int l1)] [.int u1] m1 Q
    refine y_zeq (t := 110) rfl rfl rfl (fun h => ?_) (fun h => ?_)
    · replace H := H.1 h; clear h
      refine y_st rfl rfl rfl rfl rfl (fun _ _ => rfl) ?_
      refine y_st rfl rfl rfl rfl rfl (fun _ _ => rfl) ?_
      show yP (xg xs) (d + 1) 188 72 [(1, .int (l1 + (1 : Int32))), (2, .int u1), (0, .ref 0)] [] m1 Q
      refine y_headS (l2 := [(0, .ref 0), (1, .int (l1 + (1 : Int32)))]) [2, 0] [0, 1] [1, 2, 0] rfl rfl (by decide) rfl (by decide) ?_
      exact H
    · replace H := H.2 h; clear h
      refine y_st rfl rfl rfl rfl rfl (fun _ _ => rfl) ?_
      refine y_st rfl rfl rfl rfl rfl (fun _ _ => rfl) ?_
      refine y_gf rfl rfl rfl rfl rfl ?_
      refine y_st rfl rfl rfl rfl rfl (fun _ _ => rfl) ?_
      show yP (xg xs) (d + 1) 188 102 [(2, .int u1), (0, .ref 0), (1, .int l1)] [.int l1, .ref 18, .ref 0] m1 Q
      refine y_call rfl rfl rfl rfl rfl (Nat.le_of_ble_eq_true rfl) (Nat.le_of_ble_eq_true rfl) rfl (by decide) H (fun v2 m2 H => ?_)
      obtain ⟨u2, rfl, H⟩ := H
      refine y_pfi rfl rfl rfl rfl rfl (x_fit_i _) ?_
      show yP (xg xs) (d + 1) 188 108 [(2, .int u1), (0, .ref 0), (1, .int l1)] [] (y_si m2 0 11 u2) Q
      refine y_st rfl rfl rfl rfl rfl (fun _ _ => rfl) ?_
      show yP (xg xs) (d + 1) 188 109 [(2, .int u1), (0, .ref 0), (1, .int l1)] [.int u1] (y_si m2 0 11 u2) Q
      exact y_iret rfl rfl rfl H
set_option maxRecDepth 20000 in
/-- CodeMaker.Code.forget from 0 on -/
theorem w189_0 (xs : List Int32) (d : Nat) (m : yM) (Q : Option Value → yM → Prop) (H : Q none (y_si (y_si m 35 6 (0 : Int32)) 35 7 (0 : Int32))) : yP (xg xs) (d + 1) 189 0 [(0, .ref 35)] [] m Q := by
  refine y_st rfl rfl rfl rfl rfl (fun _ _ => rfl) ?_
  refine y_st rfl rfl rfl rfl rfl (fun _ _ => rfl) ?_
  refine y_pfi rfl rfl rfl rfl rfl (x_fit_i _) ?_
  show yP (xg xs) (d + 1) 189 5 [(0, .ref 35)] [] (y_si m 35 6 (0 : Int32)) Q
  refine y_st rfl rfl rfl rfl rfl (fun _ _ => rfl) ?_
  refine y_st rfl rfl rfl rfl rfl (fun _ _ => rfl) ?_
  refine y_pfi rfl rfl rfl rfl rfl (x_fit_i _) ?_
  show yP (xg xs) (d + 1) 189 10 [(0, .ref 35)] [] (y_si (y_si m 35 6 (0 : Int32)) 35 7 (0 : Int32)) Q
  show yP (xg xs) (d + 1) 189 10 [(0, .ref 35)] [] (y_si (y_si m 35 6 (0 : Int32)) 35 7 (0 : Int32)) Q
  exact y_ret rfl rfl rfl rfl H
