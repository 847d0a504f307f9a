/-! WHAT EACH METHOD COMES TO, group c: laid by wip/gen/wpall.py -/
set_option maxRecDepth 20000 in
/-- CodeMaker.Rules.check from 0 on -/
theorem w110_0 (xs : List Int32) (d : Nat) (m : yM) (Q : Option Value → yM → Prop) (H : (yC (xg xs) d 111 [.ref 18] m (fun v1 m1 => v1 = none ∧ yP (xg xs) (d + 1) 110 24 [(0, .ref 31), (1, .int (0 : Int32))] [] (y_si (y_si (y_si m1 31 6 (0 : Int32)) 31 7 (0 : Int32)) 31 0 ((-1) : Int32)) Q))) : yP (xg xs) (d + 1) 110 0 [(0, .ref 31)] [] m Q := by
  refine y_st rfl rfl rfl rfl rfl (fun _ _ => rfl) ?_
  refine y_gf rfl rfl rfl rfl rfl ?_
  show yP (xg xs) (d + 1) 110 4 [(0, .ref 31)] [.ref 18] m Q
  refine y_call rfl rfl rfl rfl rfl (Nat.le_of_ble_eq_true rfl) (Nat.le_of_ble_eq_true rfl) rfl (by decide) H (fun v1 m1 H => ?_)
  obtain ⟨rfl, H⟩ := H
  refine y_st rfl rfl rfl rfl rfl (fun _ _ => rfl) ?_
  refine y_st rfl rfl rfl rfl rfl (fun _ _ => rfl) ?_
  refine y_pfi rfl rfl rfl rfl rfl (x_fit_i _) ?_
  show yP (xg xs) (d + 1) 110 12 [(0, .ref 31)] [] (y_si m1 31 6 (0 : Int32)) Q
  refine y_st rfl rfl rfl rfl rfl (fun _ _ => rfl) ?_
  refine y_st rfl rfl rfl rfl rfl (fun _ _ => rfl) ?_
  refine y_pfi rfl rfl rfl rfl rfl (x_fit_i _) ?_
  show yP (xg xs) (d + 1) 110 17 [(0, .ref 31)] [] (y_si (y_si m1 31 6 (0 : Int32)) 31 7 (0 : Int32)) Q
  refine y_st rfl rfl rfl rfl rfl (fun _ _ => rfl) ?_
  refine y_st rfl rfl rfl rfl rfl (fun _ _ => rfl) ?_
  refine y_pfi rfl rfl rfl rfl rfl (x_fit_i _) ?_
  show yP (xg xs) (d + 1) 110 22 [(0, .ref 31)] [] (y_si (y_si (y_si m1 31 6 (0 : Int32)) 31 7 (0 : Int32)) 31 0 ((-1) : Int32)) Q
  refine y_st rfl rfl rfl rfl rfl (fun _ _ => rfl) ?_
  refine y_st rfl rfl rfl rfl rfl (fun _ _ => rfl) ?_
  show yP (xg xs) (d + 1) 110 24 [(1, .int (0 : Int32)), (0, .ref 31)] [] (y_si (y_si (y_si m1 31 6 (0 : Int32)) 31 7 (0 : Int32)) 31 0 ((-1) : Int32)) Q
  refine y_headS (l2 := [(0, .ref 31), (1, .int (0 : Int32))]) [1, 0] [0, 1] [1, 0] rfl rfl (by decide) rfl (by decide) ?_
  exact H
set_option maxRecDepth 20000 in
/-- CodeMaker.Rules.check from 24 on -/
theorem w110_24 (xs : List Int32) (d : Nat) (l1 : Int32) (m : yM) (Q : Option Value → yM → Prop) (H : (((960 : Int32) ≤ l1 → yP (xg xs) (d + 1) 110 46 [(0, .ref 31), (1, .int (0 : Int32))] [] m Q) ∧ (¬ (960 : Int32) ≤ l1 → (x_in l1 960 = true ∧ yP (xg xs) (d + 1) 110 24 [(0, .ref 31), (1, .int (l1 + (1 : Int32)))] [] (y_si m 33 l1.toNatClampNeg (vp_nar .boolean (0 : Int32))) Q)))) : yP (xg xs) (d + 1) 110 24 [(0, .ref 31), (1, .int l1)] [] m Q := by
  refine y_st rfl rfl rfl rfl rfl (fun _ _ => rfl) ?_
  refine y_st rfl rfl rfl rfl rfl (fun _ _ => rfl) ?_
  show yP (xg xs) (d + 1) 110 28 [(0, .ref 31), (1, .int l1)] [.int (960 : Int32), .int l1] m Q
  refine y_ige (t := 44) rfl rfl rfl (fun h => ?_) (fun h => ?_)
  · replace H := H.1 h; clear h
    refine y_st rfl rfl rfl rfl rfl (fun _ _ => rfl) ?_
    refine y_st rfl rfl rfl rfl rfl (fun _ _ => rfl) ?_
    show yP (xg xs) (d + 1) 110 46 [(1, .int (0 : Int32)), (0, .ref 31)] [] m Q
    refine y_headS (l2 := [(0, .ref 31), (1, .int (0 : Int32))]) [1, 0] [0, 1] [1, 0] rfl rfl (by decide) rfl (by decide) ?_
    exact H
  · replace H := H.2 h; clear h
    refine y_st rfl rfl rfl rfl rfl (fun _ _ => rfl) ?_
    refine y_gf rfl rfl rfl rfl rfl ?_
    refine y_st rfl rfl rfl rfl rfl (fun _ _ => rfl) ?_
    refine y_st rfl rfl rfl rfl rfl (fun _ _ => rfl) ?_
    show yP (xg xs) (d + 1) 110 37 [(0, .ref 31), (1, .int l1)] [.int (0 : Int32), .int l1, .ref 33] m Q
    refine y_zast rfl rfl rfl (H.1) ?_
    replace H := H.2
    refine y_st rfl rfl rfl rfl rfl (fun _ _ => rfl) ?_
    refine y_st rfl rfl rfl rfl rfl (fun _ _ => rfl) ?_
    show yP (xg xs) (d + 1) 110 24 [(1, .int (l1 + (1 : Int32))), (0, .ref 31)] [] (y_si m 33 l1.toNatClampNeg (vp_nar .boolean (0 : Int32))) Q
    refine y_headS (l2 := [(0, .ref 31), (1, .int (l1 + (1 : Int32)))]) [1, 0] [0, 1] [1, 0] rfl rfl (by decide) rfl (by decide) ?_
    exact H
set_option maxRecDepth 20000 in
/-- CodeMaker.Rules.check from 46 on -/
theorem w110_46 (xs : List Int32) (d : Nat) (l1 : Int32) (m : yM) (Q : Option Value → yM → Prop) (H : (((m.1 2 5) < l1 → Q (some (.int (m.1 31 7))) m) ∧ (¬ (m.1 2 5) < l1 → ((¬ (m.1 31 7) = 0 → Q (some (.int (m.1 31 7))) m) ∧ ((m.1 31 7) = 0 → yP (xg xs) (d + 1) 110 64 [(0, .ref 31), (1, .int l1)] [] m Q))))) : yP (xg xs) (d + 1) 110 46 [(0, .ref 31), (1, .int l1)] [] m Q := by
  refine y_st rfl rfl rfl rfl rfl (fun _ _ => rfl) ?_
  refine y_st rfl rfl rfl rfl rfl (fun _ _ => rfl) ?_
  refine y_gf rfl rfl rfl rfl rfl ?_
  refine y_gf rfl rfl rfl rfl rfl ?_
  show yP (xg xs) (d + 1) 110 54 [(0, .ref 31), (1, .int l1)] [.int (m.1 2 5), .int l1] m Q
  refine y_igt (t := 169) rfl rfl rfl (fun h => ?_) (fun h => ?_)
  · replace H := H.1 h; clear h
    refine y_st rfl rfl rfl rfl rfl (fun _ _ => rfl) ?_
    refine y_gf rfl rfl rfl rfl rfl ?_
    show yP (xg xs) (d + 1) 110 173 [(0, .ref 31), (1, .int l1)] [.int (m.1 31 7)] m Q
    exact y_iret rfl rfl rfl H
  · replace H := H.2 h; clear h
    refine y_st rfl rfl rfl rfl rfl (fun _ _ => rfl) ?_
    refine y_gf rfl rfl rfl rfl rfl ?_
    show yP (xg xs) (d + 1) 110 61 [(0, .ref 31), (1, .int l1)] [.int (m.1 31 7)] m Q
    refine y_zne (t := 169) rfl rfl rfl (fun h => ?_) (fun h => ?_)
    · replace H := H.1 h; clear h
      refine y_st rfl rfl rfl rfl rfl (fun _ _ => rfl) ?_
      refine y_gf rfl rfl rfl rfl rfl ?_
      show yP (xg xs) (d + 1) 110 173 [(0, .ref 31), (1, .int l1)] [.int (m.1 31 7)] m Q
      exact y_iret rfl rfl rfl H
    · replace H := H.2 h; clear h
      show yP (xg xs) (d + 1) 110 64 [(0, .ref 31), (1, .int l1)] [] m Q
      exact H
set_option maxRecDepth 20000 in
/-- CodeMaker.Rules.check from 64 on -/
theorem w110_64 (xs : List Int32) (d : Nat) (l1 : Int32) (m : yM) (Q : Option Value → yM → Prop) (H : (((m.1 31 6) ≤ 0 → yP (xg xs) (d + 1) 110 140 [(0, .ref 31), (1, .int l1)] [] m Q) ∧ (¬ (m.1 31 6) ≤ 0 → ((¬ (m.1 31 7) = 0 → yP (xg xs) (d + 1) 110 140 [(0, .ref 31), (1, .int l1)] [] m Q) ∧ ((m.1 31 7) = 0 → (x_in ((m.1 31 6) - (1 : Int32)) 256 = true ∧ (x_in (m.1 32 (((m.1 31 6) - (1 : Int32)).toNatClampNeg)) 16401 = true ∧ ((l1 < (m.1 7 ((m.1 32 (((m.1 31 6) - (1 : Int32)).toNatClampNeg)).toNatClampNeg)) → yP (xg xs) (d + 1) 110 140 [(0, .ref 31), (1, .int l1)] [] m Q) ∧ (¬ l1 < (m.1 7 ((m.1 32 (((m.1 31 6) - (1 : Int32)).toNatClampNeg)).toNatClampNeg)) → (x_in ((m.1 31 6) - (1 : Int32)) 256 = true ∧ (yC (xg xs) d 112 [.ref 31, .int (m.1 32 (((m.1 31 6) - (1 : Int32)).toNatClampNeg))] (y_si m 31 6 ((m.1 31 6) - (1 : Int32))) (fun v1 m1 => ∃ u1, v1 = some (Value.int u1) ∧ (x_in (m1.1 31 6) 256 = true ∧ (yC (xg xs) d 184 [.ref 31, .int u1, .int (m1.1 32 ((m1.1 31 6).toNatClampNeg))] m1 (fun v2 m2 => v2 = none ∧ yP (xg xs) (d + 1) 110 64 [(0, .ref 31), (1, .int l1)] [] m2 Q))))))))))))))) : yP (xg xs) (d + 1) 110 64 [(0, .ref 31), (1, .int l1)] [] m Q := by
  refine y_st rfl rfl rfl rfl rfl (fun _ _ => rfl) ?_
  refine y_gf rfl rfl rfl rfl rfl ?_
  show yP (xg xs) (d + 1) 110 68 [(0, .ref 31), (1, .int l1)] [.int (m.1 31 6)] m Q
  refine y_zle (t := 140) rfl rfl rfl (fun h => ?_) (fun h => ?_)
  · replace H := H.1 h; clear h
    show yP (xg xs) (d + 1) 110 140 [(0, .ref 31), (1, .int l1)] [] m Q
    exact H
  · replace H := H.2 h; clear h
    refine y_st rfl rfl rfl rfl rfl (fun _ _ => rfl) ?_
    refine y_gf rfl rfl rfl rfl rfl ?_
    show yP (xg xs) (d + 1) 110 75 [(0, .ref 31), (1, .int l1)] [.int (m.1 31 7)] m Q
    refine y_zne (t := 140) rfl rfl rfl (fun h => ?_) (fun h => ?_)
    · replace H := H.1 h; clear h
      show yP (xg xs) (d + 1) 110 140 [(0, .ref 31), (1, .int l1)] [] m Q
      exact H
    · replace H := H.2 h; clear h
      refine y_st rfl rfl rfl rfl rfl (fun _ _ => rfl) ?_
      refine y_gf rfl rfl rfl rfl rfl ?_
      refine y_gf rfl rfl rfl rfl rfl ?_
      refine y_st rfl rfl rfl rfl rfl (fun _ _ => rfl) ?_
      refine y_gf rfl rfl rfl rfl rfl ?_
      refine y_st rfl rfl rfl rfl rfl (fun _ _ => rfl) ?_
      refine y_gf rfl rfl rfl rfl rfl ?_
      refine y_st rfl rfl rfl rfl rfl (fun _ _ => rfl) ?_
      refine y_st rfl rfl rfl rfl rfl (fun _ _ => rfl) ?_
      show yP (xg xs) (d + 1) 110 95 [(0, .ref 31), (1, .int l1)] [.int ((m.1 31 6) - (1 : Int32)), .ref 32, .ref 7] m Q
      refine y_iald rfl rfl rfl (H.1) ?_
      replace H := H.2
      show yP (xg xs) (d + 1) 110 96 [(0, .ref 31), (1, .int l1)] [.int (m.1 32 (((m.1 31 6) - (1 : Int32)).toNatClampNeg)), .ref 7] m Q
      refine y_iald rfl rfl rfl (H.1) ?_
      replace H := H.2
      refine y_st rfl rfl rfl rfl rfl (fun _ _ => rfl) ?_
      show yP (xg xs) (d + 1) 110 98 [(0, .ref 31), (1, .int l1)] [.int l1, .int (m.1 7 ((m.1 32 (((m.1 31 6) - (1 : Int32)).toNatClampNeg)).toNatClampNeg))] m Q
      refine y_igt (t := 140) rfl rfl rfl (fun h => ?_) (fun h => ?_)
      · replace H := H.1 h; clear h
        show yP (xg xs) (d + 1) 110 140 [(0, .ref 31), (1, .int l1)] [] m Q
        exact H
      · replace H := H.2 h; clear h
        refine y_st rfl rfl rfl rfl rfl (fun _ _ => rfl) ?_
        refine y_st rfl rfl rfl rfl rfl (fun _ _ => rfl) ?_
        refine y_gf rfl rfl rfl rfl rfl ?_
        refine y_st rfl rfl rfl rfl rfl (fun _ _ => rfl) ?_
        refine y_st rfl rfl rfl rfl rfl (fun _ _ => rfl) ?_
        refine y_pfi rfl rfl rfl rfl rfl (x_fit_i _) ?_
        show yP (xg xs) (d + 1) 110 111 [(0, .ref 31), (1, .int l1)] [] (y_si m 31 6 ((m.1 31 6) - (1 : Int32))) Q
        refine y_st rfl rfl rfl rfl rfl (fun _ _ => rfl) ?_
        refine y_st rfl rfl rfl rfl rfl (fun _ _ => rfl) ?_
        refine y_st rfl rfl rfl rfl rfl (fun _ _ => rfl) ?_
        refine y_gf rfl rfl rfl rfl rfl ?_
        refine y_st rfl rfl rfl rfl rfl (fun _ _ => rfl) ?_
        refine y_gf rfl rfl rfl rfl rfl ?_
        show yP (xg xs) (d + 1) 110 121 [(0, .ref 31), (1, .int l1)] [.int ((m.1 31 6) - (1 : Int32)), .ref 32, .ref 31, .ref 31] (y_si m 31 6 ((m.1 31 6) - (1 : Int32))) Q
        refine y_iald rfl rfl rfl (H.1) ?_
        replace H := H.2
        show yP (xg xs) (d + 1) 110 122 [(0, .ref 31), (1, .int l1)] [.int (m.1 32 (((m.1 31 6) - (1 : Int32)).toNatClampNeg)), .ref 31, .ref 31] (y_si m 31 6 ((m.1 31 6) - (1 : Int32))) Q
        refine y_call rfl rfl rfl rfl rfl (Nat.le_of_ble_eq_true rfl) (Nat.le_of_ble_eq_true rfl) rfl (by decide) H (fun v1 m1 H => ?_)
        obtain ⟨u1, rfl, H⟩ := H
        refine y_st rfl rfl rfl rfl rfl (fun _ _ => rfl) ?_
        refine y_gf rfl rfl rfl rfl rfl ?_
        refine y_st rfl rfl rfl rfl rfl (fun _ _ => rfl) ?_
        refine y_gf rfl rfl rfl rfl rfl ?_
        show yP (xg xs) (d + 1) 110 133 [(0, .ref 31), (1, .int l1)] [.int (m1.1 31 6), .ref 32, .int u1, .ref 31] m1 Q
        refine y_iald rfl rfl rfl (H.1) ?_
        replace H := H.2
        show yP (xg xs) (d + 1) 110 134 [(0, .ref 31), (1, .int l1)] [.int (m1.1 32 ((m1.1 31 6).toNatClampNeg)), .int u1, .ref 31] m1 Q
        refine y_call rfl rfl rfl rfl rfl (Nat.le_of_ble_eq_true rfl) (Nat.le_of_ble_eq_true rfl) rfl (by decide) H (fun v2 m2 H => ?_)
        obtain ⟨rfl, H⟩ := H
        refine y_st rfl rfl rfl rfl rfl (fun _ _ => rfl) ?_
        show yP (xg xs) (d + 1) 110 64 [(0, .ref 31), (1, .int l1)] [] m2 Q
        exact H
set_option maxRecDepth 20000 in
/-- CodeMaker.Rules.check from 140 on -/
theorem w110_140 (xs : List Int32) (d : Nat) (l1 : Int32) (m : yM) (Q : Option Value → yM → Prop) (H : (((m.1 2 5) ≤ l1 → yP (xg xs) (d + 1) 110 163 [(0, .ref 31), (1, .int l1)] [] m Q) ∧ (¬ (m.1 2 5) ≤ l1 → ((¬ (m.1 31 7) = 0 → yP (xg xs) (d + 1) 110 163 [(0, .ref 31), (1, .int l1)] [] m Q) ∧ ((m.1 31 7) = 0 → (yC (xg xs) d 185 [.ref 31, .int l1] m (fun v1 m1 => v1 = none ∧ yP (xg xs) (d + 1) 110 163 [(0, .ref 31), (1, .int l1)] [] m1 Q))))))) : yP (xg xs) (d + 1) 110 140 [(0, .ref 31), (1, .int l1)] [] m Q := by
  refine y_st rfl rfl rfl rfl rfl (fun _ _ => rfl) ?_
  refine y_st rfl rfl rfl rfl rfl (fun _ _ => rfl) ?_
  refine y_gf rfl rfl rfl rfl rfl ?_
  refine y_gf rfl rfl rfl rfl rfl ?_
  show yP (xg xs) (d + 1) 110 148 [(0, .ref 31), (1, .int l1)] [.int (m.1 2 5), .int l1] m Q
  refine y_ige (t := 163) rfl rfl rfl (fun h => ?_) (fun h => ?_)
  · replace H := H.1 h; clear h
    show yP (xg xs) (d + 1) 110 163 [(0, .ref 31), (1, .int l1)] [] m Q
    exact H
  · replace H := H.2 h; clear h
    refine y_st rfl rfl rfl rfl rfl (fun _ _ => rfl) ?_
    refine y_gf rfl rfl rfl rfl rfl ?_
    show yP (xg xs) (d + 1) 110 155 [(0, .ref 31), (1, .int l1)] [.int (m.1 31 7)] m Q
    refine y_zne (t := 163) rfl rfl rfl (fun h => ?_) (fun h => ?_)
    · replace H := H.1 h; clear h
      show yP (xg xs) (d + 1) 110 163 [(0, .ref 31), (1, .int l1)] [] m Q
      exact H
    · replace H := H.2 h; clear h
      refine y_st rfl rfl rfl rfl rfl (fun _ _ => rfl) ?_
      refine y_st rfl rfl rfl rfl rfl (fun _ _ => rfl) ?_
      show yP (xg xs) (d + 1) 110 160 [(0, .ref 31), (1, .int l1)] [.int l1, .ref 31] m Q
      refine y_call rfl rfl rfl rfl rfl (Nat.le_of_ble_eq_true rfl) (Nat.le_of_ble_eq_true rfl) rfl (by decide) H (fun v1 m1 H => ?_)
      obtain ⟨rfl, H⟩ := H
      show yP (xg xs) (d + 1) 110 163 [(0, .ref 31), (1, .int l1)] [] m1 Q
      exact H
set_option maxRecDepth 20000 in
/-- CodeMaker.Rules.check from 163 on -/
theorem w110_163 (xs : List Int32) (d : Nat) (l1 : Int32) (m : yM) (Q : Option Value → yM → Prop) (H : yP (xg xs) (d + 1) 110 46 [(0, .ref 31), (1, .int (l1 + (1 : Int32)))] [] m Q) : yP (xg xs) (d + 1) 110 163 [(0, .ref 31), (1, .int l1)] [] m Q := by
  refine y_st rfl rfl rfl rfl rfl (fun _ _ => rfl) ?_
  refine y_st rfl rfl rfl rfl rfl (fun _ _ => rfl) ?_
  show yP (xg xs) (d + 1) 110 46 [(1, .int (l1 + (1 : Int32))), (0, .ref 31)] [] m Q
  refine y_headS (l2 := [(0, .ref 31), (1, .int (l1 + (1 : Int32)))]) [1, 0] [0, 1] [1, 0] rfl rfl (by decide) rfl (by decide) ?_
  exact H
set_option maxRecDepth 20000 in
/-- CodeMaker.Scope.forget from 0 on -/
theorem w111_0 (xs : List Int32) (d : Nat) (m : yM) (Q : Option Value → yM → Prop) (H : (yC (xg xs) d 21 [.ref 29, .int ((-1) : Int32)] m (fun v1 m1 => v1 = none ∧ (yC (xg xs) d 21 [.ref 30, .int ((-1) : Int32)] m1 (fun v2 m2 => v2 = none ∧ Q none (y_si (y_si (y_si m2 18 9 (0 : Int32)) 18 15 (0 : Int32)) 18 10 (0 : Int32))))))) : yP (xg xs) (d + 1) 111 0 [(0, .ref 18)] [] m Q := by
  refine y_st rfl rfl rfl rfl rfl (fun _ _ => rfl) ?_
  refine y_gf rfl rfl rfl rfl rfl ?_
  refine y_st rfl rfl rfl rfl rfl (fun _ _ => rfl) ?_
  show yP (xg xs) (d + 1) 111 5 [(0, .ref 18)] [.int ((-1) : Int32), .ref 29] m Q
  refine y_call rfl rfl rfl rfl rfl (Nat.le_of_ble_eq_true rfl) (Nat.le_of_ble_eq_true rfl) rfl (by decide) H (fun v1 m1 H => ?_)
  obtain ⟨rfl, H⟩ := H
  refine y_st rfl rfl rfl rfl rfl (fun _ _ => rfl) ?_
  refine y_gf rfl rfl rfl rfl rfl ?_
  refine y_st rfl rfl rfl rfl rfl (fun _ _ => rfl) ?_
  show yP (xg xs) (d + 1) 111 13 [(0, .ref 18)] [.int ((-1) : Int32), .ref 30] m1 Q
  refine y_call rfl rfl rfl rfl rfl (Nat.le_of_ble_eq_true rfl) (Nat.le_of_ble_eq_true rfl) rfl (by decide) H (fun v2 m2 H => ?_)
  obtain ⟨rfl, H⟩ := H
  refine y_st rfl rfl rfl rfl rfl (fun _ _ => rfl) ?_
  refine y_st rfl rfl rfl rfl rfl (fun _ _ => rfl) ?_
  refine y_pfi rfl rfl rfl rfl rfl (x_fit_i _) ?_
  show yP (xg xs) (d + 1) 111 21 [(0, .ref 18)] [] (y_si m2 18 9 (0 : Int32)) Q
  refine y_st rfl rfl rfl rfl rfl (fun _ _ => rfl) ?_
  refine y_st rfl rfl rfl rfl rfl (fun _ _ => rfl) ?_
  refine y_pfi rfl rfl rfl rfl rfl (x_fit_i _) ?_
  show yP (xg xs) (d + 1) 111 26 [(0, .ref 18)] [] (y_si (y_si m2 18 9 (0 : Int32)) 18 15 (0 : Int32)) Q
  refine y_st rfl rfl rfl rfl rfl (fun _ _ => rfl) ?_
  refine y_st rfl rfl rfl rfl rfl (fun _ _ => rfl) ?_
  refine y_pfi rfl rfl rfl rfl rfl (x_fit_i _) ?_
  show yP (xg xs) (d + 1) 111 31 [(0, .ref 18)] [] (y_si (y_si (y_si m2 18 9 (0 : Int32)) 18 15 (0 : Int32)) 18 10 (0 : Int32)) Q
  show yP (xg xs) (d + 1) 111 31 [(0, .ref 18)] [] (y_si (y_si (y_si m2 18 9 (0 : Int32)) 18 15 (0 : Int32)) 18 10 (0 : Int32)) Q
  exact y_ret rfl rfl rfl rfl H
set_option maxRecDepth 20000 in
/-- CodeMaker.Rules.look from 0 on -/
theorem w112_0 (xs : List Int32) (d : Nat) (l1 : Int32) (m : yM) (Q : Option Value → yM → Prop) (H : (x_in l1 16401 = true ∧ (((m.1 3 l1.toNatClampNeg) = (0 : Int32) → (yC (xg xs) d 113 [.ref 31] m (fun v1 m1 => ∃ u1, v1 = some (Value.int u1) ∧ Q (some (.int u1)) m1))) ∧ ((m.1 3 l1.toNatClampNeg) = (1 : Int32) → (yC (xg xs) d 117 [.ref 31] m (fun v2 m2 => ∃ u2, v2 = some (Value.int u2) ∧ Q (some (.int u2)) m2))) ∧ ((m.1 3 l1.toNatClampNeg) = (2 : Int32) → (yC (xg xs) d 117 [.ref 31] m (fun v3 m3 => ∃ u3, v3 = some (Value.int u3) ∧ Q (some (.int u3)) m3))) ∧ ((m.1 3 l1.toNatClampNeg) = (3 : Int32) → (yC (xg xs) d 117 [.ref 31] m (fun v4 m4 => ∃ u4, v4 = some (Value.int u4) ∧ Q (some (.int u4)) m4))) ∧ ((m.1 3 l1.toNatClampNeg) = (4 : Int32) → (yC (xg xs) d 122 [.ref 31, .int l1] m (fun v5 m5 => ∃ u5, v5 = some (Value.int u5) ∧ Q (some (.int u5)) m5))) ∧ ((m.1 3 l1.toNatClampNeg) = (5 : Int32) → (yC (xg xs) d 123 [.ref 31, .int l1] m (fun v6 m6 => ∃ u6, v6 = some (Value.int u6) ∧ Q (some (.int u6)) m6))) ∧ ((m.1 3 l1.toNatClampNeg) = (6 : Int32) → (yC (xg xs) d 132 [.ref 31, .int l1] m (fun v7 m7 => ∃ u7, v7 = some (Value.int u7) ∧ Q (some (.int u7)) m7))) ∧ ((m.1 3 l1.toNatClampNeg) = (7 : Int32) → (yC (xg xs) d 140 [.ref 31, .int l1] m (fun v8 m8 => ∃ u8, v8 = some (Value.int u8) ∧ Q (some (.int u8)) m8))) ∧ ((m.1 3 l1.toNatClampNeg) = (9 : Int32) → (yC (xg xs) d 141 [.ref 31, .int l1] m (fun v9 m9 => ∃ u9, v9 = some (Value.int u9) ∧ Q (some (.int u9)) m9))) ∧ ((m.1 3 l1.toNatClampNeg) = (10 : Int32) → (yC (xg xs) d 142 [.ref 31, .int l1] m (fun v10 m10 => ∃ u10, v10 = some (Value.int u10) ∧ Q (some (.int u10)) m10))) ∧ ((m.1 3 l1.toNatClampNeg) = (23 : Int32) → (yC (xg xs) d 144 [.ref 31, .int l1] m (fun v11 m11 => ∃ u11, v11 = some (Value.int u11) ∧ Q (some (.int u11)) m11))) ∧ ((m.1 3 l1.toNatClampNeg) = (25 : Int32) → (x_in (l1 + (1 : Int32)) 16401 = true ∧ ((¬ (m.1 6 ((l1 + (1 : Int32)).toNatClampNeg)) = 0 → Q (some (.int (41 : Int32))) m) ∧ ((m.1 6 ((l1 + (1 : Int32)).toNatClampNeg)) = 0 → Q (some (.int (0 : Int32))) m)))) ∧ ((m.1 3 l1.toNatClampNeg) = (28 : Int32) → (yC (xg xs) d 145 [.ref 31, .int l1] m (fun v12 m12 => ∃ u12, v12 = some (Value.int u12) ∧ Q (some (.int u12)) m12))) ∧ ((m.1 3 l1.toNatClampNeg) = (29 : Int32) → (yC (xg xs) d 147 [.ref 31] m (fun v13 m13 => ∃ u13, v13 = some (Value.int u13) ∧ Q (some (.int u13)) m13))) ∧ (¬ (m.1 3 l1.toNatClampNeg) = (0 : Int32) → ¬ (m.1 3 l1.toNatClampNeg) = (1 : Int32) → ¬ (m.1 3 l1.toNatClampNeg) = (2 : Int32) → ¬ (m.1 3 l1.toNatClampNeg) = (3 : Int32) → ¬ (m.1 3 l1.toNatClampNeg) = (4 : Int32) → ¬ (m.1 3 l1.toNatClampNeg) = (5 : Int32) → ¬ (m.1 3 l1.toNatClampNeg) = (6 : Int32) → ¬ (m.1 3 l1.toNatClampNeg) = (7 : Int32) → ¬ (m.1 3 l1.toNatClampNeg) = (9 : Int32) → ¬ (m.1 3 l1.toNatClampNeg) = (10 : Int32) → ¬ (m.1 3 l1.toNatClampNeg) = (23 : Int32) → ¬ (m.1 3 l1.toNatClampNeg) = (25 : Int32) → ¬ (m.1 3 l1.toNatClampNeg) = (28 : Int32) → ¬ (m.1 3 l1.toNatClampNeg) = (29 : Int32) → (x_in l1 16401 = true ∧ (((23 : Int32) ≤ (m.1 3 l1.toNatClampNeg) → (yC (xg xs) d 162 [.ref 34, .int l1] m (fun v14 m14 => ∃ u14, v14 = some (Value.int u14) ∧ Q (some (.int u14)) m14))) ∧ (¬ (23 : Int32) ≤ (m.1 3 l1.toNatClampNeg) → (yC (xg xs) d 148 [.ref 31, .int l1] m (fun v15 m15 => ∃ u15, v15 = some (Value.int u15) ∧ Q (some (.int u15)) m15))))))))) : yP (xg xs) (d + 1) 112 0 [(0, .ref 31), (1, .int l1)] [] m Q := by
  refine y_st rfl rfl rfl rfl rfl (fun _ _ => rfl) ?_
  refine y_gf rfl rfl rfl rfl rfl ?_
  refine y_gf rfl rfl rfl rfl rfl ?_
  refine y_st rfl rfl rfl rfl rfl (fun _ _ => rfl) ?_
  show yP (xg xs) (d + 1) 112 8 [(0, .ref 31), (1, .int l1)] [.int l1, .ref 3] m Q
  refine y_iald rfl rfl rfl (H.1) ?_
  replace H := H.2
  show yP (xg xs) (d + 1) 112 9 [(0, .ref 31), (1, .int l1)] [.int (m.1 3 l1.toNatClampNeg)] m Q
  by_cases h0 : m.1 3 l1.toNatClampNeg = (0 : Int32)
  · replace H := H.1 h0
    refine y_tsw (t := 144) rfl rfl (by rw [h0]; rfl) ?_
    clear h0
    refine y_st rfl rfl rfl rfl rfl (fun _ _ => rfl) ?_
    show yP (xg xs) (d + 1) 112 145 [(0, .ref 31), (1, .int l1)] [.ref 31] m Q
    refine y_call rfl rfl rfl rfl rfl (Nat.le_of_ble_eq_true rfl) (Nat.le_of_ble_eq_true rfl) rfl (by decide) H (fun v1 m1 H => ?_)
    obtain ⟨u1, rfl, H⟩ := H
    show yP (xg xs) (d + 1) 112 148 [(0, .ref 31), (1, .int l1)] [.int u1] m1 Q
    exact y_iret rfl rfl rfl H
  replace H := H.2
  by_cases h1 : m.1 3 l1.toNatClampNeg = (1 : Int32)
  · replace H := H.1 h1
    refine y_tsw (t := 149) rfl rfl (by rw [h1]; rfl) ?_
    clear h1 h0
    refine y_st rfl rfl rfl rfl rfl (fun _ _ => rfl) ?_
    show yP (xg xs) (d + 1) 112 150 [(0, .ref 31), (1, .int l1)] [.ref 31] m Q
    refine y_call rfl rfl rfl rfl rfl (Nat.le_of_ble_eq_true rfl) (Nat.le_of_ble_eq_true rfl) rfl (by decide) H (fun v2 m2 H => ?_)
    obtain ⟨u2, rfl, H⟩ := H
    show yP (xg xs) (d + 1) 112 153 [(0, .ref 31), (1, .int l1)] [.int u2] m2 Q
    exact y_iret rfl rfl rfl H
  replace H := H.2
  by_cases h2 : m.1 3 l1.toNatClampNeg = (2 : Int32)
  · replace H := H.1 h2
    refine y_tsw (t := 149) rfl rfl (by rw [h2]; rfl) ?_
    clear h2 h1 h0
    refine y_st rfl rfl rfl rfl rfl (fun _ _ => rfl) ?_
    show yP (xg xs) (d + 1) 112 150 [(0, .ref 31), (1, .int l1)] [.ref 31] m Q
    refine y_call rfl rfl rfl rfl rfl (Nat.le_of_ble_eq_true rfl) (Nat.le_of_ble_eq_true rfl) rfl (by decide) H (fun v3 m3 H => ?_)
    obtain ⟨u3, rfl, H⟩ := H
    show yP (xg xs) (d + 1) 112 153 [(0, .ref 31), (1, .int l1)] [.int u3] m3 Q
    exact y_iret rfl rfl rfl H
  replace H := H.2
  by_cases h3 : m.1 3 l1.toNatClampNeg = (3 : Int32)
  · replace H := H.1 h3
    refine y_tsw (t := 149) rfl rfl (by rw [h3]; rfl) ?_
    clear h3 h2 h1 h0
    refine y_st rfl rfl rfl rfl rfl (fun _ _ => rfl) ?_
    show yP (xg xs) (d + 1) 112 150 [(0, .ref 31), (1, .int l1)] [.ref 31] m Q
    refine y_call rfl rfl rfl rfl rfl (Nat.le_of_ble_eq_true rfl) (Nat.le_of_ble_eq_true rfl) rfl (by decide) H (fun v4 m4 H => ?_)
    obtain ⟨u4, rfl, H⟩ := H
    show yP (xg xs) (d + 1) 112 153 [(0, .ref 31), (1, .int l1)] [.int u4] m4 Q
    exact y_iret rfl rfl rfl H
  replace H := H.2
  by_cases h4 : m.1 3 l1.toNatClampNeg = (4 : Int32)
  · replace H := H.1 h4
    refine y_tsw (t := 154) rfl rfl (by rw [h4]; rfl) ?_
    clear h4 h3 h2 h1 h0
    refine y_st rfl rfl rfl rfl rfl (fun _ _ => rfl) ?_
    refine y_st rfl rfl rfl rfl rfl (fun _ _ => rfl) ?_
    show yP (xg xs) (d + 1) 112 156 [(0, .ref 31), (1, .int l1)] [.int l1, .ref 31] m Q
    refine y_call rfl rfl rfl rfl rfl (Nat.le_of_ble_eq_true rfl) (Nat.le_of_ble_eq_true rfl) rfl (by decide) H (fun v5 m5 H => ?_)
    obtain ⟨u5, rfl, H⟩ := H
    show yP (xg xs) (d + 1) 112 159 [(0, .ref 31), (1, .int l1)] [.int u5] m5 Q
    exact y_iret rfl rfl rfl H
  replace H := H.2
  by_cases h5 : m.1 3 l1.toNatClampNeg = (5 : Int32)
  · replace H := H.1 h5
    refine y_tsw (t := 160) rfl rfl (by rw [h5]; rfl) ?_
    clear h5 h4 h3 h2 h1 h0
    refine y_st rfl rfl rfl rfl rfl (fun _ _ => rfl) ?_
    refine y_st rfl rfl rfl rfl rfl (fun _ _ => rfl) ?_
    show yP (xg xs) (d + 1) 112 162 [(0, .ref 31), (1, .int l1)] [.int l1, .ref 31] m Q
    refine y_call rfl rfl rfl rfl rfl (Nat.le_of_ble_eq_true rfl) (Nat.le_of_ble_eq_true rfl) rfl (by decide) H (fun v6 m6 H => ?_)
    obtain ⟨u6, rfl, H⟩ := H
    show yP (xg xs) (d + 1) 112 165 [(0, .ref 31), (1, .int l1)] [.int u6] m6 Q
    exact y_iret rfl rfl rfl H
  replace H := H.2
  by_cases h6 : m.1 3 l1.toNatClampNeg = (6 : Int32)
  · replace H := H.1 h6
    refine y_tsw (t := 166) rfl rfl (by rw [h6]; rfl) ?_
    clear h6 h5 h4 h3 h2 h1 h0
    refine y_st rfl rfl rfl rfl rfl (fun _ _ => rfl) ?_
    refine y_st rfl rfl rfl rfl rfl (fun _ _ => rfl) ?_
    show yP (xg xs) (d + 1) 112 168 [(0, .ref 31), (1, .int l1)] [.int l1, .ref 31] m Q
    refine y_call rfl rfl rfl rfl rfl (Nat.le_of_ble_eq_true rfl) (Nat.le_of_ble_eq_true rfl) rfl (by decide) H (fun v7 m7 H => ?_)
    obtain ⟨u7, rfl, H⟩ := H
    show yP (xg xs) (d + 1) 112 171 [(0, .ref 31), (1, .int l1)] [.int u7] m7 Q
    exact y_iret rfl rfl rfl H
  replace H := H.2
  by_cases h7 : m.1 3 l1.toNatClampNeg = (7 : Int32)
  · replace H := H.1 h7
    refine y_tsw (t := 172) rfl rfl (by rw [h7]; rfl) ?_
    clear h7 h6 h5 h4 h3 h2 h1 h0
    refine y_st rfl rfl rfl rfl rfl (fun _ _ => rfl) ?_
    refine y_st rfl rfl rfl rfl rfl (fun _ _ => rfl) ?_
    show yP (xg xs) (d + 1) 112 174 [(0, .ref 31), (1, .int l1)] [.int l1, .ref 31] m Q
    refine y_call rfl rfl rfl rfl rfl (Nat.le_of_ble_eq_true rfl) (Nat.le_of_ble_eq_true rfl) rfl (by decide) H (fun v8 m8 H => ?_)
    obtain ⟨u8, rfl, H⟩ := H
    show yP (xg xs) (d + 1) 112 177 [(0, .ref 31), (1, .int l1)] [.int u8] m8 Q
    exact y_iret rfl rfl rfl H
  replace H := H.2
  by_cases h9 : m.1 3 l1.toNatClampNeg = (9 : Int32)
  · replace H := H.1 h9
    refine y_tsw (t := 178) rfl rfl (by rw [h9]; rfl) ?_
    clear h9 h7 h6 h5 h4 h3 h2 h1 h0
    refine y_st rfl rfl rfl rfl rfl (fun _ _ => rfl) ?_
    refine y_st rfl rfl rfl rfl rfl (fun _ _ => rfl) ?_
    show yP (xg xs) (d + 1) 112 180 [(0, .ref 31), (1, .int l1)] [.int l1, .ref 31] m Q
    refine y_call rfl rfl rfl rfl rfl (Nat.le_of_ble_eq_true rfl) (Nat.le_of_ble_eq_true rfl) rfl (by decide) H (fun v9 m9 H => ?_)
    obtain ⟨u9, rfl, H⟩ := H
    show yP (xg xs) (d + 1) 112 183 [(0, .ref 31), (1, .int l1)] [.int u9] m9 Q
    exact y_iret rfl rfl rfl H
  replace H := H.2
  by_cases h10 : m.1 3 l1.toNatClampNeg = (10 : Int32)
  · replace H := H.1 h10
    refine y_tsw (t := 184) rfl rfl (by rw [h10]; rfl) ?_
    clear h10 h9 h7 h6 h5 h4 h3 h2 h1 h0
    refine y_st rfl rfl rfl rfl rfl (fun _ _ => rfl) ?_
    refine y_st rfl rfl rfl rfl rfl (fun _ _ => rfl) ?_
    show yP (xg xs) (d + 1) 112 186 [(0, .ref 31), (1, .int l1)] [.int l1, .ref 31] m Q
    refine y_call rfl rfl rfl rfl rfl (Nat.le_of_ble_eq_true rfl) (Nat.le_of_ble_eq_true rfl) rfl (by decide) H (fun v10 m10 H => ?_)
    obtain ⟨u10, rfl, H⟩ := H
    show yP (xg xs) (d + 1) 112 189 [(0, .ref 31), (1, .int l1)] [.int u10] m10 Q
    exact y_iret rfl rfl rfl H
  replace H := H.2
  by_cases h23 : m.1 3 l1.toNatClampNeg = (23 : Int32)
  · replace H := H.1 h23
    refine y_tsw (t := 190) rfl rfl (by rw [h23]; rfl) ?_
    clear h23 h10 h9 h7 h6 h5 h4 h3 h2 h1 h0
    refine y_st rfl rfl rfl rfl rfl (fun _ _ => rfl) ?_
    refine y_st rfl rfl rfl rfl rfl (fun _ _ => rfl) ?_
    show yP (xg xs) (d + 1) 112 192 [(0, .ref 31), (1, .int l1)] [.int l1, .ref 31] m Q
    refine y_call rfl rfl rfl rfl rfl (Nat.le_of_ble_eq_true rfl) (Nat.le_of_ble_eq_true rfl) rfl (by decide) H (fun v11 m11 H => ?_)
    obtain ⟨u11, rfl, H⟩ := H
    show yP (xg xs) (d + 1) 112 195 [(0, .ref 31), (1, .int l1)] [.int u11] m11 Q
    exact y_iret rfl rfl rfl H
  replace H := H.2
  by_cases h25 : m.1 3 l1.toNatClampNeg = (25 : Int32)
  · replace H := H.1 h25
    refine y_tsw (t := 196) rfl rfl (by rw [h25]; rfl) ?_
    clear h25 h23 h10 h9 h7 h6 h5 h4 h3 h2 h1 h0
    refine y_st rfl rfl rfl rfl rfl (fun _ _ => rfl) ?_
    refine y_gf rfl rfl rfl rfl rfl ?_
    refine y_gf rfl rfl rfl rfl rfl ?_
    refine y_st rfl rfl rfl rfl rfl (fun _ _ => rfl) ?_
    refine y_st rfl rfl rfl rfl rfl (fun _ _ => rfl) ?_
    refine y_st rfl rfl rfl rfl rfl (fun _ _ => rfl) ?_
    show yP (xg xs) (d + 1) 112 206 [(0, .ref 31), (1, .int l1)] [.int (l1 + (1 : Int32)), .ref 6] m Q
    refine y_iald rfl rfl rfl (H.1) ?_
    replace H := H.2
    show yP (xg xs) (d + 1) 112 207 [(0, .ref 31), (1, .int l1)] [.int (m.1 6 ((l1 + (1 : Int32)).toNatClampNeg))] m Q
    refine y_zne (t := 214) rfl rfl rfl (fun h => ?_) (fun h => ?_)
    · replace H := H.1 h; clear h
      refine y_st rfl rfl rfl rfl rfl (fun _ _ => rfl) ?_
      show yP (xg xs) (d + 1) 112 216 [(0, .ref 31), (1, .int l1)] [.int (41 : Int32)] m Q
      exact y_iret rfl rfl rfl H
    · replace H := H.2 h; clear h
      refine y_st rfl rfl rfl rfl rfl (fun _ _ => rfl) ?_
      refine y_st rfl rfl rfl rfl rfl (fun _ _ => rfl) ?_
      show yP (xg xs) (d + 1) 112 216 [(0, .ref 31), (1, .int l1)] [.int (0 : Int32)] m Q
      exact y_iret rfl rfl rfl H
  replace H := H.2
  by_cases h28 : m.1 3 l1.toNatClampNeg = (28 : Int32)
  · replace H := H.1 h28
    refine y_tsw (t := 217) rfl rfl (by rw [h28]; rfl) ?_
    clear h28 h25 h23 h10 h9 h7 h6 h5 h4 h3 h2 h1 h0
    refine y_st rfl rfl rfl rfl rfl (fun _ _ => rfl) ?_
    refine y_st rfl rfl rfl rfl rfl (fun _ _ => rfl) ?_
    show yP (xg xs) (d + 1) 112 219 [(0, .ref 31), (1, .int l1)] [.int l1, .ref 31] m Q
    refine y_call rfl rfl rfl rfl rfl (Nat.le_of_ble_eq_true rfl) (Nat.le_of_ble_eq_true rfl) rfl (by decide) H (fun v12 m12 H => ?_)
    obtain ⟨u12, rfl, H⟩ := H
    show yP (xg xs) (d + 1) 112 222 [(0, .ref 31), (1, .int l1)] [.int u12] m12 Q
    exact y_iret rfl rfl rfl H
  replace H := H.2
  by_cases h29 : m.1 3 l1.toNatClampNeg = (29 : Int32)
  · replace H := H.1 h29
    refine y_tsw (t := 223) rfl rfl (by rw [h29]; rfl) ?_
    clear h29 h28 h25 h23 h10 h9 h7 h6 h5 h4 h3 h2 h1 h0
    refine y_st rfl rfl rfl rfl rfl (fun _ _ => rfl) ?_
    show yP (xg xs) (d + 1) 112 224 [(0, .ref 31), (1, .int l1)] [.ref 31] m Q
    refine y_call rfl rfl rfl rfl rfl (Nat.le_of_ble_eq_true rfl) (Nat.le_of_ble_eq_true rfl) rfl (by decide) H (fun v13 m13 H => ?_)
    obtain ⟨u13, rfl, H⟩ := H
    show yP (xg xs) (d + 1) 112 227 [(0, .ref 31), (1, .int l1)] [.int u13] m13 Q
    exact y_iret rfl rfl rfl H
  replace H := H.2
  refine y_tsw (t := 228) rfl rfl (by have g0 := ne_lit (0 : Int32) 0 rfl h0; have g1 := ne_lit (1 : Int32) 1 rfl h1; have g2 := ne_lit (2 : Int32) 2 rfl h2; have g3 := ne_lit (3 : Int32) 3 rfl h3; have g4 := ne_lit (4 : Int32) 4 rfl h4; have g5 := ne_lit (5 : Int32) 5 rfl h5; have g6 := ne_lit (6 : Int32) 6 rfl h6; have g7 := ne_lit (7 : Int32) 7 rfl h7; have g8 := ne_lit (9 : Int32) 9 rfl h9; have g9 := ne_lit (10 : Int32) 10 rfl h10; have g10 := ne_lit (23 : Int32) 23 rfl h23; have g11 := ne_lit (25 : Int32) 25 rfl h25; have g12 := ne_lit (28 : Int32) 28 rfl h28; have g13 := ne_lit (29 : Int32) 29 rfl h29; by_cases z : ((m.1 3 l1.toNatClampNeg)).toInt < 0 ∨ 29 < ((m.1 3 l1.toNatClampNeg)).toInt; exact (if_pos z).trans rfl; rw [if_neg z]; rcases (by omega : ((m.1 3 l1.toNatClampNeg)).toInt = 8 ∨ ((m.1 3 l1.toNatClampNeg)).toInt = 11 ∨ ((m.1 3 l1.toNatClampNeg)).toInt = 12 ∨ ((m.1 3 l1.toNatClampNeg)).toInt = 13 ∨ ((m.1 3 l1.toNatClampNeg)).toInt = 14 ∨ ((m.1 3 l1.toNatClampNeg)).toInt = 15 ∨ ((m.1 3 l1.toNatClampNeg)).toInt = 16 ∨ ((m.1 3 l1.toNatClampNeg)).toInt = 17 ∨ ((m.1 3 l1.toNatClampNeg)).toInt = 18 ∨ ((m.1 3 l1.toNatClampNeg)).toInt = 19 ∨ ((m.1 3 l1.toNatClampNeg)).toInt = 20 ∨ ((m.1 3 l1.toNatClampNeg)).toInt = 21 ∨ ((m.1 3 l1.toNatClampNeg)).toInt = 22 ∨ ((m.1 3 l1.toNatClampNeg)).toInt = 24 ∨ ((m.1 3 l1.toNatClampNeg)).toInt = 26 ∨ ((m.1 3 l1.toNatClampNeg)).toInt = 27) with e | e | e | e | e | e | e | e | e | e | e | e | e | e | e | e <;> rw [e] <;> rfl) ?_
  replace H := H h0 h1 h2 h3 h4 h5 h6 h7 h9 h10 h23 h25 h28 h29
  clear h29 h28 h25 h23 h10 h9 h7 h6 h5 h4 h3 h2 h1 h0
  refine y_st rfl rfl rfl rfl rfl (fun _ _ => rfl) ?_
  refine y_gf rfl rfl rfl rfl rfl ?_
  refine y_gf rfl rfl rfl rfl rfl ?_
  refine y_st rfl rfl rfl rfl rfl (fun _ _ => rfl) ?_
  show yP (xg xs) (d + 1) 112 236 [(0, .ref 31), (1, .int l1)] [.int l1, .ref 3] m Q
  refine y_iald rfl rfl rfl (H.1) ?_
  replace H := H.2
  refine y_st rfl rfl rfl rfl rfl (fun _ _ => rfl) ?_
  show yP (xg xs) (d + 1) 112 239 [(0, .ref 31), (1, .int l1)] [.int (23 : Int32), .int (m.1 3 l1.toNatClampNeg)] m Q
  refine y_ige (t := 250) rfl rfl rfl (fun h => ?_) (fun h => ?_)
  · replace H := H.1 h; clear h
    refine y_st rfl rfl rfl rfl rfl (fun _ _ => rfl) ?_
    refine y_gf rfl rfl rfl rfl rfl ?_
    refine y_st rfl rfl rfl rfl rfl (fun _ _ => rfl) ?_
    show yP (xg xs) (d + 1) 112 255 [(0, .ref 31), (1, .int l1)] [.int l1, .ref 34] m Q
    refine y_call rfl rfl rfl rfl rfl (Nat.le_of_ble_eq_true rfl) (Nat.le_of_ble_eq_true rfl) rfl (by decide) H (fun v14 m14 H => ?_)
    obtain ⟨u14, rfl, H⟩ := H
    show yP (xg xs) (d + 1) 112 258 [(0, .ref 31), (1, .int l1)] [.int u14] m14 Q
    exact y_iret rfl rfl rfl H
  · replace H := H.2 h; clear h
    refine y_st rfl rfl rfl rfl rfl (fun _ _ => rfl) ?_
    refine y_st rfl rfl rfl rfl rfl (fun _ _ => rfl) ?_
    show yP (xg xs) (d + 1) 112 244 [(0, .ref 31), (1, .int l1)] [.int l1, .ref 31] m Q
    refine y_call rfl rfl rfl rfl rfl (Nat.le_of_ble_eq_true rfl) (Nat.le_of_ble_eq_true rfl) rfl (by decide) H (fun v15 m15 H => ?_)
    obtain ⟨u15, rfl, H⟩ := H
    refine y_st rfl rfl rfl rfl rfl (fun _ _ => rfl) ?_
    show yP (xg xs) (d + 1) 112 258 [(0, .ref 31), (1, .int l1)] [.int u15] m15 Q
    exact y_iret rfl rfl rfl H
set_option maxRecDepth 20000 in
/-- CodeMaker.Rules.lookAtText from 0 on -/
theorem w113_0 (xs : List Int32) (d : Nat) (m : yM) (Q : Option Value → yM → Prop) (H : (yC (xg xs) d 114 [.ref 18, .int (3 : Int32)] m (fun v1 m1 => ∃ u1, v1 = some (Value.int u1) ∧ ((¬ u1 = 0 → (yC (xg xs) d 115 [.ref 18] m1 (fun v2 m2 => v2 = none ∧ (((m2.1 18 10) ≤ (8192 : Int32) → Q (some (.int (0 : Int32))) m2) ∧ (¬ (m2.1 18 10) ≤ (8192 : Int32) → Q (some (.int (42 : Int32))) m2))))) ∧ (u1 = 0 → Q (some (.int (10 : Int32))) m1))))) : yP (xg xs) (d + 1) 113 0 [(0, .ref 31)] [] m Q := by
  refine y_st rfl rfl rfl rfl rfl (fun _ _ => rfl) ?_
  refine y_gf rfl rfl rfl rfl rfl ?_
  refine y_st rfl rfl rfl rfl rfl (fun _ _ => rfl) ?_
  show yP (xg xs) (d + 1) 113 5 [(0, .ref 31)] [.int (3 : Int32), .ref 18] m Q
  refine y_call rfl rfl rfl rfl rfl (Nat.le_of_ble_eq_true rfl) (Nat.le_of_ble_eq_true rfl) rfl (by decide) H (fun v1 m1 H => ?_)
  obtain ⟨u1, rfl, H⟩ := H
  show yP (xg xs) (d + 1) 113 8 [(0, .ref 31)] [.int u1] m1 Q
  refine y_zne (t := 14) rfl rfl rfl (fun h => ?_) (fun h => ?_)
  · replace H := H.1 h; clear h
    refine y_st rfl rfl rfl rfl rfl (fun _ _ => rfl) ?_
    refine y_gf rfl rfl rfl rfl rfl ?_
    show yP (xg xs) (d + 1) 113 18 [(0, .ref 31)] [.ref 18] m1 Q
    refine y_call rfl rfl rfl rfl rfl (Nat.le_of_ble_eq_true rfl) (Nat.le_of_ble_eq_true rfl) rfl (by decide) H (fun v2 m2 H => ?_)
    obtain ⟨rfl, H⟩ := H
    refine y_st rfl rfl rfl rfl rfl (fun _ _ => rfl) ?_
    refine y_gf rfl rfl rfl rfl rfl ?_
    refine y_gf rfl rfl rfl rfl rfl ?_
    refine y_st rfl rfl rfl rfl rfl (fun _ _ => rfl) ?_
    show yP (xg xs) (d + 1) 113 31 [(0, .ref 31)] [.int (8192 : Int32), .int (m2.1 18 10)] m2 Q
    refine y_ile (t := 39) rfl rfl rfl (fun h => ?_) (fun h => ?_)
    · replace H := H.1 h; clear h
      refine y_st rfl rfl rfl rfl rfl (fun _ _ => rfl) ?_
      show yP (xg xs) (d + 1) 113 40 [(0, .ref 31)] [.int (0 : Int32)] m2 Q
      exact y_iret rfl rfl rfl H
    · replace H := H.2 h; clear h
      refine y_st rfl rfl rfl rfl rfl (fun _ _ => rfl) ?_
      refine y_st rfl rfl rfl rfl rfl (fun _ _ => rfl) ?_
      show yP (xg xs) (d + 1) 113 40 [(0, .ref 31)] [.int (42 : Int32)] m2 Q
      exact y_iret rfl rfl rfl H
  · replace H := H.2 h; clear h
    refine y_st rfl rfl rfl rfl rfl (fun _ _ => rfl) ?_
    show yP (xg xs) (d + 1) 113 13 [(0, .ref 31)] [.int (10 : Int32)] m1 Q
    exact y_iret rfl rfl rfl H
set_option maxRecDepth 20000 in
/-- CodeMaker.Scope.isIn from 0 on -/
theorem w114_0 (xs : List Int32) (d : Nat) (l1 : Int32) (m : yM) (Q : Option Value → yM → Prop) (H : (((m.1 18 9) ≤ 0 → Q (some (.int (0 : Int32))) m) ∧ (¬ (m.1 18 9) ≤ 0 → (x_in ((m.1 18 9) - (1 : Int32)) 512 = true ∧ ((¬ (m.1 24 (((m.1 18 9) - (1 : Int32)).toNatClampNeg)) = l1 → Q (some (.int (0 : Int32))) m) ∧ ((m.1 24 (((m.1 18 9) - (1 : Int32)).toNatClampNeg)) = l1 → Q (some (.int (1 : Int32))) m)))))) : yP (xg xs) (d + 1) 114 0 [(0, .ref 18), (1, .int l1)] [] m Q := by
  refine y_st rfl rfl rfl rfl rfl (fun _ _ => rfl) ?_
  refine y_gf rfl rfl rfl rfl rfl ?_
  show yP (xg xs) (d + 1) 114 4 [(0, .ref 18), (1, .int l1)] [.int (m.1 18 9)] m Q
  refine y_zle (t := 26) rfl rfl rfl (fun h => ?_) (fun h => ?_)
  · replace H := H.1 h; clear h
    refine y_st rfl rfl rfl rfl rfl (fun _ _ => rfl) ?_
    show yP (xg xs) (d + 1) 114 27 [(0, .ref 18), (1, .int l1)] [.int (0 : Int32)] m Q
    exact y_zret rfl rfl rfl (by decide) H
  · replace H := H.2 h; clear h
    refine y_st rfl rfl rfl rfl rfl (fun _ _ => rfl) ?_
    refine y_gf rfl rfl rfl rfl rfl ?_
    refine y_st rfl rfl rfl rfl rfl (fun _ _ => rfl) ?_
    refine y_gf rfl rfl rfl rfl rfl ?_
    refine y_st rfl rfl rfl rfl rfl (fun _ _ => rfl) ?_
    refine y_st rfl rfl rfl rfl rfl (fun _ _ => rfl) ?_
    show yP (xg xs) (d + 1) 114 17 [(0, .ref 18), (1, .int l1)] [.int ((m.1 18 9) - (1 : Int32)), .ref 24] m Q
    refine y_iald rfl rfl rfl (H.1) ?_
    replace H := H.2
    refine y_st rfl rfl rfl rfl rfl (fun _ _ => rfl) ?_
    show yP (xg xs) (d + 1) 114 19 [(0, .ref 18), (1, .int l1)] [.int l1, .int (m.1 24 (((m.1 18 9) - (1 : Int32)).toNatClampNeg))] m Q
    refine y_ine (t := 26) rfl rfl rfl (fun h => ?_) (fun h => ?_)
    · replace H := H.1 h; clear h
      refine y_st rfl rfl rfl rfl rfl (fun _ _ => rfl) ?_
      show yP (xg xs) (d + 1) 114 27 [(0, .ref 18), (1, .int l1)] [.int (0 : Int32)] m Q
      exact y_zret rfl rfl rfl (by decide) H
    · replace H := H.2 h; clear h
      refine y_st rfl rfl rfl rfl rfl (fun _ _ => rfl) ?_
      refine y_st rfl rfl rfl rfl rfl (fun _ _ => rfl) ?_
      show yP (xg xs) (d + 1) 114 27 [(0, .ref 18), (1, .int l1)] [.int (1 : Int32)] m Q
      exact y_zret rfl rfl rfl (by decide) H
set_option maxRecDepth 20000 in
/-- CodeMaker.Scope.placeCells from 0 on -/
theorem w115_0 (xs : List Int32) (d : Nat) (m : yM) (Q : Option Value → yM → Prop) (H : (yC (xg xs) d 116 [.ref 18] m (fun v1 m1 => ∃ u1, v1 = some (Value.int u1) ∧ (x_in u1 512 = true ∧ yP (xg xs) (d + 1) 115 15 [(0, .ref 18), (1, .int (0 : Int32))] [] (y_si m1 18 10 (m1.1 26 u1.toNatClampNeg)) Q)))) : yP (xg xs) (d + 1) 115 0 [(0, .ref 18)] [] m Q := by
  refine y_st rfl rfl rfl rfl rfl (fun _ _ => rfl) ?_
  refine y_st rfl rfl rfl rfl rfl (fun _ _ => rfl) ?_
  refine y_gf rfl rfl rfl rfl rfl ?_
  refine y_st rfl rfl rfl rfl rfl (fun _ _ => rfl) ?_
  show yP (xg xs) (d + 1) 115 6 [(0, .ref 18)] [.ref 18, .ref 26, .ref 18] m Q
  refine y_call rfl rfl rfl rfl rfl (Nat.le_of_ble_eq_true rfl) (Nat.le_of_ble_eq_true rfl) rfl (by decide) H (fun v1 m1 H => ?_)
  obtain ⟨u1, rfl, H⟩ := H
  show yP (xg xs) (d + 1) 115 9 [(0, .ref 18)] [.int u1, .ref 26, .ref 18] m1 Q
  refine y_iald rfl rfl rfl (H.1) ?_
  replace H := H.2
  refine y_pfi rfl rfl rfl rfl rfl (x_fit_i _) ?_
  show yP (xg xs) (d + 1) 115 13 [(0, .ref 18)] [] (y_si m1 18 10 (m1.1 26 u1.toNatClampNeg)) Q
  refine y_st rfl rfl rfl rfl rfl (fun _ _ => rfl) ?_
  refine y_st rfl rfl rfl rfl rfl (fun _ _ => rfl) ?_
  show yP (xg xs) (d + 1) 115 15 [(1, .int (0 : Int32)), (0, .ref 18)] [] (y_si m1 18 10 (m1.1 26 u1.toNatClampNeg)) Q
  refine y_headS (l2 := [(0, .ref 18), (1, .int (0 : Int32))]) [1, 0] [0, 1] [1, 0] rfl rfl (by decide) rfl (by decide) ?_
  exact H
set_option maxRecDepth 20000 in
/-- CodeMaker.Scope.placeCells from 15 on -/
theorem w115_15 (xs : List Int32) (d : Nat) (l1 : Int32) (m : yM) (Q : Option Value → yM → Prop) (H : (yC (xg xs) d 116 [.ref 18] m (fun v1 m1 => ∃ u1, v1 = some (Value.int u1) ∧ ((u1 ≤ l1 → Q none m1) ∧ (¬ u1 ≤ l1 → (x_in l1 512 = true ∧ ((¬ (m1.1 24 l1.toNatClampNeg) = (1 : Int32) → yP (xg xs) (d + 1) 115 58 [(0, .ref 18), (1, .int l1)] [] m1 Q) ∧ ((m1.1 24 l1.toNatClampNeg) = (1 : Int32) → (x_in l1 512 = true ∧ (x_in l1 512 = true ∧ yP (xg xs) (d + 1) 115 58 [(0, .ref 18), (1, .int l1)] [] (y_si (y_si m1 27 l1.toNatClampNeg (m1.1 18 10)) 18 10 ((m1.1 18 10) + (m1.1 26 l1.toNatClampNeg))) Q)))))))))) : yP (xg xs) (d + 1) 115 15 [(0, .ref 18), (1, .int l1)] [] m Q := by
  refine y_st rfl rfl rfl rfl rfl (fun _ _ => rfl) ?_
  refine y_st rfl rfl rfl rfl rfl (fun _ _ => rfl) ?_
  show yP (xg xs) (d + 1) 115 17 [(0, .ref 18), (1, .int l1)] [.ref 18, .int l1] m Q
  refine y_call rfl rfl rfl rfl rfl (Nat.le_of_ble_eq_true rfl) (Nat.le_of_ble_eq_true rfl) rfl (by decide) H (fun v1 m1 H => ?_)
  obtain ⟨u1, rfl, H⟩ := H
  show yP (xg xs) (d + 1) 115 20 [(0, .ref 18), (1, .int l1)] [.int u1, .int l1] m1 Q
  refine y_ige (t := 64) rfl rfl rfl (fun h => ?_) (fun h => ?_)
  · replace H := H.1 h; clear h
    show yP (xg xs) (d + 1) 115 64 [(0, .ref 18), (1, .int l1)] [] m1 Q
    exact y_ret rfl rfl rfl rfl H
  · replace H := H.2 h; clear h
    refine y_st rfl rfl rfl rfl rfl (fun _ _ => rfl) ?_
    refine y_gf rfl rfl rfl rfl rfl ?_
    refine y_st rfl rfl rfl rfl rfl (fun _ _ => rfl) ?_
    show yP (xg xs) (d + 1) 115 28 [(0, .ref 18), (1, .int l1)] [.int l1, .ref 24] m1 Q
    refine y_iald rfl rfl rfl (H.1) ?_
    replace H := H.2
    refine y_st rfl rfl rfl rfl rfl (fun _ _ => rfl) ?_
    show yP (xg xs) (d + 1) 115 30 [(0, .ref 18), (1, .int l1)] [.int (1 : Int32), .int (m1.1 24 l1.toNatClampNeg)] m1 Q
    refine y_ine (t := 58) rfl rfl rfl (fun h => ?_) (fun h => ?_)
    · replace H := H.1 h; clear h
      show yP (xg xs) (d + 1) 115 58 [(0, .ref 18), (1, .int l1)] [] m1 Q
      exact H
    · replace H := H.2 h; clear h
      refine y_st rfl rfl rfl rfl rfl (fun _ _ => rfl) ?_
      refine y_gf rfl rfl rfl rfl rfl ?_
      refine y_st rfl rfl rfl rfl rfl (fun _ _ => rfl) ?_
      refine y_st rfl rfl rfl rfl rfl (fun _ _ => rfl) ?_
      refine y_gf rfl rfl rfl rfl rfl ?_
      show yP (xg xs) (d + 1) 115 42 [(0, .ref 18), (1, .int l1)] [.int (m1.1 18 10), .int l1, .ref 27] m1 Q
      refine y_iast rfl rfl rfl (H.1) ?_
      replace H := H.2
      refine y_st rfl rfl rfl rfl rfl (fun _ _ => rfl) ?_
      refine y_st rfl rfl rfl rfl rfl (fun _ _ => rfl) ?_
      refine y_gf rfl rfl rfl rfl rfl ?_
      refine y_st rfl rfl rfl rfl rfl (fun _ _ => rfl) ?_
      refine y_gf rfl rfl rfl rfl rfl ?_
      refine y_st rfl rfl rfl rfl rfl (fun _ _ => rfl) ?_
      show yP (xg xs) (d + 1) 115 53 [(0, .ref 18), (1, .int l1)] [.int l1, .ref 26, .int (m1.1 18 10), .ref 18] (y_si m1 27 l1.toNatClampNeg (m1.1 18 10)) Q
      refine y_iald rfl rfl rfl (H.1) ?_
      replace H := H.2
      refine y_st rfl rfl rfl rfl rfl (fun _ _ => rfl) ?_
      refine y_pfi rfl rfl rfl rfl rfl (x_fit_i _) ?_
      show yP (xg xs) (d + 1) 115 58 [(0, .ref 18), (1, .int l1)] [] (y_si (y_si m1 27 l1.toNatClampNeg (m1.1 18 10)) 18 10 ((m1.1 18 10) + (m1.1 26 l1.toNatClampNeg))) Q
      show yP (xg xs) (d + 1) 115 58 [(0, .ref 18), (1, .int l1)] [] (y_si (y_si m1 27 l1.toNatClampNeg (m1.1 18 10)) 18 10 ((m1.1 18 10) + (m1.1 26 l1.toNatClampNeg))) Q
      exact H
set_option maxRecDepth 20000 in
/-- CodeMaker.Scope.placeCells from 58 on -/
theorem w115_58 (xs : List Int32) (d : Nat) (l1 : Int32) (m : yM) (Q : Option Value → yM → Prop) (H : yP (xg xs) (d + 1) 115 15 [(0, .ref 18), (1, .int (l1 + (1 : Int32)))] [] m Q) : yP (xg xs) (d + 1) 115 58 [(0, .ref 18), (1, .int l1)] [] m Q := by
  refine y_st rfl rfl rfl rfl rfl (fun _ _ => rfl) ?_
  refine y_st rfl rfl rfl rfl rfl (fun _ _ => rfl) ?_
  show yP (xg xs) (d + 1) 115 15 [(1, .int (l1 + (1 : Int32))), (0, .ref 18)] [] m Q
  refine y_headS (l2 := [(0, .ref 18), (1, .int (l1 + (1 : Int32)))]) [1, 0] [0, 1] [1, 0] rfl rfl (by decide) rfl (by decide) ?_
  exact H
set_option maxRecDepth 20000 in
/-- CodeMaker.Scope.current from 0 on -/
theorem w116_0 (xs : List Int32) (d : Nat) (m : yM) (Q : Option Value → yM → Prop) (H : Q (some (.int ((m.1 18 9) - (1 : Int32)))) m) : yP (xg xs) (d + 1) 116 0 [(0, .ref 18)] [] m Q := by
  refine y_st rfl rfl rfl rfl rfl (fun _ _ => rfl) ?_
  refine y_gf rfl rfl rfl rfl rfl ?_
  refine y_st rfl rfl rfl rfl rfl (fun _ _ => rfl) ?_
  refine y_st rfl rfl rfl rfl rfl (fun _ _ => rfl) ?_
  show yP (xg xs) (d + 1) 116 6 [(0, .ref 18)] [.int ((m.1 18 9) - (1 : Int32))] m Q
  exact y_iret rfl rfl rfl H
set_option maxRecDepth 20000 in
/-- CodeMaker.Rules.lookAtBlock from 0 on -/
theorem w117_0 (xs : List Int32) (d : Nat) (m : yM) (Q : Option Value → yM → Prop) (H : (yC (xg xs) d 114 [.ref 18, .int (1 : Int32)] m (fun v1 m1 => ∃ u1, v1 = some (Value.int u1) ∧ ((u1 = 0 → yP (xg xs) (d + 1) 117 33 [(0, .ref 31)] [] m1 Q) ∧ (¬ u1 = 0 → (yC (xg xs) d 116 [.ref 18] m1 (fun v2 m2 => ∃ u2, v2 = some (Value.int u2) ∧ (yC (xg xs) d 118 [.ref 18, .int u2] m2 (fun v3 m3 => ∃ u3, v3 = some (Value.int u3) ∧ ((u3 ≤ (8 : Int32) → yP (xg xs) (d + 1) 117 33 [(0, .ref 31)] [] m3 Q) ∧ (¬ u3 ≤ (8 : Int32) → Q (some (.int (44 : Int32))) m3))))))))))) : yP (xg xs) (d + 1) 117 0 [(0, .ref 31)] [] m Q := by
  refine y_st rfl rfl rfl rfl rfl (fun _ _ => rfl) ?_
  refine y_gf rfl rfl rfl rfl rfl ?_
  refine y_st rfl rfl rfl rfl rfl (fun _ _ => rfl) ?_
  show yP (xg xs) (d + 1) 117 5 [(0, .ref 31)] [.int (1 : Int32), .ref 18] m Q
  refine y_call rfl rfl rfl rfl rfl (Nat.le_of_ble_eq_true rfl) (Nat.le_of_ble_eq_true rfl) rfl (by decide) H (fun v1 m1 H => ?_)
  obtain ⟨u1, rfl, H⟩ := H
  show yP (xg xs) (d + 1) 117 8 [(0, .ref 31)] [.int u1] m1 Q
  refine y_zeq (t := 33) rfl rfl rfl (fun h => ?_) (fun h => ?_)
  · replace H := H.1 h; clear h
    show yP (xg xs) (d + 1) 117 33 [(0, .ref 31)] [] m1 Q
    exact H
  · replace H := H.2 h; clear h
    refine y_st rfl rfl rfl rfl rfl (fun _ _ => rfl) ?_
    refine y_gf rfl rfl rfl rfl rfl ?_
    refine y_st rfl rfl rfl rfl rfl (fun _ _ => rfl) ?_
    refine y_gf rfl rfl rfl rfl rfl ?_
    show yP (xg xs) (d + 1) 117 19 [(0, .ref 31)] [.ref 18, .ref 18] m1 Q
    refine y_call rfl rfl rfl rfl rfl (Nat.le_of_ble_eq_true rfl) (Nat.le_of_ble_eq_true rfl) rfl (by decide) H (fun v2 m2 H => ?_)
    obtain ⟨u2, rfl, H⟩ := H
    show yP (xg xs) (d + 1) 117 22 [(0, .ref 31)] [.int u2, .ref 18] m2 Q
    refine y_call rfl rfl rfl rfl rfl (Nat.le_of_ble_eq_true rfl) (Nat.le_of_ble_eq_true rfl) rfl (by decide) H (fun v3 m3 H => ?_)
    obtain ⟨u3, rfl, H⟩ := H
    refine y_st rfl rfl rfl rfl rfl (fun _ _ => rfl) ?_
    show yP (xg xs) (d + 1) 117 27 [(0, .ref 31)] [.int (8 : Int32), .int u3] m3 Q
    refine y_ile (t := 33) rfl rfl rfl (fun h => ?_) (fun h => ?_)
    · replace H := H.1 h; clear h
      show yP (xg xs) (d + 1) 117 33 [(0, .ref 31)] [] m3 Q
      exact H
    · replace H := H.2 h; clear h
      refine y_st rfl rfl rfl rfl rfl (fun _ _ => rfl) ?_
      show yP (xg xs) (d + 1) 117 32 [(0, .ref 31)] [.int (44 : Int32)] m3 Q
      exact y_iret rfl rfl rfl H
set_option maxRecDepth 20000 in
/-- CodeMaker.Rules.lookAtBlock from 33 on -/
theorem w117_33 (xs : List Int32) (d : Nat) (m : yM) (Q : Option Value → yM → Prop) (H : (yC (xg xs) d 121 [.ref 18] m (fun v1 m1 => v1 = none ∧ Q (some (.int (0 : Int32))) m1))) : yP (xg xs) (d + 1) 117 33 [(0, .ref 31)] [] m Q := by
  refine y_st rfl rfl rfl rfl rfl (fun _ _ => rfl) ?_
  refine y_gf rfl rfl rfl rfl rfl ?_
  show yP (xg xs) (d + 1) 117 37 [(0, .ref 31)] [.ref 18] m Q
  refine y_call rfl rfl rfl rfl rfl (Nat.le_of_ble_eq_true rfl) (Nat.le_of_ble_eq_true rfl) rfl (by decide) H (fun v1 m1 H => ?_)
  obtain ⟨rfl, H⟩ := H
  refine y_st rfl rfl rfl rfl rfl (fun _ _ => rfl) ?_
  show yP (xg xs) (d + 1) 117 41 [(0, .ref 31)] [.int (0 : Int32)] m1 Q
  exact y_iret rfl rfl rfl H
set_option maxRecDepth 20000 in
/-- CodeMaker.Scope.inputsOf from 0 on -/
theorem w118_0 (xs : List Int32) (d : Nat) (l1 : Int32) (m : yM) (Q : Option Value → yM → Prop) (H : (yC (xg xs) d 119 [.ref 18, .int l1] m (fun v1 m1 => ∃ u1, v1 = some (Value.int u1) ∧ yP (xg xs) (d + 1) 118 8 [(0, .ref 18), (1, .int l1), (2, .int (0 : Int32)), (3, .int u1)] [] m1 Q))) : yP (xg xs) (d + 1) 118 0 [(0, .ref 18), (1, .int l1)] [] m Q := by
  refine y_st rfl rfl rfl rfl rfl (fun _ _ => rfl) ?_
  refine y_st rfl rfl rfl rfl rfl (fun _ _ => rfl) ?_
  refine y_st rfl rfl rfl rfl rfl (fun _ _ => rfl) ?_
  refine y_st rfl rfl rfl rfl rfl (fun _ _ => rfl) ?_
  show yP (xg xs) (d + 1) 118 4 [(2, .int (0 : Int32)), (0, .ref 18), (1, .int l1)] [.int l1, .ref 18] m Q
  refine y_call rfl rfl rfl rfl rfl (Nat.le_of_ble_eq_true rfl) (Nat.le_of_ble_eq_true rfl) rfl (by decide) H (fun v1 m1 H => ?_)
  obtain ⟨u1, rfl, H⟩ := H
  refine y_st rfl rfl rfl rfl rfl (fun _ _ => rfl) ?_
  show yP (xg xs) (d + 1) 118 8 [(3, .int u1), (2, .int (0 : Int32)), (0, .ref 18), (1, .int l1)] [] m1 Q
  refine y_headS (l2 := [(0, .ref 18), (1, .int l1), (2, .int (0 : Int32)), (3, .int u1)]) [2, 3, 1, 0] [0, 1, 2, 3] [3, 2, 0, 1] rfl rfl (by decide) rfl (by decide) ?_
  exact H
set_option maxRecDepth 20000 in
/-- CodeMaker.Scope.inputsOf from 8 on -/
theorem w118_8 (xs : List Int32) (d : Nat) (l1 : Int32) (l2 : Int32) (l3 : Int32) (m : yM) (Q : Option Value → yM → Prop) (H : (yC (xg xs) d 120 [.ref 18, .int l1] m (fun v1 m1 => ∃ u1, v1 = some (Value.int u1) ∧ ((u1 ≤ l3 → Q (some (.int l2)) m1) ∧ (¬ u1 ≤ l3 → (x_in l3 4097 = true ∧ ((¬ (m1.1 22 l3.toNatClampNeg) = (1 : Int32) → yP (xg xs) (d + 1) 118 33 [(0, .ref 18), (1, .int l1), (3, .int l3)] [.int (0 : Int32), .int l2] m1 Q) ∧ ((m1.1 22 l3.toNatClampNeg) = (1 : Int32) → yP (xg xs) (d + 1) 118 33 [(0, .ref 18), (1, .int l1), (3, .int l3)] [.int (1 : Int32), .int l2] m1 Q)))))))) : yP (xg xs) (d + 1) 118 8 [(0, .ref 18), (1, .int l1), (2, .int l2), (3, .int l3)] [] m Q := by
  refine y_st rfl rfl rfl rfl rfl (fun _ _ => rfl) ?_
  refine y_st rfl rfl rfl rfl rfl (fun _ _ => rfl) ?_
  refine y_st rfl rfl rfl rfl rfl (fun _ _ => rfl) ?_
  show yP (xg xs) (d + 1) 118 11 [(0, .ref 18), (1, .int l1), (2, .int l2), (3, .int l3)] [.int l1, .ref 18, .int l3] m Q
  refine y_call rfl rfl rfl rfl rfl (Nat.le_of_ble_eq_true rfl) (Nat.le_of_ble_eq_true rfl) rfl (by decide) H (fun v1 m1 H => ?_)
  obtain ⟨u1, rfl, H⟩ := H
  show yP (xg xs) (d + 1) 118 14 [(0, .ref 18), (1, .int l1), (2, .int l2), (3, .int l3)] [.int u1, .int l3] m1 Q
  refine y_ige (t := 41) rfl rfl rfl (fun h => ?_) (fun h => ?_)
  · replace H := H.1 h; clear h
    refine y_st rfl rfl rfl rfl rfl (fun _ _ => rfl) ?_
    show yP (xg xs) (d + 1) 118 42 [(0, .ref 18), (1, .int l1), (2, .int l2), (3, .int l3)] [.int l2] m1 Q
    exact y_iret rfl rfl rfl H
  · replace H := H.2 h; clear h
    refine y_st rfl rfl rfl rfl rfl (fun _ _ => rfl) ?_
    refine y_st rfl rfl rfl rfl rfl (fun _ _ => rfl) ?_
    refine y_gf rfl rfl rfl rfl rfl ?_
    refine y_st rfl rfl rfl rfl rfl (fun _ _ => rfl) ?_
    show yP (xg xs) (d + 1) 118 23 [(0, .ref 18), (1, .int l1), (2, .int l2), (3, .int l3)] [.int l3, .ref 22, .int l2] m1 Q
    refine y_iald rfl rfl rfl (H.1) ?_
    replace H := H.2
    refine y_st rfl rfl rfl rfl rfl (fun _ _ => rfl) ?_
    show yP (xg xs) (d + 1) 118 25 [(0, .ref 18), (1, .int l1), (2, .int l2), (3, .int l3)] [.int (1 : Int32), .int (m1.1 22 l3.toNatClampNeg), .int l2] m1 Q
    refine y_ine (t := 32) rfl rfl rfl (fun h => ?_) (fun h => ?_)
    · replace H := H.1 h; clear h
      refine y_st rfl rfl rfl rfl rfl (fun _ _ => rfl) ?_
      show yP (xg xs) (d + 1) 118 33 [(0, .ref 18), (1, .int l1), (2, .int l2), (3, .int l3)] [.int (0 : Int32), .int l2] m1 Q
      refine y_headS (l2 := [(0, .ref 18), (1, .int l1), (3, .int l3)]) [0, 1, 3] [0, 1, 3] [0, 1, 2, 3] rfl rfl (by decide) rfl (by decide) ?_
      exact H
    · replace H := H.2 h; clear h
      refine y_st rfl rfl rfl rfl rfl (fun _ _ => rfl) ?_
      refine y_st rfl rfl rfl rfl rfl (fun _ _ => rfl) ?_
      show yP (xg xs) (d + 1) 118 33 [(0, .ref 18), (1, .int l1), (2, .int l2), (3, .int l3)] [.int (1 : Int32), .int l2] m1 Q
      refine y_headS (l2 := [(0, .ref 18), (1, .int l1), (3, .int l3)]) [0, 1, 3] [0, 1, 3] [0, 1, 2, 3] rfl rfl (by decide) rfl (by decide) ?_
      exact H
set_option maxRecDepth 20000 in
/-- CodeMaker.Scope.inputsOf from 33 on -/
theorem w118_33 (xs : List Int32) (d : Nat) (l1 : Int32) (l3 : Int32) (s0 : Int32) (s1 : Int32) (m : yM) (Q : Option Value → yM → Prop) (H : yP (xg xs) (d + 1) 118 8 [(0, .ref 18), (1, .int l1), (2, .int (s0 + s1)), (3, .int (l3 + (1 : Int32)))] [] m Q) : yP (xg xs) (d + 1) 118 33 [(0, .ref 18), (1, .int l1), (3, .int l3)] [.int s1, .int s0] m Q := by
  refine y_st rfl rfl rfl rfl rfl (fun _ _ => rfl) ?_
  refine y_st rfl rfl rfl rfl rfl (fun _ _ => rfl) ?_
  refine y_st rfl rfl rfl rfl rfl (fun _ _ => rfl) ?_
  refine y_st rfl rfl rfl rfl rfl (fun _ _ => rfl) ?_
  show yP (xg xs) (d + 1) 118 8 [(3, .int (l3 + (1 : Int32))), (2, .int (s0 + s1)), (0, .ref 18), (1, .int l1)] [] m Q
  refine y_headS (l2 := [(0, .ref 18), (1, .int l1), (2, .int (s0 + s1)), (3, .int (l3 + (1 : Int32)))]) [2, 3, 1, 0] [0, 1, 2, 3] [3, 2, 0, 1] rfl rfl (by decide) rfl (by decide) ?_
  exact H
set_option maxRecDepth 20000 in
/-- CodeMaker.Scope.firstOf from 0 on -/
theorem w119_0 (xs : List Int32) (d : Nat) (l1 : Int32) (m : yM) (Q : Option Value → yM → Prop) (H : (x_in l1 512 = true ∧ Q (some (.int (m.1 28 l1.toNatClampNeg))) m)) : yP (xg xs) (d + 1) 119 0 [(0, .ref 18), (1, .int l1)] [] m Q := by
  refine y_st rfl rfl rfl rfl rfl (fun _ _ => rfl) ?_
  refine y_gf rfl rfl rfl rfl rfl ?_
  refine y_st rfl rfl rfl rfl rfl (fun _ _ => rfl) ?_
  show yP (xg xs) (d + 1) 119 5 [(0, .ref 18), (1, .int l1)] [.int l1, .ref 28] m Q
  refine y_iald rfl rfl rfl (H.1) ?_
  replace H := H.2
  show yP (xg xs) (d + 1) 119 6 [(0, .ref 18), (1, .int l1)] [.int (m.1 28 l1.toNatClampNeg)] m Q
  exact y_iret rfl rfl rfl H
set_option maxRecDepth 20000 in
/-- CodeMaker.Scope.behindOf from 0 on -/
theorem w120_0 (xs : List Int32) (d : Nat) (l1 : Int32) (m : yM) (Q : Option Value → yM → Prop) (H : (((m.1 18 9) ≤ (l1 + (1 : Int32)) → Q (some (.int (m.1 18 15))) m) ∧ (¬ (m.1 18 9) ≤ (l1 + (1 : Int32)) → (x_in (l1 + (1 : Int32)) 512 = true ∧ Q (some (.int (m.1 28 ((l1 + (1 : Int32)).toNatClampNeg)))) m)))) : yP (xg xs) (d + 1) 120 0 [(0, .ref 18), (1, .int l1)] [] m Q := by
  refine y_st rfl rfl rfl rfl rfl (fun _ _ => rfl) ?_
  refine y_st rfl rfl rfl rfl rfl (fun _ _ => rfl) ?_
  refine y_st rfl rfl rfl rfl rfl (fun _ _ => rfl) ?_
  refine y_st rfl rfl rfl rfl rfl (fun _ _ => rfl) ?_
  refine y_gf rfl rfl rfl rfl rfl ?_
  show yP (xg xs) (d + 1) 120 7 [(0, .ref 18), (1, .int l1)] [.int (m.1 18 9), .int (l1 + (1 : Int32))] m Q
  refine y_ige (t := 21) rfl rfl rfl (fun h => ?_) (fun h => ?_)
  · replace H := H.1 h; clear h
    refine y_st rfl rfl rfl rfl rfl (fun _ _ => rfl) ?_
    refine y_gf rfl rfl rfl rfl rfl ?_
    show yP (xg xs) (d + 1) 120 25 [(0, .ref 18), (1, .int l1)] [.int (m.1 18 15)] m Q
    exact y_iret rfl rfl rfl H
  · replace H := H.2 h; clear h
    refine y_st rfl rfl rfl rfl rfl (fun _ _ => rfl) ?_
    refine y_gf rfl rfl rfl rfl rfl ?_
    refine y_st rfl rfl rfl rfl rfl (fun _ _ => rfl) ?_
    refine y_st rfl rfl rfl rfl rfl (fun _ _ => rfl) ?_
    refine y_st rfl rfl rfl rfl rfl (fun _ _ => rfl) ?_
    show yP (xg xs) (d + 1) 120 17 [(0, .ref 18), (1, .int l1)] [.int (l1 + (1 : Int32)), .ref 28] m Q
    refine y_iald rfl rfl rfl (H.1) ?_
    replace H := H.2
    refine y_st rfl rfl rfl rfl rfl (fun _ _ => rfl) ?_
    show yP (xg xs) (d + 1) 120 25 [(0, .ref 18), (1, .int l1)] [.int (m.1 28 ((l1 + (1 : Int32)).toNatClampNeg))] m Q
    exact y_iret rfl rfl rfl H
set_option maxRecDepth 20000 in
/-- CodeMaker.Scope.giveOwnCells from 0 on -/
theorem w121_0 (xs : List Int32) (d : Nat) (m : yM) (Q : Option Value → yM → Prop) (H : (yC (xg xs) d 116 [.ref 18] m (fun v1 m1 => ∃ u1, v1 = some (Value.int u1) ∧ (x_in u1 512 = true ∧ yP (xg xs) (d + 1) 121 14 [(0, .ref 18), (1, .int u1), (2, .int (0 : Int32)), (3, .int (m1.1 25 u1.toNatClampNeg))] [] m1 Q)))) : yP (xg xs) (d + 1) 121 0 [(0, .ref 18)] [] m Q := by
  refine y_st rfl rfl rfl rfl rfl (fun _ _ => rfl) ?_
  show yP (xg xs) (d + 1) 121 1 [(0, .ref 18)] [.ref 18] m Q
  refine y_call rfl rfl rfl rfl rfl (Nat.le_of_ble_eq_true rfl) (Nat.le_of_ble_eq_true rfl) rfl (by decide) H (fun v1 m1 H => ?_)
  obtain ⟨u1, rfl, H⟩ := H
  refine y_st rfl rfl rfl rfl rfl (fun _ _ => rfl) ?_
  refine y_st rfl rfl rfl rfl rfl (fun _ _ => rfl) ?_
  refine y_st rfl rfl rfl rfl rfl (fun _ _ => rfl) ?_
  refine y_st rfl rfl rfl rfl rfl (fun _ _ => rfl) ?_
  refine y_gf rfl rfl rfl rfl rfl ?_
  refine y_st rfl rfl rfl rfl rfl (fun _ _ => rfl) ?_
  show yP (xg xs) (d + 1) 121 12 [(2, .int (0 : Int32)), (1, .int u1), (0, .ref 18)] [.int u1, .ref 25] m1 Q
  refine y_iald rfl rfl rfl (H.1) ?_
  replace H := H.2
  refine y_st rfl rfl rfl rfl rfl (fun _ _ => rfl) ?_
  show yP (xg xs) (d + 1) 121 14 [(3, .int (m1.1 25 u1.toNatClampNeg)), (2, .int (0 : Int32)), (1, .int u1), (0, .ref 18)] [] m1 Q
  refine y_headS (l2 := [(0, .ref 18), (1, .int u1), (2, .int (0 : Int32)), (3, .int (m1.1 25 u1.toNatClampNeg))]) [3, 2, 1, 0] [0, 1, 2, 3] [3, 2, 1, 0] rfl rfl (by decide) rfl (by decide) ?_
  exact H
set_option maxRecDepth 20000 in
/-- CodeMaker.Scope.giveOwnCells from 14 on -/
theorem w121_14 (xs : List Int32) (d : Nat) (l1 : Int32) (l2 : Int32) (l3 : Int32) (m : yM) (Q : Option Value → yM → Prop) (H : (x_in l1 512 = true ∧ (x_in (m.1 25 l1.toNatClampNeg) 16401 = true ∧ (((m.1 7 ((m.1 25 l1.toNatClampNeg).toNatClampNeg)) ≤ l3 → (x_in l1 512 = true ∧ yP (xg xs) (d + 1) 121 98 [(0, .ref 18), (1, .int l1), (2, .int l2), (3, .int (m.1 25 l1.toNatClampNeg))] [] m Q)) ∧ (¬ (m.1 7 ((m.1 25 l1.toNatClampNeg).toNatClampNeg)) ≤ l3 → (x_in l3 16401 = true ∧ (((m.1 3 l3.toNatClampNeg) = (16 : Int32) → yP (xg xs) (d + 1) 121 60 [(0, .ref 18), (1, .int l1), (2, .int l2), (3, .int l3)] [] m Q) ∧ (¬ (m.1 3 l3.toNatClampNeg) = (16 : Int32) → (x_in l3 16401 = true ∧ ((¬ (m.1 3 l3.toNatClampNeg) = (19 : Int32) → yP (xg xs) (d + 1) 121 85 [(0, .ref 18), (1, .int l1), (2, .int l2), (3, .int l3)] [] m Q) ∧ ((m.1 3 l3.toNatClampNeg) = (19 : Int32) → yP (xg xs) (d + 1) 121 60 [(0, .ref 18), (1, .int l1), (2, .int l2), (3, .int l3)] [] m Q))))))))))) : yP (xg xs) (d + 1) 121 14 [(0, .ref 18), (1, .int l1), (2, .int l2), (3, .int l3)] [] m Q := by
  refine y_st rfl rfl rfl rfl rfl (fun _ _ => rfl) ?_
  refine y_st rfl rfl rfl rfl rfl (fun _ _ => rfl) ?_
  refine y_gf rfl rfl rfl rfl rfl ?_
  refine y_gf rfl rfl rfl rfl rfl ?_
  refine y_st rfl rfl rfl rfl rfl (fun _ _ => rfl) ?_
  refine y_gf rfl rfl rfl rfl rfl ?_
  refine y_st rfl rfl rfl rfl rfl (fun _ _ => rfl) ?_
  show yP (xg xs) (d + 1) 121 27 [(0, .ref 18), (1, .int l1), (2, .int l2), (3, .int l3)] [.int l1, .ref 25, .ref 7, .int l3] m Q
  refine y_iald rfl rfl rfl (H.1) ?_
  replace H := H.2
  show yP (xg xs) (d + 1) 121 28 [(0, .ref 18), (1, .int l1), (2, .int l2), (3, .int l3)] [.int (m.1 25 l1.toNatClampNeg), .ref 7, .int l3] m Q
  refine y_iald rfl rfl rfl (H.1) ?_
  replace H := H.2
  show yP (xg xs) (d + 1) 121 29 [(0, .ref 18), (1, .int l1), (2, .int l2), (3, .int l3)] [.int (m.1 7 ((m.1 25 l1.toNatClampNeg).toNatClampNeg)), .int l3] m Q
  refine y_ige (t := 91) rfl rfl rfl (fun h => ?_) (fun h => ?_)
  · replace H := H.1 h; clear h
    refine y_st rfl rfl rfl rfl rfl (fun _ _ => rfl) ?_
    refine y_gf rfl rfl rfl rfl rfl ?_
    refine y_st rfl rfl rfl rfl rfl (fun _ _ => rfl) ?_
    show yP (xg xs) (d + 1) 121 96 [(0, .ref 18), (1, .int l1), (2, .int l2), (3, .int l3)] [.int l1, .ref 25] m Q
    refine y_iald rfl rfl rfl (H.1) ?_
    replace H := H.2
    refine y_st rfl rfl rfl rfl rfl (fun _ _ => rfl) ?_
    show yP (xg xs) (d + 1) 121 98 [(3, .int (m.1 25 l1.toNatClampNeg)), (0, .ref 18), (1, .int l1), (2, .int l2)] [] m Q
    refine y_headS (l2 := [(0, .ref 18), (1, .int l1), (2, .int l2), (3, .int (m.1 25 l1.toNatClampNeg))]) [1, 2, 3, 0] [0, 1, 2, 3] [3, 0, 1, 2] rfl rfl (by decide) rfl (by decide) ?_
    exact H
  · replace H := H.2 h; clear h
    refine y_st rfl rfl rfl rfl rfl (fun _ _ => rfl) ?_
    refine y_gf rfl rfl rfl rfl rfl ?_
    refine y_gf rfl rfl rfl rfl rfl ?_
    refine y_st rfl rfl rfl rfl rfl (fun _ _ => rfl) ?_
    show yP (xg xs) (d + 1) 121 40 [(0, .ref 18), (1, .int l1), (2, .int l2), (3, .int l3)] [.int l3, .ref 3] m Q
    refine y_iald rfl rfl rfl (H.1) ?_
    replace H := H.2
    refine y_st rfl rfl rfl rfl rfl (fun _ _ => rfl) ?_
    show yP (xg xs) (d + 1) 121 43 [(0, .ref 18), (1, .int l1), (2, .int l2), (3, .int l3)] [.int (16 : Int32), .int (m.1 3 l3.toNatClampNeg)] m Q
    refine y_ieq (t := 60) rfl rfl rfl (fun h => ?_) (fun h => ?_)
    · replace H := H.1 h; clear h
      show yP (xg xs) (d + 1) 121 60 [(0, .ref 18), (1, .int l1), (2, .int l2), (3, .int l3)] [] m Q
      exact H
    · replace H := H.2 h; clear h
      refine y_st rfl rfl rfl rfl rfl (fun _ _ => rfl) ?_
      refine y_gf rfl rfl rfl rfl rfl ?_
      refine y_gf rfl rfl rfl rfl rfl ?_
      refine y_st rfl rfl rfl rfl rfl (fun _ _ => rfl) ?_
      show yP (xg xs) (d + 1) 121 54 [(0, .ref 18), (1, .int l1), (2, .int l2), (3, .int l3)] [.int l3, .ref 3] m Q
      refine y_iald rfl rfl rfl (H.1) ?_
      replace H := H.2
      refine y_st rfl rfl rfl rfl rfl (fun _ _ => rfl) ?_
      show yP (xg xs) (d + 1) 121 57 [(0, .ref 18), (1, .int l1), (2, .int l2), (3, .int l3)] [.int (19 : Int32), .int (m.1 3 l3.toNatClampNeg)] m Q
      refine y_ine (t := 85) rfl rfl rfl (fun h => ?_) (fun h => ?_)
      · replace H := H.1 h; clear h
        show yP (xg xs) (d + 1) 121 85 [(0, .ref 18), (1, .int l1), (2, .int l2), (3, .int l3)] [] m Q
        exact H
      · replace H := H.2 h; clear h
        show yP (xg xs) (d + 1) 121 60 [(0, .ref 18), (1, .int l1), (2, .int l2), (3, .int l3)] [] m Q
        exact H
set_option maxRecDepth 20000 in
/-- CodeMaker.Scope.giveOwnCells from 60 on -/
theorem w121_60 (xs : List Int32) (d : Nat) (l1 : Int32) (l2 : Int32) (l3 : Int32) (m : yM) (Q : Option Value → yM → Prop) (H : (x_in l1 512 = true ∧ (x_in l3 16401 = true ∧ (x_in l1 512 = true ∧ (x_in l1 512 = true ∧ yP (xg xs) (d + 1) 121 85 [(0, .ref 18), (1, .int l1), (2, .int l2), (3, .int l3)] [] (y_si (y_si m 6 l3.toNatClampNeg (m.1 26 l1.toNatClampNeg)) 26 l1.toNatClampNeg ((m.1 26 l1.toNatClampNeg) + (1 : Int32))) Q))))) : yP (xg xs) (d + 1) 121 60 [(0, .ref 18), (1, .int l1), (2, .int l2), (3, .int l3)] [] m Q := by
  refine y_st rfl rfl rfl rfl rfl (fun _ _ => rfl) ?_
  refine y_gf rfl rfl rfl rfl rfl ?_
  refine y_gf rfl rfl rfl rfl rfl ?_
  refine y_st rfl rfl rfl rfl rfl (fun _ _ => rfl) ?_
  refine y_st rfl rfl rfl rfl rfl (fun _ _ => rfl) ?_
  refine y_gf rfl rfl rfl rfl rfl ?_
  refine y_st rfl rfl rfl rfl rfl (fun _ _ => rfl) ?_
  show yP (xg xs) (d + 1) 121 73 [(0, .ref 18), (1, .int l1), (2, .int l2), (3, .int l3)] [.int l1, .ref 26, .int l3, .ref 6] m Q
  refine y_iald rfl rfl rfl (H.1) ?_
  replace H := H.2
  show yP (xg xs) (d + 1) 121 74 [(0, .ref 18), (1, .int l1), (2, .int l2), (3, .int l3)] [.int (m.1 26 l1.toNatClampNeg), .int l3, .ref 6] m Q
  refine y_iast rfl rfl rfl (H.1) ?_
  replace H := H.2
  refine y_st rfl rfl rfl rfl rfl (fun _ _ => rfl) ?_
  refine y_gf rfl rfl rfl rfl rfl ?_
  refine y_st rfl rfl rfl rfl rfl (fun _ _ => rfl) ?_
  refine y_st rfl rfl rfl rfl rfl (fun _ _ => rfl) ?_
  show yP (xg xs) (d + 1) 121 81 [(0, .ref 18), (1, .int l1), (2, .int l2), (3, .int l3)] [.int l1, .ref 26, .int l1, .ref 26] (y_si m 6 l3.toNatClampNeg (m.1 26 l1.toNatClampNeg)) Q
  refine y_iald rfl rfl rfl (H.1) ?_
  replace H := H.2
  refine y_st rfl rfl rfl rfl rfl (fun _ _ => rfl) ?_
  refine y_st rfl rfl rfl rfl rfl (fun _ _ => rfl) ?_
  show yP (xg xs) (d + 1) 121 84 [(0, .ref 18), (1, .int l1), (2, .int l2), (3, .int l3)] [.int ((m.1 26 l1.toNatClampNeg) + (1 : Int32)), .int l1, .ref 26] (y_si m 6 l3.toNatClampNeg (m.1 26 l1.toNatClampNeg)) Q
  refine y_iast rfl rfl rfl (H.1) ?_
  replace H := H.2
  show yP (xg xs) (d + 1) 121 85 [(0, .ref 18), (1, .int l1), (2, .int l2), (3, .int l3)] [] (y_si (y_si m 6 l3.toNatClampNeg (m.1 26 l1.toNatClampNeg)) 26 l1.toNatClampNeg ((m.1 26 l1.toNatClampNeg) + (1 : Int32))) Q
  exact H
set_option maxRecDepth 20000 in
/-- CodeMaker.Scope.giveOwnCells from 85 on -/
theorem w121_85 (xs : List Int32) (d : Nat) (l1 : Int32) (l2 : Int32) (l3 : Int32) (m : yM) (Q : Option Value → yM → Prop) (H : yP (xg xs) (d + 1) 121 14 [(0, .ref 18), (1, .int l1), (2, .int l2), (3, .int (l3 + (1 : Int32)))] [] m Q) : yP (xg xs) (d + 1) 121 85 [(0, .ref 18), (1, .int l1), (2, .int l2), (3, .int l3)] [] m Q := by
  refine y_st rfl rfl rfl rfl rfl (fun _ _ => rfl) ?_
  refine y_st rfl rfl rfl rfl rfl (fun _ _ => rfl) ?_
  show yP (xg xs) (d + 1) 121 14 [(3, .int (l3 + (1 : Int32))), (0, .ref 18), (1, .int l1), (2, .int l2)] [] m Q
  refine y_headS (l2 := [(0, .ref 18), (1, .int l1), (2, .int l2), (3, .int (l3 + (1 : Int32)))]) [1, 2, 3, 0] [0, 1, 2, 3] [3, 0, 1, 2] rfl rfl (by decide) rfl (by decide) ?_
  exact H
set_option maxRecDepth 20000 in
/-- CodeMaker.Scope.giveOwnCells from 98 on -/
theorem w121_98 (xs : List Int32) (d : Nat) (l1 : Int32) (l2 : Int32) (l3 : Int32) (m : yM) (Q : Option Value → yM → Prop) (H : (x_in l1 512 = true ∧ (x_in (m.1 25 l1.toNatClampNeg) 16401 = true ∧ (((m.1 7 ((m.1 25 l1.toNatClampNeg).toNatClampNeg)) ≤ l3 → (x_in l1 512 = true ∧ ((l2 = 0 → yP (xg xs) (d + 1) 121 214 [] [.int (0 : Int32), .int (m.1 26 l1.toNatClampNeg), .int l1, .ref 26] m Q) ∧ (¬ l2 = 0 → yP (xg xs) (d + 1) 121 214 [] [.int (156 : Int32), .int (m.1 26 l1.toNatClampNeg), .int l1, .ref 26] m Q)))) ∧ (¬ (m.1 7 ((m.1 25 l1.toNatClampNeg).toNatClampNeg)) ≤ l3 → (x_in l3 16401 = true ∧ ((¬ (m.1 3 l3.toNatClampNeg) = (22 : Int32) → yP (xg xs) (d + 1) 121 136 [(0, .ref 18), (1, .int l1), (3, .int l3)] [.int (0 : Int32), .int l2] m Q) ∧ ((m.1 3 l3.toNatClampNeg) = (22 : Int32) → yP (xg xs) (d + 1) 121 136 [(0, .ref 18), (1, .int l1), (3, .int l3)] [.int (1 : Int32), .int l2] m Q)))))))) : yP (xg xs) (d + 1) 121 98 [(0, .ref 18), (1, .int l1), (2, .int l2), (3, .int l3)] [] m Q := by
  refine y_st rfl rfl rfl rfl rfl (fun _ _ => rfl) ?_
  refine y_st rfl rfl rfl rfl rfl (fun _ _ => rfl) ?_
  refine y_gf rfl rfl rfl rfl rfl ?_
  refine y_gf rfl rfl rfl rfl rfl ?_
  refine y_st rfl rfl rfl rfl rfl (fun _ _ => rfl) ?_
  refine y_gf rfl rfl rfl rfl rfl ?_
  refine y_st rfl rfl rfl rfl rfl (fun _ _ => rfl) ?_
  show yP (xg xs) (d + 1) 121 111 [(0, .ref 18), (1, .int l1), (2, .int l2), (3, .int l3)] [.int l1, .ref 25, .ref 7, .int l3] m Q
  refine y_iald rfl rfl rfl (H.1) ?_
  replace H := H.2
  show yP (xg xs) (d + 1) 121 112 [(0, .ref 18), (1, .int l1), (2, .int l2), (3, .int l3)] [.int (m.1 25 l1.toNatClampNeg), .ref 7, .int l3] m Q
  refine y_iald rfl rfl rfl (H.1) ?_
  replace H := H.2
  show yP (xg xs) (d + 1) 121 113 [(0, .ref 18), (1, .int l1), (2, .int l2), (3, .int l3)] [.int (m.1 7 ((m.1 25 l1.toNatClampNeg).toNatClampNeg)), .int l3] m Q
  refine y_ige (t := 196) rfl rfl rfl (fun h => ?_) (fun h => ?_)
  · replace H := H.1 h; clear h
    refine y_st rfl rfl rfl rfl rfl (fun _ _ => rfl) ?_
    refine y_gf rfl rfl rfl rfl rfl ?_
    refine y_st rfl rfl rfl rfl rfl (fun _ _ => rfl) ?_
    refine y_st rfl rfl rfl rfl rfl (fun _ _ => rfl) ?_
    show yP (xg xs) (d + 1) 121 202 [(0, .ref 18), (1, .int l1), (2, .int l2), (3, .int l3)] [.int l1, .ref 26, .int l1, .ref 26] m Q
    refine y_iald rfl rfl rfl (H.1) ?_
    replace H := H.2
    refine y_st rfl rfl rfl rfl rfl (fun _ _ => rfl) ?_
    show yP (xg xs) (d + 1) 121 204 [(0, .ref 18), (1, .int l1), (2, .int l2), (3, .int l3)] [.int l2, .int (m.1 26 l1.toNatClampNeg), .int l1, .ref 26] m Q
    refine y_zeq (t := 213) rfl rfl rfl (fun h => ?_) (fun h => ?_)
    · replace H := H.1 h; clear h
      refine y_st rfl rfl rfl rfl rfl (fun _ _ => rfl) ?_
      show yP (xg xs) (d + 1) 121 214 [(0, .ref 18), (1, .int l1), (2, .int l2), (3, .int l3)] [.int (0 : Int32), .int (m.1 26 l1.toNatClampNeg), .int l1, .ref 26] m Q
      refine y_headS (l2 := []) [] [] [0, 1, 2, 3] rfl rfl (by decide) rfl (by decide) ?_
      exact H
    · replace H := H.2 h; clear h
      refine y_st rfl rfl rfl rfl rfl (fun _ _ => rfl) ?_
      refine y_st rfl rfl rfl rfl rfl (fun _ _ => rfl) ?_
      show yP (xg xs) (d + 1) 121 214 [(0, .ref 18), (1, .int l1), (2, .int l2), (3, .int l3)] [.int (156 : Int32), .int (m.1 26 l1.toNatClampNeg), .int l1, .ref 26] m Q
      refine y_headS (l2 := []) [] [] [0, 1, 2, 3] rfl rfl (by decide) rfl (by decide) ?_
      exact H
  · replace H := H.2 h; clear h
    refine y_st rfl rfl rfl rfl rfl (fun _ _ => rfl) ?_
    refine y_st rfl rfl rfl rfl rfl (fun _ _ => rfl) ?_
    refine y_gf rfl rfl rfl rfl rfl ?_
    refine y_gf rfl rfl rfl rfl rfl ?_
    refine y_st rfl rfl rfl rfl rfl (fun _ _ => rfl) ?_
    show yP (xg xs) (d + 1) 121 125 [(0, .ref 18), (1, .int l1), (2, .int l2), (3, .int l3)] [.int l3, .ref 3, .int l2] m Q
    refine y_iald rfl rfl rfl (H.1) ?_
    replace H := H.2
    refine y_st rfl rfl rfl rfl rfl (fun _ _ => rfl) ?_
    show yP (xg xs) (d + 1) 121 128 [(0, .ref 18), (1, .int l1), (2, .int l2), (3, .int l3)] [.int (22 : Int32), .int (m.1 3 l3.toNatClampNeg), .int l2] m Q
    refine y_ine (t := 135) rfl rfl rfl (fun h => ?_) (fun h => ?_)
    · replace H := H.1 h; clear h
      refine y_st rfl rfl rfl rfl rfl (fun _ _ => rfl) ?_
      show yP (xg xs) (d + 1) 121 136 [(0, .ref 18), (1, .int l1), (2, .int l2), (3, .int l3)] [.int (0 : Int32), .int l2] m Q
      refine y_headS (l2 := [(0, .ref 18), (1, .int l1), (3, .int l3)]) [0, 1, 3] [0, 1, 3] [0, 1, 2, 3] rfl rfl (by decide) rfl (by decide) ?_
      exact H
    · replace H := H.2 h; clear h
      refine y_st rfl rfl rfl rfl rfl (fun _ _ => rfl) ?_
      refine y_st rfl rfl rfl rfl rfl (fun _ _ => rfl) ?_
      show yP (xg xs) (d + 1) 121 136 [(0, .ref 18), (1, .int l1), (2, .int l2), (3, .int l3)] [.int (1 : Int32), .int l2] m Q
      refine y_headS (l2 := [(0, .ref 18), (1, .int l1), (3, .int l3)]) [0, 1, 3] [0, 1, 3] [0, 1, 2, 3] rfl rfl (by decide) rfl (by decide) ?_
      exact H
set_option maxRecDepth 20000 in
/-- CodeMaker.Scope.giveOwnCells from 136 on -/
theorem w121_136 (xs : List Int32) (d : Nat) (l1 : Int32) (l3 : Int32) (s0 : Int32) (s1 : Int32) (m : yM) (Q : Option Value → yM → Prop) (H : (x_in l3 16401 = true ∧ ((¬ (m.1 3 l3.toNatClampNeg) = (25 : Int32) → yP (xg xs) (d + 1) 121 190 [(0, .ref 18), (1, .int l1), (2, .int (s0 ||| s1)), (3, .int l3)] [] m Q) ∧ ((m.1 3 l3.toNatClampNeg) = (25 : Int32) → (x_in l3 16401 = true ∧ (((m.1 5 l3.toNatClampNeg) < (2 : Int32) → yP (xg xs) (d + 1) 121 190 [(0, .ref 18), (1, .int l1), (2, .int (s0 ||| s1)), (3, .int l3)] [] m Q) ∧ (¬ (m.1 5 l3.toNatClampNeg) < (2 : Int32) → (x_in l1 512 = true ∧ (x_in l3 16401 = true ∧ (x_in l1 512 = true ∧ (x_in l1 512 = true ∧ yP (xg xs) (d + 1) 121 190 [(0, .ref 18), (1, .int l1), (2, .int (s0 ||| s1)), (3, .int l3)] [] (y_si (y_si m 6 l3.toNatClampNeg (m.1 26 l1.toNatClampNeg)) 26 l1.toNatClampNeg ((m.1 26 l1.toNatClampNeg) + (1 : Int32))) Q))))))))))) : yP (xg xs) (d + 1) 121 136 [(0, .ref 18), (1, .int l1), (3, .int l3)] [.int s1, .int s0] m Q := by
  refine y_st rfl rfl rfl rfl rfl (fun _ _ => rfl) ?_
  refine y_st rfl rfl rfl rfl rfl (fun _ _ => rfl) ?_
  refine y_st rfl rfl rfl rfl rfl (fun _ _ => rfl) ?_
  refine y_gf rfl rfl rfl rfl rfl ?_
  refine y_gf rfl rfl rfl rfl rfl ?_
  refine y_st rfl rfl rfl rfl rfl (fun _ _ => rfl) ?_
  show yP (xg xs) (d + 1) 121 146 [(2, .int (s0 ||| s1)), (0, .ref 18), (1, .int l1), (3, .int l3)] [.int l3, .ref 3] m Q
  refine y_iald rfl rfl rfl (H.1) ?_
  replace H := H.2
  refine y_st rfl rfl rfl rfl rfl (fun _ _ => rfl) ?_
  show yP (xg xs) (d + 1) 121 149 [(2, .int (s0 ||| s1)), (0, .ref 18), (1, .int l1), (3, .int l3)] [.int (25 : Int32), .int (m.1 3 l3.toNatClampNeg)] m Q
  refine y_ine (t := 190) rfl rfl rfl (fun h => ?_) (fun h => ?_)
  · replace H := H.1 h; clear h
    show yP (xg xs) (d + 1) 121 190 [(2, .int (s0 ||| s1)), (0, .ref 18), (1, .int l1), (3, .int l3)] [] m Q
    refine y_headS (l2 := [(0, .ref 18), (1, .int l1), (2, .int (s0 ||| s1)), (3, .int l3)]) [1, 2, 0, 3] [0, 1, 2, 3] [2, 0, 1, 3] rfl rfl (by decide) rfl (by decide) ?_
    exact H
  · replace H := H.2 h; clear h
    refine y_st rfl rfl rfl rfl rfl (fun _ _ => rfl) ?_
    refine y_gf rfl rfl rfl rfl rfl ?_
    refine y_gf rfl rfl rfl rfl rfl ?_
    refine y_st rfl rfl rfl rfl rfl (fun _ _ => rfl) ?_
    show yP (xg xs) (d + 1) 121 160 [(2, .int (s0 ||| s1)), (0, .ref 18), (1, .int l1), (3, .int l3)] [.int l3, .ref 5] m Q
    refine y_iald rfl rfl rfl (H.1) ?_
    replace H := H.2
    refine y_st rfl rfl rfl rfl rfl (fun _ _ => rfl) ?_
    show yP (xg xs) (d + 1) 121 162 [(2, .int (s0 ||| s1)), (0, .ref 18), (1, .int l1), (3, .int l3)] [.int (2 : Int32), .int (m.1 5 l3.toNatClampNeg)] m Q
    refine y_ilt (t := 190) rfl rfl rfl (fun h => ?_) (fun h => ?_)
    · replace H := H.1 h; clear h
      show yP (xg xs) (d + 1) 121 190 [(2, .int (s0 ||| s1)), (0, .ref 18), (1, .int l1), (3, .int l3)] [] m Q
      refine y_headS (l2 := [(0, .ref 18), (1, .int l1), (2, .int (s0 ||| s1)), (3, .int l3)]) [1, 2, 0, 3] [0, 1, 2, 3] [2, 0, 1, 3] rfl rfl (by decide) rfl (by decide) ?_
      exact H
    · replace H := H.2 h; clear h
      refine y_st rfl rfl rfl rfl rfl (fun _ _ => rfl) ?_
      refine y_gf rfl rfl rfl rfl rfl ?_
      refine y_gf rfl rfl rfl rfl rfl ?_
      refine y_st rfl rfl rfl rfl rfl (fun _ _ => rfl) ?_
      refine y_st rfl rfl rfl rfl rfl (fun _ _ => rfl) ?_
      refine y_gf rfl rfl rfl rfl rfl ?_
      refine y_st rfl rfl rfl rfl rfl (fun _ _ => rfl) ?_
      show yP (xg xs) (d + 1) 121 178 [(2, .int (s0 ||| s1)), (0, .ref 18), (1, .int l1), (3, .int l3)] [.int l1, .ref 26, .int l3, .ref 6] m Q
      refine y_iald rfl rfl rfl (H.1) ?_
      replace H := H.2
      show yP (xg xs) (d + 1) 121 179 [(2, .int (s0 ||| s1)), (0, .ref 18), (1, .int l1), (3, .int l3)] [.int (m.1 26 l1.toNatClampNeg), .int l3, .ref 6] m Q
      refine y_iast rfl rfl rfl (H.1) ?_
      replace H := H.2
      refine y_st rfl rfl rfl rfl rfl (fun _ _ => rfl) ?_
      refine y_gf rfl rfl rfl rfl rfl ?_
      refine y_st rfl rfl rfl rfl rfl (fun _ _ => rfl) ?_
      refine y_st rfl rfl rfl rfl rfl (fun _ _ => rfl) ?_
      show yP (xg xs) (d + 1) 121 186 [(2, .int (s0 ||| s1)), (0, .ref 18), (1, .int l1), (3, .int l3)] [.int l1, .ref 26, .int l1, .ref 26] (y_si m 6 l3.toNatClampNeg (m.1 26 l1.toNatClampNeg)) Q
      refine y_iald rfl rfl rfl (H.1) ?_
      replace H := H.2
      refine y_st rfl rfl rfl rfl rfl (fun _ _ => rfl) ?_
      refine y_st rfl rfl rfl rfl rfl (fun _ _ => rfl) ?_
      show yP (xg xs) (d + 1) 121 189 [(2, .int (s0 ||| s1)), (0, .ref 18), (1, .int l1), (3, .int l3)] [.int ((m.1 26 l1.toNatClampNeg) + (1 : Int32)), .int l1, .ref 26] (y_si m 6 l3.toNatClampNeg (m.1 26 l1.toNatClampNeg)) Q
      refine y_iast rfl rfl rfl (H.1) ?_
      replace H := H.2
      show yP (xg xs) (d + 1) 121 190 [(2, .int (s0 ||| s1)), (0, .ref 18), (1, .int l1), (3, .int l3)] [] (y_si (y_si m 6 l3.toNatClampNeg (m.1 26 l1.toNatClampNeg)) 26 l1.toNatClampNeg ((m.1 26 l1.toNatClampNeg) + (1 : Int32))) Q
      refine y_headS (l2 := [(0, .ref 18), (1, .int l1), (2, .int (s0 ||| s1)), (3, .int l3)]) [1, 2, 0, 3] [0, 1, 2, 3] [2, 0, 1, 3] rfl rfl (by decide) rfl (by decide) ?_
      exact H
set_option maxRecDepth 20000 in
/-- CodeMaker.Scope.giveOwnCells from 190 on -/
theorem w121_190 (xs : List Int32) (d : Nat) (l1 : Int32) (l2 : Int32) (l3 : Int32) (m : yM) (Q : Option Value → yM → Prop) (H : yP (xg xs) (d + 1) 121 98 [(0, .ref 18), (1, .int l1), (2, .int l2), (3, .int (l3 + (1 : Int32)))] [] m Q) : yP (xg xs) (d + 1) 121 190 [(0, .ref 18), (1, .int l1), (2, .int l2), (3, .int l3)] [] m Q := by
  refine y_st rfl rfl rfl rfl rfl (fun _ _ => rfl) ?_
  refine y_st rfl rfl rfl rfl rfl (fun _ _ => rfl) ?_
  show yP (xg xs) (d + 1) 121 98 [(3, .int (l3 + (1 : Int32))), (0, .ref 18), (1, .int l1), (2, .int l2)] [] m Q
  refine y_headS (l2 := [(0, .ref 18), (1, .int l1), (2, .int l2), (3, .int (l3 + (1 : Int32)))]) [1, 2, 3, 0] [0, 1, 2, 3] [3, 0, 1, 2] rfl rfl (by decide) rfl (by decide) ?_
  exact H
set_option maxRecDepth 20000 in
/-- CodeMaker.Scope.giveOwnCells from 214 on -/
theorem w121_214 (xs : List Int32) (d : Nat) (s1 : Int32) (s2 : Int32) (s3 : Int32) (m : yM) (Q : Option Value → yM → Prop) (H : (x_in s1 512 = true ∧ Q none (y_si m 26 s1.toNatClampNeg (s2 + s3)))) : yP (xg xs) (d + 1) 121 214 [] [.int s3, .int s2, .int s1, .ref 26] m Q := by
  refine y_st rfl rfl rfl rfl rfl (fun _ _ => rfl) ?_
  show yP (xg xs) (d + 1) 121 215 [] [.int (s2 + s3), .int s1, .ref 26] m Q
  refine y_iast rfl rfl rfl (H.1) ?_
  replace H := H.2
  show yP (xg xs) (d + 1) 121 216 [] [] (y_si m 26 s1.toNatClampNeg (s2 + s3)) Q
  exact y_ret rfl rfl rfl rfl H
set_option maxRecDepth 20000 in
/-- CodeMaker.Rules.lookAtSection from 0 on -/
theorem w122_0 (xs : List Int32) (d : Nat) (l1 : Int32) (m : yM) (Q : Option Value → yM → Prop) (H : (x_in l1 16401 = true ∧ (yC (xg xs) d 114 [.ref 18, .int (3 : Int32)] m (fun v1 m1 => ∃ u1, v1 = some (Value.int u1) ∧ ((u1 = 0 → yP (xg xs) (d + 1) 122 25 [(0, .ref 31), (2, .int (m.1 5 l1.toNatClampNeg))] [] m1 Q) ∧ (¬ u1 = 0 → ((¬ (m.1 5 l1.toNatClampNeg) = 0 → yP (xg xs) (d + 1) 122 41 [] [] m1 Q) ∧ ((m.1 5 l1.toNatClampNeg) = 0 → yP (xg xs) (d + 1) 122 25 [(0, .ref 31), (2, .int (m.1 5 l1.toNatClampNeg))] [] m1 Q)))))))) : yP (xg xs) (d + 1) 122 0 [(0, .ref 31), (1, .int l1)] [] m Q := by
  refine y_st rfl rfl rfl rfl rfl (fun _ _ => rfl) ?_
  refine y_gf rfl rfl rfl rfl rfl ?_
  refine y_gf rfl rfl rfl rfl rfl ?_
  refine y_st rfl rfl rfl rfl rfl (fun _ _ => rfl) ?_
  show yP (xg xs) (d + 1) 122 8 [(0, .ref 31), (1, .int l1)] [.int l1, .ref 5] m Q
  refine y_iald rfl rfl rfl (H.1) ?_
  replace H := H.2
  refine y_st rfl rfl rfl rfl rfl (fun _ _ => rfl) ?_
  refine y_st rfl rfl rfl rfl rfl (fun _ _ => rfl) ?_
  refine y_gf rfl rfl rfl rfl rfl ?_
  refine y_st rfl rfl rfl rfl rfl (fun _ _ => rfl) ?_
  show yP (xg xs) (d + 1) 122 15 [(2, .int (m.1 5 l1.toNatClampNeg)), (0, .ref 31), (1, .int l1)] [.int (3 : Int32), .ref 18] m Q
  refine y_call rfl rfl rfl rfl rfl (Nat.le_of_ble_eq_true rfl) (Nat.le_of_ble_eq_true rfl) rfl (by decide) H (fun v1 m1 H => ?_)
  obtain ⟨u1, rfl, H⟩ := H
  show yP (xg xs) (d + 1) 122 18 [(2, .int (m.1 5 l1.toNatClampNeg)), (0, .ref 31), (1, .int l1)] [.int u1] m1 Q
  refine y_zeq (t := 25) rfl rfl rfl (fun h => ?_) (fun h => ?_)
  · replace H := H.1 h; clear h
    show yP (xg xs) (d + 1) 122 25 [(2, .int (m.1 5 l1.toNatClampNeg)), (0, .ref 31), (1, .int l1)] [] m1 Q
    refine y_headS (l2 := [(0, .ref 31), (2, .int (m.1 5 l1.toNatClampNeg))]) [1, 0] [0, 2] [2, 0, 1] rfl rfl (by decide) rfl (by decide) ?_
    exact H
  · replace H := H.2 h; clear h
    refine y_st rfl rfl rfl rfl rfl (fun _ _ => rfl) ?_
    show yP (xg xs) (d + 1) 122 22 [(2, .int (m.1 5 l1.toNatClampNeg)), (0, .ref 31), (1, .int l1)] [.int (m.1 5 l1.toNatClampNeg)] m1 Q
    refine y_zne (t := 41) rfl rfl rfl (fun h => ?_) (fun h => ?_)
    · replace H := H.1 h; clear h
      show yP (xg xs) (d + 1) 122 41 [(2, .int (m.1 5 l1.toNatClampNeg)), (0, .ref 31), (1, .int l1)] [] m1 Q
      refine y_headS (l2 := []) [] [] [2, 0, 1] rfl rfl (by decide) rfl (by decide) ?_
      exact H
    · replace H := H.2 h; clear h
      show yP (xg xs) (d + 1) 122 25 [(2, .int (m.1 5 l1.toNatClampNeg)), (0, .ref 31), (1, .int l1)] [] m1 Q
      refine y_headS (l2 := [(0, .ref 31), (2, .int (m.1 5 l1.toNatClampNeg))]) [1, 0] [0, 2] [2, 0, 1] rfl rfl (by decide) rfl (by decide) ?_
      exact H
set_option maxRecDepth 20000 in
/-- CodeMaker.Rules.lookAtSection from 25 on -/
theorem w122_25 (xs : List Int32) (d : Nat) (l2 : Int32) (m : yM) (Q : Option Value → yM → Prop) (H : (yC (xg xs) d 114 [.ref 18, .int (1 : Int32)] m (fun v1 m1 => ∃ u1, v1 = some (Value.int u1) ∧ ((u1 = 0 → yP (xg xs) (d + 1) 122 45 [] [] m1 Q) ∧ (¬ u1 = 0 → ((¬ l2 = (2 : Int32) → yP (xg xs) (d + 1) 122 45 [] [] m1 Q) ∧ (l2 = (2 : Int32) → yP (xg xs) (d + 1) 122 41 [] [] m1 Q))))))) : yP (xg xs) (d + 1) 122 25 [(0, .ref 31), (2, .int l2)] [] m Q := by
  refine y_st rfl rfl rfl rfl rfl (fun _ _ => rfl) ?_
  refine y_gf rfl rfl rfl rfl rfl ?_
  refine y_st rfl rfl rfl rfl rfl (fun _ _ => rfl) ?_
  show yP (xg xs) (d + 1) 122 30 [(0, .ref 31), (2, .int l2)] [.int (1 : Int32), .ref 18] m Q
  refine y_call rfl rfl rfl rfl rfl (Nat.le_of_ble_eq_true rfl) (Nat.le_of_ble_eq_true rfl) rfl (by decide) H (fun v1 m1 H => ?_)
  obtain ⟨u1, rfl, H⟩ := H
  show yP (xg xs) (d + 1) 122 33 [(0, .ref 31), (2, .int l2)] [.int u1] m1 Q
  refine y_zeq (t := 45) rfl rfl rfl (fun h => ?_) (fun h => ?_)
  · replace H := H.1 h; clear h
    show yP (xg xs) (d + 1) 122 45 [(0, .ref 31), (2, .int l2)] [] m1 Q
    refine y_headS (l2 := []) [] [] [0, 2] rfl rfl (by decide) rfl (by decide) ?_
    exact H
  · replace H := H.2 h; clear h
    refine y_st rfl rfl rfl rfl rfl (fun _ _ => rfl) ?_
    refine y_st rfl rfl rfl rfl rfl (fun _ _ => rfl) ?_
    show yP (xg xs) (d + 1) 122 38 [(0, .ref 31), (2, .int l2)] [.int (2 : Int32), .int l2] m1 Q
    refine y_ine (t := 45) rfl rfl rfl (fun h => ?_) (fun h => ?_)
    · replace H := H.1 h; clear h
      show yP (xg xs) (d + 1) 122 45 [(0, .ref 31), (2, .int l2)] [] m1 Q
      refine y_headS (l2 := []) [] [] [0, 2] rfl rfl (by decide) rfl (by decide) ?_
      exact H
    · replace H := H.2 h; clear h
      show yP (xg xs) (d + 1) 122 41 [(0, .ref 31), (2, .int l2)] [] m1 Q
      refine y_headS (l2 := []) [] [] [0, 2] rfl rfl (by decide) rfl (by decide) ?_
      exact H
set_option maxRecDepth 20000 in
/-- CodeMaker.Rules.lookAtSection from 41 on -/
theorem w122_41 (xs : List Int32) (d : Nat) (m : yM) (Q : Option Value → yM → Prop) (H : yP (xg xs) (d + 1) 122 46 [] [.int (1 : Int32)] m Q) : yP (xg xs) (d + 1) 122 41 [] [] m Q := by
  refine y_st rfl rfl rfl rfl rfl (fun _ _ => rfl) ?_
  refine y_st rfl rfl rfl rfl rfl (fun _ _ => rfl) ?_
  show yP (xg xs) (d + 1) 122 46 [] [.int (1 : Int32)] m Q
  exact H
set_option maxRecDepth 20000 in
/-- CodeMaker.Rules.lookAtSection from 45 on -/
theorem w122_45 (xs : List Int32) (d : Nat) (m : yM) (Q : Option Value → yM → Prop) (H : yP (xg xs) (d + 1) 122 46 [] [.int (0 : Int32)] m Q) : yP (xg xs) (d + 1) 122 45 [] [] m Q := by
  refine y_st rfl rfl rfl rfl rfl (fun _ _ => rfl) ?_
  show yP (xg xs) (d + 1) 122 46 [] [.int (0 : Int32)] m Q
  exact H
set_option maxRecDepth 20000 in
/-- CodeMaker.Rules.lookAtSection from 46 on -/
theorem w122_46 (xs : List Int32) (d : Nat) (s0 : Int32) (m : yM) (Q : Option Value → yM → Prop) (H : ((s0 = 0 → Q (some (.int (0 : Int32))) m) ∧ (¬ s0 = 0 → Q (some (.int (13 : Int32))) m))) : yP (xg xs) (d + 1) 122 46 [] [.int s0] m Q := by
  refine y_st rfl rfl rfl rfl rfl (fun _ _ => rfl) ?_
  refine y_st rfl rfl rfl rfl rfl (fun _ _ => rfl) ?_
  show yP (xg xs) (d + 1) 122 48 [(3, .int s0)] [.int s0] m Q
  refine y_zeq (t := 56) rfl rfl rfl (fun h => ?_) (fun h => ?_)
  · replace H := H.1 h; clear h
    refine y_st rfl rfl rfl rfl rfl (fun _ _ => rfl) ?_
    show yP (xg xs) (d + 1) 122 57 [(3, .int s0)] [.int (0 : Int32)] m Q
    exact y_iret rfl rfl rfl H
  · replace H := H.2 h; clear h
    refine y_st rfl rfl rfl rfl rfl (fun _ _ => rfl) ?_
    refine y_st rfl rfl rfl rfl rfl (fun _ _ => rfl) ?_
    show yP (xg xs) (d + 1) 122 57 [(3, .int s0)] [.int (13 : Int32)] m Q
    exact y_iret rfl rfl rfl H
set_option maxRecDepth 20000 in
/-- CodeMaker.Rules.lookAtDeclaration from 0 on -/
theorem w123_0 (xs : List Int32) (d : Nat) (l1 : Int32) (m : yM) (Q : Option Value → yM → Prop) (H : (yC (xg xs) d 124 [.ref 31] m (fun v1 m1 => ∃ u1, v1 = some (Value.int u1) ∧ (x_in u1 16401 = true ∧ yP (xg xs) (d + 1) 123 17 [(0, .ref 31), (1, .int l1), (2, .int (m1.1 5 u1.toNatClampNeg)), (3, .int (l1 + (1 : Int32)))] [] m1 Q)))) : yP (xg xs) (d + 1) 123 0 [(0, .ref 31), (1, .int l1)] [] m Q := by
  refine y_st rfl rfl rfl rfl rfl (fun _ _ => rfl) ?_
  refine y_gf rfl rfl rfl rfl rfl ?_
  refine y_gf rfl rfl rfl rfl rfl ?_
  refine y_st rfl rfl rfl rfl rfl (fun _ _ => rfl) ?_
  show yP (xg xs) (d + 1) 123 8 [(0, .ref 31), (1, .int l1)] [.ref 31, .ref 5] m Q
  refine y_call rfl rfl rfl rfl rfl (Nat.le_of_ble_eq_true rfl) (Nat.le_of_ble_eq_true rfl) rfl (by decide) H (fun v1 m1 H => ?_)
  obtain ⟨u1, rfl, H⟩ := H
  show yP (xg xs) (d + 1) 123 11 [(0, .ref 31), (1, .int l1)] [.int u1, .ref 5] m1 Q
  refine y_iald rfl rfl rfl (H.1) ?_
  replace H := H.2
  refine y_st rfl rfl rfl rfl rfl (fun _ _ => rfl) ?_
  refine y_st rfl rfl rfl rfl rfl (fun _ _ => rfl) ?_
  refine y_st rfl rfl rfl rfl rfl (fun _ _ => rfl) ?_
  refine y_st rfl rfl rfl rfl rfl (fun _ _ => rfl) ?_
  refine y_st rfl rfl rfl rfl rfl (fun _ _ => rfl) ?_
  show yP (xg xs) (d + 1) 123 17 [(3, .int (l1 + (1 : Int32))), (2, .int (m1.1 5 u1.toNatClampNeg)), (0, .ref 31), (1, .int l1)] [] m1 Q
  refine y_headS (l2 := [(0, .ref 31), (1, .int l1), (2, .int (m1.1 5 u1.toNatClampNeg)), (3, .int (l1 + (1 : Int32)))]) [2, 3, 1, 0] [0, 1, 2, 3] [3, 2, 0, 1] rfl rfl (by decide) rfl (by decide) ?_
  exact H
set_option maxRecDepth 20000 in
/-- CodeMaker.Rules.lookAtDeclaration from 17 on -/
theorem w123_17 (xs : List Int32) (d : Nat) (l1 : Int32) (l2 : Int32) (l3 : Int32) (m : yM) (Q : Option Value → yM → Prop) (H : (x_in l1 16401 = true ∧ (((m.1 7 l1.toNatClampNeg) ≤ l3 → yP (xg xs) (d + 1) 123 50 [(0, .ref 31), (1, .int l1), (2, .int l2), (3, .int l3)] [] m Q) ∧ (¬ (m.1 7 l1.toNatClampNeg) ≤ l3 → (x_in l3 16401 = true ∧ ((¬ (m.1 3 l3.toNatClampNeg) = (6 : Int32) → yP (xg xs) (d + 1) 123 50 [(0, .ref 31), (1, .int l1), (2, .int l2), (3, .int l3)] [] m Q) ∧ ((m.1 3 l3.toNatClampNeg) = (6 : Int32) → yP (xg xs) (d + 1) 123 17 [(0, .ref 31), (1, .int l1), (2, .int l2), (3, .int (l3 + (1 : Int32)))] [] m Q))))))) : yP (xg xs) (d + 1) 123 17 [(0, .ref 31), (1, .int l1), (2, .int l2), (3, .int l3)] [] m Q := by
  refine y_st rfl rfl rfl rfl rfl (fun _ _ => rfl) ?_
  refine y_st rfl rfl rfl rfl rfl (fun _ _ => rfl) ?_
  refine y_gf rfl rfl rfl rfl rfl ?_
  refine y_gf rfl rfl rfl rfl rfl ?_
  refine y_st rfl rfl rfl rfl rfl (fun _ _ => rfl) ?_
  show yP (xg xs) (d + 1) 123 26 [(0, .ref 31), (1, .int l1), (2, .int l2), (3, .int l3)] [.int l1, .ref 7, .int l3] m Q
  refine y_iald rfl rfl rfl (H.1) ?_
  replace H := H.2
  show yP (xg xs) (d + 1) 123 27 [(0, .ref 31), (1, .int l1), (2, .int l2), (3, .int l3)] [.int (m.1 7 l1.toNatClampNeg), .int l3] m Q
  refine y_ige (t := 50) rfl rfl rfl (fun h => ?_) (fun h => ?_)
  · replace H := H.1 h; clear h
    show yP (xg xs) (d + 1) 123 50 [(0, .ref 31), (1, .int l1), (2, .int l2), (3, .int l3)] [] m Q
    exact H
  · replace H := H.2 h; clear h
    refine y_st rfl rfl rfl rfl rfl (fun _ _ => rfl) ?_
    refine y_gf rfl rfl rfl rfl rfl ?_
    refine y_gf rfl rfl rfl rfl rfl ?_
    refine y_st rfl rfl rfl rfl rfl (fun _ _ => rfl) ?_
    show yP (xg xs) (d + 1) 123 38 [(0, .ref 31), (1, .int l1), (2, .int l2), (3, .int l3)] [.int l3, .ref 3] m Q
    refine y_iald rfl rfl rfl (H.1) ?_
    replace H := H.2
    refine y_st rfl rfl rfl rfl rfl (fun _ _ => rfl) ?_
    show yP (xg xs) (d + 1) 123 41 [(0, .ref 31), (1, .int l1), (2, .int l2), (3, .int l3)] [.int (6 : Int32), .int (m.1 3 l3.toNatClampNeg)] m Q
    refine y_ine (t := 50) rfl rfl rfl (fun h => ?_) (fun h => ?_)
    · replace H := H.1 h; clear h
      show yP (xg xs) (d + 1) 123 50 [(0, .ref 31), (1, .int l1), (2, .int l2), (3, .int l3)] [] m Q
      exact H
    · replace H := H.2 h; clear h
      refine y_st rfl rfl rfl rfl rfl (fun _ _ => rfl) ?_
      refine y_st rfl rfl rfl rfl rfl (fun _ _ => rfl) ?_
      show yP (xg xs) (d + 1) 123 17 [(3, .int (l3 + (1 : Int32))), (0, .ref 31), (1, .int l1), (2, .int l2)] [] m Q
      refine y_headS (l2 := [(0, .ref 31), (1, .int l1), (2, .int l2), (3, .int (l3 + (1 : Int32)))]) [1, 2, 3, 0] [0, 1, 2, 3] [3, 0, 1, 2] rfl rfl (by decide) rfl (by decide) ?_
      exact H
set_option maxRecDepth 20000 in
/-- CodeMaker.Rules.lookAtDeclaration from 50 on -/
theorem w123_50 (xs : List Int32) (d : Nat) (l1 : Int32) (l2 : Int32) (l3 : Int32) (m : yM) (Q : Option Value → yM → Prop) (H : (x_in l3 16401 = true ∧ ((¬ (m.1 3 l3.toNatClampNeg) = (7 : Int32) → yP (xg xs) (d + 1) 123 88 [(0, .ref 31), (1, .int l1), (2, .int l2), (3, .int l3), (4, .int ((l3 - l1) - (1 : Int32))), (5, .int ((-1) : Int32))] [] m Q) ∧ ((m.1 3 l3.toNatClampNeg) = (7 : Int32) → (x_in l3 16401 = true ∧ yP (xg xs) (d + 1) 123 88 [(0, .ref 31), (1, .int l1), (2, .int l2), (3, .int (l3 + (1 : Int32))), (4, .int ((l3 - l1) - (1 : Int32))), (5, .int (m.1 5 l3.toNatClampNeg))] [] m Q))))) : yP (xg xs) (d + 1) 123 50 [(0, .ref 31), (1, .int l1), (2, .int l2), (3, .int l3)] [] m Q := by
  refine y_st rfl rfl rfl rfl rfl (fun _ _ => rfl) ?_
  refine y_st rfl rfl rfl rfl rfl (fun _ _ => rfl) ?_
  refine y_st rfl rfl rfl rfl rfl (fun _ _ => rfl) ?_
  refine y_st rfl rfl rfl rfl rfl (fun _ _ => rfl) ?_
  refine y_st rfl rfl rfl rfl rfl (fun _ _ => rfl) ?_
  refine y_st rfl rfl rfl rfl rfl (fun _ _ => rfl) ?_
  refine y_st rfl rfl rfl rfl rfl (fun _ _ => rfl) ?_
  refine y_st rfl rfl rfl rfl rfl (fun _ _ => rfl) ?_
  refine y_st rfl rfl rfl rfl rfl (fun _ _ => rfl) ?_
  refine y_gf rfl rfl rfl rfl rfl ?_
  refine y_gf rfl rfl rfl rfl rfl ?_
  refine y_st rfl rfl rfl rfl rfl (fun _ _ => rfl) ?_
  show yP (xg xs) (d + 1) 123 68 [(5, .int ((-1) : Int32)), (4, .int ((l3 - l1) - (1 : Int32))), (0, .ref 31), (1, .int l1), (2, .int l2), (3, .int l3)] [.int l3, .ref 3] m Q
  refine y_iald rfl rfl rfl (H.1) ?_
  replace H := H.2
  refine y_st rfl rfl rfl rfl rfl (fun _ _ => rfl) ?_
  show yP (xg xs) (d + 1) 123 71 [(5, .int ((-1) : Int32)), (4, .int ((l3 - l1) - (1 : Int32))), (0, .ref 31), (1, .int l1), (2, .int l2), (3, .int l3)] [.int (7 : Int32), .int (m.1 3 l3.toNatClampNeg)] m Q
  refine y_ine (t := 88) rfl rfl rfl (fun h => ?_) (fun h => ?_)
  · replace H := H.1 h; clear h
    show yP (xg xs) (d + 1) 123 88 [(5, .int ((-1) : Int32)), (4, .int ((l3 - l1) - (1 : Int32))), (0, .ref 31), (1, .int l1), (2, .int l2), (3, .int l3)] [] m Q
    refine y_headS (l2 := [(0, .ref 31), (1, .int l1), (2, .int l2), (3, .int l3), (4, .int ((l3 - l1) - (1 : Int32))), (5, .int ((-1) : Int32))]) [2, 3, 4, 5, 1, 0] [0, 1, 2, 3, 4, 5] [5, 4, 0, 1, 2, 3] rfl rfl (by decide) rfl (by decide) ?_
    exact H
  · replace H := H.2 h; clear h
    refine y_st rfl rfl rfl rfl rfl (fun _ _ => rfl) ?_
    refine y_gf rfl rfl rfl rfl rfl ?_
    refine y_gf rfl rfl rfl rfl rfl ?_
    refine y_st rfl rfl rfl rfl rfl (fun _ _ => rfl) ?_
    show yP (xg xs) (d + 1) 123 82 [(5, .int ((-1) : Int32)), (4, .int ((l3 - l1) - (1 : Int32))), (0, .ref 31), (1, .int l1), (2, .int l2), (3, .int l3)] [.int l3, .ref 5] m Q
    refine y_iald rfl rfl rfl (H.1) ?_
    replace H := H.2
    refine y_st rfl rfl rfl rfl rfl (fun _ _ => rfl) ?_
    refine y_st rfl rfl rfl rfl rfl (fun _ _ => rfl) ?_
    show yP (xg xs) (d + 1) 123 88 [(3, .int (l3 + (1 : Int32))), (5, .int (m.1 5 l3.toNatClampNeg)), (4, .int ((l3 - l1) - (1 : Int32))), (0, .ref 31), (1, .int l1), (2, .int l2)] [] m Q
    refine y_headS (l2 := [(0, .ref 31), (1, .int l1), (2, .int l2), (3, .int (l3 + (1 : Int32))), (4, .int ((l3 - l1) - (1 : Int32))), (5, .int (m.1 5 l3.toNatClampNeg))]) [3, 4, 5, 0, 2, 1] [0, 1, 2, 3, 4, 5] [3, 5, 4, 0, 1, 2] rfl rfl (by decide) rfl (by decide) ?_
    exact H
set_option maxRecDepth 20000 in
/-- CodeMaker.Rules.lookAtDeclaration from 88 on -/
theorem w123_88 (xs : List Int32) (d : Nat) (l1 : Int32) (l2 : Int32) (l3 : Int32) (l4 : Int32) (l5 : Int32) (m : yM) (Q : Option Value → yM → Prop) (H : ((l2 = 0 → yP (xg xs) (d + 1) 123 109 [(0, .ref 31), (1, .int l1), (2, .int l2), (3, .int l3), (4, .int l4), (5, .int l5)] [] m Q) ∧ (¬ l2 = 0 → (x_in l3 16401 = true ∧ (((m.1 3 l3.toNatClampNeg) = (8 : Int32) → yP (xg xs) (d + 1) 123 109 [(0, .ref 31), (1, .int l1), (2, .int l2), (3, .int l3), (4, .int l4), (5, .int l5)] [] m Q) ∧ (¬ (m.1 3 l3.toNatClampNeg) = (8 : Int32) → Q (some (.int (43 : Int32))) m)))))) : yP (xg xs) (d + 1) 123 88 [(0, .ref 31), (1, .int l1), (2, .int l2), (3, .int l3), (4, .int l4), (5, .int l5)] [] m Q := by
  refine y_st rfl rfl rfl rfl rfl (fun _ _ => rfl) ?_
  show yP (xg xs) (d + 1) 123 89 [(0, .ref 31), (1, .int l1), (2, .int l2), (3, .int l3), (4, .int l4), (5, .int l5)] [.int l2] m Q
  refine y_zeq (t := 109) rfl rfl rfl (fun h => ?_) (fun h => ?_)
  · replace H := H.1 h; clear h
    show yP (xg xs) (d + 1) 123 109 [(0, .ref 31), (1, .int l1), (2, .int l2), (3, .int l3), (4, .int l4), (5, .int l5)] [] m Q
    exact H
  · replace H := H.2 h; clear h
    refine y_st rfl rfl rfl rfl rfl (fun _ _ => rfl) ?_
    refine y_gf rfl rfl rfl rfl rfl ?_
    refine y_gf rfl rfl rfl rfl rfl ?_
    refine y_st rfl rfl rfl rfl rfl (fun _ _ => rfl) ?_
    show yP (xg xs) (d + 1) 123 100 [(0, .ref 31), (1, .int l1), (2, .int l2), (3, .int l3), (4, .int l4), (5, .int l5)] [.int l3, .ref 3] m Q
    refine y_iald rfl rfl rfl (H.1) ?_
    replace H := H.2
    refine y_st rfl rfl rfl rfl rfl (fun _ _ => rfl) ?_
    show yP (xg xs) (d + 1) 123 103 [(0, .ref 31), (1, .int l1), (2, .int l2), (3, .int l3), (4, .int l4), (5, .int l5)] [.int (8 : Int32), .int (m.1 3 l3.toNatClampNeg)] m Q
    refine y_ieq (t := 109) rfl rfl rfl (fun h => ?_) (fun h => ?_)
    · replace H := H.1 h; clear h
      show yP (xg xs) (d + 1) 123 109 [(0, .ref 31), (1, .int l1), (2, .int l2), (3, .int l3), (4, .int l4), (5, .int l5)] [] m Q
      exact H
    · replace H := H.2 h; clear h
      refine y_st rfl rfl rfl rfl rfl (fun _ _ => rfl) ?_
      show yP (xg xs) (d + 1) 123 108 [(0, .ref 31), (1, .int l1), (2, .int l2), (3, .int l3), (4, .int l4), (5, .int l5)] [.int (43 : Int32)] m Q
      exact y_iret rfl rfl rfl H
set_option maxRecDepth 20000 in
/-- CodeMaker.Rules.lookAtDeclaration from 109 on -/
theorem w123_109 (xs : List Int32) (d : Nat) (l1 : Int32) (l2 : Int32) (l3 : Int32) (l4 : Int32) (l5 : Int32) (m : yM) (Q : Option Value → yM → Prop) (H : ((l5 = ((-1) : Int32) → yP (xg xs) (d + 1) 123 128 [(0, .ref 31), (1, .int l1), (2, .int l2), (3, .int l3), (4, .int l4), (5, .int l5)] [] m Q) ∧ (¬ l5 = ((-1) : Int32) → (yC (xg xs) d 125 [.ref 31, .int l3, .int l5] m (fun v1 m1 => ∃ u1, v1 = some (Value.int u1) ∧ ((¬ u1 = 0 → yP (xg xs) (d + 1) 123 128 [(0, .ref 31), (1, .int l1), (2, .int l2), (3, .int l3), (4, .int l4), (5, .int l5)] [] m1 Q) ∧ (u1 = 0 → Q (some (.int (15 : Int32))) m1))))))) : yP (xg xs) (d + 1) 123 109 [(0, .ref 31), (1, .int l1), (2, .int l2), (3, .int l3), (4, .int l4), (5, .int l5)] [] m Q := by
  refine y_st rfl rfl rfl rfl rfl (fun _ _ => rfl) ?_
  refine y_st rfl rfl rfl rfl rfl (fun _ _ => rfl) ?_
  show yP (xg xs) (d + 1) 123 112 [(0, .ref 31), (1, .int l1), (2, .int l2), (3, .int l3), (4, .int l4), (5, .int l5)] [.int ((-1) : Int32), .int l5] m Q
  refine y_ieq (t := 128) rfl rfl rfl (fun h => ?_) (fun h => ?_)
  · replace H := H.1 h; clear h
    show yP (xg xs) (d + 1) 123 128 [(0, .ref 31), (1, .int l1), (2, .int l2), (3, .int l3), (4, .int l4), (5, .int l5)] [] m Q
    exact H
  · replace H := H.2 h; clear h
    refine y_st rfl rfl rfl rfl rfl (fun _ _ => rfl) ?_
    refine y_st rfl rfl rfl rfl rfl (fun _ _ => rfl) ?_
    refine y_st rfl rfl rfl rfl rfl (fun _ _ => rfl) ?_
    show yP (xg xs) (d + 1) 123 119 [(0, .ref 31), (1, .int l1), (2, .int l2), (3, .int l3), (4, .int l4), (5, .int l5)] [.int l5, .int l3, .ref 31] m Q
    refine y_call rfl rfl rfl rfl rfl (Nat.le_of_ble_eq_true rfl) (Nat.le_of_ble_eq_true rfl) rfl (by decide) H (fun v1 m1 H => ?_)
    obtain ⟨u1, rfl, H⟩ := H
    show yP (xg xs) (d + 1) 123 122 [(0, .ref 31), (1, .int l1), (2, .int l2), (3, .int l3), (4, .int l4), (5, .int l5)] [.int u1] m1 Q
    refine y_zne (t := 128) rfl rfl rfl (fun h => ?_) (fun h => ?_)
    · replace H := H.1 h; clear h
      show yP (xg xs) (d + 1) 123 128 [(0, .ref 31), (1, .int l1), (2, .int l2), (3, .int l3), (4, .int l4), (5, .int l5)] [] m1 Q
      exact H
    · replace H := H.2 h; clear h
      refine y_st rfl rfl rfl rfl rfl (fun _ _ => rfl) ?_
      show yP (xg xs) (d + 1) 123 127 [(0, .ref 31), (1, .int l1), (2, .int l2), (3, .int l3), (4, .int l4), (5, .int l5)] [.int (15 : Int32)] m1 Q
      exact y_iret rfl rfl rfl H
set_option maxRecDepth 20000 in
/-- CodeMaker.Rules.lookAtDeclaration from 128 on -/
theorem w123_128 (xs : List Int32) (d : Nat) (l1 : Int32) (l2 : Int32) (l3 : Int32) (l4 : Int32) (l5 : Int32) (m : yM) (Q : Option Value → yM → Prop) (H : (x_in l3 16401 = true ∧ (x_in l1 16401 = true ∧ (((m.1 7 l1.toNatClampNeg) ≤ (m.1 7 l3.toNatClampNeg) → yP (xg xs) (d + 1) 123 162 [(0, .ref 31), (2, .int l2), (3, .int l3), (4, .int l4), (5, .int l5)] [.int ((-1) : Int32)] m Q) ∧ (¬ (m.1 7 l1.toNatClampNeg) ≤ (m.1 7 l3.toNatClampNeg) → (x_in l3 16401 = true ∧ yP (xg xs) (d + 1) 123 162 [(0, .ref 31), (2, .int l2), (3, .int l3), (4, .int l4), (5, .int l5)] [.int (m.1 7 l3.toNatClampNeg)] m Q)))))) : yP (xg xs) (d + 1) 123 128 [(0, .ref 31), (1, .int l1), (2, .int l2), (3, .int l3), (4, .int l4), (5, .int l5)] [] m Q := by
  refine y_st rfl rfl rfl rfl rfl (fun _ _ => rfl) ?_
  refine y_gf rfl rfl rfl rfl rfl ?_
  refine y_gf rfl rfl rfl rfl rfl ?_
  refine y_st rfl rfl rfl rfl rfl (fun _ _ => rfl) ?_
  show yP (xg xs) (d + 1) 123 136 [(0, .ref 31), (1, .int l1), (2, .int l2), (3, .int l3), (4, .int l4), (5, .int l5)] [.int l3, .ref 7] m Q
  refine y_iald rfl rfl rfl (H.1) ?_
  replace H := H.2
  refine y_st rfl rfl rfl rfl rfl (fun _ _ => rfl) ?_
  refine y_gf rfl rfl rfl rfl rfl ?_
  refine y_gf rfl rfl rfl rfl rfl ?_
  refine y_st rfl rfl rfl rfl rfl (fun _ _ => rfl) ?_
  show yP (xg xs) (d + 1) 123 145 [(0, .ref 31), (1, .int l1), (2, .int l2), (3, .int l3), (4, .int l4), (5, .int l5)] [.int l1, .ref 7, .int (m.1 7 l3.toNatClampNeg)] m Q
  refine y_iald rfl rfl rfl (H.1) ?_
  replace H := H.2
  show yP (xg xs) (d + 1) 123 146 [(0, .ref 31), (1, .int l1), (2, .int l2), (3, .int l3), (4, .int l4), (5, .int l5)] [.int (m.1 7 l1.toNatClampNeg), .int (m.1 7 l3.toNatClampNeg)] m Q
  refine y_ige (t := 161) rfl rfl rfl (fun h => ?_) (fun h => ?_)
  · replace H := H.1 h; clear h
    refine y_st rfl rfl rfl rfl rfl (fun _ _ => rfl) ?_
    show yP (xg xs) (d + 1) 123 162 [(0, .ref 31), (1, .int l1), (2, .int l2), (3, .int l3), (4, .int l4), (5, .int l5)] [.int ((-1) : Int32)] m Q
    refine y_headS (l2 := [(0, .ref 31), (2, .int l2), (3, .int l3), (4, .int l4), (5, .int l5)]) [0, 2, 3, 4, 5] [0, 2, 3, 4, 5] [0, 1, 2, 3, 4, 5] rfl rfl (by decide) rfl (by decide) ?_
    exact H
  · replace H := H.2 h; clear h
    refine y_st rfl rfl rfl rfl rfl (fun _ _ => rfl) ?_
    refine y_gf rfl rfl rfl rfl rfl ?_
    refine y_gf rfl rfl rfl rfl rfl ?_
    refine y_st rfl rfl rfl rfl rfl (fun _ _ => rfl) ?_
    show yP (xg xs) (d + 1) 123 157 [(0, .ref 31), (1, .int l1), (2, .int l2), (3, .int l3), (4, .int l4), (5, .int l5)] [.int l3, .ref 7] m Q
    refine y_iald rfl rfl rfl (H.1) ?_
    replace H := H.2
    refine y_st rfl rfl rfl rfl rfl (fun _ _ => rfl) ?_
    show yP (xg xs) (d + 1) 123 162 [(0, .ref 31), (1, .int l1), (2, .int l2), (3, .int l3), (4, .int l4), (5, .int l5)] [.int (m.1 7 l3.toNatClampNeg)] m Q
    refine y_headS (l2 := [(0, .ref 31), (2, .int l2), (3, .int l3), (4, .int l4), (5, .int l5)]) [0, 2, 3, 4, 5] [0, 2, 3, 4, 5] [0, 1, 2, 3, 4, 5] rfl rfl (by decide) rfl (by decide) ?_
    exact H
set_option maxRecDepth 20000 in
/-- CodeMaker.Rules.lookAtDeclaration from 162 on -/
theorem w123_162 (xs : List Int32) (d : Nat) (l2 : Int32) (l3 : Int32) (l4 : Int32) (l5 : Int32) (s0 : Int32) (m : yM) (Q : Option Value → yM → Prop) (H : ((s0 = ((-1) : Int32) → yP (xg xs) (d + 1) 123 191 [(0, .ref 31), (2, .int l2), (3, .int l3), (4, .int l4), (5, .int l5), (6, .int s0)] [] m Q) ∧ (¬ s0 = ((-1) : Int32) → (yC (xg xs) d 126 [.int l5] m (fun v1 m1 => ∃ u1, v1 = some (Value.int u1) ∧ ((¬ u1 = 0 → Q (some (.int (18 : Int32))) m1) ∧ (u1 = 0 → (yC (xg xs) d 127 [.ref 31, .int l3, .int s0] m1 (fun v2 m2 => ∃ u2, v2 = some (Value.int u2) ∧ ((¬ u2 = 0 → yP (xg xs) (d + 1) 123 191 [(0, .ref 31), (2, .int l2), (3, .int l3), (4, .int l4), (5, .int l5), (6, .int s0)] [] m2 Q) ∧ (u2 = 0 → Q (some (.int (18 : Int32))) m2))))))))))) : yP (xg xs) (d + 1) 123 162 [(0, .ref 31), (2, .int l2), (3, .int l3), (4, .int l4), (5, .int l5)] [.int s0] m Q := by
  refine y_st rfl rfl rfl rfl rfl (fun _ _ => rfl) ?_
  refine y_st rfl rfl rfl rfl rfl (fun _ _ => rfl) ?_
  refine y_st rfl rfl rfl rfl rfl (fun _ _ => rfl) ?_
  show yP (xg xs) (d + 1) 123 167 [(6, .int s0), (0, .ref 31), (2, .int l2), (3, .int l3), (4, .int l4), (5, .int l5)] [.int ((-1) : Int32), .int s0] m Q
  refine y_ieq (t := 191) rfl rfl rfl (fun h => ?_) (fun h => ?_)
  · replace H := H.1 h; clear h
    show yP (xg xs) (d + 1) 123 191 [(6, .int s0), (0, .ref 31), (2, .int l2), (3, .int l3), (4, .int l4), (5, .int l5)] [] m Q
    refine y_headS (l2 := [(0, .ref 31), (2, .int l2), (3, .int l3), (4, .int l4), (5, .int l5), (6, .int s0)]) [1, 2, 3, 4, 5, 0] [0, 2, 3, 4, 5, 6] [6, 0, 2, 3, 4, 5] rfl rfl (by decide) rfl (by decide) ?_
    exact H
  · replace H := H.2 h; clear h
    refine y_st rfl rfl rfl rfl rfl (fun _ _ => rfl) ?_
    show yP (xg xs) (d + 1) 123 172 [(6, .int s0), (0, .ref 31), (2, .int l2), (3, .int l3), (4, .int l4), (5, .int l5)] [.int l5] m Q
    refine y_call rfl rfl rfl rfl rfl (Nat.le_of_ble_eq_true rfl) (Nat.le_of_ble_eq_true rfl) rfl (by decide) H (fun v1 m1 H => ?_)
    obtain ⟨u1, rfl, H⟩ := H
    show yP (xg xs) (d + 1) 123 175 [(6, .int s0), (0, .ref 31), (2, .int l2), (3, .int l3), (4, .int l4), (5, .int l5)] [.int u1] m1 Q
    refine y_zne (t := 188) rfl rfl rfl (fun h => ?_) (fun h => ?_)
    · replace H := H.1 h; clear h
      refine y_st rfl rfl rfl rfl rfl (fun _ _ => rfl) ?_
      show yP (xg xs) (d + 1) 123 190 [(6, .int s0), (0, .ref 31), (2, .int l2), (3, .int l3), (4, .int l4), (5, .int l5)] [.int (18 : Int32)] m1 Q
      exact y_iret rfl rfl rfl H
    · replace H := H.2 h; clear h
      refine y_st rfl rfl rfl rfl rfl (fun _ _ => rfl) ?_
      refine y_st rfl rfl rfl rfl rfl (fun _ _ => rfl) ?_
      refine y_st rfl rfl rfl rfl rfl (fun _ _ => rfl) ?_
      show yP (xg xs) (d + 1) 123 182 [(6, .int s0), (0, .ref 31), (2, .int l2), (3, .int l3), (4, .int l4), (5, .int l5)] [.int s0, .int l3, .ref 31] m1 Q
      refine y_call rfl rfl rfl rfl rfl (Nat.le_of_ble_eq_true rfl) (Nat.le_of_ble_eq_true rfl) rfl (by decide) H (fun v2 m2 H => ?_)
      obtain ⟨u2, rfl, H⟩ := H
      show yP (xg xs) (d + 1) 123 185 [(6, .int s0), (0, .ref 31), (2, .int l2), (3, .int l3), (4, .int l4), (5, .int l5)] [.int u2] m2 Q
      refine y_zne (t := 191) rfl rfl rfl (fun h => ?_) (fun h => ?_)
      · replace H := H.1 h; clear h
        show yP (xg xs) (d + 1) 123 191 [(6, .int s0), (0, .ref 31), (2, .int l2), (3, .int l3), (4, .int l4), (5, .int l5)] [] m2 Q
        refine y_headS (l2 := [(0, .ref 31), (2, .int l2), (3, .int l3), (4, .int l4), (5, .int l5), (6, .int s0)]) [1, 2, 3, 4, 5, 0] [0, 2, 3, 4, 5, 6] [6, 0, 2, 3, 4, 5] rfl rfl (by decide) rfl (by decide) ?_
        exact H
      · replace H := H.2 h; clear h
        refine y_st rfl rfl rfl rfl rfl (fun _ _ => rfl) ?_
        show yP (xg xs) (d + 1) 123 190 [(6, .int s0), (0, .ref 31), (2, .int l2), (3, .int l3), (4, .int l4), (5, .int l5)] [.int (18 : Int32)] m2 Q
        exact y_iret rfl rfl rfl H
set_option maxRecDepth 20000 in
/-- CodeMaker.Rules.lookAtDeclaration from 191 on -/
theorem w123_191 (xs : List Int32) (d : Nat) (l2 : Int32) (l3 : Int32) (l4 : Int32) (l5 : Int32) (l6 : Int32) (m : yM) (Q : Option Value → yM → Prop) (H : ((¬ l6 = ((-1) : Int32) → (x_in l6 16401 = true ∧ yP (xg xs) (d + 1) 123 221 [(0, .ref 31)] [.int (m.1 5 l6.toNatClampNeg), .int l2, .int l3, .int l5, .int l4, .ref 18] m Q)) ∧ (l6 = ((-1) : Int32) → yP (xg xs) (d + 1) 123 221 [(0, .ref 31)] [.int (0 : Int32), .int l2, .int l3, .int l5, .int l4, .ref 18] m Q))) : yP (xg xs) (d + 1) 123 191 [(0, .ref 31), (2, .int l2), (3, .int l3), (4, .int l4), (5, .int l5), (6, .int l6)] [] m Q := by
  refine y_st rfl rfl rfl rfl rfl (fun _ _ => rfl) ?_
  refine y_gf rfl rfl rfl rfl rfl ?_
  refine y_st rfl rfl rfl rfl rfl (fun _ _ => rfl) ?_
  refine y_st rfl rfl rfl rfl rfl (fun _ _ => rfl) ?_
  refine y_st rfl rfl rfl rfl rfl (fun _ _ => rfl) ?_
  refine y_st rfl rfl rfl rfl rfl (fun _ _ => rfl) ?_
  refine y_st rfl rfl rfl rfl rfl (fun _ _ => rfl) ?_
  refine y_st rfl rfl rfl rfl rfl (fun _ _ => rfl) ?_
  show yP (xg xs) (d + 1) 123 204 [(0, .ref 31), (2, .int l2), (3, .int l3), (4, .int l4), (5, .int l5), (6, .int l6)] [.int ((-1) : Int32), .int l6, .int l2, .int l3, .int l5, .int l4, .ref 18] m Q
  refine y_ine (t := 211) rfl rfl rfl (fun h => ?_) (fun h => ?_)
  · replace H := H.1 h; clear h
    refine y_st rfl rfl rfl rfl rfl (fun _ _ => rfl) ?_
    refine y_gf rfl rfl rfl rfl rfl ?_
    refine y_gf rfl rfl rfl rfl rfl ?_
    refine y_st rfl rfl rfl rfl rfl (fun _ _ => rfl) ?_
    show yP (xg xs) (d + 1) 123 220 [(0, .ref 31), (2, .int l2), (3, .int l3), (4, .int l4), (5, .int l5), (6, .int l6)] [.int l6, .ref 5, .int l2, .int l3, .int l5, .int l4, .ref 18] m Q
    refine y_iald rfl rfl rfl (H.1) ?_
    replace H := H.2
    show yP (xg xs) (d + 1) 123 221 [(0, .ref 31), (2, .int l2), (3, .int l3), (4, .int l4), (5, .int l5), (6, .int l6)] [.int (m.1 5 l6.toNatClampNeg), .int l2, .int l3, .int l5, .int l4, .ref 18] m Q
    refine y_headS (l2 := [(0, .ref 31)]) [0] [0] [0, 2, 3, 4, 5, 6] rfl rfl (by decide) rfl (by decide) ?_
    exact H
  · replace H := H.2 h; clear h
    refine y_st rfl rfl rfl rfl rfl (fun _ _ => rfl) ?_
    refine y_st rfl rfl rfl rfl rfl (fun _ _ => rfl) ?_
    show yP (xg xs) (d + 1) 123 221 [(0, .ref 31), (2, .int l2), (3, .int l3), (4, .int l4), (5, .int l5), (6, .int l6)] [.int (0 : Int32), .int l2, .int l3, .int l5, .int l4, .ref 18] m Q
    refine y_headS (l2 := [(0, .ref 31)]) [0] [0] [0, 2, 3, 4, 5, 6] rfl rfl (by decide) rfl (by decide) ?_
    exact H
set_option maxRecDepth 20000 in
/-- CodeMaker.Rules.lookAtDeclaration from 221 on -/
theorem w123_221 (xs : List Int32) (d : Nat) (s1 : Int32) (s2 : Int32) (s3 : Int32) (s4 : Int32) (s5 : Int32) (m : yM) (Q : Option Value → yM → Prop) (H : (yC (xg xs) d 129 [.ref 18, .int s1, .int s2, .int s3, .int s4, .int s5] m (fun v1 m1 => v1 = none ∧ (yC (xg xs) d 116 [.ref 18] m1 (fun v2 m2 => ∃ u2, v2 = some (Value.int u2) ∧ (x_in u2 512 = true ∧ (((m2.1 26 u2.toNatClampNeg) ≤ (4096 : Int32) → Q (some (.int (0 : Int32))) m2) ∧ (¬ (m2.1 26 u2.toNatClampNeg) ≤ (4096 : Int32) → Q (some (.int (19 : Int32))) m2)))))))) : yP (xg xs) (d + 1) 123 221 [(0, .ref 31)] [.int s5, .int s4, .int s3, .int s2, .int s1, .ref 18] m Q := by
  show yP (xg xs) (d + 1) 123 221 [(0, .ref 31)] [.int s5, .int s4, .int s3, .int s2, .int s1, .ref 18] m Q
  refine y_call rfl rfl rfl rfl rfl (Nat.le_of_ble_eq_true rfl) (Nat.le_of_ble_eq_true rfl) rfl (by decide) H (fun v1 m1 H => ?_)
  obtain ⟨rfl, H⟩ := H
  refine y_st rfl rfl rfl rfl rfl (fun _ _ => rfl) ?_
  refine y_gf rfl rfl rfl rfl rfl ?_
  refine y_gf rfl rfl rfl rfl rfl ?_
  refine y_st rfl rfl rfl rfl rfl (fun _ _ => rfl) ?_
  refine y_gf rfl rfl rfl rfl rfl ?_
  show yP (xg xs) (d + 1) 123 235 [(0, .ref 31)] [.ref 18, .ref 26] m1 Q
  refine y_call rfl rfl rfl rfl rfl (Nat.le_of_ble_eq_true rfl) (Nat.le_of_ble_eq_true rfl) rfl (by decide) H (fun v2 m2 H => ?_)
  obtain ⟨u2, rfl, H⟩ := H
  show yP (xg xs) (d + 1) 123 238 [(0, .ref 31)] [.int u2, .ref 26] m2 Q
  refine y_iald rfl rfl rfl (H.1) ?_
  replace H := H.2
  refine y_st rfl rfl rfl rfl rfl (fun _ _ => rfl) ?_
  show yP (xg xs) (d + 1) 123 242 [(0, .ref 31)] [.int (4096 : Int32), .int (m2.1 26 u2.toNatClampNeg)] m2 Q
  refine y_ile (t := 250) rfl rfl rfl (fun h => ?_) (fun h => ?_)
  · replace H := H.1 h; clear h
    refine y_st rfl rfl rfl rfl rfl (fun _ _ => rfl) ?_
    show yP (xg xs) (d + 1) 123 251 [(0, .ref 31)] [.int (0 : Int32)] m2 Q
    exact y_iret rfl rfl rfl H
  · replace H := H.2 h; clear h
    refine y_st rfl rfl rfl rfl rfl (fun _ _ => rfl) ?_
    refine y_st rfl rfl rfl rfl rfl (fun _ _ => rfl) ?_
    show yP (xg xs) (d + 1) 123 251 [(0, .ref 31)] [.int (19 : Int32)] m2 Q
    exact y_iret rfl rfl rfl H
set_option maxRecDepth 20000 in
/-- CodeMaker.Rules.parent from 0 on -/
theorem w124_0 (xs : List Int32) (d : Nat) (m : yM) (Q : Option Value → yM → Prop) (H : (((m.1 31 6) ≤ 0 → Q (some (.int (0 : Int32))) m) ∧ (¬ (m.1 31 6) ≤ 0 → (x_in ((m.1 31 6) - (1 : Int32)) 256 = true ∧ Q (some (.int (m.1 32 (((m.1 31 6) - (1 : Int32)).toNatClampNeg)))) m)))) : yP (xg xs) (d + 1) 124 0 [(0, .ref 31)] [] m Q := by
  refine y_st rfl rfl rfl rfl rfl (fun _ _ => rfl) ?_
  refine y_gf rfl rfl rfl rfl rfl ?_
  show yP (xg xs) (d + 1) 124 4 [(0, .ref 31)] [.int (m.1 31 6)] m Q
  refine y_zle (t := 21) rfl rfl rfl (fun h => ?_) (fun h => ?_)
  · replace H := H.1 h; clear h
    refine y_st rfl rfl rfl rfl rfl (fun _ _ => rfl) ?_
    show yP (xg xs) (d + 1) 124 22 [(0, .ref 31)] [.int (0 : Int32)] m Q
    exact y_iret rfl rfl rfl H
  · replace H := H.2 h; clear h
    refine y_st rfl rfl rfl rfl rfl (fun _ _ => rfl) ?_
    refine y_gf rfl rfl rfl rfl rfl ?_
    refine y_st rfl rfl rfl rfl rfl (fun _ _ => rfl) ?_
    refine y_gf rfl rfl rfl rfl rfl ?_
    refine y_st rfl rfl rfl rfl rfl (fun _ _ => rfl) ?_
    refine y_st rfl rfl rfl rfl rfl (fun _ _ => rfl) ?_
    show yP (xg xs) (d + 1) 124 17 [(0, .ref 31)] [.int ((m.1 31 6) - (1 : Int32)), .ref 32] m Q
    refine y_iald rfl rfl rfl (H.1) ?_
    replace H := H.2
    refine y_st rfl rfl rfl rfl rfl (fun _ _ => rfl) ?_
    show yP (xg xs) (d + 1) 124 22 [(0, .ref 31)] [.int (m.1 32 (((m.1 31 6) - (1 : Int32)).toNatClampNeg))] m Q
    exact y_iret rfl rfl rfl H
set_option maxRecDepth 20000 in
/-- CodeMaker.Rules.fitsPlace from 0 on -/
theorem w125_0 (xs : List Int32) (d : Nat) (l1 : Int32) (l2 : Int32) (m : yM) (Q : Option Value → yM → Prop) (H : (x_in l1 16401 = true ∧ ((¬ (m.1 3 l1.toNatClampNeg) = (8 : Int32) → Q (some (.int (0 : Int32))) m) ∧ ((m.1 3 l1.toNatClampNeg) = (8 : Int32) → (x_in l1 16401 = true ∧ (((768 : Int32) ≤ l2 → yP (xg xs) (d + 1) 125 35 [] [.int (1 : Int32), .int (m.1 5 l1.toNatClampNeg)] m Q) ∧ (¬ (768 : Int32) ≤ l2 → yP (xg xs) (d + 1) 125 35 [] [.int (0 : Int32), .int (m.1 5 l1.toNatClampNeg)] m Q))))))) : yP (xg xs) (d + 1) 125 0 [(0, .ref 31), (1, .int l1), (2, .int l2)] [] m Q := by
  refine y_st rfl rfl rfl rfl rfl (fun _ _ => rfl) ?_
  refine y_gf rfl rfl rfl rfl rfl ?_
  refine y_gf rfl rfl rfl rfl rfl ?_
  refine y_st rfl rfl rfl rfl rfl (fun _ _ => rfl) ?_
  show yP (xg xs) (d + 1) 125 8 [(0, .ref 31), (1, .int l1), (2, .int l2)] [.int l1, .ref 3] m Q
  refine y_iald rfl rfl rfl (H.1) ?_
  replace H := H.2
  refine y_st rfl rfl rfl rfl rfl (fun _ _ => rfl) ?_
  show yP (xg xs) (d + 1) 125 11 [(0, .ref 31), (1, .int l1), (2, .int l2)] [.int (8 : Int32), .int (m.1 3 l1.toNatClampNeg)] m Q
  refine y_ine (t := 42) rfl rfl rfl (fun h => ?_) (fun h => ?_)
  · replace H := H.1 h; clear h
    refine y_st rfl rfl rfl rfl rfl (fun _ _ => rfl) ?_
    show yP (xg xs) (d + 1) 125 43 [(0, .ref 31), (1, .int l1), (2, .int l2)] [.int (0 : Int32)] m Q
    exact y_zret rfl rfl rfl (by decide) H
  · replace H := H.2 h; clear h
    refine y_st rfl rfl rfl rfl rfl (fun _ _ => rfl) ?_
    refine y_gf rfl rfl rfl rfl rfl ?_
    refine y_gf rfl rfl rfl rfl rfl ?_
    refine y_st rfl rfl rfl rfl rfl (fun _ _ => rfl) ?_
    show yP (xg xs) (d + 1) 125 22 [(0, .ref 31), (1, .int l1), (2, .int l2)] [.int l1, .ref 5] m Q
    refine y_iald rfl rfl rfl (H.1) ?_
    replace H := H.2
    refine y_st rfl rfl rfl rfl rfl (fun _ _ => rfl) ?_
    refine y_st rfl rfl rfl rfl rfl (fun _ _ => rfl) ?_
    show yP (xg xs) (d + 1) 125 27 [(0, .ref 31), (1, .int l1), (2, .int l2)] [.int (768 : Int32), .int l2, .int (m.1 5 l1.toNatClampNeg)] m Q
    refine y_ige (t := 34) rfl rfl rfl (fun h => ?_) (fun h => ?_)
    · replace H := H.1 h; clear h
      refine y_st rfl rfl rfl rfl rfl (fun _ _ => rfl) ?_
      show yP (xg xs) (d + 1) 125 35 [(0, .ref 31), (1, .int l1), (2, .int l2)] [.int (1 : Int32), .int (m.1 5 l1.toNatClampNeg)] m Q
      refine y_headS (l2 := []) [] [] [0, 1, 2] rfl rfl (by decide) rfl (by decide) ?_
      exact H
    · replace H := H.2 h; clear h
      refine y_st rfl rfl rfl rfl rfl (fun _ _ => rfl) ?_
      refine y_st rfl rfl rfl rfl rfl (fun _ _ => rfl) ?_
      show yP (xg xs) (d + 1) 125 35 [(0, .ref 31), (1, .int l1), (2, .int l2)] [.int (0 : Int32), .int (m.1 5 l1.toNatClampNeg)] m Q
      refine y_headS (l2 := []) [] [] [0, 1, 2] rfl rfl (by decide) rfl (by decide) ?_
      exact H
set_option maxRecDepth 20000 in
/-- CodeMaker.Rules.fitsPlace from 35 on -/
theorem w125_35 (xs : List Int32) (d : Nat) (s0 : Int32) (s1 : Int32) (m : yM) (Q : Option Value → yM → Prop) (H : ((¬ s0 = s1 → Q (some (.int (0 : Int32))) m) ∧ (s0 = s1 → Q (some (.int (1 : Int32))) m))) : yP (xg xs) (d + 1) 125 35 [] [.int s1, .int s0] m Q := by
  show yP (xg xs) (d + 1) 125 35 [] [.int s1, .int s0] m Q
  refine y_ine (t := 42) rfl rfl rfl (fun h => ?_) (fun h => ?_)
  · replace H := H.1 h; clear h
    refine y_st rfl rfl rfl rfl rfl (fun _ _ => rfl) ?_
    show yP (xg xs) (d + 1) 125 43 [] [.int (0 : Int32)] m Q
    exact y_zret rfl rfl rfl (by decide) H
  · replace H := H.2 h; clear h
    refine y_st rfl rfl rfl rfl rfl (fun _ _ => rfl) ?_
    refine y_st rfl rfl rfl rfl rfl (fun _ _ => rfl) ?_
    show yP (xg xs) (d + 1) 125 43 [] [.int (1 : Int32)] m Q
    exact y_zret rfl rfl rfl (by decide) H
set_option maxRecDepth 20000 in
/-- CodeMaker.Rules.isPlaceRead from 0 on -/
theorem w126_0 (xs : List Int32) (d : Nat) (l0 : Int32) (m : yM) (Q : Option Value → yM → Prop) (H : ((l0 < 0 → yP (xg xs) (d + 1) 126 11 [(0, .int l0)] [] m Q) ∧ (¬ l0 < 0 → ((l0 < (256 : Int32) → Q (some (.int (1 : Int32))) m) ∧ (¬ l0 < (256 : Int32) → yP (xg xs) (d + 1) 126 11 [(0, .int l0)] [] m Q))))) : yP (xg xs) (d + 1) 126 0 [(0, .int l0)] [] m Q := by
  refine y_st rfl rfl rfl rfl rfl (fun _ _ => rfl) ?_
  show yP (xg xs) (d + 1) 126 1 [(0, .int l0)] [.int l0] m Q
  refine y_zlt (t := 11) rfl rfl rfl (fun h => ?_) (fun h => ?_)
  · replace H := H.1 h; clear h
    show yP (xg xs) (d + 1) 126 11 [(0, .int l0)] [] m Q
    exact H
  · replace H := H.2 h; clear h
    refine y_st rfl rfl rfl rfl rfl (fun _ _ => rfl) ?_
    refine y_st rfl rfl rfl rfl rfl (fun _ _ => rfl) ?_
    show yP (xg xs) (d + 1) 126 8 [(0, .int l0)] [.int (256 : Int32), .int l0] m Q
    refine y_ilt (t := 25) rfl rfl rfl (fun h => ?_) (fun h => ?_)
    · replace H := H.1 h; clear h
      refine y_st rfl rfl rfl rfl rfl (fun _ _ => rfl) ?_
      refine y_st rfl rfl rfl rfl rfl (fun _ _ => rfl) ?_
      show yP (xg xs) (d + 1) 126 30 [(0, .int l0)] [.int (1 : Int32)] m Q
      exact y_zret rfl rfl rfl (by decide) H
    · replace H := H.2 h; clear h
      show yP (xg xs) (d + 1) 126 11 [(0, .int l0)] [] m Q
      exact H
set_option maxRecDepth 20000 in
/-- CodeMaker.Rules.isPlaceRead from 11 on -/
theorem w126_11 (xs : List Int32) (d : Nat) (l0 : Int32) (m : yM) (Q : Option Value → yM → Prop) (H : ((l0 < (768 : Int32) → Q (some (.int (0 : Int32))) m) ∧ (¬ l0 < (768 : Int32) → (((832 : Int32) ≤ l0 → Q (some (.int (0 : Int32))) m) ∧ (¬ (832 : Int32) ≤ l0 → Q (some (.int (1 : Int32))) m))))) : yP (xg xs) (d + 1) 126 11 [(0, .int l0)] [] m Q := by
  refine y_st rfl rfl rfl rfl rfl (fun _ _ => rfl) ?_
  refine y_st rfl rfl rfl rfl rfl (fun _ _ => rfl) ?_
  show yP (xg xs) (d + 1) 126 15 [(0, .int l0)] [.int (768 : Int32), .int l0] m Q
  refine y_ilt (t := 29) rfl rfl rfl (fun h => ?_) (fun h => ?_)
  · replace H := H.1 h; clear h
    refine y_st rfl rfl rfl rfl rfl (fun _ _ => rfl) ?_
    show yP (xg xs) (d + 1) 126 30 [(0, .int l0)] [.int (0 : Int32)] m Q
    exact y_zret rfl rfl rfl (by decide) H
  · replace H := H.2 h; clear h
    refine y_st rfl rfl rfl rfl rfl (fun _ _ => rfl) ?_
    refine y_st rfl rfl rfl rfl rfl (fun _ _ => rfl) ?_
    show yP (xg xs) (d + 1) 126 22 [(0, .int l0)] [.int (832 : Int32), .int l0] m Q
    refine y_ige (t := 29) rfl rfl rfl (fun h => ?_) (fun h => ?_)
    · replace H := H.1 h; clear h
      refine y_st rfl rfl rfl rfl rfl (fun _ _ => rfl) ?_
      show yP (xg xs) (d + 1) 126 30 [(0, .int l0)] [.int (0 : Int32)] m Q
      exact y_zret rfl rfl rfl (by decide) H
    · replace H := H.2 h; clear h
      refine y_st rfl rfl rfl rfl rfl (fun _ _ => rfl) ?_
      refine y_st rfl rfl rfl rfl rfl (fun _ _ => rfl) ?_
      show yP (xg xs) (d + 1) 126 30 [(0, .int l0)] [.int (1 : Int32)] m Q
      exact y_zret rfl rfl rfl (by decide) H
set_option maxRecDepth 20000 in
/-- CodeMaker.Rules.mayBegin from 0 on -/
theorem w127_0 (xs : List Int32) (d : Nat) (l1 : Int32) (l2 : Int32) (m : yM) (Q : Option Value → yM → Prop) (H : (x_in l1 16401 = true ∧ ((¬ (m.1 3 l1.toNatClampNeg) = (10 : Int32) → (x_in l1 16401 = true ∧ ((¬ (m.1 3 l1.toNatClampNeg) = (9 : Int32) → (x_in l1 16401 = true ∧ yP (xg xs) (d + 1) 127 51 [(0, .ref 31), (2, .int l2)] [.int (m.1 5 l1.toNatClampNeg)] m Q)) ∧ ((m.1 3 l1.toNatClampNeg) = (9 : Int32) → (x_in l1 16401 = true ∧ yP (xg xs) (d + 1) 127 51 [(0, .ref 31), (2, .int l2)] [.int (m.1 6 l1.toNatClampNeg)] m Q))))) ∧ ((m.1 3 l1.toNatClampNeg) = (10 : Int32) → Q (some (.int (0 : Int32))) m)))) : yP (xg xs) (d + 1) 127 0 [(0, .ref 31), (1, .int l1), (2, .int l2)] [] m Q := by
  refine y_st rfl rfl rfl rfl rfl (fun _ _ => rfl) ?_
  refine y_gf rfl rfl rfl rfl rfl ?_
  refine y_gf rfl rfl rfl rfl rfl ?_
  refine y_st rfl rfl rfl rfl rfl (fun _ _ => rfl) ?_
  show yP (xg xs) (d + 1) 127 8 [(0, .ref 31), (1, .int l1), (2, .int l2)] [.int l1, .ref 3] m Q
  refine y_iald rfl rfl rfl (H.1) ?_
  replace H := H.2
  refine y_st rfl rfl rfl rfl rfl (fun _ _ => rfl) ?_
  show yP (xg xs) (d + 1) 127 11 [(0, .ref 31), (1, .int l1), (2, .int l2)] [.int (10 : Int32), .int (m.1 3 l1.toNatClampNeg)] m Q
  refine y_ine (t := 16) rfl rfl rfl (fun h => ?_) (fun h => ?_)
  · replace H := H.1 h; clear h
    refine y_st rfl rfl rfl rfl rfl (fun _ _ => rfl) ?_
    refine y_gf rfl rfl rfl rfl rfl ?_
    refine y_gf rfl rfl rfl rfl rfl ?_
    refine y_st rfl rfl rfl rfl rfl (fun _ _ => rfl) ?_
    show yP (xg xs) (d + 1) 127 24 [(0, .ref 31), (1, .int l1), (2, .int l2)] [.int l1, .ref 3] m Q
    refine y_iald rfl rfl rfl (H.1) ?_
    replace H := H.2
    refine y_st rfl rfl rfl rfl rfl (fun _ _ => rfl) ?_
    show yP (xg xs) (d + 1) 127 27 [(0, .ref 31), (1, .int l1), (2, .int l2)] [.int (9 : Int32), .int (m.1 3 l1.toNatClampNeg)] m Q
    refine y_ine (t := 42) rfl rfl rfl (fun h => ?_) (fun h => ?_)
    · replace H := H.1 h; clear h
      refine y_st rfl rfl rfl rfl rfl (fun _ _ => rfl) ?_
      refine y_gf rfl rfl rfl rfl rfl ?_
      refine y_gf rfl rfl rfl rfl rfl ?_
      refine y_st rfl rfl rfl rfl rfl (fun _ _ => rfl) ?_
      show yP (xg xs) (d + 1) 127 50 [(0, .ref 31), (1, .int l1), (2, .int l2)] [.int l1, .ref 5] m Q
      refine y_iald rfl rfl rfl (H.1) ?_
      replace H := H.2
      show yP (xg xs) (d + 1) 127 51 [(0, .ref 31), (1, .int l1), (2, .int l2)] [.int (m.1 5 l1.toNatClampNeg)] m Q
      refine y_headS (l2 := [(0, .ref 31), (2, .int l2)]) [0, 2] [0, 2] [0, 1, 2] rfl rfl (by decide) rfl (by decide) ?_
      exact H
    · replace H := H.2 h; clear h
      refine y_st rfl rfl rfl rfl rfl (fun _ _ => rfl) ?_
      refine y_gf rfl rfl rfl rfl rfl ?_
      refine y_gf rfl rfl rfl rfl rfl ?_
      refine y_st rfl rfl rfl rfl rfl (fun _ _ => rfl) ?_
      show yP (xg xs) (d + 1) 127 38 [(0, .ref 31), (1, .int l1), (2, .int l2)] [.int l1, .ref 6] m Q
      refine y_iald rfl rfl rfl (H.1) ?_
      replace H := H.2
      refine y_st rfl rfl rfl rfl rfl (fun _ _ => rfl) ?_
      show yP (xg xs) (d + 1) 127 51 [(0, .ref 31), (1, .int l1), (2, .int l2)] [.int (m.1 6 l1.toNatClampNeg)] m Q
      refine y_headS (l2 := [(0, .ref 31), (2, .int l2)]) [0, 2] [0, 2] [0, 1, 2] rfl rfl (by decide) rfl (by decide) ?_
      exact H
  · replace H := H.2 h; clear h
    refine y_st rfl rfl rfl rfl rfl (fun _ _ => rfl) ?_
    show yP (xg xs) (d + 1) 127 15 [(0, .ref 31), (1, .int l1), (2, .int l2)] [.int (0 : Int32)] m Q
    exact y_zret rfl rfl rfl (by decide) H
set_option maxRecDepth 20000 in
/-- CodeMaker.Rules.mayBegin from 51 on -/
theorem w127_51 (xs : List Int32) (d : Nat) (l2 : Int32) (s0 : Int32) (m : yM) (Q : Option Value → yM → Prop) (H : (x_in l2 16401 = true ∧ (((m.1 3 l2.toNatClampNeg) = (31 : Int32) → yP (xg xs) (d + 1) 127 70 [(0, .ref 31), (2, .int l2), (3, .int s0)] [] m Q) ∧ (¬ (m.1 3 l2.toNatClampNeg) = (31 : Int32) → ((¬ s0 = 0 → (x_in l2 16401 = true ∧ (yC (xg xs) d 128 [.int (m.1 5 l2.toNatClampNeg), .int s0] m (fun v1 m1 => ∃ u1, v1 = some (Value.int u1) ∧ ((u1 = 0 ∨ u1 = 1) ∧ Q (some (.int u1)) m1))))) ∧ (s0 = 0 → yP (xg xs) (d + 1) 127 70 [(0, .ref 31), (2, .int l2), (3, .int s0)] [] m Q)))))) : yP (xg xs) (d + 1) 127 51 [(0, .ref 31), (2, .int l2)] [.int s0] m Q := by
  refine y_st rfl rfl rfl rfl rfl (fun _ _ => rfl) ?_
  refine y_st rfl rfl rfl rfl rfl (fun _ _ => rfl) ?_
  refine y_gf rfl rfl rfl rfl rfl ?_
  refine y_gf rfl rfl rfl rfl rfl ?_
  refine y_st rfl rfl rfl rfl rfl (fun _ _ => rfl) ?_
  show yP (xg xs) (d + 1) 127 60 [(3, .int s0), (0, .ref 31), (2, .int l2)] [.int l2, .ref 3] m Q
  refine y_iald rfl rfl rfl (H.1) ?_
  replace H := H.2
  refine y_st rfl rfl rfl rfl rfl (fun _ _ => rfl) ?_
  show yP (xg xs) (d + 1) 127 63 [(3, .int s0), (0, .ref 31), (2, .int l2)] [.int (31 : Int32), .int (m.1 3 l2.toNatClampNeg)] m Q
  refine y_ieq (t := 70) rfl rfl rfl (fun h => ?_) (fun h => ?_)
  · replace H := H.1 h; clear h
    show yP (xg xs) (d + 1) 127 70 [(3, .int s0), (0, .ref 31), (2, .int l2)] [] m Q
    refine y_headS (l2 := [(0, .ref 31), (2, .int l2), (3, .int s0)]) [1, 2, 0] [0, 2, 3] [3, 0, 2] rfl rfl (by decide) rfl (by decide) ?_
    exact H
  · replace H := H.2 h; clear h
    refine y_st rfl rfl rfl rfl rfl (fun _ _ => rfl) ?_
    show yP (xg xs) (d + 1) 127 67 [(3, .int s0), (0, .ref 31), (2, .int l2)] [.int s0] m Q
    refine y_zne (t := 94) rfl rfl rfl (fun h => ?_) (fun h => ?_)
    · replace H := H.1 h; clear h
      refine y_st rfl rfl rfl rfl rfl (fun _ _ => rfl) ?_
      refine y_gf rfl rfl rfl rfl rfl ?_
      refine y_gf rfl rfl rfl rfl rfl ?_
      refine y_st rfl rfl rfl rfl rfl (fun _ _ => rfl) ?_
      show yP (xg xs) (d + 1) 127 102 [(3, .int s0), (0, .ref 31), (2, .int l2)] [.int l2, .ref 5] m Q
      refine y_iald rfl rfl rfl (H.1) ?_
      replace H := H.2
      refine y_st rfl rfl rfl rfl rfl (fun _ _ => rfl) ?_
      show yP (xg xs) (d + 1) 127 104 [(3, .int s0), (0, .ref 31), (2, .int l2)] [.int s0, .int (m.1 5 l2.toNatClampNeg)] m Q
      refine y_call rfl rfl rfl rfl rfl (Nat.le_of_ble_eq_true rfl) (Nat.le_of_ble_eq_true rfl) rfl (by decide) H (fun v1 m1 H => ?_)
      obtain ⟨u1, rfl, H⟩ := H
      show yP (xg xs) (d + 1) 127 107 [(3, .int s0), (0, .ref 31), (2, .int l2)] [.int u1] m1 Q
      exact y_zret rfl rfl rfl H.1 H.2
    · replace H := H.2 h; clear h
      show yP (xg xs) (d + 1) 127 70 [(3, .int s0), (0, .ref 31), (2, .int l2)] [] m Q
      refine y_headS (l2 := [(0, .ref 31), (2, .int l2), (3, .int s0)]) [1, 2, 0] [0, 2, 3] [3, 0, 2] rfl rfl (by decide) rfl (by decide) ?_
      exact H
set_option maxRecDepth 20000 in
/-- CodeMaker.Rules.mayBegin from 70 on -/
theorem w127_70 (xs : List Int32) (d : Nat) (l2 : Int32) (l3 : Int32) (m : yM) (Q : Option Value → yM → Prop) (H : (x_in l2 16401 = true ∧ ((¬ (m.1 3 l2.toNatClampNeg) = (31 : Int32) → Q (some (.int (0 : Int32))) m) ∧ ((m.1 3 l2.toNatClampNeg) = (31 : Int32) → ((¬ l3 = 0 → Q (some (.int (0 : Int32))) m) ∧ (l3 = 0 → Q (some (.int (1 : Int32))) m)))))) : yP (xg xs) (d + 1) 127 70 [(0, .ref 31), (2, .int l2), (3, .int l3)] [] m Q := by
  refine y_st rfl rfl rfl rfl rfl (fun _ _ => rfl) ?_
  refine y_gf rfl rfl rfl rfl rfl ?_
  refine y_gf rfl rfl rfl rfl rfl ?_
  refine y_st rfl rfl rfl rfl rfl (fun _ _ => rfl) ?_
  show yP (xg xs) (d + 1) 127 78 [(0, .ref 31), (2, .int l2), (3, .int l3)] [.int l2, .ref 3] m Q
  refine y_iald rfl rfl rfl (H.1) ?_
  replace H := H.2
  refine y_st rfl rfl rfl rfl rfl (fun _ _ => rfl) ?_
  show yP (xg xs) (d + 1) 127 81 [(0, .ref 31), (2, .int l2), (3, .int l3)] [.int (31 : Int32), .int (m.1 3 l2.toNatClampNeg)] m Q
  refine y_ine (t := 92) rfl rfl rfl (fun h => ?_) (fun h => ?_)
  · replace H := H.1 h; clear h
    refine y_st rfl rfl rfl rfl rfl (fun _ _ => rfl) ?_
    show yP (xg xs) (d + 1) 127 93 [(0, .ref 31), (2, .int l2), (3, .int l3)] [.int (0 : Int32)] m Q
    exact y_zret rfl rfl rfl (by decide) H
  · replace H := H.2 h; clear h
    refine y_st rfl rfl rfl rfl rfl (fun _ _ => rfl) ?_
    show yP (xg xs) (d + 1) 127 85 [(0, .ref 31), (2, .int l2), (3, .int l3)] [.int l3] m Q
    refine y_zne (t := 92) rfl rfl rfl (fun h => ?_) (fun h => ?_)
    · replace H := H.1 h; clear h
      refine y_st rfl rfl rfl rfl rfl (fun _ _ => rfl) ?_
      show yP (xg xs) (d + 1) 127 93 [(0, .ref 31), (2, .int l2), (3, .int l3)] [.int (0 : Int32)] m Q
      exact y_zret rfl rfl rfl (by decide) H
    · replace H := H.2 h; clear h
      refine y_st rfl rfl rfl rfl rfl (fun _ _ => rfl) ?_
      refine y_st rfl rfl rfl rfl rfl (fun _ _ => rfl) ?_
      show yP (xg xs) (d + 1) 127 93 [(0, .ref 31), (2, .int l2), (3, .int l3)] [.int (1 : Int32)] m Q
      exact y_zret rfl rfl rfl (by decide) H
set_option maxRecDepth 20000 in
/-- CodeMaker.Rules.isInRange from 0 on -/
theorem w128_0 (xs : List Int32) (d : Nat) (l0 : Int32) (l1 : Int32) (m : yM) (Q : Option Value → yM → Prop) (H : ((¬ l1 = (1 : Int32) → Q (some (.int (1 : Int32))) m) ∧ (l1 = (1 : Int32) → ((l0 < ((-32768) : Int32) → Q (some (.int (0 : Int32))) m) ∧ (¬ l0 < ((-32768) : Int32) → (((32767 : Int32) < l0 → Q (some (.int (0 : Int32))) m) ∧ (¬ (32767 : Int32) < l0 → Q (some (.int (1 : Int32))) m))))))) : yP (xg xs) (d + 1) 128 0 [(0, .int l0), (1, .int l1)] [] m Q := by
  refine y_st rfl rfl rfl rfl rfl (fun _ _ => rfl) ?_
  refine y_st rfl rfl rfl rfl rfl (fun _ _ => rfl) ?_
  show yP (xg xs) (d + 1) 128 2 [(0, .int l0), (1, .int l1)] [.int (1 : Int32), .int l1] m Q
  refine y_ine (t := 19) rfl rfl rfl (fun h => ?_) (fun h => ?_)
  · replace H := H.1 h; clear h
    refine y_st rfl rfl rfl rfl rfl (fun _ _ => rfl) ?_
    refine y_st rfl rfl rfl rfl rfl (fun _ _ => rfl) ?_
    show yP (xg xs) (d + 1) 128 24 [(0, .int l0), (1, .int l1)] [.int (1 : Int32)] m Q
    exact y_zret rfl rfl rfl (by decide) H
  · replace H := H.2 h; clear h
    refine y_st rfl rfl rfl rfl rfl (fun _ _ => rfl) ?_
    refine y_st rfl rfl rfl rfl rfl (fun _ _ => rfl) ?_
    show yP (xg xs) (d + 1) 128 9 [(0, .int l0), (1, .int l1)] [.int ((-32768) : Int32), .int l0] m Q
    refine y_ilt (t := 23) rfl rfl rfl (fun h => ?_) (fun h => ?_)
    · replace H := H.1 h; clear h
      refine y_st rfl rfl rfl rfl rfl (fun _ _ => rfl) ?_
      show yP (xg xs) (d + 1) 128 24 [(0, .int l0), (1, .int l1)] [.int (0 : Int32)] m Q
      exact y_zret rfl rfl rfl (by decide) H
    · replace H := H.2 h; clear h
      refine y_st rfl rfl rfl rfl rfl (fun _ _ => rfl) ?_
      refine y_st rfl rfl rfl rfl rfl (fun _ _ => rfl) ?_
      show yP (xg xs) (d + 1) 128 16 [(0, .int l0), (1, .int l1)] [.int (32767 : Int32), .int l0] m Q
      refine y_igt (t := 23) rfl rfl rfl (fun h => ?_) (fun h => ?_)
      · replace H := H.1 h; clear h
        refine y_st rfl rfl rfl rfl rfl (fun _ _ => rfl) ?_
        show yP (xg xs) (d + 1) 128 24 [(0, .int l0), (1, .int l1)] [.int (0 : Int32)] m Q
        exact y_zret rfl rfl rfl (by decide) H
      · replace H := H.2 h; clear h
        refine y_st rfl rfl rfl rfl rfl (fun _ _ => rfl) ?_
        refine y_st rfl rfl rfl rfl rfl (fun _ _ => rfl) ?_
        show yP (xg xs) (d + 1) 128 24 [(0, .int l0), (1, .int l1)] [.int (1 : Int32)] m Q
        exact y_zret rfl rfl rfl (by decide) H
set_option maxRecDepth 20000 in
/-- CodeMaker.Scope.describeLast from 0 on -/
theorem w129_0 (xs : List Int32) (d : Nat) (l1 : Int32) (l2 : Int32) (l3 : Int32) (l4 : Int32) (l5 : Int32) (m : yM) (Q : Option Value → yM → Prop) (H : yP (xg xs) (d + 1) 129 12 [(0, .ref 18), (2, .int l2), (3, .int l3), (4, .int l4), (5, .int l5), (6, .int (if (0 : Int32) < ((m.1 18 15) - l1) then ((m.1 18 15) - l1) else (0 : Int32)))] [] m Q) : yP (xg xs) (d + 1) 129 0 [(0, .ref 18), (1, .int l1), (2, .int l2), (3, .int l3), (4, .int l4), (5, .int l5)] [] m Q := by
  refine y_st rfl rfl rfl rfl rfl (fun _ _ => rfl) ?_
  refine y_st rfl rfl rfl rfl rfl (fun _ _ => rfl) ?_
  refine y_gf rfl rfl rfl rfl rfl ?_
  refine y_st rfl rfl rfl rfl rfl (fun _ _ => rfl) ?_
  refine y_st rfl rfl rfl rfl rfl (fun _ _ => rfl) ?_
  refine y_mi rfl rfl rfl rfl rfl (Nat.le_of_ble_eq_true rfl) (by omega) ?_
  refine y_st rfl rfl rfl rfl rfl (fun _ _ => rfl) ?_
  show yP (xg xs) (d + 1) 129 12 [(6, .int (if (0 : Int32) < ((m.1 18 15) - l1) then ((m.1 18 15) - l1) else (0 : Int32))), (0, .ref 18), (1, .int l1), (2, .int l2), (3, .int l3), (4, .int l4), (5, .int l5)] [] m Q
  refine y_headS (l2 := [(0, .ref 18), (2, .int l2), (3, .int l3), (4, .int l4), (5, .int l5), (6, .int (if (0 : Int32) < ((m.1 18 15) - l1) then ((m.1 18 15) - l1) else (0 : Int32)))]) [1, 3, 4, 5, 6, 0] [0, 2, 3, 4, 5, 6] [6, 0, 1, 2, 3, 4, 5] rfl rfl (by decide) rfl (by decide) ?_
  exact H
set_option maxRecDepth 20000 in
/-- CodeMaker.Scope.describeLast from 12 on -/
theorem w129_12 (xs : List Int32) (d : Nat) (l2 : Int32) (l3 : Int32) (l4 : Int32) (l5 : Int32) (l6 : Int32) (m : yM) (Q : Option Value → yM → Prop) (H : (((m.1 18 15) ≤ l6 → Q none m) ∧ (¬ (m.1 18 15) ≤ l6 → (yC (xg xs) d 130 [.ref 18, .int l6, .int l3, .int l4, .int l5] m (fun v1 m1 => v1 = none ∧ ((¬ l2 = ((-1) : Int32) → (x_in l6 4097 = true ∧ yP (xg xs) (d + 1) 129 81 [(0, .ref 18), (2, .int l2), (3, .int l3), (4, .int l4), (5, .int l5), (6, .int l6)] [] (y_si m1 20 l6.toNatClampNeg l2) Q)) ∧ (l2 = ((-1) : Int32) → (yC (xg xs) d 116 [.ref 18] m1 (fun v2 m2 => ∃ u2, v2 = some (Value.int u2) ∧ (x_in u2 512 = true ∧ (x_in l6 4097 = true ∧ (yC (xg xs) d 116 [.ref 18] (y_si m2 20 l6.toNatClampNeg (m2.1 26 u2.toNatClampNeg)) (fun v3 m3 => ∃ u3, v3 = some (Value.int u3) ∧ (x_in u3 512 = true ∧ (yC (xg xs) d 131 [.ref 18, .int l3] m3 (fun v4 m4 => ∃ u4, v4 = some (Value.int u4) ∧ (x_in u3 512 = true ∧ yP (xg xs) (d + 1) 129 81 [(0, .ref 18), (2, .int l2), (3, .int l3), (4, .int l4), (5, .int l5), (6, .int l6)] [] (y_si m4 26 u3.toNatClampNeg ((m3.1 26 u3.toNatClampNeg) + u4)) Q))))))))))))))))) : yP (xg xs) (d + 1) 129 12 [(0, .ref 18), (2, .int l2), (3, .int l3), (4, .int l4), (5, .int l5), (6, .int l6)] [] m Q := by
  refine y_st rfl rfl rfl rfl rfl (fun _ _ => rfl) ?_
  refine y_st rfl rfl rfl rfl rfl (fun _ _ => rfl) ?_
  refine y_gf rfl rfl rfl rfl rfl ?_
  show yP (xg xs) (d + 1) 129 18 [(0, .ref 18), (2, .int l2), (3, .int l3), (4, .int l4), (5, .int l5), (6, .int l6)] [.int (m.1 18 15), .int l6] m Q
  refine y_ige (t := 87) rfl rfl rfl (fun h => ?_) (fun h => ?_)
  · replace H := H.1 h; clear h
    show yP (xg xs) (d + 1) 129 87 [(0, .ref 18), (2, .int l2), (3, .int l3), (4, .int l4), (5, .int l5), (6, .int l6)] [] m Q
    exact y_ret rfl rfl rfl rfl H
  · replace H := H.2 h; clear h
    refine y_st rfl rfl rfl rfl rfl (fun _ _ => rfl) ?_
    refine y_st rfl rfl rfl rfl rfl (fun _ _ => rfl) ?_
    refine y_st rfl rfl rfl rfl rfl (fun _ _ => rfl) ?_
    refine y_st rfl rfl rfl rfl rfl (fun _ _ => rfl) ?_
    refine y_st rfl rfl rfl rfl rfl (fun _ _ => rfl) ?_
    show yP (xg xs) (d + 1) 129 29 [(0, .ref 18), (2, .int l2), (3, .int l3), (4, .int l4), (5, .int l5), (6, .int l6)] [.int l5, .int l4, .int l3, .int l6, .ref 18] m Q
    refine y_call rfl rfl rfl rfl rfl (Nat.le_of_ble_eq_true rfl) (Nat.le_of_ble_eq_true rfl) rfl (by decide) H (fun v1 m1 H => ?_)
    obtain ⟨rfl, H⟩ := H
    refine y_st rfl rfl rfl rfl rfl (fun _ _ => rfl) ?_
    refine y_st rfl rfl rfl rfl rfl (fun _ _ => rfl) ?_
    show yP (xg xs) (d + 1) 129 34 [(0, .ref 18), (2, .int l2), (3, .int l3), (4, .int l4), (5, .int l5), (6, .int l6)] [.int ((-1) : Int32), .int l2] m1 Q
    refine y_ine (t := 73) rfl rfl rfl (fun h => ?_) (fun h => ?_)
    · replace H := H.1 h; clear h
      refine y_st rfl rfl rfl rfl rfl (fun _ _ => rfl) ?_
      refine y_gf rfl rfl rfl rfl rfl ?_
      refine y_st rfl rfl rfl rfl rfl (fun _ _ => rfl) ?_
      refine y_st rfl rfl rfl rfl rfl (fun _ _ => rfl) ?_
      show yP (xg xs) (d + 1) 129 80 [(0, .ref 18), (2, .int l2), (3, .int l3), (4, .int l4), (5, .int l5), (6, .int l6)] [.int l2, .int l6, .ref 20] m1 Q
      refine y_iast rfl rfl rfl (H.1) ?_
      replace H := H.2
      show yP (xg xs) (d + 1) 129 81 [(0, .ref 18), (2, .int l2), (3, .int l3), (4, .int l4), (5, .int l5), (6, .int l6)] [] (y_si m1 20 l6.toNatClampNeg l2) Q
      exact H
    · replace H := H.2 h; clear h
      refine y_st rfl rfl rfl rfl rfl (fun _ _ => rfl) ?_
      refine y_gf rfl rfl rfl rfl rfl ?_
      refine y_st rfl rfl rfl rfl rfl (fun _ _ => rfl) ?_
      refine y_st rfl rfl rfl rfl rfl (fun _ _ => rfl) ?_
      refine y_gf rfl rfl rfl rfl rfl ?_
      refine y_st rfl rfl rfl rfl rfl (fun _ _ => rfl) ?_
      show yP (xg xs) (d + 1) 129 48 [(0, .ref 18), (2, .int l2), (3, .int l3), (4, .int l4), (5, .int l5), (6, .int l6)] [.ref 18, .ref 26, .int l6, .ref 20] m1 Q
      refine y_call rfl rfl rfl rfl rfl (Nat.le_of_ble_eq_true rfl) (Nat.le_of_ble_eq_true rfl) rfl (by decide) H (fun v2 m2 H => ?_)
      obtain ⟨u2, rfl, H⟩ := H
      show yP (xg xs) (d + 1) 129 51 [(0, .ref 18), (2, .int l2), (3, .int l3), (4, .int l4), (5, .int l5), (6, .int l6)] [.int u2, .ref 26, .int l6, .ref 20] m2 Q
      refine y_iald rfl rfl rfl (H.1) ?_
      replace H := H.2
      show yP (xg xs) (d + 1) 129 52 [(0, .ref 18), (2, .int l2), (3, .int l3), (4, .int l4), (5, .int l5), (6, .int l6)] [.int (m2.1 26 u2.toNatClampNeg), .int l6, .ref 20] m2 Q
      refine y_iast rfl rfl rfl (H.1) ?_
      replace H := H.2
      refine y_st rfl rfl rfl rfl rfl (fun _ _ => rfl) ?_
      refine y_gf rfl rfl rfl rfl rfl ?_
      refine y_st rfl rfl rfl rfl rfl (fun _ _ => rfl) ?_
      show yP (xg xs) (d + 1) 129 58 [(0, .ref 18), (2, .int l2), (3, .int l3), (4, .int l4), (5, .int l5), (6, .int l6)] [.ref 18, .ref 26] (y_si m2 20 l6.toNatClampNeg (m2.1 26 u2.toNatClampNeg)) Q
      refine y_call rfl rfl rfl rfl rfl (Nat.le_of_ble_eq_true rfl) (Nat.le_of_ble_eq_true rfl) rfl (by decide) H (fun v3 m3 H => ?_)
      obtain ⟨u3, rfl, H⟩ := H
      refine y_st rfl rfl rfl rfl rfl (fun _ _ => rfl) ?_
      show yP (xg xs) (d + 1) 129 62 [(0, .ref 18), (2, .int l2), (3, .int l3), (4, .int l4), (5, .int l5), (6, .int l6)] [.int u3, .ref 26, .int u3, .ref 26] m3 Q
      refine y_iald rfl rfl rfl (H.1) ?_
      replace H := H.2
      refine y_st rfl rfl rfl rfl rfl (fun _ _ => rfl) ?_
      refine y_st rfl rfl rfl rfl rfl (fun _ _ => rfl) ?_
      show yP (xg xs) (d + 1) 129 65 [(0, .ref 18), (2, .int l2), (3, .int l3), (4, .int l4), (5, .int l5), (6, .int l6)] [.int l3, .ref 18, .int (m3.1 26 u3.toNatClampNeg), .int u3, .ref 26] m3 Q
      refine y_call rfl rfl rfl rfl rfl (Nat.le_of_ble_eq_true rfl) (Nat.le_of_ble_eq_true rfl) rfl (by decide) H (fun v4 m4 H => ?_)
      obtain ⟨u4, rfl, H⟩ := H
      refine y_st rfl rfl rfl rfl rfl (fun _ _ => rfl) ?_
      show yP (xg xs) (d + 1) 129 69 [(0, .ref 18), (2, .int l2), (3, .int l3), (4, .int l4), (5, .int l5), (6, .int l6)] [.int ((m3.1 26 u3.toNatClampNeg) + u4), .int u3, .ref 26] m4 Q
      refine y_iast rfl rfl rfl (H.1) ?_
      replace H := H.2
      refine y_st rfl rfl rfl rfl rfl (fun _ _ => rfl) ?_
      show yP (xg xs) (d + 1) 129 81 [(0, .ref 18), (2, .int l2), (3, .int l3), (4, .int l4), (5, .int l5), (6, .int l6)] [] (y_si m4 26 u3.toNatClampNeg ((m3.1 26 u3.toNatClampNeg) + u4)) Q
      exact H
set_option maxRecDepth 20000 in
/-- CodeMaker.Scope.describeLast from 81 on -/
theorem w129_81 (xs : List Int32) (d : Nat) (l2 : Int32) (l3 : Int32) (l4 : Int32) (l5 : Int32) (l6 : Int32) (m : yM) (Q : Option Value → yM → Prop) (H : yP (xg xs) (d + 1) 129 12 [(0, .ref 18), (2, .int l2), (3, .int l3), (4, .int l4), (5, .int l5), (6, .int (l6 + (1 : Int32)))] [] m Q) : yP (xg xs) (d + 1) 129 81 [(0, .ref 18), (2, .int l2), (3, .int l3), (4, .int l4), (5, .int l5), (6, .int l6)] [] m Q := by
  refine y_st rfl rfl rfl rfl rfl (fun _ _ => rfl) ?_
  refine y_st rfl rfl rfl rfl rfl (fun _ _ => rfl) ?_
  show yP (xg xs) (d + 1) 129 12 [(6, .int (l6 + (1 : Int32))), (0, .ref 18), (2, .int l2), (3, .int l3), (4, .int l4), (5, .int l5)] [] m Q
  refine y_headS (l2 := [(0, .ref 18), (2, .int l2), (3, .int l3), (4, .int l4), (5, .int l5), (6, .int (l6 + (1 : Int32)))]) [1, 2, 3, 4, 5, 0] [0, 2, 3, 4, 5, 6] [6, 0, 2, 3, 4, 5] rfl rfl (by decide) rfl (by decide) ?_
  exact H
set_option maxRecDepth 20000 in
/-- CodeMaker.Scope.describe from 0 on -/
theorem w130_0 (xs : List Int32) (d : Nat) (l1 : Int32) (l2 : Int32) (l3 : Int32) (l4 : Int32) (m : yM) (Q : Option Value → yM → Prop) (H : (x_in l1 4097 = true ∧ (x_in l1 4097 = true ∧ (x_in l1 4097 = true ∧ (x_in l1 4097 = true ∧ Q none (y_si (y_si (y_si (y_si m 21 l1.toNatClampNeg l2) 22 l1.toNatClampNeg l3) 23 l1.toNatClampNeg l4) 20 l1.toNatClampNeg (0 : Int32))))))) : yP (xg xs) (d + 1) 130 0 [(0, .ref 18), (1, .int l1), (2, .int l2), (3, .int l3), (4, .int l4)] [] m Q := by
  refine y_st rfl rfl rfl rfl rfl (fun _ _ => rfl) ?_
  refine y_gf rfl rfl rfl rfl rfl ?_
  refine y_st rfl rfl rfl rfl rfl (fun _ _ => rfl) ?_
  refine y_st rfl rfl rfl rfl rfl (fun _ _ => rfl) ?_
  show yP (xg xs) (d + 1) 130 6 [(0, .ref 18), (1, .int l1), (2, .int l2), (3, .int l3), (4, .int l4)] [.int l2, .int l1, .ref 21] m Q
  refine y_iast rfl rfl rfl (H.1) ?_
  replace H := H.2
  refine y_st rfl rfl rfl rfl rfl (fun _ _ => rfl) ?_
  refine y_gf rfl rfl rfl rfl rfl ?_
  refine y_st rfl rfl rfl rfl rfl (fun _ _ => rfl) ?_
  refine y_st rfl rfl rfl rfl rfl (fun _ _ => rfl) ?_
  show yP (xg xs) (d + 1) 130 13 [(0, .ref 18), (1, .int l1), (2, .int l2), (3, .int l3), (4, .int l4)] [.int l3, .int l1, .ref 22] (y_si m 21 l1.toNatClampNeg l2) Q
  refine y_iast rfl rfl rfl (H.1) ?_
  replace H := H.2
  refine y_st rfl rfl rfl rfl rfl (fun _ _ => rfl) ?_
  refine y_gf rfl rfl rfl rfl rfl ?_
  refine y_st rfl rfl rfl rfl rfl (fun _ _ => rfl) ?_
  refine y_st rfl rfl rfl rfl rfl (fun _ _ => rfl) ?_
  show yP (xg xs) (d + 1) 130 21 [(0, .ref 18), (1, .int l1), (2, .int l2), (3, .int l3), (4, .int l4)] [.int l4, .int l1, .ref 23] (y_si (y_si m 21 l1.toNatClampNeg l2) 22 l1.toNatClampNeg l3) Q
  refine y_iast rfl rfl rfl (H.1) ?_
  replace H := H.2
  refine y_st rfl rfl rfl rfl rfl (fun _ _ => rfl) ?_
  refine y_gf rfl rfl rfl rfl rfl ?_
  refine y_st rfl rfl rfl rfl rfl (fun _ _ => rfl) ?_
  refine y_st rfl rfl rfl rfl rfl (fun _ _ => rfl) ?_
  show yP (xg xs) (d + 1) 130 28 [(0, .ref 18), (1, .int l1), (2, .int l2), (3, .int l3), (4, .int l4)] [.int (0 : Int32), .int l1, .ref 20] (y_si (y_si (y_si m 21 l1.toNatClampNeg l2) 22 l1.toNatClampNeg l3) 23 l1.toNatClampNeg l4) Q
  refine y_iast rfl rfl rfl (H.1) ?_
  replace H := H.2
  show yP (xg xs) (d + 1) 130 29 [(0, .ref 18), (1, .int l1), (2, .int l2), (3, .int l3), (4, .int l4)] [] (y_si (y_si (y_si (y_si m 21 l1.toNatClampNeg l2) 22 l1.toNatClampNeg l3) 23 l1.toNatClampNeg l4) 20 l1.toNatClampNeg (0 : Int32)) Q
  exact y_ret rfl rfl rfl rfl H
set_option maxRecDepth 20000 in
/-- CodeMaker.Scope.sizeOf from 0 on -/
theorem w131_0 (xs : List Int32) (d : Nat) (l1 : Int32) (m : yM) (Q : Option Value → yM → Prop) (H : (x_in l1 16401 = true ∧ ((¬ (m.1 3 l1.toNatClampNeg) = (8 : Int32) → (x_in l1 16401 = true ∧ (x_in l1 16401 = true ∧ ((¬ (m.1 3 l1.toNatClampNeg) = (9 : Int32) → (((9 : Int32) ≤ (m.1 5 l1.toNatClampNeg) → (x_in ((m.1 5 l1.toNatClampNeg) - (9 : Int32)) 512 = true ∧ Q (some (.int (m.1 26 (((m.1 5 l1.toNatClampNeg) - (9 : Int32)).toNatClampNeg)))) m)) ∧ (¬ (9 : Int32) ≤ (m.1 5 l1.toNatClampNeg) → (x_in (m.1 5 l1.toNatClampNeg) xar_2.length = true ∧ Q (some (.int (xar_2.getD ((m.1 5 l1.toNatClampNeg).toNatClampNeg) 0))) m)))) ∧ ((m.1 3 l1.toNatClampNeg) = (9 : Int32) → Q (some (.int (m.1 5 l1.toNatClampNeg))) m))))) ∧ ((m.1 3 l1.toNatClampNeg) = (8 : Int32) → Q (some (.int (1 : Int32))) m)))) : yP (xg xs) (d + 1) 131 0 [(0, .ref 18), (1, .int l1)] [] m Q := by
  refine y_st rfl rfl rfl rfl rfl (fun _ _ => rfl) ?_
  refine y_gf rfl rfl rfl rfl rfl ?_
  refine y_gf rfl rfl rfl rfl rfl ?_
  refine y_st rfl rfl rfl rfl rfl (fun _ _ => rfl) ?_
  show yP (xg xs) (d + 1) 131 8 [(0, .ref 18), (1, .int l1)] [.int l1, .ref 3] m Q
  refine y_iald rfl rfl rfl (H.1) ?_
  replace H := H.2
  refine y_st rfl rfl rfl rfl rfl (fun _ _ => rfl) ?_
  show yP (xg xs) (d + 1) 131 11 [(0, .ref 18), (1, .int l1)] [.int (8 : Int32), .int (m.1 3 l1.toNatClampNeg)] m Q
  refine y_ine (t := 16) rfl rfl rfl (fun h => ?_) (fun h => ?_)
  · replace H := H.1 h; clear h
    refine y_st rfl rfl rfl rfl rfl (fun _ _ => rfl) ?_
    refine y_gf rfl rfl rfl rfl rfl ?_
    refine y_gf rfl rfl rfl rfl rfl ?_
    refine y_st rfl rfl rfl rfl rfl (fun _ _ => rfl) ?_
    show yP (xg xs) (d + 1) 131 24 [(0, .ref 18), (1, .int l1)] [.int l1, .ref 5] m Q
    refine y_iald rfl rfl rfl (H.1) ?_
    replace H := H.2
    refine y_st rfl rfl rfl rfl rfl (fun _ _ => rfl) ?_
    refine y_st rfl rfl rfl rfl rfl (fun _ _ => rfl) ?_
    refine y_gf rfl rfl rfl rfl rfl ?_
    refine y_gf rfl rfl rfl rfl rfl ?_
    refine y_st rfl rfl rfl rfl rfl (fun _ _ => rfl) ?_
    show yP (xg xs) (d + 1) 131 34 [(2, .int (m.1 5 l1.toNatClampNeg)), (0, .ref 18), (1, .int l1)] [.int l1, .ref 3] m Q
    refine y_iald rfl rfl rfl (H.1) ?_
    replace H := H.2
    refine y_st rfl rfl rfl rfl rfl (fun _ _ => rfl) ?_
    show yP (xg xs) (d + 1) 131 37 [(2, .int (m.1 5 l1.toNatClampNeg)), (0, .ref 18), (1, .int l1)] [.int (9 : Int32), .int (m.1 3 l1.toNatClampNeg)] m Q
    refine y_ine (t := 42) rfl rfl rfl (fun h => ?_) (fun h => ?_)
    · replace H := H.1 h; clear h
      refine y_st rfl rfl rfl rfl rfl (fun _ _ => rfl) ?_
      refine y_st rfl rfl rfl rfl rfl (fun _ _ => rfl) ?_
      show yP (xg xs) (d + 1) 131 45 [(2, .int (m.1 5 l1.toNatClampNeg)), (0, .ref 18), (1, .int l1)] [.int (9 : Int32), .int (m.1 5 l1.toNatClampNeg)] m Q
      refine y_ige (t := 56) rfl rfl rfl (fun h => ?_) (fun h => ?_)
      · replace H := H.1 h; clear h
        refine y_st rfl rfl rfl rfl rfl (fun _ _ => rfl) ?_
        refine y_gf rfl rfl rfl rfl rfl ?_
        refine y_st rfl rfl rfl rfl rfl (fun _ _ => rfl) ?_
        refine y_st rfl rfl rfl rfl rfl (fun _ _ => rfl) ?_
        refine y_st rfl rfl rfl rfl rfl (fun _ _ => rfl) ?_
        show yP (xg xs) (d + 1) 131 64 [(2, .int (m.1 5 l1.toNatClampNeg)), (0, .ref 18), (1, .int l1)] [.int ((m.1 5 l1.toNatClampNeg) - (9 : Int32)), .ref 26] m Q
        refine y_iald rfl rfl rfl (H.1) ?_
        replace H := H.2
        show yP (xg xs) (d + 1) 131 65 [(2, .int (m.1 5 l1.toNatClampNeg)), (0, .ref 18), (1, .int l1)] [.int (m.1 26 (((m.1 5 l1.toNatClampNeg) - (9 : Int32)).toNatClampNeg))] m Q
        exact y_iret rfl rfl rfl H
      · replace H := H.2 h; clear h
        refine y_st rfl rfl rfl rfl rfl (fun _ _ => rfl) ?_
        refine y_st rfl rfl rfl rfl rfl (fun _ _ => rfl) ?_
        show yP (xg xs) (d + 1) 131 52 [(2, .int (m.1 5 l1.toNatClampNeg)), (0, .ref 18), (1, .int l1)] [.int (m.1 5 l1.toNatClampNeg), .retAddr 2] m Q
        refine y_cald rfl rfl rfl H.1 ?_
        replace H := H.2
        refine y_st rfl rfl rfl rfl rfl (fun _ _ => rfl) ?_
        show yP (xg xs) (d + 1) 131 65 [(2, .int (m.1 5 l1.toNatClampNeg)), (0, .ref 18), (1, .int l1)] [.int (xar_2.getD ((m.1 5 l1.toNatClampNeg).toNatClampNeg) 0)] m Q
        exact y_iret rfl rfl rfl H
    · replace H := H.2 h; clear h
      refine y_st rfl rfl rfl rfl rfl (fun _ _ => rfl) ?_
      show yP (xg xs) (d + 1) 131 41 [(2, .int (m.1 5 l1.toNatClampNeg)), (0, .ref 18), (1, .int l1)] [.int (m.1 5 l1.toNatClampNeg)] m Q
      exact y_iret rfl rfl rfl H
  · replace H := H.2 h; clear h
    refine y_st rfl rfl rfl rfl rfl (fun _ _ => rfl) ?_
    show yP (xg xs) (d + 1) 131 15 [(0, .ref 18), (1, .int l1)] [.int (1 : Int32)] m Q
    exact y_iret rfl rfl rfl H
set_option maxRecDepth 20000 in
/-- CodeMaker.Rules.lookAtName from 0 on -/
theorem w132_0 (xs : List Int32) (d : Nat) (l1 : Int32) (m : yM) (Q : Option Value → yM → Prop) (H : (yC (xg xs) d 124 [.ref 31] m (fun v1 m1 => ∃ u1, v1 = some (Value.int u1) ∧ (x_in u1 16401 = true ∧ ((¬ (m1.1 3 u1.toNatClampNeg) = (33 : Int32) → (((m1.1 3 u1.toNatClampNeg) = (5 : Int32) → (x_in l1 16401 = true ∧ (yC (xg xs) d 134 [.ref 18, .int (m1.1 5 l1.toNatClampNeg)] m1 (fun v2 m2 => ∃ u2, v2 = some (Value.int u2) ∧ ((¬ u2 = ((-1) : Int32) → Q (some (.int (12 : Int32))) m2) ∧ (u2 = ((-1) : Int32) → (yC (xg xs) d 137 [.ref 18, .int (m1.1 5 l1.toNatClampNeg)] m2 (fun v3 m3 => ∃ u3, v3 = some (Value.int u3) ∧ ((¬ u3 = 0 → Q (some (.int (12 : Int32))) m3) ∧ (u3 = 0 → (yC (xg xs) d 138 [.int (m1.1 5 l1.toNatClampNeg)] m3 (fun v4 m4 => ∃ u4, v4 = some (Value.int u4) ∧ ((u4 = 0 → (yC (xg xs) d 139 [.ref 18, .int (m1.1 5 l1.toNatClampNeg)] m4 (fun v5 m5 => v5 = none ∧ Q (some (.int (0 : Int32))) m5))) ∧ (¬ u4 = 0 → Q (some (.int (12 : Int32))) m4)))))))))))))) ∧ (¬ (m1.1 3 u1.toNatClampNeg) = (5 : Int32) → (yC (xg xs) d 133 [.ref 34, .int l1] m1 (fun v6 m6 => ∃ u6, v6 = some (Value.int u6) ∧ Q (some (.int u6)) m6))))) ∧ ((m1.1 3 u1.toNatClampNeg) = (33 : Int32) → Q (some (.int (0 : Int32))) m1)))))) : yP (xg xs) (d + 1) 132 0 [(0, .ref 31), (1, .int l1)] [] m Q := by
  refine y_st rfl rfl rfl rfl rfl (fun _ _ => rfl) ?_
  refine y_gf rfl rfl rfl rfl rfl ?_
  refine y_gf rfl rfl rfl rfl rfl ?_
  refine y_st rfl rfl rfl rfl rfl (fun _ _ => rfl) ?_
  show yP (xg xs) (d + 1) 132 8 [(0, .ref 31), (1, .int l1)] [.ref 31, .ref 3] m Q
  refine y_call rfl rfl rfl rfl rfl (Nat.le_of_ble_eq_true rfl) (Nat.le_of_ble_eq_true rfl) rfl (by decide) H (fun v1 m1 H => ?_)
  obtain ⟨u1, rfl, H⟩ := H
  show yP (xg xs) (d + 1) 132 11 [(0, .ref 31), (1, .int l1)] [.int u1, .ref 3] m1 Q
  refine y_iald rfl rfl rfl (H.1) ?_
  replace H := H.2
  refine y_st rfl rfl rfl rfl rfl (fun _ _ => rfl) ?_
  refine y_st rfl rfl rfl rfl rfl (fun _ _ => rfl) ?_
  refine y_st rfl rfl rfl rfl rfl (fun _ _ => rfl) ?_
  show yP (xg xs) (d + 1) 132 16 [(2, .int (m1.1 3 u1.toNatClampNeg)), (0, .ref 31), (1, .int l1)] [.int (33 : Int32), .int (m1.1 3 u1.toNatClampNeg)] m1 Q
  refine y_ine (t := 21) rfl rfl rfl (fun h => ?_) (fun h => ?_)
  · replace H := H.1 h; clear h
    refine y_st rfl rfl rfl rfl rfl (fun _ _ => rfl) ?_
    refine y_st rfl rfl rfl rfl rfl (fun _ _ => rfl) ?_
    show yP (xg xs) (d + 1) 132 23 [(2, .int (m1.1 3 u1.toNatClampNeg)), (0, .ref 31), (1, .int l1)] [.int (5 : Int32), .int (m1.1 3 u1.toNatClampNeg)] m1 Q
    refine y_ieq (t := 35) rfl rfl rfl (fun h => ?_) (fun h => ?_)
    · replace H := H.1 h; clear h
      refine y_st rfl rfl rfl rfl rfl (fun _ _ => rfl) ?_
      refine y_gf rfl rfl rfl rfl rfl ?_
      refine y_gf rfl rfl rfl rfl rfl ?_
      refine y_st rfl rfl rfl rfl rfl (fun _ _ => rfl) ?_
      show yP (xg xs) (d + 1) 132 43 [(2, .int (m1.1 3 u1.toNatClampNeg)), (0, .ref 31), (1, .int l1)] [.int l1, .ref 5] m1 Q
      refine y_iald rfl rfl rfl (H.1) ?_
      replace H := H.2
      refine y_st rfl rfl rfl rfl rfl (fun _ _ => rfl) ?_
      refine y_st rfl rfl rfl rfl rfl (fun _ _ => rfl) ?_
      refine y_gf rfl rfl rfl rfl rfl ?_
      refine y_st rfl rfl rfl rfl rfl (fun _ _ => rfl) ?_
      show yP (xg xs) (d + 1) 132 50 [(3, .int (m1.1 5 l1.toNatClampNeg)), (2, .int (m1.1 3 u1.toNatClampNeg)), (0, .ref 31), (1, .int l1)] [.int (m1.1 5 l1.toNatClampNeg), .ref 18] m1 Q
      refine y_call rfl rfl rfl rfl rfl (Nat.le_of_ble_eq_true rfl) (Nat.le_of_ble_eq_true rfl) rfl (by decide) H (fun v2 m2 H => ?_)
      obtain ⟨u2, rfl, H⟩ := H
      refine y_st rfl rfl rfl rfl rfl (fun _ _ => rfl) ?_
      show yP (xg xs) (d + 1) 132 54 [(3, .int (m1.1 5 l1.toNatClampNeg)), (2, .int (m1.1 3 u1.toNatClampNeg)), (0, .ref 31), (1, .int l1)] [.int ((-1) : Int32), .int u2] m2 Q
      refine y_ine (t := 75) rfl rfl rfl (fun h => ?_) (fun h => ?_)
      · replace H := H.1 h; clear h
        refine y_st rfl rfl rfl rfl rfl (fun _ _ => rfl) ?_
        show yP (xg xs) (d + 1) 132 77 [(3, .int (m1.1 5 l1.toNatClampNeg)), (2, .int (m1.1 3 u1.toNatClampNeg)), (0, .ref 31), (1, .int l1)] [.int (12 : Int32)] m2 Q
        exact y_iret rfl rfl rfl H
      · replace H := H.2 h; clear h
        refine y_st rfl rfl rfl rfl rfl (fun _ _ => rfl) ?_
        refine y_gf rfl rfl rfl rfl rfl ?_
        refine y_st rfl rfl rfl rfl rfl (fun _ _ => rfl) ?_
        show yP (xg xs) (d + 1) 132 62 [(3, .int (m1.1 5 l1.toNatClampNeg)), (2, .int (m1.1 3 u1.toNatClampNeg)), (0, .ref 31), (1, .int l1)] [.int (m1.1 5 l1.toNatClampNeg), .ref 18] m2 Q
        refine y_call rfl rfl rfl rfl rfl (Nat.le_of_ble_eq_true rfl) (Nat.le_of_ble_eq_true rfl) rfl (by decide) H (fun v3 m3 H => ?_)
        obtain ⟨u3, rfl, H⟩ := H
        show yP (xg xs) (d + 1) 132 65 [(3, .int (m1.1 5 l1.toNatClampNeg)), (2, .int (m1.1 3 u1.toNatClampNeg)), (0, .ref 31), (1, .int l1)] [.int u3] m3 Q
        refine y_zne (t := 75) rfl rfl rfl (fun h => ?_) (fun h => ?_)
        · replace H := H.1 h; clear h
          refine y_st rfl rfl rfl rfl rfl (fun _ _ => rfl) ?_
          show yP (xg xs) (d + 1) 132 77 [(3, .int (m1.1 5 l1.toNatClampNeg)), (2, .int (m1.1 3 u1.toNatClampNeg)), (0, .ref 31), (1, .int l1)] [.int (12 : Int32)] m3 Q
          exact y_iret rfl rfl rfl H
        · replace H := H.2 h; clear h
          refine y_st rfl rfl rfl rfl rfl (fun _ _ => rfl) ?_
          show yP (xg xs) (d + 1) 132 69 [(3, .int (m1.1 5 l1.toNatClampNeg)), (2, .int (m1.1 3 u1.toNatClampNeg)), (0, .ref 31), (1, .int l1)] [.int (m1.1 5 l1.toNatClampNeg)] m3 Q
          refine y_call rfl rfl rfl rfl rfl (Nat.le_of_ble_eq_true rfl) (Nat.le_of_ble_eq_true rfl) rfl (by decide) H (fun v4 m4 H => ?_)
          obtain ⟨u4, rfl, H⟩ := H
          show yP (xg xs) (d + 1) 132 72 [(3, .int (m1.1 5 l1.toNatClampNeg)), (2, .int (m1.1 3 u1.toNatClampNeg)), (0, .ref 31), (1, .int l1)] [.int u4] m4 Q
          refine y_zeq (t := 78) rfl rfl rfl (fun h => ?_) (fun h => ?_)
          · replace H := H.1 h; clear h
            refine y_st rfl rfl rfl rfl rfl (fun _ _ => rfl) ?_
            refine y_gf rfl rfl rfl rfl rfl ?_
            refine y_st rfl rfl rfl rfl rfl (fun _ _ => rfl) ?_
            show yP (xg xs) (d + 1) 132 83 [(3, .int (m1.1 5 l1.toNatClampNeg)), (2, .int (m1.1 3 u1.toNatClampNeg)), (0, .ref 31), (1, .int l1)] [.int (m1.1 5 l1.toNatClampNeg), .ref 18] m4 Q
            refine y_call rfl rfl rfl rfl rfl (Nat.le_of_ble_eq_true rfl) (Nat.le_of_ble_eq_true rfl) rfl (by decide) H (fun v5 m5 H => ?_)
            obtain ⟨rfl, H⟩ := H
            refine y_st rfl rfl rfl rfl rfl (fun _ _ => rfl) ?_
            show yP (xg xs) (d + 1) 132 87 [(3, .int (m1.1 5 l1.toNatClampNeg)), (2, .int (m1.1 3 u1.toNatClampNeg)), (0, .ref 31), (1, .int l1)] [.int (0 : Int32)] m5 Q
            exact y_iret rfl rfl rfl H
          · replace H := H.2 h; clear h
            refine y_st rfl rfl rfl rfl rfl (fun _ _ => rfl) ?_
            show yP (xg xs) (d + 1) 132 77 [(3, .int (m1.1 5 l1.toNatClampNeg)), (2, .int (m1.1 3 u1.toNatClampNeg)), (0, .ref 31), (1, .int l1)] [.int (12 : Int32)] m4 Q
            exact y_iret rfl rfl rfl H
    · replace H := H.2 h; clear h
      refine y_st rfl rfl rfl rfl rfl (fun _ _ => rfl) ?_
      refine y_gf rfl rfl rfl rfl rfl ?_
      refine y_st rfl rfl rfl rfl rfl (fun _ _ => rfl) ?_
      show yP (xg xs) (d + 1) 132 31 [(2, .int (m1.1 3 u1.toNatClampNeg)), (0, .ref 31), (1, .int l1)] [.int l1, .ref 34] m1 Q
      refine y_call rfl rfl rfl rfl rfl (Nat.le_of_ble_eq_true rfl) (Nat.le_of_ble_eq_true rfl) rfl (by decide) H (fun v6 m6 H => ?_)
      obtain ⟨u6, rfl, H⟩ := H
      show yP (xg xs) (d + 1) 132 34 [(2, .int (m1.1 3 u1.toNatClampNeg)), (0, .ref 31), (1, .int l1)] [.int u6] m6 Q
      exact y_iret rfl rfl rfl H
  · replace H := H.2 h; clear h
    refine y_st rfl rfl rfl rfl rfl (fun _ _ => rfl) ?_
    show yP (xg xs) (d + 1) 132 20 [(2, .int (m1.1 3 u1.toNatClampNeg)), (0, .ref 31), (1, .int l1)] [.int (0 : Int32)] m1 Q
    exact y_iret rfl rfl rfl H
set_option maxRecDepth 20000 in
/-- CodeMaker.Expressions.lookAtName from 0 on -/
theorem w133_0 (xs : List Int32) (d : Nat) (l1 : Int32) (m : yM) (Q : Option Value → yM → Prop) (H : (x_in l1 16401 = true ∧ (yC (xg xs) d 134 [.ref 18, .int (m.1 5 l1.toNatClampNeg)] m (fun v1 m1 => ∃ u1, v1 = some (Value.int u1) ∧ ((¬ u1 = ((-1) : Int32) → (yC (xg xs) d 135 [.ref 18, .int u1] m1 (fun v2 m2 => ∃ u2, v2 = some (Value.int u2) ∧ ((u2 = (8 : Int32) → (x_in l1 16401 = true ∧ (yC (xg xs) d 136 [.ref 18, .int u1] (y_si m2 5 l1.toNatClampNeg u1) (fun v3 m3 => ∃ u3, v3 = some (Value.int u3) ∧ (x_in l1 16401 = true ∧ Q (some (.int (0 : Int32))) (y_si m3 6 l1.toNatClampNeg u3)))))) ∧ (¬ u2 = (8 : Int32) → Q (some (.int (21 : Int32))) m2))))) ∧ (u1 = ((-1) : Int32) → Q (some (.int (20 : Int32))) m1)))))) : yP (xg xs) (d + 1) 133 0 [(0, .ref 34), (1, .int l1)] [] m Q := by
  refine y_st rfl rfl rfl rfl rfl (fun _ _ => rfl) ?_
  refine y_gf rfl rfl rfl rfl rfl ?_
  refine y_st rfl rfl rfl rfl rfl (fun _ _ => rfl) ?_
  refine y_gf rfl rfl rfl rfl rfl ?_
  refine y_gf rfl rfl rfl rfl rfl ?_
  refine y_st rfl rfl rfl rfl rfl (fun _ _ => rfl) ?_
  show yP (xg xs) (d + 1) 133 12 [(0, .ref 34), (1, .int l1)] [.int l1, .ref 5, .ref 18] m Q
  refine y_iald rfl rfl rfl (H.1) ?_
  replace H := H.2
  show yP (xg xs) (d + 1) 133 13 [(0, .ref 34), (1, .int l1)] [.int (m.1 5 l1.toNatClampNeg), .ref 18] m Q
  refine y_call rfl rfl rfl rfl rfl (Nat.le_of_ble_eq_true rfl) (Nat.le_of_ble_eq_true rfl) rfl (by decide) H (fun v1 m1 H => ?_)
  obtain ⟨u1, rfl, H⟩ := H
  refine y_st rfl rfl rfl rfl rfl (fun _ _ => rfl) ?_
  refine y_st rfl rfl rfl rfl rfl (fun _ _ => rfl) ?_
  refine y_st rfl rfl rfl rfl rfl (fun _ _ => rfl) ?_
  show yP (xg xs) (d + 1) 133 19 [(2, .int u1), (0, .ref 34), (1, .int l1)] [.int ((-1) : Int32), .int u1] m1 Q
  refine y_ine (t := 25) rfl rfl rfl (fun h => ?_) (fun h => ?_)
  · replace H := H.1 h; clear h
    refine y_st rfl rfl rfl rfl rfl (fun _ _ => rfl) ?_
    refine y_gf rfl rfl rfl rfl rfl ?_
    refine y_st rfl rfl rfl rfl rfl (fun _ _ => rfl) ?_
    show yP (xg xs) (d + 1) 133 30 [(2, .int u1), (0, .ref 34), (1, .int l1)] [.int u1, .ref 18] m1 Q
    refine y_call rfl rfl rfl rfl rfl (Nat.le_of_ble_eq_true rfl) (Nat.le_of_ble_eq_true rfl) rfl (by decide) H (fun v2 m2 H => ?_)
    obtain ⟨u2, rfl, H⟩ := H
    refine y_st rfl rfl rfl rfl rfl (fun _ _ => rfl) ?_
    show yP (xg xs) (d + 1) 133 35 [(2, .int u1), (0, .ref 34), (1, .int l1)] [.int (8 : Int32), .int u2] m2 Q
    refine y_ieq (t := 41) rfl rfl rfl (fun h => ?_) (fun h => ?_)
    · replace H := H.1 h; clear h
      refine y_st rfl rfl rfl rfl rfl (fun _ _ => rfl) ?_
      refine y_gf rfl rfl rfl rfl rfl ?_
      refine y_gf rfl rfl rfl rfl rfl ?_
      refine y_st rfl rfl rfl rfl rfl (fun _ _ => rfl) ?_
      refine y_st rfl rfl rfl rfl rfl (fun _ _ => rfl) ?_
      show yP (xg xs) (d + 1) 133 50 [(2, .int u1), (0, .ref 34), (1, .int l1)] [.int u1, .int l1, .ref 5] m2 Q
      refine y_iast rfl rfl rfl (H.1) ?_
      replace H := H.2
      refine y_st rfl rfl rfl rfl rfl (fun _ _ => rfl) ?_
      refine y_gf rfl rfl rfl rfl rfl ?_
      refine y_gf rfl rfl rfl rfl rfl ?_
      refine y_st rfl rfl rfl rfl rfl (fun _ _ => rfl) ?_
      refine y_st rfl rfl rfl rfl rfl (fun _ _ => rfl) ?_
      refine y_gf rfl rfl rfl rfl rfl ?_
      refine y_st rfl rfl rfl rfl rfl (fun _ _ => rfl) ?_
      show yP (xg xs) (d + 1) 133 64 [(2, .int u1), (0, .ref 34), (1, .int l1)] [.int u1, .ref 18, .int l1, .ref 6] (y_si m2 5 l1.toNatClampNeg u1) Q
      refine y_call rfl rfl rfl rfl rfl (Nat.le_of_ble_eq_true rfl) (Nat.le_of_ble_eq_true rfl) rfl (by decide) H (fun v3 m3 H => ?_)
      obtain ⟨u3, rfl, H⟩ := H
      show yP (xg xs) (d + 1) 133 67 [(2, .int u1), (0, .ref 34), (1, .int l1)] [.int u3, .int l1, .ref 6] m3 Q
      refine y_iast rfl rfl rfl (H.1) ?_
      replace H := H.2
      refine y_st rfl rfl rfl rfl rfl (fun _ _ => rfl) ?_
      show yP (xg xs) (d + 1) 133 69 [(2, .int u1), (0, .ref 34), (1, .int l1)] [.int (0 : Int32)] (y_si m3 6 l1.toNatClampNeg u3) Q
      exact y_iret rfl rfl rfl H
    · replace H := H.2 h; clear h
      refine y_st rfl rfl rfl rfl rfl (fun _ _ => rfl) ?_
      show yP (xg xs) (d + 1) 133 40 [(2, .int u1), (0, .ref 34), (1, .int l1)] [.int (21 : Int32)] m2 Q
      exact y_iret rfl rfl rfl H
  · replace H := H.2 h; clear h
    refine y_st rfl rfl rfl rfl rfl (fun _ _ => rfl) ?_
    show yP (xg xs) (d + 1) 133 24 [(2, .int u1), (0, .ref 34), (1, .int l1)] [.int (20 : Int32)] m1 Q
    exact y_iret rfl rfl rfl H
set_option maxRecDepth 20000 in
/-- CodeMaker.Scope.variable from 0 on -/
theorem w134_0 (xs : List Int32) (d : Nat) (l1 : Int32) (m : yM) (Q : Option Value → yM → Prop) (H : (x_in l1 4172 = true ∧ (((m.1 18 9) ≤ 0 → Q (some (.int ((-1) : Int32))) m) ∧ (¬ (m.1 18 9) ≤ 0 → (x_in ((m.1 18 9) - (1 : Int32)) 512 = true ∧ (((m.1 29 l1.toNatClampNeg) < (m.1 28 (((m.1 18 9) - (1 : Int32)).toNatClampNeg)) → Q (some (.int ((-1) : Int32))) m) ∧ (¬ (m.1 29 l1.toNatClampNeg) < (m.1 28 (((m.1 18 9) - (1 : Int32)).toNatClampNeg)) → Q (some (.int (m.1 29 l1.toNatClampNeg))) m))))))) : yP (xg xs) (d + 1) 134 0 [(0, .ref 18), (1, .int l1)] [] m Q := by
  refine y_st rfl rfl rfl rfl rfl (fun _ _ => rfl) ?_
  refine y_gf rfl rfl rfl rfl rfl ?_
  refine y_st rfl rfl rfl rfl rfl (fun _ _ => rfl) ?_
  show yP (xg xs) (d + 1) 134 5 [(0, .ref 18), (1, .int l1)] [.int l1, .ref 29] m Q
  refine y_iald rfl rfl rfl (H.1) ?_
  replace H := H.2
  refine y_st rfl rfl rfl rfl rfl (fun _ _ => rfl) ?_
  refine y_st rfl rfl rfl rfl rfl (fun _ _ => rfl) ?_
  refine y_gf rfl rfl rfl rfl rfl ?_
  show yP (xg xs) (d + 1) 134 11 [(2, .int (m.1 29 l1.toNatClampNeg)), (0, .ref 18), (1, .int l1)] [.int (m.1 18 9)] m Q
  refine y_zle (t := 33) rfl rfl rfl (fun h => ?_) (fun h => ?_)
  · replace H := H.1 h; clear h
    refine y_st rfl rfl rfl rfl rfl (fun _ _ => rfl) ?_
    show yP (xg xs) (d + 1) 134 34 [(2, .int (m.1 29 l1.toNatClampNeg)), (0, .ref 18), (1, .int l1)] [.int ((-1) : Int32)] m Q
    exact y_iret rfl rfl rfl H
  · replace H := H.2 h; clear h
    refine y_st rfl rfl rfl rfl rfl (fun _ _ => rfl) ?_
    refine y_st rfl rfl rfl rfl rfl (fun _ _ => rfl) ?_
    refine y_gf rfl rfl rfl rfl rfl ?_
    refine y_st rfl rfl rfl rfl rfl (fun _ _ => rfl) ?_
    refine y_gf rfl rfl rfl rfl rfl ?_
    refine y_st rfl rfl rfl rfl rfl (fun _ _ => rfl) ?_
    refine y_st rfl rfl rfl rfl rfl (fun _ _ => rfl) ?_
    show yP (xg xs) (d + 1) 134 25 [(2, .int (m.1 29 l1.toNatClampNeg)), (0, .ref 18), (1, .int l1)] [.int ((m.1 18 9) - (1 : Int32)), .ref 28, .int (m.1 29 l1.toNatClampNeg)] m Q
    refine y_iald rfl rfl rfl (H.1) ?_
    replace H := H.2
    show yP (xg xs) (d + 1) 134 26 [(2, .int (m.1 29 l1.toNatClampNeg)), (0, .ref 18), (1, .int l1)] [.int (m.1 28 (((m.1 18 9) - (1 : Int32)).toNatClampNeg)), .int (m.1 29 l1.toNatClampNeg)] m Q
    refine y_ilt (t := 33) rfl rfl rfl (fun h => ?_) (fun h => ?_)
    · replace H := H.1 h; clear h
      refine y_st rfl rfl rfl rfl rfl (fun _ _ => rfl) ?_
      show yP (xg xs) (d + 1) 134 34 [(2, .int (m.1 29 l1.toNatClampNeg)), (0, .ref 18), (1, .int l1)] [.int ((-1) : Int32)] m Q
      exact y_iret rfl rfl rfl H
    · replace H := H.2 h; clear h
      refine y_st rfl rfl rfl rfl rfl (fun _ _ => rfl) ?_
      refine y_st rfl rfl rfl rfl rfl (fun _ _ => rfl) ?_
      show yP (xg xs) (d + 1) 134 34 [(2, .int (m.1 29 l1.toNatClampNeg)), (0, .ref 18), (1, .int l1)] [.int (m.1 29 l1.toNatClampNeg)] m Q
      exact y_iret rfl rfl rfl H
set_option maxRecDepth 20000 in
/-- CodeMaker.Scope.formOf from 0 on -/
theorem w135_0 (xs : List Int32) (d : Nat) (l1 : Int32) (m : yM) (Q : Option Value → yM → Prop) (H : (x_in l1 4097 = true ∧ (x_in (m.1 21 l1.toNatClampNeg) 16401 = true ∧ Q (some (.int (m.1 3 ((m.1 21 l1.toNatClampNeg).toNatClampNeg)))) m))) : yP (xg xs) (d + 1) 135 0 [(0, .ref 18), (1, .int l1)] [] m Q := by
  refine y_st rfl rfl rfl rfl rfl (fun _ _ => rfl) ?_
  refine y_gf rfl rfl rfl rfl rfl ?_
  refine y_gf rfl rfl rfl rfl rfl ?_
  refine y_st rfl rfl rfl rfl rfl (fun _ _ => rfl) ?_
  refine y_gf rfl rfl rfl rfl rfl ?_
  refine y_st rfl rfl rfl rfl rfl (fun _ _ => rfl) ?_
  show yP (xg xs) (d + 1) 135 12 [(0, .ref 18), (1, .int l1)] [.int l1, .ref 21, .ref 3] m Q
  refine y_iald rfl rfl rfl (H.1) ?_
  replace H := H.2
  show yP (xg xs) (d + 1) 135 13 [(0, .ref 18), (1, .int l1)] [.int (m.1 21 l1.toNatClampNeg), .ref 3] m Q
  refine y_iald rfl rfl rfl (H.1) ?_
  replace H := H.2
  show yP (xg xs) (d + 1) 135 14 [(0, .ref 18), (1, .int l1)] [.int (m.1 3 ((m.1 21 l1.toNatClampNeg).toNatClampNeg))] m Q
  exact y_iret rfl rfl rfl H
set_option maxRecDepth 20000 in
/-- CodeMaker.Scope.typeOf from 0 on -/
theorem w136_0 (xs : List Int32) (d : Nat) (l1 : Int32) (m : yM) (Q : Option Value → yM → Prop) (H : (yC (xg xs) d 135 [.ref 18, .int l1] m (fun v1 m1 => ∃ u1, v1 = some (Value.int u1) ∧ ((¬ u1 = (9 : Int32) → (x_in l1 4097 = true ∧ (x_in (m1.1 21 l1.toNatClampNeg) 16401 = true ∧ Q (some (.int (m1.1 5 ((m1.1 21 l1.toNatClampNeg).toNatClampNeg)))) m1))) ∧ (u1 = (9 : Int32) → (x_in l1 4097 = true ∧ (x_in (m1.1 21 l1.toNatClampNeg) 16401 = true ∧ Q (some (.int (m1.1 6 ((m1.1 21 l1.toNatClampNeg).toNatClampNeg)))) m1))))))) : yP (xg xs) (d + 1) 136 0 [(0, .ref 18), (1, .int l1)] [] m Q := by
  refine y_st rfl rfl rfl rfl rfl (fun _ _ => rfl) ?_
  refine y_st rfl rfl rfl rfl rfl (fun _ _ => rfl) ?_
  show yP (xg xs) (d + 1) 136 2 [(0, .ref 18), (1, .int l1)] [.int l1, .ref 18] m Q
  refine y_call rfl rfl rfl rfl rfl (Nat.le_of_ble_eq_true rfl) (Nat.le_of_ble_eq_true rfl) rfl (by decide) H (fun v1 m1 H => ?_)
  obtain ⟨u1, rfl, H⟩ := H
  refine y_st rfl rfl rfl rfl rfl (fun _ _ => rfl) ?_
  show yP (xg xs) (d + 1) 136 7 [(0, .ref 18), (1, .int l1)] [.int (9 : Int32), .int u1] m1 Q
  refine y_ine (t := 27) rfl rfl rfl (fun h => ?_) (fun h => ?_)
  · replace H := H.1 h; clear h
    refine y_st rfl rfl rfl rfl rfl (fun _ _ => rfl) ?_
    refine y_gf rfl rfl rfl rfl rfl ?_
    refine y_gf rfl rfl rfl rfl rfl ?_
    refine y_st rfl rfl rfl rfl rfl (fun _ _ => rfl) ?_
    refine y_gf rfl rfl rfl rfl rfl ?_
    refine y_st rfl rfl rfl rfl rfl (fun _ _ => rfl) ?_
    show yP (xg xs) (d + 1) 136 39 [(0, .ref 18), (1, .int l1)] [.int l1, .ref 21, .ref 5] m1 Q
    refine y_iald rfl rfl rfl (H.1) ?_
    replace H := H.2
    show yP (xg xs) (d + 1) 136 40 [(0, .ref 18), (1, .int l1)] [.int (m1.1 21 l1.toNatClampNeg), .ref 5] m1 Q
    refine y_iald rfl rfl rfl (H.1) ?_
    replace H := H.2
    show yP (xg xs) (d + 1) 136 41 [(0, .ref 18), (1, .int l1)] [.int (m1.1 5 ((m1.1 21 l1.toNatClampNeg).toNatClampNeg))] m1 Q
    exact y_iret rfl rfl rfl H
  · replace H := H.2 h; clear h
    refine y_st rfl rfl rfl rfl rfl (fun _ _ => rfl) ?_
    refine y_gf rfl rfl rfl rfl rfl ?_
    refine y_gf rfl rfl rfl rfl rfl ?_
    refine y_st rfl rfl rfl rfl rfl (fun _ _ => rfl) ?_
    refine y_gf rfl rfl rfl rfl rfl ?_
    refine y_st rfl rfl rfl rfl rfl (fun _ _ => rfl) ?_
    show yP (xg xs) (d + 1) 136 22 [(0, .ref 18), (1, .int l1)] [.int l1, .ref 21, .ref 6] m1 Q
    refine y_iald rfl rfl rfl (H.1) ?_
    replace H := H.2
    show yP (xg xs) (d + 1) 136 23 [(0, .ref 18), (1, .int l1)] [.int (m1.1 21 l1.toNatClampNeg), .ref 6] m1 Q
    refine y_iald rfl rfl rfl (H.1) ?_
    replace H := H.2
    refine y_st rfl rfl rfl rfl rfl (fun _ _ => rfl) ?_
    show yP (xg xs) (d + 1) 136 41 [(0, .ref 18), (1, .int l1)] [.int (m1.1 6 ((m1.1 21 l1.toNatClampNeg).toNatClampNeg))] m1 Q
    exact y_iret rfl rfl rfl H
set_option maxRecDepth 20000 in
/-- CodeMaker.Scope.isBlock from 0 on -/
theorem w137_0 (xs : List Int32) (d : Nat) (l1 : Int32) (m : yM) (Q : Option Value → yM → Prop) (H : (x_in l1 4172 = true ∧ (((m.1 30 l1.toNatClampNeg) = ((-1) : Int32) → Q (some (.int (0 : Int32))) m) ∧ (¬ (m.1 30 l1.toNatClampNeg) = ((-1) : Int32) → Q (some (.int (1 : Int32))) m)))) : yP (xg xs) (d + 1) 137 0 [(0, .ref 18), (1, .int l1)] [] m Q := by
  refine y_st rfl rfl rfl rfl rfl (fun _ _ => rfl) ?_
  refine y_gf rfl rfl rfl rfl rfl ?_
  refine y_st rfl rfl rfl rfl rfl (fun _ _ => rfl) ?_
  show yP (xg xs) (d + 1) 137 5 [(0, .ref 18), (1, .int l1)] [.int l1, .ref 30] m Q
  refine y_iald rfl rfl rfl (H.1) ?_
  replace H := H.2
  refine y_st rfl rfl rfl rfl rfl (fun _ _ => rfl) ?_
  show yP (xg xs) (d + 1) 137 7 [(0, .ref 18), (1, .int l1)] [.int ((-1) : Int32), .int (m.1 30 l1.toNatClampNeg)] m Q
  refine y_ieq (t := 14) rfl rfl rfl (fun h => ?_) (fun h => ?_)
  · replace H := H.1 h; clear h
    refine y_st rfl rfl rfl rfl rfl (fun _ _ => rfl) ?_
    show yP (xg xs) (d + 1) 137 15 [(0, .ref 18), (1, .int l1)] [.int (0 : Int32)] m Q
    exact y_zret rfl rfl rfl (by decide) H
  · replace H := H.2 h; clear h
    refine y_st rfl rfl rfl rfl rfl (fun _ _ => rfl) ?_
    refine y_st rfl rfl rfl rfl rfl (fun _ _ => rfl) ?_
    show yP (xg xs) (d + 1) 137 15 [(0, .ref 18), (1, .int l1)] [.int (1 : Int32)] m Q
    exact y_zret rfl rfl rfl (by decide) H
set_option maxRecDepth 20000 in
/-- CodeMaker.Scope.isStandard from 0 on -/
theorem w138_0 (xs : List Int32) (d : Nat) (l0 : Int32) (m : yM) (Q : Option Value → yM → Prop) (H : ((l0 < (41 : Int32) → Q (some (.int (0 : Int32))) m) ∧ (¬ l0 < (41 : Int32) → (((60 : Int32) ≤ l0 → Q (some (.int (0 : Int32))) m) ∧ (¬ (60 : Int32) ≤ l0 → Q (some (.int (1 : Int32))) m))))) : yP (xg xs) (d + 1) 138 0 [(0, .int l0)] [] m Q := by
  refine y_st rfl rfl rfl rfl rfl (fun _ _ => rfl) ?_
  refine y_st rfl rfl rfl rfl rfl (fun _ _ => rfl) ?_
  show yP (xg xs) (d + 1) 138 3 [(0, .int l0)] [.int (41 : Int32), .int l0] m Q
  refine y_ilt (t := 16) rfl rfl rfl (fun h => ?_) (fun h => ?_)
  · replace H := H.1 h; clear h
    refine y_st rfl rfl rfl rfl rfl (fun _ _ => rfl) ?_
    show yP (xg xs) (d + 1) 138 17 [(0, .int l0)] [.int (0 : Int32)] m Q
    exact y_zret rfl rfl rfl (by decide) H
  · replace H := H.2 h; clear h
    refine y_st rfl rfl rfl rfl rfl (fun _ _ => rfl) ?_
    refine y_st rfl rfl rfl rfl rfl (fun _ _ => rfl) ?_
    show yP (xg xs) (d + 1) 138 9 [(0, .int l0)] [.int (60 : Int32), .int l0] m Q
    refine y_ige (t := 16) rfl rfl rfl (fun h => ?_) (fun h => ?_)
    · replace H := H.1 h; clear h
      refine y_st rfl rfl rfl rfl rfl (fun _ _ => rfl) ?_
      show yP (xg xs) (d + 1) 138 17 [(0, .int l0)] [.int (0 : Int32)] m Q
      exact y_zret rfl rfl rfl (by decide) H
    · replace H := H.2 h; clear h
      refine y_st rfl rfl rfl rfl rfl (fun _ _ => rfl) ?_
      refine y_st rfl rfl rfl rfl rfl (fun _ _ => rfl) ?_
      show yP (xg xs) (d + 1) 138 17 [(0, .int l0)] [.int (1 : Int32)] m Q
      exact y_zret rfl rfl rfl (by decide) H
set_option maxRecDepth 20000 in
/-- CodeMaker.Scope.declare from 0 on -/
theorem w139_0 (xs : List Int32) (d : Nat) (l1 : Int32) (m : yM) (Q : Option Value → yM → Prop) (H : (x_in (if (4096 : Int32) < (m.1 18 15) then (4096 : Int32) else (m.1 18 15)) 4097 = true ∧ (x_in l1 4172 = true ∧ Q none (y_si (y_si (y_si m 18 15 ((if (4096 : Int32) < (m.1 18 15) then (4096 : Int32) else (m.1 18 15)) + (1 : Int32))) 19 ((if (4096 : Int32) < (m.1 18 15) then (4096 : Int32) else (m.1 18 15)).toNatClampNeg) l1) 29 l1.toNatClampNeg (if (4096 : Int32) < (m.1 18 15) then (4096 : Int32) else (m.1 18 15)))))) : yP (xg xs) (d + 1) 139 0 [(0, .ref 18), (1, .int l1)] [] m Q := by
  refine y_st rfl rfl rfl rfl rfl (fun _ _ => rfl) ?_
  refine y_gf rfl rfl rfl rfl rfl ?_
  refine y_st rfl rfl rfl rfl rfl (fun _ _ => rfl) ?_
  refine y_mi rfl rfl rfl rfl rfl (Nat.le_of_ble_eq_true rfl) (by omega) ?_
  refine y_st rfl rfl rfl rfl rfl (fun _ _ => rfl) ?_
  refine y_st rfl rfl rfl rfl rfl (fun _ _ => rfl) ?_
  refine y_st rfl rfl rfl rfl rfl (fun _ _ => rfl) ?_
  refine y_st rfl rfl rfl rfl rfl (fun _ _ => rfl) ?_
  refine y_st rfl rfl rfl rfl rfl (fun _ _ => rfl) ?_
  refine y_pfi rfl rfl rfl rfl rfl (x_fit_i _) ?_
  show yP (xg xs) (d + 1) 139 18 [(2, .int (if (4096 : Int32) < (m.1 18 15) then (4096 : Int32) else (m.1 18 15))), (0, .ref 18), (1, .int l1)] [] (y_si m 18 15 ((if (4096 : Int32) < (m.1 18 15) then (4096 : Int32) else (m.1 18 15)) + (1 : Int32))) Q
  refine y_st rfl rfl rfl rfl rfl (fun _ _ => rfl) ?_
  refine y_gf rfl rfl rfl rfl rfl ?_
  refine y_st rfl rfl rfl rfl rfl (fun _ _ => rfl) ?_
  refine y_st rfl rfl rfl rfl rfl (fun _ _ => rfl) ?_
  show yP (xg xs) (d + 1) 139 24 [(2, .int (if (4096 : Int32) < (m.1 18 15) then (4096 : Int32) else (m.1 18 15))), (0, .ref 18), (1, .int l1)] [.int l1, .int (if (4096 : Int32) < (m.1 18 15) then (4096 : Int32) else (m.1 18 15)), .ref 19] (y_si m 18 15 ((if (4096 : Int32) < (m.1 18 15) then (4096 : Int32) else (m.1 18 15)) + (1 : Int32))) Q
  refine y_iast rfl rfl rfl (H.1) ?_
  replace H := H.2
  refine y_st rfl rfl rfl rfl rfl (fun _ _ => rfl) ?_
  refine y_gf rfl rfl rfl rfl rfl ?_
  refine y_st rfl rfl rfl rfl rfl (fun _ _ => rfl) ?_
  refine y_st rfl rfl rfl rfl rfl (fun _ _ => rfl) ?_
  show yP (xg xs) (d + 1) 139 31 [(2, .int (if (4096 : Int32) < (m.1 18 15) then (4096 : Int32) else (m.1 18 15))), (0, .ref 18), (1, .int l1)] [.int (if (4096 : Int32) < (m.1 18 15) then (4096 : Int32) else (m.1 18 15)), .int l1, .ref 29] (y_si (y_si m 18 15 ((if (4096 : Int32) < (m.1 18 15) then (4096 : Int32) else (m.1 18 15)) + (1 : Int32))) 19 ((if (4096 : Int32) < (m.1 18 15) then (4096 : Int32) else (m.1 18 15)).toNatClampNeg) l1) Q
  refine y_iast rfl rfl rfl (H.1) ?_
  replace H := H.2
  show yP (xg xs) (d + 1) 139 32 [(2, .int (if (4096 : Int32) < (m.1 18 15) then (4096 : Int32) else (m.1 18 15))), (0, .ref 18), (1, .int l1)] [] (y_si (y_si (y_si m 18 15 ((if (4096 : Int32) < (m.1 18 15) then (4096 : Int32) else (m.1 18 15)) + (1 : Int32))) 19 ((if (4096 : Int32) < (m.1 18 15) then (4096 : Int32) else (m.1 18 15)).toNatClampNeg) l1) 29 l1.toNatClampNeg (if (4096 : Int32) < (m.1 18 15) then (4096 : Int32) else (m.1 18 15))) Q
  exact y_ret rfl rfl rfl rfl H
set_option maxRecDepth 20000 in
/-- CodeMaker.Rules.lookAtPlace from 0 on -/
theorem w140_0 (xs : List Int32) (d : Nat) (l1 : Int32) (m : yM) (Q : Option Value → yM → Prop) (H : (x_in l1 16401 = true ∧ (x_in ((m.1 5 l1.toNatClampNeg) >>> ((8 : Int32) &&& 31)) xar_3.length = true ∧ (yC (xg xs) d 124 [.ref 31] m (fun v1 m1 => ∃ u1, v1 = some (Value.int u1) ∧ ((¬ (l1 - u1) = (2 : Int32) → yP (xg xs) (d + 1) 140 40 [(0, .ref 31), (1, .int l1), (3, .int ((xar_3.getD (((m.1 5 l1.toNatClampNeg) >>> ((8 : Int32) &&& 31)).toNatClampNeg) 0) + ((m.1 5 l1.toNatClampNeg) &&& (255 : Int32))))] [.int (0 : Int32)] m1 Q) ∧ ((l1 - u1) = (2 : Int32) → yP (xg xs) (d + 1) 140 40 [(0, .ref 31), (1, .int l1), (3, .int ((xar_3.getD (((m.1 5 l1.toNatClampNeg) >>> ((8 : Int32) &&& 31)).toNatClampNeg) 0) + ((m.1 5 l1.toNatClampNeg) &&& (255 : Int32))))] [.int (1 : Int32)] m1 Q))))))) : yP (xg xs) (d + 1) 140 0 [(0, .ref 31), (1, .int l1)] [] m Q := by
  refine y_st rfl rfl rfl rfl rfl (fun _ _ => rfl) ?_
  refine y_gf rfl rfl rfl rfl rfl ?_
  refine y_gf rfl rfl rfl rfl rfl ?_
  refine y_st rfl rfl rfl rfl rfl (fun _ _ => rfl) ?_
  show yP (xg xs) (d + 1) 140 8 [(0, .ref 31), (1, .int l1)] [.int l1, .ref 5] m Q
  refine y_iald rfl rfl rfl (H.1) ?_
  replace H := H.2
  refine y_st rfl rfl rfl rfl rfl (fun _ _ => rfl) ?_
  refine y_st rfl rfl rfl rfl rfl (fun _ _ => rfl) ?_
  refine y_st rfl rfl rfl rfl rfl (fun _ _ => rfl) ?_
  refine y_st rfl rfl rfl rfl rfl (fun _ _ => rfl) ?_
  refine y_st rfl rfl rfl rfl rfl (fun _ _ => rfl) ?_
  show yP (xg xs) (d + 1) 140 17 [(2, .int (m.1 5 l1.toNatClampNeg)), (0, .ref 31), (1, .int l1)] [.int ((m.1 5 l1.toNatClampNeg) >>> ((8 : Int32) &&& 31)), .retAddr 3] m Q
  refine y_cald rfl rfl rfl H.1 ?_
  replace H := H.2
  refine y_st rfl rfl rfl rfl rfl (fun _ _ => rfl) ?_
  refine y_st rfl rfl rfl rfl rfl (fun _ _ => rfl) ?_
  refine y_st rfl rfl rfl rfl rfl (fun _ _ => rfl) ?_
  refine y_st rfl rfl rfl rfl rfl (fun _ _ => rfl) ?_
  refine y_st rfl rfl rfl rfl rfl (fun _ _ => rfl) ?_
  refine y_st rfl rfl rfl rfl rfl (fun _ _ => rfl) ?_
  refine y_st rfl rfl rfl rfl rfl (fun _ _ => rfl) ?_
  show yP (xg xs) (d + 1) 140 27 [(3, .int ((xar_3.getD (((m.1 5 l1.toNatClampNeg) >>> ((8 : Int32) &&& 31)).toNatClampNeg) 0) + ((m.1 5 l1.toNatClampNeg) &&& (255 : Int32)))), (2, .int (m.1 5 l1.toNatClampNeg)), (0, .ref 31), (1, .int l1)] [.ref 31, .int l1] m Q
  refine y_call rfl rfl rfl rfl rfl (Nat.le_of_ble_eq_true rfl) (Nat.le_of_ble_eq_true rfl) rfl (by decide) H (fun v1 m1 H => ?_)
  obtain ⟨u1, rfl, H⟩ := H
  refine y_st rfl rfl rfl rfl rfl (fun _ _ => rfl) ?_
  refine y_st rfl rfl rfl rfl rfl (fun _ _ => rfl) ?_
  show yP (xg xs) (d + 1) 140 32 [(3, .int ((xar_3.getD (((m.1 5 l1.toNatClampNeg) >>> ((8 : Int32) &&& 31)).toNatClampNeg) 0) + ((m.1 5 l1.toNatClampNeg) &&& (255 : Int32)))), (2, .int (m.1 5 l1.toNatClampNeg)), (0, .ref 31), (1, .int l1)] [.int (2 : Int32), .int (l1 - u1)] m1 Q
  refine y_ine (t := 39) rfl rfl rfl (fun h => ?_) (fun h => ?_)
  · replace H := H.1 h; clear h
    refine y_st rfl rfl rfl rfl rfl (fun _ _ => rfl) ?_
    show yP (xg xs) (d + 1) 140 40 [(3, .int ((xar_3.getD (((m.1 5 l1.toNatClampNeg) >>> ((8 : Int32) &&& 31)).toNatClampNeg) 0) + ((m.1 5 l1.toNatClampNeg) &&& (255 : Int32)))), (2, .int (m.1 5 l1.toNatClampNeg)), (0, .ref 31), (1, .int l1)] [.int (0 : Int32)] m1 Q
    refine y_headS (l2 := [(0, .ref 31), (1, .int l1), (3, .int ((xar_3.getD (((m.1 5 l1.toNatClampNeg) >>> ((8 : Int32) &&& 31)).toNatClampNeg) 0) + ((m.1 5 l1.toNatClampNeg) &&& (255 : Int32))))]) [2, 3, 0] [0, 1, 3] [3, 2, 0, 1] rfl rfl (by decide) rfl (by decide) ?_
    exact H
  · replace H := H.2 h; clear h
    refine y_st rfl rfl rfl rfl rfl (fun _ _ => rfl) ?_
    refine y_st rfl rfl rfl rfl rfl (fun _ _ => rfl) ?_
    show yP (xg xs) (d + 1) 140 40 [(3, .int ((xar_3.getD (((m.1 5 l1.toNatClampNeg) >>> ((8 : Int32) &&& 31)).toNatClampNeg) 0) + ((m.1 5 l1.toNatClampNeg) &&& (255 : Int32)))), (2, .int (m.1 5 l1.toNatClampNeg)), (0, .ref 31), (1, .int l1)] [.int (1 : Int32)] m1 Q
    refine y_headS (l2 := [(0, .ref 31), (1, .int l1), (3, .int ((xar_3.getD (((m.1 5 l1.toNatClampNeg) >>> ((8 : Int32) &&& 31)).toNatClampNeg) 0) + ((m.1 5 l1.toNatClampNeg) &&& (255 : Int32))))]) [2, 3, 0] [0, 1, 3] [3, 2, 0, 1] rfl rfl (by decide) rfl (by decide) ?_
    exact H
set_option maxRecDepth 20000 in
/-- CodeMaker.Rules.lookAtPlace from 40 on -/
theorem w140_40 (xs : List Int32) (d : Nat) (l1 : Int32) (l3 : Int32) (s0 : Int32) (m : yM) (Q : Option Value → yM → Prop) (H : (yC (xg xs) d 114 [.ref 18, .int (3 : Int32)] m (fun v1 m1 => ∃ u1, v1 = some (Value.int u1) ∧ ((u1 = 0 → Q (some (.int (14 : Int32))) m1) ∧ (¬ u1 = 0 → ((s0 = 0 → Q (some (.int (14 : Int32))) m1) ∧ (¬ s0 = 0 → (x_in l3 960 = true ∧ (((m1.1 33 l3.toNatClampNeg) = 0 → (x_in l3 960 = true ∧ (x_in l1 16401 = true ∧ Q (some (.int (0 : Int32))) (y_si (y_si m1 33 l3.toNatClampNeg (vp_nar .boolean (1 : Int32))) 5 l1.toNatClampNeg l3)))) ∧ (¬ (m1.1 33 l3.toNatClampNeg) = 0 → Q (some (.int (14 : Int32))) m1)))))))))) : yP (xg xs) (d + 1) 140 40 [(0, .ref 31), (1, .int l1), (3, .int l3)] [.int s0] m Q := by
  refine y_st rfl rfl rfl rfl rfl (fun _ _ => rfl) ?_
  refine y_st rfl rfl rfl rfl rfl (fun _ _ => rfl) ?_
  refine y_gf rfl rfl rfl rfl rfl ?_
  refine y_st rfl rfl rfl rfl rfl (fun _ _ => rfl) ?_
  show yP (xg xs) (d + 1) 140 47 [(4, .int s0), (0, .ref 31), (1, .int l1), (3, .int l3)] [.int (3 : Int32), .ref 18] m Q
  refine y_call rfl rfl rfl rfl rfl (Nat.le_of_ble_eq_true rfl) (Nat.le_of_ble_eq_true rfl) rfl (by decide) H (fun v1 m1 H => ?_)
  obtain ⟨u1, rfl, H⟩ := H
  show yP (xg xs) (d + 1) 140 50 [(4, .int s0), (0, .ref 31), (1, .int l1), (3, .int l3)] [.int u1] m1 Q
  refine y_zeq (t := 67) rfl rfl rfl (fun h => ?_) (fun h => ?_)
  · replace H := H.1 h; clear h
    refine y_st rfl rfl rfl rfl rfl (fun _ _ => rfl) ?_
    show yP (xg xs) (d + 1) 140 69 [(4, .int s0), (0, .ref 31), (1, .int l1), (3, .int l3)] [.int (14 : Int32)] m1 Q
    exact y_iret rfl rfl rfl H
  · replace H := H.2 h; clear h
    refine y_st rfl rfl rfl rfl rfl (fun _ _ => rfl) ?_
    show yP (xg xs) (d + 1) 140 55 [(4, .int s0), (0, .ref 31), (1, .int l1), (3, .int l3)] [.int s0] m1 Q
    refine y_zeq (t := 67) rfl rfl rfl (fun h => ?_) (fun h => ?_)
    · replace H := H.1 h; clear h
      refine y_st rfl rfl rfl rfl rfl (fun _ _ => rfl) ?_
      show yP (xg xs) (d + 1) 140 69 [(4, .int s0), (0, .ref 31), (1, .int l1), (3, .int l3)] [.int (14 : Int32)] m1 Q
      exact y_iret rfl rfl rfl H
    · replace H := H.2 h; clear h
      refine y_st rfl rfl rfl rfl rfl (fun _ _ => rfl) ?_
      refine y_gf rfl rfl rfl rfl rfl ?_
      refine y_st rfl rfl rfl rfl rfl (fun _ _ => rfl) ?_
      show yP (xg xs) (d + 1) 140 63 [(4, .int s0), (0, .ref 31), (1, .int l1), (3, .int l3)] [.int l3, .ref 33] m1 Q
      refine y_bald rfl rfl rfl (by decide) (H.1) ?_
      replace H := H.2
      show yP (xg xs) (d + 1) 140 64 [(4, .int s0), (0, .ref 31), (1, .int l1), (3, .int l3)] [.int (m1.1 33 l3.toNatClampNeg)] m1 Q
      refine y_zeq (t := 70) rfl rfl rfl (fun h => ?_) (fun h => ?_)
      · replace H := H.1 h; clear h
        refine y_st rfl rfl rfl rfl rfl (fun _ _ => rfl) ?_
        refine y_gf rfl rfl rfl rfl rfl ?_
        refine y_st rfl rfl rfl rfl rfl (fun _ _ => rfl) ?_
        refine y_st rfl rfl rfl rfl rfl (fun _ _ => rfl) ?_
        show yP (xg xs) (d + 1) 140 76 [(4, .int s0), (0, .ref 31), (1, .int l1), (3, .int l3)] [.int (1 : Int32), .int l3, .ref 33] m1 Q
        refine y_zast rfl rfl rfl (H.1) ?_
        replace H := H.2
        refine y_st rfl rfl rfl rfl rfl (fun _ _ => rfl) ?_
        refine y_gf rfl rfl rfl rfl rfl ?_
        refine y_gf rfl rfl rfl rfl rfl ?_
        refine y_st rfl rfl rfl rfl rfl (fun _ _ => rfl) ?_
        refine y_st rfl rfl rfl rfl rfl (fun _ _ => rfl) ?_
        show yP (xg xs) (d + 1) 140 86 [(4, .int s0), (0, .ref 31), (1, .int l1), (3, .int l3)] [.int l3, .int l1, .ref 5] (y_si m1 33 l3.toNatClampNeg (vp_nar .boolean (1 : Int32))) Q
        refine y_iast rfl rfl rfl (H.1) ?_
        replace H := H.2
        refine y_st rfl rfl rfl rfl rfl (fun _ _ => rfl) ?_
        show yP (xg xs) (d + 1) 140 88 [(4, .int s0), (0, .ref 31), (1, .int l1), (3, .int l3)] [.int (0 : Int32)] (y_si (y_si m1 33 l3.toNatClampNeg (vp_nar .boolean (1 : Int32))) 5 l1.toNatClampNeg l3) Q
        exact y_iret rfl rfl rfl H
      · replace H := H.2 h; clear h
        refine y_st rfl rfl rfl rfl rfl (fun _ _ => rfl) ?_
        show yP (xg xs) (d + 1) 140 69 [(4, .int s0), (0, .ref 31), (1, .int l1), (3, .int l3)] [.int (14 : Int32)] m1 Q
        exact y_iret rfl rfl rfl H
set_option maxRecDepth 20000 in
/-- CodeMaker.Rules.lookAtArray from 0 on -/
theorem w141_0 (xs : List Int32) (d : Nat) (l1 : Int32) (m : yM) (Q : Option Value → yM → Prop) (H : (yC (xg xs) d 114 [.ref 18, .int (1 : Int32)] m (fun v1 m1 => ∃ u1, v1 = some (Value.int u1) ∧ ((¬ u1 = 0 → Q (some (.int (16 : Int32))) m1) ∧ (u1 = 0 → (x_in (l1 + (1 : Int32)) 16401 = true ∧ (((m1.1 3 ((l1 + (1 : Int32)).toNatClampNeg)) = (31 : Int32) → Q (some (.int (16 : Int32))) m1) ∧ (¬ (m1.1 3 ((l1 + (1 : Int32)).toNatClampNeg)) = (31 : Int32) → (x_in (l1 + (2 : Int32)) 16401 = true ∧ ((¬ (m1.1 3 ((l1 + (2 : Int32)).toNatClampNeg)) = (31 : Int32) → (x_in (l1 + (2 : Int32)) 16401 = true ∧ (x_in (l1 + (1 : Int32)) 16401 = true ∧ (((lg_cmp ((((m1.1 5 ((l1 + (2 : Int32)).toNatClampNeg)).toInt64) - ((m1.1 5 ((l1 + (1 : Int32)).toNatClampNeg)).toInt64)) + (1 : Int64)) (1 : Int64)) < 0 → Q (some (.int (16 : Int32))) m1) ∧ (¬ (lg_cmp ((((m1.1 5 ((l1 + (2 : Int32)).toNatClampNeg)).toInt64) - ((m1.1 5 ((l1 + (1 : Int32)).toNatClampNeg)).toInt64)) + (1 : Int64)) (1 : Int64)) < 0 → (((lg_cmp ((((m1.1 5 ((l1 + (2 : Int32)).toNatClampNeg)).toInt64) - ((m1.1 5 ((l1 + (1 : Int32)).toNatClampNeg)).toInt64)) + (1 : Int64)) (256 : Int64)) ≤ 0 → (x_in l1 16401 = true ∧ (x_in (l1 + (3 : Int32)) 16401 = true ∧ (x_in l1 16401 = true ∧ Q (some (.int (0 : Int32))) (y_si (y_si m1 5 l1.toNatClampNeg (((((m1.1 5 ((l1 + (2 : Int32)).toNatClampNeg)).toInt64) - ((m1.1 5 ((l1 + (1 : Int32)).toNatClampNeg)).toInt64)) + (1 : Int64)).toInt32)) 6 l1.toNatClampNeg ((y_si m1 5 l1.toNatClampNeg (((((m1.1 5 ((l1 + (2 : Int32)).toNatClampNeg)).toInt64) - ((m1.1 5 ((l1 + (1 : Int32)).toNatClampNeg)).toInt64)) + (1 : Int64)).toInt32)).1 5 ((l1 + (3 : Int32)).toNatClampNeg))))))) ∧ (¬ (lg_cmp ((((m1.1 5 ((l1 + (2 : Int32)).toNatClampNeg)).toInt64) - ((m1.1 5 ((l1 + (1 : Int32)).toNatClampNeg)).toInt64)) + (1 : Int64)) (256 : Int64)) ≤ 0 → Q (some (.int (16 : Int32))) m1))))))) ∧ ((m1.1 3 ((l1 + (2 : Int32)).toNatClampNeg)) = (31 : Int32) → Q (some (.int (16 : Int32))) m1))))))))))) : yP (xg xs) (d + 1) 141 0 [(0, .ref 31), (1, .int l1)] [] m Q := by
  refine y_st rfl rfl rfl rfl rfl (fun _ _ => rfl) ?_
  refine y_st rfl rfl rfl rfl rfl (fun _ _ => rfl) ?_
  refine y_st rfl rfl rfl rfl rfl (fun _ _ => rfl) ?_
  refine y_st rfl rfl rfl rfl rfl (fun _ _ => rfl) ?_
  refine y_st rfl rfl rfl rfl rfl (fun _ _ => rfl) ?_
  refine y_st rfl rfl rfl rfl rfl (fun _ _ => rfl) ?_
  refine y_st rfl rfl rfl rfl rfl (fun _ _ => rfl) ?_
  refine y_st rfl rfl rfl rfl rfl (fun _ _ => rfl) ?_
  refine y_st rfl rfl rfl rfl rfl (fun _ _ => rfl) ?_
  refine y_gf rfl rfl rfl rfl rfl ?_
  refine y_st rfl rfl rfl rfl rfl (fun _ _ => rfl) ?_
  show yP (xg xs) (d + 1) 141 13 [(3, .int (l1 + (2 : Int32))), (2, .int (l1 + (1 : Int32))), (0, .ref 31), (1, .int l1)] [.int (1 : Int32), .ref 18] m Q
  refine y_call rfl rfl rfl rfl rfl (Nat.le_of_ble_eq_true rfl) (Nat.le_of_ble_eq_true rfl) rfl (by decide) H (fun v1 m1 H => ?_)
  obtain ⟨u1, rfl, H⟩ := H
  show yP (xg xs) (d + 1) 141 16 [(3, .int (l1 + (2 : Int32))), (2, .int (l1 + (1 : Int32))), (0, .ref 31), (1, .int l1)] [.int u1] m1 Q
  refine y_zne (t := 47) rfl rfl rfl (fun h => ?_) (fun h => ?_)
  · replace H := H.1 h; clear h
    refine y_st rfl rfl rfl rfl rfl (fun _ _ => rfl) ?_
    show yP (xg xs) (d + 1) 141 49 [(3, .int (l1 + (2 : Int32))), (2, .int (l1 + (1 : Int32))), (0, .ref 31), (1, .int l1)] [.int (16 : Int32)] m1 Q
    exact y_iret rfl rfl rfl H
  · replace H := H.2 h; clear h
    refine y_st rfl rfl rfl rfl rfl (fun _ _ => rfl) ?_
    refine y_gf rfl rfl rfl rfl rfl ?_
    refine y_gf rfl rfl rfl rfl rfl ?_
    refine y_st rfl rfl rfl rfl rfl (fun _ _ => rfl) ?_
    show yP (xg xs) (d + 1) 141 27 [(3, .int (l1 + (2 : Int32))), (2, .int (l1 + (1 : Int32))), (0, .ref 31), (1, .int l1)] [.int (l1 + (1 : Int32)), .ref 3] m1 Q
    refine y_iald rfl rfl rfl (H.1) ?_
    replace H := H.2
    refine y_st rfl rfl rfl rfl rfl (fun _ _ => rfl) ?_
    show yP (xg xs) (d + 1) 141 30 [(3, .int (l1 + (2 : Int32))), (2, .int (l1 + (1 : Int32))), (0, .ref 31), (1, .int l1)] [.int (31 : Int32), .int (m1.1 3 ((l1 + (1 : Int32)).toNatClampNeg))] m1 Q
    refine y_ieq (t := 47) rfl rfl rfl (fun h => ?_) (fun h => ?_)
    · replace H := H.1 h; clear h
      refine y_st rfl rfl rfl rfl rfl (fun _ _ => rfl) ?_
      show yP (xg xs) (d + 1) 141 49 [(3, .int (l1 + (2 : Int32))), (2, .int (l1 + (1 : Int32))), (0, .ref 31), (1, .int l1)] [.int (16 : Int32)] m1 Q
      exact y_iret rfl rfl rfl H
    · replace H := H.2 h; clear h
      refine y_st rfl rfl rfl rfl rfl (fun _ _ => rfl) ?_
      refine y_gf rfl rfl rfl rfl rfl ?_
      refine y_gf rfl rfl rfl rfl rfl ?_
      refine y_st rfl rfl rfl rfl rfl (fun _ _ => rfl) ?_
      show yP (xg xs) (d + 1) 141 41 [(3, .int (l1 + (2 : Int32))), (2, .int (l1 + (1 : Int32))), (0, .ref 31), (1, .int l1)] [.int (l1 + (2 : Int32)), .ref 3] m1 Q
      refine y_iald rfl rfl rfl (H.1) ?_
      replace H := H.2
      refine y_st rfl rfl rfl rfl rfl (fun _ _ => rfl) ?_
      show yP (xg xs) (d + 1) 141 44 [(3, .int (l1 + (2 : Int32))), (2, .int (l1 + (1 : Int32))), (0, .ref 31), (1, .int l1)] [.int (31 : Int32), .int (m1.1 3 ((l1 + (2 : Int32)).toNatClampNeg))] m1 Q
      refine y_ine (t := 50) rfl rfl rfl (fun h => ?_) (fun h => ?_)
      · replace H := H.1 h; clear h
        refine y_st rfl rfl rfl rfl rfl (fun _ _ => rfl) ?_
        refine y_gf rfl rfl rfl rfl rfl ?_
        refine y_gf rfl rfl rfl rfl rfl ?_
        refine y_st rfl rfl rfl rfl rfl (fun _ _ => rfl) ?_
        show yP (xg xs) (d + 1) 141 58 [(3, .int (l1 + (2 : Int32))), (2, .int (l1 + (1 : Int32))), (0, .ref 31), (1, .int l1)] [.int (l1 + (2 : Int32)), .ref 5] m1 Q
        refine y_iald rfl rfl rfl (H.1) ?_
        replace H := H.2
        refine y_st rfl rfl rfl rfl rfl (fun _ _ => rfl) ?_
        refine y_st rfl rfl rfl rfl rfl (fun _ _ => rfl) ?_
        refine y_gf rfl rfl rfl rfl rfl ?_
        refine y_gf rfl rfl rfl rfl rfl ?_
        refine y_st rfl rfl rfl rfl rfl (fun _ _ => rfl) ?_
        show yP (xg xs) (d + 1) 141 68 [(3, .int (l1 + (2 : Int32))), (2, .int (l1 + (1 : Int32))), (0, .ref 31), (1, .int l1)] [.int (l1 + (1 : Int32)), .ref 5, .long ((m1.1 5 ((l1 + (2 : Int32)).toNatClampNeg)).toInt64)] m1 Q
        refine y_iald rfl rfl rfl (H.1) ?_
        replace H := H.2
        refine y_st rfl rfl rfl rfl rfl (fun _ _ => rfl) ?_
        refine y_st rfl rfl rfl rfl rfl (fun _ _ => rfl) ?_
        refine y_st rfl rfl rfl rfl rfl (fun _ _ => rfl) ?_
        refine y_st rfl rfl rfl rfl rfl (fun _ _ => rfl) ?_
        refine y_st rfl rfl rfl rfl rfl (fun _ _ => rfl) ?_
        refine y_st rfl rfl rfl rfl rfl (fun _ _ => rfl) ?_
        refine y_st rfl rfl rfl rfl rfl (fun _ _ => rfl) ?_
        refine y_st rfl rfl rfl rfl rfl (fun _ _ => rfl) ?_
        show yP (xg xs) (d + 1) 141 79 [(4, .long ((((m1.1 5 ((l1 + (2 : Int32)).toNatClampNeg)).toInt64) - ((m1.1 5 ((l1 + (1 : Int32)).toNatClampNeg)).toInt64)) + (1 : Int64))), (3, .int (l1 + (2 : Int32))), (2, .int (l1 + (1 : Int32))), (0, .ref 31), (1, .int l1)] [.int (lg_cmp ((((m1.1 5 ((l1 + (2 : Int32)).toNatClampNeg)).toInt64) - ((m1.1 5 ((l1 + (1 : Int32)).toNatClampNeg)).toInt64)) + (1 : Int64)) (1 : Int64))] m1 Q
        refine y_zlt (t := 91) rfl rfl rfl (fun h => ?_) (fun h => ?_)
        · replace H := H.1 h; clear h
          refine y_st rfl rfl rfl rfl rfl (fun _ _ => rfl) ?_
          show yP (xg xs) (d + 1) 141 93 [(4, .long ((((m1.1 5 ((l1 + (2 : Int32)).toNatClampNeg)).toInt64) - ((m1.1 5 ((l1 + (1 : Int32)).toNatClampNeg)).toInt64)) + (1 : Int64))), (3, .int (l1 + (2 : Int32))), (2, .int (l1 + (1 : Int32))), (0, .ref 31), (1, .int l1)] [.int (16 : Int32)] m1 Q
          exact y_iret rfl rfl rfl H
        · replace H := H.2 h; clear h
          refine y_st rfl rfl rfl rfl rfl (fun _ _ => rfl) ?_
          refine y_st rfl rfl rfl rfl rfl (fun _ _ => rfl) ?_
          refine y_st rfl rfl rfl rfl rfl (fun _ _ => rfl) ?_
          show yP (xg xs) (d + 1) 141 88 [(4, .long ((((m1.1 5 ((l1 + (2 : Int32)).toNatClampNeg)).toInt64) - ((m1.1 5 ((l1 + (1 : Int32)).toNatClampNeg)).toInt64)) + (1 : Int64))), (3, .int (l1 + (2 : Int32))), (2, .int (l1 + (1 : Int32))), (0, .ref 31), (1, .int l1)] [.int (lg_cmp ((((m1.1 5 ((l1 + (2 : Int32)).toNatClampNeg)).toInt64) - ((m1.1 5 ((l1 + (1 : Int32)).toNatClampNeg)).toInt64)) + (1 : Int64)) (256 : Int64))] m1 Q
          refine y_zle (t := 94) rfl rfl rfl (fun h => ?_) (fun h => ?_)
          · replace H := H.1 h; clear h
            refine y_st rfl rfl rfl rfl rfl (fun _ _ => rfl) ?_
            refine y_gf rfl rfl rfl rfl rfl ?_
            refine y_gf rfl rfl rfl rfl rfl ?_
            refine y_st rfl rfl rfl rfl rfl (fun _ _ => rfl) ?_
            refine y_st rfl rfl rfl rfl rfl (fun _ _ => rfl) ?_
            refine y_st rfl rfl rfl rfl rfl (fun _ _ => rfl) ?_
            show yP (xg xs) (d + 1) 141 105 [(4, .long ((((m1.1 5 ((l1 + (2 : Int32)).toNatClampNeg)).toInt64) - ((m1.1 5 ((l1 + (1 : Int32)).toNatClampNeg)).toInt64)) + (1 : Int64))), (3, .int (l1 + (2 : Int32))), (2, .int (l1 + (1 : Int32))), (0, .ref 31), (1, .int l1)] [.int (((((m1.1 5 ((l1 + (2 : Int32)).toNatClampNeg)).toInt64) - ((m1.1 5 ((l1 + (1 : Int32)).toNatClampNeg)).toInt64)) + (1 : Int64)).toInt32), .int l1, .ref 5] m1 Q
            refine y_iast rfl rfl rfl (H.1) ?_
            replace H := H.2
            refine y_st rfl rfl rfl rfl rfl (fun _ _ => rfl) ?_
            refine y_gf rfl rfl rfl rfl rfl ?_
            refine y_gf rfl rfl rfl rfl rfl ?_
            refine y_st rfl rfl rfl rfl rfl (fun _ _ => rfl) ?_
            refine y_st rfl rfl rfl rfl rfl (fun _ _ => rfl) ?_
            refine y_gf rfl rfl rfl rfl rfl ?_
            refine y_gf rfl rfl rfl rfl rfl ?_
            refine y_st rfl rfl rfl rfl rfl (fun _ _ => rfl) ?_
            refine y_st rfl rfl rfl rfl rfl (fun _ _ => rfl) ?_
            refine y_st rfl rfl rfl rfl rfl (fun _ _ => rfl) ?_
            show yP (xg xs) (d + 1) 141 124 [(4, .long ((((m1.1 5 ((l1 + (2 : Int32)).toNatClampNeg)).toInt64) - ((m1.1 5 ((l1 + (1 : Int32)).toNatClampNeg)).toInt64)) + (1 : Int64))), (3, .int (l1 + (2 : Int32))), (2, .int (l1 + (1 : Int32))), (0, .ref 31), (1, .int l1)] [.int (l1 + (3 : Int32)), .ref 5, .int l1, .ref 6] (y_si m1 5 l1.toNatClampNeg (((((m1.1 5 ((l1 + (2 : Int32)).toNatClampNeg)).toInt64) - ((m1.1 5 ((l1 + (1 : Int32)).toNatClampNeg)).toInt64)) + (1 : Int64)).toInt32)) Q
            refine y_iald rfl rfl rfl (H.1) ?_
            replace H := H.2
            show yP (xg xs) (d + 1) 141 125 [(4, .long ((((m1.1 5 ((l1 + (2 : Int32)).toNatClampNeg)).toInt64) - ((m1.1 5 ((l1 + (1 : Int32)).toNatClampNeg)).toInt64)) + (1 : Int64))), (3, .int (l1 + (2 : Int32))), (2, .int (l1 + (1 : Int32))), (0, .ref 31), (1, .int l1)] [.int ((y_si m1 5 l1.toNatClampNeg (((((m1.1 5 ((l1 + (2 : Int32)).toNatClampNeg)).toInt64) - ((m1.1 5 ((l1 + (1 : Int32)).toNatClampNeg)).toInt64)) + (1 : Int64)).toInt32)).1 5 ((l1 + (3 : Int32)).toNatClampNeg)), .int l1, .ref 6] (y_si m1 5 l1.toNatClampNeg (((((m1.1 5 ((l1 + (2 : Int32)).toNatClampNeg)).toInt64) - ((m1.1 5 ((l1 + (1 : Int32)).toNatClampNeg)).toInt64)) + (1 : Int64)).toInt32)) Q
            refine y_iast rfl rfl rfl (H.1) ?_
            replace H := H.2
            refine y_st rfl rfl rfl rfl rfl (fun _ _ => rfl) ?_
            show yP (xg xs) (d + 1) 141 127 [(4, .long ((((m1.1 5 ((l1 + (2 : Int32)).toNatClampNeg)).toInt64) - ((m1.1 5 ((l1 + (1 : Int32)).toNatClampNeg)).toInt64)) + (1 : Int64))), (3, .int (l1 + (2 : Int32))), (2, .int (l1 + (1 : Int32))), (0, .ref 31), (1, .int l1)] [.int (0 : Int32)] (y_si (y_si m1 5 l1.toNatClampNeg (((((m1.1 5 ((l1 + (2 : Int32)).toNatClampNeg)).toInt64) - ((m1.1 5 ((l1 + (1 : Int32)).toNatClampNeg)).toInt64)) + (1 : Int64)).toInt32)) 6 l1.toNatClampNeg ((y_si m1 5 l1.toNatClampNeg (((((m1.1 5 ((l1 + (2 : Int32)).toNatClampNeg)).toInt64) - ((m1.1 5 ((l1 + (1 : Int32)).toNatClampNeg)).toInt64)) + (1 : Int64)).toInt32)).1 5 ((l1 + (3 : Int32)).toNatClampNeg))) Q
            exact y_iret rfl rfl rfl H
          · replace H := H.2 h; clear h
            refine y_st rfl rfl rfl rfl rfl (fun _ _ => rfl) ?_
            show yP (xg xs) (d + 1) 141 93 [(4, .long ((((m1.1 5 ((l1 + (2 : Int32)).toNatClampNeg)).toInt64) - ((m1.1 5 ((l1 + (1 : Int32)).toNatClampNeg)).toInt64)) + (1 : Int64))), (3, .int (l1 + (2 : Int32))), (2, .int (l1 + (1 : Int32))), (0, .ref 31), (1, .int l1)] [.int (16 : Int32)] m1 Q
            exact y_iret rfl rfl rfl H
      · replace H := H.2 h; clear h
        refine y_st rfl rfl rfl rfl rfl (fun _ _ => rfl) ?_
        show yP (xg xs) (d + 1) 141 49 [(3, .int (l1 + (2 : Int32))), (2, .int (l1 + (1 : Int32))), (0, .ref 31), (1, .int l1)] [.int (16 : Int32)] m1 Q
        exact y_iret rfl rfl rfl H
set_option maxRecDepth 20000 in
/-- CodeMaker.Rules.lookAtBlockType from 0 on -/
theorem w142_0 (xs : List Int32) (d : Nat) (l1 : Int32) (m : yM) (Q : Option Value → yM → Prop) (H : (x_in l1 16401 = true ∧ (yC (xg xs) d 143 [.ref 18, .int (m.1 5 l1.toNatClampNeg)] m (fun v1 m1 => ∃ u1, v1 = some (Value.int u1) ∧ ((u1 = ((-1) : Int32) → Q (some (.int (17 : Int32))) m1) ∧ (¬ u1 = ((-1) : Int32) → (yC (xg xs) d 114 [.ref 18, .int (1 : Int32)] m1 (fun v2 m2 => ∃ u2, v2 = some (Value.int u2) ∧ ((u2 = 0 → (x_in l1 16401 = true ∧ Q (some (.int (0 : Int32))) (y_si m2 5 l1.toNatClampNeg u1))) ∧ (¬ u2 = 0 → Q (some (.int (17 : Int32))) m2)))))))))) : yP (xg xs) (d + 1) 142 0 [(0, .ref 31), (1, .int l1)] [] m Q := by
  refine y_st rfl rfl rfl rfl rfl (fun _ _ => rfl) ?_
  refine y_gf rfl rfl rfl rfl rfl ?_
  refine y_st rfl rfl rfl rfl rfl (fun _ _ => rfl) ?_
  refine y_gf rfl rfl rfl rfl rfl ?_
  refine y_gf rfl rfl rfl rfl rfl ?_
  refine y_st rfl rfl rfl rfl rfl (fun _ _ => rfl) ?_
  show yP (xg xs) (d + 1) 142 12 [(0, .ref 31), (1, .int l1)] [.int l1, .ref 5, .ref 18] m Q
  refine y_iald rfl rfl rfl (H.1) ?_
  replace H := H.2
  show yP (xg xs) (d + 1) 142 13 [(0, .ref 31), (1, .int l1)] [.int (m.1 5 l1.toNatClampNeg), .ref 18] m Q
  refine y_call rfl rfl rfl rfl rfl (Nat.le_of_ble_eq_true rfl) (Nat.le_of_ble_eq_true rfl) rfl (by decide) H (fun v1 m1 H => ?_)
  obtain ⟨u1, rfl, H⟩ := H
  refine y_st rfl rfl rfl rfl rfl (fun _ _ => rfl) ?_
  refine y_st rfl rfl rfl rfl rfl (fun _ _ => rfl) ?_
  refine y_st rfl rfl rfl rfl rfl (fun _ _ => rfl) ?_
  show yP (xg xs) (d + 1) 142 19 [(2, .int u1), (0, .ref 31), (1, .int l1)] [.int ((-1) : Int32), .int u1] m1 Q
  refine y_ieq (t := 33) rfl rfl rfl (fun h => ?_) (fun h => ?_)
  · replace H := H.1 h; clear h
    refine y_st rfl rfl rfl rfl rfl (fun _ _ => rfl) ?_
    show yP (xg xs) (d + 1) 142 35 [(2, .int u1), (0, .ref 31), (1, .int l1)] [.int (17 : Int32)] m1 Q
    exact y_iret rfl rfl rfl H
  · replace H := H.2 h; clear h
    refine y_st rfl rfl rfl rfl rfl (fun _ _ => rfl) ?_
    refine y_gf rfl rfl rfl rfl rfl ?_
    refine y_st rfl rfl rfl rfl rfl (fun _ _ => rfl) ?_
    show yP (xg xs) (d + 1) 142 27 [(2, .int u1), (0, .ref 31), (1, .int l1)] [.int (1 : Int32), .ref 18] m1 Q
    refine y_call rfl rfl rfl rfl rfl (Nat.le_of_ble_eq_true rfl) (Nat.le_of_ble_eq_true rfl) rfl (by decide) H (fun v2 m2 H => ?_)
    obtain ⟨u2, rfl, H⟩ := H
    show yP (xg xs) (d + 1) 142 30 [(2, .int u1), (0, .ref 31), (1, .int l1)] [.int u2] m2 Q
    refine y_zeq (t := 36) rfl rfl rfl (fun h => ?_) (fun h => ?_)
    · replace H := H.1 h; clear h
      refine y_st rfl rfl rfl rfl rfl (fun _ _ => rfl) ?_
      refine y_gf rfl rfl rfl rfl rfl ?_
      refine y_gf rfl rfl rfl rfl rfl ?_
      refine y_st rfl rfl rfl rfl rfl (fun _ _ => rfl) ?_
      refine y_st rfl rfl rfl rfl rfl (fun _ _ => rfl) ?_
      show yP (xg xs) (d + 1) 142 45 [(2, .int u1), (0, .ref 31), (1, .int l1)] [.int u1, .int l1, .ref 5] m2 Q
      refine y_iast rfl rfl rfl (H.1) ?_
      replace H := H.2
      refine y_st rfl rfl rfl rfl rfl (fun _ _ => rfl) ?_
      show yP (xg xs) (d + 1) 142 47 [(2, .int u1), (0, .ref 31), (1, .int l1)] [.int (0 : Int32)] (y_si m2 5 l1.toNatClampNeg u1) Q
      exact y_iret rfl rfl rfl H
    · replace H := H.2 h; clear h
      refine y_st rfl rfl rfl rfl rfl (fun _ _ => rfl) ?_
      show yP (xg xs) (d + 1) 142 35 [(2, .int u1), (0, .ref 31), (1, .int l1)] [.int (17 : Int32)] m2 Q
      exact y_iret rfl rfl rfl H
set_option maxRecDepth 20000 in
/-- CodeMaker.Scope.blockNamed from 0 on -/
theorem w143_0 (xs : List Int32) (d : Nat) (l1 : Int32) (m : yM) (Q : Option Value → yM → Prop) (H : ((l1 < (41 : Int32) → yP (xg xs) (d + 1) 143 17 [(0, .ref 18), (1, .int l1)] [] m Q) ∧ (¬ l1 < (41 : Int32) → (((50 : Int32) ≤ l1 → yP (xg xs) (d + 1) 143 17 [(0, .ref 18), (1, .int l1)] [] m Q) ∧ (¬ (50 : Int32) ≤ l1 → Q (some (.int (l1 - (41 : Int32)))) m))))) : yP (xg xs) (d + 1) 143 0 [(0, .ref 18), (1, .int l1)] [] m Q := by
  refine y_st rfl rfl rfl rfl rfl (fun _ _ => rfl) ?_
  refine y_st rfl rfl rfl rfl rfl (fun _ _ => rfl) ?_
  show yP (xg xs) (d + 1) 143 3 [(0, .ref 18), (1, .int l1)] [.int (41 : Int32), .int l1] m Q
  refine y_ilt (t := 17) rfl rfl rfl (fun h => ?_) (fun h => ?_)
  · replace H := H.1 h; clear h
    show yP (xg xs) (d + 1) 143 17 [(0, .ref 18), (1, .int l1)] [] m Q
    exact H
  · replace H := H.2 h; clear h
    refine y_st rfl rfl rfl rfl rfl (fun _ _ => rfl) ?_
    refine y_st rfl rfl rfl rfl rfl (fun _ _ => rfl) ?_
    show yP (xg xs) (d + 1) 143 9 [(0, .ref 18), (1, .int l1)] [.int (50 : Int32), .int l1] m Q
    refine y_ige (t := 17) rfl rfl rfl (fun h => ?_) (fun h => ?_)
    · replace H := H.1 h; clear h
      show yP (xg xs) (d + 1) 143 17 [(0, .ref 18), (1, .int l1)] [] m Q
      exact H
    · replace H := H.2 h; clear h
      refine y_st rfl rfl rfl rfl rfl (fun _ _ => rfl) ?_
      refine y_st rfl rfl rfl rfl rfl (fun _ _ => rfl) ?_
      refine y_st rfl rfl rfl rfl rfl (fun _ _ => rfl) ?_
      show yP (xg xs) (d + 1) 143 16 [(0, .ref 18), (1, .int l1)] [.int (l1 - (41 : Int32))] m Q
      exact y_iret rfl rfl rfl H
set_option maxRecDepth 20000 in
/-- CodeMaker.Scope.blockNamed from 17 on -/
theorem w143_17 (xs : List Int32) (d : Nat) (l1 : Int32) (m : yM) (Q : Option Value → yM → Prop) (H : (x_in l1 4172 = true ∧ (((m.1 30 l1.toNatClampNeg) = ((-1) : Int32) → Q (some (.int ((-1) : Int32))) m) ∧ (¬ (m.1 30 l1.toNatClampNeg) = ((-1) : Int32) → (yC (xg xs) d 116 [.ref 18] m (fun v1 m1 => ∃ u1, v1 = some (Value.int u1) ∧ ((u1 ≤ (m.1 30 l1.toNatClampNeg) → Q (some (.int ((-1) : Int32))) m1) ∧ (¬ u1 ≤ (m.1 30 l1.toNatClampNeg) → (x_in (m.1 30 l1.toNatClampNeg) 512 = true ∧ ((¬ (m1.1 24 ((m.1 30 l1.toNatClampNeg).toNatClampNeg)) = (2 : Int32) → Q (some (.int ((-1) : Int32))) m1) ∧ ((m1.1 24 ((m.1 30 l1.toNatClampNeg).toNatClampNeg)) = (2 : Int32) → Q (some (.int ((9 : Int32) + (m.1 30 l1.toNatClampNeg)))) m1))))))))))) : yP (xg xs) (d + 1) 143 17 [(0, .ref 18), (1, .int l1)] [] m Q := by
  refine y_st rfl rfl rfl rfl rfl (fun _ _ => rfl) ?_
  refine y_gf rfl rfl rfl rfl rfl ?_
  refine y_st rfl rfl rfl rfl rfl (fun _ _ => rfl) ?_
  show yP (xg xs) (d + 1) 143 22 [(0, .ref 18), (1, .int l1)] [.int l1, .ref 30] m Q
  refine y_iald rfl rfl rfl (H.1) ?_
  replace H := H.2
  refine y_st rfl rfl rfl rfl rfl (fun _ _ => rfl) ?_
  refine y_st rfl rfl rfl rfl rfl (fun _ _ => rfl) ?_
  refine y_st rfl rfl rfl rfl rfl (fun _ _ => rfl) ?_
  show yP (xg xs) (d + 1) 143 26 [(2, .int (m.1 30 l1.toNatClampNeg)), (0, .ref 18), (1, .int l1)] [.int ((-1) : Int32), .int (m.1 30 l1.toNatClampNeg)] m Q
  refine y_ieq (t := 54) rfl rfl rfl (fun h => ?_) (fun h => ?_)
  · replace H := H.1 h; clear h
    refine y_st rfl rfl rfl rfl rfl (fun _ _ => rfl) ?_
    show yP (xg xs) (d + 1) 143 55 [(2, .int (m.1 30 l1.toNatClampNeg)), (0, .ref 18), (1, .int l1)] [.int ((-1) : Int32)] m Q
    exact y_iret rfl rfl rfl H
  · replace H := H.2 h; clear h
    refine y_st rfl rfl rfl rfl rfl (fun _ _ => rfl) ?_
    refine y_st rfl rfl rfl rfl rfl (fun _ _ => rfl) ?_
    show yP (xg xs) (d + 1) 143 31 [(2, .int (m.1 30 l1.toNatClampNeg)), (0, .ref 18), (1, .int l1)] [.ref 18, .int (m.1 30 l1.toNatClampNeg)] m Q
    refine y_call rfl rfl rfl rfl rfl (Nat.le_of_ble_eq_true rfl) (Nat.le_of_ble_eq_true rfl) rfl (by decide) H (fun v1 m1 H => ?_)
    obtain ⟨u1, rfl, H⟩ := H
    show yP (xg xs) (d + 1) 143 34 [(2, .int (m.1 30 l1.toNatClampNeg)), (0, .ref 18), (1, .int l1)] [.int u1, .int (m.1 30 l1.toNatClampNeg)] m1 Q
    refine y_ige (t := 54) rfl rfl rfl (fun h => ?_) (fun h => ?_)
    · replace H := H.1 h; clear h
      refine y_st rfl rfl rfl rfl rfl (fun _ _ => rfl) ?_
      show yP (xg xs) (d + 1) 143 55 [(2, .int (m.1 30 l1.toNatClampNeg)), (0, .ref 18), (1, .int l1)] [.int ((-1) : Int32)] m1 Q
      exact y_iret rfl rfl rfl H
    · replace H := H.2 h; clear h
      refine y_st rfl rfl rfl rfl rfl (fun _ _ => rfl) ?_
      refine y_gf rfl rfl rfl rfl rfl ?_
      refine y_st rfl rfl rfl rfl rfl (fun _ _ => rfl) ?_
      show yP (xg xs) (d + 1) 143 42 [(2, .int (m.1 30 l1.toNatClampNeg)), (0, .ref 18), (1, .int l1)] [.int (m.1 30 l1.toNatClampNeg), .ref 24] m1 Q
      refine y_iald rfl rfl rfl (H.1) ?_
      replace H := H.2
      refine y_st rfl rfl rfl rfl rfl (fun _ _ => rfl) ?_
      show yP (xg xs) (d + 1) 143 44 [(2, .int (m.1 30 l1.toNatClampNeg)), (0, .ref 18), (1, .int l1)] [.int (2 : Int32), .int (m1.1 24 ((m.1 30 l1.toNatClampNeg).toNatClampNeg))] m1 Q
      refine y_ine (t := 54) rfl rfl rfl (fun h => ?_) (fun h => ?_)
      · replace H := H.1 h; clear h
        refine y_st rfl rfl rfl rfl rfl (fun _ _ => rfl) ?_
        show yP (xg xs) (d + 1) 143 55 [(2, .int (m.1 30 l1.toNatClampNeg)), (0, .ref 18), (1, .int l1)] [.int ((-1) : Int32)] m1 Q
        exact y_iret rfl rfl rfl H
      · replace H := H.2 h; clear h
        refine y_st rfl rfl rfl rfl rfl (fun _ _ => rfl) ?_
        refine y_st rfl rfl rfl rfl rfl (fun _ _ => rfl) ?_
        refine y_st rfl rfl rfl rfl rfl (fun _ _ => rfl) ?_
        refine y_st rfl rfl rfl rfl rfl (fun _ _ => rfl) ?_
        show yP (xg xs) (d + 1) 143 55 [(2, .int (m.1 30 l1.toNatClampNeg)), (0, .ref 18), (1, .int l1)] [.int ((9 : Int32) + (m.1 30 l1.toNatClampNeg))] m1 Q
        exact y_iret rfl rfl rfl H
set_option maxRecDepth 20000 in
/-- CodeMaker.Rules.lookAtRung from 0 on -/
theorem w144_0 (xs : List Int32) (d : Nat) (l1 : Int32) (m : yM) (Q : Option Value → yM → Prop) (H : yP (xg xs) (d + 1) 144 9 [(0, .ref 31), (1, .int l1), (2, .int (0 : Int32)), (3, .int (0 : Int32)), (4, .int (l1 + (1 : Int32)))] [] m Q) : yP (xg xs) (d + 1) 144 0 [(0, .ref 31), (1, .int l1)] [] m Q := by
  refine y_st rfl rfl rfl rfl rfl (fun _ _ => rfl) ?_
  refine y_st rfl rfl rfl rfl rfl (fun _ _ => rfl) ?_
  refine y_st rfl rfl rfl rfl rfl (fun _ _ => rfl) ?_
  refine y_st rfl rfl rfl rfl rfl (fun _ _ => rfl) ?_
  refine y_st rfl rfl rfl rfl rfl (fun _ _ => rfl) ?_
  refine y_st rfl rfl rfl rfl rfl (fun _ _ => rfl) ?_
  refine y_st rfl rfl rfl rfl rfl (fun _ _ => rfl) ?_
  refine y_st rfl rfl rfl rfl rfl (fun _ _ => rfl) ?_
  show yP (xg xs) (d + 1) 144 9 [(4, .int (l1 + (1 : Int32))), (3, .int (0 : Int32)), (2, .int (0 : Int32)), (0, .ref 31), (1, .int l1)] [] m Q
  refine y_headS (l2 := [(0, .ref 31), (1, .int l1), (2, .int (0 : Int32)), (3, .int (0 : Int32)), (4, .int (l1 + (1 : Int32)))]) [3, 4, 2, 1, 0] [0, 1, 2, 3, 4] [4, 3, 2, 0, 1] rfl rfl (by decide) rfl (by decide) ?_
  exact H
set_option maxRecDepth 20000 in
/-- CodeMaker.Rules.lookAtRung from 9 on -/
theorem w144_9 (xs : List Int32) (d : Nat) (l1 : Int32) (l2 : Int32) (l3 : Int32) (l4 : Int32) (m : yM) (Q : Option Value → yM → Prop) (H : (x_in l1 16401 = true ∧ (((m.1 7 l1.toNatClampNeg) ≤ l4 → Q (some (.int (0 : Int32))) m) ∧ (¬ (m.1 7 l1.toNatClampNeg) ≤ l4 → yP (xg xs) (d + 1) 144 32 [(0, .ref 31), (1, .int l1), (2, .int l2), (3, .int l3), (4, .int l4), (5, .int (0 : Int32)), (6, .int (l4 + (1 : Int32)))] [] m Q)))) : yP (xg xs) (d + 1) 144 9 [(0, .ref 31), (1, .int l1), (2, .int l2), (3, .int l3), (4, .int l4)] [] m Q := by
  refine y_st rfl rfl rfl rfl rfl (fun _ _ => rfl) ?_
  refine y_st rfl rfl rfl rfl rfl (fun _ _ => rfl) ?_
  refine y_gf rfl rfl rfl rfl rfl ?_
  refine y_gf rfl rfl rfl rfl rfl ?_
  refine y_st rfl rfl rfl rfl rfl (fun _ _ => rfl) ?_
  show yP (xg xs) (d + 1) 144 19 [(0, .ref 31), (1, .int l1), (2, .int l2), (3, .int l3), (4, .int l4)] [.int l1, .ref 7, .int l4] m Q
  refine y_iald rfl rfl rfl (H.1) ?_
  replace H := H.2
  show yP (xg xs) (d + 1) 144 20 [(0, .ref 31), (1, .int l1), (2, .int l2), (3, .int l3), (4, .int l4)] [.int (m.1 7 l1.toNatClampNeg), .int l4] m Q
  refine y_ige (t := 134) rfl rfl rfl (fun h => ?_) (fun h => ?_)
  · replace H := H.1 h; clear h
    refine y_st rfl rfl rfl rfl rfl (fun _ _ => rfl) ?_
    show yP (xg xs) (d + 1) 144 135 [(0, .ref 31), (1, .int l1), (2, .int l2), (3, .int l3), (4, .int l4)] [.int (0 : Int32)] m Q
    exact y_iret rfl rfl rfl H
  · replace H := H.2 h; clear h
    refine y_st rfl rfl rfl rfl rfl (fun _ _ => rfl) ?_
    refine y_st rfl rfl rfl rfl rfl (fun _ _ => rfl) ?_
    refine y_st rfl rfl rfl rfl rfl (fun _ _ => rfl) ?_
    refine y_st rfl rfl rfl rfl rfl (fun _ _ => rfl) ?_
    refine y_st rfl rfl rfl rfl rfl (fun _ _ => rfl) ?_
    refine y_st rfl rfl rfl rfl rfl (fun _ _ => rfl) ?_
    show yP (xg xs) (d + 1) 144 32 [(6, .int (l4 + (1 : Int32))), (5, .int (0 : Int32)), (0, .ref 31), (1, .int l1), (2, .int l2), (3, .int l3), (4, .int l4)] [] m Q
    refine y_headS (l2 := [(0, .ref 31), (1, .int l1), (2, .int l2), (3, .int l3), (4, .int l4), (5, .int (0 : Int32)), (6, .int (l4 + (1 : Int32)))]) [2, 3, 4, 5, 6, 1, 0] [0, 1, 2, 3, 4, 5, 6] [6, 5, 0, 1, 2, 3, 4] rfl rfl (by decide) rfl (by decide) ?_
    exact H
set_option maxRecDepth 20000 in
/-- CodeMaker.Rules.lookAtRung from 32 on -/
theorem w144_32 (xs : List Int32) (d : Nat) (l1 : Int32) (l2 : Int32) (l3 : Int32) (l4 : Int32) (l5 : Int32) (l6 : Int32) (m : yM) (Q : Option Value → yM → Prop) (H : (x_in l4 16401 = true ∧ (((m.1 7 l4.toNatClampNeg) ≤ l6 → ((¬ l2 = 0 → yP (xg xs) (d + 1) 144 94 [(0, .ref 31), (1, .int l1), (2, .int l2), (3, .int l3), (4, .int l4), (5, .int l5)] [] m Q) ∧ (l2 = 0 → yP (xg xs) (d + 1) 144 94 [(0, .ref 31), (1, .int l1), (2, .int l2), (3, .int l5), (4, .int l4), (5, .int l5)] [] m Q))) ∧ (¬ (m.1 7 l4.toNatClampNeg) ≤ l6 → (x_in l6 16401 = true ∧ ((¬ (m.1 3 l6.toNatClampNeg) = (29 : Int32) → yP (xg xs) (d + 1) 144 69 [(0, .ref 31), (1, .int l1), (2, .int l2), (3, .int l3), (4, .int l4), (6, .int l6)] [.int (1 : Int32), .int l5] m Q) ∧ ((m.1 3 l6.toNatClampNeg) = (29 : Int32) → yP (xg xs) (d + 1) 144 69 [(0, .ref 31), (1, .int l1), (2, .int l2), (3, .int l3), (4, .int l4), (6, .int l6)] [.int (0 : Int32), .int l5] m Q))))))) : yP (xg xs) (d + 1) 144 32 [(0, .ref 31), (1, .int l1), (2, .int l2), (3, .int l3), (4, .int l4), (5, .int l5), (6, .int l6)] [] m Q := by
  refine y_st rfl rfl rfl rfl rfl (fun _ _ => rfl) ?_
  refine y_st rfl rfl rfl rfl rfl (fun _ _ => rfl) ?_
  refine y_gf rfl rfl rfl rfl rfl ?_
  refine y_gf rfl rfl rfl rfl rfl ?_
  refine y_st rfl rfl rfl rfl rfl (fun _ _ => rfl) ?_
  show yP (xg xs) (d + 1) 144 43 [(0, .ref 31), (1, .int l1), (2, .int l2), (3, .int l3), (4, .int l4), (5, .int l5), (6, .int l6)] [.int l4, .ref 7, .int l6] m Q
  refine y_iald rfl rfl rfl (H.1) ?_
  replace H := H.2
  show yP (xg xs) (d + 1) 144 44 [(0, .ref 31), (1, .int l1), (2, .int l2), (3, .int l3), (4, .int l4), (5, .int l5), (6, .int l6)] [.int (m.1 7 l4.toNatClampNeg), .int l6] m Q
  refine y_ige (t := 87) rfl rfl rfl (fun h => ?_) (fun h => ?_)
  · replace H := H.1 h; clear h
    refine y_st rfl rfl rfl rfl rfl (fun _ _ => rfl) ?_
    show yP (xg xs) (d + 1) 144 88 [(0, .ref 31), (1, .int l1), (2, .int l2), (3, .int l3), (4, .int l4), (5, .int l5), (6, .int l6)] [.int l2] m Q
    refine y_zne (t := 94) rfl rfl rfl (fun h => ?_) (fun h => ?_)
    · replace H := H.1 h; clear h
      show yP (xg xs) (d + 1) 144 94 [(0, .ref 31), (1, .int l1), (2, .int l2), (3, .int l3), (4, .int l4), (5, .int l5), (6, .int l6)] [] m Q
      refine y_headS (l2 := [(0, .ref 31), (1, .int l1), (2, .int l2), (3, .int l3), (4, .int l4), (5, .int l5)]) [0, 1, 2, 3, 4, 5] [0, 1, 2, 3, 4, 5] [0, 1, 2, 3, 4, 5, 6] rfl rfl (by decide) rfl (by decide) ?_
      exact H
    · replace H := H.2 h; clear h
      refine y_st rfl rfl rfl rfl rfl (fun _ _ => rfl) ?_
      refine y_st rfl rfl rfl rfl rfl (fun _ _ => rfl) ?_
      show yP (xg xs) (d + 1) 144 94 [(3, .int l5), (0, .ref 31), (1, .int l1), (2, .int l2), (4, .int l4), (5, .int l5), (6, .int l6)] [] m Q
      refine y_headS (l2 := [(0, .ref 31), (1, .int l1), (2, .int l2), (3, .int l5), (4, .int l4), (5, .int l5)]) [1, 2, 3, 0, 4, 5] [0, 1, 2, 3, 4, 5] [3, 0, 1, 2, 4, 5, 6] rfl rfl (by decide) rfl (by decide) ?_
      exact H
  · replace H := H.2 h; clear h
    refine y_st rfl rfl rfl rfl rfl (fun _ _ => rfl) ?_
    refine y_st rfl rfl rfl rfl rfl (fun _ _ => rfl) ?_
    refine y_gf rfl rfl rfl rfl rfl ?_
    refine y_gf rfl rfl rfl rfl rfl ?_
    refine y_st rfl rfl rfl rfl rfl (fun _ _ => rfl) ?_
    show yP (xg xs) (d + 1) 144 58 [(0, .ref 31), (1, .int l1), (2, .int l2), (3, .int l3), (4, .int l4), (5, .int l5), (6, .int l6)] [.int l6, .ref 3, .int l5] m Q
    refine y_iald rfl rfl rfl (H.1) ?_
    replace H := H.2
    refine y_st rfl rfl rfl rfl rfl (fun _ _ => rfl) ?_
    show yP (xg xs) (d + 1) 144 61 [(0, .ref 31), (1, .int l1), (2, .int l2), (3, .int l3), (4, .int l4), (5, .int l5), (6, .int l6)] [.int (29 : Int32), .int (m.1 3 l6.toNatClampNeg), .int l5] m Q
    refine y_ine (t := 68) rfl rfl rfl (fun h => ?_) (fun h => ?_)
    · replace H := H.1 h; clear h
      refine y_st rfl rfl rfl rfl rfl (fun _ _ => rfl) ?_
      show yP (xg xs) (d + 1) 144 69 [(0, .ref 31), (1, .int l1), (2, .int l2), (3, .int l3), (4, .int l4), (5, .int l5), (6, .int l6)] [.int (1 : Int32), .int l5] m Q
      refine y_headS (l2 := [(0, .ref 31), (1, .int l1), (2, .int l2), (3, .int l3), (4, .int l4), (6, .int l6)]) [0, 1, 2, 3, 4, 6] [0, 1, 2, 3, 4, 6] [0, 1, 2, 3, 4, 5, 6] rfl rfl (by decide) rfl (by decide) ?_
      exact H
    · replace H := H.2 h; clear h
      refine y_st rfl rfl rfl rfl rfl (fun _ _ => rfl) ?_
      refine y_st rfl rfl rfl rfl rfl (fun _ _ => rfl) ?_
      show yP (xg xs) (d + 1) 144 69 [(0, .ref 31), (1, .int l1), (2, .int l2), (3, .int l3), (4, .int l4), (5, .int l5), (6, .int l6)] [.int (0 : Int32), .int l5] m Q
      refine y_headS (l2 := [(0, .ref 31), (1, .int l1), (2, .int l2), (3, .int l3), (4, .int l4), (6, .int l6)]) [0, 1, 2, 3, 4, 6] [0, 1, 2, 3, 4, 6] [0, 1, 2, 3, 4, 5, 6] rfl rfl (by decide) rfl (by decide) ?_
      exact H
set_option maxRecDepth 20000 in
/-- CodeMaker.Rules.lookAtRung from 69 on -/
theorem w144_69 (xs : List Int32) (d : Nat) (l1 : Int32) (l2 : Int32) (l3 : Int32) (l4 : Int32) (l6 : Int32) (s0 : Int32) (s1 : Int32) (m : yM) (Q : Option Value → yM → Prop) (H : (x_in l6 16401 = true ∧ yP (xg xs) (d + 1) 144 32 [(0, .ref 31), (1, .int l1), (2, .int l2), (3, .int l3), (4, .int l4), (5, .int (s0 + s1)), (6, .int (m.1 7 l6.toNatClampNeg))] [] m Q)) : yP (xg xs) (d + 1) 144 69 [(0, .ref 31), (1, .int l1), (2, .int l2), (3, .int l3), (4, .int l4), (6, .int l6)] [.int s1, .int s0] m Q := by
  refine y_st rfl rfl rfl rfl rfl (fun _ _ => rfl) ?_
  refine y_st rfl rfl rfl rfl rfl (fun _ _ => rfl) ?_
  refine y_st rfl rfl rfl rfl rfl (fun _ _ => rfl) ?_
  refine y_gf rfl rfl rfl rfl rfl ?_
  refine y_gf rfl rfl rfl rfl rfl ?_
  refine y_st rfl rfl rfl rfl rfl (fun _ _ => rfl) ?_
  show yP (xg xs) (d + 1) 144 81 [(5, .int (s0 + s1)), (0, .ref 31), (1, .int l1), (2, .int l2), (3, .int l3), (4, .int l4), (6, .int l6)] [.int l6, .ref 7] m Q
  refine y_iald rfl rfl rfl (H.1) ?_
  replace H := H.2
  refine y_st rfl rfl rfl rfl rfl (fun _ _ => rfl) ?_
  refine y_st rfl rfl rfl rfl rfl (fun _ _ => rfl) ?_
  show yP (xg xs) (d + 1) 144 32 [(6, .int (m.1 7 l6.toNatClampNeg)), (5, .int (s0 + s1)), (0, .ref 31), (1, .int l1), (2, .int l2), (3, .int l3), (4, .int l4)] [] m Q
  refine y_headS (l2 := [(0, .ref 31), (1, .int l1), (2, .int l2), (3, .int l3), (4, .int l4), (5, .int (s0 + s1)), (6, .int (m.1 7 l6.toNatClampNeg))]) [2, 3, 4, 5, 6, 1, 0] [0, 1, 2, 3, 4, 5, 6] [6, 5, 0, 1, 2, 3, 4] rfl rfl (by decide) rfl (by decide) ?_
  exact H
set_option maxRecDepth 20000 in
/-- CodeMaker.Rules.lookAtRung from 94 on -/
theorem w144_94 (xs : List Int32) (d : Nat) (l1 : Int32) (l2 : Int32) (l3 : Int32) (l4 : Int32) (l5 : Int32) (m : yM) (Q : Option Value → yM → Prop) (H : (((12 : Int32) < (l2 + (1 : Int32)) → Q (some (.int (38 : Int32))) m) ∧ (¬ (12 : Int32) < (l2 + (1 : Int32)) → (((12 : Int32) < l5 → Q (some (.int (38 : Int32))) m) ∧ (¬ (12 : Int32) < l5 → ((l5 = l3 → (x_in l4 16401 = true ∧ yP (xg xs) (d + 1) 144 9 [(0, .ref 31), (1, .int l1), (2, .int (l2 + (1 : Int32))), (3, .int l3), (4, .int (m.1 7 l4.toNatClampNeg))] [] m Q)) ∧ (¬ l5 = l3 → Q (some (.int (38 : Int32))) m))))))) : yP (xg xs) (d + 1) 144 94 [(0, .ref 31), (1, .int l1), (2, .int l2), (3, .int l3), (4, .int l4), (5, .int l5)] [] m Q := by
  refine y_st rfl rfl rfl rfl rfl (fun _ _ => rfl) ?_
  refine y_st rfl rfl rfl rfl rfl (fun _ _ => rfl) ?_
  refine y_st rfl rfl rfl rfl rfl (fun _ _ => rfl) ?_
  show yP (xg xs) (d + 1) 144 100 [(2, .int (l2 + (1 : Int32))), (0, .ref 31), (1, .int l1), (3, .int l3), (4, .int l4), (5, .int l5)] [.int (12 : Int32), .int (l2 + (1 : Int32))] m Q
  refine y_igt (t := 116) rfl rfl rfl (fun h => ?_) (fun h => ?_)
  · replace H := H.1 h; clear h
    refine y_st rfl rfl rfl rfl rfl (fun _ _ => rfl) ?_
    show yP (xg xs) (d + 1) 144 118 [(2, .int (l2 + (1 : Int32))), (0, .ref 31), (1, .int l1), (3, .int l3), (4, .int l4), (5, .int l5)] [.int (38 : Int32)] m Q
    exact y_iret rfl rfl rfl H
  · replace H := H.2 h; clear h
    refine y_st rfl rfl rfl rfl rfl (fun _ _ => rfl) ?_
    refine y_st rfl rfl rfl rfl rfl (fun _ _ => rfl) ?_
    show yP (xg xs) (d + 1) 144 107 [(2, .int (l2 + (1 : Int32))), (0, .ref 31), (1, .int l1), (3, .int l3), (4, .int l4), (5, .int l5)] [.int (12 : Int32), .int l5] m Q
    refine y_igt (t := 116) rfl rfl rfl (fun h => ?_) (fun h => ?_)
    · replace H := H.1 h; clear h
      refine y_st rfl rfl rfl rfl rfl (fun _ _ => rfl) ?_
      show yP (xg xs) (d + 1) 144 118 [(2, .int (l2 + (1 : Int32))), (0, .ref 31), (1, .int l1), (3, .int l3), (4, .int l4), (5, .int l5)] [.int (38 : Int32)] m Q
      exact y_iret rfl rfl rfl H
    · replace H := H.2 h; clear h
      refine y_st rfl rfl rfl rfl rfl (fun _ _ => rfl) ?_
      refine y_st rfl rfl rfl rfl rfl (fun _ _ => rfl) ?_
      show yP (xg xs) (d + 1) 144 113 [(2, .int (l2 + (1 : Int32))), (0, .ref 31), (1, .int l1), (3, .int l3), (4, .int l4), (5, .int l5)] [.int l3, .int l5] m Q
      refine y_ieq (t := 119) rfl rfl rfl (fun h => ?_) (fun h => ?_)
      · replace H := H.1 h; clear h
        refine y_st rfl rfl rfl rfl rfl (fun _ _ => rfl) ?_
        refine y_gf rfl rfl rfl rfl rfl ?_
        refine y_gf rfl rfl rfl rfl rfl ?_
        refine y_st rfl rfl rfl rfl rfl (fun _ _ => rfl) ?_
        show yP (xg xs) (d + 1) 144 128 [(2, .int (l2 + (1 : Int32))), (0, .ref 31), (1, .int l1), (3, .int l3), (4, .int l4), (5, .int l5)] [.int l4, .ref 7] m Q
        refine y_iald rfl rfl rfl (H.1) ?_
        replace H := H.2
        refine y_st rfl rfl rfl rfl rfl (fun _ _ => rfl) ?_
        refine y_st rfl rfl rfl rfl rfl (fun _ _ => rfl) ?_
        show yP (xg xs) (d + 1) 144 9 [(4, .int (m.1 7 l4.toNatClampNeg)), (2, .int (l2 + (1 : Int32))), (0, .ref 31), (1, .int l1), (3, .int l3), (5, .int l5)] [] m Q
        refine y_headS (l2 := [(0, .ref 31), (1, .int l1), (2, .int (l2 + (1 : Int32))), (3, .int l3), (4, .int (m.1 7 l4.toNatClampNeg))]) [2, 3, 1, 4, 0] [0, 1, 2, 3, 4] [4, 2, 0, 1, 3, 5] rfl rfl (by decide) rfl (by decide) ?_
        exact H
      · replace H := H.2 h; clear h
        refine y_st rfl rfl rfl rfl rfl (fun _ _ => rfl) ?_
        show yP (xg xs) (d + 1) 144 118 [(2, .int (l2 + (1 : Int32))), (0, .ref 31), (1, .int l1), (3, .int l3), (4, .int l4), (5, .int l5)] [.int (38 : Int32)] m Q
        exact y_iret rfl rfl rfl H
set_option maxRecDepth 20000 in
/-- CodeMaker.Rules.lookAtCoil from 0 on -/
theorem w145_0 (xs : List Int32) (d : Nat) (l1 : Int32) (m : yM) (Q : Option Value → yM → Prop) (H : (x_in l1 16401 = true ∧ (yC (xg xs) d 124 [.ref 31] m (fun v1 m1 => ∃ u1, v1 = some (Value.int u1) ∧ (x_in u1 16401 = true ∧ (((m.1 7 l1.toNatClampNeg) = (m1.1 7 u1.toNatClampNeg) → (x_in (l1 + (1 : Int32)) 16401 = true ∧ (((m1.1 6 ((l1 + (1 : Int32)).toNatClampNeg)) = 0 → (x_in (l1 + (1 : Int32)) 16401 = true ∧ (yC (xg xs) d 146 [.ref 31, .int (m1.1 5 ((l1 + (1 : Int32)).toNatClampNeg))] m1 (fun v2 m2 => ∃ u2, v2 = some (Value.int u2) ∧ Q (some (.int u2)) m2)))) ∧ (¬ (m1.1 6 ((l1 + (1 : Int32)).toNatClampNeg)) = 0 → Q (some (.int (41 : Int32))) m1)))) ∧ (¬ (m.1 7 l1.toNatClampNeg) = (m1.1 7 u1.toNatClampNeg) → Q (some (.int (39 : Int32))) m1))))))) : yP (xg xs) (d + 1) 145 0 [(0, .ref 31), (1, .int l1)] [] m Q := by
  refine y_st rfl rfl rfl rfl rfl (fun _ _ => rfl) ?_
  refine y_gf rfl rfl rfl rfl rfl ?_
  refine y_gf rfl rfl rfl rfl rfl ?_
  refine y_st rfl rfl rfl rfl rfl (fun _ _ => rfl) ?_
  show yP (xg xs) (d + 1) 145 8 [(0, .ref 31), (1, .int l1)] [.int l1, .ref 7] m Q
  refine y_iald rfl rfl rfl (H.1) ?_
  replace H := H.2
  refine y_st rfl rfl rfl rfl rfl (fun _ _ => rfl) ?_
  refine y_gf rfl rfl rfl rfl rfl ?_
  refine y_gf rfl rfl rfl rfl rfl ?_
  refine y_st rfl rfl rfl rfl rfl (fun _ _ => rfl) ?_
  show yP (xg xs) (d + 1) 145 17 [(0, .ref 31), (1, .int l1)] [.ref 31, .ref 7, .int (m.1 7 l1.toNatClampNeg)] m Q
  refine y_call rfl rfl rfl rfl rfl (Nat.le_of_ble_eq_true rfl) (Nat.le_of_ble_eq_true rfl) rfl (by decide) H (fun v1 m1 H => ?_)
  obtain ⟨u1, rfl, H⟩ := H
  show yP (xg xs) (d + 1) 145 20 [(0, .ref 31), (1, .int l1)] [.int u1, .ref 7, .int (m.1 7 l1.toNatClampNeg)] m1 Q
  refine y_iald rfl rfl rfl (H.1) ?_
  replace H := H.2
  show yP (xg xs) (d + 1) 145 21 [(0, .ref 31), (1, .int l1)] [.int (m1.1 7 u1.toNatClampNeg), .int (m.1 7 l1.toNatClampNeg)] m1 Q
  refine y_ieq (t := 27) rfl rfl rfl (fun h => ?_) (fun h => ?_)
  · replace H := H.1 h; clear h
    refine y_st rfl rfl rfl rfl rfl (fun _ _ => rfl) ?_
    refine y_gf rfl rfl rfl rfl rfl ?_
    refine y_gf rfl rfl rfl rfl rfl ?_
    refine y_st rfl rfl rfl rfl rfl (fun _ _ => rfl) ?_
    refine y_st rfl rfl rfl rfl rfl (fun _ _ => rfl) ?_
    refine y_st rfl rfl rfl rfl rfl (fun _ _ => rfl) ?_
    show yP (xg xs) (d + 1) 145 37 [(0, .ref 31), (1, .int l1)] [.int (l1 + (1 : Int32)), .ref 6] m1 Q
    refine y_iald rfl rfl rfl (H.1) ?_
    replace H := H.2
    show yP (xg xs) (d + 1) 145 38 [(0, .ref 31), (1, .int l1)] [.int (m1.1 6 ((l1 + (1 : Int32)).toNatClampNeg))] m1 Q
    refine y_zeq (t := 44) rfl rfl rfl (fun h => ?_) (fun h => ?_)
    · replace H := H.1 h; clear h
      refine y_st rfl rfl rfl rfl rfl (fun _ _ => rfl) ?_
      refine y_st rfl rfl rfl rfl rfl (fun _ _ => rfl) ?_
      refine y_gf rfl rfl rfl rfl rfl ?_
      refine y_gf rfl rfl rfl rfl rfl ?_
      refine y_st rfl rfl rfl rfl rfl (fun _ _ => rfl) ?_
      refine y_st rfl rfl rfl rfl rfl (fun _ _ => rfl) ?_
      refine y_st rfl rfl rfl rfl rfl (fun _ _ => rfl) ?_
      show yP (xg xs) (d + 1) 145 55 [(0, .ref 31), (1, .int l1)] [.int (l1 + (1 : Int32)), .ref 5, .ref 31] m1 Q
      refine y_iald rfl rfl rfl (H.1) ?_
      replace H := H.2
      show yP (xg xs) (d + 1) 145 56 [(0, .ref 31), (1, .int l1)] [.int (m1.1 5 ((l1 + (1 : Int32)).toNatClampNeg)), .ref 31] m1 Q
      refine y_call rfl rfl rfl rfl rfl (Nat.le_of_ble_eq_true rfl) (Nat.le_of_ble_eq_true rfl) rfl (by decide) H (fun v2 m2 H => ?_)
      obtain ⟨u2, rfl, H⟩ := H
      show yP (xg xs) (d + 1) 145 59 [(0, .ref 31), (1, .int l1)] [.int u2] m2 Q
      exact y_iret rfl rfl rfl H
    · replace H := H.2 h; clear h
      refine y_st rfl rfl rfl rfl rfl (fun _ _ => rfl) ?_
      show yP (xg xs) (d + 1) 145 43 [(0, .ref 31), (1, .int l1)] [.int (41 : Int32)] m1 Q
      exact y_iret rfl rfl rfl H
  · replace H := H.2 h; clear h
    refine y_st rfl rfl rfl rfl rfl (fun _ _ => rfl) ?_
    show yP (xg xs) (d + 1) 145 26 [(0, .ref 31), (1, .int l1)] [.int (39 : Int32)] m1 Q
    exact y_iret rfl rfl rfl H
set_option maxRecDepth 20000 in
/-- CodeMaker.Rules.assigned from 0 on -/
theorem w146_0 (xs : List Int32) (d : Nat) (l1 : Int32) (m : yM) (Q : Option Value → yM → Prop) (H : (yC (xg xs) d 114 [.ref 18, .int (3 : Int32)] m (fun v1 m1 => ∃ u1, v1 = some (Value.int u1) ∧ ((u1 = 0 → yP (xg xs) (d + 1) 146 30 [(0, .ref 31), (1, .int l1)] [] m1 Q) ∧ (¬ u1 = 0 → (x_in l1 4097 = true ∧ (yC (xg xs) d 126 [.int (m1.1 20 l1.toNatClampNeg)] m1 (fun v2 m2 => ∃ u2, v2 = some (Value.int u2) ∧ ((u2 = 0 → yP (xg xs) (d + 1) 146 30 [(0, .ref 31), (1, .int l1)] [] m2 Q) ∧ (¬ u2 = 0 → yP (xg xs) (d + 1) 146 31 [(0, .ref 31), (1, .int l1)] [.int (1 : Int32)] m2 Q)))))))))) : yP (xg xs) (d + 1) 146 0 [(0, .ref 31), (1, .int l1)] [] m Q := by
  refine y_st rfl rfl rfl rfl rfl (fun _ _ => rfl) ?_
  refine y_gf rfl rfl rfl rfl rfl ?_
  refine y_st rfl rfl rfl rfl rfl (fun _ _ => rfl) ?_
  show yP (xg xs) (d + 1) 146 5 [(0, .ref 31), (1, .int l1)] [.int (3 : Int32), .ref 18] m Q
  refine y_call rfl rfl rfl rfl rfl (Nat.le_of_ble_eq_true rfl) (Nat.le_of_ble_eq_true rfl) rfl (by decide) H (fun v1 m1 H => ?_)
  obtain ⟨u1, rfl, H⟩ := H
  show yP (xg xs) (d + 1) 146 8 [(0, .ref 31), (1, .int l1)] [.int u1] m1 Q
  refine y_zeq (t := 30) rfl rfl rfl (fun h => ?_) (fun h => ?_)
  · replace H := H.1 h; clear h
    show yP (xg xs) (d + 1) 146 30 [(0, .ref 31), (1, .int l1)] [] m1 Q
    exact H
  · replace H := H.2 h; clear h
    refine y_st rfl rfl rfl rfl rfl (fun _ _ => rfl) ?_
    refine y_gf rfl rfl rfl rfl rfl ?_
    refine y_gf rfl rfl rfl rfl rfl ?_
    refine y_st rfl rfl rfl rfl rfl (fun _ _ => rfl) ?_
    show yP (xg xs) (d + 1) 146 19 [(0, .ref 31), (1, .int l1)] [.int l1, .ref 20] m1 Q
    refine y_iald rfl rfl rfl (H.1) ?_
    replace H := H.2
    show yP (xg xs) (d + 1) 146 20 [(0, .ref 31), (1, .int l1)] [.int (m1.1 20 l1.toNatClampNeg)] m1 Q
    refine y_call rfl rfl rfl rfl rfl (Nat.le_of_ble_eq_true rfl) (Nat.le_of_ble_eq_true rfl) rfl (by decide) H (fun v2 m2 H => ?_)
    obtain ⟨u2, rfl, H⟩ := H
    show yP (xg xs) (d + 1) 146 23 [(0, .ref 31), (1, .int l1)] [.int u2] m2 Q
    refine y_zeq (t := 30) rfl rfl rfl (fun h => ?_) (fun h => ?_)
    · replace H := H.1 h; clear h
      show yP (xg xs) (d + 1) 146 30 [(0, .ref 31), (1, .int l1)] [] m2 Q
      exact H
    · replace H := H.2 h; clear h
      refine y_st rfl rfl rfl rfl rfl (fun _ _ => rfl) ?_
      refine y_st rfl rfl rfl rfl rfl (fun _ _ => rfl) ?_
      show yP (xg xs) (d + 1) 146 31 [(0, .ref 31), (1, .int l1)] [.int (1 : Int32)] m2 Q
      exact H
set_option maxRecDepth 20000 in
/-- CodeMaker.Rules.assigned from 30 on -/
theorem w146_30 (xs : List Int32) (d : Nat) (l1 : Int32) (m : yM) (Q : Option Value → yM → Prop) (H : yP (xg xs) (d + 1) 146 31 [(0, .ref 31), (1, .int l1)] [.int (0 : Int32)] m Q) : yP (xg xs) (d + 1) 146 30 [(0, .ref 31), (1, .int l1)] [] m Q := by
  refine y_st rfl rfl rfl rfl rfl (fun _ _ => rfl) ?_
  show yP (xg xs) (d + 1) 146 31 [(0, .ref 31), (1, .int l1)] [.int (0 : Int32)] m Q
  exact H
set_option maxRecDepth 20000 in
/-- CodeMaker.Rules.assigned from 31 on -/
theorem w146_31 (xs : List Int32) (d : Nat) (l1 : Int32) (s0 : Int32) (m : yM) (Q : Option Value → yM → Prop) (H : (x_in l1 4097 = true ∧ (((m.1 22 l1.toNatClampNeg) = (1 : Int32) → Q (some (.int (29 : Int32))) m) ∧ (¬ (m.1 22 l1.toNatClampNeg) = (1 : Int32) → ((s0 = 0 → yP (xg xs) (d + 1) 146 54 [(0, .ref 31), (1, .int l1), (3, .int (0 : Int32))] [] m Q) ∧ (¬ s0 = 0 → Q (some (.int (29 : Int32))) m)))))) : yP (xg xs) (d + 1) 146 31 [(0, .ref 31), (1, .int l1)] [.int s0] m Q := by
  refine y_st rfl rfl rfl rfl rfl (fun _ _ => rfl) ?_
  refine y_st rfl rfl rfl rfl rfl (fun _ _ => rfl) ?_
  refine y_gf rfl rfl rfl rfl rfl ?_
  refine y_gf rfl rfl rfl rfl rfl ?_
  refine y_st rfl rfl rfl rfl rfl (fun _ _ => rfl) ?_
  show yP (xg xs) (d + 1) 146 40 [(2, .int s0), (0, .ref 31), (1, .int l1)] [.int l1, .ref 22] m Q
  refine y_iald rfl rfl rfl (H.1) ?_
  replace H := H.2
  refine y_st rfl rfl rfl rfl rfl (fun _ _ => rfl) ?_
  show yP (xg xs) (d + 1) 146 42 [(2, .int s0), (0, .ref 31), (1, .int l1)] [.int (1 : Int32), .int (m.1 22 l1.toNatClampNeg)] m Q
  refine y_ieq (t := 49) rfl rfl rfl (fun h => ?_) (fun h => ?_)
  · replace H := H.1 h; clear h
    refine y_st rfl rfl rfl rfl rfl (fun _ _ => rfl) ?_
    show yP (xg xs) (d + 1) 146 51 [(2, .int s0), (0, .ref 31), (1, .int l1)] [.int (29 : Int32)] m Q
    exact y_iret rfl rfl rfl H
  · replace H := H.2 h; clear h
    refine y_st rfl rfl rfl rfl rfl (fun _ _ => rfl) ?_
    show yP (xg xs) (d + 1) 146 46 [(2, .int s0), (0, .ref 31), (1, .int l1)] [.int s0] m Q
    refine y_zeq (t := 52) rfl rfl rfl (fun h => ?_) (fun h => ?_)
    · replace H := H.1 h; clear h
      refine y_st rfl rfl rfl rfl rfl (fun _ _ => rfl) ?_
      refine y_st rfl rfl rfl rfl rfl (fun _ _ => rfl) ?_
      show yP (xg xs) (d + 1) 146 54 [(3, .int (0 : Int32)), (2, .int s0), (0, .ref 31), (1, .int l1)] [] m Q
      refine y_headS (l2 := [(0, .ref 31), (1, .int l1), (3, .int (0 : Int32))]) [2, 3, 0] [0, 1, 3] [3, 2, 0, 1] rfl rfl (by decide) rfl (by decide) ?_
      exact H
    · replace H := H.2 h; clear h
      refine y_st rfl rfl rfl rfl rfl (fun _ _ => rfl) ?_
      show yP (xg xs) (d + 1) 146 51 [(2, .int s0), (0, .ref 31), (1, .int l1)] [.int (29 : Int32)] m Q
      exact y_iret rfl rfl rfl H
set_option maxRecDepth 20000 in
/-- CodeMaker.Rules.assigned from 54 on -/
theorem w146_54 (xs : List Int32) (d : Nat) (l1 : Int32) (l3 : Int32) (m : yM) (Q : Option Value → yM → Prop) (H : (((m.1 31 6) ≤ l3 → Q (some (.int (0 : Int32))) m) ∧ (¬ (m.1 31 6) ≤ l3 → (x_in l3 256 = true ∧ (x_in (m.1 32 l3.toNatClampNeg) 16401 = true ∧ ((¬ (m.1 3 ((m.1 32 l3.toNatClampNeg).toNatClampNeg)) = (19 : Int32) → yP (xg xs) (d + 1) 146 110 [(0, .ref 31), (1, .int l1), (3, .int l3)] [] m Q) ∧ ((m.1 3 ((m.1 32 l3.toNatClampNeg).toNatClampNeg)) = (19 : Int32) → (x_in l3 256 = true ∧ (x_in (m.1 32 l3.toNatClampNeg) 16401 = true ∧ (x_in l1 4097 = true ∧ ((¬ (m.1 5 ((m.1 32 l3.toNatClampNeg).toNatClampNeg)) = (m.1 19 l1.toNatClampNeg) → yP (xg xs) (d + 1) 146 110 [(0, .ref 31), (1, .int l1), (3, .int l3)] [] m Q) ∧ ((m.1 5 ((m.1 32 l3.toNatClampNeg).toNatClampNeg)) = (m.1 19 l1.toNatClampNeg) → Q (some (.int (30 : Int32))) m)))))))))))) : yP (xg xs) (d + 1) 146 54 [(0, .ref 31), (1, .int l1), (3, .int l3)] [] m Q := by
  refine y_st rfl rfl rfl rfl rfl (fun _ _ => rfl) ?_
  refine y_st rfl rfl rfl rfl rfl (fun _ _ => rfl) ?_
  refine y_gf rfl rfl rfl rfl rfl ?_
  show yP (xg xs) (d + 1) 146 59 [(0, .ref 31), (1, .int l1), (3, .int l3)] [.int (m.1 31 6), .int l3] m Q
  refine y_ige (t := 116) rfl rfl rfl (fun h => ?_) (fun h => ?_)
  · replace H := H.1 h; clear h
    refine y_st rfl rfl rfl rfl rfl (fun _ _ => rfl) ?_
    show yP (xg xs) (d + 1) 146 117 [(0, .ref 31), (1, .int l1), (3, .int l3)] [.int (0 : Int32)] m Q
    exact y_iret rfl rfl rfl H
  · replace H := H.2 h; clear h
    refine y_st rfl rfl rfl rfl rfl (fun _ _ => rfl) ?_
    refine y_gf rfl rfl rfl rfl rfl ?_
    refine y_gf rfl rfl rfl rfl rfl ?_
    refine y_st rfl rfl rfl rfl rfl (fun _ _ => rfl) ?_
    refine y_gf rfl rfl rfl rfl rfl ?_
    refine y_st rfl rfl rfl rfl rfl (fun _ _ => rfl) ?_
    show yP (xg xs) (d + 1) 146 74 [(0, .ref 31), (1, .int l1), (3, .int l3)] [.int l3, .ref 32, .ref 3] m Q
    refine y_iald rfl rfl rfl (H.1) ?_
    replace H := H.2
    show yP (xg xs) (d + 1) 146 75 [(0, .ref 31), (1, .int l1), (3, .int l3)] [.int (m.1 32 l3.toNatClampNeg), .ref 3] m Q
    refine y_iald rfl rfl rfl (H.1) ?_
    replace H := H.2
    refine y_st rfl rfl rfl rfl rfl (fun _ _ => rfl) ?_
    show yP (xg xs) (d + 1) 146 78 [(0, .ref 31), (1, .int l1), (3, .int l3)] [.int (19 : Int32), .int (m.1 3 ((m.1 32 l3.toNatClampNeg).toNatClampNeg))] m Q
    refine y_ine (t := 110) rfl rfl rfl (fun h => ?_) (fun h => ?_)
    · replace H := H.1 h; clear h
      show yP (xg xs) (d + 1) 146 110 [(0, .ref 31), (1, .int l1), (3, .int l3)] [] m Q
      exact H
    · replace H := H.2 h; clear h
      refine y_st rfl rfl rfl rfl rfl (fun _ _ => rfl) ?_
      refine y_gf rfl rfl rfl rfl rfl ?_
      refine y_gf rfl rfl rfl rfl rfl ?_
      refine y_st rfl rfl rfl rfl rfl (fun _ _ => rfl) ?_
      refine y_gf rfl rfl rfl rfl rfl ?_
      refine y_st rfl rfl rfl rfl rfl (fun _ _ => rfl) ?_
      show yP (xg xs) (d + 1) 146 93 [(0, .ref 31), (1, .int l1), (3, .int l3)] [.int l3, .ref 32, .ref 5] m Q
      refine y_iald rfl rfl rfl (H.1) ?_
      replace H := H.2
      show yP (xg xs) (d + 1) 146 94 [(0, .ref 31), (1, .int l1), (3, .int l3)] [.int (m.1 32 l3.toNatClampNeg), .ref 5] m Q
      refine y_iald rfl rfl rfl (H.1) ?_
      replace H := H.2
      refine y_st rfl rfl rfl rfl rfl (fun _ _ => rfl) ?_
      refine y_gf rfl rfl rfl rfl rfl ?_
      refine y_gf rfl rfl rfl rfl rfl ?_
      refine y_st rfl rfl rfl rfl rfl (fun _ _ => rfl) ?_
      show yP (xg xs) (d + 1) 146 103 [(0, .ref 31), (1, .int l1), (3, .int l3)] [.int l1, .ref 19, .int (m.1 5 ((m.1 32 l3.toNatClampNeg).toNatClampNeg))] m Q
      refine y_iald rfl rfl rfl (H.1) ?_
      replace H := H.2
      show yP (xg xs) (d + 1) 146 104 [(0, .ref 31), (1, .int l1), (3, .int l3)] [.int (m.1 19 l1.toNatClampNeg), .int (m.1 5 ((m.1 32 l3.toNatClampNeg).toNatClampNeg))] m Q
      refine y_ine (t := 110) rfl rfl rfl (fun h => ?_) (fun h => ?_)
      · replace H := H.1 h; clear h
        show yP (xg xs) (d + 1) 146 110 [(0, .ref 31), (1, .int l1), (3, .int l3)] [] m Q
        exact H
      · replace H := H.2 h; clear h
        refine y_st rfl rfl rfl rfl rfl (fun _ _ => rfl) ?_
        show yP (xg xs) (d + 1) 146 109 [(0, .ref 31), (1, .int l1), (3, .int l3)] [.int (30 : Int32)] m Q
        exact y_iret rfl rfl rfl H
set_option maxRecDepth 20000 in
/-- CodeMaker.Rules.assigned from 110 on -/
theorem w146_110 (xs : List Int32) (d : Nat) (l1 : Int32) (l3 : Int32) (m : yM) (Q : Option Value → yM → Prop) (H : yP (xg xs) (d + 1) 146 54 [(0, .ref 31), (1, .int l1), (3, .int (l3 + (1 : Int32)))] [] m Q) : yP (xg xs) (d + 1) 146 110 [(0, .ref 31), (1, .int l1), (3, .int l3)] [] m Q := by
  refine y_st rfl rfl rfl rfl rfl (fun _ _ => rfl) ?_
  refine y_st rfl rfl rfl rfl rfl (fun _ _ => rfl) ?_
  show yP (xg xs) (d + 1) 146 54 [(3, .int (l3 + (1 : Int32))), (0, .ref 31), (1, .int l1)] [] m Q
  refine y_headS (l2 := [(0, .ref 31), (1, .int l1), (3, .int (l3 + (1 : Int32)))]) [1, 2, 0] [0, 1, 3] [3, 0, 1] rfl rfl (by decide) rfl (by decide) ?_
  exact H
set_option maxRecDepth 20000 in
/-- CodeMaker.Rules.lookAtLink from 0 on -/
theorem w147_0 (xs : List Int32) (d : Nat) (m : yM) (Q : Option Value → yM → Prop) (H : (((m.1 31 6) ≤ (1 : Int32) → yP (xg xs) (d + 1) 147 23 [(0, .ref 31)] [.int (0 : Int32)] m Q) ∧ (¬ (m.1 31 6) ≤ (1 : Int32) → (x_in ((m.1 31 6) - (2 : Int32)) 256 = true ∧ yP (xg xs) (d + 1) 147 23 [(0, .ref 31)] [.int (m.1 32 (((m.1 31 6) - (2 : Int32)).toNatClampNeg))] m Q)))) : yP (xg xs) (d + 1) 147 0 [(0, .ref 31)] [] m Q := by
  refine y_st rfl rfl rfl rfl rfl (fun _ _ => rfl) ?_
  refine y_gf rfl rfl rfl rfl rfl ?_
  refine y_st rfl rfl rfl rfl rfl (fun _ _ => rfl) ?_
  show yP (xg xs) (d + 1) 147 5 [(0, .ref 31)] [.int (1 : Int32), .int (m.1 31 6)] m Q
  refine y_ile (t := 22) rfl rfl rfl (fun h => ?_) (fun h => ?_)
  · replace H := H.1 h; clear h
    refine y_st rfl rfl rfl rfl rfl (fun _ _ => rfl) ?_
    show yP (xg xs) (d + 1) 147 23 [(0, .ref 31)] [.int (0 : Int32)] m Q
    exact H
  · replace H := H.2 h; clear h
    refine y_st rfl rfl rfl rfl rfl (fun _ _ => rfl) ?_
    refine y_gf rfl rfl rfl rfl rfl ?_
    refine y_st rfl rfl rfl rfl rfl (fun _ _ => rfl) ?_
    refine y_gf rfl rfl rfl rfl rfl ?_
    refine y_st rfl rfl rfl rfl rfl (fun _ _ => rfl) ?_
    refine y_st rfl rfl rfl rfl rfl (fun _ _ => rfl) ?_
    show yP (xg xs) (d + 1) 147 18 [(0, .ref 31)] [.int ((m.1 31 6) - (2 : Int32)), .ref 32] m Q
    refine y_iald rfl rfl rfl (H.1) ?_
    replace H := H.2
    refine y_st rfl rfl rfl rfl rfl (fun _ _ => rfl) ?_
    show yP (xg xs) (d + 1) 147 23 [(0, .ref 31)] [.int (m.1 32 (((m.1 31 6) - (2 : Int32)).toNatClampNeg))] m Q
    exact H
set_option maxRecDepth 20000 in
/-- CodeMaker.Rules.lookAtLink from 23 on -/
theorem w147_23 (xs : List Int32) (d : Nat) (s0 : Int32) (m : yM) (Q : Option Value → yM → Prop) (H : (yC (xg xs) d 124 [.ref 31] m (fun v1 m1 => ∃ u1, v1 = some (Value.int u1) ∧ (x_in u1 16401 = true ∧ (x_in s0 16401 = true ∧ ((¬ (m1.1 7 u1.toNatClampNeg) = (m1.1 7 s0.toNatClampNeg) → Q (some (.int (0 : Int32))) m1) ∧ ((m1.1 7 u1.toNatClampNeg) = (m1.1 7 s0.toNatClampNeg) → Q (some (.int (40 : Int32))) m1))))))) : yP (xg xs) (d + 1) 147 23 [(0, .ref 31)] [.int s0] m Q := by
  refine y_st rfl rfl rfl rfl rfl (fun _ _ => rfl) ?_
  refine y_st rfl rfl rfl rfl rfl (fun _ _ => rfl) ?_
  refine y_gf rfl rfl rfl rfl rfl ?_
  refine y_gf rfl rfl rfl rfl rfl ?_
  refine y_st rfl rfl rfl rfl rfl (fun _ _ => rfl) ?_
  show yP (xg xs) (d + 1) 147 32 [(1, .int s0), (0, .ref 31)] [.ref 31, .ref 7] m Q
  refine y_call rfl rfl rfl rfl rfl (Nat.le_of_ble_eq_true rfl) (Nat.le_of_ble_eq_true rfl) rfl (by decide) H (fun v1 m1 H => ?_)
  obtain ⟨u1, rfl, H⟩ := H
  show yP (xg xs) (d + 1) 147 35 [(1, .int s0), (0, .ref 31)] [.int u1, .ref 7] m1 Q
  refine y_iald rfl rfl rfl (H.1) ?_
  replace H := H.2
  refine y_st rfl rfl rfl rfl rfl (fun _ _ => rfl) ?_
  refine y_gf rfl rfl rfl rfl rfl ?_
  refine y_gf rfl rfl rfl rfl rfl ?_
  refine y_st rfl rfl rfl rfl rfl (fun _ _ => rfl) ?_
  show yP (xg xs) (d + 1) 147 44 [(1, .int s0), (0, .ref 31)] [.int s0, .ref 7, .int (m1.1 7 u1.toNatClampNeg)] m1 Q
  refine y_iald rfl rfl rfl (H.1) ?_
  replace H := H.2
  show yP (xg xs) (d + 1) 147 45 [(1, .int s0), (0, .ref 31)] [.int (m1.1 7 s0.toNatClampNeg), .int (m1.1 7 u1.toNatClampNeg)] m1 Q
  refine y_ine (t := 53) rfl rfl rfl (fun h => ?_) (fun h => ?_)
  · replace H := H.1 h; clear h
    refine y_st rfl rfl rfl rfl rfl (fun _ _ => rfl) ?_
    show yP (xg xs) (d + 1) 147 54 [(1, .int s0), (0, .ref 31)] [.int (0 : Int32)] m1 Q
    exact y_iret rfl rfl rfl H
  · replace H := H.2 h; clear h
    refine y_st rfl rfl rfl rfl rfl (fun _ _ => rfl) ?_
    refine y_st rfl rfl rfl rfl rfl (fun _ _ => rfl) ?_
    show yP (xg xs) (d + 1) 147 54 [(1, .int s0), (0, .ref 31)] [.int (40 : Int32)] m1 Q
    exact y_iret rfl rfl rfl H
set_option maxRecDepth 20000 in
/-- CodeMaker.Rules.lookAtStatement from 0 on -/
theorem w148_0 (xs : List Int32) (d : Nat) (l1 : Int32) (m : yM) (Q : Option Value → yM → Prop) (H : (x_in l1 16401 = true ∧ (((m.1 3 l1.toNatClampNeg) = (12 : Int32) → (yC (xg xs) d 149 [.ref 31, .int l1] m (fun v1 m1 => ∃ u1, v1 = some (Value.int u1) ∧ Q (some (.int u1)) m1))) ∧ ((m.1 3 l1.toNatClampNeg) = (13 : Int32) → (yC (xg xs) d 151 [.ref 31, .int l1] m (fun v2 m2 => ∃ u2, v2 = some (Value.int u2) ∧ Q (some (.int u2)) m2))) ∧ ((m.1 3 l1.toNatClampNeg) = (14 : Int32) → (yC (xg xs) d 152 [.ref 31, .int l1] m (fun v3 m3 => ∃ u3, v3 = some (Value.int u3) ∧ Q (some (.int u3)) m3))) ∧ ((m.1 3 l1.toNatClampNeg) = (15 : Int32) → (yC (xg xs) d 156 [.ref 31, .int l1] m (fun v4 m4 => ∃ u4, v4 = some (Value.int u4) ∧ Q (some (.int u4)) m4))) ∧ ((m.1 3 l1.toNatClampNeg) = (16 : Int32) → (x_in (l1 + (1 : Int32)) 16401 = true ∧ ((¬ (m.1 6 ((l1 + (1 : Int32)).toNatClampNeg)) = 0 → Q (some (.int (0 : Int32))) m) ∧ ((m.1 6 ((l1 + (1 : Int32)).toNatClampNeg)) = 0 → Q (some (.int (34 : Int32))) m)))) ∧ ((m.1 3 l1.toNatClampNeg) = (18 : Int32) → (yC (xg xs) d 157 [.ref 31, .int l1] m (fun v5 m5 => ∃ u5, v5 = some (Value.int u5) ∧ Q (some (.int u5)) m5))) ∧ ((m.1 3 l1.toNatClampNeg) = (19 : Int32) → (yC (xg xs) d 158 [.ref 31, .int l1] m (fun v6 m6 => ∃ u6, v6 = some (Value.int u6) ∧ Q (some (.int u6)) m6))) ∧ ((m.1 3 l1.toNatClampNeg) = (20 : Int32) → (yC (xg xs) d 161 [.ref 31] m (fun v7 m7 => ∃ u7, v7 = some (Value.int u7) ∧ ((u7 = 0 → Q (some (.int (37 : Int32))) m7) ∧ (¬ u7 = 0 → Q (some (.int (0 : Int32))) m7))))) ∧ (¬ (m.1 3 l1.toNatClampNeg) = (12 : Int32) → ¬ (m.1 3 l1.toNatClampNeg) = (13 : Int32) → ¬ (m.1 3 l1.toNatClampNeg) = (14 : Int32) → ¬ (m.1 3 l1.toNatClampNeg) = (15 : Int32) → ¬ (m.1 3 l1.toNatClampNeg) = (16 : Int32) → ¬ (m.1 3 l1.toNatClampNeg) = (18 : Int32) → ¬ (m.1 3 l1.toNatClampNeg) = (19 : Int32) → ¬ (m.1 3 l1.toNatClampNeg) = (20 : Int32) → Q (some (.int (0 : Int32))) m)))) : yP (xg xs) (d + 1) 148 0 [(0, .ref 31), (1, .int l1)] [] m Q := by
  refine y_st rfl rfl rfl rfl rfl (fun _ _ => rfl) ?_
  refine y_gf rfl rfl rfl rfl rfl ?_
  refine y_gf rfl rfl rfl rfl rfl ?_
  refine y_st rfl rfl rfl rfl rfl (fun _ _ => rfl) ?_
  show yP (xg xs) (d + 1) 148 8 [(0, .ref 31), (1, .int l1)] [.int l1, .ref 3] m Q
  refine y_iald rfl rfl rfl (H.1) ?_
  replace H := H.2
  show yP (xg xs) (d + 1) 148 9 [(0, .ref 31), (1, .int l1)] [.int (m.1 3 l1.toNatClampNeg)] m Q
  by_cases h12 : m.1 3 l1.toNatClampNeg = (12 : Int32)
  · replace H := H.1 h12
    refine y_tsw (t := 60) rfl rfl (by rw [h12]; rfl) ?_
    clear h12
    refine y_st rfl rfl rfl rfl rfl (fun _ _ => rfl) ?_
    refine y_st rfl rfl rfl rfl rfl (fun _ _ => rfl) ?_
    show yP (xg xs) (d + 1) 148 62 [(0, .ref 31), (1, .int l1)] [.int l1, .ref 31] m Q
    refine y_call rfl rfl rfl rfl rfl (Nat.le_of_ble_eq_true rfl) (Nat.le_of_ble_eq_true rfl) rfl (by decide) H (fun v1 m1 H => ?_)
    obtain ⟨u1, rfl, H⟩ := H
    show yP (xg xs) (d + 1) 148 65 [(0, .ref 31), (1, .int l1)] [.int u1] m1 Q
    exact y_iret rfl rfl rfl H
  replace H := H.2
  by_cases h13 : m.1 3 l1.toNatClampNeg = (13 : Int32)
  · replace H := H.1 h13
    refine y_tsw (t := 66) rfl rfl (by rw [h13]; rfl) ?_
    clear h13 h12
    refine y_st rfl rfl rfl rfl rfl (fun _ _ => rfl) ?_
    refine y_st rfl rfl rfl rfl rfl (fun _ _ => rfl) ?_
    show yP (xg xs) (d + 1) 148 68 [(0, .ref 31), (1, .int l1)] [.int l1, .ref 31] m Q
    refine y_call rfl rfl rfl rfl rfl (Nat.le_of_ble_eq_true rfl) (Nat.le_of_ble_eq_true rfl) rfl (by decide) H (fun v2 m2 H => ?_)
    obtain ⟨u2, rfl, H⟩ := H
    show yP (xg xs) (d + 1) 148 71 [(0, .ref 31), (1, .int l1)] [.int u2] m2 Q
    exact y_iret rfl rfl rfl H
  replace H := H.2
  by_cases h14 : m.1 3 l1.toNatClampNeg = (14 : Int32)
  · replace H := H.1 h14
    refine y_tsw (t := 72) rfl rfl (by rw [h14]; rfl) ?_
    clear h14 h13 h12
    refine y_st rfl rfl rfl rfl rfl (fun _ _ => rfl) ?_
    refine y_st rfl rfl rfl rfl rfl (fun _ _ => rfl) ?_
    show yP (xg xs) (d + 1) 148 74 [(0, .ref 31), (1, .int l1)] [.int l1, .ref 31] m Q
    refine y_call rfl rfl rfl rfl rfl (Nat.le_of_ble_eq_true rfl) (Nat.le_of_ble_eq_true rfl) rfl (by decide) H (fun v3 m3 H => ?_)
    obtain ⟨u3, rfl, H⟩ := H
    show yP (xg xs) (d + 1) 148 77 [(0, .ref 31), (1, .int l1)] [.int u3] m3 Q
    exact y_iret rfl rfl rfl H
  replace H := H.2
  by_cases h15 : m.1 3 l1.toNatClampNeg = (15 : Int32)
  · replace H := H.1 h15
    refine y_tsw (t := 78) rfl rfl (by rw [h15]; rfl) ?_
    clear h15 h14 h13 h12
    refine y_st rfl rfl rfl rfl rfl (fun _ _ => rfl) ?_
    refine y_st rfl rfl rfl rfl rfl (fun _ _ => rfl) ?_
    show yP (xg xs) (d + 1) 148 80 [(0, .ref 31), (1, .int l1)] [.int l1, .ref 31] m Q
    refine y_call rfl rfl rfl rfl rfl (Nat.le_of_ble_eq_true rfl) (Nat.le_of_ble_eq_true rfl) rfl (by decide) H (fun v4 m4 H => ?_)
    obtain ⟨u4, rfl, H⟩ := H
    show yP (xg xs) (d + 1) 148 83 [(0, .ref 31), (1, .int l1)] [.int u4] m4 Q
    exact y_iret rfl rfl rfl H
  replace H := H.2
  by_cases h16 : m.1 3 l1.toNatClampNeg = (16 : Int32)
  · replace H := H.1 h16
    refine y_tsw (t := 84) rfl rfl (by rw [h16]; rfl) ?_
    clear h16 h15 h14 h13 h12
    refine y_st rfl rfl rfl rfl rfl (fun _ _ => rfl) ?_
    refine y_gf rfl rfl rfl rfl rfl ?_
    refine y_gf rfl rfl rfl rfl rfl ?_
    refine y_st rfl rfl rfl rfl rfl (fun _ _ => rfl) ?_
    refine y_st rfl rfl rfl rfl rfl (fun _ _ => rfl) ?_
    refine y_st rfl rfl rfl rfl rfl (fun _ _ => rfl) ?_
    show yP (xg xs) (d + 1) 148 94 [(0, .ref 31), (1, .int l1)] [.int (l1 + (1 : Int32)), .ref 6] m Q
    refine y_iald rfl rfl rfl (H.1) ?_
    replace H := H.2
    show yP (xg xs) (d + 1) 148 95 [(0, .ref 31), (1, .int l1)] [.int (m.1 6 ((l1 + (1 : Int32)).toNatClampNeg))] m Q
    refine y_zne (t := 103) rfl rfl rfl (fun h => ?_) (fun h => ?_)
    · replace H := H.1 h; clear h
      refine y_st rfl rfl rfl rfl rfl (fun _ _ => rfl) ?_
      show yP (xg xs) (d + 1) 148 104 [(0, .ref 31), (1, .int l1)] [.int (0 : Int32)] m Q
      exact y_iret rfl rfl rfl H
    · replace H := H.2 h; clear h
      refine y_st rfl rfl rfl rfl rfl (fun _ _ => rfl) ?_
      refine y_st rfl rfl rfl rfl rfl (fun _ _ => rfl) ?_
      show yP (xg xs) (d + 1) 148 104 [(0, .ref 31), (1, .int l1)] [.int (34 : Int32)] m Q
      exact y_iret rfl rfl rfl H
  replace H := H.2
  by_cases h18 : m.1 3 l1.toNatClampNeg = (18 : Int32)
  · replace H := H.1 h18
    refine y_tsw (t := 105) rfl rfl (by rw [h18]; rfl) ?_
    clear h18 h16 h15 h14 h13 h12
    refine y_st rfl rfl rfl rfl rfl (fun _ _ => rfl) ?_
    refine y_st rfl rfl rfl rfl rfl (fun _ _ => rfl) ?_
    show yP (xg xs) (d + 1) 148 107 [(0, .ref 31), (1, .int l1)] [.int l1, .ref 31] m Q
    refine y_call rfl rfl rfl rfl rfl (Nat.le_of_ble_eq_true rfl) (Nat.le_of_ble_eq_true rfl) rfl (by decide) H (fun v5 m5 H => ?_)
    obtain ⟨u5, rfl, H⟩ := H
    show yP (xg xs) (d + 1) 148 110 [(0, .ref 31), (1, .int l1)] [.int u5] m5 Q
    exact y_iret rfl rfl rfl H
  replace H := H.2
  by_cases h19 : m.1 3 l1.toNatClampNeg = (19 : Int32)
  · replace H := H.1 h19
    refine y_tsw (t := 111) rfl rfl (by rw [h19]; rfl) ?_
    clear h19 h18 h16 h15 h14 h13 h12
    refine y_st rfl rfl rfl rfl rfl (fun _ _ => rfl) ?_
    refine y_st rfl rfl rfl rfl rfl (fun _ _ => rfl) ?_
    show yP (xg xs) (d + 1) 148 113 [(0, .ref 31), (1, .int l1)] [.int l1, .ref 31] m Q
    refine y_call rfl rfl rfl rfl rfl (Nat.le_of_ble_eq_true rfl) (Nat.le_of_ble_eq_true rfl) rfl (by decide) H (fun v6 m6 H => ?_)
    obtain ⟨u6, rfl, H⟩ := H
    show yP (xg xs) (d + 1) 148 116 [(0, .ref 31), (1, .int l1)] [.int u6] m6 Q
    exact y_iret rfl rfl rfl H
  replace H := H.2
  by_cases h20 : m.1 3 l1.toNatClampNeg = (20 : Int32)
  · replace H := H.1 h20
    refine y_tsw (t := 117) rfl rfl (by rw [h20]; rfl) ?_
    clear h20 h19 h18 h16 h15 h14 h13 h12
    refine y_st rfl rfl rfl rfl rfl (fun _ _ => rfl) ?_
    show yP (xg xs) (d + 1) 148 118 [(0, .ref 31), (1, .int l1)] [.ref 31] m Q
    refine y_call rfl rfl rfl rfl rfl (Nat.le_of_ble_eq_true rfl) (Nat.le_of_ble_eq_true rfl) rfl (by decide) H (fun v7 m7 H => ?_)
    obtain ⟨u7, rfl, H⟩ := H
    show yP (xg xs) (d + 1) 148 121 [(0, .ref 31), (1, .int l1)] [.int u7] m7 Q
    refine y_zeq (t := 128) rfl rfl rfl (fun h => ?_) (fun h => ?_)
    · replace H := H.1 h; clear h
      refine y_st rfl rfl rfl rfl rfl (fun _ _ => rfl) ?_
      show yP (xg xs) (d + 1) 148 130 [(0, .ref 31), (1, .int l1)] [.int (37 : Int32)] m7 Q
      exact y_iret rfl rfl rfl H
    · replace H := H.2 h; clear h
      refine y_st rfl rfl rfl rfl rfl (fun _ _ => rfl) ?_
      refine y_st rfl rfl rfl rfl rfl (fun _ _ => rfl) ?_
      show yP (xg xs) (d + 1) 148 130 [(0, .ref 31), (1, .int l1)] [.int (0 : Int32)] m7 Q
      exact y_iret rfl rfl rfl H
  replace H := H.2
  refine y_tsw (t := 131) rfl rfl (by have g0 := ne_lit (12 : Int32) 12 rfl h12; have g1 := ne_lit (13 : Int32) 13 rfl h13; have g2 := ne_lit (14 : Int32) 14 rfl h14; have g3 := ne_lit (15 : Int32) 15 rfl h15; have g4 := ne_lit (16 : Int32) 16 rfl h16; have g5 := ne_lit (18 : Int32) 18 rfl h18; have g6 := ne_lit (19 : Int32) 19 rfl h19; have g7 := ne_lit (20 : Int32) 20 rfl h20; by_cases z : ((m.1 3 l1.toNatClampNeg)).toInt < 12 ∨ 20 < ((m.1 3 l1.toNatClampNeg)).toInt; exact (if_pos z).trans rfl; rw [if_neg z]; rcases (by omega : ((m.1 3 l1.toNatClampNeg)).toInt = 17) with e <;> rw [e] <;> rfl) ?_
  replace H := H h12 h13 h14 h15 h16 h18 h19 h20
  clear h20 h19 h18 h16 h15 h14 h13 h12
  refine y_st rfl rfl rfl rfl rfl (fun _ _ => rfl) ?_
  show yP (xg xs) (d + 1) 148 132 [(0, .ref 31), (1, .int l1)] [.int (0 : Int32)] m Q
  exact y_iret rfl rfl rfl H
set_option maxRecDepth 20000 in
/-- CodeMaker.Rules.lookAtAssignment from 0 on -/
theorem w149_0 (xs : List Int32) (d : Nat) (l1 : Int32) (m : yM) (Q : Option Value → yM → Prop) (H : (x_in (l1 + (1 : Int32)) 16401 = true ∧ (yC (xg xs) d 146 [.ref 31, .int (m.1 5 ((l1 + (1 : Int32)).toNatClampNeg))] m (fun v1 m1 => ∃ u1, v1 = some (Value.int u1) ∧ ((u1 = 0 → (x_in (l1 + (1 : Int32)) 16401 = true ∧ (x_in (m1.1 7 ((l1 + (1 : Int32)).toNatClampNeg)) 16401 = true ∧ (x_in (l1 + (1 : Int32)) 16401 = true ∧ (yC (xg xs) d 150 [.int (m1.1 6 ((m1.1 7 ((l1 + (1 : Int32)).toNatClampNeg)).toNatClampNeg)), .int (m1.1 6 ((l1 + (1 : Int32)).toNatClampNeg))] m1 (fun v2 m2 => ∃ u2, v2 = some (Value.int u2) ∧ ((u2 = 0 → Q (some (.int (31 : Int32))) m2) ∧ (¬ u2 = 0 → Q (some (.int (0 : Int32))) m2)))))))) ∧ (¬ u1 = 0 → Q (some (.int u1)) m1)))))) : yP (xg xs) (d + 1) 149 0 [(0, .ref 31), (1, .int l1)] [] m Q := by
  refine y_st rfl rfl rfl rfl rfl (fun _ _ => rfl) ?_
  refine y_st rfl rfl rfl rfl rfl (fun _ _ => rfl) ?_
  refine y_st rfl rfl rfl rfl rfl (fun _ _ => rfl) ?_
  refine y_st rfl rfl rfl rfl rfl (fun _ _ => rfl) ?_
  refine y_st rfl rfl rfl rfl rfl (fun _ _ => rfl) ?_
  refine y_st rfl rfl rfl rfl rfl (fun _ _ => rfl) ?_
  refine y_gf rfl rfl rfl rfl rfl ?_
  refine y_gf rfl rfl rfl rfl rfl ?_
  refine y_st rfl rfl rfl rfl rfl (fun _ _ => rfl) ?_
  show yP (xg xs) (d + 1) 149 13 [(2, .int (l1 + (1 : Int32))), (0, .ref 31), (1, .int l1)] [.int (l1 + (1 : Int32)), .ref 5, .ref 31] m Q
  refine y_iald rfl rfl rfl (H.1) ?_
  replace H := H.2
  show yP (xg xs) (d + 1) 149 14 [(2, .int (l1 + (1 : Int32))), (0, .ref 31), (1, .int l1)] [.int (m.1 5 ((l1 + (1 : Int32)).toNatClampNeg)), .ref 31] m Q
  refine y_call rfl rfl rfl rfl rfl (Nat.le_of_ble_eq_true rfl) (Nat.le_of_ble_eq_true rfl) rfl (by decide) H (fun v1 m1 H => ?_)
  obtain ⟨u1, rfl, H⟩ := H
  refine y_st rfl rfl rfl rfl rfl (fun _ _ => rfl) ?_
  refine y_st rfl rfl rfl rfl rfl (fun _ _ => rfl) ?_
  show yP (xg xs) (d + 1) 149 19 [(3, .int u1), (2, .int (l1 + (1 : Int32))), (0, .ref 31), (1, .int l1)] [.int u1] m1 Q
  refine y_zeq (t := 24) rfl rfl rfl (fun h => ?_) (fun h => ?_)
  · replace H := H.1 h; clear h
    refine y_st rfl rfl rfl rfl rfl (fun _ _ => rfl) ?_
    refine y_gf rfl rfl rfl rfl rfl ?_
    refine y_gf rfl rfl rfl rfl rfl ?_
    refine y_st rfl rfl rfl rfl rfl (fun _ _ => rfl) ?_
    refine y_gf rfl rfl rfl rfl rfl ?_
    refine y_gf rfl rfl rfl rfl rfl ?_
    refine y_st rfl rfl rfl rfl rfl (fun _ _ => rfl) ?_
    show yP (xg xs) (d + 1) 149 39 [(3, .int u1), (2, .int (l1 + (1 : Int32))), (0, .ref 31), (1, .int l1)] [.int (l1 + (1 : Int32)), .ref 7, .ref 6] m1 Q
    refine y_iald rfl rfl rfl (H.1) ?_
    replace H := H.2
    show yP (xg xs) (d + 1) 149 40 [(3, .int u1), (2, .int (l1 + (1 : Int32))), (0, .ref 31), (1, .int l1)] [.int (m1.1 7 ((l1 + (1 : Int32)).toNatClampNeg)), .ref 6] m1 Q
    refine y_iald rfl rfl rfl (H.1) ?_
    replace H := H.2
    refine y_st rfl rfl rfl rfl rfl (fun _ _ => rfl) ?_
    refine y_gf rfl rfl rfl rfl rfl ?_
    refine y_gf rfl rfl rfl rfl rfl ?_
    refine y_st rfl rfl rfl rfl rfl (fun _ _ => rfl) ?_
    show yP (xg xs) (d + 1) 149 49 [(3, .int u1), (2, .int (l1 + (1 : Int32))), (0, .ref 31), (1, .int l1)] [.int (l1 + (1 : Int32)), .ref 6, .int (m1.1 6 ((m1.1 7 ((l1 + (1 : Int32)).toNatClampNeg)).toNatClampNeg))] m1 Q
    refine y_iald rfl rfl rfl (H.1) ?_
    replace H := H.2
    show yP (xg xs) (d + 1) 149 50 [(3, .int u1), (2, .int (l1 + (1 : Int32))), (0, .ref 31), (1, .int l1)] [.int (m1.1 6 ((l1 + (1 : Int32)).toNatClampNeg)), .int (m1.1 6 ((m1.1 7 ((l1 + (1 : Int32)).toNatClampNeg)).toNatClampNeg))] m1 Q
    refine y_call rfl rfl rfl rfl rfl (Nat.le_of_ble_eq_true rfl) (Nat.le_of_ble_eq_true rfl) rfl (by decide) H (fun v2 m2 H => ?_)
    obtain ⟨u2, rfl, H⟩ := H
    show yP (xg xs) (d + 1) 149 53 [(3, .int u1), (2, .int (l1 + (1 : Int32))), (0, .ref 31), (1, .int l1)] [.int u2] m2 Q
    refine y_zeq (t := 60) rfl rfl rfl (fun h => ?_) (fun h => ?_)
    · replace H := H.1 h; clear h
      refine y_st rfl rfl rfl rfl rfl (fun _ _ => rfl) ?_
      show yP (xg xs) (d + 1) 149 62 [(3, .int u1), (2, .int (l1 + (1 : Int32))), (0, .ref 31), (1, .int l1)] [.int (31 : Int32)] m2 Q
      exact y_iret rfl rfl rfl H
    · replace H := H.2 h; clear h
      refine y_st rfl rfl rfl rfl rfl (fun _ _ => rfl) ?_
      refine y_st rfl rfl rfl rfl rfl (fun _ _ => rfl) ?_
      show yP (xg xs) (d + 1) 149 62 [(3, .int u1), (2, .int (l1 + (1 : Int32))), (0, .ref 31), (1, .int l1)] [.int (0 : Int32)] m2 Q
      exact y_iret rfl rfl rfl H
  · replace H := H.2 h; clear h
    refine y_st rfl rfl rfl rfl rfl (fun _ _ => rfl) ?_
    show yP (xg xs) (d + 1) 149 23 [(3, .int u1), (2, .int (l1 + (1 : Int32))), (0, .ref 31), (1, .int l1)] [.int u1] m1 Q
    exact y_iret rfl rfl rfl H
