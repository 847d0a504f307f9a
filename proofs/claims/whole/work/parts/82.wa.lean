/-! WHAT EACH METHOD COMES TO, run, group a: laid by wip/gen/wp82.py -/
set_option maxRecDepth 20000 in
/-- CodeMaker.run from 0 on -/
theorem w242_0 (xs : List Int32) (d : Nat) (l1 : Int32) (m : yM) (Q : Option Value → yM → Prop) (H : (((m.1 0 12) = 0 → Q (some (.int ((-1) : Int32))) m) ∧ (¬ (m.1 0 12) = 0 → ((l1 < 0 → Q (some (.int ((-1) : Int32))) m) ∧ (¬ l1 < 0 → ((l1 ≤ (100000 : Int32) → (x_in ((m.1 35 7) - (1 : Int32)) 16 = true ∧ (((m.1 41 (((m.1 35 7) - (1 : Int32)).toNatClampNeg)) ≤ (50000 : Int32) → (yC (xg xs) d 243 [.ref 52, .int l1] m (fun v1 m1 => ∃ u1, v1 = some (Value.int u1) ∧ Q (some (.int u1)) m1))) ∧ (¬ (m.1 41 (((m.1 35 7) - (1 : Int32)).toNatClampNeg)) ≤ (50000 : Int32) → Q (some (.int ((-5) : Int32))) m)))) ∧ (¬ l1 ≤ (100000 : Int32) → Q (some (.int ((-1) : Int32))) m))))))) : yP (xg xs) (d + 1) 242 0 [(0, .ref 0), (1, .int l1)] [] m Q := by
  refine y_st rfl rfl rfl rfl rfl (fun _ _ => rfl) ?_
  refine y_gf rfl rfl rfl rfl rfl ?_
  show yP (xg xs) (d + 1) 242 4 [(0, .ref 0), (1, .int l1)] [.int (m.1 0 12)] m Q
  refine y_zeq (t := 17) rfl rfl rfl (fun h => ?_) (fun h => ?_)
  · replace H := H.1 h; clear h
    refine y_st rfl rfl rfl rfl rfl (fun _ _ => rfl) ?_
    show yP (xg xs) (d + 1) 242 18 [(0, .ref 0), (1, .int l1)] [.int ((-1) : Int32)] m Q
    exact y_iret rfl rfl rfl H
  · replace H := H.2 h; clear h
    refine y_st rfl rfl rfl rfl rfl (fun _ _ => rfl) ?_
    show yP (xg xs) (d + 1) 242 8 [(0, .ref 0), (1, .int l1)] [.int l1] m Q
    refine y_zlt (t := 17) rfl rfl rfl (fun h => ?_) (fun h => ?_)
    · replace H := H.1 h; clear h
      refine y_st rfl rfl rfl rfl rfl (fun _ _ => rfl) ?_
      show yP (xg xs) (d + 1) 242 18 [(0, .ref 0), (1, .int l1)] [.int ((-1) : Int32)] m Q
      exact y_iret rfl rfl rfl H
    · replace H := H.2 h; clear h
      refine y_st rfl rfl rfl rfl rfl (fun _ _ => rfl) ?_
      refine y_st rfl rfl rfl rfl rfl (fun _ _ => rfl) ?_
      show yP (xg xs) (d + 1) 242 14 [(0, .ref 0), (1, .int l1)] [.int (100000 : Int32), .int l1] m Q
      refine y_ile (t := 19) rfl rfl rfl (fun h => ?_) (fun h => ?_)
      · replace H := H.1 h; clear h
        refine y_st rfl rfl rfl rfl rfl (fun _ _ => rfl) ?_
        refine y_gf rfl rfl rfl rfl rfl ?_
        refine y_gf rfl rfl rfl rfl rfl ?_
        refine y_st rfl rfl rfl rfl rfl (fun _ _ => rfl) ?_
        refine y_gf rfl rfl rfl rfl rfl ?_
        refine y_gf rfl rfl rfl rfl rfl ?_
        refine y_st rfl rfl rfl rfl rfl (fun _ _ => rfl) ?_
        refine y_st rfl rfl rfl rfl rfl (fun _ _ => rfl) ?_
        show yP (xg xs) (d + 1) 242 35 [(0, .ref 0), (1, .int l1)] [.int ((m.1 35 7) - (1 : Int32)), .ref 41] m Q
        refine y_iald rfl rfl rfl (H.1) ?_
        replace H := H.2
        refine y_st rfl rfl rfl rfl rfl (fun _ _ => rfl) ?_
        show yP (xg xs) (d + 1) 242 38 [(0, .ref 0), (1, .int l1)] [.int (50000 : Int32), .int (m.1 41 (((m.1 35 7) - (1 : Int32)).toNatClampNeg))] m Q
        refine y_ile (t := 44) rfl rfl rfl (fun h => ?_) (fun h => ?_)
        · replace H := H.1 h; clear h
          refine y_st rfl rfl rfl rfl rfl (fun _ _ => rfl) ?_
          refine y_gf rfl rfl rfl rfl rfl ?_
          refine y_st rfl rfl rfl rfl rfl (fun _ _ => rfl) ?_
          show yP (xg xs) (d + 1) 242 49 [(0, .ref 0), (1, .int l1)] [.int l1, .ref 52] m Q
          refine y_call rfl rfl rfl rfl rfl (Nat.le_of_ble_eq_true rfl) (Nat.le_of_ble_eq_true rfl) rfl (by decide) H (fun v1 m1 H => ?_)
          obtain ⟨u1, rfl, H⟩ := H
          show yP (xg xs) (d + 1) 242 52 [(0, .ref 0), (1, .int l1)] [.int u1] m1 Q
          exact y_iret rfl rfl rfl H
        · replace H := H.2 h; clear h
          refine y_st rfl rfl rfl rfl rfl (fun _ _ => rfl) ?_
          show yP (xg xs) (d + 1) 242 43 [(0, .ref 0), (1, .int l1)] [.int ((-5) : Int32)] m Q
          exact y_iret rfl rfl rfl H
      · replace H := H.2 h; clear h
        refine y_st rfl rfl rfl rfl rfl (fun _ _ => rfl) ?_
        show yP (xg xs) (d + 1) 242 18 [(0, .ref 0), (1, .int l1)] [.int ((-1) : Int32)] m Q
        exact y_iret rfl rfl rfl H
set_option maxRecDepth 20000 in
/-- CodeMaker.Machine.go from 0 on -/
theorem w243_0 (xs : List Int32) (d : Nat) (l1 : Int32) (m : yM) (Q : Option Value → yM → Prop) (H : yP (xg xs) (d + 1) 243 50 [(0, .ref 52), (2, .int (0 : Int32))] [] (y_si (y_si (y_si (y_si (y_si (y_si (y_si m 52 1 ((m.1 52 1) + l1)) 52 2 (0 : Int32)) 52 9 (0 : Int32)) 52 10 (0 : Int32)) 52 11 ((m.1 35 7) - (1 : Int32))) 52 12 (0 : Int32)) 52 13 (0 : Int32)) Q) : yP (xg xs) (d + 1) 243 0 [(0, .ref 52), (1, .int l1)] [] m Q := by
  refine y_st rfl rfl rfl rfl rfl (fun _ _ => rfl) ?_
  refine y_st rfl rfl rfl rfl rfl (fun _ _ => rfl) ?_
  refine y_gf rfl rfl rfl rfl rfl ?_
  refine y_st rfl rfl rfl rfl rfl (fun _ _ => rfl) ?_
  refine y_st rfl rfl rfl rfl rfl (fun _ _ => rfl) ?_
  refine y_pfi rfl rfl rfl rfl rfl (x_fit_i _) ?_
  show yP (xg xs) (d + 1) 243 10 [(0, .ref 52), (1, .int l1)] [] (y_si m 52 1 ((m.1 52 1) + l1)) Q
  refine y_st rfl rfl rfl rfl rfl (fun _ _ => rfl) ?_
  refine y_st rfl rfl rfl rfl rfl (fun _ _ => rfl) ?_
  refine y_pfi rfl rfl rfl rfl rfl (x_fit_i _) ?_
  show yP (xg xs) (d + 1) 243 15 [(0, .ref 52), (1, .int l1)] [] (y_si (y_si m 52 1 ((m.1 52 1) + l1)) 52 2 (0 : Int32)) Q
  refine y_st rfl rfl rfl rfl rfl (fun _ _ => rfl) ?_
  refine y_st rfl rfl rfl rfl rfl (fun _ _ => rfl) ?_
  refine y_pfi rfl rfl rfl rfl rfl (x_fit_i _) ?_
  show yP (xg xs) (d + 1) 243 20 [(0, .ref 52), (1, .int l1)] [] (y_si (y_si (y_si m 52 1 ((m.1 52 1) + l1)) 52 2 (0 : Int32)) 52 9 (0 : Int32)) Q
  refine y_st rfl rfl rfl rfl rfl (fun _ _ => rfl) ?_
  refine y_st rfl rfl rfl rfl rfl (fun _ _ => rfl) ?_
  refine y_pfi rfl rfl rfl rfl rfl (x_fit_i _) ?_
  show yP (xg xs) (d + 1) 243 25 [(0, .ref 52), (1, .int l1)] [] (y_si (y_si (y_si (y_si m 52 1 ((m.1 52 1) + l1)) 52 2 (0 : Int32)) 52 9 (0 : Int32)) 52 10 (0 : Int32)) Q
  refine y_st rfl rfl rfl rfl rfl (fun _ _ => rfl) ?_
  refine y_st rfl rfl rfl rfl rfl (fun _ _ => rfl) ?_
  refine y_gf rfl rfl rfl rfl rfl ?_
  refine y_gf rfl rfl rfl rfl rfl ?_
  refine y_st rfl rfl rfl rfl rfl (fun _ _ => rfl) ?_
  refine y_st rfl rfl rfl rfl rfl (fun _ _ => rfl) ?_
  refine y_pfi rfl rfl rfl rfl rfl (x_fit_i _) ?_
  show yP (xg xs) (d + 1) 243 38 [(0, .ref 52), (1, .int l1)] [] (y_si (y_si (y_si (y_si (y_si m 52 1 ((m.1 52 1) + l1)) 52 2 (0 : Int32)) 52 9 (0 : Int32)) 52 10 (0 : Int32)) 52 11 ((m.1 35 7) - (1 : Int32))) Q
  refine y_st rfl rfl rfl rfl rfl (fun _ _ => rfl) ?_
  refine y_st rfl rfl rfl rfl rfl (fun _ _ => rfl) ?_
  refine y_pfi rfl rfl rfl rfl rfl (x_fit_i _) ?_
  show yP (xg xs) (d + 1) 243 43 [(0, .ref 52), (1, .int l1)] [] (y_si (y_si (y_si (y_si (y_si (y_si m 52 1 ((m.1 52 1) + l1)) 52 2 (0 : Int32)) 52 9 (0 : Int32)) 52 10 (0 : Int32)) 52 11 ((m.1 35 7) - (1 : Int32))) 52 12 (0 : Int32)) Q
  refine y_st rfl rfl rfl rfl rfl (fun _ _ => rfl) ?_
  refine y_st rfl rfl rfl rfl rfl (fun _ _ => rfl) ?_
  refine y_pfi rfl rfl rfl rfl rfl (x_fit_i _) ?_
  show yP (xg xs) (d + 1) 243 48 [(0, .ref 52), (1, .int l1)] [] (y_si (y_si (y_si (y_si (y_si (y_si (y_si m 52 1 ((m.1 52 1) + l1)) 52 2 (0 : Int32)) 52 9 (0 : Int32)) 52 10 (0 : Int32)) 52 11 ((m.1 35 7) - (1 : Int32))) 52 12 (0 : Int32)) 52 13 (0 : Int32)) Q
  refine y_st rfl rfl rfl rfl rfl (fun _ _ => rfl) ?_
  refine y_st rfl rfl rfl rfl rfl (fun _ _ => rfl) ?_
  show yP (xg xs) (d + 1) 243 50 [(2, .int (0 : Int32)), (0, .ref 52), (1, .int l1)] [] (y_si (y_si (y_si (y_si (y_si (y_si (y_si m 52 1 ((m.1 52 1) + l1)) 52 2 (0 : Int32)) 52 9 (0 : Int32)) 52 10 (0 : Int32)) 52 11 ((m.1 35 7) - (1 : Int32))) 52 12 (0 : Int32)) 52 13 (0 : Int32)) Q
  refine y_headS (l2 := [(0, .ref 52), (2, .int (0 : Int32))]) [1, 0] [0, 2] [2, 0, 1] rfl rfl (by decide) rfl (by decide) ?_
  exact H
set_option maxRecDepth 20000 in
/-- CodeMaker.Machine.go from 50 on -/
theorem w243_50 (xs : List Int32) (d : Nat) (l2 : Int32) (m : yM) (Q : Option Value → yM → Prop) (H : (((100001 : Int32) < l2 → Q (some (.int (m.1 52 2))) m) ∧ (¬ (100001 : Int32) < l2 → (yC (xg xs) d 220 [.ref 35, .int (m.1 52 11)] m (fun v1 m1 => ∃ u1, v1 = some (Value.int u1) ∧ (((m.1 52 12) < u1 → (x_in (m1.1 52 11) 16 = true ∧ (yC (xg xs) d 245 [.ref 52, .int ((m1.1 40 ((m1.1 52 11).toNatClampNeg)) + (m1.1 52 12))] m1 (fun v2 m2 => ∃ u2, v2 = some (Value.int u2) ∧ ((u2 = 0 → yP (xg xs) (d + 1) 243 121 [(0, .ref 52), (2, .int l2)] [] m2 Q) ∧ (¬ u2 = 0 → Q (some (.int u2)) m2)))))) ∧ (¬ (m.1 52 12) < u1 → ((¬ (m1.1 52 10) = 0 → (yC (xg xs) d 244 [.ref 52] m1 (fun v3 m3 => v3 = none ∧ yP (xg xs) (d + 1) 243 121 [(0, .ref 52), (2, .int l2)] [] m3 Q))) ∧ ((m1.1 52 10) = 0 → Q (some (.int (m1.1 52 2))) m1))))))))) : yP (xg xs) (d + 1) 243 50 [(0, .ref 52), (2, .int l2)] [] m Q := by
  refine y_st rfl rfl rfl rfl rfl (fun _ _ => rfl) ?_
  refine y_st rfl rfl rfl rfl rfl (fun _ _ => rfl) ?_
  show yP (xg xs) (d + 1) 243 53 [(0, .ref 52), (2, .int l2)] [.int (100001 : Int32), .int l2] m Q
  refine y_igt (t := 127) rfl rfl rfl (fun h => ?_) (fun h => ?_)
  · replace H := H.1 h; clear h
    refine y_st rfl rfl rfl rfl rfl (fun _ _ => rfl) ?_
    refine y_gf rfl rfl rfl rfl rfl ?_
    show yP (xg xs) (d + 1) 243 131 [(0, .ref 52), (2, .int l2)] [.int (m.1 52 2)] m Q
    exact y_iret rfl rfl rfl H
  · replace H := H.2 h; clear h
    refine y_st rfl rfl rfl rfl rfl (fun _ _ => rfl) ?_
    refine y_gf rfl rfl rfl rfl rfl ?_
    refine y_st rfl rfl rfl rfl rfl (fun _ _ => rfl) ?_
    refine y_gf rfl rfl rfl rfl rfl ?_
    refine y_st rfl rfl rfl rfl rfl (fun _ _ => rfl) ?_
    refine y_gf rfl rfl rfl rfl rfl ?_
    show yP (xg xs) (d + 1) 243 68 [(0, .ref 52), (2, .int l2)] [.int (m.1 52 11), .ref 35, .int (m.1 52 12)] m Q
    refine y_call rfl rfl rfl rfl rfl (Nat.le_of_ble_eq_true rfl) (Nat.le_of_ble_eq_true rfl) rfl (by decide) H (fun v1 m1 H => ?_)
    obtain ⟨u1, rfl, H⟩ := H
    show yP (xg xs) (d + 1) 243 71 [(0, .ref 52), (2, .int l2)] [.int u1, .int (m.1 52 12)] m1 Q
    refine y_ilt (t := 93) rfl rfl rfl (fun h => ?_) (fun h => ?_)
    · replace H := H.1 h; clear h
      refine y_st rfl rfl rfl rfl rfl (fun _ _ => rfl) ?_
      refine y_st rfl rfl rfl rfl rfl (fun _ _ => rfl) ?_
      refine y_gf rfl rfl rfl rfl rfl ?_
      refine y_gf rfl rfl rfl rfl rfl ?_
      refine y_st rfl rfl rfl rfl rfl (fun _ _ => rfl) ?_
      refine y_gf rfl rfl rfl rfl rfl ?_
      show yP (xg xs) (d + 1) 243 105 [(0, .ref 52), (2, .int l2)] [.int (m1.1 52 11), .ref 40, .ref 52] m1 Q
      refine y_iald rfl rfl rfl (H.1) ?_
      replace H := H.2
      refine y_st rfl rfl rfl rfl rfl (fun _ _ => rfl) ?_
      refine y_gf rfl rfl rfl rfl rfl ?_
      refine y_st rfl rfl rfl rfl rfl (fun _ _ => rfl) ?_
      show yP (xg xs) (d + 1) 243 111 [(0, .ref 52), (2, .int l2)] [.int ((m1.1 40 ((m1.1 52 11).toNatClampNeg)) + (m1.1 52 12)), .ref 52] m1 Q
      refine y_call rfl rfl rfl rfl rfl (Nat.le_of_ble_eq_true rfl) (Nat.le_of_ble_eq_true rfl) rfl (by decide) H (fun v2 m2 H => ?_)
      obtain ⟨u2, rfl, H⟩ := H
      refine y_st rfl rfl rfl rfl rfl (fun _ _ => rfl) ?_
      refine y_st rfl rfl rfl rfl rfl (fun _ _ => rfl) ?_
      show yP (xg xs) (d + 1) 243 116 [(3, .int u2), (0, .ref 52), (2, .int l2)] [.int u2] m2 Q
      refine y_zeq (t := 121) rfl rfl rfl (fun h => ?_) (fun h => ?_)
      · replace H := H.1 h; clear h
        show yP (xg xs) (d + 1) 243 121 [(3, .int u2), (0, .ref 52), (2, .int l2)] [] m2 Q
        refine y_headS (l2 := [(0, .ref 52), (2, .int l2)]) [1, 2] [0, 2] [3, 0, 2] rfl rfl (by decide) rfl (by decide) ?_
        exact H
      · replace H := H.2 h; clear h
        refine y_st rfl rfl rfl rfl rfl (fun _ _ => rfl) ?_
        show yP (xg xs) (d + 1) 243 120 [(3, .int u2), (0, .ref 52), (2, .int l2)] [.int u2] m2 Q
        exact y_iret rfl rfl rfl H
    · replace H := H.2 h; clear h
      refine y_st rfl rfl rfl rfl rfl (fun _ _ => rfl) ?_
      refine y_gf rfl rfl rfl rfl rfl ?_
      show yP (xg xs) (d + 1) 243 78 [(0, .ref 52), (2, .int l2)] [.int (m1.1 52 10)] m1 Q
      refine y_zne (t := 86) rfl rfl rfl (fun h => ?_) (fun h => ?_)
      · replace H := H.1 h; clear h
        refine y_st rfl rfl rfl rfl rfl (fun _ _ => rfl) ?_
        show yP (xg xs) (d + 1) 243 87 [(0, .ref 52), (2, .int l2)] [.ref 52] m1 Q
        refine y_call rfl rfl rfl rfl rfl (Nat.le_of_ble_eq_true rfl) (Nat.le_of_ble_eq_true rfl) rfl (by decide) H (fun v3 m3 H => ?_)
        obtain ⟨rfl, H⟩ := H
        refine y_st rfl rfl rfl rfl rfl (fun _ _ => rfl) ?_
        show yP (xg xs) (d + 1) 243 121 [(0, .ref 52), (2, .int l2)] [] m3 Q
        exact H
      · replace H := H.2 h; clear h
        refine y_st rfl rfl rfl rfl rfl (fun _ _ => rfl) ?_
        refine y_gf rfl rfl rfl rfl rfl ?_
        show yP (xg xs) (d + 1) 243 85 [(0, .ref 52), (2, .int l2)] [.int (m1.1 52 2)] m1 Q
        exact y_iret rfl rfl rfl H
set_option maxRecDepth 20000 in
/-- CodeMaker.Machine.go from 121 on -/
theorem w243_121 (xs : List Int32) (d : Nat) (l2 : Int32) (m : yM) (Q : Option Value → yM → Prop) (H : yP (xg xs) (d + 1) 243 50 [(0, .ref 52), (2, .int (l2 + (1 : Int32)))] [] m Q) : yP (xg xs) (d + 1) 243 121 [(0, .ref 52), (2, .int l2)] [] m Q := by
  refine y_st rfl rfl rfl rfl rfl (fun _ _ => rfl) ?_
  refine y_st rfl rfl rfl rfl rfl (fun _ _ => rfl) ?_
  show yP (xg xs) (d + 1) 243 50 [(2, .int (l2 + (1 : Int32))), (0, .ref 52)] [] m Q
  refine y_headS (l2 := [(0, .ref 52), (2, .int (l2 + (1 : Int32)))]) [1, 0] [0, 2] [2, 0] rfl rfl (by decide) rfl (by decide) ?_
  exact H
set_option maxRecDepth 20000 in
/-- CodeMaker.Machine.leave from 0 on -/
theorem w244_0 (xs : List Int32) (d : Nat) (m : yM) (Q : Option Value → yM → Prop) (H : (((m.1 52 10) ≤ 0 → Q none m) ∧ (¬ (m.1 52 10) ≤ 0 → (x_in ((m.1 52 10) - (1 : Int32)) 17 = true ∧ (x_in ((m.1 52 10) - (1 : Int32)) 17 = true ∧ (x_in ((m.1 52 10) - (1 : Int32)) 17 = true ∧ Q none (y_si (y_si (y_si (y_si m 52 10 ((m.1 52 10) - (1 : Int32))) 52 11 (m.1 55 (((m.1 52 10) - (1 : Int32)).toNatClampNeg))) 52 12 (m.1 56 (((m.1 52 10) - (1 : Int32)).toNatClampNeg))) 52 13 (m.1 57 (((m.1 52 10) - (1 : Int32)).toNatClampNeg))))))))) : yP (xg xs) (d + 1) 244 0 [(0, .ref 52)] [] m Q := by
  refine y_st rfl rfl rfl rfl rfl (fun _ _ => rfl) ?_
  refine y_gf rfl rfl rfl rfl rfl ?_
  show yP (xg xs) (d + 1) 244 4 [(0, .ref 52)] [.int (m.1 52 10)] m Q
  refine y_zle (t := 56) rfl rfl rfl (fun h => ?_) (fun h => ?_)
  · replace H := H.1 h; clear h
    show yP (xg xs) (d + 1) 244 56 [(0, .ref 52)] [] m Q
    exact y_ret rfl rfl rfl rfl H
  · replace H := H.2 h; clear h
    refine y_st rfl rfl rfl rfl rfl (fun _ _ => rfl) ?_
    refine y_st rfl rfl rfl rfl rfl (fun _ _ => rfl) ?_
    refine y_gf rfl rfl rfl rfl rfl ?_
    refine y_st rfl rfl rfl rfl rfl (fun _ _ => rfl) ?_
    refine y_st rfl rfl rfl rfl rfl (fun _ _ => rfl) ?_
    refine y_pfi rfl rfl rfl rfl rfl (x_fit_i _) ?_
    show yP (xg xs) (d + 1) 244 17 [(0, .ref 52)] [] (y_si m 52 10 ((m.1 52 10) - (1 : Int32))) Q
    refine y_st rfl rfl rfl rfl rfl (fun _ _ => rfl) ?_
    refine y_st rfl rfl rfl rfl rfl (fun _ _ => rfl) ?_
    refine y_gf rfl rfl rfl rfl rfl ?_
    refine y_st rfl rfl rfl rfl rfl (fun _ _ => rfl) ?_
    refine y_gf rfl rfl rfl rfl rfl ?_
    show yP (xg xs) (d + 1) 244 26 [(0, .ref 52)] [.int ((m.1 52 10) - (1 : Int32)), .ref 55, .ref 52] (y_si m 52 10 ((m.1 52 10) - (1 : Int32))) Q
    refine y_iald rfl rfl rfl (H.1) ?_
    replace H := H.2
    refine y_pfi rfl rfl rfl rfl rfl (x_fit_i _) ?_
    show yP (xg xs) (d + 1) 244 30 [(0, .ref 52)] [] (y_si (y_si m 52 10 ((m.1 52 10) - (1 : Int32))) 52 11 (m.1 55 (((m.1 52 10) - (1 : Int32)).toNatClampNeg))) Q
    refine y_st rfl rfl rfl rfl rfl (fun _ _ => rfl) ?_
    refine y_st rfl rfl rfl rfl rfl (fun _ _ => rfl) ?_
    refine y_gf rfl rfl rfl rfl rfl ?_
    refine y_st rfl rfl rfl rfl rfl (fun _ _ => rfl) ?_
    refine y_gf rfl rfl rfl rfl rfl ?_
    show yP (xg xs) (d + 1) 244 39 [(0, .ref 52)] [.int ((m.1 52 10) - (1 : Int32)), .ref 56, .ref 52] (y_si (y_si m 52 10 ((m.1 52 10) - (1 : Int32))) 52 11 (m.1 55 (((m.1 52 10) - (1 : Int32)).toNatClampNeg))) Q
    refine y_iald rfl rfl rfl (H.1) ?_
    replace H := H.2
    refine y_pfi rfl rfl rfl rfl rfl (x_fit_i _) ?_
    show yP (xg xs) (d + 1) 244 43 [(0, .ref 52)] [] (y_si (y_si (y_si m 52 10 ((m.1 52 10) - (1 : Int32))) 52 11 (m.1 55 (((m.1 52 10) - (1 : Int32)).toNatClampNeg))) 52 12 (m.1 56 (((m.1 52 10) - (1 : Int32)).toNatClampNeg))) Q
    refine y_st rfl rfl rfl rfl rfl (fun _ _ => rfl) ?_
    refine y_st rfl rfl rfl rfl rfl (fun _ _ => rfl) ?_
    refine y_gf rfl rfl rfl rfl rfl ?_
    refine y_st rfl rfl rfl rfl rfl (fun _ _ => rfl) ?_
    refine y_gf rfl rfl rfl rfl rfl ?_
    show yP (xg xs) (d + 1) 244 52 [(0, .ref 52)] [.int ((m.1 52 10) - (1 : Int32)), .ref 57, .ref 52] (y_si (y_si (y_si m 52 10 ((m.1 52 10) - (1 : Int32))) 52 11 (m.1 55 (((m.1 52 10) - (1 : Int32)).toNatClampNeg))) 52 12 (m.1 56 (((m.1 52 10) - (1 : Int32)).toNatClampNeg))) Q
    refine y_iald rfl rfl rfl (H.1) ?_
    replace H := H.2
    refine y_pfi rfl rfl rfl rfl rfl (x_fit_i _) ?_
    show yP (xg xs) (d + 1) 244 56 [(0, .ref 52)] [] (y_si (y_si (y_si (y_si m 52 10 ((m.1 52 10) - (1 : Int32))) 52 11 (m.1 55 (((m.1 52 10) - (1 : Int32)).toNatClampNeg))) 52 12 (m.1 56 (((m.1 52 10) - (1 : Int32)).toNatClampNeg))) 52 13 (m.1 57 (((m.1 52 10) - (1 : Int32)).toNatClampNeg))) Q
    show yP (xg xs) (d + 1) 244 56 [(0, .ref 52)] [] (y_si (y_si (y_si (y_si m 52 10 ((m.1 52 10) - (1 : Int32))) 52 11 (m.1 55 (((m.1 52 10) - (1 : Int32)).toNatClampNeg))) 52 12 (m.1 56 (((m.1 52 10) - (1 : Int32)).toNatClampNeg))) 52 13 (m.1 57 (((m.1 52 10) - (1 : Int32)).toNatClampNeg))) Q
    exact y_ret rfl rfl rfl rfl H
set_option maxRecDepth 20000 in
/-- CodeMaker.Machine.step from 0 on -/
theorem w245_0 (xs : List Int32) (d : Nat) (l1 : Int32) (m : yM) (Q : Option Value → yM → Prop) (H : (x_in l1 3000 = true ∧ (x_in l1 3000 = true ∧ (x_in l1 3000 = true ∧ (((m.1 36 l1.toNatClampNeg) = (0 : Int32) → (yC (xg xs) d 246 [.ref 52, .int (m.1 37 l1.toNatClampNeg)] (y_si (y_si m 52 2 ((m.1 52 2) + (1 : Int32))) 52 12 ((m.1 52 12) + (1 : Int32))) (fun v1 m1 => v1 = none ∧ Q (some (.int (0 : Int32))) m1))) ∧ ((m.1 36 l1.toNatClampNeg) = (1 : Int32) → (yC (xg xs) d 247 [.ref 52, .int ((m.1 52 13) + (m.1 37 l1.toNatClampNeg))] (y_si (y_si m 52 2 ((m.1 52 2) + (1 : Int32))) 52 12 ((m.1 52 12) + (1 : Int32))) (fun v2 m2 => ∃ u2, v2 = some (Value.int u2) ∧ (yC (xg xs) d 246 [.ref 52, .int u2] m2 (fun v3 m3 => v3 = none ∧ Q (some (.int (0 : Int32))) m3))))) ∧ ((m.1 36 l1.toNatClampNeg) = (2 : Int32) → (yC (xg xs) d 248 [.ref 52] (y_si (y_si m 52 2 ((m.1 52 2) + (1 : Int32))) 52 12 ((m.1 52 12) + (1 : Int32))) (fun v4 m4 => ∃ u4, v4 = some (Value.int u4) ∧ (yC (xg xs) d 234 [.ref 52, .int ((m.1 52 13) + (m.1 37 l1.toNatClampNeg)), .int u4] m4 (fun v5 m5 => v5 = none ∧ Q (some (.int (0 : Int32))) m5))))) ∧ ((m.1 36 l1.toNatClampNeg) = (3 : Int32) → (x_in l1 3000 = true ∧ (yC (xg xs) d 249 [.ref 52, .int (m.1 37 l1.toNatClampNeg), .int (m.1 38 l1.toNatClampNeg), .int (m.1 39 l1.toNatClampNeg)] (y_si (y_si m 52 2 ((m.1 52 2) + (1 : Int32))) 52 12 ((m.1 52 12) + (1 : Int32))) (fun v6 m6 => ∃ u6, v6 = some (Value.int u6) ∧ Q (some (.int u6)) m6)))) ∧ ((m.1 36 l1.toNatClampNeg) = (4 : Int32) → (x_in l1 3000 = true ∧ (yC (xg xs) d 251 [.ref 52, .int (m.1 37 l1.toNatClampNeg), .int (m.1 38 l1.toNatClampNeg), .int (m.1 39 l1.toNatClampNeg)] (y_si (y_si m 52 2 ((m.1 52 2) + (1 : Int32))) 52 12 ((m.1 52 12) + (1 : Int32))) (fun v7 m7 => ∃ u7, v7 = some (Value.int u7) ∧ Q (some (.int u7)) m7)))) ∧ ((m.1 36 l1.toNatClampNeg) = (5 : Int32) → (x_in (m.1 37 l1.toNatClampNeg) 512 = true ∧ (yC (xg xs) d 247 [.ref 52, .int ((m.1 27 ((m.1 37 l1.toNatClampNeg).toNatClampNeg)) + (m.1 38 l1.toNatClampNeg))] (y_si (y_si m 52 2 ((m.1 52 2) + (1 : Int32))) 52 12 ((m.1 52 12) + (1 : Int32))) (fun v8 m8 => ∃ u8, v8 = some (Value.int u8) ∧ (yC (xg xs) d 246 [.ref 52, .int u8] m8 (fun v9 m9 => v9 = none ∧ Q (some (.int (0 : Int32))) m9)))))) ∧ ((m.1 36 l1.toNatClampNeg) = (6 : Int32) → (x_in (m.1 37 l1.toNatClampNeg) 512 = true ∧ (yC (xg xs) d 248 [.ref 52] (y_si (y_si m 52 2 ((m.1 52 2) + (1 : Int32))) 52 12 ((m.1 52 12) + (1 : Int32))) (fun v10 m10 => ∃ u10, v10 = some (Value.int u10) ∧ (yC (xg xs) d 234 [.ref 52, .int ((m.1 27 ((m.1 37 l1.toNatClampNeg).toNatClampNeg)) + (m.1 38 l1.toNatClampNeg)), .int u10] m10 (fun v11 m11 => v11 = none ∧ Q (some (.int (0 : Int32))) m11)))))) ∧ ((m.1 36 l1.toNatClampNeg) = (7 : Int32) → (yC (xg xs) d 252 [.ref 52, .int (m.1 37 l1.toNatClampNeg)] (y_si (y_si m 52 2 ((m.1 52 2) + (1 : Int32))) 52 12 ((m.1 52 12) + (1 : Int32))) (fun v12 m12 => ∃ u12, v12 = some (Value.int u12) ∧ Q (some (.int u12)) m12))) ∧ ((m.1 36 l1.toNatClampNeg) = (8 : Int32) → (yC (xg xs) d 248 [.ref 52] (y_si (y_si m 52 2 ((m.1 52 2) + (1 : Int32))) 52 12 ((m.1 52 12) + (1 : Int32))) (fun v13 m13 => ∃ u13, v13 = some (Value.int u13) ∧ (yC (xg xs) d 178 [.int (m.1 37 l1.toNatClampNeg), .int u13] m13 (fun v14 m14 => ∃ u14, v14 = some (Value.int u14) ∧ (yC (xg xs) d 246 [.ref 52, .int u14] m14 (fun v15 m15 => v15 = none ∧ Q (some (.int (0 : Int32))) m15))))))) ∧ ((m.1 36 l1.toNatClampNeg) = (9 : Int32) → (yC (xg xs) d 253 [.ref 52] (y_si (y_si m 52 2 ((m.1 52 2) + (1 : Int32))) 52 12 ((m.1 52 12) + (1 : Int32))) (fun v16 m16 => v16 = none ∧ Q (some (.int (0 : Int32))) m16))) ∧ ((m.1 36 l1.toNatClampNeg) = (17 : Int32) → (yC (xg xs) d 254 [.ref 52, .int (m.1 37 l1.toNatClampNeg), .int ((m.1 52 13) + (m.1 38 l1.toNatClampNeg))] (y_si (y_si m 52 2 ((m.1 52 2) + (1 : Int32))) 52 12 ((m.1 52 12) + (1 : Int32))) (fun v17 m17 => v17 = none ∧ Q (some (.int (0 : Int32))) m17))) ∧ (¬ (m.1 36 l1.toNatClampNeg) = (0 : Int32) → ¬ (m.1 36 l1.toNatClampNeg) = (1 : Int32) → ¬ (m.1 36 l1.toNatClampNeg) = (2 : Int32) → ¬ (m.1 36 l1.toNatClampNeg) = (3 : Int32) → ¬ (m.1 36 l1.toNatClampNeg) = (4 : Int32) → ¬ (m.1 36 l1.toNatClampNeg) = (5 : Int32) → ¬ (m.1 36 l1.toNatClampNeg) = (6 : Int32) → ¬ (m.1 36 l1.toNatClampNeg) = (7 : Int32) → ¬ (m.1 36 l1.toNatClampNeg) = (8 : Int32) → ¬ (m.1 36 l1.toNatClampNeg) = (9 : Int32) → ¬ (m.1 36 l1.toNatClampNeg) = (17 : Int32) → (x_in l1 3000 = true ∧ (yC (xg xs) d 262 [.ref 52, .int (m.1 36 l1.toNatClampNeg), .int (m.1 37 l1.toNatClampNeg), .int (m.1 38 l1.toNatClampNeg)] (y_si (y_si m 52 2 ((m.1 52 2) + (1 : Int32))) 52 12 ((m.1 52 12) + (1 : Int32))) (fun v18 m18 => v18 = none ∧ Q (some (.int (0 : Int32))) m18))))))))) : yP (xg xs) (d + 1) 245 0 [(0, .ref 52), (1, .int l1)] [] m Q := by
  refine y_st rfl rfl rfl rfl rfl (fun _ _ => rfl) ?_
  refine y_gf rfl rfl rfl rfl rfl ?_
  refine y_gf rfl rfl rfl rfl rfl ?_
  refine y_st rfl rfl rfl rfl rfl (fun _ _ => rfl) ?_
  show yP (xg xs) (d + 1) 245 8 [(0, .ref 52), (1, .int l1)] [.int l1, .ref 37] m Q
  refine y_iald rfl rfl rfl (H.1) ?_
  replace H := H.2
  refine y_st rfl rfl rfl rfl rfl (fun _ _ => rfl) ?_
  refine y_st rfl rfl rfl rfl rfl (fun _ _ => rfl) ?_
  refine y_gf rfl rfl rfl rfl rfl ?_
  refine y_gf rfl rfl rfl rfl rfl ?_
  refine y_st rfl rfl rfl rfl rfl (fun _ _ => rfl) ?_
  show yP (xg xs) (d + 1) 245 18 [(2, .int (m.1 37 l1.toNatClampNeg)), (0, .ref 52), (1, .int l1)] [.int l1, .ref 38] m Q
  refine y_iald rfl rfl rfl (H.1) ?_
  replace H := H.2
  refine y_st rfl rfl rfl rfl rfl (fun _ _ => rfl) ?_
  refine y_st rfl rfl rfl rfl rfl (fun _ _ => rfl) ?_
  refine y_st rfl rfl rfl rfl rfl (fun _ _ => rfl) ?_
  refine y_gf rfl rfl rfl rfl rfl ?_
  refine y_st rfl rfl rfl rfl rfl (fun _ _ => rfl) ?_
  refine y_st rfl rfl rfl rfl rfl (fun _ _ => rfl) ?_
  refine y_pfi rfl rfl rfl rfl rfl (x_fit_i _) ?_
  show yP (xg xs) (d + 1) 245 30 [(3, .int (m.1 38 l1.toNatClampNeg)), (2, .int (m.1 37 l1.toNatClampNeg)), (0, .ref 52), (1, .int l1)] [] (y_si m 52 2 ((m.1 52 2) + (1 : Int32))) Q
  refine y_st rfl rfl rfl rfl rfl (fun _ _ => rfl) ?_
  refine y_st rfl rfl rfl rfl rfl (fun _ _ => rfl) ?_
  refine y_gf rfl rfl rfl rfl rfl ?_
  refine y_st rfl rfl rfl rfl rfl (fun _ _ => rfl) ?_
  refine y_st rfl rfl rfl rfl rfl (fun _ _ => rfl) ?_
  refine y_pfi rfl rfl rfl rfl rfl (x_fit_i _) ?_
  show yP (xg xs) (d + 1) 245 40 [(3, .int (m.1 38 l1.toNatClampNeg)), (2, .int (m.1 37 l1.toNatClampNeg)), (0, .ref 52), (1, .int l1)] [] (y_si (y_si m 52 2 ((m.1 52 2) + (1 : Int32))) 52 12 ((m.1 52 12) + (1 : Int32))) Q
  refine y_st rfl rfl rfl rfl rfl (fun _ _ => rfl) ?_
  refine y_gf rfl rfl rfl rfl rfl ?_
  refine y_gf rfl rfl rfl rfl rfl ?_
  refine y_st rfl rfl rfl rfl rfl (fun _ _ => rfl) ?_
  show yP (xg xs) (d + 1) 245 48 [(3, .int (m.1 38 l1.toNatClampNeg)), (2, .int (m.1 37 l1.toNatClampNeg)), (0, .ref 52), (1, .int l1)] [.int l1, .ref 36] (y_si (y_si m 52 2 ((m.1 52 2) + (1 : Int32))) 52 12 ((m.1 52 12) + (1 : Int32))) Q
  refine y_iald rfl rfl rfl (H.1) ?_
  replace H := H.2
  show yP (xg xs) (d + 1) 245 49 [(3, .int (m.1 38 l1.toNatClampNeg)), (2, .int (m.1 37 l1.toNatClampNeg)), (0, .ref 52), (1, .int l1)] [.int (m.1 36 l1.toNatClampNeg)] (y_si (y_si m 52 2 ((m.1 52 2) + (1 : Int32))) 52 12 ((m.1 52 12) + (1 : Int32))) Q
  by_cases h0 : m.1 36 l1.toNatClampNeg = (0 : Int32)
  · replace H := H.1 h0
    refine y_tsw (t := 136) rfl rfl (by rw [h0]; rfl) ?_
    clear h0
    refine y_st rfl rfl rfl rfl rfl (fun _ _ => rfl) ?_
    refine y_st rfl rfl rfl rfl rfl (fun _ _ => rfl) ?_
    show yP (xg xs) (d + 1) 245 138 [(3, .int (m.1 38 l1.toNatClampNeg)), (2, .int (m.1 37 l1.toNatClampNeg)), (0, .ref 52), (1, .int l1)] [.int (m.1 37 l1.toNatClampNeg), .ref 52] (y_si (y_si m 52 2 ((m.1 52 2) + (1 : Int32))) 52 12 ((m.1 52 12) + (1 : Int32))) Q
    refine y_call rfl rfl rfl rfl rfl (Nat.le_of_ble_eq_true rfl) (Nat.le_of_ble_eq_true rfl) rfl (by decide) H (fun v1 m1 H => ?_)
    obtain ⟨rfl, H⟩ := H
    refine y_st rfl rfl rfl rfl rfl (fun _ _ => rfl) ?_
    show yP (xg xs) (d + 1) 245 142 [(3, .int (m.1 38 l1.toNatClampNeg)), (2, .int (m.1 37 l1.toNatClampNeg)), (0, .ref 52), (1, .int l1)] [.int (0 : Int32)] m1 Q
    exact y_iret rfl rfl rfl H
  replace H := H.2
  by_cases h1 : m.1 36 l1.toNatClampNeg = (1 : Int32)
  · replace H := H.1 h1
    refine y_tsw (t := 143) rfl rfl (by rw [h1]; rfl) ?_
    clear h1 h0
    refine y_st rfl rfl rfl rfl rfl (fun _ _ => rfl) ?_
    refine y_st rfl rfl rfl rfl rfl (fun _ _ => rfl) ?_
    refine y_st rfl rfl rfl rfl rfl (fun _ _ => rfl) ?_
    refine y_gf rfl rfl rfl rfl rfl ?_
    refine y_st rfl rfl rfl rfl rfl (fun _ _ => rfl) ?_
    refine y_st rfl rfl rfl rfl rfl (fun _ _ => rfl) ?_
    show yP (xg xs) (d + 1) 245 151 [(3, .int (m.1 38 l1.toNatClampNeg)), (2, .int (m.1 37 l1.toNatClampNeg)), (0, .ref 52), (1, .int l1)] [.int ((m.1 52 13) + (m.1 37 l1.toNatClampNeg)), .ref 52, .ref 52] (y_si (y_si m 52 2 ((m.1 52 2) + (1 : Int32))) 52 12 ((m.1 52 12) + (1 : Int32))) Q
    refine y_call rfl rfl rfl rfl rfl (Nat.le_of_ble_eq_true rfl) (Nat.le_of_ble_eq_true rfl) rfl (by decide) H (fun v2 m2 H => ?_)
    obtain ⟨u2, rfl, H⟩ := H
    show yP (xg xs) (d + 1) 245 154 [(3, .int (m.1 38 l1.toNatClampNeg)), (2, .int (m.1 37 l1.toNatClampNeg)), (0, .ref 52), (1, .int l1)] [.int u2, .ref 52] m2 Q
    refine y_call rfl rfl rfl rfl rfl (Nat.le_of_ble_eq_true rfl) (Nat.le_of_ble_eq_true rfl) rfl (by decide) H (fun v3 m3 H => ?_)
    obtain ⟨rfl, H⟩ := H
    refine y_st rfl rfl rfl rfl rfl (fun _ _ => rfl) ?_
    show yP (xg xs) (d + 1) 245 158 [(3, .int (m.1 38 l1.toNatClampNeg)), (2, .int (m.1 37 l1.toNatClampNeg)), (0, .ref 52), (1, .int l1)] [.int (0 : Int32)] m3 Q
    exact y_iret rfl rfl rfl H
  replace H := H.2
  by_cases h2 : m.1 36 l1.toNatClampNeg = (2 : Int32)
  · replace H := H.1 h2
    refine y_tsw (t := 159) rfl rfl (by rw [h2]; rfl) ?_
    clear h2 h1 h0
    refine y_st rfl rfl rfl rfl rfl (fun _ _ => rfl) ?_
    refine y_st rfl rfl rfl rfl rfl (fun _ _ => rfl) ?_
    refine y_gf rfl rfl rfl rfl rfl ?_
    refine y_st rfl rfl rfl rfl rfl (fun _ _ => rfl) ?_
    refine y_st rfl rfl rfl rfl rfl (fun _ _ => rfl) ?_
    refine y_st rfl rfl rfl rfl rfl (fun _ _ => rfl) ?_
    show yP (xg xs) (d + 1) 245 167 [(3, .int (m.1 38 l1.toNatClampNeg)), (2, .int (m.1 37 l1.toNatClampNeg)), (0, .ref 52), (1, .int l1)] [.ref 52, .int ((m.1 52 13) + (m.1 37 l1.toNatClampNeg)), .ref 52] (y_si (y_si m 52 2 ((m.1 52 2) + (1 : Int32))) 52 12 ((m.1 52 12) + (1 : Int32))) Q
    refine y_call rfl rfl rfl rfl rfl (Nat.le_of_ble_eq_true rfl) (Nat.le_of_ble_eq_true rfl) rfl (by decide) H (fun v4 m4 H => ?_)
    obtain ⟨u4, rfl, H⟩ := H
    show yP (xg xs) (d + 1) 245 170 [(3, .int (m.1 38 l1.toNatClampNeg)), (2, .int (m.1 37 l1.toNatClampNeg)), (0, .ref 52), (1, .int l1)] [.int u4, .int ((m.1 52 13) + (m.1 37 l1.toNatClampNeg)), .ref 52] m4 Q
    refine y_call rfl rfl rfl rfl rfl (Nat.le_of_ble_eq_true rfl) (Nat.le_of_ble_eq_true rfl) rfl (by decide) H (fun v5 m5 H => ?_)
    obtain ⟨rfl, H⟩ := H
    refine y_st rfl rfl rfl rfl rfl (fun _ _ => rfl) ?_
    show yP (xg xs) (d + 1) 245 174 [(3, .int (m.1 38 l1.toNatClampNeg)), (2, .int (m.1 37 l1.toNatClampNeg)), (0, .ref 52), (1, .int l1)] [.int (0 : Int32)] m5 Q
    exact y_iret rfl rfl rfl H
  replace H := H.2
  by_cases h3 : m.1 36 l1.toNatClampNeg = (3 : Int32)
  · replace H := H.1 h3
    refine y_tsw (t := 175) rfl rfl (by rw [h3]; rfl) ?_
    clear h3 h2 h1 h0
    refine y_st rfl rfl rfl rfl rfl (fun _ _ => rfl) ?_
    refine y_st rfl rfl rfl rfl rfl (fun _ _ => rfl) ?_
    refine y_st rfl rfl rfl rfl rfl (fun _ _ => rfl) ?_
    refine y_st rfl rfl rfl rfl rfl (fun _ _ => rfl) ?_
    refine y_gf rfl rfl rfl rfl rfl ?_
    refine y_gf rfl rfl rfl rfl rfl ?_
    refine y_st rfl rfl rfl rfl rfl (fun _ _ => rfl) ?_
    show yP (xg xs) (d + 1) 245 186 [(3, .int (m.1 38 l1.toNatClampNeg)), (2, .int (m.1 37 l1.toNatClampNeg)), (0, .ref 52), (1, .int l1)] [.int l1, .ref 39, .int (m.1 38 l1.toNatClampNeg), .int (m.1 37 l1.toNatClampNeg), .ref 52] (y_si (y_si m 52 2 ((m.1 52 2) + (1 : Int32))) 52 12 ((m.1 52 12) + (1 : Int32))) Q
    refine y_iald rfl rfl rfl (H.1) ?_
    replace H := H.2
    show yP (xg xs) (d + 1) 245 187 [(3, .int (m.1 38 l1.toNatClampNeg)), (2, .int (m.1 37 l1.toNatClampNeg)), (0, .ref 52), (1, .int l1)] [.int (m.1 39 l1.toNatClampNeg), .int (m.1 38 l1.toNatClampNeg), .int (m.1 37 l1.toNatClampNeg), .ref 52] (y_si (y_si m 52 2 ((m.1 52 2) + (1 : Int32))) 52 12 ((m.1 52 12) + (1 : Int32))) Q
    refine y_call rfl rfl rfl rfl rfl (Nat.le_of_ble_eq_true rfl) (Nat.le_of_ble_eq_true rfl) rfl (by decide) H (fun v6 m6 H => ?_)
    obtain ⟨u6, rfl, H⟩ := H
    show yP (xg xs) (d + 1) 245 190 [(3, .int (m.1 38 l1.toNatClampNeg)), (2, .int (m.1 37 l1.toNatClampNeg)), (0, .ref 52), (1, .int l1)] [.int u6] m6 Q
    exact y_iret rfl rfl rfl H
  replace H := H.2
  by_cases h4 : m.1 36 l1.toNatClampNeg = (4 : Int32)
  · replace H := H.1 h4
    refine y_tsw (t := 191) rfl rfl (by rw [h4]; rfl) ?_
    clear h4 h3 h2 h1 h0
    refine y_st rfl rfl rfl rfl rfl (fun _ _ => rfl) ?_
    refine y_st rfl rfl rfl rfl rfl (fun _ _ => rfl) ?_
    refine y_st rfl rfl rfl rfl rfl (fun _ _ => rfl) ?_
    refine y_st rfl rfl rfl rfl rfl (fun _ _ => rfl) ?_
    refine y_gf rfl rfl rfl rfl rfl ?_
    refine y_gf rfl rfl rfl rfl rfl ?_
    refine y_st rfl rfl rfl rfl rfl (fun _ _ => rfl) ?_
    show yP (xg xs) (d + 1) 245 202 [(3, .int (m.1 38 l1.toNatClampNeg)), (2, .int (m.1 37 l1.toNatClampNeg)), (0, .ref 52), (1, .int l1)] [.int l1, .ref 39, .int (m.1 38 l1.toNatClampNeg), .int (m.1 37 l1.toNatClampNeg), .ref 52] (y_si (y_si m 52 2 ((m.1 52 2) + (1 : Int32))) 52 12 ((m.1 52 12) + (1 : Int32))) Q
    refine y_iald rfl rfl rfl (H.1) ?_
    replace H := H.2
    show yP (xg xs) (d + 1) 245 203 [(3, .int (m.1 38 l1.toNatClampNeg)), (2, .int (m.1 37 l1.toNatClampNeg)), (0, .ref 52), (1, .int l1)] [.int (m.1 39 l1.toNatClampNeg), .int (m.1 38 l1.toNatClampNeg), .int (m.1 37 l1.toNatClampNeg), .ref 52] (y_si (y_si m 52 2 ((m.1 52 2) + (1 : Int32))) 52 12 ((m.1 52 12) + (1 : Int32))) Q
    refine y_call rfl rfl rfl rfl rfl (Nat.le_of_ble_eq_true rfl) (Nat.le_of_ble_eq_true rfl) rfl (by decide) H (fun v7 m7 H => ?_)
    obtain ⟨u7, rfl, H⟩ := H
    show yP (xg xs) (d + 1) 245 206 [(3, .int (m.1 38 l1.toNatClampNeg)), (2, .int (m.1 37 l1.toNatClampNeg)), (0, .ref 52), (1, .int l1)] [.int u7] m7 Q
    exact y_iret rfl rfl rfl H
  replace H := H.2
  by_cases h5 : m.1 36 l1.toNatClampNeg = (5 : Int32)
  · replace H := H.1 h5
    refine y_tsw (t := 207) rfl rfl (by rw [h5]; rfl) ?_
    clear h5 h4 h3 h2 h1 h0
    refine y_st rfl rfl rfl rfl rfl (fun _ _ => rfl) ?_
    refine y_st rfl rfl rfl rfl rfl (fun _ _ => rfl) ?_
    refine y_st rfl rfl rfl rfl rfl (fun _ _ => rfl) ?_
    refine y_gf rfl rfl rfl rfl rfl ?_
    refine y_gf rfl rfl rfl rfl rfl ?_
    refine y_st rfl rfl rfl rfl rfl (fun _ _ => rfl) ?_
    show yP (xg xs) (d + 1) 245 217 [(3, .int (m.1 38 l1.toNatClampNeg)), (2, .int (m.1 37 l1.toNatClampNeg)), (0, .ref 52), (1, .int l1)] [.int (m.1 37 l1.toNatClampNeg), .ref 27, .ref 52, .ref 52] (y_si (y_si m 52 2 ((m.1 52 2) + (1 : Int32))) 52 12 ((m.1 52 12) + (1 : Int32))) Q
    refine y_iald rfl rfl rfl (H.1) ?_
    replace H := H.2
    refine y_st rfl rfl rfl rfl rfl (fun _ _ => rfl) ?_
    refine y_st rfl rfl rfl rfl rfl (fun _ _ => rfl) ?_
    show yP (xg xs) (d + 1) 245 220 [(3, .int (m.1 38 l1.toNatClampNeg)), (2, .int (m.1 37 l1.toNatClampNeg)), (0, .ref 52), (1, .int l1)] [.int ((m.1 27 ((m.1 37 l1.toNatClampNeg).toNatClampNeg)) + (m.1 38 l1.toNatClampNeg)), .ref 52, .ref 52] (y_si (y_si m 52 2 ((m.1 52 2) + (1 : Int32))) 52 12 ((m.1 52 12) + (1 : Int32))) Q
    refine y_call rfl rfl rfl rfl rfl (Nat.le_of_ble_eq_true rfl) (Nat.le_of_ble_eq_true rfl) rfl (by decide) H (fun v8 m8 H => ?_)
    obtain ⟨u8, rfl, H⟩ := H
    show yP (xg xs) (d + 1) 245 223 [(3, .int (m.1 38 l1.toNatClampNeg)), (2, .int (m.1 37 l1.toNatClampNeg)), (0, .ref 52), (1, .int l1)] [.int u8, .ref 52] m8 Q
    refine y_call rfl rfl rfl rfl rfl (Nat.le_of_ble_eq_true rfl) (Nat.le_of_ble_eq_true rfl) rfl (by decide) H (fun v9 m9 H => ?_)
    obtain ⟨rfl, H⟩ := H
    refine y_st rfl rfl rfl rfl rfl (fun _ _ => rfl) ?_
    show yP (xg xs) (d + 1) 245 227 [(3, .int (m.1 38 l1.toNatClampNeg)), (2, .int (m.1 37 l1.toNatClampNeg)), (0, .ref 52), (1, .int l1)] [.int (0 : Int32)] m9 Q
    exact y_iret rfl rfl rfl H
  replace H := H.2
  by_cases h6 : m.1 36 l1.toNatClampNeg = (6 : Int32)
  · replace H := H.1 h6
    refine y_tsw (t := 228) rfl rfl (by rw [h6]; rfl) ?_
    clear h6 h5 h4 h3 h2 h1 h0
    refine y_st rfl rfl rfl rfl rfl (fun _ _ => rfl) ?_
    refine y_st rfl rfl rfl rfl rfl (fun _ _ => rfl) ?_
    refine y_gf rfl rfl rfl rfl rfl ?_
    refine y_gf rfl rfl rfl rfl rfl ?_
    refine y_st rfl rfl rfl rfl rfl (fun _ _ => rfl) ?_
    show yP (xg xs) (d + 1) 245 237 [(3, .int (m.1 38 l1.toNatClampNeg)), (2, .int (m.1 37 l1.toNatClampNeg)), (0, .ref 52), (1, .int l1)] [.int (m.1 37 l1.toNatClampNeg), .ref 27, .ref 52] (y_si (y_si m 52 2 ((m.1 52 2) + (1 : Int32))) 52 12 ((m.1 52 12) + (1 : Int32))) Q
    refine y_iald rfl rfl rfl (H.1) ?_
    replace H := H.2
    refine y_st rfl rfl rfl rfl rfl (fun _ _ => rfl) ?_
    refine y_st rfl rfl rfl rfl rfl (fun _ _ => rfl) ?_
    refine y_st rfl rfl rfl rfl rfl (fun _ _ => rfl) ?_
    show yP (xg xs) (d + 1) 245 241 [(3, .int (m.1 38 l1.toNatClampNeg)), (2, .int (m.1 37 l1.toNatClampNeg)), (0, .ref 52), (1, .int l1)] [.ref 52, .int ((m.1 27 ((m.1 37 l1.toNatClampNeg).toNatClampNeg)) + (m.1 38 l1.toNatClampNeg)), .ref 52] (y_si (y_si m 52 2 ((m.1 52 2) + (1 : Int32))) 52 12 ((m.1 52 12) + (1 : Int32))) Q
    refine y_call rfl rfl rfl rfl rfl (Nat.le_of_ble_eq_true rfl) (Nat.le_of_ble_eq_true rfl) rfl (by decide) H (fun v10 m10 H => ?_)
    obtain ⟨u10, rfl, H⟩ := H
    show yP (xg xs) (d + 1) 245 244 [(3, .int (m.1 38 l1.toNatClampNeg)), (2, .int (m.1 37 l1.toNatClampNeg)), (0, .ref 52), (1, .int l1)] [.int u10, .int ((m.1 27 ((m.1 37 l1.toNatClampNeg).toNatClampNeg)) + (m.1 38 l1.toNatClampNeg)), .ref 52] m10 Q
    refine y_call rfl rfl rfl rfl rfl (Nat.le_of_ble_eq_true rfl) (Nat.le_of_ble_eq_true rfl) rfl (by decide) H (fun v11 m11 H => ?_)
    obtain ⟨rfl, H⟩ := H
    refine y_st rfl rfl rfl rfl rfl (fun _ _ => rfl) ?_
    show yP (xg xs) (d + 1) 245 248 [(3, .int (m.1 38 l1.toNatClampNeg)), (2, .int (m.1 37 l1.toNatClampNeg)), (0, .ref 52), (1, .int l1)] [.int (0 : Int32)] m11 Q
    exact y_iret rfl rfl rfl H
  replace H := H.2
  by_cases h7 : m.1 36 l1.toNatClampNeg = (7 : Int32)
  · replace H := H.1 h7
    refine y_tsw (t := 249) rfl rfl (by rw [h7]; rfl) ?_
    clear h7 h6 h5 h4 h3 h2 h1 h0
    refine y_st rfl rfl rfl rfl rfl (fun _ _ => rfl) ?_
    refine y_st rfl rfl rfl rfl rfl (fun _ _ => rfl) ?_
    show yP (xg xs) (d + 1) 245 251 [(3, .int (m.1 38 l1.toNatClampNeg)), (2, .int (m.1 37 l1.toNatClampNeg)), (0, .ref 52), (1, .int l1)] [.int (m.1 37 l1.toNatClampNeg), .ref 52] (y_si (y_si m 52 2 ((m.1 52 2) + (1 : Int32))) 52 12 ((m.1 52 12) + (1 : Int32))) Q
    refine y_call rfl rfl rfl rfl rfl (Nat.le_of_ble_eq_true rfl) (Nat.le_of_ble_eq_true rfl) rfl (by decide) H (fun v12 m12 H => ?_)
    obtain ⟨u12, rfl, H⟩ := H
    show yP (xg xs) (d + 1) 245 254 [(3, .int (m.1 38 l1.toNatClampNeg)), (2, .int (m.1 37 l1.toNatClampNeg)), (0, .ref 52), (1, .int l1)] [.int u12] m12 Q
    exact y_iret rfl rfl rfl H
  replace H := H.2
  by_cases h8 : m.1 36 l1.toNatClampNeg = (8 : Int32)
  · replace H := H.1 h8
    refine y_tsw (t := 255) rfl rfl (by rw [h8]; rfl) ?_
    clear h8 h7 h6 h5 h4 h3 h2 h1 h0
    refine y_st rfl rfl rfl rfl rfl (fun _ _ => rfl) ?_
    refine y_st rfl rfl rfl rfl rfl (fun _ _ => rfl) ?_
    refine y_st rfl rfl rfl rfl rfl (fun _ _ => rfl) ?_
    show yP (xg xs) (d + 1) 245 258 [(3, .int (m.1 38 l1.toNatClampNeg)), (2, .int (m.1 37 l1.toNatClampNeg)), (0, .ref 52), (1, .int l1)] [.ref 52, .int (m.1 37 l1.toNatClampNeg), .ref 52] (y_si (y_si m 52 2 ((m.1 52 2) + (1 : Int32))) 52 12 ((m.1 52 12) + (1 : Int32))) Q
    refine y_call rfl rfl rfl rfl rfl (Nat.le_of_ble_eq_true rfl) (Nat.le_of_ble_eq_true rfl) rfl (by decide) H (fun v13 m13 H => ?_)
    obtain ⟨u13, rfl, H⟩ := H
    show yP (xg xs) (d + 1) 245 261 [(3, .int (m.1 38 l1.toNatClampNeg)), (2, .int (m.1 37 l1.toNatClampNeg)), (0, .ref 52), (1, .int l1)] [.int u13, .int (m.1 37 l1.toNatClampNeg), .ref 52] m13 Q
    refine y_call rfl rfl rfl rfl rfl (Nat.le_of_ble_eq_true rfl) (Nat.le_of_ble_eq_true rfl) rfl (by decide) H (fun v14 m14 H => ?_)
    obtain ⟨u14, rfl, H⟩ := H
    show yP (xg xs) (d + 1) 245 264 [(3, .int (m.1 38 l1.toNatClampNeg)), (2, .int (m.1 37 l1.toNatClampNeg)), (0, .ref 52), (1, .int l1)] [.int u14, .ref 52] m14 Q
    refine y_call rfl rfl rfl rfl rfl (Nat.le_of_ble_eq_true rfl) (Nat.le_of_ble_eq_true rfl) rfl (by decide) H (fun v15 m15 H => ?_)
    obtain ⟨rfl, H⟩ := H
    refine y_st rfl rfl rfl rfl rfl (fun _ _ => rfl) ?_
    show yP (xg xs) (d + 1) 245 268 [(3, .int (m.1 38 l1.toNatClampNeg)), (2, .int (m.1 37 l1.toNatClampNeg)), (0, .ref 52), (1, .int l1)] [.int (0 : Int32)] m15 Q
    exact y_iret rfl rfl rfl H
  replace H := H.2
  by_cases h9 : m.1 36 l1.toNatClampNeg = (9 : Int32)
  · replace H := H.1 h9
    refine y_tsw (t := 269) rfl rfl (by rw [h9]; rfl) ?_
    clear h9 h8 h7 h6 h5 h4 h3 h2 h1 h0
    refine y_st rfl rfl rfl rfl rfl (fun _ _ => rfl) ?_
    show yP (xg xs) (d + 1) 245 270 [(3, .int (m.1 38 l1.toNatClampNeg)), (2, .int (m.1 37 l1.toNatClampNeg)), (0, .ref 52), (1, .int l1)] [.ref 52] (y_si (y_si m 52 2 ((m.1 52 2) + (1 : Int32))) 52 12 ((m.1 52 12) + (1 : Int32))) Q
    refine y_call rfl rfl rfl rfl rfl (Nat.le_of_ble_eq_true rfl) (Nat.le_of_ble_eq_true rfl) rfl (by decide) H (fun v16 m16 H => ?_)
    obtain ⟨rfl, H⟩ := H
    refine y_st rfl rfl rfl rfl rfl (fun _ _ => rfl) ?_
    show yP (xg xs) (d + 1) 245 274 [(3, .int (m.1 38 l1.toNatClampNeg)), (2, .int (m.1 37 l1.toNatClampNeg)), (0, .ref 52), (1, .int l1)] [.int (0 : Int32)] m16 Q
    exact y_iret rfl rfl rfl H
  replace H := H.2
  by_cases h17 : m.1 36 l1.toNatClampNeg = (17 : Int32)
  · replace H := H.1 h17
    refine y_tsw (t := 275) rfl rfl (by rw [h17]; rfl) ?_
    clear h17 h9 h8 h7 h6 h5 h4 h3 h2 h1 h0
    refine y_st rfl rfl rfl rfl rfl (fun _ _ => rfl) ?_
    refine y_st rfl rfl rfl rfl rfl (fun _ _ => rfl) ?_
    refine y_st rfl rfl rfl rfl rfl (fun _ _ => rfl) ?_
    refine y_gf rfl rfl rfl rfl rfl ?_
    refine y_st rfl rfl rfl rfl rfl (fun _ _ => rfl) ?_
    refine y_st rfl rfl rfl rfl rfl (fun _ _ => rfl) ?_
    show yP (xg xs) (d + 1) 245 283 [(3, .int (m.1 38 l1.toNatClampNeg)), (2, .int (m.1 37 l1.toNatClampNeg)), (0, .ref 52), (1, .int l1)] [.int ((m.1 52 13) + (m.1 38 l1.toNatClampNeg)), .int (m.1 37 l1.toNatClampNeg), .ref 52] (y_si (y_si m 52 2 ((m.1 52 2) + (1 : Int32))) 52 12 ((m.1 52 12) + (1 : Int32))) Q
    refine y_call rfl rfl rfl rfl rfl (Nat.le_of_ble_eq_true rfl) (Nat.le_of_ble_eq_true rfl) rfl (by decide) H (fun v17 m17 H => ?_)
    obtain ⟨rfl, H⟩ := H
    refine y_st rfl rfl rfl rfl rfl (fun _ _ => rfl) ?_
    show yP (xg xs) (d + 1) 245 287 [(3, .int (m.1 38 l1.toNatClampNeg)), (2, .int (m.1 37 l1.toNatClampNeg)), (0, .ref 52), (1, .int l1)] [.int (0 : Int32)] m17 Q
    exact y_iret rfl rfl rfl H
  replace H := H.2
  refine y_tsw (t := 288) rfl rfl (by have g0 := ne_lit (0 : Int32) 0 rfl h0; have g1 := ne_lit (1 : Int32) 1 rfl h1; have g2 := ne_lit (2 : Int32) 2 rfl h2; have g3 := ne_lit (3 : Int32) 3 rfl h3; have g4 := ne_lit (4 : Int32) 4 rfl h4; have g5 := ne_lit (5 : Int32) 5 rfl h5; have g6 := ne_lit (6 : Int32) 6 rfl h6; have g7 := ne_lit (7 : Int32) 7 rfl h7; have g8 := ne_lit (8 : Int32) 8 rfl h8; have g9 := ne_lit (9 : Int32) 9 rfl h9; have g10 := ne_lit (17 : Int32) 17 rfl h17; by_cases z : ((m.1 36 l1.toNatClampNeg)).toInt < 0 ∨ 17 < ((m.1 36 l1.toNatClampNeg)).toInt; exact (if_pos z).trans rfl; rw [if_neg z]; rcases (by omega : ((m.1 36 l1.toNatClampNeg)).toInt = 10 ∨ ((m.1 36 l1.toNatClampNeg)).toInt = 11 ∨ ((m.1 36 l1.toNatClampNeg)).toInt = 12 ∨ ((m.1 36 l1.toNatClampNeg)).toInt = 13 ∨ ((m.1 36 l1.toNatClampNeg)).toInt = 14 ∨ ((m.1 36 l1.toNatClampNeg)).toInt = 15 ∨ ((m.1 36 l1.toNatClampNeg)).toInt = 16) with e | e | e | e | e | e | e <;> rw [e] <;> rfl) ?_
  replace H := H h0 h1 h2 h3 h4 h5 h6 h7 h8 h9 h17
  clear h17 h9 h8 h7 h6 h5 h4 h3 h2 h1 h0
  refine y_st rfl rfl rfl rfl rfl (fun _ _ => rfl) ?_
  refine y_st rfl rfl rfl rfl rfl (fun _ _ => rfl) ?_
  refine y_gf rfl rfl rfl rfl rfl ?_
  refine y_gf rfl rfl rfl rfl rfl ?_
  refine y_st rfl rfl rfl rfl rfl (fun _ _ => rfl) ?_
  show yP (xg xs) (d + 1) 245 297 [(3, .int (m.1 38 l1.toNatClampNeg)), (2, .int (m.1 37 l1.toNatClampNeg)), (0, .ref 52), (1, .int l1)] [.int l1, .ref 36, .ref 52] (y_si (y_si m 52 2 ((m.1 52 2) + (1 : Int32))) 52 12 ((m.1 52 12) + (1 : Int32))) Q
  refine y_iald rfl rfl rfl (H.1) ?_
  replace H := H.2
  refine y_st rfl rfl rfl rfl rfl (fun _ _ => rfl) ?_
  refine y_st rfl rfl rfl rfl rfl (fun _ _ => rfl) ?_
  show yP (xg xs) (d + 1) 245 300 [(3, .int (m.1 38 l1.toNatClampNeg)), (2, .int (m.1 37 l1.toNatClampNeg)), (0, .ref 52), (1, .int l1)] [.int (m.1 38 l1.toNatClampNeg), .int (m.1 37 l1.toNatClampNeg), .int (m.1 36 l1.toNatClampNeg), .ref 52] (y_si (y_si m 52 2 ((m.1 52 2) + (1 : Int32))) 52 12 ((m.1 52 12) + (1 : Int32))) Q
  refine y_call rfl rfl rfl rfl rfl (Nat.le_of_ble_eq_true rfl) (Nat.le_of_ble_eq_true rfl) rfl (by decide) H (fun v18 m18 H => ?_)
  obtain ⟨rfl, H⟩ := H
  refine y_st rfl rfl rfl rfl rfl (fun _ _ => rfl) ?_
  show yP (xg xs) (d + 1) 245 304 [(3, .int (m.1 38 l1.toNatClampNeg)), (2, .int (m.1 37 l1.toNatClampNeg)), (0, .ref 52), (1, .int l1)] [.int (0 : Int32)] m18 Q
  exact y_iret rfl rfl rfl H
set_option maxRecDepth 20000 in
/-- CodeMaker.Machine.takeElement from 0 on -/
theorem w249_0 (xs : List Int32) (d : Nat) (l1 : Int32) (l2 : Int32) (l3 : Int32) (m : yM) (Q : Option Value → yM → Prop) (H : (yC (xg xs) d 248 [.ref 52] m (fun v1 m1 => ∃ u1, v1 = some (Value.int u1) ∧ (yC (xg xs) d 250 [.int u1, .int l2, .int l3] m1 (fun v2 m2 => ∃ u2, v2 = some (Value.int u2) ∧ ((¬ u2 = 0 → (yC (xg xs) d 247 [.ref 52, .int (((m2.1 52 13) + l1) + (u1 - l2))] m2 (fun v3 m3 => ∃ u3, v3 = some (Value.int u3) ∧ (yC (xg xs) d 246 [.ref 52, .int u3] m3 (fun v4 m4 => v4 = none ∧ Q (some (.int (0 : Int32))) m4))))) ∧ (u2 = 0 → Q (some (.int ((-4) : Int32))) m2))))))) : yP (xg xs) (d + 1) 249 0 [(0, .ref 52), (1, .int l1), (2, .int l2), (3, .int l3)] [] m Q := by
  refine y_st rfl rfl rfl rfl rfl (fun _ _ => rfl) ?_
  show yP (xg xs) (d + 1) 249 1 [(0, .ref 52), (1, .int l1), (2, .int l2), (3, .int l3)] [.ref 52] m Q
  refine y_call rfl rfl rfl rfl rfl (Nat.le_of_ble_eq_true rfl) (Nat.le_of_ble_eq_true rfl) rfl (by decide) H (fun v1 m1 H => ?_)
  obtain ⟨u1, rfl, H⟩ := H
  refine y_st rfl rfl rfl rfl rfl (fun _ _ => rfl) ?_
  refine y_st rfl rfl rfl rfl rfl (fun _ _ => rfl) ?_
  refine y_st rfl rfl rfl rfl rfl (fun _ _ => rfl) ?_
  refine y_st rfl rfl rfl rfl rfl (fun _ _ => rfl) ?_
  show yP (xg xs) (d + 1) 249 10 [(4, .int u1), (0, .ref 52), (1, .int l1), (2, .int l2), (3, .int l3)] [.int l3, .int l2, .int u1] m1 Q
  refine y_call rfl rfl rfl rfl rfl (Nat.le_of_ble_eq_true rfl) (Nat.le_of_ble_eq_true rfl) rfl (by decide) H (fun v2 m2 H => ?_)
  obtain ⟨u2, rfl, H⟩ := H
  show yP (xg xs) (d + 1) 249 13 [(4, .int u1), (0, .ref 52), (1, .int l1), (2, .int l2), (3, .int l3)] [.int u2] m2 Q
  refine y_zne (t := 19) rfl rfl rfl (fun h => ?_) (fun h => ?_)
  · replace H := H.1 h; clear h
    refine y_st rfl rfl rfl rfl rfl (fun _ _ => rfl) ?_
    refine y_st rfl rfl rfl rfl rfl (fun _ _ => rfl) ?_
    refine y_st rfl rfl rfl rfl rfl (fun _ _ => rfl) ?_
    refine y_gf rfl rfl rfl rfl rfl ?_
    refine y_st rfl rfl rfl rfl rfl (fun _ _ => rfl) ?_
    refine y_st rfl rfl rfl rfl rfl (fun _ _ => rfl) ?_
    refine y_st rfl rfl rfl rfl rfl (fun _ _ => rfl) ?_
    refine y_st rfl rfl rfl rfl rfl (fun _ _ => rfl) ?_
    refine y_st rfl rfl rfl rfl rfl (fun _ _ => rfl) ?_
    refine y_st rfl rfl rfl rfl rfl (fun _ _ => rfl) ?_
    show yP (xg xs) (d + 1) 249 32 [(4, .int u1), (0, .ref 52), (1, .int l1), (2, .int l2), (3, .int l3)] [.int (((m2.1 52 13) + l1) + (u1 - l2)), .ref 52, .ref 52] m2 Q
    refine y_call rfl rfl rfl rfl rfl (Nat.le_of_ble_eq_true rfl) (Nat.le_of_ble_eq_true rfl) rfl (by decide) H (fun v3 m3 H => ?_)
    obtain ⟨u3, rfl, H⟩ := H
    show yP (xg xs) (d + 1) 249 35 [(4, .int u1), (0, .ref 52), (1, .int l1), (2, .int l2), (3, .int l3)] [.int u3, .ref 52] m3 Q
    refine y_call rfl rfl rfl rfl rfl (Nat.le_of_ble_eq_true rfl) (Nat.le_of_ble_eq_true rfl) rfl (by decide) H (fun v4 m4 H => ?_)
    obtain ⟨rfl, H⟩ := H
    refine y_st rfl rfl rfl rfl rfl (fun _ _ => rfl) ?_
    show yP (xg xs) (d + 1) 249 39 [(4, .int u1), (0, .ref 52), (1, .int l1), (2, .int l2), (3, .int l3)] [.int (0 : Int32)] m4 Q
    exact y_iret rfl rfl rfl H
  · replace H := H.2 h; clear h
    refine y_st rfl rfl rfl rfl rfl (fun _ _ => rfl) ?_
    show yP (xg xs) (d + 1) 249 18 [(4, .int u1), (0, .ref 52), (1, .int l1), (2, .int l2), (3, .int l3)] [.int ((-4) : Int32)] m2 Q
    exact y_iret rfl rfl rfl H
set_option maxRecDepth 20000 in
/-- CodeMaker.Machine.isElement from 0 on -/
theorem w250_0 (xs : List Int32) (d : Nat) (l0 : Int32) (l1 : Int32) (l2 : Int32) (m : yM) (Q : Option Value → yM → Prop) (H : (((lg_cmp (l0.toInt64 - l1.toInt64) (0 : Int64)) < 0 → Q (some (.int (0 : Int32))) m) ∧ (¬ (lg_cmp (l0.toInt64 - l1.toInt64) (0 : Int64)) < 0 → ((0 ≤ (lg_cmp (l0.toInt64 - l1.toInt64) l2.toInt64) → Q (some (.int (0 : Int32))) m) ∧ (¬ 0 ≤ (lg_cmp (l0.toInt64 - l1.toInt64) l2.toInt64) → Q (some (.int (1 : Int32))) m))))) : yP (xg xs) (d + 1) 250 0 [(0, .int l0), (1, .int l1), (2, .int l2)] [] m Q := by
  refine y_st rfl rfl rfl rfl rfl (fun _ _ => rfl) ?_
  refine y_st rfl rfl rfl rfl rfl (fun _ _ => rfl) ?_
  refine y_st rfl rfl rfl rfl rfl (fun _ _ => rfl) ?_
  refine y_st rfl rfl rfl rfl rfl (fun _ _ => rfl) ?_
  refine y_st rfl rfl rfl rfl rfl (fun _ _ => rfl) ?_
  refine y_st rfl rfl rfl rfl rfl (fun _ _ => rfl) ?_
  refine y_st rfl rfl rfl rfl rfl (fun _ _ => rfl) ?_
  refine y_st rfl rfl rfl rfl rfl (fun _ _ => rfl) ?_
  refine y_st rfl rfl rfl rfl rfl (fun _ _ => rfl) ?_
  show yP (xg xs) (d + 1) 250 9 [(3, .long (l0.toInt64 - l1.toInt64)), (0, .int l0), (1, .int l1), (2, .int l2)] [.int (lg_cmp (l0.toInt64 - l1.toInt64) (0 : Int64))] m Q
  refine y_zlt (t := 23) rfl rfl rfl (fun h => ?_) (fun h => ?_)
  · replace H := H.1 h; clear h
    refine y_st rfl rfl rfl rfl rfl (fun _ _ => rfl) ?_
    show yP (xg xs) (d + 1) 250 24 [(3, .long (l0.toInt64 - l1.toInt64)), (0, .int l0), (1, .int l1), (2, .int l2)] [.int (0 : Int32)] m Q
    exact y_zret rfl rfl rfl (by decide) H
  · replace H := H.2 h; clear h
    refine y_st rfl rfl rfl rfl rfl (fun _ _ => rfl) ?_
    refine y_st rfl rfl rfl rfl rfl (fun _ _ => rfl) ?_
    refine y_st rfl rfl rfl rfl rfl (fun _ _ => rfl) ?_
    refine y_st rfl rfl rfl rfl rfl (fun _ _ => rfl) ?_
    show yP (xg xs) (d + 1) 250 16 [(3, .long (l0.toInt64 - l1.toInt64)), (0, .int l0), (1, .int l1), (2, .int l2)] [.int (lg_cmp (l0.toInt64 - l1.toInt64) l2.toInt64)] m Q
    refine y_zge (t := 23) rfl rfl rfl (fun h => ?_) (fun h => ?_)
    · replace H := H.1 h; clear h
      refine y_st rfl rfl rfl rfl rfl (fun _ _ => rfl) ?_
      show yP (xg xs) (d + 1) 250 24 [(3, .long (l0.toInt64 - l1.toInt64)), (0, .int l0), (1, .int l1), (2, .int l2)] [.int (0 : Int32)] m Q
      exact y_zret rfl rfl rfl (by decide) H
    · replace H := H.2 h; clear h
      refine y_st rfl rfl rfl rfl rfl (fun _ _ => rfl) ?_
      refine y_st rfl rfl rfl rfl rfl (fun _ _ => rfl) ?_
      show yP (xg xs) (d + 1) 250 24 [(3, .long (l0.toInt64 - l1.toInt64)), (0, .int l0), (1, .int l1), (2, .int l2)] [.int (1 : Int32)] m Q
      exact y_zret rfl rfl rfl (by decide) H
set_option maxRecDepth 20000 in
/-- CodeMaker.Machine.putElement from 0 on -/
theorem w251_0 (xs : List Int32) (d : Nat) (l1 : Int32) (l2 : Int32) (l3 : Int32) (m : yM) (Q : Option Value → yM → Prop) (H : (yC (xg xs) d 248 [.ref 52] m (fun v1 m1 => ∃ u1, v1 = some (Value.int u1) ∧ (yC (xg xs) d 248 [.ref 52] m1 (fun v2 m2 => ∃ u2, v2 = some (Value.int u2) ∧ (yC (xg xs) d 250 [.int u2, .int l2, .int l3] m2 (fun v3 m3 => ∃ u3, v3 = some (Value.int u3) ∧ ((¬ u3 = 0 → (yC (xg xs) d 234 [.ref 52, .int (((m3.1 52 13) + l1) + (u2 - l2)), .int u1] m3 (fun v4 m4 => v4 = none ∧ Q (some (.int (0 : Int32))) m4))) ∧ (u3 = 0 → Q (some (.int ((-4) : Int32))) m3))))))))) : yP (xg xs) (d + 1) 251 0 [(0, .ref 52), (1, .int l1), (2, .int l2), (3, .int l3)] [] m Q := by
  refine y_st rfl rfl rfl rfl rfl (fun _ _ => rfl) ?_
  show yP (xg xs) (d + 1) 251 1 [(0, .ref 52), (1, .int l1), (2, .int l2), (3, .int l3)] [.ref 52] m Q
  refine y_call rfl rfl rfl rfl rfl (Nat.le_of_ble_eq_true rfl) (Nat.le_of_ble_eq_true rfl) rfl (by decide) H (fun v1 m1 H => ?_)
  obtain ⟨u1, rfl, H⟩ := H
  refine y_st rfl rfl rfl rfl rfl (fun _ _ => rfl) ?_
  refine y_st rfl rfl rfl rfl rfl (fun _ _ => rfl) ?_
  show yP (xg xs) (d + 1) 251 7 [(4, .int u1), (0, .ref 52), (1, .int l1), (2, .int l2), (3, .int l3)] [.ref 52] m1 Q
  refine y_call rfl rfl rfl rfl rfl (Nat.le_of_ble_eq_true rfl) (Nat.le_of_ble_eq_true rfl) rfl (by decide) H (fun v2 m2 H => ?_)
  obtain ⟨u2, rfl, H⟩ := H
  refine y_st rfl rfl rfl rfl rfl (fun _ _ => rfl) ?_
  refine y_st rfl rfl rfl rfl rfl (fun _ _ => rfl) ?_
  refine y_st rfl rfl rfl rfl rfl (fun _ _ => rfl) ?_
  refine y_st rfl rfl rfl rfl rfl (fun _ _ => rfl) ?_
  show yP (xg xs) (d + 1) 251 16 [(5, .int u2), (4, .int u1), (0, .ref 52), (1, .int l1), (2, .int l2), (3, .int l3)] [.int l3, .int l2, .int u2] m2 Q
  refine y_call rfl rfl rfl rfl rfl (Nat.le_of_ble_eq_true rfl) (Nat.le_of_ble_eq_true rfl) rfl (by decide) H (fun v3 m3 H => ?_)
  obtain ⟨u3, rfl, H⟩ := H
  show yP (xg xs) (d + 1) 251 19 [(5, .int u2), (4, .int u1), (0, .ref 52), (1, .int l1), (2, .int l2), (3, .int l3)] [.int u3] m3 Q
  refine y_zne (t := 25) rfl rfl rfl (fun h => ?_) (fun h => ?_)
  · replace H := H.1 h; clear h
    refine y_st rfl rfl rfl rfl rfl (fun _ _ => rfl) ?_
    refine y_st rfl rfl rfl rfl rfl (fun _ _ => rfl) ?_
    refine y_gf rfl rfl rfl rfl rfl ?_
    refine y_st rfl rfl rfl rfl rfl (fun _ _ => rfl) ?_
    refine y_st rfl rfl rfl rfl rfl (fun _ _ => rfl) ?_
    refine y_st rfl rfl rfl rfl rfl (fun _ _ => rfl) ?_
    refine y_st rfl rfl rfl rfl rfl (fun _ _ => rfl) ?_
    refine y_st rfl rfl rfl rfl rfl (fun _ _ => rfl) ?_
    refine y_st rfl rfl rfl rfl rfl (fun _ _ => rfl) ?_
    refine y_st rfl rfl rfl rfl rfl (fun _ _ => rfl) ?_
    show yP (xg xs) (d + 1) 251 39 [(5, .int u2), (4, .int u1), (0, .ref 52), (1, .int l1), (2, .int l2), (3, .int l3)] [.int u1, .int (((m3.1 52 13) + l1) + (u2 - l2)), .ref 52] m3 Q
    refine y_call rfl rfl rfl rfl rfl (Nat.le_of_ble_eq_true rfl) (Nat.le_of_ble_eq_true rfl) rfl (by decide) H (fun v4 m4 H => ?_)
    obtain ⟨rfl, H⟩ := H
    refine y_st rfl rfl rfl rfl rfl (fun _ _ => rfl) ?_
    show yP (xg xs) (d + 1) 251 43 [(5, .int u2), (4, .int u1), (0, .ref 52), (1, .int l1), (2, .int l2), (3, .int l3)] [.int (0 : Int32)] m4 Q
    exact y_iret rfl rfl rfl H
  · replace H := H.2 h; clear h
    refine y_st rfl rfl rfl rfl rfl (fun _ _ => rfl) ?_
    show yP (xg xs) (d + 1) 251 24 [(5, .int u2), (4, .int u1), (0, .ref 52), (1, .int l1), (2, .int l2), (3, .int l3)] [.int ((-4) : Int32)] m3 Q
    exact y_iret rfl rfl rfl H
set_option maxRecDepth 20000 in
/-- CodeMaker.Machine.operate from 0 on -/
theorem w252_0 (xs : List Int32) (d : Nat) (l1 : Int32) (m : yM) (Q : Option Value → yM → Prop) (H : (yC (xg xs) d 248 [.ref 52] m (fun v1 m1 => ∃ u1, v1 = some (Value.int u1) ∧ (yC (xg xs) d 248 [.ref 52] m1 (fun v2 m2 => ∃ u2, v2 = some (Value.int u2) ∧ ((l1 = (3 : Int32) → yP (xg xs) (d + 1) 252 32 [(0, .ref 52), (1, .int l1), (2, .int u1), (3, .int u2)] [] m2 Q) ∧ (¬ l1 = (3 : Int32) → ((l1 = (4 : Int32) → yP (xg xs) (d + 1) 252 32 [(0, .ref 52), (1, .int l1), (2, .int u1), (3, .int u2)] [] m2 Q) ∧ (¬ l1 = (4 : Int32) → ((l1 = (8 : Int32) → yP (xg xs) (d + 1) 252 32 [(0, .ref 52), (1, .int l1), (2, .int u1), (3, .int u2)] [] m2 Q) ∧ (¬ l1 = (8 : Int32) → ((¬ l1 = (9 : Int32) → yP (xg xs) (d + 1) 252 37 [(0, .ref 52), (1, .int l1), (2, .int u1), (3, .int u2)] [.int (0 : Int32)] m2 Q) ∧ (l1 = (9 : Int32) → yP (xg xs) (d + 1) 252 32 [(0, .ref 52), (1, .int l1), (2, .int u1), (3, .int u2)] [] m2 Q))))))))))))) : yP (xg xs) (d + 1) 252 0 [(0, .ref 52), (1, .int l1)] [] m Q := by
  refine y_st rfl rfl rfl rfl rfl (fun _ _ => rfl) ?_
  show yP (xg xs) (d + 1) 252 1 [(0, .ref 52), (1, .int l1)] [.ref 52] m Q
  refine y_call rfl rfl rfl rfl rfl (Nat.le_of_ble_eq_true rfl) (Nat.le_of_ble_eq_true rfl) rfl (by decide) H (fun v1 m1 H => ?_)
  obtain ⟨u1, rfl, H⟩ := H
  refine y_st rfl rfl rfl rfl rfl (fun _ _ => rfl) ?_
  refine y_st rfl rfl rfl rfl rfl (fun _ _ => rfl) ?_
  show yP (xg xs) (d + 1) 252 6 [(2, .int u1), (0, .ref 52), (1, .int l1)] [.ref 52] m1 Q
  refine y_call rfl rfl rfl rfl rfl (Nat.le_of_ble_eq_true rfl) (Nat.le_of_ble_eq_true rfl) rfl (by decide) H (fun v2 m2 H => ?_)
  obtain ⟨u2, rfl, H⟩ := H
  refine y_st rfl rfl rfl rfl rfl (fun _ _ => rfl) ?_
  refine y_st rfl rfl rfl rfl rfl (fun _ _ => rfl) ?_
  refine y_st rfl rfl rfl rfl rfl (fun _ _ => rfl) ?_
  show yP (xg xs) (d + 1) 252 12 [(3, .int u2), (2, .int u1), (0, .ref 52), (1, .int l1)] [.int (3 : Int32), .int l1] m2 Q
  refine y_ieq (t := 32) rfl rfl rfl (fun h => ?_) (fun h => ?_)
  · replace H := H.1 h; clear h
    show yP (xg xs) (d + 1) 252 32 [(3, .int u2), (2, .int u1), (0, .ref 52), (1, .int l1)] [] m2 Q
    refine y_headS (l2 := [(0, .ref 52), (1, .int l1), (2, .int u1), (3, .int u2)]) [2, 3, 1, 0] [0, 1, 2, 3] [3, 2, 0, 1] rfl rfl (by decide) rfl (by decide) ?_
    exact H
  · replace H := H.2 h; clear h
    refine y_st rfl rfl rfl rfl rfl (fun _ _ => rfl) ?_
    refine y_st rfl rfl rfl rfl rfl (fun _ _ => rfl) ?_
    show yP (xg xs) (d + 1) 252 17 [(3, .int u2), (2, .int u1), (0, .ref 52), (1, .int l1)] [.int (4 : Int32), .int l1] m2 Q
    refine y_ieq (t := 32) rfl rfl rfl (fun h => ?_) (fun h => ?_)
    · replace H := H.1 h; clear h
      show yP (xg xs) (d + 1) 252 32 [(3, .int u2), (2, .int u1), (0, .ref 52), (1, .int l1)] [] m2 Q
      refine y_headS (l2 := [(0, .ref 52), (1, .int l1), (2, .int u1), (3, .int u2)]) [2, 3, 1, 0] [0, 1, 2, 3] [3, 2, 0, 1] rfl rfl (by decide) rfl (by decide) ?_
      exact H
    · replace H := H.2 h; clear h
      refine y_st rfl rfl rfl rfl rfl (fun _ _ => rfl) ?_
      refine y_st rfl rfl rfl rfl rfl (fun _ _ => rfl) ?_
      show yP (xg xs) (d + 1) 252 23 [(3, .int u2), (2, .int u1), (0, .ref 52), (1, .int l1)] [.int (8 : Int32), .int l1] m2 Q
      refine y_ieq (t := 32) rfl rfl rfl (fun h => ?_) (fun h => ?_)
      · replace H := H.1 h; clear h
        show yP (xg xs) (d + 1) 252 32 [(3, .int u2), (2, .int u1), (0, .ref 52), (1, .int l1)] [] m2 Q
        refine y_headS (l2 := [(0, .ref 52), (1, .int l1), (2, .int u1), (3, .int u2)]) [2, 3, 1, 0] [0, 1, 2, 3] [3, 2, 0, 1] rfl rfl (by decide) rfl (by decide) ?_
        exact H
      · replace H := H.2 h; clear h
        refine y_st rfl rfl rfl rfl rfl (fun _ _ => rfl) ?_
        refine y_st rfl rfl rfl rfl rfl (fun _ _ => rfl) ?_
        show yP (xg xs) (d + 1) 252 29 [(3, .int u2), (2, .int u1), (0, .ref 52), (1, .int l1)] [.int (9 : Int32), .int l1] m2 Q
        refine y_ine (t := 36) rfl rfl rfl (fun h => ?_) (fun h => ?_)
        · replace H := H.1 h; clear h
          refine y_st rfl rfl rfl rfl rfl (fun _ _ => rfl) ?_
          show yP (xg xs) (d + 1) 252 37 [(3, .int u2), (2, .int u1), (0, .ref 52), (1, .int l1)] [.int (0 : Int32)] m2 Q
          refine y_headS (l2 := [(0, .ref 52), (1, .int l1), (2, .int u1), (3, .int u2)]) [2, 3, 1, 0] [0, 1, 2, 3] [3, 2, 0, 1] rfl rfl (by decide) rfl (by decide) ?_
          exact H
        · replace H := H.2 h; clear h
          show yP (xg xs) (d + 1) 252 32 [(3, .int u2), (2, .int u1), (0, .ref 52), (1, .int l1)] [] m2 Q
          refine y_headS (l2 := [(0, .ref 52), (1, .int l1), (2, .int u1), (3, .int u2)]) [2, 3, 1, 0] [0, 1, 2, 3] [3, 2, 0, 1] rfl rfl (by decide) rfl (by decide) ?_
          exact H
set_option maxRecDepth 20000 in
/-- CodeMaker.Machine.operate from 32 on -/
theorem w252_32 (xs : List Int32) (d : Nat) (l1 : Int32) (l2 : Int32) (l3 : Int32) (m : yM) (Q : Option Value → yM → Prop) (H : yP (xg xs) (d + 1) 252 37 [(0, .ref 52), (1, .int l1), (2, .int l2), (3, .int l3)] [.int (1 : Int32)] m Q) : yP (xg xs) (d + 1) 252 32 [(0, .ref 52), (1, .int l1), (2, .int l2), (3, .int l3)] [] m Q := by
  refine y_st rfl rfl rfl rfl rfl (fun _ _ => rfl) ?_
  refine y_st rfl rfl rfl rfl rfl (fun _ _ => rfl) ?_
  show yP (xg xs) (d + 1) 252 37 [(0, .ref 52), (1, .int l1), (2, .int l2), (3, .int l3)] [.int (1 : Int32)] m Q
  exact H
set_option maxRecDepth 20000 in
/-- CodeMaker.Machine.operate from 37 on -/
theorem w252_37 (xs : List Int32) (d : Nat) (l1 : Int32) (l2 : Int32) (l3 : Int32) (s0 : Int32) (m : yM) (Q : Option Value → yM → Prop) (H : ((s0 = 0 → yP (xg xs) (d + 1) 252 51 [(0, .ref 52), (1, .int l1), (2, .int l2), (3, .int l3)] [] m Q) ∧ (¬ s0 = 0 → ((¬ l2 = 0 → yP (xg xs) (d + 1) 252 51 [(0, .ref 52), (1, .int l1), (2, .int l2), (3, .int l3)] [] m Q) ∧ (l2 = 0 → Q (some (.int ((-3) : Int32))) m))))) : yP (xg xs) (d + 1) 252 37 [(0, .ref 52), (1, .int l1), (2, .int l2), (3, .int l3)] [.int s0] m Q := by
  refine y_st rfl rfl rfl rfl rfl (fun _ _ => rfl) ?_
  refine y_st rfl rfl rfl rfl rfl (fun _ _ => rfl) ?_
  show yP (xg xs) (d + 1) 252 41 [(4, .int s0), (0, .ref 52), (1, .int l1), (2, .int l2), (3, .int l3)] [.int s0] m Q
  refine y_zeq (t := 51) rfl rfl rfl (fun h => ?_) (fun h => ?_)
  · replace H := H.1 h; clear h
    show yP (xg xs) (d + 1) 252 51 [(4, .int s0), (0, .ref 52), (1, .int l1), (2, .int l2), (3, .int l3)] [] m Q
    refine y_headS (l2 := [(0, .ref 52), (1, .int l1), (2, .int l2), (3, .int l3)]) [1, 2, 3, 4] [0, 1, 2, 3] [4, 0, 1, 2, 3] rfl rfl (by decide) rfl (by decide) ?_
    exact H
  · replace H := H.2 h; clear h
    refine y_st rfl rfl rfl rfl rfl (fun _ _ => rfl) ?_
    show yP (xg xs) (d + 1) 252 45 [(4, .int s0), (0, .ref 52), (1, .int l1), (2, .int l2), (3, .int l3)] [.int l2] m Q
    refine y_zne (t := 51) rfl rfl rfl (fun h => ?_) (fun h => ?_)
    · replace H := H.1 h; clear h
      show yP (xg xs) (d + 1) 252 51 [(4, .int s0), (0, .ref 52), (1, .int l1), (2, .int l2), (3, .int l3)] [] m Q
      refine y_headS (l2 := [(0, .ref 52), (1, .int l1), (2, .int l2), (3, .int l3)]) [1, 2, 3, 4] [0, 1, 2, 3] [4, 0, 1, 2, 3] rfl rfl (by decide) rfl (by decide) ?_
      exact H
    · replace H := H.2 h; clear h
      refine y_st rfl rfl rfl rfl rfl (fun _ _ => rfl) ?_
      show yP (xg xs) (d + 1) 252 50 [(4, .int s0), (0, .ref 52), (1, .int l1), (2, .int l2), (3, .int l3)] [.int ((-3) : Int32)] m Q
      exact y_iret rfl rfl rfl H
set_option maxRecDepth 20000 in
/-- CodeMaker.Machine.operate from 51 on -/
theorem w252_51 (xs : List Int32) (d : Nat) (l1 : Int32) (l2 : Int32) (l3 : Int32) (m : yM) (Q : Option Value → yM → Prop) (H : (yC (xg xs) d 175 [.int l1, .int l3, .int l2] m (fun v1 m1 => ∃ u1, v1 = some (Value.int u1) ∧ (yC (xg xs) d 246 [.ref 52, .int u1] m1 (fun v2 m2 => v2 = none ∧ Q (some (.int (0 : Int32))) m2))))) : yP (xg xs) (d + 1) 252 51 [(0, .ref 52), (1, .int l1), (2, .int l2), (3, .int l3)] [] m Q := by
  refine y_st rfl rfl rfl rfl rfl (fun _ _ => rfl) ?_
  refine y_st rfl rfl rfl rfl rfl (fun _ _ => rfl) ?_
  refine y_st rfl rfl rfl rfl rfl (fun _ _ => rfl) ?_
  refine y_st rfl rfl rfl rfl rfl (fun _ _ => rfl) ?_
  show yP (xg xs) (d + 1) 252 55 [(0, .ref 52), (1, .int l1), (2, .int l2), (3, .int l3)] [.int l2, .int l3, .int l1, .ref 52] m Q
  refine y_call rfl rfl rfl rfl rfl (Nat.le_of_ble_eq_true rfl) (Nat.le_of_ble_eq_true rfl) rfl (by decide) H (fun v1 m1 H => ?_)
  obtain ⟨u1, rfl, H⟩ := H
  show yP (xg xs) (d + 1) 252 58 [(0, .ref 52), (1, .int l1), (2, .int l2), (3, .int l3)] [.int u1, .ref 52] m1 Q
  refine y_call rfl rfl rfl rfl rfl (Nat.le_of_ble_eq_true rfl) (Nat.le_of_ble_eq_true rfl) rfl (by decide) H (fun v2 m2 H => ?_)
  obtain ⟨rfl, H⟩ := H
  refine y_st rfl rfl rfl rfl rfl (fun _ _ => rfl) ?_
  show yP (xg xs) (d + 1) 252 62 [(0, .ref 52), (1, .int l1), (2, .int l2), (3, .int l3)] [.int (0 : Int32)] m2 Q
  exact y_iret rfl rfl rfl H
set_option maxRecDepth 20000 in
/-- CodeMaker.Machine.choose from 0 on -/
theorem w253_0 (xs : List Int32) (d : Nat) (m : yM) (Q : Option Value → yM → Prop) (H : (yC (xg xs) d 248 [.ref 52] m (fun v1 m1 => ∃ u1, v1 = some (Value.int u1) ∧ (yC (xg xs) d 248 [.ref 52] m1 (fun v2 m2 => ∃ u2, v2 = some (Value.int u2) ∧ (yC (xg xs) d 248 [.ref 52] m2 (fun v3 m3 => ∃ u3, v3 = some (Value.int u3) ∧ ((u3 = 0 → yP (xg xs) (d + 1) 253 23 [] [.int u2, .ref 52] m3 Q) ∧ (¬ u3 = 0 → yP (xg xs) (d + 1) 253 23 [] [.int u1, .ref 52] m3 Q))))))))) : yP (xg xs) (d + 1) 253 0 [(0, .ref 52)] [] m Q := by
  refine y_st rfl rfl rfl rfl rfl (fun _ _ => rfl) ?_
  show yP (xg xs) (d + 1) 253 1 [(0, .ref 52)] [.ref 52] m Q
  refine y_call rfl rfl rfl rfl rfl (Nat.le_of_ble_eq_true rfl) (Nat.le_of_ble_eq_true rfl) rfl (by decide) H (fun v1 m1 H => ?_)
  obtain ⟨u1, rfl, H⟩ := H
  refine y_st rfl rfl rfl rfl rfl (fun _ _ => rfl) ?_
  refine y_st rfl rfl rfl rfl rfl (fun _ _ => rfl) ?_
  show yP (xg xs) (d + 1) 253 6 [(1, .int u1), (0, .ref 52)] [.ref 52] m1 Q
  refine y_call rfl rfl rfl rfl rfl (Nat.le_of_ble_eq_true rfl) (Nat.le_of_ble_eq_true rfl) rfl (by decide) H (fun v2 m2 H => ?_)
  obtain ⟨u2, rfl, H⟩ := H
  refine y_st rfl rfl rfl rfl rfl (fun _ _ => rfl) ?_
  refine y_st rfl rfl rfl rfl rfl (fun _ _ => rfl) ?_
  refine y_st rfl rfl rfl rfl rfl (fun _ _ => rfl) ?_
  show yP (xg xs) (d + 1) 253 12 [(2, .int u2), (1, .int u1), (0, .ref 52)] [.ref 52, .ref 52] m2 Q
  refine y_call rfl rfl rfl rfl rfl (Nat.le_of_ble_eq_true rfl) (Nat.le_of_ble_eq_true rfl) rfl (by decide) H (fun v3 m3 H => ?_)
  obtain ⟨u3, rfl, H⟩ := H
  show yP (xg xs) (d + 1) 253 15 [(2, .int u2), (1, .int u1), (0, .ref 52)] [.int u3, .ref 52] m3 Q
  refine y_zeq (t := 22) rfl rfl rfl (fun h => ?_) (fun h => ?_)
  · replace H := H.1 h; clear h
    refine y_st rfl rfl rfl rfl rfl (fun _ _ => rfl) ?_
    show yP (xg xs) (d + 1) 253 23 [(2, .int u2), (1, .int u1), (0, .ref 52)] [.int u2, .ref 52] m3 Q
    refine y_headS (l2 := []) [] [] [2, 1, 0] rfl rfl (by decide) rfl (by decide) ?_
    exact H
  · replace H := H.2 h; clear h
    refine y_st rfl rfl rfl rfl rfl (fun _ _ => rfl) ?_
    refine y_st rfl rfl rfl rfl rfl (fun _ _ => rfl) ?_
    show yP (xg xs) (d + 1) 253 23 [(2, .int u2), (1, .int u1), (0, .ref 52)] [.int u1, .ref 52] m3 Q
    refine y_headS (l2 := []) [] [] [2, 1, 0] rfl rfl (by decide) rfl (by decide) ?_
    exact H
set_option maxRecDepth 20000 in
/-- CodeMaker.Machine.choose from 23 on -/
theorem w253_23 (xs : List Int32) (d : Nat) (s1 : Int32) (m : yM) (Q : Option Value → yM → Prop) (H : (yC (xg xs) d 246 [.ref 52, .int s1] m (fun v1 m1 => v1 = none ∧ Q none m1))) : yP (xg xs) (d + 1) 253 23 [] [.int s1, .ref 52] m Q := by
  show yP (xg xs) (d + 1) 253 23 [] [.int s1, .ref 52] m Q
  refine y_call rfl rfl rfl rfl rfl (Nat.le_of_ble_eq_true rfl) (Nat.le_of_ble_eq_true rfl) rfl (by decide) H (fun v1 m1 H => ?_)
  obtain ⟨rfl, H⟩ := H
  show yP (xg xs) (d + 1) 253 26 [] [] m1 Q
  exact y_ret rfl rfl rfl rfl H
set_option maxRecDepth 20000 in
/-- CodeMaker.Machine.move from 0 on -/
theorem w262_0 (xs : List Int32) (d : Nat) (l1 : Int32) (l2 : Int32) (l3 : Int32) (m : yM) (Q : Option Value → yM → Prop) (H : ((l1 = (10 : Int32) → Q none (y_si m 52 12 l2)) ∧ (l1 = (11 : Int32) → (yC (xg xs) d 248 [.ref 52] m (fun v1 m1 => ∃ u1, v1 = some (Value.int u1) ∧ ((¬ u1 = 0 → Q none m1) ∧ (u1 = 0 → Q none (y_si m1 52 12 l2)))))) ∧ (l1 = (12 : Int32) → (yC (xg xs) d 234 [.ref 52, .int ((m.1 52 13) + l2), .int l3] m (fun v2 m2 => v2 = none ∧ Q none m2))) ∧ (l1 = (13 : Int32) → (yC (xg xs) d 247 [.ref 52, .int ((m.1 52 13) + l2)] m (fun v3 m3 => ∃ u3, v3 = some (Value.int u3) ∧ ((¬ u3 = 0 → (yC (xg xs) d 247 [.ref 52, .int ((m3.1 52 13) + l2)] m3 (fun v4 m4 => ∃ u4, v4 = some (Value.int u4) ∧ (yC (xg xs) d 234 [.ref 52, .int ((m3.1 52 13) + l2), .int (u4 - (1 : Int32))] m4 (fun v5 m5 => v5 = none ∧ Q none m5))))) ∧ (u3 = 0 → Q none (y_si m3 52 12 l3)))))) ∧ (l1 = (14 : Int32) → Q none (y_si m 52 12 l2)) ∧ (l1 = (15 : Int32) → (yC (xg xs) d 263 [.ref 52, .int l2, .int ((m.1 52 13) + l3)] m (fun v6 m6 => v6 = none ∧ Q none m6))) ∧ (l1 = (16 : Int32) → (x_in l2 512 = true ∧ (yC (xg xs) d 263 [.ref 52, .int l2, .int (m.1 27 l2.toNatClampNeg)] m (fun v7 m7 => v7 = none ∧ Q none m7)))) ∧ (¬ l1 = (10 : Int32) → ¬ l1 = (11 : Int32) → ¬ l1 = (12 : Int32) → ¬ l1 = (13 : Int32) → ¬ l1 = (14 : Int32) → ¬ l1 = (15 : Int32) → ¬ l1 = (16 : Int32) → (yC (xg xs) d 220 [.ref 35, .int (m.1 52 11)] m (fun v8 m8 => ∃ u8, v8 = some (Value.int u8) ∧ Q none (y_si m8 52 12 u8)))))) : yP (xg xs) (d + 1) 262 0 [(0, .ref 52), (1, .int l1), (2, .int l2), (3, .int l3)] [] m Q := by
  refine y_st rfl rfl rfl rfl rfl (fun _ _ => rfl) ?_
  show yP (xg xs) (d + 1) 262 1 [(0, .ref 52), (1, .int l1), (2, .int l2), (3, .int l3)] [.int l1] m Q
  by_cases h10 : l1 = (10 : Int32)
  · replace H := H.1 h10
    refine y_tsw (t := 44) rfl rfl (by rw [h10]; rfl) ?_
    clear h10
    refine y_st rfl rfl rfl rfl rfl (fun _ _ => rfl) ?_
    refine y_st rfl rfl rfl rfl rfl (fun _ _ => rfl) ?_
    refine y_pfi rfl rfl rfl rfl rfl (x_fit_i _) ?_
    show yP (xg xs) (d + 1) 262 49 [(0, .ref 52), (1, .int l1), (2, .int l2), (3, .int l3)] [] (y_si m 52 12 l2) Q
    refine y_st rfl rfl rfl rfl rfl (fun _ _ => rfl) ?_
    show yP (xg xs) (d + 1) 262 173 [(0, .ref 52), (1, .int l1), (2, .int l2), (3, .int l3)] [] (y_si m 52 12 l2) Q
    exact y_ret rfl rfl rfl rfl H
  replace H := H.2
  by_cases h11 : l1 = (11 : Int32)
  · replace H := H.1 h11
    refine y_tsw (t := 52) rfl rfl (by rw [h11]; rfl) ?_
    clear h11 h10
    refine y_st rfl rfl rfl rfl rfl (fun _ _ => rfl) ?_
    show yP (xg xs) (d + 1) 262 53 [(0, .ref 52), (1, .int l1), (2, .int l2), (3, .int l3)] [.ref 52] m Q
    refine y_call rfl rfl rfl rfl rfl (Nat.le_of_ble_eq_true rfl) (Nat.le_of_ble_eq_true rfl) rfl (by decide) H (fun v1 m1 H => ?_)
    obtain ⟨u1, rfl, H⟩ := H
    show yP (xg xs) (d + 1) 262 56 [(0, .ref 52), (1, .int l1), (2, .int l2), (3, .int l3)] [.int u1] m1 Q
    refine y_zne (t := 173) rfl rfl rfl (fun h => ?_) (fun h => ?_)
    · replace H := H.1 h; clear h
      show yP (xg xs) (d + 1) 262 173 [(0, .ref 52), (1, .int l1), (2, .int l2), (3, .int l3)] [] m1 Q
      exact y_ret rfl rfl rfl rfl H
    · replace H := H.2 h; clear h
      refine y_st rfl rfl rfl rfl rfl (fun _ _ => rfl) ?_
      refine y_st rfl rfl rfl rfl rfl (fun _ _ => rfl) ?_
      refine y_pfi rfl rfl rfl rfl rfl (x_fit_i _) ?_
      show yP (xg xs) (d + 1) 262 64 [(0, .ref 52), (1, .int l1), (2, .int l2), (3, .int l3)] [] (y_si m1 52 12 l2) Q
      refine y_st rfl rfl rfl rfl rfl (fun _ _ => rfl) ?_
      show yP (xg xs) (d + 1) 262 173 [(0, .ref 52), (1, .int l1), (2, .int l2), (3, .int l3)] [] (y_si m1 52 12 l2) Q
      exact y_ret rfl rfl rfl rfl H
  replace H := H.2
  by_cases h12 : l1 = (12 : Int32)
  · replace H := H.1 h12
    refine y_tsw (t := 67) rfl rfl (by rw [h12]; rfl) ?_
    clear h12 h11 h10
    refine y_st rfl rfl rfl rfl rfl (fun _ _ => rfl) ?_
    refine y_st rfl rfl rfl rfl rfl (fun _ _ => rfl) ?_
    refine y_gf rfl rfl rfl rfl rfl ?_
    refine y_st rfl rfl rfl rfl rfl (fun _ _ => rfl) ?_
    refine y_st rfl rfl rfl rfl rfl (fun _ _ => rfl) ?_
    refine y_st rfl rfl rfl rfl rfl (fun _ _ => rfl) ?_
    show yP (xg xs) (d + 1) 262 75 [(0, .ref 52), (1, .int l1), (2, .int l2), (3, .int l3)] [.int l3, .int ((m.1 52 13) + l2), .ref 52] m Q
    refine y_call rfl rfl rfl rfl rfl (Nat.le_of_ble_eq_true rfl) (Nat.le_of_ble_eq_true rfl) rfl (by decide) H (fun v2 m2 H => ?_)
    obtain ⟨rfl, H⟩ := H
    refine y_st rfl rfl rfl rfl rfl (fun _ _ => rfl) ?_
    show yP (xg xs) (d + 1) 262 173 [(0, .ref 52), (1, .int l1), (2, .int l2), (3, .int l3)] [] m2 Q
    exact y_ret rfl rfl rfl rfl H
  replace H := H.2
  by_cases h13 : l1 = (13 : Int32)
  · replace H := H.1 h13
    refine y_tsw (t := 81) rfl rfl (by rw [h13]; rfl) ?_
    clear h13 h12 h11 h10
    refine y_st rfl rfl rfl rfl rfl (fun _ _ => rfl) ?_
    refine y_st rfl rfl rfl rfl rfl (fun _ _ => rfl) ?_
    refine y_gf rfl rfl rfl rfl rfl ?_
    refine y_st rfl rfl rfl rfl rfl (fun _ _ => rfl) ?_
    refine y_st rfl rfl rfl rfl rfl (fun _ _ => rfl) ?_
    show yP (xg xs) (d + 1) 262 88 [(0, .ref 52), (1, .int l1), (2, .int l2), (3, .int l3)] [.int ((m.1 52 13) + l2), .ref 52] m Q
    refine y_call rfl rfl rfl rfl rfl (Nat.le_of_ble_eq_true rfl) (Nat.le_of_ble_eq_true rfl) rfl (by decide) H (fun v3 m3 H => ?_)
    obtain ⟨u3, rfl, H⟩ := H
    show yP (xg xs) (d + 1) 262 91 [(0, .ref 52), (1, .int l1), (2, .int l2), (3, .int l3)] [.int u3] m3 Q
    refine y_zne (t := 102) rfl rfl rfl (fun h => ?_) (fun h => ?_)
    · replace H := H.1 h; clear h
      refine y_st rfl rfl rfl rfl rfl (fun _ _ => rfl) ?_
      refine y_st rfl rfl rfl rfl rfl (fun _ _ => rfl) ?_
      refine y_gf rfl rfl rfl rfl rfl ?_
      refine y_st rfl rfl rfl rfl rfl (fun _ _ => rfl) ?_
      refine y_st rfl rfl rfl rfl rfl (fun _ _ => rfl) ?_
      refine y_st rfl rfl rfl rfl rfl (fun _ _ => rfl) ?_
      refine y_st rfl rfl rfl rfl rfl (fun _ _ => rfl) ?_
      refine y_gf rfl rfl rfl rfl rfl ?_
      refine y_st rfl rfl rfl rfl rfl (fun _ _ => rfl) ?_
      refine y_st rfl rfl rfl rfl rfl (fun _ _ => rfl) ?_
      show yP (xg xs) (d + 1) 262 116 [(0, .ref 52), (1, .int l1), (2, .int l2), (3, .int l3)] [.int ((m3.1 52 13) + l2), .ref 52, .int ((m3.1 52 13) + l2), .ref 52] m3 Q
      refine y_call rfl rfl rfl rfl rfl (Nat.le_of_ble_eq_true rfl) (Nat.le_of_ble_eq_true rfl) rfl (by decide) H (fun v4 m4 H => ?_)
      obtain ⟨u4, rfl, H⟩ := H
      refine y_st rfl rfl rfl rfl rfl (fun _ _ => rfl) ?_
      refine y_st rfl rfl rfl rfl rfl (fun _ _ => rfl) ?_
      show yP (xg xs) (d + 1) 262 121 [(0, .ref 52), (1, .int l1), (2, .int l2), (3, .int l3)] [.int (u4 - (1 : Int32)), .int ((m3.1 52 13) + l2), .ref 52] m4 Q
      refine y_call rfl rfl rfl rfl rfl (Nat.le_of_ble_eq_true rfl) (Nat.le_of_ble_eq_true rfl) rfl (by decide) H (fun v5 m5 H => ?_)
      obtain ⟨rfl, H⟩ := H
      refine y_st rfl rfl rfl rfl rfl (fun _ _ => rfl) ?_
      show yP (xg xs) (d + 1) 262 173 [(0, .ref 52), (1, .int l1), (2, .int l2), (3, .int l3)] [] m5 Q
      exact y_ret rfl rfl rfl rfl H
    · replace H := H.2 h; clear h
      refine y_st rfl rfl rfl rfl rfl (fun _ _ => rfl) ?_
      refine y_st rfl rfl rfl rfl rfl (fun _ _ => rfl) ?_
      refine y_pfi rfl rfl rfl rfl rfl (x_fit_i _) ?_
      show yP (xg xs) (d + 1) 262 99 [(0, .ref 52), (1, .int l1), (2, .int l2), (3, .int l3)] [] (y_si m3 52 12 l3) Q
      refine y_st rfl rfl rfl rfl rfl (fun _ _ => rfl) ?_
      show yP (xg xs) (d + 1) 262 173 [(0, .ref 52), (1, .int l1), (2, .int l2), (3, .int l3)] [] (y_si m3 52 12 l3) Q
      exact y_ret rfl rfl rfl rfl H
  replace H := H.2
  by_cases h14 : l1 = (14 : Int32)
  · replace H := H.1 h14
    refine y_tsw (t := 44) rfl rfl (by rw [h14]; rfl) ?_
    clear h14 h13 h12 h11 h10
    refine y_st rfl rfl rfl rfl rfl (fun _ _ => rfl) ?_
    refine y_st rfl rfl rfl rfl rfl (fun _ _ => rfl) ?_
    refine y_pfi rfl rfl rfl rfl rfl (x_fit_i _) ?_
    show yP (xg xs) (d + 1) 262 49 [(0, .ref 52), (1, .int l1), (2, .int l2), (3, .int l3)] [] (y_si m 52 12 l2) Q
    refine y_st rfl rfl rfl rfl rfl (fun _ _ => rfl) ?_
    show yP (xg xs) (d + 1) 262 173 [(0, .ref 52), (1, .int l1), (2, .int l2), (3, .int l3)] [] (y_si m 52 12 l2) Q
    exact y_ret rfl rfl rfl rfl H
  replace H := H.2
  by_cases h15 : l1 = (15 : Int32)
  · replace H := H.1 h15
    refine y_tsw (t := 127) rfl rfl (by rw [h15]; rfl) ?_
    clear h15 h14 h13 h12 h11 h10
    refine y_st rfl rfl rfl rfl rfl (fun _ _ => rfl) ?_
    refine y_st rfl rfl rfl rfl rfl (fun _ _ => rfl) ?_
    refine y_st rfl rfl rfl rfl rfl (fun _ _ => rfl) ?_
    refine y_gf rfl rfl rfl rfl rfl ?_
    refine y_st rfl rfl rfl rfl rfl (fun _ _ => rfl) ?_
    refine y_st rfl rfl rfl rfl rfl (fun _ _ => rfl) ?_
    show yP (xg xs) (d + 1) 262 135 [(0, .ref 52), (1, .int l1), (2, .int l2), (3, .int l3)] [.int ((m.1 52 13) + l3), .int l2, .ref 52] m Q
    refine y_call rfl rfl rfl rfl rfl (Nat.le_of_ble_eq_true rfl) (Nat.le_of_ble_eq_true rfl) rfl (by decide) H (fun v6 m6 H => ?_)
    obtain ⟨rfl, H⟩ := H
    refine y_st rfl rfl rfl rfl rfl (fun _ _ => rfl) ?_
    show yP (xg xs) (d + 1) 262 173 [(0, .ref 52), (1, .int l1), (2, .int l2), (3, .int l3)] [] m6 Q
    exact y_ret rfl rfl rfl rfl H
  replace H := H.2
  by_cases h16 : l1 = (16 : Int32)
  · replace H := H.1 h16
    refine y_tsw (t := 141) rfl rfl (by rw [h16]; rfl) ?_
    clear h16 h15 h14 h13 h12 h11 h10
    refine y_st rfl rfl rfl rfl rfl (fun _ _ => rfl) ?_
    refine y_st rfl rfl rfl rfl rfl (fun _ _ => rfl) ?_
    refine y_st rfl rfl rfl rfl rfl (fun _ _ => rfl) ?_
    refine y_gf rfl rfl rfl rfl rfl ?_
    refine y_gf rfl rfl rfl rfl rfl ?_
    refine y_st rfl rfl rfl rfl rfl (fun _ _ => rfl) ?_
    show yP (xg xs) (d + 1) 262 151 [(0, .ref 52), (1, .int l1), (2, .int l2), (3, .int l3)] [.int l2, .ref 27, .int l2, .ref 52] m Q
    refine y_iald rfl rfl rfl (H.1) ?_
    replace H := H.2
    show yP (xg xs) (d + 1) 262 152 [(0, .ref 52), (1, .int l1), (2, .int l2), (3, .int l3)] [.int (m.1 27 l2.toNatClampNeg), .int l2, .ref 52] m Q
    refine y_call rfl rfl rfl rfl rfl (Nat.le_of_ble_eq_true rfl) (Nat.le_of_ble_eq_true rfl) rfl (by decide) H (fun v7 m7 H => ?_)
    obtain ⟨rfl, H⟩ := H
    refine y_st rfl rfl rfl rfl rfl (fun _ _ => rfl) ?_
    show yP (xg xs) (d + 1) 262 173 [(0, .ref 52), (1, .int l1), (2, .int l2), (3, .int l3)] [] m7 Q
    exact y_ret rfl rfl rfl rfl H
  replace H := H.2
  refine y_tsw (t := 158) rfl rfl ((if_pos (by have g0 := ne_lit (10 : Int32) 10 rfl h10; have g1 := ne_lit (11 : Int32) 11 rfl h11; have g2 := ne_lit (12 : Int32) 12 rfl h12; have g3 := ne_lit (13 : Int32) 13 rfl h13; have g4 := ne_lit (14 : Int32) 14 rfl h14; have g5 := ne_lit (15 : Int32) 15 rfl h15; have g6 := ne_lit (16 : Int32) 16 rfl h16; omega)).trans rfl) ?_
  replace H := H h10 h11 h12 h13 h14 h15 h16
  clear h16 h15 h14 h13 h12 h11 h10
  refine y_st rfl rfl rfl rfl rfl (fun _ _ => rfl) ?_
  refine y_st rfl rfl rfl rfl rfl (fun _ _ => rfl) ?_
  refine y_gf rfl rfl rfl rfl rfl ?_
  refine y_st rfl rfl rfl rfl rfl (fun _ _ => rfl) ?_
  refine y_gf rfl rfl rfl rfl rfl ?_
  show yP (xg xs) (d + 1) 262 167 [(0, .ref 52), (1, .int l1), (2, .int l2), (3, .int l3)] [.int (m.1 52 11), .ref 35, .ref 52] m Q
  refine y_call rfl rfl rfl rfl rfl (Nat.le_of_ble_eq_true rfl) (Nat.le_of_ble_eq_true rfl) rfl (by decide) H (fun v8 m8 H => ?_)
  obtain ⟨u8, rfl, H⟩ := H
  refine y_pfi rfl rfl rfl rfl rfl (x_fit_i _) ?_
  show yP (xg xs) (d + 1) 262 173 [(0, .ref 52), (1, .int l1), (2, .int l2), (3, .int l3)] [] (y_si m8 52 12 u8) Q
  show yP (xg xs) (d + 1) 262 173 [(0, .ref 52), (1, .int l1), (2, .int l2), (3, .int l3)] [] (y_si m8 52 12 u8) Q
  exact y_ret rfl rfl rfl rfl H
set_option maxRecDepth 20000 in
/-- CodeMaker.Machine.enter from 0 on -/
theorem w263_0 (xs : List Int32) (d : Nat) (l1 : Int32) (l2 : Int32) (m : yM) (Q : Option Value → yM → Prop) (H : (((16 : Int32) ≤ (m.1 52 10) → Q none m) ∧ (¬ (16 : Int32) ≤ (m.1 52 10) → (x_in (m.1 52 10) 17 = true ∧ (x_in (m.1 52 10) 17 = true ∧ (x_in (m.1 52 10) 17 = true ∧ Q none (y_si (y_si (y_si (y_si (y_si (y_si (y_si m 55 ((m.1 52 10).toNatClampNeg) (m.1 52 11)) 56 ((m.1 52 10).toNatClampNeg) (m.1 52 12)) 57 ((m.1 52 10).toNatClampNeg) (m.1 52 13)) 52 10 ((m.1 52 10) + (1 : Int32))) 52 11 l1) 52 12 (0 : Int32)) 52 13 l2))))))) : yP (xg xs) (d + 1) 263 0 [(0, .ref 52), (1, .int l1), (2, .int l2)] [] m Q := by
  refine y_st rfl rfl rfl rfl rfl (fun _ _ => rfl) ?_
  refine y_gf rfl rfl rfl rfl rfl ?_
  refine y_st rfl rfl rfl rfl rfl (fun _ _ => rfl) ?_
  show yP (xg xs) (d + 1) 263 6 [(0, .ref 52), (1, .int l1), (2, .int l2)] [.int (16 : Int32), .int (m.1 52 10)] m Q
  refine y_ige (t := 73) rfl rfl rfl (fun h => ?_) (fun h => ?_)
  · replace H := H.1 h; clear h
    show yP (xg xs) (d + 1) 263 73 [(0, .ref 52), (1, .int l1), (2, .int l2)] [] m Q
    exact y_ret rfl rfl rfl rfl H
  · replace H := H.2 h; clear h
    refine y_st rfl rfl rfl rfl rfl (fun _ _ => rfl) ?_
    refine y_gf rfl rfl rfl rfl rfl ?_
    refine y_st rfl rfl rfl rfl rfl (fun _ _ => rfl) ?_
    refine y_gf rfl rfl rfl rfl rfl ?_
    refine y_st rfl rfl rfl rfl rfl (fun _ _ => rfl) ?_
    refine y_gf rfl rfl rfl rfl rfl ?_
    show yP (xg xs) (d + 1) 263 21 [(0, .ref 52), (1, .int l1), (2, .int l2)] [.int (m.1 52 11), .int (m.1 52 10), .ref 55] m Q
    refine y_iast rfl rfl rfl (H.1) ?_
    replace H := H.2
    refine y_st rfl rfl rfl rfl rfl (fun _ _ => rfl) ?_
    refine y_gf rfl rfl rfl rfl rfl ?_
    refine y_st rfl rfl rfl rfl rfl (fun _ _ => rfl) ?_
    refine y_gf rfl rfl rfl rfl rfl ?_
    refine y_st rfl rfl rfl rfl rfl (fun _ _ => rfl) ?_
    refine y_gf rfl rfl rfl rfl rfl ?_
    show yP (xg xs) (d + 1) 263 34 [(0, .ref 52), (1, .int l1), (2, .int l2)] [.int (m.1 52 12), .int (m.1 52 10), .ref 56] (y_si m 55 ((m.1 52 10).toNatClampNeg) (m.1 52 11)) Q
    refine y_iast rfl rfl rfl (H.1) ?_
    replace H := H.2
    refine y_st rfl rfl rfl rfl rfl (fun _ _ => rfl) ?_
    refine y_gf rfl rfl rfl rfl rfl ?_
    refine y_st rfl rfl rfl rfl rfl (fun _ _ => rfl) ?_
    refine y_gf rfl rfl rfl rfl rfl ?_
    refine y_st rfl rfl rfl rfl rfl (fun _ _ => rfl) ?_
    refine y_gf rfl rfl rfl rfl rfl ?_
    show yP (xg xs) (d + 1) 263 47 [(0, .ref 52), (1, .int l1), (2, .int l2)] [.int (m.1 52 13), .int (m.1 52 10), .ref 57] (y_si (y_si m 55 ((m.1 52 10).toNatClampNeg) (m.1 52 11)) 56 ((m.1 52 10).toNatClampNeg) (m.1 52 12)) Q
    refine y_iast rfl rfl rfl (H.1) ?_
    replace H := H.2
    refine y_st rfl rfl rfl rfl rfl (fun _ _ => rfl) ?_
    refine y_st rfl rfl rfl rfl rfl (fun _ _ => rfl) ?_
    refine y_gf rfl rfl rfl rfl rfl ?_
    refine y_st rfl rfl rfl rfl rfl (fun _ _ => rfl) ?_
    refine y_st rfl rfl rfl rfl rfl (fun _ _ => rfl) ?_
    refine y_pfi rfl rfl rfl rfl rfl (x_fit_i _) ?_
    show yP (xg xs) (d + 1) 263 58 [(0, .ref 52), (1, .int l1), (2, .int l2)] [] (y_si (y_si (y_si (y_si m 55 ((m.1 52 10).toNatClampNeg) (m.1 52 11)) 56 ((m.1 52 10).toNatClampNeg) (m.1 52 12)) 57 ((m.1 52 10).toNatClampNeg) (m.1 52 13)) 52 10 ((m.1 52 10) + (1 : Int32))) Q
    refine y_st rfl rfl rfl rfl rfl (fun _ _ => rfl) ?_
    refine y_st rfl rfl rfl rfl rfl (fun _ _ => rfl) ?_
    refine y_pfi rfl rfl rfl rfl rfl (x_fit_i _) ?_
    show yP (xg xs) (d + 1) 263 63 [(0, .ref 52), (1, .int l1), (2, .int l2)] [] (y_si (y_si (y_si (y_si (y_si m 55 ((m.1 52 10).toNatClampNeg) (m.1 52 11)) 56 ((m.1 52 10).toNatClampNeg) (m.1 52 12)) 57 ((m.1 52 10).toNatClampNeg) (m.1 52 13)) 52 10 ((m.1 52 10) + (1 : Int32))) 52 11 l1) Q
    refine y_st rfl rfl rfl rfl rfl (fun _ _ => rfl) ?_
    refine y_st rfl rfl rfl rfl rfl (fun _ _ => rfl) ?_
    refine y_pfi rfl rfl rfl rfl rfl (x_fit_i _) ?_
    show yP (xg xs) (d + 1) 263 68 [(0, .ref 52), (1, .int l1), (2, .int l2)] [] (y_si (y_si (y_si (y_si (y_si (y_si m 55 ((m.1 52 10).toNatClampNeg) (m.1 52 11)) 56 ((m.1 52 10).toNatClampNeg) (m.1 52 12)) 57 ((m.1 52 10).toNatClampNeg) (m.1 52 13)) 52 10 ((m.1 52 10) + (1 : Int32))) 52 11 l1) 52 12 (0 : Int32)) Q
    refine y_st rfl rfl rfl rfl rfl (fun _ _ => rfl) ?_
    refine y_st rfl rfl rfl rfl rfl (fun _ _ => rfl) ?_
    refine y_pfi rfl rfl rfl rfl rfl (x_fit_i _) ?_
    show yP (xg xs) (d + 1) 263 73 [(0, .ref 52), (1, .int l1), (2, .int l2)] [] (y_si (y_si (y_si (y_si (y_si (y_si (y_si m 55 ((m.1 52 10).toNatClampNeg) (m.1 52 11)) 56 ((m.1 52 10).toNatClampNeg) (m.1 52 12)) 57 ((m.1 52 10).toNatClampNeg) (m.1 52 13)) 52 10 ((m.1 52 10) + (1 : Int32))) 52 11 l1) 52 12 (0 : Int32)) 52 13 l2) Q
    show yP (xg xs) (d + 1) 263 73 [(0, .ref 52), (1, .int l1), (2, .int l2)] [] (y_si (y_si (y_si (y_si (y_si (y_si (y_si m 55 ((m.1 52 10).toNatClampNeg) (m.1 52 11)) 56 ((m.1 52 10).toNatClampNeg) (m.1 52 12)) 57 ((m.1 52 10).toNatClampNeg) (m.1 52 13)) 52 10 ((m.1 52 10) + (1 : Int32))) 52 11 l1) 52 12 (0 : Int32)) 52 13 l2) Q
    exact y_ret rfl rfl rfl rfl H
