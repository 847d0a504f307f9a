/-! WHAT EACH METHOD COMES TO, run, group c: laid by wip/gen/wp82.py -/
set_option maxRecDepth 20000 in
/-- CodeMakerModel.run from 0 on -/
theorem w394_0 (xs : List Int32) (d : Nat) (l1 : Int32) (m : yM) (Q : Option Value → yM → Prop) (H : (((m.1 58 61) = 0 → Q (some (.int ((-1) : Int32))) (y_si m 58 0 (0 : Int32))) ∧ (¬ (m.1 58 61) = 0 → ((l1 < 0 → Q (some (.int ((-1) : Int32))) (y_si m 58 0 (0 : Int32))) ∧ (¬ l1 < 0 → ((l1 ≤ (100000 : Int32) → (x_in ((m.1 58 23) - (1 : Int32)) 400 = true ∧ (((lg_cmp (m.2 94 (((m.1 58 23) - (1 : Int32)).toNatClampNeg)) (50000 : Int64)) ≤ 0 → (yC (xg xs) d 395 [.ref 58, .int ((m.1 58 23) - (1 : Int32)), .int (0 : Int32)] (y_si (y_si (y_si (y_si m 58 0 (0 : Int32)) 58 64 ((m.1 58 64) + l1)) 58 65 (0 : Int32)) 58 67 (0 : Int32)) (fun v1 m1 => ∃ u1, v1 = some (Value.int u1) ∧ ((u1 = 0 → Q (some (.int (m1.1 58 65))) m1) ∧ (¬ u1 = 0 → Q (some (.int u1)) m1))))) ∧ (¬ (lg_cmp (m.2 94 (((m.1 58 23) - (1 : Int32)).toNatClampNeg)) (50000 : Int64)) ≤ 0 → Q (some (.int ((-5) : Int32))) (y_si m 58 0 (0 : Int32)))))) ∧ (¬ l1 ≤ (100000 : Int32) → Q (some (.int ((-1) : Int32))) (y_si m 58 0 (0 : Int32))))))))) : yP (xg xs) (d + 1) 394 0 [(0, .ref 58), (1, .int l1)] [] m Q := by
  refine y_st rfl rfl rfl rfl rfl (fun _ _ => rfl) ?_
  refine y_st rfl rfl rfl rfl rfl (fun _ _ => rfl) ?_
  refine y_pfi rfl rfl rfl rfl rfl (x_fit_i _) ?_
  show yP (xg xs) (d + 1) 394 5 [(0, .ref 58), (1, .int l1)] [] (y_si m 58 0 (0 : Int32)) Q
  refine y_st rfl rfl rfl rfl rfl (fun _ _ => rfl) ?_
  refine y_gf rfl rfl rfl rfl rfl ?_
  show yP (xg xs) (d + 1) 394 9 [(0, .ref 58), (1, .int l1)] [.int (m.1 58 61)] (y_si m 58 0 (0 : Int32)) Q
  refine y_zeq (t := 23) rfl rfl rfl (fun h => ?_) (fun h => ?_)
  · replace H := H.1 h; clear h
    refine y_st rfl rfl rfl rfl rfl (fun _ _ => rfl) ?_
    show yP (xg xs) (d + 1) 394 24 [(0, .ref 58), (1, .int l1)] [.int ((-1) : Int32)] (y_si m 58 0 (0 : Int32)) Q
    exact y_iret rfl rfl rfl H
  · replace H := H.2 h; clear h
    refine y_st rfl rfl rfl rfl rfl (fun _ _ => rfl) ?_
    show yP (xg xs) (d + 1) 394 13 [(0, .ref 58), (1, .int l1)] [.int l1] (y_si m 58 0 (0 : Int32)) Q
    refine y_zlt (t := 23) rfl rfl rfl (fun h => ?_) (fun h => ?_)
    · replace H := H.1 h; clear h
      refine y_st rfl rfl rfl rfl rfl (fun _ _ => rfl) ?_
      show yP (xg xs) (d + 1) 394 24 [(0, .ref 58), (1, .int l1)] [.int ((-1) : Int32)] (y_si m 58 0 (0 : Int32)) Q
      exact y_iret rfl rfl rfl H
    · replace H := H.2 h; clear h
      refine y_st rfl rfl rfl rfl rfl (fun _ _ => rfl) ?_
      refine y_st rfl rfl rfl rfl rfl (fun _ _ => rfl) ?_
      show yP (xg xs) (d + 1) 394 20 [(0, .ref 58), (1, .int l1)] [.int (100000 : Int32), .int l1] (y_si m 58 0 (0 : Int32)) Q
      refine y_ile (t := 25) rfl rfl rfl (fun h => ?_) (fun h => ?_)
      · replace H := H.1 h; clear h
        refine y_st rfl rfl rfl rfl rfl (fun _ _ => rfl) ?_
        refine y_gf rfl rfl rfl rfl rfl ?_
        refine y_st rfl rfl rfl rfl rfl (fun _ _ => rfl) ?_
        refine y_gf rfl rfl rfl rfl rfl ?_
        refine y_st rfl rfl rfl rfl rfl (fun _ _ => rfl) ?_
        refine y_st rfl rfl rfl rfl rfl (fun _ _ => rfl) ?_
        show yP (xg xs) (d + 1) 394 35 [(0, .ref 58), (1, .int l1)] [.int ((m.1 58 23) - (1 : Int32)), .ref 94] (y_si m 58 0 (0 : Int32)) Q
        refine y_lald rfl rfl rfl (H.1) ?_
        replace H := H.2
        refine y_st rfl rfl rfl rfl rfl (fun _ _ => rfl) ?_
        refine y_st rfl rfl rfl rfl rfl (fun _ _ => rfl) ?_
        show yP (xg xs) (d + 1) 394 40 [(0, .ref 58), (1, .int l1)] [.int (lg_cmp (m.2 94 (((m.1 58 23) - (1 : Int32)).toNatClampNeg)) (50000 : Int64))] (y_si m 58 0 (0 : Int32)) Q
        refine y_zle (t := 46) rfl rfl rfl (fun h => ?_) (fun h => ?_)
        · replace H := H.1 h; clear h
          refine y_st rfl rfl rfl rfl rfl (fun _ _ => rfl) ?_
          refine y_st rfl rfl rfl rfl rfl (fun _ _ => rfl) ?_
          refine y_gf rfl rfl rfl rfl rfl ?_
          refine y_st rfl rfl rfl rfl rfl (fun _ _ => rfl) ?_
          refine y_st rfl rfl rfl rfl rfl (fun _ _ => rfl) ?_
          refine y_pfi rfl rfl rfl rfl rfl (x_fit_i _) ?_
          show yP (xg xs) (d + 1) 394 56 [(0, .ref 58), (1, .int l1)] [] (y_si (y_si m 58 0 (0 : Int32)) 58 64 ((m.1 58 64) + l1)) Q
          refine y_st rfl rfl rfl rfl rfl (fun _ _ => rfl) ?_
          refine y_st rfl rfl rfl rfl rfl (fun _ _ => rfl) ?_
          refine y_pfi rfl rfl rfl rfl rfl (x_fit_i _) ?_
          show yP (xg xs) (d + 1) 394 61 [(0, .ref 58), (1, .int l1)] [] (y_si (y_si (y_si m 58 0 (0 : Int32)) 58 64 ((m.1 58 64) + l1)) 58 65 (0 : Int32)) Q
          refine y_st rfl rfl rfl rfl rfl (fun _ _ => rfl) ?_
          refine y_st rfl rfl rfl rfl rfl (fun _ _ => rfl) ?_
          refine y_pfi rfl rfl rfl rfl rfl (x_fit_i _) ?_
          show yP (xg xs) (d + 1) 394 66 [(0, .ref 58), (1, .int l1)] [] (y_si (y_si (y_si (y_si m 58 0 (0 : Int32)) 58 64 ((m.1 58 64) + l1)) 58 65 (0 : Int32)) 58 67 (0 : Int32)) Q
          refine y_st rfl rfl rfl rfl rfl (fun _ _ => rfl) ?_
          refine y_st rfl rfl rfl rfl rfl (fun _ _ => rfl) ?_
          refine y_gf rfl rfl rfl rfl rfl ?_
          refine y_st rfl rfl rfl rfl rfl (fun _ _ => rfl) ?_
          refine y_st rfl rfl rfl rfl rfl (fun _ _ => rfl) ?_
          refine y_st rfl rfl rfl rfl rfl (fun _ _ => rfl) ?_
          show yP (xg xs) (d + 1) 394 74 [(0, .ref 58), (1, .int l1)] [.int (0 : Int32), .int ((m.1 58 23) - (1 : Int32)), .ref 58] (y_si (y_si (y_si (y_si m 58 0 (0 : Int32)) 58 64 ((m.1 58 64) + l1)) 58 65 (0 : Int32)) 58 67 (0 : Int32)) Q
          refine y_call rfl rfl rfl rfl rfl (Nat.le_of_ble_eq_true rfl) (Nat.le_of_ble_eq_true rfl) rfl (by decide) H (fun v1 m1 H => ?_)
          obtain ⟨u1, rfl, H⟩ := H
          refine y_st rfl rfl rfl rfl rfl (fun _ _ => rfl) ?_
          refine y_st rfl rfl rfl rfl rfl (fun _ _ => rfl) ?_
          show yP (xg xs) (d + 1) 394 79 [(2, .int u1), (0, .ref 58), (1, .int l1)] [.int u1] m1 Q
          refine y_zeq (t := 86) rfl rfl rfl (fun h => ?_) (fun h => ?_)
          · replace H := H.1 h; clear h
            refine y_st rfl rfl rfl rfl rfl (fun _ _ => rfl) ?_
            refine y_gf rfl rfl rfl rfl rfl ?_
            show yP (xg xs) (d + 1) 394 90 [(2, .int u1), (0, .ref 58), (1, .int l1)] [.int (m1.1 58 65)] m1 Q
            exact y_iret rfl rfl rfl H
          · replace H := H.2 h; clear h
            refine y_st rfl rfl rfl rfl rfl (fun _ _ => rfl) ?_
            refine y_st rfl rfl rfl rfl rfl (fun _ _ => rfl) ?_
            show yP (xg xs) (d + 1) 394 90 [(2, .int u1), (0, .ref 58), (1, .int l1)] [.int u1] m1 Q
            exact y_iret rfl rfl rfl H
        · replace H := H.2 h; clear h
          refine y_st rfl rfl rfl rfl rfl (fun _ _ => rfl) ?_
          show yP (xg xs) (d + 1) 394 45 [(0, .ref 58), (1, .int l1)] [.int ((-5) : Int32)] (y_si m 58 0 (0 : Int32)) Q
          exact y_iret rfl rfl rfl H
      · replace H := H.2 h; clear h
        refine y_st rfl rfl rfl rfl rfl (fun _ _ => rfl) ?_
        show yP (xg xs) (d + 1) 394 24 [(0, .ref 58), (1, .int l1)] [.int ((-1) : Int32)] (y_si m 58 0 (0 : Int32)) Q
        exact y_iret rfl rfl rfl H
set_option maxRecDepth 20000 in
/-- CodeMakerModel.go from 0 on -/
theorem w395_0 (xs : List Int32) (d : Nat) (l1 : Int32) (l2 : Int32) (m : yM) (Q : Option Value → yM → Prop) (H : (x_in (l1 + (1 : Int32)) 401 = true ∧ (x_in l1 401 = true ∧ yP (xg xs) (d + 1) 395 20 [(0, .ref 58), (1, .int l1), (2, .int l2), (3, .int (m.1 93 ((l1 + (1 : Int32)).toNatClampNeg))), (4, .int (m.1 93 l1.toNatClampNeg)), (5, .int (0 : Int32))] [] m Q))) : yP (xg xs) (d + 1) 395 0 [(0, .ref 58), (1, .int l1), (2, .int l2)] [] m Q := by
  refine y_st rfl rfl rfl rfl rfl (fun _ _ => rfl) ?_
  refine y_gf rfl rfl rfl rfl rfl ?_
  refine y_st rfl rfl rfl rfl rfl (fun _ _ => rfl) ?_
  refine y_st rfl rfl rfl rfl rfl (fun _ _ => rfl) ?_
  refine y_st rfl rfl rfl rfl rfl (fun _ _ => rfl) ?_
  show yP (xg xs) (d + 1) 395 7 [(0, .ref 58), (1, .int l1), (2, .int l2)] [.int (l1 + (1 : Int32)), .ref 93] m Q
  refine y_iald rfl rfl rfl (H.1) ?_
  replace H := H.2
  refine y_st rfl rfl rfl rfl rfl (fun _ _ => rfl) ?_
  refine y_st rfl rfl rfl rfl rfl (fun _ _ => rfl) ?_
  refine y_gf rfl rfl rfl rfl rfl ?_
  refine y_st rfl rfl rfl rfl rfl (fun _ _ => rfl) ?_
  show yP (xg xs) (d + 1) 395 14 [(3, .int (m.1 93 ((l1 + (1 : Int32)).toNatClampNeg))), (0, .ref 58), (1, .int l1), (2, .int l2)] [.int l1, .ref 93] m Q
  refine y_iald rfl rfl rfl (H.1) ?_
  replace H := H.2
  refine y_st rfl rfl rfl rfl rfl (fun _ _ => rfl) ?_
  refine y_st rfl rfl rfl rfl rfl (fun _ _ => rfl) ?_
  refine y_st rfl rfl rfl rfl rfl (fun _ _ => rfl) ?_
  show yP (xg xs) (d + 1) 395 20 [(5, .int (0 : Int32)), (4, .int (m.1 93 l1.toNatClampNeg)), (3, .int (m.1 93 ((l1 + (1 : Int32)).toNatClampNeg))), (0, .ref 58), (1, .int l1), (2, .int l2)] [] m Q
  refine y_headS (l2 := [(0, .ref 58), (1, .int l1), (2, .int l2), (3, .int (m.1 93 ((l1 + (1 : Int32)).toNatClampNeg))), (4, .int (m.1 93 l1.toNatClampNeg)), (5, .int (0 : Int32))]) [3, 4, 5, 2, 1, 0] [0, 1, 2, 3, 4, 5] [5, 4, 3, 0, 1, 2] rfl rfl (by decide) rfl (by decide) ?_
  exact H
set_option maxRecDepth 20000 in
/-- CodeMakerModel.go from 20 on -/
theorem w395_20 (xs : List Int32) (d : Nat) (l1 : Int32) (l2 : Int32) (l3 : Int32) (l4 : Int32) (l5 : Int32) (m : yM) (Q : Option Value → yM → Prop) (H : ((l3 ≤ l4 → Q (some (.int l5)) m) ∧ (¬ l3 ≤ l4 → ((¬ l5 = 0 → Q (some (.int l5)) m) ∧ (l5 = 0 → (x_in l4 3001 = true ∧ (x_in l4 3001 = true ∧ (((m.1 89 l4.toNatClampNeg) = (0 : Int32) → (yC (xg xs) d 396 [.ref 58, .int (m.1 90 l4.toNatClampNeg)] (y_si m 58 65 ((m.1 58 65) + (1 : Int32))) (fun v1 m1 => v1 = none ∧ yP (xg xs) (d + 1) 395 561 [(0, .ref 58), (1, .int l1), (2, .int l2), (3, .int l3), (4, .int (l4 + (1 : Int32))), (5, .int l5)] [] m1 Q))) ∧ ((m.1 89 l4.toNatClampNeg) = (1 : Int32) → (x_in (l2 + (m.1 90 l4.toNatClampNeg)) 8192 = true ∧ (yC (xg xs) d 396 [.ref 58, .int (m.1 98 ((l2 + (m.1 90 l4.toNatClampNeg)).toNatClampNeg))] (y_si m 58 65 ((m.1 58 65) + (1 : Int32))) (fun v2 m2 => v2 = none ∧ yP (xg xs) (d + 1) 395 561 [(0, .ref 58), (1, .int l1), (2, .int l2), (3, .int l3), (4, .int (l4 + (1 : Int32))), (5, .int l5)] [] m2 Q)))) ∧ ((m.1 89 l4.toNatClampNeg) = (2 : Int32) → (yC (xg xs) d 397 [.ref 58] (y_si m 58 65 ((m.1 58 65) + (1 : Int32))) (fun v3 m3 => ∃ u3, v3 = some (Value.int u3) ∧ (x_in (l2 + (m.1 90 l4.toNatClampNeg)) 8192 = true ∧ yP (xg xs) (d + 1) 395 561 [(0, .ref 58), (1, .int l1), (2, .int l2), (3, .int l3), (4, .int (l4 + (1 : Int32))), (5, .int l5)] [] (y_si m3 98 ((l2 + (m.1 90 l4.toNatClampNeg)).toNatClampNeg) u3) Q)))) ∧ ((m.1 89 l4.toNatClampNeg) = (3 : Int32) → (yC (xg xs) d 398 [.ref 58, .int l4, .int l2] (y_si m 58 65 ((m.1 58 65) + (1 : Int32))) (fun v4 m4 => ∃ u4, v4 = some (Value.int u4) ∧ yP (xg xs) (d + 1) 395 561 [(0, .ref 58), (1, .int l1), (2, .int l2), (3, .int l3), (4, .int (l4 + (1 : Int32))), (5, .int u4)] [] m4 Q))) ∧ ((m.1 89 l4.toNatClampNeg) = (4 : Int32) → (yC (xg xs) d 398 [.ref 58, .int l4, .int l2] (y_si m 58 65 ((m.1 58 65) + (1 : Int32))) (fun v5 m5 => ∃ u5, v5 = some (Value.int u5) ∧ yP (xg xs) (d + 1) 395 561 [(0, .ref 58), (1, .int l1), (2, .int l2), (3, .int l3), (4, .int (l4 + (1 : Int32))), (5, .int u5)] [] m5 Q))) ∧ ((m.1 89 l4.toNatClampNeg) = (5 : Int32) → (x_in (m.1 90 l4.toNatClampNeg) 400 = true ∧ (x_in l4 3001 = true ∧ (x_in ((m.1 74 ((m.1 90 l4.toNatClampNeg).toNatClampNeg)) + (m.1 91 l4.toNatClampNeg)) 8192 = true ∧ (yC (xg xs) d 396 [.ref 58, .int (m.1 98 (((m.1 74 ((m.1 90 l4.toNatClampNeg).toNatClampNeg)) + (m.1 91 l4.toNatClampNeg)).toNatClampNeg))] (y_si m 58 65 ((m.1 58 65) + (1 : Int32))) (fun v6 m6 => v6 = none ∧ yP (xg xs) (d + 1) 395 561 [(0, .ref 58), (1, .int l1), (2, .int l2), (3, .int l3), (4, .int (l4 + (1 : Int32))), (5, .int l5)] [] m6 Q)))))) ∧ ((m.1 89 l4.toNatClampNeg) = (6 : Int32) → (x_in (m.1 90 l4.toNatClampNeg) 400 = true ∧ (x_in l4 3001 = true ∧ (yC (xg xs) d 397 [.ref 58] (y_si m 58 65 ((m.1 58 65) + (1 : Int32))) (fun v7 m7 => ∃ u7, v7 = some (Value.int u7) ∧ (x_in ((m.1 74 ((m.1 90 l4.toNatClampNeg).toNatClampNeg)) + (m.1 91 l4.toNatClampNeg)) 8192 = true ∧ yP (xg xs) (d + 1) 395 561 [(0, .ref 58), (1, .int l1), (2, .int l2), (3, .int l3), (4, .int (l4 + (1 : Int32))), (5, .int l5)] [] (y_si m7 98 (((m.1 74 ((m.1 90 l4.toNatClampNeg).toNatClampNeg)) + (m.1 91 l4.toNatClampNeg)).toNatClampNeg) u7) Q)))))) ∧ ((m.1 89 l4.toNatClampNeg) = (7 : Int32) → (yC (xg xs) d 397 [.ref 58] (y_si m 58 65 ((m.1 58 65) + (1 : Int32))) (fun v8 m8 => ∃ u8, v8 = some (Value.int u8) ∧ (yC (xg xs) d 397 [.ref 58] m8 (fun v9 m9 => ∃ u9, v9 = some (Value.int u9) ∧ (((m.1 90 l4.toNatClampNeg) = (3 : Int32) → yP (xg xs) (d + 1) 395 297 [(0, .ref 58), (1, .int l1), (2, .int l2), (3, .int l3), (4, .int (l4 + (1 : Int32))), (7, .int (m.1 90 l4.toNatClampNeg)), (8, .int u8), (9, .int u9)] [] m9 Q) ∧ (¬ (m.1 90 l4.toNatClampNeg) = (3 : Int32) → (((m.1 90 l4.toNatClampNeg) = (4 : Int32) → yP (xg xs) (d + 1) 395 297 [(0, .ref 58), (1, .int l1), (2, .int l2), (3, .int l3), (4, .int (l4 + (1 : Int32))), (7, .int (m.1 90 l4.toNatClampNeg)), (8, .int u8), (9, .int u9)] [] m9 Q) ∧ (¬ (m.1 90 l4.toNatClampNeg) = (4 : Int32) → (((m.1 90 l4.toNatClampNeg) = (8 : Int32) → yP (xg xs) (d + 1) 395 297 [(0, .ref 58), (1, .int l1), (2, .int l2), (3, .int l3), (4, .int (l4 + (1 : Int32))), (7, .int (m.1 90 l4.toNatClampNeg)), (8, .int u8), (9, .int u9)] [] m9 Q) ∧ (¬ (m.1 90 l4.toNatClampNeg) = (8 : Int32) → ((¬ (m.1 90 l4.toNatClampNeg) = (9 : Int32) → yP (xg xs) (d + 1) 395 302 [(0, .ref 58), (1, .int l1), (2, .int l2), (3, .int l3), (4, .int (l4 + (1 : Int32))), (7, .int (m.1 90 l4.toNatClampNeg)), (8, .int u8), (9, .int u9)] [.int (0 : Int32)] m9 Q) ∧ ((m.1 90 l4.toNatClampNeg) = (9 : Int32) → yP (xg xs) (d + 1) 395 297 [(0, .ref 58), (1, .int l1), (2, .int l2), (3, .int l3), (4, .int (l4 + (1 : Int32))), (7, .int (m.1 90 l4.toNatClampNeg)), (8, .int u8), (9, .int u9)] [] m9 Q))))))))))))) ∧ ((m.1 89 l4.toNatClampNeg) = (8 : Int32) → (yC (xg xs) d 397 [.ref 58] (y_si m 58 65 ((m.1 58 65) + (1 : Int32))) (fun v10 m10 => ∃ u10, v10 = some (Value.int u10) ∧ (yC (xg xs) d 361 [.int (m.1 90 l4.toNatClampNeg), .int u10] m10 (fun v11 m11 => ∃ u11, v11 = some (Value.int u11) ∧ (yC (xg xs) d 396 [.ref 58, .int u11] m11 (fun v12 m12 => v12 = none ∧ yP (xg xs) (d + 1) 395 561 [(0, .ref 58), (1, .int l1), (2, .int l2), (3, .int l3), (4, .int (l4 + (1 : Int32))), (5, .int l5)] [] m12 Q))))))) ∧ ((m.1 89 l4.toNatClampNeg) = (9 : Int32) → (yC (xg xs) d 397 [.ref 58] (y_si m 58 65 ((m.1 58 65) + (1 : Int32))) (fun v13 m13 => ∃ u13, v13 = some (Value.int u13) ∧ (yC (xg xs) d 397 [.ref 58] m13 (fun v14 m14 => ∃ u14, v14 = some (Value.int u14) ∧ (yC (xg xs) d 397 [.ref 58] m14 (fun v15 m15 => ∃ u15, v15 = some (Value.int u15) ∧ ((u15 = 0 → yP (xg xs) (d + 1) 395 390 [(0, .ref 58), (1, .int l1), (2, .int l2), (3, .int l3), (4, .int (l4 + (1 : Int32))), (5, .int l5)] [.int u14, .ref 58] m15 Q) ∧ (¬ u15 = 0 → yP (xg xs) (d + 1) 395 390 [(0, .ref 58), (1, .int l1), (2, .int l2), (3, .int l3), (4, .int (l4 + (1 : Int32))), (5, .int l5)] [.int u13, .ref 58] m15 Q))))))))) ∧ ((m.1 89 l4.toNatClampNeg) = (10 : Int32) → (x_in l1 401 = true ∧ yP (xg xs) (d + 1) 395 561 [(0, .ref 58), (1, .int l1), (2, .int l2), (3, .int l3), (4, .int ((m.1 93 l1.toNatClampNeg) + (m.1 90 l4.toNatClampNeg))), (5, .int l5)] [] (y_si m 58 65 ((m.1 58 65) + (1 : Int32))) Q)) ∧ ((m.1 89 l4.toNatClampNeg) = (11 : Int32) → (yC (xg xs) d 397 [.ref 58] (y_si m 58 65 ((m.1 58 65) + (1 : Int32))) (fun v16 m16 => ∃ u16, v16 = some (Value.int u16) ∧ ((¬ u16 = 0 → yP (xg xs) (d + 1) 395 431 [(0, .ref 58), (1, .int l1), (2, .int l2), (3, .int l3), (5, .int l5)] [.int (l4 + (1 : Int32))] m16 Q) ∧ (u16 = 0 → (x_in l1 401 = true ∧ yP (xg xs) (d + 1) 395 431 [(0, .ref 58), (1, .int l1), (2, .int l2), (3, .int l3), (5, .int l5)] [.int ((m16.1 93 l1.toNatClampNeg) + (m.1 90 l4.toNatClampNeg))] m16 Q)))))) ∧ ((m.1 89 l4.toNatClampNeg) = (12 : Int32) → (x_in l4 3001 = true ∧ (x_in (l2 + (m.1 90 l4.toNatClampNeg)) 8192 = true ∧ yP (xg xs) (d + 1) 395 561 [(0, .ref 58), (1, .int l1), (2, .int l2), (3, .int l3), (4, .int (l4 + (1 : Int32))), (5, .int l5)] [] (y_si (y_si m 58 65 ((m.1 58 65) + (1 : Int32))) 98 ((l2 + (m.1 90 l4.toNatClampNeg)).toNatClampNeg) (m.1 91 l4.toNatClampNeg)) Q))) ∧ ((m.1 89 l4.toNatClampNeg) = (13 : Int32) → (x_in (l2 + (m.1 90 l4.toNatClampNeg)) 8192 = true ∧ ((¬ (m.1 98 ((l2 + (m.1 90 l4.toNatClampNeg)).toNatClampNeg)) = 0 → (x_in (l2 + (m.1 90 l4.toNatClampNeg)) 8192 = true ∧ (x_in (l2 + (m.1 90 l4.toNatClampNeg)) 8192 = true ∧ yP (xg xs) (d + 1) 395 561 [(0, .ref 58), (1, .int l1), (2, .int l2), (3, .int l3), (4, .int (l4 + (1 : Int32))), (5, .int l5)] [] (y_si (y_si m 58 65 ((m.1 58 65) + (1 : Int32))) 98 ((l2 + (m.1 90 l4.toNatClampNeg)).toNatClampNeg) ((m.1 98 ((l2 + (m.1 90 l4.toNatClampNeg)).toNatClampNeg)) - (1 : Int32))) Q))) ∧ ((m.1 98 ((l2 + (m.1 90 l4.toNatClampNeg)).toNatClampNeg)) = 0 → (x_in l1 401 = true ∧ (x_in l4 3001 = true ∧ yP (xg xs) (d + 1) 395 561 [(0, .ref 58), (1, .int l1), (2, .int l2), (3, .int l3), (4, .int ((m.1 93 l1.toNatClampNeg) + (m.1 91 l4.toNatClampNeg))), (5, .int l5)] [] (y_si m 58 65 ((m.1 58 65) + (1 : Int32))) Q)))))) ∧ ((m.1 89 l4.toNatClampNeg) = (14 : Int32) → (x_in l1 401 = true ∧ yP (xg xs) (d + 1) 395 561 [(0, .ref 58), (1, .int l1), (2, .int l2), (3, .int l3), (4, .int ((m.1 93 l1.toNatClampNeg) + (m.1 90 l4.toNatClampNeg))), (5, .int l5)] [] (y_si m 58 65 ((m.1 58 65) + (1 : Int32))) Q)) ∧ ((m.1 89 l4.toNatClampNeg) = (15 : Int32) → (x_in l4 3001 = true ∧ (yC (xg xs) d 395 [.ref 58, .int (m.1 90 l4.toNatClampNeg), .int (l2 + (m.1 91 l4.toNatClampNeg))] (y_si m 58 65 ((m.1 58 65) + (1 : Int32))) (fun v17 m17 => ∃ u17, v17 = some (Value.int u17) ∧ yP (xg xs) (d + 1) 395 561 [(0, .ref 58), (1, .int l1), (2, .int l2), (3, .int l3), (4, .int (l4 + (1 : Int32))), (5, .int u17)] [] m17 Q)))) ∧ ((m.1 89 l4.toNatClampNeg) = (16 : Int32) → (x_in (m.1 90 l4.toNatClampNeg) 400 = true ∧ (yC (xg xs) d 395 [.ref 58, .int (m.1 90 l4.toNatClampNeg), .int (m.1 74 ((m.1 90 l4.toNatClampNeg).toNatClampNeg))] (y_si m 58 65 ((m.1 58 65) + (1 : Int32))) (fun v18 m18 => ∃ u18, v18 = some (Value.int u18) ∧ yP (xg xs) (d + 1) 395 561 [(0, .ref 58), (1, .int l1), (2, .int l2), (3, .int l3), (4, .int (l4 + (1 : Int32))), (5, .int u18)] [] m18 Q)))) ∧ ((m.1 89 l4.toNatClampNeg) = (17 : Int32) → (x_in l4 3001 = true ∧ (yC (xg xs) d 399 [.ref 58, .int (m.1 90 l4.toNatClampNeg), .int (l2 + (m.1 91 l4.toNatClampNeg))] (y_si m 58 65 ((m.1 58 65) + (1 : Int32))) (fun v19 m19 => v19 = none ∧ yP (xg xs) (d + 1) 395 561 [(0, .ref 58), (1, .int l1), (2, .int l2), (3, .int l3), (4, .int (l4 + (1 : Int32))), (5, .int l5)] [] m19 Q)))) ∧ (¬ (m.1 89 l4.toNatClampNeg) = (0 : Int32) → ¬ (m.1 89 l4.toNatClampNeg) = (1 : Int32) → ¬ (m.1 89 l4.toNatClampNeg) = (2 : Int32) → ¬ (m.1 89 l4.toNatClampNeg) = (3 : Int32) → ¬ (m.1 89 l4.toNatClampNeg) = (4 : Int32) → ¬ (m.1 89 l4.toNatClampNeg) = (5 : Int32) → ¬ (m.1 89 l4.toNatClampNeg) = (6 : Int32) → ¬ (m.1 89 l4.toNatClampNeg) = (7 : Int32) → ¬ (m.1 89 l4.toNatClampNeg) = (8 : Int32) → ¬ (m.1 89 l4.toNatClampNeg) = (9 : Int32) → ¬ (m.1 89 l4.toNatClampNeg) = (10 : Int32) → ¬ (m.1 89 l4.toNatClampNeg) = (11 : Int32) → ¬ (m.1 89 l4.toNatClampNeg) = (12 : Int32) → ¬ (m.1 89 l4.toNatClampNeg) = (13 : Int32) → ¬ (m.1 89 l4.toNatClampNeg) = (14 : Int32) → ¬ (m.1 89 l4.toNatClampNeg) = (15 : Int32) → ¬ (m.1 89 l4.toNatClampNeg) = (16 : Int32) → ¬ (m.1 89 l4.toNatClampNeg) = (17 : Int32) → yP (xg xs) (d + 1) 395 561 [(0, .ref 58), (1, .int l1), (2, .int l2), (3, .int l3), (4, .int l3), (5, .int l5)] [] (y_si m 58 65 ((m.1 58 65) + (1 : Int32))) Q))))))))) : yP (xg xs) (d + 1) 395 20 [(0, .ref 58), (1, .int l1), (2, .int l2), (3, .int l3), (4, .int l4), (5, .int l5)] [] m Q := by
  refine y_st rfl rfl rfl rfl rfl (fun _ _ => rfl) ?_
  refine y_st rfl rfl rfl rfl rfl (fun _ _ => rfl) ?_
  show yP (xg xs) (d + 1) 395 23 [(0, .ref 58), (1, .int l1), (2, .int l2), (3, .int l3), (4, .int l4), (5, .int l5)] [.int l3, .int l4] m Q
  refine y_ige (t := 564) rfl rfl rfl (fun h => ?_) (fun h => ?_)
  · replace H := H.1 h; clear h
    refine y_st rfl rfl rfl rfl rfl (fun _ _ => rfl) ?_
    show yP (xg xs) (d + 1) 395 566 [(0, .ref 58), (1, .int l1), (2, .int l2), (3, .int l3), (4, .int l4), (5, .int l5)] [.int l5] m Q
    exact y_iret rfl rfl rfl H
  · replace H := H.2 h; clear h
    refine y_st rfl rfl rfl rfl rfl (fun _ _ => rfl) ?_
    show yP (xg xs) (d + 1) 395 28 [(0, .ref 58), (1, .int l1), (2, .int l2), (3, .int l3), (4, .int l4), (5, .int l5)] [.int l5] m Q
    refine y_zne (t := 564) rfl rfl rfl (fun h => ?_) (fun h => ?_)
    · replace H := H.1 h; clear h
      refine y_st rfl rfl rfl rfl rfl (fun _ _ => rfl) ?_
      show yP (xg xs) (d + 1) 395 566 [(0, .ref 58), (1, .int l1), (2, .int l2), (3, .int l3), (4, .int l4), (5, .int l5)] [.int l5] m Q
      exact y_iret rfl rfl rfl H
    · replace H := H.2 h; clear h
      refine y_st rfl rfl rfl rfl rfl (fun _ _ => rfl) ?_
      refine y_st rfl rfl rfl rfl rfl (fun _ _ => rfl) ?_
      refine y_st rfl rfl rfl rfl rfl (fun _ _ => rfl) ?_
      refine y_gf rfl rfl rfl rfl rfl ?_
      refine y_st rfl rfl rfl rfl rfl (fun _ _ => rfl) ?_
      show yP (xg xs) (d + 1) 395 41 [(6, .int l4), (0, .ref 58), (1, .int l1), (2, .int l2), (3, .int l3), (4, .int l4), (5, .int l5)] [.int l4, .ref 90] m Q
      refine y_iald rfl rfl rfl (H.1) ?_
      replace H := H.2
      refine y_st rfl rfl rfl rfl rfl (fun _ _ => rfl) ?_
      refine y_st rfl rfl rfl rfl rfl (fun _ _ => rfl) ?_
      refine y_st rfl rfl rfl rfl rfl (fun _ _ => rfl) ?_
      refine y_gf rfl rfl rfl rfl rfl ?_
      refine y_st rfl rfl rfl rfl rfl (fun _ _ => rfl) ?_
      refine y_st rfl rfl rfl rfl rfl (fun _ _ => rfl) ?_
      refine y_pfi rfl rfl rfl rfl rfl (x_fit_i _) ?_
      show yP (xg xs) (d + 1) 395 54 [(7, .int (m.1 90 l4.toNatClampNeg)), (6, .int l4), (0, .ref 58), (1, .int l1), (2, .int l2), (3, .int l3), (4, .int l4), (5, .int l5)] [] (y_si m 58 65 ((m.1 58 65) + (1 : Int32))) Q
      refine y_st rfl rfl rfl rfl rfl (fun _ _ => rfl) ?_
      refine y_st rfl rfl rfl rfl rfl (fun _ _ => rfl) ?_
      refine y_gf rfl rfl rfl rfl rfl ?_
      refine y_st rfl rfl rfl rfl rfl (fun _ _ => rfl) ?_
      show yP (xg xs) (d + 1) 395 63 [(4, .int (l4 + (1 : Int32))), (7, .int (m.1 90 l4.toNatClampNeg)), (6, .int l4), (0, .ref 58), (1, .int l1), (2, .int l2), (3, .int l3), (5, .int l5)] [.int l4, .ref 89] (y_si m 58 65 ((m.1 58 65) + (1 : Int32))) Q
      refine y_iald rfl rfl rfl (H.1) ?_
      replace H := H.2
      show yP (xg xs) (d + 1) 395 64 [(4, .int (l4 + (1 : Int32))), (7, .int (m.1 90 l4.toNatClampNeg)), (6, .int l4), (0, .ref 58), (1, .int l1), (2, .int l2), (3, .int l3), (5, .int l5)] [.int (m.1 89 l4.toNatClampNeg)] (y_si m 58 65 ((m.1 58 65) + (1 : Int32))) Q
      by_cases h0 : m.1 89 l4.toNatClampNeg = (0 : Int32)
      · replace H := H.1 h0
        refine y_tsw (t := 152) rfl rfl (by rw [h0]; rfl) ?_
        clear h0
        refine y_st rfl rfl rfl rfl rfl (fun _ _ => rfl) ?_
        refine y_st rfl rfl rfl rfl rfl (fun _ _ => rfl) ?_
        show yP (xg xs) (d + 1) 395 155 [(4, .int (l4 + (1 : Int32))), (7, .int (m.1 90 l4.toNatClampNeg)), (6, .int l4), (0, .ref 58), (1, .int l1), (2, .int l2), (3, .int l3), (5, .int l5)] [.int (m.1 90 l4.toNatClampNeg), .ref 58] (y_si m 58 65 ((m.1 58 65) + (1 : Int32))) Q
        refine y_call rfl rfl rfl rfl rfl (Nat.le_of_ble_eq_true rfl) (Nat.le_of_ble_eq_true rfl) rfl (by decide) H (fun v1 m1 H => ?_)
        obtain ⟨rfl, H⟩ := H
        refine y_st rfl rfl rfl rfl rfl (fun _ _ => rfl) ?_
        show yP (xg xs) (d + 1) 395 561 [(4, .int (l4 + (1 : Int32))), (7, .int (m.1 90 l4.toNatClampNeg)), (6, .int l4), (0, .ref 58), (1, .int l1), (2, .int l2), (3, .int l3), (5, .int l5)] [] m1 Q
        refine y_headS (l2 := [(0, .ref 58), (1, .int l1), (2, .int l2), (3, .int l3), (4, .int (l4 + (1 : Int32))), (5, .int l5)]) [3, 4, 5, 6, 0, 7] [0, 1, 2, 3, 4, 5] [4, 7, 6, 0, 1, 2, 3, 5] rfl rfl (by decide) rfl (by decide) ?_
        exact H
      replace H := H.2
      by_cases h1 : m.1 89 l4.toNatClampNeg = (1 : Int32)
      · replace H := H.1 h1
        refine y_tsw (t := 161) rfl rfl (by rw [h1]; rfl) ?_
        clear h1 h0
        refine y_st rfl rfl rfl rfl rfl (fun _ _ => rfl) ?_
        refine y_st rfl rfl rfl rfl rfl (fun _ _ => rfl) ?_
        refine y_gf rfl rfl rfl rfl rfl ?_
        refine y_st rfl rfl rfl rfl rfl (fun _ _ => rfl) ?_
        refine y_st rfl rfl rfl rfl rfl (fun _ _ => rfl) ?_
        refine y_st rfl rfl rfl rfl rfl (fun _ _ => rfl) ?_
        show yP (xg xs) (d + 1) 395 170 [(4, .int (l4 + (1 : Int32))), (7, .int (m.1 90 l4.toNatClampNeg)), (6, .int l4), (0, .ref 58), (1, .int l1), (2, .int l2), (3, .int l3), (5, .int l5)] [.int (l2 + (m.1 90 l4.toNatClampNeg)), .ref 98, .ref 58] (y_si m 58 65 ((m.1 58 65) + (1 : Int32))) Q
        refine y_iald rfl rfl rfl (H.1) ?_
        replace H := H.2
        show yP (xg xs) (d + 1) 395 171 [(4, .int (l4 + (1 : Int32))), (7, .int (m.1 90 l4.toNatClampNeg)), (6, .int l4), (0, .ref 58), (1, .int l1), (2, .int l2), (3, .int l3), (5, .int l5)] [.int (m.1 98 ((l2 + (m.1 90 l4.toNatClampNeg)).toNatClampNeg)), .ref 58] (y_si m 58 65 ((m.1 58 65) + (1 : Int32))) Q
        refine y_call rfl rfl rfl rfl rfl (Nat.le_of_ble_eq_true rfl) (Nat.le_of_ble_eq_true rfl) rfl (by decide) H (fun v2 m2 H => ?_)
        obtain ⟨rfl, H⟩ := H
        refine y_st rfl rfl rfl rfl rfl (fun _ _ => rfl) ?_
        show yP (xg xs) (d + 1) 395 561 [(4, .int (l4 + (1 : Int32))), (7, .int (m.1 90 l4.toNatClampNeg)), (6, .int l4), (0, .ref 58), (1, .int l1), (2, .int l2), (3, .int l3), (5, .int l5)] [] m2 Q
        refine y_headS (l2 := [(0, .ref 58), (1, .int l1), (2, .int l2), (3, .int l3), (4, .int (l4 + (1 : Int32))), (5, .int l5)]) [3, 4, 5, 6, 0, 7] [0, 1, 2, 3, 4, 5] [4, 7, 6, 0, 1, 2, 3, 5] rfl rfl (by decide) rfl (by decide) ?_
        exact H
      replace H := H.2
      by_cases h2 : m.1 89 l4.toNatClampNeg = (2 : Int32)
      · replace H := H.1 h2
        refine y_tsw (t := 177) rfl rfl (by rw [h2]; rfl) ?_
        clear h2 h1 h0
        refine y_st rfl rfl rfl rfl rfl (fun _ _ => rfl) ?_
        refine y_gf rfl rfl rfl rfl rfl ?_
        refine y_st rfl rfl rfl rfl rfl (fun _ _ => rfl) ?_
        refine y_st rfl rfl rfl rfl rfl (fun _ _ => rfl) ?_
        refine y_st rfl rfl rfl rfl rfl (fun _ _ => rfl) ?_
        refine y_st rfl rfl rfl rfl rfl (fun _ _ => rfl) ?_
        show yP (xg xs) (d + 1) 395 186 [(4, .int (l4 + (1 : Int32))), (7, .int (m.1 90 l4.toNatClampNeg)), (6, .int l4), (0, .ref 58), (1, .int l1), (2, .int l2), (3, .int l3), (5, .int l5)] [.ref 58, .int (l2 + (m.1 90 l4.toNatClampNeg)), .ref 98] (y_si m 58 65 ((m.1 58 65) + (1 : Int32))) Q
        refine y_call rfl rfl rfl rfl rfl (Nat.le_of_ble_eq_true rfl) (Nat.le_of_ble_eq_true rfl) rfl (by decide) H (fun v3 m3 H => ?_)
        obtain ⟨u3, rfl, H⟩ := H
        show yP (xg xs) (d + 1) 395 189 [(4, .int (l4 + (1 : Int32))), (7, .int (m.1 90 l4.toNatClampNeg)), (6, .int l4), (0, .ref 58), (1, .int l1), (2, .int l2), (3, .int l3), (5, .int l5)] [.int u3, .int (l2 + (m.1 90 l4.toNatClampNeg)), .ref 98] m3 Q
        refine y_iast rfl rfl rfl (H.1) ?_
        replace H := H.2
        refine y_st rfl rfl rfl rfl rfl (fun _ _ => rfl) ?_
        show yP (xg xs) (d + 1) 395 561 [(4, .int (l4 + (1 : Int32))), (7, .int (m.1 90 l4.toNatClampNeg)), (6, .int l4), (0, .ref 58), (1, .int l1), (2, .int l2), (3, .int l3), (5, .int l5)] [] (y_si m3 98 ((l2 + (m.1 90 l4.toNatClampNeg)).toNatClampNeg) u3) Q
        refine y_headS (l2 := [(0, .ref 58), (1, .int l1), (2, .int l2), (3, .int l3), (4, .int (l4 + (1 : Int32))), (5, .int l5)]) [3, 4, 5, 6, 0, 7] [0, 1, 2, 3, 4, 5] [4, 7, 6, 0, 1, 2, 3, 5] rfl rfl (by decide) rfl (by decide) ?_
        exact H
      replace H := H.2
      by_cases h3 : m.1 89 l4.toNatClampNeg = (3 : Int32)
      · replace H := H.1 h3
        refine y_tsw (t := 193) rfl rfl (by rw [h3]; rfl) ?_
        clear h3 h2 h1 h0
        refine y_st rfl rfl rfl rfl rfl (fun _ _ => rfl) ?_
        refine y_st rfl rfl rfl rfl rfl (fun _ _ => rfl) ?_
        refine y_st rfl rfl rfl rfl rfl (fun _ _ => rfl) ?_
        show yP (xg xs) (d + 1) 395 197 [(4, .int (l4 + (1 : Int32))), (7, .int (m.1 90 l4.toNatClampNeg)), (6, .int l4), (0, .ref 58), (1, .int l1), (2, .int l2), (3, .int l3), (5, .int l5)] [.int l2, .int l4, .ref 58] (y_si m 58 65 ((m.1 58 65) + (1 : Int32))) Q
        refine y_call rfl rfl rfl rfl rfl (Nat.le_of_ble_eq_true rfl) (Nat.le_of_ble_eq_true rfl) rfl (by decide) H (fun v4 m4 H => ?_)
        obtain ⟨u4, rfl, H⟩ := H
        refine y_st rfl rfl rfl rfl rfl (fun _ _ => rfl) ?_
        refine y_st rfl rfl rfl rfl rfl (fun _ _ => rfl) ?_
        show yP (xg xs) (d + 1) 395 561 [(5, .int u4), (4, .int (l4 + (1 : Int32))), (7, .int (m.1 90 l4.toNatClampNeg)), (6, .int l4), (0, .ref 58), (1, .int l1), (2, .int l2), (3, .int l3)] [] m4 Q
        refine y_headS (l2 := [(0, .ref 58), (1, .int l1), (2, .int l2), (3, .int l3), (4, .int (l4 + (1 : Int32))), (5, .int u4)]) [4, 5, 6, 7, 1, 0] [0, 1, 2, 3, 4, 5] [5, 4, 7, 6, 0, 1, 2, 3] rfl rfl (by decide) rfl (by decide) ?_
        exact H
      replace H := H.2
      by_cases h4 : m.1 89 l4.toNatClampNeg = (4 : Int32)
      · replace H := H.1 h4
        refine y_tsw (t := 193) rfl rfl (by rw [h4]; rfl) ?_
        clear h4 h3 h2 h1 h0
        refine y_st rfl rfl rfl rfl rfl (fun _ _ => rfl) ?_
        refine y_st rfl rfl rfl rfl rfl (fun _ _ => rfl) ?_
        refine y_st rfl rfl rfl rfl rfl (fun _ _ => rfl) ?_
        show yP (xg xs) (d + 1) 395 197 [(4, .int (l4 + (1 : Int32))), (7, .int (m.1 90 l4.toNatClampNeg)), (6, .int l4), (0, .ref 58), (1, .int l1), (2, .int l2), (3, .int l3), (5, .int l5)] [.int l2, .int l4, .ref 58] (y_si m 58 65 ((m.1 58 65) + (1 : Int32))) Q
        refine y_call rfl rfl rfl rfl rfl (Nat.le_of_ble_eq_true rfl) (Nat.le_of_ble_eq_true rfl) rfl (by decide) H (fun v5 m5 H => ?_)
        obtain ⟨u5, rfl, H⟩ := H
        refine y_st rfl rfl rfl rfl rfl (fun _ _ => rfl) ?_
        refine y_st rfl rfl rfl rfl rfl (fun _ _ => rfl) ?_
        show yP (xg xs) (d + 1) 395 561 [(5, .int u5), (4, .int (l4 + (1 : Int32))), (7, .int (m.1 90 l4.toNatClampNeg)), (6, .int l4), (0, .ref 58), (1, .int l1), (2, .int l2), (3, .int l3)] [] m5 Q
        refine y_headS (l2 := [(0, .ref 58), (1, .int l1), (2, .int l2), (3, .int l3), (4, .int (l4 + (1 : Int32))), (5, .int u5)]) [4, 5, 6, 7, 1, 0] [0, 1, 2, 3, 4, 5] [5, 4, 7, 6, 0, 1, 2, 3] rfl rfl (by decide) rfl (by decide) ?_
        exact H
      replace H := H.2
      by_cases h5 : m.1 89 l4.toNatClampNeg = (5 : Int32)
      · replace H := H.1 h5
        refine y_tsw (t := 205) rfl rfl (by rw [h5]; rfl) ?_
        clear h5 h4 h3 h2 h1 h0
        refine y_st rfl rfl rfl rfl rfl (fun _ _ => rfl) ?_
        refine y_st rfl rfl rfl rfl rfl (fun _ _ => rfl) ?_
        refine y_gf rfl rfl rfl rfl rfl ?_
        refine y_st rfl rfl rfl rfl rfl (fun _ _ => rfl) ?_
        refine y_gf rfl rfl rfl rfl rfl ?_
        refine y_st rfl rfl rfl rfl rfl (fun _ _ => rfl) ?_
        show yP (xg xs) (d + 1) 395 216 [(4, .int (l4 + (1 : Int32))), (7, .int (m.1 90 l4.toNatClampNeg)), (6, .int l4), (0, .ref 58), (1, .int l1), (2, .int l2), (3, .int l3), (5, .int l5)] [.int (m.1 90 l4.toNatClampNeg), .ref 74, .ref 98, .ref 58] (y_si m 58 65 ((m.1 58 65) + (1 : Int32))) Q
        refine y_iald rfl rfl rfl (H.1) ?_
        replace H := H.2
        refine y_st rfl rfl rfl rfl rfl (fun _ _ => rfl) ?_
        refine y_gf rfl rfl rfl rfl rfl ?_
        refine y_st rfl rfl rfl rfl rfl (fun _ _ => rfl) ?_
        show yP (xg xs) (d + 1) 395 223 [(4, .int (l4 + (1 : Int32))), (7, .int (m.1 90 l4.toNatClampNeg)), (6, .int l4), (0, .ref 58), (1, .int l1), (2, .int l2), (3, .int l3), (5, .int l5)] [.int l4, .ref 91, .int (m.1 74 ((m.1 90 l4.toNatClampNeg).toNatClampNeg)), .ref 98, .ref 58] (y_si m 58 65 ((m.1 58 65) + (1 : Int32))) Q
        refine y_iald rfl rfl rfl (H.1) ?_
        replace H := H.2
        refine y_st rfl rfl rfl rfl rfl (fun _ _ => rfl) ?_
        show yP (xg xs) (d + 1) 395 225 [(4, .int (l4 + (1 : Int32))), (7, .int (m.1 90 l4.toNatClampNeg)), (6, .int l4), (0, .ref 58), (1, .int l1), (2, .int l2), (3, .int l3), (5, .int l5)] [.int ((m.1 74 ((m.1 90 l4.toNatClampNeg).toNatClampNeg)) + (m.1 91 l4.toNatClampNeg)), .ref 98, .ref 58] (y_si m 58 65 ((m.1 58 65) + (1 : Int32))) Q
        refine y_iald rfl rfl rfl (H.1) ?_
        replace H := H.2
        show yP (xg xs) (d + 1) 395 226 [(4, .int (l4 + (1 : Int32))), (7, .int (m.1 90 l4.toNatClampNeg)), (6, .int l4), (0, .ref 58), (1, .int l1), (2, .int l2), (3, .int l3), (5, .int l5)] [.int (m.1 98 (((m.1 74 ((m.1 90 l4.toNatClampNeg).toNatClampNeg)) + (m.1 91 l4.toNatClampNeg)).toNatClampNeg)), .ref 58] (y_si m 58 65 ((m.1 58 65) + (1 : Int32))) Q
        refine y_call rfl rfl rfl rfl rfl (Nat.le_of_ble_eq_true rfl) (Nat.le_of_ble_eq_true rfl) rfl (by decide) H (fun v6 m6 H => ?_)
        obtain ⟨rfl, H⟩ := H
        refine y_st rfl rfl rfl rfl rfl (fun _ _ => rfl) ?_
        show yP (xg xs) (d + 1) 395 561 [(4, .int (l4 + (1 : Int32))), (7, .int (m.1 90 l4.toNatClampNeg)), (6, .int l4), (0, .ref 58), (1, .int l1), (2, .int l2), (3, .int l3), (5, .int l5)] [] m6 Q
        refine y_headS (l2 := [(0, .ref 58), (1, .int l1), (2, .int l2), (3, .int l3), (4, .int (l4 + (1 : Int32))), (5, .int l5)]) [3, 4, 5, 6, 0, 7] [0, 1, 2, 3, 4, 5] [4, 7, 6, 0, 1, 2, 3, 5] rfl rfl (by decide) rfl (by decide) ?_
        exact H
      replace H := H.2
      by_cases h6 : m.1 89 l4.toNatClampNeg = (6 : Int32)
      · replace H := H.1 h6
        refine y_tsw (t := 232) rfl rfl (by rw [h6]; rfl) ?_
        clear h6 h5 h4 h3 h2 h1 h0
        refine y_st rfl rfl rfl rfl rfl (fun _ _ => rfl) ?_
        refine y_gf rfl rfl rfl rfl rfl ?_
        refine y_st rfl rfl rfl rfl rfl (fun _ _ => rfl) ?_
        refine y_gf rfl rfl rfl rfl rfl ?_
        refine y_st rfl rfl rfl rfl rfl (fun _ _ => rfl) ?_
        show yP (xg xs) (d + 1) 395 242 [(4, .int (l4 + (1 : Int32))), (7, .int (m.1 90 l4.toNatClampNeg)), (6, .int l4), (0, .ref 58), (1, .int l1), (2, .int l2), (3, .int l3), (5, .int l5)] [.int (m.1 90 l4.toNatClampNeg), .ref 74, .ref 98] (y_si m 58 65 ((m.1 58 65) + (1 : Int32))) Q
        refine y_iald rfl rfl rfl (H.1) ?_
        replace H := H.2
        refine y_st rfl rfl rfl rfl rfl (fun _ _ => rfl) ?_
        refine y_gf rfl rfl rfl rfl rfl ?_
        refine y_st rfl rfl rfl rfl rfl (fun _ _ => rfl) ?_
        show yP (xg xs) (d + 1) 395 249 [(4, .int (l4 + (1 : Int32))), (7, .int (m.1 90 l4.toNatClampNeg)), (6, .int l4), (0, .ref 58), (1, .int l1), (2, .int l2), (3, .int l3), (5, .int l5)] [.int l4, .ref 91, .int (m.1 74 ((m.1 90 l4.toNatClampNeg).toNatClampNeg)), .ref 98] (y_si m 58 65 ((m.1 58 65) + (1 : Int32))) Q
        refine y_iald rfl rfl rfl (H.1) ?_
        replace H := H.2
        refine y_st rfl rfl rfl rfl rfl (fun _ _ => rfl) ?_
        refine y_st rfl rfl rfl rfl rfl (fun _ _ => rfl) ?_
        show yP (xg xs) (d + 1) 395 252 [(4, .int (l4 + (1 : Int32))), (7, .int (m.1 90 l4.toNatClampNeg)), (6, .int l4), (0, .ref 58), (1, .int l1), (2, .int l2), (3, .int l3), (5, .int l5)] [.ref 58, .int ((m.1 74 ((m.1 90 l4.toNatClampNeg).toNatClampNeg)) + (m.1 91 l4.toNatClampNeg)), .ref 98] (y_si m 58 65 ((m.1 58 65) + (1 : Int32))) Q
        refine y_call rfl rfl rfl rfl rfl (Nat.le_of_ble_eq_true rfl) (Nat.le_of_ble_eq_true rfl) rfl (by decide) H (fun v7 m7 H => ?_)
        obtain ⟨u7, rfl, H⟩ := H
        show yP (xg xs) (d + 1) 395 255 [(4, .int (l4 + (1 : Int32))), (7, .int (m.1 90 l4.toNatClampNeg)), (6, .int l4), (0, .ref 58), (1, .int l1), (2, .int l2), (3, .int l3), (5, .int l5)] [.int u7, .int ((m.1 74 ((m.1 90 l4.toNatClampNeg).toNatClampNeg)) + (m.1 91 l4.toNatClampNeg)), .ref 98] m7 Q
        refine y_iast rfl rfl rfl (H.1) ?_
        replace H := H.2
        refine y_st rfl rfl rfl rfl rfl (fun _ _ => rfl) ?_
        show yP (xg xs) (d + 1) 395 561 [(4, .int (l4 + (1 : Int32))), (7, .int (m.1 90 l4.toNatClampNeg)), (6, .int l4), (0, .ref 58), (1, .int l1), (2, .int l2), (3, .int l3), (5, .int l5)] [] (y_si m7 98 (((m.1 74 ((m.1 90 l4.toNatClampNeg).toNatClampNeg)) + (m.1 91 l4.toNatClampNeg)).toNatClampNeg) u7) Q
        refine y_headS (l2 := [(0, .ref 58), (1, .int l1), (2, .int l2), (3, .int l3), (4, .int (l4 + (1 : Int32))), (5, .int l5)]) [3, 4, 5, 6, 0, 7] [0, 1, 2, 3, 4, 5] [4, 7, 6, 0, 1, 2, 3, 5] rfl rfl (by decide) rfl (by decide) ?_
        exact H
      replace H := H.2
      by_cases h7 : m.1 89 l4.toNatClampNeg = (7 : Int32)
      · replace H := H.1 h7
        refine y_tsw (t := 259) rfl rfl (by rw [h7]; rfl) ?_
        clear h7 h6 h5 h4 h3 h2 h1 h0
        refine y_st rfl rfl rfl rfl rfl (fun _ _ => rfl) ?_
        show yP (xg xs) (d + 1) 395 260 [(4, .int (l4 + (1 : Int32))), (7, .int (m.1 90 l4.toNatClampNeg)), (6, .int l4), (0, .ref 58), (1, .int l1), (2, .int l2), (3, .int l3), (5, .int l5)] [.ref 58] (y_si m 58 65 ((m.1 58 65) + (1 : Int32))) Q
        refine y_call rfl rfl rfl rfl rfl (Nat.le_of_ble_eq_true rfl) (Nat.le_of_ble_eq_true rfl) rfl (by decide) H (fun v8 m8 H => ?_)
        obtain ⟨u8, rfl, H⟩ := H
        refine y_st rfl rfl rfl rfl rfl (fun _ _ => rfl) ?_
        refine y_st rfl rfl rfl rfl rfl (fun _ _ => rfl) ?_
        show yP (xg xs) (d + 1) 395 266 [(8, .int u8), (4, .int (l4 + (1 : Int32))), (7, .int (m.1 90 l4.toNatClampNeg)), (6, .int l4), (0, .ref 58), (1, .int l1), (2, .int l2), (3, .int l3), (5, .int l5)] [.ref 58] m8 Q
        refine y_call rfl rfl rfl rfl rfl (Nat.le_of_ble_eq_true rfl) (Nat.le_of_ble_eq_true rfl) rfl (by decide) H (fun v9 m9 H => ?_)
        obtain ⟨u9, rfl, H⟩ := H
        refine y_st rfl rfl rfl rfl rfl (fun _ _ => rfl) ?_
        refine y_st rfl rfl rfl rfl rfl (fun _ _ => rfl) ?_
        refine y_st rfl rfl rfl rfl rfl (fun _ _ => rfl) ?_
        show yP (xg xs) (d + 1) 395 274 [(9, .int u9), (8, .int u8), (4, .int (l4 + (1 : Int32))), (7, .int (m.1 90 l4.toNatClampNeg)), (6, .int l4), (0, .ref 58), (1, .int l1), (2, .int l2), (3, .int l3), (5, .int l5)] [.int (3 : Int32), .int (m.1 90 l4.toNatClampNeg)] m9 Q
        refine y_ieq (t := 297) rfl rfl rfl (fun h => ?_) (fun h => ?_)
        · replace H := H.1 h; clear h
          show yP (xg xs) (d + 1) 395 297 [(9, .int u9), (8, .int u8), (4, .int (l4 + (1 : Int32))), (7, .int (m.1 90 l4.toNatClampNeg)), (6, .int l4), (0, .ref 58), (1, .int l1), (2, .int l2), (3, .int l3), (5, .int l5)] [] m9 Q
          refine y_headS (l2 := [(0, .ref 58), (1, .int l1), (2, .int l2), (3, .int l3), (4, .int (l4 + (1 : Int32))), (7, .int (m.1 90 l4.toNatClampNeg)), (8, .int u8), (9, .int u9)]) [5, 6, 7, 8, 2, 3, 1, 0] [0, 1, 2, 3, 4, 7, 8, 9] [9, 8, 4, 7, 6, 0, 1, 2, 3, 5] rfl rfl (by decide) rfl (by decide) ?_
          exact H
        · replace H := H.2 h; clear h
          refine y_st rfl rfl rfl rfl rfl (fun _ _ => rfl) ?_
          refine y_st rfl rfl rfl rfl rfl (fun _ _ => rfl) ?_
          show yP (xg xs) (d + 1) 395 280 [(9, .int u9), (8, .int u8), (4, .int (l4 + (1 : Int32))), (7, .int (m.1 90 l4.toNatClampNeg)), (6, .int l4), (0, .ref 58), (1, .int l1), (2, .int l2), (3, .int l3), (5, .int l5)] [.int (4 : Int32), .int (m.1 90 l4.toNatClampNeg)] m9 Q
          refine y_ieq (t := 297) rfl rfl rfl (fun h => ?_) (fun h => ?_)
          · replace H := H.1 h; clear h
            show yP (xg xs) (d + 1) 395 297 [(9, .int u9), (8, .int u8), (4, .int (l4 + (1 : Int32))), (7, .int (m.1 90 l4.toNatClampNeg)), (6, .int l4), (0, .ref 58), (1, .int l1), (2, .int l2), (3, .int l3), (5, .int l5)] [] m9 Q
            refine y_headS (l2 := [(0, .ref 58), (1, .int l1), (2, .int l2), (3, .int l3), (4, .int (l4 + (1 : Int32))), (7, .int (m.1 90 l4.toNatClampNeg)), (8, .int u8), (9, .int u9)]) [5, 6, 7, 8, 2, 3, 1, 0] [0, 1, 2, 3, 4, 7, 8, 9] [9, 8, 4, 7, 6, 0, 1, 2, 3, 5] rfl rfl (by decide) rfl (by decide) ?_
            exact H
          · replace H := H.2 h; clear h
            refine y_st rfl rfl rfl rfl rfl (fun _ _ => rfl) ?_
            refine y_st rfl rfl rfl rfl rfl (fun _ _ => rfl) ?_
            show yP (xg xs) (d + 1) 395 287 [(9, .int u9), (8, .int u8), (4, .int (l4 + (1 : Int32))), (7, .int (m.1 90 l4.toNatClampNeg)), (6, .int l4), (0, .ref 58), (1, .int l1), (2, .int l2), (3, .int l3), (5, .int l5)] [.int (8 : Int32), .int (m.1 90 l4.toNatClampNeg)] m9 Q
            refine y_ieq (t := 297) rfl rfl rfl (fun h => ?_) (fun h => ?_)
            · replace H := H.1 h; clear h
              show yP (xg xs) (d + 1) 395 297 [(9, .int u9), (8, .int u8), (4, .int (l4 + (1 : Int32))), (7, .int (m.1 90 l4.toNatClampNeg)), (6, .int l4), (0, .ref 58), (1, .int l1), (2, .int l2), (3, .int l3), (5, .int l5)] [] m9 Q
              refine y_headS (l2 := [(0, .ref 58), (1, .int l1), (2, .int l2), (3, .int l3), (4, .int (l4 + (1 : Int32))), (7, .int (m.1 90 l4.toNatClampNeg)), (8, .int u8), (9, .int u9)]) [5, 6, 7, 8, 2, 3, 1, 0] [0, 1, 2, 3, 4, 7, 8, 9] [9, 8, 4, 7, 6, 0, 1, 2, 3, 5] rfl rfl (by decide) rfl (by decide) ?_
              exact H
            · replace H := H.2 h; clear h
              refine y_st rfl rfl rfl rfl rfl (fun _ _ => rfl) ?_
              refine y_st rfl rfl rfl rfl rfl (fun _ _ => rfl) ?_
              show yP (xg xs) (d + 1) 395 294 [(9, .int u9), (8, .int u8), (4, .int (l4 + (1 : Int32))), (7, .int (m.1 90 l4.toNatClampNeg)), (6, .int l4), (0, .ref 58), (1, .int l1), (2, .int l2), (3, .int l3), (5, .int l5)] [.int (9 : Int32), .int (m.1 90 l4.toNatClampNeg)] m9 Q
              refine y_ine (t := 301) rfl rfl rfl (fun h => ?_) (fun h => ?_)
              · replace H := H.1 h; clear h
                refine y_st rfl rfl rfl rfl rfl (fun _ _ => rfl) ?_
                show yP (xg xs) (d + 1) 395 302 [(9, .int u9), (8, .int u8), (4, .int (l4 + (1 : Int32))), (7, .int (m.1 90 l4.toNatClampNeg)), (6, .int l4), (0, .ref 58), (1, .int l1), (2, .int l2), (3, .int l3), (5, .int l5)] [.int (0 : Int32)] m9 Q
                refine y_headS (l2 := [(0, .ref 58), (1, .int l1), (2, .int l2), (3, .int l3), (4, .int (l4 + (1 : Int32))), (7, .int (m.1 90 l4.toNatClampNeg)), (8, .int u8), (9, .int u9)]) [5, 6, 7, 8, 2, 3, 1, 0] [0, 1, 2, 3, 4, 7, 8, 9] [9, 8, 4, 7, 6, 0, 1, 2, 3, 5] rfl rfl (by decide) rfl (by decide) ?_
                exact H
              · replace H := H.2 h; clear h
                show yP (xg xs) (d + 1) 395 297 [(9, .int u9), (8, .int u8), (4, .int (l4 + (1 : Int32))), (7, .int (m.1 90 l4.toNatClampNeg)), (6, .int l4), (0, .ref 58), (1, .int l1), (2, .int l2), (3, .int l3), (5, .int l5)] [] m9 Q
                refine y_headS (l2 := [(0, .ref 58), (1, .int l1), (2, .int l2), (3, .int l3), (4, .int (l4 + (1 : Int32))), (7, .int (m.1 90 l4.toNatClampNeg)), (8, .int u8), (9, .int u9)]) [5, 6, 7, 8, 2, 3, 1, 0] [0, 1, 2, 3, 4, 7, 8, 9] [9, 8, 4, 7, 6, 0, 1, 2, 3, 5] rfl rfl (by decide) rfl (by decide) ?_
                exact H
      replace H := H.2
      by_cases h8 : m.1 89 l4.toNatClampNeg = (8 : Int32)
      · replace H := H.1 h8
        refine y_tsw (t := 347) rfl rfl (by rw [h8]; rfl) ?_
        clear h8 h7 h6 h5 h4 h3 h2 h1 h0
        refine y_st rfl rfl rfl rfl rfl (fun _ _ => rfl) ?_
        refine y_st rfl rfl rfl rfl rfl (fun _ _ => rfl) ?_
        refine y_st rfl rfl rfl rfl rfl (fun _ _ => rfl) ?_
        show yP (xg xs) (d + 1) 395 351 [(4, .int (l4 + (1 : Int32))), (7, .int (m.1 90 l4.toNatClampNeg)), (6, .int l4), (0, .ref 58), (1, .int l1), (2, .int l2), (3, .int l3), (5, .int l5)] [.ref 58, .int (m.1 90 l4.toNatClampNeg), .ref 58] (y_si m 58 65 ((m.1 58 65) + (1 : Int32))) Q
        refine y_call rfl rfl rfl rfl rfl (Nat.le_of_ble_eq_true rfl) (Nat.le_of_ble_eq_true rfl) rfl (by decide) H (fun v10 m10 H => ?_)
        obtain ⟨u10, rfl, H⟩ := H
        show yP (xg xs) (d + 1) 395 354 [(4, .int (l4 + (1 : Int32))), (7, .int (m.1 90 l4.toNatClampNeg)), (6, .int l4), (0, .ref 58), (1, .int l1), (2, .int l2), (3, .int l3), (5, .int l5)] [.int u10, .int (m.1 90 l4.toNatClampNeg), .ref 58] m10 Q
        refine y_call rfl rfl rfl rfl rfl (Nat.le_of_ble_eq_true rfl) (Nat.le_of_ble_eq_true rfl) rfl (by decide) H (fun v11 m11 H => ?_)
        obtain ⟨u11, rfl, H⟩ := H
        show yP (xg xs) (d + 1) 395 357 [(4, .int (l4 + (1 : Int32))), (7, .int (m.1 90 l4.toNatClampNeg)), (6, .int l4), (0, .ref 58), (1, .int l1), (2, .int l2), (3, .int l3), (5, .int l5)] [.int u11, .ref 58] m11 Q
        refine y_call rfl rfl rfl rfl rfl (Nat.le_of_ble_eq_true rfl) (Nat.le_of_ble_eq_true rfl) rfl (by decide) H (fun v12 m12 H => ?_)
        obtain ⟨rfl, H⟩ := H
        refine y_st rfl rfl rfl rfl rfl (fun _ _ => rfl) ?_
        show yP (xg xs) (d + 1) 395 561 [(4, .int (l4 + (1 : Int32))), (7, .int (m.1 90 l4.toNatClampNeg)), (6, .int l4), (0, .ref 58), (1, .int l1), (2, .int l2), (3, .int l3), (5, .int l5)] [] m12 Q
        refine y_headS (l2 := [(0, .ref 58), (1, .int l1), (2, .int l2), (3, .int l3), (4, .int (l4 + (1 : Int32))), (5, .int l5)]) [3, 4, 5, 6, 0, 7] [0, 1, 2, 3, 4, 5] [4, 7, 6, 0, 1, 2, 3, 5] rfl rfl (by decide) rfl (by decide) ?_
        exact H
      replace H := H.2
      by_cases h9 : m.1 89 l4.toNatClampNeg = (9 : Int32)
      · replace H := H.1 h9
        refine y_tsw (t := 363) rfl rfl (by rw [h9]; rfl) ?_
        clear h9 h8 h7 h6 h5 h4 h3 h2 h1 h0
        refine y_st rfl rfl rfl rfl rfl (fun _ _ => rfl) ?_
        show yP (xg xs) (d + 1) 395 364 [(4, .int (l4 + (1 : Int32))), (7, .int (m.1 90 l4.toNatClampNeg)), (6, .int l4), (0, .ref 58), (1, .int l1), (2, .int l2), (3, .int l3), (5, .int l5)] [.ref 58] (y_si m 58 65 ((m.1 58 65) + (1 : Int32))) Q
        refine y_call rfl rfl rfl rfl rfl (Nat.le_of_ble_eq_true rfl) (Nat.le_of_ble_eq_true rfl) rfl (by decide) H (fun v13 m13 H => ?_)
        obtain ⟨u13, rfl, H⟩ := H
        refine y_st rfl rfl rfl rfl rfl (fun _ _ => rfl) ?_
        refine y_st rfl rfl rfl rfl rfl (fun _ _ => rfl) ?_
        show yP (xg xs) (d + 1) 395 370 [(8, .int u13), (4, .int (l4 + (1 : Int32))), (7, .int (m.1 90 l4.toNatClampNeg)), (6, .int l4), (0, .ref 58), (1, .int l1), (2, .int l2), (3, .int l3), (5, .int l5)] [.ref 58] m13 Q
        refine y_call rfl rfl rfl rfl rfl (Nat.le_of_ble_eq_true rfl) (Nat.le_of_ble_eq_true rfl) rfl (by decide) H (fun v14 m14 H => ?_)
        obtain ⟨u14, rfl, H⟩ := H
        refine y_st rfl rfl rfl rfl rfl (fun _ _ => rfl) ?_
        refine y_st rfl rfl rfl rfl rfl (fun _ _ => rfl) ?_
        refine y_st rfl rfl rfl rfl rfl (fun _ _ => rfl) ?_
        show yP (xg xs) (d + 1) 395 377 [(9, .int u14), (8, .int u13), (4, .int (l4 + (1 : Int32))), (7, .int (m.1 90 l4.toNatClampNeg)), (6, .int l4), (0, .ref 58), (1, .int l1), (2, .int l2), (3, .int l3), (5, .int l5)] [.ref 58, .ref 58] m14 Q
        refine y_call rfl rfl rfl rfl rfl (Nat.le_of_ble_eq_true rfl) (Nat.le_of_ble_eq_true rfl) rfl (by decide) H (fun v15 m15 H => ?_)
        obtain ⟨u15, rfl, H⟩ := H
        show yP (xg xs) (d + 1) 395 380 [(9, .int u14), (8, .int u13), (4, .int (l4 + (1 : Int32))), (7, .int (m.1 90 l4.toNatClampNeg)), (6, .int l4), (0, .ref 58), (1, .int l1), (2, .int l2), (3, .int l3), (5, .int l5)] [.int u15, .ref 58] m15 Q
        refine y_zeq (t := 388) rfl rfl rfl (fun h => ?_) (fun h => ?_)
        · replace H := H.1 h; clear h
          refine y_st rfl rfl rfl rfl rfl (fun _ _ => rfl) ?_
          show yP (xg xs) (d + 1) 395 390 [(9, .int u14), (8, .int u13), (4, .int (l4 + (1 : Int32))), (7, .int (m.1 90 l4.toNatClampNeg)), (6, .int l4), (0, .ref 58), (1, .int l1), (2, .int l2), (3, .int l3), (5, .int l5)] [.int u14, .ref 58] m15 Q
          refine y_headS (l2 := [(0, .ref 58), (1, .int l1), (2, .int l2), (3, .int l3), (4, .int (l4 + (1 : Int32))), (5, .int l5)]) [5, 6, 7, 8, 2, 9] [0, 1, 2, 3, 4, 5] [9, 8, 4, 7, 6, 0, 1, 2, 3, 5] rfl rfl (by decide) rfl (by decide) ?_
          exact H
        · replace H := H.2 h; clear h
          refine y_st rfl rfl rfl rfl rfl (fun _ _ => rfl) ?_
          refine y_st rfl rfl rfl rfl rfl (fun _ _ => rfl) ?_
          show yP (xg xs) (d + 1) 395 390 [(9, .int u14), (8, .int u13), (4, .int (l4 + (1 : Int32))), (7, .int (m.1 90 l4.toNatClampNeg)), (6, .int l4), (0, .ref 58), (1, .int l1), (2, .int l2), (3, .int l3), (5, .int l5)] [.int u13, .ref 58] m15 Q
          refine y_headS (l2 := [(0, .ref 58), (1, .int l1), (2, .int l2), (3, .int l3), (4, .int (l4 + (1 : Int32))), (5, .int l5)]) [5, 6, 7, 8, 2, 9] [0, 1, 2, 3, 4, 5] [9, 8, 4, 7, 6, 0, 1, 2, 3, 5] rfl rfl (by decide) rfl (by decide) ?_
          exact H
      replace H := H.2
      by_cases h10 : m.1 89 l4.toNatClampNeg = (10 : Int32)
      · replace H := H.1 h10
        refine y_tsw (t := 396) rfl rfl (by rw [h10]; rfl) ?_
        clear h10 h9 h8 h7 h6 h5 h4 h3 h2 h1 h0
        refine y_st rfl rfl rfl rfl rfl (fun _ _ => rfl) ?_
        refine y_gf rfl rfl rfl rfl rfl ?_
        refine y_st rfl rfl rfl rfl rfl (fun _ _ => rfl) ?_
        show yP (xg xs) (d + 1) 395 401 [(4, .int (l4 + (1 : Int32))), (7, .int (m.1 90 l4.toNatClampNeg)), (6, .int l4), (0, .ref 58), (1, .int l1), (2, .int l2), (3, .int l3), (5, .int l5)] [.int l1, .ref 93] (y_si m 58 65 ((m.1 58 65) + (1 : Int32))) Q
        refine y_iald rfl rfl rfl (H.1) ?_
        replace H := H.2
        refine y_st rfl rfl rfl rfl rfl (fun _ _ => rfl) ?_
        refine y_st rfl rfl rfl rfl rfl (fun _ _ => rfl) ?_
        refine y_st rfl rfl rfl rfl rfl (fun _ _ => rfl) ?_
        refine y_st rfl rfl rfl rfl rfl (fun _ _ => rfl) ?_
        show yP (xg xs) (d + 1) 395 561 [(4, .int ((m.1 93 l1.toNatClampNeg) + (m.1 90 l4.toNatClampNeg))), (7, .int (m.1 90 l4.toNatClampNeg)), (6, .int l4), (0, .ref 58), (1, .int l1), (2, .int l2), (3, .int l3), (5, .int l5)] [] (y_si m 58 65 ((m.1 58 65) + (1 : Int32))) Q
        refine y_headS (l2 := [(0, .ref 58), (1, .int l1), (2, .int l2), (3, .int l3), (4, .int ((m.1 93 l1.toNatClampNeg) + (m.1 90 l4.toNatClampNeg))), (5, .int l5)]) [3, 4, 5, 6, 0, 7] [0, 1, 2, 3, 4, 5] [4, 7, 6, 0, 1, 2, 3, 5] rfl rfl (by decide) rfl (by decide) ?_
        exact H
      replace H := H.2
      by_cases h11 : m.1 89 l4.toNatClampNeg = (11 : Int32)
      · replace H := H.1 h11
        refine y_tsw (t := 410) rfl rfl (by rw [h11]; rfl) ?_
        clear h11 h10 h9 h8 h7 h6 h5 h4 h3 h2 h1 h0
        refine y_st rfl rfl rfl rfl rfl (fun _ _ => rfl) ?_
        show yP (xg xs) (d + 1) 395 411 [(4, .int (l4 + (1 : Int32))), (7, .int (m.1 90 l4.toNatClampNeg)), (6, .int l4), (0, .ref 58), (1, .int l1), (2, .int l2), (3, .int l3), (5, .int l5)] [.ref 58] (y_si m 58 65 ((m.1 58 65) + (1 : Int32))) Q
        refine y_call rfl rfl rfl rfl rfl (Nat.le_of_ble_eq_true rfl) (Nat.le_of_ble_eq_true rfl) rfl (by decide) H (fun v16 m16 H => ?_)
        obtain ⟨u16, rfl, H⟩ := H
        show yP (xg xs) (d + 1) 395 414 [(4, .int (l4 + (1 : Int32))), (7, .int (m.1 90 l4.toNatClampNeg)), (6, .int l4), (0, .ref 58), (1, .int l1), (2, .int l2), (3, .int l3), (5, .int l5)] [.int u16] m16 Q
        refine y_zne (t := 429) rfl rfl rfl (fun h => ?_) (fun h => ?_)
        · replace H := H.1 h; clear h
          refine y_st rfl rfl rfl rfl rfl (fun _ _ => rfl) ?_
          show yP (xg xs) (d + 1) 395 431 [(4, .int (l4 + (1 : Int32))), (7, .int (m.1 90 l4.toNatClampNeg)), (6, .int l4), (0, .ref 58), (1, .int l1), (2, .int l2), (3, .int l3), (5, .int l5)] [.int (l4 + (1 : Int32))] m16 Q
          refine y_headS (l2 := [(0, .ref 58), (1, .int l1), (2, .int l2), (3, .int l3), (5, .int l5)]) [3, 4, 5, 6, 7] [0, 1, 2, 3, 5] [4, 7, 6, 0, 1, 2, 3, 5] rfl rfl (by decide) rfl (by decide) ?_
          exact H
        · replace H := H.2 h; clear h
          refine y_st rfl rfl rfl rfl rfl (fun _ _ => rfl) ?_
          refine y_gf rfl rfl rfl rfl rfl ?_
          refine y_st rfl rfl rfl rfl rfl (fun _ _ => rfl) ?_
          show yP (xg xs) (d + 1) 395 422 [(4, .int (l4 + (1 : Int32))), (7, .int (m.1 90 l4.toNatClampNeg)), (6, .int l4), (0, .ref 58), (1, .int l1), (2, .int l2), (3, .int l3), (5, .int l5)] [.int l1, .ref 93] m16 Q
          refine y_iald rfl rfl rfl (H.1) ?_
          replace H := H.2
          refine y_st rfl rfl rfl rfl rfl (fun _ _ => rfl) ?_
          refine y_st rfl rfl rfl rfl rfl (fun _ _ => rfl) ?_
          refine y_st rfl rfl rfl rfl rfl (fun _ _ => rfl) ?_
          show yP (xg xs) (d + 1) 395 431 [(4, .int (l4 + (1 : Int32))), (7, .int (m.1 90 l4.toNatClampNeg)), (6, .int l4), (0, .ref 58), (1, .int l1), (2, .int l2), (3, .int l3), (5, .int l5)] [.int ((m16.1 93 l1.toNatClampNeg) + (m.1 90 l4.toNatClampNeg))] m16 Q
          refine y_headS (l2 := [(0, .ref 58), (1, .int l1), (2, .int l2), (3, .int l3), (5, .int l5)]) [3, 4, 5, 6, 7] [0, 1, 2, 3, 5] [4, 7, 6, 0, 1, 2, 3, 5] rfl rfl (by decide) rfl (by decide) ?_
          exact H
      replace H := H.2
      by_cases h12 : m.1 89 l4.toNatClampNeg = (12 : Int32)
      · replace H := H.1 h12
        refine y_tsw (t := 436) rfl rfl (by rw [h12]; rfl) ?_
        clear h12 h11 h10 h9 h8 h7 h6 h5 h4 h3 h2 h1 h0
        refine y_st rfl rfl rfl rfl rfl (fun _ _ => rfl) ?_
        refine y_gf rfl rfl rfl rfl rfl ?_
        refine y_st rfl rfl rfl rfl rfl (fun _ _ => rfl) ?_
        refine y_st rfl rfl rfl rfl rfl (fun _ _ => rfl) ?_
        refine y_st rfl rfl rfl rfl rfl (fun _ _ => rfl) ?_
        refine y_st rfl rfl rfl rfl rfl (fun _ _ => rfl) ?_
        refine y_gf rfl rfl rfl rfl rfl ?_
        refine y_st rfl rfl rfl rfl rfl (fun _ _ => rfl) ?_
        show yP (xg xs) (d + 1) 395 450 [(4, .int (l4 + (1 : Int32))), (7, .int (m.1 90 l4.toNatClampNeg)), (6, .int l4), (0, .ref 58), (1, .int l1), (2, .int l2), (3, .int l3), (5, .int l5)] [.int l4, .ref 91, .int (l2 + (m.1 90 l4.toNatClampNeg)), .ref 98] (y_si m 58 65 ((m.1 58 65) + (1 : Int32))) Q
        refine y_iald rfl rfl rfl (H.1) ?_
        replace H := H.2
        show yP (xg xs) (d + 1) 395 451 [(4, .int (l4 + (1 : Int32))), (7, .int (m.1 90 l4.toNatClampNeg)), (6, .int l4), (0, .ref 58), (1, .int l1), (2, .int l2), (3, .int l3), (5, .int l5)] [.int (m.1 91 l4.toNatClampNeg), .int (l2 + (m.1 90 l4.toNatClampNeg)), .ref 98] (y_si m 58 65 ((m.1 58 65) + (1 : Int32))) Q
        refine y_iast rfl rfl rfl (H.1) ?_
        replace H := H.2
        refine y_st rfl rfl rfl rfl rfl (fun _ _ => rfl) ?_
        show yP (xg xs) (d + 1) 395 561 [(4, .int (l4 + (1 : Int32))), (7, .int (m.1 90 l4.toNatClampNeg)), (6, .int l4), (0, .ref 58), (1, .int l1), (2, .int l2), (3, .int l3), (5, .int l5)] [] (y_si (y_si m 58 65 ((m.1 58 65) + (1 : Int32))) 98 ((l2 + (m.1 90 l4.toNatClampNeg)).toNatClampNeg) (m.1 91 l4.toNatClampNeg)) Q
        refine y_headS (l2 := [(0, .ref 58), (1, .int l1), (2, .int l2), (3, .int l3), (4, .int (l4 + (1 : Int32))), (5, .int l5)]) [3, 4, 5, 6, 0, 7] [0, 1, 2, 3, 4, 5] [4, 7, 6, 0, 1, 2, 3, 5] rfl rfl (by decide) rfl (by decide) ?_
        exact H
      replace H := H.2
      by_cases h13 : m.1 89 l4.toNatClampNeg = (13 : Int32)
      · replace H := H.1 h13
        refine y_tsw (t := 455) rfl rfl (by rw [h13]; rfl) ?_
        clear h13 h12 h11 h10 h9 h8 h7 h6 h5 h4 h3 h2 h1 h0
        refine y_st rfl rfl rfl rfl rfl (fun _ _ => rfl) ?_
        refine y_gf rfl rfl rfl rfl rfl ?_
        refine y_st rfl rfl rfl rfl rfl (fun _ _ => rfl) ?_
        refine y_st rfl rfl rfl rfl rfl (fun _ _ => rfl) ?_
        refine y_st rfl rfl rfl rfl rfl (fun _ _ => rfl) ?_
        show yP (xg xs) (d + 1) 395 463 [(4, .int (l4 + (1 : Int32))), (7, .int (m.1 90 l4.toNatClampNeg)), (6, .int l4), (0, .ref 58), (1, .int l1), (2, .int l2), (3, .int l3), (5, .int l5)] [.int (l2 + (m.1 90 l4.toNatClampNeg)), .ref 98] (y_si m 58 65 ((m.1 58 65) + (1 : Int32))) Q
        refine y_iald rfl rfl rfl (H.1) ?_
        replace H := H.2
        show yP (xg xs) (d + 1) 395 464 [(4, .int (l4 + (1 : Int32))), (7, .int (m.1 90 l4.toNatClampNeg)), (6, .int l4), (0, .ref 58), (1, .int l1), (2, .int l2), (3, .int l3), (5, .int l5)] [.int (m.1 98 ((l2 + (m.1 90 l4.toNatClampNeg)).toNatClampNeg))] (y_si m 58 65 ((m.1 58 65) + (1 : Int32))) Q
        refine y_zne (t := 486) rfl rfl rfl (fun h => ?_) (fun h => ?_)
        · replace H := H.1 h; clear h
          refine y_st rfl rfl rfl rfl rfl (fun _ _ => rfl) ?_
          refine y_gf rfl rfl rfl rfl rfl ?_
          refine y_st rfl rfl rfl rfl rfl (fun _ _ => rfl) ?_
          refine y_st rfl rfl rfl rfl rfl (fun _ _ => rfl) ?_
          refine y_st rfl rfl rfl rfl rfl (fun _ _ => rfl) ?_
          refine y_st rfl rfl rfl rfl rfl (fun _ _ => rfl) ?_
          show yP (xg xs) (d + 1) 395 495 [(4, .int (l4 + (1 : Int32))), (7, .int (m.1 90 l4.toNatClampNeg)), (6, .int l4), (0, .ref 58), (1, .int l1), (2, .int l2), (3, .int l3), (5, .int l5)] [.int (l2 + (m.1 90 l4.toNatClampNeg)), .ref 98, .int (l2 + (m.1 90 l4.toNatClampNeg)), .ref 98] (y_si m 58 65 ((m.1 58 65) + (1 : Int32))) Q
          refine y_iald rfl rfl rfl (H.1) ?_
          replace H := H.2
          refine y_st rfl rfl rfl rfl rfl (fun _ _ => rfl) ?_
          refine y_st rfl rfl rfl rfl rfl (fun _ _ => rfl) ?_
          show yP (xg xs) (d + 1) 395 498 [(4, .int (l4 + (1 : Int32))), (7, .int (m.1 90 l4.toNatClampNeg)), (6, .int l4), (0, .ref 58), (1, .int l1), (2, .int l2), (3, .int l3), (5, .int l5)] [.int ((m.1 98 ((l2 + (m.1 90 l4.toNatClampNeg)).toNatClampNeg)) - (1 : Int32)), .int (l2 + (m.1 90 l4.toNatClampNeg)), .ref 98] (y_si m 58 65 ((m.1 58 65) + (1 : Int32))) Q
          refine y_iast rfl rfl rfl (H.1) ?_
          replace H := H.2
          refine y_st rfl rfl rfl rfl rfl (fun _ _ => rfl) ?_
          show yP (xg xs) (d + 1) 395 561 [(4, .int (l4 + (1 : Int32))), (7, .int (m.1 90 l4.toNatClampNeg)), (6, .int l4), (0, .ref 58), (1, .int l1), (2, .int l2), (3, .int l3), (5, .int l5)] [] (y_si (y_si m 58 65 ((m.1 58 65) + (1 : Int32))) 98 ((l2 + (m.1 90 l4.toNatClampNeg)).toNatClampNeg) ((m.1 98 ((l2 + (m.1 90 l4.toNatClampNeg)).toNatClampNeg)) - (1 : Int32))) Q
          refine y_headS (l2 := [(0, .ref 58), (1, .int l1), (2, .int l2), (3, .int l3), (4, .int (l4 + (1 : Int32))), (5, .int l5)]) [3, 4, 5, 6, 0, 7] [0, 1, 2, 3, 4, 5] [4, 7, 6, 0, 1, 2, 3, 5] rfl rfl (by decide) rfl (by decide) ?_
          exact H
        · replace H := H.2 h; clear h
          refine y_st rfl rfl rfl rfl rfl (fun _ _ => rfl) ?_
          refine y_gf rfl rfl rfl rfl rfl ?_
          refine y_st rfl rfl rfl rfl rfl (fun _ _ => rfl) ?_
          show yP (xg xs) (d + 1) 395 472 [(4, .int (l4 + (1 : Int32))), (7, .int (m.1 90 l4.toNatClampNeg)), (6, .int l4), (0, .ref 58), (1, .int l1), (2, .int l2), (3, .int l3), (5, .int l5)] [.int l1, .ref 93] (y_si m 58 65 ((m.1 58 65) + (1 : Int32))) Q
          refine y_iald rfl rfl rfl (H.1) ?_
          replace H := H.2
          refine y_st rfl rfl rfl rfl rfl (fun _ _ => rfl) ?_
          refine y_gf rfl rfl rfl rfl rfl ?_
          refine y_st rfl rfl rfl rfl rfl (fun _ _ => rfl) ?_
          show yP (xg xs) (d + 1) 395 479 [(4, .int (l4 + (1 : Int32))), (7, .int (m.1 90 l4.toNatClampNeg)), (6, .int l4), (0, .ref 58), (1, .int l1), (2, .int l2), (3, .int l3), (5, .int l5)] [.int l4, .ref 91, .int (m.1 93 l1.toNatClampNeg)] (y_si m 58 65 ((m.1 58 65) + (1 : Int32))) Q
          refine y_iald rfl rfl rfl (H.1) ?_
          replace H := H.2
          refine y_st rfl rfl rfl rfl rfl (fun _ _ => rfl) ?_
          refine y_st rfl rfl rfl rfl rfl (fun _ _ => rfl) ?_
          refine y_st rfl rfl rfl rfl rfl (fun _ _ => rfl) ?_
          show yP (xg xs) (d + 1) 395 561 [(4, .int ((m.1 93 l1.toNatClampNeg) + (m.1 91 l4.toNatClampNeg))), (7, .int (m.1 90 l4.toNatClampNeg)), (6, .int l4), (0, .ref 58), (1, .int l1), (2, .int l2), (3, .int l3), (5, .int l5)] [] (y_si m 58 65 ((m.1 58 65) + (1 : Int32))) Q
          refine y_headS (l2 := [(0, .ref 58), (1, .int l1), (2, .int l2), (3, .int l3), (4, .int ((m.1 93 l1.toNatClampNeg) + (m.1 91 l4.toNatClampNeg))), (5, .int l5)]) [3, 4, 5, 6, 0, 7] [0, 1, 2, 3, 4, 5] [4, 7, 6, 0, 1, 2, 3, 5] rfl rfl (by decide) rfl (by decide) ?_
          exact H
      replace H := H.2
      by_cases h14 : m.1 89 l4.toNatClampNeg = (14 : Int32)
      · replace H := H.1 h14
        refine y_tsw (t := 396) rfl rfl (by rw [h14]; rfl) ?_
        clear h14 h13 h12 h11 h10 h9 h8 h7 h6 h5 h4 h3 h2 h1 h0
        refine y_st rfl rfl rfl rfl rfl (fun _ _ => rfl) ?_
        refine y_gf rfl rfl rfl rfl rfl ?_
        refine y_st rfl rfl rfl rfl rfl (fun _ _ => rfl) ?_
        show yP (xg xs) (d + 1) 395 401 [(4, .int (l4 + (1 : Int32))), (7, .int (m.1 90 l4.toNatClampNeg)), (6, .int l4), (0, .ref 58), (1, .int l1), (2, .int l2), (3, .int l3), (5, .int l5)] [.int l1, .ref 93] (y_si m 58 65 ((m.1 58 65) + (1 : Int32))) Q
        refine y_iald rfl rfl rfl (H.1) ?_
        replace H := H.2
        refine y_st rfl rfl rfl rfl rfl (fun _ _ => rfl) ?_
        refine y_st rfl rfl rfl rfl rfl (fun _ _ => rfl) ?_
        refine y_st rfl rfl rfl rfl rfl (fun _ _ => rfl) ?_
        refine y_st rfl rfl rfl rfl rfl (fun _ _ => rfl) ?_
        show yP (xg xs) (d + 1) 395 561 [(4, .int ((m.1 93 l1.toNatClampNeg) + (m.1 90 l4.toNatClampNeg))), (7, .int (m.1 90 l4.toNatClampNeg)), (6, .int l4), (0, .ref 58), (1, .int l1), (2, .int l2), (3, .int l3), (5, .int l5)] [] (y_si m 58 65 ((m.1 58 65) + (1 : Int32))) Q
        refine y_headS (l2 := [(0, .ref 58), (1, .int l1), (2, .int l2), (3, .int l3), (4, .int ((m.1 93 l1.toNatClampNeg) + (m.1 90 l4.toNatClampNeg))), (5, .int l5)]) [3, 4, 5, 6, 0, 7] [0, 1, 2, 3, 4, 5] [4, 7, 6, 0, 1, 2, 3, 5] rfl rfl (by decide) rfl (by decide) ?_
        exact H
      replace H := H.2
      by_cases h15 : m.1 89 l4.toNatClampNeg = (15 : Int32)
      · replace H := H.1 h15
        refine y_tsw (t := 502) rfl rfl (by rw [h15]; rfl) ?_
        clear h15 h14 h13 h12 h11 h10 h9 h8 h7 h6 h5 h4 h3 h2 h1 h0
        refine y_st rfl rfl rfl rfl rfl (fun _ _ => rfl) ?_
        refine y_st rfl rfl rfl rfl rfl (fun _ _ => rfl) ?_
        refine y_st rfl rfl rfl rfl rfl (fun _ _ => rfl) ?_
        refine y_st rfl rfl rfl rfl rfl (fun _ _ => rfl) ?_
        refine y_gf rfl rfl rfl rfl rfl ?_
        refine y_st rfl rfl rfl rfl rfl (fun _ _ => rfl) ?_
        show yP (xg xs) (d + 1) 395 512 [(4, .int (l4 + (1 : Int32))), (7, .int (m.1 90 l4.toNatClampNeg)), (6, .int l4), (0, .ref 58), (1, .int l1), (2, .int l2), (3, .int l3), (5, .int l5)] [.int l4, .ref 91, .int l2, .int (m.1 90 l4.toNatClampNeg), .ref 58] (y_si m 58 65 ((m.1 58 65) + (1 : Int32))) Q
        refine y_iald rfl rfl rfl (H.1) ?_
        replace H := H.2
        refine y_st rfl rfl rfl rfl rfl (fun _ _ => rfl) ?_
        show yP (xg xs) (d + 1) 395 514 [(4, .int (l4 + (1 : Int32))), (7, .int (m.1 90 l4.toNatClampNeg)), (6, .int l4), (0, .ref 58), (1, .int l1), (2, .int l2), (3, .int l3), (5, .int l5)] [.int (l2 + (m.1 91 l4.toNatClampNeg)), .int (m.1 90 l4.toNatClampNeg), .ref 58] (y_si m 58 65 ((m.1 58 65) + (1 : Int32))) Q
        refine y_call rfl rfl rfl rfl rfl (Nat.le_of_ble_eq_true rfl) (Nat.le_of_ble_eq_true rfl) rfl (by decide) H (fun v17 m17 H => ?_)
        obtain ⟨u17, rfl, H⟩ := H
        refine y_st rfl rfl rfl rfl rfl (fun _ _ => rfl) ?_
        refine y_st rfl rfl rfl rfl rfl (fun _ _ => rfl) ?_
        show yP (xg xs) (d + 1) 395 561 [(5, .int u17), (4, .int (l4 + (1 : Int32))), (7, .int (m.1 90 l4.toNatClampNeg)), (6, .int l4), (0, .ref 58), (1, .int l1), (2, .int l2), (3, .int l3)] [] m17 Q
        refine y_headS (l2 := [(0, .ref 58), (1, .int l1), (2, .int l2), (3, .int l3), (4, .int (l4 + (1 : Int32))), (5, .int u17)]) [4, 5, 6, 7, 1, 0] [0, 1, 2, 3, 4, 5] [5, 4, 7, 6, 0, 1, 2, 3] rfl rfl (by decide) rfl (by decide) ?_
        exact H
      replace H := H.2
      by_cases h16 : m.1 89 l4.toNatClampNeg = (16 : Int32)
      · replace H := H.1 h16
        refine y_tsw (t := 522) rfl rfl (by rw [h16]; rfl) ?_
        clear h16 h15 h14 h13 h12 h11 h10 h9 h8 h7 h6 h5 h4 h3 h2 h1 h0
        refine y_st rfl rfl rfl rfl rfl (fun _ _ => rfl) ?_
        refine y_st rfl rfl rfl rfl rfl (fun _ _ => rfl) ?_
        refine y_st rfl rfl rfl rfl rfl (fun _ _ => rfl) ?_
        refine y_gf rfl rfl rfl rfl rfl ?_
        refine y_st rfl rfl rfl rfl rfl (fun _ _ => rfl) ?_
        show yP (xg xs) (d + 1) 395 531 [(4, .int (l4 + (1 : Int32))), (7, .int (m.1 90 l4.toNatClampNeg)), (6, .int l4), (0, .ref 58), (1, .int l1), (2, .int l2), (3, .int l3), (5, .int l5)] [.int (m.1 90 l4.toNatClampNeg), .ref 74, .int (m.1 90 l4.toNatClampNeg), .ref 58] (y_si m 58 65 ((m.1 58 65) + (1 : Int32))) Q
        refine y_iald rfl rfl rfl (H.1) ?_
        replace H := H.2
        show yP (xg xs) (d + 1) 395 532 [(4, .int (l4 + (1 : Int32))), (7, .int (m.1 90 l4.toNatClampNeg)), (6, .int l4), (0, .ref 58), (1, .int l1), (2, .int l2), (3, .int l3), (5, .int l5)] [.int (m.1 74 ((m.1 90 l4.toNatClampNeg).toNatClampNeg)), .int (m.1 90 l4.toNatClampNeg), .ref 58] (y_si m 58 65 ((m.1 58 65) + (1 : Int32))) Q
        refine y_call rfl rfl rfl rfl rfl (Nat.le_of_ble_eq_true rfl) (Nat.le_of_ble_eq_true rfl) rfl (by decide) H (fun v18 m18 H => ?_)
        obtain ⟨u18, rfl, H⟩ := H
        refine y_st rfl rfl rfl rfl rfl (fun _ _ => rfl) ?_
        refine y_st rfl rfl rfl rfl rfl (fun _ _ => rfl) ?_
        show yP (xg xs) (d + 1) 395 561 [(5, .int u18), (4, .int (l4 + (1 : Int32))), (7, .int (m.1 90 l4.toNatClampNeg)), (6, .int l4), (0, .ref 58), (1, .int l1), (2, .int l2), (3, .int l3)] [] m18 Q
        refine y_headS (l2 := [(0, .ref 58), (1, .int l1), (2, .int l2), (3, .int l3), (4, .int (l4 + (1 : Int32))), (5, .int u18)]) [4, 5, 6, 7, 1, 0] [0, 1, 2, 3, 4, 5] [5, 4, 7, 6, 0, 1, 2, 3] rfl rfl (by decide) rfl (by decide) ?_
        exact H
      replace H := H.2
      by_cases h17 : m.1 89 l4.toNatClampNeg = (17 : Int32)
      · replace H := H.1 h17
        refine y_tsw (t := 540) rfl rfl (by rw [h17]; rfl) ?_
        clear h17 h16 h15 h14 h13 h12 h11 h10 h9 h8 h7 h6 h5 h4 h3 h2 h1 h0
        refine y_st rfl rfl rfl rfl rfl (fun _ _ => rfl) ?_
        refine y_st rfl rfl rfl rfl rfl (fun _ _ => rfl) ?_
        refine y_st rfl rfl rfl rfl rfl (fun _ _ => rfl) ?_
        refine y_st rfl rfl rfl rfl rfl (fun _ _ => rfl) ?_
        refine y_gf rfl rfl rfl rfl rfl ?_
        refine y_st rfl rfl rfl rfl rfl (fun _ _ => rfl) ?_
        show yP (xg xs) (d + 1) 395 550 [(4, .int (l4 + (1 : Int32))), (7, .int (m.1 90 l4.toNatClampNeg)), (6, .int l4), (0, .ref 58), (1, .int l1), (2, .int l2), (3, .int l3), (5, .int l5)] [.int l4, .ref 91, .int l2, .int (m.1 90 l4.toNatClampNeg), .ref 58] (y_si m 58 65 ((m.1 58 65) + (1 : Int32))) Q
        refine y_iald rfl rfl rfl (H.1) ?_
        replace H := H.2
        refine y_st rfl rfl rfl rfl rfl (fun _ _ => rfl) ?_
        show yP (xg xs) (d + 1) 395 552 [(4, .int (l4 + (1 : Int32))), (7, .int (m.1 90 l4.toNatClampNeg)), (6, .int l4), (0, .ref 58), (1, .int l1), (2, .int l2), (3, .int l3), (5, .int l5)] [.int (l2 + (m.1 91 l4.toNatClampNeg)), .int (m.1 90 l4.toNatClampNeg), .ref 58] (y_si m 58 65 ((m.1 58 65) + (1 : Int32))) Q
        refine y_call rfl rfl rfl rfl rfl (Nat.le_of_ble_eq_true rfl) (Nat.le_of_ble_eq_true rfl) rfl (by decide) H (fun v19 m19 H => ?_)
        obtain ⟨rfl, H⟩ := H
        refine y_st rfl rfl rfl rfl rfl (fun _ _ => rfl) ?_
        show yP (xg xs) (d + 1) 395 561 [(4, .int (l4 + (1 : Int32))), (7, .int (m.1 90 l4.toNatClampNeg)), (6, .int l4), (0, .ref 58), (1, .int l1), (2, .int l2), (3, .int l3), (5, .int l5)] [] m19 Q
        refine y_headS (l2 := [(0, .ref 58), (1, .int l1), (2, .int l2), (3, .int l3), (4, .int (l4 + (1 : Int32))), (5, .int l5)]) [3, 4, 5, 6, 0, 7] [0, 1, 2, 3, 4, 5] [4, 7, 6, 0, 1, 2, 3, 5] rfl rfl (by decide) rfl (by decide) ?_
        exact H
      replace H := H.2
      refine y_tsw (t := 558) rfl rfl ((if_pos (by have g0 := ne_lit (0 : Int32) 0 rfl h0; have g1 := ne_lit (1 : Int32) 1 rfl h1; have g2 := ne_lit (2 : Int32) 2 rfl h2; have g3 := ne_lit (3 : Int32) 3 rfl h3; have g4 := ne_lit (4 : Int32) 4 rfl h4; have g5 := ne_lit (5 : Int32) 5 rfl h5; have g6 := ne_lit (6 : Int32) 6 rfl h6; have g7 := ne_lit (7 : Int32) 7 rfl h7; have g8 := ne_lit (8 : Int32) 8 rfl h8; have g9 := ne_lit (9 : Int32) 9 rfl h9; have g10 := ne_lit (10 : Int32) 10 rfl h10; have g11 := ne_lit (11 : Int32) 11 rfl h11; have g12 := ne_lit (12 : Int32) 12 rfl h12; have g13 := ne_lit (13 : Int32) 13 rfl h13; have g14 := ne_lit (14 : Int32) 14 rfl h14; have g15 := ne_lit (15 : Int32) 15 rfl h15; have g16 := ne_lit (16 : Int32) 16 rfl h16; have g17 := ne_lit (17 : Int32) 17 rfl h17; omega)).trans rfl) ?_
      replace H := H h0 h1 h2 h3 h4 h5 h6 h7 h8 h9 h10 h11 h12 h13 h14 h15 h16 h17
      clear h17 h16 h15 h14 h13 h12 h11 h10 h9 h8 h7 h6 h5 h4 h3 h2 h1 h0
      refine y_st rfl rfl rfl rfl rfl (fun _ _ => rfl) ?_
      refine y_st rfl rfl rfl rfl rfl (fun _ _ => rfl) ?_
      show yP (xg xs) (d + 1) 395 561 [(4, .int l3), (7, .int (m.1 90 l4.toNatClampNeg)), (6, .int l4), (0, .ref 58), (1, .int l1), (2, .int l2), (3, .int l3), (5, .int l5)] [] (y_si m 58 65 ((m.1 58 65) + (1 : Int32))) Q
      refine y_headS (l2 := [(0, .ref 58), (1, .int l1), (2, .int l2), (3, .int l3), (4, .int l3), (5, .int l5)]) [3, 4, 5, 6, 0, 7] [0, 1, 2, 3, 4, 5] [4, 7, 6, 0, 1, 2, 3, 5] rfl rfl (by decide) rfl (by decide) ?_
      exact H
set_option maxRecDepth 20000 in
/-- CodeMakerModel.go from 297 on -/
theorem w395_297 (xs : List Int32) (d : Nat) (l1 : Int32) (l2 : Int32) (l3 : Int32) (l4 : Int32) (l7 : Int32) (l8 : Int32) (l9 : Int32) (m : yM) (Q : Option Value → yM → Prop) (H : yP (xg xs) (d + 1) 395 302 [(0, .ref 58), (1, .int l1), (2, .int l2), (3, .int l3), (4, .int l4), (7, .int l7), (8, .int l8), (9, .int l9)] [.int (1 : Int32)] m Q) : yP (xg xs) (d + 1) 395 297 [(0, .ref 58), (1, .int l1), (2, .int l2), (3, .int l3), (4, .int l4), (7, .int l7), (8, .int l8), (9, .int l9)] [] m Q := by
  refine y_st rfl rfl rfl rfl rfl (fun _ _ => rfl) ?_
  refine y_st rfl rfl rfl rfl rfl (fun _ _ => rfl) ?_
  show yP (xg xs) (d + 1) 395 302 [(0, .ref 58), (1, .int l1), (2, .int l2), (3, .int l3), (4, .int l4), (7, .int l7), (8, .int l8), (9, .int l9)] [.int (1 : Int32)] m Q
  exact H
set_option maxRecDepth 20000 in
/-- CodeMakerModel.go from 302 on -/
theorem w395_302 (xs : List Int32) (d : Nat) (l1 : Int32) (l2 : Int32) (l3 : Int32) (l4 : Int32) (l7 : Int32) (l8 : Int32) (l9 : Int32) (s0 : Int32) (m : yM) (Q : Option Value → yM → Prop) (H : ((s0 = 0 → yP (xg xs) (d + 1) 395 319 [(0, .ref 58), (1, .int l1), (2, .int l2), (3, .int l3), (4, .int l4), (7, .int l7), (8, .int l8), (9, .int l9)] [] m Q) ∧ (¬ s0 = 0 → ((¬ l8 = 0 → yP (xg xs) (d + 1) 395 319 [(0, .ref 58), (1, .int l1), (2, .int l2), (3, .int l3), (4, .int l4), (7, .int l7), (8, .int l8), (9, .int l9)] [] m Q) ∧ (l8 = 0 → yP (xg xs) (d + 1) 395 320 [(0, .ref 58), (1, .int l1), (2, .int l2), (3, .int l3), (4, .int l4), (7, .int l7), (8, .int l8), (9, .int l9)] [.int ((-3) : Int32)] m Q))))) : yP (xg xs) (d + 1) 395 302 [(0, .ref 58), (1, .int l1), (2, .int l2), (3, .int l3), (4, .int l4), (7, .int l7), (8, .int l8), (9, .int l9)] [.int s0] m Q := by
  refine y_st rfl rfl rfl rfl rfl (fun _ _ => rfl) ?_
  refine y_st rfl rfl rfl rfl rfl (fun _ _ => rfl) ?_
  show yP (xg xs) (d + 1) 395 306 [(10, .int s0), (0, .ref 58), (1, .int l1), (2, .int l2), (3, .int l3), (4, .int l4), (7, .int l7), (8, .int l8), (9, .int l9)] [.int s0] m Q
  refine y_zeq (t := 319) rfl rfl rfl (fun h => ?_) (fun h => ?_)
  · replace H := H.1 h; clear h
    show yP (xg xs) (d + 1) 395 319 [(10, .int s0), (0, .ref 58), (1, .int l1), (2, .int l2), (3, .int l3), (4, .int l4), (7, .int l7), (8, .int l8), (9, .int l9)] [] m Q
    refine y_headS (l2 := [(0, .ref 58), (1, .int l1), (2, .int l2), (3, .int l3), (4, .int l4), (7, .int l7), (8, .int l8), (9, .int l9)]) [1, 2, 3, 4, 5, 6, 7, 8] [0, 1, 2, 3, 4, 7, 8, 9] [10, 0, 1, 2, 3, 4, 7, 8, 9] rfl rfl (by decide) rfl (by decide) ?_
    exact H
  · replace H := H.2 h; clear h
    refine y_st rfl rfl rfl rfl rfl (fun _ _ => rfl) ?_
    show yP (xg xs) (d + 1) 395 311 [(10, .int s0), (0, .ref 58), (1, .int l1), (2, .int l2), (3, .int l3), (4, .int l4), (7, .int l7), (8, .int l8), (9, .int l9)] [.int l8] m Q
    refine y_zne (t := 319) rfl rfl rfl (fun h => ?_) (fun h => ?_)
    · replace H := H.1 h; clear h
      show yP (xg xs) (d + 1) 395 319 [(10, .int s0), (0, .ref 58), (1, .int l1), (2, .int l2), (3, .int l3), (4, .int l4), (7, .int l7), (8, .int l8), (9, .int l9)] [] m Q
      refine y_headS (l2 := [(0, .ref 58), (1, .int l1), (2, .int l2), (3, .int l3), (4, .int l4), (7, .int l7), (8, .int l8), (9, .int l9)]) [1, 2, 3, 4, 5, 6, 7, 8] [0, 1, 2, 3, 4, 7, 8, 9] [10, 0, 1, 2, 3, 4, 7, 8, 9] rfl rfl (by decide) rfl (by decide) ?_
      exact H
    · replace H := H.2 h; clear h
      refine y_st rfl rfl rfl rfl rfl (fun _ _ => rfl) ?_
      refine y_st rfl rfl rfl rfl rfl (fun _ _ => rfl) ?_
      show yP (xg xs) (d + 1) 395 320 [(10, .int s0), (0, .ref 58), (1, .int l1), (2, .int l2), (3, .int l3), (4, .int l4), (7, .int l7), (8, .int l8), (9, .int l9)] [.int ((-3) : Int32)] m Q
      refine y_headS (l2 := [(0, .ref 58), (1, .int l1), (2, .int l2), (3, .int l3), (4, .int l4), (7, .int l7), (8, .int l8), (9, .int l9)]) [1, 2, 3, 4, 5, 6, 7, 8] [0, 1, 2, 3, 4, 7, 8, 9] [10, 0, 1, 2, 3, 4, 7, 8, 9] rfl rfl (by decide) rfl (by decide) ?_
      exact H
set_option maxRecDepth 20000 in
/-- CodeMakerModel.go from 319 on -/
theorem w395_319 (xs : List Int32) (d : Nat) (l1 : Int32) (l2 : Int32) (l3 : Int32) (l4 : Int32) (l7 : Int32) (l8 : Int32) (l9 : Int32) (m : yM) (Q : Option Value → yM → Prop) (H : yP (xg xs) (d + 1) 395 320 [(0, .ref 58), (1, .int l1), (2, .int l2), (3, .int l3), (4, .int l4), (7, .int l7), (8, .int l8), (9, .int l9)] [.int (0 : Int32)] m Q) : yP (xg xs) (d + 1) 395 319 [(0, .ref 58), (1, .int l1), (2, .int l2), (3, .int l3), (4, .int l4), (7, .int l7), (8, .int l8), (9, .int l9)] [] m Q := by
  refine y_st rfl rfl rfl rfl rfl (fun _ _ => rfl) ?_
  show yP (xg xs) (d + 1) 395 320 [(0, .ref 58), (1, .int l1), (2, .int l2), (3, .int l3), (4, .int l4), (7, .int l7), (8, .int l8), (9, .int l9)] [.int (0 : Int32)] m Q
  exact H
set_option maxRecDepth 20000 in
/-- CodeMakerModel.go from 320 on -/
theorem w395_320 (xs : List Int32) (d : Nat) (l1 : Int32) (l2 : Int32) (l3 : Int32) (l4 : Int32) (l7 : Int32) (l8 : Int32) (l9 : Int32) (s0 : Int32) (m : yM) (Q : Option Value → yM → Prop) (H : ((¬ s0 = 0 → yP (xg xs) (d + 1) 395 341 [(0, .ref 58), (1, .int l1), (2, .int l2), (3, .int l3), (4, .int l4), (5, .int s0)] [.int (0 : Int32), .ref 58] m Q) ∧ (s0 = 0 → (yC (xg xs) d 363 [.int l7, .int l9, .int l8] m (fun v1 m1 => ∃ u1, v1 = some (Value.int u1) ∧ yP (xg xs) (d + 1) 395 341 [(0, .ref 58), (1, .int l1), (2, .int l2), (3, .int l3), (4, .int l4), (5, .int s0)] [.int u1, .ref 58] m1 Q))))) : yP (xg xs) (d + 1) 395 320 [(0, .ref 58), (1, .int l1), (2, .int l2), (3, .int l3), (4, .int l4), (7, .int l7), (8, .int l8), (9, .int l9)] [.int s0] m Q := by
  refine y_st rfl rfl rfl rfl rfl (fun _ _ => rfl) ?_
  refine y_st rfl rfl rfl rfl rfl (fun _ _ => rfl) ?_
  refine y_st rfl rfl rfl rfl rfl (fun _ _ => rfl) ?_
  show yP (xg xs) (d + 1) 395 325 [(5, .int s0), (0, .ref 58), (1, .int l1), (2, .int l2), (3, .int l3), (4, .int l4), (7, .int l7), (8, .int l8), (9, .int l9)] [.int s0, .ref 58] m Q
  refine y_zne (t := 340) rfl rfl rfl (fun h => ?_) (fun h => ?_)
  · replace H := H.1 h; clear h
    refine y_st rfl rfl rfl rfl rfl (fun _ _ => rfl) ?_
    show yP (xg xs) (d + 1) 395 341 [(5, .int s0), (0, .ref 58), (1, .int l1), (2, .int l2), (3, .int l3), (4, .int l4), (7, .int l7), (8, .int l8), (9, .int l9)] [.int (0 : Int32), .ref 58] m Q
    refine y_headS (l2 := [(0, .ref 58), (1, .int l1), (2, .int l2), (3, .int l3), (4, .int l4), (5, .int s0)]) [1, 2, 3, 4, 5, 0] [0, 1, 2, 3, 4, 5] [5, 0, 1, 2, 3, 4, 7, 8, 9] rfl rfl (by decide) rfl (by decide) ?_
    exact H
  · replace H := H.2 h; clear h
    refine y_st rfl rfl rfl rfl rfl (fun _ _ => rfl) ?_
    refine y_st rfl rfl rfl rfl rfl (fun _ _ => rfl) ?_
    refine y_st rfl rfl rfl rfl rfl (fun _ _ => rfl) ?_
    show yP (xg xs) (d + 1) 395 334 [(5, .int s0), (0, .ref 58), (1, .int l1), (2, .int l2), (3, .int l3), (4, .int l4), (7, .int l7), (8, .int l8), (9, .int l9)] [.int l8, .int l9, .int l7, .ref 58] m Q
    refine y_call rfl rfl rfl rfl rfl (Nat.le_of_ble_eq_true rfl) (Nat.le_of_ble_eq_true rfl) rfl (by decide) H (fun v1 m1 H => ?_)
    obtain ⟨u1, rfl, H⟩ := H
    refine y_st rfl rfl rfl rfl rfl (fun _ _ => rfl) ?_
    show yP (xg xs) (d + 1) 395 341 [(5, .int s0), (0, .ref 58), (1, .int l1), (2, .int l2), (3, .int l3), (4, .int l4), (7, .int l7), (8, .int l8), (9, .int l9)] [.int u1, .ref 58] m1 Q
    refine y_headS (l2 := [(0, .ref 58), (1, .int l1), (2, .int l2), (3, .int l3), (4, .int l4), (5, .int s0)]) [1, 2, 3, 4, 5, 0] [0, 1, 2, 3, 4, 5] [5, 0, 1, 2, 3, 4, 7, 8, 9] rfl rfl (by decide) rfl (by decide) ?_
    exact H
set_option maxRecDepth 20000 in
/-- CodeMakerModel.go from 341 on -/
theorem w395_341 (xs : List Int32) (d : Nat) (l1 : Int32) (l2 : Int32) (l3 : Int32) (l4 : Int32) (l5 : Int32) (s1 : Int32) (m : yM) (Q : Option Value → yM → Prop) (H : (yC (xg xs) d 396 [.ref 58, .int s1] m (fun v1 m1 => v1 = none ∧ yP (xg xs) (d + 1) 395 561 [(0, .ref 58), (1, .int l1), (2, .int l2), (3, .int l3), (4, .int l4), (5, .int l5)] [] m1 Q))) : yP (xg xs) (d + 1) 395 341 [(0, .ref 58), (1, .int l1), (2, .int l2), (3, .int l3), (4, .int l4), (5, .int l5)] [.int s1, .ref 58] m Q := by
  show yP (xg xs) (d + 1) 395 341 [(0, .ref 58), (1, .int l1), (2, .int l2), (3, .int l3), (4, .int l4), (5, .int l5)] [.int s1, .ref 58] m Q
  refine y_call rfl rfl rfl rfl rfl (Nat.le_of_ble_eq_true rfl) (Nat.le_of_ble_eq_true rfl) rfl (by decide) H (fun v1 m1 H => ?_)
  obtain ⟨rfl, H⟩ := H
  refine y_st rfl rfl rfl rfl rfl (fun _ _ => rfl) ?_
  show yP (xg xs) (d + 1) 395 561 [(0, .ref 58), (1, .int l1), (2, .int l2), (3, .int l3), (4, .int l4), (5, .int l5)] [] m1 Q
  exact H
set_option maxRecDepth 20000 in
/-- CodeMakerModel.go from 390 on -/
theorem w395_390 (xs : List Int32) (d : Nat) (l1 : Int32) (l2 : Int32) (l3 : Int32) (l4 : Int32) (l5 : Int32) (s1 : Int32) (m : yM) (Q : Option Value → yM → Prop) (H : (yC (xg xs) d 396 [.ref 58, .int s1] m (fun v1 m1 => v1 = none ∧ yP (xg xs) (d + 1) 395 561 [(0, .ref 58), (1, .int l1), (2, .int l2), (3, .int l3), (4, .int l4), (5, .int l5)] [] m1 Q))) : yP (xg xs) (d + 1) 395 390 [(0, .ref 58), (1, .int l1), (2, .int l2), (3, .int l3), (4, .int l4), (5, .int l5)] [.int s1, .ref 58] m Q := by
  show yP (xg xs) (d + 1) 395 390 [(0, .ref 58), (1, .int l1), (2, .int l2), (3, .int l3), (4, .int l4), (5, .int l5)] [.int s1, .ref 58] m Q
  refine y_call rfl rfl rfl rfl rfl (Nat.le_of_ble_eq_true rfl) (Nat.le_of_ble_eq_true rfl) rfl (by decide) H (fun v1 m1 H => ?_)
  obtain ⟨rfl, H⟩ := H
  refine y_st rfl rfl rfl rfl rfl (fun _ _ => rfl) ?_
  show yP (xg xs) (d + 1) 395 561 [(0, .ref 58), (1, .int l1), (2, .int l2), (3, .int l3), (4, .int l4), (5, .int l5)] [] m1 Q
  exact H
set_option maxRecDepth 20000 in
/-- CodeMakerModel.go from 431 on -/
theorem w395_431 (xs : List Int32) (d : Nat) (l1 : Int32) (l2 : Int32) (l3 : Int32) (l5 : Int32) (s0 : Int32) (m : yM) (Q : Option Value → yM → Prop) (H : yP (xg xs) (d + 1) 395 561 [(0, .ref 58), (1, .int l1), (2, .int l2), (3, .int l3), (4, .int s0), (5, .int l5)] [] m Q) : yP (xg xs) (d + 1) 395 431 [(0, .ref 58), (1, .int l1), (2, .int l2), (3, .int l3), (5, .int l5)] [.int s0] m Q := by
  refine y_st rfl rfl rfl rfl rfl (fun _ _ => rfl) ?_
  refine y_st rfl rfl rfl rfl rfl (fun _ _ => rfl) ?_
  show yP (xg xs) (d + 1) 395 561 [(4, .int s0), (0, .ref 58), (1, .int l1), (2, .int l2), (3, .int l3), (5, .int l5)] [] m Q
  refine y_headS (l2 := [(0, .ref 58), (1, .int l1), (2, .int l2), (3, .int l3), (4, .int s0), (5, .int l5)]) [1, 2, 3, 4, 0, 5] [0, 1, 2, 3, 4, 5] [4, 0, 1, 2, 3, 5] rfl rfl (by decide) rfl (by decide) ?_
  exact H
set_option maxRecDepth 20000 in
/-- CodeMakerModel.go from 561 on -/
theorem w395_561 (xs : List Int32) (d : Nat) (l1 : Int32) (l2 : Int32) (l3 : Int32) (l4 : Int32) (l5 : Int32) (m : yM) (Q : Option Value → yM → Prop) (H : yP (xg xs) (d + 1) 395 20 [(0, .ref 58), (1, .int l1), (2, .int l2), (3, .int l3), (4, .int l4), (5, .int l5)] [] m Q) : yP (xg xs) (d + 1) 395 561 [(0, .ref 58), (1, .int l1), (2, .int l2), (3, .int l3), (4, .int l4), (5, .int l5)] [] m Q := by
  refine y_st rfl rfl rfl rfl rfl (fun _ _ => rfl) ?_
  show yP (xg xs) (d + 1) 395 20 [(0, .ref 58), (1, .int l1), (2, .int l2), (3, .int l3), (4, .int l4), (5, .int l5)] [] m Q
  exact H
set_option maxRecDepth 20000 in
/-- CodeMakerModel.part from 0 on -/
theorem w398_0 (xs : List Int32) (d : Nat) (l1 : Int32) (l2 : Int32) (m : yM) (Q : Option Value → yM → Prop) (H : (x_in l1 3001 = true ∧ ((¬ (m.1 89 l1.toNatClampNeg) = (4 : Int32) → yP (xg xs) (d + 1) 398 18 [(0, .ref 58), (1, .int l1), (2, .int l2)] [.int (0 : Int32)] m Q) ∧ ((m.1 89 l1.toNatClampNeg) = (4 : Int32) → (yC (xg xs) d 397 [.ref 58] m (fun v1 m1 => ∃ u1, v1 = some (Value.int u1) ∧ yP (xg xs) (d + 1) 398 18 [(0, .ref 58), (1, .int l1), (2, .int l2)] [.int u1] m1 Q)))))) : yP (xg xs) (d + 1) 398 0 [(0, .ref 58), (1, .int l1), (2, .int l2)] [] m Q := by
  refine y_st rfl rfl rfl rfl rfl (fun _ _ => rfl) ?_
  refine y_gf rfl rfl rfl rfl rfl ?_
  refine y_st rfl rfl rfl rfl rfl (fun _ _ => rfl) ?_
  show yP (xg xs) (d + 1) 398 5 [(0, .ref 58), (1, .int l1), (2, .int l2)] [.int l1, .ref 89] m Q
  refine y_iald rfl rfl rfl (H.1) ?_
  replace H := H.2
  refine y_st rfl rfl rfl rfl rfl (fun _ _ => rfl) ?_
  show yP (xg xs) (d + 1) 398 7 [(0, .ref 58), (1, .int l1), (2, .int l2)] [.int (4 : Int32), .int (m.1 89 l1.toNatClampNeg)] m Q
  refine y_ine (t := 17) rfl rfl rfl (fun h => ?_) (fun h => ?_)
  · replace H := H.1 h; clear h
    refine y_st rfl rfl rfl rfl rfl (fun _ _ => rfl) ?_
    show yP (xg xs) (d + 1) 398 18 [(0, .ref 58), (1, .int l1), (2, .int l2)] [.int (0 : Int32)] m Q
    exact H
  · replace H := H.2 h; clear h
    refine y_st rfl rfl rfl rfl rfl (fun _ _ => rfl) ?_
    show yP (xg xs) (d + 1) 398 11 [(0, .ref 58), (1, .int l1), (2, .int l2)] [.ref 58] m Q
    refine y_call rfl rfl rfl rfl rfl (Nat.le_of_ble_eq_true rfl) (Nat.le_of_ble_eq_true rfl) rfl (by decide) H (fun v1 m1 H => ?_)
    obtain ⟨u1, rfl, H⟩ := H
    refine y_st rfl rfl rfl rfl rfl (fun _ _ => rfl) ?_
    show yP (xg xs) (d + 1) 398 18 [(0, .ref 58), (1, .int l1), (2, .int l2)] [.int u1] m1 Q
    exact H
set_option maxRecDepth 20000 in
/-- CodeMakerModel.part from 18 on -/
theorem w398_18 (xs : List Int32) (d : Nat) (l1 : Int32) (l2 : Int32) (s0 : Int32) (m : yM) (Q : Option Value → yM → Prop) (H : (yC (xg xs) d 397 [.ref 58] m (fun v1 m1 => ∃ u1, v1 = some (Value.int u1) ∧ (x_in l1 3001 = true ∧ (((lg_cmp (u1.toInt64 - ((m1.1 91 l1.toNatClampNeg).toInt64)) (0 : Int64)) < 0 → Q (some (.int ((-4) : Int32))) m1) ∧ (¬ (lg_cmp (u1.toInt64 - ((m1.1 91 l1.toNatClampNeg).toInt64)) (0 : Int64)) < 0 → (x_in l1 3001 = true ∧ (((lg_cmp (u1.toInt64 - ((m1.1 91 l1.toNatClampNeg).toInt64)) ((m1.1 92 l1.toNatClampNeg).toInt64)) < 0 → (x_in l1 3001 = true ∧ (x_in l1 3001 = true ∧ ((¬ (m1.1 89 l1.toNatClampNeg) = (4 : Int32) → (x_in ((l2 + (m1.1 90 l1.toNatClampNeg)) + ((u1.toInt64 - ((m1.1 91 l1.toNatClampNeg).toInt64)).toInt32)) 8192 = true ∧ (yC (xg xs) d 396 [.ref 58, .int (m1.1 98 (((l2 + (m1.1 90 l1.toNatClampNeg)) + ((u1.toInt64 - ((m1.1 91 l1.toNatClampNeg).toInt64)).toInt32)).toNatClampNeg))] m1 (fun v2 m2 => v2 = none ∧ Q (some (.int (0 : Int32))) m2)))) ∧ ((m1.1 89 l1.toNatClampNeg) = (4 : Int32) → (x_in ((l2 + (m1.1 90 l1.toNatClampNeg)) + ((u1.toInt64 - ((m1.1 91 l1.toNatClampNeg).toInt64)).toInt32)) 8192 = true ∧ Q (some (.int (0 : Int32))) (y_si m1 98 (((l2 + (m1.1 90 l1.toNatClampNeg)) + ((u1.toInt64 - ((m1.1 91 l1.toNatClampNeg).toInt64)).toInt32)).toNatClampNeg) s0))))))) ∧ (¬ (lg_cmp (u1.toInt64 - ((m1.1 91 l1.toNatClampNeg).toInt64)) ((m1.1 92 l1.toNatClampNeg).toInt64)) < 0 → Q (some (.int ((-4) : Int32))) m1))))))))) : yP (xg xs) (d + 1) 398 18 [(0, .ref 58), (1, .int l1), (2, .int l2)] [.int s0] m Q := by
  refine y_st rfl rfl rfl rfl rfl (fun _ _ => rfl) ?_
  refine y_st rfl rfl rfl rfl rfl (fun _ _ => rfl) ?_
  show yP (xg xs) (d + 1) 398 20 [(3, .int s0), (0, .ref 58), (1, .int l1), (2, .int l2)] [.ref 58] m Q
  refine y_call rfl rfl rfl rfl rfl (Nat.le_of_ble_eq_true rfl) (Nat.le_of_ble_eq_true rfl) rfl (by decide) H (fun v1 m1 H => ?_)
  obtain ⟨u1, rfl, H⟩ := H
  refine y_st rfl rfl rfl rfl rfl (fun _ _ => rfl) ?_
  refine y_st rfl rfl rfl rfl rfl (fun _ _ => rfl) ?_
  refine y_gf rfl rfl rfl rfl rfl ?_
  refine y_st rfl rfl rfl rfl rfl (fun _ _ => rfl) ?_
  show yP (xg xs) (d + 1) 398 29 [(3, .int s0), (0, .ref 58), (1, .int l1), (2, .int l2)] [.int l1, .ref 91, .long u1.toInt64] m1 Q
  refine y_iald rfl rfl rfl (H.1) ?_
  replace H := H.2
  refine y_st rfl rfl rfl rfl rfl (fun _ _ => rfl) ?_
  refine y_st rfl rfl rfl rfl rfl (fun _ _ => rfl) ?_
  refine y_st rfl rfl rfl rfl rfl (fun _ _ => rfl) ?_
  refine y_st rfl rfl rfl rfl rfl (fun _ _ => rfl) ?_
  refine y_st rfl rfl rfl rfl rfl (fun _ _ => rfl) ?_
  refine y_st rfl rfl rfl rfl rfl (fun _ _ => rfl) ?_
  show yP (xg xs) (d + 1) 398 38 [(4, .long (u1.toInt64 - ((m1.1 91 l1.toNatClampNeg).toInt64))), (3, .int s0), (0, .ref 58), (1, .int l1), (2, .int l2)] [.int (lg_cmp (u1.toInt64 - ((m1.1 91 l1.toNatClampNeg).toInt64)) (0 : Int64))] m1 Q
  refine y_zlt (t := 54) rfl rfl rfl (fun h => ?_) (fun h => ?_)
  · replace H := H.1 h; clear h
    refine y_st rfl rfl rfl rfl rfl (fun _ _ => rfl) ?_
    show yP (xg xs) (d + 1) 398 56 [(4, .long (u1.toInt64 - ((m1.1 91 l1.toNatClampNeg).toInt64))), (3, .int s0), (0, .ref 58), (1, .int l1), (2, .int l2)] [.int ((-4) : Int32)] m1 Q
    exact y_iret rfl rfl rfl H
  · replace H := H.2 h; clear h
    refine y_st rfl rfl rfl rfl rfl (fun _ _ => rfl) ?_
    refine y_st rfl rfl rfl rfl rfl (fun _ _ => rfl) ?_
    refine y_gf rfl rfl rfl rfl rfl ?_
    refine y_st rfl rfl rfl rfl rfl (fun _ _ => rfl) ?_
    show yP (xg xs) (d + 1) 398 48 [(4, .long (u1.toInt64 - ((m1.1 91 l1.toNatClampNeg).toInt64))), (3, .int s0), (0, .ref 58), (1, .int l1), (2, .int l2)] [.int l1, .ref 92, .long (u1.toInt64 - ((m1.1 91 l1.toNatClampNeg).toInt64))] m1 Q
    refine y_iald rfl rfl rfl (H.1) ?_
    replace H := H.2
    refine y_st rfl rfl rfl rfl rfl (fun _ _ => rfl) ?_
    refine y_st rfl rfl rfl rfl rfl (fun _ _ => rfl) ?_
    show yP (xg xs) (d + 1) 398 51 [(4, .long (u1.toInt64 - ((m1.1 91 l1.toNatClampNeg).toInt64))), (3, .int s0), (0, .ref 58), (1, .int l1), (2, .int l2)] [.int (lg_cmp (u1.toInt64 - ((m1.1 91 l1.toNatClampNeg).toInt64)) ((m1.1 92 l1.toNatClampNeg).toInt64))] m1 Q
    refine y_zlt (t := 57) rfl rfl rfl (fun h => ?_) (fun h => ?_)
    · replace H := H.1 h; clear h
      refine y_st rfl rfl rfl rfl rfl (fun _ _ => rfl) ?_
      refine y_st rfl rfl rfl rfl rfl (fun _ _ => rfl) ?_
      refine y_gf rfl rfl rfl rfl rfl ?_
      refine y_st rfl rfl rfl rfl rfl (fun _ _ => rfl) ?_
      show yP (xg xs) (d + 1) 398 63 [(4, .long (u1.toInt64 - ((m1.1 91 l1.toNatClampNeg).toInt64))), (3, .int s0), (0, .ref 58), (1, .int l1), (2, .int l2)] [.int l1, .ref 90, .int l2] m1 Q
      refine y_iald rfl rfl rfl (H.1) ?_
      replace H := H.2
      refine y_st rfl rfl rfl rfl rfl (fun _ _ => rfl) ?_
      refine y_st rfl rfl rfl rfl rfl (fun _ _ => rfl) ?_
      refine y_st rfl rfl rfl rfl rfl (fun _ _ => rfl) ?_
      refine y_st rfl rfl rfl rfl rfl (fun _ _ => rfl) ?_
      refine y_st rfl rfl rfl rfl rfl (fun _ _ => rfl) ?_
      refine y_st rfl rfl rfl rfl rfl (fun _ _ => rfl) ?_
      refine y_gf rfl rfl rfl rfl rfl ?_
      refine y_st rfl rfl rfl rfl rfl (fun _ _ => rfl) ?_
      show yP (xg xs) (d + 1) 398 76 [(6, .int ((l2 + (m1.1 90 l1.toNatClampNeg)) + ((u1.toInt64 - ((m1.1 91 l1.toNatClampNeg).toInt64)).toInt32))), (4, .long (u1.toInt64 - ((m1.1 91 l1.toNatClampNeg).toInt64))), (3, .int s0), (0, .ref 58), (1, .int l1), (2, .int l2)] [.int l1, .ref 89] m1 Q
      refine y_iald rfl rfl rfl (H.1) ?_
      replace H := H.2
      refine y_st rfl rfl rfl rfl rfl (fun _ _ => rfl) ?_
      show yP (xg xs) (d + 1) 398 78 [(6, .int ((l2 + (m1.1 90 l1.toNatClampNeg)) + ((u1.toInt64 - ((m1.1 91 l1.toNatClampNeg).toInt64)).toInt32))), (4, .long (u1.toInt64 - ((m1.1 91 l1.toNatClampNeg).toInt64))), (3, .int s0), (0, .ref 58), (1, .int l1), (2, .int l2)] [.int (4 : Int32), .int (m1.1 89 l1.toNatClampNeg)] m1 Q
      refine y_ine (t := 92) rfl rfl rfl (fun h => ?_) (fun h => ?_)
      · replace H := H.1 h; clear h
        refine y_st rfl rfl rfl rfl rfl (fun _ _ => rfl) ?_
        refine y_st rfl rfl rfl rfl rfl (fun _ _ => rfl) ?_
        refine y_gf rfl rfl rfl rfl rfl ?_
        refine y_st rfl rfl rfl rfl rfl (fun _ _ => rfl) ?_
        show yP (xg xs) (d + 1) 398 99 [(6, .int ((l2 + (m1.1 90 l1.toNatClampNeg)) + ((u1.toInt64 - ((m1.1 91 l1.toNatClampNeg).toInt64)).toInt32))), (4, .long (u1.toInt64 - ((m1.1 91 l1.toNatClampNeg).toInt64))), (3, .int s0), (0, .ref 58), (1, .int l1), (2, .int l2)] [.int ((l2 + (m1.1 90 l1.toNatClampNeg)) + ((u1.toInt64 - ((m1.1 91 l1.toNatClampNeg).toInt64)).toInt32)), .ref 98, .ref 58] m1 Q
        refine y_iald rfl rfl rfl (H.1) ?_
        replace H := H.2
        show yP (xg xs) (d + 1) 398 100 [(6, .int ((l2 + (m1.1 90 l1.toNatClampNeg)) + ((u1.toInt64 - ((m1.1 91 l1.toNatClampNeg).toInt64)).toInt32))), (4, .long (u1.toInt64 - ((m1.1 91 l1.toNatClampNeg).toInt64))), (3, .int s0), (0, .ref 58), (1, .int l1), (2, .int l2)] [.int (m1.1 98 (((l2 + (m1.1 90 l1.toNatClampNeg)) + ((u1.toInt64 - ((m1.1 91 l1.toNatClampNeg).toInt64)).toInt32)).toNatClampNeg)), .ref 58] m1 Q
        refine y_call rfl rfl rfl rfl rfl (Nat.le_of_ble_eq_true rfl) (Nat.le_of_ble_eq_true rfl) rfl (by decide) H (fun v2 m2 H => ?_)
        obtain ⟨rfl, H⟩ := H
        refine y_st rfl rfl rfl rfl rfl (fun _ _ => rfl) ?_
        show yP (xg xs) (d + 1) 398 104 [(6, .int ((l2 + (m1.1 90 l1.toNatClampNeg)) + ((u1.toInt64 - ((m1.1 91 l1.toNatClampNeg).toInt64)).toInt32))), (4, .long (u1.toInt64 - ((m1.1 91 l1.toNatClampNeg).toInt64))), (3, .int s0), (0, .ref 58), (1, .int l1), (2, .int l2)] [.int (0 : Int32)] m2 Q
        exact y_iret rfl rfl rfl H
      · replace H := H.2 h; clear h
        refine y_st rfl rfl rfl rfl rfl (fun _ _ => rfl) ?_
        refine y_gf rfl rfl rfl rfl rfl ?_
        refine y_st rfl rfl rfl rfl rfl (fun _ _ => rfl) ?_
        refine y_st rfl rfl rfl rfl rfl (fun _ _ => rfl) ?_
        show yP (xg xs) (d + 1) 398 88 [(6, .int ((l2 + (m1.1 90 l1.toNatClampNeg)) + ((u1.toInt64 - ((m1.1 91 l1.toNatClampNeg).toInt64)).toInt32))), (4, .long (u1.toInt64 - ((m1.1 91 l1.toNatClampNeg).toInt64))), (3, .int s0), (0, .ref 58), (1, .int l1), (2, .int l2)] [.int s0, .int ((l2 + (m1.1 90 l1.toNatClampNeg)) + ((u1.toInt64 - ((m1.1 91 l1.toNatClampNeg).toInt64)).toInt32)), .ref 98] m1 Q
        refine y_iast rfl rfl rfl (H.1) ?_
        replace H := H.2
        refine y_st rfl rfl rfl rfl rfl (fun _ _ => rfl) ?_
        refine y_st rfl rfl rfl rfl rfl (fun _ _ => rfl) ?_
        show yP (xg xs) (d + 1) 398 104 [(6, .int ((l2 + (m1.1 90 l1.toNatClampNeg)) + ((u1.toInt64 - ((m1.1 91 l1.toNatClampNeg).toInt64)).toInt32))), (4, .long (u1.toInt64 - ((m1.1 91 l1.toNatClampNeg).toInt64))), (3, .int s0), (0, .ref 58), (1, .int l1), (2, .int l2)] [.int (0 : Int32)] (y_si m1 98 (((l2 + (m1.1 90 l1.toNatClampNeg)) + ((u1.toInt64 - ((m1.1 91 l1.toNatClampNeg).toInt64)).toInt32)).toNatClampNeg) s0) Q
        exact y_iret rfl rfl rfl H
    · replace H := H.2 h; clear h
      refine y_st rfl rfl rfl rfl rfl (fun _ _ => rfl) ?_
      show yP (xg xs) (d + 1) 398 56 [(4, .long (u1.toInt64 - ((m1.1 91 l1.toNatClampNeg).toInt64))), (3, .int s0), (0, .ref 58), (1, .int l1), (2, .int l2)] [.int ((-4) : Int32)] m1 Q
      exact y_iret rfl rfl rfl H
