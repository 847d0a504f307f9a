/-! WHAT EACH METHOD COMES TO, run, group b: laid by wip/gen/wp82.py -/
set_option maxRecDepth 20000 in
/-- CodeMaker.Machine.block from 0 on -/
theorem w254_0 (xs : List Int32) (d : Nat) (l1 : Int32) (l2 : Int32) (m : yM) (Q : Option Value → yM → Prop) (H : (((2 : Int32) < l1 → (((4 : Int32) < l1 → (((6 : Int32) < l1 → ((¬ l1 = (7 : Int32) → (yC (xg xs) d 256 [.ref 52, .int (l2 + (1 : Int32))] m (fun v1 m1 => ∃ u1, v1 = some (Value.int u1) ∧ ((¬ u1 = 0 → yP (xg xs) (d + 1) 254 188 [] [.int (l2 + (2 : Int32)), .ref 52] m1 Q) ∧ (u1 = 0 → (yC (xg xs) d 256 [.ref 52, .int l2] m1 (fun v2 m2 => ∃ u2, v2 = some (Value.int u2) ∧ ((¬ u2 = 0 → yP (xg xs) (d + 1) 254 184 [] [.int (l2 + (2 : Int32)), .ref 52] m2 Q) ∧ (u2 = 0 → (yC (xg xs) d 256 [.ref 52, .int (l2 + (2 : Int32))] m2 (fun v3 m3 => ∃ u3, v3 = some (Value.int u3) ∧ ((u3 = 0 → yP (xg xs) (d + 1) 254 188 [] [.int (l2 + (2 : Int32)), .ref 52] m3 Q) ∧ (¬ u3 = 0 → yP (xg xs) (d + 1) 254 184 [] [.int (l2 + (2 : Int32)), .ref 52] m3 Q))))))))))))) ∧ (l1 = (7 : Int32) → (yC (xg xs) d 256 [.ref 52, .int l2] m (fun v4 m4 => ∃ u4, v4 = some (Value.int u4) ∧ ((¬ u4 = 0 → yP (xg xs) (d + 1) 254 141 [] [.int (l2 + (2 : Int32)), .ref 52] m4 Q) ∧ (u4 = 0 → (yC (xg xs) d 256 [.ref 52, .int (l2 + (1 : Int32))] m4 (fun v5 m5 => ∃ u5, v5 = some (Value.int u5) ∧ ((¬ u5 = 0 → yP (xg xs) (d + 1) 254 145 [] [.int (l2 + (2 : Int32)), .ref 52] m5 Q) ∧ (u5 = 0 → (yC (xg xs) d 256 [.ref 52, .int (l2 + (2 : Int32))] m5 (fun v6 m6 => ∃ u6, v6 = some (Value.int u6) ∧ ((u6 = 0 → yP (xg xs) (d + 1) 254 145 [] [.int (l2 + (2 : Int32)), .ref 52] m6 Q) ∧ (¬ u6 = 0 → yP (xg xs) (d + 1) 254 141 [] [.int (l2 + (2 : Int32)), .ref 52] m6 Q))))))))))))))) ∧ (¬ (6 : Int32) < l1 → (yC (xg xs) d 256 [.ref 52, .int l2] m (fun v7 m7 => ∃ u7, v7 = some (Value.int u7) ∧ (yC (xg xs) d 256 [.ref 52, .int (l2 + (2 : Int32))] m7 (fun v8 m8 => ∃ u8, v8 = some (Value.int u8) ∧ ((¬ l1 = (5 : Int32) → ((¬ u7 = 0 → yP (xg xs) (d + 1) 254 88 [(0, .ref 52), (2, .int l2), (3, .int u7)] [.int (l2 + (1 : Int32)), .ref 52] m8 Q) ∧ (u7 = 0 → ((u8 = 0 → yP (xg xs) (d + 1) 254 88 [(0, .ref 52), (2, .int l2), (3, .int u7)] [.int (l2 + (1 : Int32)), .ref 52] m8 Q) ∧ (¬ u8 = 0 → yP (xg xs) (d + 1) 254 89 [(0, .ref 52), (2, .int l2), (3, .int u7)] [.int (1 : Int32), .int (l2 + (1 : Int32)), .ref 52] m8 Q))))) ∧ (l1 = (5 : Int32) → ((u7 = 0 → yP (xg xs) (d + 1) 254 71 [(0, .ref 52), (2, .int l2), (3, .int u7)] [.int (l2 + (1 : Int32)), .ref 52] m8 Q) ∧ (¬ u7 = 0 → ((¬ u8 = 0 → yP (xg xs) (d + 1) 254 71 [(0, .ref 52), (2, .int l2), (3, .int u7)] [.int (l2 + (1 : Int32)), .ref 52] m8 Q) ∧ (u8 = 0 → yP (xg xs) (d + 1) 254 89 [(0, .ref 52), (2, .int l2), (3, .int u7)] [.int (1 : Int32), .int (l2 + (1 : Int32)), .ref 52] m8 Q))))))))))))) ∧ (¬ (4 : Int32) < l1 → (yC (xg xs) d 261 [.ref 52, .int l1, .int l2] m (fun v9 m9 => v9 = none ∧ Q none m9))))) ∧ (¬ (2 : Int32) < l1 → (yC (xg xs) d 255 [.ref 52, .int l1, .int l2] m (fun v10 m10 => v10 = none ∧ Q none m10))))) : yP (xg xs) (d + 1) 254 0 [(0, .ref 52), (1, .int l1), (2, .int l2)] [] m Q := by
  refine y_st rfl rfl rfl rfl rfl (fun _ _ => rfl) ?_
  refine y_st rfl rfl rfl rfl rfl (fun _ _ => rfl) ?_
  show yP (xg xs) (d + 1) 254 2 [(0, .ref 52), (1, .int l1), (2, .int l2)] [.int (2 : Int32), .int l1] m Q
  refine y_igt (t := 14) rfl rfl rfl (fun h => ?_) (fun h => ?_)
  · replace H := H.1 h; clear h
    refine y_st rfl rfl rfl rfl rfl (fun _ _ => rfl) ?_
    refine y_st rfl rfl rfl rfl rfl (fun _ _ => rfl) ?_
    show yP (xg xs) (d + 1) 254 16 [(0, .ref 52), (1, .int l1), (2, .int l2)] [.int (4 : Int32), .int l1] m Q
    refine y_igt (t := 28) rfl rfl rfl (fun h => ?_) (fun h => ?_)
    · replace H := H.1 h; clear h
      refine y_st rfl rfl rfl rfl rfl (fun _ _ => rfl) ?_
      refine y_st rfl rfl rfl rfl rfl (fun _ _ => rfl) ?_
      show yP (xg xs) (d + 1) 254 31 [(0, .ref 52), (1, .int l1), (2, .int l2)] [.int (6 : Int32), .int l1] m Q
      refine y_igt (t := 103) rfl rfl rfl (fun h => ?_) (fun h => ?_)
      · replace H := H.1 h; clear h
        refine y_st rfl rfl rfl rfl rfl (fun _ _ => rfl) ?_
        refine y_st rfl rfl rfl rfl rfl (fun _ _ => rfl) ?_
        show yP (xg xs) (d + 1) 254 106 [(0, .ref 52), (1, .int l1), (2, .int l2)] [.int (7 : Int32), .int l1] m Q
        refine y_ine (t := 152) rfl rfl rfl (fun h => ?_) (fun h => ?_)
        · replace H := H.1 h; clear h
          refine y_st rfl rfl rfl rfl rfl (fun _ _ => rfl) ?_
          refine y_st rfl rfl rfl rfl rfl (fun _ _ => rfl) ?_
          refine y_st rfl rfl rfl rfl rfl (fun _ _ => rfl) ?_
          refine y_st rfl rfl rfl rfl rfl (fun _ _ => rfl) ?_
          refine y_st rfl rfl rfl rfl rfl (fun _ _ => rfl) ?_
          refine y_st rfl rfl rfl rfl rfl (fun _ _ => rfl) ?_
          refine y_st rfl rfl rfl rfl rfl (fun _ _ => rfl) ?_
          refine y_st rfl rfl rfl rfl rfl (fun _ _ => rfl) ?_
          show yP (xg xs) (d + 1) 254 160 [(0, .ref 52), (1, .int l1), (2, .int l2)] [.int (l2 + (1 : Int32)), .ref 52, .int (l2 + (2 : Int32)), .ref 52] m Q
          refine y_call rfl rfl rfl rfl rfl (Nat.le_of_ble_eq_true rfl) (Nat.le_of_ble_eq_true rfl) rfl (by decide) H (fun v1 m1 H => ?_)
          obtain ⟨u1, rfl, H⟩ := H
          show yP (xg xs) (d + 1) 254 163 [(0, .ref 52), (1, .int l1), (2, .int l2)] [.int u1, .int (l2 + (2 : Int32)), .ref 52] m1 Q
          refine y_zne (t := 188) rfl rfl rfl (fun h => ?_) (fun h => ?_)
          · replace H := H.1 h; clear h
            show yP (xg xs) (d + 1) 254 188 [(0, .ref 52), (1, .int l1), (2, .int l2)] [.int (l2 + (2 : Int32)), .ref 52] m1 Q
            refine y_headS (l2 := []) [] [] [0, 1, 2] rfl rfl (by decide) rfl (by decide) ?_
            exact H
          · replace H := H.2 h; clear h
            refine y_st rfl rfl rfl rfl rfl (fun _ _ => rfl) ?_
            refine y_st rfl rfl rfl rfl rfl (fun _ _ => rfl) ?_
            show yP (xg xs) (d + 1) 254 168 [(0, .ref 52), (1, .int l1), (2, .int l2)] [.int l2, .ref 52, .int (l2 + (2 : Int32)), .ref 52] m1 Q
            refine y_call rfl rfl rfl rfl rfl (Nat.le_of_ble_eq_true rfl) (Nat.le_of_ble_eq_true rfl) rfl (by decide) H (fun v2 m2 H => ?_)
            obtain ⟨u2, rfl, H⟩ := H
            show yP (xg xs) (d + 1) 254 171 [(0, .ref 52), (1, .int l1), (2, .int l2)] [.int u2, .int (l2 + (2 : Int32)), .ref 52] m2 Q
            refine y_zne (t := 184) rfl rfl rfl (fun h => ?_) (fun h => ?_)
            · replace H := H.1 h; clear h
              show yP (xg xs) (d + 1) 254 184 [(0, .ref 52), (1, .int l1), (2, .int l2)] [.int (l2 + (2 : Int32)), .ref 52] m2 Q
              refine y_headS (l2 := []) [] [] [0, 1, 2] rfl rfl (by decide) rfl (by decide) ?_
              exact H
            · replace H := H.2 h; clear h
              refine y_st rfl rfl rfl rfl rfl (fun _ _ => rfl) ?_
              refine y_st rfl rfl rfl rfl rfl (fun _ _ => rfl) ?_
              refine y_st rfl rfl rfl rfl rfl (fun _ _ => rfl) ?_
              refine y_st rfl rfl rfl rfl rfl (fun _ _ => rfl) ?_
              show yP (xg xs) (d + 1) 254 178 [(0, .ref 52), (1, .int l1), (2, .int l2)] [.int (l2 + (2 : Int32)), .ref 52, .int (l2 + (2 : Int32)), .ref 52] m2 Q
              refine y_call rfl rfl rfl rfl rfl (Nat.le_of_ble_eq_true rfl) (Nat.le_of_ble_eq_true rfl) rfl (by decide) H (fun v3 m3 H => ?_)
              obtain ⟨u3, rfl, H⟩ := H
              show yP (xg xs) (d + 1) 254 181 [(0, .ref 52), (1, .int l1), (2, .int l2)] [.int u3, .int (l2 + (2 : Int32)), .ref 52] m3 Q
              refine y_zeq (t := 188) rfl rfl rfl (fun h => ?_) (fun h => ?_)
              · replace H := H.1 h; clear h
                show yP (xg xs) (d + 1) 254 188 [(0, .ref 52), (1, .int l1), (2, .int l2)] [.int (l2 + (2 : Int32)), .ref 52] m3 Q
                refine y_headS (l2 := []) [] [] [0, 1, 2] rfl rfl (by decide) rfl (by decide) ?_
                exact H
              · replace H := H.2 h; clear h
                show yP (xg xs) (d + 1) 254 184 [(0, .ref 52), (1, .int l1), (2, .int l2)] [.int (l2 + (2 : Int32)), .ref 52] m3 Q
                refine y_headS (l2 := []) [] [] [0, 1, 2] rfl rfl (by decide) rfl (by decide) ?_
                exact H
        · replace H := H.2 h; clear h
          refine y_st rfl rfl rfl rfl rfl (fun _ _ => rfl) ?_
          refine y_st rfl rfl rfl rfl rfl (fun _ _ => rfl) ?_
          refine y_st rfl rfl rfl rfl rfl (fun _ _ => rfl) ?_
          refine y_st rfl rfl rfl rfl rfl (fun _ _ => rfl) ?_
          refine y_st rfl rfl rfl rfl rfl (fun _ _ => rfl) ?_
          refine y_st rfl rfl rfl rfl rfl (fun _ _ => rfl) ?_
          show yP (xg xs) (d + 1) 254 115 [(0, .ref 52), (1, .int l1), (2, .int l2)] [.int l2, .ref 52, .int (l2 + (2 : Int32)), .ref 52] m Q
          refine y_call rfl rfl rfl rfl rfl (Nat.le_of_ble_eq_true rfl) (Nat.le_of_ble_eq_true rfl) rfl (by decide) H (fun v4 m4 H => ?_)
          obtain ⟨u4, rfl, H⟩ := H
          show yP (xg xs) (d + 1) 254 118 [(0, .ref 52), (1, .int l1), (2, .int l2)] [.int u4, .int (l2 + (2 : Int32)), .ref 52] m4 Q
          refine y_zne (t := 141) rfl rfl rfl (fun h => ?_) (fun h => ?_)
          · replace H := H.1 h; clear h
            show yP (xg xs) (d + 1) 254 141 [(0, .ref 52), (1, .int l1), (2, .int l2)] [.int (l2 + (2 : Int32)), .ref 52] m4 Q
            refine y_headS (l2 := []) [] [] [0, 1, 2] rfl rfl (by decide) rfl (by decide) ?_
            exact H
          · replace H := H.2 h; clear h
            refine y_st rfl rfl rfl rfl rfl (fun _ _ => rfl) ?_
            refine y_st rfl rfl rfl rfl rfl (fun _ _ => rfl) ?_
            refine y_st rfl rfl rfl rfl rfl (fun _ _ => rfl) ?_
            refine y_st rfl rfl rfl rfl rfl (fun _ _ => rfl) ?_
            show yP (xg xs) (d + 1) 254 125 [(0, .ref 52), (1, .int l1), (2, .int l2)] [.int (l2 + (1 : Int32)), .ref 52, .int (l2 + (2 : Int32)), .ref 52] m4 Q
            refine y_call rfl rfl rfl rfl rfl (Nat.le_of_ble_eq_true rfl) (Nat.le_of_ble_eq_true rfl) rfl (by decide) H (fun v5 m5 H => ?_)
            obtain ⟨u5, rfl, H⟩ := H
            show yP (xg xs) (d + 1) 254 128 [(0, .ref 52), (1, .int l1), (2, .int l2)] [.int u5, .int (l2 + (2 : Int32)), .ref 52] m5 Q
            refine y_zne (t := 145) rfl rfl rfl (fun h => ?_) (fun h => ?_)
            · replace H := H.1 h; clear h
              show yP (xg xs) (d + 1) 254 145 [(0, .ref 52), (1, .int l1), (2, .int l2)] [.int (l2 + (2 : Int32)), .ref 52] m5 Q
              refine y_headS (l2 := []) [] [] [0, 1, 2] rfl rfl (by decide) rfl (by decide) ?_
              exact H
            · replace H := H.2 h; clear h
              refine y_st rfl rfl rfl rfl rfl (fun _ _ => rfl) ?_
              refine y_st rfl rfl rfl rfl rfl (fun _ _ => rfl) ?_
              refine y_st rfl rfl rfl rfl rfl (fun _ _ => rfl) ?_
              refine y_st rfl rfl rfl rfl rfl (fun _ _ => rfl) ?_
              show yP (xg xs) (d + 1) 254 135 [(0, .ref 52), (1, .int l1), (2, .int l2)] [.int (l2 + (2 : Int32)), .ref 52, .int (l2 + (2 : Int32)), .ref 52] m5 Q
              refine y_call rfl rfl rfl rfl rfl (Nat.le_of_ble_eq_true rfl) (Nat.le_of_ble_eq_true rfl) rfl (by decide) H (fun v6 m6 H => ?_)
              obtain ⟨u6, rfl, H⟩ := H
              show yP (xg xs) (d + 1) 254 138 [(0, .ref 52), (1, .int l1), (2, .int l2)] [.int u6, .int (l2 + (2 : Int32)), .ref 52] m6 Q
              refine y_zeq (t := 145) rfl rfl rfl (fun h => ?_) (fun h => ?_)
              · replace H := H.1 h; clear h
                show yP (xg xs) (d + 1) 254 145 [(0, .ref 52), (1, .int l1), (2, .int l2)] [.int (l2 + (2 : Int32)), .ref 52] m6 Q
                refine y_headS (l2 := []) [] [] [0, 1, 2] rfl rfl (by decide) rfl (by decide) ?_
                exact H
              · replace H := H.2 h; clear h
                show yP (xg xs) (d + 1) 254 141 [(0, .ref 52), (1, .int l1), (2, .int l2)] [.int (l2 + (2 : Int32)), .ref 52] m6 Q
                refine y_headS (l2 := []) [] [] [0, 1, 2] rfl rfl (by decide) rfl (by decide) ?_
                exact H
      · replace H := H.2 h; clear h
        refine y_st rfl rfl rfl rfl rfl (fun _ _ => rfl) ?_
        refine y_st rfl rfl rfl rfl rfl (fun _ _ => rfl) ?_
        show yP (xg xs) (d + 1) 254 36 [(0, .ref 52), (1, .int l1), (2, .int l2)] [.int l2, .ref 52] m Q
        refine y_call rfl rfl rfl rfl rfl (Nat.le_of_ble_eq_true rfl) (Nat.le_of_ble_eq_true rfl) rfl (by decide) H (fun v7 m7 H => ?_)
        obtain ⟨u7, rfl, H⟩ := H
        refine y_st rfl rfl rfl rfl rfl (fun _ _ => rfl) ?_
        refine y_st rfl rfl rfl rfl rfl (fun _ _ => rfl) ?_
        refine y_st rfl rfl rfl rfl rfl (fun _ _ => rfl) ?_
        refine y_st rfl rfl rfl rfl rfl (fun _ _ => rfl) ?_
        refine y_st rfl rfl rfl rfl rfl (fun _ _ => rfl) ?_
        show yP (xg xs) (d + 1) 254 44 [(3, .int u7), (0, .ref 52), (1, .int l1), (2, .int l2)] [.int (l2 + (2 : Int32)), .ref 52] m7 Q
        refine y_call rfl rfl rfl rfl rfl (Nat.le_of_ble_eq_true rfl) (Nat.le_of_ble_eq_true rfl) rfl (by decide) H (fun v8 m8 H => ?_)
        obtain ⟨u8, rfl, H⟩ := H
        refine y_st rfl rfl rfl rfl rfl (fun _ _ => rfl) ?_
        refine y_st rfl rfl rfl rfl rfl (fun _ _ => rfl) ?_
        refine y_st rfl rfl rfl rfl rfl (fun _ _ => rfl) ?_
        refine y_st rfl rfl rfl rfl rfl (fun _ _ => rfl) ?_
        refine y_st rfl rfl rfl rfl rfl (fun _ _ => rfl) ?_
        refine y_st rfl rfl rfl rfl rfl (fun _ _ => rfl) ?_
        refine y_st rfl rfl rfl rfl rfl (fun _ _ => rfl) ?_
        show yP (xg xs) (d + 1) 254 55 [(4, .int u8), (3, .int u7), (0, .ref 52), (1, .int l1), (2, .int l2)] [.int (5 : Int32), .int l1, .int (l2 + (1 : Int32)), .ref 52] m8 Q
        refine y_ine (t := 75) rfl rfl rfl (fun h => ?_) (fun h => ?_)
        · replace H := H.1 h; clear h
          refine y_st rfl rfl rfl rfl rfl (fun _ _ => rfl) ?_
          show yP (xg xs) (d + 1) 254 76 [(4, .int u8), (3, .int u7), (0, .ref 52), (1, .int l1), (2, .int l2)] [.int u7, .int (l2 + (1 : Int32)), .ref 52] m8 Q
          refine y_zne (t := 88) rfl rfl rfl (fun h => ?_) (fun h => ?_)
          · replace H := H.1 h; clear h
            show yP (xg xs) (d + 1) 254 88 [(4, .int u8), (3, .int u7), (0, .ref 52), (1, .int l1), (2, .int l2)] [.int (l2 + (1 : Int32)), .ref 52] m8 Q
            refine y_headS (l2 := [(0, .ref 52), (2, .int l2), (3, .int u7)]) [2, 4, 1] [0, 2, 3] [4, 3, 0, 1, 2] rfl rfl (by decide) rfl (by decide) ?_
            exact H
          · replace H := H.2 h; clear h
            refine y_st rfl rfl rfl rfl rfl (fun _ _ => rfl) ?_
            show yP (xg xs) (d + 1) 254 81 [(4, .int u8), (3, .int u7), (0, .ref 52), (1, .int l1), (2, .int l2)] [.int u8, .int (l2 + (1 : Int32)), .ref 52] m8 Q
            refine y_zeq (t := 88) rfl rfl rfl (fun h => ?_) (fun h => ?_)
            · replace H := H.1 h; clear h
              show yP (xg xs) (d + 1) 254 88 [(4, .int u8), (3, .int u7), (0, .ref 52), (1, .int l1), (2, .int l2)] [.int (l2 + (1 : Int32)), .ref 52] m8 Q
              refine y_headS (l2 := [(0, .ref 52), (2, .int l2), (3, .int u7)]) [2, 4, 1] [0, 2, 3] [4, 3, 0, 1, 2] rfl rfl (by decide) rfl (by decide) ?_
              exact H
            · replace H := H.2 h; clear h
              refine y_st rfl rfl rfl rfl rfl (fun _ _ => rfl) ?_
              refine y_st rfl rfl rfl rfl rfl (fun _ _ => rfl) ?_
              show yP (xg xs) (d + 1) 254 89 [(4, .int u8), (3, .int u7), (0, .ref 52), (1, .int l1), (2, .int l2)] [.int (1 : Int32), .int (l2 + (1 : Int32)), .ref 52] m8 Q
              refine y_headS (l2 := [(0, .ref 52), (2, .int l2), (3, .int u7)]) [2, 4, 1] [0, 2, 3] [4, 3, 0, 1, 2] rfl rfl (by decide) rfl (by decide) ?_
              exact H
        · replace H := H.2 h; clear h
          refine y_st rfl rfl rfl rfl rfl (fun _ _ => rfl) ?_
          show yP (xg xs) (d + 1) 254 59 [(4, .int u8), (3, .int u7), (0, .ref 52), (1, .int l1), (2, .int l2)] [.int u7, .int (l2 + (1 : Int32)), .ref 52] m8 Q
          refine y_zeq (t := 71) rfl rfl rfl (fun h => ?_) (fun h => ?_)
          · replace H := H.1 h; clear h
            show yP (xg xs) (d + 1) 254 71 [(4, .int u8), (3, .int u7), (0, .ref 52), (1, .int l1), (2, .int l2)] [.int (l2 + (1 : Int32)), .ref 52] m8 Q
            refine y_headS (l2 := [(0, .ref 52), (2, .int l2), (3, .int u7)]) [2, 4, 1] [0, 2, 3] [4, 3, 0, 1, 2] rfl rfl (by decide) rfl (by decide) ?_
            exact H
          · replace H := H.2 h; clear h
            refine y_st rfl rfl rfl rfl rfl (fun _ _ => rfl) ?_
            show yP (xg xs) (d + 1) 254 64 [(4, .int u8), (3, .int u7), (0, .ref 52), (1, .int l1), (2, .int l2)] [.int u8, .int (l2 + (1 : Int32)), .ref 52] m8 Q
            refine y_zne (t := 71) rfl rfl rfl (fun h => ?_) (fun h => ?_)
            · replace H := H.1 h; clear h
              show yP (xg xs) (d + 1) 254 71 [(4, .int u8), (3, .int u7), (0, .ref 52), (1, .int l1), (2, .int l2)] [.int (l2 + (1 : Int32)), .ref 52] m8 Q
              refine y_headS (l2 := [(0, .ref 52), (2, .int l2), (3, .int u7)]) [2, 4, 1] [0, 2, 3] [4, 3, 0, 1, 2] rfl rfl (by decide) rfl (by decide) ?_
              exact H
            · replace H := H.2 h; clear h
              refine y_st rfl rfl rfl rfl rfl (fun _ _ => rfl) ?_
              refine y_st rfl rfl rfl rfl rfl (fun _ _ => rfl) ?_
              show yP (xg xs) (d + 1) 254 89 [(4, .int u8), (3, .int u7), (0, .ref 52), (1, .int l1), (2, .int l2)] [.int (1 : Int32), .int (l2 + (1 : Int32)), .ref 52] m8 Q
              refine y_headS (l2 := [(0, .ref 52), (2, .int l2), (3, .int u7)]) [2, 4, 1] [0, 2, 3] [4, 3, 0, 1, 2] rfl rfl (by decide) rfl (by decide) ?_
              exact H
    · replace H := H.2 h; clear h
      refine y_st rfl rfl rfl rfl rfl (fun _ _ => rfl) ?_
      refine y_st rfl rfl rfl rfl rfl (fun _ _ => rfl) ?_
      refine y_st rfl rfl rfl rfl rfl (fun _ _ => rfl) ?_
      show yP (xg xs) (d + 1) 254 22 [(0, .ref 52), (1, .int l1), (2, .int l2)] [.int l2, .int l1, .ref 52] m Q
      refine y_call rfl rfl rfl rfl rfl (Nat.le_of_ble_eq_true rfl) (Nat.le_of_ble_eq_true rfl) rfl (by decide) H (fun v9 m9 H => ?_)
      obtain ⟨rfl, H⟩ := H
      refine y_st rfl rfl rfl rfl rfl (fun _ _ => rfl) ?_
      show yP (xg xs) (d + 1) 254 192 [(0, .ref 52), (1, .int l1), (2, .int l2)] [] m9 Q
      exact y_ret rfl rfl rfl rfl H
  · replace H := H.2 h; clear h
    refine y_st rfl rfl rfl rfl rfl (fun _ _ => rfl) ?_
    refine y_st rfl rfl rfl rfl rfl (fun _ _ => rfl) ?_
    refine y_st rfl rfl rfl rfl rfl (fun _ _ => rfl) ?_
    show yP (xg xs) (d + 1) 254 8 [(0, .ref 52), (1, .int l1), (2, .int l2)] [.int l2, .int l1, .ref 52] m Q
    refine y_call rfl rfl rfl rfl rfl (Nat.le_of_ble_eq_true rfl) (Nat.le_of_ble_eq_true rfl) rfl (by decide) H (fun v10 m10 H => ?_)
    obtain ⟨rfl, H⟩ := H
    refine y_st rfl rfl rfl rfl rfl (fun _ _ => rfl) ?_
    show yP (xg xs) (d + 1) 254 192 [(0, .ref 52), (1, .int l1), (2, .int l2)] [] m10 Q
    exact y_ret rfl rfl rfl rfl H
set_option maxRecDepth 20000 in
/-- CodeMaker.Machine.block from 71 on -/
theorem w254_71 (xs : List Int32) (d : Nat) (l2 : Int32) (l3 : Int32) (s1 : Int32) (m : yM) (Q : Option Value → yM → Prop) (H : yP (xg xs) (d + 1) 254 89 [(0, .ref 52), (2, .int l2), (3, .int l3)] [.int (0 : Int32), .int s1, .ref 52] m Q) : yP (xg xs) (d + 1) 254 71 [(0, .ref 52), (2, .int l2), (3, .int l3)] [.int s1, .ref 52] m Q := by
  refine y_st rfl rfl rfl rfl rfl (fun _ _ => rfl) ?_
  refine y_st rfl rfl rfl rfl rfl (fun _ _ => rfl) ?_
  show yP (xg xs) (d + 1) 254 89 [(0, .ref 52), (2, .int l2), (3, .int l3)] [.int (0 : Int32), .int s1, .ref 52] m Q
  exact H
set_option maxRecDepth 20000 in
/-- CodeMaker.Machine.block from 88 on -/
theorem w254_88 (xs : List Int32) (d : Nat) (l2 : Int32) (l3 : Int32) (s1 : Int32) (m : yM) (Q : Option Value → yM → Prop) (H : yP (xg xs) (d + 1) 254 89 [(0, .ref 52), (2, .int l2), (3, .int l3)] [.int (0 : Int32), .int s1, .ref 52] m Q) : yP (xg xs) (d + 1) 254 88 [(0, .ref 52), (2, .int l2), (3, .int l3)] [.int s1, .ref 52] m Q := by
  refine y_st rfl rfl rfl rfl rfl (fun _ _ => rfl) ?_
  show yP (xg xs) (d + 1) 254 89 [(0, .ref 52), (2, .int l2), (3, .int l3)] [.int (0 : Int32), .int s1, .ref 52] m Q
  exact H
set_option maxRecDepth 20000 in
/-- CodeMaker.Machine.block from 89 on -/
theorem w254_89 (xs : List Int32) (d : Nat) (l2 : Int32) (l3 : Int32) (s1 : Int32) (s2 : Int32) (m : yM) (Q : Option Value → yM → Prop) (H : (yC (xg xs) d 258 [.ref 52, .int s1, .int s2] m (fun v1 m1 => v1 = none ∧ (yC (xg xs) d 258 [.ref 52, .int (l2 + (2 : Int32)), .int l3] m1 (fun v2 m2 => v2 = none ∧ Q none m2))))) : yP (xg xs) (d + 1) 254 89 [(0, .ref 52), (2, .int l2), (3, .int l3)] [.int s2, .int s1, .ref 52] m Q := by
  show yP (xg xs) (d + 1) 254 89 [(0, .ref 52), (2, .int l2), (3, .int l3)] [.int s2, .int s1, .ref 52] m Q
  refine y_call rfl rfl rfl rfl rfl (Nat.le_of_ble_eq_true rfl) (Nat.le_of_ble_eq_true rfl) rfl (by decide) H (fun v1 m1 H => ?_)
  obtain ⟨rfl, H⟩ := H
  refine y_st rfl rfl rfl rfl rfl (fun _ _ => rfl) ?_
  refine y_st rfl rfl rfl rfl rfl (fun _ _ => rfl) ?_
  refine y_st rfl rfl rfl rfl rfl (fun _ _ => rfl) ?_
  refine y_st rfl rfl rfl rfl rfl (fun _ _ => rfl) ?_
  refine y_st rfl rfl rfl rfl rfl (fun _ _ => rfl) ?_
  show yP (xg xs) (d + 1) 254 97 [(0, .ref 52), (2, .int l2), (3, .int l3)] [.int l3, .int (l2 + (2 : Int32)), .ref 52] m1 Q
  refine y_call rfl rfl rfl rfl rfl (Nat.le_of_ble_eq_true rfl) (Nat.le_of_ble_eq_true rfl) rfl (by decide) H (fun v2 m2 H => ?_)
  obtain ⟨rfl, H⟩ := H
  refine y_st rfl rfl rfl rfl rfl (fun _ _ => rfl) ?_
  show yP (xg xs) (d + 1) 254 192 [(0, .ref 52), (2, .int l2), (3, .int l3)] [] m2 Q
  exact y_ret rfl rfl rfl rfl H
set_option maxRecDepth 20000 in
/-- CodeMaker.Machine.block from 141 on -/
theorem w254_141 (xs : List Int32) (d : Nat) (s1 : Int32) (m : yM) (Q : Option Value → yM → Prop) (H : yP (xg xs) (d + 1) 254 146 [] [.int (1 : Int32), .int s1, .ref 52] m Q) : yP (xg xs) (d + 1) 254 141 [] [.int s1, .ref 52] m Q := by
  refine y_st rfl rfl rfl rfl rfl (fun _ _ => rfl) ?_
  refine y_st rfl rfl rfl rfl rfl (fun _ _ => rfl) ?_
  show yP (xg xs) (d + 1) 254 146 [] [.int (1 : Int32), .int s1, .ref 52] m Q
  exact H
set_option maxRecDepth 20000 in
/-- CodeMaker.Machine.block from 145 on -/
theorem w254_145 (xs : List Int32) (d : Nat) (s1 : Int32) (m : yM) (Q : Option Value → yM → Prop) (H : yP (xg xs) (d + 1) 254 146 [] [.int (0 : Int32), .int s1, .ref 52] m Q) : yP (xg xs) (d + 1) 254 145 [] [.int s1, .ref 52] m Q := by
  refine y_st rfl rfl rfl rfl rfl (fun _ _ => rfl) ?_
  show yP (xg xs) (d + 1) 254 146 [] [.int (0 : Int32), .int s1, .ref 52] m Q
  exact H
set_option maxRecDepth 20000 in
/-- CodeMaker.Machine.block from 146 on -/
theorem w254_146 (xs : List Int32) (d : Nat) (s1 : Int32) (s2 : Int32) (m : yM) (Q : Option Value → yM → Prop) (H : (yC (xg xs) d 258 [.ref 52, .int s1, .int s2] m (fun v1 m1 => v1 = none ∧ Q none m1))) : yP (xg xs) (d + 1) 254 146 [] [.int s2, .int s1, .ref 52] m Q := by
  show yP (xg xs) (d + 1) 254 146 [] [.int s2, .int s1, .ref 52] m Q
  refine y_call rfl rfl rfl rfl rfl (Nat.le_of_ble_eq_true rfl) (Nat.le_of_ble_eq_true rfl) rfl (by decide) H (fun v1 m1 H => ?_)
  obtain ⟨rfl, H⟩ := H
  refine y_st rfl rfl rfl rfl rfl (fun _ _ => rfl) ?_
  show yP (xg xs) (d + 1) 254 192 [] [] m1 Q
  exact y_ret rfl rfl rfl rfl H
set_option maxRecDepth 20000 in
/-- CodeMaker.Machine.block from 184 on -/
theorem w254_184 (xs : List Int32) (d : Nat) (s1 : Int32) (m : yM) (Q : Option Value → yM → Prop) (H : yP (xg xs) (d + 1) 254 189 [] [.int (1 : Int32), .int s1, .ref 52] m Q) : yP (xg xs) (d + 1) 254 184 [] [.int s1, .ref 52] m Q := by
  refine y_st rfl rfl rfl rfl rfl (fun _ _ => rfl) ?_
  refine y_st rfl rfl rfl rfl rfl (fun _ _ => rfl) ?_
  show yP (xg xs) (d + 1) 254 189 [] [.int (1 : Int32), .int s1, .ref 52] m Q
  exact H
set_option maxRecDepth 20000 in
/-- CodeMaker.Machine.block from 188 on -/
theorem w254_188 (xs : List Int32) (d : Nat) (s1 : Int32) (m : yM) (Q : Option Value → yM → Prop) (H : yP (xg xs) (d + 1) 254 189 [] [.int (0 : Int32), .int s1, .ref 52] m Q) : yP (xg xs) (d + 1) 254 188 [] [.int s1, .ref 52] m Q := by
  refine y_st rfl rfl rfl rfl rfl (fun _ _ => rfl) ?_
  show yP (xg xs) (d + 1) 254 189 [] [.int (0 : Int32), .int s1, .ref 52] m Q
  exact H
set_option maxRecDepth 20000 in
/-- CodeMaker.Machine.block from 189 on -/
theorem w254_189 (xs : List Int32) (d : Nat) (s1 : Int32) (s2 : Int32) (m : yM) (Q : Option Value → yM → Prop) (H : (yC (xg xs) d 258 [.ref 52, .int s1, .int s2] m (fun v1 m1 => v1 = none ∧ Q none m1))) : yP (xg xs) (d + 1) 254 189 [] [.int s2, .int s1, .ref 52] m Q := by
  show yP (xg xs) (d + 1) 254 189 [] [.int s2, .int s1, .ref 52] m Q
  refine y_call rfl rfl rfl rfl rfl (Nat.le_of_ble_eq_true rfl) (Nat.le_of_ble_eq_true rfl) rfl (by decide) H (fun v1 m1 H => ?_)
  obtain ⟨rfl, H⟩ := H
  show yP (xg xs) (d + 1) 254 192 [] [] m1 Q
  exact y_ret rfl rfl rfl rfl H
set_option maxRecDepth 20000 in
/-- CodeMaker.Machine.timer from 0 on -/
theorem w255_0 (xs : List Int32) (d : Nat) (l1 : Int32) (l2 : Int32) (m : yM) (Q : Option Value → yM → Prop) (H : (yC (xg xs) d 256 [.ref 52, .int l2] m (fun v1 m1 => ∃ u1, v1 = some (Value.int u1) ∧ (yC (xg xs) d 256 [.ref 52, .int (l2 + (4 : Int32))] m1 (fun v2 m2 => ∃ u2, v2 = some (Value.int u2) ∧ (yC (xg xs) d 247 [.ref 52, .int (l2 + (1 : Int32))] m2 (fun v3 m3 => ∃ u3, v3 = some (Value.int u3) ∧ (yC (xg xs) d 247 [.ref 52, .int (l2 + (3 : Int32))] m3 (fun v4 m4 => ∃ u4, v4 = some (Value.int u4) ∧ (yC (xg xs) d 247 [.ref 52, .int (l2 + (5 : Int32))] m4 (fun v5 m5 => ∃ u5, v5 = some (Value.int u5) ∧ ((¬ l1 = 0 → ((¬ l1 = (1 : Int32) → (yC (xg xs) d 260 [.ref 52, .int l2, .int u1, .int u2, .int ((if (u4.toInt64 + (((m4.1 52 1).toInt64) - u5.toInt64)) < ((if u3 < (0 : Int32) then (0 : Int32) else u3).toInt64) then (u4.toInt64 + (((m4.1 52 1).toInt64) - u5.toInt64)) else ((if u3 < (0 : Int32) then (0 : Int32) else u3).toInt64)).toInt32), .int (if u3 < (0 : Int32) then (0 : Int32) else u3)] m5 (fun v6 m6 => v6 = none ∧ yP (xg xs) (d + 1) 255 118 [(0, .ref 52), (2, .int l2), (3, .int u1)] [] m6 Q))) ∧ (l1 = (1 : Int32) → (yC (xg xs) d 259 [.ref 52, .int l2, .int u1, .int u2, .int ((if (u4.toInt64 + (((m4.1 52 1).toInt64) - u5.toInt64)) < ((if u3 < (0 : Int32) then (0 : Int32) else u3).toInt64) then (u4.toInt64 + (((m4.1 52 1).toInt64) - u5.toInt64)) else ((if u3 < (0 : Int32) then (0 : Int32) else u3).toInt64)).toInt32), .int (if u3 < (0 : Int32) then (0 : Int32) else u3)] m5 (fun v7 m7 => v7 = none ∧ yP (xg xs) (d + 1) 255 118 [(0, .ref 52), (2, .int l2), (3, .int u1)] [] m7 Q))))) ∧ (l1 = 0 → ((u2 = 0 → yP (xg xs) (d + 1) 255 78 [(0, .ref 52), (2, .int l2), (3, .int u1), (5, .int (if u3 < (0 : Int32) then (0 : Int32) else u3))] [.int (0 : Int32), .int u1, .int l2, .ref 52] m5 Q) ∧ (¬ u2 = 0 → yP (xg xs) (d + 1) 255 78 [(0, .ref 52), (2, .int l2), (3, .int u1), (5, .int (if u3 < (0 : Int32) then (0 : Int32) else u3))] [.int ((if (u4.toInt64 + (((m4.1 52 1).toInt64) - u5.toInt64)) < ((if u3 < (0 : Int32) then (0 : Int32) else u3).toInt64) then (u4.toInt64 + (((m4.1 52 1).toInt64) - u5.toInt64)) else ((if u3 < (0 : Int32) then (0 : Int32) else u3).toInt64)).toInt32), .int u1, .int l2, .ref 52] m5 Q))))))))))))))) : yP (xg xs) (d + 1) 255 0 [(0, .ref 52), (1, .int l1), (2, .int l2)] [] m Q := by
  refine y_st rfl rfl rfl rfl rfl (fun _ _ => rfl) ?_
  refine y_st rfl rfl rfl rfl rfl (fun _ _ => rfl) ?_
  show yP (xg xs) (d + 1) 255 2 [(0, .ref 52), (1, .int l1), (2, .int l2)] [.int l2, .ref 52] m Q
  refine y_call rfl rfl rfl rfl rfl (Nat.le_of_ble_eq_true rfl) (Nat.le_of_ble_eq_true rfl) rfl (by decide) H (fun v1 m1 H => ?_)
  obtain ⟨u1, rfl, H⟩ := H
  refine y_st rfl rfl rfl rfl rfl (fun _ _ => rfl) ?_
  refine y_st rfl rfl rfl rfl rfl (fun _ _ => rfl) ?_
  refine y_st rfl rfl rfl rfl rfl (fun _ _ => rfl) ?_
  refine y_st rfl rfl rfl rfl rfl (fun _ _ => rfl) ?_
  refine y_st rfl rfl rfl rfl rfl (fun _ _ => rfl) ?_
  show yP (xg xs) (d + 1) 255 10 [(3, .int u1), (0, .ref 52), (1, .int l1), (2, .int l2)] [.int (l2 + (4 : Int32)), .ref 52] m1 Q
  refine y_call rfl rfl rfl rfl rfl (Nat.le_of_ble_eq_true rfl) (Nat.le_of_ble_eq_true rfl) rfl (by decide) H (fun v2 m2 H => ?_)
  obtain ⟨u2, rfl, H⟩ := H
  refine y_st rfl rfl rfl rfl rfl (fun _ _ => rfl) ?_
  refine y_st rfl rfl rfl rfl rfl (fun _ _ => rfl) ?_
  refine y_st rfl rfl rfl rfl rfl (fun _ _ => rfl) ?_
  refine y_st rfl rfl rfl rfl rfl (fun _ _ => rfl) ?_
  refine y_st rfl rfl rfl rfl rfl (fun _ _ => rfl) ?_
  show yP (xg xs) (d + 1) 255 19 [(4, .int u2), (3, .int u1), (0, .ref 52), (1, .int l1), (2, .int l2)] [.int (l2 + (1 : Int32)), .ref 52] m2 Q
  refine y_call rfl rfl rfl rfl rfl (Nat.le_of_ble_eq_true rfl) (Nat.le_of_ble_eq_true rfl) rfl (by decide) H (fun v3 m3 H => ?_)
  obtain ⟨u3, rfl, H⟩ := H
  refine y_st rfl rfl rfl rfl rfl (fun _ _ => rfl) ?_
  refine y_mi rfl rfl rfl rfl rfl (Nat.le_of_ble_eq_true rfl) (by omega) ?_
  refine y_st rfl rfl rfl rfl rfl (fun _ _ => rfl) ?_
  refine y_st rfl rfl rfl rfl rfl (fun _ _ => rfl) ?_
  refine y_st rfl rfl rfl rfl rfl (fun _ _ => rfl) ?_
  refine y_st rfl rfl rfl rfl rfl (fun _ _ => rfl) ?_
  refine y_st rfl rfl rfl rfl rfl (fun _ _ => rfl) ?_
  refine y_st rfl rfl rfl rfl rfl (fun _ _ => rfl) ?_
  refine y_st rfl rfl rfl rfl rfl (fun _ _ => rfl) ?_
  show yP (xg xs) (d + 1) 255 35 [(5, .int (if u3 < (0 : Int32) then (0 : Int32) else u3)), (4, .int u2), (3, .int u1), (0, .ref 52), (1, .int l1), (2, .int l2)] [.int (l2 + (3 : Int32)), .ref 52, .long ((if u3 < (0 : Int32) then (0 : Int32) else u3).toInt64)] m3 Q
  refine y_call rfl rfl rfl rfl rfl (Nat.le_of_ble_eq_true rfl) (Nat.le_of_ble_eq_true rfl) rfl (by decide) H (fun v4 m4 H => ?_)
  obtain ⟨u4, rfl, H⟩ := H
  refine y_st rfl rfl rfl rfl rfl (fun _ _ => rfl) ?_
  refine y_st rfl rfl rfl rfl rfl (fun _ _ => rfl) ?_
  refine y_gf rfl rfl rfl rfl rfl ?_
  refine y_st rfl rfl rfl rfl rfl (fun _ _ => rfl) ?_
  refine y_st rfl rfl rfl rfl rfl (fun _ _ => rfl) ?_
  refine y_st rfl rfl rfl rfl rfl (fun _ _ => rfl) ?_
  refine y_st rfl rfl rfl rfl rfl (fun _ _ => rfl) ?_
  refine y_st rfl rfl rfl rfl rfl (fun _ _ => rfl) ?_
  show yP (xg xs) (d + 1) 255 48 [(5, .int (if u3 < (0 : Int32) then (0 : Int32) else u3)), (4, .int u2), (3, .int u1), (0, .ref 52), (1, .int l1), (2, .int l2)] [.int (l2 + (5 : Int32)), .ref 52, .long ((m4.1 52 1).toInt64), .long u4.toInt64, .long ((if u3 < (0 : Int32) then (0 : Int32) else u3).toInt64)] m4 Q
  refine y_call rfl rfl rfl rfl rfl (Nat.le_of_ble_eq_true rfl) (Nat.le_of_ble_eq_true rfl) rfl (by decide) H (fun v5 m5 H => ?_)
  obtain ⟨u5, rfl, H⟩ := H
  refine y_st rfl rfl rfl rfl rfl (fun _ _ => rfl) ?_
  refine y_st rfl rfl rfl rfl rfl (fun _ _ => rfl) ?_
  refine y_st rfl rfl rfl rfl rfl (fun _ _ => rfl) ?_
  refine y_mi rfl rfl rfl rfl rfl (Nat.le_of_ble_eq_true rfl) (by omega) ?_
  refine y_st rfl rfl rfl rfl rfl (fun _ _ => rfl) ?_
  refine y_st rfl rfl rfl rfl rfl (fun _ _ => rfl) ?_
  refine y_st rfl rfl rfl rfl rfl (fun _ _ => rfl) ?_
  show yP (xg xs) (d + 1) 255 61 [(6, .int ((if (u4.toInt64 + (((m4.1 52 1).toInt64) - u5.toInt64)) < ((if u3 < (0 : Int32) then (0 : Int32) else u3).toInt64) then (u4.toInt64 + (((m4.1 52 1).toInt64) - u5.toInt64)) else ((if u3 < (0 : Int32) then (0 : Int32) else u3).toInt64)).toInt32)), (5, .int (if u3 < (0 : Int32) then (0 : Int32) else u3)), (4, .int u2), (3, .int u1), (0, .ref 52), (1, .int l1), (2, .int l2)] [.int l1] m5 Q
  refine y_zne (t := 86) rfl rfl rfl (fun h => ?_) (fun h => ?_)
  · replace H := H.1 h; clear h
    refine y_st rfl rfl rfl rfl rfl (fun _ _ => rfl) ?_
    refine y_st rfl rfl rfl rfl rfl (fun _ _ => rfl) ?_
    show yP (xg xs) (d + 1) 255 88 [(6, .int ((if (u4.toInt64 + (((m4.1 52 1).toInt64) - u5.toInt64)) < ((if u3 < (0 : Int32) then (0 : Int32) else u3).toInt64) then (u4.toInt64 + (((m4.1 52 1).toInt64) - u5.toInt64)) else ((if u3 < (0 : Int32) then (0 : Int32) else u3).toInt64)).toInt32)), (5, .int (if u3 < (0 : Int32) then (0 : Int32) else u3)), (4, .int u2), (3, .int u1), (0, .ref 52), (1, .int l1), (2, .int l2)] [.int (1 : Int32), .int l1] m5 Q
    refine y_ine (t := 106) rfl rfl rfl (fun h => ?_) (fun h => ?_)
    · replace H := H.1 h; clear h
      refine y_st rfl rfl rfl rfl rfl (fun _ _ => rfl) ?_
      refine y_st rfl rfl rfl rfl rfl (fun _ _ => rfl) ?_
      refine y_st rfl rfl rfl rfl rfl (fun _ _ => rfl) ?_
      refine y_st rfl rfl rfl rfl rfl (fun _ _ => rfl) ?_
      refine y_st rfl rfl rfl rfl rfl (fun _ _ => rfl) ?_
      refine y_st rfl rfl rfl rfl rfl (fun _ _ => rfl) ?_
      show yP (xg xs) (d + 1) 255 115 [(6, .int ((if (u4.toInt64 + (((m4.1 52 1).toInt64) - u5.toInt64)) < ((if u3 < (0 : Int32) then (0 : Int32) else u3).toInt64) then (u4.toInt64 + (((m4.1 52 1).toInt64) - u5.toInt64)) else ((if u3 < (0 : Int32) then (0 : Int32) else u3).toInt64)).toInt32)), (5, .int (if u3 < (0 : Int32) then (0 : Int32) else u3)), (4, .int u2), (3, .int u1), (0, .ref 52), (1, .int l1), (2, .int l2)] [.int (if u3 < (0 : Int32) then (0 : Int32) else u3), .int ((if (u4.toInt64 + (((m4.1 52 1).toInt64) - u5.toInt64)) < ((if u3 < (0 : Int32) then (0 : Int32) else u3).toInt64) then (u4.toInt64 + (((m4.1 52 1).toInt64) - u5.toInt64)) else ((if u3 < (0 : Int32) then (0 : Int32) else u3).toInt64)).toInt32), .int u2, .int u1, .int l2, .ref 52] m5 Q
      refine y_call rfl rfl rfl rfl rfl (Nat.le_of_ble_eq_true rfl) (Nat.le_of_ble_eq_true rfl) rfl (by decide) H (fun v6 m6 H => ?_)
      obtain ⟨rfl, H⟩ := H
      show yP (xg xs) (d + 1) 255 118 [(6, .int ((if (u4.toInt64 + (((m4.1 52 1).toInt64) - u5.toInt64)) < ((if u3 < (0 : Int32) then (0 : Int32) else u3).toInt64) then (u4.toInt64 + (((m4.1 52 1).toInt64) - u5.toInt64)) else ((if u3 < (0 : Int32) then (0 : Int32) else u3).toInt64)).toInt32)), (5, .int (if u3 < (0 : Int32) then (0 : Int32) else u3)), (4, .int u2), (3, .int u1), (0, .ref 52), (1, .int l1), (2, .int l2)] [] m6 Q
      refine y_headS (l2 := [(0, .ref 52), (2, .int l2), (3, .int u1)]) [4, 6, 3] [0, 2, 3] [6, 5, 4, 3, 0, 1, 2] rfl rfl (by decide) rfl (by decide) ?_
      exact H
    · replace H := H.2 h; clear h
      refine y_st rfl rfl rfl rfl rfl (fun _ _ => rfl) ?_
      refine y_st rfl rfl rfl rfl rfl (fun _ _ => rfl) ?_
      refine y_st rfl rfl rfl rfl rfl (fun _ _ => rfl) ?_
      refine y_st rfl rfl rfl rfl rfl (fun _ _ => rfl) ?_
      refine y_st rfl rfl rfl rfl rfl (fun _ _ => rfl) ?_
      refine y_st rfl rfl rfl rfl rfl (fun _ _ => rfl) ?_
      show yP (xg xs) (d + 1) 255 100 [(6, .int ((if (u4.toInt64 + (((m4.1 52 1).toInt64) - u5.toInt64)) < ((if u3 < (0 : Int32) then (0 : Int32) else u3).toInt64) then (u4.toInt64 + (((m4.1 52 1).toInt64) - u5.toInt64)) else ((if u3 < (0 : Int32) then (0 : Int32) else u3).toInt64)).toInt32)), (5, .int (if u3 < (0 : Int32) then (0 : Int32) else u3)), (4, .int u2), (3, .int u1), (0, .ref 52), (1, .int l1), (2, .int l2)] [.int (if u3 < (0 : Int32) then (0 : Int32) else u3), .int ((if (u4.toInt64 + (((m4.1 52 1).toInt64) - u5.toInt64)) < ((if u3 < (0 : Int32) then (0 : Int32) else u3).toInt64) then (u4.toInt64 + (((m4.1 52 1).toInt64) - u5.toInt64)) else ((if u3 < (0 : Int32) then (0 : Int32) else u3).toInt64)).toInt32), .int u2, .int u1, .int l2, .ref 52] m5 Q
      refine y_call rfl rfl rfl rfl rfl (Nat.le_of_ble_eq_true rfl) (Nat.le_of_ble_eq_true rfl) rfl (by decide) H (fun v7 m7 H => ?_)
      obtain ⟨rfl, H⟩ := H
      refine y_st rfl rfl rfl rfl rfl (fun _ _ => rfl) ?_
      show yP (xg xs) (d + 1) 255 118 [(6, .int ((if (u4.toInt64 + (((m4.1 52 1).toInt64) - u5.toInt64)) < ((if u3 < (0 : Int32) then (0 : Int32) else u3).toInt64) then (u4.toInt64 + (((m4.1 52 1).toInt64) - u5.toInt64)) else ((if u3 < (0 : Int32) then (0 : Int32) else u3).toInt64)).toInt32)), (5, .int (if u3 < (0 : Int32) then (0 : Int32) else u3)), (4, .int u2), (3, .int u1), (0, .ref 52), (1, .int l1), (2, .int l2)] [] m7 Q
      refine y_headS (l2 := [(0, .ref 52), (2, .int l2), (3, .int u1)]) [4, 6, 3] [0, 2, 3] [6, 5, 4, 3, 0, 1, 2] rfl rfl (by decide) rfl (by decide) ?_
      exact H
  · replace H := H.2 h; clear h
    refine y_st rfl rfl rfl rfl rfl (fun _ _ => rfl) ?_
    refine y_st rfl rfl rfl rfl rfl (fun _ _ => rfl) ?_
    refine y_st rfl rfl rfl rfl rfl (fun _ _ => rfl) ?_
    refine y_st rfl rfl rfl rfl rfl (fun _ _ => rfl) ?_
    show yP (xg xs) (d + 1) 255 69 [(6, .int ((if (u4.toInt64 + (((m4.1 52 1).toInt64) - u5.toInt64)) < ((if u3 < (0 : Int32) then (0 : Int32) else u3).toInt64) then (u4.toInt64 + (((m4.1 52 1).toInt64) - u5.toInt64)) else ((if u3 < (0 : Int32) then (0 : Int32) else u3).toInt64)).toInt32)), (5, .int (if u3 < (0 : Int32) then (0 : Int32) else u3)), (4, .int u2), (3, .int u1), (0, .ref 52), (1, .int l1), (2, .int l2)] [.int u2, .int u1, .int l2, .ref 52] m5 Q
    refine y_zeq (t := 77) rfl rfl rfl (fun h => ?_) (fun h => ?_)
    · replace H := H.1 h; clear h
      refine y_st rfl rfl rfl rfl rfl (fun _ _ => rfl) ?_
      show yP (xg xs) (d + 1) 255 78 [(6, .int ((if (u4.toInt64 + (((m4.1 52 1).toInt64) - u5.toInt64)) < ((if u3 < (0 : Int32) then (0 : Int32) else u3).toInt64) then (u4.toInt64 + (((m4.1 52 1).toInt64) - u5.toInt64)) else ((if u3 < (0 : Int32) then (0 : Int32) else u3).toInt64)).toInt32)), (5, .int (if u3 < (0 : Int32) then (0 : Int32) else u3)), (4, .int u2), (3, .int u1), (0, .ref 52), (1, .int l1), (2, .int l2)] [.int (0 : Int32), .int u1, .int l2, .ref 52] m5 Q
      refine y_headS (l2 := [(0, .ref 52), (2, .int l2), (3, .int u1), (5, .int (if u3 < (0 : Int32) then (0 : Int32) else u3))]) [4, 6, 3, 1] [0, 2, 3, 5] [6, 5, 4, 3, 0, 1, 2] rfl rfl (by decide) rfl (by decide) ?_
      exact H
    · replace H := H.2 h; clear h
      refine y_st rfl rfl rfl rfl rfl (fun _ _ => rfl) ?_
      refine y_st rfl rfl rfl rfl rfl (fun _ _ => rfl) ?_
      show yP (xg xs) (d + 1) 255 78 [(6, .int ((if (u4.toInt64 + (((m4.1 52 1).toInt64) - u5.toInt64)) < ((if u3 < (0 : Int32) then (0 : Int32) else u3).toInt64) then (u4.toInt64 + (((m4.1 52 1).toInt64) - u5.toInt64)) else ((if u3 < (0 : Int32) then (0 : Int32) else u3).toInt64)).toInt32)), (5, .int (if u3 < (0 : Int32) then (0 : Int32) else u3)), (4, .int u2), (3, .int u1), (0, .ref 52), (1, .int l1), (2, .int l2)] [.int ((if (u4.toInt64 + (((m4.1 52 1).toInt64) - u5.toInt64)) < ((if u3 < (0 : Int32) then (0 : Int32) else u3).toInt64) then (u4.toInt64 + (((m4.1 52 1).toInt64) - u5.toInt64)) else ((if u3 < (0 : Int32) then (0 : Int32) else u3).toInt64)).toInt32), .int u1, .int l2, .ref 52] m5 Q
      refine y_headS (l2 := [(0, .ref 52), (2, .int l2), (3, .int u1), (5, .int (if u3 < (0 : Int32) then (0 : Int32) else u3))]) [4, 6, 3, 1] [0, 2, 3, 5] [6, 5, 4, 3, 0, 1, 2] rfl rfl (by decide) rfl (by decide) ?_
      exact H
set_option maxRecDepth 20000 in
/-- CodeMaker.Machine.timer from 78 on -/
theorem w255_78 (xs : List Int32) (d : Nat) (l2 : Int32) (l3 : Int32) (l5 : Int32) (s1 : Int32) (s2 : Int32) (s3 : Int32) (m : yM) (Q : Option Value → yM → Prop) (H : (yC (xg xs) d 257 [.ref 52, .int s1, .int s2, .int s3, .int l5] m (fun v1 m1 => v1 = none ∧ yP (xg xs) (d + 1) 255 118 [(0, .ref 52), (2, .int l2), (3, .int l3)] [] m1 Q))) : yP (xg xs) (d + 1) 255 78 [(0, .ref 52), (2, .int l2), (3, .int l3), (5, .int l5)] [.int s3, .int s2, .int s1, .ref 52] m Q := by
  refine y_st rfl rfl rfl rfl rfl (fun _ _ => rfl) ?_
  show yP (xg xs) (d + 1) 255 80 [(0, .ref 52), (2, .int l2), (3, .int l3), (5, .int l5)] [.int l5, .int s3, .int s2, .int s1, .ref 52] m Q
  refine y_call rfl rfl rfl rfl rfl (Nat.le_of_ble_eq_true rfl) (Nat.le_of_ble_eq_true rfl) rfl (by decide) H (fun v1 m1 H => ?_)
  obtain ⟨rfl, H⟩ := H
  refine y_st rfl rfl rfl rfl rfl (fun _ _ => rfl) ?_
  show yP (xg xs) (d + 1) 255 118 [(0, .ref 52), (2, .int l2), (3, .int l3), (5, .int l5)] [] m1 Q
  refine y_headS (l2 := [(0, .ref 52), (2, .int l2), (3, .int l3)]) [0, 1, 2] [0, 2, 3] [0, 2, 3, 5] rfl rfl (by decide) rfl (by decide) ?_
  exact H
set_option maxRecDepth 20000 in
/-- CodeMaker.Machine.timer from 118 on -/
theorem w255_118 (xs : List Int32) (d : Nat) (l2 : Int32) (l3 : Int32) (m : yM) (Q : Option Value → yM → Prop) (H : (yC (xg xs) d 258 [.ref 52, .int (l2 + (4 : Int32)), .int l3] m (fun v1 m1 => v1 = none ∧ (yC (xg xs) d 234 [.ref 52, .int (l2 + (5 : Int32)), .int (m1.1 52 1)] m1 (fun v2 m2 => v2 = none ∧ Q none m2))))) : yP (xg xs) (d + 1) 255 118 [(0, .ref 52), (2, .int l2), (3, .int l3)] [] m Q := by
  refine y_st rfl rfl rfl rfl rfl (fun _ _ => rfl) ?_
  refine y_st rfl rfl rfl rfl rfl (fun _ _ => rfl) ?_
  refine y_st rfl rfl rfl rfl rfl (fun _ _ => rfl) ?_
  refine y_st rfl rfl rfl rfl rfl (fun _ _ => rfl) ?_
  refine y_st rfl rfl rfl rfl rfl (fun _ _ => rfl) ?_
  show yP (xg xs) (d + 1) 255 123 [(0, .ref 52), (2, .int l2), (3, .int l3)] [.int l3, .int (l2 + (4 : Int32)), .ref 52] m Q
  refine y_call rfl rfl rfl rfl rfl (Nat.le_of_ble_eq_true rfl) (Nat.le_of_ble_eq_true rfl) rfl (by decide) H (fun v1 m1 H => ?_)
  obtain ⟨rfl, H⟩ := H
  refine y_st rfl rfl rfl rfl rfl (fun _ _ => rfl) ?_
  refine y_st rfl rfl rfl rfl rfl (fun _ _ => rfl) ?_
  refine y_st rfl rfl rfl rfl rfl (fun _ _ => rfl) ?_
  refine y_st rfl rfl rfl rfl rfl (fun _ _ => rfl) ?_
  refine y_st rfl rfl rfl rfl rfl (fun _ _ => rfl) ?_
  refine y_gf rfl rfl rfl rfl rfl ?_
  show yP (xg xs) (d + 1) 255 134 [(0, .ref 52), (2, .int l2), (3, .int l3)] [.int (m1.1 52 1), .int (l2 + (5 : Int32)), .ref 52] m1 Q
  refine y_call rfl rfl rfl rfl rfl (Nat.le_of_ble_eq_true rfl) (Nat.le_of_ble_eq_true rfl) rfl (by decide) H (fun v2 m2 H => ?_)
  obtain ⟨rfl, H⟩ := H
  show yP (xg xs) (d + 1) 255 137 [(0, .ref 52), (2, .int l2), (3, .int l3)] [] m2 Q
  exact y_ret rfl rfl rfl rfl H
set_option maxRecDepth 20000 in
/-- CodeMaker.Machine.timeOn from 0 on -/
theorem w257_0 (xs : List Int32) (d : Nat) (l1 : Int32) (l2 : Int32) (l3 : Int32) (l4 : Int32) (m : yM) (Q : Option Value → yM → Prop) (H : ((l2 = 0 → yP (xg xs) (d + 1) 257 13 [(0, .ref 52), (1, .int l1), (2, .int l2), (3, .int l3), (4, .int l4)] [.int (0 : Int32), .int (l1 + (3 : Int32)), .ref 52] m Q) ∧ (¬ l2 = 0 → yP (xg xs) (d + 1) 257 13 [(0, .ref 52), (1, .int l1), (2, .int l2), (3, .int l3), (4, .int l4)] [.int l3, .int (l1 + (3 : Int32)), .ref 52] m Q))) : yP (xg xs) (d + 1) 257 0 [(0, .ref 52), (1, .int l1), (2, .int l2), (3, .int l3), (4, .int l4)] [] m Q := by
  refine y_st rfl rfl rfl rfl rfl (fun _ _ => rfl) ?_
  refine y_st rfl rfl rfl rfl rfl (fun _ _ => rfl) ?_
  refine y_st rfl rfl rfl rfl rfl (fun _ _ => rfl) ?_
  refine y_st rfl rfl rfl rfl rfl (fun _ _ => rfl) ?_
  refine y_st rfl rfl rfl rfl rfl (fun _ _ => rfl) ?_
  show yP (xg xs) (d + 1) 257 5 [(0, .ref 52), (1, .int l1), (2, .int l2), (3, .int l3), (4, .int l4)] [.int l2, .int (l1 + (3 : Int32)), .ref 52] m Q
  refine y_zeq (t := 12) rfl rfl rfl (fun h => ?_) (fun h => ?_)
  · replace H := H.1 h; clear h
    refine y_st rfl rfl rfl rfl rfl (fun _ _ => rfl) ?_
    show yP (xg xs) (d + 1) 257 13 [(0, .ref 52), (1, .int l1), (2, .int l2), (3, .int l3), (4, .int l4)] [.int (0 : Int32), .int (l1 + (3 : Int32)), .ref 52] m Q
    exact H
  · replace H := H.2 h; clear h
    refine y_st rfl rfl rfl rfl rfl (fun _ _ => rfl) ?_
    refine y_st rfl rfl rfl rfl rfl (fun _ _ => rfl) ?_
    show yP (xg xs) (d + 1) 257 13 [(0, .ref 52), (1, .int l1), (2, .int l2), (3, .int l3), (4, .int l4)] [.int l3, .int (l1 + (3 : Int32)), .ref 52] m Q
    exact H
set_option maxRecDepth 20000 in
/-- CodeMaker.Machine.timeOn from 13 on -/
theorem w257_13 (xs : List Int32) (d : Nat) (l1 : Int32) (l2 : Int32) (l3 : Int32) (l4 : Int32) (s1 : Int32) (s2 : Int32) (m : yM) (Q : Option Value → yM → Prop) (H : (yC (xg xs) d 234 [.ref 52, .int s1, .int s2] m (fun v1 m1 => v1 = none ∧ ((l2 = 0 → yP (xg xs) (d + 1) 257 34 [] [.int (l1 + (2 : Int32)), .ref 52] m1 Q) ∧ (¬ l2 = 0 → ((l3 < l4 → yP (xg xs) (d + 1) 257 34 [] [.int (l1 + (2 : Int32)), .ref 52] m1 Q) ∧ (¬ l3 < l4 → yP (xg xs) (d + 1) 257 35 [] [.int (1 : Int32), .int (l1 + (2 : Int32)), .ref 52] m1 Q))))))) : yP (xg xs) (d + 1) 257 13 [(0, .ref 52), (1, .int l1), (2, .int l2), (3, .int l3), (4, .int l4)] [.int s2, .int s1, .ref 52] m Q := by
  show yP (xg xs) (d + 1) 257 13 [(0, .ref 52), (1, .int l1), (2, .int l2), (3, .int l3), (4, .int l4)] [.int s2, .int s1, .ref 52] m Q
  refine y_call rfl rfl rfl rfl rfl (Nat.le_of_ble_eq_true rfl) (Nat.le_of_ble_eq_true rfl) rfl (by decide) H (fun v1 m1 H => ?_)
  obtain ⟨rfl, H⟩ := H
  refine y_st rfl rfl rfl rfl rfl (fun _ _ => rfl) ?_
  refine y_st rfl rfl rfl rfl rfl (fun _ _ => rfl) ?_
  refine y_st rfl rfl rfl rfl rfl (fun _ _ => rfl) ?_
  refine y_st rfl rfl rfl rfl rfl (fun _ _ => rfl) ?_
  refine y_st rfl rfl rfl rfl rfl (fun _ _ => rfl) ?_
  show yP (xg xs) (d + 1) 257 21 [(0, .ref 52), (1, .int l1), (2, .int l2), (3, .int l3), (4, .int l4)] [.int l2, .int (l1 + (2 : Int32)), .ref 52] m1 Q
  refine y_zeq (t := 34) rfl rfl rfl (fun h => ?_) (fun h => ?_)
  · replace H := H.1 h; clear h
    show yP (xg xs) (d + 1) 257 34 [(0, .ref 52), (1, .int l1), (2, .int l2), (3, .int l3), (4, .int l4)] [.int (l1 + (2 : Int32)), .ref 52] m1 Q
    refine y_headS (l2 := []) [] [] [0, 1, 2, 3, 4] rfl rfl (by decide) rfl (by decide) ?_
    exact H
  · replace H := H.2 h; clear h
    refine y_st rfl rfl rfl rfl rfl (fun _ _ => rfl) ?_
    refine y_st rfl rfl rfl rfl rfl (fun _ _ => rfl) ?_
    show yP (xg xs) (d + 1) 257 27 [(0, .ref 52), (1, .int l1), (2, .int l2), (3, .int l3), (4, .int l4)] [.int l4, .int l3, .int (l1 + (2 : Int32)), .ref 52] m1 Q
    refine y_ilt (t := 34) rfl rfl rfl (fun h => ?_) (fun h => ?_)
    · replace H := H.1 h; clear h
      show yP (xg xs) (d + 1) 257 34 [(0, .ref 52), (1, .int l1), (2, .int l2), (3, .int l3), (4, .int l4)] [.int (l1 + (2 : Int32)), .ref 52] m1 Q
      refine y_headS (l2 := []) [] [] [0, 1, 2, 3, 4] rfl rfl (by decide) rfl (by decide) ?_
      exact H
    · replace H := H.2 h; clear h
      refine y_st rfl rfl rfl rfl rfl (fun _ _ => rfl) ?_
      refine y_st rfl rfl rfl rfl rfl (fun _ _ => rfl) ?_
      show yP (xg xs) (d + 1) 257 35 [(0, .ref 52), (1, .int l1), (2, .int l2), (3, .int l3), (4, .int l4)] [.int (1 : Int32), .int (l1 + (2 : Int32)), .ref 52] m1 Q
      refine y_headS (l2 := []) [] [] [0, 1, 2, 3, 4] rfl rfl (by decide) rfl (by decide) ?_
      exact H
set_option maxRecDepth 20000 in
/-- CodeMaker.Machine.timeOn from 34 on -/
theorem w257_34 (xs : List Int32) (d : Nat) (s1 : Int32) (m : yM) (Q : Option Value → yM → Prop) (H : yP (xg xs) (d + 1) 257 35 [] [.int (0 : Int32), .int s1, .ref 52] m Q) : yP (xg xs) (d + 1) 257 34 [] [.int s1, .ref 52] m Q := by
  refine y_st rfl rfl rfl rfl rfl (fun _ _ => rfl) ?_
  show yP (xg xs) (d + 1) 257 35 [] [.int (0 : Int32), .int s1, .ref 52] m Q
  exact H
set_option maxRecDepth 20000 in
/-- CodeMaker.Machine.timeOn from 35 on -/
theorem w257_35 (xs : List Int32) (d : Nat) (s1 : Int32) (s2 : Int32) (m : yM) (Q : Option Value → yM → Prop) (H : (yC (xg xs) d 258 [.ref 52, .int s1, .int s2] m (fun v1 m1 => v1 = none ∧ Q none m1))) : yP (xg xs) (d + 1) 257 35 [] [.int s2, .int s1, .ref 52] m Q := by
  show yP (xg xs) (d + 1) 257 35 [] [.int s2, .int s1, .ref 52] m Q
  refine y_call rfl rfl rfl rfl rfl (Nat.le_of_ble_eq_true rfl) (Nat.le_of_ble_eq_true rfl) rfl (by decide) H (fun v1 m1 H => ?_)
  obtain ⟨rfl, H⟩ := H
  show yP (xg xs) (d + 1) 257 38 [] [] m1 Q
  exact y_ret rfl rfl rfl rfl H
set_option maxRecDepth 20000 in
/-- CodeMaker.Machine.timeOff from 0 on -/
theorem w259_0 (xs : List Int32) (d : Nat) (l1 : Int32) (l2 : Int32) (l3 : Int32) (l4 : Int32) (l5 : Int32) (m : yM) (Q : Option Value → yM → Prop) (H : ((l2 = 0 → ((l3 = 0 → (yC (xg xs) d 256 [.ref 52, .int (l1 + (2 : Int32))] m (fun v1 m1 => ∃ u1, v1 = some (Value.int u1) ∧ ((u1 = 0 → Q none m1) ∧ (¬ u1 = 0 → (yC (xg xs) d 234 [.ref 52, .int (l1 + (3 : Int32)), .int l4] m1 (fun v2 m2 => v2 = none ∧ ((l5 ≤ l4 → yP (xg xs) (d + 1) 259 90 [] [.int (0 : Int32), .int (l1 + (2 : Int32)), .ref 52] m2 Q) ∧ (¬ l5 ≤ l4 → yP (xg xs) (d + 1) 259 90 [] [.int (1 : Int32), .int (l1 + (2 : Int32)), .ref 52] m2 Q))))))))) ∧ (¬ l3 = 0 → (yC (xg xs) d 234 [.ref 52, .int (l1 + (3 : Int32)), .int (0 : Int32)] m (fun v3 m3 => v3 = none ∧ ((l5 ≤ 0 → yP (xg xs) (d + 1) 259 49 [] [.int (0 : Int32), .int (l1 + (2 : Int32)), .ref 52] m3 Q) ∧ (¬ l5 ≤ 0 → yP (xg xs) (d + 1) 259 49 [] [.int (1 : Int32), .int (l1 + (2 : Int32)), .ref 52] m3 Q))))))) ∧ (¬ l2 = 0 → (yC (xg xs) d 258 [.ref 52, .int (l1 + (2 : Int32)), .int (1 : Int32)] m (fun v4 m4 => v4 = none ∧ (yC (xg xs) d 234 [.ref 52, .int (l1 + (3 : Int32)), .int (0 : Int32)] m4 (fun v5 m5 => v5 = none ∧ Q none m5))))))) : yP (xg xs) (d + 1) 259 0 [(0, .ref 52), (1, .int l1), (2, .int l2), (3, .int l3), (4, .int l4), (5, .int l5)] [] m Q := by
  refine y_st rfl rfl rfl rfl rfl (fun _ _ => rfl) ?_
  show yP (xg xs) (d + 1) 259 1 [(0, .ref 52), (1, .int l1), (2, .int l2), (3, .int l3), (4, .int l4), (5, .int l5)] [.int l2] m Q
  refine y_zeq (t := 23) rfl rfl rfl (fun h => ?_) (fun h => ?_)
  · replace H := H.1 h; clear h
    refine y_st rfl rfl rfl rfl rfl (fun _ _ => rfl) ?_
    show yP (xg xs) (d + 1) 259 24 [(0, .ref 52), (1, .int l1), (2, .int l2), (3, .int l3), (4, .int l4), (5, .int l5)] [.int l3] m Q
    refine y_zeq (t := 55) rfl rfl rfl (fun h => ?_) (fun h => ?_)
    · replace H := H.1 h; clear h
      refine y_st rfl rfl rfl rfl rfl (fun _ _ => rfl) ?_
      refine y_st rfl rfl rfl rfl rfl (fun _ _ => rfl) ?_
      refine y_st rfl rfl rfl rfl rfl (fun _ _ => rfl) ?_
      refine y_st rfl rfl rfl rfl rfl (fun _ _ => rfl) ?_
      show yP (xg xs) (d + 1) 259 59 [(0, .ref 52), (1, .int l1), (2, .int l2), (3, .int l3), (4, .int l4), (5, .int l5)] [.int (l1 + (2 : Int32)), .ref 52] m Q
      refine y_call rfl rfl rfl rfl rfl (Nat.le_of_ble_eq_true rfl) (Nat.le_of_ble_eq_true rfl) rfl (by decide) H (fun v1 m1 H => ?_)
      obtain ⟨u1, rfl, H⟩ := H
      show yP (xg xs) (d + 1) 259 62 [(0, .ref 52), (1, .int l1), (2, .int l2), (3, .int l3), (4, .int l4), (5, .int l5)] [.int u1] m1 Q
      refine y_zeq (t := 93) rfl rfl rfl (fun h => ?_) (fun h => ?_)
      · replace H := H.1 h; clear h
        show yP (xg xs) (d + 1) 259 93 [(0, .ref 52), (1, .int l1), (2, .int l2), (3, .int l3), (4, .int l4), (5, .int l5)] [] m1 Q
        exact y_ret rfl rfl rfl rfl H
      · replace H := H.2 h; clear h
        refine y_st rfl rfl rfl rfl rfl (fun _ _ => rfl) ?_
        refine y_st rfl rfl rfl rfl rfl (fun _ _ => rfl) ?_
        refine y_st rfl rfl rfl rfl rfl (fun _ _ => rfl) ?_
        refine y_st rfl rfl rfl rfl rfl (fun _ _ => rfl) ?_
        refine y_st rfl rfl rfl rfl rfl (fun _ _ => rfl) ?_
        show yP (xg xs) (d + 1) 259 71 [(0, .ref 52), (1, .int l1), (2, .int l2), (3, .int l3), (4, .int l4), (5, .int l5)] [.int l4, .int (l1 + (3 : Int32)), .ref 52] m1 Q
        refine y_call rfl rfl rfl rfl rfl (Nat.le_of_ble_eq_true rfl) (Nat.le_of_ble_eq_true rfl) rfl (by decide) H (fun v2 m2 H => ?_)
        obtain ⟨rfl, H⟩ := H
        refine y_st rfl rfl rfl rfl rfl (fun _ _ => rfl) ?_
        refine y_st rfl rfl rfl rfl rfl (fun _ _ => rfl) ?_
        refine y_st rfl rfl rfl rfl rfl (fun _ _ => rfl) ?_
        refine y_st rfl rfl rfl rfl rfl (fun _ _ => rfl) ?_
        refine y_st rfl rfl rfl rfl rfl (fun _ _ => rfl) ?_
        refine y_st rfl rfl rfl rfl rfl (fun _ _ => rfl) ?_
        show yP (xg xs) (d + 1) 259 82 [(0, .ref 52), (1, .int l1), (2, .int l2), (3, .int l3), (4, .int l4), (5, .int l5)] [.int l5, .int l4, .int (l1 + (2 : Int32)), .ref 52] m2 Q
        refine y_ige (t := 89) rfl rfl rfl (fun h => ?_) (fun h => ?_)
        · replace H := H.1 h; clear h
          refine y_st rfl rfl rfl rfl rfl (fun _ _ => rfl) ?_
          show yP (xg xs) (d + 1) 259 90 [(0, .ref 52), (1, .int l1), (2, .int l2), (3, .int l3), (4, .int l4), (5, .int l5)] [.int (0 : Int32), .int (l1 + (2 : Int32)), .ref 52] m2 Q
          refine y_headS (l2 := []) [] [] [0, 1, 2, 3, 4, 5] rfl rfl (by decide) rfl (by decide) ?_
          exact H
        · replace H := H.2 h; clear h
          refine y_st rfl rfl rfl rfl rfl (fun _ _ => rfl) ?_
          refine y_st rfl rfl rfl rfl rfl (fun _ _ => rfl) ?_
          show yP (xg xs) (d + 1) 259 90 [(0, .ref 52), (1, .int l1), (2, .int l2), (3, .int l3), (4, .int l4), (5, .int l5)] [.int (1 : Int32), .int (l1 + (2 : Int32)), .ref 52] m2 Q
          refine y_headS (l2 := []) [] [] [0, 1, 2, 3, 4, 5] rfl rfl (by decide) rfl (by decide) ?_
          exact H
    · replace H := H.2 h; clear h
      refine y_st rfl rfl rfl rfl rfl (fun _ _ => rfl) ?_
      refine y_st rfl rfl rfl rfl rfl (fun _ _ => rfl) ?_
      refine y_st rfl rfl rfl rfl rfl (fun _ _ => rfl) ?_
      refine y_st rfl rfl rfl rfl rfl (fun _ _ => rfl) ?_
      refine y_st rfl rfl rfl rfl rfl (fun _ _ => rfl) ?_
      show yP (xg xs) (d + 1) 259 32 [(0, .ref 52), (1, .int l1), (2, .int l2), (3, .int l3), (4, .int l4), (5, .int l5)] [.int (0 : Int32), .int (l1 + (3 : Int32)), .ref 52] m Q
      refine y_call rfl rfl rfl rfl rfl (Nat.le_of_ble_eq_true rfl) (Nat.le_of_ble_eq_true rfl) rfl (by decide) H (fun v3 m3 H => ?_)
      obtain ⟨rfl, H⟩ := H
      refine y_st rfl rfl rfl rfl rfl (fun _ _ => rfl) ?_
      refine y_st rfl rfl rfl rfl rfl (fun _ _ => rfl) ?_
      refine y_st rfl rfl rfl rfl rfl (fun _ _ => rfl) ?_
      refine y_st rfl rfl rfl rfl rfl (fun _ _ => rfl) ?_
      refine y_st rfl rfl rfl rfl rfl (fun _ _ => rfl) ?_
      show yP (xg xs) (d + 1) 259 41 [(0, .ref 52), (1, .int l1), (2, .int l2), (3, .int l3), (4, .int l4), (5, .int l5)] [.int l5, .int (l1 + (2 : Int32)), .ref 52] m3 Q
      refine y_zle (t := 48) rfl rfl rfl (fun h => ?_) (fun h => ?_)
      · replace H := H.1 h; clear h
        refine y_st rfl rfl rfl rfl rfl (fun _ _ => rfl) ?_
        show yP (xg xs) (d + 1) 259 49 [(0, .ref 52), (1, .int l1), (2, .int l2), (3, .int l3), (4, .int l4), (5, .int l5)] [.int (0 : Int32), .int (l1 + (2 : Int32)), .ref 52] m3 Q
        refine y_headS (l2 := []) [] [] [0, 1, 2, 3, 4, 5] rfl rfl (by decide) rfl (by decide) ?_
        exact H
      · replace H := H.2 h; clear h
        refine y_st rfl rfl rfl rfl rfl (fun _ _ => rfl) ?_
        refine y_st rfl rfl rfl rfl rfl (fun _ _ => rfl) ?_
        show yP (xg xs) (d + 1) 259 49 [(0, .ref 52), (1, .int l1), (2, .int l2), (3, .int l3), (4, .int l4), (5, .int l5)] [.int (1 : Int32), .int (l1 + (2 : Int32)), .ref 52] m3 Q
        refine y_headS (l2 := []) [] [] [0, 1, 2, 3, 4, 5] rfl rfl (by decide) rfl (by decide) ?_
        exact H
  · replace H := H.2 h; clear h
    refine y_st rfl rfl rfl rfl rfl (fun _ _ => rfl) ?_
    refine y_st rfl rfl rfl rfl rfl (fun _ _ => rfl) ?_
    refine y_st rfl rfl rfl rfl rfl (fun _ _ => rfl) ?_
    refine y_st rfl rfl rfl rfl rfl (fun _ _ => rfl) ?_
    refine y_st rfl rfl rfl rfl rfl (fun _ _ => rfl) ?_
    show yP (xg xs) (d + 1) 259 9 [(0, .ref 52), (1, .int l1), (2, .int l2), (3, .int l3), (4, .int l4), (5, .int l5)] [.int (1 : Int32), .int (l1 + (2 : Int32)), .ref 52] m Q
    refine y_call rfl rfl rfl rfl rfl (Nat.le_of_ble_eq_true rfl) (Nat.le_of_ble_eq_true rfl) rfl (by decide) H (fun v4 m4 H => ?_)
    obtain ⟨rfl, H⟩ := H
    refine y_st rfl rfl rfl rfl rfl (fun _ _ => rfl) ?_
    refine y_st rfl rfl rfl rfl rfl (fun _ _ => rfl) ?_
    refine y_st rfl rfl rfl rfl rfl (fun _ _ => rfl) ?_
    refine y_st rfl rfl rfl rfl rfl (fun _ _ => rfl) ?_
    refine y_st rfl rfl rfl rfl rfl (fun _ _ => rfl) ?_
    show yP (xg xs) (d + 1) 259 17 [(0, .ref 52), (1, .int l1), (2, .int l2), (3, .int l3), (4, .int l4), (5, .int l5)] [.int (0 : Int32), .int (l1 + (3 : Int32)), .ref 52] m4 Q
    refine y_call rfl rfl rfl rfl rfl (Nat.le_of_ble_eq_true rfl) (Nat.le_of_ble_eq_true rfl) rfl (by decide) H (fun v5 m5 H => ?_)
    obtain ⟨rfl, H⟩ := H
    refine y_st rfl rfl rfl rfl rfl (fun _ _ => rfl) ?_
    show yP (xg xs) (d + 1) 259 93 [(0, .ref 52), (1, .int l1), (2, .int l2), (3, .int l3), (4, .int l4), (5, .int l5)] [] m5 Q
    exact y_ret rfl rfl rfl rfl H
set_option maxRecDepth 20000 in
/-- CodeMaker.Machine.timeOff from 49 on -/
theorem w259_49 (xs : List Int32) (d : Nat) (s1 : Int32) (s2 : Int32) (m : yM) (Q : Option Value → yM → Prop) (H : (yC (xg xs) d 258 [.ref 52, .int s1, .int s2] m (fun v1 m1 => v1 = none ∧ Q none m1))) : yP (xg xs) (d + 1) 259 49 [] [.int s2, .int s1, .ref 52] m Q := by
  show yP (xg xs) (d + 1) 259 49 [] [.int s2, .int s1, .ref 52] m Q
  refine y_call rfl rfl rfl rfl rfl (Nat.le_of_ble_eq_true rfl) (Nat.le_of_ble_eq_true rfl) rfl (by decide) H (fun v1 m1 H => ?_)
  obtain ⟨rfl, H⟩ := H
  refine y_st rfl rfl rfl rfl rfl (fun _ _ => rfl) ?_
  show yP (xg xs) (d + 1) 259 93 [] [] m1 Q
  exact y_ret rfl rfl rfl rfl H
set_option maxRecDepth 20000 in
/-- CodeMaker.Machine.timeOff from 90 on -/
theorem w259_90 (xs : List Int32) (d : Nat) (s1 : Int32) (s2 : Int32) (m : yM) (Q : Option Value → yM → Prop) (H : (yC (xg xs) d 258 [.ref 52, .int s1, .int s2] m (fun v1 m1 => v1 = none ∧ Q none m1))) : yP (xg xs) (d + 1) 259 90 [] [.int s2, .int s1, .ref 52] m Q := by
  show yP (xg xs) (d + 1) 259 90 [] [.int s2, .int s1, .ref 52] m Q
  refine y_call rfl rfl rfl rfl rfl (Nat.le_of_ble_eq_true rfl) (Nat.le_of_ble_eq_true rfl) rfl (by decide) H (fun v1 m1 H => ?_)
  obtain ⟨rfl, H⟩ := H
  show yP (xg xs) (d + 1) 259 93 [] [] m1 Q
  exact y_ret rfl rfl rfl rfl H
set_option maxRecDepth 20000 in
/-- CodeMaker.Machine.pulse from 0 on -/
theorem w260_0 (xs : List Int32) (d : Nat) (l1 : Int32) (l2 : Int32) (l3 : Int32) (l4 : Int32) (l5 : Int32) (m : yM) (Q : Option Value → yM → Prop) (H : (yC (xg xs) d 256 [.ref 52, .int (l1 + (2 : Int32))] m (fun v1 m1 => ∃ u1, v1 = some (Value.int u1) ∧ ((u1 = 0 → yP (xg xs) (d + 1) 260 34 [(0, .ref 52), (1, .int l1), (2, .int l2), (3, .int l3), (5, .int l5)] [] m1 Q) ∧ (¬ u1 = 0 → (yC (xg xs) d 234 [.ref 52, .int (l1 + (3 : Int32)), .int l4] m1 (fun v2 m2 => v2 = none ∧ ((l4 < l5 → yP (xg xs) (d + 1) 260 34 [(0, .ref 52), (1, .int l1), (2, .int l2), (3, .int l3), (5, .int l5)] [] m2 Q) ∧ (¬ l4 < l5 → (yC (xg xs) d 234 [.ref 52, .int (l1 + (2 : Int32)), .int (0 : Int32)] m2 (fun v3 m3 => v3 = none ∧ yP (xg xs) (d + 1) 260 34 [(0, .ref 52), (1, .int l1), (2, .int l2), (3, .int l3), (5, .int l5)] [] m3 Q))))))))))) : yP (xg xs) (d + 1) 260 0 [(0, .ref 52), (1, .int l1), (2, .int l2), (3, .int l3), (4, .int l4), (5, .int l5)] [] m Q := by
  refine y_st rfl rfl rfl rfl rfl (fun _ _ => rfl) ?_
  refine y_st rfl rfl rfl rfl rfl (fun _ _ => rfl) ?_
  refine y_st rfl rfl rfl rfl rfl (fun _ _ => rfl) ?_
  refine y_st rfl rfl rfl rfl rfl (fun _ _ => rfl) ?_
  show yP (xg xs) (d + 1) 260 4 [(0, .ref 52), (1, .int l1), (2, .int l2), (3, .int l3), (4, .int l4), (5, .int l5)] [.int (l1 + (2 : Int32)), .ref 52] m Q
  refine y_call rfl rfl rfl rfl rfl (Nat.le_of_ble_eq_true rfl) (Nat.le_of_ble_eq_true rfl) rfl (by decide) H (fun v1 m1 H => ?_)
  obtain ⟨u1, rfl, H⟩ := H
  show yP (xg xs) (d + 1) 260 7 [(0, .ref 52), (1, .int l1), (2, .int l2), (3, .int l3), (4, .int l4), (5, .int l5)] [.int u1] m1 Q
  refine y_zeq (t := 34) rfl rfl rfl (fun h => ?_) (fun h => ?_)
  · replace H := H.1 h; clear h
    show yP (xg xs) (d + 1) 260 34 [(0, .ref 52), (1, .int l1), (2, .int l2), (3, .int l3), (4, .int l4), (5, .int l5)] [] m1 Q
    refine y_headS (l2 := [(0, .ref 52), (1, .int l1), (2, .int l2), (3, .int l3), (5, .int l5)]) [0, 1, 2, 3, 5] [0, 1, 2, 3, 5] [0, 1, 2, 3, 4, 5] rfl rfl (by decide) rfl (by decide) ?_
    exact H
  · replace H := H.2 h; clear h
    refine y_st rfl rfl rfl rfl rfl (fun _ _ => rfl) ?_
    refine y_st rfl rfl rfl rfl rfl (fun _ _ => rfl) ?_
    refine y_st rfl rfl rfl rfl rfl (fun _ _ => rfl) ?_
    refine y_st rfl rfl rfl rfl rfl (fun _ _ => rfl) ?_
    refine y_st rfl rfl rfl rfl rfl (fun _ _ => rfl) ?_
    show yP (xg xs) (d + 1) 260 16 [(0, .ref 52), (1, .int l1), (2, .int l2), (3, .int l3), (4, .int l4), (5, .int l5)] [.int l4, .int (l1 + (3 : Int32)), .ref 52] m1 Q
    refine y_call rfl rfl rfl rfl rfl (Nat.le_of_ble_eq_true rfl) (Nat.le_of_ble_eq_true rfl) rfl (by decide) H (fun v2 m2 H => ?_)
    obtain ⟨rfl, H⟩ := H
    refine y_st rfl rfl rfl rfl rfl (fun _ _ => rfl) ?_
    refine y_st rfl rfl rfl rfl rfl (fun _ _ => rfl) ?_
    show yP (xg xs) (d + 1) 260 23 [(0, .ref 52), (1, .int l1), (2, .int l2), (3, .int l3), (4, .int l4), (5, .int l5)] [.int l5, .int l4] m2 Q
    refine y_ilt (t := 34) rfl rfl rfl (fun h => ?_) (fun h => ?_)
    · replace H := H.1 h; clear h
      show yP (xg xs) (d + 1) 260 34 [(0, .ref 52), (1, .int l1), (2, .int l2), (3, .int l3), (4, .int l4), (5, .int l5)] [] m2 Q
      refine y_headS (l2 := [(0, .ref 52), (1, .int l1), (2, .int l2), (3, .int l3), (5, .int l5)]) [0, 1, 2, 3, 5] [0, 1, 2, 3, 5] [0, 1, 2, 3, 4, 5] rfl rfl (by decide) rfl (by decide) ?_
      exact H
    · replace H := H.2 h; clear h
      refine y_st rfl rfl rfl rfl rfl (fun _ _ => rfl) ?_
      refine y_st rfl rfl rfl rfl rfl (fun _ _ => rfl) ?_
      refine y_st rfl rfl rfl rfl rfl (fun _ _ => rfl) ?_
      refine y_st rfl rfl rfl rfl rfl (fun _ _ => rfl) ?_
      refine y_st rfl rfl rfl rfl rfl (fun _ _ => rfl) ?_
      show yP (xg xs) (d + 1) 260 31 [(0, .ref 52), (1, .int l1), (2, .int l2), (3, .int l3), (4, .int l4), (5, .int l5)] [.int (0 : Int32), .int (l1 + (2 : Int32)), .ref 52] m2 Q
      refine y_call rfl rfl rfl rfl rfl (Nat.le_of_ble_eq_true rfl) (Nat.le_of_ble_eq_true rfl) rfl (by decide) H (fun v3 m3 H => ?_)
      obtain ⟨rfl, H⟩ := H
      show yP (xg xs) (d + 1) 260 34 [(0, .ref 52), (1, .int l1), (2, .int l2), (3, .int l3), (4, .int l4), (5, .int l5)] [] m3 Q
      refine y_headS (l2 := [(0, .ref 52), (1, .int l1), (2, .int l2), (3, .int l3), (5, .int l5)]) [0, 1, 2, 3, 5] [0, 1, 2, 3, 5] [0, 1, 2, 3, 4, 5] rfl rfl (by decide) rfl (by decide) ?_
      exact H
set_option maxRecDepth 20000 in
/-- CodeMaker.Machine.pulse from 34 on -/
theorem w260_34 (xs : List Int32) (d : Nat) (l1 : Int32) (l2 : Int32) (l3 : Int32) (l5 : Int32) (m : yM) (Q : Option Value → yM → Prop) (H : (yC (xg xs) d 256 [.ref 52, .int (l1 + (2 : Int32))] m (fun v1 m1 => ∃ u1, v1 = some (Value.int u1) ∧ ((¬ u1 = 0 → Q none m1) ∧ (u1 = 0 → ((l2 = 0 → yP (xg xs) (d + 1) 260 80 [(0, .ref 52), (1, .int l1), (2, .int l2)] [] m1 Q) ∧ (¬ l2 = 0 → ((¬ l3 = 0 → yP (xg xs) (d + 1) 260 80 [(0, .ref 52), (1, .int l1), (2, .int l2)] [] m1 Q) ∧ (l3 = 0 → (yC (xg xs) d 234 [.ref 52, .int (l1 + (3 : Int32)), .int (0 : Int32)] m1 (fun v2 m2 => v2 = none ∧ ((l5 ≤ 0 → yP (xg xs) (d + 1) 260 74 [] [.int (0 : Int32), .int (l1 + (2 : Int32)), .ref 52] m2 Q) ∧ (¬ l5 ≤ 0 → yP (xg xs) (d + 1) 260 74 [] [.int (1 : Int32), .int (l1 + (2 : Int32)), .ref 52] m2 Q))))))))))))) : yP (xg xs) (d + 1) 260 34 [(0, .ref 52), (1, .int l1), (2, .int l2), (3, .int l3), (5, .int l5)] [] m Q := by
  refine y_st rfl rfl rfl rfl rfl (fun _ _ => rfl) ?_
  refine y_st rfl rfl rfl rfl rfl (fun _ _ => rfl) ?_
  refine y_st rfl rfl rfl rfl rfl (fun _ _ => rfl) ?_
  refine y_st rfl rfl rfl rfl rfl (fun _ _ => rfl) ?_
  show yP (xg xs) (d + 1) 260 38 [(0, .ref 52), (1, .int l1), (2, .int l2), (3, .int l3), (5, .int l5)] [.int (l1 + (2 : Int32)), .ref 52] m Q
  refine y_call rfl rfl rfl rfl rfl (Nat.le_of_ble_eq_true rfl) (Nat.le_of_ble_eq_true rfl) rfl (by decide) H (fun v1 m1 H => ?_)
  obtain ⟨u1, rfl, H⟩ := H
  show yP (xg xs) (d + 1) 260 41 [(0, .ref 52), (1, .int l1), (2, .int l2), (3, .int l3), (5, .int l5)] [.int u1] m1 Q
  refine y_zne (t := 92) rfl rfl rfl (fun h => ?_) (fun h => ?_)
  · replace H := H.1 h; clear h
    show yP (xg xs) (d + 1) 260 92 [(0, .ref 52), (1, .int l1), (2, .int l2), (3, .int l3), (5, .int l5)] [] m1 Q
    exact y_ret rfl rfl rfl rfl H
  · replace H := H.2 h; clear h
    refine y_st rfl rfl rfl rfl rfl (fun _ _ => rfl) ?_
    show yP (xg xs) (d + 1) 260 45 [(0, .ref 52), (1, .int l1), (2, .int l2), (3, .int l3), (5, .int l5)] [.int l2] m1 Q
    refine y_zeq (t := 80) rfl rfl rfl (fun h => ?_) (fun h => ?_)
    · replace H := H.1 h; clear h
      show yP (xg xs) (d + 1) 260 80 [(0, .ref 52), (1, .int l1), (2, .int l2), (3, .int l3), (5, .int l5)] [] m1 Q
      refine y_headS (l2 := [(0, .ref 52), (1, .int l1), (2, .int l2)]) [0, 1, 2] [0, 1, 2] [0, 1, 2, 3, 5] rfl rfl (by decide) rfl (by decide) ?_
      exact H
    · replace H := H.2 h; clear h
      refine y_st rfl rfl rfl rfl rfl (fun _ _ => rfl) ?_
      show yP (xg xs) (d + 1) 260 49 [(0, .ref 52), (1, .int l1), (2, .int l2), (3, .int l3), (5, .int l5)] [.int l3] m1 Q
      refine y_zne (t := 80) rfl rfl rfl (fun h => ?_) (fun h => ?_)
      · replace H := H.1 h; clear h
        show yP (xg xs) (d + 1) 260 80 [(0, .ref 52), (1, .int l1), (2, .int l2), (3, .int l3), (5, .int l5)] [] m1 Q
        refine y_headS (l2 := [(0, .ref 52), (1, .int l1), (2, .int l2)]) [0, 1, 2] [0, 1, 2] [0, 1, 2, 3, 5] rfl rfl (by decide) rfl (by decide) ?_
        exact H
      · replace H := H.2 h; clear h
        refine y_st rfl rfl rfl rfl rfl (fun _ _ => rfl) ?_
        refine y_st rfl rfl rfl rfl rfl (fun _ _ => rfl) ?_
        refine y_st rfl rfl rfl rfl rfl (fun _ _ => rfl) ?_
        refine y_st rfl rfl rfl rfl rfl (fun _ _ => rfl) ?_
        refine y_st rfl rfl rfl rfl rfl (fun _ _ => rfl) ?_
        show yP (xg xs) (d + 1) 260 57 [(0, .ref 52), (1, .int l1), (2, .int l2), (3, .int l3), (5, .int l5)] [.int (0 : Int32), .int (l1 + (3 : Int32)), .ref 52] m1 Q
        refine y_call rfl rfl rfl rfl rfl (Nat.le_of_ble_eq_true rfl) (Nat.le_of_ble_eq_true rfl) rfl (by decide) H (fun v2 m2 H => ?_)
        obtain ⟨rfl, H⟩ := H
        refine y_st rfl rfl rfl rfl rfl (fun _ _ => rfl) ?_
        refine y_st rfl rfl rfl rfl rfl (fun _ _ => rfl) ?_
        refine y_st rfl rfl rfl rfl rfl (fun _ _ => rfl) ?_
        refine y_st rfl rfl rfl rfl rfl (fun _ _ => rfl) ?_
        refine y_st rfl rfl rfl rfl rfl (fun _ _ => rfl) ?_
        show yP (xg xs) (d + 1) 260 66 [(0, .ref 52), (1, .int l1), (2, .int l2), (3, .int l3), (5, .int l5)] [.int l5, .int (l1 + (2 : Int32)), .ref 52] m2 Q
        refine y_zle (t := 73) rfl rfl rfl (fun h => ?_) (fun h => ?_)
        · replace H := H.1 h; clear h
          refine y_st rfl rfl rfl rfl rfl (fun _ _ => rfl) ?_
          show yP (xg xs) (d + 1) 260 74 [(0, .ref 52), (1, .int l1), (2, .int l2), (3, .int l3), (5, .int l5)] [.int (0 : Int32), .int (l1 + (2 : Int32)), .ref 52] m2 Q
          refine y_headS (l2 := []) [] [] [0, 1, 2, 3, 5] rfl rfl (by decide) rfl (by decide) ?_
          exact H
        · replace H := H.2 h; clear h
          refine y_st rfl rfl rfl rfl rfl (fun _ _ => rfl) ?_
          refine y_st rfl rfl rfl rfl rfl (fun _ _ => rfl) ?_
          show yP (xg xs) (d + 1) 260 74 [(0, .ref 52), (1, .int l1), (2, .int l2), (3, .int l3), (5, .int l5)] [.int (1 : Int32), .int (l1 + (2 : Int32)), .ref 52] m2 Q
          refine y_headS (l2 := []) [] [] [0, 1, 2, 3, 5] rfl rfl (by decide) rfl (by decide) ?_
          exact H
set_option maxRecDepth 20000 in
/-- CodeMaker.Machine.pulse from 74 on -/
theorem w260_74 (xs : List Int32) (d : Nat) (s1 : Int32) (s2 : Int32) (m : yM) (Q : Option Value → yM → Prop) (H : (yC (xg xs) d 258 [.ref 52, .int s1, .int s2] m (fun v1 m1 => v1 = none ∧ Q none m1))) : yP (xg xs) (d + 1) 260 74 [] [.int s2, .int s1, .ref 52] m Q := by
  show yP (xg xs) (d + 1) 260 74 [] [.int s2, .int s1, .ref 52] m Q
  refine y_call rfl rfl rfl rfl rfl (Nat.le_of_ble_eq_true rfl) (Nat.le_of_ble_eq_true rfl) rfl (by decide) H (fun v1 m1 H => ?_)
  obtain ⟨rfl, H⟩ := H
  refine y_st rfl rfl rfl rfl rfl (fun _ _ => rfl) ?_
  show yP (xg xs) (d + 1) 260 92 [] [] m1 Q
  exact y_ret rfl rfl rfl rfl H
set_option maxRecDepth 20000 in
/-- CodeMaker.Machine.pulse from 80 on -/
theorem w260_80 (xs : List Int32) (d : Nat) (l1 : Int32) (l2 : Int32) (m : yM) (Q : Option Value → yM → Prop) (H : ((¬ l2 = 0 → Q none m) ∧ (l2 = 0 → (yC (xg xs) d 234 [.ref 52, .int (l1 + (3 : Int32)), .int (0 : Int32)] m (fun v1 m1 => v1 = none ∧ Q none m1))))) : yP (xg xs) (d + 1) 260 80 [(0, .ref 52), (1, .int l1), (2, .int l2)] [] m Q := by
  refine y_st rfl rfl rfl rfl rfl (fun _ _ => rfl) ?_
  show yP (xg xs) (d + 1) 260 81 [(0, .ref 52), (1, .int l1), (2, .int l2)] [.int l2] m Q
  refine y_zne (t := 92) rfl rfl rfl (fun h => ?_) (fun h => ?_)
  · replace H := H.1 h; clear h
    show yP (xg xs) (d + 1) 260 92 [(0, .ref 52), (1, .int l1), (2, .int l2)] [] m Q
    exact y_ret rfl rfl rfl rfl H
  · replace H := H.2 h; clear h
    refine y_st rfl rfl rfl rfl rfl (fun _ _ => rfl) ?_
    refine y_st rfl rfl rfl rfl rfl (fun _ _ => rfl) ?_
    refine y_st rfl rfl rfl rfl rfl (fun _ _ => rfl) ?_
    refine y_st rfl rfl rfl rfl rfl (fun _ _ => rfl) ?_
    refine y_st rfl rfl rfl rfl rfl (fun _ _ => rfl) ?_
    show yP (xg xs) (d + 1) 260 89 [(0, .ref 52), (1, .int l1), (2, .int l2)] [.int (0 : Int32), .int (l1 + (3 : Int32)), .ref 52] m Q
    refine y_call rfl rfl rfl rfl rfl (Nat.le_of_ble_eq_true rfl) (Nat.le_of_ble_eq_true rfl) rfl (by decide) H (fun v1 m1 H => ?_)
    obtain ⟨rfl, H⟩ := H
    show yP (xg xs) (d + 1) 260 92 [(0, .ref 52), (1, .int l1), (2, .int l2)] [] m1 Q
    exact y_ret rfl rfl rfl rfl H
set_option maxRecDepth 20000 in
/-- CodeMaker.Machine.counter from 0 on -/
theorem w261_0 (xs : List Int32) (d : Nat) (l1 : Int32) (l2 : Int32) (m : yM) (Q : Option Value → yM → Prop) (H : (yC (xg xs) d 256 [.ref 52, .int l2] m (fun v1 m1 => ∃ u1, v1 = some (Value.int u1) ∧ ((u1 = 0 → yP (xg xs) (d + 1) 261 24 [(0, .ref 52), (1, .int l1), (2, .int l2), (3, .int u1)] [] m1 Q) ∧ (¬ u1 = 0 → (yC (xg xs) d 256 [.ref 52, .int (l2 + (5 : Int32))] m1 (fun v2 m2 => ∃ u2, v2 = some (Value.int u2) ∧ ((¬ u2 = 0 → yP (xg xs) (d + 1) 261 24 [(0, .ref 52), (1, .int l1), (2, .int l2), (3, .int u1)] [] m2 Q) ∧ (u2 = 0 → yP (xg xs) (d + 1) 261 25 [(0, .ref 52), (1, .int l1), (2, .int l2), (3, .int u1)] [.int (1 : Int32)] m2 Q))))))))) : yP (xg xs) (d + 1) 261 0 [(0, .ref 52), (1, .int l1), (2, .int l2)] [] m Q := by
  refine y_st rfl rfl rfl rfl rfl (fun _ _ => rfl) ?_
  refine y_st rfl rfl rfl rfl rfl (fun _ _ => rfl) ?_
  show yP (xg xs) (d + 1) 261 2 [(0, .ref 52), (1, .int l1), (2, .int l2)] [.int l2, .ref 52] m Q
  refine y_call rfl rfl rfl rfl rfl (Nat.le_of_ble_eq_true rfl) (Nat.le_of_ble_eq_true rfl) rfl (by decide) H (fun v1 m1 H => ?_)
  obtain ⟨u1, rfl, H⟩ := H
  refine y_st rfl rfl rfl rfl rfl (fun _ _ => rfl) ?_
  refine y_st rfl rfl rfl rfl rfl (fun _ _ => rfl) ?_
  show yP (xg xs) (d + 1) 261 7 [(3, .int u1), (0, .ref 52), (1, .int l1), (2, .int l2)] [.int u1] m1 Q
  refine y_zeq (t := 24) rfl rfl rfl (fun h => ?_) (fun h => ?_)
  · replace H := H.1 h; clear h
    show yP (xg xs) (d + 1) 261 24 [(3, .int u1), (0, .ref 52), (1, .int l1), (2, .int l2)] [] m1 Q
    refine y_headS (l2 := [(0, .ref 52), (1, .int l1), (2, .int l2), (3, .int u1)]) [1, 2, 3, 0] [0, 1, 2, 3] [3, 0, 1, 2] rfl rfl (by decide) rfl (by decide) ?_
    exact H
  · replace H := H.2 h; clear h
    refine y_st rfl rfl rfl rfl rfl (fun _ _ => rfl) ?_
    refine y_st rfl rfl rfl rfl rfl (fun _ _ => rfl) ?_
    refine y_st rfl rfl rfl rfl rfl (fun _ _ => rfl) ?_
    refine y_st rfl rfl rfl rfl rfl (fun _ _ => rfl) ?_
    show yP (xg xs) (d + 1) 261 14 [(3, .int u1), (0, .ref 52), (1, .int l1), (2, .int l2)] [.int (l2 + (5 : Int32)), .ref 52] m1 Q
    refine y_call rfl rfl rfl rfl rfl (Nat.le_of_ble_eq_true rfl) (Nat.le_of_ble_eq_true rfl) rfl (by decide) H (fun v2 m2 H => ?_)
    obtain ⟨u2, rfl, H⟩ := H
    show yP (xg xs) (d + 1) 261 17 [(3, .int u1), (0, .ref 52), (1, .int l1), (2, .int l2)] [.int u2] m2 Q
    refine y_zne (t := 24) rfl rfl rfl (fun h => ?_) (fun h => ?_)
    · replace H := H.1 h; clear h
      show yP (xg xs) (d + 1) 261 24 [(3, .int u1), (0, .ref 52), (1, .int l1), (2, .int l2)] [] m2 Q
      refine y_headS (l2 := [(0, .ref 52), (1, .int l1), (2, .int l2), (3, .int u1)]) [1, 2, 3, 0] [0, 1, 2, 3] [3, 0, 1, 2] rfl rfl (by decide) rfl (by decide) ?_
      exact H
    · replace H := H.2 h; clear h
      refine y_st rfl rfl rfl rfl rfl (fun _ _ => rfl) ?_
      refine y_st rfl rfl rfl rfl rfl (fun _ _ => rfl) ?_
      show yP (xg xs) (d + 1) 261 25 [(3, .int u1), (0, .ref 52), (1, .int l1), (2, .int l2)] [.int (1 : Int32)] m2 Q
      refine y_headS (l2 := [(0, .ref 52), (1, .int l1), (2, .int l2), (3, .int u1)]) [1, 2, 3, 0] [0, 1, 2, 3] [3, 0, 1, 2] rfl rfl (by decide) rfl (by decide) ?_
      exact H
set_option maxRecDepth 20000 in
/-- CodeMaker.Machine.counter from 24 on -/
theorem w261_24 (xs : List Int32) (d : Nat) (l1 : Int32) (l2 : Int32) (l3 : Int32) (m : yM) (Q : Option Value → yM → Prop) (H : yP (xg xs) (d + 1) 261 25 [(0, .ref 52), (1, .int l1), (2, .int l2), (3, .int l3)] [.int (0 : Int32)] m Q) : yP (xg xs) (d + 1) 261 24 [(0, .ref 52), (1, .int l1), (2, .int l2), (3, .int l3)] [] m Q := by
  refine y_st rfl rfl rfl rfl rfl (fun _ _ => rfl) ?_
  show yP (xg xs) (d + 1) 261 25 [(0, .ref 52), (1, .int l1), (2, .int l2), (3, .int l3)] [.int (0 : Int32)] m Q
  exact H
set_option maxRecDepth 20000 in
/-- CodeMaker.Machine.counter from 25 on -/
theorem w261_25 (xs : List Int32) (d : Nat) (l1 : Int32) (l2 : Int32) (l3 : Int32) (s0 : Int32) (m : yM) (Q : Option Value → yM → Prop) (H : (yC (xg xs) d 247 [.ref 52, .int (l2 + (2 : Int32))] m (fun v1 m1 => ∃ u1, v1 = some (Value.int u1) ∧ (yC (xg xs) d 247 [.ref 52, .int (l2 + (4 : Int32))] m1 (fun v2 m2 => ∃ u2, v2 = some (Value.int u2) ∧ (yC (xg xs) d 256 [.ref 52, .int (l2 + (1 : Int32))] m2 (fun v3 m3 => ∃ u3, v3 = some (Value.int u3) ∧ ((u3 = 0 → ((s0 = 0 → yP (xg xs) (d + 1) 261 95 [(0, .ref 52), (1, .int l1), (2, .int l2), (3, .int l3), (4, .int s0), (5, .int u1), (6, .int u2)] [] m3 Q) ∧ (¬ s0 = 0 → ((¬ l1 = (3 : Int32) → yP (xg xs) (d + 1) 261 95 [(0, .ref 52), (1, .int l1), (2, .int l2), (3, .int l3), (4, .int s0), (5, .int u1), (6, .int u2)] [] m3 Q) ∧ (l1 = (3 : Int32) → (((32767 : Int32) ≤ u2 → yP (xg xs) (d + 1) 261 95 [(0, .ref 52), (1, .int l1), (2, .int l2), (3, .int l3), (4, .int s0), (5, .int u1), (6, .int u2)] [] m3 Q) ∧ (¬ (32767 : Int32) ≤ u2 → yP (xg xs) (d + 1) 261 116 [(0, .ref 52), (1, .int l1), (2, .int l2), (3, .int l3), (5, .int u1), (6, .int (u2 + (1 : Int32)))] [] m3 Q))))))) ∧ (¬ u3 = 0 → ((¬ l1 = (3 : Int32) → yP (xg xs) (d + 1) 261 66 [(0, .ref 52), (1, .int l1), (2, .int l2), (3, .int l3), (5, .int u1)] [.int u1] m3 Q) ∧ (l1 = (3 : Int32) → yP (xg xs) (d + 1) 261 66 [(0, .ref 52), (1, .int l1), (2, .int l2), (3, .int l3), (5, .int u1)] [.int (0 : Int32)] m3 Q))))))))))) : yP (xg xs) (d + 1) 261 25 [(0, .ref 52), (1, .int l1), (2, .int l2), (3, .int l3)] [.int s0] m Q := by
  refine y_st rfl rfl rfl rfl rfl (fun _ _ => rfl) ?_
  refine y_st rfl rfl rfl rfl rfl (fun _ _ => rfl) ?_
  refine y_st rfl rfl rfl rfl rfl (fun _ _ => rfl) ?_
  refine y_st rfl rfl rfl rfl rfl (fun _ _ => rfl) ?_
  refine y_st rfl rfl rfl rfl rfl (fun _ _ => rfl) ?_
  show yP (xg xs) (d + 1) 261 31 [(4, .int s0), (0, .ref 52), (1, .int l1), (2, .int l2), (3, .int l3)] [.int (l2 + (2 : Int32)), .ref 52] m Q
  refine y_call rfl rfl rfl rfl rfl (Nat.le_of_ble_eq_true rfl) (Nat.le_of_ble_eq_true rfl) rfl (by decide) H (fun v1 m1 H => ?_)
  obtain ⟨u1, rfl, H⟩ := H
  refine y_st rfl rfl rfl rfl rfl (fun _ _ => rfl) ?_
  refine y_st rfl rfl rfl rfl rfl (fun _ _ => rfl) ?_
  refine y_st rfl rfl rfl rfl rfl (fun _ _ => rfl) ?_
  refine y_st rfl rfl rfl rfl rfl (fun _ _ => rfl) ?_
  refine y_st rfl rfl rfl rfl rfl (fun _ _ => rfl) ?_
  show yP (xg xs) (d + 1) 261 40 [(5, .int u1), (4, .int s0), (0, .ref 52), (1, .int l1), (2, .int l2), (3, .int l3)] [.int (l2 + (4 : Int32)), .ref 52] m1 Q
  refine y_call rfl rfl rfl rfl rfl (Nat.le_of_ble_eq_true rfl) (Nat.le_of_ble_eq_true rfl) rfl (by decide) H (fun v2 m2 H => ?_)
  obtain ⟨u2, rfl, H⟩ := H
  refine y_st rfl rfl rfl rfl rfl (fun _ _ => rfl) ?_
  refine y_st rfl rfl rfl rfl rfl (fun _ _ => rfl) ?_
  refine y_st rfl rfl rfl rfl rfl (fun _ _ => rfl) ?_
  refine y_st rfl rfl rfl rfl rfl (fun _ _ => rfl) ?_
  refine y_st rfl rfl rfl rfl rfl (fun _ _ => rfl) ?_
  show yP (xg xs) (d + 1) 261 49 [(6, .int u2), (5, .int u1), (4, .int s0), (0, .ref 52), (1, .int l1), (2, .int l2), (3, .int l3)] [.int (l2 + (1 : Int32)), .ref 52] m2 Q
  refine y_call rfl rfl rfl rfl rfl (Nat.le_of_ble_eq_true rfl) (Nat.le_of_ble_eq_true rfl) rfl (by decide) H (fun v3 m3 H => ?_)
  obtain ⟨u3, rfl, H⟩ := H
  show yP (xg xs) (d + 1) 261 52 [(6, .int u2), (5, .int u1), (4, .int s0), (0, .ref 52), (1, .int l1), (2, .int l2), (3, .int l3)] [.int u3] m3 Q
  refine y_zeq (t := 71) rfl rfl rfl (fun h => ?_) (fun h => ?_)
  · replace H := H.1 h; clear h
    refine y_st rfl rfl rfl rfl rfl (fun _ _ => rfl) ?_
    show yP (xg xs) (d + 1) 261 73 [(6, .int u2), (5, .int u1), (4, .int s0), (0, .ref 52), (1, .int l1), (2, .int l2), (3, .int l3)] [.int s0] m3 Q
    refine y_zeq (t := 95) rfl rfl rfl (fun h => ?_) (fun h => ?_)
    · replace H := H.1 h; clear h
      show yP (xg xs) (d + 1) 261 95 [(6, .int u2), (5, .int u1), (4, .int s0), (0, .ref 52), (1, .int l1), (2, .int l2), (3, .int l3)] [] m3 Q
      refine y_headS (l2 := [(0, .ref 52), (1, .int l1), (2, .int l2), (3, .int l3), (4, .int s0), (5, .int u1), (6, .int u2)]) [3, 4, 5, 6, 2, 1, 0] [0, 1, 2, 3, 4, 5, 6] [6, 5, 4, 0, 1, 2, 3] rfl rfl (by decide) rfl (by decide) ?_
      exact H
    · replace H := H.2 h; clear h
      refine y_st rfl rfl rfl rfl rfl (fun _ _ => rfl) ?_
      refine y_st rfl rfl rfl rfl rfl (fun _ _ => rfl) ?_
      show yP (xg xs) (d + 1) 261 78 [(6, .int u2), (5, .int u1), (4, .int s0), (0, .ref 52), (1, .int l1), (2, .int l2), (3, .int l3)] [.int (3 : Int32), .int l1] m3 Q
      refine y_ine (t := 95) rfl rfl rfl (fun h => ?_) (fun h => ?_)
      · replace H := H.1 h; clear h
        show yP (xg xs) (d + 1) 261 95 [(6, .int u2), (5, .int u1), (4, .int s0), (0, .ref 52), (1, .int l1), (2, .int l2), (3, .int l3)] [] m3 Q
        refine y_headS (l2 := [(0, .ref 52), (1, .int l1), (2, .int l2), (3, .int l3), (4, .int s0), (5, .int u1), (6, .int u2)]) [3, 4, 5, 6, 2, 1, 0] [0, 1, 2, 3, 4, 5, 6] [6, 5, 4, 0, 1, 2, 3] rfl rfl (by decide) rfl (by decide) ?_
        exact H
      · replace H := H.2 h; clear h
        refine y_st rfl rfl rfl rfl rfl (fun _ _ => rfl) ?_
        refine y_st rfl rfl rfl rfl rfl (fun _ _ => rfl) ?_
        show yP (xg xs) (d + 1) 261 86 [(6, .int u2), (5, .int u1), (4, .int s0), (0, .ref 52), (1, .int l1), (2, .int l2), (3, .int l3)] [.int (32767 : Int32), .int u2] m3 Q
        refine y_ige (t := 95) rfl rfl rfl (fun h => ?_) (fun h => ?_)
        · replace H := H.1 h; clear h
          show yP (xg xs) (d + 1) 261 95 [(6, .int u2), (5, .int u1), (4, .int s0), (0, .ref 52), (1, .int l1), (2, .int l2), (3, .int l3)] [] m3 Q
          refine y_headS (l2 := [(0, .ref 52), (1, .int l1), (2, .int l2), (3, .int l3), (4, .int s0), (5, .int u1), (6, .int u2)]) [3, 4, 5, 6, 2, 1, 0] [0, 1, 2, 3, 4, 5, 6] [6, 5, 4, 0, 1, 2, 3] rfl rfl (by decide) rfl (by decide) ?_
          exact H
        · replace H := H.2 h; clear h
          refine y_st rfl rfl rfl rfl rfl (fun _ _ => rfl) ?_
          refine y_st rfl rfl rfl rfl rfl (fun _ _ => rfl) ?_
          show yP (xg xs) (d + 1) 261 116 [(6, .int (u2 + (1 : Int32))), (5, .int u1), (4, .int s0), (0, .ref 52), (1, .int l1), (2, .int l2), (3, .int l3)] [] m3 Q
          refine y_headS (l2 := [(0, .ref 52), (1, .int l1), (2, .int l2), (3, .int l3), (5, .int u1), (6, .int (u2 + (1 : Int32)))]) [3, 4, 5, 6, 1, 0] [0, 1, 2, 3, 5, 6] [6, 5, 4, 0, 1, 2, 3] rfl rfl (by decide) rfl (by decide) ?_
          exact H
  · replace H := H.2 h; clear h
    refine y_st rfl rfl rfl rfl rfl (fun _ _ => rfl) ?_
    refine y_st rfl rfl rfl rfl rfl (fun _ _ => rfl) ?_
    show yP (xg xs) (d + 1) 261 57 [(6, .int u2), (5, .int u1), (4, .int s0), (0, .ref 52), (1, .int l1), (2, .int l2), (3, .int l3)] [.int (3 : Int32), .int l1] m3 Q
    refine y_ine (t := 64) rfl rfl rfl (fun h => ?_) (fun h => ?_)
    · replace H := H.1 h; clear h
      refine y_st rfl rfl rfl rfl rfl (fun _ _ => rfl) ?_
      show yP (xg xs) (d + 1) 261 66 [(6, .int u2), (5, .int u1), (4, .int s0), (0, .ref 52), (1, .int l1), (2, .int l2), (3, .int l3)] [.int u1] m3 Q
      refine y_headS (l2 := [(0, .ref 52), (1, .int l1), (2, .int l2), (3, .int l3), (5, .int u1)]) [3, 4, 5, 6, 1] [0, 1, 2, 3, 5] [6, 5, 4, 0, 1, 2, 3] rfl rfl (by decide) rfl (by decide) ?_
      exact H
    · replace H := H.2 h; clear h
      refine y_st rfl rfl rfl rfl rfl (fun _ _ => rfl) ?_
      refine y_st rfl rfl rfl rfl rfl (fun _ _ => rfl) ?_
      show yP (xg xs) (d + 1) 261 66 [(6, .int u2), (5, .int u1), (4, .int s0), (0, .ref 52), (1, .int l1), (2, .int l2), (3, .int l3)] [.int (0 : Int32)] m3 Q
      refine y_headS (l2 := [(0, .ref 52), (1, .int l1), (2, .int l2), (3, .int l3), (5, .int u1)]) [3, 4, 5, 6, 1] [0, 1, 2, 3, 5] [6, 5, 4, 0, 1, 2, 3] rfl rfl (by decide) rfl (by decide) ?_
      exact H
set_option maxRecDepth 20000 in
/-- CodeMaker.Machine.counter from 66 on -/
theorem w261_66 (xs : List Int32) (d : Nat) (l1 : Int32) (l2 : Int32) (l3 : Int32) (l5 : Int32) (s0 : Int32) (m : yM) (Q : Option Value → yM → Prop) (H : yP (xg xs) (d + 1) 261 116 [(0, .ref 52), (1, .int l1), (2, .int l2), (3, .int l3), (5, .int l5), (6, .int s0)] [] m Q) : yP (xg xs) (d + 1) 261 66 [(0, .ref 52), (1, .int l1), (2, .int l2), (3, .int l3), (5, .int l5)] [.int s0] m Q := by
  refine y_st rfl rfl rfl rfl rfl (fun _ _ => rfl) ?_
  refine y_st rfl rfl rfl rfl rfl (fun _ _ => rfl) ?_
  show yP (xg xs) (d + 1) 261 116 [(6, .int s0), (0, .ref 52), (1, .int l1), (2, .int l2), (3, .int l3), (5, .int l5)] [] m Q
  refine y_headS (l2 := [(0, .ref 52), (1, .int l1), (2, .int l2), (3, .int l3), (5, .int l5), (6, .int s0)]) [1, 2, 3, 4, 5, 0] [0, 1, 2, 3, 5, 6] [6, 0, 1, 2, 3, 5] rfl rfl (by decide) rfl (by decide) ?_
  exact H
set_option maxRecDepth 20000 in
/-- CodeMaker.Machine.counter from 95 on -/
theorem w261_95 (xs : List Int32) (d : Nat) (l1 : Int32) (l2 : Int32) (l3 : Int32) (l4 : Int32) (l5 : Int32) (l6 : Int32) (m : yM) (Q : Option Value → yM → Prop) (H : ((l4 = 0 → yP (xg xs) (d + 1) 261 116 [(0, .ref 52), (1, .int l1), (2, .int l2), (3, .int l3), (5, .int l5), (6, .int l6)] [] m Q) ∧ (¬ l4 = 0 → ((¬ l1 = (4 : Int32) → yP (xg xs) (d + 1) 261 116 [(0, .ref 52), (1, .int l1), (2, .int l2), (3, .int l3), (5, .int l5), (6, .int l6)] [] m Q) ∧ (l1 = (4 : Int32) → ((l6 ≤ ((-32768) : Int32) → yP (xg xs) (d + 1) 261 116 [(0, .ref 52), (1, .int l1), (2, .int l2), (3, .int l3), (5, .int l5), (6, .int l6)] [] m Q) ∧ (¬ l6 ≤ ((-32768) : Int32) → yP (xg xs) (d + 1) 261 116 [(0, .ref 52), (1, .int l1), (2, .int l2), (3, .int l3), (5, .int l5), (6, .int (l6 + ((-1) : Int32)))] [] m Q))))))) : yP (xg xs) (d + 1) 261 95 [(0, .ref 52), (1, .int l1), (2, .int l2), (3, .int l3), (4, .int l4), (5, .int l5), (6, .int l6)] [] m Q := by
  refine y_st rfl rfl rfl rfl rfl (fun _ _ => rfl) ?_
  show yP (xg xs) (d + 1) 261 97 [(0, .ref 52), (1, .int l1), (2, .int l2), (3, .int l3), (4, .int l4), (5, .int l5), (6, .int l6)] [.int l4] m Q
  refine y_zeq (t := 116) rfl rfl rfl (fun h => ?_) (fun h => ?_)
  · replace H := H.1 h; clear h
    show yP (xg xs) (d + 1) 261 116 [(0, .ref 52), (1, .int l1), (2, .int l2), (3, .int l3), (4, .int l4), (5, .int l5), (6, .int l6)] [] m Q
    refine y_headS (l2 := [(0, .ref 52), (1, .int l1), (2, .int l2), (3, .int l3), (5, .int l5), (6, .int l6)]) [0, 1, 2, 3, 5, 6] [0, 1, 2, 3, 5, 6] [0, 1, 2, 3, 4, 5, 6] rfl rfl (by decide) rfl (by decide) ?_
    exact H
  · replace H := H.2 h; clear h
    refine y_st rfl rfl rfl rfl rfl (fun _ _ => rfl) ?_
    refine y_st rfl rfl rfl rfl rfl (fun _ _ => rfl) ?_
    show yP (xg xs) (d + 1) 261 102 [(0, .ref 52), (1, .int l1), (2, .int l2), (3, .int l3), (4, .int l4), (5, .int l5), (6, .int l6)] [.int (4 : Int32), .int l1] m Q
    refine y_ine (t := 116) rfl rfl rfl (fun h => ?_) (fun h => ?_)
    · replace H := H.1 h; clear h
      show yP (xg xs) (d + 1) 261 116 [(0, .ref 52), (1, .int l1), (2, .int l2), (3, .int l3), (4, .int l4), (5, .int l5), (6, .int l6)] [] m Q
      refine y_headS (l2 := [(0, .ref 52), (1, .int l1), (2, .int l2), (3, .int l3), (5, .int l5), (6, .int l6)]) [0, 1, 2, 3, 5, 6] [0, 1, 2, 3, 5, 6] [0, 1, 2, 3, 4, 5, 6] rfl rfl (by decide) rfl (by decide) ?_
      exact H
    · replace H := H.2 h; clear h
      refine y_st rfl rfl rfl rfl rfl (fun _ _ => rfl) ?_
      refine y_st rfl rfl rfl rfl rfl (fun _ _ => rfl) ?_
      show yP (xg xs) (d + 1) 261 110 [(0, .ref 52), (1, .int l1), (2, .int l2), (3, .int l3), (4, .int l4), (5, .int l5), (6, .int l6)] [.int ((-32768) : Int32), .int l6] m Q
      refine y_ile (t := 116) rfl rfl rfl (fun h => ?_) (fun h => ?_)
      · replace H := H.1 h; clear h
        show yP (xg xs) (d + 1) 261 116 [(0, .ref 52), (1, .int l1), (2, .int l2), (3, .int l3), (4, .int l4), (5, .int l5), (6, .int l6)] [] m Q
        refine y_headS (l2 := [(0, .ref 52), (1, .int l1), (2, .int l2), (3, .int l3), (5, .int l5), (6, .int l6)]) [0, 1, 2, 3, 5, 6] [0, 1, 2, 3, 5, 6] [0, 1, 2, 3, 4, 5, 6] rfl rfl (by decide) rfl (by decide) ?_
        exact H
      · replace H := H.2 h; clear h
        refine y_st rfl rfl rfl rfl rfl (fun _ _ => rfl) ?_
        show yP (xg xs) (d + 1) 261 116 [(6, .int (l6 + ((-1) : Int32))), (0, .ref 52), (1, .int l1), (2, .int l2), (3, .int l3), (4, .int l4), (5, .int l5)] [] m Q
        refine y_headS (l2 := [(0, .ref 52), (1, .int l1), (2, .int l2), (3, .int l3), (5, .int l5), (6, .int (l6 + ((-1) : Int32)))]) [1, 2, 3, 4, 6, 0] [0, 1, 2, 3, 5, 6] [6, 0, 1, 2, 3, 4, 5] rfl rfl (by decide) rfl (by decide) ?_
        exact H
set_option maxRecDepth 20000 in
/-- CodeMaker.Machine.counter from 116 on -/
theorem w261_116 (xs : List Int32) (d : Nat) (l1 : Int32) (l2 : Int32) (l3 : Int32) (l5 : Int32) (l6 : Int32) (m : yM) (Q : Option Value → yM → Prop) (H : (yC (xg xs) d 234 [.ref 52, .int (l2 + (4 : Int32)), .int l6] m (fun v1 m1 => v1 = none ∧ ((¬ l1 = (3 : Int32) → ((0 < l6 → yP (xg xs) (d + 1) 261 159 [(0, .ref 52), (2, .int l2), (3, .int l3)] [.int (0 : Int32), .int (l2 + (3 : Int32)), .ref 52] m1 Q) ∧ (¬ 0 < l6 → yP (xg xs) (d + 1) 261 159 [(0, .ref 52), (2, .int l2), (3, .int l3)] [.int (1 : Int32), .int (l2 + (3 : Int32)), .ref 52] m1 Q))) ∧ (l1 = (3 : Int32) → ((l6 < l5 → yP (xg xs) (d + 1) 261 159 [(0, .ref 52), (2, .int l2), (3, .int l3)] [.int (0 : Int32), .int (l2 + (3 : Int32)), .ref 52] m1 Q) ∧ (¬ l6 < l5 → yP (xg xs) (d + 1) 261 159 [(0, .ref 52), (2, .int l2), (3, .int l3)] [.int (1 : Int32), .int (l2 + (3 : Int32)), .ref 52] m1 Q))))))) : yP (xg xs) (d + 1) 261 116 [(0, .ref 52), (1, .int l1), (2, .int l2), (3, .int l3), (5, .int l5), (6, .int l6)] [] m Q := by
  refine y_st rfl rfl rfl rfl rfl (fun _ _ => rfl) ?_
  refine y_st rfl rfl rfl rfl rfl (fun _ _ => rfl) ?_
  refine y_st rfl rfl rfl rfl rfl (fun _ _ => rfl) ?_
  refine y_st rfl rfl rfl rfl rfl (fun _ _ => rfl) ?_
  refine y_st rfl rfl rfl rfl rfl (fun _ _ => rfl) ?_
  show yP (xg xs) (d + 1) 261 122 [(0, .ref 52), (1, .int l1), (2, .int l2), (3, .int l3), (5, .int l5), (6, .int l6)] [.int l6, .int (l2 + (4 : Int32)), .ref 52] m Q
  refine y_call rfl rfl rfl rfl rfl (Nat.le_of_ble_eq_true rfl) (Nat.le_of_ble_eq_true rfl) rfl (by decide) H (fun v1 m1 H => ?_)
  obtain ⟨rfl, H⟩ := H
  refine y_st rfl rfl rfl rfl rfl (fun _ _ => rfl) ?_
  refine y_st rfl rfl rfl rfl rfl (fun _ _ => rfl) ?_
  refine y_st rfl rfl rfl rfl rfl (fun _ _ => rfl) ?_
  refine y_st rfl rfl rfl rfl rfl (fun _ _ => rfl) ?_
  refine y_st rfl rfl rfl rfl rfl (fun _ _ => rfl) ?_
  refine y_st rfl rfl rfl rfl rfl (fun _ _ => rfl) ?_
  show yP (xg xs) (d + 1) 261 131 [(0, .ref 52), (1, .int l1), (2, .int l2), (3, .int l3), (5, .int l5), (6, .int l6)] [.int (3 : Int32), .int l1, .int (l2 + (3 : Int32)), .ref 52] m1 Q
  refine y_ine (t := 149) rfl rfl rfl (fun h => ?_) (fun h => ?_)
  · replace H := H.1 h; clear h
    refine y_st rfl rfl rfl rfl rfl (fun _ _ => rfl) ?_
    show yP (xg xs) (d + 1) 261 151 [(0, .ref 52), (1, .int l1), (2, .int l2), (3, .int l3), (5, .int l5), (6, .int l6)] [.int l6, .int (l2 + (3 : Int32)), .ref 52] m1 Q
    refine y_zgt (t := 158) rfl rfl rfl (fun h => ?_) (fun h => ?_)
    · replace H := H.1 h; clear h
      refine y_st rfl rfl rfl rfl rfl (fun _ _ => rfl) ?_
      show yP (xg xs) (d + 1) 261 159 [(0, .ref 52), (1, .int l1), (2, .int l2), (3, .int l3), (5, .int l5), (6, .int l6)] [.int (0 : Int32), .int (l2 + (3 : Int32)), .ref 52] m1 Q
      refine y_headS (l2 := [(0, .ref 52), (2, .int l2), (3, .int l3)]) [0, 2, 3] [0, 2, 3] [0, 1, 2, 3, 5, 6] rfl rfl (by decide) rfl (by decide) ?_
      exact H
    · replace H := H.2 h; clear h
      refine y_st rfl rfl rfl rfl rfl (fun _ _ => rfl) ?_
      refine y_st rfl rfl rfl rfl rfl (fun _ _ => rfl) ?_
      show yP (xg xs) (d + 1) 261 159 [(0, .ref 52), (1, .int l1), (2, .int l2), (3, .int l3), (5, .int l5), (6, .int l6)] [.int (1 : Int32), .int (l2 + (3 : Int32)), .ref 52] m1 Q
      refine y_headS (l2 := [(0, .ref 52), (2, .int l2), (3, .int l3)]) [0, 2, 3] [0, 2, 3] [0, 1, 2, 3, 5, 6] rfl rfl (by decide) rfl (by decide) ?_
      exact H
  · replace H := H.2 h; clear h
    refine y_st rfl rfl rfl rfl rfl (fun _ _ => rfl) ?_
    refine y_st rfl rfl rfl rfl rfl (fun _ _ => rfl) ?_
    show yP (xg xs) (d + 1) 261 138 [(0, .ref 52), (1, .int l1), (2, .int l2), (3, .int l3), (5, .int l5), (6, .int l6)] [.int l5, .int l6, .int (l2 + (3 : Int32)), .ref 52] m1 Q
    refine y_ilt (t := 145) rfl rfl rfl (fun h => ?_) (fun h => ?_)
    · replace H := H.1 h; clear h
      refine y_st rfl rfl rfl rfl rfl (fun _ _ => rfl) ?_
      refine y_st rfl rfl rfl rfl rfl (fun _ _ => rfl) ?_
      show yP (xg xs) (d + 1) 261 159 [(0, .ref 52), (1, .int l1), (2, .int l2), (3, .int l3), (5, .int l5), (6, .int l6)] [.int (0 : Int32), .int (l2 + (3 : Int32)), .ref 52] m1 Q
      refine y_headS (l2 := [(0, .ref 52), (2, .int l2), (3, .int l3)]) [0, 2, 3] [0, 2, 3] [0, 1, 2, 3, 5, 6] rfl rfl (by decide) rfl (by decide) ?_
      exact H
    · replace H := H.2 h; clear h
      refine y_st rfl rfl rfl rfl rfl (fun _ _ => rfl) ?_
      refine y_st rfl rfl rfl rfl rfl (fun _ _ => rfl) ?_
      show yP (xg xs) (d + 1) 261 159 [(0, .ref 52), (1, .int l1), (2, .int l2), (3, .int l3), (5, .int l5), (6, .int l6)] [.int (1 : Int32), .int (l2 + (3 : Int32)), .ref 52] m1 Q
      refine y_headS (l2 := [(0, .ref 52), (2, .int l2), (3, .int l3)]) [0, 2, 3] [0, 2, 3] [0, 1, 2, 3, 5, 6] rfl rfl (by decide) rfl (by decide) ?_
      exact H
set_option maxRecDepth 20000 in
/-- CodeMaker.Machine.counter from 159 on -/
theorem w261_159 (xs : List Int32) (d : Nat) (l2 : Int32) (l3 : Int32) (s1 : Int32) (s2 : Int32) (m : yM) (Q : Option Value → yM → Prop) (H : (yC (xg xs) d 258 [.ref 52, .int s1, .int s2] m (fun v1 m1 => v1 = none ∧ (yC (xg xs) d 258 [.ref 52, .int (l2 + (5 : Int32)), .int l3] m1 (fun v2 m2 => v2 = none ∧ Q none m2))))) : yP (xg xs) (d + 1) 261 159 [(0, .ref 52), (2, .int l2), (3, .int l3)] [.int s2, .int s1, .ref 52] m Q := by
  show yP (xg xs) (d + 1) 261 159 [(0, .ref 52), (2, .int l2), (3, .int l3)] [.int s2, .int s1, .ref 52] m Q
  refine y_call rfl rfl rfl rfl rfl (Nat.le_of_ble_eq_true rfl) (Nat.le_of_ble_eq_true rfl) rfl (by decide) H (fun v1 m1 H => ?_)
  obtain ⟨rfl, H⟩ := H
  refine y_st rfl rfl rfl rfl rfl (fun _ _ => rfl) ?_
  refine y_st rfl rfl rfl rfl rfl (fun _ _ => rfl) ?_
  refine y_st rfl rfl rfl rfl rfl (fun _ _ => rfl) ?_
  refine y_st rfl rfl rfl rfl rfl (fun _ _ => rfl) ?_
  refine y_st rfl rfl rfl rfl rfl (fun _ _ => rfl) ?_
  show yP (xg xs) (d + 1) 261 167 [(0, .ref 52), (2, .int l2), (3, .int l3)] [.int l3, .int (l2 + (5 : Int32)), .ref 52] m1 Q
  refine y_call rfl rfl rfl rfl rfl (Nat.le_of_ble_eq_true rfl) (Nat.le_of_ble_eq_true rfl) rfl (by decide) H (fun v2 m2 H => ?_)
  obtain ⟨rfl, H⟩ := H
  show yP (xg xs) (d + 1) 261 170 [(0, .ref 52), (2, .int l2), (3, .int l3)] [] m2 Q
  exact y_ret rfl rfl rfl rfl H
