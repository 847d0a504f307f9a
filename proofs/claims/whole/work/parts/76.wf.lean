/-! WHAT EACH METHOD COMES TO, group f: laid by wip/gen/wpall.py -/
set_option maxRecDepth 20000 in
/-- CodeMaker.Measure.faultOf from 0 on -/
theorem w218_0 (xs : List Int32) (d : Nat) (l1 : Int32) (m : yM) (Q : Option Value → yM → Prop) (H : (yC (xg xs) d 219 [.ref 45, .int l1] m (fun v1 m1 => ∃ u1, v1 = some (Value.int u1) ∧ ((u1 = 0 → (yC (xg xs) d 226 [.ref 45, .int l1] m1 (fun v2 m2 => ∃ u2, v2 = some (Value.long u2) ∧ (((lg_cmp u2 (1000000000 : Int64)) ≤ 0 → (x_in l1 16 = true ∧ Q (some (.int (0 : Int32))) (y_si m2 41 l1.toNatClampNeg u2.toInt32))) ∧ (¬ (lg_cmp u2 (1000000000 : Int64)) ≤ 0 → Q (some (.int (52 : Int32))) m2))))) ∧ (¬ u1 = 0 → Q (some (.int (51 : Int32))) m1))))) : yP (xg xs) (d + 1) 218 0 [(0, .ref 45), (1, .int l1)] [] m Q := by
  refine y_st rfl rfl rfl rfl rfl (fun _ _ => rfl) ?_
  refine y_st rfl rfl rfl rfl rfl (fun _ _ => rfl) ?_
  show yP (xg xs) (d + 1) 218 2 [(0, .ref 45), (1, .int l1)] [.int l1, .ref 45] m Q
  refine y_call rfl rfl rfl rfl rfl (Nat.le_of_ble_eq_true rfl) (Nat.le_of_ble_eq_true rfl) rfl (by decide) H (fun v1 m1 H => ?_)
  obtain ⟨u1, rfl, H⟩ := H
  show yP (xg xs) (d + 1) 218 5 [(0, .ref 45), (1, .int l1)] [.int u1] m1 Q
  refine y_zeq (t := 11) rfl rfl rfl (fun h => ?_) (fun h => ?_)
  · replace H := H.1 h; clear h
    refine y_st rfl rfl rfl rfl rfl (fun _ _ => rfl) ?_
    refine y_st rfl rfl rfl rfl rfl (fun _ _ => rfl) ?_
    show yP (xg xs) (d + 1) 218 13 [(0, .ref 45), (1, .int l1)] [.int l1, .ref 45] m1 Q
    refine y_call rfl rfl rfl rfl rfl (Nat.le_of_ble_eq_true rfl) (Nat.le_of_ble_eq_true rfl) rfl (by decide) H (fun v2 m2 H => ?_)
    obtain ⟨u2, rfl, H⟩ := H
    refine y_st rfl rfl rfl rfl rfl (fun _ _ => rfl) ?_
    refine y_st rfl rfl rfl rfl rfl (fun _ _ => rfl) ?_
    refine y_st rfl rfl rfl rfl rfl (fun _ _ => rfl) ?_
    refine y_st rfl rfl rfl rfl rfl (fun _ _ => rfl) ?_
    show yP (xg xs) (d + 1) 218 22 [(2, .long u2), (0, .ref 45), (1, .int l1)] [.int (lg_cmp u2 (1000000000 : Int64))] m2 Q
    refine y_zle (t := 28) rfl rfl rfl (fun h => ?_) (fun h => ?_)
    · replace H := H.1 h; clear h
      refine y_st rfl rfl rfl rfl rfl (fun _ _ => rfl) ?_
      refine y_gf rfl rfl rfl rfl rfl ?_
      refine y_gf rfl rfl rfl rfl rfl ?_
      refine y_st rfl rfl rfl rfl rfl (fun _ _ => rfl) ?_
      refine y_st rfl rfl rfl rfl rfl (fun _ _ => rfl) ?_
      refine y_st rfl rfl rfl rfl rfl (fun _ _ => rfl) ?_
      show yP (xg xs) (d + 1) 218 38 [(2, .long u2), (0, .ref 45), (1, .int l1)] [.int u2.toInt32, .int l1, .ref 41] m2 Q
      refine y_iast rfl rfl rfl (H.1) ?_
      replace H := H.2
      refine y_st rfl rfl rfl rfl rfl (fun _ _ => rfl) ?_
      show yP (xg xs) (d + 1) 218 40 [(2, .long u2), (0, .ref 45), (1, .int l1)] [.int (0 : Int32)] (y_si m2 41 l1.toNatClampNeg u2.toInt32) Q
      exact y_iret rfl rfl rfl H
    · replace H := H.2 h; clear h
      refine y_st rfl rfl rfl rfl rfl (fun _ _ => rfl) ?_
      show yP (xg xs) (d + 1) 218 27 [(2, .long u2), (0, .ref 45), (1, .int l1)] [.int (52 : Int32)] m2 Q
      exact y_iret rfl rfl rfl H
  · replace H := H.2 h; clear h
    refine y_st rfl rfl rfl rfl rfl (fun _ _ => rfl) ?_
    show yP (xg xs) (d + 1) 218 10 [(0, .ref 45), (1, .int l1)] [.int (51 : Int32)] m1 Q
    exact y_iret rfl rfl rfl H
set_option maxRecDepth 20000 in
/-- CodeMaker.Measure.laysTooMuch from 0 on -/
theorem w219_0 (xs : List Int32) (d : Nat) (l1 : Int32) (m : yM) (Q : Option Value → yM → Prop) (H : (x_in l1 16 = true ∧ (yC (xg xs) d 220 [.ref 35, .int l1] m (fun v1 m1 => ∃ u1, v1 = some (Value.int u1) ∧ (yC (xg xs) d 221 [.ref 46, .int (0 : Int32), .int (u1 + (1 : Int32)), .long ((-1) : Int64)] m1 (fun v2 m2 => v2 = none ∧ yP (xg xs) (d + 1) 219 46 [(0, .ref 45), (2, .int (m.1 40 l1.toNatClampNeg)), (3, .int u1), (4, .int (0 : Int32)), (5, .int (0 : Int32))] [] (y_sl m2 46 0 (0 : Int64)) Q)))))) : yP (xg xs) (d + 1) 219 0 [(0, .ref 45), (1, .int l1)] [] m Q := by
  refine y_st rfl rfl rfl rfl rfl (fun _ _ => rfl) ?_
  refine y_gf rfl rfl rfl rfl rfl ?_
  refine y_gf rfl rfl rfl rfl rfl ?_
  refine y_st rfl rfl rfl rfl rfl (fun _ _ => rfl) ?_
  show yP (xg xs) (d + 1) 219 8 [(0, .ref 45), (1, .int l1)] [.int l1, .ref 40] m Q
  refine y_iald rfl rfl rfl (H.1) ?_
  replace H := H.2
  refine y_st rfl rfl rfl rfl rfl (fun _ _ => rfl) ?_
  refine y_st rfl rfl rfl rfl rfl (fun _ _ => rfl) ?_
  refine y_gf rfl rfl rfl rfl rfl ?_
  refine y_st rfl rfl rfl rfl rfl (fun _ _ => rfl) ?_
  show yP (xg xs) (d + 1) 219 15 [(2, .int (m.1 40 l1.toNatClampNeg)), (0, .ref 45), (1, .int l1)] [.int l1, .ref 35] m Q
  refine y_call rfl rfl rfl rfl rfl (Nat.le_of_ble_eq_true rfl) (Nat.le_of_ble_eq_true rfl) rfl (by decide) H (fun v1 m1 H => ?_)
  obtain ⟨u1, rfl, H⟩ := H
  refine y_st rfl rfl rfl rfl rfl (fun _ _ => rfl) ?_
  refine y_st rfl rfl rfl rfl rfl (fun _ _ => rfl) ?_
  refine y_st rfl rfl rfl rfl rfl (fun _ _ => rfl) ?_
  refine y_st rfl rfl rfl rfl rfl (fun _ _ => rfl) ?_
  refine y_gf rfl rfl rfl rfl rfl ?_
  refine y_st rfl rfl rfl rfl rfl (fun _ _ => rfl) ?_
  refine y_st rfl rfl rfl rfl rfl (fun _ _ => rfl) ?_
  refine y_st rfl rfl rfl rfl rfl (fun _ _ => rfl) ?_
  refine y_st rfl rfl rfl rfl rfl (fun _ _ => rfl) ?_
  refine y_st rfl rfl rfl rfl rfl (fun _ _ => rfl) ?_
  show yP (xg xs) (d + 1) 219 33 [(4, .int (0 : Int32)), (3, .int u1), (2, .int (m.1 40 l1.toNatClampNeg)), (0, .ref 45), (1, .int l1)] [.long ((-1) : Int64), .int (u1 + (1 : Int32)), .int (0 : Int32), .ref 46] m1 Q
  refine y_call rfl rfl rfl rfl rfl (Nat.le_of_ble_eq_true rfl) (Nat.le_of_ble_eq_true rfl) rfl (by decide) H (fun v2 m2 H => ?_)
  obtain ⟨rfl, H⟩ := H
  refine y_st rfl rfl rfl rfl rfl (fun _ _ => rfl) ?_
  refine y_gf rfl rfl rfl rfl rfl ?_
  refine y_st rfl rfl rfl rfl rfl (fun _ _ => rfl) ?_
  refine y_st rfl rfl rfl rfl rfl (fun _ _ => rfl) ?_
  show yP (xg xs) (d + 1) 219 42 [(4, .int (0 : Int32)), (3, .int u1), (2, .int (m.1 40 l1.toNatClampNeg)), (0, .ref 45), (1, .int l1)] [.long (0 : Int64), .int (0 : Int32), .ref 46] m2 Q
  refine y_last rfl rfl rfl (by decide) ?_
  refine y_st rfl rfl rfl rfl rfl (fun _ _ => rfl) ?_
  refine y_st rfl rfl rfl rfl rfl (fun _ _ => rfl) ?_
  show yP (xg xs) (d + 1) 219 46 [(5, .int (0 : Int32)), (4, .int (0 : Int32)), (3, .int u1), (2, .int (m.1 40 l1.toNatClampNeg)), (0, .ref 45), (1, .int l1)] [] (y_sl m2 46 0 (0 : Int64)) Q
  refine y_headS (l2 := [(0, .ref 45), (2, .int (m.1 40 l1.toNatClampNeg)), (3, .int u1), (4, .int (0 : Int32)), (5, .int (0 : Int32))]) [4, 3, 2, 1, 0] [0, 2, 3, 4, 5] [5, 4, 3, 2, 0, 1] rfl rfl (by decide) rfl (by decide) ?_
  exact H
set_option maxRecDepth 20000 in
/-- CodeMaker.Measure.laysTooMuch from 46 on -/
theorem w219_46 (xs : List Int32) (d : Nat) (l2 : Int32) (l3 : Int32) (l4 : Int32) (l5 : Int32) (m : yM) (Q : Option Value → yM → Prop) (H : ((l3 ≤ l5 → Q (some (.int (0 : Int32))) m) ∧ (¬ l3 ≤ l5 → (x_in (l2 + l5) 3000 = true ∧ (x_in (m.1 36 ((l2 + l5).toNatClampNeg)) xar_6.length = true ∧ (x_in l5 3001 = true ∧ ((¬ (lg_cmp (m.2 46 l5.toNatClampNeg) (0 : Int64)) = 0 → yP (xg xs) (d + 1) 219 174 [(0, .ref 45), (2, .int l2), (3, .int l3), (4, .int (l4 + (xar_6.getD ((m.1 36 ((l2 + l5).toNatClampNeg)).toNatClampNeg) 0))), (5, .int l5)] [] m Q) ∧ ((lg_cmp (m.2 46 l5.toNatClampNeg) (0 : Int64)) = 0 → (((l4 + (xar_6.getD ((m.1 36 ((l2 + l5).toNatClampNeg)).toNatClampNeg) 0)) ≤ (64 : Int32) → (yC (xg xs) d 223 [.int (m.1 36 ((l2 + l5).toNatClampNeg))] m (fun v1 m1 => ∃ u1, v1 = some (Value.int u1) ∧ ((u1 = 0 → yP (xg xs) (d + 1) 219 116 [(0, .ref 45), (2, .int l2), (3, .int l3), (4, .int (l4 + (xar_6.getD ((m.1 36 ((l2 + l5).toNatClampNeg)).toNatClampNeg) 0))), (5, .int l5), (6, .int (m.1 36 ((l2 + l5).toNatClampNeg)))] [] m1 Q) ∧ (¬ u1 = 0 → (x_in (l5 + (1 : Int32)) 3001 = true ∧ yP (xg xs) (d + 1) 219 116 [(0, .ref 45), (2, .int l2), (3, .int l3), (4, .int (l4 + (xar_6.getD ((m.1 36 ((l2 + l5).toNatClampNeg)).toNatClampNeg) 0))), (5, .int l5), (6, .int (m.1 36 ((l2 + l5).toNatClampNeg)))] [] (y_sl m1 46 ((l5 + (1 : Int32)).toNatClampNeg) (0 : Int64)) Q)))))) ∧ (¬ (l4 + (xar_6.getD ((m.1 36 ((l2 + l5).toNatClampNeg)).toNatClampNeg) 0)) ≤ (64 : Int32) → Q (some (.int (1 : Int32))) m)))))))))) : yP (xg xs) (d + 1) 219 46 [(0, .ref 45), (2, .int l2), (3, .int l3), (4, .int l4), (5, .int l5)] [] m Q := by
  refine y_st rfl rfl rfl rfl rfl (fun _ _ => rfl) ?_
  refine y_st rfl rfl rfl rfl rfl (fun _ _ => rfl) ?_
  show yP (xg xs) (d + 1) 219 49 [(0, .ref 45), (2, .int l2), (3, .int l3), (4, .int l4), (5, .int l5)] [.int l3, .int l5] m Q
  refine y_ige (t := 180) rfl rfl rfl (fun h => ?_) (fun h => ?_)
  · replace H := H.1 h; clear h
    refine y_st rfl rfl rfl rfl rfl (fun _ _ => rfl) ?_
    show yP (xg xs) (d + 1) 219 181 [(0, .ref 45), (2, .int l2), (3, .int l3), (4, .int l4), (5, .int l5)] [.int (0 : Int32)] m Q
    exact y_zret rfl rfl rfl (by decide) H
  · replace H := H.2 h; clear h
    refine y_st rfl rfl rfl rfl rfl (fun _ _ => rfl) ?_
    refine y_gf rfl rfl rfl rfl rfl ?_
    refine y_gf rfl rfl rfl rfl rfl ?_
    refine y_st rfl rfl rfl rfl rfl (fun _ _ => rfl) ?_
    refine y_st rfl rfl rfl rfl rfl (fun _ _ => rfl) ?_
    refine y_st rfl rfl rfl rfl rfl (fun _ _ => rfl) ?_
    show yP (xg xs) (d + 1) 219 63 [(0, .ref 45), (2, .int l2), (3, .int l3), (4, .int l4), (5, .int l5)] [.int (l2 + l5), .ref 36] m Q
    refine y_iald rfl rfl rfl (H.1) ?_
    replace H := H.2
    refine y_st rfl rfl rfl rfl rfl (fun _ _ => rfl) ?_
    refine y_st rfl rfl rfl rfl rfl (fun _ _ => rfl) ?_
    refine y_st rfl rfl rfl rfl rfl (fun _ _ => rfl) ?_
    refine y_st rfl rfl rfl rfl rfl (fun _ _ => rfl) ?_
    show yP (xg xs) (d + 1) 219 73 [(6, .int (m.1 36 ((l2 + l5).toNatClampNeg))), (0, .ref 45), (2, .int l2), (3, .int l3), (4, .int l4), (5, .int l5)] [.int (m.1 36 ((l2 + l5).toNatClampNeg)), .retAddr 6, .int l4] m Q
    refine y_cald rfl rfl rfl H.1 ?_
    replace H := H.2
    refine y_st rfl rfl rfl rfl rfl (fun _ _ => rfl) ?_
    refine y_st rfl rfl rfl rfl rfl (fun _ _ => rfl) ?_
    refine y_st rfl rfl rfl rfl rfl (fun _ _ => rfl) ?_
    refine y_gf rfl rfl rfl rfl rfl ?_
    refine y_st rfl rfl rfl rfl rfl (fun _ _ => rfl) ?_
    show yP (xg xs) (d + 1) 219 83 [(4, .int (l4 + (xar_6.getD ((m.1 36 ((l2 + l5).toNatClampNeg)).toNatClampNeg) 0))), (6, .int (m.1 36 ((l2 + l5).toNatClampNeg))), (0, .ref 45), (2, .int l2), (3, .int l3), (5, .int l5)] [.int l5, .ref 46] m Q
    refine y_lald rfl rfl rfl (H.1) ?_
    replace H := H.2
    refine y_st rfl rfl rfl rfl rfl (fun _ _ => rfl) ?_
    refine y_st rfl rfl rfl rfl rfl (fun _ _ => rfl) ?_
    show yP (xg xs) (d + 1) 219 86 [(4, .int (l4 + (xar_6.getD ((m.1 36 ((l2 + l5).toNatClampNeg)).toNatClampNeg) 0))), (6, .int (m.1 36 ((l2 + l5).toNatClampNeg))), (0, .ref 45), (2, .int l2), (3, .int l3), (5, .int l5)] [.int (lg_cmp (m.2 46 l5.toNatClampNeg) (0 : Int64))] m Q
    refine y_zne (t := 174) rfl rfl rfl (fun h => ?_) (fun h => ?_)
    · replace H := H.1 h; clear h
      show yP (xg xs) (d + 1) 219 174 [(4, .int (l4 + (xar_6.getD ((m.1 36 ((l2 + l5).toNatClampNeg)).toNatClampNeg) 0))), (6, .int (m.1 36 ((l2 + l5).toNatClampNeg))), (0, .ref 45), (2, .int l2), (3, .int l3), (5, .int l5)] [] m Q
      refine y_headS (l2 := [(0, .ref 45), (2, .int l2), (3, .int l3), (4, .int (l4 + (xar_6.getD ((m.1 36 ((l2 + l5).toNatClampNeg)).toNatClampNeg) 0))), (5, .int l5)]) [2, 3, 4, 0, 5] [0, 2, 3, 4, 5] [4, 6, 0, 2, 3, 5] rfl rfl (by decide) rfl (by decide) ?_
      exact H
    · replace H := H.2 h; clear h
      refine y_st rfl rfl rfl rfl rfl (fun _ _ => rfl) ?_
      refine y_st rfl rfl rfl rfl rfl (fun _ _ => rfl) ?_
      show yP (xg xs) (d + 1) 219 93 [(4, .int (l4 + (xar_6.getD ((m.1 36 ((l2 + l5).toNatClampNeg)).toNatClampNeg) 0))), (6, .int (m.1 36 ((l2 + l5).toNatClampNeg))), (0, .ref 45), (2, .int l2), (3, .int l3), (5, .int l5)] [.int (64 : Int32), .int (l4 + (xar_6.getD ((m.1 36 ((l2 + l5).toNatClampNeg)).toNatClampNeg) 0))] m Q
      refine y_ile (t := 98) rfl rfl rfl (fun h => ?_) (fun h => ?_)
      · replace H := H.1 h; clear h
        refine y_st rfl rfl rfl rfl rfl (fun _ _ => rfl) ?_
        show yP (xg xs) (d + 1) 219 100 [(4, .int (l4 + (xar_6.getD ((m.1 36 ((l2 + l5).toNatClampNeg)).toNatClampNeg) 0))), (6, .int (m.1 36 ((l2 + l5).toNatClampNeg))), (0, .ref 45), (2, .int l2), (3, .int l3), (5, .int l5)] [.int (m.1 36 ((l2 + l5).toNatClampNeg))] m Q
        refine y_call rfl rfl rfl rfl rfl (Nat.le_of_ble_eq_true rfl) (Nat.le_of_ble_eq_true rfl) rfl (by decide) H (fun v1 m1 H => ?_)
        obtain ⟨u1, rfl, H⟩ := H
        show yP (xg xs) (d + 1) 219 103 [(4, .int (l4 + (xar_6.getD ((m.1 36 ((l2 + l5).toNatClampNeg)).toNatClampNeg) 0))), (6, .int (m.1 36 ((l2 + l5).toNatClampNeg))), (0, .ref 45), (2, .int l2), (3, .int l3), (5, .int l5)] [.int u1] m1 Q
        refine y_zeq (t := 116) rfl rfl rfl (fun h => ?_) (fun h => ?_)
        · replace H := H.1 h; clear h
          show yP (xg xs) (d + 1) 219 116 [(4, .int (l4 + (xar_6.getD ((m.1 36 ((l2 + l5).toNatClampNeg)).toNatClampNeg) 0))), (6, .int (m.1 36 ((l2 + l5).toNatClampNeg))), (0, .ref 45), (2, .int l2), (3, .int l3), (5, .int l5)] [] m1 Q
          refine y_headS (l2 := [(0, .ref 45), (2, .int l2), (3, .int l3), (4, .int (l4 + (xar_6.getD ((m.1 36 ((l2 + l5).toNatClampNeg)).toNatClampNeg) 0))), (5, .int l5), (6, .int (m.1 36 ((l2 + l5).toNatClampNeg)))]) [2, 3, 4, 0, 5, 1] [0, 2, 3, 4, 5, 6] [4, 6, 0, 2, 3, 5] rfl rfl (by decide) rfl (by decide) ?_
          exact H
        · replace H := H.2 h; clear h
          refine y_st rfl rfl rfl rfl rfl (fun _ _ => rfl) ?_
          refine y_gf rfl rfl rfl rfl rfl ?_
          refine y_st rfl rfl rfl rfl rfl (fun _ _ => rfl) ?_
          refine y_st rfl rfl rfl rfl rfl (fun _ _ => rfl) ?_
          refine y_st rfl rfl rfl rfl rfl (fun _ _ => rfl) ?_
          refine y_st rfl rfl rfl rfl rfl (fun _ _ => rfl) ?_
          show yP (xg xs) (d + 1) 219 115 [(4, .int (l4 + (xar_6.getD ((m.1 36 ((l2 + l5).toNatClampNeg)).toNatClampNeg) 0))), (6, .int (m.1 36 ((l2 + l5).toNatClampNeg))), (0, .ref 45), (2, .int l2), (3, .int l3), (5, .int l5)] [.long (0 : Int64), .int (l5 + (1 : Int32)), .ref 46] m1 Q
          refine y_last rfl rfl rfl (H.1) ?_
          replace H := H.2
          show yP (xg xs) (d + 1) 219 116 [(4, .int (l4 + (xar_6.getD ((m.1 36 ((l2 + l5).toNatClampNeg)).toNatClampNeg) 0))), (6, .int (m.1 36 ((l2 + l5).toNatClampNeg))), (0, .ref 45), (2, .int l2), (3, .int l3), (5, .int l5)] [] (y_sl m1 46 ((l5 + (1 : Int32)).toNatClampNeg) (0 : Int64)) Q
          refine y_headS (l2 := [(0, .ref 45), (2, .int l2), (3, .int l3), (4, .int (l4 + (xar_6.getD ((m.1 36 ((l2 + l5).toNatClampNeg)).toNatClampNeg) 0))), (5, .int l5), (6, .int (m.1 36 ((l2 + l5).toNatClampNeg)))]) [2, 3, 4, 0, 5, 1] [0, 2, 3, 4, 5, 6] [4, 6, 0, 2, 3, 5] rfl rfl (by decide) rfl (by decide) ?_
          exact H
      · replace H := H.2 h; clear h
        refine y_st rfl rfl rfl rfl rfl (fun _ _ => rfl) ?_
        show yP (xg xs) (d + 1) 219 97 [(4, .int (l4 + (xar_6.getD ((m.1 36 ((l2 + l5).toNatClampNeg)).toNatClampNeg) 0))), (6, .int (m.1 36 ((l2 + l5).toNatClampNeg))), (0, .ref 45), (2, .int l2), (3, .int l3), (5, .int l5)] [.int (1 : Int32)] m Q
        exact y_zret rfl rfl rfl (by decide) H
set_option maxRecDepth 20000 in
/-- CodeMaker.Measure.laysTooMuch from 116 on -/
theorem w219_116 (xs : List Int32) (d : Nat) (l2 : Int32) (l3 : Int32) (l4 : Int32) (l5 : Int32) (l6 : Int32) (m : yM) (Q : Option Value → yM → Prop) (H : ((l6 = (10 : Int32) → yP (xg xs) (d + 1) 219 130 [(0, .ref 45), (2, .int l2), (3, .int l3), (4, .int l4), (5, .int l5)] [] m Q) ∧ (¬ l6 = (10 : Int32) → ((¬ l6 = (11 : Int32) → ((¬ l6 = (13 : Int32) → yP (xg xs) (d + 1) 219 174 [(0, .ref 45), (2, .int l2), (3, .int l3), (4, .int l4), (5, .int l5)] [] m Q) ∧ (l6 = (13 : Int32) → (x_in (l2 + l5) 3000 = true ∧ (yC (xg xs) d 224 [.ref 45, .int (m.1 38 ((l2 + l5).toNatClampNeg)), .long (0 : Int64)] m (fun v1 m1 => v1 = none ∧ yP (xg xs) (d + 1) 219 174 [(0, .ref 45), (2, .int l2), (3, .int l3), (4, .int l4), (5, .int l5)] [] m1 Q)))))) ∧ (l6 = (11 : Int32) → yP (xg xs) (d + 1) 219 130 [(0, .ref 45), (2, .int l2), (3, .int l3), (4, .int l4), (5, .int l5)] [] m Q))))) : yP (xg xs) (d + 1) 219 116 [(0, .ref 45), (2, .int l2), (3, .int l3), (4, .int l4), (5, .int l5), (6, .int l6)] [] m Q := by
  refine y_st rfl rfl rfl rfl rfl (fun _ _ => rfl) ?_
  refine y_st rfl rfl rfl rfl rfl (fun _ _ => rfl) ?_
  show yP (xg xs) (d + 1) 219 120 [(0, .ref 45), (2, .int l2), (3, .int l3), (4, .int l4), (5, .int l5), (6, .int l6)] [.int (10 : Int32), .int l6] m Q
  refine y_ieq (t := 130) rfl rfl rfl (fun h => ?_) (fun h => ?_)
  · replace H := H.1 h; clear h
    show yP (xg xs) (d + 1) 219 130 [(0, .ref 45), (2, .int l2), (3, .int l3), (4, .int l4), (5, .int l5), (6, .int l6)] [] m Q
    refine y_headS (l2 := [(0, .ref 45), (2, .int l2), (3, .int l3), (4, .int l4), (5, .int l5)]) [0, 1, 2, 3, 4] [0, 2, 3, 4, 5] [0, 2, 3, 4, 5, 6] rfl rfl (by decide) rfl (by decide) ?_
    exact H
  · replace H := H.2 h; clear h
    refine y_st rfl rfl rfl rfl rfl (fun _ _ => rfl) ?_
    refine y_st rfl rfl rfl rfl rfl (fun _ _ => rfl) ?_
    show yP (xg xs) (d + 1) 219 127 [(0, .ref 45), (2, .int l2), (3, .int l3), (4, .int l4), (5, .int l5), (6, .int l6)] [.int (11 : Int32), .int l6] m Q
    refine y_ine (t := 150) rfl rfl rfl (fun h => ?_) (fun h => ?_)
    · replace H := H.1 h; clear h
      refine y_st rfl rfl rfl rfl rfl (fun _ _ => rfl) ?_
      refine y_st rfl rfl rfl rfl rfl (fun _ _ => rfl) ?_
      show yP (xg xs) (d + 1) 219 154 [(0, .ref 45), (2, .int l2), (3, .int l3), (4, .int l4), (5, .int l5), (6, .int l6)] [.int (13 : Int32), .int l6] m Q
      refine y_ine (t := 174) rfl rfl rfl (fun h => ?_) (fun h => ?_)
      · replace H := H.1 h; clear h
        show yP (xg xs) (d + 1) 219 174 [(0, .ref 45), (2, .int l2), (3, .int l3), (4, .int l4), (5, .int l5), (6, .int l6)] [] m Q
        refine y_headS (l2 := [(0, .ref 45), (2, .int l2), (3, .int l3), (4, .int l4), (5, .int l5)]) [0, 1, 2, 3, 4] [0, 2, 3, 4, 5] [0, 2, 3, 4, 5, 6] rfl rfl (by decide) rfl (by decide) ?_
        exact H
      · replace H := H.2 h; clear h
        refine y_st rfl rfl rfl rfl rfl (fun _ _ => rfl) ?_
        refine y_st rfl rfl rfl rfl rfl (fun _ _ => rfl) ?_
        refine y_gf rfl rfl rfl rfl rfl ?_
        refine y_gf rfl rfl rfl rfl rfl ?_
        refine y_st rfl rfl rfl rfl rfl (fun _ _ => rfl) ?_
        refine y_st rfl rfl rfl rfl rfl (fun _ _ => rfl) ?_
        refine y_st rfl rfl rfl rfl rfl (fun _ _ => rfl) ?_
        show yP (xg xs) (d + 1) 219 169 [(0, .ref 45), (2, .int l2), (3, .int l3), (4, .int l4), (5, .int l5), (6, .int l6)] [.int (l2 + l5), .ref 38, .ref 45] m Q
        refine y_iald rfl rfl rfl (H.1) ?_
        replace H := H.2
        refine y_st rfl rfl rfl rfl rfl (fun _ _ => rfl) ?_
        show yP (xg xs) (d + 1) 219 171 [(0, .ref 45), (2, .int l2), (3, .int l3), (4, .int l4), (5, .int l5), (6, .int l6)] [.long (0 : Int64), .int (m.1 38 ((l2 + l5).toNatClampNeg)), .ref 45] m Q
        refine y_call rfl rfl rfl rfl rfl (Nat.le_of_ble_eq_true rfl) (Nat.le_of_ble_eq_true rfl) rfl (by decide) H (fun v1 m1 H => ?_)
        obtain ⟨rfl, H⟩ := H
        show yP (xg xs) (d + 1) 219 174 [(0, .ref 45), (2, .int l2), (3, .int l3), (4, .int l4), (5, .int l5), (6, .int l6)] [] m1 Q
        refine y_headS (l2 := [(0, .ref 45), (2, .int l2), (3, .int l3), (4, .int l4), (5, .int l5)]) [0, 1, 2, 3, 4] [0, 2, 3, 4, 5] [0, 2, 3, 4, 5, 6] rfl rfl (by decide) rfl (by decide) ?_
        exact H
    · replace H := H.2 h; clear h
      show yP (xg xs) (d + 1) 219 130 [(0, .ref 45), (2, .int l2), (3, .int l3), (4, .int l4), (5, .int l5), (6, .int l6)] [] m Q
      refine y_headS (l2 := [(0, .ref 45), (2, .int l2), (3, .int l3), (4, .int l4), (5, .int l5)]) [0, 1, 2, 3, 4] [0, 2, 3, 4, 5] [0, 2, 3, 4, 5, 6] rfl rfl (by decide) rfl (by decide) ?_
      exact H
set_option maxRecDepth 20000 in
/-- CodeMaker.Measure.laysTooMuch from 130 on -/
theorem w219_130 (xs : List Int32) (d : Nat) (l2 : Int32) (l3 : Int32) (l4 : Int32) (l5 : Int32) (m : yM) (Q : Option Value → yM → Prop) (H : (x_in (l2 + l5) 3000 = true ∧ (yC (xg xs) d 224 [.ref 45, .int (m.1 37 ((l2 + l5).toNatClampNeg)), .long (0 : Int64)] m (fun v1 m1 => v1 = none ∧ yP (xg xs) (d + 1) 219 174 [(0, .ref 45), (2, .int l2), (3, .int l3), (4, .int l4), (5, .int l5)] [] m1 Q)))) : yP (xg xs) (d + 1) 219 130 [(0, .ref 45), (2, .int l2), (3, .int l3), (4, .int l4), (5, .int l5)] [] m Q := by
  refine y_st rfl rfl rfl rfl rfl (fun _ _ => rfl) ?_
  refine y_st rfl rfl rfl rfl rfl (fun _ _ => rfl) ?_
  refine y_gf rfl rfl rfl rfl rfl ?_
  refine y_gf rfl rfl rfl rfl rfl ?_
  refine y_st rfl rfl rfl rfl rfl (fun _ _ => rfl) ?_
  refine y_st rfl rfl rfl rfl rfl (fun _ _ => rfl) ?_
  refine y_st rfl rfl rfl rfl rfl (fun _ _ => rfl) ?_
  show yP (xg xs) (d + 1) 219 142 [(0, .ref 45), (2, .int l2), (3, .int l3), (4, .int l4), (5, .int l5)] [.int (l2 + l5), .ref 37, .ref 45] m Q
  refine y_iald rfl rfl rfl (H.1) ?_
  replace H := H.2
  refine y_st rfl rfl rfl rfl rfl (fun _ _ => rfl) ?_
  show yP (xg xs) (d + 1) 219 144 [(0, .ref 45), (2, .int l2), (3, .int l3), (4, .int l4), (5, .int l5)] [.long (0 : Int64), .int (m.1 37 ((l2 + l5).toNatClampNeg)), .ref 45] m Q
  refine y_call rfl rfl rfl rfl rfl (Nat.le_of_ble_eq_true rfl) (Nat.le_of_ble_eq_true rfl) rfl (by decide) H (fun v1 m1 H => ?_)
  obtain ⟨rfl, H⟩ := H
  refine y_st rfl rfl rfl rfl rfl (fun _ _ => rfl) ?_
  show yP (xg xs) (d + 1) 219 174 [(0, .ref 45), (2, .int l2), (3, .int l3), (4, .int l4), (5, .int l5)] [] m1 Q
  exact H
set_option maxRecDepth 20000 in
/-- CodeMaker.Measure.laysTooMuch from 174 on -/
theorem w219_174 (xs : List Int32) (d : Nat) (l2 : Int32) (l3 : Int32) (l4 : Int32) (l5 : Int32) (m : yM) (Q : Option Value → yM → Prop) (H : yP (xg xs) (d + 1) 219 46 [(0, .ref 45), (2, .int l2), (3, .int l3), (4, .int l4), (5, .int (l5 + (1 : Int32)))] [] m Q) : yP (xg xs) (d + 1) 219 174 [(0, .ref 45), (2, .int l2), (3, .int l3), (4, .int l4), (5, .int l5)] [] m Q := by
  refine y_st rfl rfl rfl rfl rfl (fun _ _ => rfl) ?_
  refine y_st rfl rfl rfl rfl rfl (fun _ _ => rfl) ?_
  show yP (xg xs) (d + 1) 219 46 [(5, .int (l5 + (1 : Int32))), (0, .ref 45), (2, .int l2), (3, .int l3), (4, .int l4)] [] m Q
  refine y_headS (l2 := [(0, .ref 45), (2, .int l2), (3, .int l3), (4, .int l4), (5, .int (l5 + (1 : Int32)))]) [1, 2, 3, 4, 0] [0, 2, 3, 4, 5] [5, 0, 2, 3, 4] rfl rfl (by decide) rfl (by decide) ?_
  exact H
set_option maxRecDepth 20000 in
/-- CodeMaker.Code.unitSize from 0 on -/
theorem w220_0 (xs : List Int32) (d : Nat) (l1 : Int32) (m : yM) (Q : Option Value → yM → Prop) (H : (((m.1 35 7) ≤ (l1 + (1 : Int32)) → (x_in l1 16 = true ∧ Q (some (.int ((m.1 35 6) - (m.1 40 l1.toNatClampNeg)))) m)) ∧ (¬ (m.1 35 7) ≤ (l1 + (1 : Int32)) → (x_in (l1 + (1 : Int32)) 16 = true ∧ (x_in l1 16 = true ∧ Q (some (.int ((m.1 40 ((l1 + (1 : Int32)).toNatClampNeg)) - (m.1 40 l1.toNatClampNeg)))) m))))) : yP (xg xs) (d + 1) 220 0 [(0, .ref 35), (1, .int l1)] [] m Q := by
  refine y_st rfl rfl rfl rfl rfl (fun _ _ => rfl) ?_
  refine y_st rfl rfl rfl rfl rfl (fun _ _ => rfl) ?_
  refine y_st rfl rfl rfl rfl rfl (fun _ _ => rfl) ?_
  refine y_st rfl rfl rfl rfl rfl (fun _ _ => rfl) ?_
  refine y_gf rfl rfl rfl rfl rfl ?_
  show yP (xg xs) (d + 1) 220 7 [(0, .ref 35), (1, .int l1)] [.int (m.1 35 7), .int (l1 + (1 : Int32))] m Q
  refine y_ige (t := 21) rfl rfl rfl (fun h => ?_) (fun h => ?_)
  · replace H := H.1 h; clear h
    refine y_st rfl rfl rfl rfl rfl (fun _ _ => rfl) ?_
    refine y_gf rfl rfl rfl rfl rfl ?_
    refine y_st rfl rfl rfl rfl rfl (fun _ _ => rfl) ?_
    refine y_gf rfl rfl rfl rfl rfl ?_
    refine y_st rfl rfl rfl rfl rfl (fun _ _ => rfl) ?_
    show yP (xg xs) (d + 1) 220 30 [(0, .ref 35), (1, .int l1)] [.int l1, .ref 40, .int (m.1 35 6)] m Q
    refine y_iald rfl rfl rfl (H.1) ?_
    replace H := H.2
    refine y_st rfl rfl rfl rfl rfl (fun _ _ => rfl) ?_
    show yP (xg xs) (d + 1) 220 32 [(0, .ref 35), (1, .int l1)] [.int ((m.1 35 6) - (m.1 40 l1.toNatClampNeg))] m Q
    exact y_iret rfl rfl rfl H
  · replace H := H.2 h; clear h
    refine y_st rfl rfl rfl rfl rfl (fun _ _ => rfl) ?_
    refine y_gf rfl rfl rfl rfl rfl ?_
    refine y_st rfl rfl rfl rfl rfl (fun _ _ => rfl) ?_
    refine y_st rfl rfl rfl rfl rfl (fun _ _ => rfl) ?_
    refine y_st rfl rfl rfl rfl rfl (fun _ _ => rfl) ?_
    show yP (xg xs) (d + 1) 220 17 [(0, .ref 35), (1, .int l1)] [.int (l1 + (1 : Int32)), .ref 40] m Q
    refine y_iald rfl rfl rfl (H.1) ?_
    replace H := H.2
    refine y_st rfl rfl rfl rfl rfl (fun _ _ => rfl) ?_
    refine y_st rfl rfl rfl rfl rfl (fun _ _ => rfl) ?_
    refine y_gf rfl rfl rfl rfl rfl ?_
    refine y_st rfl rfl rfl rfl rfl (fun _ _ => rfl) ?_
    show yP (xg xs) (d + 1) 220 30 [(0, .ref 35), (1, .int l1)] [.int l1, .ref 40, .int (m.1 40 ((l1 + (1 : Int32)).toNatClampNeg))] m Q
    refine y_iald rfl rfl rfl (H.1) ?_
    replace H := H.2
    refine y_st rfl rfl rfl rfl rfl (fun _ _ => rfl) ?_
    show yP (xg xs) (d + 1) 220 32 [(0, .ref 35), (1, .int l1)] [.int ((m.1 40 ((l1 + (1 : Int32)).toNatClampNeg)) - (m.1 40 l1.toNatClampNeg))] m Q
    exact y_iret rfl rfl rfl H
set_option maxRecDepth 20000 in
/-- CodeMaker.Measure.goesOn from 0 on -/
theorem w223_0 (xs : List Int32) (d : Nat) (l0 : Int32) (m : yM) (Q : Option Value → yM → Prop) (H : ((l0 = (10 : Int32) → Q (some (.int (0 : Int32))) m) ∧ (¬ l0 = (10 : Int32) → ((l0 = (14 : Int32) → Q (some (.int (0 : Int32))) m) ∧ (¬ l0 = (14 : Int32) → ((l0 = (18 : Int32) → Q (some (.int (0 : Int32))) m) ∧ (¬ l0 = (18 : Int32) → Q (some (.int (1 : Int32))) m))))))) : yP (xg xs) (d + 1) 223 0 [(0, .int l0)] [] m Q := by
  refine y_st rfl rfl rfl rfl rfl (fun _ _ => rfl) ?_
  refine y_st rfl rfl rfl rfl rfl (fun _ _ => rfl) ?_
  show yP (xg xs) (d + 1) 223 3 [(0, .int l0)] [.int (10 : Int32), .int l0] m Q
  refine y_ieq (t := 22) rfl rfl rfl (fun h => ?_) (fun h => ?_)
  · replace H := H.1 h; clear h
    refine y_st rfl rfl rfl rfl rfl (fun _ _ => rfl) ?_
    show yP (xg xs) (d + 1) 223 23 [(0, .int l0)] [.int (0 : Int32)] m Q
    exact y_zret rfl rfl rfl (by decide) H
  · replace H := H.2 h; clear h
    refine y_st rfl rfl rfl rfl rfl (fun _ _ => rfl) ?_
    refine y_st rfl rfl rfl rfl rfl (fun _ _ => rfl) ?_
    show yP (xg xs) (d + 1) 223 9 [(0, .int l0)] [.int (14 : Int32), .int l0] m Q
    refine y_ieq (t := 22) rfl rfl rfl (fun h => ?_) (fun h => ?_)
    · replace H := H.1 h; clear h
      refine y_st rfl rfl rfl rfl rfl (fun _ _ => rfl) ?_
      show yP (xg xs) (d + 1) 223 23 [(0, .int l0)] [.int (0 : Int32)] m Q
      exact y_zret rfl rfl rfl (by decide) H
    · replace H := H.2 h; clear h
      refine y_st rfl rfl rfl rfl rfl (fun _ _ => rfl) ?_
      refine y_st rfl rfl rfl rfl rfl (fun _ _ => rfl) ?_
      show yP (xg xs) (d + 1) 223 15 [(0, .int l0)] [.int (18 : Int32), .int l0] m Q
      refine y_ieq (t := 22) rfl rfl rfl (fun h => ?_) (fun h => ?_)
      · replace H := H.1 h; clear h
        refine y_st rfl rfl rfl rfl rfl (fun _ _ => rfl) ?_
        show yP (xg xs) (d + 1) 223 23 [(0, .int l0)] [.int (0 : Int32)] m Q
        exact y_zret rfl rfl rfl (by decide) H
      · replace H := H.2 h; clear h
        refine y_st rfl rfl rfl rfl rfl (fun _ _ => rfl) ?_
        refine y_st rfl rfl rfl rfl rfl (fun _ _ => rfl) ?_
        show yP (xg xs) (d + 1) 223 23 [(0, .int l0)] [.int (1 : Int32)] m Q
        exact y_zret rfl rfl rfl (by decide) H
set_option maxRecDepth 20000 in
/-- CodeMaker.Measure.come from 0 on -/
theorem w224_0 (xs : List Int32) (d : Nat) (l1 : Int32) (l2 : Int64) (m : yM) (Q : Option Value → yM → Prop) (H : ((l1 < 0 → Q none m) ∧ (¬ l1 < 0 → (((3000 : Int32) < l1 → Q none m) ∧ (¬ (3000 : Int32) < l1 → (x_in l1 3001 = true ∧ (x_in l1 3001 = true ∧ Q none (y_sl m 46 l1.toNatClampNeg (if (if (1000000000000 : Int64) < l2 then (1000000000000 : Int64) else l2) < (m.2 46 l1.toNatClampNeg) then (m.2 46 l1.toNatClampNeg) else (if (1000000000000 : Int64) < l2 then (1000000000000 : Int64) else l2)))))))))) : yP (xg xs) (d + 1) 224 0 [(0, .ref 45), (1, .int l1), (2, .long l2)] [] m Q := by
  refine y_st rfl rfl rfl rfl rfl (fun _ _ => rfl) ?_
  show yP (xg xs) (d + 1) 224 1 [(0, .ref 45), (1, .int l1), (2, .long l2)] [.int l1] m Q
  refine y_zlt (t := 33) rfl rfl rfl (fun h => ?_) (fun h => ?_)
  · replace H := H.1 h; clear h
    show yP (xg xs) (d + 1) 224 33 [(0, .ref 45), (1, .int l1), (2, .long l2)] [] m Q
    exact y_ret rfl rfl rfl rfl H
  · replace H := H.2 h; clear h
    refine y_st rfl rfl rfl rfl rfl (fun _ _ => rfl) ?_
    refine y_st rfl rfl rfl rfl rfl (fun _ _ => rfl) ?_
    show yP (xg xs) (d + 1) 224 8 [(0, .ref 45), (1, .int l1), (2, .long l2)] [.int (3000 : Int32), .int l1] m Q
    refine y_igt (t := 33) rfl rfl rfl (fun h => ?_) (fun h => ?_)
    · replace H := H.1 h; clear h
      show yP (xg xs) (d + 1) 224 33 [(0, .ref 45), (1, .int l1), (2, .long l2)] [] m Q
      exact y_ret rfl rfl rfl rfl H
    · replace H := H.2 h; clear h
      refine y_st rfl rfl rfl rfl rfl (fun _ _ => rfl) ?_
      refine y_gf rfl rfl rfl rfl rfl ?_
      refine y_st rfl rfl rfl rfl rfl (fun _ _ => rfl) ?_
      refine y_st rfl rfl rfl rfl rfl (fun _ _ => rfl) ?_
      refine y_gf rfl rfl rfl rfl rfl ?_
      refine y_st rfl rfl rfl rfl rfl (fun _ _ => rfl) ?_
      show yP (xg xs) (d + 1) 224 21 [(0, .ref 45), (1, .int l1), (2, .long l2)] [.int l1, .ref 46, .int l1, .ref 46] m Q
      refine y_lald rfl rfl rfl (H.1) ?_
      replace H := H.2
      refine y_st rfl rfl rfl rfl rfl (fun _ _ => rfl) ?_
      refine y_st rfl rfl rfl rfl rfl (fun _ _ => rfl) ?_
      refine y_mi rfl rfl rfl rfl rfl (Nat.le_of_ble_eq_true rfl) (by omega) ?_
      refine y_mi rfl rfl rfl rfl rfl (Nat.le_of_ble_eq_true rfl) (by omega) ?_
      show yP (xg xs) (d + 1) 224 32 [(0, .ref 45), (1, .int l1), (2, .long l2)] [.long (if (if (1000000000000 : Int64) < l2 then (1000000000000 : Int64) else l2) < (m.2 46 l1.toNatClampNeg) then (m.2 46 l1.toNatClampNeg) else (if (1000000000000 : Int64) < l2 then (1000000000000 : Int64) else l2)), .int l1, .ref 46] m Q
      refine y_last rfl rfl rfl (H.1) ?_
      replace H := H.2
      show yP (xg xs) (d + 1) 224 33 [(0, .ref 45), (1, .int l1), (2, .long l2)] [] (y_sl m 46 l1.toNatClampNeg (if (if (1000000000000 : Int64) < l2 then (1000000000000 : Int64) else l2) < (m.2 46 l1.toNatClampNeg) then (m.2 46 l1.toNatClampNeg) else (if (1000000000000 : Int64) < l2 then (1000000000000 : Int64) else l2))) Q
      exact y_ret rfl rfl rfl rfl H
set_option maxRecDepth 20000 in
/-- CodeMaker.Measure.boundOf from 0 on -/
theorem w226_0 (xs : List Int32) (d : Nat) (l1 : Int32) (m : yM) (Q : Option Value → yM → Prop) (H : (x_in l1 16 = true ∧ (yC (xg xs) d 220 [.ref 35, .int l1] m (fun v1 m1 => ∃ u1, v1 = some (Value.int u1) ∧ (yC (xg xs) d 221 [.ref 46, .int (0 : Int32), .int (u1 + (1 : Int32)), .long ((-1) : Int64)] m1 (fun v2 m2 => v2 = none ∧ yP (xg xs) (d + 1) 226 57 [(0, .ref 45), (2, .int (m.1 40 l1.toNatClampNeg)), (3, .int u1), (4, .int (0 : Int32))] [] (y_sl (y_si (y_sl m2 46 0 (0 : Int64)) 45 7 (0 : Int32)) 51 0 ((-1) : Int64)) Q)))))) : yP (xg xs) (d + 1) 226 0 [(0, .ref 45), (1, .int l1)] [] m Q := by
  refine y_st rfl rfl rfl rfl rfl (fun _ _ => rfl) ?_
  refine y_gf rfl rfl rfl rfl rfl ?_
  refine y_gf rfl rfl rfl rfl rfl ?_
  refine y_st rfl rfl rfl rfl rfl (fun _ _ => rfl) ?_
  show yP (xg xs) (d + 1) 226 8 [(0, .ref 45), (1, .int l1)] [.int l1, .ref 40] m Q
  refine y_iald rfl rfl rfl (H.1) ?_
  replace H := H.2
  refine y_st rfl rfl rfl rfl rfl (fun _ _ => rfl) ?_
  refine y_st rfl rfl rfl rfl rfl (fun _ _ => rfl) ?_
  refine y_gf rfl rfl rfl rfl rfl ?_
  refine y_st rfl rfl rfl rfl rfl (fun _ _ => rfl) ?_
  show yP (xg xs) (d + 1) 226 15 [(2, .int (m.1 40 l1.toNatClampNeg)), (0, .ref 45), (1, .int l1)] [.int l1, .ref 35] m Q
  refine y_call rfl rfl rfl rfl rfl (Nat.le_of_ble_eq_true rfl) (Nat.le_of_ble_eq_true rfl) rfl (by decide) H (fun v1 m1 H => ?_)
  obtain ⟨u1, rfl, H⟩ := H
  refine y_st rfl rfl rfl rfl rfl (fun _ _ => rfl) ?_
  refine y_st rfl rfl rfl rfl rfl (fun _ _ => rfl) ?_
  refine y_gf rfl rfl rfl rfl rfl ?_
  refine y_st rfl rfl rfl rfl rfl (fun _ _ => rfl) ?_
  refine y_st rfl rfl rfl rfl rfl (fun _ _ => rfl) ?_
  refine y_st rfl rfl rfl rfl rfl (fun _ _ => rfl) ?_
  refine y_st rfl rfl rfl rfl rfl (fun _ _ => rfl) ?_
  refine y_st rfl rfl rfl rfl rfl (fun _ _ => rfl) ?_
  show yP (xg xs) (d + 1) 226 30 [(3, .int u1), (2, .int (m.1 40 l1.toNatClampNeg)), (0, .ref 45), (1, .int l1)] [.long ((-1) : Int64), .int (u1 + (1 : Int32)), .int (0 : Int32), .ref 46] m1 Q
  refine y_call rfl rfl rfl rfl rfl (Nat.le_of_ble_eq_true rfl) (Nat.le_of_ble_eq_true rfl) rfl (by decide) H (fun v2 m2 H => ?_)
  obtain ⟨rfl, H⟩ := H
  refine y_st rfl rfl rfl rfl rfl (fun _ _ => rfl) ?_
  refine y_gf rfl rfl rfl rfl rfl ?_
  refine y_st rfl rfl rfl rfl rfl (fun _ _ => rfl) ?_
  refine y_st rfl rfl rfl rfl rfl (fun _ _ => rfl) ?_
  show yP (xg xs) (d + 1) 226 39 [(3, .int u1), (2, .int (m.1 40 l1.toNatClampNeg)), (0, .ref 45), (1, .int l1)] [.long (0 : Int64), .int (0 : Int32), .ref 46] m2 Q
  refine y_last rfl rfl rfl (by decide) ?_
  refine y_st rfl rfl rfl rfl rfl (fun _ _ => rfl) ?_
  refine y_st rfl rfl rfl rfl rfl (fun _ _ => rfl) ?_
  refine y_pfi rfl rfl rfl rfl rfl (x_fit_i _) ?_
  show yP (xg xs) (d + 1) 226 45 [(3, .int u1), (2, .int (m.1 40 l1.toNatClampNeg)), (0, .ref 45), (1, .int l1)] [] (y_si (y_sl m2 46 0 (0 : Int64)) 45 7 (0 : Int32)) Q
  refine y_st rfl rfl rfl rfl rfl (fun _ _ => rfl) ?_
  refine y_gf rfl rfl rfl rfl rfl ?_
  refine y_st rfl rfl rfl rfl rfl (fun _ _ => rfl) ?_
  refine y_st rfl rfl rfl rfl rfl (fun _ _ => rfl) ?_
  show yP (xg xs) (d + 1) 226 53 [(3, .int u1), (2, .int (m.1 40 l1.toNatClampNeg)), (0, .ref 45), (1, .int l1)] [.long ((-1) : Int64), .int (0 : Int32), .ref 51] (y_si (y_sl m2 46 0 (0 : Int64)) 45 7 (0 : Int32)) Q
  refine y_last rfl rfl rfl (by decide) ?_
  refine y_st rfl rfl rfl rfl rfl (fun _ _ => rfl) ?_
  refine y_st rfl rfl rfl rfl rfl (fun _ _ => rfl) ?_
  show yP (xg xs) (d + 1) 226 57 [(4, .int (0 : Int32)), (3, .int u1), (2, .int (m.1 40 l1.toNatClampNeg)), (0, .ref 45), (1, .int l1)] [] (y_sl (y_si (y_sl m2 46 0 (0 : Int64)) 45 7 (0 : Int32)) 51 0 ((-1) : Int64)) Q
  refine y_headS (l2 := [(0, .ref 45), (2, .int (m.1 40 l1.toNatClampNeg)), (3, .int u1), (4, .int (0 : Int32))]) [3, 2, 1, 0] [0, 2, 3, 4] [4, 3, 2, 0, 1] rfl rfl (by decide) rfl (by decide) ?_
  exact H
set_option maxRecDepth 20000 in
/-- CodeMaker.Measure.boundOf from 57 on -/
theorem w226_57 (xs : List Int32) (d : Nat) (l2 : Int32) (l3 : Int32) (l4 : Int32) (m : yM) (Q : Option Value → yM → Prop) (H : ((l3 ≤ l4 → (x_in l3 3001 = true ∧ Q (some (.long (if (m.2 51 0) < (m.2 46 l3.toNatClampNeg) then (m.2 46 l3.toNatClampNeg) else (m.2 51 0)))) m)) ∧ (¬ l3 ≤ l4 → (x_in (l2 + l4) 3000 = true ∧ ((¬ (m.1 36 ((l2 + l4).toNatClampNeg)) = (13 : Int32) → ((¬ (m.1 36 ((l2 + l4).toNatClampNeg)) = (14 : Int32) → (x_in l4 3001 = true ∧ (((lg_cmp (m.2 46 l4.toNatClampNeg) ((-1) : Int64)) = 0 → yP (xg xs) (d + 1) 226 178 [(0, .ref 45), (2, .int l2), (3, .int l3), (4, .int l4)] [] m Q) ∧ (¬ (lg_cmp (m.2 46 l4.toNatClampNeg) ((-1) : Int64)) = 0 → (x_in (l2 + l4) 3000 = true ∧ (yC (xg xs) d 229 [.ref 45, .int l4, .int (m.1 36 ((l2 + l4).toNatClampNeg)), .int (m.1 37 ((l2 + l4).toNatClampNeg))] m (fun v1 m1 => v1 = none ∧ yP (xg xs) (d + 1) 226 178 [(0, .ref 45), (2, .int l2), (3, .int l3), (4, .int l4)] [] m1 Q))))))) ∧ ((m.1 36 ((l2 + l4).toNatClampNeg)) = (14 : Int32) → (x_in l4 3001 = true ∧ (yC (xg xs) d 228 [.ref 45, .long (m.2 46 l4.toNatClampNeg)] m (fun v2 m2 => v2 = none ∧ yP (xg xs) (d + 1) 226 178 [(0, .ref 45), (2, .int l2), (3, .int l3), (4, .int l4)] [] m2 Q)))))) ∧ ((m.1 36 ((l2 + l4).toNatClampNeg)) = (13 : Int32) → (x_in (l2 + l4) 3000 = true ∧ (x_in (if (0 : Int32) < ((l2 + l4) - (1 : Int32)) then ((l2 + l4) - (1 : Int32)) else (0 : Int32)) 3000 = true ∧ (yC (xg xs) d 227 [.ref 45, .int l4, .int (m.1 38 ((l2 + l4).toNatClampNeg)), .int (m.1 38 ((if (0 : Int32) < ((l2 + l4) - (1 : Int32)) then ((l2 + l4) - (1 : Int32)) else (0 : Int32)).toNatClampNeg))] m (fun v3 m3 => v3 = none ∧ yP (xg xs) (d + 1) 226 178 [(0, .ref 45), (2, .int l2), (3, .int l3), (4, .int l4)] [] m3 Q)))))))))) : yP (xg xs) (d + 1) 226 57 [(0, .ref 45), (2, .int l2), (3, .int l3), (4, .int l4)] [] m Q := by
  refine y_st rfl rfl rfl rfl rfl (fun _ _ => rfl) ?_
  refine y_st rfl rfl rfl rfl rfl (fun _ _ => rfl) ?_
  show yP (xg xs) (d + 1) 226 60 [(0, .ref 45), (2, .int l2), (3, .int l3), (4, .int l4)] [.int l3, .int l4] m Q
  refine y_ige (t := 184) rfl rfl rfl (fun h => ?_) (fun h => ?_)
  · replace H := H.1 h; clear h
    refine y_st rfl rfl rfl rfl rfl (fun _ _ => rfl) ?_
    refine y_gf rfl rfl rfl rfl rfl ?_
    refine y_st rfl rfl rfl rfl rfl (fun _ _ => rfl) ?_
    show yP (xg xs) (d + 1) 226 189 [(0, .ref 45), (2, .int l2), (3, .int l3), (4, .int l4)] [.int l3, .ref 46] m Q
    refine y_lald rfl rfl rfl (H.1) ?_
    replace H := H.2
    refine y_st rfl rfl rfl rfl rfl (fun _ _ => rfl) ?_
    refine y_gf rfl rfl rfl rfl rfl ?_
    refine y_st rfl rfl rfl rfl rfl (fun _ _ => rfl) ?_
    show yP (xg xs) (d + 1) 226 195 [(0, .ref 45), (2, .int l2), (3, .int l3), (4, .int l4)] [.int (0 : Int32), .ref 51, .long (m.2 46 l3.toNatClampNeg)] m Q
    refine y_lald rfl rfl rfl (by decide) ?_
    refine y_mi rfl rfl rfl rfl rfl (Nat.le_of_ble_eq_true rfl) (by omega) ?_
    show yP (xg xs) (d + 1) 226 199 [(0, .ref 45), (2, .int l2), (3, .int l3), (4, .int l4)] [.long (if (m.2 51 0) < (m.2 46 l3.toNatClampNeg) then (m.2 46 l3.toNatClampNeg) else (m.2 51 0))] m Q
    exact y_ret rfl rfl rfl rfl H
  · replace H := H.2 h; clear h
    refine y_st rfl rfl rfl rfl rfl (fun _ _ => rfl) ?_
    refine y_gf rfl rfl rfl rfl rfl ?_
    refine y_gf rfl rfl rfl rfl rfl ?_
    refine y_st rfl rfl rfl rfl rfl (fun _ _ => rfl) ?_
    refine y_st rfl rfl rfl rfl rfl (fun _ _ => rfl) ?_
    refine y_st rfl rfl rfl rfl rfl (fun _ _ => rfl) ?_
    show yP (xg xs) (d + 1) 226 74 [(0, .ref 45), (2, .int l2), (3, .int l3), (4, .int l4)] [.int (l2 + l4), .ref 36] m Q
    refine y_iald rfl rfl rfl (H.1) ?_
    replace H := H.2
    refine y_st rfl rfl rfl rfl rfl (fun _ _ => rfl) ?_
    refine y_st rfl rfl rfl rfl rfl (fun _ _ => rfl) ?_
    refine y_st rfl rfl rfl rfl rfl (fun _ _ => rfl) ?_
    show yP (xg xs) (d + 1) 226 81 [(5, .int (m.1 36 ((l2 + l4).toNatClampNeg))), (0, .ref 45), (2, .int l2), (3, .int l3), (4, .int l4)] [.int (13 : Int32), .int (m.1 36 ((l2 + l4).toNatClampNeg))] m Q
    refine y_ine (t := 123) rfl rfl rfl (fun h => ?_) (fun h => ?_)
    · replace H := H.1 h; clear h
      refine y_st rfl rfl rfl rfl rfl (fun _ _ => rfl) ?_
      refine y_st rfl rfl rfl rfl rfl (fun _ _ => rfl) ?_
      show yP (xg xs) (d + 1) 226 127 [(5, .int (m.1 36 ((l2 + l4).toNatClampNeg))), (0, .ref 45), (2, .int l2), (3, .int l3), (4, .int l4)] [.int (14 : Int32), .int (m.1 36 ((l2 + l4).toNatClampNeg))] m Q
      refine y_ine (t := 144) rfl rfl rfl (fun h => ?_) (fun h => ?_)
      · replace H := H.1 h; clear h
        refine y_st rfl rfl rfl rfl rfl (fun _ _ => rfl) ?_
        refine y_gf rfl rfl rfl rfl rfl ?_
        refine y_st rfl rfl rfl rfl rfl (fun _ _ => rfl) ?_
        show yP (xg xs) (d + 1) 226 150 [(5, .int (m.1 36 ((l2 + l4).toNatClampNeg))), (0, .ref 45), (2, .int l2), (3, .int l3), (4, .int l4)] [.int l4, .ref 46] m Q
        refine y_lald rfl rfl rfl (H.1) ?_
        replace H := H.2
        refine y_st rfl rfl rfl rfl rfl (fun _ _ => rfl) ?_
        refine y_st rfl rfl rfl rfl rfl (fun _ _ => rfl) ?_
        show yP (xg xs) (d + 1) 226 155 [(5, .int (m.1 36 ((l2 + l4).toNatClampNeg))), (0, .ref 45), (2, .int l2), (3, .int l3), (4, .int l4)] [.int (lg_cmp (m.2 46 l4.toNatClampNeg) ((-1) : Int64))] m Q
        refine y_zeq (t := 178) rfl rfl rfl (fun h => ?_) (fun h => ?_)
        · replace H := H.1 h; clear h
          show yP (xg xs) (d + 1) 226 178 [(5, .int (m.1 36 ((l2 + l4).toNatClampNeg))), (0, .ref 45), (2, .int l2), (3, .int l3), (4, .int l4)] [] m Q
          refine y_headS (l2 := [(0, .ref 45), (2, .int l2), (3, .int l3), (4, .int l4)]) [1, 2, 3, 4] [0, 2, 3, 4] [5, 0, 2, 3, 4] rfl rfl (by decide) rfl (by decide) ?_
          exact H
        · replace H := H.2 h; clear h
          refine y_st rfl rfl rfl rfl rfl (fun _ _ => rfl) ?_
          refine y_st rfl rfl rfl rfl rfl (fun _ _ => rfl) ?_
          refine y_st rfl rfl rfl rfl rfl (fun _ _ => rfl) ?_
          refine y_st rfl rfl rfl rfl rfl (fun _ _ => rfl) ?_
          refine y_gf rfl rfl rfl rfl rfl ?_
          refine y_gf rfl rfl rfl rfl rfl ?_
          refine y_st rfl rfl rfl rfl rfl (fun _ _ => rfl) ?_
          refine y_st rfl rfl rfl rfl rfl (fun _ _ => rfl) ?_
          refine y_st rfl rfl rfl rfl rfl (fun _ _ => rfl) ?_
          show yP (xg xs) (d + 1) 226 174 [(5, .int (m.1 36 ((l2 + l4).toNatClampNeg))), (0, .ref 45), (2, .int l2), (3, .int l3), (4, .int l4)] [.int (l2 + l4), .ref 37, .int (m.1 36 ((l2 + l4).toNatClampNeg)), .int l4, .ref 45] m Q
          refine y_iald rfl rfl rfl (H.1) ?_
          replace H := H.2
          show yP (xg xs) (d + 1) 226 175 [(5, .int (m.1 36 ((l2 + l4).toNatClampNeg))), (0, .ref 45), (2, .int l2), (3, .int l3), (4, .int l4)] [.int (m.1 37 ((l2 + l4).toNatClampNeg)), .int (m.1 36 ((l2 + l4).toNatClampNeg)), .int l4, .ref 45] m Q
          refine y_call rfl rfl rfl rfl rfl (Nat.le_of_ble_eq_true rfl) (Nat.le_of_ble_eq_true rfl) rfl (by decide) H (fun v1 m1 H => ?_)
          obtain ⟨rfl, H⟩ := H
          show yP (xg xs) (d + 1) 226 178 [(5, .int (m.1 36 ((l2 + l4).toNatClampNeg))), (0, .ref 45), (2, .int l2), (3, .int l3), (4, .int l4)] [] m1 Q
          refine y_headS (l2 := [(0, .ref 45), (2, .int l2), (3, .int l3), (4, .int l4)]) [1, 2, 3, 4] [0, 2, 3, 4] [5, 0, 2, 3, 4] rfl rfl (by decide) rfl (by decide) ?_
          exact H
      · replace H := H.2 h; clear h
        refine y_st rfl rfl rfl rfl rfl (fun _ _ => rfl) ?_
        refine y_st rfl rfl rfl rfl rfl (fun _ _ => rfl) ?_
        refine y_gf rfl rfl rfl rfl rfl ?_
        refine y_st rfl rfl rfl rfl rfl (fun _ _ => rfl) ?_
        show yP (xg xs) (d + 1) 226 137 [(5, .int (m.1 36 ((l2 + l4).toNatClampNeg))), (0, .ref 45), (2, .int l2), (3, .int l3), (4, .int l4)] [.int l4, .ref 46, .ref 45] m Q
        refine y_lald rfl rfl rfl (H.1) ?_
        replace H := H.2
        show yP (xg xs) (d + 1) 226 138 [(5, .int (m.1 36 ((l2 + l4).toNatClampNeg))), (0, .ref 45), (2, .int l2), (3, .int l3), (4, .int l4)] [.long (m.2 46 l4.toNatClampNeg), .ref 45] m Q
        refine y_call rfl rfl rfl rfl rfl (Nat.le_of_ble_eq_true rfl) (Nat.le_of_ble_eq_true rfl) rfl (by decide) H (fun v2 m2 H => ?_)
        obtain ⟨rfl, H⟩ := H
        refine y_st rfl rfl rfl rfl rfl (fun _ _ => rfl) ?_
        show yP (xg xs) (d + 1) 226 178 [(5, .int (m.1 36 ((l2 + l4).toNatClampNeg))), (0, .ref 45), (2, .int l2), (3, .int l3), (4, .int l4)] [] m2 Q
        refine y_headS (l2 := [(0, .ref 45), (2, .int l2), (3, .int l3), (4, .int l4)]) [1, 2, 3, 4] [0, 2, 3, 4] [5, 0, 2, 3, 4] rfl rfl (by decide) rfl (by decide) ?_
        exact H
    · replace H := H.2 h; clear h
      refine y_st rfl rfl rfl rfl rfl (fun _ _ => rfl) ?_
      refine y_st rfl rfl rfl rfl rfl (fun _ _ => rfl) ?_
      refine y_st rfl rfl rfl rfl rfl (fun _ _ => rfl) ?_
      refine y_gf rfl rfl rfl rfl rfl ?_
      refine y_gf rfl rfl rfl rfl rfl ?_
      refine y_st rfl rfl rfl rfl rfl (fun _ _ => rfl) ?_
      refine y_st rfl rfl rfl rfl rfl (fun _ _ => rfl) ?_
      refine y_st rfl rfl rfl rfl rfl (fun _ _ => rfl) ?_
      show yP (xg xs) (d + 1) 226 98 [(5, .int (m.1 36 ((l2 + l4).toNatClampNeg))), (0, .ref 45), (2, .int l2), (3, .int l3), (4, .int l4)] [.int (l2 + l4), .ref 38, .int l4, .ref 45] m Q
      refine y_iald rfl rfl rfl (H.1) ?_
      replace H := H.2
      refine y_st rfl rfl rfl rfl rfl (fun _ _ => rfl) ?_
      refine y_gf rfl rfl rfl rfl rfl ?_
      refine y_gf rfl rfl rfl rfl rfl ?_
      refine y_st rfl rfl rfl rfl rfl (fun _ _ => rfl) ?_
      refine y_st rfl rfl rfl rfl rfl (fun _ _ => rfl) ?_
      refine y_st rfl rfl rfl rfl rfl (fun _ _ => rfl) ?_
      refine y_st rfl rfl rfl rfl rfl (fun _ _ => rfl) ?_
      refine y_st rfl rfl rfl rfl rfl (fun _ _ => rfl) ?_
      refine y_st rfl rfl rfl rfl rfl (fun _ _ => rfl) ?_
      refine y_mi rfl rfl rfl rfl rfl (Nat.le_of_ble_eq_true rfl) (by omega) ?_
      show yP (xg xs) (d + 1) 226 116 [(5, .int (m.1 36 ((l2 + l4).toNatClampNeg))), (0, .ref 45), (2, .int l2), (3, .int l3), (4, .int l4)] [.int (if (0 : Int32) < ((l2 + l4) - (1 : Int32)) then ((l2 + l4) - (1 : Int32)) else (0 : Int32)), .ref 38, .int (m.1 38 ((l2 + l4).toNatClampNeg)), .int l4, .ref 45] m Q
      refine y_iald rfl rfl rfl (H.1) ?_
      replace H := H.2
      show yP (xg xs) (d + 1) 226 117 [(5, .int (m.1 36 ((l2 + l4).toNatClampNeg))), (0, .ref 45), (2, .int l2), (3, .int l3), (4, .int l4)] [.int (m.1 38 ((if (0 : Int32) < ((l2 + l4) - (1 : Int32)) then ((l2 + l4) - (1 : Int32)) else (0 : Int32)).toNatClampNeg)), .int (m.1 38 ((l2 + l4).toNatClampNeg)), .int l4, .ref 45] m Q
      refine y_call rfl rfl rfl rfl rfl (Nat.le_of_ble_eq_true rfl) (Nat.le_of_ble_eq_true rfl) rfl (by decide) H (fun v3 m3 H => ?_)
      obtain ⟨rfl, H⟩ := H
      refine y_st rfl rfl rfl rfl rfl (fun _ _ => rfl) ?_
      show yP (xg xs) (d + 1) 226 178 [(5, .int (m.1 36 ((l2 + l4).toNatClampNeg))), (0, .ref 45), (2, .int l2), (3, .int l3), (4, .int l4)] [] m3 Q
      refine y_headS (l2 := [(0, .ref 45), (2, .int l2), (3, .int l3), (4, .int l4)]) [1, 2, 3, 4] [0, 2, 3, 4] [5, 0, 2, 3, 4] rfl rfl (by decide) rfl (by decide) ?_
      exact H
set_option maxRecDepth 20000 in
/-- CodeMaker.Measure.boundOf from 178 on -/
theorem w226_178 (xs : List Int32) (d : Nat) (l2 : Int32) (l3 : Int32) (l4 : Int32) (m : yM) (Q : Option Value → yM → Prop) (H : yP (xg xs) (d + 1) 226 57 [(0, .ref 45), (2, .int l2), (3, .int l3), (4, .int (l4 + (1 : Int32)))] [] m Q) : yP (xg xs) (d + 1) 226 178 [(0, .ref 45), (2, .int l2), (3, .int l3), (4, .int l4)] [] m Q := by
  refine y_st rfl rfl rfl rfl rfl (fun _ _ => rfl) ?_
  refine y_st rfl rfl rfl rfl rfl (fun _ _ => rfl) ?_
  show yP (xg xs) (d + 1) 226 57 [(4, .int (l4 + (1 : Int32))), (0, .ref 45), (2, .int l2), (3, .int l3)] [] m Q
  refine y_headS (l2 := [(0, .ref 45), (2, .int l2), (3, .int l3), (4, .int (l4 + (1 : Int32)))]) [1, 2, 3, 0] [0, 2, 3, 4] [4, 0, 2, 3] rfl rfl (by decide) rfl (by decide) ?_
  exact H
set_option maxRecDepth 20000 in
/-- CodeMaker.Measure.beginLoop from 0 on -/
theorem w227_0 (xs : List Int32) (d : Nat) (l1 : Int32) (l2 : Int32) (l3 : Int32) (m : yM) (Q : Option Value → yM → Prop) (H : (x_in l1 3001 = true ∧ (x_in (if (61 : Int32) < ((m.1 45 7) + (1 : Int32)) then (61 : Int32) else ((m.1 45 7) + (1 : Int32))) 62 = true ∧ (x_in (if (61 : Int32) < ((m.1 45 7) + (1 : Int32)) then (61 : Int32) else ((m.1 45 7) + (1 : Int32))) 62 = true ∧ (x_in (if (61 : Int32) < ((m.1 45 7) + (1 : Int32)) then (61 : Int32) else ((m.1 45 7) + (1 : Int32))) 62 = true ∧ (x_in (if (61 : Int32) < ((m.1 45 7) + (1 : Int32)) then (61 : Int32) else ((m.1 45 7) + (1 : Int32))) 62 = true ∧ (x_in (if (61 : Int32) < ((m.1 45 7) + (1 : Int32)) then (61 : Int32) else ((m.1 45 7) + (1 : Int32))) 62 = true ∧ (x_in l1 3001 = true ∧ (((lg_cmp (m.2 46 l1.toNatClampNeg) ((-1) : Int64)) = 0 → Q none (y_sl (y_sl (y_si (y_si (y_sl (y_si m 45 7 (if (61 : Int32) < ((m.1 45 7) + (1 : Int32)) then (61 : Int32) else ((m.1 45 7) + (1 : Int32)))) 47 ((if (61 : Int32) < ((m.1 45 7) + (1 : Int32)) then (61 : Int32) else ((m.1 45 7) + (1 : Int32))).toNatClampNeg) (m.2 46 l1.toNatClampNeg)) 48 ((if (61 : Int32) < ((m.1 45 7) + (1 : Int32)) then (61 : Int32) else ((m.1 45 7) + (1 : Int32))).toNatClampNeg) l2) 49 ((if (61 : Int32) < ((m.1 45 7) + (1 : Int32)) then (61 : Int32) else ((m.1 45 7) + (1 : Int32))).toNatClampNeg) l3) 50 ((if (61 : Int32) < ((m.1 45 7) + (1 : Int32)) then (61 : Int32) else ((m.1 45 7) + (1 : Int32))).toNatClampNeg) ((-1) : Int64)) 51 ((if (61 : Int32) < ((m.1 45 7) + (1 : Int32)) then (61 : Int32) else ((m.1 45 7) + (1 : Int32))).toNatClampNeg) ((-1) : Int64))) ∧ (¬ (lg_cmp (m.2 46 l1.toNatClampNeg) ((-1) : Int64)) = 0 → (yC (xg xs) d 224 [.ref 45, .int (l1 + (1 : Int32)), .long (1 : Int64)] (y_sl (y_sl (y_si (y_si (y_sl (y_si m 45 7 (if (61 : Int32) < ((m.1 45 7) + (1 : Int32)) then (61 : Int32) else ((m.1 45 7) + (1 : Int32)))) 47 ((if (61 : Int32) < ((m.1 45 7) + (1 : Int32)) then (61 : Int32) else ((m.1 45 7) + (1 : Int32))).toNatClampNeg) (m.2 46 l1.toNatClampNeg)) 48 ((if (61 : Int32) < ((m.1 45 7) + (1 : Int32)) then (61 : Int32) else ((m.1 45 7) + (1 : Int32))).toNatClampNeg) l2) 49 ((if (61 : Int32) < ((m.1 45 7) + (1 : Int32)) then (61 : Int32) else ((m.1 45 7) + (1 : Int32))).toNatClampNeg) l3) 50 ((if (61 : Int32) < ((m.1 45 7) + (1 : Int32)) then (61 : Int32) else ((m.1 45 7) + (1 : Int32))).toNatClampNeg) ((-1) : Int64)) 51 ((if (61 : Int32) < ((m.1 45 7) + (1 : Int32)) then (61 : Int32) else ((m.1 45 7) + (1 : Int32))).toNatClampNeg) ((-1) : Int64)) (fun v1 m1 => v1 = none ∧ Q none m1)))))))))))) : yP (xg xs) (d + 1) 227 0 [(0, .ref 45), (1, .int l1), (2, .int l2), (3, .int l3)] [] m Q := by
  refine y_st rfl rfl rfl rfl rfl (fun _ _ => rfl) ?_
  refine y_st rfl rfl rfl rfl rfl (fun _ _ => rfl) ?_
  refine y_gf rfl rfl rfl rfl rfl ?_
  refine y_st rfl rfl rfl rfl rfl (fun _ _ => rfl) ?_
  refine y_st rfl rfl rfl rfl rfl (fun _ _ => rfl) ?_
  refine y_st rfl rfl rfl rfl rfl (fun _ _ => rfl) ?_
  refine y_mi rfl rfl rfl rfl rfl (Nat.le_of_ble_eq_true rfl) (by omega) ?_
  refine y_pfi rfl rfl rfl rfl rfl (x_fit_i _) ?_
  show yP (xg xs) (d + 1) 227 15 [(0, .ref 45), (1, .int l1), (2, .int l2), (3, .int l3)] [] (y_si m 45 7 (if (61 : Int32) < ((m.1 45 7) + (1 : Int32)) then (61 : Int32) else ((m.1 45 7) + (1 : Int32)))) Q
  refine y_st rfl rfl rfl rfl rfl (fun _ _ => rfl) ?_
  refine y_gf rfl rfl rfl rfl rfl ?_
  refine y_st rfl rfl rfl rfl rfl (fun _ _ => rfl) ?_
  refine y_gf rfl rfl rfl rfl rfl ?_
  refine y_st rfl rfl rfl rfl rfl (fun _ _ => rfl) ?_
  refine y_gf rfl rfl rfl rfl rfl ?_
  refine y_st rfl rfl rfl rfl rfl (fun _ _ => rfl) ?_
  show yP (xg xs) (d + 1) 227 28 [(0, .ref 45), (1, .int l1), (2, .int l2), (3, .int l3)] [.int l1, .ref 46, .int (if (61 : Int32) < ((m.1 45 7) + (1 : Int32)) then (61 : Int32) else ((m.1 45 7) + (1 : Int32))), .ref 47] (y_si m 45 7 (if (61 : Int32) < ((m.1 45 7) + (1 : Int32)) then (61 : Int32) else ((m.1 45 7) + (1 : Int32)))) Q
  refine y_lald rfl rfl rfl (H.1) ?_
  replace H := H.2
  show yP (xg xs) (d + 1) 227 29 [(0, .ref 45), (1, .int l1), (2, .int l2), (3, .int l3)] [.long (m.2 46 l1.toNatClampNeg), .int (if (61 : Int32) < ((m.1 45 7) + (1 : Int32)) then (61 : Int32) else ((m.1 45 7) + (1 : Int32))), .ref 47] (y_si m 45 7 (if (61 : Int32) < ((m.1 45 7) + (1 : Int32)) then (61 : Int32) else ((m.1 45 7) + (1 : Int32)))) Q
  refine y_last rfl rfl rfl (H.1) ?_
  replace H := H.2
  refine y_st rfl rfl rfl rfl rfl (fun _ _ => rfl) ?_
  refine y_gf rfl rfl rfl rfl rfl ?_
  refine y_st rfl rfl rfl rfl rfl (fun _ _ => rfl) ?_
  refine y_gf rfl rfl rfl rfl rfl ?_
  refine y_st rfl rfl rfl rfl rfl (fun _ _ => rfl) ?_
  show yP (xg xs) (d + 1) 227 39 [(0, .ref 45), (1, .int l1), (2, .int l2), (3, .int l3)] [.int l2, .int (if (61 : Int32) < ((m.1 45 7) + (1 : Int32)) then (61 : Int32) else ((m.1 45 7) + (1 : Int32))), .ref 48] (y_sl (y_si m 45 7 (if (61 : Int32) < ((m.1 45 7) + (1 : Int32)) then (61 : Int32) else ((m.1 45 7) + (1 : Int32)))) 47 ((if (61 : Int32) < ((m.1 45 7) + (1 : Int32)) then (61 : Int32) else ((m.1 45 7) + (1 : Int32))).toNatClampNeg) (m.2 46 l1.toNatClampNeg)) Q
  refine y_iast rfl rfl rfl (H.1) ?_
  replace H := H.2
  refine y_st rfl rfl rfl rfl rfl (fun _ _ => rfl) ?_
  refine y_gf rfl rfl rfl rfl rfl ?_
  refine y_st rfl rfl rfl rfl rfl (fun _ _ => rfl) ?_
  refine y_gf rfl rfl rfl rfl rfl ?_
  refine y_st rfl rfl rfl rfl rfl (fun _ _ => rfl) ?_
  show yP (xg xs) (d + 1) 227 49 [(0, .ref 45), (1, .int l1), (2, .int l2), (3, .int l3)] [.int l3, .int (if (61 : Int32) < ((m.1 45 7) + (1 : Int32)) then (61 : Int32) else ((m.1 45 7) + (1 : Int32))), .ref 49] (y_si (y_sl (y_si m 45 7 (if (61 : Int32) < ((m.1 45 7) + (1 : Int32)) then (61 : Int32) else ((m.1 45 7) + (1 : Int32)))) 47 ((if (61 : Int32) < ((m.1 45 7) + (1 : Int32)) then (61 : Int32) else ((m.1 45 7) + (1 : Int32))).toNatClampNeg) (m.2 46 l1.toNatClampNeg)) 48 ((if (61 : Int32) < ((m.1 45 7) + (1 : Int32)) then (61 : Int32) else ((m.1 45 7) + (1 : Int32))).toNatClampNeg) l2) Q
  refine y_iast rfl rfl rfl (H.1) ?_
  replace H := H.2
  refine y_st rfl rfl rfl rfl rfl (fun _ _ => rfl) ?_
  refine y_gf rfl rfl rfl rfl rfl ?_
  refine y_st rfl rfl rfl rfl rfl (fun _ _ => rfl) ?_
  refine y_gf rfl rfl rfl rfl rfl ?_
  refine y_st rfl rfl rfl rfl rfl (fun _ _ => rfl) ?_
  show yP (xg xs) (d + 1) 227 61 [(0, .ref 45), (1, .int l1), (2, .int l2), (3, .int l3)] [.long ((-1) : Int64), .int (if (61 : Int32) < ((m.1 45 7) + (1 : Int32)) then (61 : Int32) else ((m.1 45 7) + (1 : Int32))), .ref 50] (y_si (y_si (y_sl (y_si m 45 7 (if (61 : Int32) < ((m.1 45 7) + (1 : Int32)) then (61 : Int32) else ((m.1 45 7) + (1 : Int32)))) 47 ((if (61 : Int32) < ((m.1 45 7) + (1 : Int32)) then (61 : Int32) else ((m.1 45 7) + (1 : Int32))).toNatClampNeg) (m.2 46 l1.toNatClampNeg)) 48 ((if (61 : Int32) < ((m.1 45 7) + (1 : Int32)) then (61 : Int32) else ((m.1 45 7) + (1 : Int32))).toNatClampNeg) l2) 49 ((if (61 : Int32) < ((m.1 45 7) + (1 : Int32)) then (61 : Int32) else ((m.1 45 7) + (1 : Int32))).toNatClampNeg) l3) Q
  refine y_last rfl rfl rfl (H.1) ?_
  replace H := H.2
  refine y_st rfl rfl rfl rfl rfl (fun _ _ => rfl) ?_
  refine y_gf rfl rfl rfl rfl rfl ?_
  refine y_st rfl rfl rfl rfl rfl (fun _ _ => rfl) ?_
  refine y_gf rfl rfl rfl rfl rfl ?_
  refine y_st rfl rfl rfl rfl rfl (fun _ _ => rfl) ?_
  show yP (xg xs) (d + 1) 227 73 [(0, .ref 45), (1, .int l1), (2, .int l2), (3, .int l3)] [.long ((-1) : Int64), .int (if (61 : Int32) < ((m.1 45 7) + (1 : Int32)) then (61 : Int32) else ((m.1 45 7) + (1 : Int32))), .ref 51] (y_sl (y_si (y_si (y_sl (y_si m 45 7 (if (61 : Int32) < ((m.1 45 7) + (1 : Int32)) then (61 : Int32) else ((m.1 45 7) + (1 : Int32)))) 47 ((if (61 : Int32) < ((m.1 45 7) + (1 : Int32)) then (61 : Int32) else ((m.1 45 7) + (1 : Int32))).toNatClampNeg) (m.2 46 l1.toNatClampNeg)) 48 ((if (61 : Int32) < ((m.1 45 7) + (1 : Int32)) then (61 : Int32) else ((m.1 45 7) + (1 : Int32))).toNatClampNeg) l2) 49 ((if (61 : Int32) < ((m.1 45 7) + (1 : Int32)) then (61 : Int32) else ((m.1 45 7) + (1 : Int32))).toNatClampNeg) l3) 50 ((if (61 : Int32) < ((m.1 45 7) + (1 : Int32)) then (61 : Int32) else ((m.1 45 7) + (1 : Int32))).toNatClampNeg) ((-1) : Int64)) Q
  refine y_last rfl rfl rfl (H.1) ?_
  replace H := H.2
  refine y_st rfl rfl rfl rfl rfl (fun _ _ => rfl) ?_
  refine y_gf rfl rfl rfl rfl rfl ?_
  refine y_st rfl rfl rfl rfl rfl (fun _ _ => rfl) ?_
  show yP (xg xs) (d + 1) 227 79 [(0, .ref 45), (1, .int l1), (2, .int l2), (3, .int l3)] [.int l1, .ref 46] (y_sl (y_sl (y_si (y_si (y_sl (y_si m 45 7 (if (61 : Int32) < ((m.1 45 7) + (1 : Int32)) then (61 : Int32) else ((m.1 45 7) + (1 : Int32)))) 47 ((if (61 : Int32) < ((m.1 45 7) + (1 : Int32)) then (61 : Int32) else ((m.1 45 7) + (1 : Int32))).toNatClampNeg) (m.2 46 l1.toNatClampNeg)) 48 ((if (61 : Int32) < ((m.1 45 7) + (1 : Int32)) then (61 : Int32) else ((m.1 45 7) + (1 : Int32))).toNatClampNeg) l2) 49 ((if (61 : Int32) < ((m.1 45 7) + (1 : Int32)) then (61 : Int32) else ((m.1 45 7) + (1 : Int32))).toNatClampNeg) l3) 50 ((if (61 : Int32) < ((m.1 45 7) + (1 : Int32)) then (61 : Int32) else ((m.1 45 7) + (1 : Int32))).toNatClampNeg) ((-1) : Int64)) 51 ((if (61 : Int32) < ((m.1 45 7) + (1 : Int32)) then (61 : Int32) else ((m.1 45 7) + (1 : Int32))).toNatClampNeg) ((-1) : Int64)) Q
  refine y_lald rfl rfl rfl (H.1) ?_
  replace H := H.2
  refine y_st rfl rfl rfl rfl rfl (fun _ _ => rfl) ?_
  refine y_st rfl rfl rfl rfl rfl (fun _ _ => rfl) ?_
  show yP (xg xs) (d + 1) 227 84 [(0, .ref 45), (1, .int l1), (2, .int l2), (3, .int l3)] [.int (lg_cmp (m.2 46 l1.toNatClampNeg) ((-1) : Int64))] (y_sl (y_sl (y_si (y_si (y_sl (y_si m 45 7 (if (61 : Int32) < ((m.1 45 7) + (1 : Int32)) then (61 : Int32) else ((m.1 45 7) + (1 : Int32)))) 47 ((if (61 : Int32) < ((m.1 45 7) + (1 : Int32)) then (61 : Int32) else ((m.1 45 7) + (1 : Int32))).toNatClampNeg) (m.2 46 l1.toNatClampNeg)) 48 ((if (61 : Int32) < ((m.1 45 7) + (1 : Int32)) then (61 : Int32) else ((m.1 45 7) + (1 : Int32))).toNatClampNeg) l2) 49 ((if (61 : Int32) < ((m.1 45 7) + (1 : Int32)) then (61 : Int32) else ((m.1 45 7) + (1 : Int32))).toNatClampNeg) l3) 50 ((if (61 : Int32) < ((m.1 45 7) + (1 : Int32)) then (61 : Int32) else ((m.1 45 7) + (1 : Int32))).toNatClampNeg) ((-1) : Int64)) 51 ((if (61 : Int32) < ((m.1 45 7) + (1 : Int32)) then (61 : Int32) else ((m.1 45 7) + (1 : Int32))).toNatClampNeg) ((-1) : Int64)) Q
  refine y_zeq (t := 95) rfl rfl rfl (fun h => ?_) (fun h => ?_)
  · replace H := H.1 h; clear h
    show yP (xg xs) (d + 1) 227 95 [(0, .ref 45), (1, .int l1), (2, .int l2), (3, .int l3)] [] (y_sl (y_sl (y_si (y_si (y_sl (y_si m 45 7 (if (61 : Int32) < ((m.1 45 7) + (1 : Int32)) then (61 : Int32) else ((m.1 45 7) + (1 : Int32)))) 47 ((if (61 : Int32) < ((m.1 45 7) + (1 : Int32)) then (61 : Int32) else ((m.1 45 7) + (1 : Int32))).toNatClampNeg) (m.2 46 l1.toNatClampNeg)) 48 ((if (61 : Int32) < ((m.1 45 7) + (1 : Int32)) then (61 : Int32) else ((m.1 45 7) + (1 : Int32))).toNatClampNeg) l2) 49 ((if (61 : Int32) < ((m.1 45 7) + (1 : Int32)) then (61 : Int32) else ((m.1 45 7) + (1 : Int32))).toNatClampNeg) l3) 50 ((if (61 : Int32) < ((m.1 45 7) + (1 : Int32)) then (61 : Int32) else ((m.1 45 7) + (1 : Int32))).toNatClampNeg) ((-1) : Int64)) 51 ((if (61 : Int32) < ((m.1 45 7) + (1 : Int32)) then (61 : Int32) else ((m.1 45 7) + (1 : Int32))).toNatClampNeg) ((-1) : Int64)) Q
    exact y_ret rfl rfl rfl rfl H
  · replace H := H.2 h; clear h
    refine y_st rfl rfl rfl rfl rfl (fun _ _ => rfl) ?_
    refine y_st rfl rfl rfl rfl rfl (fun _ _ => rfl) ?_
    refine y_st rfl rfl rfl rfl rfl (fun _ _ => rfl) ?_
    refine y_st rfl rfl rfl rfl rfl (fun _ _ => rfl) ?_
    refine y_st rfl rfl rfl rfl rfl (fun _ _ => rfl) ?_
    show yP (xg xs) (d + 1) 227 92 [(0, .ref 45), (1, .int l1), (2, .int l2), (3, .int l3)] [.long (1 : Int64), .int (l1 + (1 : Int32)), .ref 45] (y_sl (y_sl (y_si (y_si (y_sl (y_si m 45 7 (if (61 : Int32) < ((m.1 45 7) + (1 : Int32)) then (61 : Int32) else ((m.1 45 7) + (1 : Int32)))) 47 ((if (61 : Int32) < ((m.1 45 7) + (1 : Int32)) then (61 : Int32) else ((m.1 45 7) + (1 : Int32))).toNatClampNeg) (m.2 46 l1.toNatClampNeg)) 48 ((if (61 : Int32) < ((m.1 45 7) + (1 : Int32)) then (61 : Int32) else ((m.1 45 7) + (1 : Int32))).toNatClampNeg) l2) 49 ((if (61 : Int32) < ((m.1 45 7) + (1 : Int32)) then (61 : Int32) else ((m.1 45 7) + (1 : Int32))).toNatClampNeg) l3) 50 ((if (61 : Int32) < ((m.1 45 7) + (1 : Int32)) then (61 : Int32) else ((m.1 45 7) + (1 : Int32))).toNatClampNeg) ((-1) : Int64)) 51 ((if (61 : Int32) < ((m.1 45 7) + (1 : Int32)) then (61 : Int32) else ((m.1 45 7) + (1 : Int32))).toNatClampNeg) ((-1) : Int64)) Q
    refine y_call rfl rfl rfl rfl rfl (Nat.le_of_ble_eq_true rfl) (Nat.le_of_ble_eq_true rfl) rfl (by decide) H (fun v1 m1 H => ?_)
    obtain ⟨rfl, H⟩ := H
    show yP (xg xs) (d + 1) 227 95 [(0, .ref 45), (1, .int l1), (2, .int l2), (3, .int l3)] [] m1 Q
    exact y_ret rfl rfl rfl rfl H
set_option maxRecDepth 20000 in
/-- CodeMaker.Measure.endLoop from 0 on -/
theorem w228_0 (xs : List Int32) (d : Nat) (l1 : Int64) (m : yM) (Q : Option Value → yM → Prop) (H : (x_in (m.1 45 7) 62 = true ∧ ((¬ (lg_cmp (m.2 47 ((m.1 45 7).toNatClampNeg)) ((-1) : Int64)) = 0 → (x_in (m.1 45 7) 62 = true ∧ ((¬ (m.1 49 ((m.1 45 7).toNatClampNeg)) = 0 → (x_in (m.1 45 7) 62 = true ∧ (((lg_cmp l1 ((-1) : Int64)) = 0 → yP (xg xs) (d + 1) 228 113 [(0, .ref 45), (3, .int (m.1 45 7)), (4, .long (m.2 47 ((m.1 45 7).toNatClampNeg)))] [] (y_si m 45 7 (if (0 : Int32) < ((m.1 45 7) - (1 : Int32)) then ((m.1 45 7) - (1 : Int32)) else (0 : Int32))) Q) ∧ (¬ (lg_cmp l1 ((-1) : Int64)) = 0 → (x_in (m.1 45 7) 62 = true ∧ (x_in (m.1 45 7) 62 = true ∧ (yC (xg xs) d 224 [.ref 45, .int (m.1 48 ((m.1 45 7).toNatClampNeg)), .long ((((m.2 47 ((m.1 45 7).toNatClampNeg)) + ((((m.1 49 ((m.1 45 7).toNatClampNeg)) - (1 : Int32)).toInt64) * (l1 + (1 : Int64)))) + l1) + (2 : Int64))] (y_si m 45 7 (if (0 : Int32) < ((m.1 45 7) - (1 : Int32)) then ((m.1 45 7) - (1 : Int32)) else (0 : Int32))) (fun v1 m1 => v1 = none ∧ yP (xg xs) (d + 1) 228 113 [(0, .ref 45), (3, .int (m.1 45 7)), (4, .long ((m.2 47 ((m.1 45 7).toNatClampNeg)) + ((((m.1 49 ((m.1 45 7).toNatClampNeg)) - (1 : Int32)).toInt64) * (l1 + (1 : Int64)))))] [] m1 Q)))))))) ∧ ((m.1 49 ((m.1 45 7).toNatClampNeg)) = 0 → (x_in (m.1 45 7) 62 = true ∧ (x_in (m.1 45 7) 62 = true ∧ (yC (xg xs) d 224 [.ref 45, .int (m.1 48 ((m.1 45 7).toNatClampNeg)), .long ((m.2 47 ((m.1 45 7).toNatClampNeg)) + (1 : Int64))] (y_si m 45 7 (if (0 : Int32) < ((m.1 45 7) - (1 : Int32)) then ((m.1 45 7) - (1 : Int32)) else (0 : Int32))) (fun v2 m2 => v2 = none ∧ Q none m2)))))))) ∧ ((lg_cmp (m.2 47 ((m.1 45 7).toNatClampNeg)) ((-1) : Int64)) = 0 → Q none (y_si m 45 7 (if (0 : Int32) < ((m.1 45 7) - (1 : Int32)) then ((m.1 45 7) - (1 : Int32)) else (0 : Int32))))))) : yP (xg xs) (d + 1) 228 0 [(0, .ref 45), (1, .long l1)] [] m Q := by
  refine y_st rfl rfl rfl rfl rfl (fun _ _ => rfl) ?_
  refine y_gf rfl rfl rfl rfl rfl ?_
  refine y_st rfl rfl rfl rfl rfl (fun _ _ => rfl) ?_
  refine y_st rfl rfl rfl rfl rfl (fun _ _ => rfl) ?_
  refine y_st rfl rfl rfl rfl rfl (fun _ _ => rfl) ?_
  refine y_st rfl rfl rfl rfl rfl (fun _ _ => rfl) ?_
  refine y_gf rfl rfl rfl rfl rfl ?_
  refine y_st rfl rfl rfl rfl rfl (fun _ _ => rfl) ?_
  refine y_st rfl rfl rfl rfl rfl (fun _ _ => rfl) ?_
  refine y_mi rfl rfl rfl rfl rfl (Nat.le_of_ble_eq_true rfl) (by omega) ?_
  refine y_pfi rfl rfl rfl rfl rfl (x_fit_i _) ?_
  show yP (xg xs) (d + 1) 228 19 [(3, .int (m.1 45 7)), (0, .ref 45), (1, .long l1)] [] (y_si m 45 7 (if (0 : Int32) < ((m.1 45 7) - (1 : Int32)) then ((m.1 45 7) - (1 : Int32)) else (0 : Int32))) Q
  refine y_st rfl rfl rfl rfl rfl (fun _ _ => rfl) ?_
  refine y_gf rfl rfl rfl rfl rfl ?_
  refine y_st rfl rfl rfl rfl rfl (fun _ _ => rfl) ?_
  show yP (xg xs) (d + 1) 228 24 [(3, .int (m.1 45 7)), (0, .ref 45), (1, .long l1)] [.int (m.1 45 7), .ref 47] (y_si m 45 7 (if (0 : Int32) < ((m.1 45 7) - (1 : Int32)) then ((m.1 45 7) - (1 : Int32)) else (0 : Int32))) Q
  refine y_lald rfl rfl rfl (H.1) ?_
  replace H := H.2
  refine y_st rfl rfl rfl rfl rfl (fun _ _ => rfl) ?_
  refine y_st rfl rfl rfl rfl rfl (fun _ _ => rfl) ?_
  show yP (xg xs) (d + 1) 228 29 [(3, .int (m.1 45 7)), (0, .ref 45), (1, .long l1)] [.int (lg_cmp (m.2 47 ((m.1 45 7).toNatClampNeg)) ((-1) : Int64))] (y_si m 45 7 (if (0 : Int32) < ((m.1 45 7) - (1 : Int32)) then ((m.1 45 7) - (1 : Int32)) else (0 : Int32))) Q
  refine y_zne (t := 33) rfl rfl rfl (fun h => ?_) (fun h => ?_)
  · replace H := H.1 h; clear h
    refine y_st rfl rfl rfl rfl rfl (fun _ _ => rfl) ?_
    refine y_gf rfl rfl rfl rfl rfl ?_
    refine y_st rfl rfl rfl rfl rfl (fun _ _ => rfl) ?_
    show yP (xg xs) (d + 1) 228 38 [(3, .int (m.1 45 7)), (0, .ref 45), (1, .long l1)] [.int (m.1 45 7), .ref 49] (y_si m 45 7 (if (0 : Int32) < ((m.1 45 7) - (1 : Int32)) then ((m.1 45 7) - (1 : Int32)) else (0 : Int32))) Q
    refine y_iald rfl rfl rfl (H.1) ?_
    replace H := H.2
    show yP (xg xs) (d + 1) 228 39 [(3, .int (m.1 45 7)), (0, .ref 45), (1, .long l1)] [.int (m.1 49 ((m.1 45 7).toNatClampNeg))] (y_si m 45 7 (if (0 : Int32) < ((m.1 45 7) - (1 : Int32)) then ((m.1 45 7) - (1 : Int32)) else (0 : Int32))) Q
    refine y_zne (t := 61) rfl rfl rfl (fun h => ?_) (fun h => ?_)
    · replace H := H.1 h; clear h
      refine y_st rfl rfl rfl rfl rfl (fun _ _ => rfl) ?_
      refine y_gf rfl rfl rfl rfl rfl ?_
      refine y_st rfl rfl rfl rfl rfl (fun _ _ => rfl) ?_
      show yP (xg xs) (d + 1) 228 66 [(3, .int (m.1 45 7)), (0, .ref 45), (1, .long l1)] [.int (m.1 45 7), .ref 47] (y_si m 45 7 (if (0 : Int32) < ((m.1 45 7) - (1 : Int32)) then ((m.1 45 7) - (1 : Int32)) else (0 : Int32))) Q
      refine y_lald rfl rfl rfl (H.1) ?_
      replace H := H.2
      refine y_st rfl rfl rfl rfl rfl (fun _ _ => rfl) ?_
      refine y_st rfl rfl rfl rfl rfl (fun _ _ => rfl) ?_
      refine y_st rfl rfl rfl rfl rfl (fun _ _ => rfl) ?_
      refine y_st rfl rfl rfl rfl rfl (fun _ _ => rfl) ?_
      show yP (xg xs) (d + 1) 228 74 [(4, .long (m.2 47 ((m.1 45 7).toNatClampNeg))), (3, .int (m.1 45 7)), (0, .ref 45), (1, .long l1)] [.int (lg_cmp l1 ((-1) : Int64))] (y_si m 45 7 (if (0 : Int32) < ((m.1 45 7) - (1 : Int32)) then ((m.1 45 7) - (1 : Int32)) else (0 : Int32))) Q
      refine y_zeq (t := 113) rfl rfl rfl (fun h => ?_) (fun h => ?_)
      · replace H := H.1 h; clear h
        show yP (xg xs) (d + 1) 228 113 [(4, .long (m.2 47 ((m.1 45 7).toNatClampNeg))), (3, .int (m.1 45 7)), (0, .ref 45), (1, .long l1)] [] (y_si m 45 7 (if (0 : Int32) < ((m.1 45 7) - (1 : Int32)) then ((m.1 45 7) - (1 : Int32)) else (0 : Int32))) Q
        refine y_headS (l2 := [(0, .ref 45), (3, .int (m.1 45 7)), (4, .long (m.2 47 ((m.1 45 7).toNatClampNeg)))]) [2, 1, 0] [0, 3, 4] [4, 3, 0, 1] rfl rfl (by decide) rfl (by decide) ?_
        exact H
      · replace H := H.2 h; clear h
        refine y_st rfl rfl rfl rfl rfl (fun _ _ => rfl) ?_
        refine y_st rfl rfl rfl rfl rfl (fun _ _ => rfl) ?_
        refine y_gf rfl rfl rfl rfl rfl ?_
        refine y_st rfl rfl rfl rfl rfl (fun _ _ => rfl) ?_
        show yP (xg xs) (d + 1) 228 84 [(4, .long (m.2 47 ((m.1 45 7).toNatClampNeg))), (3, .int (m.1 45 7)), (0, .ref 45), (1, .long l1)] [.int (m.1 45 7), .ref 49, .long (m.2 47 ((m.1 45 7).toNatClampNeg))] (y_si m 45 7 (if (0 : Int32) < ((m.1 45 7) - (1 : Int32)) then ((m.1 45 7) - (1 : Int32)) else (0 : Int32))) Q
        refine y_iald rfl rfl rfl (H.1) ?_
        replace H := H.2
        refine y_st rfl rfl rfl rfl rfl (fun _ _ => rfl) ?_
        refine y_st rfl rfl rfl rfl rfl (fun _ _ => rfl) ?_
        refine y_st rfl rfl rfl rfl rfl (fun _ _ => rfl) ?_
        refine y_st rfl rfl rfl rfl rfl (fun _ _ => rfl) ?_
        refine y_st rfl rfl rfl rfl rfl (fun _ _ => rfl) ?_
        refine y_st rfl rfl rfl rfl rfl (fun _ _ => rfl) ?_
        refine y_st rfl rfl rfl rfl rfl (fun _ _ => rfl) ?_
        refine y_st rfl rfl rfl rfl rfl (fun _ _ => rfl) ?_
        refine y_st rfl rfl rfl rfl rfl (fun _ _ => rfl) ?_
        refine y_st rfl rfl rfl rfl rfl (fun _ _ => rfl) ?_
        refine y_st rfl rfl rfl rfl rfl (fun _ _ => rfl) ?_
        refine y_gf rfl rfl rfl rfl rfl ?_
        refine y_st rfl rfl rfl rfl rfl (fun _ _ => rfl) ?_
        show yP (xg xs) (d + 1) 228 101 [(4, .long ((m.2 47 ((m.1 45 7).toNatClampNeg)) + ((((m.1 49 ((m.1 45 7).toNatClampNeg)) - (1 : Int32)).toInt64) * (l1 + (1 : Int64))))), (3, .int (m.1 45 7)), (0, .ref 45), (1, .long l1)] [.int (m.1 45 7), .ref 48, .ref 45] (y_si m 45 7 (if (0 : Int32) < ((m.1 45 7) - (1 : Int32)) then ((m.1 45 7) - (1 : Int32)) else (0 : Int32))) Q
        refine y_iald rfl rfl rfl (H.1) ?_
        replace H := H.2
        refine y_st rfl rfl rfl rfl rfl (fun _ _ => rfl) ?_
        refine y_st rfl rfl rfl rfl rfl (fun _ _ => rfl) ?_
        refine y_st rfl rfl rfl rfl rfl (fun _ _ => rfl) ?_
        refine y_st rfl rfl rfl rfl rfl (fun _ _ => rfl) ?_
        refine y_st rfl rfl rfl rfl rfl (fun _ _ => rfl) ?_
        show yP (xg xs) (d + 1) 228 110 [(4, .long ((m.2 47 ((m.1 45 7).toNatClampNeg)) + ((((m.1 49 ((m.1 45 7).toNatClampNeg)) - (1 : Int32)).toInt64) * (l1 + (1 : Int64))))), (3, .int (m.1 45 7)), (0, .ref 45), (1, .long l1)] [.long ((((m.2 47 ((m.1 45 7).toNatClampNeg)) + ((((m.1 49 ((m.1 45 7).toNatClampNeg)) - (1 : Int32)).toInt64) * (l1 + (1 : Int64)))) + l1) + (2 : Int64)), .int (m.1 48 ((m.1 45 7).toNatClampNeg)), .ref 45] (y_si m 45 7 (if (0 : Int32) < ((m.1 45 7) - (1 : Int32)) then ((m.1 45 7) - (1 : Int32)) else (0 : Int32))) Q
        refine y_call rfl rfl rfl rfl rfl (Nat.le_of_ble_eq_true rfl) (Nat.le_of_ble_eq_true rfl) rfl (by decide) H (fun v1 m1 H => ?_)
        obtain ⟨rfl, H⟩ := H
        show yP (xg xs) (d + 1) 228 113 [(4, .long ((m.2 47 ((m.1 45 7).toNatClampNeg)) + ((((m.1 49 ((m.1 45 7).toNatClampNeg)) - (1 : Int32)).toInt64) * (l1 + (1 : Int64))))), (3, .int (m.1 45 7)), (0, .ref 45), (1, .long l1)] [] m1 Q
        refine y_headS (l2 := [(0, .ref 45), (3, .int (m.1 45 7)), (4, .long ((m.2 47 ((m.1 45 7).toNatClampNeg)) + ((((m.1 49 ((m.1 45 7).toNatClampNeg)) - (1 : Int32)).toInt64) * (l1 + (1 : Int64)))))]) [2, 1, 0] [0, 3, 4] [4, 3, 0, 1] rfl rfl (by decide) rfl (by decide) ?_
        exact H
    · replace H := H.2 h; clear h
      refine y_st rfl rfl rfl rfl rfl (fun _ _ => rfl) ?_
      refine y_st rfl rfl rfl rfl rfl (fun _ _ => rfl) ?_
      refine y_gf rfl rfl rfl rfl rfl ?_
      refine y_st rfl rfl rfl rfl rfl (fun _ _ => rfl) ?_
      show yP (xg xs) (d + 1) 228 48 [(3, .int (m.1 45 7)), (0, .ref 45), (1, .long l1)] [.int (m.1 45 7), .ref 48, .ref 45] (y_si m 45 7 (if (0 : Int32) < ((m.1 45 7) - (1 : Int32)) then ((m.1 45 7) - (1 : Int32)) else (0 : Int32))) Q
      refine y_iald rfl rfl rfl (H.1) ?_
      replace H := H.2
      refine y_st rfl rfl rfl rfl rfl (fun _ _ => rfl) ?_
      refine y_gf rfl rfl rfl rfl rfl ?_
      refine y_st rfl rfl rfl rfl rfl (fun _ _ => rfl) ?_
      show yP (xg xs) (d + 1) 228 54 [(3, .int (m.1 45 7)), (0, .ref 45), (1, .long l1)] [.int (m.1 45 7), .ref 47, .int (m.1 48 ((m.1 45 7).toNatClampNeg)), .ref 45] (y_si m 45 7 (if (0 : Int32) < ((m.1 45 7) - (1 : Int32)) then ((m.1 45 7) - (1 : Int32)) else (0 : Int32))) Q
      refine y_lald rfl rfl rfl (H.1) ?_
      replace H := H.2
      refine y_st rfl rfl rfl rfl rfl (fun _ _ => rfl) ?_
      refine y_st rfl rfl rfl rfl rfl (fun _ _ => rfl) ?_
      show yP (xg xs) (d + 1) 228 57 [(3, .int (m.1 45 7)), (0, .ref 45), (1, .long l1)] [.long ((m.2 47 ((m.1 45 7).toNatClampNeg)) + (1 : Int64)), .int (m.1 48 ((m.1 45 7).toNatClampNeg)), .ref 45] (y_si m 45 7 (if (0 : Int32) < ((m.1 45 7) - (1 : Int32)) then ((m.1 45 7) - (1 : Int32)) else (0 : Int32))) Q
      refine y_call rfl rfl rfl rfl rfl (Nat.le_of_ble_eq_true rfl) (Nat.le_of_ble_eq_true rfl) rfl (by decide) H (fun v2 m2 H => ?_)
      obtain ⟨rfl, H⟩ := H
      show yP (xg xs) (d + 1) 228 60 [(3, .int (m.1 45 7)), (0, .ref 45), (1, .long l1)] [] m2 Q
      exact y_ret rfl rfl rfl rfl H
  · replace H := H.2 h; clear h
    show yP (xg xs) (d + 1) 228 32 [(3, .int (m.1 45 7)), (0, .ref 45), (1, .long l1)] [] (y_si m 45 7 (if (0 : Int32) < ((m.1 45 7) - (1 : Int32)) then ((m.1 45 7) - (1 : Int32)) else (0 : Int32))) Q
    exact y_ret rfl rfl rfl rfl H
set_option maxRecDepth 20000 in
/-- CodeMaker.Measure.endLoop from 113 on -/
theorem w228_113 (xs : List Int32) (d : Nat) (l3 : Int32) (l4 : Int64) (m : yM) (Q : Option Value → yM → Prop) (H : (x_in l3 62 = true ∧ (((lg_cmp (m.2 50 l3.toNatClampNeg) ((-1) : Int64)) = 0 → yP (xg xs) (d + 1) 228 145 [(0, .ref 45), (3, .int l3), (4, .long l4)] [] m Q) ∧ (¬ (lg_cmp (m.2 50 l3.toNatClampNeg) ((-1) : Int64)) = 0 → (x_in l3 62 = true ∧ (x_in l3 62 = true ∧ (yC (xg xs) d 224 [.ref 45, .int (m.1 48 l3.toNatClampNeg), .long (l4 + (m.2 50 l3.toNatClampNeg))] m (fun v1 m1 => v1 = none ∧ yP (xg xs) (d + 1) 228 145 [(0, .ref 45), (3, .int l3), (4, .long l4)] [] m1 Q)))))))) : yP (xg xs) (d + 1) 228 113 [(0, .ref 45), (3, .int l3), (4, .long l4)] [] m Q := by
  refine y_st rfl rfl rfl rfl rfl (fun _ _ => rfl) ?_
  refine y_gf rfl rfl rfl rfl rfl ?_
  refine y_st rfl rfl rfl rfl rfl (fun _ _ => rfl) ?_
  show yP (xg xs) (d + 1) 228 118 [(0, .ref 45), (3, .int l3), (4, .long l4)] [.int l3, .ref 50] m Q
  refine y_lald rfl rfl rfl (H.1) ?_
  replace H := H.2
  refine y_st rfl rfl rfl rfl rfl (fun _ _ => rfl) ?_
  refine y_st rfl rfl rfl rfl rfl (fun _ _ => rfl) ?_
  show yP (xg xs) (d + 1) 228 123 [(0, .ref 45), (3, .int l3), (4, .long l4)] [.int (lg_cmp (m.2 50 l3.toNatClampNeg) ((-1) : Int64))] m Q
  refine y_zeq (t := 145) rfl rfl rfl (fun h => ?_) (fun h => ?_)
  · replace H := H.1 h; clear h
    show yP (xg xs) (d + 1) 228 145 [(0, .ref 45), (3, .int l3), (4, .long l4)] [] m Q
    exact H
  · replace H := H.2 h; clear h
    refine y_st rfl rfl rfl rfl rfl (fun _ _ => rfl) ?_
    refine y_st rfl rfl rfl rfl rfl (fun _ _ => rfl) ?_
    refine y_gf rfl rfl rfl rfl rfl ?_
    refine y_st rfl rfl rfl rfl rfl (fun _ _ => rfl) ?_
    show yP (xg xs) (d + 1) 228 132 [(0, .ref 45), (3, .int l3), (4, .long l4)] [.int l3, .ref 48, .ref 45] m Q
    refine y_iald rfl rfl rfl (H.1) ?_
    replace H := H.2
    refine y_st rfl rfl rfl rfl rfl (fun _ _ => rfl) ?_
    refine y_st rfl rfl rfl rfl rfl (fun _ _ => rfl) ?_
    refine y_gf rfl rfl rfl rfl rfl ?_
    refine y_st rfl rfl rfl rfl rfl (fun _ _ => rfl) ?_
    show yP (xg xs) (d + 1) 228 140 [(0, .ref 45), (3, .int l3), (4, .long l4)] [.int l3, .ref 50, .long l4, .int (m.1 48 l3.toNatClampNeg), .ref 45] m Q
    refine y_lald rfl rfl rfl (H.1) ?_
    replace H := H.2
    refine y_st rfl rfl rfl rfl rfl (fun _ _ => rfl) ?_
    show yP (xg xs) (d + 1) 228 142 [(0, .ref 45), (3, .int l3), (4, .long l4)] [.long (l4 + (m.2 50 l3.toNatClampNeg)), .int (m.1 48 l3.toNatClampNeg), .ref 45] m Q
    refine y_call rfl rfl rfl rfl rfl (Nat.le_of_ble_eq_true rfl) (Nat.le_of_ble_eq_true rfl) rfl (by decide) H (fun v1 m1 H => ?_)
    obtain ⟨rfl, H⟩ := H
    show yP (xg xs) (d + 1) 228 145 [(0, .ref 45), (3, .int l3), (4, .long l4)] [] m1 Q
    exact H
set_option maxRecDepth 20000 in
/-- CodeMaker.Measure.endLoop from 145 on -/
theorem w228_145 (xs : List Int32) (d : Nat) (l3 : Int32) (l4 : Int64) (m : yM) (Q : Option Value → yM → Prop) (H : (x_in l3 62 = true ∧ (((lg_cmp (m.2 51 l3.toNatClampNeg) ((-1) : Int64)) = 0 → Q none m) ∧ (¬ (lg_cmp (m.2 51 l3.toNatClampNeg) ((-1) : Int64)) = 0 → (x_in (m.1 45 7) 62 = true ∧ (x_in l3 62 = true ∧ (x_in (m.1 45 7) 62 = true ∧ Q none (y_sl m 51 ((m.1 45 7).toNatClampNeg) (if (if (1000000000000 : Int64) < (l4 + (m.2 51 l3.toNatClampNeg)) then (1000000000000 : Int64) else (l4 + (m.2 51 l3.toNatClampNeg))) < (m.2 51 ((m.1 45 7).toNatClampNeg)) then (m.2 51 ((m.1 45 7).toNatClampNeg)) else (if (1000000000000 : Int64) < (l4 + (m.2 51 l3.toNatClampNeg)) then (1000000000000 : Int64) else (l4 + (m.2 51 l3.toNatClampNeg)))))))))))) : yP (xg xs) (d + 1) 228 145 [(0, .ref 45), (3, .int l3), (4, .long l4)] [] m Q := by
  refine y_st rfl rfl rfl rfl rfl (fun _ _ => rfl) ?_
  refine y_gf rfl rfl rfl rfl rfl ?_
  refine y_st rfl rfl rfl rfl rfl (fun _ _ => rfl) ?_
  show yP (xg xs) (d + 1) 228 150 [(0, .ref 45), (3, .int l3), (4, .long l4)] [.int l3, .ref 51] m Q
  refine y_lald rfl rfl rfl (H.1) ?_
  replace H := H.2
  refine y_st rfl rfl rfl rfl rfl (fun _ _ => rfl) ?_
  refine y_st rfl rfl rfl rfl rfl (fun _ _ => rfl) ?_
  show yP (xg xs) (d + 1) 228 155 [(0, .ref 45), (3, .int l3), (4, .long l4)] [.int (lg_cmp (m.2 51 l3.toNatClampNeg) ((-1) : Int64))] m Q
  refine y_zeq (t := 194) rfl rfl rfl (fun h => ?_) (fun h => ?_)
  · replace H := H.1 h; clear h
    show yP (xg xs) (d + 1) 228 194 [(0, .ref 45), (3, .int l3), (4, .long l4)] [] m Q
    exact y_ret rfl rfl rfl rfl H
  · replace H := H.2 h; clear h
    refine y_st rfl rfl rfl rfl rfl (fun _ _ => rfl) ?_
    refine y_gf rfl rfl rfl rfl rfl ?_
    refine y_st rfl rfl rfl rfl rfl (fun _ _ => rfl) ?_
    refine y_gf rfl rfl rfl rfl rfl ?_
    refine y_st rfl rfl rfl rfl rfl (fun _ _ => rfl) ?_
    refine y_gf rfl rfl rfl rfl rfl ?_
    refine y_st rfl rfl rfl rfl rfl (fun _ _ => rfl) ?_
    refine y_gf rfl rfl rfl rfl rfl ?_
    show yP (xg xs) (d + 1) 228 174 [(0, .ref 45), (3, .int l3), (4, .long l4)] [.int (m.1 45 7), .ref 51, .int (m.1 45 7), .ref 51] m Q
    refine y_lald rfl rfl rfl (H.1) ?_
    replace H := H.2
    refine y_st rfl rfl rfl rfl rfl (fun _ _ => rfl) ?_
    refine y_st rfl rfl rfl rfl rfl (fun _ _ => rfl) ?_
    refine y_gf rfl rfl rfl rfl rfl ?_
    refine y_st rfl rfl rfl rfl rfl (fun _ _ => rfl) ?_
    show yP (xg xs) (d + 1) 228 182 [(0, .ref 45), (3, .int l3), (4, .long l4)] [.int l3, .ref 51, .long l4, .long (m.2 51 ((m.1 45 7).toNatClampNeg)), .int (m.1 45 7), .ref 51] m Q
    refine y_lald rfl rfl rfl (H.1) ?_
    replace H := H.2
    refine y_st rfl rfl rfl rfl rfl (fun _ _ => rfl) ?_
    refine y_st rfl rfl rfl rfl rfl (fun _ _ => rfl) ?_
    refine y_mi rfl rfl rfl rfl rfl (Nat.le_of_ble_eq_true rfl) (by omega) ?_
    refine y_mi rfl rfl rfl rfl rfl (Nat.le_of_ble_eq_true rfl) (by omega) ?_
    show yP (xg xs) (d + 1) 228 193 [(0, .ref 45), (3, .int l3), (4, .long l4)] [.long (if (if (1000000000000 : Int64) < (l4 + (m.2 51 l3.toNatClampNeg)) then (1000000000000 : Int64) else (l4 + (m.2 51 l3.toNatClampNeg))) < (m.2 51 ((m.1 45 7).toNatClampNeg)) then (m.2 51 ((m.1 45 7).toNatClampNeg)) else (if (1000000000000 : Int64) < (l4 + (m.2 51 l3.toNatClampNeg)) then (1000000000000 : Int64) else (l4 + (m.2 51 l3.toNatClampNeg)))), .int (m.1 45 7), .ref 51] m Q
    refine y_last rfl rfl rfl (H.1) ?_
    replace H := H.2
    show yP (xg xs) (d + 1) 228 194 [(0, .ref 45), (3, .int l3), (4, .long l4)] [] (y_sl m 51 ((m.1 45 7).toNatClampNeg) (if (if (1000000000000 : Int64) < (l4 + (m.2 51 l3.toNatClampNeg)) then (1000000000000 : Int64) else (l4 + (m.2 51 l3.toNatClampNeg))) < (m.2 51 ((m.1 45 7).toNatClampNeg)) then (m.2 51 ((m.1 45 7).toNatClampNeg)) else (if (1000000000000 : Int64) < (l4 + (m.2 51 l3.toNatClampNeg)) then (1000000000000 : Int64) else (l4 + (m.2 51 l3.toNatClampNeg))))) Q
    exact y_ret rfl rfl rfl rfl H
set_option maxRecDepth 20000 in
/-- CodeMaker.Measure.follow from 0 on -/
theorem w229_0 (xs : List Int32) (d : Nat) (l1 : Int32) (l2 : Int32) (l3 : Int32) (m : yM) (Q : Option Value → yM → Prop) (H : (x_in l1 3001 = true ∧ ((¬ l2 = (18 : Int32) → ((¬ l2 = (10 : Int32) → yP (xg xs) (d + 1) 229 94 [(0, .ref 45), (1, .int l1), (2, .int l2), (3, .int l3), (4, .long ((m.2 46 l1.toNatClampNeg) + (1 : Int64)))] [] m Q) ∧ (l2 = (10 : Int32) → (((m.1 45 7) ≤ 0 → yP (xg xs) (d + 1) 229 94 [(0, .ref 45), (1, .int l1), (2, .int l2), (3, .int l3), (4, .long ((m.2 46 l1.toNatClampNeg) + (1 : Int64)))] [] m Q) ∧ (¬ (m.1 45 7) ≤ 0 → (x_in (m.1 45 7) 62 = true ∧ ((¬ l3 = (m.1 48 ((m.1 45 7).toNatClampNeg)) → yP (xg xs) (d + 1) 229 94 [(0, .ref 45), (1, .int l1), (2, .int l2), (3, .int l3), (4, .long ((m.2 46 l1.toNatClampNeg) + (1 : Int64)))] [] m Q) ∧ (l3 = (m.1 48 ((m.1 45 7).toNatClampNeg)) → (x_in (m.1 45 7) 62 = true ∧ (x_in (m.1 45 7) 62 = true ∧ Q none (y_sl m 50 ((m.1 45 7).toNatClampNeg) (if ((m.2 46 l1.toNatClampNeg) + (1 : Int64)) < (m.2 50 ((m.1 45 7).toNatClampNeg)) then (m.2 50 ((m.1 45 7).toNatClampNeg)) else ((m.2 46 l1.toNatClampNeg) + (1 : Int64)))))))))))))) ∧ (l2 = (18 : Int32) → (x_in (m.1 45 7) 62 = true ∧ (x_in (m.1 45 7) 62 = true ∧ Q none (y_sl m 51 ((m.1 45 7).toNatClampNeg) (if ((m.2 46 l1.toNatClampNeg) + (1 : Int64)) < (m.2 51 ((m.1 45 7).toNatClampNeg)) then (m.2 51 ((m.1 45 7).toNatClampNeg)) else ((m.2 46 l1.toNatClampNeg) + (1 : Int64)))))))))) : yP (xg xs) (d + 1) 229 0 [(0, .ref 45), (1, .int l1), (2, .int l2), (3, .int l3)] [] m Q := by
  refine y_st rfl rfl rfl rfl rfl (fun _ _ => rfl) ?_
  refine y_gf rfl rfl rfl rfl rfl ?_
  refine y_st rfl rfl rfl rfl rfl (fun _ _ => rfl) ?_
  show yP (xg xs) (d + 1) 229 5 [(0, .ref 45), (1, .int l1), (2, .int l2), (3, .int l3)] [.int l1, .ref 46] m Q
  refine y_lald rfl rfl rfl (H.1) ?_
  replace H := H.2
  refine y_st rfl rfl rfl rfl rfl (fun _ _ => rfl) ?_
  refine y_st rfl rfl rfl rfl rfl (fun _ _ => rfl) ?_
  refine y_st rfl rfl rfl rfl rfl (fun _ _ => rfl) ?_
  refine y_st rfl rfl rfl rfl rfl (fun _ _ => rfl) ?_
  refine y_st rfl rfl rfl rfl rfl (fun _ _ => rfl) ?_
  show yP (xg xs) (d + 1) 229 13 [(4, .long ((m.2 46 l1.toNatClampNeg) + (1 : Int64))), (0, .ref 45), (1, .int l1), (2, .int l2), (3, .int l3)] [.int (18 : Int32), .int l2] m Q
  refine y_ine (t := 42) rfl rfl rfl (fun h => ?_) (fun h => ?_)
  · replace H := H.1 h; clear h
    refine y_st rfl rfl rfl rfl rfl (fun _ _ => rfl) ?_
    refine y_st rfl rfl rfl rfl rfl (fun _ _ => rfl) ?_
    show yP (xg xs) (d + 1) 229 45 [(4, .long ((m.2 46 l1.toNatClampNeg) + (1 : Int64))), (0, .ref 45), (1, .int l1), (2, .int l2), (3, .int l3)] [.int (10 : Int32), .int l2] m Q
    refine y_ine (t := 94) rfl rfl rfl (fun h => ?_) (fun h => ?_)
    · replace H := H.1 h; clear h
      show yP (xg xs) (d + 1) 229 94 [(4, .long ((m.2 46 l1.toNatClampNeg) + (1 : Int64))), (0, .ref 45), (1, .int l1), (2, .int l2), (3, .int l3)] [] m Q
      refine y_headS (l2 := [(0, .ref 45), (1, .int l1), (2, .int l2), (3, .int l3), (4, .long ((m.2 46 l1.toNatClampNeg) + (1 : Int64)))]) [1, 2, 3, 4, 0] [0, 1, 2, 3, 4] [4, 0, 1, 2, 3] rfl rfl (by decide) rfl (by decide) ?_
      exact H
    · replace H := H.2 h; clear h
      refine y_st rfl rfl rfl rfl rfl (fun _ _ => rfl) ?_
      refine y_gf rfl rfl rfl rfl rfl ?_
      show yP (xg xs) (d + 1) 229 52 [(4, .long ((m.2 46 l1.toNatClampNeg) + (1 : Int64))), (0, .ref 45), (1, .int l1), (2, .int l2), (3, .int l3)] [.int (m.1 45 7)] m Q
      refine y_zle (t := 94) rfl rfl rfl (fun h => ?_) (fun h => ?_)
      · replace H := H.1 h; clear h
        show yP (xg xs) (d + 1) 229 94 [(4, .long ((m.2 46 l1.toNatClampNeg) + (1 : Int64))), (0, .ref 45), (1, .int l1), (2, .int l2), (3, .int l3)] [] m Q
        refine y_headS (l2 := [(0, .ref 45), (1, .int l1), (2, .int l2), (3, .int l3), (4, .long ((m.2 46 l1.toNatClampNeg) + (1 : Int64)))]) [1, 2, 3, 4, 0] [0, 1, 2, 3, 4] [4, 0, 1, 2, 3] rfl rfl (by decide) rfl (by decide) ?_
        exact H
      · replace H := H.2 h; clear h
        refine y_st rfl rfl rfl rfl rfl (fun _ _ => rfl) ?_
        refine y_st rfl rfl rfl rfl rfl (fun _ _ => rfl) ?_
        refine y_gf rfl rfl rfl rfl rfl ?_
        refine y_st rfl rfl rfl rfl rfl (fun _ _ => rfl) ?_
        refine y_gf rfl rfl rfl rfl rfl ?_
        show yP (xg xs) (d + 1) 229 64 [(4, .long ((m.2 46 l1.toNatClampNeg) + (1 : Int64))), (0, .ref 45), (1, .int l1), (2, .int l2), (3, .int l3)] [.int (m.1 45 7), .ref 48, .int l3] m Q
        refine y_iald rfl rfl rfl (H.1) ?_
        replace H := H.2
        show yP (xg xs) (d + 1) 229 65 [(4, .long ((m.2 46 l1.toNatClampNeg) + (1 : Int64))), (0, .ref 45), (1, .int l1), (2, .int l2), (3, .int l3)] [.int (m.1 48 ((m.1 45 7).toNatClampNeg)), .int l3] m Q
        refine y_ine (t := 94) rfl rfl rfl (fun h => ?_) (fun h => ?_)
        · replace H := H.1 h; clear h
          show yP (xg xs) (d + 1) 229 94 [(4, .long ((m.2 46 l1.toNatClampNeg) + (1 : Int64))), (0, .ref 45), (1, .int l1), (2, .int l2), (3, .int l3)] [] m Q
          refine y_headS (l2 := [(0, .ref 45), (1, .int l1), (2, .int l2), (3, .int l3), (4, .long ((m.2 46 l1.toNatClampNeg) + (1 : Int64)))]) [1, 2, 3, 4, 0] [0, 1, 2, 3, 4] [4, 0, 1, 2, 3] rfl rfl (by decide) rfl (by decide) ?_
          exact H
        · replace H := H.2 h; clear h
          refine y_st rfl rfl rfl rfl rfl (fun _ _ => rfl) ?_
          refine y_gf rfl rfl rfl rfl rfl ?_
          refine y_st rfl rfl rfl rfl rfl (fun _ _ => rfl) ?_
          refine y_gf rfl rfl rfl rfl rfl ?_
          refine y_st rfl rfl rfl rfl rfl (fun _ _ => rfl) ?_
          refine y_gf rfl rfl rfl rfl rfl ?_
          refine y_st rfl rfl rfl rfl rfl (fun _ _ => rfl) ?_
          refine y_gf rfl rfl rfl rfl rfl ?_
          show yP (xg xs) (d + 1) 229 84 [(4, .long ((m.2 46 l1.toNatClampNeg) + (1 : Int64))), (0, .ref 45), (1, .int l1), (2, .int l2), (3, .int l3)] [.int (m.1 45 7), .ref 50, .int (m.1 45 7), .ref 50] m Q
          refine y_lald rfl rfl rfl (H.1) ?_
          replace H := H.2
          refine y_st rfl rfl rfl rfl rfl (fun _ _ => rfl) ?_
          refine y_mi rfl rfl rfl rfl rfl (Nat.le_of_ble_eq_true rfl) (by omega) ?_
          show yP (xg xs) (d + 1) 229 90 [(4, .long ((m.2 46 l1.toNatClampNeg) + (1 : Int64))), (0, .ref 45), (1, .int l1), (2, .int l2), (3, .int l3)] [.long (if ((m.2 46 l1.toNatClampNeg) + (1 : Int64)) < (m.2 50 ((m.1 45 7).toNatClampNeg)) then (m.2 50 ((m.1 45 7).toNatClampNeg)) else ((m.2 46 l1.toNatClampNeg) + (1 : Int64))), .int (m.1 45 7), .ref 50] m Q
          refine y_last rfl rfl rfl (H.1) ?_
          replace H := H.2
          refine y_st rfl rfl rfl rfl rfl (fun _ _ => rfl) ?_
          show yP (xg xs) (d + 1) 229 172 [(4, .long ((m.2 46 l1.toNatClampNeg) + (1 : Int64))), (0, .ref 45), (1, .int l1), (2, .int l2), (3, .int l3)] [] (y_sl m 50 ((m.1 45 7).toNatClampNeg) (if ((m.2 46 l1.toNatClampNeg) + (1 : Int64)) < (m.2 50 ((m.1 45 7).toNatClampNeg)) then (m.2 50 ((m.1 45 7).toNatClampNeg)) else ((m.2 46 l1.toNatClampNeg) + (1 : Int64)))) Q
          exact y_ret rfl rfl rfl rfl H
  · replace H := H.2 h; clear h
    refine y_st rfl rfl rfl rfl rfl (fun _ _ => rfl) ?_
    refine y_gf rfl rfl rfl rfl rfl ?_
    refine y_st rfl rfl rfl rfl rfl (fun _ _ => rfl) ?_
    refine y_gf rfl rfl rfl rfl rfl ?_
    refine y_st rfl rfl rfl rfl rfl (fun _ _ => rfl) ?_
    refine y_gf rfl rfl rfl rfl rfl ?_
    refine y_st rfl rfl rfl rfl rfl (fun _ _ => rfl) ?_
    refine y_gf rfl rfl rfl rfl rfl ?_
    show yP (xg xs) (d + 1) 229 32 [(4, .long ((m.2 46 l1.toNatClampNeg) + (1 : Int64))), (0, .ref 45), (1, .int l1), (2, .int l2), (3, .int l3)] [.int (m.1 45 7), .ref 51, .int (m.1 45 7), .ref 51] m Q
    refine y_lald rfl rfl rfl (H.1) ?_
    replace H := H.2
    refine y_st rfl rfl rfl rfl rfl (fun _ _ => rfl) ?_
    refine y_mi rfl rfl rfl rfl rfl (Nat.le_of_ble_eq_true rfl) (by omega) ?_
    show yP (xg xs) (d + 1) 229 38 [(4, .long ((m.2 46 l1.toNatClampNeg) + (1 : Int64))), (0, .ref 45), (1, .int l1), (2, .int l2), (3, .int l3)] [.long (if ((m.2 46 l1.toNatClampNeg) + (1 : Int64)) < (m.2 51 ((m.1 45 7).toNatClampNeg)) then (m.2 51 ((m.1 45 7).toNatClampNeg)) else ((m.2 46 l1.toNatClampNeg) + (1 : Int64))), .int (m.1 45 7), .ref 51] m Q
    refine y_last rfl rfl rfl (H.1) ?_
    replace H := H.2
    refine y_st rfl rfl rfl rfl rfl (fun _ _ => rfl) ?_
    show yP (xg xs) (d + 1) 229 172 [(4, .long ((m.2 46 l1.toNatClampNeg) + (1 : Int64))), (0, .ref 45), (1, .int l1), (2, .int l2), (3, .int l3)] [] (y_sl m 51 ((m.1 45 7).toNatClampNeg) (if ((m.2 46 l1.toNatClampNeg) + (1 : Int64)) < (m.2 51 ((m.1 45 7).toNatClampNeg)) then (m.2 51 ((m.1 45 7).toNatClampNeg)) else ((m.2 46 l1.toNatClampNeg) + (1 : Int64)))) Q
    exact y_ret rfl rfl rfl rfl H
set_option maxRecDepth 20000 in
/-- CodeMaker.Measure.follow from 94 on -/
theorem w229_94 (xs : List Int32) (d : Nat) (l1 : Int32) (l2 : Int32) (l3 : Int32) (l4 : Int64) (m : yM) (Q : Option Value → yM → Prop) (H : ((¬ l2 = (10 : Int32) → ((¬ l2 = (11 : Int32) → yP (xg xs) (d + 1) 229 123 [(0, .ref 45), (1, .int l1), (2, .int l2), (3, .int l3), (4, .long l4)] [] m Q) ∧ (l2 = (11 : Int32) → (yC (xg xs) d 224 [.ref 45, .int l3, .long l4] m (fun v1 m1 => v1 = none ∧ yP (xg xs) (d + 1) 229 123 [(0, .ref 45), (1, .int l1), (2, .int l2), (3, .int l3), (4, .long l4)] [] m1 Q))))) ∧ (l2 = (10 : Int32) → (yC (xg xs) d 224 [.ref 45, .int l3, .long l4] m (fun v2 m2 => v2 = none ∧ Q none m2))))) : yP (xg xs) (d + 1) 229 94 [(0, .ref 45), (1, .int l1), (2, .int l2), (3, .int l3), (4, .long l4)] [] m Q := by
  refine y_st rfl rfl rfl rfl rfl (fun _ _ => rfl) ?_
  refine y_st rfl rfl rfl rfl rfl (fun _ _ => rfl) ?_
  show yP (xg xs) (d + 1) 229 97 [(0, .ref 45), (1, .int l1), (2, .int l2), (3, .int l3), (4, .long l4)] [.int (10 : Int32), .int l2] m Q
  refine y_ine (t := 110) rfl rfl rfl (fun h => ?_) (fun h => ?_)
  · replace H := H.1 h; clear h
    refine y_st rfl rfl rfl rfl rfl (fun _ _ => rfl) ?_
    refine y_st rfl rfl rfl rfl rfl (fun _ _ => rfl) ?_
    show yP (xg xs) (d + 1) 229 113 [(0, .ref 45), (1, .int l1), (2, .int l2), (3, .int l3), (4, .long l4)] [.int (11 : Int32), .int l2] m Q
    refine y_ine (t := 123) rfl rfl rfl (fun h => ?_) (fun h => ?_)
    · replace H := H.1 h; clear h
      show yP (xg xs) (d + 1) 229 123 [(0, .ref 45), (1, .int l1), (2, .int l2), (3, .int l3), (4, .long l4)] [] m Q
      exact H
    · replace H := H.2 h; clear h
      refine y_st rfl rfl rfl rfl rfl (fun _ _ => rfl) ?_
      refine y_st rfl rfl rfl rfl rfl (fun _ _ => rfl) ?_
      refine y_st rfl rfl rfl rfl rfl (fun _ _ => rfl) ?_
      show yP (xg xs) (d + 1) 229 120 [(0, .ref 45), (1, .int l1), (2, .int l2), (3, .int l3), (4, .long l4)] [.long l4, .int l3, .ref 45] m Q
      refine y_call rfl rfl rfl rfl rfl (Nat.le_of_ble_eq_true rfl) (Nat.le_of_ble_eq_true rfl) rfl (by decide) H (fun v1 m1 H => ?_)
      obtain ⟨rfl, H⟩ := H
      show yP (xg xs) (d + 1) 229 123 [(0, .ref 45), (1, .int l1), (2, .int l2), (3, .int l3), (4, .long l4)] [] m1 Q
      exact H
  · replace H := H.2 h; clear h
    refine y_st rfl rfl rfl rfl rfl (fun _ _ => rfl) ?_
    refine y_st rfl rfl rfl rfl rfl (fun _ _ => rfl) ?_
    refine y_st rfl rfl rfl rfl rfl (fun _ _ => rfl) ?_
    show yP (xg xs) (d + 1) 229 104 [(0, .ref 45), (1, .int l1), (2, .int l2), (3, .int l3), (4, .long l4)] [.long l4, .int l3, .ref 45] m Q
    refine y_call rfl rfl rfl rfl rfl (Nat.le_of_ble_eq_true rfl) (Nat.le_of_ble_eq_true rfl) rfl (by decide) H (fun v2 m2 H => ?_)
    obtain ⟨rfl, H⟩ := H
    refine y_st rfl rfl rfl rfl rfl (fun _ _ => rfl) ?_
    show yP (xg xs) (d + 1) 229 172 [(0, .ref 45), (1, .int l1), (2, .int l2), (3, .int l3), (4, .long l4)] [] m2 Q
    exact y_ret rfl rfl rfl rfl H
set_option maxRecDepth 20000 in
/-- CodeMaker.Measure.follow from 123 on -/
theorem w229_123 (xs : List Int32) (d : Nat) (l1 : Int32) (l2 : Int32) (l3 : Int32) (l4 : Int64) (m : yM) (Q : Option Value → yM → Prop) (H : ((l2 = (15 : Int32) → yP (xg xs) (d + 1) 229 135 [(0, .ref 45), (1, .int l1), (3, .int l3), (4, .long l4)] [] m Q) ∧ (¬ l2 = (15 : Int32) → ((¬ l2 = (16 : Int32) → yP (xg xs) (d + 1) 229 140 [(0, .ref 45), (1, .int l1), (3, .int l3), (4, .long l4)] [.int (0 : Int32)] m Q) ∧ (l2 = (16 : Int32) → yP (xg xs) (d + 1) 229 135 [(0, .ref 45), (1, .int l1), (3, .int l3), (4, .long l4)] [] m Q))))) : yP (xg xs) (d + 1) 229 123 [(0, .ref 45), (1, .int l1), (2, .int l2), (3, .int l3), (4, .long l4)] [] m Q := by
  refine y_st rfl rfl rfl rfl rfl (fun _ _ => rfl) ?_
  refine y_st rfl rfl rfl rfl rfl (fun _ _ => rfl) ?_
  show yP (xg xs) (d + 1) 229 126 [(0, .ref 45), (1, .int l1), (2, .int l2), (3, .int l3), (4, .long l4)] [.int (15 : Int32), .int l2] m Q
  refine y_ieq (t := 135) rfl rfl rfl (fun h => ?_) (fun h => ?_)
  · replace H := H.1 h; clear h
    show yP (xg xs) (d + 1) 229 135 [(0, .ref 45), (1, .int l1), (2, .int l2), (3, .int l3), (4, .long l4)] [] m Q
    refine y_headS (l2 := [(0, .ref 45), (1, .int l1), (3, .int l3), (4, .long l4)]) [0, 1, 3, 4] [0, 1, 3, 4] [0, 1, 2, 3, 4] rfl rfl (by decide) rfl (by decide) ?_
    exact H
  · replace H := H.2 h; clear h
    refine y_st rfl rfl rfl rfl rfl (fun _ _ => rfl) ?_
    refine y_st rfl rfl rfl rfl rfl (fun _ _ => rfl) ?_
    show yP (xg xs) (d + 1) 229 132 [(0, .ref 45), (1, .int l1), (2, .int l2), (3, .int l3), (4, .long l4)] [.int (16 : Int32), .int l2] m Q
    refine y_ine (t := 139) rfl rfl rfl (fun h => ?_) (fun h => ?_)
    · replace H := H.1 h; clear h
      refine y_st rfl rfl rfl rfl rfl (fun _ _ => rfl) ?_
      show yP (xg xs) (d + 1) 229 140 [(0, .ref 45), (1, .int l1), (2, .int l2), (3, .int l3), (4, .long l4)] [.int (0 : Int32)] m Q
      refine y_headS (l2 := [(0, .ref 45), (1, .int l1), (3, .int l3), (4, .long l4)]) [0, 1, 3, 4] [0, 1, 3, 4] [0, 1, 2, 3, 4] rfl rfl (by decide) rfl (by decide) ?_
      exact H
    · replace H := H.2 h; clear h
      show yP (xg xs) (d + 1) 229 135 [(0, .ref 45), (1, .int l1), (2, .int l2), (3, .int l3), (4, .long l4)] [] m Q
      refine y_headS (l2 := [(0, .ref 45), (1, .int l1), (3, .int l3), (4, .long l4)]) [0, 1, 3, 4] [0, 1, 3, 4] [0, 1, 2, 3, 4] rfl rfl (by decide) rfl (by decide) ?_
      exact H
set_option maxRecDepth 20000 in
/-- CodeMaker.Measure.follow from 135 on -/
theorem w229_135 (xs : List Int32) (d : Nat) (l1 : Int32) (l3 : Int32) (l4 : Int64) (m : yM) (Q : Option Value → yM → Prop) (H : yP (xg xs) (d + 1) 229 140 [(0, .ref 45), (1, .int l1), (3, .int l3), (4, .long l4)] [.int (1 : Int32)] m Q) : yP (xg xs) (d + 1) 229 135 [(0, .ref 45), (1, .int l1), (3, .int l3), (4, .long l4)] [] m Q := by
  refine y_st rfl rfl rfl rfl rfl (fun _ _ => rfl) ?_
  refine y_st rfl rfl rfl rfl rfl (fun _ _ => rfl) ?_
  show yP (xg xs) (d + 1) 229 140 [(0, .ref 45), (1, .int l1), (3, .int l3), (4, .long l4)] [.int (1 : Int32)] m Q
  exact H
set_option maxRecDepth 20000 in
/-- CodeMaker.Measure.follow from 140 on -/
theorem w229_140 (xs : List Int32) (d : Nat) (l1 : Int32) (l3 : Int32) (l4 : Int64) (s0 : Int32) (m : yM) (Q : Option Value → yM → Prop) (H : ((s0 = 0 → yP (xg xs) (d + 1) 229 169 [] [.long l4, .int (l1 + (1 : Int32)), .ref 45] m Q) ∧ (¬ s0 = 0 → (x_in l3 16 = true ∧ yP (xg xs) (d + 1) 229 169 [] [.long (l4 + ((m.1 41 l3.toNatClampNeg).toInt64)), .int (l1 + (1 : Int32)), .ref 45] m Q)))) : yP (xg xs) (d + 1) 229 140 [(0, .ref 45), (1, .int l1), (3, .int l3), (4, .long l4)] [.int s0] m Q := by
  refine y_st rfl rfl rfl rfl rfl (fun _ _ => rfl) ?_
  refine y_st rfl rfl rfl rfl rfl (fun _ _ => rfl) ?_
  refine y_st rfl rfl rfl rfl rfl (fun _ _ => rfl) ?_
  refine y_st rfl rfl rfl rfl rfl (fun _ _ => rfl) ?_
  refine y_st rfl rfl rfl rfl rfl (fun _ _ => rfl) ?_
  refine y_st rfl rfl rfl rfl rfl (fun _ _ => rfl) ?_
  show yP (xg xs) (d + 1) 229 148 [(6, .int s0), (0, .ref 45), (1, .int l1), (3, .int l3), (4, .long l4)] [.int s0, .int (l1 + (1 : Int32)), .ref 45] m Q
  refine y_zeq (t := 167) rfl rfl rfl (fun h => ?_) (fun h => ?_)
  · replace H := H.1 h; clear h
    refine y_st rfl rfl rfl rfl rfl (fun _ _ => rfl) ?_
    show yP (xg xs) (d + 1) 229 169 [(6, .int s0), (0, .ref 45), (1, .int l1), (3, .int l3), (4, .long l4)] [.long l4, .int (l1 + (1 : Int32)), .ref 45] m Q
    refine y_headS (l2 := []) [] [] [6, 0, 1, 3, 4] rfl rfl (by decide) rfl (by decide) ?_
    exact H
  · replace H := H.2 h; clear h
    refine y_st rfl rfl rfl rfl rfl (fun _ _ => rfl) ?_
    refine y_st rfl rfl rfl rfl rfl (fun _ _ => rfl) ?_
    refine y_gf rfl rfl rfl rfl rfl ?_
    refine y_gf rfl rfl rfl rfl rfl ?_
    refine y_st rfl rfl rfl rfl rfl (fun _ _ => rfl) ?_
    show yP (xg xs) (d + 1) 229 161 [(6, .int s0), (0, .ref 45), (1, .int l1), (3, .int l3), (4, .long l4)] [.int l3, .ref 41, .long l4, .int (l1 + (1 : Int32)), .ref 45] m Q
    refine y_iald rfl rfl rfl (H.1) ?_
    replace H := H.2
    refine y_st rfl rfl rfl rfl rfl (fun _ _ => rfl) ?_
    refine y_st rfl rfl rfl rfl rfl (fun _ _ => rfl) ?_
    refine y_st rfl rfl rfl rfl rfl (fun _ _ => rfl) ?_
    show yP (xg xs) (d + 1) 229 169 [(6, .int s0), (0, .ref 45), (1, .int l1), (3, .int l3), (4, .long l4)] [.long (l4 + ((m.1 41 l3.toNatClampNeg).toInt64)), .int (l1 + (1 : Int32)), .ref 45] m Q
    refine y_headS (l2 := []) [] [] [6, 0, 1, 3, 4] rfl rfl (by decide) rfl (by decide) ?_
    exact H
set_option maxRecDepth 20000 in
/-- CodeMaker.Measure.follow from 169 on -/
theorem w229_169 (xs : List Int32) (d : Nat) (s1 : Int32) (s2 : Int64) (m : yM) (Q : Option Value → yM → Prop) (H : (yC (xg xs) d 224 [.ref 45, .int s1, .long s2] m (fun v1 m1 => v1 = none ∧ Q none m1))) : yP (xg xs) (d + 1) 229 169 [] [.long s2, .int s1, .ref 45] m Q := by
  show yP (xg xs) (d + 1) 229 169 [] [.long s2, .int s1, .ref 45] m Q
  refine y_call rfl rfl rfl rfl rfl (Nat.le_of_ble_eq_true rfl) (Nat.le_of_ble_eq_true rfl) rfl (by decide) H (fun v1 m1 H => ?_)
  obtain ⟨rfl, H⟩ := H
  show yP (xg xs) (d + 1) 229 172 [] [] m1 Q
  exact y_ret rfl rfl rfl rfl H
set_option maxRecDepth 20000 in
/-- CodeMaker.Scope.placeOf from 0 on -/
theorem w230_0 (xs : List Int32) (d : Nat) (l1 : Int32) (m : yM) (Q : Option Value → yM → Prop) (H : (x_in l1 512 = true ∧ (x_in (m.1 25 l1.toNatClampNeg) 16401 = true ∧ Q (some (.int (m.1 4 ((m.1 25 l1.toNatClampNeg).toNatClampNeg)))) m))) : yP (xg xs) (d + 1) 230 0 [(0, .ref 18), (1, .int l1)] [] m Q := by
  refine y_st rfl rfl rfl rfl rfl (fun _ _ => rfl) ?_
  refine y_gf rfl rfl rfl rfl rfl ?_
  refine y_gf rfl rfl rfl rfl rfl ?_
  refine y_st rfl rfl rfl rfl rfl (fun _ _ => rfl) ?_
  refine y_gf rfl rfl rfl rfl rfl ?_
  refine y_st rfl rfl rfl rfl rfl (fun _ _ => rfl) ?_
  show yP (xg xs) (d + 1) 230 12 [(0, .ref 18), (1, .int l1)] [.int l1, .ref 25, .ref 4] m Q
  refine y_iald rfl rfl rfl (H.1) ?_
  replace H := H.2
  show yP (xg xs) (d + 1) 230 13 [(0, .ref 18), (1, .int l1)] [.int (m.1 25 l1.toNatClampNeg), .ref 4] m Q
  refine y_iald rfl rfl rfl (H.1) ?_
  replace H := H.2
  show yP (xg xs) (d + 1) 230 14 [(0, .ref 18), (1, .int l1)] [.int (m.1 4 ((m.1 25 l1.toNatClampNeg).toNatClampNeg))] m Q
  exact y_iret rfl rfl rfl H
set_option maxRecDepth 20000 in
/-- CodeMaker.Machine.prepare from 0 on -/
theorem w231_0 (xs : List Int32) (d : Nat) (m : yM) (Q : Option Value → yM → Prop) (H : (yC (xg xs) d 21 [.ref 53, .int (0 : Int32)] (y_si (y_si m 52 1 (0 : Int32)) 52 2 (0 : Int32)) (fun v1 m1 => v1 = none ∧ yP (xg xs) (d + 1) 231 20 [(0, .ref 52), (1, .int (0 : Int32))] [] m1 Q))) : yP (xg xs) (d + 1) 231 0 [(0, .ref 52)] [] m Q := by
  refine y_st rfl rfl rfl rfl rfl (fun _ _ => rfl) ?_
  refine y_st rfl rfl rfl rfl rfl (fun _ _ => rfl) ?_
  refine y_pfi rfl rfl rfl rfl rfl (x_fit_i _) ?_
  show yP (xg xs) (d + 1) 231 5 [(0, .ref 52)] [] (y_si m 52 1 (0 : Int32)) Q
  refine y_st rfl rfl rfl rfl rfl (fun _ _ => rfl) ?_
  refine y_st rfl rfl rfl rfl rfl (fun _ _ => rfl) ?_
  refine y_pfi rfl rfl rfl rfl rfl (x_fit_i _) ?_
  show yP (xg xs) (d + 1) 231 10 [(0, .ref 52)] [] (y_si (y_si m 52 1 (0 : Int32)) 52 2 (0 : Int32)) Q
  refine y_st rfl rfl rfl rfl rfl (fun _ _ => rfl) ?_
  refine y_gf rfl rfl rfl rfl rfl ?_
  refine y_st rfl rfl rfl rfl rfl (fun _ _ => rfl) ?_
  show yP (xg xs) (d + 1) 231 15 [(0, .ref 52)] [.int (0 : Int32), .ref 53] (y_si (y_si m 52 1 (0 : Int32)) 52 2 (0 : Int32)) Q
  refine y_call rfl rfl rfl rfl rfl (Nat.le_of_ble_eq_true rfl) (Nat.le_of_ble_eq_true rfl) rfl (by decide) H (fun v1 m1 H => ?_)
  obtain ⟨rfl, H⟩ := H
  refine y_st rfl rfl rfl rfl rfl (fun _ _ => rfl) ?_
  refine y_st rfl rfl rfl rfl rfl (fun _ _ => rfl) ?_
  show yP (xg xs) (d + 1) 231 20 [(1, .int (0 : Int32)), (0, .ref 52)] [] m1 Q
  refine y_headS (l2 := [(0, .ref 52), (1, .int (0 : Int32))]) [1, 0] [0, 1] [1, 0] rfl rfl (by decide) rfl (by decide) ?_
  exact H
set_option maxRecDepth 20000 in
/-- CodeMaker.Machine.prepare from 20 on -/
theorem w231_20 (xs : List Int32) (d : Nat) (l1 : Int32) (m : yM) (Q : Option Value → yM → Prop) (H : (((m.1 18 9) ≤ l1 → Q none m) ∧ (¬ (m.1 18 9) ≤ l1 → (x_in l1 512 = true ∧ (((m.1 24 l1.toNatClampNeg) = (2 : Int32) → yP (xg xs) (d + 1) 231 59 [(0, .ref 52), (1, .int l1)] [] m Q) ∧ (¬ (m.1 24 l1.toNatClampNeg) = (2 : Int32) → (x_in l1 512 = true ∧ (yC (xg xs) d 232 [.ref 52, .int l1, .int (m.1 27 l1.toNatClampNeg), .int (0 : Int32)] m (fun v1 m1 => v1 = none ∧ yP (xg xs) (d + 1) 231 59 [(0, .ref 52), (1, .int l1)] [] m1 Q))))))))) : yP (xg xs) (d + 1) 231 20 [(0, .ref 52), (1, .int l1)] [] m Q := by
  refine y_st rfl rfl rfl rfl rfl (fun _ _ => rfl) ?_
  refine y_st rfl rfl rfl rfl rfl (fun _ _ => rfl) ?_
  refine y_gf rfl rfl rfl rfl rfl ?_
  refine y_gf rfl rfl rfl rfl rfl ?_
  show yP (xg xs) (d + 1) 231 28 [(0, .ref 52), (1, .int l1)] [.int (m.1 18 9), .int l1] m Q
  refine y_ige (t := 65) rfl rfl rfl (fun h => ?_) (fun h => ?_)
  · replace H := H.1 h; clear h
    show yP (xg xs) (d + 1) 231 65 [(0, .ref 52), (1, .int l1)] [] m Q
    exact y_ret rfl rfl rfl rfl H
  · replace H := H.2 h; clear h
    refine y_st rfl rfl rfl rfl rfl (fun _ _ => rfl) ?_
    refine y_gf rfl rfl rfl rfl rfl ?_
    refine y_gf rfl rfl rfl rfl rfl ?_
    refine y_st rfl rfl rfl rfl rfl (fun _ _ => rfl) ?_
    show yP (xg xs) (d + 1) 231 39 [(0, .ref 52), (1, .int l1)] [.int l1, .ref 24] m Q
    refine y_iald rfl rfl rfl (H.1) ?_
    replace H := H.2
    refine y_st rfl rfl rfl rfl rfl (fun _ _ => rfl) ?_
    show yP (xg xs) (d + 1) 231 41 [(0, .ref 52), (1, .int l1)] [.int (2 : Int32), .int (m.1 24 l1.toNatClampNeg)] m Q
    refine y_ieq (t := 59) rfl rfl rfl (fun h => ?_) (fun h => ?_)
    · replace H := H.1 h; clear h
      show yP (xg xs) (d + 1) 231 59 [(0, .ref 52), (1, .int l1)] [] m Q
      exact H
    · replace H := H.2 h; clear h
      refine y_st rfl rfl rfl rfl rfl (fun _ _ => rfl) ?_
      refine y_st rfl rfl rfl rfl rfl (fun _ _ => rfl) ?_
      refine y_st rfl rfl rfl rfl rfl (fun _ _ => rfl) ?_
      refine y_gf rfl rfl rfl rfl rfl ?_
      refine y_gf rfl rfl rfl rfl rfl ?_
      refine y_st rfl rfl rfl rfl rfl (fun _ _ => rfl) ?_
      show yP (xg xs) (d + 1) 231 54 [(0, .ref 52), (1, .int l1)] [.int l1, .ref 27, .int l1, .ref 52] m Q
      refine y_iald rfl rfl rfl (H.1) ?_
      replace H := H.2
      refine y_st rfl rfl rfl rfl rfl (fun _ _ => rfl) ?_
      show yP (xg xs) (d + 1) 231 56 [(0, .ref 52), (1, .int l1)] [.int (0 : Int32), .int (m.1 27 l1.toNatClampNeg), .int l1, .ref 52] m Q
      refine y_call rfl rfl rfl rfl rfl (Nat.le_of_ble_eq_true rfl) (Nat.le_of_ble_eq_true rfl) rfl (by decide) H (fun v1 m1 H => ?_)
      obtain ⟨rfl, H⟩ := H
      show yP (xg xs) (d + 1) 231 59 [(0, .ref 52), (1, .int l1)] [] m1 Q
      exact H
set_option maxRecDepth 20000 in
/-- CodeMaker.Machine.prepare from 59 on -/
theorem w231_59 (xs : List Int32) (d : Nat) (l1 : Int32) (m : yM) (Q : Option Value → yM → Prop) (H : yP (xg xs) (d + 1) 231 20 [(0, .ref 52), (1, .int (l1 + (1 : Int32)))] [] m Q) : yP (xg xs) (d + 1) 231 59 [(0, .ref 52), (1, .int l1)] [] m Q := by
  refine y_st rfl rfl rfl rfl rfl (fun _ _ => rfl) ?_
  refine y_st rfl rfl rfl rfl rfl (fun _ _ => rfl) ?_
  show yP (xg xs) (d + 1) 231 20 [(1, .int (l1 + (1 : Int32))), (0, .ref 52)] [] m Q
  refine y_headS (l2 := [(0, .ref 52), (1, .int (l1 + (1 : Int32)))]) [1, 0] [0, 1] [1, 0] rfl rfl (by decide) rfl (by decide) ?_
  exact H
set_option maxRecDepth 20000 in
/-- CodeMaker.Machine.prepareBlock from 0 on -/
theorem w232_0 (xs : List Int32) (d : Nat) (l1 : Int32) (l2 : Int32) (l3 : Int32) (m : yM) (Q : Option Value → yM → Prop) (H : (((16 : Int32) < l3 → Q none m) ∧ (¬ (16 : Int32) < l3 → (x_in l1 512 = true ∧ ((¬ (m.1 26 l1.toNatClampNeg) = 0 → (yC (xg xs) d 119 [.ref 18, .int l1] m (fun v1 m1 => ∃ u1, v1 = some (Value.int u1) ∧ yP (xg xs) (d + 1) 232 29 [(0, .ref 52), (1, .int l1), (2, .int l2), (3, .int l3), (4, .int u1)] [] m1 Q))) ∧ ((m.1 26 l1.toNatClampNeg) = 0 → Q none m)))))) : yP (xg xs) (d + 1) 232 0 [(0, .ref 52), (1, .int l1), (2, .int l2), (3, .int l3)] [] m Q := by
  refine y_st rfl rfl rfl rfl rfl (fun _ _ => rfl) ?_
  refine y_st rfl rfl rfl rfl rfl (fun _ _ => rfl) ?_
  show yP (xg xs) (d + 1) 232 3 [(0, .ref 52), (1, .int l1), (2, .int l2), (3, .int l3)] [.int (16 : Int32), .int l3] m Q
  refine y_igt (t := 18) rfl rfl rfl (fun h => ?_) (fun h => ?_)
  · replace H := H.1 h; clear h
    show yP (xg xs) (d + 1) 232 18 [(0, .ref 52), (1, .int l1), (2, .int l2), (3, .int l3)] [] m Q
    exact y_ret rfl rfl rfl rfl H
  · replace H := H.2 h; clear h
    refine y_st rfl rfl rfl rfl rfl (fun _ _ => rfl) ?_
    refine y_gf rfl rfl rfl rfl rfl ?_
    refine y_gf rfl rfl rfl rfl rfl ?_
    refine y_st rfl rfl rfl rfl rfl (fun _ _ => rfl) ?_
    show yP (xg xs) (d + 1) 232 14 [(0, .ref 52), (1, .int l1), (2, .int l2), (3, .int l3)] [.int l1, .ref 26] m Q
    refine y_iald rfl rfl rfl (H.1) ?_
    replace H := H.2
    show yP (xg xs) (d + 1) 232 15 [(0, .ref 52), (1, .int l1), (2, .int l2), (3, .int l3)] [.int (m.1 26 l1.toNatClampNeg)] m Q
    refine y_zne (t := 19) rfl rfl rfl (fun h => ?_) (fun h => ?_)
    · replace H := H.1 h; clear h
      refine y_st rfl rfl rfl rfl rfl (fun _ _ => rfl) ?_
      refine y_gf rfl rfl rfl rfl rfl ?_
      refine y_st rfl rfl rfl rfl rfl (fun _ _ => rfl) ?_
      show yP (xg xs) (d + 1) 232 24 [(0, .ref 52), (1, .int l1), (2, .int l2), (3, .int l3)] [.int l1, .ref 18] m Q
      refine y_call rfl rfl rfl rfl rfl (Nat.le_of_ble_eq_true rfl) (Nat.le_of_ble_eq_true rfl) rfl (by decide) H (fun v1 m1 H => ?_)
      obtain ⟨u1, rfl, H⟩ := H
      refine y_st rfl rfl rfl rfl rfl (fun _ _ => rfl) ?_
      show yP (xg xs) (d + 1) 232 29 [(4, .int u1), (0, .ref 52), (1, .int l1), (2, .int l2), (3, .int l3)] [] m1 Q
      refine y_headS (l2 := [(0, .ref 52), (1, .int l1), (2, .int l2), (3, .int l3), (4, .int u1)]) [1, 2, 3, 4, 0] [0, 1, 2, 3, 4] [4, 0, 1, 2, 3] rfl rfl (by decide) rfl (by decide) ?_
      exact H
    · replace H := H.2 h; clear h
      show yP (xg xs) (d + 1) 232 18 [(0, .ref 52), (1, .int l1), (2, .int l2), (3, .int l3)] [] m Q
      exact y_ret rfl rfl rfl rfl H
set_option maxRecDepth 20000 in
/-- CodeMaker.Machine.prepareBlock from 29 on -/
theorem w232_29 (xs : List Int32) (d : Nat) (l1 : Int32) (l2 : Int32) (l3 : Int32) (l4 : Int32) (m : yM) (Q : Option Value → yM → Prop) (H : (yC (xg xs) d 120 [.ref 18, .int l1] m (fun v1 m1 => ∃ u1, v1 = some (Value.int u1) ∧ ((u1 ≤ l4 → Q none m1) ∧ (¬ u1 ≤ l4 → (x_in l4 4097 = true ∧ (yC (xg xs) d 135 [.ref 18, .int l4] m1 (fun v2 m2 => ∃ u2, v2 = some (Value.int u2) ∧ ((u2 = (10 : Int32) → (yC (xg xs) d 153 [.ref 18, .int l4] m2 (fun v3 m3 => ∃ u3, v3 = some (Value.int u3) ∧ ((u3 < (9 : Int32) → yP (xg xs) (d + 1) 232 141 [(0, .ref 52), (1, .int l1), (2, .int l2), (3, .int l3), (4, .int l4)] [] m3 Q) ∧ (¬ u3 < (9 : Int32) → (yC (xg xs) d 153 [.ref 18, .int l4] m3 (fun v4 m4 => ∃ u4, v4 = some (Value.int u4) ∧ (yC (xg xs) d 232 [.ref 52, .int (u4 - (9 : Int32)), .int (l2 + (m1.1 20 l4.toNatClampNeg)), .int (l3 + (1 : Int32))] m4 (fun v5 m5 => v5 = none ∧ yP (xg xs) (d + 1) 232 141 [(0, .ref 52), (1, .int l1), (2, .int l2), (3, .int l3), (4, .int l4)] [] m5 Q))))))))) ∧ (¬ u2 = (10 : Int32) → (x_in l4 4097 = true ∧ (yC (xg xs) d 131 [.ref 18, .int (m2.1 21 l4.toNatClampNeg)] m2 (fun v6 m6 => ∃ u6, v6 = some (Value.int u6) ∧ (x_in l4 4097 = true ∧ (yC (xg xs) d 233 [.ref 52, .int (l2 + (m1.1 20 l4.toNatClampNeg)), .int u6, .int (m6.1 23 l4.toNatClampNeg)] m6 (fun v7 m7 => v7 = none ∧ yP (xg xs) (d + 1) 232 141 [(0, .ref 52), (1, .int l1), (2, .int l2), (3, .int l3), (4, .int l4)] [] m7 Q)))))))))))))))) : yP (xg xs) (d + 1) 232 29 [(0, .ref 52), (1, .int l1), (2, .int l2), (3, .int l3), (4, .int l4)] [] m Q := by
  refine y_st rfl rfl rfl rfl rfl (fun _ _ => rfl) ?_
  refine y_st rfl rfl rfl rfl rfl (fun _ _ => rfl) ?_
  refine y_gf rfl rfl rfl rfl rfl ?_
  refine y_st rfl rfl rfl rfl rfl (fun _ _ => rfl) ?_
  show yP (xg xs) (d + 1) 232 36 [(0, .ref 52), (1, .int l1), (2, .int l2), (3, .int l3), (4, .int l4)] [.int l1, .ref 18, .int l4] m Q
  refine y_call rfl rfl rfl rfl rfl (Nat.le_of_ble_eq_true rfl) (Nat.le_of_ble_eq_true rfl) rfl (by decide) H (fun v1 m1 H => ?_)
  obtain ⟨u1, rfl, H⟩ := H
  show yP (xg xs) (d + 1) 232 39 [(0, .ref 52), (1, .int l1), (2, .int l2), (3, .int l3), (4, .int l4)] [.int u1, .int l4] m1 Q
  refine y_ige (t := 147) rfl rfl rfl (fun h => ?_) (fun h => ?_)
  · replace H := H.1 h; clear h
    show yP (xg xs) (d + 1) 232 147 [(0, .ref 52), (1, .int l1), (2, .int l2), (3, .int l3), (4, .int l4)] [] m1 Q
    exact y_ret rfl rfl rfl rfl H
  · replace H := H.2 h; clear h
    refine y_st rfl rfl rfl rfl rfl (fun _ _ => rfl) ?_
    refine y_st rfl rfl rfl rfl rfl (fun _ _ => rfl) ?_
    refine y_gf rfl rfl rfl rfl rfl ?_
    refine y_gf rfl rfl rfl rfl rfl ?_
    refine y_st rfl rfl rfl rfl rfl (fun _ _ => rfl) ?_
    show yP (xg xs) (d + 1) 232 52 [(0, .ref 52), (1, .int l1), (2, .int l2), (3, .int l3), (4, .int l4)] [.int l4, .ref 20, .int l2] m1 Q
    refine y_iald rfl rfl rfl (H.1) ?_
    replace H := H.2
    refine y_st rfl rfl rfl rfl rfl (fun _ _ => rfl) ?_
    refine y_st rfl rfl rfl rfl rfl (fun _ _ => rfl) ?_
    refine y_st rfl rfl rfl rfl rfl (fun _ _ => rfl) ?_
    refine y_gf rfl rfl rfl rfl rfl ?_
    refine y_st rfl rfl rfl rfl rfl (fun _ _ => rfl) ?_
    show yP (xg xs) (d + 1) 232 62 [(5, .int (l2 + (m1.1 20 l4.toNatClampNeg))), (0, .ref 52), (1, .int l1), (2, .int l2), (3, .int l3), (4, .int l4)] [.int l4, .ref 18] m1 Q
    refine y_call rfl rfl rfl rfl rfl (Nat.le_of_ble_eq_true rfl) (Nat.le_of_ble_eq_true rfl) rfl (by decide) H (fun v2 m2 H => ?_)
    obtain ⟨u2, rfl, H⟩ := H
    refine y_st rfl rfl rfl rfl rfl (fun _ _ => rfl) ?_
    show yP (xg xs) (d + 1) 232 67 [(5, .int (l2 + (m1.1 20 l4.toNatClampNeg))), (0, .ref 52), (1, .int l1), (2, .int l2), (3, .int l3), (4, .int l4)] [.int (10 : Int32), .int u2] m2 Q
    refine y_ieq (t := 106) rfl rfl rfl (fun h => ?_) (fun h => ?_)
    · replace H := H.1 h; clear h
      refine y_st rfl rfl rfl rfl rfl (fun _ _ => rfl) ?_
      refine y_gf rfl rfl rfl rfl rfl ?_
      refine y_st rfl rfl rfl rfl rfl (fun _ _ => rfl) ?_
      show yP (xg xs) (d + 1) 232 112 [(5, .int (l2 + (m1.1 20 l4.toNatClampNeg))), (0, .ref 52), (1, .int l1), (2, .int l2), (3, .int l3), (4, .int l4)] [.int l4, .ref 18] m2 Q
      refine y_call rfl rfl rfl rfl rfl (Nat.le_of_ble_eq_true rfl) (Nat.le_of_ble_eq_true rfl) rfl (by decide) H (fun v3 m3 H => ?_)
      obtain ⟨u3, rfl, H⟩ := H
      refine y_st rfl rfl rfl rfl rfl (fun _ _ => rfl) ?_
      show yP (xg xs) (d + 1) 232 117 [(5, .int (l2 + (m1.1 20 l4.toNatClampNeg))), (0, .ref 52), (1, .int l1), (2, .int l2), (3, .int l3), (4, .int l4)] [.int (9 : Int32), .int u3] m3 Q
      refine y_ilt (t := 141) rfl rfl rfl (fun h => ?_) (fun h => ?_)
      · replace H := H.1 h; clear h
        show yP (xg xs) (d + 1) 232 141 [(5, .int (l2 + (m1.1 20 l4.toNatClampNeg))), (0, .ref 52), (1, .int l1), (2, .int l2), (3, .int l3), (4, .int l4)] [] m3 Q
        refine y_headS (l2 := [(0, .ref 52), (1, .int l1), (2, .int l2), (3, .int l3), (4, .int l4)]) [1, 2, 3, 4, 5] [0, 1, 2, 3, 4] [5, 0, 1, 2, 3, 4] rfl rfl (by decide) rfl (by decide) ?_
        exact H
      · replace H := H.2 h; clear h
        refine y_st rfl rfl rfl rfl rfl (fun _ _ => rfl) ?_
        refine y_st rfl rfl rfl rfl rfl (fun _ _ => rfl) ?_
        refine y_gf rfl rfl rfl rfl rfl ?_
        refine y_st rfl rfl rfl rfl rfl (fun _ _ => rfl) ?_
        show yP (xg xs) (d + 1) 232 127 [(5, .int (l2 + (m1.1 20 l4.toNatClampNeg))), (0, .ref 52), (1, .int l1), (2, .int l2), (3, .int l3), (4, .int l4)] [.int l4, .ref 18, .ref 52] m3 Q
        refine y_call rfl rfl rfl rfl rfl (Nat.le_of_ble_eq_true rfl) (Nat.le_of_ble_eq_true rfl) rfl (by decide) H (fun v4 m4 H => ?_)
        obtain ⟨u4, rfl, H⟩ := H
        refine y_st rfl rfl rfl rfl rfl (fun _ _ => rfl) ?_
        refine y_st rfl rfl rfl rfl rfl (fun _ _ => rfl) ?_
        refine y_st rfl rfl rfl rfl rfl (fun _ _ => rfl) ?_
        refine y_st rfl rfl rfl rfl rfl (fun _ _ => rfl) ?_
        refine y_st rfl rfl rfl rfl rfl (fun _ _ => rfl) ?_
        refine y_st rfl rfl rfl rfl rfl (fun _ _ => rfl) ?_
        show yP (xg xs) (d + 1) 232 138 [(5, .int (l2 + (m1.1 20 l4.toNatClampNeg))), (0, .ref 52), (1, .int l1), (2, .int l2), (3, .int l3), (4, .int l4)] [.int (l3 + (1 : Int32)), .int (l2 + (m1.1 20 l4.toNatClampNeg)), .int (u4 - (9 : Int32)), .ref 52] m4 Q
        refine y_call rfl rfl rfl rfl rfl (Nat.le_of_ble_eq_true rfl) (Nat.le_of_ble_eq_true rfl) rfl (by decide) H (fun v5 m5 H => ?_)
        obtain ⟨rfl, H⟩ := H
        show yP (xg xs) (d + 1) 232 141 [(5, .int (l2 + (m1.1 20 l4.toNatClampNeg))), (0, .ref 52), (1, .int l1), (2, .int l2), (3, .int l3), (4, .int l4)] [] m5 Q
        refine y_headS (l2 := [(0, .ref 52), (1, .int l1), (2, .int l2), (3, .int l3), (4, .int l4)]) [1, 2, 3, 4, 5] [0, 1, 2, 3, 4] [5, 0, 1, 2, 3, 4] rfl rfl (by decide) rfl (by decide) ?_
        exact H
    · replace H := H.2 h; clear h
      refine y_st rfl rfl rfl rfl rfl (fun _ _ => rfl) ?_
      refine y_st rfl rfl rfl rfl rfl (fun _ _ => rfl) ?_
      refine y_st rfl rfl rfl rfl rfl (fun _ _ => rfl) ?_
      refine y_gf rfl rfl rfl rfl rfl ?_
      refine y_st rfl rfl rfl rfl rfl (fun _ _ => rfl) ?_
      refine y_gf rfl rfl rfl rfl rfl ?_
      refine y_gf rfl rfl rfl rfl rfl ?_
      refine y_st rfl rfl rfl rfl rfl (fun _ _ => rfl) ?_
      show yP (xg xs) (d + 1) 232 86 [(5, .int (l2 + (m1.1 20 l4.toNatClampNeg))), (0, .ref 52), (1, .int l1), (2, .int l2), (3, .int l3), (4, .int l4)] [.int l4, .ref 21, .ref 18, .int (l2 + (m1.1 20 l4.toNatClampNeg)), .ref 52] m2 Q
      refine y_iald rfl rfl rfl (H.1) ?_
      replace H := H.2
      show yP (xg xs) (d + 1) 232 87 [(5, .int (l2 + (m1.1 20 l4.toNatClampNeg))), (0, .ref 52), (1, .int l1), (2, .int l2), (3, .int l3), (4, .int l4)] [.int (m2.1 21 l4.toNatClampNeg), .ref 18, .int (l2 + (m1.1 20 l4.toNatClampNeg)), .ref 52] m2 Q
      refine y_call rfl rfl rfl rfl rfl (Nat.le_of_ble_eq_true rfl) (Nat.le_of_ble_eq_true rfl) rfl (by decide) H (fun v6 m6 H => ?_)
      obtain ⟨u6, rfl, H⟩ := H
      refine y_st rfl rfl rfl rfl rfl (fun _ _ => rfl) ?_
      refine y_gf rfl rfl rfl rfl rfl ?_
      refine y_gf rfl rfl rfl rfl rfl ?_
      refine y_st rfl rfl rfl rfl rfl (fun _ _ => rfl) ?_
      show yP (xg xs) (d + 1) 232 99 [(5, .int (l2 + (m1.1 20 l4.toNatClampNeg))), (0, .ref 52), (1, .int l1), (2, .int l2), (3, .int l3), (4, .int l4)] [.int l4, .ref 23, .int u6, .int (l2 + (m1.1 20 l4.toNatClampNeg)), .ref 52] m6 Q
      refine y_iald rfl rfl rfl (H.1) ?_
      replace H := H.2
      show yP (xg xs) (d + 1) 232 100 [(5, .int (l2 + (m1.1 20 l4.toNatClampNeg))), (0, .ref 52), (1, .int l1), (2, .int l2), (3, .int l3), (4, .int l4)] [.int (m6.1 23 l4.toNatClampNeg), .int u6, .int (l2 + (m1.1 20 l4.toNatClampNeg)), .ref 52] m6 Q
      refine y_call rfl rfl rfl rfl rfl (Nat.le_of_ble_eq_true rfl) (Nat.le_of_ble_eq_true rfl) rfl (by decide) H (fun v7 m7 H => ?_)
      obtain ⟨rfl, H⟩ := H
      refine y_st rfl rfl rfl rfl rfl (fun _ _ => rfl) ?_
      show yP (xg xs) (d + 1) 232 141 [(5, .int (l2 + (m1.1 20 l4.toNatClampNeg))), (0, .ref 52), (1, .int l1), (2, .int l2), (3, .int l3), (4, .int l4)] [] m7 Q
      refine y_headS (l2 := [(0, .ref 52), (1, .int l1), (2, .int l2), (3, .int l3), (4, .int l4)]) [1, 2, 3, 4, 5] [0, 1, 2, 3, 4] [5, 0, 1, 2, 3, 4] rfl rfl (by decide) rfl (by decide) ?_
      exact H
set_option maxRecDepth 20000 in
/-- CodeMaker.Machine.prepareBlock from 141 on -/
theorem w232_141 (xs : List Int32) (d : Nat) (l1 : Int32) (l2 : Int32) (l3 : Int32) (l4 : Int32) (m : yM) (Q : Option Value → yM → Prop) (H : yP (xg xs) (d + 1) 232 29 [(0, .ref 52), (1, .int l1), (2, .int l2), (3, .int l3), (4, .int (l4 + (1 : Int32)))] [] m Q) : yP (xg xs) (d + 1) 232 141 [(0, .ref 52), (1, .int l1), (2, .int l2), (3, .int l3), (4, .int l4)] [] m Q := by
  refine y_st rfl rfl rfl rfl rfl (fun _ _ => rfl) ?_
  refine y_st rfl rfl rfl rfl rfl (fun _ _ => rfl) ?_
  show yP (xg xs) (d + 1) 232 29 [(4, .int (l4 + (1 : Int32))), (0, .ref 52), (1, .int l1), (2, .int l2), (3, .int l3)] [] m Q
  refine y_headS (l2 := [(0, .ref 52), (1, .int l1), (2, .int l2), (3, .int l3), (4, .int (l4 + (1 : Int32)))]) [1, 2, 3, 4, 0] [0, 1, 2, 3, 4] [4, 0, 1, 2, 3] rfl rfl (by decide) rfl (by decide) ?_
  exact H
set_option maxRecDepth 20000 in
/-- CodeMaker.Machine.fill from 0 on -/
theorem w233_0 (xs : List Int32) (d : Nat) (l1 : Int32) (l2 : Int32) (l3 : Int32) (m : yM) (Q : Option Value → yM → Prop) (H : yP (xg xs) (d + 1) 233 3 [(0, .ref 52), (1, .int l1), (2, .int l2), (3, .int l3), (4, .int (0 : Int32))] [] m Q) : yP (xg xs) (d + 1) 233 0 [(0, .ref 52), (1, .int l1), (2, .int l2), (3, .int l3)] [] m Q := by
  refine y_st rfl rfl rfl rfl rfl (fun _ _ => rfl) ?_
  refine y_st rfl rfl rfl rfl rfl (fun _ _ => rfl) ?_
  show yP (xg xs) (d + 1) 233 3 [(4, .int (0 : Int32)), (0, .ref 52), (1, .int l1), (2, .int l2), (3, .int l3)] [] m Q
  refine y_headS (l2 := [(0, .ref 52), (1, .int l1), (2, .int l2), (3, .int l3), (4, .int (0 : Int32))]) [1, 2, 3, 4, 0] [0, 1, 2, 3, 4] [4, 0, 1, 2, 3] rfl rfl (by decide) rfl (by decide) ?_
  exact H
set_option maxRecDepth 20000 in
/-- CodeMaker.Machine.fill from 3 on -/
theorem w233_3 (xs : List Int32) (d : Nat) (l1 : Int32) (l2 : Int32) (l3 : Int32) (l4 : Int32) (m : yM) (Q : Option Value → yM → Prop) (H : ((l2 ≤ l4 → Q none m) ∧ (¬ l2 ≤ l4 → (yC (xg xs) d 234 [.ref 52, .int (l1 + l4), .int l3] m (fun v1 m1 => v1 = none ∧ yP (xg xs) (d + 1) 233 3 [(0, .ref 52), (1, .int l1), (2, .int l2), (3, .int l3), (4, .int (l4 + (1 : Int32)))] [] m1 Q))))) : yP (xg xs) (d + 1) 233 3 [(0, .ref 52), (1, .int l1), (2, .int l2), (3, .int l3), (4, .int l4)] [] m Q := by
  refine y_st rfl rfl rfl rfl rfl (fun _ _ => rfl) ?_
  refine y_st rfl rfl rfl rfl rfl (fun _ _ => rfl) ?_
  show yP (xg xs) (d + 1) 233 6 [(0, .ref 52), (1, .int l1), (2, .int l2), (3, .int l3), (4, .int l4)] [.int l2, .int l4] m Q
  refine y_ige (t := 24) rfl rfl rfl (fun h => ?_) (fun h => ?_)
  · replace H := H.1 h; clear h
    show yP (xg xs) (d + 1) 233 24 [(0, .ref 52), (1, .int l1), (2, .int l2), (3, .int l3), (4, .int l4)] [] m Q
    exact y_ret rfl rfl rfl rfl H
  · replace H := H.2 h; clear h
    refine y_st rfl rfl rfl rfl rfl (fun _ _ => rfl) ?_
    refine y_st rfl rfl rfl rfl rfl (fun _ _ => rfl) ?_
    refine y_st rfl rfl rfl rfl rfl (fun _ _ => rfl) ?_
    refine y_st rfl rfl rfl rfl rfl (fun _ _ => rfl) ?_
    refine y_st rfl rfl rfl rfl rfl (fun _ _ => rfl) ?_
    show yP (xg xs) (d + 1) 233 15 [(0, .ref 52), (1, .int l1), (2, .int l2), (3, .int l3), (4, .int l4)] [.int l3, .int (l1 + l4), .ref 52] m Q
    refine y_call rfl rfl rfl rfl rfl (Nat.le_of_ble_eq_true rfl) (Nat.le_of_ble_eq_true rfl) rfl (by decide) H (fun v1 m1 H => ?_)
    obtain ⟨rfl, H⟩ := H
    refine y_st rfl rfl rfl rfl rfl (fun _ _ => rfl) ?_
    refine y_st rfl rfl rfl rfl rfl (fun _ _ => rfl) ?_
    show yP (xg xs) (d + 1) 233 3 [(4, .int (l4 + (1 : Int32))), (0, .ref 52), (1, .int l1), (2, .int l2), (3, .int l3)] [] m1 Q
    refine y_headS (l2 := [(0, .ref 52), (1, .int l1), (2, .int l2), (3, .int l3), (4, .int (l4 + (1 : Int32)))]) [1, 2, 3, 4, 0] [0, 1, 2, 3, 4] [4, 0, 1, 2, 3] rfl rfl (by decide) rfl (by decide) ?_
    exact H
